/-! pure part 46: steering; what the reference's sends leaves alone -/
theorem steer_o {r : Nat → Int32} {j : Nat} (h1 : j ≠ 43) (h2 : j ≠ 50) : M_steer r j = r j := by
  unfold M_steer
  rw [pk_un h2]
  by_cases q : r 15 = 1
  · rw [if_pos q, pk_un h1]
  · rw [if_neg q]
theorem steer_50 {r : Nat → Int32} : M_steer r 50 = 0 := by unfold M_steer; rw [pk_us]
theorem steer_43 {r : Nat → Int32} : M_steer r 43 = if r 15 = 1 then stV r else r 43 := by
  unfold M_steer
  rw [pk_un (by omega)]
  by_cases q : r 15 = 1
  · rw [if_pos q, if_pos q, pk_us]
  · rw [if_neg q, if_neg q]
theorem stV_n {r : Nat → Int32} {v P ms : Nat} (e43 : r 43 = nI v) (hv : v ≤ 128) (e7 : r 7 = nI P) (hP : 2 ≤ P) (hP2 : P ≤ 128) (e50 : r 50 = nI ms) (hms : ms < 100000) : stV r = nI (if ms = 0 then min (v + 2) P else max 2 (3 * v / 4)) := by
  unfold stV
  rw [e43, e7, e50, rA, lM, rD (by omega) (by omega) (by omega)]
  by_cases q : ms = 0
  · rw [if_pos q, if_pos (show nI ms ≤ 0 from (nI_leI (b := 0) (by omega) (by omega)).mpr (by omega))]
    exact near_lo (lo := 2) (by omega) (by omega) (by omega)
  · rw [if_neg q, if_neg (show ¬ nI ms ≤ 0 from fun y => by have := (nI_leI (b := 0) (by omega) (by omega)).mp y; omega)]
    exact near_hi (lo := 2) (hi := 128) (by omega) (by omega) (by omega)
set_option maxHeartbeats 800000 in
set_option maxRecDepth 100000 in
theorem t2_steer {t cd nx ln hd bl hb fr v P k : Nat} {nb rec dly : Nat → Int32} {pnum psent pover ppb : Nat → Int32} {wb : Nat → Nat → Int32} {wsz : Nat → Int32} {cb : Nat → Nat → Int32} {csz : Nat → Int32} {bnum : Nat → Int32} {bcb : Nat → Nat → Int32} {bcsz : Nat → Int32} {r : Nat → Int32} {post : (Nat → Int32) → Prop}
    (h : rAft t cd nx ln ln hd bl hb 0 fr nb rec dly pnum psent pover ppb wb wsz cb csz bnum bcb bcsz r) (e43 : r 43 = nI v) (hv : v ≤ 128) (e7 : r 7 = nI P) (hP : 2 ≤ P) (hP2 : P ≤ 128) (e26 : r 26 = nI (k + 1)) (hk : k < 2500)
    (hp : ∀ nb' : Nat → Int32, rAft t cd nx ln ln hd bl hb 0 fr nb' rec dly pnum psent pover ppb wb wsz cb csz bnum bcb bcsz (if k % 8 = 7 then M_steer r else r) → post nb') : wp_X2_steer nb post := by
  obtain ⟨a1, ⟨ms, f1, f2, f3⟩, a3, ⟨a4, a5⟩, a6, a7, a8, a9, a10⟩ := id h
  have n1 : nb 1 = nI (k + 1) := (a1 1 (by omega) (by omega) (by omega) (by omega)).trans e26
  have n21 : nb 21 = nI P := (a1 21 (by omega) (by omega) (by omega) (by omega)).trans e7
  have n31 : nb 31 = nI v := (a1 31 (by omega) (by omega) (by omega) (by omega)).trans e43
  have n29 : nb 29 = r 15 := a1 29 (by omega) (by omega) (by omega) (by omega)
  have hcd := a4.2.2.2.1
  have hl5 := a4.2.1
  unfold wp_X2_steer
  rw [n1, n21, n31, n29]
  simp (disch := omega) only [rR, forall_eq]
  refine ⟨fun q => ?_, fun q => ?_⟩
  · have q8 : (k + 1) % 8 = 0 := (nI_eq (b := 0) (by omega) (by omega)).mp q
    rw [if_pos (show k % 8 = 7 by omega)] at hp
    intro k6 hk6
    have go : ∀ nb1 : Nat → Int32, (∀ j, j ≠ 31 → nb1 j = nb j) → nb1 31 = (if r 15 = 1 then stV r else r 43) → k6 nb1 := by
      intro nb1 b1 b2
      refine hk6 _ ?_
      refine hp _ ⟨fun j hj h6 h38 h39 => ?_, ⟨0, by omega, by rw [steer_50]; rfl, by rw [pk_us, if_pos rfl]⟩, rBook_f a3 (fun j b c => steer_o (by omega) (by omega)), ⟨lnN_f a4 (steer_o (by omega) (by omega)) (fun i hi => steer_o (by omega) (by omega)), a5⟩, fun i b c => rLn_f (a6 i b c) (fun x hx => steer_o (by omega) (by omega)) (steer_o (by omega) (by omega)), fun n hn => by rw [steer_o (by omega) (by omega)]; exact a7 n hn, rBuf_f a8 (fun j b c => steer_o (by omega) (by omega)) (steer_o (by omega) (by omega)) (Nat.le_refl _), by rw [pk_un (by omega), b1 _ (by omega)]; exact a9, by rw [steer_o (by omega) (by omega)]; exact a10⟩
      rw [pk_un h38]
      by_cases q31 : j = 31
      · subst q31
        rw [b2, show hm 31 = 43 by decide, steer_43]
      · have n43 : hm j ≠ 43 := fun y => q31 (hm_inj j hj 31 (by omega) (by rw [y]; decide))
        rw [b1 j q31, steer_o n43 (hm_50 j hj)]; exact a1 j hj h6 h38 h39
    have sv := stV_n e43 hv e7 hP hP2 f2 (by omega)
    refine ⟨fun q15 => ?_, fun q15 => go nb (fun j _ => rfl) ?_⟩
    · intro k15 hk15
      have go2 : ∀ x : Int32, x = stV r → k6 (upd nb 31 x) := fun x hx => go _ (fun j hj => pk_un hj) (by rw [pk_us, if_pos q15, hx])
      rw [f3]
      by_cases m0 : ms = 0
      · rw [if_pos m0] at sv ⊢
        refine ⟨fun y => absurd y (by decide), fun _ => hk15 0 (fun k18 hk18 => ⟨fun _ => ?_, fun y => absurd rfl y⟩)⟩
        refine hk18 _ ?_
        refine go2 _ ?_
        rw [sv, rA, jmin_n (by omega) (by omega), Nat.min_comm]
      · rw [if_neg m0] at sv ⊢
        refine ⟨fun _ => hk15 1 (fun k18 hk18 => ⟨fun y => absurd y (by decide), fun _ => ?_⟩), fun y => absurd rfl y⟩
        refine hk18 _ ?_
        refine go2 _ ?_
        rw [sv, rM, rD (by omega) (by omega) (by omega), Nat.mul_comm]
        exact jmax_n (a := 2) (by omega) (by omega)
    · rw [if_neg q15, n31, e43]
  · have q8 : ¬ (k + 1) % 8 = 0 := fun y => q (by rw [y]; rfl)
    rw [if_neg (show ¬ k % 8 = 7 by omega)] at hp
    exact hp nb h
/-! what the sender's slot leaves alone in the reference's row -/
abbrev sndU (j : Nat) : Prop := j < 27 ∨ (30 ≤ j ∧ j < 44) ∨ (52 ≤ j ∧ j < 735) ∨ (3257 ≤ j ∧ j < 3369)
theorem give_o {k : Nat} {r : Nat → Int32} {j : Nat} (h1 : j ≠ 29) (h2 : j ≠ 3385 + 4 * k) : M_give k r j = r j := by
  unfold M_give; rw [pk_un h1, pk_un h2]
theorem stA_o {S k : Nat} {z : Int32} {by_ r : Nat → Int32} {j : Nat} (hS : S < 14) (h : j < 2095 ∨ 3257 ≤ j) : M_stA S k z by_ r j = r j := by
  unfold M_stA; rw [if_neg (by omega), if_neg (by omega), if_neg (by omega)]
theorem looks_o {ln k t nx : Nat} {r : Nat → Int32} {j : Nat} (e51 : r 51 = nI ln) (hl : ln ≤ 5) (ek : r 735 = nI k) (hk : k < 2500) (et : r 25 = nI t) (ht : t < 10000) (hkt : 4 * k ≤ t) (ex : r 30 = nI nx) (hlev : lev r ≤ 12) (hj : sndU j ∨ j = 49 ∨ j = 45 ∨ j = 48) : M_looks r j = r j := by
  have tk : tN (r 735) = k := by rw [ek]; exact nI_clamp (by omega)
  have arrO : ∀ j, j ≠ 3385 + 4 * k → j ≠ 3385 + 4 * k + 3 → j ≠ 28 → (j < 3369 ∨ 3385 ≤ j) → M_arr k r j = r j := fun j h1 h2 h3 h4 => arr_o h1 h2 h3 h4
  unfold M_looks
  rw [tk]
  by_cases c1 : okC r
  · rw [if_pos c1]
    by_cases c2 : tN (r 30) ≤ k
    · rw [if_pos c2]
      by_cases c3 : lev r = 12
      · rw [if_pos c3, drop_o (ln := ln) (by rw [give_o (by omega) (by omega)]; exact e51) (by omega) (by omega) (by omega), give_o (by omega) (by omega)]
      · have hl2 : lev (M_arr k r) < 14 := by
          rw [lev_c (fun j a b => arrO j (by omega) (by omega) (by omega) (by omega)) (arrO 30 (by omega) (by omega) (by omega) (by omega))]; omega
        obtain ⟨S, hS, hS14, _⟩ := stS_sp hl2
        rw [if_neg c3]
        unfold M_store
        rw [hS, drop_o (ln := ln) (by rw [stA_o hS14 (by omega), arrO _ (by omega) (by omega) (by omega) (by omega)]; exact e51) (by omega) (by omega) (by omega), stA_o hS14 (by omega), arrO _ (by omega) (by omega) (by omega) (by omega)]
    · rw [if_neg c2, drop_o (ln := ln) (by rw [arrO _ (by omega) (by omega) (by omega) (by omega)]; exact e51) (by omega) (by omega) (by omega), arrO _ (by omega) (by omega) (by omega) (by omega)]
  · rw [if_neg c1]
    unfold M_brk
    rw [if_neg (by omega), if_neg (by omega), if_neg (by omega)]
theorem draw_o {r : Nat → Int32} {j : Nat} (h : j ≠ 49) : M_draw r j = r j := by unfold M_draw; rw [pk_un h]
theorem draw_49 {r : Nat → Int32} : ∃ s, s < 1000003 ∧ M_draw r 49 = nI s := ⟨_, drS_lt _, by unfold M_draw; rw [pk_us]⟩
theorem dam_49 {fr mn s : Nat} {r : Nat → Int32} (hm : 0 < mn) (hf : fr + mn ≤ 80) (e : r 49 = nI s) (hs : s < 1000003) : ∃ s, s < 1000003 ∧ M_dam fr mn r 49 = nI s := by
  unfold M_dam
  by_cases q : r 16 = 0
  · rw [if_pos q]; exact ⟨s, hs, e⟩
  · rw [if_neg q]
    by_cases q2 : nI (drV r % 1000) < r 16
    · rw [if_pos q2]
      unfold M_dam2
      have hd : ∀ x : Nat, x % (8 * mn) / 8 < mn := fun x => by
        have := Nat.mod_lt x (show 0 < 8 * mn by omega)
        omega
      have hA : (49 : Nat) ≠ dmA fr mn (upd (M_draw r) 45 (r 45 + 1)) := by unfold dmA; omega
      rw [pk_un hA]; exact draw_49
    · rw [if_neg q2]; exact draw_49
set_option maxHeartbeats 800000 in
set_option maxRecDepth 100000 in
theorem send_o {ln k z pb ov t nx s : Nat} {r : Nat → Int32} (e51 : r 51 = nI ln) (hl : ln ≤ 5) (hk : 0 < ln → k < 2500 ∧ r 735 = nI k ∧ r 736 = nI z ∧ 13 ≤ z ∧ z ≤ 77 ∧ r 737 = nI pb ∧ 10 ≤ pb ∧ pb ≤ 80 ∧ r 738 = nI ov ∧ ov * pb < z ∧ 4 * k ≤ t) (et : r 25 = nI t) (ht : t < 10000) (ex : r 30 = nI nx) (es : r 49 = nI s) (hs : s < 1000003) (hlev : lev r ≤ 12) : (∀ j, sndU j → M_send r j = r j) ∧ ∃ s', s' < 1000003 ∧ M_send r 49 = nI s' := by
  unfold M_send
  by_cases h0 : ln = 0
  · rw [if_pos (by rw [e51, h0]; rfl)]
    exact ⟨fun j hj => by rw [pk_un (by omega)], s, hs, by rw [pk_un (by omega)]; exact es⟩
  · obtain ⟨hk1, ek, ez, hz1, hz2, ep, hp1, hp2, eo, ho, hkt⟩ := hk (by omega)
    rw [if_neg (show ¬ r 51 = 0 by rw [e51]; exact nI_ne0 (by omega) (by omega))]
    have s1 : ∀ j, j ≠ 27 → j ≠ 3385 + 4 * k + 1 → M_s1 r j = r j := fun j h1 h2 => s1_o ek hk1 h1 h2
    by_cases c1 : r 48 ≤ 0
    · rw [if_pos c1]
      by_cases c2 : r 11 ≤ nI (drV r % 100)
      · rw [if_pos c2]
        have z1 : M_s1 r 736 = nI z := by rw [s1 _ (by omega) (by omega)]; exact ez
        have p1 : M_s1 r 737 = nI pb := by rw [s1 _ (by omega) (by omega)]; exact ep
        have o1 : M_s1 r 738 = nI ov := by rw [s1 _ (by omega) (by omega)]; exact eo
        have s2 : ∀ j, j ≠ 49 → j ≠ 45 → (j < 819 ∨ 899 ≤ j) → j ≠ 738 → j ≠ 44 → j ≠ 27 → j ≠ 3385 + 4 * k + 1 → M_s2 (M_s1 r) j = r j := fun j h1 h2 h3 h4 h5 h6 h7 => by
          rw [s2_o z1 p1 o1 hz2 (by omega) hp2 ho h1 h2 h3 h4 h5, s1 j h6 h7]
        have s49 : ∃ s', s' < 1000003 ∧ M_s2 (M_s1 r) 49 = nI s' := by
          unfold M_s2
          have hov : ov ≤ ov * pb := Nat.le_mul_of_pos_right _ (by omega)
          have ko : tN (nI ov) = ov := nI_clamp (by omega)
          have kp : tN (nI pb) = pb := nI_clamp (by omega)
          have kz : tN (nI z) = z := nI_clamp (by omega)
          rw [pk_un (by omega), o1, p1, z1, ko, kp, kz]
          obtain ⟨q, hq, eq⟩ := draw_49 (r := M_s1 r)
          exact dam_49 (s := q) (by omega) (by omega) (by rw [pk_un (by omega)]; exact eq) hq
        by_cases c3 : tN (r 738) + 1 = (tN (r 736) + tN (r 737) - 1) / tN (r 737)
        · rw [if_pos c3]
          have L : ∀ j, (sndU j ∨ j = 49 ∨ j = 45 ∨ j = 48) → M_looks (M_s2 (M_s1 r)) j = M_s2 (M_s1 r) j := fun j hj => looks_o (ln := ln) (k := k) (t := t) (nx := nx) (by rw [s2 _ (by omega) (by omega) (by omega) (by omega) (by omega) (by omega) (by omega)]; exact e51) hl (by rw [s2 _ (by omega) (by omega) (by omega) (by omega) (by omega) (by omega) (by omega)]; exact ek) hk1 (by rw [s2 _ (by omega) (by omega) (by omega) (by omega) (by omega) (by omega) (by omega)]; exact et) ht hkt (by rw [s2 _ (by omega) (by omega) (by omega) (by omega) (by omega) (by omega) (by omega)]; exact ex) (by rw [lev_c (fun j a b => s2 j (by omega) (by omega) (by omega) (by omega) (by omega) (by omega) (by omega)) (s2 30 (by omega) (by omega) (by omega) (by omega) (by omega) (by omega) (by omega))]; exact hlev) hj
          refine ⟨fun j hj => by rw [L j (Or.inl hj), s2 j (by omega) (by omega) (by omega) (by omega) (by omega) (by omega) (by omega)], ?_⟩
          rw [L 49 (by omega)]; exact s49
        · rw [if_neg c3]
          exact ⟨fun j hj => s2 j (by omega) (by omega) (by omega) (by omega) (by omega) (by omega) (by omega), s49⟩
      · rw [if_neg c2]
        exact ⟨fun j hj => by rw [draw_o (by omega), s1 j (by omega) (by omega)], draw_49⟩
    · rw [if_neg c1]
      exact ⟨fun j hj => by rw [pk_un (by omega), s1 j (by omega) (by omega)], s, hs, by rw [pk_un (by omega), s1 _ (by omega) (by omega)]; exact es⟩
