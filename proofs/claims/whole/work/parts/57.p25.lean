/-! pure part 25: what arrives is laid by; the end of a packet, in the class -/
theorem rAft_store {t cd nx ln lb hd bl hb lo fr k z : Nat} {nb rec dly F bv : Nat → Int32} {pnum psent pover ppb : Nat → Int32} {wb : Nat → Nat → Int32} {wsz : Nat → Int32} {cb : Nat → Nat → Int32} {csz : Nat → Int32} {bnum : Nat → Int32} {bcb : Nat → Nat → Int32} {bcsz : Nat → Int32} {row : Nat → Int32} (h : rAft t cd nx ln lb hd bl hb lo fr nb rec dly pnum psent pover ppb wb wsz cb csz bnum bcb bcsz row) (hfr : fr ≤ k) (hk : k < 2500) (hnx : nx ≤ k) (hbl : bl < 12) (hz1 : 13 ≤ z) (hz2 : z ≤ 77) (hF : ∀ j, j < 80 → F j = bv j) (hFb : isBy F 80) : rAft t cd nx ln lb hd (bl + 1) hb lo (k + 1) (upd nb 6 (nI (bl + 1))) rec dly pnum psent pover ppb wb wsz cb csz (va_up bnum ((hb + bl) % 12) (nI k)) (va_up bcb ((hb + bl) % 12) F) (va_up bcsz ((hb + bl) % 12) (nI z)) (M_store k (nI z) bv row) := by
  obtain ⟨a1, ⟨ms, f1, f2, f3⟩, a3, ⟨a4, a5⟩, a6, a7, a8, a9, a10⟩ := h
  obtain ⟨h1, h2, h3, h4, h5, bn, h6, h7, h8⟩ := a8
  obtain ⟨S, hS, hS14, hSd, _⟩ := stS_sp (r := row) (by omega)
  have hl5 := a4.2.1
  unfold M_store
  rw [hS]
  have o : ∀ j, (j < 2095 + 83 * S ∨ 2095 + 83 * S + 82 ≤ j) → M_stA S k (nI z) bv row j = row j := fun j hj => by unfold M_stA; rw [if_neg (by omega), if_neg (by omega), if_neg (by omega)]
  have eS : M_stA S k (nI z) bv row (2095 + 83 * S) = nI (k + 1) := by unfold M_stA; rw [if_pos rfl]
  have eS1 : M_stA S k (nI z) bv row (2095 + 83 * S + 1) = nI z := by unfold M_stA; rw [if_neg (by omega), if_pos rfl]
  have eS2 : ∀ j, j < 80 → M_stA S k (nI z) bv row (2095 + 83 * S + 2 + j) = bv j := fun j hj => by unfold M_stA; rw [if_neg (by omega), if_neg (by omega), if_pos (by omega), show 2095 + 83 * S + 2 + j - (2095 + 83 * S + 2) = j by omega]
  have oth : ∀ s, s ≠ S → M_stA S k (nI z) bv row (2095 + 83 * s) = row (2095 + 83 * s) := fun s hs => o _ (by omega)
  have e30 : M_stA S k (nI z) bv row 30 = row 30 := o _ (by omega)
  have live : ¬ nI (k + 1) ≤ row 30 := by rw [a10]; exact nI_ge (by omega) (by omega)
  have nok : ∀ s, s < 14 → row (2095 + 83 * s) ≠ nI (k + 1) := fun s hs q => by
    obtain ⟨i, hi, e⟩ := h8 s hs (by rw [q]; exact live)
    obtain ⟨_, _, b3, _⟩ := h6 i hi
    have := (nI_eq (a := k + 1) (b := bn i + 1) (by omega) (by omega)).mp (q.symm.trans e)
    omega
  refine ⟨rNum_f a1 (fun j hj => o j (by omega)) (fun j _ q _ => pk_un q), ⟨ms, f1, by rw [o _ (by omega)]; exact f2, by rw [pk_un (by omega)]; exact f3⟩, rBook_f a3 (fun j b c => o j (by omega)), ⟨lnN_f a4 (o _ (by omega)) (fun i hi => o _ (by omega)), a5⟩, fun i b c => rLn_f (a6 i b c) (fun x hx => o _ (by omega)) (o _ (by omega)), fun n hn => by rw [o _ (by omega)]; exact a7 n hn, ?_, pk_us, by rw [e30]; exact a10⟩
  refine ⟨by omega, h2, ?_, fun s hs => ?_, fun s s' hs hs' hlive heq => ?_, fun i => if i = bl then k else bn i, fun i hi => ?_, fun i j hij hj => ?_, fun s hs hlive => ?_⟩
  · have hu := fb_ct_upd (fun s => decide (¬ row (2095 + 83 * s) ≤ row 30)) true hS14
    have hp : (decide (¬ row (2095 + 83 * S) ≤ row 30)) = false := decide_eq_false (fun q => q hSd)
    have hc : fb_ct (fun s => decide (¬ M_stA S k (nI z) bv row (2095 + 83 * s) ≤ M_stA S k (nI z) bv row 30)) 14 = fb_ct (fun s => if s = S then true else decide (¬ row (2095 + 83 * s) ≤ row 30)) 14 := fb_ct_cong (fun s hs => by
      by_cases q : s = S
      · rw [if_pos q, q, eS, e30]; exact decide_eq_true live
      · rw [if_neg q, oth s q, e30])
    unfold lev at h3 ⊢
    rw [hc]
    simp only [hp] at hu
    rw [h3] at hu
    simpa using hu
  · by_cases q : s = S
    · rw [q]; exact ⟨k + 1, by omega, eS⟩
    · rw [oth s q]; exact h4 s hs
  · rw [e30] at hlive
    by_cases q : s = S
    · rw [q, eS] at heq
      by_cases q2 : s' = S
      · rw [q, q2]
      · rw [oth s' q2] at heq
        exact absurd heq (nok s' hs')
    · rw [oth s q] at hlive heq
      by_cases q2 : s' = S
      · rw [q2, eS] at heq
        exact absurd heq.symm (nok s hs)
      · rw [oth s' q2] at heq
        exact h5 s s' hs hs' hlive heq
  · dsimp only
    by_cases q : i = bl
    · rw [q, if_pos rfl]
      refine ⟨vu_s, hnx, by omega, S, hS14, eS, z, hz1, hz2, eS1, vu_s, fun j hj => ?_, by rw [vu_s]; exact hFb⟩
      rw [eS2 j hj, vu_s]; exact (hF j hj).symm
    · rw [if_neg q]
      obtain ⟨b1, b2, b3, s, hs, d1, z', d2, d3, d4, d5, d6, d7⟩ := h6 i (by omega)
      have hne := ring_ne (hd := hb) (i := i) (j := bl) (n := 12) (by omega) (by omega) q
      have hsS : s ≠ S := fun y => by
        rw [y] at d1
        rw [d1] at hSd
        rw [a10] at hSd
        have := (nI_leI (by omega) (by omega)).mp hSd
        omega
      refine ⟨by rw [vu_n hne]; exact b1, b2, by omega, s, hs, by rw [oth s hsS]; exact d1, z', d2, d3, by rw [o _ (by omega)]; exact d4, by rw [vu_n hne]; exact d5, fun j hj => ?_, by rw [vu_n hne]; exact d7⟩
      rw [o _ (by omega), vu_n hne]; exact d6 j hj
  · have hi2 : i ≠ bl := by omega
    dsimp only
    rw [if_neg hi2]
    by_cases q : j = bl
    · rw [if_pos q]
      obtain ⟨_, _, b3, _⟩ := h6 i (by omega)
      omega
    · rw [if_neg q]; exact h7 i j hij (by omega)
  · by_cases q : s = S
    · exact ⟨bl, by omega, by dsimp only; rw [q, eS, if_pos rfl]⟩
    · rw [oth s q, e30] at hlive
      obtain ⟨i, hi, e⟩ := h8 s hs hlive
      exact ⟨i, by omega, by dsimp only; rw [oth s q, if_neg (by omega)]; exact e⟩
theorem t1_look {z : Nat} {f : Nat → Int32} {post : Int32 → Prop} (h1 : 1 ≤ z) (hz : z ≤ 80) (hok : (f 0 = 156 ∧ f 3 = chk f z) → post 2) (hno : ¬ (f 0 = 156 ∧ f 3 = chk f z) → ∀ x : Int32, x ≠ 2 → post x) : wp_X1_look (nI z) f post := by
  unfold wp_X1_look
  refine ⟨fun q => t1_check h1 hz ⟨fun q3 => hok ⟨q, q3⟩, fun q3 => hno (fun y => q3 y.2) _ (by decide)⟩, fun q => hno (fun y => q y.1) _ (by decide)⟩
set_option maxHeartbeats 4000000 in
set_option maxRecDepth 100000 in
theorem t8_endOf {t k n z ln hd bl hb nx : Nat} {sent over pb : Int32} {nb rec dly cby wby : Nat → Int32} {wsz : Int32} {bnum bsent bover bpb : Nat → Int32} {bwb : Nat → Nat → Int32} {bwsz : Nat → Int32} {bcb : Nat → Nat → Int32} {bcsz : Nat → Int32} {post : Int32 → (Nat → Int32) → Int32 → (Nat → Int32) → (Nat → Int32) → (Nat → Int32) → Int32 → (Nat → Int32) → (Nat → Int32) → (Nat → Int32) → (Nat → Int32) → (Nat → Nat → Int32) → (Nat → Int32) → (Nat → Nat → Int32) → (Nat → Int32) → Prop} (e7 : nb 7 = nI nx) (e6 : nb 6 = nI bl) (e5 : nb 5 = nI ln) (h0 : 0 < ln) (hl : ln ≤ 5) (hhd : hd < 6) (hhb : hb < 12) (hbl : bl ≤ 12) (hk : k < 2500) (hx : nx < 100000) (ht : t < 10000) (hkt : 4 * k ≤ t) (hz1 : 13 ≤ z) (hz2 : z ≤ 77) (hn : rec k = nI n) (hn2 : n < 4096)
    (hB : ¬ (cby 0 = 156 ∧ cby 3 = chk cby z) → post 0 (upd nb 34 (nb 34 + 1)) wsz (va_cpy wby cby 0 0 80) rec dly (nI hd) bnum bsent bover bpb bwb bwsz bcb bcsz)
    (hG : (cby 0 = 156 ∧ cby 3 = chk cby z) → nx ≤ k → bl = 12 → post over (upd (upd nb 4 (nb 4 + 1)) 5 (nI (ln - 1))) (nI z) cby (upd rec k (nI (n / 4 * 4 + 3))) dly (nI ((hd + 1) % 6)) bnum bsent bover bpb bwb bwsz bcb bcsz)
    (hL : (cby 0 = 156 ∧ cby 3 = chk cby z) → ¬ nx ≤ k → post over (upd (upd nb 3 (nb 3 + 1)) 5 (nI (ln - 1))) (nI z) cby (upd rec k (nI (n / 4 * 4 + 2 + 4096 * (t + 1)))) (upd dly (min (t - 4 * k) 15) (dly (min (t - 4 * k) 15) + 1)) (nI ((hd + 1) % 6)) bnum bsent bover bpb bwb bwsz bcb bcsz)
    (hS : (cby 0 = 156 ∧ cby 3 = chk cby z) → nx ≤ k → bl < 12 → post over (upd (upd (upd nb 3 (nb 3 + 1)) 6 (nI (bl + 1))) 5 (nI (ln - 1))) (nI z) cby (upd rec k (nI (n / 4 * 4 + 2 + 4096 * (t + 1)))) (upd dly (min (t - 4 * k) 15) (dly (min (t - 4 * k) 15) + 1)) (nI ((hd + 1) % 6)) (va_up bnum ((hb + bl) % 12) (nI k)) (va_up bsent ((hb + bl) % 12) sent) (va_up bover ((hb + bl) % 12) over) (va_up bpb ((hb + bl) % 12) pb) (va_up bwb ((hb + bl) % 12) (va_cpy wby (bwb ((hb + bl) % 12)) 0 0 80)) (va_up bwsz ((hb + bl) % 12) wsz) (va_up bcb ((hb + bl) % 12) (va_cpy cby (bcb ((hb + bl) % 12)) 0 0 80)) (va_up bcsz ((hb + bl) % 12) (nI z))) :
    wp_X8_endOf (nI t) (nI k) sent over pb nb (nI z) cby wsz wby rec dly (nI 5) (nI hd) (nI 6) (nI hb) bnum bsent bover bpb bwb bwsz bcb bcsz post := by
  unfold wp_X8_endOf
  rw [e7]
  have broken : ∀ x : Int32, x ≠ 2 → ¬ (cby 0 = 156 ∧ cby 3 = chk cby z) → ∀ f41 : Nat → Int32, f41 = upd nb 34 ((nb 34) + 1) → wp_X5_beginAnew over (nI z) wsz wby cby (fun x42 x43 f44 => post x42 f41 x43 f44 rec dly (nI hd) bnum bsent bover bpb bwb bwsz bcb bcsz) := by
    intro x _ hno
    rintro _ rfl
    unfold wp_X5_beginAnew wp_X1_become
    rintro _ rfl
    exact hB hno
  refine ⟨fun q => ?_, fun q => ?_⟩
  · have hnk : nx ≤ k := (nI_leI (by omega) (by omega)).mp q
    refine t1_look (by omega) (by omega) (fun hok => ⟨fun _ => ?_, fun y => absurd rfl y⟩) (fun hno x hx2 => ⟨fun y => absurd y hx2, fun _ => broken x hx2 hno⟩)
    rw [e6]
    refine ⟨fun y => ?_, fun y => ?_⟩
    · have hb12 : bl < 12 := (nI_ltI (b := 12) (by omega) (by omega)).mp y
      rintro _ rfl
      refine t0_arrive hk ht hkt hn hn2 ?_
      refine t7_append (n := 12) (sa := 6) (c := bl) (by omega) (by omega) hhb (by rw [pk_un (by omega)]; exact e6) hb12 ?_
      refine ⟨fun y => absurd y (by simp), fun j hj => ?_⟩
      have hj2 : (hb + bl) % 12 = j := Option.some.inj hj
      subst hj2
      refine ⟨Nat.mod_lt _ (by omega), ?_⟩
      unfold wp_X5_become wp_X1_become
      rintro _ rfl _ rfl
      refine t7_remove (n := 6) (sa := 5) (c := ln) (by omega) (by omega) (by omega) hhd (by rw [pk_un (by omega), pk_un (by omega)]; exact e5) (by omega) h0 ?_
      rintro _ rfl _ rfl _ rfl _ rfl _ rfl _ rfl _ rfl _ rfl
      exact hS hok hnk hb12
    · have hb12 : bl = 12 := by
        rcases Nat.lt_or_ge bl 12 with y2 | y2
        · exact absurd ((nI_ltI (b := 12) (by omega) (by omega)).mpr y2) y
        · omega
      unfold wp_X8_giveUpFirst
      rintro _ rfl
      refine t0_setStatus (s := 3) hk (by omega) hn (by omega) ?_
      refine t7_remove (n := 6) (sa := 5) (c := ln) (by omega) (by omega) (by omega) hhd (by rw [pk_un (by omega)]; exact e5) (by omega) h0 ?_
      exact hG hok hnk hb12
  · have hnk : ¬ nx ≤ k := fun y => q ((nI_leI (by omega) (by omega)).mpr y)
    refine t1_look (by omega) (by omega) (fun hok => ⟨fun _ => ?_, fun y => absurd rfl y⟩) (fun hno x hx2 => ⟨fun y => absurd y hx2, fun _ => broken x hx2 hno⟩)
    rintro _ rfl
    refine t0_arrive hk ht hkt hn hn2 ?_
    refine t7_remove (n := 6) (sa := 5) (c := ln) (by omega) (by omega) (by omega) hhd (by rw [pk_un (by omega)]; exact e5) (by omega) h0 ?_
    exact hL hok hnk
