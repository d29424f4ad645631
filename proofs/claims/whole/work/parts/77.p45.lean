/-! pure part 45: a coded FRAME joins the line; the pool is steered -/
theorem rAft_f {t cd nx ln lb hd bl hb lo fr : Nat} {nb rec dly : Nat → Int32} {pnum psent pover ppb : Nat → Int32} {wb : Nat → Nat → Int32} {wsz : Nat → Int32} {cb : Nat → Nat → Int32} {csz : Nat → Int32} {bnum : Nat → Int32} {bcb : Nat → Nat → Int32} {bcsz : Nat → Int32} {row row' : Nat → Int32} (h : rAft t cd nx ln lb hd bl hb lo fr nb rec dly pnum psent pover ppb wb wsz cb csz bnum bcb bcsz row) (e : ∀ j, (j < 52 ∨ (735 ≤ j ∧ j < 3257) ∨ 3369 ≤ j) → row' j = row j) : rAft t cd nx ln lb hd bl hb lo fr nb rec dly pnum psent pover ppb wb wsz cb csz bnum bcb bcsz row' := by
  obtain ⟨a1, ⟨ms, f1, f2, f3⟩, a3, ⟨a4, a5⟩, a6, a7, a8, a9, a10⟩ := h
  have := a4.2.1
  exact ⟨rNum_f a1 (fun j hj => e j (by omega)) (fun j _ _ _ => rfl), ⟨ms, f1, by rw [e _ (by omega)]; exact f2, f3⟩, rBook_f a3 (fun j b c => e j (by omega)), ⟨lnN_f a4 (e _ (by omega)) (fun i hi => e _ (by omega)), a5⟩, fun i b c => rLn_f (a6 i b c) (fun x hx => e _ (by omega)) (e _ (by omega)), fun n hn => by rw [e _ (by omega)]; exact a7 n hn, rBuf_f a8 (fun j b c => e j (by omega)) (e _ (by omega)) (Nat.le_refl _), a9, by rw [e _ (by omega)]; exact a10⟩
set_option maxHeartbeats 800000 in
set_option maxRecDepth 100000 in
theorem t8_enqueue {t k nx ln hd bl hb z pb : Nat} {nb rec dly bytes : Nat → Int32} {pnum psent pover ppb : Nat → Int32} {wb : Nat → Nat → Int32} {wsz : Nat → Int32} {cb : Nat → Nat → Int32} {csz : Nat → Int32} {bnum : Nat → Int32} {bcb : Nat → Nat → Int32} {bcsz : Nat → Int32} {r : Nat → Int32} {post : (Nat → Int32) → (Nat → Int32) → (Nat → Int32) → (Nat → Int32) → (Nat → Int32) → (Nat → Int32) → (Nat → Nat → Int32) → (Nat → Int32) → (Nat → Nat → Int32) → (Nat → Int32) → Prop}
    (h : rAft t k nx ln ln hd bl hb 0 (k - ln) nb rec dly pnum psent pover ppb wb wsz cb csz bnum bcb bcsz r) (hk : k < 2500) (hln : ln ≤ 4) (ht : 4 * k ≤ t) (hz1 : 13 ≤ z) (hz2 : z ≤ 77) (ez : r 654 = nI z) (eb : ∀ j, j < 80 → bytes j = r (655 + j)) (hby : isBy bytes 80) (hp1 : 10 ≤ pb) (hp2 : pb ≤ 80) (ep : r 14 = nI pb)
    (hp : ∀ (nb' rec' pnum' psent' pover' ppb' : Nat → Int32) (wb' : Nat → Nat → Int32) (wsz' : Nat → Int32) (cb' : Nat → Nat → Int32) (csz' : Nat → Int32), rAft t (k + 1) nx (ln + 1) (ln + 1) hd bl hb 0 (k + 1 - (ln + 1)) nb' rec' dly pnum' psent' pover' ppb' wb' wsz' cb' csz' bnum bcb bcsz (M_enq k r) → post nb' rec' pnum' psent' pover' ppb' wb' wsz' cb' csz') :
    wp_X8_enqueue (nI k) (nI 5) (nI hd) (upd (upd nb 1 (nb 1 + 1)) 19 (nb 19 + nI z)) (nI z) bytes rec pnum psent pover ppb wb wsz cb csz post := by
  obtain ⟨a1, ⟨ms, f1, f2, f3⟩, a3, ⟨a4, a5⟩, a6, a7, a8, a9, a10⟩ := h
  have e5 : nb 5 = nI ln := (a1 5 (by omega) (by omega) (by omega) (by omega)).trans a4.1
  have n28 : nb 28 = nI pb := (a1 28 (by omega) (by omega) (by omega) (by omega)).trans ep
  have n1 : nb 1 = r 26 := a1 1 (by omega) (by omega) (by omega) (by omega)
  have n19 : nb 19 = r 42 := a1 19 (by omega) (by omega) (by omega) (by omega)
  have t51 : tN (r 51) = ln := by rw [a4.1]; exact nI_clamp (by omega)
  obtain ⟨st, hh, sn, sl, ⟨b1, b2, b3, b4, b5, b6, b7, b8, b9, b10⟩, c1, c2, c3⟩ := a3 k hk
  obtain ⟨rfl, rfl⟩ := c1 (Nat.le_refl _)
  have hsl := b9 (by omega)
  subst hsl
  unfold wp_X8_enqueue
  refine t7_append (n := 6) (sa := 5) (c := ln) (by omega) (by omega) a5 (by rw [pk_un (by omega), pk_un (by omega)]; exact e5) (by omega) ?_
  refine ⟨fun q => absurd q (by simp), fun j3 hj => ?_⟩
  have hj2 : (hd + ln) % 6 = j3 := Option.some.inj hj
  subst hj2
  refine ⟨Nat.mod_lt _ (by omega), ?_⟩
  have e28 : upd (upd (upd nb 1 (nb 1 + 1)) 19 (nb 19 + nI z)) 5 (nI (ln + 1)) 28 = nI pb := by
    rw [pk_un (by omega), pk_un (by omega), pk_un (by omega)]; exact n28
  rw [e28]
  have hmx : jmax 1 (nI pb) = nI pb := if_pos (nI_lt (a := 1) (by omega) (by omega))
  unfold wp_X5_load wp_X5_beginAnew wp_X1_become
  rw [hmx]
  rintro _ rfl _ rfl _ rfl
  refine t0_setStatus (s := 1) hk (by omega) b10 (by omega) ?_
  rintro _ rfl _ rfl _ rfl _ rfl _ rfl _ rfl _ rfl _ rfl
  refine hp _ _ _ _ _ _ _ _ _ _ ?_
  have lineO : ∀ j, (j < 735 + 170 * ln ∨ 735 + 170 * ln + 164 ≤ j) → M_line k r j = r j := fun j hj => by unfold M_line; rw [t51, if_neg (by omega)]
  have enqO : ∀ j, (j < 735 + 170 * ln ∨ 735 + 170 * ln + 164 ≤ j) → j ≠ 51 → j ≠ 3385 + 4 * k → j ≠ 3385 + 4 * k + 3 → j ≠ 26 → j ≠ 42 → M_enq k r j = r j := fun j h1 h2 h3 h4 h5 h6 => by
    unfold M_enq; rw [pk_un h6, pk_un h5, pk_un h4, pk_un h3, pk_un h2, lineO j h1]
  have enqL : ∀ j, 735 ≤ j → j < 3385 → M_enq k r j = M_line k r j := fun j h1 h2 => by
    unfold M_enq; rw [pk_un (by omega), pk_un (by omega), pk_un (by omega), pk_un (by omega), pk_un (by omega)]
  have e51 : M_enq k r 51 = nI (ln + 1) := by
    unfold M_enq; rw [pk_un (by omega), pk_un (by omega), pk_un (by omega), pk_un (by omega), pk_us, a4.1, rA]
  have e26 : M_enq k r 26 = r 26 + 1 := by unfold M_enq; rw [pk_un (by omega), pk_us]
  have e42 : M_enq k r 42 = r 42 + nI z := by unfold M_enq; rw [pk_us, ez]
  have eS : M_enq k r (3385 + 4 * k) = nI 1 := by unfold M_enq; rw [pk_un (by omega), pk_un (by omega), pk_un (by omega), pk_us]; rfl
  refine ⟨?_, ⟨ms, by omega, by rw [enqO _ (by omega) (by omega) (by omega) (by omega) (by omega) (by omega)]; exact f2, by rw [pk_un (by omega), pk_un (by omega), pk_un (by omega)]; exact f3⟩, fun k' hk' => ?_, ⟨⟨e51, by omega, by omega, by omega, fun i hi => ?_⟩, a5⟩, fun i _ hi => ?_, fun n hn => by rw [enqO _ (by omega) (by omega) (by omega) (by omega) (by omega) (by omega)]; exact a7 n hn, ?_, by rw [pk_un (by omega), pk_un (by omega), pk_un (by omega)]; exact a9, by rw [enqO _ (by omega) (by omega) (by omega) (by omega) (by omega) (by omega)]; exact a10⟩
  · have a := rNum_u (v := nI (ln + 1)) (rNum_u (v := nb 19 + nI z) (rNum_u (v := nb 1 + 1) a1 (show 1 < 54 by omega)) (show 19 < 54 by omega)) (show 5 < 54 by omega)
    have u1 : hm 1 = 26 := by decide
    have u2 : hm 19 = 42 := by decide
    have u3 : hm 5 = 51 := by decide
    rw [u1, u2, u3, n1, n19] at a
    rw [n1, n19]
    refine rNum_f a (fun j hj => ?_) (fun j _ _ _ => rfl)
    by_cases q51 : j = 51
    · rw [q51, e51, pk_us]
    by_cases q42 : j = 42
    · rw [q42, e42, pk_un (by omega), pk_us]
    by_cases q26 : j = 26
    · rw [q26, e26, pk_un (by omega), pk_un (by omega), pk_us]
    rw [pk_un q51, pk_un q42, pk_un q26]; exact enqO j (by omega) q51 (by omega) (by omega) q26 q42
  · by_cases q : k' = k
    · subst q
      refine ⟨1, hh, 0, 0, ⟨by omega, b2, by omega, by omega, eS, by rw [enqO _ (by omega) (by omega) (by omega) (by omega) (by omega) (by omega)]; exact b6, by rw [enqO _ (by omega) (by omega) (by omega) (by omega) (by omega) (by omega)]; exact b7, fun z => absurd z (by omega), fun _ => rfl, ?_⟩, fun z => absurd z (by omega), c2, fun _ _ => ⟨rfl, by omega⟩⟩
      rw [pk_us]; exact congrArg nI (by omega)
    · obtain ⟨st', hh', sn', sl', g, d1, d2, d3⟩ := a3 k' hk'
      refine ⟨st', hh', sn', sl', rBk_f g (fun j x y => enqO j (by omega) (by omega) (by omega) (by omega) (by omega) (by omega)) (pk_un q), fun z => d1 (by omega), d2, fun z1 z2 => d3 (by omega) (by omega)⟩
  · by_cases q : i = ln
    · rw [q, enqL _ (by omega) (by omega)]; unfold M_line; rw [t51, if_pos (by omega), if_pos rfl]; exact congrArg nI (by omega)
    · rw [enqO _ (by omega) (by omega) (by omega) (by omega) (by omega) (by omega), a4.2.2.2.2 i (by omega)]; exact congrArg nI (by omega)
  · by_cases q : i = ln
    · subst q
      have L : ∀ x, x < 164 → M_enq k r (735 + 170 * i + x) = if x = 0 then nI k else if x = 1 then r 654 else if x = 2 then r 14 else if x = 3 then 0 else if x < 84 then r (655 + (x - 4)) else r (655 + (x - 84)) := fun x hx => by
        rw [enqL _ (by omega) (by omega)]; unfold M_line
        rw [t51, if_pos (by omega)]
        by_cases x0 : x = 0
        · rw [if_pos (by omega), if_pos x0]
        by_cases x1 : x = 1
        · rw [if_neg (by omega), if_pos (by omega), if_neg x0, if_pos x1]
        by_cases x2 : x = 2
        · rw [if_neg (by omega), if_neg (by omega), if_pos (by omega), if_neg x0, if_neg x1, if_pos x2]
        by_cases x3 : x = 3
        · rw [if_neg (by omega), if_neg (by omega), if_neg (by omega), if_pos (by omega), if_neg x0, if_neg x1, if_neg x2, if_pos x3]
        rw [if_neg (by omega), if_neg (by omega), if_neg (by omega), if_neg (by omega), if_neg x0, if_neg x1, if_neg x2, if_neg x3]
        by_cases x4 : x < 84
        · rw [if_pos (by omega), if_pos x4]; exact congrArg r (by omega)
        · rw [if_neg (by omega), if_neg x4]; exact congrArg r (by omega)
      rw [show k + 1 - (i + 1) + i = k by omega]
      have L0 := L 0 (by omega)
      rw [if_pos rfl, Nat.add_zero] at L0
      have hcp : ∀ (f : Nat → Int32) (j : Nat), j < 80 → va_cpy bytes f 0 0 80 j = bytes j := fun f j hj => by rw [pk_cpy_in (by omega) (by omega), Nat.sub_zero, Nat.zero_add]
      have hcp2 : ∀ (f g : Nat → Int32) (j : Nat), j < 80 → va_cpy (va_cpy bytes f 0 0 80) g 0 0 80 j = bytes j := fun f g j hj => by rw [pk_cpy_in (by omega) (by omega), Nat.sub_zero, Nat.zero_add]; exact hcp f j hj
      refine ⟨by rw [vu_s], L0, ?_, z, pb, 0, hz1, hz2, hp1, hp2, by omega, ?_, by rw [vu_s], by rw [vu_s], ?_, by rw [vu_s], ?_, by rw [vu_s]; rfl, fun j hj => ?_, fun j hj => ?_, fun j hj => ?_, fun j hj => ?_⟩
      · rw [vu_s, enqO _ (by omega) (by omega) (by omega) (by omega) (by omega) (by omega), b6]; rfl
      · rw [L 1 (by omega), if_neg (by omega), if_pos rfl]; exact ez
      · rw [L 2 (by omega), if_neg (by omega), if_neg (by omega), if_pos rfl]; exact ep
      · rw [L 3 (by omega), if_neg (by omega), if_neg (by omega), if_neg (by omega), if_pos rfl]; rfl
      · have := L (4 + j) (by omega)
        rw [if_neg (by omega), if_neg (by omega), if_neg (by omega), if_neg (by omega), if_pos (by omega), show 4 + j - 4 = j by omega] at this
        rw [vu_s, hcp _ j hj, show 735 + 170 * i + 4 + j = 735 + 170 * i + (4 + j) by omega, this]; exact eb j hj
      · have := L (84 + j) (by omega)
        rw [if_neg (by omega), if_neg (by omega), if_neg (by omega), if_neg (by omega), if_neg (by omega), show 84 + j - 84 = j by omega] at this
        rw [vu_s, hcp2 _ _ j hj, show 735 + 170 * i + 84 + j = 735 + 170 * i + (84 + j) by omega, this]; exact eb j hj
      · rw [vu_s, hcp _ j hj]; exact hby j hj
      · rw [vu_s, hcp2 _ _ j hj]; exact hby j hj
    · have hq : (hd + i) % 6 ≠ (hd + ln) % 6 := ring_ne (by omega) (by omega) q
      have g := rLn_q (a6 i (by omega) (by omega)) (pnum' := va_up pnum ((hd + ln) % 6) (nI k)) (psent' := va_up psent ((hd + ln) % 6) 0) (pover' := va_up pover ((hd + ln) % 6) 0) (ppb' := va_up ppb ((hd + ln) % 6) (nI pb)) (wb' := va_up wb ((hd + ln) % 6) (va_cpy bytes (wb ((hd + ln) % 6)) 0 0 80)) (wsz' := va_up wsz ((hd + ln) % 6) (nI z)) (cb' := va_up cb ((hd + ln) % 6) (va_cpy (va_cpy bytes (wb ((hd + ln) % 6)) 0 0 80) (cb ((hd + ln) % 6)) 0 0 80)) (csz' := va_up csz ((hd + ln) % 6) (nI z)) ⟨vu_n hq, vu_n hq, vu_n hq, vu_n hq, vu_n hq, vu_n hq, vu_n hq, vu_n hq⟩
      rw [show k + 1 - (ln + 1) + i = k - ln + i by omega]
      exact rLn_f g (fun x hx => enqO _ (by omega) (by omega) (by omega) (by omega) (by omega) (by omega)) (enqO _ (by omega) (by omega) (by omega) (by omega) (by omega) (by omega))
  · refine rBuf_f a8 (fun j x y => enqO j (by omega) (by omega) (by omega) (by omega) (by omega) (by omega)) (enqO _ (by omega) (by omega) (by omega) (by omega) (by omega) (by omega)) (by omega)
theorem near_lo {v lo hi : Nat} (h1 : lo ≤ v) (hv : v < 2 ^ 31) (hh : hi < 2 ^ 31) : near (nI v) (nI lo) (nI hi) = nI (min v hi) := by
  unfold near
  rw [if_pos ((nI_leI (by omega) hv).mpr h1)]
  by_cases q : v ≤ hi
  · rw [if_pos ((nI_leI hv hh).mpr q), Nat.min_eq_left q]
  · rw [if_neg (fun y => q ((nI_leI hv hh).mp y)), Nat.min_eq_right (by omega)]
theorem near_hi {v lo hi : Nat} (h1 : v ≤ hi) (hv : hi < 2 ^ 31) (hl : lo ≤ hi) : near (nI v) (nI lo) (nI hi) = nI (max lo v) := by
  unfold near
  by_cases q : lo ≤ v
  · rw [if_pos ((nI_leI (by omega) (by omega)).mpr q), if_pos ((nI_leI (by omega) (by omega)).mpr h1), Nat.max_eq_right q]
  · rw [if_neg (fun y => q ((nI_leI (by omega) (by omega)).mp y)), Nat.max_eq_left (by omega)]
theorem jmax_n {a b : Nat} (ha : a < 2 ^ 31) (hb : b < 2 ^ 31) : jmax (nI a) (nI b) = nI (max a b) := by
  unfold jmax
  by_cases q : a < b
  · rw [if_pos ((nI_ltI ha hb).mpr q), Nat.max_eq_right (by omega)]
  · rw [if_neg (fun y => q ((nI_ltI ha hb).mp y)), Nat.max_eq_left (by omega)]
theorem jmin_n {a b : Nat} (ha : a < 2 ^ 31) (hb : b < 2 ^ 31) : jmin (nI a) (nI b) = nI (min a b) := by
  unfold jmin
  by_cases q : b < a
  · rw [if_pos ((nI_ltI hb ha).mpr q), Nat.min_eq_right (by omega)]
  · rw [if_neg (fun y => q ((nI_ltI hb ha).mp y)), Nat.min_eq_left (by omega)]
