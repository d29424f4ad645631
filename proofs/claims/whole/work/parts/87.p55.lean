/-! pure part 55: tone, sets, loud, burst -/
theorem RW_set {t cd nx ln hd bl hb : Nat} {nb rec dly : Nat → Int32} {pnum psent pover ppb : Nat → Int32} {wb : Nat → Nat → Int32} {wsz : Nat → Int32} {cb : Nat → Nat → Int32} {csz : Nat → Int32} {bnum : Nat → Int32} {bcb : Nat → Nat → Int32} {bcsz : Nat → Int32} {A0 B0 A1 B1 split told quants backs scales bits : Nat → Int32} {tw me sz : Int32} {bytes : Nat → Int32} {eA0 eB0 eA1 eB1 e0 e1 recs : Nat → Int32} {row nb' row' : Nat → Int32} (h : RW t cd nx ln hd bl hb nb rec dly pnum psent pover ppb wb wsz cb csz bnum bcb bcsz A0 B0 A1 B1 split told quants backs scales bits tw me sz bytes eA0 eB0 eA1 eB1 e0 e1 recs row) (hN : rNum nb' row') (h6 : nb' 6 = nb 6) (h38 : nb' 38 = nb 38) (e : ∀ j, 25 ≤ j → j ≠ 43 → j ≠ 48 → j ≠ 49 → row' j = row j) (ok : okSet row') (h16 : okE row') (p43 : ∃ P, P ≤ 128 ∧ row' 43 = nI P) (s49 : ∃ s, s < 1000003 ∧ row' 49 = nI s) : RW t cd nx ln hd bl hb nb' rec dly pnum psent pover ppb wb wsz cb csz bnum bcb bcsz A0 B0 A1 B1 split told quants backs scales bits tw me sz bytes eA0 eB0 eA1 eB1 e0 e1 recs row' := by
  obtain ⟨⟨a1, ⟨ms, b1, b2, b3⟩, a3, ⟨a4, a5⟩, a6, a7, a8, a9, a10⟩, pl, r3, r4, r5, r6, r7, r8, r9, r10, r11, r12, r13, r14, r15, r16⟩ := h
  have hl5 := a4.2.1
  refine ⟨⟨hN, ⟨ms, b1, by rw [e _ (by omega) (by omega) (by omega) (by omega)]; exact b2, by rw [h38]; exact b3⟩, rBook_f a3 (fun j x y => e j (by omega) (by omega) (by omega) (by omega)), ⟨lnN_f a4 (e _ (by omega) (by omega) (by omega) (by omega)) (fun i hi => e _ (by omega) (by omega) (by omega) (by omega)), a5⟩, fun i x y => rLn_f (a6 i x y) (fun z hz => e _ (by omega) (by omega) (by omega) (by omega)) (e _ (by omega) (by omega) (by omega) (by omega)), fun n hn => by rw [e _ (by omega) (by omega) (by omega) (by omega)]; exact a7 n hn, rBuf_f a8 (fun j x y => e j (by omega) (by omega) (by omega) (by omega)) (e _ (by omega) (by omega) (by omega) (by omega)) (Nat.le_refl _), by rw [h6]; exact a9, by rw [e _ (by omega) (by omega) (by omega) (by omega)]; exact a10⟩, rPl_f pl (fun j hj => e j (by omega) (by omega) (by omega) (by omega)), ok, by rw [e _ (by omega) (by omega) (by omega) (by omega)]; exact r4, by rw [e _ (by omega) (by omega) (by omega) (by omega)]; exact r5, r6, r7, r8, rMem_f r9 (fun j x y => e j (by omega) (by omega) (by omega) (by omega)), rMem_f r10 (fun j x y => e j (by omega) (by omega) (by omega) (by omega)), fun y => rFr_f (r11 y) (fun j x y => e j (by omega) (by omega) (by omega) (by omega)), p43, s49, h16, ?_, ?_⟩
  · rw [e _ (by omega) (by omega) (by omega) (by omega)]; exact r15
  · rw [e _ (by omega) (by omega) (by omega) (by omega)]; exact r16
theorem hm_tone : ∀ c, c < 2 → hm (48 + 3 * c) = c ∧ hm (48 + 3 * c + 1) = 2 + c ∧ hm (48 + 3 * c + 2) = 4 + c := by decide
set_option maxHeartbeats 800000 in
set_option maxRecDepth 100000 in
theorem s_tone {v1 v2 v3 v4 th : Int32} {t cd nx ln hd bl hb : Nat} {nb rec dly : Nat → Int32} {pnum psent pover ppb : Nat → Int32} {wb : Nat → Nat → Int32} {wsz : Nat → Int32} {cb : Nat → Nat → Int32} {csz : Nat → Int32} {bnum : Nat → Int32} {bcb : Nat → Nat → Int32} {bcsz : Nat → Int32} {A0 B0 A1 B1 split told quants backs scales bits : Nat → Int32} {tw me sz : Int32} {bytes : Nat → Int32} {eA0 eB0 eA1 eB1 e0 e1 recs : Nat → Int32} {row : Nat → Int32} {P : Int32 → Int32 → (Nat → Int32) → Int32 → (Nat → Int32) → Prop} (h : RW t cd nx ln hd bl hb nb rec dly pnum psent pover ppb wb wsz cb csz bnum bcb bcsz A0 B0 A1 B1 split told quants backs scales bits tw me sz bytes eA0 eB0 eA1 eB1 e0 e1 recs row) (hp : ∀ (r : Int32) (nb' row' : Nat → Int32), RW t cd nx ln hd bl hb nb' rec dly pnum psent pover ppb wb wsz cb csz bnum bcb bcsz A0 B0 A1 B1 split told quants backs scales bits tw me sz bytes eA0 eB0 eA1 eB1 e0 e1 recs row' → P r r nb' 0 row') :
    wp_X11_tone v1 v2 v3 v4 nb (fun r nb' => wp_X12_tone v1 v2 v3 v4 th row (fun r' th' row' => P r r' nb' th' row')) := by
  unfold wp_X11_tone wp_X12_tone
  refine t_within (fun q1 => ⟨fun z => absurd z (by decide), fun _ => ?_⟩) (fun q1 => ⟨fun _ => ?_, fun z => absurd rfl z⟩)
  rotate_left
  · exact t_inI 0 1 (fun y => absurd y q1) (fun _ => ⟨fun _ => hp _ _ _ h, fun z => absurd rfl z⟩)
  refine t_within (fun q2 => ⟨fun z => absurd z (by decide), fun _ => ?_⟩) (fun q2 => ⟨fun _ => ?_, fun z => absurd rfl z⟩)
  rotate_left
  · exact t_inI 0 1 (fun _ => ⟨fun z => absurd z (by decide), fun _ => t_inI 2 200 (fun y => absurd y q2) (fun _ => ⟨fun _ => hp _ _ _ h, fun z => absurd rfl z⟩)⟩) (fun y => absurd q1 y)
  refine t_within (fun q3 => ⟨fun z => absurd z (by decide), fun _ => ?_⟩) (fun q3 => ⟨fun _ => ?_, fun z => absurd rfl z⟩)
  rotate_left
  · exact t_inI 0 1 (fun _ => ⟨fun z => absurd z (by decide), fun _ => t_inI 2 200 (fun _ => ⟨fun z => absurd z (by decide), fun _ => t_inI 0 2000 (fun y => absurd y q3) (fun _ => ⟨fun _ => hp _ _ _ h, fun z => absurd rfl z⟩)⟩) (fun y => absurd q2 y)⟩) (fun y => absurd q1 y)
  refine t_within (fun q4 => ⟨fun z => absurd z (by decide), fun _ => ?_⟩) (fun q4 => ⟨fun _ => ?_, fun z => absurd rfl z⟩)
  rotate_left
  · exact t_inI 0 1 (fun _ => ⟨fun z => absurd z (by decide), fun _ => t_inI 2 200 (fun _ => ⟨fun z => absurd z (by decide), fun _ => t_inI 0 2000 (fun _ => ⟨fun z => absurd z (by decide), fun _ => t_inI 0 500 (fun y => absurd y q4) (fun _ => ⟨fun _ => hp _ _ _ h, fun z => absurd rfl z⟩)⟩) (fun y => absurd q3 y)⟩) (fun y => absurd q2 y)⟩) (fun y => absurd q1 y)
  have q1' := q1
  have q2' := q2
  have q3' := q3
  have q4' := q4
  obtain ⟨c, _, hc, rfl⟩ := btw_n (a := 0) (b := 1) q1
  obtain ⟨p, hp1, hp2, rfl⟩ := btw_n (a := 2) (b := 200) q2
  obtain ⟨m, _, hm2, rfl⟩ := btw_n (a := 0) (b := 500) q4
  have hz : (0 : Int32) + nI c = nI c := by simp
  simp (disch := omega) only [lM, lA, rA, nI_clamp, vpT, true_and, forall_eq]
  refine t_inI 0 1 (fun _ => ⟨fun z => absurd z (by decide), fun _ => t_inI 2 200 (fun _ => ⟨fun z => absurd z (by decide), fun _ => t_inI 0 2000 (fun _ => ⟨fun z => absurd z (by decide), fun _ => t_inI 0 500 (fun _ => ⟨fun z => absurd z (by decide), fun _ => ?_⟩) (fun y => absurd q4' y)⟩) (fun y => absurd q3' y)⟩) (fun y => absurd q2' y)⟩) (fun y => absurd q1' y)
  simp only [Nat.zero_add]
  obtain ⟨u1, u2, u3⟩ := hm_tone c (by omega)
  have a := rNum_u (v := nI m) (rNum_u (v := v3) (rNum_u (v := nI p) h.aft.1 (show 48 + 3 * c < 54 by omega)) (show 48 + 3 * c + 1 < 54 by omega)) (show 48 + 3 * c + 2 < 54 by omega)
  rw [u1, u2, u3] at a
  have o : ∀ j, 6 ≤ j → upd (upd (upd row c (nI p)) (2 + c) v3) (4 + c) (nI m) j = row j := fun j hj => by rw [pk_un (by omega), pk_un (by omega), pk_un (by omega)]
  refine hp 1 _ _ (RW_set h a ?_ ?_ (fun j h1 _ _ _ => o j (by omega)) ?_ ?_ ?_ ?_)
  · rw [pk_un (by omega), pk_un (by omega), pk_un (by omega)]
  · rw [pk_un (by omega), pk_un (by omega), pk_un (by omega)]
  · obtain ⟨s1, s2, s3, s4, s5, s6, s7, s8, s9⟩ := h.ok
    refine ⟨by rw [o _ (by omega)]; exact s1, by rw [o _ (by omega)]; exact s2, by rw [o _ (by omega)]; exact s3, by rw [o _ (by omega)]; exact s4, by rw [o _ (by omega)]; exact s5, by rw [o _ (by omega)]; exact s6, by rw [o _ (by omega)]; exact s7, fun c' hc' => ?_, fun c' hc' => ?_⟩
    · rw [pk_un (by omega), pk_un (by omega)]
      by_cases e : c' = c
      · rw [e, pk_us]; exact ⟨p, hp1, hp2, rfl⟩
      · rw [pk_un e]; exact s8 c' hc'
    · by_cases e : c' = c
      · rw [e, pk_us]; exact ⟨m, hm2, rfl⟩
      · rw [pk_un (by omega), pk_un (by omega), pk_un (by omega)]; exact s9 c' hc'
  · obtain ⟨x, hx, ex⟩ := h.e16
    exact ⟨x, hx, by rw [o _ (by omega)]; exact ex⟩
  · rw [o _ (by omega)]; exact h.p43
  · rw [o _ (by omega)]; exact h.s49
theorem hm_loud : ∀ b, b < 8 → hm (40 + b) = 17 + b := by decide
set_option maxHeartbeats 800000 in
set_option maxRecDepth 100000 in
theorem s_loud {v1 v2 th : Int32} {t cd nx ln hd bl hb : Nat} {nb rec dly : Nat → Int32} {pnum psent pover ppb : Nat → Int32} {wb : Nat → Nat → Int32} {wsz : Nat → Int32} {cb : Nat → Nat → Int32} {csz : Nat → Int32} {bnum : Nat → Int32} {bcb : Nat → Nat → Int32} {bcsz : Nat → Int32} {A0 B0 A1 B1 split told quants backs scales bits : Nat → Int32} {tw me sz : Int32} {bytes : Nat → Int32} {eA0 eB0 eA1 eB1 e0 e1 recs : Nat → Int32} {row : Nat → Int32} {P : Int32 → Int32 → (Nat → Int32) → Int32 → (Nat → Int32) → Prop} (h : RW t cd nx ln hd bl hb nb rec dly pnum psent pover ppb wb wsz cb csz bnum bcb bcsz A0 B0 A1 B1 split told quants backs scales bits tw me sz bytes eA0 eB0 eA1 eB1 e0 e1 recs row) (hp : ∀ (r : Int32) (nb' row' : Nat → Int32), RW t cd nx ln hd bl hb nb' rec dly pnum psent pover ppb wb wsz cb csz bnum bcb bcsz A0 B0 A1 B1 split told quants backs scales bits tw me sz bytes eA0 eB0 eA1 eB1 e0 e1 recs row' → P r r nb' 0 row') :
    wp_X11_loud v1 v2 nb (fun r nb' => wp_X12_loud v1 v2 th row (fun r' th' row' => P r r' nb' th' row')) := by
  unfold wp_X11_loud wp_X12_loud
  refine t_within (fun q1 => ⟨fun z => absurd z (by decide), fun _ => ?_⟩) (fun q1 => ⟨fun _ => ?_, fun z => absurd rfl z⟩)
  rotate_left
  · exact t_inI 0 7 (fun y => absurd y q1) (fun _ => ⟨fun _ => hp _ _ _ h, fun z => absurd rfl z⟩)
  refine t_within (fun q2 => ⟨fun z => absurd z (by decide), fun _ => ?_⟩) (fun q2 => ⟨fun _ => ?_, fun z => absurd rfl z⟩)
  rotate_left
  · exact t_inI 0 7 (fun _ => ⟨fun z => absurd z (by decide), fun _ => t_inI (-4) 8 (fun y => absurd y q2) (fun _ => ⟨fun _ => hp _ _ _ h, fun z => absurd rfl z⟩)⟩) (fun y => absurd q1 y)
  have q1' := q1
  obtain ⟨b, _, hb7, rfl⟩ := btw_n (a := 0) (b := 7) q1
  simp (disch := omega) only [lA, nI_clamp, vpT, true_and, forall_eq]
  refine t_inI 0 7 (fun _ => ⟨fun z => absurd z (by decide), fun _ => t_inI (-4) 8 (fun _ => ⟨fun z => absurd z (by decide), fun _ => ?_⟩) (fun y => absurd q2 y)⟩) (fun y => absurd q1' y)
  have a := rNum_u (v := v2) h.aft.1 (show 40 + b < 54 by omega)
  rw [hm_loud b (by omega)] at a
  have o : ∀ j, (j < 17 ∨ 25 ≤ j) → upd row (17 + b) v2 j = row j := fun j hj => by rw [pk_un (by omega)]
  refine hp 1 _ _ (RW_set h a (by rw [pk_un (by omega)]) (by rw [pk_un (by omega)]) (fun j h1 _ _ _ => o j (by omega)) (okSet_f h.ok (fun j hj => o j (by omega))) ?_ ?_ ?_)
  · obtain ⟨x, hx, ex⟩ := h.e16
    exact ⟨x, hx, by rw [o _ (by omega)]; exact ex⟩
  · rw [o _ (by omega)]; exact h.p43
  · rw [o _ (by omega)]; exact h.s49
set_option maxHeartbeats 800000 in
set_option maxRecDepth 100000 in
theorem s_burst {v1 th : Int32} {t cd nx ln hd bl hb : Nat} {nb rec dly : Nat → Int32} {pnum psent pover ppb : Nat → Int32} {wb : Nat → Nat → Int32} {wsz : Nat → Int32} {cb : Nat → Nat → Int32} {csz : Nat → Int32} {bnum : Nat → Int32} {bcb : Nat → Nat → Int32} {bcsz : Nat → Int32} {A0 B0 A1 B1 split told quants backs scales bits : Nat → Int32} {tw me sz : Int32} {bytes : Nat → Int32} {eA0 eB0 eA1 eB1 e0 e1 recs : Nat → Int32} {row : Nat → Int32} {P : Int32 → Int32 → (Nat → Int32) → Int32 → (Nat → Int32) → Prop} (h : RW t cd nx ln hd bl hb nb rec dly pnum psent pover ppb wb wsz cb csz bnum bcb bcsz A0 B0 A1 B1 split told quants backs scales bits tw me sz bytes eA0 eB0 eA1 eB1 e0 e1 recs row) (hp : ∀ (r : Int32) (nb' row' : Nat → Int32), RW t cd nx ln hd bl hb nb' rec dly pnum psent pover ppb wb wsz cb csz bnum bcb bcsz A0 B0 A1 B1 split told quants backs scales bits tw me sz bytes eA0 eB0 eA1 eB1 e0 e1 recs row' → P r r nb' 0 row') :
    wp_X11_burst v1 nb (fun r nb' => wp_X12_burst v1 th row (fun r' th' row' => P r r' nb' th' row')) := by
  unfold wp_X11_burst wp_X12_burst
  refine t_within (fun q1 => ⟨fun z => absurd z (by decide), fun _ => ?_⟩) (fun q1 => ⟨fun _ => ?_, fun z => absurd rfl z⟩)
  · rintro _ rfl _ rfl
    refine t_inI 0 99 (fun _ => ⟨fun z => absurd z (by decide), fun _ => ?_⟩) (fun y => absurd q1 y)
    rintro _ rfl _ rfl
    have e36 : nb 36 = row 48 := h.aft.1 36 (by omega) (by omega) (by omega) (by omega)
    rw [e36]
    have a := rNum_u (v := v1) h.aft.1 (show 36 < 54 by omega)
    rw [show hm 36 = 48 by decide] at a
    have o : ∀ j, j ≠ 48 → upd row 48 v1 j = row j := fun j hj => by rw [pk_un hj]
    refine hp _ _ _ (RW_set h a (by rw [pk_un (by omega)]) (by rw [pk_un (by omega)]) (fun j _ _ h48 _ => o j h48) (okSet_f h.ok (fun j hj => o j (by omega))) ?_ ?_ ?_)
    · obtain ⟨x, hx, ex⟩ := h.e16
      exact ⟨x, hx, by rw [o _ (by omega)]; exact ex⟩
    · rw [o _ (by omega)]; exact h.p43
    · rw [o _ (by omega)]; exact h.s49
  · exact t_inI 0 99 (fun y => absurd y q1) (fun _ => ⟨fun _ => hp _ _ _ h, fun z => absurd rfl z⟩)
