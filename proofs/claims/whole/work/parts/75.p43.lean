/-! pure part 43: the relation behind a FRAME PLAYED -/
theorem fin_f {x8 : Int32} {sd nx tl : Nat} {lv fd : Int32} {cm row : Nat → Int32} {j : Nat} (h : j < 33 ∨ 36 ≤ j) : M_fin x8 sd nx tl lv fd cm row j = M_f6 x8 sd nx tl lv fd cm row j := by
  rw [M_fin_6]; exact M_trim_f h rfl
theorem isHrd_bk {nx w t cd ln : Nat} {rec rec' row row' : Nat → Int32} (h : rBook rec row t cd nx ln) (hw : w ≤ 2) (hh : isHrd nx w rec rec') (er : ∀ j, 3385 ≤ j → j ≠ 3385 + 4 * nx + 2 → row' j = row j) (ew : nx < 2500 → row' (3385 + 4 * nx + 2) = nI w) : rBook rec' row' t cd (nx + 1) ln := by
  intro k hk
  obtain ⟨st, hd, sn, sl, ⟨a1, a2, a3, a4, a5, a6, a7, a8, a9, a10⟩, b1, b2, b3⟩ := h k hk
  by_cases q : k = nx
  · subst q
    have h0 := b2 (Nat.le_refl _)
    subst h0
    obtain ⟨n, en, n1, n2, e⟩ := hh.1 hk
    have hn : n = st + 4 * 0 + 16 * sn + 4096 * sl := (nI_eq (a := n) (by omega) (by omega)).mp (en.symm.trans a10)
    refine ⟨st, w, sn, sl, ⟨a1, hw, a3, a4, by rw [er _ (by omega) (by omega)]; exact a5, by rw [er _ (by omega) (by omega)]; exact a6, ew hk, fun z => by rw [er _ (by omega) (by omega)]; exact a8 z, a9, ?_⟩, b1, fun z => absurd z (by omega), b3⟩
    rw [e, pk_us, hn]; congr 1; omega
  · have e : rec' k = rec k := by
      by_cases z : nx < 2500
      · obtain ⟨n, _, _, _, e⟩ := hh.1 z
        rw [e, pk_un q]
      · rw [hh.2 z]
    exact ⟨st, hd, sn, sl, rBk_f ⟨a1, a2, a3, a4, a5, a6, a7, a8, a9, a10⟩ (fun j c d => er j (by omega) (by omega)) e, b1, fun z => b2 (by omega), b3⟩
theorem play_aft {T cd nx ln hd bl hb fr bl' hb' w : Nat} {nb rec dly nb' rec' : Nat → Int32} {pnum psent pover ppb : Nat → Int32} {wb : Nat → Nat → Int32} {wsz : Nat → Int32} {cb : Nat → Nat → Int32} {csz : Nat → Int32} {bnum : Nat → Int32} {bcb : Nat → Nat → Int32} {bcsz : Nat → Int32} {row row' : Nat → Int32} (h : rAft T cd nx ln ln hd bl hb 0 fr nb rec dly pnum psent pover ppb wb wsz cb csz bnum bcb bcsz row) (hU : ∀ j, (j = 50 ∨ j = 51 ∨ (493 ≤ j ∧ j < 3257) ∨ 3369 ≤ j) → j ≠ 3385 + 4 * nx + 2 → row' j = row j) (e30 : row' 30 = nI (nx + 1)) (hw : w ≤ 2) (ew : nx < 2500 → row' (3385 + 4 * nx + 2) = nI w) (hN : rNum nb' row') (h6 : nb' 6 = nI bl') (h38 : nb' 38 = nb 38) (hB : rBuf bl' hb' (nx + 1) fr bnum bcb bcsz row') (hh : isHrd nx w rec rec') : rAft T cd (nx + 1) ln ln hd bl' hb' 0 fr nb' rec' dly pnum psent pover ppb wb wsz cb csz bnum bcb bcsz row' := by
  obtain ⟨a1, ⟨ms, f1, f2, f3⟩, a3, ⟨a4, a5⟩, a6, a7, a8, a9, a10⟩ := h
  refine ⟨hN, ⟨ms, f1, by rw [hU _ (by omega) (by omega)]; exact f2, by rw [h38]; exact f3⟩, isHrd_bk a3 hw hh (fun j c d => hU j (by omega) d) ew, ⟨lnN_f a4 (hU _ (by omega) (by omega)) (fun i hi => hU _ (by omega) (by omega)), a5⟩, fun i b c => ?_, fun n hn => by rw [hU _ (by omega) (by omega)]; exact a7 n hn, hB, h6, e30⟩
  have := a4.2.1
  exact rLn_f (a6 i b c) (fun x hx => hU _ (by omega) (by omega)) (hU _ (by omega) (by omega))
theorem tell_in {tl i x : Nat} {R : Nat → Int32} {v1 v2 v3 v4 v5 : Int32} (hi : i < min tl 15) (ht : tl ≤ 16) (hx : x < 7) : M_tell tl R v1 v2 v3 v4 v5 (3257 + 7 * i + x) = R (3257 + 7 * (i + (if tl = 16 then 1 else 0)) + x) := by
  unfold M_tell M_tl0
  rw [pk_un (by omega), pk_un (by omega), pk_un (by omega), pk_un (by omega), pk_un (by omega), pk_un (by omega), pk_un (by omega), pk_un (by omega)]
  by_cases q : tl = 16
  · rw [if_pos q, if_pos q, if_pos (by omega), show 3257 + 7 * i + x + 7 = 3257 + 7 * (i + 1) + x by omega]
  · rw [if_neg q, if_neg q, Nat.add_zero]
theorem tell_last {tl : Nat} {R : Nat → Int32} {v1 v2 v3 v4 v5 : Int32} : M_tell tl R v1 v2 v3 v4 v5 (3257 + 7 * min tl 15) = v1 ∧ M_tell tl R v1 v2 v3 v4 v5 (3257 + 7 * min tl 15 + 1) = v2 ∧ M_tell tl R v1 v2 v3 v4 v5 (3257 + 7 * min tl 15 + 2) = v3 ∧ M_tell tl R v1 v2 v3 v4 v5 (3257 + 7 * min tl 15 + 3) = R 33 ∧ M_tell tl R v1 v2 v3 v4 v5 (3257 + 7 * min tl 15 + 4) = v4 ∧ M_tell tl R v1 v2 v3 v4 v5 (3257 + 7 * min tl 15 + 5) = v5 ∧ M_tell tl R v1 v2 v3 v4 v5 (3257 + 7 * min tl 15 + 6) = R 25 ∧ M_tell tl R v1 v2 v3 v4 v5 52 = nI (min tl 15 + 1) := by
  unfold M_tell
  generalize min tl 15 = y
  refine ⟨?_, ?_, ?_, ?_, ?_, ?_, ?_, ?_⟩
  · rw [pk_un (by omega), pk_un (by omega), pk_un (by omega), pk_un (by omega), pk_un (by omega), pk_un (by omega), pk_un (by omega), pk_us]
  · rw [pk_un (by omega), pk_un (by omega), pk_un (by omega), pk_un (by omega), pk_un (by omega), pk_un (by omega), pk_us]
  · rw [pk_un (by omega), pk_un (by omega), pk_un (by omega), pk_un (by omega), pk_un (by omega), pk_us]
  · rw [pk_un (by omega), pk_un (by omega), pk_un (by omega), pk_un (by omega), pk_us]
  · rw [pk_un (by omega), pk_un (by omega), pk_un (by omega), pk_us]
  · rw [pk_un (by omega), pk_un (by omega), pk_us]
  · rw [pk_un (by omega), pk_us]
  · rw [pk_us]
set_option maxHeartbeats 4000000 in
set_option maxRecDepth 100000 in
theorem play_pl {sd nx w mn' : Nat} {x8 lv fd v1 : Int32} {eA0 eB0 eA1 eB1 e0 e1 recs row row0 cm eA0' eB0' eA1' eB1' e0' e1' recs' : Nat → Int32} (h : rPl nx eA0 eB0 eA1 eB1 e0 e1 recs row)
    (hlo : ∀ j, ((33 ≤ j ∧ j < 35) ∨ (109 ≤ j ∧ j < 493) ∨ (3257 ≤ j ∧ j < 3369) ∨ j = 25 ∨ j = 41) → row0 j = row j) (hm0 : rMem eA0' eB0' 81 row0) (hm1 : rMem eA1' eB1' 95 row0) (hn0 : eN e0 e0' cm 0) (hn1 : eN e1 e1' cm 32) (hcm : inR cm 64) (hmn : row0 38 = nI mn') (hmn2 : mn' ≤ nx + 1) (hsum : row0 36 + row0 37 = nI (nx + 1)) (hx : nx < 5000) (hhv : hv x8 = nI w) (e25 : row 25 = v1)
    (hr : isRec nx recs recs' (nI w) lv (row0 33) (osm (od row0 sd nx cm) 64) fd v1) : rPl (nx + 1) eA0' eB0' eA1' eB1' e0' e1' recs' (M_fin x8 sd nx (min nx 16) lv fd cm row0) := by
  have o : ∀ j, (j < 109 ∨ 493 ≤ j) → j ≠ 30 → j ≠ 40 → j ≠ 41 → j ≠ 52 → (j < 33 ∨ 36 ≤ j) → (j < 3257 ∨ 3369 ≤ j) → j ≠ 3385 + 4 * nx + 2 → M_fin x8 sd nx (min nx 16) lv fd cm row0 j = row0 j := fun j h1 h2 h3 h4 h5 h6 h7 h8 => by
    rw [fin_f h6, f6_o h1 h2 h3 h4 h5 h7 h8]
  have kp : ∀ j, 109 ≤ j → j < 493 → M_fin x8 sd nx (min nx 16) lv fd cm row0 j = M_keep cm row j := fun j h1 h2 => by
    rw [fin_f (by omega), f6_4 (by omega) (by omega) (by omega), r4_k h1 h2]
    unfold M_keep
    have hc : 109 ≤ j ∧ j < 493 := ⟨h1, h2⟩
    rw [if_pos hc, if_pos hc]
    by_cases q : (j - 109) % 192 < 160
    · rw [if_pos q, if_pos q, hlo _ (by omega)]
    · rw [if_neg q, if_neg q]
  have tlr : ∀ j, 3257 ≤ j → j < 3369 → M_fin x8 sd nx (min nx 16) lv fd cm row0 j = M_tell (min nx 16) (M_r4 x8 sd nx cm row0) (nI nx) (hv x8) lv (osm (od row0 sd nx cm) 64) fd j := fun j h1 h2 => by
    rw [fin_f (by omega), M_f6_4, pk_un (by omega)]
  have r4p : ∀ j, 3257 ≤ j → j < 3369 → M_r4 x8 sd nx cm row0 j = row j := fun j h1 h2 => by
    rw [r4_o (by omega) (by omega) (by omega) (by omega), hlo _ (by omega)]
  have r433 : M_r4 x8 sd nx cm row0 33 = row0 33 := r4_o (by omega) (by omega) (by omega) (by omega)
  have r425 : M_r4 x8 sd nx cm row0 25 = v1 := by rw [r4_o (by omega) (by omega) (by omega) (by omega), hlo _ (by omega)]; exact e25
  obtain ⟨l0, l1, l2, l3, l4, l5, l6, l7⟩ := tell_last (tl := min nx 16) (R := M_r4 x8 sd nx cm row0) (v1 := nI nx) (v2 := hv x8) (v3 := lv) (v4 := osm (od row0 sd nx cm) 64) (v5 := fd)
  refine ⟨rMem_f hm0 (fun j a b => o j (by omega) (by omega) (by omega) (by omega) (by omega) (by omega) (by omega) (by omega)), rMem_f hm1 (fun j a b => o j (by omega) (by omega) (by omega) (by omega) (by omega) (by omega) (by omega) (by omega)), eN_r h.ear hn0 hn1 kp, fun c hc j hj => ?_, ⟨mn', hmn2, ?_⟩, ?_, ?_, fun i hi => ?_, ?_, ?_⟩
  · show -2048 ≤ (M_fin x8 sd nx (min nx 16) lv fd cm row0 (109 + 192 * c + j)).toInt ∧ (M_fin x8 sd nx (min nx 16) lv fd cm row0 (109 + 192 * c + j)).toInt ≤ 2047
    rw [kp _ (by omega) (by omega)]
    unfold M_keep
    rw [if_pos (by omega)]
    by_cases q : (109 + 192 * c + j - 109) % 192 < 160
    · rw [if_pos q, show 109 + 192 * c + j + 32 = 109 + 192 * c + (j + 32) by omega]
      exact h.inr c hc (j + 32) (by omega)
    · rw [if_neg q]
      exact hcm (32 * ((109 + 192 * c + j - 109) / 192) + ((109 + 192 * c + j - 109) % 192 - 160)) (by omega)
  · rw [o 38 (by omega) (by omega) (by omega) (by omega) (by omega) (by omega) (by omega) (by omega)]; exact hmn
  · rw [fin_f (by omega), f6_4 (by omega) (by omega) (by omega), r4_41]
    have e41 := hlo 41 (by omega)
    by_cases q : x8 = 0
    · rw [if_pos q, e41]; exact h.off
    · rw [if_neg q, e41]; exact omx_p h.off 64
  · rw [fin_f (by omega), M_f6_4, pk_un (by omega), l7]
    congr 1; omega
  · obtain ⟨r1, r2, r3, r4, r5, r6, ro⟩ := hr
    by_cases q : i = min (min nx 16) 15
    · have hi0 : nx + 1 - min (nx + 1) 16 + i = nx := by omega
      rw [hi0, q]
      rw [tlr _ (by omega) (by omega), l0]
      refine ⟨rfl, fun v hv1 hv2 => ?_⟩
      rw [tlr _ (by omega) (by omega)]
      have hv' : v = 1 ∨ v = 2 ∨ v = 3 ∨ v = 4 ∨ v = 5 ∨ v = 6 := by omega
      rcases hv' with rfl | rfl | rfl | rfl | rfl | rfl
      · rw [l1, r1, hhv]
      · rw [l2, r2]
      · rw [l3, r3, r433]
      · rw [l4, r4]
      · rw [l5, r5]
      · rw [l6, r6, r425]
    · have hi1 : i < min (min nx 16) 15 := by omega
      have ei : ∀ x, x < 7 → M_fin x8 sd nx (min nx 16) lv fd cm row0 (3257 + 7 * i + x) = row (3257 + 7 * (i + (if min nx 16 = 16 then 1 else 0)) + x) := fun x hx7 => by
        rw [tlr _ (by omega) (by omega), tell_in hi1 (by omega) hx7]
        by_cases z : min nx 16 = 16
        · rw [if_pos z]; exact r4p _ (by omega) (by omega)
        · rw [if_neg z]; exact r4p _ (by omega) (by omega)
      have hi2 : i + (if min nx 16 = 16 then 1 else 0) < min nx 16 := by
        by_cases z : min nx 16 = 16
        · rw [if_pos z]; omega
        · rw [if_neg z]; omega
      have en : nx - min nx 16 + (i + (if min nx 16 = 16 then 1 else 0)) = nx + 1 - min (nx + 1) 16 + i := by
        by_cases z : min nx 16 = 16
        · rw [if_pos z]; omega
        · rw [if_neg z]; omega
      obtain ⟨c1, c2⟩ := h.rc _ hi2
      rw [en] at c1 c2
      refine ⟨?_, fun v hv1 hv2 => ?_⟩
      · have := ei 0 (by omega)
        rw [Nat.add_zero, Nat.add_zero] at this
        rw [this]; exact c1
      · rw [ei v hv2, ← c2 v hv1 hv2]
        exact ro _ (by omega)
  · rw [o 36 (by omega) (by omega) (by omega) (by omega) (by omega) (by omega) (by omega) (by omega), o 37 (by omega) (by omega) (by omega) (by omega) (by omega) (by omega) (by omega) (by omega)]; exact hsum
  · rw [M_fin_6]
    by_cases q : (nx + 1) % 8 = 0
    · rw [if_pos q]; exact M_trim_r _
    · rw [if_neg q, f6_o (by omega) (by omega) (by omega) (by omega) (by omega) (by omega) (by omega), hlo _ (by omega)]; exact h.tr
