theorem LI_S {dC : Nat → ClassId} {dI : Nat → Nat → Nat} {cy : Nat → ClassId} {s : State} {rx ry : Nat} {H : Heap} {locs : List Loc} (h : LI dC dI cy s rx ry H locs) : va_S (AAs s) s.heap H locs := by
  obtain ⟨_, _, _, _, _, _, _, _, _, _, _, _, _, _, _, _, _, hS, _⟩ := h
  exact hS
theorem lenc {L i : Nat} (hL : L ≤ 2560) (hi : i ≤ 2560) : (Int32.ofNat L - 5 < nI i) ↔ L < i + 5 := by
  have e1 : (Int32.ofNat L).toInt = L := nI_toInt (n := L) (by omega)
  have e5 : (5 : Int32).toInt = 5 := by decide
  have e2 : (Int32.ofNat L - 5).toInt = (L : Int) - 5 := by rw [fb_subI (by rw [e1, e5]; omega) (by rw [e1, e5]; omega), e1, e5]
  rw [fa_lt, e2, nI_toInt (by omega)]
  omega
set_option maxHeartbeats 4000000 in
set_option maxRecDepth 100000 in
theorem law_loop {p : Program} {l : Launch} {e : Env} {s : State} {m : MethodId} {below : List Frame} {meth : Method} {c : Code} {b L : Nat} {xs : Nat → Int32} {dC : Nat → ClassId} {dI : Nat → Nat → Nat} {cy : Nat → ClassId} {ts : Nat → Nat} {rx ry : Nat} (C0 : LC p s m meth c b L xs dC dI cy ts) : ∀ (n k : Nat), L < 5 * k + 5 * n + 5 → 5 * k ≤ L → ∀ (H : Heap) (locs : List Loc) (ls : Array Slot), LI dC dI cy s rx ry H locs → lv_has ls 4 [(3, .int (nI (5 * k))), (2, .ref ry), (1, .ref rx), (0, .ref b)] → W p l e room_1 s m #[Value.ref b] below meth c H locs (189 + 154 * k) (62176 + 7428 * k) (lw_Z below #[Value.ref b] s) (F0 m 18 ls []) := by
  obtain ⟨⟨hx, hb, hr, hml, hown0, hts0, hX, hbl, hlocks, hgv⟩, hL, hK, hG, hST⟩ := id C0
  have hbA : ¬ AAs s b := Nat.not_le.mpr hbl
  intro n
  induction n with
  | zero =>
    intro k h1 h2 H locs ls hI hl
    have hS := LI_S hI
    have hk5 : k ≤ 512 := by omega
    refine lv_iload_n hx hb dL_law_18 rfl (lv_at hl 0 rfl) ?_
    refine lv_aload_n hx hb dL_law_19 rfl (lv_at hl 3 rfl) ?_
    refine va_slen hx hb hX hbl hbA hS dL_law_20 ?_
    refine lv_iconst (v := 5) hx hb dL_law_21 (by decide) ?_
    refine lv_isub hx hb dL_law_22 ?_
    refine lv_icmp_gt (tgt := 1164) hx hb dL_law_23 (by decide) (fun _ => ?_) (fun hc => absurd ((lenc hL (by omega)).mpr (by omega)) hc)
    refine va_forget (fun q hq => hS.2.2 q hq) ?_
    refine W.widen (k := 600000) (n := 7302250) (by omega) (by omega) ?_
    refine lv_iconst (v := 1) hx hb dL_law_1164 (by decide) ?_
    exact lw_ret hx hb hr hlocks dL_law_1165
  | succ n ih =>
    intro k h1 h2 H locs ls hI hl
    have hS := LI_S hI
    have hk5 : k ≤ 512 := by omega
    refine lv_iload_n hx hb dL_law_18 rfl (lv_at hl 0 rfl) ?_
    refine lv_aload_n hx hb dL_law_19 rfl (lv_at hl 3 rfl) ?_
    refine va_slen hx hb hX hbl hbA hS dL_law_20 ?_
    refine lv_iconst (v := 5) hx hb dL_law_21 (by decide) ?_
    refine lv_isub hx hb dL_law_22 ?_
    refine lv_icmp_gt (tgt := 1164) hx hb dL_law_23 (by decide) (fun _ => ?_) (fun hc => ?_)
    · skip
      refine va_forget (fun q hq => hS.2.2 q hq) ?_
      refine W.widen (k := 600000) (n := 7302250) (by omega) (by omega) ?_
      refine lv_iconst (v := 1) hx hb dL_law_1164 (by decide) ?_
      exact lw_ret hx hb hr hlocks dL_law_1165
    have h5 : 5 * k + 5 ≤ L := by
      rcases Nat.lt_or_ge L (5 * k + 5) with y | y
      · exact absurd ((lenc hL (by omega)).mpr y) hc
      · exact y
    have next : ∀ (H : Heap) (locs : List Loc), LI dC dI cy s rx ry H locs → W p l e room_1 s m #[Value.ref b] below meth c H locs (189 + 154 * k + 154) (62176 + 7428 * k + 7428) (lw_Z below #[Value.ref b] s) (F0 m 1158 ls []) := by
      intro H locs hI
      refine lv_iinc (v := nI (5 * (k + 1))) (lv' := [(3, .int (nI (5 * (k + 1)))), (2, .ref ry), (1, .ref rx), (0, .ref b)]) hx hb dL_law_1158 hl (k := 0) rfl (by show nI (5 * k) + 5 = nI (5 * (k + 1)); rw [rA]; rfl) (by decide) rfl ?_
      intro ls hl
      refine lv_goto (tgt := 18) hx hb dL_law_1161 (by decide) ?_
      refine W.widen (k := 189 + 154 * (k + 1)) (n := 62176 + 7428 * (k + 1)) (by omega) (by omega) ?_
      exact ih (k + 1) (by omega) (by omega) H locs ls hI hl
    refine lv_aload_n hx hb dL_law_26 rfl (lv_at hl 3 rfl) ?_
    refine lv_iload_n hx hb dL_law_27 rfl (lv_at hl 0 rfl) ?_
    refine va_sld hx hb hX hbl hbA hS (vp_in_nI (by omega) (by omega)) dL_law_28 ?_
    refine lv_bipush (v := 31) hx hb dL_law_29 (by decide) ?_
    refine lv_iand hx hb dL_law_31 ?_
    refine lv_topi (fun x _ => ?_)
    by_cases hc0 : x = 0
    · refine lv_tableIn (tgt := 168) hx hb dL_law_32 (by rw [hc0]; decide) (by rw [hc0]; decide) (by rw [hc0]; rfl) (by decide) ?_
      exact st_tone C0 hI hl (by omega) (by omega) (by omega) next
    by_cases hc1 : x = 1
    · refine lv_tableIn (tgt := 221) hx hb dL_law_32 (by rw [hc1]; decide) (by rw [hc1]; decide) (by rw [hc1]; rfl) (by decide) ?_
      exact st_sets C0 hI hl (by omega) (by omega) (by omega) next
    by_cases hc2 : x = 2
    · refine lv_tableIn (tgt := 254) hx hb dL_law_32 (by rw [hc2]; decide) (by rw [hc2]; decide) (by rw [hc2]; rfl) (by decide) ?_
      exact st_loud C0 hI hl (by omega) (by omega) (by omega) next
    by_cases hc3 : x = 3
    · refine lv_tableIn (tgt := 287) hx hb dL_law_32 (by rw [hc3]; decide) (by rw [hc3]; decide) (by rw [hc3]; rfl) (by decide) ?_
      exact st_burst C0 hI hl (by omega) (by omega) (by omega) next
    by_cases hc4 : x = 4
    · refine lv_tableIn (tgt := 310) hx hb dL_law_32 (by rw [hc4]; decide) (by rw [hc4]; decide) (by rw [hc4]; rfl) (by decide) ?_
      exact st_run C0 hI hl (by omega) (by omega) (by omega) next
    by_cases hc5 : x = 5
    · refine lv_tableIn (tgt := 333) hx hb dL_law_32 (by rw [hc5]; decide) (by rw [hc5]; decide) (by rw [hc5]; rfl) (by decide) ?_
      exact st_restart C0 hI hl (by omega) (by omega) (by omega) next
    by_cases hc6 : x = 6
    · refine lv_tableIn (tgt := 346) hx hb dL_law_32 (by rw [hc6]; decide) (by rw [hc6]; decide) (by rw [hc6]; rfl) (by decide) ?_
      exact st_keep C0 hI hl (by omega) (by omega) (by omega) next
    by_cases hc7 : x = 7
    · refine lv_tableIn (tgt := 369) hx hb dL_law_32 (by rw [hc7]; decide) (by rw [hc7]; decide) (by rw [hc7]; rfl) (by decide) ?_
      exact st_again C0 hI hl (by omega) (by omega) (by omega) next
    by_cases hc8 : x = 8
    · refine lv_tableIn (tgt := 392) hx hb dL_law_32 (by rw [hc8]; decide) (by rw [hc8]; decide) (by rw [hc8]; rfl) (by decide) ?_
      exact st_source C0 hI hl (by omega) (by omega) (by omega) next
    by_cases hc9 : x = 9
    · refine lv_tableIn (tgt := 425) hx hb dL_law_32 (by rw [hc9]; decide) (by rw [hc9]; decide) (by rw [hc9]; rfl) (by decide) ?_
      exact st_band C0 hI hl (by omega) (by omega) (by omega) next
    by_cases hc10 : x = 10
    · refine lv_tableIn (tgt := 478) hx hb dL_law_32 (by rw [hc10]; decide) (by rw [hc10]; decide) (by rw [hc10]; rfl) (by decide) ?_
      exact st_dealt C0 hI hl (by omega) (by omega) (by omega) next
    by_cases hc11 : x = 11
    · refine lv_tableIn (tgt := 521) hx hb dL_law_32 (by rw [hc11]; decide) (by rw [hc11]; decide) (by rw [hc11]; rfl) (by decide) ?_
      exact st_code C0 hI hl (by omega) (by omega) (by omega) next
    by_cases hc12 : x = 12
    · refine lv_tableIn (tgt := 544) hx hb dL_law_32 (by rw [hc12]; decide) (by rw [hc12]; decide) (by rw [hc12]; rfl) (by decide) ?_
      exact st_dealtBy C0 hI hl (by omega) (by omega) (by omega) next
    by_cases hc13 : x = 13
    · refine lv_tableIn (tgt := 597) hx hb dL_law_32 (by rw [hc13]; decide) (by rw [hc13]; decide) (by rw [hc13]; rfl) (by decide) ?_
      exact st_cost C0 hI hl (by omega) (by omega) (by omega) next
    by_cases hc14 : x = 14
    · refine lv_tableIn (tgt := 630) hx hb dL_law_32 (by rw [hc14]; decide) (by rw [hc14]; decide) (by rw [hc14]; rfl) (by decide) ?_
      exact st_least C0 hI hl (by omega) (by omega) (by omega) next
    by_cases hc15 : x = 15
    · refine lv_tableIn (tgt := 663) hx hb dL_law_32 (by rw [hc15]; decide) (by rw [hc15]; decide) (by rw [hc15]; rfl) (by decide) ?_
      exact st_coded C0 hI hl (by omega) (by omega) (by omega) next
    by_cases hc16 : x = 16
    · refine lv_tableIn (tgt := 716) hx hb dL_law_32 (by rw [hc16]; decide) (by rw [hc16]; decide) (by rw [hc16]; rfl) (by decide) ?_
      exact st_worst C0 hI hl (by omega) (by omega) (by omega) next
    by_cases hc17 : x = 17
    · refine lv_tableIn (tgt := 759) hx hb dL_law_32 (by rw [hc17]; decide) (by rw [hc17]; decide) (by rw [hc17]; rfl) (by decide) ?_
      exact st_paired C0 hI hl (by omega) (by omega) (by omega) next
    by_cases hc18 : x = 18
    · refine lv_tableIn (tgt := 792) hx hb dL_law_32 (by rw [hc18]; decide) (by rw [hc18]; decide) (by rw [hc18]; rfl) (by decide) ?_
      exact st_share C0 hI hl (by omega) (by omega) (by omega) next
    by_cases hc19 : x = 19
    · refine lv_tableIn (tgt := 815) hx hb dL_law_32 (by rw [hc19]; decide) (by rw [hc19]; decide) (by rw [hc19]; rfl) (by decide) ?_
      exact st_damaged C0 hI hl (by omega) (by omega) (by omega) next
    by_cases hc20 : x = 20
    · refine lv_tableIn (tgt := 848) hx hb dL_law_32 (by rw [hc20]; decide) (by rw [hc20]; decide) (by rw [hc20]; rfl) (by decide) ?_
      exact st_heard C0 hI hl (by omega) (by omega) (by omega) next
    by_cases hc21 : x = 21
    · refine lv_tableIn (tgt := 881) hx hb dL_law_32 (by rw [hc21]; decide) (by rw [hc21]; decide) (by rw [hc21]; rfl) (by decide) ?_
      exact st_spectrum C0 hI hl (by omega) (by omega) (by omega) next
    by_cases hc22 : x = 22
    · refine lv_tableIn (tgt := 914) hx hb dL_law_32 (by rw [hc22]; decide) (by rw [hc22]; decide) (by rw [hc22]; rfl) (by decide) ?_
      exact st_madeUp C0 hI hl (by omega) (by omega) (by omega) next
    by_cases hc23 : x = 23
    · refine lv_tableIn (tgt := 947) hx hb dL_law_32 (by rw [hc23]; decide) (by rw [hc23]; decide) (by rw [hc23]; rfl) (by decide) ?_
      exact st_line C0 hI hl (by omega) (by omega) (by omega) next
    by_cases hc24 : x = 24
    · refine lv_tableIn (tgt := 980) hx hb dL_law_32 (by rw [hc24]; decide) (by rw [hc24]; decide) (by rw [hc24]; rfl) (by decide) ?_
      exact st_packet C0 hI hl (by omega) (by omega) (by omega) next
    by_cases hc25 : x = 25
    · refine lv_tableIn (tgt := 1013) hx hb dL_law_32 (by rw [hc25]; decide) (by rw [hc25]; decide) (by rw [hc25]; rfl) (by decide) ?_
      exact st_played C0 hI hl (by omega) (by omega) (by omega) next
    by_cases hc26 : x = 26
    · refine lv_tableIn (tgt := 1046) hx hb dL_law_32 (by rw [hc26]; decide) (by rw [hc26]; decide) (by rw [hc26]; rfl) (by decide) ?_
      exact st_late C0 hI hl (by omega) (by omega) (by omega) next
    by_cases hc27 : x = 27
    · refine lv_tableIn (tgt := 1069) hx hb dL_law_32 (by rw [hc27]; decide) (by rw [hc27]; decide) (by rw [hc27]; rfl) (by decide) ?_
      exact st_delays C0 hI hl (by omega) (by omega) (by omega) next
    by_cases hc28 : x = 28
    · refine lv_tableIn (tgt := 1102) hx hb dL_law_32 (by rw [hc28]; decide) (by rw [hc28]; decide) (by rw [hc28]; rfl) (by decide) ?_
      exact st_would C0 hI hl (by omega) (by omega) (by omega) next
    by_cases hc29 : x = 29
    · refine lv_tableIn (tgt := 1135) hx hb dL_law_32 (by rw [hc29]; decide) (by rw [hc29]; decide) (by rw [hc29]; rfl) (by decide) ?_
      exact st_count C0 hI hl (by omega) (by omega) (by omega) next
    refine lv_tableOut (tgt := 1158) hx hb dL_law_32 (by have e0 := sw_ne (n := 0) hc0 (by decide); have e1 := sw_ne (n := 1) hc1 (by decide); have e2 := sw_ne (n := 2) hc2 (by decide); have e3 := sw_ne (n := 3) hc3 (by decide); have e4 := sw_ne (n := 4) hc4 (by decide); have e5 := sw_ne (n := 5) hc5 (by decide); have e6 := sw_ne (n := 6) hc6 (by decide); have e7 := sw_ne (n := 7) hc7 (by decide); have e8 := sw_ne (n := 8) hc8 (by decide); have e9 := sw_ne (n := 9) hc9 (by decide); have e10 := sw_ne (n := 10) hc10 (by decide); have e11 := sw_ne (n := 11) hc11 (by decide); have e12 := sw_ne (n := 12) hc12 (by decide); have e13 := sw_ne (n := 13) hc13 (by decide); have e14 := sw_ne (n := 14) hc14 (by decide); have e15 := sw_ne (n := 15) hc15 (by decide); have e16 := sw_ne (n := 16) hc16 (by decide); have e17 := sw_ne (n := 17) hc17 (by decide); have e18 := sw_ne (n := 18) hc18 (by decide); have e19 := sw_ne (n := 19) hc19 (by decide); have e20 := sw_ne (n := 20) hc20 (by decide); have e21 := sw_ne (n := 21) hc21 (by decide); have e22 := sw_ne (n := 22) hc22 (by decide); have e23 := sw_ne (n := 23) hc23 (by decide); have e24 := sw_ne (n := 24) hc24 (by decide); have e25 := sw_ne (n := 25) hc25 (by decide); have e26 := sw_ne (n := 26) hc26 (by decide); have e27 := sw_ne (n := 27) hc27 (by decide); have e28 := sw_ne (n := 28) hc28 (by decide); have e29 := sw_ne (n := 29) hc29 (by decide); omega) (by decide) ?_
    exact W.widen (k := 189 + 154 * k + 154) (n := 62176 + 7428 * k + 7428) (by omega) (by omega) (next H locs hI)
