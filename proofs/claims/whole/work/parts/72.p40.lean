/-! pure part 40: what a FRAME PLAYED leaves in the row -/
def M_f6 (x8 : Int32) (sd nx tl : Nat) (lv fd : Int32) (cm row : Nat → Int32) : Nat → Int32 :=
  let r1 := M_keep cm row
  let o := od row sd nx cm
  let r2 := upd r1 41 (if x8 = 0 then r1 41 else omx o (r1 41) 64)
  let r3 := upd r2 40 (r2 40 + (if x8 = 0 then 0 else osm o 64))
  let r4 := if nx < 2500 then upd r3 (3385 + 4 * nx + 2) (hv x8) else r3
  upd (M_tell tl r4 (nI nx) (hv x8) lv (osm o 64) fd) 30 (nI (nx + 1))
theorem M_fin_6 (x8 : Int32) (sd nx tl : Nat) (lv fd : Int32) (cm row : Nat → Int32) : M_fin x8 sd nx tl lv fd cm row = if (nx + 1) % 8 = 0 then M_trim (M_f6 x8 sd nx tl lv fd cm row) else M_f6 x8 sd nx tl lv fd cm row := rfl
def M_r4 (x8 : Int32) (sd nx : Nat) (cm row : Nat → Int32) : Nat → Int32 :=
  let r1 := M_keep cm row
  let o := od row sd nx cm
  let r2 := upd r1 41 (if x8 = 0 then r1 41 else omx o (r1 41) 64)
  let r3 := upd r2 40 (r2 40 + (if x8 = 0 then 0 else osm o 64))
  if nx < 2500 then upd r3 (3385 + 4 * nx + 2) (hv x8) else r3
theorem M_f6_4 (x8 : Int32) (sd nx tl : Nat) (lv fd : Int32) (cm row : Nat → Int32) : M_f6 x8 sd nx tl lv fd cm row = upd (M_tell tl (M_r4 x8 sd nx cm row) (nI nx) (hv x8) lv (osm (od row sd nx cm) 64) fd) 30 (nI (nx + 1)) := rfl
theorem r4_o {x8 : Int32} {sd nx : Nat} {cm row : Nat → Int32} {j : Nat} (h1 : j < 109 ∨ 493 ≤ j) (h2 : j ≠ 40) (h3 : j ≠ 41) (h4 : j ≠ 3385 + 4 * nx + 2) : M_r4 x8 sd nx cm row j = row j := by
  have k := M_keep_o (cm := cm) (row := row) h1
  unfold M_r4
  by_cases q : nx < 2500
  · rw [if_pos q, pk_un h4, pk_un h2, pk_un h3, k]
  · rw [if_neg q, pk_un h2, pk_un h3, k]
theorem r4_k {x8 : Int32} {sd nx : Nat} {cm row : Nat → Int32} {j : Nat} (h1 : 109 ≤ j) (h2 : j < 493) : M_r4 x8 sd nx cm row j = M_keep cm row j := by
  unfold M_r4
  by_cases q : nx < 2500
  · rw [if_pos q, pk_un (by omega), pk_un (by omega), pk_un (by omega)]
  · rw [if_neg q, pk_un (by omega), pk_un (by omega)]
theorem r4_40 {x8 : Int32} {sd nx : Nat} {cm row : Nat → Int32} : M_r4 x8 sd nx cm row 40 = row 40 + (if x8 = 0 then 0 else osm (od row sd nx cm) 64) := by
  have k := M_keep_o (cm := cm) (row := row) (j := 40) (by omega)
  unfold M_r4
  by_cases q : nx < 2500
  · rw [if_pos q, pk_un (by omega), pk_us, pk_un (by omega), k]
  · rw [if_neg q, pk_us, pk_un (by omega), k]
theorem r4_41 {x8 : Int32} {sd nx : Nat} {cm row : Nat → Int32} : M_r4 x8 sd nx cm row 41 = if x8 = 0 then row 41 else omx (od row sd nx cm) (row 41) 64 := by
  have k := M_keep_o (cm := cm) (row := row) (j := 41) (by omega)
  unfold M_r4
  by_cases q : nx < 2500
  · rw [if_pos q, pk_un (by omega), pk_un (by omega), pk_us, k]
  · rw [if_neg q, pk_un (by omega), pk_us, k]
theorem r4_h {x8 : Int32} {sd nx : Nat} {cm row : Nat → Int32} (h : nx < 2500) : M_r4 x8 sd nx cm row (3385 + 4 * nx + 2) = hv x8 := by
  unfold M_r4
  rw [if_pos h, pk_us]
theorem f6_o {x8 : Int32} {sd nx tl : Nat} {lv fd : Int32} {cm row : Nat → Int32} {j : Nat} (h1 : j < 109 ∨ 493 ≤ j) (h0 : j ≠ 30) (h2 : j ≠ 40) (h3 : j ≠ 41) (h5 : j ≠ 52) (h6 : j < 3257 ∨ 3369 ≤ j) (h4 : j ≠ 3385 + 4 * nx + 2) : M_f6 x8 sd nx tl lv fd cm row j = row j := by
  rw [M_f6_4, pk_un h0, M_tell_o h6 h5, r4_o h1 h2 h3 h4]
theorem f6_4 {x8 : Int32} {sd nx tl : Nat} {lv fd : Int32} {cm row : Nat → Int32} {j : Nat} (h0 : j ≠ 30) (h5 : j ≠ 52) (h6 : j < 3257 ∨ 3369 ≤ j) : M_f6 x8 sd nx tl lv fd cm row j = M_r4 x8 sd nx cm row j := by
  rw [M_f6_4, pk_un h0, M_tell_o h6 h5]
theorem f6_30 {x8 : Int32} {sd nx tl : Nat} {lv fd : Int32} {cm row : Nat → Int32} : M_f6 x8 sd nx tl lv fd cm row 30 = nI (nx + 1) := by
  rw [M_f6_4, pk_us]
theorem M_trim_f {row : Nat → Int32} {j : Nat} {v : Int32} {b : Prop} [Decidable b] (h : j < 33 ∨ 36 ≤ j) (e : row j = v) : (if b then M_trim row else row) j = v := by
  by_cases q : b
  · rw [if_pos q, M_trim_o h]; exact e
  · rw [if_neg q]; exact e
/-- the numbers of the class behind compare and NEXT's step -/
theorem f6_num {x8 : Int32} {sd nx tl : Nat} {lv fd : Int32} {cm row nb : Nat → Int32} (h : rNum nb row) (hx : x8 = 0 ∨ x8 = 1) (h41 : ¬ row 41 < 0) : rNum (upd (cmpN nb x8 (osm (od row sd nx cm) 64) (omx (od row sd nx cm) 0 64)) 7 (nI (nx + 1))) (M_f6 x8 sd nx tl lv fd cm row) := by
  generalize hs : osm (od row sd nx cm) 64 = s
  generalize hm0 : omx (od row sd nx cm) 0 64 = m
  intro j hj h6 h38 h39
  have hlt := hm_lt j hj h6 h38 h39
  have h7 : hm 7 = 30 := by decide
  have h17 : hm 17 = 40 := by decide
  have h18 : hm 18 = 41 := by decide
  by_cases q7 : j = 7
  · rw [q7, pk_us, h7, f6_30]
  have n30 : hm j ≠ 30 := fun q => q7 (hm_inj j hj 7 (by omega) (by rw [h7]; exact q))
  rw [pk_un q7, f6_4 n30 (by omega) (by omega)]
  have e17 : nb 17 = row 40 := by rw [← h17]; exact h 17 (by omega) (by omega) (by omega) (by omega)
  have e18 : nb 18 = row 41 := by rw [← h18]; exact h 18 (by omega) (by omega) (by omega) (by omega)
  by_cases q17 : j = 17
  · rw [q17, h17, r4_40, hs]
    unfold cmpN
    by_cases z : x8 = 0
    · rw [if_pos z, if_pos z, e17]; exact (Int32.add_zero _).symm
    · rw [if_neg z, if_neg z, pk_un (by omega), pk_us, e17]
  by_cases q18 : j = 18
  · rw [q18, h18, r4_41]
    unfold cmpN
    by_cases z : x8 = 0
    · rw [if_pos z, if_pos z, e18]
    · rw [if_neg z, if_neg z, pk_us, e18, omx_w h41, hm0]
  have n40 : hm j ≠ 40 := fun q => q17 (hm_inj j hj 17 (by omega) (by rw [h17]; exact q))
  have n41 : hm j ≠ 41 := fun q => q18 (hm_inj j hj 18 (by omega) (by rw [h18]; exact q))
  rw [r4_o (by omega) n40 n41 (by omega)]
  have : cmpN nb x8 s m j = nb j := by
    unfold cmpN
    by_cases z : x8 = 0
    · rw [if_pos z]
    · rw [if_neg z, pk_un q18, pk_un q17]
  rw [this]; exact h j hj h6 h38 h39
