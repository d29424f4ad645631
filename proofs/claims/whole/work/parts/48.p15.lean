/-! pure part 15: the reference's codeFrame -/
def M_line (k : Nat) (r : Nat → Int32) : Nat → Int32 := fun j => if 735 + 170 * tN (r 51) ≤ j ∧ j < 735 + 170 * tN (r 51) + 164 then (if j = 735 + 170 * tN (r 51) then nI k else if j = 735 + 170 * tN (r 51) + 1 then r 654 else if j = 735 + 170 * tN (r 51) + 2 then r 14 else if j = 735 + 170 * tN (r 51) + 3 then 0 else if j < 735 + 170 * tN (r 51) + 84 then r (655 + (j - (735 + 170 * tN (r 51) + 4))) else r (655 + (j - (735 + 170 * tN (r 51) + 84)))) else r j
def M_enq (k : Nat) (r : Nat → Int32) : Nat → Int32 := upd (upd (upd (upd (upd (M_line k r) 51 (r 51 + 1)) (3385 + 4 * k) 1) (3385 + 4 * k + 3) (-1)) 26 (r 26 + 1)) 42 (r 42 + r 654)
def stV (r : Nat → Int32) : Int32 := if r 50 ≤ 0 then near (r 43 + 2) 2 (r 7) else near ((3 * r 43) / 4) 2 128
def M_steer (r : Nat → Int32) : Nat → Int32 := upd (if r 15 = 1 then upd r 43 (stV r) else r) 50 0
def M_cf (k : Nat) (row : Nat → Int32) : Nat → Int32 := if k % 8 = 7 then M_steer (M_enq k (M_cc k row)) else M_enq k (M_cc k row)
theorem t12_steers {r : Nat → Int32} {post : (Nat → Int32) → Prop} (h43 : ∃ v, v ≤ 128 ∧ r 43 = nI v) (h : post (M_steer r)) : wp_X12_steers r post := by
  obtain ⟨v, hv, e43⟩ := h43
  unfold wp_X12_steers
  intro k3 hk3
  have fin : k3 (if r 15 = 1 then upd r 43 (stV r) else r) := hk3 _ (by rintro _ rfl; exact h)
  refine ⟨fun q => ?_, fun q => ?_⟩
  · rw [if_pos q] at fin
    rintro _ rfl
    intro k12 hk12
    have fin2 : k12 (stV r) := hk12 _ (by rintro _ rfl; exact fin)
    unfold stV at fin2
    refine ⟨fun z => ?_, fun z => ?_⟩
    · rw [if_pos z] at fin2
      have e : (r 43).toInt64 + (2 : Int64) = (r 43 + 2).toInt64 := by
        rw [e43, nI_l (by omega), rA, nI_l (by omega)]; exact lN_add v 2
      rw [e]
      exact t_nearI 2 (r 7) fin2 (by decide) rfl
    · rw [if_neg z] at fin2
      rintro _ rfl
      exact t_nearI 2 128 fin2
  · rw [if_neg q] at fin; exact fin
set_option maxHeartbeats 4000000 in
set_option maxRecDepth 100000 in
theorem t12_codeFrame {k ln : Nat} {S D bit : Int32} {row eight rows bytes scales dealt : Nat → Int32} {post : Int32 → Int32 → Int32 → (Nat → Int32) → (Nat → Int32) → (Nat → Int32) → (Nat → Int32) → (Nat → Int32) → (Nat → Int32) → Prop} (hk : k < 2500) (hok : okSet row) (h43 : ∃ P, P ≤ 128 ∧ row 43 = nI P) (h51 : row 51 = nI ln) (hln : ln ≤ 5)
    (h : ∀ (S' D' bit' : Int32) (eight' rows' bytes' scales' dealt' : Nat → Int32), post S' D' bit' (M_cf k row) eight' rows' bytes' scales' dealt') :
    wp_X12_codeFrame (nI k) S D bit row eight rows bytes scales dealt post := by
  unfold wp_X12_codeFrame
  refine t12_cc (by omega) hok h43 (fun x1 x2 x7 f4 f5 f8 f10 f11 => ?_)
  have lo : ∀ j, j < 53 → M_cc k row j = row j := fun j hj => (M_cc_is k row).2.2.2.2.2.2.2.2 j (by omega) (by omega)
  have h43' : ∃ P, P ≤ 128 ∧ M_cc k row 43 = nI P := by rw [lo 43 (by omega)]; exact h43
  have e51 : M_cc k row 51 = nI ln := by rw [lo 51 (by omega)]; exact h51
  unfold M_cf at h
  generalize M_cc k row = r at h e51 h43' ⊢
  have t51 : tN (r 51) = ln := by rw [e51]; exact nI_clamp (by omega)
  unfold wp_X12_lineAt
  rw [e51]
  simp (disch := omega) only [lA, lM, rA, nI_add, nI_clamp, vpT, true_and, forall_eq, Nat.add_zero, pk_un]
  refine cinv1 0 80 (fun n f => ∀ j, f j = if 735 + 170 * ln + 4 + n ≤ j ∧ j < 735 + 170 * ln + 84 then r j else if 735 + 170 * ln + 84 + n ≤ j then r j else M_line k r j) (fun j => ?_) ?_ ?_
  · unfold M_line
    rw [t51]
    by_cases a : j < 735 + 170 * ln
    · rw [pk_un (by omega), pk_un (by omega), pk_un (by omega), pk_un (by omega), if_neg (by omega), if_neg (by omega), if_neg (by omega)]
    · by_cases b : j < 735 + 170 * ln + 4
      · rw [if_neg (by omega), if_neg (by omega), if_pos (by omega)]
        have hj : j = 735 + 170 * ln ∨ j = 735 + 170 * ln + 1 ∨ j = 735 + 170 * ln + 2 ∨ j = 735 + 170 * ln + 3 := by omega
        rcases hj with e | e | e | e
        · rw [if_pos e, e, pk_un (by omega), pk_un (by omega), pk_un (by omega), pk_us]
        · rw [if_neg (by omega), if_pos e, e, pk_un (by omega), pk_un (by omega), pk_us]
        · rw [if_neg (by omega), if_neg (by omega), if_pos e, e, pk_un (by omega), pk_us]
        · rw [if_neg (by omega), if_neg (by omega), if_neg (by omega), if_pos e, e, pk_us]
      · rw [pk_un (by omega), pk_un (by omega), pk_un (by omega), pk_un (by omega)]
        by_cases c : j < 735 + 170 * ln + 84
        · rw [if_pos (by omega)]
        · rw [if_neg (by omega), if_pos (by omega)]
  · intro n f _ hn hI g hg
    have e655 : f (655 + n) = r (655 + n) := by
      rw [hI, if_neg (by omega), if_neg (by omega)]
      unfold M_line; rw [t51, if_neg (by omega)]
    simp (disch := omega) only [lA, rA, nI_add, nI_clamp, vpT, true_and, forall_eq, pk_un, e655]
    refine hg _ (fun j => ?_)
    by_cases c1 : j = 735 + 170 * ln + 84 + n
    · rw [c1, pk_us, if_neg (by omega), if_neg (by omega)]
      unfold M_line
      rw [t51, if_pos (by omega), if_neg (by omega), if_neg (by omega), if_neg (by omega), if_neg (by omega), if_neg (by omega), show 735 + 170 * ln + 84 + n - (735 + 170 * ln + 84) = n by omega]
    · rw [pk_un c1]
      by_cases c2 : j = 735 + 170 * ln + 4 + n
      · rw [c2, pk_us, if_neg (by omega), if_neg (by omega)]
        unfold M_line
        rw [t51, if_pos (by omega), if_neg (by omega), if_neg (by omega), if_neg (by omega), if_neg (by omega), if_pos (by omega), show 735 + 170 * ln + 4 + n - (735 + 170 * ln + 4) = n by omega]
      · rw [pk_un c2, hI j]
        by_cases d1 : 735 + 170 * ln + 4 + n ≤ j ∧ j < 735 + 170 * ln + 84
        · rw [if_pos d1, if_pos (by omega)]
        · rw [if_neg d1, if_neg (show ¬ (735 + 170 * ln + 4 + (n + 1) ≤ j ∧ j < 735 + 170 * ln + 84) by omega)]
          by_cases d2 : 735 + 170 * ln + 84 + n ≤ j
          · rw [if_pos d2, if_pos (by omega)]
          · rw [if_neg d2, if_neg (by omega)]
  · intro f hI
    have ef : f = M_line k r := by
      funext j
      rw [hI j, if_neg (by omega)]
      by_cases d2 : 735 + 170 * ln + 84 + 80 ≤ j
      · rw [if_pos d2]; unfold M_line; rw [t51, if_neg (by omega)]
      · rw [if_neg d2]
    subst ef
    have lowL : ∀ j, j < 735 → M_line k r j = r j := fun j hj => by unfold M_line; rw [t51, if_neg (by omega)]
    unfold wp_X12_packetAt
    simp (disch := omega) only [lA, lM, rA, rR, nI_clamp, vpT, true_and, Nat.add_zero, pk_un, lowL]
    have eM : upd (upd (upd (upd (upd (M_line k r) 51 (r 51 + 1)) (3385 + 4 * k) 1) (3385 + 4 * k + 3) (-1)) 26 (r 26 + 1)) 42 (r 42 + r 654) = M_enq k r := rfl
    rw [eM]
    refine ⟨fun q => ?_, fun q => ?_⟩
    · have h7 : k % 8 = 7 := (nI_eq (b := 7) (by omega) (by omega)).mp q
      rw [if_pos h7] at h
      refine t12_steers ?_ (h _ _ _ _ _ _ _ _)
      unfold M_enq
      rw [pk_un (by omega), pk_un (by omega), pk_un (by omega), pk_un (by omega), pk_un (by omega), lowL 43 (by omega)]
      exact h43'
    · have h7 : ¬ k % 8 = 7 := fun z => q (by rw [z]; rfl)
      rw [if_neg h7] at h
      exact h _ _ _ _ _ _ _ _
