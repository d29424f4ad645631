/-! pure part 36: the reference's store, its tale of what was played -/
theorem bkH_c {f f' lo : Nat → Int32} {z : Nat} (h : ∀ j, j < 80 → f j = f' j) (hz : z ≤ 80) : bkH f z lo = bkH f' z lo := by
  have g : ∀ a n, getN f (8 * z) a n = getN f' (8 * z) a n := fun a n => getN_c (N := 80) h (by omega) n
  have h1 := h 1 (by omega)
  have h2 := h 2 (by omega)
  funext c b
  unfold bkH hQ hB hN hS
  simp only [g, h1, h2]
set_option maxHeartbeats 4000000 in
set_option maxRecDepth 100000 in
theorem t12_storeOf {k : Nat} {row : Nat → Int32} {post : Int32 → Prop} (h0 : (∀ s, s < 14 → ¬ row (2095 + 83 * s) = nI (k + 1)) → post (-1)) (h1 : ∀ s, s < 14 → row (2095 + 83 * s) = nI (k + 1) → post (nI (2095 + 83 * s))) : wp_X12_storeOf (nI k) row post := by
  unfold wp_X12_storeOf
  rintro _ rfl _ rfl
  refine cinv1 0 14 (fun n v => (v = -1 ∧ ∀ s, s < n → ¬ row (2095 + 83 * s) = nI (k + 1)) ∨ (∃ s, s < 14 ∧ v = nI (2095 + 83 * s) ∧ row (2095 + 83 * s) = nI (k + 1))) (Or.inl ⟨rfl, fun s hs => absurd hs (Nat.not_lt_zero _)⟩) ?_ ?_
  · intro n v _ hn hI g hg
    simp (disch := omega) only [lM, lA, rA, nI_clamp, vpT, true_and]
    intro k10 hk10
    refine ⟨fun q => hk10 _ (hg _ (Or.inr ⟨n, hn, rfl, q⟩)), fun q => hk10 _ (hg _ ?_)⟩
    rcases hI with ⟨e, ha⟩ | hb
    · refine Or.inl ⟨e, fun s hs => ?_⟩
      by_cases y : s = n
      · subst y; exact q
      · exact ha s (by omega)
    · exact Or.inr hb
  · intro v hI
    rcases hI with ⟨e, ha⟩ | ⟨s, hs, e, hr⟩
    · rw [e]; exact h0 ha
    · rw [e]; exact h1 s hs hr
def M_tl0 (tl : Nat) (row : Nat → Int32) : Nat → Int32 := if tl = 16 then (fun j => if 3257 ≤ j ∧ j < 3362 then row (j + 7) else if j = 52 then nI 15 else row j) else row
def M_tell (tl : Nat) (row : Nat → Int32) (v1 v2 v3 v4 v5 : Int32) : Nat → Int32 := upd (upd (upd (upd (upd (upd (upd (upd (M_tl0 tl row) (3257 + 7 * min tl 15) v1) (3257 + 7 * min tl 15 + 1) v2) (3257 + 7 * min tl 15 + 2) v3) (3257 + 7 * min tl 15 + 3) (row 33)) (3257 + 7 * min tl 15 + 4) v4) (3257 + 7 * min tl 15 + 5) v5) (3257 + 7 * min tl 15 + 6) (row 25)) 52 (nI (min tl 15 + 1))
set_option maxHeartbeats 4000000 in
set_option maxRecDepth 100000 in
theorem t12_tells {tl : Nat} {row : Nat → Int32} {v1 v2 v3 v4 v5 : Int32} {post : (Nat → Int32) → Prop} (htl : tl ≤ 16) (e : row 52 = nI tl) (h : post (M_tell tl row v1 v2 v3 v4 v5)) : wp_X12_tellsPlayed v1 v2 v3 v4 v5 row post := by
  unfold wp_X12_tellsPlayed
  rw [e]
  intro k3 hk3
  have fin : k3 (M_tl0 tl row) := by
    refine hk3 _ ?_
    have e52 : M_tl0 tl row 52 = nI (min tl 15) := by
      unfold M_tl0
      by_cases q : tl = 16
      · rw [if_pos q, q]; rfl
      · rw [if_neg q, e, show min tl 15 = tl by omega]
    have e33 : M_tl0 tl row 33 = row 33 := by
      unfold M_tl0
      by_cases q : tl = 16
      · rw [if_pos q]; rfl
      · rw [if_neg q]
    have e25 : M_tl0 tl row 25 = row 25 := by
      unfold M_tl0
      by_cases q : tl = 16
      · rw [if_pos q]; rfl
      · rw [if_neg q]
    unfold M_tell at h
    have hmin : min tl 15 ≤ 15 := Nat.min_le_right _ _
    generalize min tl 15 = y at e52 hmin h
    rw [e52]
    simp (disch := omega) only [lM, lA, rA, nI_clamp, vpT, true_and, forall_eq]
    have u33 : ∀ (f : Nat → Int32) (a b c : Int32), upd (upd (upd f (3257 + 7 * y) a) (3257 + 7 * y + 1) b) (3257 + 7 * y + 2) c 33 = f 33 := fun f a b c => by
      rw [pk_un (by omega), pk_un (by omega), pk_un (by omega)]
    have u25 : ∀ (f : Nat → Int32) (a b c d g i : Int32), upd (upd (upd (upd (upd (upd f (3257 + 7 * y) a) (3257 + 7 * y + 1) b) (3257 + 7 * y + 2) c) (3257 + 7 * y + 3) d) (3257 + 7 * y + 4) g) (3257 + 7 * y + 5) i 25 = f 25 := fun f a b c d g i => by
      rw [pk_un (by omega), pk_un (by omega), pk_un (by omega), pk_un (by omega), pk_un (by omega), pk_un (by omega)]
    have u52 : ∀ (f : Nat → Int32) (a b c d g i l : Int32), upd (upd (upd (upd (upd (upd (upd f (3257 + 7 * y) a) (3257 + 7 * y + 1) b) (3257 + 7 * y + 2) c) (3257 + 7 * y + 3) d) (3257 + 7 * y + 4) g) (3257 + 7 * y + 5) i) (3257 + 7 * y + 6) l 52 = f 52 := fun f a b c d g i l => by
      rw [pk_un (by omega), pk_un (by omega), pk_un (by omega), pk_un (by omega), pk_un (by omega), pk_un (by omega), pk_un (by omega)]
    simp only [u33, u25, u52, e33, e25, e52]
    simp (disch := omega) only [rA]
    exact h
  refine ⟨fun q => ?_, fun q => ?_⟩
  · have q16 : tl = 16 := (nI_eq (b := 16) (by omega) (by omega)).mp q
    subst q16
    rintro _ rfl _ rfl
    refine Lz2_by (fun i f => ∃ j, 3257 ≤ j ∧ j ≤ 3362 ∧ i = nI j ∧ ∀ n, f n = if 3257 ≤ n ∧ n < j then row (n + 7) else if n = 52 then nI 15 else row n) (fun i _ => 3362 - i.toNatClampNeg) _ _ ⟨3257, by omega, by omega, rfl, fun n => ?_⟩ ?_
    · rw [if_neg (by omega)]
      by_cases y : n = 52
      · rw [y, pk_us, if_pos rfl]; rfl
      · rw [pk_un y, if_neg y]
    · rintro _ f ⟨j, j1, j2, rfl, hf⟩ again hag
      have f52 : f 52 = nI 15 := by rw [hf, if_neg (by omega), if_pos rfl]
      rw [f52]
      refine ⟨fun y => ?_, fun y => ?_⟩
      · have y2 : (nI 3362) ≤ nI j := y
        have y3 := (nI_leI (by omega) (by omega)).mp y2
        have ej : j = 3362 := by omega
        have ef : f = M_tl0 16 row := by
          funext n
          rw [hf, ej]; unfold M_tl0; rw [if_pos rfl]
        rw [ef]; exact fin
      · have y4 : j < 3362 := by
          rcases Nat.lt_or_ge j 3362 with z | z
          · exact z
          · exact absurd (show (nI 3362) ≤ nI j from (nI_leI (by omega) (by omega)).mpr z) y
        simp (disch := omega) only [rA, nI_clamp, vpT, true_and, forall_eq]
        refine hag (nI (j + 1)) _ ⟨j + 1, by omega, by omega, rfl, fun n => ?_⟩ ?_
        · by_cases w : n = j
          · subst w
            rw [pk_us, if_pos (by omega), hf, if_neg (by omega), if_neg (by omega)]
          · rw [pk_un w, hf]
            by_cases w2 : 3257 ≤ n ∧ n < j
            · rw [if_pos w2, if_pos (by omega)]
            · rw [if_neg w2, if_neg (show ¬ (3257 ≤ n ∧ n < j + 1) by omega)]
        · show 3362 - (nI (j + 1)).toNatClampNeg < 3362 - (nI j).toNatClampNeg
          rw [nI_clamp (by omega), nI_clamp (by omega)]; omega
  · have q16 : ¬ tl = 16 := fun y => q (by rw [y]; rfl)
    have ef : M_tl0 tl row = row := by unfold M_tl0; rw [if_neg q16]
    rw [ef] at fin; exact fin
