/-! pure part 41: the player's side of the relation; a FRAME PLAYED -/
def rPl (nx : Nat) (eA0 eB0 eA1 eB1 e0 e1 recs row : Nat → Int32) : Prop :=
  (rMem eA0 eB0 81 row) ∧
  (rMem eA1 eB1 95 row) ∧
  (rEar e0 e1 row) ∧
  (∀ c, c < 2 → inR (hR row c) 192) ∧
  (∃ mn, mn ≤ nx ∧ row 38 = nI mn) ∧
  (¬ row 41 < 0) ∧
  (row 52 = nI (min nx 16)) ∧
  (∀ i, i < min nx 16 → row (3257 + 7 * i) = nI (nx - min nx 16 + i) ∧ ∀ w, 1 ≤ w → w < 7 → recs (7 * ((nx - min nx 16 + i) % 16) + w) = row (3257 + 7 * i + w)) ∧
  (row 36 + row 37 = nI nx) ∧
  (-100 ≤ (row 33).toInt ∧ (row 33).toInt ≤ 100)
theorem rPl.m0 {nx : Nat} {eA0 eB0 eA1 eB1 e0 e1 recs row : Nat → Int32} (h : rPl nx eA0 eB0 eA1 eB1 e0 e1 recs row) : rMem eA0 eB0 81 row := h.1
theorem rPl.m1 {nx : Nat} {eA0 eB0 eA1 eB1 e0 e1 recs row : Nat → Int32} (h : rPl nx eA0 eB0 eA1 eB1 e0 e1 recs row) : rMem eA1 eB1 95 row := h.2.1
theorem rPl.ear {nx : Nat} {eA0 eB0 eA1 eB1 e0 e1 recs row : Nat → Int32} (h : rPl nx eA0 eB0 eA1 eB1 e0 e1 recs row) : rEar e0 e1 row := h.2.2.1
theorem rPl.inr {nx : Nat} {eA0 eB0 eA1 eB1 e0 e1 recs row : Nat → Int32} (h : rPl nx eA0 eB0 eA1 eB1 e0 e1 recs row) : ∀ c, c < 2 → inR (hR row c) 192 := h.2.2.2.1
theorem rPl.mn {nx : Nat} {eA0 eB0 eA1 eB1 e0 e1 recs row : Nat → Int32} (h : rPl nx eA0 eB0 eA1 eB1 e0 e1 recs row) : ∃ mn, mn ≤ nx ∧ row 38 = nI mn := h.2.2.2.2.1
theorem rPl.off {nx : Nat} {eA0 eB0 eA1 eB1 e0 e1 recs row : Nat → Int32} (h : rPl nx eA0 eB0 eA1 eB1 e0 e1 recs row) : ¬ row 41 < 0 := h.2.2.2.2.2.1
theorem rPl.tl {nx : Nat} {eA0 eB0 eA1 eB1 e0 e1 recs row : Nat → Int32} (h : rPl nx eA0 eB0 eA1 eB1 e0 e1 recs row) : row 52 = nI (min nx 16) := h.2.2.2.2.2.2.1
theorem rPl.rc {nx : Nat} {eA0 eB0 eA1 eB1 e0 e1 recs row : Nat → Int32} (h : rPl nx eA0 eB0 eA1 eB1 e0 e1 recs row) : ∀ i, i < min nx 16 → row (3257 + 7 * i) = nI (nx - min nx 16 + i) ∧ ∀ w, 1 ≤ w → w < 7 → recs (7 * ((nx - min nx 16 + i) % 16) + w) = row (3257 + 7 * i + w) := h.2.2.2.2.2.2.2.1
theorem rPl.sum {nx : Nat} {eA0 eB0 eA1 eB1 e0 e1 recs row : Nat → Int32} (h : rPl nx eA0 eB0 eA1 eB1 e0 e1 recs row) : row 36 + row 37 = nI nx := h.2.2.2.2.2.2.2.2.1
theorem rPl.tr {nx : Nat} {eA0 eB0 eA1 eB1 e0 e1 recs row : Nat → Int32} (h : rPl nx eA0 eB0 eA1 eB1 e0 e1 recs row) : -100 ≤ (row 33).toInt ∧ (row 33).toInt ≤ 100 := h.2.2.2.2.2.2.2.2.2
theorem rBuf_no {bl hb nx fr : Nat} {bnum : Nat → Int32} {bcb : Nat → Nat → Int32} {bcsz : Nat → Int32} {row row' : Nat → Int32} (h : rBuf bl hb nx fr bnum bcb bcsz row) (e30 : row 30 = nI nx) (hx : nx < 5000) (hno : ∀ s, s < 14 → ¬ row (2095 + 83 * s) = nI (nx + 1)) (e : ∀ j, 2095 ≤ j → j < 3257 → row' j = row j) (e30' : row' 30 = nI (nx + 1)) : rBuf bl hb (nx + 1) fr bnum bcb bcsz row' := by
  obtain ⟨h1, h2, h3, h4, h5, bn, h6, h7, h8⟩ := h
  have es : ∀ s, s < 14 → row' (2095 + 83 * s) = row (2095 + 83 * s) := fun s hs => e _ (by omega) (by omega)
  have hl : ∀ s, s < 14 → ((¬ row' (2095 + 83 * s) ≤ row' 30) ↔ ¬ row (2095 + 83 * s) ≤ row 30) := fun s hs => by
    obtain ⟨v, hv, ev⟩ := h4 s hs
    have hn := hno s hs
    rw [es s hs, e30', e30, ev, nI_leI (by omega) (by omega), nI_leI (by omega) (by omega)]
    rw [ev, nI_eq (by omega) (by omega)] at hn
    omega
  refine ⟨h1, h2, ?_, fun s hs => by rw [es s hs]; exact h4 s hs, fun s s' hs hs' hlive heq => h5 s s' hs hs' ((hl s hs).mp hlive) (by rw [es s hs, es s' hs'] at heq; exact heq), bn, fun i hi => ?_, h7, fun s hs hlive => ?_⟩
  · rw [← h3]; unfold lev
    exact fb_ct_cong (fun s hs => decide_eq_decide.mpr (hl s hs))
  · obtain ⟨b1, b2, b3, s, hs, b4⟩ := h6 i hi
    refine ⟨b1, ?_, b3, s, hs, ?_⟩
    · have hn := hno s hs
      rw [b4.1] at hn
      have : bn i ≠ nx := fun q => hn (by rw [q])
      omega
    · obtain ⟨c1, z, c2, c3, c4, c5, c6, c7⟩ := b4
      exact ⟨by rw [es s hs]; exact c1, z, c2, c3, by rw [e _ (by omega) (by omega)]; exact c4, c5, fun j hj => by rw [e _ (by omega) (by omega)]; exact c6 j hj, c7⟩
  · rw [es s hs]; exact h8 s hs ((hl s hs).mp hlive)
theorem rBuf_yes {bl hb nx fr : Nat} {bnum : Nat → Int32} {bcb : Nat → Nat → Int32} {bcsz : Nat → Int32} {row row' : Nat → Int32} (h : rBuf bl hb nx fr bnum bcb bcsz row) (hfr : fr ≤ 2500) (e30 : row 30 = nI nx) (hx : nx < 5000) (hb0 : 0 < bl) (hb1 : bnum hb = nI nx) (e : ∀ j, 2095 ≤ j → j < 3257 → row' j = row j) (e30' : row' 30 = nI (nx + 1)) : rBuf (bl - 1) ((hb + 1) % 12) (nx + 1) fr bnum bcb bcsz row' := by
  obtain ⟨h1, h2, h3, h4, h5, bn, h6, h7, h8⟩ := h
  have es : ∀ s, s < 14 → row' (2095 + 83 * s) = row (2095 + 83 * s) := fun s hs => e _ (by omega) (by omega)
  obtain ⟨b1, b2, b3, S, hS, b4, _⟩ := h6 0 hb0
  rw [Nat.add_zero, Nat.mod_eq_of_lt h2, hb1] at b1
  have b0 : bn 0 = nx := ((nI_eq (a := nx) (b := bn 0) (by omega) (by omega)).mp b1).symm
  rw [b0] at b4
  have hl : ∀ s, s < 14 → ((¬ row' (2095 + 83 * s) ≤ row' 30) ↔ (s ≠ S ∧ ¬ row (2095 + 83 * s) ≤ row 30)) := fun s hs => by
    obtain ⟨v, hv, ev⟩ := h4 s hs
    have hS' : ¬ row (2095 + 83 * S) ≤ row 30 := by rw [b4, e30, nI_leI (by omega) (by omega)]; omega
    have hu := h5 S s hS hs hS'
    rw [b4, ev] at hu
    rw [es s hs, e30', e30, ev, nI_leI (by omega) (by omega), nI_leI (by omega) (by omega)]
    constructor
    · intro q
      refine ⟨fun y => ?_, by omega⟩
      rw [y, b4] at ev
      have := (nI_eq (a := nx + 1) (b := v) (by omega) (by omega)).mp ev
      omega
    · rintro ⟨q1, q2⟩ q3
      have : v = nx + 1 := by omega
      exact q1 (hu (by rw [this]))
  refine ⟨by omega, by omega, ?_, fun s hs => by rw [es s hs]; exact h4 s hs, fun s s' hs hs' hlive heq => h5 s s' hs hs' ((hl s hs).mp hlive).2 (by rw [es s hs, es s' hs'] at heq; exact heq), fun i => bn (i + 1), fun i hi => ?_, fun i j hij hj => h7 _ _ (by omega) (by omega), fun s hs hlive => ?_⟩
  · have hS' : ¬ row (2095 + 83 * S) ≤ row 30 := by rw [b4, e30, nI_leI (by omega) (by omega)]; omega
    have hu := fb_ct_upd (fun s => decide (¬ row (2095 + 83 * s) ≤ row 30)) false hS
    have hp : (decide (¬ row (2095 + 83 * S) ≤ row 30)) = true := decide_eq_true hS'
    have hc : fb_ct (fun s => decide (¬ row' (2095 + 83 * s) ≤ row' 30)) 14 = fb_ct (fun s => if s = S then false else decide (¬ row (2095 + 83 * s) ≤ row 30)) 14 := fb_ct_cong (fun s hs => by
      have := hl s hs
      by_cases q : s = S
      · rw [if_pos q]; exact decide_eq_false (fun y => (this.mp y).1 q)
      · rw [if_neg q]
        exact decide_eq_decide.mpr ⟨fun y => (this.mp y).2, fun y => this.mpr ⟨q, y⟩⟩)
    unfold lev at h3 ⊢
    rw [hc]
    simp only [hp] at hu
    rw [h3] at hu
    have hu2 : fb_ct (fun s => if s = S then false else decide (¬ row (2095 + 83 * s) ≤ row 30)) 14 + 1 = bl := by simpa using hu
    omega
  · obtain ⟨c1, c2, c3, s, hs, c4⟩ := h6 (i + 1) (by omega)
    have := h7 0 (i + 1) (by omega) (by omega)
    have em : ((hb + 1) % 12 + i) % 12 = (hb + (i + 1)) % 12 := by omega
    rw [em]
    refine ⟨c1, by show nx + 1 ≤ bn (i + 1); omega, c3, s, hs, ?_⟩
    obtain ⟨d1, z, d2, d3, d4, d5, d6, d7⟩ := c4
    exact ⟨by rw [es s hs]; exact d1, z, d2, d3, by rw [e _ (by omega) (by omega)]; exact d4, d5, fun j hj => by rw [e _ (by omega) (by omega)]; exact d6 j hj, d7⟩
  · obtain ⟨q1, q2⟩ := (hl s hs).mp hlive
    obtain ⟨i, hi, ei⟩ := h8 s hs q2
    have hi0 : i ≠ 0 := fun y => by
      rw [y, b0] at ei
      exact q1 (h5 S s hS hs (by rw [b4, e30, nI_leI (by omega) (by omega)]; omega) (by rw [ei, b4]))
    refine ⟨i - 1, by omega, ?_⟩
    show _ = nI (bn (i - 1 + 1) + 1)
    rw [es s hs, ei, show i - 1 + 1 = i by omega]
/-- the class plays by CODE where the reference has it in store, and else makes up -/
theorem rBuf_at {bl hb nx fr : Nat} {bnum : Nat → Int32} {bcb : Nat → Nat → Int32} {bcsz : Nat → Int32} {row : Nat → Int32} (h : rBuf bl hb nx fr bnum bcb bcsz row) (hfr : fr ≤ 2500) (e30 : row 30 = nI nx) (hx : nx < 5000) (hn : ¬ (0 < bl ∧ bnum hb = nI nx)) : ∀ s, s < 14 → ¬ row (2095 + 83 * s) = nI (nx + 1) := by
  obtain ⟨h1, h2, h3, h4, h5, bn, h6, h7, h8⟩ := h
  intro s hs q
  obtain ⟨i, hi, ei⟩ := h8 s hs (by rw [q, e30, nI_leI (by omega) (by omega)]; omega)
  obtain ⟨c1, c2, c3, _⟩ := h6 i hi
  have e1 := (nI_eq (a := nx + 1) (b := bn i + 1) (by omega) (by omega)).mp (q.symm.trans ei)
  obtain ⟨d1, d2, d3, _⟩ := h6 0 (by omega)
  have i0 : i = 0 := by
    rcases Nat.eq_zero_or_pos i with z | z
    · exact z
    · have := h7 0 i z hi
      omega
  subst i0
  rw [Nat.add_zero, Nat.mod_eq_of_lt h2] at c1
  exact hn ⟨hi, by rw [c1]; congr 1; omega⟩
theorem rBuf_has {bl hb nx fr : Nat} {bnum : Nat → Int32} {bcb : Nat → Nat → Int32} {bcsz : Nat → Int32} {row : Nat → Int32} (h : rBuf bl hb nx fr bnum bcb bcsz row) (hfr : fr ≤ 2500) (hx : nx < 5000) (h0 : 0 < bl) (hn : bnum hb = nI nx) : ∃ s, s < 14 ∧ rBfE nx hb s bcb bcsz row := by
  obtain ⟨h1, h2, h3, h4, h5, bn, h6, h7, h8⟩ := h
  obtain ⟨d1, d2, d3, s, hs, d4⟩ := h6 0 h0
  rw [Nat.add_zero, Nat.mod_eq_of_lt h2] at d1 d4
  have b0 : bn 0 = nx := ((nI_eq (a := nx) (b := bn 0) (by omega) (by omega)).mp (hn.symm.trans d1)).symm
  rw [b0] at d4
  exact ⟨s, hs, d4⟩
/-! the reference's plays as one function of its row -/
theorem fst_none {p : Nat → Bool} {n : Nat} (h : ∀ s, s < n → p s = false) : fa_first p n = n := by
  have a1 := fa_first_le p n
  have a3 := fa_first_yes p n
  rcases Nat.lt_or_ge (fa_first p n) n with q | q
  · rw [h _ q] at a3; exact absurd (a3 q) (by decide)
  · omega
theorem fst_eq {p : Nat → Bool} {n s : Nat} (hs : s < n) (h : ∀ s', s' < s → p s' = false) (h2 : p s = true) : fa_first p n = s := by
  have a1 := fa_first_le p n
  have a2 := fa_first_no p n
  have a3 := fa_first_yes p n
  rcases Nat.lt_trichotomy (fa_first p n) s with q | q | q
  · rw [h _ q] at a3; exact absurd (a3 (by omega)) (by decide)
  · exact q
  · rw [a2 s q] at h2; exact absurd h2 (by decide)
def plS (row : Nat → Int32) : Nat := fa_first (fun s => decide (row (2095 + 83 * s) = row 30 + 1)) 14
def M_play (row : Nat → Int32) : Nat → Int32 := if plS row < 14 then M_pB (fun j => row (2095 + 83 * plS row + 2 + j)) (tN (row 6)) (tN (row 30)) (tN (row 52)) (tN (row 38)) (tN (row (2095 + 83 * plS row + 1))) row else M_pA (tN (row 6)) (tN (row 30)) (tN (row 52)) (tN (row 38)) row
theorem plS_no {row : Nat → Int32} (h : ∀ s, s < 14 → ¬ row (2095 + 83 * s) = row 30 + 1) : M_play row = M_pA (tN (row 6)) (tN (row 30)) (tN (row 52)) (tN (row 38)) row := by
  have e : plS row = 14 := fst_none (fun s hs => decide_eq_false (h s hs))
  unfold M_play
  generalize plS row = S at e
  rw [if_neg (by omega)]
theorem plS_yes {row : Nat → Int32} {s : Nat} (hs : s < 14) (h : row (2095 + 83 * s) = row 30 + 1) (hu : ∀ s', s' < 14 → row (2095 + 83 * s') = row 30 + 1 → s' = s) : M_play row = M_pB (fun j => row (2095 + 83 * s + 2 + j)) (tN (row 6)) (tN (row 30)) (tN (row 52)) (tN (row 38)) (tN (row (2095 + 83 * s + 1))) row := by
  have e : plS row = s := fst_eq hs (fun s' hs' => decide_eq_false (fun q => by have := hu s' (by omega) q; omega)) (decide_eq_true h)
  unfold M_play
  generalize plS row = S at e
  rw [if_pos (by omega), e]
