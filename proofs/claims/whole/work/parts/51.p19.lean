/-! pure part 19: the line; giving up -/
theorem hm_50 : ∀ j, j < 54 → hm j ≠ 50 := by decide +kernel
theorem rNum_g {nb nb' row row' : Nat → Int32} (h : rNum nb row) (hr : ∀ j, j < 52 → j ≠ 50 → row' j = row j) (hn : ∀ j, j < 54 → j ≠ 6 → j ≠ 38 → nb' j = nb j) : rNum nb' row' := by
  intro i hi h6 h38 h39
  rw [hn i hi h6 h38, hr _ (hm_lt i hi h6 h38 h39) (hm_50 i hi)]; exact h i hi h6 h38 h39
def M_drop (r : Nat → Int32) : Nat → Int32 := fun j => if j = 51 then r 51 - 1 else if 735 ≤ j ∧ j < 735 + 170 * (tN (r 51) - 1) then r (j + 170) else r j
def M_give (k : Nat) (r : Nat → Int32) : Nat → Int32 := upd (upd r (3385 + 4 * k) 3) 29 (r 29 + 1)
theorem drop_mv {r : Nat → Int32} {ln i x : Nat} (e : r 51 = nI ln) (hl : ln < 1000) (hi : i + 1 < ln) (hx : x < 170) : M_drop r (735 + 170 * i + x) = r (735 + 170 * (i + 1) + x) := by
  have t51 : tN (r 51) = ln := by rw [e]; exact nI_clamp (by omega)
  unfold M_drop
  rw [t51, if_neg (by omega), if_pos (by omega), show 735 + 170 * i + x + 170 = 735 + 170 * (i + 1) + x by omega]
theorem drop_51 {r : Nat → Int32} {ln : Nat} (e : r 51 = nI ln) (h0 : 0 < ln) : M_drop r 51 = nI (ln - 1) := by
  unfold M_drop; rw [if_pos rfl, e, rS (by omega)]
theorem drop_o {r : Nat → Int32} {ln j : Nat} (e : r 51 = nI ln) (hl : ln ≤ 8) (hj : j ≠ 51) (h : j < 735 ∨ 2095 ≤ j) : M_drop r j = r j := by
  have t51 : tN (r 51) = ln := by rw [e]; exact nI_clamp (by omega)
  unfold M_drop
  rw [t51, if_neg hj, if_neg (by omega)]
theorem t12_drop {r : Nat → Int32} {ln : Nat} {post : (Nat → Int32) → Prop} (e : r 51 = nI ln) (h0 : 0 < ln) (hl : ln ≤ 7) (h : post (M_drop r)) : wp_X12_dropFirst r post := by
  have t51 : tN (r 51) = ln := by rw [e]; exact nI_clamp (by omega)
  unfold wp_X12_dropFirst
  rintro _ rfl x4 e4
  unfold wp_X12_lineAt
  refine Lz2_by (fun x f => ∃ k, 735 ≤ k ∧ k ≤ 735 + 170 * (ln - 1) ∧ x = nI k ∧ (∀ j, f j = if j = 51 then nI (ln - 1) else if 735 ≤ j ∧ j < k then r (j + 170) else r j)) (fun x _ => 10000 - x.toNatClampNeg) _ _ ⟨735, by omega, by omega, e4, fun j => ?_⟩ ?_
  · by_cases a : j = 51
    · rw [a, pk_us, if_pos rfl, e, rS (by omega)]
    · rw [pk_un a, if_neg a, if_neg (by omega)]
  · rintro x f ⟨k, h1, h2, rfl, hf⟩ again hag
    have f51 : f 51 = nI (ln - 1) := by rw [hf, if_pos rfl]
    rw [f51, lM, lA]
    refine ⟨fun q => ?_, fun q => ?_⟩
    · have hk : k = 735 + 170 * (ln - 1) := by
        have := (nI_leI (by omega) (by omega)).mp q
        omega
      have ef : f = M_drop r := by
        funext j
        rw [hf j, hk]
        unfold M_drop
        rw [t51]
        by_cases a : j = 51
        · rw [if_pos a, if_pos a, e, rS (by omega)]
        · rw [if_neg a, if_neg a]
      rw [ef]; exact h
    · have hk : k < 735 + 170 * (ln - 1) := by
        rcases Nat.lt_or_ge k (735 + 170 * (ln - 1)) with z | z
        · exact z
        · exact absurd ((nI_leI (by omega) (by omega)).mpr z) q
      have fk : f (k + 170) = r (k + 170) := by rw [hf, if_neg (by omega), if_neg (by omega)]
      simp (disch := omega) only [rA, nI_clamp, vpT, true_and, forall_eq, fk]
      refine hag _ _ ⟨k + 1, by omega, by omega, rfl, fun j => ?_⟩ (by rw [nI_clamp (by omega), nI_clamp (by omega)]; omega)
      by_cases a : j = k
      · rw [a, pk_us, if_neg (by omega), if_pos (by omega)]
      · rw [pk_un a, hf j]
        by_cases b : j = 51
        · rw [if_pos b, if_pos b]
        · rw [if_neg b, if_neg b]
          by_cases c : 735 ≤ j ∧ j < k
          · rw [if_pos c, if_pos (by omega)]
          · rw [if_neg c, if_neg (by omega)]
theorem t12_give {k : Nat} {r : Nat → Int32} {post : (Nat → Int32) → Prop} (hk : k < 2500) (h : post (M_give k r)) : wp_X12_givesUp (nI k) r post := by
  unfold wp_X12_givesUp wp_X12_packetAt
  simp (disch := omega) only [lA, lM, rA, Nat.add_zero, nI_clamp, vpT, true_and, forall_eq, pk_un]
  exact h
/-- one given up for its deadline -/
def M_gu1 (r : Nat → Int32) : Nat → Int32 := M_drop (upd (M_give (tN (r 735)) r) 50 (r 50 + 1))
abbrev guC (t : Nat) (r : Nat → Int32) : Prop := ¬ r 51 ≤ 0 ∧ ¬ nI t < 4 * r 735 + r 10
def M_gu (t : Nat) : Nat → (Nat → Int32) → (Nat → Int32)
  | 0, r => r
  | n + 1, r => if guC t r then M_gu t n (M_gu1 r) else r
theorem gu_no {t : Nat} {r : Nat → Int32} (h : ¬ guC t r) : ∀ n, M_gu t n r = r
  | 0 => rfl
  | n + 1 => by rw [M_gu, if_neg h]
theorem gu1_51 {r : Nat → Int32} {ln k : Nat} (e : r 51 = nI ln) (ek : r 735 = nI k) (hk : k < 2500) (h0 : 0 < ln) : M_gu1 r 51 = nI (ln - 1) := by
  have tk : tN (r 735) = k := by rw [ek]; exact nI_clamp (by omega)
  unfold M_gu1
  refine drop_51 ?_ h0
  unfold M_give
  rw [tk, pk_un (by omega), pk_un (by omega), pk_un (by omega)]; exact e
theorem gu1_o {r : Nat → Int32} {ln k j : Nat} (e : r 51 = nI ln) (ek : r 735 = nI k) (hk : k < 2500) (hl : ln ≤ 8) (h51 : j ≠ 51) (h50 : j ≠ 50) (h29 : j ≠ 29) (hs : j ≠ 3385 + 4 * k) (h : j < 735 ∨ 2095 ≤ j) : M_gu1 r j = r j := by
  have tk : tN (r 735) = k := by rw [ek]; exact nI_clamp (by omega)
  unfold M_gu1
  rw [drop_o (ln := ln) (by unfold M_give; rw [tk, pk_un (by omega), pk_un (by omega), pk_un (by omega)]; exact e) hl h51 h]
  unfold M_give
  rw [tk, pk_un h50, pk_un h29, pk_un hs]
theorem gu1_29 {r : Nat → Int32} {ln k : Nat} (e : r 51 = nI ln) (ek : r 735 = nI k) (hk : k < 2500) (hl : ln ≤ 8) : M_gu1 r 29 = r 29 + 1 ∧ M_gu1 r 50 = r 50 + 1 ∧ M_gu1 r (3385 + 4 * k) = 3 := by
  have tk : tN (r 735) = k := by rw [ek]; exact nI_clamp (by omega)
  have e51 : upd (M_give k r) 50 (r 50 + 1) 51 = nI ln := by unfold M_give; rw [pk_un (by omega), pk_un (by omega), pk_un (by omega)]; exact e
  unfold M_gu1
  rw [tk]
  refine ⟨?_, ?_, ?_⟩
  · rw [drop_o e51 hl (by omega) (by omega), pk_un (by omega)]; unfold M_give; rw [pk_us]
  · rw [drop_o e51 hl (by omega) (by omega), pk_us]
  · rw [drop_o e51 hl (by omega) (by omega), pk_un (by omega)]; unfold M_give; rw [pk_un (by omega), pk_us]
theorem gu1_mv {r : Nat → Int32} {ln k i x : Nat} (e : r 51 = nI ln) (ek : r 735 = nI k) (hk : k < 2500) (hl : ln ≤ 8) (hi : i + 1 < ln) (hx : x < 170) : M_gu1 r (735 + 170 * i + x) = r (735 + 170 * (i + 1) + x) := by
  have tk : tN (r 735) = k := by rw [ek]; exact nI_clamp (by omega)
  have e51 : upd (M_give k r) 50 (r 50 + 1) 51 = nI ln := by unfold M_give; rw [pk_un (by omega), pk_un (by omega), pk_un (by omega)]; exact e
  unfold M_gu1
  rw [tk, drop_mv e51 (by omega) hi hx, pk_un (by omega)]
  unfold M_give
  rw [pk_un (by omega), pk_un (by omega)]
/-- the numbers of those in line -/
def lnN (ln cd : Nat) (r : Nat → Int32) : Prop := r 51 = nI ln ∧ ln ≤ 5 ∧ ln ≤ cd ∧ cd ≤ 2500 ∧ ∀ i, i < ln → r (735 + 170 * i) = nI (cd - ln + i)
theorem lnN_0 {ln cd : Nat} {r : Nat → Int32} (h : lnN ln cd r) (h0 : 0 < ln) : r 735 = nI (cd - ln) := by
  have := h.2.2.2.2 0 h0
  rw [Nat.mul_zero, Nat.add_zero, Nat.add_zero] at this; exact this
theorem lnN_gu {ln cd : Nat} {r : Nat → Int32} (h : lnN ln cd r) (h0 : 0 < ln) : lnN (ln - 1) cd (M_gu1 r) := by
  have ek := lnN_0 h h0
  obtain ⟨e, h5, hcd, h2500, hi⟩ := h
  refine ⟨gu1_51 e ek (by omega) h0, by omega, by omega, h2500, fun i hi2 => ?_⟩
  have := gu1_mv (x := 0) e ek (by omega) (by omega) (show i + 1 < ln by omega) (by omega)
  rw [Nat.add_zero, Nat.add_zero] at this
  rw [this, hi (i + 1) (by omega)]; congr 1; omega
theorem gu_o {t cd : Nat} : ∀ (ln : Nat) (r : Nat → Int32), lnN ln cd r → ∀ j, j ≠ 51 → j ≠ 50 → j ≠ 29 → (j < 735 ∨ 2095 ≤ j) → (j < 3385 ∨ j % 4 ≠ 1) → M_gu t ln r j = r j
  | 0, r, _ => fun j _ _ _ _ _ => rfl
  | ln + 1, r, h => fun j h51 h50 h29 ho hs => by
    rw [M_gu]
    by_cases c : guC t r
    · rw [if_pos c, gu_o ln _ (lnN_gu h (by omega)) j h51 h50 h29 ho hs]
      have h9 := h.2.2
      have h8 := h.2.1
      exact gu1_o h.1 (lnN_0 h (by omega)) (by omega) (by omega) h51 h50 h29 (by omega) ho
    · rw [if_neg c]
