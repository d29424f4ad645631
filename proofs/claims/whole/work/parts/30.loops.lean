theorem cinv0 {Ex : Int32 → Prop} {Bd : (Int32 → Prop) → Int32 → Prop} {a0 : Int32} (i0 N : Nat) (I : Nat → Prop) (hI : I i0) (step : ∀ k, i0 ≤ k → k < N → I k → ∀ g : Int32 → Prop, (I (k + 1) → g (nI (k + 1))) → Bd g (nI k)) (exit : I N → Ex (nI N)) (e0 : a0 = nI i0 := by rfl) (h0 : i0 ≤ N := by omega) (hN : N < 2147483648 := by omega) : Lz1 (fun g i => (nI N ≤ i → Ex i) ∧ (¬ nI N ≤ i → Bd g i)) a0 := by
  refine Lz1_by (fun i => ∃ k, i0 ≤ k ∧ k ≤ N ∧ i = nI k ∧ I k) (fun i => N - i.toNatClampNeg) a0 ⟨i0, Nat.le_refl _, h0, e0, hI⟩ ?_
  rintro i ⟨k, h1, h2, rfl, h3⟩ again hag
  by_cases hl : k = N
  · subst hl; exact ⟨fun _ => exit h3, fun h => absurd (Int32.le_refl _) h⟩
  · refine ⟨fun h => absurd ((nI_leI hN (by omega)).mp h) (by omega), fun _ => step k h1 (by omega) h3 again (fun h4 => ?_)⟩
    exact hag _ ⟨k + 1, by omega, by omega, rfl, h4⟩ (by rw [nI_clamp (by omega), nI_clamp (by omega)]; omega)
theorem cdwn0 {Ex : Int32 → Prop} {Bd : (Int32 → Prop) → Int32 → Prop} {a0 : Int32} (N : Nat) (I : Nat → Prop) (hI : I N) (step : ∀ k, k < N → I (k + 1) → ∀ g : Int32 → Prop, (I k → g (nI k + (-1))) → Bd g (nI k)) (exit : I 0 → Ex (-1)) (e0 : a0 = nI N - 1 := by rfl) (hN : N < 2147483648 := by omega) : Lz1 (fun g i => (i < 0 → Ex i) ∧ (¬ i < 0 → Bd g i)) a0 := by
  refine Lz1_by (fun i => ∃ k, k ≤ N ∧ i = nI k - 1 ∧ I k) (fun i => (i + 1).toNatClampNeg) a0 ⟨N, Nat.le_refl _, e0, hI⟩ ?_
  rintro i ⟨k, h2, rfl, h3⟩ again hag
  cases k with
  | zero => exact ⟨fun _ => exit h3, fun h => absurd (by decide) h⟩
  | succ k =>
    rw [nI_pred]
    refine ⟨fun h => absurd h (nI_pos (by omega)), fun _ => step k (by omega) h3 again (fun h4 => ?_)⟩
    have e : nI k + (-1) = nI k - 1 := (Int32.sub_eq_add_neg _ _).symm
    refine hag _ ⟨k, by omega, e, h4⟩ ?_
    show (nI k + (-1) + 1).toNatClampNeg < (nI (k + 1) - 1 + 1).toNatClampNeg
    rw [nI_pred, show nI k + (-1) + 1 = nI k by rw [Int32.add_assoc]; exact Int32.add_zero _, nI_1, nI_clamp (by omega), nI_clamp (by omega)]; omega
theorem cstr0 {Ex : Int32 → Prop} {Bd : (Int32 → Prop) → Int32 → Prop} {a0 : Int32} (b S M N : Nat) (I : Nat → Prop) (hI : I 0) (step : ∀ k, k < N → I k → ∀ g : Int32 → Prop, (I (k + 1) → g (nI (b + S * (k + 1)))) → Bd g (nI (b + S * k))) (exit : I N → Ex (nI (b + S * N))) (e0 : a0 = nI b := by rfl) (hM : M ≤ b + S * N := by omega) (hS : 0 < S := by omega) (hl : ∀ k, k < N → b + S * k < M := by intro k hk; omega) (hN : b + S * N < 2147483648 := by omega) : Lz1 (fun g i => (nI M ≤ i → Ex i) ∧ (¬ nI M ≤ i → Bd g i)) a0 := by
  refine Lz1_by (fun i => ∃ k, k ≤ N ∧ i = nI (b + S * k) ∧ I k) (fun i => b + S * N - i.toNatClampNeg) a0 ⟨0, Nat.zero_le _, by rw [Nat.mul_zero, Nat.add_zero]; exact e0, hI⟩ ?_
  rintro i ⟨k, h2, rfl, h3⟩ again hag
  have hk : b + S * k ≤ b + S * N := Nat.add_le_add_left (Nat.mul_le_mul_left _ h2) _
  by_cases hkN : k = N
  · subst hkN; exact ⟨fun _ => exit h3, fun h => absurd (nI_le hM hN) h⟩
  · have hk1 : b + S * (k + 1) ≤ b + S * N := Nat.add_le_add_left (Nat.mul_le_mul_left _ (by omega)) _
    have hk2 : b + S * k < b + S * (k + 1) := Nat.add_lt_add_left (Nat.mul_lt_mul_of_pos_left (Nat.lt_succ_self k) hS) _
    have hk3 := hl k (by omega)
    refine ⟨fun h => absurd h (nI_ge hk3 (Nat.lt_of_le_of_lt hM hN)), fun _ => step k (by omega) h3 again (fun h4 => ?_)⟩
    exact hag _ ⟨k + 1, by omega, rfl, h4⟩ (by rw [nI_clamp (Nat.lt_of_le_of_lt hk1 hN), nI_clamp (Nat.lt_of_le_of_lt hk hN)]; omega)
theorem cinv1 {T1 : Type} {Ex : Int32 → T1 → Prop} {Bd : (Int32 → T1 → Prop) → Int32 → T1 → Prop} {a0 : Int32} {a1 : T1} (i0 N : Nat) (I : Nat → T1 → Prop) (hI : I i0 a1) (step : ∀ k s1, i0 ≤ k → k < N → I k s1 → ∀ g : Int32 → T1 → Prop, (∀ u1, I (k + 1) u1 → g (nI (k + 1)) u1) → Bd g (nI k) s1) (exit : ∀ s1, I N s1 → Ex (nI N) s1) (e0 : a0 = nI i0 := by rfl) (h0 : i0 ≤ N := by omega) (hN : N < 2147483648 := by omega) : Lz2 (fun g i s1 => (nI N ≤ i → Ex i s1) ∧ (¬ nI N ≤ i → Bd g i s1)) a0 a1 := by
  refine Lz2_by (fun i s1 => ∃ k, i0 ≤ k ∧ k ≤ N ∧ i = nI k ∧ I k s1) (fun i _ => N - i.toNatClampNeg) a0 a1 ⟨i0, Nat.le_refl _, h0, e0, hI⟩ ?_
  rintro i s1 ⟨k, h1, h2, rfl, h3⟩ again hag
  by_cases hl : k = N
  · subst hl; exact ⟨fun _ => exit _ h3, fun h => absurd (Int32.le_refl _) h⟩
  · refine ⟨fun h => absurd ((nI_leI hN (by omega)).mp h) (by omega), fun _ => step k s1 h1 (by omega) h3 again (fun u1 h4 => ?_)⟩
    exact hag _ _ ⟨k + 1, by omega, by omega, rfl, h4⟩ (by rw [nI_clamp (by omega), nI_clamp (by omega)]; omega)
theorem cdwn1 {T1 : Type} {Ex : Int32 → T1 → Prop} {Bd : (Int32 → T1 → Prop) → Int32 → T1 → Prop} {a0 : Int32} {a1 : T1} (N : Nat) (I : Nat → T1 → Prop) (hI : I N a1) (step : ∀ k s1, k < N → I (k + 1) s1 → ∀ g : Int32 → T1 → Prop, (∀ u1, I k u1 → g (nI k + (-1)) u1) → Bd g (nI k) s1) (exit : ∀ s1, I 0 s1 → Ex (-1) s1) (e0 : a0 = nI N - 1 := by rfl) (hN : N < 2147483648 := by omega) : Lz2 (fun g i s1 => (i < 0 → Ex i s1) ∧ (¬ i < 0 → Bd g i s1)) a0 a1 := by
  refine Lz2_by (fun i s1 => ∃ k, k ≤ N ∧ i = nI k - 1 ∧ I k s1) (fun i _ => (i + 1).toNatClampNeg) a0 a1 ⟨N, Nat.le_refl _, e0, hI⟩ ?_
  rintro i s1 ⟨k, h2, rfl, h3⟩ again hag
  cases k with
  | zero => exact ⟨fun _ => exit _ h3, fun h => absurd (by decide) h⟩
  | succ k =>
    rw [nI_pred]
    refine ⟨fun h => absurd h (nI_pos (by omega)), fun _ => step k s1 (by omega) h3 again (fun u1 h4 => ?_)⟩
    have e : nI k + (-1) = nI k - 1 := (Int32.sub_eq_add_neg _ _).symm
    refine hag _ _ ⟨k, by omega, e, h4⟩ ?_
    show (nI k + (-1) + 1).toNatClampNeg < (nI (k + 1) - 1 + 1).toNatClampNeg
    rw [nI_pred, show nI k + (-1) + 1 = nI k by rw [Int32.add_assoc]; exact Int32.add_zero _, nI_1, nI_clamp (by omega), nI_clamp (by omega)]; omega
theorem cstr1 {T1 : Type} {Ex : Int32 → T1 → Prop} {Bd : (Int32 → T1 → Prop) → Int32 → T1 → Prop} {a0 : Int32} {a1 : T1} (b S M N : Nat) (I : Nat → T1 → Prop) (hI : I 0 a1) (step : ∀ k s1, k < N → I k s1 → ∀ g : Int32 → T1 → Prop, (∀ u1, I (k + 1) u1 → g (nI (b + S * (k + 1))) u1) → Bd g (nI (b + S * k)) s1) (exit : ∀ s1, I N s1 → Ex (nI (b + S * N)) s1) (e0 : a0 = nI b := by rfl) (hM : M ≤ b + S * N := by omega) (hS : 0 < S := by omega) (hl : ∀ k, k < N → b + S * k < M := by intro k hk; omega) (hN : b + S * N < 2147483648 := by omega) : Lz2 (fun g i s1 => (nI M ≤ i → Ex i s1) ∧ (¬ nI M ≤ i → Bd g i s1)) a0 a1 := by
  refine Lz2_by (fun i s1 => ∃ k, k ≤ N ∧ i = nI (b + S * k) ∧ I k s1) (fun i _ => b + S * N - i.toNatClampNeg) a0 a1 ⟨0, Nat.zero_le _, by rw [Nat.mul_zero, Nat.add_zero]; exact e0, hI⟩ ?_
  rintro i s1 ⟨k, h2, rfl, h3⟩ again hag
  have hk : b + S * k ≤ b + S * N := Nat.add_le_add_left (Nat.mul_le_mul_left _ h2) _
  by_cases hkN : k = N
  · subst hkN; exact ⟨fun _ => exit _ h3, fun h => absurd (nI_le hM hN) h⟩
  · have hk1 : b + S * (k + 1) ≤ b + S * N := Nat.add_le_add_left (Nat.mul_le_mul_left _ (by omega)) _
    have hk2 : b + S * k < b + S * (k + 1) := Nat.add_lt_add_left (Nat.mul_lt_mul_of_pos_left (Nat.lt_succ_self k) hS) _
    have hk3 := hl k (by omega)
    refine ⟨fun h => absurd h (nI_ge hk3 (Nat.lt_of_le_of_lt hM hN)), fun _ => step k s1 (by omega) h3 again (fun u1 h4 => ?_)⟩
    exact hag _ _ ⟨k + 1, by omega, rfl, h4⟩ (by rw [nI_clamp (Nat.lt_of_le_of_lt hk1 hN), nI_clamp (Nat.lt_of_le_of_lt hk hN)]; omega)
theorem cinv2 {T1 T2 : Type} {Ex : Int32 → T1 → T2 → Prop} {Bd : (Int32 → T1 → T2 → Prop) → Int32 → T1 → T2 → Prop} {a0 : Int32} {a1 : T1} {a2 : T2} (i0 N : Nat) (I : Nat → T1 → T2 → Prop) (hI : I i0 a1 a2) (step : ∀ k s1 s2, i0 ≤ k → k < N → I k s1 s2 → ∀ g : Int32 → T1 → T2 → Prop, (∀ u1 u2, I (k + 1) u1 u2 → g (nI (k + 1)) u1 u2) → Bd g (nI k) s1 s2) (exit : ∀ s1 s2, I N s1 s2 → Ex (nI N) s1 s2) (e0 : a0 = nI i0 := by rfl) (h0 : i0 ≤ N := by omega) (hN : N < 2147483648 := by omega) : Lz3 (fun g i s1 s2 => (nI N ≤ i → Ex i s1 s2) ∧ (¬ nI N ≤ i → Bd g i s1 s2)) a0 a1 a2 := by
  refine Lz3_by (fun i s1 s2 => ∃ k, i0 ≤ k ∧ k ≤ N ∧ i = nI k ∧ I k s1 s2) (fun i _ _ => N - i.toNatClampNeg) a0 a1 a2 ⟨i0, Nat.le_refl _, h0, e0, hI⟩ ?_
  rintro i s1 s2 ⟨k, h1, h2, rfl, h3⟩ again hag
  by_cases hl : k = N
  · subst hl; exact ⟨fun _ => exit _ _ h3, fun h => absurd (Int32.le_refl _) h⟩
  · refine ⟨fun h => absurd ((nI_leI hN (by omega)).mp h) (by omega), fun _ => step k s1 s2 h1 (by omega) h3 again (fun u1 u2 h4 => ?_)⟩
    exact hag _ _ _ ⟨k + 1, by omega, by omega, rfl, h4⟩ (by rw [nI_clamp (by omega), nI_clamp (by omega)]; omega)
theorem cdwn2 {T1 T2 : Type} {Ex : Int32 → T1 → T2 → Prop} {Bd : (Int32 → T1 → T2 → Prop) → Int32 → T1 → T2 → Prop} {a0 : Int32} {a1 : T1} {a2 : T2} (N : Nat) (I : Nat → T1 → T2 → Prop) (hI : I N a1 a2) (step : ∀ k s1 s2, k < N → I (k + 1) s1 s2 → ∀ g : Int32 → T1 → T2 → Prop, (∀ u1 u2, I k u1 u2 → g (nI k + (-1)) u1 u2) → Bd g (nI k) s1 s2) (exit : ∀ s1 s2, I 0 s1 s2 → Ex (-1) s1 s2) (e0 : a0 = nI N - 1 := by rfl) (hN : N < 2147483648 := by omega) : Lz3 (fun g i s1 s2 => (i < 0 → Ex i s1 s2) ∧ (¬ i < 0 → Bd g i s1 s2)) a0 a1 a2 := by
  refine Lz3_by (fun i s1 s2 => ∃ k, k ≤ N ∧ i = nI k - 1 ∧ I k s1 s2) (fun i _ _ => (i + 1).toNatClampNeg) a0 a1 a2 ⟨N, Nat.le_refl _, e0, hI⟩ ?_
  rintro i s1 s2 ⟨k, h2, rfl, h3⟩ again hag
  cases k with
  | zero => exact ⟨fun _ => exit _ _ h3, fun h => absurd (by decide) h⟩
  | succ k =>
    rw [nI_pred]
    refine ⟨fun h => absurd h (nI_pos (by omega)), fun _ => step k s1 s2 (by omega) h3 again (fun u1 u2 h4 => ?_)⟩
    have e : nI k + (-1) = nI k - 1 := (Int32.sub_eq_add_neg _ _).symm
    refine hag _ _ _ ⟨k, by omega, e, h4⟩ ?_
    show (nI k + (-1) + 1).toNatClampNeg < (nI (k + 1) - 1 + 1).toNatClampNeg
    rw [nI_pred, show nI k + (-1) + 1 = nI k by rw [Int32.add_assoc]; exact Int32.add_zero _, nI_1, nI_clamp (by omega), nI_clamp (by omega)]; omega
theorem cstr2 {T1 T2 : Type} {Ex : Int32 → T1 → T2 → Prop} {Bd : (Int32 → T1 → T2 → Prop) → Int32 → T1 → T2 → Prop} {a0 : Int32} {a1 : T1} {a2 : T2} (b S M N : Nat) (I : Nat → T1 → T2 → Prop) (hI : I 0 a1 a2) (step : ∀ k s1 s2, k < N → I k s1 s2 → ∀ g : Int32 → T1 → T2 → Prop, (∀ u1 u2, I (k + 1) u1 u2 → g (nI (b + S * (k + 1))) u1 u2) → Bd g (nI (b + S * k)) s1 s2) (exit : ∀ s1 s2, I N s1 s2 → Ex (nI (b + S * N)) s1 s2) (e0 : a0 = nI b := by rfl) (hM : M ≤ b + S * N := by omega) (hS : 0 < S := by omega) (hl : ∀ k, k < N → b + S * k < M := by intro k hk; omega) (hN : b + S * N < 2147483648 := by omega) : Lz3 (fun g i s1 s2 => (nI M ≤ i → Ex i s1 s2) ∧ (¬ nI M ≤ i → Bd g i s1 s2)) a0 a1 a2 := by
  refine Lz3_by (fun i s1 s2 => ∃ k, k ≤ N ∧ i = nI (b + S * k) ∧ I k s1 s2) (fun i _ _ => b + S * N - i.toNatClampNeg) a0 a1 a2 ⟨0, Nat.zero_le _, by rw [Nat.mul_zero, Nat.add_zero]; exact e0, hI⟩ ?_
  rintro i s1 s2 ⟨k, h2, rfl, h3⟩ again hag
  have hk : b + S * k ≤ b + S * N := Nat.add_le_add_left (Nat.mul_le_mul_left _ h2) _
  by_cases hkN : k = N
  · subst hkN; exact ⟨fun _ => exit _ _ h3, fun h => absurd (nI_le hM hN) h⟩
  · have hk1 : b + S * (k + 1) ≤ b + S * N := Nat.add_le_add_left (Nat.mul_le_mul_left _ (by omega)) _
    have hk2 : b + S * k < b + S * (k + 1) := Nat.add_lt_add_left (Nat.mul_lt_mul_of_pos_left (Nat.lt_succ_self k) hS) _
    have hk3 := hl k (by omega)
    refine ⟨fun h => absurd h (nI_ge hk3 (Nat.lt_of_le_of_lt hM hN)), fun _ => step k s1 s2 (by omega) h3 again (fun u1 u2 h4 => ?_)⟩
    exact hag _ _ _ ⟨k + 1, by omega, rfl, h4⟩ (by rw [nI_clamp (Nat.lt_of_le_of_lt hk1 hN), nI_clamp (Nat.lt_of_le_of_lt hk hN)]; omega)
theorem cinv3 {T1 T2 T3 : Type} {Ex : Int32 → T1 → T2 → T3 → Prop} {Bd : (Int32 → T1 → T2 → T3 → Prop) → Int32 → T1 → T2 → T3 → Prop} {a0 : Int32} {a1 : T1} {a2 : T2} {a3 : T3} (i0 N : Nat) (I : Nat → T1 → T2 → T3 → Prop) (hI : I i0 a1 a2 a3) (step : ∀ k s1 s2 s3, i0 ≤ k → k < N → I k s1 s2 s3 → ∀ g : Int32 → T1 → T2 → T3 → Prop, (∀ u1 u2 u3, I (k + 1) u1 u2 u3 → g (nI (k + 1)) u1 u2 u3) → Bd g (nI k) s1 s2 s3) (exit : ∀ s1 s2 s3, I N s1 s2 s3 → Ex (nI N) s1 s2 s3) (e0 : a0 = nI i0 := by rfl) (h0 : i0 ≤ N := by omega) (hN : N < 2147483648 := by omega) : Lz4 (fun g i s1 s2 s3 => (nI N ≤ i → Ex i s1 s2 s3) ∧ (¬ nI N ≤ i → Bd g i s1 s2 s3)) a0 a1 a2 a3 := by
  refine Lz4_by (fun i s1 s2 s3 => ∃ k, i0 ≤ k ∧ k ≤ N ∧ i = nI k ∧ I k s1 s2 s3) (fun i _ _ _ => N - i.toNatClampNeg) a0 a1 a2 a3 ⟨i0, Nat.le_refl _, h0, e0, hI⟩ ?_
  rintro i s1 s2 s3 ⟨k, h1, h2, rfl, h3⟩ again hag
  by_cases hl : k = N
  · subst hl; exact ⟨fun _ => exit _ _ _ h3, fun h => absurd (Int32.le_refl _) h⟩
  · refine ⟨fun h => absurd ((nI_leI hN (by omega)).mp h) (by omega), fun _ => step k s1 s2 s3 h1 (by omega) h3 again (fun u1 u2 u3 h4 => ?_)⟩
    exact hag _ _ _ _ ⟨k + 1, by omega, by omega, rfl, h4⟩ (by rw [nI_clamp (by omega), nI_clamp (by omega)]; omega)
theorem cdwn3 {T1 T2 T3 : Type} {Ex : Int32 → T1 → T2 → T3 → Prop} {Bd : (Int32 → T1 → T2 → T3 → Prop) → Int32 → T1 → T2 → T3 → Prop} {a0 : Int32} {a1 : T1} {a2 : T2} {a3 : T3} (N : Nat) (I : Nat → T1 → T2 → T3 → Prop) (hI : I N a1 a2 a3) (step : ∀ k s1 s2 s3, k < N → I (k + 1) s1 s2 s3 → ∀ g : Int32 → T1 → T2 → T3 → Prop, (∀ u1 u2 u3, I k u1 u2 u3 → g (nI k + (-1)) u1 u2 u3) → Bd g (nI k) s1 s2 s3) (exit : ∀ s1 s2 s3, I 0 s1 s2 s3 → Ex (-1) s1 s2 s3) (e0 : a0 = nI N - 1 := by rfl) (hN : N < 2147483648 := by omega) : Lz4 (fun g i s1 s2 s3 => (i < 0 → Ex i s1 s2 s3) ∧ (¬ i < 0 → Bd g i s1 s2 s3)) a0 a1 a2 a3 := by
  refine Lz4_by (fun i s1 s2 s3 => ∃ k, k ≤ N ∧ i = nI k - 1 ∧ I k s1 s2 s3) (fun i _ _ _ => (i + 1).toNatClampNeg) a0 a1 a2 a3 ⟨N, Nat.le_refl _, e0, hI⟩ ?_
  rintro i s1 s2 s3 ⟨k, h2, rfl, h3⟩ again hag
  cases k with
  | zero => exact ⟨fun _ => exit _ _ _ h3, fun h => absurd (by decide) h⟩
  | succ k =>
    rw [nI_pred]
    refine ⟨fun h => absurd h (nI_pos (by omega)), fun _ => step k s1 s2 s3 (by omega) h3 again (fun u1 u2 u3 h4 => ?_)⟩
    have e : nI k + (-1) = nI k - 1 := (Int32.sub_eq_add_neg _ _).symm
    refine hag _ _ _ _ ⟨k, by omega, e, h4⟩ ?_
    show (nI k + (-1) + 1).toNatClampNeg < (nI (k + 1) - 1 + 1).toNatClampNeg
    rw [nI_pred, show nI k + (-1) + 1 = nI k by rw [Int32.add_assoc]; exact Int32.add_zero _, nI_1, nI_clamp (by omega), nI_clamp (by omega)]; omega
theorem cstr3 {T1 T2 T3 : Type} {Ex : Int32 → T1 → T2 → T3 → Prop} {Bd : (Int32 → T1 → T2 → T3 → Prop) → Int32 → T1 → T2 → T3 → Prop} {a0 : Int32} {a1 : T1} {a2 : T2} {a3 : T3} (b S M N : Nat) (I : Nat → T1 → T2 → T3 → Prop) (hI : I 0 a1 a2 a3) (step : ∀ k s1 s2 s3, k < N → I k s1 s2 s3 → ∀ g : Int32 → T1 → T2 → T3 → Prop, (∀ u1 u2 u3, I (k + 1) u1 u2 u3 → g (nI (b + S * (k + 1))) u1 u2 u3) → Bd g (nI (b + S * k)) s1 s2 s3) (exit : ∀ s1 s2 s3, I N s1 s2 s3 → Ex (nI (b + S * N)) s1 s2 s3) (e0 : a0 = nI b := by rfl) (hM : M ≤ b + S * N := by omega) (hS : 0 < S := by omega) (hl : ∀ k, k < N → b + S * k < M := by intro k hk; omega) (hN : b + S * N < 2147483648 := by omega) : Lz4 (fun g i s1 s2 s3 => (nI M ≤ i → Ex i s1 s2 s3) ∧ (¬ nI M ≤ i → Bd g i s1 s2 s3)) a0 a1 a2 a3 := by
  refine Lz4_by (fun i s1 s2 s3 => ∃ k, k ≤ N ∧ i = nI (b + S * k) ∧ I k s1 s2 s3) (fun i _ _ _ => b + S * N - i.toNatClampNeg) a0 a1 a2 a3 ⟨0, Nat.zero_le _, by rw [Nat.mul_zero, Nat.add_zero]; exact e0, hI⟩ ?_
  rintro i s1 s2 s3 ⟨k, h2, rfl, h3⟩ again hag
  have hk : b + S * k ≤ b + S * N := Nat.add_le_add_left (Nat.mul_le_mul_left _ h2) _
  by_cases hkN : k = N
  · subst hkN; exact ⟨fun _ => exit _ _ _ h3, fun h => absurd (nI_le hM hN) h⟩
  · have hk1 : b + S * (k + 1) ≤ b + S * N := Nat.add_le_add_left (Nat.mul_le_mul_left _ (by omega)) _
    have hk2 : b + S * k < b + S * (k + 1) := Nat.add_lt_add_left (Nat.mul_lt_mul_of_pos_left (Nat.lt_succ_self k) hS) _
    have hk3 := hl k (by omega)
    refine ⟨fun h => absurd h (nI_ge hk3 (Nat.lt_of_le_of_lt hM hN)), fun _ => step k s1 s2 s3 (by omega) h3 again (fun u1 u2 u3 h4 => ?_)⟩
    exact hag _ _ _ _ ⟨k + 1, by omega, rfl, h4⟩ (by rw [nI_clamp (Nat.lt_of_le_of_lt hk1 hN), nI_clamp (Nat.lt_of_le_of_lt hk hN)]; omega)
theorem cinv4 {T1 T2 T3 T4 : Type} {Ex : Int32 → T1 → T2 → T3 → T4 → Prop} {Bd : (Int32 → T1 → T2 → T3 → T4 → Prop) → Int32 → T1 → T2 → T3 → T4 → Prop} {a0 : Int32} {a1 : T1} {a2 : T2} {a3 : T3} {a4 : T4} (i0 N : Nat) (I : Nat → T1 → T2 → T3 → T4 → Prop) (hI : I i0 a1 a2 a3 a4) (step : ∀ k s1 s2 s3 s4, i0 ≤ k → k < N → I k s1 s2 s3 s4 → ∀ g : Int32 → T1 → T2 → T3 → T4 → Prop, (∀ u1 u2 u3 u4, I (k + 1) u1 u2 u3 u4 → g (nI (k + 1)) u1 u2 u3 u4) → Bd g (nI k) s1 s2 s3 s4) (exit : ∀ s1 s2 s3 s4, I N s1 s2 s3 s4 → Ex (nI N) s1 s2 s3 s4) (e0 : a0 = nI i0 := by rfl) (h0 : i0 ≤ N := by omega) (hN : N < 2147483648 := by omega) : Lz5 (fun g i s1 s2 s3 s4 => (nI N ≤ i → Ex i s1 s2 s3 s4) ∧ (¬ nI N ≤ i → Bd g i s1 s2 s3 s4)) a0 a1 a2 a3 a4 := by
  refine Lz5_by (fun i s1 s2 s3 s4 => ∃ k, i0 ≤ k ∧ k ≤ N ∧ i = nI k ∧ I k s1 s2 s3 s4) (fun i _ _ _ _ => N - i.toNatClampNeg) a0 a1 a2 a3 a4 ⟨i0, Nat.le_refl _, h0, e0, hI⟩ ?_
  rintro i s1 s2 s3 s4 ⟨k, h1, h2, rfl, h3⟩ again hag
  by_cases hl : k = N
  · subst hl; exact ⟨fun _ => exit _ _ _ _ h3, fun h => absurd (Int32.le_refl _) h⟩
  · refine ⟨fun h => absurd ((nI_leI hN (by omega)).mp h) (by omega), fun _ => step k s1 s2 s3 s4 h1 (by omega) h3 again (fun u1 u2 u3 u4 h4 => ?_)⟩
    exact hag _ _ _ _ _ ⟨k + 1, by omega, by omega, rfl, h4⟩ (by rw [nI_clamp (by omega), nI_clamp (by omega)]; omega)
theorem cdwn4 {T1 T2 T3 T4 : Type} {Ex : Int32 → T1 → T2 → T3 → T4 → Prop} {Bd : (Int32 → T1 → T2 → T3 → T4 → Prop) → Int32 → T1 → T2 → T3 → T4 → Prop} {a0 : Int32} {a1 : T1} {a2 : T2} {a3 : T3} {a4 : T4} (N : Nat) (I : Nat → T1 → T2 → T3 → T4 → Prop) (hI : I N a1 a2 a3 a4) (step : ∀ k s1 s2 s3 s4, k < N → I (k + 1) s1 s2 s3 s4 → ∀ g : Int32 → T1 → T2 → T3 → T4 → Prop, (∀ u1 u2 u3 u4, I k u1 u2 u3 u4 → g (nI k + (-1)) u1 u2 u3 u4) → Bd g (nI k) s1 s2 s3 s4) (exit : ∀ s1 s2 s3 s4, I 0 s1 s2 s3 s4 → Ex (-1) s1 s2 s3 s4) (e0 : a0 = nI N - 1 := by rfl) (hN : N < 2147483648 := by omega) : Lz5 (fun g i s1 s2 s3 s4 => (i < 0 → Ex i s1 s2 s3 s4) ∧ (¬ i < 0 → Bd g i s1 s2 s3 s4)) a0 a1 a2 a3 a4 := by
  refine Lz5_by (fun i s1 s2 s3 s4 => ∃ k, k ≤ N ∧ i = nI k - 1 ∧ I k s1 s2 s3 s4) (fun i _ _ _ _ => (i + 1).toNatClampNeg) a0 a1 a2 a3 a4 ⟨N, Nat.le_refl _, e0, hI⟩ ?_
  rintro i s1 s2 s3 s4 ⟨k, h2, rfl, h3⟩ again hag
  cases k with
  | zero => exact ⟨fun _ => exit _ _ _ _ h3, fun h => absurd (by decide) h⟩
  | succ k =>
    rw [nI_pred]
    refine ⟨fun h => absurd h (nI_pos (by omega)), fun _ => step k s1 s2 s3 s4 (by omega) h3 again (fun u1 u2 u3 u4 h4 => ?_)⟩
    have e : nI k + (-1) = nI k - 1 := (Int32.sub_eq_add_neg _ _).symm
    refine hag _ _ _ _ _ ⟨k, by omega, e, h4⟩ ?_
    show (nI k + (-1) + 1).toNatClampNeg < (nI (k + 1) - 1 + 1).toNatClampNeg
    rw [nI_pred, show nI k + (-1) + 1 = nI k by rw [Int32.add_assoc]; exact Int32.add_zero _, nI_1, nI_clamp (by omega), nI_clamp (by omega)]; omega
theorem cstr4 {T1 T2 T3 T4 : Type} {Ex : Int32 → T1 → T2 → T3 → T4 → Prop} {Bd : (Int32 → T1 → T2 → T3 → T4 → Prop) → Int32 → T1 → T2 → T3 → T4 → Prop} {a0 : Int32} {a1 : T1} {a2 : T2} {a3 : T3} {a4 : T4} (b S M N : Nat) (I : Nat → T1 → T2 → T3 → T4 → Prop) (hI : I 0 a1 a2 a3 a4) (step : ∀ k s1 s2 s3 s4, k < N → I k s1 s2 s3 s4 → ∀ g : Int32 → T1 → T2 → T3 → T4 → Prop, (∀ u1 u2 u3 u4, I (k + 1) u1 u2 u3 u4 → g (nI (b + S * (k + 1))) u1 u2 u3 u4) → Bd g (nI (b + S * k)) s1 s2 s3 s4) (exit : ∀ s1 s2 s3 s4, I N s1 s2 s3 s4 → Ex (nI (b + S * N)) s1 s2 s3 s4) (e0 : a0 = nI b := by rfl) (hM : M ≤ b + S * N := by omega) (hS : 0 < S := by omega) (hl : ∀ k, k < N → b + S * k < M := by intro k hk; omega) (hN : b + S * N < 2147483648 := by omega) : Lz5 (fun g i s1 s2 s3 s4 => (nI M ≤ i → Ex i s1 s2 s3 s4) ∧ (¬ nI M ≤ i → Bd g i s1 s2 s3 s4)) a0 a1 a2 a3 a4 := by
  refine Lz5_by (fun i s1 s2 s3 s4 => ∃ k, k ≤ N ∧ i = nI (b + S * k) ∧ I k s1 s2 s3 s4) (fun i _ _ _ _ => b + S * N - i.toNatClampNeg) a0 a1 a2 a3 a4 ⟨0, Nat.zero_le _, by rw [Nat.mul_zero, Nat.add_zero]; exact e0, hI⟩ ?_
  rintro i s1 s2 s3 s4 ⟨k, h2, rfl, h3⟩ again hag
  have hk : b + S * k ≤ b + S * N := Nat.add_le_add_left (Nat.mul_le_mul_left _ h2) _
  by_cases hkN : k = N
  · subst hkN; exact ⟨fun _ => exit _ _ _ _ h3, fun h => absurd (nI_le hM hN) h⟩
  · have hk1 : b + S * (k + 1) ≤ b + S * N := Nat.add_le_add_left (Nat.mul_le_mul_left _ (by omega)) _
    have hk2 : b + S * k < b + S * (k + 1) := Nat.add_lt_add_left (Nat.mul_lt_mul_of_pos_left (Nat.lt_succ_self k) hS) _
    have hk3 := hl k (by omega)
    refine ⟨fun h => absurd h (nI_ge hk3 (Nat.lt_of_le_of_lt hM hN)), fun _ => step k s1 s2 s3 s4 (by omega) h3 again (fun u1 u2 u3 u4 h4 => ?_)⟩
    exact hag _ _ _ _ _ ⟨k + 1, by omega, rfl, h4⟩ (by rw [nI_clamp (Nat.lt_of_le_of_lt hk1 hN), nI_clamp (Nat.lt_of_le_of_lt hk hN)]; omega)
theorem cinv5 {T1 T2 T3 T4 T5 : Type} {Ex : Int32 → T1 → T2 → T3 → T4 → T5 → Prop} {Bd : (Int32 → T1 → T2 → T3 → T4 → T5 → Prop) → Int32 → T1 → T2 → T3 → T4 → T5 → Prop} {a0 : Int32} {a1 : T1} {a2 : T2} {a3 : T3} {a4 : T4} {a5 : T5} (i0 N : Nat) (I : Nat → T1 → T2 → T3 → T4 → T5 → Prop) (hI : I i0 a1 a2 a3 a4 a5) (step : ∀ k s1 s2 s3 s4 s5, i0 ≤ k → k < N → I k s1 s2 s3 s4 s5 → ∀ g : Int32 → T1 → T2 → T3 → T4 → T5 → Prop, (∀ u1 u2 u3 u4 u5, I (k + 1) u1 u2 u3 u4 u5 → g (nI (k + 1)) u1 u2 u3 u4 u5) → Bd g (nI k) s1 s2 s3 s4 s5) (exit : ∀ s1 s2 s3 s4 s5, I N s1 s2 s3 s4 s5 → Ex (nI N) s1 s2 s3 s4 s5) (e0 : a0 = nI i0 := by rfl) (h0 : i0 ≤ N := by omega) (hN : N < 2147483648 := by omega) : Lz6 (fun g i s1 s2 s3 s4 s5 => (nI N ≤ i → Ex i s1 s2 s3 s4 s5) ∧ (¬ nI N ≤ i → Bd g i s1 s2 s3 s4 s5)) a0 a1 a2 a3 a4 a5 := by
  refine Lz6_by (fun i s1 s2 s3 s4 s5 => ∃ k, i0 ≤ k ∧ k ≤ N ∧ i = nI k ∧ I k s1 s2 s3 s4 s5) (fun i _ _ _ _ _ => N - i.toNatClampNeg) a0 a1 a2 a3 a4 a5 ⟨i0, Nat.le_refl _, h0, e0, hI⟩ ?_
  rintro i s1 s2 s3 s4 s5 ⟨k, h1, h2, rfl, h3⟩ again hag
  by_cases hl : k = N
  · subst hl; exact ⟨fun _ => exit _ _ _ _ _ h3, fun h => absurd (Int32.le_refl _) h⟩
  · refine ⟨fun h => absurd ((nI_leI hN (by omega)).mp h) (by omega), fun _ => step k s1 s2 s3 s4 s5 h1 (by omega) h3 again (fun u1 u2 u3 u4 u5 h4 => ?_)⟩
    exact hag _ _ _ _ _ _ ⟨k + 1, by omega, by omega, rfl, h4⟩ (by rw [nI_clamp (by omega), nI_clamp (by omega)]; omega)
theorem cdwn5 {T1 T2 T3 T4 T5 : Type} {Ex : Int32 → T1 → T2 → T3 → T4 → T5 → Prop} {Bd : (Int32 → T1 → T2 → T3 → T4 → T5 → Prop) → Int32 → T1 → T2 → T3 → T4 → T5 → Prop} {a0 : Int32} {a1 : T1} {a2 : T2} {a3 : T3} {a4 : T4} {a5 : T5} (N : Nat) (I : Nat → T1 → T2 → T3 → T4 → T5 → Prop) (hI : I N a1 a2 a3 a4 a5) (step : ∀ k s1 s2 s3 s4 s5, k < N → I (k + 1) s1 s2 s3 s4 s5 → ∀ g : Int32 → T1 → T2 → T3 → T4 → T5 → Prop, (∀ u1 u2 u3 u4 u5, I k u1 u2 u3 u4 u5 → g (nI k + (-1)) u1 u2 u3 u4 u5) → Bd g (nI k) s1 s2 s3 s4 s5) (exit : ∀ s1 s2 s3 s4 s5, I 0 s1 s2 s3 s4 s5 → Ex (-1) s1 s2 s3 s4 s5) (e0 : a0 = nI N - 1 := by rfl) (hN : N < 2147483648 := by omega) : Lz6 (fun g i s1 s2 s3 s4 s5 => (i < 0 → Ex i s1 s2 s3 s4 s5) ∧ (¬ i < 0 → Bd g i s1 s2 s3 s4 s5)) a0 a1 a2 a3 a4 a5 := by
  refine Lz6_by (fun i s1 s2 s3 s4 s5 => ∃ k, k ≤ N ∧ i = nI k - 1 ∧ I k s1 s2 s3 s4 s5) (fun i _ _ _ _ _ => (i + 1).toNatClampNeg) a0 a1 a2 a3 a4 a5 ⟨N, Nat.le_refl _, e0, hI⟩ ?_
  rintro i s1 s2 s3 s4 s5 ⟨k, h2, rfl, h3⟩ again hag
  cases k with
  | zero => exact ⟨fun _ => exit _ _ _ _ _ h3, fun h => absurd (by decide) h⟩
  | succ k =>
    rw [nI_pred]
    refine ⟨fun h => absurd h (nI_pos (by omega)), fun _ => step k s1 s2 s3 s4 s5 (by omega) h3 again (fun u1 u2 u3 u4 u5 h4 => ?_)⟩
    have e : nI k + (-1) = nI k - 1 := (Int32.sub_eq_add_neg _ _).symm
    refine hag _ _ _ _ _ _ ⟨k, by omega, e, h4⟩ ?_
    show (nI k + (-1) + 1).toNatClampNeg < (nI (k + 1) - 1 + 1).toNatClampNeg
    rw [nI_pred, show nI k + (-1) + 1 = nI k by rw [Int32.add_assoc]; exact Int32.add_zero _, nI_1, nI_clamp (by omega), nI_clamp (by omega)]; omega
theorem cstr5 {T1 T2 T3 T4 T5 : Type} {Ex : Int32 → T1 → T2 → T3 → T4 → T5 → Prop} {Bd : (Int32 → T1 → T2 → T3 → T4 → T5 → Prop) → Int32 → T1 → T2 → T3 → T4 → T5 → Prop} {a0 : Int32} {a1 : T1} {a2 : T2} {a3 : T3} {a4 : T4} {a5 : T5} (b S M N : Nat) (I : Nat → T1 → T2 → T3 → T4 → T5 → Prop) (hI : I 0 a1 a2 a3 a4 a5) (step : ∀ k s1 s2 s3 s4 s5, k < N → I k s1 s2 s3 s4 s5 → ∀ g : Int32 → T1 → T2 → T3 → T4 → T5 → Prop, (∀ u1 u2 u3 u4 u5, I (k + 1) u1 u2 u3 u4 u5 → g (nI (b + S * (k + 1))) u1 u2 u3 u4 u5) → Bd g (nI (b + S * k)) s1 s2 s3 s4 s5) (exit : ∀ s1 s2 s3 s4 s5, I N s1 s2 s3 s4 s5 → Ex (nI (b + S * N)) s1 s2 s3 s4 s5) (e0 : a0 = nI b := by rfl) (hM : M ≤ b + S * N := by omega) (hS : 0 < S := by omega) (hl : ∀ k, k < N → b + S * k < M := by intro k hk; omega) (hN : b + S * N < 2147483648 := by omega) : Lz6 (fun g i s1 s2 s3 s4 s5 => (nI M ≤ i → Ex i s1 s2 s3 s4 s5) ∧ (¬ nI M ≤ i → Bd g i s1 s2 s3 s4 s5)) a0 a1 a2 a3 a4 a5 := by
  refine Lz6_by (fun i s1 s2 s3 s4 s5 => ∃ k, k ≤ N ∧ i = nI (b + S * k) ∧ I k s1 s2 s3 s4 s5) (fun i _ _ _ _ _ => b + S * N - i.toNatClampNeg) a0 a1 a2 a3 a4 a5 ⟨0, Nat.zero_le _, by rw [Nat.mul_zero, Nat.add_zero]; exact e0, hI⟩ ?_
  rintro i s1 s2 s3 s4 s5 ⟨k, h2, rfl, h3⟩ again hag
  have hk : b + S * k ≤ b + S * N := Nat.add_le_add_left (Nat.mul_le_mul_left _ h2) _
  by_cases hkN : k = N
  · subst hkN; exact ⟨fun _ => exit _ _ _ _ _ h3, fun h => absurd (nI_le hM hN) h⟩
  · have hk1 : b + S * (k + 1) ≤ b + S * N := Nat.add_le_add_left (Nat.mul_le_mul_left _ (by omega)) _
    have hk2 : b + S * k < b + S * (k + 1) := Nat.add_lt_add_left (Nat.mul_lt_mul_of_pos_left (Nat.lt_succ_self k) hS) _
    have hk3 := hl k (by omega)
    refine ⟨fun h => absurd h (nI_ge hk3 (Nat.lt_of_le_of_lt hM hN)), fun _ => step k s1 s2 s3 s4 s5 (by omega) h3 again (fun u1 u2 u3 u4 u5 h4 => ?_)⟩
    exact hag _ _ _ _ _ _ ⟨k + 1, by omega, rfl, h4⟩ (by rw [nI_clamp (Nat.lt_of_le_of_lt hk1 hN), nI_clamp (Nat.lt_of_le_of_lt hk hN)]; omega)
theorem cinv6 {T1 T2 T3 T4 T5 T6 : Type} {Ex : Int32 → T1 → T2 → T3 → T4 → T5 → T6 → Prop} {Bd : (Int32 → T1 → T2 → T3 → T4 → T5 → T6 → Prop) → Int32 → T1 → T2 → T3 → T4 → T5 → T6 → Prop} {a0 : Int32} {a1 : T1} {a2 : T2} {a3 : T3} {a4 : T4} {a5 : T5} {a6 : T6} (i0 N : Nat) (I : Nat → T1 → T2 → T3 → T4 → T5 → T6 → Prop) (hI : I i0 a1 a2 a3 a4 a5 a6) (step : ∀ k s1 s2 s3 s4 s5 s6, i0 ≤ k → k < N → I k s1 s2 s3 s4 s5 s6 → ∀ g : Int32 → T1 → T2 → T3 → T4 → T5 → T6 → Prop, (∀ u1 u2 u3 u4 u5 u6, I (k + 1) u1 u2 u3 u4 u5 u6 → g (nI (k + 1)) u1 u2 u3 u4 u5 u6) → Bd g (nI k) s1 s2 s3 s4 s5 s6) (exit : ∀ s1 s2 s3 s4 s5 s6, I N s1 s2 s3 s4 s5 s6 → Ex (nI N) s1 s2 s3 s4 s5 s6) (e0 : a0 = nI i0 := by rfl) (h0 : i0 ≤ N := by omega) (hN : N < 2147483648 := by omega) : Lz7 (fun g i s1 s2 s3 s4 s5 s6 => (nI N ≤ i → Ex i s1 s2 s3 s4 s5 s6) ∧ (¬ nI N ≤ i → Bd g i s1 s2 s3 s4 s5 s6)) a0 a1 a2 a3 a4 a5 a6 := by
  refine Lz7_by (fun i s1 s2 s3 s4 s5 s6 => ∃ k, i0 ≤ k ∧ k ≤ N ∧ i = nI k ∧ I k s1 s2 s3 s4 s5 s6) (fun i _ _ _ _ _ _ => N - i.toNatClampNeg) a0 a1 a2 a3 a4 a5 a6 ⟨i0, Nat.le_refl _, h0, e0, hI⟩ ?_
  rintro i s1 s2 s3 s4 s5 s6 ⟨k, h1, h2, rfl, h3⟩ again hag
  by_cases hl : k = N
  · subst hl; exact ⟨fun _ => exit _ _ _ _ _ _ h3, fun h => absurd (Int32.le_refl _) h⟩
  · refine ⟨fun h => absurd ((nI_leI hN (by omega)).mp h) (by omega), fun _ => step k s1 s2 s3 s4 s5 s6 h1 (by omega) h3 again (fun u1 u2 u3 u4 u5 u6 h4 => ?_)⟩
    exact hag _ _ _ _ _ _ _ ⟨k + 1, by omega, by omega, rfl, h4⟩ (by rw [nI_clamp (by omega), nI_clamp (by omega)]; omega)
theorem cdwn6 {T1 T2 T3 T4 T5 T6 : Type} {Ex : Int32 → T1 → T2 → T3 → T4 → T5 → T6 → Prop} {Bd : (Int32 → T1 → T2 → T3 → T4 → T5 → T6 → Prop) → Int32 → T1 → T2 → T3 → T4 → T5 → T6 → Prop} {a0 : Int32} {a1 : T1} {a2 : T2} {a3 : T3} {a4 : T4} {a5 : T5} {a6 : T6} (N : Nat) (I : Nat → T1 → T2 → T3 → T4 → T5 → T6 → Prop) (hI : I N a1 a2 a3 a4 a5 a6) (step : ∀ k s1 s2 s3 s4 s5 s6, k < N → I (k + 1) s1 s2 s3 s4 s5 s6 → ∀ g : Int32 → T1 → T2 → T3 → T4 → T5 → T6 → Prop, (∀ u1 u2 u3 u4 u5 u6, I k u1 u2 u3 u4 u5 u6 → g (nI k + (-1)) u1 u2 u3 u4 u5 u6) → Bd g (nI k) s1 s2 s3 s4 s5 s6) (exit : ∀ s1 s2 s3 s4 s5 s6, I 0 s1 s2 s3 s4 s5 s6 → Ex (-1) s1 s2 s3 s4 s5 s6) (e0 : a0 = nI N - 1 := by rfl) (hN : N < 2147483648 := by omega) : Lz7 (fun g i s1 s2 s3 s4 s5 s6 => (i < 0 → Ex i s1 s2 s3 s4 s5 s6) ∧ (¬ i < 0 → Bd g i s1 s2 s3 s4 s5 s6)) a0 a1 a2 a3 a4 a5 a6 := by
  refine Lz7_by (fun i s1 s2 s3 s4 s5 s6 => ∃ k, k ≤ N ∧ i = nI k - 1 ∧ I k s1 s2 s3 s4 s5 s6) (fun i _ _ _ _ _ _ => (i + 1).toNatClampNeg) a0 a1 a2 a3 a4 a5 a6 ⟨N, Nat.le_refl _, e0, hI⟩ ?_
  rintro i s1 s2 s3 s4 s5 s6 ⟨k, h2, rfl, h3⟩ again hag
  cases k with
  | zero => exact ⟨fun _ => exit _ _ _ _ _ _ h3, fun h => absurd (by decide) h⟩
  | succ k =>
    rw [nI_pred]
    refine ⟨fun h => absurd h (nI_pos (by omega)), fun _ => step k s1 s2 s3 s4 s5 s6 (by omega) h3 again (fun u1 u2 u3 u4 u5 u6 h4 => ?_)⟩
    have e : nI k + (-1) = nI k - 1 := (Int32.sub_eq_add_neg _ _).symm
    refine hag _ _ _ _ _ _ _ ⟨k, by omega, e, h4⟩ ?_
    show (nI k + (-1) + 1).toNatClampNeg < (nI (k + 1) - 1 + 1).toNatClampNeg
    rw [nI_pred, show nI k + (-1) + 1 = nI k by rw [Int32.add_assoc]; exact Int32.add_zero _, nI_1, nI_clamp (by omega), nI_clamp (by omega)]; omega
theorem cinv7 {T1 T2 T3 T4 T5 T6 T7 : Type} {Ex : Int32 → T1 → T2 → T3 → T4 → T5 → T6 → T7 → Prop} {Bd : (Int32 → T1 → T2 → T3 → T4 → T5 → T6 → T7 → Prop) → Int32 → T1 → T2 → T3 → T4 → T5 → T6 → T7 → Prop} {a0 : Int32} {a1 : T1} {a2 : T2} {a3 : T3} {a4 : T4} {a5 : T5} {a6 : T6} {a7 : T7} (i0 N : Nat) (I : Nat → T1 → T2 → T3 → T4 → T5 → T6 → T7 → Prop) (hI : I i0 a1 a2 a3 a4 a5 a6 a7) (step : ∀ k s1 s2 s3 s4 s5 s6 s7, i0 ≤ k → k < N → I k s1 s2 s3 s4 s5 s6 s7 → ∀ g : Int32 → T1 → T2 → T3 → T4 → T5 → T6 → T7 → Prop, (∀ u1 u2 u3 u4 u5 u6 u7, I (k + 1) u1 u2 u3 u4 u5 u6 u7 → g (nI (k + 1)) u1 u2 u3 u4 u5 u6 u7) → Bd g (nI k) s1 s2 s3 s4 s5 s6 s7) (exit : ∀ s1 s2 s3 s4 s5 s6 s7, I N s1 s2 s3 s4 s5 s6 s7 → Ex (nI N) s1 s2 s3 s4 s5 s6 s7) (e0 : a0 = nI i0 := by rfl) (h0 : i0 ≤ N := by omega) (hN : N < 2147483648 := by omega) : Lz8 (fun g i s1 s2 s3 s4 s5 s6 s7 => (nI N ≤ i → Ex i s1 s2 s3 s4 s5 s6 s7) ∧ (¬ nI N ≤ i → Bd g i s1 s2 s3 s4 s5 s6 s7)) a0 a1 a2 a3 a4 a5 a6 a7 := by
  refine Lz8_by (fun i s1 s2 s3 s4 s5 s6 s7 => ∃ k, i0 ≤ k ∧ k ≤ N ∧ i = nI k ∧ I k s1 s2 s3 s4 s5 s6 s7) (fun i _ _ _ _ _ _ _ => N - i.toNatClampNeg) a0 a1 a2 a3 a4 a5 a6 a7 ⟨i0, Nat.le_refl _, h0, e0, hI⟩ ?_
  rintro i s1 s2 s3 s4 s5 s6 s7 ⟨k, h1, h2, rfl, h3⟩ again hag
  by_cases hl : k = N
  · subst hl; exact ⟨fun _ => exit _ _ _ _ _ _ _ h3, fun h => absurd (Int32.le_refl _) h⟩
  · refine ⟨fun h => absurd ((nI_leI hN (by omega)).mp h) (by omega), fun _ => step k s1 s2 s3 s4 s5 s6 s7 h1 (by omega) h3 again (fun u1 u2 u3 u4 u5 u6 u7 h4 => ?_)⟩
    exact hag _ _ _ _ _ _ _ _ ⟨k + 1, by omega, by omega, rfl, h4⟩ (by rw [nI_clamp (by omega), nI_clamp (by omega)]; omega)
theorem cdwn7 {T1 T2 T3 T4 T5 T6 T7 : Type} {Ex : Int32 → T1 → T2 → T3 → T4 → T5 → T6 → T7 → Prop} {Bd : (Int32 → T1 → T2 → T3 → T4 → T5 → T6 → T7 → Prop) → Int32 → T1 → T2 → T3 → T4 → T5 → T6 → T7 → Prop} {a0 : Int32} {a1 : T1} {a2 : T2} {a3 : T3} {a4 : T4} {a5 : T5} {a6 : T6} {a7 : T7} (N : Nat) (I : Nat → T1 → T2 → T3 → T4 → T5 → T6 → T7 → Prop) (hI : I N a1 a2 a3 a4 a5 a6 a7) (step : ∀ k s1 s2 s3 s4 s5 s6 s7, k < N → I (k + 1) s1 s2 s3 s4 s5 s6 s7 → ∀ g : Int32 → T1 → T2 → T3 → T4 → T5 → T6 → T7 → Prop, (∀ u1 u2 u3 u4 u5 u6 u7, I k u1 u2 u3 u4 u5 u6 u7 → g (nI k + (-1)) u1 u2 u3 u4 u5 u6 u7) → Bd g (nI k) s1 s2 s3 s4 s5 s6 s7) (exit : ∀ s1 s2 s3 s4 s5 s6 s7, I 0 s1 s2 s3 s4 s5 s6 s7 → Ex (-1) s1 s2 s3 s4 s5 s6 s7) (e0 : a0 = nI N - 1 := by rfl) (hN : N < 2147483648 := by omega) : Lz8 (fun g i s1 s2 s3 s4 s5 s6 s7 => (i < 0 → Ex i s1 s2 s3 s4 s5 s6 s7) ∧ (¬ i < 0 → Bd g i s1 s2 s3 s4 s5 s6 s7)) a0 a1 a2 a3 a4 a5 a6 a7 := by
  refine Lz8_by (fun i s1 s2 s3 s4 s5 s6 s7 => ∃ k, k ≤ N ∧ i = nI k - 1 ∧ I k s1 s2 s3 s4 s5 s6 s7) (fun i _ _ _ _ _ _ _ => (i + 1).toNatClampNeg) a0 a1 a2 a3 a4 a5 a6 a7 ⟨N, Nat.le_refl _, e0, hI⟩ ?_
  rintro i s1 s2 s3 s4 s5 s6 s7 ⟨k, h2, rfl, h3⟩ again hag
  cases k with
  | zero => exact ⟨fun _ => exit _ _ _ _ _ _ _ h3, fun h => absurd (by decide) h⟩
  | succ k =>
    rw [nI_pred]
    refine ⟨fun h => absurd h (nI_pos (by omega)), fun _ => step k s1 s2 s3 s4 s5 s6 s7 (by omega) h3 again (fun u1 u2 u3 u4 u5 u6 u7 h4 => ?_)⟩
    have e : nI k + (-1) = nI k - 1 := (Int32.sub_eq_add_neg _ _).symm
    refine hag _ _ _ _ _ _ _ _ ⟨k, by omega, e, h4⟩ ?_
    show (nI k + (-1) + 1).toNatClampNeg < (nI (k + 1) - 1 + 1).toNatClampNeg
    rw [nI_pred, show nI k + (-1) + 1 = nI k by rw [Int32.add_assoc]; exact Int32.add_zero _, nI_1, nI_clamp (by omega), nI_clamp (by omega)]; omega
theorem cinv8 {T1 T2 T3 T4 T5 T6 T7 T8 : Type} {Ex : Int32 → T1 → T2 → T3 → T4 → T5 → T6 → T7 → T8 → Prop} {Bd : (Int32 → T1 → T2 → T3 → T4 → T5 → T6 → T7 → T8 → Prop) → Int32 → T1 → T2 → T3 → T4 → T5 → T6 → T7 → T8 → Prop} {a0 : Int32} {a1 : T1} {a2 : T2} {a3 : T3} {a4 : T4} {a5 : T5} {a6 : T6} {a7 : T7} {a8 : T8} (i0 N : Nat) (I : Nat → T1 → T2 → T3 → T4 → T5 → T6 → T7 → T8 → Prop) (hI : I i0 a1 a2 a3 a4 a5 a6 a7 a8) (step : ∀ k s1 s2 s3 s4 s5 s6 s7 s8, i0 ≤ k → k < N → I k s1 s2 s3 s4 s5 s6 s7 s8 → ∀ g : Int32 → T1 → T2 → T3 → T4 → T5 → T6 → T7 → T8 → Prop, (∀ u1 u2 u3 u4 u5 u6 u7 u8, I (k + 1) u1 u2 u3 u4 u5 u6 u7 u8 → g (nI (k + 1)) u1 u2 u3 u4 u5 u6 u7 u8) → Bd g (nI k) s1 s2 s3 s4 s5 s6 s7 s8) (exit : ∀ s1 s2 s3 s4 s5 s6 s7 s8, I N s1 s2 s3 s4 s5 s6 s7 s8 → Ex (nI N) s1 s2 s3 s4 s5 s6 s7 s8) (e0 : a0 = nI i0 := by rfl) (h0 : i0 ≤ N := by omega) (hN : N < 2147483648 := by omega) : Lz9 (fun g i s1 s2 s3 s4 s5 s6 s7 s8 => (nI N ≤ i → Ex i s1 s2 s3 s4 s5 s6 s7 s8) ∧ (¬ nI N ≤ i → Bd g i s1 s2 s3 s4 s5 s6 s7 s8)) a0 a1 a2 a3 a4 a5 a6 a7 a8 := by
  refine Lz9_by (fun i s1 s2 s3 s4 s5 s6 s7 s8 => ∃ k, i0 ≤ k ∧ k ≤ N ∧ i = nI k ∧ I k s1 s2 s3 s4 s5 s6 s7 s8) (fun i _ _ _ _ _ _ _ _ => N - i.toNatClampNeg) a0 a1 a2 a3 a4 a5 a6 a7 a8 ⟨i0, Nat.le_refl _, h0, e0, hI⟩ ?_
  rintro i s1 s2 s3 s4 s5 s6 s7 s8 ⟨k, h1, h2, rfl, h3⟩ again hag
  by_cases hl : k = N
  · subst hl; exact ⟨fun _ => exit _ _ _ _ _ _ _ _ h3, fun h => absurd (Int32.le_refl _) h⟩
  · refine ⟨fun h => absurd ((nI_leI hN (by omega)).mp h) (by omega), fun _ => step k s1 s2 s3 s4 s5 s6 s7 s8 h1 (by omega) h3 again (fun u1 u2 u3 u4 u5 u6 u7 u8 h4 => ?_)⟩
    exact hag _ _ _ _ _ _ _ _ _ ⟨k + 1, by omega, by omega, rfl, h4⟩ (by rw [nI_clamp (by omega), nI_clamp (by omega)]; omega)
theorem cdwn8 {T1 T2 T3 T4 T5 T6 T7 T8 : Type} {Ex : Int32 → T1 → T2 → T3 → T4 → T5 → T6 → T7 → T8 → Prop} {Bd : (Int32 → T1 → T2 → T3 → T4 → T5 → T6 → T7 → T8 → Prop) → Int32 → T1 → T2 → T3 → T4 → T5 → T6 → T7 → T8 → Prop} {a0 : Int32} {a1 : T1} {a2 : T2} {a3 : T3} {a4 : T4} {a5 : T5} {a6 : T6} {a7 : T7} {a8 : T8} (N : Nat) (I : Nat → T1 → T2 → T3 → T4 → T5 → T6 → T7 → T8 → Prop) (hI : I N a1 a2 a3 a4 a5 a6 a7 a8) (step : ∀ k s1 s2 s3 s4 s5 s6 s7 s8, k < N → I (k + 1) s1 s2 s3 s4 s5 s6 s7 s8 → ∀ g : Int32 → T1 → T2 → T3 → T4 → T5 → T6 → T7 → T8 → Prop, (∀ u1 u2 u3 u4 u5 u6 u7 u8, I k u1 u2 u3 u4 u5 u6 u7 u8 → g (nI k + (-1)) u1 u2 u3 u4 u5 u6 u7 u8) → Bd g (nI k) s1 s2 s3 s4 s5 s6 s7 s8) (exit : ∀ s1 s2 s3 s4 s5 s6 s7 s8, I 0 s1 s2 s3 s4 s5 s6 s7 s8 → Ex (-1) s1 s2 s3 s4 s5 s6 s7 s8) (e0 : a0 = nI N - 1 := by rfl) (hN : N < 2147483648 := by omega) : Lz9 (fun g i s1 s2 s3 s4 s5 s6 s7 s8 => (i < 0 → Ex i s1 s2 s3 s4 s5 s6 s7 s8) ∧ (¬ i < 0 → Bd g i s1 s2 s3 s4 s5 s6 s7 s8)) a0 a1 a2 a3 a4 a5 a6 a7 a8 := by
  refine Lz9_by (fun i s1 s2 s3 s4 s5 s6 s7 s8 => ∃ k, k ≤ N ∧ i = nI k - 1 ∧ I k s1 s2 s3 s4 s5 s6 s7 s8) (fun i _ _ _ _ _ _ _ _ => (i + 1).toNatClampNeg) a0 a1 a2 a3 a4 a5 a6 a7 a8 ⟨N, Nat.le_refl _, e0, hI⟩ ?_
  rintro i s1 s2 s3 s4 s5 s6 s7 s8 ⟨k, h2, rfl, h3⟩ again hag
  cases k with
  | zero => exact ⟨fun _ => exit _ _ _ _ _ _ _ _ h3, fun h => absurd (by decide) h⟩
  | succ k =>
    rw [nI_pred]
    refine ⟨fun h => absurd h (nI_pos (by omega)), fun _ => step k s1 s2 s3 s4 s5 s6 s7 s8 (by omega) h3 again (fun u1 u2 u3 u4 u5 u6 u7 u8 h4 => ?_)⟩
    have e : nI k + (-1) = nI k - 1 := (Int32.sub_eq_add_neg _ _).symm
    refine hag _ _ _ _ _ _ _ _ _ ⟨k, by omega, e, h4⟩ ?_
    show (nI k + (-1) + 1).toNatClampNeg < (nI (k + 1) - 1 + 1).toNatClampNeg
    rw [nI_pred, show nI k + (-1) + 1 = nI k by rw [Int32.add_assoc]; exact Int32.add_zero _, nI_1, nI_clamp (by omega), nI_clamp (by omega)]; omega
theorem cinv9 {T1 T2 T3 T4 T5 T6 T7 T8 T9 : Type} {Ex : Int32 → T1 → T2 → T3 → T4 → T5 → T6 → T7 → T8 → T9 → Prop} {Bd : (Int32 → T1 → T2 → T3 → T4 → T5 → T6 → T7 → T8 → T9 → Prop) → Int32 → T1 → T2 → T3 → T4 → T5 → T6 → T7 → T8 → T9 → Prop} {a0 : Int32} {a1 : T1} {a2 : T2} {a3 : T3} {a4 : T4} {a5 : T5} {a6 : T6} {a7 : T7} {a8 : T8} {a9 : T9} (i0 N : Nat) (I : Nat → T1 → T2 → T3 → T4 → T5 → T6 → T7 → T8 → T9 → Prop) (hI : I i0 a1 a2 a3 a4 a5 a6 a7 a8 a9) (step : ∀ k s1 s2 s3 s4 s5 s6 s7 s8 s9, i0 ≤ k → k < N → I k s1 s2 s3 s4 s5 s6 s7 s8 s9 → ∀ g : Int32 → T1 → T2 → T3 → T4 → T5 → T6 → T7 → T8 → T9 → Prop, (∀ u1 u2 u3 u4 u5 u6 u7 u8 u9, I (k + 1) u1 u2 u3 u4 u5 u6 u7 u8 u9 → g (nI (k + 1)) u1 u2 u3 u4 u5 u6 u7 u8 u9) → Bd g (nI k) s1 s2 s3 s4 s5 s6 s7 s8 s9) (exit : ∀ s1 s2 s3 s4 s5 s6 s7 s8 s9, I N s1 s2 s3 s4 s5 s6 s7 s8 s9 → Ex (nI N) s1 s2 s3 s4 s5 s6 s7 s8 s9) (e0 : a0 = nI i0 := by rfl) (h0 : i0 ≤ N := by omega) (hN : N < 2147483648 := by omega) : Lz10 (fun g i s1 s2 s3 s4 s5 s6 s7 s8 s9 => (nI N ≤ i → Ex i s1 s2 s3 s4 s5 s6 s7 s8 s9) ∧ (¬ nI N ≤ i → Bd g i s1 s2 s3 s4 s5 s6 s7 s8 s9)) a0 a1 a2 a3 a4 a5 a6 a7 a8 a9 := by
  refine Lz10_by (fun i s1 s2 s3 s4 s5 s6 s7 s8 s9 => ∃ k, i0 ≤ k ∧ k ≤ N ∧ i = nI k ∧ I k s1 s2 s3 s4 s5 s6 s7 s8 s9) (fun i _ _ _ _ _ _ _ _ _ => N - i.toNatClampNeg) a0 a1 a2 a3 a4 a5 a6 a7 a8 a9 ⟨i0, Nat.le_refl _, h0, e0, hI⟩ ?_
  rintro i s1 s2 s3 s4 s5 s6 s7 s8 s9 ⟨k, h1, h2, rfl, h3⟩ again hag
  by_cases hl : k = N
  · subst hl; exact ⟨fun _ => exit _ _ _ _ _ _ _ _ _ h3, fun h => absurd (Int32.le_refl _) h⟩
  · refine ⟨fun h => absurd ((nI_leI hN (by omega)).mp h) (by omega), fun _ => step k s1 s2 s3 s4 s5 s6 s7 s8 s9 h1 (by omega) h3 again (fun u1 u2 u3 u4 u5 u6 u7 u8 u9 h4 => ?_)⟩
    exact hag _ _ _ _ _ _ _ _ _ _ ⟨k + 1, by omega, by omega, rfl, h4⟩ (by rw [nI_clamp (by omega), nI_clamp (by omega)]; omega)
theorem cinv10 {T1 T2 T3 T4 T5 T6 T7 T8 T9 T10 : Type} {Ex : Int32 → T1 → T2 → T3 → T4 → T5 → T6 → T7 → T8 → T9 → T10 → Prop} {Bd : (Int32 → T1 → T2 → T3 → T4 → T5 → T6 → T7 → T8 → T9 → T10 → Prop) → Int32 → T1 → T2 → T3 → T4 → T5 → T6 → T7 → T8 → T9 → T10 → Prop} {a0 : Int32} {a1 : T1} {a2 : T2} {a3 : T3} {a4 : T4} {a5 : T5} {a6 : T6} {a7 : T7} {a8 : T8} {a9 : T9} {a10 : T10} (i0 N : Nat) (I : Nat → T1 → T2 → T3 → T4 → T5 → T6 → T7 → T8 → T9 → T10 → Prop) (hI : I i0 a1 a2 a3 a4 a5 a6 a7 a8 a9 a10) (step : ∀ k s1 s2 s3 s4 s5 s6 s7 s8 s9 s10, i0 ≤ k → k < N → I k s1 s2 s3 s4 s5 s6 s7 s8 s9 s10 → ∀ g : Int32 → T1 → T2 → T3 → T4 → T5 → T6 → T7 → T8 → T9 → T10 → Prop, (∀ u1 u2 u3 u4 u5 u6 u7 u8 u9 u10, I (k + 1) u1 u2 u3 u4 u5 u6 u7 u8 u9 u10 → g (nI (k + 1)) u1 u2 u3 u4 u5 u6 u7 u8 u9 u10) → Bd g (nI k) s1 s2 s3 s4 s5 s6 s7 s8 s9 s10) (exit : ∀ s1 s2 s3 s4 s5 s6 s7 s8 s9 s10, I N s1 s2 s3 s4 s5 s6 s7 s8 s9 s10 → Ex (nI N) s1 s2 s3 s4 s5 s6 s7 s8 s9 s10) (e0 : a0 = nI i0 := by rfl) (h0 : i0 ≤ N := by omega) (hN : N < 2147483648 := by omega) : Lz11 (fun g i s1 s2 s3 s4 s5 s6 s7 s8 s9 s10 => (nI N ≤ i → Ex i s1 s2 s3 s4 s5 s6 s7 s8 s9 s10) ∧ (¬ nI N ≤ i → Bd g i s1 s2 s3 s4 s5 s6 s7 s8 s9 s10)) a0 a1 a2 a3 a4 a5 a6 a7 a8 a9 a10 := by
  refine Lz11_by (fun i s1 s2 s3 s4 s5 s6 s7 s8 s9 s10 => ∃ k, i0 ≤ k ∧ k ≤ N ∧ i = nI k ∧ I k s1 s2 s3 s4 s5 s6 s7 s8 s9 s10) (fun i _ _ _ _ _ _ _ _ _ _ => N - i.toNatClampNeg) a0 a1 a2 a3 a4 a5 a6 a7 a8 a9 a10 ⟨i0, Nat.le_refl _, h0, e0, hI⟩ ?_
  rintro i s1 s2 s3 s4 s5 s6 s7 s8 s9 s10 ⟨k, h1, h2, rfl, h3⟩ again hag
  by_cases hl : k = N
  · subst hl; exact ⟨fun _ => exit _ _ _ _ _ _ _ _ _ _ h3, fun h => absurd (Int32.le_refl _) h⟩
  · refine ⟨fun h => absurd ((nI_leI hN (by omega)).mp h) (by omega), fun _ => step k s1 s2 s3 s4 s5 s6 s7 s8 s9 s10 h1 (by omega) h3 again (fun u1 u2 u3 u4 u5 u6 u7 u8 u9 u10 h4 => ?_)⟩
    exact hag _ _ _ _ _ _ _ _ _ _ _ ⟨k + 1, by omega, by omega, rfl, h4⟩ (by rw [nI_clamp (by omega), nI_clamp (by omega)]; omega)
theorem cinv11 {T1 T2 T3 T4 T5 T6 T7 T8 T9 T10 T11 : Type} {Ex : Int32 → T1 → T2 → T3 → T4 → T5 → T6 → T7 → T8 → T9 → T10 → T11 → Prop} {Bd : (Int32 → T1 → T2 → T3 → T4 → T5 → T6 → T7 → T8 → T9 → T10 → T11 → Prop) → Int32 → T1 → T2 → T3 → T4 → T5 → T6 → T7 → T8 → T9 → T10 → T11 → Prop} {a0 : Int32} {a1 : T1} {a2 : T2} {a3 : T3} {a4 : T4} {a5 : T5} {a6 : T6} {a7 : T7} {a8 : T8} {a9 : T9} {a10 : T10} {a11 : T11} (i0 N : Nat) (I : Nat → T1 → T2 → T3 → T4 → T5 → T6 → T7 → T8 → T9 → T10 → T11 → Prop) (hI : I i0 a1 a2 a3 a4 a5 a6 a7 a8 a9 a10 a11) (step : ∀ k s1 s2 s3 s4 s5 s6 s7 s8 s9 s10 s11, i0 ≤ k → k < N → I k s1 s2 s3 s4 s5 s6 s7 s8 s9 s10 s11 → ∀ g : Int32 → T1 → T2 → T3 → T4 → T5 → T6 → T7 → T8 → T9 → T10 → T11 → Prop, (∀ u1 u2 u3 u4 u5 u6 u7 u8 u9 u10 u11, I (k + 1) u1 u2 u3 u4 u5 u6 u7 u8 u9 u10 u11 → g (nI (k + 1)) u1 u2 u3 u4 u5 u6 u7 u8 u9 u10 u11) → Bd g (nI k) s1 s2 s3 s4 s5 s6 s7 s8 s9 s10 s11) (exit : ∀ s1 s2 s3 s4 s5 s6 s7 s8 s9 s10 s11, I N s1 s2 s3 s4 s5 s6 s7 s8 s9 s10 s11 → Ex (nI N) s1 s2 s3 s4 s5 s6 s7 s8 s9 s10 s11) (e0 : a0 = nI i0 := by rfl) (h0 : i0 ≤ N := by omega) (hN : N < 2147483648 := by omega) : Lz12 (fun g i s1 s2 s3 s4 s5 s6 s7 s8 s9 s10 s11 => (nI N ≤ i → Ex i s1 s2 s3 s4 s5 s6 s7 s8 s9 s10 s11) ∧ (¬ nI N ≤ i → Bd g i s1 s2 s3 s4 s5 s6 s7 s8 s9 s10 s11)) a0 a1 a2 a3 a4 a5 a6 a7 a8 a9 a10 a11 := by
  refine Lz12_by (fun i s1 s2 s3 s4 s5 s6 s7 s8 s9 s10 s11 => ∃ k, i0 ≤ k ∧ k ≤ N ∧ i = nI k ∧ I k s1 s2 s3 s4 s5 s6 s7 s8 s9 s10 s11) (fun i _ _ _ _ _ _ _ _ _ _ _ => N - i.toNatClampNeg) a0 a1 a2 a3 a4 a5 a6 a7 a8 a9 a10 a11 ⟨i0, Nat.le_refl _, h0, e0, hI⟩ ?_
  rintro i s1 s2 s3 s4 s5 s6 s7 s8 s9 s10 s11 ⟨k, h1, h2, rfl, h3⟩ again hag
  by_cases hl : k = N
  · subst hl; exact ⟨fun _ => exit _ _ _ _ _ _ _ _ _ _ _ h3, fun h => absurd (Int32.le_refl _) h⟩
  · refine ⟨fun h => absurd ((nI_leI hN (by omega)).mp h) (by omega), fun _ => step k s1 s2 s3 s4 s5 s6 s7 s8 s9 s10 s11 h1 (by omega) h3 again (fun u1 u2 u3 u4 u5 u6 u7 u8 u9 u10 u11 h4 => ?_)⟩
    exact hag _ _ _ _ _ _ _ _ _ _ _ _ ⟨k + 1, by omega, by omega, rfl, h4⟩ (by rw [nI_clamp (by omega), nI_clamp (by omega)]; omega)
theorem cinv12 {T1 T2 T3 T4 T5 T6 T7 T8 T9 T10 T11 T12 : Type} {Ex : Int32 → T1 → T2 → T3 → T4 → T5 → T6 → T7 → T8 → T9 → T10 → T11 → T12 → Prop} {Bd : (Int32 → T1 → T2 → T3 → T4 → T5 → T6 → T7 → T8 → T9 → T10 → T11 → T12 → Prop) → Int32 → T1 → T2 → T3 → T4 → T5 → T6 → T7 → T8 → T9 → T10 → T11 → T12 → Prop} {a0 : Int32} {a1 : T1} {a2 : T2} {a3 : T3} {a4 : T4} {a5 : T5} {a6 : T6} {a7 : T7} {a8 : T8} {a9 : T9} {a10 : T10} {a11 : T11} {a12 : T12} (i0 N : Nat) (I : Nat → T1 → T2 → T3 → T4 → T5 → T6 → T7 → T8 → T9 → T10 → T11 → T12 → Prop) (hI : I i0 a1 a2 a3 a4 a5 a6 a7 a8 a9 a10 a11 a12) (step : ∀ k s1 s2 s3 s4 s5 s6 s7 s8 s9 s10 s11 s12, i0 ≤ k → k < N → I k s1 s2 s3 s4 s5 s6 s7 s8 s9 s10 s11 s12 → ∀ g : Int32 → T1 → T2 → T3 → T4 → T5 → T6 → T7 → T8 → T9 → T10 → T11 → T12 → Prop, (∀ u1 u2 u3 u4 u5 u6 u7 u8 u9 u10 u11 u12, I (k + 1) u1 u2 u3 u4 u5 u6 u7 u8 u9 u10 u11 u12 → g (nI (k + 1)) u1 u2 u3 u4 u5 u6 u7 u8 u9 u10 u11 u12) → Bd g (nI k) s1 s2 s3 s4 s5 s6 s7 s8 s9 s10 s11 s12) (exit : ∀ s1 s2 s3 s4 s5 s6 s7 s8 s9 s10 s11 s12, I N s1 s2 s3 s4 s5 s6 s7 s8 s9 s10 s11 s12 → Ex (nI N) s1 s2 s3 s4 s5 s6 s7 s8 s9 s10 s11 s12) (e0 : a0 = nI i0 := by rfl) (h0 : i0 ≤ N := by omega) (hN : N < 2147483648 := by omega) : Lz13 (fun g i s1 s2 s3 s4 s5 s6 s7 s8 s9 s10 s11 s12 => (nI N ≤ i → Ex i s1 s2 s3 s4 s5 s6 s7 s8 s9 s10 s11 s12) ∧ (¬ nI N ≤ i → Bd g i s1 s2 s3 s4 s5 s6 s7 s8 s9 s10 s11 s12)) a0 a1 a2 a3 a4 a5 a6 a7 a8 a9 a10 a11 a12 := by
  refine Lz13_by (fun i s1 s2 s3 s4 s5 s6 s7 s8 s9 s10 s11 s12 => ∃ k, i0 ≤ k ∧ k ≤ N ∧ i = nI k ∧ I k s1 s2 s3 s4 s5 s6 s7 s8 s9 s10 s11 s12) (fun i _ _ _ _ _ _ _ _ _ _ _ _ => N - i.toNatClampNeg) a0 a1 a2 a3 a4 a5 a6 a7 a8 a9 a10 a11 a12 ⟨i0, Nat.le_refl _, h0, e0, hI⟩ ?_
  rintro i s1 s2 s3 s4 s5 s6 s7 s8 s9 s10 s11 s12 ⟨k, h1, h2, rfl, h3⟩ again hag
  by_cases hl : k = N
  · subst hl; exact ⟨fun _ => exit _ _ _ _ _ _ _ _ _ _ _ _ h3, fun h => absurd (Int32.le_refl _) h⟩
  · refine ⟨fun h => absurd ((nI_leI hN (by omega)).mp h) (by omega), fun _ => step k s1 s2 s3 s4 s5 s6 s7 s8 s9 s10 s11 s12 h1 (by omega) h3 again (fun u1 u2 u3 u4 u5 u6 u7 u8 u9 u10 u11 u12 h4 => ?_)⟩
    exact hag _ _ _ _ _ _ _ _ _ _ _ _ _ ⟨k + 1, by omega, by omega, rfl, h4⟩ (by rw [nI_clamp (by omega), nI_clamp (by omega)]; omega)
theorem cinv13 {T1 T2 T3 T4 T5 T6 T7 T8 T9 T10 T11 T12 T13 : Type} {Ex : Int32 → T1 → T2 → T3 → T4 → T5 → T6 → T7 → T8 → T9 → T10 → T11 → T12 → T13 → Prop} {Bd : (Int32 → T1 → T2 → T3 → T4 → T5 → T6 → T7 → T8 → T9 → T10 → T11 → T12 → T13 → Prop) → Int32 → T1 → T2 → T3 → T4 → T5 → T6 → T7 → T8 → T9 → T10 → T11 → T12 → T13 → Prop} {a0 : Int32} {a1 : T1} {a2 : T2} {a3 : T3} {a4 : T4} {a5 : T5} {a6 : T6} {a7 : T7} {a8 : T8} {a9 : T9} {a10 : T10} {a11 : T11} {a12 : T12} {a13 : T13} (i0 N : Nat) (I : Nat → T1 → T2 → T3 → T4 → T5 → T6 → T7 → T8 → T9 → T10 → T11 → T12 → T13 → Prop) (hI : I i0 a1 a2 a3 a4 a5 a6 a7 a8 a9 a10 a11 a12 a13) (step : ∀ k s1 s2 s3 s4 s5 s6 s7 s8 s9 s10 s11 s12 s13, i0 ≤ k → k < N → I k s1 s2 s3 s4 s5 s6 s7 s8 s9 s10 s11 s12 s13 → ∀ g : Int32 → T1 → T2 → T3 → T4 → T5 → T6 → T7 → T8 → T9 → T10 → T11 → T12 → T13 → Prop, (∀ u1 u2 u3 u4 u5 u6 u7 u8 u9 u10 u11 u12 u13, I (k + 1) u1 u2 u3 u4 u5 u6 u7 u8 u9 u10 u11 u12 u13 → g (nI (k + 1)) u1 u2 u3 u4 u5 u6 u7 u8 u9 u10 u11 u12 u13) → Bd g (nI k) s1 s2 s3 s4 s5 s6 s7 s8 s9 s10 s11 s12 s13) (exit : ∀ s1 s2 s3 s4 s5 s6 s7 s8 s9 s10 s11 s12 s13, I N s1 s2 s3 s4 s5 s6 s7 s8 s9 s10 s11 s12 s13 → Ex (nI N) s1 s2 s3 s4 s5 s6 s7 s8 s9 s10 s11 s12 s13) (e0 : a0 = nI i0 := by rfl) (h0 : i0 ≤ N := by omega) (hN : N < 2147483648 := by omega) : Lz14 (fun g i s1 s2 s3 s4 s5 s6 s7 s8 s9 s10 s11 s12 s13 => (nI N ≤ i → Ex i s1 s2 s3 s4 s5 s6 s7 s8 s9 s10 s11 s12 s13) ∧ (¬ nI N ≤ i → Bd g i s1 s2 s3 s4 s5 s6 s7 s8 s9 s10 s11 s12 s13)) a0 a1 a2 a3 a4 a5 a6 a7 a8 a9 a10 a11 a12 a13 := by
  refine Lz14_by (fun i s1 s2 s3 s4 s5 s6 s7 s8 s9 s10 s11 s12 s13 => ∃ k, i0 ≤ k ∧ k ≤ N ∧ i = nI k ∧ I k s1 s2 s3 s4 s5 s6 s7 s8 s9 s10 s11 s12 s13) (fun i _ _ _ _ _ _ _ _ _ _ _ _ _ => N - i.toNatClampNeg) a0 a1 a2 a3 a4 a5 a6 a7 a8 a9 a10 a11 a12 a13 ⟨i0, Nat.le_refl _, h0, e0, hI⟩ ?_
  rintro i s1 s2 s3 s4 s5 s6 s7 s8 s9 s10 s11 s12 s13 ⟨k, h1, h2, rfl, h3⟩ again hag
  by_cases hl : k = N
  · subst hl; exact ⟨fun _ => exit _ _ _ _ _ _ _ _ _ _ _ _ _ h3, fun h => absurd (Int32.le_refl _) h⟩
  · refine ⟨fun h => absurd ((nI_leI hN (by omega)).mp h) (by omega), fun _ => step k s1 s2 s3 s4 s5 s6 s7 s8 s9 s10 s11 s12 s13 h1 (by omega) h3 again (fun u1 u2 u3 u4 u5 u6 u7 u8 u9 u10 u11 u12 u13 h4 => ?_)⟩
    exact hag _ _ _ _ _ _ _ _ _ _ _ _ _ _ ⟨k + 1, by omega, by omega, rfl, h4⟩ (by rw [nI_clamp (by omega), nI_clamp (by omega)]; omega)
theorem cinv14 {T1 T2 T3 T4 T5 T6 T7 T8 T9 T10 T11 T12 T13 T14 : Type} {Ex : Int32 → T1 → T2 → T3 → T4 → T5 → T6 → T7 → T8 → T9 → T10 → T11 → T12 → T13 → T14 → Prop} {Bd : (Int32 → T1 → T2 → T3 → T4 → T5 → T6 → T7 → T8 → T9 → T10 → T11 → T12 → T13 → T14 → Prop) → Int32 → T1 → T2 → T3 → T4 → T5 → T6 → T7 → T8 → T9 → T10 → T11 → T12 → T13 → T14 → Prop} {a0 : Int32} {a1 : T1} {a2 : T2} {a3 : T3} {a4 : T4} {a5 : T5} {a6 : T6} {a7 : T7} {a8 : T8} {a9 : T9} {a10 : T10} {a11 : T11} {a12 : T12} {a13 : T13} {a14 : T14} (i0 N : Nat) (I : Nat → T1 → T2 → T3 → T4 → T5 → T6 → T7 → T8 → T9 → T10 → T11 → T12 → T13 → T14 → Prop) (hI : I i0 a1 a2 a3 a4 a5 a6 a7 a8 a9 a10 a11 a12 a13 a14) (step : ∀ k s1 s2 s3 s4 s5 s6 s7 s8 s9 s10 s11 s12 s13 s14, i0 ≤ k → k < N → I k s1 s2 s3 s4 s5 s6 s7 s8 s9 s10 s11 s12 s13 s14 → ∀ g : Int32 → T1 → T2 → T3 → T4 → T5 → T6 → T7 → T8 → T9 → T10 → T11 → T12 → T13 → T14 → Prop, (∀ u1 u2 u3 u4 u5 u6 u7 u8 u9 u10 u11 u12 u13 u14, I (k + 1) u1 u2 u3 u4 u5 u6 u7 u8 u9 u10 u11 u12 u13 u14 → g (nI (k + 1)) u1 u2 u3 u4 u5 u6 u7 u8 u9 u10 u11 u12 u13 u14) → Bd g (nI k) s1 s2 s3 s4 s5 s6 s7 s8 s9 s10 s11 s12 s13 s14) (exit : ∀ s1 s2 s3 s4 s5 s6 s7 s8 s9 s10 s11 s12 s13 s14, I N s1 s2 s3 s4 s5 s6 s7 s8 s9 s10 s11 s12 s13 s14 → Ex (nI N) s1 s2 s3 s4 s5 s6 s7 s8 s9 s10 s11 s12 s13 s14) (e0 : a0 = nI i0 := by rfl) (h0 : i0 ≤ N := by omega) (hN : N < 2147483648 := by omega) : Lz15 (fun g i s1 s2 s3 s4 s5 s6 s7 s8 s9 s10 s11 s12 s13 s14 => (nI N ≤ i → Ex i s1 s2 s3 s4 s5 s6 s7 s8 s9 s10 s11 s12 s13 s14) ∧ (¬ nI N ≤ i → Bd g i s1 s2 s3 s4 s5 s6 s7 s8 s9 s10 s11 s12 s13 s14)) a0 a1 a2 a3 a4 a5 a6 a7 a8 a9 a10 a11 a12 a13 a14 := by
  refine Lz15_by (fun i s1 s2 s3 s4 s5 s6 s7 s8 s9 s10 s11 s12 s13 s14 => ∃ k, i0 ≤ k ∧ k ≤ N ∧ i = nI k ∧ I k s1 s2 s3 s4 s5 s6 s7 s8 s9 s10 s11 s12 s13 s14) (fun i _ _ _ _ _ _ _ _ _ _ _ _ _ _ => N - i.toNatClampNeg) a0 a1 a2 a3 a4 a5 a6 a7 a8 a9 a10 a11 a12 a13 a14 ⟨i0, Nat.le_refl _, h0, e0, hI⟩ ?_
  rintro i s1 s2 s3 s4 s5 s6 s7 s8 s9 s10 s11 s12 s13 s14 ⟨k, h1, h2, rfl, h3⟩ again hag
  by_cases hl : k = N
  · subst hl; exact ⟨fun _ => exit _ _ _ _ _ _ _ _ _ _ _ _ _ _ h3, fun h => absurd (Int32.le_refl _) h⟩
  · refine ⟨fun h => absurd ((nI_leI hN (by omega)).mp h) (by omega), fun _ => step k s1 s2 s3 s4 s5 s6 s7 s8 s9 s10 s11 s12 s13 s14 h1 (by omega) h3 again (fun u1 u2 u3 u4 u5 u6 u7 u8 u9 u10 u11 u12 u13 u14 h4 => ?_)⟩
    exact hag _ _ _ _ _ _ _ _ _ _ _ _ _ _ _ ⟨k + 1, by omega, by omega, rfl, h4⟩ (by rw [nI_clamp (by omega), nI_clamp (by omega)]; omega)
theorem cinv15 {T1 T2 T3 T4 T5 T6 T7 T8 T9 T10 T11 T12 T13 T14 T15 : Type} {Ex : Int32 → T1 → T2 → T3 → T4 → T5 → T6 → T7 → T8 → T9 → T10 → T11 → T12 → T13 → T14 → T15 → Prop} {Bd : (Int32 → T1 → T2 → T3 → T4 → T5 → T6 → T7 → T8 → T9 → T10 → T11 → T12 → T13 → T14 → T15 → Prop) → Int32 → T1 → T2 → T3 → T4 → T5 → T6 → T7 → T8 → T9 → T10 → T11 → T12 → T13 → T14 → T15 → Prop} {a0 : Int32} {a1 : T1} {a2 : T2} {a3 : T3} {a4 : T4} {a5 : T5} {a6 : T6} {a7 : T7} {a8 : T8} {a9 : T9} {a10 : T10} {a11 : T11} {a12 : T12} {a13 : T13} {a14 : T14} {a15 : T15} (i0 N : Nat) (I : Nat → T1 → T2 → T3 → T4 → T5 → T6 → T7 → T8 → T9 → T10 → T11 → T12 → T13 → T14 → T15 → Prop) (hI : I i0 a1 a2 a3 a4 a5 a6 a7 a8 a9 a10 a11 a12 a13 a14 a15) (step : ∀ k s1 s2 s3 s4 s5 s6 s7 s8 s9 s10 s11 s12 s13 s14 s15, i0 ≤ k → k < N → I k s1 s2 s3 s4 s5 s6 s7 s8 s9 s10 s11 s12 s13 s14 s15 → ∀ g : Int32 → T1 → T2 → T3 → T4 → T5 → T6 → T7 → T8 → T9 → T10 → T11 → T12 → T13 → T14 → T15 → Prop, (∀ u1 u2 u3 u4 u5 u6 u7 u8 u9 u10 u11 u12 u13 u14 u15, I (k + 1) u1 u2 u3 u4 u5 u6 u7 u8 u9 u10 u11 u12 u13 u14 u15 → g (nI (k + 1)) u1 u2 u3 u4 u5 u6 u7 u8 u9 u10 u11 u12 u13 u14 u15) → Bd g (nI k) s1 s2 s3 s4 s5 s6 s7 s8 s9 s10 s11 s12 s13 s14 s15) (exit : ∀ s1 s2 s3 s4 s5 s6 s7 s8 s9 s10 s11 s12 s13 s14 s15, I N s1 s2 s3 s4 s5 s6 s7 s8 s9 s10 s11 s12 s13 s14 s15 → Ex (nI N) s1 s2 s3 s4 s5 s6 s7 s8 s9 s10 s11 s12 s13 s14 s15) (e0 : a0 = nI i0 := by rfl) (h0 : i0 ≤ N := by omega) (hN : N < 2147483648 := by omega) : Lz16 (fun g i s1 s2 s3 s4 s5 s6 s7 s8 s9 s10 s11 s12 s13 s14 s15 => (nI N ≤ i → Ex i s1 s2 s3 s4 s5 s6 s7 s8 s9 s10 s11 s12 s13 s14 s15) ∧ (¬ nI N ≤ i → Bd g i s1 s2 s3 s4 s5 s6 s7 s8 s9 s10 s11 s12 s13 s14 s15)) a0 a1 a2 a3 a4 a5 a6 a7 a8 a9 a10 a11 a12 a13 a14 a15 := by
  refine Lz16_by (fun i s1 s2 s3 s4 s5 s6 s7 s8 s9 s10 s11 s12 s13 s14 s15 => ∃ k, i0 ≤ k ∧ k ≤ N ∧ i = nI k ∧ I k s1 s2 s3 s4 s5 s6 s7 s8 s9 s10 s11 s12 s13 s14 s15) (fun i _ _ _ _ _ _ _ _ _ _ _ _ _ _ _ => N - i.toNatClampNeg) a0 a1 a2 a3 a4 a5 a6 a7 a8 a9 a10 a11 a12 a13 a14 a15 ⟨i0, Nat.le_refl _, h0, e0, hI⟩ ?_
  rintro i s1 s2 s3 s4 s5 s6 s7 s8 s9 s10 s11 s12 s13 s14 s15 ⟨k, h1, h2, rfl, h3⟩ again hag
  by_cases hl : k = N
  · subst hl; exact ⟨fun _ => exit _ _ _ _ _ _ _ _ _ _ _ _ _ _ _ h3, fun h => absurd (Int32.le_refl _) h⟩
  · refine ⟨fun h => absurd ((nI_leI hN (by omega)).mp h) (by omega), fun _ => step k s1 s2 s3 s4 s5 s6 s7 s8 s9 s10 s11 s12 s13 s14 s15 h1 (by omega) h3 again (fun u1 u2 u3 u4 u5 u6 u7 u8 u9 u10 u11 u12 u13 u14 u15 h4 => ?_)⟩
    exact hag _ _ _ _ _ _ _ _ _ _ _ _ _ _ _ _ ⟨k + 1, by omega, by omega, rfl, h4⟩ (by rw [nI_clamp (by omega), nI_clamp (by omega)]; omega)
theorem cinv16 {T1 T2 T3 T4 T5 T6 T7 T8 T9 T10 T11 T12 T13 T14 T15 T16 : Type} {Ex : Int32 → T1 → T2 → T3 → T4 → T5 → T6 → T7 → T8 → T9 → T10 → T11 → T12 → T13 → T14 → T15 → T16 → Prop} {Bd : (Int32 → T1 → T2 → T3 → T4 → T5 → T6 → T7 → T8 → T9 → T10 → T11 → T12 → T13 → T14 → T15 → T16 → Prop) → Int32 → T1 → T2 → T3 → T4 → T5 → T6 → T7 → T8 → T9 → T10 → T11 → T12 → T13 → T14 → T15 → T16 → Prop} {a0 : Int32} {a1 : T1} {a2 : T2} {a3 : T3} {a4 : T4} {a5 : T5} {a6 : T6} {a7 : T7} {a8 : T8} {a9 : T9} {a10 : T10} {a11 : T11} {a12 : T12} {a13 : T13} {a14 : T14} {a15 : T15} {a16 : T16} (i0 N : Nat) (I : Nat → T1 → T2 → T3 → T4 → T5 → T6 → T7 → T8 → T9 → T10 → T11 → T12 → T13 → T14 → T15 → T16 → Prop) (hI : I i0 a1 a2 a3 a4 a5 a6 a7 a8 a9 a10 a11 a12 a13 a14 a15 a16) (step : ∀ k s1 s2 s3 s4 s5 s6 s7 s8 s9 s10 s11 s12 s13 s14 s15 s16, i0 ≤ k → k < N → I k s1 s2 s3 s4 s5 s6 s7 s8 s9 s10 s11 s12 s13 s14 s15 s16 → ∀ g : Int32 → T1 → T2 → T3 → T4 → T5 → T6 → T7 → T8 → T9 → T10 → T11 → T12 → T13 → T14 → T15 → T16 → Prop, (∀ u1 u2 u3 u4 u5 u6 u7 u8 u9 u10 u11 u12 u13 u14 u15 u16, I (k + 1) u1 u2 u3 u4 u5 u6 u7 u8 u9 u10 u11 u12 u13 u14 u15 u16 → g (nI (k + 1)) u1 u2 u3 u4 u5 u6 u7 u8 u9 u10 u11 u12 u13 u14 u15 u16) → Bd g (nI k) s1 s2 s3 s4 s5 s6 s7 s8 s9 s10 s11 s12 s13 s14 s15 s16) (exit : ∀ s1 s2 s3 s4 s5 s6 s7 s8 s9 s10 s11 s12 s13 s14 s15 s16, I N s1 s2 s3 s4 s5 s6 s7 s8 s9 s10 s11 s12 s13 s14 s15 s16 → Ex (nI N) s1 s2 s3 s4 s5 s6 s7 s8 s9 s10 s11 s12 s13 s14 s15 s16) (e0 : a0 = nI i0 := by rfl) (h0 : i0 ≤ N := by omega) (hN : N < 2147483648 := by omega) : Lz17 (fun g i s1 s2 s3 s4 s5 s6 s7 s8 s9 s10 s11 s12 s13 s14 s15 s16 => (nI N ≤ i → Ex i s1 s2 s3 s4 s5 s6 s7 s8 s9 s10 s11 s12 s13 s14 s15 s16) ∧ (¬ nI N ≤ i → Bd g i s1 s2 s3 s4 s5 s6 s7 s8 s9 s10 s11 s12 s13 s14 s15 s16)) a0 a1 a2 a3 a4 a5 a6 a7 a8 a9 a10 a11 a12 a13 a14 a15 a16 := by
  refine Lz17_by (fun i s1 s2 s3 s4 s5 s6 s7 s8 s9 s10 s11 s12 s13 s14 s15 s16 => ∃ k, i0 ≤ k ∧ k ≤ N ∧ i = nI k ∧ I k s1 s2 s3 s4 s5 s6 s7 s8 s9 s10 s11 s12 s13 s14 s15 s16) (fun i _ _ _ _ _ _ _ _ _ _ _ _ _ _ _ _ => N - i.toNatClampNeg) a0 a1 a2 a3 a4 a5 a6 a7 a8 a9 a10 a11 a12 a13 a14 a15 a16 ⟨i0, Nat.le_refl _, h0, e0, hI⟩ ?_
  rintro i s1 s2 s3 s4 s5 s6 s7 s8 s9 s10 s11 s12 s13 s14 s15 s16 ⟨k, h1, h2, rfl, h3⟩ again hag
  by_cases hl : k = N
  · subst hl; exact ⟨fun _ => exit _ _ _ _ _ _ _ _ _ _ _ _ _ _ _ _ h3, fun h => absurd (Int32.le_refl _) h⟩
  · refine ⟨fun h => absurd ((nI_leI hN (by omega)).mp h) (by omega), fun _ => step k s1 s2 s3 s4 s5 s6 s7 s8 s9 s10 s11 s12 s13 s14 s15 s16 h1 (by omega) h3 again (fun u1 u2 u3 u4 u5 u6 u7 u8 u9 u10 u11 u12 u13 u14 u15 u16 h4 => ?_)⟩
    exact hag _ _ _ _ _ _ _ _ _ _ _ _ _ _ _ _ _ ⟨k + 1, by omega, by omega, rfl, h4⟩ (by rw [nI_clamp (by omega), nI_clamp (by omega)]; omega)
theorem cinv17 {T1 T2 T3 T4 T5 T6 T7 T8 T9 T10 T11 T12 T13 T14 T15 T16 T17 : Type} {Ex : Int32 → T1 → T2 → T3 → T4 → T5 → T6 → T7 → T8 → T9 → T10 → T11 → T12 → T13 → T14 → T15 → T16 → T17 → Prop} {Bd : (Int32 → T1 → T2 → T3 → T4 → T5 → T6 → T7 → T8 → T9 → T10 → T11 → T12 → T13 → T14 → T15 → T16 → T17 → Prop) → Int32 → T1 → T2 → T3 → T4 → T5 → T6 → T7 → T8 → T9 → T10 → T11 → T12 → T13 → T14 → T15 → T16 → T17 → Prop} {a0 : Int32} {a1 : T1} {a2 : T2} {a3 : T3} {a4 : T4} {a5 : T5} {a6 : T6} {a7 : T7} {a8 : T8} {a9 : T9} {a10 : T10} {a11 : T11} {a12 : T12} {a13 : T13} {a14 : T14} {a15 : T15} {a16 : T16} {a17 : T17} (i0 N : Nat) (I : Nat → T1 → T2 → T3 → T4 → T5 → T6 → T7 → T8 → T9 → T10 → T11 → T12 → T13 → T14 → T15 → T16 → T17 → Prop) (hI : I i0 a1 a2 a3 a4 a5 a6 a7 a8 a9 a10 a11 a12 a13 a14 a15 a16 a17) (step : ∀ k s1 s2 s3 s4 s5 s6 s7 s8 s9 s10 s11 s12 s13 s14 s15 s16 s17, i0 ≤ k → k < N → I k s1 s2 s3 s4 s5 s6 s7 s8 s9 s10 s11 s12 s13 s14 s15 s16 s17 → ∀ g : Int32 → T1 → T2 → T3 → T4 → T5 → T6 → T7 → T8 → T9 → T10 → T11 → T12 → T13 → T14 → T15 → T16 → T17 → Prop, (∀ u1 u2 u3 u4 u5 u6 u7 u8 u9 u10 u11 u12 u13 u14 u15 u16 u17, I (k + 1) u1 u2 u3 u4 u5 u6 u7 u8 u9 u10 u11 u12 u13 u14 u15 u16 u17 → g (nI (k + 1)) u1 u2 u3 u4 u5 u6 u7 u8 u9 u10 u11 u12 u13 u14 u15 u16 u17) → Bd g (nI k) s1 s2 s3 s4 s5 s6 s7 s8 s9 s10 s11 s12 s13 s14 s15 s16 s17) (exit : ∀ s1 s2 s3 s4 s5 s6 s7 s8 s9 s10 s11 s12 s13 s14 s15 s16 s17, I N s1 s2 s3 s4 s5 s6 s7 s8 s9 s10 s11 s12 s13 s14 s15 s16 s17 → Ex (nI N) s1 s2 s3 s4 s5 s6 s7 s8 s9 s10 s11 s12 s13 s14 s15 s16 s17) (e0 : a0 = nI i0 := by rfl) (h0 : i0 ≤ N := by omega) (hN : N < 2147483648 := by omega) : Lz18 (fun g i s1 s2 s3 s4 s5 s6 s7 s8 s9 s10 s11 s12 s13 s14 s15 s16 s17 => (nI N ≤ i → Ex i s1 s2 s3 s4 s5 s6 s7 s8 s9 s10 s11 s12 s13 s14 s15 s16 s17) ∧ (¬ nI N ≤ i → Bd g i s1 s2 s3 s4 s5 s6 s7 s8 s9 s10 s11 s12 s13 s14 s15 s16 s17)) a0 a1 a2 a3 a4 a5 a6 a7 a8 a9 a10 a11 a12 a13 a14 a15 a16 a17 := by
  refine Lz18_by (fun i s1 s2 s3 s4 s5 s6 s7 s8 s9 s10 s11 s12 s13 s14 s15 s16 s17 => ∃ k, i0 ≤ k ∧ k ≤ N ∧ i = nI k ∧ I k s1 s2 s3 s4 s5 s6 s7 s8 s9 s10 s11 s12 s13 s14 s15 s16 s17) (fun i _ _ _ _ _ _ _ _ _ _ _ _ _ _ _ _ _ => N - i.toNatClampNeg) a0 a1 a2 a3 a4 a5 a6 a7 a8 a9 a10 a11 a12 a13 a14 a15 a16 a17 ⟨i0, Nat.le_refl _, h0, e0, hI⟩ ?_
  rintro i s1 s2 s3 s4 s5 s6 s7 s8 s9 s10 s11 s12 s13 s14 s15 s16 s17 ⟨k, h1, h2, rfl, h3⟩ again hag
  by_cases hl : k = N
  · subst hl; exact ⟨fun _ => exit _ _ _ _ _ _ _ _ _ _ _ _ _ _ _ _ _ h3, fun h => absurd (Int32.le_refl _) h⟩
  · refine ⟨fun h => absurd ((nI_leI hN (by omega)).mp h) (by omega), fun _ => step k s1 s2 s3 s4 s5 s6 s7 s8 s9 s10 s11 s12 s13 s14 s15 s16 s17 h1 (by omega) h3 again (fun u1 u2 u3 u4 u5 u6 u7 u8 u9 u10 u11 u12 u13 u14 u15 u16 u17 h4 => ?_)⟩
    exact hag _ _ _ _ _ _ _ _ _ _ _ _ _ _ _ _ _ _ ⟨k + 1, by omega, by omega, rfl, h4⟩ (by rw [nI_clamp (by omega), nI_clamp (by omega)]; omega)
theorem cinv18 {T1 T2 T3 T4 T5 T6 T7 T8 T9 T10 T11 T12 T13 T14 T15 T16 T17 T18 : Type} {Ex : Int32 → T1 → T2 → T3 → T4 → T5 → T6 → T7 → T8 → T9 → T10 → T11 → T12 → T13 → T14 → T15 → T16 → T17 → T18 → Prop} {Bd : (Int32 → T1 → T2 → T3 → T4 → T5 → T6 → T7 → T8 → T9 → T10 → T11 → T12 → T13 → T14 → T15 → T16 → T17 → T18 → Prop) → Int32 → T1 → T2 → T3 → T4 → T5 → T6 → T7 → T8 → T9 → T10 → T11 → T12 → T13 → T14 → T15 → T16 → T17 → T18 → Prop} {a0 : Int32} {a1 : T1} {a2 : T2} {a3 : T3} {a4 : T4} {a5 : T5} {a6 : T6} {a7 : T7} {a8 : T8} {a9 : T9} {a10 : T10} {a11 : T11} {a12 : T12} {a13 : T13} {a14 : T14} {a15 : T15} {a16 : T16} {a17 : T17} {a18 : T18} (i0 N : Nat) (I : Nat → T1 → T2 → T3 → T4 → T5 → T6 → T7 → T8 → T9 → T10 → T11 → T12 → T13 → T14 → T15 → T16 → T17 → T18 → Prop) (hI : I i0 a1 a2 a3 a4 a5 a6 a7 a8 a9 a10 a11 a12 a13 a14 a15 a16 a17 a18) (step : ∀ k s1 s2 s3 s4 s5 s6 s7 s8 s9 s10 s11 s12 s13 s14 s15 s16 s17 s18, i0 ≤ k → k < N → I k s1 s2 s3 s4 s5 s6 s7 s8 s9 s10 s11 s12 s13 s14 s15 s16 s17 s18 → ∀ g : Int32 → T1 → T2 → T3 → T4 → T5 → T6 → T7 → T8 → T9 → T10 → T11 → T12 → T13 → T14 → T15 → T16 → T17 → T18 → Prop, (∀ u1 u2 u3 u4 u5 u6 u7 u8 u9 u10 u11 u12 u13 u14 u15 u16 u17 u18, I (k + 1) u1 u2 u3 u4 u5 u6 u7 u8 u9 u10 u11 u12 u13 u14 u15 u16 u17 u18 → g (nI (k + 1)) u1 u2 u3 u4 u5 u6 u7 u8 u9 u10 u11 u12 u13 u14 u15 u16 u17 u18) → Bd g (nI k) s1 s2 s3 s4 s5 s6 s7 s8 s9 s10 s11 s12 s13 s14 s15 s16 s17 s18) (exit : ∀ s1 s2 s3 s4 s5 s6 s7 s8 s9 s10 s11 s12 s13 s14 s15 s16 s17 s18, I N s1 s2 s3 s4 s5 s6 s7 s8 s9 s10 s11 s12 s13 s14 s15 s16 s17 s18 → Ex (nI N) s1 s2 s3 s4 s5 s6 s7 s8 s9 s10 s11 s12 s13 s14 s15 s16 s17 s18) (e0 : a0 = nI i0 := by rfl) (h0 : i0 ≤ N := by omega) (hN : N < 2147483648 := by omega) : Lz19 (fun g i s1 s2 s3 s4 s5 s6 s7 s8 s9 s10 s11 s12 s13 s14 s15 s16 s17 s18 => (nI N ≤ i → Ex i s1 s2 s3 s4 s5 s6 s7 s8 s9 s10 s11 s12 s13 s14 s15 s16 s17 s18) ∧ (¬ nI N ≤ i → Bd g i s1 s2 s3 s4 s5 s6 s7 s8 s9 s10 s11 s12 s13 s14 s15 s16 s17 s18)) a0 a1 a2 a3 a4 a5 a6 a7 a8 a9 a10 a11 a12 a13 a14 a15 a16 a17 a18 := by
  refine Lz19_by (fun i s1 s2 s3 s4 s5 s6 s7 s8 s9 s10 s11 s12 s13 s14 s15 s16 s17 s18 => ∃ k, i0 ≤ k ∧ k ≤ N ∧ i = nI k ∧ I k s1 s2 s3 s4 s5 s6 s7 s8 s9 s10 s11 s12 s13 s14 s15 s16 s17 s18) (fun i _ _ _ _ _ _ _ _ _ _ _ _ _ _ _ _ _ _ => N - i.toNatClampNeg) a0 a1 a2 a3 a4 a5 a6 a7 a8 a9 a10 a11 a12 a13 a14 a15 a16 a17 a18 ⟨i0, Nat.le_refl _, h0, e0, hI⟩ ?_
  rintro i s1 s2 s3 s4 s5 s6 s7 s8 s9 s10 s11 s12 s13 s14 s15 s16 s17 s18 ⟨k, h1, h2, rfl, h3⟩ again hag
  by_cases hl : k = N
  · subst hl; exact ⟨fun _ => exit _ _ _ _ _ _ _ _ _ _ _ _ _ _ _ _ _ _ h3, fun h => absurd (Int32.le_refl _) h⟩
  · refine ⟨fun h => absurd ((nI_leI hN (by omega)).mp h) (by omega), fun _ => step k s1 s2 s3 s4 s5 s6 s7 s8 s9 s10 s11 s12 s13 s14 s15 s16 s17 s18 h1 (by omega) h3 again (fun u1 u2 u3 u4 u5 u6 u7 u8 u9 u10 u11 u12 u13 u14 u15 u16 u17 u18 h4 => ?_)⟩
    exact hag _ _ _ _ _ _ _ _ _ _ _ _ _ _ _ _ _ _ _ ⟨k + 1, by omega, by omega, rfl, h4⟩ (by rw [nI_clamp (by omega), nI_clamp (by omega)]; omega)
