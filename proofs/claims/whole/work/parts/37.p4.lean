/-! pure part 4: the class's blocks -/
set_option maxHeartbeats 4000000 in
set_option maxRecDepth 100000 in
theorem lvl9 {N n : Nat} (hN : N = 1 ∧ n = 4 ∨ N = 2 ∧ n = 2 ∨ N = 4 ∧ n = 1) {row A B next : Nat → Int32} {Ex : Int32 → (Nat → Int32) → (Nat → Int32) → (Nat → Int32) → Prop}
    (h : ∀ A' B' next' : Nat → Int32, (∀ q, q < N → A' (N - 1 + q) = pA (A (N - 1 + q)) (fun t => row (2 * n * q + t)) n ∧ B' (N - 1 + q) = pB (A (N - 1 + q)) (B (N - 1 + q)) (fun t => row (2 * n * q + t)) n) → (∀ i, (i < N - 1 ∨ N - 1 + N ≤ i) → A' i = A i ∧ B' i = B i) →
      (∀ q, q < N → ∀ i, i < n → next' (2 * n * q + i) = pS (A (N - 1 + q)) (B (N - 1 + q)) (fun t => row (2 * n * q + t)) i ∧ next' (2 * n * q + n + i) = pD (A (N - 1 + q)) (fun t => row (2 * n * q + t)) i) → Ex (nI N) A' B' next') :
    Lz4 (fun g (x20 : Int32) (f21 f22 f23 : Nat → Int32) => (nI N ≤ x20 → Ex x20 f21 f22 f23) ∧ (¬ nI N ≤ x20 → ¬ nI N = 0 ∧ ¬ nI N = 0 ∧ wp_X9_splitRow ((nI N - 1) + x20) (x20 * 8 / nI N) (8 / nI N / 2) row f21 f22 f23 (fun a b c => g (x20 + 1) a b c))) 0 A B next := by
  have hN0 : ¬ nI N = 0 := nI_ne0 (by omega) (by omega)
  refine cinv3 0 N (fun k a b f => (∀ q, q < k → a (N - 1 + q) = pA (A (N - 1 + q)) (fun t => row (2 * n * q + t)) n ∧ b (N - 1 + q) = pB (A (N - 1 + q)) (B (N - 1 + q)) (fun t => row (2 * n * q + t)) n) ∧ (∀ i, (i < N - 1 ∨ N - 1 + k ≤ i) → a i = A i ∧ b i = B i) ∧ (∀ q, q < k → ∀ i, i < n → f (2 * n * q + i) = pS (A (N - 1 + q)) (B (N - 1 + q)) (fun t => row (2 * n * q + t)) i ∧ f (2 * n * q + n + i) = pD (A (N - 1 + q)) (fun t => row (2 * n * q + t)) i)) ⟨fun q hq => absurd hq (Nat.not_lt_zero _), fun i _ => ⟨rfl, rfl⟩, fun q hq => absurd hq (Nat.not_lt_zero _)⟩ ?_ ?_
  · rintro k a b f - hk ⟨i1, i2, i3⟩ g hg
    have hle : 2 * n * k + 2 * n ≤ 8 := by rcases hN with ⟨rfl, rfl⟩ | ⟨rfl, rfl⟩ | ⟨rfl, rfl⟩ <;> omega
    have e1 : nI k * 8 / nI N = nI (2 * n * k) := by
      rw [rM, pk_div (by omega) (by omega) (by omega)]
      congr 1
      rcases hN with ⟨rfl, rfl⟩ | ⟨rfl, rfl⟩ | ⟨rfl, rfl⟩ <;> omega
    have e2 : (8 : Int32) / nI N / 2 = nI n := by
      rcases hN with ⟨rfl, rfl⟩ | ⟨rfl, rfl⟩ | ⟨rfl, rfl⟩ <;> decide
    have e3 : (nI N - 1) + nI k = nI (N - 1 + k) := by rw [rS (by omega), nI_add]
    simp only [e1, e2, e3]
    refine ⟨hN0, hN0, t9_splitRow (by omega) hle (fun next' h1 h2 => ?_)⟩
    rw [nI_1]
    have hA : a (N - 1 + k) = A (N - 1 + k) := (i2 _ (by omega)).1
    have hB : b (N - 1 + k) = B (N - 1 + k) := (i2 _ (by omega)).2
    rw [hA, hB] at h1 ⊢
    refine hg _ _ _ ⟨fun q hq => ?_, fun i hi => ?_, fun q hq i hi => ?_⟩
    · by_cases hqk : q = k
      · subst hqk; rw [pk_us, pk_us]; exact ⟨rfl, rfl⟩
      · rw [pk_un (by omega), pk_un (by omega)]; exact i1 q (by omega)
    · rw [pk_un (by omega), pk_un (by omega)]; exact i2 i (by omega)
    · by_cases hqk : q = k
      · subst hqk; exact h1 i hi
      · have hlt : 2 * n * q + 2 * n ≤ 2 * n * k := by
          rcases hN with ⟨rfl, rfl⟩ | ⟨rfl, rfl⟩ | ⟨rfl, rfl⟩ <;> omega
        rw [h2 _ (by omega), h2 _ (by omega)]; exact i3 q (by omega) i hi
  · rintro a b f ⟨i1, i2, i3⟩
    exact h a b f i1 i2 i3
def yk (m x : Nat → Int32) (k : Nat) : Nat → Int32 := if k = 0 then x else if k = 1 then sp1 m x else if k = 2 then sp2 m x else sp3 m x
def ck (k : Nat) : Nat := if k = 0 then 0 else if k = 1 then 2 else if k = 2 then 6 else 14
def mk (m x : Nat → Int32) (k : Nat) : Nat → Int32 := fun i => if i < ck k then spM m x i else m i
set_option maxHeartbeats 4000000 in
set_option maxRecDepth 100000 in
theorem t9_splitBlock {np1 np3 fr to : Nat} {p1 row A B next p3 m x : Nat → Int32} {post : (Nat → Int32) → (Nat → Int32) → (Nat → Int32) → (Nat → Int32) → (Nat → Int32) → Prop} (hm : ∀ i, i < 7 → A i = m (2 * i) ∧ B i = m (2 * i + 1)) (hx : ∀ j, j < 8 → p1 (fr + j) = x j) (h1 : fr + 8 ≤ np1) (h3 : to + 8 ≤ np3) (hn1 : np1 < 2 ^ 31) (hn3 : np3 < 2 ^ 31)
    (h : ∀ row' A' B' next' p3' : Nat → Int32, (∀ i, i < 7 → A' i = spM m x (2 * i) ∧ B' i = spM m x (2 * i + 1)) → (∀ j, j < 8 → p3' (to + j) = sp3 m x j) → (∀ j, (j < to ∨ to + 8 ≤ j) → p3' j = p3 j) → post row' A' B' next' p3') :
    wp_X9_splitBlock np1 np3 (nI fr) (nI to) p1 row A B next p3 post := by
  unfold wp_X9_splitBlock
  rw [nI_clamp (by omega), nI_clamp (by omega)]
  refine ⟨nI_pos (by omega), h1, ?_⟩
  rintro _ rfl _ rfl
  refine cinv4 0 3 (fun k r a b _ => (∀ j, j < 8 → r j = yk m x k j) ∧ (∀ i, i < 7 → a i = mk m x k (2 * i) ∧ b i = mk m x k (2 * i + 1))) ⟨fun j hj => ?_, fun i hi => ?_⟩ ?_ ?_
  · rw [pk_cpy_in (by omega) (by omega), Nat.sub_zero]; exact hx j hj
  · rw [(hm i hi).1, (hm i hi).2]; exact ⟨rfl, rfl⟩
  · rintro k r a b f - hk ⟨i1, i2⟩ g hg
    have hk3 : k = 0 ∨ k = 1 ∨ k = 2 := by omega
    have hcp : ∀ (nx : Nat → Int32) (j : Nat), j < 8 → va_cpy nx r 0 0 8 j = nx j := fun nx j hj => by rw [pk_cpy_in (by omega) (by omega), Nat.sub_zero, Nat.zero_add]
    rcases hk3 with rfl | rfl | rfl
    · simp only [show (1 : Int32) <<< (nI 0 &&& 31) = nI 1 by decide, forall_eq]
      refine lvl9 (N := 1) (n := 4) (by omega) (fun A' B' next' j1 j2 j3 => ?_)
      rw [nI_1]
      have k1 := j1 0 (by omega)
      have k3 := j3 0 (by omega)
      simp only [Nat.mul_zero, Nat.zero_add, Nat.sub_self] at k1 k3
      have a0 := i2 0 (by omega)
      simp only [mk, ck, Nat.mul_zero, Nat.zero_add, if_true, Nat.not_lt_zero, if_false] at a0
      have hr : ∀ t, t < 2 * 4 → r t = x t := fun t ht => i1 t (by omega)
      rw [a0.1, a0.2] at k1 k3
      refine hg _ _ _ _ ⟨fun j hj => ?_, fun i hi => ?_⟩
      · rw [hcp _ j hj]
        show next' j = sp1 m x j
        unfold sp1
        by_cases h4 : j < 4
        · rw [if_pos h4, (k3 j h4).1]; exact pS_c hr h4
        · have h5 := (k3 (j - 4) (by omega)).2
          rw [show 4 + (j - 4) = j by omega] at h5
          rw [if_neg h4, h5]; exact pD_c hr (by omega)
      · by_cases h0 : i = 0
        · subst h0
          rw [k1.1, k1.2, show mk m x (0 + 1) (2 * 0) = spM m x 0 by simp [mk, ck], show mk m x (0 + 1) (2 * 0 + 1) = spM m x 1 by simp [mk, ck], spM_0, spM_1]
          exact ⟨pA_c hr (by omega), pB_c hr (by omega)⟩
        · rw [(j2 i (by omega)).1, (j2 i (by omega)).2, (i2 i hi).1, (i2 i hi).2]
          unfold mk
          rw [show ck 0 = 0 from rfl, show ck (0 + 1) = 2 from rfl, if_neg (by omega), if_neg (by omega), if_neg (by omega), if_neg (by omega)]
          exact ⟨rfl, rfl⟩
    · simp only [show (1 : Int32) <<< (nI 1 &&& 31) = nI 2 by decide, forall_eq]
      refine lvl9 (N := 2) (n := 2) (by omega) (fun A' B' next' j1 j2 j3 => ?_)
      rw [nI_1]
      have k1 := j1 0 (by omega)
      have k3 := j3 0 (by omega)
      have l1 := j1 1 (by omega)
      have l3 := j3 1 (by omega)
      simp only [Nat.mul_zero, Nat.zero_add, Nat.add_zero, Nat.reduceSub, Nat.reduceMul, Nat.reduceAdd] at k1 k3 l1 l3
      have a1 := i2 1 (by omega)
      have a2 := i2 2 (by omega)
      have ea : A' 0 = a 0 ∧ B' 0 = b 0 := j2 0 (by omega)
      have b0 := i2 0 (by omega)
      have e12 : mk m x 1 2 = m 2 ∧ mk m x 1 3 = m 3 ∧ mk m x 1 4 = m 4 ∧ mk m x 1 5 = m 5 := by simp [mk, ck]
      rw [a1.1, a1.2] at k1 k3
      rw [a2.1, a2.2] at l1 l3
      simp only [Nat.reduceMul, Nat.reduceAdd, e12] at k1 k3 l1 l3
      have hr : ∀ t, t < 2 * 2 → r t = sp1 m x t := fun t ht => i1 t (by omega)
      have hr2 : ∀ t, t < 2 * 2 → (fun t => r (4 + t)) t = (fun t => sp1 m x (4 + t)) t := fun t ht => i1 (4 + t) (by omega)
      refine hg _ _ _ _ ⟨fun j hj => ?_, fun i hi => ?_⟩
      · rw [hcp _ j hj]
        show next' j = sp2 m x j
        unfold sp2
        by_cases h4 : j < 4
        · rw [if_pos h4]
          by_cases h2 : j < 2
          · rw [if_pos h2, (k3 j h2).1]; exact pS_c hr h2
          · have h5 := (k3 (j - 2) (by omega)).2
            rw [show 2 + (j - 2) = j by omega] at h5
            rw [if_neg h2, h5]; exact pD_c hr (by omega)
        · rw [if_neg h4]
          by_cases h6 : j < 6
          · have h5 := (l3 (j - 4) (by omega)).1
            rw [show 4 + (j - 4) = j by omega] at h5
            rw [if_pos h6, h5]; exact pS_c hr2 (by omega)
          · have h5 := (l3 (j - 6) (by omega)).2
            rw [show 6 + (j - 6) = j by omega] at h5
            rw [if_neg h6, h5]; exact pD_c hr2 (by omega)
      · have hi7 : i = 0 ∨ i = 1 ∨ i = 2 ∨ 3 ≤ i := by omega
        rcases hi7 with rfl | rfl | rfl | h3
        · rw [ea.1, ea.2, b0.1, b0.2]; simp [mk, ck]
        · rw [k1.1, k1.2, show mk m x (1 + 1) (2 * 1) = spM m x 2 by simp [mk, ck], show mk m x (1 + 1) (2 * 1 + 1) = spM m x 3 by simp [mk, ck], spM_2, spM_3]; exact ⟨pA_c hr (by omega), pB_c hr (by omega)⟩
        · rw [l1.1, l1.2, show mk m x (1 + 1) (2 * 2) = spM m x 4 by simp [mk, ck], show mk m x (1 + 1) (2 * 2 + 1) = spM m x 5 by simp [mk, ck], spM_4, spM_5]; exact ⟨pA_c hr2 (by omega), pB_c hr2 (by omega)⟩
        · rw [(j2 i (by omega)).1, (j2 i (by omega)).2, (i2 i hi).1, (i2 i hi).2]
          have c1 : ck 1 = 2 := rfl
          have c2 : ck (1 + 1) = 6 := rfl
          unfold mk
          rw [c1, c2, if_neg (by omega), if_neg (by omega), if_neg (by omega), if_neg (by omega)]
          exact ⟨rfl, rfl⟩
    · simp only [show (1 : Int32) <<< (nI 2 &&& 31) = nI 4 by decide, forall_eq]
      refine lvl9 (N := 4) (n := 1) (by omega) (fun A' B' next' j1 j2 j3 => ?_)
      rw [nI_1]
      have c2 : ck 2 = 6 := rfl
      have c3 : ck (2 + 1) = 14 := rfl
      have hmem : ∀ q, q < 4 → a (4 - 1 + q) = m (6 + 2 * q) ∧ b (4 - 1 + q) = m (7 + 2 * q) := by
        intro q hq
        have a1 := i2 (4 - 1 + q) (by omega)
        unfold mk at a1
        rw [c2, if_neg (by omega), if_neg (by omega)] at a1
        rw [show 2 * (4 - 1 + q) = 6 + 2 * q by omega, show 6 + 2 * q + 1 = 7 + 2 * q by omega] at a1
        exact a1
      have hr : ∀ q, q < 4 → ∀ t, t < 2 * 1 → (fun t => r (2 * 1 * q + t)) t = (fun t => sp2 m x (2 * q + t)) t := fun q hq t ht => by
        show r (2 * 1 * q + t) = sp2 m x (2 * q + t)
        rw [show 2 * 1 * q = 2 * q by omega]; exact i1 _ (by omega)
      refine hg _ _ _ _ ⟨fun j hj => ?_, fun i hi => ?_⟩
      · rw [hcp _ j hj]
        show next' j = sp3 m x j
        unfold sp3
        have h5 := j3 (j / 2) (by omega) 0 (by omega)
        have h6 := hmem (j / 2) (by omega)
        rw [h6.1, h6.2, Nat.add_zero, Nat.add_zero] at h5
        by_cases h2 : j % 2 = 0
        · rw [if_pos h2]
          have h7 := h5.1
          rw [show next' (2 * 1 * (j / 2)) = next' j from congrArg next' (by omega)] at h7
          rw [h7]
          exact pS_c (hr (j / 2) (by omega)) (by omega)
        · rw [if_neg h2]
          have h7 := h5.2
          rw [show next' (2 * 1 * (j / 2) + 1) = next' j from congrArg next' (by omega)] at h7
          rw [h7]
          exact pD_c (hr (j / 2) (by omega)) (by omega)
      · by_cases h3 : i < 3
        · rw [(j2 i (by omega)).1, (j2 i (by omega)).2, (i2 i hi).1, (i2 i hi).2]
          unfold mk
          rw [c2, c3, if_pos (by omega), if_pos (by omega), if_pos (by omega), if_pos (by omega)]
          exact ⟨rfl, rfl⟩
        · have h5 := j1 (i - 3) (by omega)
          have h6 := hmem (i - 3) (by omega)
          rw [h6.1, h6.2, show 4 - 1 + (i - 3) = i by omega] at h5
          unfold mk
          rw [c3, if_pos (by omega), if_pos (by omega), h5.1, h5.2]
          unfold spM
          rw [if_neg (by omega), if_neg (by omega), if_neg (by omega), if_neg (by omega), if_neg (by omega), if_neg (by omega), if_pos (by omega), if_neg (by omega), if_neg (by omega), if_neg (by omega), if_neg (by omega), if_neg (by omega), if_neg (by omega), if_neg (by omega)]
          rw [show 2 * i + 1 - 7 = 2 * i - 6 by omega, show 2 * i + 1 - 1 = 2 * i by omega, show 6 + 2 * (i - 3) = 2 * i by omega, show 7 + 2 * (i - 3) = 2 * i + 1 by omega]
          have hrr : ∀ t, t < 2 * 1 → (fun t => r (2 * 1 * (i - 3) + t)) t = (fun t => sp2 m x (2 * i - 6 + t)) t := fun t ht => by
            show r (2 * 1 * (i - 3) + t) = sp2 m x (2 * i - 6 + t)
            rw [show 2 * 1 * (i - 3) = 2 * i - 6 by omega]; exact i1 _ (by omega)
          exact ⟨pA_c hrr (by omega), pB_c hrr (by omega)⟩
  · rintro r a b f ⟨i1, i2⟩
    refine ⟨nI_pos (by omega), h3, ?_⟩
    rintro _ rfl
    refine h _ _ _ _ _ (fun i hi => ?_) (fun j hj => ?_) (fun j hj => ?_)
    · have h5 := i2 i hi
      have c3 : ck 3 = 14 := rfl
      unfold mk at h5
      rw [c3, if_pos (by omega), if_pos (by omega)] at h5
      exact h5
    · rw [pk_cpy_in (by omega) (by omega), Nat.zero_add, show to + j - to = j by omega]; exact i1 j hj
    · rw [pk_cpy_out (by omega)]
