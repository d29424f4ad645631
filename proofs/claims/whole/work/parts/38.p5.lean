/-! pure part 5: joins -/
def qB (B : Int32) (x : Nat → Int32) (n k : Nat) : Int32 := if k = 0 then B else x (n + k - 1)
def qO (B : Int32) (x : Nat → Int32) (n k : Nat) : Int32 := x k - ((qB B x n k + x (n + k)) >>> ((2 : Int32) &&& 31))
def qA (A B : Int32) (x : Nat → Int32) (n k : Nat) : Int32 := if k = 0 then A else qO B x n (k - 1)
def qE (A B : Int32) (x : Nat → Int32) (n k : Nat) : Int32 := x (n + k) + ((qA A B x n k + qO B x n k) >>> ((1 : Int32) &&& 31))
theorem qB_s (B : Int32) (x : Nat → Int32) (n k : Nat) : qB B x n (k + 1) = x (n + k) := by
  unfold qB; rw [if_neg (by omega), show n + (k + 1) - 1 = n + k by omega]
theorem qA_s (A B : Int32) (x : Nat → Int32) (n k : Nat) : qA A B x n (k + 1) = qO B x n k := by
  unfold qA; rw [if_neg (by omega), Nat.add_sub_cancel]
theorem qB_c {B : Int32} {x y : Nat → Int32} {k n : Nat} (h : ∀ j, j < 2 * n → x j = y j) (hk : k ≤ n) : qB B x n k = qB B y n k := by
  unfold qB; by_cases h0 : k = 0
  · rw [if_pos h0, if_pos h0]
  · rw [if_neg h0, if_neg h0, h _ (by omega)]
theorem qO_c {B : Int32} {x y : Nat → Int32} {k n : Nat} (h : ∀ j, j < 2 * n → x j = y j) (hk : k < n) : qO B x n k = qO B y n k := by
  unfold qO; rw [qB_c h (by omega), h _ (by omega), h _ (by omega)]
theorem qA_c {A B : Int32} {x y : Nat → Int32} {k n : Nat} (h : ∀ j, j < 2 * n → x j = y j) (hk : k ≤ n) : qA A B x n k = qA A B y n k := by
  unfold qA; by_cases h0 : k = 0
  · rw [if_pos h0, if_pos h0]
  · rw [if_neg h0, if_neg h0, qO_c h (by omega)]
theorem qE_c {A B : Int32} {x y : Nat → Int32} {k n : Nat} (h : ∀ j, j < 2 * n → x j = y j) (hk : k < n) : qE A B x n k = qE A B y n k := by
  unfold qE; rw [qA_c h (by omega), qO_c h hk, h _ (by omega)]
theorem t9_joinRow {nd st n : Nat} {row A B next : Nat → Int32} {post : (Nat → Int32) → (Nat → Int32) → (Nat → Int32) → Prop} (hnd : nd < 7) (hst : st + 2 * n ≤ 8)
    (h : ∀ next' : Nat → Int32, (∀ i, i < n → next' (st + 2 * i) = qE (A nd) (B nd) (fun t => row (st + t)) n i ∧ next' (st + 2 * i + 1) = qO (B nd) (fun t => row (st + t)) n i) → (∀ j, (j < st ∨ st + 2 * n ≤ j) → next' j = next j) → post (upd B nd (qB (B nd) (fun t => row (st + t)) n n)) (upd A nd (qA (A nd) (B nd) (fun t => row (st + t)) n n)) next') :
    wp_X9_joinRow (nI nd) (nI st) (nI n) row B A next post := by
  unfold wp_X9_joinRow
  rintro _ rfl
  refine cinv3 0 n (fun k b a f => a = upd A nd (qA (A nd) (B nd) (fun t => row (st + t)) n k) ∧ b = upd B nd (qB (B nd) (fun t => row (st + t)) n k) ∧ (∀ i, i < k → f (st + 2 * i) = qE (A nd) (B nd) (fun t => row (st + t)) n i ∧ f (st + 2 * i + 1) = qO (B nd) (fun t => row (st + t)) n i) ∧ (∀ j, (j < st ∨ st + 2 * n ≤ j) → f j = next j)) ⟨(upd_id _ _).symm, (upd_id _ _).symm, fun i hi => absurd hi (Nat.not_lt_zero _), fun j _ => rfl⟩ ?_ ?_
  · rintro k b a f - hk ⟨rfl, rfl, hf, hj⟩ g hg
    simp (disch := omega) only [lA, lM, rA, nI_add, nI_clamp, vpT, true_and, forall_eq, pk_us, fa_upd_twice]
    refine hg _ _ _ ⟨?_, ?_, ?_, ?_⟩
    · rw [qA_s, Nat.add_assoc]; rfl
    · rw [qB_s, Nat.add_assoc]
    · intro i hi
      by_cases hik : i = k
      · subst hik
        refine ⟨?_, ?_⟩
        · rw [pk_un (by omega), pk_us, Nat.add_assoc st n]; rfl
        · rw [pk_us, Nat.add_assoc st n]; rfl
      · rw [pk_un (by omega), pk_un (by omega), pk_un (by omega), pk_un (by omega)]
        exact hf i (by omega)
    · intro j hj2
      rw [pk_un (by omega), pk_un (by omega)]
      exact hj j hj2
  · rintro b a f ⟨rfl, rfl, hf, hj⟩
    exact h f hf hj
set_option maxHeartbeats 4000000 in
set_option maxRecDepth 100000 in
theorem t12_joinRow {np nd fr n : Nat} {S D : Int32} {eight nodes rows : Nat → Int32} {post : Int32 → Int32 → (Nat → Int32) → (Nat → Int32) → (Nat → Int32) → Prop} (hnd : nd + 1 < np) (hnp : np < 2 ^ 31) (hfr : fr + 2 * n ≤ 8)
    (h : ∀ (S' D' : Int32) (rows' eight' : Nat → Int32), (∀ i, i < n → eight' (fr + 2 * i) = qE (nodes nd) (nodes (nd + 1)) (fun t => eight (fr + t)) n i ∧ eight' (fr + 2 * i + 1) = qO (nodes (nd + 1)) (fun t => eight (fr + t)) n i) → (∀ j, (j < fr ∨ fr + 2 * n ≤ j) → eight' j = eight j) → post S' D' eight' (upd (upd nodes nd (qA (nodes nd) (nodes (nd + 1)) (fun t => eight (fr + t)) n n)) (nd + 1) (qB (nodes (nd + 1)) (fun t => eight (fr + t)) n n)) rows') :
    wp_X12_joinRow np (nI nd) (nI fr) (nI (2 * n)) S D eight nodes rows post := by
  unfold wp_X12_joinRow
  have e2 : nI (2 * n) / 2 = nI n := by rw [rD (by omega) (by omega) (by omega), show 2 * n / 2 = n by omega]
  rintro _ rfl
  simp only [e2, forall_eq]
  refine cinv4 0 n (fun k _ _ a f => a = upd (upd nodes nd (qA (nodes nd) (nodes (nd + 1)) (fun t => eight (fr + t)) n k)) (nd + 1) (qB (nodes (nd + 1)) (fun t => eight (fr + t)) n k) ∧ (∀ i, i < k → f (fr + 2 * i) = qE (nodes nd) (nodes (nd + 1)) (fun t => eight (fr + t)) n i ∧ f (fr + 2 * i + 1) = qO (nodes (nd + 1)) (fun t => eight (fr + t)) n i)) ⟨(upd2_id _ _ _).symm, fun i hi => absurd hi (Nat.not_lt_zero _)⟩ ?_ ?_
  · rintro k s d a f - hk ⟨rfl, hf⟩ g hg
    unfold wp_X12_joinPair
    simp (disch := omega) only [lA, lM, rA, nI_add, nI_clamp, vpT, true_and, forall_eq, pk_us, pk_un]
    refine hg _ _ _ _ ⟨?_, ?_⟩
    · rw [upd4 _ _ _ _ _ (by omega), qA_s, qB_s, Nat.add_assoc fr]; rfl
    · intro i hi
      by_cases hik : i = k
      · subst hik
        refine ⟨?_, ?_⟩
        · rw [pk_un (by omega), pk_us, Nat.add_assoc fr n]; rfl
        · rw [pk_us, Nat.add_assoc fr n]; rfl
      · rw [pk_un (by omega), pk_un (by omega), pk_un (by omega), pk_un (by omega)]
        exact hf i (by omega)
  · rintro s d a f ⟨rfl, hf⟩
    simp only [nI_add]
    refine cinv1 fr (fr + 2 * n) (fun k e => ∀ j, e j = if fr ≤ j ∧ j < k then f j else eight j) (fun j => by rw [if_neg (by omega)]) ?_ ?_
    · intro k e hk0 hk hI g hg
      simp (disch := omega) only [rA, nI_clamp, vpT, true_and, forall_eq]
      refine hg _ (fun j => ?_)
      by_cases hj : j = k
      · subst hj; rw [pk_us, if_pos (by omega)]
      · rw [pk_un hj, hI j]
        by_cases h2 : fr ≤ j ∧ j < k
        · rw [if_pos h2, if_pos (by omega)]
        · rw [if_neg h2, if_neg (by omega)]
    · intro e hI
      refine h _ _ _ e (fun i hi => ?_) (fun j hj => ?_)
      · rw [hI, hI, if_pos (by omega), if_pos (by omega)]; exact hf i hi
      · rw [hI, if_neg (by omega)]
def jp1 (m x : Nat → Int32) : Nat → Int32 := fun j => if j % 2 = 0 then qE (m (6 + 2 * (j / 2))) (m (7 + 2 * (j / 2))) (fun t => x (2 * (j / 2) + t)) 1 0 else qO (m (7 + 2 * (j / 2))) (fun t => x (2 * (j / 2) + t)) 1 0
def jp2 (m x : Nat → Int32) : Nat → Int32 := fun j => if j < 4 then (if j % 2 = 0 then qE (m 2) (m 3) (jp1 m x) 2 (j / 2) else qO (m 3) (jp1 m x) 2 (j / 2)) else (if j % 2 = 0 then qE (m 4) (m 5) (fun t => jp1 m x (4 + t)) 2 ((j - 4) / 2) else qO (m 5) (fun t => jp1 m x (4 + t)) 2 ((j - 4) / 2))
def jp3 (m x : Nat → Int32) : Nat → Int32 := fun j => if j % 2 = 0 then qE (m 0) (m 1) (jp2 m x) 4 (j / 2) else qO (m 1) (jp2 m x) 4 (j / 2)
def jpM (m x : Nat → Int32) : Nat → Int32 := fun i => if i = 0 then qA (m 0) (m 1) (jp2 m x) 4 4 else if i = 1 then qB (m 1) (jp2 m x) 4 4 else if i = 2 then qA (m 2) (m 3) (jp1 m x) 2 2 else if i = 3 then qB (m 3) (jp1 m x) 2 2 else if i = 4 then qA (m 4) (m 5) (fun t => jp1 m x (4 + t)) 2 2 else if i = 5 then qB (m 5) (fun t => jp1 m x (4 + t)) 2 2
  else if i % 2 = 0 then qA (m i) (m (i + 1)) (fun t => x (i - 6 + t)) 1 1 else qB (m i) (fun t => x (i - 7 + t)) 1 1
theorem jpM_0 (m x : Nat → Int32) : jpM m x 0 = qA (m 0) (m 1) (jp2 m x) 4 4 := by simp [jpM]
theorem jpM_1 (m x : Nat → Int32) : jpM m x 1 = qB (m 1) (jp2 m x) 4 4 := by simp [jpM]
theorem jpM_2 (m x : Nat → Int32) : jpM m x 2 = qA (m 2) (m 3) (jp1 m x) 2 2 := by simp [jpM]
theorem jpM_3 (m x : Nat → Int32) : jpM m x 3 = qB (m 3) (jp1 m x) 2 2 := by simp [jpM]
theorem jpM_4 (m x : Nat → Int32) : jpM m x 4 = qA (m 4) (m 5) (fun t => jp1 m x (4 + t)) 2 2 := by simp [jpM]
theorem jpM_5 (m x : Nat → Int32) : jpM m x 5 = qB (m 5) (fun t => jp1 m x (4 + t)) 2 2 := by simp [jpM]
set_option maxHeartbeats 4000000 in
set_option maxRecDepth 100000 in
theorem t12_joinBlock {np at_ : Nat} {S D : Int32} {eight nodes rows : Nat → Int32} {post : Int32 → Int32 → (Nat → Int32) → (Nat → Int32) → (Nat → Int32) → Prop} (hat : at_ + 14 ≤ np) (hnp : np < 2 ^ 31)
    (h : ∀ (S' D' : Int32) (rows' eight' nodes' : Nat → Int32), (∀ j, j < 8 → eight' j = jp3 (fun i => nodes (at_ + i)) eight j) → (∀ i, i < 14 → nodes' (at_ + i) = jpM (fun i => nodes (at_ + i)) eight i) → (∀ j, (j < at_ ∨ at_ + 14 ≤ j) → nodes' j = nodes j) → post S' D' eight' nodes' rows') :
    wp_X12_joinBlock np (nI at_) S D eight nodes rows post := by
  unfold wp_X12_joinBlock
  generalize hm : (fun i => nodes (at_ + i)) = m at h
  have hmi : ∀ i, nodes (at_ + i) = m i := fun i => by rw [← hm]
  rintro _ rfl
  refine cinv5 0 4 (fun k _ _ e nd _ => (∀ j, j < 2 * k → e j = jp1 m eight j) ∧ (∀ j, 2 * k ≤ j → j < 8 → e j = eight j) ∧ (∀ i, 6 ≤ i → i < 6 + 2 * k → nd (at_ + i) = jpM m eight i) ∧ (∀ j, (j < at_ + 6 ∨ at_ + (6 + 2 * k) ≤ j) → nd j = nodes j)) ⟨fun j hj => absurd hj (by omega), fun j _ hj => rfl, fun i h6 hi => absurd hi (by omega), fun j _ => rfl⟩ ?_ ?_
  · rintro k s d e nd r - hk ⟨i1, i2, i3, i4⟩ g hg
    simp only [rA, lM, nI_add]
    refine t12_joinRow (n := 1) (by omega) hnp (by omega) (fun S4 D4 r4 e4 he4 ho4 => ?_)
    refine hg _ _ _ _ _ ?_
    have hx : ∀ t, t < 2 * 1 → (fun t => e (2 * k + t)) t = (fun t => eight (2 * k + t)) t := fun t ht => i2 _ (by omega) (by omega)
    have ha : nd (at_ + 6 + 2 * k) = m (6 + 2 * k) := by rw [i4 _ (by omega), Nat.add_assoc]; exact hmi _
    have hb : nd (at_ + 6 + 2 * k + 1) = m (7 + 2 * k) := by rw [i4 _ (by omega), show at_ + 6 + 2 * k + 1 = at_ + (7 + 2 * k) by omega]; exact hmi _
    rw [ha, hb] at he4 ⊢
    refine ⟨fun j hj => ?_, fun j hj hj8 => ?_, fun i h6 hi => ?_, fun j hj => ?_⟩
    · by_cases hl : j < 2 * k
      · rw [ho4 j (by omega)]; exact i1 j hl
      · by_cases h0 : j = 2 * k
        · subst h0
          have h5 := (he4 0 (by omega)).1
          rw [Nat.mul_zero, Nat.add_zero] at h5
          rw [h5]; unfold jp1
          rw [if_pos (by omega), show 2 * k / 2 = k by omega]
          exact qE_c hx (by omega)
        · have h1 : j = 2 * k + 1 := by omega
          subst h1
          have h5 := (he4 0 (by omega)).2
          rw [Nat.mul_zero, Nat.add_zero] at h5
          rw [h5]; unfold jp1
          rw [if_neg (by omega), show (2 * k + 1) / 2 = k by omega]
          exact qO_c hx (by omega)
    · rw [ho4 j (by omega)]; exact i2 j (by omega) hj8
    · by_cases hl : i < 6 + 2 * k
      · rw [pk_un (by omega), pk_un (by omega)]; exact i3 i h6 hl
      · by_cases h0 : i = 6 + 2 * k
        · subst h0
          rw [pk_un (by omega), show at_ + (6 + 2 * k) = at_ + 6 + 2 * k by omega, pk_us]
          unfold jpM
          rw [if_neg (by omega), if_neg (by omega), if_neg (by omega), if_neg (by omega), if_neg (by omega), if_neg (by omega), if_pos (by omega), show 6 + 2 * k - 6 = 2 * k by omega, show 6 + 2 * k + 1 = 7 + 2 * k by omega]
          exact qA_c hx (by omega)
        · have h1 : i = 7 + 2 * k := by omega
          subst h1
          rw [show at_ + (7 + 2 * k) = at_ + 6 + 2 * k + 1 by omega, pk_us]
          unfold jpM
          rw [if_neg (by omega), if_neg (by omega), if_neg (by omega), if_neg (by omega), if_neg (by omega), if_neg (by omega), if_neg (by omega), show 7 + 2 * k - 7 = 2 * k by omega]
          exact qB_c hx (by omega)
    · rw [pk_un (by omega), pk_un (by omega)]; exact i4 j (by omega)
  · rintro s d e nd r ⟨i1, i2, i3, i4⟩
    have hnm : ∀ i, i < 6 → nd (at_ + i) = m i := fun i hi => by rw [i4 _ (by omega)]; exact hmi i
    rw [rA]
    refine t12_joinRow (n := 2) (fr := 0) (by omega) hnp (by omega) (fun S1 D1 r1 e1 he1 ho1 => ?_)
    simp (disch := omega) only [Nat.zero_add, Nat.add_assoc, Nat.reduceAdd, hnm] at he1 ho1 ⊢
    rw [rA]
    refine t12_joinRow (n := 2) (fr := 4) (by omega) hnp (by omega) (fun S2 D2 r2 e2 he2 ho2 => ?_)
    simp (disch := omega) only [Nat.add_assoc, Nat.reduceAdd, pk_un, hnm] at he2 ho2 ⊢
    have hc1 : ∀ t, t < 2 * 2 → e t = jp1 m eight t := fun t ht => i1 t (by omega)
    have hc2 : ∀ t, t < 2 * 2 → (fun t => e1 (4 + t)) t = (fun t => jp1 m eight (4 + t)) t := fun t ht => by
      show e1 (4 + t) = _
      rw [ho1 _ (by omega)]; exact i1 _ (by omega)
    have hE2 : ∀ j, j < 8 → e2 j = jp2 m eight j := by
      intro j hj; unfold jp2
      by_cases h4 : j < 4
      · rw [if_pos h4, ho2 j (by omega)]
        have h5 := he1 (j / 2) (by omega)
        by_cases h2 : j % 2 = 0
        · have h6 := h5.1
          rw [show 2 * (j / 2) = j by omega] at h6
          rw [if_pos h2, h6]; exact qE_c hc1 (by omega)
        · have h6 := h5.2
          rw [show 2 * (j / 2) + 1 = j by omega] at h6
          rw [if_neg h2, h6]; exact qO_c hc1 (by omega)
      · rw [if_neg h4]
        have h5 := he2 ((j - 4) / 2) (by omega)
        by_cases h2 : j % 2 = 0
        · have h6 := h5.1
          rw [show 4 + 2 * ((j - 4) / 2) = j by omega] at h6
          rw [if_pos h2, h6]; exact qE_c hc2 (by omega)
        · have h6 := h5.2
          rw [show 4 + (2 * ((j - 4) / 2) + 1) = j by omega] at h6
          rw [if_neg h2, h6]; exact qO_c hc2 (by omega)
    refine t12_joinRow (n := 4) (fr := 0) (by omega) hnp (by omega) (fun S3 D3 r3 e3 he3 ho3 => ?_)
    simp (disch := omega) only [Nat.zero_add, Nat.add_assoc, Nat.reduceAdd, pk_un, hnm, show nd at_ = m 0 from hnm 0 (by omega)] at he3 ho3 ⊢
    have hc3 : ∀ t, t < 2 * 4 → e2 t = jp2 m eight t := fun t ht => hE2 t (by omega)
    refine h _ _ _ _ _ (fun j hj => ?_) (fun i hi => ?_) (fun j hj => ?_)
    · unfold jp3
      have h5 := he3 (j / 2) (by omega)
      by_cases h2 : j % 2 = 0
      · have h6 := h5.1
        rw [show 2 * (j / 2) = j by omega] at h6
        rw [if_pos h2, h6]; exact qE_c hc3 (by omega)
      · have h6 := h5.2
        rw [show 2 * (j / 2) + 1 = j by omega] at h6
        rw [if_neg h2, h6]; exact qO_c hc3 (by omega)
    · by_cases h6 : 6 ≤ i
      · simp (disch := omega) only [pk_un]; exact i3 i h6 (by omega)
      · have hi6 : i = 0 ∨ i = 1 ∨ i = 2 ∨ i = 3 ∨ i = 4 ∨ i = 5 := by omega
        rcases hi6 with rfl | rfl | rfl | rfl | rfl | rfl
        · rw [jpM_0]; simp (disch := omega) only [Nat.add_zero, pk_un, pk_us]; exact qA_c hc3 (by omega)
        · rw [jpM_1]; simp (disch := omega) only [pk_un, pk_us]; exact qB_c hc3 (by omega)
        · rw [jpM_2]; simp (disch := omega) only [pk_un, pk_us]; exact qA_c hc1 (by omega)
        · rw [jpM_3]; simp (disch := omega) only [pk_un, pk_us]; exact qB_c hc1 (by omega)
        · rw [jpM_4]; simp (disch := omega) only [pk_un, pk_us]; exact qA_c hc2 (by omega)
        · rw [jpM_5]; simp (disch := omega) only [pk_un, pk_us]; exact qB_c hc2 (by omega)
    · simp (disch := omega) only [pk_un]; exact i4 j (by omega)
set_option maxHeartbeats 4000000 in
set_option maxRecDepth 100000 in
theorem lvlJ {N n : Nat} (hN : N = 1 ∧ n = 4 ∨ N = 2 ∧ n = 2 ∨ N = 4 ∧ n = 1) {row A B next : Nat → Int32} {Ex : Int32 → (Nat → Int32) → (Nat → Int32) → (Nat → Int32) → Prop}
    (h : ∀ B' A' next' : Nat → Int32, (∀ q, q < N → A' (N - 1 + q) = qA (A (N - 1 + q)) (B (N - 1 + q)) (fun t => row (2 * n * q + t)) n n ∧ B' (N - 1 + q) = qB (B (N - 1 + q)) (fun t => row (2 * n * q + t)) n n) → (∀ i, (i < N - 1 ∨ N - 1 + N ≤ i) → A' i = A i ∧ B' i = B i) →
      (∀ q, q < N → ∀ i, i < n → next' (2 * n * q + 2 * i) = qE (A (N - 1 + q)) (B (N - 1 + q)) (fun t => row (2 * n * q + t)) n i ∧ next' (2 * n * q + 2 * i + 1) = qO (B (N - 1 + q)) (fun t => row (2 * n * q + t)) n i) → Ex (nI N) B' A' next') :
    Lz4 (fun g (x20 : Int32) (f21 f22 f23 : Nat → Int32) => (nI N ≤ x20 → Ex x20 f21 f22 f23) ∧ (¬ nI N ≤ x20 → ¬ nI N = 0 ∧ ¬ nI N = 0 ∧ wp_X9_joinRow ((nI N - 1) + x20) (x20 * 8 / nI N) (8 / nI N / 2) row f21 f22 f23 (fun a b c => g (x20 + 1) a b c))) 0 B A next := by
  have hN0 : ¬ nI N = 0 := nI_ne0 (by omega) (by omega)
  refine cinv3 0 N (fun k b a f => (∀ q, q < k → a (N - 1 + q) = qA (A (N - 1 + q)) (B (N - 1 + q)) (fun t => row (2 * n * q + t)) n n ∧ b (N - 1 + q) = qB (B (N - 1 + q)) (fun t => row (2 * n * q + t)) n n) ∧ (∀ i, (i < N - 1 ∨ N - 1 + k ≤ i) → a i = A i ∧ b i = B i) ∧ (∀ q, q < k → ∀ i, i < n → f (2 * n * q + 2 * i) = qE (A (N - 1 + q)) (B (N - 1 + q)) (fun t => row (2 * n * q + t)) n i ∧ f (2 * n * q + 2 * i + 1) = qO (B (N - 1 + q)) (fun t => row (2 * n * q + t)) n i)) ⟨fun q hq => absurd hq (Nat.not_lt_zero _), fun i _ => ⟨rfl, rfl⟩, fun q hq => absurd hq (Nat.not_lt_zero _)⟩ ?_ ?_
  · rintro k b a f - hk ⟨i1, i2, i3⟩ g hg
    have hle : 2 * n * k + 2 * n ≤ 8 := by rcases hN with ⟨rfl, rfl⟩ | ⟨rfl, rfl⟩ | ⟨rfl, rfl⟩ <;> omega
    have e1 : nI k * 8 / nI N = nI (2 * n * k) := by
      rw [rM, pk_div (by omega) (by omega) (by omega)]
      congr 1
      rcases hN with ⟨rfl, rfl⟩ | ⟨rfl, rfl⟩ | ⟨rfl, rfl⟩ <;> omega
    have e2 : (8 : Int32) / nI N / 2 = nI n := by
      rcases hN with ⟨rfl, rfl⟩ | ⟨rfl, rfl⟩ | ⟨rfl, rfl⟩ <;> decide
    have e3 : (nI N - 1) + nI k = nI (N - 1 + k) := by rw [rS (by omega), nI_add]
    simp only [e1, e2, e3]
    refine ⟨hN0, hN0, t9_joinRow (by omega) hle (fun next' h1 h2 => ?_)⟩
    rw [nI_1]
    have hA : a (N - 1 + k) = A (N - 1 + k) := (i2 _ (by omega)).1
    have hB : b (N - 1 + k) = B (N - 1 + k) := (i2 _ (by omega)).2
    rw [hA, hB] at h1 ⊢
    refine hg _ _ _ ⟨fun q hq => ?_, fun i hi => ?_, fun q hq i hi => ?_⟩
    · by_cases hqk : q = k
      · subst hqk; rw [pk_us, pk_us]; exact ⟨rfl, rfl⟩
      · rw [pk_un (by omega), pk_un (by omega)]; exact i1 q (by omega)
    · rw [pk_un (by omega), pk_un (by omega)]; exact i2 i (by omega)
    · by_cases hqk : q = k
      · subst hqk; exact h1 i hi
      · have hlt : 2 * n * q + 2 * n ≤ 2 * n * k := by
          rcases hN with ⟨rfl, rfl⟩ | ⟨rfl, rfl⟩ | ⟨rfl, rfl⟩ <;> omega
        rw [h2 _ (by omega), h2 _ (by omega)]; exact i3 q (by omega) i hi
  · rintro b a f ⟨i1, i2, i3⟩
    exact h b a f i1 i2 i3
def zk (m x : Nat → Int32) (k : Nat) : Nat → Int32 := if k = 3 then x else if k = 2 then jp1 m x else if k = 1 then jp2 m x else jp3 m x
def nk (m x : Nat → Int32) (k : Nat) : Nat → Int32 := fun i => if ck k ≤ i then jpM m x i else m i
set_option maxHeartbeats 4000000 in
set_option maxRecDepth 100000 in
theorem t9_joinBlock {np1 np3 fr to : Nat} {p1 row A B next p3 m x : Nat → Int32} {post : (Nat → Int32) → (Nat → Int32) → (Nat → Int32) → (Nat → Int32) → (Nat → Int32) → Prop} (hm : ∀ i, i < 7 → A i = m (2 * i) ∧ B i = m (2 * i + 1)) (hx : ∀ j, j < 8 → p1 (fr + j) = x j) (h1 : fr + 8 ≤ np1) (h3 : to + 8 ≤ np3) (hn1 : np1 < 2 ^ 31) (hn3 : np3 < 2 ^ 31)
    (h : ∀ row' A' B' next' p3' : Nat → Int32, (∀ i, i < 7 → A' i = jpM m x (2 * i) ∧ B' i = jpM m x (2 * i + 1)) → (∀ j, j < 8 → p3' (to + j) = jp3 m x j) → (∀ j, (j < to ∨ to + 8 ≤ j) → p3' j = p3 j) → post row' B' A' next' p3') :
    wp_X9_joinBlock np1 np3 (nI fr) (nI to) p1 row B A next p3 post := by
  unfold wp_X9_joinBlock
  rw [nI_clamp (by omega), nI_clamp (by omega)]
  refine ⟨nI_pos (by omega), h1, ?_⟩
  rintro _ rfl x4 hx4
  refine cdwn4 3 (fun k r b a _ => (∀ j, j < 8 → r j = zk m x k j) ∧ (∀ i, i < 7 → a i = nk m x k (2 * i) ∧ b i = nk m x k (2 * i + 1))) ⟨fun j hj => ?_, fun i hi => ?_⟩ ?_ ?_ (by rw [hx4]; decide)
  · rw [pk_cpy_in (by omega) (by omega), Nat.sub_zero]; exact hx j hj
  · rw [(hm i hi).1, (hm i hi).2]
    have c3 : ck 3 = 14 := rfl
    unfold nk
    rw [c3, if_neg (by omega), if_neg (by omega)]
    exact ⟨rfl, rfl⟩
  · rintro k r b a f hk ⟨i1, i2⟩ g hg
    have hk3 : k = 0 ∨ k = 1 ∨ k = 2 := by omega
    have hcp : ∀ (nx : Nat → Int32) (j : Nat), j < 8 → va_cpy nx r 0 0 8 j = nx j := fun nx j hj => by rw [pk_cpy_in (by omega) (by omega), Nat.sub_zero, Nat.zero_add]
    have c0 : ck 0 = 0 := rfl
    have c1 : ck 1 = 2 := rfl
    have c2 : ck 2 = 6 := rfl
    have c3 : ck 3 = 14 := rfl
    rcases hk3 with rfl | rfl | rfl
    · simp only [show (1 : Int32) <<< (nI 0 &&& 31) = nI 1 by decide, forall_eq]
      refine lvlJ (N := 1) (n := 4) (by omega) (fun B' A' next' j1 j2 j3 => ?_)
      have k1 := j1 0 (by omega)
      have k3 := j3 0 (by omega)
      simp only [Nat.mul_zero, Nat.zero_add, Nat.sub_self] at k1 k3
      have a0 := i2 0 (by omega)
      rw [show nk m x (0 + 1) (2 * 0) = m 0 by simp [nk, ck], show nk m x (0 + 1) (2 * 0 + 1) = m 1 by simp [nk, ck]] at a0
      have hr : ∀ t, t < 2 * 4 → r t = jp2 m x t := fun t ht => i1 t (by omega)
      rw [a0.1, a0.2] at k1 k3
      refine hg _ _ _ _ ⟨fun j hj => ?_, fun i hi => ?_⟩
      · rw [hcp _ j hj]
        show next' j = jp3 m x j
        unfold jp3
        have h5 := k3 (j / 2) (by omega)
        by_cases h2 : j % 2 = 0
        · have h6 := h5.1
          rw [show 2 * (j / 2) = j by omega] at h6
          rw [if_pos h2, h6]; exact qE_c hr (by omega)
        · have h6 := h5.2
          rw [show 2 * (j / 2) + 1 = j by omega] at h6
          rw [if_neg h2, h6]; exact qO_c hr (by omega)
      · by_cases h0 : i = 0
        · subst h0
          rw [k1.1, k1.2, show nk m x 0 (2 * 0) = jpM m x 0 by simp [nk, ck], show nk m x 0 (2 * 0 + 1) = jpM m x 1 by simp [nk, ck], jpM_0, jpM_1]
          exact ⟨qA_c hr (by omega), qB_c hr (by omega)⟩
        · rw [(j2 i (by omega)).1, (j2 i (by omega)).2, (i2 i hi).1, (i2 i hi).2]
          unfold nk
          rw [show ck (0 + 1) = 2 from rfl, c0, if_pos (by omega), if_pos (by omega), if_pos (by omega), if_pos (by omega)]
          exact ⟨rfl, rfl⟩
    · simp only [show (1 : Int32) <<< (nI 1 &&& 31) = nI 2 by decide, forall_eq]
      refine lvlJ (N := 2) (n := 2) (by omega) (fun B' A' next' j1 j2 j3 => ?_)
      have k1 := j1 0 (by omega)
      have k3 := j3 0 (by omega)
      have l1 := j1 1 (by omega)
      have l3 := j3 1 (by omega)
      simp only [Nat.mul_zero, Nat.zero_add, Nat.add_zero, Nat.reduceSub, Nat.reduceMul, Nat.reduceAdd] at k1 k3 l1 l3
      have a1 := i2 1 (by omega)
      have a2 := i2 2 (by omega)
      have ea : A' 0 = a 0 ∧ B' 0 = b 0 := j2 0 (by omega)
      have b0 := i2 0 (by omega)
      rw [show nk m x (1 + 1) (2 * 1) = m 2 by simp [nk, ck], show nk m x (1 + 1) (2 * 1 + 1) = m 3 by simp [nk, ck]] at a1
      rw [show nk m x (1 + 1) (2 * 2) = m 4 by simp [nk, ck], show nk m x (1 + 1) (2 * 2 + 1) = m 5 by simp [nk, ck]] at a2
      rw [a1.1, a1.2] at k1 k3
      rw [a2.1, a2.2] at l1 l3
      have hr : ∀ t, t < 2 * 2 → r t = jp1 m x t := fun t ht => i1 t (by omega)
      have hr2 : ∀ t, t < 2 * 2 → (fun t => r (4 + t)) t = (fun t => jp1 m x (4 + t)) t := fun t ht => i1 (4 + t) (by omega)
      refine hg _ _ _ _ ⟨fun j hj => ?_, fun i hi => ?_⟩
      · rw [hcp _ j hj]
        show next' j = jp2 m x j
        unfold jp2
        by_cases h4 : j < 4
        · rw [if_pos h4]
          have h5 := k3 (j / 2) (by omega)
          by_cases h2 : j % 2 = 0
          · have h6 := h5.1
            rw [show 2 * (j / 2) = j by omega] at h6
            rw [if_pos h2, h6]; exact qE_c hr (by omega)
          · have h6 := h5.2
            rw [show 2 * (j / 2) + 1 = j by omega] at h6
            rw [if_neg h2, h6]; exact qO_c hr (by omega)
        · rw [if_neg h4]
          have h5 := l3 ((j - 4) / 2) (by omega)
          by_cases h2 : j % 2 = 0
          · have h6 := h5.1
            rw [show 4 + 2 * ((j - 4) / 2) = j by omega] at h6
            rw [if_pos h2, h6]; exact qE_c hr2 (by omega)
          · have h6 := h5.2
            rw [show 4 + 2 * ((j - 4) / 2) + 1 = j by omega] at h6
            rw [if_neg h2, h6]; exact qO_c hr2 (by omega)
      · have hi7 : i = 0 ∨ i = 1 ∨ i = 2 ∨ 3 ≤ i := by omega
        rcases hi7 with rfl | rfl | rfl | h3
        · rw [ea.1, ea.2, b0.1, b0.2]; simp [nk, ck]
        · rw [k1.1, k1.2, show nk m x 1 (2 * 1) = jpM m x 2 by simp [nk, ck], show nk m x 1 (2 * 1 + 1) = jpM m x 3 by simp [nk, ck], jpM_2, jpM_3]; exact ⟨qA_c hr (by omega), qB_c hr (by omega)⟩
        · rw [l1.1, l1.2, show nk m x 1 (2 * 2) = jpM m x 4 by simp [nk, ck], show nk m x 1 (2 * 2 + 1) = jpM m x 5 by simp [nk, ck], jpM_4, jpM_5]; exact ⟨qA_c hr2 (by omega), qB_c hr2 (by omega)⟩
        · rw [(j2 i (by omega)).1, (j2 i (by omega)).2, (i2 i hi).1, (i2 i hi).2]
          unfold nk
          rw [show ck (1 + 1) = 6 from rfl, c1, if_pos (by omega), if_pos (by omega), if_pos (by omega), if_pos (by omega)]
          exact ⟨rfl, rfl⟩
    · simp only [show (1 : Int32) <<< (nI 2 &&& 31) = nI 4 by decide, forall_eq]
      refine lvlJ (N := 4) (n := 1) (by omega) (fun B' A' next' j1 j2 j3 => ?_)
      have hmem : ∀ q, q < 4 → a (4 - 1 + q) = m (6 + 2 * q) ∧ b (4 - 1 + q) = m (7 + 2 * q) := by
        intro q hq
        have a1 := i2 (4 - 1 + q) (by omega)
        unfold nk at a1
        rw [show ck (2 + 1) = 14 from rfl, if_neg (by omega), if_neg (by omega)] at a1
        rw [show 2 * (4 - 1 + q) = 6 + 2 * q by omega, show 6 + 2 * q + 1 = 7 + 2 * q by omega] at a1
        exact a1
      refine hg _ _ _ _ ⟨fun j hj => ?_, fun i hi => ?_⟩
      · rw [hcp _ j hj]
        show next' j = jp1 m x j
        unfold jp1
        have h5 := j3 (j / 2) (by omega) 0 (by omega)
        have h6 := hmem (j / 2) (by omega)
        have hrr : ∀ t, t < 2 * 1 → (fun t => r (2 * 1 * (j / 2) + t)) t = (fun t => x (2 * (j / 2) + t)) t := fun t ht => by
          show r (2 * 1 * (j / 2) + t) = x (2 * (j / 2) + t)
          rw [show 2 * 1 * (j / 2) = 2 * (j / 2) by omega]; exact i1 _ (by omega)
        rw [h6.1, h6.2] at h5
        by_cases h2 : j % 2 = 0
        · rw [if_pos h2]
          have h7 := h5.1
          rw [show next' (2 * 1 * (j / 2) + 2 * 0) = next' j from congrArg next' (by omega)] at h7
          rw [h7]
          exact qE_c hrr (by omega)
        · rw [if_neg h2]
          have h7 := h5.2
          rw [show next' (2 * 1 * (j / 2) + 2 * 0 + 1) = next' j from congrArg next' (by omega)] at h7
          rw [h7]
          exact qO_c hrr (by omega)
      · by_cases h3 : i < 3
        · rw [(j2 i (by omega)).1, (j2 i (by omega)).2, (i2 i hi).1, (i2 i hi).2]
          unfold nk
          rw [c2, show ck (2 + 1) = 14 from rfl, if_neg (by omega), if_neg (by omega), if_neg (by omega), if_neg (by omega)]
          exact ⟨rfl, rfl⟩
        · have h5 := j1 (i - 3) (by omega)
          have h6 := hmem (i - 3) (by omega)
          rw [h6.1, h6.2, show 4 - 1 + (i - 3) = i by omega] at h5
          unfold nk
          rw [c2, if_pos (by omega), if_pos (by omega), h5.1, h5.2]
          unfold jpM
          rw [if_neg (by omega), if_neg (by omega), if_neg (by omega), if_neg (by omega), if_neg (by omega), if_neg (by omega), if_pos (by omega), if_neg (by omega), if_neg (by omega), if_neg (by omega), if_neg (by omega), if_neg (by omega), if_neg (by omega), if_neg (by omega)]
          rw [show 2 * i + 1 - 7 = 2 * i - 6 by omega, show 6 + 2 * (i - 3) = 2 * i by omega, show 7 + 2 * (i - 3) = 2 * i + 1 by omega]
          have hrr : ∀ t, t < 2 * 1 → (fun t => r (2 * 1 * (i - 3) + t)) t = (fun t => x (2 * i - 6 + t)) t := fun t ht => by
            show r (2 * 1 * (i - 3) + t) = x (2 * i - 6 + t)
            rw [show 2 * 1 * (i - 3) = 2 * i - 6 by omega]; exact i1 _ (by omega)
          exact ⟨qA_c hrr (by omega), qB_c hrr (by omega)⟩
  · rintro r b a f ⟨i1, i2⟩
    refine ⟨nI_pos (by omega), h3, ?_⟩
    rintro _ rfl
    refine h _ _ _ _ _ (fun i hi => ?_) (fun j hj => ?_) (fun j hj => ?_)
    · have h5 := i2 i hi
      have c0 : ck 0 = 0 := rfl
      unfold nk at h5
      rw [c0, if_pos (Nat.zero_le _), if_pos (Nat.zero_le _)] at h5
      exact h5
    · rw [pk_cpy_in (by omega) (by omega), Nat.zero_add, show to + j - to = j by omega]; exact i1 j hj
    · rw [pk_cpy_out (by omega)]
