/-! pure part 3: blocks, there and back -/
theorem upd4 (f : Nat → Int32) {i j : Nat} (a b c d : Int32) (h : i ≠ j) : upd (upd (upd (upd f i a) j b) i c) j d = upd (upd f i c) j d := by
  funext t; unfold upd
  by_cases h1 : t = j <;> by_cases h2 : t = i <;> simp [h1, h2]
theorem upd2_id (f : Nat → Int32) (i j : Nat) : upd (upd f i (f i)) j (f j) = f := by
  rw [upd_id, upd_id]
set_option maxHeartbeats 4000000 in
set_option maxRecDepth 100000 in
theorem t12_splitRow {np nd fr n : Nat} {S D : Int32} {eight nodes rows : Nat → Int32} {post : Int32 → Int32 → (Nat → Int32) → (Nat → Int32) → (Nat → Int32) → Prop} (hnd : nd + 1 < np) (hnp : np < 2 ^ 31) (hfr : fr + 2 * n ≤ 8)
    (h : ∀ (S' D' : Int32) (rows' eight' : Nat → Int32), (∀ i, i < n → eight' (fr + i) = pS (nodes nd) (nodes (nd + 1)) (fun t => eight (fr + t)) i ∧ eight' (fr + n + i) = pD (nodes nd) (fun t => eight (fr + t)) i) → (∀ j, (j < fr ∨ fr + 2 * n ≤ j) → eight' j = eight j) → post S' D' eight' (upd (upd nodes nd (pA (nodes nd) (fun t => eight (fr + t)) n)) (nd + 1) (pB (nodes nd) (nodes (nd + 1)) (fun t => eight (fr + t)) n)) rows') :
    wp_X12_splitRow np (nI nd) (nI fr) (nI (2 * n)) S D eight nodes rows post := by
  unfold wp_X12_splitRow
  have e2 : nI (2 * n) / 2 = nI n := by rw [rD (by omega) (by omega) (by omega), show 2 * n / 2 = n by omega]
  rintro _ rfl
  simp only [e2, forall_eq]
  refine cinv4 0 n (fun k _ _ a f => a = upd (upd nodes nd (pA (nodes nd) (fun t => eight (fr + t)) k)) (nd + 1) (pB (nodes nd) (nodes (nd + 1)) (fun t => eight (fr + t)) k) ∧ (∀ i, i < k → f (fr + i) = pS (nodes nd) (nodes (nd + 1)) (fun t => eight (fr + t)) i ∧ f (fr + n + i) = pD (nodes nd) (fun t => eight (fr + t)) i)) ⟨(upd2_id _ _ _).symm, fun i hi => absurd hi (Nat.not_lt_zero _)⟩ ?_ ?_
  · rintro k s d a f - hk ⟨rfl, hf⟩ g hg
    unfold wp_X12_splitPair
    simp (disch := omega) only [lA, lM, rA, nI_add, nI_clamp, vpT, true_and, forall_eq, pk_us, pk_un]
    refine hg _ _ _ _ ⟨?_, ?_⟩
    · rw [upd4 _ _ _ _ _ (by omega), pA_s, pB_s, Nat.add_assoc fr]; rfl
    · intro i hi
      by_cases hik : i = k
      · subst hik
        refine ⟨?_, ?_⟩
        · rw [pk_un (by omega), pk_us, Nat.add_assoc fr]; rfl
        · rw [pk_us, Nat.add_assoc fr (2 * i)]; rfl
      · rw [pk_un (by omega), pk_un (by omega), pk_un (by omega), pk_un (by omega)]
        exact hf i (by omega)
  · rintro s d a f ⟨rfl, hf⟩
    simp only [nI_add]
    refine cinv1 fr (fr + 2 * n) (fun k e => ∀ j, e j = if fr ≤ j ∧ j < k then f j else eight j) (fun j => by rw [if_neg (by omega)]) ?_ ?_
    · intro k e hk0 hk hI g hg
      simp (disch := omega) only [rA, nI_clamp, vpT, true_and, forall_eq]
      refine hg _ (fun j => ?_)
      by_cases hj : j = k
      · subst hj; rw [pk_us, if_pos (by omega)]
      · rw [pk_un hj, hI j]
        by_cases h2 : fr ≤ j ∧ j < k
        · rw [if_pos h2, if_pos (by omega)]
        · rw [if_neg h2, if_neg (by omega)]
    · intro e hI
      refine h _ _ _ e (fun i hi => ?_) (fun j hj => ?_)
      · rw [hI, hI, if_pos (by omega), if_pos (by omega)]; exact hf i hi
      · rw [hI, if_neg (by omega)]
def sp1 (m x : Nat → Int32) : Nat → Int32 := fun j => if j < 4 then pS (m 0) (m 1) x j else pD (m 0) x (j - 4)
def sp2 (m x : Nat → Int32) : Nat → Int32 := fun j => if j < 4 then (if j < 2 then pS (m 2) (m 3) (sp1 m x) j else pD (m 2) (sp1 m x) (j - 2)) else (if j < 6 then pS (m 4) (m 5) (fun t => sp1 m x (4 + t)) (j - 4) else pD (m 4) (fun t => sp1 m x (4 + t)) (j - 6))
def sp3 (m x : Nat → Int32) : Nat → Int32 := fun j => if j % 2 = 0 then pS (m (6 + 2 * (j / 2))) (m (7 + 2 * (j / 2))) (fun t => sp2 m x (2 * (j / 2) + t)) 0 else pD (m (6 + 2 * (j / 2))) (fun t => sp2 m x (2 * (j / 2) + t)) 0
def spM (m x : Nat → Int32) : Nat → Int32 := fun i => if i = 0 then pA (m 0) x 4 else if i = 1 then pB (m 0) (m 1) x 4 else if i = 2 then pA (m 2) (sp1 m x) 2 else if i = 3 then pB (m 2) (m 3) (sp1 m x) 2 else if i = 4 then pA (m 4) (fun t => sp1 m x (4 + t)) 2 else if i = 5 then pB (m 4) (m 5) (fun t => sp1 m x (4 + t)) 2
  else if i % 2 = 0 then pA (m i) (fun t => sp2 m x (i - 6 + t)) 1 else pB (m (i - 1)) (m i) (fun t => sp2 m x (i - 7 + t)) 1
theorem spM_0 (m x : Nat → Int32) : spM m x 0 = pA (m 0) x 4 := by simp [spM]
theorem spM_1 (m x : Nat → Int32) : spM m x 1 = pB (m 0) (m 1) x 4 := by simp [spM]
theorem spM_2 (m x : Nat → Int32) : spM m x 2 = pA (m 2) (sp1 m x) 2 := by simp [spM]
theorem spM_3 (m x : Nat → Int32) : spM m x 3 = pB (m 2) (m 3) (sp1 m x) 2 := by simp [spM]
theorem spM_4 (m x : Nat → Int32) : spM m x 4 = pA (m 4) (fun t => sp1 m x (4 + t)) 2 := by simp [spM]
theorem spM_5 (m x : Nat → Int32) : spM m x 5 = pB (m 4) (m 5) (fun t => sp1 m x (4 + t)) 2 := by simp [spM]
set_option maxHeartbeats 4000000 in
set_option maxRecDepth 100000 in
theorem t12_splitBlock {np at_ : Nat} {S D : Int32} {eight nodes rows : Nat → Int32} {post : Int32 → Int32 → (Nat → Int32) → (Nat → Int32) → (Nat → Int32) → Prop} (hat : at_ + 14 ≤ np) (hnp : np < 2 ^ 31)
    (h : ∀ (S' D' : Int32) (rows' eight' nodes' : Nat → Int32), (∀ j, j < 8 → eight' j = sp3 (fun i => nodes (at_ + i)) eight j) → (∀ i, i < 14 → nodes' (at_ + i) = spM (fun i => nodes (at_ + i)) eight i) → (∀ j, (j < at_ ∨ at_ + 14 ≤ j) → nodes' j = nodes j) → post S' D' eight' nodes' rows') :
    wp_X12_splitBlock np (nI at_) S D eight nodes rows post := by
  unfold wp_X12_splitBlock
  generalize hm : (fun i => nodes (at_ + i)) = m at h
  have hmi : ∀ i, nodes (at_ + i) = m i := fun i => by rw [← hm]
  refine t12_splitRow (n := 4) (fr := 0) (by omega) hnp (by omega) (fun S1 D1 r1 e1 he1 ho1 => ?_)
  simp only [Nat.zero_add, hmi, show nodes at_ = m 0 from hmi 0] at he1 ho1 ⊢
  have hE1 : ∀ j, j < 8 → e1 j = sp1 m eight j := by
    intro j hj; unfold sp1
    by_cases h4 : j < 4
    · rw [if_pos h4]; exact (he1 j h4).1
    · rw [if_neg h4]
      have h5 := (he1 (j - 4) (by omega)).2
      rwa [show 4 + (j - 4) = j by omega] at h5
  rw [rA]
  refine t12_splitRow (n := 2) (fr := 0) (by omega) hnp (by omega) (fun S2 D2 r2 e2 he2 ho2 => ?_)
  simp (disch := omega) only [Nat.zero_add, Nat.add_assoc, pk_un, hmi] at he2 ho2 ⊢
  rw [rA]
  refine t12_splitRow (n := 2) (fr := 4) (by omega) hnp (by omega) (fun S3 D3 r3 e3 he3 ho3 => ?_)
  simp (disch := omega) only [Nat.add_assoc, pk_un, hmi] at he3 ho3 ⊢
  have hE3 : ∀ j, j < 8 → e3 j = sp2 m eight j := by
    intro j hj; unfold sp2
    by_cases h4 : j < 4
    · rw [if_pos h4, ho3 j (by omega)]
      by_cases h2 : j < 2
      · rw [if_pos h2, (he2 j h2).1]; exact pS_c (n := 2) (fun t ht => hE1 t (by omega)) h2
      · rw [if_neg h2]
        have h5 := (he2 (j - 2) (by omega)).2
        rw [show 2 + (j - 2) = j by omega] at h5
        rw [h5]; exact pD_c (n := 2) (fun t ht => hE1 t (by omega)) (by omega)
    · rw [if_neg h4]
      have hc : ∀ t, t < 2 * 2 → (fun t => e2 (4 + t)) t = (fun t => sp1 m eight (4 + t)) t := fun t ht => by
        show e2 (4 + t) = sp1 m eight (4 + t)
        rw [ho2 _ (by omega)]; exact hE1 _ (by omega)
      by_cases h6 : j < 6
      · rw [if_pos h6]
        have h5 := (he3 (j - 4) (by omega)).1
        rw [show 4 + (j - 4) = j by omega] at h5
        rw [h5]; exact pS_c hc (by omega)
      · rw [if_neg h6]
        have h5 := (he3 (j - 6) (by omega)).2
        rw [show 4 + (2 + (j - 6)) = j by omega] at h5
        rw [h5]; exact pD_c hc (by omega)
  -- the memories of nodes 1 to 3
  generalize hN3 : upd (upd (upd (upd (upd (upd nodes at_ _) (at_ + 1) _) (at_ + 2) _) (at_ + 3) _) (at_ + 4) _) (at_ + 5) _ = N3
  have hN3o : ∀ j, (j < at_ ∨ at_ + 6 ≤ j) → N3 j = nodes j := fun j hj => by
    rw [← hN3]; simp (disch := omega) only [pk_un]
  have hc2 : ∀ t, t < 2 * 2 → e1 t = sp1 m eight t := fun t ht => hE1 t (by omega)
  have hc3 : ∀ t, t < 2 * 2 → (fun t => e2 (4 + t)) t = (fun t => sp1 m eight (4 + t)) t := fun t ht => by
    show e2 (4 + t) = sp1 m eight (4 + t)
    rw [ho2 _ (by omega)]; exact hE1 _ (by omega)
  have hN3i : ∀ i, i < 6 → N3 (at_ + i) = spM m eight i := by
    intro i hi
    rw [← hN3]
    have hi6 : i = 0 ∨ i = 1 ∨ i = 2 ∨ i = 3 ∨ i = 4 ∨ i = 5 := by omega
    rcases hi6 with rfl | rfl | rfl | rfl | rfl | rfl
    · rw [spM_0]; simp (disch := omega) only [Nat.add_zero, pk_un, pk_us]
    · rw [spM_1]; simp (disch := omega) only [pk_un, pk_us]
    · rw [spM_2]; simp (disch := omega) only [pk_un, pk_us]; exact pA_c hc2 (by omega)
    · rw [spM_3]; simp (disch := omega) only [pk_un, pk_us]; exact pB_c hc2 (by omega)
    · rw [spM_4]; simp (disch := omega) only [pk_un, pk_us]; exact pA_c hc3 (by omega)
    · rw [spM_5]; simp (disch := omega) only [pk_un, pk_us]; exact pB_c hc3 (by omega)
  clear hN3
  rintro _ rfl
  refine cinv5 0 4 (fun k _ _ e nd _ => (∀ j, j < 2 * k → e j = sp3 m eight j) ∧ (∀ j, 2 * k ≤ j → j < 8 → e j = sp2 m eight j) ∧ (∀ i, i < 6 + 2 * k → nd (at_ + i) = spM m eight i) ∧ (∀ j, (j < at_ ∨ at_ + (6 + 2 * k) ≤ j) → nd j = nodes j)) ⟨fun j hj => absurd hj (by omega), fun j _ hj => hE3 j hj, fun i hi => hN3i i (by omega), hN3o⟩ ?_ ?_
  · rintro k s d e nd r - hk ⟨i1, i2, i3, i4⟩ g hg
    simp only [rA, lM, nI_add]
    refine t12_splitRow (n := 1) (by omega) hnp (by omega) (fun S4 D4 r4 e4 he4 ho4 => ?_)
    refine hg _ _ _ _ _ ?_
    have hx : ∀ t, t < 2 * 1 → (fun t => e (2 * k + t)) t = (fun t => sp2 m eight (2 * k + t)) t := fun t ht => i2 _ (by omega) (by omega)
    have ha : nd (at_ + 6 + 2 * k) = m (6 + 2 * k) := by rw [i4 _ (by omega), Nat.add_assoc]; exact hmi _
    have hb : nd (at_ + 6 + 2 * k + 1) = m (7 + 2 * k) := by rw [i4 _ (by omega), show at_ + 6 + 2 * k + 1 = at_ + (7 + 2 * k) by omega]; exact hmi _
    rw [ha, hb] at he4 ⊢
    refine ⟨fun j hj => ?_, fun j hj hj8 => ?_, fun i hi => ?_, fun j hj => ?_⟩
    · by_cases hl : j < 2 * k
      · rw [ho4 j (by omega)]; exact i1 j hl
      · by_cases h0 : j = 2 * k
        · subst h0
          have h5 := (he4 0 (by omega)).1
          rw [Nat.add_zero] at h5
          rw [h5]; unfold sp3
          rw [if_pos (by omega), show 2 * k / 2 = k by omega]
          exact pS_c hx (by omega)
        · have h1 : j = 2 * k + 1 := by omega
          subst h1
          have h5 := (he4 0 (by omega)).2
          rw [Nat.add_zero] at h5
          rw [h5]; unfold sp3
          rw [if_neg (by omega), show (2 * k + 1) / 2 = k by omega]
          exact pD_c hx (by omega)
    · rw [ho4 j (by omega)]; exact i2 j (by omega) hj8
    · by_cases hl : i < 6 + 2 * k
      · rw [pk_un (by omega), pk_un (by omega)]; exact i3 i hl
      · by_cases h0 : i = 6 + 2 * k
        · subst h0
          rw [pk_un (by omega), show at_ + (6 + 2 * k) = at_ + 6 + 2 * k by omega, pk_us]
          unfold spM
          rw [if_neg (by omega), if_neg (by omega), if_neg (by omega), if_neg (by omega), if_neg (by omega), if_neg (by omega), if_pos (by omega), show 6 + 2 * k - 6 = 2 * k by omega]
          exact pA_c hx (by omega)
        · have h1 : i = 7 + 2 * k := by omega
          subst h1
          rw [show at_ + (7 + 2 * k) = at_ + 6 + 2 * k + 1 by omega, pk_us]
          unfold spM
          rw [if_neg (by omega), if_neg (by omega), if_neg (by omega), if_neg (by omega), if_neg (by omega), if_neg (by omega), if_neg (by omega), show 7 + 2 * k - 7 = 2 * k by omega, show 7 + 2 * k - 1 = 6 + 2 * k by omega]
          exact pB_c hx (by omega)
    · rw [pk_un (by omega), pk_un (by omega)]; exact i4 j (by omega)
  · rintro s d e nd r ⟨i1, i2, i3, i4⟩
    exact h _ _ _ _ _ (fun j hj => i1 j (by omega)) (fun i hi => i3 i (by omega)) (fun j hj => i4 j (by omega))
