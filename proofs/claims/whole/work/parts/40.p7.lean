/-! pure part 7: the reference's layCoded, splitFrame -/
theorem tld_l {V : Nat → Nat → Int32} {p : Int32} {n k : Nat} (hn : n < 8) : tld V p n k = if isTw V p n then mid (V n k) (V (8 + n) k) else V n k := by
  unfold tld; rw [show n % 8 = n by omega, if_pos hn]
theorem tld_r {V : Nat → Nat → Int32} {p : Int32} {n k : Nat} (hn : n < 8) : tld V p (8 + n) k = if isTw V p n then V n k - V (8 + n) k else V (8 + n) k := by
  unfold tld; rw [show (8 + n) % 8 = n by omega, if_neg (show ¬ 8 + n < 8 by omega), show 8 + n - 8 = n by omega]
set_option maxHeartbeats 4000000 in
set_option maxRecDepth 100000 in
theorem t12_layCoded {V : Nat → Nat → Int32} {row : Nat → Int32} {post : (Nat → Int32) → Prop} (hV : ∀ c, c < 16 → ∀ k, k < 4 → row (493 + (4 * c + k)) = V c k)
    (h : ∀ row' : Nat → Int32, (∀ c, c < 16 → ∀ k, k < 4 → row' (557 + (4 * c + k)) = tld V (row 9) c k) → (∀ c, c < 16 → row' (621 + c) = nI (scl V (row 9) c)) → row' 653 = tws V (row 9) 7 → (∀ j, (j < 557 ∨ 637 ≤ j) → j ≠ 653 → row' j = row j) → post row') : wp_X12_layCoded row post := by
  unfold wp_X12_layCoded
  generalize hp : row 9 = p at h
  rintro _ rfl _ rfl
  refine cinv1 0 8 (fun n f => f 653 = tws V p n ∧ (∀ c, c < 16 → c % 8 < n → ∀ k, k < 4 → f (557 + (4 * c + k)) = tld V p c k) ∧ (∀ j, (j < 557 ∨ 621 ≤ j) → j ≠ 653 → f j = row j)) ⟨pk_us, fun c _ h0 => absurd h0 (Nat.not_lt_zero _), fun j _ hj => pk_un hj⟩ ?_ ?_
  · rintro n f - hn ⟨i0, i1, i2⟩ g hg k19 hk19 k55 hk55
    have main : ∀ x18 : Int32, (x18 = 0 ∧ ¬ isTw V p n) ∨ (x18 = 1 ∧ isTw V p n) → k19 x18 := by
      intro x18 hx
      refine hk19 _ (fun k23 hk23 => ?_)
      have m2 : ∀ x22 : Int32, x22 = (if isTw V p n then 1 <<< (nI n &&& 31) else 0) → k23 x22 := by
        intro x22 e22
        refine hk23 _ ?_
        rintro _ rfl _ rfl
        have h653 : f 653 ||| x22 = tws V p (n + 1) := by
          rw [i0, e22, tws]
          by_cases q : isTw V p n
          · rw [if_pos q, if_pos q]
          · rw [if_neg q, if_neg q, Int32.or_zero]
        rw [h653]
        refine cinv1 0 4 (fun k f' => (∀ i, i < k → f' (557 + (4 * n + i)) = tld V p n i ∧ f' (557 + (4 * (8 + n) + i)) = tld V p (8 + n) i) ∧ (∀ j, (j < 557 + 4 * n ∨ 561 + 4 * n ≤ j) → (j < 589 + 4 * n ∨ 593 + 4 * n ≤ j) → f' j = upd f 653 (tws V p (n + 1)) j)) ⟨fun i hi => absurd hi (Nat.not_lt_zero _), fun _ _ _ => rfl⟩ ?_ ?_
        · rintro k f' - hk ⟨j1, j2⟩ g28 hg28
          unfold wp_X12_bandAt
          have r0 : f' (493 + (4 * n + k)) = V n k := by
            rw [j2 _ (by omega) (by omega), pk_un (by omega), i2 _ (by omega) (by omega)]; exact hV n (by omega) k hk
          have r1 : f' (493 + (32 + 4 * n + k)) = V (8 + n) k := by
            rw [j2 _ (by omega) (by omega), pk_un (by omega), i2 _ (by omega) (by omega), show 493 + (32 + 4 * n + k) = 493 + (4 * (8 + n) + k) by omega]; exact hV (8 + n) (by omega) k hk
          simp (disch := omega) only [lL, rA, lA, lM, nI_add, nI_clamp, vpT, true_and, forall_eq, Nat.mul_zero, Nat.mul_one, Nat.zero_add, r0, r1]
          intro k41 hk41
          have fin : k41 (tld V p n k) := by
            refine hk41 _ (fun k47 hk47 => ?_)
            have fin2 : k47 (tld V p (8 + n) k) := by
              refine hk47 _ (hg28 _ ⟨fun i hi => ?_, fun j h1 h2 => ?_⟩)
              · by_cases hik : i = k
                · subst hik
                  rw [pk_un (by omega), pk_us, show 557 + (4 * (8 + n) + i) = 557 + (32 + 4 * n + i) by omega, pk_us]; exact ⟨rfl, rfl⟩
                · rw [pk_un (by omega), pk_un (by omega), pk_un (by omega), pk_un (by omega)]; exact j1 i (by omega)
              · rw [pk_un (by omega), pk_un (by omega)]; exact j2 j h1 h2
            rw [tld_r hn] at fin2
            rcases hx with ⟨e, q⟩ | ⟨e, q⟩
            · rw [if_neg q] at fin2
              exact ⟨fun _ => fin2, fun r => absurd e r⟩
            · rw [if_pos q] at fin2
              exact ⟨fun r => by rw [e] at r; exact absurd r (by decide), fun _ => fin2⟩
          rw [tld_l hn] at fin
          rcases hx with ⟨e, q⟩ | ⟨e, q⟩
          · rw [if_neg q] at fin
            exact ⟨fun _ => fin, fun r => absurd e r⟩
          · rw [if_pos q] at fin
            exact ⟨fun r => by rw [e] at r; exact absurd r (by decide), fun _ => fin⟩
        · rintro f' ⟨j1, j2⟩
          rw [nI_1]
          refine hg _ ⟨?_, fun c hc hl k hk => ?_, fun j hj h9 => ?_⟩
          · rw [j2 _ (by omega) (by omega), pk_us]
          · by_cases hcn : c % 8 = n
            · by_cases h8 : c < 8
              · have hc0 : c = n := by omega
                subst hc0; exact (j1 k hk).1
              · have hc0 : c = 8 + n := by omega
                subst hc0; exact (j1 k hk).2
            · rw [j2 _ (by omega) (by omega), pk_un (by omega)]; exact i1 c hc (by omega) k hk
          · rw [j2 _ (by omega) (by omega), pk_un h9]; exact i2 j hj h9
      rcases hx with ⟨e, q⟩ | ⟨e, q⟩
      · rw [if_neg q] at m2
        exact ⟨fun _ => m2 _ rfl, fun r => absurd e r⟩
      · rw [if_pos q] at m2
        exact ⟨fun r => by rw [e] at r; exact absurd r (by decide), fun _ => m2 _ rfl⟩
    have no : ¬ isTw V p n → k55 := fun q => hk55 (main 0 (Or.inl ⟨rfl, q⟩))
    have hVf : ∀ c, c < 16 → ∀ k, k < 4 → f (493 + (4 * c + k)) = V c k := fun c hc k hk => by rw [i2 _ (by omega) (by omega)]; exact hV c hc k hk
    have h9 : f 9 = p := by rw [i2 _ (by omega) (by omega), hp]
    refine ⟨fun q => no (fun r => ?_), fun q => ?_⟩
    · have := (nI_leI (a := 7) (by omega) (by omega)).mp q
      have := r.1
      omega
    · have hn7 : n < 7 := by
        rcases Nat.lt_or_ge n 7 with r | r
        · exact r
        · exact absurd ((nI_leI (a := 7) (by omega) (by omega)).mpr r) q
      rw [h9]
      refine ⟨fun hp1 => ?_, fun hp1 => no (fun r => hp1 r.2.1)⟩
      refine t12_sizes hn hVf 1 ?_
      refine t12_sizes hn hVf 0 ?_
      rw [if_pos (rfl : (0 : Int32) = 0), if_neg (by decide : ¬ (1 : Int32) = 0)]
      exact ⟨fun r => no (fun r2 => r2.2.2 r), fun r => main 1 (Or.inr ⟨rfl, hn7, hp1, r⟩)⟩
  · rintro f ⟨i0, i1, i2⟩ _ rfl
    refine cinv1 0 16 (fun n f' => (∀ c, c < n → f' (621 + c) = nI (scl V p c)) ∧ (∀ j, (j < 621 ∨ 621 + n ≤ j) → f' j = f j)) ⟨fun c hc => absurd hc (Nat.not_lt_zero _), fun _ _ => rfl⟩ ?_ ?_
    · rintro n f' - hn ⟨j1, j2⟩ g hg
      refine t12_scaleOf (t := tld V p n) hn (fun k hk => ?_) ?_
      · rw [j2 _ (by omega)]; exact i1 n hn (by omega) k hk
      · simp (disch := omega) only [rA, lA, nI_clamp, vpT, true_and, forall_eq]
        refine hg _ ⟨fun c hc => ?_, fun j hj => ?_⟩
        · by_cases hcn : c = n
          · subst hcn; rw [pk_us]
          · rw [pk_un (by omega)]; exact j1 c (by omega)
        · rw [pk_un (by omega)]; exact j2 j (by omega)
    · rintro f' ⟨j1, j2⟩
      refine h f' (fun c hc k hk => ?_) j1 ?_ (fun j hj h9 => ?_)
      · rw [j2 _ (by omega)]; exact i1 c hc (by omega) k hk
      · rw [j2 _ (by omega), i0, tws, if_neg (fun q => absurd q.1 (by omega))]
      · rw [j2 _ (by omega)]; exact i2 j (by omega) h9
/-! the SOURCE's FRAME: samples of a CHANNEL, from the n-th on -/
def memS (m : Nat → Int32) (s : Nat → Int32) : Nat → Nat → Int32
  | 0 => m
  | k + 1 => spM (memS m s k) (fun i => s (8 * k + i))
/-- BANDS of BLOCK k -/
def bandS (m s : Nat → Int32) (k : Nat) : Nat → Int32 := sp3 (memS m s k) (fun i => s (8 * k + i))
theorem spM_hi {m x : Nat → Int32} {i : Nat} (h : 6 ≤ i) : spM m x i = if i % 2 = 0 then pA (m i) (fun t => sp2 m x (i - 6 + t)) 1 else pB (m (i - 1)) (m i) (fun t => sp2 m x (i - 7 + t)) 1 := by
  unfold spM
  rw [if_neg (by omega), if_neg (by omega), if_neg (by omega), if_neg (by omega), if_neg (by omega), if_neg (by omega)]
theorem sp_c {m m' x x' : Nat → Int32} (hm : ∀ i, i < 14 → m i = m' i) (hx : ∀ j, j < 8 → x j = x' j) : (∀ j, j < 8 → sp3 m x j = sp3 m' x' j) ∧ (∀ i, i < 14 → spM m x i = spM m' x' i) := by
  have h1 : ∀ j, j < 8 → sp1 m x j = sp1 m' x' j := by
    intro j hj; unfold sp1; rw [hm 0 (by omega), hm 1 (by omega)]
    by_cases h4 : j < 4
    · rw [if_pos h4, if_pos h4]; exact pS_c (n := 4) (fun t ht => hx t (by omega)) h4
    · rw [if_neg h4, if_neg h4]; exact pD_c (n := 4) (fun t ht => hx t (by omega)) (by omega)
  have h1a : ∀ t, t < 2 * 2 → sp1 m x t = sp1 m' x' t := fun t ht => h1 t (by omega)
  have h1b : ∀ t, t < 2 * 2 → (fun t => sp1 m x (4 + t)) t = (fun t => sp1 m' x' (4 + t)) t := fun t ht => h1 (4 + t) (by omega)
  have h2 : ∀ j, j < 8 → sp2 m x j = sp2 m' x' j := by
    intro j hj; unfold sp2; rw [hm 2 (by omega), hm 3 (by omega), hm 4 (by omega), hm 5 (by omega)]
    by_cases h4 : j < 4
    · rw [if_pos h4, if_pos h4]
      by_cases h2 : j < 2
      · rw [if_pos h2, if_pos h2]; exact pS_c h1a (by omega)
      · rw [if_neg h2, if_neg h2]; exact pD_c h1a (by omega)
    · rw [if_neg h4, if_neg h4]
      by_cases h2 : j < 6
      · rw [if_pos h2, if_pos h2]; exact pS_c h1b (by omega)
      · rw [if_neg h2, if_neg h2]; exact pD_c h1b (by omega)
  have h2a : ∀ q, q < 4 → ∀ t, t < 2 * 1 → (fun t => sp2 m x (2 * q + t)) t = (fun t => sp2 m' x' (2 * q + t)) t := fun q hq t ht => h2 (2 * q + t) (by omega)
  refine ⟨fun j hj => ?_, fun i hi => ?_⟩
  · unfold sp3; rw [hm _ (by omega), hm _ (by omega)]
    by_cases h3 : j % 2 = 0
    · rw [if_pos h3, if_pos h3]; exact pS_c (h2a (j / 2) (by omega)) (by omega)
    · rw [if_neg h3, if_neg h3]; exact pD_c (h2a (j / 2) (by omega)) (by omega)
  · by_cases h6 : i < 6
    · have hi6 : i = 0 ∨ i = 1 ∨ i = 2 ∨ i = 3 ∨ i = 4 ∨ i = 5 := by omega
      rcases hi6 with rfl | rfl | rfl | rfl | rfl | rfl
      · rw [spM_0, spM_0, hm 0 (by omega)]; exact pA_c (n := 4) (fun t ht => hx t (by omega)) (by omega)
      · rw [spM_1, spM_1, hm 0 (by omega), hm 1 (by omega)]; exact pB_c (n := 4) (fun t ht => hx t (by omega)) (by omega)
      · rw [spM_2, spM_2, hm 2 (by omega)]; exact pA_c h1a (by omega)
      · rw [spM_3, spM_3, hm 2 (by omega), hm 3 (by omega)]; exact pB_c h1a (by omega)
      · rw [spM_4, spM_4, hm 4 (by omega)]; exact pA_c h1b (by omega)
      · rw [spM_5, spM_5, hm 4 (by omega), hm 5 (by omega)]; exact pB_c h1b (by omega)
    · rw [spM_hi (by omega), spM_hi (by omega)]
      by_cases h2e : i % 2 = 0
      · rw [if_pos h2e, if_pos h2e, hm i hi]
        exact pA_c (n := 1) (fun t ht => h2 (i - 6 + t) (by omega)) (by omega)
      · rw [if_neg h2e, if_neg h2e, hm i hi, hm (i - 1) (by omega)]
        exact pB_c (n := 1) (fun t ht => h2 (i - 7 + t) (by omega)) (by omega)
