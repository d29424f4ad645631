/-! pure part 32: the bands of a CODE are joined, blended -/
theorem jpM_hi {m x : Nat → Int32} {i : Nat} (h : 6 ≤ i) : jpM m x i = if i % 2 = 0 then qA (m i) (m (i + 1)) (fun t => x (i - 6 + t)) 1 1 else qB (m i) (fun t => x (i - 7 + t)) 1 1 := by
  unfold jpM; rw [if_neg (by omega), if_neg (by omega), if_neg (by omega), if_neg (by omega), if_neg (by omega), if_neg (by omega)]
theorem jp_c {m m' x x' : Nat → Int32} (hm : ∀ i, i < 14 → m i = m' i) (hx : ∀ j, j < 8 → x j = x' j) : (∀ j, j < 8 → jp3 m x j = jp3 m' x' j) ∧ (∀ i, i < 14 → jpM m x i = jpM m' x' i) := by
  have hx2 : ∀ a, a + 2 ≤ 8 → ∀ t, t < 2 * 1 → (fun t => x (a + t)) t = (fun t => x' (a + t)) t := fun a ha t ht => hx (a + t) (by omega)
  have h1 : ∀ j, j < 8 → jp1 m x j = jp1 m' x' j := by
    intro j hj; unfold jp1; rw [hm (6 + 2 * (j / 2)) (by omega), hm (7 + 2 * (j / 2)) (by omega)]
    by_cases q : j % 2 = 0
    · rw [if_pos q, if_pos q]; exact qE_c (hx2 _ (by omega)) (by omega)
    · rw [if_neg q, if_neg q]; exact qO_c (hx2 _ (by omega)) (by omega)
  have h1a : ∀ t, t < 2 * 2 → jp1 m x t = jp1 m' x' t := fun t ht => h1 t (by omega)
  have h1b : ∀ t, t < 2 * 2 → (fun t => jp1 m x (4 + t)) t = (fun t => jp1 m' x' (4 + t)) t := fun t ht => h1 (4 + t) (by omega)
  have h2 : ∀ j, j < 8 → jp2 m x j = jp2 m' x' j := by
    intro j hj; unfold jp2; rw [hm 2 (by omega), hm 3 (by omega), hm 4 (by omega), hm 5 (by omega)]
    by_cases h4 : j < 4
    · rw [if_pos h4, if_pos h4]
      by_cases q : j % 2 = 0
      · rw [if_pos q, if_pos q]; exact qE_c h1a (by omega)
      · rw [if_neg q, if_neg q]; exact qO_c h1a (by omega)
    · rw [if_neg h4, if_neg h4]
      by_cases q : j % 2 = 0
      · rw [if_pos q, if_pos q]; exact qE_c h1b (by omega)
      · rw [if_neg q, if_neg q]; exact qO_c h1b (by omega)
  have h2a : ∀ t, t < 2 * 4 → jp2 m x t = jp2 m' x' t := fun t ht => h2 t (by omega)
  refine ⟨fun j hj => ?_, fun i hi => ?_⟩
  · unfold jp3; rw [hm 0 (by omega), hm 1 (by omega)]
    by_cases q : j % 2 = 0
    · rw [if_pos q, if_pos q]; exact qE_c h2a (by omega)
    · rw [if_neg q, if_neg q]; exact qO_c h2a (by omega)
  · by_cases h6 : i < 6
    · have hi6 : i = 0 ∨ i = 1 ∨ i = 2 ∨ i = 3 ∨ i = 4 ∨ i = 5 := by omega
      rcases hi6 with rfl | rfl | rfl | rfl | rfl | rfl
      · rw [jpM_0, jpM_0, hm 0 (by omega), hm 1 (by omega)]; exact qA_c h2a (by omega)
      · rw [jpM_1, jpM_1, hm 1 (by omega)]; exact qB_c h2a (by omega)
      · rw [jpM_2, jpM_2, hm 2 (by omega), hm 3 (by omega)]; exact qA_c h1a (by omega)
      · rw [jpM_3, jpM_3, hm 3 (by omega)]; exact qB_c h1a (by omega)
      · rw [jpM_4, jpM_4, hm 4 (by omega), hm 5 (by omega)]; exact qA_c h1b (by omega)
      · rw [jpM_5, jpM_5, hm 5 (by omega)]; exact qB_c h1b (by omega)
    · rw [jpM_hi (by omega), jpM_hi (by omega)]
      by_cases q : i % 2 = 0
      · rw [if_pos q, if_pos q, hm i hi, hm (i + 1) (by omega)]; exact qA_c (hx2 _ (by omega)) (by omega)
      · rw [if_neg q, if_neg q, hm i hi]; exact qB_c (hx2 _ (by omega)) (by omega)
def memJ (m : Nat → Int32) (X : Nat → Nat → Int32) : Nat → Nat → Int32
  | 0 => m
  | k + 1 => jpM (memJ m X k) (X k)
def jnF (m : Nat → Int32) (X : Nat → Nat → Int32) (i : Nat) : Int32 := jp3 (memJ m X (i / 8)) (X (i / 8)) (i % 8)
def hrF (m : Nat → Int32) (X : Nat → Nat → Int32) (i : Nat) : Int32 := near (jnF m X i) (-2048) 2047
theorem memJ_c {m m' : Nat → Int32} {X X' : Nat → Nat → Int32} (hm : ∀ i, i < 14 → m i = m' i) : ∀ n, (∀ k, k < n → ∀ j, j < 8 → X k j = X' k j) → ∀ i, i < 14 → memJ m X n i = memJ m' X' n i
  | 0, _ => hm
  | n + 1, h => by
    rw [memJ, memJ]
    exact (jp_c (memJ_c hm n (fun k hk => h k (by omega))) (h n (by omega))).2
theorem hrF_c {m m' : Nat → Int32} {X X' : Nat → Nat → Int32} {i : Nat} (hm : ∀ i, i < 14 → m i = m' i) (h : ∀ k, k < 4 → ∀ j, j < 8 → X k j = X' k j) (hi : i < 32) : hrF m X i = hrF m' X' i := by
  unfold hrF jnF
  rw [(jp_c (memJ_c hm (i / 8) (fun k hk => h k (by omega))) (h (i / 8) (by omega))).1 _ (by omega)]
theorem near_r (v : Int32) : -2048 ≤ (near v (-2048) 2047).toInt ∧ (near v (-2048) 2047).toInt ≤ 2047 := by
  unfold near
  have e1 : ((-2048 : Int32)).toInt = -2048 := by decide
  have e2 : ((2047 : Int32)).toInt = 2047 := by decide
  by_cases a : (-2048 : Int32) ≤ v
  · rw [if_pos a]
    have a2 := (fa_le (-2048) v).mp a
    rw [e1] at a2
    by_cases b : v ≤ 2047
    · rw [if_pos b]
      have b2 := (fa_le v 2047).mp b
      rw [e2] at b2
      exact ⟨a2, b2⟩
    · rw [if_neg b, e2]; decide
  · rw [if_neg a, e1]; decide
set_option maxHeartbeats 4000000 in
set_option maxRecDepth 100000 in
theorem t3_hearBands {ch : Nat} {tw : Int32} {V : Nat → Nat → Int32} {p1 row A B next fresh m : Nat → Int32} {post : (Nat → Int32) → (Nat → Int32) → (Nat → Int32) → (Nat → Int32) → (Nat → Int32) → Prop} (hch : ch < 2) (hm : ∀ i, i < 7 → A i = m (2 * i) ∧ B i = m (2 * i + 1)) (hp : ∀ c, c < 16 → ∀ b, b < 4 → p1 (16 * b + c) = rjF tw V c b)
    (h : ∀ row' A' B' next' fresh' : Nat → Int32, (∀ i, i < 7 → A' i = memJ m (fun k j => rjF tw V (8 * ch + j) k) 4 (2 * i) ∧ B' i = memJ m (fun k j => rjF tw V (8 * ch + j) k) 4 (2 * i + 1)) → (∀ i, i < 32 → fresh' i = hrF m (fun k j => rjF tw V (8 * ch + j) k) i) → post row' B' A' next' fresh') : wp_X3_hearBands 64 (nI ch) p1 row B A next fresh post := by
  unfold wp_X3_hearBands
  generalize hX : (fun k j => rjF tw V (8 * ch + j) k) = X at h
  have hXe : ∀ k j, rjF tw V (8 * ch + j) k = X k j := fun k j => by rw [← hX]
  rintro _ rfl
  refine cinv5 0 4 (fun k _ b a _ f => (∀ i, i < 7 → a i = memJ m X k (2 * i) ∧ b i = memJ m X k (2 * i + 1)) ∧ ∀ i, i < 8 * k → f i = jnF m X i) ⟨hm, fun i hi => absurd hi (Nat.not_lt_zero _)⟩ ?_ ?_
  · rintro k r b a n f - hk ⟨i1, i2⟩ g hg
    simp (disch := omega) only [lM, nI_add]
    refine t9_joinBlock (x := X k) i1 (fun j hj => ?_) (by omega) (by omega) (by omega) (by omega) (fun r' A' B' n' f' j1 j2 j3 => ?_)
    · rw [← hXe k j, ← hp (8 * ch + j) (by omega) k hk, show 16 * k + 8 * ch + j = 16 * k + (8 * ch + j) by omega]
    · rw [nI_1]
      refine hg _ _ _ _ _ ⟨j1, fun i hi => ?_⟩
      by_cases q : i < 8 * k
      · rw [j3 _ (by omega)]; exact i2 i q
      · have e1 : i / 8 = k := by omega
        unfold jnF
        rw [e1, ← j2 _ (by omega), show 8 * k + i % 8 = i by omega]
  · rintro r b a n f ⟨i1, i2⟩ _ rfl
    refine cinv1 0 32 (fun k e => ∀ i, i < 32 → e i = if i < k then hrF m X i else jnF m X i) (fun i hi => by rw [if_neg (by omega)]; exact i2 i (by omega)) ?_ ?_
    · rintro k e - hk hI g hg
      simp (disch := omega) only [nI_clamp, vpT, true_and, forall_eq]
      refine t_nearS ?_
      rw [nI_1]
      refine hg _ (fun i hi => ?_)
      by_cases q : i = k
      · subst q
        have := hI i hi
        rw [if_neg (by omega)] at this
        rw [pk_us, if_pos (by omega), this]; rfl
      · rw [pk_un q, hI i hi]
        by_cases q2 : i < k
        · rw [if_pos q2, if_pos (by omega)]
        · rw [if_neg q2, if_neg (by omega)]
    · intro e hI
      exact h _ _ _ _ _ i1 (fun i hi => by rw [hI i hi, if_pos hi])
def blF (m f : Nat → Int32) (i : Nat) : Int32 := if i < 8 then ((nI (8 - i) * m i) + (nI i * f i)) >>> ((3 : Int32) &&& 31) else f i
set_option maxHeartbeats 4000000 in
set_option maxRecDepth 100000 in
theorem t3_blend {made fresh : Nat → Int32} {post : (Nat → Int32) → Prop} (h : ∀ f' : Nat → Int32, (∀ i, i < 32 → f' i = blF made fresh i) → post f') : wp_X3_blendWithMade made fresh post := by
  unfold wp_X3_blendWithMade
  rintro _ rfl
  refine cinv1 0 8 (fun k f => ∀ i, f i = if i < k then blF made fresh i else fresh i) (fun i => by rw [if_neg (by omega)]) ?_ ?_
  · rintro k f - hk hI g hg
    simp (disch := omega) only [lS, rA, nI_clamp, vpT, true_and, forall_eq]
    refine hg _ (fun i => ?_)
    by_cases q : i = k
    · subst q
      have := hI i
      rw [if_neg (by omega)] at this
      rw [pk_us, if_pos (by omega), this]; unfold blF; rw [if_pos hk]
    · rw [pk_un q, hI i]
      by_cases q2 : i < k
      · rw [if_pos q2, if_pos (by omega)]
      · rw [if_neg q2, if_neg (by omega)]
  · intro f hI
    refine h _ (fun i hi => ?_)
    rw [hI]
    by_cases q : i < 8
    · rw [if_pos q]
    · rw [if_neg q]; unfold blF; rw [if_neg q]
set_option maxHeartbeats 4000000 in
set_option maxRecDepth 100000 in
theorem t12_blends {made comes : Nat → Int32} {post : (Nat → Int32) → Prop} (h : ∀ f' : Nat → Int32, (∀ c, c < 2 → ∀ i, i < 32 → f' (32 * c + i) = blF (fun i => made (32 * c + i)) (fun i => comes (32 * c + i)) i) → post f') : wp_X12_blends made comes post := by
  unfold wp_X12_blends
  rintro _ rfl
  refine cinv1 0 2 (fun n f => ∀ c, ∀ i, i < 32 → f (32 * c + i) = if c < n then blF (fun i => made (32 * c + i)) (fun i => comes (32 * c + i)) i else comes (32 * c + i)) (fun c i _ => by rw [if_neg (by omega)]) ?_ ?_
  · rintro n f - hn hI g hg _ rfl
    refine cinv1 0 8 (fun k e => ∀ c, ∀ i, i < 32 → e (32 * c + i) = if c = n ∧ i < k then blF (fun i => made (32 * c + i)) (fun i => comes (32 * c + i)) i else f (32 * c + i)) (fun c i _ => by rw [if_neg (by omega)]) ?_ ?_
    · rintro k e - hk hJ g2 hg2
      simp (disch := omega) only [lM, nI_add, lS, nI_clamp, vpT, true_and, forall_eq]
      rw [nI_1]
      refine hg2 _ (fun c i hi => ?_)
      by_cases q : 32 * c + i = 32 * n + k
      · have qc : c = n := by omega
        have qi : i = k := by omega
        subst qc; subst qi
        have h1 := hJ c i hi
        rw [if_neg (by omega), hI c i hi, if_neg (by omega)] at h1
        rw [pk_us, if_pos ⟨rfl, by omega⟩, h1]; unfold blF; rw [if_pos hk]
      · rw [pk_un q, hJ c i hi]
        by_cases q2 : c = n ∧ i < k
        · rw [if_pos q2, if_pos (by omega)]
        · rw [if_neg q2, if_neg (by omega)]
    · intro e hJ
      rw [nI_1]
      refine hg _ (fun c i hi => ?_)
      rw [hJ c i hi]
      by_cases q : c = n
      · subst q
        rw [if_pos (show c < c + 1 by omega)]
        by_cases q8 : i < 8
        · rw [if_pos ⟨rfl, q8⟩]
        · rw [if_neg (by omega), hI c i hi, if_neg (by omega)]; unfold blF; rw [if_neg q8]
      · rw [if_neg (fun y => q y.1), hI c i hi]
        by_cases q2 : c < n
        · rw [if_pos q2, if_pos (by omega)]
        · rw [if_neg q2, if_neg (by omega)]
  · intro f hI
    exact h _ (fun c hc i hi => by rw [hI c i hi, if_pos hc])
theorem blF_c {m m' f f' : Nat → Int32} {i : Nat} (h1 : m i = m' i) (h2 : f i = f' i) : blF m f i = blF m' f' i := by
  unfold blF; rw [h1, h2]
theorem blF_r {m f : Nat → Int32} {i : Nat} (h1 : -2048 ≤ (m i).toInt ∧ (m i).toInt ≤ 2047) (h2 : -2048 ≤ (f i).toInt ∧ (f i).toInt ≤ 2047) : -2048 ≤ (blF m f i).toInt ∧ (blF m f i).toInt ≤ 2047 := by
  unfold blF
  by_cases q : i < 8
  · rw [if_pos q, shr3]
    generalize m i = x at h1; generalize f i = y at h2
    have q8 : i = 0 ∨ i = 1 ∨ i = 2 ∨ i = 3 ∨ i = 4 ∨ i = 5 ∨ i = 6 ∨ i = 7 := by omega
    rcases q8 with rfl | rfl | rfl | rfl | rfl | rfl | rfl | rfl <;> (rw [fb_addI] <;> rw [fb_mulI] <;> (try rw [fb_mulI]) <;> (try rw [nI_toInt (by omega)]) <;> (try rw [nI_toInt (by omega)]) <;> omega)
  · rw [if_neg q]; exact h2
