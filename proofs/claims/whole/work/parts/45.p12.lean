/-! pure part 12: the CODE of a FRAME -/
def hdB (b1 P tw : Int32) : Nat → Int32 := upd (upd (upd (upd (fun _ => 0) 0 156) 1 b1) 2 P) 4 tw
def scB (f : Nat → Int32) (sc : Nat → Nat) : Nat → Nat → Int32
  | 0 => f
  | i + 1 => putF (nI (sc i)) 4 (40 + 4 * i) (scB f sc i)
def posQ (bt : Nat → Nat) (i : Nat) : Nat := 104 + fb_sm (fun j => bt (j % 16)) i
def qtB (f : Nat → Int32) (q bt : Nat → Nat) : Nat → Nat → Int32
  | 0 => f
  | i + 1 => putF (nI (q i)) (bt (i % 16)) (posQ bt i) (qtB f q bt i)
def cdB (b1 P tw : Int32) (sc q bt : Nat → Nat) : Nat → Int32 := qtB (scB (hdB b1 P tw) sc 16) q bt 64
def cdZ (bt : Nat → Nat) : Nat := 13 + (4 * fb_sm bt 16 + 7) / 8
def cdF (b1 P tw : Int32) (sc q bt : Nat → Nat) : Nat → Int32 := upd (cdB b1 P tw sc q bt) 3 (chk (cdB b1 P tw sc q bt) (cdZ bt))
abbrev qI (T : Nat → Nat → Int32) (sc bt : Nat → Nat) (i : Nat) : Nat := qN (T (i % 16) (i / 16)) (sc (i % 16)) (bt (i % 16))
theorem posQ_s (bt : Nat → Nat) (i : Nat) : posQ bt (i + 1) = posQ bt i + bt (i % 16) := by
  unfold posQ; rw [fb_sm_succ]; omega
theorem posQ_m (bt : Nat → Nat) {i j : Nat} (h : i ≤ j) : posQ bt i ≤ posQ bt j := by
  unfold posQ
  have := fb_sm_mono (fun j => bt (j % 16)) i (j - i)
  rw [show i + (j - i) = j by omega] at this
  omega
theorem posQ_64 (bt : Nat → Nat) : posQ bt 64 = 104 + 4 * fb_sm bt 16 := by
  have per : ∀ n, fb_sm (fun j => bt (j % 16)) (16 + n) = fb_sm bt 16 + fb_sm (fun j => bt (j % 16)) n := by
    intro n
    have a1 : fb_sm (fun j => bt (j % 16)) 16 = fb_sm bt 16 := fb_sm_cong (fun k hk => by rw [Nat.mod_eq_of_lt hk])
    have a2 : fb_sm (fun k => bt ((16 + k) % 16)) n = fb_sm (fun j => bt (j % 16)) n := fb_sm_cong (fun k _ => by rw [show (16 + k) % 16 = k % 16 by omega])
    rw [fb_sm_split, a1]; exact congrArg _ a2
  have h1 := per 48
  have h2 := per 32
  have h3 := per 16
  have h4 := per 0
  simp only [Nat.reduceAdd, Nat.add_zero] at h1 h2 h3 h4
  have h0 : fb_sm (fun j => bt (j % 16)) 0 = 0 := rfl
  unfold posQ; omega
theorem cdZ_pos (bt : Nat → Nat) : posQ bt 64 ≤ 8 * cdZ bt ∧ (posQ bt 64 + 7) / 8 = cdZ bt := by
  rw [posQ_64]; unfold cdZ; omega
theorem cdZ_le {bt : Nat → Nat} (h : fb_sm bt 16 ≤ 128) : 13 ≤ cdZ bt ∧ cdZ bt ≤ 77 := by unfold cdZ; omega
theorem putS_hi {v : Int32} {w a Z : Nat} {f : Nat → Int32} : ∀ n, a + n ≤ 8 * Z → ∀ j, Z ≤ j → putS v w a f n j = f j
  | 0, _ => fun _ _ => rfl
  | n + 1, h => fun j hj => by
    rw [putS, setb, pk_un (by omega)]; exact putS_hi n (by omega) j hj
theorem scB_hi {f : Nat → Int32} {sc : Nat → Nat} : ∀ i, i ≤ 16 → ∀ j, 13 ≤ j → scB f sc i j = f j
  | 0, _ => fun _ _ => rfl
  | i + 1, h => fun j hj => by
    rw [scB, putF, putS_hi (Z := 13) 4 (by omega) j hj]; exact scB_hi i (by omega) j hj
theorem qtB_hi {f : Nat → Int32} {q bt : Nat → Nat} : ∀ i, i ≤ 64 → ∀ j, cdZ bt ≤ j → qtB f q bt i j = f j
  | 0, _ => fun _ _ => rfl
  | i + 1, h => fun j hj => by
    have h1 := posQ_s bt i
    have h2 := posQ_m bt h
    have h3 := (cdZ_pos bt).1
    rw [qtB, putF, putS_hi (Z := cdZ bt) _ (by omega) j hj]; exact qtB_hi i (by omega) j hj
theorem hdB_by {b1 P tw : Int32} (h1 : ∃ n, n < 256 ∧ b1 = nI n) (h2 : ∃ n, n < 256 ∧ P = nI n) (h3 : ∃ n, n < 256 ∧ tw = nI n) (N : Nat) : isBy (hdB b1 P tw) N := by
  intro j _
  unfold hdB
  by_cases a4 : j = 4
  · rw [a4, pk_us]; exact h3
  · rw [pk_un a4]
    by_cases a2 : j = 2
    · rw [a2, pk_us]; exact h2
    · rw [pk_un a2]
      by_cases a1 : j = 1
      · rw [a1, pk_us]; exact h1
      · rw [pk_un a1]
        by_cases a0 : j = 0
        · rw [a0, pk_us]; exact ⟨156, by decide, rfl⟩
        · rw [pk_un a0]; exact ⟨0, by decide, rfl⟩
theorem scB_by {f : Nat → Int32} {sc : Nat → Nat} {N : Nat} (h : isBy f N) : ∀ i, isBy (scB f sc i) N
  | 0 => h
  | i + 1 => putS_by (scB_by h i) 4
theorem qtB_by {f : Nat → Int32} {q bt : Nat → Nat} {N : Nat} (h : isBy f N) : ∀ i, isBy (qtB f q bt i) N
  | 0 => h
  | i + 1 => putS_by (qtB_by h i) _
theorem cdF_by {b1 P tw : Int32} {sc q bt : Nat → Nat} (h1 : ∃ n, n < 256 ∧ b1 = nI n) (h2 : ∃ n, n < 256 ∧ P = nI n) (h3 : ∃ n, n < 256 ∧ tw = nI n) (N : Nat) : isBy (cdF b1 P tw sc q bt) N := by
  intro j hj
  unfold cdF
  by_cases a3 : j = 3
  · rw [a3, pk_us]; exact chk_by _ _
  · rw [pk_un a3]; exact qtB_by (scB_by (hdB_by h1 h2 h3 N) 16) 64 j hj
theorem cdF_hi {b1 P tw : Int32} {sc q bt : Nat → Nat} {j : Nat} (hj : cdZ bt ≤ j) : cdF b1 P tw sc q bt j = 0 := by
  have h13 : 13 ≤ cdZ bt := by unfold cdZ; omega
  unfold cdF cdB
  rw [pk_un (by omega), qtB_hi 64 (by omega) j hj, scB_hi 16 (by omega) j (by omega)]
  unfold hdB
  rw [pk_un (by omega), pk_un (by omega), pk_un (by omega), pk_un (by omega)]
/-- the first five bytes aren't touched by the bits behind -/
theorem putS_lo {v : Int32} {w a : Nat} {f : Nat → Int32} {j : Nat} (hj : 8 * (j + 1) ≤ a) : ∀ n, putS v w a f n j = f j
  | 0 => rfl
  | n + 1 => by rw [putS, setb, pk_un (by omega)]; exact putS_lo hj n
theorem scB_lo {f : Nat → Int32} {sc : Nat → Nat} {j : Nat} (hj : j < 5) : ∀ i, scB f sc i j = f j
  | 0 => rfl
  | i + 1 => by rw [scB, putF, putS_lo (by omega)]; exact scB_lo hj i
theorem qtB_lo {f : Nat → Int32} {q bt : Nat → Nat} {j : Nat} (hj : j < 5) : ∀ i, qtB f q bt i j = f j
  | 0 => rfl
  | i + 1 => by
    have : 104 ≤ posQ bt i := by unfold posQ; omega
    rw [qtB, putF, putS_lo (by omega)]; exact qtB_lo hj i
theorem cdF_lo {b1 P tw : Int32} {sc q bt : Nat → Nat} {j : Nat} (hj : j < 5) (h3 : j ≠ 3) : cdF b1 P tw sc q bt j = hdB b1 P tw j := by
  unfold cdF cdB
  rw [pk_un h3, qtB_lo hj, scB_lo hj]
theorem t4_bitsOf {c : Nat} {bt : Nat → Nat} {bits : Nat → Int32} {post : Int32 → Prop} (hc : c < 2) (hb : ∀ i, i < 16 → bits i = nI (bt i)) (h : post (nI (fb_sm (fun i => bt (8 * c + i)) 8))) : wp_X4_bitsOf (nI c) bits post := by
  unfold wp_X4_bitsOf
  rintro _ rfl _ rfl
  refine cinv1 0 8 (fun k s => s = nI (fb_sm (fun i => bt (8 * c + i)) k)) rfl ?_ ?_
  · rintro k _ - hk rfl g hg
    simp (disch := omega) only [rA, rM, nI_add, nI_clamp, vpT, true_and, forall_eq]
    rw [show c * 8 + k = 8 * c + k by omega, hb _ (by omega), nI_add]
    exact hg _ rfl
  · rintro _ rfl; exact h
theorem sm_16 (bt : Nat → Nat) : fb_sm (fun i => bt (8 * 0 + i)) 8 + fb_sm (fun i => bt (8 * 1 + i)) 8 = fb_sm bt 16 := by
  have := fb_sm_split bt 8 8
  simp only [Nat.mul_zero, Nat.zero_add, Nat.mul_one]
  rw [show (16 : Nat) = 8 + 8 from rfl, this]
theorem t1_bytesFor {n : Nat} {post : Int32 → Prop} (hn : n < 1000) (h : post (nI (13 + (4 * n + 7) / 8))) : wp_X1_bytesFor (nI n) post := by
  unfold wp_X1_bytesFor
  simp (disch := omega) only [rA, rM, rD, lA, forall_eq]
  rw [show n * 4 = 4 * n by omega]; exact h
theorem t1_put8 {n j sz : Nat} {f : Nat → Int32} {post : Int32 → (Nat → Int32) → Prop} (hn : n < 256) (h0 : f j = 0) (hj : j < sz) (hz : sz ≤ 80) (h : post (nI (8 * (j + 1))) (upd f j (nI n))) : wp_X1_put (nI n) 8 (nI sz) (nI (8 * j)) f post := by
  refine t1_put (w := 8) (by omega) (by omega) hz ?_
  rw [putF_8 hn h0, show 8 * j + 8 = 8 * (j + 1) by omega]; exact h
set_option maxHeartbeats 4000000 in
set_option maxRecDepth 100000 in
theorem t1_write {k pa me P t : Nat} {sz0 at0 : Int32} {by0 bits scales quants : Nat → Int32} {sc bt q : Nat → Nat} {post : Int32 → Int32 → (Nat → Int32) → Prop} (hk : k < 100000) (hpa : pa ≤ 1) (hme : me ≤ 1) (hP : P < 256) (ht : t < 256) (hs : ∀ i, i < 16 → scales i = nI (sc i)) (hb : ∀ i, i < 16 → bits i = nI (bt i)) (hb16 : ∀ i, i < 16 → bt i ≤ 16) (hq : ∀ i, i < 64 → quants i = nI (q i)) (hsum : fb_sm bt 16 ≤ 128)
    (h : ∀ (a : Int32) (by' : Nat → Int32), (∀ j, j < 80 → by' j = cdF (nI (128 * me + 64 * pa + k % 64)) (nI P) (nI t) sc q bt j) → post (nI (cdZ bt)) a by') : wp_X1_write (nI k) (nI pa) sz0 at0 by0 (nI t) (nI me) (nI P) bits scales quants post := by
  have hZ := cdZ_le hsum
  have hZp := cdZ_pos bt
  unfold wp_X1_write
  refine t_fill ?_
  refine t4_bitsOf (c := 0) (by omega) hb ?_
  refine t4_bitsOf (c := 1) (by omega) hb ?_
  rw [nI_add, sm_16]
  refine t1_bytesFor (by omega) ?_
  have e80 : jmin 80 (nI (13 + (4 * fb_sm bt 16 + 7) / 8)) = nI (cdZ bt) := by
    unfold jmin cdZ
    exact if_pos ((nI_ltI (b := 80) (by omega) (by omega)).mpr (by unfold cdZ at hZ; omega))
  rw [e80]
  rintro _ rfl
  unfold wp_X1_rewind
  refine t1_put8 (n := 156) (j := 0) (by omega) (flat_in (by omega) (by omega)) (by omega) (by omega) ?_
  rintro _ rfl
  rw [rM, rM, rR (by omega) (by omega) (by omega), nI_add, nI_add]
  refine t1_put8 (j := 1) (by omega) (by rw [pk_un (by omega)]; exact flat_in (by omega) (by omega)) (by omega) (by omega) ?_
  refine t1_put8 (j := 2) hP (by rw [pk_un (by omega), pk_un (by omega)]; exact flat_in (by omega) (by omega)) (by omega) (by omega) ?_
  refine t1_put8 (n := 0) (j := 3) (by omega) (by rw [pk_un (by omega), pk_un (by omega), pk_un (by omega)]; exact flat_in (by omega) (by omega)) (by omega) (by omega) ?_
  refine t1_put8 (j := 4) ht (by rw [pk_un (by omega), pk_un (by omega), pk_un (by omega), pk_un (by omega)]; exact flat_in (by omega) (by omega)) (by omega) (by omega) ?_
  rw [show me * 128 + pa * 64 + k % 64 = 128 * me + 64 * pa + k % 64 by omega]
  generalize hb1 : nI (128 * me + 64 * pa + k % 64) = b1 at h ⊢
  have hhd : ∀ j, j < 80 → upd (upd (upd (upd (upd (flat by0 0 80 0) 0 (nI 156)) 1 b1) 2 (nI P)) 3 (nI 0)) 4 (nI t) j = hdB b1 (nI P) (nI t) j := by
    intro j hj
    unfold hdB
    by_cases a4 : j = 4
    · rw [a4, pk_us, pk_us]
    · rw [pk_un a4, pk_un a4]
      by_cases a3 : j = 3
      · rw [a3, pk_us, pk_un (by omega), pk_un (by omega), pk_un (by omega)]; rfl
      · rw [pk_un a3]
        by_cases a2 : j = 2
        · rw [a2, pk_us, pk_us]
        · rw [pk_un a2, pk_un a2]
          by_cases a1 : j = 1
          · rw [a1, pk_us, pk_us]
          · rw [pk_un a1, pk_un a1]
            by_cases a0 : j = 0
            · rw [a0, pk_us, pk_us]; rfl
            · rw [pk_un a0, pk_un a0, flat_in (by omega) hj]
  generalize upd (upd (upd (upd (upd (flat by0 0 80 0) 0 (nI 156)) 1 b1) 2 (nI P)) 3 (nI 0)) 4 (nI t) = f0 at hhd ⊢
  rintro _ rfl
  refine cinv2 0 16 (fun i a f => a = nI (40 + 4 * i) ∧ ∀ j, j < 80 → f j = scB (hdB b1 (nI P) (nI t)) sc i j) ⟨rfl, hhd⟩ ?_ ?_
  · rintro i a f - hi ⟨rfl, hf⟩ g hg
    simp (disch := omega) only [nI_clamp, vpT, true_and, hs i hi]
    refine t1_put (w := 4) (by omega) (by omega) (by omega) ?_
    rw [nI_1]
    refine hg _ _ ⟨by rw [show 40 + 4 * i + 4 = 40 + 4 * (i + 1) by omega], fun j hj => ?_⟩
    rw [scB]; exact putS_c hf 4 (by omega) j hj
  · rintro a f ⟨rfl, hf⟩ _ rfl
    refine cinv2 0 64 (fun i a f => a = nI (posQ bt i) ∧ ∀ j, j < 80 → f j = qtB (scB (hdB b1 (nI P) (nI t)) sc 16) q bt i j) ⟨rfl, hf⟩ ?_ ?_
    · rintro i a f - hi ⟨rfl, hf⟩ g hg
      have hlt : i % 16 < 16 := by omega
      have h1 := posQ_s bt i
      have h2 := posQ_m bt (show i + 1 ≤ 64 from hi)
      have h3 := hb16 _ hlt
      simp (disch := omega) only [rR, nI_clamp, vpT, true_and, forall_eq, hb _ hlt, hq i hi]
      refine t1_put (by omega) (by omega) (by omega) ?_
      rw [nI_1, ← h1]
      refine hg _ _ ⟨rfl, fun j hj => ?_⟩
      rw [qtB]; exact putS_c hf _ (by omega) j hj
    · rintro a f ⟨rfl, hf⟩
      refine t1_check (by omega) (by omega) ?_
      rintro _ rfl
      refine h _ _ (fun j hj => ?_)
      unfold cdF
      rw [chk_c (f' := cdB b1 (nI P) (nI t) sc q bt) (cdZ bt) (fun i hi _ _ => hf i (by omega))]
      by_cases a3 : j = 3
      · rw [a3, pk_us, pk_us]
      · rw [pk_un a3, pk_un a3]; exact hf j hj
