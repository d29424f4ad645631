/-! pure part 30: made up, blended, kept -/
def exS (h : Nat → Int32) (lag : Nat) : Nat → Nat → Int32
  | 0 => h
  | n + 1 => upd (exS h lag n) (192 + n) (exS h lag n (192 + n - lag))
def mdF (h : Nat → Int32) (fd i : Nat) : Int32 := ((exS h (lagN h) 32) (192 + i) * nI fd) >>> ((3 : Int32) &&& 31)
theorem exS_lo {h : Nat → Int32} {lag j : Nat} (hj : j < 192) : ∀ n, exS h lag n j = h j
  | 0 => rfl
  | n + 1 => by rw [exS, pk_un (by omega)]; exact exS_lo hj n
theorem exS_st {h : Nat → Int32} {lag i : Nat} : ∀ n, i < n → exS h lag n (192 + i) = exS h lag (i + 1) (192 + i)
  | 0, q => absurd q (Nat.not_lt_zero _)
  | n + 1, q => by
    by_cases e : i = n
    · rw [e]
    · rw [exS, pk_un (by omega)]; exact exS_st n (by omega)
theorem exS_c {h h' : Nat → Int32} {lag : Nat} (e : ∀ j, j < 192 → h j = h' j) (hl : 1 ≤ lag) : ∀ n, ∀ j, j < 192 + n → exS h lag n j = exS h' lag n j
  | 0 => fun j hj => e j hj
  | n + 1 => fun j hj => by
    rw [exS, exS]
    by_cases q : j = 192 + n
    · rw [q, pk_us, pk_us]; exact exS_c e hl n _ (by omega)
    · rw [pk_un q, pk_un q]; exact exS_c e hl n j (by omega)
theorem lb_c {S S' : Nat → Nat} : ∀ n, (∀ d, d < n → S (16 + d) = S' (16 + d)) → lb S n = lb S' n
  | 0, _ => rfl
  | n + 1, h => by rw [lb, lb, lb_c n (fun d hd => h d (by omega)), h n (by omega)]
theorem lag_c {h h' : Nat → Int32} (e : ∀ j, j < 192 → h j = h' j) : lagN h = lagN h' ∧ lagS h = lagS h' := by
  have q : lb (lgS h) 105 = lb (lgS h') 105 := lb_c 105 (fun d hd => by
    unfold lgS
    exact fb_sm_cong (fun i hi => by unfold adN; rw [e _ (by omega), e _ (by omega)]))
  unfold lagN lagS; rw [q]; exact ⟨rfl, rfl⟩
theorem mdF_c {h h' : Nat → Int32} {fd i : Nat} (e : ∀ j, j < 192 → h j = h' j) (hr : inR h 192) (hi : i < 32) : mdF h fd i = mdF h' fd i := by
  have := lag_in hr
  unfold mdF
  rw [(lag_c e).1, exS_c e (by rw [← (lag_c e).1]; omega) 32 _ (by omega)]
theorem exS_r {h : Nat → Int32} {lag : Nat} (hr : inR h 192) (hl : 1 ≤ lag) (hl2 : lag ≤ 192) : ∀ n, inR (exS h lag n) (192 + n)
  | 0 => hr
  | n + 1 => fun j hj => by
    rw [exS]
    by_cases q : j = 192 + n
    · rw [q, pk_us]; exact exS_r hr hl hl2 n _ (by omega)
    · rw [pk_un q]; exact exS_r hr hl hl2 n j (by omega)
theorem shr3 (x : Int32) : (x >>> ((3 : Int32) &&& 31)).toInt = x.toInt / 8 := by
  rw [pk_shr _ _ 3 (by decide), Int.shiftRight_eq_div_pow]; rfl
theorem mdF_r {h : Nat → Int32} {fd i : Nat} (hr : inR h 192) (hf : fd ≤ 8) (hi : i < 32) : -2048 ≤ (mdF h fd i).toInt ∧ (mdF h fd i).toInt ≤ 2047 := by
  have hl := lag_in hr
  have hx := exS_r hr (show 1 ≤ lagN h by omega) (by omega) 32 (192 + i) (by omega)
  unfold mdF
  rw [shr3]
  generalize exS h (lagN h) 32 (192 + i) = x at hx ⊢
  have hf8 : fd = 0 ∨ fd = 1 ∨ fd = 2 ∨ fd = 3 ∨ fd = 4 ∨ fd = 5 ∨ fd = 6 ∨ fd = 7 ∨ fd = 8 := by omega
  rcases hf8 with rfl | rfl | rfl | rfl | rfl | rfl | rfl | rfl | rfl <;> rw [fb_mulI] <;> rw [nI_toInt (by omega)] <;> omega
set_option maxHeartbeats 4000000 in
set_option maxRecDepth 100000 in
theorem t3_makeUp {fd : Nat} {lag0 sum0 : Int32} {row made : Nat → Int32} {post : Int32 → Int32 → (Nat → Int32) → (Nat → Int32) → Prop} (hr : inR row 192) (h : ∀ row' made' : Nat → Int32, (∀ j, j < 192 → row' j = row j) → (∀ i, i < 32 → made' i = mdF row fd i) → post (nI (lagN row)) (nI (lagS row)) row' made') : wp_X3_makeUp (nI fd) lag0 sum0 row made post := by
  have hl := lag_in hr
  unfold wp_X3_makeUp
  refine t3_findLag hr ?_
  rintro _ rfl
  refine cinv2 0 32 (fun n f m => f = exS row (lagN row) n ∧ ∀ i, i < n → m i = mdF row fd i) ⟨rfl, fun i hi => absurd hi (Nat.not_lt_zero _)⟩ ?_ ?_
  · rintro n f m - hn ⟨rfl, hm⟩ g hg
    simp (disch := omega) only [lA, rA, pk_sub, nI_clamp, vpT, true_and, forall_eq]
    refine hg _ _ ⟨rfl, fun i hi => ?_⟩
    by_cases e : i = n
    · subst e
      rw [pk_us, pk_us]
      unfold mdF
      rw [exS_st 32 hn, exS, pk_us]
    · rw [pk_un e]; exact hm i (by omega)
  · rintro f m ⟨rfl, hm⟩
    exact h _ _ (fun j hj => exS_lo hj 32) hm
theorem t12_fade {mn : Nat} {row : Nat → Int32} {post : Int32 → Prop} (e : row 38 = nI mn) (hm : mn < 100000) (h : post (nI (8 - mn))) : wp_X12_fade row post := by
  unfold wp_X12_fade
  rw [e]
  refine ⟨fun q => ?_, fun q => ?_⟩
  · have := (nI_leI (b := 8) (by omega) (by omega)).mp q
    rw [lS (by omega)]; exact h
  · have h8 : ¬ mn ≤ 8 := fun y => q ((nI_leI (b := 8) (by omega) (by omega)).mpr y)
    rw [show 8 - mn = 0 by omega] at h; exact h
theorem t6_fade {mn : Nat} {nb : Nat → Int32} {post : Int32 → Prop} (e : nb 15 = nI mn) (hm : mn < 100000) (h : post (nI (8 - mn))) : wp_X6_fade nb post := by
  unfold wp_X6_fade
  rw [e]
  rintro _ rfl
  have q : jmax 0 (8 - nI mn) = nI (8 - mn) := by
    unfold jmax
    by_cases h8 : mn < 8
    · rw [lS (by omega)]; exact if_pos ((nI_ltI (a := 0) (b := 8 - mn) (by omega) (by omega)).mpr (by omega))
    · rw [show 8 - mn = 0 by omega]
      refine if_neg (fun y => ?_)
      by_cases h9 : mn = 8
      · rw [h9] at y; exact absurd y (by decide)
      · have h10 := pk_sneg (a := 8) (b := mn) (by omega) (by omega)
        have h11 : (8 : Int32) - nI mn < 0 := h10
        rw [fa_lt] at y h11; omega
  rw [q]; exact h
theorem t12_layHeard {c : Nat} {row hr0 : Nat → Int32} {post : (Nat → Int32) → Prop} (hc : c < 2) (h : ∀ f : Nat → Int32, (∀ j, j < 192 → f j = row (109 + 192 * c + j)) → post f) : wp_X12_layHeard (nI c) row hr0 post := by
  unfold wp_X12_layHeard
  rintro _ rfl
  refine cinv1 0 192 (fun n f => ∀ j, j < n → f j = row (109 + 192 * c + j)) (fun j hj => absurd hj (Nat.not_lt_zero _)) ?_ ?_
  · intro n f _ hn hI g hg
    simp (disch := omega) only [lA, lM, rA, nI_add, nI_clamp, vpT, true_and, forall_eq]
    refine hg _ (fun j hj => ?_)
    by_cases e : j = n
    · rw [e, pk_us]
    · rw [pk_un e]; exact hI j (by omega)
  · intro f hI; exact h f hI
abbrev hR (row : Nat → Int32) (c : Nat) : Nat → Int32 := fun j => row (109 + 192 * c + j)
set_option maxHeartbeats 4000000 in
set_option maxRecDepth 100000 in
theorem t12_layMade {mn : Nat} {lag0 sum0 : Int32} {row hr0 made : Nat → Int32} {post : Int32 → Int32 → (Nat → Int32) → (Nat → Int32) → Prop} (e : row 38 = nI mn) (hm : mn < 100000) (hr : ∀ c, c < 2 → inR (hR row c) 192) (h : ∀ (l s : Int32) (f made' : Nat → Int32), (∀ c, c < 2 → ∀ i, i < 32 → made' (32 * c + i) = mdF (hR row c) (8 - mn) i) → post l s f made') : wp_X12_layMade lag0 sum0 row hr0 made post := by
  unfold wp_X12_layMade
  rintro _ rfl
  refine cinv4 0 2 (fun c _ _ _ m => ∀ c', c' < c → ∀ i, i < 32 → m (32 * c' + i) = mdF (hR row c') (8 - mn) i) (fun c hc => absurd hc (Nat.not_lt_zero _)) ?_ ?_
  · intro c l s f m _ hc hI g hg
    refine t12_layHeard hc (fun f1 hf1 => ?_)
    have hr1 : inR f1 192 := fun j hj => by rw [hf1 j hj]; exact hr c hc j hj
    have hl := lag_in hr1
    refine t12_findLag hr1 ?_
    rintro _ rfl
    refine cinv2 0 32 (fun n f2 m2 => f2 = exS f1 (lagN f1) n ∧ (∀ i, i < n → m2 (32 * c + i) = mdF f1 (8 - mn) i) ∧ (∀ j, j < 32 * c → m2 j = m j)) ⟨rfl, fun i hi => absurd hi (Nat.not_lt_zero _), fun _ _ => rfl⟩ ?_ ?_
    · rintro n f2 m2 - hn ⟨rfl, i1, i2⟩ g2 hg2
      simp (disch := omega) only [lA, pk_sub, nI_clamp, vpT, true_and, forall_eq]
      refine t12_fade e hm ?_
      simp (disch := omega) only [rA, lM, nI_add, nI_clamp, vpT, true_and]
      refine hg2 _ _ ⟨rfl, fun i hi => ?_, fun j hj => ?_⟩
      · by_cases q : i = n
        · subst q
          rw [pk_us, pk_us]
          unfold mdF
          rw [exS_st 32 hn, exS, pk_us]
        · rw [pk_un (by omega)]; exact i1 i (by omega)
      · rw [pk_un (by omega)]; exact i2 j hj
    · rintro f2 m2 ⟨rfl, i1, i2⟩
      rw [nI_1]
      refine hg _ _ _ _ (fun c' hc' i hi => ?_)
      by_cases q : c' = c
      · subst q; rw [i1 i hi]; exact mdF_c hf1 hr1 hi
      · rw [i2 _ (by omega)]; exact hI c' (by omega) i hi
  · intro l s f m hI
    exact h l s f m hI
theorem t3_keep {np : Nat} {row p1 : Nat → Int32} {post : (Nat → Int32) → Prop} (hn : 32 ≤ np) (h : ∀ row' : Nat → Int32, (∀ j, j < 160 → row' j = row (j + 32)) → (∀ i, i < 32 → row' (160 + i) = p1 i) → post row') : wp_X3_keepSamples np row p1 post := by
  unfold wp_X3_keepSamples
  rintro _ rfl
  refine ⟨by omega, ?_⟩
  rintro _ rfl
  refine h _ (fun j hj => ?_) (fun i hi => ?_)
  · rw [pk_cpy_out (by omega), pk_cpy_in (by omega) (by omega), Nat.sub_zero, Nat.add_comm]
  · rw [pk_cpy_in (by omega) (by omega), Nat.zero_add, show 160 + i - 160 = i by omega]
def M_keep (cm row : Nat → Int32) : Nat → Int32 := fun j => if 109 ≤ j ∧ j < 493 then (if (j - 109) % 192 < 160 then row (j + 32) else cm (32 * ((j - 109) / 192) + ((j - 109) % 192 - 160))) else row j
set_option maxHeartbeats 4000000 in
set_option maxRecDepth 100000 in
theorem t12_keep {row cm : Nat → Int32} {post : (Nat → Int32) → Prop} (h : post (M_keep cm row)) : wp_X12_keepsHeard row cm post := by
  unfold wp_X12_keepsHeard
  rintro _ rfl
  refine cinv1 0 2 (fun c f => ∀ j, f j = if 109 + 192 * c ≤ j then row j else M_keep cm row j) (fun j => ?_) ?_ ?_
  · by_cases q : 109 + 192 * 0 ≤ j
    · rw [if_pos q]
    · rw [if_neg q]; unfold M_keep; rw [if_neg (by omega)]
  · intro c f _ hc hI g hg
    simp only [lA, lM, forall_eq]
    refine cinv1 0 160 (fun n f1 => ∀ j, f1 j = if 109 + 192 * c + n ≤ j then row j else M_keep cm row j) hI ?_ ?_
    · intro n f1 _ hn h1 g9 hg9
      have e1 : f1 (109 + 192 * c + n + 32) = row (109 + 192 * c + n + 32) := by rw [h1, if_pos (by omega)]
      simp (disch := omega) only [rA, nI_add, nI_clamp, vpT, true_and, forall_eq, e1]
      refine hg9 _ (fun j => ?_)
      by_cases q : j = 109 + 192 * c + n
      · rw [q, pk_us, if_neg (by omega)]
        unfold M_keep
        rw [if_pos (by omega), if_pos (by omega)]
      · rw [pk_un q, h1 j]
        by_cases q2 : 109 + 192 * c + n ≤ j
        · rw [if_pos q2, if_pos (by omega)]
        · rw [if_neg q2, if_neg (by omega)]
    · intro f1 h1
      refine cinv1 0 32 (fun n f2 => ∀ j, f2 j = if 109 + 192 * c + 160 + n ≤ j then row j else M_keep cm row j) h1 ?_ ?_
      · intro n f2 _ hn h2 g15 hg15
        simp (disch := omega) only [rA, lM, rS, nI_add, nI_clamp, vpT, true_and, forall_eq]
        refine hg15 _ (fun j => ?_)
        by_cases q : j = 109 + 192 * c + 192 - 32 + n
        · rw [q, pk_us, if_neg (by omega)]
          unfold M_keep
          rw [if_pos (by omega), if_neg (by omega)]
          congr 1
          omega
        · rw [pk_un q, h2 j]
          by_cases q2 : 109 + 192 * c + 160 + n ≤ j
          · rw [if_pos q2, if_pos (by omega)]
          · rw [if_neg q2, if_neg (by omega)]
      · intro f2 h2
        rw [nI_1]
        refine hg _ (fun j => ?_)
        rw [h2 j]
        by_cases q2 : 109 + 192 * c + 160 + 32 ≤ j
        · rw [if_pos q2, if_pos (by omega)]
        · rw [if_neg q2, if_neg (by omega)]
  · intro f hI
    have ef : f = M_keep cm row := by
      funext j; rw [hI j]
      by_cases q : 109 + 192 * 2 ≤ j
      · rw [if_pos q]; unfold M_keep; rw [if_neg (by omega)]
      · rw [if_neg q]
    rw [ef]; exact h
