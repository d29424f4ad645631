/-! pure part 13: the reference's layCode -/
abbrev ndR (row : Nat → Int32) (sc : Nat → Nat) (me : Int32) : Nat → Int32 := fun i => ndF (nI (sc i)) me (row (17 + i % 8))
set_option maxHeartbeats 4000000 in
set_option maxRecDepth 100000 in
theorem t12_layCode {k me pa P t : Nat} {bit : Int32} {bytes row scales dealt : Nat → Int32} {T : Nat → Nat → Int32} {sc : Nat → Nat} {post : Int32 → (Nat → Int32) → (Nat → Int32) → (Nat → Int32) → (Nat → Int32) → Prop} (hk : k < 100000) (hpa : pa ≤ 1) (hme : me ≤ 1) (hP : P ≤ 128) (ht : t < 256) (r8 : row 8 = nI me) (r9 : row 9 = nI pa) (r43 : row 43 = nI P) (r653 : row 653 = nI t) (hs : ∀ i, i < 16 → row (621 + i) = nI (sc i)) (hs15 : ∀ i, i < 16 → sc i ≤ 15) (hT : ∀ c, c < 16 → ∀ b, b < 4 → row (557 + (4 * c + b)) = T c b)
    (h : ∀ (bit' : Int32) (bytes' row' scales' dealt' : Nat → Int32), (∀ i, i < 16 → row' (637 + i) = nI (bitsN (ndR row sc (nI me)) P i)) → row' 654 = nI (cdZ (bitsN (ndR row sc (nI me)) P)) → (∀ j, j < 80 → row' (655 + j) = cdF (nI (128 * me + 64 * pa + k % 64)) (nI P) (nI t) sc (qI T sc (bitsN (ndR row sc (nI me)) P)) (bitsN (ndR row sc (nI me)) P) j) → (∀ j, (j < 637 ∨ j = 653 ∨ 735 ≤ j) → row' j = row j) → post bit' bytes' row' scales' dealt') :
    wp_X12_layCode (nI k) bit bytes row scales dealt post := by
  generalize hbt : bitsN (ndR row sc (nI me)) P = bt at h
  have hb16 : ∀ i, bt i ≤ 16 := fun i => by rw [← hbt]; exact bitsN_le _ _ _
  have hsum : fb_sm bt 16 ≤ 128 := by rw [← hbt]; have := bitsN_sum (ndR row sc (nI me)) P; omega
  have hZ := cdZ_le hsum
  have hZp := cdZ_pos bt
  unfold wp_X12_layCode
  rintro _ rfl
  refine cinv1 0 160 (fun n f => ∀ j, j < n → f j = 0) (fun j hj => absurd hj (Nat.not_lt_zero _)) ?_ ?_
  · intro n f _ hn hI g hg
    simp (disch := omega) only [rA, nI_clamp, vpT, true_and, forall_eq]
    refine hg _ (fun j hj => ?_)
    by_cases e : j = n
    · subst e; rw [pk_us]
    · rw [pk_un e]; exact hI j (by omega)
  intro f5 hz
  rintro _ rfl _ rfl _ rfl _ rfl _ rfl _ rfl _ rfl
  rw [r8, r9, r43, r653, lM, lM, rR (by omega) (by omega) (by omega), nI_add, nI_add]
  generalize hb1 : nI (128 * me + 64 * pa + k % 64) = b1 at h ⊢
  have hhd : ∀ j, j < 160 → upd (upd (upd (upd f5 0 156) 1 b1) 2 (nI P)) 4 (nI t) j = hdB b1 (nI P) (nI t) j := by
    intro j hj
    unfold hdB
    by_cases a4 : j = 4
    · rw [a4, pk_us, pk_us]
    · rw [pk_un a4, pk_un a4]
      by_cases a2 : j = 2
      · rw [a2, pk_us, pk_us]
      · rw [pk_un a2, pk_un a2]
        by_cases a1 : j = 1
        · rw [a1, pk_us, pk_us]
        · rw [pk_un a1, pk_un a1]
          by_cases a0 : j = 0
          · rw [a0, pk_us, pk_us]
          · rw [pk_un a0, pk_un a0]; exact hz j hj
  generalize upd (upd (upd (upd f5 0 156) 1 b1) 2 (nI P)) 4 (nI t) = f0 at hhd ⊢
  refine cinv3 0 16 (fun i a f s => a = nI (40 + 4 * i) ∧ (∀ j, j < 160 → f j = scB (hdB b1 (nI P) (nI t)) sc i j) ∧ (∀ c, c < i → s c = nI (sc c))) ⟨rfl, hhd, fun c hc => absurd hc (Nat.not_lt_zero _)⟩ ?_ ?_
  · rintro i a f s - hi ⟨rfl, hf, hsc⟩ g hg
    simp (disch := omega) only [lA, nI_clamp, vpT, true_and, forall_eq, pk_us, hs i hi]
    refine t12_put (w := 4) (by omega) (by omega) ?_
    rw [nI_1]
    refine hg _ _ _ ⟨by rw [show 40 + 4 * i + 4 = 40 + 4 * (i + 1) by omega], fun j hj => ?_, fun c hc => ?_⟩
    · rw [scB]; exact putS_c hf 4 (by omega) j hj
    · by_cases e : c = i
      · subst e; rw [pk_us]
      · rw [pk_un e]; exact hsc c (by omega)
  rintro a f s ⟨rfl, hf, hsc⟩
  refine t12_deal (nd := ndR row sc (nI me)) (by omega) (fun i hi => by rw [hsc i hi]) (fun dealt' hd => ?_)
  rw [hbt] at hd
  rintro _ rfl
  refine cinv1 0 16 (fun n w => (∀ i, i < n → w (637 + i) = nI (bt i)) ∧ (∀ j, (j < 637 ∨ 637 + n ≤ j) → w j = row j)) ⟨fun i hi => absurd hi (Nat.not_lt_zero _), fun _ _ => rfl⟩ ?_ ?_
  · rintro n w - hn ⟨w1, w2⟩ g hg
    simp (disch := omega) only [lA, rA, nI_clamp, vpT, true_and, forall_eq, hd n hn]
    refine hg _ ⟨fun i hi => ?_, fun j hj => ?_⟩
    · by_cases e : i = n
      · subst e; rw [pk_us]
      · rw [pk_un (by omega)]; exact w1 i (by omega)
    · rw [pk_un (by omega)]; exact w2 j (by omega)
  rintro w ⟨w1, w2⟩ _ rfl
  have hTw : ∀ c, c < 16 → ∀ b, b < 4 → w (557 + 4 * c + b) = T c b := fun c hc b hb => by
    rw [w2 _ (by omega), Nat.add_assoc]; exact hT c hc b hb
  refine cinv2 0 4 (fun b a f => a = nI (posQ bt (16 * b)) ∧ ∀ j, j < 160 → f j = qtB (scB (hdB b1 (nI P) (nI t)) sc 16) (qI T sc bt) bt (16 * b) j) ⟨rfl, hf⟩ ?_ ?_
  · rintro b a f - hb ⟨rfl, hf⟩ g hg
    rintro _ rfl
    refine cinv2 0 16 (fun i a f => a = nI (posQ bt (16 * b + i)) ∧ ∀ j, j < 160 → f j = qtB (scB (hdB b1 (nI P) (nI t)) sc 16) (qI T sc bt) bt (16 * b + i) j) ⟨rfl, hf⟩ ?_ ?_
    · rintro i a f - hi ⟨rfl, hf⟩ g2 hg2
      have h1 := posQ_s bt (16 * b + i)
      have h2 := posQ_m bt (show 16 * b + i + 1 ≤ 64 by omega)
      have h3 := hb16 i
      have e1 : (16 * b + i) % 16 = i := by omega
      have e2 : (16 * b + i) / 16 = b := by omega
      have hdi := hd i hi
      have hsi := hsc i hi
      have hTi := hTw i hi b hb
      have h4 : posQ bt (16 * b + i) + bt i ≤ 1280 := by rw [e1] at h1; omega
      simp (disch := omega) only [lA, lM, nI_add, nI_clamp, vpT, true_and, hdi, hsi, hTi]
      intro k74 hk74
      rw [nI_1] at hk74
      have fin : k74 (nI (posQ bt (16 * b + i) + bt i)) (putF (nI (qI T sc bt (16 * b + i))) (bt i) (posQ bt (16 * b + i)) f) := by
        refine hk74 _ _ (hg2 _ _ ⟨?_, fun j hj => ?_⟩)
        · rw [← Nat.add_assoc, h1, e1]
        · rw [← Nat.add_assoc, qtB, e1]
          exact putS_c hf _ (by omega) j hj
      refine ⟨fun q => ?_, fun q => ?_⟩
      · have h0 : bt i = 0 := by
          have := (nI_leI (b := 0) (by omega) (by omega)).mp q
          omega
        rw [h0] at fin; exact fin
      · have h0 : 0 < bt i := by
          rcases Nat.eq_zero_or_pos (bt i) with z | z
          · exact absurd (by rw [z]; decide) q
          · exact z
        refine t12_quant (hs15 i hi) h0 h3 ?_
        refine t12_put (by omega) h4 ?_
        have e3 : qI T sc bt (16 * b + i) = qN (T i b) (sc i) (bt i) := by unfold qI; rw [e1, e2]
        rw [e3] at fin; exact fin
    · rintro a f ⟨rfl, hf⟩
      rw [nI_1]
      refine hg _ _ ?_
      rw [show 16 * (b + 1) = 16 * b + 16 by omega]
      exact ⟨rfl, hf⟩
  rintro a f ⟨rfl, hf⟩
  rw [show 16 * 4 = 64 from rfl] at hf ⊢
  have e45 : (nI (posQ bt 64) + 7) / 8 = nI (cdZ bt) := by
    rw [rA, rD (by omega) (by omega) (by omega), hZp.2]
  rw [e45]
  rintro _ rfl
  refine t12_check (by omega) (by omega) ?_
  rintro _ rfl _ rfl _ rfl
  have hfin : ∀ j, j < 160 → upd f 3 (chk f (cdZ bt)) j = cdF b1 (nI P) (nI t) sc (qI T sc bt) bt j := by
    intro j hj
    unfold cdF
    rw [chk_c (f' := cdB b1 (nI P) (nI t) sc (qI T sc bt) bt) (cdZ bt) (fun i hi _ _ => hf i (by omega))]
    by_cases a3 : j = 3
    · rw [a3, pk_us, pk_us]
    · rw [pk_un a3, pk_un a3]; exact hf j hj
  generalize upd f 3 (chk f (cdZ bt)) = f48 at hfin ⊢
  refine cinv1 0 80 (fun n u => (∀ j, j < n → u (655 + j) = cdF b1 (nI P) (nI t) sc (qI T sc bt) bt j) ∧ (∀ j, (j < 655 ∨ 655 + n ≤ j) → u j = upd w 654 (nI (cdZ bt)) j)) ⟨fun j hj => absurd hj (Nat.not_lt_zero _), fun _ _ => rfl⟩ ?_ ?_
  · rintro n u - hn ⟨u1, u2⟩ g hg k58 hk58
    have fin : k58 (cdF b1 (nI P) (nI t) sc (qI T sc bt) bt n) := by
      refine hk58 _ ?_
      simp (disch := omega) only [lA, rA, nI_clamp, vpT, true_and, forall_eq]
      refine hg _ ⟨fun j hj => ?_, fun j hj => ?_⟩
      · by_cases e : j = n
        · subst e; rw [pk_us]
        · rw [pk_un (by omega)]; exact u1 j (by omega)
      · rw [pk_un (by omega)]; exact u2 j (by omega)
    refine ⟨fun q => ?_, fun q => ?_⟩
    · have := (nI_leI (by omega) (by omega)).mp q
      rw [cdF_hi this] at fin; exact fin
    · simp (disch := omega) only [nI_clamp, vpT, true_and]
      rw [hfin n (by omega)]; exact fin
  rintro u ⟨u1, u2⟩
  refine h _ _ _ _ _ (fun i hi => ?_) ?_ u1 (fun j hj => ?_)
  · rw [u2 _ (by omega), pk_un (by omega)]; exact w1 i hi
  · rw [u2 _ (by omega), pk_us]
  · rw [u2 _ (by omega), pk_un (by omega)]; exact w2 j (by omega)
