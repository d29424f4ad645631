/-! pure part 9: BITS dealt -/
def ndF (s me lo : Int32) : Int32 := if s = 0 then s else if me = 0 then s else if s - lo ≤ 0 then s - lo else (s - lo) / 2
def mrN (b : Nat) : Nat := if b = 0 then 2 else 1
def pick (nd : Nat → Int32) (b : Nat → Nat) (l : Nat) : Nat → Int32 × Int32
  | 0 => (-1, 0)
  | k + 1 => if (¬ nd k - nI (b k) ≤ (pick nd b l k).2) ∧ b k < 16 ∧ mrN (b k) ≤ l then (nI k, nd k - nI (b k)) else pick nd b l k
theorem mrN_pos (b : Nat) : 0 < mrN b := by unfold mrN; split <;> omega
theorem mrN_le (b : Nat) : mrN b ≤ 2 := by unfold mrN; split <;> omega
theorem mrN_16 {b : Nat} (h : b < 16) : b + mrN b ≤ 16 := by unfold mrN; split <;> omega
theorem pick_or (nd : Nat → Int32) (b : Nat → Nat) (l : Nat) : ∀ n, (pick nd b l n).1 = -1 ∨ ∃ k, k < n ∧ (pick nd b l n).1 = nI k ∧ b k < 16 ∧ mrN (b k) ≤ l
  | 0 => Or.inl rfl
  | n + 1 => by
    rw [pick]
    by_cases h : (¬ nd n - nI (b n) ≤ (pick nd b l n).2) ∧ b n < 16 ∧ mrN (b n) ≤ l
    · rw [if_pos h]; exact Or.inr ⟨n, by omega, rfl, h.2.1, h.2.2⟩
    · rw [if_neg h]
      rcases pick_or nd b l n with q | ⟨k, hk, q⟩
      · exact Or.inl q
      · exact Or.inr ⟨k, by omega, q⟩
def dl (nd : Nat → Int32) (P : Nat) : Nat → (Nat → Nat) × Nat
  | 0 => (fun _ => 0, P)
  | r + 1 => if (pick nd (dl nd P r).1 (dl nd P r).2 16).1 = -1 then dl nd P r else (fun i => if i = (pick nd (dl nd P r).1 (dl nd P r).2 16).1.toNatClampNeg then (dl nd P r).1 i + mrN ((dl nd P r).1 i) else (dl nd P r).1 i, (dl nd P r).2 - mrN ((dl nd P r).1 (pick nd (dl nd P r).1 (dl nd P r).2 16).1.toNatClampNeg))
abbrev stuck (nd : Nat → Int32) (P r : Nat) : Prop := (pick nd (dl nd P r).1 (dl nd P r).2 16).1 = -1
theorem dl_st {nd : Nat → Int32} {P r : Nat} (h : stuck nd P r) : ∀ j, dl nd P (r + j) = dl nd P r
  | 0 => rfl
  | j + 1 => by
    have ih := dl_st h j
    rw [← Nat.add_assoc, dl, ih, if_pos h]
theorem dl_go {nd : Nat → Int32} {P r : Nat} (h : ¬ stuck nd P r) : ∃ k, k < 16 ∧ (pick nd (dl nd P r).1 (dl nd P r).2 16).1 = nI k ∧ (dl nd P r).1 k < 16 ∧ mrN ((dl nd P r).1 k) ≤ (dl nd P r).2 ∧ dl nd P (r + 1) = (fun i => if i = k then (dl nd P r).1 i + mrN ((dl nd P r).1 i) else (dl nd P r).1 i, (dl nd P r).2 - mrN ((dl nd P r).1 k)) := by
  rcases pick_or nd (dl nd P r).1 (dl nd P r).2 16 with q | ⟨k, hk, q, h2, h3⟩
  · exact absurd q h
  · refine ⟨k, hk, q, h2, h3, ?_⟩
    rw [dl, if_neg h, q, nI_clamp (by omega)]
theorem dl_le (nd : Nat → Int32) (P : Nat) : ∀ r, (∀ i, (dl nd P r).1 i ≤ 16) ∧ fb_sm (dl nd P r).1 16 + (dl nd P r).2 = P
  | 0 => ⟨fun _ => Nat.zero_le _, by
      show fb_sm (fun _ => 0) 16 + P = P
      rw [fb_sm_const]; omega⟩
  | r + 1 => by
    have ih := dl_le nd P r
    by_cases h : stuck nd P r
    · have e := dl_st h 1
      rw [e]; exact ih
    · obtain ⟨k, hk, _, h2, h3, e⟩ := dl_go h
      rw [e]
      refine ⟨fun i => ?_, ?_⟩
      · show (if i = k then (dl nd P r).1 i + mrN ((dl nd P r).1 i) else (dl nd P r).1 i) ≤ 16
        by_cases hi : i = k
        · rw [if_pos hi, hi]; exact mrN_16 h2
        · rw [if_neg hi]; exact ih.1 i
      · have hs := fb_sm_upd (dl nd P r).1 ((dl nd P r).1 k + mrN ((dl nd P r).1 k)) hk
        have hc : fb_sm (fun i => if i = k then (dl nd P r).1 i + mrN ((dl nd P r).1 i) else (dl nd P r).1 i) 16 = fb_sm (fun i => if i = k then (dl nd P r).1 k + mrN ((dl nd P r).1 k) else (dl nd P r).1 i) 16 := fb_sm_cong (fun i _ => by
          by_cases hi : i = k
          · rw [if_pos hi, if_pos hi, hi]
          · rw [if_neg hi, if_neg hi])
        have h4 := ih.2
        show fb_sm (fun i => if i = k then (dl nd P r).1 i + mrN ((dl nd P r).1 i) else (dl nd P r).1 i) 16 + ((dl nd P r).2 - mrN ((dl nd P r).1 k)) = P
        omega
theorem dl_left {nd : Nat → Int32} {P : Nat} {r : Nat} (h : (dl nd P r).2 + r ≤ P) (hg : ¬ stuck nd P r) : (dl nd P (r + 1)).2 + (r + 1) ≤ P ∧ (dl nd P (r + 1)).2 < (dl nd P r).2 := by
  obtain ⟨k, hk, _, h2, h3, e⟩ := dl_go hg
  have h4 := mrN_pos ((dl nd P r).1 k)
  rw [e]
  show (dl nd P r).2 - mrN ((dl nd P r).1 k) + (r + 1) ≤ P ∧ (dl nd P r).2 - mrN ((dl nd P r).1 k) < (dl nd P r).2
  omega
/-- BITS out of a POOL -/
def bitsN (nd : Nat → Int32) (P : Nat) : Nat → Nat := (dl nd P P).1
theorem bitsN_le (nd : Nat → Int32) (P i : Nat) : bitsN nd P i ≤ 16 := (dl_le nd P P).1 i
theorem bitsN_sum (nd : Nat → Int32) (P : Nat) : fb_sm (bitsN nd P) 16 ≤ P := by have := (dl_le nd P P).2; unfold bitsN; omega
theorem bitsN_st {nd : Nat → Int32} {P r : Nat} (hr : r ≤ P) (h : stuck nd P r) : (dl nd P r).1 = bitsN nd P := by
  have e := dl_st h (P - r)
  rw [show r + (P - r) = P by omega] at e
  unfold bitsN; rw [e]
theorem pick_c {nd nd' : Nat → Int32} {b b' : Nat → Nat} {l : Nat} : ∀ n, (∀ i, i < n → nd i = nd' i) → (∀ i, i < n → b i = b' i) → pick nd b l n = pick nd' b' l n
  | 0, _, _ => rfl
  | n + 1, h1, h2 => by
    rw [pick, pick, pick_c n (fun i hi => h1 i (by omega)) (fun i hi => h2 i (by omega)), h1 n (by omega), h2 n (by omega)]
theorem dl_c {nd nd' : Nat → Int32} {P : Nat} (h : ∀ i, i < 16 → nd i = nd' i) : ∀ r, dl nd P r = dl nd' P r
  | 0 => rfl
  | r + 1 => by rw [dl, dl, dl_c h r, pick_c 16 h (fun _ _ => rfl)]
theorem bitsN_c {nd nd' : Nat → Int32} {P : Nat} (h : ∀ i, i < 16 → nd i = nd' i) : bitsN nd P = bitsN nd' P := by unfold bitsN; rw [dl_c h]
theorem t4_need {np i : Nat} {me : Int32} {scales nb : Nat → Int32} {post : Int32 → Prop} (hi : i < 16) (hnp : np = 54) (h : post (ndF (scales i) me (nb (40 + i % 8)))) : wp_X4_need np (nI i) me scales nb post := by
  subst hnp
  unfold wp_X4_need
  simp (disch := omega) only [rR, lA, nI_clamp, vpT, true_and, forall_eq]
  unfold ndF at h
  refine ⟨fun a => ?_, fun a => ⟨fun b => ?_, fun b => ⟨fun c => ?_, fun c => ?_⟩⟩⟩
  · rwa [if_pos a] at h
  · rwa [if_neg a, if_pos b] at h
  · rwa [if_neg a, if_neg b, if_pos c] at h
  · rwa [if_neg a, if_neg b, if_neg c] at h
theorem t12_need {i : Nat} {me : Int32} {scales row : Nat → Int32} {post : Int32 → Prop} (hi : i < 16) (h : post (ndF (scales i) me (row (17 + i % 8)))) : wp_X12_needOf (nI i) me scales row post := by
  unfold wp_X12_needOf
  simp (disch := omega) only [rR, lA, nI_clamp, vpT, true_and, forall_eq]
  unfold ndF at h
  refine ⟨fun a => ?_, fun a => ⟨fun b => ?_, fun b => ⟨fun c => ?_, fun c => ?_⟩⟩⟩
  · rwa [if_pos a] at h
  · rwa [if_neg a, if_pos b] at h
  · rwa [if_neg a, if_neg b, if_pos c] at h
  · rwa [if_neg a, if_neg b, if_neg c] at h
theorem t4_neediest {l : Nat} {nd needs bits : Nat → Int32} {b : Nat → Nat} {post : Int32 → Prop} (hl : l < 1000) (hn : ∀ i, i < 16 → needs i = nd i) (hb : ∀ i, i < 16 → bits i = nI (b i)) (hb16 : ∀ i, b i ≤ 16) (h : post (pick nd b l 16).1) : wp_X4_neediest (nI l) needs bits post := by
  unfold wp_X4_neediest
  rintro _ rfl _ rfl _ rfl
  refine cinv2 0 16 (fun k mo be => be = (pick nd b l k).1 ∧ mo = (pick nd b l k).2) ⟨rfl, rfl⟩ ?_ ?_
  · rintro k mo be - hk ⟨rfl, rfl⟩ g hg
    have hbk := hb16 k
    simp (disch := omega) only [rA, nI_clamp, vpT, true_and, forall_eq, hb k hk, hn k hk]
    intro k15 hk15
    have main : ∀ x14 : Int32, x14 = nI (mrN (b k)) → k15 x14 := by
      intro x14 e14
      refine hk15 _ (fun k19 hk19 => ?_)
      have no : (¬ ((¬ nd k - nI (b k) ≤ (pick nd b l k).2) ∧ b k < 16 ∧ mrN (b k) ≤ l)) → k19 (pick nd b l k).1 (pick nd b l k).2 := fun q => hk19 _ _ (hg _ _ (by rw [pick, if_neg q]; exact ⟨rfl, rfl⟩))
      refine ⟨fun q => no (fun r => r.1 q), fun q => ⟨fun r => no (fun r2 => ?_), fun r => ⟨fun t => no (fun r2 => ?_), fun t => hk19 _ _ (hg _ _ ?_)⟩⟩⟩
      · have := (nI_leI (a := 16) (by omega) (by omega)).mp r
        have := r2.2.1
        omega
      · rw [e14] at t
        have h3 := mrN_le (b k)
        have := (nI_ltI (by omega) (by omega)).mp t
        have := r2.2.2
        omega
      · have h3 := mrN_le (b k)
        have h4 : b k < 16 := by
          rcases Nat.lt_or_ge (b k) 16 with z | z
          · exact z
          · exact absurd ((nI_leI (a := 16) (by omega) (by omega)).mpr z) r
        have h5 : mrN (b k) ≤ l := by
          rcases Nat.lt_or_ge l (mrN (b k)) with z | z
          · rw [e14] at t; exact absurd ((nI_ltI (by omega) (by omega)).mpr z) t
          · exact z
        rw [pick, if_pos ⟨q, h4, h5⟩]; exact ⟨rfl, rfl⟩
    refine ⟨fun q => main 2 ?_, fun q => main 1 ?_⟩
    · have hz : b k = 0 := (nI_eq (b := 0) (by omega) (by omega)).mp q
      rw [hz]; rfl
    · have hz : b k ≠ 0 := fun z => q (by rw [z]; rfl)
      unfold mrN; rw [if_neg hz]; rfl
  · intro mo be hI; rw [hI.1]; exact h
set_option maxHeartbeats 4000000 in
set_option maxRecDepth 100000 in
theorem t4_deal {np P : Nat} {me me0 po0 : Int32} {scales nb needs bits nd : Nat → Int32} {post : Int32 → Int32 → (Nat → Int32) → (Nat → Int32) → Prop} (hnp : np = 54) (hP : P < 1000) (hnd : ∀ i, i < 16 → nd i = ndF (scales i) me (nb (40 + i % 8)))
    (h : ∀ needs' bits' : Nat → Int32, (∀ i, i < 16 → bits' i = nI (bitsN nd P i)) → post me (nI P) needs' bits') : wp_X4_deal np (nI P) me me0 po0 scales nb needs bits post := by
  unfold wp_X4_deal
  rintro _ rfl
  refine cinv2 0 16 (fun k f b => (∀ i, i < k → f i = nd i) ∧ (∀ i, i < k → b i = 0)) ⟨fun i hi => absurd hi (Nat.not_lt_zero _), fun i hi => absurd hi (Nat.not_lt_zero _)⟩ ?_ ?_
  · rintro k f b - hk ⟨i1, i2⟩ g hg
    refine t4_need hk hnp ?_
    simp (disch := omega) only [rA, nI_clamp, vpT, true_and, forall_eq]
    refine hg _ _ ⟨fun i hi => ?_, fun i hi => ?_⟩
    · by_cases hik : i = k
      · subst hik; rw [pk_us]; exact (hnd i hk).symm
      · rw [pk_un hik]; exact i1 i (by omega)
    · by_cases hik : i = k
      · subst hik; rw [pk_us]
      · rw [pk_un hik]; exact i2 i (by omega)
  · rintro f b ⟨i1, i2⟩ _ rfl _ rfl
    refine cinv2 0 P (fun r le b => le = nI (dl nd P r).2 ∧ (∀ i, i < 16 → b i = nI ((dl nd P r).1 i))) ⟨rfl, i2⟩ ?_ ?_
    · rintro r le b - hr ⟨rfl, j1⟩ g hg
      have hle := dl_le nd P r
      refine t4_neediest (nd := nd) (by omega) i1 j1 hle.1 ?_
      refine ⟨fun q => ?_, fun q => ?_⟩
      · refine h _ _ (fun i hi => ?_)
        rw [← bitsN_st (by omega) q]; exact j1 i hi
      · obtain ⟨k, hk, e1, h2, h3, e2⟩ := dl_go q
        have hz := hle.1 k
        rw [e1]
        simp (disch := omega) only [nI_clamp, vpT, true_and, forall_eq, j1 k hk]
        intro k20 hk20
        have main : ∀ x19 : Int32, x19 = nI (mrN ((dl nd P r).1 k)) → k20 x19 := by
          intro x19 e19
          subst e19
          refine hk20 _ ?_
          rw [nI_1]
          refine hg _ _ ?_
          rw [e2]
          refine ⟨?_, fun i hi => ?_⟩
          · rw [pk_sub h3]
          · show upd b k _ i = nI (if i = k then (dl nd P r).1 i + mrN ((dl nd P r).1 i) else (dl nd P r).1 i)
            by_cases hik : i = k
            · subst hik; rw [pk_us, if_pos rfl, nI_add]
            · rw [pk_un hik, if_neg hik]; exact j1 i hi
        refine ⟨fun q2 => main 2 ?_, fun q2 => main 1 ?_⟩
        · have hz0 : (dl nd P r).1 k = 0 := (nI_eq (b := 0) (by omega) (by omega)).mp q2
          rw [hz0]; rfl
        · have hz0 : (dl nd P r).1 k ≠ 0 := fun z => q2 (by rw [z]; rfl)
          unfold mrN; rw [if_neg hz0]; rfl
    · rintro le b ⟨rfl, j1⟩
      exact h _ _ j1
set_option maxHeartbeats 4000000 in
set_option maxRecDepth 100000 in
theorem t12_deal {P : Nat} {me : Int32} {dealt scales row nd : Nat → Int32} {post : (Nat → Int32) → Prop} (hP : P < 1000) (hnd : ∀ i, i < 16 → nd i = ndF (scales i) me (row (17 + i % 8)))
    (h : ∀ dealt' : Nat → Int32, (∀ i, i < 16 → dealt' i = nI (bitsN nd P i)) → post dealt') : wp_X12_deal (nI P) me dealt scales row post := by
  unfold wp_X12_deal
  rintro _ rfl
  refine cinv1 0 16 (fun k b => ∀ i, i < k → b i = 0) (fun i hi => absurd hi (Nat.not_lt_zero _)) ?_ ?_
  · intro k b _ hk hI g hg
    simp (disch := omega) only [rA, nI_clamp, vpT, true_and, forall_eq]
    refine hg _ (fun i hi => ?_)
    by_cases hik : i = k
    · subst hik; rw [pk_us]
    · rw [pk_un hik]; exact hI i (by omega)
  · intro b hI
    rintro _ rfl _ rfl
    refine Lz3_by (fun mo le b => ∃ r, le = nI (dl nd P r).2 ∧ (∀ i, i < 16 → b i = nI ((dl nd P r).1 i)) ∧ (dl nd P r).2 + r ≤ P ∧ (mo = 1 ∨ (mo = 0 ∧ stuck nd P r))) (fun mo le b => 2 * le.toNatClampNeg + mo.toNatClampNeg) _ _ _ ⟨0, rfl, hI, Nat.le_refl _, Or.inl rfl⟩ ?_
    rintro mo le b ⟨r, rfl, j1, hlr, hmo⟩ again hag
    have hle := dl_le nd P r
    refine ⟨fun q => ?_, fun q => ?_⟩
    · rcases hmo with e | ⟨_, hst⟩
      · rw [e] at q; exact absurd q (by decide)
      · refine h _ (fun i hi => ?_)
        rw [← bitsN_st (by omega) hst]; exact j1 i hi
    · have hm1 : mo = 1 := by
        rcases hmo with e | ⟨e, _⟩
        · exact e
        · exact absurd e q
      subst hm1
      rintro _ rfl _ rfl _ rfl
      refine cinv2 0 16 (fun k mo be => be = (pick nd (dl nd P r).1 (dl nd P r).2 k).1 ∧ mo = (pick nd (dl nd P r).1 (dl nd P r).2 k).2) ⟨rfl, rfl⟩ ?_ ?_
      · rintro k mo be - hk ⟨rfl, rfl⟩ g hg
        refine t12_need hk ?_
        have hbk := hle.1 k
        rw [← hnd k hk]
        simp (disch := omega) only [rA, nI_clamp, vpT, true_and, forall_eq, j1 k hk]
        intro k47 hk47
        have no : (¬ ((¬ nd k - nI ((dl nd P r).1 k) ≤ (pick nd (dl nd P r).1 (dl nd P r).2 k).2) ∧ (dl nd P r).1 k < 16 ∧ mrN ((dl nd P r).1 k) ≤ (dl nd P r).2)) → k47 (pick nd (dl nd P r).1 (dl nd P r).2 k).1 (pick nd (dl nd P r).1 (dl nd P r).2 k).2 := fun q => hk47 _ _ (hg _ _ (by rw [pick, if_neg q]; exact ⟨rfl, rfl⟩))
        refine ⟨fun q => no (fun z => z.1 q), fun q => ⟨fun z => no (fun z2 => ?_), fun z => ?_⟩⟩
        · have := (nI_leI (a := 16) (by omega) (by omega)).mp z
          have := z2.2.1
          omega
        · intro k54 hk54
          have h4 : (dl nd P r).1 k < 16 := by
            rcases Nat.lt_or_ge ((dl nd P r).1 k) 16 with y | y
            · exact y
            · exact absurd ((nI_leI (a := 16) (by omega) (by omega)).mpr y) z
          have h3 := mrN_le ((dl nd P r).1 k)
          have main : ∀ x53 : Int32, x53 = nI (mrN ((dl nd P r).1 k)) → k54 x53 := by
            intro x53 e53
            subst e53
            refine hk54 _ ⟨fun t => no (fun z2 => ?_), fun t => hk47 _ _ (hg _ _ ?_)⟩
            · have := (nI_ltI (by omega) (by omega)).mp t
              have := z2.2.2
              omega
            · have h5 : mrN ((dl nd P r).1 k) ≤ (dl nd P r).2 := by
                rcases Nat.lt_or_ge (dl nd P r).2 (mrN ((dl nd P r).1 k)) with y | y
                · exact absurd ((nI_ltI (by omega) (by omega)).mpr y) t
                · exact y
              rw [pick, if_pos ⟨q, h4, h5⟩]; exact ⟨rfl, rfl⟩
          refine ⟨fun q2 => main 2 ?_, fun q2 => main 1 ?_⟩
          · have hz0 : (dl nd P r).1 k = 0 := (nI_eq (b := 0) (by omega) (by omega)).mp q2
            rw [hz0]; rfl
          · have hz0 : (dl nd P r).1 k ≠ 0 := fun y => q2 (by rw [y]; rfl)
            unfold mrN; rw [if_neg hz0]; rfl
      · intro mo be hI
        rw [hI.1]
        intro k25 hk25
        refine ⟨fun q3 => hk25 _ (fun k29 hk29 => ⟨fun _ => hk29 _ _ ?_, fun z => absurd rfl z⟩), fun q3 => hk25 _ (fun k29 hk29 => ⟨fun z => absurd z (by decide), fun _ => ?_⟩)⟩
        · refine hag _ _ _ ⟨r, rfl, j1, hlr, Or.inr ⟨rfl, q3⟩⟩ ?_
          show 2 * (nI (dl nd P r).2).toNatClampNeg + (0 : Int32).toNatClampNeg < 2 * (nI (dl nd P r).2).toNatClampNeg + (1 : Int32).toNatClampNeg
          rw [clZ 0 (by decide), clZ 1 (by decide)]; exact Nat.lt_succ_self _
        · obtain ⟨k, hk, e1, h2, h3, e2⟩ := dl_go q3
          have hz := hle.1 k
          have hlf := dl_left hlr q3
          rw [e1]
          simp (disch := omega) only [nI_clamp, vpT, true_and, forall_eq, j1 k hk]
          intro k34 hk34
          have main : ∀ x33 : Int32, x33 = nI (mrN ((dl nd P r).1 k)) → k34 x33 := by
            intro x33 e33
            subst e33
            refine hk34 _ (hk29 _ _ (hag _ _ _ ⟨r + 1, ?_, fun i hi => ?_, hlf.1, Or.inl rfl⟩ ?_))
            · rw [e2, pk_sub h3]
            · rw [e2]
              show upd b k _ i = nI (if i = k then (dl nd P r).1 i + mrN ((dl nd P r).1 i) else (dl nd P r).1 i)
              by_cases hik : i = k
              · subst hik; rw [pk_us, if_pos rfl, nI_add]
              · rw [pk_un hik, if_neg hik]; exact j1 i hi
            · have h4 := mrN_pos ((dl nd P r).1 k)
              rw [pk_sub h3, nI_clamp (by omega), nI_clamp (by omega)]; omega
          refine ⟨fun q2 => main 2 ?_, fun q2 => main 1 ?_⟩
          · have hz0 : (dl nd P r).1 k = 0 := (nI_eq (b := 0) (by omega) (by omega)).mp q2
            rw [hz0]; rfl
          · have hz0 : (dl nd P r).1 k ≠ 0 := fun y => q2 (by rw [y]; rfl)
            unfold mrN; rw [if_neg hz0]; rfl
