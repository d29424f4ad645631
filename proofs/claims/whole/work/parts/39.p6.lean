/-! pure part 6: twins and scales. V column block: BANDS as SPLIT -/
abbrev mid (l r : Int32) : Int32 := (l + r) >>> ((1 : Int32) &&& 31)
def sumA (V : Nat → Nat → Int32) (b : Nat) : Nat → Int32
  | 0 => 0
  | k + 1 => sumA V b k + (jabs (V b k) + jabs (V (8 + b) k))
def sumP (V : Nat → Nat → Int32) (b : Nat) : Nat → Int32
  | 0 => 0
  | k + 1 => sumP V b k + (jabs (mid (V b k) (V (8 + b) k)) + jabs (V b k - V (8 + b) k))
abbrev isTw (V : Nat → Nat → Int32) (p : Int32) (b : Nat) : Prop := b < 7 ∧ p = 1 ∧ ¬ sumA V b 4 ≤ sumP V b 4
def tws (V : Nat → Nat → Int32) (p : Int32) : Nat → Int32
  | 0 => 0
  | n + 1 => if isTw V p n then tws V p n ||| (1 <<< (nI n &&& 31)) else tws V p n
def tld (V : Nat → Nat → Int32) (p : Int32) (c k : Nat) : Int32 := if isTw V p (c % 8) then (if c < 8 then mid (V c k) (V (8 + c) k) else V (c - 8) k - V c k) else V c k
def mxs (t : Nat → Int32) : Nat → Int32
  | 0 => 0
  | k + 1 => jmax (mxs t k) (jabs (t k))
def sclN (g : Int32) : Nat := fa_first (fun s => decide (¬ (1 : Int32) <<< (nI s &&& 31) ≤ g)) 15
abbrev scl (V : Nat → Nat → Int32) (p : Int32) (c : Nat) : Nat := sclN (mxs (tld V p c) 4)
theorem sclN_le (g : Int32) : sclN g ≤ 15 := fa_first_le _ _
theorem sclN_eq {g : Int32} {s : Nat} (h1 : s ≤ 15) (h2 : ∀ j, j < s → (1 : Int32) <<< (nI j &&& 31) ≤ g) (h3 : s < 15 → ¬ (1 : Int32) <<< (nI s &&& 31) ≤ g) : sclN g = s := by
  have a1 := fa_first_le (fun s => decide (¬ (1 : Int32) <<< (nI s &&& 31) ≤ g)) 15
  have a2 := fa_first_no (fun s => decide (¬ (1 : Int32) <<< (nI s &&& 31) ≤ g)) 15
  have a3 := fa_first_yes (fun s => decide (¬ (1 : Int32) <<< (nI s &&& 31) ≤ g)) 15
  unfold sclN
  rcases Nat.lt_trichotomy (fa_first (fun s => decide (¬ (1 : Int32) <<< (nI s &&& 31) ≤ g)) 15) s with h | h | h
  · have h4 := a3 (by omega)
    exact absurd (h2 _ h) (of_decide_eq_true h4)
  · exact h
  · have h4 := a2 s h
    exact absurd (h3 (by omega)) (of_decide_eq_false h4)
theorem t4_sumApart {V : Nat → Nat → Int32} {b : Nat} {split : Nat → Int32} {post : Int32 → Prop} (hb : b < 8) (hV : ∀ c, c < 16 → ∀ k, k < 4 → split (16 * k + c) = V c k) (h : post (sumA V b 4)) : wp_X4_sumApart (nI b) split post := by
  unfold wp_X4_sumApart
  rintro _ rfl _ rfl
  refine cstr1 b 16 64 4 (fun k s => s = sumA V b k) rfl ?_ ?_
  · rintro k _ hk rfl g hg
    simp (disch := omega) only [rA, nI_clamp, vpT, true_and, forall_eq]
    rw [show b + 16 * k + 16 = b + 16 * (k + 1) by omega]
    refine hg _ ?_
    rw [show b + 16 * k = 16 * k + b by omega, show 16 * k + b + 8 = 16 * k + (8 + b) by omega, hV b (by omega) k hk, hV (8 + b) (by omega) k hk]; rfl
  · rintro _ rfl; exact h
theorem t4_sumPaired {V : Nat → Nat → Int32} {b : Nat} {split : Nat → Int32} {post : Int32 → Prop} (hb : b < 8) (hV : ∀ c, c < 16 → ∀ k, k < 4 → split (16 * k + c) = V c k) (h : post (sumP V b 4)) : wp_X4_sumPaired (nI b) split post := by
  unfold wp_X4_sumPaired
  rintro _ rfl _ rfl
  refine cstr1 b 16 64 4 (fun k s => s = sumP V b k) rfl ?_ ?_
  · rintro k _ hk rfl g hg
    simp (disch := omega) only [rA, nI_clamp, vpT, true_and, forall_eq]
    rw [show b + 16 * k + 16 = b + 16 * (k + 1) by omega]
    refine hg _ ?_
    rw [show b + 16 * k = 16 * k + b by omega, show 16 * k + b + 8 = 16 * k + (8 + b) by omega, hV b (by omega) k hk, hV (8 + b) (by omega) k hk]; rfl
  · rintro _ rfl; exact h
theorem t4_makeTwin {V : Nat → Nat → Int32} {b : Nat} {split told : Nat → Int32} {post : (Nat → Int32) → Prop} (hb : b < 8) (hV : ∀ c, c < 16 → ∀ k, k < 4 → split (16 * k + c) = V c k)
    (h : ∀ told' : Nat → Int32, (∀ k, k < 4 → told' (16 * k + b) = mid (V b k) (V (8 + b) k) ∧ told' (16 * k + (8 + b)) = V b k - V (8 + b) k) → (∀ c, c < 16 → c ≠ b → c ≠ 8 + b → ∀ k, k < 4 → told' (16 * k + c) = told (16 * k + c)) → post told') : wp_X4_makeTwin (nI b) split told post := by
  unfold wp_X4_makeTwin
  rintro _ rfl
  refine cstr1 b 16 64 4 (fun n f => (∀ k, k < n → f (16 * k + b) = mid (V b k) (V (8 + b) k) ∧ f (16 * k + (8 + b)) = V b k - V (8 + b) k) ∧ (∀ c, c < 16 → c ≠ b → c ≠ 8 + b → ∀ k, k < 4 → f (16 * k + c) = told (16 * k + c))) ⟨fun k hk => absurd hk (Nat.not_lt_zero _), fun _ _ _ _ _ _ => rfl⟩ ?_ ?_
  · rintro n f hn ⟨i1, i2⟩ g hg
    simp (disch := omega) only [rA, nI_clamp, vpT, true_and, forall_eq]
    rw [show b + 16 * n + 16 = b + 16 * (n + 1) by omega, show b + 16 * n = 16 * n + b by omega, show 16 * n + b + 8 = 16 * n + (8 + b) by omega, hV b (by omega) n hn, hV (8 + b) (by omega) n hn]
    refine hg _ ⟨fun k hk => ?_, fun c hc h1 h2 k hk => ?_⟩
    · by_cases hkn : k = n
      · subst hkn
        rw [pk_un (by omega), pk_us, pk_us]; exact ⟨rfl, rfl⟩
      · rw [pk_un (by omega), pk_un (by omega), pk_un (by omega), pk_un (by omega)]; exact i1 k (by omega)
    · rw [pk_un (by omega), pk_un (by omega)]; exact i2 c hc h1 h2 k hk
  · rintro f ⟨i1, i2⟩; exact h f i1 i2
theorem t4_scaleOf {t : Nat → Int32} {c : Nat} {told : Nat → Int32} {post : Int32 → Prop} (hc : c < 16) (ht : ∀ k, k < 4 → told (16 * k + c) = t k) (h : post (nI (sclN (mxs t 4)))) : wp_X4_scaleOf (nI c) told post := by
  unfold wp_X4_scaleOf
  rintro _ rfl _ rfl
  refine cstr1 c 16 64 4 (fun k s => s = mxs t k) rfl ?_ ?_
  · rintro k _ hk rfl g hg
    simp (disch := omega) only [rA, nI_clamp, vpT, true_and, forall_eq]
    rw [show c + 16 * k + 16 = c + 16 * (k + 1) by omega]
    refine hg _ ?_
    rw [show c + 16 * k = 16 * k + c by omega, ht k hk]; rfl
  · rintro _ rfl _ rfl
    refine cinv0 0 15 (fun k => ∀ j, j < k → (1 : Int32) <<< (nI j &&& 31) ≤ mxs t 4) (fun j hj => absurd hj (Nat.not_lt_zero _)) ?_ ?_
    · intro k _ hk hI g hg
      refine ⟨fun hle => ?_, fun hle => ?_⟩
      · rw [nI_1]
        exact hg (fun j hj => by
          by_cases hjk : j = k
          · rw [hjk]; exact hle
          · exact hI j (by omega))
      · rwa [sclN_eq (by omega) hI (fun _ => hle)] at h
    · intro hI
      rwa [sclN_eq (by omega) hI (fun h9 => absurd h9 (by omega))] at h
set_option maxHeartbeats 4000000 in
set_option maxRecDepth 100000 in
theorem t4_tell {V : Nat → Nat → Int32} {p tw : Int32} {split told scales : Nat → Int32} {post : Int32 → (Nat → Int32) → (Nat → Int32) → Prop} (hV : ∀ c, c < 16 → ∀ k, k < 4 → split (16 * k + c) = V c k)
    (h : ∀ told' scales' : Nat → Int32, (∀ c, c < 16 → ∀ k, k < 4 → told' (16 * k + c) = tld V p c k) → (∀ c, c < 16 → scales' c = nI (scl V p c)) → post (tws V p 7) told' scales') : wp_X4_tell p tw split told scales post := by
  unfold wp_X4_tell
  rintro _ rfl _ rfl _ rfl
  refine cinv2 0 7 (fun n w f => w = tws V p n ∧ (∀ c, c < 16 → c % 8 < n → ∀ k, k < 4 → f (16 * k + c) = tld V p c k) ∧ (∀ c, c < 16 → n ≤ c % 8 → ∀ k, k < 4 → f (16 * k + c) = V c k)) ⟨rfl, fun c _ h0 => absurd h0 (Nat.not_lt_zero _), fun c hc _ k hk => by rw [pk_cpy_in (by omega) (by omega), Nat.sub_zero, Nat.zero_add]; exact hV c hc k hk⟩ ?_ ?_
  · rintro n w f - hn ⟨rfl, i1, i2⟩ g hg k21 hk21
    rw [nI_1] at hk21
    have no : ¬ isTw V p n → k21 (tws V p n) f := fun hno => by
      refine hk21 _ _ (hg _ _ ⟨?_, fun c hc hl k hk => ?_, fun c hc hl k hk => i2 c hc (by omega) k hk⟩)
      · rw [tws, if_neg hno]
      · by_cases hcn : c % 8 = n
        · rw [i2 c hc (by omega) k hk]; unfold tld; rw [hcn, if_neg hno]
        · exact i1 c hc (by omega) k hk
    refine ⟨fun hp => ?_, fun hp => no (fun q => hp q.2.1)⟩
    refine t4_sumPaired (by omega) hV ?_
    refine t4_sumApart (by omega) hV ?_
    refine ⟨fun hs => no (fun q => q.2.2 hs), fun hs => ?_⟩
    have yes : isTw V p n := ⟨hn, hp, hs⟩
    rintro _ rfl
    refine t4_makeTwin (by omega) hV (fun told' j1 j2 => ?_)
    refine hk21 _ _ (hg _ _ ⟨?_, fun c hc hl k hk => ?_, fun c hc hl k hk => ?_⟩)
    · rw [tws, if_pos yes]
    · by_cases hcn : c % 8 = n
      · unfold tld; rw [hcn, if_pos yes]
        by_cases h8 : c < 8
        · have hc0 : c = n := by omega
          subst hc0; rw [if_pos h8]; exact (j1 k hk).1
        · have hc0 : c = 8 + n := by omega
          subst hc0; rw [if_neg h8, show 8 + n - 8 = n by omega]; exact (j1 k hk).2
      · rw [j2 c hc (by omega) (by omega) k hk]; exact i1 c hc (by omega) k hk
    · rw [j2 c hc (by omega) (by omega) k hk]; exact i2 c hc (by omega) k hk
  · rintro w f ⟨rfl, i1, i2⟩ _ rfl
    have hT : ∀ c, c < 16 → ∀ k, k < 4 → f (16 * k + c) = tld V p c k := fun c hc k hk => by
      by_cases h7 : c % 8 < 7
      · exact i1 c hc h7 k hk
      · rw [i2 c hc (by omega) k hk]; unfold tld; rw [if_neg (fun q => h7 q.1)]
    refine cinv1 0 16 (fun n s => ∀ c, c < n → s c = nI (scl V p c)) (fun c hc => absurd hc (Nat.not_lt_zero _)) ?_ ?_
    · intro n s _ hn hI g hg
      refine t4_scaleOf hn (hT n hn) ?_
      simp (disch := omega) only [rA, nI_clamp, vpT, true_and, forall_eq]
      refine hg _ (fun c hc => ?_)
      by_cases hcn : c = n
      · subst hcn; rw [pk_us]
      · rw [pk_un hcn]; exact hI c (by omega)
    · intro s hI
      exact h f s hT (fun c hc => hI c hc)
theorem t12_sizes {V : Nat → Nat → Int32} {b : Nat} {row : Nat → Int32} {post : Int32 → Prop} (hb : b < 8) (hV : ∀ c, c < 16 → ∀ k, k < 4 → row (493 + (4 * c + k)) = V c k) (v : Int32) (h : post (if v = 0 then sumA V b 4 else sumP V b 4)) : wp_X12_sizes (nI b) v row post := by
  unfold wp_X12_sizes
  rintro _ rfl _ rfl
  refine cinv1 0 4 (fun k s => s = if v = 0 then sumA V b k else sumP V b k) (by by_cases hv : v = 0 <;> simp [hv, sumA, sumP]) ?_ ?_
  · rintro k _ - hk rfl g hg
    unfold wp_X12_bandAt
    simp (disch := omega) only [lL, rA, lA, lM, nI_add, nI_clamp, vpT, true_and, forall_eq, Nat.mul_zero, Nat.mul_one, Nat.zero_add]
    have e0 := hV b (by omega) k hk
    have e1 := hV (8 + b) (by omega) k hk
    rw [show 493 + (4 * (8 + b) + k) = 493 + (32 + 4 * b + k) by omega] at e1
    rw [e0, e1]
    intro k15 hk15
    refine ⟨fun hv => ?_, fun hv => ?_⟩
    · refine t_size (t_size (hk15 _ (hg _ ?_)))
      rw [if_pos hv, if_pos hv]; rfl
    · unfold wp_X12_middle
      refine t_size (t_size (hk15 _ (hg _ ?_)))
      rw [if_neg hv, if_neg hv]; rfl
  · rintro _ rfl; exact h
theorem t12_scaleOf {t : Nat → Int32} {c : Nat} {row : Nat → Int32} {post : Int32 → Prop} (hc : c < 16) (ht : ∀ k, k < 4 → row (557 + (4 * c + k)) = t k) (h : post (nI (sclN (mxs t 4)))) : wp_X12_scaleOf (nI c) row post := by
  have hmx : ∀ (s : Nat), s < 15 → ∀ n, ((1 : Int32) <<< (nI s &&& 31) ≤ mxs t n ↔ ∃ k, k < n ∧ (1 : Int32) <<< (nI s &&& 31) ≤ jabs (t k)) := by
    intro s hs n
    induction n with
    | zero =>
      have h0 : ∀ s, s < 15 → ¬ (1 : Int32) <<< (nI s &&& 31) ≤ 0 := by decide
      exact ⟨fun q => absurd q (h0 s hs), fun ⟨k, hk, _⟩ => absurd hk (Nat.not_lt_zero _)⟩
    | succ n ih =>
      rw [mxs]
      have hj : ∀ a b d : Int32, d ≤ jmax a b ↔ d ≤ a ∨ d ≤ b := by
        intro a b d
        unfold jmax
        by_cases q : a < b
        · rw [if_pos q]
          refine ⟨Or.inr, fun r => ?_⟩
          rcases r with r | r
          · rw [fa_le] at r ⊢; rw [fa_lt] at q; omega
          · exact r
        · rw [if_neg q]
          refine ⟨Or.inl, fun r => ?_⟩
          rcases r with r | r
          · exact r
          · rw [fa_le] at r ⊢; rw [fa_lt] at q; omega
      rw [hj, ih]
      constructor
      · rintro (⟨k, hk, q⟩ | q)
        · exact ⟨k, by omega, q⟩
        · exact ⟨n, by omega, q⟩
      · rintro ⟨k, hk, q⟩
        by_cases hkn : k = n
        · subst hkn; exact Or.inr q
        · exact Or.inl ⟨k, by omega, q⟩
  unfold wp_X12_scaleOf
  rintro _ rfl
  refine cinv0 0 15 (fun k => ∀ j, j < k → (1 : Int32) <<< (nI j &&& 31) ≤ mxs t 4) (fun j hj => absurd hj (Nat.not_lt_zero _)) ?_ ?_
  · intro s _ hs hI g hg
    rintro _ rfl _ rfl
    refine cinv1 0 4 (fun n so => (so = 0 ∧ ∃ k, k < n ∧ (1 : Int32) <<< (nI s &&& 31) ≤ jabs (t k)) ∨ (so = 1 ∧ ∀ k, k < n → ¬ (1 : Int32) <<< (nI s &&& 31) ≤ jabs (t k))) (Or.inr ⟨rfl, fun k hk => absurd hk (Nat.not_lt_zero _)⟩) ?_ ?_
    · intro n so _ hn hso g8 hg8 k15 hk15 k17 hk17
      rw [nI_1] at hk15
      refine ⟨fun q => hk17 (hk15 _ (hg8 _ ?_)), fun q => ?_⟩
      · rcases hso with ⟨_, k, hk, r⟩ | ⟨r, _⟩
        · exact Or.inl ⟨rfl, k, by omega, r⟩
        · rw [r] at q; exact absurd q (by decide)
      · have hall : ∀ k, k < n → ¬ (1 : Int32) <<< (nI s &&& 31) ≤ jabs (t k) := by
          rcases hso with ⟨r, _⟩ | ⟨_, r⟩
          · exact absurd r q
          · exact r
        simp (disch := omega) only [lA, lM, nI_add, nI_clamp, vpT, true_and]
        have e := ht n hn
        rw [show 557 + (4 * c + n) = 557 + 4 * c + n by omega] at e
        rw [e]
        refine t_size ⟨fun r => hk17 (hk15 _ (hg8 _ (Or.inl ⟨rfl, n, by omega, r⟩))), fun r => hk15 _ (hg8 _ (Or.inr ⟨rfl, fun k hk => ?_⟩))⟩
        by_cases hkn : k = n
        · subst hkn; exact r
        · exact hall k (by omega)
    · intro so hso
      rcases hso with ⟨rfl, hex⟩ | ⟨rfl, hall⟩
      · refine ⟨fun _ => ?_, fun q => absurd rfl q⟩
        rw [nI_1]
        refine hg (fun j hj => ?_)
        by_cases hjs : j = s
        · subst hjs; exact (hmx j hs 4).mpr hex
        · exact hI j (by omega)
      · refine ⟨fun q => absurd q (by decide), fun _ => ?_⟩
        have hno : ¬ (1 : Int32) <<< (nI s &&& 31) ≤ mxs t 4 := fun q => by
          obtain ⟨k, hk, r⟩ := (hmx s hs 4).mp q
          exact hall k hk r
        rwa [sclN_eq (by omega) hI (fun _ => hno)] at h
  · intro hI
    rwa [sclN_eq (by omega) hI (fun h9 => absurd h9 (by omega))] at h
