/-! pure part 29: LAG; FRAMES made up -/
/-- samples kept, in their range -/
def inR (h : Nat → Int32) (n : Nat) : Prop := ∀ j, j < n → -2048 ≤ (h j).toInt ∧ (h j).toInt ≤ 2047
def adN (h : Nat → Int32) (d i : Nat) : Nat := ((h (160 + i)).toInt - (h (160 + i - d)).toInt).natAbs
def lgS (h : Nat → Int32) (d : Nat) : Nat := fb_sm (adN h d) 32
def lb (S : Nat → Nat) : Nat → Nat × Nat
  | 0 => (0, 2147483647)
  | n + 1 => if S (16 + n) < (lb S n).2 then (16 + n, S (16 + n)) else lb S n
def lagN (h : Nat → Int32) : Nat := (lb (lgS h) 105).1
def lagS (h : Nat → Int32) : Nat := (lb (lgS h) 105).2
theorem ad_eq {h : Nat → Int32} {d i : Nat} (hr : inR h 192) (hd : d ≤ 160) (hi : i < 32) : jabs (h (160 + i) - h (160 + i - d)) = nI (adN h d i) ∧ adN h d i ≤ 4095 := by
  have h1 := hr (160 + i) (by omega)
  have h2 := hr (160 + i - d) (by omega)
  have e : (h (160 + i) - h (160 + i - d)).toInt = (h (160 + i)).toInt - (h (160 + i - d)).toInt := fb_subI (by omega) (by omega)
  have hb : adN h d i ≤ 4095 := by unfold adN; omega
  have z : (0 : Int32).toInt = 0 := by decide
  refine ⟨?_, hb⟩
  apply Int32.toInt_inj.mp
  rw [nI_toInt (by omega)]
  unfold jabs
  by_cases q : 0 ≤ h (160 + i) - h (160 + i - d)
  · rw [if_pos q, e]; rw [fa_le, e, z] at q; unfold adN; omega
  · rw [if_neg q]; rw [fa_le, e, z] at q
    rw [fb_subI, e, z]
    · unfold adN; omega
    · rw [e, z]; omega
    · rw [e, z]; omega
theorem sm_le {h : Nat → Int32} {d : Nat} (hr : inR h 192) (hd : d ≤ 160) : ∀ n, n ≤ 32 → fb_sm (adN h d) n ≤ n * 4095
  | 0, _ => Nat.zero_le _
  | n + 1, hn => by
    have := sm_le hr hd n (by omega)
    have := (ad_eq hr hd (show n < 32 by omega)).2
    rw [fb_sm_succ]; omega
theorem lb_in {S : Nat → Nat} (hS : ∀ d, d ≤ 120 → S d < 2147483647) : ∀ n, n ≤ 105 → (0 < n → 16 ≤ (lb S n).1 ∧ (lb S n).1 < 16 + n ∧ (lb S n).2 < 2147483647) ∧ (lb S n).2 ≤ 2147483647
  | 0, _ => ⟨fun h => absurd h (Nat.lt_irrefl _), Nat.le_refl _⟩
  | n + 1, hn => by
    have ih := lb_in hS n (by omega)
    have h1 := hS (16 + n) (by omega)
    rw [lb]
    by_cases q : S (16 + n) < (lb S n).2
    · rw [if_pos q]; exact ⟨fun _ => ⟨by omega, by omega, h1⟩, by show S (16 + n) ≤ _; omega⟩
    · rw [if_neg q]
      have h0 : 0 < n := by
        rcases Nat.eq_zero_or_pos n with z | z
        · subst z; exact absurd h1 q
        · exact z
      have := ih.1 h0
      exact ⟨fun _ => ⟨by omega, by omega, by omega⟩, ih.2⟩
theorem lag_in {h : Nat → Int32} (hr : inR h 192) : 16 ≤ lagN h ∧ lagN h ≤ 120 ∧ lagS h < 2147483647 := by
  have hS : ∀ d, d ≤ 120 → lgS h d < 2147483647 := fun d hd => by have := sm_le hr (show d ≤ 160 by omega) 32 (by omega); unfold lgS; omega
  have := (lb_in hS 105 (by omega)).1 (by omega)
  unfold lagN lagS
  omega
theorem g120 (x : Int32) : ((120 : Int32) < x) = (nI 121 ≤ x) := by
  apply propext
  rw [fa_lt, fa_le, show (120 : Int32).toInt = 120 by decide, show (nI 121).toInt = 121 by decide]; omega
theorem i32le {a b : Nat} (ha : a ≤ 2147483647) (hb : b ≤ 2147483647) : nI a ≤ nI b ↔ a ≤ b := nI_leI (by omega) (by omega)
set_option maxHeartbeats 4000000 in
set_option maxRecDepth 100000 in
theorem t3_findLag {lag0 sum0 : Int32} {row : Nat → Int32} {post : Int32 → Int32 → Prop} (hr : inR row 192) (h : post (nI (lagN row)) (nI (lagS row))) : wp_X3_findLag lag0 sum0 row post := by
  have hS : ∀ d, d ≤ 120 → lgS row d < 2147483647 := fun d hd => by have := sm_le hr (show d ≤ 160 by omega) 32 (by omega); unfold lgS; omega
  unfold wp_X3_findLag
  simp only [g120]
  rintro x1 e1 x2 e2
  refine cinv2 16 121 (fun n la su => su = nI (lb (lgS row) (n - 16)).2 ∧ (16 < n → la = nI (lb (lgS row) (n - 16)).1)) ⟨e2, fun q => absurd q (by omega)⟩ ?_ ?_ e1
  · rintro d la su hd1 hd2 ⟨rfl, hla⟩ g hg
    rintro x9 e9 x10 e10
    have hb := (lb_in hS (d - 16) (by omega)).2
    have hstep : lb (lgS row) (d + 1 - 16) = if lgS row d < (lb (lgS row) (d - 16)).2 then (d, lgS row d) else lb (lgS row) (d - 16) := by
      rw [show d + 1 - 16 = (d - 16) + 1 by omega, lb, show 16 + (d - 16) = d by omega]
    have hfull : lgS row d ≤ 131040 := by have := sm_le hr (show d ≤ 160 by omega) 32 (by omega); unfold lgS; omega
    refine Lz2_by (fun x s => ∃ i, i ≤ 32 ∧ x = nI (160 + i) ∧ s = nI (fb_sm (adN row d) i)) (fun x _ => 192 - x.toNatClampNeg) _ _ ⟨0, by omega, e9, e10⟩ ?_
    rintro x s ⟨i, hi, rfl, rfl⟩ again hag k15 hk15
    have hpi := sm_le hr (show d ≤ 160 by omega) i hi
    have keep : (lb (lgS row) (d - 16)).2 ≤ lgS row d → g (nI (d + 1)) la (nI (lb (lgS row) (d - 16)).2) := fun q => by
      refine hg _ _ ⟨?_, fun _ => ?_⟩
      · rw [hstep, if_neg (by omega)]
      · rw [hstep, if_neg (by omega)]
        refine hla ?_
        rcases Nat.lt_or_ge 16 d with y | y
        · exact y
        · have h16 : d - 16 = 0 := by omega
          rw [h16] at q
          have : (lb (lgS row) 0).2 = 2147483647 := rfl
          omega
    have stop : (i = 32 ∨ (lb (lgS row) (d - 16)).2 ≤ fb_sm (adN row d) i) → k15 := fun q => by
      refine hk15 (fun k19 hk19 => ?_)
      rw [nI_1] at hk19
      have hmono : fb_sm (adN row d) i ≤ lgS row d := by
        have := fb_sm_mono (adN row d) i (32 - i)
        rw [show i + (32 - i) = 32 by omega] at this
        exact this
      refine ⟨fun y => ?_, fun y => ?_⟩
      · have hy := (i32le hb (by omega)).mp y
        exact hk19 _ _ (keep (by omega))
      · have hy : ¬ (lb (lgS row) (d - 16)).2 ≤ fb_sm (adN row d) i := fun y2 => y ((i32le hb (by omega)).mpr y2)
        have hi32 : i = 32 := by omega
        subst hi32
        have hs32 : lgS row d = fb_sm (adN row d) 32 := rfl
        refine hk19 _ _ (hg _ _ ⟨?_, fun _ => ?_⟩)
        · rw [hstep, if_pos (by omega), hs32]
        · rw [hstep, if_pos (by omega)]
    refine ⟨fun q => stop (Or.inl ?_), fun q => ⟨fun y => stop (Or.inr ((i32le hb (by omega)).mp y)), fun y => ?_⟩⟩
    · have := (nI_leI (a := 192) (by omega) (by omega)).mp q
      omega
    · have hi2 : i < 32 := by
        rcases Nat.lt_or_ge i 32 with z | z
        · exact z
        · exact absurd ((nI_leI (a := 192) (by omega) (by omega)).mpr (by omega)) q
      obtain ⟨ea, hea⟩ := ad_eq hr (show d ≤ 160 by omega) hi2
      simp (disch := omega) only [pk_sub, nI_clamp, vpT, true_and, forall_eq, ea, nI_add, rA]
      refine hag (nI (160 + i + 1)) _ ⟨i + 1, by omega, rfl, by rw [fb_sm_succ]⟩ ?_
      show 192 - (nI (160 + i + 1)).toNatClampNeg < 192 - (nI (160 + i)).toNatClampNeg
      rw [nI_clamp (show 160 + i + 1 < 2 ^ 31 by omega), nI_clamp (show 160 + i < 2 ^ 31 by omega)]
      omega
  · rintro la su ⟨h1, h2⟩
    rw [h1, h2 (by omega)]; exact h
set_option maxHeartbeats 4000000 in
set_option maxRecDepth 100000 in
theorem t12_findLag {lag0 sum0 : Int32} {row : Nat → Int32} {post : Int32 → Int32 → Prop} (hr : inR row 192) (h : post (nI (lagN row)) (nI (lagS row))) : wp_X12_findLag lag0 sum0 row post := by
  have hS : ∀ d, d ≤ 120 → lgS row d < 2147483647 := fun d hd => by have := sm_le hr (show d ≤ 160 by omega) 32 (by omega); unfold lgS; omega
  unfold wp_X12_findLag
  simp only [g120]
  rintro x1 e1 x2 e2
  refine cinv2 16 121 (fun n la su => la = nI (lb (lgS row) (n - 16)).1 ∧ (16 < n → su = nI (lb (lgS row) (n - 16)).2)) ⟨e2, fun q => absurd q (by omega)⟩ ?_ ?_ e1
  · rintro d la su hd1 hd2 ⟨rfl, hsu⟩ g hg
    rintro x9 e9 _ rfl
    have hb := lb_in hS (d - 16) (by omega)
    have hstep : lb (lgS row) (d + 1 - 16) = if lgS row d < (lb (lgS row) (d - 16)).2 then (d, lgS row d) else lb (lgS row) (d - 16) := by
      rw [show d + 1 - 16 = (d - 16) + 1 by omega, lb, show 16 + (d - 16) = d by omega]
    have hfull : lgS row d ≤ 131040 := by have := sm_le hr (show d ≤ 160 by omega) 32 (by omega); unfold lgS; omega
    refine cinv1 160 192 (fun n s => s = nI (fb_sm (adN row d) (n - 160))) rfl ?_ ?_ e9
    · rintro n _ hn1 hn2 rfl g11 hg11
      obtain ⟨i, rfl⟩ : ∃ i, n = 160 + i := ⟨n - 160, by omega⟩
      obtain ⟨ea, hea⟩ := ad_eq hr (show d ≤ 160 by omega) (show i < 32 by omega)
      simp (disch := omega) only [pk_sub, nI_clamp, vpT, true_and]
      refine t_size ?_
      rw [ea]
      rintro _ rfl
      rw [nI_1, show 160 + i - 160 = i by omega, nI_add]
      refine hg11 _ ?_
      rw [show 160 + i + 1 - 160 = i + 1 by omega, fb_sm_succ]
    · rintro _ rfl k18 hk18 k20 hk20
      rw [nI_1] at hk18
      have hs32 : fb_sm (adN row d) (192 - 160) = lgS row d := rfl
      rw [hs32] at hk20 ⊢
      have take : lgS row d < (lb (lgS row) (d - 16)).2 → k20 := fun q => hk20 (hk18 _ _ (hg _ _ ⟨by rw [hstep, if_pos q], fun _ => by rw [hstep, if_pos q]⟩))
      by_cases h16 : d = 16
      · subst h16
        have e0 : (lb (lgS row) (16 - 16)) = (0, 2147483647) := rfl
        refine ⟨fun _ => take (by rw [e0]; show lgS row 16 < 2147483647; omega), fun q => absurd (by rw [e0]; rfl) q⟩
      · have hh := hb.1 (by omega)
        refine ⟨fun q => ?_, fun _ => ?_⟩
        · have := (nI_eq (b := 0) (by omega) (by omega)).mp q
          omega
        · rw [hsu (by omega)]
          refine ⟨fun y => ?_, fun y => ?_⟩
          · have hy := (i32le hb.2 (by omega)).mp y
            refine hk18 _ _ (hg _ _ ⟨by rw [hstep, if_neg (by omega)], fun _ => by rw [hstep, if_neg (by omega)]⟩)
          · have hy : ¬ (lb (lgS row) (d - 16)).2 ≤ lgS row d := fun y2 => y ((i32le hb.2 (by omega)).mpr y2)
            exact take (by omega)
  · rintro la su ⟨h1, h2⟩
    rw [h1, h2 (by omega)]; exact h
