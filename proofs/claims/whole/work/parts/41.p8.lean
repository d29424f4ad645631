/-! pure part 8: the reference's splitFrame -/
theorem memS_c {m m' s s' : Nat → Int32} (hm : ∀ i, i < 14 → m i = m' i) : ∀ n, (∀ i, i < 8 * n → s i = s' i) → ∀ i, i < 14 → memS m s n i = memS m' s' n i
  | 0, _ => hm
  | n + 1, hs => fun i hi => by
    rw [memS, memS]
    exact (sp_c (memS_c hm n (fun i hi => hs i (by omega))) (fun j hj => hs (8 * n + j) (by omega))).2 i hi
theorem bandS_c {m m' s s' : Nat → Int32} {k : Nat} (hm : ∀ i, i < 14 → m i = m' i) (hs : ∀ i, i < 8 * (k + 1) → s i = s' i) (j : Nat) (hj : j < 8) : bandS m s k j = bandS m' s' k j :=
  (sp_c (memS_c hm k (fun i hi => hs i (by omega))) (fun j hj => hs (8 * k + j) (by omega))).1 j hj
/-- SAMPLES of FRAME k of CHANNEL c by the reference's row -/
abbrev smR (row : Nat → Int32) (sd k c : Nat) : Nat → Int32 := fun i => smp (row c) (row (2 + c)) (row (4 + c)) sd c (32 * k + i)
abbrev mcR (row : Nat → Int32) (c : Nat) : Nat → Int32 := fun i => row (53 + 14 * c + i)
abbrev VR (row : Nat → Int32) (sd k : Nat) : Nat → Nat → Int32 := fun c b => bandS (mcR row (c / 8)) (smR row sd k (c / 8)) b (c % 8)
set_option maxHeartbeats 4000000 in
set_option maxRecDepth 100000 in
theorem t12_splitFrame {k sd : Nat} {S D : Int32} {row eight rows : Nat → Int32} {post : Int32 → Int32 → (Nat → Int32) → (Nat → Int32) → (Nat → Int32) → Prop} (hk : k < 3000) (hsd : sd < 1000000) (hp : ∀ c, c < 2 → ¬ row c = 0) (hm : ∀ c, c < 2 → ¬ 2 * row (4 + c) + 1 = 0) (hs : row 6 = nI sd)
    (h : ∀ (S' D' : Int32) (eight' rows' row' : Nat → Int32), (∀ c, c < 2 → ∀ i, i < 14 → row' (53 + 14 * c + i) = memS (mcR row c) (smR row sd k c) 4 i) → (∀ c, c < 16 → ∀ b, b < 4 → row' (493 + (4 * c + b)) = VR row sd k c b) → (∀ j, (j < 53 ∨ 81 ≤ j) → (j < 493 ∨ 557 ≤ j) → row' j = row j) → post S' D' row' eight' rows') : wp_X12_splitFrame (nI k) S D row eight rows post := by
  unfold wp_X12_splitFrame
  rintro _ rfl
  refine cinv5 0 2 (fun c _ _ f _ _ => (∀ c', c' < c → ∀ i, i < 14 → f (53 + 14 * c' + i) = memS (mcR row c') (smR row sd k c') 4 i) ∧ (∀ c', c' < 8 * c → ∀ b, b < 4 → f (493 + (4 * c' + b)) = VR row sd k c' b) ∧ (∀ j, (j < 53 ∨ 53 + 14 * c ≤ j) → (j < 493 ∨ 493 + 32 * c ≤ j) → f j = row j)) ⟨fun c hc => absurd hc (Nat.not_lt_zero _), fun c hc => absurd hc (by omega), fun _ _ _ => rfl⟩ ?_ ?_
  · rintro c s d f e r - hc ⟨i1, i2, i3⟩ g hg
    rintro _ rfl
    refine cinv5 0 4 (fun n _ _ f' _ _ => (∀ i, i < 14 → f' (53 + 14 * c + i) = memS (mcR row c) (smR row sd k c) n i) ∧ (∀ b, b < 8 → ∀ q, q < n → f' (493 + (4 * (8 * c + b) + q)) = bandS (mcR row c) (smR row sd k c) q b) ∧ (∀ j, (j < 53 + 14 * c ∨ 53 + 14 * c + 14 ≤ j) → (j < 493 + 32 * c ∨ 493 + 32 * c + 32 ≤ j) → f' j = f j)) ⟨fun i hi => i3 _ (by omega) (by omega), fun b hb q hq => absurd hq (Nat.not_lt_zero _), fun _ _ _ => rfl⟩ ?_ ?_
    · rintro n s d f' e r - hn ⟨j1, j2, j3⟩ g12 hg12
      rintro _ rfl
      have lo : ∀ j, j < 53 → f' j = row j := fun j hj => by rw [j3 j (by omega) (by omega)]; exact i3 j (by omega) (by omega)
      refine cinv1 0 8 (fun i e' => ∀ t, t < i → e' t = smR row sd k c (8 * n + t)) (fun t ht => absurd ht (Nat.not_lt_zero _)) ?_ ?_
      · intro i e' _ hi hI g22 hg22
        simp only [lM, nI_add]
        refine t_sample hc (by omega) hsd (by rw [lo _ (by omega)]; exact hp c hc) (by rw [lo _ (by omega)]; exact hm c hc) (by rw [lo _ (by omega)]; exact hs) ?_
        simp (disch := omega) only [rA, nI_clamp, vpT, true_and, forall_eq]
        refine hg22 _ (fun t ht => ?_)
        by_cases hti : t = i
        · subst hti
          rw [pk_us, lo _ (by omega), lo _ (by omega), lo _ (by omega), show 32 * k + 8 * n + t = 32 * k + (8 * n + t) by omega]
        · rw [pk_un hti]; exact hI t (by omega)
      · intro e' hE
        simp only [lA, lM]
        refine t12_splitBlock (by omega) (by omega) (fun S1 D1 r1 e1 f1 a1 a2 a3 => ?_)
        have hcg := sp_c (m := fun i => f' (53 + 14 * c + i)) (m' := memS (mcR row c) (smR row sd k c) n) (x := e') (x' := fun t => smR row sd k c (8 * n + t)) j1 (fun t ht => hE t (by omega))
        have a1' : ∀ b, b < 8 → e1 b = bandS (mcR row c) (smR row sd k c) n b := fun b hb => by rw [a1 b hb]; exact hcg.1 b hb
        have a2' : ∀ i, i < 14 → f1 (53 + 14 * c + i) = memS (mcR row c) (smR row sd k c) (n + 1) i := fun i hi => by rw [a2 i hi]; exact hcg.2 i hi
        rintro _ rfl
        refine cinv1 0 8 (fun b f2 => (∀ t, t < b → f2 (493 + (4 * (8 * c + t) + n)) = e1 t) ∧ (∀ j, (∀ t, t < 8 → j ≠ 493 + (4 * (8 * c + t) + n)) → f2 j = f1 j)) ⟨fun t ht => absurd ht (Nat.not_lt_zero _), fun _ _ => rfl⟩ ?_ ?_
        · rintro b f2 - hb ⟨b1, b2⟩ g33 hg33
          unfold wp_X12_bandAt
          simp (disch := omega) only [lA, rA, lM, nI_add, nI_clamp, vpT, true_and, forall_eq]
          refine hg33 _ ⟨fun t ht => ?_, fun j hj => ?_⟩
          · by_cases htb : t = b
            · subst htb
              rw [show 493 + (4 * (8 * c + t) + n) = 493 + (32 * c + 4 * t + n) by omega, pk_us]
            · rw [pk_un (by omega)]; exact b1 t (by omega)
          · rw [pk_un (by have := hj b hb; omega)]; exact b2 j hj
        · rintro f2 ⟨b1, b2⟩
          rw [nI_1]
          refine hg12 _ _ _ _ _ ⟨fun i hi => ?_, fun b hb q hq => ?_, fun j h1 h2 => ?_⟩
          · rw [b2 _ (fun t ht => by omega)]; exact a2' i hi
          · by_cases hqn : q = n
            · subst hqn; rw [b1 b hb]; exact a1' b hb
            · rw [b2 _ (fun t ht => by omega), a3 _ (by omega)]; exact j2 b hb q (by omega)
          · rw [b2 _ (fun t ht => by omega), a3 _ (by omega)]; exact j3 j h1 h2
    · rintro s d f' e r ⟨j1, j2, j3⟩
      rw [nI_1]
      refine hg _ _ _ _ _ ⟨fun c' hc' i hi => ?_, fun c' hc' b hb => ?_, fun j h1 h2 => ?_⟩
      · by_cases hcc : c' = c
        · subst hcc; exact j1 i hi
        · rw [j3 _ (by omega) (by omega)]; exact i1 c' (by omega) i hi
      · by_cases hcc : c' < 8 * c
        · rw [j3 _ (by omega) (by omega)]; exact i2 c' hcc b hb
        · have h9 := j2 (c' - 8 * c) (by omega) b hb
          rw [show 8 * c + (c' - 8 * c) = c' by omega] at h9
          rw [h9]
          show _ = bandS (mcR row (c' / 8)) (smR row sd k (c' / 8)) b (c' % 8)
          rw [show c' / 8 = c by omega, show c' % 8 = c' - 8 * c by omega]
      · rw [j3 _ (by omega) (by omega)]; exact i3 j (by omega) (by omega)
  · rintro s d f e r ⟨i1, i2, i3⟩
    exact h _ _ _ _ _ i1 (fun c hc b hb => i2 c (by omega) b hb) (fun j h1 h2 => i3 j (by omega) (by omega))
