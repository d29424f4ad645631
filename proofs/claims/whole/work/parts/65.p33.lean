/-! pure part 33: the reference hears a CODE -/
set_option maxHeartbeats 4000000 in
set_option maxRecDepth 100000 in
theorem t12_join2 {bk_ : Nat → Int32} {Z : Nat → Nat → Int32} {S D : Int32} {row eight rows comes : Nat → Int32} {post : Int32 → Int32 → (Nat → Int32) → (Nat → Int32) → (Nat → Int32) → (Nat → Int32) → Prop} {c : Nat} (hc : c < 2) (hb : ∀ c, c < 16 → ∀ b, b < 4 → bk_ (4 * c + b) = Z c b)
    (h : ∀ (S' D' : Int32) (row' eight' rows' comes' : Nat → Int32), (∀ i, i < 14 → row' (81 + 14 * c + i) = memJ (fun i => row (81 + 14 * c + i)) (fun k j => Z (8 * c + j) k) 4 i) → (∀ j, (j < 81 + 14 * c ∨ 81 + 14 * c + 14 ≤ j) → row' j = row j) → (∀ i, i < 32 → comes' (32 * c + i) = hrF (fun i => row (81 + 14 * c + i)) (fun k j => Z (8 * c + j) k) i) → (∀ j, (j < 32 * c ∨ 32 * c + 32 ≤ j) → comes' j = comes j) → post S' D' row' eight' rows' comes') :
    Lz7 (fun g38 (x40 : Int32) (x41 : Int32) (x42 : Int32) (f43 : Nat → Int32) (f44 : Nat → Int32) (f45 : Nat → Int32) (f46 : Nat → Int32) => ((4 : Int32) ≤ x40 → post x41 x42 f43 f44 f45 f46) ∧ (¬ (4 : Int32) ≤ x40 → ∀ x48, x48 = (0 : Int32) → Lz2 (fun g49 (x51 : Int32) (f52 : Nat → Int32) => ((8 : Int32) ≤ x51 → wp_X12_joinBlock 13385 ((81 : Int32) + ((14 : Int32) * nI c)) x41 x42 f52 f43 f45 (fun x54 x55 f56 f57 f58 => ∀ x59, x59 = (0 : Int32) → Lz2 (fun g60 (x62 : Int32) (f63 : Nat → Int32) => ((8 : Int32) ≤ x62 → g38 (x40 + 1) x54 x55 f57 f56 f58 f63) ∧ (¬ (8 : Int32) ≤ x62 → vp_in x62 8 ∧ wp_X12_nearest ((f56 x62.toNatClampNeg).toInt64) (-2048 : Int64) (2047 : Int64) (fun r66 => vp_in ((((32 : Int32) * nI c) + ((8 : Int32) * x40)) + x62) 64 ∧ ∀ f68 : Nat → Int32, f68 = upd f63 ((((32 : Int32) * nI c) + ((8 : Int32) * x40)) + x62).toNatClampNeg r66 → g60 (x62 + 1) f68))) x59 f46)) ∧ (¬ (8 : Int32) ≤ x51 → wp_X12_bandAt (nI c) x51 x40 (fun r69 => vp_in r69 64 ∧ vp_in x51 8 ∧ ∀ f72 : Nat → Int32, f72 = upd f52 x51.toNatClampNeg (bk_ r69.toNatClampNeg) → g49 (x51 + 1) f72))) x48 f44)) 0 S D row eight rows comes := by
  generalize hX : (fun k j => Z (8 * c + j) k) = X at h
  have hXe : ∀ k j, Z (8 * c + j) k = X k j := fun k j => by rw [← hX]
  generalize hM : (fun i => row (81 + 14 * c + i)) = m at h
  have hMe : ∀ i, row (81 + 14 * c + i) = m i := fun i => by rw [← hM]
  refine cinv6 0 4 (fun k _ _ f _ _ e => (∀ i, i < 14 → f (81 + 14 * c + i) = memJ m X k i) ∧ (∀ j, (j < 81 + 14 * c ∨ 81 + 14 * c + 14 ≤ j) → f j = row j) ∧ (∀ i, i < 8 * k → e (32 * c + i) = hrF m X i) ∧ (∀ j, (j < 32 * c ∨ 32 * c + 32 ≤ j) → e j = comes j)) ⟨fun i hi => hMe i, fun _ _ => rfl, fun i hi => absurd hi (Nat.not_lt_zero _), fun _ _ => rfl⟩ ?_ ?_
  · rintro k s d f ei ro e - hk ⟨i1, i2, i3, i4⟩ g hg _ rfl
    refine cinv1 0 8 (fun j t => ∀ i, i < j → t i = X k i) (fun i hi => absurd hi (Nat.not_lt_zero _)) ?_ ?_
    · intro j t _ hj hI g2 hg2
      unfold wp_X12_bandAt
      simp (disch := omega) only [lM, nI_add, nI_clamp, vpT, true_and, forall_eq]
      rw [nI_1]
      refine hg2 _ (fun i hi => ?_)
      by_cases q : i = j
      · subst q
        rw [pk_us, ← hXe, ← hb (8 * c + i) (by omega) k hk, show 32 * c + 4 * i + k = 4 * (8 * c + i) + k by omega]
      · rw [pk_un q]; exact hI i (by omega)
    · intro t hI
      simp (disch := omega) only [lM, lA]
      refine t12_joinBlock (by omega) (by omega) (fun s' d' ro' ei' f' j1 j2 j3 => ?_)
      have jc := jp_c (m := fun i => f (81 + 14 * c + i)) (m' := memJ m X k) (x := t) (x' := X k) i1 hI
      rintro _ rfl
      refine cinv1 0 8 (fun n u => (∀ i, i < 8 * k + n → u (32 * c + i) = hrF m X i) ∧ (∀ j, (j < 32 * c ∨ 32 * c + 32 ≤ j) → u j = comes j)) ⟨i3, i4⟩ ?_ ?_
      · rintro n u - hn ⟨k1, k2⟩ g3 hg3
        simp (disch := omega) only [lM, nI_add, nI_clamp, vpT, true_and, forall_eq]
        refine t_nearI (-2048) 2047 ?_
        rw [nI_1]
        refine hg3 _ ⟨fun i hi => ?_, fun j hj => ?_⟩
        · by_cases q : i = 8 * k + n
          · subst q
            rw [show 32 * c + (8 * k + n) = 32 * c + 8 * k + n by omega, pk_us, j1 n hn, jc.1 n hn]
            unfold hrF jnF
            rw [show (8 * k + n) / 8 = k by omega, show (8 * k + n) % 8 = n by omega]
          · rw [pk_un (by omega)]; exact k1 i (by omega)
        · rw [pk_un (by omega)]; exact k2 j hj
      · rintro u ⟨k1, k2⟩
        rw [nI_1]
        refine hg _ _ _ _ _ _ ⟨fun i hi => ?_, fun j hj => ?_, fun i hi => k1 i (by omega), k2⟩
        · rw [j2 i hi, jc.2 i hi]; rfl
        · rw [j3 j hj]; exact i2 j hj
  · rintro s d f ei ro e ⟨i1, i2, i3, i4⟩
    exact h _ _ _ _ _ _ i1 i2 i3 i4
set_option maxHeartbeats 4000000 in
set_option maxRecDepth 100000 in
theorem t12_untwin {tw : Int32} {V : Nat → Nat → Int32} {backs : Nat → Int32} {post : (Nat → Int32) → Prop} (hV : ∀ c, c < 16 → ∀ b, b < 4 → backs (4 * c + b) = V c b)
    (h : ∀ f : Nat → Int32, (∀ c, c < 16 → ∀ b, b < 4 → f (4 * c + b) = rjF tw V c b) → post f) :
    Lz2 (fun g21 (x23 : Int32) (f24 : Nat → Int32) => ((8 : Int32) ≤ x23 → post f24) ∧ (¬ (8 : Int32) ≤ x23 → ∀ x73, x73 = (0 : Int32) → Lz2 (fun g74 (x76 : Int32) (f77 : Nat → Int32) => ∀ k78 : Prop, ((g21 (x23 + 1) f77) → k78) → ((4 : Int32) ≤ x76 → k78) ∧ (¬ (4 : Int32) ≤ x76 → (((tw >>> (x23 &&& 31)) &&& (1 : Int32)) = (1 : Int32) → wp_X12_bandAt (0 : Int32) x23 x76 (fun r83 => vp_in r83 64 ∧ ∀ x85 : Int32, x85 = f77 r83.toNatClampNeg → wp_X12_bandAt (1 : Int32) x23 x76 (fun r86 => vp_in r86 64 ∧ ∀ x88 : Int32, x88 = f77 r86.toNatClampNeg → ∀ x89 : Int32, x89 = x85 + ((x88 + (1 : Int32)) >>> ((1 : Int32) &&& 31)) → wp_X12_bandAt (0 : Int32) x23 x76 (fun r90 => vp_in r90 64 ∧ ∀ f92 : Nat → Int32, f92 = upd f77 r90.toNatClampNeg x89 → wp_X12_bandAt (1 : Int32) x23 x76 (fun r93 => vp_in r93 64 ∧ ∀ f95 : Nat → Int32, f95 = upd f92 r93.toNatClampNeg (x89 - x88) → g74 (x76 + (1 : Int32)) f95))))) ∧ (¬ ((tw >>> (x23 &&& 31)) &&& (1 : Int32)) = (1 : Int32) → k78))) x73 f24)) 0 backs := by
  refine cinv1 0 8 (fun n f => ∀ c, c < 16 → ∀ b, b < 4 → f (4 * c + b) = if c % 8 < n then rjF tw V c b else V c b) (fun c hc b hb => by rw [if_neg (by omega)]; exact hV c hc b hb) ?_ ?_
  · rintro n f - hn hI g hg _ rfl
    refine Lz2_by (fun i e => ∃ k, k ≤ 4 ∧ i = nI k ∧ ∀ c, c < 16 → ∀ b, b < 4 → e (4 * c + b) = if c % 8 = n ∧ b < k then rjF tw V c b else f (4 * c + b)) (fun i _ => 4 - i.toNatClampNeg) _ _ ⟨0, by omega, rfl, fun c hc b hb => by rw [if_neg (by omega)]⟩ ?_
    rintro _ e ⟨k, hk4, rfl, hJ⟩ again hag k78 hk78
    have out : (¬ ((tw >>> (nI n &&& 31)) &&& (1 : Int32)) = (1 : Int32) ∨ k = 4) → k78 := by
      intro q
      refine hk78 ?_
      rw [nI_1]
      refine hg _ (fun c hc b hb => ?_)
      rw [hJ c hc b hb, hI c hc b hb]
      by_cases qc : c % 8 = n
      · have e0 : (¬ b < k) → rjF tw V c b = V c b := by
          intro q2
          rcases q with q | q
          · unfold rjF; rw [qc, if_neg q]
          · omega
        rw [if_pos (show c % 8 < n + 1 by omega), if_neg (show ¬ c % 8 < n by omega)]
        by_cases q2 : b < k
        · rw [if_pos ⟨qc, q2⟩]
        · rw [if_neg (fun y => q2 y.2)]; exact (e0 q2).symm
      · rw [if_neg (fun y => qc y.1)]
        by_cases q2 : c % 8 < n
        · rw [if_pos q2, if_pos (show c % 8 < n + 1 by omega)]
        · rw [if_neg q2, if_neg (show ¬ c % 8 < n + 1 by omega)]
    refine ⟨fun q4 => out (Or.inr ?_), fun q4 => ⟨fun qb => ?_, fun qb => out (Or.inl qb)⟩⟩
    · have := (nI_leI (a := 4) (by omega) (by omega)).mp q4
      omega
    · have hk : k < 4 := by
        rcases Nat.lt_or_ge k 4 with z | z
        · exact z
        · exact absurd ((nI_leI (a := 4) (by omega) (by omega)).mpr z) q4
      have v0 : e (4 * n + k) = V n k := by
        rw [hJ n (by omega) k hk, if_neg (by omega), hI n (by omega) k hk, if_neg (by omega)]
      have v1 : e (32 + 4 * n + k) = V (8 + n) k := by
        rw [show 32 + 4 * n + k = 4 * (8 + n) + k by omega, hJ (8 + n) (by omega) k hk, if_neg (by omega), hI (8 + n) (by omega) k hk, if_neg (by omega)]
      unfold wp_X12_bandAt
      simp (disch := omega) only [lL, rA, lA, lM, nI_add, nI_clamp, vpT, true_and, forall_eq, Nat.mul_zero, Nat.mul_one, Nat.zero_add, v0, v1]
      refine hag (nI (k + 1)) _ ⟨k + 1, by omega, rfl, fun c hc b hb => ?_⟩ ?_
      · by_cases q0 : c = n ∧ b = k
        · obtain ⟨q1, q2⟩ := q0
          subst q1; subst q2
          rw [pk_un (by omega), pk_us, if_pos ⟨by omega, by omega⟩]
          unfold rjF
          rw [show c % 8 = c by omega, if_pos qb, if_pos hn]
        · by_cases q3 : c = 8 + n ∧ b = k
          · obtain ⟨q1, q2⟩ := q3
            subst q1; subst q2
            rw [show 4 * (8 + n) + b = 32 + 4 * n + b by omega, pk_us, if_pos ⟨by omega, by omega⟩]
            unfold rjF
            rw [show (8 + n) % 8 = n by omega, if_pos qb, if_neg (by omega), show 8 + n - 8 = n by omega]
          · rw [pk_un (by omega), pk_un (by omega), hJ c hc b hb]
            by_cases q5 : c % 8 = n ∧ b < k
            · rw [if_pos q5, if_pos ⟨q5.1, by omega⟩]
            · rw [if_neg q5, if_neg (fun y => q5 ⟨y.1, by omega⟩)]
      · show 4 - (nI (k + 1)).toNatClampNeg < 4 - (nI k).toNatClampNeg
        rw [nI_clamp (by omega), nI_clamp (by omega)]; omega
  · intro f hI
    exact h f (fun c hc b hb => by rw [hI c hc b hb, if_pos (by omega)])
