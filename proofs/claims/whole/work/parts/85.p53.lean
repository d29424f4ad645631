/-! pure part 53: a beginning; restart -/
abbrev okE (row : Nat → Int32) : Prop := ∃ e, e ≤ 1000 ∧ row 16 = nI e
theorem begin_0 {row : Nat → Int32} {j : Nat} (h1 : 25 ≤ j) (h2 : j < 13385) (h3 : j ≠ 43) (h4 : j ≠ 49) : M_begin row j = nI 0 := by
  unfold M_begin; rw [pk_un h3, pk_un h4, flat_in h1 h2]; rfl
theorem begin_lo {row : Nat → Int32} {j : Nat} (h1 : j < 25) : M_begin row j = row j := by
  unfold M_begin; rw [pk_un (by omega), pk_un (by omega), flat_out (by omega)]
theorem begin_43 {row : Nat → Int32} : M_begin row 43 = row 7 := by unfold M_begin; rw [pk_us]
theorem begin_49 {row : Nat → Int32} : M_begin row 49 = row 6 := by unfold M_begin; rw [pk_un (by omega), pk_us]
def begN (nb row : Nat → Int32) : Prop := ∀ j, j < 54 → nb j = if (20 ≤ j ∧ j < 31) ∨ 40 ≤ j then row (hm j) else if j = 31 then row 7 else if j = 37 then row 6 else 0
theorem hm_25a : ∀ j, j < 54 → (((20 ≤ j ∧ j < 31) ∨ 40 ≤ j) ∨ j = 31 ∨ j = 37 ∨ j = 6 ∨ j = 38 ∨ j = 39) ∨ (25 ≤ hm j ∧ hm j < 13385 ∧ hm j ≠ 43 ∧ hm j ≠ 49) := by decide +kernel
theorem hm_25 (j : Nat) (hj : j < 54) (h : ¬ ((20 ≤ j ∧ j < 31) ∨ 40 ≤ j)) (h1 : j ≠ 31) (h2 : j ≠ 37) (h3 : j ≠ 6) (h4 : j ≠ 38) (h5 : j ≠ 39) : 25 ≤ hm j ∧ hm j < 13385 ∧ hm j ≠ 43 ∧ hm j ≠ 49 := by
  rcases hm_25a j hj with (q | q | q | q | q | q) | q
  · exact absurd q h
  · exact absurd q h1
  · exact absurd q h2
  · exact absurd q h3
  · exact absurd q h4
  · exact absurd q h5
  · exact q
theorem hm_l25 : ∀ j, j < 54 → ((20 ≤ j ∧ j < 31) ∨ 40 ≤ j) → hm j < 25 := by decide +kernel
set_option maxHeartbeats 800000 in
set_option maxRecDepth 100000 in
theorem RW_begin {hd hb : Nat} {nb rec dly : Nat → Int32} {pnum psent pover ppb : Nat → Int32} {wb : Nat → Nat → Int32} {wsz : Nat → Int32} {cb : Nat → Nat → Int32} {csz : Nat → Int32} {bnum : Nat → Int32} {bcb : Nat → Nat → Int32} {bcsz : Nat → Int32} {A0 B0 A1 B1 split told quants backs scales bits : Nat → Int32} {tw me sz : Int32} {bytes : Nat → Int32} {eA0 eB0 eA1 eB1 e0 e1 recs : Nat → Int32} {row : Nat → Int32} (hok : okSet row) (h16 : okE row) (hn : begN nb row) (hhd : hd < 6) (hhb : hb < 12) (hr : ∀ k, k < 2500 → rec k = 0) (hd0 : ∀ n, n < 16 → dly n = 0) (h1 : ∀ i, i < 7 → A0 i = 0 ∧ B0 i = 0) (h2 : ∀ i, i < 7 → A1 i = 0 ∧ B1 i = 0) (h3 : ∀ i, i < 7 → eA0 i = 0 ∧ eB0 i = 0) (h4 : ∀ i, i < 7 → eA1 i = 0 ∧ eB1 i = 0) (h5 : ∀ i, i < 192 → e0 i = 0 ∧ e1 i = 0) : RW 0 0 0 0 hd 0 hb nb rec dly pnum psent pover ppb wb wsz cb csz bnum bcb bcsz A0 B0 A1 B1 split told quants backs scales bits tw me sz bytes eA0 eB0 eA1 eB1 e0 e1 recs (M_begin row) := by
  have z : ∀ j, 25 ≤ j → j < 13385 → j ≠ 43 → j ≠ 49 → M_begin row j = nI 0 := fun j a b c d => begin_0 a b c d
  have z0 : nI 0 = (0 : Int32) := rfl
  have mem : ∀ (A B : Nat → Int32) (o : Nat), 53 ≤ o → o < 100 → (∀ i, i < 7 → A i = 0 ∧ B i = 0) → rMem A B o (M_begin row) := fun A B o ho ho2 h i hi => by
    rw [z _ (by omega) (by omega) (by omega) (by omega), z _ (by omega) (by omega) (by omega) (by omega)]; exact h i hi
  refine ⟨⟨fun j hj h6 h38 h39 => ?_, ⟨0, by omega, z 50 (by omega) (by omega) (by omega) (by omega), ?_⟩, fun k hk => ⟨0, 0, 0, 0, ⟨by omega, by omega, by omega, by omega, z _ (by omega) (by omega) (by omega) (by omega), z _ (by omega) (by omega) (by omega) (by omega), z _ (by omega) (by omega) (by omega) (by omega), fun y => absurd y (by omega), fun _ => rfl, hr k hk⟩, fun _ => ⟨rfl, rfl⟩, fun _ => rfl, fun _ y => absurd y (Nat.not_lt_zero _)⟩, ⟨⟨z 51 (by omega) (by omega) (by omega) (by omega), by omega, by omega, by omega, fun i hi => absurd hi (Nat.not_lt_zero _)⟩, hhd⟩, fun i _ hi => absurd hi (Nat.not_lt_zero _), fun n hn' => ?_, ⟨by omega, hhb, ?_, fun s hs => ⟨0, by omega, z _ (by omega) (by omega) (by omega) (by omega)⟩, fun s s' hs hs' hlive => absurd ?_ hlive, fun _ => 0, fun i hi => absurd hi (Nat.not_lt_zero _), fun i j _ hj => absurd hj (Nat.not_lt_zero _), fun s hs hlive => absurd ?_ hlive⟩, ?_, z 30 (by omega) (by omega) (by omega) (by omega)⟩, ⟨mem _ _ 81 (by omega) (by omega) h3, mem _ _ 95 (by omega) (by omega) h4, fun j hj => ?_, fun c hc j hj => ?_, ⟨0, by omega, z 38 (by omega) (by omega) (by omega) (by omega)⟩, ?_, z 52 (by omega) (by omega) (by omega) (by omega), fun i hi => absurd hi (by omega), ?_, ?_⟩, okSet_f hok (fun j hj => begin_lo (by omega)), z 25 (by omega) (by omega) (by omega) (by omega), z 26 (by omega) (by omega) (by omega) (by omega), by omega, by omega, fun y => absurd y (by omega), mem _ _ 53 (by omega) (by omega) h1, mem _ _ 67 (by omega) (by omega) h2, fun y => absurd y (by omega), ?_, ?_, ?_, ⟨0, by omega, z 32 (by omega) (by omega) (by omega) (by omega), by omega⟩, Or.inl (z 31 (by omega) (by omega) (by omega) (by omega))⟩
  · rw [hn j hj]
    by_cases q : (20 ≤ j ∧ j < 31) ∨ 40 ≤ j
    · rw [if_pos q, begin_lo (hm_l25 j hj q)]
    · rw [if_neg q]
      by_cases q31 : j = 31
      · rw [if_pos q31, q31, show hm 31 = 43 by decide, begin_43]
      · rw [if_neg q31]
        by_cases q37 : j = 37
        · rw [if_pos q37, q37, show hm 37 = 49 by decide, begin_49]
        · rw [if_neg q37]
          obtain ⟨a, b, c, d⟩ := hm_25 j hj q q31 q37 h6 h38 h39
          rw [z _ a b c d]; rfl
  · rw [hn 38 (by omega), if_neg (by omega), if_neg (by omega), if_neg (by omega), if_pos rfl]
  · rw [z _ (by omega) (by omega) (by omega) (by omega)]; exact hd0 n hn'
  · unfold lev
    refine fb_ct_zero.mpr (fun s hs => decide_eq_false (fun y => y ?_))
    rw [z _ (by omega) (by omega) (by omega) (by omega), z 30 (by omega) (by omega) (by omega) (by omega)]; exact Int32.le_refl _
  · rw [z _ (by omega) (by omega) (by omega) (by omega), z 30 (by omega) (by omega) (by omega) (by omega)]; exact Int32.le_refl _
  · rw [z _ (by omega) (by omega) (by omega) (by omega), z 30 (by omega) (by omega) (by omega) (by omega)]; exact Int32.le_refl _
  · rw [hn 6 (by omega), if_neg (by omega), if_neg (by omega), if_neg (by omega)]; rfl
  · show e0 j = M_begin row (109 + 192 * 0 + j) ∧ e1 j = M_begin row (109 + 192 * 1 + j)
    rw [z _ (by omega) (by omega) (by omega) (by omega), z _ (by omega) (by omega) (by omega) (by omega)]; exact h5 j hj
  · show -2048 ≤ (M_begin row (109 + 192 * c + j)).toInt ∧ (M_begin row (109 + 192 * c + j)).toInt ≤ 2047
    rw [z _ (by omega) (by omega) (by omega) (by omega)]; decide
  · rw [z 41 (by omega) (by omega) (by omega) (by omega)]; decide
  · rw [z 36 (by omega) (by omega) (by omega) (by omega), z 37 (by omega) (by omega) (by omega) (by omega)]; rfl
  · rw [z 33 (by omega) (by omega) (by omega) (by omega)]; decide
  · obtain ⟨_, ⟨P, hP1, hP2, e7⟩, _⟩ := hok
    exact ⟨P, hP2, by rw [begin_43]; exact e7⟩
  · obtain ⟨⟨sd, hs, e6⟩, _⟩ := hok
    exact ⟨sd, by omega, by rw [begin_49]; exact e6⟩
  · obtain ⟨e, he, e1⟩ := h16
    exact ⟨e, he, by rw [begin_lo (by omega)]; exact e1⟩
set_option maxHeartbeats 800000 in
set_option maxRecDepth 100000 in
theorem t11_restart {t cd nx ln hd bl hb : Nat} {nb rec dly : Nat → Int32} {pnum psent pover ppb : Nat → Int32} {wb : Nat → Nat → Int32} {wsz : Nat → Int32} {cb : Nat → Nat → Int32} {csz : Nat → Int32} {bnum : Nat → Int32} {bcb : Nat → Nat → Int32} {bcsz : Nat → Int32} {A0 B0 A1 B1 split told quants backs scales bits : Nat → Int32} {tw me sz : Int32} {bytes : Nat → Int32} {eA0 eB0 eA1 eB1 e0 e1 recs : Nat → Int32} {row : Nat → Int32} {post : Int32 → (Nat → Int32) → (Nat → Int32) → (Nat → Int32) → (Nat → Int32) → (Nat → Int32) → (Nat → Int32) → (Nat → Int32) → (Nat → Int32) → (Nat → Int32) → (Nat → Int32) → (Nat → Int32) → (Nat → Int32) → (Nat → Int32) → Prop} (h : RW t cd nx ln hd bl hb nb rec dly pnum psent pover ppb wb wsz cb csz bnum bcb bcsz A0 B0 A1 B1 split told quants backs scales bits tw me sz bytes eA0 eB0 eA1 eB1 e0 e1 recs row)
    (hp : ∀ nb' rec' dly' A0' B0' A1' B1' eA0' eB0' e0' eA1' eB1' e1' : Nat → Int32, RW 0 0 0 0 hd 0 hb nb' rec' dly' pnum psent pover ppb wb wsz cb csz bnum bcb bcsz A0' B0' A1' B1' split told quants backs scales bits tw me sz bytes eA0' eB0' eA1' eB1' e0' e1' recs (M_begin row) → post (row 25) nb' rec' dly' A0' B0' A1' B1' eA0' eB0' e0' eA1' eB1' e1') :
    wp_X11_restart nb rec dly A0 B0 A1 B1 eA0 eB0 e0 eA1 eB1 e1 post := by
  have hN := h.aft.1
  have n0 : nb 0 = row 25 := hN 0 (by omega) (by omega) (by omega) (by omega)
  unfold wp_X11_restart
  rw [n0]
  rintro _ rfl
  unfold wp_X10_startAnew
  rintro _ rfl
  refine cinv1 0 40 (fun k f => ∀ j, f j = if j < k ∧ (j < 20 ∨ 31 ≤ j) then 0 else nb j) (fun j => by rw [if_neg (by omega)]) ?_ ?_
  · intro k f _ hk hI g hg k26 hk26 k28 hk28
    have up : (k < 20 ∨ 31 ≤ k) → k28 := fun q => hk28 ⟨vp_in_nI (by omega) (by omega), fun f31 e => hk26 _ (by
      rw [rA]
      refine hg _ (fun j => ?_)
      rw [e, nI_clamp (by omega)]
      by_cases y : j = k
      · rw [y, pk_us, if_pos (by omega)]
      · rw [pk_un y, hI j]
        by_cases w : j < k ∧ (j < 20 ∨ 31 ≤ j)
        · rw [if_pos w, if_pos (by omega)]
        · rw [if_neg w, if_neg (by omega)])⟩
    refine ⟨fun q => up (Or.inl ((nI_ltI (b := 20) (by omega) (by omega)).mp q)), fun q => ⟨fun q2 => ?_, fun q2 => up (Or.inr ?_)⟩⟩
    · have h1 : ¬ k < 20 := fun y => q ((nI_ltI (b := 20) (by omega) (by omega)).mpr y)
      have h2 : k < 31 := (nI_ltI (b := 31) (by omega) (by omega)).mp q2
      refine hk26 _ ?_
      rw [rA]
      refine hg _ (fun j => ?_)
      rw [hI j]
      by_cases w : j < k ∧ (j < 20 ∨ 31 ≤ j)
      · rw [if_pos w, if_pos (by omega)]
      · rw [if_neg w, if_neg (by omega)]
    · rcases Nat.lt_or_ge k 31 with y | y
      · exact absurd ((nI_ltI (b := 31) (by omega) (by omega)).mpr y) q2
      · exact y
  · intro f hI
    rintro _ rfl _ rfl
    unfold wp_X0_clear wp_X2_clear wp_X6_clear wp_X3_clear wp_X9_clear
    refine t_fill (t_fill (t_fill (t_fill (t_fill (t_fill (t_fill (t_fill (t_fill (t_fill (t_fill (t_fill ?_)))))))))))
    refine hp _ _ _ _ _ _ _ _ _ _ _ _ _ (RW_begin h.ok h.e16 (fun j hj => ?_) h.aft.2.2.2.1.2 h.aft.2.2.2.2.2.2.1.2.1 (fun k hk => flat_in (by omega) hk) (fun n hn => flat_in (by omega) hn) (fun i hi => ⟨flat_in (by omega) hi, flat_in (by omega) hi⟩) (fun i hi => ⟨flat_in (by omega) hi, flat_in (by omega) hi⟩) (fun i hi => ⟨flat_in (by omega) hi, flat_in (by omega) hi⟩) (fun i hi => ⟨flat_in (by omega) hi, flat_in (by omega) hi⟩) (fun i hi => ⟨flat_in (by omega) (by omega), flat_in (by omega) (by omega)⟩))
    have f21 : f 21 = row 7 := by rw [hI 21, if_neg (by omega)]; exact hN 21 (by omega) (by omega) (by omega) (by omega)
    have f20 : f 20 = row 6 := by rw [hI 20, if_neg (by omega)]; exact hN 20 (by omega) (by omega) (by omega) (by omega)
    rw [pk_un (show (20 : Nat) ≠ 31 by omega), f21, f20]
    by_cases q37 : j = 37
    · rw [q37, pk_us, if_neg (by omega), if_neg (by omega), if_pos rfl]
    by_cases q31 : j = 31
    · rw [q31, pk_un (by omega), pk_us, if_neg (by omega), if_pos rfl]
    rw [pk_un q37, pk_un q31, hI j, if_neg q31, if_neg q37]
    by_cases w : (20 ≤ j ∧ j < 31) ∨ 40 ≤ j
    · rw [if_pos w, if_neg (by omega)]; exact hN j hj (by omega) (by omega) (by omega)
    · rw [if_neg w, if_pos (by omega)]
theorem t12_restart {th : Int32} {row : Nat → Int32} {post : Int32 → Int32 → (Nat → Int32) → Prop} (h : post (row 25) 0 (M_begin row)) : wp_X12_restart th row post := by
  unfold wp_X12_restart
  rintro _ rfl
  exact t_begin h
