/-! pure part 16: the class's codeFrame -/
def rMem (A B : Nat → Int32) (o : Nat) (row : Nat → Int32) : Prop := ∀ i, i < 7 → A i = row (o + 2 * i) ∧ B i = row (o + (2 * i + 1))
def rFr (split told quants backs scales bits : Nat → Int32) (tw me sz : Int32) (bytes row : Nat → Int32) : Prop :=
  (∀ c, c < 16 → ∀ b, b < 4 → split (16 * b + c) = row (493 + (4 * c + b))) ∧ (∀ c, c < 16 → ∀ b, b < 4 → told (16 * b + c) = row (557 + (4 * c + b))) ∧
  (∃ sc bt : Nat → Nat, (∀ c, c < 16 → sc c ≤ 15 ∧ scales c = nI (sc c) ∧ row (621 + c) = nI (sc c)) ∧ (∀ c, c < 16 → bt c ≤ 16 ∧ bits c = nI (bt c) ∧ row (637 + c) = nI (bt c)) ∧ (∀ c, c < 16 → ∀ b, b < 4 → quants (16 * b + c) = nI (qN (told (16 * b + c)) (sc c) (bt c)) ∧ backs (16 * b + c) = bk (qN (told (16 * b + c)) (sc c) (bt c)) (sc c) (bt c))) ∧
  tw = row 653 ∧ (∃ m, m ≤ 1 ∧ me = nI m ∧ row 656 >>> ((7 : Int32) &&& 31) = nI m) ∧ (∃ z, 13 ≤ z ∧ z ≤ 77 ∧ sz = nI z ∧ row 654 = nI z) ∧ (∀ j, j < 80 → bytes j = row (655 + j)) ∧ isBy bytes 80
theorem rMem_f {A B row row' : Nat → Int32} {o : Nat} (h : rMem A B o row) (e : ∀ j, o ≤ j → j < o + 14 → row' j = row j) : rMem A B o row' := by
  intro i hi
  rw [e _ (by omega) (by omega), e _ (by omega) (by omega)]; exact h i hi
theorem rFr_f {split told quants backs scales bits bytes row row' : Nat → Int32} {tw me sz : Int32} (h : rFr split told quants backs scales bits tw me sz bytes row) (e : ∀ j, 493 ≤ j → j < 735 → row' j = row j) : rFr split told quants backs scales bits tw me sz bytes row' := by
  obtain ⟨h1, h2, ⟨sc, bt, h3, h4, h5⟩, h6, ⟨m, h7, h8, h9⟩, ⟨z, h10, h11, h12, h13⟩, h14, h15⟩ := h
  refine ⟨fun c hc b hb => ?_, fun c hc b hb => ?_, ⟨sc, bt, fun c hc => ?_, fun c hc => ?_, h5⟩, ?_, ⟨m, h7, h8, ?_⟩, ⟨z, h10, h11, h12, ?_⟩, fun j hj => ?_, h15⟩
  · rw [e _ (by omega) (by omega)]; exact h1 c hc b hb
  · rw [e _ (by omega) (by omega)]; exact h2 c hc b hb
  · rw [e _ (by omega) (by omega)]; exact h3 c hc
  · rw [e _ (by omega) (by omega)]; exact h4 c hc
  · rw [e _ (by omega) (by omega)]; exact h6
  · rw [e _ (by omega) (by omega)]; exact h9
  · rw [e _ (by omega) (by omega)]; exact h13
  · rw [e _ (by omega) (by omega)]; exact h14 j hj
theorem t2_blk {n c : Nat} {smp0 r a b nx sp m s : Nat → Int32} {post : (Nat → Int32) → (Nat → Int32) → (Nat → Int32) → (Nat → Int32) → (Nat → Int32) → Prop} (hn : n < 4) (hc : c < 2) (hs : ∀ j, j < 32 → smp0 j = s j) (hm : ∀ i, i < 7 → a i = memS m s n (2 * i) ∧ b i = memS m s n (2 * i + 1))
    (h : ∀ r' a' b' nx' sp' : Nat → Int32, (∀ i, i < 7 → a' i = memS m s (n + 1) (2 * i) ∧ b' i = memS m s (n + 1) (2 * i + 1)) → (∀ j, j < 8 → sp' (16 * n + 8 * c + j) = bandS m s n j) → (∀ j, (j < 16 * n + 8 * c ∨ 16 * n + 8 * c + 8 ≤ j) → sp' j = sp j) → post r' a' b' nx' sp') : wp_X9_splitBlock 32 64 (nI (8 * n)) (nI (16 * n + 8 * c)) smp0 r a b nx sp post :=
  t9_splitBlock (m := memS m s n) (x := fun i => s (8 * n + i)) hm (fun j hj => hs _ (by omega)) (by omega) (by omega) (by omega) (by omega) h
set_option maxHeartbeats 4000000 in
set_option maxRecDepth 100000 in
theorem t2_codeFrame {k : Nat} {nb samples r0 A0 B0 n0 split r1 A1 B1 n1 told scales needs bits quants backs bytes row : Nat → Int32} {tw me po sz at_ : Int32} {post : (Nat → Int32) → (Nat → Int32) → Int32 → Int32 → Int32 → (Nat → Int32) → (Nat → Int32) → (Nat → Int32) → (Nat → Int32) → (Nat → Int32) → (Nat → Int32) → (Nat → Int32) → (Nat → Int32) → (Nat → Int32) → (Nat → Int32) → (Nat → Int32) → (Nat → Int32) → (Nat → Int32) → (Nat → Int32) → (Nat → Int32) → Int32 → Int32 → (Nat → Int32) → Prop} (hk : k < 2500) (hn : rNum nb row) (hok : okSet row) (h43 : ∃ P, P ≤ 128 ∧ row 43 = nI P) (hm0 : rMem A0 B0 53 row) (hm1 : rMem A1 B1 67 row)
    (h : ∀ (samples' r0' A0' B0' n0' split' r1' A1' B1' n1' told' scales' needs' bits' quants' backs' bytes' : Nat → Int32) (tw' me' po' sz' at' : Int32), rMem A0' B0' 53 (M_cc k row) → rMem A1' B1' 67 (M_cc k row) → rFr split' told' quants' backs' scales' bits' tw' me' sz' bytes' (M_cc k row) → post (upd (upd nb 1 (nb 1 + 1)) 19 (nb 19 + sz')) samples' tw' me' po' r0' A0' B0' n0' split' r1' A1' B1' n1' told' scales' needs' bits' quants' backs' sz' at' bytes') :
    wp_X2_codeFrame (nI k) nb samples tw me po r0 A0 B0 n0 split r1 A1 B1 n1 told scales needs bits quants backs sz at_ bytes post := by
  obtain ⟨sd, hsd, e6⟩ := hok.1
  obtain ⟨m, hme, e8⟩ := hok.2.2.1
  obtain ⟨pa, hpa, e9⟩ := hok.2.2.2.1
  obtain ⟨P, hP, e43⟩ := h43
  have n6 : tN (row 6) = sd := by rw [e6]; exact nI_clamp (by omega)
  have n8 : tN (row 8) = m := by rw [e8]; exact nI_clamp (by omega)
  have n9 : tN (row 9) = pa := by rw [e9]; exact nI_clamp (by omega)
  have n43 : tN (row 43) = P := by rw [e43]; exact nI_clamp (by omega)
  have b20 : nb 20 = nI sd := (hn 20 (by omega) (by omega) (by omega) (by omega)).trans e6
  have b22 : nb 22 = row 8 := hn 22 (by omega) (by omega) (by omega) (by omega)
  have b23 : nb 23 = row 9 := hn 23 (by omega) (by omega) (by omega) (by omega)
  have b31 : nb 31 = row 43 := hn 31 (by omega) (by omega) (by omega) (by omega)
  have b40 : ∀ j, j < 8 → nb (40 + j) = row (17 + j) := fun j hj => by
    have q := hn (40 + j) (by omega) (by omega) (by omega) (by omega)
    rw [show hm (40 + j) = 17 + j by unfold hm; rw [if_neg (by omega), if_neg (by omega), if_neg (by omega), if_neg (by omega), if_neg (by omega), if_neg (by omega), if_neg (by omega), if_neg (by omega), if_neg (by omega), if_pos (by omega)]; omega] at q
    exact q
  have b48 : ∀ c, c < 2 → nb (48 + 3 * c) = row c ∧ nb (48 + 3 * c + 1) = row (2 + c) ∧ nb (48 + 3 * c + 2) = row (4 + c) := fun c hc => by
    have hc2 : c = 0 ∨ c = 1 := by omega
    rcases hc2 with rfl | rfl
    · exact ⟨hn 48 (by omega) (by omega) (by omega) (by omega), hn 49 (by omega) (by omega) (by omega) (by omega), hn 50 (by omega) (by omega) (by omega) (by omega)⟩
    · exact ⟨hn 51 (by omega) (by omega) (by omega) (by omega), hn 52 (by omega) (by omega) (by omega) (by omega), hn 53 (by omega) (by omega) (by omega) (by omega)⟩
  have smC : ∀ (c : Nat) (hc : c < 2) (i : Nat) (hi : i < 32) (pst : Int32 → Prop), pst (smR row sd k c i) → wp_X11_sampleOf 54 (nI c) (nI (32 * k + i)) nb pst := by
    intro c hc i hi pst hp
    obtain ⟨e1, e2, e3⟩ := b48 c hc
    obtain ⟨p, hp2, hp200, ep⟩ := hok.2.2.2.2.2.2.2.1 c hc
    refine t_sampleOf (sd := sd) rfl hc (by omega) hsd (by rw [e1, ep]; exact (nI_ltI (a := 1) (by omega) (by omega)).mpr (by omega)) (by rw [e3]; exact okM hok hc) b20 ?_
    rw [e1, e2, e3]; exact hp
  unfold wp_X2_codeFrame
  rintro _ rfl
  -- CHANNEL 0
  refine cinv1 0 32 (fun i f => ∀ j, j < i → f j = smR row sd k 0 j) (fun j hj => absurd hj (Nat.not_lt_zero _)) ?_ ?_
  · intro i f _ hi hI g hg
    rw [lM, nI_add]
    refine smC 0 (by omega) i hi _ ?_
    simp (disch := omega) only [rA, nI_clamp, vpT, true_and, forall_eq]
    refine hg _ (fun j hj => ?_)
    by_cases e : j = i
    · subst e; rw [pk_us]
    · rw [pk_un e]; exact hI j (by omega)
  intro s0 hs0
  rintro _ rfl
  refine cinv9 0 4 (fun n _ a0 b0 _ sp _ a1 b1 _ => (∀ i, i < 7 → a0 i = memS (mcR row 0) (smR row sd k 0) n (2 * i) ∧ b0 i = memS (mcR row 0) (smR row sd k 0) n (2 * i + 1)) ∧ (∀ b, b < n → ∀ j, j < 8 → sp (16 * b + j) = bandS (mcR row 0) (smR row sd k 0) b j) ∧ a1 = A1 ∧ b1 = B1) ⟨fun i hi => hm0 i hi, fun b hb => absurd hb (Nat.not_lt_zero _), rfl, rfl⟩ ?_ ?_
  · rintro n r0 a0 b0 n0 sp r1 a1 b1 n1 - hn4 ⟨i1, i2, rfl, rfl⟩ g hg
    simp only [lM, lL, nI_add]
    refine t2_blk (c := 0) hn4 (by omega) hs0 i1 (fun r' a' b' nx' sp' q1 q2 q3 => ?_)
    rw [nI_1]
    refine hg _ _ _ _ _ _ _ _ _ ⟨q1, fun b hb j hj => ?_, rfl, rfl⟩
    by_cases e : b = n
    · subst e
      have := q2 j hj
      rw [Nat.mul_zero, Nat.add_zero] at this
      exact this
    · rw [q3 _ (by omega)]; exact i2 b (by omega) j hj
  rintro r0 a0 b0 n0 sp r1 a1 b1 n1 ⟨i1, i2, rfl, rfl⟩
  rintro _ rfl
  -- CHANNEL 1
  refine cinv1 0 32 (fun i f => ∀ j, j < i → f j = smR row sd k 1 j) (fun j hj => absurd hj (Nat.not_lt_zero _)) ?_ ?_
  · intro i f _ hi hI g hg
    rw [lM, nI_add]
    refine smC 1 (by omega) i hi _ ?_
    simp (disch := omega) only [rA, nI_clamp, vpT, true_and, forall_eq]
    refine hg _ (fun j hj => ?_)
    by_cases e : j = i
    · subst e; rw [pk_us]
    · rw [pk_un e]; exact hI j (by omega)
  intro s1 hs1
  rintro _ rfl
  refine cinv9 0 4 (fun n _ x0 y0 _ sp' _ x1 y1 _ => x0 = a0 ∧ y0 = b0 ∧ (∀ i, i < 7 → x1 i = memS (mcR row 1) (smR row sd k 1) n (2 * i) ∧ y1 i = memS (mcR row 1) (smR row sd k 1) n (2 * i + 1)) ∧ (∀ b, b < 4 → ∀ j, j < 8 → sp' (16 * b + j) = bandS (mcR row 0) (smR row sd k 0) b j) ∧ (∀ b, b < n → ∀ j, j < 8 → sp' (16 * b + 8 + j) = bandS (mcR row 1) (smR row sd k 1) b j)) ⟨rfl, rfl, fun i hi => hm1 i hi, i2, fun b hb => absurd hb (Nat.not_lt_zero _)⟩ ?_ ?_
  · rintro n r0 x0 y0 n0 sp' r1 x1 y1 n1 - hn4 ⟨rfl, rfl, j1, j2, j3⟩ g hg
    simp only [lM, lL, nI_add]
    refine t2_blk (c := 1) hn4 (by omega) hs1 j1 (fun r' a' b' nx' sp2 q1 q2 q3 => ?_)
    rw [nI_1]
    refine hg _ _ _ _ _ _ _ _ _ ⟨rfl, rfl, q1, fun b hb j hj => ?_, fun b hb j hj => ?_⟩
    · rw [q3 _ (by omega)]; exact j2 b hb j hj
    · by_cases e : b = n
      · subst e; exact q2 j hj
      · rw [q3 _ (by omega)]; exact j3 b (by omega) j hj
  rintro r0 x0 y0 n0 sp' r1 x1 y1 n1 ⟨rfl, rfl, j1, j2, j3⟩
  have hV : ∀ c, c < 16 → ∀ b, b < 4 → sp' (16 * b + c) = VR row sd k c b := by
    intro c hc b hb
    show _ = bandS (mcR row (c / 8)) (smR row sd k (c / 8)) b (c % 8)
    by_cases h8 : c < 8
    · rw [show c / 8 = 0 by omega, show c % 8 = c by omega]; exact j2 b hb c h8
    · rw [show c / 8 = 1 by omega, show c % 8 = c - 8 by omega, ← j3 b hb (c - 8) (by omega), show 16 * b + 8 + (c - 8) = 16 * b + c by omega]
  rw [b23, b31, b22]
  refine t4_tell hV (fun told' scales' d1 d2 => ?_)
  rw [e43]
  refine t4_deal (nd := ndR row (scl (VR row sd k) (row 9)) (row 8)) rfl (by omega) (fun i hi => by rw [d2 i hi, b40 (i % 8) (by omega)]) (fun needs' bits' d3 => ?_)
  refine t4_quantise (T := tld (VR row sd k) (row 9)) (sc := scl (VR row sd k) (row 9)) (bt := bitsN (ndR row (scl (VR row sd k) (row 9)) (row 8)) P) d1 d2 (fun c hc => sclN_le _) d3 (fun c hc => bitsN_le _ _ _) (fun quants' backs' d4 => ?_)
  obtain ⟨t, ht, et⟩ := tws_lt (VR row sd k) (row 9) 7 (by omega)
  rw [et]
  rw [show row 8 = nI m from e8] at d3 d4 ⊢
  have hpaq : wp_X1_write (nI k) (row 9) sz at_ bytes (nI t) (nI m) (nI P) bits' scales' quants' = wp_X1_write (nI k) (nI pa) sz at_ bytes (nI t) (nI m) (nI P) bits' scales' quants' := by rw [e9]
  rw [hpaq]
  have hq64 : ∀ i, i < 64 → quants' i = nI (qI (tld (VR row sd k) (row 9)) (scl (VR row sd k) (row 9)) (bitsN (ndR row (scl (VR row sd k) (row 9)) (nI m)) P) i) := by
    intro i hi
    have := (d4 (i % 16) (by omega) (i / 16) (by omega)).1
    rw [show 16 * (i / 16) + i % 16 = i by omega] at this
    exact this
  have hsum : fb_sm (bitsN (ndR row (scl (VR row sd k) (row 9)) (nI m)) P) 16 ≤ 128 := by have := bitsN_sum (ndR row (scl (VR row sd k) (row 9)) (nI m)) P; omega
  refine t1_write (by omega) hpa hme (by omega) (by omega) d2 d3 (fun i hi => bitsN_le _ _ _) hq64 hsum (fun a bytes' d5 => ?_)
  rintro _ rfl _ rfl
  rw [pk_un (by omega)]
  obtain ⟨c1, c2, c3, c4, c5, c6, c7, c8, c9⟩ := M_cc_is k row
  have eB : fB row k = bitsN (ndR row (scl (VR row sd k) (row 9)) (nI m)) P := by unfold fB fS fV; rw [n6, n43, e8]
  have eS : fS row k = scl (VR row sd k) (row 9) := by unfold fS fV; rw [n6]
  have eT : fT row k = tld (VR row sd k) (row 9) := by unfold fT fV; rw [n6]
  have eV : fV row k = VR row sd k := by unfold fV; rw [n6]
  have eC : fC row k = cdF (nI (128 * m + 64 * pa + k % 64)) (nI P) (nI t) (scl (VR row sd k) (row 9)) (qI (tld (VR row sd k) (row 9)) (scl (VR row sd k) (row 9)) (bitsN (ndR row (scl (VR row sd k) (row 9)) (nI m)) P)) (bitsN (ndR row (scl (VR row sd k) (row 9)) (nI m)) P) := by
    unfold fC
    rw [eB, eS, eT, eV, n8, n9, e43, et]
  rw [eV] at c2 c6
  rw [eT] at c3
  rw [eS] at c4
  rw [eB] at c5 c7
  rw [eC] at c8
  rw [et] at c6
  refine h _ _ _ _ _ _ _ _ _ _ _ _ _ _ _ _ _ _ _ _ _ _ ?_ ?_ ?_
  · intro i hi
    have q1 := c1 0 (by omega) (2 * i) (by omega)
    have q2 := c1 0 (by omega) (2 * i + 1) (by omega)
    rw [n6] at q1 q2
    rw [Nat.mul_zero, Nat.add_zero] at q1 q2
    rw [q1, q2]; exact i1 i hi
  · intro i hi
    have q1 := c1 1 (by omega) (2 * i) (by omega)
    have q2 := c1 1 (by omega) (2 * i + 1) (by omega)
    rw [n6] at q1 q2
    rw [show 67 + 2 * i = 53 + 14 * 1 + 2 * i by omega, show 67 + (2 * i + 1) = 53 + 14 * 1 + (2 * i + 1) by omega, q1, q2]; exact j1 i hi
  · refine ⟨fun c hc b hb => ?_, fun c hc b hb => ?_, ⟨scl (VR row sd k) (row 9), bitsN (ndR row (scl (VR row sd k) (row 9)) (nI m)) P, fun c hc => ⟨sclN_le _, d2 c hc, c4 c hc⟩, fun c hc => ⟨bitsN_le _ _ _, d3 c hc, c5 c hc⟩, fun c hc b hb => ?_⟩, c6.symm, ⟨m, hme, rfl, ?_⟩, ⟨_, (cdZ_le hsum).1, (cdZ_le hsum).2, rfl, c7⟩, fun j hj => ?_, fun j hj => ?_⟩
    · rw [c2 c hc b hb]; exact hV c hc b hb
    · rw [c3 c hc b hb]; exact d1 c hc b hb
    · rw [d1 c hc b hb]; exact d4 c hc b hb
    · have q := c8 1 (by omega)
      rw [cdF_lo (by omega) (by omega)] at q
      rw [show (656 : Nat) = 655 + 1 from rfl, q]
      unfold hdB
      rw [pk_un (by omega), pk_un (by omega), pk_us, pk_shrN (by omega) _ 7 (by decide)]
      congr 1; omega
    · rw [c8 j hj]; exact d5 j hj
    · rw [d5 j hj]
      exact cdF_by ⟨128 * m + 64 * pa + k % 64, by omega, rfl⟩ ⟨P, by omega, rfl⟩ ⟨t, by omega, rfl⟩ 80 j hj
