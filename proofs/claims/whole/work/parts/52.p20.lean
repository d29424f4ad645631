/-! pure part 20: the class's line; giving up -/
def rLn (k a q : Nat) (pnum psent pover ppb : Nat → Int32) (wb : Nat → Nat → Int32) (wsz : Nat → Int32) (cb : Nat → Nat → Int32) (csz : Nat → Int32) (row : Nat → Int32) : Prop := pnum q = nI k ∧ row a = nI k ∧ psent q = row (3385 + 4 * k + 1) ∧ ∃ z pb ov : Nat, 13 ≤ z ∧ z ≤ 77 ∧ 10 ≤ pb ∧ pb ≤ 80 ∧ ov * pb < z ∧ row (a + 1) = nI z ∧ wsz q = nI z ∧ csz q = nI z ∧ row (a + 2) = nI pb ∧ ppb q = nI pb ∧ row (a + 3) = nI ov ∧ pover q = nI ov ∧ (∀ j, j < 80 → wb q j = row (a + 4 + j)) ∧ (∀ j, j < 80 → cb q j = row (a + 84 + j)) ∧ isBy (wb q) 80 ∧ isBy (cb q) 80
theorem rLn_f {k a a' q : Nat} {pnum psent pover ppb : Nat → Int32} {wb : Nat → Nat → Int32} {wsz : Nat → Int32} {cb : Nat → Nat → Int32} {csz : Nat → Int32} {row row' : Nat → Int32} (h : rLn k a q pnum psent pover ppb wb wsz cb csz row) (e : ∀ x, x < 170 → row' (a' + x) = row (a + x)) (es : row' (3385 + 4 * k + 1) = row (3385 + 4 * k + 1)) : rLn k a' q pnum psent pover ppb wb wsz cb csz row' := by
  obtain ⟨h1, h2, h3, z, pb, ov, g1, g2, g3, g4, g5, g6, g7, g8, g9, g10, g11, g12, g13, g14, g15, g16⟩ := h
  have e0 := e 0 (by omega)
  rw [Nat.add_zero, Nat.add_zero] at e0
  refine ⟨h1, by rw [e0]; exact h2, by rw [es]; exact h3, z, pb, ov, g1, g2, g3, g4, g5, by rw [e 1 (by omega)]; exact g6, g7, g8, by rw [e 2 (by omega)]; exact g9, g10, by rw [e 3 (by omega)]; exact g11, g12, fun j hj => ?_, fun j hj => ?_, g15, g16⟩
  · rw [Nat.add_assoc, e (4 + j) (by omega), ← Nat.add_assoc]; exact g13 j hj
  · rw [Nat.add_assoc, e (84 + j) (by omega), ← Nat.add_assoc]; exact g14 j hj
def rLine (ln hd cd : Nat) (pnum psent pover ppb : Nat → Int32) (wb : Nat → Nat → Int32) (wsz : Nat → Int32) (cb : Nat → Nat → Int32) (csz : Nat → Int32) (row : Nat → Int32) : Prop := ∀ i, i < ln → rLn (cd - ln + i) (735 + 170 * i) ((hd + i) % 6) pnum psent pover ppb wb wsz cb csz row
def rFlag (nb row : Nat → Int32) (cd ln : Nat) : Prop := ∃ ms, ms + ln ≤ cd ∧ row 50 = nI ms ∧ nb 38 = if ms = 0 then 0 else 1
def rSnd (t cd nx ln hd : Nat) (nb rec : Nat → Int32) (pnum psent pover ppb : Nat → Int32) (wb : Nat → Nat → Int32) (wsz : Nat → Int32) (cb : Nat → Nat → Int32) (csz : Nat → Int32) (row : Nat → Int32) : Prop := rNum nb row ∧ rFlag nb row cd ln ∧ rBook rec row t cd nx ln ∧ (lnN ln cd row ∧ hd < 6) ∧ rLine ln hd cd pnum psent pover ppb wb wsz cb csz row
theorem rSnd_5 {t cd nx ln hd : Nat} {nb rec : Nat → Int32} {pnum psent pover ppb : Nat → Int32} {wb : Nat → Nat → Int32} {wsz : Nat → Int32} {cb : Nat → Nat → Int32} {csz : Nat → Int32} {row : Nat → Int32} (h : rSnd t cd nx ln hd nb rec pnum psent pover ppb wb wsz cb csz row) : nb 5 = nI ln := (h.1 5 (by omega) (by omega) (by omega) (by omega)).trans h.2.2.2.1.1.1
theorem gu_step {t cd nx ln hd n : Nat} {nb rec : Nat → Int32} {pnum psent pover ppb : Nat → Int32} {wb : Nat → Nat → Int32} {wsz : Nat → Int32} {cb : Nat → Nat → Int32} {csz : Nat → Int32} {row : Nat → Int32} (h : rSnd t cd nx ln hd nb rec pnum psent pover ppb wb wsz cb csz row) (h0 : 0 < ln) (hn : rec (cd - ln) = nI n) (hn2 : n < 2 ^ 31) : rSnd t cd nx (ln - 1) ((hd + 1) % 6) (upd (upd (upd nb 4 (nb 4 + 1)) 5 (nI (ln - 1))) 38 1) (upd rec (cd - ln) (nI (n / 4 * 4 + 3))) pnum psent pover ppb wb wsz cb csz (M_gu1 row) := by
  obtain ⟨h1, ⟨ms, f1, f2, f3⟩, h3, ⟨h4, h5⟩, h6⟩ := h
  have ek := lnN_0 h4 h0
  have hl := h4.2.1
  have hlc := h4.2.2.1
  have h25 := h4.2.2.2.1
  have hk : cd - ln < 2500 := by omega
  have o := @gu1_o row ln (cd - ln)
  obtain ⟨s29, s50, sst⟩ := gu1_29 h4.1 ek hk (show ln ≤ 8 by omega)
  have e29 : nb 4 = row 29 := h1 4 (by omega) (by omega) (by omega) (by omega)
  refine ⟨?_, ⟨ms + 1, by omega, by rw [s50, f2, nI_1], by rw [pk_us, if_neg (by omega)]⟩, ?_, ⟨lnN_gu h4 h0, Nat.mod_lt _ (by omega)⟩, ?_⟩
  · have q : rNum (upd (upd nb 4 (nb 4 + 1)) 5 (nI (ln - 1))) (upd (upd row 29 (nb 4 + 1)) 51 (nI (ln - 1))) := rNum_u (j := 5) (rNum_u (j := 4) h1 (by omega)) (by omega)
    refine rNum_g q (fun j hj h50 => ?_) (fun j _ _ h38 => pk_un h38)
    by_cases a : j = 51
    · rw [a, pk_us, gu1_51 h4.1 ek hk h0]
    · rw [pk_un a]
      by_cases b : j = 29
      · rw [b, pk_us, s29, e29]
      · rw [pk_un b]; exact gu1_o h4.1 ek hk (by omega) a h50 b (by omega) (by omega)
  · intro k hk2
    obtain ⟨st, hh, sn, sl, q1, q2, q3, q4⟩ := h3 k hk2
    by_cases e : k = cd - ln
    · subst e
      obtain ⟨st1, hsn⟩ := q4 (by omega) (by omega)
      obtain ⟨b1, b2, b3, b4, b5, b6, b7, b8, b9, b10⟩ := q1
      have hsl : sl = 0 := b9 (by omega)
      have en : n = st + 4 * hh + 16 * sn + 4096 * sl := (nI_eq hn2 (by omega)).mp (hn.symm.trans b10)
      refine ⟨3, hh, sn, 0, ⟨by omega, b2, b3, by omega, sst, ?_, ?_, fun z => absurd z (by omega), fun _ => rfl, ?_⟩, fun z => absurd z (by omega), q3, fun z => absurd z (by omega)⟩
      · rw [gu1_o h4.1 ek hk (by omega) (by omega) (by omega) (by omega) (by omega) (by omega)]; exact b6
      · rw [gu1_o h4.1 ek hk (by omega) (by omega) (by omega) (by omega) (by omega) (by omega)]; exact b7
      · rw [pk_us]; congr 1; omega
    · refine ⟨st, hh, sn, sl, rBk_f q1 (fun j j1 j2 => gu1_o h4.1 ek hk (by omega) (by omega) (by omega) (by omega) (by omega) (by omega)) (pk_un e), q2, q3, fun z1 z2 => q4 (by omega) z2⟩
  · intro i hi
    have q := h6 (i + 1) (by omega)
    rw [show ((hd + 1) % 6 + i) % 6 = (hd + (i + 1)) % 6 by omega, show cd - (ln - 1) + i = cd - ln + (i + 1) by omega]
    refine rLn_f q (fun x hx => gu1_mv h4.1 ek hk (by omega) (by omega) hx) ?_
    exact gu1_o h4.1 ek hk (by omega) (by omega) (by omega) (by omega) (by omega) (by omega)
theorem rBook_n {rec row : Nat → Int32} {t cd nx ln k : Nat} (h : rBook rec row t cd nx ln) (hk : k < 2500) : ∃ n, n < 2 ^ 27 ∧ rec k = nI n := by
  obtain ⟨st, hh, sn, sl, q1, _⟩ := h k hk
  obtain ⟨b1, b2, b3, b4, b5, b6, b7, b8, b9, b10⟩ := q1
  exact ⟨_, by omega, b10⟩
set_option maxHeartbeats 4000000 in
set_option maxRecDepth 100000 in
theorem t8_giveUp {t cd nx ln hd D : Nat} {nb rec : Nat → Int32} {pnum psent pover ppb : Nat → Int32} {wb : Nat → Nat → Int32} {wsz : Nat → Int32} {cb : Nat → Nat → Int32} {csz : Nat → Int32} {row : Nat → Int32} {post : Int32 → (Nat → Int32) → (Nat → Int32) → Prop} (hS : rSnd t cd nx ln hd nb rec pnum psent pover ppb wb wsz cb csz row) (ht : t < 10000) (eD : row 10 = nI D) (hD : D ≤ 16)
    (h : ∀ (ln' hd' : Nat) (nb' rec' : Nat → Int32), ln' ≤ ln → rSnd t cd nx ln' hd' nb' rec' pnum psent pover ppb wb wsz cb csz (M_gu t ln row) → nb' 6 = nb 6 → (0 < ln' → t < 4 * (cd - ln') + D) → post (nI hd') nb' rec') : wp_X8_giveUpLateOnes (nI t) (nI 5) (nI hd) nb rec pnum post := by
  unfold wp_X8_giveUpLateOnes
  rintro _ rfl
  have hln5 := hS.2.2.2.1.1.2.1
  refine cinv3 0 6 (fun i hh b r => ∃ (ln' hd' : Nat) (f : Nat → Int32), hh = nI hd' ∧ rSnd t cd nx ln' hd' b r pnum psent pover ppb wb wsz cb csz f ∧ f 10 = nI D ∧ b 6 = nb 6 ∧ M_gu t ln' f = M_gu t ln row ∧ ln' + i ≤ ln) ⟨ln, hd, row, rfl, hS, eD, rfl, rfl, by omega⟩ ?_ ?_
  · rintro i hh b r - hi ⟨ln', hd', f, rfl, q1, q2, q3, q4, q5⟩ g hg
    have b5 := rSnd_5 q1
    have hd6 := q1.2.2.2.1.2
    have hlc := q1.2.2.2.1.1.2.2
    refine t7_at (i := 0) (c := ln') (n := 6) (sa := 5) (by omega) (by omega) (by omega) hd6 (by omega) b5 (by omega) ?_
    by_cases h0 : 0 < ln'
    · rw [if_pos h0, Nat.add_zero, Nat.mod_eq_of_lt hd6]
      refine ⟨fun z => absurd z (by simp), fun j hj => ?_⟩
      have hj2 : hd' = j := Option.some.inj hj
      subst hj2
      have e0 := (q1.2.2.2.2 0 h0).1
      rw [Nat.add_zero, Nat.add_zero, Nat.mod_eq_of_lt hd6] at e0
      have e24 : b 24 = nI D := (q1.1 24 (by omega) (by omega) (by omega) (by omega)).trans q2
      have ek := lnN_0 q1.2.2.2.1.1 h0
      refine ⟨hd6, ?_⟩
      rw [e0, e24, lM, nI_add]
      refine ⟨fun z => ?_, fun z => ?_⟩
      · have hz := (nI_leI (by omega) (by omega)).mp z
        obtain ⟨n, hn, en⟩ := rBook_n (k := cd - ln') q1.2.2.1 (by omega)
        unfold wp_X8_giveUpFirst
        rintro _ rfl
        refine t0_setStatus (s := 3) (by omega) (by omega) en (by omega) ?_
        refine t7_remove (n := 6) (sa := 5) (c := ln') (by omega) (by omega) (by omega) hd6 (by rw [pk_un (by omega)]; exact b5) (by omega) h0 ?_
        rintro _ rfl
        rw [nI_1]
        refine hg _ _ _ ⟨ln' - 1, (hd' + 1) % 6, M_gu1 f, rfl, gu_step q1 h0 en (by omega), ?_, ?_, ?_, by omega⟩
        · rw [gu1_o q1.2.2.2.1.1.1 ek (by omega) (by omega) (by omega) (by omega) (by omega) (by omega) (by omega)]; exact q2
        · rw [pk_un (by omega), pk_un (by omega), pk_un (by omega)]; exact q3
        · rw [← q4]
          obtain ⟨l2, hl2⟩ : ∃ l2, ln' = l2 + 1 := ⟨ln' - 1, by omega⟩
          rw [hl2, M_gu, if_pos, Nat.add_sub_cancel]
          refine ⟨?_, ?_⟩
          · rw [q1.2.2.2.1.1.1]; exact nI_nle h0 (by omega)
          · rw [ek, q2, lM, nI_add]; exact nI_nlt (by omega) (by omega)
      · have hz : t < 4 * (cd - ln') + D := by
          rcases Nat.lt_or_ge t (4 * (cd - ln') + D) with y | y
          · exact y
          · exact absurd ((nI_leI (by omega) (by omega)).mpr y) z
        have hno : ¬ guC t f := fun y => y.2 (by rw [ek, q2, lM, nI_add]; exact nI_lt hz (by omega))
        rw [gu_no hno] at q4
        rw [q4] at q1
        exact h ln' hd' b r (by omega) q1 q3 (fun _ => hz)
    · rw [if_neg h0]
      refine ⟨fun _ => ?_, fun j hj => absurd hj (by simp)⟩
      have hz : ln' = 0 := by omega
      subst hz
      rw [M_gu] at q4
      rw [q4] at q1
      exact h 0 hd' b r (by omega) q1 q3 (fun y => absurd y (by omega))
  · rintro hh b r ⟨ln', hd', f, rfl, q1, q2, q3, q4, q5⟩
    omega
