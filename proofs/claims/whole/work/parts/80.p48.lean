/-! pure part 48: a SLOT of the reference, whole -/
theorem play_o {row : Nat → Int32} {j : Nat} (h : j < 30 ∨ j = 31 ∨ j = 32 ∨ (42 ≤ j ∧ j < 52) ∨ (53 ≤ j ∧ j < 81) ∨ (493 ≤ j ∧ j < 3257) ∨ (3369 ≤ j ∧ j ≠ 3385 + 4 * tN (row 30) + 2)) : M_play row j = row j := by
  unfold M_play
  generalize plS row = S
  by_cases q : S < 14
  · rw [if_pos q]; unfold M_pB
    rw [fin_f (by omega), f6_o (by omega) (by omega) (by omega) (by omega) (by omega) (by omega) (by omega), pk_un (by omega), pk_un (by omega), mem_o (by omega), if_neg (by omega)]
  · rw [if_neg q]; unfold M_pA
    rw [fin_f (by omega), f6_o (by omega) (by omega) (by omega) (by omega) (by omega) (by omega) (by omega), pk_un (by omega), pk_un (by omega), pk_un (by omega)]
    unfold M_lv; rw [pk_un (by omega)]
theorem gu_S {t cd nx D : Nat} {pnum psent pover ppb : Nat → Int32} {wb : Nat → Nat → Int32} {wsz : Nat → Int32} {cb : Nat → Nat → Int32} {csz : Nat → Int32} (hD : D ≤ 16) (ht : t < 10000) : ∀ (ln hd : Nat) (nb rec row : Nat → Int32), rSnd t cd nx ln hd nb rec pnum psent pover ppb wb wsz cb csz row → row 10 = nI D → ∃ (ln' hd' : Nat) (nb' rec' : Nat → Int32), ln' ≤ ln ∧ rSnd t cd nx ln' hd' nb' rec' pnum psent pover ppb wb wsz cb csz (M_gu t ln row)
  | 0, hd, nb, rc, row, h, _ => ⟨0, hd, nb, rc, Nat.le_refl _, h⟩
  | ln + 1, hd, nb, rc, row, h, e => by
    rw [M_gu]
    by_cases c : guC t row
    · rw [if_pos c]
      have hcd := h.2.2.2.1.1.2.2
      obtain ⟨n, hn, en⟩ := rBook_n (k := cd - (ln + 1)) h.2.2.1 (by omega)
      have g := gu_step h (by omega) en (by omega)
      have e10 : M_gu1 row 10 = nI D := by
        rw [gu1_o h.2.2.2.1.1.1 (lnN_0 h.2.2.2.1.1 (by omega)) (by omega) (by have := h.2.2.2.1.1.2.1; omega) (by omega) (by omega) (by omega) (by omega) (by omega)]; exact e
      obtain ⟨l2, h2, n2, r2, a1, a2⟩ := gu_S hD ht ln _ _ _ _ g e10
      exact ⟨l2, h2, n2, r2, by omega, a2⟩
    · rw [if_neg c]; exact ⟨ln + 1, hd, nb, rc, Nat.le_refl _, h⟩
theorem M_cc_o {k : Nat} {row : Nat → Int32} {j : Nat} (h1 : j < 53 ∨ 81 ≤ j) (h2 : j < 493 ∨ 735 ≤ j) : M_cc k row j = row j := (M_cc_is k row).2.2.2.2.2.2.2.2 j h1 h2
theorem M_enq_o {k ln : Nat} {r : Nat → Int32} {j : Nat} (e : r 51 = nI ln) (hl : ln ≤ 6) (h1 : j < 735 ∨ 2095 ≤ j) (h2 : j ≠ 51) (h3 : j ≠ 26) (h4 : j ≠ 42) (h5 : j < 3385) : M_enq k r j = r j := by
  have t51 : tN (r 51) = ln := by rw [e]; exact nI_clamp (by omega)
  unfold M_enq
  rw [pk_un h4, pk_un h3, pk_un (by omega), pk_un (by omega), pk_un h2]
  unfold M_line
  rw [t51, if_neg (by omega)]
theorem cod_o {row : Nat → Int32} {ln j : Nat} (e : row 51 = nI ln) (hl : ln ≤ 6) (h : j < 26 ∨ (27 ≤ j ∧ j < 42) ∨ (44 ≤ j ∧ j < 50) ∨ j = 52 ∨ (81 ≤ j ∧ j < 493) ∨ (2095 ≤ j ∧ j < 3385)) : M_cod row j = row j := by
  unfold M_cod
  by_cases q : tN (row 25) % 4 = 0
  · rw [if_pos q]
    have e1 : M_enq (tN (row 25) / 4) (M_cc (tN (row 25) / 4) row) j = row j := by
      rw [M_enq_o (ln := ln) (by rw [M_cc_o (by omega) (by omega)]; exact e) hl (by omega) (by omega) (by omega) (by omega) (by omega), M_cc_o (by omega) (by omega)]
    unfold M_cf
    by_cases q2 : tN (row 25) / 4 % 8 = 7
    · rw [if_pos q2, steer_o (by omega) (by omega)]; exact e1
    · rw [if_neg q2]; exact e1
  · rw [if_neg q]
theorem tk_o {r : Nat → Int32} {j : Nat} (h : j ≠ 31) : M_tk r j = r j := by
  unfold M_tk
  by_cases q : r 31 = 0
  · rw [if_pos q]
    by_cases q2 : nI (lev r) < r 13
    · rw [if_pos q2]
    · rw [if_neg q2, pk_un h]
  · rw [if_neg q]
theorem tk_31 {r : Nat → Int32} (h : r 31 = 0 ∨ r 31 = 1) : M_tk r 31 = 0 ∨ M_tk r 31 = 1 := by
  unfold M_tk
  by_cases q : r 31 = 0
  · rw [if_pos q]
    by_cases q2 : nI (lev r) < r 13
    · rw [if_pos q2]; exact h
    · rw [if_neg q2, pk_us]; exact Or.inr rfl
  · rw [if_neg q]; exact h
theorem ph_o {r : Nat → Int32} {j : Nat} (h : j ≠ 32) : M_ph r j = r j := by unfold M_ph; rw [pk_un h]
/-- the row behind the sender's SLOT keeps what the player reads -/
theorem snd_o {t : Nat} {row : Nat → Int32} (h : okS t row) : (∀ j, sndU j → M_snd (M_cod row) j = M_cod row j) ∧ (∃ s, s < 1000003 ∧ M_snd (M_cod row) 49 = nI s) ∧ M_snd (M_cod row) = M_send (M_gu t (tN (M_cod row 51)) (M_cod row)) ∧
    (∀ (bytes : Nat → Int32) (post : (Nat → Int32) → (Nat → Int32) → Prop), (∀ bytes' : Nat → Int32, post (M_snd (M_cod row)) bytes') → wp_X12_sends (M_gu t (tN (M_cod row 51)) (M_cod row)) bytes post) := by
  obtain ⟨ln0, hln0, el0⟩ := h.r.l51
  obtain ⟨cd, nx, ln, hd, bl, hb, nb, rec, dly, pnum, psent, pover, ppb, wb, wsz, cb, csz, bnum, bcb, bcsz, hA, h4, hnx⟩ := h.a
  obtain ⟨_, _, _, _, ⟨D, hD1, hD2, eD⟩, _⟩ := h.r.ok
  have co : ∀ j, (j < 26 ∨ (27 ≤ j ∧ j < 42) ∨ (44 ≤ j ∧ j < 50) ∨ j = 52 ∨ (81 ≤ j ∧ j < 493) ∨ (2095 ≤ j ∧ j < 3385)) → M_cod row j = row j := fun j hj => cod_o el0 (by omega) hj
  have hS := rAft_S hA
  have hLn := hS.2.2.2.1.1
  have t25 : tN (M_cod row 25) = t := by rw [co 25 (by omega), h.r.t25]; exact nI_clamp (by have := h.r.ht; omega)
  have k51 : tN (M_cod row 51) = ln := by rw [hLn.1]; exact nI_clamp (by have := hLn.2.1; omega)
  have e10 : M_cod row 10 = nI D := by rw [co 10 (by omega)]; exact eD
  obtain ⟨s, hs, es⟩ := h.r.s49
  have e49 : M_cod row 49 = nI s := by rw [co 49 (by omega)]; exact es
  have e25 : M_cod row 25 = nI t := by rw [co 25 (by omega)]; exact h.r.t25
  obtain ⟨l2, h2, n2, r2, b1, b2⟩ := gu_S hD2 h.r.ht ln hd nb rec _ hS e10
  have go : ∀ j, j ≠ 51 → j ≠ 50 → j ≠ 29 → (j < 735 ∨ 2095 ≤ j) → (j < 3385 ∨ j % 4 ≠ 1) → M_gu t ln (M_cod row) j = M_cod row j := gu_o ln _ hLn
  have hl2 := b2.2.2.2.1.1
  have ht := h.r.ht
  have e30 := hA.2.2.2.2.2.2.2.2
  have hlev : lev (M_gu t ln (M_cod row)) ≤ 12 := by
    rw [lev_c (fun j a b => go j (by omega) (by omega) (by omega) (by omega) (by omega)) (go 30 (by omega) (by omega) (by omega) (by omega) (by omega)), hA.2.2.2.2.2.2.1.2.2.1]
    exact hA.2.2.2.2.2.2.1.1
  unfold M_snd
  rw [t25, k51]
  have key : ∃ k z pb ov : Nat, 0 < l2 → k < 2500 ∧ M_gu t ln (M_cod row) 735 = nI k ∧ M_gu t ln (M_cod row) 736 = nI z ∧ 13 ≤ z ∧ z ≤ 77 ∧ M_gu t ln (M_cod row) 737 = nI pb ∧ 10 ≤ pb ∧ pb ≤ 80 ∧ M_gu t ln (M_cod row) 738 = nI ov ∧ ov * pb < z ∧ 4 * k ≤ t := by
    by_cases q : 0 < l2
    · obtain ⟨_, c2, _, z, pb, ov, c3, c4, c5, c6, c7, c8, _, _, c9, _, c10, _⟩ := b2.2.2.2.2 0 q
      refine ⟨cd - l2, z, pb, ov, fun _ => ⟨by omega, lnN_0 hl2 q, c8, c3, c4, c9, c5, c6, c10, c7, by omega⟩⟩
    · exact ⟨0, 0, 0, 0, fun y => absurd y q⟩
  obtain ⟨k, z, pb, ov, key⟩ := key
  have g25 := (go 25 (by omega) (by omega) (by omega) (by omega) (by omega)).trans e25
  have g30 := (go 30 (by omega) (by omega) (by omega) (by omega) (by omega)).trans e30
  have g49 := (go 49 (by omega) (by omega) (by omega) (by omega) (by omega)).trans e49
  obtain ⟨so, s49⟩ := send_o hl2.1 hl2.2.1 key g25 ht g30 g49 hs hlev
  refine ⟨fun j hj => ?_, s49, rfl, fun bytes post hp => ?_⟩
  · rw [so j hj]; exact go j (by omega) (by omega) (by omega) (by omega) (by omega)
  · exact t12_sends hl2.1 hl2.2.1 key g25 ht g30 (by omega) g49 hs hlev hp
