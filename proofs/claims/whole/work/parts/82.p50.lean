/-! pure part 50: a Way and the reference's row -/
def RW (t cd nx ln hd bl hb : Nat) (nb rec dly : Nat → Int32) (pnum psent pover ppb : Nat → Int32) (wb : Nat → Nat → Int32) (wsz : Nat → Int32) (cb : Nat → Nat → Int32) (csz : Nat → Int32) (bnum : Nat → Int32) (bcb : Nat → Nat → Int32) (bcsz : Nat → Int32) (A0 B0 A1 B1 split told quants backs scales bits : Nat → Int32) (tw me sz : Int32) (bytes : Nat → Int32) (eA0 eB0 eA1 eB1 e0 e1 recs : Nat → Int32) (row : Nat → Int32) : Prop :=
  (rAft t cd nx ln ln hd bl hb 0 (cd - ln) nb rec dly pnum psent pover ppb wb wsz cb csz bnum bcb bcsz row) ∧
  (rPl nx eA0 eB0 eA1 eB1 e0 e1 recs row) ∧
  (okSet row) ∧
  (row 25 = nI t) ∧
  (row 26 = nI cd) ∧
  (t ≤ 10000) ∧
  (cd = (t + 3) / 4) ∧
  (0 < ln → t ≤ 4 * (cd - ln) + 16) ∧
  (rMem A0 B0 53 row) ∧
  (rMem A1 B1 67 row) ∧
  (0 < cd → rFr split told quants backs scales bits tw me sz bytes row) ∧
  (∃ P, P ≤ 128 ∧ row 43 = nI P) ∧
  (∃ s, s < 1000003 ∧ row 49 = nI s) ∧
  (∃ e, e ≤ 1000 ∧ row 16 = nI e) ∧
  (∃ p, p < 4000 ∧ row 32 = nI p ∧ 4000 * nx + p ≤ 1150 * t) ∧
  (row 31 = 0 ∨ row 31 = 1)
theorem RW.aft {t cd nx ln hd bl hb : Nat} {nb rec dly : Nat → Int32} {pnum psent pover ppb : Nat → Int32} {wb : Nat → Nat → Int32} {wsz : Nat → Int32} {cb : Nat → Nat → Int32} {csz : Nat → Int32} {bnum : Nat → Int32} {bcb : Nat → Nat → Int32} {bcsz : Nat → Int32} {A0 B0 A1 B1 split told quants backs scales bits : Nat → Int32} {tw me sz : Int32} {bytes : Nat → Int32} {eA0 eB0 eA1 eB1 e0 e1 recs : Nat → Int32} {row : Nat → Int32} (h : RW t cd nx ln hd bl hb nb rec dly pnum psent pover ppb wb wsz cb csz bnum bcb bcsz A0 B0 A1 B1 split told quants backs scales bits tw me sz bytes eA0 eB0 eA1 eB1 e0 e1 recs row) : rAft t cd nx ln ln hd bl hb 0 (cd - ln) nb rec dly pnum psent pover ppb wb wsz cb csz bnum bcb bcsz row := h.1
theorem RW.pl {t cd nx ln hd bl hb : Nat} {nb rec dly : Nat → Int32} {pnum psent pover ppb : Nat → Int32} {wb : Nat → Nat → Int32} {wsz : Nat → Int32} {cb : Nat → Nat → Int32} {csz : Nat → Int32} {bnum : Nat → Int32} {bcb : Nat → Nat → Int32} {bcsz : Nat → Int32} {A0 B0 A1 B1 split told quants backs scales bits : Nat → Int32} {tw me sz : Int32} {bytes : Nat → Int32} {eA0 eB0 eA1 eB1 e0 e1 recs : Nat → Int32} {row : Nat → Int32} (h : RW t cd nx ln hd bl hb nb rec dly pnum psent pover ppb wb wsz cb csz bnum bcb bcsz A0 B0 A1 B1 split told quants backs scales bits tw me sz bytes eA0 eB0 eA1 eB1 e0 e1 recs row) : rPl nx eA0 eB0 eA1 eB1 e0 e1 recs row := h.2.1
theorem RW.ok {t cd nx ln hd bl hb : Nat} {nb rec dly : Nat → Int32} {pnum psent pover ppb : Nat → Int32} {wb : Nat → Nat → Int32} {wsz : Nat → Int32} {cb : Nat → Nat → Int32} {csz : Nat → Int32} {bnum : Nat → Int32} {bcb : Nat → Nat → Int32} {bcsz : Nat → Int32} {A0 B0 A1 B1 split told quants backs scales bits : Nat → Int32} {tw me sz : Int32} {bytes : Nat → Int32} {eA0 eB0 eA1 eB1 e0 e1 recs : Nat → Int32} {row : Nat → Int32} (h : RW t cd nx ln hd bl hb nb rec dly pnum psent pover ppb wb wsz cb csz bnum bcb bcsz A0 B0 A1 B1 split told quants backs scales bits tw me sz bytes eA0 eB0 eA1 eB1 e0 e1 recs row) : okSet row := h.2.2.1
theorem RW.t25 {t cd nx ln hd bl hb : Nat} {nb rec dly : Nat → Int32} {pnum psent pover ppb : Nat → Int32} {wb : Nat → Nat → Int32} {wsz : Nat → Int32} {cb : Nat → Nat → Int32} {csz : Nat → Int32} {bnum : Nat → Int32} {bcb : Nat → Nat → Int32} {bcsz : Nat → Int32} {A0 B0 A1 B1 split told quants backs scales bits : Nat → Int32} {tw me sz : Int32} {bytes : Nat → Int32} {eA0 eB0 eA1 eB1 e0 e1 recs : Nat → Int32} {row : Nat → Int32} (h : RW t cd nx ln hd bl hb nb rec dly pnum psent pover ppb wb wsz cb csz bnum bcb bcsz A0 B0 A1 B1 split told quants backs scales bits tw me sz bytes eA0 eB0 eA1 eB1 e0 e1 recs row) : row 25 = nI t := h.2.2.2.1
theorem RW.t26 {t cd nx ln hd bl hb : Nat} {nb rec dly : Nat → Int32} {pnum psent pover ppb : Nat → Int32} {wb : Nat → Nat → Int32} {wsz : Nat → Int32} {cb : Nat → Nat → Int32} {csz : Nat → Int32} {bnum : Nat → Int32} {bcb : Nat → Nat → Int32} {bcsz : Nat → Int32} {A0 B0 A1 B1 split told quants backs scales bits : Nat → Int32} {tw me sz : Int32} {bytes : Nat → Int32} {eA0 eB0 eA1 eB1 e0 e1 recs : Nat → Int32} {row : Nat → Int32} (h : RW t cd nx ln hd bl hb nb rec dly pnum psent pover ppb wb wsz cb csz bnum bcb bcsz A0 B0 A1 B1 split told quants backs scales bits tw me sz bytes eA0 eB0 eA1 eB1 e0 e1 recs row) : row 26 = nI cd := h.2.2.2.2.1
theorem RW.ht {t cd nx ln hd bl hb : Nat} {nb rec dly : Nat → Int32} {pnum psent pover ppb : Nat → Int32} {wb : Nat → Nat → Int32} {wsz : Nat → Int32} {cb : Nat → Nat → Int32} {csz : Nat → Int32} {bnum : Nat → Int32} {bcb : Nat → Nat → Int32} {bcsz : Nat → Int32} {A0 B0 A1 B1 split told quants backs scales bits : Nat → Int32} {tw me sz : Int32} {bytes : Nat → Int32} {eA0 eB0 eA1 eB1 e0 e1 recs : Nat → Int32} {row : Nat → Int32} (h : RW t cd nx ln hd bl hb nb rec dly pnum psent pover ppb wb wsz cb csz bnum bcb bcsz A0 B0 A1 B1 split told quants backs scales bits tw me sz bytes eA0 eB0 eA1 eB1 e0 e1 recs row) : t ≤ 10000 := h.2.2.2.2.2.1
theorem RW.hcd {t cd nx ln hd bl hb : Nat} {nb rec dly : Nat → Int32} {pnum psent pover ppb : Nat → Int32} {wb : Nat → Nat → Int32} {wsz : Nat → Int32} {cb : Nat → Nat → Int32} {csz : Nat → Int32} {bnum : Nat → Int32} {bcb : Nat → Nat → Int32} {bcsz : Nat → Int32} {A0 B0 A1 B1 split told quants backs scales bits : Nat → Int32} {tw me sz : Int32} {bytes : Nat → Int32} {eA0 eB0 eA1 eB1 e0 e1 recs : Nat → Int32} {row : Nat → Int32} (h : RW t cd nx ln hd bl hb nb rec dly pnum psent pover ppb wb wsz cb csz bnum bcb bcsz A0 B0 A1 B1 split told quants backs scales bits tw me sz bytes eA0 eB0 eA1 eB1 e0 e1 recs row) : cd = (t + 3) / 4 := h.2.2.2.2.2.2.1
theorem RW.dl {t cd nx ln hd bl hb : Nat} {nb rec dly : Nat → Int32} {pnum psent pover ppb : Nat → Int32} {wb : Nat → Nat → Int32} {wsz : Nat → Int32} {cb : Nat → Nat → Int32} {csz : Nat → Int32} {bnum : Nat → Int32} {bcb : Nat → Nat → Int32} {bcsz : Nat → Int32} {A0 B0 A1 B1 split told quants backs scales bits : Nat → Int32} {tw me sz : Int32} {bytes : Nat → Int32} {eA0 eB0 eA1 eB1 e0 e1 recs : Nat → Int32} {row : Nat → Int32} (h : RW t cd nx ln hd bl hb nb rec dly pnum psent pover ppb wb wsz cb csz bnum bcb bcsz A0 B0 A1 B1 split told quants backs scales bits tw me sz bytes eA0 eB0 eA1 eB1 e0 e1 recs row) : 0 < ln → t ≤ 4 * (cd - ln) + 16 := h.2.2.2.2.2.2.2.1
theorem RW.c0 {t cd nx ln hd bl hb : Nat} {nb rec dly : Nat → Int32} {pnum psent pover ppb : Nat → Int32} {wb : Nat → Nat → Int32} {wsz : Nat → Int32} {cb : Nat → Nat → Int32} {csz : Nat → Int32} {bnum : Nat → Int32} {bcb : Nat → Nat → Int32} {bcsz : Nat → Int32} {A0 B0 A1 B1 split told quants backs scales bits : Nat → Int32} {tw me sz : Int32} {bytes : Nat → Int32} {eA0 eB0 eA1 eB1 e0 e1 recs : Nat → Int32} {row : Nat → Int32} (h : RW t cd nx ln hd bl hb nb rec dly pnum psent pover ppb wb wsz cb csz bnum bcb bcsz A0 B0 A1 B1 split told quants backs scales bits tw me sz bytes eA0 eB0 eA1 eB1 e0 e1 recs row) : rMem A0 B0 53 row := h.2.2.2.2.2.2.2.2.1
theorem RW.c1 {t cd nx ln hd bl hb : Nat} {nb rec dly : Nat → Int32} {pnum psent pover ppb : Nat → Int32} {wb : Nat → Nat → Int32} {wsz : Nat → Int32} {cb : Nat → Nat → Int32} {csz : Nat → Int32} {bnum : Nat → Int32} {bcb : Nat → Nat → Int32} {bcsz : Nat → Int32} {A0 B0 A1 B1 split told quants backs scales bits : Nat → Int32} {tw me sz : Int32} {bytes : Nat → Int32} {eA0 eB0 eA1 eB1 e0 e1 recs : Nat → Int32} {row : Nat → Int32} (h : RW t cd nx ln hd bl hb nb rec dly pnum psent pover ppb wb wsz cb csz bnum bcb bcsz A0 B0 A1 B1 split told quants backs scales bits tw me sz bytes eA0 eB0 eA1 eB1 e0 e1 recs row) : rMem A1 B1 67 row := h.2.2.2.2.2.2.2.2.2.1
theorem RW.fr {t cd nx ln hd bl hb : Nat} {nb rec dly : Nat → Int32} {pnum psent pover ppb : Nat → Int32} {wb : Nat → Nat → Int32} {wsz : Nat → Int32} {cb : Nat → Nat → Int32} {csz : Nat → Int32} {bnum : Nat → Int32} {bcb : Nat → Nat → Int32} {bcsz : Nat → Int32} {A0 B0 A1 B1 split told quants backs scales bits : Nat → Int32} {tw me sz : Int32} {bytes : Nat → Int32} {eA0 eB0 eA1 eB1 e0 e1 recs : Nat → Int32} {row : Nat → Int32} (h : RW t cd nx ln hd bl hb nb rec dly pnum psent pover ppb wb wsz cb csz bnum bcb bcsz A0 B0 A1 B1 split told quants backs scales bits tw me sz bytes eA0 eB0 eA1 eB1 e0 e1 recs row) : 0 < cd → rFr split told quants backs scales bits tw me sz bytes row := h.2.2.2.2.2.2.2.2.2.2.1
theorem RW.p43 {t cd nx ln hd bl hb : Nat} {nb rec dly : Nat → Int32} {pnum psent pover ppb : Nat → Int32} {wb : Nat → Nat → Int32} {wsz : Nat → Int32} {cb : Nat → Nat → Int32} {csz : Nat → Int32} {bnum : Nat → Int32} {bcb : Nat → Nat → Int32} {bcsz : Nat → Int32} {A0 B0 A1 B1 split told quants backs scales bits : Nat → Int32} {tw me sz : Int32} {bytes : Nat → Int32} {eA0 eB0 eA1 eB1 e0 e1 recs : Nat → Int32} {row : Nat → Int32} (h : RW t cd nx ln hd bl hb nb rec dly pnum psent pover ppb wb wsz cb csz bnum bcb bcsz A0 B0 A1 B1 split told quants backs scales bits tw me sz bytes eA0 eB0 eA1 eB1 e0 e1 recs row) : ∃ P, P ≤ 128 ∧ row 43 = nI P := h.2.2.2.2.2.2.2.2.2.2.2.1
theorem RW.s49 {t cd nx ln hd bl hb : Nat} {nb rec dly : Nat → Int32} {pnum psent pover ppb : Nat → Int32} {wb : Nat → Nat → Int32} {wsz : Nat → Int32} {cb : Nat → Nat → Int32} {csz : Nat → Int32} {bnum : Nat → Int32} {bcb : Nat → Nat → Int32} {bcsz : Nat → Int32} {A0 B0 A1 B1 split told quants backs scales bits : Nat → Int32} {tw me sz : Int32} {bytes : Nat → Int32} {eA0 eB0 eA1 eB1 e0 e1 recs : Nat → Int32} {row : Nat → Int32} (h : RW t cd nx ln hd bl hb nb rec dly pnum psent pover ppb wb wsz cb csz bnum bcb bcsz A0 B0 A1 B1 split told quants backs scales bits tw me sz bytes eA0 eB0 eA1 eB1 e0 e1 recs row) : ∃ s, s < 1000003 ∧ row 49 = nI s := h.2.2.2.2.2.2.2.2.2.2.2.2.1
theorem RW.e16 {t cd nx ln hd bl hb : Nat} {nb rec dly : Nat → Int32} {pnum psent pover ppb : Nat → Int32} {wb : Nat → Nat → Int32} {wsz : Nat → Int32} {cb : Nat → Nat → Int32} {csz : Nat → Int32} {bnum : Nat → Int32} {bcb : Nat → Nat → Int32} {bcsz : Nat → Int32} {A0 B0 A1 B1 split told quants backs scales bits : Nat → Int32} {tw me sz : Int32} {bytes : Nat → Int32} {eA0 eB0 eA1 eB1 e0 e1 recs : Nat → Int32} {row : Nat → Int32} (h : RW t cd nx ln hd bl hb nb rec dly pnum psent pover ppb wb wsz cb csz bnum bcb bcsz A0 B0 A1 B1 split told quants backs scales bits tw me sz bytes eA0 eB0 eA1 eB1 e0 e1 recs row) : ∃ e, e ≤ 1000 ∧ row 16 = nI e := h.2.2.2.2.2.2.2.2.2.2.2.2.2.1
theorem RW.ph {t cd nx ln hd bl hb : Nat} {nb rec dly : Nat → Int32} {pnum psent pover ppb : Nat → Int32} {wb : Nat → Nat → Int32} {wsz : Nat → Int32} {cb : Nat → Nat → Int32} {csz : Nat → Int32} {bnum : Nat → Int32} {bcb : Nat → Nat → Int32} {bcsz : Nat → Int32} {A0 B0 A1 B1 split told quants backs scales bits : Nat → Int32} {tw me sz : Int32} {bytes : Nat → Int32} {eA0 eB0 eA1 eB1 e0 e1 recs : Nat → Int32} {row : Nat → Int32} (h : RW t cd nx ln hd bl hb nb rec dly pnum psent pover ppb wb wsz cb csz bnum bcb bcsz A0 B0 A1 B1 split told quants backs scales bits tw me sz bytes eA0 eB0 eA1 eB1 e0 e1 recs row) : ∃ p, p < 4000 ∧ row 32 = nI p ∧ 4000 * nx + p ≤ 1150 * t := h.2.2.2.2.2.2.2.2.2.2.2.2.2.2.1
theorem RW.bg {t cd nx ln hd bl hb : Nat} {nb rec dly : Nat → Int32} {pnum psent pover ppb : Nat → Int32} {wb : Nat → Nat → Int32} {wsz : Nat → Int32} {cb : Nat → Nat → Int32} {csz : Nat → Int32} {bnum : Nat → Int32} {bcb : Nat → Nat → Int32} {bcsz : Nat → Int32} {A0 B0 A1 B1 split told quants backs scales bits : Nat → Int32} {tw me sz : Int32} {bytes : Nat → Int32} {eA0 eB0 eA1 eB1 e0 e1 recs : Nat → Int32} {row : Nat → Int32} (h : RW t cd nx ln hd bl hb nb rec dly pnum psent pover ppb wb wsz cb csz bnum bcb bcsz A0 B0 A1 B1 split told quants backs scales bits tw me sz bytes eA0 eB0 eA1 eB1 e0 e1 recs row) : row 31 = 0 ∨ row 31 = 1 := h.2.2.2.2.2.2.2.2.2.2.2.2.2.2.2
theorem RW.okR {t cd nx ln hd bl hb : Nat} {nb rec dly : Nat → Int32} {pnum psent pover ppb : Nat → Int32} {wb : Nat → Nat → Int32} {wsz : Nat → Int32} {cb : Nat → Nat → Int32} {csz : Nat → Int32} {bnum : Nat → Int32} {bcb : Nat → Nat → Int32} {bcsz : Nat → Int32} {A0 B0 A1 B1 split told quants backs scales bits : Nat → Int32} {tw me sz : Int32} {bytes : Nat → Int32} {eA0 eB0 eA1 eB1 e0 e1 recs : Nat → Int32} {row : Nat → Int32} (h : RW t cd nx ln hd bl hb nb rec dly pnum psent pover ppb wb wsz cb csz bnum bcb bcsz A0 B0 A1 B1 split told quants backs scales bits tw me sz bytes eA0 eB0 eA1 eB1 e0 e1 recs row) (ht : t < 10000) (h4 : t % 4 = 0 → ln ≤ 4) (hl : ln ≤ 4) : okR t row := by
  obtain ⟨p, p1, p2, p3⟩ := h.ph
  exact ⟨h.ok, h.t25, ht, h.p43, h.s49, ⟨ln, hl, h.aft.2.2.2.1.1.1⟩, ⟨p, p1, p2⟩, h.bg, nx, _, _, _, _, _, _, _, h.aft.2.2.2.2.2.2.2.2, by omega, h.pl⟩
theorem due_o {r : Nat → Int32} {j : Nat} (h : j < 30 ∨ j = 31 ∨ (42 ≤ j ∧ j < 52) ∨ (53 ≤ j ∧ j < 81) ∨ (493 ≤ j ∧ j < 3257) ∨ (3369 ≤ j ∧ j < 3385)) : M_due r j = r j := by
  unfold M_due
  by_cases q : r 31 = 1
  · rw [if_pos q]
    by_cases q2 : M_ph r 32 < 4000
    · rw [if_pos q2, ph_o (by omega)]
    · rw [if_neg q2, play_o (by omega), pk_un (by omega), ph_o (by omega)]
  · rw [if_neg q]
/-- the class's tick -/
theorem t6_tick {T cd nx ln hd bl hb fr p : Nat} {nb rec dly : Nat → Int32} {pnum psent pover ppb : Nat → Int32} {wb : Nat → Nat → Int32} {wsz : Nat → Int32} {cb : Nat → Nat → Int32} {csz : Nat → Int32} {bnum : Nat → Int32} {bcb : Nat → Nat → Int32} {bcsz : Nat → Int32} {r : Nat → Int32} {post : Int32 → (Nat → Int32) → Prop} (h : rAft T cd nx ln ln hd bl hb 0 fr nb rec dly pnum psent pover ppb wb wsz cb csz bnum bcb bcsz r) (hok : okSet r) (htr : -100 ≤ (r 33).toInt ∧ (r 33).toInt ≤ 100) (hp : p < 4000) (ep : r 32 = nI p) (hbg : r 31 = 0 ∨ r 31 = 1)
    (h0 : ∀ (nb' : Nat → Int32) (p' : Nat), p' < 4000 → p' ≤ p + 1150 → M_due (M_tk r) 32 = nI p' → (∀ j, j ≠ 31 → j ≠ 32 → M_due (M_tk r) j = r j) → rAft T cd nx ln ln hd bl hb 0 fr nb' rec dly pnum psent pover ppb wb wsz cb csz bnum bcb bcsz (M_due (M_tk r)) → post 0 nb')
    (h1 : ∀ (nb' : Nat → Int32) (p' : Nat), p' < 4000 → p' + 4000 ≤ p + 1150 → M_due (M_tk r) = M_play (upd (M_tk r) 32 (nI p')) → rAft T cd nx ln ln hd bl hb 0 fr nb' rec dly pnum psent pover ppb wb wsz cb csz bnum bcb bcsz (upd (M_tk r) 32 (nI p')) → post 1 nb') : wp_X6_tick nb post := by
  obtain ⟨hN, _, _, _, _, _, hB, e6, _⟩ := id h
  have n27 : nb 27 = r 13 := hN 27 (by omega) (by omega) (by omega) (by omega)
  have n8 : nb 8 = r 31 := hN 8 (by omega) (by omega) (by omega) (by omega)
  have hlev := hB.2.2.1
  unfold wp_X6_tick
  rw [e6, n27]
  intro k4 hk4
  have key : ∀ nb3 : Nat → Int32, rAft T cd nx ln ln hd bl hb 0 fr nb3 rec dly pnum psent pover ppb wb wsz cb csz bnum bcb bcsz (M_tk r) → k4 nb3 := by
    intro nb3 h3
    refine hk4 _ ?_
    have N3 := h3.1
    have e8 : nb3 8 = M_tk r 31 := N3 8 (by omega) (by omega) (by omega) (by omega)
    have e9 : nb3 9 = nI p := (N3 9 (by omega) (by omega) (by omega) (by omega)).trans (by rw [show hm 9 = 32 by decide, tk_o (by omega)]; exact ep)
    have e10 : nb3 10 = r 33 := (N3 10 (by omega) (by omega) (by omega) (by omega)).trans (by rw [show hm 10 = 33 by decide, tk_o (by omega)])
    have e26 : nb3 26 = r 12 := (N3 26 (by omega) (by omega) (by omega) (by omega)).trans (by rw [show hm 26 = 12 by decide, tk_o (by omega)])
    obtain ⟨q, q1, q2, q3, q4⟩ := phase_n hp hok.2.2.2.2.2.1 htr
    rw [e8, e9, e10, e26, q2]
    have eph : M_ph (M_tk r) = upd (M_tk r) 32 (nI q) := by unfold M_ph; rw [tk_o (by omega), tk_o (by omega), tk_o (by omega), ep, q1]
    refine ⟨fun z => ?_, fun z => ?_⟩
    · have ed : M_due (M_tk r) = M_tk r := by
        unfold M_due; rw [if_neg (show ¬ M_tk r 31 = 1 by rw [z]; decide)]
      refine h0 nb3 p hp (by omega) ?_ (fun j h1 h2 => ?_) ?_
      · rw [ed, tk_o (by omega)]; exact ep
      · rw [ed, tk_o h1]
      · rw [ed]; exact h3
    · have z1 : M_tk r 31 = 1 := (tk_31 hbg).resolve_left z
      simp (disch := omega) only [rR, rD, forall_eq]
      have h9 := rAft_num h3 9 (nI (q % 4000)) (by omega) (by omega) (by omega) (by omega)
      rw [show hm 9 = 32 by decide] at h9
      by_cases c : q < 4000
      · have ed : M_due (M_tk r) = upd (M_tk r) 32 (nI q) := by
          unfold M_due; rw [if_pos z1, eph, pk_us, if_pos (show nI q < 4000 from (nI_ltI (b := 4000) (by omega) (by omega)).mpr c)]
        rw [Nat.div_eq_of_lt c]
        rw [Nat.mod_eq_of_lt c] at h9 ⊢
        refine h0 _ q c (by omega) (by rw [ed, pk_us]) (fun j h1 h2 => by rw [ed, pk_un h2, tk_o h1]) (by rw [ed]; exact h9)
      · have ed : M_due (M_tk r) = M_play (upd (M_tk r) 32 (nI (q % 4000))) := by
          unfold M_due; rw [if_pos z1, eph, pk_us, if_neg (show ¬ nI q < 4000 from fun y => c ((nI_ltI (b := 4000) (by omega) (by omega)).mp y)), rS (by omega)]
          have : upd (upd (M_tk r) 32 (nI q)) 32 (nI (q - 4000)) = upd (M_tk r) 32 (nI (q % 4000)) := by
            funext j
            by_cases y : j = 32
            · rw [y, pk_us, pk_us]; exact congrArg nI (by omega)
            · rw [pk_un y, pk_un y, pk_un y]
          rw [this]
        rw [show q / 4000 = 1 by omega]
        exact h1 _ (q % 4000) (by omega) (by omega) ed h9
  have ei : ∀ j, M_tk r j = r j ∨ True := fun _ => Or.inr trivial
  refine ⟨fun z => ?_, fun z => ?_⟩
  · have et : M_tk r = r := by
      unfold M_tk; rw [hlev]
      by_cases y : r 31 = 0
      · rw [if_pos y, if_pos z]
      · rw [if_neg y]
    exact key nb (by rw [et]; exact h)
  · rintro _ rfl
    by_cases y : r 31 = 0
    · have et : M_tk r = upd r 31 1 := by unfold M_tk; rw [hlev, if_pos y, if_neg z]
      have h8 := rAft_num h 8 1 (by omega) (by omega) (by omega) (by omega)
      rw [show hm 8 = 31 by decide] at h8
      exact key _ (by rw [et]; exact h8)
    · have et : M_tk r = r := by unfold M_tk; rw [if_neg y]
      have : upd nb 8 1 = nb := by
        have e1 : nb 8 = 1 := by rw [n8]; exact hbg.resolve_left y
        rw [← e1, upd_id]
      rw [this]
      exact key nb (by rw [et]; exact h)
