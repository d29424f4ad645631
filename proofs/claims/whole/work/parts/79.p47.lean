/-! pure part 47: a SLOT of the reference -/
theorem t12_gu {t cd ln : Nat} {r : Nat → Int32} {REST : (Nat → Int32) → Prop} (ht : t < 10000) (h : lnN ln cd r) (hD : ∃ D, D ≤ 16 ∧ r 10 = nI D) (hp : REST (M_gu t ln r)) :
    Lz1 (fun g15 (f17 : Nat → Int32) => ∀ k19 : Prop, (REST f17 → k19) → ((f17 51) ≤ (0 : Int32) → k19) ∧ (¬ (f17 51) ≤ (0 : Int32) → wp_X12_lineAt (0 : Int32) (fun r98 => vp_in (r98 + (0 : Int32)) 13385 ∧ (nI t < (((4 : Int32) * (f17 (r98 + (0 : Int32)).toNatClampNeg)) + (f17 10)) → k19) ∧ (¬ nI t < (((4 : Int32) * (f17 (r98 + (0 : Int32)).toNatClampNeg)) + (f17 10)) → wp_X12_lineAt (0 : Int32) (fun r102 => vp_in (r102 + (0 : Int32)) 13385 ∧ wp_X12_givesUp (f17 (r102 + (0 : Int32)).toNatClampNeg) f17 (fun f104 => ∀ f107 : Nat → Int32, f107 = upd f104 50 ((f104 50) + (1 : Int32)) → wp_X12_dropFirst f107 (fun f108 => g15 f108))))))) r := by
  obtain ⟨D, hD1, eD⟩ := hD
  refine Lz1_by (fun f => ∃ ln', lnN ln' cd f ∧ f 10 = nI D ∧ M_gu t ln' f = M_gu t ln r) (fun f => (f 51).toNatClampNeg) r ⟨ln, h, eD, rfl⟩ ?_
  rintro f ⟨ln', q1, q2, q3⟩ again hag k19 hk
  have e51 := q1.1
  have hl5 := q1.2.1
  by_cases h0 : 0 < ln'
  · have ek := lnN_0 q1 h0
    have hcd := q1.2.2
    refine ⟨fun y => absurd y (by rw [e51]; exact nI_nle h0 (by omega)), fun _ => ?_⟩
    have a0 : ((735 : Int32) + (170 * (0 : Int32))) + 0 = nI 735 := by decide
    unfold wp_X12_lineAt
    dsimp only
    rw [a0, nI_clamp (by omega), ek, q2, lM, nI_add]
    refine ⟨vp_in_nI (by omega) (by omega), fun y => ?_, fun y => ⟨vp_in_nI (by omega) (by omega), ?_⟩⟩
    · have hn : ¬ guC t f := fun z => z.2 (by rw [ek, q2, lM, nI_add]; exact y)
      rw [gu_no hn] at q3
      exact hk (by rw [q3]; exact hp)
    · refine t12_give (by omega) ?_
      rintro _ rfl
      have kk : tN (f 735) = cd - ln' := by rw [ek]; exact nI_clamp (by omega)
      have g50 : M_give (cd - ln') f 50 = f 50 := give_o (by omega) (by omega)
      rw [g50]
      refine t12_drop (ln := ln') (by rw [pk_un (by omega), give_o (by omega) (by omega)]; exact e51) h0 (by omega) ?_
      have eg : M_drop (upd (M_give (cd - ln') f) 50 (f 50 + 1)) = M_gu1 f := by unfold M_gu1; rw [kk]
      rw [eg]
      have hg := lnN_gu q1 h0
      refine hag _ ⟨ln' - 1, hg, ?_, ?_⟩ ?_
      · rw [gu1_o e51 ek (by omega) (by omega) (by omega) (by omega) (by omega) (by omega) (by omega)]; exact q2
      · rw [← q3]
        obtain ⟨l2, hl2⟩ : ∃ l2, ln' = l2 + 1 := ⟨ln' - 1, by omega⟩
        rw [hl2, M_gu, if_pos, Nat.add_sub_cancel]
        exact ⟨by rw [e51]; exact nI_nle h0 (by omega), by rw [ek, q2, lM, nI_add]; exact y⟩
      · show (M_gu1 f 51).toNatClampNeg < (f 51).toNatClampNeg
        rw [hg.1, e51, nI_clamp (by omega), nI_clamp (by omega)]; omega
  · have hz : ln' = 0 := by omega
    subst hz
    rw [M_gu] at q3
    exact ⟨fun _ => hk (by rw [q3]; exact hp), fun y => absurd (show f 51 ≤ 0 by rw [e51]; exact Int32.le_refl _) y⟩
def M_cod (r : Nat → Int32) : Nat → Int32 := if tN (r 25) % 4 = 0 then M_cf (tN (r 25) / 4) r else r
def M_snd (r : Nat → Int32) : Nat → Int32 := M_send (M_gu (tN (r 25)) (tN (r 51)) r)
def M_tk (r : Nat → Int32) : Nat → Int32 := if r 31 = 0 then (if nI (lev r) < r 13 then r else upd r 31 1) else r
def M_ph (r : Nat → Int32) : Nat → Int32 := upd r 32 (r 32 + ((1000 + r 12) + r 33))
def M_due (r : Nat → Int32) : Nat → Int32 := if r 31 = 1 then (if M_ph r 32 < 4000 then M_ph r else M_play (upd (M_ph r) 32 (M_ph r 32 - 4000))) else r
def M_end (r : Nat → Int32) : Nat → Int32 := upd r 25 (r 25 + 1)
def M_slot (r : Nat → Int32) : Nat → Int32 := M_end (M_due (M_tk (M_snd (M_cod r))))
/-- the step of the phase -/
theorem phase_n {p : Nat} {d e : Int32} (hp : p < 4000) (hd : -50 ≤ d.toInt ∧ d.toInt ≤ 50) (he : -100 ≤ e.toInt ∧ e.toInt ≤ 100) : ∃ q, nI p + ((1000 + d) + e) = nI q ∧ ((nI p + 1000) + d) + e = nI q ∧ q < 5150 ∧ q ≤ p + 1150 := by
  have e1 : nI p + ((1000 + d) + e) = ((nI p + 1000) + d) + e := by rw [Int32.add_assoc, Int32.add_assoc, Int32.add_assoc]
  obtain ⟨q, hq⟩ : ∃ q : Nat, (q : Int) = (p : Int) + 1000 + d.toInt + e.toInt := ⟨((p : Int) + 1000 + d.toInt + e.toInt).toNat, by omega⟩
  have h0 : (nI p).toInt = p := nI_toInt (by omega)
  have h1 : (nI p + 1000).toInt = (p : Int) + 1000 := by rw [rA, nI_toInt (by omega)]; omega
  have h2 : ((nI p + 1000) + d).toInt = (p : Int) + 1000 + d.toInt := by rw [fb_addI, h1] <;> rw [h1] <;> omega
  have h3 : (((nI p + 1000) + d) + e).toInt = (q : Int) := by rw [fb_addI, h2, hq] <;> rw [h2] <;> omega
  have h4 : ((nI p + 1000) + d) + e = nI q := Int32.toInt_inj.mp (by rw [h3, nI_toInt (by omega)])
  exact ⟨q, by rw [e1]; exact h4, h4, by omega, by omega⟩
theorem rPl_f {nx : Nat} {eA0 eB0 eA1 eB1 e0 e1 recs row row' : Nat → Int32} (h : rPl nx eA0 eB0 eA1 eB1 e0 e1 recs row) (e : ∀ j, (j = 33 ∨ (36 ≤ j ∧ j ≤ 38) ∨ j = 41 ∨ j = 52 ∨ (81 ≤ j ∧ j < 493) ∨ (3257 ≤ j ∧ j < 3369)) → row' j = row j) : rPl nx eA0 eB0 eA1 eB1 e0 e1 recs row' := by
  have hh : ∀ c, c < 2 → ∀ j, j < 192 → hR row' c j = hR row c j := fun c hc j hj => e _ (by omega)
  refine ⟨rMem_f h.m0 (fun j a b => e j (by omega)), rMem_f h.m1 (fun j a b => e j (by omega)), fun j hj => ?_, fun c hc j hj => ?_, ?_, ?_, ?_, fun i hi => ?_, ?_, ?_⟩
  · rw [hh 0 (by omega) j hj, hh 1 (by omega) j hj]; exact h.ear j hj
  · rw [hh c hc j hj]; exact h.inr c hc j hj
  · rw [e 38 (by omega)]; exact h.mn
  · rw [e 41 (by omega)]; exact h.off
  · rw [e 52 (by omega)]; exact h.tl
  · obtain ⟨c1, c2⟩ := h.rc i hi
    exact ⟨by rw [e _ (by omega)]; exact c1, fun w h1 h2 => by rw [e _ (by omega)]; exact c2 w h1 h2⟩
  · rw [e 36 (by omega), e 37 (by omega)]; exact h.sum
  · rw [e 33 (by omega)]; exact h.tr
/-- what the reference's SLOT needs to know of its row on the way -/
def okA (t : Nat) (row : Nat → Int32) : Prop := ∃ (cd nx ln hd bl hb : Nat) (nb rec dly : Nat → Int32) (pnum psent pover ppb : Nat → Int32) (wb : Nat → Nat → Int32) (wsz : Nat → Int32) (cb : Nat → Nat → Int32) (csz bnum : Nat → Int32) (bcb : Nat → Nat → Int32) (bcsz : Nat → Int32), rAft t cd nx ln ln hd bl hb 0 (cd - ln) nb rec dly pnum psent pover ppb wb wsz cb csz bnum bcb bcsz row ∧ 4 * cd ≤ t + 4 ∧ nx < 5000
def okP1 (row : Nat → Int32) : Prop := ∃ (nx : Nat) (eA0 eB0 eA1 eB1 e0 e1 recs : Nat → Int32), row 30 = nI nx ∧ nx < 5000 ∧ rPl nx eA0 eB0 eA1 eB1 e0 e1 recs row
/-- of the row before the SLOT -/
def okR (t : Nat) (row : Nat → Int32) : Prop :=
  (okSet row) ∧
  (row 25 = nI t) ∧
  (t < 10000) ∧
  (∃ P, P ≤ 128 ∧ row 43 = nI P) ∧
  (∃ s, s < 1000003 ∧ row 49 = nI s) ∧
  (∃ ln, ln ≤ 4 ∧ row 51 = nI ln) ∧
  (∃ p, p < 4000 ∧ row 32 = nI p) ∧
  (row 31 = 0 ∨ row 31 = 1) ∧
  (okP1 row)
theorem okR.ok {t : Nat} {row : Nat → Int32} (h : okR t row) : okSet row := h.1
theorem okR.t25 {t : Nat} {row : Nat → Int32} (h : okR t row) : row 25 = nI t := h.2.1
theorem okR.ht {t : Nat} {row : Nat → Int32} (h : okR t row) : t < 10000 := h.2.2.1
theorem okR.p43 {t : Nat} {row : Nat → Int32} (h : okR t row) : ∃ P, P ≤ 128 ∧ row 43 = nI P := h.2.2.2.1
theorem okR.s49 {t : Nat} {row : Nat → Int32} (h : okR t row) : ∃ s, s < 1000003 ∧ row 49 = nI s := h.2.2.2.2.1
theorem okR.l51 {t : Nat} {row : Nat → Int32} (h : okR t row) : ∃ ln, ln ≤ 4 ∧ row 51 = nI ln := h.2.2.2.2.2.1
theorem okR.ph {t : Nat} {row : Nat → Int32} (h : okR t row) : ∃ p, p < 4000 ∧ row 32 = nI p := h.2.2.2.2.2.2.1
theorem okR.bg {t : Nat} {row : Nat → Int32} (h : okR t row) : row 31 = 0 ∨ row 31 = 1 := h.2.2.2.2.2.2.2.1
theorem okR.pl {t : Nat} {row : Nat → Int32} (h : okR t row) : okP1 row := h.2.2.2.2.2.2.2.2
def okS (t : Nat) (row : Nat → Int32) : Prop :=
  (okR t row) ∧
  (okA t (M_cod row)) ∧
  (okA (t + 1) (M_snd (M_cod row)))
theorem okS.r {t : Nat} {row : Nat → Int32} (h : okS t row) : okR t row := h.1
theorem okS.a {t : Nat} {row : Nat → Int32} (h : okS t row) : okA t (M_cod row) := h.2.1
theorem okS.b {t : Nat} {row : Nat → Int32} (h : okS t row) : okA (t + 1) (M_snd (M_cod row)) := h.2.2
