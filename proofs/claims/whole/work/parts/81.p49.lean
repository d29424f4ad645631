/-! pure part 49: a SLOT of the reference, whole (2) -/
/-- behind the sender's SLOT and the tick -/
theorem due_ok {t : Nat} {row : Nat → Int32} (h : okS t row) : okSet (M_tk (M_snd (M_cod row))) ∧ (∃ q, M_ph (M_tk (M_snd (M_cod row))) 32 = nI q ∧ q < 5150) ∧ (M_tk (M_snd (M_cod row)) 31 = 0 ∨ M_tk (M_snd (M_cod row)) 31 = 1) ∧ M_tk (M_snd (M_cod row)) 25 = nI t ∧
    ∃ (nx bl hb fr : Nat) (bnum : Nat → Int32) (bcb : Nat → Nat → Int32) (bcsz eA0 eB0 eA1 eB1 e0 e1 recs : Nat → Int32), nx < 5000 ∧ fr ≤ 2500 ∧ M_tk (M_snd (M_cod row)) 30 = nI nx ∧ rBuf bl hb nx fr bnum bcb bcsz (M_tk (M_snd (M_cod row))) ∧ rPl nx eA0 eB0 eA1 eB1 e0 e1 recs (M_tk (M_snd (M_cod row))) := by
  obtain ⟨ln0, hln0, el0⟩ := h.r.l51
  have co : ∀ j, (j < 26 ∨ (27 ≤ j ∧ j < 42) ∨ (44 ≤ j ∧ j < 50) ∨ j = 52 ∨ (81 ≤ j ∧ j < 493) ∨ (2095 ≤ j ∧ j < 3385)) → M_cod row j = row j := fun j hj => cod_o el0 (by omega) hj
  obtain ⟨so, _, _, _⟩ := snd_o h
  have o : ∀ j, (j < 26 ∨ (32 ≤ j ∧ j < 42) ∨ j = 30 ∨ j = 52 ∨ (81 ≤ j ∧ j < 493) ∨ (3257 ≤ j ∧ j < 3369)) → M_tk (M_snd (M_cod row)) j = row j := fun j hj => by
    rw [tk_o (by omega), so j (by omega), co j (by omega)]
  have ok2 : okSet (M_tk (M_snd (M_cod row))) := okSet_f h.r.ok (fun j hj => o j (by omega))
  obtain ⟨nx, eA0, eB0, eA1, eB1, e0, e1, recs, e30, hnx, hpl⟩ := h.r.pl
  have hpl2 : rPl nx eA0 eB0 eA1 eB1 e0 e1 recs (M_tk (M_snd (M_cod row))) := rPl_f hpl (fun j hj => o j (by omega))
  have x30 : M_tk (M_snd (M_cod row)) 30 = nI nx := (o 30 (by omega)).trans e30
  obtain ⟨p, hp, ep⟩ := h.r.ph
  obtain ⟨q, q1, _, q3, _⟩ := phase_n (d := M_tk (M_snd (M_cod row)) 12) hp ok2.2.2.2.2.2.1 hpl2.tr
  refine ⟨ok2, ⟨q, ?_, q3⟩, tk_31 (by rw [so 31 (by omega), co 31 (by omega)]; exact h.r.bg), (o 25 (by omega)).trans h.r.t25, ?_⟩
  · unfold M_ph; rw [pk_us, o 32 (by omega), ep]; exact q1
  · obtain ⟨cd, nx', ln, hd, bl, hb, nb, rec, dly, pnum, psent, pover, ppb, wb, wsz, cb, csz, bnum, bcb, bcsz, hA, h4, hnx'⟩ := h.b
    have e30' := hA.2.2.2.2.2.2.2.2
    have en : nx' = nx := by
      have := (nI_eq (a := nx') (b := nx) (by omega) (by omega)).mp (by rw [← e30', ← x30, tk_o (by omega)])
      exact this
    subst en
    have hcd := hA.2.2.2.1.1.2.2.2.1
    exact ⟨nx', bl, hb, cd - ln, bnum, bcb, bcsz, eA0, eB0, eA1, eB1, e0, e1, recs, hnx, by omega, x30, rBuf_f hA.2.2.2.2.2.2.1 (fun j a b => tk_o (by omega)) (tk_o (by omega)) (Nat.le_refl _), hpl2⟩
set_option maxHeartbeats 800000 in
set_option maxRecDepth 100000 in
theorem t12_slot {t : Nat} {nS nD pE pO bit lag lagS : Int32} {row eight rows bytes scales dealt hr made backs comes : Nat → Int32} {post : Int32 → Int32 → Int32 → Int32 → Int32 → Int32 → Int32 → (Nat → Int32) → (Nat → Int32) → (Nat → Int32) → (Nat → Int32) → (Nat → Int32) → (Nat → Int32) → (Nat → Int32) → (Nat → Int32) → (Nat → Int32) → (Nat → Int32) → Prop} (h : okS t row)
    (hp : ∀ (x1 x2 x3 x4 x5 x6 x7 : Int32) (a1 a2 a3 a4 a5 a6 a7 a8 a9 : Nat → Int32), post x1 x2 x3 x4 x5 x6 x7 (M_slot row) a1 a2 a3 a4 a5 a6 a7 a8 a9) :
    wp_X12_slot nS nD pE pO bit lag lagS row eight rows bytes scales dealt hr made backs comes post := by
  have ht := h.r.ht
  obtain ⟨ln0, hln0, el0⟩ := h.r.l51
  have k25 : tN (row 25) = t := by rw [h.r.t25]; exact nI_clamp (by omega)
  obtain ⟨_, _, esn, tsn⟩ := snd_o h
  obtain ⟨ok3, ⟨q, eq, hq⟩, bg3, e25, nx, bl, hb, fr, bnum, bcb, bcsz, eA0, eB0, eA1, eB1, e0, e1, recs, hnx, hfr, e30, hbuf, hpl⟩ := due_ok h
  obtain ⟨cd, nx0, ln, hd, bl0, hb0, nb, rec, dly, pnum, psent, pover, ppb, wb, wsz, cb, csz, bnum0, bcb0, bcsz0, hA, h4, hnx0⟩ := h.a
  have hLn := hA.2.2.2.1.1
  have k51 : tN (M_cod row 51) = ln := by rw [hLn.1]; exact nI_clamp (by have := hLn.2.1; omega)
  have e10 : ∃ D, D ≤ 16 ∧ M_cod row 10 = nI D := by
    obtain ⟨_, _, _, _, ⟨D, hD1, hD2, eD⟩, _⟩ := h.r.ok
    exact ⟨D, hD2, by rw [cod_o el0 (by omega) (by omega)]; exact eD⟩
  rw [k51] at tsn
  unfold wp_X12_slot
  rw [h.r.t25]
  rintro _ rfl _ rfl
  rw [rR (by omega) (by omega) (by omega), rD (by omega) (by omega) (by omega)]
  intro k13 hk13
  have key : ∀ (x4 x5 x6 : Int32) (f8 f9 f10 f11 f12 : Nat → Int32), k13 x4 x5 x6 (M_cod row) f8 f9 f10 f11 f12 := by
    intro x4 x5 x6 f8 f9 f10 f11 f12
    refine hk13 _ _ _ _ _ _ _ _ _ ?_
    refine t12_gu ht hLn e10 ?_
    refine tsn _ _ (fun f22 => ?_)
    unfold M_slot at hp
    generalize M_snd (M_cod row) = r2 at hp ok3 eq bg3 e25 e30 hbuf hpl
    intro k25' hk25
    have key2 : k25' (M_tk r2) := by
      refine hk25 _ ?_
      generalize M_tk r2 = r3 at hp ok3 eq bg3 e25 e30 hbuf hpl
      intro k43 hk43
      have key3 : ∀ (x28 x29 x30 x31 x32 : Int32) (f34 f35 f36 f37 f38 f39 f40 f41 f42 : Nat → Int32), k43 x28 x29 x30 x31 x32 (M_due r3) f34 f35 f36 f37 f38 f39 f40 f41 f42 := by
        intro x28 x29 x30 x31 x32 f34 f35 f36 f37 f38 f39 f40 f41 f42
        refine hk43 _ _ _ _ _ _ _ _ _ _ _ _ _ _ _ ?_
        rintro _ rfl
        exact hp _ _ _ _ _ _ _ _ _ _ _ _ _ _ _ _
      refine ⟨fun q31 => ?_, fun q31 => ?_⟩
      · intro f53 hf53
        have ef : f53 = M_ph r3 := hf53
        subst ef
        refine Lz15_by (fun _ _ _ _ _ f61 _ _ _ _ _ _ _ _ _ => f61 = M_ph r3 ∨ (¬ M_ph r3 32 < 4000 ∧ f61 = M_due r3)) (fun _ _ _ _ _ f61 _ _ _ _ _ _ _ _ _ => (f61 32).toNatClampNeg) _ _ _ _ _ _ _ _ _ _ _ _ _ _ _ (Or.inl rfl) ?_
        intro x56 x57 x58 x59 x60 f61 f62 f63 f64 f65 f66 f67 f68 f69 f70 hI again hag
        have ed : ¬ M_ph r3 32 < 4000 → M_due r3 = M_play (upd (M_ph r3) 32 (nI (q - 4000))) ∧ 4000 ≤ q := fun z => by
          have hq4 : 4000 ≤ q := by
            rw [eq] at z
            rcases Nat.lt_or_ge q 4000 with y | y
            · exact absurd ((nI_ltI (b := 4000) (by omega) (by omega)).mpr y) z
            · exact y
          refine ⟨?_, hq4⟩
          unfold M_due
          rw [if_pos q31, if_neg z, eq, rS (by omega)]
        rcases hI with rfl | ⟨z, rfl⟩
        · refine ⟨fun y => ?_, fun y => ?_⟩
          · have : M_due r3 = M_ph r3 := by unfold M_due; rw [if_pos q31, if_pos y]
            rw [← this]; exact key3 _ _ _ _ _ _ _ _ _ _ _ _ _ _
          · obtain ⟨d1, d2⟩ := ed y
            rw [eq, rS (by omega)]
            rintro _ rfl
            have po : ∀ j, j ≠ 32 → upd (M_ph r3) 32 (nI (q - 4000)) j = r3 j := fun j hj => by rw [pk_un hj, ph_o hj]
            refine t12_play (okSet_f ok3 (fun j hj => po j (by omega))) (rBuf_f hbuf (fun j a b => po j (by omega)) (po 30 (by omega)) (Nat.le_refl _)) hfr hnx ((po 30 (by omega)).trans e30) (rPl_f hpl (fun j hj => po j (by omega))) (fun E' O' bit' l' s' a1 a2 a3 a4 a5 a6 a7 a8 a9 => ?_)
            rw [← d1]
            refine hag _ _ _ _ _ _ _ _ _ _ _ _ _ _ _ (Or.inr ⟨y, rfl⟩) ?_
            show (M_due r3 32).toNatClampNeg < (M_ph r3 32).toNatClampNeg
            rw [d1, play_o (by omega), pk_us, eq, nI_clamp (by omega), nI_clamp (by omega)]; omega
        · obtain ⟨d1, d2⟩ := ed z
          have e32 : M_due r3 32 = nI (q - 4000) := by rw [d1, play_o (by omega), pk_us]
          refine ⟨fun _ => key3 _ _ _ _ _ _ _ _ _ _ _ _ _ _, fun y => absurd ?_ y⟩
          rw [e32]; exact (nI_ltI (b := 4000) (by omega) (by omega)).mpr (by omega)
      · have : M_due r3 = r3 := by unfold M_due; rw [if_neg q31]
        rw [← this]; exact key3 _ _ _ _ _ _ _ _ _ _ _ _ _ _
    refine ⟨fun y => t12_level ⟨fun z => ?_, fun z => ?_⟩, fun y => ?_⟩
    · have : M_tk r2 = r2 := by unfold M_tk; rw [if_pos y, if_pos z]
      rw [this] at key2; exact key2
    · rintro _ rfl
      have : M_tk r2 = upd r2 31 1 := by unfold M_tk; rw [if_pos y, if_neg z]
      rw [this] at key2; exact key2
    · have : M_tk r2 = r2 := by unfold M_tk; rw [if_neg y]
      rw [this] at key2; exact key2
  refine ⟨fun y => ?_, fun y => ?_⟩
  · have q4 : t % 4 = 0 := (nI_eq (b := 0) (by omega) (by omega)).mp y
    have ec : M_cod row = M_cf (t / 4) row := by unfold M_cod; rw [k25, if_pos q4]
    rintro _ rfl
    refine t12_codeFrame (by omega) h.r.ok h.r.p43 el0 (by omega) (fun S' D' bit' e' r' b' s' d' => ?_)
    rw [← ec]; exact key _ _ _ _ _ _ _ _
  · have q4 : ¬ t % 4 = 0 := fun z => y (by rw [z]; rfl)
    have ec : M_cod row = row := by unfold M_cod; rw [k25, if_neg q4]
    have := key nS nD bit eight rows bytes scales dealt
    rw [ec] at this; exact this
