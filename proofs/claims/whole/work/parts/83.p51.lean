/-! pure part 51: a SLOT of the class -/
set_option maxHeartbeats 800000 in
set_option maxRecDepth 100000 in
theorem t10_passSlot {t cd nx ln hd bl hb : Nat} {nb rec dly : Nat → Int32} {pnum psent pover ppb : Nat → Int32} {wb : Nat → Nat → Int32} {wsz : Nat → Int32} {cb : Nat → Nat → Int32} {csz : Nat → Int32} {bnum : Nat → Int32} {bcb : Nat → Nat → Int32} {bcsz : Nat → Int32} {A0 B0 A1 B1 split told quants backs scales bits : Nat → Int32} {tw me sz : Int32} {bytes : Nat → Int32} {eA0 eB0 eA1 eB1 e0 e1 recs : Nat → Int32} {row : Nat → Int32} {po at_ ptw pme ppo l0 s0 l1 s1 : Int32} {samples r0 n0 r1 n1 needs psc pne pbi pqu pba prj er0 en0 ef0 m0 er1 en1 ef1 m1 bsent bover bpb : Nat → Int32} {bwb : Nat → Nat → Int32} {bwsz bcat : Nat → Int32}
    {post : (Nat → Int32) → (Nat → Int32) → Int32 → Int32 → Int32 → (Nat → Int32) → (Nat → Int32) → (Nat → Int32) → (Nat → Int32) → (Nat → Int32) → (Nat → Int32) → (Nat → Int32) → (Nat → Int32) → (Nat → Int32) → (Nat → Int32) → (Nat → Int32) → (Nat → Int32) → (Nat → Int32) → (Nat → Int32) → (Nat → Int32) → Int32 → Int32 → (Nat → Int32) → Int32 → (Nat → Int32) → (Nat → Int32) → Int32 → Int32 → Int32 → Int32 → (Nat → Int32) → (Nat → Int32) → (Nat → Int32) → (Nat → Int32) → (Nat → Int32) → (Nat → Int32) → Int32 → Int32 → (Nat → Int32) → (Nat → Int32) → (Nat → Int32) → (Nat → Int32) → (Nat → Int32) → (Nat → Int32) → (Nat → Int32) → Int32 → Int32 → (Nat → Int32) → (Nat → Int32) → (Nat → Int32) → (Nat → Int32) → (Nat → Int32) → (Nat → Int32) → (Nat → Int32) → (Nat → Int32) → (Nat → Int32) → (Nat → Int32) → (Nat → Int32) → (Nat → Int32) → (Nat → Nat → Int32) → (Nat → Int32) → (Nat → Nat → Int32) → (Nat → Int32) → (Nat → Int32) → (Nat → Int32) → (Nat → Int32) → (Nat → Int32) → (Nat → Nat → Int32) → (Nat → Int32) → (Nat → Nat → Int32) → (Nat → Int32) → (Nat → Int32) → Prop}
    (h : RW t cd nx ln hd bl hb nb rec dly pnum psent pover ppb wb wsz cb csz bnum bcb bcsz A0 B0 A1 B1 split told quants backs scales bits tw me sz bytes eA0 eB0 eA1 eB1 e0 e1 recs row) (ht : t < 10000)
    (hp : ∀ (cd nx ln hd bl hb : Nat) (nb rec dly : Nat → Int32) (pnum psent pover ppb : Nat → Int32) (wb : Nat → Nat → Int32) (wsz : Nat → Int32) (cb : Nat → Nat → Int32) (csz : Nat → Int32) (bnum : Nat → Int32) (bcb : Nat → Nat → Int32) (bcsz : Nat → Int32) (A0 B0 A1 B1 split told quants backs scales bits : Nat → Int32) (tw me sz : Int32) (bytes : Nat → Int32) (eA0 eB0 eA1 eB1 e0 e1 recs : Nat → Int32) (po at_ ptw pme ppo l0 s0 l1 s1 : Int32) (samples r0 n0 r1 n1 needs psc pne pbi pqu pba prj er0 en0 ef0 m0 er1 en1 ef1 m1 bsent bover bpb : Nat → Int32) (bwb : Nat → Nat → Int32) (bwsz bcat : Nat → Int32), RW (t + 1) cd nx ln hd bl hb nb rec dly pnum psent pover ppb wb wsz cb csz bnum bcb bcsz A0 B0 A1 B1 split told quants backs scales bits tw me sz bytes eA0 eB0 eA1 eB1 e0 e1 recs (M_slot row) → okS t row →
      post nb samples tw me po r0 A0 B0 n0 split r1 A1 B1 n1 told scales needs bits quants backs sz at_ bytes (nI hd) rec dly (nI hb) ptw pme ppo psc pne pbi pqu pba prj l0 s0 er0 eB0 eA0 en0 ef0 e0 m0 l1 s1 er1 eB1 eA1 en1 ef1 e1 m1 recs pnum psent pover ppb wb wsz cb csz bnum bsent bover bpb bwb bwsz bcb bcsz bcat) :
    wp_X10_passSlot nb samples tw me po r0 A0 B0 n0 split r1 A1 B1 n1 told scales needs bits quants backs sz at_ bytes (nI 5) (nI hd) rec dly (nI 6) (nI hb) ptw pme ppo psc pne pbi pqu pba prj l0 s0 er0 eB0 eA0 en0 ef0 e0 m0 l1 s1 er1 eB1 eA1 en1 ef1 e1 m1 recs pnum psent pover ppb wb wsz cb csz bnum bsent bover bpb bwb bwsz bcb bcsz bcat post := by
  have hN := h.aft.1
  have hLn := h.aft.2.2.2.1.1
  have hcd0 := h.hcd
  have hln4 : ln ≤ 4 := by
    by_cases q : 0 < ln
    · have := h.dl q
      have := hLn.2.2.1
      have := hLn.2.1
      omega
    · omega
  obtain ⟨p, p1, p2, p3⟩ := h.ph
  obtain ⟨P0, hP0, e43⟩ := h.p43
  obtain ⟨s, hs, e49⟩ := h.s49
  obtain ⟨e, he, e16⟩ := h.e16
  obtain ⟨_, ⟨P, hP1, hP2, e7⟩, _, _, ⟨D, hD1, hD2, eD⟩, _, ⟨pb, hb1, hb2, e14⟩, _⟩ := id h.ok
  have hokR : okR t row := h.okR ht (fun _ => hln4) hln4
  have n0t : nb 0 = nI t := (hN 0 (by omega) (by omega) (by omega) (by omega)).trans h.t25
  have k25 : tN (row 25) = t := by rw [h.t25]; exact nI_clamp (by omega)
  have co : ∀ j, (j < 26 ∨ (27 ≤ j ∧ j < 42) ∨ (44 ≤ j ∧ j < 50) ∨ j = 52 ∨ (81 ≤ j ∧ j < 493) ∨ (2095 ≤ j ∧ j < 3385)) → M_cod row j = row j := fun j hj => cod_o hLn.1 (by omega) hj
  unfold wp_X10_passSlot
  rw [n0t]
  rintro _ rfl _ rfl
  rw [rR (by omega) (by omega) (by omega), rD (by omega) (by omega) (by omega)]
  intro k36 hk36
  have key : ∀ (cd ln : Nat) (nb rec pnum psent pover ppb : Nat → Int32) (wb : Nat → Nat → Int32) (wsz : Nat → Int32) (cb : Nat → Nat → Int32) (csz : Nat → Int32) (A0 B0 A1 B1 split told quants backs scales bits : Nat → Int32) (tw me sz : Int32) (bytes : Nat → Int32) (po at_ : Int32) (samples r0 n0 r1 n1 needs : Nat → Int32), rAft t cd nx ln ln hd bl hb 0 (cd - ln) nb rec dly pnum psent pover ppb wb wsz cb csz bnum bcb bcsz (M_cod row) → cd = (t + 4) / 4 → M_cod row 26 = nI cd → rMem A0 B0 53 (M_cod row) → rMem A1 B1 67 (M_cod row) → rFr split told quants backs scales bits tw me sz bytes (M_cod row) → (∃ P, P ≤ 128 ∧ M_cod row 43 = nI P) →
      k36 nb samples tw me po r0 A0 B0 n0 split r1 A1 B1 n1 told scales needs bits quants backs sz at_ bytes rec pnum psent pover ppb wb wsz cb csz := by
    intro cd ln nb rec pnum psent pover ppb wb wsz cb csz A0 B0 A1 B1 split told quants backs scales bits tw me sz bytes po at_ samples r0 n0 r1 n1 needs hA hcd t26 c0 c1 fr p43
    refine hk36 _ _ _ _ _ _ _ _ _ _ _ _ _ _ _ _ _ _ _ _ _ _ _ _ _ _ _ _ _ _ _ _ ?_
    have kl : tN (M_cod row 51) = ln := by rw [hA.2.2.2.1.1.1]; exact nI_clamp (by have := hA.2.2.2.1.1.2.1; omega)
    have kt : tN (M_cod row 25) = t := by rw [co 25 (by omega)]; exact k25
    have esnd : M_send (M_gu t ln (M_cod row)) = M_snd (M_cod row) := by unfold M_snd; rw [kt, kl]
    refine t8_passSlot (s := s) (e := e) (D := D) hA ht (by omega) (by omega) ((co 25 (by omega)).trans h.t25) ((co 49 (by omega)).trans e49) hs ((co 16 (by omega)).trans e16) he ((co 10 (by omega)).trans eD) hD2 (fun ln2 hd2 bl2 nb2 rec2 dly2 psent2 pover2 cb2 csz2 bnum2 bsent2 bover2 bpb2 bwb2 bwsz2 bcb2 bcsz2 hdl hA2 => ?_)
    rw [esnd] at hA2
    have hokS : okS t row := ⟨hokR, ⟨_, _, _, _, _, _, _, _, _, _, _, _, _, _, _, _, _, _, _, _, hA, by omega, by omega⟩, ⟨_, _, _, _, _, _, _, _, _, _, _, _, _, _, _, _, _, _, _, _, hA2, by omega, by omega⟩⟩
    obtain ⟨so, ⟨s2, hs2, es2⟩, _, _⟩ := snd_o hokS
    have o2 : ∀ j, (j < 26 ∨ (30 ≤ j ∧ j < 42) ∨ j = 52 ∨ (81 ≤ j ∧ j < 493) ∨ (3257 ≤ j ∧ j < 3369)) → M_snd (M_cod row) j = row j := fun j hj => by
      rw [so j (by omega), co j (by omega)]
    have ok2 : okSet (M_snd (M_cod row)) := okSet_f h.ok (fun j hj => o2 j (by omega))
    have pl2 : rPl nx eA0 eB0 eA1 eB1 e0 e1 recs (M_snd (M_cod row)) := rPl_f h.pl (fun j hj => o2 j (by omega))
    -- the end of the SLOT
    have fin : ∀ (nx' bl' hb' p' : Nat) (nb' rec' : Nat → Int32) (ptw pme ppo l0 s0 l1 s1 : Int32) (eA0 eB0 eA1 eB1 e0 e1 recs psc pne pbi pqu pba prj er0 en0 ef0 m0 er1 en1 ef1 m1 bcat : Nat → Int32), p' < 4000 → M_due (M_tk (M_snd (M_cod row))) 32 = nI p' → 4000 * nx' + p' ≤ 1150 * (t + 1) → rAft (t + 1) cd nx' ln2 ln2 hd2 bl' hb' 0 (cd - ln2) nb' rec' dly2 pnum psent2 pover2 ppb wb wsz cb2 csz2 bnum2 bcb2 bcsz2 (M_due (M_tk (M_snd (M_cod row)))) → rPl nx' eA0 eB0 eA1 eB1 e0 e1 recs (M_due (M_tk (M_snd (M_cod row)))) →
        ∀ f93 : Nat → Int32, f93 = upd nb' 0 (nI t + 1) → post f93 samples tw me po r0 A0 B0 n0 split r1 A1 B1 n1 told scales needs bits quants backs sz at_ bytes (nI hd2) rec' dly2 (nI hb') ptw pme ppo psc pne pbi pqu pba prj l0 s0 er0 eB0 eA0 en0 ef0 e0 m0 l1 s1 er1 eB1 eA1 en1 ef1 e1 m1 recs pnum psent2 pover2 ppb wb wsz cb2 csz2 bnum2 bsent2 bover2 bpb2 bwb2 bwsz2 bcb2 bcsz2 bcat := by
      intro nx' bl' hb' p' nb' rec' ptw pme ppo l0 s0 l1 s1 eA0 eB0 eA1 eB1 e0 e1 recs psc pne pbi pqu pba prj er0 en0 ef0 m0 er1 en1 ef1 m1 bcat hp' ep' hph hA3 hpl3 f93 hf
      subst hf
      rw [rA]
      have d3 : ∀ j, (j < 30 ∨ (42 ≤ j ∧ j < 52) ∨ (53 ≤ j ∧ j < 81) ∨ (493 ≤ j ∧ j < 735)) → M_due (M_tk (M_snd (M_cod row))) j = M_snd (M_cod row) j := fun j hj => by rw [due_o (by omega), tk_o (by omega)]
      have e25 : M_due (M_tk (M_snd (M_cod row))) 25 = nI t := by rw [d3 25 (by omega), o2 25 (by omega)]; exact h.t25
      have eE : M_slot row = upd (M_due (M_tk (M_snd (M_cod row)))) 25 (nI (t + 1)) := by
        show M_end _ = _
        unfold M_end; rw [e25, rA]
      have bg3 : M_due (M_tk (M_snd (M_cod row))) 31 = 0 ∨ M_due (M_tk (M_snd (M_cod row))) 31 = 1 := by
        rw [due_o (by omega)]; exact tk_31 (by rw [o2 31 (by omega)]; exact h.bg)
      generalize M_due (M_tk (M_snd (M_cod row))) = r4 at ep' hA3 hpl3 d3 e25 eE bg3
      have hA4 := rAft_num hA3 0 (nI (t + 1)) (by omega) (by omega) (by omega) (by omega)
      rw [show hm 0 = 25 by decide] at hA4
      refine hp cd nx' ln2 hd2 bl' hb' _ _ _ _ _ _ _ _ _ _ _ _ _ _ _ _ _ _ _ _ _ _ _ _ _ _ _ _ _ _ _ _ _ _ _ _ _ _ _ _ _ _ _ _ _ _ _ _ _ _ _ _ _ _ _ _ _ _ _ _ _ _ _ _ _ _ _ _ _ _ ?_ hokS
      rw [eE]
      refine ⟨hA4, rPl_f hpl3 (fun j hj => pk_un (by omega)), okSet_f h.ok (fun j hj => by rw [pk_un (by omega), d3 j (by omega), o2 j (by omega)]), pk_us, ?_, by omega, by omega, fun q => ?_, ?_, ?_, fun _ => ?_, ?_, ?_, ?_, ⟨p', hp', by rw [pk_un (by omega)]; exact ep', hph⟩, by rw [pk_un (by omega)]; exact bg3⟩
      · rw [pk_un (by omega), d3 26 (by omega), so 26 (by omega)]; exact t26
      · have := hdl q; omega
      · exact rMem_f c0 (fun j a b => by rw [pk_un (by omega), d3 j (by omega), so j (by omega)])
      · exact rMem_f c1 (fun j a b => by rw [pk_un (by omega), d3 j (by omega), so j (by omega)])
      · exact rFr_f fr (fun j a b => by rw [pk_un (by omega), d3 j (by omega), so j (by omega)])
      · obtain ⟨P', hP', e'⟩ := p43
        exact ⟨P', hP', by rw [pk_un (by omega), d3 43 (by omega), so 43 (by omega)]; exact e'⟩
      · exact ⟨s2, hs2, by rw [pk_un (by omega), d3 49 (by omega)]; exact es2⟩
      · exact ⟨e, he, by rw [pk_un (by omega), d3 16 (by omega), o2 16 (by omega)]; exact e16⟩
    refine t6_tick hA2 ok2 pl2.tr p1 ((o2 32 (by omega)).trans p2) (by rw [o2 31 (by omega)]; exact h.bg) (fun nb3 p' a1 a2 a3 a4 a5 => ?_) (fun nb3 p' a1 a2 a3 a4 => ?_)
    · refine Lz33_by (fun x58 f59 f60 x61 _ _ _ _ _ _ _ _ _ _ _ _ f74 f75 _ _ f78 _ _ _ _ f83 f84 _ _ f87 _ f89 _ => x58 = 0 ∧ f59 = nb3 ∧ f60 = rec2 ∧ x61 = nI hb ∧ f74 = eB0 ∧ f75 = eA0 ∧ f78 = e0 ∧ f83 = eB1 ∧ f84 = eA1 ∧ f87 = e1 ∧ f89 = recs) (fun _ _ _ _ _ _ _ _ _ _ _ _ _ _ _ _ _ _ _ _ _ _ _ _ _ _ _ _ _ _ _ _ _ => 0) _ _ _ _ _ _ _ _ _ _ _ _ _ _ _ _ _ _ _ _ _ _ _ _ _ _ _ _ _ _ _ _ _ ⟨rfl, rfl, rfl, rfl, rfl, rfl, rfl, rfl, rfl, rfl, rfl⟩ ?_
      rintro x58 f59 f60 x61 x62 x63 x64 f65 f66 f67 f68 f69 f70 x71 x72 f73 f74 f75 f76 f77 f78 f79 x80 x81 f82 f83 f84 f85 f86 f87 f88 f89 x90 ⟨rfl, rfl, rfl, rfl, rfl, rfl, rfl, rfl, rfl, rfl, rfl⟩ again _
      refine ⟨fun _ => ?_, fun y => absurd (Int32.le_refl _) y⟩
      exact fin nx bl2 hb p' _ _ _ _ _ _ _ _ _ _ _ _ _ _ _ _ _ _ _ _ _ _ _ _ _ _ _ _ _ _ _ a1 a3 (by omega) a5 (rPl_f pl2 (fun j hj => a4 j (by omega) (by omega)))
    · have hq : ∀ j, j ≠ 31 → j ≠ 32 → upd (M_tk (M_snd (M_cod row))) 32 (nI p') j = M_snd (M_cod row) j := fun j h1 h2 => by rw [pk_un h2, tk_o h1]
      refine Lz33_by (fun x58 f59 f60 x61 _ _ _ _ _ _ _ _ _ _ _ _ f74 f75 _ _ f78 _ _ _ _ f83 f84 _ _ f87 _ f89 _ => (x58 = 1 ∧ f59 = nb3 ∧ f60 = rec2 ∧ x61 = nI hb ∧ f74 = eB0 ∧ f75 = eA0 ∧ f78 = e0 ∧ f83 = eB1 ∧ f84 = eA1 ∧ f87 = e1 ∧ f89 = recs) ∨ (x58 = 0 ∧ ∃ bl' hb' : Nat, x61 = nI hb' ∧ rAft (t + 1) cd (nx + 1) ln2 ln2 hd2 bl' hb' 0 (cd - ln2) f59 f60 dly2 pnum psent2 pover2 ppb wb wsz cb2 csz2 bnum2 bcb2 bcsz2 (M_due (M_tk (M_snd (M_cod row)))) ∧ rPl (nx + 1) f75 f74 f84 f83 f78 f87 f89 (M_due (M_tk (M_snd (M_cod row)))))) (fun x58 _ _ _ _ _ _ _ _ _ _ _ _ _ _ _ _ _ _ _ _ _ _ _ _ _ _ _ _ _ _ _ _ => x58.toNatClampNeg) _ _ _ _ _ _ _ _ _ _ _ _ _ _ _ _ _ _ _ _ _ _ _ _ _ _ _ _ _ _ _ _ _ (Or.inl ⟨rfl, rfl, rfl, rfl, rfl, rfl, rfl, rfl, rfl, rfl, rfl⟩) ?_
      rintro x58 f59 f60 x61 x62 x63 x64 f65 f66 f67 f68 f69 f70 x71 x72 f73 f74 f75 f76 f77 f78 f79 x80 x81 f82 f83 f84 f85 f86 f87 f88 f89 x90 (⟨rfl, rfl, rfl, rfl, rfl, rfl, rfl, rfl, rfl, rfl, rfl⟩ | ⟨rfl, bl', hb', rfl, b1, b2⟩) again hag
      · refine ⟨fun y => absurd y (by decide), fun _ => ?_⟩
        refine t6_playNext a4 (rPl_f pl2 (fun j hj => hq j (by omega) (by omega))) (okSet_f ok2 (fun j hj => hq j (by omega) (by omega))) (by omega) (by omega) ((hq 25 (by omega) (by omega)).trans ((o2 25 (by omega)).trans h.t25)) (fun bl' hb' nb' tw' me' po' b1 b2 b3 b4 b5 b6 l0' s0' r0' B0' A0' n0' f0' e0' m0' l1' s1' r1' B1' A1' n1' f1' e1' m1' recs' rec' at' d1 d2 => ?_)
        rw [← a3] at d1 d2
        exact hag _ _ _ _ _ _ _ _ _ _ _ _ _ _ _ _ _ _ _ _ _ _ _ _ _ _ _ _ _ _ _ _ _ (Or.inr ⟨by decide, bl', hb', rfl, d1, d2⟩) (by show ((1 : Int32) + (-1)).toNatClampNeg < (1 : Int32).toNatClampNeg; decide)
      · refine ⟨fun _ => ?_, fun y => absurd (Int32.le_refl _) y⟩
        have e32 : M_due (M_tk (M_snd (M_cod row))) 32 = nI p' := by rw [a3, play_o (by omega), pk_us]
        exact fin (nx + 1) bl' hb' p' _ _ _ _ _ _ _ _ _ _ _ _ _ _ _ _ _ _ _ _ _ _ _ _ _ _ _ _ _ _ _ a1 e32 (by omega) b1 b2
  refine ⟨fun y => ?_, fun y => ?_⟩
  · have q4 : t % 4 = 0 := (nI_eq (b := 0) (by omega) (by omega)).mp y
    have ec : M_cod row = M_cf (t / 4) row := by unfold M_cod; rw [k25, if_pos q4]
    have ek : cd = t / 4 := by omega
    rintro _ rfl
    refine t2_codeFrame (row := row) (by omega) hN h.ok h.p43 h.c0 h.c1 (fun samples' r0' A0' B0' n0' split' r1' A1' B1' n1' told' scales' needs' bits' quants' backs' bytes' tw' me' po' sz' at' d0 d1 d2 => ?_)
    obtain ⟨z, hz1, hz2, esz, e654⟩ := d2.2.2.2.2.2.1
    have eby := d2.2.2.2.2.2.2.1
    have hby := d2.2.2.2.2.2.2.2
    subst esz
    have hAc : rAft t (t / 4) nx ln ln hd bl hb 0 (t / 4 - ln) nb rec dly pnum psent pover ppb wb wsz cb csz bnum bcb bcsz (M_cc (t / 4) row) := by
      rw [← ek]; exact rAft_f h.aft (fun j hj => M_cc_o (by omega) (by omega))
    refine t8_enqueue hAc (by omega) hln4 (by omega) hz1 hz2 e654 eby hby hb1 hb2 (by rw [M_cc_o (by omega) (by omega)]; exact e14) (fun nb' rec' pnum' psent' pover' ppb' wb' wsz' cb' csz' hAe => ?_)
    have e51c : M_cc (t / 4) row 51 = nI ln := by rw [M_cc_o (by omega) (by omega)]; exact hLn.1
    have eo : ∀ j, (j < 735 ∨ 2095 ≤ j) → j ≠ 51 → j ≠ 26 → j ≠ 42 → j < 3385 → M_enq (t / 4) (M_cc (t / 4) row) j = M_cc (t / 4) row j := fun j h1 h2 h3 h4 h5 => M_enq_o e51c (by omega) h1 h2 h3 h4 h5
    have e26 : M_enq (t / 4) (M_cc (t / 4) row) 26 = nI (t / 4 + 1) := by
      unfold M_enq; rw [pk_un (by omega), pk_us, M_cc_o (by omega) (by omega), h.t26, ← ek, rA]
    have e43e : M_enq (t / 4) (M_cc (t / 4) row) 43 = nI P0 := by rw [eo _ (by omega) (by omega) (by omega) (by omega) (by omega), M_cc_o (by omega) (by omega)]; exact e43
    have e7e : M_enq (t / 4) (M_cc (t / 4) row) 7 = nI P := by rw [eo _ (by omega) (by omega) (by omega) (by omega) (by omega), M_cc_o (by omega) (by omega)]; exact e7
    refine t2_steer hAe e43e hP0 e7e hP1 hP2 e26 (by omega) (fun nb'' hAs => ?_)
    have ecf : (if t / 4 % 8 = 7 then M_steer (M_enq (t / 4) (M_cc (t / 4) row)) else M_enq (t / 4) (M_cc (t / 4) row)) = M_cod row := by rw [ec]; rfl
    have so : ∀ j, j ≠ 43 → j ≠ 50 → M_cod row j = M_enq (t / 4) (M_cc (t / 4) row) j := fun j h1 h2 => by
      rw [← ecf]
      by_cases q : t / 4 % 8 = 7
      · rw [if_pos q, steer_o h1 h2]
      · rw [if_neg q]
    have p43' : ∃ P, P ≤ 128 ∧ M_cod row 43 = nI P := by
      rw [← ecf]
      by_cases q : t / 4 % 8 = 7
      · rw [if_pos q, steer_43]
        by_cases q15 : M_enq (t / 4) (M_cc (t / 4) row) 15 = 1
        · rw [if_pos q15]
          obtain ⟨ms, g1, g2, _⟩ := hAe.2.1
          rw [stV_n e43e hP0 e7e hP1 hP2 g2 (by omega)]
          refine ⟨_, ?_, rfl⟩
          split <;> omega
        · rw [if_neg q15]; exact ⟨P0, hP0, e43e⟩
      · rw [if_neg q]; exact ⟨P0, hP0, e43e⟩
    rw [ecf] at hAs
    refine key (t / 4 + 1) (ln + 1) _ _ _ _ _ _ _ _ _ _ _ _ _ _ _ _ _ _ _ _ _ _ _ _ _ _ _ _ _ _ _ _ hAs (by omega) ((so 26 (by omega) (by omega)).trans e26) ?_ ?_ ?_ p43'
    · exact rMem_f d0 (fun j a b => by rw [so j (by omega) (by omega), eo j (by omega) (by omega) (by omega) (by omega) (by omega)])
    · exact rMem_f d1 (fun j a b => by rw [so j (by omega) (by omega), eo j (by omega) (by omega) (by omega) (by omega) (by omega)])
    · exact rFr_f d2 (fun j a b => by rw [so j (by omega) (by omega), eo j (by omega) (by omega) (by omega) (by omega) (by omega)])
  · have q4 : ¬ t % 4 = 0 := fun z => y (by rw [z]; rfl)
    have ec : M_cod row = row := by unfold M_cod; rw [k25, if_neg q4]
    refine key cd ln _ _ _ _ _ _ _ _ _ _ _ _ _ _ _ _ _ _ _ _ _ _ _ _ _ _ _ _ _ _ _ _ ?_ (by omega) ?_ ?_ ?_ ?_ ?_
    · rw [ec]; exact h.aft
    · rw [ec]; exact h.t26
    · rw [ec]; exact h.c0
    · rw [ec]; exact h.c1
    · rw [ec]; exact h.fr (by omega)
    · rw [ec]; exact h.p43
