/-! pure part 70: rows alike; run, restart, keep, again, would -/
set_option maxHeartbeats 800000 in
set_option maxRecDepth 100000 in
theorem RW_row {t cd nx ln hd bl hb : Nat} {nb rec dly : Nat → Int32} {pnum psent pover ppb : Nat → Int32} {wb : Nat → Nat → Int32} {wsz : Nat → Int32} {cb : Nat → Nat → Int32} {csz : Nat → Int32} {bnum : Nat → Int32} {bcb : Nat → Nat → Int32} {bcsz : Nat → Int32} {A0 B0 A1 B1 split told quants backs scales bits : Nat → Int32} {tw me sz : Int32} {bytes : Nat → Int32} {eA0 eB0 eA1 eB1 e0 e1 recs : Nat → Int32} {row row' : Nat → Int32} (h : RW t cd nx ln hd bl hb nb rec dly pnum psent pover ppb wb wsz cb csz bnum bcb bcsz A0 B0 A1 B1 split told quants backs scales bits tw me sz bytes eA0 eB0 eA1 eB1 e0 e1 recs row) (e : ∀ j, j < 13385 → row' j = row j) : RW t cd nx ln hd bl hb nb rec dly pnum psent pover ppb wb wsz cb csz bnum bcb bcsz A0 B0 A1 B1 split told quants backs scales bits tw me sz bytes eA0 eB0 eA1 eB1 e0 e1 recs row' := by
  obtain ⟨⟨a1, ⟨ms, b1, b2, b3⟩, a3, ⟨a4, a5⟩, a6, a7, a8, a9, a10⟩, pl, r3, r4, r5, r6, r7, r8, r9, r10, r11, r12, r13, r14, r15, r16⟩ := h
  have hl5 := a4.2.1
  have hcd := a4.2.2.2.1
  refine ⟨⟨fun j hj x y z => by rw [e _ (Nat.lt_of_lt_of_le (hm_lt j hj x y z) (by omega))]; exact a1 j hj x y z, ⟨ms, b1, by rw [e _ (by omega)]; exact b2, b3⟩, rBook_f a3 (fun j x y => e j (by omega)), ⟨lnN_f a4 (e _ (by omega)) (fun i hi => e _ (by omega)), a5⟩, fun i x y => rLn_f (a6 i x y) (fun z hz => e _ (by omega)) (e _ (by omega)), fun n hn => by rw [e _ (by omega)]; exact a7 n hn, rBuf_f a8 (fun j x y => e j (by omega)) (e _ (by omega)) (Nat.le_refl _), a9, by rw [e _ (by omega)]; exact a10⟩, rPl_f pl (fun j hj => e j (by omega)), okSet_f r3 (fun j hj => e j (by omega)), by rw [e _ (by omega)]; exact r4, by rw [e _ (by omega)]; exact r5, r6, r7, r8, rMem_f r9 (fun j x y => e j (by omega)), rMem_f r10 (fun j x y => e j (by omega)), fun y => rFr_f (r11 y) (fun j x y => e j (by omega)), ?_, ?_, ?_, ?_, ?_⟩
  · rw [e _ (by omega)]; exact r12
  · rw [e _ (by omega)]; exact r13
  · obtain ⟨x, hx, ex⟩ := r14
    exact ⟨x, hx, by rw [e _ (by omega)]; exact ex⟩
  · rw [e _ (by omega)]; exact r15
  · rw [e _ (by omega)]; exact r16
theorem BND_row {cd : Nat} {row row' : Nat → Int32} (h : BND cd row) (e : ∀ j, j < 13385 → row' j = row j) : BND cd row' := BND_f h (fun j hj => e j (by omega))
set_option maxHeartbeats 800000 in
set_option maxRecDepth 100000 in
theorem s_run {v th : Int32} {t cd nx ln hd bl hb : Nat} {nb rec dly : Nat → Int32} {pnum psent pover ppb : Nat → Int32} {wb : Nat → Nat → Int32} {wsz : Nat → Int32} {cb : Nat → Nat → Int32} {csz : Nat → Int32} {bnum : Nat → Int32} {bcb : Nat → Nat → Int32} {bcsz : Nat → Int32} {A0 B0 A1 B1 split told quants backs scales bits : Nat → Int32} {tw me sz : Int32} {bytes : Nat → Int32} {eA0 eB0 eA1 eB1 e0 e1 recs : Nat → Int32} {row : Nat → Int32} {po at_ ptw pme ppo l0 s0 l1 s1 : Int32} {samples r0 n0 r1 n1 needs psc pne pbi pqu pba prj er0 en0 ef0 m0 er1 en1 ef1 m1 bsent bover bpb : Nat → Int32} {bwb : Nat → Nat → Int32} {bwsz bcat : Nat → Int32} {nS nD pE pO bit lag lagS : Int32} {eight rows by_ msc dealt hr made mbk comes : Nat → Int32} {P : Int32 → (Nat → Int32) → (Nat → Int32) → Int32 → Int32 → Int32 → (Nat → Int32) → (Nat → Int32) → (Nat → Int32) → (Nat → Int32) → (Nat → Int32) → (Nat → Int32) → (Nat → Int32) → (Nat → Int32) → (Nat → Int32) → (Nat → Int32) → (Nat → Int32) → (Nat → Int32) → (Nat → Int32) → (Nat → Int32) → (Nat → Int32) → Int32 → Int32 → (Nat → Int32) → Int32 → (Nat → Int32) → (Nat → Int32) → Int32 → Int32 → Int32 → Int32 → (Nat → Int32) → (Nat → Int32) → (Nat → Int32) → (Nat → Int32) → (Nat → Int32) → (Nat → Int32) → Int32 → Int32 → (Nat → Int32) → (Nat → Int32) → (Nat → Int32) → (Nat → Int32) → (Nat → Int32) → (Nat → Int32) → (Nat → Int32) → Int32 → Int32 → (Nat → Int32) → (Nat → Int32) → (Nat → Int32) → (Nat → Int32) → (Nat → Int32) → (Nat → Int32) → (Nat → Int32) → (Nat → Int32) → (Nat → Int32) → (Nat → Int32) → (Nat → Int32) → (Nat → Int32) → (Nat → Nat → Int32) → (Nat → Int32) → (Nat → Nat → Int32) → (Nat → Int32) → (Nat → Int32) → (Nat → Int32) → (Nat → Int32) → (Nat → Int32) → (Nat → Nat → Int32) → (Nat → Int32) → (Nat → Nat → Int32) → (Nat → Int32) → (Nat → Int32) → Prop} (h : RW t cd nx ln hd bl hb nb rec dly pnum psent pover ppb wb wsz cb csz bnum bcb bcsz A0 B0 A1 B1 split told quants backs scales bits tw me sz bytes eA0 eB0 eA1 eB1 e0 e1 recs row) (hbd : BND cd row)
    (hP : ∀ (r : Int32) (t cd nx ln hd bl hb : Nat) (nb rec dly : Nat → Int32) (pnum psent pover ppb : Nat → Int32) (wb : Nat → Nat → Int32) (wsz : Nat → Int32) (cb : Nat → Nat → Int32) (csz : Nat → Int32) (bnum : Nat → Int32) (bcb : Nat → Nat → Int32) (bcsz : Nat → Int32) (A0 B0 A1 B1 split told quants backs scales bits : Nat → Int32) (tw me sz : Int32) (bytes : Nat → Int32) (eA0 eB0 eA1 eB1 e0 e1 recs : Nat → Int32) (po at_ ptw pme ppo l0 s0 l1 s1 : Int32) (samples r0 n0 r1 n1 needs psc pne pbi pqu pba prj er0 en0 ef0 m0 er1 en1 ef1 m1 bsent bover bpb : Nat → Int32) (bwb : Nat → Nat → Int32) (bwsz bcat : Nat → Int32) (row' : Nat → Int32), RW t cd nx ln hd bl hb nb rec dly pnum psent pover ppb wb wsz cb csz bnum bcb bcsz A0 B0 A1 B1 split told quants backs scales bits tw me sz bytes eA0 eB0 eA1 eB1 e0 e1 recs row' → BND cd row' → wp_X12_run v th nS nD pE pO bit lag lagS row eight rows by_ msc dealt hr made mbk comes (fun r' th' _ _ _ _ _ _ _ row2 _ _ _ _ _ _ _ _ _ => r' = r ∧ th' = 0 ∧ row2 = row') → P r nb samples tw me po r0 A0 B0 n0 split r1 A1 B1 n1 told scales needs bits quants backs sz at_ bytes (nI hd) rec dly (nI hb) ptw pme ppo psc pne pbi pqu pba prj l0 s0 er0 eB0 eA0 en0 ef0 e0 m0 l1 s1 er1 eB1 eA1 en1 ef1 e1 m1 recs pnum psent pover ppb wb wsz cb csz bnum bsent bover bpb bwb bwsz bcb bcsz bcat) :
    wp_X11_run v nb samples tw me po r0 A0 B0 n0 split r1 A1 B1 n1 told scales needs bits quants backs sz at_ bytes (nI 5) (nI hd) rec dly (nI 6) (nI hb) ptw pme ppo psc pne pbi pqu pba prj l0 s0 er0 eB0 eA0 en0 ef0 e0 m0 l1 s1 er1 eB1 eA1 en1 ef1 e1 m1 recs pnum psent pover ppb wb wsz cb csz bnum bsent bover bpb bwb bwsz bcb bcsz bcat P := by
  have hcd := h.hcd
  refine t11_run h (fun hN => ?_) (fun n e h1 h2 h3 cd' nx' ln' hd' bl' hb' nb rec dly pnum psent pover ppb wb wsz cb csz bnum bcb bcsz A0 B0 A1 B1 split told quants backs scales bits tw me sz bytes eA0 eB0 eA1 eB1 e0 e1 recs po at_ ptw pme ppo l0 s0 l1 s1 samples r0 n0 r1 n1 needs psc pne pbi pqu pba prj er0 en0 ef0 m0 er1 en1 ef1 m1 bsent bover bpb bwb bwsz bcat g hok => ?_)
  · exact hP (-1) t cd nx ln hd bl hb _ _ _ _ _ _ _ _ _ _ _ _ _ _ _ _ _ _ _ _ _ _ _ _ _ _ _ _ _ _ _ _ _ _ _ _ _ _ _ _ _ _ _ _ _ _ _ _ _ _ _ _ _ _ _ _ _ _ _ _ _ _ _ _ _ _ _ _ _ _ row h hbd (t12_run h.t25 h.ht (fun _ => ⟨rfl, rfl, rfl⟩) (fun n e h1 h2 h3 => absurd ⟨n, e, h1, h2, h3⟩ hN))
  · have hc' := g.hcd
    have bd' : BND cd' (itr n row) := by
      have := BND_itr (t := t) (by rw [← hcd]; exact hbd) n hok
      rw [hc']; exact this
    refine hP _ (t + n) cd' nx' ln' hd' bl' hb' _ _ _ _ _ _ _ _ _ _ _ _ _ _ _ _ _ _ _ _ _ _ _ _ _ _ _ _ _ _ _ _ _ _ _ _ _ _ _ _ _ _ _ _ _ _ _ _ _ _ _ _ _ _ _ _ _ _ _ _ _ _ _ _ _ _ _ _ _ _ _ g bd' (t12_run h.t25 h.ht (fun y => absurd ⟨n, e, h1, h2, h3⟩ y) (fun n2 e2 _ _ _ => ?_))
    have : n2 = n := (nI_eq (by omega) (by omega)).mp (e2.symm.trans e)
    subst this
    refine ⟨hok, fun _ _ _ _ _ _ _ _ _ _ _ _ _ _ _ _ => ⟨?_, rfl, rfl⟩⟩
    rw [g.pl.sum, h.pl.sum]
set_option maxHeartbeats 800000 in
set_option maxRecDepth 100000 in
theorem s_restart {th : Int32} {t cd nx ln hd bl hb : Nat} {nb rec dly : Nat → Int32} {pnum psent pover ppb : Nat → Int32} {wb : Nat → Nat → Int32} {wsz : Nat → Int32} {cb : Nat → Nat → Int32} {csz : Nat → Int32} {bnum : Nat → Int32} {bcb : Nat → Nat → Int32} {bcsz : Nat → Int32} {A0 B0 A1 B1 split told quants backs scales bits : Nat → Int32} {tw me sz : Int32} {bytes : Nat → Int32} {eA0 eB0 eA1 eB1 e0 e1 recs : Nat → Int32} {row : Nat → Int32} {P : Int32 → (Nat → Int32) → (Nat → Int32) → (Nat → Int32) → (Nat → Int32) → (Nat → Int32) → (Nat → Int32) → (Nat → Int32) → (Nat → Int32) → (Nat → Int32) → (Nat → Int32) → (Nat → Int32) → (Nat → Int32) → (Nat → Int32) → Prop} (h : RW t cd nx ln hd bl hb nb rec dly pnum psent pover ppb wb wsz cb csz bnum bcb bcsz A0 B0 A1 B1 split told quants backs scales bits tw me sz bytes eA0 eB0 eA1 eB1 e0 e1 recs row)
    (hp : ∀ nb' rec' dly' A0' B0' A1' B1' eA0' eB0' e0' eA1' eB1' e1' : Nat → Int32, RW 0 0 0 0 hd 0 hb nb' rec' dly' pnum psent pover ppb wb wsz cb csz bnum bcb bcsz A0' B0' A1' B1' split told quants backs scales bits tw me sz bytes eA0' eB0' eA1' eB1' e0' e1' recs (M_begin row) → BND 0 (M_begin row) → wp_X12_restart th row (fun r' th' row' => r' = row 25 ∧ th' = 0 ∧ row' = M_begin row) → P (row 25) nb' rec' dly' A0' B0' A1' B1' eA0' eB0' e0' eA1' eB1' e1') :
    wp_X11_restart nb rec dly A0 B0 A1 B1 eA0 eB0 e0 eA1 eB1 e1 P :=
  t11_restart h (fun nb' rec' dly' A0' B0' A1' B1' eA0' eB0' e0' eA1' eB1' e1' g => hp _ _ _ _ _ _ _ _ _ _ _ _ _ g (BND_0 (fun j a b => begin_0 (by omega) (by omega) (by omega) (by omega))) (t12_restart ⟨rfl, rfl, rfl⟩))
theorem t12_keepNo {v th : Int32} {row kp ik : Nat → Int32} {post : Int32 → Int32 → (Nat → Int32) → (Nat → Int32) → Prop} (hv : ¬ btw v 0 1) (h : post 0 0 kp ik) : wp_X12_keep v th row kp ik post := by
  unfold wp_X12_keep
  exact t_inI 0 1 (fun y => absurd y hv) (fun _ => ⟨fun _ => h, fun z => absurd rfl z⟩)
theorem t12_keepK {k : Nat} {th : Int32} {row kp ik : Nat → Int32} {post : Int32 → Int32 → (Nat → Int32) → (Nat → Int32) → Prop} (hk : k < 2) (h : post 1 0 (va_cpy row kp 0 (13385 * k) 13385) (upd ik k 1)) : wp_X12_keep (nI k) th row kp ik post := by
  unfold wp_X12_keep
  refine t_inI 0 1 (fun _ => ⟨fun z => absurd z (by decide), fun _ => ?_⟩) (fun y => absurd ((btw_i (a := 0) (b := 1)).mpr ⟨by omega, by omega⟩) y)
  rw [lM]
  refine t_copy 0 (13385 * k) ⟨vp_in_nI (by omega) (by omega), ?_⟩
  rintro _ rfl
  rw [nI_clamp (by omega), show vp_nar .boolean (1 : Int32) = 1 by decide]
  exact h
theorem t12_againNo {v th : Int32} {row kp ik : Nat → Int32} {post : Int32 → Int32 → (Nat → Int32) → Prop} (hv : ¬ btw v 0 1) (h : post 0 0 row) : wp_X12_again v th ik kp row post := by
  unfold wp_X12_again
  exact t_inI 0 1 (fun y => absurd y hv) (fun _ => ⟨fun _ => h, fun z => absurd rfl z⟩)
theorem t12_againK {k : Nat} {th : Int32} {row kp ik : Nat → Int32} {post : Int32 → Int32 → (Nat → Int32) → Prop} (hk : k < 2) (h0 : ik k = 0 → post 0 0 row) (h1 : ¬ ik k = 0 → post 1 0 (va_cpy kp row (13385 * k) 0 13385)) : wp_X12_again (nI k) th ik kp row post := by
  unfold wp_X12_again
  refine t_inI 0 1 (fun _ => ⟨fun z => absurd z (by decide), fun _ => ⟨vp_in_nI (by omega) (by omega), ?_, ?_⟩⟩) (fun y => absurd ((btw_i (a := 0) (b := 1)).mpr ⟨by omega, by omega⟩) y)
  · rw [nI_clamp (by omega)]; exact h0
  · rw [nI_clamp (by omega), lM]
    intro z
    exact t_copy (13385 * k) 0 (h1 z)
/-- would: when the class answers -/
def wdOk (t : Nat) (v1 : Int32) (n : Nat) : Prop := v1 = nI n ∧ 1 ≤ n ∧ n ≤ 100 ∧ t + n ≤ 10000
set_option maxHeartbeats 800000 in
set_option maxRecDepth 100000 in
theorem t12_would {v1 v2 th : Int32} {t : Nat} {nS nD pE pO bit lag lagS : Int32} {eight rows by_ msc dealt hr made mbk comes : Nat → Int32} {row asd : Nat → Int32} {post : Int32 → Int32 → Int32 → Int32 → Int32 → Int32 → Int32 → Int32 → Int32 → (Nat → Int32) → (Nat → Int32) → (Nat → Int32) → (Nat → Int32) → (Nat → Int32) → (Nat → Int32) → (Nat → Int32) → (Nat → Int32) → (Nat → Int32) → (Nat → Int32) → (Nat → Int32) → Prop} (e25 : row 25 = nI t) (ht : t ≤ 10000)
    (hN : (¬ ∃ n, wdOk t v1 n) → post (-2147483648) 0 nS nD pE pO bit lag lagS row asd eight rows by_ msc dealt hr made mbk comes)
    (hY : ∀ n, wdOk t v1 n → (∀ j, j < n → okS (t + j) (itr j row)) ∧ ∀ (nS nD pE pO bit lag lagS : Int32) (eight rows by_ msc dealt hr made mbk comes : Nat → Int32) (x : Int32) (row' asd' : Nat → Int32), (∀ w, (w ≤ 36 ∨ (40 ≤ w ∧ w ≤ 47)) → v2 = nI w → x = tlV (itr n row) w) → (¬ btw v2 0 36 → ¬ btw v2 40 47 → x = -2147483648) → (∀ j, j < 13385 → row' j = row j) → post x 0 nS nD pE pO bit lag lagS row' asd' eight rows by_ msc dealt hr made mbk comes) :
    wp_X12_would v1 v2 th nS nD pE pO bit lag lagS row asd eight rows by_ msc dealt hr made mbk comes post := by
  unfold wp_X12_would
  refine t_inI 1 100 (fun q => ⟨fun z => absurd z (by decide), fun _ => ?_⟩) (fun q => ⟨fun _ => hN (fun ⟨n, e, h1, h2, _⟩ => q ?_), fun z => absurd rfl z⟩)
  · obtain ⟨n, h1, h2, rfl⟩ := btw_n (a := 1) (b := 100) q
    rw [e25, nI_add]
    refine ⟨fun z => ?_, fun z => hN (fun ⟨m, e, _, _, h5⟩ => z ?_)⟩
    · have hz : t + n ≤ 10000 := (nI_leI (b := 10000) (by omega) (by omega)).mp z
      obtain ⟨ok, hp⟩ := hY n ⟨rfl, h1, h2, hz⟩
      refine t_copy 0 0 ?_
      generalize eF : va_cpy row asd 0 0 13385 = F
      have hF : ∀ j, j < 13385 → F j = row j := fun j hj => by rw [← eF, cpy0 hj]
      rintro _ rfl
      refine Lz18_by (fun x9 _ _ _ _ _ _ _ f17 _ _ _ _ _ _ _ _ _ => ∃ k, x9 = nI k ∧ k ≤ n ∧ f17 = itr k row) (fun x9 _ _ _ _ _ _ _ _ _ _ _ _ _ _ _ _ _ => n - x9.toNatClampNeg) _ _ _ _ _ _ _ _ _ _ _ _ _ _ _ _ _ _ ⟨0, rfl, by omega, rfl⟩ ?_
      rintro x9 x10 x11 x12 x13 x14 x15 x16 f17 f18 f19 f20 f21 f22 f23 f24 f25 f26 ⟨k, rfl, hk, rfl⟩ again hag
      refine ⟨fun y => ?_, fun y => ?_⟩
      · have hkn : k = n := by have := (nI_leI (by omega) (by omega)).mp y; omega
        subst hkn
        have fin : ∀ x : Int32, (∀ w, (w ≤ 36 ∨ (40 ≤ w ∧ w ≤ 47)) → v2 = nI w → x = tlV (itr k row) w) → (¬ btw v2 0 36 → ¬ btw v2 40 47 → x = -2147483648) → wp_X12_copy 13385 13385 0 0 F (itr k row) (fun f29 => post x 0 x10 x11 x12 x13 x14 x15 x16 f29 F f18 f19 f20 f21 f22 f23 f24 f25 f26) := fun x hx1 hx2 => t_copy 0 0 (hp _ _ _ _ _ _ _ _ _ _ _ _ _ _ _ _ x _ _ hx1 hx2 (fun j hj => by rw [cpy0 hj, hF j hj]))
        refine t_tells (fun w hw e => fin _ (fun w' hw' e' => ?_) (fun y1 y2 => ?_)) (fun y1 y2 => fin _ (fun w' hw' e' => ?_) (fun _ _ => rfl))
        · rw [(nI_eq (by omega) (by omega)).mp (e.symm.trans e')]
        · rcases hw with g | g
          · exact absurd (by rw [e]; exact (btw_i (a := 0) (b := 36)).mpr ⟨by omega, g⟩) y1
          · exact absurd (by rw [e]; exact (btw_i (a := 40) (b := 47)).mpr g) y2
        · rcases hw' with g | g
          · exact absurd (by rw [e']; exact (btw_i (a := 0) (b := 36)).mpr ⟨by omega, g⟩) y1
          · exact absurd (by rw [e']; exact (btw_i (a := 40) (b := 47)).mpr g) y2
      · have hkn : k < n := by
          rcases Nat.lt_or_ge k n with w | w
          · exact w
          · exact absurd ((nI_leI (by omega) (by omega)).mpr w) y
        refine t12_slot (ok k hkn) (fun x1 x2 x3 x4 x5 x6 x7 a1 a2 a3 a4 a5 a6 a7 a8 a9 => ?_)
        rw [rA]
        refine hag _ _ _ _ _ _ _ _ _ _ _ _ _ _ _ _ _ _ ⟨k + 1, rfl, by omega, rfl⟩ ?_
        show n - (nI (k + 1)).toNatClampNeg < n - (nI k).toNatClampNeg
        rw [nI_clamp (by omega), nI_clamp (by omega)]; omega
    · obtain e := e
      have e2 : n = m := (nI_eq (by omega) (by omega)).mp e
      exact (nI_leI (b := 10000) (by omega) (by omega)).mpr (by omega)
  · rw [e]; exact (btw_i (a := 1) (b := 100)).mpr ⟨h1, h2⟩
theorem RW_val {t cd nx ln hd bl hb w : Nat} {nb rec dly : Nat → Int32} {pnum psent pover ppb : Nat → Int32} {wb : Nat → Nat → Int32} {wsz : Nat → Int32} {cb : Nat → Nat → Int32} {csz : Nat → Int32} {bnum : Nat → Int32} {bcb : Nat → Nat → Int32} {bcsz : Nat → Int32} {A0 B0 A1 B1 split told quants backs scales bits : Nat → Int32} {tw me sz : Int32} {bytes : Nat → Int32} {eA0 eB0 eA1 eB1 e0 e1 recs : Nat → Int32} {row : Nat → Int32} (h : RW t cd nx ln hd bl hb nb rec dly pnum psent pover ppb wb wsz cb csz bnum bcb bcsz A0 B0 A1 B1 split told quants backs scales bits tw me sz bytes eA0 eB0 eA1 eB1 e0 e1 recs row) (hw : w ≤ 36 ∨ (40 ≤ w ∧ w ≤ 47)) : nb w = tlV row w := by
  unfold tlV
  by_cases q : w = 6
  · rw [if_pos q, q, h.aft.2.2.2.2.2.2.2.1, h.aft.2.2.2.2.2.2.1.2.2.1]
  · rw [if_neg q]; exact h.aft.1 w (by omega) q (by omega) (by omega)
