/-! pure part 52: run -/
def itr : Nat → (Nat → Int32) → (Nat → Int32)
  | 0, r => r
  | k + 1, r => M_slot (itr k r)
theorem btw_no {v : Int32} {a b : Nat} (h : ¬ ∃ n, v = nI n ∧ a ≤ n ∧ n ≤ b) (ha : a < 2 ^ 31 := by omega) (hb : b < 2 ^ 31 := by omega) : ¬ btw v (nI a) (nI b) := fun q => by
  obtain ⟨n, h1, h2, h3⟩ := btw_n q ha hb
  exact h ⟨n, h3, h1, h2⟩
set_option maxHeartbeats 800000 in
set_option maxRecDepth 100000 in
theorem t11_run {v : Int32} {t cd nx ln hd bl hb : Nat} {nb rec dly : Nat → Int32} {pnum psent pover ppb : Nat → Int32} {wb : Nat → Nat → Int32} {wsz : Nat → Int32} {cb : Nat → Nat → Int32} {csz : Nat → Int32} {bnum : Nat → Int32} {bcb : Nat → Nat → Int32} {bcsz : Nat → Int32} {A0 B0 A1 B1 split told quants backs scales bits : Nat → Int32} {tw me sz : Int32} {bytes : Nat → Int32} {eA0 eB0 eA1 eB1 e0 e1 recs : Nat → Int32} {row : Nat → Int32} {po at_ ptw pme ppo l0 s0 l1 s1 : Int32} {samples r0 n0 r1 n1 needs psc pne pbi pqu pba prj er0 en0 ef0 m0 er1 en1 ef1 m1 bsent bover bpb : Nat → Int32} {bwb : Nat → Nat → Int32} {bwsz bcat : Nat → Int32} {post : Int32 → (Nat → Int32) → (Nat → Int32) → Int32 → Int32 → Int32 → (Nat → Int32) → (Nat → Int32) → (Nat → Int32) → (Nat → Int32) → (Nat → Int32) → (Nat → Int32) → (Nat → Int32) → (Nat → Int32) → (Nat → Int32) → (Nat → Int32) → (Nat → Int32) → (Nat → Int32) → (Nat → Int32) → (Nat → Int32) → (Nat → Int32) → Int32 → Int32 → (Nat → Int32) → Int32 → (Nat → Int32) → (Nat → Int32) → Int32 → Int32 → Int32 → Int32 → (Nat → Int32) → (Nat → Int32) → (Nat → Int32) → (Nat → Int32) → (Nat → Int32) → (Nat → Int32) → Int32 → Int32 → (Nat → Int32) → (Nat → Int32) → (Nat → Int32) → (Nat → Int32) → (Nat → Int32) → (Nat → Int32) → (Nat → Int32) → Int32 → Int32 → (Nat → Int32) → (Nat → Int32) → (Nat → Int32) → (Nat → Int32) → (Nat → Int32) → (Nat → Int32) → (Nat → Int32) → (Nat → Int32) → (Nat → Int32) → (Nat → Int32) → (Nat → Int32) → (Nat → Int32) → (Nat → Nat → Int32) → (Nat → Int32) → (Nat → Nat → Int32) → (Nat → Int32) → (Nat → Int32) → (Nat → Int32) → (Nat → Int32) → (Nat → Int32) → (Nat → Nat → Int32) → (Nat → Int32) → (Nat → Nat → Int32) → (Nat → Int32) → (Nat → Int32) → Prop} (h : RW t cd nx ln hd bl hb nb rec dly pnum psent pover ppb wb wsz cb csz bnum bcb bcsz A0 B0 A1 B1 split told quants backs scales bits tw me sz bytes eA0 eB0 eA1 eB1 e0 e1 recs row)
    (hN : (¬ ∃ n, v = nI n ∧ 1 ≤ n ∧ n ≤ 400 ∧ t + n ≤ 10000) → post (-1) nb samples tw me po r0 A0 B0 n0 split r1 A1 B1 n1 told scales needs bits quants backs sz at_ bytes (nI hd) rec dly (nI hb) ptw pme ppo psc pne pbi pqu pba prj l0 s0 er0 eB0 eA0 en0 ef0 e0 m0 l1 s1 er1 eB1 eA1 en1 ef1 e1 m1 recs pnum psent pover ppb wb wsz cb csz bnum bsent bover bpb bwb bwsz bcb bcsz bcat)
    (hY : ∀ n, v = nI n → 1 ≤ n → n ≤ 400 → t + n ≤ 10000 → ∀ (cd nx' ln hd bl hb : Nat) (nb rec dly : Nat → Int32) (pnum psent pover ppb : Nat → Int32) (wb : Nat → Nat → Int32) (wsz : Nat → Int32) (cb : Nat → Nat → Int32) (csz : Nat → Int32) (bnum : Nat → Int32) (bcb : Nat → Nat → Int32) (bcsz : Nat → Int32) (A0 B0 A1 B1 split told quants backs scales bits : Nat → Int32) (tw me sz : Int32) (bytes : Nat → Int32) (eA0 eB0 eA1 eB1 e0 e1 recs : Nat → Int32) (po at_ ptw pme ppo l0 s0 l1 s1 : Int32) (samples r0 n0 r1 n1 needs psc pne pbi pqu pba prj er0 en0 ef0 m0 er1 en1 ef1 m1 bsent bover bpb : Nat → Int32) (bwb : Nat → Nat → Int32) (bwsz bcat : Nat → Int32), RW (t + n) cd nx' ln hd bl hb nb rec dly pnum psent pover ppb wb wsz cb csz bnum bcb bcsz A0 B0 A1 B1 split told quants backs scales bits tw me sz bytes eA0 eB0 eA1 eB1 e0 e1 recs (itr n row) → (∀ j, j < n → okS (t + j) (itr j row)) → post (nI nx' - nI nx) nb samples tw me po r0 A0 B0 n0 split r1 A1 B1 n1 told scales needs bits quants backs sz at_ bytes (nI hd) rec dly (nI hb) ptw pme ppo psc pne pbi pqu pba prj l0 s0 er0 eB0 eA0 en0 ef0 e0 m0 l1 s1 er1 eB1 eA1 en1 ef1 e1 m1 recs pnum psent pover ppb wb wsz cb csz bnum bsent bover bpb bwb bwsz bcb bcsz bcat) :
    wp_X11_run v nb samples tw me po r0 A0 B0 n0 split r1 A1 B1 n1 told scales needs bits quants backs sz at_ bytes (nI 5) (nI hd) rec dly (nI 6) (nI hb) ptw pme ppo psc pne pbi pqu pba prj l0 s0 er0 eB0 eA0 en0 ef0 e0 m0 l1 s1 er1 eB1 eA1 en1 ef1 e1 m1 recs pnum psent pover ppb wb wsz cb csz bnum bsent bover bpb bwb bwsz bcb bcsz bcat post := by
  have n0t : nb 0 = nI t := (h.aft.1 0 (by omega) (by omega) (by omega) (by omega)).trans h.t25
  have n7 : nb 7 = nI nx := (h.aft.1 7 (by omega) (by omega) (by omega) (by omega)).trans h.aft.2.2.2.2.2.2.2.2
  have ht := h.ht
  unfold wp_X11_run
  refine t_within (fun q => ⟨fun z => absurd z (by decide), fun _ => ?_⟩) (fun q => ⟨fun _ => hN (fun ⟨n, e, h1, h2, _⟩ => q ?_), fun z => absurd rfl z⟩)
  · obtain ⟨n, h1, h2, rfl⟩ := btw_n (a := 1) (b := 400) q
    rw [n0t, nI_add, n7]
    refine ⟨fun z => ?_, fun z => hN (fun ⟨m, e, _, _, h5⟩ => z ?_)⟩
    · have hz : t + n ≤ 10000 := (nI_leI (b := 10000) (by omega) (by omega)).mp z
      rintro _ rfl _ rfl
      refine Lz73_by (fun x10 nb samples tw me po r0 A0 B0 n0 split r1 A1 B1 n1 told scales needs bits quants backs sz at_ bytes x34 rec dly x37 ptw pme ppo psc pne pbi pqu pba prj l0 s0 er0 eB0 eA0 en0 ef0 e0 m0 l1 s1 er1 eB1 eA1 en1 ef1 e1 m1 recs pnum psent pover ppb wb wsz cb csz bnum bsent bover bpb bwb bwsz bcb bcsz bcat => ∃ k cd nx ln hd bl hb, x10 = nI k ∧ k ≤ n ∧ x34 = nI hd ∧ x37 = nI hb ∧ RW (t + k) cd nx ln hd bl hb nb rec dly pnum psent pover ppb wb wsz cb csz bnum bcb bcsz A0 B0 A1 B1 split told quants backs scales bits tw me sz bytes eA0 eB0 eA1 eB1 e0 e1 recs (itr k row) ∧ (∀ j, j < k → okS (t + j) (itr j row))) (fun x10 _ _ _ _ _ _ _ _ _ _ _ _ _ _ _ _ _ _ _ _ _ _ _ _ _ _ _ _ _ _ _ _ _ _ _ _ _ _ _ _ _ _ _ _ _ _ _ _ _ _ _ _ _ _ _ _ _ _ _ _ _ _ _ _ _ _ _ _ _ _ _ _ => n - x10.toNatClampNeg) _ _ _ _ _ _ _ _ _ _ _ _ _ _ _ _ _ _ _ _ _ _ _ _ _ _ _ _ _ _ _ _ _ _ _ _ _ _ _ _ _ _ _ _ _ _ _ _ _ _ _ _ _ _ _ _ _ _ _ _ _ _ _ _ _ _ _ _ _ _ _ _ _ ⟨0, cd, nx, ln, hd, bl, hb, rfl, by omega, rfl, rfl, h, fun j hj => absurd hj (Nat.not_lt_zero _)⟩ ?_
      rintro x10 nb samples tw me po r0 A0 B0 n0 split r1 A1 B1 n1 told scales needs bits quants backs sz at_ bytes x34 rec dly x37 ptw pme ppo psc pne pbi pqu pba prj l0 s0 er0 eB0 eA0 en0 ef0 e0 m0 l1 s1 er1 eB1 eA1 en1 ef1 e1 m1 recs pnum psent pover ppb wb wsz cb csz bnum bsent bover bpb bwb bwsz bcb bcsz bcat ⟨k, cd, nx', ln, hd, bl, hb, rfl, hk, rfl, rfl, g, hj⟩ again hag
      refine ⟨fun y => ?_, fun y => ?_⟩
      · have hkn : k = n := by have := (nI_leI (by omega) (by omega)).mp y; omega
        subst hkn
        have e7 : nb 7 = nI nx' := (g.aft.1 7 (by omega) (by omega) (by omega) (by omega)).trans g.aft.2.2.2.2.2.2.2.2
        rw [e7]
        exact hY k rfl h1 h2 hz _ _ _ _ _ _ _ _ _ _ _ _ _ _ _ _ _ _ _ _ _ _ _ _ _ _ _ _ _ _ _ _ _ _ _ _ _ _ _ _ _ _ _ _ _ _ _ _ _ _ _ _ _ _ _ _ _ _ _ _ _ _ _ _ _ _ _ _ _ _ _ _ _ _ _ _ g hj
      · have hkn : k < n := by
          rcases Nat.lt_or_ge k n with w | w
          · exact w
          · exact absurd ((nI_leI (by omega) (by omega)).mpr w) y
        refine t10_passSlot g (by omega) (fun cd nx ln hd bl hb nb rec dly pnum psent pover ppb wb wsz cb csz bnum bcb bcsz A0 B0 A1 B1 split told quants backs scales bits tw me sz bytes eA0 eB0 eA1 eB1 e0 e1 recs po at_ ptw pme ppo l0 s0 l1 s1 samples r0 n0 r1 n1 needs psc pne pbi pqu pba prj er0 en0 ef0 m0 er1 en1 ef1 m1 bsent bover bpb bwb bwsz bcat g2 ok2 => ?_)
        rw [rA]
        refine hag _ _ _ _ _ _ _ _ _ _ _ _ _ _ _ _ _ _ _ _ _ _ _ _ _ _ _ _ _ _ _ _ _ _ _ _ _ _ _ _ _ _ _ _ _ _ _ _ _ _ _ _ _ _ _ _ _ _ _ _ _ _ _ _ _ _ _ _ _ _ _ _ _ ⟨k + 1, cd, nx, ln, hd, bl, hb, rfl, by omega, rfl, rfl, g2, fun j hj2 => ?_⟩ ?_
        · by_cases e : j = k
          · rw [e]; exact ok2
          · exact hj j (by omega)
        · show n - (nI (k + 1)).toNatClampNeg < n - (nI k).toNatClampNeg
          rw [nI_clamp (by omega), nI_clamp (by omega)]; omega
    · have e2 : n = m := (nI_eq (by omega) (by omega)).mp e
      exact (nI_leI (b := 10000) (by omega) (by omega)).mpr (by omega)
  · rw [e]; exact (btw_i (a := 1) (b := 400)).mpr ⟨h1, h2⟩
set_option maxHeartbeats 800000 in
set_option maxRecDepth 100000 in
theorem t12_run {v th : Int32} {t : Nat} {nS nD pE pO bit lag lagS : Int32} {eight rows by_ msc dealt hr made mbk comes : Nat → Int32} {row : Nat → Int32} {post : Int32 → Int32 → Int32 → Int32 → Int32 → Int32 → Int32 → Int32 → Int32 → (Nat → Int32) → (Nat → Int32) → (Nat → Int32) → (Nat → Int32) → (Nat → Int32) → (Nat → Int32) → (Nat → Int32) → (Nat → Int32) → (Nat → Int32) → (Nat → Int32) → Prop} (e25 : row 25 = nI t) (ht : t ≤ 10000)
    (hN : (¬ ∃ n, v = nI n ∧ 1 ≤ n ∧ n ≤ 400 ∧ t + n ≤ 10000) → post (-1) 0 nS nD pE pO bit lag lagS row eight rows by_ msc dealt hr made mbk comes)
    (hY : ∀ n, v = nI n → 1 ≤ n → n ≤ 400 → t + n ≤ 10000 → (∀ j, j < n → okS (t + j) (itr j row)) ∧ ∀ (nS nD pE pO bit lag lagS : Int32) (eight rows by_ msc dealt hr made mbk comes : Nat → Int32), post (((itr n row) 36 + (itr n row) 37) - (row 36 + row 37)) 0 nS nD pE pO bit lag lagS (itr n row) eight rows by_ msc dealt hr made mbk comes) :
    wp_X12_run v th nS nD pE pO bit lag lagS row eight rows by_ msc dealt hr made mbk comes post := by
  unfold wp_X12_run
  refine t_inI 1 400 (fun q => ⟨fun z => absurd z (by decide), fun _ => ?_⟩) (fun q => ⟨fun _ => hN (fun ⟨n, e, h1, h2, _⟩ => q ?_), fun z => absurd rfl z⟩)
  · obtain ⟨n, h1, h2, rfl⟩ := btw_n (a := 1) (b := 400) q
    rw [e25, nI_add]
    refine ⟨fun z => ?_, fun z => hN (fun ⟨m, e, _, _, h5⟩ => z ?_)⟩
    · have hz : t + n ≤ 10000 := (nI_leI (b := 10000) (by omega) (by omega)).mp z
      obtain ⟨ok, hp⟩ := hY n rfl h1 h2 hz
      unfold wp_X12_played
      rintro _ rfl
      refine Lz18_by (fun x9 _ _ _ _ _ _ _ f17 _ _ _ _ _ _ _ _ _ => ∃ k, x9 = nI k ∧ k ≤ n ∧ f17 = itr k row) (fun x9 _ _ _ _ _ _ _ _ _ _ _ _ _ _ _ _ _ => n - x9.toNatClampNeg) _ _ _ _ _ _ _ _ _ _ _ _ _ _ _ _ _ _ ⟨0, rfl, by omega, rfl⟩ ?_
      rintro x9 x10 x11 x12 x13 x14 x15 x16 f17 f18 f19 f20 f21 f22 f23 f24 f25 f26 ⟨k, rfl, hk, rfl⟩ again hag
      refine ⟨fun y => ?_, fun y => ?_⟩
      · have hkn : k = n := by have := (nI_leI (by omega) (by omega)).mp y; omega
        subst hkn
        exact hp _ _ _ _ _ _ _ _ _ _ _ _ _ _ _ _
      · have hkn : k < n := by
          rcases Nat.lt_or_ge k n with w | w
          · exact w
          · exact absurd ((nI_leI (by omega) (by omega)).mpr w) y
        refine t12_slot (ok k hkn) (fun x1 x2 x3 x4 x5 x6 x7 a1 a2 a3 a4 a5 a6 a7 a8 a9 => ?_)
        rw [rA]
        refine hag _ _ _ _ _ _ _ _ _ _ _ _ _ _ _ _ _ _ ⟨k + 1, rfl, by omega, rfl⟩ ?_
        show n - (nI (k + 1)).toNatClampNeg < n - (nI k).toNatClampNeg
        rw [nI_clamp (by omega), nI_clamp (by omega)]; omega
    · have e2 : n = m := (nI_eq (by omega) (by omega)).mp e
      exact (nI_leI (b := 10000) (by omega) (by omega)).mpr (by omega)
  · rw [e]; exact (btw_i (a := 1) (b := 400)).mpr ⟨h1, h2⟩
