/-! pure part 44: plays, both sides -/
theorem cmA_r {row : Nat → Int32} {mn : Nat} (hh : ∀ c, c < 2 → inR (hR row c) 192) : inR (cmA row mn) 64 := fun n hn => by
  unfold cmA; exact mdF_r (hh _ (by omega)) (by omega) (by omega)
theorem cmH_r {row by_ : Nat → Int32} {z : Nat} : inR (cmH by_ z row) 64 := fun n hn => by
  unfold cmH hrF; exact near_r _
theorem cmB_r {row by_ : Nat → Int32} {z mn : Nat} (hh : ∀ c, c < 2 → inR (hR row c) 192) : inR (cmB by_ z row mn) 64 := fun n hn => by
  unfold cmB
  by_cases q : mn = 0
  · rw [if_pos q]; exact cmH_r n hn
  · rw [if_neg q]
    exact blF_r (cmA_r hh _ (by omega)) (cmH_r _ (by omega))
theorem play_u {row : Nat → Int32} (nx : Nat) {bl hb fr : Nat} {bnum : Nat → Int32} {bcb : Nat → Nat → Int32} {bcsz : Nat → Int32} (h : rBuf bl hb nx fr bnum bcb bcsz row) (hx : nx < 5000) (e30 : row 30 = nI nx) : ∀ s s', s < 14 → s' < 14 → row (2095 + 83 * s) = nI (nx + 1) → row (2095 + 83 * s') = nI (nx + 1) → s' = s := by
  obtain ⟨h1, h2, h3, h4, h5, _⟩ := h
  exact fun s s' hs hs' e1 e2 => h5 s s' hs hs' (by rw [e1, e30, nI_leI (by omega) (by omega)]; omega) (by rw [e1, e2])
theorem e30s {row : Nat → Int32} {nx : Nat} (e30 : row 30 = nI nx) : row 30 + 1 = nI (nx + 1) := by rw [e30, rA]
theorem t12_play {nx bl hb fr : Nat} {bnum : Nat → Int32} {bcb : Nat → Nat → Int32} {bcsz : Nat → Int32} {E O bit lag lagS : Int32} {row hr made by0 scales dealt backs eight rows comes eA0 eB0 eA1 eB1 e0 e1 recs : Nat → Int32} {post : Int32 → Int32 → Int32 → Int32 → Int32 → (Nat → Int32) → (Nat → Int32) → (Nat → Int32) → (Nat → Int32) → (Nat → Int32) → (Nat → Int32) → (Nat → Int32) → (Nat → Int32) → (Nat → Int32) → (Nat → Int32) → Prop}
    (hok : okSet row) (hB : rBuf bl hb nx fr bnum bcb bcsz row) (hfr : fr ≤ 2500) (hnx : nx < 5000) (e30 : row 30 = nI nx) (hpl : rPl nx eA0 eB0 eA1 eB1 e0 e1 recs row)
    (h : ∀ (E' O' bit' l' s' : Int32) (a1 a2 a3 a4 a5 a6 a7 a8 a9 : Nat → Int32), post E' O' bit' l' s' (M_play row) a1 a2 a3 a4 a5 a6 a7 a8 a9) :
    wp_X12_plays E O bit lag lagS row hr made by0 scales dealt backs eight rows comes post := by
  obtain ⟨sd, hsd, es⟩ := hok.1
  obtain ⟨mn, hmn, e38⟩ := hpl.mn
  have k6 : tN (row 6) = sd := by rw [es]; exact nI_clamp (by omega)
  have k30 : tN (row 30) = nx := by rw [e30]; exact nI_clamp (by omega)
  have k52 : tN (row 52) = min nx 16 := by rw [hpl.tl]; exact nI_clamp (by omega)
  have k38 : tN (row 38) = mn := by rw [e38]; exact nI_clamp (by omega)
  refine t12_plays (mn := mn) hok hsd es hnx e30 (by omega) hpl.tl (by omega) e38 hpl.inr (fun hno => ?_) (fun s hs hrow => ?_)
  · have e := plS_no (row := row) (fun s hs q => hno s hs (by rw [q]; exact e30s e30))
    rw [k6, k30, k52, k38] at e
    rw [← e]; exact h
  · have e := plS_yes (row := row) hs (by rw [hrow, e30s e30]) (fun s' hs' q => play_u nx hB hnx e30 s s' hs hs' hrow (by rw [q]; exact e30s e30))
    rw [k6, k30, k52, k38] at e
    obtain ⟨h1, h2, h3, h4, h5, bn, h6, h7, h8⟩ := hB
    have hlive : ¬ row (2095 + 83 * s) ≤ row 30 := by rw [hrow, e30, nI_leI (by omega) (by omega)]; omega
    obtain ⟨i, hi, ei⟩ := h8 s hs hlive
    obtain ⟨_, _, _, s2, hs2, d1, z, d2, d3, d4, d5, d6, d7⟩ := h6 i hi
    have es2 : s2 = s := h5 s s2 hs hs2 hlive (by rw [d1, ei])
    rw [es2] at d4 d6
    have kz : tN (row (2095 + 83 * s + 1)) = z := by rw [d4]; exact nI_clamp (by omega)
    rw [kz] at e
    refine ⟨z, fun j => row (2095 + 83 * s + 2 + j), d2, d3, d4, fun j hj => ?_, fun j hj => rfl, ?_⟩
    · obtain ⟨n, hn, en⟩ := d7 j hj
      exact ⟨n, hn, by show row (2095 + 83 * s + 2 + j) = nI n; rw [d6 j hj]; exact en⟩
    · rw [← e]; exact h
theorem memlv {by_ row : Nat → Int32} {z j : Nat} (h1 : 81 ≤ j) (h2 : j < 109) : M_mem by_ z (M_lv row) j = M_mem by_ z row j := by
  have lo : ∀ j, j ≠ 35 → M_lv row j = row j := fun j hj => by unfold M_lv; rw [pk_un hj]
  have eM : ∀ c, mR (M_lv row) c = mR row c := fun c => funext (fun i => lo _ (by omega))
  have eX : ∀ c, XB by_ z (M_lv row) c = XB by_ z row c := fun c => by
    funext k j; unfold XB
    have : bkH by_ z (fun j => M_lv row (17 + j)) = bkH by_ z (fun j => row (17 + j)) := bkH_lo (fun j hj => lo _ (by omega))
    rw [this]
  unfold M_mem
  rw [if_pos ⟨h1, h2⟩, if_pos ⟨h1, h2⟩, eM, eX]
theorem mem_o {by_ row : Nat → Int32} {z j : Nat} (h : j < 81 ∨ 109 ≤ j) : M_mem by_ z (M_lv row) j = if j = 35 then row 35 + nI (lev row) else row j := by
  unfold M_mem
  rw [if_neg (by omega)]
  unfold M_lv
  by_cases q : j = 35
  · rw [if_pos q, q, pk_us]
  · rw [if_neg q, pk_un q]
theorem hm_lo : ∀ j, j < 8 → hm (40 + j) = 17 + j := by decide
set_option maxHeartbeats 800000 in
set_option maxRecDepth 100000 in
theorem t6_playNext {T cd nx ln hd bl hb fr t : Nat} {nb rec dly : Nat → Int32} {pnum psent pover ppb : Nat → Int32} {wb : Nat → Nat → Int32} {wsz : Nat → Int32} {cb : Nat → Nat → Int32} {csz : Nat → Int32} {bnum : Nat → Int32} {bcb : Nat → Nat → Int32} {bcsz : Nat → Int32} {row : Nat → Int32} {tw me po l0 s0 l1 s1 : Int32} {scales needs bits quants backs rj r0 B0 A0 n0 fr0 e0 m0 r1 B1 A1 n1 fr1 e1 m1 recs bcat : Nat → Int32} {post : (Nat → Int32) → Int32 → Int32 → Int32 → Int32 → (Nat → Int32) → (Nat → Int32) → (Nat → Int32) → (Nat → Int32) → (Nat → Int32) → (Nat → Int32) → Int32 → Int32 → (Nat → Int32) → (Nat → Int32) → (Nat → Int32) → (Nat → Int32) → (Nat → Int32) → (Nat → Int32) → (Nat → Int32) → Int32 → Int32 → (Nat → Int32) → (Nat → Int32) → (Nat → Int32) → (Nat → Int32) → (Nat → Int32) → (Nat → Int32) → (Nat → Int32) → (Nat → Int32) → (Nat → Int32) → (Nat → Int32) → Prop}
    (h : rAft T cd nx ln ln hd bl hb 0 fr nb rec dly pnum psent pover ppb wb wsz cb csz bnum bcb bcsz row) (hpl : rPl nx A0 B0 A1 B1 e0 e1 recs row) (hok : okSet row) (hfr : fr ≤ 2500) (hnx : nx < 5000) (e25 : row 25 = nI t)
    (hp : ∀ (bl' hb' : Nat) (nb' : Nat → Int32) (tw' me' po' : Int32) (a1 a2 a3 a4 a5 a6 : Nat → Int32) (l0' s0' : Int32) (r0' B0' A0' n0' f0' e0' m0' : Nat → Int32) (l1' s1' : Int32) (r1' B1' A1' n1' f1' e1' m1' recs' rec' at' : Nat → Int32), rAft T cd (nx + 1) ln ln hd bl' hb' 0 fr nb' rec' dly pnum psent pover ppb wb wsz cb csz bnum bcb bcsz (M_play row) → rPl (nx + 1) A0' B0' A1' B1' e0' e1' recs' (M_play row) → post nb' (nI hb') tw' me' po' a1 a2 a3 a4 a5 a6 l0' s0' r0' B0' A0' n0' f0' e0' m0' l1' s1' r1' B1' A1' n1' f1' e1' m1' recs' rec' at') :
    wp_X6_playNext (nI t) nb (nI 6) (nI hb) tw me po scales needs bits quants backs rj l0 s0 r0 B0 A0 n0 fr0 e0 m0 l1 s1 r1 B1 A1 n1 fr1 e1 m1 recs rec bnum bcb bcsz bcat post := by
  obtain ⟨sd, hsd, es⟩ := hok.1
  obtain ⟨mn, hmn, e38⟩ := hpl.mn
  obtain ⟨hN, hFl, hBk, ⟨hLn, hhd⟩, hLi, hDl, hB, e6, e30⟩ := id h
  have hbl := hB.1
  have hhb := hB.2.1
  have hlev := hB.2.2.1
  have k6 : tN (row 6) = sd := by rw [es]; exact nI_clamp (by omega)
  have k30 : tN (row 30) = nx := by rw [e30]; exact nI_clamp (by omega)
  have k52 : tN (row 52) = min nx 16 := by rw [hpl.tl]; exact nI_clamp (by omega)
  have k38 : tN (row 38) = mn := by rw [e38]; exact nI_clamp (by omega)
  have n7 : nb 7 = nI nx := (hN 7 (by omega) (by omega) (by omega) (by omega)).trans e30
  have n15 : nb 15 = nI mn := (hN 15 (by omega) (by omega) (by omega) (by omega)).trans e38
  have n12 : nb 12 = row 35 := hN 12 (by omega) (by omega) (by omega) (by omega)
  have n13 : nb 13 = row 36 := hN 13 (by omega) (by omega) (by omega) (by omega)
  have n14 : nb 14 = row 37 := hN 14 (by omega) (by omega) (by omega) (by omega)
  have n16 : nb 16 = row 39 := hN 16 (by omega) (by omega) (by omega) (by omega)
  have hbk : nx < 2500 → ∃ n, rec nx = nI n ∧ n / 4 % 4 = 0 ∧ n < 2 ^ 30 := fun q => by
    obtain ⟨st, hh, sn, sl, ⟨b1, b2, b3, b4, _, _, _, _, _, b5⟩, _, c2, _⟩ := hBk nx q
    have := c2 (Nat.le_refl _)
    subst this
    exact ⟨_, b5, by omega, by omega⟩
  -- made up
  have made : (∀ s, s < 14 → ¬ row (2095 + 83 * s) = nI (nx + 1)) → wp_X6_fade nb (fun r8 => ∀ f11 : Nat → Int32, f11 = upd nb 12 ((nb 12) + nI bl) → wp_X6_hearMadeUp r8 l0 s0 e0 m0 l1 s1 e1 m1 f11 (fun x12 x13 f14 f15 x16 x17 f18 f19 f20 => wp_X6_recordAt (nI nx) (fun r21 => vp_in (r21 + (1 : Int32)) 112 ∧ ∀ f23 : Nat → Int32, f23 = upd recs (r21 + (1 : Int32)).toNatClampNeg (nI 2) → vp_in (r21 + (2 : Int32)) 112 ∧ ∀ f25 : Nat → Int32, f25 = upd f23 (r21 + (2 : Int32)).toNatClampNeg (nI bl) → vp_in (r21 + (3 : Int32)) 112 ∧ ∀ f28 : Nat → Int32, f28 = upd f25 (r21 + (3 : Int32)).toNatClampNeg (f20 10) → wp_X6_compare (nI nx) 0 f20 f14 f18 (fun r30 f29 => vp_in (r21 + (4 : Int32)) 112 ∧ ∀ f32 : Nat → Int32, f32 = upd f28 (r21 + (4 : Int32)).toNatClampNeg r30 → vp_in (r21 + (5 : Int32)) 112 ∧ ∀ f34 : Nat → Int32, f34 = upd f32 (r21 + (5 : Int32)).toNatClampNeg r8 → vp_in (r21 + (6 : Int32)) 112 ∧ ∀ f36 : Nat → Int32, f36 = upd f34 (r21 + (6 : Int32)).toNatClampNeg (nI t) → wp_X0_setHowHeard (nI nx) (nI 2) rec (fun f37 => ∀ f40 : Nat → Int32, f40 = upd f29 7 ((f29 7) + (1 : Int32)) → ∀ x42 : Int32, x42 = jrem (f40 7) (8 : Int32) → (x42 = (0 : Int32) → wp_X6_trim f40 (fun f44 => post f44 (nI hb) tw me po scales needs bits quants backs rj x12 x13 r0 B0 A0 n0 fr0 f14 f15 x16 x17 r1 B1 A1 n1 fr1 f18 f19 f36 f37 bcat)) ∧ (¬ x42 = (0 : Int32) → post f40 (nI hb) tw me po scales needs bits quants backs rj x12 x13 r0 B0 A0 n0 fr0 f14 f15 x16 x17 r1 B1 A1 n1 fr1 f18 f19 f36 f37 bcat)))))) := by
    intro hno
    refine t6_fade n15 (by omega) ?_
    rintro _ rfl
    refine t6_hearMadeUp (row := row) hpl.ear hpl.inr (fun l0' s0' e0' m0' l1' s1' e1' m1' q0 q1 => ?_)
    have eP := plS_no (row := row) (fun s hs q => hno s hs (by rw [q]; exact e30s e30))
    rw [k6, k30, k52, k38] at eP
    unfold M_pA at eP
    rw [hlev] at eP
    generalize hrow0 : upd (upd (upd (M_lv row) 38 (nI (mn + 1))) 37 (row 37 + 1)) 39 (jmax (row 39) (nI (mn + 1))) = row0 at eP
    have o : ∀ j, (j < 35 ∨ j = 36 ∨ 40 ≤ j) → row0 j = row j := fun j hj => by
      rw [← hrow0, pk_un (by omega), pk_un (by omega), pk_un (by omega)]; unfold M_lv; rw [pk_un (by omega)]
    have o35 : row0 35 = row 35 + nI bl := by rw [← hrow0, pk_un (by omega), pk_un (by omega), pk_un (by omega)]; unfold M_lv; rw [pk_us, hlev]
    have o37 : row0 37 = row 37 + 1 := by rw [← hrow0, pk_un (by omega), pk_us]
    have o38 : row0 38 = nI (mn + 1) := by rw [← hrow0, pk_un (by omega), pk_un (by omega), pk_us]
    have o39 : row0 39 = jmax (row 39) (nI (mn + 1)) := by rw [← hrow0, pk_us]
    clear hrow0
    generalize hF : upd (upd (upd (upd nb 12 (nb 12 + nI bl)) 14 (upd nb 12 (nb 12 + nI bl) 14 + 1)) 15 (upd nb 12 (nb 12 + nI bl) 15 + 1)) 16 (jmax (upd nb 12 (nb 12 + nI bl) 16) (upd nb 12 (nb 12 + nI bl) 15 + 1)) = F
    rw [pk_un (show (14 : Nat) ≠ 12 by omega), pk_un (show (15 : Nat) ≠ 12 by omega), pk_un (show (16 : Nat) ≠ 12 by omega), n12, n14, n15, n16, rA] at hF
    have hNF : rNum F row0 := by
      have a := rNum_u (v := jmax (row 39) (nI (mn + 1))) (rNum_u (v := nI (mn + 1)) (rNum_u (v := row 37 + 1) (rNum_u (v := row 35 + nI bl) hN (show 12 < 54 by omega)) (show 14 < 54 by omega)) (show 15 < 54 by omega)) (show 16 < 54 by omega)
      rw [hF] at a
      have u1 : hm 12 = 35 := by decide
      have u2 : hm 14 = 37 := by decide
      have u3 : hm 15 = 38 := by decide
      have u4 : hm 16 = 39 := by decide
      rw [u1, u2, u3, u4] at a
      refine rNum_f a (fun j hj => ?_) (fun j _ _ _ => rfl)
      by_cases q39 : j = 39
      · rw [q39, o39, pk_us]
      by_cases q38 : j = 38
      · rw [q38, o38, pk_un (by omega), pk_us]
      by_cases q37 : j = 37
      · rw [q37, o37, pk_un (by omega), pk_un (by omega), pk_us]
      by_cases q35 : j = 35
      · rw [q35, o35, pk_un (by omega), pk_un (by omega), pk_un (by omega), pk_us]
      rw [pk_un q39, pk_un q38, pk_un q37, pk_un q35]; exact o j (by omega)
    have F6 : F 6 = nb 6 := by rw [← hF, pk_un (by omega), pk_un (by omega), pk_un (by omega), pk_un (by omega)]
    have F38 : F 38 = nb 38 := by rw [← hF, pk_un (by omega), pk_un (by omega), pk_un (by omega), pk_un (by omega)]
    clear hF
    refine t6_fin (tl := min nx 16) (w := 2) (fd := nI (8 - mn)) (cm := cmA row mn) (P := fun a b c => post a (nI hb) tw me po scales needs bits quants backs rj l0' s0' r0 B0 A0 n0 fr0 e0' m0' l1' s1' r1 B1 A1 n1 fr1 e1' m1' b c bcat) hNF (okSet_f hok (fun j hj => o j (by omega))) hsd ((o 6 (by omega)).trans es) hnx ((o 30 (by omega)).trans e30) (by rw [o 41 (by omega)]; exact hpl.off) (Or.inl rfl) (by omega) (fun i hi => by have := q0.2 i hi; rwa [Nat.zero_add] at this) (fun i hi => q1.2 i hi) hbk (fun nb' recs' rec' z1 z2 z3 z4 z5 => ?_)
    rw [← eP] at z1
    have U : ∀ j, (j < 109 ∨ 493 ≤ j) → j ≠ 30 → j ≠ 40 → j ≠ 41 → j ≠ 52 → (j < 33 ∨ 36 ≤ j) → (j < 3257 ∨ 3369 ≤ j) → j ≠ 3385 + 4 * nx + 2 → M_play row j = row0 j := fun j h1 h2 h3 h4 h5 h6 h7 h8 => by
      rw [eP, fin_f h6, f6_o h1 h2 h3 h4 h5 h7 h8]
    have p30 : M_play row 30 = nI (nx + 1) := by rw [eP, fin_f (by omega), f6_30]
    refine hp bl hb nb' _ _ _ _ _ _ _ _ _ _ _ _ _ _ _ _ _ _ _ _ _ _ _ _ _ _ _ recs' rec' _ ?_ ?_
    · refine play_aft (w := 2) h (fun j hj hj2 => ?_) p30 (by omega) (fun q => ?_) z1 (by rw [z2, F6]; exact e6) (by rw [z3, F38]) ?_ z5
      · rw [U j (by omega) (by omega) (by omega) (by omega) (by omega) (by omega) (by omega) hj2]; exact o j (by omega)
      · rw [eP, fin_f (by omega), f6_4 (by omega) (by omega) (by omega), r4_h q]; rfl
      · refine rBuf_no hB e30 hnx hno (fun j j1 j2 => ?_) p30
        rw [U j (by omega) (by omega) (by omega) (by omega) (by omega) (by omega) (by omega) (by omega)]; exact o j (by omega)
    · rw [eP]
      refine play_pl (mn' := mn + 1) (w := 2) (v1 := nI t) hpl (fun j hj => o j (by omega)) (rMem_f hpl.m0 (fun j j1 j2 => o j (by omega))) (rMem_f hpl.m1 (fun j j1 j2 => o j (by omega))) q0 q1 (cmA_r hpl.inr) o38 (by omega) ?_ hnx rfl e25 z4
      rw [o 36 (by omega), o37, ← Int32.add_assoc, hpl.sum, rA]
  unfold wp_X6_playNext
  rw [n7, e6]
  rintro _ rfl _ rfl
  refine t7_at (i := 0) (c := bl) (n := 12) (sa := 6) (by omega) (by omega) (by omega) hhb (by omega) e6 (by omega) ?_
  by_cases h0 : 0 < bl
  · rw [if_pos h0, Nat.add_zero, Nat.mod_eq_of_lt hhb]
    refine ⟨fun z => absurd z (by simp), fun j hj => ?_⟩
    have hj2 : hb = j := Option.some.inj hj
    subst hj2
    refine ⟨hhb, fun q => ?_, fun q => made (rBuf_at hB hfr e30 hnx (fun z => q z.2))⟩
    obtain ⟨s, hs, d1, z, d2, d3, d4, d5, d6, d7⟩ := rBuf_has hB hfr hnx h0 q
    have eP := plS_yes (row := row) hs (by rw [d1, e30s e30]) (fun s' hs' y => play_u nx hB hnx e30 s s' hs hs' d1 (by rw [y]; exact e30s e30))
    have kz : tN (row (2095 + 83 * s + 1)) = z := by rw [d4]; exact nI_clamp (by omega)
    rw [k6, k30, k52, k38, kz] at eP
    rw [d5]
    rintro _ rfl
    have hbyE : ∀ j, j < 80 → (fun j => row (2095 + 83 * s + 2 + j)) j = bcb hb j := fun j hj => d6 j hj
    have hXB : ∀ (r : Nat → Int32) c, XB (fun j => row (2095 + 83 * s + 2 + j)) z r c = XB (bcb hb) z r c := fun r c => by
      funext k j; unfold XB; rw [bkH_c hbyE (by omega), hbyE 4 (by omega)]
    have hMM : ∀ r : Nat → Int32, M_mem (fun j => row (2095 + 83 * s + 2 + j)) z r = M_mem (bcb hb) z r := fun r => by
      unfold M_mem; simp only [hXB]
    have hCH : cmH (fun j => row (2095 + 83 * s + 2 + j)) z row = cmH (bcb hb) z row := by
      unfold cmH; simp only [hXB]
    have hCB : cmB (fun j => row (2095 + 83 * s + 2 + j)) z row mn = cmB (bcb hb) z row mn := by
      unfold cmB; rw [hCH]
    unfold M_pB at eP
    rw [hlev, hCB, hMM] at eP
    generalize hrow0 : upd (upd (M_mem (bcb hb) z (M_lv row)) 38 0) 36 (row 36 + 1) = row0 at eP
    have o : ∀ j, (j < 35 ∨ j = 37 ∨ (39 ≤ j ∧ j < 81) ∨ 109 ≤ j) → row0 j = row j := fun j hj => by
      rw [← hrow0, pk_un (by omega), pk_un (by omega), mem_o (by omega), if_neg (by omega)]
    have o35 : row0 35 = row 35 + nI bl := by rw [← hrow0, pk_un (by omega), pk_un (by omega), mem_o (by omega), if_pos rfl, hlev]
    have o36 : row0 36 = row 36 + 1 := by rw [← hrow0, pk_us]
    have o38 : row0 38 = nI 0 := by rw [← hrow0, pk_un (by omega), pk_us]; rfl
    have oM : ∀ j, 81 ≤ j → j < 109 → row0 j = M_mem (bcb hb) z row j := fun j h1 h2 => by
      rw [← hrow0, pk_un (by omega), pk_un (by omega), memlv h1 h2]
    clear hrow0
    refine t6_hearCode (row := row) (mn := mn) d2 d3 d7 (by rw [pk_un (by omega)]; exact n15) (by omega) (fun j hj => ?_) hpl.ear hpl.inr hpl.m0 hpl.m1 (fun tw' me' po' at' l0' s0' l1' s1' a1 a2 a3 a4 a5 a6 b1 B0' A0' b2 b3 e0' b4 c1 B1' A1' c2 c3 e1' c4 q0 q1 y0 y1 => ?_)
    · rw [pk_un (by omega)]
      have := hN (40 + j) (by omega) (by omega) (by omega) (by omega)
      rw [this, hm_lo j hj]
    generalize hF0 : upd (upd (upd nb 12 (nb 12 + nI bl)) 13 (upd nb 12 (nb 12 + nI bl) 13 + 1)) 15 0 = F0
    rw [pk_un (show (13 : Nat) ≠ 12 by omega), n12, n13] at hF0
    have F06 : F0 6 = nI bl := by rw [← hF0, pk_un (by omega), pk_un (by omega), pk_un (by omega)]; exact e6
    have F038 : F0 38 = nb 38 := by rw [← hF0, pk_un (by omega), pk_un (by omega), pk_un (by omega)]
    have hNF0 : rNum F0 row0 := by
      have a := rNum_u (v := (0 : Int32)) (rNum_u (v := row 36 + 1) (rNum_u (v := row 35 + nI bl) hN (show 12 < 54 by omega)) (show 13 < 54 by omega)) (show 15 < 54 by omega)
      rw [hF0] at a
      have u1 : hm 12 = 35 := by decide
      have u2 : hm 13 = 36 := by decide
      have u3 : hm 15 = 38 := by decide
      rw [u1, u2, u3] at a
      refine rNum_f a (fun j hj => ?_) (fun j _ _ _ => rfl)
      by_cases q38 : j = 38
      · rw [q38, o38, pk_us]; rfl
      by_cases q36 : j = 36
      · rw [q36, o36, pk_un (by omega), pk_us]
      by_cases q35 : j = 35
      · rw [q35, o35, pk_un (by omega), pk_un (by omega), pk_us]
      rw [pk_un q38, pk_un q36, pk_un q35]; exact o j (by omega)
    clear hF0
    refine t7_remove (n := 12) (sa := 6) (c := bl) (by omega) (by omega) (by omega) hhb F06 (by omega) h0 ?_
    have hNF : rNum (upd F0 6 (nI (bl - 1))) row0 := rNum_f hNF0 (fun j _ => rfl) (fun j _ y _ => pk_un y)
    refine t6_fin (tl := min nx 16) (w := 1) (lv := nI bl) (fd := 8) (v2 := 1) (v1 := nI t) (cm := cmB (bcb hb) z row mn) (P := fun a b c => ∀ F142 : Nat → Int32, F142 = va_up bcat hb at' → post a (nI ((hb + 1) % 12)) tw' me' po' a1 a2 a3 a4 a5 a6 l0' s0' b1 B0' A0' b2 b3 e0' b4 l1' s1' c1 B1' A1' c2 c3 e1' c4 b c F142) hNF (okSet_f hok (fun j hj => o j (by omega))) hsd ((o 6 (by omega)).trans es) hnx ((o 30 (by omega)).trans e30) (by rw [o 41 (by omega)]; exact hpl.off) (Or.inr rfl) (by omega) (fun i hi => by have := q0.2 i hi; rwa [Nat.zero_add] at this) (fun i hi => q1.2 i hi) hbk (fun nb' recs' rec' z1 z2 z3 z4 z5 => ?_)
    intro F142 _
    rw [← eP] at z1
    have U : ∀ j, (j < 109 ∨ 493 ≤ j) → j ≠ 30 → j ≠ 40 → j ≠ 41 → j ≠ 52 → (j < 33 ∨ 36 ≤ j) → (j < 3257 ∨ 3369 ≤ j) → j ≠ 3385 + 4 * nx + 2 → M_play row j = row0 j := fun j h1 h2 h3 h4 h5 h6 h7 h8 => by
      rw [eP, fin_f h6, f6_o h1 h2 h3 h4 h5 h7 h8]
    have p30 : M_play row 30 = nI (nx + 1) := by rw [eP, fin_f (by omega), f6_30]
    refine hp (bl - 1) ((hb + 1) % 12) nb' _ _ _ _ _ _ _ _ _ _ _ _ _ _ _ _ _ _ _ _ _ _ _ _ _ _ _ recs' rec' _ ?_ ?_
    · refine play_aft (w := 1) h (fun j hj hj2 => ?_) p30 (by omega) (fun q => ?_) z1 (by rw [z2, pk_us]) (by rw [z3, pk_un (by omega), F038]) ?_ z5
      · rw [U j (by omega) (by omega) (by omega) (by omega) (by omega) (by omega) (by omega) hj2]; exact o j (by omega)
      · rw [eP, fin_f (by omega), f6_4 (by omega) (by omega) (by omega), r4_h q]; rfl
      · refine rBuf_yes hB hfr e30 hnx h0 q (fun j j1 j2 => ?_) p30
        rw [U j (by omega) (by omega) (by omega) (by omega) (by omega) (by omega) (by omega) (by omega)]; exact o j (by omega)
    · rw [eP]
      refine play_pl (mn' := 0) (w := 1) (v1 := nI t) hpl (fun j hj => o j (by omega)) (rMem_f y0 (fun j j1 j2 => oM j (by omega) (by omega))) (rMem_f y1 (fun j j1 j2 => oM j (by omega) (by omega))) q0 q1 (cmB_r hpl.inr) o38 (by omega) ?_ hnx rfl e25 z4
      rw [o 37 (by omega), o36, Int32.add_assoc, Int32.add_comm 1, ← Int32.add_assoc, hpl.sum, rA]
  · rw [if_neg h0]
    exact ⟨fun _ => made (rBuf_at hB hfr e30 hnx (fun z => h0 z.1)), fun j hj => absurd hj (by simp)⟩
