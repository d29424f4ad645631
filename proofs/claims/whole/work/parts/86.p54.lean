/-! pure part 54: a Way becomes another -/
theorem cpy0 {f g : Nat → Int32} {n j : Nat} (hj : j < n) : va_cpy f g 0 0 n j = f j := by
  rw [pk_cpy_in (by omega) (by omega), Nat.sub_zero, Nat.zero_add]
/-- a ring's entries at those of its places that are in use -/
def eqQ (n hd c : Nat) (pnum psent pover ppb : Nat → Int32) (wb : Nat → Nat → Int32) (wsz : Nat → Int32) (cb : Nat → Nat → Int32) (csz : Nat → Int32) (pnum' psent' pover' ppb' : Nat → Int32) (wb' : Nat → Nat → Int32) (wsz' : Nat → Int32) (cb' : Nat → Nat → Int32) (csz' : Nat → Int32) : Prop := ∀ i, i < c → pnum' ((hd + i) % n) = pnum ((hd + i) % n) ∧ psent' ((hd + i) % n) = psent ((hd + i) % n) ∧ pover' ((hd + i) % n) = pover ((hd + i) % n) ∧ ppb' ((hd + i) % n) = ppb ((hd + i) % n) ∧ (∀ j, j < 80 → wb' ((hd + i) % n) j = wb ((hd + i) % n) j) ∧ wsz' ((hd + i) % n) = wsz ((hd + i) % n) ∧ (∀ j, j < 80 → cb' ((hd + i) % n) j = cb ((hd + i) % n) j) ∧ csz' ((hd + i) % n) = csz ((hd + i) % n)
set_option maxHeartbeats 800000 in
set_option maxRecDepth 100000 in
theorem t7_become {n sa hd c : Nat} {nb nb' : Nat → Int32} {lh : Int32} {pnum psent pover ppb : Nat → Int32} {wb : Nat → Nat → Int32} {wsz : Nat → Int32} {cb : Nat → Nat → Int32} {csz : Nat → Int32} {pnum' psent' pover' ppb' : Nat → Int32} {wb' : Nat → Nat → Int32} {wsz' : Nat → Int32} {cb' : Nat → Nat → Int32} {csz' : Nat → Int32} {post : Int32 → (Nat → Int32) → (Nat → Int32) → (Nat → Int32) → (Nat → Int32) → (Nat → Nat → Int32) → (Nat → Int32) → (Nat → Nat → Int32) → (Nat → Int32) → Prop} (hn : 0 < n) (hn2 : n < 100) (hs : sa < 54) (hh : hd < n) (hc : c ≤ n) (e : nb sa = nI c) (e' : nb' sa = nI c)
    (h : ∀ (pnum' psent' pover' ppb' : Nat → Int32) (wb' : Nat → Nat → Int32) (wsz' : Nat → Int32) (cb' : Nat → Nat → Int32) (csz' : Nat → Int32), eqQ n hd c pnum psent pover ppb wb wsz cb csz pnum' psent' pover' ppb' wb' wsz' cb' csz' → post (nI hd) pnum' psent' pover' ppb' wb' wsz' cb' csz') :
    wp_X7_become n n (nI sa) lh (nI sa) (nI hd) nb' nb pnum' psent' pover' ppb' wb' wsz' cb' csz' pnum psent pover ppb wb wsz cb csz post := by
  unfold wp_X7_become
  rintro _ rfl
  refine Lz9_by (fun x4 a b d e f g h k => ∃ i, x4 = nI i ∧ i ≤ c ∧ eqQ n hd i pnum psent pover ppb wb wsz cb csz a b d e f g h k) (fun x4 _ _ _ _ _ _ _ _ => c - x4.toNatClampNeg) _ _ _ _ _ _ _ _ _ ⟨0, rfl, by omega, fun i hi => absurd hi (Nat.not_lt_zero _)⟩ ?_
  rintro x4 a b d e1 f g h1 k ⟨i, rfl, hi, hq⟩ again hag
  rw [nI_clamp (show sa < 2 ^ 31 by omega), e']
  refine ⟨vp_in_nI hs (by omega), fun y => ?_, fun y => ?_⟩
  · have : i = c := by have := (nI_leI (by omega) (by omega)).mp y; omega
    subst this
    exact h _ _ _ _ _ _ _ _ hq
  · have hic : i < c := by
      rcases Nat.lt_or_ge i c with w | w
      · exact w
      · exact absurd ((nI_leI (by omega) (by omega)).mpr w) y
    refine t7_at hn hn2 hs hh (by omega) e' (by omega) ?_
    rw [if_pos hic]
    refine ⟨fun z => absurd z (by simp), fun j hj => ?_⟩
    have hj2 : (hd + i) % n = j := Option.some.inj hj
    subst hj2
    refine ⟨Nat.mod_lt _ hn, ?_⟩
    refine t7_at hn hn2 hs hh (by omega) e (by omega) ?_
    rw [if_pos hic]
    refine ⟨fun z => absurd z (by simp), fun j hj => ?_⟩
    have hj2 : (hd + i) % n = j := Option.some.inj hj
    subst hj2
    refine ⟨Nat.mod_lt _ hn, ?_⟩
    unfold wp_X5_become wp_X1_become
    rintro _ rfl _ rfl _ rfl _ rfl _ rfl _ rfl _ rfl _ rfl _ rfl _ rfl
    rw [rA]
    refine hag _ _ _ _ _ _ _ _ _ ⟨i + 1, rfl, by omega, fun i' hi' => ?_⟩ (by show c - (nI (i + 1)).toNatClampNeg < c - (nI i).toNatClampNeg; rw [nI_clamp (by omega), nI_clamp (by omega)]; omega)
    by_cases q : i' = i
    · subst q
      rw [vu_s, vu_s, vu_s, vu_s, vu_s, vu_s, vu_s, vu_s]
      exact ⟨rfl, rfl, rfl, rfl, fun j hj => cpy0 hj, rfl, fun j hj => cpy0 hj, rfl⟩
    · have hne : (hd + i') % n ≠ (hd + i) % n := ring_ne (by omega) (by omega) q
      rw [vu_n hne, vu_n hne, vu_n hne, vu_n hne, vu_n hne, vu_n hne, vu_n hne, vu_n hne]
      exact hq i' (by omega)
theorem isBy_c {f f' : Nat → Int32} {n : Nat} (h : isBy f n) (e : ∀ j, j < n → f' j = f j) : isBy f' n := fun j hj => by rw [e j hj]; exact h j hj
set_option maxHeartbeats 800000 in
set_option maxRecDepth 100000 in
theorem RW_c {t cd nx ln hd bl hb : Nat} {nb rec dly : Nat → Int32} {pnum psent pover ppb : Nat → Int32} {wb : Nat → Nat → Int32} {wsz : Nat → Int32} {cb : Nat → Nat → Int32} {csz : Nat → Int32} {bnum : Nat → Int32} {bcb : Nat → Nat → Int32} {bcsz : Nat → Int32} {A0 B0 A1 B1 split told quants backs scales bits : Nat → Int32} {tw me sz : Int32} {bytes : Nat → Int32} {eA0 eB0 eA1 eB1 e0 e1 recs : Nat → Int32} {row nb' rec' dly' pnum' psent' pover' ppb' : Nat → Int32} {wb' : Nat → Nat → Int32} {wsz' : Nat → Int32} {cb' : Nat → Nat → Int32} {csz' : Nat → Int32} {bnum' : Nat → Int32} {bcb' : Nat → Nat → Int32} {bcsz' A0' B0' A1' B1' split' told' quants' backs' scales' bits' bytes' eA0' eB0' eA1' eB1' e0' e1' recs' : Nat → Int32}
    (h : RW t cd nx ln hd bl hb nb rec dly pnum psent pover ppb wb wsz cb csz bnum bcb bcsz A0 B0 A1 B1 split told quants backs scales bits tw me sz bytes eA0 eB0 eA1 eB1 e0 e1 recs row) (h1 : ∀ j, j < 54 → nb' j = nb j) (h2 : ∀ j, j < 2500 → rec' j = rec j) (h3 : ∀ j, j < 16 → dly' j = dly j) (hq : eqQ 6 hd ln pnum psent pover ppb wb wsz cb csz pnum' psent' pover' ppb' wb' wsz' cb' csz')
    (hb' : ∀ i, i < bl → bnum' ((hb + i) % 12) = bnum ((hb + i) % 12) ∧ (∀ j, j < 80 → bcb' ((hb + i) % 12) j = bcb ((hb + i) % 12) j) ∧ bcsz' ((hb + i) % 12) = bcsz ((hb + i) % 12))
    (m1 : ∀ j, j < 7 → A0' j = A0 j) (m2 : ∀ j, j < 7 → B0' j = B0 j) (m3 : ∀ j, j < 7 → A1' j = A1 j) (m4 : ∀ j, j < 7 → B1' j = B1 j) (f1 : ∀ j, j < 64 → split' j = split j) (f2 : ∀ j, j < 64 → told' j = told j) (f3 : ∀ j, j < 64 → quants' j = quants j) (f4 : ∀ j, j < 64 → backs' j = backs j) (f5 : ∀ j, j < 16 → scales' j = scales j) (f6 : ∀ j, j < 16 → bits' j = bits j) (f7 : ∀ j, j < 80 → bytes' j = bytes j)
    (m5 : ∀ j, j < 7 → eA0' j = eA0 j) (m6 : ∀ j, j < 7 → eB0' j = eB0 j) (m7 : ∀ j, j < 7 → eA1' j = eA1 j) (m8 : ∀ j, j < 7 → eB1' j = eB1 j) (g1 : ∀ j, j < 192 → e0' j = e0 j) (g2 : ∀ j, j < 192 → e1' j = e1 j) (g3 : ∀ j, j < 112 → recs' j = recs j) :
    RW t cd nx ln hd bl hb nb' rec' dly' pnum' psent' pover' ppb' wb' wsz' cb' csz' bnum' bcb' bcsz' A0' B0' A1' B1' split' told' quants' backs' scales' bits' tw me sz bytes' eA0' eB0' eA1' eB1' e0' e1' recs' row := by
  obtain ⟨⟨a1, ⟨ms, b1, b2, b3⟩, a3, ⟨a4, a5⟩, a6, a7, ⟨c1, c2, c3, c4, c5, bn, c6, c7, c8⟩, a9, a10⟩, ⟨p1, p2, p3, p4, p5, p6, p7, p8, p9, p10⟩, r3, r4, r5, r6, r7, r8, r9, r10, r11, r12, r13, r14, r15, r16⟩ := h
  have mem : ∀ {A B A' B' : Nat → Int32} {o : Nat}, rMem A B o row → (∀ j, j < 7 → A' j = A j) → (∀ j, j < 7 → B' j = B j) → rMem A' B' o row := fun hm ha hb i hi => by rw [ha i hi, hb i hi]; exact hm i hi
  refine ⟨⟨fun j hj x y z => by rw [h1 j hj]; exact a1 j hj x y z, ⟨ms, b1, b2, by rw [h1 38 (by omega)]; exact b3⟩, fun k hk => ?_, ⟨a4, a5⟩, fun i x hi => ?_, fun n hn => by rw [h3 n hn]; exact a7 n hn, ⟨c1, c2, c3, c4, c5, bn, fun i hi => ?_, c7, c8⟩, by rw [h1 6 (by omega)]; exact a9, a10⟩, ⟨mem p1 m5 m6, mem p2 m7 m8, fun j hj => by rw [g1 j hj, g2 j hj]; exact p3 j hj, p4, p5, p6, p7, fun i hi => ?_, p9, p10⟩, r3, r4, r5, r6, r7, r8, mem r9 m1 m2, mem r10 m3 m4, fun y => ?_, r12, r13, r14, r15, r16⟩
  · obtain ⟨st, hh, sn, sl, g, d⟩ := a3 k hk
    exact ⟨st, hh, sn, sl, rBk_f g (fun j _ _ => rfl) (h2 k hk), d⟩
  · obtain ⟨q1, q2, q3, q4, q5, q6, q7, q8⟩ := hq i hi
    obtain ⟨l1, l2, l3, z, pb, ov, l4, l5, l6, l7, l8, l9, l10, l11, l12, l13, l14, l15, l16, l17, l18, l19⟩ := a6 i x hi
    exact ⟨by rw [q1]; exact l1, l2, by rw [q2]; exact l3, z, pb, ov, l4, l5, l6, l7, l8, l9, by rw [q6]; exact l10, by rw [q8]; exact l11, l12, by rw [q4]; exact l13, l14, by rw [q3]; exact l15, fun j hj => by rw [q5 j hj]; exact l16 j hj, fun j hj => by rw [q7 j hj]; exact l17 j hj, isBy_c l18 q5, isBy_c l19 q7⟩
  · obtain ⟨q1, q2, q3⟩ := hb' i hi
    obtain ⟨d1, d2, d3, s, hs, d4, z, d5, d6, d7, d8, d9, d10⟩ := c6 i hi
    exact ⟨by rw [q1]; exact d1, d2, d3, s, hs, d4, z, d5, d6, d7, by rw [q3]; exact d8, fun j hj => by rw [q2 j hj]; exact d9 j hj, isBy_c d10 q2⟩
  · obtain ⟨u1, u2⟩ := p8 i hi
    exact ⟨u1, fun w w1 w2 => by rw [g3 _ (by omega)]; exact u2 w w1 w2⟩
  · obtain ⟨u1, u2, ⟨sc, bt, u3, u4, u5⟩, u6, u7, u8, u9, u10⟩ := r11 y
    refine ⟨fun c hc b hb => by rw [f1 _ (by omega)]; exact u1 c hc b hb, fun c hc b hb => by rw [f2 _ (by omega)]; exact u2 c hc b hb, ⟨sc, bt, fun c hc => by rw [f5 c hc]; exact u3 c hc, fun c hc => by rw [f6 c hc]; exact u4 c hc, fun c hc b hb => ?_⟩, u6, u7, u8, fun j hj => by rw [f7 j hj]; exact u9 j hj, isBy_c u10 f7⟩
    rw [f2 _ (by omega), f3 _ (by omega), f4 _ (by omega)]; exact u5 c hc b hb
set_option maxHeartbeats 800000 in
set_option maxRecDepth 100000 in
theorem t10_become {t cd nx ln hd bl hb : Nat} {nb rec dly : Nat → Int32} {pnum psent pover ppb : Nat → Int32} {wb : Nat → Nat → Int32} {wsz : Nat → Int32} {cb : Nat → Nat → Int32} {csz : Nat → Int32} {bnum : Nat → Int32} {bcb : Nat → Nat → Int32} {bcsz : Nat → Int32} {A0 B0 A1 B1 split told quants backs scales bits : Nat → Int32} {tw me sz : Int32} {bytes : Nat → Int32} {eA0 eB0 eA1 eB1 e0 e1 recs : Nat → Int32} {row : Nat → Int32} {po tw' me' po' sz' lh bh : Int32} {bsent bover bpb bwsz nb' rec' dly' A0' B0' A1' B1' split' told' quants' backs' scales' bits' bytes' eA0' eB0' e0' eA1' eB1' e1' recs' pnum' psent' pover' ppb' wsz' csz' bnum' bsent' bover' bpb' bwsz' bcsz' : Nat → Int32} {bwb wb' cb' bwb' bcb' : Nat → Nat → Int32}
    {post : (Nat → Int32) → (Nat → Int32) → (Nat → Int32) → (Nat → Int32) → (Nat → Int32) → (Nat → Int32) → (Nat → Int32) → Int32 → Int32 → Int32 → (Nat → Int32) → (Nat → Int32) → (Nat → Int32) → (Nat → Int32) → (Nat → Int32) → (Nat → Int32) → Int32 → (Nat → Int32) → Int32 → Int32 → (Nat → Int32) → (Nat → Int32) → (Nat → Int32) → (Nat → Int32) → (Nat → Int32) → (Nat → Int32) → (Nat → Int32) → (Nat → Int32) → (Nat → Int32) → (Nat → Int32) → (Nat → Int32) → (Nat → Nat → Int32) → (Nat → Int32) → (Nat → Nat → Int32) → (Nat → Int32) → (Nat → Int32) → (Nat → Int32) → (Nat → Int32) → (Nat → Int32) → (Nat → Nat → Int32) → (Nat → Int32) → (Nat → Nat → Int32) → (Nat → Int32) → Prop}
    (h : RW t cd nx ln hd bl hb nb rec dly pnum psent pover ppb wb wsz cb csz bnum bcb bcsz A0 B0 A1 B1 split told quants backs scales bits tw me sz bytes eA0 eB0 eA1 eB1 e0 e1 recs row)
    (hp : ∀ (nb rec dly : Nat → Int32) (pnum psent pover ppb : Nat → Int32) (wb : Nat → Nat → Int32) (wsz : Nat → Int32) (cb : Nat → Nat → Int32) (csz : Nat → Int32) (bnum : Nat → Int32) (bcb : Nat → Nat → Int32) (bcsz : Nat → Int32) (A0 B0 A1 B1 split told quants backs scales bits : Nat → Int32) (tw me sz : Int32) (bytes : Nat → Int32) (eA0 eB0 eA1 eB1 e0 e1 recs : Nat → Int32) (bsent bover bpb : Nat → Int32) (bwb : Nat → Nat → Int32) (bwsz : Nat → Int32), RW t cd nx ln hd bl hb nb rec dly pnum psent pover ppb wb wsz cb csz bnum bcb bcsz A0 B0 A1 B1 split told quants backs scales bits tw me sz bytes eA0 eB0 eA1 eB1 e0 e1 recs row → post nb rec dly A0 B0 A1 B1 tw me po split told quants backs scales bits sz bytes (nI hd) (nI hb) eA0 eB0 e0 eA1 eB1 e1 recs pnum psent pover ppb wb wsz cb csz bnum bsent bover bpb bwb bwsz bcb bcsz) :
    wp_X10_become nb nb' rec rec' dly dly' A0 A0' B0 B0' A1 A1' B1 B1' tw' me' po' tw me po split split' told told' quants quants' backs backs' scales scales' bits bits' sz' sz bytes bytes' (nI 5) lh (nI 5) (nI hd) (nI 6) bh (nI 6) (nI hb) eA0 eA0' eB0 eB0' e0 e0' eA1 eA1' eB1 eB1' e1 e1' recs' recs pnum' psent' pover' ppb' wb' wsz' cb' csz' pnum psent pover ppb wb wsz cb csz bnum' bsent' bover' bpb' bwb' bwsz' bcb' bcsz' bnum bsent bover bpb bwb bwsz bcb bcsz post := by
  have e5 : nb 5 = nI ln := rSnd_5 (rAft_S h.aft)
  have e6 : nb 6 = nI bl := h.aft.2.2.2.2.2.2.2.1
  have hl := h.aft.2.2.2.1.1.2.1
  have hB := h.aft.2.2.2.2.2.2.1
  unfold wp_X10_become wp_X0_become wp_X2_become wp_X9_become wp_X4_become wp_X1_become wp_X8_become wp_X6_become wp_X3_become wp_X9_become
  rintro _ rfl _ rfl _ rfl _ rfl _ rfl _ rfl _ rfl _ rfl _ rfl _ rfl _ rfl _ rfl _ rfl _ rfl
  refine t7_become (c := ln) (by omega) (by omega) (by omega) h.aft.2.2.2.1.2 (by omega) e5 (by rw [cpy0 (by omega)]; exact e5) (fun pnum2 psent2 pover2 ppb2 wb2 wsz2 cb2 csz2 hq => ?_)
  refine t7_become (c := bl) (by omega) (by omega) (by omega) hB.2.1 hB.1 e6 (by rw [cpy0 (by omega)]; exact e6) (fun bnum2 bsent2 bover2 bpb2 bwb2 bwsz2 bcb2 bcsz2 hq2 => ?_)
  rintro _ rfl _ rfl _ rfl _ rfl _ rfl _ rfl _ rfl
  refine hp _ _ _ _ _ _ _ _ _ _ _ _ _ _ _ _ _ _ _ _ _ _ _ _ _ _ _ _ _ _ _ _ _ _ _ _ _ _ _ _ (RW_c h (fun j hj => cpy0 hj) (fun j hj => cpy0 hj) (fun j hj => cpy0 hj) hq (fun i hi => ⟨(hq2 i hi).1, (hq2 i hi).2.2.2.2.2.2.1, (hq2 i hi).2.2.2.2.2.2.2⟩) (fun j hj => cpy0 hj) (fun j hj => cpy0 hj) (fun j hj => cpy0 hj) (fun j hj => cpy0 hj) (fun j hj => cpy0 hj) (fun j hj => cpy0 hj) (fun j hj => cpy0 hj) (fun j hj => cpy0 hj) (fun j hj => cpy0 hj) (fun j hj => cpy0 hj) (fun j hj => cpy0 hj) (fun j hj => cpy0 hj) (fun j hj => cpy0 hj) (fun j hj => cpy0 hj) (fun j hj => cpy0 hj) (fun j hj => cpy0 hj) (fun j hj => cpy0 hj) (fun j hj => cpy0 hj))
