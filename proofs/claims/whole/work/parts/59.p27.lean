/-! pure part 27: the class's slot of the sender -/
theorem rAft_S {t cd nx ln hd bl hb fr : Nat} {nb rec dly : Nat → Int32} {pnum psent pover ppb : Nat → Int32} {wb : Nat → Nat → Int32} {wsz : Nat → Int32} {cb : Nat → Nat → Int32} {csz : Nat → Int32} {bnum : Nat → Int32} {bcb : Nat → Nat → Int32} {bcsz : Nat → Int32} {row : Nat → Int32} (h : rAft t cd nx ln ln hd bl hb 0 fr nb rec dly pnum psent pover ppb wb wsz cb csz bnum bcb bcsz row) : rSnd t cd nx ln hd nb rec pnum psent pover ppb wb wsz cb csz row := ⟨h.1, h.2.1, h.2.2.1, h.2.2.2.1, fun i hi => h.2.2.2.2.1 i (Nat.zero_le _) hi⟩
theorem pieces_eq {z pb ov : Nat} (hp : 1 ≤ pb) (ho : ov * pb < z) (h : ¬ ov + 1 < (z + pb - 1) / pb) : ov + 1 = (z + pb - 1) / pb := by
  have h1 : (z + pb - 1) / pb * pb ≤ z + pb - 1 := Nat.div_mul_le_self _ _
  have h2 : z + pb - 1 < ((z + pb - 1) / pb + 1) * pb := by
    have := Nat.lt_mul_div_succ (z + pb - 1) (show 0 < pb by omega)
    rw [Nat.mul_comm] at this; exact this
  rcases Nat.lt_or_ge ov ((z + pb - 1) / pb) with q | q
  · omega
  · exfalso
    have h3 : ((z + pb - 1) / pb + 1) * pb ≤ (ov + 1) * pb := Nat.mul_le_mul_right _ (by omega)
    rw [Nat.succ_mul ov pb] at h3
    omega
theorem pieces_lt {z pb ov : Nat} (hp : 1 ≤ pb) (h : ov + 1 < (z + pb - 1) / pb) : (ov + 1) * pb < z := by
  have h1 : (z + pb - 1) / pb * pb ≤ z + pb - 1 := Nat.div_mul_le_self _ _
  have h2 : (ov + 1 + 1) * pb ≤ (z + pb - 1) / pb * pb := Nat.mul_le_mul_right _ h
  rw [Nat.succ_mul] at h2
  omega
set_option maxHeartbeats 4000000 in
set_option maxRecDepth 100000 in
theorem t8_send {t cd nx ln hd bl hb s e : Nat} {nb rec dly : Nat → Int32} {pnum psent pover ppb : Nat → Int32} {wb : Nat → Nat → Int32} {wsz : Nat → Int32} {cb : Nat → Nat → Int32} {csz : Nat → Int32} {bnum bsent bover bpb : Nat → Int32} {bwb : Nat → Nat → Int32} {bwsz : Nat → Int32} {bcb : Nat → Nat → Int32} {bcsz row : Nat → Int32} {post : Int32 → (Nat → Int32) → (Nat → Int32) → (Nat → Int32) → (Nat → Int32) → (Nat → Int32) → (Nat → Nat → Int32) → (Nat → Int32) → (Nat → Int32) → (Nat → Int32) → (Nat → Int32) → (Nat → Int32) → (Nat → Nat → Int32) → (Nat → Int32) → (Nat → Nat → Int32) → (Nat → Int32) → Prop}
    (h : rAft t cd nx ln ln hd bl hb 0 (cd - ln) nb rec dly pnum psent pover ppb wb wsz cb csz bnum bcb bcsz row) (ht : t < 10000) (hcd : 4 * cd ≤ t + 4) (hx : nx < 100000) (e25 : row 25 = nI t) (e49 : row 49 = nI s) (hs : s < 1000003) (e16 : row 16 = nI e) (he : e ≤ 1000) (hD : 0 < ln → t < 4 * (cd - ln) + 16)
    (hp : ∀ (ln' hd' bl' : Nat) (nb' rec' dly' psent' pover' : Nat → Int32) (cb' : Nat → Nat → Int32) (csz' bnum' bsent' bover' bpb' : Nat → Int32) (bwb' : Nat → Nat → Int32) (bwsz' : Nat → Int32) (bcb' : Nat → Nat → Int32) (bcsz' : Nat → Int32), ln' ≤ ln → ln ≤ ln' + 1 → rAft (t + 1) cd nx ln' ln' hd' bl' hb 0 (cd - ln') nb' rec' dly' pnum psent' pover' ppb wb wsz cb' csz' bnum' bcb' bcsz' (M_send row) → post (nI hd') nb' rec' dly' psent' pover' cb' csz' bnum' bsent' bover' bpb' bwb' bwsz' bcb' bcsz') :
    wp_X7_at 6 0 (nI 5) (nI hd) nb (fun r4 => (r4 = none → ∀ f9 : Nat → Int32, f9 = upd nb 35 ((nb 35) + 1) → post (nI hd) f9 rec dly psent pover cb csz bnum bsent bover bpb bwb bwsz bcb bcsz) ∧ (∀ j5, r4 = some j5 → j5 < 6 ∧ ∀ x10 : Int32, x10 = (psent j5) + 1 → ∀ f13 : Nat → Int32, f13 = upd nb 2 ((nb 2) + 1) → wp_X0_addSent (pnum j5) rec (fun f14 => wp_X8_isLost f13 (fun r16 f15 => (r16 = 0 → ∀ f20 : Nat → Int32, f20 = upd f15 32 ((f15 32) + 1) → wp_X8_perhapsDamage f20 (pover j5) (ppb j5) (wsz j5) (csz j5) (cb j5) (fun f21 f22 => ∀ x23 : Int32, x23 = (pover j5) + 1 → wp_X5_pieces (ppb j5) (wsz j5) (fun r24 => (x23 < r24 → ∀ F26 : Nat → Int32, F26 = va_up psent j5 x10 → ∀ F27 : Nat → Int32, F27 = va_up pover j5 x23 → ∀ F28 : Nat → Nat → Int32, F28 = va_up cb j5 f22 → post (nI hd) f21 f14 dly F26 F27 F28 csz bnum bsent bover bpb bwb bwsz bcb bcsz) ∧ (¬ x23 < r24 → wp_X8_endOf (nI t) (pnum j5) x10 x23 (ppb j5) f21 (csz j5) f22 (wsz j5) (wb j5) f14 dly (nI 5) (nI hd) (nI 6) (nI hb) bnum bsent bover bpb bwb bwsz bcb bcsz (fun x29 f30 x31 f32 f33 f34 x35 F36 F37 F38 F39 F40 F41 F42 F43 => ∀ F44 : Nat → Int32, F44 = va_up psent j5 x10 → ∀ F45 : Nat → Int32, F45 = va_up pover j5 x29 → ∀ F46 : Nat → Nat → Int32, F46 = va_up cb j5 f32 → ∀ F47 : Nat → Int32, F47 = va_up csz j5 x31 → post x35 f30 f33 f34 F44 F45 F46 F47 F36 F37 F38 F39 F40 F41 F42 F43))))) ∧ (¬ r16 = 0 → ∀ F48 : Nat → Int32, F48 = va_up psent j5 x10 → post (nI hd) f15 f14 dly F48 pover cb csz bnum bsent bover bpb bwb bwsz bcb bcsz))))) := by
  have b5 : nb 5 = nI ln := rSnd_5 (rAft_S h)
  have hd6 := h.2.2.2.1.2
  have hln5 := h.2.2.2.1.1.2.1
  have hlc := h.2.2.2.1.1.2.2
  have e51 := h.2.2.2.1.1.1
  refine t7_at (i := 0) (c := ln) (n := 6) (sa := 5) (by omega) (by omega) (by omega) hd6 (by omega) b5 (by omega) ?_
  by_cases h0 : 0 < ln
  · rw [if_pos h0, Nat.add_zero, Nat.mod_eq_of_lt hd6]
    refine ⟨fun y => absurd y (by simp), fun j hj => ?_⟩
    have hj2 : hd = j := Option.some.inj hj
    subst hj2
    refine ⟨hd6, ?_⟩
    rintro _ rfl _ rfl
    have hk : cd - ln < 2500 := by omega
    obtain ⟨g1, g2, g3, z, pb, ov, c1, c2, c3, c4, c5, c6, c7, c8, c9, c10, c11, c12, c13, c14, c15, c16⟩ := rAft_0 h h0
    obtain ⟨n, hn, en⟩ := rBook_n (k := cd - ln) h.2.2.1 hk
    have hA1 := rAft_sent h h0 en hn (hD h0)
    have tk : tN (row 735) = cd - ln := by rw [g2]; exact nI_clamp (by omega)
    have tz : tN (row 736) = z := by rw [show row 736 = nI z from c6]; exact nI_clamp (by omega)
    have tp : tN (row 737) = pb := by rw [show row 737 = nI pb from c9]; exact nI_clamp (by omega)
    have hov : ov ≤ ov * pb := Nat.le_mul_of_pos_right _ (by omega)
    have to : tN (row 738) = ov := by rw [show row 738 = nI ov from c11]; exact nI_clamp (by omega)
    have o1 : ∀ j, j ≠ 27 → j ≠ 3385 + 4 * (cd - ln) + 1 → M_s1 row j = row j := fun j a b => s1_o g2 hk a b
    rw [g1]
    refine t0_addSent hk en ?_
    unfold M_send at hp
    have n51 : ¬ row 51 = 0 := by rw [e51]; exact nI_ne0 h0 (by omega)
    rw [if_neg n51] at hp
    have b36 : upd nb 2 (nb 2 + 1) 36 = row 48 := by rw [pk_un (by omega)]; exact h.1 36 (by omega) (by omega) (by omega) (by omega)
    have b37 : upd nb 2 (nb 2 + 1) 37 = nI s := by rw [pk_un (by omega)]; exact (h.1 37 (by omega) (by omega) (by omega) (by omega)).trans e49
    have m49 : M_s1 row 49 = nI s := by rw [o1 _ (by omega) (by omega)]; exact e49
    unfold wp_X8_isLost
    rw [b36]
    refine ⟨fun q48 => ?_, fun q48 => ?_⟩
    · rw [if_pos q48] at hp
      refine t8_draw b37 hs ?_
      have hA2 := rAft_draw hA1 m49 hs
      have hlt := drS_lt s
      have ts : tN (row 49) = s := by rw [e49]; exact nI_clamp (by omega)
      have ev : drV row = drS s / 16 := by unfold drV; rw [ts]
      have b25 : upd (upd nb 2 (nb 2 + 1)) 37 (nI (drS s)) 25 = row 11 := by rw [pk_un (by omega), pk_un (by omega)]; exact h.1 25 (by omega) (by omega) (by omega) (by omega)
      rw [rR (by omega) (by omega) (by omega), b25]
      rintro _ rfl
      rw [ev] at hp
      refine ⟨fun q11 => ⟨fun _ => ?_, fun y => absurd rfl y⟩, fun q11 => ⟨fun y => absurd y (by decide), fun _ => ?_⟩⟩
      · rw [if_pos q11] at hp
        rintro _ rfl
        have hA3 := rAft_inc hA2 32 44 rfl (by omega) (by omega) (by omega) (by omega)
        have d44 : M_draw (M_s1 row) 44 = M_s1 row 44 := pk_un (by omega)
        rw [d44] at hA3
        rw [c12, c10, c7, c8]
        have m16 : upd (M_draw (M_s1 row)) 44 (M_s1 row 44 + 1) 16 = nI e := by
          rw [pk_un (by omega)]; unfold M_draw; rw [pk_un (by omega), o1 _ (by omega) (by omega)]; exact e16
        have m49b : upd (M_draw (M_s1 row)) 44 (M_s1 row 44 + 1) 49 = nI (drS s) := by
          rw [pk_un (by omega)]; unfold M_draw; rw [pk_us, m49]; unfold tN; rw [nI_clamp (by omega)]
        refine t8_damage hA3 c2 (by omega) c4 c5 m49b hlt m16 he (fun nb4 cby hA4 => ?_)
        rintro _ rfl
        unfold wp_X5_pieces
        refine ⟨nI_ne0 (by omega) (by omega), ?_⟩
        have hdl : (z + pb - 1) / pb ≤ z + pb - 1 := Nat.div_le_self _ _
        rw [nI_1, nI_add, rS (by omega), pk_div (by omega) (by omega) (by omega)]
        rintro _ rfl
        have eS2 : M_s2 (M_s1 row) = upd (M_dam (ov * pb) (min pb (z - ov * pb)) (upd (M_draw (M_s1 row)) 44 (M_s1 row 44 + 1))) 738 (nI (ov + 1)) := by
          unfold M_s2
          rw [o1 738 (by omega) (by omega), o1 737 (by omega) (by omega), o1 736 (by omega) (by omega), to, tp, tz, show row 738 = nI ov from c11, nI_1]
        rw [to, tz, tp, eS2] at hp
        have od : ∀ j, j ≠ 49 → j ≠ 45 → j ≠ 44 → j ≠ 27 → j ≠ 3385 + 4 * (cd - ln) + 1 → (j < 819 ∨ 899 ≤ j) → M_dam (ov * pb) (min pb (z - ov * pb)) (upd (M_draw (M_s1 row)) 44 (M_s1 row 44 + 1)) j = row j := fun j a b c d e2 f => by
          rw [dam_o (by omega) (by omega) a b f, pk_un c]; unfold M_draw; rw [pk_un a]; exact o1 j d e2
        generalize hr4 : M_dam (ov * pb) (min pb (z - ov * pb)) (upd (M_draw (M_s1 row)) 44 (M_s1 row 44 + 1)) = r4 at hA4 od hp
        have r736 : r4 736 = nI z := by rw [od _ (by omega) (by omega) (by omega) (by omega) (by omega) (by omega)]; exact c6
        have r737 : r4 737 = nI pb := by rw [od _ (by omega) (by omega) (by omega) (by omega) (by omega) (by omega)]; exact c9
        have r738 : r4 738 = nI ov := by rw [od _ (by omega) (by omega) (by omega) (by omega) (by omega) (by omega)]; exact c11
        refine ⟨fun y => ?_, fun y => ?_⟩
        · have hy := (nI_ltI (by omega) (by omega)).mp y
          rintro _ rfl _ rfl _ rfl
          rw [if_neg (by omega)] at hp
          exact hp ln hd bl _ _ _ _ _ _ _ _ _ _ _ _ _ _ _ (Nat.le_refl _) (by omega) (rAft_over hA4 r736 r737 r738 c2 c4 (pieces_lt (by omega) hy))
        · have hy : ¬ ov + 1 < (z + pb - 1) / pb := fun y2 => y ((nI_ltI (by omega) (by omega)).mpr y2)
          have heq := pieces_eq (by omega) c5 hy
          rw [if_pos heq] at hp
          obtain ⟨f1, f2, f3, z', pb', ov', d1, d2, d3, d4, d5, d6, d7, d8, d9, d10, d11, d12, d13, d14, d15, d16⟩ := rAft_0 hA4 h0
          have hnrec := rBook_n (k := cd - ln) hA4.2.2.1 hk
          obtain ⟨st, hh, sn, sl, q1, q2, q3, q4⟩ := hA4.2.2.1 (cd - ln) hk
          obtain ⟨st1, hsn⟩ := q4 (by omega) (by omega)
          obtain ⟨k1, k2, k3, k4, k5, k6, k7, k8, k9, k10⟩ := q1
          have hsl : sl = 0 := k9 (by omega)
          have b7 : nb4 7 = nI nx := (hA4.1 7 (by omega) (by omega) (by omega) (by omega)).trans hA4.2.2.2.2.2.2.2.2
          have b6 : nb4 6 = nI bl := hA4.2.2.2.2.2.2.2.1
          have b5' : nb4 5 = nI ln := rSnd_5 (rAft_S hA4)
          have hbuf := hA4.2.2.2.2.2.2.1
          have hcb : ∀ j, j < 80 → cby j = r4 (819 + j) := fun j hj => by
            have := d14 j hj
            rw [vu_s] at this
            exact this
          have hcv : ∀ j, j < 80 → cv (upd r4 738 (nI (ov + 1))) j = cby j := fun j hj => by
            unfold cv; rw [pk_un (by omega)]; exact (hcb j hj).symm
          have w736 : upd r4 738 (nI (ov + 1)) 736 = nI z := by rw [pk_un (by omega)]; exact r736
          have hokc : okC (upd r4 738 (nI (ov + 1))) ↔ (cby 0 = 156 ∧ cby 3 = chk cby z) := by
            unfold okC
            rw [hcv 0 (by omega), hcv 3 (by omega), w736, show tN (nI z) = z from nI_clamp (by omega), chk_c z (fun j hj _ _ => hcv j (by omega))]
          have wk : tN (upd r4 738 (nI (ov + 1)) 735) = cd - ln := by rw [pk_un (by omega), od _ (by omega) (by omega) (by omega) (by omega) (by omega) (by omega)]; exact tk
          have wx : upd r4 738 (nI (ov + 1)) 30 = nI nx := by rw [pk_un (by omega)]; exact hA4.2.2.2.2.2.2.2.2
          have wlev : lev (upd r4 738 (nI (ov + 1))) = bl := by rw [lev_c (r := r4) (fun j a b => pk_un (by omega)) (pk_un (by omega))]; exact hbuf.2.2.1
          have w25 : upd r4 738 (nI (ov + 1)) 25 = nI t := by rw [pk_un (by omega), od _ (by omega) (by omega) (by omega) (by omega) (by omega) (by omega)]; exact e25
          unfold M_looks at hp
          rw [wk, wx, show tN (nI nx) = nx from nI_clamp (by omega), wlev] at hp
          -- the front is no longer told; what is behind it stands
          have hA5 : ∀ (ps po : Nat → Int32) (cb5 : Nat → Nat → Int32) (cz : Nat → Int32), (∀ q, q ≠ hd → ps q = va_up psent hd (psent hd + 1) q ∧ po q = pover q ∧ cb5 q = va_up cb hd cby q ∧ cz q = csz q) → rAft (t + 1) cd nx ln ln hd bl hb 1 (cd - ln) nb4 (upd rec (cd - ln) (nI (n + 16))) dly pnum ps po ppb wb wsz cb5 cz bnum bcb bcsz (upd r4 738 (nI (ov + 1))) := fun ps po cb5 cz hq => rAft_fr hA4 (by omega) (fun q hq2 => ⟨rfl, (hq q hq2).1, (hq q hq2).2.1, rfl, rfl, rfl, (hq q hq2).2.2.1, (hq q hq2).2.2.2⟩) (fun j hj => pk_un (by omega)) (fun y2 => absurd y2 (by omega))
          generalize hr5 : upd r4 738 (nI (ov + 1)) = r5 at *
          have r5b : rBk (upd rec (cd - ln) (nI (n + 16))) r5 (cd - ln) st hh sn sl := by
            rw [← hr5]
            exact rBk_f ⟨k1, k2, k3, k4, k5, k6, k7, k8, k9, k10⟩ (fun j a b => pk_un (by omega)) rfl
          obtain ⟨p1, p2, p3, p4, p5, p6, p7, p8, p9, p10⟩ := r5b
          have hkt : 4 * (cd - ln) ≤ t := by omega
          have eN : n + 16 = st + 4 * hh + 16 * sn + 4096 * sl := by
            rw [pk_us] at p10
            exact (nI_eq (by omega) (by omega)).mp p10
          refine t8_endOf (nx := nx) (bl := bl) (ln := ln) (z := z) (n := n + 16) b7 b6 b5' h0 hln5 hd6 hbuf.2.1 hbuf.1 hk hx ht hkt c1 c2 pk_us (by omega) ?_ ?_ ?_ ?_
          · intro hno
            rintro _ rfl _ rfl _ rfl _ rfl
            rw [if_neg (fun y2 => hno (hokc.mp y2))] at hp
            refine hp ln hd bl _ _ _ _ _ _ _ _ _ _ _ _ _ _ _ (Nat.le_refl _) (by omega) ?_
            have hbk := rAft_brk (v := nI (ov + 1)) hA4 h0
            rw [hr5, vu_s] at hbk
            have ecb : va_up (va_up cb hd cby) hd (va_cpy (wb hd) cby 0 0 80) = va_up cb hd (va_cpy (wb hd) cby 0 0 80) := bx_uu _ _ _ _
            have ecz : va_up csz hd (wsz hd) = va_up csz hd (nI z) := by rw [c7]
            rw [ecb] at hbk
            rw [c7] at hbk
            exact hbk
          · intro hok hnk h12
            rintro _ rfl _ rfl _ rfl _ rfl
            rw [if_pos (hokc.mpr hok), if_pos hnk, if_pos h12] at hp
            refine hp (ln - 1) ((hd + 1) % 6) bl _ _ _ _ _ _ _ _ _ _ _ _ _ _ _ (by omega) (by omega) ?_
            have q1 := hA5 (va_up psent hd (psent hd + 1)) (va_up pover hd (nI (ov + 1))) (va_up cb hd cby) (va_up csz hd (nI z)) (fun q hq => ⟨rfl, vu_n hq, rfl, vu_n hq⟩)
            have q2 := rAft_bk (rec' := upd (upd rec (cd - ln) (nI (n + 16))) (cd - ln) (nI ((n + 16) / 4 * 4 + 3))) (row' := upd r5 (3385 + 4 * (cd - ln)) 3) q1 h0 (fun j hj => pk_un (by omega)) (fun j hj => pk_un hj) ⟨3, hh, sn, 0, ⟨by omega, p2, p3, by omega, pk_us, by rw [pk_un (by omega)]; exact p6, by rw [pk_un (by omega)]; exact p7, fun y2 => absurd y2 (by omega), fun _ => rfl, by rw [pk_us]; congr 1; omega⟩, q3⟩
            have q5 := rAft_inc q2 4 29 rfl (by omega) (by omega) (by omega) (by omega)
            rw [pk_un (show 29 ≠ 3385 + 4 * (cd - ln) by omega)] at q5
            have q6 := rAft_drop q5 h0
            have q7 : rAft (t + 1) cd nx (ln - 1) (ln - 1) ((hd + 1) % 6) bl hb 0 (cd - (ln - 1)) (upd (upd nb4 4 (nb4 4 + 1)) 5 (nI (ln - 1))) (upd (upd rec (cd - ln) (nI (n + 16))) (cd - ln) (nI ((n + 16) / 4 * 4 + 3))) dly pnum (va_up psent hd (psent hd + 1)) (va_up pover hd (nI (ov + 1))) ppb wb wsz (va_up cb hd cby) (va_up csz hd (nI z)) bnum bcb bcsz (M_drop (M_give (cd - ln) r5)) := by
              obtain ⟨u1, u2, u3, u4, u5, u6, u7, u8, u9⟩ := q6
              exact ⟨u1, u2, u3, u4, u5, u6, rBuf_f u7 (fun _ _ _ => rfl) rfl (by omega), u8, u9⟩
            exact q7
          · intro hok hnk
            rintro _ rfl _ rfl _ rfl _ rfl
            rw [if_pos (hokc.mpr hok), if_neg hnk] at hp
            refine hp (ln - 1) ((hd + 1) % 6) bl _ _ _ _ _ _ _ _ _ _ _ _ _ _ _ (by omega) (by omega) ?_
            have q1 := hA5 (va_up psent hd (psent hd + 1)) (va_up pover hd (nI (ov + 1))) (va_up cb hd cby) (va_up csz hd (nI z)) (fun q hq => ⟨rfl, vu_n hq, rfl, vu_n hq⟩)
            have q2 := rAft_bk (rec' := upd (upd rec (cd - ln) (nI (n + 16))) (cd - ln) (nI ((n + 16) / 4 * 4 + 2 + 4096 * (t + 1)))) (row' := upd (upd r5 (3385 + 4 * (cd - ln)) 2) (3385 + 4 * (cd - ln) + 3) (r5 25)) q1 h0 (fun j hj => by rw [pk_un (by omega), pk_un (by omega)]) (fun j hj => pk_un hj) ⟨2, hh, sn, t + 1, ⟨by omega, p2, p3, by omega, by rw [pk_un (by omega), pk_us]; rfl, by rw [pk_un (by omega), pk_un (by omega)]; exact p6, by rw [pk_un (by omega), pk_un (by omega)]; exact p7, fun _ => ⟨by omega, by rw [pk_us, w25, Nat.add_sub_cancel]⟩, fun y2 => absurd rfl y2, by rw [pk_us]; congr 1; omega⟩, q3⟩
            have q5 := rAft_inc q2 3 28 rfl (by omega) (by omega) (by omega) (by omega)
            rw [pk_un (show 28 ≠ 3385 + 4 * (cd - ln) + 3 by omega), pk_un (show 28 ≠ 3385 + 4 * (cd - ln) by omega)] at q5
            have q6 := rAft_del (m := min (t - 4 * (cd - ln)) 15) q5 (by omega)
            rw [pk_un (show 3369 + min (t - 4 * (cd - ln)) 15 ≠ 28 by omega), pk_un (show 3369 + min (t - 4 * (cd - ln)) 15 ≠ 3385 + 4 * (cd - ln) + 3 by omega), pk_un (show 3369 + min (t - 4 * (cd - ln)) 15 ≠ 3385 + 4 * (cd - ln) by omega)] at q6
            have eM : M_arr (cd - ln) r5 = upd (upd (upd (upd r5 (3385 + 4 * (cd - ln)) 2) (3385 + 4 * (cd - ln) + 3) (r5 25)) 28 (r5 28 + 1)) (3369 + min (t - 4 * (cd - ln)) 15) (r5 (3369 + min (t - 4 * (cd - ln)) 15) + 1) := by
              unfold M_arr; rw [w25, show tN (nI t) = t from nI_clamp (by omega)]
            rw [← eM] at q6
            have q7 := rAft_drop q6 h0
            obtain ⟨u1, u2, u3, u4, u5, u6, u7, u8, u9⟩ := q7
            exact ⟨u1, u2, u3, u4, u5, u6, rBuf_f u7 (fun _ _ _ => rfl) rfl (by omega), u8, u9⟩
          · intro hok hnk h12
            rintro _ rfl _ rfl _ rfl _ rfl
            rw [if_pos (hokc.mpr hok), if_pos hnk, if_neg (by omega), w736] at hp
            refine hp (ln - 1) ((hd + 1) % 6) (bl + 1) _ _ _ _ _ _ _ _ _ _ _ _ _ _ _ (by omega) (by omega) ?_
            have q1 := hA5 (va_up psent hd (psent hd + 1)) (va_up pover hd (nI (ov + 1))) (va_up cb hd cby) (va_up csz hd (nI z)) (fun q hq => ⟨rfl, vu_n hq, rfl, vu_n hq⟩)
            have q2 := rAft_bk (rec' := upd (upd rec (cd - ln) (nI (n + 16))) (cd - ln) (nI ((n + 16) / 4 * 4 + 2 + 4096 * (t + 1)))) (row' := upd (upd r5 (3385 + 4 * (cd - ln)) 2) (3385 + 4 * (cd - ln) + 3) (r5 25)) q1 h0 (fun j hj => by rw [pk_un (by omega), pk_un (by omega)]) (fun j hj => pk_un hj) ⟨2, hh, sn, t + 1, ⟨by omega, p2, p3, by omega, by rw [pk_un (by omega), pk_us]; rfl, by rw [pk_un (by omega), pk_un (by omega)]; exact p6, by rw [pk_un (by omega), pk_un (by omega)]; exact p7, fun _ => ⟨by omega, by rw [pk_us, w25, Nat.add_sub_cancel]⟩, fun y2 => absurd rfl y2, by rw [pk_us]; congr 1; omega⟩, q3⟩
            have q5 := rAft_inc q2 3 28 rfl (by omega) (by omega) (by omega) (by omega)
            rw [pk_un (show 28 ≠ 3385 + 4 * (cd - ln) + 3 by omega), pk_un (show 28 ≠ 3385 + 4 * (cd - ln) by omega)] at q5
            have q6 := rAft_del (m := min (t - 4 * (cd - ln)) 15) q5 (by omega)
            rw [pk_un (show 3369 + min (t - 4 * (cd - ln)) 15 ≠ 28 by omega), pk_un (show 3369 + min (t - 4 * (cd - ln)) 15 ≠ 3385 + 4 * (cd - ln) + 3 by omega), pk_un (show 3369 + min (t - 4 * (cd - ln)) 15 ≠ 3385 + 4 * (cd - ln) by omega)] at q6
            have eM : M_arr (cd - ln) r5 = upd (upd (upd (upd r5 (3385 + 4 * (cd - ln)) 2) (3385 + 4 * (cd - ln) + 3) (r5 25)) 28 (r5 28 + 1)) (3369 + min (t - 4 * (cd - ln)) 15) (r5 (3369 + min (t - 4 * (cd - ln)) 15) + 1) := by
              unfold M_arr; rw [w25, show tN (nI t) = t from nI_clamp (by omega)]
            rw [← eM] at q6
            have hby : isBy cby 80 := by rw [vu_s] at d16; exact d16
            have hcp : ∀ j, j < 80 → va_cpy cby (bcb ((hb + bl) % 12)) 0 0 80 j = cby j := fun j hj => by rw [pk_cpy_in (by omega) (by omega), Nat.sub_zero, Nat.zero_add]
            have q8 := rAft_store (F := va_cpy cby (bcb ((hb + bl) % 12)) 0 0 80) (bv := cv r5) q6 (Nat.le_refl _) hk hnk h12 c1 c2 (fun j hj => by rw [hcp j hj]; exact (hcv j hj).symm) (fun j hj => by rw [hcp j hj]; exact hby j hj)
            have q7 := rAft_drop q8 h0
            obtain ⟨u1, u2, u3, u4, u5, u6, u7, u8, u9⟩ := q7
            exact ⟨u1, u2, u3, u4, u5, u6, rBuf_f u7 (fun _ _ _ => rfl) rfl (by omega), u8, u9⟩
      · rw [if_neg q11] at hp
        rintro _ rfl
        exact hp ln hd bl _ _ _ _ _ _ _ _ _ _ _ _ _ _ _ (Nat.le_refl _) (by omega) hA2
    · rw [if_neg q48] at hp
      rintro _ rfl
      refine ⟨fun y => absurd y (by decide), fun _ => ?_⟩
      rintro _ rfl
      refine hp ln hd bl _ _ _ _ _ _ _ _ _ _ _ _ _ _ _ (Nat.le_refl _) (by omega) ?_
      rw [← b36]
      exact rAft_num hA1 36 _ (by omega) (by omega) (by omega) (by omega)
  · rw [if_neg h0]
    refine ⟨fun _ => ?_, fun j hj => absurd hj (by simp)⟩
    rintro _ rfl
    have hz : ln = 0 := by omega
    unfold M_send at hp
    have n51 : row 51 = 0 := by rw [e51, hz]; rfl
    rw [if_pos n51] at hp
    exact hp ln hd bl _ _ _ _ _ _ _ _ _ _ _ _ _ _ _ (Nat.le_refl _) (by omega) (rAft_t (rAft_inc h 35 47 rfl (by omega) (by omega) (by omega) (by omega)) (by omega))
