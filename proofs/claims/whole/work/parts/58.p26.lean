/-! pure part 26: the class sends -/
theorem rAft_t {t t' cd nx ln lb hd bl hb lo fr : Nat} {nb rec dly : Nat → Int32} {pnum psent pover ppb : Nat → Int32} {wb : Nat → Nat → Int32} {wsz : Nat → Int32} {cb : Nat → Nat → Int32} {csz : Nat → Int32} {bnum : Nat → Int32} {bcb : Nat → Nat → Int32} {bcsz : Nat → Int32} {row : Nat → Int32} (h : rAft t cd nx ln lb hd bl hb lo fr nb rec dly pnum psent pover ppb wb wsz cb csz bnum bcb bcsz row) (ht : t ≤ t') : rAft t' cd nx ln lb hd bl hb lo fr nb rec dly pnum psent pover ppb wb wsz cb csz bnum bcb bcsz row := by
  obtain ⟨a1, a2, a3, a4⟩ := h
  refine ⟨a1, a2, fun k hk => ?_, a4⟩
  obtain ⟨st, hh, sn, sl, q1, q2, q3, q4⟩ := a3 k hk
  exact ⟨st, hh, sn, sl, q1, q2, q3, fun z1 z2 => ⟨(q4 z1 z2).1, by have := (q4 z1 z2).2; omega⟩⟩
theorem vu_id {α : Type} (f : Nat → α) (k : Nat) : va_up f k (f k) = f := by
  funext j; unfold va_up; by_cases h : j = k
  · rw [if_pos h, h]
  · rw [if_neg h]
/-- class: a number changes; reference: the row's place of it; with the same value told by either -/
theorem rAft_inc {t cd nx ln lb hd bl hb lo fr : Nat} {nb rec dly : Nat → Int32} {pnum psent pover ppb : Nat → Int32} {wb : Nat → Nat → Int32} {wsz : Nat → Int32} {cb : Nat → Nat → Int32} {csz : Nat → Int32} {bnum : Nat → Int32} {bcb : Nat → Nat → Int32} {bcsz : Nat → Int32} {row : Nat → Int32} (h : rAft t cd nx ln lb hd bl hb lo fr nb rec dly pnum psent pover ppb wb wsz cb csz bnum bcb bcsz row) (j p : Nat) (hp : hm j = p) (hj : j < 37 + 1) (h5 : j ≠ 5) (h6 : j ≠ 6) (h7 : j ≠ 7) : rAft t cd nx ln lb hd bl hb lo fr (upd nb j (nb j + 1)) rec dly pnum psent pover ppb wb wsz cb csz bnum bcb bcsz (upd row p (row p + 1)) := by
  subst hp
  have e : nb j = row (hm j) := h.1 j (by omega) h6 (by omega) (by omega)
  rw [← e]; exact rAft_num h j _ hj h5 h6 h7
theorem rAft_draw {t cd nx ln lb hd bl hb lo fr s : Nat} {nb rec dly : Nat → Int32} {pnum psent pover ppb : Nat → Int32} {wb : Nat → Nat → Int32} {wsz : Nat → Int32} {cb : Nat → Nat → Int32} {csz : Nat → Int32} {bnum : Nat → Int32} {bcb : Nat → Nat → Int32} {bcsz : Nat → Int32} {row : Nat → Int32} (h : rAft t cd nx ln lb hd bl hb lo fr nb rec dly pnum psent pover ppb wb wsz cb csz bnum bcb bcsz row) (e : row 49 = nI s) (hs : s < 1000003) : rAft t cd nx ln lb hd bl hb lo fr (upd nb 37 (nI (drS s))) rec dly pnum psent pover ppb wb wsz cb csz bnum bcb bcsz (M_draw row) := by
  have ts : tN (row 49) = s := by rw [e]; exact nI_clamp (by omega)
  unfold M_draw; rw [ts]
  exact rAft_num h 37 _ (by omega) (by omega) (by omega) (by omega)
set_option maxHeartbeats 4000000 in
set_option maxRecDepth 100000 in
theorem t8_damage {t cd nx ln lb hd bl hb fr z pb ov s e : Nat} {nb rec dly : Nat → Int32} {pnum psent pover ppb : Nat → Int32} {wb : Nat → Nat → Int32} {wsz : Nat → Int32} {cb : Nat → Nat → Int32} {csz : Nat → Int32} {bnum : Nat → Int32} {bcb : Nat → Nat → Int32} {bcsz : Nat → Int32} {row : Nat → Int32} {post : (Nat → Int32) → (Nat → Int32) → Prop} (h : rAft t cd nx ln lb hd bl hb 0 fr nb rec dly pnum psent pover ppb wb wsz cb csz bnum bcb bcsz row) (hz2 : z ≤ 77) (hp1 : 1 ≤ pb) (hp2 : pb ≤ 80) (ho : ov * pb < z) (e49 : row 49 = nI s) (hs : s < 1000003) (e16 : row 16 = nI e) (he : e ≤ 1000)
    (hp : ∀ nb' cby' : Nat → Int32, rAft t cd nx ln lb hd bl hb 0 fr nb' rec dly pnum psent pover ppb wb wsz (va_up cb hd cby') csz bnum bcb bcsz (M_dam (ov * pb) (min pb (z - ov * pb)) row) → post nb' cby') : wp_X8_perhapsDamage nb (nI ov) (nI pb) (nI z) (nI z) (cb hd) post := by
  have hov : ov ≤ ov * pb := Nat.le_mul_of_pos_right _ (by omega)
  have ts : tN (row 49) = s := by rw [e49]; exact nI_clamp (by omega)
  have b30 : nb 30 = nI e := (h.1 30 (by omega) (by omega) (by omega) (by omega)).trans e16
  have b37 : nb 37 = nI s := (h.1 37 (by omega) (by omega) (by omega) (by omega)).trans e49
  have hlt := drS_lt s
  unfold wp_X8_perhapsDamage
  unfold M_dam at hp
  rw [b30]
  refine ⟨fun q => ?_, fun q => ?_⟩
  · have h0 : e = 0 := by have := (nI_leI (b := 0) (by omega) (by omega)).mp q; omega
    refine hp nb (cb hd) ?_
    rw [if_pos (by rw [e16, h0]; rfl), vu_id]; exact h
  · have h0 : ¬ row 16 = 0 := fun y => q (by rw [e16] at y; rw [y]; decide)
    refine t8_draw b37 hs ?_
    have hd1 := rAft_draw h e49 hs
    have ev : drV row = drS s / 16 := by unfold drV; rw [ts]
    rw [pk_un (by omega), b30, rR (by omega) (by omega) (by omega)]
    rintro _ rfl
    refine ⟨fun y => ?_, fun y => ?_⟩
    · have hy := (nI_leI (by omega) (by omega)).mp y
      refine hp _ (cb hd) ?_
      rw [if_neg h0, if_neg (by rw [ev, e16]; exact nI_nlt hy (by omega)), vu_id]
      exact hd1
    · have hy : drS s / 16 % 1000 < e := by
        rcases Nat.lt_or_ge (drS s / 16 % 1000) e with y2 | y2
        · exact y2
        · exact absurd ((nI_leI (by omega) (by omega)).mpr y2) y
      rintro _ rfl
      have hd2 := rAft_inc hd1 33 45 rfl (by omega) (by omega) (by omega) (by omega)
      have e45 : M_draw row 45 = row 45 := pk_un (by omega)
      rw [e45] at hd2
      refine t8_draw (s := drS s) (by rw [pk_un (by omega), pk_us]) hlt ?_
      have hlt2 := drS_lt (drS s)
      have r49 : upd (M_draw row) 45 (row 45 + 1) 49 = nI (drS s) := by rw [pk_un (by omega)]; unfold M_draw; rw [pk_us, ts]
      have ev2 : drV (upd (M_draw row) 45 (row 45 + 1)) = drS (drS s) / 16 := by unfold drV; rw [r49]; unfold tN; rw [nI_clamp (by omega)]
      have hd3 := rAft_draw hd2 r49 hlt
      generalize hr2 : upd (M_draw row) 45 (row 45 + 1) = r2 at hd3 ev2 hp
      unfold wp_X5_bitsOfNextPiece
      have ej : jmin (nI pb) (nI z - nI ov * nI pb) = nI (min pb (z - ov * pb)) := by
        rw [pk_mul, pk_sub (by omega)]
        unfold jmin
        by_cases q2 : z - ov * pb < pb
        · rw [if_pos (nI_lt q2 (by omega)), Nat.min_eq_right (by omega)]
        · rw [if_neg (nI_nlt (by omega) (by omega)), Nat.min_eq_left (by omega)]
      rw [ej]
      rintro _ rfl
      have hmn : 0 < min pb (z - ov * pb) := by omega
      have hmx : jmax 1 (8 * nI (min pb (z - ov * pb))) = nI (8 * min pb (z - ov * pb)) := by
        rw [lM]; exact if_pos ((nI_ltI (a := 1) (by omega) (by omega)).mpr (by omega))
      rw [hmx]
      rintro _ rfl
      refine ⟨nI_ne0 (by omega) (by omega), ?_⟩
      have er : jrem (nI (drS (drS s) / 16)) (nI (8 * min pb (z - ov * pb))) = nI (drS (drS s) / 16 % (8 * min pb (z - ov * pb))) := pk_rem (by omega) (by omega) (by omega)
      have hat : drS (drS s) / 16 % (8 * min pb (z - ov * pb)) < 8 * min pb (z - ov * pb) := Nat.mod_lt _ (by omega)
      rw [er]
      rintro _ rfl
      generalize hA : drS (drS s) / 16 % (8 * min pb (z - ov * pb)) = A at hat ⊢
      unfold wp_X5_damageNextPiece wp_X1_turnRound
      have ei : ((8 : Int32) * nI ov) * nI pb + nI A = nI (8 * (ov * pb) + A) := by rw [lM, pk_mul, nI_add, Nat.mul_assoc]
      rw [ei]
      refine ⟨fun y2 => absurd y2 (nI_pos (by omega)), fun _ => ⟨fun y2 => ?_, fun _ => ?_⟩⟩
      · rw [lM] at y2
        have := (nI_leI (by omega) (by omega)).mp y2
        omega
      · have hq : (8 * (ov * pb) + A) / 8 = ov * pb + A / 8 := by omega
        have hm8 : (8 * (ov * pb) + A) % 8 = A % 8 := by omega
        simp (disch := omega) only [rD, rR, lS, nI_clamp, vpT, true_and, forall_eq]
        refine hp _ _ ?_
        rw [if_neg h0, if_pos (by rw [ev, e16]; exact nI_lt hy (by omega)), hq, hm8]
        have hf := rAft_flip (p := ov * pb + A / 8) (e := A % 8) hd3 (by omega) (by omega)
        have eD : M_dam2 (ov * pb) (min pb (z - ov * pb)) r2 = upd (M_draw r2) (819 + (ov * pb + A / 8)) (M_draw r2 (819 + (ov * pb + A / 8)) ^^^ ((1 : Int32) <<< (nI (7 - A % 8) &&& 31))) := by
          unfold M_dam2 dmA
          rw [ev2, hA, show 819 + ov * pb + A / 8 = 819 + (ov * pb + A / 8) by omega]
          congr 1
          unfold M_draw
          rw [pk_un (by omega)]
        rw [eD]; exact hf
