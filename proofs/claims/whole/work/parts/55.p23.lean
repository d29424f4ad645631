/-! pure part 23: what holds of the sender's side, step by step -/
theorem vu_s {α : Type} {f : Nat → α} {k : Nat} {v : α} : va_up f k v k = v := if_pos rfl
theorem vu_n {α : Type} {f : Nat → α} {k j : Nat} {v : α} (h : j ≠ k) : va_up f k v j = f j := if_neg h
def rDel (dly row : Nat → Int32) : Prop := ∀ n, n < 16 → dly n = row (3369 + n)
def rBfE (k q s : Nat) (bcb : Nat → Nat → Int32) (bcsz row : Nat → Int32) : Prop := row (2095 + 83 * s) = nI (k + 1) ∧ ∃ z, 13 ≤ z ∧ z ≤ 77 ∧ row (2095 + 83 * s + 1) = nI z ∧ bcsz q = nI z ∧ (∀ j, j < 80 → row (2095 + 83 * s + 2 + j) = bcb q j) ∧ isBy (bcb q) 80
def rBuf (bl hb nx fr : Nat) (bnum : Nat → Int32) (bcb : Nat → Nat → Int32) (bcsz : Nat → Int32) (row : Nat → Int32) : Prop := bl ≤ 12 ∧ hb < 12 ∧ lev row = bl ∧ (∀ s, s < 14 → ∃ v, v ≤ 2500 ∧ row (2095 + 83 * s) = nI v) ∧ (∀ s s', s < 14 → s' < 14 → ¬ row (2095 + 83 * s) ≤ row 30 → row (2095 + 83 * s') = row (2095 + 83 * s) → s' = s) ∧ ∃ bn : Nat → Nat, (∀ i, i < bl → bnum ((hb + i) % 12) = nI (bn i) ∧ nx ≤ bn i ∧ bn i < fr ∧ ∃ s, s < 14 ∧ rBfE (bn i) ((hb + i) % 12) s bcb bcsz row) ∧ (∀ i j, i < j → j < bl → bn i < bn j) ∧ (∀ s, s < 14 → ¬ row (2095 + 83 * s) ≤ row 30 → ∃ i, i < bl ∧ row (2095 + 83 * s) = nI (bn i + 1))
theorem rBuf_f {bl hb nx fr fr' : Nat} {bnum : Nat → Int32} {bcb : Nat → Nat → Int32} {bcsz : Nat → Int32} {row row' : Nat → Int32} (h : rBuf bl hb nx fr bnum bcb bcsz row) (e : ∀ j, 2095 ≤ j → j < 3257 → row' j = row j) (e30 : row' 30 = row 30) (hf : fr ≤ fr') : rBuf bl hb nx fr' bnum bcb bcsz row' := by
  obtain ⟨h1, h2, h3, h4, h5, bn, h6, h7, h8⟩ := h
  refine ⟨h1, h2, by rw [lev_c e e30]; exact h3, fun s hs => ?_, fun s s' hs hs' => ?_, bn, fun i hi => ?_, h7, fun s hs => ?_⟩
  · rw [e _ (by omega) (by omega)]; exact h4 s hs
  · rw [e (2095 + 83 * s) (by omega) (by omega), e (2095 + 83 * s') (by omega) (by omega), e30]; exact h5 s s' hs hs'
  · obtain ⟨a, b, c, s, hs, d1, z, d2, d3, d4, d5, d6, d7⟩ := h6 i hi
    refine ⟨a, b, by omega, s, hs, by rw [e _ (by omega) (by omega)]; exact d1, z, d2, d3, by rw [e _ (by omega) (by omega)]; exact d4, d5, fun j hj => ?_, d7⟩
    rw [e _ (by omega) (by omega)]; exact d6 j hj
  · rw [e _ (by omega) (by omega), e30]; exact h8 s hs
def rAft (t cd nx ln lb hd bl hb lo fr : Nat) (nb rec dly : Nat → Int32) (pnum psent pover ppb : Nat → Int32) (wb : Nat → Nat → Int32) (wsz : Nat → Int32) (cb : Nat → Nat → Int32) (csz : Nat → Int32) (bnum : Nat → Int32) (bcb : Nat → Nat → Int32) (bcsz : Nat → Int32) (row : Nat → Int32) : Prop := rNum nb row ∧ rFlag nb row cd ln ∧ rBook rec row t cd nx lb ∧ (lnN ln cd row ∧ hd < 6) ∧ (∀ i, lo ≤ i → i < ln → rLn (cd - ln + i) (735 + 170 * i) ((hd + i) % 6) pnum psent pover ppb wb wsz cb csz row) ∧ rDel dly row ∧ rBuf bl hb nx fr bnum bcb bcsz row ∧ nb 6 = nI bl ∧ row 30 = nI nx
theorem rBook_f {rec row row' : Nat → Int32} {t cd nx ln : Nat} (h : rBook rec row t cd nx ln) (e : ∀ j, 3385 ≤ j → j < 13385 → row' j = row j) : rBook rec row' t cd nx ln := by
  intro k hk
  obtain ⟨st, hh, sn, sl, q1, q2⟩ := h k hk
  exact ⟨st, hh, sn, sl, rBk_f q1 (fun j a b => e j (by omega) (by omega)) rfl, q2⟩
theorem lnN_f {ln cd : Nat} {row row' : Nat → Int32} (h : lnN ln cd row) (e51 : row' 51 = row 51) (e : ∀ i, i < 5 → row' (735 + 170 * i) = row (735 + 170 * i)) : lnN ln cd row' := by
  obtain ⟨h1, h2, h3, h4, h5⟩ := h
  exact ⟨by rw [e51]; exact h1, h2, h3, h4, fun i hi => by rw [e i (by omega)]; exact h5 i hi⟩
/-- a number of both sides changes -/
theorem rAft_num {t cd nx ln lb hd bl hb lo fr : Nat} {nb rec dly : Nat → Int32} {pnum psent pover ppb : Nat → Int32} {wb : Nat → Nat → Int32} {wsz : Nat → Int32} {cb : Nat → Nat → Int32} {csz : Nat → Int32} {bnum : Nat → Int32} {bcb : Nat → Nat → Int32} {bcsz : Nat → Int32} {row : Nat → Int32} (h : rAft t cd nx ln lb hd bl hb lo fr nb rec dly pnum psent pover ppb wb wsz cb csz bnum bcb bcsz row) (j : Nat) (v : Int32) (hj : j < 37 + 1) (h5 : j ≠ 5) (h6 : j ≠ 6) (h7 : j ≠ 7) : rAft t cd nx ln lb hd bl hb lo fr (upd nb j v) rec dly pnum psent pover ppb wb wsz cb csz bnum bcb bcsz (upd row (hm j) v) := by
  obtain ⟨a1, ⟨ms, f1, f2, f3⟩, a3, ⟨a4, a5⟩, a6, a7, a8, a9, a10⟩ := h
  have hlt := hm_lt j (by omega) h6 (by omega) (by omega)
  have h50 := hm_50 j (by omega)
  have h51 : hm j ≠ 51 := fun q => h5 (hm_inj j (by omega) 5 (by omega) q)
  have h30 : hm j ≠ 30 := fun q => h7 (hm_inj j (by omega) 7 (by omega) q)
  refine ⟨rNum_u a1 (by omega), ⟨ms, f1, by rw [pk_un (by omega)]; exact f2, by rw [pk_un (by omega)]; exact f3⟩, rBook_f a3 (fun i b c => pk_un (by omega)), ⟨lnN_f a4 (pk_un (by omega)) (fun i hi => pk_un (by omega)), a5⟩, fun i b c => rLn_f (a6 i b c) (fun x hx => pk_un (by omega)) (pk_un (by omega)), fun n hn => by rw [pk_un (by omega)]; exact a7 n hn, rBuf_f a8 (fun i b c => pk_un (by omega)) (pk_un (by omega)) (Nat.le_refl _), by rw [pk_un (by omega)]; exact a9, by rw [pk_un (by omega)]; exact a10⟩
theorem ring_ne {hd i j n : Nat} (hn : i < n) (hj : j < n) (h : i ≠ j) : (hd + i) % n ≠ (hd + j) % n := by
  intro q
  have h1 := Nat.div_add_mod (hd + i) n
  have h2 := Nat.div_add_mod (hd + j) n
  rw [q] at h1
  rcases Nat.lt_trichotomy ((hd + i) / n) ((hd + j) / n) with y | y | y
  · have h3 : n * ((hd + i) / n) + n ≤ n * ((hd + j) / n) := by rw [← Nat.mul_succ]; exact Nat.mul_le_mul_left _ y
    omega
  · rw [y] at h1; omega
  · have h3 : n * ((hd + j) / n) + n ≤ n * ((hd + i) / n) := by rw [← Nat.mul_succ]; exact Nat.mul_le_mul_left _ y
    omega
/-- one of the first in line is SENT -/
theorem rAft_sent {t cd nx ln hd bl hb fr n : Nat} {nb rec dly : Nat → Int32} {pnum psent pover ppb : Nat → Int32} {wb : Nat → Nat → Int32} {wsz : Nat → Int32} {cb : Nat → Nat → Int32} {csz : Nat → Int32} {bnum : Nat → Int32} {bcb : Nat → Nat → Int32} {bcsz : Nat → Int32} {row : Nat → Int32} (h : rAft t cd nx ln ln hd bl hb 0 fr nb rec dly pnum psent pover ppb wb wsz cb csz bnum bcb bcsz row) (h0 : 0 < ln) (hn : rec (cd - ln) = nI n) (hn2 : n < 2 ^ 27) (ht : t < 4 * (cd - ln) + 16) : rAft (t + 1) cd nx ln ln hd bl hb 0 fr (upd nb 2 (nb 2 + 1)) (upd rec (cd - ln) (nI (n + 16))) dly pnum (va_up psent hd (psent hd + 1)) pover ppb wb wsz cb csz bnum bcb bcsz (M_s1 row) := by
  obtain ⟨a1, ⟨ms, f1, f2, f3⟩, a3, ⟨a4, a5⟩, a6, a7, a8, a9, a10⟩ := h
  have ek := lnN_0 a4 h0
  have hlc := a4.2.2
  have hl5 := a4.2.1
  have hk : cd - ln < 2500 := by omega
  have tk : tN (row 735) = cd - ln := by rw [ek]; exact nI_clamp (by omega)
  have e27 : nb 2 = row 27 := a1 2 (by omega) (by omega) (by omega) (by omega)
  have o : ∀ j, j ≠ 27 → j ≠ 3385 + 4 * (cd - ln) + 1 → M_s1 row j = row j := fun j b c => s1_o ek hk b c
  have s1 : M_s1 row (3385 + 4 * (cd - ln) + 1) = row (3385 + 4 * (cd - ln) + 1) + 1 := by unfold M_s1; rw [tk, pk_us]
  refine ⟨?_, ⟨ms, f1, by rw [o _ (by omega) (by omega)]; exact f2, by rw [pk_un (by omega)]; exact f3⟩, ?_, ⟨lnN_f a4 (o _ (by omega) (by omega)) (fun i hi => o _ (by omega) (by omega)), a5⟩, ?_, fun n hn => by rw [o _ (by omega) (by omega)]; exact a7 n hn, rBuf_f a8 (fun i b c => o _ (by omega) (by omega)) (o _ (by omega) (by omega)) (Nat.le_refl _), by rw [pk_un (by omega)]; exact a9, by rw [o _ (by omega) (by omega)]; exact a10⟩
  · refine rNum_f (rNum_u (j := 2) (v := nb 2 + 1) a1 (by omega)) (fun j hj => ?_) (fun j _ _ _ => rfl)
    by_cases b : j = 27
    · rw [b, show hm 2 = 27 from rfl, pk_us, e27]; unfold M_s1; rw [pk_un (by omega), pk_us]
    · rw [show hm 2 = 27 from rfl, pk_un b]; exact o j b (by omega)
  · intro k hk2
    obtain ⟨st, hh, sn, sl, q1, q2, q3, q4⟩ := a3 k hk2
    by_cases e : k = cd - ln
    · subst e
      obtain ⟨st1, hsn⟩ := q4 (by omega) (by omega)
      obtain ⟨b1, b2, b3, b4, b5, b6, b7, b8, b9, b10⟩ := q1
      have en : n = st + 4 * hh + 16 * sn + 4096 * sl := (nI_eq (by omega) (by omega)).mp (hn.symm.trans b10)
      refine ⟨st, hh, sn + 1, sl, ⟨b1, b2, by omega, b4, by rw [o _ (by omega) (by omega)]; exact b5, by rw [s1, b6, nI_1], by rw [o _ (by omega) (by omega)]; exact b7, fun z => ⟨(b8 z).1, by rw [o _ (by omega) (by omega)]; exact (b8 z).2⟩, b9, by rw [pk_us]; congr 1; omega⟩, fun z => absurd z (by omega), q3, fun _ _ => ⟨st1, by omega⟩⟩
    · exact ⟨st, hh, sn, sl, rBk_f q1 (fun j j1 j2 => o _ (by omega) (by omega)) (pk_un e), q2, q3, fun z1 z2 => ⟨(q4 z1 z2).1, by have := (q4 z1 z2).2; omega⟩⟩
  · intro i b c
    have q := a6 i b c
    obtain ⟨g1, g2, g3, g4⟩ := q
    by_cases i0 : i = 0
    · subst i0
      simp only [Nat.add_zero, Nat.mul_zero, Nat.mod_eq_of_lt a5] at g1 g2 g3 g4 ⊢
      have q2 : rLn (cd - ln) 735 hd pnum (va_up psent hd (psent hd + 1)) pover ppb wb wsz cb csz (M_s1 row) := by
        have hmain := g4
        obtain ⟨z, pb, ov, c1, c2, c3, c4, c5, c6, c7, c8, c9, c10, c11, c12, c13, c14, c15, c16⟩ := hmain
        refine ⟨g1, by rw [o _ (by omega) (by omega)]; exact g2, by rw [vu_s, s1, g3], z, pb, ov, c1, c2, c3, c4, c5, by rw [o _ (by omega) (by omega)]; exact c6, c7, c8, by rw [o _ (by omega) (by omega)]; exact c9, c10, by rw [o _ (by omega) (by omega)]; exact c11, c12, fun j hj => by rw [o _ (by omega) (by omega)]; exact c13 j hj, fun j hj => by rw [o _ (by omega) (by omega)]; exact c14 j hj, c15, c16⟩
      exact q2
    · have hne : (hd + i) % 6 ≠ hd := by
        have := ring_ne (hd := hd) (i := i) (j := 0) (n := 6) (by omega) (by omega) i0
        rw [Nat.add_zero, Nat.mod_eq_of_lt a5] at this
        exact this
      have q3 := rLn_f (a' := 735 + 170 * i) (row' := M_s1 row) (a6 i b c) (fun x hx => o _ (by omega) (by omega)) (o _ (by omega) (by omega))
      obtain ⟨d1, d2, d3, d4⟩ := q3
      exact ⟨d1, d2, by rw [vu_n hne]; exact d3, d4⟩
