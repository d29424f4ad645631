/-! pure part 24: more steps of the sender's side -/
theorem rLn_q {k a q : Nat} {pnum psent pover ppb : Nat → Int32} {wb : Nat → Nat → Int32} {wsz : Nat → Int32} {cb : Nat → Nat → Int32} {csz : Nat → Int32} {pnum' psent' pover' ppb' : Nat → Int32} {wb' : Nat → Nat → Int32} {wsz' : Nat → Int32} {cb' : Nat → Nat → Int32} {csz' row : Nat → Int32} (h : rLn k a q pnum psent pover ppb wb wsz cb csz row) (e : pnum' q = pnum q ∧ psent' q = psent q ∧ pover' q = pover q ∧ ppb' q = ppb q ∧ wb' q = wb q ∧ wsz' q = wsz q ∧ cb' q = cb q ∧ csz' q = csz q) : rLn k a q pnum' psent' pover' ppb' wb' wsz' cb' csz' row := by
  obtain ⟨e1, e2, e3, e4, e5, e6, e7, e8⟩ := e
  unfold rLn at h ⊢
  rw [e1, e2, e3, e4, e5, e6, e7, e8]; exact h
theorem rAft_fr {t cd nx ln lb hd bl hb lo lo' fr : Nat} {nb rec dly : Nat → Int32} {pnum psent pover ppb : Nat → Int32} {wb : Nat → Nat → Int32} {wsz : Nat → Int32} {cb : Nat → Nat → Int32} {csz : Nat → Int32} {pnum' psent' pover' ppb' : Nat → Int32} {wb' : Nat → Nat → Int32} {wsz' : Nat → Int32} {cb' : Nat → Nat → Int32} {csz' : Nat → Int32} {bnum : Nat → Int32} {bcb : Nat → Nat → Int32} {bcsz : Nat → Int32} {row row' : Nat → Int32} (h : rAft t cd nx ln lb hd bl hb lo fr nb rec dly pnum psent pover ppb wb wsz cb csz bnum bcb bcsz row) (hlo : lo ≤ 1)
    (eL : ∀ q, q ≠ hd → pnum' q = pnum q ∧ psent' q = psent q ∧ pover' q = pover q ∧ ppb' q = ppb q ∧ wb' q = wb q ∧ wsz' q = wsz q ∧ cb' q = cb q ∧ csz' q = csz q) (er : ∀ j, (j ≤ 735 ∨ 905 ≤ j) → row' j = row j) (hf : lo' = 0 → 0 < ln → rLn (cd - ln) 735 hd pnum' psent' pover' ppb' wb' wsz' cb' csz' row') : rAft t cd nx ln lb hd bl hb lo' fr nb rec dly pnum' psent' pover' ppb' wb' wsz' cb' csz' bnum bcb bcsz row' := by
  obtain ⟨a1, ⟨ms, f1, f2, f3⟩, a3, ⟨a4, a5⟩, a6, a7, a8, a9, a10⟩ := h
  have hl5 := a4.2.1
  refine ⟨rNum_f a1 (fun j hj => er j (by omega)) (fun _ _ _ _ => rfl), ⟨ms, f1, by rw [er _ (by omega)]; exact f2, f3⟩, rBook_f a3 (fun j b c => er j (by omega)), ⟨lnN_f a4 (er _ (by omega)) (fun i hi => er _ (by omega)), a5⟩, fun i b c => ?_, fun n hn => by rw [er _ (by omega)]; exact a7 n hn, rBuf_f a8 (fun j b c => er j (by omega)) (er _ (by omega)) (Nat.le_refl _), a9, by rw [er _ (by omega)]; exact a10⟩
  by_cases i0 : i = 0
  · subst i0
    have q := hf (by omega) c
    simp only [Nat.add_zero, Nat.mul_zero, Nat.mod_eq_of_lt a5]
    exact q
  · have hne : (hd + i) % 6 ≠ hd := by
      have := ring_ne (hd := hd) (i := i) (j := 0) (n := 6) (by omega) (by omega) i0
      rw [Nat.add_zero, Nat.mod_eq_of_lt a5] at this
      exact this
    have q := rLn_q (a6 i (by omega) c) (eL _ hne)
    exact rLn_f q (fun x hx => er _ (by omega)) (er _ (by omega))
theorem shx : ∀ e, e < 8 → ((1 : Int32) <<< (nI (7 - e) &&& 31)) = nI (2 ^ (7 - e)) ∧ 2 ^ (7 - e) < 256 := by decide +kernel
theorem flip_by {f : Nat → Int32} {p e N : Nat} (h : isBy f N) (hp : p < N) (he : e < 8) : isBy (upd f p (f p ^^^ ((1 : Int32) <<< (nI (7 - e) &&& 31)))) N := by
  intro j hj
  by_cases q : j = p
  · subst q
    obtain ⟨n, hn, e1⟩ := h j hj
    obtain ⟨s1, s2⟩ := shx e he
    rw [pk_us, e1, s1, fb_xorI]
    exact ⟨_, Nat.xor_lt_two_pow (n := 8) hn s2, rfl⟩
  · rw [pk_un q]; exact h j hj
theorem rAft_0 {t cd nx ln lb hd bl hb fr : Nat} {nb rec dly : Nat → Int32} {pnum psent pover ppb : Nat → Int32} {wb : Nat → Nat → Int32} {wsz : Nat → Int32} {cb : Nat → Nat → Int32} {csz : Nat → Int32} {bnum : Nat → Int32} {bcb : Nat → Nat → Int32} {bcsz : Nat → Int32} {row : Nat → Int32} (h : rAft t cd nx ln lb hd bl hb 0 fr nb rec dly pnum psent pover ppb wb wsz cb csz bnum bcb bcsz row) (h0 : 0 < ln) : rLn (cd - ln) 735 hd pnum psent pover ppb wb wsz cb csz row := by
  have q := h.2.2.2.2.1 0 (by omega) h0
  simp only [Nat.add_zero, Nat.mul_zero, Nat.mod_eq_of_lt h.2.2.2.1.2] at q
  exact q
theorem rAft_flip {t cd nx ln lb hd bl hb fr p e : Nat} {nb rec dly : Nat → Int32} {pnum psent pover ppb : Nat → Int32} {wb : Nat → Nat → Int32} {wsz : Nat → Int32} {cb : Nat → Nat → Int32} {csz : Nat → Int32} {bnum : Nat → Int32} {bcb : Nat → Nat → Int32} {bcsz : Nat → Int32} {row : Nat → Int32} (h : rAft t cd nx ln lb hd bl hb 0 fr nb rec dly pnum psent pover ppb wb wsz cb csz bnum bcb bcsz row) (hp : p < 80) (he : e < 8) : rAft t cd nx ln lb hd bl hb 0 fr nb rec dly pnum psent pover ppb wb wsz (va_up cb hd (upd (cb hd) p (cb hd p ^^^ ((1 : Int32) <<< (nI (7 - e) &&& 31))))) csz bnum bcb bcsz (upd row (819 + p) (row (819 + p) ^^^ ((1 : Int32) <<< (nI (7 - e) &&& 31)))) := by
  refine rAft_fr h (by omega) (fun q hq => ⟨rfl, rfl, rfl, rfl, rfl, rfl, vu_n hq, rfl⟩) (fun j hj => pk_un (by omega)) (fun _ h0 => ?_)
  have hk := h.2.2.2.1.1
  have hk1 := hk.2.2
  obtain ⟨g1, g2, g3, z, pb, ov, c1, c2, c3, c4, c5, c6, c7, c8, c9, c10, c11, c12, c13, c14, c15, c16⟩ := rAft_0 h h0
  refine ⟨g1, by rw [pk_un (by omega)]; exact g2, by rw [pk_un (by omega)]; exact g3, z, pb, ov, c1, c2, c3, c4, c5, by rw [pk_un (by omega)]; exact c6, c7, c8, by rw [pk_un (by omega)]; exact c9, c10, by rw [pk_un (by omega)]; exact c11, c12, fun j hj => by rw [pk_un (by omega)]; exact c13 j hj, fun j hj => ?_, c15, by rw [vu_s]; exact flip_by c16 hp he⟩
  rw [vu_s]
  by_cases q : j = p
  · rw [q, pk_us, show 735 + 84 + p = 819 + p by omega, pk_us, c14 p hp]
  · rw [pk_un q, pk_un (by omega)]; exact c14 j hj
theorem rAft_over {t cd nx ln lb hd bl hb fr : Nat} {nb rec dly : Nat → Int32} {pnum psent pover ppb : Nat → Int32} {wb : Nat → Nat → Int32} {wsz : Nat → Int32} {cb : Nat → Nat → Int32} {csz : Nat → Int32} {bnum : Nat → Int32} {bcb : Nat → Nat → Int32} {bcsz : Nat → Int32} {row : Nat → Int32} {z pb ov : Nat} (h : rAft t cd nx ln lb hd bl hb 0 fr nb rec dly pnum psent pover ppb wb wsz cb csz bnum bcb bcsz row) (hz : row 736 = nI z) (hp : row 737 = nI pb) (ho : row 738 = nI ov) (hz2 : z ≤ 77) (hp2 : pb ≤ 80) (hlt : (ov + 1) * pb < z) : rAft t cd nx ln lb hd bl hb 0 fr nb rec dly pnum psent (va_up pover hd (nI (ov + 1))) ppb wb wsz cb csz bnum bcb bcsz (upd row 738 (nI (ov + 1))) := by
  refine rAft_fr h (by omega) (fun q hq => ⟨rfl, rfl, vu_n hq, rfl, rfl, rfl, rfl, rfl⟩) (fun j hj => pk_un (by omega)) (fun _ h0 => ?_)
  have hk1 := h.2.2.2.1.1.2.2
  obtain ⟨g1, g2, g3, z', pb', ov', c1, c2, c3, c4, c5, c6, c7, c8, c9, c10, c11, c12, c13, c14, c15, c16⟩ := rAft_0 h h0
  have ez : z' = z := (nI_eq (by omega) (by omega)).mp (c6.symm.trans hz)
  have ep : pb' = pb := (nI_eq (by omega) (by omega)).mp (c9.symm.trans hp)
  subst ez; subst ep
  exact ⟨g1, by rw [pk_un (by omega)]; exact g2, by rw [pk_un (by omega)]; exact g3, z', pb', ov + 1, c1, c2, c3, c4, hlt, by rw [pk_un (by omega)]; exact c6, c7, c8, by rw [pk_un (by omega)]; exact c9, c10, pk_us, vu_s, fun j hj => by rw [pk_un (by omega)]; exact c13 j hj, fun j hj => by rw [pk_un (by omega)]; exact c14 j hj, c15, c16⟩
theorem rAft_brk {t cd nx ln lb hd bl hb fr : Nat} {nb rec dly : Nat → Int32} {pnum psent pover ppb : Nat → Int32} {wb : Nat → Nat → Int32} {wsz : Nat → Int32} {cb : Nat → Nat → Int32} {csz : Nat → Int32} {bnum : Nat → Int32} {bcb : Nat → Nat → Int32} {bcsz : Nat → Int32} {row : Nat → Int32} {v : Int32} (h : rAft t cd nx ln lb hd bl hb 0 fr nb rec dly pnum psent pover ppb wb wsz cb csz bnum bcb bcsz row) (h0 : 0 < ln) : rAft t cd nx ln lb hd bl hb 0 fr (upd nb 34 (nb 34 + 1)) rec dly pnum psent (va_up pover hd 0) ppb wb wsz (va_up cb hd (va_cpy (wb hd) (cb hd) 0 0 80)) (va_up csz hd (wsz hd)) bnum bcb bcsz (M_brk (upd row 738 v)) := by
  have h2 := rAft_num h 34 (nb 34 + 1) (by omega) (by omega) (by omega) (by omega)
  have e34 : nb 34 = row 46 := h.1 34 (by omega) (by omega) (by omega) (by omega)
  refine rAft_fr h2 (by omega) (fun q hq => ⟨rfl, rfl, vu_n hq, rfl, rfl, rfl, vu_n hq, vu_n hq⟩) (fun j hj => ?_) (fun _ _ => ?_)
  · unfold M_brk
    rw [if_neg (by omega), if_neg (by omega), show hm 34 = 46 from rfl]
    by_cases q : j = 46
    · rw [if_pos q, q, pk_us, pk_un (by omega), e34]
    · rw [if_neg q, pk_un q, pk_un (by omega)]
  · have hk1 := h.2.2.2.1.1.2.2
    obtain ⟨g1, g2, g3, z, pb, ov, c1, c2, c3, c4, c5, c6, c7, c8, c9, c10, c11, c12, c13, c14, c15, c16⟩ := rAft_0 h h0
    have o : ∀ j, j ≠ 738 → j ≠ 46 → (j < 819 ∨ 899 ≤ j) → M_brk (upd row 738 v) j = row j := fun j a b c => by
      unfold M_brk; rw [if_neg (by omega), if_neg a, if_neg b, pk_un a]
    have hw : ∀ j, j < 80 → va_cpy (wb hd) (cb hd) 0 0 80 j = wb hd j := fun j hj => by rw [pk_cpy_in (by omega) (by omega), Nat.sub_zero, Nat.zero_add]
    refine ⟨g1, by rw [o _ (by omega) (by omega) (by omega)]; exact g2, by rw [o _ (by omega) (by omega) (by omega)]; exact g3, z, pb, 0, c1, c2, c3, c4, by omega, by rw [o _ (by omega) (by omega) (by omega)]; exact c6, c7, by rw [vu_s]; exact c7, by rw [o _ (by omega) (by omega) (by omega)]; exact c9, c10, ?_, vu_s, fun j hj => by rw [o _ (by omega) (by omega) (by omega)]; exact c13 j hj, fun j hj => ?_, c15, ?_⟩
    · unfold M_brk; rw [if_neg (by omega), if_pos rfl]; rfl
    · rw [vu_s, hw j hj]
      unfold M_brk
      rw [if_pos (by omega), show 735 + 84 + j - 80 = 735 + 4 + j by omega, pk_un (by omega)]
      exact c13 j hj
    · rw [vu_s]
      intro j hj
      rw [hw j hj]; exact c15 j hj
/-- the first in line has an end: what the book says of it changes -/
theorem rAft_bk {t cd nx ln hd bl hb lo fr : Nat} {nb rec rec' dly : Nat → Int32} {pnum psent pover ppb : Nat → Int32} {wb : Nat → Nat → Int32} {wsz : Nat → Int32} {cb : Nat → Nat → Int32} {csz : Nat → Int32} {bnum : Nat → Int32} {bcb : Nat → Nat → Int32} {bcsz : Nat → Int32} {row row' : Nat → Int32} (h : rAft t cd nx ln ln hd bl hb lo fr nb rec dly pnum psent pover ppb wb wsz cb csz bnum bcb bcsz row) (h0 : 0 < ln) (er : ∀ j, (j < 3385 + 4 * (cd - ln) ∨ 3385 + 4 * (cd - ln) + 4 ≤ j ∨ j = 3385 + 4 * (cd - ln) + 1) → row' j = row j) (ec : ∀ j, j ≠ cd - ln → rec' j = rec j) (hb2 : ∃ st hh sn sl, rBk rec' row' (cd - ln) st hh sn sl ∧ (nx ≤ cd - ln → hh = 0)) : rAft t cd nx ln (ln - 1) hd bl hb lo fr nb rec' dly pnum psent pover ppb wb wsz cb csz bnum bcb bcsz row' := by
  obtain ⟨a1, ⟨ms, f1, f2, f3⟩, a3, ⟨a4, a5⟩, a6, a7, a8, a9, a10⟩ := h
  have hk1 := a4.2.2
  have hl5 := a4.2.1
  refine ⟨rNum_f a1 (fun j hj => er j (by omega)) (fun _ _ _ _ => rfl), ⟨ms, f1, by rw [er _ (by omega)]; exact f2, f3⟩, ?_, ⟨lnN_f a4 (er _ (by omega)) (fun i hi => er _ (by omega)), a5⟩, fun i b c => rLn_f (a6 i b c) (fun x hx => er _ (by omega)) (er _ (by omega)), fun n hn => by rw [er _ (by omega)]; exact a7 n hn, rBuf_f a8 (fun j b c => er j (by omega)) (er _ (by omega)) (Nat.le_refl _), a9, by rw [er _ (by omega)]; exact a10⟩
  intro k hk
  by_cases e : k = cd - ln
  · subst e
    obtain ⟨st, hh, sn, sl, q1, q2⟩ := hb2
    exact ⟨st, hh, sn, sl, q1, fun z => absurd z (by omega), q2, fun z => absurd z (by omega)⟩
  · obtain ⟨st, hh, sn, sl, q1, q2, q3, q4⟩ := a3 k hk
    exact ⟨st, hh, sn, sl, rBk_f q1 (fun j b c => er j (by omega)) (ec k e), q2, q3, fun z1 z2 => q4 (by omega) z2⟩
theorem rAft_del {t cd nx ln lb hd bl hb lo fr m : Nat} {nb rec dly : Nat → Int32} {pnum psent pover ppb : Nat → Int32} {wb : Nat → Nat → Int32} {wsz : Nat → Int32} {cb : Nat → Nat → Int32} {csz : Nat → Int32} {bnum : Nat → Int32} {bcb : Nat → Nat → Int32} {bcsz : Nat → Int32} {row : Nat → Int32} (h : rAft t cd nx ln lb hd bl hb lo fr nb rec dly pnum psent pover ppb wb wsz cb csz bnum bcb bcsz row) (hm2 : m < 16) : rAft t cd nx ln lb hd bl hb lo fr nb rec (upd dly m (dly m + 1)) pnum psent pover ppb wb wsz cb csz bnum bcb bcsz (upd row (3369 + m) (row (3369 + m) + 1)) := by
  obtain ⟨a1, ⟨ms, f1, f2, f3⟩, a3, ⟨a4, a5⟩, a6, a7, a8, a9, a10⟩ := h
  have hl5 := a4.2.1
  refine ⟨rNum_f a1 (fun j hj => pk_un (by omega)) (fun _ _ _ _ => rfl), ⟨ms, f1, by rw [pk_un (by omega)]; exact f2, f3⟩, rBook_f a3 (fun j b c => pk_un (by omega)), ⟨lnN_f a4 (pk_un (by omega)) (fun i hi => pk_un (by omega)), a5⟩, fun i b c => rLn_f (a6 i b c) (fun x hx => pk_un (by omega)) (pk_un (by omega)), fun n hn => ?_, rBuf_f a8 (fun j b c => pk_un (by omega)) (pk_un (by omega)) (Nat.le_refl _), a9, by rw [pk_un (by omega)]; exact a10⟩
  by_cases e : n = m
  · rw [e, pk_us, pk_us, a7 m hm2]
  · rw [pk_un e, pk_un (by omega)]; exact a7 n hn
theorem rAft_drop {t cd nx ln hd bl hb fr : Nat} {nb rec dly : Nat → Int32} {pnum psent pover ppb : Nat → Int32} {wb : Nat → Nat → Int32} {wsz : Nat → Int32} {cb : Nat → Nat → Int32} {csz : Nat → Int32} {bnum : Nat → Int32} {bcb : Nat → Nat → Int32} {bcsz : Nat → Int32} {row : Nat → Int32} (h : rAft t cd nx ln (ln - 1) hd bl hb 1 fr nb rec dly pnum psent pover ppb wb wsz cb csz bnum bcb bcsz row) (h0 : 0 < ln) : rAft t cd nx (ln - 1) (ln - 1) ((hd + 1) % 6) bl hb 0 fr (upd nb 5 (nI (ln - 1))) rec dly pnum psent pover ppb wb wsz cb csz bnum bcb bcsz (M_drop row) := by
  obtain ⟨a1, ⟨ms, f1, f2, f3⟩, a3, ⟨a4, a5⟩, a6, a7, a8, a9, a10⟩ := h
  obtain ⟨b1, b2, b3, b4, b5⟩ := a4
  have o : ∀ j, j ≠ 51 → (j < 735 ∨ 2095 ≤ j) → M_drop row j = row j := fun j p q => drop_o b1 (by omega) p q
  refine ⟨?_, ⟨ms, by omega, by rw [o _ (by omega) (by omega)]; exact f2, by rw [pk_un (by omega)]; exact f3⟩, rBook_f a3 (fun j b c => o j (by omega) (by omega)), ⟨⟨drop_51 b1 h0, by omega, by omega, b4, fun i hi => ?_⟩, Nat.mod_lt _ (by omega)⟩, fun i b c => ?_, fun n hn => by rw [o _ (by omega) (by omega)]; exact a7 n hn, rBuf_f a8 (fun j b c => o j (by omega) (by omega)) (o _ (by omega) (by omega)) (Nat.le_refl _), by rw [pk_un (by omega)]; exact a9, by rw [o _ (by omega) (by omega)]; exact a10⟩
  · refine rNum_f (rNum_u (j := 5) (v := nI (ln - 1)) a1 (by omega)) (fun j hj => ?_) (fun _ _ _ _ => rfl)
    rw [show hm 5 = 51 from rfl]
    by_cases q : j = 51
    · rw [q, pk_us, drop_51 b1 h0]
    · rw [pk_un q]; exact o j q (by omega)
  · have q := drop_mv (x := 0) b1 (by omega) (show i + 1 < ln by omega) (by omega)
    rw [Nat.add_zero, Nat.add_zero] at q
    rw [q, b5 (i + 1) (by omega)]; congr 1; omega
  · have q := a6 (i + 1) (by omega) (by omega)
    rw [show ((hd + 1) % 6 + i) % 6 = (hd + (i + 1)) % 6 by omega, show cd - (ln - 1) + i = cd - ln + (i + 1) by omega]
    exact rLn_f q (fun x hx => drop_mv b1 (by omega) (by omega) hx) (o _ (by omega) (by omega))
