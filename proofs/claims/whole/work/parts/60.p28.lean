/-! pure part 28: the sender's slot whole -/
theorem t8_passSlot {t cd nx ln hd bl hb s e D : Nat} {nb rec dly : Nat → Int32} {pnum psent pover ppb : Nat → Int32} {wb : Nat → Nat → Int32} {wsz : Nat → Int32} {cb : Nat → Nat → Int32} {csz : Nat → Int32} {bnum bsent bover bpb : Nat → Int32} {bwb : Nat → Nat → Int32} {bwsz : Nat → Int32} {bcb : Nat → Nat → Int32} {bcsz row : Nat → Int32} {post : Int32 → (Nat → Int32) → (Nat → Int32) → (Nat → Int32) → (Nat → Int32) → (Nat → Int32) → (Nat → Nat → Int32) → (Nat → Int32) → (Nat → Int32) → (Nat → Int32) → (Nat → Int32) → (Nat → Int32) → (Nat → Nat → Int32) → (Nat → Int32) → (Nat → Nat → Int32) → (Nat → Int32) → Prop}
    (h : rAft t cd nx ln ln hd bl hb 0 (cd - ln) nb rec dly pnum psent pover ppb wb wsz cb csz bnum bcb bcsz row) (ht : t < 10000) (hcd : 4 * cd ≤ t + 4) (hx : nx < 100000) (e25 : row 25 = nI t) (e49 : row 49 = nI s) (hs : s < 1000003) (e16 : row 16 = nI e) (he : e ≤ 1000) (eD : row 10 = nI D) (hD : D ≤ 16)
    (hp : ∀ (ln' hd' bl' : Nat) (nb' rec' dly' psent' pover' : Nat → Int32) (cb' : Nat → Nat → Int32) (csz' bnum' bsent' bover' bpb' : Nat → Int32) (bwb' : Nat → Nat → Int32) (bwsz' : Nat → Int32) (bcb' : Nat → Nat → Int32) (bcsz' : Nat → Int32), (0 < ln' → t < 4 * (cd - ln') + 16) → rAft (t + 1) cd nx ln' ln' hd' bl' hb 0 (cd - ln') nb' rec' dly' pnum psent' pover' ppb wb wsz cb' csz' bnum' bcb' bcsz' (M_send (M_gu t ln row)) → post (nI hd') nb' rec' dly' psent' pover' cb' csz' bnum' bsent' bover' bpb' bwb' bwsz' bcb' bcsz') :
    wp_X8_passSlot (nI t) (nI 5) (nI hd) nb rec dly (nI 6) (nI hb) pnum psent pover ppb wb wsz cb csz bnum bsent bover bpb bwb bwsz bcb bcsz post := by
  have hlnN := h.2.2.2.1.1
  have o : ∀ j, j ≠ 51 → j ≠ 50 → j ≠ 29 → (j < 735 ∨ 2095 ≤ j) → (j < 3385 ∨ j % 4 ≠ 1) → M_gu t ln row j = row j := gu_o ln row hlnN
  unfold wp_X8_passSlot
  refine t8_giveUp (rAft_S h) ht eD hD (fun ln1 hd1 nb1 rec1 hl1 q1 q2 q3 => ?_)
  obtain ⟨u1, u2, u3, u4, u5⟩ := q1
  have hA : rAft t cd nx ln1 ln1 hd1 bl hb 0 (cd - ln1) nb1 rec1 dly pnum psent pover ppb wb wsz cb csz bnum bcb bcsz (M_gu t ln row) := by
    refine ⟨u1, u2, u3, u4, fun i _ hi => u5 i hi, fun n hn => ?_, rBuf_f h.2.2.2.2.2.2.1 (fun j a b => o j (by omega) (by omega) (by omega) (by omega) (by omega)) (o _ (by omega) (by omega) (by omega) (by omega) (by omega)) (by omega), ?_, ?_⟩
    · rw [o _ (by omega) (by omega) (by omega) (by omega) (by omega)]; exact h.2.2.2.2.2.1 n hn
    · rw [q2]; exact h.2.2.2.2.2.2.2.1
    · rw [o _ (by omega) (by omega) (by omega) (by omega) (by omega)]; exact h.2.2.2.2.2.2.2.2
  refine t8_send (s := s) (e := e) hA ht hcd hx ?_ ?_ hs ?_ he (fun h0 => by have := q3 h0; omega) (fun ln' hd' bl' nb' rec' dly' psent' pover' cb' csz' bnum' bsent' bover' bpb' bwb' bwsz' bcb' bcsz' a1 a2 a3 => hp ln' hd' bl' nb' rec' dly' psent' pover' cb' csz' bnum' bsent' bover' bpb' bwb' bwsz' bcb' bcsz' (fun h0 => ?_) a3)
  · rw [o _ (by omega) (by omega) (by omega) (by omega) (by omega)]; exact e25
  · rw [o _ (by omega) (by omega) (by omega) (by omega) (by omega)]; exact e49
  · rw [o _ (by omega) (by omega) (by omega) (by omega) (by omega)]; exact e16
  · have h1 := q3 (by omega)
    have := u4.1.2.2
    omega
