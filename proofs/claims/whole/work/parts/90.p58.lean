/-! pure part 58: count -/
def tlV (row : Nat → Int32) (w : Nat) : Int32 := if w = 6 then nI (lev row) else row (hm w)
theorem t_tlB {v : Int32} {row : Nat → Int32} {post : Int32 → Prop} (h1 : ∀ w, 20 ≤ w → w ≤ 30 → v = nI w → post (row (w - 14))) (h2 : ∀ w, 40 ≤ w → w ≤ 47 → v = nI w → post (row (w - 23))) (h0 : ¬ btw v 20 30 → ¬ btw v 40 47 → post (-2147483648)) :
    wp_X12_in v.toInt64 (20 : Int64) (30 : Int64) (fun r42 => (r42 = 0 → wp_X12_in v.toInt64 (40 : Int64) (47 : Int64) (fun r44 => (r44 = 0 → post (-2147483648 : Int32)) ∧ (¬ r44 = 0 → vp_in (((17 : Int32) + v) - (40 : Int32)) 13385 ∧ post (row (((17 : Int32) + v) - (40 : Int32)).toNatClampNeg)))) ∧ (¬ r42 = 0 → vp_in (((6 : Int32) + v) - (20 : Int32)) 13385 ∧ post (row (((6 : Int32) + v) - (20 : Int32)).toNatClampNeg))) := by
  refine t_inI 20 30 (fun q => ⟨fun z => absurd z (by decide), fun _ => ?_⟩) (fun q => ⟨fun _ => t_inI 40 47 (fun q2 => ⟨fun z => absurd z (by decide), fun _ => ?_⟩) (fun q2 => ⟨fun _ => h0 q q2, fun z => absurd rfl z⟩), fun z => absurd rfl z⟩)
  · obtain ⟨w, hw1, hw2, rfl⟩ := btw_n (a := 20) (b := 30) q
    rw [lA, rS (by omega), nI_clamp (by omega), show 6 + w - 20 = w - 14 by omega]
    exact ⟨vp_in_nI (by omega) (by omega), h1 w hw1 hw2 rfl⟩
  · obtain ⟨w, hw1, hw2, rfl⟩ := btw_n (a := 40) (b := 47) q2
    rw [lA, rS (by omega), nI_clamp (by omega), show 17 + w - 40 = w - 23 by omega]
    exact ⟨vp_in_nI (by omega) (by omega), h2 w hw1 hw2 rfl⟩
set_option maxHeartbeats 800000 in
set_option maxRecDepth 100000 in
theorem t_tells {v : Int32} {row : Nat → Int32} {post : Int32 → Prop} (h1 : ∀ w, (w ≤ 36 ∨ (40 ≤ w ∧ w ≤ 47)) → v = nI w → post (tlV row w)) (h0 : ¬ btw v 0 36 → ¬ btw v 40 47 → post (-2147483648)) : wp_X12_tells v row post := by
  have a1 : ∀ w, 20 ≤ w → w ≤ 30 → v = nI w → post (row (w - 14)) := fun w g1 g2 e => by
    have := h1 w (by omega) e
    unfold tlV at this
    rw [if_neg (by omega), show hm w = w - 14 by unfold hm; rw [if_neg (by omega), if_neg (by omega), if_neg (by omega), if_neg (by omega), if_pos (by omega)]] at this
    exact this
  have a2 : ∀ w, 40 ≤ w → w ≤ 47 → v = nI w → post (row (w - 23)) := fun w g1 g2 e => by
    have := h1 w (by omega) e
    unfold tlV at this
    rw [if_neg (by omega), show hm w = w - 23 by unfold hm; rw [if_neg (by omega), if_neg (by omega), if_neg (by omega), if_neg (by omega), if_neg (by omega), if_neg (by omega), if_neg (by omega), if_neg (by omega), if_neg (by omega), if_pos (by omega)]] at this
    exact this
  have b0 : ∀ w : Nat, 20 ≤ w → w ≤ 30 → v = nI w → ¬ btw v 20 30 → False := fun w g1 g2 e y => y (by rw [e]; exact (btw_i (a := 20) (b := 30)).mpr ⟨g1, g2⟩)
  unfold wp_X12_tells
  refine ⟨fun e => ?_, fun e => ?_, fun e => ?_, fun e => ?_, fun e => ?_, fun e => ?_, fun e => ?_, fun e => ?_, fun e => ?_, fun e => ?_, fun e => ?_, fun e => ?_, fun e => ?_, fun e => ?_, fun e => ?_, fun e => ?_, fun e => ?_, fun e => ?_, fun e => ?_, fun e => ?_, fun e => ?_, fun e => ?_, fun e => ?_, fun e => ?_, fun e => ?_, fun e => ?_, fun e => ?_, fun e => ?_, fun e => ?_, fun e => ?_, fun e => ?_, fun e => ?_, fun e => ?_, fun e => ?_, fun e => ?_, fun e => ?_, fun e => ?_, fun e0 e1 e2 e3 e4 e5 e6 e7 e8 e9 e10 e11 e12 e13 e14 e15 e16 e17 e18 e19 e20 e21 e22 e23 e24 e25 e26 e27 e28 e29 e30 e31 e32 e33 e34 e35 e36 => ?_⟩
  · exact h1 0 (by omega) e
  · exact h1 1 (by omega) e
  · exact h1 2 (by omega) e
  · exact h1 3 (by omega) e
  · exact h1 4 (by omega) e
  · exact h1 5 (by omega) e
  · exact t12_level (h1 6 (by omega) e)
  · exact h1 7 (by omega) e
  · exact h1 8 (by omega) e
  · exact h1 9 (by omega) e
  · exact h1 10 (by omega) e
  · exact h1 11 (by omega) e
  · exact h1 12 (by omega) e
  · exact h1 13 (by omega) e
  · exact h1 14 (by omega) e
  · exact h1 15 (by omega) e
  · exact h1 16 (by omega) e
  · exact h1 17 (by omega) e
  · exact h1 18 (by omega) e
  · exact h1 19 (by omega) e
  · exact t_tlB a1 a2 (fun y _ => (b0 20 (by omega) (by omega) e y).elim)
  · exact t_tlB a1 a2 (fun y _ => (b0 21 (by omega) (by omega) e y).elim)
  · exact t_tlB a1 a2 (fun y _ => (b0 22 (by omega) (by omega) e y).elim)
  · exact t_tlB a1 a2 (fun y _ => (b0 23 (by omega) (by omega) e y).elim)
  · exact t_tlB a1 a2 (fun y _ => (b0 24 (by omega) (by omega) e y).elim)
  · exact t_tlB a1 a2 (fun y _ => (b0 25 (by omega) (by omega) e y).elim)
  · exact t_tlB a1 a2 (fun y _ => (b0 26 (by omega) (by omega) e y).elim)
  · exact t_tlB a1 a2 (fun y _ => (b0 27 (by omega) (by omega) e y).elim)
  · exact t_tlB a1 a2 (fun y _ => (b0 28 (by omega) (by omega) e y).elim)
  · exact t_tlB a1 a2 (fun y _ => (b0 29 (by omega) (by omega) e y).elim)
  · exact t_tlB a1 a2 (fun y _ => (b0 30 (by omega) (by omega) e y).elim)
  · exact h1 31 (by omega) e
  · exact h1 32 (by omega) e
  · exact h1 33 (by omega) e
  · exact h1 34 (by omega) e
  · exact h1 35 (by omega) e
  · exact h1 36 (by omega) e
  · refine t_tlB a1 a2 (fun y1 y2 => h0 (fun z => ?_) y2)
    obtain ⟨w, _, hw, rfl⟩ := btw_n (a := 0) (b := 36) z
    have hc : w = 0 ∨ w = 1 ∨ w = 2 ∨ w = 3 ∨ w = 4 ∨ w = 5 ∨ w = 6 ∨ w = 7 ∨ w = 8 ∨ w = 9 ∨ w = 10 ∨ w = 11 ∨ w = 12 ∨ w = 13 ∨ w = 14 ∨ w = 15 ∨ w = 16 ∨ w = 17 ∨ w = 18 ∨ w = 19 ∨ w = 20 ∨ w = 21 ∨ w = 22 ∨ w = 23 ∨ w = 24 ∨ w = 25 ∨ w = 26 ∨ w = 27 ∨ w = 28 ∨ w = 29 ∨ w = 30 ∨ w = 31 ∨ w = 32 ∨ w = 33 ∨ w = 34 ∨ w = 35 ∨ w = 36 := by omega
    rcases hc with rfl | rfl | rfl | rfl | rfl | rfl | rfl | rfl | rfl | rfl | rfl | rfl | rfl | rfl | rfl | rfl | rfl | rfl | rfl | rfl | rfl | rfl | rfl | rfl | rfl | rfl | rfl | rfl | rfl | rfl | rfl | rfl | rfl | rfl | rfl | rfl | rfl
    · exact e0 rfl
    · exact e1 rfl
    · exact e2 rfl
    · exact e3 rfl
    · exact e4 rfl
    · exact e5 rfl
    · exact e6 rfl
    · exact e7 rfl
    · exact e8 rfl
    · exact e9 rfl
    · exact e10 rfl
    · exact e11 rfl
    · exact e12 rfl
    · exact e13 rfl
    · exact e14 rfl
    · exact e15 rfl
    · exact e16 rfl
    · exact e17 rfl
    · exact e18 rfl
    · exact e19 rfl
    · exact e20 rfl
    · exact e21 rfl
    · exact e22 rfl
    · exact e23 rfl
    · exact e24 rfl
    · exact e25 rfl
    · exact e26 rfl
    · exact e27 rfl
    · exact e28 rfl
    · exact e29 rfl
    · exact e30 rfl
    · exact e31 rfl
    · exact e32 rfl
    · exact e33 rfl
    · exact e34 rfl
    · exact e35 rfl
    · exact e36 rfl
set_option maxHeartbeats 800000 in
set_option maxRecDepth 100000 in
theorem s_count {v1 th : Int32} {t cd nx ln hd bl hb : Nat} {nb rec dly : Nat → Int32} {pnum psent pover ppb : Nat → Int32} {wb : Nat → Nat → Int32} {wsz : Nat → Int32} {cb : Nat → Nat → Int32} {csz : Nat → Int32} {bnum : Nat → Int32} {bcb : Nat → Nat → Int32} {bcsz : Nat → Int32} {A0 B0 A1 B1 split told quants backs scales bits : Nat → Int32} {tw me sz : Int32} {bytes : Nat → Int32} {eA0 eB0 eA1 eB1 e0 e1 recs : Nat → Int32} {row : Nat → Int32} {P : Int32 → Int32 → Int32 → Prop} (h : RW t cd nx ln hd bl hb nb rec dly pnum psent pover ppb wb wsz cb csz bnum bcb bcsz A0 B0 A1 B1 split told quants backs scales bits tw me sz bytes eA0 eB0 eA1 eB1 e0 e1 recs row) (hp : ∀ r, P r r 0) :
    wp_X11_count v1 nb (fun r => wp_X12_count v1 th row (fun r' th' => P r r' th')) := by
  unfold wp_X11_count wp_X11_isCount wp_X12_count
  have val : ∀ w, (w ≤ 36 ∨ (40 ≤ w ∧ w ≤ 47)) → nb w = tlV row w := fun w hw => by
    unfold tlV
    by_cases q : w = 6
    · rw [if_pos q, q, h.aft.2.2.2.2.2.2.2.1, h.aft.2.2.2.2.2.2.1.2.2.1]
    · rw [if_neg q]; exact h.aft.1 w (by omega) q (by omega) (by omega)
  have yes : ∀ w, (w ≤ 36 ∨ (40 ≤ w ∧ w ≤ 47)) → v1 = nI w → vp_in v1 54 ∧ wp_X12_tells v1 row (fun r' => P (nb v1.toNatClampNeg) r' 0) := fun w hw e => by
    rw [e, nI_clamp (show w < 2 ^ 31 by omega)]
    refine ⟨vp_in_nI (by omega) (by omega), t_tells (fun w' hw' e' => ?_) (fun y1 y2 => ?_)⟩
    · have : w = w' := (nI_eq (by omega) (by omega)).mp e'
      subst this
      rw [val w hw]; exact hp _
    · rcases hw with g | g
      · exact absurd ((btw_i (a := 0) (b := 36)).mpr ⟨by omega, g⟩) y1
      · exact absurd ((btw_i (a := 40) (b := 47)).mpr g) y2
  refine t_within (fun q1 => ⟨fun z => absurd z (by decide), fun _ => ⟨fun z => absurd z (by decide), fun _ => ?_⟩⟩) (fun q1 => ⟨fun _ => t_within (fun q2 => ⟨fun z => absurd z (by decide), fun _ => ⟨fun z => absurd z (by decide), fun _ => ?_⟩⟩) (fun q2 => ⟨fun _ => ⟨fun _ => t_tells (fun w hw e => ?_) (fun _ _ => hp _), fun z => absurd rfl z⟩, fun z => absurd rfl z⟩), fun z => absurd rfl z⟩)
  · obtain ⟨w, _, hw, e⟩ := btw_n (a := 0) (b := 36) q1
    exact yes w (by omega) e
  · obtain ⟨w, g1, g2, e⟩ := btw_n (a := 40) (b := 47) q2
    exact yes w (by omega) e
  · subst e
    rcases hw with g | g
    · exact absurd ((btw_i (a := 0) (b := 36)).mpr ⟨by omega, g⟩) q1
    · exact absurd ((btw_i (a := 40) (b := 47)).mpr g) q2
