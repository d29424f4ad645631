/-! pure part 67: damaged -/
theorem nI_ne_neg1 {n : Nat} (h : n < 2 ^ 31) : ¬ nI n = -1 := fun e => by
  have a := congrArg Int32.toInt e
  rw [nI_toInt h, show (-1 : Int32).toInt = -1 by decide] at a
  omega
theorem btw_m1 {v : Int32} {z : Nat} (h1 : 1 ≤ z ∧ z < 2 ^ 31) (h : btw v (-1) (nI z - 1)) (hn : ¬ v = -1) : ∃ b, b < z ∧ v = nI b := by
  have z1 := h1.1
  obtain ⟨a, b⟩ := h
  rw [rS (by omega)] at b
  have h0 : ¬ v < 0 := by
    intro q
    rw [fa_lt, show (0 : Int32).toInt = 0 by decide] at q
    rw [fa_le, show (-1 : Int32).toInt = -1 by decide] at a
    exact hn (Int32.toInt_inj.mp (by rw [show (-1 : Int32).toInt = -1 by decide]; omega))
  obtain ⟨n, hn2, rfl⟩ := nI_of h0
  have := (nI_leI hn2 (by omega)).mp b
  exact ⟨n, by omega, rfl⟩
def flp (f : Nat → Int32) (n : Nat) : Nat → Int32 := upd f (n / 8) (f (n / 8) ^^^ ((1 : Int32) <<< ((nI (7 - n % 8)) &&& 31)))
theorem flp_c {f g : Nat → Int32} {n : Nat} (h : ∀ j, j < 80 → f j = g j) (hn : n < 640) : ∀ j, j < 80 → flp f n j = flp g n j := fun j hj => by
  unfold flp
  by_cases q : j = n / 8
  · rw [q, pk_us, pk_us, h _ (by omega)]
  · rw [pk_un q, pk_un q, h j hj]
def lok (f : Nat → Int32) (z : Nat) : Int32 := if f 0 = 156 then (if f 3 = chk f z then 2 else 1) else 0
theorem lok_c {f g : Nat → Int32} {z : Nat} (h : ∀ j, j < 80 → f j = g j) (hz : z ≤ 80) : lok f z = lok g z := by
  unfold lok
  rw [h 0 (by omega), h 3 (by omega), chk_c z (fun j hj _ _ => h j (by omega))]
theorem t1_turnRound {n z : Nat} {f : Nat → Int32} {post : (Nat → Int32) → Prop} (hn : n < 8 * z) (hz : z ≤ 80) (h : post (flp f n)) : wp_X1_turnRound (nI n) (nI z) f post := by
  unfold wp_X1_turnRound
  refine ⟨fun q => absurd ((nI_ltI (b := 0) (by omega) (by omega)).mp q) (by omega), fun _ => ⟨fun q => ?_, fun _ => ?_⟩⟩
  · rw [lM, nI_leI (by omega) (by omega)] at q; omega
  · rw [rD (by omega) (by decide) (by decide), rR (by omega) (by decide) (by decide)]
    rintro x3 rfl
    refine ⟨vp_in_nI (by omega) (by omega), ?_⟩
    rintro x5 rfl
    refine ⟨vp_in_nI (by omega) (by omega), ?_⟩
    rintro f7 rfl
    rw [nI_clamp (by omega), lS (by omega)]
    exact h
theorem t1_look' {z : Nat} {f : Nat → Int32} {post : Int32 → Prop} (h1 : 1 ≤ z) (hz : z ≤ 80) (h : post (lok f z)) : wp_X1_look (nI z) f post := by
  unfold wp_X1_look
  unfold lok at h
  refine ⟨fun q => t1_check h1 hz ⟨fun q3 => ?_, fun q3 => ?_⟩, fun q => ?_⟩
  · rw [if_pos q, if_pos q3] at h; exact h
  · rw [if_pos q, if_neg q3] at h; exact h
  · rw [if_neg q] at h; exact h
set_option maxHeartbeats 800000 in
set_option maxRecDepth 100000 in
theorem t12_damaged {t cd nx ln hd bl hb z a : Nat} {v2 th : Int32} {nb rec dly : Nat → Int32} {pnum psent pover ppb : Nat → Int32} {wb : Nat → Nat → Int32} {wsz : Nat → Int32} {cb : Nat → Nat → Int32} {csz : Nat → Int32} {bnum : Nat → Int32} {bcb : Nat → Nat → Int32} {bcsz : Nat → Int32} {A0 B0 A1 B1 split told quants backs scales bits : Nat → Int32} {tw me sz : Int32} {bytes : Nat → Int32} {eA0 eB0 eA1 eB1 e0 e1 recs : Nat → Int32} {row by0 : Nat → Int32} {post : Int32 → Int32 → (Nat → Int32) → Prop} (h : RW t cd nx ln hd bl hb nb rec dly pnum psent pover ppb wb wsz cb csz bnum bcb bcsz A0 B0 A1 B1 split told quants backs scales bits tw me sz bytes eA0 eB0 eA1 eB1 e0 e1 recs row) (c0 : 0 < cd) (hz1 : 13 ≤ z) (hz : z ≤ 77) (ez : row 654 = nI z) (ha : a < 8 * z) (hv : btw v2 (-1) (nI (8 * z) - 1)) (hne : ¬ nI a = v2) (F : Nat → Int32) (hF : ∀ j, j < 80 → F j = row (655 + j))
    (g : ∀ (x : Int32) (f : Nat → Int32), (v2 = -1 → x = lok (flp F a) z) → (∀ b, b < 8 * z → v2 = nI b → x = lok (flp (flp F a) b) z) → post x 0 f) : wp_X12_damaged (nI a) v2 th row by0 post := by
  unfold wp_X12_damaged
  rintro x2 rfl
  rw [ez, lM, wide_pred (by omega)]
  have q1 : btw (nI a) 0 (nI (8 * z) - 1) := by rw [rS (by omega)]; exact (btw_i (a := 0) (b := 8 * z - 1)).mpr ⟨by omega, by omega⟩
  refine t_isCoded h (fun y => absurd y (by omega)) (fun _ => ⟨fun y => absurd y (by decide), fun _ => ?_⟩)
  refine t_inI 0 (nI (8 * z) - 1) (fun _ => ⟨fun y => absurd y (by decide), fun _ => ?_⟩) (fun y => absurd q1 y) (by decide) rfl
  refine t_inI (-1) (nI (8 * z) - 1) (fun _ => ⟨fun y => absurd y (by decide), fun _ => ⟨fun y => absurd y hne, fun _ => ?_⟩⟩) (fun y => absurd hv y) (by decide) rfl
  rintro x10 rfl
  refine cinv1 0 80 (fun k f => ∀ j, j < k → f j = row (655 + j)) (fun j hj => absurd hj (Nat.not_lt_zero _)) ?_ ?_
  · intro k f h1 h2 h3 g2 hg2
    rw [lA]
    refine ⟨vp_in_nI (by omega) (by omega), vp_in_nI (by omega) (by omega), ?_⟩
    rintro f38 rfl
    rw [nI_clamp (by omega), nI_clamp (by omega), rA]
    refine hg2 _ (fun j hj => ?_)
    by_cases q : j = k
    · subst q; exact pk_us
    · rw [pk_un q]; exact h3 j (by omega)
  intro f14 hf
  have hf' : ∀ j, j < 80 → f14 j = F j := fun j hj => (hf j hj).trans (hF j hj).symm
  rw [rD (by omega) (by decide) (by decide), rR (by omega) (by decide) (by decide)]
  rintro x16 rfl
  refine ⟨vp_in_nI (by omega) (by omega), ?_⟩
  rintro x18 rfl
  refine ⟨vp_in_nI (by omega) (by omega), ?_⟩
  rintro f20 rfl
  rw [nI_clamp (by omega), lS (by omega)]
  intro k22 hk22
  have key : ∀ f21 : Nat → Int32, (v2 = -1 → lok f21 z = lok (flp F a) z) → (∀ b, b < 8 * z → v2 = nI b → lok f21 z = lok (flp (flp F a) b) z) → k22 f21 := by
    intro f21 l1 l2
    refine hk22 f21 ⟨fun q => t12_check (by omega) (by omega) ⟨fun q3 => g _ _ (fun y => ?_) (fun b hb y => ?_), fun q3 => g _ _ (fun y => ?_) (fun b hb y => ?_)⟩, fun q => g _ _ (fun y => ?_) (fun b hb y => ?_)⟩
    · rw [← l1 y, lok, if_pos q, if_pos q3]
    · rw [← l2 b hb y, lok, if_pos q, if_pos q3]
    · rw [← l1 y, lok, if_pos q, if_neg q3]
    · rw [← l2 b hb y, lok, if_pos q, if_neg q3]
    · rw [← l1 y, lok, if_neg q]
    · rw [← l2 b hb y, lok, if_neg q]
  refine ⟨fun q => key _ (fun _ => lok_c (flp_c hf' (by omega)) (by omega)) (fun b hb y => ?_), fun q => ?_⟩
  · exfalso
    rw [q] at y
    exact absurd y.symm (nI_ne_neg1 (by omega))
  · obtain ⟨b, hb, rfl⟩ := btw_m1 (z := 8 * z) ⟨by omega, by omega⟩ hv q
    rw [rD (by omega) (by decide) (by decide), rR (by omega) (by decide) (by decide)]
    rintro x31 rfl
    refine ⟨vp_in_nI (by omega) (by omega), ?_⟩
    rintro x33 rfl
    refine ⟨vp_in_nI (by omega) (by omega), ?_⟩
    rintro f35 rfl
    rw [nI_clamp (by omega), lS (by omega)]
    refine key _ (fun y => absurd y q) (fun b' hb' y => ?_)
    have : b = b' := (nI_eq (by omega) (by omega)).mp y
    subst this
    exact lok_c (flp_c (flp_c hf' (by omega)) (by omega)) (by omega)
set_option maxHeartbeats 800000 in
set_option maxRecDepth 100000 in
theorem s_damaged {v1 v2 th ss : Int32} {by0 sb : Nat → Int32} {t cd nx ln hd bl hb : Nat} {nb rec dly : Nat → Int32} {pnum psent pover ppb : Nat → Int32} {wb : Nat → Nat → Int32} {wsz : Nat → Int32} {cb : Nat → Nat → Int32} {csz : Nat → Int32} {bnum : Nat → Int32} {bcb : Nat → Nat → Int32} {bcsz : Nat → Int32} {A0 B0 A1 B1 split told quants backs scales bits : Nat → Int32} {tw me sz : Int32} {bytes : Nat → Int32} {eA0 eB0 eA1 eB1 e0 e1 recs : Nat → Int32} {row : Nat → Int32} {P : Int32 → Int32 → (Nat → Int32) → Int32 → Int32 → (Nat → Int32) → Prop} (h : RW t cd nx ln hd bl hb nb rec dly pnum psent pover ppb wb wsz cb csz bnum bcb bcsz A0 B0 A1 B1 split told quants backs scales bits tw me sz bytes eA0 eB0 eA1 eB1 e0 e1 recs row) (hp : ∀ (r s : Int32) (f g : Nat → Int32), P r s f r 0 g) :
    wp_X11_damaged v1 v2 nb sz ss bytes sb (fun r s f => wp_X12_damaged v1 v2 th row by0 (fun r' th' g => P r s f r' th' g)) := by
  unfold wp_X11_damaged
  refine t_noFrame h (fun c0 => ⟨fun z => absurd z (by decide), fun _ => ?_⟩) (fun c0 => ⟨fun _ => ?_, fun z => absurd rfl z⟩)
  · unfold wp_X12_damaged
    rintro x2 rfl
    exact t_isCoded h (fun _ => ⟨fun _ => hp _ _ _ _, fun z => absurd rfl z⟩) (fun y => absurd y (by omega))
  obtain ⟨_, _, _, _, _, ⟨z, hz1, hz2, e1, e2⟩, eb, _⟩ := h.fr c0
  have no : (¬ btw v1 0 (nI (8 * z) - 1) ∨ ¬ btw v2 (-1) (nI (8 * z) - 1) ∨ v1 = v2) → wp_X12_damaged v1 v2 th row by0 (fun r' th' g => P (-1) ss sb r' th' g) := fun q => by
    unfold wp_X12_damaged
    rintro x2 rfl
    rw [e2, lM, wide_pred (by omega)]
    refine t_isCoded h (fun y => absurd y (by omega)) (fun _ => ⟨fun y => absurd y (by decide), fun _ => ?_⟩)
    refine t_inI 0 (nI (8 * z) - 1) (fun q1 => ⟨fun y => absurd y (by decide), fun _ => ?_⟩) (fun _ => ⟨fun _ => hp _ _ _ _, fun y => absurd rfl y⟩) (by decide) rfl
    refine t_inI (-1) (nI (8 * z) - 1) (fun q2 => ⟨fun y => absurd y (by decide), fun _ => ⟨fun _ => hp _ _ _ _, fun y => ?_⟩⟩) (fun _ => ⟨fun _ => hp _ _ _ _, fun y => absurd rfl y⟩) (by decide) rfl
    exfalso
    rcases q with q | q | q
    · exact q q1
    · exact q q2
    · exact y q
  rintro x3 rfl
  rw [e1, lM]
  refine t_within (fun q1 => ⟨fun y => absurd y (by decide), fun _ => ?_⟩) (fun q1 => ⟨fun _ => no (Or.inl q1), fun y => absurd rfl y⟩)
  refine t_within (fun q2 => ⟨fun y => absurd y (by decide), fun _ => ⟨fun y => no (Or.inr (Or.inr y)), fun hne => ?_⟩⟩) (fun q2 => ⟨fun _ => no (Or.inr (Or.inl q2)), fun y => absurd rfl y⟩)
  have q1' := q1
  rw [rS (by omega)] at q1'
  obtain ⟨a, _, ha, rfl⟩ := btw_n (a := 0) (b := 8 * z - 1) q1'
  unfold wp_X1_become
  rintro f1 rfl
  generalize eF : va_cpy bytes sb 0 0 80 = F
  have hF : ∀ j, j < 80 → F j = row (655 + j) := fun j hj => by
    rw [← eF, ← eb j hj]
    rw [pk_cpy_in (by omega) (by omega), Nat.sub_zero, Nat.zero_add]
  refine t1_turnRound (by omega) (by omega) ?_
  intro k13 hk13
  refine ⟨fun q => hk13 _ (t1_look' (by omega) (by omega) ?_), fun q => ?_⟩
  · refine t12_damaged h c0 hz1 hz2 e2 (by omega) q2 hne F hF (fun x f g1 g2 => ?_)
    rw [g1 q]; exact hp _ _ _ _
  · have q2' := q2
    obtain ⟨b, hb, e⟩ := btw_m1 (z := 8 * z) ⟨by omega, by omega⟩ q2' q
    rw [e]
    refine t1_turnRound (by omega) (by omega) (hk13 _ (t1_look' (by omega) (by omega) ?_))
    refine t12_damaged h c0 hz1 hz2 e2 (by omega) q2 hne F hF (fun x f g1 g2 => ?_)
    rw [g2 b hb e]; exact hp _ _ _ _
