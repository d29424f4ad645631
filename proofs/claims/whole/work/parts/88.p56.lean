/-! pure part 56: sets -/
theorem t_isSet {w : Nat} {v : Int32} {post : Int32 → Prop} (hw : w ≤ 10) (h1 : btw v (stVal 0 w) (stVal 1 w) → post 1) (h0 : ¬ btw v (stVal 0 w) (stVal 1 w) → post 0) : wp_X12_isSet (nI w) v post := by
  have key : ∀ k : Nat, k ≤ 10 → nI w = nI k → w = k := fun k hk e => (nI_eq (by omega) (by omega)).mp e
  unfold wp_X12_isSet
  refine ⟨fun e => ?_, fun e => ?_, fun e => ?_, fun e => ?_, fun e => ?_, fun e => ?_, fun e => ?_, fun e => ?_, fun e => ?_, fun e => ?_, fun e => ?_, fun e0 e1 e2 e3 e4 e5 e6 e7 e8 e9 e10 => ?_⟩
  · cases key 0 (by omega) e; exact t_inI 0 999999 (fun q => ⟨isB_1, h1 q⟩) (fun q => ⟨isB_0, h0 q⟩)
  · cases key 1 (by omega) e; exact t_inI 2 128 (fun q => ⟨isB_1, h1 q⟩) (fun q => ⟨isB_0, h0 q⟩)
  · cases key 2 (by omega) e; exact t_inI 0 1 (fun q => ⟨isB_1, h1 q⟩) (fun q => ⟨isB_0, h0 q⟩)
  · cases key 3 (by omega) e; exact t_inI 0 1 (fun q => ⟨isB_1, h1 q⟩) (fun q => ⟨isB_0, h0 q⟩)
  · cases key 4 (by omega) e; exact t_inI 1 16 (fun q => ⟨isB_1, h1 q⟩) (fun q => ⟨isB_0, h0 q⟩)
  · cases key 5 (by omega) e; exact t_inI 0 100 (fun q => ⟨isB_1, h1 q⟩) (fun q => ⟨isB_0, h0 q⟩)
  · cases key 6 (by omega) e; exact t_inI (-50) 50 (fun q => ⟨isB_1, h1 q⟩) (fun q => ⟨isB_0, h0 q⟩)
  · cases key 7 (by omega) e; exact t_inI 1 6 (fun q => ⟨isB_1, h1 q⟩) (fun q => ⟨isB_0, h0 q⟩)
  · cases key 8 (by omega) e; exact t_inI 10 80 (fun q => ⟨isB_1, h1 q⟩) (fun q => ⟨isB_0, h0 q⟩)
  · cases key 9 (by omega) e; exact t_inI 0 1 (fun q => ⟨isB_1, h1 q⟩) (fun q => ⟨isB_0, h0 q⟩)
  · cases key 10 (by omega) e; exact t_inI 0 1000 (fun q => ⟨isB_1, h1 q⟩) (fun q => ⟨isB_0, h0 q⟩)
  · have hc : w = 0 ∨ w = 1 ∨ w = 2 ∨ w = 3 ∨ w = 4 ∨ w = 5 ∨ w = 6 ∨ w = 7 ∨ w = 8 ∨ w = 9 ∨ w = 10 := by omega
    rcases hc with rfl | rfl | rfl | rfl | rfl | rfl | rfl | rfl | rfl | rfl | rfl
    · exact absurd rfl e0
    · exact absurd rfl e1
    · exact absurd rfl e2
    · exact absurd rfl e3
    · exact absurd rfl e4
    · exact absurd rfl e5
    · exact absurd rfl e6
    · exact absurd rfl e7
    · exact absurd rfl e8
    · exact absurd rfl e9
    · exact absurd rfl e10
theorem t_isSetNo {v1 v : Int32} {post : Int32 → Prop} (hw : ¬ btw v1 0 10) (h0 : post 0) : wp_X12_isSet v1 v post := by
  have key : ∀ k : Nat, k ≤ 10 → ¬ v1 = nI k := fun k hk e => hw (by rw [e]; exact (btw_i (a := 0) (b := 10)).mpr ⟨by omega, hk⟩)
  unfold wp_X12_isSet
  exact ⟨fun e => absurd e (key 0 (by omega)), fun e => absurd e (key 1 (by omega)), fun e => absurd e (key 2 (by omega)), fun e => absurd e (key 3 (by omega)), fun e => absurd e (key 4 (by omega)), fun e => absurd e (key 5 (by omega)), fun e => absurd e (key 6 (by omega)), fun e => absurd e (key 7 (by omega)), fun e => absurd e (key 8 (by omega)), fun e => absurd e (key 9 (by omega)), fun e => absurd e (key 10 (by omega)), fun _ _ _ _ _ _ _ _ _ _ _ => h0⟩
theorem okSet_w {row : Nat → Int32} {w : Nat} {v : Int32} (h : okSet row) (hw : w ≤ 10) (q : btw v (stVal 0 w) (stVal 1 w)) : okSet (upd row (6 + w) v) := by
  obtain ⟨s1, s2, s3, s4, s5, s6, s7, s8, s9⟩ := h
  refine ⟨?_, ?_, ?_, ?_, ?_, ?_, ?_, fun c hc => by rw [pk_un (by omega)]; exact s8 c hc, fun c hc => by rw [pk_un (by omega)]; exact s9 c hc⟩
  · by_cases e : w = 0
    · subst e; rw [pk_us]
      obtain ⟨n, _, h2, h3⟩ := btw_n (a := 0) (b := 999999) q
      exact ⟨n, by omega, h3⟩
    · rw [pk_un (by omega)]; exact s1
  · by_cases e : w = 1
    · subst e; rw [pk_us]
      obtain ⟨n, h1, h2, h3⟩ := btw_n (a := 2) (b := 128) q
      exact ⟨n, h1, h2, h3⟩
    · rw [pk_un (by omega)]; exact s2
  · by_cases e : w = 2
    · subst e; rw [pk_us]
      obtain ⟨n, h1, h2, h3⟩ := btw_n (a := 0) (b := 1) q
      exact ⟨n, h2, h3⟩
    · rw [pk_un (by omega)]; exact s3
  · by_cases e : w = 3
    · subst e; rw [pk_us]
      obtain ⟨n, h1, h2, h3⟩ := btw_n (a := 0) (b := 1) q
      exact ⟨n, h2, h3⟩
    · rw [pk_un (by omega)]; exact s4
  · by_cases e : w = 4
    · subst e; rw [pk_us]
      obtain ⟨n, h1, h2, h3⟩ := btw_n (a := 1) (b := 16) q
      exact ⟨n, h1, h2, h3⟩
    · rw [pk_un (by omega)]; exact s5
  · by_cases e : w = 6
    · subst e; rw [pk_us]
      have a := q.1
      have b := q.2
      have e1 : (stVal 0 6).toInt = -50 := by decide
      have e2 : (stVal 1 6).toInt = 50 := by decide
      rw [fa_le, e1] at a
      rw [fa_le, e2] at b
      exact ⟨a, b⟩
    · rw [pk_un (by omega)]; exact s6
  · by_cases e : w = 8
    · subst e; rw [pk_us]
      obtain ⟨n, h1, h2, h3⟩ := btw_n (a := 10) (b := 80) q
      exact ⟨n, h1, h2, h3⟩
    · rw [pk_un (by omega)]; exact s7
theorem hm_set : ∀ w, w < 11 → hm (20 + w) = 6 + w := by decide
set_option maxHeartbeats 800000 in
set_option maxRecDepth 100000 in
theorem s_sets {v1 v2 th : Int32} {t cd nx ln hd bl hb : Nat} {nb rec dly : Nat → Int32} {pnum psent pover ppb : Nat → Int32} {wb : Nat → Nat → Int32} {wsz : Nat → Int32} {cb : Nat → Nat → Int32} {csz : Nat → Int32} {bnum : Nat → Int32} {bcb : Nat → Nat → Int32} {bcsz : Nat → Int32} {A0 B0 A1 B1 split told quants backs scales bits : Nat → Int32} {tw me sz : Int32} {bytes : Nat → Int32} {eA0 eB0 eA1 eB1 e0 e1 recs : Nat → Int32} {row : Nat → Int32} {P : Int32 → Int32 → (Nat → Int32) → Int32 → (Nat → Int32) → Prop} (h : RW t cd nx ln hd bl hb nb rec dly pnum psent pover ppb wb wsz cb csz bnum bcb bcsz A0 B0 A1 B1 split told quants backs scales bits tw me sz bytes eA0 eB0 eA1 eB1 e0 e1 recs row) (hp : ∀ (r : Int32) (nb' row' : Nat → Int32), RW t cd nx ln hd bl hb nb' rec dly pnum psent pover ppb wb wsz cb csz bnum bcb bcsz A0 B0 A1 B1 split told quants backs scales bits tw me sz bytes eA0 eB0 eA1 eB1 e0 e1 recs row' → P r r nb' 0 row') :
    wp_X11_sets v1 v2 nb (fun r nb' => wp_X12_sets v1 v2 th row (fun r' th' row' => P r r' nb' th' row')) := by
  unfold wp_X11_sets
  refine t_within (fun q1 => ⟨fun z => absurd z (by decide), fun _ => ?_⟩) (fun q1 => ⟨fun _ => ?_, fun z => absurd rfl z⟩)
  rotate_left
  · unfold wp_X12_sets
    exact t_isSetNo q1 ⟨fun _ => hp _ _ _ h, fun z => absurd rfl z⟩
  obtain ⟨w, _, hw, rfl⟩ := btw_n (a := 0) (b := 10) q1
  rw [nI_clamp (show w < 2 ^ 31 by omega)]
  refine ⟨vp_in_nI (by omega) (by omega), vp_in_nI (by omega) (by omega), ?_⟩
  refine t_within (fun q2 => ⟨fun z => absurd z (by decide), fun _ => ?_⟩) (fun q2 => ⟨fun _ => ?_, fun z => absurd rfl z⟩)
  rotate_left
  · unfold wp_X12_sets
    exact t_isSet hw (fun y => absurd y q2) (fun _ => ⟨fun _ => hp _ _ _ h, fun z => absurd rfl z⟩)
  simp (disch := omega) only [lA, nI_clamp, vpT, true_and, forall_eq]
  have okW := okSet_w (v := v2) h.ok hw q2
  have hN1 := rNum_u (v := v2) h.aft.1 (show 20 + w < 54 by omega)
  rw [hm_set w (by omega)] at hN1
  have hE : okE (upd row (6 + w) v2) := by
    show ∃ e, e ≤ 1000 ∧ upd row (6 + w) v2 16 = nI e
    by_cases e : w = 10
    · subst e; rw [pk_us]
      obtain ⟨n, h1, h2, h3⟩ := btw_n (a := 0) (b := 1000) q2
      exact ⟨n, h2, h3⟩
    · rw [pk_un (by omega)]; exact h.e16
  -- the numbers and the row once SEED's state is told
  have st : ∀ (nb1 row1 : Nat → Int32), nb1 = (if w = 0 then upd (upd nb (20 + w) v2) 37 v2 else upd nb (20 + w) v2) → row1 = (if w = 0 then upd (upd row (6 + w) v2) 49 v2 else upd row (6 + w) v2) → RW t cd nx ln hd bl hb nb1 rec dly pnum psent pover ppb wb wsz cb csz bnum bcb bcsz A0 B0 A1 B1 split told quants backs scales bits tw me sz bytes eA0 eB0 eA1 eB1 e0 e1 recs row1 ∧ okSet row1 ∧ okE row1 := by
    intro nb1 row1 en er
    have oN : ∀ j, j < 52 → j ≠ 37 → (j < 20 ∨ 31 ≤ j) → nb1 j = nb j := fun j h1 h2 h3 => by
      rw [en]; by_cases e : w = 0
      · rw [if_pos e, pk_un h2, pk_un (by omega)]
      · rw [if_neg e, pk_un (by omega)]
    have oR : ∀ j, 17 ≤ j → j ≠ 49 → row1 j = row j := fun j h1 h2 => by
      rw [er]; by_cases e : w = 0
      · rw [if_pos e, pk_un h2, pk_un (by omega)]
      · rw [if_neg e, pk_un (by omega)]
    have oS : ∀ j, j < 17 → row1 j = upd row (6 + w) v2 j := fun j h1 => by
      rw [er]; by_cases e : w = 0
      · rw [if_pos e, pk_un (by omega)]
      · rw [if_neg e]
    have hN : rNum nb1 row1 := by
      rw [en, er]; by_cases e : w = 0
      · rw [if_pos e, if_pos e]
        have a := rNum_u (v := v2) hN1 (show 37 < 54 by omega)
        rwa [show hm 37 = 49 by decide] at a
      · rw [if_neg e, if_neg e]; exact hN1
    have ok1 : okSet row1 := okSet_f okW oS
    have hE1 : okE row1 := by show ∃ e, e ≤ 1000 ∧ row1 16 = nI e; rw [oS 16 (by omega)]; exact hE
    refine ⟨RW_set h hN (oN 6 (by omega) (by omega) (by omega)) (oN 38 (by omega) (by omega) (by omega)) (fun j h1 h2 h3 h4 => oR j (by omega) h4) ok1 hE1 (by rw [oR 43 (by omega) (by omega)]; exact h.p43) ?_, ok1, hE1⟩
    rw [er]; by_cases e : w = 0
    · subst e
      rw [if_pos rfl, pk_us]
      obtain ⟨n, h1, h2, h3⟩ := btw_n (a := 0) (b := 999999) q2
      exact ⟨n, by omega, h3⟩
    · rw [if_neg e, pk_un (by omega)]; exact h.s49
  have fin : ∀ (nb1 row1 : Nat → Int32), RW t cd nx ln hd bl hb nb1 rec dly pnum psent pover ppb wb wsz cb csz bnum bcb bcsz A0 B0 A1 B1 split told quants backs scales bits tw me sz bytes eA0 eB0 eA1 eB1 e0 e1 recs row1 → RW t cd nx ln hd bl hb (upd nb1 31 (nb1 21)) rec dly pnum psent pover ppb wb wsz cb csz bnum bcb bcsz A0 B0 A1 B1 split told quants backs scales bits tw me sz bytes eA0 eB0 eA1 eB1 e0 e1 recs (upd row1 43 (row1 7)) := by
    intro nb1 row1 g
    have e21 : nb1 21 = row1 7 := g.aft.1 21 (by omega) (by omega) (by omega) (by omega)
    have a := rNum_u (v := row1 7) g.aft.1 (show 31 < 54 by omega)
    rw [show hm 31 = 43 by decide] at a
    rw [e21]
    obtain ⟨x, hx, ex⟩ := g.e16
    obtain ⟨_, ⟨P1, hP1, hP2, e7⟩, _⟩ := g.ok
    exact RW_set g a (by rw [pk_un (by omega)]) (by rw [pk_un (by omega)]) (fun j h1 h2 h3 h4 => pk_un h2) (okSet_f g.ok (fun j hj => pk_un (by omega))) ⟨x, hx, by rw [pk_un (by omega)]; exact ex⟩ ⟨P1, hP2, by rw [pk_us]; exact e7⟩ (by rw [pk_un (by omega)]; exact g.s49)
  intro k11 hk11
  have w20 : (nI (20 + w) = 20) ↔ w = 0 := by
    have := nI_eq (a := 20 + w) (b := 20) (by omega) (by omega)
    exact ⟨fun e => by have := this.mp e; omega, fun e => this.mpr (by omega)⟩
  have w21 : (nI (20 + w) = 21) ↔ w = 1 := by
    have := nI_eq (a := 20 + w) (b := 21) (by omega) (by omega)
    exact ⟨fun e => by have := this.mp e; omega, fun e => this.mpr (by omega)⟩
  have w29 : (nI (20 + w) = 29) ↔ w = 9 := by
    have := nI_eq (a := 20 + w) (b := 29) (by omega) (by omega)
    exact ⟨fun e => by have := this.mp e; omega, fun e => this.mpr (by omega)⟩
  have x0 : (nI w = 0) ↔ w = 0 := nI_eq (b := 0) (by omega) (by omega)
  have x1 : (nI w = 1) ↔ w = 1 := nI_eq (b := 1) (by omega) (by omega)
  have x9 : (nI w = 9) ↔ w = 9 := nI_eq (b := 9) (by omega) (by omega)
  rw [w20]
  -- the reference's side, for the same two ways
  have ref : ∀ nb2 : Nat → Int32, (∀ row1 : Nat → Int32, row1 = (if w = 0 then upd (upd row (6 + w) v2) 49 v2 else upd row (6 + w) v2) → (w = 1 ∨ (w = 9 ∧ v2 = 0) → P 1 1 nb2 0 (upd row1 43 (row1 7))) ∧ (¬ (w = 1 ∨ (w = 9 ∧ v2 = 0)) → P 1 1 nb2 0 row1)) → wp_X12_sets (nI w) v2 th row (fun r' th' row' => P 1 r' nb2 th' row') := by
    intro nb2 hQ
    unfold wp_X12_sets
    refine t_isSet hw (fun _ => ⟨fun z => absurd z (by decide), fun _ => ?_⟩) (fun y => absurd q2 y)
    simp (disch := omega) only [lA, nI_clamp, vpT, true_and, forall_eq, x0, x1, x9]
    intro k6 hk6
    have go : k6 (if w = 0 then upd (upd row (6 + w) v2) 49 v2 else upd row (6 + w) v2) := by
      obtain ⟨a1, a2⟩ := hQ _ rfl
      refine hk6 _ (fun k8 hk8 => ⟨fun e => hk8 (a1 (Or.inl e)), fun e => ⟨fun e9 => ⟨fun ev => hk8 (a1 (Or.inr ⟨e9, ev⟩)), fun ev => a2 ?_⟩, fun e9 => a2 ?_⟩⟩)
      · rintro (y | ⟨_, y⟩)
        · exact e y
        · exact ev y
      · rintro (y | ⟨y, _⟩)
        · exact e y
        · exact e9 y
    refine ⟨fun e => ?_, fun e => ?_⟩
    · rw [if_pos e] at go; exact go
    · rw [if_neg e] at go; exact go
  have go : k11 (if w = 0 then upd (upd nb (20 + w) v2) 37 v2 else upd nb (20 + w) v2) := by
    refine hk11 _ ?_
    rw [w21, w29]
    generalize hnb : (if w = 0 then upd (upd nb (20 + w) v2) 37 v2 else upd nb (20 + w) v2) = nb1
    intro k13 hk13
    have yes : (w = 1 ∨ (w = 9 ∧ v2 = 0)) → k13 := fun c => hk13 (ref (upd nb1 31 (nb1 21)) (fun row1 er => ⟨fun _ => hp _ _ _ (fin _ _ (st nb1 row1 hnb.symm er).1), fun y => absurd c y⟩))
    have no : ¬ (w = 1 ∨ (w = 9 ∧ v2 = 0)) → wp_X12_sets (nI w) v2 th row (fun r' th' row' => P 1 r' nb1 th' row') := fun c => ref nb1 (fun row1 er => ⟨fun y => absurd y c, fun _ => hp _ _ _ (st nb1 row1 hnb.symm er).1⟩)
    refine ⟨fun e => yes (Or.inl e), fun e => ⟨fun e9 => ⟨fun ev => yes (Or.inr ⟨e9, ev⟩), fun ev => no ?_⟩, fun e9 => no ?_⟩⟩
    · rintro (y | ⟨_, y⟩)
      · exact e y
      · exact ev y
    · rintro (y | ⟨y, _⟩)
      · exact e y
      · exact e9 y
  refine ⟨fun e => ?_, fun e => ?_⟩
  · rw [if_pos e] at go; exact go
  · rw [if_neg e] at go; exact go
