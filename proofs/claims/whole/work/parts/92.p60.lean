/-! pure part 60: queries: packet, played, late -/
theorem mask3 (n : Nat) : nI n &&& 3 = nI (n % 4) := fa_mask n 2
theorem mask255 (n : Nat) : nI n &&& 255 = nI (n % 256) := fa_mask n 8
set_option maxHeartbeats 800000 in
set_option maxRecDepth 100000 in
theorem s_packet {v1 v2 th : Int32} {t cd nx ln hd bl hb : Nat} {nb rec dly : Nat → Int32} {pnum psent pover ppb : Nat → Int32} {wb : Nat → Nat → Int32} {wsz : Nat → Int32} {cb : Nat → Nat → Int32} {csz : Nat → Int32} {bnum : Nat → Int32} {bcb : Nat → Nat → Int32} {bcsz : Nat → Int32} {A0 B0 A1 B1 split told quants backs scales bits : Nat → Int32} {tw me sz : Int32} {bytes : Nat → Int32} {eA0 eB0 eA1 eB1 e0 e1 recs : Nat → Int32} {row : Nat → Int32} {P : Int32 → Int32 → Int32 → Prop} (h : RW t cd nx ln hd bl hb nb rec dly pnum psent pover ppb wb wsz cb csz bnum bcb bcsz A0 B0 A1 B1 split told quants backs scales bits tw me sz bytes eA0 eB0 eA1 eB1 e0 e1 recs row) (hp : ∀ r, P r r 0) :
    wp_X11_packet v1 v2 rec (fun r => wp_X12_packet v1 v2 th row (fun r' th' => P r r' th')) := by
  unfold wp_X11_packet wp_X12_packet
  refine t_within (fun q1 => ⟨fun z => absurd z (by decide), fun _ => ?_⟩) (fun q1 => ⟨fun _ => t_inI 0 2499 (fun y => absurd y q1) (fun _ => ⟨fun _ => hp _, fun z => absurd rfl z⟩), fun z => absurd rfl z⟩)
  have q1' := q1
  obtain ⟨k, _, hk, rfl⟩ := btw_n (a := 0) (b := 2499) q1
  obtain ⟨st, hh, sn, sl, ⟨b1, b2, b3, b4, b5, b6, b7, b8, b9, b10⟩, _⟩ := h.aft.2.2.1 k (by omega)
  have ref : ∀ x : Int32, (v2 = 0 → x = nI st) → (v2 = 1 → x = nI sn) → (v2 = 2 → x = nI hh) → (v2 = 3 → x = nI sl - 1) → (¬ v2 = 0 → ¬ v2 = 1 → ¬ v2 = 2 → ¬ v2 = 3 → x = -1) → wp_X12_in (nI k).toInt64 (0 : Int64) (2499 : Int64) (fun r1 => (r1 = 0 → P x (-1) 0) ∧ (¬ r1 = 0 → wp_X12_in v2.toInt64 (0 : Int64) (3 : Int64) (fun r3 => (r3 = 0 → P x (-1) 0) ∧ (¬ r3 = 0 → wp_X12_packetAt (nI k) (fun r5 => (v2 = 3 → vp_in (r5 + 0) 13385 ∧ ((row (r5 + 0).toNatClampNeg) = 2 → vp_in (r5 + v2) 13385 ∧ P x (row (r5 + v2).toNatClampNeg) 0) ∧ (¬ (row (r5 + 0).toNatClampNeg) = 2 → P x (-1) 0)) ∧ (¬ v2 = 3 → vp_in (r5 + v2) 13385 ∧ P x (row (r5 + v2).toNatClampNeg) 0)))))) := by
    intro x x0 x1 x2 x3 x4
    refine t_inI 0 2499 (fun _ => ⟨fun z => absurd z (by decide), fun _ => t_inI 0 3 (fun q2 => ⟨fun z => absurd z (by decide), fun _ => ?_⟩) (fun q2 => ⟨fun _ => ?_, fun z => absurd rfl z⟩)⟩) (fun y => absurd q1' y)
    · unfold wp_X12_packetAt
      dsimp only
      have a0 : ((3385 : Int32) + (4 * nI k)) + 0 = nI (3385 + 4 * k) := by rw [lM, lA, Int32.add_zero]
      have av : ∀ w, ((3385 : Int32) + (4 * nI k)) + nI w = nI (3385 + 4 * k + w) := fun w => by rw [lM, lA, nI_add]
      obtain ⟨w, _, hw, rfl⟩ := btw_n (a := 0) (b := 3) q2
      rw [a0, av, nI_clamp (by omega), nI_clamp (by omega), b5]
      have v0 : ∀ m, m < 13385 → vp_in (nI m) 13385 := fun m hm => vp_in_nI hm (by omega)
      refine ⟨fun y => ⟨v0 _ (by omega), fun s2 => ⟨v0 _ (by omega), ?_⟩, fun s2 => ?_⟩, fun y => ⟨v0 _ (by omega), ?_⟩⟩
      · have hw3 : w = 3 := (nI_eq (b := 3) (by omega) (by omega)).mp y
        have hs2 : st = 2 := (nI_eq (b := 2) (by omega) (by omega)).mp s2
        obtain ⟨c1, c2⟩ := b8 hs2
        rw [x3 y, hw3, c2, rS (by omega)]; exact hp _
      · have hs2 : st ≠ 2 := fun u => s2 (by rw [u]; rfl)
        rw [x3 y, b9 hs2]
        have : nI 0 - 1 = (-1 : Int32) := by decide
        rw [this]; exact hp _
      · have hw4 : w = 0 ∨ w = 1 ∨ w = 2 := by
          have : w ≠ 3 := fun u => y (by rw [u]; rfl)
          omega
        rcases hw4 with rfl | rfl | rfl
        · rw [x0 rfl, Nat.add_zero, b5]; exact hp _
        · rw [x1 rfl, b6]; exact hp _
        · rw [x2 rfl, b7]; exact hp _
    · have hn : ∀ w : Nat, w ≤ 3 → ¬ v2 = nI w := fun w hw e => q2 (by rw [e]; exact (btw_i (a := 0) (b := 3)).mpr ⟨by omega, hw⟩)
      rw [x4 (hn 0 (by omega)) (hn 1 (by omega)) (hn 2 (by omega)) (hn 3 (by omega))]; exact hp _
  unfold wp_X0_status wp_X0_sentPieces wp_X0_howHeard wp_X0_arrivalSlot
  rw [nI_clamp (show k < 2 ^ 31 by omega), b10]
  have hv : vp_in (nI k) 2500 := vp_in_nI (by omega) (by omega)
  refine ⟨fun y => ⟨hv, ?_⟩, fun y => ⟨hv, ?_⟩, fun y => ⟨hv, ?_⟩, fun y => ⟨hv, ?_⟩, fun y0 y1 y2 y3 => ?_⟩
  · subst y
    refine ref _ (fun _ => ?_) (fun z => absurd z (by decide)) (fun z => absurd z (by decide)) (fun z => absurd z (by decide)) (fun z => absurd rfl z)
    rw [mask3]; exact congrArg nI (by omega)
  · subst y
    refine ref _ (fun z => absurd z (by decide)) (fun _ => ?_) (fun z => absurd z (by decide)) (fun z => absurd z (by decide)) (fun _ z => absurd rfl z)
    rw [shrI 4 4 (by omega) (by decide), mask255]; exact congrArg nI (by omega)
  · subst y
    refine ref _ (fun z => absurd z (by decide)) (fun z => absurd z (by decide)) (fun _ => ?_) (fun z => absurd z (by decide)) (fun _ _ z => absurd rfl z)
    rw [shrI 2 2 (by omega) (by decide), mask3]; exact congrArg nI (by omega)
  · subst y
    refine ref _ (fun z => absurd z (by decide)) (fun z => absurd z (by decide)) (fun z => absurd z (by decide)) (fun _ => ?_) (fun _ _ _ z => absurd rfl z)
    rw [shrI 12 12 (by omega) (by decide), show (st + 4 * hh + 16 * sn + 4096 * sl) / 2 ^ 12 = sl by omega]
  · exact ref _ (fun z => absurd z y0) (fun z => absurd z y1) (fun z => absurd z y2) (fun z => absurd z y3) (fun _ _ _ _ => rfl)
theorem t_told {t cd nx ln hd bl hb : Nat} {nb rec dly : Nat → Int32} {pnum psent pover ppb : Nat → Int32} {wb : Nat → Nat → Int32} {wsz : Nat → Int32} {cb : Nat → Nat → Int32} {csz : Nat → Int32} {bnum : Nat → Int32} {bcb : Nat → Nat → Int32} {bcsz : Nat → Int32} {A0 B0 A1 B1 split told quants backs scales bits : Nat → Int32} {tw me sz : Int32} {bytes : Nat → Int32} {eA0 eB0 eA1 eB1 e0 e1 recs : Nat → Int32} {row : Nat → Int32} {post : Int32 → Prop} (h : RW t cd nx ln hd bl hb nb rec dly pnum psent pover ppb wb wsz cb csz bnum bcb bcsz A0 B0 A1 B1 split told quants backs scales bits tw me sz bytes eA0 eB0 eA1 eB1 e0 e1 recs row) (hp : post (nI (min nx 16))) : wp_X6_toldFrames nb post := by
  have n7 : nb 7 = nI nx := (h.aft.1 7 (by omega) (by omega) (by omega) (by omega)).trans h.aft.2.2.2.2.2.2.2.2
  obtain ⟨p, _, _, hb2⟩ := h.ph
  have := h.ht
  unfold wp_X6_toldFrames
  rw [n7]
  rintro _ rfl
  have : jmin 16 (nI nx) = nI (min 16 nx) := jmin_n (a := 16) (by omega) (by omega)
  rw [this, Nat.min_comm]; exact hp
theorem t_recordOf {t cd nx ln hd bl hb a w : Nat} {nb rec dly : Nat → Int32} {pnum psent pover ppb : Nat → Int32} {wb : Nat → Nat → Int32} {wsz : Nat → Int32} {cb : Nat → Nat → Int32} {csz : Nat → Int32} {bnum : Nat → Int32} {bcb : Nat → Nat → Int32} {bcsz : Nat → Int32} {A0 B0 A1 B1 split told quants backs scales bits : Nat → Int32} {tw me sz : Int32} {bytes : Nat → Int32} {eA0 eB0 eA1 eB1 e0 e1 recs : Nat → Int32} {row : Nat → Int32} {post : Int32 → Prop} (h : RW t cd nx ln hd bl hb nb rec dly pnum psent pover ppb wb wsz cb csz bnum bcb bcsz A0 B0 A1 B1 split told quants backs scales bits tw me sz bytes eA0 eB0 eA1 eB1 e0 e1 recs row) (ha : a < min nx 16) (hw1 : 1 ≤ w) (hw : w < 7) (hp : post (row (3257 + 7 * (min nx 16 - 1 - a) + w))) : wp_X6_recordOf (nI a) (nI w) nb recs post := by
  have n7 : nb 7 = nI nx := (h.aft.1 7 (by omega) (by omega) (by omega) (by omega)).trans h.aft.2.2.2.2.2.2.2.2
  obtain ⟨p, _, _, hb2⟩ := h.ph
  have := h.ht
  unfold wp_X6_recordOf
  rw [n7, rS (by omega), pk_sub (by omega)]
  refine t6_recordAt (by omega) ?_
  rw [nI_add, nI_clamp (by omega)]
  refine ⟨vp_in_nI (by omega) (by omega), ?_⟩
  obtain ⟨_, c2⟩ := h.pl.rc (min nx 16 - 1 - a) (by omega)
  have e := c2 w hw1 hw
  rw [show nx - min nx 16 + (min nx 16 - 1 - a) = nx - 1 - a by omega] at e
  rw [e]; exact hp
set_option maxHeartbeats 800000 in
set_option maxRecDepth 100000 in
theorem s_played {v1 v2 th : Int32} {t cd nx ln hd bl hb : Nat} {nb rec dly : Nat → Int32} {pnum psent pover ppb : Nat → Int32} {wb : Nat → Nat → Int32} {wsz : Nat → Int32} {cb : Nat → Nat → Int32} {csz : Nat → Int32} {bnum : Nat → Int32} {bcb : Nat → Nat → Int32} {bcsz : Nat → Int32} {A0 B0 A1 B1 split told quants backs scales bits : Nat → Int32} {tw me sz : Int32} {bytes : Nat → Int32} {eA0 eB0 eA1 eB1 e0 e1 recs : Nat → Int32} {row : Nat → Int32} {P : Int32 → Int32 → Int32 → Prop} (h : RW t cd nx ln hd bl hb nb rec dly pnum psent pover ppb wb wsz cb csz bnum bcb bcsz A0 B0 A1 B1 split told quants backs scales bits tw me sz bytes eA0 eB0 eA1 eB1 e0 e1 recs row) (hp : ∀ r, P r r 0) :
    wp_X11_played v1 v2 nb recs (fun r => wp_X12_played_ v1 v2 th row (fun r' th' => P r r' th')) := by
  have n7 : nb 7 = nI nx := (h.aft.1 7 (by omega) (by omega) (by omega) (by omega)).trans h.aft.2.2.2.2.2.2.2.2
  obtain ⟨p, _, _, hb2⟩ := h.ph
  have := h.ht
  have ez : (row 52).toInt64 - (1 : Int64) = (nI (min nx 16) - 1).toInt64 := by rw [h.pl.tl]; exact wide_pred (by omega)
  unfold wp_X11_played wp_X12_played_
  refine t_told h ?_
  refine t_within (fun q1 => ⟨fun z => absurd z (by decide), fun _ => ?_⟩) (fun q1 => ⟨fun _ => t_inI 0 (nI (min nx 16) - 1) (fun y => absurd y q1) (fun _ => ⟨fun _ => hp _, fun z => absurd rfl z⟩) (by decide) ez, fun z => absurd rfl z⟩)
  have q1' := q1
  have htl : 0 < min nx 16 := by
    rcases Nat.eq_zero_or_pos (min nx 16) with l0 | l0
    · exfalso
      have a := q1.1
      have b := q1.2
      rw [l0, fa_le] at b
      rw [fa_le] at a
      have e1 : (nI 0 - 1).toInt = -1 := by decide
      have e2 : (0 : Int32).toInt = 0 := by decide
      omega
    · exact l0
  rw [rS (by omega)] at q1
  obtain ⟨a, _, ha, rfl⟩ := btw_n (a := 0) (b := min nx 16 - 1) q1
  have ref : ∀ x : Int32, (∀ w, w ≤ 6 → v2 = nI w → x = row (3257 + 7 * (min nx 16 - 1 - a) + w)) → (¬ btw v2 0 6 → x = -2147483648) → wp_X12_in (nI a).toInt64 (0 : Int64) ((row 52).toInt64 - (1 : Int64)) (fun r2 => (r2 = 0 → P x (-2147483648) 0) ∧ (¬ r2 = 0 → wp_X12_in v2.toInt64 (0 : Int64) (6 : Int64) (fun r4 => (r4 = 0 → P x (-2147483648) 0) ∧ (¬ r4 = 0 → vp_in ((3257 + (7 * (((row 52) - 1) - nI a))) + v2) 13385 ∧ P x (row ((3257 + (7 * (((row 52) - 1) - nI a))) + v2).toNatClampNeg) 0)))) := by
    intro x hx1 hx0
    refine t_inI 0 (nI (min nx 16) - 1) (fun _ => ⟨fun z => absurd z (by decide), fun _ => t_inI 0 6 (fun q2 => ⟨fun z => absurd z (by decide), fun _ => ?_⟩) (fun q2 => ⟨fun _ => by rw [hx0 q2]; exact hp _, fun z => absurd rfl z⟩)⟩) (fun y => absurd q1' y) (by decide) ez
    obtain ⟨w, _, hw, rfl⟩ := btw_n (a := 0) (b := 6) q2
    rw [h.pl.tl, rS (by omega), pk_sub (by omega), lM, lA, nI_add, nI_clamp (by omega), hx1 w hw rfl]
    exact ⟨vp_in_nI (by omega) (by omega), hp _⟩
  refine ⟨fun y => ?_, fun y => ?_⟩
  · rw [n7, rS (by omega), pk_sub (by omega)]
    refine ref _ (fun w hw e => ?_) (fun z => absurd ?_ z)
    · have hw0 : w = 0 := ((nI_eq (a := w) (b := 0) (by omega) (by omega)).mp (e.symm.trans y))
      rw [hw0, Nat.add_zero, (h.pl.rc _ (by omega)).1]
      exact congrArg nI (by omega)
    · rw [y]; decide
  · refine t_within (fun q2 => ⟨fun z => absurd z (by decide), fun _ => ?_⟩) (fun q2 => ⟨fun _ => ref _ (fun w hw e => ?_) (fun _ => rfl), fun z => absurd rfl z⟩)
    · obtain ⟨w, hw1, hw2, rfl⟩ := btw_n (a := 1) (b := 6) q2
      refine t_recordOf h (by omega) hw1 (by omega) ?_
      refine ref _ (fun w' hw' e => ?_) (fun z => absurd ((btw_i (a := 0) (b := 6)).mpr ⟨by omega, hw2⟩) z)
      rw [(nI_eq (by omega) (by omega)).mp e]
    · exfalso
      have hw0 : w ≠ 0 := fun u => y (by rw [e, u]; rfl)
      exact q2 (by rw [e]; exact (btw_i (a := 1) (b := 6)).mpr ⟨by omega, hw⟩)
