/-! pure part 62: queries: dealt, band, dealtBy -/
theorem t_isColumn {v0 v1 : Int32} {post : Int32 → Prop} (h1 : ∀ c b, v0 = nI c → c < 2 → v1 = nI b → b < 8 → post 1) (h0 : ¬ (btw v0 0 1 ∧ btw v1 0 7) → post 0) : wp_X11_isColumn v0 v1 post := by
  unfold wp_X11_isColumn
  refine t_within (fun q1 => ⟨fun z => absurd z (by decide), fun _ => t_within (fun q2 => ⟨fun z => absurd z (by decide), fun _ => ?_⟩) (fun q2 => ⟨fun _ => h0 (fun y => q2 y.2), fun z => absurd rfl z⟩)⟩) (fun q1 => ⟨fun _ => h0 (fun y => q1 y.1), fun z => absurd rfl z⟩)
  obtain ⟨c, _, hc, e1⟩ := btw_n (a := 0) (b := 1) q1
  obtain ⟨b, _, hb, e2⟩ := btw_n (a := 0) (b := 7) q2
  exact h1 c b e1 (by omega) e2 (by omega)
theorem t_isBand {v0 v1 : Int32} {post : Int32 → Prop} (h1 : btw v0 0 1 ∧ btw v1 0 7 → post 1) (h0 : ¬ (btw v0 0 1 ∧ btw v1 0 7) → post 0) : wp_X12_isBand v0 v1 post := by
  unfold wp_X12_isBand
  exact t_inI 0 1 (fun q1 => ⟨fun z => absurd z (by decide), fun _ => t_inI 0 7 (fun q2 => ⟨fun z => absurd z (by decide), fun _ => h1 ⟨q1, q2⟩⟩) (fun q2 => ⟨fun _ => h0 (fun y => q2 y.2), fun z => absurd rfl z⟩)⟩) (fun q1 => ⟨fun _ => h0 (fun y => q1 y.1), fun z => absurd rfl z⟩)
theorem colB {c b : Nat} (hc : c < 2) (hb : b < 8) : btw (nI c) 0 1 ∧ btw (nI b) 0 7 := ⟨(btw_i (a := 0) (b := 1)).mpr ⟨by omega, by omega⟩, (btw_i (a := 0) (b := 7)).mpr ⟨by omega, by omega⟩⟩
theorem t_takeScales {row sc : Nat → Int32} {post : (Nat → Int32) → Prop} (h : ∀ f : Nat → Int32, (∀ i, i < 16 → f i = row (621 + i)) → post f) : wp_X12_takeScales row sc post := by
  unfold wp_X12_takeScales
  rintro _ rfl
  refine cinv1 0 16 (fun k f => ∀ i, i < k → f i = row (621 + i)) (fun i hi => absurd hi (Nat.not_lt_zero _)) ?_ ?_
  · intro k f _ hk hI g hg
    rw [lA, nI_clamp (by omega), nI_clamp (by omega)]
    refine ⟨vp_in_nI (by omega) (by omega), vp_in_nI (by omega) (by omega), ?_⟩
    rintro _ rfl
    rw [rA]
    refine hg _ (fun i hi => ?_)
    by_cases e : i = k
    · rw [e, pk_us]
    · rw [pk_un e]; exact hI i (by omega)
  · intro f hI
    exact h f hI
set_option maxHeartbeats 800000 in
set_option maxRecDepth 100000 in
theorem s_dealt {v1 v2 v3 th : Int32} {msc : Nat → Int32} {t cd nx ln hd bl hb : Nat} {nb rec dly : Nat → Int32} {pnum psent pover ppb : Nat → Int32} {wb : Nat → Nat → Int32} {wsz : Nat → Int32} {cb : Nat → Nat → Int32} {csz : Nat → Int32} {bnum : Nat → Int32} {bcb : Nat → Nat → Int32} {bcsz : Nat → Int32} {A0 B0 A1 B1 split told quants backs scales bits : Nat → Int32} {tw me sz : Int32} {bytes : Nat → Int32} {eA0 eB0 eA1 eB1 e0 e1 recs : Nat → Int32} {row : Nat → Int32} {P : Int32 → Int32 → Int32 → (Nat → Int32) → Prop} (h : RW t cd nx ln hd bl hb nb rec dly pnum psent pover ppb wb wsz cb csz bnum bcb bcsz A0 B0 A1 B1 split told quants backs scales bits tw me sz bytes eA0 eB0 eA1 eB1 e0 e1 recs row) (hp : ∀ r f, P r r 0 f) :
    wp_X11_dealt v1 v2 v3 nb tw me bits scales (fun r => wp_X12_dealt v1 v2 v3 th row msc (fun r' th' f => P r r' th' f)) := by
  unfold wp_X11_dealt wp_X12_dealt
  refine t_noFrame h (fun c0 => ⟨fun z => absurd z (by decide), fun _ => t_isCoded h (fun _ => ⟨fun _ => hp _ _, fun z => absurd rfl z⟩) (fun y => absurd y (by omega))⟩) (fun c0 => ⟨fun _ => ?_, fun z => absurd rfl z⟩)
  have co : ∀ Q : Int32 → Prop, Q 1 → wp_X12_isCoded row Q := fun Q hQ => t_isCoded h (fun y => absurd y (by omega)) (fun _ => hQ)
  obtain ⟨_, _, ⟨sc, bt, hsc, hbt, _⟩, etw, ⟨m, hm1, em, em2⟩, _⟩ := h.fr c0
  refine t_isColumn (fun c b e1 hc e2 hb => ⟨fun z => absurd z (by decide), fun _ => ?_⟩) (fun q => ⟨fun _ => co _ ⟨fun y => absurd y (by decide), fun _ => t_isBand (fun y => absurd y q) (fun _ => ⟨fun _ => hp _ _, fun z => absurd rfl z⟩)⟩, fun z => absurd rfl z⟩)
  subst e1
  subst e2
  rw [rM, nI_add]
  rintro _ rfl
  rw [nI_clamp (show c * 8 + b < 2 ^ 31 by omega)]
  have hv : vp_in (nI (c * 8 + b)) 16 := vp_in_nI (by omega) (by omega)
  have ref : ∀ x : Int32, (v3 = 0 → x = row (621 + (c * 8 + b))) → (v3 = 1 → x = ndF (row (621 + (c * 8 + b))) (nI m) (row (17 + b))) → (v3 = 2 → x = row (637 + (c * 8 + b))) → (v3 = 3 → x = (row 653 >>> (nI b &&& 31)) &&& 1) → (¬ btw v3 0 3 → x = -2147483648) → wp_X12_isCoded row (fun r1 => (r1 = 0 → P x (-2147483648) 0 msc) ∧ (¬ r1 = 0 → wp_X12_isBand (nI c) (nI b) (fun r3 => (r3 = 0 → P x (-2147483648) 0 msc) ∧ (¬ r3 = 0 → wp_X12_in v3.toInt64 (0 : Int64) (3 : Int64) (fun r5 => (r5 = 0 → P x (-2147483648) 0 msc) ∧ (¬ r5 = 0 → ∀ x7 : Int32, x7 = (8 * nI c) + nI b → wp_X12_takeScales row msc (fun f8 => (v3 = 0 → vp_in x7 16 ∧ P x (f8 x7.toNatClampNeg) 0 f8) ∧ (v3 = 1 → wp_X12_methodCoded row (fun r12 => wp_X12_needOf x7 r12 f8 row (fun r13 => P x r13 0 f8))) ∧ (v3 = 2 → vp_in (637 + x7) 13385 ∧ P x (row (637 + x7).toNatClampNeg) 0 f8) ∧ (¬ v3 = 0 → ¬ v3 = 1 → ¬ v3 = 2 → P x (((row 653) >>> (nI b &&& 31)) &&& 1) 0 f8)))))))) := by
    intro x x0 x1 x2 x3 x4
    refine co _ ⟨fun y => absurd y (by decide), fun _ => t_isBand (fun _ => ⟨fun z => absurd z (by decide), fun _ => t_inI 0 3 (fun q3 => ⟨fun z => absurd z (by decide), fun _ => ?_⟩) (fun q3 => ⟨fun _ => by rw [x4 q3]; exact hp _ _, fun z => absurd rfl z⟩)⟩) (fun y => absurd (colB hc hb) y)⟩
    rw [lM, nI_add]
    rintro _ rfl
    refine t_takeScales (fun f hf => ?_)
    rw [show 8 * c + b = c * 8 + b by omega, lA, nI_clamp (by omega), nI_clamp (by omega), hf _ (by omega)]
    refine ⟨fun y => ⟨hv, by rw [x0 y]; exact hp _ _⟩, fun y => ?_, fun y => ⟨vp_in_nI (by omega) (by omega), by rw [x2 y]; exact hp _ _⟩, fun y0 y1 y2 => ?_⟩
    · unfold wp_X12_methodCoded
      refine t12_need (by omega) ?_
      rw [em2, hf _ (by omega), show (c * 8 + b) % 8 = b by omega, x1 y]; exact hp _ _
    · have y3 : v3 = 3 := by
        obtain ⟨w, _, hw, e⟩ := btw_n (a := 0) (b := 3) q3
        have hw4 : w = 0 ∨ w = 1 ∨ w = 2 ∨ w = 3 := by omega
        rcases hw4 with rfl | rfl | rfl | rfl
        · exact absurd e y0
        · exact absurd e y1
        · exact absurd e y2
        · exact e
      rw [x3 y3]; exact hp _ _
  refine ⟨fun y => ⟨hv, ?_⟩, fun y => ?_, fun y => ⟨hv, ?_⟩, fun y => ?_, fun y0 y1 y2 y3 => ?_⟩
  · subst y
    exact ref _ (fun _ => by rw [(hsc _ (by omega)).2.1, (hsc _ (by omega)).2.2]) (fun z => absurd z (by decide)) (fun z => absurd z (by decide)) (fun z => absurd z (by decide)) (fun z => absurd (by decide) z)
  · subst y
    refine t4_need (by omega) rfl ?_
    refine ref _ (fun z => absurd z (by decide)) (fun _ => ?_) (fun z => absurd z (by decide)) (fun z => absurd z (by decide)) (fun z => absurd (by decide) z)
    have e40 : nb (40 + (c * 8 + b) % 8) = row (17 + b) := by
      rw [show (c * 8 + b) % 8 = b by omega]
      exact (h.aft.1 (40 + b) (by omega) (by omega) (by omega) (by omega)).trans (congrArg row (hm_loud b hb))
    rw [e40, em, (hsc _ (by omega)).2.1, (hsc _ (by omega)).2.2]
  · subst y
    exact ref _ (fun z => absurd z (by decide)) (fun z => absurd z (by decide)) (fun _ => by rw [(hbt _ (by omega)).2.1, (hbt _ (by omega)).2.2]) (fun z => absurd z (by decide)) (fun z => absurd (by decide) z)
  · subst y
    exact ref _ (fun z => absurd z (by decide)) (fun z => absurd z (by decide)) (fun z => absurd z (by decide)) (fun _ => by rw [etw]) (fun z => absurd (by decide) z)
  · exact ref _ (fun z => absurd z y0) (fun z => absurd z y1) (fun z => absurd z y2) (fun z => absurd z y3) (fun _ => rfl)
set_option maxHeartbeats 800000 in
set_option maxRecDepth 100000 in
theorem s_band {v1 v2 v3 v4 th : Int32} {t cd nx ln hd bl hb : Nat} {nb rec dly : Nat → Int32} {pnum psent pover ppb : Nat → Int32} {wb : Nat → Nat → Int32} {wsz : Nat → Int32} {cb : Nat → Nat → Int32} {csz : Nat → Int32} {bnum : Nat → Int32} {bcb : Nat → Nat → Int32} {bcsz : Nat → Int32} {A0 B0 A1 B1 split told quants backs scales bits : Nat → Int32} {tw me sz : Int32} {bytes : Nat → Int32} {eA0 eB0 eA1 eB1 e0 e1 recs : Nat → Int32} {row : Nat → Int32} {P : Int32 → Int32 → Int32 → Prop} (h : RW t cd nx ln hd bl hb nb rec dly pnum psent pover ppb wb wsz cb csz bnum bcb bcsz A0 B0 A1 B1 split told quants backs scales bits tw me sz bytes eA0 eB0 eA1 eB1 e0 e1 recs row) (hp : ∀ r, P r r 0) :
    wp_X11_band v1 v2 v3 v4 nb backs bits quants told split (fun r => wp_X12_band v1 v2 v3 v4 th row (fun r' th' => P r r' th')) := by
  unfold wp_X11_band
  refine t_noFrame h (fun c0 => ⟨fun z => absurd z (by decide), fun _ => by unfold wp_X12_band; exact t_isCoded h (fun _ => ⟨fun _ => hp _, fun z => absurd rfl z⟩) (fun y => absurd y (by omega))⟩) (fun c0 => ⟨fun _ => ?_, fun z => absurd rfl z⟩)
  have co : ∀ Q : Int32 → Prop, Q 1 → wp_X12_isCoded row Q := fun Q hQ => t_isCoded h (fun y => absurd y (by omega)) (fun _ => hQ)
  obtain ⟨esp, eto, ⟨sc, bt, hsc, hbt, hqb⟩, _⟩ := h.fr c0
  refine t_isColumn (fun c b e1 hc e2 hb => ⟨fun z => absurd z (by decide), fun _ => ?_⟩) (fun q => ⟨fun _ => by unfold wp_X12_band; exact co _ ⟨fun y => absurd y (by decide), fun _ => t_isBand (fun y => absurd y q) (fun _ => ⟨fun _ => hp _, fun z => absurd rfl z⟩)⟩, fun z => absurd rfl z⟩)
  subst e1
  subst e2
  refine t_within (fun q3 => ⟨fun z => absurd z (by decide), fun _ => ?_⟩) (fun q3 => ⟨fun _ => by unfold wp_X12_band; exact co _ ⟨fun y => absurd y (by decide), fun _ => t_isBand (fun _ => ⟨fun z => absurd z (by decide), fun _ => t_inI 0 3 (fun y => absurd y q3) (fun _ => ⟨fun _ => hp _, fun z => absurd rfl z⟩)⟩) (fun y => absurd (colB hc hb) y)⟩, fun z => absurd rfl z⟩)
  have q3' := q3
  obtain ⟨k, _, hk, rfl⟩ := btw_n (a := 0) (b := 3) q3
  have e1 : nI c * 8 + nI b = nI (8 * c + b) := by rw [rM, nI_add, Nat.mul_comm]
  have e2 : nI k * 16 + nI (8 * c + b) = nI (16 * k + (8 * c + b)) := by rw [rM, nI_add, Nat.mul_comm]
  rw [e1]
  rintro _ rfl
  rw [e2]
  rintro _ rfl
  rw [nI_clamp (show 8 * c + b < 2 ^ 31 by omega), nI_clamp (show 16 * k + (8 * c + b) < 2 ^ 31 by omega)]
  have hv : vp_in (nI (16 * k + (8 * c + b))) 64 := vp_in_nI (by omega) (by omega)
  have hv2 : vp_in (nI (8 * c + b)) 16 := vp_in_nI (by omega) (by omega)
  have c16 : 8 * c + b < 16 := by omega
  generalize hi : 8 * c + b = i at c16 hv hv2
  obtain ⟨s15, es1, es2⟩ := hsc i c16
  obtain ⟨b16, eb1, eb2⟩ := hbt i c16
  obtain ⟨eq1, ek1⟩ := hqb i c16 k (by omega)
  have ht1 := eto i c16 k (by omega)
  have hs1 := esp i c16 k (by omega)
  rw [ht1] at eq1 ek1
  have ref : ∀ x : Int32, (v4 = 0 → x = row (493 + (4 * i + k))) → (v4 = 1 → x = row (557 + (4 * i + k))) → (v4 = 2 → x = if bt i = 0 then -1 else nI (qN (row (557 + (4 * i + k))) (sc i) (bt i))) → (v4 = 3 → x = bk (qN (row (557 + (4 * i + k))) (sc i) (bt i)) (sc i) (bt i)) → (¬ btw v4 0 3 → x = -2147483648) → wp_X12_band (nI c) (nI b) (nI k) v4 th row (fun r' th' => P x r' th') := by
    intro x x0 x1 x2 x3 x4
    unfold wp_X12_band
    refine co _ ⟨fun y => absurd y (by decide), fun _ => t_isBand (fun _ => ⟨fun z => absurd z (by decide), fun _ => t_inI 0 3 (fun _ => ⟨fun z => absurd z (by decide), fun _ => t_inI 0 3 (fun q4 => ⟨fun z => absurd z (by decide), fun _ => ?_⟩) (fun q4 => ⟨fun _ => by rw [x4 q4]; exact hp _, fun z => absurd rfl z⟩)⟩) (fun y => absurd q3' y)⟩) (fun y => absurd (colB hc hb) y)⟩
    have eA : ((32 : Int32) * nI c + 4 * nI b) + nI k = nI (4 * i + k) := by rw [lM, lM, nI_add, nI_add, ← hi]; exact congrArg nI (by omega)
    unfold wp_X12_bandAt
    rw [eA, lM, nI_add, hi]
    rintro _ rfl
    rw [lA, lA, lA, lA, nI_clamp (by omega), nI_clamp (by omega), nI_clamp (by omega), nI_clamp (by omega), eb2, es2]
    have v0 : ∀ m, m < 13385 → vp_in (nI m) 13385 := fun m hm => vp_in_nI hm (by omega)
    refine ⟨v0 _ (by omega), ?_⟩
    rintro _ rfl
    refine ⟨v0 _ (by omega), ?_⟩
    rintro _ rfl
    refine ⟨v0 _ (by omega), ?_⟩
    rintro _ rfl
    intro k18 hk18
    have y3 : ¬ v4 = 0 → ¬ v4 = 1 → ¬ v4 = 2 → v4 = 3 := fun y0 y1 y2 => by
      obtain ⟨w, _, hw, e⟩ := btw_n (a := 0) (b := 3) q4
      have hw4 : w = 0 ∨ w = 1 ∨ w = 2 ∨ w = 3 := by omega
      rcases hw4 with rfl | rfl | rfl | rfl
      · exact absurd e y0
      · exact absurd e y1
      · exact absurd e y2
      · exact e
    have hz : (nI (bt i) = 0) ↔ bt i = 0 := nI_eq (b := 0) (by omega) (by omega)
    rw [hz]
    refine ⟨fun z => hk18 _ ⟨fun y => ⟨v0 _ (by omega), by rw [x0 y]; exact hp _⟩, fun y0 => ⟨fun y1 => by rw [x1 y1]; exact hp _, fun y1 => ⟨fun y2 => ?_, fun y2 => ?_⟩⟩⟩, fun z => t12_quant s15 (by omega) b16 (hk18 _ ⟨fun y => ⟨v0 _ (by omega), by rw [x0 y]; exact hp _⟩, fun y0 => ⟨fun y1 => by rw [x1 y1]; exact hp _, fun y1 => ⟨fun y2 => ?_, fun y2 => ?_⟩⟩⟩)⟩
    · rw [x2 y2, if_pos z]; exact hp _
    · have e3 := x3 (y3 y0 y1 y2)
      unfold wp_X12_unquant
      rw [z]
      refine ⟨fun _ => ?_, fun u => absurd rfl u⟩
      rw [e3]; unfold bk; rw [if_pos z]; exact hp _
    · rw [x2 y2, if_neg z]; exact hp _
    · refine t12_unquant s15 b16 (qN_lt b16) ?_
      rw [x3 (y3 y0 y1 y2)]; exact hp _
  have hz : (bits i = 0) ↔ bt i = 0 := by rw [eb1]; exact nI_eq (b := 0) (by omega) (by omega)
  refine ⟨fun y => ⟨hv, ?_⟩, fun y => ⟨hv, ?_⟩, fun y => ⟨hv2, fun z => ?_, fun z => ⟨hv, ?_⟩⟩, fun y => ⟨hv, ?_⟩, fun y0 y1 y2 y3 => ?_⟩
  · subst y; exact ref _ (fun _ => hs1) (fun z => absurd z (by decide)) (fun z => absurd z (by decide)) (fun z => absurd z (by decide)) (fun z => absurd (by decide) z)
  · subst y; exact ref _ (fun z => absurd z (by decide)) (fun _ => ht1) (fun z => absurd z (by decide)) (fun z => absurd z (by decide)) (fun z => absurd (by decide) z)
  · subst y; exact ref _ (fun z => absurd z (by decide)) (fun z => absurd z (by decide)) (fun _ => by rw [if_pos (hz.mp z)]) (fun z => absurd z (by decide)) (fun z => absurd (by decide) z)
  · subst y; exact ref _ (fun z => absurd z (by decide)) (fun z => absurd z (by decide)) (fun _ => by rw [if_neg (fun u => z (hz.mpr u))]; exact eq1) (fun z => absurd z (by decide)) (fun z => absurd (by decide) z)
  · subst y; exact ref _ (fun z => absurd z (by decide)) (fun z => absurd z (by decide)) (fun z => absurd z (by decide)) (fun _ => ek1) (fun z => absurd (by decide) z)
  · refine ref _ (fun z => absurd z y0) (fun z => absurd z y1) (fun z => absurd z y2) (fun z => absurd z y3) (fun _ => rfl)
