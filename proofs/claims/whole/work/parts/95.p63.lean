/-! pure part 63: queries on paper: dealtBy, cost, least -/
theorem t_onPaper {v1 v2 : Int32} {t cd nx ln hd bl hb : Nat} {nb rec dly : Nat → Int32} {pnum psent pover ppb : Nat → Int32} {wb : Nat → Nat → Int32} {wsz : Nat → Int32} {cb : Nat → Nat → Int32} {csz : Nat → Int32} {bnum : Nat → Int32} {bcb : Nat → Nat → Int32} {bcsz : Nat → Int32} {A0 B0 A1 B1 split told quants backs scales bits : Nat → Int32} {tw me sz : Int32} {bytes : Nat → Int32} {eA0 eB0 eA1 eB1 e0 e1 recs : Nat → Int32} {row : Nat → Int32} {post : Int32 → Prop} (h : RW t cd nx ln hd bl hb nb rec dly pnum psent pover ppb wb wsz cb csz bnum bcb bcsz A0 B0 A1 B1 split told quants backs scales bits tw me sz bytes eA0 eB0 eA1 eB1 e0 e1 recs row) (h1 : ∀ p m, 0 < cd → v1 = nI p → 2 ≤ p → p ≤ 128 → v2 = nI m → m ≤ 1 → post 1) (h0 : ¬ (0 < cd ∧ btw v1 2 128 ∧ btw v2 0 1) → post 0) : wp_X11_onPaper v1 v2 nb post := by
  unfold wp_X11_onPaper
  refine t_noFrame h (fun c0 => ⟨fun z => absurd z (by decide), fun _ => h0 (fun y => absurd y.1 (by omega))⟩) (fun c0 => ⟨fun _ => ?_, fun z => absurd rfl z⟩)
  refine t_within (fun q1 => ⟨fun z => absurd z (by decide), fun _ => t_within (fun q2 => ⟨fun z => absurd z (by decide), fun _ => ?_⟩) (fun q2 => ⟨fun _ => h0 (fun y => q2 y.2.2), fun z => absurd rfl z⟩)⟩) (fun q1 => ⟨fun _ => h0 (fun y => q1 y.2.1), fun z => absurd rfl z⟩)
  obtain ⟨p, p1, p2, e1⟩ := btw_n (a := 2) (b := 128) q1
  obtain ⟨m, _, m2, e2⟩ := btw_n (a := 0) (b := 1) q2
  exact h1 p m c0 e1 p1 p2 e2 m2
theorem t_canDeal {v1 v2 : Int32} {t cd nx ln hd bl hb : Nat} {nb rec dly : Nat → Int32} {pnum psent pover ppb : Nat → Int32} {wb : Nat → Nat → Int32} {wsz : Nat → Int32} {cb : Nat → Nat → Int32} {csz : Nat → Int32} {bnum : Nat → Int32} {bcb : Nat → Nat → Int32} {bcsz : Nat → Int32} {A0 B0 A1 B1 split told quants backs scales bits : Nat → Int32} {tw me sz : Int32} {bytes : Nat → Int32} {eA0 eB0 eA1 eB1 e0 e1 recs : Nat → Int32} {row : Nat → Int32} {post : Int32 → Prop} (h : RW t cd nx ln hd bl hb nb rec dly pnum psent pover ppb wb wsz cb csz bnum bcb bcsz A0 B0 A1 B1 split told quants backs scales bits tw me sz bytes eA0 eB0 eA1 eB1 e0 e1 recs row) (h1 : 0 < cd ∧ btw v1 2 128 ∧ btw v2 0 1 → post 1) (h0 : ¬ (0 < cd ∧ btw v1 2 128 ∧ btw v2 0 1) → post 0) : wp_X12_canDeal v1 v2 row post := by
  unfold wp_X12_canDeal
  exact t_isCoded h (fun c0 => ⟨fun _ => h0 (fun y => absurd y.1 (by omega)), fun z => absurd rfl z⟩) (fun c0 => ⟨fun z => absurd z (by decide), fun _ => t_inI 2 128 (fun q1 => ⟨fun z => absurd z (by decide), fun _ => t_inI 0 1 (fun q2 => ⟨fun z => absurd z (by decide), fun _ => h1 ⟨c0, q1, q2⟩⟩) (fun q2 => ⟨fun _ => h0 (fun y => q2 y.2.2), fun z => absurd rfl z⟩)⟩) (fun q1 => ⟨fun _ => h0 (fun y => q1 y.2.1), fun z => absurd rfl z⟩)⟩)
theorem papB {cd p m : Nat} (c0 : 0 < cd) (p1 : 2 ≤ p) (p2 : p ≤ 128) (m2 : m ≤ 1) : 0 < cd ∧ btw (nI p) 2 128 ∧ btw (nI m) 0 1 := ⟨c0, (btw_i (a := 2) (b := 128)).mpr ⟨p1, p2⟩, (btw_i (a := 0) (b := 1)).mpr ⟨by omega, m2⟩⟩
def pnd (row : Nat → Int32) (me : Int32) : Nat → Int32 := fun i => ndF (row (621 + i)) me (row (17 + i % 8))
theorem nbLo {nb row : Nat → Int32} (h : rNum nb row) {i : Nat} : nb (40 + i % 8) = row (17 + i % 8) :=
  (h (40 + i % 8) (by omega) (by omega) (by omega) (by omega)).trans (congrArg row (hm_loud (i % 8) (by omega)))
theorem t_deal4 {t cd nx ln hd bl hb p : Nat} {me0 po0 v2 : Int32} {nb rec dly : Nat → Int32} {pnum psent pover ppb : Nat → Int32} {wb : Nat → Nat → Int32} {wsz : Nat → Int32} {cb : Nat → Nat → Int32} {csz : Nat → Int32} {bnum : Nat → Int32} {bcb : Nat → Nat → Int32} {bcsz : Nat → Int32} {A0 B0 A1 B1 split told quants backs scales bits : Nat → Int32} {tw me sz : Int32} {bytes : Nat → Int32} {eA0 eB0 eA1 eB1 e0 e1 recs : Nat → Int32} {row f needs bt0 : Nat → Int32} {post : Int32 → Int32 → (Nat → Int32) → (Nat → Int32) → Prop} (h : RW t cd nx ln hd bl hb nb rec dly pnum psent pover ppb wb wsz cb csz bnum bcb bcsz A0 B0 A1 B1 split told quants backs scales bits tw me sz bytes eA0 eB0 eA1 eB1 e0 e1 recs row) (hp : p ≤ 128) (hf : ∀ i, i < 16 → f i = row (621 + i)) (hq : ∀ (a : Int32) (needs' bits' : Nat → Int32), (∀ i, i < 16 → bits' i = nI (bitsN (pnd row v2) p i)) → post v2 a needs' bits') : wp_X4_deal 54 (nI p) v2 me0 po0 f nb needs bt0 post :=
  t4_deal (nd := pnd row v2) rfl (by omega) (fun i hi => by unfold pnd; rw [hf i hi, nbLo h.aft.1]) (fun n b e => hq _ n b e)
theorem t_deal12 {p : Nat} {v2 : Int32} {row f dealt : Nat → Int32} {post : (Nat → Int32) → Prop} (hp : p ≤ 128) (hf : ∀ i, i < 16 → f i = row (621 + i)) (hq : ∀ d : Nat → Int32, (∀ i, i < 16 → d i = nI (bitsN (pnd row v2) p i)) → post d) : wp_X12_deal (nI p) v2 dealt f row post :=
  t12_deal (nd := pnd row v2) (by omega) (fun i hi => by unfold pnd; rw [hf i hi]) hq
set_option maxHeartbeats 800000 in
set_option maxRecDepth 100000 in
theorem s_dealtBy {v1 v2 v3 v4 th : Int32} {msc mdl : Nat → Int32} {t cd nx ln hd bl hb : Nat} {po : Int32} {nb rec dly : Nat → Int32} {pnum psent pover ppb : Nat → Int32} {wb : Nat → Nat → Int32} {wsz : Nat → Int32} {cb : Nat → Nat → Int32} {csz : Nat → Int32} {bnum : Nat → Int32} {bcb : Nat → Nat → Int32} {bcsz : Nat → Int32} {A0 B0 A1 B1 split told quants backs scales bits : Nat → Int32} {tw me sz : Int32} {bytes : Nat → Int32} {eA0 eB0 eA1 eB1 e0 e1 recs : Nat → Int32} {qtw qme qpo : Int32} {qsp qto qqu qba qsc qbi qne : Nat → Int32} {row : Nat → Int32} {P : Int32 → Int32 → Int32 → Int32 → (Nat → Int32) → (Nat → Int32) → (Nat → Int32) → (Nat → Int32) → (Nat → Int32) → (Nat → Int32) → (Nat → Int32) → Int32 → Int32 → (Nat → Int32) → (Nat → Int32) → Prop} (h : RW t cd nx ln hd bl hb nb rec dly pnum psent pover ppb wb wsz cb csz bnum bcb bcsz A0 B0 A1 B1 split told quants backs scales bits tw me sz bytes eA0 eB0 eA1 eB1 e0 e1 recs row) (hp : ∀ r (qtw qme qpo : Int32) (qsp qto qqu qba qsc qbi qne : Nat → Int32) (f g : Nat → Int32), P r qtw qme qpo qsp qto qqu qba qsc qbi qne r 0 f g) :
    wp_X11_dealtBy v1 v2 v3 v4 nb qtw qme qpo tw me po split qsp told qto quants qqu backs qba scales qsc bits qbi qne (fun r qtw qme qpo qsp qto qqu qba qsc qbi qne => wp_X12_dealtBy v1 v2 v3 v4 th row msc mdl (fun r' th' f g => P r qtw qme qpo qsp qto qqu qba qsc qbi qne r' th' f g)) := by
  unfold wp_X11_dealtBy
  refine t_onPaper h (fun p m c0 e1 p1 p2 e2 m2 => ⟨fun z => absurd z (by decide), fun _ => ?_⟩) (fun q => ⟨fun _ => by unfold wp_X12_dealtBy; exact t_canDeal h (fun y => absurd y q) (fun _ => ⟨fun _ => hp _ _ _ _ _ _ _ _ _ _ _ _ _, fun z => absurd rfl z⟩), fun z => absurd rfl z⟩)
  subst e1
  subst e2
  obtain ⟨_, _, ⟨sc, bt, hsc, hbt, _⟩, _⟩ := h.fr c0
  refine t_isColumn (fun c b e1 hc e2 hb => ⟨fun z => absurd z (by decide), fun _ => ?_⟩) (fun q => ⟨fun _ => by unfold wp_X12_dealtBy; exact t_canDeal h (fun _ => ⟨fun y => absurd y (by decide), fun _ => t_isBand (fun y => absurd y q) (fun _ => ⟨fun _ => hp _ _ _ _ _ _ _ _ _ _ _ _ _, fun z => absurd rfl z⟩)⟩) (fun y => absurd (papB c0 p1 p2 m2) y), fun z => absurd rfl z⟩)
  subst e1
  subst e2
  unfold wp_X4_become
  rintro _ rfl _ rfl _ rfl _ rfl _ rfl _ rfl
  refine t_deal4 h p2 (fun i hi => by rw [cpy0 hi, (hsc i hi).2.1, (hsc i hi).2.2]) (fun a needs' bits' hb' => ?_)
  rw [rM, nI_add, nI_clamp (by omega)]
  refine ⟨vp_in_nI (by omega) (by omega), ?_⟩
  unfold wp_X12_dealtBy
  refine t_canDeal h (fun _ => ⟨fun y => absurd y (by decide), fun _ => t_isBand (fun _ => ⟨fun y => absurd y (by decide), fun _ => ?_⟩) (fun y => absurd (colB hc hb) y)⟩) (fun y => absurd (papB c0 p1 p2 m2) y)
  refine t_takeScales (fun f hf => t_deal12 p2 hf (fun d hd => ?_))
  rw [lM, nI_add, nI_clamp (by omega), show 8 * c + b = c * 8 + b by omega, hd _ (by omega), hb' _ (by omega)]
  exact ⟨vp_in_nI (by omega) (by omega), hp _ _ _ _ _ _ _ _ _ _ _ _ _⟩
/-! costs -/
def cs1 (T : Nat → Nat → Int32) (sc bt : Nat → Nat) (c : Nat) : Int32 := osm (fun k => jabs (T c k - bk (qN (T c k) (sc c) (bt c)) (sc c) (bt c))) 4
theorem t4_costOf {T B : Nat → Nat → Int32} {c : Nat} {told backs : Nat → Int32} {post : Int32 → Prop} (hc : c < 16) (hT : ∀ k, k < 4 → told (16 * k + c) = T c k) (hB : ∀ k, k < 4 → backs (16 * k + c) = B c k) (h : post (osm (fun k => jabs (T c k - B c k)) 4)) : wp_X4_costOf (nI c) told backs post := by
  unfold wp_X4_costOf
  rintro _ rfl _ rfl
  refine cstr1 c 16 64 4 (fun k s => s = osm (fun k => jabs (T c k - B c k)) k) rfl ?_ ?_
  · rintro k _ hk rfl g hg
    simp (disch := omega) only [rA, nI_clamp, vpT, true_and, forall_eq]
    rw [show c + 16 * k + 16 = c + 16 * (k + 1) by omega]
    refine hg _ ?_
    rw [show c + 16 * k = 16 * k + c by omega, hT k hk, hB k hk]; rfl
  · rintro _ rfl; exact h
/-- the inner part of the reference's costs -/
theorem t12_cost1 {T : Nat → Nat → Int32} {sc bt : Nat → Nat} {i : Nat} {row f d : Nat → Int32} {s : Int32} {ex : Int32 → Prop} (hi : i < 16) (hT : ∀ k, k < 4 → row (557 + (4 * i + k)) = T i k) (hs : f i = nI (sc i)) (hs15 : sc i ≤ 15) (hd : d i = nI (bt i)) (hd16 : bt i ≤ 16) (h : ex (s + cs1 T sc bt i)) :
    Lz2 (fun g11 (x13 : Int32) (x14 : Int32) => ((4 : Int32) ≤ x13 → ex x14) ∧ (¬ (4 : Int32) ≤ x13 → vp_in (((557 : Int32) + ((4 : Int32) * nI i)) + x13) 13385 ∧ ∀ x17 : Int32, x17 = row (((557 : Int32) + ((4 : Int32) * nI i)) + x13).toNatClampNeg → vp_in (nI i) 16 ∧ ∀ x19 : Int32, x19 = d (nI i).toNatClampNeg → ∀ k21 : Int32 → Prop, (∀ (x20 : Int32), (wp_X12_size (x17 - x20) (fun r23 => ∀ x24 : Int32, x24 = x14 + r23 → g11 (x13 + (1 : Int32)) x24)) → k21 x20) → (x19 = (0 : Int32) → k21 (0 : Int32)) ∧ (¬ x19 = (0 : Int32) → vp_in (nI i) 16 ∧ wp_X12_quant x17 (f (nI i).toNatClampNeg) x19 (fun r27 => vp_in (nI i) 16 ∧ wp_X12_unquant r27 (f (nI i).toNatClampNeg) x19 (fun r29 => k21 r29))))) (0 : Int32) s := by
  refine cinv1 0 4 (fun k x => x = s + osm (fun k => jabs (T i k - bk (qN (T i k) (sc i) (bt i)) (sc i) (bt i))) k) (by rw [osm, Int32.add_zero]) ?_ ?_
  · intro k x _ hk hI g hg
    have ea : ((557 : Int32) + (4 * nI i)) + nI k = nI (557 + (4 * i + k)) := by rw [lM, lA, nI_add, Nat.add_assoc]
    rw [ea, nI_clamp (by omega), nI_clamp (show i < 2 ^ 31 by omega), hT k hk, hd, hs]
    have hv : vp_in (nI i) 16 := vp_in_nI (by omega) (by omega)
    refine ⟨vp_in_nI (by omega) (by omega), ?_⟩
    rintro _ rfl
    refine ⟨hv, ?_⟩
    rintro _ rfl
    intro k21 hk21
    have go : k21 (bk (qN (T i k) (sc i) (bt i)) (sc i) (bt i)) := by
      refine hk21 _ (t_size ?_)
      rintro _ rfl
      rw [rA]
      refine hg _ ?_
      rw [hI, osm, Int32.add_assoc]
    have hz : (nI (bt i) = 0) ↔ bt i = 0 := nI_eq (b := 0) (by omega) (by omega)
    rw [hz]
    refine ⟨fun z => ?_, fun z => ⟨hv, t12_quant hs15 (by omega) hd16 ⟨hv, t12_unquant hs15 hd16 (qN_lt hd16) go⟩⟩⟩
    unfold bk at go
    rw [if_pos z] at go; exact go
  · intro x hI
    rw [hI]; exact h
set_option maxHeartbeats 800000 in
set_option maxRecDepth 100000 in
theorem t12_costOf {T : Nat → Nat → Int32} {sc : Nat → Nat} {p : Nat} {v2 : Int32} {row msc mdl : Nat → Int32} {post : Int32 → (Nat → Int32) → (Nat → Int32) → Prop} (hp : p ≤ 128) (hT : ∀ c, c < 16 → ∀ k, k < 4 → row (557 + (4 * c + k)) = T c k) (hs : ∀ c, c < 16 → sc c ≤ 15 ∧ row (621 + c) = nI (sc c)) (h : ∀ f g : Nat → Int32, post (osm (cs1 T sc (bitsN (pnd row v2) p)) 16) f g) : wp_X12_costOf (nI p) v2 row msc mdl post := by
  unfold wp_X12_costOf
  refine t_takeScales (fun f hf => t_deal12 hp hf (fun d hd => ?_))
  rintro _ rfl _ rfl
  refine cinv1 0 16 (fun k x => x = osm (cs1 T sc (bitsN (pnd row v2) p)) k) rfl ?_ ?_
  · intro i x _ hi hI g hg
    rintro _ rfl
    refine t12_cost1 (T := T) (sc := sc) (bt := bitsN (pnd row v2) p) hi (hT i hi) (by rw [hf i hi]; exact (hs i hi).2) (hs i hi).1 (hd i hi) (bitsN_le _ _ _) ?_
    rw [rA]
    refine hg _ ?_
    rw [hI, osm]
  · intro x hI
    rw [hI]; exact h _ _
set_option maxHeartbeats 800000 in
set_option maxRecDepth 100000 in
theorem t11_costOnPaper {T : Nat → Nat → Int32} {sc : Nat → Nat} {t cd nx ln hd bl hb p : Nat} {v2 me0 po0 : Int32} {nb rec dly : Nat → Int32} {pnum psent pover ppb : Nat → Int32} {wb : Nat → Nat → Int32} {wsz : Nat → Int32} {cb : Nat → Nat → Int32} {csz : Nat → Int32} {bnum : Nat → Int32} {bcb : Nat → Nat → Int32} {bcsz : Nat → Int32} {A0 B0 A1 B1 split told quants backs scales bits : Nat → Int32} {tw me sz : Int32} {bytes : Nat → Int32} {eA0 eB0 eA1 eB1 e0 e1 recs : Nat → Int32} {row f needs bt0 to0 qu0 ba0 : Nat → Int32} {post : Int32 → Int32 → Int32 → (Nat → Int32) → (Nat → Int32) → (Nat → Int32) → (Nat → Int32) → Prop} (h : RW t cd nx ln hd bl hb nb rec dly pnum psent pover ppb wb wsz cb csz bnum bcb bcsz A0 B0 A1 B1 split told quants backs scales bits tw me sz bytes eA0 eB0 eA1 eB1 e0 e1 recs row) (hp : p ≤ 128) (hT : ∀ c, c < 16 → ∀ k, k < 4 → to0 (16 * k + c) = T c k) (hs : ∀ c, c < 16 → sc c ≤ 15 ∧ row (621 + c) = nI (sc c)) (hf : ∀ i, i < 16 → f i = row (621 + i)) (hq : ∀ (a b : Int32) (n b' q k : Nat → Int32), post (osm (cs1 T sc (bitsN (pnd row v2) p)) 16) a b n b' q k) : wp_X11_costOnPaper (nI p) v2 me0 po0 f nb needs bt0 to0 qu0 ba0 post := by
  unfold wp_X11_costOnPaper
  refine t_deal4 h hp hf (fun a needs' bits' hb' => ?_)
  refine t4_quantise (T := T) (sc := sc) (bt := bitsN (pnd row v2) p) hT (fun c hc => by rw [hf c hc]; exact (hs c hc).2) (fun c hc => (hs c hc).1) hb' (fun c _ => bitsN_le _ _ _) (fun quants' backs' hqb => ?_)
  rintro _ rfl _ rfl
  refine cinv1 0 16 (fun k x => x = osm (cs1 T sc (bitsN (pnd row v2) p)) k) rfl ?_ ?_
  · intro i x _ hi hI g hg
    refine t4_costOf (T := T) (B := fun c k => bk (qN (T c k) (sc c) (bitsN (pnd row v2) p c)) (sc c) (bitsN (pnd row v2) p c)) hi (hT i hi) (fun k hk => (hqb i hi k hk).2) ?_
    rintro _ rfl
    rw [rA]
    refine hg _ ?_
    rw [hI, osm]; rfl
  · intro x hI
    rw [hI]; exact hq _ _ _ _ _ _
set_option maxHeartbeats 800000 in
set_option maxRecDepth 100000 in
theorem s_cost {v1 v2 th : Int32} {msc mdl : Nat → Int32} {t cd nx ln hd bl hb : Nat} {po : Int32} {nb rec dly : Nat → Int32} {pnum psent pover ppb : Nat → Int32} {wb : Nat → Nat → Int32} {wsz : Nat → Int32} {cb : Nat → Nat → Int32} {csz : Nat → Int32} {bnum : Nat → Int32} {bcb : Nat → Nat → Int32} {bcsz : Nat → Int32} {A0 B0 A1 B1 split told quants backs scales bits : Nat → Int32} {tw me sz : Int32} {bytes : Nat → Int32} {eA0 eB0 eA1 eB1 e0 e1 recs : Nat → Int32} {qtw qme qpo : Int32} {qsp qto qqu qba qsc qbi qne : Nat → Int32} {row : Nat → Int32} {P : Int32 → Int32 → Int32 → Int32 → (Nat → Int32) → (Nat → Int32) → (Nat → Int32) → (Nat → Int32) → (Nat → Int32) → (Nat → Int32) → (Nat → Int32) → Int32 → Int32 → (Nat → Int32) → (Nat → Int32) → Prop} (h : RW t cd nx ln hd bl hb nb rec dly pnum psent pover ppb wb wsz cb csz bnum bcb bcsz A0 B0 A1 B1 split told quants backs scales bits tw me sz bytes eA0 eB0 eA1 eB1 e0 e1 recs row) (hp : ∀ r (qtw qme qpo : Int32) (qsp qto qqu qba qsc qbi qne : Nat → Int32) (f g : Nat → Int32), P r qtw qme qpo qsp qto qqu qba qsc qbi qne r 0 f g) :
    wp_X11_cost v1 v2 nb qtw qme qpo tw me po split qsp told qto quants qqu backs qba scales qsc bits qbi qne (fun r qtw qme qpo qsp qto qqu qba qsc qbi qne => wp_X12_cost v1 v2 th row msc mdl (fun r' th' f g => P r qtw qme qpo qsp qto qqu qba qsc qbi qne r' th' f g)) := by
  unfold wp_X11_cost
  refine t_onPaper h (fun p m c0 e1 p1 p2 e2 m2 => ⟨fun z => absurd z (by decide), fun _ => ?_⟩) (fun q => ⟨fun _ => by unfold wp_X12_cost; exact t_canDeal h (fun y => absurd y q) (fun _ => ⟨fun _ => hp _ _ _ _ _ _ _ _ _ _ _ _ _, fun z => absurd rfl z⟩), fun z => absurd rfl z⟩)
  subst e1
  subst e2
  obtain ⟨_, eto, ⟨sc, bt, hsc, hbt, _⟩, _⟩ := h.fr c0
  have hs : ∀ c, c < 16 → sc c ≤ 15 ∧ row (621 + c) = nI (sc c) := fun c hc => ⟨(hsc c hc).1, (hsc c hc).2.2⟩
  unfold wp_X4_become
  rintro _ rfl _ rfl _ rfl _ rfl _ rfl _ rfl
  refine t11_costOnPaper (T := fun c k => row (557 + (4 * c + k))) h p2 (fun c hc k hk => by rw [cpy0 (by omega)]; exact eto c hc k hk) hs (fun i hi => by rw [cpy0 hi, (hsc i hi).2.1, (hsc i hi).2.2]) (fun a b n b' q k => ?_)
  unfold wp_X12_cost
  refine t_canDeal h (fun _ => ⟨fun y => absurd y (by decide), fun _ => ?_⟩) (fun y => absurd (papB c0 p1 p2 m2) y)
  exact t12_costOf (T := fun c k => row (557 + (4 * c + k))) p2 (fun _ _ _ _ => rfl) hs (fun f g => hp _ _ _ _ _ _ _ _ _ _ _ _ _)
