/-! pure part 64: least -/
theorem g128 (x : Int32) : ((128 : Int32) < x) = (nI 129 ≤ x) := by
  have e1 : (128 : Int32).toInt = 128 := by decide
  have e2 : (nI 129).toInt = 129 := by decide
  rw [fa_lt, fa_le, e1, e2]
  exact propext ⟨fun h => by omega, fun h => by omega⟩
set_option maxHeartbeats 800000 in
set_option maxRecDepth 100000 in
theorem t12_least {C : Nat → Int32} {v1 v2 th : Int32} {row msc mdl : Nat → Int32} {post : Int32 → Int32 → (Nat → Int32) → (Nat → Int32) → Prop} {T : Nat → Nat → Int32} {sc : Nat → Nat} {t cd nx ln hd bl hb : Nat} {nb rec dly : Nat → Int32} {pnum psent pover ppb : Nat → Int32} {wb : Nat → Nat → Int32} {wsz : Nat → Int32} {cb : Nat → Nat → Int32} {csz : Nat → Int32} {bnum : Nat → Int32} {bcb : Nat → Nat → Int32} {bcsz : Nat → Int32} {A0 B0 A1 B1 split told quants backs scales bits : Nat → Int32} {tw me sz : Int32} {bytes : Nat → Int32} {eA0 eB0 eA1 eB1 e0 e1 recs : Nat → Int32} (h : RW t cd nx ln hd bl hb nb rec dly pnum psent pover ppb wb wsz cb csz bnum bcb bcsz A0 B0 A1 B1 split told quants backs scales bits tw me sz bytes eA0 eB0 eA1 eB1 e0 e1 recs row) (hY : 0 < cd ∧ btw (2 : Int32) 2 128 ∧ btw v1 0 1) (hT : ∀ c, c < 16 → ∀ k, k < 4 → row (557 + (4 * c + k)) = T c k) (hs : ∀ c, c < 16 → sc c ≤ 15 ∧ row (621 + c) = nI (sc c)) (hC : ∀ p, C p = osm (cs1 T sc (bitsN (pnd row v1) p)) 16) (r : Int32) (hr : (∃ p, 2 ≤ p ∧ p ≤ 128 ∧ r = nI p ∧ ¬ v2 < C p ∧ ∀ p', 2 ≤ p' → p' < p → v2 < C p') ∨ (r = -1 ∧ ∀ p', 2 ≤ p' → p' ≤ 128 → v2 < C p')) (hp : ∀ f g : Nat → Int32, post r 0 f g) : wp_X12_least v1 v2 th row msc mdl post := by
  unfold wp_X12_least
  refine t_canDeal h (fun _ => ⟨fun y => absurd y (by decide), fun _ => ?_⟩) (fun y => absurd hY y)
  rintro _ rfl
  simp only [g128]
  refine cinv2 2 129 (fun k _ _ => ∀ p', 2 ≤ p' → p' < k → v2 < C p') (fun p' h1 h2 => absurd h2 (by omega)) ?_ ?_
  · intro k f g hk0 hk hI g4 hg
    refine t12_costOf (T := T) (sc := sc) (by omega) hT hs (fun f' g' => ?_)
    rw [← hC k]
    refine ⟨fun y => ?_, fun y => ?_⟩
    · rw [rA]
      refine hg _ _ (fun p' h1 h2 => ?_)
      by_cases e : p' = k
      · rw [e]; exact y
      · exact hI p' h1 (by omega)
    · have e : r = nI k := by
        rcases hr with ⟨p, q1, q2, q3, q4, q5⟩ | ⟨q1, q2⟩
        · rcases Nat.lt_trichotomy p k with w | w | w
          · exact absurd (hI p q1 w) q4
          · rw [q3, w]
          · exact absurd (q5 k hk0 w) y
        · exact absurd (q2 k hk0 (by omega)) y
      rw [← e]; exact hp _ _
  · intro f g hI
    have e : r = -1 := by
      rcases hr with ⟨p, q1, q2, q3, q4, q5⟩ | ⟨q1, q2⟩
      · exact absurd (hI p q1 (by omega)) q4
      · exact q1
    rw [← e]; exact hp _ _
set_option maxHeartbeats 800000 in
set_option maxRecDepth 100000 in
theorem s_least {v1 v2 th : Int32} {msc mdl : Nat → Int32} {t cd nx ln hd bl hb : Nat} {po : Int32} {nb rec dly : Nat → Int32} {pnum psent pover ppb : Nat → Int32} {wb : Nat → Nat → Int32} {wsz : Nat → Int32} {cb : Nat → Nat → Int32} {csz : Nat → Int32} {bnum : Nat → Int32} {bcb : Nat → Nat → Int32} {bcsz : Nat → Int32} {A0 B0 A1 B1 split told quants backs scales bits : Nat → Int32} {tw me sz : Int32} {bytes : Nat → Int32} {eA0 eB0 eA1 eB1 e0 e1 recs : Nat → Int32} {qtw qme qpo : Int32} {qsp qto qqu qba qsc qbi qne : Nat → Int32} {row : Nat → Int32} {P : Int32 → Int32 → Int32 → Int32 → (Nat → Int32) → (Nat → Int32) → (Nat → Int32) → (Nat → Int32) → (Nat → Int32) → (Nat → Int32) → (Nat → Int32) → Int32 → Int32 → (Nat → Int32) → (Nat → Int32) → Prop} (h : RW t cd nx ln hd bl hb nb rec dly pnum psent pover ppb wb wsz cb csz bnum bcb bcsz A0 B0 A1 B1 split told quants backs scales bits tw me sz bytes eA0 eB0 eA1 eB1 e0 e1 recs row) (hp : ∀ r (qtw qme qpo : Int32) (qsp qto qqu qba qsc qbi qne : Nat → Int32) (f g : Nat → Int32), P r qtw qme qpo qsp qto qqu qba qsc qbi qne r 0 f g) :
    wp_X11_least v1 v2 nb qtw qme qpo tw me po split qsp told qto quants qqu backs qba scales qsc bits qbi qne (fun r qtw qme qpo qsp qto qqu qba qsc qbi qne => wp_X12_least v1 v2 th row msc mdl (fun r' th' f g => P r qtw qme qpo qsp qto qqu qba qsc qbi qne r' th' f g)) := by
  unfold wp_X11_least
  refine t_onPaper h (fun p m c0 e1 p1 p2 e2 m2 => ⟨fun z => absurd z (by decide), fun _ => ?_⟩) (fun q => ⟨fun _ => by unfold wp_X12_least; exact t_canDeal h (fun y => absurd ⟨y.1, by decide, y.2.2⟩ q) (fun _ => ⟨fun _ => hp _ _ _ _ _ _ _ _ _ _ _ _ _, fun z => absurd rfl z⟩), fun z => absurd rfl z⟩)
  subst e2
  clear e1
  obtain ⟨_, eto, ⟨sc, bt, hsc, hbt, _⟩, _⟩ := h.fr c0
  have hs : ∀ c, c < 16 → sc c ≤ 15 ∧ row (621 + c) = nI (sc c) := fun c hc => ⟨(hsc c hc).1, (hsc c hc).2.2⟩
  have ref : ∀ (r : Int32) (qtw qme qpo : Int32) (qsp qto qqu qba qsc qbi qne : Nat → Int32), ((∃ p, 2 ≤ p ∧ p ≤ 128 ∧ r = nI p ∧ ¬ v2 < (fun p => osm (cs1 (fun c k => row (557 + (4 * c + k))) sc (bitsN (pnd row (nI m)) p)) 16) p ∧ ∀ p', 2 ≤ p' → p' < p → v2 < (fun p => osm (cs1 (fun c k => row (557 + (4 * c + k))) sc (bitsN (pnd row (nI m)) p)) 16) p') ∨ (r = -1 ∧ ∀ p', 2 ≤ p' → p' ≤ 128 → v2 < (fun p => osm (cs1 (fun c k => row (557 + (4 * c + k))) sc (bitsN (pnd row (nI m)) p)) 16) p')) → wp_X12_least (nI m) v2 th row msc mdl (fun r' th' f g => P r qtw qme qpo qsp qto qqu qba qsc qbi qne r' th' f g) := fun r a b c d e f g i j k hr => t12_least (T := fun c k => row (557 + (4 * c + k))) h ⟨c0, by decide, (btw_i (a := 0) (b := 1)).mpr ⟨by omega, m2⟩⟩ (fun _ _ _ _ => rfl) hs (fun p => rfl) r hr (fun f g => hp _ _ _ _ _ _ _ _ _ _ _ _ _)
  unfold wp_X4_become
  rintro _ rfl _ rfl _ rfl _ rfl _ rfl _ rfl _ rfl
  simp only [g128]
  refine cinv6 2 129 (fun k _ _ _ _ _ _ => ∀ p', 2 ≤ p' → p' < k → v2 < (fun p => osm (cs1 (fun c k => row (557 + (4 * c + k))) sc (bitsN (pnd row (nI m)) p)) 16) p') (fun p' h1 h2 => absurd h2 (by omega)) ?_ ?_
  · intro k x17 x18 f19 f20 f21 f22 hk0 hk hI g14 hg
    refine t11_costOnPaper (T := fun c k => row (557 + (4 * c + k))) h (by omega) (fun c hc k hk => by rw [cpy0 (by omega)]; exact eto c hc k hk) hs (fun i hi => by rw [cpy0 hi, (hsc i hi).2.1, (hsc i hi).2.2]) (fun a b n b' q k' => ⟨fun y => ?_, fun y => ?_⟩)
    · rw [rA]
      refine hg _ _ _ _ _ _ (fun p' h1 h2 => ?_)
      by_cases e : p' = k
      · rw [e]; exact y
      · exact hI p' h1 (by omega)
    · exact ref _ _ _ _ _ _ _ _ _ _ _ (Or.inl ⟨k, hk0, by omega, rfl, y, hI⟩)
  · intro x17 x18 f19 f20 f21 f22 hI
    exact ref _ _ _ _ _ _ _ _ _ _ _ (Or.inr ⟨rfl, fun p' h1 h2 => hI p' h1 (by omega)⟩)
