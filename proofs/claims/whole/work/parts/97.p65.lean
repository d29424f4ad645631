/-! pure part 65: madeUp, spectrum -/
theorem rEar_c {e0 e1 e0' e1' row : Nat → Int32} (h : rEar e0 e1 row) (h0 : ∀ j, j < 192 → e0' j = e0 j) (h1 : ∀ j, j < 192 → e1' j = e1 j) : rEar e0' e1' row := fun j hj => by rw [h0 j hj, h1 j hj]; exact h j hj
theorem RW_e {t cd nx ln hd bl hb : Nat} {nb rec dly : Nat → Int32} {pnum psent pover ppb : Nat → Int32} {wb : Nat → Nat → Int32} {wsz : Nat → Int32} {cb : Nat → Nat → Int32} {csz : Nat → Int32} {bnum : Nat → Int32} {bcb : Nat → Nat → Int32} {bcsz : Nat → Int32} {A0 B0 A1 B1 split told quants backs scales bits : Nat → Int32} {tw me sz : Int32} {bytes : Nat → Int32} {eA0 eB0 eA1 eB1 e0 e1 recs : Nat → Int32} {row e0' e1' : Nat → Int32} (h : RW t cd nx ln hd bl hb nb rec dly pnum psent pover ppb wb wsz cb csz bnum bcb bcsz A0 B0 A1 B1 split told quants backs scales bits tw me sz bytes eA0 eB0 eA1 eB1 e0 e1 recs row) (h0 : ∀ j, j < 192 → e0' j = e0 j) (h1 : ∀ j, j < 192 → e1' j = e1 j) : RW t cd nx ln hd bl hb nb rec dly pnum psent pover ppb wb wsz cb csz bnum bcb bcsz A0 B0 A1 B1 split told quants backs scales bits tw me sz bytes eA0 eB0 eA1 eB1 e0' e1' recs row := by
  obtain ⟨a, ⟨p1, p2, p3, p4⟩, r⟩ := h
  exact ⟨a, ⟨p1, p2, rEar_c p3 h0 h1, p4⟩, r⟩
theorem t12_madeUp {v2 th lag0 sum0 : Int32} {c mn : Nat} {row hr0 made0 : Nat → Int32} {post : Int32 → Int32 → Int32 → Int32 → (Nat → Int32) → (Nat → Int32) → Prop} (hc : c < 2) (hv2 : btw v2 0 33) (e38 : row 38 = nI mn) (hmn : mn < 100000) (hr : ∀ c, c < 2 → inR (hR row c) 192) (x : Int32) (x0 : v2 = 0 → x = nI (lagN (hR row c))) (x1 : v2 = 1 → x = nI (lagS (hR row c))) (x2 : ∀ w, w < 32 → v2 = nI (w + 2) → x = mdF (hR row c) (8 - mn) w) (h : ∀ (l s : Int32) (f g : Nat → Int32), post x 0 l s f g) : wp_X12_madeUp (nI c) v2 th lag0 sum0 row hr0 made0 post := by
  unfold wp_X12_madeUp
  refine t_inI 0 1 (fun _ => ⟨fun z => absurd z (by decide), fun _ => t_inI 0 33 (fun _ => ⟨fun z => absurd z (by decide), fun _ => ?_⟩) (fun y => absurd hv2 y)⟩) (fun y => absurd ((btw_i (a := 0) (b := 1)).mpr ⟨by omega, by omega⟩) y)
  obtain ⟨w, _, hw, rfl⟩ := btw_n (a := 0) (b := 33) hv2
  have hle : (nI w ≤ 1) ↔ w ≤ 1 := nI_leI (b := 1) (by omega) (by omega)
  rw [hle]
  refine ⟨fun y => ?_, fun y => ?_⟩
  · refine t12_layHeard hc (fun f hf => ?_)
    have hin : inR f 192 := fun j hj => by rw [hf j hj]; exact hr c hc j hj
    obtain ⟨l1, l2⟩ := lag_c (h := f) (h' := hR row c) hf
    refine t12_findLag hin ?_
    rw [l1, l2]
    refine ⟨fun z => by rw [← x0 z]; exact h _ _ _ _, fun z => ?_⟩
    have hw1 : w = 1 := by
      have : w ≠ 0 := fun u => z (by rw [u]; rfl)
      omega
    rw [← x1 (by rw [hw1]; rfl)]; exact h _ _ _ _
  · refine t12_layMade e38 hmn hr (fun l s f m hm => ?_)
    have ea : ((32 : Int32) * nI c + nI w) - 2 = nI (32 * c + (w - 2)) := by rw [lM, nI_add, rS (by omega)]; exact congrArg nI (by omega)
    rw [ea, nI_clamp (by omega), hm c hc (w - 2) (by omega), ← x2 (w - 2) (by omega) (congrArg nI (by omega))]
    exact ⟨vp_in_nI (by omega) (by omega), h _ _ _ _⟩
set_option maxHeartbeats 800000 in
set_option maxRecDepth 100000 in
theorem s_madeUp {v1 v2 th lag0 sum0 l0 s0 l1 s1 : Int32} {hr0 made0 m0 m1 : Nat → Int32} {t cd nx ln hd bl hb : Nat} {nb rec dly : Nat → Int32} {pnum psent pover ppb : Nat → Int32} {wb : Nat → Nat → Int32} {wsz : Nat → Int32} {cb : Nat → Nat → Int32} {csz : Nat → Int32} {bnum : Nat → Int32} {bcb : Nat → Nat → Int32} {bcsz : Nat → Int32} {A0 B0 A1 B1 split told quants backs scales bits : Nat → Int32} {tw me sz : Int32} {bytes : Nat → Int32} {eA0 eB0 eA1 eB1 e0 e1 recs : Nat → Int32} {row : Nat → Int32} {P : Int32 → Int32 → Int32 → (Nat → Int32) → (Nat → Int32) → Int32 → Int32 → (Nat → Int32) → (Nat → Int32) → Int32 → Int32 → Int32 → Int32 → (Nat → Int32) → (Nat → Int32) → Prop} (h : RW t cd nx ln hd bl hb nb rec dly pnum psent pover ppb wb wsz cb csz bnum bcb bcsz A0 B0 A1 B1 split told quants backs scales bits tw me sz bytes eA0 eB0 eA1 eB1 e0 e1 recs row)
    (hp : ∀ (r l0 s0 : Int32) (e0' m0 : Nat → Int32) (l1 s1 : Int32) (e1' m1 : Nat → Int32) (lg sm : Int32) (f g : Nat → Int32), (∀ j, j < 192 → e0' j = e0 j) → (∀ j, j < 192 → e1' j = e1 j) → P r l0 s0 e0' m0 l1 s1 e1' m1 r 0 lg sm f g) :
    wp_X11_madeUp v1 v2 nb l0 s0 e0 m0 l1 s1 e1 m1 (fun r l0 s0 e0 m0 l1 s1 e1 m1 => wp_X12_madeUp v1 v2 th lag0 sum0 row hr0 made0 (fun r' th' lg sm f g => P r l0 s0 e0 m0 l1 s1 e1 m1 r' th' lg sm f g)) := by
  have no : (¬ btw v1 0 1 ∨ ¬ btw v2 0 33) → wp_X12_madeUp v1 v2 th lag0 sum0 row hr0 made0 (fun r' th' lg sm f g => P (-2147483648) l0 s0 e0 m0 l1 s1 e1 m1 r' th' lg sm f g) := fun q => by
    unfold wp_X12_madeUp
    refine t_inI 0 1 (fun q1 => ⟨fun z => absurd z (by decide), fun _ => t_inI 0 33 (fun q2 => absurd q (by
      rintro (u | u)
      · exact u q1
      · exact u q2)) (fun _ => ⟨fun _ => hp _ _ _ _ _ _ _ _ _ _ _ _ _ (fun _ _ => rfl) (fun _ _ => rfl), fun z => absurd rfl z⟩)⟩) (fun _ => ⟨fun _ => hp _ _ _ _ _ _ _ _ _ _ _ _ _ (fun _ _ => rfl) (fun _ _ => rfl), fun z => absurd rfl z⟩)
  obtain ⟨mn, hmn, e38⟩ := h.pl.mn
  obtain ⟨p, _, _, hph⟩ := h.ph
  have ht := h.ht
  have n15 : nb 15 = nI mn := (h.aft.1 15 (by omega) (by omega) (by omega) (by omega)).trans e38
  unfold wp_X11_madeUp
  refine t_within (fun q1 => ⟨fun z => absurd z (by decide), fun _ => ?_⟩) (fun q1 => ⟨fun _ => no (Or.inl q1), fun z => absurd rfl z⟩)
  refine t_within (fun q2 => ⟨fun z => absurd z (by decide), fun _ => ?_⟩) (fun q2 => ⟨fun _ => no (Or.inr q2), fun z => absurd rfl z⟩)
  obtain ⟨c, _, hc, rfl⟩ := btw_n (a := 0) (b := 1) q1
  have q2' := q2
  obtain ⟨w, _, hw, rfl⟩ := btw_n (a := 0) (b := 33) q2
  have ce : ∀ (e : Nat → Int32), (∀ j, j < 192 → e j = hR row c j) → inR e 192 := fun e he j hj => by rw [he j hj]; exact h.pl.inr c (by omega) j hj
  have go : ∀ (e m : Nat → Int32) (l s : Int32) (K : Int32 → Int32 → Int32 → (Nat → Int32) → (Nat → Int32) → Prop), (∀ j, j < 192 → e j = hR row c j) →
      (∀ (x l' s' : Int32) (e' m' : Nat → Int32), (∀ j, j < 192 → e' j = e j) → (nI w = 0 → x = nI (lagN (hR row c))) → (nI w = 1 → x = nI (lagS (hR row c))) → (∀ w', w' < 32 → nI w = nI (w' + 2) → x = mdF (hR row c) (8 - mn) w') → K x l' s' e' m') →
      wp_X6_fade nb (fun r5 => wp_X3_makeUp r5 l s e m (fun x6 x7 f8 f9 => (nI w = 0 → K x6 x6 x7 f8 f9) ∧ (nI w = 1 → K x7 x6 x7 f8 f9) ∧ (¬ nI w = 0 → ¬ nI w = 1 → vp_in (nI w - 2) 32 ∧ K (f9 (nI w - 2).toNatClampNeg) x6 x7 f8 f9))) := by
    intro e m l s K he hK
    refine t6_fade n15 (by omega) ?_
    obtain ⟨g1, g2⟩ := lag_c (h := e) (h' := hR row c) he
    refine t3_makeUp (ce e he) (fun e' m' h1 h2 => ?_)
    rw [g1, g2]
    refine ⟨fun y => hK _ _ _ _ _ h1 (fun _ => rfl) (fun z => absurd (y.symm.trans z) (by decide)) (fun w' _ z => ?_), fun y => hK _ _ _ _ _ h1 (fun z => absurd (y.symm.trans z) (by decide)) (fun _ => rfl) (fun w' _ z => ?_), fun y0 y1 => ?_⟩
    · exfalso
      have a := (nI_eq (b := 0) (by omega) (by omega)).mp y
      have b := (nI_eq (by omega) (by omega)).mp z
      omega
    · exfalso
      have a := (nI_eq (b := 1) (by omega) (by omega)).mp y
      have b := (nI_eq (by omega) (by omega)).mp z
      omega
    · have w0 : w ≠ 0 := fun u => y0 (by rw [u]; rfl)
      have w1 : w ≠ 1 := fun u => y1 (by rw [u]; rfl)
      rw [rS (by omega), nI_clamp (by omega), h2 (w - 2) (by omega), mdF_c he (ce e he) (by omega)]
      refine ⟨vp_in_nI (by omega) (by omega), hK _ _ _ _ _ h1 (fun z => absurd z y0) (fun z => absurd z y1) (fun w' _ z => ?_)⟩
      have b := (nI_eq (by omega) (by omega)).mp z
      rw [show w - 2 = w' by omega]
  have hc2 : c = 0 ∨ c = 1 := by omega
  rcases hc2 with rfl | rfl
  · refine Or.inl ⟨rfl, go e0 m0 l0 s0 (fun x a b e m => wp_X12_madeUp (nI 0) (nI w) th lag0 sum0 row hr0 made0 (fun r' th' lg sm f g => P x a b e m l1 s1 e1 m1 r' th' lg sm f g)) (fun j hj => (h.pl.ear j hj).1) (fun x l' s' e' m' g1 g2 g3 g4 => ?_)⟩
    exact t12_madeUp (by omega) q2' e38 (by omega) h.pl.inr x g2 g3 g4 (fun lg sm f g => hp _ _ _ _ _ _ _ _ _ _ _ _ _ g1 (fun _ _ => rfl))
  · refine Or.inr ⟨rfl, go e1 m1 l1 s1 (fun x a b e m => wp_X12_madeUp (nI 1) (nI w) th lag0 sum0 row hr0 made0 (fun r' th' lg sm f g => P x l0 s0 e0 m0 a b e m r' th' lg sm f g)) (fun j hj => (h.pl.ear j hj).2) (fun x l' s' e' m' g1 g2 g3 g4 => ?_)⟩
    exact t12_madeUp (by omega) q2' e38 (by omega) h.pl.inr x g2 g3 g4 (fun lg sm f g => hp _ _ _ _ _ _ _ _ _ _ _ _ _ (fun _ _ => rfl) g1)
