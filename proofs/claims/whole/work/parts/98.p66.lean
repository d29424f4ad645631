/-! pure part 66: spectrum -/
def spZ : Nat → Int32 := fun _ => 0
def spR (row : Nat → Int32) (c : Nat) : Nat → Int32 := fun i => row (269 + 192 * c + i)
set_option maxHeartbeats 800000 in
set_option maxRecDepth 100000 in
theorem t12_spectrum {th nS nD : Int32} {c b : Nat} {row fresh eight rows : Nat → Int32} {post : Int32 → Int32 → Int32 → Int32 → (Nat → Int32) → (Nat → Int32) → (Nat → Int32) → Prop} (hc : c < 2) (hb : b < 8) (h : ∀ (S D : Int32) (f e r : Nat → Int32), post (osm (fun k => jabs (bandS spZ (spR row c) k b)) 4) 0 S D f e r) : wp_X12_spectrum (nI c) (nI b) th nS nD fresh row eight rows post := by
  unfold wp_X12_spectrum
  refine t_isBand (fun _ => ⟨fun z => absurd z (by decide), fun _ => ?_⟩) (fun y => absurd ⟨(btw_i (a := 0) (b := 1)).mpr ⟨by omega, by omega⟩, (btw_i (a := 0) (b := 7)).mpr ⟨by omega, by omega⟩⟩ y)
  rintro x3 rfl
  refine cinv1 0 14 (fun k f => ∀ i, i < k → f i = 0) (fun i hi => absurd hi (Nat.not_lt_zero _)) ?_ ?_
  · intro k f h1 h2 h3 g hg
    refine ⟨vp_in_nI (by omega) (by omega), ?_⟩
    rintro f39 rfl
    rw [nI_clamp (by omega), rA]
    refine hg _ (fun i hi => ?_)
    by_cases q : i = k
    · subst q; exact pk_us
    · rw [pk_un (by omega)]; exact h3 i (by omega)
  intro f7 hf
  rintro x9 rfl x10 rfl
  refine cinv6 0 4 (fun k s S D fr e r => s = osm (fun k => jabs (bandS spZ (spR row c) k b)) k ∧ ∀ i, i < 14 → fr i = memS spZ (spR row c) k i) ⟨rfl, fun i hi => hf i hi⟩ ?_ ?_
  · rintro k s S D fr e r h1 h2 ⟨rfl, hm⟩ g hg
    rintro x21 rfl
    refine cinv1 0 8 (fun j e => ∀ i, i < j → e i = spR row c (8 * k + i)) (fun i hi => absurd hi (Nat.not_lt_zero _)) ?_ ?_
    · intro j e h4 h5 h6 g2 hg2
      have ea : (((((109 : Int32) + (192 * nI c)) + 192) - 32) + (8 * nI k)) + nI j = nI (269 + 192 * c + (8 * k + j)) := by
        rw [lM, lA, rA, rS (by omega), lM, nI_add, nI_add]; exact congrArg nI (by omega)
      rw [ea]
      refine ⟨vp_in_nI (by omega) (by omega), vp_in_nI (by omega) (by omega), ?_⟩
      rintro f37 rfl
      rw [nI_clamp (by omega), nI_clamp (by omega), rA]
      refine hg2 _ (fun i hi => ?_)
      by_cases q : i = j
      · subst q; exact pk_us
      · rw [pk_un (by omega)]; exact h6 i (by omega)
    intro e' he
    refine t12_splitBlock (at_ := 0) (np := 14) (by omega) (by omega) (fun S1 D1 r1 e1 f1 a1 a2 a3 => ?_)
    refine ⟨vp_in_nI (by omega) (by omega), t_size ?_⟩
    rintro x34 rfl
    have hcg := sp_c (m := fun i => fr (0 + i)) (m' := memS spZ (spR row c) k) (x := e') (x' := fun t => spR row c (8 * k + t)) (fun i hi => by rw [Nat.zero_add]; exact hm i hi) (fun t ht => he t ht)
    rw [nI_clamp (by omega), rA, a1 b hb, hcg.1 b hb]
    refine hg _ _ _ _ _ _ ⟨rfl, fun i hi => ?_⟩
    have a := a2 i hi
    rw [Nat.zero_add] at a
    rw [a, hcg.2 i hi]; rfl
  · rintro s S D fr e r ⟨rfl, _⟩
    exact h _ _ _ _ _
set_option maxHeartbeats 800000 in
set_option maxRecDepth 100000 in
theorem s_spectrum {v1 v2 th nS nD : Int32} {fresh eight rows rc pA_ pB_ pr pn bb : Nat → Int32} {t cd nx ln hd bl hb : Nat} {nb rec dly : Nat → Int32} {pnum psent pover ppb : Nat → Int32} {wb : Nat → Nat → Int32} {wsz : Nat → Int32} {cb : Nat → Nat → Int32} {csz : Nat → Int32} {bnum : Nat → Int32} {bcb : Nat → Nat → Int32} {bcsz : Nat → Int32} {A0 B0 A1 B1 split told quants backs scales bits : Nat → Int32} {tw me sz : Int32} {bytes : Nat → Int32} {eA0 eB0 eA1 eB1 e0 e1 recs : Nat → Int32} {row : Nat → Int32} {P : Int32 → (Nat → Int32) → (Nat → Int32) → (Nat → Int32) → (Nat → Int32) → (Nat → Int32) → (Nat → Int32) → Int32 → Int32 → Int32 → Int32 → (Nat → Int32) → (Nat → Int32) → (Nat → Int32) → Prop} (h : RW t cd nx ln hd bl hb nb rec dly pnum psent pover ppb wb wsz cb csz bnum bcb bcsz A0 B0 A1 B1 split told quants backs scales bits tw me sz bytes eA0 eB0 eA1 eB1 e0 e1 recs row)
    (hp : ∀ (r : Int32) (a b c d e f : Nat → Int32) (S D : Int32) (x y z : Nat → Int32), P r a b c d e f r 0 S D x y z) :
    wp_X11_spectrum v1 v2 e0 rc e1 pA_ pB_ pr pn bb (fun r a b c d e f => wp_X12_spectrum v1 v2 th nS nD fresh row eight rows (fun r' th' S D x y z => P r a b c d e f r' th' S D x y z)) := by
  unfold wp_X11_spectrum
  refine t_isColumn (fun c b e1' hc e2' hb => ⟨fun z => absurd z (by decide), fun _ => ?_⟩) (fun q => ⟨fun _ => by unfold wp_X12_spectrum; exact t_isBand (fun y => absurd y q) (fun _ => ⟨fun _ => hp _ _ _ _ _ _ _ _ _ _ _ _, fun z => absurd rfl z⟩), fun z => absurd rfl z⟩)
  subst e1'
  subst e2'
  rintro x3 rfl
  refine cinv1 0 32 (fun k f => ∀ i, i < k → f i = spR row c i) (fun i hi => absurd hi (Nat.not_lt_zero _)) ?_ ?_
  · intro k f h1 h2 h3 g hg
    have e := h.pl.ear (160 + k) (by omega)
    have fin : ∀ x : Int32, x = spR row c k → g (nI (k + 1)) (upd f k x) := fun x hx => hg _ (fun i hi => by
      by_cases q : i = k
      · subst q; rw [pk_us]; exact hx
      · rw [pk_un (by omega)]; exact h3 i (by omega))
    have ea : (191 : Int32) - (31 - nI k) = nI (160 + k) := by rw [lS (by omega), lS (by omega)]; exact congrArg nI (by omega)
    have hc2 : c = 0 ∨ c = 1 := by omega
    unfold wp_X3_sampleAgo
    rw [ea, nI_clamp (by omega), nI_clamp (by omega), rA]
    rcases hc2 with rfl | rfl
    · refine Or.inl ⟨rfl, vp_in_nI (by omega) (by omega), vp_in_nI (by omega) (by omega), ?_⟩
      rintro f33 rfl
      refine fin _ (e.1.trans ?_)
      show row _ = row _
      exact congrArg row (by omega)
    · refine Or.inr ⟨rfl, vp_in_nI (by omega) (by omega), vp_in_nI (by omega) (by omega), ?_⟩
      rintro f33 rfl
      refine fin _ (e.2.trans ?_)
      show row _ = row _
      exact congrArg row (by omega)
  intro f7 hf
  unfold wp_X9_clear
  refine t_fill (t_fill ?_)
  rintro x11 rfl x12 rfl
  refine cinv6 0 4 (fun k s A B r n bo => s = osm (fun k => jabs (bandS spZ (spR row c) k b)) k ∧ ∀ i, i < 7 → A i = memS spZ (spR row c) k (2 * i) ∧ B i = memS spZ (spR row c) k (2 * i + 1)) ⟨rfl, fun i hi => ⟨flat_in (by omega) (by omega), flat_in (by omega) (by omega)⟩⟩ ?_ ?_
  · rintro k s A B r n bo h1 h2 ⟨rfl, hm⟩ g hg
    rw [lM]
    refine t9_splitBlock (to := 0) (m := memS spZ (spR row c) k) (x := fun i => spR row c (8 * k + i)) hm (fun j hj => hf _ (by omega)) (by omega) (by omega) (by omega) (by omega) (fun row' A' B' next' p3' a1 a2 a3 => ?_)
    refine ⟨vp_in_nI (by omega) (by omega), ?_⟩
    rintro x29 rfl x30 rfl
    have a := a2 b hb
    rw [Nat.zero_add] at a
    rw [nI_clamp (by omega), a, rA]
    exact hg _ _ _ _ _ _ ⟨rfl, a1⟩
  · rintro s A B r n bo ⟨rfl, _⟩
    exact t12_spectrum hc hb (fun S D f e r => hp _ _ _ _ _ _ _ _ _ _ _ _)
