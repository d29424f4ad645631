/-! pure part 59: queries: share, line, packet, played -/
theorem shrI {n : Nat} (k : Nat) (D : Int32) (hn : n < 2 ^ 31) (hD : ((D &&& 31).toBitVec.smod 32).toNat = k) : nI n >>> (D &&& 31) = nI (n / 2 ^ k) := by
  apply Int32.toInt_inj.mp
  have hle : n / 2 ^ k ≤ n := Nat.div_le_self _ _
  rw [pk_shr _ _ k hD, Int.shiftRight_eq_div_pow, nI_toInt hn, nI_toInt (by omega)]
  exact (Int.natCast_ediv n (2 ^ k)).symm
set_option maxHeartbeats 800000 in
set_option maxRecDepth 100000 in
theorem s_share {v1 th : Int32} {t cd nx ln hd bl hb : Nat} {nb rec dly : Nat → Int32} {pnum psent pover ppb : Nat → Int32} {wb : Nat → Nat → Int32} {wsz : Nat → Int32} {cb : Nat → Nat → Int32} {csz : Nat → Int32} {bnum : Nat → Int32} {bcb : Nat → Nat → Int32} {bcsz : Nat → Int32} {A0 B0 A1 B1 split told quants backs scales bits : Nat → Int32} {tw me sz : Int32} {bytes : Nat → Int32} {eA0 eB0 eA1 eB1 e0 e1 recs : Nat → Int32} {row : Nat → Int32} {P : Int32 → Int32 → Int32 → Prop} (h : RW t cd nx ln hd bl hb nb rec dly pnum psent pover ppb wb wsz cb csz bnum bcb bcsz A0 B0 A1 B1 split told quants backs scales bits tw me sz bytes eA0 eB0 eA1 eB1 e0 e1 recs row) (hp : ∀ r, P r r 0) :
    wp_X11_share v1 nb bits (fun r => wp_X12_share v1 th row (fun r' th' => P r r' th')) := by
  unfold wp_X11_share wp_X12_share
  refine t_noFrame h (fun c0 => ⟨fun z => absurd z (by decide), fun _ => t_isCoded h (fun _ => ⟨fun _ => hp _, fun z => absurd rfl z⟩) (fun y => absurd y (by omega))⟩) (fun c0 => ⟨fun _ => ?_, fun z => absurd rfl z⟩)
  have co : ∀ Q : Int32 → Prop, Q 1 → wp_X12_isCoded row Q := fun Q hQ => t_isCoded h (fun y => absurd y (by omega)) (fun _ => hQ)
  obtain ⟨_, _, ⟨sc, bt, _, hbt, _⟩, _⟩ := h.fr c0
  refine t_within (fun q1 => ⟨fun z => absurd z (by decide), fun _ => ?_⟩) (fun q1 => ⟨fun _ => co _ ⟨fun y => absurd y (by decide), fun _ => t_inI (-1) 1 (fun y => absurd y q1) (fun _ => ⟨fun _ => hp _, fun z => absurd rfl z⟩)⟩, fun z => absurd rfl z⟩)
  have ref : ∀ (x : Int32) (C : Nat → Prop) [DecidablePred C], (∀ i, i < 16 → (C i ↔ (v1 = -1 ∨ nI (i / 8) = v1))) → x = nI (fb_sm (fun i => if C i then bt i else 0) 16) → wp_X12_isCoded row (fun r1 => (r1 = 0 → P x (-1) 0) ∧ (¬ r1 = 0 → wp_X12_in v1.toInt64 (-1 : Int64) (1 : Int64) (fun r3 => (r3 = 0 → P x (-1) 0) ∧ (¬ r3 = 0 → ∀ x5 : Int32, x5 = 0 → ∀ x6 : Int32, x6 = 0 → Lz2 (fun g7 (x9 : Int32) (x10 : Int32) => ((16 : Int32) ≤ x9 → P x x10 0) ∧ (¬ (16 : Int32) ≤ x9 → ∀ k13 : Int32 → Prop, (∀ (x12 : Int32), (∀ x15 : Int32, x15 = x10 + x12 → g7 (x9 + 1) x15) → k13 x12) → ∀ k16 : Prop, ((vp_in (637 + x9) 13385 ∧ k13 (row (637 + x9).toNatClampNeg)) → k16) → (v1 = -1 → k16) ∧ (¬ v1 = -1 → ∀ x20 : Int32, x20 = x9 / 8 → (x20 = v1 → k16) ∧ (¬ x20 = v1 → k13 0)))) x5 x6)))) := by
    intro x C _ hC hx
    refine co _ ⟨fun y => absurd y (by decide), fun _ => t_inI (-1) 1 (fun _ => ⟨fun z => absurd z (by decide), fun _ => ?_⟩) (fun y => absurd q1 y)⟩
    rintro _ rfl _ rfl
    refine cinv1 0 16 (fun k s => s = nI (fb_sm (fun i => if C i then bt i else 0) k)) rfl ?_ ?_
    · intro k s _ hk hI g hg k13 hk13 k16 hk16
      subst hI
      have hb := (hbt k hk).2.2
      have yes : C k → k16 := fun c => hk16 (by
        rw [lA, nI_clamp (by omega), hb]
        refine ⟨vp_in_nI (by omega) (by omega), hk13 _ ?_⟩
        rintro _ rfl
        rw [nI_add, rA]
        refine hg _ ?_
        rw [fb_sm_succ, if_pos c])
      have no : ¬ C k → k13 0 := fun c => hk13 _ (by
        rintro _ rfl
        rw [rA]
        refine hg _ ?_
        rw [fb_sm_succ, if_neg c, Int32.add_zero, Nat.add_zero])
      refine ⟨fun y => yes ((hC k hk).mpr (Or.inl y)), fun y => ?_⟩
      rw [rD (by omega) (by omega) (by omega)]
      rintro _ rfl
      refine ⟨fun z => yes ((hC k hk).mpr (Or.inr z)), fun z => no (fun c => ?_)⟩
      rcases (hC k hk).mp c with u | u
      · exact y u
      · exact z u
    · intro s hI
      rw [hI, ← hx]; exact hp _
  refine ⟨fun y => ?_, fun y => ?_⟩
  · refine t4_bitsOf (c := 0) (by omega) (fun i hi => (hbt i hi).2.1) ?_
    refine t4_bitsOf (c := 1) (by omega) (fun i hi => (hbt i hi).2.1) ?_
    refine ref _ (fun _ => True) (fun i _ => ⟨fun _ => Or.inl y, fun _ => trivial⟩) ?_
    rw [nI_add, sm_16]
    simp only [if_true]
  · have hv : ∃ c, c < 2 ∧ v1 = nI c := by
      have a := q1.1
      have b := q1.2
      have e1 : (-1 : Int32).toInt = -1 := by decide
      have e2 : (1 : Int32).toInt = 1 := by decide
      rw [fa_le, e1] at a
      rw [fa_le, e2] at b
      have hne : v1.toInt ≠ -1 := fun q => y (Int32.toInt_inj.mp (by rw [q, e1]))
      refine ⟨v1.toInt.toNat, by omega, Int32.toInt_inj.mp ?_⟩
      rw [nI_toInt (by omega)]; omega
    obtain ⟨c, hc, rfl⟩ := hv
    refine t4_bitsOf hc (fun i hi => (hbt i hi).2.1) ?_
    refine ref _ (fun i => i / 8 = c) (fun i hi => ⟨fun q => Or.inr (by rw [q]), fun q => ?_⟩) ?_
    · rcases q with q | q
      · exact absurd q y
      · exact (nI_eq (by omega) (by omega)).mp q
    · have hc2 : c = 0 ∨ c = 1 := by omega
      rcases hc2 with rfl | rfl
      · exact congrArg nI rfl
      · refine congrArg nI ?_
        simp [fb_sm]
set_option maxHeartbeats 800000 in
set_option maxRecDepth 100000 in
theorem t7_atAny {n sa hd c : Nat} {v : Int32} {nb : Nat → Int32} {post : Option Nat → Prop} (hn : 0 < n) (hn2 : n < 100) (hs : sa < 54) (hh : hd < n) (e : nb sa = nI c) (hc : c < 1000) (h0 : (¬ ∃ i, v = nI i ∧ i < c) → post none) (h1 : ∀ i, v = nI i → i < c → post (some ((hd + i) % n))) : wp_X7_at n v (nI sa) (nI hd) nb post := by
  by_cases q : ∃ i, v = nI i ∧ i < c
  · obtain ⟨i, rfl, hi⟩ := q
    refine t7_at hn hn2 hs hh (by omega) e hc ?_
    rw [if_pos hi]; exact h1 i rfl hi
  · unfold wp_X7_at
    rw [nI_clamp (show sa < 2 ^ 31 by omega), e]
    refine ⟨fun _ => h0 q, fun y => ⟨vp_in_nI hs (by omega), fun z => ?_, fun _ => h0 q⟩⟩
    exfalso
    obtain ⟨i, hi, rfl⟩ := nI_of y
    exact q ⟨i, rfl, (nI_ltI hi (by omega)).mp z⟩
set_option maxHeartbeats 800000 in
set_option maxRecDepth 100000 in
theorem s_line {v1 v2 th : Int32} {t cd nx ln hd bl hb : Nat} {nb rec dly : Nat → Int32} {pnum psent pover ppb : Nat → Int32} {wb : Nat → Nat → Int32} {wsz : Nat → Int32} {cb : Nat → Nat → Int32} {csz : Nat → Int32} {bnum : Nat → Int32} {bcb : Nat → Nat → Int32} {bcsz : Nat → Int32} {A0 B0 A1 B1 split told quants backs scales bits : Nat → Int32} {tw me sz : Int32} {bytes : Nat → Int32} {eA0 eB0 eA1 eB1 e0 e1 recs : Nat → Int32} {row : Nat → Int32} {P : Int32 → Int32 → Int32 → Prop} (h : RW t cd nx ln hd bl hb nb rec dly pnum psent pover ppb wb wsz cb csz bnum bcb bcsz A0 B0 A1 B1 split told quants backs scales bits tw me sz bytes eA0 eB0 eA1 eB1 e0 e1 recs row) (hp : ∀ r, P r r 0) :
    wp_X11_line v1 v2 (nI 5) (nI hd) nb pnum psent pover ppb wsz (fun r => wp_X12_line v1 v2 th row (fun r' th' => P r r' th')) := by
  have e5 : nb 5 = nI ln := rSnd_5 (rAft_S h.aft)
  obtain ⟨hLn, hhd⟩ := h.aft.2.2.2.1
  have hl5 := hLn.2.1
  have hcd := hLn.2.2
  have n24 : nb 24 = row 10 := h.aft.1 24 (by omega) (by omega) (by omega) (by omega)
  have ez : (row 51).toInt64 - (1 : Int64) = (nI ln - 1).toInt64 := by rw [hLn.1]; exact wide_pred (by omega)
  unfold wp_X11_line wp_X12_line
  refine t7_atAny (by omega) (by omega) (by omega) hhd e5 (by omega) (fun q => ⟨fun _ => ?_, fun j hj => absurd hj (by simp)⟩) (fun i e hi => ⟨fun z => absurd z (by simp), fun j hj => ?_⟩)
  · refine t_inI 0 (nI ln - 1) (fun y => absurd ?_ q) (fun _ => ⟨fun _ => hp _, fun z => absurd rfl z⟩) (by decide) ez
    rcases Nat.eq_zero_or_pos ln with l0 | l0
    · exfalso
      have a := y.1
      have b := y.2
      rw [l0, fa_le] at b
      rw [fa_le] at a
      have e1 : (nI 0 - 1).toInt = -1 := by decide
      have e2 : (0 : Int32).toInt = 0 := by decide
      omega
    · rw [rS (by omega)] at y
      obtain ⟨i, _, hi, ei⟩ := btw_n (a := 0) (b := ln - 1) y
      exact ⟨i, ei, by omega⟩
  · subst e
    have hj2 : (hd + i) % 6 = j := Option.some.inj hj
    subst hj2
    obtain ⟨l1, l2, l3, z, pb, ov, l4, l5, l6, l7, l8, l9, l10, l11, l12, l13, l14, l15, _⟩ := h.aft.2.2.2.2.1 i (by omega) hi
    have ref : ∀ (x : Int32), (v2 = 0 → x = nI (cd - ln + i)) → (v2 = 1 → x = row (3385 + 4 * (cd - ln + i) + 1)) → (v2 = 2 → x = 4 * nI (cd - ln + i) + row 10) → (v2 = 3 → x = ((nI z + nI pb) - 1) / nI pb) → (v2 = 4 → x = nI ov) → (¬ v2 = 0 → ¬ v2 = 1 → ¬ v2 = 2 → ¬ v2 = 3 → ¬ v2 = 4 → x = -1) → wp_X12_in (nI i).toInt64 (0 : Int64) ((row 51).toInt64 - (1 : Int64)) (fun r2 => (r2 = 0 → P x (-1) 0) ∧ (¬ r2 = 0 → wp_X12_lineAt (nI i) (fun r4 => (v2 = 0 → vp_in (r4 + 0) 13385 ∧ P x (row (r4 + 0).toNatClampNeg) 0) ∧ (v2 = 1 → vp_in (r4 + 0) 13385 ∧ wp_X12_packetAt (row (r4 + 0).toNatClampNeg) (fun r9 => vp_in (r9 + 1) 13385 ∧ P x (row (r9 + 1).toNatClampNeg) 0)) ∧ (v2 = 2 → vp_in (r4 + 0) 13385 ∧ P x ((4 * (row (r4 + 0).toNatClampNeg)) + (row 10)) 0) ∧ (v2 = 3 → vp_in (r4 + 1) 13385 ∧ vp_in (r4 + 2) 13385 ∧ wp_X12_piecesOf (row (r4 + 1).toNatClampNeg) (row (r4 + 2).toNatClampNeg) (fun r17 => P x r17 0)) ∧ (v2 = 4 → vp_in (r4 + 3) 13385 ∧ P x (row (r4 + 3).toNatClampNeg) 0) ∧ (¬ v2 = 0 → ¬ v2 = 1 → ¬ v2 = 2 → ¬ v2 = 3 → ¬ v2 = 4 → P x (-1) 0)))) := by
      intro x x0 x1 x2 x3 x4 x5
      refine t_inI 0 (nI ln - 1) (fun _ => ⟨fun z => absurd z (by decide), fun _ => ?_⟩) (fun y => absurd ?_ y) (by decide) ez
      rotate_left
      · rw [rS (by omega)]; exact (btw_i (a := 0) (b := ln - 1)).mpr ⟨by omega, by omega⟩
      unfold wp_X12_lineAt wp_X12_packetAt wp_X12_piecesOf
      have a0 : ((735 : Int32) + (170 * nI i)) + 0 = nI (735 + 170 * i) := by rw [lM, lA, Int32.add_zero]
      have a1 : ((735 : Int32) + (170 * nI i)) + 1 = nI (735 + 170 * i + 1) := by rw [lM, lA, rA]
      have a2 : ((735 : Int32) + (170 * nI i)) + 2 = nI (735 + 170 * i + 2) := by rw [lM, lA, rA]
      have a3 : ((735 : Int32) + (170 * nI i)) + 3 = nI (735 + 170 * i + 3) := by rw [lM, lA, rA]
      dsimp only
      rw [a0, a1, a2, a3, nI_clamp (by omega), nI_clamp (by omega), nI_clamp (by omega), nI_clamp (by omega), l2, l9, l12, l14]
      have v0 : ∀ m, m < 13385 → vp_in (nI m) 13385 := fun m hm => vp_in_nI hm (by omega)
      refine ⟨fun y => ⟨v0 _ (by omega), by rw [x0 y]; exact hp _⟩, fun y => ⟨v0 _ (by omega), ?_⟩, fun y => ⟨v0 _ (by omega), by rw [x2 y]; exact hp _⟩, fun y => ⟨v0 _ (by omega), v0 _ (by omega), nI_ne0 (by omega) (by omega), ?_⟩, fun y => ⟨v0 _ (by omega), by rw [x4 y]; exact hp _⟩, fun y0 y1 y2 y3 y4 => by rw [x5 y0 y1 y2 y3 y4]; exact hp _⟩
      · rw [lM, lA, rA, nI_clamp (by omega), x1 y]; exact ⟨v0 _ (by omega), hp _⟩
      · rintro _ rfl
        rw [x3 y]; exact hp _
    refine ⟨Nat.mod_lt _ (by omega), fun y => ?_, fun y => ?_, fun y => ?_, fun y => ?_, fun y => ?_, fun y0 y1 y2 y3 y4 => ?_⟩
    · subst y; exact ref _ (fun _ => l1) (fun z => absurd z (by decide)) (fun z => absurd z (by decide)) (fun z => absurd z (by decide)) (fun z => absurd z (by decide)) (fun z => absurd rfl z)
    · subst y; exact ref _ (fun z => absurd z (by decide)) (fun _ => l3) (fun z => absurd z (by decide)) (fun z => absurd z (by decide)) (fun z => absurd z (by decide)) (fun _ z => absurd rfl z)
    · subst y; exact ref _ (fun z => absurd z (by decide)) (fun z => absurd z (by decide)) (fun _ => by rw [l1, n24, Int32.mul_comm]) (fun z => absurd z (by decide)) (fun z => absurd z (by decide)) (fun _ _ z => absurd rfl z)
    · subst y
      unfold wp_X5_pieces
      rw [l13, l10]
      refine ⟨nI_ne0 (by omega) (by omega), ?_⟩
      rintro _ rfl
      exact ref _ (fun z => absurd z (by decide)) (fun z => absurd z (by decide)) (fun z => absurd z (by decide)) (fun _ => rfl) (fun z => absurd z (by decide)) (fun _ _ _ z => absurd rfl z)
    · subst y; exact ref _ (fun z => absurd z (by decide)) (fun z => absurd z (by decide)) (fun z => absurd z (by decide)) (fun z => absurd z (by decide)) (fun _ => l15) (fun _ _ _ _ z => absurd rfl z)
    · exact ref _ (fun z => absurd z y0) (fun z => absurd z y1) (fun z => absurd z y2) (fun z => absurd z y3) (fun z => absurd z y4) (fun _ _ _ _ _ => rfl)
