/-! pure part 22: the reference looks at what came over, and sends -/
theorem arr_o {k j : Nat} {r : Nat → Int32} (h1 : j ≠ 3385 + 4 * k) (h2 : j ≠ 3385 + 4 * k + 3) (h3 : j ≠ 28) (h4 : j < 3369 ∨ 3385 ≤ j) : M_arr k r j = r j := by
  unfold M_arr
  rw [pk_un (by have := Nat.min_le_right (tN (r 25) - 4 * k) 15; omega), pk_un h3, pk_un h2, pk_un h1]
set_option maxHeartbeats 4000000 in
set_option maxRecDepth 100000 in
theorem t12_looks {ln k z t nx : Nat} {r bytes : Nat → Int32} {post : (Nat → Int32) → (Nat → Int32) → Prop} (e51 : r 51 = nI ln) (h0 : 0 < ln) (hl : ln ≤ 5) (hk : k < 2500) (ek : r 735 = nI k) (ez : r 736 = nI z) (hz1 : 13 ≤ z) (hz2 : z ≤ 77) (et : r 25 = nI t) (ht : t < 10000) (hkt : 4 * k ≤ t) (ex : r 30 = nI nx) (hx : nx < 100000) (hlev : lev r ≤ 12) (h : ∀ bytes' : Nat → Int32, post (M_looks r) bytes') : wp_X12_looks (nI 735) (nI k) r bytes post := by
  have tk : tN (r 735) = k := by rw [ek]; exact nI_clamp (by omega)
  have tz : tN (r 736) = z := by rw [ez]; exact nI_clamp (by omega)
  have tx : tN (r 30) = nx := by rw [ex]; exact nI_clamp (by omega)
  have tt : tN (r 25) = t := by rw [et]; exact nI_clamp (by omega)
  unfold wp_X12_looks
  unfold M_looks at h
  rw [tk, tx] at h
  simp (disch := omega) only [rA, nI_clamp, vpT, true_and]
  rintro _ rfl _ rfl
  refine cinv1 0 80 (fun n f => ∀ j, j < n → f j = cv r j) (fun j hj => absurd hj (Nat.not_lt_zero _)) ?_ ?_
  · intro n f _ hn hI g hg
    simp (disch := omega) only [rA, nI_add, nI_clamp, vpT, true_and, forall_eq]
    refine hg _ (fun j hj => ?_)
    by_cases e : j = n
    · rw [e, pk_us]; rfl
    · rw [pk_un e]; exact hI j (by omega)
  intro f hf k10 hk10
  have brk : ¬ okC r → k10 := by
    intro hno
    refine hk10 ?_
    rintro _ rfl _ rfl _ rfl
    simp only [Nat.reduceAdd]
    refine cinv1 0 80 (fun n w => ∀ j, w j = if 819 ≤ j ∧ j < 819 + n then r (j - 80) else if j = 738 then 0 else if j = 46 then r 46 + 1 else r j) (fun j => ?_) ?_ ?_
    · rw [if_neg (by omega)]
      by_cases a : j = 738
      · rw [if_pos a, a, pk_us]
      · rw [pk_un a, if_neg a]
        by_cases b : j = 46
        · rw [if_pos b, b, pk_us]
        · rw [pk_un b, if_neg b]
    · intro n w _ hn hI g hg
      have ew : w (735 + 4 + n) = r (739 + n) := by rw [hI, if_neg (by omega), if_neg (by omega), if_neg (by omega)]
      simp (disch := omega) only [rA, nI_add, nI_clamp, vpT, true_and, forall_eq, ew]
      refine hg _ (fun j => ?_)
      by_cases a : j = 735 + 84 + n
      · rw [a, pk_us, if_pos (by omega), show 735 + 84 + n - 80 = 739 + n by omega]
      · rw [pk_un a, hI j]
        by_cases b : 819 ≤ j ∧ j < 819 + n
        · rw [if_pos b, if_pos (by omega)]
        · rw [if_neg b, if_neg (show ¬ (819 ≤ j ∧ j < 819 + (n + 1)) by omega)]
    · intro w hI
      have ew : w = M_brk r := by funext j; rw [hI j]; unfold M_brk; rfl
      rw [if_neg hno] at h
      rw [ew]; exact h f
  have f0 : f 0 = cv r 0 := hf 0 (by omega)
  have f3 : f 3 = cv r 3 := hf 3 (by omega)
  have fc : chk f z = chk (cv r) z := chk_c z (fun j hj _ _ => hf j (by omega))
  refine ⟨fun q0 => ?_, fun q0 => brk (fun y => q0 (by rw [f0]; exact y.1))⟩
  rw [ez]
  refine t12_check (by omega) (by omega) ?_
  rw [fc, f3]
  refine ⟨fun q3 => ?_, fun q3 => brk (fun y => q3 (by have := y.2; rw [tz] at this; exact this))⟩
  have hok : okC r := ⟨by rw [← f0]; exact q0, by rw [tz]; exact q3⟩
  rw [if_pos hok] at h
  intro k32 hk32
  have e28 : ∀ j, j ≠ 3385 + 4 * k → j ≠ 3385 + 4 * k + 3 → j ≠ 28 → (j < 3369 ∨ 3385 ≤ j) → M_arr k r j = r j := fun j a b c d => arr_o a b c d
  have arrive : ∀ (x31 : Int32) (k35 : (Nat → Int32) → Prop), (x31 = 0 → k35 (M_store k (nI z) (cv r) (M_arr k r))) → (¬ x31 = 0 → k35 (M_arr k r)) →
      wp_X12_packetAt (nI k) (fun r40 => vp_in (r40 + 0) 13385 ∧ ∀ f42 : Nat → Int32, f42 = upd r (r40 + 0).toNatClampNeg 2 → wp_X12_packetAt (nI k) (fun r43 => vp_in (r43 + 3) 13385 ∧ ∀ f46 : Nat → Int32, f46 = upd f42 (r43 + 3).toNatClampNeg (f42 25) → ∀ f49 : Nat → Int32, f49 = upd f46 28 ((f46 28) + 1) → wp_X12_nearest (((f49 25).toInt64) - ((4 : Int64) * ((nI k).toInt64))) (0 : Int64) (15 : Int64) (fun r51 => ∀ x52 : Int32, x52 = 3369 + r51 → vp_in x52 13385 ∧ vp_in x52 13385 ∧ ∀ f55 : Nat → Int32, f55 = upd f49 x52.toNatClampNeg ((f49 x52.toNatClampNeg) + 1) → (x31 = 0 → wp_X12_stores (nI k) (nI z) f55 f (fun f57 => k35 f57)) ∧ (¬ x31 = 0 → k35 f55)))) := by
    intro x31 k35 h1 h2
    unfold wp_X12_packetAt
    have hmin := Nat.min_le_right (t - 4 * k) 15
    simp (disch := omega) only [lA, lM, rA, Nat.add_zero, nI_clamp, vpT, true_and, forall_eq, pk_un, et]
    have el : (nI t).toInt64 - ((4 : Int64) * (nI k).toInt64) = (nI (t - 4 * k)).toInt64 := by
      rw [nI_l (by omega), nI_l (by omega), nI_l (by omega), fa_litL 4, lN_mul, lN_sub hkt]
    rw [el]
    refine t_nearI 0 15 ?_
    rw [show (15 : Int32) = nI 15 from rfl, near_n (by omega) (by omega)]
    simp (disch := omega) only [lA, nI_clamp, vpT, true_and, forall_eq, pk_un]
    have eA : upd (upd (upd (upd r (3385 + 4 * k) 2) (3385 + 4 * k + 3) (nI t)) 28 (r 28 + 1)) (3369 + min (t - 4 * k) 15) (r (3369 + min (t - 4 * k) 15) + 1) = M_arr k r := by unfold M_arr; rw [tt, et]
    rw [eA]
    refine ⟨fun q => ?_, h2⟩
    refine t12_stores (by omega) ?_ ?_
    · rw [lev_c (r := r) (fun j a b => arr_o (by omega) (by omega) (by omega) (by omega)) (arr_o (by omega) (by omega) (by omega) (by omega))]; omega
    · rw [st_c (b' := cv r) hf]; exact h1 q
  have m51 : M_arr k r 51 = nI ln := by rw [arr_o (by omega) (by omega) (by omega) (by omega)]; exact e51
  refine ⟨fun q => hk32 _ (fun k35 hk35 k38 hk38 => ⟨fun _ => ?_, fun y => absurd rfl y⟩), fun q => hk32 _ (fun k35 hk35 k38 hk38 => ⟨fun y => absurd y (by decide), fun _ => ?_⟩)⟩
  · rw [ex] at q
    have hnk : nx ≤ k := (nI_leI (by omega) (by omega)).mp q
    rw [if_pos hnk] at h
    refine t12_level ?_
    refine ⟨fun y => ?_, fun y => ?_⟩
    · have h12 : lev r = 12 := (nI_eq (b := 12) (by omega) (by omega)).mp y
      rw [if_pos h12] at h
      refine t12_give hk (hk35 _ (t12_drop (ln := ln) ?_ h0 (by omega) (h f)))
      unfold M_give; rw [pk_un (by omega), pk_un (by omega)]; exact e51
    · have h12 : lev r ≠ 12 := fun z2 => y (by rw [z2]; rfl)
      rw [if_neg h12] at h
      refine hk38 (arrive 0 k35 (fun _ => hk35 _ (t12_drop (ln := ln) ?_ h0 (by omega) ?_)) (fun y => absurd rfl y))
      · have hS : M_store k (nI z) (cv r) (M_arr k r) 51 = M_arr k r 51 := by
          unfold M_store M_stA
          rw [if_neg (by omega), if_neg (by omega), if_neg (by omega)]
        rw [hS]; exact m51
      · rw [ez] at h; exact h f
  · rw [ex] at q
    have hnk : ¬ nx ≤ k := fun y => q ((nI_leI (by omega) (by omega)).mpr y)
    rw [if_neg hnk] at h
    exact hk38 (arrive 1 k35 (fun y => absurd y (by decide)) (fun _ => hk35 _ (t12_drop m51 h0 (by omega) (h f))))
/-- one SENT of the first in line -/
def M_s1 (r : Nat → Int32) : Nat → Int32 := upd (upd r 27 (r 27 + 1)) (3385 + 4 * tN (r 735) + 1) (r (3385 + 4 * tN (r 735) + 1) + 1)
/-- it came over: the next piece, perhaps damaged, counted -/
def M_s2 (r : Nat → Int32) : Nat → Int32 := upd (M_dam (tN (r 738) * tN (r 737)) (min (tN (r 737)) (tN (r 736) - tN (r 738) * tN (r 737))) (upd (M_draw r) 44 (r 44 + 1))) 738 (r 738 + 1)
def M_send (r : Nat → Int32) : Nat → Int32 := if r 51 = 0 then upd r 47 (r 47 + 1) else if r 48 ≤ 0 then (if r 11 ≤ nI (drV r % 100) then (if tN (r 738) + 1 = (tN (r 736) + tN (r 737) - 1) / tN (r 737) then M_looks (M_s2 (M_s1 r)) else M_s2 (M_s1 r)) else M_draw (M_s1 r)) else upd (M_s1 r) 48 (r 48 - 1)
theorem s1_o {r : Nat → Int32} {j k : Nat} (ek : r 735 = nI k) (hk : k < 2500) (h1 : j ≠ 27) (h2 : j ≠ 3385 + 4 * k + 1) : M_s1 r j = r j := by
  have tk : tN (r 735) = k := by rw [ek]; exact nI_clamp (by omega)
  unfold M_s1; rw [tk, pk_un h2, pk_un h1]
theorem dam_o {fr mn j : Nat} {r : Nat → Int32} (hm : 0 < mn) (hf : fr + mn ≤ 80) (h1 : j ≠ 49) (h2 : j ≠ 45) (h3 : j < 819 ∨ 899 ≤ j) : M_dam fr mn r j = r j := by
  unfold M_dam
  by_cases a : r 16 = 0
  · rw [if_pos a]
  · rw [if_neg a]
    by_cases b : nI (drV r % 1000) < r 16
    · rw [if_pos b]
      unfold M_dam2
      have hat : drV (upd (M_draw r) 45 (r 45 + 1)) % (8 * mn) < 8 * mn := Nat.mod_lt _ (by omega)
      rw [pk_un (by unfold dmA; omega)]
      unfold M_draw
      rw [pk_un h1, pk_un h2, pk_un h1]
    · rw [if_neg b]; exact pk_un h1
theorem s2_o {r : Nat → Int32} {j z pb ov : Nat} (ez : r 736 = nI z) (ep : r 737 = nI pb) (eo : r 738 = nI ov) (hz : z ≤ 77) (hp : 1 ≤ pb) (hp2 : pb ≤ 80) (ho : ov * pb < z) (h1 : j ≠ 49) (h2 : j ≠ 45) (h3 : j < 819 ∨ 899 ≤ j) (h4 : j ≠ 738) (h5 : j ≠ 44) : M_s2 r j = r j := by
  have tz : tN (r 736) = z := by rw [ez]; exact nI_clamp (by omega)
  have tp : tN (r 737) = pb := by rw [ep]; exact nI_clamp (by omega)
  have hov : ov ≤ ov * pb := Nat.le_mul_of_pos_right _ (by omega)
  have to : tN (r 738) = ov := by rw [eo]; exact nI_clamp (by omega)
  unfold M_s2
  rw [tz, tp, to, pk_un h4, dam_o (by omega) (by omega) h1 h2 h3, pk_un h5]
  exact pk_un h1
set_option maxHeartbeats 4000000 in
set_option maxRecDepth 100000 in
theorem t12_sends {ln k z pb ov t nx s : Nat} {r bytes : Nat → Int32} {post : (Nat → Int32) → (Nat → Int32) → Prop} (e51 : r 51 = nI ln) (hl : ln ≤ 5) (hk : 0 < ln → k < 2500 ∧ r 735 = nI k ∧ r 736 = nI z ∧ 13 ≤ z ∧ z ≤ 77 ∧ r 737 = nI pb ∧ 10 ≤ pb ∧ pb ≤ 80 ∧ r 738 = nI ov ∧ ov * pb < z ∧ 4 * k ≤ t) (et : r 25 = nI t) (ht : t < 10000) (ex : r 30 = nI nx) (hx : nx < 100000) (es : r 49 = nI s) (hs : s < 1000003) (hlev : lev r ≤ 12) (h : ∀ bytes' : Nat → Int32, post (M_send r) bytes') : wp_X12_sends r bytes post := by
  unfold wp_X12_sends
  unfold M_send at h
  refine ⟨fun q => ?_, fun q => ?_⟩
  · rw [if_pos q] at h
    rintro _ rfl; exact h bytes
  rw [if_neg q] at h
  have h0 : 0 < ln := by
    rcases Nat.eq_zero_or_pos ln with y | y
    · exact absurd (by rw [e51, y]; rfl) q
    · exact y
  obtain ⟨hk, ek, ez, hz1, hz2, ep, hp1, hp2, eo, ho, hkt⟩ := hk h0
  have tz : tN (r 736) = z := by rw [ez]; exact nI_clamp (by omega)
  have tp : tN (r 737) = pb := by rw [ep]; exact nI_clamp (by omega)
  have hov : ov ≤ ov * pb := Nat.le_mul_of_pos_right _ (by omega)
  have to : tN (r 738) = ov := by rw [eo]; exact nI_clamp (by omega)
  have tk : tN (r 735) = k := by rw [ek]; exact nI_clamp (by omega)
  have tsn : tN (r 49) = s := by rw [es]; exact nI_clamp (by omega)
  have hdv : drV r < 62501 := by unfold drV; rw [tsn]; have := drS_lt s; omega
  unfold wp_X12_lineAt wp_X12_packetAt
  have eL : (735 : Int32) + 170 * 0 = nI 735 := by decide
  simp only [eL, forall_eq]
  simp (disch := omega) only [rA, lA, lM, nI_add, Nat.add_zero, nI_clamp, vpT, true_and, ek]
  have e1 : upd (upd r 27 (r 27 + 1)) (3385 + 4 * k + 1) (upd r 27 (r 27 + 1) (3385 + 4 * k + 1) + 1) = M_s1 r := by unfold M_s1; rw [tk, pk_un (j := 3385 + 4 * k + 1) (by omega)]
  rw [e1]
  have o1 : ∀ j, j ≠ 27 → j ≠ 3385 + 4 * k + 1 → M_s1 r j = r j := fun j a b => s1_o ek hk a b
  rw [o1 48 (by omega) (by omega)]
  refine ⟨fun q48 => ?_, fun q48 => ?_⟩
  · rw [if_pos q48] at h
    refine t12_draw (s := s) (by rw [o1 49 (by omega) (by omega)]; exact es) hs ?_
    have ed : drV (M_s1 r) = drV r := by unfold drV; rw [o1 49 (by omega) (by omega)]
    have od : ∀ j, j ≠ 49 → M_draw (M_s1 r) j = M_s1 r j := fun j a => pk_un a
    rw [ed, rR (by omega) (by omega) (by omega), od 11 (by omega), o1 11 (by omega) (by omega)]
    refine ⟨fun q11 => ?_, fun q11 => ?_⟩
    · rw [if_pos q11] at h
      rw [od 44 (by omega)]
      simp only [Nat.reduceAdd]
      have w1 : ∀ j, j ≠ 49 → j ≠ 44 → j ≠ 27 → j ≠ 3385 + 4 * k + 1 → upd (M_draw (M_s1 r)) 44 (M_s1 r 44 + 1) j = r j := fun j a b c d => by rw [pk_un b, od j a]; exact o1 j c d
      generalize hw : upd (M_draw (M_s1 r)) 44 (M_s1 r 44 + 1) = w at w1 ⊢
      have w736 : w 736 = nI z := by rw [w1 _ (by omega) (by omega) (by omega) (by omega)]; exact ez
      have w737 : w 737 = nI pb := by rw [w1 _ (by omega) (by omega) (by omega) (by omega)]; exact ep
      have w738 : w 738 = nI ov := by rw [w1 _ (by omega) (by omega) (by omega) (by omega)]; exact eo
      simp (disch := omega) only [w736, w737, w738, pk_mul, pk_sub, forall_eq]
      intro k31 hk31
      have w49 : w 49 = nI (drS s) := by rw [← hw, pk_un (by omega)]; unfold M_draw; rw [pk_us, o1 49 (by omega) (by omega), tsn]
      have fin : k31 (nI (min pb (z - ov * pb))) := by
        refine hk31 _ (t12_damages w49 (drS_lt s) (by omega) (by omega) ?_)
        have od2 : ∀ j, j ≠ 49 → j ≠ 45 → (j < 819 ∨ 899 ≤ j) → M_dam (ov * pb) (min pb (z - ov * pb)) w j = w j := fun j a b c => dam_o (by omega) (by omega) a b c
        have e738 : M_dam (ov * pb) (min pb (z - ov * pb)) w 738 = nI ov := by rw [od2 _ (by omega) (by omega) (by omega)]; exact w738
        simp (disch := omega) only [nI_clamp, vpT, true_and, forall_eq, e738, rA]
        have eS2 : upd (M_dam (ov * pb) (min pb (z - ov * pb)) w) 738 (nI (ov + 1)) = M_s2 (M_s1 r) := by
          unfold M_s2
          rw [o1 738 (by omega) (by omega), o1 737 (by omega) (by omega), o1 736 (by omega) (by omega), to, tp, tz, hw, eo, rA]
        rw [eS2]
        have a736 : M_s1 r 736 = nI z := by rw [o1 _ (by omega) (by omega)]; exact ez
        have a737 : M_s1 r 737 = nI pb := by rw [o1 _ (by omega) (by omega)]; exact ep
        have a738 : M_s1 r 738 = nI ov := by rw [o1 _ (by omega) (by omega)]; exact eo
        have o2 : ∀ j, j ≠ 49 → j ≠ 45 → (j < 819 ∨ 899 ≤ j) → j ≠ 738 → j ≠ 44 → M_s2 (M_s1 r) j = M_s1 r j := fun j a b c d e => s2_o a736 a737 a738 hz2 (by omega) hp2 ho a b c d e
        have b738 : M_s2 (M_s1 r) 738 = nI (ov + 1) := by rw [← eS2, pk_us]
        have b736 : M_s2 (M_s1 r) 736 = nI z := by rw [o2 _ (by omega) (by omega) (by omega) (by omega) (by omega)]; exact a736
        have b737 : M_s2 (M_s1 r) 737 = nI pb := by rw [o2 _ (by omega) (by omega) (by omega) (by omega) (by omega)]; exact a737
        rw [b738, b736, b737]
        unfold wp_X12_piecesOf
        refine ⟨nI_ne0 (by omega) (by omega), ?_⟩
        have hdl : (z + pb - 1) / pb ≤ z + pb - 1 := Nat.div_le_self _ _
        rw [nI_add, rS (by omega), pk_div (by omega) (by omega) (by omega)]
        rintro _ rfl
        rw [to, tz, tp] at h
        refine ⟨fun y => ?_, fun y => ?_⟩
        · have hy := (nI_eq (by omega) (by omega)).mp y
          rw [if_pos hy] at h
          refine t12_looks (ln := ln) (z := z) (t := t) (nx := nx) ?_ h0 hl hk ?_ b736 hz1 hz2 ?_ ht hkt ?_ hx ?_ h
          · rw [o2 _ (by omega) (by omega) (by omega) (by omega) (by omega), o1 _ (by omega) (by omega)]; exact e51
          · rw [o2 _ (by omega) (by omega) (by omega) (by omega) (by omega), o1 _ (by omega) (by omega)]; exact ek
          · rw [o2 _ (by omega) (by omega) (by omega) (by omega) (by omega), o1 _ (by omega) (by omega)]; exact et
          · rw [o2 _ (by omega) (by omega) (by omega) (by omega) (by omega), o1 _ (by omega) (by omega)]; exact ex
          · rw [lev_c (r := r) (fun j a b => by rw [o2 _ (by omega) (by omega) (by omega) (by omega) (by omega), o1 _ (by omega) (by omega)]) (by rw [o2 _ (by omega) (by omega) (by omega) (by omega) (by omega), o1 _ (by omega) (by omega)])]; exact hlev
        · have hy : ¬ ov + 1 = (z + pb - 1) / pb := fun y2 => y (by rw [y2])
          rw [if_neg hy] at h; exact h bytes
      refine ⟨fun y => ?_, fun y => ?_⟩
      · have hy := (nI_leI (by omega) (by omega)).mp y
        rw [Nat.min_eq_left hy] at fin; exact fin
      · have hy : ¬ pb ≤ z - ov * pb := fun y2 => y ((nI_leI (by omega) (by omega)).mpr y2)
        rw [Nat.min_eq_right (by omega)] at fin; exact fin
    · rw [if_neg q11] at h; exact h bytes
  · rw [if_neg q48] at h
    exact h bytes
