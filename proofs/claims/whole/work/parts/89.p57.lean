/-! pure part 57: queries: source, heard, code, paired, delays, count -/
theorem wide_pred {n : Nat} (h : n < 2 ^ 31) : (nI n).toInt64 - (1 : Int64) = (nI n - 1).toInt64 := by
  have e1 : (1 : Int64).toInt = 1 := by decide
  have e2 : (1 : Int32).toInt = 1 := by decide
  have e3 : (nI n).toInt64.toInt = n := by rw [Int32.toInt_toInt64, nI_toInt h]
  have e4 : (nI n - 1).toInt = (n : Int) - 1 := by rw [fb_subI, nI_toInt h, e2] <;> rw [nI_toInt h, e2] <;> omega
  apply Int64.toInt_inj.mp
  rw [fb_subL, e3, e1, Int32.toInt_toInt64, e4] <;> rw [e3, e1] <;> omega
theorem t_noFrame {t cd nx ln hd bl hb : Nat} {nb rec dly : Nat → Int32} {pnum psent pover ppb : Nat → Int32} {wb : Nat → Nat → Int32} {wsz : Nat → Int32} {cb : Nat → Nat → Int32} {csz : Nat → Int32} {bnum : Nat → Int32} {bcb : Nat → Nat → Int32} {bcsz : Nat → Int32} {A0 B0 A1 B1 split told quants backs scales bits : Nat → Int32} {tw me sz : Int32} {bytes : Nat → Int32} {eA0 eB0 eA1 eB1 e0 e1 recs : Nat → Int32} {row : Nat → Int32} {post : Int32 → Prop} (h : RW t cd nx ln hd bl hb nb rec dly pnum psent pover ppb wb wsz cb csz bnum bcb bcsz A0 B0 A1 B1 split told quants backs scales bits tw me sz bytes eA0 eB0 eA1 eB1 e0 e1 recs row) (h1 : cd = 0 → post 1) (h0 : 0 < cd → post 0) : wp_X11_noFrame nb post := by
  have e : nb 1 = nI cd := (h.aft.1 1 (by omega) (by omega) (by omega) (by omega)).trans h.t26
  have hc := h.hcd
  have ht := h.ht
  unfold wp_X11_noFrame
  rw [e]
  exact ⟨fun q => h1 ((nI_eq (b := 0) (by omega) (by omega)).mp q), fun q => h0 (by
    rcases Nat.eq_zero_or_pos cd with y | y
    · exact absurd (by rw [y]; rfl) q
    · exact y)⟩
theorem t_isCoded {t cd nx ln hd bl hb : Nat} {nb rec dly : Nat → Int32} {pnum psent pover ppb : Nat → Int32} {wb : Nat → Nat → Int32} {wsz : Nat → Int32} {cb : Nat → Nat → Int32} {csz : Nat → Int32} {bnum : Nat → Int32} {bcb : Nat → Nat → Int32} {bcsz : Nat → Int32} {A0 B0 A1 B1 split told quants backs scales bits : Nat → Int32} {tw me sz : Int32} {bytes : Nat → Int32} {eA0 eB0 eA1 eB1 e0 e1 recs : Nat → Int32} {row : Nat → Int32} {post : Int32 → Prop} (h : RW t cd nx ln hd bl hb nb rec dly pnum psent pover ppb wb wsz cb csz bnum bcb bcsz A0 B0 A1 B1 split told quants backs scales bits tw me sz bytes eA0 eB0 eA1 eB1 e0 e1 recs row) (h0 : cd = 0 → post 0) (h1 : 0 < cd → post 1) : wp_X12_isCoded row post := by
  have hc := h.hcd
  have ht := h.ht
  unfold wp_X12_isCoded
  rw [h.t26]
  exact ⟨fun q => h0 (by have := (nI_leI (b := 0) (by omega) (by omega)).mp q; omega), fun q => h1 (by
    rcases Nat.eq_zero_or_pos cd with y | y
    · exact absurd (by rw [y]; exact Int32.le_refl _) q
    · exact y)⟩
set_option maxHeartbeats 800000 in
set_option maxRecDepth 100000 in
theorem s_source {v1 v2 th : Int32} {t cd nx ln hd bl hb : Nat} {nb rec dly : Nat → Int32} {pnum psent pover ppb : Nat → Int32} {wb : Nat → Nat → Int32} {wsz : Nat → Int32} {cb : Nat → Nat → Int32} {csz : Nat → Int32} {bnum : Nat → Int32} {bcb : Nat → Nat → Int32} {bcsz : Nat → Int32} {A0 B0 A1 B1 split told quants backs scales bits : Nat → Int32} {tw me sz : Int32} {bytes : Nat → Int32} {eA0 eB0 eA1 eB1 e0 e1 recs : Nat → Int32} {row : Nat → Int32} {P : Int32 → Int32 → Int32 → Prop} (h : RW t cd nx ln hd bl hb nb rec dly pnum psent pover ppb wb wsz cb csz bnum bcb bcsz A0 B0 A1 B1 split told quants backs scales bits tw me sz bytes eA0 eB0 eA1 eB1 e0 e1 recs row) (hp : ∀ r, P r r 0) :
    wp_X11_source v1 v2 nb (fun r => wp_X12_source v1 v2 th row (fun r' th' => P r r' th')) := by
  unfold wp_X11_source wp_X12_source
  refine t_within (fun q1 => ⟨fun z => absurd z (by decide), fun _ => ?_⟩) (fun q1 => ⟨fun _ => ?_, fun z => absurd rfl z⟩)
  rotate_left
  · exact t_inI 0 1 (fun y => absurd y q1) (fun _ => ⟨fun _ => hp _, fun z => absurd rfl z⟩)
  refine t_within (fun q2 => ⟨fun z => absurd z (by decide), fun _ => ?_⟩) (fun q2 => ⟨fun _ => ?_, fun z => absurd rfl z⟩)
  rotate_left
  · exact t_inI 0 1 (fun _ => ⟨fun z => absurd z (by decide), fun _ => t_inI 0 99999 (fun y => absurd y q2) (fun _ => ⟨fun _ => hp _, fun z => absurd rfl z⟩)⟩) (fun y => absurd q1 y)
  have q1' := q1
  have q2' := q2
  obtain ⟨c, _, hc, rfl⟩ := btw_n (a := 0) (b := 1) q1
  obtain ⟨n, _, hn, rfl⟩ := btw_n (a := 0) (b := 99999) q2
  obtain ⟨sd, hsd, es⟩ := h.ok.1
  have hN := h.aft.1
  obtain ⟨u1, u2, u3⟩ := hm_tone c (by omega)
  have n48 : nb (48 + 3 * c) = row c := (hN (48 + 3 * c) (by omega) (by omega) (by omega) (by omega)).trans (congrArg row u1)
  have n49 : nb (48 + 3 * c + 1) = row (2 + c) := (hN (48 + 3 * c + 1) (by omega) (by omega) (by omega) (by omega)).trans (congrArg row u2)
  have n50 : nb (48 + 3 * c + 2) = row (4 + c) := (hN (48 + 3 * c + 2) (by omega) (by omega) (by omega) (by omega)).trans (congrArg row u3)
  have n20 : nb 20 = row 6 := hN 20 (by omega) (by omega) (by omega) (by omega)
  refine t_sampleOf (sd := sd) rfl (by omega) (by omega) hsd ?_ (by rw [n50]; exact okM h.ok (by omega)) (by rw [n20]; exact es) ?_
  · rw [n48]
    obtain ⟨p, p1, p2, ep⟩ := h.ok.2.2.2.2.2.2.2.1 c (by omega)
    rw [ep]; exact nI_lt (a := 1) (by omega) (by omega)
  · rw [n48, n49, n50]
    refine t_inI 0 1 (fun _ => ⟨fun z => absurd z (by decide), fun _ => t_inI 0 99999 (fun _ => ⟨fun z => absurd z (by decide), fun _ => ?_⟩) (fun y => absurd q2' y)⟩) (fun y => absurd q1' y)
    exact t_sample (sd := sd) (by omega) (by omega) hsd (okP h.ok (by omega)) (okM h.ok (by omega)) es (hp _)
set_option maxHeartbeats 800000 in
set_option maxRecDepth 100000 in
theorem s_heard {v1 v2 th : Int32} {t cd nx ln hd bl hb : Nat} {nb rec dly : Nat → Int32} {pnum psent pover ppb : Nat → Int32} {wb : Nat → Nat → Int32} {wsz : Nat → Int32} {cb : Nat → Nat → Int32} {csz : Nat → Int32} {bnum : Nat → Int32} {bcb : Nat → Nat → Int32} {bcsz : Nat → Int32} {A0 B0 A1 B1 split told quants backs scales bits : Nat → Int32} {tw me sz : Int32} {bytes : Nat → Int32} {eA0 eB0 eA1 eB1 e0 e1 recs : Nat → Int32} {row : Nat → Int32} {P : Int32 → Int32 → Int32 → Prop} (h : RW t cd nx ln hd bl hb nb rec dly pnum psent pover ppb wb wsz cb csz bnum bcb bcsz A0 B0 A1 B1 split told quants backs scales bits tw me sz bytes eA0 eB0 eA1 eB1 e0 e1 recs row) (hp : ∀ r, P r r 0) :
    wp_X11_heard v1 v2 e0 e1 (fun r => wp_X12_heard v1 v2 th row (fun r' th' => P r r' th')) := by
  unfold wp_X11_heard wp_X12_heard
  refine t_within (fun q1 => ⟨fun z => absurd z (by decide), fun _ => ?_⟩) (fun q1 => ⟨fun _ => ?_, fun z => absurd rfl z⟩)
  rotate_left
  · exact t_inI 0 1 (fun y => absurd y q1) (fun _ => ⟨fun _ => hp _, fun z => absurd rfl z⟩)
  refine t_within (fun q2 => ⟨fun z => absurd z (by decide), fun _ => ?_⟩) (fun q2 => ⟨fun _ => ?_, fun z => absurd rfl z⟩)
  rotate_left
  · exact t_inI 0 1 (fun _ => ⟨fun z => absurd z (by decide), fun _ => t_inI 0 191 (fun y => absurd y q2) (fun _ => ⟨fun _ => hp _, fun z => absurd rfl z⟩)⟩) (fun y => absurd q1 y)
  have q1' := q1
  have q2' := q2
  obtain ⟨c, _, hc, rfl⟩ := btw_n (a := 0) (b := 1) q1
  obtain ⟨n, _, hn, rfl⟩ := btw_n (a := 0) (b := 191) q2
  have go : ∀ x : Int32, x = row (109 + 192 * c + (191 - n)) → wp_X12_in (nI c).toInt64 0 1 (fun r1 => (r1 = 0 → P x (-2147483648) 0) ∧ (¬ r1 = 0 → wp_X12_in (nI n).toInt64 0 191 (fun r3 => (r3 = 0 → P x (-2147483648) 0) ∧ (¬ r3 = 0 → vp_in ((((109 + (192 * nI c)) + 192) - 1) - nI n) 13385 ∧ P x (row ((((109 + (192 * nI c)) + 192) - 1) - nI n).toNatClampNeg) 0)))) := by
    rintro x rfl
    refine t_inI 0 1 (fun _ => ⟨fun z => absurd z (by decide), fun _ => t_inI 0 191 (fun _ => ⟨fun z => absurd z (by decide), fun _ => ?_⟩) (fun y => absurd q2' y)⟩) (fun y => absurd q1' y)
    rw [lM, lA, rA, rS (by omega), pk_sub (by omega), nI_clamp (by omega), show 109 + 192 * c + 192 - 1 - n = 109 + 192 * c + (191 - n) by omega]
    exact ⟨vp_in_nI (by omega) (by omega), hp _⟩
  have e := h.pl.ear (191 - n) (by omega)
  unfold wp_X3_sampleAgo
  rw [lS (by omega), nI_clamp (by omega)]
  have hc2 : c = 0 ∨ c = 1 := by omega
  rcases hc2 with rfl | rfl
  · exact Or.inl ⟨rfl, vp_in_nI (by omega) (by omega), go _ e.1⟩
  · exact Or.inr ⟨rfl, vp_in_nI (by omega) (by omega), go _ e.2⟩
set_option maxHeartbeats 800000 in
set_option maxRecDepth 100000 in
theorem s_code {v1 th : Int32} {t cd nx ln hd bl hb : Nat} {nb rec dly : Nat → Int32} {pnum psent pover ppb : Nat → Int32} {wb : Nat → Nat → Int32} {wsz : Nat → Int32} {cb : Nat → Nat → Int32} {csz : Nat → Int32} {bnum : Nat → Int32} {bcb : Nat → Nat → Int32} {bcsz : Nat → Int32} {A0 B0 A1 B1 split told quants backs scales bits : Nat → Int32} {tw me sz : Int32} {bytes : Nat → Int32} {eA0 eB0 eA1 eB1 e0 e1 recs : Nat → Int32} {row : Nat → Int32} {P : Int32 → Int32 → Int32 → Prop} (h : RW t cd nx ln hd bl hb nb rec dly pnum psent pover ppb wb wsz cb csz bnum bcb bcsz A0 B0 A1 B1 split told quants backs scales bits tw me sz bytes eA0 eB0 eA1 eB1 e0 e1 recs row) (hp : ∀ r, P r r 0) :
    wp_X11_code v1 nb sz bytes (fun r => wp_X12_code v1 th row (fun r' th' => P r r' th')) := by
  unfold wp_X11_code wp_X12_code
  refine t_noFrame h (fun c0 => ⟨fun z => absurd z (by decide), fun _ => t_isCoded h (fun _ => ⟨fun _ => hp _, fun z => absurd rfl z⟩) (fun y => absurd y (by omega))⟩) (fun c0 => ⟨fun _ => ?_, fun z => absurd rfl z⟩)
  obtain ⟨_, _, _, _, _, ⟨z, hz1, hz2, e1, e2⟩, eb, _⟩ := h.fr c0
  have co : ∀ Q : Int32 → Prop, Q 1 → wp_X12_isCoded row Q := fun Q hQ => t_isCoded h (fun y => absurd y (by omega)) (fun _ => hQ)
  refine ⟨fun e => co _ ⟨fun y => absurd y (by decide), fun _ => ⟨fun _ => ?_, fun y => absurd e y⟩⟩, fun e => ?_⟩
  · rw [e1, e2]; exact hp _
  · rw [e1]
    have ez : (nI z).toInt64 - (1 : Int64) = (nI z - 1).toInt64 := wide_pred (by omega)
    refine t_within (fun q => ⟨fun y => absurd y (by decide), fun _ => ?_⟩) (fun q => ⟨fun _ => co _ ⟨fun y => absurd y (by decide), fun _ => ⟨fun y => absurd y e, fun _ => ?_⟩⟩, fun y => absurd rfl y⟩)
    · have q' := q
      rw [rS (by omega)] at q
      obtain ⟨n, _, hn, rfl⟩ := btw_n (a := 0) (b := z - 1) q
      rw [nI_clamp (show n < 2 ^ 31 by omega)]
      refine ⟨vp_in_nI (by omega) (by omega), co _ ⟨fun y => absurd y (by decide), fun _ => ⟨fun y => absurd y e, fun _ => ?_⟩⟩⟩
      rw [e2]
      refine t_inI 0 (nI z - 1) (fun _ => ⟨fun y => absurd y (by decide), fun _ => ?_⟩) (fun y => absurd q' y) (by decide) ez
      rw [lA, nI_clamp (by omega), eb n (by omega)]
      exact ⟨vp_in_nI (by omega) (by omega), hp _⟩
    · rw [e2]
      exact t_inI 0 (nI z - 1) (fun y => absurd y q) (fun _ => ⟨fun _ => hp _, fun y => absurd rfl y⟩) (by decide) ez
set_option maxHeartbeats 800000 in
set_option maxRecDepth 100000 in
theorem s_paired {v1 v2 th : Int32} {t cd nx ln hd bl hb : Nat} {nb rec dly : Nat → Int32} {pnum psent pover ppb : Nat → Int32} {wb : Nat → Nat → Int32} {wsz : Nat → Int32} {cb : Nat → Nat → Int32} {csz : Nat → Int32} {bnum : Nat → Int32} {bcb : Nat → Nat → Int32} {bcsz : Nat → Int32} {A0 B0 A1 B1 split told quants backs scales bits : Nat → Int32} {tw me sz : Int32} {bytes : Nat → Int32} {eA0 eB0 eA1 eB1 e0 e1 recs : Nat → Int32} {row : Nat → Int32} {P : Int32 → Int32 → Int32 → Prop} (h : RW t cd nx ln hd bl hb nb rec dly pnum psent pover ppb wb wsz cb csz bnum bcb bcsz A0 B0 A1 B1 split told quants backs scales bits tw me sz bytes eA0 eB0 eA1 eB1 e0 e1 recs row) (hp : ∀ r, P r r 0) :
    wp_X11_paired v1 v2 nb split (fun r => wp_X12_paired v1 v2 th row (fun r' th' => P r r' th')) := by
  unfold wp_X11_paired wp_X12_paired
  refine t_noFrame h (fun c0 => ⟨fun z => absurd z (by decide), fun _ => t_isCoded h (fun _ => ⟨fun _ => hp _, fun z => absurd rfl z⟩) (fun y => absurd y (by omega))⟩) (fun c0 => ⟨fun _ => ?_, fun z => absurd rfl z⟩)
  have es := (h.fr c0).1
  have co : ∀ Q : Int32 → Prop, Q 1 → wp_X12_isCoded row Q := fun Q hQ => t_isCoded h (fun y => absurd y (by omega)) (fun _ => hQ)
  refine t_within (fun q1 => ⟨fun z => absurd z (by decide), fun _ => ?_⟩) (fun q1 => ⟨fun _ => co _ ⟨fun y => absurd y (by decide), fun _ => t_inI 0 7 (fun y => absurd y q1) (fun _ => ⟨fun _ => hp _, fun z => absurd rfl z⟩)⟩, fun z => absurd rfl z⟩)
  refine t_within (fun q2 => ⟨fun z => absurd z (by decide), fun _ => ?_⟩) (fun q2 => ⟨fun _ => co _ ⟨fun y => absurd y (by decide), fun _ => t_inI 0 7 (fun _ => ⟨fun z => absurd z (by decide), fun _ => t_inI 0 1 (fun y => absurd y q2) (fun _ => ⟨fun _ => hp _, fun z => absurd rfl z⟩)⟩) (fun y => absurd q1 y)⟩, fun z => absurd rfl z⟩)
  have q1' := q1
  have q2' := q2
  obtain ⟨b, _, hb7, rfl⟩ := btw_n (a := 0) (b := 7) q1
  obtain ⟨w, _, hw, rfl⟩ := btw_n (a := 0) (b := 1) q2
  have V : ∀ c, c < 16 → ∀ k, k < 4 → row (493 + (4 * c + k)) = (fun c k => split (16 * k + c)) c k := fun c hc k hk => (es c hc k hk).symm
  have ref : ∀ x : Int32, x = (if w = 0 then sumA (fun c k => split (16 * k + c)) b 4 else sumP (fun c k => split (16 * k + c)) b 4) → wp_X12_isCoded row (fun r1 => (r1 = 0 → P x (-1) 0) ∧ (¬ r1 = 0 → wp_X12_in (nI b).toInt64 0 7 (fun r3 => (r3 = 0 → P x (-1) 0) ∧ (¬ r3 = 0 → wp_X12_in (nI w).toInt64 0 1 (fun r5 => (r5 = 0 → P x (-1) 0) ∧ (¬ r5 = 0 → ∀ k8 : Int32 → Prop, (∀ (x7 : Int32), (wp_X12_sizes (nI b) x7 row (fun r10 => P x r10 0)) → k8 x7) → (nI w = 1 → k8 1) ∧ (¬ nI w = 1 → k8 0))))))) := by
    rintro x rfl
    refine co _ ⟨fun y => absurd y (by decide), fun _ => t_inI 0 7 (fun _ => ⟨fun z => absurd z (by decide), fun _ => t_inI 0 1 (fun _ => ⟨fun z => absurd z (by decide), fun _ => ?_⟩) (fun y => absurd q2' y)⟩) (fun y => absurd q1' y)⟩
    intro k8 hk8
    refine ⟨fun y => hk8 _ (t12_sizes (by omega) V _ ?_), fun y => hk8 _ (t12_sizes (by omega) V _ ?_)⟩
    · have : w = 1 := (nI_eq (b := 1) (by omega) (by omega)).mp y
      rw [if_neg (by omega), if_neg (by decide)]; exact hp _
    · have : w = 0 := by
        rcases Nat.eq_zero_or_pos w with u | u
        · exact u
        · exact absurd (by rw [show w = 1 by omega]; rfl) y
      rw [if_pos this, if_pos rfl]; exact hp _
  refine ⟨fun y => ?_, fun y => ?_⟩
  · have : w = 0 := (nI_eq (b := 0) (by omega) (by omega)).mp y
    refine t4_sumApart (by omega) (V := fun c k => split (16 * k + c)) (fun _ _ _ _ => rfl) (ref _ ?_)
    rw [if_pos this]
  · have : ¬ w = 0 := fun u => y (by rw [u]; rfl)
    refine t4_sumPaired (by omega) (V := fun c k => split (16 * k + c)) (fun _ _ _ _ => rfl) (ref _ ?_)
    rw [if_neg this]
def dlS (f : Nat → Int32) (a : Nat) : Nat → Int32
  | 0 => 0
  | n + 1 => dlS f a n + f (a + n)
set_option maxHeartbeats 800000 in
set_option maxRecDepth 100000 in
theorem s_delays {v1 v2 th : Int32} {t cd nx ln hd bl hb : Nat} {nb rec dly : Nat → Int32} {pnum psent pover ppb : Nat → Int32} {wb : Nat → Nat → Int32} {wsz : Nat → Int32} {cb : Nat → Nat → Int32} {csz : Nat → Int32} {bnum : Nat → Int32} {bcb : Nat → Nat → Int32} {bcsz : Nat → Int32} {A0 B0 A1 B1 split told quants backs scales bits : Nat → Int32} {tw me sz : Int32} {bytes : Nat → Int32} {eA0 eB0 eA1 eB1 e0 e1 recs : Nat → Int32} {row : Nat → Int32} {P : Int32 → Int32 → Int32 → Prop} (h : RW t cd nx ln hd bl hb nb rec dly pnum psent pover ppb wb wsz cb csz bnum bcb bcsz A0 B0 A1 B1 split told quants backs scales bits tw me sz bytes eA0 eB0 eA1 eB1 e0 e1 recs row) (hp : ∀ r, P r r 0) :
    wp_X11_delays v1 v2 dly (fun r => wp_X12_delays v1 v2 th row (fun r' th' => P r r' th')) := by
  have hD := h.aft.2.2.2.2.2.1
  unfold wp_X11_delays wp_X12_delays
  refine t_within (fun q1 => ⟨fun z => absurd z (by decide), fun _ => ?_⟩) (fun q1 => ⟨fun _ => t_inI 0 15 (fun y => absurd y q1) (fun _ => ⟨fun _ => hp _, fun z => absurd rfl z⟩), fun z => absurd rfl z⟩)
  refine t_within (fun q2 => ⟨fun z => absurd z (by decide), fun _ => ?_⟩) (fun q2 => ⟨fun _ => t_inI 0 15 (fun _ => ⟨fun z => absurd z (by decide), fun _ => t_inI 0 1 (fun y => absurd y q2) (fun _ => ⟨fun _ => hp _, fun z => absurd rfl z⟩)⟩) (fun y => absurd q1 y), fun z => absurd rfl z⟩)
  have q1' := q1
  obtain ⟨n, _, hn, rfl⟩ := btw_n (a := 0) (b := 15) q1
  have ref : ∀ x : Int32, (v2 = 0 → x = row (3369 + n)) → (¬ v2 = 0 → x = dlS (fun j => row (3369 + j)) (n + 1) (15 - n)) → wp_X12_in (nI n).toInt64 0 15 (fun r1 => (r1 = 0 → P x (-1) 0) ∧ (¬ r1 = 0 → wp_X12_in v2.toInt64 0 1 (fun r3 => (r3 = 0 → P x (-1) 0) ∧ (¬ r3 = 0 → ∀ x5 : Int32, x5 = nI n + 1 → ∀ x6 : Int32, x6 = 0 → Lz2 (fun g7 (x9 : Int32) (x10 : Int32) => ((16 : Int32) ≤ x9 → (v2 = 0 → vp_in (3369 + nI n) 13385 ∧ P x (row (3369 + nI n).toNatClampNeg) 0) ∧ (¬ v2 = 0 → P x x10 0)) ∧ (¬ (16 : Int32) ≤ x9 → vp_in (3369 + x9) 13385 ∧ ∀ x15 : Int32, x15 = x10 + (row (3369 + x9).toNatClampNeg) → g7 (x9 + 1) x15)) x5 x6)))) := by
    intro x hx0 hx1
    refine t_inI 0 15 (fun _ => ⟨fun z => absurd z (by decide), fun _ => t_inI 0 1 (fun _ => ⟨fun z => absurd z (by decide), fun _ => ?_⟩) (fun y => absurd q2 y)⟩) (fun y => absurd q1' y)
    rw [rA]
    rintro _ rfl _ rfl
    refine cinv1 (n + 1) 16 (fun k s => s = dlS (fun j => row (3369 + j)) (n + 1) (k - (n + 1))) (by rw [Nat.sub_self]; rfl) ?_ ?_
    · intro k s hk0 hk hI g hg
      subst hI
      rw [lA, nI_clamp (by omega)]
      refine ⟨vp_in_nI (by omega) (by omega), ?_⟩
      rintro _ rfl
      rw [rA]
      refine hg _ ?_
      rw [show k + 1 - (n + 1) = k - (n + 1) + 1 by omega, dlS, show n + 1 + (k - (n + 1)) = k by omega]
    · intro s hI
      refine ⟨fun y => ?_, fun y => ?_⟩
      · rw [lA, nI_clamp (by omega), ← hx0 y]; exact ⟨vp_in_nI (by omega) (by omega), hp _⟩
      · rw [hI, show 16 - (n + 1) = 15 - n by omega, ← hx1 y]; exact hp _
  refine ⟨fun y => ?_, fun y => ?_⟩
  · rw [nI_clamp (show n < 2 ^ 31 by omega)]
    exact ⟨vp_in_nI (by omega) (by omega), ref _ (fun _ => hD n (by omega)) (fun z => absurd y z)⟩
  · unfold wp_X0_delaysAbove
    rintro x1 hx1 _ rfl
    rw [rA] at hx1
    subst hx1
    refine cinv1 (n + 1) 16 (fun k s => s = dlS (fun j => row (3369 + j)) (n + 1) (k - (n + 1))) (by rw [Nat.sub_self]; rfl) ?_ ?_
    · intro k s hk0 hk hI g hg
      subst hI
      rw [nI_clamp (by omega)]
      refine ⟨vp_in_nI (by omega) (by omega), ?_⟩
      rintro _ rfl
      rw [rA]
      refine hg _ ?_
      rw [show k + 1 - (n + 1) = k - (n + 1) + 1 by omega, dlS, show n + 1 + (k - (n + 1)) = k by omega, hD k (by omega)]
    · intro s hI
      refine ref _ (fun z => absurd z y) (fun _ => ?_)
      rw [hI, show 16 - (n + 1) = 15 - n by omega]
