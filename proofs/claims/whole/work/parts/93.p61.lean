/-! pure part 61: late -/
theorem osm_head (f : Nat → Int32) : ∀ n, osm f (n + 1) = f 0 + osm (fun i => f (i + 1)) n
  | 0 => by rw [osm, osm, osm]; rw [Int32.zero_add, Int32.add_zero]
  | n + 1 => by rw [osm, osm_head f n, osm, Int32.add_assoc]
theorem osm_rev : ∀ (n : Nat) (f : Nat → Int32), osm (fun i => f (n - 1 - i)) n = osm f n
  | 0, _ => rfl
  | n + 1, f => by
    rw [osm_head, osm]
    have e : osm (fun i => f (n + 1 - 1 - (i + 1))) n = osm (fun i => f (n - 1 - i)) n := osm_c n (fun i hi => congrArg f (by omega))
    rw [e, osm_rev n f, Nat.add_sub_cancel, Nat.sub_zero, Int32.add_comm]
theorem neg_neg32 (v : Int32) : -(-v) = v := by simp
theorem jabs_neg (v : Int32) : jabs (-v) = jabs v := by
  have hr := Int32.le_toInt v
  have hr2 := Int32.toInt_lt v
  have z : (0 : Int32).toInt = 0 := by decide
  by_cases hm : v.toInt = -2147483648
  · have : v = -2147483648 := Int32.toInt_inj.mp (by rw [hm]; decide)
    rw [this]; decide
  · have hn : (-v).toInt = -v.toInt := by
      rw [show -v = 0 - v by simp, fb_subI, z] <;> (try rw [z]) <;> omega
    unfold jabs
    by_cases h1 : 0 ≤ v
    · by_cases h2 : 0 ≤ -v
      · rw [if_pos h1, if_pos h2]
        rw [fa_le, z] at h1 h2
        apply Int32.toInt_inj.mp; omega
      · rw [if_pos h1, if_neg h2]; simp
    · by_cases h2 : 0 ≤ -v
      · rw [if_neg h1, if_pos h2]; simp
      · exfalso
        rw [fa_le, z] at h1 h2
        omega
theorem jabs_comm (x y : Int32) : jabs (x - y) = jabs (y - x) := by
  rw [← jabs_neg]; congr 1; simp
def isMin (f : Nat → Int32) (n : Nat) (m : Int32) : Prop := (∀ i, i < n → m ≤ f i) ∧ ∃ i, i < n ∧ m = f i
def isMax (f : Nat → Int32) (n : Nat) (m : Int32) : Prop := (∀ i, i < n → f i ≤ m) ∧ ∃ i, i < n ∧ m = f i
theorem isMin_un {f : Nat → Int32} {n : Nat} {m m' : Int32} (h : isMin f n m) (h' : isMin f n m') : m = m' := by
  obtain ⟨i, hi, e⟩ := h.2
  obtain ⟨j, hj, e'⟩ := h'.2
  have a := h.1 j hj
  have b := h'.1 i hi
  rw [← e'] at a
  rw [← e] at b
  rw [fa_le] at a b
  exact Int32.toInt_inj.mp (by omega)
theorem isMax_un {f : Nat → Int32} {n : Nat} {m m' : Int32} (h : isMax f n m) (h' : isMax f n m') : m = m' := by
  obtain ⟨i, hi, e⟩ := h.2
  obtain ⟨j, hj, e'⟩ := h'.2
  have a := h.1 j hj
  have b := h'.1 i hi
  rw [← e'] at a
  rw [← e] at b
  rw [fa_le] at a b
  exact Int32.toInt_inj.mp (by omega)
theorem isMin_rev {f : Nat → Int32} {n : Nat} {m : Int32} (h : isMin (fun a => f (n - 1 - a)) n m) : isMin f n m := by
  obtain ⟨i, hi, e⟩ := h.2
  exact ⟨fun j hj => by have : m ≤ f (n - 1 - (n - 1 - j)) := h.1 (n - 1 - j) (by omega); rwa [show n - 1 - (n - 1 - j) = j by omega] at this, n - 1 - i, by omega, e⟩
theorem isMax_rev {f : Nat → Int32} {n : Nat} {m : Int32} (h : isMax (fun a => f (n - 1 - a)) n m) : isMax f n m := by
  obtain ⟨i, hi, e⟩ := h.2
  exact ⟨fun j hj => by have : f (n - 1 - (n - 1 - j)) ≤ m := h.1 (n - 1 - j) (by omega); rwa [show n - 1 - (n - 1 - j) = j by omega] at this, n - 1 - i, by omega, e⟩
def LT (row : Nat → Int32) (i : Nat) : Int32 := row (3257 + 7 * i + 6) - 4 * row (3257 + 7 * i)
def ltD (row : Nat → Int32) (i : Nat) : Int32 := if i = 0 then 0 else jabs (LT row i - LT row (i - 1))
def ltM (row : Nat → Int32) (i : Nat) : Int32 := if row (3257 + 7 * i + 1) = 2 then 1 else 0
theorem ltD_rev (row : Nat → Int32) : ∀ n, 0 < n → osm (fun a => if a = 0 then 0 else jabs (LT row (n - 1 - a) - LT row (n - 1 - (a - 1)))) n = osm (ltD row) n
  | 0, h => absurd h (Nat.lt_irrefl _)
  | m + 1, _ => by
    rw [osm_head, osm_head]
    have e0 : ltD row 0 = 0 := if_pos rfl
    rw [e0, if_pos rfl, ← osm_rev m (fun i => ltD row (i + 1))]
    congr 1
    refine osm_c m (fun i hi => ?_)
    unfold ltD
    rw [if_neg (by omega), if_neg (by omega), jabs_comm, show m + 1 - 1 - (i + 1 - 1) = m - 1 - i + 1 by omega, show m + 1 - 1 - (i + 1) = m - 1 - i + 1 - 1 by omega]
theorem t_lateness {t cd nx ln hd bl hb a : Nat} {nb rec dly : Nat → Int32} {pnum psent pover ppb : Nat → Int32} {wb : Nat → Nat → Int32} {wsz : Nat → Int32} {cb : Nat → Nat → Int32} {csz : Nat → Int32} {bnum : Nat → Int32} {bcb : Nat → Nat → Int32} {bcsz : Nat → Int32} {A0 B0 A1 B1 split told quants backs scales bits : Nat → Int32} {tw me sz : Int32} {bytes : Nat → Int32} {eA0 eB0 eA1 eB1 e0 e1 recs : Nat → Int32} {row : Nat → Int32} {post : Int32 → Prop} (h : RW t cd nx ln hd bl hb nb rec dly pnum psent pover ppb wb wsz cb csz bnum bcb bcsz A0 B0 A1 B1 split told quants backs scales bits tw me sz bytes eA0 eB0 eA1 eB1 e0 e1 recs row) (ha : a < min nx 16) (hp : post (LT row (min nx 16 - 1 - a))) : wp_X6_lateness (nI a) nb recs post := by
  have n7 : nb 7 = nI nx := (h.aft.1 7 (by omega) (by omega) (by omega) (by omega)).trans h.aft.2.2.2.2.2.2.2.2
  obtain ⟨p, _, _, hb2⟩ := h.ph
  have := h.ht
  unfold wp_X6_lateness
  refine t_recordOf (w := 6) h ha (by omega) (by omega) ?_
  rw [n7, rS (by omega), pk_sub (by omega)]
  have e := (h.pl.rc (min nx 16 - 1 - a) (by omega)).1
  rw [show nx - min nx 16 + (min nx 16 - 1 - a) = nx - 1 - a by omega] at e
  unfold LT at hp
  rw [e] at hp; exact hp
set_option maxHeartbeats 800000 in
set_option maxRecDepth 100000 in
theorem t12_late {v1 th : Int32} {tl : Nat} {row : Nat → Int32} {post : Int32 → Int32 → Prop} (e52 : row 52 = nI tl) (htl : tl ≤ 16) (hN : (tl = 0 ∨ ¬ btw v1 0 3) → post (-2147483648) 0) (hY : 0 < tl → ∀ x : Int32, (v1 = 0 → isMin (LT row) tl x) → (v1 = 1 → isMax (LT row) tl x) → (v1 = 2 → x = osm (ltD row) tl) → (v1 = 3 → x = osm (ltM row) tl) → btw v1 0 3 → post x 0) : wp_X12_late v1 th row post := by
  unfold wp_X12_late
  rw [e52]
  refine ⟨fun q => hN (Or.inl ((nI_eq (b := 0) (by omega) (by omega)).mp q)), fun q => t_inI 0 3 (fun q3 => ⟨fun z => absurd z (by decide), fun _ => ?_⟩) (fun q3 => ⟨fun _ => hN (Or.inr q3), fun z => absurd rfl z⟩)⟩
  have ht0 : 0 < tl := by
    rcases Nat.eq_zero_or_pos tl with y | y
    · exact absurd (by rw [y]; rfl) q
    · exact y
  rintro _ rfl _ rfl _ rfl _ rfl _ rfl _ rfl
  refine cinv5 0 tl (fun k last mades ch most least => (0 < k → last = LT row (k - 1)) ∧ mades = osm (ltM row) k ∧ ch = osm (ltD row) k ∧ (0 < k → isMax (LT row) k most) ∧ (0 < k → isMin (LT row) k least)) ⟨fun z => absurd z (by omega), rfl, rfl, fun z => absurd z (by omega), fun z => absurd z (by omega)⟩ ?_ ?_
  · rintro k last mades ch most least - hk ⟨i1, i2, i3, i4, i5⟩ g hg
    have v0 : ∀ m, m < 13385 → vp_in (nI m) 13385 := fun m hm => vp_in_nI hm (by omega)
    rw [lM, lA]
    rintro _ rfl
    rw [rA, rA, nI_clamp (by omega), nI_clamp (by omega), nI_clamp (by omega)]
    refine ⟨v0 _ (by omega), v0 _ (by omega), ?_⟩
    intro x27 hx27
    have hx : x27 = LT row k := hx27
    subst hx
    clear hx27
    have hz : (nI k = 0) ↔ k = 0 := nI_eq (b := 0) (by omega) (by omega)
    rw [hz]
    intro k29 hk29 k50 hk50
    have main : ∀ (mo le : Int32), isMax (LT row) (k + 1) mo → isMin (LT row) (k + 1) le → ∀ k35 : Int32 → Prop, (∀ x34 : Int32, (∀ x37 : Int32, x37 = ch + x34 → vp_in (nI (3257 + 7 * k + 1)) 13385 ∧ ∀ k40 : Int32 → Prop, (∀ (x39 : Int32), (∀ x42 : Int32, x42 = mades + x39 → g (nI k + 1) (LT row k) x42 x37 mo le) → k40 x39) → ((row (3257 + 7 * k + 1)) = 2 → k40 1) ∧ (¬ (row (3257 + 7 * k + 1)) = 2 → k40 0)) → k35 x34) → (k = 0 → k35 0) ∧ (¬ k = 0 → wp_X12_size (LT row k - last) (fun r45 => k35 r45)) := by
      intro mo le hmo hle k35 hk35
      have go : k35 (ltD row k) := by
        refine hk35 _ ?_
        rintro _ rfl
        refine ⟨v0 _ (by omega), fun k40 hk40 => ?_⟩
        have go2 : k40 (ltM row k) := by
          refine hk40 _ ?_
          rintro _ rfl
          rw [rA]
          refine hg _ _ _ _ _ ⟨fun _ => by rw [Nat.add_sub_cancel], by rw [i2, osm], by rw [i3, osm], fun _ => hmo, fun _ => hle⟩
        unfold ltM at go2
        refine ⟨fun y => ?_, fun y => ?_⟩
        · rwa [if_pos y] at go2
        · rwa [if_neg y] at go2
      unfold ltD at go
      refine ⟨fun y => ?_, fun y => t_size ?_⟩
      · rwa [if_pos y] at go
      · rw [if_neg y] at go
        rw [i1 (by omega)]; exact go
    have mid : ∀ le : Int32, isMin (LT row) (k + 1) le → (∀ k32 : Int32 → Prop, (∀ (x31 : Int32), (∀ k35 : Int32 → Prop, (∀ x34 : Int32, (∀ x37 : Int32, x37 = ch + x34 → vp_in (nI (3257 + 7 * k + 1)) 13385 ∧ ∀ k40 : Int32 → Prop, (∀ (x39 : Int32), (∀ x42 : Int32, x42 = mades + x39 → g (nI k + 1) (LT row k) x42 x37 x31 le) → k40 x39) → ((row (3257 + 7 * k + 1)) = 2 → k40 1) ∧ (¬ (row (3257 + 7 * k + 1)) = 2 → k40 0)) → k35 x34) → (k = 0 → k35 0) ∧ (¬ k = 0 → wp_X12_size (LT row k - last) (fun r45 => k35 r45))) → k32 x31) → ∀ k46 : Prop, ((k32 (LT row k)) → k46) → (k = 0 → k46) ∧ (¬ k = 0 → (LT row k ≤ most → k32 most) ∧ (¬ LT row k ≤ most → k46))) := by
      intro le hle k32 hk32 k46 hk46
      refine ⟨fun y => hk46 (hk32 _ (main _ _ ⟨fun i hi => ?_, k, by omega, rfl⟩ hle)), fun y => ⟨fun z => hk32 _ (main _ _ ⟨fun i hi => ?_, ?_⟩ hle), fun z => hk46 (hk32 _ (main _ _ ⟨fun i hi => ?_, k, by omega, rfl⟩ hle))⟩⟩
      · rw [show i = k by omega]; exact Int32.le_refl _
      · by_cases e : i = k
        · rw [e]; exact z
        · exact (i4 (by omega)).1 i (by omega)
      · obtain ⟨i, hi, e⟩ := (i4 (by omega)).2
        exact ⟨i, by omega, e⟩
      · by_cases e : i = k
        · rw [e]; exact Int32.le_refl _
        · have a := (i4 (by omega)).1 i (by omega)
          rw [fa_le] at a z ⊢; omega
    refine ⟨fun y => hk50 (hk29 _ (mid _ ⟨fun i hi => ?_, k, by omega, rfl⟩)), fun y => ⟨fun z => hk29 _ (mid _ ⟨fun i hi => ?_, ?_⟩), fun z => hk50 (hk29 _ (mid _ ⟨fun i hi => ?_, k, by omega, rfl⟩))⟩⟩
    · rw [show i = k by omega]; exact Int32.le_refl _
    · by_cases e : i = k
      · rw [e]; exact z
      · exact (i5 (by omega)).1 i (by omega)
    · obtain ⟨i, hi, e⟩ := (i5 (by omega)).2
      exact ⟨i, by omega, e⟩
    · by_cases e : i = k
      · rw [e]; exact Int32.le_refl _
      · have a := (i5 (by omega)).1 i (by omega)
        rw [fa_le] at a z ⊢; omega
  · rintro last mades ch most least ⟨i1, i2, i3, i4, i5⟩
    refine ⟨fun y => ?_, fun y => ⟨fun y1 => ?_, fun y1 => ⟨fun y2 => ?_, fun y2 => ?_⟩⟩⟩
    · exact hY ht0 _ (fun _ => i5 ht0) (fun z => absurd (y.symm.trans z) (by decide)) (fun z => absurd (y.symm.trans z) (by decide)) (fun z => absurd (y.symm.trans z) (by decide)) q3
    · exact hY ht0 _ (fun z => absurd z y) (fun _ => i4 ht0) (fun z => absurd (y1.symm.trans z) (by decide)) (fun z => absurd (y1.symm.trans z) (by decide)) q3
    · exact hY ht0 _ (fun z => absurd z y) (fun z => absurd z y1) (fun _ => i3) (fun z => absurd (y2.symm.trans z) (by decide)) q3
    · exact hY ht0 _ (fun z => absurd z y) (fun z => absurd z y1) (fun z => absurd z y2) (fun _ => i2) q3
set_option maxHeartbeats 800000 in
set_option maxRecDepth 100000 in
theorem s_late {v1 th : Int32} {t cd nx ln hd bl hb : Nat} {nb rec dly : Nat → Int32} {pnum psent pover ppb : Nat → Int32} {wb : Nat → Nat → Int32} {wsz : Nat → Int32} {cb : Nat → Nat → Int32} {csz : Nat → Int32} {bnum : Nat → Int32} {bcb : Nat → Nat → Int32} {bcsz : Nat → Int32} {A0 B0 A1 B1 split told quants backs scales bits : Nat → Int32} {tw me sz : Int32} {bytes : Nat → Int32} {eA0 eB0 eA1 eB1 e0 e1 recs : Nat → Int32} {row : Nat → Int32} {P : Int32 → Int32 → Int32 → Prop} (h : RW t cd nx ln hd bl hb nb rec dly pnum psent pover ppb wb wsz cb csz bnum bcb bcsz A0 B0 A1 B1 split told quants backs scales bits tw me sz bytes eA0 eB0 eA1 eB1 e0 e1 recs row) (hp : ∀ r, P r r 0) :
    wp_X11_late v1 nb recs (fun r => wp_X12_late v1 th row (fun r' th' => P r r' th')) := by
  obtain ⟨p, _, _, hb2⟩ := h.ph
  have := h.ht
  unfold wp_X11_late
  refine t_told h ⟨fun q => t12_late h.pl.tl (by omega) (fun _ => hp _) (fun y => absurd ((nI_eq (b := 0) (by omega) (by omega)).mp q) (by omega)), fun q => ?_⟩
  have ht0 : 0 < min nx 16 := by
    rcases Nat.eq_zero_or_pos (min nx 16) with y | y
    · exact absurd (by rw [y]; rfl) q
    · exact y
  refine t_lateness (a := 0) h ht0 ?_
  rw [Nat.sub_zero]
  rintro _ rfl _ rfl _ rfl _ rfl _ rfl
  generalize htl : min nx 16 = tl at ht0 q
  have rec_ : ∀ a, a < tl → ∀ Q : Int32 → Prop, Q (row (3257 + 7 * (tl - 1 - a) + 1)) → wp_X6_recordOf (nI a) (nI 1) nb recs Q := fun a ha Q hQ => t_recordOf h (by omega) (by omega) (by omega) (by rw [htl]; exact hQ)
  have lat : ∀ a, a < tl → ∀ Q : Int32 → Prop, Q (LT row (tl - 1 - a)) → wp_X6_lateness (nI a) nb recs Q := fun a ha Q hQ => t_lateness h (by omega) (by rw [htl]; exact hQ)
  refine cinv4 0 tl (fun k made ch most least => made = osm (fun a => ltM row (tl - 1 - a)) k ∧ ch = osm (fun a => if a = 0 then 0 else jabs (LT row (tl - 1 - a) - LT row (tl - 1 - (a - 1)))) k ∧ (∀ a, a < k → LT row (tl - 1 - a) ≤ most) ∧ (∃ a, a < tl ∧ most = LT row (tl - 1 - a)) ∧ (∀ a, a < k → least ≤ LT row (tl - 1 - a)) ∧ (∃ a, a < tl ∧ least = LT row (tl - 1 - a))) ⟨rfl, rfl, fun a ha => absurd ha (Nat.not_lt_zero _), ⟨0, ht0, by rw [Nat.sub_zero]⟩, fun a ha => absurd ha (Nat.not_lt_zero _), ⟨0, ht0, by rw [Nat.sub_zero]⟩⟩ ?_ ?_
  · rintro k made ch most least - hk ⟨i1, i2, i3, ⟨a4, i4, i4'⟩, i5, ⟨a6, i6, i6'⟩⟩ g hg
    refine lat k hk _ ?_
    rintro _ rfl _ rfl
    have hz : (nI k = 0) ↔ k = 0 := nI_eq (b := 0) (by omega) (by omega)
    rw [hz]
    intro k25 hk25
    have go : k25 (if k = 0 then 0 else jabs (LT row (tl - 1 - k) - LT row (tl - 1 - (k - 1)))) := by
      refine hk25 _ ?_
      rintro _ rfl
      refine rec_ k hk _ (fun k30 hk30 => ?_)
      have go2 : k30 (ltM row (tl - 1 - k)) := by
        refine hk30 _ ?_
        rintro _ rfl
        rw [rA]
        refine hg _ _ _ _ ⟨by rw [i1, osm], by rw [i2, osm], fun a ha => ?_, ?_, fun a ha => ?_, ?_⟩
        · unfold jmax
          by_cases e : a = k
          · subst e
            by_cases w : most < LT row (tl - 1 - a)
            · rw [if_pos w]; exact Int32.le_refl _
            · rw [if_neg w]; rw [fa_lt] at w; rw [fa_le]; omega
          · have b := i3 a (by omega)
            by_cases w : most < LT row (tl - 1 - k)
            · rw [if_pos w]; rw [fa_lt] at w; rw [fa_le] at b ⊢; omega
            · rw [if_neg w]; exact b
        · unfold jmax
          by_cases w : most < LT row (tl - 1 - k)
          · rw [if_pos w]; exact ⟨k, hk, rfl⟩
          · rw [if_neg w]; exact ⟨a4, i4, i4'⟩
        · unfold jmin
          by_cases e : a = k
          · subst e
            by_cases w : LT row (tl - 1 - a) < least
            · rw [if_pos w]; exact Int32.le_refl _
            · rw [if_neg w]; rw [fa_lt] at w; rw [fa_le]; omega
          · have b := i5 a (by omega)
            by_cases w : LT row (tl - 1 - k) < least
            · rw [if_pos w]; rw [fa_lt] at w; rw [fa_le] at b ⊢; omega
            · rw [if_neg w]; exact b
        · unfold jmin
          by_cases w : LT row (tl - 1 - k) < least
          · rw [if_pos w]; exact ⟨k, hk, rfl⟩
          · rw [if_neg w]; exact ⟨a6, i6, i6'⟩
      unfold ltM at go2
      refine ⟨fun y => ?_, fun y => ?_⟩
      · rwa [if_pos y] at go2
      · rwa [if_neg y] at go2
    refine ⟨fun y => ?_, fun y => ?_⟩
    · rwa [if_pos y] at go
    · rw [if_neg y] at go
      rw [rS (by omega)]
      refine lat (k - 1) (by omega) _ ?_
      rintro _ rfl
      exact go
  · rintro made ch most least ⟨i1, i2, i3, i4, i5, i6⟩
    have tle : tl ≤ 16 := by omega
    have e52 : row 52 = nI tl := by rw [h.pl.tl, htl]
    have mx : isMax (LT row) tl most := isMax_rev ⟨i3, i4⟩
    have mi : isMin (LT row) tl least := isMin_rev ⟨i5, i6⟩
    have ec : ch = osm (ltD row) tl := by rw [i2]; exact ltD_rev row tl ht0
    have em : made = osm (ltM row) tl := by rw [i1]; exact osm_rev tl (ltM row)
    refine ⟨fun y => ?_, fun y => ?_, fun y => ?_, fun y => ?_, fun y0 y1 y2 y3 => ?_⟩
    · refine t12_late e52 tle (fun z => ?_) (fun _ x x0 _ _ _ _ => by rw [isMin_un mi (x0 y)]; exact hp _)
      rcases z with z | z
      · omega
      · exact absurd (by rw [y]; decide) z
    · refine t12_late e52 tle (fun z => ?_) (fun _ x _ x1 _ _ _ => by rw [isMax_un mx (x1 y)]; exact hp _)
      rcases z with z | z
      · omega
      · exact absurd (by rw [y]; decide) z
    · refine t12_late e52 tle (fun z => ?_) (fun _ x _ _ x2 _ _ => by rw [ec, x2 y]; exact hp _)
      rcases z with z | z
      · omega
      · exact absurd (by rw [y]; decide) z
    · refine t12_late e52 tle (fun z => ?_) (fun _ x _ _ _ x3 _ => by rw [em, x3 y]; exact hp _)
      rcases z with z | z
      · omega
      · exact absurd (by rw [y]; decide) z
    · refine t12_late e52 tle (fun _ => hp _) (fun _ x _ _ _ _ z => ?_)
      exfalso
      obtain ⟨w, _, hw, e⟩ := btw_n (a := 0) (b := 3) z
      have hw4 : w = 0 ∨ w = 1 ∨ w = 2 ∨ w = 3 := by omega
      rcases hw4 with rfl | rfl | rfl | rfl
      · exact y0 e
      · exact y1 e
      · exact y2 e
      · exact y3 e
