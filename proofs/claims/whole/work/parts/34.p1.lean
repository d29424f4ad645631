/-! pure part 1: numbers as naturals; small methods of both sides -/
theorem lA (a b : Nat) : (no_index (OfNat.ofNat a : Int32)) + nI b = nI (OfNat.ofNat a + b) := nI_add a b
theorem rA (a b : Nat) : nI a + (no_index (OfNat.ofNat b : Int32)) = nI (a + OfNat.ofNat b) := nI_add a b
theorem lM (a b : Nat) : (no_index (OfNat.ofNat a : Int32)) * nI b = nI (OfNat.ofNat a * b) := pk_mul a b
theorem rM (a b : Nat) : nI a * (no_index (OfNat.ofNat b : Int32)) = nI (a * OfNat.ofNat b) := pk_mul a b
theorem lL (a b : Nat) : (no_index (OfNat.ofNat a : Int32)) * (no_index (OfNat.ofNat b : Int32)) = nI (OfNat.ofNat a * OfNat.ofNat b) := pk_mul a b
theorem rS {a b : Nat} (h : OfNat.ofNat b ≤ a) : nI a - (no_index (OfNat.ofNat b : Int32)) = nI (a - OfNat.ofNat b) := pk_sub h
theorem lS {a b : Nat} (h : b ≤ OfNat.ofNat a) : (no_index (OfNat.ofNat a : Int32)) - nI b = nI (OfNat.ofNat a - b) := pk_sub h
theorem rD {a b : Nat} (h : a < 2 ^ 31) (h0 : 0 < (OfNat.ofNat b : Nat)) (hb : (OfNat.ofNat b : Nat) < 2 ^ 31) : nI a / (no_index (OfNat.ofNat b : Int32)) = nI (a / OfNat.ofNat b) := pk_div h h0 hb
theorem rR {a b : Nat} (h : a < 2 ^ 31) (h0 : 0 < (OfNat.ofNat b : Nat)) (hb : (OfNat.ofNat b : Nat) < 2 ^ 31) : jrem (nI a) (no_index (OfNat.ofNat b : Int32)) = nI (a % OfNat.ofNat b) := pk_rem h h0 hb
theorem vpT {n N : Nat} (h : n < N) (hN : N < 2 ^ 31) : vp_in (nI n) N = True := eq_true (vp_in_nI h hN)
theorem clZ (n : Nat) (h : (OfNat.ofNat n : Nat) < 2 ^ 31) : (no_index (OfNat.ofNat n : Int32)).toNatClampNeg = OfNat.ofNat n := nI_clamp h
theorem nle {a b : Nat} (ha : a < 2 ^ 31) (hb : (OfNat.ofNat b : Nat) < 2 ^ 31) : nI a ≤ (no_index (OfNat.ofNat b : Int32)) ↔ a ≤ OfNat.ofNat b := nI_leI ha hb
theorem lle {a b : Nat} (ha : (OfNat.ofNat a : Nat) < 2 ^ 31) (hb : b < 2 ^ 31) : (no_index (OfNat.ofNat a : Int32)) ≤ nI b ↔ OfNat.ofNat a ≤ b := nI_leI ha hb
theorem nlt {a b : Nat} (ha : a < 2 ^ 31) (hb : (OfNat.ofNat b : Nat) < 2 ^ 31) : nI a < (no_index (OfNat.ofNat b : Int32)) ↔ a < OfNat.ofNat b := nI_ltI ha hb
theorem llt {a b : Nat} (ha : (OfNat.ofNat a : Nat) < 2 ^ 31) (hb : b < 2 ^ 31) : (no_index (OfNat.ofNat a : Int32)) < nI b ↔ OfNat.ofNat a < b := nI_ltI ha hb
theorem neq {a b : Nat} (ha : a < 2 ^ 31) (hb : (OfNat.ofNat b : Nat) < 2 ^ 31) : nI a = (no_index (OfNat.ofNat b : Int32)) ↔ a = OfNat.ofNat b := nI_eq ha hb
abbrev btw (v lo hi : Int32) : Prop := lo ≤ v ∧ v ≤ hi
theorem btw_n {v : Int32} {a b : Nat} (h : btw v (nI a) (nI b)) (ha : a < 2 ^ 31 := by omega) (hb : b < 2 ^ 31 := by omega) : ∃ n, a ≤ n ∧ n ≤ b ∧ v = nI n := by
  obtain ⟨h1, h2⟩ := h
  have h0 : ¬ v < 0 := by
    rw [fa_lt]; rw [fa_le, nI_toInt ha] at h1
    have h4 : (0 : Int32).toInt = 0 := by decide
    omega
  obtain ⟨n, hn, rfl⟩ := nI_of h0
  exact ⟨n, (nI_leI ha hn).mp h1, (nI_leI hn hb).mp h2, rfl⟩
theorem btw_i {n a b : Nat} (hn : n < 2 ^ 31 := by omega) (ha : a < 2 ^ 31 := by omega) (hb : b < 2 ^ 31 := by omega) : btw (nI n) (nI a) (nI b) ↔ a ≤ n ∧ n ≤ b := by
  unfold btw; rw [nI_leI ha hn, nI_leI hn hb]
theorem t_within {v lo hi : Int32} {post : Int32 → Prop} (h1 : btw v lo hi → post 1) (h0 : ¬ btw v lo hi → post 0) : wp_X11_within v lo hi post := by
  unfold wp_X11_within
  refine ⟨fun h => h0 (fun q => ?_), fun h => ⟨fun h2 => h0 (fun q => ?_), fun h2 => h1 ⟨?_, ?_⟩⟩⟩
  · have h3 := q.1; rw [fa_le] at h3; rw [fa_lt] at h; omega
  · have h3 := q.2; rw [fa_le] at h3; rw [fa_lt] at h2; omega
  · rw [fa_lt] at h; rw [fa_le]; omega
  · rw [fa_lt] at h2; rw [fa_le]; omega
theorem t_inI {v : Int32} (lo hi : Int32) {a b : Int64} {post : Int32 → Prop} (h1 : btw v lo hi → post 1) (h0 : ¬ btw v lo hi → post 0) (ea : a = lo.toInt64 := by decide) (eb : b = hi.toInt64 := by decide) : wp_X12_in v.toInt64 a b post := by
  subst ea; subst eb
  unfold wp_X12_in
  rw [fa_wide_lt, fa_wide_lt]
  exact t_within h1 h0
def near (v lo hi : Int32) : Int32 := if lo ≤ v then (if v ≤ hi then v else hi) else lo
theorem t_near {v lo hi : Int32} {post : Int32 → Prop} (h : post (near v lo hi)) : wp_X11_nearest v lo hi post := by
  unfold wp_X11_nearest
  unfold near at h
  refine ⟨fun a => ⟨fun b => ?_, fun b => ?_⟩, fun a => ?_⟩
  · rwa [if_pos a, if_pos b] at h
  · rwa [if_pos a, if_neg b] at h
  · rwa [if_neg a] at h
theorem t_nearI {v : Int32} (lo hi : Int32) {a b : Int64} {post : Int32 → Prop} (h : post (near v lo hi)) (ea : a = lo.toInt64 := by decide) (eb : b = hi.toInt64 := by decide) : wp_X12_nearest v.toInt64 a b post := by
  subst ea; subst eb
  unfold wp_X12_nearest
  rw [fa_wide_le, fa_wide_le]
  simp only [Int32.toInt32_toInt64]
  exact t_near h
theorem t_nearS {v : Int32} {post : Int32 → Prop} (h : post (near v (-2048) 2047)) : wp_X11_nearestSample v post := t_near h
theorem t_size {v : Int32} {post : Int32 → Prop} (h : post (jabs v)) : wp_X12_size v post := by
  unfold wp_X12_size
  unfold jabs at h
  refine ⟨fun a => ?_, fun a => ?_⟩
  · rwa [if_pos a] at h
  · rw [if_neg a] at h; rwa [show -v = 0 - v by simp]
theorem t_down {a b : Int64} {post : Int64 → Prop} (hb : 0 < b.toInt) (h : ∀ q : Int64, q.toInt = a.toInt / b.toInt → post q) : wp_X12_down a b post := by
  have hra := fb_rngL a
  have hrb := fb_rngL b
  have hb0 : ¬ b = 0 := fun e => by rw [e] at hb; exact absurd hb (by decide)
  have hq1 : (a.toInt.tdiv b.toInt).natAbs ≤ a.toInt.natAbs := by
    rw [Int.natAbs_tdiv]; exact Nat.div_le_self _ _
  have hneg : ¬ (a.toInt = -9223372036854775808 ∧ b.toInt = -1) := by omega
  have e := Int.mul_tdiv_add_tmod a.toInt b.toInt
  have hl1 := Int.tmod_lt_of_pos a.toInt hb
  have hl2 := Int.lt_tmod_of_pos a.toInt hb
  have hbq : (b.toInt * a.toInt.tdiv b.toInt).natAbs ≤ a.toInt.natAbs := by
    rw [Int.natAbs_mul, Int.natAbs_tdiv]; exact Nat.mul_div_le _ _
  have hbq2 : (a.toInt.tdiv b.toInt).natAbs ≤ (b.toInt * a.toInt.tdiv b.toInt).natAbs := by
    rw [Int.natAbs_mul]; exact Nat.le_mul_of_pos_left _ (by omega)
  have hdv : (a / b).toInt = a.toInt.tdiv b.toInt := by
    rw [Int64.toInt_div]
    by_cases hm : a.toInt.tdiv b.toInt = 9223372036854775808
    · exfalso
      rw [hm] at e
      omega
    · exact fb_bmodL (by omega) (by omega)
  have hmul : (a / b * b).toInt = a.toInt.tdiv b.toInt * b.toInt := by
    rw [fb_mulL, hdv] <;> rw [hdv, Int.mul_comm] <;> omega
  have hrem : (lrem a b).toInt = a.toInt.tmod b.toInt := by
    show (a - a / b * b).toInt = _
    rw [fb_subL, hmul, Int.mul_comm] <;> (try rw [hmul, Int.mul_comm]) <;> omega
  have z : (0 : Int64).toInt = 0 := by decide
  unfold wp_X12_down
  refine ⟨hb0, ?_⟩
  rintro _ rfl
  refine ⟨hb0, ?_⟩
  intro r hr
  refine ⟨fun h0 => h _ ?_, fun h0 => h _ ?_⟩
  · rw [hr, fa_le64, hrem, z] at h0
    rw [hdv]
    exact ((Int.ediv_emod_unique (a := a.toInt) (r := a.toInt.tmod b.toInt) (q := a.toInt.tdiv b.toInt) hb).mpr ⟨by omega, h0, hl1⟩).1.symm
  · rw [hr, fa_le64, hrem, z] at h0
    have h1 : (1 : Int64).toInt = 1 := by decide
    rw [fb_subL, hdv, h1]
    · exact ((Int.ediv_emod_unique (a := a.toInt) (r := a.toInt.tmod b.toInt + b.toInt) (q := a.toInt.tdiv b.toInt - 1) hb).mpr ⟨by rw [Int.mul_sub]; omega, by omega, by omega⟩).1.symm
    · rw [hdv, h1]; omega
    · rw [hdv, h1]; omega
theorem cpy_0 (f g : Nat → Int32) (sp dp : Nat) : va_cpy f g sp dp 0 = g := by
  funext j; unfold va_cpy; rw [if_neg (by omega)]
theorem cpy_succ (f g : Nat → Int32) (sp dp n : Nat) : upd (va_cpy f g sp dp n) (dp + n) (f (sp + n)) = va_cpy f g sp dp (n + 1) := by
  funext j
  unfold upd va_cpy
  by_cases h : j = dp + n
  · rw [if_pos h, if_pos (by omega), h, Nat.add_sub_cancel_left]
  · rw [if_neg h]
    by_cases h2 : dp ≤ j ∧ j < dp + n
    · rw [if_pos h2, if_pos (by omega)]
    · rw [if_neg h2, if_neg (by omega)]
theorem t_copy {np0 np2 : Nat} (a b : Nat) {p0 p2 : Nat → Int32} {post : (Nat → Int32) → Prop} (h : post (va_cpy p0 p2 a b 13385)) (h1 : a + 13385 ≤ np0 := by omega) (h2 : b + 13385 ≤ np2 := by omega) (h3 : np0 < 2 ^ 31 := by omega) (h4 : np2 < 2 ^ 31 := by omega) : wp_X12_copy np0 np2 (nI a) (nI b) p0 p2 post := by
  unfold wp_X12_copy
  rintro _ rfl
  refine cinv1 0 13385 (fun k f => f = va_cpy p0 p2 a b k) (cpy_0 _ _ _ _).symm ?_ ?_
  · intro k f _ hk hI g hg
    subst hI
    simp (disch := omega) only [lA, rA, lM, rM, lL, rS, lS, nI_add, pk_mul, pk_sub, rD, rR, nI_clamp, vpT, true_and, forall_eq, clZ, Nat.add_zero, Nat.zero_add, Nat.mul_one, Nat.one_mul, Nat.mul_zero, Nat.zero_mul]
    exact hg _ (cpy_succ _ _ _ _ _)
  · intro f hI; rw [hI]; exact h
/-- a stretch of a row set to one number -/
def flat (f : Nat → Int32) (a b : Nat) (v : Int32) : Nat → Int32 := fun j => if a ≤ j ∧ j < b then v else f j
theorem flat_0 (f : Nat → Int32) (a : Nat) (v : Int32) : flat f a a v = f := by
  funext j; unfold flat; rw [if_neg (by omega)]
theorem flat_succ (f : Nat → Int32) {a n : Nat} (v : Int32) (h : a ≤ n) : upd (flat f a n v) n v = flat f a (n + 1) v := by
  funext j
  unfold upd flat
  by_cases h1 : j = n
  · rw [if_pos h1, if_pos (by omega)]
  · rw [if_neg h1]
    by_cases h2 : a ≤ j ∧ j < n
    · rw [if_pos h2, if_pos (by omega)]
    · rw [if_neg h2, if_neg (by omega)]
theorem flat_in {f : Nat → Int32} {a b j : Nat} {v : Int32} (h : a ≤ j) (h2 : j < b) : flat f a b v j = v := if_pos ⟨h, h2⟩
theorem flat_out {f : Nat → Int32} {a b j : Nat} {v : Int32} (h : j < a ∨ b ≤ j) : flat f a b v j = f j := if_neg (by omega)
theorem t_fill {n : Nat} {v : Int32} {p0 : Nat → Int32} {post : (Nat → Int32) → Prop} (h : post (flat p0 0 n v)) (hn : n < 2 ^ 31 := by omega) : wp_J7_fill_53178 n v p0 post := by
  unfold wp_J7_fill_53178
  rintro _ rfl _ rfl
  refine cinv1 0 n (fun k f => f = flat p0 0 k v) (flat_0 _ _ _).symm ?_ ?_
  · intro k f _ hk hI g hg
    subst hI
    simp (disch := omega) only [lA, rA, lM, rM, lL, rS, lS, nI_add, pk_mul, pk_sub, rD, rR, nI_clamp, vpT, true_and, forall_eq, clZ, Nat.add_zero, Nat.zero_add, Nat.mul_one, Nat.one_mul, Nat.mul_zero, Nat.zero_mul]
    exact hg _ (flat_succ _ _ (Nat.zero_le _))
  · intro f hI; rw [hI]; exact h
def M_begin (row : Nat → Int32) : Nat → Int32 := upd (upd (flat row 25 13385 0) 49 (row 6)) 43 (row 7)
theorem t_begin {row : Nat → Int32} {post : (Nat → Int32) → Prop} (h : post (M_begin row)) : wp_X12_begin row post := by
  unfold wp_X12_begin
  rintro _ rfl
  refine cinv1 25 13385 (fun k f => f = flat row 25 k 0) (flat_0 _ _ _).symm ?_ ?_
  · intro k f hk0 hk hI g hg
    subst hI
    simp (disch := omega) only [lA, rA, lM, rM, lL, rS, lS, nI_add, pk_mul, pk_sub, rD, rR, nI_clamp, vpT, true_and, forall_eq, clZ, Nat.add_zero, Nat.zero_add, Nat.mul_one, Nat.one_mul, Nat.mul_zero, Nat.zero_mul]
    exact hg _ (flat_succ _ _ hk0)
  · intro f hI; subst hI
    rintro _ rfl _ rfl
    rw [pk_un (by omega), flat_out (by omega), flat_out (by omega)]
    exact h
