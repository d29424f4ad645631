/-! pure part 10: QUANTS -/
def qN (v : Int32) (s b : Nat) : Nat := if b = 0 then 0 else min (2 ^ b - 2) (((v.toInt + ((2 ^ s : Nat) : Int)) * ((2 ^ b - 1 : Nat) : Int) / ((2 ^ (s + 1) : Nat) : Int)).toNat)
def bk (q s b : Nat) : Int32 := if b = 0 then 0 else nI ((2 * q + 1) * 2 ^ s / (2 ^ b - 1)) - nI (2 ^ s)
theorem p2s {s : Nat} (h : s ≤ 15) : 1 ≤ 2 ^ s ∧ 2 ^ s ≤ 32768 := ⟨Nat.one_le_two_pow, by have := Nat.pow_le_pow_right (n := 2) (by decide) h; exact this⟩
theorem p2b {b : Nat} (h0 : 0 < b) (h : b ≤ 16) : 2 ≤ 2 ^ b ∧ 2 ^ b ≤ 65536 := ⟨by have := Nat.pow_le_pow_right (n := 2) (by decide) h0; exact this, by have := Nat.pow_le_pow_right (n := 2) (by decide) h; exact this⟩
theorem qN_lt {v : Int32} {s b : Nat} (hb : b ≤ 16) : qN v s b < 65536 := by
  unfold qN
  by_cases h0 : b = 0
  · rw [if_pos h0]; omega
  · rw [if_neg h0]
    have := p2b (by omega) hb
    have := Nat.min_le_left (2 ^ b - 2) (((v.toInt + ((2 ^ s : Nat) : Int)) * ((2 ^ b - 1 : Nat) : Int) / ((2 ^ (s + 1) : Nat) : Int)).toNat)
    omega
theorem qN_w {v : Int32} {s b : Nat} : qN v s b < 2 ^ b := by
  unfold qN
  by_cases h0 : b = 0
  · rw [if_pos h0]; exact Nat.two_pow_pos _
  · rw [if_neg h0]
    have h1 : 2 ≤ 2 ^ b := by have := Nat.pow_le_pow_right (n := 2) (by decide) (show 1 ≤ b by omega); exact this
    have := Nat.min_le_left (2 ^ b - 2) (((v.toInt + ((2 ^ s : Nat) : Int)) * ((2 ^ b - 1 : Nat) : Int) / ((2 ^ (s + 1) : Nat) : Int)).toNat)
    omega
theorem shl1 {b : Nat} (hb : b < 64) : (1 : Int64) <<< ((nI b).toInt64 &&& 63) = lN (2 ^ b) := by
  have := wb_shl 1 hb
  rw [Nat.one_mul] at this
  exact this
theorem levB {b : Nat} (hb : b < 64) : (1 : Int64) <<< ((nI b).toInt64 &&& 63) - (1 : Int64) = lN (2 ^ b - 1) := by
  rw [shl1 hb]; exact lN_sub (b := 1) Nat.one_le_two_pow
theorem l2i {X : Int64} {q : Nat} (h : X.toInt = (q : Int)) (hq : q < 2 ^ 31) : X.toInt32 = nI q := by
  apply Int32.toInt_inj.mp
  rw [Int64.toInt_toInt32, h, nI_toInt hq]
  exact fb_bmod (by omega) (by omega)
theorem shrL (a D : Int64) (k : Nat) (hD : (D.toBitVec.smod 64).toNat = k) : (a >>> D).toInt = a.toInt / ((2 ^ k : Nat) : Int) := by
  have e : (a >>> D).toInt = a.toInt >>> k := by
    rw [← hD]
    exact BitVec.toInt_sshiftRight ..
  rw [e, Int.shiftRight_eq_div_pow]
theorem shS : ∀ k, k < 64 → (((nI k).toInt64 &&& 63).toBitVec.smod 64).toNat = k := by decide +kernel
/-- what is multiplied fits a long -/
theorem qfit {v : Int32} {s b : Nat} (hs : s ≤ 15) (h0 : 0 < b) (hb : b ≤ 16) : ((v.toInt64 + lN (2 ^ s)) * lN (2 ^ b - 1)).toInt = (v.toInt + ((2 ^ s : Nat) : Int)) * ((2 ^ b - 1 : Nat) : Int) := by
  have h1 := p2s hs
  have h2 := p2b h0 hb
  have hv := fb_rng v
  have e1 : (v.toInt64 + lN (2 ^ s)).toInt = v.toInt + ((2 ^ s : Nat) : Int) := by
    rw [fb_addL, Int32.toInt_toInt64, pk_lT (by omega)] <;> rw [Int32.toInt_toInt64, pk_lT (by omega)] <;> omega
  have hn : ((v.toInt + ((2 ^ s : Nat) : Int)) * ((2 ^ b - 1 : Nat) : Int)).natAbs ≤ 4294967296 * 65536 := by
    rw [Int.natAbs_mul]; exact Nat.mul_le_mul (by omega) (by omega)
  rw [fb_mulL, e1, pk_lT (by omega)] <;> rw [e1, pk_lT (by omega)] <;> omega
theorem t4_quant {v : Int32} {s b : Nat} {post : Int32 → Prop} (hs : s ≤ 15) (hb : b ≤ 16) (h : post (nI (qN v s b))) : wp_X4_quantOf v (nI s) (nI b) post := by
  unfold wp_X4_quantOf
  by_cases h0 : b = 0
  · subst h0
    refine ⟨fun q => absurd q (by decide), fun _ => ?_⟩
    unfold qN at h; rw [if_pos rfl] at h; exact h
  · refine ⟨fun _ => ?_, fun q => absurd ((nI_ltI (a := 0) (by omega) (by omega)).mpr (by omega)) q⟩
    have h2 := p2b (by omega) hb
    rw [levB (by omega), shl1 (by omega), rA]
    rintro _ rfl _ rfl _ rfl _ rfl
    have e3 := shrL ((v.toInt64 + lN (2 ^ s)) * lN (2 ^ b - 1)) ((nI (s + 1)).toInt64 &&& 63) (s + 1) (shS _ (by omega))
    rw [qfit hs (by omega) hb] at e3
    generalize ((v.toInt64 + lN (2 ^ s)) * lN (2 ^ b - 1)) >>> ((nI (s + 1)).toInt64 &&& 63) = X at e3 ⊢
    have e1 : lN (2 ^ b - 1) - (1 : Int64) = lN (2 ^ b - 2) := by
      have := lN_sub (a := 2 ^ b - 1) (b := 1) (by omega)
      rw [show 2 ^ b - 1 - 1 = 2 ^ b - 2 by omega] at this
      exact this
    rw [e1]
    have z : (0 : Int64).toInt = 0 := by decide
    have hM : (lN (2 ^ b - 2)).toInt = ((2 ^ b - 2 : Nat) : Int) := pk_lT (by omega)
    have key : (lmax (0 : Int64) (lmin (lN (2 ^ b - 2)) X)).toInt = (qN v s b : Int) := by
      unfold qN
      rw [if_neg h0, ← e3]
      unfold lmax lmin
      by_cases c1 : X < lN (2 ^ b - 2)
      · rw [if_pos c1]
        rw [fa_lt64, hM] at c1
        by_cases c2 : X < 0
        · rw [if_pos c2, z]; rw [fa_lt64, z] at c2; omega
        · rw [if_neg c2]; rw [fa_lt64, z] at c2; omega
      · rw [if_neg c1]
        rw [fa_lt64, hM] at c1
        by_cases c2 : lN (2 ^ b - 2) < 0
        · rw [fa_lt64, z, hM] at c2; omega
        · rw [if_neg c2, hM]; omega
    rw [l2i key (by have := qN_lt (v := v) (s := s) hb; omega)]
    exact h
theorem t12_quant {v : Int32} {s b : Nat} {post : Int32 → Prop} (hs : s ≤ 15) (h0 : 0 < b) (hb : b ≤ 16) (h : post (nI (qN v s b))) : wp_X12_quant v (nI s) (nI b) post := by
  unfold wp_X12_quant
  have h2 := p2b h0 hb
  have h1 := p2s (s := s) hs
  have h3 : 2 ^ (s + 1) = 2 * 2 ^ s := by rw [Nat.pow_succ]; omega
  rw [levB (by omega), shl1 (by omega), rA, shl1 (by omega)]
  rintro _ rfl
  refine t_down (by rw [pk_lT (by omega)]; omega) (fun X e3 => ?_)
  rw [qfit hs h0 hb, pk_lT (by omega)] at e3
  have e1 : lN (2 ^ b - 1) - (1 : Int64) = lN (2 ^ b - 2) := by
    have := lN_sub (a := 2 ^ b - 1) (b := 1) (by omega)
    rw [show 2 ^ b - 1 - 1 = 2 ^ b - 2 by omega] at this
    exact this
  rw [e1]
  have z : (0 : Int64).toInt = 0 := by decide
  have hM : (lN (2 ^ b - 2)).toInt = ((2 ^ b - 2 : Nat) : Int) := pk_lT (by omega)
  have hq : qN v s b = min (2 ^ b - 2) X.toInt.toNat := by unfold qN; rw [if_neg (by omega), e3]
  unfold wp_X12_nearest
  refine ⟨fun c1 => ⟨fun c2 => ?_, fun c2 => ?_⟩, fun c1 => ?_⟩
  · rw [fa_le64, z] at c1; rw [fa_le64, hM] at c2
    rw [l2i (q := X.toInt.toNat) (by omega) (by omega)]
    rw [hq, Nat.min_eq_right (by omega)] at h; exact h
  · rw [fa_le64, z] at c1; rw [fa_le64, hM] at c2
    rw [lN_i]
    rw [hq, Nat.min_eq_left (by omega)] at h; exact h
  · rw [fa_le64, z] at c1
    rw [hq, show X.toInt.toNat = 0 by omega, Nat.min_eq_right (by omega)] at h; exact h
theorem bkfit {q s : Nat} (hs : s ≤ 15) (hq : q < 65536) : (2 * q + 1) * 2 ^ s < 131072 * 32769 := by
  have h1 := p2s hs
  exact Nat.mul_lt_mul_of_lt_of_le (by omega) (by omega) (by omega)
theorem t4_back {q s b : Nat} {post : Int32 → Prop} (hs : s ≤ 15) (hb : b ≤ 16) (hq : q < 65536) (h : post (bk q s b)) : wp_X4_backOf (nI q) (nI s) (nI b) post := by
  unfold wp_X4_backOf
  unfold bk at h
  by_cases h0 : b = 0
  · subst h0
    refine ⟨fun r => absurd r (by decide), fun _ => ?_⟩
    rw [if_pos rfl] at h; exact h
  · refine ⟨fun _ => ?_, fun r => absurd ((nI_ltI (a := 0) (by omega) (by omega)).mpr (by omega)) r⟩
    have h2 := p2b (by omega) hb
    have h3 := bkfit hs hq
    rw [if_neg h0] at h
    rw [levB (by omega), shl1 (by omega), nI_l (by omega)]
    have e : ((2 : Int64) * lN q + (1 : Int64)) <<< ((nI s).toInt64 &&& 63) = lN ((2 * q + 1) * 2 ^ s) := by
      rw [show (2 : Int64) * lN q = lN (2 * q) from lN_mul 2 q, lN_1, wb_shl _ (by omega)]
    rw [e]
    rintro _ rfl
    refine ⟨fun r => ?_, ?_⟩
    · have := (pk_lEQ (a := 2 ^ b - 1) (b := 0) (by omega) (by omega)).mp r
      omega
    · rintro _ rfl
      rw [pk_lDiv (by omega) (by omega) (by omega), Int64.toInt32_sub, lN_i, lN_i]
      exact h
theorem t12_unquant {q s b : Nat} {post : Int32 → Prop} (hs : s ≤ 15) (hb : b ≤ 16) (hq : q < 65536) (h : post (bk q s b)) : wp_X12_unquant (nI q) (nI s) (nI b) post := by
  unfold wp_X12_unquant
  unfold bk at h
  by_cases h0 : b = 0
  · subst h0
    refine ⟨fun _ => ?_, fun r => absurd rfl r⟩
    rw [if_pos rfl] at h; exact h
  · refine ⟨fun r => absurd ((nI_eq (b := 0) (by omega) (by omega)).mp r) h0, fun _ => ?_⟩
    have h2 := p2b (by omega) hb
    have h1 := p2s (s := s) hs
    have h3 := bkfit hs hq
    rw [if_neg h0] at h
    rw [levB (by omega), shl1 (by omega), nI_l (by omega)]
    have e : ((2 : Int64) * lN q + (1 : Int64)) * lN (2 ^ s) = lN ((2 * q + 1) * 2 ^ s) := by
      rw [show (2 : Int64) * lN q = lN (2 * q) from lN_mul 2 q, lN_1, lN_mul]
    rw [e]
    rintro _ rfl
    refine t_down (by rw [pk_lT (by omega)]; omega) (fun X e3 => ?_)
    have h4 : (2 * q + 1) * 2 ^ s / (2 ^ b - 1) ≤ (2 * q + 1) * 2 ^ s := Nat.div_le_self _ _
    have e4 : X = lN ((2 * q + 1) * 2 ^ s / (2 ^ b - 1)) := by
      apply Int64.toInt_inj.mp
      rw [e3, pk_lT (by omega), pk_lT (by omega), pk_lT (by omega)]; rfl
    rw [e4, Int64.toInt32_sub, lN_i, lN_i]
    exact h
set_option maxHeartbeats 4000000 in
set_option maxRecDepth 100000 in
theorem t4_quantise {T : Nat → Nat → Int32} {sc bt : Nat → Nat} {told scales bits quants backs : Nat → Int32} {post : (Nat → Int32) → (Nat → Int32) → Prop} (hT : ∀ c, c < 16 → ∀ k, k < 4 → told (16 * k + c) = T c k) (hs : ∀ c, c < 16 → scales c = nI (sc c)) (hs15 : ∀ c, c < 16 → sc c ≤ 15) (hb : ∀ c, c < 16 → bits c = nI (bt c)) (hb16 : ∀ c, c < 16 → bt c ≤ 16)
    (h : ∀ quants' backs' : Nat → Int32, (∀ c, c < 16 → ∀ k, k < 4 → quants' (16 * k + c) = nI (qN (T c k) (sc c) (bt c)) ∧ backs' (16 * k + c) = bk (qN (T c k) (sc c) (bt c)) (sc c) (bt c)) → post quants' backs') : wp_X4_quantise told scales bits quants backs post := by
  unfold wp_X4_quantise
  rintro _ rfl
  refine cinv2 0 64 (fun n f b => ∀ i, i < n → f i = nI (qN (T (i % 16) (i / 16)) (sc (i % 16)) (bt (i % 16))) ∧ b i = bk (qN (T (i % 16) (i / 16)) (sc (i % 16)) (bt (i % 16))) (sc (i % 16)) (bt (i % 16))) (fun i hi => absurd hi (Nat.not_lt_zero _)) ?_ ?_
  · intro n f b _ hn hI g hg
    have e1 := hT (n % 16) (by omega) (n / 16) (by omega)
    rw [show 16 * (n / 16) + n % 16 = n by omega] at e1
    have hlt : n % 16 < 16 := by omega
    have hqq := qN_lt (v := T (n % 16) (n / 16)) (s := sc (n % 16)) (hb16 (n % 16) hlt)
    simp (disch := omega) only [rR, nI_clamp, vpT, true_and, forall_eq, hs (n % 16) hlt, hb (n % 16) hlt, e1]
    refine t4_quant (hs15 _ hlt) (hb16 _ hlt) ?_
    rw [pk_us]
    refine t4_back (hs15 _ hlt) (hb16 _ hlt) hqq ?_
    rw [nI_1]
    refine hg _ _ (fun i hi => ?_)
    by_cases hin : i = n
    · subst hin; rw [pk_us, pk_us]; exact ⟨rfl, rfl⟩
    · rw [pk_un hin, pk_un hin]; exact hI i (by omega)
  · intro f b hI
    refine h f b (fun c hc k hk => ?_)
    have e := hI (16 * k + c) (by omega)
    rw [show (16 * k + c) % 16 = c by omega, show (16 * k + c) / 16 = k by omega] at e
    exact e
