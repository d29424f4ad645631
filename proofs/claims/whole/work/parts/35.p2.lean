/-! pure part 2: the SOURCE; NODES -/
theorem vpTl {n N : Nat} (h : (OfNat.ofNat n : Nat) < N) (hN : N < 2 ^ 31) : vp_in (no_index (OfNat.ofNat n : Int32)) N = True := eq_true (vp_in_nI h hN)
def smpA (p h : Int32) (n : Nat) : Int32 := if p ≤ 2 * jrem (nI n) p then 3 * h - ((4 * h) * jrem (nI n) p) / p else ((4 * h) * jrem (nI n) p) / p - h
def smpB (m v : Int32) (sd c n : Nat) : Int32 := if m ≤ 0 then v else v + (jrem (nI ((7919 * n + 104729 * c + sd) % 10007)) (2 * m + 1) - m)
def smp (p h m : Int32) (sd c n : Nat) : Int32 := near (smpB m (smpA p h n) sd c n) (-2048) 2047
theorem smp_z {sd c n : Nat} (hc : c < 2) (hn : n < 200000) (hsd : sd < 1000000) : (lrem ((((7919 : Int64) * ((nI n).toInt64)) + ((104729 : Int64) * ((nI c).toInt64))) + ((nI sd).toInt64)) (10007 : Int64)).toInt32 = nI ((7919 * n + 104729 * c + sd) % 10007) := by
  rw [nI_l (by omega), nI_l (by omega), nI_l (by omega), fa_litL 7919, fa_litL 104729, fa_litL 10007, lN_mul, lN_mul, lN_add, lN_add]
  show (lN (7919 * n + 104729 * c + sd) - lN (7919 * n + 104729 * c + sd) / lN 10007 * lN 10007).toInt32 = _
  rw [pk_lRem (by omega) (by omega) (by omega), lN_i]
theorem smp_zI {sd c n : Nat} (hc : c < 2) (hn : n < 200000) (hsd : sd < 1000000) : jrem ((((7919 : Int32) * nI n) + ((104729 : Int32) * nI c)) + nI sd) (10007 : Int32) = nI ((7919 * n + 104729 * c + sd) % 10007) := by
  rw [lM, lM, nI_add, nI_add, rR (by omega) (by omega) (by omega)]
theorem t_sample {c n sd : Nat} {row : Nat → Int32} {post : Int32 → Prop} (hc : c < 2) (hn : n < 200000) (hsd : sd < 1000000) (hp : ¬ row c = 0) (hm : ¬ 2 * row (4 + c) + 1 = 0) (hs : row 6 = nI sd) (h : post (smp (row c) (row (2 + c)) (row (4 + c)) sd c n)) : wp_X12_sample (nI c) (nI n) row post := by
  unfold wp_X12_sample
  simp (disch := omega) only [lA, nI_clamp, vpT, true_and, forall_eq, Nat.zero_add]
  refine ⟨hp, fun k10 hk => ?_⟩
  rw [hs, smp_z hc hn hsd] at hk
  have key : k10 (smpA (row c) (row (2 + c)) n) := by
    refine hk _ (fun k13 hk13 => ?_)
    have key2 : k13 (smpB (row (4 + c)) (smpA (row c) (row (2 + c)) n) sd c n) := hk13 _ (t_nearI (-2048) 2047 h)
    unfold smpB at key2
    refine ⟨fun q => ?_, fun q => ⟨hm, ?_⟩⟩
    · rwa [if_pos q] at key2
    · rwa [if_neg q] at key2
  unfold smpA at key
  refine ⟨fun q => ⟨hp, ?_⟩, fun q => ⟨hp, ?_⟩⟩
  · rwa [if_pos q] at key
  · rwa [if_neg q] at key
theorem t_sampleOf {c n sd np : Nat} {nb : Nat → Int32} {post : Int32 → Prop} (hnp : np = 54) (hc : c < 2) (hn : n < 200000) (hsd : sd < 1000000) (hp : 1 < nb (48 + 3 * c)) (hm : ¬ 2 * nb (48 + 3 * c + 2) + 1 = 0) (hs : nb 20 = nI sd) (h : post (smp (nb (48 + 3 * c)) (nb (48 + 3 * c + 1)) (nb (48 + 3 * c + 2)) sd c n)) : wp_X11_sampleOf np (nI c) (nI n) nb post := by
  subst hnp
  unfold wp_X11_sampleOf
  have e0 : jmax 1 (nb (48 + 3 * c)) = nb (48 + 3 * c) := if_pos hp
  have hp0 : ¬ nb (48 + 3 * c) = 0 := fun e => by rw [e] at hp; exact absurd hp (by decide)
  simp (disch := omega) only [lA, lM, rA, nI_clamp, vpT, vpTl, clZ, true_and, forall_eq, e0]
  refine ⟨hp0, hp0, fun k13 hk => ?_⟩
  have e1 : (nI (7919 * n + 104729 * c) + nb 20) = nI (7919 * n + 104729 * c + sd) := by rw [hs, nI_add]
  simp (disch := omega) only [nI_add, e1, rR] at hk
  have key : k13 (smpA (nb (48 + 3 * c)) (nb (48 + 3 * c + 1)) n) := by
    refine hk _ (fun k16 hk16 => ?_)
    have key2 : k16 (smpB (nb (48 + 3 * c + 2)) (smpA (nb (48 + 3 * c)) (nb (48 + 3 * c + 1)) n) sd c n) := hk16 _ (t_nearS h)
    unfold smpB at key2
    refine ⟨fun q => ?_, fun q => ⟨hm, ?_⟩⟩
    · rwa [if_pos q] at key2
    · rwa [if_neg q] at key2
  unfold smpA at key
  refine ⟨fun q => ?_, fun q => ?_⟩
  · rwa [if_pos q] at key
  · rwa [if_neg q] at key
/-! a node over n pairs -/
def pA (A : Int32) (x : Nat → Int32) (k : Nat) : Int32 := if k = 0 then A else x (2 * k - 1)
def pD (A : Int32) (x : Nat → Int32) (k : Nat) : Int32 := x (2 * k) - ((pA A x k + x (2 * k + 1)) >>> ((1 : Int32) &&& 31))
def pB (A B : Int32) (x : Nat → Int32) (k : Nat) : Int32 := if k = 0 then B else pD A x (k - 1)
def pS (A B : Int32) (x : Nat → Int32) (k : Nat) : Int32 := x (2 * k + 1) + ((pB A B x k + pD A x k) >>> ((2 : Int32) &&& 31))
theorem pA_s (A : Int32) (x : Nat → Int32) (k : Nat) : pA A x (k + 1) = x (2 * k + 1) := by
  unfold pA; rw [if_neg (by omega), show 2 * (k + 1) - 1 = 2 * k + 1 by omega]
theorem pB_s (A B : Int32) (x : Nat → Int32) (k : Nat) : pB A B x (k + 1) = pD A x k := by
  unfold pB; rw [if_neg (by omega), Nat.add_sub_cancel]
theorem upd_id (f : Nat → Int32) (k : Nat) : upd f k (f k) = f := by
  funext j; unfold upd; by_cases h : j = k
  · rw [if_pos h, h]
  · rw [if_neg h]
theorem pA_c {A : Int32} {x y : Nat → Int32} {k n : Nat} (h : ∀ j, j < 2 * n → x j = y j) (hk : k ≤ n) : pA A x k = pA A y k := by
  unfold pA; by_cases h0 : k = 0
  · rw [if_pos h0, if_pos h0]
  · rw [if_neg h0, if_neg h0, h _ (by omega)]
theorem pD_c {A : Int32} {x y : Nat → Int32} {k n : Nat} (h : ∀ j, j < 2 * n → x j = y j) (hk : k < n) : pD A x k = pD A y k := by
  unfold pD; rw [pA_c h (by omega), h _ (by omega), h _ (by omega)]
theorem pB_c {A B : Int32} {x y : Nat → Int32} {k n : Nat} (h : ∀ j, j < 2 * n → x j = y j) (hk : k ≤ n) : pB A B x k = pB A B y k := by
  unfold pB; by_cases h0 : k = 0
  · rw [if_pos h0, if_pos h0]
  · rw [if_neg h0, if_neg h0, pD_c h (by omega)]
theorem pS_c {A B : Int32} {x y : Nat → Int32} {k n : Nat} (h : ∀ j, j < 2 * n → x j = y j) (hk : k < n) : pS A B x k = pS A B y k := by
  unfold pS; rw [pB_c h (by omega), pD_c h hk, h _ (by omega)]
theorem t9_splitRow {nd st n : Nat} {row A B next : Nat → Int32} {post : (Nat → Int32) → (Nat → Int32) → (Nat → Int32) → Prop} (hnd : nd < 7) (hst : st + 2 * n ≤ 8)
    (h : ∀ next' : Nat → Int32, (∀ i, i < n → next' (st + i) = pS (A nd) (B nd) (fun t => row (st + t)) i ∧ next' (st + n + i) = pD (A nd) (fun t => row (st + t)) i) → (∀ j, (j < st ∨ st + 2 * n ≤ j) → next' j = next j) → post (upd A nd (pA (A nd) (fun t => row (st + t)) n)) (upd B nd (pB (A nd) (B nd) (fun t => row (st + t)) n)) next') :
    wp_X9_splitRow (nI nd) (nI st) (nI n) row A B next post := by
  unfold wp_X9_splitRow
  rintro _ rfl
  refine cinv3 0 n (fun k a b f => a = upd A nd (pA (A nd) (fun t => row (st + t)) k) ∧ b = upd B nd (pB (A nd) (B nd) (fun t => row (st + t)) k) ∧ (∀ i, i < k → f (st + i) = pS (A nd) (B nd) (fun t => row (st + t)) i ∧ f (st + n + i) = pD (A nd) (fun t => row (st + t)) i) ∧ (∀ j, (j < st ∨ st + 2 * n ≤ j) → f j = next j)) ⟨(upd_id _ _).symm, (upd_id _ _).symm, fun i hi => absurd hi (Nat.not_lt_zero _), fun j _ => rfl⟩ ?_ ?_
  · rintro k a b f - hk ⟨rfl, rfl, hf, hj⟩ g hg
    simp (disch := omega) only [lA, lM, rA, nI_add, nI_clamp, vpT, true_and, forall_eq, pk_us, fa_upd_twice]
    refine hg _ _ _ ⟨?_, ?_, ?_, ?_⟩
    · rw [pA_s, Nat.add_assoc]
    · rw [pB_s, Nat.add_assoc]; rfl
    · intro i hi
      by_cases hik : i = k
      · subst hik
        refine ⟨?_, ?_⟩
        · rw [pk_un (by omega), pk_us, Nat.add_assoc]; rfl
        · rw [pk_us, Nat.add_assoc st (2 * i)]; rfl
      · rw [pk_un (by omega), pk_un (by omega), pk_un (by omega), pk_un (by omega)]
        exact hf i (by omega)
    · intro j hj2
      rw [pk_un (by omega), pk_un (by omega)]
      exact hj j hj2
  · rintro a b f ⟨rfl, rfl, hf, hj⟩
    exact h f hf hj
