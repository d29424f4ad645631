/-! pure part 31: a CODE is heard -/
theorem get8 : ∀ n, n < 256 → ∀ r, r < 8 → ((nI n >>> (nI (7 - r) &&& 31)) &&& 1) = nI (n / 2 ^ (7 - r) % 2) := by decide +kernel
theorem getN_8 {f : Nat → Int32} {n j e : Nat} (hn : n < 256) (ef : f j = nI n) (he : 8 * j + 8 ≤ e) : getN f e (8 * j) 8 = n := by
  have hb : ∀ r, r < 8 → bitN f (8 * j + r) e = n / 2 ^ (7 - r) % 2 := by
    intro r hr
    have h1 := (bitN_1 f (8 * j + r) e)
    have h2 : bitAt f (8 * j + r) e = nI (n / 2 ^ (7 - r) % 2) := by
      unfold bitAt
      rw [if_neg (by omega), show (8 * j + r) / 8 = j by omega, show (8 * j + r) % 8 = r by omega, ef]
      exact get8 n hn r hr
    have h3 : n / 2 ^ (7 - r) % 2 < 2 := Nat.mod_lt _ (by omega)
    exact (nI_eq (by omega) (by omega)).mp (h1.1.symm.trans h2)
  have key : ∀ r, r ≤ 8 → getN f e (8 * j) r = n / 2 ^ (8 - r) := by
    intro r
    induction r with
    | zero => intro _; rw [getN]; exact (Nat.div_eq_of_lt hn).symm
    | succ r ih =>
      intro hr
      rw [getN, ih (by omega), hb r (by omega), show 8 - r = (7 - r) + 1 by omega, show 8 - (r + 1) = 7 - r by omega, Nat.pow_succ, ← Nat.div_div_eq_div_mul]
      omega
  have k8 := key 8 (Nat.le_refl 8)
  rw [k8]; exact Nat.div_one n
abbrev hS (by_ : Nat → Int32) (z i : Nat) : Nat := getN by_ (8 * z) (40 + 4 * i) 4
abbrev hN (by_ : Nat → Int32) (z : Nat) (lo : Nat → Int32) : Nat → Int32 := fun i => ndF (nI (hS by_ z i)) (by_ 1 >>> ((7 : Int32) &&& 31)) (lo (i % 8))
abbrev hB (by_ : Nat → Int32) (z : Nat) (lo : Nat → Int32) : Nat → Nat := bitsN (hN by_ z lo) (tN (by_ 2))
abbrev hQ (by_ : Nat → Int32) (z : Nat) (lo : Nat → Int32) (i : Nat) : Nat := getN by_ (8 * z) (posQ (hB by_ z lo) i) (hB by_ z lo (i % 16))
def bkH (by_ : Nat → Int32) (z : Nat) (lo : Nat → Int32) (c b : Nat) : Int32 := bk (hQ by_ z lo (16 * b + c)) (hS by_ z c) (hB by_ z lo c)
theorem hS_lt (by_ : Nat → Int32) (z i : Nat) : hS by_ z i ≤ 15 := by have := getN_lt by_ (8 * z) (40 + 4 * i) 4; unfold hS; omega
theorem hQ_lt (by_ : Nat → Int32) (z : Nat) (lo : Nat → Int32) (i : Nat) : hQ by_ z lo i < 65536 := by
  have h1 := getN_lt by_ (8 * z) (posQ (hB by_ z lo) i) (hB by_ z lo (i % 16))
  have h2 : 2 ^ (hB by_ z lo (i % 16)) ≤ 2 ^ 16 := Nat.pow_le_pow_right (by decide) (bitsN_le _ _ _)
  unfold hQ; omega
theorem posQ_b {bt : Nat → Nat} (h : fb_sm bt 16 ≤ 255) {i : Nat} (hi : i ≤ 64) : posQ bt i ≤ 1124 := by
  have h1 := posQ_m bt hi
  have h2 := posQ_64 bt
  omega
set_option maxHeartbeats 4000000 in
set_option maxRecDepth 100000 in
theorem t4_read {z : Nat} {tw me po at_ : Int32} {by_ scales nb needs bits quants backs : Nat → Int32} {post : Int32 → Int32 → Int32 → Int32 → (Nat → Int32) → (Nat → Int32) → (Nat → Int32) → (Nat → Int32) → (Nat → Int32) → Prop} (hz1 : 13 ≤ z) (hz2 : z ≤ 77) (hby : isBy by_ 80)
    (h : ∀ (me' po' at' : Int32) (scales' needs' bits' quants' backs' : Nat → Int32), (∀ c, c < 16 → ∀ b, b < 4 → backs' (16 * b + c) = bkH by_ z (fun j => nb (40 + j)) c b) → post (by_ 4) me' po' at' scales' needs' bits' quants' backs') : wp_X4_read 54 tw me po (nI z) at_ by_ scales nb needs bits quants backs post := by
  obtain ⟨n0, hn0, e0⟩ := hby 0 (by omega)
  obtain ⟨n1, hn1, e1⟩ := hby 1 (by omega)
  obtain ⟨n2, hn2, e2⟩ := hby 2 (by omega)
  obtain ⟨n3, hn3, e3⟩ := hby 3 (by omega)
  obtain ⟨n4, hn4, e4⟩ := hby 4 (by omega)
  have t2 : tN (by_ 2) = n2 := by rw [e2]; exact nI_clamp (by omega)
  unfold wp_X4_read wp_X1_rewind
  refine t1_take (w := 8) (a := 0) (by omega) (by omega) (by omega) ?_
  refine t1_take (w := 8) (a := 8 * 1) (by omega) (by omega) (by omega) ?_
  rw [getN_8 hn1 e1 (by omega), ← e1]
  rintro _ rfl
  refine t1_take (w := 8) (a := 8 * 2) (by omega) (by omega) (by omega) ?_
  rw [getN_8 hn2 e2 (by omega)]
  refine t1_take (w := 8) (a := 8 * 3) (by omega) (by omega) (by omega) ?_
  refine t1_take (w := 8) (a := 8 * 4) (by omega) (by omega) (by omega) ?_
  rw [getN_8 hn4 e4 (by omega), ← e4]
  rintro _ rfl
  refine cinv2 0 16 (fun i a f => a = nI (40 + 4 * i) ∧ ∀ c, c < i → f c = nI (hS by_ z c)) ⟨rfl, fun c hc => absurd hc (Nat.not_lt_zero _)⟩ ?_ ?_
  · rintro i a f - hi ⟨rfl, hf⟩ g hg
    refine t1_take (w := 4) (by omega) (by omega) (by omega) ?_
    simp (disch := omega) only [nI_clamp, vpT, true_and, forall_eq]
    rw [nI_1]
    refine hg _ _ ⟨by rw [show 40 + 4 * i + 4 = 40 + 4 * (i + 1) by omega], fun c hc => ?_⟩
    by_cases q : c = i
    · subst q; rw [pk_us]
    · rw [pk_un q]; exact hf c (by omega)
  · rintro a f ⟨rfl, hf⟩
    refine t4_deal (nd := hN by_ z (fun j => nb (40 + j))) rfl (by omega) (fun i hi => by rw [hf i hi]) (fun needs' bits' hb => ?_)
    have ebt : bitsN (hN by_ z (fun j => nb (40 + j))) n2 = hB by_ z (fun j => nb (40 + j)) := by unfold hB; rw [t2]
    rw [ebt] at hb
    have hsum : fb_sm (hB by_ z (fun j => nb (40 + j))) 16 ≤ 255 := by
      have := bitsN_sum (hN by_ z (fun j => nb (40 + j))) (tN (by_ 2))
      unfold hB; omega
    have hb16 : ∀ i, hB by_ z (fun j => nb (40 + j)) i ≤ 16 := fun i => bitsN_le _ _ _
    have hQd : ∀ i, hQ by_ z (fun j => nb (40 + j)) i = getN by_ (8 * z) (posQ (hB by_ z (fun j => nb (40 + j))) i) (hB by_ z (fun j => nb (40 + j)) (i % 16)) := fun i => rfl
    have hQl : ∀ i, hQ by_ z (fun j => nb (40 + j)) i < 65536 := fun i => hQ_lt _ _ _ _
    have hbk : ∀ c b, bkH by_ z (fun j => nb (40 + j)) c b = bk (hQ by_ z (fun j => nb (40 + j)) (16 * b + c)) (hS by_ z c) (hB by_ z (fun j => nb (40 + j)) c) := fun c b => rfl
    rintro _ rfl
    generalize hB by_ z (fun j => nb (40 + j)) = bt at hb hsum hb16 hQd hbk ⊢
    generalize hQ by_ z (fun j => nb (40 + j)) = Q at hQd hQl hbk
    refine cinv3 0 64 (fun i a f1 f2 => a = nI (posQ bt i) ∧ ∀ j, j < i → f2 j = bk (Q j) (hS by_ z (j % 16)) (bt (j % 16))) ⟨rfl, fun j hj => absurd hj (Nat.not_lt_zero _)⟩ ?_ ?_
    · rintro i a f1 f2 - hi ⟨rfl, hI⟩ g hg
      have hlt : i % 16 < 16 := by omega
      have hbi := hb (i % 16) hlt
      have hsi := hf (i % 16) hlt
      have hp := posQ_b hsum (show i ≤ 64 by omega)
      have hb16i := hb16 (i % 16)
      simp (disch := omega) only [rR, nI_clamp, vpT, true_and, forall_eq, hbi, hsi]
      refine t1_take hb16i (by omega) (by omega) ?_
      rw [pk_us, ← hQd i]
      refine t4_back (hS_lt _ _ _) hb16i (hQl i) ?_
      rw [nI_1]
      refine hg _ _ _ ⟨by rw [posQ_s], fun j hj => ?_⟩
      by_cases q : j = i
      · subst q; rw [pk_us]
      · rw [pk_un q]; exact hI j (by omega)
    · rintro a f1 f2 ⟨rfl, hI⟩
      refine h _ _ _ _ _ _ _ _ (fun c hc b hb2 => ?_)
      rw [hI _ (by omega), hbk, show (16 * b + c) % 16 = c by omega]
def rjF (tw : Int32) (V : Nat → Nat → Int32) (c b : Nat) : Int32 := if ((tw >>> (nI (c % 8) &&& 31)) &&& 1) = 1 then (if c < 8 then V c b + ((V (8 + c) b + 1) >>> ((1 : Int32) &&& 31)) else V (c - 8) b + ((V c b + 1) >>> ((1 : Int32) &&& 31)) - V c b) else V c b
set_option maxHeartbeats 4000000 in
set_option maxRecDepth 100000 in
theorem t4_undo {tw : Int32} {V : Nat → Nat → Int32} {backs rj : Nat → Int32} {post : (Nat → Int32) → Prop} (hV : ∀ c, c < 16 → ∀ b, b < 4 → backs (16 * b + c) = V c b) (h : ∀ rj' : Nat → Int32, (∀ c, c < 16 → ∀ b, b < 4 → rj' (16 * b + c) = rjF tw V c b) → post rj') : wp_X4_undoTwins tw backs rj post := by
  unfold wp_X4_undoTwins
  rintro _ rfl _ rfl
  refine cinv1 0 64 (fun n f => ∀ j, j < 64 → f j = if (if j % 16 < 8 then j else j - 8) < n then rjF tw V (j % 16) (j / 16) else V (j % 16) (j / 16)) (fun j hj => ?_) ?_ ?_
  · rw [if_neg (by omega), pk_cpy_in (by omega) (by omega), Nat.sub_zero, Nat.zero_add]
    have := hV (j % 16) (by omega) (j / 16) (by omega)
    rw [show 16 * (j / 16) + j % 16 = j by omega] at this
    exact this
  · intro n f _ hn hI g hg
    have hbn : backs n = V (n % 16) (n / 16) := by
      have := hV (n % 16) (by omega) (n / 16) (by omega)
      rw [show 16 * (n / 16) + n % 16 = n by omega] at this
      exact this
    simp (disch := omega) only [rA, rR, forall_eq]
    intro k10 hk10
    have same : (∀ j, j < 64 → (if j % 16 < 8 then j else j - 8) = n → rjF tw V (j % 16) (j / 16) = V (j % 16) (j / 16)) → k10 f := fun q => hk10 _ (hg _ (fun j hj => by
      rw [hI j hj]
      by_cases a : (if j % 16 < 8 then j else j - 8) < n
      · rw [if_pos a, if_pos (by omega)]
      · rw [if_neg a]
        by_cases b : (if j % 16 < 8 then j else j - 8) < n + 1
        · rw [if_pos b, q j hj (by omega)]
        · rw [if_neg b]))
    refine ⟨fun q8 => same (fun j hj e => ?_), fun q8 => ?_⟩
    · have := (nI_leI (a := 8) (by omega) (by omega)).mp q8
      exfalso
      by_cases z : j % 16 < 8
      · rw [if_pos z] at e; omega
      · rw [if_neg z] at e; omega
    · have h8 : n % 16 < 8 := by
        rcases Nat.lt_or_ge (n % 16) 8 with z | z
        · exact z
        · exact absurd ((nI_leI (a := 8) (by omega) (by omega)).mpr z) q8
      have hb8 : backs (n + 8) = V (8 + n % 16) (n / 16) := by
        have := hV (8 + n % 16) (by omega) (n / 16) (by omega)
        rw [show 16 * (n / 16) + (8 + n % 16) = n + 8 by omega] at this
        exact this
      simp (disch := omega) only [rA, nI_clamp, vpT, true_and, pk_us, hbn, hb8]
      refine ⟨fun qt => hk10 _ (hg _ (fun j hj => ?_)), fun qt => same (fun j hj e => ?_)⟩
      · have hL : rjF tw V (n % 16) (n / 16) = V (n % 16) (n / 16) + ((V (8 + n % 16) (n / 16) + 1) >>> ((1 : Int32) &&& 31)) := by
          unfold rjF; rw [show n % 16 % 8 = n % 16 by omega, if_pos qt, if_pos h8]
        have hRr : rjF tw V (8 + n % 16) (n / 16) = V (n % 16) (n / 16) + ((V (8 + n % 16) (n / 16) + 1) >>> ((1 : Int32) &&& 31)) - V (8 + n % 16) (n / 16) := by
          unfold rjF; rw [show (8 + n % 16) % 8 = n % 16 by omega, if_pos qt, if_neg (by omega), show 8 + n % 16 - 8 = n % 16 by omega]
        by_cases a : j = n + 8
        · rw [a, pk_us, show (n + 8) % 16 = 8 + n % 16 by omega, show (n + 8) / 16 = n / 16 by omega, if_neg (show ¬ 8 + n % 16 < 8 by omega), if_pos (by omega), hRr]
        · rw [pk_un a]
          by_cases b : j = n
          · rw [b, pk_us, if_pos h8, if_pos (by omega), hL]
          · rw [pk_un b, hI j hj]
            have hne : (if j % 16 < 8 then j else j - 8) ≠ n := by
              by_cases z : j % 16 < 8
              · rw [if_pos z]; exact b
              · rw [if_neg z]; omega
            by_cases c : (if j % 16 < 8 then j else j - 8) < n
            · rw [if_pos c, if_pos (by omega)]
            · rw [if_neg c, if_neg (by omega)]
      · unfold rjF
        have e8 : j % 16 % 8 = n % 16 := by
          by_cases z : j % 16 < 8
          · rw [if_pos z] at e; omega
          · rw [if_neg z] at e; omega
        rw [e8, if_neg qt]
  · intro f hI
    refine h f (fun c hc b hb => ?_)
    rw [hI _ (by omega), show (16 * b + c) % 16 = c by omega, show (16 * b + c) / 16 = b by omega, if_pos]
    by_cases z : c < 8
    · rw [if_pos z]; omega
    · rw [if_neg z]; omega
