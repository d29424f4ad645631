/-! pure part 18: the book; queues -/
theorem bt4 : ∀ s, s < 4 → ∀ i, i < 32 → 2 ≤ i → bt (nI s) i = false := by decide +kernel
theorem btm4 : ∀ i, i < 32 → bt (-4) i = decide (2 ≤ i) := by decide +kernel
theorem and4 {m s : Nat} (hs : s < 4) (hm : 4 * m < 2 ^ 32) : nI (4 * m + s) &&& (-4) = nI (4 * m) := by
  have e1 : nI (4 * m + s) = nI (4 * m) ||| nI s := (fa_or_sum (k := 2) m hs).symm
  have e2 : nI m <<< (nI 2 &&& 31) = nI (4 * m) := by
    rw [pk_shlN _ 2 (by decide) (by omega)]; congr 1; omega
  rw [e1]
  apply b_ext
  intro i hi
  rw [b_and, b_or, btm4 i hi]
  by_cases h2 : 2 ≤ i
  · rw [bt4 s hs i hi h2]; simp [h2]
  · rw [← e2, b_shl 2 (by omega) _ hi]; simp [h2]
theorem setS {n s : Nat} (hs : s < 4) (hn : n < 2 ^ 31) : (nI n &&& (-4)) ||| nI s = nI (n / 4 * 4 + s) := by
  have e : n = 4 * (n / 4) + n % 4 := by omega
  have h1 : nI n &&& (-4) = nI (4 * (n / 4)) := by
    rw [show nI n = nI (4 * (n / 4) + n % 4) from congrArg nI e]
    exact and4 (by omega) (by omega)
  rw [h1, show 4 * (n / 4) = 2 ^ 2 * (n / 4) from rfl, fa_or_sum (k := 2) _ hs]
  congr 1; omega
def rBk (rec row : Nat → Int32) (k st hd sn sl : Nat) : Prop := st ≤ 3 ∧ hd ≤ 2 ∧ sn ≤ 255 ∧ sl ≤ 10000 ∧ row (3385 + 4 * k) = nI st ∧ row (3385 + 4 * k + 1) = nI sn ∧ row (3385 + 4 * k + 2) = nI hd ∧ (st = 2 → 1 ≤ sl ∧ row (3385 + 4 * k + 3) = nI (sl - 1)) ∧ (st ≠ 2 → sl = 0) ∧ rec k = nI (st + 4 * hd + 16 * sn + 4096 * sl)
/-- the book at SLOT t: cd are coded, ln of them in line, nx is the next to be played -/
def rBook (rec row : Nat → Int32) (t cd nx ln : Nat) : Prop := ∀ k, k < 2500 → ∃ st hd sn sl, rBk rec row k st hd sn sl ∧ (cd ≤ k → st = 0 ∧ sn = 0) ∧ (nx ≤ k → hd = 0) ∧ (cd ≤ k + ln → k < cd → st = 1 ∧ sn + 4 * k ≤ t)
theorem rBk_f {rec rec' row row' : Nat → Int32} {k st hd sn sl : Nat} (h : rBk rec row k st hd sn sl) (e : ∀ j, 3385 + 4 * k ≤ j → j < 3385 + 4 * k + 4 → row' j = row j) (er : rec' k = rec k) : rBk rec' row' k st hd sn sl := by
  obtain ⟨h1, h2, h3, h4, h5, h6, h7, h8, h9, h10⟩ := h
  refine ⟨h1, h2, h3, h4, ?_, ?_, ?_, fun q => ⟨(h8 q).1, ?_⟩, h9, ?_⟩
  · rw [e _ (by omega) (by omega)]; exact h5
  · rw [e _ (by omega) (by omega)]; exact h6
  · rw [e _ (by omega) (by omega)]; exact h7
  · rw [e _ (by omega) (by omega)]; exact (h8 q).2
  · rw [er]; exact h10
theorem t0_setStatus {k s n : Nat} {rec : Nat → Int32} {post : (Nat → Int32) → Prop} (hk : k < 2500) (hs : s < 4) (e : rec k = nI n) (hn : n < 2 ^ 31) (h : post (upd rec k (nI (n / 4 * 4 + s)))) : wp_X0_setStatus (nI k) (nI s) rec post := by
  unfold wp_X0_setStatus
  refine t_within (fun _ => ⟨fun q => absurd q (by decide), fun _ => ?_⟩) (fun q => absurd ((btw_i (a := 0) (b := 2499)).mpr ⟨by omega, by omega⟩) q)
  simp (disch := omega) only [nI_clamp, vpT, true_and, forall_eq, e]
  rw [setS hs hn]; exact h
theorem t0_addSent {k n : Nat} {rec : Nat → Int32} {post : (Nat → Int32) → Prop} (hk : k < 2500) (e : rec k = nI n) (h : post (upd rec k (nI (n + 16)))) : wp_X0_addSent (nI k) rec post := by
  unfold wp_X0_addSent
  refine t_within (fun _ => ⟨fun q => absurd q (by decide), fun _ => ?_⟩) (fun q => absurd ((btw_i (a := 0) (b := 2499)).mpr ⟨by omega, by omega⟩) q)
  simp (disch := omega) only [nI_clamp, vpT, true_and, forall_eq, e, rA]
  exact h
theorem near_n {n hi : Nat} (hn : n < 2 ^ 31) (hh : hi < 2 ^ 31) : near (nI n) 0 (nI hi) = nI (min n hi) := by
  unfold near
  rw [if_pos (nI_pos' hn)]
  by_cases q : n ≤ hi
  · rw [if_pos (nI_le q hh), Nat.min_eq_left q]
  · rw [if_neg (nI_ge (by omega) hn), Nat.min_eq_right (by omega)]
theorem t0_arrive {k t n : Nat} {rec dly : Nat → Int32} {post : (Nat → Int32) → (Nat → Int32) → Prop} (hk : k < 2500) (ht : t < 10000) (hkt : 4 * k ≤ t) (e : rec k = nI n) (hn : n < 4096) (h : post (upd rec k (nI (n / 4 * 4 + 2 + 4096 * (t + 1)))) (upd dly (min (t - 4 * k) 15) (dly (min (t - 4 * k) 15) + 1))) : wp_X0_arrive (nI k) (nI t) rec dly post := by
  unfold wp_X0_arrive
  refine t_within (fun _ => ⟨fun q => absurd q (by decide), fun _ => ?_⟩) (fun q => absurd ((btw_i (a := 0) (b := 2499)).mpr ⟨by omega, by omega⟩) q)
  refine t0_setStatus (s := 2) hk (by omega) e (by omega) ?_
  have e1 : nI (t + 1) <<< ((12 : Int32) &&& 31) = nI (2 ^ 12 * (t + 1)) := by
    rw [pk_shlN _ 12 (by decide) (by omega)]; congr 1; omega
  have e2 : nI (n / 4 * 4 + 2) ||| nI (2 ^ 12 * (t + 1)) = nI (n / 4 * 4 + 2 + 4096 * (t + 1)) := by
    rw [Int32.or_comm, fa_or_sum (k := 12) _ (by omega)]; congr 1; omega
  simp (disch := omega) only [nI_clamp, vpT, true_and, forall_eq, rA, lM, pk_sub, pk_us, fa_upd_twice, e1, e2]
  refine t_near ?_
  rw [show (15 : Int32) = nI 15 from rfl, near_n (by omega) (by omega)]
  simp (disch := omega) only [nI_clamp, vpT, true_and, forall_eq]
  exact h
theorem t0_heard {k w n : Nat} {rec : Nat → Int32} {post : (Nat → Int32) → Prop} (hk : k < 2500) (hw : w ≤ 2) (e : rec k = nI n) (hn : n < 2 ^ 30) (hh : n / 4 % 4 = 0) (h : post (upd rec k (nI (n + 4 * w)))) : wp_X0_setHowHeard (nI k) (nI w) rec post := by
  unfold wp_X0_setHowHeard
  refine t_within (fun _ => ⟨fun q => absurd q (by decide), fun _ => ?_⟩) (fun q => absurd ((btw_i (a := 0) (b := 2499)).mpr ⟨by omega, by omega⟩) q)
  have e1 : nI w <<< ((2 : Int32) &&& 31) = nI (2 ^ 2 * w) := by
    rw [pk_shlN _ 2 (by decide) (by omega)]; congr 1; omega
  have e2 : nI n ||| nI (2 ^ 2 * w) = nI (n + 4 * w) := by
    have a1 : nI n = nI (2 ^ 4 * (n / 16)) ||| nI (n % 4) := by
      rw [fa_or_sum (k := 4) _ (by omega)]; congr 1; omega
    have a2 : nI (n % 4) ||| nI (2 ^ 2 * w) = nI (2 ^ 2 * w + n % 4) := by
      rw [Int32.or_comm, fa_or_sum (k := 2) _ (by omega)]
    rw [a1, Int32.or_assoc, a2, fa_or_sum (k := 4) _ (by omega)]; congr 1; omega
  simp (disch := omega) only [nI_clamp, vpT, true_and, forall_eq, e, e1, e2]
  exact h
theorem t0_heardOut {k w : Nat} {rec : Nat → Int32} {post : (Nat → Int32) → Prop} (hk : 2500 ≤ k) (hk2 : k < 2 ^ 31) (h : post rec) : wp_X0_setHowHeard (nI k) (nI w) rec post := by
  unfold wp_X0_setHowHeard
  refine t_within (fun q => ?_) (fun _ => ⟨fun _ => h, fun q => absurd rfl q⟩)
  have := (btw_i (a := 0) (b := 2499)).mp q
  omega
/-! a ring of n places: its head, how many are in it (at a place of the numbers) -/
theorem t7_at {n i sa hd c : Nat} {nb : Nat → Int32} {post : Option Nat → Prop} (hn : 0 < n) (hn2 : n < 100) (hs : sa < 54) (hh : hd < n) (hi : i < 1000) (e : nb sa = nI c) (hc : c < 1000) (h : post (if i < c then some ((hd + i) % n) else none)) : wp_X7_at n (nI i) (nI sa) (nI hd) nb post := by
  unfold wp_X7_at
  refine ⟨fun q => absurd q (nI_pos (by omega)), fun _ => ?_⟩
  have hlt : (hd + i) % n < n := Nat.mod_lt _ hn
  rw [show (Int32.ofNat n) = nI n from rfl]
  have er : jrem (nI (hd + i)) (nI n) = nI ((hd + i) % n) := pk_rem (by omega) hn (by omega)
  simp (disch := omega) only [nI_clamp, vpT, true_and, forall_eq, e, nI_add, er]
  refine ⟨fun q => ⟨nI_ne0 hn (by omega), ?_⟩, fun q => ?_⟩
  · rw [if_pos ((nI_ltI (by omega) (by omega)).mp q)] at h; exact h
  · rw [if_neg (fun z => q ((nI_ltI (by omega) (by omega)).mpr z))] at h; exact h
theorem t7_remove {n sa hd c : Nat} {nb : Nat → Int32} {post : Int32 → (Nat → Int32) → Prop} (hn : 0 < n) (hn2 : n < 100) (hs : sa < 54) (hh : hd < n) (e : nb sa = nI c) (hc : c < 1000) (hc0 : 0 < c) (h : post (nI ((hd + 1) % n)) (upd nb sa (nI (c - 1)))) : wp_X7_removeFirst n (nI sa) (nI hd) nb post := by
  unfold wp_X7_removeFirst
  rw [show (Int32.ofNat n) = nI n from rfl]
  have er : jrem (nI (hd + 1)) (nI n) = nI ((hd + 1) % n) := pk_rem (by omega) hn (by omega)
  simp (disch := omega) only [nI_clamp, vpT, true_and, forall_eq, e, rA, rS, er]
  exact ⟨fun q => absurd q (nI_nle hc0 (by omega)), fun _ => ⟨nI_ne0 hn (by omega), h⟩⟩
theorem t7_append {n sa hd c : Nat} {nb : Nat → Int32} {post : Option Nat → (Nat → Int32) → Prop} (hn2 : n < 100) (hs : sa < 54) (hh : hd < n) (e : nb sa = nI c) (hc : c < n) (h : post (some ((hd + c) % n)) (upd nb sa (nI (c + 1)))) : wp_X7_append n (nI sa) (nI hd) nb post := by
  unfold wp_X7_append
  rw [show (Int32.ofNat n) = nI n from rfl]
  simp (disch := omega) only [nI_clamp, vpT, true_and, forall_eq, e, rA, rS, pk_us, Nat.add_sub_cancel]
  refine ⟨fun _ => ?_, fun q => absurd ((nI_ltI (by omega) (by omega)).mpr hc) q⟩
  refine t7_at (c := c + 1) (by omega) hn2 hs hh (by omega) pk_us (by omega) ?_
  rw [if_pos (by omega)]
  refine ⟨fun q => absurd q (by simp), fun j hj => ?_⟩
  have hj2 : (hd + c) % n = j := Option.some.inj hj
  subst hj2
  exact ⟨Nat.mod_lt _ (by omega), h⟩
theorem t7_appendFull {n sa hd c : Nat} {nb : Nat → Int32} {post : Option Nat → (Nat → Int32) → Prop} (hn2 : n < 100) (hs : sa < 54) (e : nb sa = nI c) (hc : n ≤ c) (hc2 : c < 1000) (h : post none nb) : wp_X7_append n (nI sa) (nI hd) nb post := by
  unfold wp_X7_append
  rw [show (Int32.ofNat n) = nI n from rfl]
  simp (disch := omega) only [nI_clamp, vpT, true_and, e]
  exact ⟨fun q => absurd ((nI_ltI (by omega) (by omega)).mp q) (by omega), fun _ => h⟩
