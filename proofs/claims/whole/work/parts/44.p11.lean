/-! pure part 11: bits into bytes, out of bytes, CHECK -/
def setb (f : Nat → Int32) (p : Nat) (x : Int32) : Nat → Int32 := upd f (p / 8) (f (p / 8) ||| (x <<< (nI (7 - p % 8) &&& 31)))
def putS (v : Int32) (w a : Nat) (f : Nat → Int32) : Nat → Nat → Int32
  | 0 => f
  | n + 1 => setb (putS v w a f n) (a + n) ((v >>> (nI (w - 1 - n) &&& 31)) &&& 1)
abbrev putF (v : Int32) (w a : Nat) (f : Nat → Int32) : Nat → Int32 := putS v w a f w
theorem t1_put {v : Int32} {w a sz : Nat} {f : Nat → Int32} {post : Int32 → (Nat → Int32) → Prop} (hw : w ≤ 32) (ha : a + w ≤ 8 * sz) (hz : sz ≤ 80) (h : post (nI (a + w)) (putF v w a f)) : wp_X1_put v (nI w) (nI sz) (nI a) f post := by
  unfold wp_X1_put
  rintro _ rfl
  refine cdwn2 w (fun k x y => x = nI (a + (w - k)) ∧ y = putS v w a f (w - k)) ⟨by rw [Nat.sub_self, Nat.add_zero], by rw [Nat.sub_self, putS]⟩ ?_ ?_
  · rintro k x y hk ⟨rfl, rfl⟩ g hg k9 hk9
    have e1 : w - k = w - (k + 1) + 1 := by omega
    have fin : k9 (putS v w a f (w - k)) := by
      refine hk9 _ ?_
      rintro _ rfl
      refine hg _ _ ⟨?_, rfl⟩
      rw [rA]; congr 1; omega
    simp (disch := omega) only [lM, rD, rR, lS, nI_clamp, vpT, true_and, forall_eq]
    refine ⟨fun q => ?_, fun q => ?_⟩
    · have := (nI_leI (by omega) (by omega)).mp q
      omega
    · rw [e1, putS, show w - 1 - (w - (k + 1)) = k by omega] at fin
      exact fin
  · rintro x y ⟨rfl, rfl⟩
    rw [Nat.sub_zero]; exact h
theorem t12_put {v : Int32} {w a : Nat} {f : Nat → Int32} {post : Int32 → (Nat → Int32) → Prop} (hw : w ≤ 32) (ha : a + w ≤ 1280) (h : post (nI (a + w)) (putF v w a f)) : wp_X12_putBits v (nI w) (nI a) f post := by
  unfold wp_X12_putBits
  rintro _ rfl
  refine cdwn2 w (fun k x y => x = nI (a + (w - k)) ∧ y = putS v w a f (w - k)) ⟨by rw [Nat.sub_self, Nat.add_zero], by rw [Nat.sub_self, putS]⟩ ?_ ?_
  · rintro k x y hk ⟨rfl, rfl⟩ g hg
    have e1 : w - k = w - (k + 1) + 1 := by omega
    simp (disch := omega) only [rA, rD, rR, lS, nI_clamp, vpT, true_and, forall_eq]
    refine hg _ _ ⟨?_, ?_⟩
    · congr 1; omega
    · rw [e1, putS, show w - 1 - (w - (k + 1)) = k by omega]; rfl
  · rintro x y ⟨rfl, rfl⟩
    rw [Nat.sub_zero]; exact h
theorem setb_c {f f' : Nat → Int32} {p N : Nat} {x : Int32} (h : ∀ j, j < N → f j = f' j) (hp : p / 8 < N) : ∀ j, j < N → setb f p x j = setb f' p x j := by
  intro j hj
  unfold setb
  by_cases e : j = p / 8
  · subst e; rw [pk_us, pk_us, h _ hj]
  · rw [pk_un e, pk_un e]; exact h j hj
theorem putS_c {v : Int32} {w a N : Nat} {f f' : Nat → Int32} (h : ∀ j, j < N → f j = f' j) : ∀ n, a + n ≤ 8 * N → ∀ j, j < N → putS v w a f n j = putS v w a f' n j
  | 0, _ => h
  | n + 1, hn => setb_c (putS_c h n (by omega)) (by omega)
/-- a row of bytes -/
def isBy (f : Nat → Int32) (N : Nat) : Prop := ∀ j, j < N → ∃ n, n < 256 ∧ f j = nI n
theorem bit1 (x : Int32) : x &&& 1 = nI 0 ∨ x &&& 1 = nI 1 := by
  obtain ⟨j, hj, e⟩ := pk_andE x (m := 1) 1 (by decide)
  have : j = 0 ∨ j = 1 := by omega
  rcases this with rfl | rfl
  · exact Or.inl e
  · exact Or.inr e
theorem shb : ∀ r, r < 8 → ((nI 0 <<< (nI r &&& 31)) = nI 0) ∧ (nI 1 <<< (nI r &&& 31)) = nI (2 ^ r) := by decide +kernel
theorem setb_by {f : Nat → Int32} {p N : Nat} {x : Int32} (h : isBy f N) (hx : x = nI 0 ∨ x = nI 1) : isBy (setb f p x) N := by
  intro j hj
  unfold setb
  by_cases e : j = p / 8
  · subst e; rw [pk_us]
    obtain ⟨n, hn, e⟩ := h _ hj
    have hs := shb (7 - p % 8) (by omega)
    rcases hx with rfl | rfl
    · exact ⟨n, hn, by rw [e, hs.1, fa_or, Nat.or_zero]⟩
    · refine ⟨n ||| 2 ^ (7 - p % 8), ?_, by rw [e, hs.2, fa_or]⟩
      have h1 : 2 ^ (7 - p % 8) < 2 ^ 8 := Nat.pow_lt_pow_right (by decide) (by omega)
      exact Nat.or_lt_two_pow (n := 8) hn h1
  · rw [pk_un e]; exact h j hj
theorem putS_by {v : Int32} {w a N : Nat} {f : Nat → Int32} (h : isBy f N) : ∀ n, isBy (putS v w a f n) N
  | 0 => h
  | n + 1 => setb_by (putS_by h n) (bit1 _)
/-- eight bits at a byte's first bit are the byte -/
theorem byte8 : ∀ n, n < 256 → ((((((((((0 : Int32) ||| (((nI n >>> (nI 7 &&& 31)) &&& 1) <<< (nI 7 &&& 31))) ||| (((nI n >>> (nI 6 &&& 31)) &&& 1) <<< (nI 6 &&& 31))) ||| (((nI n >>> (nI 5 &&& 31)) &&& 1) <<< (nI 5 &&& 31))) ||| (((nI n >>> (nI 4 &&& 31)) &&& 1) <<< (nI 4 &&& 31))) ||| (((nI n >>> (nI 3 &&& 31)) &&& 1) <<< (nI 3 &&& 31))) ||| (((nI n >>> (nI 2 &&& 31)) &&& 1) <<< (nI 2 &&& 31))) ||| (((nI n >>> (nI 1 &&& 31)) &&& 1) <<< (nI 1 &&& 31))) ||| (((nI n >>> (nI 0 &&& 31)) &&& 1) <<< (nI 0 &&& 31)))) = nI n := by decide +kernel
theorem putF_8 {n j : Nat} {f : Nat → Int32} (hn : n < 256) (h0 : f j = 0) : putF (nI n) 8 (8 * j) f = upd f j (nI n) := by
  have e := byte8 n hn
  unfold putF
  simp only [putS, setb]
  simp only [Nat.add_zero, show ∀ r, r < 8 → (8 * j + r) / 8 = j by intro r hr; omega, show 8 * j / 8 = j by omega, show 8 * j % 8 = 0 by omega, show (8 * j + 1) / 8 = j by omega, show (8 * j + 2) / 8 = j by omega, show (8 * j + 3) / 8 = j by omega, show (8 * j + 4) / 8 = j by omega, show (8 * j + 5) / 8 = j by omega, show (8 * j + 6) / 8 = j by omega, show (8 * j + 7) / 8 = j by omega,
    show (8 * j + 1) % 8 = 1 by omega, show (8 * j + 2) % 8 = 2 by omega, show (8 * j + 3) % 8 = 3 by omega, show (8 * j + 4) % 8 = 4 by omega, show (8 * j + 5) % 8 = 5 by omega, show (8 * j + 6) % 8 = 6 by omega, show (8 * j + 7) % 8 = 7 by omega, pk_us, fa_upd_twice, h0, Nat.reduceSub, Nat.sub_zero]
  rw [e]
/-! reading -/
abbrev bitAt (f : Nat → Int32) (p e : Nat) : Int32 := if e ≤ p then 0 else (f (p / 8) >>> (nI (7 - p % 8) &&& 31)) &&& 1
theorem bitAt_1 (f : Nat → Int32) (p e : Nat) : bitAt f p e = nI 0 ∨ bitAt f p e = nI 1 := by
  unfold bitAt
  by_cases h : e ≤ p
  · rw [if_pos h]; exact Or.inl rfl
  · rw [if_neg h]; exact bit1 _
abbrev bitN (f : Nat → Int32) (p e : Nat) : Nat := if bitAt f p e = nI 1 then 1 else 0
theorem bitN_1 (f : Nat → Int32) (p e : Nat) : bitAt f p e = nI (bitN f p e) ∧ bitN f p e ≤ 1 := by
  rcases bitAt_1 f p e with h | h
  · have h1 : ¬ bitAt f p e = nI 1 := by rw [h]; decide
    unfold bitN; rw [if_neg h1]; exact ⟨h, by omega⟩
  · unfold bitN; rw [if_pos h]; exact ⟨h, by omega⟩
def getN (f : Nat → Int32) (e a : Nat) : Nat → Nat
  | 0 => 0
  | n + 1 => 2 * getN f e a n + bitN f (a + n) e
theorem getN_lt (f : Nat → Int32) (e a : Nat) : ∀ n, getN f e a n < 2 ^ n
  | 0 => by rw [getN]; decide
  | n + 1 => by
    have h1 := getN_lt f e a n
    have h2 := (bitN_1 f (a + n) e).2
    rw [getN, Nat.pow_succ]; omega
theorem t1_take {w a sz : Nat} {f : Nat → Int32} {post : Int32 → Int32 → Prop} (hw : w ≤ 16) (ha : a < 100000) (hz : sz ≤ 80) (h : post (nI (getN f (8 * sz) a w)) (nI (a + w))) : wp_X1_take (nI w) (nI sz) (nI a) f post := by
  unfold wp_X1_take
  rintro _ rfl _ rfl
  refine cinv2 0 w (fun k v p => v = nI (getN f (8 * sz) a k) ∧ p = nI (a + k)) ⟨rfl, rfl⟩ ?_ ?_
  · rintro k v p - hk ⟨rfl, rfl⟩ g hg k10 hk10
    have hb := bitN_1 f (a + k) (8 * sz)
    have fin : k10 (bitAt f (a + k) (8 * sz)) := by
      refine hk10 _ ?_
      rintro _ rfl _ rfl
      rw [nI_1, nI_1]
      refine hg _ _ ⟨?_, rfl⟩
      rw [hb.1, lM, nI_add]; rfl
    simp (disch := omega) only [lM, rD, rR, lS, nI_clamp, vpT, true_and, forall_eq]
    refine ⟨fun q => ?_, fun q => ?_⟩
    · have := (nI_leI (by omega) (by omega)).mp q
      unfold bitAt at fin; rw [if_pos this] at fin; exact fin
    · have h9 : ¬ 8 * sz ≤ a + k := fun z => q ((nI_leI (by omega) (by omega)).mpr z)
      simp (disch := omega) only [vpT, true_and]
      unfold bitAt at fin; rw [if_neg h9] at fin; exact fin
  · rintro v p ⟨rfl, rfl⟩; exact h
theorem t12_get {w a e : Nat} {f : Nat → Int32} {post : Int32 → Int32 → Prop} (hw : w ≤ 16) (ha : a < 100000) (he : e ≤ 1280) (h : post (nI (getN f e a w)) (nI (a + w))) : wp_X12_getBits (nI w) (nI e) (nI a) f post := by
  unfold wp_X12_getBits
  rintro _ rfl _ rfl
  refine cinv2 0 w (fun k v p => v = nI (getN f e a k) ∧ p = nI (a + k)) ⟨rfl, rfl⟩ ?_ ?_
  · rintro k v p - hk ⟨rfl, rfl⟩ g hg k10 hk10
    have hb := bitN_1 f (a + k) e
    have hlt := getN_lt f e a k
    have hlt2 : 2 ^ k < 2 ^ 16 := Nat.pow_lt_pow_right (by decide) (by omega)
    have fin : k10 (bitAt f (a + k) e) := by
      refine hk10 _ ?_
      rintro _ rfl _ rfl
      rw [nI_1, nI_1]
      refine hg _ _ ⟨?_, rfl⟩
      rw [hb.1, pk_shlN _ 1 (by decide) (by omega), show getN f e a k * 2 ^ 1 = 2 ^ 1 * getN f e a k by omega, fa_or_sum (k := 1) _ (by omega)]; rfl
    refine ⟨fun q => ?_, fun q => ?_⟩
    · have := (nI_leI (by omega) (by omega)).mp q
      unfold bitAt at fin; rw [if_pos this] at fin; exact fin
    · have h9 : ¬ e ≤ a + k := fun z => q ((nI_leI (by omega) (by omega)).mpr z)
      simp (disch := omega) only [rD, rR, lS, nI_clamp, vpT, true_and, forall_eq]
      unfold bitAt at fin; rw [if_neg h9] at fin; exact fin
  · rintro v p ⟨rfl, rfl⟩; exact h
theorem getN_c {f f' : Nat → Int32} {e a N : Nat} (h : ∀ j, j < N → f j = f' j) (he : e ≤ 8 * N) : ∀ n, getN f e a n = getN f' e a n
  | 0 => rfl
  | n + 1 => by
    have hb : bitAt f (a + n) e = bitAt f' (a + n) e := by
      unfold bitAt
      by_cases q : e ≤ a + n
      · rw [if_pos q, if_pos q]
      · rw [if_neg q, if_neg q, h _ (by omega)]
    rw [getN, getN, getN_c h he n]
    unfold bitN
    rw [hb]
/-! CHECK -/
def crc1 (c y : Int32) (sh : Nat) : Int32 := ((2 * c) ^^^ (29 * (((c >>> ((7 : Int32) &&& 31)) ^^^ (y >>> (nI sh &&& 31))) &&& 1))) &&& 255
def crcB (c y : Int32) : Nat → Int32
  | 0 => c
  | n + 1 => crc1 (crcB c y n) y (7 - n)
def chk (f : Nat → Int32) : Nat → Int32
  | 0 => 15
  | i + 1 => if i = 0 ∨ i = 3 then chk f i else crcB (chk f i) (f i) 8
theorem chk_c {f f' : Nat → Int32} : ∀ n, (∀ j, j < n → j ≠ 0 → j ≠ 3 → f j = f' j) → chk f n = chk f' n
  | 0, _ => rfl
  | n + 1, h => by
    rw [chk, chk, chk_c n (fun j hj => h j (by omega))]
    by_cases q : n = 0 ∨ n = 3
    · rw [if_pos q, if_pos q]
    · rw [if_neg q, if_neg q, h n (by omega) (by omega) (by omega)]
theorem crc_by (c y : Int32) (sh : Nat) : ∃ n, n < 256 ∧ crc1 c y sh = nI n := by
  unfold crc1
  exact pk_andE _ (m := 255) 8 (by decide)
theorem crcB_by {c y : Int32} (h : ∃ n, n < 256 ∧ c = nI n) : ∀ n, ∃ m, m < 256 ∧ crcB c y n = nI m
  | 0 => h
  | n + 1 => crc_by _ _ _
theorem chk_by (f : Nat → Int32) : ∀ n, ∃ m, m < 256 ∧ chk f n = nI m
  | 0 => ⟨15, by decide, rfl⟩
  | n + 1 => by
    rw [chk]
    by_cases q : n = 0 ∨ n = 3
    · rw [if_pos q]; exact chk_by f n
    · rw [if_neg q]; exact crcB_by (chk_by f n) 8
theorem t1_check {sz : Nat} {f : Nat → Int32} {post : Int32 → Prop} (h1 : 1 ≤ sz) (hz : sz ≤ 80) (h : post (chk f sz)) : wp_X1_check (nI sz) f post := by
  unfold wp_X1_check
  rintro _ rfl _ rfl
  refine cinv1 1 sz (fun i c => c = chk f i) rfl ?_ ?_
  · rintro i c h1i hi rfl g hg k9 hk9
    rw [nI_1] at hk9
    have fin : k9 (chk f (i + 1)) := hk9 _ (hg _ rfl)
    refine ⟨fun q => ?_, fun q => ?_⟩
    · have : i = 3 := (nI_eq (b := 3) (by omega) (by omega)).mp q
      rw [chk, if_pos (Or.inr this)] at fin; exact fin
    · have h3 : i ≠ 3 := fun z => q (by rw [z]; rfl)
      rintro x12 e12
      refine cdwn1 8 (fun k c => c = crcB (chk f i) (f i) (8 - k)) rfl ?_ ?_ (by rw [e12]; decide)
      · rintro k c hk rfl g13 hg13
        simp (disch := omega) only [nI_clamp, vpT, true_and, forall_eq]
        refine hg13 _ ?_
        rw [show 8 - k = (8 - (k + 1)) + 1 by omega, crcB, show 7 - (8 - (k + 1)) = k by omega]; rfl
      · rintro c rfl
        rw [chk, if_neg (by omega)] at fin; exact fin
  · rintro c rfl; exact h
theorem xor1 (a b : Int32) : (a ^^^ b) &&& 1 = if (a &&& 1) = (b &&& 1) then 0 else 1 := by
  have e : (a ^^^ b) &&& 1 = (a &&& 1) ^^^ (b &&& 1) := by
    apply b_ext
    intro i hi
    rw [b_and, b_xor, b_xor, b_and, b_and]
    cases bt a i <;> cases bt b i <;> cases bt 1 i <;> rfl
  rw [e]
  rcases bit1 a with h1 | h1 <;> rcases bit1 b with h2 | h2 <;> rw [h1, h2] <;> decide
set_option maxHeartbeats 4000000 in
set_option maxRecDepth 100000 in
theorem t12_check {sz : Nat} {f : Nat → Int32} {post : Int32 → Prop} (h1 : 1 ≤ sz) (hz : sz ≤ 160) (h : post (chk f sz)) : wp_X12_check (nI sz) f post := by
  unfold wp_X12_check
  rintro _ rfl _ rfl
  refine cinv1 1 sz (fun i c => c = chk f i) rfl ?_ ?_
  · rintro i c h1i hi rfl g hg
    have fin := hg _ rfl
    rintro x8 e8
    refine Lz2_by (fun x c => ∃ k, k ≤ 8 ∧ x = nI k - 1 ∧ c = (if i = 3 then chk f i else crcB (chk f i) (f i) (8 - k))) (fun x _ => (x + 1).toNatClampNeg) _ _ ⟨8, Nat.le_refl _, by rw [e8]; decide, by rw [Nat.sub_self, crcB]; by_cases q : i = 3 <;> simp [q]⟩ ?_
    rintro x c ⟨k, hk, rfl, rfl⟩ again hag k13 hk13
    rw [nI_1] at hk13
    have done : (i = 3 ∨ k = 0) → k13 := fun q => hk13 (by
      by_cases h3 : i = 3
      · rw [if_pos h3]
        rw [chk, if_pos (Or.inr h3)] at fin; exact fin
      · have hk0 : k = 0 := by omega
        rw [if_neg h3, hk0]
        rw [chk, if_neg (by omega)] at fin; exact fin)
    cases k with
    | zero => exact ⟨fun _ => done (Or.inr rfl), fun q => absurd (by decide) q⟩
    | succ k =>
      rw [nI_pred] at hag ⊢
      refine ⟨fun q => absurd q (nI_pos (by omega)), fun _ => ⟨fun q => done (Or.inl ((nI_eq (b := 3) (by omega) (by omega)).mp q)), fun q => ?_⟩⟩
      have h3 : i ≠ 3 := fun z => q (by rw [z]; rfl)
      rw [if_neg h3]
      simp (disch := omega) only [nI_clamp, vpT, true_and]
      intro k19 hk19
      have fin2 : again (nI k + (-1)) (crcB (chk f i) (f i) (8 - k)) := by
        have e : nI k + (-1) = nI k - 1 := (Int32.sub_eq_add_neg _ _).symm
        refine hag _ _ ⟨k, by omega, e, by rw [if_neg h3]⟩ ?_
        rw [show nI k + (-1) + 1 = nI k by rw [Int32.add_assoc]; exact Int32.add_zero _, nI_1, nI_clamp (by omega), nI_clamp (by omega)]; omega
      rw [show 8 - k = (8 - (k + 1)) + 1 by omega, crcB, show 7 - (8 - (k + 1)) = k by omega, crc1, xor1] at fin2
      refine ⟨fun z => hk19 _ (fun k22 hk22 => ⟨fun _ => hk22 _ ?_, fun y => absurd rfl y⟩), fun z => hk19 _ (fun k22 hk22 => ⟨fun y => absurd y (by decide), fun _ => hk22 _ ?_⟩)⟩
      · rintro _ rfl
        rw [if_pos z] at fin2; exact fin2
      · rintro _ rfl
        rw [if_neg z] at fin2; exact fin2
  · rintro c rfl; exact h
