/-! pure part 14: what the reference's row is behind codeFrame -/
def hm (j : Nat) : Nat := if j < 5 then 25 + j else if j = 5 then 51 else if j = 6 then 20000 else if j < 20 then 23 + j else if j < 31 then j - 14 else if j = 31 then 43 else if j < 37 then 12 + j else if j = 37 then 49 else if j < 40 then 20000 + j else if j < 48 then j - 23 else if j = 48 then 0 else if j = 49 then 2 else if j = 50 then 4 else if j = 51 then 1 else if j = 52 then 3 else 5
/-- the class's numbers, but LEVEL (6) and the mark of one given up (38) -/
def rNum (nb row : Nat → Int32) : Prop := ∀ j, j < 54 → j ≠ 6 → j ≠ 38 → j ≠ 39 → nb j = row (hm j)
theorem hm_lt : ∀ j, j < 54 → j ≠ 6 → j ≠ 38 → j ≠ 39 → hm j < 52 := by decide +kernel
theorem hm_inj : ∀ i, i < 54 → ∀ j, j < 54 → hm i = hm j → i = j := by decide +kernel
theorem rNum_u {nb row : Nat → Int32} {j : Nat} {v : Int32} (h : rNum nb row) (hj : j < 54) : rNum (upd nb j v) (upd row (hm j) v) := by
  intro i hi h6 h38 h39
  by_cases e : i = j
  · subst e; rw [pk_us, pk_us]
  · rw [pk_un e, pk_un (fun q => e (hm_inj i hi j hj q))]; exact h i hi h6 h38 h39
theorem rNum_f {nb nb' row row' : Nat → Int32} (h : rNum nb row) (hr : ∀ j, j < 52 → row' j = row j) (hn : ∀ j, j < 54 → j ≠ 6 → j ≠ 38 → nb' j = nb j) : rNum nb' row' := by
  intro i hi h6 h38 h39
  rw [hn i hi h6 h38, hr _ (hm_lt i hi h6 h38 h39)]; exact h i hi h6 h38 h39
/-- ranges of what tone() and sets() told -/
def okSet (row : Nat → Int32) : Prop := (∃ sd, sd < 1000000 ∧ row 6 = nI sd) ∧ (∃ P, 2 ≤ P ∧ P ≤ 128 ∧ row 7 = nI P) ∧ (∃ me, me ≤ 1 ∧ row 8 = nI me) ∧ (∃ pa, pa ≤ 1 ∧ row 9 = nI pa) ∧ (∃ d, 1 ≤ d ∧ d ≤ 16 ∧ row 10 = nI d) ∧ (-50 ≤ (row 12).toInt ∧ (row 12).toInt ≤ 50) ∧ (∃ p, 10 ≤ p ∧ p ≤ 80 ∧ row 14 = nI p) ∧ (∀ c, c < 2 → ∃ p, 2 ≤ p ∧ p ≤ 200 ∧ row c = nI p) ∧ (∀ c, c < 2 → ∃ m, m ≤ 500 ∧ row (4 + c) = nI m)
theorem okSet_f {row row' : Nat → Int32} (h : okSet row) (e : ∀ j, j < 17 → row' j = row j) : okSet row' := by
  unfold okSet at h ⊢
  rw [e 6 (by omega), e 7 (by omega), e 8 (by omega), e 9 (by omega), e 10 (by omega), e 12 (by omega), e 14 (by omega)]
  refine ⟨h.1, h.2.1, h.2.2.1, h.2.2.2.1, h.2.2.2.2.1, h.2.2.2.2.2.1, h.2.2.2.2.2.2.1, fun c hc => ?_, fun c hc => ?_⟩
  · rw [e c (by omega)]; exact h.2.2.2.2.2.2.2.1 c hc
  · rw [e (4 + c) (by omega)]; exact h.2.2.2.2.2.2.2.2 c hc
theorem okP {row : Nat → Int32} (h : okSet row) {c : Nat} (hc : c < 2) : ¬ row c = 0 := by
  obtain ⟨p, h2, h200, e⟩ := h.2.2.2.2.2.2.2.1 c hc
  rw [e]; exact nI_ne0 (by omega) (by omega)
theorem okM {row : Nat → Int32} (h : okSet row) {c : Nat} (hc : c < 2) : ¬ 2 * row (4 + c) + 1 = 0 := by
  obtain ⟨m, hm, e⟩ := h.2.2.2.2.2.2.2.2 c hc
  rw [e, lM, rA]; exact nI_ne0 (by omega) (by omega)
abbrev tN (x : Int32) : Nat := x.toNatClampNeg
/-- BANDS, TWINS, SCALES, BITS, CODE of FRAME k -/
abbrev fV (row : Nat → Int32) (k : Nat) : Nat → Nat → Int32 := VR row (tN (row 6)) k
abbrev fT (row : Nat → Int32) (k : Nat) : Nat → Nat → Int32 := tld (fV row k) (row 9)
abbrev fS (row : Nat → Int32) (k : Nat) : Nat → Nat := scl (fV row k) (row 9)
abbrev fB (row : Nat → Int32) (k : Nat) : Nat → Nat := bitsN (ndR row (fS row k) (row 8)) (tN (row 43))
abbrev fC (row : Nat → Int32) (k : Nat) : Nat → Int32 := cdF (nI (128 * tN (row 8) + 64 * tN (row 9) + k % 64)) (row 43) (tws (fV row k) (row 9) 7) (fS row k) (qI (fT row k) (fS row k) (fB row k)) (fB row k)
def isCC (k : Nat) (row r : Nat → Int32) : Prop := (∀ c, c < 2 → ∀ i, i < 14 → r (53 + 14 * c + i) = memS (mcR row c) (smR row (tN (row 6)) k c) 4 i) ∧ (∀ c, c < 16 → ∀ b, b < 4 → r (493 + (4 * c + b)) = fV row k c b) ∧ (∀ c, c < 16 → ∀ b, b < 4 → r (557 + (4 * c + b)) = fT row k c b) ∧ (∀ c, c < 16 → r (621 + c) = nI (fS row k c)) ∧ (∀ c, c < 16 → r (637 + c) = nI (fB row k c)) ∧ r 653 = tws (fV row k) (row 9) 7 ∧ r 654 = nI (cdZ (fB row k)) ∧ (∀ j, j < 80 → r (655 + j) = fC row k j) ∧ (∀ j, (j < 53 ∨ 81 ≤ j) → (j < 493 ∨ 735 ≤ j) → r j = row j)
def M_cc (k : Nat) (row : Nat → Int32) : Nat → Int32 := fun j => if j < 53 then row j else if j < 81 then memS (mcR row ((j - 53) / 14)) (smR row (tN (row 6)) k ((j - 53) / 14)) 4 ((j - 53) % 14) else if j < 493 then row j else if j < 557 then fV row k ((j - 493) / 4) ((j - 493) % 4) else if j < 621 then fT row k ((j - 557) / 4) ((j - 557) % 4) else if j < 637 then nI (fS row k (j - 621)) else if j < 653 then nI (fB row k (j - 637)) else if j = 653 then tws (fV row k) (row 9) 7 else if j = 654 then nI (cdZ (fB row k)) else if j < 735 then fC row k (j - 655) else row j
theorem M_cc_is (k : Nat) (row : Nat → Int32) : isCC k row (M_cc k row) := by
  unfold isCC
  refine ⟨fun c hc i hi => ?_, fun c hc b hb => ?_, fun c hc b hb => ?_, fun c hc => ?_, fun c hc => ?_, ?_, ?_, fun j hj => ?_, fun j h1 h2 => ?_⟩
  · unfold M_cc; rw [if_neg (by omega), if_pos (by omega), show (53 + 14 * c + i - 53) / 14 = c by omega, show (53 + 14 * c + i - 53) % 14 = i by omega]
  · unfold M_cc; rw [if_neg (by omega), if_neg (by omega), if_neg (by omega), if_pos (by omega), show (493 + (4 * c + b) - 493) / 4 = c by omega, show (493 + (4 * c + b) - 493) % 4 = b by omega]
  · unfold M_cc; rw [if_neg (by omega), if_neg (by omega), if_neg (by omega), if_neg (by omega), if_pos (by omega), show (557 + (4 * c + b) - 557) / 4 = c by omega, show (557 + (4 * c + b) - 557) % 4 = b by omega]
  · unfold M_cc; rw [if_neg (by omega), if_neg (by omega), if_neg (by omega), if_neg (by omega), if_neg (by omega), if_pos (by omega), show 621 + c - 621 = c by omega]
  · unfold M_cc; rw [if_neg (by omega), if_neg (by omega), if_neg (by omega), if_neg (by omega), if_neg (by omega), if_neg (by omega), if_pos (by omega), show 637 + c - 637 = c by omega]
  · unfold M_cc; rw [if_neg (by omega), if_neg (by omega), if_neg (by omega), if_neg (by omega), if_neg (by omega), if_neg (by omega), if_neg (by omega), if_pos rfl]
  · unfold M_cc; rw [if_neg (by omega), if_neg (by omega), if_neg (by omega), if_neg (by omega), if_neg (by omega), if_neg (by omega), if_neg (by omega), if_neg (by omega), if_pos rfl]
  · unfold M_cc; rw [if_neg (by omega), if_neg (by omega), if_neg (by omega), if_neg (by omega), if_neg (by omega), if_neg (by omega), if_neg (by omega), if_neg (by omega), if_neg (by omega), if_pos (by omega), show 655 + j - 655 = j by omega]
  · unfold M_cc
    by_cases a : j < 53
    · rw [if_pos a]
    · by_cases b : j < 493
      · rw [if_neg a, if_neg (by omega), if_pos b]
      · rw [if_neg a, if_neg (by omega), if_neg b, if_neg (by omega), if_neg (by omega), if_neg (by omega), if_neg (by omega), if_neg (by omega), if_neg (by omega), if_neg (by omega)]
theorem isCC_un {k : Nat} {row r r' : Nat → Int32} (h : isCC k row r) (h' : isCC k row r') : r = r' := by
  obtain ⟨a1, a2, a3, a4, a5, a6, a7, a8, a9⟩ := h
  obtain ⟨b1, b2, b3, b4, b5, b6, b7, b8, b9⟩ := h'
  funext j
  by_cases c1 : j < 53
  · rw [a9 j (by omega) (by omega), b9 j (by omega) (by omega)]
  by_cases c2 : j < 81
  · have e1 := a1 ((j - 53) / 14) (by omega) ((j - 53) % 14) (by omega)
    have e2 := b1 ((j - 53) / 14) (by omega) ((j - 53) % 14) (by omega)
    rw [show 53 + 14 * ((j - 53) / 14) + (j - 53) % 14 = j by omega] at e1 e2
    rw [e1, e2]
  by_cases c3 : j < 493
  · rw [a9 j (by omega) (by omega), b9 j (by omega) (by omega)]
  by_cases c4 : j < 557
  · have e1 := a2 ((j - 493) / 4) (by omega) ((j - 493) % 4) (by omega)
    have e2 := b2 ((j - 493) / 4) (by omega) ((j - 493) % 4) (by omega)
    rw [show 493 + (4 * ((j - 493) / 4) + (j - 493) % 4) = j by omega] at e1 e2
    rw [e1, e2]
  by_cases c5 : j < 621
  · have e1 := a3 ((j - 557) / 4) (by omega) ((j - 557) % 4) (by omega)
    have e2 := b3 ((j - 557) / 4) (by omega) ((j - 557) % 4) (by omega)
    rw [show 557 + (4 * ((j - 557) / 4) + (j - 557) % 4) = j by omega] at e1 e2
    rw [e1, e2]
  by_cases c6 : j < 637
  · have e1 := a4 (j - 621) (by omega)
    have e2 := b4 (j - 621) (by omega)
    rw [show 621 + (j - 621) = j by omega] at e1 e2
    rw [e1, e2]
  by_cases c7 : j < 653
  · have e1 := a5 (j - 637) (by omega)
    have e2 := b5 (j - 637) (by omega)
    rw [show 637 + (j - 637) = j by omega] at e1 e2
    rw [e1, e2]
  by_cases c8 : j = 653
  · rw [c8, a6, b6]
  by_cases c9 : j = 654
  · rw [c9, a7, b7]
  by_cases c10 : j < 735
  · have e1 := a8 (j - 655) (by omega)
    have e2 := b8 (j - 655) (by omega)
    rw [show 655 + (j - 655) = j by omega] at e1 e2
    rw [e1, e2]
  · rw [a9 j (by omega) (by omega), b9 j (by omega) (by omega)]
theorem tws_lt (V : Nat → Nat → Int32) (p : Int32) : ∀ n, n ≤ 8 → ∃ t, t < 2 ^ n ∧ tws V p n = nI t
  | 0, _ => ⟨0, by decide, rfl⟩
  | n + 1, h => by
    obtain ⟨t, ht, e⟩ := tws_lt V p n (by omega)
    have hp : 2 ^ n < 2 ^ (n + 1) := Nat.pow_lt_pow_right (by decide) (by omega)
    rw [tws]
    by_cases q : isTw V p n
    · rw [if_pos q, e, show (1 : Int32) = nI 1 from rfl, (shb n (by omega)).2, fa_or]
      exact ⟨t ||| 2 ^ n, Nat.or_lt_two_pow (by omega) hp, rfl⟩
    · rw [if_neg q]; exact ⟨t, by omega, e⟩
theorem ndR_c {row row' : Nat → Int32} {sc : Nat → Nat} {me : Int32} (h : ∀ j, j < 53 → row' j = row j) : ndR row' sc me = ndR row sc me := by
  funext i; unfold ndR; rw [h _ (by omega)]
set_option maxHeartbeats 4000000 in
set_option maxRecDepth 100000 in
theorem t12_cc {k : Nat} {S D bit : Int32} {row eight rows bytes scales dealt : Nat → Int32} {post : Int32 → Int32 → (Nat → Int32) → (Nat → Int32) → Int32 → (Nat → Int32) → (Nat → Int32) → (Nat → Int32) → (Nat → Int32) → Prop} (hk : k < 3000) (hok : okSet row) (h43 : ∃ P, P ≤ 128 ∧ row 43 = nI P)
    (h : ∀ (S' D' bit' : Int32) (eight' rows' bytes' scales' dealt' : Nat → Int32), post S' D' eight' rows' bit' bytes' (M_cc k row) scales' dealt') :
    wp_X12_splitFrame (nI k) S D row eight rows (fun x1 x2 f3 f4 f5 => wp_X12_layCoded f3 (fun f6 => wp_X12_layCode (nI k) bit bytes f6 scales dealt (fun x7 f8 f9 f10 f11 => post x1 x2 f4 f5 x7 f8 f9 f10 f11))) := by
  obtain ⟨sd, hsd, e6⟩ := hok.1
  obtain ⟨me, hme, e8⟩ := hok.2.2.1
  obtain ⟨pa, hpa, e9⟩ := hok.2.2.2.1
  obtain ⟨P, hP, e43⟩ := h43
  have n6 : tN (row 6) = sd := by rw [e6]; exact nI_clamp (by omega)
  have n8 : tN (row 8) = me := by rw [e8]; exact nI_clamp (by omega)
  have n9 : tN (row 9) = pa := by rw [e9]; exact nI_clamp (by omega)
  have n43 : tN (row 43) = P := by rw [e43]; exact nI_clamp (by omega)
  refine t12_splitFrame hk hsd (fun c hc => okP hok hc) (fun c hc => okM hok hc) e6 (fun x1 x2 f4 f5 f3 a1 a2 a3 => ?_)
  refine t12_layCoded a2 (fun f6 b1 b2 b3 b4 => ?_)
  have lo : ∀ j, j < 53 → f6 j = row j := fun j hj => by rw [b4 j (by omega) (by omega)]; exact a3 j (by omega) (by omega)
  have r9 : f3 9 = row 9 := a3 9 (by omega) (by omega)
  rw [r9] at b1 b2 b3
  obtain ⟨t, ht, et⟩ := tws_lt (VR row sd k) (row 9) 7 (by omega)
  refine t12_layCode (me := me) (pa := pa) (P := P) (t := t) (sc := scl (VR row sd k) (row 9)) (T := tld (VR row sd k) (row 9)) (by omega) hpa hme hP (by omega) (by rw [lo 8 (by omega)]; exact e8) (by rw [lo 9 (by omega)]; exact e9) (by rw [lo 43 (by omega)]; exact e43) (by rw [b3]; exact et) b2 (fun i hi => sclN_le _) b1 (fun x7 f8 f9 f10 f11 c1 c2 c3 c4 => ?_)
  rw [ndR_c lo] at c1 c2 c3
  have key : isCC k row f9 := by
    unfold isCC fC fB fS fT fV
    rw [n6, n8, n9, n43, e43, e8, et]
    refine ⟨fun c hc i hi => ?_, fun c hc b hb => ?_, fun c hc b hb => ?_, fun c hc => ?_, c1, ?_, c2, c3, fun j h1 h2 => ?_⟩
    · rw [c4 _ (by omega), b4 _ (by omega) (by omega)]; exact a1 c hc i hi
    · rw [c4 _ (by omega), b4 _ (by omega) (by omega)]; exact a2 c hc b hb
    · rw [c4 _ (by omega)]; exact b1 c hc b hb
    · rw [c4 _ (by omega)]; exact b2 c hc
    · rw [c4 _ (by omega), b3, et]
    · rw [c4 _ (by omega), b4 _ (by omega) (by omega)]; exact a3 j (by omega) (by omega)
  rw [isCC_un key (M_cc_is k row)]
  exact h _ _ _ _ _ _ _ _
