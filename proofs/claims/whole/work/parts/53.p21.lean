/-! pure part 21: the reference sends -/
def drS (s : Nat) : Nat := (1103 * s + 12345) % 1000003
theorem drS_lt (s : Nat) : drS s < 1000003 := Nat.mod_lt _ (by omega)
def M_draw (r : Nat → Int32) : Nat → Int32 := upd r 49 (nI (drS (tN (r 49))))
abbrev drV (r : Nat → Int32) : Nat := drS (tN (r 49)) / 16
theorem t12_draw {s : Nat} {r : Nat → Int32} {post : Int32 → (Nat → Int32) → Prop} (e : r 49 = nI s) (hs : s < 1000003) (h : post (nI (drV r)) (M_draw r)) : wp_X12_draw r post := by
  have ts : tN (r 49) = s := by rw [e]; exact nI_clamp (by omega)
  have hlt := drS_lt s
  have e2 : (lrem ((((r 49).toInt64) * (1103 : Int64)) + (12345 : Int64)) (1000003 : Int64)).toInt32 = nI (drS s) := by
    rw [e, nI_l (by omega), fa_litL 1103, fa_litL 12345, fa_litL 1000003, lN_mul, lN_add]
    show (lN (s * 1103 + 12345) - lN (s * 1103 + 12345) / lN 1000003 * lN 1000003).toInt32 = _
    rw [pk_lRem (by omega) (by omega) (by omega), lN_i, show s * 1103 = 1103 * s by omega]; rfl
  unfold wp_X12_draw
  rintro _ rfl _ rfl _ rfl
  rw [e2, pk_us, rD (by omega) (by omega) (by omega)]
  unfold M_draw drV at h
  rw [ts] at h; exact h
theorem t8_draw {s : Nat} {nb : Nat → Int32} {post : Int32 → (Nat → Int32) → Prop} (e : nb 37 = nI s) (hs : s < 1000003) (h : post (nI (drS s / 16)) (upd nb 37 (nI (drS s)))) : wp_X8_draw nb post := by
  have hlt := drS_lt s
  unfold wp_X8_draw
  rw [e, lM, rA, rR (by omega) (by omega) (by omega)]
  rintro _ rfl _ rfl _ rfl
  rw [pk_us]
  have e2 : nI ((1103 * s + 12345) % 1000003) / 16 = nI (drS s / 16) := by
    rw [rD (by have : (1103 * s + 12345) % 1000003 < 1000003 := Nat.mod_lt _ (by omega); omega) (by omega) (by omega)]; rfl
  rw [e2]; exact h
def lev (r : Nat → Int32) : Nat := fb_ct (fun s => decide (¬ r (2095 + 83 * s) ≤ r 30)) 14
theorem t12_level {r : Nat → Int32} {post : Int32 → Prop} (h : post (nI (lev r))) : wp_X12_level r post := by
  unfold wp_X12_level
  rintro _ rfl _ rfl
  refine cinv1 0 14 (fun k c => c = nI (fb_ct (fun s => decide (¬ r (2095 + 83 * s) ≤ r 30)) k)) rfl ?_ ?_
  · rintro k _ - hk rfl g hg
    simp (disch := omega) only [lA, lM, rA, nI_clamp, vpT, true_and, forall_eq]
    intro k11 hk11
    refine ⟨fun q => hk11 _ (hg _ ?_), fun q => hk11 _ (hg _ ?_)⟩
    · rw [fb_ct_succ, decide_eq_false (fun z => z q), rA]; rfl
    · rw [fb_ct_succ, decide_eq_true q, nI_1]; rfl
  · rintro _ rfl; exact h
abbrev dmA (fr mn : Nat) (r : Nat → Int32) : Nat := 819 + fr + drV r % (8 * mn) / 8
def M_dam2 (fr mn : Nat) (r : Nat → Int32) : Nat → Int32 := upd (M_draw r) (dmA fr mn r) (r (dmA fr mn r) ^^^ (1 <<< (nI (7 - drV r % (8 * mn) % 8) &&& 31)))
def M_dam (fr mn : Nat) (r : Nat → Int32) : Nat → Int32 := if r 16 = 0 then r else if nI (drV r % 1000) < r 16 then M_dam2 fr mn (upd (M_draw r) 45 (r 45 + 1)) else M_draw r
theorem t12_damages {fr mn s : Nat} {r : Nat → Int32} {post : (Nat → Int32) → Prop} (e : r 49 = nI s) (hs : s < 1000003) (h0 : 0 < mn) (hmn : fr + mn ≤ 80) (h : post (M_dam fr mn r)) : wp_X12_damages (nI 735) (nI fr) (nI mn) r post := by
  have hlt := drS_lt s
  have ts : tN (r 49) = s := by rw [e]; exact nI_clamp (by omega)
  unfold wp_X12_damages
  unfold M_dam at h
  refine ⟨fun q => ?_, fun q => ?_⟩
  · rw [if_pos q] at h; exact h
  · rw [if_neg q] at h
    refine t12_draw e hs ?_
    have hdv : drV r < 62501 := by unfold drV; rw [ts]; omega
    have e16 : M_draw r 16 = r 16 := pk_un (by omega)
    rw [e16, rR (by omega) (by omega) (by omega)]
    rintro _ rfl
    refine ⟨fun z => ?_, fun z => ?_⟩
    · rw [if_pos z] at h
      have e45 : M_draw r 45 = r 45 := pk_un (by omega)
      rw [e45]
      rintro _ rfl
      have e49 : upd (M_draw r) 45 (r 45 + 1) 49 = nI (drS s) := by rw [pk_un (by omega)]; unfold M_draw; rw [pk_us, ts]
      generalize hr2 : upd (M_draw r) 45 (r 45 + 1) = r2 at h e49 ⊢
      refine t12_draw e49 hlt ?_
      have hlt2 := drS_lt (drS s)
      have ts2 : tN (r2 49) = drS s := by rw [e49]; exact nI_clamp (by omega)
      have hdv2 : drV r2 < 62501 := by unfold drV; rw [ts2]; omega
      refine ⟨by rw [lM]; exact nI_ne0 (by omega) (by omega), ?_⟩
      have er : jrem (nI (drV r2)) (8 * nI mn) = nI (drV r2 % (8 * mn)) := by rw [lM]; exact pk_rem (by omega) (by omega) (by omega)
      have hat : drV r2 % (8 * mn) < 8 * mn := Nat.mod_lt _ (by omega)
      have e84 : ∀ j, j ≠ 49 → M_draw r2 j = r2 j := fun j hj => pk_un hj
      rw [er]
      simp (disch := omega) only [rA, nI_add, rD, rR, lS, nI_clamp, vpT, true_and, forall_eq]
      rw [e84 _ (by omega), show 735 + 84 = 819 from rfl]
      exact h
    · rw [if_neg z] at h; exact h
/-- where what has come is laid -/
def stS (r : Nat → Int32) : Nat := fa_first (fun s => decide (r (2095 + 83 * s) ≤ r 30)) 14
def M_stA (S k : Nat) (z : Int32) (by_ r : Nat → Int32) : Nat → Int32 := fun j => if j = 2095 + 83 * S then nI (k + 1) else if j = 2095 + 83 * S + 1 then z else if 2095 + 83 * S + 2 ≤ j ∧ j < 2095 + 83 * S + 82 then by_ (j - (2095 + 83 * S + 2)) else r j
def M_store (k : Nat) (z : Int32) (by_ r : Nat → Int32) : Nat → Int32 := M_stA (stS r) k z by_ r
theorem stS_lt {r : Nat → Int32} (h : lev r < 14) : stS r < 14 := by
  rcases Nat.lt_or_ge (stS r) 14 with q | q
  · exact q
  · exfalso
    have h1 := fa_first_no (fun s => decide (r (2095 + 83 * s) ≤ r 30)) 14
    have h2 : lev r = 14 := by
      unfold lev
      rw [fb_ct_all]
      intro k hk
      have h3 := h1 k (by unfold stS at q; omega)
      exact decide_eq_true (of_decide_eq_false h3)
    omega
theorem stS_sp {r : Nat → Int32} (h : lev r < 14) : ∃ S, stS r = S ∧ S < 14 ∧ r (2095 + 83 * S) ≤ r 30 ∧ ∀ s, s < S → ¬ r (2095 + 83 * s) ≤ r 30 := by
  have hs := stS_lt h
  have f1 := fa_first_no (fun s => decide (r (2095 + 83 * s) ≤ r 30)) 14
  have f2 := fa_first_yes (fun s => decide (r (2095 + 83 * s) ≤ r 30)) 14
  unfold stS at hs ⊢
  exact ⟨_, rfl, hs, of_decide_eq_true (f2 hs), fun s hss => of_decide_eq_false (f1 s hss)⟩
theorem t12_stAt {S k : Nat} {z : Int32} {r bytes : Nat → Int32} {post : (Nat → Int32) → Prop} (hk : k < 100000) (hs : S < 14) (f2 : r (2095 + 83 * S) ≤ r 30) (f1 : ∀ s, s < S → ¬ r (2095 + 83 * s) ≤ r 30) (h : post (M_stA S k z bytes r)) : wp_X12_stores (nI k) z r bytes post := by
  unfold wp_X12_stores
  rintro _ rfl
  refine Lz1_by (fun x => ∃ s, s ≤ S ∧ x = nI s) (fun x => 14 - x.toNatClampNeg) _ ⟨0, Nat.zero_le _, rfl⟩ ?_
  rintro x ⟨s, hss, rfl⟩ again hag
  simp (disch := omega) only [lA, lM, rA, nI_clamp, vpT, true_and, forall_eq]
  refine ⟨fun q => ?_, fun q => ?_⟩
  · have es : s = S := by
      rcases Nat.lt_or_ge s S with y | y
      · exact absurd q (f1 s y)
      · omega
    rw [es]
    refine cinv1 0 80 (fun n f => ∀ j, f j = if j = 2095 + 83 * S then nI (k + 1) else if j = 2095 + 83 * S + 1 then z else if 2095 + 83 * S + 2 ≤ j ∧ j < 2095 + 83 * S + 2 + n then bytes (j - (2095 + 83 * S + 2)) else r j) (fun j => ?_) ?_ ?_
    · by_cases a : j = 2095 + 83 * S + 1
      · rw [if_neg (by omega), if_pos a, a, pk_us]
      · rw [pk_un a]
        by_cases b : j = 2095 + 83 * S
        · rw [if_pos b, b, pk_us]
        · rw [pk_un b, if_neg b, if_neg a, if_neg (by omega)]
    · intro n f _ hn hI g hg
      simp (disch := omega) only [rA, nI_add, nI_clamp, vpT, true_and, forall_eq]
      refine hg _ (fun j => ?_)
      by_cases a : j = 2095 + 83 * S + 2 + n
      · rw [a, pk_us, if_neg (by omega), if_neg (by omega), if_pos (by omega), show 2095 + 83 * S + 2 + n - (2095 + 83 * S + 2) = n by omega]
      · rw [pk_un a, hI j]
        by_cases b : j = 2095 + 83 * S
        · rw [if_pos b, if_pos b]
        · rw [if_neg b, if_neg b]
          by_cases c : j = 2095 + 83 * S + 1
          · rw [if_pos c, if_pos c]
          · rw [if_neg c, if_neg c]
            by_cases d : 2095 + 83 * S + 2 ≤ j ∧ j < 2095 + 83 * S + 2 + n
            · rw [if_pos d, if_pos (by omega)]
            · rw [if_neg d, if_neg (by omega)]
    · intro f hI
      have ef : f = M_stA S k z bytes r := by
        funext j; rw [hI j]; unfold M_stA; rw [show 2095 + 83 * S + 2 + 80 = 2095 + 83 * S + 82 by omega]
      rw [ef]; exact h
  · have es : s ≠ S := fun y => q (by rw [y]; exact f2)
    have hlt : s < 14 := by omega
    refine hag (nI (s + 1)) ⟨s + 1, by omega, rfl⟩ ?_
    show 14 - (nI (s + 1)).toNatClampNeg < 14 - (nI s).toNatClampNeg
    rw [nI_clamp (show s + 1 < 2 ^ 31 by omega), nI_clamp (show s < 2 ^ 31 by omega)]
    omega
theorem t12_stores {k : Nat} {z : Int32} {r bytes : Nat → Int32} {post : (Nat → Int32) → Prop} (hk : k < 100000) (hl : lev r < 14) (h : post (M_store k z bytes r)) : wp_X12_stores (nI k) z r bytes post := by
  obtain ⟨S, hS, h1, h2, h3⟩ := stS_sp hl
  unfold M_store at h
  rw [hS] at h
  exact t12_stAt hk h1 h2 h3 h
def cv (r : Nat → Int32) : Nat → Int32 := fun j => r (819 + j)
abbrev okC (r : Nat → Int32) : Prop := cv r 0 = 156 ∧ cv r 3 = chk (cv r) (tN (r 736))
def M_brk (r : Nat → Int32) : Nat → Int32 := fun j => if 819 ≤ j ∧ j < 899 then r (j - 80) else if j = 738 then 0 else if j = 46 then r 46 + 1 else r j
def M_arr (k : Nat) (r : Nat → Int32) : Nat → Int32 := upd (upd (upd (upd r (3385 + 4 * k) 2) (3385 + 4 * k + 3) (r 25)) 28 (r 28 + 1)) (3369 + min (tN (r 25) - 4 * k) 15) (r (3369 + min (tN (r 25) - 4 * k) 15) + 1)
def M_looks (r : Nat → Int32) : Nat → Int32 := if okC r then (if tN (r 30) ≤ tN (r 735) then (if lev r = 12 then M_drop (M_give (tN (r 735)) r) else M_drop (M_store (tN (r 735)) (r 736) (cv r) (M_arr (tN (r 735)) r))) else M_drop (M_arr (tN (r 735)) r)) else M_brk r
theorem lev_c {r r' : Nat → Int32} (h : ∀ j, 2095 ≤ j → j < 3257 → r' j = r j) (h30 : r' 30 = r 30) : lev r' = lev r := by
  unfold lev
  exact fb_ct_cong (fun s hs => by rw [h _ (by omega) (by omega), h30])
theorem st_c {r b b' : Nat → Int32} {k : Nat} {z : Int32} (h : ∀ j, j < 80 → b j = b' j) : M_store k z b r = M_store k z b' r := by
  unfold M_store
  generalize stS r = S
  funext j; unfold M_stA
  by_cases a : j = 2095 + 83 * S
  · rw [if_pos a, if_pos a]
  · rw [if_neg a, if_neg a]
    by_cases c : j = 2095 + 83 * S + 1
    · rw [if_pos c, if_pos c]
    · rw [if_neg c, if_neg c]
      by_cases d : 2095 + 83 * S + 2 ≤ j ∧ j < 2095 + 83 * S + 82
      · rw [if_pos d, if_pos d, h _ (by omega)]
      · rw [if_neg d, if_neg d]
