/-! pure part 69: how large BANDS can be; worst -/
def bnd (S : Int) (v : Int32) : Prop := -S ≤ v.toInt ∧ v.toInt ≤ S
theorem bnd_up {S T : Int} {v : Int32} (h : bnd S v) (hST : S ≤ T) : bnd T v := by
  obtain ⟨h1, h2⟩ := h
  exact ⟨by omega, by omega⟩
theorem bnd_0 {S : Int} (h : 0 ≤ S) : bnd S 0 := by
  have e : (0 : Int32).toInt = 0 := by decide
  exact ⟨by rw [e]; omega, by rw [e]; omega⟩
theorem pA_b {S : Int} {A : Int32} {x : Nat → Int32} {k : Nat} (hA : bnd S A) (hx : ∀ j, j < 2 * k → bnd S (x j)) : bnd S (pA A x k) := by
  unfold pA
  by_cases q : k = 0
  · rw [if_pos q]; exact hA
  · rw [if_neg q]; exact hx _ (by omega)
theorem sh1_b {S : Int} {a b : Int32} (h0 : 0 ≤ S) (hS : S ≤ 1000000) (ha : bnd S a) (hb : bnd S b) : bnd S ((a + b) >>> ((1 : Int32) &&& 31)) := by
  obtain ⟨a1, a2⟩ := ha
  obtain ⟨b1, b2⟩ := hb
  unfold bnd
  rw [pk_shr _ _ 1 (by decide), Int.shiftRight_eq_div_pow, fb_addI (by omega) (by omega)]
  exact ⟨by omega, by omega⟩
theorem pD_b {S T : Int} {A : Int32} {x : Nat → Int32} {k : Nat} (hT : T = 2 * S) (h0 : 0 ≤ S) (hS : S ≤ 1000000) (hA : bnd S A) (hx : ∀ j, j < 2 * k + 2 → bnd S (x j)) : bnd T (pD A x k) := by
  have h1 := sh1_b h0 hS (pA_b (k := k) hA (fun j hj => hx j (by omega))) (hx (2 * k + 1) (by omega))
  have h2 := hx (2 * k) (by omega)
  unfold pD
  obtain ⟨a1, a2⟩ := h1
  obtain ⟨b1, b2⟩ := h2
  unfold bnd
  rw [fb_subI (by omega) (by omega)]
  exact ⟨by omega, by omega⟩
theorem pB_b {S T : Int} {A B : Int32} {x : Nat → Int32} {k : Nat} (hT : T = 2 * S) (h0 : 0 ≤ S) (hS : S ≤ 1000000) (hA : bnd S A) (hB : bnd T B) (hx : ∀ j, j < 2 * k → bnd S (x j)) : bnd T (pB A B x k) := by
  unfold pB
  by_cases q : k = 0
  · rw [if_pos q]; exact hB
  · rw [if_neg q]; exact pD_b hT h0 hS hA (fun j hj => hx j (by omega))
theorem pS_b {S T : Int} {A B : Int32} {x : Nat → Int32} {k : Nat} (hT : T = 2 * S) (h0 : 0 ≤ S) (hS : S ≤ 1000000) (hA : bnd S A) (hB : bnd T B) (hx : ∀ j, j < 2 * k + 2 → bnd S (x j)) : bnd T (pS A B x k) := by
  obtain ⟨a1, a2⟩ := pB_b (k := k) hT h0 hS hA hB (fun j hj => hx j (by omega))
  obtain ⟨b1, b2⟩ := pD_b hT h0 hS hA hx
  obtain ⟨c1, c2⟩ := hx (2 * k + 1) (by omega)
  unfold pS bnd
  have e : ((pB A B x k + pD A x k) >>> ((2 : Int32) &&& 31)).toInt = ((pB A B x k).toInt + (pD A x k).toInt) / 4 := by
    rw [pk_shr _ _ 2 (by decide), Int.shiftRight_eq_div_pow, fb_addI (by omega) (by omega)]; rfl
  rw [fb_addI (by rw [e]; omega) (by rw [e]; omega), e]
  exact ⟨by omega, by omega⟩
def MB (m : Nat → Int32) : Prop := bnd 2048 (m 0) ∧ bnd 4096 (m 1) ∧ bnd 4096 (m 2) ∧ bnd 8192 (m 3) ∧ bnd 4096 (m 4) ∧ bnd 8192 (m 5) ∧ ∀ i, i < 4 → bnd 8192 (m (6 + 2 * i)) ∧ bnd 16384 (m (7 + 2 * i))
theorem MB_c {m m' : Nat → Int32} (h : MB m) (e : ∀ i, i < 14 → m' i = m i) : MB m' := by
  obtain ⟨h0, h1, h2, h3, h4, h5, h6⟩ := h
  refine ⟨by rw [e _ (by omega)]; exact h0, by rw [e _ (by omega)]; exact h1, by rw [e _ (by omega)]; exact h2, by rw [e _ (by omega)]; exact h3, by rw [e _ (by omega)]; exact h4, by rw [e _ (by omega)]; exact h5, fun i hi => ⟨by rw [e _ (by omega)]; exact (h6 i hi).1, by rw [e _ (by omega)]; exact (h6 i hi).2⟩⟩
set_option maxHeartbeats 800000 in
set_option maxRecDepth 100000 in
theorem sp_b {m x : Nat → Int32} (hm : MB m) (hx : ∀ j, j < 8 → bnd 2048 (x j)) : (∀ j, j < 8 → bnd 16384 (sp3 m x j)) ∧ MB (spM m x) := by
  obtain ⟨h0, h1, h2, h3, h4, h5, h6⟩ := hm
  have g1 : ∀ j, j < 8 → bnd 4096 (sp1 m x j) := fun j hj => by
    unfold sp1
    by_cases q : j < 4
    · rw [if_pos q]; exact pS_b (S := 2048) (by omega) (by omega) (by omega) h0 h1 (fun i hi => hx i (by omega))
    · rw [if_neg q]; exact pD_b (S := 2048) (by omega) (by omega) (by omega) h0 (fun i hi => hx i (by omega))
  have g2 : ∀ j, j < 8 → bnd 8192 (sp2 m x j) := fun j hj => by
    unfold sp2
    by_cases q : j < 4
    · rw [if_pos q]
      by_cases q2 : j < 2
      · rw [if_pos q2]; exact pS_b (S := 4096) (by omega) (by omega) (by omega) h2 h3 (fun i hi => g1 i (by omega))
      · rw [if_neg q2]; exact pD_b (S := 4096) (by omega) (by omega) (by omega) h2 (fun i hi => g1 i (by omega))
    · rw [if_neg q]
      by_cases q2 : j < 6
      · rw [if_pos q2]; exact pS_b (S := 4096) (by omega) (by omega) (by omega) h4 h5 (fun i hi => g1 (4 + i) (by omega))
      · rw [if_neg q2]; exact pD_b (S := 4096) (by omega) (by omega) (by omega) h4 (fun i hi => g1 (4 + i) (by omega))
  refine ⟨fun j hj => ?_, ?_, ?_, ?_, ?_, ?_, ?_, fun i hi => ⟨?_, ?_⟩⟩
  · unfold sp3
    obtain ⟨k1, k2⟩ := h6 (j / 2) (by omega)
    by_cases q : j % 2 = 0
    · rw [if_pos q]; exact pS_b (S := 8192) (by omega) (by omega) (by omega) k1 k2 (fun i hi => g2 (2 * (j / 2) + i) (by omega))
    · rw [if_neg q]; exact pD_b (S := 8192) (by omega) (by omega) (by omega) k1 (fun i hi => g2 (2 * (j / 2) + i) (by omega))
  · show bnd 2048 (pA (m 0) x 4)
    exact pA_b (k := 4) h0 (fun i hi => hx i (by omega))
  · show bnd 4096 (pB (m 0) (m 1) x 4)
    exact pB_b (k := 4) (S := 2048) (by omega) (by omega) (by omega) h0 h1 (fun i hi => hx i (by omega))
  · show bnd 4096 (pA (m 2) (sp1 m x) 2)
    exact pA_b (k := 2) h2 (fun i hi => g1 i (by omega))
  · show bnd 8192 (pB (m 2) (m 3) (sp1 m x) 2)
    exact pB_b (k := 2) (S := 4096) (by omega) (by omega) (by omega) h2 h3 (fun i hi => g1 i (by omega))
  · show bnd 4096 (pA (m 4) (fun t => sp1 m x (4 + t)) 2)
    exact pA_b (k := 2) h4 (fun i hi => g1 (4 + i) (by omega))
  · show bnd 8192 (pB (m 4) (m 5) (fun t => sp1 m x (4 + t)) 2)
    exact pB_b (k := 2) (S := 4096) (by omega) (by omega) (by omega) h4 h5 (fun i hi => g1 (4 + i) (by omega))
  · rw [spM_hi (by omega), if_pos (by omega)]
    exact pA_b (k := 1) (h6 i hi).1 (fun t ht => g2 (6 + 2 * i - 6 + t) (by omega))
  · rw [spM_hi (by omega), if_neg (by omega), show 7 + 2 * i - 1 = 6 + 2 * i by omega]
    exact pB_b (k := 1) (S := 8192) (by omega) (by omega) (by omega) (h6 i hi).1 (h6 i hi).2 (fun t ht => g2 (7 + 2 * i - 7 + t) (by omega))
theorem memS_b {m s : Nat → Int32} (hm : MB m) (hs : ∀ j, j < 32 → bnd 2048 (s j)) : ∀ k, k ≤ 4 → MB (memS m s k)
  | 0, _ => hm
  | k + 1, h => (sp_b (memS_b hm hs k (by omega)) (fun j hj => hs _ (by omega))).2
theorem bandS_b {m s : Nat → Int32} {k j : Nat} (hm : MB m) (hs : ∀ j, j < 32 → bnd 2048 (s j)) (hk : k < 4) (hj : j < 8) : bnd 16384 (bandS m s k j) :=
  (sp_b (memS_b hm hs k (by omega)) (fun j hj => hs _ (by omega))).1 j hj
theorem smR_b {row : Nat → Int32} {sd k c : Nat} (j : Nat) : bnd 2048 (smR row sd k c j) := by
  have h := near_r (smpB (row (4 + c)) (smpA (row c) (row (2 + c)) (32 * k + j)) sd c (32 * k + j))
  exact ⟨h.1, Int.le_trans h.2 (by omega)⟩
theorem tld_b {V : Nat → Nat → Int32} {p : Int32} {c k : Nat} (hV : ∀ c, c < 16 → bnd 16384 (V c k)) (hc : c < 16) : bnd 65536 (tld V p c k) := by
  unfold tld
  by_cases q : isTw V p (c % 8)
  · rw [if_pos q]
    by_cases q2 : c < 8
    · rw [if_pos q2]; exact bnd_up (sh1_b (S := 16384) (by omega) (by omega) (hV c hc) (hV (8 + c) (by omega))) (by omega)
    · rw [if_neg q2]
      obtain ⟨a1, a2⟩ := hV (c - 8) (by omega)
      obtain ⟨b1, b2⟩ := hV c hc
      unfold bnd
      rw [fb_subI (by omega) (by omega)]
      exact ⟨by omega, by omega⟩
  · rw [if_neg q]; exact bnd_up (hV c hc) (by omega)
/-- the coder's MEMORIES, and the BANDS as they are to be coded -/
def BND (cd : Nat) (row : Nat → Int32) : Prop := (∀ c, c < 2 → MB (mcR row c)) ∧ (0 < cd → ∀ c, c < 16 → ∀ b, b < 4 → bnd 65536 (row (557 + (4 * c + b))))
theorem BND_f {cd : Nat} {row row' : Nat → Int32} (h : BND cd row) (e : ∀ j, ((53 ≤ j ∧ j < 81) ∨ (557 ≤ j ∧ j < 621)) → row' j = row j) : BND cd row' := by
  refine ⟨fun c hc => MB_c (h.1 c hc) (fun i hi => e _ (by omega)), fun q c hc b hb => ?_⟩
  rw [e _ (by omega)]; exact h.2 q c hc b hb
theorem BND_cc {cd k : Nat} {row : Nat → Int32} (h : BND cd row) : BND 1 (M_cc k row) := by
  have hc := M_cc_is k row
  refine ⟨fun c hcc => MB_c (memS_b (h.1 c hcc) (fun j _ => smR_b j) 4 (by omega)) (fun i hi => hc.1 c hcc i hi), fun _ c hcc b hb => ?_⟩
  rw [hc.2.2.1 c hcc b hb]
  exact tld_b (fun c' hc' => bandS_b (h.1 (c' / 8) (by omega)) (fun j _ => smR_b j) hb (by omega)) hcc
theorem BND_slot {t : Nat} {row : Nat → Int32} (hok : okS t row) (h : BND ((t + 3) / 4) row) : BND ((t + 1 + 3) / 4) (M_slot row) := by
  have e25 : row 25 = nI t := hok.r.t25
  have ht := hok.r.ht
  obtain ⟨ln, hl, e51⟩ := hok.r.l51
  have k25 : tN (row 25) = t := by rw [e25]; exact nI_clamp (by omega)
  have so := (snd_o hok).1
  have o : ∀ j, ((53 ≤ j ∧ j < 81) ∨ (557 ≤ j ∧ j < 621)) → M_slot row j = M_cod row j := fun j hj => by
    show M_end _ j = _
    unfold M_end
    rw [pk_un (by omega), due_o (by omega), tk_o (by omega), so j (by omega)]
  have hc : BND ((t + 1 + 3) / 4) (M_cod row) := by
    unfold M_cod
    rw [k25]
    by_cases q : t % 4 = 0
    · rw [if_pos q]
      have h1 := BND_cc (k := t / 4) h
      have e : ∀ j, ((53 ≤ j ∧ j < 81) ∨ (557 ≤ j ∧ j < 621)) → M_cf (t / 4) row j = M_cc (t / 4) row j := fun j hj => by
        have e1 : M_enq (t / 4) (M_cc (t / 4) row) j = M_cc (t / 4) row j := M_enq_o (ln := ln) (by rw [M_cc_o (by omega) (by omega)]; exact e51) (by omega) (by omega) (by omega) (by omega) (by omega) (by omega)
        unfold M_cf
        by_cases q2 : t / 4 % 8 = 7
        · rw [if_pos q2, steer_o (by omega) (by omega)]; exact e1
        · rw [if_neg q2]; exact e1
      obtain ⟨b1, b2⟩ := BND_f h1 e
      exact ⟨b1, fun _ => b2 (by omega)⟩
    · rw [if_neg q]
      exact ⟨h.1, fun _ => h.2 (by omega)⟩
  exact BND_f hc o
theorem BND_itr {t : Nat} {row : Nat → Int32} (h : BND ((t + 3) / 4) row) : ∀ n, (∀ j, j < n → okS (t + j) (itr j row)) → BND ((t + n + 3) / 4) (itr n row)
  | 0, _ => h
  | n + 1, hok => by
    have h1 := BND_slot (hok n (by omega)) (BND_itr h n (fun j hj => hok j (by omega)))
    exact h1
theorem BND_rw {t t' cd nx nx' ln ln' hd hd' bl bl' hb hb' : Nat} {nb rec dly : Nat → Int32} {pnum psent pover ppb : Nat → Int32} {wb : Nat → Nat → Int32} {wsz : Nat → Int32} {cb : Nat → Nat → Int32} {csz : Nat → Int32} {bnum : Nat → Int32} {bcb : Nat → Nat → Int32} {bcsz : Nat → Int32} {A0 B0 A1 B1 split told quants backs scales bits : Nat → Int32} {tw me sz : Int32} {bytes : Nat → Int32} {eA0 eB0 eA1 eB1 e0 e1 recs : Nat → Int32} {nb' rec' dly' pnum' psent' pover' ppb' : Nat → Int32} {wb' : Nat → Nat → Int32} {wsz' : Nat → Int32} {cb' : Nat → Nat → Int32} {csz' bnum' : Nat → Int32} {bcb' : Nat → Nat → Int32} {bcsz' split' quants' backs' scales' bits' : Nat → Int32} {tw' me' sz' : Int32} {bytes' eA0' eB0' eA1' eB1' e0' e1' recs' : Nat → Int32} {row row' : Nat → Int32} (h : RW t cd nx ln hd bl hb nb rec dly pnum psent pover ppb wb wsz cb csz bnum bcb bcsz A0 B0 A1 B1 split told quants backs scales bits tw me sz bytes eA0 eB0 eA1 eB1 e0 e1 recs row) (h' : RW t' cd nx' ln' hd' bl' hb' nb' rec' dly' pnum' psent' pover' ppb' wb' wsz' cb' csz' bnum' bcb' bcsz' A0 B0 A1 B1 split' told quants' backs' scales' bits' tw' me' sz' bytes' eA0' eB0' eA1' eB1' e0' e1' recs' row') (b : BND cd row) : BND cd row' := by
  refine ⟨fun c hc => ?_, fun q c hc k hk => ?_⟩
  · refine MB_c (b.1 c hc) (fun i hi => ?_)
    show row' (53 + 14 * c + i) = row (53 + 14 * c + i)
    have c0 := h.c0
    have c0' := h'.c0
    have c1 := h.c1
    have c1' := h'.c1
    have hcc : c = 0 ∨ c = 1 := by omega
    have hi2 : ∃ j, j < 7 ∧ (i = 2 * j ∨ i = 2 * j + 1) := ⟨i / 2, by omega, by omega⟩
    obtain ⟨j, hj, e⟩ := hi2
    rcases hcc with rfl | rfl
    · rcases e with rfl | rfl
      · exact (c0' j hj).1.symm.trans (c0 j hj).1
      · exact (c0' j hj).2.symm.trans (c0 j hj).2
    · rcases e with rfl | rfl
      · exact (c1' j hj).1.symm.trans (c1 j hj).1
      · exact (c1' j hj).2.symm.trans (c1 j hj).2
  · have e1 := (h.fr q).2.1 c hc k hk
    have e2 := (h'.fr q).2.1 c hc k hk
    rw [← e2, e1]; exact b.2 q c hc k hk
theorem BND_0 {row : Nat → Int32} (e : ∀ j, 53 ≤ j → j < 81 → row j = 0) : BND 0 row := by
  have z : ∀ (S : Int) j, 0 ≤ S → 53 ≤ j → j < 81 → bnd S (row j) := fun S j hS h1 h2 => by rw [e j h1 h2]; exact bnd_0 hS
  refine ⟨fun c hc => ⟨z _ _ (by omega) (by omega) (by omega), z _ _ (by omega) (by omega) (by omega), z _ _ (by omega) (by omega) (by omega), z _ _ (by omega) (by omega) (by omega), z _ _ (by omega) (by omega) (by omega), z _ _ (by omega) (by omega) (by omega), fun i hi => ⟨z _ _ (by omega) (by omega) (by omega), z _ _ (by omega) (by omega) (by omega)⟩⟩, fun q => absurd q (Nat.lt_irrefl _)⟩
/-! worst -/
theorem bk_b {v : Int32} {s b : Nat} (hs : s ≤ 15) (hb : b ≤ 16) : bnd 65536 (bk (qN v s b) s b) := by
  unfold bk
  by_cases q : b = 0
  · rw [if_pos q]; exact bnd_0 (by omega)
  · rw [if_neg q]
    have h1 : qN v s b ≤ 2 ^ b - 2 := by unfold qN; rw [if_neg q]; exact Nat.min_le_left _ _
    have hb2 : 2 ≤ 2 ^ b := by
      have := Nat.pow_le_pow_right (n := 2) (by omega) (show 1 ≤ b by omega)
      omega
    have hs2 : 2 ^ s ≤ 2 ^ 15 := Nat.pow_le_pow_right (by omega) hs
    have h2 : (2 * qN v s b + 1) * 2 ^ s / (2 ^ b - 1) ≤ 2 * 2 ^ s := by
      apply Nat.div_le_of_le_mul
      calc (2 * qN v s b + 1) * 2 ^ s ≤ (2 * (2 ^ b - 1)) * 2 ^ s := Nat.mul_le_mul_right _ (by omega)
        _ = (2 ^ b - 1) * (2 * 2 ^ s) := by rw [Nat.mul_comm 2 (2 ^ b - 1), Nat.mul_assoc]
    generalize (2 * qN v s b + 1) * 2 ^ s / (2 ^ b - 1) = X at h2
    generalize 2 ^ s = Y at h2 hs2
    unfold bnd
    rw [fb_subI (by rw [nI_toInt (by omega), nI_toInt (by omega)]; omega) (by rw [nI_toInt (by omega), nI_toInt (by omega)]; omega), nI_toInt (by omega), nI_toInt (by omega)]
    exact ⟨by omega, by omega⟩
theorem jabs_b {S : Int} {x : Int32} (hS : S ≤ 1000000) (h : bnd S x) : 0 ≤ (jabs x).toInt ∧ (jabs x).toInt ≤ S := by
  obtain ⟨h1, h2⟩ := h
  have e0 : (0 : Int32).toInt = 0 := by decide
  unfold jabs
  by_cases q : 0 ≤ x
  · rw [if_pos q]
    rw [fa_le, e0] at q
    exact ⟨q, h2⟩
  · rw [if_neg q]
    rw [fa_le, e0] at q
    rw [fb_subI (by rw [e0]; omega) (by rw [e0]; omega), e0]
    exact ⟨by omega, by omega⟩
theorem osm_b {f : Nat → Int32} {S : Int} (hS : S ≤ 1000000) (hf : ∀ k, k < 4 → 0 ≤ (f k).toInt ∧ (f k).toInt ≤ S) : ∀ n, n ≤ 4 → 0 ≤ (osm f n).toInt ∧ (osm f n).toInt ≤ S * n
  | 0, _ => by
    have e0 : (osm f 0).toInt = 0 := by rw [osm]; decide
    rw [e0]
    exact ⟨by omega, by simp⟩
  | n + 1, h => by
    obtain ⟨a1, a2⟩ := osm_b hS hf n (by omega)
    obtain ⟨b1, b2⟩ := hf n (by omega)
    have e : S * ((n + 1 : Nat) : Int) = S * n + S := by rw [Int.natCast_add, Int.mul_add]; simp
    have hb : S * (n : Int) ≤ 4000000 := by
      have : n = 0 ∨ n = 1 ∨ n = 2 ∨ n = 3 := by omega
      rcases this with rfl | rfl | rfl | rfl <;> simp <;> omega
    rw [osm, fb_addI (by omega) (by omega), e]
    exact ⟨by omega, by omega⟩
theorem cs1_b {T : Nat → Nat → Int32} {sc bt : Nat → Nat} {c : Nat} (hT : ∀ k, k < 4 → bnd 65536 (T c k)) (hs : sc c ≤ 15) (hb : bt c ≤ 16) : 0 ≤ (cs1 T sc bt c).toInt := by
  unfold cs1
  refine (osm_b (S := 131072) (by omega) (fun k hk => jabs_b (by omega) ?_) 4 (by omega)).1
  obtain ⟨a1, a2⟩ := hT k hk
  obtain ⟨b1, b2⟩ := bk_b (v := T c k) hs hb
  unfold bnd
  rw [fb_subI (by omega) (by omega)]
  exact ⟨by omega, by omega⟩
def wst (C : Nat → Int32) : Nat → Nat
  | 0 => 0
  | k + 1 => if C (k + 1) ≤ C (wst C k) then wst C k else k + 1
theorem wst_le (C : Nat → Int32) : ∀ k, wst C k ≤ k
  | 0 => Nat.le_refl _
  | k + 1 => by
    rw [wst]
    split
    · have := wst_le C k; omega
    · omega
set_option maxHeartbeats 800000 in
set_option maxRecDepth 100000 in
theorem t12_worst {t cd nx ln hd bl hb p : Nat} {v2 v3 th : Int32} {nb rec dly : Nat → Int32} {pnum psent pover ppb : Nat → Int32} {wb : Nat → Nat → Int32} {wsz : Nat → Int32} {cb : Nat → Nat → Int32} {csz : Nat → Int32} {bnum : Nat → Int32} {bcb : Nat → Nat → Int32} {bcsz : Nat → Int32} {A0 B0 A1 B1 split told quants backs scales bits : Nat → Int32} {tw me sz : Int32} {bytes : Nat → Int32} {eA0 eB0 eA1 eB1 e0 e1 recs : Nat → Int32} {row msc mdl : Nat → Int32} {sc : Nat → Nat} {post : Int32 → Int32 → (Nat → Int32) → (Nat → Int32) → Prop} (h : RW t cd nx ln hd bl hb nb rec dly pnum psent pover ppb wb wsz cb csz bnum bcb bcsz A0 B0 A1 B1 split told quants backs scales bits tw me sz bytes eA0 eB0 eA1 eB1 e0 e1 recs row) (hb' : 0 < cd ∧ btw (nI p) 2 128 ∧ btw v2 0 1) (p2 : p ≤ 128) (h3 : btw v3 0 1) (hs : ∀ c, c < 16 → sc c ≤ 15 ∧ row (621 + c) = nI (sc c)) (hbd : ∀ c, c < 16 → ∀ b, b < 4 → bnd 65536 (row (557 + (4 * c + b))))
    (x : Int32) (x0 : v3 = 0 → x = nI (wst (cs1 (fun c k => row (557 + (4 * c + k))) sc (bitsN (pnd row v2) p)) 15)) (x1 : ¬ v3 = 0 → x = cs1 (fun c k => row (557 + (4 * c + k))) sc (bitsN (pnd row v2) p) (wst (cs1 (fun c k => row (557 + (4 * c + k))) sc (bitsN (pnd row v2) p)) 15)) (g : ∀ a b : Nat → Int32, post x 0 a b) : wp_X12_worst (nI p) v2 v3 th row msc mdl post := by
  generalize eT : (fun c k => row (557 + (4 * c + k)) : Nat → Nat → Int32) = T at x0 x1
  have hT : ∀ c k, T c k = row (557 + (4 * c + k)) := fun c k => by rw [← eT]
  generalize eC : cs1 T sc (bitsN (pnd row v2) p) = C at x0 x1
  have hC : ∀ c, c < 16 → 0 ≤ (C c).toInt := fun c hc => by
    rw [← eC]
    exact cs1_b (fun k hk => by rw [hT]; exact hbd c hc k hk) (hs c hc).1 (bitsN_le _ _ _)
  unfold wp_X12_worst
  refine t_canDeal h (fun _ => ⟨fun y => absurd y (by decide), fun _ => ?_⟩) (fun y => absurd hb' y)
  refine t_inI 0 1 (fun _ => ⟨fun y => absurd y (by decide), fun _ => ?_⟩) (fun y => absurd h3 y)
  refine t_takeScales (fun f hf => t_deal12 p2 hf (fun d hd => ?_))
  rintro _ rfl _ rfl _ rfl
  refine cinv2 0 16 (fun k a b => (k = 0 → a = -1 ∧ b = -1) ∧ (∀ j, k = j + 1 → a = C (wst C j) ∧ b = nI (wst C j))) ⟨fun _ => ⟨rfl, rfl⟩, fun j hj => absurd hj (by omega)⟩ ?_ ?_
  · rintro i a b _ hi ⟨i0, i1⟩ g2 hg2
    rintro _ rfl _ rfl
    refine t12_cost1 (T := T) (sc := sc) (bt := bitsN (pnd row v2) p) hi (fun k hk => (hT i k).symm) (by rw [hf i hi]; exact (hs i hi).2) (hs i hi).1 (hd i hi) (bitsN_le _ _ _) ?_
    rw [eC, Int32.zero_add, rA]
    have fin : ∀ a' b' : Int32, a' = C (wst C i) → b' = nI (wst C i) → g2 (nI (i + 1)) a' b' := fun a' b' e1 e2 => hg2 _ _ ⟨fun q => absurd q (by omega), fun j hj => by
      have : j = i := by omega
      subst this
      exact ⟨e1, e2⟩⟩
    intro k25 hk25
    rcases Nat.eq_zero_or_pos i with z | z
    · subst z
      obtain ⟨e1, e2⟩ := i0 rfl
      subst e1
      subst e2
      have hn : ¬ C 0 ≤ (-1 : Int32) := fun q => by
        have := hC 0 (by omega)
        rw [fa_le, show (-1 : Int32).toInt = -1 by decide] at q
        omega
      refine ⟨fun q => absurd q hn, fun _ => hk25 _ (fun k28 hk28 => ⟨fun q => absurd q hn, fun _ => hk28 _ (fin _ _ rfl rfl)⟩)⟩
    · obtain ⟨j, rfl⟩ : ∃ j, i = j + 1 := ⟨i - 1, by omega⟩
      obtain ⟨e1, e2⟩ := i1 j rfl
      subst e1
      subst e2
      by_cases q : C (j + 1) ≤ C (wst C j)
      · have ew : wst C (j + 1) = wst C j := by rw [wst, if_pos q]
        exact ⟨fun _ => hk25 _ (fun k28 hk28 => ⟨fun _ => hk28 _ (fin _ _ (by rw [ew]) (by rw [ew])), fun y => absurd q y⟩), fun y => absurd q y⟩
      · have ew : wst C (j + 1) = j + 1 := by rw [wst, if_neg q]
        exact ⟨fun y => absurd y q, fun _ => hk25 _ (fun k28 hk28 => ⟨fun y => absurd y q, fun _ => hk28 _ (fin _ _ (by rw [ew]) (by rw [ew]))⟩)⟩
  · rintro a b ⟨_, i1⟩
    obtain ⟨e1, e2⟩ := i1 15 rfl
    refine ⟨fun q => ?_, fun q => ?_⟩
    · rw [e2, ← x0 q]; exact g _ _
    · rw [e1, ← x1 q]; exact g _ _
set_option maxHeartbeats 800000 in
set_option maxRecDepth 100000 in
theorem s_worst {v1 v2 v3 th : Int32} {msc mdl : Nat → Int32} {t cd nx ln hd bl hb : Nat} {po : Int32} {nb rec dly : Nat → Int32} {pnum psent pover ppb : Nat → Int32} {wb : Nat → Nat → Int32} {wsz : Nat → Int32} {cb : Nat → Nat → Int32} {csz : Nat → Int32} {bnum : Nat → Int32} {bcb : Nat → Nat → Int32} {bcsz : Nat → Int32} {A0 B0 A1 B1 split told quants backs scales bits : Nat → Int32} {tw me sz : Int32} {bytes : Nat → Int32} {eA0 eB0 eA1 eB1 e0 e1 recs : Nat → Int32} {qtw qme qpo : Int32} {qsp qto qqu qba qsc qbi qne : Nat → Int32} {row : Nat → Int32} {P : Int32 → Int32 → Int32 → Int32 → (Nat → Int32) → (Nat → Int32) → (Nat → Int32) → (Nat → Int32) → (Nat → Int32) → (Nat → Int32) → (Nat → Int32) → Int32 → Int32 → (Nat → Int32) → (Nat → Int32) → Prop} (h : RW t cd nx ln hd bl hb nb rec dly pnum psent pover ppb wb wsz cb csz bnum bcb bcsz A0 B0 A1 B1 split told quants backs scales bits tw me sz bytes eA0 eB0 eA1 eB1 e0 e1 recs row) (hbd : BND cd row) (hp : ∀ r (qtw qme qpo : Int32) (qsp qto qqu qba qsc qbi qne : Nat → Int32) (f g : Nat → Int32), P r qtw qme qpo qsp qto qqu qba qsc qbi qne r 0 f g) :
    wp_X11_worst v1 v2 v3 nb qtw qme qpo tw me po split qsp told qto quants qqu backs qba scales qsc bits qbi qne (fun r qtw qme qpo qsp qto qqu qba qsc qbi qne => wp_X12_worst v1 v2 v3 th row msc mdl (fun r' th' f g => P r qtw qme qpo qsp qto qqu qba qsc qbi qne r' th' f g)) := by
  unfold wp_X11_worst
  refine t_onPaper h (fun p m c0 e1 p1 p2 e2 m2 => ⟨fun z => absurd z (by decide), fun _ => ?_⟩) (fun q => ⟨fun _ => by unfold wp_X12_worst; exact t_canDeal h (fun y => absurd y q) (fun _ => ⟨fun _ => hp _ _ _ _ _ _ _ _ _ _ _ _ _, fun z => absurd rfl z⟩), fun z => absurd rfl z⟩)
  have hb' : 0 < cd ∧ btw v1 2 128 ∧ btw v2 0 1 := by rw [e1, e2]; exact papB c0 p1 p2 m2
  refine t_within (fun q3 => ⟨fun z => absurd z (by decide), fun _ => ?_⟩) (fun q3 => ⟨fun _ => by unfold wp_X12_worst; exact t_canDeal h (fun _ => ⟨fun z => absurd z (by decide), fun _ => t_inI 0 1 (fun y => absurd y q3) (fun _ => ⟨fun _ => hp _ _ _ _ _ _ _ _ _ _ _ _ _, fun z => absurd rfl z⟩)⟩) (fun y => absurd hb' y), fun z => absurd rfl z⟩)
  subst e1
  obtain ⟨_, eto, ⟨sc, bt, hsc, hbt, _⟩, _⟩ := h.fr c0
  have hs : ∀ c, c < 16 → sc c ≤ 15 ∧ row (621 + c) = nI (sc c) := fun c hc => ⟨(hsc c hc).1, (hsc c hc).2.2⟩
  unfold wp_X4_become
  rintro _ rfl _ rfl _ rfl _ rfl _ rfl _ rfl
  have hto : ∀ c, c < 16 → ∀ k, k < 4 → va_cpy told qto 0 0 64 (16 * k + c) = row (557 + (4 * c + k)) := fun c hc k hk => by rw [cpy0 (by omega)]; exact eto c hc k hk
  have hsf : ∀ i, i < 16 → va_cpy scales qsc 0 0 16 i = row (621 + i) := fun i hi => by rw [cpy0 hi, (hsc i hi).2.1, (hsc i hi).2.2]
  refine t_deal4 h p2 hsf (fun a needs' bits' hbt' => ?_)
  refine t4_quantise (T := fun c k => row (557 + (4 * c + k))) (sc := sc) (bt := bitsN (pnd row v2) p) hto (fun c hc => by rw [hsf c hc]; exact (hs c hc).2) (fun c hc => (hs c hc).1) hbt' (fun c _ => bitsN_le _ _ _) (fun quants' backs' hqb => ?_)
  have cost : ∀ (c : Nat) (post : Int32 → Prop), c < 16 → post (cs1 (fun c k => row (557 + (4 * c + k))) sc (bitsN (pnd row v2) p) c) → wp_X4_costOf (nI c) (va_cpy told qto 0 0 64) backs' post := fun c post hc hpost =>
    t4_costOf (T := fun c k => row (557 + (4 * c + k))) (B := fun c k => bk (qN (row (557 + (4 * c + k))) (sc c) (bitsN (pnd row v2) p c)) (sc c) (bitsN (pnd row v2) p c)) hc (fun k hk => hto c hc k hk) (fun k hk => (hqb c hc k hk).2) hpost
  have ref := fun (x : Int32) (x0 : v3 = 0 → x = nI (wst (cs1 (fun c k => row (557 + (4 * c + k))) sc (bitsN (pnd row v2) p)) 15)) (x1 : ¬ v3 = 0 → x = cs1 (fun c k => row (557 + (4 * c + k))) sc (bitsN (pnd row v2) p) (wst (cs1 (fun c k => row (557 + (4 * c + k))) sc (bitsN (pnd row v2) p)) 15)) (post : Int32 → Int32 → (Nat → Int32) → (Nat → Int32) → Prop) (hpo : ∀ a b : Nat → Int32, post x 0 a b) => t12_worst (th := th) (msc := msc) (mdl := mdl) h hb' p2 q3 hs (hbd.2 c0) x x0 x1 hpo
  generalize cs1 (fun c k => row (557 + (4 * c + k))) sc (bitsN (pnd row v2) p) = C at cost ref
  rintro _ rfl _ rfl
  refine cinv1 1 16 (fun k s => s = nI (wst C (k - 1))) rfl ?_ ?_
  · rintro k s k1 hk rfl g2 hg2
    have hw := wst_le C (k - 1)
    obtain ⟨j, rfl⟩ : ∃ j, k = j + 1 := ⟨k - 1, by omega⟩
    rw [Nat.add_sub_cancel] at hw ⊢
    refine cost (j + 1) _ hk (cost (wst C j) _ (by omega) ?_)
    intro k32 hk32
    rw [rA] at hk32
    refine ⟨fun q => hk32 _ (hg2 _ ?_), fun q => hk32 _ (hg2 _ ?_)⟩
    · rw [Nat.add_sub_cancel, wst, if_pos q]
    · rw [Nat.add_sub_cancel, wst, if_neg q]
  · rintro s rfl
    refine ⟨fun q => ?_, fun q => cost _ _ (by have := wst_le C (16 - 1); omega) ?_⟩
    · exact ref _ (fun _ => rfl) (fun y => absurd q y) _ (fun a b => hp _ _ _ _ _ _ _ _ _ _ _ _ _)
    · exact ref _ (fun y => absurd y q) (fun _ => rfl) _ (fun a b => hp _ _ _ _ _ _ _ _ _ _ _ _ _)
