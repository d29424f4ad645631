/-! pure part 38: the class hears -/
def rEar (e0 e1 row : Nat → Int32) : Prop := ∀ j, j < 192 → e0 j = hR row 0 j ∧ e1 j = hR row 1 j
def eN (e e' cm : Nat → Int32) (o : Nat) : Prop := (∀ j, j < 160 → e' j = e (j + 32)) ∧ (∀ i, i < 32 → e' (160 + i) = cm (o + i))
theorem eN_r {e0 e1 e0' e1' cm row row' : Nat → Int32} (h : rEar e0 e1 row) (h0 : eN e0 e0' cm 0) (h1 : eN e1 e1' cm 32) (hr : ∀ j, 109 ≤ j → j < 493 → row' j = M_keep cm row j) : rEar e0' e1' row' := by
  intro j hj
  have k : ∀ c, c < 2 → hR row' c j = if j < 160 then row (109 + 192 * c + j + 32) else cm (32 * c + (j - 160)) := fun c hc => by
    show row' (109 + 192 * c + j) = _
    rw [hr _ (by omega) (by omega)]
    unfold M_keep
    rw [if_pos (by omega), show (109 + 192 * c + j - 109) % 192 = j by omega, show (109 + 192 * c + j - 109) / 192 = c by omega]
  rw [k 0 (by omega), k 1 (by omega)]
  by_cases q : j < 160
  · rw [if_pos q, if_pos q, h0.1 j q, h1.1 j q, (h _ (by omega)).1, (h _ (by omega)).2]; exact ⟨rfl, rfl⟩
  · rw [if_neg q, if_neg q]
    have a := h0.2 (j - 160) (by omega)
    have b := h1.2 (j - 160) (by omega)
    rw [show 160 + (j - 160) = j by omega] at a b
    rw [a, b]; exact ⟨rfl, rfl⟩
theorem t_mk {fd : Nat} {lag0 sum0 : Int32} {e row made : Nat → Int32} {c : Nat} {post : Int32 → Int32 → (Nat → Int32) → (Nat → Int32) → Prop} (he : ∀ j, j < 192 → e j = hR row c j) (hr : inR (hR row c) 192) (h : ∀ (l s : Int32) (e' made' : Nat → Int32), (∀ j, j < 192 → e' j = e j) → (∀ i, i < 32 → made' i = mdF (hR row c) fd i) → post l s e' made') : wp_X3_makeUp (nI fd) lag0 sum0 e made post := by
  have hr' : inR e 192 := fun j hj => by rw [he j hj]; exact hr j hj
  exact t3_makeUp hr' (fun e' made' h1 h2 => h _ _ _ _ h1 (fun i hi => by rw [h2 i hi]; exact mdF_c he hr' hi))
set_option maxHeartbeats 4000000 in
set_option maxRecDepth 100000 in
theorem t6_hearMadeUp {mn : Nat} {row e0 m0 e1 m1 nb : Nat → Int32} {l0 s0 l1 s1 : Int32} {post : Int32 → Int32 → (Nat → Int32) → (Nat → Int32) → Int32 → Int32 → (Nat → Int32) → (Nat → Int32) → (Nat → Int32) → Prop} (he : rEar e0 e1 row) (hh : ∀ c, c < 2 → inR (hR row c) 192)
    (h : ∀ (l0' s0' : Int32) (e0' m0' : Nat → Int32) (l1' s1' : Int32) (e1' m1' : Nat → Int32), eN e0 e0' (cmA row mn) 0 → eN e1 e1' (cmA row mn) 32 → post l0' s0' e0' m0' l1' s1' e1' m1' (upd (upd (upd nb 14 (nb 14 + 1)) 15 (nb 15 + 1)) 16 (jmax (nb 16) (nb 15 + 1)))) : wp_X6_hearMadeUp (nI (8 - mn)) l0 s0 e0 m0 l1 s1 e1 m1 nb post := by
  unfold wp_X6_hearMadeUp
  refine t_mk (c := 0) (fun j hj => (he j hj).1) (hh 0 (by omega)) (fun l s ea ma a1 a2 => ?_)
  refine t3_keep (by omega) (fun eb b1 b2 => ?_)
  refine t_mk (c := 1) (fun j hj => (he j hj).2) (hh 1 (by omega)) (fun l' s' ec mc c1 c2 => ?_)
  refine t3_keep (by omega) (fun ed d1 d2 => ?_)
  rintro _ rfl _ rfl _ rfl _ rfl
  have e1 : upd nb 14 (nb 14 + 1) 15 = nb 15 := pk_un (by decide)
  rw [e1, pk_us, pk_un (show 16 ≠ 15 by decide), pk_un (show 16 ≠ 14 by decide)]
  refine h _ _ _ _ _ _ _ _ ⟨fun j hj => by rw [b1 j hj]; exact a1 _ (by omega), fun i hi => ?_⟩ ⟨fun j hj => by rw [d1 j hj]; exact c1 _ (by omega), fun i hi => ?_⟩
  · rw [b2 i hi, a2 i hi]; unfold cmA; rw [show (0 + i) / 32 = 0 by omega, show (0 + i) % 32 = i by omega]
  · rw [d2 i hi, c2 i hi]; unfold cmA; rw [show (32 + i) / 32 = 1 by omega, show (32 + i) % 32 = i by omega]
def rMm (A B : Nat → Int32) (m : Nat → Int32) : Prop := ∀ i, i < 7 → A i = m (2 * i) ∧ B i = m (2 * i + 1)
set_option maxHeartbeats 4000000 in
set_option maxRecDepth 100000 in
theorem t_ear {z mn c : Nat} {nb row by_ fr e made : Nat → Int32} {l s : Int32} {post : Int32 → Int32 → (Nat → Int32) → (Nat → Int32) → (Nat → Int32) → Prop} (hc : c < 2) (e15 : nb 15 = nI mn) (hmn : mn < 99999) (he : ∀ j, j < 192 → e j = hR row c j) (hh : inR (hR row c) 192) (hf : ∀ i, i < 32 → fr i = cmH by_ z row (32 * c + i))
    (h : ∀ (l' s' : Int32) (fr' e' made' : Nat → Int32), (∀ j, j < 192 → e' j = e j) → (∀ i, i < 32 → fr' i = cmB by_ z row mn (32 * c + i)) → post l' s' fr' e' made') :
    (nb 15 ≤ (0 : Int32) → post l s fr e made) ∧ (¬ nb 15 ≤ (0 : Int32) → wp_X6_fade nb (fun r62 => wp_X3_makeUp r62 l s e made (fun x63 x64 f65 f66 => wp_X3_blendWithMade f66 fr (fun f67 => post x63 x64 f67 f65 f66)))) := by
  refine ⟨fun q => ?_, fun q => ?_⟩
  · rw [e15] at q
    have m0 : mn = 0 := by have := (nI_leI (b := 0) (by omega) (by omega)).mp q; omega
    refine h _ _ _ _ _ (fun _ _ => rfl) (fun i hi => ?_)
    unfold cmB; rw [if_pos m0]; exact hf i hi
  · rw [e15] at q
    have m0 : ¬ mn = 0 := fun y => q (by rw [y]; decide)
    refine t6_fade e15 (by omega) ?_
    refine t_mk (c := c) he hh (fun l' s' e' made' a1 a2 => ?_)
    refine t3_blend (fun fr' b => ?_)
    refine h _ _ _ _ _ a1 (fun i hi => ?_)
    rw [b i hi]
    unfold cmB; rw [if_neg m0]
    rw [show (32 * c + i) / 32 = c by omega, show (32 * c + i) % 32 = i by omega]
    refine blF_c ?_ ?_
    · rw [a2 i hi]; unfold cmA; rw [show (32 * c + i) / 32 = c by omega, show (32 * c + i) % 32 = i by omega]
    · exact hf i hi
