/-! pure part 39: the class hears a CODE -/
set_option maxHeartbeats 4000000 in
set_option maxRecDepth 100000 in
theorem t6_hearCode {z mn : Nat} {tw me po at_ l0 s0 l1 s1 : Int32} {row by_ scales nb needs bits quants backs rj r0 B0 A0 n0 fr0 e0 m0 r1 B1 A1 n1 fr1 e1 m1 : Nat → Int32} {post : Int32 → Int32 → Int32 → Int32 → (Nat → Int32) → (Nat → Int32) → (Nat → Int32) → (Nat → Int32) → (Nat → Int32) → (Nat → Int32) → (Nat → Int32) → Int32 → Int32 → (Nat → Int32) → (Nat → Int32) → (Nat → Int32) → (Nat → Int32) → (Nat → Int32) → (Nat → Int32) → (Nat → Int32) → Int32 → Int32 → (Nat → Int32) → (Nat → Int32) → (Nat → Int32) → (Nat → Int32) → (Nat → Int32) → (Nat → Int32) → (Nat → Int32) → Prop}
    (hz1 : 13 ≤ z) (hz2 : z ≤ 77) (hby : isBy by_ 80) (e15 : nb 15 = nI mn) (hmn : mn < 99999) (hlo : ∀ j, j < 8 → nb (40 + j) = row (17 + j)) (he : rEar e0 e1 row) (hh : ∀ c, c < 2 → inR (hR row c) 192) (hm0 : rMem A0 B0 81 row) (hm1 : rMem A1 B1 95 row)
    (h : ∀ (tw' me' po' at' l0' s0' l1' s1' : Int32) (a1 a2 a3 a4 a5 a6 b1 B0' A0' b2 b3 e0' b4 c1 B1' A1' c2 c3 e1' c4 : Nat → Int32), eN e0 e0' (cmB by_ z row mn) 0 → eN e1 e1' (cmB by_ z row mn) 32 → rMem A0' B0' 81 (M_mem by_ z row) → rMem A1' B1' 95 (M_mem by_ z row) →
      post tw' me' po' at' a1 (upd (upd nb 13 (nb 13 + 1)) 15 0) a2 a3 a4 a5 a6 l0' s0' b1 B0' A0' b2 b3 e0' b4 l1' s1' c1 B1' A1' c2 c3 e1' c4) :
    wp_X6_hearCode tw me po (nI z) at_ by_ scales nb needs bits quants backs rj l0 s0 r0 B0 A0 n0 fr0 e0 m0 l1 s1 r1 B1 A1 n1 fr1 e1 m1 post := by
  have eV : bkH by_ z (fun j => nb (40 + j)) = bkH by_ z (fun j => row (17 + j)) := bkH_lo (fun j hj => hlo j hj)
  have hXB : ∀ c, (fun k j => rjF (by_ 4) (bkH by_ z (fun j => row (17 + j))) (8 * c + j) k) = XB by_ z row c := fun c => rfl
  have hM : ∀ c, c < 2 → ∀ i, i < 14 → M_mem by_ z row (81 + 14 * c + i) = memJ (mR row c) (XB by_ z row c) 4 i := fun c hc i hi => by
    unfold M_mem
    rw [if_pos (by omega), show (81 + 14 * c + i - 81) / 14 = c by omega, show (81 + 14 * c + i - 81) % 14 = i by omega]
  have hH : ∀ c i, i < 32 → cmH by_ z row (32 * c + i) = hrF (mR row c) (XB by_ z row c) i := fun c i hi => by
    unfold cmH; rw [show (32 * c + i) / 32 = c by omega, show (32 * c + i) % 32 = i by omega]
  unfold wp_X6_hearCode
  refine t4_read hz1 hz2 hby (fun me' po' at' sc' ne' bi' qu' ba' hb => ?_)
  rw [eV] at hb
  refine t4_undo (V := bkH by_ z (fun j => row (17 + j))) hb (fun rj' hrj => ?_)
  refine t3_hearBands (ch := 0) (m := mR row 0) (by omega) (fun i hi => hm0 i hi) hrj (fun r0' A0' B0' n0' f0' p1 p2 => ?_)
  rw [hXB 0] at p1 p2
  intro k27 hk27
  refine t_ear (c := 0) (z := z) (by_ := by_) (post := fun l s fr e m => k27 l s fr e m l1 s1 fr1 e1 m1) (by omega) e15 hmn (fun j hj => (he j hj).1) (hh 0 (by omega)) (fun i hi => by rw [p2 i hi, hH 0 i hi]) (fun l s f0 ea ma a1 a2 => ?_)
  refine hk27 _ _ _ _ _ _ _ _ _ _ ?_
  refine t3_keep (by omega) (fun eb b1 b2 => ?_)
  refine t3_hearBands (ch := 1) (m := mR row 1) (by omega) (fun i hi => hm1 i hi) hrj (fun r1' A1' B1' n1' f1' q1 q2 => ?_)
  rw [hXB 1] at q1 q2
  intro k46 hk46
  refine t_ear (c := 1) (z := z) (by_ := by_) (post := fun l' s' fr' e' m' => k46 l s f0 eb ma l' s' fr' e' m') (by omega) e15 hmn (fun j hj => (he j hj).2) (hh 1 (by omega)) (fun i hi => by rw [q2 i hi, hH 1 i hi]) (fun l' s' f1 ec mc c1 c2 => ?_)
  refine hk46 _ _ _ _ _ _ _ _ _ _ ?_
  refine t3_keep (by omega) (fun ed d1 d2 => ?_)
  rintro _ rfl _ rfl
  refine h _ _ _ _ _ _ _ _ _ _ _ _ _ _ _ _ _ _ _ _ _ _ _ _ _ _ _ _ ⟨fun j hj => by rw [b1 j hj]; exact a1 _ (by omega), fun i hi => by rw [b2 i hi, a2 i hi]⟩ ⟨fun j hj => by rw [d1 j hj]; exact c1 _ (by omega), fun i hi => by rw [d2 i hi, c2 i hi]⟩ (fun i hi => ?_) (fun i hi => ?_)
  · have u := hM 0 (by omega) (2 * i) (by omega)
    have v := hM 0 (by omega) (2 * i + 1) (by omega)
    rw [(p1 i hi).1, (p1 i hi).2]
    exact ⟨u.symm, v.symm⟩
  · have u := hM 1 (by omega) (2 * i) (by omega)
    have v := hM 1 (by omega) (2 * i + 1) (by omega)
    rw [(q1 i hi).1, (q1 i hi).2]
    exact ⟨u.symm, v.symm⟩
