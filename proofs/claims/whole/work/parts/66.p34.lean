/-! pure part 34: the reference hears a CODE (whole) -/
set_option maxHeartbeats 4000000 in
set_option maxRecDepth 100000 in
theorem t12_hears {z : Nat} {E O bit : Int32} {by_ scales dealt row backs eight rows comes : Nat → Int32} {post : Int32 → Int32 → Int32 → (Nat → Int32) → (Nat → Int32) → (Nat → Int32) → (Nat → Int32) → (Nat → Int32) → (Nat → Int32) → (Nat → Int32) → Prop} (hz1 : 13 ≤ z) (hz2 : z ≤ 77) (hby : isBy by_ 80)
    (h : ∀ (E' O' bit' : Int32) (scales' dealt' row' backs' eight' rows' comes' : Nat → Int32), (∀ c, c < 2 → ∀ i, i < 14 → row' (81 + 14 * c + i) = memJ (fun i => row (81 + 14 * c + i)) (fun k j => rjF (by_ 4) (bkH by_ z (fun j => row (17 + j))) (8 * c + j) k) 4 i) → (∀ j, (j < 81 ∨ 109 ≤ j) → row' j = row j) → (∀ c, c < 2 → ∀ i, i < 32 → comes' (32 * c + i) = hrF (fun i => row (81 + 14 * c + i)) (fun k j => rjF (by_ 4) (bkH by_ z (fun j => row (17 + j))) (8 * c + j) k) i) → post E' O' bit' scales' dealt' row' backs' eight' rows' comes') :
    wp_X12_hears (nI z) E O bit by_ scales dealt row backs eight rows comes post := by
  obtain ⟨n2, hn2, e2⟩ := hby 2 (by omega)
  have t2 : tN (by_ 2) = n2 := by rw [e2]; exact nI_clamp (by omega)
  unfold wp_X12_hears
  generalize hlo : (fun j => row (17 + j)) = lo at h
  have hloe : ∀ j, row (17 + j) = lo j := fun j => by rw [← hlo]
  have e8 : (8 : Int32) * nI z = nI (8 * z) := by simp (disch := omega) only [lM]
  rw [e8]
  rintro _ rfl _ rfl _ rfl
  refine cinv2 0 16 (fun i a f => a = nI (40 + 4 * i) ∧ ∀ c, c < i → f c = nI (hS by_ z c)) ⟨rfl, fun c hc => absurd hc (Nat.not_lt_zero _)⟩ ?_ ?_
  · rintro i a f - hi ⟨rfl, hf⟩ g hg
    refine t12_get (w := 4) (by omega) (by omega) (by omega) ?_
    simp (disch := omega) only [nI_clamp, vpT, true_and, forall_eq]
    rw [nI_1]
    refine hg _ _ ⟨by rw [show 40 + 4 * i + 4 = 40 + 4 * (i + 1) by omega], fun c hc => ?_⟩
    by_cases q : c = i
    · subst q; rw [pk_us]
    · rw [pk_un q]; exact hf c (by omega)
  · rintro a f ⟨rfl, hf⟩
    have hd : by_ 2 = nI n2 := e2
    rw [hd]
    refine t12_deal (nd := hN by_ z lo) (by omega) (fun i hi => by rw [hf i hi, hloe]) (fun dealt' hb => ?_)
    have ebt : bitsN (hN by_ z lo) n2 = hB by_ z lo := by unfold hB; rw [t2]
    rw [ebt] at hb
    have hsum : fb_sm (hB by_ z lo) 16 ≤ 255 := by
      have := bitsN_sum (hN by_ z lo) (tN (by_ 2))
      unfold hB; omega
    have hb16 : ∀ i, hB by_ z lo i ≤ 16 := fun i => bitsN_le _ _ _
    have hQd : ∀ i, hQ by_ z lo i = getN by_ (8 * z) (posQ (hB by_ z lo) i) (hB by_ z lo (i % 16)) := fun i => rfl
    have hQl : ∀ i, hQ by_ z lo i < 65536 := fun i => hQ_lt _ _ _ _
    have hbk : ∀ c b, bkH by_ z lo c b = bk (hQ by_ z lo (16 * b + c)) (hS by_ z c) (hB by_ z lo c) := fun c b => rfl
    generalize bkH by_ z lo = V at h hbk
    generalize hB by_ z lo = bt at hb hsum hb16 hQd hbk
    generalize hQ by_ z lo = Q at hQd hQl hbk
    rintro _ rfl
    refine cinv2 0 4 (fun b a e => a = nI (posQ bt (16 * b)) ∧ ∀ c, c < 16 → ∀ t, t < b → e (4 * c + t) = V c t) ⟨rfl, fun c _ t ht => absurd ht (Nat.not_lt_zero _)⟩ ?_ ?_
    · rintro b a e - hb4 ⟨rfl, hI⟩ g hg _ rfl
      refine cinv2 0 16 (fun n a u => a = nI (posQ bt (16 * b + n)) ∧ (∀ c, c < n → u (4 * c + b) = V c b) ∧ ∀ c, c < 16 → ∀ t, t < b → u (4 * c + t) = V c t) ⟨rfl, fun c hc => absurd hc (Nat.not_lt_zero _), hI⟩ ?_ ?_
      · rintro n a u - hn ⟨rfl, k1, k2⟩ g2 hg2
        have hp := posQ_b hsum (show 16 * b + n ≤ 64 by omega)
        have hp1 := posQ_s bt (16 * b + n)
        have hm : (16 * b + n) % 16 = n := by omega
        have hbn := hb n hn
        have hsn := hf n hn
        have hb16n := hb16 n
        have hq := hQd (16 * b + n)
        have hql := hQl (16 * b + n)
        have hv := hbk n b
        rw [hm] at hp1 hq
        simp (disch := omega) only [nI_clamp, vpT, true_and, forall_eq, lM, nI_add, hbn, hsn]
        intro k106 hk106
        have fin : k106 (V n b) (nI (posQ bt (16 * b + n) + bt n)) := by
          refine hk106 _ _ ?_
          rw [nI_1]
          refine hg2 _ _ ⟨by rw [← hp1]; rfl, fun c hc => ?_, fun c hc t ht => ?_⟩
          · by_cases q : c = n
            · subst q; rw [pk_us]
            · rw [pk_un (by omega)]; exact k1 c (by omega)
          · rw [pk_un (by omega)]; exact k2 c hc t ht
        refine ⟨fun q0 => ?_, fun _ => ?_⟩
        · have b0 : bt n = 0 := (nI_eq (b := 0) (by omega) (by omega)).mp q0
          rw [hv, b0, Nat.add_zero] at fin
          exact fin
        · refine t12_get hb16n (by omega) (by omega) ?_
          rw [← hq]
          refine t12_unquant (hS_lt _ _ _) hb16n hql ?_
          rw [← hv]; exact fin
      · rintro a u ⟨rfl, k1, k2⟩
        rw [nI_1]
        refine hg _ _ ⟨by rw [show 16 * b + 16 = 16 * (b + 1) by omega], fun c hc t ht => ?_⟩
        by_cases q : t = b
        · subst q; exact k1 c hc
        · exact k2 c hc t (by omega)
    · rintro a e ⟨rfl, hI⟩ _ rfl
      refine t12_untwin (tw := by_ 4) (V := V) hI (fun u hu => ?_)
      rintro _ rfl
      refine cinv6 0 2 (fun n _ _ f _ _ e => (∀ c, c < n → ∀ i, i < 14 → f (81 + 14 * c + i) = memJ (fun i => row (81 + 14 * c + i)) (fun k j => rjF (by_ 4) V (8 * c + j) k) 4 i) ∧ (∀ j, (j < 81 ∨ 81 + 14 * n ≤ j) → f j = row j) ∧ (∀ c, c < n → ∀ i, i < 32 → e (32 * c + i) = hrF (fun i => row (81 + 14 * c + i)) (fun k j => rjF (by_ 4) V (8 * c + j) k) i)) ⟨fun c hc => absurd hc (Nat.not_lt_zero _), fun _ _ => rfl, fun c hc => absurd hc (Nat.not_lt_zero _)⟩ ?_ ?_
      · rintro n s d f ei ro co - hn ⟨i1, i2, i3⟩ g hg _ rfl
        refine t12_join2 (Z := rjF (by_ 4) V) hn hu (fun s' d' f' ei' ro' co' j1 j2 j3 j4 => ?_)
        have em : (fun i => f (81 + 14 * n + i)) = (fun i => row (81 + 14 * n + i)) := funext (fun i => i2 _ (by omega))
        rw [em] at j1 j3
        rw [nI_1]
        refine hg _ _ _ _ _ _ ⟨fun c hc i hi => ?_, fun j hj => ?_, fun c hc i hi => ?_⟩
        · by_cases q : c = n
          · subst q; exact j1 i hi
          · rw [j2 _ (by omega)]; exact i1 c (by omega) i hi
        · rw [j2 _ (by omega)]; exact i2 j (by omega)
        · by_cases q : c = n
          · subst q; exact j3 i hi
          · rw [j4 _ (by omega)]; exact i3 c (by omega) i hi
      · rintro s d f ei ro co ⟨i1, i2, i3⟩
        exact h _ _ _ _ _ _ _ _ _ _ i1 (fun j hj => i2 j (by omega)) i3
