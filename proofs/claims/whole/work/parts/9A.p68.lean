/-! pure part 68: coded -/
theorem osm_pls (f g : Nat → Int32) : ∀ n, osm (fun i => f i + g i) n = osm f n + osm g n
  | 0 => rfl
  | n + 1 => by
    rw [osm, osm, osm, osm_pls f g n]
    rw [Int32.add_assoc, Int32.add_assoc, ← Int32.add_assoc (osm g n), Int32.add_comm (osm g n) (f n), Int32.add_assoc (f n)]
theorem osm_app (f : Nat → Int32) (m : Nat) : ∀ n, osm f (m + n) = osm f m + osm (fun i => f (m + i)) n
  | 0 => by rw [Nat.add_zero, osm, Int32.add_zero]
  | n + 1 => by rw [← Nat.add_assoc, osm, osm, osm_app f m n, Int32.add_assoc]
theorem osm_zero : ∀ n, osm (fun _ => (0 : Int32)) n = 0
  | 0 => rfl
  | n + 1 => by rw [osm, osm_zero n]; rfl
theorem osm_swap (g : Nat → Nat → Int32) (m : Nat) : ∀ n, osm (fun a => osm (g a) m) n = osm (fun b => osm (fun a => g a b) n) m
  | 0 => by rw [osm]; exact (osm_zero m).symm
  | n + 1 => by
    rw [osm, osm_swap g m n, ← osm_pls]
    rfl
theorem osm_mul (f : Nat → Int32) (m : Nat) : ∀ n, osm f (m * n) = osm (fun a => osm (fun i => f (m * a + i)) m) n
  | 0 => rfl
  | n + 1 => by rw [Nat.mul_succ, osm_app, osm_mul f m n, osm]
/-- all 64, in either order -/
theorem osm_64 (D : Nat → Nat → Int32) : osm (fun i => D (i % 16) (i / 16)) 64 = osm (fun b => osm (fun k => D b k + D (8 + b) k) 4) 8 := by
  have h1 : osm (fun i => D (i % 16) (i / 16)) 64 = osm (fun a => osm (fun i => D i a) 16) 4 := by
    rw [show 64 = 16 * 4 from rfl, osm_mul]
    refine osm_c 4 (fun a _ => osm_c 16 (fun i hi => ?_))
    rw [show (16 * a + i) % 16 = i by omega, show (16 * a + i) / 16 = a by omega]
  rw [h1, osm_swap, show 16 = 8 + 8 from rfl, osm_app, ← osm_pls]
  refine osm_c 8 (fun b _ => ?_)
  rw [osm_pls]
/-- the largest -/
def pm (S : Nat → Nat → Prop) (D : Nat → Nat → Int32) (x : Int32) : Prop := 0 ≤ x ∧ (∀ c k, S c k → D c k ≤ x) ∧ (x = 0 ∨ ∃ c k, c < 16 ∧ k < 4 ∧ x = D c k)
theorem pm_step {S S' : Nat → Nat → Prop} {D : Nat → Nat → Int32} {m m' : Int32} {c k : Nat} (h : pm S D m) (hc : c < 16) (hk : k < 4) (h1 : m ≤ m') (h2 : D c k ≤ m') (h3 : m' = m ∨ m' = D c k) (hS : ∀ a b, S' a b → S a b ∨ (a = c ∧ b = k)) : pm S' D m' := by
  obtain ⟨i1, i2, i3⟩ := h
  refine ⟨Int32.le_trans i1 h1, fun a b q => ?_, ?_⟩
  · rcases hS a b q with y | ⟨rfl, rfl⟩
    · exact Int32.le_trans (i2 a b y) h1
    · exact h2
  · rcases h3 with rfl | rfl
    · exact i3
    · exact Or.inr ⟨c, k, hc, hk, rfl⟩
theorem pm_sub {S S' : Nat → Nat → Prop} {D : Nat → Nat → Int32} {m : Int32} (h : pm S D m) (hS : ∀ a b, S' a b → S a b) : pm S' D m := ⟨h.1, fun a b q => h.2.1 a b (hS a b q), h.2.2⟩
theorem pm_un {D : Nat → Nat → Int32} {x y : Int32} (h : pm (fun c k => c < 16 ∧ k < 4) D x) (h' : pm (fun c k => c < 16 ∧ k < 4) D y) : x = y := by
  have key : ∀ x y : Int32, pm (fun c k => c < 16 ∧ k < 4) D x → pm (fun c k => c < 16 ∧ k < 4) D y → x ≤ y := by
    rintro x y ⟨_, _, q⟩ ⟨b1, b2, _⟩
    rcases q with rfl | ⟨c, k, hc, hk, rfl⟩
    · exact b1
    · exact b2 c k ⟨hc, hk⟩
  exact Int32.le_antisymm (key x y h h') (key y x h' h)
theorem if_mx (r m : Int32) : ∀ m', m' = (if r ≤ m then m else r) → m ≤ m' ∧ r ≤ m' ∧ (m' = m ∨ m' = r) := by
  rintro _ rfl
  by_cases q : r ≤ m
  · rw [if_pos q]; exact ⟨Int32.le_refl _, q, Or.inl rfl⟩
  · rw [if_neg q]
    refine ⟨?_, Int32.le_refl _, Or.inr rfl⟩
    rw [fa_le] at q ⊢; omega
theorem jmax_mx (m r : Int32) : m ≤ jmax m r ∧ r ≤ jmax m r ∧ (jmax m r = m ∨ jmax m r = r) := by
  unfold jmax
  by_cases q : m < r
  · rw [if_pos q]
    refine ⟨?_, Int32.le_refl _, Or.inr rfl⟩
    rw [fa_lt] at q; rw [fa_le]; omega
  · rw [if_neg q]
    refine ⟨Int32.le_refl _, ?_, Or.inl rfl⟩
    rw [fa_lt] at q; rw [fa_le]; omega
def ofD (V B : Nat → Nat → Int32) (tw : Int32) : Nat → Nat → Int32 := fun c k => jabs (V c k - rjF tw B c k)
theorem t4_sumOff {V B : Nat → Nat → Int32} {tw : Int32} {sp rj : Nat → Int32} {post : Int32 → Prop} (hV : ∀ c, c < 16 → ∀ k, k < 4 → sp (16 * k + c) = V c k) (hR : ∀ c, c < 16 → ∀ k, k < 4 → rj (16 * k + c) = rjF tw B c k) (h : post (osm (fun b => osm (fun k => ofD V B tw b k + ofD V B tw (8 + b) k) 4) 8)) : wp_X4_sumOff sp rj post := by
  unfold wp_X4_sumOff
  rintro x1 rfl x2 rfl
  refine cinv1 0 64 (fun n s => s = osm (fun i => ofD V B tw (i % 16) (i / 16)) n) rfl ?_ ?_
  · rintro n s _ hn rfl g hg
    have e1 := hV (n % 16) (by omega) (n / 16) (by omega)
    have e2 := hR (n % 16) (by omega) (n / 16) (by omega)
    rw [Nat.div_add_mod] at e1 e2
    simp (disch := omega) only [rA, nI_clamp, vpT, true_and, forall_eq]
    refine hg _ ?_
    rw [e1, e2]; rfl
  · rintro s rfl
    rw [osm_64]; exact h
theorem t4_mostOff {V B : Nat → Nat → Int32} {tw : Int32} {sp rj : Nat → Int32} {post : Int32 → Prop} (hV : ∀ c, c < 16 → ∀ k, k < 4 → sp (16 * k + c) = V c k) (hR : ∀ c, c < 16 → ∀ k, k < 4 → rj (16 * k + c) = rjF tw B c k) (h : ∀ x, pm (fun c k => c < 16 ∧ k < 4) (ofD V B tw) x → post x) : wp_X4_mostOff sp rj post := by
  unfold wp_X4_mostOff
  rintro x1 rfl x2 rfl
  refine cinv1 0 64 (fun n s => pm (fun c k => c < 16 ∧ 16 * k + c < n) (ofD V B tw) s) ⟨Int32.le_refl _, fun c k q => absurd q.2 (Nat.not_lt_zero _), Or.inl rfl⟩ ?_ ?_
  · rintro n s _ hn hI g hg
    have e1 := hV (n % 16) (by omega) (n / 16) (by omega)
    have e2 := hR (n % 16) (by omega) (n / 16) (by omega)
    rw [Nat.div_add_mod] at e1 e2
    simp (disch := omega) only [rA, nI_clamp, vpT, true_and, forall_eq]
    refine hg _ ?_
    rw [e1, e2]
    obtain ⟨m1, m2, m3⟩ := jmax_mx s (ofD V B tw (n % 16) (n / 16))
    exact pm_step hI (c := n % 16) (k := n / 16) (by omega) (by omega) m1 m2 m3 (fun a b q => by omega)
  · intro s hI
    exact h _ (pm_sub hI (fun a b q => ⟨q.1, by omega⟩))
set_option maxHeartbeats 800000 in
set_option maxRecDepth 100000 in
theorem t12_differs {V T : Nat → Nat → Int32} {sc bt : Nat → Nat} {v1 tw : Int32} {row d bk0 : Nat → Int32} {post : Int32 → (Nat → Int32) → Prop} (hV : ∀ c, c < 16 → ∀ k, k < 4 → row (493 + (4 * c + k)) = V c k) (hT : ∀ c, c < 16 → ∀ k, k < 4 → row (557 + (4 * c + k)) = T c k) (hs : ∀ c, c < 16 → sc c ≤ 15 ∧ row (621 + c) = nI (sc c)) (hd : ∀ c, c < 16 → bt c ≤ 16 ∧ d c = nI (bt c)) (ht : row 653 = tw)
    (B : Nat → Nat → Int32) (hB : ∀ c k, B c k = bk (qN (T c k) (sc c) (bt c)) (sc c) (bt c))
    (h : ∀ (x : Int32) (f : Nat → Int32), (v1 = 0 → x = osm (fun b => osm (fun k => ofD V B tw b k + ofD V B tw (8 + b) k) 4) 8) → (¬ v1 = 0 → pm (fun c k => c < 16 ∧ k < 4) (ofD V B tw) x) → post x f) : wp_X12_differs v1 row d bk0 post := by
  unfold wp_X12_differs
  rintro x1 rfl
  refine cinv1 0 64 (fun n f => ∀ i, i < n → f i = B (i / 4) (i % 4)) (fun i hi => absurd hi (Nat.not_lt_zero _)) ?_ ?_
  · intro n f _ hn hI g hg
    obtain ⟨s1, s2⟩ := hs (n / 4) (by omega)
    obtain ⟨d1, d2⟩ := hd (n / 4) (by omega)
    have e1 := hT (n / 4) (by omega) (n % 4) (by omega)
    rw [Nat.div_add_mod] at e1
    have hz : (nI (bt (n / 4)) = 0) ↔ bt (n / 4) = 0 := nI_eq (b := 0) (by omega) (by omega)
    simp (disch := omega) only [rA, lA, rD, nI_clamp, vpT, true_and, forall_eq, s2, d2, e1, hz]
    intro k63 hk
    have go : k63 (B (n / 4) (n % 4)) := hk _ (hg _ (fun i hi => by
      by_cases q : i = n
      · subst q; exact pk_us
      · rw [pk_un q]; exact hI i (by omega)))
    refine ⟨fun z => ?_, fun z => t12_quant s1 (by omega) d1 (t12_unquant s1 d1 (qN_lt d1) (by rw [← hB]; exact go))⟩
    rw [hB, bk, if_pos z] at go; exact go
  intro f5 hf
  rintro x7 rfl x8 rfl x9 rfl
  refine cinv2 0 8 (fun b mx sm => sm = osm (fun b => osm (fun k => ofD V B tw b k + ofD V B tw (8 + b) k) 4) b ∧ pm (fun c k => c < 16 ∧ k < 4 ∧ c % 8 < b) (ofD V B tw) mx) ⟨rfl, Int32.le_refl _, fun c k q => absurd q.2.2 (Nat.not_lt_zero _), Or.inl rfl⟩ ?_ ?_
  · rintro b mx sm _ hb ⟨rfl, hM⟩ g hg
    rintro x17 rfl
    refine cinv2 0 4 (fun k m s => s = osm (fun b => osm (fun k => ofD V B tw b k + ofD V B tw (8 + b) k) 4) b + osm (fun k => ofD V B tw b k + ofD V B tw (8 + b) k) k ∧ pm (fun c k' => c < 16 ∧ k' < 4 ∧ (c % 8 < b ∨ (c % 8 = b ∧ k' < k))) (ofD V B tw) m) ⟨by rw [osm, Int32.add_zero], pm_sub hM (fun c k q => ⟨q.1, q.2.1, by omega⟩)⟩ ?_ ?_
    · rintro k m s _ hk ⟨rfl, hm⟩ g2 hg2
      unfold wp_X12_bandAt
      have ea : (((32 : Int32) * 0) + (4 * nI b)) + nI k = nI (4 * b + k) := by rw [show (32 : Int32) * 0 = nI 0 from rfl, lM, nI_add, nI_add]; exact congrArg nI (by omega)
      have eb : (((32 : Int32) * 1) + (4 * nI b)) + nI k = nI (4 * (8 + b) + k) := by rw [show (32 : Int32) * 1 = nI 32 from rfl, lM, nI_add, nI_add]; exact congrArg nI (by omega)
      have f1 := hf (4 * b + k) (by omega)
      have f2 := hf (4 * (8 + b) + k) (by omega)
      rw [show (4 * b + k) / 4 = b by omega, show (4 * b + k) % 4 = k by omega] at f1
      rw [show (4 * (8 + b) + k) / 4 = 8 + b by omega, show (4 * (8 + b) + k) % 4 = k by omega] at f2
      have v1' := hV b (by omega) k hk
      have v2' := hV (8 + b) (by omega) k hk
      rw [ea, eb]
      simp (disch := omega) only [rA, lA, nI_clamp, vpT, true_and, forall_eq, f1, f2, v1', v2', ht]
      intro k32 hk32
      have l1 : rjF tw B b k = if ((tw >>> (nI b &&& 31)) &&& 1) = 1 then B b k + ((B (8 + b) k + 1) >>> ((1 : Int32) &&& 31)) else B b k := by
        unfold rjF; rw [Nat.mod_eq_of_lt hb, if_pos hb]
      have l2 : rjF tw B (8 + b) k = if ((tw >>> (nI b &&& 31)) &&& 1) = 1 then B b k + ((B (8 + b) k + 1) >>> ((1 : Int32) &&& 31)) - B (8 + b) k else B (8 + b) k := by
        unfold rjF; rw [show (8 + b) % 8 = b by omega, if_neg (show ¬ 8 + b < 8 by omega), show 8 + b - 8 = b by omega]
      have fin : ∀ (p q : Int32), p = rjF tw B b k → q = rjF tw B (8 + b) k → ∀ k46 : Int32 → Prop, (∀ (x45 : Int32), (∀ k49 : Int32 → Prop, (∀ (x48 : Int32), (g2 (nI (k + 1)) x48 (osm (fun b => osm (fun k => ofD V B tw b k + ofD V B tw (8 + b) k) 4) b + osm (fun k => ofD V B tw b k + ofD V B tw (8 + b) k) k + (jabs (V b k - p) + jabs (V (8 + b) k - q)))) → k49 x48) → (jabs (V (8 + b) k - q) ≤ x45 → k49 x45) ∧ (¬ jabs (V (8 + b) k - q) ≤ x45 → k49 (jabs (V (8 + b) k - q)))) → k46 x45) → (jabs (V b k - p) ≤ m → k46 m) ∧ (¬ jabs (V b k - p) ≤ m → k46 (jabs (V b k - p))) := by
        rintro p q rfl rfl k46 hk46
        have go : k46 (if ofD V B tw b k ≤ m then m else ofD V B tw b k) := by
          refine hk46 _ (fun k49 hk49 => ?_)
          obtain ⟨a1, a2, a3⟩ := if_mx (ofD V B tw b k) m _ rfl
          generalize (if ofD V B tw b k ≤ m then m else ofD V B tw b k) = m1 at a1 a2 a3 ⊢
          have go2 : k49 (if ofD V B tw (8 + b) k ≤ m1 then m1 else ofD V B tw (8 + b) k) := by
            obtain ⟨b1, b2, b3⟩ := if_mx (ofD V B tw (8 + b) k) m1 _ rfl
            refine hk49 _ (hg2 _ _ ⟨?_, ?_⟩)
            · rw [osm, Int32.add_assoc]; rfl
            · refine pm_step (pm_step (S' := fun c k' => c < 16 ∧ k' < 4 ∧ (c % 8 < b ∨ (c % 8 = b ∧ k' < k)) ∨ (c = b ∧ k' = k)) hm (c := b) (k := k) (by omega) hk a1 a2 a3 (fun a b' q => ?_)) (c := 8 + b) (k := k) (by omega) hk b1 b2 b3 (fun a b' q => ?_)
              · rcases q with q | q
                · exact Or.inl q
                · exact Or.inr q
              · omega
          refine ⟨fun q => ?_, fun q => ?_⟩
          · rw [show (if ofD V B tw (8 + b) k ≤ m1 then m1 else ofD V B tw (8 + b) k) = m1 from if_pos q] at go2; exact go2
          · rw [show (if ofD V B tw (8 + b) k ≤ m1 then m1 else ofD V B tw (8 + b) k) = ofD V B tw (8 + b) k from if_neg q] at go2; exact go2
        refine ⟨fun q => ?_, fun q => ?_⟩
        · rw [show (if ofD V B tw b k ≤ m then m else ofD V B tw b k) = m from if_pos q] at go; exact go
        · rw [show (if ofD V B tw b k ≤ m then m else ofD V B tw b k) = ofD V B tw b k from if_neg q] at go; exact go
      refine ⟨fun q => hk32 _ (fun k35 hk35 => ⟨fun z => absurd z (by decide), fun _ => hk35 _ (t_size (fun k41 hk41 => ⟨fun z => absurd z (by decide), fun _ => hk41 _ (t_size (fin _ _ ?_ ?_))⟩))⟩), fun q => hk32 _ (fun k35 hk35 => ⟨fun _ => hk35 _ (t_size (fun k41 hk41 => ⟨fun _ => hk41 _ (t_size (fin _ _ ?_ ?_)), fun z => absurd rfl z⟩)), fun z => absurd rfl z⟩)⟩
      · rw [l1, if_pos q]
      · rw [l2, if_pos q]
      · rw [l1, if_neg q]
      · rw [l2, if_neg q]
    · rintro m s ⟨rfl, hm⟩
      rw [rA]
      exact hg _ _ ⟨rfl, pm_sub hm (fun c k q => by omega)⟩
  · rintro mx sm ⟨rfl, hM⟩
    exact ⟨fun q => h _ _ (fun _ => rfl) (fun z => absurd q z), fun q => h _ _ (fun z => absurd z q) (fun _ => pm_sub hM (fun c k y => ⟨y.1, y.2, by omega⟩))⟩
def cdV (row : Nat → Int32) : Nat → Nat → Int32 := fun c k => row (493 + (4 * c + k))
def cdN (row : Nat → Int32) (v3 v2 : Int32) : Nat → Int32 := fun i => ndF (nI (scl (cdV row) v3 i)) v2 (row (17 + i % 8))
def cpB (row : Nat → Int32) (v3 v2 : Int32) (p : Nat) : Nat → Nat → Int32 := fun c k => bk (qN (tld (cdV row) v3 c k) (scl (cdV row) v3 c) (bitsN (cdN row v3 v2) p c)) (scl (cdV row) v3 c) (bitsN (cdN row v3 v2) p c)
def cpD (row : Nat → Int32) (v3 v2 : Int32) (p : Nat) : Nat → Nat → Int32 := ofD (cdV row) (cpB row v3 v2 p) (tws (cdV row) v3 7)
set_option maxHeartbeats 800000 in
set_option maxRecDepth 100000 in
theorem t12_coded {t cd nx ln hd bl hb p : Nat} {v2 v3 v4 th : Int32} {nb rec dly : Nat → Int32} {pnum psent pover ppb : Nat → Int32} {wb : Nat → Nat → Int32} {wsz : Nat → Int32} {cb : Nat → Nat → Int32} {csz : Nat → Int32} {bnum : Nat → Int32} {bcb : Nat → Nat → Int32} {bcsz : Nat → Int32} {A0 B0 A1 B1 split told quants backs scales bits : Nat → Int32} {tw me sz : Int32} {bytes : Nat → Int32} {eA0 eB0 eA1 eB1 e0 e1 recs : Nat → Int32} {row asd msc mdl mbk : Nat → Int32} {post : Int32 → Int32 → (Nat → Int32) → (Nat → Int32) → (Nat → Int32) → (Nat → Int32) → (Nat → Int32) → Prop} (h : RW t cd nx ln hd bl hb nb rec dly pnum psent pover ppb wb wsz cb csz bnum bcb bcsz A0 B0 A1 B1 split told quants backs scales bits tw me sz bytes eA0 eB0 eA1 eB1 e0 e1 recs row) (hb' : 0 < cd ∧ btw (nI p) 2 128 ∧ btw v2 0 1) (p2 : p ≤ 128) (h3 : btw v3 0 1) (h4 : btw v4 0 3)
    (g : ∀ (x : Int32) (a s d b : Nat → Int32), (v4 = 0 → x = nI ((104 + 4 * fb_sm (bitsN (cdN row v3 v2) p) 16 + 7) / 8)) → (v4 = 1 → x = tws (cdV row) v3 7) → (v4 = 2 → x = osm (fun b => osm (fun k => cpD row v3 v2 p b k + cpD row v3 v2 p (8 + b) k) 4) 8) → (v4 = 3 → pm (fun c k => c < 16 ∧ k < 4) (cpD row v3 v2 p) x) → post x 0 row a s d b) : wp_X12_coded (nI p) v2 v3 v4 th row asd msc mdl mbk post := by
  unfold wp_X12_coded
  refine t_canDeal h (fun _ => ⟨fun y => absurd y (by decide), fun _ => ?_⟩) (fun y => absurd hb' y)
  refine t_inI 0 1 (fun _ => ⟨fun y => absurd y (by decide), fun _ => ?_⟩) (fun y => absurd h3 y)
  refine t_inI 0 3 (fun _ => ⟨fun y => absurd y (by decide), fun _ => ?_⟩) (fun y => absurd h4 y)
  refine t_copy 0 0 ?_
  generalize eF : va_cpy row asd 0 0 13385 = F
  have hF : ∀ j, j < 13385 → F j = row j := fun j hj => by rw [← eF, cpy0 hj]
  rintro f9 rfl
  have h9 : upd row 9 v3 9 = v3 := pk_us
  refine t12_layCoded (V := cdV row) (fun c hc k hk => by rw [pk_un (by omega)]; rfl) (fun f10 a1 a2 a3 a4 => ?_)
  rw [h9] at a1 a2 a3
  have a4' : ∀ j, (j < 557 ∨ 637 ≤ j) → j ≠ 653 → j ≠ 9 → f10 j = row j := fun j j1 j2 j3 => by rw [a4 j j1 j2, pk_un j3]
  refine t_takeScales (fun f11 b1 => ?_)
  refine t12_deal (nd := cdN row v3 v2) (by omega) (fun i hi => by unfold cdN; rw [b1 i hi, a2 i hi, a4' _ (by omega) (by omega) (by omega)]) (fun f12 b2 => ?_)
  rintro x13 rfl x14 rfl
  refine cinv1 0 16 (fun n s => s = nI (fb_sm (bitsN (cdN row v3 v2) p) n)) rfl ?_ ?_
  · rintro n s _ hn rfl g2 hg2
    simp (disch := omega) only [rA, nI_clamp, vpT, true_and, forall_eq]
    refine hg2 _ ?_
    rw [b2 n hn, nI_add]; rfl
  · rintro s rfl
    intro k22 hk22
    have key : ∀ (x : Int32) (f : Nat → Int32), (v4 = 0 → x = nI ((104 + 4 * fb_sm (bitsN (cdN row v3 v2) p) 16 + 7) / 8)) → (v4 = 1 → x = tws (cdV row) v3 7) → (v4 = 2 → x = osm (fun b => osm (fun k => cpD row v3 v2 p b k + cpD row v3 v2 p (8 + b) k) 4) 8) → (v4 = 3 → pm (fun c k => c < 16 ∧ k < 4) (cpD row v3 v2 p) x) → k22 x f := by
      intro x f g1 g2 g3 g4
      refine hk22 x f (t_copy 0 0 ?_)
      have er : va_cpy F f10 0 0 13385 = row := by
        funext j
        by_cases q : j < 13385
        · rw [cpy0 q, hF j q]
        · rw [pk_cpy_out (by omega), a4' j (by omega) (by omega) (by omega)]
      rw [er]
      exact g x _ _ _ _ g1 g2 g3 g4
    have hsum : fb_sm (bitsN (cdN row v3 v2) p) 16 ≤ 16 * 16 := fb_sm_bound (fun k _ => bitsN_le _ _ _)
    refine ⟨fun q => ?_, fun q0 => ⟨fun q => ?_, fun q1 => ?_⟩⟩
    · simp (disch := omega) only [lM, lA, rA, rD, forall_eq]
      exact key _ _ (fun _ => rfl) (fun z => absurd (q.symm.trans z) (by decide)) (fun z => absurd (q.symm.trans z) (by decide)) (fun z => absurd (q.symm.trans z) (by decide))
    · exact key _ _ (fun z => absurd z q0) (fun _ => a3) (fun z => absurd (q.symm.trans z) (by decide)) (fun z => absurd (q.symm.trans z) (by decide))
    · intro k28 hk28
      have go : ∀ v : Int32, (v = 0 ↔ v4 = 2) → (v = 0 ∨ v4 = 3) → k28 v := fun v hv hv2 => hk28 v (t12_differs (V := cdV row) (T := tld (cdV row) v3) (sc := scl (cdV row) v3) (bt := bitsN (cdN row v3 v2) p) (tw := tws (cdV row) v3 7) (fun c hc k hk => by rw [a4' _ (by omega) (by omega) (by omega)]; rfl) a1 (fun c hc => ⟨sclN_le _, a2 c hc⟩) (fun c hc => ⟨bitsN_le _ _ _, b2 c hc⟩) a3 (cpB row v3 v2 p) (fun _ _ => rfl) (fun x f d1 d2 => key x f (fun z => absurd z q0) (fun z => absurd z q1) (fun z => d1 (hv.mpr z)) (fun z => d2 (fun y => absurd ((hv.mp y).symm.trans z) (by decide)))))
      refine ⟨fun q => go 1 ⟨fun z => absurd z (by decide), fun z => absurd (z.symm.trans q) (by decide)⟩ (Or.inr q), fun q => go 0 ⟨fun _ => ?_, fun _ => rfl⟩ (Or.inl rfl)⟩
      obtain ⟨n, _, hn, rfl⟩ := btw_n (a := 0) (b := 3) h4
      have n0 : n ≠ 0 := fun z => q0 (by rw [z]; rfl)
      have n1 : n ≠ 1 := fun z => q1 (by rw [z]; rfl)
      have n3 : n ≠ 3 := fun z => q (by rw [z]; rfl)
      rw [show n = 2 by omega]; rfl
set_option maxHeartbeats 800000 in
set_option maxRecDepth 100000 in
theorem s_coded {v1 v2 v3 v4 th : Int32} {asd msc mdl mbk qrj : Nat → Int32} {t cd nx ln hd bl hb : Nat} {po : Int32} {nb rec dly : Nat → Int32} {pnum psent pover ppb : Nat → Int32} {wb : Nat → Nat → Int32} {wsz : Nat → Int32} {cb : Nat → Nat → Int32} {csz : Nat → Int32} {bnum : Nat → Int32} {bcb : Nat → Nat → Int32} {bcsz : Nat → Int32} {A0 B0 A1 B1 split told quants backs scales bits : Nat → Int32} {tw me sz : Int32} {bytes : Nat → Int32} {eA0 eB0 eA1 eB1 e0 e1 recs : Nat → Int32} {qtw qme qpo : Int32} {qsp qto qqu qba qsc qbi qne : Nat → Int32} {row : Nat → Int32} {P : Int32 → Int32 → Int32 → Int32 → (Nat → Int32) → (Nat → Int32) → (Nat → Int32) → (Nat → Int32) → (Nat → Int32) → (Nat → Int32) → (Nat → Int32) → (Nat → Int32) → Int32 → Int32 → (Nat → Int32) → (Nat → Int32) → (Nat → Int32) → (Nat → Int32) → (Nat → Int32) → Prop} (h : RW t cd nx ln hd bl hb nb rec dly pnum psent pover ppb wb wsz cb csz bnum bcb bcsz A0 B0 A1 B1 split told quants backs scales bits tw me sz bytes eA0 eB0 eA1 eB1 e0 e1 recs row) (hp : ∀ r (qtw qme qpo : Int32) (qsp qto qqu qba qsc qbi qne : Nat → Int32) (qrj a s d b : Nat → Int32), P r qtw qme qpo qsp qto qqu qba qsc qbi qne qrj r 0 row a s d b) :
    wp_X11_coded v1 v2 v3 v4 nb qtw qme qpo tw me po split qsp told qto quants qqu backs qba scales qsc bits qbi qne qrj (fun r qtw qme qpo qsp qto qqu qba qsc qbi qne qrj => wp_X12_coded v1 v2 v3 v4 th row asd msc mdl mbk (fun r' th' row' a s d b => P r qtw qme qpo qsp qto qqu qba qsc qbi qne qrj r' th' row' a s d b)) := by
  unfold wp_X11_coded
  refine t_onPaper h (fun p m c0 e1 p1 p2 e2 m2 => ⟨fun z => absurd z (by decide), fun _ => ?_⟩) (fun q => ⟨fun _ => by unfold wp_X12_coded; exact t_canDeal h (fun y => absurd y q) (fun _ => ⟨fun _ => hp _ _ _ _ _ _ _ _ _ _ _ _ _ _ _ _, fun z => absurd rfl z⟩), fun z => absurd rfl z⟩)
  have hb' : 0 < cd ∧ btw v1 2 128 ∧ btw v2 0 1 := by rw [e1, e2]; exact papB c0 p1 p2 m2
  refine t_within (fun q3 => ⟨fun z => absurd z (by decide), fun _ => ?_⟩) (fun q3 => ⟨fun _ => by unfold wp_X12_coded; exact t_canDeal h (fun _ => ⟨fun z => absurd z (by decide), fun _ => t_inI 0 1 (fun y => absurd y q3) (fun _ => ⟨fun _ => hp _ _ _ _ _ _ _ _ _ _ _ _ _ _ _ _, fun z => absurd rfl z⟩)⟩) (fun y => absurd hb' y), fun z => absurd rfl z⟩)
  have no : ¬ btw v4 0 3 → ∀ (qtw qme qpo : Int32) (qsp qto qqu qba qsc qbi qne : Nat → Int32) (qrj : Nat → Int32), wp_X12_coded v1 v2 v3 v4 th row asd msc mdl mbk (fun r' th' row' a s d b => P (-1) qtw qme qpo qsp qto qqu qba qsc qbi qne qrj r' th' row' a s d b) := fun q4 _ _ _ _ _ _ _ _ _ _ _ => by
    unfold wp_X12_coded
    exact t_canDeal h (fun _ => ⟨fun z => absurd z (by decide), fun _ => t_inI 0 1 (fun _ => ⟨fun z => absurd z (by decide), fun _ => t_inI 0 3 (fun y => absurd y q4) (fun _ => ⟨fun _ => hp _ _ _ _ _ _ _ _ _ _ _ _ _ _ _ _, fun z => absurd rfl z⟩)⟩) (fun y => absurd q3 y)⟩) (fun y => absurd hb' y)
  obtain ⟨esp, eto, ⟨sc, bt, hsc, hbt, _⟩, _⟩ := h.fr c0
  subst e1
  unfold wp_X4_become
  rintro _ rfl _ rfl _ rfl _ rfl _ rfl _ rfl
  have eV : ∀ c, c < 16 → ∀ k, k < 4 → va_cpy split qsp 0 0 64 (16 * k + c) = cdV row c k := fun c hc k hk => by rw [cpy0 (by omega)]; exact esp c hc k hk
  refine t4_tell (V := cdV row) eV (fun f15 f16 a1 a2 => ?_)
  refine t4_deal (nd := cdN row v3 v2) rfl (by omega) (fun i hi => by unfold cdN; rw [a2 i hi, nbLo h.aft.1]) (fun f19 f20 b2 => ?_)
  refine t4_quantise (T := tld (cdV row) v3) (sc := scl (cdV row) v3) (bt := bitsN (cdN row v3 v2) p) a1 a2 (fun c _ => sclN_le _) b2 (fun c _ => bitsN_le _ _ _) (fun f21 f22 hqb => ?_)
  refine t4_undo (V := cpB row v3 v2 p) (fun c hc k hk => (hqb c hc k hk).2) (fun f23 hR => ?_)
  have hsum : fb_sm (bitsN (cdN row v3 v2) p) 16 ≤ 16 * 16 := fb_sm_bound (fun k _ => bitsN_le _ _ _)
  have hs2 : fb_sm (bitsN (cdN row v3 v2) p) 16 = fb_sm (fun i => bitsN (cdN row v3 v2) p (8 * 0 + i)) 8 + fb_sm (fun i => bitsN (cdN row v3 v2) p (8 * 1 + i)) 8 := by
    simp only [fb_sm, Nat.mul_zero, Nat.mul_one, Nat.zero_add, Nat.reduceAdd, Nat.add_assoc, Nat.add_zero]
  have in4 : ∀ n, n ≤ 3 → btw (nI n) 0 3 := fun n hn => (btw_i (a := 0) (b := 3)).mpr ⟨by omega, hn⟩
  refine ⟨fun q => ?_, fun q => ?_, fun q => ?_, fun q => ?_, fun q0 q1 q2 q3' => ?_⟩
  · refine t4_bitsOf (c := 0) (bt := bitsN (cdN row v3 v2) p) (by omega) b2 (t4_bitsOf (c := 1) (bt := bitsN (cdN row v3 v2) p) (by omega) b2 ?_)
    rw [nI_add, ← hs2]
    refine t1_bytesFor (by omega) ?_
    refine t12_coded h hb' p2 q3 (by rw [q]; exact in4 0 (by omega)) (fun x a s d b g1 _ _ _ => ?_)
    rw [g1 q, show (104 + 4 * fb_sm (bitsN (cdN row v3 v2) p) 16 + 7) / 8 = 13 + (4 * fb_sm (bitsN (cdN row v3 v2) p) 16 + 7) / 8 by omega]
    exact hp _ _ _ _ _ _ _ _ _ _ _ _ _ _ _ _
  · refine t12_coded h hb' p2 q3 (by rw [q]; exact in4 1 (by omega)) (fun x a s d b _ g1 _ _ => ?_)
    rw [g1 q]
    exact hp _ _ _ _ _ _ _ _ _ _ _ _ _ _ _ _
  · refine t4_sumOff eV hR ?_
    refine t12_coded h hb' p2 q3 (by rw [q]; exact in4 2 (by omega)) (fun x a s d b _ _ g1 _ => ?_)
    rw [g1 q]
    exact hp _ _ _ _ _ _ _ _ _ _ _ _ _ _ _ _
  · refine t4_mostOff eV hR (fun y hy => ?_)
    refine t12_coded h hb' p2 q3 (by rw [q]; exact in4 3 (by omega)) (fun x a s d b _ _ _ g1 => ?_)
    rw [pm_un (g1 q) hy]
    exact hp _ _ _ _ _ _ _ _ _ _ _ _ _ _ _ _
  · refine no (fun y => ?_) _ _ _ _ _ _ _ _ _ _ _
    obtain ⟨n, _, hn, rfl⟩ := btw_n (a := 0) (b := 3) y
    have : n = 0 ∨ n = 1 ∨ n = 2 ∨ n = 3 := by omega
    rcases this with rfl | rfl | rfl | rfl
    · exact q0 rfl
    · exact q1 rfl
    · exact q2 rfl
    · exact q3' rfl
