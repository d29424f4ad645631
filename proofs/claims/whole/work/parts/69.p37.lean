/-! pure part 37: the reference plays -/
def hv (x8 : Int32) : Int32 := if x8 = 0 then 2 else 1
def M_fin (x8 : Int32) (sd nx tl : Nat) (lv fd : Int32) (cm row : Nat → Int32) : Nat → Int32 :=
  let r1 := M_keep cm row
  let o := od row sd nx cm
  let r2 := upd r1 41 (if x8 = 0 then r1 41 else omx o (r1 41) 64)
  let r3 := upd r2 40 (r2 40 + (if x8 = 0 then 0 else osm o 64))
  let r4 := if nx < 2500 then upd r3 (3385 + 4 * nx + 2) (hv x8) else r3
  let r6 := upd (M_tell tl r4 (nI nx) (hv x8) lv (osm o 64) fd) 30 (nI (nx + 1))
  if (nx + 1) % 8 = 0 then M_trim r6 else r6
theorem M_keep_o {cm row : Nat → Int32} {j : Nat} (h : j < 109 ∨ 493 ≤ j) : M_keep cm row j = row j := by
  unfold M_keep; rw [if_neg (by omega)]
theorem M_keep_c {cm cm' row : Nat → Int32} (h : ∀ n, n < 64 → cm n = cm' n) : M_keep cm row = M_keep cm' row := by
  funext j; unfold M_keep
  by_cases a : 109 ≤ j ∧ j < 493
  · rw [if_pos a, if_pos a]
    by_cases b : (j - 109) % 192 < 160
    · rw [if_pos b, if_pos b]
    · rw [if_neg b, if_neg b]; exact h _ (by omega)
  · rw [if_neg a, if_neg a]
theorem M_fin_c {x8 : Int32} {sd nx tl : Nat} {lv fd : Int32} {cm cm' row : Nat → Int32} (h : ∀ n, n < 64 → cm n = cm' n) : M_fin x8 sd nx tl lv fd cm row = M_fin x8 sd nx tl lv fd cm' row := by
  have ho : ∀ n, n < 64 → od row sd nx cm n = od row sd nx cm' n := fun n hn => by unfold od; rw [h n hn]
  have e1 := osm_c 64 ho
  have e2 := fun w => omx_c (w := w) 64 ho
  unfold M_fin
  simp only [M_keep_c h, e1, e2]
theorem M_tell_o {tl : Nat} {row : Nat → Int32} {v1 v2 v3 v4 v5 : Int32} {j : Nat} (h : j < 3257 ∨ 3369 ≤ j) (h52 : j ≠ 52) : M_tell tl row v1 v2 v3 v4 v5 j = row j := by
  have hmin : min tl 15 ≤ 15 := Nat.min_le_right _ _
  unfold M_tell M_tl0
  generalize min tl 15 = y at hmin
  rw [pk_un h52, pk_un (by omega), pk_un (by omega), pk_un (by omega), pk_un (by omega), pk_un (by omega), pk_un (by omega), pk_un (by omega)]
  by_cases q : tl = 16
  · rw [if_pos q, if_neg (by omega), if_neg h52]
  · rw [if_neg q]
theorem bkH_lo {f lo lo' : Nat → Int32} {z : Nat} (h : ∀ j, j < 8 → lo j = lo' j) : bkH f z lo = bkH f z lo' := by
  funext c b
  unfold bkH hQ hB hN
  have q : ∀ i : Nat, lo (i % 8) = lo' (i % 8) := fun i => h _ (by omega)
  simp only [q]
def cmA (row : Nat → Int32) (mn : Nat) : Nat → Int32 := fun n => mdF (hR row (n / 32)) (8 - mn) (n % 32)
def XB (by_ : Nat → Int32) (z : Nat) (row : Nat → Int32) (c k j : Nat) : Int32 := rjF (by_ 4) (bkH by_ z (fun j => row (17 + j))) (8 * c + j) k
def mR (row : Nat → Int32) (c : Nat) : Nat → Int32 := fun i => row (81 + 14 * c + i)
def cmH (by_ : Nat → Int32) (z : Nat) (row : Nat → Int32) : Nat → Int32 := fun n => hrF (mR row (n / 32)) (XB by_ z row (n / 32)) (n % 32)
def cmB (by_ : Nat → Int32) (z : Nat) (row : Nat → Int32) (mn : Nat) : Nat → Int32 := if mn = 0 then cmH by_ z row else fun n => blF (fun i => cmA row mn (32 * (n / 32) + i)) (fun i => cmH by_ z row (32 * (n / 32) + i)) (n % 32)
def M_mem (by_ : Nat → Int32) (z : Nat) (row : Nat → Int32) : Nat → Int32 := fun j => if 81 ≤ j ∧ j < 109 then memJ (mR row ((j - 81) / 14)) (XB by_ z row ((j - 81) / 14)) 4 ((j - 81) % 14) else row j
def M_lv (row : Nat → Int32) : Nat → Int32 := upd row 35 (row 35 + nI (lev row))
def M_pA (sd nx tl mn : Nat) (row : Nat → Int32) : Nat → Int32 := M_fin 0 sd nx tl (nI (lev row)) (nI (8 - mn)) (cmA row mn) (upd (upd (upd (M_lv row) 38 (nI (mn + 1))) 37 (row 37 + 1)) 39 (jmax (row 39) (nI (mn + 1))))
def M_pB (by_ : Nat → Int32) (sd nx tl mn z : Nat) (row : Nat → Int32) : Nat → Int32 := M_fin 1 sd nx tl (nI (lev row)) 8 (cmB by_ z row mn) (upd (upd (M_mem by_ z (M_lv row)) 38 0) 36 (row 36 + 1))
set_option maxHeartbeats 4000000 in
set_option maxRecDepth 100000 in
theorem t12_plays {sd nx tl mn : Nat} {E O bit lag lagS : Int32} {row hr made by0 scales dealt backs eight rows comes : Nat → Int32} {post : Int32 → Int32 → Int32 → Int32 → Int32 → (Nat → Int32) → (Nat → Int32) → (Nat → Int32) → (Nat → Int32) → (Nat → Int32) → (Nat → Int32) → (Nat → Int32) → (Nat → Int32) → (Nat → Int32) → (Nat → Int32) → Prop}
    (hok : okSet row) (hsd : sd < 1000000) (es : row 6 = nI sd) (hnx : nx < 5000) (e30 : row 30 = nI nx) (htl : tl ≤ 16) (e52 : row 52 = nI tl) (hmn : mn < 99999) (e38 : row 38 = nI mn) (hh : ∀ c, c < 2 → inR (hR row c) 192)
    (hA : (∀ s, s < 14 → ¬ row (2095 + 83 * s) = nI (nx + 1)) → ∀ (E' O' bit' l' s' : Int32) (a1 a2 a3 a4 a5 a6 a7 a8 a9 : Nat → Int32), post E' O' bit' l' s' (M_pA sd nx tl mn row) a1 a2 a3 a4 a5 a6 a7 a8 a9)
    (hB : ∀ s, s < 14 → row (2095 + 83 * s) = nI (nx + 1) → ∃ z by_, 13 ≤ z ∧ z ≤ 77 ∧ row (2095 + 83 * s + 1) = nI z ∧ isBy by_ 80 ∧ (∀ j, j < 80 → row (2095 + 83 * s + 2 + j) = by_ j) ∧ ∀ (E' O' bit' l' s' : Int32) (a1 a2 a3 a4 a5 a6 a7 a8 a9 : Nat → Int32), post E' O' bit' l' s' (M_pB by_ sd nx tl mn z row) a1 a2 a3 a4 a5 a6 a7 a8 a9) :
    wp_X12_plays E O bit lag lagS row hr made by0 scales dealt backs eight rows comes post := by
  unfold wp_X12_plays
  rw [e30]
  rintro _ rfl
  refine t12_level ?_
  intro f6 hf6
  have ef6 : f6 = M_lv row := hf6
  have lo6 : ∀ j, j ≠ 35 → f6 j = row j := fun j hj => by rw [ef6]; unfold M_lv; rw [pk_un hj]
  have hR6 : ∀ c, hR f6 c = hR row c := fun c => funext (fun j => lo6 _ (by omega))
  have h6 : ∀ c, c < 2 → inR (hR f6 c) 192 := fun c hc => by rw [hR6]; exact hh c hc
  have e386 : f6 38 = nI mn := by rw [lo6 38 (by omega)]; exact e38
  clear hf6
  -- the end, whatever came
  have fin : ∀ (x8 fd : Int32) (cm f23 : Nat → Int32) (R : Nat → Int32), (x8 = 0 ∨ x8 = 1) → (∀ j, j < 26 → f23 j = row j) → f23 30 = nI nx → f23 52 = nI tl → R = M_fin x8 sd nx tl (nI (lev row)) fd cm f23 →
      ∀ pst : (Nat → Int32) → Prop, pst R → wp_X12_keepsHeard f23 cm (fun f33 => ∀ x34, x34 = (0 : Int32) → ∀ x35, x35 = (0 : Int32) → Lz3 (fun g36 (x38 : Int32) (x39 : Int32) (f40 : Nat → Int32) => ((64 : Int32) ≤ x38 → ∀ k44 : Int32 → Prop, (∀ (x43 : Int32), (∀ f47 : Nat → Int32, f47 = upd f40 40 ((f40 40) + x43) → ∀ k49 : (Nat → Int32) → Prop, (∀ (f48 : Nat → Int32), (∀ k52 : Int32 → Prop, (∀ (x51 : Int32), (wp_X12_tellsPlayed (nI nx) x51 (nI (lev row)) x39 fd f48 (fun f54 => ∀ f57 : Nat → Int32, f57 = upd f54 30 ((f54 30) + (1 : Int32)) → ∀ x59 : Int32, x59 = jrem (f57 30) (8 : Int32) → (x59 = (0 : Int32) → wp_X12_trims f57 (fun f61 => pst f61)) ∧ (¬ x59 = (0 : Int32) → pst f57))) → k52 x51) → (x8 = (0 : Int32) → k52 (2 : Int32)) ∧ (¬ x8 = (0 : Int32) → k52 (1 : Int32))) → k49 f48) → ((2500 : Int32) ≤ nI nx → k49 f47) ∧ (¬ (2500 : Int32) ≤ nI nx → wp_X12_packetAt (nI nx) (fun r64 => ∀ k66 : Int32 → Prop, (∀ (x65 : Int32), (vp_in (r64 + (2 : Int32)) 13385 ∧ ∀ f69 : Nat → Int32, f69 = upd f47 (r64 + (2 : Int32)).toNatClampNeg x65 → k49 f69) → k66 x65) → (x8 = (0 : Int32) → k66 (2 : Int32)) ∧ (¬ x8 = (0 : Int32) → k66 (1 : Int32))))) → k44 x43) → (x8 = (0 : Int32) → k44 (0 : Int32)) ∧ (¬ x8 = (0 : Int32) → k44 x39)) ∧ (¬ (64 : Int32) ≤ x38 → vp_in x38 64 ∧ ∀ x73 : Int32, x73 = x38 / (32 : Int32) → ∀ x74 : Int32, x74 = jrem x38 (32 : Int32) → wp_X12_sample x73 (((32 : Int32) * nI nx) + x74) f40 (fun r75 => wp_X12_size ((cm x38.toNatClampNeg) - r75) (fun r76 => ∀ x77 : Int32, x77 = x39 + r76 → ∀ k79 : Int32 → Prop, (∀ (x78 : Int32), (∀ f82 : Nat → Int32, f82 = upd f40 41 x78 → g36 (x38 + (1 : Int32)) x77 f82) → k79 x78) → ∀ k83 : Prop, ((k79 (f40 41)) → k83) → (x8 = (0 : Int32) → k83) ∧ (¬ x8 = (0 : Int32) → (r76 ≤ (f40 41) → k83) ∧ (¬ r76 ≤ (f40 41) → k79 r76)))))) x34 x35 f33) := by
    intro x8 fd cm f23 R hx8 hlo h30 h52 hR pst hp
    rw [hR] at hp
    clear hR
    refine t12_keep ?_
    have ho : ∀ n, n < 64 → od f23 sd nx cm n = jabs (cm n - smR f23 sd nx (n / 32) (n % 32)) := fun n _ => rfl
    unfold M_fin at hp
    dsimp only at hp
    generalize od f23 sd nx cm = o at hp ho
    have k41 : ∀ j, (j < 109 ∨ 493 ≤ j) → M_keep cm f23 j = f23 j := fun j hj => M_keep_o hj
    generalize M_keep cm f23 = r1 at hp k41
    rintro _ rfl _ rfl
    refine cinv2 0 64 (fun n s f => s = osm o n ∧ f = upd r1 41 (if x8 = 0 then r1 41 else omx o (r1 41) n)) ⟨rfl, ?_⟩ ?_ ?_
    · have : (if x8 = 0 then r1 41 else omx o (r1 41) 0) = r1 41 := by
        by_cases q : x8 = 0
        · rw [if_pos q]
        · rw [if_neg q, omx]
      rw [this, upd_id]
    · rintro n s f - hn ⟨rfl, hf⟩ g hg
      have f41 : f 41 = if x8 = 0 then r1 41 else omx o (r1 41) n := by rw [hf, pk_us]
      have flo : ∀ j, j < 26 → f j = row j := fun j hj => by rw [hf, pk_un (by omega), k41 j (by omega)]; exact hlo j hj
      simp (disch := omega) only [rD, rR, lM, nI_add, nI_clamp, vpT, true_and, forall_eq]
      refine t_sample (sd := sd) (by omega) (by omega) hsd (by rw [flo _ (by omega)]; exact okP hok (by omega)) (by rw [flo _ (by omega)]; exact okM hok (by omega)) (by rw [flo _ (by omega)]; exact es) ?_
      refine t_size ?_
      have e1 : jabs (cm n - smp (f (n / 32)) (f (2 + n / 32)) (f (4 + n / 32)) sd (n / 32) (32 * nx + n % 32)) = o n := by
        rw [ho n hn, flo _ (by omega), flo _ (by omega), flo _ (by omega), ← hlo _ (by omega), ← hlo _ (by omega), ← hlo _ (by omega)]
      rw [e1]
      intro k79 hk79 k83 hk83
      have go : ∀ v, v = (if x8 = 0 then r1 41 else omx o (r1 41) (n + 1)) → k79 v := by
        intro v hv
        refine hk79 _ ?_
        rw [nI_1]
        refine hg _ _ ⟨rfl, ?_⟩
        rw [hf, hv]
        funext j
        by_cases q : j = 41
        · rw [q, pk_us, pk_us]
        · rw [pk_un q, pk_un q, pk_un q]
      refine ⟨fun q => hk83 (go _ (by rw [f41, if_pos q, if_pos q])), fun q => ⟨fun w => hk83 (go _ ?_), fun w => go _ ?_⟩⟩
      · rw [f41, if_neg q, if_neg q, omx]
        rw [f41, if_neg q] at w
        exact (if_neg (fun y => by rw [fa_lt] at y; rw [fa_le] at w; omega)).symm
      · rw [if_neg q, omx]
        rw [f41, if_neg q] at w
        exact (if_pos (by rw [fa_lt]; rw [fa_le] at w; omega)).symm
    · rintro s f ⟨rfl, hf⟩ k44 hk44
      have f40 : f 40 = r1 40 := by rw [hf, pk_un (by decide)]
      rw [← hf] at hp
      have g44 : k44 (if x8 = 0 then 0 else osm o 64) := by
        refine hk44 _ ?_
        intro f47 hf47
        rw [← hf47] at hp
        have lo47 : ∀ j, (j < 40 ∨ 42 ≤ j) → (j < 109 ∨ 493 ≤ j) → f47 j = f23 j := fun j h1 h2 => by
          rw [hf47, pk_un (by omega), hf, pk_un (by omega)]; exact k41 j h2
        clear hf47 hf f40
        intro k49 hk49
        have g49 : ∀ f48, f48 = (if nx < 2500 then upd f47 (3385 + 4 * nx + 2) (hv x8) else f47) → k49 f48 := by
          intro f48 hf48
          rw [← hf48] at hp
          have lo48 : ∀ j, j < 40 ∨ j = 52 → f48 j = f23 j := fun j hj => by
            rw [hf48]
            by_cases q : nx < 2500
            · rw [if_pos q, pk_un (by omega)]; exact lo47 j (by omega) (by omega)
            · rw [if_neg q]; exact lo47 j (by omega) (by omega)
          refine hk49 _ (fun k52 hk52 => ?_)
          have g52 : k52 (hv x8) := by
            refine hk52 _ ?_
            refine t12_tells htl ((lo48 52 (by omega)).trans h52) ?_
            have e54 : M_tell tl f48 (nI nx) (hv x8) (nI (lev row)) (osm o 64) fd 30 = nI nx := by
              rw [M_tell_o (by omega) (by omega), lo48 30 (by omega)]; exact h30
            rw [e54]
            simp (disch := omega) only [rA]
            intro f57 hf57
            rw [← hf57] at hp
            have e57 : f57 30 = nI (nx + 1) := by rw [hf57, pk_us]
            rw [e57]
            simp (disch := omega) only [rR, forall_eq]
            refine ⟨fun q => ?_, fun q => ?_⟩
            · have q2 : (nx + 1) % 8 = 0 := (nI_eq (b := 0) (by omega) (by omega)).mp q
              rw [if_pos q2] at hp
              exact t12_trims hp
            · rw [if_neg (fun y => q (by rw [y]; rfl))] at hp
              exact hp
          unfold hv at g52
          refine ⟨fun q => ?_, fun q => ?_⟩
          · rw [if_pos q] at g52; exact g52
          · rw [if_neg q] at g52; exact g52
        refine ⟨fun q => g49 _ ?_, fun q => ?_⟩
        · have := (nI_leI (a := 2500) (by omega) (by omega)).mp q
          rw [if_neg (by omega)]
        · have hq : nx < 2500 := by
            rcases Nat.lt_or_ge nx 2500 with y | y
            · exact y
            · exact absurd ((nI_leI (a := 2500) (by omega) (by omega)).mpr y) q
          unfold wp_X12_packetAt
          simp (disch := omega) only [lM, lA, rA, nI_clamp, vpT, true_and]
          intro k66 hk66
          have g66 : k66 (hv x8) := hk66 _ (fun f69 e => g49 _ (by rw [if_pos hq]; exact e))
          unfold hv at g66
          refine ⟨fun q => ?_, fun q => ?_⟩
          · rw [if_pos q] at g66; exact g66
          · rw [if_neg q] at g66; exact g66
      refine ⟨fun q => ?_, fun q => ?_⟩
      · rw [if_pos q] at g44; exact g44
      · rw [if_neg q] at g44; exact g44
  refine t12_storeOf (fun hno => ?_) (fun s hs hrow => ?_)
  · have hno' : ∀ s, s < 14 → ¬ row (2095 + 83 * s) = nI (nx + 1) := fun s hs q => hno s hs (by rw [lo6 _ (by omega)]; exact q)
    intro k9 hk9
    refine ⟨fun _ => hk9 _ (fun k12 hk12 => ⟨fun _ => t12_fade e386 (by omega) (hk12 _ (fun k18 hk18 k146 hk146 => ⟨fun _ => hk146 ?_, fun q => absurd rfl q⟩)), fun q => absurd rfl q⟩), fun q => absurd rfl q⟩
    refine t12_layMade e386 (by omega) h6 (fun l' s' fh made' hmade => ?_)
    refine hk18 _ _ _ _ (fun k31 hk31 => ⟨fun _ => ?_, fun q => absurd rfl q⟩)
    rintro _ rfl
    refine cinv1 0 64 (fun n g => ∀ j, j < n → g j = made' j) (fun j hj => absurd hj (Nat.not_lt_zero _)) ?_ ?_
    · intro n g _ hn hI g2 hg2
      simp (disch := omega) only [nI_clamp, vpT, true_and, forall_eq]
      rw [nI_1]
      refine hg2 _ (fun j hj => ?_)
      by_cases q : j = n
      · subst q; rw [pk_us]
      · rw [pk_un q]; exact hI j (by omega)
    · intro cm hcm
      have hcmA : ∀ n, n < 64 → cm n = cmA row mn n := fun n hn => by
        have := hmade (n / 32) (by omega) (n % 32) (by omega)
        rw [hR6, show 32 * (n / 32) + n % 32 = n by omega] at this
        rw [hcm n hn, this]; rfl
      have e1 : f6 38 + 1 = nI (mn + 1) := by rw [e386]; simp (disch := omega) only [rA]
      rw [e1]
      intro f98 hf98 f101 hf101 k105 hk105
      have e37 : f98 37 = row 37 := by rw [hf98, pk_un (by decide)]; exact lo6 37 (by omega)
      have e38' : f101 38 = nI (mn + 1) := by rw [hf101, pk_un (by decide), hf98, pk_us]
      have e39' : f101 39 = row 39 := by rw [hf101, pk_un (by decide), hf98, pk_un (by decide)]; exact lo6 39 (by omega)
      rw [e38', e39']
      have go : k105 (jmax (row 39) (nI (mn + 1))) := by
        refine hk105 _ (fun f108 hf108 => hk31 _ _ _ _ _ _ _ _ _ _ _ ?_)
        have lo108 : ∀ j, (j < 35 ∨ 40 ≤ j) → f108 j = row j := fun j hj => by
          rw [hf108, pk_un (by omega), hf101, pk_un (by omega), hf98, pk_un (by omega)]; exact lo6 j (by omega)
        refine fin 0 (nI (8 - mn)) cm f108 (M_pA sd nx tl mn row) (Or.inl rfl) (fun j hj => lo108 j (by omega)) ((lo108 30 (by omega)).trans e30) ((lo108 52 (by omega)).trans e52) ?_ (fun r => post E O bit l' s' r fh made' by0 scales dealt backs eight rows cm) (hA hno' _ _ _ _ _ _ _ _ _ _ _ _ _ _)
        unfold M_pA
        rw [M_fin_c hcmA, hf108, hf101, e37, hf98, ef6]
      refine ⟨fun q => ?_, fun q => ?_⟩
      · have : jmax (row 39) (nI (mn + 1)) = row 39 := if_neg (fun y => by rw [fa_lt] at y; rw [fa_le] at q; omega)
        rw [this] at go; exact go
      · have : jmax (row 39) (nI (mn + 1)) = nI (mn + 1) := if_pos (by rw [fa_lt]; rw [fa_le] at q; omega)
        rw [this] at go; exact go
  · rw [lo6 _ (by omega)] at hrow
    obtain ⟨z, by_, hz1, hz2, ez, hby, eby, hpo⟩ := hB s hs hrow
    intro k9 hk9
    refine ⟨fun q => ?_, fun _ => hk9 _ (fun k12 hk12 => ⟨fun q => absurd q (by decide), fun _ => hk12 _ (fun k18 hk18 k146 hk146 => ⟨fun q => absurd q (by decide), fun _ => ?_⟩)⟩)⟩
    · have := congrArg Int32.toInt q
      rw [nI_toInt (by omega)] at this
      have e : ((-1 : Int32)).toInt = -1 := by decide
      rw [e] at this; omega
    · have main : ∀ (l' s' : Int32) (fh made' : Nat → Int32), (0 < mn → ∀ c, c < 2 → ∀ i, i < 32 → made' (32 * c + i) = cmA row mn (32 * c + i)) → k18 l' s' fh made' := by
        intro l' s' fh made' hmade
        refine hk18 _ _ _ _ (fun k31 hk31 => ⟨fun q => absurd q (by decide), fun _ => ?_⟩)
        rintro _ rfl
        refine cinv1 0 80 (fun n g => ∀ j, j < n → g j = by_ j) (fun j hj => absurd hj (Nat.not_lt_zero _)) ?_ ?_
        · intro n g _ hn hI g2 hg2
          simp (disch := omega) only [rA, nI_add, nI_clamp, vpT, true_and, forall_eq]
          refine hg2 _ (fun j hj => ?_)
          by_cases q : j = n
          · subst q; rw [pk_us, lo6 _ (by omega)]; exact eby j hn
          · rw [pk_un q]; exact hI j (by omega)
        · intro g hg
          have ez6 : f6 (2095 + 83 * s + 1) = nI z := by rw [lo6 _ (by omega)]; exact ez
          simp (disch := omega) only [rA, nI_clamp, vpT, true_and, ez6]
          refine t12_hears hz1 hz2 (fun j hj => by rw [hg j hj]; exact hby j hj) (fun E' O' bit' sc' de' row' ba' ei' ro' co' j1 j2 j3 => ?_)
          have eX : ∀ c, (fun k j => rjF (g 4) (bkH g z (fun j => f6 (17 + j))) (8 * c + j) k) = XB by_ z f6 c := fun c => by
            funext k j; unfold XB; rw [hg 4 (by omega), bkH_c hg (by omega)]
          have eM : row' = M_mem by_ z f6 := by
            funext j; unfold M_mem
            by_cases a : 81 ≤ j ∧ j < 109
            · rw [if_pos a]
              have := j1 ((j - 81) / 14) (by omega) ((j - 81) % 14) (by omega)
              rw [eX, show 81 + 14 * ((j - 81) / 14) + (j - 81) % 14 = j by omega] at this
              exact this
            · rw [if_neg a]; exact j2 j (by omega)
          have eXr : ∀ c, XB by_ z f6 c = XB by_ z row c := fun c => by
            funext k j; unfold XB
            have : bkH by_ z (fun j => f6 (17 + j)) = bkH by_ z (fun j => row (17 + j)) := bkH_lo (fun j hj => lo6 _ (by omega))
            rw [this]
          have eH : ∀ c, c < 2 → ∀ i, i < 32 → co' (32 * c + i) = cmH by_ z row (32 * c + i) := fun c hc i hi => by
            rw [j3 c hc i hi, eX, eXr]
            unfold cmH
            rw [show (32 * c + i) / 32 = c by omega, show (32 * c + i) % 32 = i by omega]
            rw [show (fun i => f6 (81 + 14 * c + i)) = mR row c from funext (fun i => lo6 _ (by omega))]
          have e38m : row' 38 = nI mn := by rw [j2 38 (by omega)]; exact e386
          have e36m : row' 36 = row 36 := by rw [j2 36 (by omega)]; exact lo6 36 (by omega)
          intro k134 hk134
          have go : ∀ cm : Nat → Int32, (∀ n, n < 64 → cm n = cmB by_ z row mn n) → k134 cm := by
            intro cm hcm
            refine hk134 _ (fun f137 hf137 f140 hf140 => hk31 _ _ _ _ _ _ _ _ _ _ _ ?_)
            have lo140 : ∀ j, (j < 35 ∨ (40 ≤ j ∧ j < 81) ∨ 109 ≤ j) → f140 j = row j := fun j hj => by
              rw [hf140, pk_un (by omega), hf137, pk_un (by omega), j2 j (by omega)]; exact lo6 j (by omega)
            refine fin 1 8 cm f140 (M_pB by_ sd nx tl mn z row) (Or.inr rfl) (fun j hj => lo140 j (by omega)) ((lo140 30 (by omega)).trans e30) ((lo140 52 (by omega)).trans e52) ?_ (fun r => post E' O' bit' l' s' r fh made' g sc' de' ba' ei' ro' cm) (hpo _ _ _ _ _ _ _ _ _ _ _ _ _ _)
            unfold M_pB
            have e36n : f137 36 = row 36 := by rw [hf137, pk_un (by decide)]; exact e36m
            rw [M_fin_c hcm, hf140, e36n, hf137, eM, ef6]
          rw [e38m]
          refine ⟨fun q => go _ (fun n hn => ?_), fun q => t12_blends (fun cm hcm => go cm (fun n hn => ?_))⟩
          · have m0 : mn = 0 := by have := (nI_leI (b := 0) (by omega) (by omega)).mp q; omega
            unfold cmB; rw [if_pos m0]
            have := eH (n / 32) (by omega) (n % 32) (by omega)
            rw [show 32 * (n / 32) + n % 32 = n by omega] at this
            exact this
          · have m0 : ¬ mn = 0 := fun y => q (by rw [y]; decide)
            unfold cmB; rw [if_neg m0]
            have := hcm (n / 32) (by omega) (n % 32) (by omega)
            rw [show 32 * (n / 32) + n % 32 = n by omega] at this
            rw [this]
            exact blF_c (hmade (by omega) _ (by omega) _ (by omega)) (eH _ (by omega) _ (by omega))
      rw [e386]
      refine ⟨fun q => main _ _ _ _ (fun y => ?_), fun q => hk146 (t12_layMade e386 (by omega) h6 (fun l' s' fh made' hmade => main _ _ _ _ (fun _ c hc i hi => ?_)))⟩
      · have := (nI_leI (b := 0) (by omega) (by omega)).mp q
        omega
      · rw [hmade c hc i hi, hR6]
        unfold cmA
        rw [show (32 * c + i) / 32 = c by omega, show (32 * c + i) % 32 = i by omega]
