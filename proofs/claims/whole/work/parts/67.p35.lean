/-! pure part 35: what came is held against what was sent; the trim -/
def osm (f : Nat → Int32) : Nat → Int32
  | 0 => 0
  | n + 1 => osm f n + f n
def omx (f : Nat → Int32) (w : Int32) : Nat → Int32
  | 0 => w
  | n + 1 => jmax (omx f w n) (f n)
def od (row : Nat → Int32) (sd nx : Nat) (cm : Nat → Int32) : Nat → Int32 := fun n => jabs (cm n - smR row sd nx (n / 32) (n % 32))
theorem jmax_a (a b c : Int32) : jmax a (jmax b c) = jmax (jmax a b) c := by
  unfold jmax
  by_cases h1 : b < c
  · rw [if_pos h1]
    by_cases h2 : a < b
    · have h3 : a < c := by rw [fa_lt] at h1 h2 ⊢; omega
      rw [if_pos h2, if_pos h1, if_pos h3]
    · rw [if_neg h2]
  · rw [if_neg h1]
    by_cases h2 : a < b
    · rw [if_pos h2, if_neg h1]
    · rw [if_neg h2]
      have h3 : ¬ a < c := by rw [fa_lt] at h1 h2 ⊢; omega
      rw [if_neg h3]
theorem omx_w {f : Nat → Int32} {w : Int32} (hw : ¬ w < 0) : ∀ n, omx f w n = jmax w (omx f 0 n)
  | 0 => by rw [omx, omx]; exact (if_neg hw).symm
  | n + 1 => by rw [omx, omx, omx_w hw n, jmax_a]
theorem omx_p {f : Nat → Int32} {w : Int32} (hw : ¬ w < 0) (n : Nat) : ¬ omx f w n < 0 := by
  induction n with
  | zero => exact hw
  | succ n ih =>
    rw [omx]; unfold jmax
    by_cases q : omx f w n < f n
    · rw [if_pos q]; intro y; apply ih; rw [fa_lt] at q y ⊢; omega
    · rw [if_neg q]; exact ih
theorem od_c {row row' : Nat → Int32} {sd nx : Nat} {cm : Nat → Int32} (h : ∀ j, j < 6 → row' j = row j) (n : Nat) (hn : n < 64) : od row' sd nx cm n = od row sd nx cm n := by
  unfold od smR
  rw [h _ (by omega), h _ (by omega), h _ (by omega)]
theorem osm_c {f g : Nat → Int32} : ∀ n, (∀ i, i < n → f i = g i) → osm f n = osm g n
  | 0, _ => rfl
  | n + 1, h => by rw [osm, osm, osm_c n (fun i hi => h i (by omega)), h n (by omega)]
theorem omx_c {f g : Nat → Int32} {w : Int32} : ∀ n, (∀ i, i < n → f i = g i) → omx f w n = omx g w n
  | 0, _ => rfl
  | n + 1, h => by rw [omx, omx, omx_c n (fun i hi => h i (by omega)), h n (by omega)]
theorem smC {nx sd : Nat} {nb row : Nat → Int32} (hN : rNum nb row) (hok : okSet row) (hsd : sd < 1000000) (es : row 6 = nI sd) (hnx : nx < 5000) {c : Nat} (hc : c < 2) {i : Nat} (hi : i < 32) {pst : Int32 → Prop} (hp : pst (smR row sd nx c i)) : wp_X11_sampleOf 54 (nI c) (nI (32 * nx + i)) nb pst := by
  have b20 : nb 20 = nI sd := (hN 20 (by omega) (by omega) (by omega) (by omega)).trans es
  have b48 : nb (48 + 3 * c) = row c ∧ nb (48 + 3 * c + 1) = row (2 + c) ∧ nb (48 + 3 * c + 2) = row (4 + c) := by
    have hc2 : c = 0 ∨ c = 1 := by omega
    rcases hc2 with rfl | rfl
    · exact ⟨hN 48 (by omega) (by omega) (by omega) (by omega), hN 49 (by omega) (by omega) (by omega) (by omega), hN 50 (by omega) (by omega) (by omega) (by omega)⟩
    · exact ⟨hN 51 (by omega) (by omega) (by omega) (by omega), hN 52 (by omega) (by omega) (by omega) (by omega), hN 53 (by omega) (by omega) (by omega) (by omega)⟩
  obtain ⟨e1, e2, e3⟩ := b48
  obtain ⟨p, hp2, hp200, ep⟩ := hok.2.2.2.2.2.2.2.1 c hc
  refine t_sampleOf (sd := sd) rfl hc (by omega) hsd (by rw [e1, ep]; exact (nI_ltI (a := 1) (by omega) (by omega)).mpr (by omega)) (by rw [e3]; exact okM hok hc) b20 ?_
  rw [e1, e2, e3]; exact hp
def cmpN (nb : Nat → Int32) (v2 s m : Int32) : Nat → Int32 := if v2 = 0 then nb else upd (upd nb 17 (nb 17 + s)) 18 (jmax (nb 18) m)
set_option maxHeartbeats 4000000 in
set_option maxRecDepth 100000 in
theorem t6_compare {nx sd : Nat} {v2 : Int32} {nb row cm e0 e1 : Nat → Int32} {post : Int32 → (Nat → Int32) → Prop} (hN : rNum nb row) (hok : okSet row) (hsd : sd < 1000000) (es : row 6 = nI sd) (hnx : nx < 5000) (he0 : ∀ i, i < 32 → e0 (160 + i) = cm i) (he1 : ∀ i, i < 32 → e1 (160 + i) = cm (32 + i))
    (h : post (osm (od row sd nx cm) 64) (cmpN nb v2 (osm (od row sd nx cm) 64) (omx (od row sd nx cm) 0 64))) : wp_X6_compare (nI nx) v2 nb e0 e1 post := by
  unfold wp_X6_compare
  rintro _ rfl _ rfl _ rfl
  have od0 : ∀ i, i < 32 → od row sd nx cm i = jabs (cm i - smR row sd nx 0 i) := fun i hi => by
    unfold od; rw [show i / 32 = 0 by omega, show i % 32 = i by omega]
  have od1 : ∀ i, i < 32 → od row sd nx cm (32 + i) = jabs (cm (32 + i) - smR row sd nx 1 i) := fun i hi => by
    unfold od; rw [show (32 + i) / 32 = 1 by omega, show (32 + i) % 32 = i by omega]
  generalize od row sd nx cm = o at h od0 od1
  refine cinv2 0 32 (fun i m s => m = omx o 0 i ∧ s = osm o i) ⟨rfl, rfl⟩ ?_ ?_
  · rintro i m s - hi ⟨rfl, rfl⟩ g hg
    simp (disch := omega) only [lM, nI_add]
    refine smC (c := 0) hN hok hsd es hnx (by omega) hi ?_
    unfold wp_X3_sampleAgo
    simp (disch := omega) only [lS, nI_clamp, vpT, true_and, forall_eq]
    rw [show 191 - (31 - i) = 160 + i by omega, he0 i hi, ← od0 i hi, nI_1]
    exact hg _ _ ⟨rfl, rfl⟩
  · rintro m s ⟨rfl, rfl⟩ _ rfl
    refine cinv2 0 32 (fun i m s => m = omx o 0 (32 + i) ∧ s = osm o (32 + i)) ⟨rfl, rfl⟩ ?_ ?_
    · rintro i m s - hi ⟨rfl, rfl⟩ g hg
      simp (disch := omega) only [lM, nI_add]
      refine smC (c := 1) hN hok hsd es hnx (by omega) hi ?_
      unfold wp_X3_sampleAgo
      simp (disch := omega) only [lS, nI_clamp, vpT, true_and, forall_eq]
      rw [show 191 - (31 - i) = 160 + i by omega, he1 i hi, ← od1 i hi, nI_1]
      exact hg _ _ ⟨rfl, rfl⟩
    · rintro m s ⟨rfl, rfl⟩
      unfold cmpN at h
      refine ⟨fun q => ?_, fun q => ?_⟩
      · rw [if_pos q] at h; exact h
      · rw [if_neg q] at h
        rintro _ rfl _ rfl _ rfl
        rw [pk_un (by decide)]; exact h
def M_trim (row : Nat → Int32) : Nat → Int32 := upd (upd (upd row 34 (near (row 34 + (row 35 - 8 * row 13)) (-1600) 1600)) 33 (near (((4 * (row 35 - 8 * row 13)) + near (row 34 + (row 35 - 8 * row 13)) (-1600) 1600) >>> ((3 : Int32) &&& 31)) (-100) 100)) 35 0
theorem t12_trims {row : Nat → Int32} {post : (Nat → Int32) → Prop} (h : post (M_trim row)) : wp_X12_trims row post := by
  unfold wp_X12_trims
  rintro _ rfl
  refine t_nearI (-1600) 1600 ?_
  rintro _ rfl
  rw [pk_us]
  refine t_nearI (-100) 100 ?_
  rintro _ rfl _ rfl
  exact h
theorem t6_trim {nb row : Nat → Int32} {post : (Nat → Int32) → Prop} (hN : rNum nb row) (h : ∀ nb' : Nat → Int32, rNum nb' (M_trim row) → nb' 6 = nb 6 → nb' 38 = nb 38 → nb' 39 = nb 39 → post nb') : wp_X6_trim nb post := by
  have b10 : nb 11 = row 34 := hN 11 (by omega) (by omega) (by omega) (by omega)
  have b12 : nb 12 = row 35 := hN 12 (by omega) (by omega) (by omega) (by omega)
  have b27 : nb 27 = row 13 := hN 27 (by omega) (by omega) (by omega) (by omega)
  unfold wp_X6_trim
  rintro _ rfl
  refine t_near ?_
  rintro _ rfl
  rw [pk_us]
  refine t_near ?_
  rintro _ rfl _ rfl
  rw [b10, b12, b27]
  refine h _ ?_ rfl rfl rfl
  exact rNum_u (j := 12) (rNum_u (j := 10) (rNum_u (j := 11) hN (by omega)) (by omega)) (by omega)
theorem M_trim_o {row : Nat → Int32} {j : Nat} (h : j < 33 ∨ 36 ≤ j) : M_trim row j = row j := by
  unfold M_trim; rw [pk_un (by omega), pk_un (by omega), pk_un (by omega)]
theorem M_trim_r (row : Nat → Int32) : -100 ≤ (M_trim row 33).toInt ∧ (M_trim row 33).toInt ≤ 100 := by
  unfold M_trim
  rw [pk_un (by decide), pk_us]
  generalize ((4 * (row 35 - 8 * row 13)) + near (row 34 + (row 35 - 8 * row 13)) (-1600) 1600) >>> ((3 : Int32) &&& 31) = v
  unfold near
  have e1 : ((-100 : Int32)).toInt = -100 := by decide
  have e2 : ((100 : Int32)).toInt = 100 := by decide
  by_cases a : (-100 : Int32) ≤ v
  · rw [if_pos a]
    have a2 := (fa_le (-100) v).mp a
    rw [e1] at a2
    by_cases b : v ≤ 100
    · rw [if_pos b]
      have b2 := (fa_le v 100).mp b
      rw [e2] at b2
      exact ⟨a2, b2⟩
    · rw [if_neg b, e2]; decide
  · rw [if_neg a, e1]; decide
