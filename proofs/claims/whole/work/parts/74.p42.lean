/-! pure part 42: the end of a FRAME PLAYED, class -/
theorem t_floor16 {n : Nat} {post : Int32 → Prop} (hn : n < 100000) (h : post (nI (n % 16))) : wp_J9_floorMod_7cf53 (nI n) 16 post := by
  unfold wp_J9_floorMod_7cf53
  have hx : (0 : Int32) ≤ nI n ^^^ (16 : Int32) := by
    have e : nI n ^^^ (16 : Int32) = nI (n ^^^ 16) := nx_xor n 16
    rw [e]
    exact (nI_leI (a := 0) (by omega) (Nat.lt_of_lt_of_le (Nat.xor_lt_two_pow (n := 17) (by omega) (by omega)) (by omega))).mpr (Nat.zero_le _)
  refine ⟨by decide, ?_⟩
  rintro _ rfl
  rw [rR (by omega) (by omega) (by omega)]
  exact ⟨fun _ => h, fun q => absurd hx q⟩
theorem t6_recordAt {n : Nat} {post : Int32 → Prop} (hn : n < 100000) (h : post (nI (7 * (n % 16)))) : wp_X6_recordAt (nI n) post := by
  unfold wp_X6_recordAt
  refine t_floor16 hn ?_
  rw [rM, Nat.mul_comm]; exact h
def isRec (nx : Nat) (recs recs' : Nat → Int32) (v1 v2 v3 v4 v5 v6 : Int32) : Prop := recs' (7 * (nx % 16) + 1) = v1 ∧ recs' (7 * (nx % 16) + 2) = v2 ∧ recs' (7 * (nx % 16) + 3) = v3 ∧ recs' (7 * (nx % 16) + 4) = v4 ∧ recs' (7 * (nx % 16) + 5) = v5 ∧ recs' (7 * (nx % 16) + 6) = v6 ∧ ∀ j, (j < 7 * (nx % 16) ∨ 7 * (nx % 16) + 7 ≤ j) → recs' j = recs j
def isHrd (nx w : Nat) (rec rec' : Nat → Int32) : Prop := (nx < 2500 → ∃ n, rec nx = nI n ∧ n / 4 % 4 = 0 ∧ n < 2 ^ 30 ∧ rec' = upd rec nx (nI (n + 4 * w))) ∧ (¬ nx < 2500 → rec' = rec)
set_option maxHeartbeats 4000000 in
set_option maxRecDepth 100000 in
theorem t6_fin {sd nx tl w : Nat} {v2 lv fd v1 : Int32} {F row0 cm e0 e1 recs rec : Nat → Int32} {P : (Nat → Int32) → (Nat → Int32) → (Nat → Int32) → Prop} (hN : rNum F row0) (hok : okSet row0) (hsd : sd < 1000000) (es : row0 6 = nI sd) (hnx : nx < 5000) (e30 : row0 30 = nI nx) (h41 : ¬ row0 41 < 0) (hv2 : v2 = 0 ∨ v2 = 1) (hw : w ≤ 2) (he0 : ∀ i, i < 32 → e0 (160 + i) = cm i) (he1 : ∀ i, i < 32 → e1 (160 + i) = cm (32 + i)) (hb : nx < 2500 → ∃ n, rec nx = nI n ∧ n / 4 % 4 = 0 ∧ n < 2 ^ 30)
    (hP : ∀ nb' recs' rec' : Nat → Int32, rNum nb' (M_fin v2 sd nx tl lv fd cm row0) → nb' 6 = F 6 → nb' 38 = F 38 → isRec nx recs recs' (nI w) lv (row0 33) (osm (od row0 sd nx cm) 64) fd v1 → isHrd nx w rec rec' → P nb' recs' rec') :
    wp_X6_recordAt (nI nx) (fun r21 => vp_in (r21 + (1 : Int32)) 112 ∧ ∀ f23 : Nat → Int32, f23 = upd recs (r21 + (1 : Int32)).toNatClampNeg (nI w) → vp_in (r21 + (2 : Int32)) 112 ∧ ∀ f25 : Nat → Int32, f25 = upd f23 (r21 + (2 : Int32)).toNatClampNeg lv → vp_in (r21 + (3 : Int32)) 112 ∧ ∀ f28 : Nat → Int32, f28 = upd f25 (r21 + (3 : Int32)).toNatClampNeg (F 10) → wp_X6_compare (nI nx) v2 F e0 e1 (fun r30 f29 => vp_in (r21 + (4 : Int32)) 112 ∧ ∀ f32 : Nat → Int32, f32 = upd f28 (r21 + (4 : Int32)).toNatClampNeg r30 → vp_in (r21 + (5 : Int32)) 112 ∧ ∀ f34 : Nat → Int32, f34 = upd f32 (r21 + (5 : Int32)).toNatClampNeg fd → vp_in (r21 + (6 : Int32)) 112 ∧ ∀ f36 : Nat → Int32, f36 = upd f34 (r21 + (6 : Int32)).toNatClampNeg v1 → wp_X0_setHowHeard (nI nx) (nI w) rec (fun f37 => ∀ f40 : Nat → Int32, f40 = upd f29 7 ((f29 7) + (1 : Int32)) → ∀ x42 : Int32, x42 = jrem (f40 7) (8 : Int32) → (x42 = (0 : Int32) → wp_X6_trim f40 (fun f44 => P f44 f36 f37)) ∧ (¬ x42 = (0 : Int32) → P f40 f36 f37)))) := by
  refine t6_recordAt (by omega) ?_
  have e10 : F 10 = row0 33 := hN 10 (by omega) (by omega) (by omega) (by omega)
  have e7 : F 7 = nI nx := (hN 7 (by omega) (by omega) (by omega) (by omega)).trans e30
  simp (disch := omega) only [rA, nI_clamp, vpT, true_and, forall_eq]
  refine t6_compare hN hok hsd es hnx he0 he1 ?_
  have hnum := f6_num (sd := sd) (nx := nx) (tl := tl) (lv := lv) (fd := fd) (cm := cm) hN hv2 h41
  have c7 : cmpN F v2 (osm (od row0 sd nx cm) 64) (omx (od row0 sd nx cm) 0 64) 7 = nI nx := by
    unfold cmpN
    by_cases z : v2 = 0
    · rw [if_pos z]; exact e7
    · rw [if_neg z, pk_un (by omega), pk_un (by omega)]; exact e7
  have c6 : ∀ j, j ≠ 17 → j ≠ 18 → cmpN F v2 (osm (od row0 sd nx cm) 64) (omx (od row0 sd nx cm) 0 64) j = F j := fun j h1 h2 => by
    unfold cmpN
    by_cases z : v2 = 0
    · rw [if_pos z]
    · rw [if_neg z, pk_un (by omega), pk_un (by omega)]
  have hP' : ∀ nb' rec' : Nat → Int32, rNum nb' (M_fin v2 sd nx tl lv fd cm row0) → nb' 6 = F 6 → nb' 38 = F 38 → isHrd nx w rec rec' → P nb' (upd (upd (upd (upd (upd (upd recs (7 * (nx % 16) + 1) (nI w)) (7 * (nx % 16) + 2) lv) (7 * (nx % 16) + 3) (F 10)) (7 * (nx % 16) + 4) (osm (od row0 sd nx cm) 64)) (7 * (nx % 16) + 5) fd) (7 * (nx % 16) + 6) v1) rec' := fun nb' rec' a1 a2 a3 a4 => by
    refine hP nb' _ rec' a1 a2 a3 ⟨?_, ?_, ?_, ?_, ?_, ?_, fun j hj => ?_⟩ a4
    · rw [pk_un (by omega), pk_un (by omega), pk_un (by omega), pk_un (by omega), pk_un (by omega), pk_us]
    · rw [pk_un (by omega), pk_un (by omega), pk_un (by omega), pk_un (by omega), pk_us]
    · rw [pk_un (by omega), pk_un (by omega), pk_un (by omega), pk_us, e10]
    · rw [pk_un (by omega), pk_un (by omega), pk_us]
    · rw [pk_un (by omega), pk_us]
    · rw [pk_us]
    · rw [pk_un (by omega), pk_un (by omega), pk_un (by omega), pk_un (by omega), pk_un (by omega), pk_un (by omega)]
  clear hP
  generalize cmpN F v2 (osm (od row0 sd nx cm) 64) (omx (od row0 sd nx cm) 0 64) = C at hnum c7 c6
  rw [M_fin_6] at hP'
  generalize M_f6 v2 sd nx tl lv fd cm row0 = R at hnum hP'
  generalize osm (od row0 sd nx cm) 64 = s at hP'
  simp (disch := omega) only [vpT, true_and, forall_eq, c7, rA, pk_us, rR]
  have go : ∀ rec' : Nat → Int32, isHrd nx w rec rec' → (nI ((nx + 1) % 8) = (0 : Int32) → wp_X6_trim (upd C 7 (nI (nx + 1))) (fun f44 => P f44 (upd (upd (upd (upd (upd (upd recs (7 * (nx % 16) + 1) (nI w)) (7 * (nx % 16) + 2) lv) (7 * (nx % 16) + 3) (F 10)) (7 * (nx % 16) + 4) s) (7 * (nx % 16) + 5) fd) (7 * (nx % 16) + 6) v1) rec')) ∧ (¬ nI ((nx + 1) % 8) = (0 : Int32) → P (upd C 7 (nI (nx + 1))) (upd (upd (upd (upd (upd (upd recs (7 * (nx % 16) + 1) (nI w)) (7 * (nx % 16) + 2) lv) (7 * (nx % 16) + 3) (F 10)) (7 * (nx % 16) + 4) s) (7 * (nx % 16) + 5) fd) (7 * (nx % 16) + 6) v1) rec') := by
    intro rec' hr
    refine ⟨fun q => ?_, fun q => ?_⟩
    · have q2 : (nx + 1) % 8 = 0 := (nI_eq (b := 0) (by omega) (by omega)).mp q
      refine t6_trim hnum (fun nb' a1 a2 a3 _ => hP' nb' rec' (by rw [if_pos q2]; exact a1) ?_ ?_ hr)
      · rw [a2, pk_un (by omega)]; exact c6 6 (by omega) (by omega)
      · rw [a3, pk_un (by omega)]; exact c6 38 (by omega) (by omega)
    · have q2 : ¬ (nx + 1) % 8 = 0 := fun y => q (by rw [y]; rfl)
      refine hP' _ rec' (by rw [if_neg q2]; exact hnum) ?_ ?_ hr
      · rw [pk_un (by omega)]; exact c6 6 (by omega) (by omega)
      · rw [pk_un (by omega)]; exact c6 38 (by omega) (by omega)
  by_cases q : nx < 2500
  · obtain ⟨n, en, hn1, hn2⟩ := hb q
    exact t0_heard q hw en hn2 hn1 (go _ ⟨fun _ => ⟨n, en, hn1, hn2, rfl⟩, fun z => absurd q z⟩)
  · exact t0_heardOut (by omega) (by omega) (go _ ⟨fun z => absurd z q, fun _ => rfl⟩)
