abbrev KA : Type := (Nat → Nat) × (Nat → Nat → Nat) × (Nat → Nat → Nat)
abbrev WS : Type := (Nat → Int32) × (Nat → Nat → Int32) × (Nat → Nat → Int32) × (Nat → Nat → Nat → Int32)
abbrev OS : Type := (Nat → Int32) × (Nat → Nat → Int32)
abbrev wyS (A : KA) (cy : Nat → ClassId) (w : WS) : va_W := s_X10_passSlot (A.1 0) (A.1 1) (A.1 2) (A.1 3) (A.1 4) (A.1 5) (A.1 6) (A.1 7) (A.1 8) (A.1 9) (A.1 10) (A.1 11) (A.1 12) (A.1 13) (A.1 14) (A.1 15) (A.1 16) (A.1 17) (A.1 18) (A.1 19) (A.1 20) (A.1 21) (A.1 22) (A.1 23) (A.1 24) (A.1 25) (A.1 26) (A.1 27) (A.1 28) (A.1 29) (A.1 30) (A.1 31) (A.1 32) (A.1 33) (A.1 34) (A.1 35) (A.1 36) (A.1 37) (A.1 38) (A.1 39) (A.1 40) (A.1 41) (A.1 42) (A.1 43) (A.1 44) (A.1 45) (A.1 46) (A.1 47) (A.1 48) (A.1 49) (A.1 50) (A.1 51) (A.1 52) (A.1 53) (A.1 54) (A.1 55) (A.1 56) (A.1 57) (A.1 58) (A.1 59) (A.1 60) (A.1 61) (A.1 62) (A.1 63) A.2.1 A.2.2 cy (w.2.1 0) (w.2.1 1) (w.1 0) (w.1 1) (w.1 2) (w.2.1 2) (w.2.1 3) (w.2.1 4) (w.2.1 5) (w.2.1 6) (w.2.1 7) (w.2.1 8) (w.2.1 9) (w.2.1 10) (w.2.1 11) (w.2.1 12) (w.2.1 13) (w.2.1 14) (w.2.1 15) (w.2.1 16) (w.1 3) (w.1 4) (w.2.1 17) (w.1 5) (w.1 6) (w.2.1 18) (w.2.1 19) (w.1 7) (w.1 8) (w.1 9) (w.1 10) (w.1 11) (w.2.1 20) (w.2.1 21) (w.2.1 22) (w.2.1 23) (w.2.1 24) (w.2.1 25) (w.1 12) (w.1 13) (w.2.1 26) (w.2.1 27) (w.2.1 28) (w.2.1 29) (w.2.1 30) (w.2.1 31) (w.2.1 32) (w.1 14) (w.1 15) (w.2.1 33) (w.2.1 34) (w.2.1 35) (w.2.1 36) (w.2.1 37) (w.2.1 38) (w.2.1 39) (w.2.1 40)
abbrev wyL (A : KA) (cy : Nat → ClassId) (w : WS) : va_W := fam 6 (pkF A.2.1 cy (w.2.2.1 0) (w.2.2.1 1) (w.2.2.1 2) (w.2.2.1 3) (w.2.2.2 0) (w.2.2.1 4) (w.2.2.1 5) (w.2.2.2 1) (w.2.2.1 6) (w.2.2.1 7))
abbrev wyB (A : KA) (cy : Nat → ClassId) (w : WS) : va_W := fam 12 (pkF A.2.2 cy (w.2.2.1 8) (w.2.2.1 9) (w.2.2.1 10) (w.2.2.1 11) (w.2.2.2 2) (w.2.2.1 12) (w.2.2.1 13) (w.2.2.2 3) (w.2.2.1 14) (w.2.2.1 15))
abbrev wy (A : KA) (cy : Nat → ClassId) (w : WS) : va_W := wyS A cy w ++ List.flatten [wyL A cy w, wyB A cy w]
def optW (cy : Nat → ClassId) (K : Option (KA × WS)) : va_W := match K with
  | none => []
  | some u => wy u.1 cy u.2
def rootK (K : Option (KA × WS)) : Option Nat := K.map (fun u => u.1.1 0)
def kf2 (K0 K1 : Option (KA × WS)) : Nat → Option Nat := fun j => match j with
  | 0 => rootK K0
  | 1 => rootK K1
  | _ => none
def RWw (t cd nx ln hd bl hb : Nat) (w : WS) (row : Nat → Int32) : Prop := (RW t cd nx ln hd bl hb (w.2.1 0) (w.2.1 18) (w.2.1 19) (w.2.2.1 0) (w.2.2.1 1) (w.2.2.1 2) (w.2.2.1 3) (w.2.2.2 0) (w.2.2.1 4) (w.2.2.2 1) (w.2.2.1 6) (w.2.2.1 8) (w.2.2.2 3) (w.2.2.1 14) (w.2.1 3) (w.2.1 4) (w.2.1 8) (w.2.1 9) (w.2.1 6) (w.2.1 11) (w.2.1 15) (w.2.1 16) (w.2.1 12) (w.2.1 14) (w.1 0) (w.1 1) (w.1 3) (w.2.1 17) (w.2.1 28) (w.2.1 27) (w.2.1 35) (w.2.1 34) (w.2.1 31) (w.2.1 38) (w.2.1 40) row) ∧ (w.1 5) = nI 5 ∧ (w.1 7) = nI 6 ∧ (w.1 6) = nI hd ∧ (w.1 8) = nI hb
def wOK (w : WS) : Prop := (w.1 5) = nI 5 ∧ (w.1 7) = nI 6
def LR (K : Option (KA × WS)) : Prop := ∀ u, K = some u → wOK u.2
def KR (k : Nat) (K : Option (KA × WS)) (kp ik : Nat → Int32) : Prop := (K = none → ik k = 0) ∧ ∀ u, K = some u → ¬ ik k = 0 ∧ ∃ (t cd nx ln hd bl hb : Nat) (row : Nat → Int32), RWw t cd nx ln hd bl hb u.2 row ∧ BND cd row ∧ ∀ j, j < 13385 → kp (13385 * k + j) = row j
theorem permK (X S f1 f2 f3 f4 : va_W) : (X ++ List.flatten [f1, f2, S ++ List.flatten [f3, f4]]).Perm ((X ++ S) ++ List.flatten [f1, f2, f3, f4]) := by
  simp only [List.flatten_cons, List.flatten_nil, List.append_nil]
  rw [List.append_assoc]
  refine List.Perm.append_left _ ?_
  rw [← List.append_assoc, ← List.append_assoc, ← List.append_assoc S]
  rw [show S ++ f1 ++ (f2 ++ (f3 ++ f4)) = (S ++ (f1 ++ f2)) ++ (f3 ++ f4) by simp only [List.append_assoc]]
  exact List.Perm.append_right _ List.perm_append_comm
theorem dSubA {A : Nat → Prop} {S Sc : va_W} {bs cs : List va_W} (hD : va_D A (S ++ bs.flatten)) (is ib : List Nat) (n1 : va_nd is = true) (n2 : va_nd ib = true) (hC : is.map (fun i => S[i]?) = Sc.map some) (hB : ib.map (fun i => bs[i]?) = cs.map some) : va_D A (Sc ++ cs.flatten) := by
  have h := va_D_pw.mp (dSubB hD is ib n1 n2 hC hB)
  exact va_D_pw.mpr ⟨h.1, fun q hq => (va_D_pw.mp hD).2 q (memB hC hB hq)⟩
theorem kf2_0 {K0 K1 : Option (KA × WS)} {u : KA × WS} : va_up (kf2 K0 K1) 0 (some (u.1.1 0)) = kf2 (some u) K1 := by
  funext j
  match j with
  | 0 => rfl
  | 1 => rfl
  | j + 2 => rfl
theorem kf2_1 {K0 K1 : Option (KA × WS)} {u : KA × WS} : va_up (kf2 K0 K1) 1 (some (u.1.1 0)) = kf2 K0 (some u) := by
  funext j
  match j with
  | 0 => rfl
  | 1 => rfl
  | j + 2 => rfl
theorem t_isCount1 {w : Nat} {post : Int32 → Prop} (hw : w ≤ 36 ∨ (40 ≤ w ∧ w ≤ 47)) (h : post 1) : wp_X11_isCount (nI w) post := by
  unfold wp_X11_isCount
  refine t_within (fun q1 => ⟨fun z => absurd z (by decide), fun _ => h⟩) (fun q1 => ⟨fun _ => t_within (fun q2 => ⟨fun z => absurd z (by decide), fun _ => h⟩) (fun q2 => ?_), fun z => absurd rfl z⟩)
  rcases hw with g | g
  · exact absurd ((btw_i (a := 0) (b := 36)).mpr ⟨by omega, g⟩) q1
  · exact absurd ((btw_i (a := 40) (b := 47)).mpr g) q2
theorem t_isCount0 {v : Int32} {post : Int32 → Prop} (h1 : ¬ btw v 0 36) (h2 : ¬ btw v 40 47) (h : post 0) : wp_X11_isCount v post := by
  unfold wp_X11_isCount
  exact t_within (fun q1 => absurd q1 h1) (fun q1 => ⟨fun _ => t_within (fun q2 => absurd q2 h2) (fun q2 => ⟨fun _ => h, fun z => absurd rfl z⟩), fun z => absurd rfl z⟩)
