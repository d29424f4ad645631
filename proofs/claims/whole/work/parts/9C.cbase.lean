/-! machine part: worlds that grow -/
theorem ra_fc {U : State} {cA : ClassId} {ty : FieldType} (h : va_RA U cA ty) : U.vm.findClass ("[" ++ ty.toString) = some cA := by
  cases ty with
  | object C => obtain ⟨_, _, _, _, _, h⟩ := h; exact h
  | _ => exact h
theorem cA_eq {D : va_G} {cl : List vw_C} {cy : Nat → ClassId} {cA : ClassId} {ty : FieldType} {s : State} (hK2 : va_K D cl (tyX cy ++ [(cA, ty)]) s) (k : Nat) (hk : (tyX cy ++ [(cA, ty)])[k]? = some (cy k, ty)) : cA = cy k := by
  have h1 := ra_fc (hK2.2 6 (cA, ty) rfl).2
  have h2 := ra_fc (hK2.2 k (cy k, ty) hk).2
  exact Option.some.inj (h1.symm.trans h2)
theorem jR {A0 : Nat → Prop} {D : va_G} {cl : List vw_C} {R C W1 : va_W} {H H1 : Heap} (hP : va_P D cl (R ++ C) H) (hD : va_D A0 (R ++ C)) (hk : ∀ q : Nat, q < H.size → ¬ va_A C H.size q → H1[q]? = H[q]?) (hF : ∀ q, va_A C H.size q → A0 q) (hP1 : va_P D cl W1 H1) (hD1 : va_D (va_A C H.size) W1) : va_P D cl (R ++ W1) H1 ∧ va_D A0 (R ++ W1) := by
  rw [va_P_mem] at hP hP1
  rw [va_D_pw] at hD hD1
  rw [va_P_mem, va_D_pw]
  obtain ⟨pw, hAll⟩ := hD
  obtain ⟨pw1, hAll1⟩ := hD1
  rw [List.pairwise_append] at pw
  obtain ⟨pR, pC, pX⟩ := pw
  have ltR : ∀ q ∈ R, q.1 < H.size := fun q hq => (hP q (List.mem_append_left _ hq)).lt
  have sep : ∀ q ∈ R, ¬ va_A C H.size q.1 := by
    intro q hq h
    rcases h with ⟨k, e, h⟩ | h
    · exact pX q hq _ (List.mem_of_getElem? h) rfl
    · exact absurd (ltR q hq) (Nat.not_lt.mpr h)
  refine ⟨fun q hq => ?_, ?_, fun q hq => ?_⟩
  · rcases List.mem_append.mp hq with h | h
    · exact (hP q (List.mem_append_left _ h)).kept (hk q.1 (ltR q h) (sep q h))
    · exact hP1 q h
  · rw [List.pairwise_append]
    exact ⟨pR, pw1, fun q hq w hw e => sep q hq (by rw [e]; exact hAll1 w hw)⟩
  · rcases List.mem_append.mp hq with h | h
    · exact hAll q (List.mem_append_left _ h)
    · exact hF _ (hAll1 q h)
theorem permN1 (S0 : va_W) (c : Nat × va_E) (bs : List va_W) : ((S0 ++ [c]) ++ bs.flatten).Perm ((S0 ++ bs.flatten) ++ [c]) := by
  rw [List.append_assoc, List.append_assoc]
  exact List.Perm.append_left _ List.perm_append_comm
theorem permN2 (S0 N : va_W) (bs nb : List va_W) : ((S0 ++ bs.flatten) ++ (N ++ nb.flatten)).Perm ((S0 ++ N) ++ (bs ++ nb).flatten) := by
  rw [List.flatten_append, List.append_assoc, List.append_assoc]
  refine List.Perm.append_left _ ?_
  rw [← List.append_assoc, ← List.append_assoc]
  exact List.Perm.append_right _ List.perm_append_comm
/-- a cell that is new goes behind those told one by one -/
theorem pushS {A : Nat → Prop} {D : va_G} {cl : List vw_C} {S : va_W} {bs : List va_W} {c : Nat × va_E} {H : Heap} (hP : va_P D cl ((S ++ bs.flatten) ++ [c]) H) (hD : va_D A ((S ++ bs.flatten) ++ [c])) : va_P D cl ((S ++ [c]) ++ bs.flatten) H ∧ va_D A ((S ++ [c]) ++ bs.flatten) := ⟨va_P_perm (permN1 S c bs).symm hP, va_D_perm (permN1 S c bs).symm hD⟩
/-- behind a constructor: the object's own cell, the last told, becomes all that it made -/
theorem jN {A0 : Nat → Prop} {D : va_G} {cl : List vw_C} {S0 N : va_W} {bs nb : List va_W} {c : Nat × va_E} {H H1 : Heap} (hP : va_P D cl ((S0 ++ [c]) ++ bs.flatten) H) (hD : va_D A0 ((S0 ++ [c]) ++ bs.flatten)) (hk : ∀ q : Nat, q < H.size → ¬ va_A [c] H.size q → H1[q]? = H[q]?) (hF : ∀ q, va_A [c] H.size q → A0 q) (hP1 : va_P D cl (N ++ nb.flatten) H1) (hD1 : va_D (va_A [c] H.size) (N ++ nb.flatten)) : va_P D cl ((S0 ++ N) ++ (bs ++ nb).flatten) H1 ∧ va_D A0 ((S0 ++ N) ++ (bs ++ nb).flatten) := by
  obtain ⟨h1, h2⟩ := jR (va_P_perm (permN1 S0 c bs) hP) (va_D_perm (permN1 S0 c bs) hD) hk hF hP1 hD1
  exact ⟨va_P_perm (permN2 S0 N bs nb) h1, va_D_perm (permN2 S0 N bs nb) h2⟩
theorem lastP {D : va_G} {cl : List vw_C} {S0 : va_W} {bs : List va_W} {c : Nat × va_E} {H : Heap} (hP : va_P D cl ((S0 ++ [c]) ++ bs.flatten) H) : va_P D cl [c] H := by
  rw [va_P_mem] at hP ⊢
  exact fun q hq => hP q (List.mem_append_left _ (List.mem_append_right _ hq))
theorem lastD {A : Nat → Prop} {S0 : va_W} {bs : List va_W} {c : Nat × va_E} (_ : va_D A ((S0 ++ [c]) ++ bs.flatten)) : va_D (fun _ => True) [c] := by
  rw [va_D_pw]
  exact ⟨List.pairwise_singleton _ _, fun _ _ => trivial⟩
theorem lastF {A0 : Nat → Prop} {S0 : va_W} {bs : List va_W} {c : Nat × va_E} {H0 H : Heap} {locs : List Loc} (hD : va_D A0 ((S0 ++ [c]) ++ bs.flatten)) (hS : va_S A0 H0 H locs) (hA : ∀ q, H0.size ≤ q → A0 q) : ∀ q, va_A [c] H.size q → A0 q := by
  intro q h
  rcases h with ⟨k, e, h⟩ | h
  · exact (va_D_pw.mp hD).2 (q, e) (List.mem_append_left _ (List.mem_append_right _ (List.mem_of_getElem? h)))
  · exact hA q (Nat.le_trans hS.1 h)
theorem q_cong {cA : ClassId} {n : Nat} {f g : Nat → Option Nat} (h : ∀ j, j < n → f j = g j) : vp_cell cA (n, .inr (.inr (.inr (.inr f)))) = vp_cell cA (n, .inr (.inr (.inr (.inr g)))) := by
  show arrV cA n (fun j => va_rf (f j)) = arrV cA n (fun j => va_rf (g j))
  unfold arrV
  congr 1
  apply Array.ext
  · simp
  · intro i h1 h2
    simp at h1
    simp [h i h1]
theorem fam_cong {w w' : Nat → va_W} : ∀ n, (∀ i, i < n → w' i = w i) → fam n w' = fam n w
  | 0, _ => rfl
  | n + 1, h => by rw [fam, fam, fam_cong n (fun i hi => h i (by omega)), h n (by omega)]
section XC
variable {p : Program} {l : Launch} {e : Env} {R : Room} {s : State} {m : MethodId} {args : Array Value} {below : List Frame} {meth : Method} {c : Code} {H : Heap} {locs : List Loc} {cells slots : Nat} {Q : State → Prop} {D : va_G} {cl : List vw_C} {tys : List (ClassId × FieldType)} {ws : va_W} {A : Nat → Prop} {a pc : Nat} {ls : Array Slot} {rest : List Value} {cc : ByteArray}
/-- System.arraycopy out of a row of ints that is a static -/
theorem xcopyt (hexec : p.tables.exec = Jvm.exec) (hb : c.code = cc) (hml : c.maxLocals = ls.size) {own : String} {index : Nat} (hown : s.vm.findClass own = some m.cls) (hlink : (Cond.methodLink own index arraycopyName).before args s = true) (hnat : (Cond.native arraycopyName).before args s = true) (hstat : (Cond.static arraycopyName).before args s = true) (hini : (Cond.initialized "java/lang/System").before args s = true)
    (hK : va_K D cl tys s) (hP : va_P D cl ws H) (hD : va_D A ws) (hS : va_S A s.heap H locs) {b0 n0 : Nat} {f : Nat → Int32} (hX : va_T .int b0 n0 (fun j => .int (f j)) A s s.heap) (q1 t1 : Nat) {c1 : ClassId} {n1 : Nat} {g : Nat → Int32} (ha1 : ws[q1]? = some (a, .inl (c1, n1, .inl g))) (ht1 : tys[t1]? = some (c1, .int))
    {sp dp n : Int32} {k1 k2 k3 : Nat} (h1 : ¬ sp < 0) (h2 : ¬ dp < 0) (h3 : ¬ n < 0) (e1 : sp.toNatClampNeg = k1) (e2 : dp.toNatClampNeg = k2) (e3 : n.toNatClampNeg = k3) (h4 : k1 + k3 ≤ n0) (h5 : k2 + k3 ≤ n1)
    (hframes : 1 ≤ R.frames) (hlocals : (rest.map fun v => v.category).sum + (nativeFrameWords "java/lang/System" "arraycopy" 5 + 11) ≤ R.locals) (hdg : decode cc pc = .ok (.invokestatic index, 3))
    (kk : ∀ (H1 : Heap) (locs1 : List Loc), va_P D cl (ws.set q1 (a, .inl (c1, n1, .inl (va_cpy f g k1 k2 k3)))) H1 → va_D A (ws.set q1 (a, .inl (c1, n1, .inl (va_cpy f g k1 k2 k3)))) → va_S A s.heap H1 locs1 → W p l e R s m args below meth c H1 locs1 cells slots Q (F0 m (pc + 3) ls rest)) : W p l e R s m args below meth c H locs cells slots Q (F0 m pc ls (.int n :: .int dp :: .ref a :: .int sp :: .ref b0 :: rest)) := by
  subst e1 e2 e3
  have nn : ∀ z : Int32, ¬ z < 0 → z.toInt = (z.toNatClampNeg : Int) := by
    intro z hz
    have hz0 : (0 : Int) ≤ z.toInt := by
      have := Int32.not_lt.mp hz
      simpa using Int32.le_iff_toInt_le.mp this
    show z.toInt = ((z.toInt.toNat : Nat) : Int)
    omega
  intro T hT X
  obtain ⟨scr, hs1, hs2, hs3, hs4, -, hs5, hs7⟩ := hX
  have hc0 : H[b0]? = some scr := by rw [hS.2.1 b0 (Array.getElem?_eq_some_iff.mp hs1).1 hs7]; exact hs1
  have hc1 : H[a]? = some (vp_cell c1 (n1, .inl g)) := hP q1 _ ha1
  obtain ⟨hs6, k0, hk0, cm0, hkk0⟩ := hs2
  obtain ⟨-, k9, hk9, cm1, hkk1⟩ := (hK.2 t1 _ ht1).1 n1 (fun j => .int (g j))
  have rd : ∀ i, i < n.toNatClampNeg → scr.slots.getD (sp.toNatClampNeg + i) .null = .int (f (sp.toNatClampNeg + i)) := fun i hi => by
    rw [Array.getD_eq_getD_getElem?, hs5 _ (by omega)]
    rfl
  obtain ⟨vm', X', step⟩ := X.arraycopy hexec hown hlink hnat hstat hini (src := b0) (dst := a) (cs := scr) (cd := vp_cell c1 (n1, .inl g)) (srcPos := sp) (destPos := dp) (n := n) (by rw [hT]; exact hc0) (by rw [hT]; exact hc1)
    hs6 (fun _ h => by cases h) hs3 (fun h => by cases h) hk0 hk9 hkk0 hkk1 (by simp [refKind]) h1 h2 h3
    (by rw [nn sp h1, nn n h3]; omega)
    (by rw [nn dp h2, nn n h3]; show ¬ _ > ((arrV c1 n1 (fun j => .int (g j))).slots.size : Int); rw [arrV_size]; omega)
    (fun vm₁ _ i hi => ⟨by rw [rd i hi]; rfl, by rw [rd i hi]; exact trivial⟩)
    (g := F0 m pc ls (.int n :: .int dp :: .ref a :: .int sp :: .ref b0 :: rest)) rfl (by rw [hml]) (rest := rest) rfl (by rw [hb]; exact hdg) hframes (by show 2 * 0 + _ + _ ≤ _; omega)
  have e1 : copied scr (vp_cell c1 (n1, .inl g)) sp dp n = vp_cell c1 (n1, .inl (va_cpy f g sp.toNatClampNeg dp.toNatClampNeg n.toNatClampNeg)) := va_copiedX (fun z => .int z) scr c1 f g hs5 h4
  rw [e1] at X' step
  have hl : a < H.size := (Array.getElem?_eq_some_iff.mp hc1).1
  have hheap : ((T.setVm vm').setCell a (vp_cell c1 (n1, .inl (va_cpy f g sp.toNatClampNeg dp.toNatClampNeg n.toNatClampNeg)))).heap = H.setIfInBounds a (vp_cell c1 (n1, .inl (va_cpy f g sp.toNatClampNeg dp.toNatClampNeg n.toNatClampNeg))) := by rw [← hT]; rfl
  have oq : ∀ q : Nat, q ≠ a → (H.setIfInBounds a (vp_cell c1 (n1, .inl (va_cpy f g sp.toNatClampNeg dp.toNatClampNeg n.toNatClampNeg))))[q]? = H[q]? := fun q hq => by simp [Array.getElem?_setIfInBounds, Ne.symm hq]
  obtain ⟨t, a1, b1⟩ := kk _ _ (hP.set hD ha1 (show (H.setIfInBounds a _)[a]? = some _ by simp [Array.getElem?_setIfInBounds, hl]) oq) (hD.set ha1) ⟨by simp; exact hS.1, fun q g1 g2 => by
      rw [oq q (fun e => g2 (by rw [e]; exact hD.2 q1 _ ha1))]
      exact hS.2.1 q g1 g2, fun q hq => by
      rcases List.mem_append.mp hq with h | h
      · exact hS.2.2 q h
      · obtain ⟨z, -, hz⟩ := List.mem_map.mp h
        rw [← hz]
        exact hD.2 q1 _ ha1⟩ _ hheap X'
  exact ⟨t, step t a1, b1⟩
end XC
/-- a row of references told otherwise, the same at each of its places -/
theorem P_cell {D : va_G} {cl : List vw_C} {ws : va_W} {H : Heap} {k a n : Nat} {cA : ClassId} {f g : Nat → Option Nat} (hP : va_P D cl ws H) (hk : ws[k]? = some (a, .inl (cA, n, .inr (.inr (.inr (.inr f)))))) (h : ∀ j, j < n → f j = g j) : va_P D cl (ws.set k (a, .inl (cA, n, .inr (.inr (.inr (.inr g)))))) H := by
  intro i q hi
  rw [List.getElem?_set] at hi
  by_cases e : k = i
  · subst e
    rw [if_pos rfl] at hi
    split at hi
    · have h0 := hP k _ hk
      cases Option.some.inj hi
      show H[a]? = some (vp_cell cA (n, .inr (.inr (.inr (.inr g)))))
      rw [← q_cong h]
      exact h0
    · cases hi
  · rw [if_neg e] at hi
    exact hP i q hi
theorem two_up {x y : Nat} : ∀ j, j < 2 → va_up (va_up (fun _ => none) 0 (some x)) 1 (some y) j = two x y j := by
  intro j hj
  match j, hj with
  | 0, _ => rfl
  | 1, _ => rfl
