abbrev z_X9 (h0 : Nat) (a : Nat → Nat) (E : Nat → Nat → Nat → Nat) (cy : Nat → ClassId) : va_W := ([(h0, .inr (9, [.ref (a 1), .ref (a 2), .ref (a 3), .ref (a 4)])), ((a 1), .inl (cy 0, 7, .inl (fun _ => 0))), ((a 2), .inl (cy 0, 7, .inl (fun _ => 0))), ((a 3), .inl (cy 0, 8, .inl (fun _ => 0))), ((a 4), .inl (cy 0, 8, .inl (fun _ => 0)))] : va_W) ++ List.flatten []
set_option maxHeartbeats 4000000 in
set_option maxRecDepth 100000 in
theorem c_X9_init (l : Launch) (dC : Nat → ClassId) (dI : Nat → Nat → Nat) (cy : Nat → ClassId) (h0 : Nat) (sz : Nat) : Met l yX9_init wsX9_init ({ frames := 1, cells := 4, slots := 30, locals := 20 }) (PX dC dI cy [.ref h0] sz [(h0, .inr (9, [.null, .null, .null, .null]))]) (va_Qv (fun (_ : (Nat → Nat) × (Nat → Nat → Nat → Nat)) => True) (QX dC dI cy (va_A [(h0, .inr (9, [.null, .null, .null, .null]))] sz) (fun (u : (Nat → Nat) × (Nat → Nat → Nat → Nat)) => z_X9 h0 u.1 u.2 cy)) (va_A [(h0, .inr (9, [.null, .null, .null, .null]))] sz)) 4 30 (va_A [(h0, .inr (9, [.null, .null, .null, .null]))] sz) := by
  refine Met.ofW (cc := cX9_init) (maxL := 1) (ret := none) (by decide) rfl ?_
  intro p e s m args below meth c s₁ B hml hv
  obtain ⟨rfl, hsz, hP, hK, hD0, hG⟩ := hv
  have hx := B.exec
  have hb := B.bytes
  have hr := B.returns
  have hts := atoms_spec (ws := wsX9_init) B.pre
  have hown : s.vm.findClass RX9 = some m.cls := findClass_of_methodNamed B.named
  have hlocks := B.notSynchronized
  have hin : meth.name = "<init>" := (name_of_methodNamed B.named B.method).1
  subst hsz
  have hD := hD0.self (sz := s.heap.size)
  generalize hAe : va_A [(h0, .inr (9, [.null, .null, .null, .null]))] s.heap.size = A at hD ⊢
  have hA : ∀ q : Nat, s.heap.size ≤ q → A q := fun q h => by rw [← hAe]; exact Or.inr h
  have hS : va_S A s.heap s.heap [] := va_S.rf
  have hl := lv_entry ([.ref h0]) (n := 1) (Nat.le_of_ble_eq_true rfl)
  rw [lg_entry_eq]
  generalize (lg_sl ([.ref h0]) ++ List.replicate (1 - (lg_sl ([.ref h0])).length) Slot.unset).toArray = ls at hl ⊢
  replace hl : lv_has ls 1 [(0, .ref h0)] := hl
  have inX9 : ∀ w ∈ u_ws RX9 TX9 4, w ∈ wsX9_init := fun w h => List.mem_cons_of_mem _ (inlX9 w h)
  clear hAe hD0 B
  obtain ⟨H, hH⟩ : ∃ H, H = s.heap := ⟨_, rfl⟩
  obtain ⟨locs, hlo⟩ : ∃ L : List Loc, L = [] := ⟨_, rfl⟩
  replace hP : va_P (dC, dI) vwCl (([(h0, .inr (9, [.null, .null, .null, .null]))] : va_W) ++ List.flatten []) H := by rw [hH]; exact hP
  replace hD : va_D A (([(h0, .inr (9, [.null, .null, .null, .null]))] : va_W) ++ List.flatten []) := hD
  replace hS : va_S A s.heap H locs := by rw [hH, hlo]; exact hS
  rw [show (W p l e _ s m _ below meth c s.heap [] 0 0) = W p l e _ s m _ below meth c H locs 0 0 by rw [hH, hlo]]
  clear hH hlo
  refine lv_aload_n hx hb dX9_init_0 rfl (lv_at hl 0 rfl) ?_
  refine W.objInit hx hb hown (hts _ (List.mem_cons_of_mem _ mw_112)) (hts _ (List.mem_cons_of_mem _ mw_10)) (hts _ (List.mem_cons_of_mem _ mw_11)) rfl (by rw [hml]; exact hl.1) rfl dX9_init_1 (Nat.le_of_ble_eq_true rfl) (Nat.le_of_ble_eq_true rfl) ?_
  refine W.eq (g2 := F0 m 4 ls []) rfl ?_
  refine lv_aload_n hx hb dX9_init_4 rfl (lv_at hl 0 rfl) ?_
  refine lv_bipush (v := 7) hx hb dX9_init_5 (by decide) ?_
  refine va_newa (atype := .int) (a0 := (7, .inl (fun _ => 0))) (N' := 7) hx hb (hts _ (List.mem_cons_of_mem _ mw_30)) rfl hK hP hD hS hA (fun _ => rfl) (by decide) (by decide) (Nat.le_of_ble_eq_true rfl) (Nat.le_of_ble_eq_true rfl) (Nat.le_of_ble_eq_true rfl) dX9_init_7 ?_; clear hP hD hS; clear H; intro q1 cA H hK2 hP hD hS
  obtain rfl := cA_eq hK2 0 rfl
  clear hK2
  replace hP := pushS (S := ([(h0, .inr (9, [.null, .null, .null, .null]))] : va_W)) (bs := []) (c := (q1, .inl (cy 0, 7, .inl (fun _ => 0)))) hP hD; clear hD; obtain ⟨hP, hD⟩ := hP
  replace hP : va_P (dC, dI) vwCl (([(h0, .inr (9, [.null, .null, .null, .null])), (q1, .inl (cy 0, 7, .inl (fun _ => 0)))] : va_W) ++ List.flatten []) H := hP
  replace hD : va_D A (([(h0, .inr (9, [.null, .null, .null, .null])), (q1, .inl (cy 0, 7, .inl (fun _ => 0)))] : va_W) ++ List.flatten []) := hD
  refine W.widen (k := 1) (n := 7) (Nat.le_of_ble_eq_true rfl) (Nat.le_of_ble_eq_true rfl) ?_
  refine va_putF (D := (dC, dI)) (ci := 9) (v := .ref q1) (ty := .array .int) (C := RX9) (T := TX9) (N := 4) hx hb hts inX9 tyX9 tyX9_ok nmX9 hown hK hP hD hS 0 rfl rfl 0 (by decide) (hts _ (List.mem_cons_of_mem _ mw_113)) (fun _ h9 => h9) rfl hin rfl (by decide +kernel) rfl rfl (Nat.le_of_ble_eq_true rfl) dX9_init_9 ?_; clear hP hD hS; clear H locs; intro H locs hP hD hS
  replace hP : va_P (dC, dI) vwCl (([(h0, .inr (9, [.ref q1, .null, .null, .null])), (q1, .inl (cy 0, 7, .inl (fun _ => 0)))] : va_W) ++ List.flatten []) H := hP
  replace hD : va_D A (([(h0, .inr (9, [.ref q1, .null, .null, .null])), (q1, .inl (cy 0, 7, .inl (fun _ => 0)))] : va_W) ++ List.flatten []) := hD
  refine lv_aload_n hx hb dX9_init_12 rfl (lv_at hl 0 rfl) ?_
  refine lv_bipush (v := 7) hx hb dX9_init_13 (by decide) ?_
  refine va_newa (atype := .int) (a0 := (7, .inl (fun _ => 0))) (N' := 7) hx hb (hts _ (List.mem_cons_of_mem _ mw_30)) rfl hK hP hD hS hA (fun _ => rfl) (by decide) (by decide) (Nat.le_of_ble_eq_true rfl) (Nat.le_of_ble_eq_true rfl) (Nat.le_of_ble_eq_true rfl) dX9_init_15 ?_; clear hP hD hS; clear H; intro q2 cA H hK2 hP hD hS
  obtain rfl := cA_eq hK2 0 rfl
  clear hK2
  replace hP := pushS (S := ([(h0, .inr (9, [.ref q1, .null, .null, .null])), (q1, .inl (cy 0, 7, .inl (fun _ => 0)))] : va_W)) (bs := []) (c := (q2, .inl (cy 0, 7, .inl (fun _ => 0)))) hP hD; clear hD; obtain ⟨hP, hD⟩ := hP
  replace hP : va_P (dC, dI) vwCl (([(h0, .inr (9, [.ref q1, .null, .null, .null])), (q1, .inl (cy 0, 7, .inl (fun _ => 0))), (q2, .inl (cy 0, 7, .inl (fun _ => 0)))] : va_W) ++ List.flatten []) H := hP
  replace hD : va_D A (([(h0, .inr (9, [.ref q1, .null, .null, .null])), (q1, .inl (cy 0, 7, .inl (fun _ => 0))), (q2, .inl (cy 0, 7, .inl (fun _ => 0)))] : va_W) ++ List.flatten []) := hD
  refine W.widen (k := 2) (n := 14) (Nat.le_of_ble_eq_true rfl) (Nat.le_of_ble_eq_true rfl) ?_
  refine va_putF (D := (dC, dI)) (ci := 9) (v := .ref q2) (ty := .array .int) (C := RX9) (T := TX9) (N := 4) hx hb hts inX9 tyX9 tyX9_ok nmX9 hown hK hP hD hS 0 rfl rfl 1 (by decide) (hts _ (List.mem_cons_of_mem _ mw_114)) (fun _ h9 => h9) rfl hin rfl (by decide +kernel) rfl rfl (Nat.le_of_ble_eq_true rfl) dX9_init_17 ?_; clear hP hD hS; clear H locs; intro H locs hP hD hS
  replace hP : va_P (dC, dI) vwCl (([(h0, .inr (9, [.ref q1, .ref q2, .null, .null])), (q1, .inl (cy 0, 7, .inl (fun _ => 0))), (q2, .inl (cy 0, 7, .inl (fun _ => 0)))] : va_W) ++ List.flatten []) H := hP
  replace hD : va_D A (([(h0, .inr (9, [.ref q1, .ref q2, .null, .null])), (q1, .inl (cy 0, 7, .inl (fun _ => 0))), (q2, .inl (cy 0, 7, .inl (fun _ => 0)))] : va_W) ++ List.flatten []) := hD
  refine lv_aload_n hx hb dX9_init_20 rfl (lv_at hl 0 rfl) ?_
  refine lv_bipush (v := 8) hx hb dX9_init_21 (by decide) ?_
  refine va_newa (atype := .int) (a0 := (8, .inl (fun _ => 0))) (N' := 8) hx hb (hts _ (List.mem_cons_of_mem _ mw_30)) rfl hK hP hD hS hA (fun _ => rfl) (by decide) (by decide) (Nat.le_of_ble_eq_true rfl) (Nat.le_of_ble_eq_true rfl) (Nat.le_of_ble_eq_true rfl) dX9_init_23 ?_; clear hP hD hS; clear H; intro q3 cA H hK2 hP hD hS
  obtain rfl := cA_eq hK2 0 rfl
  clear hK2
  replace hP := pushS (S := ([(h0, .inr (9, [.ref q1, .ref q2, .null, .null])), (q1, .inl (cy 0, 7, .inl (fun _ => 0))), (q2, .inl (cy 0, 7, .inl (fun _ => 0)))] : va_W)) (bs := []) (c := (q3, .inl (cy 0, 8, .inl (fun _ => 0)))) hP hD; clear hD; obtain ⟨hP, hD⟩ := hP
  replace hP : va_P (dC, dI) vwCl (([(h0, .inr (9, [.ref q1, .ref q2, .null, .null])), (q1, .inl (cy 0, 7, .inl (fun _ => 0))), (q2, .inl (cy 0, 7, .inl (fun _ => 0))), (q3, .inl (cy 0, 8, .inl (fun _ => 0)))] : va_W) ++ List.flatten []) H := hP
  replace hD : va_D A (([(h0, .inr (9, [.ref q1, .ref q2, .null, .null])), (q1, .inl (cy 0, 7, .inl (fun _ => 0))), (q2, .inl (cy 0, 7, .inl (fun _ => 0))), (q3, .inl (cy 0, 8, .inl (fun _ => 0)))] : va_W) ++ List.flatten []) := hD
  refine W.widen (k := 3) (n := 22) (Nat.le_of_ble_eq_true rfl) (Nat.le_of_ble_eq_true rfl) ?_
  refine va_putF (D := (dC, dI)) (ci := 9) (v := .ref q3) (ty := .array .int) (C := RX9) (T := TX9) (N := 4) hx hb hts inX9 tyX9 tyX9_ok nmX9 hown hK hP hD hS 0 rfl rfl 2 (by decide) (hts _ (List.mem_cons_of_mem _ mw_115)) (fun _ h9 => h9) rfl hin rfl (by decide +kernel) rfl rfl (Nat.le_of_ble_eq_true rfl) dX9_init_25 ?_; clear hP hD hS; clear H locs; intro H locs hP hD hS
  replace hP : va_P (dC, dI) vwCl (([(h0, .inr (9, [.ref q1, .ref q2, .ref q3, .null])), (q1, .inl (cy 0, 7, .inl (fun _ => 0))), (q2, .inl (cy 0, 7, .inl (fun _ => 0))), (q3, .inl (cy 0, 8, .inl (fun _ => 0)))] : va_W) ++ List.flatten []) H := hP
  replace hD : va_D A (([(h0, .inr (9, [.ref q1, .ref q2, .ref q3, .null])), (q1, .inl (cy 0, 7, .inl (fun _ => 0))), (q2, .inl (cy 0, 7, .inl (fun _ => 0))), (q3, .inl (cy 0, 8, .inl (fun _ => 0)))] : va_W) ++ List.flatten []) := hD
  refine lv_aload_n hx hb dX9_init_28 rfl (lv_at hl 0 rfl) ?_
  refine lv_bipush (v := 8) hx hb dX9_init_29 (by decide) ?_
  refine va_newa (atype := .int) (a0 := (8, .inl (fun _ => 0))) (N' := 8) hx hb (hts _ (List.mem_cons_of_mem _ mw_30)) rfl hK hP hD hS hA (fun _ => rfl) (by decide) (by decide) (Nat.le_of_ble_eq_true rfl) (Nat.le_of_ble_eq_true rfl) (Nat.le_of_ble_eq_true rfl) dX9_init_31 ?_; clear hP hD hS; clear H; intro q4 cA H hK2 hP hD hS
  obtain rfl := cA_eq hK2 0 rfl
  clear hK2
  replace hP := pushS (S := ([(h0, .inr (9, [.ref q1, .ref q2, .ref q3, .null])), (q1, .inl (cy 0, 7, .inl (fun _ => 0))), (q2, .inl (cy 0, 7, .inl (fun _ => 0))), (q3, .inl (cy 0, 8, .inl (fun _ => 0)))] : va_W)) (bs := []) (c := (q4, .inl (cy 0, 8, .inl (fun _ => 0)))) hP hD; clear hD; obtain ⟨hP, hD⟩ := hP
  replace hP : va_P (dC, dI) vwCl (([(h0, .inr (9, [.ref q1, .ref q2, .ref q3, .null])), (q1, .inl (cy 0, 7, .inl (fun _ => 0))), (q2, .inl (cy 0, 7, .inl (fun _ => 0))), (q3, .inl (cy 0, 8, .inl (fun _ => 0))), (q4, .inl (cy 0, 8, .inl (fun _ => 0)))] : va_W) ++ List.flatten []) H := hP
  replace hD : va_D A (([(h0, .inr (9, [.ref q1, .ref q2, .ref q3, .null])), (q1, .inl (cy 0, 7, .inl (fun _ => 0))), (q2, .inl (cy 0, 7, .inl (fun _ => 0))), (q3, .inl (cy 0, 8, .inl (fun _ => 0))), (q4, .inl (cy 0, 8, .inl (fun _ => 0)))] : va_W) ++ List.flatten []) := hD
  refine W.widen (k := 4) (n := 30) (Nat.le_of_ble_eq_true rfl) (Nat.le_of_ble_eq_true rfl) ?_
  refine va_putF (D := (dC, dI)) (ci := 9) (v := .ref q4) (ty := .array .int) (C := RX9) (T := TX9) (N := 4) hx hb hts inX9 tyX9 tyX9_ok nmX9 hown hK hP hD hS 0 rfl rfl 3 (by decide) (hts _ (List.mem_cons_of_mem _ mw_116)) (fun _ h9 => h9) rfl hin rfl (by decide +kernel) rfl rfl (Nat.le_of_ble_eq_true rfl) dX9_init_33 ?_; clear hP hD hS; clear H locs; intro H locs hP hD hS
  replace hP : va_P (dC, dI) vwCl (([(h0, .inr (9, [.ref q1, .ref q2, .ref q3, .ref q4])), (q1, .inl (cy 0, 7, .inl (fun _ => 0))), (q2, .inl (cy 0, 7, .inl (fun _ => 0))), (q3, .inl (cy 0, 8, .inl (fun _ => 0))), (q4, .inl (cy 0, 8, .inl (fun _ => 0)))] : va_W) ++ List.flatten []) H := hP
  replace hD : va_D A (([(h0, .inr (9, [.ref q1, .ref q2, .ref q3, .ref q4])), (q1, .inl (cy 0, 7, .inl (fun _ => 0))), (q2, .inl (cy 0, 7, .inl (fun _ => 0))), (q3, .inl (cy 0, 8, .inl (fun _ => 0))), (q4, .inl (cy 0, 8, .inl (fun _ => 0)))] : va_W) ++ List.flatten []) := hD
  exact W.vret hx hb hr (fun t ht hW => ⟨⟨((fun k => ([0, q1, q2, q3, q4] : List Nat).getD k 0), (fun k => ([] : List (Nat → Nat → Nat)).getD k (fun _ _ => 0))), rfl, trivial, by rw [ht]; exact hP, va_K.moved hW.alike hK, hD⟩, hS.F ht⟩) hS.2.2 dX9_init_36
abbrev z_X4 (h0 : Nat) (a : Nat → Nat) (E : Nat → Nat → Nat → Nat) (cy : Nat → ClassId) : va_W := ([(h0, .inr (4, [.ref (a 1), .ref (a 2), .ref (a 3), .ref (a 4), .ref (a 5), .ref (a 6), .ref (a 7), .ref (a 8), .int (0 : Int32), .int (0 : Int32), .int (0 : Int32)])), ((a 1), .inl (cy 0, 64, .inl (fun _ => 0))), ((a 2), .inl (cy 0, 64, .inl (fun _ => 0))), ((a 3), .inl (cy 0, 64, .inl (fun _ => 0))), ((a 4), .inl (cy 0, 64, .inl (fun _ => 0))), ((a 5), .inl (cy 0, 64, .inl (fun _ => 0))), ((a 6), .inl (cy 0, 16, .inl (fun _ => 0))), ((a 7), .inl (cy 0, 16, .inl (fun _ => 0))), ((a 8), .inl (cy 0, 16, .inl (fun _ => 0)))] : va_W) ++ List.flatten []
set_option maxHeartbeats 4000000 in
set_option maxRecDepth 100000 in
theorem c_X4_init (l : Launch) (dC : Nat → ClassId) (dI : Nat → Nat → Nat) (cy : Nat → ClassId) (h0 : Nat) (sz : Nat) : Met l yX4_init wsX4_init ({ frames := 1, cells := 8, slots := 368, locals := 20 }) (PX dC dI cy [.ref h0] sz [(h0, .inr (4, [.null, .null, .null, .null, .null, .null, .null, .null, .int 0, .int 0, .int 0]))]) (va_Qv (fun (_ : (Nat → Nat) × (Nat → Nat → Nat → Nat)) => True) (QX dC dI cy (va_A [(h0, .inr (4, [.null, .null, .null, .null, .null, .null, .null, .null, .int 0, .int 0, .int 0]))] sz) (fun (u : (Nat → Nat) × (Nat → Nat → Nat → Nat)) => z_X4 h0 u.1 u.2 cy)) (va_A [(h0, .inr (4, [.null, .null, .null, .null, .null, .null, .null, .null, .int 0, .int 0, .int 0]))] sz)) 8 368 (va_A [(h0, .inr (4, [.null, .null, .null, .null, .null, .null, .null, .null, .int 0, .int 0, .int 0]))] sz) := by
  refine Met.ofW (cc := cX4_init) (maxL := 1) (ret := none) (by decide) rfl ?_
  intro p e s m args below meth c s₁ B hml hv
  obtain ⟨rfl, hsz, hP, hK, hD0, hG⟩ := hv
  have hx := B.exec
  have hb := B.bytes
  have hr := B.returns
  have hts := atoms_spec (ws := wsX4_init) B.pre
  have hown : s.vm.findClass RX4 = some m.cls := findClass_of_methodNamed B.named
  have hlocks := B.notSynchronized
  have hin : meth.name = "<init>" := (name_of_methodNamed B.named B.method).1
  subst hsz
  have hD := hD0.self (sz := s.heap.size)
  generalize hAe : va_A [(h0, .inr (4, [.null, .null, .null, .null, .null, .null, .null, .null, .int 0, .int 0, .int 0]))] s.heap.size = A at hD ⊢
  have hA : ∀ q : Nat, s.heap.size ≤ q → A q := fun q h => by rw [← hAe]; exact Or.inr h
  have hS : va_S A s.heap s.heap [] := va_S.rf
  have hl := lv_entry ([.ref h0]) (n := 1) (Nat.le_of_ble_eq_true rfl)
  rw [lg_entry_eq]
  generalize (lg_sl ([.ref h0]) ++ List.replicate (1 - (lg_sl ([.ref h0])).length) Slot.unset).toArray = ls at hl ⊢
  replace hl : lv_has ls 1 [(0, .ref h0)] := hl
  have inX4 : ∀ w ∈ u_ws RX4 TX4 11, w ∈ wsX4_init := fun w h => List.mem_cons_of_mem _ (inlX4 w h)
  clear hAe hD0 B
  obtain ⟨H, hH⟩ : ∃ H, H = s.heap := ⟨_, rfl⟩
  obtain ⟨locs, hlo⟩ : ∃ L : List Loc, L = [] := ⟨_, rfl⟩
  replace hP : va_P (dC, dI) vwCl (([(h0, .inr (4, [.null, .null, .null, .null, .null, .null, .null, .null, .int 0, .int 0, .int 0]))] : va_W) ++ List.flatten []) H := by rw [hH]; exact hP
  replace hD : va_D A (([(h0, .inr (4, [.null, .null, .null, .null, .null, .null, .null, .null, .int 0, .int 0, .int 0]))] : va_W) ++ List.flatten []) := hD
  replace hS : va_S A s.heap H locs := by rw [hH, hlo]; exact hS
  rw [show (W p l e _ s m _ below meth c s.heap [] 0 0) = W p l e _ s m _ below meth c H locs 0 0 by rw [hH, hlo]]
  clear hH hlo
  refine lv_aload_n hx hb dX4_init_0 rfl (lv_at hl 0 rfl) ?_
  refine W.objInit hx hb hown (hts _ (List.mem_cons_of_mem _ mw_119)) (hts _ (List.mem_cons_of_mem _ mw_10)) (hts _ (List.mem_cons_of_mem _ mw_11)) rfl (by rw [hml]; exact hl.1) rfl dX4_init_1 (Nat.le_of_ble_eq_true rfl) (Nat.le_of_ble_eq_true rfl) ?_
  refine W.eq (g2 := F0 m 4 ls []) rfl ?_
  refine lv_aload_n hx hb dX4_init_4 rfl (lv_at hl 0 rfl) ?_
  refine lv_bipush (v := 64) hx hb dX4_init_5 (by decide) ?_
  refine va_newa (atype := .int) (a0 := (64, .inl (fun _ => 0))) (N' := 64) hx hb (hts _ (List.mem_cons_of_mem _ mw_30)) rfl hK hP hD hS hA (fun _ => rfl) (by decide) (by decide) (Nat.le_of_ble_eq_true rfl) (Nat.le_of_ble_eq_true rfl) (Nat.le_of_ble_eq_true rfl) dX4_init_7 ?_; clear hP hD hS; clear H; intro q1 cA H hK2 hP hD hS
  obtain rfl := cA_eq hK2 0 rfl
  clear hK2
  replace hP := pushS (S := ([(h0, .inr (4, [.null, .null, .null, .null, .null, .null, .null, .null, .int 0, .int 0, .int 0]))] : va_W)) (bs := []) (c := (q1, .inl (cy 0, 64, .inl (fun _ => 0)))) hP hD; clear hD; obtain ⟨hP, hD⟩ := hP
  replace hP : va_P (dC, dI) vwCl (([(h0, .inr (4, [.null, .null, .null, .null, .null, .null, .null, .null, .int 0, .int 0, .int 0])), (q1, .inl (cy 0, 64, .inl (fun _ => 0)))] : va_W) ++ List.flatten []) H := hP
  replace hD : va_D A (([(h0, .inr (4, [.null, .null, .null, .null, .null, .null, .null, .null, .int 0, .int 0, .int 0])), (q1, .inl (cy 0, 64, .inl (fun _ => 0)))] : va_W) ++ List.flatten []) := hD
  refine W.widen (k := 1) (n := 64) (Nat.le_of_ble_eq_true rfl) (Nat.le_of_ble_eq_true rfl) ?_
  refine va_putF (D := (dC, dI)) (ci := 4) (v := .ref q1) (ty := .array .int) (C := RX4) (T := TX4) (N := 11) hx hb hts inX4 tyX4 tyX4_ok nmX4 hown hK hP hD hS 0 rfl rfl 0 (by decide) (hts _ (List.mem_cons_of_mem _ mw_120)) (fun _ h9 => h9) rfl hin rfl (by decide +kernel) rfl rfl (Nat.le_of_ble_eq_true rfl) dX4_init_9 ?_; clear hP hD hS; clear H locs; intro H locs hP hD hS
  replace hP : va_P (dC, dI) vwCl (([(h0, .inr (4, [.ref q1, .null, .null, .null, .null, .null, .null, .null, .int 0, .int 0, .int 0])), (q1, .inl (cy 0, 64, .inl (fun _ => 0)))] : va_W) ++ List.flatten []) H := hP
  replace hD : va_D A (([(h0, .inr (4, [.ref q1, .null, .null, .null, .null, .null, .null, .null, .int 0, .int 0, .int 0])), (q1, .inl (cy 0, 64, .inl (fun _ => 0)))] : va_W) ++ List.flatten []) := hD
  refine lv_aload_n hx hb dX4_init_12 rfl (lv_at hl 0 rfl) ?_
  refine lv_bipush (v := 64) hx hb dX4_init_13 (by decide) ?_
  refine va_newa (atype := .int) (a0 := (64, .inl (fun _ => 0))) (N' := 64) hx hb (hts _ (List.mem_cons_of_mem _ mw_30)) rfl hK hP hD hS hA (fun _ => rfl) (by decide) (by decide) (Nat.le_of_ble_eq_true rfl) (Nat.le_of_ble_eq_true rfl) (Nat.le_of_ble_eq_true rfl) dX4_init_15 ?_; clear hP hD hS; clear H; intro q2 cA H hK2 hP hD hS
  obtain rfl := cA_eq hK2 0 rfl
  clear hK2
  replace hP := pushS (S := ([(h0, .inr (4, [.ref q1, .null, .null, .null, .null, .null, .null, .null, .int 0, .int 0, .int 0])), (q1, .inl (cy 0, 64, .inl (fun _ => 0)))] : va_W)) (bs := []) (c := (q2, .inl (cy 0, 64, .inl (fun _ => 0)))) hP hD; clear hD; obtain ⟨hP, hD⟩ := hP
  replace hP : va_P (dC, dI) vwCl (([(h0, .inr (4, [.ref q1, .null, .null, .null, .null, .null, .null, .null, .int 0, .int 0, .int 0])), (q1, .inl (cy 0, 64, .inl (fun _ => 0))), (q2, .inl (cy 0, 64, .inl (fun _ => 0)))] : va_W) ++ List.flatten []) H := hP
  replace hD : va_D A (([(h0, .inr (4, [.ref q1, .null, .null, .null, .null, .null, .null, .null, .int 0, .int 0, .int 0])), (q1, .inl (cy 0, 64, .inl (fun _ => 0))), (q2, .inl (cy 0, 64, .inl (fun _ => 0)))] : va_W) ++ List.flatten []) := hD
  refine W.widen (k := 2) (n := 128) (Nat.le_of_ble_eq_true rfl) (Nat.le_of_ble_eq_true rfl) ?_
  refine va_putF (D := (dC, dI)) (ci := 4) (v := .ref q2) (ty := .array .int) (C := RX4) (T := TX4) (N := 11) hx hb hts inX4 tyX4 tyX4_ok nmX4 hown hK hP hD hS 0 rfl rfl 1 (by decide) (hts _ (List.mem_cons_of_mem _ mw_121)) (fun _ h9 => h9) rfl hin rfl (by decide +kernel) rfl rfl (Nat.le_of_ble_eq_true rfl) dX4_init_17 ?_; clear hP hD hS; clear H locs; intro H locs hP hD hS
  replace hP : va_P (dC, dI) vwCl (([(h0, .inr (4, [.ref q1, .ref q2, .null, .null, .null, .null, .null, .null, .int 0, .int 0, .int 0])), (q1, .inl (cy 0, 64, .inl (fun _ => 0))), (q2, .inl (cy 0, 64, .inl (fun _ => 0)))] : va_W) ++ List.flatten []) H := hP
  replace hD : va_D A (([(h0, .inr (4, [.ref q1, .ref q2, .null, .null, .null, .null, .null, .null, .int 0, .int 0, .int 0])), (q1, .inl (cy 0, 64, .inl (fun _ => 0))), (q2, .inl (cy 0, 64, .inl (fun _ => 0)))] : va_W) ++ List.flatten []) := hD
  refine lv_aload_n hx hb dX4_init_20 rfl (lv_at hl 0 rfl) ?_
  refine lv_bipush (v := 64) hx hb dX4_init_21 (by decide) ?_
  refine va_newa (atype := .int) (a0 := (64, .inl (fun _ => 0))) (N' := 64) hx hb (hts _ (List.mem_cons_of_mem _ mw_30)) rfl hK hP hD hS hA (fun _ => rfl) (by decide) (by decide) (Nat.le_of_ble_eq_true rfl) (Nat.le_of_ble_eq_true rfl) (Nat.le_of_ble_eq_true rfl) dX4_init_23 ?_; clear hP hD hS; clear H; intro q3 cA H hK2 hP hD hS
  obtain rfl := cA_eq hK2 0 rfl
  clear hK2
  replace hP := pushS (S := ([(h0, .inr (4, [.ref q1, .ref q2, .null, .null, .null, .null, .null, .null, .int 0, .int 0, .int 0])), (q1, .inl (cy 0, 64, .inl (fun _ => 0))), (q2, .inl (cy 0, 64, .inl (fun _ => 0)))] : va_W)) (bs := []) (c := (q3, .inl (cy 0, 64, .inl (fun _ => 0)))) hP hD; clear hD; obtain ⟨hP, hD⟩ := hP
  replace hP : va_P (dC, dI) vwCl (([(h0, .inr (4, [.ref q1, .ref q2, .null, .null, .null, .null, .null, .null, .int 0, .int 0, .int 0])), (q1, .inl (cy 0, 64, .inl (fun _ => 0))), (q2, .inl (cy 0, 64, .inl (fun _ => 0))), (q3, .inl (cy 0, 64, .inl (fun _ => 0)))] : va_W) ++ List.flatten []) H := hP
  replace hD : va_D A (([(h0, .inr (4, [.ref q1, .ref q2, .null, .null, .null, .null, .null, .null, .int 0, .int 0, .int 0])), (q1, .inl (cy 0, 64, .inl (fun _ => 0))), (q2, .inl (cy 0, 64, .inl (fun _ => 0))), (q3, .inl (cy 0, 64, .inl (fun _ => 0)))] : va_W) ++ List.flatten []) := hD
  refine W.widen (k := 3) (n := 192) (Nat.le_of_ble_eq_true rfl) (Nat.le_of_ble_eq_true rfl) ?_
  refine va_putF (D := (dC, dI)) (ci := 4) (v := .ref q3) (ty := .array .int) (C := RX4) (T := TX4) (N := 11) hx hb hts inX4 tyX4 tyX4_ok nmX4 hown hK hP hD hS 0 rfl rfl 2 (by decide) (hts _ (List.mem_cons_of_mem _ mw_122)) (fun _ h9 => h9) rfl hin rfl (by decide +kernel) rfl rfl (Nat.le_of_ble_eq_true rfl) dX4_init_25 ?_; clear hP hD hS; clear H locs; intro H locs hP hD hS
  replace hP : va_P (dC, dI) vwCl (([(h0, .inr (4, [.ref q1, .ref q2, .ref q3, .null, .null, .null, .null, .null, .int 0, .int 0, .int 0])), (q1, .inl (cy 0, 64, .inl (fun _ => 0))), (q2, .inl (cy 0, 64, .inl (fun _ => 0))), (q3, .inl (cy 0, 64, .inl (fun _ => 0)))] : va_W) ++ List.flatten []) H := hP
  replace hD : va_D A (([(h0, .inr (4, [.ref q1, .ref q2, .ref q3, .null, .null, .null, .null, .null, .int 0, .int 0, .int 0])), (q1, .inl (cy 0, 64, .inl (fun _ => 0))), (q2, .inl (cy 0, 64, .inl (fun _ => 0))), (q3, .inl (cy 0, 64, .inl (fun _ => 0)))] : va_W) ++ List.flatten []) := hD
  refine lv_aload_n hx hb dX4_init_28 rfl (lv_at hl 0 rfl) ?_
  refine lv_bipush (v := 64) hx hb dX4_init_29 (by decide) ?_
  refine va_newa (atype := .int) (a0 := (64, .inl (fun _ => 0))) (N' := 64) hx hb (hts _ (List.mem_cons_of_mem _ mw_30)) rfl hK hP hD hS hA (fun _ => rfl) (by decide) (by decide) (Nat.le_of_ble_eq_true rfl) (Nat.le_of_ble_eq_true rfl) (Nat.le_of_ble_eq_true rfl) dX4_init_31 ?_; clear hP hD hS; clear H; intro q4 cA H hK2 hP hD hS
  obtain rfl := cA_eq hK2 0 rfl
  clear hK2
  replace hP := pushS (S := ([(h0, .inr (4, [.ref q1, .ref q2, .ref q3, .null, .null, .null, .null, .null, .int 0, .int 0, .int 0])), (q1, .inl (cy 0, 64, .inl (fun _ => 0))), (q2, .inl (cy 0, 64, .inl (fun _ => 0))), (q3, .inl (cy 0, 64, .inl (fun _ => 0)))] : va_W)) (bs := []) (c := (q4, .inl (cy 0, 64, .inl (fun _ => 0)))) hP hD; clear hD; obtain ⟨hP, hD⟩ := hP
  replace hP : va_P (dC, dI) vwCl (([(h0, .inr (4, [.ref q1, .ref q2, .ref q3, .null, .null, .null, .null, .null, .int 0, .int 0, .int 0])), (q1, .inl (cy 0, 64, .inl (fun _ => 0))), (q2, .inl (cy 0, 64, .inl (fun _ => 0))), (q3, .inl (cy 0, 64, .inl (fun _ => 0))), (q4, .inl (cy 0, 64, .inl (fun _ => 0)))] : va_W) ++ List.flatten []) H := hP
  replace hD : va_D A (([(h0, .inr (4, [.ref q1, .ref q2, .ref q3, .null, .null, .null, .null, .null, .int 0, .int 0, .int 0])), (q1, .inl (cy 0, 64, .inl (fun _ => 0))), (q2, .inl (cy 0, 64, .inl (fun _ => 0))), (q3, .inl (cy 0, 64, .inl (fun _ => 0))), (q4, .inl (cy 0, 64, .inl (fun _ => 0)))] : va_W) ++ List.flatten []) := hD
  refine W.widen (k := 4) (n := 256) (Nat.le_of_ble_eq_true rfl) (Nat.le_of_ble_eq_true rfl) ?_
  refine va_putF (D := (dC, dI)) (ci := 4) (v := .ref q4) (ty := .array .int) (C := RX4) (T := TX4) (N := 11) hx hb hts inX4 tyX4 tyX4_ok nmX4 hown hK hP hD hS 0 rfl rfl 3 (by decide) (hts _ (List.mem_cons_of_mem _ mw_123)) (fun _ h9 => h9) rfl hin rfl (by decide +kernel) rfl rfl (Nat.le_of_ble_eq_true rfl) dX4_init_33 ?_; clear hP hD hS; clear H locs; intro H locs hP hD hS
  replace hP : va_P (dC, dI) vwCl (([(h0, .inr (4, [.ref q1, .ref q2, .ref q3, .ref q4, .null, .null, .null, .null, .int 0, .int 0, .int 0])), (q1, .inl (cy 0, 64, .inl (fun _ => 0))), (q2, .inl (cy 0, 64, .inl (fun _ => 0))), (q3, .inl (cy 0, 64, .inl (fun _ => 0))), (q4, .inl (cy 0, 64, .inl (fun _ => 0)))] : va_W) ++ List.flatten []) H := hP
  replace hD : va_D A (([(h0, .inr (4, [.ref q1, .ref q2, .ref q3, .ref q4, .null, .null, .null, .null, .int 0, .int 0, .int 0])), (q1, .inl (cy 0, 64, .inl (fun _ => 0))), (q2, .inl (cy 0, 64, .inl (fun _ => 0))), (q3, .inl (cy 0, 64, .inl (fun _ => 0))), (q4, .inl (cy 0, 64, .inl (fun _ => 0)))] : va_W) ++ List.flatten []) := hD
  refine lv_aload_n hx hb dX4_init_36 rfl (lv_at hl 0 rfl) ?_
  refine lv_bipush (v := 64) hx hb dX4_init_37 (by decide) ?_
  refine va_newa (atype := .int) (a0 := (64, .inl (fun _ => 0))) (N' := 64) hx hb (hts _ (List.mem_cons_of_mem _ mw_30)) rfl hK hP hD hS hA (fun _ => rfl) (by decide) (by decide) (Nat.le_of_ble_eq_true rfl) (Nat.le_of_ble_eq_true rfl) (Nat.le_of_ble_eq_true rfl) dX4_init_39 ?_; clear hP hD hS; clear H; intro q5 cA H hK2 hP hD hS
  obtain rfl := cA_eq hK2 0 rfl
  clear hK2
  replace hP := pushS (S := ([(h0, .inr (4, [.ref q1, .ref q2, .ref q3, .ref q4, .null, .null, .null, .null, .int 0, .int 0, .int 0])), (q1, .inl (cy 0, 64, .inl (fun _ => 0))), (q2, .inl (cy 0, 64, .inl (fun _ => 0))), (q3, .inl (cy 0, 64, .inl (fun _ => 0))), (q4, .inl (cy 0, 64, .inl (fun _ => 0)))] : va_W)) (bs := []) (c := (q5, .inl (cy 0, 64, .inl (fun _ => 0)))) hP hD; clear hD; obtain ⟨hP, hD⟩ := hP
  replace hP : va_P (dC, dI) vwCl (([(h0, .inr (4, [.ref q1, .ref q2, .ref q3, .ref q4, .null, .null, .null, .null, .int 0, .int 0, .int 0])), (q1, .inl (cy 0, 64, .inl (fun _ => 0))), (q2, .inl (cy 0, 64, .inl (fun _ => 0))), (q3, .inl (cy 0, 64, .inl (fun _ => 0))), (q4, .inl (cy 0, 64, .inl (fun _ => 0))), (q5, .inl (cy 0, 64, .inl (fun _ => 0)))] : va_W) ++ List.flatten []) H := hP
  replace hD : va_D A (([(h0, .inr (4, [.ref q1, .ref q2, .ref q3, .ref q4, .null, .null, .null, .null, .int 0, .int 0, .int 0])), (q1, .inl (cy 0, 64, .inl (fun _ => 0))), (q2, .inl (cy 0, 64, .inl (fun _ => 0))), (q3, .inl (cy 0, 64, .inl (fun _ => 0))), (q4, .inl (cy 0, 64, .inl (fun _ => 0))), (q5, .inl (cy 0, 64, .inl (fun _ => 0)))] : va_W) ++ List.flatten []) := hD
  refine W.widen (k := 5) (n := 320) (Nat.le_of_ble_eq_true rfl) (Nat.le_of_ble_eq_true rfl) ?_
  refine va_putF (D := (dC, dI)) (ci := 4) (v := .ref q5) (ty := .array .int) (C := RX4) (T := TX4) (N := 11) hx hb hts inX4 tyX4 tyX4_ok nmX4 hown hK hP hD hS 0 rfl rfl 4 (by decide) (hts _ (List.mem_cons_of_mem _ mw_124)) (fun _ h9 => h9) rfl hin rfl (by decide +kernel) rfl rfl (Nat.le_of_ble_eq_true rfl) dX4_init_41 ?_; clear hP hD hS; clear H locs; intro H locs hP hD hS
  replace hP : va_P (dC, dI) vwCl (([(h0, .inr (4, [.ref q1, .ref q2, .ref q3, .ref q4, .ref q5, .null, .null, .null, .int 0, .int 0, .int 0])), (q1, .inl (cy 0, 64, .inl (fun _ => 0))), (q2, .inl (cy 0, 64, .inl (fun _ => 0))), (q3, .inl (cy 0, 64, .inl (fun _ => 0))), (q4, .inl (cy 0, 64, .inl (fun _ => 0))), (q5, .inl (cy 0, 64, .inl (fun _ => 0)))] : va_W) ++ List.flatten []) H := hP
  replace hD : va_D A (([(h0, .inr (4, [.ref q1, .ref q2, .ref q3, .ref q4, .ref q5, .null, .null, .null, .int 0, .int 0, .int 0])), (q1, .inl (cy 0, 64, .inl (fun _ => 0))), (q2, .inl (cy 0, 64, .inl (fun _ => 0))), (q3, .inl (cy 0, 64, .inl (fun _ => 0))), (q4, .inl (cy 0, 64, .inl (fun _ => 0))), (q5, .inl (cy 0, 64, .inl (fun _ => 0)))] : va_W) ++ List.flatten []) := hD
  refine lv_aload_n hx hb dX4_init_44 rfl (lv_at hl 0 rfl) ?_
  refine lv_bipush (v := 16) hx hb dX4_init_45 (by decide) ?_
  refine va_newa (atype := .int) (a0 := (16, .inl (fun _ => 0))) (N' := 16) hx hb (hts _ (List.mem_cons_of_mem _ mw_30)) rfl hK hP hD hS hA (fun _ => rfl) (by decide) (by decide) (Nat.le_of_ble_eq_true rfl) (Nat.le_of_ble_eq_true rfl) (Nat.le_of_ble_eq_true rfl) dX4_init_47 ?_; clear hP hD hS; clear H; intro q6 cA H hK2 hP hD hS
  obtain rfl := cA_eq hK2 0 rfl
  clear hK2
  replace hP := pushS (S := ([(h0, .inr (4, [.ref q1, .ref q2, .ref q3, .ref q4, .ref q5, .null, .null, .null, .int 0, .int 0, .int 0])), (q1, .inl (cy 0, 64, .inl (fun _ => 0))), (q2, .inl (cy 0, 64, .inl (fun _ => 0))), (q3, .inl (cy 0, 64, .inl (fun _ => 0))), (q4, .inl (cy 0, 64, .inl (fun _ => 0))), (q5, .inl (cy 0, 64, .inl (fun _ => 0)))] : va_W)) (bs := []) (c := (q6, .inl (cy 0, 16, .inl (fun _ => 0)))) hP hD; clear hD; obtain ⟨hP, hD⟩ := hP
  replace hP : va_P (dC, dI) vwCl (([(h0, .inr (4, [.ref q1, .ref q2, .ref q3, .ref q4, .ref q5, .null, .null, .null, .int 0, .int 0, .int 0])), (q1, .inl (cy 0, 64, .inl (fun _ => 0))), (q2, .inl (cy 0, 64, .inl (fun _ => 0))), (q3, .inl (cy 0, 64, .inl (fun _ => 0))), (q4, .inl (cy 0, 64, .inl (fun _ => 0))), (q5, .inl (cy 0, 64, .inl (fun _ => 0))), (q6, .inl (cy 0, 16, .inl (fun _ => 0)))] : va_W) ++ List.flatten []) H := hP
  replace hD : va_D A (([(h0, .inr (4, [.ref q1, .ref q2, .ref q3, .ref q4, .ref q5, .null, .null, .null, .int 0, .int 0, .int 0])), (q1, .inl (cy 0, 64, .inl (fun _ => 0))), (q2, .inl (cy 0, 64, .inl (fun _ => 0))), (q3, .inl (cy 0, 64, .inl (fun _ => 0))), (q4, .inl (cy 0, 64, .inl (fun _ => 0))), (q5, .inl (cy 0, 64, .inl (fun _ => 0))), (q6, .inl (cy 0, 16, .inl (fun _ => 0)))] : va_W) ++ List.flatten []) := hD
  refine W.widen (k := 6) (n := 336) (Nat.le_of_ble_eq_true rfl) (Nat.le_of_ble_eq_true rfl) ?_
  refine va_putF (D := (dC, dI)) (ci := 4) (v := .ref q6) (ty := .array .int) (C := RX4) (T := TX4) (N := 11) hx hb hts inX4 tyX4 tyX4_ok nmX4 hown hK hP hD hS 0 rfl rfl 5 (by decide) (hts _ (List.mem_cons_of_mem _ mw_125)) (fun _ h9 => h9) rfl hin rfl (by decide +kernel) rfl rfl (Nat.le_of_ble_eq_true rfl) dX4_init_49 ?_; clear hP hD hS; clear H locs; intro H locs hP hD hS
  replace hP : va_P (dC, dI) vwCl (([(h0, .inr (4, [.ref q1, .ref q2, .ref q3, .ref q4, .ref q5, .ref q6, .null, .null, .int 0, .int 0, .int 0])), (q1, .inl (cy 0, 64, .inl (fun _ => 0))), (q2, .inl (cy 0, 64, .inl (fun _ => 0))), (q3, .inl (cy 0, 64, .inl (fun _ => 0))), (q4, .inl (cy 0, 64, .inl (fun _ => 0))), (q5, .inl (cy 0, 64, .inl (fun _ => 0))), (q6, .inl (cy 0, 16, .inl (fun _ => 0)))] : va_W) ++ List.flatten []) H := hP
  replace hD : va_D A (([(h0, .inr (4, [.ref q1, .ref q2, .ref q3, .ref q4, .ref q5, .ref q6, .null, .null, .int 0, .int 0, .int 0])), (q1, .inl (cy 0, 64, .inl (fun _ => 0))), (q2, .inl (cy 0, 64, .inl (fun _ => 0))), (q3, .inl (cy 0, 64, .inl (fun _ => 0))), (q4, .inl (cy 0, 64, .inl (fun _ => 0))), (q5, .inl (cy 0, 64, .inl (fun _ => 0))), (q6, .inl (cy 0, 16, .inl (fun _ => 0)))] : va_W) ++ List.flatten []) := hD
  refine lv_aload_n hx hb dX4_init_52 rfl (lv_at hl 0 rfl) ?_
  refine lv_bipush (v := 16) hx hb dX4_init_53 (by decide) ?_
  refine va_newa (atype := .int) (a0 := (16, .inl (fun _ => 0))) (N' := 16) hx hb (hts _ (List.mem_cons_of_mem _ mw_30)) rfl hK hP hD hS hA (fun _ => rfl) (by decide) (by decide) (Nat.le_of_ble_eq_true rfl) (Nat.le_of_ble_eq_true rfl) (Nat.le_of_ble_eq_true rfl) dX4_init_55 ?_; clear hP hD hS; clear H; intro q7 cA H hK2 hP hD hS
  obtain rfl := cA_eq hK2 0 rfl
  clear hK2
  replace hP := pushS (S := ([(h0, .inr (4, [.ref q1, .ref q2, .ref q3, .ref q4, .ref q5, .ref q6, .null, .null, .int 0, .int 0, .int 0])), (q1, .inl (cy 0, 64, .inl (fun _ => 0))), (q2, .inl (cy 0, 64, .inl (fun _ => 0))), (q3, .inl (cy 0, 64, .inl (fun _ => 0))), (q4, .inl (cy 0, 64, .inl (fun _ => 0))), (q5, .inl (cy 0, 64, .inl (fun _ => 0))), (q6, .inl (cy 0, 16, .inl (fun _ => 0)))] : va_W)) (bs := []) (c := (q7, .inl (cy 0, 16, .inl (fun _ => 0)))) hP hD; clear hD; obtain ⟨hP, hD⟩ := hP
  replace hP : va_P (dC, dI) vwCl (([(h0, .inr (4, [.ref q1, .ref q2, .ref q3, .ref q4, .ref q5, .ref q6, .null, .null, .int 0, .int 0, .int 0])), (q1, .inl (cy 0, 64, .inl (fun _ => 0))), (q2, .inl (cy 0, 64, .inl (fun _ => 0))), (q3, .inl (cy 0, 64, .inl (fun _ => 0))), (q4, .inl (cy 0, 64, .inl (fun _ => 0))), (q5, .inl (cy 0, 64, .inl (fun _ => 0))), (q6, .inl (cy 0, 16, .inl (fun _ => 0))), (q7, .inl (cy 0, 16, .inl (fun _ => 0)))] : va_W) ++ List.flatten []) H := hP
  replace hD : va_D A (([(h0, .inr (4, [.ref q1, .ref q2, .ref q3, .ref q4, .ref q5, .ref q6, .null, .null, .int 0, .int 0, .int 0])), (q1, .inl (cy 0, 64, .inl (fun _ => 0))), (q2, .inl (cy 0, 64, .inl (fun _ => 0))), (q3, .inl (cy 0, 64, .inl (fun _ => 0))), (q4, .inl (cy 0, 64, .inl (fun _ => 0))), (q5, .inl (cy 0, 64, .inl (fun _ => 0))), (q6, .inl (cy 0, 16, .inl (fun _ => 0))), (q7, .inl (cy 0, 16, .inl (fun _ => 0)))] : va_W) ++ List.flatten []) := hD
  refine W.widen (k := 7) (n := 352) (Nat.le_of_ble_eq_true rfl) (Nat.le_of_ble_eq_true rfl) ?_
  refine va_putF (D := (dC, dI)) (ci := 4) (v := .ref q7) (ty := .array .int) (C := RX4) (T := TX4) (N := 11) hx hb hts inX4 tyX4 tyX4_ok nmX4 hown hK hP hD hS 0 rfl rfl 6 (by decide) (hts _ (List.mem_cons_of_mem _ mw_126)) (fun _ h9 => h9) rfl hin rfl (by decide +kernel) rfl rfl (Nat.le_of_ble_eq_true rfl) dX4_init_57 ?_; clear hP hD hS; clear H locs; intro H locs hP hD hS
  replace hP : va_P (dC, dI) vwCl (([(h0, .inr (4, [.ref q1, .ref q2, .ref q3, .ref q4, .ref q5, .ref q6, .ref q7, .null, .int 0, .int 0, .int 0])), (q1, .inl (cy 0, 64, .inl (fun _ => 0))), (q2, .inl (cy 0, 64, .inl (fun _ => 0))), (q3, .inl (cy 0, 64, .inl (fun _ => 0))), (q4, .inl (cy 0, 64, .inl (fun _ => 0))), (q5, .inl (cy 0, 64, .inl (fun _ => 0))), (q6, .inl (cy 0, 16, .inl (fun _ => 0))), (q7, .inl (cy 0, 16, .inl (fun _ => 0)))] : va_W) ++ List.flatten []) H := hP
  replace hD : va_D A (([(h0, .inr (4, [.ref q1, .ref q2, .ref q3, .ref q4, .ref q5, .ref q6, .ref q7, .null, .int 0, .int 0, .int 0])), (q1, .inl (cy 0, 64, .inl (fun _ => 0))), (q2, .inl (cy 0, 64, .inl (fun _ => 0))), (q3, .inl (cy 0, 64, .inl (fun _ => 0))), (q4, .inl (cy 0, 64, .inl (fun _ => 0))), (q5, .inl (cy 0, 64, .inl (fun _ => 0))), (q6, .inl (cy 0, 16, .inl (fun _ => 0))), (q7, .inl (cy 0, 16, .inl (fun _ => 0)))] : va_W) ++ List.flatten []) := hD
  refine lv_aload_n hx hb dX4_init_60 rfl (lv_at hl 0 rfl) ?_
  refine lv_bipush (v := 16) hx hb dX4_init_61 (by decide) ?_
  refine va_newa (atype := .int) (a0 := (16, .inl (fun _ => 0))) (N' := 16) hx hb (hts _ (List.mem_cons_of_mem _ mw_30)) rfl hK hP hD hS hA (fun _ => rfl) (by decide) (by decide) (Nat.le_of_ble_eq_true rfl) (Nat.le_of_ble_eq_true rfl) (Nat.le_of_ble_eq_true rfl) dX4_init_63 ?_; clear hP hD hS; clear H; intro q8 cA H hK2 hP hD hS
  obtain rfl := cA_eq hK2 0 rfl
  clear hK2
  replace hP := pushS (S := ([(h0, .inr (4, [.ref q1, .ref q2, .ref q3, .ref q4, .ref q5, .ref q6, .ref q7, .null, .int 0, .int 0, .int 0])), (q1, .inl (cy 0, 64, .inl (fun _ => 0))), (q2, .inl (cy 0, 64, .inl (fun _ => 0))), (q3, .inl (cy 0, 64, .inl (fun _ => 0))), (q4, .inl (cy 0, 64, .inl (fun _ => 0))), (q5, .inl (cy 0, 64, .inl (fun _ => 0))), (q6, .inl (cy 0, 16, .inl (fun _ => 0))), (q7, .inl (cy 0, 16, .inl (fun _ => 0)))] : va_W)) (bs := []) (c := (q8, .inl (cy 0, 16, .inl (fun _ => 0)))) hP hD; clear hD; obtain ⟨hP, hD⟩ := hP
  replace hP : va_P (dC, dI) vwCl (([(h0, .inr (4, [.ref q1, .ref q2, .ref q3, .ref q4, .ref q5, .ref q6, .ref q7, .null, .int 0, .int 0, .int 0])), (q1, .inl (cy 0, 64, .inl (fun _ => 0))), (q2, .inl (cy 0, 64, .inl (fun _ => 0))), (q3, .inl (cy 0, 64, .inl (fun _ => 0))), (q4, .inl (cy 0, 64, .inl (fun _ => 0))), (q5, .inl (cy 0, 64, .inl (fun _ => 0))), (q6, .inl (cy 0, 16, .inl (fun _ => 0))), (q7, .inl (cy 0, 16, .inl (fun _ => 0))), (q8, .inl (cy 0, 16, .inl (fun _ => 0)))] : va_W) ++ List.flatten []) H := hP
  replace hD : va_D A (([(h0, .inr (4, [.ref q1, .ref q2, .ref q3, .ref q4, .ref q5, .ref q6, .ref q7, .null, .int 0, .int 0, .int 0])), (q1, .inl (cy 0, 64, .inl (fun _ => 0))), (q2, .inl (cy 0, 64, .inl (fun _ => 0))), (q3, .inl (cy 0, 64, .inl (fun _ => 0))), (q4, .inl (cy 0, 64, .inl (fun _ => 0))), (q5, .inl (cy 0, 64, .inl (fun _ => 0))), (q6, .inl (cy 0, 16, .inl (fun _ => 0))), (q7, .inl (cy 0, 16, .inl (fun _ => 0))), (q8, .inl (cy 0, 16, .inl (fun _ => 0)))] : va_W) ++ List.flatten []) := hD
  refine W.widen (k := 8) (n := 368) (Nat.le_of_ble_eq_true rfl) (Nat.le_of_ble_eq_true rfl) ?_
  refine va_putF (D := (dC, dI)) (ci := 4) (v := .ref q8) (ty := .array .int) (C := RX4) (T := TX4) (N := 11) hx hb hts inX4 tyX4 tyX4_ok nmX4 hown hK hP hD hS 0 rfl rfl 7 (by decide) (hts _ (List.mem_cons_of_mem _ mw_127)) (fun _ h9 => h9) rfl hin rfl (by decide +kernel) rfl rfl (Nat.le_of_ble_eq_true rfl) dX4_init_65 ?_; clear hP hD hS; clear H locs; intro H locs hP hD hS
  replace hP : va_P (dC, dI) vwCl (([(h0, .inr (4, [.ref q1, .ref q2, .ref q3, .ref q4, .ref q5, .ref q6, .ref q7, .ref q8, .int 0, .int 0, .int 0])), (q1, .inl (cy 0, 64, .inl (fun _ => 0))), (q2, .inl (cy 0, 64, .inl (fun _ => 0))), (q3, .inl (cy 0, 64, .inl (fun _ => 0))), (q4, .inl (cy 0, 64, .inl (fun _ => 0))), (q5, .inl (cy 0, 64, .inl (fun _ => 0))), (q6, .inl (cy 0, 16, .inl (fun _ => 0))), (q7, .inl (cy 0, 16, .inl (fun _ => 0))), (q8, .inl (cy 0, 16, .inl (fun _ => 0)))] : va_W) ++ List.flatten []) H := hP
  replace hD : va_D A (([(h0, .inr (4, [.ref q1, .ref q2, .ref q3, .ref q4, .ref q5, .ref q6, .ref q7, .ref q8, .int 0, .int 0, .int 0])), (q1, .inl (cy 0, 64, .inl (fun _ => 0))), (q2, .inl (cy 0, 64, .inl (fun _ => 0))), (q3, .inl (cy 0, 64, .inl (fun _ => 0))), (q4, .inl (cy 0, 64, .inl (fun _ => 0))), (q5, .inl (cy 0, 64, .inl (fun _ => 0))), (q6, .inl (cy 0, 16, .inl (fun _ => 0))), (q7, .inl (cy 0, 16, .inl (fun _ => 0))), (q8, .inl (cy 0, 16, .inl (fun _ => 0)))] : va_W) ++ List.flatten []) := hD
  refine lv_aload_n hx hb dX4_init_68 rfl (lv_at hl 0 rfl) ?_
  refine lv_iconst (v := 0) hx hb dX4_init_69 (by decide) ?_
  refine va_put (D := (dC, dI)) (ci := 4) (v := .int (0 : Int32)) (ty := .int) (C := RX4) (T := TX4) (N := 11) hx hb hts inX4 tyX4 tyX4_ok nmX4 hown hK hP hD hS 0 rfl rfl 8 (by decide) (hts _ (List.mem_cons_of_mem _ mw_128)) (fun _ h9 => h9) rfl (by decide +kernel) rfl rfl (Nat.le_of_ble_eq_true rfl) dX4_init_70 ?_; clear hP hD hS; clear H locs; intro H locs hP hD hS
  replace hP : va_P (dC, dI) vwCl (([(h0, .inr (4, [.ref q1, .ref q2, .ref q3, .ref q4, .ref q5, .ref q6, .ref q7, .ref q8, .int (0 : Int32), .int 0, .int 0])), (q1, .inl (cy 0, 64, .inl (fun _ => 0))), (q2, .inl (cy 0, 64, .inl (fun _ => 0))), (q3, .inl (cy 0, 64, .inl (fun _ => 0))), (q4, .inl (cy 0, 64, .inl (fun _ => 0))), (q5, .inl (cy 0, 64, .inl (fun _ => 0))), (q6, .inl (cy 0, 16, .inl (fun _ => 0))), (q7, .inl (cy 0, 16, .inl (fun _ => 0))), (q8, .inl (cy 0, 16, .inl (fun _ => 0)))] : va_W) ++ List.flatten []) H := hP
  replace hD : va_D A (([(h0, .inr (4, [.ref q1, .ref q2, .ref q3, .ref q4, .ref q5, .ref q6, .ref q7, .ref q8, .int (0 : Int32), .int 0, .int 0])), (q1, .inl (cy 0, 64, .inl (fun _ => 0))), (q2, .inl (cy 0, 64, .inl (fun _ => 0))), (q3, .inl (cy 0, 64, .inl (fun _ => 0))), (q4, .inl (cy 0, 64, .inl (fun _ => 0))), (q5, .inl (cy 0, 64, .inl (fun _ => 0))), (q6, .inl (cy 0, 16, .inl (fun _ => 0))), (q7, .inl (cy 0, 16, .inl (fun _ => 0))), (q8, .inl (cy 0, 16, .inl (fun _ => 0)))] : va_W) ++ List.flatten []) := hD
  refine lv_aload_n hx hb dX4_init_73 rfl (lv_at hl 0 rfl) ?_
  refine lv_iconst (v := 0) hx hb dX4_init_74 (by decide) ?_
  refine va_put (D := (dC, dI)) (ci := 4) (v := .int (0 : Int32)) (ty := .int) (C := RX4) (T := TX4) (N := 11) hx hb hts inX4 tyX4 tyX4_ok nmX4 hown hK hP hD hS 0 rfl rfl 9 (by decide) (hts _ (List.mem_cons_of_mem _ mw_129)) (fun _ h9 => h9) rfl (by decide +kernel) rfl rfl (Nat.le_of_ble_eq_true rfl) dX4_init_75 ?_; clear hP hD hS; clear H locs; intro H locs hP hD hS
  replace hP : va_P (dC, dI) vwCl (([(h0, .inr (4, [.ref q1, .ref q2, .ref q3, .ref q4, .ref q5, .ref q6, .ref q7, .ref q8, .int (0 : Int32), .int (0 : Int32), .int 0])), (q1, .inl (cy 0, 64, .inl (fun _ => 0))), (q2, .inl (cy 0, 64, .inl (fun _ => 0))), (q3, .inl (cy 0, 64, .inl (fun _ => 0))), (q4, .inl (cy 0, 64, .inl (fun _ => 0))), (q5, .inl (cy 0, 64, .inl (fun _ => 0))), (q6, .inl (cy 0, 16, .inl (fun _ => 0))), (q7, .inl (cy 0, 16, .inl (fun _ => 0))), (q8, .inl (cy 0, 16, .inl (fun _ => 0)))] : va_W) ++ List.flatten []) H := hP
  replace hD : va_D A (([(h0, .inr (4, [.ref q1, .ref q2, .ref q3, .ref q4, .ref q5, .ref q6, .ref q7, .ref q8, .int (0 : Int32), .int (0 : Int32), .int 0])), (q1, .inl (cy 0, 64, .inl (fun _ => 0))), (q2, .inl (cy 0, 64, .inl (fun _ => 0))), (q3, .inl (cy 0, 64, .inl (fun _ => 0))), (q4, .inl (cy 0, 64, .inl (fun _ => 0))), (q5, .inl (cy 0, 64, .inl (fun _ => 0))), (q6, .inl (cy 0, 16, .inl (fun _ => 0))), (q7, .inl (cy 0, 16, .inl (fun _ => 0))), (q8, .inl (cy 0, 16, .inl (fun _ => 0)))] : va_W) ++ List.flatten []) := hD
  refine lv_aload_n hx hb dX4_init_78 rfl (lv_at hl 0 rfl) ?_
  refine lv_iconst (v := 0) hx hb dX4_init_79 (by decide) ?_
  refine va_put (D := (dC, dI)) (ci := 4) (v := .int (0 : Int32)) (ty := .int) (C := RX4) (T := TX4) (N := 11) hx hb hts inX4 tyX4 tyX4_ok nmX4 hown hK hP hD hS 0 rfl rfl 10 (by decide) (hts _ (List.mem_cons_of_mem _ mw_130)) (fun _ h9 => h9) rfl (by decide +kernel) rfl rfl (Nat.le_of_ble_eq_true rfl) dX4_init_80 ?_; clear hP hD hS; clear H locs; intro H locs hP hD hS
  replace hP : va_P (dC, dI) vwCl (([(h0, .inr (4, [.ref q1, .ref q2, .ref q3, .ref q4, .ref q5, .ref q6, .ref q7, .ref q8, .int (0 : Int32), .int (0 : Int32), .int (0 : Int32)])), (q1, .inl (cy 0, 64, .inl (fun _ => 0))), (q2, .inl (cy 0, 64, .inl (fun _ => 0))), (q3, .inl (cy 0, 64, .inl (fun _ => 0))), (q4, .inl (cy 0, 64, .inl (fun _ => 0))), (q5, .inl (cy 0, 64, .inl (fun _ => 0))), (q6, .inl (cy 0, 16, .inl (fun _ => 0))), (q7, .inl (cy 0, 16, .inl (fun _ => 0))), (q8, .inl (cy 0, 16, .inl (fun _ => 0)))] : va_W) ++ List.flatten []) H := hP
  replace hD : va_D A (([(h0, .inr (4, [.ref q1, .ref q2, .ref q3, .ref q4, .ref q5, .ref q6, .ref q7, .ref q8, .int (0 : Int32), .int (0 : Int32), .int (0 : Int32)])), (q1, .inl (cy 0, 64, .inl (fun _ => 0))), (q2, .inl (cy 0, 64, .inl (fun _ => 0))), (q3, .inl (cy 0, 64, .inl (fun _ => 0))), (q4, .inl (cy 0, 64, .inl (fun _ => 0))), (q5, .inl (cy 0, 64, .inl (fun _ => 0))), (q6, .inl (cy 0, 16, .inl (fun _ => 0))), (q7, .inl (cy 0, 16, .inl (fun _ => 0))), (q8, .inl (cy 0, 16, .inl (fun _ => 0)))] : va_W) ++ List.flatten []) := hD
  exact W.vret hx hb hr (fun t ht hW => ⟨⟨((fun k => ([0, q1, q2, q3, q4, q5, q6, q7, q8] : List Nat).getD k 0), (fun k => ([] : List (Nat → Nat → Nat)).getD k (fun _ _ => 0))), rfl, trivial, by rw [ht]; exact hP, va_K.moved hW.alike hK, hD⟩, hS.F ht⟩) hS.2.2 dX4_init_83
abbrev z_X1 (h0 : Nat) (a : Nat → Nat) (E : Nat → Nat → Nat → Nat) (cy : Nat → ClassId) : va_W := ([(h0, .inr (1, [.ref (a 1), .int (0 : Int32), .int (0 : Int32)])), ((a 1), .inl (cy 0, 80, .inl (fun _ => 0)))] : va_W) ++ List.flatten []
set_option maxHeartbeats 4000000 in
set_option maxRecDepth 100000 in
theorem c_X1_init (l : Launch) (dC : Nat → ClassId) (dI : Nat → Nat → Nat) (cy : Nat → ClassId) (h0 : Nat) (sz : Nat) : Met l yX1_init wsX1_init ({ frames := 1, cells := 1, slots := 80, locals := 20 }) (PX dC dI cy [.ref h0] sz [(h0, .inr (1, [.null, .int 0, .int 0]))]) (va_Qv (fun (_ : (Nat → Nat) × (Nat → Nat → Nat → Nat)) => True) (QX dC dI cy (va_A [(h0, .inr (1, [.null, .int 0, .int 0]))] sz) (fun (u : (Nat → Nat) × (Nat → Nat → Nat → Nat)) => z_X1 h0 u.1 u.2 cy)) (va_A [(h0, .inr (1, [.null, .int 0, .int 0]))] sz)) 1 80 (va_A [(h0, .inr (1, [.null, .int 0, .int 0]))] sz) := by
  refine Met.ofW (cc := cX1_init) (maxL := 1) (ret := none) (by decide) rfl ?_
  intro p e s m args below meth c s₁ B hml hv
  obtain ⟨rfl, hsz, hP, hK, hD0, hG⟩ := hv
  have hx := B.exec
  have hb := B.bytes
  have hr := B.returns
  have hts := atoms_spec (ws := wsX1_init) B.pre
  have hown : s.vm.findClass RX1 = some m.cls := findClass_of_methodNamed B.named
  have hlocks := B.notSynchronized
  have hin : meth.name = "<init>" := (name_of_methodNamed B.named B.method).1
  subst hsz
  have hD := hD0.self (sz := s.heap.size)
  generalize hAe : va_A [(h0, .inr (1, [.null, .int 0, .int 0]))] s.heap.size = A at hD ⊢
  have hA : ∀ q : Nat, s.heap.size ≤ q → A q := fun q h => by rw [← hAe]; exact Or.inr h
  have hS : va_S A s.heap s.heap [] := va_S.rf
  have hl := lv_entry ([.ref h0]) (n := 1) (Nat.le_of_ble_eq_true rfl)
  rw [lg_entry_eq]
  generalize (lg_sl ([.ref h0]) ++ List.replicate (1 - (lg_sl ([.ref h0])).length) Slot.unset).toArray = ls at hl ⊢
  replace hl : lv_has ls 1 [(0, .ref h0)] := hl
  have inX1 : ∀ w ∈ u_ws RX1 TX1 3, w ∈ wsX1_init := fun w h => List.mem_cons_of_mem _ (inlX1 w h)
  clear hAe hD0 B
  obtain ⟨H, hH⟩ : ∃ H, H = s.heap := ⟨_, rfl⟩
  obtain ⟨locs, hlo⟩ : ∃ L : List Loc, L = [] := ⟨_, rfl⟩
  replace hP : va_P (dC, dI) vwCl (([(h0, .inr (1, [.null, .int 0, .int 0]))] : va_W) ++ List.flatten []) H := by rw [hH]; exact hP
  replace hD : va_D A (([(h0, .inr (1, [.null, .int 0, .int 0]))] : va_W) ++ List.flatten []) := hD
  replace hS : va_S A s.heap H locs := by rw [hH, hlo]; exact hS
  rw [show (W p l e _ s m _ below meth c s.heap [] 0 0) = W p l e _ s m _ below meth c H locs 0 0 by rw [hH, hlo]]
  clear hH hlo
  refine lv_aload_n hx hb dX1_init_0 rfl (lv_at hl 0 rfl) ?_
  refine W.objInit hx hb hown (hts _ (List.mem_cons_of_mem _ mw_94)) (hts _ (List.mem_cons_of_mem _ mw_10)) (hts _ (List.mem_cons_of_mem _ mw_11)) rfl (by rw [hml]; exact hl.1) rfl dX1_init_1 (Nat.le_of_ble_eq_true rfl) (Nat.le_of_ble_eq_true rfl) ?_
  refine W.eq (g2 := F0 m 4 ls []) rfl ?_
  refine lv_aload_n hx hb dX1_init_4 rfl (lv_at hl 0 rfl) ?_
  refine lv_bipush (v := 80) hx hb dX1_init_5 (by decide) ?_
  refine va_newa (atype := .int) (a0 := (80, .inl (fun _ => 0))) (N' := 80) hx hb (hts _ (List.mem_cons_of_mem _ mw_30)) rfl hK hP hD hS hA (fun _ => rfl) (by decide) (by decide) (Nat.le_of_ble_eq_true rfl) (Nat.le_of_ble_eq_true rfl) (Nat.le_of_ble_eq_true rfl) dX1_init_7 ?_; clear hP hD hS; clear H; intro q1 cA H hK2 hP hD hS
  obtain rfl := cA_eq hK2 0 rfl
  clear hK2
  replace hP := pushS (S := ([(h0, .inr (1, [.null, .int 0, .int 0]))] : va_W)) (bs := []) (c := (q1, .inl (cy 0, 80, .inl (fun _ => 0)))) hP hD; clear hD; obtain ⟨hP, hD⟩ := hP
  replace hP : va_P (dC, dI) vwCl (([(h0, .inr (1, [.null, .int 0, .int 0])), (q1, .inl (cy 0, 80, .inl (fun _ => 0)))] : va_W) ++ List.flatten []) H := hP
  replace hD : va_D A (([(h0, .inr (1, [.null, .int 0, .int 0])), (q1, .inl (cy 0, 80, .inl (fun _ => 0)))] : va_W) ++ List.flatten []) := hD
  refine W.widen (k := 1) (n := 80) (Nat.le_of_ble_eq_true rfl) (Nat.le_of_ble_eq_true rfl) ?_
  refine va_putF (D := (dC, dI)) (ci := 1) (v := .ref q1) (ty := .array .int) (C := RX1) (T := TX1) (N := 3) hx hb hts inX1 tyX1 tyX1_ok nmX1 hown hK hP hD hS 0 rfl rfl 0 (by decide) (hts _ (List.mem_cons_of_mem _ mw_95)) (fun _ h9 => h9) rfl hin rfl (by decide +kernel) rfl rfl (Nat.le_of_ble_eq_true rfl) dX1_init_9 ?_; clear hP hD hS; clear H locs; intro H locs hP hD hS
  replace hP : va_P (dC, dI) vwCl (([(h0, .inr (1, [.ref q1, .int 0, .int 0])), (q1, .inl (cy 0, 80, .inl (fun _ => 0)))] : va_W) ++ List.flatten []) H := hP
  replace hD : va_D A (([(h0, .inr (1, [.ref q1, .int 0, .int 0])), (q1, .inl (cy 0, 80, .inl (fun _ => 0)))] : va_W) ++ List.flatten []) := hD
  refine lv_aload_n hx hb dX1_init_12 rfl (lv_at hl 0 rfl) ?_
  refine lv_iconst (v := 0) hx hb dX1_init_13 (by decide) ?_
  refine va_put (D := (dC, dI)) (ci := 1) (v := .int (0 : Int32)) (ty := .int) (C := RX1) (T := TX1) (N := 3) hx hb hts inX1 tyX1 tyX1_ok nmX1 hown hK hP hD hS 0 rfl rfl 1 (by decide) (hts _ (List.mem_cons_of_mem _ mw_96)) (fun _ h9 => h9) rfl (by decide +kernel) rfl rfl (Nat.le_of_ble_eq_true rfl) dX1_init_14 ?_; clear hP hD hS; clear H locs; intro H locs hP hD hS
  replace hP : va_P (dC, dI) vwCl (([(h0, .inr (1, [.ref q1, .int (0 : Int32), .int 0])), (q1, .inl (cy 0, 80, .inl (fun _ => 0)))] : va_W) ++ List.flatten []) H := hP
  replace hD : va_D A (([(h0, .inr (1, [.ref q1, .int (0 : Int32), .int 0])), (q1, .inl (cy 0, 80, .inl (fun _ => 0)))] : va_W) ++ List.flatten []) := hD
  refine lv_aload_n hx hb dX1_init_17 rfl (lv_at hl 0 rfl) ?_
  refine lv_iconst (v := 0) hx hb dX1_init_18 (by decide) ?_
  refine va_put (D := (dC, dI)) (ci := 1) (v := .int (0 : Int32)) (ty := .int) (C := RX1) (T := TX1) (N := 3) hx hb hts inX1 tyX1 tyX1_ok nmX1 hown hK hP hD hS 0 rfl rfl 2 (by decide) (hts _ (List.mem_cons_of_mem _ mw_97)) (fun _ h9 => h9) rfl (by decide +kernel) rfl rfl (Nat.le_of_ble_eq_true rfl) dX1_init_19 ?_; clear hP hD hS; clear H locs; intro H locs hP hD hS
  replace hP : va_P (dC, dI) vwCl (([(h0, .inr (1, [.ref q1, .int (0 : Int32), .int (0 : Int32)])), (q1, .inl (cy 0, 80, .inl (fun _ => 0)))] : va_W) ++ List.flatten []) H := hP
  replace hD : va_D A (([(h0, .inr (1, [.ref q1, .int (0 : Int32), .int (0 : Int32)])), (q1, .inl (cy 0, 80, .inl (fun _ => 0)))] : va_W) ++ List.flatten []) := hD
  exact W.vret hx hb hr (fun t ht hW => ⟨⟨((fun k => ([0, q1] : List Nat).getD k 0), (fun k => ([] : List (Nat → Nat → Nat)).getD k (fun _ _ => 0))), rfl, trivial, by rw [ht]; exact hP, va_K.moved hW.alike hK, hD⟩, hS.F ht⟩) hS.2.2 dX1_init_22
abbrev z_X0 (h0 : Nat) (a : Nat → Nat) (E : Nat → Nat → Nat → Nat) (cy : Nat → ClassId) : va_W := ([(h0, .inr (0, [.ref (a 1), .ref (a 2)])), ((a 1), .inl (cy 0, 2500, .inl (fun _ => 0))), ((a 2), .inl (cy 0, 16, .inl (fun _ => 0)))] : va_W) ++ List.flatten []
set_option maxHeartbeats 4000000 in
set_option maxRecDepth 100000 in
theorem c_X0_init (l : Launch) (dC : Nat → ClassId) (dI : Nat → Nat → Nat) (cy : Nat → ClassId) (h0 : Nat) (sz : Nat) : Met l yX0_init wsX0_init ({ frames := 1, cells := 2, slots := 2516, locals := 20 }) (PX dC dI cy [.ref h0] sz [(h0, .inr (0, [.null, .null]))]) (va_Qv (fun (_ : (Nat → Nat) × (Nat → Nat → Nat → Nat)) => True) (QX dC dI cy (va_A [(h0, .inr (0, [.null, .null]))] sz) (fun (u : (Nat → Nat) × (Nat → Nat → Nat → Nat)) => z_X0 h0 u.1 u.2 cy)) (va_A [(h0, .inr (0, [.null, .null]))] sz)) 2 2516 (va_A [(h0, .inr (0, [.null, .null]))] sz) := by
  refine Met.ofW (cc := cX0_init) (maxL := 1) (ret := none) (by decide) rfl ?_
  intro p e s m args below meth c s₁ B hml hv
  obtain ⟨rfl, hsz, hP, hK, hD0, hG⟩ := hv
  have hx := B.exec
  have hb := B.bytes
  have hr := B.returns
  have hts := atoms_spec (ws := wsX0_init) B.pre
  have hown : s.vm.findClass RX0 = some m.cls := findClass_of_methodNamed B.named
  have hlocks := B.notSynchronized
  have hin : meth.name = "<init>" := (name_of_methodNamed B.named B.method).1
  subst hsz
  have hD := hD0.self (sz := s.heap.size)
  generalize hAe : va_A [(h0, .inr (0, [.null, .null]))] s.heap.size = A at hD ⊢
  have hA : ∀ q : Nat, s.heap.size ≤ q → A q := fun q h => by rw [← hAe]; exact Or.inr h
  have hS : va_S A s.heap s.heap [] := va_S.rf
  have hl := lv_entry ([.ref h0]) (n := 1) (Nat.le_of_ble_eq_true rfl)
  rw [lg_entry_eq]
  generalize (lg_sl ([.ref h0]) ++ List.replicate (1 - (lg_sl ([.ref h0])).length) Slot.unset).toArray = ls at hl ⊢
  replace hl : lv_has ls 1 [(0, .ref h0)] := hl
  have inX0 : ∀ w ∈ u_ws RX0 TX0 2, w ∈ wsX0_init := fun w h => List.mem_cons_of_mem _ (inlX0 w h)
  clear hAe hD0 B
  obtain ⟨H, hH⟩ : ∃ H, H = s.heap := ⟨_, rfl⟩
  obtain ⟨locs, hlo⟩ : ∃ L : List Loc, L = [] := ⟨_, rfl⟩
  replace hP : va_P (dC, dI) vwCl (([(h0, .inr (0, [.null, .null]))] : va_W) ++ List.flatten []) H := by rw [hH]; exact hP
  replace hD : va_D A (([(h0, .inr (0, [.null, .null]))] : va_W) ++ List.flatten []) := hD
  replace hS : va_S A s.heap H locs := by rw [hH, hlo]; exact hS
  rw [show (W p l e _ s m _ below meth c s.heap [] 0 0) = W p l e _ s m _ below meth c H locs 0 0 by rw [hH, hlo]]
  clear hH hlo
  refine lv_aload_n hx hb dX0_init_0 rfl (lv_at hl 0 rfl) ?_
  refine W.objInit hx hb hown (hts _ (List.mem_cons_of_mem _ mw_64)) (hts _ (List.mem_cons_of_mem _ mw_10)) (hts _ (List.mem_cons_of_mem _ mw_11)) rfl (by rw [hml]; exact hl.1) rfl dX0_init_1 (Nat.le_of_ble_eq_true rfl) (Nat.le_of_ble_eq_true rfl) ?_
  refine W.eq (g2 := F0 m 4 ls []) rfl ?_
  refine lv_aload_n hx hb dX0_init_4 rfl (lv_at hl 0 rfl) ?_
  refine lv_sipush (v := 2500) hx hb dX0_init_5 (by decide) ?_
  refine va_newa (atype := .int) (a0 := (2500, .inl (fun _ => 0))) (N' := 2500) hx hb (hts _ (List.mem_cons_of_mem _ mw_30)) rfl hK hP hD hS hA (fun _ => rfl) (by decide) (by decide) (Nat.le_of_ble_eq_true rfl) (Nat.le_of_ble_eq_true rfl) (Nat.le_of_ble_eq_true rfl) dX0_init_8 ?_; clear hP hD hS; clear H; intro q1 cA H hK2 hP hD hS
  obtain rfl := cA_eq hK2 0 rfl
  clear hK2
  replace hP := pushS (S := ([(h0, .inr (0, [.null, .null]))] : va_W)) (bs := []) (c := (q1, .inl (cy 0, 2500, .inl (fun _ => 0)))) hP hD; clear hD; obtain ⟨hP, hD⟩ := hP
  replace hP : va_P (dC, dI) vwCl (([(h0, .inr (0, [.null, .null])), (q1, .inl (cy 0, 2500, .inl (fun _ => 0)))] : va_W) ++ List.flatten []) H := hP
  replace hD : va_D A (([(h0, .inr (0, [.null, .null])), (q1, .inl (cy 0, 2500, .inl (fun _ => 0)))] : va_W) ++ List.flatten []) := hD
  refine W.widen (k := 1) (n := 2500) (Nat.le_of_ble_eq_true rfl) (Nat.le_of_ble_eq_true rfl) ?_
  refine va_putF (D := (dC, dI)) (ci := 0) (v := .ref q1) (ty := .array .int) (C := RX0) (T := TX0) (N := 2) hx hb hts inX0 tyX0 tyX0_ok nmX0 hown hK hP hD hS 0 rfl rfl 0 (by decide) (hts _ (List.mem_cons_of_mem _ mw_65)) (fun _ h9 => h9) rfl hin rfl (by decide +kernel) rfl rfl (Nat.le_of_ble_eq_true rfl) dX0_init_10 ?_; clear hP hD hS; clear H locs; intro H locs hP hD hS
  replace hP : va_P (dC, dI) vwCl (([(h0, .inr (0, [.ref q1, .null])), (q1, .inl (cy 0, 2500, .inl (fun _ => 0)))] : va_W) ++ List.flatten []) H := hP
  replace hD : va_D A (([(h0, .inr (0, [.ref q1, .null])), (q1, .inl (cy 0, 2500, .inl (fun _ => 0)))] : va_W) ++ List.flatten []) := hD
  refine lv_aload_n hx hb dX0_init_13 rfl (lv_at hl 0 rfl) ?_
  refine lv_bipush (v := 16) hx hb dX0_init_14 (by decide) ?_
  refine va_newa (atype := .int) (a0 := (16, .inl (fun _ => 0))) (N' := 16) hx hb (hts _ (List.mem_cons_of_mem _ mw_30)) rfl hK hP hD hS hA (fun _ => rfl) (by decide) (by decide) (Nat.le_of_ble_eq_true rfl) (Nat.le_of_ble_eq_true rfl) (Nat.le_of_ble_eq_true rfl) dX0_init_16 ?_; clear hP hD hS; clear H; intro q2 cA H hK2 hP hD hS
  obtain rfl := cA_eq hK2 0 rfl
  clear hK2
  replace hP := pushS (S := ([(h0, .inr (0, [.ref q1, .null])), (q1, .inl (cy 0, 2500, .inl (fun _ => 0)))] : va_W)) (bs := []) (c := (q2, .inl (cy 0, 16, .inl (fun _ => 0)))) hP hD; clear hD; obtain ⟨hP, hD⟩ := hP
  replace hP : va_P (dC, dI) vwCl (([(h0, .inr (0, [.ref q1, .null])), (q1, .inl (cy 0, 2500, .inl (fun _ => 0))), (q2, .inl (cy 0, 16, .inl (fun _ => 0)))] : va_W) ++ List.flatten []) H := hP
  replace hD : va_D A (([(h0, .inr (0, [.ref q1, .null])), (q1, .inl (cy 0, 2500, .inl (fun _ => 0))), (q2, .inl (cy 0, 16, .inl (fun _ => 0)))] : va_W) ++ List.flatten []) := hD
  refine W.widen (k := 2) (n := 2516) (Nat.le_of_ble_eq_true rfl) (Nat.le_of_ble_eq_true rfl) ?_
  refine va_putF (D := (dC, dI)) (ci := 0) (v := .ref q2) (ty := .array .int) (C := RX0) (T := TX0) (N := 2) hx hb hts inX0 tyX0 tyX0_ok nmX0 hown hK hP hD hS 0 rfl rfl 1 (by decide) (hts _ (List.mem_cons_of_mem _ mw_66)) (fun _ h9 => h9) rfl hin rfl (by decide +kernel) rfl rfl (Nat.le_of_ble_eq_true rfl) dX0_init_18 ?_; clear hP hD hS; clear H locs; intro H locs hP hD hS
  replace hP : va_P (dC, dI) vwCl (([(h0, .inr (0, [.ref q1, .ref q2])), (q1, .inl (cy 0, 2500, .inl (fun _ => 0))), (q2, .inl (cy 0, 16, .inl (fun _ => 0)))] : va_W) ++ List.flatten []) H := hP
  replace hD : va_D A (([(h0, .inr (0, [.ref q1, .ref q2])), (q1, .inl (cy 0, 2500, .inl (fun _ => 0))), (q2, .inl (cy 0, 16, .inl (fun _ => 0)))] : va_W) ++ List.flatten []) := hD
  exact W.vret hx hb hr (fun t ht hW => ⟨⟨((fun k => ([0, q1, q2] : List Nat).getD k 0), (fun k => ([] : List (Nat → Nat → Nat)).getD k (fun _ _ => 0))), rfl, trivial, by rw [ht]; exact hP, va_K.moved hW.alike hK, hD⟩, hS.F ht⟩) hS.2.2 dX0_init_21
abbrev z_X5 (h0 : Nat) (a : Nat → Nat) (E : Nat → Nat → Nat → Nat) (cy : Nat → ClassId) : va_W := ([(h0, .inr (5, [.int (0 : Int32), .int (0 : Int32), .int (0 : Int32), .int (1 : Int32), .ref (a 1), .ref (a 3)])), ((a 1), .inr (1, [.ref (a 2), .int (0 : Int32), .int (0 : Int32)])), ((a 2), .inl (cy 0, 80, .inl (fun _ => 0))), ((a 3), .inr (1, [.ref (a 4), .int (0 : Int32), .int (0 : Int32)])), ((a 4), .inl (cy 0, 80, .inl (fun _ => 0)))] : va_W) ++ List.flatten []
set_option maxHeartbeats 4000000 in
set_option maxRecDepth 100000 in
theorem c_X5_init (l : Launch) (dC : Nat → ClassId) (dI : Nat → Nat → Nat) (cy : Nat → ClassId) (h0 : Nat) (sz : Nat) : Met l yX5_init wsX5_init ({ frames := 2, cells := 4, slots := 166, locals := 40 }) (PX dC dI cy [.ref h0] sz [(h0, .inr (5, [.int 0, .int 0, .int 0, .int 0, .null, .null]))]) (va_Qv (fun (_ : (Nat → Nat) × (Nat → Nat → Nat → Nat)) => True) (QX dC dI cy (va_A [(h0, .inr (5, [.int 0, .int 0, .int 0, .int 0, .null, .null]))] sz) (fun (u : (Nat → Nat) × (Nat → Nat → Nat → Nat)) => z_X5 h0 u.1 u.2 cy)) (va_A [(h0, .inr (5, [.int 0, .int 0, .int 0, .int 0, .null, .null]))] sz)) 4 166 (va_A [(h0, .inr (5, [.int 0, .int 0, .int 0, .int 0, .null, .null]))] sz) := by
  refine Met.ofW (cc := cX5_init) (maxL := 1) (ret := none) (by decide) rfl ?_
  intro p e s m args below meth c s₁ B hml hv
  obtain ⟨rfl, hsz, hP, hK, hD0, hG⟩ := hv
  have hx := B.exec
  have hb := B.bytes
  have hr := B.returns
  have hts := atoms_spec (ws := wsX5_init) B.pre
  have hown : s.vm.findClass RX5 = some m.cls := findClass_of_methodNamed B.named
  have hlocks := B.notSynchronized
  have hin : meth.name = "<init>" := (name_of_methodNamed B.named B.method).1
  subst hsz
  have hD := hD0.self (sz := s.heap.size)
  generalize hAe : va_A [(h0, .inr (5, [.int 0, .int 0, .int 0, .int 0, .null, .null]))] s.heap.size = A at hD ⊢
  have hA : ∀ q : Nat, s.heap.size ≤ q → A q := fun q h => by rw [← hAe]; exact Or.inr h
  have hS : va_S A s.heap s.heap [] := va_S.rf
  have hl := lv_entry ([.ref h0]) (n := 1) (Nat.le_of_ble_eq_true rfl)
  rw [lg_entry_eq]
  generalize (lg_sl ([.ref h0]) ++ List.replicate (1 - (lg_sl ([.ref h0])).length) Slot.unset).toArray = ls at hl ⊢
  replace hl : lv_has ls 1 [(0, .ref h0)] := hl
  have inX1 : ∀ w ∈ u_ws RX1 TX1 3, w ∈ wsX5_init := fun w h => List.mem_cons_of_mem _ (inlX1 w h)
  have inX5 : ∀ w ∈ u_ws RX5 TX5 6, w ∈ wsX5_init := fun w h => List.mem_cons_of_mem _ (inlX5 w h)
  clear hAe hD0 B
  obtain ⟨H, hH⟩ : ∃ H, H = s.heap := ⟨_, rfl⟩
  obtain ⟨locs, hlo⟩ : ∃ L : List Loc, L = [] := ⟨_, rfl⟩
  replace hP : va_P (dC, dI) vwCl (([(h0, .inr (5, [.int 0, .int 0, .int 0, .int 0, .null, .null]))] : va_W) ++ List.flatten []) H := by rw [hH]; exact hP
  replace hD : va_D A (([(h0, .inr (5, [.int 0, .int 0, .int 0, .int 0, .null, .null]))] : va_W) ++ List.flatten []) := hD
  replace hS : va_S A s.heap H locs := by rw [hH, hlo]; exact hS
  rw [show (W p l e _ s m _ below meth c s.heap [] 0 0) = W p l e _ s m _ below meth c H locs 0 0 by rw [hH, hlo]]
  clear hH hlo
  refine lv_aload_n hx hb dX5_init_0 rfl (lv_at hl 0 rfl) ?_
  refine W.objInit hx hb hown (hts _ (List.mem_cons_of_mem _ mw_84)) (hts _ (List.mem_cons_of_mem _ mw_10)) (hts _ (List.mem_cons_of_mem _ mw_11)) rfl (by rw [hml]; exact hl.1) rfl dX5_init_1 (Nat.le_of_ble_eq_true rfl) (Nat.le_of_ble_eq_true rfl) ?_
  refine W.eq (g2 := F0 m 4 ls []) rfl ?_
  refine lv_aload_n hx hb dX5_init_4 rfl (lv_at hl 0 rfl) ?_
  refine lv_iconst (v := 0) hx hb dX5_init_5 (by decide) ?_
  refine va_put (D := (dC, dI)) (ci := 5) (v := .int (0 : Int32)) (ty := .int) (C := RX5) (T := TX5) (N := 6) hx hb hts inX5 tyX5 tyX5_ok nmX5 hown hK hP hD hS 0 rfl rfl 0 (by decide) (hts _ (List.mem_cons_of_mem _ mw_85)) (fun _ h9 => h9) rfl (by decide +kernel) rfl rfl (Nat.le_of_ble_eq_true rfl) dX5_init_6 ?_; clear hP hD hS; clear H locs; intro H locs hP hD hS
  replace hP : va_P (dC, dI) vwCl (([(h0, .inr (5, [.int (0 : Int32), .int 0, .int 0, .int 0, .null, .null]))] : va_W) ++ List.flatten []) H := hP
  replace hD : va_D A (([(h0, .inr (5, [.int (0 : Int32), .int 0, .int 0, .int 0, .null, .null]))] : va_W) ++ List.flatten []) := hD
  refine lv_aload_n hx hb dX5_init_9 rfl (lv_at hl 0 rfl) ?_
  refine lv_iconst (v := 0) hx hb dX5_init_10 (by decide) ?_
  refine va_put (D := (dC, dI)) (ci := 5) (v := .int (0 : Int32)) (ty := .int) (C := RX5) (T := TX5) (N := 6) hx hb hts inX5 tyX5 tyX5_ok nmX5 hown hK hP hD hS 0 rfl rfl 1 (by decide) (hts _ (List.mem_cons_of_mem _ mw_86)) (fun _ h9 => h9) rfl (by decide +kernel) rfl rfl (Nat.le_of_ble_eq_true rfl) dX5_init_11 ?_; clear hP hD hS; clear H locs; intro H locs hP hD hS
  replace hP : va_P (dC, dI) vwCl (([(h0, .inr (5, [.int (0 : Int32), .int (0 : Int32), .int 0, .int 0, .null, .null]))] : va_W) ++ List.flatten []) H := hP
  replace hD : va_D A (([(h0, .inr (5, [.int (0 : Int32), .int (0 : Int32), .int 0, .int 0, .null, .null]))] : va_W) ++ List.flatten []) := hD
  refine lv_aload_n hx hb dX5_init_14 rfl (lv_at hl 0 rfl) ?_
  refine lv_iconst (v := 0) hx hb dX5_init_15 (by decide) ?_
  refine va_put (D := (dC, dI)) (ci := 5) (v := .int (0 : Int32)) (ty := .int) (C := RX5) (T := TX5) (N := 6) hx hb hts inX5 tyX5 tyX5_ok nmX5 hown hK hP hD hS 0 rfl rfl 2 (by decide) (hts _ (List.mem_cons_of_mem _ mw_87)) (fun _ h9 => h9) rfl (by decide +kernel) rfl rfl (Nat.le_of_ble_eq_true rfl) dX5_init_16 ?_; clear hP hD hS; clear H locs; intro H locs hP hD hS
  replace hP : va_P (dC, dI) vwCl (([(h0, .inr (5, [.int (0 : Int32), .int (0 : Int32), .int (0 : Int32), .int 0, .null, .null]))] : va_W) ++ List.flatten []) H := hP
  replace hD : va_D A (([(h0, .inr (5, [.int (0 : Int32), .int (0 : Int32), .int (0 : Int32), .int 0, .null, .null]))] : va_W) ++ List.flatten []) := hD
  refine lv_aload_n hx hb dX5_init_19 rfl (lv_at hl 0 rfl) ?_
  refine lv_iconst (v := 1) hx hb dX5_init_20 (by decide) ?_
  refine va_put (D := (dC, dI)) (ci := 5) (v := .int (1 : Int32)) (ty := .int) (C := RX5) (T := TX5) (N := 6) hx hb hts inX5 tyX5 tyX5_ok nmX5 hown hK hP hD hS 0 rfl rfl 3 (by decide) (hts _ (List.mem_cons_of_mem _ mw_88)) (fun _ h9 => h9) rfl (by decide +kernel) rfl rfl (Nat.le_of_ble_eq_true rfl) dX5_init_21 ?_; clear hP hD hS; clear H locs; intro H locs hP hD hS
  replace hP : va_P (dC, dI) vwCl (([(h0, .inr (5, [.int (0 : Int32), .int (0 : Int32), .int (0 : Int32), .int (1 : Int32), .null, .null]))] : va_W) ++ List.flatten []) H := hP
  replace hD : va_D A (([(h0, .inr (5, [.int (0 : Int32), .int (0 : Int32), .int (0 : Int32), .int (1 : Int32), .null, .null]))] : va_W) ++ List.flatten []) := hD
  refine lv_aload_n hx hb dX5_init_24 rfl (lv_at hl 0 rfl) ?_
  refine va_new (ci := 1) (fs := [.null, .int 0, .int 0]) (C := RX1) (T := TX1) (N := 3) hx hb hts inX1 tyX1 tyX1_ok hown (hts _ (List.mem_cons_of_mem _ mw_89)) (hts _ (List.mem_cons_of_mem _ mw_23)) (hts _ (List.mem_cons_of_mem _ mw_24)) hK hP hD hS hA rfl (by decide +kernel) (Nat.le_of_ble_eq_true rfl) (Nat.le_of_ble_eq_true rfl) dX5_init_25 ?_; clear hP hD hS; clear H; intro q1 H hP hD hS
  replace hP := pushS (S := ([(h0, .inr (5, [.int (0 : Int32), .int (0 : Int32), .int (0 : Int32), .int (1 : Int32), .null, .null]))] : va_W)) (bs := []) (c := (q1, .inr (1, [.null, .int 0, .int 0]))) hP hD; clear hD; obtain ⟨hP, hD⟩ := hP
  replace hP : va_P (dC, dI) vwCl (([(h0, .inr (5, [.int (0 : Int32), .int (0 : Int32), .int (0 : Int32), .int (1 : Int32), .null, .null])), (q1, .inr (1, [.null, .int 0, .int 0]))] : va_W) ++ List.flatten []) H := hP
  replace hD : va_D A (([(h0, .inr (5, [.int (0 : Int32), .int (0 : Int32), .int (0 : Int32), .int (1 : Int32), .null, .null])), (q1, .inr (1, [.null, .int 0, .int 0]))] : va_W) ++ List.flatten []) := hD
  refine W.widen (k := 1) (n := 3) (Nat.le_of_ble_eq_true rfl) (Nat.le_of_ble_eq_true rfl) ?_
  refine lv_dup hx hb dX5_init_28 rfl ?_
  have hPc := lastP (S0 := ([(h0, .inr (5, [.int (0 : Int32), .int (0 : Int32), .int (0 : Int32), .int (1 : Int32), .null, .null]))] : va_W)) (bs := []) (c := (q1, .inr (1, [.null, .int 0, .int 0]))) hP
  have hDc := lastD (S0 := ([(h0, .inr (5, [.int (0 : Int32), .int (0 : Int32), .int (0 : Int32), .int (1 : Int32), .null, .null]))] : va_W)) (bs := []) (c := (q1, .inr (1, [.null, .int 0, .int 0]))) hD
  have hFc := lastF (S0 := ([(h0, .inr (5, [.int (0 : Int32), .int (0 : Int32), .int (0 : Int32), .int (1 : Int32), .null, .null]))] : va_W)) (bs := []) (c := (q1, .inr (1, [.null, .int 0, .int 0]))) hD hS hA
  refine va_callv (va_runIN (As := []) (rest := [.ref q1, .ref h0]) ⟨hx, hb, hml, hown, hts⟩ (c_X1_init l dC dI cy q1 H.size ) ⟨va_cnB 0 hts (goodG mw_93) rfl rfl rfl (hG.1 ("HeadsetBands$Packet", 24, ⟨"HeadsetBands$Code", "<init>", "()V"⟩, "HeadsetBands") (by decide +kernel)) (hts _ (List.mem_cons_of_mem _ mw_24)) (by decide +kernel) ⟨Nat.le_of_ble_eq_true rfl, Nat.le_of_ble_eq_true rfl⟩, rfl, (hts _ (List.mem_cons_of_mem _ mw_92))⟩ ⟨PX_blind, PX_pre hPc hK hDc hG⟩ rfl rfl hl.1 rfl (lv_room (Nat.le_of_ble_eq_true rfl)) dX5_init_29 ⟨Nat.le_of_ble_eq_true rfl, Nat.le_of_ble_eq_true rfl⟩) hS (fun q _ h => hFc q h) hFc ?_; clear hS; intro u2 t H1 locs1 ht hvm hw hB hz1 hk1 hS
  obtain ⟨hP1, -, hD1⟩ := hB
  rw [ht] at hP1
  replace hP := jN (S0 := ([(h0, .inr (5, [.int (0 : Int32), .int (0 : Int32), .int (0 : Int32), .int (1 : Int32), .null, .null]))] : va_W)) (bs := []) (N := ([(q1, .inr (1, [.ref (u2.1 1), .int (0 : Int32), .int (0 : Int32)])), ((u2.1 1), .inl (cy 0, 80, .inl (fun _ => 0)))] : va_W)) (nb := []) (c := (q1, .inr (1, [.null, .int 0, .int 0]))) hP hD hk1 hFc hP1 hD1; clear hD; obtain ⟨hP, hD⟩ := hP
  replace hP : va_P (dC, dI) vwCl (([(h0, .inr (5, [.int (0 : Int32), .int (0 : Int32), .int (0 : Int32), .int (1 : Int32), .null, .null])), (q1, .inr (1, [.ref (u2.1 1), .int (0 : Int32), .int (0 : Int32)])), ((u2.1 1), .inl (cy 0, 80, .inl (fun _ => 0)))] : va_W) ++ List.flatten []) H1 := hP
  replace hD : va_D A (([(h0, .inr (5, [.int (0 : Int32), .int (0 : Int32), .int (0 : Int32), .int (1 : Int32), .null, .null])), (q1, .inr (1, [.ref (u2.1 1), .int (0 : Int32), .int (0 : Int32)])), ((u2.1 1), .inl (cy 0, 80, .inl (fun _ => 0)))] : va_W) ++ List.flatten []) := hD
  clear hPc hDc hFc hP1 hD1 hk1 hz1 hvm ht hw; clear t; clear H locs; obtain ⟨H, hH⟩ : ∃ H, H = H1 := ⟨_, rfl⟩; obtain ⟨locs, hlo⟩ : ∃ L, L = locs1 := ⟨_, rfl⟩; subst hH; subst hlo
  refine W.widen (k := 2) (n := 83) (Nat.le_of_ble_eq_true rfl) (Nat.le_of_ble_eq_true rfl) ?_
  refine va_putF (D := (dC, dI)) (ci := 5) (v := .ref q1) (ty := .object "HeadsetBands$Code") (C := RX5) (T := TX5) (N := 6) hx hb hts inX5 tyX5 tyX5_ok nmX5 hown hK hP hD hS 0 rfl rfl 4 (by decide) (hts _ (List.mem_cons_of_mem _ mw_90)) (fun _ h9 => h9) rfl hin rfl (by decide +kernel) rfl rfl (Nat.le_of_ble_eq_true rfl) dX5_init_32 ?_; clear hP hD hS; clear H locs; intro H locs hP hD hS
  replace hP : va_P (dC, dI) vwCl (([(h0, .inr (5, [.int (0 : Int32), .int (0 : Int32), .int (0 : Int32), .int (1 : Int32), .ref q1, .null])), (q1, .inr (1, [.ref (u2.1 1), .int (0 : Int32), .int (0 : Int32)])), ((u2.1 1), .inl (cy 0, 80, .inl (fun _ => 0)))] : va_W) ++ List.flatten []) H := hP
  replace hD : va_D A (([(h0, .inr (5, [.int (0 : Int32), .int (0 : Int32), .int (0 : Int32), .int (1 : Int32), .ref q1, .null])), (q1, .inr (1, [.ref (u2.1 1), .int (0 : Int32), .int (0 : Int32)])), ((u2.1 1), .inl (cy 0, 80, .inl (fun _ => 0)))] : va_W) ++ List.flatten []) := hD
  refine lv_aload_n hx hb dX5_init_35 rfl (lv_at hl 0 rfl) ?_
  refine va_new (ci := 1) (fs := [.null, .int 0, .int 0]) (C := RX1) (T := TX1) (N := 3) hx hb hts inX1 tyX1 tyX1_ok hown (hts _ (List.mem_cons_of_mem _ mw_89)) (hts _ (List.mem_cons_of_mem _ mw_23)) (hts _ (List.mem_cons_of_mem _ mw_24)) hK hP hD hS hA rfl (by decide +kernel) (Nat.le_of_ble_eq_true rfl) (Nat.le_of_ble_eq_true rfl) dX5_init_36 ?_; clear hP hD hS; clear H; intro q3 H hP hD hS
  replace hP := pushS (S := ([(h0, .inr (5, [.int (0 : Int32), .int (0 : Int32), .int (0 : Int32), .int (1 : Int32), .ref q1, .null])), (q1, .inr (1, [.ref (u2.1 1), .int (0 : Int32), .int (0 : Int32)])), ((u2.1 1), .inl (cy 0, 80, .inl (fun _ => 0)))] : va_W)) (bs := []) (c := (q3, .inr (1, [.null, .int 0, .int 0]))) hP hD; clear hD; obtain ⟨hP, hD⟩ := hP
  replace hP : va_P (dC, dI) vwCl (([(h0, .inr (5, [.int (0 : Int32), .int (0 : Int32), .int (0 : Int32), .int (1 : Int32), .ref q1, .null])), (q1, .inr (1, [.ref (u2.1 1), .int (0 : Int32), .int (0 : Int32)])), ((u2.1 1), .inl (cy 0, 80, .inl (fun _ => 0))), (q3, .inr (1, [.null, .int 0, .int 0]))] : va_W) ++ List.flatten []) H := hP
  replace hD : va_D A (([(h0, .inr (5, [.int (0 : Int32), .int (0 : Int32), .int (0 : Int32), .int (1 : Int32), .ref q1, .null])), (q1, .inr (1, [.ref (u2.1 1), .int (0 : Int32), .int (0 : Int32)])), ((u2.1 1), .inl (cy 0, 80, .inl (fun _ => 0))), (q3, .inr (1, [.null, .int 0, .int 0]))] : va_W) ++ List.flatten []) := hD
  refine W.widen (k := 3) (n := 86) (Nat.le_of_ble_eq_true rfl) (Nat.le_of_ble_eq_true rfl) ?_
  refine lv_dup hx hb dX5_init_39 rfl ?_
  have hPc := lastP (S0 := ([(h0, .inr (5, [.int (0 : Int32), .int (0 : Int32), .int (0 : Int32), .int (1 : Int32), .ref q1, .null])), (q1, .inr (1, [.ref (u2.1 1), .int (0 : Int32), .int (0 : Int32)])), ((u2.1 1), .inl (cy 0, 80, .inl (fun _ => 0)))] : va_W)) (bs := []) (c := (q3, .inr (1, [.null, .int 0, .int 0]))) hP
  have hDc := lastD (S0 := ([(h0, .inr (5, [.int (0 : Int32), .int (0 : Int32), .int (0 : Int32), .int (1 : Int32), .ref q1, .null])), (q1, .inr (1, [.ref (u2.1 1), .int (0 : Int32), .int (0 : Int32)])), ((u2.1 1), .inl (cy 0, 80, .inl (fun _ => 0)))] : va_W)) (bs := []) (c := (q3, .inr (1, [.null, .int 0, .int 0]))) hD
  have hFc := lastF (S0 := ([(h0, .inr (5, [.int (0 : Int32), .int (0 : Int32), .int (0 : Int32), .int (1 : Int32), .ref q1, .null])), (q1, .inr (1, [.ref (u2.1 1), .int (0 : Int32), .int (0 : Int32)])), ((u2.1 1), .inl (cy 0, 80, .inl (fun _ => 0)))] : va_W)) (bs := []) (c := (q3, .inr (1, [.null, .int 0, .int 0]))) hD hS hA
  refine va_callv (va_runIN (As := []) (rest := [.ref q3, .ref h0]) ⟨hx, hb, hml, hown, hts⟩ (c_X1_init l dC dI cy q3 H.size ) ⟨va_cnB 0 hts (goodG mw_93) rfl rfl rfl (hG.1 ("HeadsetBands$Packet", 24, ⟨"HeadsetBands$Code", "<init>", "()V"⟩, "HeadsetBands") (by decide +kernel)) (hts _ (List.mem_cons_of_mem _ mw_24)) (by decide +kernel) ⟨Nat.le_of_ble_eq_true rfl, Nat.le_of_ble_eq_true rfl⟩, rfl, (hts _ (List.mem_cons_of_mem _ mw_92))⟩ ⟨PX_blind, PX_pre hPc hK hDc hG⟩ rfl rfl hl.1 rfl (lv_room (Nat.le_of_ble_eq_true rfl)) dX5_init_40 ⟨Nat.le_of_ble_eq_true rfl, Nat.le_of_ble_eq_true rfl⟩) hS (fun q _ h => hFc q h) hFc ?_; clear hS; intro u4 t H1 locs1 ht hvm hw hB hz1 hk1 hS
  obtain ⟨hP1, -, hD1⟩ := hB
  rw [ht] at hP1
  replace hP := jN (S0 := ([(h0, .inr (5, [.int (0 : Int32), .int (0 : Int32), .int (0 : Int32), .int (1 : Int32), .ref q1, .null])), (q1, .inr (1, [.ref (u2.1 1), .int (0 : Int32), .int (0 : Int32)])), ((u2.1 1), .inl (cy 0, 80, .inl (fun _ => 0)))] : va_W)) (bs := []) (N := ([(q3, .inr (1, [.ref (u4.1 1), .int (0 : Int32), .int (0 : Int32)])), ((u4.1 1), .inl (cy 0, 80, .inl (fun _ => 0)))] : va_W)) (nb := []) (c := (q3, .inr (1, [.null, .int 0, .int 0]))) hP hD hk1 hFc hP1 hD1; clear hD; obtain ⟨hP, hD⟩ := hP
  replace hP : va_P (dC, dI) vwCl (([(h0, .inr (5, [.int (0 : Int32), .int (0 : Int32), .int (0 : Int32), .int (1 : Int32), .ref q1, .null])), (q1, .inr (1, [.ref (u2.1 1), .int (0 : Int32), .int (0 : Int32)])), ((u2.1 1), .inl (cy 0, 80, .inl (fun _ => 0))), (q3, .inr (1, [.ref (u4.1 1), .int (0 : Int32), .int (0 : Int32)])), ((u4.1 1), .inl (cy 0, 80, .inl (fun _ => 0)))] : va_W) ++ List.flatten []) H1 := hP
  replace hD : va_D A (([(h0, .inr (5, [.int (0 : Int32), .int (0 : Int32), .int (0 : Int32), .int (1 : Int32), .ref q1, .null])), (q1, .inr (1, [.ref (u2.1 1), .int (0 : Int32), .int (0 : Int32)])), ((u2.1 1), .inl (cy 0, 80, .inl (fun _ => 0))), (q3, .inr (1, [.ref (u4.1 1), .int (0 : Int32), .int (0 : Int32)])), ((u4.1 1), .inl (cy 0, 80, .inl (fun _ => 0)))] : va_W) ++ List.flatten []) := hD
  clear hPc hDc hFc hP1 hD1 hk1 hz1 hvm ht hw; clear t; clear H locs; obtain ⟨H, hH⟩ : ∃ H, H = H1 := ⟨_, rfl⟩; obtain ⟨locs, hlo⟩ : ∃ L, L = locs1 := ⟨_, rfl⟩; subst hH; subst hlo
  refine W.widen (k := 4) (n := 166) (Nat.le_of_ble_eq_true rfl) (Nat.le_of_ble_eq_true rfl) ?_
  refine va_putF (D := (dC, dI)) (ci := 5) (v := .ref q3) (ty := .object "HeadsetBands$Code") (C := RX5) (T := TX5) (N := 6) hx hb hts inX5 tyX5 tyX5_ok nmX5 hown hK hP hD hS 0 rfl rfl 5 (by decide) (hts _ (List.mem_cons_of_mem _ mw_91)) (fun _ h9 => h9) rfl hin rfl (by decide +kernel) rfl rfl (Nat.le_of_ble_eq_true rfl) dX5_init_43 ?_; clear hP hD hS; clear H locs; intro H locs hP hD hS
  replace hP : va_P (dC, dI) vwCl (([(h0, .inr (5, [.int (0 : Int32), .int (0 : Int32), .int (0 : Int32), .int (1 : Int32), .ref q1, .ref q3])), (q1, .inr (1, [.ref (u2.1 1), .int (0 : Int32), .int (0 : Int32)])), ((u2.1 1), .inl (cy 0, 80, .inl (fun _ => 0))), (q3, .inr (1, [.ref (u4.1 1), .int (0 : Int32), .int (0 : Int32)])), ((u4.1 1), .inl (cy 0, 80, .inl (fun _ => 0)))] : va_W) ++ List.flatten []) H := hP
  replace hD : va_D A (([(h0, .inr (5, [.int (0 : Int32), .int (0 : Int32), .int (0 : Int32), .int (1 : Int32), .ref q1, .ref q3])), (q1, .inr (1, [.ref (u2.1 1), .int (0 : Int32), .int (0 : Int32)])), ((u2.1 1), .inl (cy 0, 80, .inl (fun _ => 0))), (q3, .inr (1, [.ref (u4.1 1), .int (0 : Int32), .int (0 : Int32)])), ((u4.1 1), .inl (cy 0, 80, .inl (fun _ => 0)))] : va_W) ++ List.flatten []) := hD
  exact W.vret hx hb hr (fun t ht hW => ⟨⟨((fun k => ([0, q1, (u2.1 1), q3, (u4.1 1)] : List Nat).getD k 0), (fun k => ([] : List (Nat → Nat → Nat)).getD k (fun _ _ => 0))), rfl, trivial, by rw [ht]; exact hP, va_K.moved hW.alike hK, hD⟩, hS.F ht⟩) hS.2.2 dX5_init_46
abbrev z_X3 (h0 : Nat) (a : Nat → Nat) (E : Nat → Nat → Nat → Nat) (cy : Nat → ClassId) : va_W := ([(h0, .inr (3, [.ref (a 1), .ref (a 6), .ref (a 7), .ref (a 8), .int (16 : Int32), .int (0 : Int32)])), ((a 1), .inr (9, [.ref (a 2), .ref (a 3), .ref (a 4), .ref (a 5)])), ((a 2), .inl (cy 0, 7, .inl (fun _ => 0))), ((a 3), .inl (cy 0, 7, .inl (fun _ => 0))), ((a 4), .inl (cy 0, 8, .inl (fun _ => 0))), ((a 5), .inl (cy 0, 8, .inl (fun _ => 0))), ((a 6), .inl (cy 0, 224, .inl (fun _ => 0))), ((a 7), .inl (cy 0, 32, .inl (fun _ => 0))), ((a 8), .inl (cy 0, 32, .inl (fun _ => 0)))] : va_W) ++ List.flatten []
set_option maxHeartbeats 4000000 in
set_option maxRecDepth 100000 in
theorem c_X3_init (l : Launch) (dC : Nat → ClassId) (dI : Nat → Nat → Nat) (cy : Nat → ClassId) (h0 : Nat) (sz : Nat) : Met l yX3_init wsX3_init ({ frames := 2, cells := 8, slots := 322, locals := 40 }) (PX dC dI cy [.ref h0] sz [(h0, .inr (3, [.null, .null, .null, .null, .int 0, .int 0]))]) (va_Qv (fun (_ : (Nat → Nat) × (Nat → Nat → Nat → Nat)) => True) (QX dC dI cy (va_A [(h0, .inr (3, [.null, .null, .null, .null, .int 0, .int 0]))] sz) (fun (u : (Nat → Nat) × (Nat → Nat → Nat → Nat)) => z_X3 h0 u.1 u.2 cy)) (va_A [(h0, .inr (3, [.null, .null, .null, .null, .int 0, .int 0]))] sz)) 8 322 (va_A [(h0, .inr (3, [.null, .null, .null, .null, .int 0, .int 0]))] sz) := by
  refine Met.ofW (cc := cX3_init) (maxL := 1) (ret := none) (by decide) rfl ?_
  intro p e s m args below meth c s₁ B hml hv
  obtain ⟨rfl, hsz, hP, hK, hD0, hG⟩ := hv
  have hx := B.exec
  have hb := B.bytes
  have hr := B.returns
  have hts := atoms_spec (ws := wsX3_init) B.pre
  have hown : s.vm.findClass RX3 = some m.cls := findClass_of_methodNamed B.named
  have hlocks := B.notSynchronized
  have hin : meth.name = "<init>" := (name_of_methodNamed B.named B.method).1
  subst hsz
  have hD := hD0.self (sz := s.heap.size)
  generalize hAe : va_A [(h0, .inr (3, [.null, .null, .null, .null, .int 0, .int 0]))] s.heap.size = A at hD ⊢
  have hA : ∀ q : Nat, s.heap.size ≤ q → A q := fun q h => by rw [← hAe]; exact Or.inr h
  have hS : va_S A s.heap s.heap [] := va_S.rf
  have hl := lv_entry ([.ref h0]) (n := 1) (Nat.le_of_ble_eq_true rfl)
  rw [lg_entry_eq]
  generalize (lg_sl ([.ref h0]) ++ List.replicate (1 - (lg_sl ([.ref h0])).length) Slot.unset).toArray = ls at hl ⊢
  replace hl : lv_has ls 1 [(0, .ref h0)] := hl
  have inX3 : ∀ w ∈ u_ws RX3 TX3 6, w ∈ wsX3_init := fun w h => List.mem_cons_of_mem _ (inlX3 w h)
  have inX9 : ∀ w ∈ u_ws RX9 TX9 4, w ∈ wsX3_init := fun w h => List.mem_cons_of_mem _ (inlX9 w h)
  clear hAe hD0 B
  obtain ⟨H, hH⟩ : ∃ H, H = s.heap := ⟨_, rfl⟩
  obtain ⟨locs, hlo⟩ : ∃ L : List Loc, L = [] := ⟨_, rfl⟩
  replace hP : va_P (dC, dI) vwCl (([(h0, .inr (3, [.null, .null, .null, .null, .int 0, .int 0]))] : va_W) ++ List.flatten []) H := by rw [hH]; exact hP
  replace hD : va_D A (([(h0, .inr (3, [.null, .null, .null, .null, .int 0, .int 0]))] : va_W) ++ List.flatten []) := hD
  replace hS : va_S A s.heap H locs := by rw [hH, hlo]; exact hS
  rw [show (W p l e _ s m _ below meth c s.heap [] 0 0) = W p l e _ s m _ below meth c H locs 0 0 by rw [hH, hlo]]
  clear hH hlo
  refine lv_aload_n hx hb dX3_init_0 rfl (lv_at hl 0 rfl) ?_
  refine W.objInit hx hb hown (hts _ (List.mem_cons_of_mem _ mw_157)) (hts _ (List.mem_cons_of_mem _ mw_10)) (hts _ (List.mem_cons_of_mem _ mw_11)) rfl (by rw [hml]; exact hl.1) rfl dX3_init_1 (Nat.le_of_ble_eq_true rfl) (Nat.le_of_ble_eq_true rfl) ?_
  refine W.eq (g2 := F0 m 4 ls []) rfl ?_
  refine lv_aload_n hx hb dX3_init_4 rfl (lv_at hl 0 rfl) ?_
  refine va_new (ci := 9) (fs := [.null, .null, .null, .null]) (C := RX9) (T := TX9) (N := 4) hx hb hts inX9 tyX9 tyX9_ok hown (hts _ (List.mem_cons_of_mem _ mw_158)) (hts _ (List.mem_cons_of_mem _ mw_27)) (hts _ (List.mem_cons_of_mem _ mw_28)) hK hP hD hS hA rfl (by decide +kernel) (Nat.le_of_ble_eq_true rfl) (Nat.le_of_ble_eq_true rfl) dX3_init_5 ?_; clear hP hD hS; clear H; intro q1 H hP hD hS
  replace hP := pushS (S := ([(h0, .inr (3, [.null, .null, .null, .null, .int 0, .int 0]))] : va_W)) (bs := []) (c := (q1, .inr (9, [.null, .null, .null, .null]))) hP hD; clear hD; obtain ⟨hP, hD⟩ := hP
  replace hP : va_P (dC, dI) vwCl (([(h0, .inr (3, [.null, .null, .null, .null, .int 0, .int 0])), (q1, .inr (9, [.null, .null, .null, .null]))] : va_W) ++ List.flatten []) H := hP
  replace hD : va_D A (([(h0, .inr (3, [.null, .null, .null, .null, .int 0, .int 0])), (q1, .inr (9, [.null, .null, .null, .null]))] : va_W) ++ List.flatten []) := hD
  refine W.widen (k := 1) (n := 4) (Nat.le_of_ble_eq_true rfl) (Nat.le_of_ble_eq_true rfl) ?_
  refine lv_dup hx hb dX3_init_8 rfl ?_
  have hPc := lastP (S0 := ([(h0, .inr (3, [.null, .null, .null, .null, .int 0, .int 0]))] : va_W)) (bs := []) (c := (q1, .inr (9, [.null, .null, .null, .null]))) hP
  have hDc := lastD (S0 := ([(h0, .inr (3, [.null, .null, .null, .null, .int 0, .int 0]))] : va_W)) (bs := []) (c := (q1, .inr (9, [.null, .null, .null, .null]))) hD
  have hFc := lastF (S0 := ([(h0, .inr (3, [.null, .null, .null, .null, .int 0, .int 0]))] : va_W)) (bs := []) (c := (q1, .inr (9, [.null, .null, .null, .null]))) hD hS hA
  refine va_callv (va_runIN (As := []) (rest := [.ref q1, .ref h0]) ⟨hx, hb, hml, hown, hts⟩ (c_X9_init l dC dI cy q1 H.size ) ⟨va_cnB 0 hts (goodG mw_111) rfl rfl rfl (hG.1 ("HeadsetBands$Ear", 11, ⟨"HeadsetBands$Tree", "<init>", "()V"⟩, "HeadsetBands") (by decide +kernel)) (hts _ (List.mem_cons_of_mem _ mw_28)) (by decide +kernel) ⟨Nat.le_of_ble_eq_true rfl, Nat.le_of_ble_eq_true rfl⟩, rfl, (hts _ (List.mem_cons_of_mem _ mw_110))⟩ ⟨PX_blind, PX_pre hPc hK hDc hG⟩ rfl rfl hl.1 rfl (lv_room (Nat.le_of_ble_eq_true rfl)) dX3_init_9 ⟨Nat.le_of_ble_eq_true rfl, Nat.le_of_ble_eq_true rfl⟩) hS (fun q _ h => hFc q h) hFc ?_; clear hS; intro u2 t H1 locs1 ht hvm hw hB hz1 hk1 hS
  obtain ⟨hP1, -, hD1⟩ := hB
  rw [ht] at hP1
  replace hP := jN (S0 := ([(h0, .inr (3, [.null, .null, .null, .null, .int 0, .int 0]))] : va_W)) (bs := []) (N := ([(q1, .inr (9, [.ref (u2.1 1), .ref (u2.1 2), .ref (u2.1 3), .ref (u2.1 4)])), ((u2.1 1), .inl (cy 0, 7, .inl (fun _ => 0))), ((u2.1 2), .inl (cy 0, 7, .inl (fun _ => 0))), ((u2.1 3), .inl (cy 0, 8, .inl (fun _ => 0))), ((u2.1 4), .inl (cy 0, 8, .inl (fun _ => 0)))] : va_W)) (nb := []) (c := (q1, .inr (9, [.null, .null, .null, .null]))) hP hD hk1 hFc hP1 hD1; clear hD; obtain ⟨hP, hD⟩ := hP
  replace hP : va_P (dC, dI) vwCl (([(h0, .inr (3, [.null, .null, .null, .null, .int 0, .int 0])), (q1, .inr (9, [.ref (u2.1 1), .ref (u2.1 2), .ref (u2.1 3), .ref (u2.1 4)])), ((u2.1 1), .inl (cy 0, 7, .inl (fun _ => 0))), ((u2.1 2), .inl (cy 0, 7, .inl (fun _ => 0))), ((u2.1 3), .inl (cy 0, 8, .inl (fun _ => 0))), ((u2.1 4), .inl (cy 0, 8, .inl (fun _ => 0)))] : va_W) ++ List.flatten []) H1 := hP
  replace hD : va_D A (([(h0, .inr (3, [.null, .null, .null, .null, .int 0, .int 0])), (q1, .inr (9, [.ref (u2.1 1), .ref (u2.1 2), .ref (u2.1 3), .ref (u2.1 4)])), ((u2.1 1), .inl (cy 0, 7, .inl (fun _ => 0))), ((u2.1 2), .inl (cy 0, 7, .inl (fun _ => 0))), ((u2.1 3), .inl (cy 0, 8, .inl (fun _ => 0))), ((u2.1 4), .inl (cy 0, 8, .inl (fun _ => 0)))] : va_W) ++ List.flatten []) := hD
  clear hPc hDc hFc hP1 hD1 hk1 hz1 hvm ht hw; clear t; clear H locs; obtain ⟨H, hH⟩ : ∃ H, H = H1 := ⟨_, rfl⟩; obtain ⟨locs, hlo⟩ : ∃ L, L = locs1 := ⟨_, rfl⟩; subst hH; subst hlo
  refine W.widen (k := 5) (n := 34) (Nat.le_of_ble_eq_true rfl) (Nat.le_of_ble_eq_true rfl) ?_
  refine va_putF (D := (dC, dI)) (ci := 3) (v := .ref q1) (ty := .object "HeadsetBands$Tree") (C := RX3) (T := TX3) (N := 6) hx hb hts inX3 tyX3 tyX3_ok nmX3 hown hK hP hD hS 0 rfl rfl 0 (by decide) (hts _ (List.mem_cons_of_mem _ mw_159)) (fun _ h9 => h9) rfl hin rfl (by decide +kernel) rfl rfl (Nat.le_of_ble_eq_true rfl) dX3_init_12 ?_; clear hP hD hS; clear H locs; intro H locs hP hD hS
  replace hP : va_P (dC, dI) vwCl (([(h0, .inr (3, [.ref q1, .null, .null, .null, .int 0, .int 0])), (q1, .inr (9, [.ref (u2.1 1), .ref (u2.1 2), .ref (u2.1 3), .ref (u2.1 4)])), ((u2.1 1), .inl (cy 0, 7, .inl (fun _ => 0))), ((u2.1 2), .inl (cy 0, 7, .inl (fun _ => 0))), ((u2.1 3), .inl (cy 0, 8, .inl (fun _ => 0))), ((u2.1 4), .inl (cy 0, 8, .inl (fun _ => 0)))] : va_W) ++ List.flatten []) H := hP
  replace hD : va_D A (([(h0, .inr (3, [.ref q1, .null, .null, .null, .int 0, .int 0])), (q1, .inr (9, [.ref (u2.1 1), .ref (u2.1 2), .ref (u2.1 3), .ref (u2.1 4)])), ((u2.1 1), .inl (cy 0, 7, .inl (fun _ => 0))), ((u2.1 2), .inl (cy 0, 7, .inl (fun _ => 0))), ((u2.1 3), .inl (cy 0, 8, .inl (fun _ => 0))), ((u2.1 4), .inl (cy 0, 8, .inl (fun _ => 0)))] : va_W) ++ List.flatten []) := hD
  refine lv_aload_n hx hb dX3_init_15 rfl (lv_at hl 0 rfl) ?_
  refine lv_sipush (v := 224) hx hb dX3_init_16 (by decide) ?_
  refine va_newa (atype := .int) (a0 := (224, .inl (fun _ => 0))) (N' := 224) hx hb (hts _ (List.mem_cons_of_mem _ mw_30)) rfl hK hP hD hS hA (fun _ => rfl) (by decide) (by decide) (Nat.le_of_ble_eq_true rfl) (Nat.le_of_ble_eq_true rfl) (Nat.le_of_ble_eq_true rfl) dX3_init_19 ?_; clear hP hD hS; clear H; intro q3 cA H hK2 hP hD hS
  obtain rfl := cA_eq hK2 0 rfl
  clear hK2
  replace hP := pushS (S := ([(h0, .inr (3, [.ref q1, .null, .null, .null, .int 0, .int 0])), (q1, .inr (9, [.ref (u2.1 1), .ref (u2.1 2), .ref (u2.1 3), .ref (u2.1 4)])), ((u2.1 1), .inl (cy 0, 7, .inl (fun _ => 0))), ((u2.1 2), .inl (cy 0, 7, .inl (fun _ => 0))), ((u2.1 3), .inl (cy 0, 8, .inl (fun _ => 0))), ((u2.1 4), .inl (cy 0, 8, .inl (fun _ => 0)))] : va_W)) (bs := []) (c := (q3, .inl (cy 0, 224, .inl (fun _ => 0)))) hP hD; clear hD; obtain ⟨hP, hD⟩ := hP
  replace hP : va_P (dC, dI) vwCl (([(h0, .inr (3, [.ref q1, .null, .null, .null, .int 0, .int 0])), (q1, .inr (9, [.ref (u2.1 1), .ref (u2.1 2), .ref (u2.1 3), .ref (u2.1 4)])), ((u2.1 1), .inl (cy 0, 7, .inl (fun _ => 0))), ((u2.1 2), .inl (cy 0, 7, .inl (fun _ => 0))), ((u2.1 3), .inl (cy 0, 8, .inl (fun _ => 0))), ((u2.1 4), .inl (cy 0, 8, .inl (fun _ => 0))), (q3, .inl (cy 0, 224, .inl (fun _ => 0)))] : va_W) ++ List.flatten []) H := hP
  replace hD : va_D A (([(h0, .inr (3, [.ref q1, .null, .null, .null, .int 0, .int 0])), (q1, .inr (9, [.ref (u2.1 1), .ref (u2.1 2), .ref (u2.1 3), .ref (u2.1 4)])), ((u2.1 1), .inl (cy 0, 7, .inl (fun _ => 0))), ((u2.1 2), .inl (cy 0, 7, .inl (fun _ => 0))), ((u2.1 3), .inl (cy 0, 8, .inl (fun _ => 0))), ((u2.1 4), .inl (cy 0, 8, .inl (fun _ => 0))), (q3, .inl (cy 0, 224, .inl (fun _ => 0)))] : va_W) ++ List.flatten []) := hD
  refine W.widen (k := 6) (n := 258) (Nat.le_of_ble_eq_true rfl) (Nat.le_of_ble_eq_true rfl) ?_
  refine va_putF (D := (dC, dI)) (ci := 3) (v := .ref q3) (ty := .array .int) (C := RX3) (T := TX3) (N := 6) hx hb hts inX3 tyX3 tyX3_ok nmX3 hown hK hP hD hS 0 rfl rfl 1 (by decide) (hts _ (List.mem_cons_of_mem _ mw_160)) (fun _ h9 => h9) rfl hin rfl (by decide +kernel) rfl rfl (Nat.le_of_ble_eq_true rfl) dX3_init_21 ?_; clear hP hD hS; clear H locs; intro H locs hP hD hS
  replace hP : va_P (dC, dI) vwCl (([(h0, .inr (3, [.ref q1, .ref q3, .null, .null, .int 0, .int 0])), (q1, .inr (9, [.ref (u2.1 1), .ref (u2.1 2), .ref (u2.1 3), .ref (u2.1 4)])), ((u2.1 1), .inl (cy 0, 7, .inl (fun _ => 0))), ((u2.1 2), .inl (cy 0, 7, .inl (fun _ => 0))), ((u2.1 3), .inl (cy 0, 8, .inl (fun _ => 0))), ((u2.1 4), .inl (cy 0, 8, .inl (fun _ => 0))), (q3, .inl (cy 0, 224, .inl (fun _ => 0)))] : va_W) ++ List.flatten []) H := hP
  replace hD : va_D A (([(h0, .inr (3, [.ref q1, .ref q3, .null, .null, .int 0, .int 0])), (q1, .inr (9, [.ref (u2.1 1), .ref (u2.1 2), .ref (u2.1 3), .ref (u2.1 4)])), ((u2.1 1), .inl (cy 0, 7, .inl (fun _ => 0))), ((u2.1 2), .inl (cy 0, 7, .inl (fun _ => 0))), ((u2.1 3), .inl (cy 0, 8, .inl (fun _ => 0))), ((u2.1 4), .inl (cy 0, 8, .inl (fun _ => 0))), (q3, .inl (cy 0, 224, .inl (fun _ => 0)))] : va_W) ++ List.flatten []) := hD
  refine lv_aload_n hx hb dX3_init_24 rfl (lv_at hl 0 rfl) ?_
  refine lv_bipush (v := 32) hx hb dX3_init_25 (by decide) ?_
  refine va_newa (atype := .int) (a0 := (32, .inl (fun _ => 0))) (N' := 32) hx hb (hts _ (List.mem_cons_of_mem _ mw_30)) rfl hK hP hD hS hA (fun _ => rfl) (by decide) (by decide) (Nat.le_of_ble_eq_true rfl) (Nat.le_of_ble_eq_true rfl) (Nat.le_of_ble_eq_true rfl) dX3_init_27 ?_; clear hP hD hS; clear H; intro q4 cA H hK2 hP hD hS
  obtain rfl := cA_eq hK2 0 rfl
  clear hK2
  replace hP := pushS (S := ([(h0, .inr (3, [.ref q1, .ref q3, .null, .null, .int 0, .int 0])), (q1, .inr (9, [.ref (u2.1 1), .ref (u2.1 2), .ref (u2.1 3), .ref (u2.1 4)])), ((u2.1 1), .inl (cy 0, 7, .inl (fun _ => 0))), ((u2.1 2), .inl (cy 0, 7, .inl (fun _ => 0))), ((u2.1 3), .inl (cy 0, 8, .inl (fun _ => 0))), ((u2.1 4), .inl (cy 0, 8, .inl (fun _ => 0))), (q3, .inl (cy 0, 224, .inl (fun _ => 0)))] : va_W)) (bs := []) (c := (q4, .inl (cy 0, 32, .inl (fun _ => 0)))) hP hD; clear hD; obtain ⟨hP, hD⟩ := hP
  replace hP : va_P (dC, dI) vwCl (([(h0, .inr (3, [.ref q1, .ref q3, .null, .null, .int 0, .int 0])), (q1, .inr (9, [.ref (u2.1 1), .ref (u2.1 2), .ref (u2.1 3), .ref (u2.1 4)])), ((u2.1 1), .inl (cy 0, 7, .inl (fun _ => 0))), ((u2.1 2), .inl (cy 0, 7, .inl (fun _ => 0))), ((u2.1 3), .inl (cy 0, 8, .inl (fun _ => 0))), ((u2.1 4), .inl (cy 0, 8, .inl (fun _ => 0))), (q3, .inl (cy 0, 224, .inl (fun _ => 0))), (q4, .inl (cy 0, 32, .inl (fun _ => 0)))] : va_W) ++ List.flatten []) H := hP
  replace hD : va_D A (([(h0, .inr (3, [.ref q1, .ref q3, .null, .null, .int 0, .int 0])), (q1, .inr (9, [.ref (u2.1 1), .ref (u2.1 2), .ref (u2.1 3), .ref (u2.1 4)])), ((u2.1 1), .inl (cy 0, 7, .inl (fun _ => 0))), ((u2.1 2), .inl (cy 0, 7, .inl (fun _ => 0))), ((u2.1 3), .inl (cy 0, 8, .inl (fun _ => 0))), ((u2.1 4), .inl (cy 0, 8, .inl (fun _ => 0))), (q3, .inl (cy 0, 224, .inl (fun _ => 0))), (q4, .inl (cy 0, 32, .inl (fun _ => 0)))] : va_W) ++ List.flatten []) := hD
  refine W.widen (k := 7) (n := 290) (Nat.le_of_ble_eq_true rfl) (Nat.le_of_ble_eq_true rfl) ?_
  refine va_putF (D := (dC, dI)) (ci := 3) (v := .ref q4) (ty := .array .int) (C := RX3) (T := TX3) (N := 6) hx hb hts inX3 tyX3 tyX3_ok nmX3 hown hK hP hD hS 0 rfl rfl 2 (by decide) (hts _ (List.mem_cons_of_mem _ mw_161)) (fun _ h9 => h9) rfl hin rfl (by decide +kernel) rfl rfl (Nat.le_of_ble_eq_true rfl) dX3_init_29 ?_; clear hP hD hS; clear H locs; intro H locs hP hD hS
  replace hP : va_P (dC, dI) vwCl (([(h0, .inr (3, [.ref q1, .ref q3, .ref q4, .null, .int 0, .int 0])), (q1, .inr (9, [.ref (u2.1 1), .ref (u2.1 2), .ref (u2.1 3), .ref (u2.1 4)])), ((u2.1 1), .inl (cy 0, 7, .inl (fun _ => 0))), ((u2.1 2), .inl (cy 0, 7, .inl (fun _ => 0))), ((u2.1 3), .inl (cy 0, 8, .inl (fun _ => 0))), ((u2.1 4), .inl (cy 0, 8, .inl (fun _ => 0))), (q3, .inl (cy 0, 224, .inl (fun _ => 0))), (q4, .inl (cy 0, 32, .inl (fun _ => 0)))] : va_W) ++ List.flatten []) H := hP
  replace hD : va_D A (([(h0, .inr (3, [.ref q1, .ref q3, .ref q4, .null, .int 0, .int 0])), (q1, .inr (9, [.ref (u2.1 1), .ref (u2.1 2), .ref (u2.1 3), .ref (u2.1 4)])), ((u2.1 1), .inl (cy 0, 7, .inl (fun _ => 0))), ((u2.1 2), .inl (cy 0, 7, .inl (fun _ => 0))), ((u2.1 3), .inl (cy 0, 8, .inl (fun _ => 0))), ((u2.1 4), .inl (cy 0, 8, .inl (fun _ => 0))), (q3, .inl (cy 0, 224, .inl (fun _ => 0))), (q4, .inl (cy 0, 32, .inl (fun _ => 0)))] : va_W) ++ List.flatten []) := hD
  refine lv_aload_n hx hb dX3_init_32 rfl (lv_at hl 0 rfl) ?_
  refine lv_bipush (v := 32) hx hb dX3_init_33 (by decide) ?_
  refine va_newa (atype := .int) (a0 := (32, .inl (fun _ => 0))) (N' := 32) hx hb (hts _ (List.mem_cons_of_mem _ mw_30)) rfl hK hP hD hS hA (fun _ => rfl) (by decide) (by decide) (Nat.le_of_ble_eq_true rfl) (Nat.le_of_ble_eq_true rfl) (Nat.le_of_ble_eq_true rfl) dX3_init_35 ?_; clear hP hD hS; clear H; intro q5 cA H hK2 hP hD hS
  obtain rfl := cA_eq hK2 0 rfl
  clear hK2
  replace hP := pushS (S := ([(h0, .inr (3, [.ref q1, .ref q3, .ref q4, .null, .int 0, .int 0])), (q1, .inr (9, [.ref (u2.1 1), .ref (u2.1 2), .ref (u2.1 3), .ref (u2.1 4)])), ((u2.1 1), .inl (cy 0, 7, .inl (fun _ => 0))), ((u2.1 2), .inl (cy 0, 7, .inl (fun _ => 0))), ((u2.1 3), .inl (cy 0, 8, .inl (fun _ => 0))), ((u2.1 4), .inl (cy 0, 8, .inl (fun _ => 0))), (q3, .inl (cy 0, 224, .inl (fun _ => 0))), (q4, .inl (cy 0, 32, .inl (fun _ => 0)))] : va_W)) (bs := []) (c := (q5, .inl (cy 0, 32, .inl (fun _ => 0)))) hP hD; clear hD; obtain ⟨hP, hD⟩ := hP
  replace hP : va_P (dC, dI) vwCl (([(h0, .inr (3, [.ref q1, .ref q3, .ref q4, .null, .int 0, .int 0])), (q1, .inr (9, [.ref (u2.1 1), .ref (u2.1 2), .ref (u2.1 3), .ref (u2.1 4)])), ((u2.1 1), .inl (cy 0, 7, .inl (fun _ => 0))), ((u2.1 2), .inl (cy 0, 7, .inl (fun _ => 0))), ((u2.1 3), .inl (cy 0, 8, .inl (fun _ => 0))), ((u2.1 4), .inl (cy 0, 8, .inl (fun _ => 0))), (q3, .inl (cy 0, 224, .inl (fun _ => 0))), (q4, .inl (cy 0, 32, .inl (fun _ => 0))), (q5, .inl (cy 0, 32, .inl (fun _ => 0)))] : va_W) ++ List.flatten []) H := hP
  replace hD : va_D A (([(h0, .inr (3, [.ref q1, .ref q3, .ref q4, .null, .int 0, .int 0])), (q1, .inr (9, [.ref (u2.1 1), .ref (u2.1 2), .ref (u2.1 3), .ref (u2.1 4)])), ((u2.1 1), .inl (cy 0, 7, .inl (fun _ => 0))), ((u2.1 2), .inl (cy 0, 7, .inl (fun _ => 0))), ((u2.1 3), .inl (cy 0, 8, .inl (fun _ => 0))), ((u2.1 4), .inl (cy 0, 8, .inl (fun _ => 0))), (q3, .inl (cy 0, 224, .inl (fun _ => 0))), (q4, .inl (cy 0, 32, .inl (fun _ => 0))), (q5, .inl (cy 0, 32, .inl (fun _ => 0)))] : va_W) ++ List.flatten []) := hD
  refine W.widen (k := 8) (n := 322) (Nat.le_of_ble_eq_true rfl) (Nat.le_of_ble_eq_true rfl) ?_
  refine va_putF (D := (dC, dI)) (ci := 3) (v := .ref q5) (ty := .array .int) (C := RX3) (T := TX3) (N := 6) hx hb hts inX3 tyX3 tyX3_ok nmX3 hown hK hP hD hS 0 rfl rfl 3 (by decide) (hts _ (List.mem_cons_of_mem _ mw_162)) (fun _ h9 => h9) rfl hin rfl (by decide +kernel) rfl rfl (Nat.le_of_ble_eq_true rfl) dX3_init_37 ?_; clear hP hD hS; clear H locs; intro H locs hP hD hS
  replace hP : va_P (dC, dI) vwCl (([(h0, .inr (3, [.ref q1, .ref q3, .ref q4, .ref q5, .int 0, .int 0])), (q1, .inr (9, [.ref (u2.1 1), .ref (u2.1 2), .ref (u2.1 3), .ref (u2.1 4)])), ((u2.1 1), .inl (cy 0, 7, .inl (fun _ => 0))), ((u2.1 2), .inl (cy 0, 7, .inl (fun _ => 0))), ((u2.1 3), .inl (cy 0, 8, .inl (fun _ => 0))), ((u2.1 4), .inl (cy 0, 8, .inl (fun _ => 0))), (q3, .inl (cy 0, 224, .inl (fun _ => 0))), (q4, .inl (cy 0, 32, .inl (fun _ => 0))), (q5, .inl (cy 0, 32, .inl (fun _ => 0)))] : va_W) ++ List.flatten []) H := hP
  replace hD : va_D A (([(h0, .inr (3, [.ref q1, .ref q3, .ref q4, .ref q5, .int 0, .int 0])), (q1, .inr (9, [.ref (u2.1 1), .ref (u2.1 2), .ref (u2.1 3), .ref (u2.1 4)])), ((u2.1 1), .inl (cy 0, 7, .inl (fun _ => 0))), ((u2.1 2), .inl (cy 0, 7, .inl (fun _ => 0))), ((u2.1 3), .inl (cy 0, 8, .inl (fun _ => 0))), ((u2.1 4), .inl (cy 0, 8, .inl (fun _ => 0))), (q3, .inl (cy 0, 224, .inl (fun _ => 0))), (q4, .inl (cy 0, 32, .inl (fun _ => 0))), (q5, .inl (cy 0, 32, .inl (fun _ => 0)))] : va_W) ++ List.flatten []) := hD
  refine lv_aload_n hx hb dX3_init_40 rfl (lv_at hl 0 rfl) ?_
  refine lv_bipush (v := 16) hx hb dX3_init_41 (by decide) ?_
  refine va_put (D := (dC, dI)) (ci := 3) (v := .int (16 : Int32)) (ty := .int) (C := RX3) (T := TX3) (N := 6) hx hb hts inX3 tyX3 tyX3_ok nmX3 hown hK hP hD hS 0 rfl rfl 4 (by decide) (hts _ (List.mem_cons_of_mem _ mw_163)) (fun _ h9 => h9) rfl (by decide +kernel) rfl rfl (Nat.le_of_ble_eq_true rfl) dX3_init_43 ?_; clear hP hD hS; clear H locs; intro H locs hP hD hS
  replace hP : va_P (dC, dI) vwCl (([(h0, .inr (3, [.ref q1, .ref q3, .ref q4, .ref q5, .int (16 : Int32), .int 0])), (q1, .inr (9, [.ref (u2.1 1), .ref (u2.1 2), .ref (u2.1 3), .ref (u2.1 4)])), ((u2.1 1), .inl (cy 0, 7, .inl (fun _ => 0))), ((u2.1 2), .inl (cy 0, 7, .inl (fun _ => 0))), ((u2.1 3), .inl (cy 0, 8, .inl (fun _ => 0))), ((u2.1 4), .inl (cy 0, 8, .inl (fun _ => 0))), (q3, .inl (cy 0, 224, .inl (fun _ => 0))), (q4, .inl (cy 0, 32, .inl (fun _ => 0))), (q5, .inl (cy 0, 32, .inl (fun _ => 0)))] : va_W) ++ List.flatten []) H := hP
  replace hD : va_D A (([(h0, .inr (3, [.ref q1, .ref q3, .ref q4, .ref q5, .int (16 : Int32), .int 0])), (q1, .inr (9, [.ref (u2.1 1), .ref (u2.1 2), .ref (u2.1 3), .ref (u2.1 4)])), ((u2.1 1), .inl (cy 0, 7, .inl (fun _ => 0))), ((u2.1 2), .inl (cy 0, 7, .inl (fun _ => 0))), ((u2.1 3), .inl (cy 0, 8, .inl (fun _ => 0))), ((u2.1 4), .inl (cy 0, 8, .inl (fun _ => 0))), (q3, .inl (cy 0, 224, .inl (fun _ => 0))), (q4, .inl (cy 0, 32, .inl (fun _ => 0))), (q5, .inl (cy 0, 32, .inl (fun _ => 0)))] : va_W) ++ List.flatten []) := hD
  refine lv_aload_n hx hb dX3_init_46 rfl (lv_at hl 0 rfl) ?_
  refine lv_iconst (v := 0) hx hb dX3_init_47 (by decide) ?_
  refine va_put (D := (dC, dI)) (ci := 3) (v := .int (0 : Int32)) (ty := .int) (C := RX3) (T := TX3) (N := 6) hx hb hts inX3 tyX3 tyX3_ok nmX3 hown hK hP hD hS 0 rfl rfl 5 (by decide) (hts _ (List.mem_cons_of_mem _ mw_164)) (fun _ h9 => h9) rfl (by decide +kernel) rfl rfl (Nat.le_of_ble_eq_true rfl) dX3_init_48 ?_; clear hP hD hS; clear H locs; intro H locs hP hD hS
  replace hP : va_P (dC, dI) vwCl (([(h0, .inr (3, [.ref q1, .ref q3, .ref q4, .ref q5, .int (16 : Int32), .int (0 : Int32)])), (q1, .inr (9, [.ref (u2.1 1), .ref (u2.1 2), .ref (u2.1 3), .ref (u2.1 4)])), ((u2.1 1), .inl (cy 0, 7, .inl (fun _ => 0))), ((u2.1 2), .inl (cy 0, 7, .inl (fun _ => 0))), ((u2.1 3), .inl (cy 0, 8, .inl (fun _ => 0))), ((u2.1 4), .inl (cy 0, 8, .inl (fun _ => 0))), (q3, .inl (cy 0, 224, .inl (fun _ => 0))), (q4, .inl (cy 0, 32, .inl (fun _ => 0))), (q5, .inl (cy 0, 32, .inl (fun _ => 0)))] : va_W) ++ List.flatten []) H := hP
  replace hD : va_D A (([(h0, .inr (3, [.ref q1, .ref q3, .ref q4, .ref q5, .int (16 : Int32), .int (0 : Int32)])), (q1, .inr (9, [.ref (u2.1 1), .ref (u2.1 2), .ref (u2.1 3), .ref (u2.1 4)])), ((u2.1 1), .inl (cy 0, 7, .inl (fun _ => 0))), ((u2.1 2), .inl (cy 0, 7, .inl (fun _ => 0))), ((u2.1 3), .inl (cy 0, 8, .inl (fun _ => 0))), ((u2.1 4), .inl (cy 0, 8, .inl (fun _ => 0))), (q3, .inl (cy 0, 224, .inl (fun _ => 0))), (q4, .inl (cy 0, 32, .inl (fun _ => 0))), (q5, .inl (cy 0, 32, .inl (fun _ => 0)))] : va_W) ++ List.flatten []) := hD
  exact W.vret hx hb hr (fun t ht hW => ⟨⟨((fun k => ([0, q1, (u2.1 1), (u2.1 2), (u2.1 3), (u2.1 4), q3, q4, q5] : List Nat).getD k 0), (fun k => ([] : List (Nat → Nat → Nat)).getD k (fun _ _ => 0))), rfl, trivial, by rw [ht]; exact hP, va_K.moved hW.alike hK, hD⟩, hS.F ht⟩) hS.2.2 dX3_init_51
abbrev z_X7 (h0 : Nat) (a : Nat → Nat) (E : Nat → Nat → Nat → Nat) (cy : Nat → ClassId) (k1 : Nat) (v2 : Int32) (cap : Nat) : va_W := ([(h0, .inr (7, [.ref k1, .int v2, .ref (a 1), .int 0])), ((a 1), .inl (cy 4, cap, .inr (.inr (.inr (.inr (rowF (E 0)))))))] : va_W) ++ List.flatten [fam cap (pkF (E 0) cy (fun _ => 0) (fun _ => 0) (fun _ => 0) (fun _ => 1) (fun _ _ => 0) (fun _ => 0) (fun _ => 0) (fun _ _ => 0) (fun _ => 0) (fun _ => 0))]
set_option maxHeartbeats 4000000 in
set_option maxRecDepth 100000 in
theorem c_X7_init (l : Launch) (dC : Nat → ClassId) (dI : Nat → Nat → Nat) (cy : Nat → ClassId) (h0 : Nat) (sz : Nat) (k1 : Nat) (v2 : Int32) (cap : Nat) (hc1 : 1 ≤ cap) (hc2 : cap ≤ 100) : Met l yX7_init wsX7_init ({ frames := 3, cells := 1 + 5 * cap, slots := 173 * cap, locals := 60 }) (PX dC dI cy [.ref h0, .ref k1, .int v2, .int (nI cap)] sz [(h0, .inr (7, [.null, .int 0, .null, .int 0]))]) (va_Qv (fun (_ : (Nat → Nat) × (Nat → Nat → Nat → Nat)) => True) (QX dC dI cy (va_A [(h0, .inr (7, [.null, .int 0, .null, .int 0]))] sz) (fun (u : (Nat → Nat) × (Nat → Nat → Nat → Nat)) => z_X7 h0 u.1 u.2 cy k1 v2 cap)) (va_A [(h0, .inr (7, [.null, .int 0, .null, .int 0]))] sz)) (1 + 5 * cap) (173 * cap) (va_A [(h0, .inr (7, [.null, .int 0, .null, .int 0]))] sz) := by
  refine Met.ofW (cc := cX7_init) (maxL := 5) (ret := none) (by decide) rfl ?_
  intro p e s m args below meth c s₁ B hml hv
  obtain ⟨rfl, hsz, hP, hK, hD0, hG⟩ := hv
  have hx := B.exec
  have hb := B.bytes
  have hr := B.returns
  have hts := atoms_spec (ws := wsX7_init) B.pre
  have hown : s.vm.findClass RX7 = some m.cls := findClass_of_methodNamed B.named
  have hlocks := B.notSynchronized
  have hin : meth.name = "<init>" := (name_of_methodNamed B.named B.method).1
  subst hsz
  have hD := hD0.self (sz := s.heap.size)
  generalize hAe : va_A [(h0, .inr (7, [.null, .int 0, .null, .int 0]))] s.heap.size = A at hD ⊢
  have hA : ∀ q : Nat, s.heap.size ≤ q → A q := fun q h => by rw [← hAe]; exact Or.inr h
  have hS : va_S A s.heap s.heap [] := va_S.rf
  have hl := lv_entry ([.ref h0, .ref k1, .int v2, .int (nI cap)]) (n := 5) (Nat.le_of_ble_eq_true rfl)
  rw [lg_entry_eq]
  generalize (lg_sl ([.ref h0, .ref k1, .int v2, .int (nI cap)]) ++ List.replicate (5 - (lg_sl ([.ref h0, .ref k1, .int v2, .int (nI cap)])).length) Slot.unset).toArray = ls at hl ⊢
  replace hl : lv_has ls 5 [(0, .ref h0), (1, .ref k1), (2, .int v2), (3, .int (nI cap))] := hl
  have inX7 : ∀ w ∈ u_ws RX7 TX7 4, w ∈ wsX7_init := fun w h => List.mem_cons_of_mem _ (inlX7 w h)
  have inX5 : ∀ w ∈ u_ws RX5 TX5 6, w ∈ wsX7_init := fun w h => List.mem_cons_of_mem _ (inlX5 w h)
  clear hAe hD0 B
  obtain ⟨H, hH⟩ : ∃ H, H = s.heap := ⟨_, rfl⟩
  obtain ⟨locs, hlo⟩ : ∃ L : List Loc, L = [] := ⟨_, rfl⟩
  replace hP : va_P (dC, dI) vwCl (([(h0, .inr (7, [.null, .int 0, .null, .int 0]))] : va_W) ++ List.flatten []) H := by rw [hH]; exact hP
  replace hD : va_D A (([(h0, .inr (7, [.null, .int 0, .null, .int 0]))] : va_W) ++ List.flatten []) := hD
  replace hS : va_S A s.heap H locs := by rw [hH, hlo]; exact hS
  rw [show (W p l e _ s m _ below meth c s.heap [] 0 0) = W p l e _ s m _ below meth c H locs 0 0 by rw [hH, hlo]]
  clear hH hlo
  refine lv_aload_n hx hb dX7_init_0 rfl (lv_at hl 0 rfl) ?_
  refine W.objInit hx hb hown (hts _ (List.mem_cons_of_mem _ mw_70)) (hts _ (List.mem_cons_of_mem _ mw_10)) (hts _ (List.mem_cons_of_mem _ mw_11)) rfl (by rw [hml]; exact hl.1) rfl dX7_init_1 (Nat.le_of_ble_eq_true rfl) (Nat.le_of_ble_eq_true rfl) ?_
  refine W.eq (g2 := F0 m 4 ls []) rfl ?_
  refine lv_aload_n hx hb dX7_init_4 rfl (lv_at hl 0 rfl) ?_
  refine lv_iconst (v := 0) hx hb dX7_init_5 (by decide) ?_
  refine va_put (D := (dC, dI)) (ci := 7) (v := .int (0 : Int32)) (ty := .int) (C := RX7) (T := TX7) (N := 4) hx hb hts inX7 tyX7 tyX7_ok nmX7 hown hK hP hD hS 0 rfl rfl 3 (by decide) (hts _ (List.mem_cons_of_mem _ mw_71)) (fun _ h9 => h9) rfl (by decide +kernel) rfl rfl (Nat.le_of_ble_eq_true rfl) dX7_init_6 ?_; clear hP hD hS; clear H locs; intro H locs hP hD hS
  replace hP : va_P (dC, dI) vwCl (([(h0, .inr (7, [.null, .int 0, .null, .int 0]))] : va_W) ++ List.flatten []) H := hP
  replace hD : va_D A (([(h0, .inr (7, [.null, .int 0, .null, .int 0]))] : va_W) ++ List.flatten []) := hD
  refine lv_aload_n hx hb dX7_init_9 rfl (lv_at hl 0 rfl) ?_
  refine lv_aload_n hx hb dX7_init_10 rfl (lv_at hl 1 rfl) ?_
  refine va_putF (D := (dC, dI)) (ci := 7) (v := .ref k1) (ty := .array .int) (C := RX7) (T := TX7) (N := 4) hx hb hts inX7 tyX7 tyX7_ok nmX7 hown hK hP hD hS 0 rfl rfl 0 (by decide) (hts _ (List.mem_cons_of_mem _ mw_72)) (fun _ h9 => h9) rfl hin rfl (by decide +kernel) rfl rfl (Nat.le_of_ble_eq_true rfl) dX7_init_11 ?_; clear hP hD hS; clear H locs; intro H locs hP hD hS
  replace hP : va_P (dC, dI) vwCl (([(h0, .inr (7, [.ref k1, .int 0, .null, .int 0]))] : va_W) ++ List.flatten []) H := hP
  replace hD : va_D A (([(h0, .inr (7, [.ref k1, .int 0, .null, .int 0]))] : va_W) ++ List.flatten []) := hD
  refine lv_aload_n hx hb dX7_init_14 rfl (lv_at hl 0 rfl) ?_
  refine lv_iload_n hx hb dX7_init_15 rfl (lv_at hl 2 rfl) ?_
  refine va_putF (D := (dC, dI)) (ci := 7) (v := .int v2) (ty := .int) (C := RX7) (T := TX7) (N := 4) hx hb hts inX7 tyX7 tyX7_ok nmX7 hown hK hP hD hS 0 rfl rfl 1 (by decide) (hts _ (List.mem_cons_of_mem _ mw_73)) (fun _ h9 => h9) rfl hin rfl (by decide +kernel) rfl rfl (Nat.le_of_ble_eq_true rfl) dX7_init_16 ?_; clear hP hD hS; clear H locs; intro H locs hP hD hS
  replace hP : va_P (dC, dI) vwCl (([(h0, .inr (7, [.ref k1, .int v2, .null, .int 0]))] : va_W) ++ List.flatten []) H := hP
  replace hD : va_D A (([(h0, .inr (7, [.ref k1, .int v2, .null, .int 0]))] : va_W) ++ List.flatten []) := hD
  refine lv_aload_n hx hb dX7_init_19 rfl (lv_at hl 0 rfl) ?_
  refine lv_iconst (v := 1) hx hb dX7_init_20 (by decide) ?_
  refine lv_iload_n hx hb dX7_init_21 rfl (lv_at hl 3 rfl) ?_
  refine va_mmax hx hb (by rw [hml]; exact hl.1.symm) hown (hts _ (List.mem_cons_of_mem _ mw_74)) (hts _ (List.mem_cons_of_mem _ mw_75)) (hts _ (List.mem_cons_of_mem _ mw_76)) (hts _ (List.mem_cons_of_mem _ mw_77)) (Nat.le_of_ble_eq_true rfl) (Nat.le_of_ble_eq_true rfl) (Nat.zero_le _) (Nat.zero_le _) dX7_init_22 ?_
  have emax : (if (1 : Int32) < nI cap then nI cap else 1) = nI cap := by
    by_cases q : cap = 1
    · subst q; decide
    · exact if_pos (show (1 : Int32) < nI cap from (nI_ltI (a := 1) (b := cap) (by omega) (by omega)).mpr (by omega))
  rw [emax]
  clear emax
  refine va_newq (N' := cap) hx hb hown (hts _ (List.mem_cons_of_mem _ mw_78)) hG.2.2.2.2.1 hK hP hD hS hA (fun q => absurd ((nI_ltI (b := 0) (by omega) (by omega)).mp q) (by omega)) (nI_clamp (by omega)) (by omega) (by show 0 + 1 ≤ 1 + 5 * cap; omega) (by show 0 + cap ≤ 173 * cap; omega) dX7_init_25 ?_; clear hP hD hS; clear H; intro pl cA H hK2 hP hD hS
  obtain rfl := cA_eq hK2 4 rfl
  clear hK2
  replace hP := pushS (S := [(h0, .inr (7, [.ref k1, .int v2, .null, .int 0]))]) (bs := []) (c := (pl, .inl (cy 4, cap, .inr (.inr (.inr (.inr (fun _ => none))))))) hP hD; clear hD; obtain ⟨hP, hD⟩ := hP
  refine W.widen (k := 1 + 5 * 0) (n := cap + 172 * 0) (by omega) (by omega) ?_
  replace hP : va_P (dC, dI) vwCl (([(h0, .inr (7, [.ref k1, .int v2, .null, .int 0])), (pl, .inl (cy 4, cap, .inr (.inr (.inr (.inr (fun _ => none))))))] : va_W) ++ List.flatten []) H := hP
  replace hD : va_D A (([(h0, .inr (7, [.ref k1, .int v2, .null, .int 0])), (pl, .inl (cy 4, cap, .inr (.inr (.inr (.inr (fun _ => none))))))] : va_W) ++ List.flatten []) := hD
  refine va_putF (D := (dC, dI)) (ci := 7) (v := .ref pl) (ty := .array (.object "HeadsetBands$Packet")) (C := RX7) (T := TX7) (N := 4) hx hb hts inX7 tyX7 tyX7_ok nmX7 hown hK hP hD hS 0 rfl rfl 2 (by decide) (hts _ (List.mem_cons_of_mem _ mw_79)) (fun _ h9 => h9) rfl hin rfl (by decide +kernel) rfl rfl (Nat.le_of_ble_eq_true rfl) dX7_init_28 ?_; clear hP hD hS; clear H locs; intro H locs hP hD hS
  replace hP : va_P (dC, dI) vwCl (([(h0, .inr (7, [.ref k1, .int v2, .ref pl, .int 0])), (pl, .inl (cy 4, cap, .inr (.inr (.inr (.inr (fun _ => none))))))] : va_W) ++ List.flatten []) H := hP
  replace hD : va_D A (([(h0, .inr (7, [.ref k1, .int v2, .ref pl, .int 0])), (pl, .inl (cy 4, cap, .inr (.inr (.inr (.inr (fun _ => none))))))] : va_W) ++ List.flatten []) := hD
  refine lv_iconst (v := 0) hx hb dX7_init_31 (by decide) ?_
  refine lv_istore (lv' := [(4, .int (nI 0)), (0, .ref h0), (1, .ref k1), (2, .int v2), (3, .int (nI cap))]) hx hb dX7_init_32 hl (by decide) rfl ?_; clear hl; clear ls; intro ls hl
  replace hl := lv_sub (l' := [(4, .int (nI 0)), (0, .ref h0)]) hl [0, 1] rfl
  have key : ∀ (d i : Nat), i + d = cap → ∀ (e9 : Nat → Nat → Nat) (H : Heap) (locs : List Loc) (ls : Array Slot), va_P (dC, dI) vwCl (([(h0, .inr (7, [.ref k1, .int v2, .ref pl, .int 0])), (pl, .inl (cy 4, cap, .inr (.inr (.inr (.inr (fun j => if j < i then some (e9 j 0) else none))))))] : va_W) ++ fam i (pkF e9 cy (fun _ => 0) (fun _ => 0) (fun _ => 0) (fun _ => 1) (fun _ _ => 0) (fun _ => 0) (fun _ => 0) (fun _ _ => 0) (fun _ => 0) (fun _ => 0))) H → va_D A (([(h0, .inr (7, [.ref k1, .int v2, .ref pl, .int 0])), (pl, .inl (cy 4, cap, .inr (.inr (.inr (.inr (fun j => if j < i then some (e9 j 0) else none))))))] : va_W) ++ fam i (pkF e9 cy (fun _ => 0) (fun _ => 0) (fun _ => 0) (fun _ => 1) (fun _ _ => 0) (fun _ => 0) (fun _ => 0) (fun _ _ => 0) (fun _ => 0) (fun _ => 0))) → va_S A s.heap H locs → lv_has ls 5 [(4, .int (nI i)), (0, .ref h0)] → W p l e ({ frames := 3, cells := 1 + 5 * cap, slots := 173 * cap, locals := 60 }) s m ([.ref h0, .ref k1, .int v2, .int (nI cap)] : List Value).toArray below meth c H locs (1 + 5 * i) (cap + 172 * i) (MQ below (va_Qv (fun (_ : (Nat → Nat) × (Nat → Nat → Nat → Nat)) => True) (QX dC dI cy A (fun (u : (Nat → Nat) × (Nat → Nat → Nat → Nat)) => z_X7 h0 u.1 u.2 cy k1 v2 cap)) A) ([.ref h0, .ref k1, .int v2, .int (nI cap)] : List Value).toArray s (1 + 5 * cap) (173 * cap) A) (F0 m 34 ls []) := by
    clear hP hD hS hl; clear H locs ls
    intro d
    induction d with
    | zero =>
      intro i hi e9 H locs ls hP hD hS hl
      obtain rfl : i = cap := by omega
      refine lv_iload hx hb dX7_init_34 (lv_at hl 0 rfl) ?_
      refine lv_aload_n hx hb dX7_init_36 rfl (lv_at hl 1 rfl) ?_
      refine va_get (D := (dC, dI)) (ci := 7) (v := .ref pl) (C := RX7) (T := TX7) (N := 4) hx hb hts inX7 hown hK hP 0 rfl rfl 2 (by decide) (hts _ (List.mem_cons_of_mem _ mw_79)) (fun _ h9 => h9) rfl dX7_init_37 ?_
      refine va_alen (v := nI i) hx hb hK hP 1 4 rfl rfl rfl dX7_init_40 ?_
      refine lv_icmp_ge (tgt := 64) hx hb dX7_init_41 (by decide) (fun _ => ?_) (fun hc => absurd ((nI_leI (by omega) (by omega)).mpr (Nat.le_refl _)) hc)
      refine W.widen (k := 1 + 5 * i) (n := 173 * i) (Nat.le_refl _) (by omega) ?_
      have hP9 : va_P (dC, dI) vwCl (([(h0, .inr (7, [.ref k1, .int v2, .ref pl, .int 0])), (pl, .inl (cy 4, i, .inr (.inr (.inr (.inr (rowF e9))))))] : va_W) ++ List.flatten [fam i (pkF e9 cy (fun _ => 0) (fun _ => 0) (fun _ => 0) (fun _ => 1) (fun _ _ => 0) (fun _ => 0) (fun _ => 0) (fun _ _ => 0) (fun _ => 0) (fun _ => 0))]) H := by
        rw [va_P_mem] at hP ⊢
        intro q hq
        rw [List.flatten_cons, List.flatten_nil, List.append_nil] at hq
        rcases List.mem_append.mp hq with h | h
        · rcases List.mem_cons.mp h with rfl | h
          · exact hP _ (List.mem_append_left _ List.mem_cons_self)
          · rw [List.mem_singleton] at h; subst h
            have h0 := hP (pl, .inl (cy 4, i, .inr (.inr (.inr (.inr (fun j => if j < i then some (e9 j 0) else none)))))) (List.mem_append_left _ (List.mem_cons_of_mem _ List.mem_cons_self))
            show H[pl]? = some (vp_cell (cy 4) (i, .inr (.inr (.inr (.inr (rowF e9))))))
            rw [← q_cong (f := fun j => if j < i then some (e9 j 0) else none) (g := rowF e9) (fun j hj => if_pos hj)]
            exact h0
        · exact hP _ (List.mem_append_right _ h)
      have hD9 : va_D A (([(h0, .inr (7, [.ref k1, .int v2, .ref pl, .int 0])), (pl, .inl (cy 4, i, .inr (.inr (.inr (.inr (rowF e9))))))] : va_W) ++ List.flatten [fam i (pkF e9 cy (fun _ => 0) (fun _ => 0) (fun _ => 0) (fun _ => 1) (fun _ _ => 0) (fun _ => 0) (fun _ => 0) (fun _ _ => 0) (fun _ => 0) (fun _ => 0))]) := va_D_fst (by rw [List.flatten_cons, List.flatten_nil, List.append_nil]; rfl) hD
      exact W.vret hx hb hr (fun t ht hW => ⟨⟨((fun _ => pl), (fun _ => e9)), rfl, trivial, by rw [ht]; exact hP9, va_K.moved hW.alike hK, hD9⟩, hS.F ht⟩) hS.2.2 dX7_init_64
    | succ d ih =>
      intro i hi e9 H locs ls hP hD hS hl
      refine lv_iload hx hb dX7_init_34 (lv_at hl 0 rfl) ?_
      refine lv_aload_n hx hb dX7_init_36 rfl (lv_at hl 1 rfl) ?_
      refine va_get (D := (dC, dI)) (ci := 7) (v := .ref pl) (C := RX7) (T := TX7) (N := 4) hx hb hts inX7 hown hK hP 0 rfl rfl 2 (by decide) (hts _ (List.mem_cons_of_mem _ mw_79)) (fun _ h9 => h9) rfl dX7_init_37 ?_
      refine va_alen (v := nI cap) hx hb hK hP 1 4 rfl rfl rfl dX7_init_40 ?_
      refine lv_icmp_ge (tgt := 64) hx hb dX7_init_41 (by decide) (fun hc => absurd ((nI_leI (by omega) (by omega)).mp hc) (by omega)) (fun _ => ?_)
      refine lv_aload_n hx hb dX7_init_44 rfl (lv_at hl 1 rfl) ?_
      refine va_get (D := (dC, dI)) (ci := 7) (v := .ref pl) (C := RX7) (T := TX7) (N := 4) hx hb hts inX7 hown hK hP 0 rfl rfl 2 (by decide) (hts _ (List.mem_cons_of_mem _ mw_79)) (fun _ h9 => h9) rfl dX7_init_45 ?_
      refine lv_iload hx hb dX7_init_48 (lv_at hl 0 rfl) ?_
      refine va_new (ci := 5) (fs := [.int 0, .int 0, .int 0, .int 0, .null, .null]) (C := RX5) (T := TX5) (N := 6) hx hb hts inX5 tyX5 tyX5_ok hown (hts _ (List.mem_cons_of_mem _ mw_78)) (hts _ (List.mem_cons_of_mem _ mw_80)) (hts _ (List.mem_cons_of_mem _ mw_81)) hK hP hD hS hA rfl (by decide +kernel) (by show 1 + 5 * i + 1 ≤ 1 + 5 * cap; omega) (by show cap + 172 * i + 6 ≤ 173 * cap; omega) dX7_init_50 ?_; clear hP hD hS; clear H; intro q H hP hD hS
      refine lv_dup hx hb dX7_init_53 rfl ?_
      have hPc : va_P (dC, dI) vwCl [(q, .inr (5, [.int 0, .int 0, .int 0, .int 0, .null, .null]))] H := by
        rw [va_P_mem] at hP ⊢
        exact fun y hy => hP y (List.mem_append_right _ hy)
      have hDc : va_D (fun _ => True) [(q, .inr (5, [.int 0, .int 0, .int 0, .int 0, .null, .null]))] := by rw [va_D_pw]; exact ⟨List.pairwise_singleton _ _, fun _ _ => trivial⟩
      have hFc : ∀ y, va_A [(q, .inr (5, [.int 0, .int 0, .int 0, .int 0, .null, .null]))] H.size y → A y := by
        intro y h
        rcases h with ⟨k, e, h⟩ | h
        · exact (va_D_pw.mp hD).2 (y, e) (List.mem_append_right _ (List.mem_of_getElem? h))
        · exact hA y (Nat.le_trans hS.1 h)
      refine va_callv (va_runIN (As := []) (rest := [.ref q, .int (nI i), .ref pl]) ⟨hx, hb, hml, hown, hts⟩ (c_X5_init l dC dI cy q H.size) ⟨va_cnB 0 hts (goodG mw_83) rfl rfl rfl (hG.1 ("HeadsetBands$Queue", 32, ⟨"HeadsetBands$Packet", "<init>", "()V"⟩, "HeadsetBands") (by decide +kernel)) (hts _ (List.mem_cons_of_mem _ mw_81)) (by decide +kernel) ⟨Nat.le_of_ble_eq_true rfl, Nat.le_of_ble_eq_true rfl⟩, rfl, (hts _ (List.mem_cons_of_mem _ mw_82))⟩ ⟨PX_blind, PX_pre hPc hK hDc hG⟩ rfl rfl hl.1 rfl (lv_room (Nat.le_of_ble_eq_true rfl)) dX7_init_54 ⟨by show 1 + 5 * i + 1 + 4 ≤ 1 + 5 * cap; omega, by show cap + 172 * i + 6 + 166 ≤ 173 * cap; omega⟩) hS (fun y _ h => hFc y h) hFc ?_; clear hS; intro u t H1 locs1 ht hvm hw hB hz1 hk1 hS
      obtain ⟨hP1, -, hD1⟩ := hB
      rw [ht] at hP1
      replace hP := jR (R := (([(h0, .inr (7, [.ref k1, .int v2, .ref pl, .int 0])), (pl, .inl (cy 4, cap, .inr (.inr (.inr (.inr (fun j => if j < i then some (e9 j 0) else none))))))] : va_W) ++ fam i (pkF e9 cy (fun _ => 0) (fun _ => 0) (fun _ => 0) (fun _ => 1) (fun _ _ => 0) (fun _ => 0) (fun _ => 0) (fun _ _ => 0) (fun _ => 0) (fun _ => 0)))) hP hD hk1 hFc hP1 hD1; clear hD; obtain ⟨hP, hD⟩ := hP
      clear hPc hDc hFc hP1 hD1 hk1 hz1 hvm ht hw; clear t; clear H locs
      have pm : ((([(h0, .inr (7, [.ref k1, .int v2, .ref pl, .int 0])), (pl, .inl (cy 4, cap, .inr (.inr (.inr (.inr (fun j => if j < i then some (e9 j 0) else none))))))] : va_W) ++ fam i (pkF e9 cy (fun _ => 0) (fun _ => 0) (fun _ => 0) (fun _ => 1) (fun _ _ => 0) (fun _ => 0) (fun _ => 0) (fun _ _ => 0) (fun _ => 0) (fun _ => 0))) ++ z_X5 q u.1 u.2 cy).Perm ((([(h0, .inr (7, [.ref k1, .int v2, .ref pl, .int 0])), (pl, .inl (cy 4, cap, .inr (.inr (.inr (.inr (fun j => if j < i then some (e9 j 0) else none))))))] : va_W) ++ pk (fun k => match k with | 0 => q | k + 1 => u.1 (k + 1)) cy 0 0 0 1 (fun _ => 0) 0 0 (fun _ => 0) 0 0) ++ fam i (pkF e9 cy (fun _ => 0) (fun _ => 0) (fun _ => 0) (fun _ => 1) (fun _ _ => 0) (fun _ => 0) (fun _ => 0) (fun _ _ => 0) (fun _ => 0) (fun _ => 0))) := by
        show ((([(h0, .inr (7, [.ref k1, .int v2, .ref pl, .int 0])), (pl, .inl (cy 4, cap, .inr (.inr (.inr (.inr (fun j => if j < i then some (e9 j 0) else none))))))] : va_W) ++ fam i (pkF e9 cy (fun _ => 0) (fun _ => 0) (fun _ => 0) (fun _ => 1) (fun _ _ => 0) (fun _ => 0) (fun _ => 0) (fun _ _ => 0) (fun _ => 0) (fun _ => 0))) ++ pk (fun k => match k with | 0 => q | k + 1 => u.1 (k + 1)) cy 0 0 0 1 (fun _ => 0) 0 0 (fun _ => 0) 0 0).Perm _
        rw [List.append_assoc, List.append_assoc]
        exact List.Perm.append_left _ List.perm_append_comm
      replace hP := va_P_perm pm hP
      replace hD := va_D_perm pm hD
      clear pm
      refine va_astq (i := nI i) hx hb hK hP hD hS 1 4 2 5 rfl rfl rfl rfl (vp_in_nI (by omega) (by omega)) dX7_init_57 ?_; clear hP hD hS; clear H1 locs1; intro H locs hP hD hS
      refine lv_iinc (v := nI (i + 1)) (lv' := [(4, .int (nI (i + 1))), (0, .ref h0)]) hx hb dX7_init_58 hl (k := 0) rfl (by show nI i + 1 = nI (i + 1); rw [rA]) (by decide) rfl ?_; clear hl; clear ls; intro ls hl
      refine lv_goto (tgt := 34) hx hb dX7_init_61 (by decide) ?_
      obtain ⟨e8, he8⟩ : ∃ e8 : Nat → Nat → Nat, e8 = fun j => if j = i then (fun k => match k with | 0 => q | k + 1 => u.1 (k + 1)) else e9 j := ⟨_, rfl⟩
      have e8i : e8 i = (fun k => match k with | 0 => q | k + 1 => u.1 (k + 1)) := by rw [he8]; exact if_pos rfl
      have e8n : ∀ j, j ≠ i → e8 j = e9 j := fun j hj => by rw [he8]; exact if_neg hj
      have ef : (va_up (fun j => if j < i then some (e9 j 0) else none) (nI i).toNatClampNeg (some q)) = fun j => if j < i + 1 then some (e8 j 0) else none := by
        rw [nI_clamp (by omega)]
        funext j
        unfold va_up
        by_cases y : j = i
        · subst y; rw [if_pos rfl, if_pos (by omega), e8i]
        · rw [if_neg y, e8n j y]
          show (if j < i then some (e9 j 0) else none) = (if j < i + 1 then some (e9 j 0) else none)
          by_cases z : j < i
          · rw [if_pos z, if_pos (by omega)]
          · rw [if_neg z, if_neg (by omega)]
      have efam : fam (i + 1) (pkF e8 cy (fun _ => 0) (fun _ => 0) (fun _ => 0) (fun _ => 1) (fun _ _ => 0) (fun _ => 0) (fun _ => 0) (fun _ _ => 0) (fun _ => 0) (fun _ => 0)) = fam i (pkF e9 cy (fun _ => 0) (fun _ => 0) (fun _ => 0) (fun _ => 1) (fun _ _ => 0) (fun _ => 0) (fun _ => 0) (fun _ _ => 0) (fun _ => 0) (fun _ => 0)) ++ pk (fun k => match k with | 0 => q | k + 1 => u.1 (k + 1)) cy 0 0 0 1 (fun _ => 0) 0 0 (fun _ => 0) 0 0 := by
        rw [fam, fam_cong i (w := pkF e9 cy (fun _ => 0) (fun _ => 0) (fun _ => 0) (fun _ => 1) (fun _ _ => 0) (fun _ => 0) (fun _ => 0) (fun _ _ => 0) (fun _ => 0) (fun _ => 0)) (fun j hj => by show pk (e8 j) cy _ _ _ _ _ _ _ _ _ _ = pk (e9 j) cy _ _ _ _ _ _ _ _ _ _; rw [e8n j (by omega)])]
        show fam i _ ++ pk (e8 i) cy _ _ _ _ _ _ _ _ _ _ = _
        rw [e8i]
      have pm : ((([(h0, .inr (7, [.ref k1, .int v2, .ref pl, .int 0])), (pl, .inl (cy 4, cap, .inr (.inr (.inr (.inr (fun j => if j < i + 1 then some (e8 j 0) else none))))))] : va_W) ++ pk (fun k => match k with | 0 => q | k + 1 => u.1 (k + 1)) cy 0 0 0 1 (fun _ => 0) 0 0 (fun _ => 0) 0 0) ++ fam i (pkF e9 cy (fun _ => 0) (fun _ => 0) (fun _ => 0) (fun _ => 1) (fun _ _ => 0) (fun _ => 0) (fun _ => 0) (fun _ _ => 0) (fun _ => 0) (fun _ => 0))).Perm (([(h0, .inr (7, [.ref k1, .int v2, .ref pl, .int 0])), (pl, .inl (cy 4, cap, .inr (.inr (.inr (.inr (fun j => if j < (i + 1) then some (e8 j 0) else none))))))] : va_W) ++ fam (i + 1) (pkF e8 cy (fun _ => 0) (fun _ => 0) (fun _ => 0) (fun _ => 1) (fun _ _ => 0) (fun _ => 0) (fun _ => 0) (fun _ _ => 0) (fun _ => 0) (fun _ => 0))) := by
        rw [efam, List.append_assoc]
        exact List.Perm.append_left _ List.perm_append_comm
      have hP2 : va_P (dC, dI) vwCl ((([(h0, .inr (7, [.ref k1, .int v2, .ref pl, .int 0])), (pl, .inl (cy 4, cap, .inr (.inr (.inr (.inr (fun j => if j < i + 1 then some (e8 j 0) else none))))))] : va_W) ++ pk (fun k => match k with | 0 => q | k + 1 => u.1 (k + 1)) cy 0 0 0 1 (fun _ => 0) 0 0 (fun _ => 0) 0 0) ++ fam i (pkF e9 cy (fun _ => 0) (fun _ => 0) (fun _ => 0) (fun _ => 1) (fun _ _ => 0) (fun _ => 0) (fun _ => 0) (fun _ _ => 0) (fun _ => 0) (fun _ => 0))) H := by rw [← ef]; exact hP
      have hD2 : va_D A ((([(h0, .inr (7, [.ref k1, .int v2, .ref pl, .int 0])), (pl, .inl (cy 4, cap, .inr (.inr (.inr (.inr (fun j => if j < i + 1 then some (e8 j 0) else none))))))] : va_W) ++ pk (fun k => match k with | 0 => q | k + 1 => u.1 (k + 1)) cy 0 0 0 1 (fun _ => 0) 0 0 (fun _ => 0) 0 0) ++ fam i (pkF e9 cy (fun _ => 0) (fun _ => 0) (fun _ => 0) (fun _ => 1) (fun _ _ => 0) (fun _ => 0) (fun _ => 0) (fun _ _ => 0) (fun _ => 0) (fun _ => 0))) := by rw [← ef]; exact hD
      refine W.widen (k := 1 + 5 * (i + 1)) (n := cap + 172 * (i + 1)) (by omega) (by omega) ?_
      exact ih (i + 1) (by omega) e8 H locs ls (va_P_perm pm hP2) (va_D_perm pm hD2) hS hl
  refine key cap 0 (by omega) (fun _ _ => 0) H locs ls ?_ ?_ hS hl
  · exact hP
  · exact hD
