set_option maxHeartbeats 4000000 in
set_option maxRecDepth 100000 in
theorem c_X9_joinBlock (l : Launch) (dC : Nat → ClassId) (dI : Nat → Nat → Nat) (cy : Nat → ClassId) (h0 h_memoriesA h_memoriesB h_row h_next k1 k3 : Nat) (n_p1 n_p3 : Nat) (sz : Nat) (v2 : Int32) (v4 : Int32) (p1 : Nat → Int32) (c_row : Nat → Int32) (c_memoriesB : Nat → Int32) (c_memoriesA : Nat → Int32) (c_next : Nat → Int32) (p3 : Nat → Int32) (post : (Nat → Int32) → (Nat → Int32) → (Nat → Int32) → (Nat → Int32) → (Nat → Int32) → Prop) (hw : wp_X9_joinBlock n_p1 n_p3 v2 v4 p1 c_row c_memoriesB c_memoriesA c_next p3 post) : Met l yX9_joinBlock wsX9_joinBlock ({ frames := 1, cells := 0, slots := 0, locals := 40 }) (PX dC dI cy [.ref h0, .ref k1, .int v2, .ref k3, .int v4] sz (w_X9_joinBlock h0 h_memoriesA h_memoriesB h_row h_next k1 k3 cy n_p1 n_p3 p1 c_row c_memoriesB c_memoriesA c_next p3)) (va_Qv (fun (u : (Nat → Int32) × (Nat → Int32) × (Nat → Int32) × (Nat → Int32) × (Nat → Int32)) => post u.1 u.2.1 u.2.2.1 u.2.2.2.1 u.2.2.2.2) (QX dC dI cy (va_A (w_X9_joinBlock h0 h_memoriesA h_memoriesB h_row h_next k1 k3 cy n_p1 n_p3 p1 c_row c_memoriesB c_memoriesA c_next p3) sz) (fun (u : (Nat → Int32) × (Nat → Int32) × (Nat → Int32) × (Nat → Int32) × (Nat → Int32)) => w_X9_joinBlock h0 h_memoriesA h_memoriesB h_row h_next k1 k3 cy n_p1 n_p3 p1 u.1 u.2.1 u.2.2.1 u.2.2.2.1 u.2.2.2.2)) (va_A (w_X9_joinBlock h0 h_memoriesA h_memoriesB h_row h_next k1 k3 cy n_p1 n_p3 p1 c_row c_memoriesB c_memoriesA c_next p3) sz)) 0 0 (va_A (w_X9_joinBlock h0 h_memoriesA h_memoriesB h_row h_next k1 k3 cy n_p1 n_p3 p1 c_row c_memoriesB c_memoriesA c_next p3) sz) := by
  refine Met.ofW (cc := cX9_joinBlock) (maxL := 8) (ret := none) (by decide) rfl ?_
  intro p e s m args below meth c s₁ B hml hv
  obtain ⟨rfl, hsz, hP, hK, hD0, hG⟩ := hv
  have hx := B.exec
  have hb := B.bytes
  have hr := B.returns
  have hts := atoms_spec (ws := wsX9_joinBlock) B.pre
  have hown : s.vm.findClass RX9 = some m.cls := findClass_of_methodNamed B.named
  have hlocks := B.notSynchronized
  subst hsz
  have hD := hD0.self (sz := s.heap.size)
  generalize hAe : va_A (w_X9_joinBlock h0 h_memoriesA h_memoriesB h_row h_next k1 k3 cy n_p1 n_p3 p1 c_row c_memoriesB c_memoriesA c_next p3) s.heap.size = A at hD ⊢
  have hA : ∀ q : Nat, s.heap.size ≤ q → A q := fun q h => by rw [← hAe]; exact Or.inr h
  have hS : va_S A s.heap s.heap [] := va_S.rf
  have hl := lv_entry ([.ref h0, .ref k1, .int v2, .ref k3, .int v4]) (n := 8) (Nat.le_of_ble_eq_true rfl)
  rw [lg_entry_eq]
  generalize (lg_sl ([.ref h0, .ref k1, .int v2, .ref k3, .int v4]) ++ List.replicate (8 - (lg_sl ([.ref h0, .ref k1, .int v2, .ref k3, .int v4])).length) Slot.unset).toArray = ls at hl ⊢
  replace hl : lv_has ls 8 [(0, .ref h0), (1, .ref k1), (2, .int v2), (3, .ref k3), (4, .int v4)] := hl
  have inX9 : ∀ w ∈ u_ws RX9 TX9 4, w ∈ wsX9_joinBlock := fun w h => List.mem_cons_of_mem _ (inlX9 w h)
  clear hAe hD0 B
  unfold wp_X9_joinBlock at hw
  generalize hQe : MQ below _ _ s _ _ _ = Q0
  generalize ([.ref h0, .ref k1, .int v2, .ref k3, .int v4] : List Value).toArray = av at *
  obtain ⟨H, hH⟩ : ∃ H, H = s.heap := ⟨_, rfl⟩
  obtain ⟨locs, hlo⟩ : ∃ L : List Loc, L = [] := ⟨_, rfl⟩
  replace hP : va_P (dC, dI) vwCl (w_X9_joinBlock h0 h_memoriesA h_memoriesB h_row h_next k1 k3 cy n_p1 n_p3 p1 c_row c_memoriesB c_memoriesA c_next p3) H := by rw [hH]; exact hP
  replace hS : va_S A s.heap H locs := by rw [hH, hlo]; exact hS
  suffices hgo : W p l e ({ frames := 1, cells := 0, slots := 0, locals := 40 }) s m av below meth c H locs 0 0 Q0 (F0 m 0 ls []) by rw [hH, hlo] at hgo; exact hgo
  clear hH hlo
  refine lv_aload_n hx hb dX9_joinBlock_0 rfl (lv_at hl 1 rfl) ?_
  refine lv_iload_n hx hb dX9_joinBlock_1 rfl (lv_at hl 2 rfl) ?_
  refine lv_aload_n hx hb dX9_joinBlock_2 rfl (lv_at hl 0 rfl) ?_
  refine va_get (D := (dC, dI)) (ci := 9) (v := .ref h_row) (C := RX9) (T := TX9) (N := 4) hx hb hts inX9 hown hK hP 0 rfl rfl 2 (by decide) (hts _ (List.mem_cons_of_mem _ mw_115)) (fun _ h9 => h9) rfl dX9_joinBlock_3 ?_
  refine lv_iconst (v := 0) hx hb dX9_joinBlock_6 (by decide) ?_
  refine lv_bipush (v := 8) hx hb dX9_joinBlock_7 (by decide) ?_
  obtain ⟨h1, hw⟩ := hw
  obtain ⟨h2, hw⟩ := hw
  refine xcopyi (k1 := v2.toNatClampNeg) (k2 := 0) (k3 := 8) hx hb (by rw [hml]; exact hl.1.symm) hown (hts _ (List.mem_cons_of_mem _ mw_281)) (hts _ (List.mem_cons_of_mem _ mw_59)) (hts _ (List.mem_cons_of_mem _ mw_60)) (hts _ (List.mem_cons_of_mem _ mw_61)) hK hP hD hS 1 2 0 0 rfl rfl rfl rfl rfl h1 (by decide) (by decide) h2 (by decide) (fun _ _ => rfl) (Nat.le_of_ble_eq_true rfl) (Nat.le_of_ble_eq_true rfl) rfl (by decide) (by decide) dX9_joinBlock_9 ?_; clear hP hD hS; clear H locs; intro f3 e_f3 H locs hP hD hS
  replace hw := hw f3 e_f3
  clear e_f3
  replace hP : va_P (dC, dI) vwCl (w_X9_joinBlock h0 h_memoriesA h_memoriesB h_row h_next k1 k3 cy n_p1 n_p3 p1 f3 c_memoriesB c_memoriesA c_next p3) H := hP
  replace hD : va_D A (w_X9_joinBlock h0 h_memoriesA h_memoriesB h_row h_next k1 k3 cy n_p1 n_p3 p1 f3 c_memoriesB c_memoriesA c_next p3) := hD
  refine lv_iconst (v := 2) hx hb dX9_joinBlock_12 (by decide) ?_
  refine lv_istore (lv' := [(5, .int (2 : Int32)), (0, .ref h0), (1, .ref k1), (2, .int v2), (3, .ref k3), (4, .int v4)]) hx hb dX9_joinBlock_13 hl (by decide) rfl ?_; clear hl; clear ls; intro ls hl
  obtain ⟨x4, e_x4⟩ : ∃ y : Int32, y = (2 : Int32) := ⟨_, rfl⟩
  replace hw := hw x4 e_x4
  replace hl : lv_has ls 8 [(5, .int x4), (0, .ref h0), (1, .ref k1), (2, .int v2), (3, .ref k3), (4, .int v4)] := by rw [e_x4]; exact hl
  clear e_x4
  replace hl := lv_sub (l' := [(5, .int x4), (0, .ref h0), (3, .ref k3), (4, .int v4)]) hl [0, 1, 4, 5] rfl
  revert hl; revert hS; revert hD; revert hP; revert ls; revert locs; revert H
  revert hw; revert c_next; revert c_memoriesA; revert c_memoriesB; revert f3; revert x4
  refine Lz5_gr ?_; intro g5 ih6 x7 f8 f9 f10 f11 hw
  intro H locs ls hP hD hS hl
  refine lv_iload hx hb dX9_joinBlock_15 (lv_at hl 0 rfl) ?_
  refine lv_if_lt (tgt := 89) hx hb dX9_joinBlock_17 (by decide) (fun c12 => ?_) (fun c12 => ?_)
  · replace hw := hw.1 c12
    clear ih6
    refine lv_aload_n hx hb dX9_joinBlock_89 rfl (lv_at hl 1 rfl) ?_
    refine va_get (D := (dC, dI)) (ci := 9) (v := .ref h_row) (C := RX9) (T := TX9) (N := 4) hx hb hts inX9 hown hK hP 0 rfl rfl 2 (by decide) (hts _ (List.mem_cons_of_mem _ mw_115)) (fun _ h9 => h9) rfl dX9_joinBlock_90 ?_
    refine lv_iconst (v := 0) hx hb dX9_joinBlock_93 (by decide) ?_
    refine lv_aload_n hx hb dX9_joinBlock_94 rfl (lv_at hl 2 rfl) ?_
    refine lv_iload hx hb dX9_joinBlock_95 (lv_at hl 3 rfl) ?_
    refine lv_bipush (v := 8) hx hb dX9_joinBlock_97 (by decide) ?_
    obtain ⟨h13, hw⟩ := hw
    obtain ⟨h14, hw⟩ := hw
    refine xcopyi (k1 := 0) (k2 := v4.toNatClampNeg) (k3 := 8) hx hb (by rw [hml]; exact hl.1.symm) hown (hts _ (List.mem_cons_of_mem _ mw_281)) (hts _ (List.mem_cons_of_mem _ mw_59)) (hts _ (List.mem_cons_of_mem _ mw_60)) (hts _ (List.mem_cons_of_mem _ mw_61)) hK hP hD hS 2 6 0 0 rfl rfl rfl rfl rfl (by decide) h13 (by decide) (by decide) h14 (fun _ _ => rfl) (Nat.le_of_ble_eq_true rfl) (Nat.le_of_ble_eq_true rfl) (by decide) rfl (by decide) dX9_joinBlock_99 ?_; clear hP hD hS; clear H locs; intro f15 e_f15 H locs hP hD hS
    replace hw := hw f15 e_f15
    clear e_f15
    replace hP : va_P (dC, dI) vwCl (w_X9_joinBlock h0 h_memoriesA h_memoriesB h_row h_next k1 k3 cy n_p1 n_p3 p1 f8 f9 f10 f11 f15) H := hP
    replace hD : va_D A (w_X9_joinBlock h0 h_memoriesA h_memoriesB h_row h_next k1 k3 cy n_p1 n_p3 p1 f8 f9 f10 f11 f15) := hD
    subst hQe
    exact W.vret hx hb hr (fun t ht hW => ⟨⟨(f8, f9, f10, f11, f15), rfl, hw, by rw [ht]; exact hP, va_K.moved hW.alike hK, hD⟩, hS.F ht⟩) hS.2.2 dX9_joinBlock_102
  · replace hw := hw.2 c12
    refine lv_iconst (v := 1) hx hb dX9_joinBlock_20 (by decide) ?_
    refine lv_iload hx hb dX9_joinBlock_21 (lv_at hl 0 rfl) ?_
    refine lv_ishl hx hb dX9_joinBlock_23 ?_
    refine lv_topi (fun x16 e_x16 => ?_)
    replace hw := hw x16 e_x16
    clear e_x16
    refine lv_istore (lv' := [(6, .int x16), (5, .int x7), (0, .ref h0), (3, .ref k3), (4, .int v4)]) hx hb dX9_joinBlock_24 hl (by decide) rfl ?_; clear hl; clear ls; intro ls hl
    refine lv_iconst (v := 0) hx hb dX9_joinBlock_26 (by decide) ?_
    refine lv_istore (lv' := [(7, .int (0 : Int32)), (6, .int x16), (5, .int x7), (0, .ref h0), (3, .ref k3), (4, .int v4)]) hx hb dX9_joinBlock_27 hl (by decide) rfl ?_; clear hl; clear ls; intro ls hl
    obtain ⟨x17, e_x17⟩ : ∃ y : Int32, y = (0 : Int32) := ⟨_, rfl⟩
    replace hw := hw x17 e_x17
    replace hl : lv_has ls 8 [(7, .int x17), (6, .int x16), (5, .int x7), (0, .ref h0), (3, .ref k3), (4, .int v4)] := by rw [e_x17]; exact hl
    clear e_x17
    replace hl := lv_sub (l' := [(7, .int x17), (6, .int x16), (5, .int x7), (0, .ref h0), (3, .ref k3), (4, .int v4)]) hl [0, 1, 2, 3, 4, 5] rfl
    revert hl; revert hS; revert hD; revert hP; revert ls; revert locs; revert H
    revert hw; revert f11; revert f10; revert f9; revert x17
    refine Lz4_gr ?_; intro g18 ih19 x20 f21 f22 f23 hw
    intro H locs ls hP hD hS hl
    refine lv_iload hx hb dX9_joinBlock_29 (lv_at hl 0 rfl) ?_
    refine lv_iload hx hb dX9_joinBlock_31 (lv_at hl 1 rfl) ?_
    refine lv_icmp_ge (tgt := 68) hx hb dX9_joinBlock_33 (by decide) (fun c24 => ?_) (fun c24 => ?_)
    · replace hw := hw.1 c24
      clear ih19
      refine lv_aload_n hx hb dX9_joinBlock_68 rfl (lv_at hl 3 rfl) ?_
      refine va_get (D := (dC, dI)) (ci := 9) (v := .ref h_next) (C := RX9) (T := TX9) (N := 4) hx hb hts inX9 hown hK hP 0 rfl rfl 3 (by decide) (hts _ (List.mem_cons_of_mem _ mw_116)) (fun _ h9 => h9) rfl dX9_joinBlock_69 ?_
      refine lv_iconst (v := 0) hx hb dX9_joinBlock_72 (by decide) ?_
      refine lv_aload_n hx hb dX9_joinBlock_73 rfl (lv_at hl 3 rfl) ?_
      refine va_get (D := (dC, dI)) (ci := 9) (v := .ref h_row) (C := RX9) (T := TX9) (N := 4) hx hb hts inX9 hown hK hP 0 rfl rfl 2 (by decide) (hts _ (List.mem_cons_of_mem _ mw_115)) (fun _ h9 => h9) rfl dX9_joinBlock_74 ?_
      refine lv_iconst (v := 0) hx hb dX9_joinBlock_77 (by decide) ?_
      refine lv_bipush (v := 8) hx hb dX9_joinBlock_78 (by decide) ?_
      refine xcopyi (k1 := 0) (k2 := 0) (k3 := 8) hx hb (by rw [hml]; exact hl.1.symm) hown (hts _ (List.mem_cons_of_mem _ mw_281)) (hts _ (List.mem_cons_of_mem _ mw_59)) (hts _ (List.mem_cons_of_mem _ mw_60)) (hts _ (List.mem_cons_of_mem _ mw_61)) hK hP hD hS 5 2 0 0 rfl rfl rfl rfl rfl (by decide) (by decide) (by decide) (by decide) (by decide) (fun _ _ => rfl) (Nat.le_of_ble_eq_true rfl) (Nat.le_of_ble_eq_true rfl) (by decide) (by decide) (by decide) dX9_joinBlock_80 ?_; clear hP hD hS; clear H locs; intro f25 e_f25 H locs hP hD hS
      replace hw := hw f25 e_f25
      clear e_f25
      replace hP : va_P (dC, dI) vwCl (w_X9_joinBlock h0 h_memoriesA h_memoriesB h_row h_next k1 k3 cy n_p1 n_p3 p1 f25 f21 f22 f23 p3) H := hP
      replace hD : va_D A (w_X9_joinBlock h0 h_memoriesA h_memoriesB h_row h_next k1 k3 cy n_p1 n_p3 p1 f25 f21 f22 f23 p3) := hD
      refine lv_iinc (v := x7 + (-1)) (lv' := [(5, .int (x7 + (-1))), (7, .int x20), (6, .int x16), (0, .ref h0), (3, .ref k3), (4, .int v4)]) hx hb dX9_joinBlock_83 hl (k := 2) rfl rfl (by decide) rfl ?_; clear hl; clear ls; intro ls hl
      refine lv_goto (tgt := 15) hx hb dX9_joinBlock_86 (by decide) ?_
      exact ih6 (x7 + (-1)) f25 f21 f22 f23 hw H locs ls hP hD hS (lv_sub hl [0, 3, 4, 5] rfl)
    · replace hw := hw.2 c24
      refine lv_aload_n hx hb dX9_joinBlock_36 rfl (lv_at hl 3 rfl) ?_
      refine lv_iload hx hb dX9_joinBlock_37 (lv_at hl 1 rfl) ?_
      refine lv_iconst (v := 1) hx hb dX9_joinBlock_39 (by decide) ?_
      refine lv_isub hx hb dX9_joinBlock_40 ?_
      refine lv_iload hx hb dX9_joinBlock_41 (lv_at hl 0 rfl) ?_
      refine lv_iadd hx hb dX9_joinBlock_43 ?_
      refine lv_iload hx hb dX9_joinBlock_44 (lv_at hl 0 rfl) ?_
      refine lv_bipush (v := 8) hx hb dX9_joinBlock_46 (by decide) ?_
      refine lv_imul hx hb dX9_joinBlock_48 ?_
      refine lv_iload hx hb dX9_joinBlock_49 (lv_at hl 1 rfl) ?_
      obtain ⟨h26, hw⟩ := hw
      refine lv_idiv hx hb dX9_joinBlock_51 h26 ?_
      refine lv_topi (fun x27 e_x27 => ?_)
      replace hw := hw x27 e_x27
      clear e_x27
      refine lv_bipush (v := 8) hx hb dX9_joinBlock_52 (by decide) ?_
      refine lv_iload hx hb dX9_joinBlock_54 (lv_at hl 1 rfl) ?_
      obtain ⟨h28, hw⟩ := hw
      refine lv_idiv hx hb dX9_joinBlock_56 h28 ?_
      refine lv_topi (fun x29 e_x29 => ?_)
      replace hw := hw x29 e_x29
      clear e_x29
      refine lv_iconst (v := 2) hx hb dX9_joinBlock_57 (by decide) ?_
      refine lv_idiv hx hb dX9_joinBlock_58 (by decide) ?_
      refine lv_topi (fun x30 e_x30 => ?_)
      replace hw := hw x30 e_x30
      clear e_x30
      have hPc := pSub (ws' := (w_X9_joinRow h0 h_memoriesA h_memoriesB h_row h_next cy f8 f21 f22 f23)) hP [0, 2, 3, 4, 5] rfl
      have hDc := dSub (ws' := (w_X9_joinRow h0 h_memoriesA h_memoriesB h_row h_next cy f8 f21 f22 f23)) hD [0, 2, 3, 4, 5] (by decide) rfl
      have hFc := va_free (wc := (w_X9_joinRow h0 h_memoriesA h_memoriesB h_row h_next cy f8 f21 f22 f23)) hD hS hA [0, 2, 3, 4, 5] rfl
      refine va_callv (va_runV (As := [.int ((x16 - (1 : Int32)) + x20), .int x27, .int x30]) (rest := []) ⟨hx, hb, hml, hown, hts⟩ (c_X9_joinRow l dC dI cy h0 h_memoriesA h_memoriesB h_row h_next H.size ((x16 - (1 : Int32)) + x20) x27 x30 f8 f21 f22 f23 _ hw) (cwV 3 hts (goodV mw_534 mw_531 mw_532 mw_533 mw_28) rfl rfl rfl (by decide +kernel) ⟨Nat.le_of_ble_eq_true rfl, Nat.le_of_ble_eq_true rfl⟩) ⟨PX_blind, va_recv hK hPc (ci := 9) (q0 := 0) rfl rfl, PX_pre hPc hK hDc hG⟩ rfl rfl hl.1 rfl (lv_room (Nat.le_of_ble_eq_true rfl)) dX9_joinBlock_59 ⟨Nat.zero_le _, Nat.zero_le _⟩) hS (fun q _ h => hFc q h) hFc ?_; clear hw hS; intro u t H1 locs1 ht hvm hw hB hz1 hk1 hS
      obtain ⟨f31, f32, f33⟩ := u
      try dsimp only at hw
      obtain ⟨hP1, -, -⟩ := hB
      rw [ht] at hP1
      replace hP := jC0 hP hD [0, 2, 3, 4, 5] [1, 6] rfl hk1 hP1 (w_X9_joinBlock h0 h_memoriesA h_memoriesB h_row h_next k1 k3 cy n_p1 n_p3 p1 f8 f31 f32 f33 p3) rfl rfl rfl 7 rfl (by decide +kernel); clear hD; obtain ⟨hP, hD⟩ := hP
      replace hP : va_P (dC, dI) vwCl (w_X9_joinBlock h0 h_memoriesA h_memoriesB h_row h_next k1 k3 cy n_p1 n_p3 p1 f8 f31 f32 f33 p3) H1 := hP
      replace hD : va_D A (w_X9_joinBlock h0 h_memoriesA h_memoriesB h_row h_next k1 k3 cy n_p1 n_p3 p1 f8 f31 f32 f33 p3) := hD
      clear hPc hDc hFc hP1 hk1 hz1 hvm ht; clear t; clear H locs; obtain ⟨H, hH⟩ : ∃ H, H = H1 := ⟨_, rfl⟩; obtain ⟨locs, hlo⟩ : ∃ L, L = locs1 := ⟨_, rfl⟩; subst hH; subst hlo
      refine W.widen (k := 0) (n := 0) (Nat.le_refl 0) (Nat.le_refl 0) ?_
      refine lv_iinc (v := x20 + 1) (lv' := [(7, .int (x20 + 1)), (6, .int x16), (5, .int x7), (0, .ref h0), (3, .ref k3), (4, .int v4)]) hx hb dX9_joinBlock_62 hl (k := 0) rfl rfl (by decide) rfl ?_; clear hl; clear ls; intro ls hl
      refine lv_goto (tgt := 29) hx hb dX9_joinBlock_65 (by decide) ?_
      exact ih19 (x20 + 1) f31 f32 f33 hw H locs ls hP hD hS (lv_sub hl [0, 1, 2, 3, 4, 5] rfl)
set_option maxHeartbeats 4000000 in
set_option maxRecDepth 100000 in
theorem c_X3_hearBands (l : Launch) (dC : Nat → ClassId) (dI : Nat → Nat → Nat) (cy : Nat → ClassId) (h0 h_tree h_row h_made h_fresh h_tree_memoriesA h_tree_memoriesB h_tree_row h_tree_next k1 : Nat) (n_p1 : Nat) (sz : Nat) (v2 : Int32) (c_lag : Int32) (c_lagSum : Int32) (p1 : Nat → Int32) (c_tree_row : Nat → Int32) (c_tree_memoriesB : Nat → Int32) (c_tree_memoriesA : Nat → Int32) (c_tree_next : Nat → Int32) (c_fresh : Nat → Int32) (post : (Nat → Int32) → (Nat → Int32) → (Nat → Int32) → (Nat → Int32) → (Nat → Int32) → Prop) (hw : wp_X3_hearBands n_p1 v2 p1 c_tree_row c_tree_memoriesB c_tree_memoriesA c_tree_next c_fresh post) : Met l yX3_hearBands wsX3_hearBands ({ frames := 2, cells := 0, slots := 0, locals := 67 }) (PX dC dI cy [.ref h0, .ref k1, .int v2] sz (w_X3_hearBands h0 h_tree h_row h_made h_fresh h_tree_memoriesA h_tree_memoriesB h_tree_row h_tree_next k1 cy n_p1 c_lag c_lagSum p1 c_tree_row c_tree_memoriesB c_tree_memoriesA c_tree_next c_fresh)) (va_Qv (fun (u : (Nat → Int32) × (Nat → Int32) × (Nat → Int32) × (Nat → Int32) × (Nat → Int32)) => post u.1 u.2.1 u.2.2.1 u.2.2.2.1 u.2.2.2.2) (QX dC dI cy (va_A (w_X3_hearBands h0 h_tree h_row h_made h_fresh h_tree_memoriesA h_tree_memoriesB h_tree_row h_tree_next k1 cy n_p1 c_lag c_lagSum p1 c_tree_row c_tree_memoriesB c_tree_memoriesA c_tree_next c_fresh) sz) (fun (u : (Nat → Int32) × (Nat → Int32) × (Nat → Int32) × (Nat → Int32) × (Nat → Int32)) => w_X3_hearBands h0 h_tree h_row h_made h_fresh h_tree_memoriesA h_tree_memoriesB h_tree_row h_tree_next k1 cy n_p1 c_lag c_lagSum p1 u.1 u.2.1 u.2.2.1 u.2.2.2.1 u.2.2.2.2)) (va_A (w_X3_hearBands h0 h_tree h_row h_made h_fresh h_tree_memoriesA h_tree_memoriesB h_tree_row h_tree_next k1 cy n_p1 c_lag c_lagSum p1 c_tree_row c_tree_memoriesB c_tree_memoriesA c_tree_next c_fresh) sz)) 0 0 (va_A (w_X3_hearBands h0 h_tree h_row h_made h_fresh h_tree_memoriesA h_tree_memoriesB h_tree_row h_tree_next k1 cy n_p1 c_lag c_lagSum p1 c_tree_row c_tree_memoriesB c_tree_memoriesA c_tree_next c_fresh) sz) := by
  refine Met.ofW (cc := cX3_hearBands) (maxL := 4) (ret := none) (by decide) rfl ?_
  intro p e s m args below meth c s₁ B hml hv
  obtain ⟨rfl, hsz, hP, hK, hD0, hG⟩ := hv
  have hx := B.exec
  have hb := B.bytes
  have hr := B.returns
  have hts := atoms_spec (ws := wsX3_hearBands) B.pre
  have hown : s.vm.findClass RX3 = some m.cls := findClass_of_methodNamed B.named
  have hlocks := B.notSynchronized
  subst hsz
  have hD := hD0.self (sz := s.heap.size)
  generalize hAe : va_A (w_X3_hearBands h0 h_tree h_row h_made h_fresh h_tree_memoriesA h_tree_memoriesB h_tree_row h_tree_next k1 cy n_p1 c_lag c_lagSum p1 c_tree_row c_tree_memoriesB c_tree_memoriesA c_tree_next c_fresh) s.heap.size = A at hD ⊢
  have hA : ∀ q : Nat, s.heap.size ≤ q → A q := fun q h => by rw [← hAe]; exact Or.inr h
  have hS : va_S A s.heap s.heap [] := va_S.rf
  have hl := lv_entry ([.ref h0, .ref k1, .int v2]) (n := 4) (Nat.le_of_ble_eq_true rfl)
  rw [lg_entry_eq]
  generalize (lg_sl ([.ref h0, .ref k1, .int v2]) ++ List.replicate (4 - (lg_sl ([.ref h0, .ref k1, .int v2])).length) Slot.unset).toArray = ls at hl ⊢
  replace hl : lv_has ls 4 [(0, .ref h0), (1, .ref k1), (2, .int v2)] := hl
  have inX3 : ∀ w ∈ u_ws RX3 TX3 6, w ∈ wsX3_hearBands := fun w h => List.mem_cons_of_mem _ (inlX3 w h)
  clear hAe hD0 B
  unfold wp_X3_hearBands at hw
  generalize hQe : MQ below _ _ s _ _ _ = Q0
  generalize ([.ref h0, .ref k1, .int v2] : List Value).toArray = av at *
  obtain ⟨H, hH⟩ : ∃ H, H = s.heap := ⟨_, rfl⟩
  obtain ⟨locs, hlo⟩ : ∃ L : List Loc, L = [] := ⟨_, rfl⟩
  replace hP : va_P (dC, dI) vwCl (w_X3_hearBands h0 h_tree h_row h_made h_fresh h_tree_memoriesA h_tree_memoriesB h_tree_row h_tree_next k1 cy n_p1 c_lag c_lagSum p1 c_tree_row c_tree_memoriesB c_tree_memoriesA c_tree_next c_fresh) H := by rw [hH]; exact hP
  replace hS : va_S A s.heap H locs := by rw [hH, hlo]; exact hS
  suffices hgo : W p l e ({ frames := 2, cells := 0, slots := 0, locals := 67 }) s m av below meth c H locs 0 0 Q0 (F0 m 0 ls []) by rw [hH, hlo] at hgo; exact hgo
  clear hH hlo
  refine lv_iconst (v := 0) hx hb dX3_hearBands_0 (by decide) ?_
  refine lv_istore_n (lv' := [(3, .int (0 : Int32)), (0, .ref h0), (1, .ref k1), (2, .int v2)]) hx hb dX3_hearBands_1 rfl hl (by decide) rfl ?_; clear hl; clear ls; intro ls hl
  obtain ⟨x1, e_x1⟩ : ∃ y : Int32, y = (0 : Int32) := ⟨_, rfl⟩
  replace hw := hw x1 e_x1
  replace hl : lv_has ls 4 [(3, .int x1), (0, .ref h0), (1, .ref k1), (2, .int v2)] := by rw [e_x1]; exact hl
  clear e_x1
  replace hl := lv_sub (l' := [(3, .int x1), (0, .ref h0), (1, .ref k1), (2, .int v2)]) hl [0, 1, 2, 3] rfl
  revert hl; revert hS; revert hD; revert hP; revert ls; revert locs; revert H
  revert hw; revert c_fresh; revert c_tree_next; revert c_tree_memoriesA; revert c_tree_memoriesB; revert c_tree_row; revert x1
  refine Lz6_gr ?_; intro g2 ih3 x4 f5 f6 f7 f8 f9 hw
  intro H locs ls hP hD hS hl
  refine lv_iload_n hx hb dX3_hearBands_2 rfl (lv_at hl 0 rfl) ?_
  refine lv_iconst (v := 4) hx hb dX3_hearBands_3 (by decide) ?_
  refine lv_icmp_ge (tgt := 38) hx hb dX3_hearBands_4 (by decide) (fun c10 => ?_) (fun c10 => ?_)
  · replace hw := hw.1 c10
    clear ih3
    refine lv_iconst (v := 0) hx hb dX3_hearBands_38 (by decide) ?_
    refine lv_istore_n (lv' := [(3, .int (0 : Int32)), (0, .ref h0), (1, .ref k1), (2, .int v2)]) hx hb dX3_hearBands_39 rfl hl (by decide) rfl ?_; clear hl; clear ls; intro ls hl
    obtain ⟨x11, e_x11⟩ : ∃ y : Int32, y = (0 : Int32) := ⟨_, rfl⟩
    replace hw := hw x11 e_x11
    replace hl : lv_has ls 4 [(3, .int x11), (0, .ref h0), (1, .ref k1), (2, .int v2)] := by rw [e_x11]; exact hl
    clear e_x11
    replace hl := lv_sub (l' := [(3, .int x11), (0, .ref h0)]) hl [0, 1] rfl
    revert hl; revert hS; revert hD; revert hP; revert ls; revert locs; revert H
    revert hw; revert f9; revert x11
    refine Lz2_gr ?_; intro g12 ih13 x14 f15 hw
    intro H locs ls hP hD hS hl
    refine lv_iload_n hx hb dX3_hearBands_40 rfl (lv_at hl 0 rfl) ?_
    refine lv_bipush (v := 32) hx hb dX3_hearBands_41 (by decide) ?_
    refine lv_icmp_ge (tgt := 67) hx hb dX3_hearBands_43 (by decide) (fun c16 => ?_) (fun c16 => ?_)
    · replace hw := hw.1 c16
      clear ih13
      subst hQe
      exact W.vret hx hb hr (fun t ht hW => ⟨⟨(f5, f6, f7, f8, f15), rfl, hw, by rw [ht]; exact hP, va_K.moved hW.alike hK, hD⟩, hS.F ht⟩) hS.2.2 dX3_hearBands_67
    · replace hw := hw.2 c16
      refine lv_aload_n hx hb dX3_hearBands_46 rfl (lv_at hl 1 rfl) ?_
      refine va_get (D := (dC, dI)) (ci := 3) (v := .ref h_fresh) (C := RX3) (T := TX3) (N := 6) hx hb hts inX3 hown hK hP 0 rfl rfl 3 (by decide) (hts _ (List.mem_cons_of_mem _ mw_162)) (fun _ h9 => h9) rfl dX3_hearBands_47 ?_
      refine lv_iload_n hx hb dX3_hearBands_50 rfl (lv_at hl 0 rfl) ?_
      refine lv_aload_n hx hb dX3_hearBands_51 rfl (lv_at hl 1 rfl) ?_
      refine va_get (D := (dC, dI)) (ci := 3) (v := .ref h_fresh) (C := RX3) (T := TX3) (N := 6) hx hb hts inX3 hown hK hP 0 rfl rfl 3 (by decide) (hts _ (List.mem_cons_of_mem _ mw_162)) (fun _ h9 => h9) rfl dX3_hearBands_52 ?_
      refine lv_iload_n hx hb dX3_hearBands_55 rfl (lv_at hl 0 rfl) ?_
      obtain ⟨h17, hw⟩ := hw
      refine xiald (k := x14.toNatClampNeg) hx hb hK hP 7 0 rfl rfl h17 rfl dX3_hearBands_56 ?_
      have hPc := pSub (ws' := (w_X11_nearestSample cy)) hP [] rfl
      have hDc := dSub (ws' := (w_X11_nearestSample cy)) hD [] (by decide) rfl
      have hFc := va_free (wc := (w_X11_nearestSample cy)) hD hS hA [] rfl
      refine va_calli (va_runSN (As := [.int (f15 x14.toNatClampNeg)]) (rest := [.int x14, .ref h_fresh]) ⟨hx, hb, hml, hown, hts⟩ (c_X11_nearestSample l dC dI cy  H.size (f15 x14.toNatClampNeg) _ hw) ⟨va_cnB 1 hts (goodG mw_273) rfl rfl rfl (hG.1 ("HeadsetBands$Ear", 68, ⟨"HeadsetBands", "nearestSample", "(I)I"⟩, "HeadsetBands") (by decide +kernel)) (hts _ (List.mem_cons_of_mem _ mw_2)) (by decide +kernel) ⟨Nat.le_of_ble_eq_true rfl, Nat.le_of_ble_eq_true rfl⟩, (hts _ (List.mem_cons_of_mem _ mw_272)), trivial⟩ ⟨PX_blind, PX_pre hPc hK hDc hG⟩ rfl rfl hl.1 rfl (lv_room (Nat.le_of_ble_eq_true rfl)) dX3_hearBands_57 ⟨Nat.zero_le _, Nat.zero_le _⟩) hS (fun q _ h => hFc q h) hFc ?_; clear hw hS; intro r18 _ t H1 locs1 ht hvm hw hB hz1 hk1 hS
      obtain ⟨hP1, -, -⟩ := hB
      rw [ht] at hP1
      replace hP := jC0 hP hD [] [0, 1, 2, 3, 4, 5, 6, 7] rfl hk1 hP1 (w_X3_hearBands h0 h_tree h_row h_made h_fresh h_tree_memoriesA h_tree_memoriesB h_tree_row h_tree_next k1 cy n_p1 c_lag c_lagSum p1 f5 f6 f7 f8 f15) rfl rfl rfl 8 rfl (by decide +kernel); clear hD; obtain ⟨hP, hD⟩ := hP
      replace hP : va_P (dC, dI) vwCl (w_X3_hearBands h0 h_tree h_row h_made h_fresh h_tree_memoriesA h_tree_memoriesB h_tree_row h_tree_next k1 cy n_p1 c_lag c_lagSum p1 f5 f6 f7 f8 f15) H1 := hP
      replace hD : va_D A (w_X3_hearBands h0 h_tree h_row h_made h_fresh h_tree_memoriesA h_tree_memoriesB h_tree_row h_tree_next k1 cy n_p1 c_lag c_lagSum p1 f5 f6 f7 f8 f15) := hD
      clear hPc hDc hFc hP1 hk1 hz1 hvm ht; clear t; clear H locs; obtain ⟨H, hH⟩ : ∃ H, H = H1 := ⟨_, rfl⟩; obtain ⟨locs, hlo⟩ : ∃ L, L = locs1 := ⟨_, rfl⟩; subst hH; subst hlo
      refine W.widen (k := 0) (n := 0) (Nat.le_refl 0) (Nat.le_refl 0) ?_
      obtain ⟨h19, hw⟩ := hw
      refine xiast (k := x14.toNatClampNeg) hx hb hK hP hD hS 7 0 rfl rfl h19 rfl dX3_hearBands_60 ?_; clear hP hD hS; clear H locs; intro f20 e_f20 H locs hP hD hS
      replace hw := hw f20 e_f20
      clear e_f20
      replace hP : va_P (dC, dI) vwCl (w_X3_hearBands h0 h_tree h_row h_made h_fresh h_tree_memoriesA h_tree_memoriesB h_tree_row h_tree_next k1 cy n_p1 c_lag c_lagSum p1 f5 f6 f7 f8 f20) H := hP
      replace hD : va_D A (w_X3_hearBands h0 h_tree h_row h_made h_fresh h_tree_memoriesA h_tree_memoriesB h_tree_row h_tree_next k1 cy n_p1 c_lag c_lagSum p1 f5 f6 f7 f8 f20) := hD
      refine lv_iinc (v := x14 + 1) (lv' := [(3, .int (x14 + 1)), (0, .ref h0)]) hx hb dX3_hearBands_61 hl (k := 0) rfl rfl (by decide) rfl ?_; clear hl; clear ls; intro ls hl
      refine lv_goto (tgt := 40) hx hb dX3_hearBands_64 (by decide) ?_
      exact ih13 (x14 + 1) f20 hw H locs ls hP hD hS (lv_sub hl [0, 1] rfl)
  · replace hw := hw.2 c10
    refine lv_aload_n hx hb dX3_hearBands_7 rfl (lv_at hl 1 rfl) ?_
    refine va_get (D := (dC, dI)) (ci := 3) (v := .ref h_tree) (C := RX3) (T := TX3) (N := 6) hx hb hts inX3 hown hK hP 0 rfl rfl 0 (by decide) (hts _ (List.mem_cons_of_mem _ mw_159)) (fun _ h9 => h9) rfl dX3_hearBands_8 ?_
    refine lv_aload_n hx hb dX3_hearBands_11 rfl (lv_at hl 2 rfl) ?_
    refine lv_bipush (v := 16) hx hb dX3_hearBands_12 (by decide) ?_
    refine lv_iload_n hx hb dX3_hearBands_14 rfl (lv_at hl 0 rfl) ?_
    refine lv_imul hx hb dX3_hearBands_15 ?_
    refine lv_bipush (v := 8) hx hb dX3_hearBands_16 (by decide) ?_
    refine lv_iload_n hx hb dX3_hearBands_18 rfl (lv_at hl 3 rfl) ?_
    refine lv_imul hx hb dX3_hearBands_19 ?_
    refine lv_iadd hx hb dX3_hearBands_20 ?_
    refine lv_aload_n hx hb dX3_hearBands_21 rfl (lv_at hl 1 rfl) ?_
    refine va_get (D := (dC, dI)) (ci := 3) (v := .ref h_fresh) (C := RX3) (T := TX3) (N := 6) hx hb hts inX3 hown hK hP 0 rfl rfl 3 (by decide) (hts _ (List.mem_cons_of_mem _ mw_162)) (fun _ h9 => h9) rfl dX3_hearBands_22 ?_
    refine lv_bipush (v := 8) hx hb dX3_hearBands_25 (by decide) ?_
    refine lv_iload_n hx hb dX3_hearBands_27 rfl (lv_at hl 0 rfl) ?_
    refine lv_imul hx hb dX3_hearBands_28 ?_
    have hPc := pSub (ws' := (w_X9_joinBlock h_tree h_tree_memoriesA h_tree_memoriesB h_tree_row h_tree_next k1 h_fresh cy n_p1 32 p1 f5 f6 f7 f8 f9)) hP [1, 2, 3, 4, 5, 6, 7] rfl
    have hDc := dSub (ws' := (w_X9_joinBlock h_tree h_tree_memoriesA h_tree_memoriesB h_tree_row h_tree_next k1 h_fresh cy n_p1 32 p1 f5 f6 f7 f8 f9)) hD [1, 2, 3, 4, 5, 6, 7] (by decide) rfl
    have hFc := va_free (wc := (w_X9_joinBlock h_tree h_tree_memoriesA h_tree_memoriesB h_tree_row h_tree_next k1 h_fresh cy n_p1 32 p1 f5 f6 f7 f8 f9)) hD hS hA [1, 2, 3, 4, 5, 6, 7] rfl
    refine va_callv (va_runV (As := [.ref k1, .int (((16 : Int32) * x4) + ((8 : Int32) * v2)), .ref h_fresh, .int ((8 : Int32) * x4)]) (rest := []) ⟨hx, hb, hml, hown, hts⟩ (c_X9_joinBlock l dC dI cy h_tree h_tree_memoriesA h_tree_memoriesB h_tree_row h_tree_next k1 h_fresh n_p1 32 H.size (((16 : Int32) * x4) + ((8 : Int32) * v2)) ((8 : Int32) * x4) p1 f5 f6 f7 f8 f9 _ hw) (cwV 4 hts (goodV mw_530 mw_527 mw_528 mw_529 mw_28) rfl rfl rfl (by decide +kernel) ⟨Nat.le_of_ble_eq_true rfl, Nat.le_of_ble_eq_true rfl⟩) ⟨PX_blind, va_recv hK hPc (ci := 9) (q0 := 0) rfl rfl, PX_pre hPc hK hDc hG⟩ rfl rfl hl.1 rfl (lv_room (Nat.le_of_ble_eq_true rfl)) dX3_hearBands_29 ⟨Nat.zero_le _, Nat.zero_le _⟩) hS (fun q _ h => hFc q h) hFc ?_; clear hw hS; intro u t H1 locs1 ht hvm hw hB hz1 hk1 hS
    obtain ⟨f21, f22, f23, f24, f25⟩ := u
    try dsimp only at hw
    obtain ⟨hP1, -, -⟩ := hB
    rw [ht] at hP1
    replace hP := jC0 hP hD [1, 2, 3, 4, 5, 6, 7] [0] rfl hk1 hP1 (w_X3_hearBands h0 h_tree h_row h_made h_fresh h_tree_memoriesA h_tree_memoriesB h_tree_row h_tree_next k1 cy n_p1 c_lag c_lagSum p1 f21 f22 f23 f24 f25) rfl rfl rfl 8 rfl (by decide +kernel); clear hD; obtain ⟨hP, hD⟩ := hP
    replace hP : va_P (dC, dI) vwCl (w_X3_hearBands h0 h_tree h_row h_made h_fresh h_tree_memoriesA h_tree_memoriesB h_tree_row h_tree_next k1 cy n_p1 c_lag c_lagSum p1 f21 f22 f23 f24 f25) H1 := hP
    replace hD : va_D A (w_X3_hearBands h0 h_tree h_row h_made h_fresh h_tree_memoriesA h_tree_memoriesB h_tree_row h_tree_next k1 cy n_p1 c_lag c_lagSum p1 f21 f22 f23 f24 f25) := hD
    clear hPc hDc hFc hP1 hk1 hz1 hvm ht; clear t; clear H locs; obtain ⟨H, hH⟩ : ∃ H, H = H1 := ⟨_, rfl⟩; obtain ⟨locs, hlo⟩ : ∃ L, L = locs1 := ⟨_, rfl⟩; subst hH; subst hlo
    refine W.widen (k := 0) (n := 0) (Nat.le_refl 0) (Nat.le_refl 0) ?_
    refine lv_iinc (v := x4 + 1) (lv' := [(3, .int (x4 + 1)), (0, .ref h0), (1, .ref k1), (2, .int v2)]) hx hb dX3_hearBands_32 hl (k := 0) rfl rfl (by decide) rfl ?_; clear hl; clear ls; intro ls hl
    refine lv_goto (tgt := 2) hx hb dX3_hearBands_35 (by decide) ?_
    exact ih3 (x4 + 1) f21 f22 f23 f24 f25 hw H locs ls hP hD hS (lv_sub hl [0, 1, 2, 3] rfl)
set_option maxHeartbeats 4000000 in
set_option maxRecDepth 100000 in
theorem c_X3_blendWithMade (l : Launch) (dC : Nat → ClassId) (dI : Nat → Nat → Nat) (cy : Nat → ClassId) (h0 h_tree h_row h_made h_fresh : Nat) (sz : Nat) (c_lag : Int32) (c_lagSum : Int32) (c_made : Nat → Int32) (c_fresh : Nat → Int32) (post : (Nat → Int32) → Prop) (hw : wp_X3_blendWithMade c_made c_fresh post) : Met l yX3_blendWithMade wsX3_blendWithMade ({ frames := 0, cells := 0, slots := 0, locals := 0 }) (PX dC dI cy [.ref h0] sz (w_X3_blendWithMade h0 h_tree h_row h_made h_fresh cy c_lag c_lagSum c_made c_fresh)) (va_Qv (fun (u : (Nat → Int32)) => post u) (QX dC dI cy (va_A (w_X3_blendWithMade h0 h_tree h_row h_made h_fresh cy c_lag c_lagSum c_made c_fresh) sz) (fun (u : (Nat → Int32)) => w_X3_blendWithMade h0 h_tree h_row h_made h_fresh cy c_lag c_lagSum c_made u)) (va_A (w_X3_blendWithMade h0 h_tree h_row h_made h_fresh cy c_lag c_lagSum c_made c_fresh) sz)) 0 0 (va_A (w_X3_blendWithMade h0 h_tree h_row h_made h_fresh cy c_lag c_lagSum c_made c_fresh) sz) := by
  refine Met.ofW (cc := cX3_blendWithMade) (maxL := 2) (ret := none) (by decide) rfl ?_
  intro p e s m args below meth c s₁ B hml hv
  obtain ⟨rfl, hsz, hP, hK, hD0, hG⟩ := hv
  have hx := B.exec
  have hb := B.bytes
  have hr := B.returns
  have hts := atoms_spec (ws := wsX3_blendWithMade) B.pre
  have hown : s.vm.findClass RX3 = some m.cls := findClass_of_methodNamed B.named
  have hlocks := B.notSynchronized
  subst hsz
  have hD := hD0.self (sz := s.heap.size)
  generalize hAe : va_A (w_X3_blendWithMade h0 h_tree h_row h_made h_fresh cy c_lag c_lagSum c_made c_fresh) s.heap.size = A at hD ⊢
  have hA : ∀ q : Nat, s.heap.size ≤ q → A q := fun q h => by rw [← hAe]; exact Or.inr h
  have hS : va_S A s.heap s.heap [] := va_S.rf
  have hl := lv_entry ([.ref h0]) (n := 2) (Nat.le_of_ble_eq_true rfl)
  rw [lg_entry_eq]
  generalize (lg_sl ([.ref h0]) ++ List.replicate (2 - (lg_sl ([.ref h0])).length) Slot.unset).toArray = ls at hl ⊢
  replace hl : lv_has ls 2 [(0, .ref h0)] := hl
  have inX3 : ∀ w ∈ u_ws RX3 TX3 6, w ∈ wsX3_blendWithMade := fun w h => List.mem_cons_of_mem _ (inlX3 w h)
  clear hAe hD0 B
  unfold wp_X3_blendWithMade at hw
  generalize hQe : MQ below _ _ s _ _ _ = Q0
  generalize ([.ref h0] : List Value).toArray = av at *
  obtain ⟨H, hH⟩ : ∃ H, H = s.heap := ⟨_, rfl⟩
  obtain ⟨locs, hlo⟩ : ∃ L : List Loc, L = [] := ⟨_, rfl⟩
  replace hP : va_P (dC, dI) vwCl (w_X3_blendWithMade h0 h_tree h_row h_made h_fresh cy c_lag c_lagSum c_made c_fresh) H := by rw [hH]; exact hP
  replace hS : va_S A s.heap H locs := by rw [hH, hlo]; exact hS
  suffices hgo : W p l e ({ frames := 0, cells := 0, slots := 0, locals := 0 }) s m av below meth c H locs 0 0 Q0 (F0 m 0 ls []) by rw [hH, hlo] at hgo; exact hgo
  clear hH hlo
  refine lv_iconst (v := 0) hx hb dX3_blendWithMade_0 (by decide) ?_
  refine lv_istore_n (lv' := [(1, .int (0 : Int32)), (0, .ref h0)]) hx hb dX3_blendWithMade_1 rfl hl (by decide) rfl ?_; clear hl; clear ls; intro ls hl
  obtain ⟨x1, e_x1⟩ : ∃ y : Int32, y = (0 : Int32) := ⟨_, rfl⟩
  replace hw := hw x1 e_x1
  replace hl : lv_has ls 2 [(1, .int x1), (0, .ref h0)] := by rw [e_x1]; exact hl
  clear e_x1
  replace hl := lv_sub (l' := [(1, .int x1), (0, .ref h0)]) hl [0, 1] rfl
  revert hl; revert hS; revert hD; revert hP; revert ls; revert locs; revert H
  revert hw; revert c_fresh; revert x1
  refine Lz2_gr ?_; intro g2 ih3 x4 f5 hw
  intro H locs ls hP hD hS hl
  refine lv_iload_n hx hb dX3_blendWithMade_2 rfl (lv_at hl 0 rfl) ?_
  refine lv_bipush (v := 8) hx hb dX3_blendWithMade_3 (by decide) ?_
  refine lv_icmp_ge (tgt := 42) hx hb dX3_blendWithMade_5 (by decide) (fun c6 => ?_) (fun c6 => ?_)
  · replace hw := hw.1 c6
    clear ih3
    subst hQe
    exact W.vret hx hb hr (fun t ht hW => ⟨⟨f5, rfl, hw, by rw [ht]; exact hP, va_K.moved hW.alike hK, hD⟩, hS.F ht⟩) hS.2.2 dX3_blendWithMade_42
  · replace hw := hw.2 c6
    refine lv_aload_n hx hb dX3_blendWithMade_8 rfl (lv_at hl 1 rfl) ?_
    refine va_get (D := (dC, dI)) (ci := 3) (v := .ref h_fresh) (C := RX3) (T := TX3) (N := 6) hx hb hts inX3 hown hK hP 0 rfl rfl 3 (by decide) (hts _ (List.mem_cons_of_mem _ mw_162)) (fun _ h9 => h9) rfl dX3_blendWithMade_9 ?_
    refine lv_iload_n hx hb dX3_blendWithMade_12 rfl (lv_at hl 0 rfl) ?_
    refine lv_bipush (v := 8) hx hb dX3_blendWithMade_13 (by decide) ?_
    refine lv_iload_n hx hb dX3_blendWithMade_15 rfl (lv_at hl 0 rfl) ?_
    refine lv_isub hx hb dX3_blendWithMade_16 ?_
    refine lv_aload_n hx hb dX3_blendWithMade_17 rfl (lv_at hl 1 rfl) ?_
    refine va_get (D := (dC, dI)) (ci := 3) (v := .ref h_made) (C := RX3) (T := TX3) (N := 6) hx hb hts inX3 hown hK hP 0 rfl rfl 2 (by decide) (hts _ (List.mem_cons_of_mem _ mw_161)) (fun _ h9 => h9) rfl dX3_blendWithMade_18 ?_
    refine lv_iload_n hx hb dX3_blendWithMade_21 rfl (lv_at hl 0 rfl) ?_
    obtain ⟨h7, hw⟩ := hw
    refine xiald (k := x4.toNatClampNeg) hx hb hK hP 1 0 rfl rfl h7 rfl dX3_blendWithMade_22 ?_
    refine lv_imul hx hb dX3_blendWithMade_23 ?_
    refine lv_iload_n hx hb dX3_blendWithMade_24 rfl (lv_at hl 0 rfl) ?_
    refine lv_aload_n hx hb dX3_blendWithMade_25 rfl (lv_at hl 1 rfl) ?_
    refine va_get (D := (dC, dI)) (ci := 3) (v := .ref h_fresh) (C := RX3) (T := TX3) (N := 6) hx hb hts inX3 hown hK hP 0 rfl rfl 3 (by decide) (hts _ (List.mem_cons_of_mem _ mw_162)) (fun _ h9 => h9) rfl dX3_blendWithMade_26 ?_
    refine lv_iload_n hx hb dX3_blendWithMade_29 rfl (lv_at hl 0 rfl) ?_
    obtain ⟨h8, hw⟩ := hw
    refine xiald (k := x4.toNatClampNeg) hx hb hK hP 2 0 rfl rfl h8 rfl dX3_blendWithMade_30 ?_
    refine lv_imul hx hb dX3_blendWithMade_31 ?_
    refine lv_iadd hx hb dX3_blendWithMade_32 ?_
    refine lv_iconst (v := 3) hx hb dX3_blendWithMade_33 (by decide) ?_
    refine lv_ishr hx hb dX3_blendWithMade_34 ?_
    obtain ⟨h9, hw⟩ := hw
    refine xiast (k := x4.toNatClampNeg) hx hb hK hP hD hS 2 0 rfl rfl h9 rfl dX3_blendWithMade_35 ?_; clear hP hD hS; clear H locs; intro f10 e_f10 H locs hP hD hS
    replace hw := hw f10 e_f10
    clear e_f10
    replace hP : va_P (dC, dI) vwCl (w_X3_blendWithMade h0 h_tree h_row h_made h_fresh cy c_lag c_lagSum c_made f10) H := hP
    replace hD : va_D A (w_X3_blendWithMade h0 h_tree h_row h_made h_fresh cy c_lag c_lagSum c_made f10) := hD
    refine lv_iinc (v := x4 + 1) (lv' := [(1, .int (x4 + 1)), (0, .ref h0)]) hx hb dX3_blendWithMade_36 hl (k := 0) rfl rfl (by decide) rfl ?_; clear hl; clear ls; intro ls hl
    refine lv_goto (tgt := 2) hx hb dX3_blendWithMade_39 (by decide) ?_
    exact ih3 (x4 + 1) f10 hw H locs ls hP hD hS (lv_sub hl [0, 1] rfl)
set_option maxHeartbeats 4000000 in
set_option maxRecDepth 100000 in
theorem c_X3_keepSamples (l : Launch) (dC : Nat → ClassId) (dI : Nat → Nat → Nat) (cy : Nat → ClassId) (h0 h_tree h_row h_made h_fresh k1 : Nat) (n_p1 : Nat) (sz : Nat) (c_lag : Int32) (c_lagSum : Int32) (c_row : Nat → Int32) (p1 : Nat → Int32) (post : (Nat → Int32) → Prop) (hw : wp_X3_keepSamples n_p1 c_row p1 post) : Met l yX3_keepSamples wsX3_keepSamples ({ frames := 1, cells := 0, slots := 0, locals := 40 }) (PX dC dI cy [.ref h0, .ref k1] sz (w_X3_keepSamples h0 h_tree h_row h_made h_fresh k1 cy n_p1 c_lag c_lagSum c_row p1)) (va_Qv (fun (u : (Nat → Int32)) => post u) (QX dC dI cy (va_A (w_X3_keepSamples h0 h_tree h_row h_made h_fresh k1 cy n_p1 c_lag c_lagSum c_row p1) sz) (fun (u : (Nat → Int32)) => w_X3_keepSamples h0 h_tree h_row h_made h_fresh k1 cy n_p1 c_lag c_lagSum u p1)) (va_A (w_X3_keepSamples h0 h_tree h_row h_made h_fresh k1 cy n_p1 c_lag c_lagSum c_row p1) sz)) 0 0 (va_A (w_X3_keepSamples h0 h_tree h_row h_made h_fresh k1 cy n_p1 c_lag c_lagSum c_row p1) sz) := by
  refine Met.ofW (cc := cX3_keepSamples) (maxL := 2) (ret := none) (by decide) rfl ?_
  intro p e s m args below meth c s₁ B hml hv
  obtain ⟨rfl, hsz, hP, hK, hD0, hG⟩ := hv
  have hx := B.exec
  have hb := B.bytes
  have hr := B.returns
  have hts := atoms_spec (ws := wsX3_keepSamples) B.pre
  have hown : s.vm.findClass RX3 = some m.cls := findClass_of_methodNamed B.named
  have hlocks := B.notSynchronized
  subst hsz
  have hD := hD0.self (sz := s.heap.size)
  generalize hAe : va_A (w_X3_keepSamples h0 h_tree h_row h_made h_fresh k1 cy n_p1 c_lag c_lagSum c_row p1) s.heap.size = A at hD ⊢
  have hA : ∀ q : Nat, s.heap.size ≤ q → A q := fun q h => by rw [← hAe]; exact Or.inr h
  have hS : va_S A s.heap s.heap [] := va_S.rf
  have hl := lv_entry ([.ref h0, .ref k1]) (n := 2) (Nat.le_of_ble_eq_true rfl)
  rw [lg_entry_eq]
  generalize (lg_sl ([.ref h0, .ref k1]) ++ List.replicate (2 - (lg_sl ([.ref h0, .ref k1])).length) Slot.unset).toArray = ls at hl ⊢
  replace hl : lv_has ls 2 [(0, .ref h0), (1, .ref k1)] := hl
  have inX3 : ∀ w ∈ u_ws RX3 TX3 6, w ∈ wsX3_keepSamples := fun w h => List.mem_cons_of_mem _ (inlX3 w h)
  clear hAe hD0 B
  unfold wp_X3_keepSamples at hw
  generalize hQe : MQ below _ _ s _ _ _ = Q0
  generalize ([.ref h0, .ref k1] : List Value).toArray = av at *
  obtain ⟨H, hH⟩ : ∃ H, H = s.heap := ⟨_, rfl⟩
  obtain ⟨locs, hlo⟩ : ∃ L : List Loc, L = [] := ⟨_, rfl⟩
  replace hP : va_P (dC, dI) vwCl (w_X3_keepSamples h0 h_tree h_row h_made h_fresh k1 cy n_p1 c_lag c_lagSum c_row p1) H := by rw [hH]; exact hP
  replace hS : va_S A s.heap H locs := by rw [hH, hlo]; exact hS
  suffices hgo : W p l e ({ frames := 1, cells := 0, slots := 0, locals := 40 }) s m av below meth c H locs 0 0 Q0 (F0 m 0 ls []) by rw [hH, hlo] at hgo; exact hgo
  clear hH hlo
  refine lv_aload_n hx hb dX3_keepSamples_0 rfl (lv_at hl 0 rfl) ?_
  refine va_get (D := (dC, dI)) (ci := 3) (v := .ref h_row) (C := RX3) (T := TX3) (N := 6) hx hb hts inX3 hown hK hP 0 rfl rfl 1 (by decide) (hts _ (List.mem_cons_of_mem _ mw_160)) (fun _ h9 => h9) rfl dX3_keepSamples_1 ?_
  refine lv_bipush (v := 32) hx hb dX3_keepSamples_4 (by decide) ?_
  refine lv_aload_n hx hb dX3_keepSamples_6 rfl (lv_at hl 0 rfl) ?_
  refine va_get (D := (dC, dI)) (ci := 3) (v := .ref h_row) (C := RX3) (T := TX3) (N := 6) hx hb hts inX3 hown hK hP 0 rfl rfl 1 (by decide) (hts _ (List.mem_cons_of_mem _ mw_160)) (fun _ h9 => h9) rfl dX3_keepSamples_7 ?_
  refine lv_iconst (v := 0) hx hb dX3_keepSamples_10 (by decide) ?_
  refine lv_sipush (v := 160) hx hb dX3_keepSamples_11 (by decide) ?_
  refine xcopyi (k1 := 32) (k2 := 0) (k3 := 160) hx hb (by rw [hml]; exact hl.1.symm) hown (hts _ (List.mem_cons_of_mem _ mw_553)) (hts _ (List.mem_cons_of_mem _ mw_59)) (hts _ (List.mem_cons_of_mem _ mw_60)) (hts _ (List.mem_cons_of_mem _ mw_61)) hK hP hD hS 1 1 0 0 rfl rfl rfl rfl rfl (by decide) (by decide) (by decide) (by decide) (by decide) (fun _ _ => rfl) (Nat.le_of_ble_eq_true rfl) (Nat.le_of_ble_eq_true rfl) (by decide) (by decide) (by decide) dX3_keepSamples_14 ?_; clear hP hD hS; clear H locs; intro f1 e_f1 H locs hP hD hS
  replace hw := hw f1 e_f1
  clear e_f1
  replace hP : va_P (dC, dI) vwCl (w_X3_keepSamples h0 h_tree h_row h_made h_fresh k1 cy n_p1 c_lag c_lagSum f1 p1) H := hP
  replace hD : va_D A (w_X3_keepSamples h0 h_tree h_row h_made h_fresh k1 cy n_p1 c_lag c_lagSum f1 p1) := hD
  refine lv_aload_n hx hb dX3_keepSamples_17 rfl (lv_at hl 1 rfl) ?_
  refine lv_iconst (v := 0) hx hb dX3_keepSamples_18 (by decide) ?_
  refine lv_aload_n hx hb dX3_keepSamples_19 rfl (lv_at hl 0 rfl) ?_
  refine va_get (D := (dC, dI)) (ci := 3) (v := .ref h_row) (C := RX3) (T := TX3) (N := 6) hx hb hts inX3 hown hK hP 0 rfl rfl 1 (by decide) (hts _ (List.mem_cons_of_mem _ mw_160)) (fun _ h9 => h9) rfl dX3_keepSamples_20 ?_
  refine lv_sipush (v := 160) hx hb dX3_keepSamples_23 (by decide) ?_
  refine lv_bipush (v := 32) hx hb dX3_keepSamples_26 (by decide) ?_
  obtain ⟨h2, hw⟩ := hw
  refine xcopyi (k1 := 0) (k2 := 160) (k3 := 32) hx hb (by rw [hml]; exact hl.1.symm) hown (hts _ (List.mem_cons_of_mem _ mw_553)) (hts _ (List.mem_cons_of_mem _ mw_59)) (hts _ (List.mem_cons_of_mem _ mw_60)) (hts _ (List.mem_cons_of_mem _ mw_61)) hK hP hD hS 2 1 0 0 rfl rfl rfl rfl rfl (by decide) (by decide) (by decide) h2 (by decide) (fun _ _ => rfl) (Nat.le_of_ble_eq_true rfl) (Nat.le_of_ble_eq_true rfl) (by decide) (by decide) (by decide) dX3_keepSamples_28 ?_; clear hP hD hS; clear H locs; intro f3 e_f3 H locs hP hD hS
  replace hw := hw f3 e_f3
  clear e_f3
  replace hP : va_P (dC, dI) vwCl (w_X3_keepSamples h0 h_tree h_row h_made h_fresh k1 cy n_p1 c_lag c_lagSum f3 p1) H := hP
  replace hD : va_D A (w_X3_keepSamples h0 h_tree h_row h_made h_fresh k1 cy n_p1 c_lag c_lagSum f3 p1) := hD
  subst hQe
  exact W.vret hx hb hr (fun t ht hW => ⟨⟨f3, rfl, hw, by rw [ht]; exact hP, va_K.moved hW.alike hK, hD⟩, hS.F ht⟩) hS.2.2 dX3_keepSamples_31
set_option maxHeartbeats 4000000 in
set_option maxRecDepth 100000 in
theorem c_X4_costOf (l : Launch) (dC : Nat → ClassId) (dI : Nat → Nat → Nat) (cy : Nat → ClassId) (h0 h_split h_told h_quants h_backs h_rejoined h_scales h_needs h_bits : Nat) (sz : Nat) (v1 : Int32) (c_twins : Int32) (c_method : Int32) (c_pool : Int32) (c_told : Nat → Int32) (c_backs : Nat → Int32) (post : Int32 → Prop) (hw : wp_X4_costOf v1 c_told c_backs post) : Met l yX4_costOf wsX4_costOf ({ frames := 1, cells := 0, slots := 0, locals := 30 }) (PX dC dI cy [.ref h0, .int v1] sz (w_X4_costOf h0 h_split h_told h_quants h_backs h_rejoined h_scales h_needs h_bits cy c_twins c_method c_pool c_told c_backs)) (va_Qi (fun (r : Int32) (u : Unit) => post r) (QX dC dI cy (va_A (w_X4_costOf h0 h_split h_told h_quants h_backs h_rejoined h_scales h_needs h_bits cy c_twins c_method c_pool c_told c_backs) sz) (fun (u : Unit) => w_X4_costOf h0 h_split h_told h_quants h_backs h_rejoined h_scales h_needs h_bits cy c_twins c_method c_pool c_told c_backs)) (va_A (w_X4_costOf h0 h_split h_told h_quants h_backs h_rejoined h_scales h_needs h_bits cy c_twins c_method c_pool c_told c_backs) sz)) 0 0 (va_A (w_X4_costOf h0 h_split h_told h_quants h_backs h_rejoined h_scales h_needs h_bits cy c_twins c_method c_pool c_told c_backs) sz) := by
  refine Met.ofW (cc := cX4_costOf) (maxL := 4) (ret := (some .int)) (by decide) rfl ?_
  intro p e s m args below meth c s₁ B hml hv
  obtain ⟨rfl, hsz, hP, hK, hD0, hG⟩ := hv
  have hx := B.exec
  have hb := B.bytes
  have hr := B.returns
  have hts := atoms_spec (ws := wsX4_costOf) B.pre
  have hown : s.vm.findClass RX4 = some m.cls := findClass_of_methodNamed B.named
  have hlocks := B.notSynchronized
  subst hsz
  have hD := hD0.self (sz := s.heap.size)
  generalize hAe : va_A (w_X4_costOf h0 h_split h_told h_quants h_backs h_rejoined h_scales h_needs h_bits cy c_twins c_method c_pool c_told c_backs) s.heap.size = A at hD ⊢
  have hA : ∀ q : Nat, s.heap.size ≤ q → A q := fun q h => by rw [← hAe]; exact Or.inr h
  have hS : va_S A s.heap s.heap [] := va_S.rf
  have hl := lv_entry ([.ref h0, .int v1]) (n := 4) (Nat.le_of_ble_eq_true rfl)
  rw [lg_entry_eq]
  generalize (lg_sl ([.ref h0, .int v1]) ++ List.replicate (4 - (lg_sl ([.ref h0, .int v1])).length) Slot.unset).toArray = ls at hl ⊢
  replace hl : lv_has ls 4 [(0, .ref h0), (1, .int v1)] := hl
  have inX4 : ∀ w ∈ u_ws RX4 TX4 11, w ∈ wsX4_costOf := fun w h => List.mem_cons_of_mem _ (inlX4 w h)
  clear hAe hD0 B
  unfold wp_X4_costOf at hw
  generalize hQe : MQ below _ _ s _ _ _ = Q0
  generalize ([.ref h0, .int v1] : List Value).toArray = av at *
  obtain ⟨H, hH⟩ : ∃ H, H = s.heap := ⟨_, rfl⟩
  obtain ⟨locs, hlo⟩ : ∃ L : List Loc, L = [] := ⟨_, rfl⟩
  replace hP : va_P (dC, dI) vwCl (w_X4_costOf h0 h_split h_told h_quants h_backs h_rejoined h_scales h_needs h_bits cy c_twins c_method c_pool c_told c_backs) H := by rw [hH]; exact hP
  replace hS : va_S A s.heap H locs := by rw [hH, hlo]; exact hS
  suffices hgo : W p l e ({ frames := 1, cells := 0, slots := 0, locals := 30 }) s m av below meth c H locs 0 0 Q0 (F0 m 0 ls []) by rw [hH, hlo] at hgo; exact hgo
  clear hH hlo
  refine lv_iconst (v := 0) hx hb dX4_costOf_0 (by decide) ?_
  refine lv_istore_n (lv' := [(2, .int (0 : Int32)), (0, .ref h0), (1, .int v1)]) hx hb dX4_costOf_1 rfl hl (by decide) rfl ?_; clear hl; clear ls; intro ls hl
  refine lv_iload_n hx hb dX4_costOf_2 rfl (lv_at hl 2 rfl) ?_
  refine lv_istore_n (lv' := [(3, .int v1), (2, .int (0 : Int32)), (0, .ref h0), (1, .int v1)]) hx hb dX4_costOf_3 rfl hl (by decide) rfl ?_; clear hl; clear ls; intro ls hl
  obtain ⟨x1, e_x1⟩ : ∃ y : Int32, y = v1 := ⟨_, rfl⟩
  replace hw := hw x1 e_x1
  replace hl : lv_has ls 4 [(3, .int x1), (2, .int (0 : Int32)), (0, .ref h0), (1, .int v1)] := by rw [e_x1]; exact hl
  clear e_x1
  obtain ⟨x2, e_x2⟩ : ∃ y : Int32, y = (0 : Int32) := ⟨_, rfl⟩
  replace hw := hw x2 e_x2
  replace hl : lv_has ls 4 [(3, .int x1), (2, .int x2), (0, .ref h0), (1, .int v1)] := by rw [e_x2]; exact hl
  clear e_x2
  replace hl := lv_sub (l' := [(3, .int x1), (2, .int x2), (0, .ref h0)]) hl [0, 1, 2] rfl
  revert hl; revert hS; revert hD; revert hP; revert ls; revert locs; revert H
  revert hw; revert x2; revert x1
  refine Lz2_gr ?_; intro g3 ih4 x5 x6 hw
  intro H locs ls hP hD hS hl
  refine lv_iload_n hx hb dX4_costOf_4 rfl (lv_at hl 0 rfl) ?_
  refine lv_bipush (v := 64) hx hb dX4_costOf_5 (by decide) ?_
  refine lv_icmp_ge (tgt := 35) hx hb dX4_costOf_7 (by decide) (fun c7 => ?_) (fun c7 => ?_)
  · replace hw := hw.1 c7
    clear ih4
    refine lv_iload_n hx hb dX4_costOf_35 rfl (lv_at hl 1 rfl) ?_
    subst hQe
    exact W.iret (v := x6) hx hb hr (fun t ht hW => ⟨⟨x6, (), rfl, hw, by rw [ht]; exact hP, va_K.moved hW.alike hK, hD⟩, hS.F ht⟩) hS.2.2 dX4_costOf_36
  · replace hw := hw.2 c7
    refine lv_iload_n hx hb dX4_costOf_10 rfl (lv_at hl 1 rfl) ?_
    refine lv_aload_n hx hb dX4_costOf_11 rfl (lv_at hl 2 rfl) ?_
    refine va_get (D := (dC, dI)) (ci := 4) (v := .ref h_told) (C := RX4) (T := TX4) (N := 11) hx hb hts inX4 hown hK hP 0 rfl rfl 1 (by decide) (hts _ (List.mem_cons_of_mem _ mw_121)) (fun _ h9 => h9) rfl dX4_costOf_12 ?_
    refine lv_iload_n hx hb dX4_costOf_15 rfl (lv_at hl 0 rfl) ?_
    obtain ⟨h8, hw⟩ := hw
    refine xiald (k := x5.toNatClampNeg) hx hb hK hP 1 0 rfl rfl h8 rfl dX4_costOf_16 ?_
    refine lv_aload_n hx hb dX4_costOf_17 rfl (lv_at hl 2 rfl) ?_
    refine va_get (D := (dC, dI)) (ci := 4) (v := .ref h_backs) (C := RX4) (T := TX4) (N := 11) hx hb hts inX4 hown hK hP 0 rfl rfl 3 (by decide) (hts _ (List.mem_cons_of_mem _ mw_123)) (fun _ h9 => h9) rfl dX4_costOf_18 ?_
    refine lv_iload_n hx hb dX4_costOf_21 rfl (lv_at hl 0 rfl) ?_
    obtain ⟨h9, hw⟩ := hw
    refine xiald (k := x5.toNatClampNeg) hx hb hK hP 2 0 rfl rfl h9 rfl dX4_costOf_22 ?_
    refine lv_isub hx hb dX4_costOf_23 ?_
    refine va_mabs hx hb (by rw [hml]; exact hl.1.symm) hown (hts _ (List.mem_cons_of_mem _ mw_295)) (hts _ (List.mem_cons_of_mem _ mw_296)) (hts _ (List.mem_cons_of_mem _ mw_76)) (hts _ (List.mem_cons_of_mem _ mw_297)) (Nat.le_of_ble_eq_true rfl) (Nat.le_of_ble_eq_true rfl) (Nat.zero_le _) (Nat.zero_le _) dX4_costOf_24 ?_
    refine lv_topi (fun x10 e_x10 => ?_)
    replace hw := hw x10 e_x10
    clear e_x10
    refine lv_iadd hx hb dX4_costOf_27 ?_
    refine lv_topi (fun x11 e_x11 => ?_)
    replace hw := hw x11 e_x11
    clear e_x11
    refine lv_istore_n (lv' := [(2, .int x11), (3, .int x5), (0, .ref h0)]) hx hb dX4_costOf_28 rfl hl (by decide) rfl ?_; clear hl; clear ls; intro ls hl
    refine lv_iinc (v := x5 + 16) (lv' := [(3, .int (x5 + 16)), (2, .int x11), (0, .ref h0)]) hx hb dX4_costOf_29 hl (k := 1) rfl rfl (by decide) rfl ?_; clear hl; clear ls; intro ls hl
    refine lv_goto (tgt := 4) hx hb dX4_costOf_32 (by decide) ?_
    exact ih4 (x5 + 16) x11 hw H locs ls hP hD hS (lv_sub hl [0, 1, 2] rfl)
set_option maxHeartbeats 4000000 in
set_option maxRecDepth 100000 in
theorem c_X4_undoTwins (l : Launch) (dC : Nat → ClassId) (dI : Nat → Nat → Nat) (cy : Nat → ClassId) (h0 h_split h_told h_quants h_backs h_rejoined h_scales h_needs h_bits : Nat) (sz : Nat) (c_twins : Int32) (c_method : Int32) (c_pool : Int32) (c_backs : Nat → Int32) (c_rejoined : Nat → Int32) (post : (Nat → Int32) → Prop) (hw : wp_X4_undoTwins c_twins c_backs c_rejoined post) : Met l yX4_undoTwins wsX4_undoTwins ({ frames := 1, cells := 0, slots := 0, locals := 40 }) (PX dC dI cy [.ref h0] sz (w_X4_undoTwins h0 h_split h_told h_quants h_backs h_rejoined h_scales h_needs h_bits cy c_twins c_method c_pool c_backs c_rejoined)) (va_Qv (fun (u : (Nat → Int32)) => post u) (QX dC dI cy (va_A (w_X4_undoTwins h0 h_split h_told h_quants h_backs h_rejoined h_scales h_needs h_bits cy c_twins c_method c_pool c_backs c_rejoined) sz) (fun (u : (Nat → Int32)) => w_X4_undoTwins h0 h_split h_told h_quants h_backs h_rejoined h_scales h_needs h_bits cy c_twins c_method c_pool c_backs u)) (va_A (w_X4_undoTwins h0 h_split h_told h_quants h_backs h_rejoined h_scales h_needs h_bits cy c_twins c_method c_pool c_backs c_rejoined) sz)) 0 0 (va_A (w_X4_undoTwins h0 h_split h_told h_quants h_backs h_rejoined h_scales h_needs h_bits cy c_twins c_method c_pool c_backs c_rejoined) sz) := by
  refine Met.ofW (cc := cX4_undoTwins) (maxL := 4) (ret := none) (by decide) rfl ?_
  intro p e s m args below meth c s₁ B hml hv
  obtain ⟨rfl, hsz, hP, hK, hD0, hG⟩ := hv
  have hx := B.exec
  have hb := B.bytes
  have hr := B.returns
  have hts := atoms_spec (ws := wsX4_undoTwins) B.pre
  have hown : s.vm.findClass RX4 = some m.cls := findClass_of_methodNamed B.named
  have hlocks := B.notSynchronized
  subst hsz
  have hD := hD0.self (sz := s.heap.size)
  generalize hAe : va_A (w_X4_undoTwins h0 h_split h_told h_quants h_backs h_rejoined h_scales h_needs h_bits cy c_twins c_method c_pool c_backs c_rejoined) s.heap.size = A at hD ⊢
  have hA : ∀ q : Nat, s.heap.size ≤ q → A q := fun q h => by rw [← hAe]; exact Or.inr h
  have hS : va_S A s.heap s.heap [] := va_S.rf
  have hl := lv_entry ([.ref h0]) (n := 4) (Nat.le_of_ble_eq_true rfl)
  rw [lg_entry_eq]
  generalize (lg_sl ([.ref h0]) ++ List.replicate (4 - (lg_sl ([.ref h0])).length) Slot.unset).toArray = ls at hl ⊢
  replace hl : lv_has ls 4 [(0, .ref h0)] := hl
  have inX4 : ∀ w ∈ u_ws RX4 TX4 11, w ∈ wsX4_undoTwins := fun w h => List.mem_cons_of_mem _ (inlX4 w h)
  clear hAe hD0 B
  unfold wp_X4_undoTwins at hw
  generalize hQe : MQ below _ _ s _ _ _ = Q0
  generalize ([.ref h0] : List Value).toArray = av at *
  obtain ⟨H, hH⟩ : ∃ H, H = s.heap := ⟨_, rfl⟩
  obtain ⟨locs, hlo⟩ : ∃ L : List Loc, L = [] := ⟨_, rfl⟩
  replace hP : va_P (dC, dI) vwCl (w_X4_undoTwins h0 h_split h_told h_quants h_backs h_rejoined h_scales h_needs h_bits cy c_twins c_method c_pool c_backs c_rejoined) H := by rw [hH]; exact hP
  replace hS : va_S A s.heap H locs := by rw [hH, hlo]; exact hS
  suffices hgo : W p l e ({ frames := 1, cells := 0, slots := 0, locals := 40 }) s m av below meth c H locs 0 0 Q0 (F0 m 0 ls []) by rw [hH, hlo] at hgo; exact hgo
  clear hH hlo
  refine lv_aload_n hx hb dX4_undoTwins_0 rfl (lv_at hl 0 rfl) ?_
  refine va_get (D := (dC, dI)) (ci := 4) (v := .ref h_backs) (C := RX4) (T := TX4) (N := 11) hx hb hts inX4 hown hK hP 0 rfl rfl 3 (by decide) (hts _ (List.mem_cons_of_mem _ mw_123)) (fun _ h9 => h9) rfl dX4_undoTwins_1 ?_
  refine lv_iconst (v := 0) hx hb dX4_undoTwins_4 (by decide) ?_
  refine lv_aload_n hx hb dX4_undoTwins_5 rfl (lv_at hl 0 rfl) ?_
  refine va_get (D := (dC, dI)) (ci := 4) (v := .ref h_rejoined) (C := RX4) (T := TX4) (N := 11) hx hb hts inX4 hown hK hP 0 rfl rfl 4 (by decide) (hts _ (List.mem_cons_of_mem _ mw_124)) (fun _ h9 => h9) rfl dX4_undoTwins_6 ?_
  refine lv_iconst (v := 0) hx hb dX4_undoTwins_9 (by decide) ?_
  refine lv_bipush (v := 64) hx hb dX4_undoTwins_10 (by decide) ?_
  refine xcopyi (k1 := 0) (k2 := 0) (k3 := 64) hx hb (by rw [hml]; exact hl.1.symm) hown (hts _ (List.mem_cons_of_mem _ mw_290)) (hts _ (List.mem_cons_of_mem _ mw_59)) (hts _ (List.mem_cons_of_mem _ mw_60)) (hts _ (List.mem_cons_of_mem _ mw_61)) hK hP hD hS 1 2 0 0 rfl rfl rfl rfl rfl (by decide) (by decide) (by decide) (by decide) (by decide) (fun _ _ => rfl) (Nat.le_of_ble_eq_true rfl) (Nat.le_of_ble_eq_true rfl) (by decide) (by decide) (by decide) dX4_undoTwins_12 ?_; clear hP hD hS; clear H locs; intro f1 e_f1 H locs hP hD hS
  replace hw := hw f1 e_f1
  clear e_f1
  replace hP : va_P (dC, dI) vwCl (w_X4_undoTwins h0 h_split h_told h_quants h_backs h_rejoined h_scales h_needs h_bits cy c_twins c_method c_pool c_backs f1) H := hP
  replace hD : va_D A (w_X4_undoTwins h0 h_split h_told h_quants h_backs h_rejoined h_scales h_needs h_bits cy c_twins c_method c_pool c_backs f1) := hD
  refine lv_iconst (v := 0) hx hb dX4_undoTwins_15 (by decide) ?_
  refine lv_istore_n (lv' := [(1, .int (0 : Int32)), (0, .ref h0)]) hx hb dX4_undoTwins_16 rfl hl (by decide) rfl ?_; clear hl; clear ls; intro ls hl
  obtain ⟨x2, e_x2⟩ : ∃ y : Int32, y = (0 : Int32) := ⟨_, rfl⟩
  replace hw := hw x2 e_x2
  replace hl : lv_has ls 4 [(1, .int x2), (0, .ref h0)] := by rw [e_x2]; exact hl
  clear e_x2
  replace hl := lv_sub (l' := [(1, .int x2), (0, .ref h0)]) hl [0, 1] rfl
  revert hl; revert hS; revert hD; revert hP; revert ls; revert locs; revert H
  revert hw; revert f1; revert x2
  refine Lz2_gr ?_; intro g3 ih4 x5 f6 hw
  intro H locs ls hP hD hS hl
  refine lv_iload_n hx hb dX4_undoTwins_17 rfl (lv_at hl 0 rfl) ?_
  refine lv_bipush (v := 64) hx hb dX4_undoTwins_18 (by decide) ?_
  refine lv_icmp_ge (tgt := 97) hx hb dX4_undoTwins_20 (by decide) (fun c7 => ?_) (fun c7 => ?_)
  · replace hw := hw.1 c7
    clear ih4
    subst hQe
    exact W.vret hx hb hr (fun t ht hW => ⟨⟨f6, rfl, hw, by rw [ht]; exact hP, va_K.moved hW.alike hK, hD⟩, hS.F ht⟩) hS.2.2 dX4_undoTwins_97
  · replace hw := hw.2 c7
    refine lv_iload_n hx hb dX4_undoTwins_23 rfl (lv_at hl 0 rfl) ?_
    refine lv_bipush (v := 16) hx hb dX4_undoTwins_24 (by decide) ?_
    refine lv_irem hx hb dX4_undoTwins_26 (by decide) ?_
    refine lv_topi (fun x8 e_x8 => ?_)
    replace hw := hw x8 e_x8
    clear e_x8
    refine lv_istore_n (lv' := [(2, .int x8), (1, .int x5), (0, .ref h0)]) hx hb dX4_undoTwins_27 rfl hl (by decide) rfl ?_; clear hl; clear ls; intro ls hl
    refine lv_iload_n hx hb dX4_undoTwins_28 rfl (lv_at hl 0 rfl) ?_
    refine lv_bipush (v := 8) hx hb dX4_undoTwins_29 (by decide) ?_
    refine jn1 (Gg := fun (f9 : (Nat → Int32)) => ∀ (H : Heap) (locs : List Loc) (ls : Array Slot), va_P (dC, dI) vwCl (w_X4_undoTwins h0 h_split h_told h_quants h_backs h_rejoined h_scales h_needs h_bits cy c_twins c_method c_pool c_backs f9) H → va_D A (w_X4_undoTwins h0 h_split h_told h_quants h_backs h_rejoined h_scales h_needs h_bits cy c_twins c_method c_pool c_backs f9) → va_S A s.heap H locs → lv_has ls 4 [(0, .ref h0), (1, .int x5)] → W p l e { frames := 1, cells := 0, slots := 0, locals := 40 } s m av below meth c H locs 0 0 Q0 (F0 m 91 ls [])) hw ?_ ?_ <;> clear hw
    · clear hP hD hS hl; clear H locs ls; intro f9 hw H locs ls hP hD hS hl
      refine lv_iinc (v := x5 + 1) (lv' := [(1, .int (x5 + 1)), (0, .ref h0)]) hx hb dX4_undoTwins_91 hl (k := 1) rfl rfl (by decide) rfl ?_; clear hl; clear ls; intro ls hl
      refine lv_goto (tgt := 17) hx hb dX4_undoTwins_94 (by decide) ?_
      exact ih4 (x5 + 1) f9 hw H locs ls hP hD hS (lv_sub hl [0, 1] rfl)
    · intro j11 hw
      refine lv_icmp_ge (tgt := 91) hx hb dX4_undoTwins_31 (by decide) (fun c12 => ?_) (fun c12 => ?_)
      · replace hw := hw.1 c12
        exact j11 f6 hw H locs ls hP hD hS (lv_sub hl [2, 1] rfl)
      · replace hw := hw.2 c12
        refine lv_aload_n hx hb dX4_undoTwins_34 rfl (lv_at hl 2 rfl) ?_
        refine va_get (D := (dC, dI)) (ci := 4) (v := .int c_twins) (C := RX4) (T := TX4) (N := 11) hx hb hts inX4 hown hK hP 0 rfl rfl 8 (by decide) (hts _ (List.mem_cons_of_mem _ mw_128)) (fun _ h9 => h9) rfl dX4_undoTwins_35 ?_
        refine lv_iload_n hx hb dX4_undoTwins_38 rfl (lv_at hl 0 rfl) ?_
        refine lv_ishr hx hb dX4_undoTwins_39 ?_
        refine lv_iconst (v := 1) hx hb dX4_undoTwins_40 (by decide) ?_
        refine lv_iand hx hb dX4_undoTwins_41 ?_
        refine lv_iconst (v := 1) hx hb dX4_undoTwins_42 (by decide) ?_
        refine lv_icmp_ne (tgt := 91) hx hb dX4_undoTwins_43 (by decide) (fun c13 => ?_) (fun c13 => ?_)
        · replace hw := hw.2 c13
          exact j11 f6 hw H locs ls hP hD hS (lv_sub hl [2, 1] rfl)
        · replace hw := hw.1 c13
          refine lv_aload_n hx hb dX4_undoTwins_46 rfl (lv_at hl 2 rfl) ?_
          refine va_get (D := (dC, dI)) (ci := 4) (v := .ref h_backs) (C := RX4) (T := TX4) (N := 11) hx hb hts inX4 hown hK hP 0 rfl rfl 3 (by decide) (hts _ (List.mem_cons_of_mem _ mw_123)) (fun _ h9 => h9) rfl dX4_undoTwins_47 ?_
          refine lv_iload_n hx hb dX4_undoTwins_50 rfl (lv_at hl 1 rfl) ?_
          refine lv_bipush (v := 8) hx hb dX4_undoTwins_51 (by decide) ?_
          refine lv_iadd hx hb dX4_undoTwins_53 ?_
          obtain ⟨h14, hw⟩ := hw
          refine xiald (k := (x5 + (8 : Int32)).toNatClampNeg) hx hb hK hP 1 0 rfl rfl h14 rfl dX4_undoTwins_54 ?_
          refine lv_topi (fun x15 e_x15 => ?_)
          replace hw := hw x15 e_x15
          clear e_x15
          refine lv_istore_n (lv' := [(3, .int x15), (2, .int x8), (1, .int x5), (0, .ref h0)]) hx hb dX4_undoTwins_55 rfl hl (by decide) rfl ?_; clear hl; clear ls; intro ls hl
          refine lv_aload_n hx hb dX4_undoTwins_56 rfl (lv_at hl 3 rfl) ?_
          refine va_get (D := (dC, dI)) (ci := 4) (v := .ref h_rejoined) (C := RX4) (T := TX4) (N := 11) hx hb hts inX4 hown hK hP 0 rfl rfl 4 (by decide) (hts _ (List.mem_cons_of_mem _ mw_124)) (fun _ h9 => h9) rfl dX4_undoTwins_57 ?_
          refine lv_iload_n hx hb dX4_undoTwins_60 rfl (lv_at hl 2 rfl) ?_
          refine lv_aload_n hx hb dX4_undoTwins_61 rfl (lv_at hl 3 rfl) ?_
          refine va_get (D := (dC, dI)) (ci := 4) (v := .ref h_backs) (C := RX4) (T := TX4) (N := 11) hx hb hts inX4 hown hK hP 0 rfl rfl 3 (by decide) (hts _ (List.mem_cons_of_mem _ mw_123)) (fun _ h9 => h9) rfl dX4_undoTwins_62 ?_
          refine lv_iload_n hx hb dX4_undoTwins_65 rfl (lv_at hl 2 rfl) ?_
          obtain ⟨h16, hw⟩ := hw
          refine xiald (k := x5.toNatClampNeg) hx hb hK hP 1 0 rfl rfl h16 rfl dX4_undoTwins_66 ?_
          refine lv_iload_n hx hb dX4_undoTwins_67 rfl (lv_at hl 0 rfl) ?_
          refine lv_iconst (v := 1) hx hb dX4_undoTwins_68 (by decide) ?_
          refine lv_iadd hx hb dX4_undoTwins_69 ?_
          refine lv_iconst (v := 1) hx hb dX4_undoTwins_70 (by decide) ?_
          refine lv_ishr hx hb dX4_undoTwins_71 ?_
          refine lv_iadd hx hb dX4_undoTwins_72 ?_
          obtain ⟨h17, hw⟩ := hw
          refine xiast (k := x5.toNatClampNeg) hx hb hK hP hD hS 2 0 rfl rfl h17 rfl dX4_undoTwins_73 ?_; clear hP hD hS; clear H locs; intro f18 e_f18 H locs hP hD hS
          replace hw := hw f18 e_f18
          clear e_f18
          replace hP : va_P (dC, dI) vwCl (w_X4_undoTwins h0 h_split h_told h_quants h_backs h_rejoined h_scales h_needs h_bits cy c_twins c_method c_pool c_backs f18) H := hP
          replace hD : va_D A (w_X4_undoTwins h0 h_split h_told h_quants h_backs h_rejoined h_scales h_needs h_bits cy c_twins c_method c_pool c_backs f18) := hD
          refine lv_aload_n hx hb dX4_undoTwins_74 rfl (lv_at hl 3 rfl) ?_
          refine va_get (D := (dC, dI)) (ci := 4) (v := .ref h_rejoined) (C := RX4) (T := TX4) (N := 11) hx hb hts inX4 hown hK hP 0 rfl rfl 4 (by decide) (hts _ (List.mem_cons_of_mem _ mw_124)) (fun _ h9 => h9) rfl dX4_undoTwins_75 ?_
          refine lv_iload_n hx hb dX4_undoTwins_78 rfl (lv_at hl 2 rfl) ?_
          refine lv_bipush (v := 8) hx hb dX4_undoTwins_79 (by decide) ?_
          refine lv_iadd hx hb dX4_undoTwins_81 ?_
          refine lv_aload_n hx hb dX4_undoTwins_82 rfl (lv_at hl 3 rfl) ?_
          refine va_get (D := (dC, dI)) (ci := 4) (v := .ref h_rejoined) (C := RX4) (T := TX4) (N := 11) hx hb hts inX4 hown hK hP 0 rfl rfl 4 (by decide) (hts _ (List.mem_cons_of_mem _ mw_124)) (fun _ h9 => h9) rfl dX4_undoTwins_83 ?_
          refine lv_iload_n hx hb dX4_undoTwins_86 rfl (lv_at hl 2 rfl) ?_
          obtain ⟨h19, hw⟩ := hw
          refine xiald (k := x5.toNatClampNeg) hx hb hK hP 2 0 rfl rfl h19 rfl dX4_undoTwins_87 ?_
          refine lv_iload_n hx hb dX4_undoTwins_88 rfl (lv_at hl 0 rfl) ?_
          refine lv_isub hx hb dX4_undoTwins_89 ?_
          obtain ⟨h20, hw⟩ := hw
          refine xiast (k := (x5 + (8 : Int32)).toNatClampNeg) hx hb hK hP hD hS 2 0 rfl rfl h20 rfl dX4_undoTwins_90 ?_; clear hP hD hS; clear H locs; intro f21 e_f21 H locs hP hD hS
          replace hw := hw f21 e_f21
          clear e_f21
          replace hP : va_P (dC, dI) vwCl (w_X4_undoTwins h0 h_split h_told h_quants h_backs h_rejoined h_scales h_needs h_bits cy c_twins c_method c_pool c_backs f21) H := hP
          replace hD : va_D A (w_X4_undoTwins h0 h_split h_told h_quants h_backs h_rejoined h_scales h_needs h_bits cy c_twins c_method c_pool c_backs f21) := hD
          exact j11 f21 hw H locs ls hP hD hS (lv_sub hl [3, 2] rfl)
set_option maxHeartbeats 4000000 in
set_option maxRecDepth 100000 in
theorem c_X4_sumOff (l : Launch) (dC : Nat → ClassId) (dI : Nat → Nat → Nat) (cy : Nat → ClassId) (h0 h_split h_told h_quants h_backs h_rejoined h_scales h_needs h_bits : Nat) (sz : Nat) (c_twins : Int32) (c_method : Int32) (c_pool : Int32) (c_split : Nat → Int32) (c_rejoined : Nat → Int32) (post : Int32 → Prop) (hw : wp_X4_sumOff c_split c_rejoined post) : Met l yX4_sumOff wsX4_sumOff ({ frames := 1, cells := 0, slots := 0, locals := 30 }) (PX dC dI cy [.ref h0] sz (w_X4_sumOff h0 h_split h_told h_quants h_backs h_rejoined h_scales h_needs h_bits cy c_twins c_method c_pool c_split c_rejoined)) (va_Qi (fun (r : Int32) (u : Unit) => post r) (QX dC dI cy (va_A (w_X4_sumOff h0 h_split h_told h_quants h_backs h_rejoined h_scales h_needs h_bits cy c_twins c_method c_pool c_split c_rejoined) sz) (fun (u : Unit) => w_X4_sumOff h0 h_split h_told h_quants h_backs h_rejoined h_scales h_needs h_bits cy c_twins c_method c_pool c_split c_rejoined)) (va_A (w_X4_sumOff h0 h_split h_told h_quants h_backs h_rejoined h_scales h_needs h_bits cy c_twins c_method c_pool c_split c_rejoined) sz)) 0 0 (va_A (w_X4_sumOff h0 h_split h_told h_quants h_backs h_rejoined h_scales h_needs h_bits cy c_twins c_method c_pool c_split c_rejoined) sz) := by
  refine Met.ofW (cc := cX4_sumOff) (maxL := 3) (ret := (some .int)) (by decide) rfl ?_
  intro p e s m args below meth c s₁ B hml hv
  obtain ⟨rfl, hsz, hP, hK, hD0, hG⟩ := hv
  have hx := B.exec
  have hb := B.bytes
  have hr := B.returns
  have hts := atoms_spec (ws := wsX4_sumOff) B.pre
  have hown : s.vm.findClass RX4 = some m.cls := findClass_of_methodNamed B.named
  have hlocks := B.notSynchronized
  subst hsz
  have hD := hD0.self (sz := s.heap.size)
  generalize hAe : va_A (w_X4_sumOff h0 h_split h_told h_quants h_backs h_rejoined h_scales h_needs h_bits cy c_twins c_method c_pool c_split c_rejoined) s.heap.size = A at hD ⊢
  have hA : ∀ q : Nat, s.heap.size ≤ q → A q := fun q h => by rw [← hAe]; exact Or.inr h
  have hS : va_S A s.heap s.heap [] := va_S.rf
  have hl := lv_entry ([.ref h0]) (n := 3) (Nat.le_of_ble_eq_true rfl)
  rw [lg_entry_eq]
  generalize (lg_sl ([.ref h0]) ++ List.replicate (3 - (lg_sl ([.ref h0])).length) Slot.unset).toArray = ls at hl ⊢
  replace hl : lv_has ls 3 [(0, .ref h0)] := hl
  have inX4 : ∀ w ∈ u_ws RX4 TX4 11, w ∈ wsX4_sumOff := fun w h => List.mem_cons_of_mem _ (inlX4 w h)
  clear hAe hD0 B
  unfold wp_X4_sumOff at hw
  generalize hQe : MQ below _ _ s _ _ _ = Q0
  generalize ([.ref h0] : List Value).toArray = av at *
  obtain ⟨H, hH⟩ : ∃ H, H = s.heap := ⟨_, rfl⟩
  obtain ⟨locs, hlo⟩ : ∃ L : List Loc, L = [] := ⟨_, rfl⟩
  replace hP : va_P (dC, dI) vwCl (w_X4_sumOff h0 h_split h_told h_quants h_backs h_rejoined h_scales h_needs h_bits cy c_twins c_method c_pool c_split c_rejoined) H := by rw [hH]; exact hP
  replace hS : va_S A s.heap H locs := by rw [hH, hlo]; exact hS
  suffices hgo : W p l e ({ frames := 1, cells := 0, slots := 0, locals := 30 }) s m av below meth c H locs 0 0 Q0 (F0 m 0 ls []) by rw [hH, hlo] at hgo; exact hgo
  clear hH hlo
  refine lv_iconst (v := 0) hx hb dX4_sumOff_0 (by decide) ?_
  refine lv_istore_n (lv' := [(1, .int (0 : Int32)), (0, .ref h0)]) hx hb dX4_sumOff_1 rfl hl (by decide) rfl ?_; clear hl; clear ls; intro ls hl
  refine lv_iconst (v := 0) hx hb dX4_sumOff_2 (by decide) ?_
  refine lv_istore_n (lv' := [(2, .int (0 : Int32)), (1, .int (0 : Int32)), (0, .ref h0)]) hx hb dX4_sumOff_3 rfl hl (by decide) rfl ?_; clear hl; clear ls; intro ls hl
  obtain ⟨x1, e_x1⟩ : ∃ y : Int32, y = (0 : Int32) := ⟨_, rfl⟩
  replace hw := hw x1 e_x1
  replace hl : lv_has ls 3 [(2, .int x1), (1, .int (0 : Int32)), (0, .ref h0)] := by rw [e_x1]; exact hl
  clear e_x1
  obtain ⟨x2, e_x2⟩ : ∃ y : Int32, y = (0 : Int32) := ⟨_, rfl⟩
  replace hw := hw x2 e_x2
  replace hl : lv_has ls 3 [(2, .int x1), (1, .int x2), (0, .ref h0)] := by rw [e_x2]; exact hl
  clear e_x2
  replace hl := lv_sub (l' := [(2, .int x1), (1, .int x2), (0, .ref h0)]) hl [0, 1, 2] rfl
  revert hl; revert hS; revert hD; revert hP; revert ls; revert locs; revert H
  revert hw; revert x2; revert x1
  refine Lz2_gr ?_; intro g3 ih4 x5 x6 hw
  intro H locs ls hP hD hS hl
  refine lv_iload_n hx hb dX4_sumOff_4 rfl (lv_at hl 0 rfl) ?_
  refine lv_bipush (v := 64) hx hb dX4_sumOff_5 (by decide) ?_
  refine lv_icmp_ge (tgt := 35) hx hb dX4_sumOff_7 (by decide) (fun c7 => ?_) (fun c7 => ?_)
  · replace hw := hw.1 c7
    clear ih4
    refine lv_iload_n hx hb dX4_sumOff_35 rfl (lv_at hl 1 rfl) ?_
    subst hQe
    exact W.iret (v := x6) hx hb hr (fun t ht hW => ⟨⟨x6, (), rfl, hw, by rw [ht]; exact hP, va_K.moved hW.alike hK, hD⟩, hS.F ht⟩) hS.2.2 dX4_sumOff_36
  · replace hw := hw.2 c7
    refine lv_iload_n hx hb dX4_sumOff_10 rfl (lv_at hl 1 rfl) ?_
    refine lv_aload_n hx hb dX4_sumOff_11 rfl (lv_at hl 2 rfl) ?_
    refine va_get (D := (dC, dI)) (ci := 4) (v := .ref h_split) (C := RX4) (T := TX4) (N := 11) hx hb hts inX4 hown hK hP 0 rfl rfl 0 (by decide) (hts _ (List.mem_cons_of_mem _ mw_120)) (fun _ h9 => h9) rfl dX4_sumOff_12 ?_
    refine lv_iload_n hx hb dX4_sumOff_15 rfl (lv_at hl 0 rfl) ?_
    obtain ⟨h8, hw⟩ := hw
    refine xiald (k := x5.toNatClampNeg) hx hb hK hP 1 0 rfl rfl h8 rfl dX4_sumOff_16 ?_
    refine lv_aload_n hx hb dX4_sumOff_17 rfl (lv_at hl 2 rfl) ?_
    refine va_get (D := (dC, dI)) (ci := 4) (v := .ref h_rejoined) (C := RX4) (T := TX4) (N := 11) hx hb hts inX4 hown hK hP 0 rfl rfl 4 (by decide) (hts _ (List.mem_cons_of_mem _ mw_124)) (fun _ h9 => h9) rfl dX4_sumOff_18 ?_
    refine lv_iload_n hx hb dX4_sumOff_21 rfl (lv_at hl 0 rfl) ?_
    obtain ⟨h9, hw⟩ := hw
    refine xiald (k := x5.toNatClampNeg) hx hb hK hP 2 0 rfl rfl h9 rfl dX4_sumOff_22 ?_
    refine lv_isub hx hb dX4_sumOff_23 ?_
    refine va_mabs hx hb (by rw [hml]; exact hl.1.symm) hown (hts _ (List.mem_cons_of_mem _ mw_295)) (hts _ (List.mem_cons_of_mem _ mw_296)) (hts _ (List.mem_cons_of_mem _ mw_76)) (hts _ (List.mem_cons_of_mem _ mw_297)) (Nat.le_of_ble_eq_true rfl) (Nat.le_of_ble_eq_true rfl) (Nat.zero_le _) (Nat.zero_le _) dX4_sumOff_24 ?_
    refine lv_topi (fun x10 e_x10 => ?_)
    replace hw := hw x10 e_x10
    clear e_x10
    refine lv_iadd hx hb dX4_sumOff_27 ?_
    refine lv_topi (fun x11 e_x11 => ?_)
    replace hw := hw x11 e_x11
    clear e_x11
    refine lv_istore_n (lv' := [(1, .int x11), (2, .int x5), (0, .ref h0)]) hx hb dX4_sumOff_28 rfl hl (by decide) rfl ?_; clear hl; clear ls; intro ls hl
    refine lv_iinc (v := x5 + 1) (lv' := [(2, .int (x5 + 1)), (1, .int x11), (0, .ref h0)]) hx hb dX4_sumOff_29 hl (k := 1) rfl rfl (by decide) rfl ?_; clear hl; clear ls; intro ls hl
    refine lv_goto (tgt := 4) hx hb dX4_sumOff_32 (by decide) ?_
    exact ih4 (x5 + 1) x11 hw H locs ls hP hD hS (lv_sub hl [0, 1, 2] rfl)
set_option maxHeartbeats 4000000 in
set_option maxRecDepth 100000 in
theorem c_X4_mostOff (l : Launch) (dC : Nat → ClassId) (dI : Nat → Nat → Nat) (cy : Nat → ClassId) (h0 h_split h_told h_quants h_backs h_rejoined h_scales h_needs h_bits : Nat) (sz : Nat) (c_twins : Int32) (c_method : Int32) (c_pool : Int32) (c_split : Nat → Int32) (c_rejoined : Nat → Int32) (post : Int32 → Prop) (hw : wp_X4_mostOff c_split c_rejoined post) : Met l yX4_mostOff wsX4_mostOff ({ frames := 1, cells := 0, slots := 0, locals := 30 }) (PX dC dI cy [.ref h0] sz (w_X4_mostOff h0 h_split h_told h_quants h_backs h_rejoined h_scales h_needs h_bits cy c_twins c_method c_pool c_split c_rejoined)) (va_Qi (fun (r : Int32) (u : Unit) => post r) (QX dC dI cy (va_A (w_X4_mostOff h0 h_split h_told h_quants h_backs h_rejoined h_scales h_needs h_bits cy c_twins c_method c_pool c_split c_rejoined) sz) (fun (u : Unit) => w_X4_mostOff h0 h_split h_told h_quants h_backs h_rejoined h_scales h_needs h_bits cy c_twins c_method c_pool c_split c_rejoined)) (va_A (w_X4_mostOff h0 h_split h_told h_quants h_backs h_rejoined h_scales h_needs h_bits cy c_twins c_method c_pool c_split c_rejoined) sz)) 0 0 (va_A (w_X4_mostOff h0 h_split h_told h_quants h_backs h_rejoined h_scales h_needs h_bits cy c_twins c_method c_pool c_split c_rejoined) sz) := by
  refine Met.ofW (cc := cX4_mostOff) (maxL := 3) (ret := (some .int)) (by decide) rfl ?_
  intro p e s m args below meth c s₁ B hml hv
  obtain ⟨rfl, hsz, hP, hK, hD0, hG⟩ := hv
  have hx := B.exec
  have hb := B.bytes
  have hr := B.returns
  have hts := atoms_spec (ws := wsX4_mostOff) B.pre
  have hown : s.vm.findClass RX4 = some m.cls := findClass_of_methodNamed B.named
  have hlocks := B.notSynchronized
  subst hsz
  have hD := hD0.self (sz := s.heap.size)
  generalize hAe : va_A (w_X4_mostOff h0 h_split h_told h_quants h_backs h_rejoined h_scales h_needs h_bits cy c_twins c_method c_pool c_split c_rejoined) s.heap.size = A at hD ⊢
  have hA : ∀ q : Nat, s.heap.size ≤ q → A q := fun q h => by rw [← hAe]; exact Or.inr h
  have hS : va_S A s.heap s.heap [] := va_S.rf
  have hl := lv_entry ([.ref h0]) (n := 3) (Nat.le_of_ble_eq_true rfl)
  rw [lg_entry_eq]
  generalize (lg_sl ([.ref h0]) ++ List.replicate (3 - (lg_sl ([.ref h0])).length) Slot.unset).toArray = ls at hl ⊢
  replace hl : lv_has ls 3 [(0, .ref h0)] := hl
  have inX4 : ∀ w ∈ u_ws RX4 TX4 11, w ∈ wsX4_mostOff := fun w h => List.mem_cons_of_mem _ (inlX4 w h)
  clear hAe hD0 B
  unfold wp_X4_mostOff at hw
  generalize hQe : MQ below _ _ s _ _ _ = Q0
  generalize ([.ref h0] : List Value).toArray = av at *
  obtain ⟨H, hH⟩ : ∃ H, H = s.heap := ⟨_, rfl⟩
  obtain ⟨locs, hlo⟩ : ∃ L : List Loc, L = [] := ⟨_, rfl⟩
  replace hP : va_P (dC, dI) vwCl (w_X4_mostOff h0 h_split h_told h_quants h_backs h_rejoined h_scales h_needs h_bits cy c_twins c_method c_pool c_split c_rejoined) H := by rw [hH]; exact hP
  replace hS : va_S A s.heap H locs := by rw [hH, hlo]; exact hS
  suffices hgo : W p l e ({ frames := 1, cells := 0, slots := 0, locals := 30 }) s m av below meth c H locs 0 0 Q0 (F0 m 0 ls []) by rw [hH, hlo] at hgo; exact hgo
  clear hH hlo
  refine lv_iconst (v := 0) hx hb dX4_mostOff_0 (by decide) ?_
  refine lv_istore_n (lv' := [(1, .int (0 : Int32)), (0, .ref h0)]) hx hb dX4_mostOff_1 rfl hl (by decide) rfl ?_; clear hl; clear ls; intro ls hl
  refine lv_iconst (v := 0) hx hb dX4_mostOff_2 (by decide) ?_
  refine lv_istore_n (lv' := [(2, .int (0 : Int32)), (1, .int (0 : Int32)), (0, .ref h0)]) hx hb dX4_mostOff_3 rfl hl (by decide) rfl ?_; clear hl; clear ls; intro ls hl
  obtain ⟨x1, e_x1⟩ : ∃ y : Int32, y = (0 : Int32) := ⟨_, rfl⟩
  replace hw := hw x1 e_x1
  replace hl : lv_has ls 3 [(2, .int x1), (1, .int (0 : Int32)), (0, .ref h0)] := by rw [e_x1]; exact hl
  clear e_x1
  obtain ⟨x2, e_x2⟩ : ∃ y : Int32, y = (0 : Int32) := ⟨_, rfl⟩
  replace hw := hw x2 e_x2
  replace hl : lv_has ls 3 [(2, .int x1), (1, .int x2), (0, .ref h0)] := by rw [e_x2]; exact hl
  clear e_x2
  replace hl := lv_sub (l' := [(2, .int x1), (1, .int x2), (0, .ref h0)]) hl [0, 1, 2] rfl
  revert hl; revert hS; revert hD; revert hP; revert ls; revert locs; revert H
  revert hw; revert x2; revert x1
  refine Lz2_gr ?_; intro g3 ih4 x5 x6 hw
  intro H locs ls hP hD hS hl
  refine lv_iload_n hx hb dX4_mostOff_4 rfl (lv_at hl 0 rfl) ?_
  refine lv_bipush (v := 64) hx hb dX4_mostOff_5 (by decide) ?_
  refine lv_icmp_ge (tgt := 37) hx hb dX4_mostOff_7 (by decide) (fun c7 => ?_) (fun c7 => ?_)
  · replace hw := hw.1 c7
    clear ih4
    refine lv_iload_n hx hb dX4_mostOff_37 rfl (lv_at hl 1 rfl) ?_
    subst hQe
    exact W.iret (v := x6) hx hb hr (fun t ht hW => ⟨⟨x6, (), rfl, hw, by rw [ht]; exact hP, va_K.moved hW.alike hK, hD⟩, hS.F ht⟩) hS.2.2 dX4_mostOff_38
  · replace hw := hw.2 c7
    refine lv_iload_n hx hb dX4_mostOff_10 rfl (lv_at hl 1 rfl) ?_
    refine lv_aload_n hx hb dX4_mostOff_11 rfl (lv_at hl 2 rfl) ?_
    refine va_get (D := (dC, dI)) (ci := 4) (v := .ref h_split) (C := RX4) (T := TX4) (N := 11) hx hb hts inX4 hown hK hP 0 rfl rfl 0 (by decide) (hts _ (List.mem_cons_of_mem _ mw_120)) (fun _ h9 => h9) rfl dX4_mostOff_12 ?_
    refine lv_iload_n hx hb dX4_mostOff_15 rfl (lv_at hl 0 rfl) ?_
    obtain ⟨h8, hw⟩ := hw
    refine xiald (k := x5.toNatClampNeg) hx hb hK hP 1 0 rfl rfl h8 rfl dX4_mostOff_16 ?_
    refine lv_aload_n hx hb dX4_mostOff_17 rfl (lv_at hl 2 rfl) ?_
    refine va_get (D := (dC, dI)) (ci := 4) (v := .ref h_rejoined) (C := RX4) (T := TX4) (N := 11) hx hb hts inX4 hown hK hP 0 rfl rfl 4 (by decide) (hts _ (List.mem_cons_of_mem _ mw_124)) (fun _ h9 => h9) rfl dX4_mostOff_18 ?_
    refine lv_iload_n hx hb dX4_mostOff_21 rfl (lv_at hl 0 rfl) ?_
    obtain ⟨h9, hw⟩ := hw
    refine xiald (k := x5.toNatClampNeg) hx hb hK hP 2 0 rfl rfl h9 rfl dX4_mostOff_22 ?_
    refine lv_isub hx hb dX4_mostOff_23 ?_
    refine va_mabs hx hb (by rw [hml]; exact hl.1.symm) hown (hts _ (List.mem_cons_of_mem _ mw_295)) (hts _ (List.mem_cons_of_mem _ mw_296)) (hts _ (List.mem_cons_of_mem _ mw_76)) (hts _ (List.mem_cons_of_mem _ mw_297)) (Nat.le_of_ble_eq_true rfl) (Nat.le_of_ble_eq_true rfl) (Nat.zero_le _) (Nat.zero_le _) dX4_mostOff_24 ?_
    refine lv_topi (fun x10 e_x10 => ?_)
    replace hw := hw x10 e_x10
    clear e_x10
    refine va_mmax hx hb (by rw [hml]; exact hl.1.symm) hown (hts _ (List.mem_cons_of_mem _ mw_310)) (hts _ (List.mem_cons_of_mem _ mw_75)) (hts _ (List.mem_cons_of_mem _ mw_76)) (hts _ (List.mem_cons_of_mem _ mw_77)) (Nat.le_of_ble_eq_true rfl) (Nat.le_of_ble_eq_true rfl) (Nat.zero_le _) (Nat.zero_le _) dX4_mostOff_27 ?_
    refine lv_topi (fun x11 e_x11 => ?_)
    replace hw := hw x11 e_x11
    clear e_x11
    refine lv_istore_n (lv' := [(1, .int x11), (2, .int x5), (0, .ref h0)]) hx hb dX4_mostOff_30 rfl hl (by decide) rfl ?_; clear hl; clear ls; intro ls hl
    refine lv_iinc (v := x5 + 1) (lv' := [(2, .int (x5 + 1)), (1, .int x11), (0, .ref h0)]) hx hb dX4_mostOff_31 hl (k := 1) rfl rfl (by decide) rfl ?_; clear hl; clear ls; intro ls hl
    refine lv_goto (tgt := 4) hx hb dX4_mostOff_34 (by decide) ?_
    exact ih4 (x5 + 1) x11 hw H locs ls hP hD hS (lv_sub hl [0, 1, 2] rfl)
set_option maxHeartbeats 4000000 in
set_option maxRecDepth 100000 in
theorem c_X4_read (l : Launch) (dC : Nat → ClassId) (dI : Nat → Nat → Nat) (cy : Nat → ClassId) (h0 h_split h_told h_quants h_backs h_rejoined h_scales h_needs h_bits k1 k1_bytes k2 : Nat) (n_p2 : Nat) (sz : Nat) (c_twins : Int32) (c_method : Int32) (c_pool : Int32) (p1_size : Int32) (p1_at : Int32) (p1_bytes : Nat → Int32) (c_scales : Nat → Int32) (p2 : Nat → Int32) (c_needs : Nat → Int32) (c_bits : Nat → Int32) (c_quants : Nat → Int32) (c_backs : Nat → Int32) (post : Int32 → Int32 → Int32 → Int32 → (Nat → Int32) → (Nat → Int32) → (Nat → Int32) → (Nat → Int32) → (Nat → Int32) → Prop) (hw : wp_X4_read n_p2 c_twins c_method c_pool p1_size p1_at p1_bytes c_scales p2 c_needs c_bits c_quants c_backs post) : Met l yX4_read wsX4_read ({ frames := 2, cells := 0, slots := 0, locals := 53 }) (PX dC dI cy [.ref h0, .ref k1, .ref k2] sz (w_X4_read h0 h_split h_told h_quants h_backs h_rejoined h_scales h_needs h_bits k1 k1_bytes k2 cy n_p2 c_twins c_method c_pool p1_size p1_at p1_bytes c_scales p2 c_needs c_bits c_quants c_backs)) (va_Qv (fun (u : Int32 × Int32 × Int32 × Int32 × (Nat → Int32) × (Nat → Int32) × (Nat → Int32) × (Nat → Int32) × (Nat → Int32)) => post u.1 u.2.1 u.2.2.1 u.2.2.2.1 u.2.2.2.2.1 u.2.2.2.2.2.1 u.2.2.2.2.2.2.1 u.2.2.2.2.2.2.2.1 u.2.2.2.2.2.2.2.2) (QX dC dI cy (va_A (w_X4_read h0 h_split h_told h_quants h_backs h_rejoined h_scales h_needs h_bits k1 k1_bytes k2 cy n_p2 c_twins c_method c_pool p1_size p1_at p1_bytes c_scales p2 c_needs c_bits c_quants c_backs) sz) (fun (u : Int32 × Int32 × Int32 × Int32 × (Nat → Int32) × (Nat → Int32) × (Nat → Int32) × (Nat → Int32) × (Nat → Int32)) => w_X4_read h0 h_split h_told h_quants h_backs h_rejoined h_scales h_needs h_bits k1 k1_bytes k2 cy n_p2 u.1 u.2.1 u.2.2.1 p1_size u.2.2.2.1 p1_bytes u.2.2.2.2.1 p2 u.2.2.2.2.2.1 u.2.2.2.2.2.2.1 u.2.2.2.2.2.2.2.1 u.2.2.2.2.2.2.2.2)) (va_A (w_X4_read h0 h_split h_told h_quants h_backs h_rejoined h_scales h_needs h_bits k1 k1_bytes k2 cy n_p2 c_twins c_method c_pool p1_size p1_at p1_bytes c_scales p2 c_needs c_bits c_quants c_backs) sz)) 0 0 (va_A (w_X4_read h0 h_split h_told h_quants h_backs h_rejoined h_scales h_needs h_bits k1 k1_bytes k2 cy n_p2 c_twins c_method c_pool p1_size p1_at p1_bytes c_scales p2 c_needs c_bits c_quants c_backs) sz) := by
  refine Met.ofW (cc := cX4_read) (maxL := 7) (ret := none) (by decide) rfl ?_
  intro p e s m args below meth c s₁ B hml hv
  obtain ⟨rfl, hsz, hP, hK, hD0, hG⟩ := hv
  have hx := B.exec
  have hb := B.bytes
  have hr := B.returns
  have hts := atoms_spec (ws := wsX4_read) B.pre
  have hown : s.vm.findClass RX4 = some m.cls := findClass_of_methodNamed B.named
  have hlocks := B.notSynchronized
  subst hsz
  have hD := hD0.self (sz := s.heap.size)
  generalize hAe : va_A (w_X4_read h0 h_split h_told h_quants h_backs h_rejoined h_scales h_needs h_bits k1 k1_bytes k2 cy n_p2 c_twins c_method c_pool p1_size p1_at p1_bytes c_scales p2 c_needs c_bits c_quants c_backs) s.heap.size = A at hD ⊢
  have hA : ∀ q : Nat, s.heap.size ≤ q → A q := fun q h => by rw [← hAe]; exact Or.inr h
  have hS : va_S A s.heap s.heap [] := va_S.rf
  have hl := lv_entry ([.ref h0, .ref k1, .ref k2]) (n := 7) (Nat.le_of_ble_eq_true rfl)
  rw [lg_entry_eq]
  generalize (lg_sl ([.ref h0, .ref k1, .ref k2]) ++ List.replicate (7 - (lg_sl ([.ref h0, .ref k1, .ref k2])).length) Slot.unset).toArray = ls at hl ⊢
  replace hl : lv_has ls 7 [(0, .ref h0), (1, .ref k1), (2, .ref k2)] := hl
  have inX4 : ∀ w ∈ u_ws RX4 TX4 11, w ∈ wsX4_read := fun w h => List.mem_cons_of_mem _ (inlX4 w h)
  clear hAe hD0 B
  unfold wp_X4_read at hw
  generalize hQe : MQ below _ _ s _ _ _ = Q0
  generalize ([.ref h0, .ref k1, .ref k2] : List Value).toArray = av at *
  obtain ⟨H, hH⟩ : ∃ H, H = s.heap := ⟨_, rfl⟩
  obtain ⟨locs, hlo⟩ : ∃ L : List Loc, L = [] := ⟨_, rfl⟩
  replace hP : va_P (dC, dI) vwCl (w_X4_read h0 h_split h_told h_quants h_backs h_rejoined h_scales h_needs h_bits k1 k1_bytes k2 cy n_p2 c_twins c_method c_pool p1_size p1_at p1_bytes c_scales p2 c_needs c_bits c_quants c_backs) H := by rw [hH]; exact hP
  replace hS : va_S A s.heap H locs := by rw [hH, hlo]; exact hS
  suffices hgo : W p l e ({ frames := 2, cells := 0, slots := 0, locals := 53 }) s m av below meth c H locs 0 0 Q0 (F0 m 0 ls []) by rw [hH, hlo] at hgo; exact hgo
  clear hH hlo
  refine lv_aload_n hx hb dX4_read_0 rfl (lv_at hl 1 rfl) ?_
  have hPc := pSub (ws' := (w_X1_rewind k1 k1_bytes cy p1_size p1_at)) hP [1] rfl
  have hDc := dSub (ws' := (w_X1_rewind k1 k1_bytes cy p1_size p1_at)) hD [1] (by decide) rfl
  have hFc := va_free (wc := (w_X1_rewind k1 k1_bytes cy p1_size p1_at)) hD hS hA [1] rfl
  refine va_callv (va_runV (As := []) (rest := []) ⟨hx, hb, hml, hown, hts⟩ (c_X1_rewind l dC dI cy k1 k1_bytes H.size p1_size p1_at _ hw) (cwV 0 hts (goodV mw_367 mw_513 mw_365 mw_366 mw_24) rfl rfl rfl (by decide +kernel) ⟨Nat.le_of_ble_eq_true rfl, Nat.le_of_ble_eq_true rfl⟩) ⟨PX_blind, va_recv hK hPc (ci := 1) (q0 := 0) rfl rfl, PX_pre hPc hK hDc hG⟩ rfl rfl hl.1 rfl (lv_room (Nat.le_of_ble_eq_true rfl)) dX4_read_1 ⟨Nat.zero_le _, Nat.zero_le _⟩) hS (fun q _ h => hFc q h) hFc ?_; clear hw hS; intro x1 t H1 locs1 ht hvm hw hB hz1 hk1 hS
  obtain ⟨hP1, -, -⟩ := hB
  rw [ht] at hP1
  replace hP := jC0 hP hD [1] [0, 2, 3, 4, 5, 6, 7, 8] rfl hk1 hP1 (w_X4_read h0 h_split h_told h_quants h_backs h_rejoined h_scales h_needs h_bits k1 k1_bytes k2 cy n_p2 c_twins c_method c_pool p1_size x1 p1_bytes c_scales p2 c_needs c_bits c_quants c_backs) rfl rfl rfl 9 rfl (by decide +kernel); clear hD; obtain ⟨hP, hD⟩ := hP
  replace hP : va_P (dC, dI) vwCl (w_X4_read h0 h_split h_told h_quants h_backs h_rejoined h_scales h_needs h_bits k1 k1_bytes k2 cy n_p2 c_twins c_method c_pool p1_size x1 p1_bytes c_scales p2 c_needs c_bits c_quants c_backs) H1 := hP
  replace hD : va_D A (w_X4_read h0 h_split h_told h_quants h_backs h_rejoined h_scales h_needs h_bits k1 k1_bytes k2 cy n_p2 c_twins c_method c_pool p1_size x1 p1_bytes c_scales p2 c_needs c_bits c_quants c_backs) := hD
  clear hPc hDc hFc hP1 hk1 hz1 hvm ht; clear t; clear H locs; obtain ⟨H, hH⟩ : ∃ H, H = H1 := ⟨_, rfl⟩; obtain ⟨locs, hlo⟩ : ∃ L, L = locs1 := ⟨_, rfl⟩; subst hH; subst hlo
  refine W.widen (k := 0) (n := 0) (Nat.le_refl 0) (Nat.le_refl 0) ?_
  refine lv_aload_n hx hb dX4_read_4 rfl (lv_at hl 1 rfl) ?_
  refine lv_bipush (v := 8) hx hb dX4_read_5 (by decide) ?_
  have hPc := pSub (ws' := (w_X1_take k1 k1_bytes cy p1_size x1 p1_bytes)) hP [1, 2] rfl
  have hDc := dSub (ws' := (w_X1_take k1 k1_bytes cy p1_size x1 p1_bytes)) hD [1, 2] (by decide) rfl
  have hFc := va_free (wc := (w_X1_take k1 k1_bytes cy p1_size x1 p1_bytes)) hD hS hA [1, 2] rfl
  refine va_calli (va_runV (As := [.int (8 : Int32)]) (rest := []) ⟨hx, hb, hml, hown, hts⟩ (c_X1_take l dC dI cy k1 k1_bytes H.size (8 : Int32) p1_size x1 p1_bytes _ hw) (cwV 1 hts (goodV mw_517 mw_514 mw_515 mw_516 mw_24) rfl rfl rfl (by decide +kernel) ⟨Nat.le_of_ble_eq_true rfl, Nat.le_of_ble_eq_true rfl⟩) ⟨PX_blind, va_recv hK hPc (ci := 1) (q0 := 0) rfl rfl, PX_pre hPc hK hDc hG⟩ rfl rfl hl.1 rfl (lv_room (Nat.le_of_ble_eq_true rfl)) dX4_read_7 ⟨Nat.zero_le _, Nat.zero_le _⟩) hS (fun q _ h => hFc q h) hFc ?_; clear hw hS; intro r3 x2 t H1 locs1 ht hvm hw hB hz1 hk1 hS
  obtain ⟨hP1, -, -⟩ := hB
  rw [ht] at hP1
  replace hP := jC0 hP hD [1, 2] [0, 3, 4, 5, 6, 7, 8] rfl hk1 hP1 (w_X4_read h0 h_split h_told h_quants h_backs h_rejoined h_scales h_needs h_bits k1 k1_bytes k2 cy n_p2 c_twins c_method c_pool p1_size x2 p1_bytes c_scales p2 c_needs c_bits c_quants c_backs) rfl rfl rfl 9 rfl (by decide +kernel); clear hD; obtain ⟨hP, hD⟩ := hP
  replace hP : va_P (dC, dI) vwCl (w_X4_read h0 h_split h_told h_quants h_backs h_rejoined h_scales h_needs h_bits k1 k1_bytes k2 cy n_p2 c_twins c_method c_pool p1_size x2 p1_bytes c_scales p2 c_needs c_bits c_quants c_backs) H1 := hP
  replace hD : va_D A (w_X4_read h0 h_split h_told h_quants h_backs h_rejoined h_scales h_needs h_bits k1 k1_bytes k2 cy n_p2 c_twins c_method c_pool p1_size x2 p1_bytes c_scales p2 c_needs c_bits c_quants c_backs) := hD
  clear hPc hDc hFc hP1 hk1 hz1 hvm ht; clear t; clear H locs; obtain ⟨H, hH⟩ : ∃ H, H = H1 := ⟨_, rfl⟩; obtain ⟨locs, hlo⟩ : ∃ L, L = locs1 := ⟨_, rfl⟩; subst hH; subst hlo
  refine W.widen (k := 0) (n := 0) (Nat.le_refl 0) (Nat.le_refl 0) ?_
  refine lv_pop hx hb dX4_read_10 rfl ?_
  refine lv_aload_n hx hb dX4_read_11 rfl (lv_at hl 1 rfl) ?_
  refine lv_bipush (v := 8) hx hb dX4_read_12 (by decide) ?_
  have hPc := pSub (ws' := (w_X1_take k1 k1_bytes cy p1_size x2 p1_bytes)) hP [1, 2] rfl
  have hDc := dSub (ws' := (w_X1_take k1 k1_bytes cy p1_size x2 p1_bytes)) hD [1, 2] (by decide) rfl
  have hFc := va_free (wc := (w_X1_take k1 k1_bytes cy p1_size x2 p1_bytes)) hD hS hA [1, 2] rfl
  refine va_calli (va_runV (As := [.int (8 : Int32)]) (rest := []) ⟨hx, hb, hml, hown, hts⟩ (c_X1_take l dC dI cy k1 k1_bytes H.size (8 : Int32) p1_size x2 p1_bytes _ hw) (cwV 1 hts (goodV mw_517 mw_514 mw_515 mw_516 mw_24) rfl rfl rfl (by decide +kernel) ⟨Nat.le_of_ble_eq_true rfl, Nat.le_of_ble_eq_true rfl⟩) ⟨PX_blind, va_recv hK hPc (ci := 1) (q0 := 0) rfl rfl, PX_pre hPc hK hDc hG⟩ rfl rfl hl.1 rfl (lv_room (Nat.le_of_ble_eq_true rfl)) dX4_read_14 ⟨Nat.zero_le _, Nat.zero_le _⟩) hS (fun q _ h => hFc q h) hFc ?_; clear hw hS; intro r5 x4 t H1 locs1 ht hvm hw hB hz1 hk1 hS
  obtain ⟨hP1, -, -⟩ := hB
  rw [ht] at hP1
  replace hP := jC0 hP hD [1, 2] [0, 3, 4, 5, 6, 7, 8] rfl hk1 hP1 (w_X4_read h0 h_split h_told h_quants h_backs h_rejoined h_scales h_needs h_bits k1 k1_bytes k2 cy n_p2 c_twins c_method c_pool p1_size x4 p1_bytes c_scales p2 c_needs c_bits c_quants c_backs) rfl rfl rfl 9 rfl (by decide +kernel); clear hD; obtain ⟨hP, hD⟩ := hP
  replace hP : va_P (dC, dI) vwCl (w_X4_read h0 h_split h_told h_quants h_backs h_rejoined h_scales h_needs h_bits k1 k1_bytes k2 cy n_p2 c_twins c_method c_pool p1_size x4 p1_bytes c_scales p2 c_needs c_bits c_quants c_backs) H1 := hP
  replace hD : va_D A (w_X4_read h0 h_split h_told h_quants h_backs h_rejoined h_scales h_needs h_bits k1 k1_bytes k2 cy n_p2 c_twins c_method c_pool p1_size x4 p1_bytes c_scales p2 c_needs c_bits c_quants c_backs) := hD
  clear hPc hDc hFc hP1 hk1 hz1 hvm ht; clear t; clear H locs; obtain ⟨H, hH⟩ : ∃ H, H = H1 := ⟨_, rfl⟩; obtain ⟨locs, hlo⟩ : ∃ L, L = locs1 := ⟨_, rfl⟩; subst hH; subst hlo
  refine W.widen (k := 0) (n := 0) (Nat.le_refl 0) (Nat.le_refl 0) ?_
  refine lv_bipush (v := 7) hx hb dX4_read_17 (by decide) ?_
  refine lv_ishr hx hb dX4_read_19 ?_
  refine lv_topi (fun x6 e_x6 => ?_)
  replace hw := hw x6 e_x6
  clear e_x6
  refine lv_istore_n (lv' := [(3, .int x6), (0, .ref h0), (1, .ref k1), (2, .ref k2)]) hx hb dX4_read_20 rfl hl (by decide) rfl ?_; clear hl; clear ls; intro ls hl
  refine lv_aload_n hx hb dX4_read_21 rfl (lv_at hl 2 rfl) ?_
  refine lv_bipush (v := 8) hx hb dX4_read_22 (by decide) ?_
  have hPc := pSub (ws' := (w_X1_take k1 k1_bytes cy p1_size x4 p1_bytes)) hP [1, 2] rfl
  have hDc := dSub (ws' := (w_X1_take k1 k1_bytes cy p1_size x4 p1_bytes)) hD [1, 2] (by decide) rfl
  have hFc := va_free (wc := (w_X1_take k1 k1_bytes cy p1_size x4 p1_bytes)) hD hS hA [1, 2] rfl
  refine va_calli (va_runV (As := [.int (8 : Int32)]) (rest := []) ⟨hx, hb, hml, hown, hts⟩ (c_X1_take l dC dI cy k1 k1_bytes H.size (8 : Int32) p1_size x4 p1_bytes _ hw) (cwV 1 hts (goodV mw_517 mw_514 mw_515 mw_516 mw_24) rfl rfl rfl (by decide +kernel) ⟨Nat.le_of_ble_eq_true rfl, Nat.le_of_ble_eq_true rfl⟩) ⟨PX_blind, va_recv hK hPc (ci := 1) (q0 := 0) rfl rfl, PX_pre hPc hK hDc hG⟩ rfl rfl hl.1 rfl (lv_room (Nat.le_of_ble_eq_true rfl)) dX4_read_24 ⟨Nat.zero_le _, Nat.zero_le _⟩) hS (fun q _ h => hFc q h) hFc ?_; clear hw hS; intro r8 x7 t H1 locs1 ht hvm hw hB hz1 hk1 hS
  obtain ⟨hP1, -, -⟩ := hB
  rw [ht] at hP1
  replace hP := jC0 hP hD [1, 2] [0, 3, 4, 5, 6, 7, 8] rfl hk1 hP1 (w_X4_read h0 h_split h_told h_quants h_backs h_rejoined h_scales h_needs h_bits k1 k1_bytes k2 cy n_p2 c_twins c_method c_pool p1_size x7 p1_bytes c_scales p2 c_needs c_bits c_quants c_backs) rfl rfl rfl 9 rfl (by decide +kernel); clear hD; obtain ⟨hP, hD⟩ := hP
  replace hP : va_P (dC, dI) vwCl (w_X4_read h0 h_split h_told h_quants h_backs h_rejoined h_scales h_needs h_bits k1 k1_bytes k2 cy n_p2 c_twins c_method c_pool p1_size x7 p1_bytes c_scales p2 c_needs c_bits c_quants c_backs) H1 := hP
  replace hD : va_D A (w_X4_read h0 h_split h_told h_quants h_backs h_rejoined h_scales h_needs h_bits k1 k1_bytes k2 cy n_p2 c_twins c_method c_pool p1_size x7 p1_bytes c_scales p2 c_needs c_bits c_quants c_backs) := hD
  clear hPc hDc hFc hP1 hk1 hz1 hvm ht; clear t; clear H locs; obtain ⟨H, hH⟩ : ∃ H, H = H1 := ⟨_, rfl⟩; obtain ⟨locs, hlo⟩ : ∃ L, L = locs1 := ⟨_, rfl⟩; subst hH; subst hlo
  refine W.widen (k := 0) (n := 0) (Nat.le_refl 0) (Nat.le_refl 0) ?_
  refine lv_istore (lv' := [(4, .int r8), (3, .int x6), (0, .ref h0), (1, .ref k1), (2, .ref k2)]) hx hb dX4_read_27 hl (by decide) rfl ?_; clear hl; clear ls; intro ls hl
  refine lv_aload_n hx hb dX4_read_29 rfl (lv_at hl 3 rfl) ?_
  refine lv_bipush (v := 8) hx hb dX4_read_30 (by decide) ?_
  have hPc := pSub (ws' := (w_X1_take k1 k1_bytes cy p1_size x7 p1_bytes)) hP [1, 2] rfl
  have hDc := dSub (ws' := (w_X1_take k1 k1_bytes cy p1_size x7 p1_bytes)) hD [1, 2] (by decide) rfl
  have hFc := va_free (wc := (w_X1_take k1 k1_bytes cy p1_size x7 p1_bytes)) hD hS hA [1, 2] rfl
  refine va_calli (va_runV (As := [.int (8 : Int32)]) (rest := []) ⟨hx, hb, hml, hown, hts⟩ (c_X1_take l dC dI cy k1 k1_bytes H.size (8 : Int32) p1_size x7 p1_bytes _ hw) (cwV 1 hts (goodV mw_517 mw_514 mw_515 mw_516 mw_24) rfl rfl rfl (by decide +kernel) ⟨Nat.le_of_ble_eq_true rfl, Nat.le_of_ble_eq_true rfl⟩) ⟨PX_blind, va_recv hK hPc (ci := 1) (q0 := 0) rfl rfl, PX_pre hPc hK hDc hG⟩ rfl rfl hl.1 rfl (lv_room (Nat.le_of_ble_eq_true rfl)) dX4_read_32 ⟨Nat.zero_le _, Nat.zero_le _⟩) hS (fun q _ h => hFc q h) hFc ?_; clear hw hS; intro r10 x9 t H1 locs1 ht hvm hw hB hz1 hk1 hS
  obtain ⟨hP1, -, -⟩ := hB
  rw [ht] at hP1
  replace hP := jC0 hP hD [1, 2] [0, 3, 4, 5, 6, 7, 8] rfl hk1 hP1 (w_X4_read h0 h_split h_told h_quants h_backs h_rejoined h_scales h_needs h_bits k1 k1_bytes k2 cy n_p2 c_twins c_method c_pool p1_size x9 p1_bytes c_scales p2 c_needs c_bits c_quants c_backs) rfl rfl rfl 9 rfl (by decide +kernel); clear hD; obtain ⟨hP, hD⟩ := hP
  replace hP : va_P (dC, dI) vwCl (w_X4_read h0 h_split h_told h_quants h_backs h_rejoined h_scales h_needs h_bits k1 k1_bytes k2 cy n_p2 c_twins c_method c_pool p1_size x9 p1_bytes c_scales p2 c_needs c_bits c_quants c_backs) H1 := hP
  replace hD : va_D A (w_X4_read h0 h_split h_told h_quants h_backs h_rejoined h_scales h_needs h_bits k1 k1_bytes k2 cy n_p2 c_twins c_method c_pool p1_size x9 p1_bytes c_scales p2 c_needs c_bits c_quants c_backs) := hD
  clear hPc hDc hFc hP1 hk1 hz1 hvm ht; clear t; clear H locs; obtain ⟨H, hH⟩ : ∃ H, H = H1 := ⟨_, rfl⟩; obtain ⟨locs, hlo⟩ : ∃ L, L = locs1 := ⟨_, rfl⟩; subst hH; subst hlo
  refine W.widen (k := 0) (n := 0) (Nat.le_refl 0) (Nat.le_refl 0) ?_
  refine lv_pop hx hb dX4_read_35 rfl ?_
  refine lv_aload_n hx hb dX4_read_36 rfl (lv_at hl 2 rfl) ?_
  refine lv_aload_n hx hb dX4_read_37 rfl (lv_at hl 3 rfl) ?_
  refine lv_bipush (v := 8) hx hb dX4_read_38 (by decide) ?_
  have hPc := pSub (ws' := (w_X1_take k1 k1_bytes cy p1_size x9 p1_bytes)) hP [1, 2] rfl
  have hDc := dSub (ws' := (w_X1_take k1 k1_bytes cy p1_size x9 p1_bytes)) hD [1, 2] (by decide) rfl
  have hFc := va_free (wc := (w_X1_take k1 k1_bytes cy p1_size x9 p1_bytes)) hD hS hA [1, 2] rfl
  refine va_calli (va_runV (As := [.int (8 : Int32)]) (rest := [.ref h0]) ⟨hx, hb, hml, hown, hts⟩ (c_X1_take l dC dI cy k1 k1_bytes H.size (8 : Int32) p1_size x9 p1_bytes _ hw) (cwV 1 hts (goodV mw_517 mw_514 mw_515 mw_516 mw_24) rfl rfl rfl (by decide +kernel) ⟨Nat.le_of_ble_eq_true rfl, Nat.le_of_ble_eq_true rfl⟩) ⟨PX_blind, va_recv hK hPc (ci := 1) (q0 := 0) rfl rfl, PX_pre hPc hK hDc hG⟩ rfl rfl hl.1 rfl (lv_room (Nat.le_of_ble_eq_true rfl)) dX4_read_40 ⟨Nat.zero_le _, Nat.zero_le _⟩) hS (fun q _ h => hFc q h) hFc ?_; clear hw hS; intro r12 x11 t H1 locs1 ht hvm hw hB hz1 hk1 hS
  obtain ⟨hP1, -, -⟩ := hB
  rw [ht] at hP1
  replace hP := jC0 hP hD [1, 2] [0, 3, 4, 5, 6, 7, 8] rfl hk1 hP1 (w_X4_read h0 h_split h_told h_quants h_backs h_rejoined h_scales h_needs h_bits k1 k1_bytes k2 cy n_p2 c_twins c_method c_pool p1_size x11 p1_bytes c_scales p2 c_needs c_bits c_quants c_backs) rfl rfl rfl 9 rfl (by decide +kernel); clear hD; obtain ⟨hP, hD⟩ := hP
  replace hP : va_P (dC, dI) vwCl (w_X4_read h0 h_split h_told h_quants h_backs h_rejoined h_scales h_needs h_bits k1 k1_bytes k2 cy n_p2 c_twins c_method c_pool p1_size x11 p1_bytes c_scales p2 c_needs c_bits c_quants c_backs) H1 := hP
  replace hD : va_D A (w_X4_read h0 h_split h_told h_quants h_backs h_rejoined h_scales h_needs h_bits k1 k1_bytes k2 cy n_p2 c_twins c_method c_pool p1_size x11 p1_bytes c_scales p2 c_needs c_bits c_quants c_backs) := hD
  clear hPc hDc hFc hP1 hk1 hz1 hvm ht; clear t; clear H locs; obtain ⟨H, hH⟩ : ∃ H, H = H1 := ⟨_, rfl⟩; obtain ⟨locs, hlo⟩ : ∃ L, L = locs1 := ⟨_, rfl⟩; subst hH; subst hlo
  refine W.widen (k := 0) (n := 0) (Nat.le_refl 0) (Nat.le_refl 0) ?_
  refine va_put (D := (dC, dI)) (ci := 4) (v := .int r12) (ty := .int) (C := RX4) (T := TX4) (N := 11) hx hb hts inX4 tyX4 tyX4_ok nmX4 hown hK hP hD hS 0 rfl rfl 8 (by decide) (hts _ (List.mem_cons_of_mem _ mw_128)) (fun _ h9 => h9) rfl (by decide +kernel) rfl rfl (Nat.le_of_ble_eq_true rfl) dX4_read_43 ?_; clear hP hD hS; clear H locs; intro H locs hP hD hS
  replace hP : va_P (dC, dI) vwCl (w_X4_read h0 h_split h_told h_quants h_backs h_rejoined h_scales h_needs h_bits k1 k1_bytes k2 cy n_p2 r12 c_method c_pool p1_size x11 p1_bytes c_scales p2 c_needs c_bits c_quants c_backs) H := hP
  replace hD : va_D A (w_X4_read h0 h_split h_told h_quants h_backs h_rejoined h_scales h_needs h_bits k1 k1_bytes k2 cy n_p2 r12 c_method c_pool p1_size x11 p1_bytes c_scales p2 c_needs c_bits c_quants c_backs) := hD
  refine lv_iconst (v := 0) hx hb dX4_read_46 (by decide) ?_
  refine lv_istore (lv' := [(5, .int (0 : Int32)), (4, .int r8), (3, .int x6), (0, .ref h0), (1, .ref k1), (2, .ref k2)]) hx hb dX4_read_47 hl (by decide) rfl ?_; clear hl; clear ls; intro ls hl
  obtain ⟨x13, e_x13⟩ : ∃ y : Int32, y = (0 : Int32) := ⟨_, rfl⟩
  replace hw := hw x13 e_x13
  replace hl : lv_has ls 7 [(5, .int x13), (4, .int r8), (3, .int x6), (0, .ref h0), (1, .ref k1), (2, .ref k2)] := by rw [e_x13]; exact hl
  clear e_x13
  replace hl := lv_sub (l' := [(5, .int x13), (4, .int r8), (3, .int x6), (0, .ref h0), (1, .ref k1), (2, .ref k2)]) hl [0, 1, 2, 3, 4, 5] rfl
  revert hl; revert hS; revert hD; revert hP; revert ls; revert locs; revert H
  revert hw; revert c_scales; revert x11; revert x13
  refine Lz3_gr ?_; intro g14 ih15 x16 x17 f18 hw
  intro H locs ls hP hD hS hl
  refine lv_iload hx hb dX4_read_49 (lv_at hl 0 rfl) ?_
  refine lv_bipush (v := 16) hx hb dX4_read_51 (by decide) ?_
  refine lv_icmp_ge (tgt := 74) hx hb dX4_read_53 (by decide) (fun c19 => ?_) (fun c19 => ?_)
  · replace hw := hw.1 c19
    clear ih15
    refine lv_aload_n hx hb dX4_read_74 rfl (lv_at hl 3 rfl) ?_
    refine lv_iload hx hb dX4_read_75 (lv_at hl 1 rfl) ?_
    refine lv_iload_n hx hb dX4_read_77 rfl (lv_at hl 2 rfl) ?_
    refine lv_aload_n hx hb dX4_read_78 rfl (lv_at hl 5 rfl) ?_
    have hPc := pSub (ws' := (w_X4_deal h0 h_split h_told h_quants h_backs h_rejoined h_scales h_needs h_bits k2 cy n_p2 r12 c_method c_pool f18 p2 c_needs c_bits)) hP [0, 3, 4, 5, 6] rfl
    have hDc := dSub (ws' := (w_X4_deal h0 h_split h_told h_quants h_backs h_rejoined h_scales h_needs h_bits k2 cy n_p2 r12 c_method c_pool f18 p2 c_needs c_bits)) hD [0, 3, 4, 5, 6] (by decide) rfl
    have hFc := va_free (wc := (w_X4_deal h0 h_split h_told h_quants h_backs h_rejoined h_scales h_needs h_bits k2 cy n_p2 r12 c_method c_pool f18 p2 c_needs c_bits)) hD hS hA [0, 3, 4, 5, 6] rfl
    refine va_callv (va_runV (As := [.int r8, .int x6, .ref k2]) (rest := []) ⟨hx, hb, hml, hown, hts⟩ (c_X4_deal l dC dI cy h0 h_split h_told h_quants h_backs h_rejoined h_scales h_needs h_bits k2 n_p2 H.size r8 x6 r12 c_method c_pool f18 p2 c_needs c_bits _ hw) (cwV 3 hts (goodV mw_314 mw_518 mw_312 mw_313 mw_20) rfl rfl rfl (by decide +kernel) ⟨Nat.le_of_ble_eq_true rfl, Nat.le_of_ble_eq_true rfl⟩) ⟨PX_blind, va_recv hK hPc (ci := 4) (q0 := 0) rfl rfl, PX_pre hPc hK hDc hG⟩ rfl rfl hl.1 rfl (lv_room (Nat.le_of_ble_eq_true rfl)) dX4_read_79 ⟨Nat.zero_le _, Nat.zero_le _⟩) hS (fun q _ h => hFc q h) hFc ?_; clear hw hS; intro u t H1 locs1 ht hvm hw hB hz1 hk1 hS
    obtain ⟨x20, x21, f22, f23⟩ := u
    try dsimp only at hw
    obtain ⟨hP1, -, -⟩ := hB
    rw [ht] at hP1
    replace hP := jC0 hP hD [0, 3, 4, 5, 6] [1, 2, 7, 8] rfl hk1 hP1 (w_X4_read h0 h_split h_told h_quants h_backs h_rejoined h_scales h_needs h_bits k1 k1_bytes k2 cy n_p2 r12 x20 x21 p1_size x17 p1_bytes f18 p2 f22 f23 c_quants c_backs) rfl rfl rfl 9 rfl (by decide +kernel); clear hD; obtain ⟨hP, hD⟩ := hP
    replace hP : va_P (dC, dI) vwCl (w_X4_read h0 h_split h_told h_quants h_backs h_rejoined h_scales h_needs h_bits k1 k1_bytes k2 cy n_p2 r12 x20 x21 p1_size x17 p1_bytes f18 p2 f22 f23 c_quants c_backs) H1 := hP
    replace hD : va_D A (w_X4_read h0 h_split h_told h_quants h_backs h_rejoined h_scales h_needs h_bits k1 k1_bytes k2 cy n_p2 r12 x20 x21 p1_size x17 p1_bytes f18 p2 f22 f23 c_quants c_backs) := hD
    clear hPc hDc hFc hP1 hk1 hz1 hvm ht; clear t; clear H locs; obtain ⟨H, hH⟩ : ∃ H, H = H1 := ⟨_, rfl⟩; obtain ⟨locs, hlo⟩ : ∃ L, L = locs1 := ⟨_, rfl⟩; subst hH; subst hlo
    refine W.widen (k := 0) (n := 0) (Nat.le_refl 0) (Nat.le_refl 0) ?_
    refine lv_iconst (v := 0) hx hb dX4_read_82 (by decide) ?_
    refine lv_istore (lv' := [(5, .int (0 : Int32)), (4, .int r8), (3, .int x6), (0, .ref h0), (1, .ref k1), (2, .ref k2)]) hx hb dX4_read_83 hl (by decide) rfl ?_; clear hl; clear ls; intro ls hl
    obtain ⟨x24, e_x24⟩ : ∃ y : Int32, y = (0 : Int32) := ⟨_, rfl⟩
    replace hw := hw x24 e_x24
    replace hl : lv_has ls 7 [(5, .int x24), (4, .int r8), (3, .int x6), (0, .ref h0), (1, .ref k1), (2, .ref k2)] := by rw [e_x24]; exact hl
    clear e_x24
    replace hl := lv_sub (l' := [(5, .int x24), (0, .ref h0), (1, .ref k1)]) hl [0, 3, 4] rfl
    revert hl; revert hS; revert hD; revert hP; revert ls; revert locs; revert H
    revert hw; revert c_backs; revert c_quants; revert x17; revert x24
    refine Lz4_gr ?_; intro g25 ih26 x27 x28 f29 f30 hw
    intro H locs ls hP hD hS hl
    refine lv_iload hx hb dX4_read_85 (lv_at hl 0 rfl) ?_
    refine lv_bipush (v := 64) hx hb dX4_read_87 (by decide) ?_
    refine lv_icmp_ge (tgt := 154) hx hb dX4_read_89 (by decide) (fun c31 => ?_) (fun c31 => ?_)
    · replace hw := hw.1 c31
      clear ih26
      subst hQe
      exact W.vret hx hb hr (fun t ht hW => ⟨⟨(r12, x20, x21, x28, f18, f22, f23, f29, f30), rfl, hw, by rw [ht]; exact hP, va_K.moved hW.alike hK, hD⟩, hS.F ht⟩) hS.2.2 dX4_read_154
    · replace hw := hw.2 c31
      refine lv_iload hx hb dX4_read_92 (lv_at hl 0 rfl) ?_
      refine lv_bipush (v := 16) hx hb dX4_read_94 (by decide) ?_
      refine lv_irem hx hb dX4_read_96 (by decide) ?_
      refine lv_topi (fun x32 e_x32 => ?_)
      replace hw := hw x32 e_x32
      clear e_x32
      refine lv_istore (lv' := [(6, .int x32), (5, .int x27), (0, .ref h0), (1, .ref k1)]) hx hb dX4_read_97 hl (by decide) rfl ?_; clear hl; clear ls; intro ls hl
      refine lv_aload_n hx hb dX4_read_99 rfl (lv_at hl 2 rfl) ?_
      refine va_get (D := (dC, dI)) (ci := 4) (v := .ref h_quants) (C := RX4) (T := TX4) (N := 11) hx hb hts inX4 hown hK hP 0 rfl rfl 2 (by decide) (hts _ (List.mem_cons_of_mem _ mw_122)) (fun _ h9 => h9) rfl dX4_read_100 ?_
      refine lv_iload hx hb dX4_read_103 (lv_at hl 1 rfl) ?_
      refine lv_aload_n hx hb dX4_read_105 rfl (lv_at hl 3 rfl) ?_
      refine lv_aload_n hx hb dX4_read_106 rfl (lv_at hl 2 rfl) ?_
      refine va_get (D := (dC, dI)) (ci := 4) (v := .ref h_bits) (C := RX4) (T := TX4) (N := 11) hx hb hts inX4 hown hK hP 0 rfl rfl 7 (by decide) (hts _ (List.mem_cons_of_mem _ mw_127)) (fun _ h9 => h9) rfl dX4_read_107 ?_
      refine lv_iload hx hb dX4_read_110 (lv_at hl 0 rfl) ?_
      obtain ⟨h33, hw⟩ := hw
      refine xiald (k := x32.toNatClampNeg) hx hb hK hP 6 0 rfl rfl h33 rfl dX4_read_112 ?_
      have hPc := pSub (ws' := (w_X1_take k1 k1_bytes cy p1_size x28 p1_bytes)) hP [1, 2] rfl
      have hDc := dSub (ws' := (w_X1_take k1 k1_bytes cy p1_size x28 p1_bytes)) hD [1, 2] (by decide) rfl
      have hFc := va_free (wc := (w_X1_take k1 k1_bytes cy p1_size x28 p1_bytes)) hD hS hA [1, 2] rfl
      refine va_calli (va_runV (As := [.int (f23 x32.toNatClampNeg)]) (rest := [.int x27, .ref h_quants]) ⟨hx, hb, hml, hown, hts⟩ (c_X1_take l dC dI cy k1 k1_bytes H.size (f23 x32.toNatClampNeg) p1_size x28 p1_bytes _ hw) (cwV 1 hts (goodV mw_517 mw_514 mw_515 mw_516 mw_24) rfl rfl rfl (by decide +kernel) ⟨Nat.le_of_ble_eq_true rfl, Nat.le_of_ble_eq_true rfl⟩) ⟨PX_blind, va_recv hK hPc (ci := 1) (q0 := 0) rfl rfl, PX_pre hPc hK hDc hG⟩ rfl rfl hl.1 rfl (lv_room (Nat.le_of_ble_eq_true rfl)) dX4_read_113 ⟨Nat.zero_le _, Nat.zero_le _⟩) hS (fun q _ h => hFc q h) hFc ?_; clear hw hS; intro r35 x34 t H1 locs1 ht hvm hw hB hz1 hk1 hS
      obtain ⟨hP1, -, -⟩ := hB
      rw [ht] at hP1
      replace hP := jC0 hP hD [1, 2] [0, 3, 4, 5, 6, 7, 8] rfl hk1 hP1 (w_X4_read h0 h_split h_told h_quants h_backs h_rejoined h_scales h_needs h_bits k1 k1_bytes k2 cy n_p2 r12 x20 x21 p1_size x34 p1_bytes f18 p2 f22 f23 f29 f30) rfl rfl rfl 9 rfl (by decide +kernel); clear hD; obtain ⟨hP, hD⟩ := hP
      replace hP : va_P (dC, dI) vwCl (w_X4_read h0 h_split h_told h_quants h_backs h_rejoined h_scales h_needs h_bits k1 k1_bytes k2 cy n_p2 r12 x20 x21 p1_size x34 p1_bytes f18 p2 f22 f23 f29 f30) H1 := hP
      replace hD : va_D A (w_X4_read h0 h_split h_told h_quants h_backs h_rejoined h_scales h_needs h_bits k1 k1_bytes k2 cy n_p2 r12 x20 x21 p1_size x34 p1_bytes f18 p2 f22 f23 f29 f30) := hD
      clear hPc hDc hFc hP1 hk1 hz1 hvm ht; clear t; clear H locs; obtain ⟨H, hH⟩ : ∃ H, H = H1 := ⟨_, rfl⟩; obtain ⟨locs, hlo⟩ : ∃ L, L = locs1 := ⟨_, rfl⟩; subst hH; subst hlo
      refine W.widen (k := 0) (n := 0) (Nat.le_refl 0) (Nat.le_refl 0) ?_
      obtain ⟨h36, hw⟩ := hw
      refine xiast (k := x27.toNatClampNeg) hx hb hK hP hD hS 7 0 rfl rfl h36 rfl dX4_read_116 ?_; clear hP hD hS; clear H locs; intro f37 e_f37 H locs hP hD hS
      replace hw := hw f37 e_f37
      clear e_f37
      replace hP : va_P (dC, dI) vwCl (w_X4_read h0 h_split h_told h_quants h_backs h_rejoined h_scales h_needs h_bits k1 k1_bytes k2 cy n_p2 r12 x20 x21 p1_size x34 p1_bytes f18 p2 f22 f23 f37 f30) H := hP
      replace hD : va_D A (w_X4_read h0 h_split h_told h_quants h_backs h_rejoined h_scales h_needs h_bits k1 k1_bytes k2 cy n_p2 r12 x20 x21 p1_size x34 p1_bytes f18 p2 f22 f23 f37 f30) := hD
      refine lv_aload_n hx hb dX4_read_117 rfl (lv_at hl 2 rfl) ?_
      refine va_get (D := (dC, dI)) (ci := 4) (v := .ref h_backs) (C := RX4) (T := TX4) (N := 11) hx hb hts inX4 hown hK hP 0 rfl rfl 3 (by decide) (hts _ (List.mem_cons_of_mem _ mw_123)) (fun _ h9 => h9) rfl dX4_read_118 ?_
      refine lv_iload hx hb dX4_read_121 (lv_at hl 1 rfl) ?_
      refine lv_aload_n hx hb dX4_read_123 rfl (lv_at hl 2 rfl) ?_
      refine va_get (D := (dC, dI)) (ci := 4) (v := .ref h_quants) (C := RX4) (T := TX4) (N := 11) hx hb hts inX4 hown hK hP 0 rfl rfl 2 (by decide) (hts _ (List.mem_cons_of_mem _ mw_122)) (fun _ h9 => h9) rfl dX4_read_124 ?_
      refine lv_iload hx hb dX4_read_127 (lv_at hl 1 rfl) ?_
      obtain ⟨h38, hw⟩ := hw
      refine xiald (k := x27.toNatClampNeg) hx hb hK hP 7 0 rfl rfl h38 rfl dX4_read_129 ?_
      refine lv_aload_n hx hb dX4_read_130 rfl (lv_at hl 2 rfl) ?_
      refine va_get (D := (dC, dI)) (ci := 4) (v := .ref h_scales) (C := RX4) (T := TX4) (N := 11) hx hb hts inX4 hown hK hP 0 rfl rfl 5 (by decide) (hts _ (List.mem_cons_of_mem _ mw_125)) (fun _ h9 => h9) rfl dX4_read_131 ?_
      refine lv_iload hx hb dX4_read_134 (lv_at hl 0 rfl) ?_
      obtain ⟨h39, hw⟩ := hw
      refine xiald (k := x32.toNatClampNeg) hx hb hK hP 3 0 rfl rfl h39 rfl dX4_read_136 ?_
      refine lv_aload_n hx hb dX4_read_137 rfl (lv_at hl 2 rfl) ?_
      refine va_get (D := (dC, dI)) (ci := 4) (v := .ref h_bits) (C := RX4) (T := TX4) (N := 11) hx hb hts inX4 hown hK hP 0 rfl rfl 7 (by decide) (hts _ (List.mem_cons_of_mem _ mw_127)) (fun _ h9 => h9) rfl dX4_read_138 ?_
      refine lv_iload hx hb dX4_read_141 (lv_at hl 0 rfl) ?_
      obtain ⟨h40, hw⟩ := hw
      refine xiald (k := x32.toNatClampNeg) hx hb hK hP 6 0 rfl rfl h40 rfl dX4_read_143 ?_
      have hPc := pSub (ws' := (w_X4_backOf cy)) hP [] rfl
      have hDc := dSub (ws' := (w_X4_backOf cy)) hD [] (by decide) rfl
      have hFc := va_free (wc := (w_X4_backOf cy)) hD hS hA [] rfl
      refine va_calli (va_runS (As := [.int (f37 x27.toNatClampNeg), .int (f18 x32.toNatClampNeg), .int (f23 x32.toNatClampNeg)]) (rest := [.int x27, .ref h_backs]) ⟨hx, hb, hml, hown, hts⟩ (c_X4_backOf l dC dI cy  H.size (f37 x27.toNatClampNeg) (f18 x32.toNatClampNeg) (f23 x32.toNatClampNeg) _ hw) (va_cwS 3 hts (goodS mw_338 mw_336 mw_337 mw_20) rfl rfl rfl (by decide +kernel) ⟨Nat.le_of_ble_eq_true rfl, Nat.le_of_ble_eq_true rfl⟩) ⟨PX_blind, PX_pre hPc hK hDc hG⟩ rfl rfl hl.1 rfl (lv_room (Nat.le_of_ble_eq_true rfl)) dX4_read_144 ⟨Nat.zero_le _, Nat.zero_le _⟩) hS (fun q _ h => hFc q h) hFc ?_; clear hw hS; intro r41 _ t H1 locs1 ht hvm hw hB hz1 hk1 hS
      obtain ⟨hP1, -, -⟩ := hB
      rw [ht] at hP1
      replace hP := jC0 hP hD [] [0, 1, 2, 3, 4, 5, 6, 7, 8] rfl hk1 hP1 (w_X4_read h0 h_split h_told h_quants h_backs h_rejoined h_scales h_needs h_bits k1 k1_bytes k2 cy n_p2 r12 x20 x21 p1_size x34 p1_bytes f18 p2 f22 f23 f37 f30) rfl rfl rfl 9 rfl (by decide +kernel); clear hD; obtain ⟨hP, hD⟩ := hP
      replace hP : va_P (dC, dI) vwCl (w_X4_read h0 h_split h_told h_quants h_backs h_rejoined h_scales h_needs h_bits k1 k1_bytes k2 cy n_p2 r12 x20 x21 p1_size x34 p1_bytes f18 p2 f22 f23 f37 f30) H1 := hP
      replace hD : va_D A (w_X4_read h0 h_split h_told h_quants h_backs h_rejoined h_scales h_needs h_bits k1 k1_bytes k2 cy n_p2 r12 x20 x21 p1_size x34 p1_bytes f18 p2 f22 f23 f37 f30) := hD
      clear hPc hDc hFc hP1 hk1 hz1 hvm ht; clear t; clear H locs; obtain ⟨H, hH⟩ : ∃ H, H = H1 := ⟨_, rfl⟩; obtain ⟨locs, hlo⟩ : ∃ L, L = locs1 := ⟨_, rfl⟩; subst hH; subst hlo
      refine W.widen (k := 0) (n := 0) (Nat.le_refl 0) (Nat.le_refl 0) ?_
      obtain ⟨h42, hw⟩ := hw
      refine xiast (k := x27.toNatClampNeg) hx hb hK hP hD hS 8 0 rfl rfl h42 rfl dX4_read_147 ?_; clear hP hD hS; clear H locs; intro f43 e_f43 H locs hP hD hS
      replace hw := hw f43 e_f43
      clear e_f43
      replace hP : va_P (dC, dI) vwCl (w_X4_read h0 h_split h_told h_quants h_backs h_rejoined h_scales h_needs h_bits k1 k1_bytes k2 cy n_p2 r12 x20 x21 p1_size x34 p1_bytes f18 p2 f22 f23 f37 f43) H := hP
      replace hD : va_D A (w_X4_read h0 h_split h_told h_quants h_backs h_rejoined h_scales h_needs h_bits k1 k1_bytes k2 cy n_p2 r12 x20 x21 p1_size x34 p1_bytes f18 p2 f22 f23 f37 f43) := hD
      refine lv_iinc (v := x27 + 1) (lv' := [(5, .int (x27 + 1)), (6, .int x32), (0, .ref h0), (1, .ref k1)]) hx hb dX4_read_148 hl (k := 1) rfl rfl (by decide) rfl ?_; clear hl; clear ls; intro ls hl
      refine lv_goto (tgt := 85) hx hb dX4_read_151 (by decide) ?_
      exact ih26 (x27 + 1) x34 f37 f43 hw H locs ls hP hD hS (lv_sub hl [0, 2, 3] rfl)
  · replace hw := hw.2 c19
    refine lv_aload_n hx hb dX4_read_56 rfl (lv_at hl 3 rfl) ?_
    refine va_get (D := (dC, dI)) (ci := 4) (v := .ref h_scales) (C := RX4) (T := TX4) (N := 11) hx hb hts inX4 hown hK hP 0 rfl rfl 5 (by decide) (hts _ (List.mem_cons_of_mem _ mw_125)) (fun _ h9 => h9) rfl dX4_read_57 ?_
    refine lv_iload hx hb dX4_read_60 (lv_at hl 0 rfl) ?_
    refine lv_aload_n hx hb dX4_read_62 rfl (lv_at hl 4 rfl) ?_
    refine lv_iconst (v := 4) hx hb dX4_read_63 (by decide) ?_
    have hPc := pSub (ws' := (w_X1_take k1 k1_bytes cy p1_size x17 p1_bytes)) hP [1, 2] rfl
    have hDc := dSub (ws' := (w_X1_take k1 k1_bytes cy p1_size x17 p1_bytes)) hD [1, 2] (by decide) rfl
    have hFc := va_free (wc := (w_X1_take k1 k1_bytes cy p1_size x17 p1_bytes)) hD hS hA [1, 2] rfl
    refine va_calli (va_runV (As := [.int (4 : Int32)]) (rest := [.int x16, .ref h_scales]) ⟨hx, hb, hml, hown, hts⟩ (c_X1_take l dC dI cy k1 k1_bytes H.size (4 : Int32) p1_size x17 p1_bytes _ hw) (cwV 1 hts (goodV mw_517 mw_514 mw_515 mw_516 mw_24) rfl rfl rfl (by decide +kernel) ⟨Nat.le_of_ble_eq_true rfl, Nat.le_of_ble_eq_true rfl⟩) ⟨PX_blind, va_recv hK hPc (ci := 1) (q0 := 0) rfl rfl, PX_pre hPc hK hDc hG⟩ rfl rfl hl.1 rfl (lv_room (Nat.le_of_ble_eq_true rfl)) dX4_read_64 ⟨Nat.zero_le _, Nat.zero_le _⟩) hS (fun q _ h => hFc q h) hFc ?_; clear hw hS; intro r45 x44 t H1 locs1 ht hvm hw hB hz1 hk1 hS
    obtain ⟨hP1, -, -⟩ := hB
    rw [ht] at hP1
    replace hP := jC0 hP hD [1, 2] [0, 3, 4, 5, 6, 7, 8] rfl hk1 hP1 (w_X4_read h0 h_split h_told h_quants h_backs h_rejoined h_scales h_needs h_bits k1 k1_bytes k2 cy n_p2 r12 c_method c_pool p1_size x44 p1_bytes f18 p2 c_needs c_bits c_quants c_backs) rfl rfl rfl 9 rfl (by decide +kernel); clear hD; obtain ⟨hP, hD⟩ := hP
    replace hP : va_P (dC, dI) vwCl (w_X4_read h0 h_split h_told h_quants h_backs h_rejoined h_scales h_needs h_bits k1 k1_bytes k2 cy n_p2 r12 c_method c_pool p1_size x44 p1_bytes f18 p2 c_needs c_bits c_quants c_backs) H1 := hP
    replace hD : va_D A (w_X4_read h0 h_split h_told h_quants h_backs h_rejoined h_scales h_needs h_bits k1 k1_bytes k2 cy n_p2 r12 c_method c_pool p1_size x44 p1_bytes f18 p2 c_needs c_bits c_quants c_backs) := hD
    clear hPc hDc hFc hP1 hk1 hz1 hvm ht; clear t; clear H locs; obtain ⟨H, hH⟩ : ∃ H, H = H1 := ⟨_, rfl⟩; obtain ⟨locs, hlo⟩ : ∃ L, L = locs1 := ⟨_, rfl⟩; subst hH; subst hlo
    refine W.widen (k := 0) (n := 0) (Nat.le_refl 0) (Nat.le_refl 0) ?_
    obtain ⟨h46, hw⟩ := hw
    refine xiast (k := x16.toNatClampNeg) hx hb hK hP hD hS 3 0 rfl rfl h46 rfl dX4_read_67 ?_; clear hP hD hS; clear H locs; intro f47 e_f47 H locs hP hD hS
    replace hw := hw f47 e_f47
    clear e_f47
    replace hP : va_P (dC, dI) vwCl (w_X4_read h0 h_split h_told h_quants h_backs h_rejoined h_scales h_needs h_bits k1 k1_bytes k2 cy n_p2 r12 c_method c_pool p1_size x44 p1_bytes f47 p2 c_needs c_bits c_quants c_backs) H := hP
    replace hD : va_D A (w_X4_read h0 h_split h_told h_quants h_backs h_rejoined h_scales h_needs h_bits k1 k1_bytes k2 cy n_p2 r12 c_method c_pool p1_size x44 p1_bytes f47 p2 c_needs c_bits c_quants c_backs) := hD
    refine lv_iinc (v := x16 + 1) (lv' := [(5, .int (x16 + 1)), (4, .int r8), (3, .int x6), (0, .ref h0), (1, .ref k1), (2, .ref k2)]) hx hb dX4_read_68 hl (k := 0) rfl rfl (by decide) rfl ?_; clear hl; clear ls; intro ls hl
    refine lv_goto (tgt := 49) hx hb dX4_read_71 (by decide) ?_
    exact ih15 (x16 + 1) x44 f47 hw H locs ls hP hD hS (lv_sub hl [0, 1, 2, 3, 4, 5] rfl)
set_option maxHeartbeats 4000000 in
set_option maxRecDepth 100000 in
theorem c_X5_become (l : Launch) (dC : Nat → ClassId) (dI : Nat → Nat → Nat) (cy : Nat → ClassId) (h0 h_whole h_came k1 k1_whole k1_came h_whole_bytes k1_whole_bytes h_came_bytes k1_came_bytes : Nat) (sz : Nat) (c_number : Int32) (c_sent : Int32) (c_over : Int32) (c_pieceBytes : Int32) (p1_number : Int32) (p1_sent : Int32) (p1_over : Int32) (p1_pieceBytes : Int32) (c_whole_size : Int32) (c_whole_at : Int32) (p1_whole_size : Int32) (p1_whole_at : Int32) (p1_whole_bytes : Nat → Int32) (c_whole_bytes : Nat → Int32) (c_came_size : Int32) (c_came_at : Int32) (p1_came_size : Int32) (p1_came_at : Int32) (p1_came_bytes : Nat → Int32) (c_came_bytes : Nat → Int32) (post : Int32 → Int32 → Int32 → Int32 → Int32 → (Nat → Int32) → Int32 → (Nat → Int32) → Prop) (hw : wp_X5_become c_number c_sent c_over c_pieceBytes p1_number p1_sent p1_over p1_pieceBytes c_whole_size p1_whole_size p1_whole_bytes c_whole_bytes c_came_size p1_came_size p1_came_bytes c_came_bytes post) : Met l yX5_become wsX5_become ({ frames := 2, cells := 0, slots := 0, locals := 61 }) (PX dC dI cy [.ref h0, .ref k1] sz (w_X5_become h0 h_whole h_came k1 k1_whole k1_came h_whole_bytes k1_whole_bytes h_came_bytes k1_came_bytes cy c_number c_sent c_over c_pieceBytes p1_number p1_sent p1_over p1_pieceBytes c_whole_size c_whole_at p1_whole_size p1_whole_at p1_whole_bytes c_whole_bytes c_came_size c_came_at p1_came_size p1_came_at p1_came_bytes c_came_bytes)) (va_Qv (fun (u : Int32 × Int32 × Int32 × Int32 × Int32 × (Nat → Int32) × Int32 × (Nat → Int32)) => post u.1 u.2.1 u.2.2.1 u.2.2.2.1 u.2.2.2.2.1 u.2.2.2.2.2.1 u.2.2.2.2.2.2.1 u.2.2.2.2.2.2.2) (QX dC dI cy (va_A (w_X5_become h0 h_whole h_came k1 k1_whole k1_came h_whole_bytes k1_whole_bytes h_came_bytes k1_came_bytes cy c_number c_sent c_over c_pieceBytes p1_number p1_sent p1_over p1_pieceBytes c_whole_size c_whole_at p1_whole_size p1_whole_at p1_whole_bytes c_whole_bytes c_came_size c_came_at p1_came_size p1_came_at p1_came_bytes c_came_bytes) sz) (fun (u : Int32 × Int32 × Int32 × Int32 × Int32 × (Nat → Int32) × Int32 × (Nat → Int32)) => w_X5_become h0 h_whole h_came k1 k1_whole k1_came h_whole_bytes k1_whole_bytes h_came_bytes k1_came_bytes cy u.1 u.2.1 u.2.2.1 u.2.2.2.1 p1_number p1_sent p1_over p1_pieceBytes u.2.2.2.2.1 c_whole_at p1_whole_size p1_whole_at p1_whole_bytes u.2.2.2.2.2.1 u.2.2.2.2.2.2.1 c_came_at p1_came_size p1_came_at p1_came_bytes u.2.2.2.2.2.2.2)) (va_A (w_X5_become h0 h_whole h_came k1 k1_whole k1_came h_whole_bytes k1_whole_bytes h_came_bytes k1_came_bytes cy c_number c_sent c_over c_pieceBytes p1_number p1_sent p1_over p1_pieceBytes c_whole_size c_whole_at p1_whole_size p1_whole_at p1_whole_bytes c_whole_bytes c_came_size c_came_at p1_came_size p1_came_at p1_came_bytes c_came_bytes) sz)) 0 0 (va_A (w_X5_become h0 h_whole h_came k1 k1_whole k1_came h_whole_bytes k1_whole_bytes h_came_bytes k1_came_bytes cy c_number c_sent c_over c_pieceBytes p1_number p1_sent p1_over p1_pieceBytes c_whole_size c_whole_at p1_whole_size p1_whole_at p1_whole_bytes c_whole_bytes c_came_size c_came_at p1_came_size p1_came_at p1_came_bytes c_came_bytes) sz) := by
  refine Met.ofW (cc := cX5_become) (maxL := 2) (ret := none) (by decide) rfl ?_
  intro p e s m args below meth c s₁ B hml hv
  obtain ⟨rfl, hsz, hP, hK, hD0, hG⟩ := hv
  have hx := B.exec
  have hb := B.bytes
  have hr := B.returns
  have hts := atoms_spec (ws := wsX5_become) B.pre
  have hown : s.vm.findClass RX5 = some m.cls := findClass_of_methodNamed B.named
  have hlocks := B.notSynchronized
  subst hsz
  have hD := hD0.self (sz := s.heap.size)
  generalize hAe : va_A (w_X5_become h0 h_whole h_came k1 k1_whole k1_came h_whole_bytes k1_whole_bytes h_came_bytes k1_came_bytes cy c_number c_sent c_over c_pieceBytes p1_number p1_sent p1_over p1_pieceBytes c_whole_size c_whole_at p1_whole_size p1_whole_at p1_whole_bytes c_whole_bytes c_came_size c_came_at p1_came_size p1_came_at p1_came_bytes c_came_bytes) s.heap.size = A at hD ⊢
  have hA : ∀ q : Nat, s.heap.size ≤ q → A q := fun q h => by rw [← hAe]; exact Or.inr h
  have hS : va_S A s.heap s.heap [] := va_S.rf
  have hl := lv_entry ([.ref h0, .ref k1]) (n := 2) (Nat.le_of_ble_eq_true rfl)
  rw [lg_entry_eq]
  generalize (lg_sl ([.ref h0, .ref k1]) ++ List.replicate (2 - (lg_sl ([.ref h0, .ref k1])).length) Slot.unset).toArray = ls at hl ⊢
  replace hl : lv_has ls 2 [(0, .ref h0), (1, .ref k1)] := hl
  have inX5 : ∀ w ∈ u_ws RX5 TX5 6, w ∈ wsX5_become := fun w h => List.mem_cons_of_mem _ (inlX5 w h)
  clear hAe hD0 B
  unfold wp_X5_become at hw
  generalize hQe : MQ below _ _ s _ _ _ = Q0
  generalize ([.ref h0, .ref k1] : List Value).toArray = av at *
  obtain ⟨H, hH⟩ : ∃ H, H = s.heap := ⟨_, rfl⟩
  obtain ⟨locs, hlo⟩ : ∃ L : List Loc, L = [] := ⟨_, rfl⟩
  replace hP : va_P (dC, dI) vwCl (w_X5_become h0 h_whole h_came k1 k1_whole k1_came h_whole_bytes k1_whole_bytes h_came_bytes k1_came_bytes cy c_number c_sent c_over c_pieceBytes p1_number p1_sent p1_over p1_pieceBytes c_whole_size c_whole_at p1_whole_size p1_whole_at p1_whole_bytes c_whole_bytes c_came_size c_came_at p1_came_size p1_came_at p1_came_bytes c_came_bytes) H := by rw [hH]; exact hP
  replace hS : va_S A s.heap H locs := by rw [hH, hlo]; exact hS
  suffices hgo : W p l e ({ frames := 2, cells := 0, slots := 0, locals := 61 }) s m av below meth c H locs 0 0 Q0 (F0 m 0 ls []) by rw [hH, hlo] at hgo; exact hgo
  clear hH hlo
  refine lv_aload_n hx hb dX5_become_0 rfl (lv_at hl 0 rfl) ?_
  refine lv_aload_n hx hb dX5_become_1 rfl (lv_at hl 1 rfl) ?_
  refine va_get (D := (dC, dI)) (ci := 5) (v := .int p1_number) (C := RX5) (T := TX5) (N := 6) hx hb hts inX5 hown hK hP 1 rfl rfl 0 (by decide) (hts _ (List.mem_cons_of_mem _ mw_85)) (fun _ h9 => h9) rfl dX5_become_2 ?_
  refine va_put (D := (dC, dI)) (ci := 5) (v := .int p1_number) (ty := .int) (C := RX5) (T := TX5) (N := 6) hx hb hts inX5 tyX5 tyX5_ok nmX5 hown hK hP hD hS 0 rfl rfl 0 (by decide) (hts _ (List.mem_cons_of_mem _ mw_85)) (fun _ h9 => h9) rfl (by decide +kernel) rfl rfl (Nat.le_of_ble_eq_true rfl) dX5_become_5 ?_; clear hP hD hS; clear H locs; intro H locs hP hD hS
  replace hP : va_P (dC, dI) vwCl (w_X5_become h0 h_whole h_came k1 k1_whole k1_came h_whole_bytes k1_whole_bytes h_came_bytes k1_came_bytes cy p1_number c_sent c_over c_pieceBytes p1_number p1_sent p1_over p1_pieceBytes c_whole_size c_whole_at p1_whole_size p1_whole_at p1_whole_bytes c_whole_bytes c_came_size c_came_at p1_came_size p1_came_at p1_came_bytes c_came_bytes) H := hP
  replace hD : va_D A (w_X5_become h0 h_whole h_came k1 k1_whole k1_came h_whole_bytes k1_whole_bytes h_came_bytes k1_came_bytes cy p1_number c_sent c_over c_pieceBytes p1_number p1_sent p1_over p1_pieceBytes c_whole_size c_whole_at p1_whole_size p1_whole_at p1_whole_bytes c_whole_bytes c_came_size c_came_at p1_came_size p1_came_at p1_came_bytes c_came_bytes) := hD
  refine lv_aload_n hx hb dX5_become_8 rfl (lv_at hl 0 rfl) ?_
  refine lv_aload_n hx hb dX5_become_9 rfl (lv_at hl 1 rfl) ?_
  refine va_get (D := (dC, dI)) (ci := 5) (v := .int p1_sent) (C := RX5) (T := TX5) (N := 6) hx hb hts inX5 hown hK hP 1 rfl rfl 1 (by decide) (hts _ (List.mem_cons_of_mem _ mw_86)) (fun _ h9 => h9) rfl dX5_become_10 ?_
  refine va_put (D := (dC, dI)) (ci := 5) (v := .int p1_sent) (ty := .int) (C := RX5) (T := TX5) (N := 6) hx hb hts inX5 tyX5 tyX5_ok nmX5 hown hK hP hD hS 0 rfl rfl 1 (by decide) (hts _ (List.mem_cons_of_mem _ mw_86)) (fun _ h9 => h9) rfl (by decide +kernel) rfl rfl (Nat.le_of_ble_eq_true rfl) dX5_become_13 ?_; clear hP hD hS; clear H locs; intro H locs hP hD hS
  replace hP : va_P (dC, dI) vwCl (w_X5_become h0 h_whole h_came k1 k1_whole k1_came h_whole_bytes k1_whole_bytes h_came_bytes k1_came_bytes cy p1_number p1_sent c_over c_pieceBytes p1_number p1_sent p1_over p1_pieceBytes c_whole_size c_whole_at p1_whole_size p1_whole_at p1_whole_bytes c_whole_bytes c_came_size c_came_at p1_came_size p1_came_at p1_came_bytes c_came_bytes) H := hP
  replace hD : va_D A (w_X5_become h0 h_whole h_came k1 k1_whole k1_came h_whole_bytes k1_whole_bytes h_came_bytes k1_came_bytes cy p1_number p1_sent c_over c_pieceBytes p1_number p1_sent p1_over p1_pieceBytes c_whole_size c_whole_at p1_whole_size p1_whole_at p1_whole_bytes c_whole_bytes c_came_size c_came_at p1_came_size p1_came_at p1_came_bytes c_came_bytes) := hD
  refine lv_aload_n hx hb dX5_become_16 rfl (lv_at hl 0 rfl) ?_
  refine lv_aload_n hx hb dX5_become_17 rfl (lv_at hl 1 rfl) ?_
  refine va_get (D := (dC, dI)) (ci := 5) (v := .int p1_over) (C := RX5) (T := TX5) (N := 6) hx hb hts inX5 hown hK hP 1 rfl rfl 2 (by decide) (hts _ (List.mem_cons_of_mem _ mw_87)) (fun _ h9 => h9) rfl dX5_become_18 ?_
  refine va_put (D := (dC, dI)) (ci := 5) (v := .int p1_over) (ty := .int) (C := RX5) (T := TX5) (N := 6) hx hb hts inX5 tyX5 tyX5_ok nmX5 hown hK hP hD hS 0 rfl rfl 2 (by decide) (hts _ (List.mem_cons_of_mem _ mw_87)) (fun _ h9 => h9) rfl (by decide +kernel) rfl rfl (Nat.le_of_ble_eq_true rfl) dX5_become_21 ?_; clear hP hD hS; clear H locs; intro H locs hP hD hS
  replace hP : va_P (dC, dI) vwCl (w_X5_become h0 h_whole h_came k1 k1_whole k1_came h_whole_bytes k1_whole_bytes h_came_bytes k1_came_bytes cy p1_number p1_sent p1_over c_pieceBytes p1_number p1_sent p1_over p1_pieceBytes c_whole_size c_whole_at p1_whole_size p1_whole_at p1_whole_bytes c_whole_bytes c_came_size c_came_at p1_came_size p1_came_at p1_came_bytes c_came_bytes) H := hP
  replace hD : va_D A (w_X5_become h0 h_whole h_came k1 k1_whole k1_came h_whole_bytes k1_whole_bytes h_came_bytes k1_came_bytes cy p1_number p1_sent p1_over c_pieceBytes p1_number p1_sent p1_over p1_pieceBytes c_whole_size c_whole_at p1_whole_size p1_whole_at p1_whole_bytes c_whole_bytes c_came_size c_came_at p1_came_size p1_came_at p1_came_bytes c_came_bytes) := hD
  refine lv_aload_n hx hb dX5_become_24 rfl (lv_at hl 0 rfl) ?_
  refine lv_aload_n hx hb dX5_become_25 rfl (lv_at hl 1 rfl) ?_
  refine va_get (D := (dC, dI)) (ci := 5) (v := .int p1_pieceBytes) (C := RX5) (T := TX5) (N := 6) hx hb hts inX5 hown hK hP 1 rfl rfl 3 (by decide) (hts _ (List.mem_cons_of_mem _ mw_88)) (fun _ h9 => h9) rfl dX5_become_26 ?_
  refine va_put (D := (dC, dI)) (ci := 5) (v := .int p1_pieceBytes) (ty := .int) (C := RX5) (T := TX5) (N := 6) hx hb hts inX5 tyX5 tyX5_ok nmX5 hown hK hP hD hS 0 rfl rfl 3 (by decide) (hts _ (List.mem_cons_of_mem _ mw_88)) (fun _ h9 => h9) rfl (by decide +kernel) rfl rfl (Nat.le_of_ble_eq_true rfl) dX5_become_29 ?_; clear hP hD hS; clear H locs; intro H locs hP hD hS
  replace hP : va_P (dC, dI) vwCl (w_X5_become h0 h_whole h_came k1 k1_whole k1_came h_whole_bytes k1_whole_bytes h_came_bytes k1_came_bytes cy p1_number p1_sent p1_over p1_pieceBytes p1_number p1_sent p1_over p1_pieceBytes c_whole_size c_whole_at p1_whole_size p1_whole_at p1_whole_bytes c_whole_bytes c_came_size c_came_at p1_came_size p1_came_at p1_came_bytes c_came_bytes) H := hP
  replace hD : va_D A (w_X5_become h0 h_whole h_came k1 k1_whole k1_came h_whole_bytes k1_whole_bytes h_came_bytes k1_came_bytes cy p1_number p1_sent p1_over p1_pieceBytes p1_number p1_sent p1_over p1_pieceBytes c_whole_size c_whole_at p1_whole_size p1_whole_at p1_whole_bytes c_whole_bytes c_came_size c_came_at p1_came_size p1_came_at p1_came_bytes c_came_bytes) := hD
  refine lv_aload_n hx hb dX5_become_32 rfl (lv_at hl 0 rfl) ?_
  refine va_get (D := (dC, dI)) (ci := 5) (v := .ref h_whole) (C := RX5) (T := TX5) (N := 6) hx hb hts inX5 hown hK hP 0 rfl rfl 4 (by decide) (hts _ (List.mem_cons_of_mem _ mw_90)) (fun _ h9 => h9) rfl dX5_become_33 ?_
  refine lv_aload_n hx hb dX5_become_36 rfl (lv_at hl 1 rfl) ?_
  refine va_get (D := (dC, dI)) (ci := 5) (v := .ref k1_whole) (C := RX5) (T := TX5) (N := 6) hx hb hts inX5 hown hK hP 1 rfl rfl 4 (by decide) (hts _ (List.mem_cons_of_mem _ mw_90)) (fun _ h9 => h9) rfl dX5_become_37 ?_
  have hPc := pSub (ws' := (w_X1_become h_whole h_whole_bytes k1_whole k1_whole_bytes cy c_whole_size c_whole_at p1_whole_size p1_whole_at p1_whole_bytes c_whole_bytes)) hP [2, 3, 4, 5] rfl
  have hDc := dSub (ws' := (w_X1_become h_whole h_whole_bytes k1_whole k1_whole_bytes cy c_whole_size c_whole_at p1_whole_size p1_whole_at p1_whole_bytes c_whole_bytes)) hD [2, 3, 4, 5] (by decide) rfl
  have hFc := va_free (wc := (w_X1_become h_whole h_whole_bytes k1_whole k1_whole_bytes cy c_whole_size c_whole_at p1_whole_size p1_whole_at p1_whole_bytes c_whole_bytes)) hD hS hA [2, 3, 4, 5] rfl
  refine va_callv (va_runV (As := [.ref k1_whole]) (rest := []) ⟨hx, hb, hml, hown, hts⟩ (c_X1_become l dC dI cy h_whole h_whole_bytes k1_whole k1_whole_bytes H.size c_whole_size c_whole_at p1_whole_size p1_whole_at p1_whole_bytes c_whole_bytes _ hw) (cwV 1 hts (goodV mw_396 mw_393 mw_394 mw_395 mw_24) rfl rfl rfl (by decide +kernel) ⟨Nat.le_of_ble_eq_true rfl, Nat.le_of_ble_eq_true rfl⟩) ⟨PX_blind, va_recv hK hPc (ci := 1) (q0 := 0) rfl rfl, PX_pre hPc hK hDc hG⟩ rfl rfl hl.1 rfl (lv_room (Nat.le_of_ble_eq_true rfl)) dX5_become_40 ⟨Nat.zero_le _, Nat.zero_le _⟩) hS (fun q _ h => hFc q h) hFc ?_; clear hw hS; intro u t H1 locs1 ht hvm hw hB hz1 hk1 hS
  obtain ⟨x1, f2⟩ := u
  obtain ⟨hP1, -, -⟩ := hB
  rw [ht] at hP1
  replace hP := jC0 hP hD [2, 3, 4, 5] [0, 1, 6, 7, 8, 9] rfl hk1 hP1 (w_X5_become h0 h_whole h_came k1 k1_whole k1_came h_whole_bytes k1_whole_bytes h_came_bytes k1_came_bytes cy p1_number p1_sent p1_over p1_pieceBytes p1_number p1_sent p1_over p1_pieceBytes x1 c_whole_at p1_whole_size p1_whole_at p1_whole_bytes f2 c_came_size c_came_at p1_came_size p1_came_at p1_came_bytes c_came_bytes) rfl rfl rfl 10 rfl (by decide +kernel); clear hD; obtain ⟨hP, hD⟩ := hP
  replace hP : va_P (dC, dI) vwCl (w_X5_become h0 h_whole h_came k1 k1_whole k1_came h_whole_bytes k1_whole_bytes h_came_bytes k1_came_bytes cy p1_number p1_sent p1_over p1_pieceBytes p1_number p1_sent p1_over p1_pieceBytes x1 c_whole_at p1_whole_size p1_whole_at p1_whole_bytes f2 c_came_size c_came_at p1_came_size p1_came_at p1_came_bytes c_came_bytes) H1 := hP
  replace hD : va_D A (w_X5_become h0 h_whole h_came k1 k1_whole k1_came h_whole_bytes k1_whole_bytes h_came_bytes k1_came_bytes cy p1_number p1_sent p1_over p1_pieceBytes p1_number p1_sent p1_over p1_pieceBytes x1 c_whole_at p1_whole_size p1_whole_at p1_whole_bytes f2 c_came_size c_came_at p1_came_size p1_came_at p1_came_bytes c_came_bytes) := hD
  clear hPc hDc hFc hP1 hk1 hz1 hvm ht; clear t; clear H locs; obtain ⟨H, hH⟩ : ∃ H, H = H1 := ⟨_, rfl⟩; obtain ⟨locs, hlo⟩ : ∃ L, L = locs1 := ⟨_, rfl⟩; subst hH; subst hlo
  refine W.widen (k := 0) (n := 0) (Nat.le_refl 0) (Nat.le_refl 0) ?_
  refine lv_aload_n hx hb dX5_become_43 rfl (lv_at hl 0 rfl) ?_
  refine va_get (D := (dC, dI)) (ci := 5) (v := .ref h_came) (C := RX5) (T := TX5) (N := 6) hx hb hts inX5 hown hK hP 0 rfl rfl 5 (by decide) (hts _ (List.mem_cons_of_mem _ mw_91)) (fun _ h9 => h9) rfl dX5_become_44 ?_
  refine lv_aload_n hx hb dX5_become_47 rfl (lv_at hl 1 rfl) ?_
  refine va_get (D := (dC, dI)) (ci := 5) (v := .ref k1_came) (C := RX5) (T := TX5) (N := 6) hx hb hts inX5 hown hK hP 1 rfl rfl 5 (by decide) (hts _ (List.mem_cons_of_mem _ mw_91)) (fun _ h9 => h9) rfl dX5_become_48 ?_
  have hPc := pSub (ws' := (w_X1_become h_came h_came_bytes k1_came k1_came_bytes cy c_came_size c_came_at p1_came_size p1_came_at p1_came_bytes c_came_bytes)) hP [6, 7, 8, 9] rfl
  have hDc := dSub (ws' := (w_X1_become h_came h_came_bytes k1_came k1_came_bytes cy c_came_size c_came_at p1_came_size p1_came_at p1_came_bytes c_came_bytes)) hD [6, 7, 8, 9] (by decide) rfl
  have hFc := va_free (wc := (w_X1_become h_came h_came_bytes k1_came k1_came_bytes cy c_came_size c_came_at p1_came_size p1_came_at p1_came_bytes c_came_bytes)) hD hS hA [6, 7, 8, 9] rfl
  refine va_callv (va_runV (As := [.ref k1_came]) (rest := []) ⟨hx, hb, hml, hown, hts⟩ (c_X1_become l dC dI cy h_came h_came_bytes k1_came k1_came_bytes H.size c_came_size c_came_at p1_came_size p1_came_at p1_came_bytes c_came_bytes _ hw) (cwV 1 hts (goodV mw_396 mw_393 mw_394 mw_395 mw_24) rfl rfl rfl (by decide +kernel) ⟨Nat.le_of_ble_eq_true rfl, Nat.le_of_ble_eq_true rfl⟩) ⟨PX_blind, va_recv hK hPc (ci := 1) (q0 := 0) rfl rfl, PX_pre hPc hK hDc hG⟩ rfl rfl hl.1 rfl (lv_room (Nat.le_of_ble_eq_true rfl)) dX5_become_51 ⟨Nat.zero_le _, Nat.zero_le _⟩) hS (fun q _ h => hFc q h) hFc ?_; clear hw hS; intro u t H1 locs1 ht hvm hw hB hz1 hk1 hS
  obtain ⟨x3, f4⟩ := u
  obtain ⟨hP1, -, -⟩ := hB
  rw [ht] at hP1
  replace hP := jC0 hP hD [6, 7, 8, 9] [0, 1, 2, 3, 4, 5] rfl hk1 hP1 (w_X5_become h0 h_whole h_came k1 k1_whole k1_came h_whole_bytes k1_whole_bytes h_came_bytes k1_came_bytes cy p1_number p1_sent p1_over p1_pieceBytes p1_number p1_sent p1_over p1_pieceBytes x1 c_whole_at p1_whole_size p1_whole_at p1_whole_bytes f2 x3 c_came_at p1_came_size p1_came_at p1_came_bytes f4) rfl rfl rfl 10 rfl (by decide +kernel); clear hD; obtain ⟨hP, hD⟩ := hP
  replace hP : va_P (dC, dI) vwCl (w_X5_become h0 h_whole h_came k1 k1_whole k1_came h_whole_bytes k1_whole_bytes h_came_bytes k1_came_bytes cy p1_number p1_sent p1_over p1_pieceBytes p1_number p1_sent p1_over p1_pieceBytes x1 c_whole_at p1_whole_size p1_whole_at p1_whole_bytes f2 x3 c_came_at p1_came_size p1_came_at p1_came_bytes f4) H1 := hP
  replace hD : va_D A (w_X5_become h0 h_whole h_came k1 k1_whole k1_came h_whole_bytes k1_whole_bytes h_came_bytes k1_came_bytes cy p1_number p1_sent p1_over p1_pieceBytes p1_number p1_sent p1_over p1_pieceBytes x1 c_whole_at p1_whole_size p1_whole_at p1_whole_bytes f2 x3 c_came_at p1_came_size p1_came_at p1_came_bytes f4) := hD
  clear hPc hDc hFc hP1 hk1 hz1 hvm ht; clear t; clear H locs; obtain ⟨H, hH⟩ : ∃ H, H = H1 := ⟨_, rfl⟩; obtain ⟨locs, hlo⟩ : ∃ L, L = locs1 := ⟨_, rfl⟩; subst hH; subst hlo
  refine W.widen (k := 0) (n := 0) (Nat.le_refl 0) (Nat.le_refl 0) ?_
  subst hQe
  exact W.vret hx hb hr (fun t ht hW => ⟨⟨(p1_number, p1_sent, p1_over, p1_pieceBytes, x1, f2, x3, f4), rfl, hw, by rw [ht]; exact hP, va_K.moved hW.alike hK, hD⟩, hS.F ht⟩) hS.2.2 dX5_become_54
set_option maxHeartbeats 4000000 in
set_option maxRecDepth 100000 in
theorem c_X5_beginAnew (l : Launch) (dC : Nat → ClassId) (dI : Nat → Nat → Nat) (cy : Nat → ClassId) (h0 h_whole h_came h_came_bytes h_whole_bytes : Nat) (sz : Nat) (c_number : Int32) (c_sent : Int32) (c_over : Int32) (c_pieceBytes : Int32) (c_came_size : Int32) (c_came_at : Int32) (c_whole_size : Int32) (c_whole_at : Int32) (c_whole_bytes : Nat → Int32) (c_came_bytes : Nat → Int32) (post : Int32 → Int32 → (Nat → Int32) → Prop) (hw : wp_X5_beginAnew c_over c_came_size c_whole_size c_whole_bytes c_came_bytes post) : Met l yX5_beginAnew wsX5_beginAnew ({ frames := 2, cells := 0, slots := 0, locals := 61 }) (PX dC dI cy [.ref h0] sz (w_X5_beginAnew h0 h_whole h_came h_came_bytes h_whole_bytes cy c_number c_sent c_over c_pieceBytes c_came_size c_came_at c_whole_size c_whole_at c_whole_bytes c_came_bytes)) (va_Qv (fun (u : Int32 × Int32 × (Nat → Int32)) => post u.1 u.2.1 u.2.2) (QX dC dI cy (va_A (w_X5_beginAnew h0 h_whole h_came h_came_bytes h_whole_bytes cy c_number c_sent c_over c_pieceBytes c_came_size c_came_at c_whole_size c_whole_at c_whole_bytes c_came_bytes) sz) (fun (u : Int32 × Int32 × (Nat → Int32)) => w_X5_beginAnew h0 h_whole h_came h_came_bytes h_whole_bytes cy c_number c_sent u.1 c_pieceBytes u.2.1 c_came_at c_whole_size c_whole_at c_whole_bytes u.2.2)) (va_A (w_X5_beginAnew h0 h_whole h_came h_came_bytes h_whole_bytes cy c_number c_sent c_over c_pieceBytes c_came_size c_came_at c_whole_size c_whole_at c_whole_bytes c_came_bytes) sz)) 0 0 (va_A (w_X5_beginAnew h0 h_whole h_came h_came_bytes h_whole_bytes cy c_number c_sent c_over c_pieceBytes c_came_size c_came_at c_whole_size c_whole_at c_whole_bytes c_came_bytes) sz) := by
  refine Met.ofW (cc := cX5_beginAnew) (maxL := 1) (ret := none) (by decide) rfl ?_
  intro p e s m args below meth c s₁ B hml hv
  obtain ⟨rfl, hsz, hP, hK, hD0, hG⟩ := hv
  have hx := B.exec
  have hb := B.bytes
  have hr := B.returns
  have hts := atoms_spec (ws := wsX5_beginAnew) B.pre
  have hown : s.vm.findClass RX5 = some m.cls := findClass_of_methodNamed B.named
  have hlocks := B.notSynchronized
  subst hsz
  have hD := hD0.self (sz := s.heap.size)
  generalize hAe : va_A (w_X5_beginAnew h0 h_whole h_came h_came_bytes h_whole_bytes cy c_number c_sent c_over c_pieceBytes c_came_size c_came_at c_whole_size c_whole_at c_whole_bytes c_came_bytes) s.heap.size = A at hD ⊢
  have hA : ∀ q : Nat, s.heap.size ≤ q → A q := fun q h => by rw [← hAe]; exact Or.inr h
  have hS : va_S A s.heap s.heap [] := va_S.rf
  have hl := lv_entry ([.ref h0]) (n := 1) (Nat.le_of_ble_eq_true rfl)
  rw [lg_entry_eq]
  generalize (lg_sl ([.ref h0]) ++ List.replicate (1 - (lg_sl ([.ref h0])).length) Slot.unset).toArray = ls at hl ⊢
  replace hl : lv_has ls 1 [(0, .ref h0)] := hl
  have inX5 : ∀ w ∈ u_ws RX5 TX5 6, w ∈ wsX5_beginAnew := fun w h => List.mem_cons_of_mem _ (inlX5 w h)
  clear hAe hD0 B
  unfold wp_X5_beginAnew at hw
  generalize hQe : MQ below _ _ s _ _ _ = Q0
  generalize ([.ref h0] : List Value).toArray = av at *
  obtain ⟨H, hH⟩ : ∃ H, H = s.heap := ⟨_, rfl⟩
  obtain ⟨locs, hlo⟩ : ∃ L : List Loc, L = [] := ⟨_, rfl⟩
  replace hP : va_P (dC, dI) vwCl (w_X5_beginAnew h0 h_whole h_came h_came_bytes h_whole_bytes cy c_number c_sent c_over c_pieceBytes c_came_size c_came_at c_whole_size c_whole_at c_whole_bytes c_came_bytes) H := by rw [hH]; exact hP
  replace hS : va_S A s.heap H locs := by rw [hH, hlo]; exact hS
  suffices hgo : W p l e ({ frames := 2, cells := 0, slots := 0, locals := 61 }) s m av below meth c H locs 0 0 Q0 (F0 m 0 ls []) by rw [hH, hlo] at hgo; exact hgo
  clear hH hlo
  refine lv_aload_n hx hb dX5_beginAnew_0 rfl (lv_at hl 0 rfl) ?_
  refine lv_iconst (v := 0) hx hb dX5_beginAnew_1 (by decide) ?_
  refine va_put (D := (dC, dI)) (ci := 5) (v := .int (0 : Int32)) (ty := .int) (C := RX5) (T := TX5) (N := 6) hx hb hts inX5 tyX5 tyX5_ok nmX5 hown hK hP hD hS 0 rfl rfl 2 (by decide) (hts _ (List.mem_cons_of_mem _ mw_87)) (fun _ h9 => h9) rfl (by decide +kernel) rfl rfl (Nat.le_of_ble_eq_true rfl) dX5_beginAnew_2 ?_; clear hP hD hS; clear H locs; intro H locs hP hD hS
  replace hP : va_P (dC, dI) vwCl (w_X5_beginAnew h0 h_whole h_came h_came_bytes h_whole_bytes cy c_number c_sent (0 : Int32) c_pieceBytes c_came_size c_came_at c_whole_size c_whole_at c_whole_bytes c_came_bytes) H := hP
  replace hD : va_D A (w_X5_beginAnew h0 h_whole h_came h_came_bytes h_whole_bytes cy c_number c_sent (0 : Int32) c_pieceBytes c_came_size c_came_at c_whole_size c_whole_at c_whole_bytes c_came_bytes) := hD
  refine lv_aload_n hx hb dX5_beginAnew_5 rfl (lv_at hl 0 rfl) ?_
  refine va_get (D := (dC, dI)) (ci := 5) (v := .ref h_came) (C := RX5) (T := TX5) (N := 6) hx hb hts inX5 hown hK hP 0 rfl rfl 5 (by decide) (hts _ (List.mem_cons_of_mem _ mw_91)) (fun _ h9 => h9) rfl dX5_beginAnew_6 ?_
  refine lv_aload_n hx hb dX5_beginAnew_9 rfl (lv_at hl 0 rfl) ?_
  refine va_get (D := (dC, dI)) (ci := 5) (v := .ref h_whole) (C := RX5) (T := TX5) (N := 6) hx hb hts inX5 hown hK hP 0 rfl rfl 4 (by decide) (hts _ (List.mem_cons_of_mem _ mw_90)) (fun _ h9 => h9) rfl dX5_beginAnew_10 ?_
  have hPc := pSub (ws' := (w_X1_become h_came h_came_bytes h_whole h_whole_bytes cy c_came_size c_came_at c_whole_size c_whole_at c_whole_bytes c_came_bytes)) hP [1, 2, 3, 4] rfl
  have hDc := dSub (ws' := (w_X1_become h_came h_came_bytes h_whole h_whole_bytes cy c_came_size c_came_at c_whole_size c_whole_at c_whole_bytes c_came_bytes)) hD [1, 2, 3, 4] (by decide) rfl
  have hFc := va_free (wc := (w_X1_become h_came h_came_bytes h_whole h_whole_bytes cy c_came_size c_came_at c_whole_size c_whole_at c_whole_bytes c_came_bytes)) hD hS hA [1, 2, 3, 4] rfl
  refine va_callv (va_runV (As := [.ref h_whole]) (rest := []) ⟨hx, hb, hml, hown, hts⟩ (c_X1_become l dC dI cy h_came h_came_bytes h_whole h_whole_bytes H.size c_came_size c_came_at c_whole_size c_whole_at c_whole_bytes c_came_bytes _ hw) (cwV 1 hts (goodV mw_396 mw_393 mw_394 mw_395 mw_24) rfl rfl rfl (by decide +kernel) ⟨Nat.le_of_ble_eq_true rfl, Nat.le_of_ble_eq_true rfl⟩) ⟨PX_blind, va_recv hK hPc (ci := 1) (q0 := 0) rfl rfl, PX_pre hPc hK hDc hG⟩ rfl rfl hl.1 rfl (lv_room (Nat.le_of_ble_eq_true rfl)) dX5_beginAnew_13 ⟨Nat.zero_le _, Nat.zero_le _⟩) hS (fun q _ h => hFc q h) hFc ?_; clear hw hS; intro u t H1 locs1 ht hvm hw hB hz1 hk1 hS
  obtain ⟨x1, f2⟩ := u
  obtain ⟨hP1, -, -⟩ := hB
  rw [ht] at hP1
  replace hP := jC0 hP hD [1, 2, 3, 4] [0] rfl hk1 hP1 (w_X5_beginAnew h0 h_whole h_came h_came_bytes h_whole_bytes cy c_number c_sent (0 : Int32) c_pieceBytes x1 c_came_at c_whole_size c_whole_at c_whole_bytes f2) rfl rfl rfl 5 rfl (by decide +kernel); clear hD; obtain ⟨hP, hD⟩ := hP
  replace hP : va_P (dC, dI) vwCl (w_X5_beginAnew h0 h_whole h_came h_came_bytes h_whole_bytes cy c_number c_sent (0 : Int32) c_pieceBytes x1 c_came_at c_whole_size c_whole_at c_whole_bytes f2) H1 := hP
  replace hD : va_D A (w_X5_beginAnew h0 h_whole h_came h_came_bytes h_whole_bytes cy c_number c_sent (0 : Int32) c_pieceBytes x1 c_came_at c_whole_size c_whole_at c_whole_bytes f2) := hD
  clear hPc hDc hFc hP1 hk1 hz1 hvm ht; clear t; clear H locs; obtain ⟨H, hH⟩ : ∃ H, H = H1 := ⟨_, rfl⟩; obtain ⟨locs, hlo⟩ : ∃ L, L = locs1 := ⟨_, rfl⟩; subst hH; subst hlo
  refine W.widen (k := 0) (n := 0) (Nat.le_refl 0) (Nat.le_refl 0) ?_
  subst hQe
  exact W.vret hx hb hr (fun t ht hW => ⟨⟨((0 : Int32), x1, f2), rfl, hw, by rw [ht]; exact hP, va_K.moved hW.alike hK, hD⟩, hS.F ht⟩) hS.2.2 dX5_beginAnew_16
set_option maxHeartbeats 4000000 in
set_option maxRecDepth 100000 in
theorem c_X5_load (l : Launch) (dC : Nat → ClassId) (dI : Nat → Nat → Nat) (cy : Nat → ClassId) (h0 h_whole h_came h_whole_bytes k2 k2_bytes h_came_bytes : Nat) (sz : Nat) (v1 : Int32) (v3 : Int32) (c_number : Int32) (c_sent : Int32) (c_over : Int32) (c_pieceBytes : Int32) (c_whole_size : Int32) (c_whole_at : Int32) (p2_size : Int32) (p2_at : Int32) (p2_bytes : Nat → Int32) (c_whole_bytes : Nat → Int32) (c_came_size : Int32) (c_came_at : Int32) (c_came_bytes : Nat → Int32) (post : Int32 → Int32 → Int32 → Int32 → Int32 → (Nat → Int32) → Int32 → (Nat → Int32) → Prop) (hw : wp_X5_load v1 v3 c_number c_sent c_over c_pieceBytes c_whole_size p2_size p2_bytes c_whole_bytes c_came_size c_came_bytes post) : Met l yX5_load wsX5_load ({ frames := 3, cells := 0, slots := 0, locals := 81 }) (PX dC dI cy [.ref h0, .int v1, .ref k2, .int v3] sz (w_X5_load h0 h_whole h_came h_whole_bytes k2 k2_bytes h_came_bytes cy c_number c_sent c_over c_pieceBytes c_whole_size c_whole_at p2_size p2_at p2_bytes c_whole_bytes c_came_size c_came_at c_came_bytes)) (va_Qv (fun (u : Int32 × Int32 × Int32 × Int32 × Int32 × (Nat → Int32) × Int32 × (Nat → Int32)) => post u.1 u.2.1 u.2.2.1 u.2.2.2.1 u.2.2.2.2.1 u.2.2.2.2.2.1 u.2.2.2.2.2.2.1 u.2.2.2.2.2.2.2) (QX dC dI cy (va_A (w_X5_load h0 h_whole h_came h_whole_bytes k2 k2_bytes h_came_bytes cy c_number c_sent c_over c_pieceBytes c_whole_size c_whole_at p2_size p2_at p2_bytes c_whole_bytes c_came_size c_came_at c_came_bytes) sz) (fun (u : Int32 × Int32 × Int32 × Int32 × Int32 × (Nat → Int32) × Int32 × (Nat → Int32)) => w_X5_load h0 h_whole h_came h_whole_bytes k2 k2_bytes h_came_bytes cy u.1 u.2.1 u.2.2.1 u.2.2.2.1 u.2.2.2.2.1 c_whole_at p2_size p2_at p2_bytes u.2.2.2.2.2.1 u.2.2.2.2.2.2.1 c_came_at u.2.2.2.2.2.2.2)) (va_A (w_X5_load h0 h_whole h_came h_whole_bytes k2 k2_bytes h_came_bytes cy c_number c_sent c_over c_pieceBytes c_whole_size c_whole_at p2_size p2_at p2_bytes c_whole_bytes c_came_size c_came_at c_came_bytes) sz)) 0 0 (va_A (w_X5_load h0 h_whole h_came h_whole_bytes k2 k2_bytes h_came_bytes cy c_number c_sent c_over c_pieceBytes c_whole_size c_whole_at p2_size p2_at p2_bytes c_whole_bytes c_came_size c_came_at c_came_bytes) sz) := by
  refine Met.ofW (cc := cX5_load) (maxL := 4) (ret := none) (by decide) rfl ?_
  intro p e s m args below meth c s₁ B hml hv
  obtain ⟨rfl, hsz, hP, hK, hD0, hG⟩ := hv
  have hx := B.exec
  have hb := B.bytes
  have hr := B.returns
  have hts := atoms_spec (ws := wsX5_load) B.pre
  have hown : s.vm.findClass RX5 = some m.cls := findClass_of_methodNamed B.named
  have hlocks := B.notSynchronized
  subst hsz
  have hD := hD0.self (sz := s.heap.size)
  generalize hAe : va_A (w_X5_load h0 h_whole h_came h_whole_bytes k2 k2_bytes h_came_bytes cy c_number c_sent c_over c_pieceBytes c_whole_size c_whole_at p2_size p2_at p2_bytes c_whole_bytes c_came_size c_came_at c_came_bytes) s.heap.size = A at hD ⊢
  have hA : ∀ q : Nat, s.heap.size ≤ q → A q := fun q h => by rw [← hAe]; exact Or.inr h
  have hS : va_S A s.heap s.heap [] := va_S.rf
  have hl := lv_entry ([.ref h0, .int v1, .ref k2, .int v3]) (n := 4) (Nat.le_of_ble_eq_true rfl)
  rw [lg_entry_eq]
  generalize (lg_sl ([.ref h0, .int v1, .ref k2, .int v3]) ++ List.replicate (4 - (lg_sl ([.ref h0, .int v1, .ref k2, .int v3])).length) Slot.unset).toArray = ls at hl ⊢
  replace hl : lv_has ls 4 [(0, .ref h0), (1, .int v1), (2, .ref k2), (3, .int v3)] := hl
  have inX5 : ∀ w ∈ u_ws RX5 TX5 6, w ∈ wsX5_load := fun w h => List.mem_cons_of_mem _ (inlX5 w h)
  clear hAe hD0 B
  unfold wp_X5_load at hw
  generalize hQe : MQ below _ _ s _ _ _ = Q0
  generalize ([.ref h0, .int v1, .ref k2, .int v3] : List Value).toArray = av at *
  obtain ⟨H, hH⟩ : ∃ H, H = s.heap := ⟨_, rfl⟩
  obtain ⟨locs, hlo⟩ : ∃ L : List Loc, L = [] := ⟨_, rfl⟩
  replace hP : va_P (dC, dI) vwCl (w_X5_load h0 h_whole h_came h_whole_bytes k2 k2_bytes h_came_bytes cy c_number c_sent c_over c_pieceBytes c_whole_size c_whole_at p2_size p2_at p2_bytes c_whole_bytes c_came_size c_came_at c_came_bytes) H := by rw [hH]; exact hP
  replace hS : va_S A s.heap H locs := by rw [hH, hlo]; exact hS
  suffices hgo : W p l e ({ frames := 3, cells := 0, slots := 0, locals := 81 }) s m av below meth c H locs 0 0 Q0 (F0 m 0 ls []) by rw [hH, hlo] at hgo; exact hgo
  clear hH hlo
  refine lv_aload_n hx hb dX5_load_0 rfl (lv_at hl 0 rfl) ?_
  refine lv_iload_n hx hb dX5_load_1 rfl (lv_at hl 1 rfl) ?_
  refine va_put (D := (dC, dI)) (ci := 5) (v := .int v1) (ty := .int) (C := RX5) (T := TX5) (N := 6) hx hb hts inX5 tyX5 tyX5_ok nmX5 hown hK hP hD hS 0 rfl rfl 0 (by decide) (hts _ (List.mem_cons_of_mem _ mw_85)) (fun _ h9 => h9) rfl (by decide +kernel) rfl rfl (Nat.le_of_ble_eq_true rfl) dX5_load_2 ?_; clear hP hD hS; clear H locs; intro H locs hP hD hS
  replace hP : va_P (dC, dI) vwCl (w_X5_load h0 h_whole h_came h_whole_bytes k2 k2_bytes h_came_bytes cy v1 c_sent c_over c_pieceBytes c_whole_size c_whole_at p2_size p2_at p2_bytes c_whole_bytes c_came_size c_came_at c_came_bytes) H := hP
  replace hD : va_D A (w_X5_load h0 h_whole h_came h_whole_bytes k2 k2_bytes h_came_bytes cy v1 c_sent c_over c_pieceBytes c_whole_size c_whole_at p2_size p2_at p2_bytes c_whole_bytes c_came_size c_came_at c_came_bytes) := hD
  refine lv_aload_n hx hb dX5_load_5 rfl (lv_at hl 0 rfl) ?_
  refine lv_iconst (v := 0) hx hb dX5_load_6 (by decide) ?_
  refine va_put (D := (dC, dI)) (ci := 5) (v := .int (0 : Int32)) (ty := .int) (C := RX5) (T := TX5) (N := 6) hx hb hts inX5 tyX5 tyX5_ok nmX5 hown hK hP hD hS 0 rfl rfl 1 (by decide) (hts _ (List.mem_cons_of_mem _ mw_86)) (fun _ h9 => h9) rfl (by decide +kernel) rfl rfl (Nat.le_of_ble_eq_true rfl) dX5_load_7 ?_; clear hP hD hS; clear H locs; intro H locs hP hD hS
  replace hP : va_P (dC, dI) vwCl (w_X5_load h0 h_whole h_came h_whole_bytes k2 k2_bytes h_came_bytes cy v1 (0 : Int32) c_over c_pieceBytes c_whole_size c_whole_at p2_size p2_at p2_bytes c_whole_bytes c_came_size c_came_at c_came_bytes) H := hP
  replace hD : va_D A (w_X5_load h0 h_whole h_came h_whole_bytes k2 k2_bytes h_came_bytes cy v1 (0 : Int32) c_over c_pieceBytes c_whole_size c_whole_at p2_size p2_at p2_bytes c_whole_bytes c_came_size c_came_at c_came_bytes) := hD
  refine lv_aload_n hx hb dX5_load_10 rfl (lv_at hl 0 rfl) ?_
  refine lv_iconst (v := 1) hx hb dX5_load_11 (by decide) ?_
  refine lv_iload_n hx hb dX5_load_12 rfl (lv_at hl 3 rfl) ?_
  refine va_mmax hx hb (by rw [hml]; exact hl.1.symm) hown (hts _ (List.mem_cons_of_mem _ mw_392)) (hts _ (List.mem_cons_of_mem _ mw_75)) (hts _ (List.mem_cons_of_mem _ mw_76)) (hts _ (List.mem_cons_of_mem _ mw_77)) (Nat.le_of_ble_eq_true rfl) (Nat.le_of_ble_eq_true rfl) (Nat.zero_le _) (Nat.zero_le _) dX5_load_13 ?_
  refine lv_topi (fun x1 e_x1 => ?_)
  replace hw := hw x1 e_x1
  clear e_x1
  refine va_put (D := (dC, dI)) (ci := 5) (v := .int x1) (ty := .int) (C := RX5) (T := TX5) (N := 6) hx hb hts inX5 tyX5 tyX5_ok nmX5 hown hK hP hD hS 0 rfl rfl 3 (by decide) (hts _ (List.mem_cons_of_mem _ mw_88)) (fun _ h9 => h9) rfl (by decide +kernel) rfl rfl (Nat.le_of_ble_eq_true rfl) dX5_load_16 ?_; clear hP hD hS; clear H locs; intro H locs hP hD hS
  replace hP : va_P (dC, dI) vwCl (w_X5_load h0 h_whole h_came h_whole_bytes k2 k2_bytes h_came_bytes cy v1 (0 : Int32) c_over x1 c_whole_size c_whole_at p2_size p2_at p2_bytes c_whole_bytes c_came_size c_came_at c_came_bytes) H := hP
  replace hD : va_D A (w_X5_load h0 h_whole h_came h_whole_bytes k2 k2_bytes h_came_bytes cy v1 (0 : Int32) c_over x1 c_whole_size c_whole_at p2_size p2_at p2_bytes c_whole_bytes c_came_size c_came_at c_came_bytes) := hD
  refine lv_aload_n hx hb dX5_load_19 rfl (lv_at hl 0 rfl) ?_
  refine va_get (D := (dC, dI)) (ci := 5) (v := .ref h_whole) (C := RX5) (T := TX5) (N := 6) hx hb hts inX5 hown hK hP 0 rfl rfl 4 (by decide) (hts _ (List.mem_cons_of_mem _ mw_90)) (fun _ h9 => h9) rfl dX5_load_20 ?_
  refine lv_aload_n hx hb dX5_load_23 rfl (lv_at hl 2 rfl) ?_
  have hPc := pSub (ws' := (w_X1_become h_whole h_whole_bytes k2 k2_bytes cy c_whole_size c_whole_at p2_size p2_at p2_bytes c_whole_bytes)) hP [1, 2, 3, 4] rfl
  have hDc := dSub (ws' := (w_X1_become h_whole h_whole_bytes k2 k2_bytes cy c_whole_size c_whole_at p2_size p2_at p2_bytes c_whole_bytes)) hD [1, 2, 3, 4] (by decide) rfl
  have hFc := va_free (wc := (w_X1_become h_whole h_whole_bytes k2 k2_bytes cy c_whole_size c_whole_at p2_size p2_at p2_bytes c_whole_bytes)) hD hS hA [1, 2, 3, 4] rfl
  refine va_callv (va_runV (As := [.ref k2]) (rest := []) ⟨hx, hb, hml, hown, hts⟩ (c_X1_become l dC dI cy h_whole h_whole_bytes k2 k2_bytes H.size c_whole_size c_whole_at p2_size p2_at p2_bytes c_whole_bytes _ hw) (cwV 1 hts (goodV mw_396 mw_393 mw_394 mw_395 mw_24) rfl rfl rfl (by decide +kernel) ⟨Nat.le_of_ble_eq_true rfl, Nat.le_of_ble_eq_true rfl⟩) ⟨PX_blind, va_recv hK hPc (ci := 1) (q0 := 0) rfl rfl, PX_pre hPc hK hDc hG⟩ rfl rfl hl.1 rfl (lv_room (Nat.le_of_ble_eq_true rfl)) dX5_load_24 ⟨Nat.zero_le _, Nat.zero_le _⟩) hS (fun q _ h => hFc q h) hFc ?_; clear hw hS; intro u t H1 locs1 ht hvm hw hB hz1 hk1 hS
  obtain ⟨x2, f3⟩ := u
  obtain ⟨hP1, -, -⟩ := hB
  rw [ht] at hP1
  replace hP := jC0 hP hD [1, 2, 3, 4] [0, 5, 6] rfl hk1 hP1 (w_X5_load h0 h_whole h_came h_whole_bytes k2 k2_bytes h_came_bytes cy v1 (0 : Int32) c_over x1 x2 c_whole_at p2_size p2_at p2_bytes f3 c_came_size c_came_at c_came_bytes) rfl rfl rfl 7 rfl (by decide +kernel); clear hD; obtain ⟨hP, hD⟩ := hP
  replace hP : va_P (dC, dI) vwCl (w_X5_load h0 h_whole h_came h_whole_bytes k2 k2_bytes h_came_bytes cy v1 (0 : Int32) c_over x1 x2 c_whole_at p2_size p2_at p2_bytes f3 c_came_size c_came_at c_came_bytes) H1 := hP
  replace hD : va_D A (w_X5_load h0 h_whole h_came h_whole_bytes k2 k2_bytes h_came_bytes cy v1 (0 : Int32) c_over x1 x2 c_whole_at p2_size p2_at p2_bytes f3 c_came_size c_came_at c_came_bytes) := hD
  clear hPc hDc hFc hP1 hk1 hz1 hvm ht; clear t; clear H locs; obtain ⟨H, hH⟩ : ∃ H, H = H1 := ⟨_, rfl⟩; obtain ⟨locs, hlo⟩ : ∃ L, L = locs1 := ⟨_, rfl⟩; subst hH; subst hlo
  refine W.widen (k := 0) (n := 0) (Nat.le_refl 0) (Nat.le_refl 0) ?_
  refine lv_aload_n hx hb dX5_load_27 rfl (lv_at hl 0 rfl) ?_
  have hPc := pSub (ws' := (w_X5_beginAnew h0 h_whole h_came h_came_bytes h_whole_bytes cy v1 (0 : Int32) c_over x1 c_came_size c_came_at x2 c_whole_at f3 c_came_bytes)) hP [0, 5, 1, 4, 6] rfl
  have hDc := dSub (ws' := (w_X5_beginAnew h0 h_whole h_came h_came_bytes h_whole_bytes cy v1 (0 : Int32) c_over x1 c_came_size c_came_at x2 c_whole_at f3 c_came_bytes)) hD [0, 5, 1, 4, 6] (by decide) rfl
  have hFc := va_free (wc := (w_X5_beginAnew h0 h_whole h_came h_came_bytes h_whole_bytes cy v1 (0 : Int32) c_over x1 c_came_size c_came_at x2 c_whole_at f3 c_came_bytes)) hD hS hA [0, 5, 1, 4, 6] rfl
  refine va_callv (va_runV (As := []) (rest := []) ⟨hx, hb, hml, hown, hts⟩ (c_X5_beginAnew l dC dI cy h0 h_whole h_came h_came_bytes h_whole_bytes H.size v1 (0 : Int32) c_over x1 c_came_size c_came_at x2 c_whole_at f3 c_came_bytes _ hw) (cwV 0 hts (goodV mw_401 mw_398 mw_399 mw_400 mw_81) rfl rfl rfl (by decide +kernel) ⟨Nat.le_of_ble_eq_true rfl, Nat.le_of_ble_eq_true rfl⟩) ⟨PX_blind, va_recv hK hPc (ci := 5) (q0 := 0) rfl rfl, PX_pre hPc hK hDc hG⟩ rfl rfl hl.1 rfl (lv_room (Nat.le_of_ble_eq_true rfl)) dX5_load_28 ⟨Nat.zero_le _, Nat.zero_le _⟩) hS (fun q _ h => hFc q h) hFc ?_; clear hw hS; intro u t H1 locs1 ht hvm hw hB hz1 hk1 hS
  obtain ⟨x4, x5, f6⟩ := u
  obtain ⟨hP1, -, -⟩ := hB
  rw [ht] at hP1
  replace hP := jC0 hP hD [0, 5, 1, 4, 6] [2, 3] rfl hk1 hP1 (w_X5_load h0 h_whole h_came h_whole_bytes k2 k2_bytes h_came_bytes cy v1 (0 : Int32) x4 x1 x2 c_whole_at p2_size p2_at p2_bytes f3 x5 c_came_at f6) rfl rfl rfl 7 rfl (by decide +kernel); clear hD; obtain ⟨hP, hD⟩ := hP
  replace hP : va_P (dC, dI) vwCl (w_X5_load h0 h_whole h_came h_whole_bytes k2 k2_bytes h_came_bytes cy v1 (0 : Int32) x4 x1 x2 c_whole_at p2_size p2_at p2_bytes f3 x5 c_came_at f6) H1 := hP
  replace hD : va_D A (w_X5_load h0 h_whole h_came h_whole_bytes k2 k2_bytes h_came_bytes cy v1 (0 : Int32) x4 x1 x2 c_whole_at p2_size p2_at p2_bytes f3 x5 c_came_at f6) := hD
  clear hPc hDc hFc hP1 hk1 hz1 hvm ht; clear t; clear H locs; obtain ⟨H, hH⟩ : ∃ H, H = H1 := ⟨_, rfl⟩; obtain ⟨locs, hlo⟩ : ∃ L, L = locs1 := ⟨_, rfl⟩; subst hH; subst hlo
  refine W.widen (k := 0) (n := 0) (Nat.le_refl 0) (Nat.le_refl 0) ?_
  subst hQe
  exact W.vret hx hb hr (fun t ht hW => ⟨⟨(v1, (0 : Int32), x4, x1, x2, f3, x5, f6), rfl, hw, by rw [ht]; exact hP, va_K.moved hW.alike hK, hD⟩, hS.F ht⟩) hS.2.2 dX5_load_31
set_option maxHeartbeats 4000000 in
set_option maxRecDepth 100000 in
theorem c_X5_pieces (l : Launch) (dC : Nat → ClassId) (dI : Nat → Nat → Nat) (cy : Nat → ClassId) (h0 h_whole h_came h_whole_bytes : Nat) (sz : Nat) (c_number : Int32) (c_sent : Int32) (c_over : Int32) (c_pieceBytes : Int32) (c_whole_size : Int32) (c_whole_at : Int32) (post : Int32 → Prop) (hw : wp_X5_pieces c_pieceBytes c_whole_size post) : Met l yX5_pieces wsX5_pieces ({ frames := 0, cells := 0, slots := 0, locals := 0 }) (PX dC dI cy [.ref h0] sz (w_X5_pieces h0 h_whole h_came h_whole_bytes cy c_number c_sent c_over c_pieceBytes c_whole_size c_whole_at)) (va_Qi (fun (r : Int32) (u : Unit) => post r) (QX dC dI cy (va_A (w_X5_pieces h0 h_whole h_came h_whole_bytes cy c_number c_sent c_over c_pieceBytes c_whole_size c_whole_at) sz) (fun (u : Unit) => w_X5_pieces h0 h_whole h_came h_whole_bytes cy c_number c_sent c_over c_pieceBytes c_whole_size c_whole_at)) (va_A (w_X5_pieces h0 h_whole h_came h_whole_bytes cy c_number c_sent c_over c_pieceBytes c_whole_size c_whole_at) sz)) 0 0 (va_A (w_X5_pieces h0 h_whole h_came h_whole_bytes cy c_number c_sent c_over c_pieceBytes c_whole_size c_whole_at) sz) := by
  refine Met.ofW (cc := cX5_pieces) (maxL := 1) (ret := (some .int)) (by decide) rfl ?_
  intro p e s m args below meth c s₁ B hml hv
  obtain ⟨rfl, hsz, hP, hK, hD0, hG⟩ := hv
  have hx := B.exec
  have hb := B.bytes
  have hr := B.returns
  have hts := atoms_spec (ws := wsX5_pieces) B.pre
  have hown : s.vm.findClass RX5 = some m.cls := findClass_of_methodNamed B.named
  have hlocks := B.notSynchronized
  subst hsz
  have hD := hD0.self (sz := s.heap.size)
  generalize hAe : va_A (w_X5_pieces h0 h_whole h_came h_whole_bytes cy c_number c_sent c_over c_pieceBytes c_whole_size c_whole_at) s.heap.size = A at hD ⊢
  have hA : ∀ q : Nat, s.heap.size ≤ q → A q := fun q h => by rw [← hAe]; exact Or.inr h
  have hS : va_S A s.heap s.heap [] := va_S.rf
  have hl := lv_entry ([.ref h0]) (n := 1) (Nat.le_of_ble_eq_true rfl)
  rw [lg_entry_eq]
  generalize (lg_sl ([.ref h0]) ++ List.replicate (1 - (lg_sl ([.ref h0])).length) Slot.unset).toArray = ls at hl ⊢
  replace hl : lv_has ls 1 [(0, .ref h0)] := hl
  have inX1 : ∀ w ∈ u_ws RX1 TX1 3, w ∈ wsX5_pieces := fun w h => List.mem_cons_of_mem _ (inlX1 w h)
  have inX5 : ∀ w ∈ u_ws RX5 TX5 6, w ∈ wsX5_pieces := fun w h => List.mem_cons_of_mem _ (inlX5 w h)
  clear hAe hD0 B
  unfold wp_X5_pieces at hw
  generalize hQe : MQ below _ _ s _ _ _ = Q0
  generalize ([.ref h0] : List Value).toArray = av at *
  obtain ⟨H, hH⟩ : ∃ H, H = s.heap := ⟨_, rfl⟩
  obtain ⟨locs, hlo⟩ : ∃ L : List Loc, L = [] := ⟨_, rfl⟩
  replace hP : va_P (dC, dI) vwCl (w_X5_pieces h0 h_whole h_came h_whole_bytes cy c_number c_sent c_over c_pieceBytes c_whole_size c_whole_at) H := by rw [hH]; exact hP
  replace hS : va_S A s.heap H locs := by rw [hH, hlo]; exact hS
  suffices hgo : W p l e ({ frames := 0, cells := 0, slots := 0, locals := 0 }) s m av below meth c H locs 0 0 Q0 (F0 m 0 ls []) by rw [hH, hlo] at hgo; exact hgo
  clear hH hlo
  refine lv_aload_n hx hb dX5_pieces_0 rfl (lv_at hl 0 rfl) ?_
  refine va_get (D := (dC, dI)) (ci := 5) (v := .ref h_whole) (C := RX5) (T := TX5) (N := 6) hx hb hts inX5 hown hK hP 0 rfl rfl 4 (by decide) (hts _ (List.mem_cons_of_mem _ mw_90)) (fun _ h9 => h9) rfl dX5_pieces_1 ?_
  refine va_get (D := (dC, dI)) (ci := 1) (v := .int c_whole_size) (C := RX1) (T := TX1) (N := 3) hx hb hts inX1 hown hK hP 1 rfl rfl 1 (by decide) (hts _ (List.mem_cons_of_mem _ mw_454)) (fun _ h9 => h9) rfl dX5_pieces_4 ?_
  refine lv_aload_n hx hb dX5_pieces_7 rfl (lv_at hl 0 rfl) ?_
  refine va_get (D := (dC, dI)) (ci := 5) (v := .int c_pieceBytes) (C := RX5) (T := TX5) (N := 6) hx hb hts inX5 hown hK hP 0 rfl rfl 3 (by decide) (hts _ (List.mem_cons_of_mem _ mw_88)) (fun _ h9 => h9) rfl dX5_pieces_8 ?_
  refine lv_iadd hx hb dX5_pieces_11 ?_
  refine lv_iconst (v := 1) hx hb dX5_pieces_12 (by decide) ?_
  refine lv_isub hx hb dX5_pieces_13 ?_
  refine lv_aload_n hx hb dX5_pieces_14 rfl (lv_at hl 0 rfl) ?_
  refine va_get (D := (dC, dI)) (ci := 5) (v := .int c_pieceBytes) (C := RX5) (T := TX5) (N := 6) hx hb hts inX5 hown hK hP 0 rfl rfl 3 (by decide) (hts _ (List.mem_cons_of_mem _ mw_88)) (fun _ h9 => h9) rfl dX5_pieces_15 ?_
  obtain ⟨h1, hw⟩ := hw
  refine lv_idiv hx hb dX5_pieces_18 h1 ?_
  refine lv_topi (fun x2 e_x2 => ?_)
  replace hw := hw x2 e_x2
  clear e_x2
  subst hQe
  exact W.iret (v := x2) hx hb hr (fun t ht hW => ⟨⟨x2, (), rfl, hw, by rw [ht]; exact hP, va_K.moved hW.alike hK, hD⟩, hS.F ht⟩) hS.2.2 dX5_pieces_19
set_option maxHeartbeats 4000000 in
set_option maxRecDepth 100000 in
theorem c_X5_bitsOfNextPiece (l : Launch) (dC : Nat → ClassId) (dI : Nat → Nat → Nat) (cy : Nat → ClassId) (h0 h_whole h_came h_whole_bytes : Nat) (sz : Nat) (c_number : Int32) (c_sent : Int32) (c_over : Int32) (c_pieceBytes : Int32) (c_whole_size : Int32) (c_whole_at : Int32) (post : Int32 → Prop) (hw : wp_X5_bitsOfNextPiece c_over c_pieceBytes c_whole_size post) : Met l yX5_bitsOfNextPiece wsX5_bitsOfNextPiece ({ frames := 1, cells := 0, slots := 0, locals := 30 }) (PX dC dI cy [.ref h0] sz (w_X5_bitsOfNextPiece h0 h_whole h_came h_whole_bytes cy c_number c_sent c_over c_pieceBytes c_whole_size c_whole_at)) (va_Qi (fun (r : Int32) (u : Unit) => post r) (QX dC dI cy (va_A (w_X5_bitsOfNextPiece h0 h_whole h_came h_whole_bytes cy c_number c_sent c_over c_pieceBytes c_whole_size c_whole_at) sz) (fun (u : Unit) => w_X5_bitsOfNextPiece h0 h_whole h_came h_whole_bytes cy c_number c_sent c_over c_pieceBytes c_whole_size c_whole_at)) (va_A (w_X5_bitsOfNextPiece h0 h_whole h_came h_whole_bytes cy c_number c_sent c_over c_pieceBytes c_whole_size c_whole_at) sz)) 0 0 (va_A (w_X5_bitsOfNextPiece h0 h_whole h_came h_whole_bytes cy c_number c_sent c_over c_pieceBytes c_whole_size c_whole_at) sz) := by
  refine Met.ofW (cc := cX5_bitsOfNextPiece) (maxL := 1) (ret := (some .int)) (by decide) rfl ?_
  intro p e s m args below meth c s₁ B hml hv
  obtain ⟨rfl, hsz, hP, hK, hD0, hG⟩ := hv
  have hx := B.exec
  have hb := B.bytes
  have hr := B.returns
  have hts := atoms_spec (ws := wsX5_bitsOfNextPiece) B.pre
  have hown : s.vm.findClass RX5 = some m.cls := findClass_of_methodNamed B.named
  have hlocks := B.notSynchronized
  subst hsz
  have hD := hD0.self (sz := s.heap.size)
  generalize hAe : va_A (w_X5_bitsOfNextPiece h0 h_whole h_came h_whole_bytes cy c_number c_sent c_over c_pieceBytes c_whole_size c_whole_at) s.heap.size = A at hD ⊢
  have hA : ∀ q : Nat, s.heap.size ≤ q → A q := fun q h => by rw [← hAe]; exact Or.inr h
  have hS : va_S A s.heap s.heap [] := va_S.rf
  have hl := lv_entry ([.ref h0]) (n := 1) (Nat.le_of_ble_eq_true rfl)
  rw [lg_entry_eq]
  generalize (lg_sl ([.ref h0]) ++ List.replicate (1 - (lg_sl ([.ref h0])).length) Slot.unset).toArray = ls at hl ⊢
  replace hl : lv_has ls 1 [(0, .ref h0)] := hl
  have inX1 : ∀ w ∈ u_ws RX1 TX1 3, w ∈ wsX5_bitsOfNextPiece := fun w h => List.mem_cons_of_mem _ (inlX1 w h)
  have inX5 : ∀ w ∈ u_ws RX5 TX5 6, w ∈ wsX5_bitsOfNextPiece := fun w h => List.mem_cons_of_mem _ (inlX5 w h)
  clear hAe hD0 B
  unfold wp_X5_bitsOfNextPiece at hw
  generalize hQe : MQ below _ _ s _ _ _ = Q0
  generalize ([.ref h0] : List Value).toArray = av at *
  obtain ⟨H, hH⟩ : ∃ H, H = s.heap := ⟨_, rfl⟩
  obtain ⟨locs, hlo⟩ : ∃ L : List Loc, L = [] := ⟨_, rfl⟩
  replace hP : va_P (dC, dI) vwCl (w_X5_bitsOfNextPiece h0 h_whole h_came h_whole_bytes cy c_number c_sent c_over c_pieceBytes c_whole_size c_whole_at) H := by rw [hH]; exact hP
  replace hS : va_S A s.heap H locs := by rw [hH, hlo]; exact hS
  suffices hgo : W p l e ({ frames := 1, cells := 0, slots := 0, locals := 30 }) s m av below meth c H locs 0 0 Q0 (F0 m 0 ls []) by rw [hH, hlo] at hgo; exact hgo
  clear hH hlo
  refine lv_bipush (v := 8) hx hb dX5_bitsOfNextPiece_0 (by decide) ?_
  refine lv_aload_n hx hb dX5_bitsOfNextPiece_2 rfl (lv_at hl 0 rfl) ?_
  refine va_get (D := (dC, dI)) (ci := 5) (v := .int c_pieceBytes) (C := RX5) (T := TX5) (N := 6) hx hb hts inX5 hown hK hP 0 rfl rfl 3 (by decide) (hts _ (List.mem_cons_of_mem _ mw_88)) (fun _ h9 => h9) rfl dX5_bitsOfNextPiece_3 ?_
  refine lv_aload_n hx hb dX5_bitsOfNextPiece_6 rfl (lv_at hl 0 rfl) ?_
  refine va_get (D := (dC, dI)) (ci := 5) (v := .ref h_whole) (C := RX5) (T := TX5) (N := 6) hx hb hts inX5 hown hK hP 0 rfl rfl 4 (by decide) (hts _ (List.mem_cons_of_mem _ mw_90)) (fun _ h9 => h9) rfl dX5_bitsOfNextPiece_7 ?_
  refine va_get (D := (dC, dI)) (ci := 1) (v := .int c_whole_size) (C := RX1) (T := TX1) (N := 3) hx hb hts inX1 hown hK hP 1 rfl rfl 1 (by decide) (hts _ (List.mem_cons_of_mem _ mw_454)) (fun _ h9 => h9) rfl dX5_bitsOfNextPiece_10 ?_
  refine lv_aload_n hx hb dX5_bitsOfNextPiece_13 rfl (lv_at hl 0 rfl) ?_
  refine va_get (D := (dC, dI)) (ci := 5) (v := .int c_over) (C := RX5) (T := TX5) (N := 6) hx hb hts inX5 hown hK hP 0 rfl rfl 2 (by decide) (hts _ (List.mem_cons_of_mem _ mw_87)) (fun _ h9 => h9) rfl dX5_bitsOfNextPiece_14 ?_
  refine lv_aload_n hx hb dX5_bitsOfNextPiece_17 rfl (lv_at hl 0 rfl) ?_
  refine va_get (D := (dC, dI)) (ci := 5) (v := .int c_pieceBytes) (C := RX5) (T := TX5) (N := 6) hx hb hts inX5 hown hK hP 0 rfl rfl 3 (by decide) (hts _ (List.mem_cons_of_mem _ mw_88)) (fun _ h9 => h9) rfl dX5_bitsOfNextPiece_18 ?_
  refine lv_imul hx hb dX5_bitsOfNextPiece_21 ?_
  refine lv_isub hx hb dX5_bitsOfNextPiece_22 ?_
  refine va_mmin hx hb (by rw [hml]; exact hl.1.symm) hown (hts _ (List.mem_cons_of_mem _ mw_455)) (hts _ (List.mem_cons_of_mem _ mw_345)) (hts _ (List.mem_cons_of_mem _ mw_76)) (hts _ (List.mem_cons_of_mem _ mw_346)) (Nat.le_of_ble_eq_true rfl) (Nat.le_of_ble_eq_true rfl) (Nat.zero_le _) (Nat.zero_le _) dX5_bitsOfNextPiece_23 ?_
  refine lv_topi (fun x1 e_x1 => ?_)
  replace hw := hw x1 e_x1
  clear e_x1
  refine lv_imul hx hb dX5_bitsOfNextPiece_26 ?_
  subst hQe
  exact W.iret (v := (8 : Int32) * x1) hx hb hr (fun t ht hW => ⟨⟨((8 : Int32) * x1), (), rfl, hw, by rw [ht]; exact hP, va_K.moved hW.alike hK, hD⟩, hS.F ht⟩) hS.2.2 dX5_bitsOfNextPiece_27
set_option maxHeartbeats 4000000 in
set_option maxRecDepth 100000 in
theorem c_X5_damageNextPiece (l : Launch) (dC : Nat → ClassId) (dI : Nat → Nat → Nat) (cy : Nat → ClassId) (h0 h_whole h_came h_came_bytes : Nat) (sz : Nat) (v1 : Int32) (c_number : Int32) (c_sent : Int32) (c_over : Int32) (c_pieceBytes : Int32) (c_came_size : Int32) (c_came_at : Int32) (c_came_bytes : Nat → Int32) (post : (Nat → Int32) → Prop) (hw : wp_X5_damageNextPiece v1 c_over c_pieceBytes c_came_size c_came_bytes post) : Met l yX5_damageNextPiece wsX5_damageNextPiece ({ frames := 1, cells := 0, slots := 0, locals := 21 }) (PX dC dI cy [.ref h0, .int v1] sz (w_X5_damageNextPiece h0 h_whole h_came h_came_bytes cy c_number c_sent c_over c_pieceBytes c_came_size c_came_at c_came_bytes)) (va_Qv (fun (u : (Nat → Int32)) => post u) (QX dC dI cy (va_A (w_X5_damageNextPiece h0 h_whole h_came h_came_bytes cy c_number c_sent c_over c_pieceBytes c_came_size c_came_at c_came_bytes) sz) (fun (u : (Nat → Int32)) => w_X5_damageNextPiece h0 h_whole h_came h_came_bytes cy c_number c_sent c_over c_pieceBytes c_came_size c_came_at u)) (va_A (w_X5_damageNextPiece h0 h_whole h_came h_came_bytes cy c_number c_sent c_over c_pieceBytes c_came_size c_came_at c_came_bytes) sz)) 0 0 (va_A (w_X5_damageNextPiece h0 h_whole h_came h_came_bytes cy c_number c_sent c_over c_pieceBytes c_came_size c_came_at c_came_bytes) sz) := by
  refine Met.ofW (cc := cX5_damageNextPiece) (maxL := 2) (ret := none) (by decide) rfl ?_
  intro p e s m args below meth c s₁ B hml hv
  obtain ⟨rfl, hsz, hP, hK, hD0, hG⟩ := hv
  have hx := B.exec
  have hb := B.bytes
  have hr := B.returns
  have hts := atoms_spec (ws := wsX5_damageNextPiece) B.pre
  have hown : s.vm.findClass RX5 = some m.cls := findClass_of_methodNamed B.named
  have hlocks := B.notSynchronized
  subst hsz
  have hD := hD0.self (sz := s.heap.size)
  generalize hAe : va_A (w_X5_damageNextPiece h0 h_whole h_came h_came_bytes cy c_number c_sent c_over c_pieceBytes c_came_size c_came_at c_came_bytes) s.heap.size = A at hD ⊢
  have hA : ∀ q : Nat, s.heap.size ≤ q → A q := fun q h => by rw [← hAe]; exact Or.inr h
  have hS : va_S A s.heap s.heap [] := va_S.rf
  have hl := lv_entry ([.ref h0, .int v1]) (n := 2) (Nat.le_of_ble_eq_true rfl)
  rw [lg_entry_eq]
  generalize (lg_sl ([.ref h0, .int v1]) ++ List.replicate (2 - (lg_sl ([.ref h0, .int v1])).length) Slot.unset).toArray = ls at hl ⊢
  replace hl : lv_has ls 2 [(0, .ref h0), (1, .int v1)] := hl
  have inX5 : ∀ w ∈ u_ws RX5 TX5 6, w ∈ wsX5_damageNextPiece := fun w h => List.mem_cons_of_mem _ (inlX5 w h)
  clear hAe hD0 B
  unfold wp_X5_damageNextPiece at hw
  generalize hQe : MQ below _ _ s _ _ _ = Q0
  generalize ([.ref h0, .int v1] : List Value).toArray = av at *
  obtain ⟨H, hH⟩ : ∃ H, H = s.heap := ⟨_, rfl⟩
  obtain ⟨locs, hlo⟩ : ∃ L : List Loc, L = [] := ⟨_, rfl⟩
  replace hP : va_P (dC, dI) vwCl (w_X5_damageNextPiece h0 h_whole h_came h_came_bytes cy c_number c_sent c_over c_pieceBytes c_came_size c_came_at c_came_bytes) H := by rw [hH]; exact hP
  replace hS : va_S A s.heap H locs := by rw [hH, hlo]; exact hS
  suffices hgo : W p l e ({ frames := 1, cells := 0, slots := 0, locals := 21 }) s m av below meth c H locs 0 0 Q0 (F0 m 0 ls []) by rw [hH, hlo] at hgo; exact hgo
  clear hH hlo
  refine lv_aload_n hx hb dX5_damageNextPiece_0 rfl (lv_at hl 0 rfl) ?_
  refine va_get (D := (dC, dI)) (ci := 5) (v := .ref h_came) (C := RX5) (T := TX5) (N := 6) hx hb hts inX5 hown hK hP 0 rfl rfl 5 (by decide) (hts _ (List.mem_cons_of_mem _ mw_91)) (fun _ h9 => h9) rfl dX5_damageNextPiece_1 ?_
  refine lv_bipush (v := 8) hx hb dX5_damageNextPiece_4 (by decide) ?_
  refine lv_aload_n hx hb dX5_damageNextPiece_6 rfl (lv_at hl 0 rfl) ?_
  refine va_get (D := (dC, dI)) (ci := 5) (v := .int c_over) (C := RX5) (T := TX5) (N := 6) hx hb hts inX5 hown hK hP 0 rfl rfl 2 (by decide) (hts _ (List.mem_cons_of_mem _ mw_87)) (fun _ h9 => h9) rfl dX5_damageNextPiece_7 ?_
  refine lv_imul hx hb dX5_damageNextPiece_10 ?_
  refine lv_aload_n hx hb dX5_damageNextPiece_11 rfl (lv_at hl 0 rfl) ?_
  refine va_get (D := (dC, dI)) (ci := 5) (v := .int c_pieceBytes) (C := RX5) (T := TX5) (N := 6) hx hb hts inX5 hown hK hP 0 rfl rfl 3 (by decide) (hts _ (List.mem_cons_of_mem _ mw_88)) (fun _ h9 => h9) rfl dX5_damageNextPiece_12 ?_
  refine lv_imul hx hb dX5_damageNextPiece_15 ?_
  refine lv_iload_n hx hb dX5_damageNextPiece_16 rfl (lv_at hl 1 rfl) ?_
  refine lv_iadd hx hb dX5_damageNextPiece_17 ?_
  have hPc := pSub (ws' := (w_X1_turnRound h_came h_came_bytes cy c_came_size c_came_at c_came_bytes)) hP [1, 2] rfl
  have hDc := dSub (ws' := (w_X1_turnRound h_came h_came_bytes cy c_came_size c_came_at c_came_bytes)) hD [1, 2] (by decide) rfl
  have hFc := va_free (wc := (w_X1_turnRound h_came h_came_bytes cy c_came_size c_came_at c_came_bytes)) hD hS hA [1, 2] rfl
  refine va_callv (va_runV (As := [.int ((((8 : Int32) * c_over) * c_pieceBytes) + v1)]) (rest := []) ⟨hx, hb, hml, hown, hts⟩ (c_X1_turnRound l dC dI cy h_came h_came_bytes H.size ((((8 : Int32) * c_over) * c_pieceBytes) + v1) c_came_size c_came_at c_came_bytes _ hw) (cwV 1 hts (goodV mw_463 mw_460 mw_461 mw_462 mw_24) rfl rfl rfl (by decide +kernel) ⟨Nat.le_of_ble_eq_true rfl, Nat.le_of_ble_eq_true rfl⟩) ⟨PX_blind, va_recv hK hPc (ci := 1) (q0 := 0) rfl rfl, PX_pre hPc hK hDc hG⟩ rfl rfl hl.1 rfl (lv_room (Nat.le_of_ble_eq_true rfl)) dX5_damageNextPiece_18 ⟨Nat.zero_le _, Nat.zero_le _⟩) hS (fun q _ h => hFc q h) hFc ?_; clear hw hS; intro f1 t H1 locs1 ht hvm hw hB hz1 hk1 hS
  obtain ⟨hP1, -, -⟩ := hB
  rw [ht] at hP1
  replace hP := jC0 hP hD [1, 2] [0] rfl hk1 hP1 (w_X5_damageNextPiece h0 h_whole h_came h_came_bytes cy c_number c_sent c_over c_pieceBytes c_came_size c_came_at f1) rfl rfl rfl 3 rfl (by decide +kernel); clear hD; obtain ⟨hP, hD⟩ := hP
  replace hP : va_P (dC, dI) vwCl (w_X5_damageNextPiece h0 h_whole h_came h_came_bytes cy c_number c_sent c_over c_pieceBytes c_came_size c_came_at f1) H1 := hP
  replace hD : va_D A (w_X5_damageNextPiece h0 h_whole h_came h_came_bytes cy c_number c_sent c_over c_pieceBytes c_came_size c_came_at f1) := hD
  clear hPc hDc hFc hP1 hk1 hz1 hvm ht; clear t; clear H locs; obtain ⟨H, hH⟩ : ∃ H, H = H1 := ⟨_, rfl⟩; obtain ⟨locs, hlo⟩ : ∃ L, L = locs1 := ⟨_, rfl⟩; subst hH; subst hlo
  refine W.widen (k := 0) (n := 0) (Nat.le_refl 0) (Nat.le_refl 0) ?_
  subst hQe
  exact W.vret hx hb hr (fun t ht hW => ⟨⟨f1, rfl, hw, by rw [ht]; exact hP, va_K.moved hW.alike hK, hD⟩, hS.F ht⟩) hS.2.2 dX5_damageNextPiece_21
set_option maxHeartbeats 4000000 in
set_option maxRecDepth 100000 in
theorem c_X6_clear (l : Launch) (dC : Nat → ClassId) (dI : Nat → Nat → Nat) (cy : Nat → ClassId) (h0 h_numbers h_book h_buffer h_ears h_frame h_records h_ears_0 h_ears_1 h_ears_0_tree h_ears_0_row h_ears_0_made h_ears_0_fresh h_ears_0_tree_memoriesA h_ears_0_tree_memoriesB h_ears_0_tree_row h_ears_0_tree_next h_ears_1_tree h_ears_1_row h_ears_1_made h_ears_1_fresh h_ears_1_tree_memoriesA h_ears_1_tree_memoriesB h_ears_1_tree_row h_ears_1_tree_next : Nat) (sz : Nat) (c_ears_0_lag : Int32) (c_ears_0_lagSum : Int32) (c_ears_0_tree_memoriesA : Nat → Int32) (c_ears_0_tree_memoriesB : Nat → Int32) (c_ears_0_row : Nat → Int32) (c_ears_1_lag : Int32) (c_ears_1_lagSum : Int32) (c_ears_1_tree_memoriesA : Nat → Int32) (c_ears_1_tree_memoriesB : Nat → Int32) (c_ears_1_row : Nat → Int32) (post : (Nat → Int32) → (Nat → Int32) → (Nat → Int32) → (Nat → Int32) → (Nat → Int32) → (Nat → Int32) → Prop) (hw : wp_X6_clear c_ears_0_tree_memoriesA c_ears_0_tree_memoriesB c_ears_0_row c_ears_1_tree_memoriesA c_ears_1_tree_memoriesB c_ears_1_row post) : Met l yX6_clear wsX6_clear ({ frames := 3, cells := 0, slots := 0, locals := 63 }) (PX dC dI cy [.ref h0] sz (w_X6_clear h0 h_numbers h_book h_buffer h_ears h_frame h_records h_ears_0 h_ears_1 h_ears_0_tree h_ears_0_row h_ears_0_made h_ears_0_fresh h_ears_0_tree_memoriesA h_ears_0_tree_memoriesB h_ears_0_tree_row h_ears_0_tree_next h_ears_1_tree h_ears_1_row h_ears_1_made h_ears_1_fresh h_ears_1_tree_memoriesA h_ears_1_tree_memoriesB h_ears_1_tree_row h_ears_1_tree_next cy c_ears_0_lag c_ears_0_lagSum c_ears_0_tree_memoriesA c_ears_0_tree_memoriesB c_ears_0_row c_ears_1_lag c_ears_1_lagSum c_ears_1_tree_memoriesA c_ears_1_tree_memoriesB c_ears_1_row)) (va_Qv (fun (u : (Nat → Int32) × (Nat → Int32) × (Nat → Int32) × (Nat → Int32) × (Nat → Int32) × (Nat → Int32)) => post u.1 u.2.1 u.2.2.1 u.2.2.2.1 u.2.2.2.2.1 u.2.2.2.2.2) (QX dC dI cy (va_A (w_X6_clear h0 h_numbers h_book h_buffer h_ears h_frame h_records h_ears_0 h_ears_1 h_ears_0_tree h_ears_0_row h_ears_0_made h_ears_0_fresh h_ears_0_tree_memoriesA h_ears_0_tree_memoriesB h_ears_0_tree_row h_ears_0_tree_next h_ears_1_tree h_ears_1_row h_ears_1_made h_ears_1_fresh h_ears_1_tree_memoriesA h_ears_1_tree_memoriesB h_ears_1_tree_row h_ears_1_tree_next cy c_ears_0_lag c_ears_0_lagSum c_ears_0_tree_memoriesA c_ears_0_tree_memoriesB c_ears_0_row c_ears_1_lag c_ears_1_lagSum c_ears_1_tree_memoriesA c_ears_1_tree_memoriesB c_ears_1_row) sz) (fun (u : (Nat → Int32) × (Nat → Int32) × (Nat → Int32) × (Nat → Int32) × (Nat → Int32) × (Nat → Int32)) => w_X6_clear h0 h_numbers h_book h_buffer h_ears h_frame h_records h_ears_0 h_ears_1 h_ears_0_tree h_ears_0_row h_ears_0_made h_ears_0_fresh h_ears_0_tree_memoriesA h_ears_0_tree_memoriesB h_ears_0_tree_row h_ears_0_tree_next h_ears_1_tree h_ears_1_row h_ears_1_made h_ears_1_fresh h_ears_1_tree_memoriesA h_ears_1_tree_memoriesB h_ears_1_tree_row h_ears_1_tree_next cy c_ears_0_lag c_ears_0_lagSum u.1 u.2.1 u.2.2.1 c_ears_1_lag c_ears_1_lagSum u.2.2.2.1 u.2.2.2.2.1 u.2.2.2.2.2)) (va_A (w_X6_clear h0 h_numbers h_book h_buffer h_ears h_frame h_records h_ears_0 h_ears_1 h_ears_0_tree h_ears_0_row h_ears_0_made h_ears_0_fresh h_ears_0_tree_memoriesA h_ears_0_tree_memoriesB h_ears_0_tree_row h_ears_0_tree_next h_ears_1_tree h_ears_1_row h_ears_1_made h_ears_1_fresh h_ears_1_tree_memoriesA h_ears_1_tree_memoriesB h_ears_1_tree_row h_ears_1_tree_next cy c_ears_0_lag c_ears_0_lagSum c_ears_0_tree_memoriesA c_ears_0_tree_memoriesB c_ears_0_row c_ears_1_lag c_ears_1_lagSum c_ears_1_tree_memoriesA c_ears_1_tree_memoriesB c_ears_1_row) sz)) 0 0 (va_A (w_X6_clear h0 h_numbers h_book h_buffer h_ears h_frame h_records h_ears_0 h_ears_1 h_ears_0_tree h_ears_0_row h_ears_0_made h_ears_0_fresh h_ears_0_tree_memoriesA h_ears_0_tree_memoriesB h_ears_0_tree_row h_ears_0_tree_next h_ears_1_tree h_ears_1_row h_ears_1_made h_ears_1_fresh h_ears_1_tree_memoriesA h_ears_1_tree_memoriesB h_ears_1_tree_row h_ears_1_tree_next cy c_ears_0_lag c_ears_0_lagSum c_ears_0_tree_memoriesA c_ears_0_tree_memoriesB c_ears_0_row c_ears_1_lag c_ears_1_lagSum c_ears_1_tree_memoriesA c_ears_1_tree_memoriesB c_ears_1_row) sz) := by
  refine Met.ofW (cc := cX6_clear) (maxL := 1) (ret := none) (by decide) rfl ?_
  intro p e s m args below meth c s₁ B hml hv
  obtain ⟨rfl, hsz, hP, hK, hD0, hG⟩ := hv
  have hx := B.exec
  have hb := B.bytes
  have hr := B.returns
  have hts := atoms_spec (ws := wsX6_clear) B.pre
  have hown : s.vm.findClass RX6 = some m.cls := findClass_of_methodNamed B.named
  have hlocks := B.notSynchronized
  subst hsz
  have hD := hD0.self (sz := s.heap.size)
  generalize hAe : va_A (w_X6_clear h0 h_numbers h_book h_buffer h_ears h_frame h_records h_ears_0 h_ears_1 h_ears_0_tree h_ears_0_row h_ears_0_made h_ears_0_fresh h_ears_0_tree_memoriesA h_ears_0_tree_memoriesB h_ears_0_tree_row h_ears_0_tree_next h_ears_1_tree h_ears_1_row h_ears_1_made h_ears_1_fresh h_ears_1_tree_memoriesA h_ears_1_tree_memoriesB h_ears_1_tree_row h_ears_1_tree_next cy c_ears_0_lag c_ears_0_lagSum c_ears_0_tree_memoriesA c_ears_0_tree_memoriesB c_ears_0_row c_ears_1_lag c_ears_1_lagSum c_ears_1_tree_memoriesA c_ears_1_tree_memoriesB c_ears_1_row) s.heap.size = A at hD ⊢
  have hA : ∀ q : Nat, s.heap.size ≤ q → A q := fun q h => by rw [← hAe]; exact Or.inr h
  have hS : va_S A s.heap s.heap [] := va_S.rf
  have hl := lv_entry ([.ref h0]) (n := 1) (Nat.le_of_ble_eq_true rfl)
  rw [lg_entry_eq]
  generalize (lg_sl ([.ref h0]) ++ List.replicate (1 - (lg_sl ([.ref h0])).length) Slot.unset).toArray = ls at hl ⊢
  replace hl : lv_has ls 1 [(0, .ref h0)] := hl
  have inX6 : ∀ w ∈ u_ws RX6 TX6 6, w ∈ wsX6_clear := fun w h => List.mem_cons_of_mem _ (inlX6 w h)
  clear hAe hD0 B
  unfold wp_X6_clear at hw
  generalize hQe : MQ below _ _ s _ _ _ = Q0
  generalize ([.ref h0] : List Value).toArray = av at *
  obtain ⟨H, hH⟩ : ∃ H, H = s.heap := ⟨_, rfl⟩
  obtain ⟨locs, hlo⟩ : ∃ L : List Loc, L = [] := ⟨_, rfl⟩
  replace hP : va_P (dC, dI) vwCl (w_X6_clear h0 h_numbers h_book h_buffer h_ears h_frame h_records h_ears_0 h_ears_1 h_ears_0_tree h_ears_0_row h_ears_0_made h_ears_0_fresh h_ears_0_tree_memoriesA h_ears_0_tree_memoriesB h_ears_0_tree_row h_ears_0_tree_next h_ears_1_tree h_ears_1_row h_ears_1_made h_ears_1_fresh h_ears_1_tree_memoriesA h_ears_1_tree_memoriesB h_ears_1_tree_row h_ears_1_tree_next cy c_ears_0_lag c_ears_0_lagSum c_ears_0_tree_memoriesA c_ears_0_tree_memoriesB c_ears_0_row c_ears_1_lag c_ears_1_lagSum c_ears_1_tree_memoriesA c_ears_1_tree_memoriesB c_ears_1_row) H := by rw [hH]; exact hP
  replace hS : va_S A s.heap H locs := by rw [hH, hlo]; exact hS
  suffices hgo : W p l e ({ frames := 3, cells := 0, slots := 0, locals := 63 }) s m av below meth c H locs 0 0 Q0 (F0 m 0 ls []) by rw [hH, hlo] at hgo; exact hgo
  clear hH hlo
  refine lv_aload_n hx hb dX6_clear_0 rfl (lv_at hl 0 rfl) ?_
  refine va_get (D := (dC, dI)) (ci := 6) (v := .ref h_ears) (C := RX6) (T := TX6) (N := 6) hx hb hts inX6 hown hK hP 0 rfl rfl 3 (by decide) (hts _ (List.mem_cons_of_mem _ mw_148)) (fun _ h9 => h9) rfl dX6_clear_1 ?_
  refine lv_iconst (v := 0) hx hb dX6_clear_4 (by decide) ?_
  refine xald0 hx hb hK hP 1 3 rfl rfl dX6_clear_5 ?_
  have hPc := pSub (ws' := (w_X3_clear h_ears_0 h_ears_0_tree h_ears_0_row h_ears_0_made h_ears_0_fresh h_ears_0_tree_memoriesA h_ears_0_tree_memoriesB h_ears_0_tree_row h_ears_0_tree_next cy c_ears_0_lag c_ears_0_lagSum c_ears_0_tree_memoriesA c_ears_0_tree_memoriesB c_ears_0_row)) hP [2, 3, 4, 5, 6] rfl
  have hDc := dSub (ws' := (w_X3_clear h_ears_0 h_ears_0_tree h_ears_0_row h_ears_0_made h_ears_0_fresh h_ears_0_tree_memoriesA h_ears_0_tree_memoriesB h_ears_0_tree_row h_ears_0_tree_next cy c_ears_0_lag c_ears_0_lagSum c_ears_0_tree_memoriesA c_ears_0_tree_memoriesB c_ears_0_row)) hD [2, 3, 4, 5, 6] (by decide) rfl
  have hFc := va_free (wc := (w_X3_clear h_ears_0 h_ears_0_tree h_ears_0_row h_ears_0_made h_ears_0_fresh h_ears_0_tree_memoriesA h_ears_0_tree_memoriesB h_ears_0_tree_row h_ears_0_tree_next cy c_ears_0_lag c_ears_0_lagSum c_ears_0_tree_memoriesA c_ears_0_tree_memoriesB c_ears_0_row)) hD hS hA [2, 3, 4, 5, 6] rfl
  refine va_callv (va_runV (As := []) (rest := []) ⟨hx, hb, hml, hown, hts⟩ (c_X3_clear l dC dI cy h_ears_0 h_ears_0_tree h_ears_0_row h_ears_0_made h_ears_0_fresh h_ears_0_tree_memoriesA h_ears_0_tree_memoriesB h_ears_0_tree_row h_ears_0_tree_next H.size c_ears_0_lag c_ears_0_lagSum c_ears_0_tree_memoriesA c_ears_0_tree_memoriesB c_ears_0_row _ hw) (cwV 0 hts (goodV mw_828 mw_825 mw_826 mw_827 mw_147) rfl rfl rfl (by decide +kernel) ⟨Nat.le_of_ble_eq_true rfl, Nat.le_of_ble_eq_true rfl⟩) ⟨PX_blind, va_recv hK hPc (ci := 3) (q0 := 0) rfl rfl, PX_pre hPc hK hDc hG⟩ rfl rfl hl.1 rfl (lv_room (Nat.le_of_ble_eq_true rfl)) dX6_clear_6 ⟨Nat.zero_le _, Nat.zero_le _⟩) hS (fun q _ h => hFc q h) hFc ?_; clear hw hS; intro u t H1 locs1 ht hvm hw hB hz1 hk1 hS
  obtain ⟨f1, f2, f3⟩ := u
  obtain ⟨hP1, -, -⟩ := hB
  rw [ht] at hP1
  replace hP := jC0 hP hD [2, 3, 4, 5, 6] [0, 1, 7, 8, 9, 10, 11] rfl hk1 hP1 (w_X6_clear h0 h_numbers h_book h_buffer h_ears h_frame h_records h_ears_0 h_ears_1 h_ears_0_tree h_ears_0_row h_ears_0_made h_ears_0_fresh h_ears_0_tree_memoriesA h_ears_0_tree_memoriesB h_ears_0_tree_row h_ears_0_tree_next h_ears_1_tree h_ears_1_row h_ears_1_made h_ears_1_fresh h_ears_1_tree_memoriesA h_ears_1_tree_memoriesB h_ears_1_tree_row h_ears_1_tree_next cy c_ears_0_lag c_ears_0_lagSum f1 f2 f3 c_ears_1_lag c_ears_1_lagSum c_ears_1_tree_memoriesA c_ears_1_tree_memoriesB c_ears_1_row) rfl rfl rfl 12 rfl (by decide +kernel); clear hD; obtain ⟨hP, hD⟩ := hP
  replace hP : va_P (dC, dI) vwCl (w_X6_clear h0 h_numbers h_book h_buffer h_ears h_frame h_records h_ears_0 h_ears_1 h_ears_0_tree h_ears_0_row h_ears_0_made h_ears_0_fresh h_ears_0_tree_memoriesA h_ears_0_tree_memoriesB h_ears_0_tree_row h_ears_0_tree_next h_ears_1_tree h_ears_1_row h_ears_1_made h_ears_1_fresh h_ears_1_tree_memoriesA h_ears_1_tree_memoriesB h_ears_1_tree_row h_ears_1_tree_next cy c_ears_0_lag c_ears_0_lagSum f1 f2 f3 c_ears_1_lag c_ears_1_lagSum c_ears_1_tree_memoriesA c_ears_1_tree_memoriesB c_ears_1_row) H1 := hP
  replace hD : va_D A (w_X6_clear h0 h_numbers h_book h_buffer h_ears h_frame h_records h_ears_0 h_ears_1 h_ears_0_tree h_ears_0_row h_ears_0_made h_ears_0_fresh h_ears_0_tree_memoriesA h_ears_0_tree_memoriesB h_ears_0_tree_row h_ears_0_tree_next h_ears_1_tree h_ears_1_row h_ears_1_made h_ears_1_fresh h_ears_1_tree_memoriesA h_ears_1_tree_memoriesB h_ears_1_tree_row h_ears_1_tree_next cy c_ears_0_lag c_ears_0_lagSum f1 f2 f3 c_ears_1_lag c_ears_1_lagSum c_ears_1_tree_memoriesA c_ears_1_tree_memoriesB c_ears_1_row) := hD
  clear hPc hDc hFc hP1 hk1 hz1 hvm ht; clear t; clear H locs; obtain ⟨H, hH⟩ : ∃ H, H = H1 := ⟨_, rfl⟩; obtain ⟨locs, hlo⟩ : ∃ L, L = locs1 := ⟨_, rfl⟩; subst hH; subst hlo
  refine W.widen (k := 0) (n := 0) (Nat.le_refl 0) (Nat.le_refl 0) ?_
  refine lv_aload_n hx hb dX6_clear_9 rfl (lv_at hl 0 rfl) ?_
  refine va_get (D := (dC, dI)) (ci := 6) (v := .ref h_ears) (C := RX6) (T := TX6) (N := 6) hx hb hts inX6 hown hK hP 0 rfl rfl 3 (by decide) (hts _ (List.mem_cons_of_mem _ mw_148)) (fun _ h9 => h9) rfl dX6_clear_10 ?_
  refine lv_iconst (v := 1) hx hb dX6_clear_13 (by decide) ?_
  refine xald1 hx hb hK hP 1 3 rfl rfl dX6_clear_14 ?_
  have hPc := pSub (ws' := (w_X3_clear h_ears_1 h_ears_1_tree h_ears_1_row h_ears_1_made h_ears_1_fresh h_ears_1_tree_memoriesA h_ears_1_tree_memoriesB h_ears_1_tree_row h_ears_1_tree_next cy c_ears_1_lag c_ears_1_lagSum c_ears_1_tree_memoriesA c_ears_1_tree_memoriesB c_ears_1_row)) hP [7, 8, 9, 10, 11] rfl
  have hDc := dSub (ws' := (w_X3_clear h_ears_1 h_ears_1_tree h_ears_1_row h_ears_1_made h_ears_1_fresh h_ears_1_tree_memoriesA h_ears_1_tree_memoriesB h_ears_1_tree_row h_ears_1_tree_next cy c_ears_1_lag c_ears_1_lagSum c_ears_1_tree_memoriesA c_ears_1_tree_memoriesB c_ears_1_row)) hD [7, 8, 9, 10, 11] (by decide) rfl
  have hFc := va_free (wc := (w_X3_clear h_ears_1 h_ears_1_tree h_ears_1_row h_ears_1_made h_ears_1_fresh h_ears_1_tree_memoriesA h_ears_1_tree_memoriesB h_ears_1_tree_row h_ears_1_tree_next cy c_ears_1_lag c_ears_1_lagSum c_ears_1_tree_memoriesA c_ears_1_tree_memoriesB c_ears_1_row)) hD hS hA [7, 8, 9, 10, 11] rfl
  refine va_callv (va_runV (As := []) (rest := []) ⟨hx, hb, hml, hown, hts⟩ (c_X3_clear l dC dI cy h_ears_1 h_ears_1_tree h_ears_1_row h_ears_1_made h_ears_1_fresh h_ears_1_tree_memoriesA h_ears_1_tree_memoriesB h_ears_1_tree_row h_ears_1_tree_next H.size c_ears_1_lag c_ears_1_lagSum c_ears_1_tree_memoriesA c_ears_1_tree_memoriesB c_ears_1_row _ hw) (cwV 0 hts (goodV mw_828 mw_825 mw_826 mw_827 mw_147) rfl rfl rfl (by decide +kernel) ⟨Nat.le_of_ble_eq_true rfl, Nat.le_of_ble_eq_true rfl⟩) ⟨PX_blind, va_recv hK hPc (ci := 3) (q0 := 0) rfl rfl, PX_pre hPc hK hDc hG⟩ rfl rfl hl.1 rfl (lv_room (Nat.le_of_ble_eq_true rfl)) dX6_clear_15 ⟨Nat.zero_le _, Nat.zero_le _⟩) hS (fun q _ h => hFc q h) hFc ?_; clear hw hS; intro u t H1 locs1 ht hvm hw hB hz1 hk1 hS
  obtain ⟨f4, f5, f6⟩ := u
  obtain ⟨hP1, -, -⟩ := hB
  rw [ht] at hP1
  replace hP := jC0 hP hD [7, 8, 9, 10, 11] [0, 1, 2, 3, 4, 5, 6] rfl hk1 hP1 (w_X6_clear h0 h_numbers h_book h_buffer h_ears h_frame h_records h_ears_0 h_ears_1 h_ears_0_tree h_ears_0_row h_ears_0_made h_ears_0_fresh h_ears_0_tree_memoriesA h_ears_0_tree_memoriesB h_ears_0_tree_row h_ears_0_tree_next h_ears_1_tree h_ears_1_row h_ears_1_made h_ears_1_fresh h_ears_1_tree_memoriesA h_ears_1_tree_memoriesB h_ears_1_tree_row h_ears_1_tree_next cy c_ears_0_lag c_ears_0_lagSum f1 f2 f3 c_ears_1_lag c_ears_1_lagSum f4 f5 f6) rfl rfl rfl 12 rfl (by decide +kernel); clear hD; obtain ⟨hP, hD⟩ := hP
  replace hP : va_P (dC, dI) vwCl (w_X6_clear h0 h_numbers h_book h_buffer h_ears h_frame h_records h_ears_0 h_ears_1 h_ears_0_tree h_ears_0_row h_ears_0_made h_ears_0_fresh h_ears_0_tree_memoriesA h_ears_0_tree_memoriesB h_ears_0_tree_row h_ears_0_tree_next h_ears_1_tree h_ears_1_row h_ears_1_made h_ears_1_fresh h_ears_1_tree_memoriesA h_ears_1_tree_memoriesB h_ears_1_tree_row h_ears_1_tree_next cy c_ears_0_lag c_ears_0_lagSum f1 f2 f3 c_ears_1_lag c_ears_1_lagSum f4 f5 f6) H1 := hP
  replace hD : va_D A (w_X6_clear h0 h_numbers h_book h_buffer h_ears h_frame h_records h_ears_0 h_ears_1 h_ears_0_tree h_ears_0_row h_ears_0_made h_ears_0_fresh h_ears_0_tree_memoriesA h_ears_0_tree_memoriesB h_ears_0_tree_row h_ears_0_tree_next h_ears_1_tree h_ears_1_row h_ears_1_made h_ears_1_fresh h_ears_1_tree_memoriesA h_ears_1_tree_memoriesB h_ears_1_tree_row h_ears_1_tree_next cy c_ears_0_lag c_ears_0_lagSum f1 f2 f3 c_ears_1_lag c_ears_1_lagSum f4 f5 f6) := hD
  clear hPc hDc hFc hP1 hk1 hz1 hvm ht; clear t; clear H locs; obtain ⟨H, hH⟩ : ∃ H, H = H1 := ⟨_, rfl⟩; obtain ⟨locs, hlo⟩ : ∃ L, L = locs1 := ⟨_, rfl⟩; subst hH; subst hlo
  refine W.widen (k := 0) (n := 0) (Nat.le_refl 0) (Nat.le_refl 0) ?_
  subst hQe
  exact W.vret hx hb hr (fun t ht hW => ⟨⟨(f1, f2, f3, f4, f5, f6), rfl, hw, by rw [ht]; exact hP, va_K.moved hW.alike hK, hD⟩, hS.F ht⟩) hS.2.2 dX6_clear_18
set_option maxHeartbeats 4000000 in
set_option maxRecDepth 100000 in
theorem c_X7_at (l : Launch) (dC : Nat → ClassId) (dI : Nat → Nat → Nat) (cy : Nat → ClassId) (h0 h_numbers h_places : Nat) (h_places_e : Nat → Nat → Nat) (n_c_places : Nat) (sz : Nat) (v1 : Int32) (c_sizeAt : Int32) (c_head : Int32) (c_numbers : Nat → Int32) (post : (Option Nat) → Prop) (hw : wp_X7_at n_c_places v1 c_sizeAt c_head c_numbers post) : Met l yX7_at wsX7_at ({ frames := 0, cells := 0, slots := 0, locals := 0 }) (PX dC dI cy [.ref h0, .int v1] sz (w_X7_at h0 h_numbers h_places h_places_e cy n_c_places c_sizeAt c_head c_numbers)) (va_Qq (fun (r : Option Nat) (u : Unit) => ∃ o : Option Nat, r = o.map (fun i => h_places_e i 0) ∧ post o) (QX dC dI cy (va_A (w_X7_at h0 h_numbers h_places h_places_e cy n_c_places c_sizeAt c_head c_numbers) sz) (fun (u : Unit) => w_X7_at h0 h_numbers h_places h_places_e cy n_c_places c_sizeAt c_head c_numbers)) (va_A (w_X7_at h0 h_numbers h_places h_places_e cy n_c_places c_sizeAt c_head c_numbers) sz)) 0 0 (va_A (w_X7_at h0 h_numbers h_places h_places_e cy n_c_places c_sizeAt c_head c_numbers) sz) := by
  refine Met.ofW (cc := cX7_at) (maxL := 2) (ret := (some (.object "HeadsetBands$Packet"))) (by decide) rfl ?_
  intro p e s m args below meth c s₁ B hml hv
  obtain ⟨rfl, hsz, hP, hK, hD0, hG⟩ := hv
  have hx := B.exec
  have hb := B.bytes
  have hr := B.returns
  have hts := atoms_spec (ws := wsX7_at) B.pre
  have hown : s.vm.findClass RX7 = some m.cls := findClass_of_methodNamed B.named
  have hlocks := B.notSynchronized
  subst hsz
  have hD := hD0.self (sz := s.heap.size)
  generalize hAe : va_A (w_X7_at h0 h_numbers h_places h_places_e cy n_c_places c_sizeAt c_head c_numbers) s.heap.size = A at hD ⊢
  have hA : ∀ q : Nat, s.heap.size ≤ q → A q := fun q h => by rw [← hAe]; exact Or.inr h
  have hS : va_S A s.heap s.heap [] := va_S.rf
  have hl := lv_entry ([.ref h0, .int v1]) (n := 2) (Nat.le_of_ble_eq_true rfl)
  rw [lg_entry_eq]
  generalize (lg_sl ([.ref h0, .int v1]) ++ List.replicate (2 - (lg_sl ([.ref h0, .int v1])).length) Slot.unset).toArray = ls at hl ⊢
  replace hl : lv_has ls 2 [(0, .ref h0), (1, .int v1)] := hl
  have inX7 : ∀ w ∈ u_ws RX7 TX7 4, w ∈ wsX7_at := fun w h => List.mem_cons_of_mem _ (inlX7 w h)
  clear hAe hD0 B
  unfold wp_X7_at at hw
  generalize hQe : MQ below _ _ s _ _ _ = Q0
  generalize ([.ref h0, .int v1] : List Value).toArray = av at *
  obtain ⟨H, hH⟩ : ∃ H, H = s.heap := ⟨_, rfl⟩
  obtain ⟨locs, hlo⟩ : ∃ L : List Loc, L = [] := ⟨_, rfl⟩
  replace hP : va_P (dC, dI) vwCl (w_X7_at h0 h_numbers h_places h_places_e cy n_c_places c_sizeAt c_head c_numbers) H := by rw [hH]; exact hP
  replace hS : va_S A s.heap H locs := by rw [hH, hlo]; exact hS
  suffices hgo : W p l e ({ frames := 0, cells := 0, slots := 0, locals := 0 }) s m av below meth c H locs 0 0 Q0 (F0 m 0 ls []) by rw [hH, hlo] at hgo; exact hgo
  clear hH hlo
  refine lv_iload_n hx hb dX7_at_0 rfl (lv_at hl 1 rfl) ?_
  refine lv_if_lt (tgt := 17) hx hb dX7_at_1 (by decide) (fun c1 => ?_) (fun c1 => ?_)
  · replace hw := hw.1 c1
    refine lv_null hx hb dX7_at_17 ?_
    subst hQe
    exact W.aret (v := .null) hx hb hr (Or.inl ⟨_, rfl⟩) (Or.inl rfl) (fun t ht hW => ⟨⟨none, (), rfl, ⟨none, rfl, hw⟩, by rw [ht]; exact hP, va_K.moved hW.alike hK, hD⟩, hS.F ht⟩) hS.2.2 dX7_at_18
  · replace hw := hw.2 c1
    refine lv_iload_n hx hb dX7_at_4 rfl (lv_at hl 1 rfl) ?_
    refine lv_aload_n hx hb dX7_at_5 rfl (lv_at hl 0 rfl) ?_
    refine va_get (D := (dC, dI)) (ci := 7) (v := .ref h_numbers) (C := RX7) (T := TX7) (N := 4) hx hb hts inX7 hown hK hP 0 rfl rfl 0 (by decide) (hts _ (List.mem_cons_of_mem _ mw_72)) (fun _ h9 => h9) rfl dX7_at_6 ?_
    refine lv_aload_n hx hb dX7_at_9 rfl (lv_at hl 0 rfl) ?_
    refine va_get (D := (dC, dI)) (ci := 7) (v := .int c_sizeAt) (C := RX7) (T := TX7) (N := 4) hx hb hts inX7 hown hK hP 0 rfl rfl 1 (by decide) (hts _ (List.mem_cons_of_mem _ mw_73)) (fun _ h9 => h9) rfl dX7_at_10 ?_
    obtain ⟨h2, hw⟩ := hw
    refine xiald (k := c_sizeAt.toNatClampNeg) hx hb hK hP 1 0 rfl rfl h2 rfl dX7_at_13 ?_
    refine lv_icmp_lt (tgt := 19) hx hb dX7_at_14 (by decide) (fun c3 => ?_) (fun c3 => ?_)
    · replace hw := hw.1 c3
      refine lv_aload_n hx hb dX7_at_19 rfl (lv_at hl 0 rfl) ?_
      refine va_get (D := (dC, dI)) (ci := 7) (v := .ref h_places) (C := RX7) (T := TX7) (N := 4) hx hb hts inX7 hown hK hP 0 rfl rfl 2 (by decide) (hts _ (List.mem_cons_of_mem _ mw_79)) (fun _ h9 => h9) rfl dX7_at_20 ?_
      refine lv_aload_n hx hb dX7_at_23 rfl (lv_at hl 0 rfl) ?_
      refine va_get (D := (dC, dI)) (ci := 7) (v := .int c_head) (C := RX7) (T := TX7) (N := 4) hx hb hts inX7 hown hK hP 0 rfl rfl 3 (by decide) (hts _ (List.mem_cons_of_mem _ mw_71)) (fun _ h9 => h9) rfl dX7_at_24 ?_
      refine lv_iload_n hx hb dX7_at_27 rfl (lv_at hl 1 rfl) ?_
      refine lv_iadd hx hb dX7_at_28 ?_
      refine lv_aload_n hx hb dX7_at_29 rfl (lv_at hl 0 rfl) ?_
      refine va_get (D := (dC, dI)) (ci := 7) (v := .ref h_places) (C := RX7) (T := TX7) (N := 4) hx hb hts inX7 hown hK hP 0 rfl rfl 2 (by decide) (hts _ (List.mem_cons_of_mem _ mw_79)) (fun _ h9 => h9) rfl dX7_at_30 ?_
      refine va_alen (v := Int32.ofNat n_c_places) hx hb hK hP 2 4 rfl rfl rfl dX7_at_33 ?_
      obtain ⟨h4, hw⟩ := hw
      refine lv_irem hx hb dX7_at_34 h4 ?_
      refine lv_topi (fun x5 e_x5 => ?_)
      replace hw := hw x5 e_x5
      clear e_x5
      obtain ⟨h6, hw⟩ := hw
      refine xaldF hx hb hK hP 2 4 rfl rfl h6 dX7_at_35 ?_
      subst hQe
      exact W.aret (v := (.ref (h_places_e x5.toNatClampNeg 0))) hx hb hr (Or.inl ⟨_, rfl⟩) (Or.inr ⟨_, rfl⟩) (fun t ht hW => ⟨⟨(some (h_places_e x5.toNatClampNeg 0)), (), rfl, ⟨(some (x5.toNatClampNeg)), rfl, hw⟩, by rw [ht]; exact hP, va_K.moved hW.alike hK, hD⟩, hS.F ht⟩) hS.2.2 dX7_at_36
    · replace hw := hw.2 c3
      refine lv_null hx hb dX7_at_17 ?_
      subst hQe
      exact W.aret (v := .null) hx hb hr (Or.inl ⟨_, rfl⟩) (Or.inl rfl) (fun t ht hW => ⟨⟨none, (), rfl, ⟨none, rfl, hw⟩, by rw [ht]; exact hP, va_K.moved hW.alike hK, hD⟩, hS.F ht⟩) hS.2.2 dX7_at_18
set_option maxHeartbeats 4000000 in
set_option maxRecDepth 100000 in
theorem c_X7_become (l : Launch) (dC : Nat → ClassId) (dI : Nat → Nat → Nat) (cy : Nat → ClassId) (h0 h_numbers h_places k1 k1_numbers k1_places : Nat) (h_places_e k1_places_e : Nat → Nat → Nat) (n_c_places n_p1_places : Nat) (sz : Nat) (c_sizeAt : Int32) (c_head : Int32) (p1_sizeAt : Int32) (p1_head : Int32) (c_numbers : Nat → Int32) (p1_numbers : Nat → Int32) (c_places_number : Nat → Int32) (c_places_sent : Nat → Int32) (c_places_over : Nat → Int32) (c_places_pieceBytes : Nat → Int32) (c_places_whole_bytes : Nat → Nat → Int32) (c_places_whole_size : Nat → Int32) (c_places_whole_at : Nat → Int32) (c_places_came_bytes : Nat → Nat → Int32) (c_places_came_size : Nat → Int32) (c_places_came_at : Nat → Int32) (p1_places_number : Nat → Int32) (p1_places_sent : Nat → Int32) (p1_places_over : Nat → Int32) (p1_places_pieceBytes : Nat → Int32) (p1_places_whole_bytes : Nat → Nat → Int32) (p1_places_whole_size : Nat → Int32) (p1_places_whole_at : Nat → Int32) (p1_places_came_bytes : Nat → Nat → Int32) (p1_places_came_size : Nat → Int32) (p1_places_came_at : Nat → Int32) (post : Int32 → (Nat → Int32) → (Nat → Int32) → (Nat → Int32) → (Nat → Int32) → (Nat → Nat → Int32) → (Nat → Int32) → (Nat → Nat → Int32) → (Nat → Int32) → Prop) (hw : wp_X7_become n_c_places n_p1_places c_sizeAt c_head p1_sizeAt p1_head c_numbers p1_numbers c_places_number c_places_sent c_places_over c_places_pieceBytes c_places_whole_bytes c_places_whole_size c_places_came_bytes c_places_came_size p1_places_number p1_places_sent p1_places_over p1_places_pieceBytes p1_places_whole_bytes p1_places_whole_size p1_places_came_bytes p1_places_came_size post) : Met l yX7_become wsX7_become ({ frames := 3, cells := 0, slots := 0, locals := 82 }) (PX dC dI cy [.ref h0, .ref k1] sz (w_X7_become h0 h_numbers h_places k1 k1_numbers k1_places h_places_e k1_places_e cy n_c_places n_p1_places c_sizeAt c_head p1_sizeAt p1_head c_numbers p1_numbers c_places_number c_places_sent c_places_over c_places_pieceBytes c_places_whole_bytes c_places_whole_size c_places_whole_at c_places_came_bytes c_places_came_size c_places_came_at p1_places_number p1_places_sent p1_places_over p1_places_pieceBytes p1_places_whole_bytes p1_places_whole_size p1_places_whole_at p1_places_came_bytes p1_places_came_size p1_places_came_at)) (va_Qv (fun (u : Int32 × (Nat → Int32) × (Nat → Int32) × (Nat → Int32) × (Nat → Int32) × (Nat → Nat → Int32) × (Nat → Int32) × (Nat → Nat → Int32) × (Nat → Int32)) => post u.1 u.2.1 u.2.2.1 u.2.2.2.1 u.2.2.2.2.1 u.2.2.2.2.2.1 u.2.2.2.2.2.2.1 u.2.2.2.2.2.2.2.1 u.2.2.2.2.2.2.2.2) (QX dC dI cy (va_A (w_X7_become h0 h_numbers h_places k1 k1_numbers k1_places h_places_e k1_places_e cy n_c_places n_p1_places c_sizeAt c_head p1_sizeAt p1_head c_numbers p1_numbers c_places_number c_places_sent c_places_over c_places_pieceBytes c_places_whole_bytes c_places_whole_size c_places_whole_at c_places_came_bytes c_places_came_size c_places_came_at p1_places_number p1_places_sent p1_places_over p1_places_pieceBytes p1_places_whole_bytes p1_places_whole_size p1_places_whole_at p1_places_came_bytes p1_places_came_size p1_places_came_at) sz) (fun (u : Int32 × (Nat → Int32) × (Nat → Int32) × (Nat → Int32) × (Nat → Int32) × (Nat → Nat → Int32) × (Nat → Int32) × (Nat → Nat → Int32) × (Nat → Int32)) => w_X7_become h0 h_numbers h_places k1 k1_numbers k1_places h_places_e k1_places_e cy n_c_places n_p1_places c_sizeAt u.1 p1_sizeAt p1_head c_numbers p1_numbers u.2.1 u.2.2.1 u.2.2.2.1 u.2.2.2.2.1 u.2.2.2.2.2.1 u.2.2.2.2.2.2.1 c_places_whole_at u.2.2.2.2.2.2.2.1 u.2.2.2.2.2.2.2.2 c_places_came_at p1_places_number p1_places_sent p1_places_over p1_places_pieceBytes p1_places_whole_bytes p1_places_whole_size p1_places_whole_at p1_places_came_bytes p1_places_came_size p1_places_came_at)) (va_A (w_X7_become h0 h_numbers h_places k1 k1_numbers k1_places h_places_e k1_places_e cy n_c_places n_p1_places c_sizeAt c_head p1_sizeAt p1_head c_numbers p1_numbers c_places_number c_places_sent c_places_over c_places_pieceBytes c_places_whole_bytes c_places_whole_size c_places_whole_at c_places_came_bytes c_places_came_size c_places_came_at p1_places_number p1_places_sent p1_places_over p1_places_pieceBytes p1_places_whole_bytes p1_places_whole_size p1_places_whole_at p1_places_came_bytes p1_places_came_size p1_places_came_at) sz)) 0 0 (va_A (w_X7_become h0 h_numbers h_places k1 k1_numbers k1_places h_places_e k1_places_e cy n_c_places n_p1_places c_sizeAt c_head p1_sizeAt p1_head c_numbers p1_numbers c_places_number c_places_sent c_places_over c_places_pieceBytes c_places_whole_bytes c_places_whole_size c_places_whole_at c_places_came_bytes c_places_came_size c_places_came_at p1_places_number p1_places_sent p1_places_over p1_places_pieceBytes p1_places_whole_bytes p1_places_whole_size p1_places_whole_at p1_places_came_bytes p1_places_came_size p1_places_came_at) sz) := by
  refine Met.ofW (cc := cX7_become) (maxL := 5) (ret := none) (by decide) rfl ?_
  intro p e s m args below meth c s₁ B hml hv
  obtain ⟨rfl, hsz, hP, hK, hD0, hG⟩ := hv
  have hx := B.exec
  have hb := B.bytes
  have hr := B.returns
  have hts := atoms_spec (ws := wsX7_become) B.pre
  have hown : s.vm.findClass RX7 = some m.cls := findClass_of_methodNamed B.named
  have hlocks := B.notSynchronized
  subst hsz
  have hD := hD0.self (sz := s.heap.size)
  generalize hAe : va_A (w_X7_become h0 h_numbers h_places k1 k1_numbers k1_places h_places_e k1_places_e cy n_c_places n_p1_places c_sizeAt c_head p1_sizeAt p1_head c_numbers p1_numbers c_places_number c_places_sent c_places_over c_places_pieceBytes c_places_whole_bytes c_places_whole_size c_places_whole_at c_places_came_bytes c_places_came_size c_places_came_at p1_places_number p1_places_sent p1_places_over p1_places_pieceBytes p1_places_whole_bytes p1_places_whole_size p1_places_whole_at p1_places_came_bytes p1_places_came_size p1_places_came_at) s.heap.size = A at hD ⊢
  have hA : ∀ q : Nat, s.heap.size ≤ q → A q := fun q h => by rw [← hAe]; exact Or.inr h
  have hS : va_S A s.heap s.heap [] := va_S.rf
  have hl := lv_entry ([.ref h0, .ref k1]) (n := 5) (Nat.le_of_ble_eq_true rfl)
  rw [lg_entry_eq]
  generalize (lg_sl ([.ref h0, .ref k1]) ++ List.replicate (5 - (lg_sl ([.ref h0, .ref k1])).length) Slot.unset).toArray = ls at hl ⊢
  replace hl : lv_has ls 5 [(0, .ref h0), (1, .ref k1)] := hl
  have inX7 : ∀ w ∈ u_ws RX7 TX7 4, w ∈ wsX7_become := fun w h => List.mem_cons_of_mem _ (inlX7 w h)
  clear hAe hD0 B
  unfold wp_X7_become at hw
  generalize hQe : MQ below _ _ s _ _ _ = Q0
  generalize ([.ref h0, .ref k1] : List Value).toArray = av at *
  obtain ⟨H, hH⟩ : ∃ H, H = s.heap := ⟨_, rfl⟩
  obtain ⟨locs, hlo⟩ : ∃ L : List Loc, L = [] := ⟨_, rfl⟩
  replace hP : va_P (dC, dI) vwCl (w_X7_become h0 h_numbers h_places k1 k1_numbers k1_places h_places_e k1_places_e cy n_c_places n_p1_places c_sizeAt c_head p1_sizeAt p1_head c_numbers p1_numbers c_places_number c_places_sent c_places_over c_places_pieceBytes c_places_whole_bytes c_places_whole_size c_places_whole_at c_places_came_bytes c_places_came_size c_places_came_at p1_places_number p1_places_sent p1_places_over p1_places_pieceBytes p1_places_whole_bytes p1_places_whole_size p1_places_whole_at p1_places_came_bytes p1_places_came_size p1_places_came_at) H := by rw [hH]; exact hP
  replace hS : va_S A s.heap H locs := by rw [hH, hlo]; exact hS
  suffices hgo : W p l e ({ frames := 3, cells := 0, slots := 0, locals := 82 }) s m av below meth c H locs 0 0 Q0 (F0 m 0 ls []) by rw [hH, hlo] at hgo; exact hgo
  clear hH hlo
  refine lv_aload_n hx hb dX7_become_0 rfl (lv_at hl 0 rfl) ?_
  refine lv_aload_n hx hb dX7_become_1 rfl (lv_at hl 1 rfl) ?_
  refine va_get (D := (dC, dI)) (ci := 7) (v := .int p1_head) (C := RX7) (T := TX7) (N := 4) hx hb hts inX7 hown hK hP 1 rfl rfl 3 (by decide) (hts _ (List.mem_cons_of_mem _ mw_71)) (fun _ h9 => h9) rfl dX7_become_2 ?_
  refine va_put (D := (dC, dI)) (ci := 7) (v := .int p1_head) (ty := .int) (C := RX7) (T := TX7) (N := 4) hx hb hts inX7 tyX7 tyX7_ok nmX7 hown hK hP hD hS 0 rfl rfl 3 (by decide) (hts _ (List.mem_cons_of_mem _ mw_71)) (fun _ h9 => h9) rfl (by decide +kernel) rfl rfl (Nat.le_of_ble_eq_true rfl) dX7_become_5 ?_; clear hP hD hS; clear H locs; intro H locs hP hD hS
  replace hP : va_P (dC, dI) vwCl (w_X7_become h0 h_numbers h_places k1 k1_numbers k1_places h_places_e k1_places_e cy n_c_places n_p1_places c_sizeAt p1_head p1_sizeAt p1_head c_numbers p1_numbers c_places_number c_places_sent c_places_over c_places_pieceBytes c_places_whole_bytes c_places_whole_size c_places_whole_at c_places_came_bytes c_places_came_size c_places_came_at p1_places_number p1_places_sent p1_places_over p1_places_pieceBytes p1_places_whole_bytes p1_places_whole_size p1_places_whole_at p1_places_came_bytes p1_places_came_size p1_places_came_at) H := hP
  replace hD : va_D A (w_X7_become h0 h_numbers h_places k1 k1_numbers k1_places h_places_e k1_places_e cy n_c_places n_p1_places c_sizeAt p1_head p1_sizeAt p1_head c_numbers p1_numbers c_places_number c_places_sent c_places_over c_places_pieceBytes c_places_whole_bytes c_places_whole_size c_places_whole_at c_places_came_bytes c_places_came_size c_places_came_at p1_places_number p1_places_sent p1_places_over p1_places_pieceBytes p1_places_whole_bytes p1_places_whole_size p1_places_whole_at p1_places_came_bytes p1_places_came_size p1_places_came_at) := hD
  refine lv_iconst (v := 0) hx hb dX7_become_8 (by decide) ?_
  refine lv_istore_n (lv' := [(2, .int (0 : Int32)), (0, .ref h0), (1, .ref k1)]) hx hb dX7_become_9 rfl hl (by decide) rfl ?_; clear hl; clear ls; intro ls hl
  obtain ⟨x1, e_x1⟩ : ∃ y : Int32, y = (0 : Int32) := ⟨_, rfl⟩
  replace hw := hw x1 e_x1
  replace hl : lv_has ls 5 [(2, .int x1), (0, .ref h0), (1, .ref k1)] := by rw [e_x1]; exact hl
  clear e_x1
  replace hl := lv_sub (l' := [(2, .int x1), (0, .ref h0), (1, .ref k1)]) hl [0, 1, 2] rfl
  revert hl; revert hS; revert hD; revert hP; revert ls; revert locs; revert H
  revert hw; revert c_places_came_size; revert c_places_came_bytes; revert c_places_whole_size; revert c_places_whole_bytes; revert c_places_pieceBytes; revert c_places_over; revert c_places_sent; revert c_places_number; revert x1
  refine Lz9_gr ?_; intro g2 ih3 x4 x5 x6 x7 x8 x9 x10 x11 x12 hw
  intro H locs ls hP hD hS hl
  refine lv_iload_n hx hb dX7_become_10 rfl (lv_at hl 0 rfl) ?_
  refine lv_aload_n hx hb dX7_become_11 rfl (lv_at hl 1 rfl) ?_
  refine va_get (D := (dC, dI)) (ci := 7) (v := .ref h_numbers) (C := RX7) (T := TX7) (N := 4) hx hb hts inX7 hown hK hP 0 rfl rfl 0 (by decide) (hts _ (List.mem_cons_of_mem _ mw_72)) (fun _ h9 => h9) rfl dX7_become_12 ?_
  refine lv_aload_n hx hb dX7_become_15 rfl (lv_at hl 1 rfl) ?_
  refine va_get (D := (dC, dI)) (ci := 7) (v := .int c_sizeAt) (C := RX7) (T := TX7) (N := 4) hx hb hts inX7 hown hK hP 0 rfl rfl 1 (by decide) (hts _ (List.mem_cons_of_mem _ mw_73)) (fun _ h9 => h9) rfl dX7_become_16 ?_
  obtain ⟨h13, hw⟩ := hw
  refine xiald (k := c_sizeAt.toNatClampNeg) hx hb hK hP 2 0 rfl rfl h13 rfl dX7_become_19 ?_
  refine lv_icmp_ge (tgt := 57) hx hb dX7_become_20 (by decide) (fun c14 => ?_) (fun c14 => ?_)
  · replace hw := hw.1 c14
    clear ih3
    subst hQe
    exact W.vret hx hb hr (fun t ht hW => ⟨⟨(p1_head, x5, x6, x7, x8, x9, x10, x11, x12), rfl, hw, by rw [ht]; exact hP, va_K.moved hW.alike hK, hD⟩, hS.F ht⟩) hS.2.2 dX7_become_57
  · replace hw := hw.2 c14
    refine lv_aload_n hx hb dX7_become_23 rfl (lv_at hl 1 rfl) ?_
    refine lv_iload_n hx hb dX7_become_24 rfl (lv_at hl 0 rfl) ?_
    have hPc := pSub0 (Sc := (w_X7_at h0 h_numbers h_places h_places_e cy n_c_places c_sizeAt p1_head c_numbers)) hP [0, 2, 3] rfl
    have hDc := dSub0 (Sc := (w_X7_at h0 h_numbers h_places h_places_e cy n_c_places c_sizeAt p1_head c_numbers)) hD [0, 2, 3] (by decide) rfl
    have hFc := free0 (Sc := (w_X7_at h0 h_numbers h_places h_places_e cy n_c_places c_sizeAt p1_head c_numbers)) hD hS hA [0, 2, 3] rfl
    refine va_callq (va_runV (As := [.int x4]) (rest := []) ⟨hx, hb, hml, hown, hts⟩ (c_X7_at l dC dI cy h0 h_numbers h_places h_places_e n_c_places H.size x4 c_sizeAt p1_head c_numbers _ hw) (cwV 1 hts (goodV mw_387 mw_384 mw_385 mw_386 mw_44) rfl rfl rfl (by decide +kernel) ⟨Nat.le_of_ble_eq_true rfl, Nat.le_of_ble_eq_true rfl⟩) ⟨PX_blind, va_recv hK hPc (ci := 7) (q0 := 0) rfl rfl, PX_pre hPc hK hDc hG⟩ rfl rfl hl.1 rfl (lv_room (Nat.le_of_ble_eq_true rfl)) dX7_become_25 ⟨Nat.zero_le _, Nat.zero_le _⟩) hS (fun q _ h => hFc q h) hFc ?_; clear hw hS; intro r15 _ t H1 locs1 ht hvm hw hB hz1 hk1 hS
    obtain ⟨hP1, -, -⟩ := hB
    rw [ht] at hP1
    replace hP := jC hP hD [0, 2, 3] [1, 4, 5] rfl hk1 hP1 (s_X7_become h0 h_numbers h_places k1 k1_numbers k1_places h_places_e k1_places_e cy n_c_places n_p1_places c_sizeAt p1_head p1_sizeAt p1_head c_numbers p1_numbers) rfl rfl rfl 6 rfl (by decide +kernel); clear hD; obtain ⟨hP, hD⟩ := hP
    replace hP : va_P (dC, dI) vwCl (w_X7_become h0 h_numbers h_places k1 k1_numbers k1_places h_places_e k1_places_e cy n_c_places n_p1_places c_sizeAt p1_head p1_sizeAt p1_head c_numbers p1_numbers x5 x6 x7 x8 x9 x10 c_places_whole_at x11 x12 c_places_came_at p1_places_number p1_places_sent p1_places_over p1_places_pieceBytes p1_places_whole_bytes p1_places_whole_size p1_places_whole_at p1_places_came_bytes p1_places_came_size p1_places_came_at) H1 := hP
    replace hD : va_D A (w_X7_become h0 h_numbers h_places k1 k1_numbers k1_places h_places_e k1_places_e cy n_c_places n_p1_places c_sizeAt p1_head p1_sizeAt p1_head c_numbers p1_numbers x5 x6 x7 x8 x9 x10 c_places_whole_at x11 x12 c_places_came_at p1_places_number p1_places_sent p1_places_over p1_places_pieceBytes p1_places_whole_bytes p1_places_whole_size p1_places_whole_at p1_places_came_bytes p1_places_came_size p1_places_came_at) := hD
    clear hPc hDc hFc hP1 hk1 hz1 hvm ht; clear t; clear H locs; obtain ⟨H, hH⟩ : ∃ H, H = H1 := ⟨_, rfl⟩; obtain ⟨locs, hlo⟩ : ∃ L, L = locs1 := ⟨_, rfl⟩; subst hH; subst hlo
    refine W.widen (k := 0) (n := 0) (Nat.le_refl 0) (Nat.le_refl 0) ?_
    obtain ⟨r15, rfl, hw⟩ := hw
    cases r15 with
    | none =>
      replace hw := hw.1 rfl
      refine lv_astore_nN (lv' := [(3, .null), (2, .int x4), (0, .ref h0), (1, .ref k1)]) hx hb dX7_become_28 rfl hl (by decide) rfl ?_; clear hl; clear ls; intro ls hl
      refine lv_aload_n hx hb dX7_become_29 rfl (lv_at hl 3 rfl) ?_
      refine lv_iload_n hx hb dX7_become_30 rfl (lv_at hl 1 rfl) ?_
      have hPc := pSub0 (Sc := (w_X7_at k1 k1_numbers k1_places k1_places_e cy n_p1_places p1_sizeAt p1_head p1_numbers)) hP [1, 4, 5] rfl
      have hDc := dSub0 (Sc := (w_X7_at k1 k1_numbers k1_places k1_places_e cy n_p1_places p1_sizeAt p1_head p1_numbers)) hD [1, 4, 5] (by decide) rfl
      have hFc := free0 (Sc := (w_X7_at k1 k1_numbers k1_places k1_places_e cy n_p1_places p1_sizeAt p1_head p1_numbers)) hD hS hA [1, 4, 5] rfl
      refine va_callq (va_runV (As := [.int x4]) (rest := []) ⟨hx, hb, hml, hown, hts⟩ (c_X7_at l dC dI cy k1 k1_numbers k1_places k1_places_e n_p1_places H.size x4 p1_sizeAt p1_head p1_numbers _ hw) (cwV 1 hts (goodV mw_387 mw_384 mw_385 mw_386 mw_44) rfl rfl rfl (by decide +kernel) ⟨Nat.le_of_ble_eq_true rfl, Nat.le_of_ble_eq_true rfl⟩) ⟨PX_blind, va_recv hK hPc (ci := 7) (q0 := 0) rfl rfl, PX_pre hPc hK hDc hG⟩ rfl rfl hl.1 rfl (lv_room (Nat.le_of_ble_eq_true rfl)) dX7_become_31 ⟨Nat.zero_le _, Nat.zero_le _⟩) hS (fun q _ h => hFc q h) hFc ?_; clear hw hS; intro r18 _ t H1 locs1 ht hvm hw hB hz1 hk1 hS
      obtain ⟨hP1, -, -⟩ := hB
      rw [ht] at hP1
      replace hP := jC hP hD [1, 4, 5] [0, 2, 3] rfl hk1 hP1 (s_X7_become h0 h_numbers h_places k1 k1_numbers k1_places h_places_e k1_places_e cy n_c_places n_p1_places c_sizeAt p1_head p1_sizeAt p1_head c_numbers p1_numbers) rfl rfl rfl 6 rfl (by decide +kernel); clear hD; obtain ⟨hP, hD⟩ := hP
      replace hP : va_P (dC, dI) vwCl (w_X7_become h0 h_numbers h_places k1 k1_numbers k1_places h_places_e k1_places_e cy n_c_places n_p1_places c_sizeAt p1_head p1_sizeAt p1_head c_numbers p1_numbers x5 x6 x7 x8 x9 x10 c_places_whole_at x11 x12 c_places_came_at p1_places_number p1_places_sent p1_places_over p1_places_pieceBytes p1_places_whole_bytes p1_places_whole_size p1_places_whole_at p1_places_came_bytes p1_places_came_size p1_places_came_at) H1 := hP
      replace hD : va_D A (w_X7_become h0 h_numbers h_places k1 k1_numbers k1_places h_places_e k1_places_e cy n_c_places n_p1_places c_sizeAt p1_head p1_sizeAt p1_head c_numbers p1_numbers x5 x6 x7 x8 x9 x10 c_places_whole_at x11 x12 c_places_came_at p1_places_number p1_places_sent p1_places_over p1_places_pieceBytes p1_places_whole_bytes p1_places_whole_size p1_places_whole_at p1_places_came_bytes p1_places_came_size p1_places_came_at) := hD
      clear hPc hDc hFc hP1 hk1 hz1 hvm ht; clear t; clear H locs; obtain ⟨H, hH⟩ : ∃ H, H = H1 := ⟨_, rfl⟩; obtain ⟨locs, hlo⟩ : ∃ L, L = locs1 := ⟨_, rfl⟩; subst hH; subst hlo
      refine W.widen (k := 0) (n := 0) (Nat.le_refl 0) (Nat.le_refl 0) ?_
      obtain ⟨r18, rfl, hw⟩ := hw
      cases r18 with
      | none =>
        replace hw := hw.1 rfl
        refine lv_astoreN (lv' := [(4, .null), (3, .null), (2, .int x4), (0, .ref h0), (1, .ref k1)]) hx hb dX7_become_34 hl (by decide) rfl ?_; clear hl; clear ls; intro ls hl
        refine lv_aload_nN hx hb dX7_become_36 rfl (lv_at hl 1 rfl) ?_
        refine lv_ifnullN (tgt := 51) hx hb dX7_become_37 (by decide) ?_
        refine lv_iinc (v := x4 + 1) (lv' := [(2, .int (x4 + 1)), (4, .null), (3, .null), (0, .ref h0), (1, .ref k1)]) hx hb dX7_become_51 hl (k := 2) rfl rfl (by decide) rfl ?_; clear hl; clear ls; intro ls hl
        refine lv_goto (tgt := 10) hx hb dX7_become_54 (by decide) ?_
        exact ih3 (x4 + 1) x5 x6 x7 x8 x9 x10 x11 x12 hw H locs ls hP hD hS (lv_sub hl [0, 3, 4] rfl)
      | some j19 =>
        obtain ⟨hj20, hw⟩ := hw.2 j19 rfl
        replace hP := fam_in (X := s_X7_become h0 h_numbers h_places k1 k1_numbers k1_places h_places_e k1_places_e cy n_c_places n_p1_places c_sizeAt p1_head p1_sizeAt p1_head c_numbers p1_numbers) [fam n_c_places (pkF h_places_e cy x5 x6 x7 x8 x9 x10 c_places_whole_at x11 x12 c_places_came_at)] [] hP hD hj20; clear hD; obtain ⟨hP, hD⟩ := hP
        replace hP : va_P (dC, dI) vwCl ((s1_X7_become h0 h_numbers h_places k1 k1_numbers k1_places h_places_e k1_places_e cy n_c_places n_p1_places c_sizeAt p1_head p1_sizeAt p1_head c_numbers p1_numbers j19 (p1_places_number j19) (p1_places_sent j19) (p1_places_over j19) (p1_places_pieceBytes j19) (p1_places_whole_bytes j19) (p1_places_whole_size j19) (p1_places_whole_at j19) (p1_places_came_bytes j19) (p1_places_came_size j19) (p1_places_came_at j19)) ++ List.flatten [fam n_c_places (pkF h_places_e cy x5 x6 x7 x8 x9 x10 c_places_whole_at x11 x12 c_places_came_at), famX n_p1_places j19 (pkF k1_places_e cy p1_places_number p1_places_sent p1_places_over p1_places_pieceBytes p1_places_whole_bytes p1_places_whole_size p1_places_whole_at p1_places_came_bytes p1_places_came_size p1_places_came_at)]) H := hP
        replace hD : va_D A ((s1_X7_become h0 h_numbers h_places k1 k1_numbers k1_places h_places_e k1_places_e cy n_c_places n_p1_places c_sizeAt p1_head p1_sizeAt p1_head c_numbers p1_numbers j19 (p1_places_number j19) (p1_places_sent j19) (p1_places_over j19) (p1_places_pieceBytes j19) (p1_places_whole_bytes j19) (p1_places_whole_size j19) (p1_places_whole_at j19) (p1_places_came_bytes j19) (p1_places_came_size j19) (p1_places_came_at j19)) ++ List.flatten [fam n_c_places (pkF h_places_e cy x5 x6 x7 x8 x9 x10 c_places_whole_at x11 x12 c_places_came_at), famX n_p1_places j19 (pkF k1_places_e cy p1_places_number p1_places_sent p1_places_over p1_places_pieceBytes p1_places_whole_bytes p1_places_whole_size p1_places_whole_at p1_places_came_bytes p1_places_came_size p1_places_came_at)]) := hD
        refine W.eq (g2 := F0 m 34 ls ([.ref (k1_places_e j19 0)])) rfl ?_
        refine lv_astore (lv' := [(4, .ref (k1_places_e j19 0)), (3, .null), (2, .int x4), (0, .ref h0), (1, .ref k1)]) hx hb dX7_become_34 hl (by decide) rfl ?_; clear hl; clear ls; intro ls hl
        refine lv_aload_nN hx hb dX7_become_36 rfl (lv_at hl 1 rfl) ?_
        refine lv_ifnullN (tgt := 51) hx hb dX7_become_37 (by decide) ?_
        refine lv_iinc (v := x4 + 1) (lv' := [(2, .int (x4 + 1)), (4, .ref (k1_places_e j19 0)), (3, .null), (0, .ref h0), (1, .ref k1)]) hx hb dX7_become_51 hl (k := 2) rfl rfl (by decide) rfl ?_; clear hl; clear ls; intro ls hl
        refine lv_goto (tgt := 10) hx hb dX7_become_54 (by decide) ?_
        replace hP := fam_out (X := s_X7_become h0 h_numbers h_places k1 k1_numbers k1_places h_places_e k1_places_e cy n_c_places n_p1_places c_sizeAt p1_head p1_sizeAt p1_head c_numbers p1_numbers) (v := pk (k1_places_e j19) cy (p1_places_number j19) (p1_places_sent j19) (p1_places_over j19) (p1_places_pieceBytes j19) (p1_places_whole_bytes j19) (p1_places_whole_size j19) (p1_places_whole_at j19) (p1_places_came_bytes j19) (p1_places_came_size j19) (p1_places_came_at j19)) (w' := (pkF k1_places_e cy p1_places_number p1_places_sent p1_places_over p1_places_pieceBytes p1_places_whole_bytes p1_places_whole_size p1_places_whole_at p1_places_came_bytes p1_places_came_size p1_places_came_at)) [fam n_c_places (pkF h_places_e cy x5 x6 x7 x8 x9 x10 c_places_whole_at x11 x12 c_places_came_at)] [] hP hD hj20 (by simp [pkF, va_up]) (fun i hi => by simp [pkF, va_up, hi]); clear hD; obtain ⟨hP, hD⟩ := hP
        replace hP : va_P (dC, dI) vwCl (w_X7_become h0 h_numbers h_places k1 k1_numbers k1_places h_places_e k1_places_e cy n_c_places n_p1_places c_sizeAt p1_head p1_sizeAt p1_head c_numbers p1_numbers x5 x6 x7 x8 x9 x10 c_places_whole_at x11 x12 c_places_came_at p1_places_number p1_places_sent p1_places_over p1_places_pieceBytes p1_places_whole_bytes p1_places_whole_size p1_places_whole_at p1_places_came_bytes p1_places_came_size p1_places_came_at) H := hP
        replace hD : va_D A (w_X7_become h0 h_numbers h_places k1 k1_numbers k1_places h_places_e k1_places_e cy n_c_places n_p1_places c_sizeAt p1_head p1_sizeAt p1_head c_numbers p1_numbers x5 x6 x7 x8 x9 x10 c_places_whole_at x11 x12 c_places_came_at p1_places_number p1_places_sent p1_places_over p1_places_pieceBytes p1_places_whole_bytes p1_places_whole_size p1_places_whole_at p1_places_came_bytes p1_places_came_size p1_places_came_at) := hD
        exact ih3 (x4 + 1) x5 x6 x7 x8 x9 x10 x11 x12 hw H locs ls hP hD hS (lv_sub hl [0, 3, 4] rfl)
    | some j16 =>
      obtain ⟨hj17, hw⟩ := hw.2 j16 rfl
      replace hP := fam_in (X := s_X7_become h0 h_numbers h_places k1 k1_numbers k1_places h_places_e k1_places_e cy n_c_places n_p1_places c_sizeAt p1_head p1_sizeAt p1_head c_numbers p1_numbers) [] [fam n_p1_places (pkF k1_places_e cy p1_places_number p1_places_sent p1_places_over p1_places_pieceBytes p1_places_whole_bytes p1_places_whole_size p1_places_whole_at p1_places_came_bytes p1_places_came_size p1_places_came_at)] hP hD hj17; clear hD; obtain ⟨hP, hD⟩ := hP
      replace hP : va_P (dC, dI) vwCl ((s2_X7_become h0 h_numbers h_places k1 k1_numbers k1_places h_places_e k1_places_e cy n_c_places n_p1_places c_sizeAt p1_head p1_sizeAt p1_head c_numbers p1_numbers j16 (x5 j16) (x6 j16) (x7 j16) (x8 j16) (x9 j16) (x10 j16) (c_places_whole_at j16) (x11 j16) (x12 j16) (c_places_came_at j16)) ++ List.flatten [fam n_p1_places (pkF k1_places_e cy p1_places_number p1_places_sent p1_places_over p1_places_pieceBytes p1_places_whole_bytes p1_places_whole_size p1_places_whole_at p1_places_came_bytes p1_places_came_size p1_places_came_at), famX n_c_places j16 (pkF h_places_e cy x5 x6 x7 x8 x9 x10 c_places_whole_at x11 x12 c_places_came_at)]) H := hP
      replace hD : va_D A ((s2_X7_become h0 h_numbers h_places k1 k1_numbers k1_places h_places_e k1_places_e cy n_c_places n_p1_places c_sizeAt p1_head p1_sizeAt p1_head c_numbers p1_numbers j16 (x5 j16) (x6 j16) (x7 j16) (x8 j16) (x9 j16) (x10 j16) (c_places_whole_at j16) (x11 j16) (x12 j16) (c_places_came_at j16)) ++ List.flatten [fam n_p1_places (pkF k1_places_e cy p1_places_number p1_places_sent p1_places_over p1_places_pieceBytes p1_places_whole_bytes p1_places_whole_size p1_places_whole_at p1_places_came_bytes p1_places_came_size p1_places_came_at), famX n_c_places j16 (pkF h_places_e cy x5 x6 x7 x8 x9 x10 c_places_whole_at x11 x12 c_places_came_at)]) := hD
      refine W.eq (g2 := F0 m 28 ls ([.ref (h_places_e j16 0)])) rfl ?_
      refine lv_astore_n (lv' := [(3, .ref (h_places_e j16 0)), (2, .int x4), (0, .ref h0), (1, .ref k1)]) hx hb dX7_become_28 rfl hl (by decide) rfl ?_; clear hl; clear ls; intro ls hl
      refine lv_aload_n hx hb dX7_become_29 rfl (lv_at hl 3 rfl) ?_
      refine lv_iload_n hx hb dX7_become_30 rfl (lv_at hl 1 rfl) ?_
      have hPc := pSub0 (Sc := (w_X7_at k1 k1_numbers k1_places k1_places_e cy n_p1_places p1_sizeAt p1_head p1_numbers)) hP [1, 4, 5] rfl
      have hDc := dSub0 (Sc := (w_X7_at k1 k1_numbers k1_places k1_places_e cy n_p1_places p1_sizeAt p1_head p1_numbers)) hD [1, 4, 5] (by decide) rfl
      have hFc := free0 (Sc := (w_X7_at k1 k1_numbers k1_places k1_places_e cy n_p1_places p1_sizeAt p1_head p1_numbers)) hD hS hA [1, 4, 5] rfl
      refine va_callq (va_runV (As := [.int x4]) (rest := []) ⟨hx, hb, hml, hown, hts⟩ (c_X7_at l dC dI cy k1 k1_numbers k1_places k1_places_e n_p1_places H.size x4 p1_sizeAt p1_head p1_numbers _ hw) (cwV 1 hts (goodV mw_387 mw_384 mw_385 mw_386 mw_44) rfl rfl rfl (by decide +kernel) ⟨Nat.le_of_ble_eq_true rfl, Nat.le_of_ble_eq_true rfl⟩) ⟨PX_blind, va_recv hK hPc (ci := 7) (q0 := 0) rfl rfl, PX_pre hPc hK hDc hG⟩ rfl rfl hl.1 rfl (lv_room (Nat.le_of_ble_eq_true rfl)) dX7_become_31 ⟨Nat.zero_le _, Nat.zero_le _⟩) hS (fun q _ h => hFc q h) hFc ?_; clear hw hS; intro r21 _ t H1 locs1 ht hvm hw hB hz1 hk1 hS
      obtain ⟨hP1, -, -⟩ := hB
      rw [ht] at hP1
      replace hP := jC hP hD [1, 4, 5] [0, 2, 3, 6, 7, 8, 9, 10] rfl hk1 hP1 (s2_X7_become h0 h_numbers h_places k1 k1_numbers k1_places h_places_e k1_places_e cy n_c_places n_p1_places c_sizeAt p1_head p1_sizeAt p1_head c_numbers p1_numbers j16 (x5 j16) (x6 j16) (x7 j16) (x8 j16) (x9 j16) (x10 j16) (c_places_whole_at j16) (x11 j16) (x12 j16) (c_places_came_at j16)) rfl rfl rfl 11 rfl (by decide +kernel); clear hD; obtain ⟨hP, hD⟩ := hP
      replace hP : va_P (dC, dI) vwCl ((s2_X7_become h0 h_numbers h_places k1 k1_numbers k1_places h_places_e k1_places_e cy n_c_places n_p1_places c_sizeAt p1_head p1_sizeAt p1_head c_numbers p1_numbers j16 (x5 j16) (x6 j16) (x7 j16) (x8 j16) (x9 j16) (x10 j16) (c_places_whole_at j16) (x11 j16) (x12 j16) (c_places_came_at j16)) ++ List.flatten [fam n_p1_places (pkF k1_places_e cy p1_places_number p1_places_sent p1_places_over p1_places_pieceBytes p1_places_whole_bytes p1_places_whole_size p1_places_whole_at p1_places_came_bytes p1_places_came_size p1_places_came_at), famX n_c_places j16 (pkF h_places_e cy x5 x6 x7 x8 x9 x10 c_places_whole_at x11 x12 c_places_came_at)]) H1 := hP
      replace hD : va_D A ((s2_X7_become h0 h_numbers h_places k1 k1_numbers k1_places h_places_e k1_places_e cy n_c_places n_p1_places c_sizeAt p1_head p1_sizeAt p1_head c_numbers p1_numbers j16 (x5 j16) (x6 j16) (x7 j16) (x8 j16) (x9 j16) (x10 j16) (c_places_whole_at j16) (x11 j16) (x12 j16) (c_places_came_at j16)) ++ List.flatten [fam n_p1_places (pkF k1_places_e cy p1_places_number p1_places_sent p1_places_over p1_places_pieceBytes p1_places_whole_bytes p1_places_whole_size p1_places_whole_at p1_places_came_bytes p1_places_came_size p1_places_came_at), famX n_c_places j16 (pkF h_places_e cy x5 x6 x7 x8 x9 x10 c_places_whole_at x11 x12 c_places_came_at)]) := hD
      clear hPc hDc hFc hP1 hk1 hz1 hvm ht; clear t; clear H locs; obtain ⟨H, hH⟩ : ∃ H, H = H1 := ⟨_, rfl⟩; obtain ⟨locs, hlo⟩ : ∃ L, L = locs1 := ⟨_, rfl⟩; subst hH; subst hlo
      refine W.widen (k := 0) (n := 0) (Nat.le_refl 0) (Nat.le_refl 0) ?_
      obtain ⟨r21, rfl, hw⟩ := hw
      cases r21 with
      | none =>
        replace hw := hw.1 rfl
        refine lv_astoreN (lv' := [(4, .null), (3, .ref (h_places_e j16 0)), (2, .int x4), (0, .ref h0), (1, .ref k1)]) hx hb dX7_become_34 hl (by decide) rfl ?_; clear hl; clear ls; intro ls hl
        refine lv_aload_n hx hb dX7_become_36 rfl (lv_at hl 1 rfl) ?_
        refine lv_ifnull hx hb dX7_become_37 ?_
        refine lv_aloadN hx hb dX7_become_40 (lv_at hl 0 rfl) ?_
        refine lv_ifnullN (tgt := 51) hx hb dX7_become_42 (by decide) ?_
        refine lv_iinc (v := x4 + 1) (lv' := [(2, .int (x4 + 1)), (4, .null), (3, .ref (h_places_e j16 0)), (0, .ref h0), (1, .ref k1)]) hx hb dX7_become_51 hl (k := 2) rfl rfl (by decide) rfl ?_; clear hl; clear ls; intro ls hl
        refine lv_goto (tgt := 10) hx hb dX7_become_54 (by decide) ?_
        replace hP := fam_out (X := s_X7_become h0 h_numbers h_places k1 k1_numbers k1_places h_places_e k1_places_e cy n_c_places n_p1_places c_sizeAt p1_head p1_sizeAt p1_head c_numbers p1_numbers) (v := pk (h_places_e j16) cy (x5 j16) (x6 j16) (x7 j16) (x8 j16) (x9 j16) (x10 j16) (c_places_whole_at j16) (x11 j16) (x12 j16) (c_places_came_at j16)) (w' := (pkF h_places_e cy x5 x6 x7 x8 x9 x10 c_places_whole_at x11 x12 c_places_came_at)) [] [fam n_p1_places (pkF k1_places_e cy p1_places_number p1_places_sent p1_places_over p1_places_pieceBytes p1_places_whole_bytes p1_places_whole_size p1_places_whole_at p1_places_came_bytes p1_places_came_size p1_places_came_at)] hP hD hj17 (by simp [pkF, va_up]) (fun i hi => by simp [pkF, va_up, hi]); clear hD; obtain ⟨hP, hD⟩ := hP
        replace hP : va_P (dC, dI) vwCl (w_X7_become h0 h_numbers h_places k1 k1_numbers k1_places h_places_e k1_places_e cy n_c_places n_p1_places c_sizeAt p1_head p1_sizeAt p1_head c_numbers p1_numbers x5 x6 x7 x8 x9 x10 c_places_whole_at x11 x12 c_places_came_at p1_places_number p1_places_sent p1_places_over p1_places_pieceBytes p1_places_whole_bytes p1_places_whole_size p1_places_whole_at p1_places_came_bytes p1_places_came_size p1_places_came_at) H := hP
        replace hD : va_D A (w_X7_become h0 h_numbers h_places k1 k1_numbers k1_places h_places_e k1_places_e cy n_c_places n_p1_places c_sizeAt p1_head p1_sizeAt p1_head c_numbers p1_numbers x5 x6 x7 x8 x9 x10 c_places_whole_at x11 x12 c_places_came_at p1_places_number p1_places_sent p1_places_over p1_places_pieceBytes p1_places_whole_bytes p1_places_whole_size p1_places_whole_at p1_places_came_bytes p1_places_came_size p1_places_came_at) := hD
        exact ih3 (x4 + 1) x5 x6 x7 x8 x9 x10 x11 x12 hw H locs ls hP hD hS (lv_sub hl [0, 3, 4] rfl)
      | some j22 =>
        obtain ⟨hj23, hw⟩ := hw.2 j22 rfl
        replace hP := fam_in (X := s2_X7_become h0 h_numbers h_places k1 k1_numbers k1_places h_places_e k1_places_e cy n_c_places n_p1_places c_sizeAt p1_head p1_sizeAt p1_head c_numbers p1_numbers j16 (x5 j16) (x6 j16) (x7 j16) (x8 j16) (x9 j16) (x10 j16) (c_places_whole_at j16) (x11 j16) (x12 j16) (c_places_came_at j16)) [] [famX n_c_places j16 (pkF h_places_e cy x5 x6 x7 x8 x9 x10 c_places_whole_at x11 x12 c_places_came_at)] hP hD hj23; clear hD; obtain ⟨hP, hD⟩ := hP
        replace hP : va_P (dC, dI) vwCl ((s3_X7_become h0 h_numbers h_places k1 k1_numbers k1_places h_places_e k1_places_e cy n_c_places n_p1_places c_sizeAt p1_head p1_sizeAt p1_head c_numbers p1_numbers j16 (x5 j16) (x6 j16) (x7 j16) (x8 j16) (x9 j16) (x10 j16) (c_places_whole_at j16) (x11 j16) (x12 j16) (c_places_came_at j16) j22 (p1_places_number j22) (p1_places_sent j22) (p1_places_over j22) (p1_places_pieceBytes j22) (p1_places_whole_bytes j22) (p1_places_whole_size j22) (p1_places_whole_at j22) (p1_places_came_bytes j22) (p1_places_came_size j22) (p1_places_came_at j22)) ++ List.flatten [famX n_c_places j16 (pkF h_places_e cy x5 x6 x7 x8 x9 x10 c_places_whole_at x11 x12 c_places_came_at), famX n_p1_places j22 (pkF k1_places_e cy p1_places_number p1_places_sent p1_places_over p1_places_pieceBytes p1_places_whole_bytes p1_places_whole_size p1_places_whole_at p1_places_came_bytes p1_places_came_size p1_places_came_at)]) H := hP
        replace hD : va_D A ((s3_X7_become h0 h_numbers h_places k1 k1_numbers k1_places h_places_e k1_places_e cy n_c_places n_p1_places c_sizeAt p1_head p1_sizeAt p1_head c_numbers p1_numbers j16 (x5 j16) (x6 j16) (x7 j16) (x8 j16) (x9 j16) (x10 j16) (c_places_whole_at j16) (x11 j16) (x12 j16) (c_places_came_at j16) j22 (p1_places_number j22) (p1_places_sent j22) (p1_places_over j22) (p1_places_pieceBytes j22) (p1_places_whole_bytes j22) (p1_places_whole_size j22) (p1_places_whole_at j22) (p1_places_came_bytes j22) (p1_places_came_size j22) (p1_places_came_at j22)) ++ List.flatten [famX n_c_places j16 (pkF h_places_e cy x5 x6 x7 x8 x9 x10 c_places_whole_at x11 x12 c_places_came_at), famX n_p1_places j22 (pkF k1_places_e cy p1_places_number p1_places_sent p1_places_over p1_places_pieceBytes p1_places_whole_bytes p1_places_whole_size p1_places_whole_at p1_places_came_bytes p1_places_came_size p1_places_came_at)]) := hD
        refine W.eq (g2 := F0 m 34 ls ([.ref (k1_places_e j22 0)])) rfl ?_
        refine lv_astore (lv' := [(4, .ref (k1_places_e j22 0)), (3, .ref (h_places_e j16 0)), (2, .int x4), (0, .ref h0), (1, .ref k1)]) hx hb dX7_become_34 hl (by decide) rfl ?_; clear hl; clear ls; intro ls hl
        refine lv_aload_n hx hb dX7_become_36 rfl (lv_at hl 1 rfl) ?_
        refine lv_ifnull hx hb dX7_become_37 ?_
        refine lv_aload hx hb dX7_become_40 (lv_at hl 0 rfl) ?_
        refine lv_ifnull hx hb dX7_become_42 ?_
        refine lv_aload_n hx hb dX7_become_45 rfl (lv_at hl 1 rfl) ?_
        refine lv_aload hx hb dX7_become_46 (lv_at hl 0 rfl) ?_
        have hPc := pSub0 (Sc := (w_X5_become (h_places_e j16 0) (h_places_e j16 1) (h_places_e j16 3) (k1_places_e j22 0) (k1_places_e j22 1) (k1_places_e j22 3) (h_places_e j16 2) (k1_places_e j22 2) (h_places_e j16 4) (k1_places_e j22 4) cy (x5 j16) (x6 j16) (x7 j16) (x8 j16) (p1_places_number j22) (p1_places_sent j22) (p1_places_over j22) (p1_places_pieceBytes j22) (x10 j16) (c_places_whole_at j16) (p1_places_whole_size j22) (p1_places_whole_at j22) (p1_places_whole_bytes j22) (x9 j16) (x12 j16) (c_places_came_at j16) (p1_places_came_size j22) (p1_places_came_at j22) (p1_places_came_bytes j22) (x11 j16))) hP [6, 11, 7, 12, 13, 8, 9, 14, 15, 10] rfl
        have hDc := dSub0 (Sc := (w_X5_become (h_places_e j16 0) (h_places_e j16 1) (h_places_e j16 3) (k1_places_e j22 0) (k1_places_e j22 1) (k1_places_e j22 3) (h_places_e j16 2) (k1_places_e j22 2) (h_places_e j16 4) (k1_places_e j22 4) cy (x5 j16) (x6 j16) (x7 j16) (x8 j16) (p1_places_number j22) (p1_places_sent j22) (p1_places_over j22) (p1_places_pieceBytes j22) (x10 j16) (c_places_whole_at j16) (p1_places_whole_size j22) (p1_places_whole_at j22) (p1_places_whole_bytes j22) (x9 j16) (x12 j16) (c_places_came_at j16) (p1_places_came_size j22) (p1_places_came_at j22) (p1_places_came_bytes j22) (x11 j16))) hD [6, 11, 7, 12, 13, 8, 9, 14, 15, 10] (by decide) rfl
        have hFc := free0 (Sc := (w_X5_become (h_places_e j16 0) (h_places_e j16 1) (h_places_e j16 3) (k1_places_e j22 0) (k1_places_e j22 1) (k1_places_e j22 3) (h_places_e j16 2) (k1_places_e j22 2) (h_places_e j16 4) (k1_places_e j22 4) cy (x5 j16) (x6 j16) (x7 j16) (x8 j16) (p1_places_number j22) (p1_places_sent j22) (p1_places_over j22) (p1_places_pieceBytes j22) (x10 j16) (c_places_whole_at j16) (p1_places_whole_size j22) (p1_places_whole_at j22) (p1_places_whole_bytes j22) (x9 j16) (x12 j16) (c_places_came_at j16) (p1_places_came_size j22) (p1_places_came_at j22) (p1_places_came_bytes j22) (x11 j16))) hD hS hA [6, 11, 7, 12, 13, 8, 9, 14, 15, 10] rfl
        refine va_callv (va_runV (As := [.ref (k1_places_e j22 0)]) (rest := []) ⟨hx, hb, hml, hown, hts⟩ (c_X5_become l dC dI cy (h_places_e j16 0) (h_places_e j16 1) (h_places_e j16 3) (k1_places_e j22 0) (k1_places_e j22 1) (k1_places_e j22 3) (h_places_e j16 2) (k1_places_e j22 2) (h_places_e j16 4) (k1_places_e j22 4) H.size (x5 j16) (x6 j16) (x7 j16) (x8 j16) (p1_places_number j22) (p1_places_sent j22) (p1_places_over j22) (p1_places_pieceBytes j22) (x10 j16) (c_places_whole_at j16) (p1_places_whole_size j22) (p1_places_whole_at j22) (p1_places_whole_bytes j22) (x9 j16) (x12 j16) (c_places_came_at j16) (p1_places_came_size j22) (p1_places_came_at j22) (p1_places_came_bytes j22) (x11 j16) _ hw) (cwV 1 hts (goodV mw_486 mw_869 mw_484 mw_485 mw_81) rfl rfl rfl (by decide +kernel) ⟨Nat.le_of_ble_eq_true rfl, Nat.le_of_ble_eq_true rfl⟩) ⟨PX_blind, va_recv hK hPc (ci := 5) (q0 := 0) rfl rfl, PX_pre hPc hK hDc hG⟩ rfl rfl hl.1 rfl (lv_room (Nat.le_of_ble_eq_true rfl)) dX7_become_48 ⟨Nat.zero_le _, Nat.zero_le _⟩) hS (fun q _ h => hFc q h) hFc ?_; clear hw hS; intro u t H1 locs1 ht hvm hw hB hz1 hk1 hS
        obtain ⟨x24, x25, x26, x27, x28, f29, x30, f31⟩ := u
        try dsimp only at hw
        obtain ⟨hP1, -, -⟩ := hB
        rw [ht] at hP1
        replace hP := jC hP hD [6, 11, 7, 12, 13, 8, 9, 14, 15, 10] [0, 1, 2, 3, 4, 5] rfl hk1 hP1 (s3_X7_become h0 h_numbers h_places k1 k1_numbers k1_places h_places_e k1_places_e cy n_c_places n_p1_places c_sizeAt p1_head p1_sizeAt p1_head c_numbers p1_numbers j16 x24 x25 x26 x27 f29 x28 (c_places_whole_at j16) f31 x30 (c_places_came_at j16) j22 (p1_places_number j22) (p1_places_sent j22) (p1_places_over j22) (p1_places_pieceBytes j22) (p1_places_whole_bytes j22) (p1_places_whole_size j22) (p1_places_whole_at j22) (p1_places_came_bytes j22) (p1_places_came_size j22) (p1_places_came_at j22)) rfl rfl rfl 16 rfl (by decide +kernel); clear hD; obtain ⟨hP, hD⟩ := hP
        replace hP : va_P (dC, dI) vwCl ((s3_X7_become h0 h_numbers h_places k1 k1_numbers k1_places h_places_e k1_places_e cy n_c_places n_p1_places c_sizeAt p1_head p1_sizeAt p1_head c_numbers p1_numbers j16 x24 x25 x26 x27 f29 x28 (c_places_whole_at j16) f31 x30 (c_places_came_at j16) j22 (p1_places_number j22) (p1_places_sent j22) (p1_places_over j22) (p1_places_pieceBytes j22) (p1_places_whole_bytes j22) (p1_places_whole_size j22) (p1_places_whole_at j22) (p1_places_came_bytes j22) (p1_places_came_size j22) (p1_places_came_at j22)) ++ List.flatten [famX n_c_places j16 (pkF h_places_e cy x5 x6 x7 x8 x9 x10 c_places_whole_at x11 x12 c_places_came_at), famX n_p1_places j22 (pkF k1_places_e cy p1_places_number p1_places_sent p1_places_over p1_places_pieceBytes p1_places_whole_bytes p1_places_whole_size p1_places_whole_at p1_places_came_bytes p1_places_came_size p1_places_came_at)]) H1 := hP
        replace hD : va_D A ((s3_X7_become h0 h_numbers h_places k1 k1_numbers k1_places h_places_e k1_places_e cy n_c_places n_p1_places c_sizeAt p1_head p1_sizeAt p1_head c_numbers p1_numbers j16 x24 x25 x26 x27 f29 x28 (c_places_whole_at j16) f31 x30 (c_places_came_at j16) j22 (p1_places_number j22) (p1_places_sent j22) (p1_places_over j22) (p1_places_pieceBytes j22) (p1_places_whole_bytes j22) (p1_places_whole_size j22) (p1_places_whole_at j22) (p1_places_came_bytes j22) (p1_places_came_size j22) (p1_places_came_at j22)) ++ List.flatten [famX n_c_places j16 (pkF h_places_e cy x5 x6 x7 x8 x9 x10 c_places_whole_at x11 x12 c_places_came_at), famX n_p1_places j22 (pkF k1_places_e cy p1_places_number p1_places_sent p1_places_over p1_places_pieceBytes p1_places_whole_bytes p1_places_whole_size p1_places_whole_at p1_places_came_bytes p1_places_came_size p1_places_came_at)]) := hD
        clear hPc hDc hFc hP1 hk1 hz1 hvm ht; clear t; clear H locs; obtain ⟨H, hH⟩ : ∃ H, H = H1 := ⟨_, rfl⟩; obtain ⟨locs, hlo⟩ : ∃ L, L = locs1 := ⟨_, rfl⟩; subst hH; subst hlo
        refine W.widen (k := 0) (n := 0) (Nat.le_refl 0) (Nat.le_refl 0) ?_
        refine lv_iinc (v := x4 + 1) (lv' := [(2, .int (x4 + 1)), (4, .ref (k1_places_e j22 0)), (3, .ref (h_places_e j16 0)), (0, .ref h0), (1, .ref k1)]) hx hb dX7_become_51 hl (k := 2) rfl rfl (by decide) rfl ?_; clear hl; clear ls; intro ls hl
        refine lv_goto (tgt := 10) hx hb dX7_become_54 (by decide) ?_
        replace hP := fam_out (X := s2_X7_become h0 h_numbers h_places k1 k1_numbers k1_places h_places_e k1_places_e cy n_c_places n_p1_places c_sizeAt p1_head p1_sizeAt p1_head c_numbers p1_numbers j16 x24 x25 x26 x27 f29 x28 (c_places_whole_at j16) f31 x30 (c_places_came_at j16)) (v := pk (k1_places_e j22) cy (p1_places_number j22) (p1_places_sent j22) (p1_places_over j22) (p1_places_pieceBytes j22) (p1_places_whole_bytes j22) (p1_places_whole_size j22) (p1_places_whole_at j22) (p1_places_came_bytes j22) (p1_places_came_size j22) (p1_places_came_at j22)) (w' := (pkF k1_places_e cy p1_places_number p1_places_sent p1_places_over p1_places_pieceBytes p1_places_whole_bytes p1_places_whole_size p1_places_whole_at p1_places_came_bytes p1_places_came_size p1_places_came_at)) [] [famX n_c_places j16 (pkF h_places_e cy x5 x6 x7 x8 x9 x10 c_places_whole_at x11 x12 c_places_came_at)] hP hD hj23 (by simp [pkF, va_up]) (fun i hi => by simp [pkF, va_up, hi]); clear hD; obtain ⟨hP, hD⟩ := hP
        replace hP : va_P (dC, dI) vwCl ((s2_X7_become h0 h_numbers h_places k1 k1_numbers k1_places h_places_e k1_places_e cy n_c_places n_p1_places c_sizeAt p1_head p1_sizeAt p1_head c_numbers p1_numbers j16 x24 x25 x26 x27 f29 x28 (c_places_whole_at j16) f31 x30 (c_places_came_at j16)) ++ List.flatten [fam n_p1_places (pkF k1_places_e cy p1_places_number p1_places_sent p1_places_over p1_places_pieceBytes p1_places_whole_bytes p1_places_whole_size p1_places_whole_at p1_places_came_bytes p1_places_came_size p1_places_came_at), famX n_c_places j16 (pkF h_places_e cy x5 x6 x7 x8 x9 x10 c_places_whole_at x11 x12 c_places_came_at)]) H := hP
        replace hD : va_D A ((s2_X7_become h0 h_numbers h_places k1 k1_numbers k1_places h_places_e k1_places_e cy n_c_places n_p1_places c_sizeAt p1_head p1_sizeAt p1_head c_numbers p1_numbers j16 x24 x25 x26 x27 f29 x28 (c_places_whole_at j16) f31 x30 (c_places_came_at j16)) ++ List.flatten [fam n_p1_places (pkF k1_places_e cy p1_places_number p1_places_sent p1_places_over p1_places_pieceBytes p1_places_whole_bytes p1_places_whole_size p1_places_whole_at p1_places_came_bytes p1_places_came_size p1_places_came_at), famX n_c_places j16 (pkF h_places_e cy x5 x6 x7 x8 x9 x10 c_places_whole_at x11 x12 c_places_came_at)]) := hD
        obtain ⟨F32, e_F32⟩ : ∃ y : (Nat → Int32), y = va_up x5 j16 x24 := ⟨_, rfl⟩
        replace hw := hw F32 e_F32
        obtain ⟨F33, e_F33⟩ : ∃ y : (Nat → Int32), y = va_up x6 j16 x25 := ⟨_, rfl⟩
        replace hw := hw F33 e_F33
        obtain ⟨F34, e_F34⟩ : ∃ y : (Nat → Int32), y = va_up x7 j16 x26 := ⟨_, rfl⟩
        replace hw := hw F34 e_F34
        obtain ⟨F35, e_F35⟩ : ∃ y : (Nat → Int32), y = va_up x8 j16 x27 := ⟨_, rfl⟩
        replace hw := hw F35 e_F35
        obtain ⟨F36, e_F36⟩ : ∃ y : (Nat → Nat → Int32), y = va_up x9 j16 f29 := ⟨_, rfl⟩
        replace hw := hw F36 e_F36
        obtain ⟨F37, e_F37⟩ : ∃ y : (Nat → Int32), y = va_up x10 j16 x28 := ⟨_, rfl⟩
        replace hw := hw F37 e_F37
        obtain ⟨F38, e_F38⟩ : ∃ y : (Nat → Nat → Int32), y = va_up x11 j16 f31 := ⟨_, rfl⟩
        replace hw := hw F38 e_F38
        obtain ⟨F39, e_F39⟩ : ∃ y : (Nat → Int32), y = va_up x12 j16 x30 := ⟨_, rfl⟩
        replace hw := hw F39 e_F39
        replace hP := fam_out (X := s_X7_become h0 h_numbers h_places k1 k1_numbers k1_places h_places_e k1_places_e cy n_c_places n_p1_places c_sizeAt p1_head p1_sizeAt p1_head c_numbers p1_numbers) (v := pk (h_places_e j16) cy x24 x25 x26 x27 f29 x28 (c_places_whole_at j16) f31 x30 (c_places_came_at j16)) (w' := (pkF h_places_e cy F32 F33 F34 F35 F36 F37 c_places_whole_at F38 F39 c_places_came_at)) [] [fam n_p1_places (pkF k1_places_e cy p1_places_number p1_places_sent p1_places_over p1_places_pieceBytes p1_places_whole_bytes p1_places_whole_size p1_places_whole_at p1_places_came_bytes p1_places_came_size p1_places_came_at)] hP hD hj17 (by rw [e_F32, e_F33, e_F34, e_F35, e_F36, e_F37, e_F38, e_F39]; simp [pkF, va_up]) (fun i hi => by rw [e_F32, e_F33, e_F34, e_F35, e_F36, e_F37, e_F38, e_F39]; simp [pkF, va_up, hi]); clear hD; obtain ⟨hP, hD⟩ := hP
        replace hP : va_P (dC, dI) vwCl (w_X7_become h0 h_numbers h_places k1 k1_numbers k1_places h_places_e k1_places_e cy n_c_places n_p1_places c_sizeAt p1_head p1_sizeAt p1_head c_numbers p1_numbers F32 F33 F34 F35 F36 F37 c_places_whole_at F38 F39 c_places_came_at p1_places_number p1_places_sent p1_places_over p1_places_pieceBytes p1_places_whole_bytes p1_places_whole_size p1_places_whole_at p1_places_came_bytes p1_places_came_size p1_places_came_at) H := hP
        replace hD : va_D A (w_X7_become h0 h_numbers h_places k1 k1_numbers k1_places h_places_e k1_places_e cy n_c_places n_p1_places c_sizeAt p1_head p1_sizeAt p1_head c_numbers p1_numbers F32 F33 F34 F35 F36 F37 c_places_whole_at F38 F39 c_places_came_at p1_places_number p1_places_sent p1_places_over p1_places_pieceBytes p1_places_whole_bytes p1_places_whole_size p1_places_whole_at p1_places_came_bytes p1_places_came_size p1_places_came_at) := hD
        clear e_F32 e_F33 e_F34 e_F35 e_F36 e_F37 e_F38 e_F39
        exact ih3 (x4 + 1) F32 F33 F34 F35 F36 F37 F38 F39 hw H locs ls hP hD hS (lv_sub hl [0, 3, 4] rfl)
set_option maxHeartbeats 4000000 in
set_option maxRecDepth 100000 in
theorem c_X6_become (l : Launch) (dC : Nat → ClassId) (dI : Nat → Nat → Nat) (cy : Nat → ClassId) (h0 h_numbers h_book h_buffer h_ears h_frame h_records k1 k1_numbers k1_book k1_buffer k1_ears k1_frame k1_records h_buffer_places k1_buffer_places h_ears_0 h_ears_1 k1_ears_0 k1_ears_1 h_ears_0_tree h_ears_0_row h_ears_0_made h_ears_0_fresh k1_ears_0_tree k1_ears_0_row k1_ears_0_made k1_ears_0_fresh h_ears_0_tree_memoriesA h_ears_0_tree_memoriesB h_ears_0_tree_row h_ears_0_tree_next k1_ears_0_tree_memoriesA k1_ears_0_tree_memoriesB k1_ears_0_tree_row k1_ears_0_tree_next h_ears_1_tree h_ears_1_row h_ears_1_made h_ears_1_fresh k1_ears_1_tree k1_ears_1_row k1_ears_1_made k1_ears_1_fresh h_ears_1_tree_memoriesA h_ears_1_tree_memoriesB h_ears_1_tree_row h_ears_1_tree_next k1_ears_1_tree_memoriesA k1_ears_1_tree_memoriesB k1_ears_1_tree_row k1_ears_1_tree_next : Nat) (h_buffer_places_e k1_buffer_places_e : Nat → Nat → Nat) (sz : Nat) (c_buffer_sizeAt : Int32) (c_buffer_head : Int32) (p1_buffer_sizeAt : Int32) (p1_buffer_head : Int32) (c_numbers : Nat → Int32) (p1_numbers : Nat → Int32) (c_ears_0_lag : Int32) (c_ears_0_lagSum : Int32) (p1_ears_0_lag : Int32) (p1_ears_0_lagSum : Int32) (p1_ears_0_tree_memoriesA : Nat → Int32) (c_ears_0_tree_memoriesA : Nat → Int32) (p1_ears_0_tree_memoriesB : Nat → Int32) (c_ears_0_tree_memoriesB : Nat → Int32) (p1_ears_0_row : Nat → Int32) (c_ears_0_row : Nat → Int32) (c_ears_1_lag : Int32) (c_ears_1_lagSum : Int32) (p1_ears_1_lag : Int32) (p1_ears_1_lagSum : Int32) (p1_ears_1_tree_memoriesA : Nat → Int32) (c_ears_1_tree_memoriesA : Nat → Int32) (p1_ears_1_tree_memoriesB : Nat → Int32) (c_ears_1_tree_memoriesB : Nat → Int32) (p1_ears_1_row : Nat → Int32) (c_ears_1_row : Nat → Int32) (c_records : Nat → Int32) (p1_records : Nat → Int32) (c_buffer_places_number : Nat → Int32) (c_buffer_places_sent : Nat → Int32) (c_buffer_places_over : Nat → Int32) (c_buffer_places_pieceBytes : Nat → Int32) (c_buffer_places_whole_bytes : Nat → Nat → Int32) (c_buffer_places_whole_size : Nat → Int32) (c_buffer_places_whole_at : Nat → Int32) (c_buffer_places_came_bytes : Nat → Nat → Int32) (c_buffer_places_came_size : Nat → Int32) (c_buffer_places_came_at : Nat → Int32) (p1_buffer_places_number : Nat → Int32) (p1_buffer_places_sent : Nat → Int32) (p1_buffer_places_over : Nat → Int32) (p1_buffer_places_pieceBytes : Nat → Int32) (p1_buffer_places_whole_bytes : Nat → Nat → Int32) (p1_buffer_places_whole_size : Nat → Int32) (p1_buffer_places_whole_at : Nat → Int32) (p1_buffer_places_came_bytes : Nat → Nat → Int32) (p1_buffer_places_came_size : Nat → Int32) (p1_buffer_places_came_at : Nat → Int32) (post : Int32 → (Nat → Int32) → (Nat → Int32) → (Nat → Int32) → (Nat → Int32) → (Nat → Int32) → (Nat → Int32) → (Nat → Int32) → (Nat → Int32) → (Nat → Int32) → (Nat → Int32) → (Nat → Int32) → (Nat → Nat → Int32) → (Nat → Int32) → (Nat → Nat → Int32) → (Nat → Int32) → Prop) (hw : wp_X6_become c_buffer_sizeAt c_buffer_head p1_buffer_sizeAt p1_buffer_head c_numbers p1_numbers p1_ears_0_tree_memoriesA c_ears_0_tree_memoriesA p1_ears_0_tree_memoriesB c_ears_0_tree_memoriesB p1_ears_0_row c_ears_0_row p1_ears_1_tree_memoriesA c_ears_1_tree_memoriesA p1_ears_1_tree_memoriesB c_ears_1_tree_memoriesB p1_ears_1_row c_ears_1_row c_records p1_records c_buffer_places_number c_buffer_places_sent c_buffer_places_over c_buffer_places_pieceBytes c_buffer_places_whole_bytes c_buffer_places_whole_size c_buffer_places_came_bytes c_buffer_places_came_size p1_buffer_places_number p1_buffer_places_sent p1_buffer_places_over p1_buffer_places_pieceBytes p1_buffer_places_whole_bytes p1_buffer_places_whole_size p1_buffer_places_came_bytes p1_buffer_places_came_size post) : Met l yX6_become wsX6_become ({ frames := 4, cells := 0, slots := 0, locals := 106 }) (PX dC dI cy [.ref h0, .ref k1] sz (w_X6_become h0 h_numbers h_book h_buffer h_ears h_frame h_records k1 k1_numbers k1_book k1_buffer k1_ears k1_frame k1_records h_buffer_places k1_buffer_places h_ears_0 h_ears_1 k1_ears_0 k1_ears_1 h_ears_0_tree h_ears_0_row h_ears_0_made h_ears_0_fresh k1_ears_0_tree k1_ears_0_row k1_ears_0_made k1_ears_0_fresh h_ears_0_tree_memoriesA h_ears_0_tree_memoriesB h_ears_0_tree_row h_ears_0_tree_next k1_ears_0_tree_memoriesA k1_ears_0_tree_memoriesB k1_ears_0_tree_row k1_ears_0_tree_next h_ears_1_tree h_ears_1_row h_ears_1_made h_ears_1_fresh k1_ears_1_tree k1_ears_1_row k1_ears_1_made k1_ears_1_fresh h_ears_1_tree_memoriesA h_ears_1_tree_memoriesB h_ears_1_tree_row h_ears_1_tree_next k1_ears_1_tree_memoriesA k1_ears_1_tree_memoriesB k1_ears_1_tree_row k1_ears_1_tree_next h_buffer_places_e k1_buffer_places_e cy c_buffer_sizeAt c_buffer_head p1_buffer_sizeAt p1_buffer_head c_numbers p1_numbers c_ears_0_lag c_ears_0_lagSum p1_ears_0_lag p1_ears_0_lagSum p1_ears_0_tree_memoriesA c_ears_0_tree_memoriesA p1_ears_0_tree_memoriesB c_ears_0_tree_memoriesB p1_ears_0_row c_ears_0_row c_ears_1_lag c_ears_1_lagSum p1_ears_1_lag p1_ears_1_lagSum p1_ears_1_tree_memoriesA c_ears_1_tree_memoriesA p1_ears_1_tree_memoriesB c_ears_1_tree_memoriesB p1_ears_1_row c_ears_1_row c_records p1_records c_buffer_places_number c_buffer_places_sent c_buffer_places_over c_buffer_places_pieceBytes c_buffer_places_whole_bytes c_buffer_places_whole_size c_buffer_places_whole_at c_buffer_places_came_bytes c_buffer_places_came_size c_buffer_places_came_at p1_buffer_places_number p1_buffer_places_sent p1_buffer_places_over p1_buffer_places_pieceBytes p1_buffer_places_whole_bytes p1_buffer_places_whole_size p1_buffer_places_whole_at p1_buffer_places_came_bytes p1_buffer_places_came_size p1_buffer_places_came_at)) (va_Qv (fun (u : Int32 × (Nat → Int32) × (Nat → Int32) × (Nat → Int32) × (Nat → Int32) × (Nat → Int32) × (Nat → Int32) × (Nat → Int32) × (Nat → Int32) × (Nat → Int32) × (Nat → Int32) × (Nat → Int32) × (Nat → Nat → Int32) × (Nat → Int32) × (Nat → Nat → Int32) × (Nat → Int32)) => post u.1 u.2.1 u.2.2.1 u.2.2.2.1 u.2.2.2.2.1 u.2.2.2.2.2.1 u.2.2.2.2.2.2.1 u.2.2.2.2.2.2.2.1 u.2.2.2.2.2.2.2.2.1 u.2.2.2.2.2.2.2.2.2.1 u.2.2.2.2.2.2.2.2.2.2.1 u.2.2.2.2.2.2.2.2.2.2.2.1 u.2.2.2.2.2.2.2.2.2.2.2.2.1 u.2.2.2.2.2.2.2.2.2.2.2.2.2.1 u.2.2.2.2.2.2.2.2.2.2.2.2.2.2.1 u.2.2.2.2.2.2.2.2.2.2.2.2.2.2.2) (QX dC dI cy (va_A (w_X6_become h0 h_numbers h_book h_buffer h_ears h_frame h_records k1 k1_numbers k1_book k1_buffer k1_ears k1_frame k1_records h_buffer_places k1_buffer_places h_ears_0 h_ears_1 k1_ears_0 k1_ears_1 h_ears_0_tree h_ears_0_row h_ears_0_made h_ears_0_fresh k1_ears_0_tree k1_ears_0_row k1_ears_0_made k1_ears_0_fresh h_ears_0_tree_memoriesA h_ears_0_tree_memoriesB h_ears_0_tree_row h_ears_0_tree_next k1_ears_0_tree_memoriesA k1_ears_0_tree_memoriesB k1_ears_0_tree_row k1_ears_0_tree_next h_ears_1_tree h_ears_1_row h_ears_1_made h_ears_1_fresh k1_ears_1_tree k1_ears_1_row k1_ears_1_made k1_ears_1_fresh h_ears_1_tree_memoriesA h_ears_1_tree_memoriesB h_ears_1_tree_row h_ears_1_tree_next k1_ears_1_tree_memoriesA k1_ears_1_tree_memoriesB k1_ears_1_tree_row k1_ears_1_tree_next h_buffer_places_e k1_buffer_places_e cy c_buffer_sizeAt c_buffer_head p1_buffer_sizeAt p1_buffer_head c_numbers p1_numbers c_ears_0_lag c_ears_0_lagSum p1_ears_0_lag p1_ears_0_lagSum p1_ears_0_tree_memoriesA c_ears_0_tree_memoriesA p1_ears_0_tree_memoriesB c_ears_0_tree_memoriesB p1_ears_0_row c_ears_0_row c_ears_1_lag c_ears_1_lagSum p1_ears_1_lag p1_ears_1_lagSum p1_ears_1_tree_memoriesA c_ears_1_tree_memoriesA p1_ears_1_tree_memoriesB c_ears_1_tree_memoriesB p1_ears_1_row c_ears_1_row c_records p1_records c_buffer_places_number c_buffer_places_sent c_buffer_places_over c_buffer_places_pieceBytes c_buffer_places_whole_bytes c_buffer_places_whole_size c_buffer_places_whole_at c_buffer_places_came_bytes c_buffer_places_came_size c_buffer_places_came_at p1_buffer_places_number p1_buffer_places_sent p1_buffer_places_over p1_buffer_places_pieceBytes p1_buffer_places_whole_bytes p1_buffer_places_whole_size p1_buffer_places_whole_at p1_buffer_places_came_bytes p1_buffer_places_came_size p1_buffer_places_came_at) sz) (fun (u : Int32 × (Nat → Int32) × (Nat → Int32) × (Nat → Int32) × (Nat → Int32) × (Nat → Int32) × (Nat → Int32) × (Nat → Int32) × (Nat → Int32) × (Nat → Int32) × (Nat → Int32) × (Nat → Int32) × (Nat → Nat → Int32) × (Nat → Int32) × (Nat → Nat → Int32) × (Nat → Int32)) => w_X6_become h0 h_numbers h_book h_buffer h_ears h_frame h_records k1 k1_numbers k1_book k1_buffer k1_ears k1_frame k1_records h_buffer_places k1_buffer_places h_ears_0 h_ears_1 k1_ears_0 k1_ears_1 h_ears_0_tree h_ears_0_row h_ears_0_made h_ears_0_fresh k1_ears_0_tree k1_ears_0_row k1_ears_0_made k1_ears_0_fresh h_ears_0_tree_memoriesA h_ears_0_tree_memoriesB h_ears_0_tree_row h_ears_0_tree_next k1_ears_0_tree_memoriesA k1_ears_0_tree_memoriesB k1_ears_0_tree_row k1_ears_0_tree_next h_ears_1_tree h_ears_1_row h_ears_1_made h_ears_1_fresh k1_ears_1_tree k1_ears_1_row k1_ears_1_made k1_ears_1_fresh h_ears_1_tree_memoriesA h_ears_1_tree_memoriesB h_ears_1_tree_row h_ears_1_tree_next k1_ears_1_tree_memoriesA k1_ears_1_tree_memoriesB k1_ears_1_tree_row k1_ears_1_tree_next h_buffer_places_e k1_buffer_places_e cy c_buffer_sizeAt u.1 p1_buffer_sizeAt p1_buffer_head c_numbers p1_numbers c_ears_0_lag c_ears_0_lagSum p1_ears_0_lag p1_ears_0_lagSum p1_ears_0_tree_memoriesA u.2.1 p1_ears_0_tree_memoriesB u.2.2.1 p1_ears_0_row u.2.2.2.1 c_ears_1_lag c_ears_1_lagSum p1_ears_1_lag p1_ears_1_lagSum p1_ears_1_tree_memoriesA u.2.2.2.2.1 p1_ears_1_tree_memoriesB u.2.2.2.2.2.1 p1_ears_1_row u.2.2.2.2.2.2.1 u.2.2.2.2.2.2.2.1 p1_records u.2.2.2.2.2.2.2.2.1 u.2.2.2.2.2.2.2.2.2.1 u.2.2.2.2.2.2.2.2.2.2.1 u.2.2.2.2.2.2.2.2.2.2.2.1 u.2.2.2.2.2.2.2.2.2.2.2.2.1 u.2.2.2.2.2.2.2.2.2.2.2.2.2.1 c_buffer_places_whole_at u.2.2.2.2.2.2.2.2.2.2.2.2.2.2.1 u.2.2.2.2.2.2.2.2.2.2.2.2.2.2.2 c_buffer_places_came_at p1_buffer_places_number p1_buffer_places_sent p1_buffer_places_over p1_buffer_places_pieceBytes p1_buffer_places_whole_bytes p1_buffer_places_whole_size p1_buffer_places_whole_at p1_buffer_places_came_bytes p1_buffer_places_came_size p1_buffer_places_came_at)) (va_A (w_X6_become h0 h_numbers h_book h_buffer h_ears h_frame h_records k1 k1_numbers k1_book k1_buffer k1_ears k1_frame k1_records h_buffer_places k1_buffer_places h_ears_0 h_ears_1 k1_ears_0 k1_ears_1 h_ears_0_tree h_ears_0_row h_ears_0_made h_ears_0_fresh k1_ears_0_tree k1_ears_0_row k1_ears_0_made k1_ears_0_fresh h_ears_0_tree_memoriesA h_ears_0_tree_memoriesB h_ears_0_tree_row h_ears_0_tree_next k1_ears_0_tree_memoriesA k1_ears_0_tree_memoriesB k1_ears_0_tree_row k1_ears_0_tree_next h_ears_1_tree h_ears_1_row h_ears_1_made h_ears_1_fresh k1_ears_1_tree k1_ears_1_row k1_ears_1_made k1_ears_1_fresh h_ears_1_tree_memoriesA h_ears_1_tree_memoriesB h_ears_1_tree_row h_ears_1_tree_next k1_ears_1_tree_memoriesA k1_ears_1_tree_memoriesB k1_ears_1_tree_row k1_ears_1_tree_next h_buffer_places_e k1_buffer_places_e cy c_buffer_sizeAt c_buffer_head p1_buffer_sizeAt p1_buffer_head c_numbers p1_numbers c_ears_0_lag c_ears_0_lagSum p1_ears_0_lag p1_ears_0_lagSum p1_ears_0_tree_memoriesA c_ears_0_tree_memoriesA p1_ears_0_tree_memoriesB c_ears_0_tree_memoriesB p1_ears_0_row c_ears_0_row c_ears_1_lag c_ears_1_lagSum p1_ears_1_lag p1_ears_1_lagSum p1_ears_1_tree_memoriesA c_ears_1_tree_memoriesA p1_ears_1_tree_memoriesB c_ears_1_tree_memoriesB p1_ears_1_row c_ears_1_row c_records p1_records c_buffer_places_number c_buffer_places_sent c_buffer_places_over c_buffer_places_pieceBytes c_buffer_places_whole_bytes c_buffer_places_whole_size c_buffer_places_whole_at c_buffer_places_came_bytes c_buffer_places_came_size c_buffer_places_came_at p1_buffer_places_number p1_buffer_places_sent p1_buffer_places_over p1_buffer_places_pieceBytes p1_buffer_places_whole_bytes p1_buffer_places_whole_size p1_buffer_places_whole_at p1_buffer_places_came_bytes p1_buffer_places_came_size p1_buffer_places_came_at) sz)) 0 0 (va_A (w_X6_become h0 h_numbers h_book h_buffer h_ears h_frame h_records k1 k1_numbers k1_book k1_buffer k1_ears k1_frame k1_records h_buffer_places k1_buffer_places h_ears_0 h_ears_1 k1_ears_0 k1_ears_1 h_ears_0_tree h_ears_0_row h_ears_0_made h_ears_0_fresh k1_ears_0_tree k1_ears_0_row k1_ears_0_made k1_ears_0_fresh h_ears_0_tree_memoriesA h_ears_0_tree_memoriesB h_ears_0_tree_row h_ears_0_tree_next k1_ears_0_tree_memoriesA k1_ears_0_tree_memoriesB k1_ears_0_tree_row k1_ears_0_tree_next h_ears_1_tree h_ears_1_row h_ears_1_made h_ears_1_fresh k1_ears_1_tree k1_ears_1_row k1_ears_1_made k1_ears_1_fresh h_ears_1_tree_memoriesA h_ears_1_tree_memoriesB h_ears_1_tree_row h_ears_1_tree_next k1_ears_1_tree_memoriesA k1_ears_1_tree_memoriesB k1_ears_1_tree_row k1_ears_1_tree_next h_buffer_places_e k1_buffer_places_e cy c_buffer_sizeAt c_buffer_head p1_buffer_sizeAt p1_buffer_head c_numbers p1_numbers c_ears_0_lag c_ears_0_lagSum p1_ears_0_lag p1_ears_0_lagSum p1_ears_0_tree_memoriesA c_ears_0_tree_memoriesA p1_ears_0_tree_memoriesB c_ears_0_tree_memoriesB p1_ears_0_row c_ears_0_row c_ears_1_lag c_ears_1_lagSum p1_ears_1_lag p1_ears_1_lagSum p1_ears_1_tree_memoriesA c_ears_1_tree_memoriesA p1_ears_1_tree_memoriesB c_ears_1_tree_memoriesB p1_ears_1_row c_ears_1_row c_records p1_records c_buffer_places_number c_buffer_places_sent c_buffer_places_over c_buffer_places_pieceBytes c_buffer_places_whole_bytes c_buffer_places_whole_size c_buffer_places_whole_at c_buffer_places_came_bytes c_buffer_places_came_size c_buffer_places_came_at p1_buffer_places_number p1_buffer_places_sent p1_buffer_places_over p1_buffer_places_pieceBytes p1_buffer_places_whole_bytes p1_buffer_places_whole_size p1_buffer_places_whole_at p1_buffer_places_came_bytes p1_buffer_places_came_size p1_buffer_places_came_at) sz) := by
  refine Met.ofW (cc := cX6_become) (maxL := 2) (ret := none) (by decide) rfl ?_
  intro p e s m args below meth c s₁ B hml hv
  obtain ⟨rfl, hsz, hP, hK, hD0, hG⟩ := hv
  have hx := B.exec
  have hb := B.bytes
  have hr := B.returns
  have hts := atoms_spec (ws := wsX6_become) B.pre
  have hown : s.vm.findClass RX6 = some m.cls := findClass_of_methodNamed B.named
  have hlocks := B.notSynchronized
  subst hsz
  have hD := hD0.self (sz := s.heap.size)
  generalize hAe : va_A (w_X6_become h0 h_numbers h_book h_buffer h_ears h_frame h_records k1 k1_numbers k1_book k1_buffer k1_ears k1_frame k1_records h_buffer_places k1_buffer_places h_ears_0 h_ears_1 k1_ears_0 k1_ears_1 h_ears_0_tree h_ears_0_row h_ears_0_made h_ears_0_fresh k1_ears_0_tree k1_ears_0_row k1_ears_0_made k1_ears_0_fresh h_ears_0_tree_memoriesA h_ears_0_tree_memoriesB h_ears_0_tree_row h_ears_0_tree_next k1_ears_0_tree_memoriesA k1_ears_0_tree_memoriesB k1_ears_0_tree_row k1_ears_0_tree_next h_ears_1_tree h_ears_1_row h_ears_1_made h_ears_1_fresh k1_ears_1_tree k1_ears_1_row k1_ears_1_made k1_ears_1_fresh h_ears_1_tree_memoriesA h_ears_1_tree_memoriesB h_ears_1_tree_row h_ears_1_tree_next k1_ears_1_tree_memoriesA k1_ears_1_tree_memoriesB k1_ears_1_tree_row k1_ears_1_tree_next h_buffer_places_e k1_buffer_places_e cy c_buffer_sizeAt c_buffer_head p1_buffer_sizeAt p1_buffer_head c_numbers p1_numbers c_ears_0_lag c_ears_0_lagSum p1_ears_0_lag p1_ears_0_lagSum p1_ears_0_tree_memoriesA c_ears_0_tree_memoriesA p1_ears_0_tree_memoriesB c_ears_0_tree_memoriesB p1_ears_0_row c_ears_0_row c_ears_1_lag c_ears_1_lagSum p1_ears_1_lag p1_ears_1_lagSum p1_ears_1_tree_memoriesA c_ears_1_tree_memoriesA p1_ears_1_tree_memoriesB c_ears_1_tree_memoriesB p1_ears_1_row c_ears_1_row c_records p1_records c_buffer_places_number c_buffer_places_sent c_buffer_places_over c_buffer_places_pieceBytes c_buffer_places_whole_bytes c_buffer_places_whole_size c_buffer_places_whole_at c_buffer_places_came_bytes c_buffer_places_came_size c_buffer_places_came_at p1_buffer_places_number p1_buffer_places_sent p1_buffer_places_over p1_buffer_places_pieceBytes p1_buffer_places_whole_bytes p1_buffer_places_whole_size p1_buffer_places_whole_at p1_buffer_places_came_bytes p1_buffer_places_came_size p1_buffer_places_came_at) s.heap.size = A at hD ⊢
  have hA : ∀ q : Nat, s.heap.size ≤ q → A q := fun q h => by rw [← hAe]; exact Or.inr h
  have hS : va_S A s.heap s.heap [] := va_S.rf
  have hl := lv_entry ([.ref h0, .ref k1]) (n := 2) (Nat.le_of_ble_eq_true rfl)
  rw [lg_entry_eq]
  generalize (lg_sl ([.ref h0, .ref k1]) ++ List.replicate (2 - (lg_sl ([.ref h0, .ref k1])).length) Slot.unset).toArray = ls at hl ⊢
  replace hl : lv_has ls 2 [(0, .ref h0), (1, .ref k1)] := hl
  have inX6 : ∀ w ∈ u_ws RX6 TX6 6, w ∈ wsX6_become := fun w h => List.mem_cons_of_mem _ (inlX6 w h)
  clear hAe hD0 B
  unfold wp_X6_become at hw
  generalize hQe : MQ below _ _ s _ _ _ = Q0
  generalize ([.ref h0, .ref k1] : List Value).toArray = av at *
  obtain ⟨H, hH⟩ : ∃ H, H = s.heap := ⟨_, rfl⟩
  obtain ⟨locs, hlo⟩ : ∃ L : List Loc, L = [] := ⟨_, rfl⟩
  replace hP : va_P (dC, dI) vwCl (w_X6_become h0 h_numbers h_book h_buffer h_ears h_frame h_records k1 k1_numbers k1_book k1_buffer k1_ears k1_frame k1_records h_buffer_places k1_buffer_places h_ears_0 h_ears_1 k1_ears_0 k1_ears_1 h_ears_0_tree h_ears_0_row h_ears_0_made h_ears_0_fresh k1_ears_0_tree k1_ears_0_row k1_ears_0_made k1_ears_0_fresh h_ears_0_tree_memoriesA h_ears_0_tree_memoriesB h_ears_0_tree_row h_ears_0_tree_next k1_ears_0_tree_memoriesA k1_ears_0_tree_memoriesB k1_ears_0_tree_row k1_ears_0_tree_next h_ears_1_tree h_ears_1_row h_ears_1_made h_ears_1_fresh k1_ears_1_tree k1_ears_1_row k1_ears_1_made k1_ears_1_fresh h_ears_1_tree_memoriesA h_ears_1_tree_memoriesB h_ears_1_tree_row h_ears_1_tree_next k1_ears_1_tree_memoriesA k1_ears_1_tree_memoriesB k1_ears_1_tree_row k1_ears_1_tree_next h_buffer_places_e k1_buffer_places_e cy c_buffer_sizeAt c_buffer_head p1_buffer_sizeAt p1_buffer_head c_numbers p1_numbers c_ears_0_lag c_ears_0_lagSum p1_ears_0_lag p1_ears_0_lagSum p1_ears_0_tree_memoriesA c_ears_0_tree_memoriesA p1_ears_0_tree_memoriesB c_ears_0_tree_memoriesB p1_ears_0_row c_ears_0_row c_ears_1_lag c_ears_1_lagSum p1_ears_1_lag p1_ears_1_lagSum p1_ears_1_tree_memoriesA c_ears_1_tree_memoriesA p1_ears_1_tree_memoriesB c_ears_1_tree_memoriesB p1_ears_1_row c_ears_1_row c_records p1_records c_buffer_places_number c_buffer_places_sent c_buffer_places_over c_buffer_places_pieceBytes c_buffer_places_whole_bytes c_buffer_places_whole_size c_buffer_places_whole_at c_buffer_places_came_bytes c_buffer_places_came_size c_buffer_places_came_at p1_buffer_places_number p1_buffer_places_sent p1_buffer_places_over p1_buffer_places_pieceBytes p1_buffer_places_whole_bytes p1_buffer_places_whole_size p1_buffer_places_whole_at p1_buffer_places_came_bytes p1_buffer_places_came_size p1_buffer_places_came_at) H := by rw [hH]; exact hP
  replace hS : va_S A s.heap H locs := by rw [hH, hlo]; exact hS
  suffices hgo : W p l e ({ frames := 4, cells := 0, slots := 0, locals := 106 }) s m av below meth c H locs 0 0 Q0 (F0 m 0 ls []) by rw [hH, hlo] at hgo; exact hgo
  clear hH hlo
  refine lv_aload_n hx hb dX6_become_0 rfl (lv_at hl 0 rfl) ?_
  refine va_get (D := (dC, dI)) (ci := 6) (v := .ref h_buffer) (C := RX6) (T := TX6) (N := 6) hx hb hts inX6 hown hK hP 0 rfl rfl 2 (by decide) (hts _ (List.mem_cons_of_mem _ mw_154)) (fun _ h9 => h9) rfl dX6_become_1 ?_
  refine lv_aload_n hx hb dX6_become_4 rfl (lv_at hl 1 rfl) ?_
  refine va_get (D := (dC, dI)) (ci := 6) (v := .ref k1_buffer) (C := RX6) (T := TX6) (N := 6) hx hb hts inX6 hown hK hP 1 rfl rfl 2 (by decide) (hts _ (List.mem_cons_of_mem _ mw_154)) (fun _ h9 => h9) rfl dX6_become_5 ?_
  have hPc := pSubB (Sc := (s_X7_become h_buffer h_numbers h_buffer_places k1_buffer k1_numbers k1_buffer_places h_buffer_places_e k1_buffer_places_e cy 12 12 c_buffer_sizeAt c_buffer_head p1_buffer_sizeAt p1_buffer_head c_numbers p1_numbers)) (cs := [fam 12 (pkF h_buffer_places_e cy c_buffer_places_number c_buffer_places_sent c_buffer_places_over c_buffer_places_pieceBytes c_buffer_places_whole_bytes c_buffer_places_whole_size c_buffer_places_whole_at c_buffer_places_came_bytes c_buffer_places_came_size c_buffer_places_came_at), fam 12 (pkF k1_buffer_places_e cy p1_buffer_places_number p1_buffer_places_sent p1_buffer_places_over p1_buffer_places_pieceBytes p1_buffer_places_whole_bytes p1_buffer_places_whole_size p1_buffer_places_whole_at p1_buffer_places_came_bytes p1_buffer_places_came_size p1_buffer_places_came_at)]) hP [2, 3, 4, 5, 6, 7] [0, 1] rfl rfl
  have hDc := dSubB (Sc := (s_X7_become h_buffer h_numbers h_buffer_places k1_buffer k1_numbers k1_buffer_places h_buffer_places_e k1_buffer_places_e cy 12 12 c_buffer_sizeAt c_buffer_head p1_buffer_sizeAt p1_buffer_head c_numbers p1_numbers)) (cs := [fam 12 (pkF h_buffer_places_e cy c_buffer_places_number c_buffer_places_sent c_buffer_places_over c_buffer_places_pieceBytes c_buffer_places_whole_bytes c_buffer_places_whole_size c_buffer_places_whole_at c_buffer_places_came_bytes c_buffer_places_came_size c_buffer_places_came_at), fam 12 (pkF k1_buffer_places_e cy p1_buffer_places_number p1_buffer_places_sent p1_buffer_places_over p1_buffer_places_pieceBytes p1_buffer_places_whole_bytes p1_buffer_places_whole_size p1_buffer_places_whole_at p1_buffer_places_came_bytes p1_buffer_places_came_size p1_buffer_places_came_at)]) hD [2, 3, 4, 5, 6, 7] [0, 1] (by decide) (by decide) rfl rfl
  have hFc := freeB (Sc := (s_X7_become h_buffer h_numbers h_buffer_places k1_buffer k1_numbers k1_buffer_places h_buffer_places_e k1_buffer_places_e cy 12 12 c_buffer_sizeAt c_buffer_head p1_buffer_sizeAt p1_buffer_head c_numbers p1_numbers)) (cs := [fam 12 (pkF h_buffer_places_e cy c_buffer_places_number c_buffer_places_sent c_buffer_places_over c_buffer_places_pieceBytes c_buffer_places_whole_bytes c_buffer_places_whole_size c_buffer_places_whole_at c_buffer_places_came_bytes c_buffer_places_came_size c_buffer_places_came_at), fam 12 (pkF k1_buffer_places_e cy p1_buffer_places_number p1_buffer_places_sent p1_buffer_places_over p1_buffer_places_pieceBytes p1_buffer_places_whole_bytes p1_buffer_places_whole_size p1_buffer_places_whole_at p1_buffer_places_came_bytes p1_buffer_places_came_size p1_buffer_places_came_at)]) hD hS hA [2, 3, 4, 5, 6, 7] [0, 1] rfl rfl
  refine va_callv (va_runV (As := [.ref k1_buffer]) (rest := []) ⟨hx, hb, hml, hown, hts⟩ (c_X7_become l dC dI cy h_buffer h_numbers h_buffer_places k1_buffer k1_numbers k1_buffer_places h_buffer_places_e k1_buffer_places_e 12 12 H.size c_buffer_sizeAt c_buffer_head p1_buffer_sizeAt p1_buffer_head c_numbers p1_numbers c_buffer_places_number c_buffer_places_sent c_buffer_places_over c_buffer_places_pieceBytes c_buffer_places_whole_bytes c_buffer_places_whole_size c_buffer_places_whole_at c_buffer_places_came_bytes c_buffer_places_came_size c_buffer_places_came_at p1_buffer_places_number p1_buffer_places_sent p1_buffer_places_over p1_buffer_places_pieceBytes p1_buffer_places_whole_bytes p1_buffer_places_whole_size p1_buffer_places_whole_at p1_buffer_places_came_bytes p1_buffer_places_came_size p1_buffer_places_came_at _ hw) (cwV 1 hts (goodV mw_868 mw_875 mw_866 mw_867 mw_44) rfl rfl rfl (by decide +kernel) ⟨Nat.le_of_ble_eq_true rfl, Nat.le_of_ble_eq_true rfl⟩) ⟨PX_blind, va_recv hK hPc (ci := 7) (q0 := 0) rfl rfl, PX_pre hPc hK hDc hG⟩ rfl rfl hl.1 rfl (lv_room (Nat.le_of_ble_eq_true rfl)) dX6_become_8 ⟨Nat.zero_le _, Nat.zero_le _⟩) hS (fun q _ h => hFc q h) hFc ?_; clear hw hS; intro u t H1 locs1 ht hvm hw hB hz1 hk1 hS
  obtain ⟨x1, F2, F3, F4, F5, F6, F7, F8, F9⟩ := u
  obtain ⟨hP1, -, -⟩ := hB
  rw [ht] at hP1
  replace hP := jCB (Sc := (s_X7_become h_buffer h_numbers h_buffer_places k1_buffer k1_numbers k1_buffer_places h_buffer_places_e k1_buffer_places_e cy 12 12 c_buffer_sizeAt c_buffer_head p1_buffer_sizeAt p1_buffer_head c_numbers p1_numbers)) (cs := [fam 12 (pkF h_buffer_places_e cy c_buffer_places_number c_buffer_places_sent c_buffer_places_over c_buffer_places_pieceBytes c_buffer_places_whole_bytes c_buffer_places_whole_size c_buffer_places_whole_at c_buffer_places_came_bytes c_buffer_places_came_size c_buffer_places_came_at), fam 12 (pkF k1_buffer_places_e cy p1_buffer_places_number p1_buffer_places_sent p1_buffer_places_over p1_buffer_places_pieceBytes p1_buffer_places_whole_bytes p1_buffer_places_whole_size p1_buffer_places_whole_at p1_buffer_places_came_bytes p1_buffer_places_came_size p1_buffer_places_came_at)]) hP hD [2, 3, 4, 5, 6, 7] [0, 1, 8, 9, 10, 11, 12, 13, 14, 15, 16, 17, 18, 19, 20, 21, 22, 23, 24, 25, 26, 27, 28, 29, 30, 31] [0, 1] rfl rfl hk1 hP1 (s_X6_become h0 h_numbers h_book h_buffer h_ears h_frame h_records k1 k1_numbers k1_book k1_buffer k1_ears k1_frame k1_records h_buffer_places k1_buffer_places h_ears_0 h_ears_1 k1_ears_0 k1_ears_1 h_ears_0_tree h_ears_0_row h_ears_0_made h_ears_0_fresh k1_ears_0_tree k1_ears_0_row k1_ears_0_made k1_ears_0_fresh h_ears_0_tree_memoriesA h_ears_0_tree_memoriesB h_ears_0_tree_row h_ears_0_tree_next k1_ears_0_tree_memoriesA k1_ears_0_tree_memoriesB k1_ears_0_tree_row k1_ears_0_tree_next h_ears_1_tree h_ears_1_row h_ears_1_made h_ears_1_fresh k1_ears_1_tree k1_ears_1_row k1_ears_1_made k1_ears_1_fresh h_ears_1_tree_memoriesA h_ears_1_tree_memoriesB h_ears_1_tree_row h_ears_1_tree_next k1_ears_1_tree_memoriesA k1_ears_1_tree_memoriesB k1_ears_1_tree_row k1_ears_1_tree_next h_buffer_places_e k1_buffer_places_e cy c_buffer_sizeAt x1 p1_buffer_sizeAt p1_buffer_head c_numbers p1_numbers c_ears_0_lag c_ears_0_lagSum p1_ears_0_lag p1_ears_0_lagSum p1_ears_0_tree_memoriesA c_ears_0_tree_memoriesA p1_ears_0_tree_memoriesB c_ears_0_tree_memoriesB p1_ears_0_row c_ears_0_row c_ears_1_lag c_ears_1_lagSum p1_ears_1_lag p1_ears_1_lagSum p1_ears_1_tree_memoriesA c_ears_1_tree_memoriesA p1_ears_1_tree_memoriesB c_ears_1_tree_memoriesB p1_ears_1_row c_ears_1_row c_records p1_records) rfl rfl rfl 32 rfl (by decide +kernel) rfl; clear hD; obtain ⟨hP, hD⟩ := hP
  replace hP : va_P (dC, dI) vwCl (w_X6_become h0 h_numbers h_book h_buffer h_ears h_frame h_records k1 k1_numbers k1_book k1_buffer k1_ears k1_frame k1_records h_buffer_places k1_buffer_places h_ears_0 h_ears_1 k1_ears_0 k1_ears_1 h_ears_0_tree h_ears_0_row h_ears_0_made h_ears_0_fresh k1_ears_0_tree k1_ears_0_row k1_ears_0_made k1_ears_0_fresh h_ears_0_tree_memoriesA h_ears_0_tree_memoriesB h_ears_0_tree_row h_ears_0_tree_next k1_ears_0_tree_memoriesA k1_ears_0_tree_memoriesB k1_ears_0_tree_row k1_ears_0_tree_next h_ears_1_tree h_ears_1_row h_ears_1_made h_ears_1_fresh k1_ears_1_tree k1_ears_1_row k1_ears_1_made k1_ears_1_fresh h_ears_1_tree_memoriesA h_ears_1_tree_memoriesB h_ears_1_tree_row h_ears_1_tree_next k1_ears_1_tree_memoriesA k1_ears_1_tree_memoriesB k1_ears_1_tree_row k1_ears_1_tree_next h_buffer_places_e k1_buffer_places_e cy c_buffer_sizeAt x1 p1_buffer_sizeAt p1_buffer_head c_numbers p1_numbers c_ears_0_lag c_ears_0_lagSum p1_ears_0_lag p1_ears_0_lagSum p1_ears_0_tree_memoriesA c_ears_0_tree_memoriesA p1_ears_0_tree_memoriesB c_ears_0_tree_memoriesB p1_ears_0_row c_ears_0_row c_ears_1_lag c_ears_1_lagSum p1_ears_1_lag p1_ears_1_lagSum p1_ears_1_tree_memoriesA c_ears_1_tree_memoriesA p1_ears_1_tree_memoriesB c_ears_1_tree_memoriesB p1_ears_1_row c_ears_1_row c_records p1_records F2 F3 F4 F5 F6 F7 c_buffer_places_whole_at F8 F9 c_buffer_places_came_at p1_buffer_places_number p1_buffer_places_sent p1_buffer_places_over p1_buffer_places_pieceBytes p1_buffer_places_whole_bytes p1_buffer_places_whole_size p1_buffer_places_whole_at p1_buffer_places_came_bytes p1_buffer_places_came_size p1_buffer_places_came_at) H1 := hP
  replace hD : va_D A (w_X6_become h0 h_numbers h_book h_buffer h_ears h_frame h_records k1 k1_numbers k1_book k1_buffer k1_ears k1_frame k1_records h_buffer_places k1_buffer_places h_ears_0 h_ears_1 k1_ears_0 k1_ears_1 h_ears_0_tree h_ears_0_row h_ears_0_made h_ears_0_fresh k1_ears_0_tree k1_ears_0_row k1_ears_0_made k1_ears_0_fresh h_ears_0_tree_memoriesA h_ears_0_tree_memoriesB h_ears_0_tree_row h_ears_0_tree_next k1_ears_0_tree_memoriesA k1_ears_0_tree_memoriesB k1_ears_0_tree_row k1_ears_0_tree_next h_ears_1_tree h_ears_1_row h_ears_1_made h_ears_1_fresh k1_ears_1_tree k1_ears_1_row k1_ears_1_made k1_ears_1_fresh h_ears_1_tree_memoriesA h_ears_1_tree_memoriesB h_ears_1_tree_row h_ears_1_tree_next k1_ears_1_tree_memoriesA k1_ears_1_tree_memoriesB k1_ears_1_tree_row k1_ears_1_tree_next h_buffer_places_e k1_buffer_places_e cy c_buffer_sizeAt x1 p1_buffer_sizeAt p1_buffer_head c_numbers p1_numbers c_ears_0_lag c_ears_0_lagSum p1_ears_0_lag p1_ears_0_lagSum p1_ears_0_tree_memoriesA c_ears_0_tree_memoriesA p1_ears_0_tree_memoriesB c_ears_0_tree_memoriesB p1_ears_0_row c_ears_0_row c_ears_1_lag c_ears_1_lagSum p1_ears_1_lag p1_ears_1_lagSum p1_ears_1_tree_memoriesA c_ears_1_tree_memoriesA p1_ears_1_tree_memoriesB c_ears_1_tree_memoriesB p1_ears_1_row c_ears_1_row c_records p1_records F2 F3 F4 F5 F6 F7 c_buffer_places_whole_at F8 F9 c_buffer_places_came_at p1_buffer_places_number p1_buffer_places_sent p1_buffer_places_over p1_buffer_places_pieceBytes p1_buffer_places_whole_bytes p1_buffer_places_whole_size p1_buffer_places_whole_at p1_buffer_places_came_bytes p1_buffer_places_came_size p1_buffer_places_came_at) := hD
  clear hPc hDc hFc hP1 hk1 hz1 hvm ht; clear t; clear H locs; obtain ⟨H, hH⟩ : ∃ H, H = H1 := ⟨_, rfl⟩; obtain ⟨locs, hlo⟩ : ∃ L, L = locs1 := ⟨_, rfl⟩; subst hH; subst hlo
  refine W.widen (k := 0) (n := 0) (Nat.le_refl 0) (Nat.le_refl 0) ?_
  refine lv_aload_n hx hb dX6_become_11 rfl (lv_at hl 0 rfl) ?_
  refine va_get (D := (dC, dI)) (ci := 6) (v := .ref h_ears) (C := RX6) (T := TX6) (N := 6) hx hb hts inX6 hown hK hP 0 rfl rfl 3 (by decide) (hts _ (List.mem_cons_of_mem _ mw_148)) (fun _ h9 => h9) rfl dX6_become_12 ?_
  refine lv_iconst (v := 0) hx hb dX6_become_15 (by decide) ?_
  refine xald0 hx hb hK hP 8 3 rfl rfl dX6_become_16 ?_
  refine lv_aload_n hx hb dX6_become_17 rfl (lv_at hl 1 rfl) ?_
  refine va_get (D := (dC, dI)) (ci := 6) (v := .ref k1_ears) (C := RX6) (T := TX6) (N := 6) hx hb hts inX6 hown hK hP 1 rfl rfl 3 (by decide) (hts _ (List.mem_cons_of_mem _ mw_148)) (fun _ h9 => h9) rfl dX6_become_18 ?_
  refine lv_iconst (v := 0) hx hb dX6_become_21 (by decide) ?_
  refine xald0 hx hb hK hP 9 3 rfl rfl dX6_become_22 ?_
  have hPc := pSub0 (Sc := (w_X3_become h_ears_0 h_ears_0_tree h_ears_0_row h_ears_0_made h_ears_0_fresh k1_ears_0 k1_ears_0_tree k1_ears_0_row k1_ears_0_made k1_ears_0_fresh h_ears_0_tree_memoriesA h_ears_0_tree_memoriesB h_ears_0_tree_row h_ears_0_tree_next k1_ears_0_tree_memoriesA k1_ears_0_tree_memoriesB k1_ears_0_tree_row k1_ears_0_tree_next cy c_ears_0_lag c_ears_0_lagSum p1_ears_0_lag p1_ears_0_lagSum p1_ears_0_tree_memoriesA c_ears_0_tree_memoriesA p1_ears_0_tree_memoriesB c_ears_0_tree_memoriesB p1_ears_0_row c_ears_0_row)) hP [10, 11, 12, 13, 14, 15, 16, 17, 18, 19] rfl
  have hDc := dSub0 (Sc := (w_X3_become h_ears_0 h_ears_0_tree h_ears_0_row h_ears_0_made h_ears_0_fresh k1_ears_0 k1_ears_0_tree k1_ears_0_row k1_ears_0_made k1_ears_0_fresh h_ears_0_tree_memoriesA h_ears_0_tree_memoriesB h_ears_0_tree_row h_ears_0_tree_next k1_ears_0_tree_memoriesA k1_ears_0_tree_memoriesB k1_ears_0_tree_row k1_ears_0_tree_next cy c_ears_0_lag c_ears_0_lagSum p1_ears_0_lag p1_ears_0_lagSum p1_ears_0_tree_memoriesA c_ears_0_tree_memoriesA p1_ears_0_tree_memoriesB c_ears_0_tree_memoriesB p1_ears_0_row c_ears_0_row)) hD [10, 11, 12, 13, 14, 15, 16, 17, 18, 19] (by decide) rfl
  have hFc := free0 (Sc := (w_X3_become h_ears_0 h_ears_0_tree h_ears_0_row h_ears_0_made h_ears_0_fresh k1_ears_0 k1_ears_0_tree k1_ears_0_row k1_ears_0_made k1_ears_0_fresh h_ears_0_tree_memoriesA h_ears_0_tree_memoriesB h_ears_0_tree_row h_ears_0_tree_next k1_ears_0_tree_memoriesA k1_ears_0_tree_memoriesB k1_ears_0_tree_row k1_ears_0_tree_next cy c_ears_0_lag c_ears_0_lagSum p1_ears_0_lag p1_ears_0_lagSum p1_ears_0_tree_memoriesA c_ears_0_tree_memoriesA p1_ears_0_tree_memoriesB c_ears_0_tree_memoriesB p1_ears_0_row c_ears_0_row)) hD hS hA [10, 11, 12, 13, 14, 15, 16, 17, 18, 19] rfl
  refine va_callv (va_runV (As := [.ref k1_ears_0]) (rest := []) ⟨hx, hb, hml, hown, hts⟩ (c_X3_become l dC dI cy h_ears_0 h_ears_0_tree h_ears_0_row h_ears_0_made h_ears_0_fresh k1_ears_0 k1_ears_0_tree k1_ears_0_row k1_ears_0_made k1_ears_0_fresh h_ears_0_tree_memoriesA h_ears_0_tree_memoriesB h_ears_0_tree_row h_ears_0_tree_next k1_ears_0_tree_memoriesA k1_ears_0_tree_memoriesB k1_ears_0_tree_row k1_ears_0_tree_next H.size c_ears_0_lag c_ears_0_lagSum p1_ears_0_lag p1_ears_0_lagSum p1_ears_0_tree_memoriesA c_ears_0_tree_memoriesA p1_ears_0_tree_memoriesB c_ears_0_tree_memoriesB p1_ears_0_row c_ears_0_row _ hw) (cwV 1 hts (goodV mw_879 mw_876 mw_877 mw_878 mw_147) rfl rfl rfl (by decide +kernel) ⟨Nat.le_of_ble_eq_true rfl, Nat.le_of_ble_eq_true rfl⟩) ⟨PX_blind, va_recv hK hPc (ci := 3) (q0 := 0) rfl rfl, PX_pre hPc hK hDc hG⟩ rfl rfl hl.1 rfl (lv_room (Nat.le_of_ble_eq_true rfl)) dX6_become_23 ⟨Nat.zero_le _, Nat.zero_le _⟩) hS (fun q _ h => hFc q h) hFc ?_; clear hw hS; intro u t H1 locs1 ht hvm hw hB hz1 hk1 hS
  obtain ⟨f10, f11, f12⟩ := u
  obtain ⟨hP1, -, -⟩ := hB
  rw [ht] at hP1
  replace hP := jC hP hD [10, 11, 12, 13, 14, 15, 16, 17, 18, 19] [0, 1, 2, 3, 4, 5, 6, 7, 8, 9, 20, 21, 22, 23, 24, 25, 26, 27, 28, 29, 30, 31] rfl hk1 hP1 (s_X6_become h0 h_numbers h_book h_buffer h_ears h_frame h_records k1 k1_numbers k1_book k1_buffer k1_ears k1_frame k1_records h_buffer_places k1_buffer_places h_ears_0 h_ears_1 k1_ears_0 k1_ears_1 h_ears_0_tree h_ears_0_row h_ears_0_made h_ears_0_fresh k1_ears_0_tree k1_ears_0_row k1_ears_0_made k1_ears_0_fresh h_ears_0_tree_memoriesA h_ears_0_tree_memoriesB h_ears_0_tree_row h_ears_0_tree_next k1_ears_0_tree_memoriesA k1_ears_0_tree_memoriesB k1_ears_0_tree_row k1_ears_0_tree_next h_ears_1_tree h_ears_1_row h_ears_1_made h_ears_1_fresh k1_ears_1_tree k1_ears_1_row k1_ears_1_made k1_ears_1_fresh h_ears_1_tree_memoriesA h_ears_1_tree_memoriesB h_ears_1_tree_row h_ears_1_tree_next k1_ears_1_tree_memoriesA k1_ears_1_tree_memoriesB k1_ears_1_tree_row k1_ears_1_tree_next h_buffer_places_e k1_buffer_places_e cy c_buffer_sizeAt x1 p1_buffer_sizeAt p1_buffer_head c_numbers p1_numbers c_ears_0_lag c_ears_0_lagSum p1_ears_0_lag p1_ears_0_lagSum p1_ears_0_tree_memoriesA f10 p1_ears_0_tree_memoriesB f11 p1_ears_0_row f12 c_ears_1_lag c_ears_1_lagSum p1_ears_1_lag p1_ears_1_lagSum p1_ears_1_tree_memoriesA c_ears_1_tree_memoriesA p1_ears_1_tree_memoriesB c_ears_1_tree_memoriesB p1_ears_1_row c_ears_1_row c_records p1_records) rfl rfl rfl 32 rfl (by decide +kernel); clear hD; obtain ⟨hP, hD⟩ := hP
  replace hP : va_P (dC, dI) vwCl (w_X6_become h0 h_numbers h_book h_buffer h_ears h_frame h_records k1 k1_numbers k1_book k1_buffer k1_ears k1_frame k1_records h_buffer_places k1_buffer_places h_ears_0 h_ears_1 k1_ears_0 k1_ears_1 h_ears_0_tree h_ears_0_row h_ears_0_made h_ears_0_fresh k1_ears_0_tree k1_ears_0_row k1_ears_0_made k1_ears_0_fresh h_ears_0_tree_memoriesA h_ears_0_tree_memoriesB h_ears_0_tree_row h_ears_0_tree_next k1_ears_0_tree_memoriesA k1_ears_0_tree_memoriesB k1_ears_0_tree_row k1_ears_0_tree_next h_ears_1_tree h_ears_1_row h_ears_1_made h_ears_1_fresh k1_ears_1_tree k1_ears_1_row k1_ears_1_made k1_ears_1_fresh h_ears_1_tree_memoriesA h_ears_1_tree_memoriesB h_ears_1_tree_row h_ears_1_tree_next k1_ears_1_tree_memoriesA k1_ears_1_tree_memoriesB k1_ears_1_tree_row k1_ears_1_tree_next h_buffer_places_e k1_buffer_places_e cy c_buffer_sizeAt x1 p1_buffer_sizeAt p1_buffer_head c_numbers p1_numbers c_ears_0_lag c_ears_0_lagSum p1_ears_0_lag p1_ears_0_lagSum p1_ears_0_tree_memoriesA f10 p1_ears_0_tree_memoriesB f11 p1_ears_0_row f12 c_ears_1_lag c_ears_1_lagSum p1_ears_1_lag p1_ears_1_lagSum p1_ears_1_tree_memoriesA c_ears_1_tree_memoriesA p1_ears_1_tree_memoriesB c_ears_1_tree_memoriesB p1_ears_1_row c_ears_1_row c_records p1_records F2 F3 F4 F5 F6 F7 c_buffer_places_whole_at F8 F9 c_buffer_places_came_at p1_buffer_places_number p1_buffer_places_sent p1_buffer_places_over p1_buffer_places_pieceBytes p1_buffer_places_whole_bytes p1_buffer_places_whole_size p1_buffer_places_whole_at p1_buffer_places_came_bytes p1_buffer_places_came_size p1_buffer_places_came_at) H1 := hP
  replace hD : va_D A (w_X6_become h0 h_numbers h_book h_buffer h_ears h_frame h_records k1 k1_numbers k1_book k1_buffer k1_ears k1_frame k1_records h_buffer_places k1_buffer_places h_ears_0 h_ears_1 k1_ears_0 k1_ears_1 h_ears_0_tree h_ears_0_row h_ears_0_made h_ears_0_fresh k1_ears_0_tree k1_ears_0_row k1_ears_0_made k1_ears_0_fresh h_ears_0_tree_memoriesA h_ears_0_tree_memoriesB h_ears_0_tree_row h_ears_0_tree_next k1_ears_0_tree_memoriesA k1_ears_0_tree_memoriesB k1_ears_0_tree_row k1_ears_0_tree_next h_ears_1_tree h_ears_1_row h_ears_1_made h_ears_1_fresh k1_ears_1_tree k1_ears_1_row k1_ears_1_made k1_ears_1_fresh h_ears_1_tree_memoriesA h_ears_1_tree_memoriesB h_ears_1_tree_row h_ears_1_tree_next k1_ears_1_tree_memoriesA k1_ears_1_tree_memoriesB k1_ears_1_tree_row k1_ears_1_tree_next h_buffer_places_e k1_buffer_places_e cy c_buffer_sizeAt x1 p1_buffer_sizeAt p1_buffer_head c_numbers p1_numbers c_ears_0_lag c_ears_0_lagSum p1_ears_0_lag p1_ears_0_lagSum p1_ears_0_tree_memoriesA f10 p1_ears_0_tree_memoriesB f11 p1_ears_0_row f12 c_ears_1_lag c_ears_1_lagSum p1_ears_1_lag p1_ears_1_lagSum p1_ears_1_tree_memoriesA c_ears_1_tree_memoriesA p1_ears_1_tree_memoriesB c_ears_1_tree_memoriesB p1_ears_1_row c_ears_1_row c_records p1_records F2 F3 F4 F5 F6 F7 c_buffer_places_whole_at F8 F9 c_buffer_places_came_at p1_buffer_places_number p1_buffer_places_sent p1_buffer_places_over p1_buffer_places_pieceBytes p1_buffer_places_whole_bytes p1_buffer_places_whole_size p1_buffer_places_whole_at p1_buffer_places_came_bytes p1_buffer_places_came_size p1_buffer_places_came_at) := hD
  clear hPc hDc hFc hP1 hk1 hz1 hvm ht; clear t; clear H locs; obtain ⟨H, hH⟩ : ∃ H, H = H1 := ⟨_, rfl⟩; obtain ⟨locs, hlo⟩ : ∃ L, L = locs1 := ⟨_, rfl⟩; subst hH; subst hlo
  refine W.widen (k := 0) (n := 0) (Nat.le_refl 0) (Nat.le_refl 0) ?_
  refine lv_aload_n hx hb dX6_become_26 rfl (lv_at hl 0 rfl) ?_
  refine va_get (D := (dC, dI)) (ci := 6) (v := .ref h_ears) (C := RX6) (T := TX6) (N := 6) hx hb hts inX6 hown hK hP 0 rfl rfl 3 (by decide) (hts _ (List.mem_cons_of_mem _ mw_148)) (fun _ h9 => h9) rfl dX6_become_27 ?_
  refine lv_iconst (v := 1) hx hb dX6_become_30 (by decide) ?_
  refine xald1 hx hb hK hP 8 3 rfl rfl dX6_become_31 ?_
  refine lv_aload_n hx hb dX6_become_32 rfl (lv_at hl 1 rfl) ?_
  refine va_get (D := (dC, dI)) (ci := 6) (v := .ref k1_ears) (C := RX6) (T := TX6) (N := 6) hx hb hts inX6 hown hK hP 1 rfl rfl 3 (by decide) (hts _ (List.mem_cons_of_mem _ mw_148)) (fun _ h9 => h9) rfl dX6_become_33 ?_
  refine lv_iconst (v := 1) hx hb dX6_become_36 (by decide) ?_
  refine xald1 hx hb hK hP 9 3 rfl rfl dX6_become_37 ?_
  have hPc := pSub0 (Sc := (w_X3_become h_ears_1 h_ears_1_tree h_ears_1_row h_ears_1_made h_ears_1_fresh k1_ears_1 k1_ears_1_tree k1_ears_1_row k1_ears_1_made k1_ears_1_fresh h_ears_1_tree_memoriesA h_ears_1_tree_memoriesB h_ears_1_tree_row h_ears_1_tree_next k1_ears_1_tree_memoriesA k1_ears_1_tree_memoriesB k1_ears_1_tree_row k1_ears_1_tree_next cy c_ears_1_lag c_ears_1_lagSum p1_ears_1_lag p1_ears_1_lagSum p1_ears_1_tree_memoriesA c_ears_1_tree_memoriesA p1_ears_1_tree_memoriesB c_ears_1_tree_memoriesB p1_ears_1_row c_ears_1_row)) hP [20, 21, 22, 23, 24, 25, 26, 27, 28, 29] rfl
  have hDc := dSub0 (Sc := (w_X3_become h_ears_1 h_ears_1_tree h_ears_1_row h_ears_1_made h_ears_1_fresh k1_ears_1 k1_ears_1_tree k1_ears_1_row k1_ears_1_made k1_ears_1_fresh h_ears_1_tree_memoriesA h_ears_1_tree_memoriesB h_ears_1_tree_row h_ears_1_tree_next k1_ears_1_tree_memoriesA k1_ears_1_tree_memoriesB k1_ears_1_tree_row k1_ears_1_tree_next cy c_ears_1_lag c_ears_1_lagSum p1_ears_1_lag p1_ears_1_lagSum p1_ears_1_tree_memoriesA c_ears_1_tree_memoriesA p1_ears_1_tree_memoriesB c_ears_1_tree_memoriesB p1_ears_1_row c_ears_1_row)) hD [20, 21, 22, 23, 24, 25, 26, 27, 28, 29] (by decide) rfl
  have hFc := free0 (Sc := (w_X3_become h_ears_1 h_ears_1_tree h_ears_1_row h_ears_1_made h_ears_1_fresh k1_ears_1 k1_ears_1_tree k1_ears_1_row k1_ears_1_made k1_ears_1_fresh h_ears_1_tree_memoriesA h_ears_1_tree_memoriesB h_ears_1_tree_row h_ears_1_tree_next k1_ears_1_tree_memoriesA k1_ears_1_tree_memoriesB k1_ears_1_tree_row k1_ears_1_tree_next cy c_ears_1_lag c_ears_1_lagSum p1_ears_1_lag p1_ears_1_lagSum p1_ears_1_tree_memoriesA c_ears_1_tree_memoriesA p1_ears_1_tree_memoriesB c_ears_1_tree_memoriesB p1_ears_1_row c_ears_1_row)) hD hS hA [20, 21, 22, 23, 24, 25, 26, 27, 28, 29] rfl
  refine va_callv (va_runV (As := [.ref k1_ears_1]) (rest := []) ⟨hx, hb, hml, hown, hts⟩ (c_X3_become l dC dI cy h_ears_1 h_ears_1_tree h_ears_1_row h_ears_1_made h_ears_1_fresh k1_ears_1 k1_ears_1_tree k1_ears_1_row k1_ears_1_made k1_ears_1_fresh h_ears_1_tree_memoriesA h_ears_1_tree_memoriesB h_ears_1_tree_row h_ears_1_tree_next k1_ears_1_tree_memoriesA k1_ears_1_tree_memoriesB k1_ears_1_tree_row k1_ears_1_tree_next H.size c_ears_1_lag c_ears_1_lagSum p1_ears_1_lag p1_ears_1_lagSum p1_ears_1_tree_memoriesA c_ears_1_tree_memoriesA p1_ears_1_tree_memoriesB c_ears_1_tree_memoriesB p1_ears_1_row c_ears_1_row _ hw) (cwV 1 hts (goodV mw_879 mw_876 mw_877 mw_878 mw_147) rfl rfl rfl (by decide +kernel) ⟨Nat.le_of_ble_eq_true rfl, Nat.le_of_ble_eq_true rfl⟩) ⟨PX_blind, va_recv hK hPc (ci := 3) (q0 := 0) rfl rfl, PX_pre hPc hK hDc hG⟩ rfl rfl hl.1 rfl (lv_room (Nat.le_of_ble_eq_true rfl)) dX6_become_38 ⟨Nat.zero_le _, Nat.zero_le _⟩) hS (fun q _ h => hFc q h) hFc ?_; clear hw hS; intro u t H1 locs1 ht hvm hw hB hz1 hk1 hS
  obtain ⟨f13, f14, f15⟩ := u
  obtain ⟨hP1, -, -⟩ := hB
  rw [ht] at hP1
  replace hP := jC hP hD [20, 21, 22, 23, 24, 25, 26, 27, 28, 29] [0, 1, 2, 3, 4, 5, 6, 7, 8, 9, 10, 11, 12, 13, 14, 15, 16, 17, 18, 19, 30, 31] rfl hk1 hP1 (s_X6_become h0 h_numbers h_book h_buffer h_ears h_frame h_records k1 k1_numbers k1_book k1_buffer k1_ears k1_frame k1_records h_buffer_places k1_buffer_places h_ears_0 h_ears_1 k1_ears_0 k1_ears_1 h_ears_0_tree h_ears_0_row h_ears_0_made h_ears_0_fresh k1_ears_0_tree k1_ears_0_row k1_ears_0_made k1_ears_0_fresh h_ears_0_tree_memoriesA h_ears_0_tree_memoriesB h_ears_0_tree_row h_ears_0_tree_next k1_ears_0_tree_memoriesA k1_ears_0_tree_memoriesB k1_ears_0_tree_row k1_ears_0_tree_next h_ears_1_tree h_ears_1_row h_ears_1_made h_ears_1_fresh k1_ears_1_tree k1_ears_1_row k1_ears_1_made k1_ears_1_fresh h_ears_1_tree_memoriesA h_ears_1_tree_memoriesB h_ears_1_tree_row h_ears_1_tree_next k1_ears_1_tree_memoriesA k1_ears_1_tree_memoriesB k1_ears_1_tree_row k1_ears_1_tree_next h_buffer_places_e k1_buffer_places_e cy c_buffer_sizeAt x1 p1_buffer_sizeAt p1_buffer_head c_numbers p1_numbers c_ears_0_lag c_ears_0_lagSum p1_ears_0_lag p1_ears_0_lagSum p1_ears_0_tree_memoriesA f10 p1_ears_0_tree_memoriesB f11 p1_ears_0_row f12 c_ears_1_lag c_ears_1_lagSum p1_ears_1_lag p1_ears_1_lagSum p1_ears_1_tree_memoriesA f13 p1_ears_1_tree_memoriesB f14 p1_ears_1_row f15 c_records p1_records) rfl rfl rfl 32 rfl (by decide +kernel); clear hD; obtain ⟨hP, hD⟩ := hP
  replace hP : va_P (dC, dI) vwCl (w_X6_become h0 h_numbers h_book h_buffer h_ears h_frame h_records k1 k1_numbers k1_book k1_buffer k1_ears k1_frame k1_records h_buffer_places k1_buffer_places h_ears_0 h_ears_1 k1_ears_0 k1_ears_1 h_ears_0_tree h_ears_0_row h_ears_0_made h_ears_0_fresh k1_ears_0_tree k1_ears_0_row k1_ears_0_made k1_ears_0_fresh h_ears_0_tree_memoriesA h_ears_0_tree_memoriesB h_ears_0_tree_row h_ears_0_tree_next k1_ears_0_tree_memoriesA k1_ears_0_tree_memoriesB k1_ears_0_tree_row k1_ears_0_tree_next h_ears_1_tree h_ears_1_row h_ears_1_made h_ears_1_fresh k1_ears_1_tree k1_ears_1_row k1_ears_1_made k1_ears_1_fresh h_ears_1_tree_memoriesA h_ears_1_tree_memoriesB h_ears_1_tree_row h_ears_1_tree_next k1_ears_1_tree_memoriesA k1_ears_1_tree_memoriesB k1_ears_1_tree_row k1_ears_1_tree_next h_buffer_places_e k1_buffer_places_e cy c_buffer_sizeAt x1 p1_buffer_sizeAt p1_buffer_head c_numbers p1_numbers c_ears_0_lag c_ears_0_lagSum p1_ears_0_lag p1_ears_0_lagSum p1_ears_0_tree_memoriesA f10 p1_ears_0_tree_memoriesB f11 p1_ears_0_row f12 c_ears_1_lag c_ears_1_lagSum p1_ears_1_lag p1_ears_1_lagSum p1_ears_1_tree_memoriesA f13 p1_ears_1_tree_memoriesB f14 p1_ears_1_row f15 c_records p1_records F2 F3 F4 F5 F6 F7 c_buffer_places_whole_at F8 F9 c_buffer_places_came_at p1_buffer_places_number p1_buffer_places_sent p1_buffer_places_over p1_buffer_places_pieceBytes p1_buffer_places_whole_bytes p1_buffer_places_whole_size p1_buffer_places_whole_at p1_buffer_places_came_bytes p1_buffer_places_came_size p1_buffer_places_came_at) H1 := hP
  replace hD : va_D A (w_X6_become h0 h_numbers h_book h_buffer h_ears h_frame h_records k1 k1_numbers k1_book k1_buffer k1_ears k1_frame k1_records h_buffer_places k1_buffer_places h_ears_0 h_ears_1 k1_ears_0 k1_ears_1 h_ears_0_tree h_ears_0_row h_ears_0_made h_ears_0_fresh k1_ears_0_tree k1_ears_0_row k1_ears_0_made k1_ears_0_fresh h_ears_0_tree_memoriesA h_ears_0_tree_memoriesB h_ears_0_tree_row h_ears_0_tree_next k1_ears_0_tree_memoriesA k1_ears_0_tree_memoriesB k1_ears_0_tree_row k1_ears_0_tree_next h_ears_1_tree h_ears_1_row h_ears_1_made h_ears_1_fresh k1_ears_1_tree k1_ears_1_row k1_ears_1_made k1_ears_1_fresh h_ears_1_tree_memoriesA h_ears_1_tree_memoriesB h_ears_1_tree_row h_ears_1_tree_next k1_ears_1_tree_memoriesA k1_ears_1_tree_memoriesB k1_ears_1_tree_row k1_ears_1_tree_next h_buffer_places_e k1_buffer_places_e cy c_buffer_sizeAt x1 p1_buffer_sizeAt p1_buffer_head c_numbers p1_numbers c_ears_0_lag c_ears_0_lagSum p1_ears_0_lag p1_ears_0_lagSum p1_ears_0_tree_memoriesA f10 p1_ears_0_tree_memoriesB f11 p1_ears_0_row f12 c_ears_1_lag c_ears_1_lagSum p1_ears_1_lag p1_ears_1_lagSum p1_ears_1_tree_memoriesA f13 p1_ears_1_tree_memoriesB f14 p1_ears_1_row f15 c_records p1_records F2 F3 F4 F5 F6 F7 c_buffer_places_whole_at F8 F9 c_buffer_places_came_at p1_buffer_places_number p1_buffer_places_sent p1_buffer_places_over p1_buffer_places_pieceBytes p1_buffer_places_whole_bytes p1_buffer_places_whole_size p1_buffer_places_whole_at p1_buffer_places_came_bytes p1_buffer_places_came_size p1_buffer_places_came_at) := hD
  clear hPc hDc hFc hP1 hk1 hz1 hvm ht; clear t; clear H locs; obtain ⟨H, hH⟩ : ∃ H, H = H1 := ⟨_, rfl⟩; obtain ⟨locs, hlo⟩ : ∃ L, L = locs1 := ⟨_, rfl⟩; subst hH; subst hlo
  refine W.widen (k := 0) (n := 0) (Nat.le_refl 0) (Nat.le_refl 0) ?_
  refine lv_aload_n hx hb dX6_become_41 rfl (lv_at hl 1 rfl) ?_
  refine va_get (D := (dC, dI)) (ci := 6) (v := .ref k1_records) (C := RX6) (T := TX6) (N := 6) hx hb hts inX6 hown hK hP 1 rfl rfl 5 (by decide) (hts _ (List.mem_cons_of_mem _ mw_151)) (fun _ h9 => h9) rfl dX6_become_42 ?_
  refine lv_iconst (v := 0) hx hb dX6_become_45 (by decide) ?_
  refine lv_aload_n hx hb dX6_become_46 rfl (lv_at hl 0 rfl) ?_
  refine va_get (D := (dC, dI)) (ci := 6) (v := .ref h_records) (C := RX6) (T := TX6) (N := 6) hx hb hts inX6 hown hK hP 0 rfl rfl 5 (by decide) (hts _ (List.mem_cons_of_mem _ mw_151)) (fun _ h9 => h9) rfl dX6_become_47 ?_
  refine lv_iconst (v := 0) hx hb dX6_become_50 (by decide) ?_
  refine lv_aload_n hx hb dX6_become_51 rfl (lv_at hl 0 rfl) ?_
  refine va_get (D := (dC, dI)) (ci := 6) (v := .ref h_records) (C := RX6) (T := TX6) (N := 6) hx hb hts inX6 hown hK hP 0 rfl rfl 5 (by decide) (hts _ (List.mem_cons_of_mem _ mw_151)) (fun _ h9 => h9) rfl dX6_become_52 ?_
  refine va_alen (v := (112 : Int32)) hx hb hK hP 30 0 rfl rfl rfl dX6_become_55 ?_
  refine xcopyi (k1 := 0) (k2 := 0) (k3 := 112) hx hb (by rw [hml]; exact hl.1.symm) hown (hts _ (List.mem_cons_of_mem _ mw_874)) (hts _ (List.mem_cons_of_mem _ mw_59)) (hts _ (List.mem_cons_of_mem _ mw_60)) (hts _ (List.mem_cons_of_mem _ mw_61)) hK hP hD hS 31 30 0 0 rfl rfl rfl rfl rfl (by decide) (by decide) (by decide) (by decide) (by decide) (fun _ _ => rfl) (Nat.le_of_ble_eq_true rfl) (Nat.le_of_ble_eq_true rfl) (by decide) (by decide) (by decide) dX6_become_56 ?_; clear hP hD hS; clear H locs; intro f16 e_f16 H locs hP hD hS
  replace hw := hw f16 e_f16
  clear e_f16
  replace hP : va_P (dC, dI) vwCl (w_X6_become h0 h_numbers h_book h_buffer h_ears h_frame h_records k1 k1_numbers k1_book k1_buffer k1_ears k1_frame k1_records h_buffer_places k1_buffer_places h_ears_0 h_ears_1 k1_ears_0 k1_ears_1 h_ears_0_tree h_ears_0_row h_ears_0_made h_ears_0_fresh k1_ears_0_tree k1_ears_0_row k1_ears_0_made k1_ears_0_fresh h_ears_0_tree_memoriesA h_ears_0_tree_memoriesB h_ears_0_tree_row h_ears_0_tree_next k1_ears_0_tree_memoriesA k1_ears_0_tree_memoriesB k1_ears_0_tree_row k1_ears_0_tree_next h_ears_1_tree h_ears_1_row h_ears_1_made h_ears_1_fresh k1_ears_1_tree k1_ears_1_row k1_ears_1_made k1_ears_1_fresh h_ears_1_tree_memoriesA h_ears_1_tree_memoriesB h_ears_1_tree_row h_ears_1_tree_next k1_ears_1_tree_memoriesA k1_ears_1_tree_memoriesB k1_ears_1_tree_row k1_ears_1_tree_next h_buffer_places_e k1_buffer_places_e cy c_buffer_sizeAt x1 p1_buffer_sizeAt p1_buffer_head c_numbers p1_numbers c_ears_0_lag c_ears_0_lagSum p1_ears_0_lag p1_ears_0_lagSum p1_ears_0_tree_memoriesA f10 p1_ears_0_tree_memoriesB f11 p1_ears_0_row f12 c_ears_1_lag c_ears_1_lagSum p1_ears_1_lag p1_ears_1_lagSum p1_ears_1_tree_memoriesA f13 p1_ears_1_tree_memoriesB f14 p1_ears_1_row f15 f16 p1_records F2 F3 F4 F5 F6 F7 c_buffer_places_whole_at F8 F9 c_buffer_places_came_at p1_buffer_places_number p1_buffer_places_sent p1_buffer_places_over p1_buffer_places_pieceBytes p1_buffer_places_whole_bytes p1_buffer_places_whole_size p1_buffer_places_whole_at p1_buffer_places_came_bytes p1_buffer_places_came_size p1_buffer_places_came_at) H := hP
  replace hD : va_D A (w_X6_become h0 h_numbers h_book h_buffer h_ears h_frame h_records k1 k1_numbers k1_book k1_buffer k1_ears k1_frame k1_records h_buffer_places k1_buffer_places h_ears_0 h_ears_1 k1_ears_0 k1_ears_1 h_ears_0_tree h_ears_0_row h_ears_0_made h_ears_0_fresh k1_ears_0_tree k1_ears_0_row k1_ears_0_made k1_ears_0_fresh h_ears_0_tree_memoriesA h_ears_0_tree_memoriesB h_ears_0_tree_row h_ears_0_tree_next k1_ears_0_tree_memoriesA k1_ears_0_tree_memoriesB k1_ears_0_tree_row k1_ears_0_tree_next h_ears_1_tree h_ears_1_row h_ears_1_made h_ears_1_fresh k1_ears_1_tree k1_ears_1_row k1_ears_1_made k1_ears_1_fresh h_ears_1_tree_memoriesA h_ears_1_tree_memoriesB h_ears_1_tree_row h_ears_1_tree_next k1_ears_1_tree_memoriesA k1_ears_1_tree_memoriesB k1_ears_1_tree_row k1_ears_1_tree_next h_buffer_places_e k1_buffer_places_e cy c_buffer_sizeAt x1 p1_buffer_sizeAt p1_buffer_head c_numbers p1_numbers c_ears_0_lag c_ears_0_lagSum p1_ears_0_lag p1_ears_0_lagSum p1_ears_0_tree_memoriesA f10 p1_ears_0_tree_memoriesB f11 p1_ears_0_row f12 c_ears_1_lag c_ears_1_lagSum p1_ears_1_lag p1_ears_1_lagSum p1_ears_1_tree_memoriesA f13 p1_ears_1_tree_memoriesB f14 p1_ears_1_row f15 f16 p1_records F2 F3 F4 F5 F6 F7 c_buffer_places_whole_at F8 F9 c_buffer_places_came_at p1_buffer_places_number p1_buffer_places_sent p1_buffer_places_over p1_buffer_places_pieceBytes p1_buffer_places_whole_bytes p1_buffer_places_whole_size p1_buffer_places_whole_at p1_buffer_places_came_bytes p1_buffer_places_came_size p1_buffer_places_came_at) := hD
  subst hQe
  exact W.vret hx hb hr (fun t ht hW => ⟨⟨(x1, f10, f11, f12, f13, f14, f15, f16, F2, F3, F4, F5, F6, F7, F8, F9), rfl, hw, by rw [ht]; exact hP, va_K.moved hW.alike hK, hD⟩, hS.F ht⟩) hS.2.2 dX6_become_59
set_option maxHeartbeats 4000000 in
set_option maxRecDepth 100000 in
theorem c_X6_fade (l : Launch) (dC : Nat → ClassId) (dI : Nat → Nat → Nat) (cy : Nat → ClassId) (h0 h_numbers h_book h_buffer h_ears h_frame h_records : Nat) (sz : Nat) (c_numbers : Nat → Int32) (post : Int32 → Prop) (hw : wp_X6_fade c_numbers post) : Met l yX6_fade wsX6_fade ({ frames := 1, cells := 0, slots := 0, locals := 30 }) (PX dC dI cy [.ref h0] sz (w_X6_fade h0 h_numbers h_book h_buffer h_ears h_frame h_records cy c_numbers)) (va_Qi (fun (r : Int32) (u : Unit) => post r) (QX dC dI cy (va_A (w_X6_fade h0 h_numbers h_book h_buffer h_ears h_frame h_records cy c_numbers) sz) (fun (u : Unit) => w_X6_fade h0 h_numbers h_book h_buffer h_ears h_frame h_records cy c_numbers)) (va_A (w_X6_fade h0 h_numbers h_book h_buffer h_ears h_frame h_records cy c_numbers) sz)) 0 0 (va_A (w_X6_fade h0 h_numbers h_book h_buffer h_ears h_frame h_records cy c_numbers) sz) := by
  refine Met.ofW (cc := cX6_fade) (maxL := 1) (ret := (some .int)) (by decide) rfl ?_
  intro p e s m args below meth c s₁ B hml hv
  obtain ⟨rfl, hsz, hP, hK, hD0, hG⟩ := hv
  have hx := B.exec
  have hb := B.bytes
  have hr := B.returns
  have hts := atoms_spec (ws := wsX6_fade) B.pre
  have hown : s.vm.findClass RX6 = some m.cls := findClass_of_methodNamed B.named
  have hlocks := B.notSynchronized
  subst hsz
  have hD := hD0.self (sz := s.heap.size)
  generalize hAe : va_A (w_X6_fade h0 h_numbers h_book h_buffer h_ears h_frame h_records cy c_numbers) s.heap.size = A at hD ⊢
  have hA : ∀ q : Nat, s.heap.size ≤ q → A q := fun q h => by rw [← hAe]; exact Or.inr h
  have hS : va_S A s.heap s.heap [] := va_S.rf
  have hl := lv_entry ([.ref h0]) (n := 1) (Nat.le_of_ble_eq_true rfl)
  rw [lg_entry_eq]
  generalize (lg_sl ([.ref h0]) ++ List.replicate (1 - (lg_sl ([.ref h0])).length) Slot.unset).toArray = ls at hl ⊢
  replace hl : lv_has ls 1 [(0, .ref h0)] := hl
  have inX6 : ∀ w ∈ u_ws RX6 TX6 6, w ∈ wsX6_fade := fun w h => List.mem_cons_of_mem _ (inlX6 w h)
  clear hAe hD0 B
  unfold wp_X6_fade at hw
  generalize hQe : MQ below _ _ s _ _ _ = Q0
  generalize ([.ref h0] : List Value).toArray = av at *
  obtain ⟨H, hH⟩ : ∃ H, H = s.heap := ⟨_, rfl⟩
  obtain ⟨locs, hlo⟩ : ∃ L : List Loc, L = [] := ⟨_, rfl⟩
  replace hP : va_P (dC, dI) vwCl (w_X6_fade h0 h_numbers h_book h_buffer h_ears h_frame h_records cy c_numbers) H := by rw [hH]; exact hP
  replace hS : va_S A s.heap H locs := by rw [hH, hlo]; exact hS
  suffices hgo : W p l e ({ frames := 1, cells := 0, slots := 0, locals := 30 }) s m av below meth c H locs 0 0 Q0 (F0 m 0 ls []) by rw [hH, hlo] at hgo; exact hgo
  clear hH hlo
  refine lv_iconst (v := 0) hx hb dX6_fade_0 (by decide) ?_
  refine lv_bipush (v := 8) hx hb dX6_fade_1 (by decide) ?_
  refine lv_aload_n hx hb dX6_fade_3 rfl (lv_at hl 0 rfl) ?_
  refine va_get (D := (dC, dI)) (ci := 6) (v := .ref h_numbers) (C := RX6) (T := TX6) (N := 6) hx hb hts inX6 hown hK hP 0 rfl rfl 0 (by decide) (hts _ (List.mem_cons_of_mem _ mw_152)) (fun _ h9 => h9) rfl dX6_fade_4 ?_
  refine lv_bipush (v := 15) hx hb dX6_fade_7 (by decide) ?_
  refine xiald (k := 15) hx hb hK hP 1 0 rfl rfl (vpL 15 54 rfl) (by decide) dX6_fade_9 ?_
  refine lv_isub hx hb dX6_fade_10 ?_
  refine va_mmax hx hb (by rw [hml]; exact hl.1.symm) hown (hts _ (List.mem_cons_of_mem _ mw_502)) (hts _ (List.mem_cons_of_mem _ mw_75)) (hts _ (List.mem_cons_of_mem _ mw_76)) (hts _ (List.mem_cons_of_mem _ mw_77)) (Nat.le_of_ble_eq_true rfl) (Nat.le_of_ble_eq_true rfl) (Nat.zero_le _) (Nat.zero_le _) dX6_fade_11 ?_
  refine lv_topi (fun x2 e_x2 => ?_)
  replace hw := hw x2 e_x2
  clear e_x2
  subst hQe
  exact W.iret (v := x2) hx hb hr (fun t ht hW => ⟨⟨x2, (), rfl, hw, by rw [ht]; exact hP, va_K.moved hW.alike hK, hD⟩, hS.F ht⟩) hS.2.2 dX6_fade_14
set_option maxHeartbeats 4000000 in
set_option maxRecDepth 100000 in
theorem c_X6_toldFrames (l : Launch) (dC : Nat → ClassId) (dI : Nat → Nat → Nat) (cy : Nat → ClassId) (h0 h_numbers h_book h_buffer h_ears h_frame h_records : Nat) (sz : Nat) (c_numbers : Nat → Int32) (post : Int32 → Prop) (hw : wp_X6_toldFrames c_numbers post) : Met l yX6_toldFrames wsX6_toldFrames ({ frames := 1, cells := 0, slots := 0, locals := 30 }) (PX dC dI cy [.ref h0] sz (w_X6_toldFrames h0 h_numbers h_book h_buffer h_ears h_frame h_records cy c_numbers)) (va_Qi (fun (r : Int32) (u : Unit) => post r) (QX dC dI cy (va_A (w_X6_toldFrames h0 h_numbers h_book h_buffer h_ears h_frame h_records cy c_numbers) sz) (fun (u : Unit) => w_X6_toldFrames h0 h_numbers h_book h_buffer h_ears h_frame h_records cy c_numbers)) (va_A (w_X6_toldFrames h0 h_numbers h_book h_buffer h_ears h_frame h_records cy c_numbers) sz)) 0 0 (va_A (w_X6_toldFrames h0 h_numbers h_book h_buffer h_ears h_frame h_records cy c_numbers) sz) := by
  refine Met.ofW (cc := cX6_toldFrames) (maxL := 1) (ret := (some .int)) (by decide) rfl ?_
  intro p e s m args below meth c s₁ B hml hv
  obtain ⟨rfl, hsz, hP, hK, hD0, hG⟩ := hv
  have hx := B.exec
  have hb := B.bytes
  have hr := B.returns
  have hts := atoms_spec (ws := wsX6_toldFrames) B.pre
  have hown : s.vm.findClass RX6 = some m.cls := findClass_of_methodNamed B.named
  have hlocks := B.notSynchronized
  subst hsz
  have hD := hD0.self (sz := s.heap.size)
  generalize hAe : va_A (w_X6_toldFrames h0 h_numbers h_book h_buffer h_ears h_frame h_records cy c_numbers) s.heap.size = A at hD ⊢
  have hA : ∀ q : Nat, s.heap.size ≤ q → A q := fun q h => by rw [← hAe]; exact Or.inr h
  have hS : va_S A s.heap s.heap [] := va_S.rf
  have hl := lv_entry ([.ref h0]) (n := 1) (Nat.le_of_ble_eq_true rfl)
  rw [lg_entry_eq]
  generalize (lg_sl ([.ref h0]) ++ List.replicate (1 - (lg_sl ([.ref h0])).length) Slot.unset).toArray = ls at hl ⊢
  replace hl : lv_has ls 1 [(0, .ref h0)] := hl
  have inX6 : ∀ w ∈ u_ws RX6 TX6 6, w ∈ wsX6_toldFrames := fun w h => List.mem_cons_of_mem _ (inlX6 w h)
  clear hAe hD0 B
  unfold wp_X6_toldFrames at hw
  generalize hQe : MQ below _ _ s _ _ _ = Q0
  generalize ([.ref h0] : List Value).toArray = av at *
  obtain ⟨H, hH⟩ : ∃ H, H = s.heap := ⟨_, rfl⟩
  obtain ⟨locs, hlo⟩ : ∃ L : List Loc, L = [] := ⟨_, rfl⟩
  replace hP : va_P (dC, dI) vwCl (w_X6_toldFrames h0 h_numbers h_book h_buffer h_ears h_frame h_records cy c_numbers) H := by rw [hH]; exact hP
  replace hS : va_S A s.heap H locs := by rw [hH, hlo]; exact hS
  suffices hgo : W p l e ({ frames := 1, cells := 0, slots := 0, locals := 30 }) s m av below meth c H locs 0 0 Q0 (F0 m 0 ls []) by rw [hH, hlo] at hgo; exact hgo
  clear hH hlo
  refine lv_bipush (v := 16) hx hb dX6_toldFrames_0 (by decide) ?_
  refine lv_aload_n hx hb dX6_toldFrames_2 rfl (lv_at hl 0 rfl) ?_
  refine va_get (D := (dC, dI)) (ci := 6) (v := .ref h_numbers) (C := RX6) (T := TX6) (N := 6) hx hb hts inX6 hown hK hP 0 rfl rfl 0 (by decide) (hts _ (List.mem_cons_of_mem _ mw_152)) (fun _ h9 => h9) rfl dX6_toldFrames_3 ?_
  refine lv_bipush (v := 7) hx hb dX6_toldFrames_6 (by decide) ?_
  refine xiald (k := 7) hx hb hK hP 1 0 rfl rfl (vpL 7 54 rfl) (by decide) dX6_toldFrames_8 ?_
  refine va_mmin hx hb (by rw [hml]; exact hl.1.symm) hown (hts _ (List.mem_cons_of_mem _ mw_1165)) (hts _ (List.mem_cons_of_mem _ mw_345)) (hts _ (List.mem_cons_of_mem _ mw_76)) (hts _ (List.mem_cons_of_mem _ mw_346)) (Nat.le_of_ble_eq_true rfl) (Nat.le_of_ble_eq_true rfl) (Nat.zero_le _) (Nat.zero_le _) dX6_toldFrames_9 ?_
  refine lv_topi (fun x2 e_x2 => ?_)
  replace hw := hw x2 e_x2
  clear e_x2
  subst hQe
  exact W.iret (v := x2) hx hb hr (fun t ht hW => ⟨⟨x2, (), rfl, hw, by rw [ht]; exact hP, va_K.moved hW.alike hK, hD⟩, hS.F ht⟩) hS.2.2 dX6_toldFrames_12
set_option maxHeartbeats 4000000 in
set_option maxRecDepth 100000 in
theorem c_J9_floorMod_7cf53 (l : Launch) (dC : Nat → ClassId) (dI : Nat → Nat → Nat) (cy : Nat → ClassId) (sz : Nat) (v0 : Int32) (v1 : Int32) (post : Int32 → Prop) (hw : wp_J9_floorMod_7cf53 v0 v1 post) : Met l yJ9_floorMod_7cf53 wsJ9_floorMod_7cf53 ({ frames := 0, cells := 0, slots := 0, locals := 0 }) (PX dC dI cy [.int v0, .int v1] sz (w_J9_floorMod_7cf53 cy)) (va_Qi (fun (r : Int32) (u : Unit) => post r) (QX dC dI cy (va_A (w_J9_floorMod_7cf53 cy) sz) (fun (u : Unit) => w_J9_floorMod_7cf53 cy)) (va_A (w_J9_floorMod_7cf53 cy) sz)) 0 0 (va_A (w_J9_floorMod_7cf53 cy) sz) := by
  refine MetofWF (cc := cJ9_floorMod_7cf53) (maxL := 3) (ret := (some .int)) (by decide +kernel) rfl ?_
  intro p e s m args below meth c s₁ B hml hv
  obtain ⟨rfl, hsz, hP, hK, hD0, hG⟩ := hv
  have hx := B.exec
  have hb := B.bytes
  have hr := B.returns
  have hts := atoms_spec (ws := wsJ9_floorMod_7cf53) B.pre
  have hown : s.vm.findClass RJ9 = some m.cls := findClass_of_methodNamed B.named
  have hlocks := B.notSynchronized
  subst hsz
  have hD := hD0.self (sz := s.heap.size)
  generalize hAe : va_A (w_J9_floorMod_7cf53 cy) s.heap.size = A at hD ⊢
  have hA : ∀ q : Nat, s.heap.size ≤ q → A q := fun q h => by rw [← hAe]; exact Or.inr h
  have hS : va_S A s.heap s.heap [] := va_S.rf
  have hl := lv_entry ([.int v0, .int v1]) (n := 3) (Nat.le_of_ble_eq_true rfl)
  rw [lg_entry_eq]
  generalize (lg_sl ([.int v0, .int v1]) ++ List.replicate (3 - (lg_sl ([.int v0, .int v1])).length) Slot.unset).toArray = ls at hl ⊢
  replace hl : lv_has ls 3 [(0, .int v0), (1, .int v1)] := hl
  clear hAe hD0 B
  unfold wp_J9_floorMod_7cf53 at hw
  generalize hQe : MQ below _ _ s _ _ _ = Q0
  generalize ([.int v0, .int v1] : List Value).toArray = av at *
  obtain ⟨H, hH⟩ : ∃ H, H = s.heap := ⟨_, rfl⟩
  obtain ⟨locs, hlo⟩ : ∃ L : List Loc, L = [] := ⟨_, rfl⟩
  replace hP : va_P (dC, dI) vwCl (w_J9_floorMod_7cf53 cy) H := by rw [hH]; exact hP
  replace hS : va_S A s.heap H locs := by rw [hH, hlo]; exact hS
  suffices hgo : W p l e ({ frames := 0, cells := 0, slots := 0, locals := 0 }) s m av below meth c H locs 0 0 Q0 (F0 m 0 ls []) by rw [hH, hlo] at hgo; exact hgo
  clear hH hlo
  refine lv_iload_n hx hb dJ9_floorMod_7cf53_0 rfl (lv_at hl 0 rfl) ?_
  refine lv_iload_n hx hb dJ9_floorMod_7cf53_1 rfl (lv_at hl 1 rfl) ?_
  obtain ⟨h1, hw⟩ := hw
  refine lv_irem hx hb dJ9_floorMod_7cf53_2 h1 ?_
  refine lv_topi (fun x2 e_x2 => ?_)
  replace hw := hw x2 e_x2
  clear e_x2
  refine lv_istore_n (lv' := [(2, .int x2), (0, .int v0), (1, .int v1)]) hx hb dJ9_floorMod_7cf53_3 rfl hl (by decide) rfl ?_; clear hl; clear ls; intro ls hl
  refine lv_iload_n hx hb dJ9_floorMod_7cf53_4 rfl (lv_at hl 1 rfl) ?_
  refine lv_iload_n hx hb dJ9_floorMod_7cf53_5 rfl (lv_at hl 2 rfl) ?_
  refine lv_ixor hx hb dJ9_floorMod_7cf53_6 ?_
  refine lv_if_ge (tgt := 18) hx hb dJ9_floorMod_7cf53_7 (by decide) (fun c3 => ?_) (fun c3 => ?_)
  · replace hw := hw.1 c3
    refine lv_iload_n hx hb dJ9_floorMod_7cf53_18 rfl (lv_at hl 0 rfl) ?_
    subst hQe
    exact W.iret (v := x2) hx hb hr (fun t ht hW => ⟨⟨x2, (), rfl, hw, by rw [ht]; exact hP, va_K.moved hW.alike hK, hD⟩, hS.F ht⟩) hS.2.2 dJ9_floorMod_7cf53_19
  · replace hw := hw.2 c3
    refine lv_iload_n hx hb dJ9_floorMod_7cf53_10 rfl (lv_at hl 0 rfl) ?_
    refine lv_if_eq (tgt := 18) hx hb dJ9_floorMod_7cf53_11 (by decide) (fun c4 => ?_) (fun c4 => ?_)
    · replace hw := hw.1 c4
      refine lv_iload_n hx hb dJ9_floorMod_7cf53_18 rfl (lv_at hl 0 rfl) ?_
      subst hQe
      exact W.iret (v := x2) hx hb hr (fun t ht hW => ⟨⟨x2, (), rfl, hw, by rw [ht]; exact hP, va_K.moved hW.alike hK, hD⟩, hS.F ht⟩) hS.2.2 dJ9_floorMod_7cf53_19
    · replace hw := hw.2 c4
      refine lv_iload_n hx hb dJ9_floorMod_7cf53_14 rfl (lv_at hl 0 rfl) ?_
      refine lv_iload_n hx hb dJ9_floorMod_7cf53_15 rfl (lv_at hl 2 rfl) ?_
      refine lv_iadd hx hb dJ9_floorMod_7cf53_16 ?_
      subst hQe
      exact W.iret (v := x2 + v1) hx hb hr (fun t ht hW => ⟨⟨(x2 + v1), (), rfl, hw, by rw [ht]; exact hP, va_K.moved hW.alike hK, hD⟩, hS.F ht⟩) hS.2.2 dJ9_floorMod_7cf53_17
set_option maxHeartbeats 4000000 in
set_option maxRecDepth 100000 in
theorem c_X6_recordAt (l : Launch) (dC : Nat → ClassId) (dI : Nat → Nat → Nat) (cy : Nat → ClassId) (sz : Nat) (v0 : Int32) (post : Int32 → Prop) (hw : wp_X6_recordAt v0 post) : Met l yX6_recordAt wsX6_recordAt ({ frames := 1, cells := 0, slots := 0, locals := 22 }) (PX dC dI cy [.int v0] sz (w_X6_recordAt cy)) (va_Qi (fun (r : Int32) (u : Unit) => post r) (QX dC dI cy (va_A (w_X6_recordAt cy) sz) (fun (u : Unit) => w_X6_recordAt cy)) (va_A (w_X6_recordAt cy) sz)) 0 0 (va_A (w_X6_recordAt cy) sz) := by
  refine Met.ofW (cc := cX6_recordAt) (maxL := 1) (ret := (some .int)) (by decide) rfl ?_
  intro p e s m args below meth c s₁ B hml hv
  obtain ⟨rfl, hsz, hP, hK, hD0, hG⟩ := hv
  have hx := B.exec
  have hb := B.bytes
  have hr := B.returns
  have hts := atoms_spec (ws := wsX6_recordAt) B.pre
  have hown : s.vm.findClass RX6 = some m.cls := findClass_of_methodNamed B.named
  have hlocks := B.notSynchronized
  subst hsz
  have hD := hD0.self (sz := s.heap.size)
  generalize hAe : va_A (w_X6_recordAt cy) s.heap.size = A at hD ⊢
  have hA : ∀ q : Nat, s.heap.size ≤ q → A q := fun q h => by rw [← hAe]; exact Or.inr h
  have hS : va_S A s.heap s.heap [] := va_S.rf
  have hl := lv_entry ([.int v0]) (n := 1) (Nat.le_of_ble_eq_true rfl)
  rw [lg_entry_eq]
  generalize (lg_sl ([.int v0]) ++ List.replicate (1 - (lg_sl ([.int v0])).length) Slot.unset).toArray = ls at hl ⊢
  replace hl : lv_has ls 1 [(0, .int v0)] := hl
  clear hAe hD0 B
  unfold wp_X6_recordAt at hw
  generalize hQe : MQ below _ _ s _ _ _ = Q0
  generalize ([.int v0] : List Value).toArray = av at *
  obtain ⟨H, hH⟩ : ∃ H, H = s.heap := ⟨_, rfl⟩
  obtain ⟨locs, hlo⟩ : ∃ L : List Loc, L = [] := ⟨_, rfl⟩
  replace hP : va_P (dC, dI) vwCl (w_X6_recordAt cy) H := by rw [hH]; exact hP
  replace hS : va_S A s.heap H locs := by rw [hH, hlo]; exact hS
  suffices hgo : W p l e ({ frames := 1, cells := 0, slots := 0, locals := 22 }) s m av below meth c H locs 0 0 Q0 (F0 m 0 ls []) by rw [hH, hlo] at hgo; exact hgo
  clear hH hlo
  refine lv_iload_n hx hb dX6_recordAt_0 rfl (lv_at hl 0 rfl) ?_
  refine lv_bipush (v := 16) hx hb dX6_recordAt_1 (by decide) ?_
  have hPc := pSub (ws' := (w_J9_floorMod_7cf53 cy)) hP [] rfl
  have hDc := dSub (ws' := (w_J9_floorMod_7cf53 cy)) hD [] (by decide) rfl
  have hFc := va_free (wc := (w_J9_floorMod_7cf53 cy)) hD hS hA [] rfl
  refine va_calli (va_runS (As := [.int v0, .int (16 : Int32)]) (rest := []) ⟨hx, hb, hml, hown, hts⟩ (c_J9_floorMod_7cf53 l dC dI cy  H.size v0 (16 : Int32) _ hw) (va_cwS 2 hts (goodS mw_566 mw_563 mw_564 mw_565) rfl rfl rfl (by decide +kernel) ⟨Nat.le_of_ble_eq_true rfl, Nat.le_of_ble_eq_true rfl⟩) ⟨PX_blind, PX_pre hPc hK hDc hG⟩ rfl rfl hl.1 rfl (lv_room (Nat.le_of_ble_eq_true rfl)) dX6_recordAt_3 ⟨Nat.zero_le _, Nat.zero_le _⟩) hS (fun q _ h => hFc q h) hFc ?_; clear hw hS; intro r1 _ t H1 locs1 ht hvm hw hB hz1 hk1 hS
  obtain ⟨hP1, -, -⟩ := hB
  rw [ht] at hP1
  replace hP := jC0 hP hD [] [] rfl hk1 hP1 (w_X6_recordAt cy) rfl rfl rfl 0 rfl (by decide +kernel); clear hD; obtain ⟨hP, hD⟩ := hP
  replace hP : va_P (dC, dI) vwCl (w_X6_recordAt cy) H1 := hP
  replace hD : va_D A (w_X6_recordAt cy) := hD
  clear hPc hDc hFc hP1 hk1 hz1 hvm ht; clear t; clear H locs; obtain ⟨H, hH⟩ : ∃ H, H = H1 := ⟨_, rfl⟩; obtain ⟨locs, hlo⟩ : ∃ L, L = locs1 := ⟨_, rfl⟩; subst hH; subst hlo
  refine W.widen (k := 0) (n := 0) (Nat.le_refl 0) (Nat.le_refl 0) ?_
  refine lv_bipush (v := 7) hx hb dX6_recordAt_6 (by decide) ?_
  refine lv_imul hx hb dX6_recordAt_8 ?_
  subst hQe
  exact W.iret (v := r1 * (7 : Int32)) hx hb hr (fun t ht hW => ⟨⟨(r1 * (7 : Int32)), (), rfl, hw, by rw [ht]; exact hP, va_K.moved hW.alike hK, hD⟩, hS.F ht⟩) hS.2.2 dX6_recordAt_9
set_option maxHeartbeats 4000000 in
set_option maxRecDepth 100000 in
theorem c_X6_recordOf (l : Launch) (dC : Nat → ClassId) (dI : Nat → Nat → Nat) (cy : Nat → ClassId) (h0 h_numbers h_book h_buffer h_ears h_frame h_records : Nat) (sz : Nat) (v1 : Int32) (v2 : Int32) (c_numbers : Nat → Int32) (c_records : Nat → Int32) (post : Int32 → Prop) (hw : wp_X6_recordOf v1 v2 c_numbers c_records post) : Met l yX6_recordOf wsX6_recordOf ({ frames := 2, cells := 0, slots := 0, locals := 42 }) (PX dC dI cy [.ref h0, .int v1, .int v2] sz (w_X6_recordOf h0 h_numbers h_book h_buffer h_ears h_frame h_records cy c_numbers c_records)) (va_Qi (fun (r : Int32) (u : Unit) => post r) (QX dC dI cy (va_A (w_X6_recordOf h0 h_numbers h_book h_buffer h_ears h_frame h_records cy c_numbers c_records) sz) (fun (u : Unit) => w_X6_recordOf h0 h_numbers h_book h_buffer h_ears h_frame h_records cy c_numbers c_records)) (va_A (w_X6_recordOf h0 h_numbers h_book h_buffer h_ears h_frame h_records cy c_numbers c_records) sz)) 0 0 (va_A (w_X6_recordOf h0 h_numbers h_book h_buffer h_ears h_frame h_records cy c_numbers c_records) sz) := by
  refine Met.ofW (cc := cX6_recordOf) (maxL := 3) (ret := (some .int)) (by decide) rfl ?_
  intro p e s m args below meth c s₁ B hml hv
  obtain ⟨rfl, hsz, hP, hK, hD0, hG⟩ := hv
  have hx := B.exec
  have hb := B.bytes
  have hr := B.returns
  have hts := atoms_spec (ws := wsX6_recordOf) B.pre
  have hown : s.vm.findClass RX6 = some m.cls := findClass_of_methodNamed B.named
  have hlocks := B.notSynchronized
  subst hsz
  have hD := hD0.self (sz := s.heap.size)
  generalize hAe : va_A (w_X6_recordOf h0 h_numbers h_book h_buffer h_ears h_frame h_records cy c_numbers c_records) s.heap.size = A at hD ⊢
  have hA : ∀ q : Nat, s.heap.size ≤ q → A q := fun q h => by rw [← hAe]; exact Or.inr h
  have hS : va_S A s.heap s.heap [] := va_S.rf
  have hl := lv_entry ([.ref h0, .int v1, .int v2]) (n := 3) (Nat.le_of_ble_eq_true rfl)
  rw [lg_entry_eq]
  generalize (lg_sl ([.ref h0, .int v1, .int v2]) ++ List.replicate (3 - (lg_sl ([.ref h0, .int v1, .int v2])).length) Slot.unset).toArray = ls at hl ⊢
  replace hl : lv_has ls 3 [(0, .ref h0), (1, .int v1), (2, .int v2)] := hl
  have inX6 : ∀ w ∈ u_ws RX6 TX6 6, w ∈ wsX6_recordOf := fun w h => List.mem_cons_of_mem _ (inlX6 w h)
  clear hAe hD0 B
  unfold wp_X6_recordOf at hw
  generalize hQe : MQ below _ _ s _ _ _ = Q0
  generalize ([.ref h0, .int v1, .int v2] : List Value).toArray = av at *
  obtain ⟨H, hH⟩ : ∃ H, H = s.heap := ⟨_, rfl⟩
  obtain ⟨locs, hlo⟩ : ∃ L : List Loc, L = [] := ⟨_, rfl⟩
  replace hP : va_P (dC, dI) vwCl (w_X6_recordOf h0 h_numbers h_book h_buffer h_ears h_frame h_records cy c_numbers c_records) H := by rw [hH]; exact hP
  replace hS : va_S A s.heap H locs := by rw [hH, hlo]; exact hS
  suffices hgo : W p l e ({ frames := 2, cells := 0, slots := 0, locals := 42 }) s m av below meth c H locs 0 0 Q0 (F0 m 0 ls []) by rw [hH, hlo] at hgo; exact hgo
  clear hH hlo
  refine lv_aload_n hx hb dX6_recordOf_0 rfl (lv_at hl 0 rfl) ?_
  refine va_get (D := (dC, dI)) (ci := 6) (v := .ref h_records) (C := RX6) (T := TX6) (N := 6) hx hb hts inX6 hown hK hP 0 rfl rfl 5 (by decide) (hts _ (List.mem_cons_of_mem _ mw_151)) (fun _ h9 => h9) rfl dX6_recordOf_1 ?_
  refine lv_aload_n hx hb dX6_recordOf_4 rfl (lv_at hl 0 rfl) ?_
  refine va_get (D := (dC, dI)) (ci := 6) (v := .ref h_numbers) (C := RX6) (T := TX6) (N := 6) hx hb hts inX6 hown hK hP 0 rfl rfl 0 (by decide) (hts _ (List.mem_cons_of_mem _ mw_152)) (fun _ h9 => h9) rfl dX6_recordOf_5 ?_
  refine lv_bipush (v := 7) hx hb dX6_recordOf_8 (by decide) ?_
  refine xiald (k := 7) hx hb hK hP 1 0 rfl rfl (vpL 7 54 rfl) (by decide) dX6_recordOf_10 ?_
  refine lv_iconst (v := 1) hx hb dX6_recordOf_11 (by decide) ?_
  refine lv_isub hx hb dX6_recordOf_12 ?_
  refine lv_iload_n hx hb dX6_recordOf_13 rfl (lv_at hl 1 rfl) ?_
  refine lv_isub hx hb dX6_recordOf_14 ?_
  have hPc := pSub (ws' := (w_X6_recordAt cy)) hP [] rfl
  have hDc := dSub (ws' := (w_X6_recordAt cy)) hD [] (by decide) rfl
  have hFc := va_free (wc := (w_X6_recordAt cy)) hD hS hA [] rfl
  refine va_calli (va_runS (As := [.int (((c_numbers 7) - (1 : Int32)) - v1)]) (rest := [.ref h_records]) ⟨hx, hb, hml, hown, hts⟩ (c_X6_recordAt l dC dI cy  H.size (((c_numbers 7) - (1 : Int32)) - v1) _ hw) (va_cwS 1 hts (goodS mw_562 mw_560 mw_561 mw_56) rfl rfl rfl (by decide +kernel) ⟨Nat.le_of_ble_eq_true rfl, Nat.le_of_ble_eq_true rfl⟩) ⟨PX_blind, PX_pre hPc hK hDc hG⟩ rfl rfl hl.1 rfl (lv_room (Nat.le_of_ble_eq_true rfl)) dX6_recordOf_15 ⟨Nat.zero_le _, Nat.zero_le _⟩) hS (fun q _ h => hFc q h) hFc ?_; clear hw hS; intro r2 _ t H1 locs1 ht hvm hw hB hz1 hk1 hS
  obtain ⟨hP1, -, -⟩ := hB
  rw [ht] at hP1
  replace hP := jC0 hP hD [] [0, 1, 2] rfl hk1 hP1 (w_X6_recordOf h0 h_numbers h_book h_buffer h_ears h_frame h_records cy c_numbers c_records) rfl rfl rfl 3 rfl (by decide +kernel); clear hD; obtain ⟨hP, hD⟩ := hP
  replace hP : va_P (dC, dI) vwCl (w_X6_recordOf h0 h_numbers h_book h_buffer h_ears h_frame h_records cy c_numbers c_records) H1 := hP
  replace hD : va_D A (w_X6_recordOf h0 h_numbers h_book h_buffer h_ears h_frame h_records cy c_numbers c_records) := hD
  clear hPc hDc hFc hP1 hk1 hz1 hvm ht; clear t; clear H locs; obtain ⟨H, hH⟩ : ∃ H, H = H1 := ⟨_, rfl⟩; obtain ⟨locs, hlo⟩ : ∃ L, L = locs1 := ⟨_, rfl⟩; subst hH; subst hlo
  refine W.widen (k := 0) (n := 0) (Nat.le_refl 0) (Nat.le_refl 0) ?_
  refine lv_iload_n hx hb dX6_recordOf_18 rfl (lv_at hl 2 rfl) ?_
  refine lv_iadd hx hb dX6_recordOf_19 ?_
  obtain ⟨h3, hw⟩ := hw
  refine xiald (k := (r2 + v2).toNatClampNeg) hx hb hK hP 2 0 rfl rfl h3 rfl dX6_recordOf_20 ?_
  subst hQe
  exact W.iret (v := c_records (r2 + v2).toNatClampNeg) hx hb hr (fun t ht hW => ⟨⟨(c_records (r2 + v2).toNatClampNeg), (), rfl, hw, by rw [ht]; exact hP, va_K.moved hW.alike hK, hD⟩, hS.F ht⟩) hS.2.2 dX6_recordOf_21
set_option maxHeartbeats 4000000 in
set_option maxRecDepth 100000 in
theorem c_X6_lateness (l : Launch) (dC : Nat → ClassId) (dI : Nat → Nat → Nat) (cy : Nat → ClassId) (h0 h_numbers h_book h_buffer h_ears h_frame h_records : Nat) (sz : Nat) (v1 : Int32) (c_numbers : Nat → Int32) (c_records : Nat → Int32) (post : Int32 → Prop) (hw : wp_X6_lateness v1 c_numbers c_records post) : Met l yX6_lateness wsX6_lateness ({ frames := 3, cells := 0, slots := 0, locals := 64 }) (PX dC dI cy [.ref h0, .int v1] sz (w_X6_lateness h0 h_numbers h_book h_buffer h_ears h_frame h_records cy c_numbers c_records)) (va_Qi (fun (r : Int32) (u : Unit) => post r) (QX dC dI cy (va_A (w_X6_lateness h0 h_numbers h_book h_buffer h_ears h_frame h_records cy c_numbers c_records) sz) (fun (u : Unit) => w_X6_lateness h0 h_numbers h_book h_buffer h_ears h_frame h_records cy c_numbers c_records)) (va_A (w_X6_lateness h0 h_numbers h_book h_buffer h_ears h_frame h_records cy c_numbers c_records) sz)) 0 0 (va_A (w_X6_lateness h0 h_numbers h_book h_buffer h_ears h_frame h_records cy c_numbers c_records) sz) := by
  refine Met.ofW (cc := cX6_lateness) (maxL := 2) (ret := (some .int)) (by decide) rfl ?_
  intro p e s m args below meth c s₁ B hml hv
  obtain ⟨rfl, hsz, hP, hK, hD0, hG⟩ := hv
  have hx := B.exec
  have hb := B.bytes
  have hr := B.returns
  have hts := atoms_spec (ws := wsX6_lateness) B.pre
  have hown : s.vm.findClass RX6 = some m.cls := findClass_of_methodNamed B.named
  have hlocks := B.notSynchronized
  subst hsz
  have hD := hD0.self (sz := s.heap.size)
  generalize hAe : va_A (w_X6_lateness h0 h_numbers h_book h_buffer h_ears h_frame h_records cy c_numbers c_records) s.heap.size = A at hD ⊢
  have hA : ∀ q : Nat, s.heap.size ≤ q → A q := fun q h => by rw [← hAe]; exact Or.inr h
  have hS : va_S A s.heap s.heap [] := va_S.rf
  have hl := lv_entry ([.ref h0, .int v1]) (n := 2) (Nat.le_of_ble_eq_true rfl)
  rw [lg_entry_eq]
  generalize (lg_sl ([.ref h0, .int v1]) ++ List.replicate (2 - (lg_sl ([.ref h0, .int v1])).length) Slot.unset).toArray = ls at hl ⊢
  replace hl : lv_has ls 2 [(0, .ref h0), (1, .int v1)] := hl
  have inX6 : ∀ w ∈ u_ws RX6 TX6 6, w ∈ wsX6_lateness := fun w h => List.mem_cons_of_mem _ (inlX6 w h)
  clear hAe hD0 B
  unfold wp_X6_lateness at hw
  generalize hQe : MQ below _ _ s _ _ _ = Q0
  generalize ([.ref h0, .int v1] : List Value).toArray = av at *
  obtain ⟨H, hH⟩ : ∃ H, H = s.heap := ⟨_, rfl⟩
  obtain ⟨locs, hlo⟩ : ∃ L : List Loc, L = [] := ⟨_, rfl⟩
  replace hP : va_P (dC, dI) vwCl (w_X6_lateness h0 h_numbers h_book h_buffer h_ears h_frame h_records cy c_numbers c_records) H := by rw [hH]; exact hP
  replace hS : va_S A s.heap H locs := by rw [hH, hlo]; exact hS
  suffices hgo : W p l e ({ frames := 3, cells := 0, slots := 0, locals := 64 }) s m av below meth c H locs 0 0 Q0 (F0 m 0 ls []) by rw [hH, hlo] at hgo; exact hgo
  clear hH hlo
  refine lv_aload_n hx hb dX6_lateness_0 rfl (lv_at hl 0 rfl) ?_
  refine lv_iload_n hx hb dX6_lateness_1 rfl (lv_at hl 1 rfl) ?_
  refine lv_bipush (v := 6) hx hb dX6_lateness_2 (by decide) ?_
  have hPc := pSub (ws' := (w_X6_recordOf h0 h_numbers h_book h_buffer h_ears h_frame h_records cy c_numbers c_records)) hP [0, 1, 2] rfl
  have hDc := dSub (ws' := (w_X6_recordOf h0 h_numbers h_book h_buffer h_ears h_frame h_records cy c_numbers c_records)) hD [0, 1, 2] (by decide) rfl
  have hFc := va_free (wc := (w_X6_recordOf h0 h_numbers h_book h_buffer h_ears h_frame h_records cy c_numbers c_records)) hD hS hA [0, 1, 2] rfl
  refine va_calli (va_runV (As := [.int v1, .int (6 : Int32)]) (rest := []) ⟨hx, hb, hml, hown, hts⟩ (c_X6_recordOf l dC dI cy h0 h_numbers h_book h_buffer h_ears h_frame h_records H.size v1 (6 : Int32) c_numbers c_records _ hw) (cwV 2 hts (goodV mw_1169 mw_1183 mw_1167 mw_1168 mw_56) rfl rfl rfl (by decide +kernel) ⟨Nat.le_of_ble_eq_true rfl, Nat.le_of_ble_eq_true rfl⟩) ⟨PX_blind, va_recv hK hPc (ci := 6) (q0 := 0) rfl rfl, PX_pre hPc hK hDc hG⟩ rfl rfl hl.1 rfl (lv_room (Nat.le_of_ble_eq_true rfl)) dX6_lateness_4 ⟨Nat.zero_le _, Nat.zero_le _⟩) hS (fun q _ h => hFc q h) hFc ?_; clear hw hS; intro r1 _ t H1 locs1 ht hvm hw hB hz1 hk1 hS
  obtain ⟨hP1, -, -⟩ := hB
  rw [ht] at hP1
  replace hP := jC0 hP hD [0, 1, 2] [] rfl hk1 hP1 (w_X6_lateness h0 h_numbers h_book h_buffer h_ears h_frame h_records cy c_numbers c_records) rfl rfl rfl 3 rfl (by decide +kernel); clear hD; obtain ⟨hP, hD⟩ := hP
  replace hP : va_P (dC, dI) vwCl (w_X6_lateness h0 h_numbers h_book h_buffer h_ears h_frame h_records cy c_numbers c_records) H1 := hP
  replace hD : va_D A (w_X6_lateness h0 h_numbers h_book h_buffer h_ears h_frame h_records cy c_numbers c_records) := hD
  clear hPc hDc hFc hP1 hk1 hz1 hvm ht; clear t; clear H locs; obtain ⟨H, hH⟩ : ∃ H, H = H1 := ⟨_, rfl⟩; obtain ⟨locs, hlo⟩ : ∃ L, L = locs1 := ⟨_, rfl⟩; subst hH; subst hlo
  refine W.widen (k := 0) (n := 0) (Nat.le_refl 0) (Nat.le_refl 0) ?_
  refine lv_iconst (v := 4) hx hb dX6_lateness_7 (by decide) ?_
  refine lv_aload_n hx hb dX6_lateness_8 rfl (lv_at hl 0 rfl) ?_
  refine va_get (D := (dC, dI)) (ci := 6) (v := .ref h_numbers) (C := RX6) (T := TX6) (N := 6) hx hb hts inX6 hown hK hP 0 rfl rfl 0 (by decide) (hts _ (List.mem_cons_of_mem _ mw_152)) (fun _ h9 => h9) rfl dX6_lateness_9 ?_
  refine lv_bipush (v := 7) hx hb dX6_lateness_12 (by decide) ?_
  refine xiald (k := 7) hx hb hK hP 1 0 rfl rfl (vpL 7 54 rfl) (by decide) dX6_lateness_14 ?_
  refine lv_iconst (v := 1) hx hb dX6_lateness_15 (by decide) ?_
  refine lv_isub hx hb dX6_lateness_16 ?_
  refine lv_iload_n hx hb dX6_lateness_17 rfl (lv_at hl 1 rfl) ?_
  refine lv_isub hx hb dX6_lateness_18 ?_
  refine lv_imul hx hb dX6_lateness_19 ?_
  refine lv_isub hx hb dX6_lateness_20 ?_
  subst hQe
  exact W.iret (v := r1 - ((4 : Int32) * (((c_numbers 7) - (1 : Int32)) - v1))) hx hb hr (fun t ht hW => ⟨⟨(r1 - ((4 : Int32) * (((c_numbers 7) - (1 : Int32)) - v1))), (), rfl, hw, by rw [ht]; exact hP, va_K.moved hW.alike hK, hD⟩, hS.F ht⟩) hS.2.2 dX6_lateness_21
set_option maxHeartbeats 4000000 in
set_option maxRecDepth 100000 in
theorem c_X6_tick (l : Launch) (dC : Nat → ClassId) (dI : Nat → Nat → Nat) (cy : Nat → ClassId) (h0 h_numbers h_book h_buffer h_ears h_frame h_records : Nat) (sz : Nat) (c_numbers : Nat → Int32) (post : Int32 → (Nat → Int32) → Prop) (hw : wp_X6_tick c_numbers post) : Met l yX6_tick wsX6_tick ({ frames := 0, cells := 0, slots := 0, locals := 0 }) (PX dC dI cy [.ref h0] sz (w_X6_tick h0 h_numbers h_book h_buffer h_ears h_frame h_records cy c_numbers)) (va_Qi (fun (r : Int32) (u : (Nat → Int32)) => post r u) (QX dC dI cy (va_A (w_X6_tick h0 h_numbers h_book h_buffer h_ears h_frame h_records cy c_numbers) sz) (fun (u : (Nat → Int32)) => w_X6_tick h0 h_numbers h_book h_buffer h_ears h_frame h_records cy u)) (va_A (w_X6_tick h0 h_numbers h_book h_buffer h_ears h_frame h_records cy c_numbers) sz)) 0 0 (va_A (w_X6_tick h0 h_numbers h_book h_buffer h_ears h_frame h_records cy c_numbers) sz) := by
  refine Met.ofW (cc := cX6_tick) (maxL := 2) (ret := (some .int)) (by decide) rfl ?_
  intro p e s m args below meth c s₁ B hml hv
  obtain ⟨rfl, hsz, hP, hK, hD0, hG⟩ := hv
  have hx := B.exec
  have hb := B.bytes
  have hr := B.returns
  have hts := atoms_spec (ws := wsX6_tick) B.pre
  have hown : s.vm.findClass RX6 = some m.cls := findClass_of_methodNamed B.named
  have hlocks := B.notSynchronized
  subst hsz
  have hD := hD0.self (sz := s.heap.size)
  generalize hAe : va_A (w_X6_tick h0 h_numbers h_book h_buffer h_ears h_frame h_records cy c_numbers) s.heap.size = A at hD ⊢
  have hA : ∀ q : Nat, s.heap.size ≤ q → A q := fun q h => by rw [← hAe]; exact Or.inr h
  have hS : va_S A s.heap s.heap [] := va_S.rf
  have hl := lv_entry ([.ref h0]) (n := 2) (Nat.le_of_ble_eq_true rfl)
  rw [lg_entry_eq]
  generalize (lg_sl ([.ref h0]) ++ List.replicate (2 - (lg_sl ([.ref h0])).length) Slot.unset).toArray = ls at hl ⊢
  replace hl : lv_has ls 2 [(0, .ref h0)] := hl
  have inX6 : ∀ w ∈ u_ws RX6 TX6 6, w ∈ wsX6_tick := fun w h => List.mem_cons_of_mem _ (inlX6 w h)
  clear hAe hD0 B
  unfold wp_X6_tick at hw
  generalize hQe : MQ below _ _ s _ _ _ = Q0
  generalize ([.ref h0] : List Value).toArray = av at *
  obtain ⟨H, hH⟩ : ∃ H, H = s.heap := ⟨_, rfl⟩
  obtain ⟨locs, hlo⟩ : ∃ L : List Loc, L = [] := ⟨_, rfl⟩
  replace hP : va_P (dC, dI) vwCl (w_X6_tick h0 h_numbers h_book h_buffer h_ears h_frame h_records cy c_numbers) H := by rw [hH]; exact hP
  replace hS : va_S A s.heap H locs := by rw [hH, hlo]; exact hS
  suffices hgo : W p l e ({ frames := 0, cells := 0, slots := 0, locals := 0 }) s m av below meth c H locs 0 0 Q0 (F0 m 0 ls []) by rw [hH, hlo] at hgo; exact hgo
  clear hH hlo
  refine lv_aload_n hx hb dX6_tick_0 rfl (lv_at hl 0 rfl) ?_
  refine va_get (D := (dC, dI)) (ci := 6) (v := .ref h_numbers) (C := RX6) (T := TX6) (N := 6) hx hb hts inX6 hown hK hP 0 rfl rfl 0 (by decide) (hts _ (List.mem_cons_of_mem _ mw_152)) (fun _ h9 => h9) rfl dX6_tick_1 ?_
  refine lv_bipush (v := 6) hx hb dX6_tick_4 (by decide) ?_
  refine xiald (k := 6) hx hb hK hP 1 0 rfl rfl (vpL 6 54 rfl) (by decide) dX6_tick_6 ?_
  refine lv_aload_n hx hb dX6_tick_7 rfl (lv_at hl 0 rfl) ?_
  refine va_get (D := (dC, dI)) (ci := 6) (v := .ref h_numbers) (C := RX6) (T := TX6) (N := 6) hx hb hts inX6 hown hK hP 0 rfl rfl 0 (by decide) (hts _ (List.mem_cons_of_mem _ mw_152)) (fun _ h9 => h9) rfl dX6_tick_8 ?_
  refine lv_bipush (v := 27) hx hb dX6_tick_11 (by decide) ?_
  refine xiald (k := 27) hx hb hK hP 1 0 rfl rfl (vpL 27 54 rfl) (by decide) dX6_tick_13 ?_
  refine jn1 (Gg := fun (f3 : (Nat → Int32)) => ∀ (H : Heap) (locs : List Loc) (ls : Array Slot), va_P (dC, dI) vwCl (w_X6_tick h0 h_numbers h_book h_buffer h_ears h_frame h_records cy f3) H → va_D A (w_X6_tick h0 h_numbers h_book h_buffer h_ears h_frame h_records cy f3) → va_S A s.heap H locs → lv_has ls 2 [(0, .ref h0)] → W p l e { frames := 0, cells := 0, slots := 0, locals := 0 } s m av below meth c H locs 0 0 Q0 (F0 m 25 ls [])) hw ?_ ?_ <;> clear hw
  · clear hP hD hS hl; clear H locs ls; intro f3 hw H locs ls hP hD hS hl
    refine lv_aload_n hx hb dX6_tick_25 rfl (lv_at hl 0 rfl) ?_
    refine va_get (D := (dC, dI)) (ci := 6) (v := .ref h_numbers) (C := RX6) (T := TX6) (N := 6) hx hb hts inX6 hown hK hP 0 rfl rfl 0 (by decide) (hts _ (List.mem_cons_of_mem _ mw_152)) (fun _ h9 => h9) rfl dX6_tick_26 ?_
    refine lv_bipush (v := 8) hx hb dX6_tick_29 (by decide) ?_
    refine xiald (k := 8) hx hb hK hP 1 0 rfl rfl (vpL 8 54 rfl) (by decide) dX6_tick_31 ?_
    refine lv_if_ne (tgt := 37) hx hb dX6_tick_32 (by decide) (fun c7 => ?_) (fun c7 => ?_)
    · replace hw := hw.2 c7
      refine lv_aload_n hx hb dX6_tick_37 rfl (lv_at hl 0 rfl) ?_
      refine va_get (D := (dC, dI)) (ci := 6) (v := .ref h_numbers) (C := RX6) (T := TX6) (N := 6) hx hb hts inX6 hown hK hP 0 rfl rfl 0 (by decide) (hts _ (List.mem_cons_of_mem _ mw_152)) (fun _ h9 => h9) rfl dX6_tick_38 ?_
      refine lv_bipush (v := 9) hx hb dX6_tick_41 (by decide) ?_
      refine xiald (k := 9) hx hb hK hP 1 0 rfl rfl (vpL 9 54 rfl) (by decide) dX6_tick_43 ?_
      refine lv_sipush (v := 1000) hx hb dX6_tick_44 (by decide) ?_
      refine lv_iadd hx hb dX6_tick_47 ?_
      refine lv_aload_n hx hb dX6_tick_48 rfl (lv_at hl 0 rfl) ?_
      refine va_get (D := (dC, dI)) (ci := 6) (v := .ref h_numbers) (C := RX6) (T := TX6) (N := 6) hx hb hts inX6 hown hK hP 0 rfl rfl 0 (by decide) (hts _ (List.mem_cons_of_mem _ mw_152)) (fun _ h9 => h9) rfl dX6_tick_49 ?_
      refine lv_bipush (v := 26) hx hb dX6_tick_52 (by decide) ?_
      refine xiald (k := 26) hx hb hK hP 1 0 rfl rfl (vpL 26 54 rfl) (by decide) dX6_tick_54 ?_
      refine lv_iadd hx hb dX6_tick_55 ?_
      refine lv_aload_n hx hb dX6_tick_56 rfl (lv_at hl 0 rfl) ?_
      refine va_get (D := (dC, dI)) (ci := 6) (v := .ref h_numbers) (C := RX6) (T := TX6) (N := 6) hx hb hts inX6 hown hK hP 0 rfl rfl 0 (by decide) (hts _ (List.mem_cons_of_mem _ mw_152)) (fun _ h9 => h9) rfl dX6_tick_57 ?_
      refine lv_bipush (v := 10) hx hb dX6_tick_60 (by decide) ?_
      refine xiald (k := 10) hx hb hK hP 1 0 rfl rfl (vpL 10 54 rfl) (by decide) dX6_tick_62 ?_
      refine lv_iadd hx hb dX6_tick_63 ?_
      refine lv_topi (fun x11 e_x11 => ?_)
      replace hw := hw x11 e_x11
      clear e_x11
      refine lv_istore_n (lv' := [(1, .int x11), (0, .ref h0)]) hx hb dX6_tick_64 rfl hl (by decide) rfl ?_; clear hl; clear ls; intro ls hl
      refine lv_aload_n hx hb dX6_tick_65 rfl (lv_at hl 1 rfl) ?_
      refine va_get (D := (dC, dI)) (ci := 6) (v := .ref h_numbers) (C := RX6) (T := TX6) (N := 6) hx hb hts inX6 hown hK hP 0 rfl rfl 0 (by decide) (hts _ (List.mem_cons_of_mem _ mw_152)) (fun _ h9 => h9) rfl dX6_tick_66 ?_
      refine lv_bipush (v := 9) hx hb dX6_tick_69 (by decide) ?_
      refine lv_iload_n hx hb dX6_tick_71 rfl (lv_at hl 0 rfl) ?_
      refine lv_sipush (v := 4000) hx hb dX6_tick_72 (by decide) ?_
      refine lv_irem hx hb dX6_tick_75 (by decide) ?_
      refine lv_topi (fun x12 e_x12 => ?_)
      replace hw := hw x12 e_x12
      clear e_x12
      refine xiast (k := 9) hx hb hK hP hD hS 1 0 rfl rfl (vpL 9 54 rfl) (by decide) dX6_tick_76 ?_; clear hP hD hS; clear H locs; intro f14 e_f14 H locs hP hD hS
      replace hw := hw f14 e_f14
      clear e_f14
      replace hP : va_P (dC, dI) vwCl (w_X6_tick h0 h_numbers h_book h_buffer h_ears h_frame h_records cy f14) H := hP
      replace hD : va_D A (w_X6_tick h0 h_numbers h_book h_buffer h_ears h_frame h_records cy f14) := hD
      refine lv_iload_n hx hb dX6_tick_77 rfl (lv_at hl 0 rfl) ?_
      refine lv_sipush (v := 4000) hx hb dX6_tick_78 (by decide) ?_
      refine lv_idiv hx hb dX6_tick_81 (by decide) ?_
      refine lv_topi (fun x15 e_x15 => ?_)
      replace hw := hw x15 e_x15
      clear e_x15
      subst hQe
      exact W.iret (v := x15) hx hb hr (fun t ht hW => ⟨⟨x15, f14, rfl, hw, by rw [ht]; exact hP, va_K.moved hW.alike hK, hD⟩, hS.F ht⟩) hS.2.2 dX6_tick_82
    · replace hw := hw.1 c7
      refine lv_iconst (v := 0) hx hb dX6_tick_35 (by decide) ?_
      subst hQe
      exact W.iret (v := (0 : Int32)) hx hb hr (fun t ht hW => ⟨⟨(0 : Int32), f3, rfl, hw, by rw [ht]; exact hP, va_K.moved hW.alike hK, hD⟩, hS.F ht⟩) hS.2.2 dX6_tick_36
  · intro j5 hw
    refine lv_icmp_lt (tgt := 25) hx hb dX6_tick_14 (by decide) (fun c16 => ?_) (fun c16 => ?_)
    · replace hw := hw.1 c16
      exact j5 c_numbers hw H locs ls hP hD hS (lv_sub hl [0] rfl)
    · replace hw := hw.2 c16
      refine lv_aload_n hx hb dX6_tick_17 rfl (lv_at hl 0 rfl) ?_
      refine va_get (D := (dC, dI)) (ci := 6) (v := .ref h_numbers) (C := RX6) (T := TX6) (N := 6) hx hb hts inX6 hown hK hP 0 rfl rfl 0 (by decide) (hts _ (List.mem_cons_of_mem _ mw_152)) (fun _ h9 => h9) rfl dX6_tick_18 ?_
      refine lv_bipush (v := 8) hx hb dX6_tick_21 (by decide) ?_
      refine lv_iconst (v := 1) hx hb dX6_tick_23 (by decide) ?_
      refine xiast (k := 8) hx hb hK hP hD hS 1 0 rfl rfl (vpL 8 54 rfl) (by decide) dX6_tick_24 ?_; clear hP hD hS; clear H locs; intro f18 e_f18 H locs hP hD hS
      replace hw := hw f18 e_f18
      clear e_f18
      replace hP : va_P (dC, dI) vwCl (w_X6_tick h0 h_numbers h_book h_buffer h_ears h_frame h_records cy f18) H := hP
      replace hD : va_D A (w_X6_tick h0 h_numbers h_book h_buffer h_ears h_frame h_records cy f18) := hD
      exact j5 f18 hw H locs ls hP hD hS (lv_sub hl [0] rfl)
set_option maxHeartbeats 4000000 in
set_option maxRecDepth 100000 in
theorem c_X6_compare (l : Launch) (dC : Nat → ClassId) (dI : Nat → Nat → Nat) (cy : Nat → ClassId) (h0 h_numbers h_book h_buffer h_ears h_frame h_records h_ears_0 h_ears_1 h_ears_0_tree h_ears_0_row h_ears_0_made h_ears_0_fresh h_ears_1_tree h_ears_1_row h_ears_1_made h_ears_1_fresh : Nat) (sz : Nat) (v1 : Int32) (v2 : Int32) (c_numbers : Nat → Int32) (c_ears_0_lag : Int32) (c_ears_0_lagSum : Int32) (c_ears_0_row : Nat → Int32) (c_ears_1_lag : Int32) (c_ears_1_lagSum : Int32) (c_ears_1_row : Nat → Int32) (post : Int32 → (Nat → Int32) → Prop) (hw : wp_X6_compare v1 v2 c_numbers c_ears_0_row c_ears_1_row post) : Met l yX6_compare wsX6_compare ({ frames := 3, cells := 0, slots := 0, locals := 72 }) (PX dC dI cy [.ref h0, .int v1, .int v2] sz (w_X6_compare h0 h_numbers h_book h_buffer h_ears h_frame h_records h_ears_0 h_ears_1 h_ears_0_tree h_ears_0_row h_ears_0_made h_ears_0_fresh h_ears_1_tree h_ears_1_row h_ears_1_made h_ears_1_fresh cy c_numbers c_ears_0_lag c_ears_0_lagSum c_ears_0_row c_ears_1_lag c_ears_1_lagSum c_ears_1_row)) (va_Qi (fun (r : Int32) (u : (Nat → Int32)) => post r u) (QX dC dI cy (va_A (w_X6_compare h0 h_numbers h_book h_buffer h_ears h_frame h_records h_ears_0 h_ears_1 h_ears_0_tree h_ears_0_row h_ears_0_made h_ears_0_fresh h_ears_1_tree h_ears_1_row h_ears_1_made h_ears_1_fresh cy c_numbers c_ears_0_lag c_ears_0_lagSum c_ears_0_row c_ears_1_lag c_ears_1_lagSum c_ears_1_row) sz) (fun (u : (Nat → Int32)) => w_X6_compare h0 h_numbers h_book h_buffer h_ears h_frame h_records h_ears_0 h_ears_1 h_ears_0_tree h_ears_0_row h_ears_0_made h_ears_0_fresh h_ears_1_tree h_ears_1_row h_ears_1_made h_ears_1_fresh cy u c_ears_0_lag c_ears_0_lagSum c_ears_0_row c_ears_1_lag c_ears_1_lagSum c_ears_1_row)) (va_A (w_X6_compare h0 h_numbers h_book h_buffer h_ears h_frame h_records h_ears_0 h_ears_1 h_ears_0_tree h_ears_0_row h_ears_0_made h_ears_0_fresh h_ears_1_tree h_ears_1_row h_ears_1_made h_ears_1_fresh cy c_numbers c_ears_0_lag c_ears_0_lagSum c_ears_0_row c_ears_1_lag c_ears_1_lagSum c_ears_1_row) sz)) 0 0 (va_A (w_X6_compare h0 h_numbers h_book h_buffer h_ears h_frame h_records h_ears_0 h_ears_1 h_ears_0_tree h_ears_0_row h_ears_0_made h_ears_0_fresh h_ears_1_tree h_ears_1_row h_ears_1_made h_ears_1_fresh cy c_numbers c_ears_0_lag c_ears_0_lagSum c_ears_0_row c_ears_1_lag c_ears_1_lagSum c_ears_1_row) sz) := by
  refine Met.ofW (cc := cX6_compare) (maxL := 9) (ret := (some .int)) (by decide) rfl ?_
  intro p e s m args below meth c s₁ B hml hv
  obtain ⟨rfl, hsz, hP, hK, hD0, hG⟩ := hv
  have hx := B.exec
  have hb := B.bytes
  have hr := B.returns
  have hts := atoms_spec (ws := wsX6_compare) B.pre
  have hown : s.vm.findClass RX6 = some m.cls := findClass_of_methodNamed B.named
  have hlocks := B.notSynchronized
  subst hsz
  have hD := hD0.self (sz := s.heap.size)
  generalize hAe : va_A (w_X6_compare h0 h_numbers h_book h_buffer h_ears h_frame h_records h_ears_0 h_ears_1 h_ears_0_tree h_ears_0_row h_ears_0_made h_ears_0_fresh h_ears_1_tree h_ears_1_row h_ears_1_made h_ears_1_fresh cy c_numbers c_ears_0_lag c_ears_0_lagSum c_ears_0_row c_ears_1_lag c_ears_1_lagSum c_ears_1_row) s.heap.size = A at hD ⊢
  have hA : ∀ q : Nat, s.heap.size ≤ q → A q := fun q h => by rw [← hAe]; exact Or.inr h
  have hS : va_S A s.heap s.heap [] := va_S.rf
  have hl := lv_entry ([.ref h0, .int v1, .int v2]) (n := 9) (Nat.le_of_ble_eq_true rfl)
  rw [lg_entry_eq]
  generalize (lg_sl ([.ref h0, .int v1, .int v2]) ++ List.replicate (9 - (lg_sl ([.ref h0, .int v1, .int v2])).length) Slot.unset).toArray = ls at hl ⊢
  replace hl : lv_has ls 9 [(0, .ref h0), (1, .int v1), (2, .int v2)] := hl
  have inX6 : ∀ w ∈ u_ws RX6 TX6 6, w ∈ wsX6_compare := fun w h => List.mem_cons_of_mem _ (inlX6 w h)
  clear hAe hD0 B
  unfold wp_X6_compare at hw
  generalize hQe : MQ below _ _ s _ _ _ = Q0
  generalize ([.ref h0, .int v1, .int v2] : List Value).toArray = av at *
  obtain ⟨H, hH⟩ : ∃ H, H = s.heap := ⟨_, rfl⟩
  obtain ⟨locs, hlo⟩ : ∃ L : List Loc, L = [] := ⟨_, rfl⟩
  replace hP : va_P (dC, dI) vwCl (w_X6_compare h0 h_numbers h_book h_buffer h_ears h_frame h_records h_ears_0 h_ears_1 h_ears_0_tree h_ears_0_row h_ears_0_made h_ears_0_fresh h_ears_1_tree h_ears_1_row h_ears_1_made h_ears_1_fresh cy c_numbers c_ears_0_lag c_ears_0_lagSum c_ears_0_row c_ears_1_lag c_ears_1_lagSum c_ears_1_row) H := by rw [hH]; exact hP
  replace hS : va_S A s.heap H locs := by rw [hH, hlo]; exact hS
  suffices hgo : W p l e ({ frames := 3, cells := 0, slots := 0, locals := 72 }) s m av below meth c H locs 0 0 Q0 (F0 m 0 ls []) by rw [hH, hlo] at hgo; exact hgo
  clear hH hlo
  refine lv_iconst (v := 0) hx hb dX6_compare_0 (by decide) ?_
  refine lv_istore_n (lv' := [(3, .int (0 : Int32)), (0, .ref h0), (1, .int v1), (2, .int v2)]) hx hb dX6_compare_1 rfl hl (by decide) rfl ?_; clear hl; clear ls; intro ls hl
  refine lv_iconst (v := 0) hx hb dX6_compare_2 (by decide) ?_
  refine lv_istore (lv' := [(4, .int (0 : Int32)), (3, .int (0 : Int32)), (0, .ref h0), (1, .int v1), (2, .int v2)]) hx hb dX6_compare_3 hl (by decide) rfl ?_; clear hl; clear ls; intro ls hl
  refine lv_iconst (v := 0) hx hb dX6_compare_5 (by decide) ?_
  refine lv_istore (lv' := [(5, .int (0 : Int32)), (4, .int (0 : Int32)), (3, .int (0 : Int32)), (0, .ref h0), (1, .int v1), (2, .int v2)]) hx hb dX6_compare_6 hl (by decide) rfl ?_; clear hl; clear ls; intro ls hl
  refine lv_iload hx hb dX6_compare_8 (lv_at hl 0 rfl) ?_
  refine lv_iconst (v := 2) hx hb dX6_compare_10 (by decide) ?_
  refine lv_icmp_ge (tgt := 91) hx hb dX6_compare_11 (by decide) (fun hc => absurd hc (by decide)) (fun _ => ?_)
  refine lv_iconst (v := 0) hx hb dX6_compare_14 (by decide) ?_
  refine lv_istore (lv' := [(6, .int (0 : Int32)), (5, .int (0 : Int32)), (4, .int (0 : Int32)), (3, .int (0 : Int32)), (0, .ref h0), (1, .int v1), (2, .int v2)]) hx hb dX6_compare_15 hl (by decide) rfl ?_; clear hl; clear ls; intro ls hl
  obtain ⟨x1, e_x1⟩ : ∃ y : Int32, y = (0 : Int32) := ⟨_, rfl⟩
  replace hw := hw x1 e_x1
  replace hl : lv_has ls 9 [(6, .int x1), (5, .int (0 : Int32)), (4, .int (0 : Int32)), (3, .int (0 : Int32)), (0, .ref h0), (1, .int v1), (2, .int v2)] := by rw [e_x1]; exact hl
  clear e_x1
  obtain ⟨x2, e_x2⟩ : ∃ y : Int32, y = (0 : Int32) := ⟨_, rfl⟩
  replace hw := hw x2 e_x2
  replace hl : lv_has ls 9 [(6, .int x1), (5, .int (0 : Int32)), (4, .int x2), (3, .int (0 : Int32)), (0, .ref h0), (1, .int v1), (2, .int v2)] := by rw [e_x2]; exact hl
  clear e_x2
  obtain ⟨x3, e_x3⟩ : ∃ y : Int32, y = (0 : Int32) := ⟨_, rfl⟩
  replace hw := hw x3 e_x3
  replace hl : lv_has ls 9 [(6, .int x1), (5, .int (0 : Int32)), (4, .int x2), (3, .int x3), (0, .ref h0), (1, .int v1), (2, .int v2)] := by rw [e_x3]; exact hl
  clear e_x3
  replace hl := lv_sub (l' := [(6, .int x1), (5, .int (0 : Int32)), (4, .int x2), (3, .int x3), (0, .ref h0), (1, .int v1), (2, .int v2)]) hl [0, 1, 2, 3, 4, 5, 6] rfl
  revert hl; revert hS; revert hD; revert hP; revert ls; revert locs; revert H
  revert hw; revert x3; revert x2; revert x1
  refine Lz3_gr ?_; intro g4 ih5 x6 x7 x8 hw
  intro H locs ls hP hD hS hl
  refine lv_iload hx hb dX6_compare_17 (lv_at hl 0 rfl) ?_
  refine lv_bipush (v := 32) hx hb dX6_compare_19 (by decide) ?_
  refine lv_icmp_ge (tgt := 85) hx hb dX6_compare_21 (by decide) (fun c9 => ?_) (fun c9 => ?_)
  · replace hw := hw.1 c9
    clear ih5
    refine lv_iinc (v := (1 : Int32)) (lv' := [(5, .int (1 : Int32)), (6, .int x6), (4, .int x7), (3, .int x8), (0, .ref h0), (1, .int v1), (2, .int v2)]) hx hb dX6_compare_85 hl (k := 1) rfl (by decide) (by decide) rfl ?_; clear hl; clear ls; intro ls hl
    refine lv_goto (tgt := 8) hx hb dX6_compare_88 (by decide) ?_
    refine lv_iload hx hb dX6_compare_8 (lv_at hl 0 rfl) ?_
    refine lv_iconst (v := 2) hx hb dX6_compare_10 (by decide) ?_
    refine lv_icmp_ge (tgt := 91) hx hb dX6_compare_11 (by decide) (fun hc => absurd hc (by decide)) (fun _ => ?_)
    refine lv_iconst (v := 0) hx hb dX6_compare_14 (by decide) ?_
    refine lv_istore (lv' := [(6, .int (0 : Int32)), (5, .int (1 : Int32)), (4, .int x7), (3, .int x8), (0, .ref h0), (1, .int v1), (2, .int v2)]) hx hb dX6_compare_15 hl (by decide) rfl ?_; clear hl; clear ls; intro ls hl
    obtain ⟨x10, e_x10⟩ : ∃ y : Int32, y = (0 : Int32) := ⟨_, rfl⟩
    replace hw := hw x10 e_x10
    replace hl : lv_has ls 9 [(6, .int x10), (5, .int (1 : Int32)), (4, .int x7), (3, .int x8), (0, .ref h0), (1, .int v1), (2, .int v2)] := by rw [e_x10]; exact hl
    clear e_x10
    replace hl := lv_sub (l' := [(6, .int x10), (5, .int (1 : Int32)), (4, .int x7), (3, .int x8), (0, .ref h0), (1, .int v1), (2, .int v2)]) hl [0, 1, 2, 3, 4, 5, 6] rfl
    revert hl; revert hS; revert hD; revert hP; revert ls; revert locs; revert H
    revert hw; revert x8; revert x7; revert x10
    refine Lz3_gr ?_; intro g11 ih12 x13 x14 x15 hw
    intro H locs ls hP hD hS hl
    refine lv_iload hx hb dX6_compare_17 (lv_at hl 0 rfl) ?_
    refine lv_bipush (v := 32) hx hb dX6_compare_19 (by decide) ?_
    refine lv_icmp_ge (tgt := 85) hx hb dX6_compare_21 (by decide) (fun c16 => ?_) (fun c16 => ?_)
    · replace hw := hw.1 c16
      clear ih12
      refine lv_iinc (v := (2 : Int32)) (lv' := [(5, .int (2 : Int32)), (6, .int x13), (4, .int x14), (3, .int x15), (0, .ref h0), (1, .int v1), (2, .int v2)]) hx hb dX6_compare_85 hl (k := 1) rfl (by decide) (by decide) rfl ?_; clear hl; clear ls; intro ls hl
      refine lv_goto (tgt := 8) hx hb dX6_compare_88 (by decide) ?_
      refine lv_iload hx hb dX6_compare_8 (lv_at hl 0 rfl) ?_
      refine lv_iconst (v := 2) hx hb dX6_compare_10 (by decide) ?_
      refine lv_icmp_ge (tgt := 91) hx hb dX6_compare_11 (by decide) (fun _ => ?_) (fun hc => absurd hc (by decide))
      refine lv_iload_n hx hb dX6_compare_91 rfl (lv_at hl 6 rfl) ?_
      refine lv_if_eq (tgt := 125) hx hb dX6_compare_92 (by decide) (fun c17 => ?_) (fun c17 => ?_)
      · replace hw := hw.1 c17
        refine lv_iload_n hx hb dX6_compare_125 rfl (lv_at hl 3 rfl) ?_
        subst hQe
        exact W.iret (v := x15) hx hb hr (fun t ht hW => ⟨⟨x15, c_numbers, rfl, hw, by rw [ht]; exact hP, va_K.moved hW.alike hK, hD⟩, hS.F ht⟩) hS.2.2 dX6_compare_126
      · replace hw := hw.2 c17
        refine lv_aload_n hx hb dX6_compare_95 rfl (lv_at hl 4 rfl) ?_
        refine va_get (D := (dC, dI)) (ci := 6) (v := .ref h_numbers) (C := RX6) (T := TX6) (N := 6) hx hb hts inX6 hown hK hP 0 rfl rfl 0 (by decide) (hts _ (List.mem_cons_of_mem _ mw_152)) (fun _ h9 => h9) rfl dX6_compare_96 ?_
        refine lv_bipush (v := 17) hx hb dX6_compare_99 (by decide) ?_
        refine lv_dup2_11 hx hb dX6_compare_101 rfl rfl ?_
        refine xiald (k := 17) hx hb hK hP 1 0 rfl rfl (vpL 17 54 rfl) (by decide) dX6_compare_102 ?_
        refine lv_iload_n hx hb dX6_compare_103 rfl (lv_at hl 3 rfl) ?_
        refine lv_iadd hx hb dX6_compare_104 ?_
        refine xiast (k := 17) hx hb hK hP hD hS 1 0 rfl rfl (vpL 17 54 rfl) (by decide) dX6_compare_105 ?_; clear hP hD hS; clear H locs; intro f20 e_f20 H locs hP hD hS
        replace hw := hw f20 e_f20
        clear e_f20
        replace hP : va_P (dC, dI) vwCl (w_X6_compare h0 h_numbers h_book h_buffer h_ears h_frame h_records h_ears_0 h_ears_1 h_ears_0_tree h_ears_0_row h_ears_0_made h_ears_0_fresh h_ears_1_tree h_ears_1_row h_ears_1_made h_ears_1_fresh cy f20 c_ears_0_lag c_ears_0_lagSum c_ears_0_row c_ears_1_lag c_ears_1_lagSum c_ears_1_row) H := hP
        replace hD : va_D A (w_X6_compare h0 h_numbers h_book h_buffer h_ears h_frame h_records h_ears_0 h_ears_1 h_ears_0_tree h_ears_0_row h_ears_0_made h_ears_0_fresh h_ears_1_tree h_ears_1_row h_ears_1_made h_ears_1_fresh cy f20 c_ears_0_lag c_ears_0_lagSum c_ears_0_row c_ears_1_lag c_ears_1_lagSum c_ears_1_row) := hD
        refine lv_aload_n hx hb dX6_compare_106 rfl (lv_at hl 4 rfl) ?_
        refine va_get (D := (dC, dI)) (ci := 6) (v := .ref h_numbers) (C := RX6) (T := TX6) (N := 6) hx hb hts inX6 hown hK hP 0 rfl rfl 0 (by decide) (hts _ (List.mem_cons_of_mem _ mw_152)) (fun _ h9 => h9) rfl dX6_compare_107 ?_
        refine lv_bipush (v := 18) hx hb dX6_compare_110 (by decide) ?_
        refine lv_aload_n hx hb dX6_compare_112 rfl (lv_at hl 4 rfl) ?_
        refine va_get (D := (dC, dI)) (ci := 6) (v := .ref h_numbers) (C := RX6) (T := TX6) (N := 6) hx hb hts inX6 hown hK hP 0 rfl rfl 0 (by decide) (hts _ (List.mem_cons_of_mem _ mw_152)) (fun _ h9 => h9) rfl dX6_compare_113 ?_
        refine lv_bipush (v := 18) hx hb dX6_compare_116 (by decide) ?_
        refine xiald (k := 18) hx hb hK hP 1 0 rfl rfl (vpL 18 54 rfl) (by decide) dX6_compare_118 ?_
        refine lv_iload hx hb dX6_compare_119 (lv_at hl 2 rfl) ?_
        refine va_mmax hx hb (by rw [hml]; exact hl.1.symm) hown (hts _ (List.mem_cons_of_mem _ mw_502)) (hts _ (List.mem_cons_of_mem _ mw_75)) (hts _ (List.mem_cons_of_mem _ mw_76)) (hts _ (List.mem_cons_of_mem _ mw_77)) (Nat.le_of_ble_eq_true rfl) (Nat.le_of_ble_eq_true rfl) (Nat.zero_le _) (Nat.zero_le _) dX6_compare_121 ?_
        refine lv_topi (fun x22 e_x22 => ?_)
        replace hw := hw x22 e_x22
        clear e_x22
        refine xiast (k := 18) hx hb hK hP hD hS 1 0 rfl rfl (vpL 18 54 rfl) (by decide) dX6_compare_124 ?_; clear hP hD hS; clear H locs; intro f24 e_f24 H locs hP hD hS
        replace hw := hw f24 e_f24
        clear e_f24
        replace hP : va_P (dC, dI) vwCl (w_X6_compare h0 h_numbers h_book h_buffer h_ears h_frame h_records h_ears_0 h_ears_1 h_ears_0_tree h_ears_0_row h_ears_0_made h_ears_0_fresh h_ears_1_tree h_ears_1_row h_ears_1_made h_ears_1_fresh cy f24 c_ears_0_lag c_ears_0_lagSum c_ears_0_row c_ears_1_lag c_ears_1_lagSum c_ears_1_row) H := hP
        replace hD : va_D A (w_X6_compare h0 h_numbers h_book h_buffer h_ears h_frame h_records h_ears_0 h_ears_1 h_ears_0_tree h_ears_0_row h_ears_0_made h_ears_0_fresh h_ears_1_tree h_ears_1_row h_ears_1_made h_ears_1_fresh cy f24 c_ears_0_lag c_ears_0_lagSum c_ears_0_row c_ears_1_lag c_ears_1_lagSum c_ears_1_row) := hD
        refine lv_iload_n hx hb dX6_compare_125 rfl (lv_at hl 3 rfl) ?_
        subst hQe
        exact W.iret (v := x15) hx hb hr (fun t ht hW => ⟨⟨x15, f24, rfl, hw, by rw [ht]; exact hP, va_K.moved hW.alike hK, hD⟩, hS.F ht⟩) hS.2.2 dX6_compare_126
    · replace hw := hw.2 c16
      refine lv_aload_n hx hb dX6_compare_24 rfl (lv_at hl 4 rfl) ?_
      refine va_get (D := (dC, dI)) (ci := 6) (v := .ref h_numbers) (C := RX6) (T := TX6) (N := 6) hx hb hts inX6 hown hK hP 0 rfl rfl 0 (by decide) (hts _ (List.mem_cons_of_mem _ mw_152)) (fun _ h9 => h9) rfl dX6_compare_25 ?_
      refine lv_iload hx hb dX6_compare_28 (lv_at hl 1 rfl) ?_
      refine lv_bipush (v := 32) hx hb dX6_compare_30 (by decide) ?_
      refine lv_iload_n hx hb dX6_compare_32 rfl (lv_at hl 5 rfl) ?_
      refine lv_imul hx hb dX6_compare_33 ?_
      refine lv_iload hx hb dX6_compare_34 (lv_at hl 0 rfl) ?_
      refine lv_iadd hx hb dX6_compare_36 ?_
      have hPc := pSub (ws' := (w_X11_sampleOf h_numbers cy 54 c_numbers)) hP [1] rfl
      have hDc := dSub (ws' := (w_X11_sampleOf h_numbers cy 54 c_numbers)) hD [1] (by decide) rfl
      have hFc := va_free (wc := (w_X11_sampleOf h_numbers cy 54 c_numbers)) hD hS hA [1] rfl
      refine va_calli (va_runSN (As := [.ref h_numbers, .int (1 : Int32), .int (((32 : Int32) * v1) + x13)]) (rest := []) ⟨hx, hb, hml, hown, hts⟩ (c_X11_sampleOf l dC dI cy h_numbers 54 H.size (1 : Int32) (((32 : Int32) * v1) + x13) c_numbers _ hw) ⟨va_cnB 3 hts (goodG mw_268) rfl rfl rfl (hG.1 ("HeadsetBands$Player", 149, ⟨"HeadsetBands", "sampleOf", "([III)I"⟩, "HeadsetBands") (by decide +kernel)) (hts _ (List.mem_cons_of_mem _ mw_2)) (by decide +kernel) ⟨Nat.le_of_ble_eq_true rfl, Nat.le_of_ble_eq_true rfl⟩, (hts _ (List.mem_cons_of_mem _ mw_267)), trivial⟩ ⟨PX_blind, PX_pre hPc hK hDc hG⟩ rfl rfl hl.1 rfl (lv_room (Nat.le_of_ble_eq_true rfl)) dX6_compare_37 ⟨Nat.zero_le _, Nat.zero_le _⟩) hS (fun q _ h => hFc q h) hFc ?_; clear hw hS; intro r25 _ t H1 locs1 ht hvm hw hB hz1 hk1 hS
      obtain ⟨hP1, -, -⟩ := hB
      rw [ht] at hP1
      replace hP := jC0 hP hD [1] [0, 2, 3, 4, 5, 6] rfl hk1 hP1 (w_X6_compare h0 h_numbers h_book h_buffer h_ears h_frame h_records h_ears_0 h_ears_1 h_ears_0_tree h_ears_0_row h_ears_0_made h_ears_0_fresh h_ears_1_tree h_ears_1_row h_ears_1_made h_ears_1_fresh cy c_numbers c_ears_0_lag c_ears_0_lagSum c_ears_0_row c_ears_1_lag c_ears_1_lagSum c_ears_1_row) rfl rfl rfl 7 rfl (by decide +kernel); clear hD; obtain ⟨hP, hD⟩ := hP
      replace hP : va_P (dC, dI) vwCl (w_X6_compare h0 h_numbers h_book h_buffer h_ears h_frame h_records h_ears_0 h_ears_1 h_ears_0_tree h_ears_0_row h_ears_0_made h_ears_0_fresh h_ears_1_tree h_ears_1_row h_ears_1_made h_ears_1_fresh cy c_numbers c_ears_0_lag c_ears_0_lagSum c_ears_0_row c_ears_1_lag c_ears_1_lagSum c_ears_1_row) H1 := hP
      replace hD : va_D A (w_X6_compare h0 h_numbers h_book h_buffer h_ears h_frame h_records h_ears_0 h_ears_1 h_ears_0_tree h_ears_0_row h_ears_0_made h_ears_0_fresh h_ears_1_tree h_ears_1_row h_ears_1_made h_ears_1_fresh cy c_numbers c_ears_0_lag c_ears_0_lagSum c_ears_0_row c_ears_1_lag c_ears_1_lagSum c_ears_1_row) := hD
      clear hPc hDc hFc hP1 hk1 hz1 hvm ht; clear t; clear H locs; obtain ⟨H, hH⟩ : ∃ H, H = H1 := ⟨_, rfl⟩; obtain ⟨locs, hlo⟩ : ∃ L, L = locs1 := ⟨_, rfl⟩; subst hH; subst hlo
      refine W.widen (k := 0) (n := 0) (Nat.le_refl 0) (Nat.le_refl 0) ?_
      refine lv_istore (lv' := [(7, .int r25), (6, .int x13), (5, .int (1 : Int32)), (4, .int x14), (3, .int x15), (0, .ref h0), (1, .int v1), (2, .int v2)]) hx hb dX6_compare_40 hl (by decide) rfl ?_; clear hl; clear ls; intro ls hl
      refine lv_aload_n hx hb dX6_compare_42 rfl (lv_at hl 5 rfl) ?_
      refine va_get (D := (dC, dI)) (ci := 6) (v := .ref h_ears) (C := RX6) (T := TX6) (N := 6) hx hb hts inX6 hown hK hP 0 rfl rfl 3 (by decide) (hts _ (List.mem_cons_of_mem _ mw_148)) (fun _ h9 => h9) rfl dX6_compare_43 ?_
      refine lv_iload hx hb dX6_compare_46 (lv_at hl 2 rfl) ?_
      refine xald1 hx hb hK hP 2 3 rfl rfl dX6_compare_48 ?_
      refine lv_bipush (v := 31) hx hb dX6_compare_49 (by decide) ?_
      refine lv_iload hx hb dX6_compare_51 (lv_at hl 1 rfl) ?_
      refine lv_isub hx hb dX6_compare_53 ?_
      have hPc := pSub (ws' := (w_X3_sampleAgo h_ears_1 h_ears_1_tree h_ears_1_row h_ears_1_made h_ears_1_fresh cy c_ears_1_lag c_ears_1_lagSum c_ears_1_row)) hP [5, 6] rfl
      have hDc := dSub (ws' := (w_X3_sampleAgo h_ears_1 h_ears_1_tree h_ears_1_row h_ears_1_made h_ears_1_fresh cy c_ears_1_lag c_ears_1_lagSum c_ears_1_row)) hD [5, 6] (by decide) rfl
      have hFc := va_free (wc := (w_X3_sampleAgo h_ears_1 h_ears_1_tree h_ears_1_row h_ears_1_made h_ears_1_fresh cy c_ears_1_lag c_ears_1_lagSum c_ears_1_row)) hD hS hA [5, 6] rfl
      refine va_calli (va_runV (As := [.int ((31 : Int32) - x13)]) (rest := []) ⟨hx, hb, hml, hown, hts⟩ (c_X3_sampleAgo l dC dI cy h_ears_1 h_ears_1_tree h_ears_1_row h_ears_1_made h_ears_1_fresh H.size ((31 : Int32) - x13) c_ears_1_lag c_ears_1_lagSum c_ears_1_row _ hw) (cwV 1 hts (goodV mw_575 mw_572 mw_573 mw_574 mw_147) rfl rfl rfl (by decide +kernel) ⟨Nat.le_of_ble_eq_true rfl, Nat.le_of_ble_eq_true rfl⟩) ⟨PX_blind, va_recv hK hPc (ci := 3) (q0 := 0) rfl rfl, PX_pre hPc hK hDc hG⟩ rfl rfl hl.1 rfl (lv_room (Nat.le_of_ble_eq_true rfl)) dX6_compare_54 ⟨Nat.zero_le _, Nat.zero_le _⟩) hS (fun q _ h => hFc q h) hFc ?_; clear hw hS; intro r26 _ t H1 locs1 ht hvm hw hB hz1 hk1 hS
      obtain ⟨hP1, -, -⟩ := hB
      rw [ht] at hP1
      replace hP := jC0 hP hD [5, 6] [0, 1, 2, 3, 4] rfl hk1 hP1 (w_X6_compare h0 h_numbers h_book h_buffer h_ears h_frame h_records h_ears_0 h_ears_1 h_ears_0_tree h_ears_0_row h_ears_0_made h_ears_0_fresh h_ears_1_tree h_ears_1_row h_ears_1_made h_ears_1_fresh cy c_numbers c_ears_0_lag c_ears_0_lagSum c_ears_0_row c_ears_1_lag c_ears_1_lagSum c_ears_1_row) rfl rfl rfl 7 rfl (by decide +kernel); clear hD; obtain ⟨hP, hD⟩ := hP
      replace hP : va_P (dC, dI) vwCl (w_X6_compare h0 h_numbers h_book h_buffer h_ears h_frame h_records h_ears_0 h_ears_1 h_ears_0_tree h_ears_0_row h_ears_0_made h_ears_0_fresh h_ears_1_tree h_ears_1_row h_ears_1_made h_ears_1_fresh cy c_numbers c_ears_0_lag c_ears_0_lagSum c_ears_0_row c_ears_1_lag c_ears_1_lagSum c_ears_1_row) H1 := hP
      replace hD : va_D A (w_X6_compare h0 h_numbers h_book h_buffer h_ears h_frame h_records h_ears_0 h_ears_1 h_ears_0_tree h_ears_0_row h_ears_0_made h_ears_0_fresh h_ears_1_tree h_ears_1_row h_ears_1_made h_ears_1_fresh cy c_numbers c_ears_0_lag c_ears_0_lagSum c_ears_0_row c_ears_1_lag c_ears_1_lagSum c_ears_1_row) := hD
      clear hPc hDc hFc hP1 hk1 hz1 hvm ht; clear t; clear H locs; obtain ⟨H, hH⟩ : ∃ H, H = H1 := ⟨_, rfl⟩; obtain ⟨locs, hlo⟩ : ∃ L, L = locs1 := ⟨_, rfl⟩; subst hH; subst hlo
      refine W.widen (k := 0) (n := 0) (Nat.le_refl 0) (Nat.le_refl 0) ?_
      refine lv_iload hx hb dX6_compare_57 (lv_at hl 0 rfl) ?_
      refine lv_isub hx hb dX6_compare_59 ?_
      refine va_mabs hx hb (by rw [hml]; exact hl.1.symm) hown (hts _ (List.mem_cons_of_mem _ mw_571)) (hts _ (List.mem_cons_of_mem _ mw_296)) (hts _ (List.mem_cons_of_mem _ mw_76)) (hts _ (List.mem_cons_of_mem _ mw_297)) (Nat.le_of_ble_eq_true rfl) (Nat.le_of_ble_eq_true rfl) (Nat.zero_le _) (Nat.zero_le _) dX6_compare_60 ?_
      refine lv_topi (fun x27 e_x27 => ?_)
      replace hw := hw x27 e_x27
      clear e_x27
      refine lv_istore (lv' := [(8, .int x27), (7, .int r25), (6, .int x13), (5, .int (1 : Int32)), (4, .int x14), (3, .int x15), (0, .ref h0), (1, .int v1), (2, .int v2)]) hx hb dX6_compare_63 hl (by decide) rfl ?_; clear hl; clear ls; intro ls hl
      refine lv_iload_n hx hb dX6_compare_65 rfl (lv_at hl 5 rfl) ?_
      refine lv_iload hx hb dX6_compare_66 (lv_at hl 0 rfl) ?_
      refine lv_iadd hx hb dX6_compare_68 ?_
      refine lv_topi (fun x28 e_x28 => ?_)
      replace hw := hw x28 e_x28
      clear e_x28
      refine lv_istore_n (lv' := [(3, .int x28), (8, .int x27), (7, .int r25), (6, .int x13), (5, .int (1 : Int32)), (4, .int x14), (0, .ref h0), (1, .int v1), (2, .int v2)]) hx hb dX6_compare_69 rfl hl (by decide) rfl ?_; clear hl; clear ls; intro ls hl
      refine lv_iload hx hb dX6_compare_70 (lv_at hl 5 rfl) ?_
      refine lv_iload hx hb dX6_compare_72 (lv_at hl 1 rfl) ?_
      refine va_mmax hx hb (by rw [hml]; exact hl.1.symm) hown (hts _ (List.mem_cons_of_mem _ mw_502)) (hts _ (List.mem_cons_of_mem _ mw_75)) (hts _ (List.mem_cons_of_mem _ mw_76)) (hts _ (List.mem_cons_of_mem _ mw_77)) (Nat.le_of_ble_eq_true rfl) (Nat.le_of_ble_eq_true rfl) (Nat.zero_le _) (Nat.zero_le _) dX6_compare_74 ?_
      refine lv_topi (fun x29 e_x29 => ?_)
      replace hw := hw x29 e_x29
      clear e_x29
      refine lv_istore (lv' := [(4, .int x29), (3, .int x28), (8, .int x27), (7, .int r25), (6, .int x13), (5, .int (1 : Int32)), (0, .ref h0), (1, .int v1), (2, .int v2)]) hx hb dX6_compare_77 hl (by decide) rfl ?_; clear hl; clear ls; intro ls hl
      refine lv_iinc (v := x13 + 1) (lv' := [(6, .int (x13 + 1)), (4, .int x29), (3, .int x28), (8, .int x27), (7, .int r25), (5, .int (1 : Int32)), (0, .ref h0), (1, .int v1), (2, .int v2)]) hx hb dX6_compare_79 hl (k := 4) rfl rfl (by decide) rfl ?_; clear hl; clear ls; intro ls hl
      refine lv_goto (tgt := 17) hx hb dX6_compare_82 (by decide) ?_
      exact ih12 (x13 + 1) x29 x28 hw H locs ls hP hD hS (lv_sub hl [0, 5, 1, 2, 6, 7, 8] rfl)
  · replace hw := hw.2 c9
    refine lv_aload_n hx hb dX6_compare_24 rfl (lv_at hl 4 rfl) ?_
    refine va_get (D := (dC, dI)) (ci := 6) (v := .ref h_numbers) (C := RX6) (T := TX6) (N := 6) hx hb hts inX6 hown hK hP 0 rfl rfl 0 (by decide) (hts _ (List.mem_cons_of_mem _ mw_152)) (fun _ h9 => h9) rfl dX6_compare_25 ?_
    refine lv_iload hx hb dX6_compare_28 (lv_at hl 1 rfl) ?_
    refine lv_bipush (v := 32) hx hb dX6_compare_30 (by decide) ?_
    refine lv_iload_n hx hb dX6_compare_32 rfl (lv_at hl 5 rfl) ?_
    refine lv_imul hx hb dX6_compare_33 ?_
    refine lv_iload hx hb dX6_compare_34 (lv_at hl 0 rfl) ?_
    refine lv_iadd hx hb dX6_compare_36 ?_
    have hPc := pSub (ws' := (w_X11_sampleOf h_numbers cy 54 c_numbers)) hP [1] rfl
    have hDc := dSub (ws' := (w_X11_sampleOf h_numbers cy 54 c_numbers)) hD [1] (by decide) rfl
    have hFc := va_free (wc := (w_X11_sampleOf h_numbers cy 54 c_numbers)) hD hS hA [1] rfl
    refine va_calli (va_runSN (As := [.ref h_numbers, .int (0 : Int32), .int (((32 : Int32) * v1) + x6)]) (rest := []) ⟨hx, hb, hml, hown, hts⟩ (c_X11_sampleOf l dC dI cy h_numbers 54 H.size (0 : Int32) (((32 : Int32) * v1) + x6) c_numbers _ hw) ⟨va_cnB 3 hts (goodG mw_268) rfl rfl rfl (hG.1 ("HeadsetBands$Player", 149, ⟨"HeadsetBands", "sampleOf", "([III)I"⟩, "HeadsetBands") (by decide +kernel)) (hts _ (List.mem_cons_of_mem _ mw_2)) (by decide +kernel) ⟨Nat.le_of_ble_eq_true rfl, Nat.le_of_ble_eq_true rfl⟩, (hts _ (List.mem_cons_of_mem _ mw_267)), trivial⟩ ⟨PX_blind, PX_pre hPc hK hDc hG⟩ rfl rfl hl.1 rfl (lv_room (Nat.le_of_ble_eq_true rfl)) dX6_compare_37 ⟨Nat.zero_le _, Nat.zero_le _⟩) hS (fun q _ h => hFc q h) hFc ?_; clear hw hS; intro r30 _ t H1 locs1 ht hvm hw hB hz1 hk1 hS
    obtain ⟨hP1, -, -⟩ := hB
    rw [ht] at hP1
    replace hP := jC0 hP hD [1] [0, 2, 3, 4, 5, 6] rfl hk1 hP1 (w_X6_compare h0 h_numbers h_book h_buffer h_ears h_frame h_records h_ears_0 h_ears_1 h_ears_0_tree h_ears_0_row h_ears_0_made h_ears_0_fresh h_ears_1_tree h_ears_1_row h_ears_1_made h_ears_1_fresh cy c_numbers c_ears_0_lag c_ears_0_lagSum c_ears_0_row c_ears_1_lag c_ears_1_lagSum c_ears_1_row) rfl rfl rfl 7 rfl (by decide +kernel); clear hD; obtain ⟨hP, hD⟩ := hP
    replace hP : va_P (dC, dI) vwCl (w_X6_compare h0 h_numbers h_book h_buffer h_ears h_frame h_records h_ears_0 h_ears_1 h_ears_0_tree h_ears_0_row h_ears_0_made h_ears_0_fresh h_ears_1_tree h_ears_1_row h_ears_1_made h_ears_1_fresh cy c_numbers c_ears_0_lag c_ears_0_lagSum c_ears_0_row c_ears_1_lag c_ears_1_lagSum c_ears_1_row) H1 := hP
    replace hD : va_D A (w_X6_compare h0 h_numbers h_book h_buffer h_ears h_frame h_records h_ears_0 h_ears_1 h_ears_0_tree h_ears_0_row h_ears_0_made h_ears_0_fresh h_ears_1_tree h_ears_1_row h_ears_1_made h_ears_1_fresh cy c_numbers c_ears_0_lag c_ears_0_lagSum c_ears_0_row c_ears_1_lag c_ears_1_lagSum c_ears_1_row) := hD
    clear hPc hDc hFc hP1 hk1 hz1 hvm ht; clear t; clear H locs; obtain ⟨H, hH⟩ : ∃ H, H = H1 := ⟨_, rfl⟩; obtain ⟨locs, hlo⟩ : ∃ L, L = locs1 := ⟨_, rfl⟩; subst hH; subst hlo
    refine W.widen (k := 0) (n := 0) (Nat.le_refl 0) (Nat.le_refl 0) ?_
    refine lv_istore (lv' := [(7, .int r30), (6, .int x6), (5, .int (0 : Int32)), (4, .int x7), (3, .int x8), (0, .ref h0), (1, .int v1), (2, .int v2)]) hx hb dX6_compare_40 hl (by decide) rfl ?_; clear hl; clear ls; intro ls hl
    refine lv_aload_n hx hb dX6_compare_42 rfl (lv_at hl 5 rfl) ?_
    refine va_get (D := (dC, dI)) (ci := 6) (v := .ref h_ears) (C := RX6) (T := TX6) (N := 6) hx hb hts inX6 hown hK hP 0 rfl rfl 3 (by decide) (hts _ (List.mem_cons_of_mem _ mw_148)) (fun _ h9 => h9) rfl dX6_compare_43 ?_
    refine lv_iload hx hb dX6_compare_46 (lv_at hl 2 rfl) ?_
    refine xald0 hx hb hK hP 2 3 rfl rfl dX6_compare_48 ?_
    refine lv_bipush (v := 31) hx hb dX6_compare_49 (by decide) ?_
    refine lv_iload hx hb dX6_compare_51 (lv_at hl 1 rfl) ?_
    refine lv_isub hx hb dX6_compare_53 ?_
    have hPc := pSub (ws' := (w_X3_sampleAgo h_ears_0 h_ears_0_tree h_ears_0_row h_ears_0_made h_ears_0_fresh cy c_ears_0_lag c_ears_0_lagSum c_ears_0_row)) hP [3, 4] rfl
    have hDc := dSub (ws' := (w_X3_sampleAgo h_ears_0 h_ears_0_tree h_ears_0_row h_ears_0_made h_ears_0_fresh cy c_ears_0_lag c_ears_0_lagSum c_ears_0_row)) hD [3, 4] (by decide) rfl
    have hFc := va_free (wc := (w_X3_sampleAgo h_ears_0 h_ears_0_tree h_ears_0_row h_ears_0_made h_ears_0_fresh cy c_ears_0_lag c_ears_0_lagSum c_ears_0_row)) hD hS hA [3, 4] rfl
    refine va_calli (va_runV (As := [.int ((31 : Int32) - x6)]) (rest := []) ⟨hx, hb, hml, hown, hts⟩ (c_X3_sampleAgo l dC dI cy h_ears_0 h_ears_0_tree h_ears_0_row h_ears_0_made h_ears_0_fresh H.size ((31 : Int32) - x6) c_ears_0_lag c_ears_0_lagSum c_ears_0_row _ hw) (cwV 1 hts (goodV mw_575 mw_572 mw_573 mw_574 mw_147) rfl rfl rfl (by decide +kernel) ⟨Nat.le_of_ble_eq_true rfl, Nat.le_of_ble_eq_true rfl⟩) ⟨PX_blind, va_recv hK hPc (ci := 3) (q0 := 0) rfl rfl, PX_pre hPc hK hDc hG⟩ rfl rfl hl.1 rfl (lv_room (Nat.le_of_ble_eq_true rfl)) dX6_compare_54 ⟨Nat.zero_le _, Nat.zero_le _⟩) hS (fun q _ h => hFc q h) hFc ?_; clear hw hS; intro r31 _ t H1 locs1 ht hvm hw hB hz1 hk1 hS
    obtain ⟨hP1, -, -⟩ := hB
    rw [ht] at hP1
    replace hP := jC0 hP hD [3, 4] [0, 1, 2, 5, 6] rfl hk1 hP1 (w_X6_compare h0 h_numbers h_book h_buffer h_ears h_frame h_records h_ears_0 h_ears_1 h_ears_0_tree h_ears_0_row h_ears_0_made h_ears_0_fresh h_ears_1_tree h_ears_1_row h_ears_1_made h_ears_1_fresh cy c_numbers c_ears_0_lag c_ears_0_lagSum c_ears_0_row c_ears_1_lag c_ears_1_lagSum c_ears_1_row) rfl rfl rfl 7 rfl (by decide +kernel); clear hD; obtain ⟨hP, hD⟩ := hP
    replace hP : va_P (dC, dI) vwCl (w_X6_compare h0 h_numbers h_book h_buffer h_ears h_frame h_records h_ears_0 h_ears_1 h_ears_0_tree h_ears_0_row h_ears_0_made h_ears_0_fresh h_ears_1_tree h_ears_1_row h_ears_1_made h_ears_1_fresh cy c_numbers c_ears_0_lag c_ears_0_lagSum c_ears_0_row c_ears_1_lag c_ears_1_lagSum c_ears_1_row) H1 := hP
    replace hD : va_D A (w_X6_compare h0 h_numbers h_book h_buffer h_ears h_frame h_records h_ears_0 h_ears_1 h_ears_0_tree h_ears_0_row h_ears_0_made h_ears_0_fresh h_ears_1_tree h_ears_1_row h_ears_1_made h_ears_1_fresh cy c_numbers c_ears_0_lag c_ears_0_lagSum c_ears_0_row c_ears_1_lag c_ears_1_lagSum c_ears_1_row) := hD
    clear hPc hDc hFc hP1 hk1 hz1 hvm ht; clear t; clear H locs; obtain ⟨H, hH⟩ : ∃ H, H = H1 := ⟨_, rfl⟩; obtain ⟨locs, hlo⟩ : ∃ L, L = locs1 := ⟨_, rfl⟩; subst hH; subst hlo
    refine W.widen (k := 0) (n := 0) (Nat.le_refl 0) (Nat.le_refl 0) ?_
    refine lv_iload hx hb dX6_compare_57 (lv_at hl 0 rfl) ?_
    refine lv_isub hx hb dX6_compare_59 ?_
    refine va_mabs hx hb (by rw [hml]; exact hl.1.symm) hown (hts _ (List.mem_cons_of_mem _ mw_571)) (hts _ (List.mem_cons_of_mem _ mw_296)) (hts _ (List.mem_cons_of_mem _ mw_76)) (hts _ (List.mem_cons_of_mem _ mw_297)) (Nat.le_of_ble_eq_true rfl) (Nat.le_of_ble_eq_true rfl) (Nat.zero_le _) (Nat.zero_le _) dX6_compare_60 ?_
    refine lv_topi (fun x32 e_x32 => ?_)
    replace hw := hw x32 e_x32
    clear e_x32
    refine lv_istore (lv' := [(8, .int x32), (7, .int r30), (6, .int x6), (5, .int (0 : Int32)), (4, .int x7), (3, .int x8), (0, .ref h0), (1, .int v1), (2, .int v2)]) hx hb dX6_compare_63 hl (by decide) rfl ?_; clear hl; clear ls; intro ls hl
    refine lv_iload_n hx hb dX6_compare_65 rfl (lv_at hl 5 rfl) ?_
    refine lv_iload hx hb dX6_compare_66 (lv_at hl 0 rfl) ?_
    refine lv_iadd hx hb dX6_compare_68 ?_
    refine lv_topi (fun x33 e_x33 => ?_)
    replace hw := hw x33 e_x33
    clear e_x33
    refine lv_istore_n (lv' := [(3, .int x33), (8, .int x32), (7, .int r30), (6, .int x6), (5, .int (0 : Int32)), (4, .int x7), (0, .ref h0), (1, .int v1), (2, .int v2)]) hx hb dX6_compare_69 rfl hl (by decide) rfl ?_; clear hl; clear ls; intro ls hl
    refine lv_iload hx hb dX6_compare_70 (lv_at hl 5 rfl) ?_
    refine lv_iload hx hb dX6_compare_72 (lv_at hl 1 rfl) ?_
    refine va_mmax hx hb (by rw [hml]; exact hl.1.symm) hown (hts _ (List.mem_cons_of_mem _ mw_502)) (hts _ (List.mem_cons_of_mem _ mw_75)) (hts _ (List.mem_cons_of_mem _ mw_76)) (hts _ (List.mem_cons_of_mem _ mw_77)) (Nat.le_of_ble_eq_true rfl) (Nat.le_of_ble_eq_true rfl) (Nat.zero_le _) (Nat.zero_le _) dX6_compare_74 ?_
    refine lv_topi (fun x34 e_x34 => ?_)
    replace hw := hw x34 e_x34
    clear e_x34
    refine lv_istore (lv' := [(4, .int x34), (3, .int x33), (8, .int x32), (7, .int r30), (6, .int x6), (5, .int (0 : Int32)), (0, .ref h0), (1, .int v1), (2, .int v2)]) hx hb dX6_compare_77 hl (by decide) rfl ?_; clear hl; clear ls; intro ls hl
    refine lv_iinc (v := x6 + 1) (lv' := [(6, .int (x6 + 1)), (4, .int x34), (3, .int x33), (8, .int x32), (7, .int r30), (5, .int (0 : Int32)), (0, .ref h0), (1, .int v1), (2, .int v2)]) hx hb dX6_compare_79 hl (k := 4) rfl rfl (by decide) rfl ?_; clear hl; clear ls; intro ls hl
    refine lv_goto (tgt := 17) hx hb dX6_compare_82 (by decide) ?_
    exact ih5 (x6 + 1) x34 x33 hw H locs ls hP hD hS (lv_sub hl [0, 5, 1, 2, 6, 7, 8] rfl)
set_option maxHeartbeats 4000000 in
set_option maxRecDepth 100000 in
theorem c_X6_hearCode (l : Launch) (dC : Nat → ClassId) (dI : Nat → Nat → Nat) (cy : Nat → ClassId) (h0 h_numbers h_book h_buffer h_ears h_frame h_records h_frame_split h_frame_told h_frame_quants h_frame_backs h_frame_rejoined h_frame_scales h_frame_needs h_frame_bits k1 k1_bytes h_ears_0 h_ears_1 h_ears_0_tree h_ears_0_row h_ears_0_made h_ears_0_fresh h_ears_0_tree_memoriesA h_ears_0_tree_memoriesB h_ears_0_tree_row h_ears_0_tree_next h_ears_1_tree h_ears_1_row h_ears_1_made h_ears_1_fresh h_ears_1_tree_memoriesA h_ears_1_tree_memoriesB h_ears_1_tree_row h_ears_1_tree_next : Nat) (sz : Nat) (c_frame_twins : Int32) (c_frame_method : Int32) (c_frame_pool : Int32) (p1_size : Int32) (p1_at : Int32) (p1_bytes : Nat → Int32) (c_frame_scales : Nat → Int32) (c_numbers : Nat → Int32) (c_frame_needs : Nat → Int32) (c_frame_bits : Nat → Int32) (c_frame_quants : Nat → Int32) (c_frame_backs : Nat → Int32) (c_frame_rejoined : Nat → Int32) (c_ears_0_lag : Int32) (c_ears_0_lagSum : Int32) (c_ears_0_tree_row : Nat → Int32) (c_ears_0_tree_memoriesB : Nat → Int32) (c_ears_0_tree_memoriesA : Nat → Int32) (c_ears_0_tree_next : Nat → Int32) (c_ears_0_fresh : Nat → Int32) (c_ears_0_row : Nat → Int32) (c_ears_0_made : Nat → Int32) (c_ears_1_lag : Int32) (c_ears_1_lagSum : Int32) (c_ears_1_tree_row : Nat → Int32) (c_ears_1_tree_memoriesB : Nat → Int32) (c_ears_1_tree_memoriesA : Nat → Int32) (c_ears_1_tree_next : Nat → Int32) (c_ears_1_fresh : Nat → Int32) (c_ears_1_row : Nat → Int32) (c_ears_1_made : Nat → Int32) (post : Int32 → Int32 → Int32 → Int32 → (Nat → Int32) → (Nat → Int32) → (Nat → Int32) → (Nat → Int32) → (Nat → Int32) → (Nat → Int32) → (Nat → Int32) → Int32 → Int32 → (Nat → Int32) → (Nat → Int32) → (Nat → Int32) → (Nat → Int32) → (Nat → Int32) → (Nat → Int32) → (Nat → Int32) → Int32 → Int32 → (Nat → Int32) → (Nat → Int32) → (Nat → Int32) → (Nat → Int32) → (Nat → Int32) → (Nat → Int32) → (Nat → Int32) → Prop) (hw : wp_X6_hearCode c_frame_twins c_frame_method c_frame_pool p1_size p1_at p1_bytes c_frame_scales c_numbers c_frame_needs c_frame_bits c_frame_quants c_frame_backs c_frame_rejoined c_ears_0_lag c_ears_0_lagSum c_ears_0_tree_row c_ears_0_tree_memoriesB c_ears_0_tree_memoriesA c_ears_0_tree_next c_ears_0_fresh c_ears_0_row c_ears_0_made c_ears_1_lag c_ears_1_lagSum c_ears_1_tree_row c_ears_1_tree_memoriesB c_ears_1_tree_memoriesA c_ears_1_tree_next c_ears_1_fresh c_ears_1_row c_ears_1_made post) : Met l yX6_hearCode wsX6_hearCode ({ frames := 3, cells := 0, slots := 0, locals := 90 }) (PX dC dI cy [.ref h0, .ref k1] sz (w_X6_hearCode h0 h_numbers h_book h_buffer h_ears h_frame h_records h_frame_split h_frame_told h_frame_quants h_frame_backs h_frame_rejoined h_frame_scales h_frame_needs h_frame_bits k1 k1_bytes h_ears_0 h_ears_1 h_ears_0_tree h_ears_0_row h_ears_0_made h_ears_0_fresh h_ears_0_tree_memoriesA h_ears_0_tree_memoriesB h_ears_0_tree_row h_ears_0_tree_next h_ears_1_tree h_ears_1_row h_ears_1_made h_ears_1_fresh h_ears_1_tree_memoriesA h_ears_1_tree_memoriesB h_ears_1_tree_row h_ears_1_tree_next cy c_frame_twins c_frame_method c_frame_pool p1_size p1_at p1_bytes c_frame_scales c_numbers c_frame_needs c_frame_bits c_frame_quants c_frame_backs c_frame_rejoined c_ears_0_lag c_ears_0_lagSum c_ears_0_tree_row c_ears_0_tree_memoriesB c_ears_0_tree_memoriesA c_ears_0_tree_next c_ears_0_fresh c_ears_0_row c_ears_0_made c_ears_1_lag c_ears_1_lagSum c_ears_1_tree_row c_ears_1_tree_memoriesB c_ears_1_tree_memoriesA c_ears_1_tree_next c_ears_1_fresh c_ears_1_row c_ears_1_made)) (va_Qv (fun (u : Int32 × Int32 × Int32 × Int32 × (Nat → Int32) × (Nat → Int32) × (Nat → Int32) × (Nat → Int32) × (Nat → Int32) × (Nat → Int32) × (Nat → Int32) × Int32 × Int32 × (Nat → Int32) × (Nat → Int32) × (Nat → Int32) × (Nat → Int32) × (Nat → Int32) × (Nat → Int32) × (Nat → Int32) × Int32 × Int32 × (Nat → Int32) × (Nat → Int32) × (Nat → Int32) × (Nat → Int32) × (Nat → Int32) × (Nat → Int32) × (Nat → Int32)) => post u.1 u.2.1 u.2.2.1 u.2.2.2.1 u.2.2.2.2.1 u.2.2.2.2.2.1 u.2.2.2.2.2.2.1 u.2.2.2.2.2.2.2.1 u.2.2.2.2.2.2.2.2.1 u.2.2.2.2.2.2.2.2.2.1 u.2.2.2.2.2.2.2.2.2.2.1 u.2.2.2.2.2.2.2.2.2.2.2.1 u.2.2.2.2.2.2.2.2.2.2.2.2.1 u.2.2.2.2.2.2.2.2.2.2.2.2.2.1 u.2.2.2.2.2.2.2.2.2.2.2.2.2.2.1 u.2.2.2.2.2.2.2.2.2.2.2.2.2.2.2.1 u.2.2.2.2.2.2.2.2.2.2.2.2.2.2.2.2.1 u.2.2.2.2.2.2.2.2.2.2.2.2.2.2.2.2.2.1 u.2.2.2.2.2.2.2.2.2.2.2.2.2.2.2.2.2.2.1 u.2.2.2.2.2.2.2.2.2.2.2.2.2.2.2.2.2.2.2.1 u.2.2.2.2.2.2.2.2.2.2.2.2.2.2.2.2.2.2.2.2.1 u.2.2.2.2.2.2.2.2.2.2.2.2.2.2.2.2.2.2.2.2.2.1 u.2.2.2.2.2.2.2.2.2.2.2.2.2.2.2.2.2.2.2.2.2.2.1 u.2.2.2.2.2.2.2.2.2.2.2.2.2.2.2.2.2.2.2.2.2.2.2.1 u.2.2.2.2.2.2.2.2.2.2.2.2.2.2.2.2.2.2.2.2.2.2.2.2.1 u.2.2.2.2.2.2.2.2.2.2.2.2.2.2.2.2.2.2.2.2.2.2.2.2.2.1 u.2.2.2.2.2.2.2.2.2.2.2.2.2.2.2.2.2.2.2.2.2.2.2.2.2.2.1 u.2.2.2.2.2.2.2.2.2.2.2.2.2.2.2.2.2.2.2.2.2.2.2.2.2.2.2.1 u.2.2.2.2.2.2.2.2.2.2.2.2.2.2.2.2.2.2.2.2.2.2.2.2.2.2.2.2) (QX dC dI cy (va_A (w_X6_hearCode h0 h_numbers h_book h_buffer h_ears h_frame h_records h_frame_split h_frame_told h_frame_quants h_frame_backs h_frame_rejoined h_frame_scales h_frame_needs h_frame_bits k1 k1_bytes h_ears_0 h_ears_1 h_ears_0_tree h_ears_0_row h_ears_0_made h_ears_0_fresh h_ears_0_tree_memoriesA h_ears_0_tree_memoriesB h_ears_0_tree_row h_ears_0_tree_next h_ears_1_tree h_ears_1_row h_ears_1_made h_ears_1_fresh h_ears_1_tree_memoriesA h_ears_1_tree_memoriesB h_ears_1_tree_row h_ears_1_tree_next cy c_frame_twins c_frame_method c_frame_pool p1_size p1_at p1_bytes c_frame_scales c_numbers c_frame_needs c_frame_bits c_frame_quants c_frame_backs c_frame_rejoined c_ears_0_lag c_ears_0_lagSum c_ears_0_tree_row c_ears_0_tree_memoriesB c_ears_0_tree_memoriesA c_ears_0_tree_next c_ears_0_fresh c_ears_0_row c_ears_0_made c_ears_1_lag c_ears_1_lagSum c_ears_1_tree_row c_ears_1_tree_memoriesB c_ears_1_tree_memoriesA c_ears_1_tree_next c_ears_1_fresh c_ears_1_row c_ears_1_made) sz) (fun (u : Int32 × Int32 × Int32 × Int32 × (Nat → Int32) × (Nat → Int32) × (Nat → Int32) × (Nat → Int32) × (Nat → Int32) × (Nat → Int32) × (Nat → Int32) × Int32 × Int32 × (Nat → Int32) × (Nat → Int32) × (Nat → Int32) × (Nat → Int32) × (Nat → Int32) × (Nat → Int32) × (Nat → Int32) × Int32 × Int32 × (Nat → Int32) × (Nat → Int32) × (Nat → Int32) × (Nat → Int32) × (Nat → Int32) × (Nat → Int32) × (Nat → Int32)) => w_X6_hearCode h0 h_numbers h_book h_buffer h_ears h_frame h_records h_frame_split h_frame_told h_frame_quants h_frame_backs h_frame_rejoined h_frame_scales h_frame_needs h_frame_bits k1 k1_bytes h_ears_0 h_ears_1 h_ears_0_tree h_ears_0_row h_ears_0_made h_ears_0_fresh h_ears_0_tree_memoriesA h_ears_0_tree_memoriesB h_ears_0_tree_row h_ears_0_tree_next h_ears_1_tree h_ears_1_row h_ears_1_made h_ears_1_fresh h_ears_1_tree_memoriesA h_ears_1_tree_memoriesB h_ears_1_tree_row h_ears_1_tree_next cy u.1 u.2.1 u.2.2.1 p1_size u.2.2.2.1 p1_bytes u.2.2.2.2.1 u.2.2.2.2.2.1 u.2.2.2.2.2.2.1 u.2.2.2.2.2.2.2.1 u.2.2.2.2.2.2.2.2.1 u.2.2.2.2.2.2.2.2.2.1 u.2.2.2.2.2.2.2.2.2.2.1 u.2.2.2.2.2.2.2.2.2.2.2.1 u.2.2.2.2.2.2.2.2.2.2.2.2.1 u.2.2.2.2.2.2.2.2.2.2.2.2.2.1 u.2.2.2.2.2.2.2.2.2.2.2.2.2.2.1 u.2.2.2.2.2.2.2.2.2.2.2.2.2.2.2.1 u.2.2.2.2.2.2.2.2.2.2.2.2.2.2.2.2.1 u.2.2.2.2.2.2.2.2.2.2.2.2.2.2.2.2.2.1 u.2.2.2.2.2.2.2.2.2.2.2.2.2.2.2.2.2.2.1 u.2.2.2.2.2.2.2.2.2.2.2.2.2.2.2.2.2.2.2.1 u.2.2.2.2.2.2.2.2.2.2.2.2.2.2.2.2.2.2.2.2.1 u.2.2.2.2.2.2.2.2.2.2.2.2.2.2.2.2.2.2.2.2.2.1 u.2.2.2.2.2.2.2.2.2.2.2.2.2.2.2.2.2.2.2.2.2.2.1 u.2.2.2.2.2.2.2.2.2.2.2.2.2.2.2.2.2.2.2.2.2.2.2.1 u.2.2.2.2.2.2.2.2.2.2.2.2.2.2.2.2.2.2.2.2.2.2.2.2.1 u.2.2.2.2.2.2.2.2.2.2.2.2.2.2.2.2.2.2.2.2.2.2.2.2.2.1 u.2.2.2.2.2.2.2.2.2.2.2.2.2.2.2.2.2.2.2.2.2.2.2.2.2.2.1 u.2.2.2.2.2.2.2.2.2.2.2.2.2.2.2.2.2.2.2.2.2.2.2.2.2.2.2.1 u.2.2.2.2.2.2.2.2.2.2.2.2.2.2.2.2.2.2.2.2.2.2.2.2.2.2.2.2)) (va_A (w_X6_hearCode h0 h_numbers h_book h_buffer h_ears h_frame h_records h_frame_split h_frame_told h_frame_quants h_frame_backs h_frame_rejoined h_frame_scales h_frame_needs h_frame_bits k1 k1_bytes h_ears_0 h_ears_1 h_ears_0_tree h_ears_0_row h_ears_0_made h_ears_0_fresh h_ears_0_tree_memoriesA h_ears_0_tree_memoriesB h_ears_0_tree_row h_ears_0_tree_next h_ears_1_tree h_ears_1_row h_ears_1_made h_ears_1_fresh h_ears_1_tree_memoriesA h_ears_1_tree_memoriesB h_ears_1_tree_row h_ears_1_tree_next cy c_frame_twins c_frame_method c_frame_pool p1_size p1_at p1_bytes c_frame_scales c_numbers c_frame_needs c_frame_bits c_frame_quants c_frame_backs c_frame_rejoined c_ears_0_lag c_ears_0_lagSum c_ears_0_tree_row c_ears_0_tree_memoriesB c_ears_0_tree_memoriesA c_ears_0_tree_next c_ears_0_fresh c_ears_0_row c_ears_0_made c_ears_1_lag c_ears_1_lagSum c_ears_1_tree_row c_ears_1_tree_memoriesB c_ears_1_tree_memoriesA c_ears_1_tree_next c_ears_1_fresh c_ears_1_row c_ears_1_made) sz)) 0 0 (va_A (w_X6_hearCode h0 h_numbers h_book h_buffer h_ears h_frame h_records h_frame_split h_frame_told h_frame_quants h_frame_backs h_frame_rejoined h_frame_scales h_frame_needs h_frame_bits k1 k1_bytes h_ears_0 h_ears_1 h_ears_0_tree h_ears_0_row h_ears_0_made h_ears_0_fresh h_ears_0_tree_memoriesA h_ears_0_tree_memoriesB h_ears_0_tree_row h_ears_0_tree_next h_ears_1_tree h_ears_1_row h_ears_1_made h_ears_1_fresh h_ears_1_tree_memoriesA h_ears_1_tree_memoriesB h_ears_1_tree_row h_ears_1_tree_next cy c_frame_twins c_frame_method c_frame_pool p1_size p1_at p1_bytes c_frame_scales c_numbers c_frame_needs c_frame_bits c_frame_quants c_frame_backs c_frame_rejoined c_ears_0_lag c_ears_0_lagSum c_ears_0_tree_row c_ears_0_tree_memoriesB c_ears_0_tree_memoriesA c_ears_0_tree_next c_ears_0_fresh c_ears_0_row c_ears_0_made c_ears_1_lag c_ears_1_lagSum c_ears_1_tree_row c_ears_1_tree_memoriesB c_ears_1_tree_memoriesA c_ears_1_tree_next c_ears_1_fresh c_ears_1_row c_ears_1_made) sz) := by
  refine Met.ofW (cc := cX6_hearCode) (maxL := 4) (ret := none) (by decide) rfl ?_
  intro p e s m args below meth c s₁ B hml hv
  obtain ⟨rfl, hsz, hP, hK, hD0, hG⟩ := hv
  have hx := B.exec
  have hb := B.bytes
  have hr := B.returns
  have hts := atoms_spec (ws := wsX6_hearCode) B.pre
  have hown : s.vm.findClass RX6 = some m.cls := findClass_of_methodNamed B.named
  have hlocks := B.notSynchronized
  subst hsz
  have hD := hD0.self (sz := s.heap.size)
  generalize hAe : va_A (w_X6_hearCode h0 h_numbers h_book h_buffer h_ears h_frame h_records h_frame_split h_frame_told h_frame_quants h_frame_backs h_frame_rejoined h_frame_scales h_frame_needs h_frame_bits k1 k1_bytes h_ears_0 h_ears_1 h_ears_0_tree h_ears_0_row h_ears_0_made h_ears_0_fresh h_ears_0_tree_memoriesA h_ears_0_tree_memoriesB h_ears_0_tree_row h_ears_0_tree_next h_ears_1_tree h_ears_1_row h_ears_1_made h_ears_1_fresh h_ears_1_tree_memoriesA h_ears_1_tree_memoriesB h_ears_1_tree_row h_ears_1_tree_next cy c_frame_twins c_frame_method c_frame_pool p1_size p1_at p1_bytes c_frame_scales c_numbers c_frame_needs c_frame_bits c_frame_quants c_frame_backs c_frame_rejoined c_ears_0_lag c_ears_0_lagSum c_ears_0_tree_row c_ears_0_tree_memoriesB c_ears_0_tree_memoriesA c_ears_0_tree_next c_ears_0_fresh c_ears_0_row c_ears_0_made c_ears_1_lag c_ears_1_lagSum c_ears_1_tree_row c_ears_1_tree_memoriesB c_ears_1_tree_memoriesA c_ears_1_tree_next c_ears_1_fresh c_ears_1_row c_ears_1_made) s.heap.size = A at hD ⊢
  have hA : ∀ q : Nat, s.heap.size ≤ q → A q := fun q h => by rw [← hAe]; exact Or.inr h
  have hS : va_S A s.heap s.heap [] := va_S.rf
  have hl := lv_entry ([.ref h0, .ref k1]) (n := 4) (Nat.le_of_ble_eq_true rfl)
  rw [lg_entry_eq]
  generalize (lg_sl ([.ref h0, .ref k1]) ++ List.replicate (4 - (lg_sl ([.ref h0, .ref k1])).length) Slot.unset).toArray = ls at hl ⊢
  replace hl : lv_has ls 4 [(0, .ref h0), (1, .ref k1)] := hl
  have inX3 : ∀ w ∈ u_ws RX3 TX3 6, w ∈ wsX6_hearCode := fun w h => List.mem_cons_of_mem _ (inlX3 w h)
  have inX4 : ∀ w ∈ u_ws RX4 TX4 11, w ∈ wsX6_hearCode := fun w h => List.mem_cons_of_mem _ (inlX4 w h)
  have inX6 : ∀ w ∈ u_ws RX6 TX6 6, w ∈ wsX6_hearCode := fun w h => List.mem_cons_of_mem _ (inlX6 w h)
  clear hAe hD0 B
  unfold wp_X6_hearCode at hw
  generalize hQe : MQ below _ _ s _ _ _ = Q0
  generalize ([.ref h0, .ref k1] : List Value).toArray = av at *
  obtain ⟨H, hH⟩ : ∃ H, H = s.heap := ⟨_, rfl⟩
  obtain ⟨locs, hlo⟩ : ∃ L : List Loc, L = [] := ⟨_, rfl⟩
  replace hP : va_P (dC, dI) vwCl (w_X6_hearCode h0 h_numbers h_book h_buffer h_ears h_frame h_records h_frame_split h_frame_told h_frame_quants h_frame_backs h_frame_rejoined h_frame_scales h_frame_needs h_frame_bits k1 k1_bytes h_ears_0 h_ears_1 h_ears_0_tree h_ears_0_row h_ears_0_made h_ears_0_fresh h_ears_0_tree_memoriesA h_ears_0_tree_memoriesB h_ears_0_tree_row h_ears_0_tree_next h_ears_1_tree h_ears_1_row h_ears_1_made h_ears_1_fresh h_ears_1_tree_memoriesA h_ears_1_tree_memoriesB h_ears_1_tree_row h_ears_1_tree_next cy c_frame_twins c_frame_method c_frame_pool p1_size p1_at p1_bytes c_frame_scales c_numbers c_frame_needs c_frame_bits c_frame_quants c_frame_backs c_frame_rejoined c_ears_0_lag c_ears_0_lagSum c_ears_0_tree_row c_ears_0_tree_memoriesB c_ears_0_tree_memoriesA c_ears_0_tree_next c_ears_0_fresh c_ears_0_row c_ears_0_made c_ears_1_lag c_ears_1_lagSum c_ears_1_tree_row c_ears_1_tree_memoriesB c_ears_1_tree_memoriesA c_ears_1_tree_next c_ears_1_fresh c_ears_1_row c_ears_1_made) H := by rw [hH]; exact hP
  replace hS : va_S A s.heap H locs := by rw [hH, hlo]; exact hS
  suffices hgo : W p l e ({ frames := 3, cells := 0, slots := 0, locals := 90 }) s m av below meth c H locs 0 0 Q0 (F0 m 0 ls []) by rw [hH, hlo] at hgo; exact hgo
  clear hH hlo
  refine lv_aload_n hx hb dX6_hearCode_0 rfl (lv_at hl 0 rfl) ?_
  refine va_get (D := (dC, dI)) (ci := 6) (v := .ref h_frame) (C := RX6) (T := TX6) (N := 6) hx hb hts inX6 hown hK hP 0 rfl rfl 4 (by decide) (hts _ (List.mem_cons_of_mem _ mw_150)) (fun _ h9 => h9) rfl dX6_hearCode_1 ?_
  refine lv_aload_n hx hb dX6_hearCode_4 rfl (lv_at hl 1 rfl) ?_
  refine lv_aload_n hx hb dX6_hearCode_5 rfl (lv_at hl 0 rfl) ?_
  refine va_get (D := (dC, dI)) (ci := 6) (v := .ref h_numbers) (C := RX6) (T := TX6) (N := 6) hx hb hts inX6 hown hK hP 0 rfl rfl 0 (by decide) (hts _ (List.mem_cons_of_mem _ mw_152)) (fun _ h9 => h9) rfl dX6_hearCode_6 ?_
  have hPc := pSub (ws' := (w_X4_read h_frame h_frame_split h_frame_told h_frame_quants h_frame_backs h_frame_rejoined h_frame_scales h_frame_needs h_frame_bits k1 k1_bytes h_numbers cy 54 c_frame_twins c_frame_method c_frame_pool p1_size p1_at p1_bytes c_frame_scales c_numbers c_frame_needs c_frame_bits c_frame_quants c_frame_backs)) hP [1, 2, 3, 4, 5, 6, 7, 8, 9] rfl
  have hDc := dSub (ws' := (w_X4_read h_frame h_frame_split h_frame_told h_frame_quants h_frame_backs h_frame_rejoined h_frame_scales h_frame_needs h_frame_bits k1 k1_bytes h_numbers cy 54 c_frame_twins c_frame_method c_frame_pool p1_size p1_at p1_bytes c_frame_scales c_numbers c_frame_needs c_frame_bits c_frame_quants c_frame_backs)) hD [1, 2, 3, 4, 5, 6, 7, 8, 9] (by decide) rfl
  have hFc := va_free (wc := (w_X4_read h_frame h_frame_split h_frame_told h_frame_quants h_frame_backs h_frame_rejoined h_frame_scales h_frame_needs h_frame_bits k1 k1_bytes h_numbers cy 54 c_frame_twins c_frame_method c_frame_pool p1_size p1_at p1_bytes c_frame_scales c_numbers c_frame_needs c_frame_bits c_frame_quants c_frame_backs)) hD hS hA [1, 2, 3, 4, 5, 6, 7, 8, 9] rfl
  refine va_callv (va_runV (As := [.ref k1, .ref h_numbers]) (rest := []) ⟨hx, hb, hml, hown, hts⟩ (c_X4_read l dC dI cy h_frame h_frame_split h_frame_told h_frame_quants h_frame_backs h_frame_rejoined h_frame_scales h_frame_needs h_frame_bits k1 k1_bytes h_numbers 54 H.size c_frame_twins c_frame_method c_frame_pool p1_size p1_at p1_bytes c_frame_scales c_numbers c_frame_needs c_frame_bits c_frame_quants c_frame_backs _ hw) (cwV 2 hts (goodV mw_512 mw_509 mw_510 mw_511 mw_20) rfl rfl rfl (by decide +kernel) ⟨Nat.le_of_ble_eq_true rfl, Nat.le_of_ble_eq_true rfl⟩) ⟨PX_blind, va_recv hK hPc (ci := 4) (q0 := 0) rfl rfl, PX_pre hPc hK hDc hG⟩ rfl rfl hl.1 rfl (lv_room (Nat.le_of_ble_eq_true rfl)) dX6_hearCode_9 ⟨Nat.zero_le _, Nat.zero_le _⟩) hS (fun q _ h => hFc q h) hFc ?_; clear hw hS; intro u t H1 locs1 ht hvm hw hB hz1 hk1 hS
  obtain ⟨x1, x2, x3, x4, f5, f6, f7, f8, f9⟩ := u
  obtain ⟨hP1, -, -⟩ := hB
  rw [ht] at hP1
  replace hP := jC0 hP hD [1, 2, 3, 4, 5, 6, 7, 8, 9] [0, 10, 11, 12, 13, 14, 15, 16, 17, 18, 19, 20, 21, 22, 23, 24, 25, 26, 27, 28, 29] rfl hk1 hP1 (w_X6_hearCode h0 h_numbers h_book h_buffer h_ears h_frame h_records h_frame_split h_frame_told h_frame_quants h_frame_backs h_frame_rejoined h_frame_scales h_frame_needs h_frame_bits k1 k1_bytes h_ears_0 h_ears_1 h_ears_0_tree h_ears_0_row h_ears_0_made h_ears_0_fresh h_ears_0_tree_memoriesA h_ears_0_tree_memoriesB h_ears_0_tree_row h_ears_0_tree_next h_ears_1_tree h_ears_1_row h_ears_1_made h_ears_1_fresh h_ears_1_tree_memoriesA h_ears_1_tree_memoriesB h_ears_1_tree_row h_ears_1_tree_next cy x1 x2 x3 p1_size x4 p1_bytes f5 c_numbers f6 f7 f8 f9 c_frame_rejoined c_ears_0_lag c_ears_0_lagSum c_ears_0_tree_row c_ears_0_tree_memoriesB c_ears_0_tree_memoriesA c_ears_0_tree_next c_ears_0_fresh c_ears_0_row c_ears_0_made c_ears_1_lag c_ears_1_lagSum c_ears_1_tree_row c_ears_1_tree_memoriesB c_ears_1_tree_memoriesA c_ears_1_tree_next c_ears_1_fresh c_ears_1_row c_ears_1_made) rfl rfl rfl 30 rfl (by decide +kernel); clear hD; obtain ⟨hP, hD⟩ := hP
  replace hP : va_P (dC, dI) vwCl (w_X6_hearCode h0 h_numbers h_book h_buffer h_ears h_frame h_records h_frame_split h_frame_told h_frame_quants h_frame_backs h_frame_rejoined h_frame_scales h_frame_needs h_frame_bits k1 k1_bytes h_ears_0 h_ears_1 h_ears_0_tree h_ears_0_row h_ears_0_made h_ears_0_fresh h_ears_0_tree_memoriesA h_ears_0_tree_memoriesB h_ears_0_tree_row h_ears_0_tree_next h_ears_1_tree h_ears_1_row h_ears_1_made h_ears_1_fresh h_ears_1_tree_memoriesA h_ears_1_tree_memoriesB h_ears_1_tree_row h_ears_1_tree_next cy x1 x2 x3 p1_size x4 p1_bytes f5 c_numbers f6 f7 f8 f9 c_frame_rejoined c_ears_0_lag c_ears_0_lagSum c_ears_0_tree_row c_ears_0_tree_memoriesB c_ears_0_tree_memoriesA c_ears_0_tree_next c_ears_0_fresh c_ears_0_row c_ears_0_made c_ears_1_lag c_ears_1_lagSum c_ears_1_tree_row c_ears_1_tree_memoriesB c_ears_1_tree_memoriesA c_ears_1_tree_next c_ears_1_fresh c_ears_1_row c_ears_1_made) H1 := hP
  replace hD : va_D A (w_X6_hearCode h0 h_numbers h_book h_buffer h_ears h_frame h_records h_frame_split h_frame_told h_frame_quants h_frame_backs h_frame_rejoined h_frame_scales h_frame_needs h_frame_bits k1 k1_bytes h_ears_0 h_ears_1 h_ears_0_tree h_ears_0_row h_ears_0_made h_ears_0_fresh h_ears_0_tree_memoriesA h_ears_0_tree_memoriesB h_ears_0_tree_row h_ears_0_tree_next h_ears_1_tree h_ears_1_row h_ears_1_made h_ears_1_fresh h_ears_1_tree_memoriesA h_ears_1_tree_memoriesB h_ears_1_tree_row h_ears_1_tree_next cy x1 x2 x3 p1_size x4 p1_bytes f5 c_numbers f6 f7 f8 f9 c_frame_rejoined c_ears_0_lag c_ears_0_lagSum c_ears_0_tree_row c_ears_0_tree_memoriesB c_ears_0_tree_memoriesA c_ears_0_tree_next c_ears_0_fresh c_ears_0_row c_ears_0_made c_ears_1_lag c_ears_1_lagSum c_ears_1_tree_row c_ears_1_tree_memoriesB c_ears_1_tree_memoriesA c_ears_1_tree_next c_ears_1_fresh c_ears_1_row c_ears_1_made) := hD
  clear hPc hDc hFc hP1 hk1 hz1 hvm ht; clear t; clear H locs; obtain ⟨H, hH⟩ : ∃ H, H = H1 := ⟨_, rfl⟩; obtain ⟨locs, hlo⟩ : ∃ L, L = locs1 := ⟨_, rfl⟩; subst hH; subst hlo
  refine W.widen (k := 0) (n := 0) (Nat.le_refl 0) (Nat.le_refl 0) ?_
  refine lv_aload_n hx hb dX6_hearCode_12 rfl (lv_at hl 0 rfl) ?_
  refine va_get (D := (dC, dI)) (ci := 6) (v := .ref h_frame) (C := RX6) (T := TX6) (N := 6) hx hb hts inX6 hown hK hP 0 rfl rfl 4 (by decide) (hts _ (List.mem_cons_of_mem _ mw_150)) (fun _ h9 => h9) rfl dX6_hearCode_13 ?_
  have hPc := pSub (ws' := (w_X4_undoTwins h_frame h_frame_split h_frame_told h_frame_quants h_frame_backs h_frame_rejoined h_frame_scales h_frame_needs h_frame_bits cy x1 x2 x3 f9 c_frame_rejoined)) hP [1, 9, 10] rfl
  have hDc := dSub (ws' := (w_X4_undoTwins h_frame h_frame_split h_frame_told h_frame_quants h_frame_backs h_frame_rejoined h_frame_scales h_frame_needs h_frame_bits cy x1 x2 x3 f9 c_frame_rejoined)) hD [1, 9, 10] (by decide) rfl
  have hFc := va_free (wc := (w_X4_undoTwins h_frame h_frame_split h_frame_told h_frame_quants h_frame_backs h_frame_rejoined h_frame_scales h_frame_needs h_frame_bits cy x1 x2 x3 f9 c_frame_rejoined)) hD hS hA [1, 9, 10] rfl
  refine va_callv (va_runV (As := []) (rest := []) ⟨hx, hb, hml, hown, hts⟩ (c_X4_undoTwins l dC dI cy h_frame h_frame_split h_frame_told h_frame_quants h_frame_backs h_frame_rejoined h_frame_scales h_frame_needs h_frame_bits H.size x1 x2 x3 f9 c_frame_rejoined _ hw) (cwV 0 hts (goodV mw_522 mw_519 mw_520 mw_521 mw_20) rfl rfl rfl (by decide +kernel) ⟨Nat.le_of_ble_eq_true rfl, Nat.le_of_ble_eq_true rfl⟩) ⟨PX_blind, va_recv hK hPc (ci := 4) (q0 := 0) rfl rfl, PX_pre hPc hK hDc hG⟩ rfl rfl hl.1 rfl (lv_room (Nat.le_of_ble_eq_true rfl)) dX6_hearCode_16 ⟨Nat.zero_le _, Nat.zero_le _⟩) hS (fun q _ h => hFc q h) hFc ?_; clear hw hS; intro f10 t H1 locs1 ht hvm hw hB hz1 hk1 hS
  obtain ⟨hP1, -, -⟩ := hB
  rw [ht] at hP1
  replace hP := jC0 hP hD [1, 9, 10] [0, 2, 3, 4, 5, 6, 7, 8, 11, 12, 13, 14, 15, 16, 17, 18, 19, 20, 21, 22, 23, 24, 25, 26, 27, 28, 29] rfl hk1 hP1 (w_X6_hearCode h0 h_numbers h_book h_buffer h_ears h_frame h_records h_frame_split h_frame_told h_frame_quants h_frame_backs h_frame_rejoined h_frame_scales h_frame_needs h_frame_bits k1 k1_bytes h_ears_0 h_ears_1 h_ears_0_tree h_ears_0_row h_ears_0_made h_ears_0_fresh h_ears_0_tree_memoriesA h_ears_0_tree_memoriesB h_ears_0_tree_row h_ears_0_tree_next h_ears_1_tree h_ears_1_row h_ears_1_made h_ears_1_fresh h_ears_1_tree_memoriesA h_ears_1_tree_memoriesB h_ears_1_tree_row h_ears_1_tree_next cy x1 x2 x3 p1_size x4 p1_bytes f5 c_numbers f6 f7 f8 f9 f10 c_ears_0_lag c_ears_0_lagSum c_ears_0_tree_row c_ears_0_tree_memoriesB c_ears_0_tree_memoriesA c_ears_0_tree_next c_ears_0_fresh c_ears_0_row c_ears_0_made c_ears_1_lag c_ears_1_lagSum c_ears_1_tree_row c_ears_1_tree_memoriesB c_ears_1_tree_memoriesA c_ears_1_tree_next c_ears_1_fresh c_ears_1_row c_ears_1_made) rfl rfl rfl 30 rfl (by decide +kernel); clear hD; obtain ⟨hP, hD⟩ := hP
  replace hP : va_P (dC, dI) vwCl (w_X6_hearCode h0 h_numbers h_book h_buffer h_ears h_frame h_records h_frame_split h_frame_told h_frame_quants h_frame_backs h_frame_rejoined h_frame_scales h_frame_needs h_frame_bits k1 k1_bytes h_ears_0 h_ears_1 h_ears_0_tree h_ears_0_row h_ears_0_made h_ears_0_fresh h_ears_0_tree_memoriesA h_ears_0_tree_memoriesB h_ears_0_tree_row h_ears_0_tree_next h_ears_1_tree h_ears_1_row h_ears_1_made h_ears_1_fresh h_ears_1_tree_memoriesA h_ears_1_tree_memoriesB h_ears_1_tree_row h_ears_1_tree_next cy x1 x2 x3 p1_size x4 p1_bytes f5 c_numbers f6 f7 f8 f9 f10 c_ears_0_lag c_ears_0_lagSum c_ears_0_tree_row c_ears_0_tree_memoriesB c_ears_0_tree_memoriesA c_ears_0_tree_next c_ears_0_fresh c_ears_0_row c_ears_0_made c_ears_1_lag c_ears_1_lagSum c_ears_1_tree_row c_ears_1_tree_memoriesB c_ears_1_tree_memoriesA c_ears_1_tree_next c_ears_1_fresh c_ears_1_row c_ears_1_made) H1 := hP
  replace hD : va_D A (w_X6_hearCode h0 h_numbers h_book h_buffer h_ears h_frame h_records h_frame_split h_frame_told h_frame_quants h_frame_backs h_frame_rejoined h_frame_scales h_frame_needs h_frame_bits k1 k1_bytes h_ears_0 h_ears_1 h_ears_0_tree h_ears_0_row h_ears_0_made h_ears_0_fresh h_ears_0_tree_memoriesA h_ears_0_tree_memoriesB h_ears_0_tree_row h_ears_0_tree_next h_ears_1_tree h_ears_1_row h_ears_1_made h_ears_1_fresh h_ears_1_tree_memoriesA h_ears_1_tree_memoriesB h_ears_1_tree_row h_ears_1_tree_next cy x1 x2 x3 p1_size x4 p1_bytes f5 c_numbers f6 f7 f8 f9 f10 c_ears_0_lag c_ears_0_lagSum c_ears_0_tree_row c_ears_0_tree_memoriesB c_ears_0_tree_memoriesA c_ears_0_tree_next c_ears_0_fresh c_ears_0_row c_ears_0_made c_ears_1_lag c_ears_1_lagSum c_ears_1_tree_row c_ears_1_tree_memoriesB c_ears_1_tree_memoriesA c_ears_1_tree_next c_ears_1_fresh c_ears_1_row c_ears_1_made) := hD
  clear hPc hDc hFc hP1 hk1 hz1 hvm ht; clear t; clear H locs; obtain ⟨H, hH⟩ : ∃ H, H = H1 := ⟨_, rfl⟩; obtain ⟨locs, hlo⟩ : ∃ L, L = locs1 := ⟨_, rfl⟩; subst hH; subst hlo
  refine W.widen (k := 0) (n := 0) (Nat.le_refl 0) (Nat.le_refl 0) ?_
  refine lv_iconst (v := 0) hx hb dX6_hearCode_19 (by decide) ?_
  refine lv_istore_n (lv' := [(2, .int (0 : Int32)), (0, .ref h0), (1, .ref k1)]) hx hb dX6_hearCode_20 rfl hl (by decide) rfl ?_; clear hl; clear ls; intro ls hl
  refine lv_iload_n hx hb dX6_hearCode_21 rfl (lv_at hl 0 rfl) ?_
  refine lv_iconst (v := 2) hx hb dX6_hearCode_22 (by decide) ?_
  refine lv_icmp_ge (tgt := 81) hx hb dX6_hearCode_23 (by decide) (fun hc => absurd hc (by decide)) (fun _ => ?_)
  refine lv_aload_n hx hb dX6_hearCode_26 rfl (lv_at hl 1 rfl) ?_
  refine va_get (D := (dC, dI)) (ci := 6) (v := .ref h_ears) (C := RX6) (T := TX6) (N := 6) hx hb hts inX6 hown hK hP 0 rfl rfl 3 (by decide) (hts _ (List.mem_cons_of_mem _ mw_148)) (fun _ h9 => h9) rfl dX6_hearCode_27 ?_
  refine lv_iload_n hx hb dX6_hearCode_30 rfl (lv_at hl 0 rfl) ?_
  refine xald0 hx hb hK hP 11 3 rfl rfl dX6_hearCode_31 ?_
  refine lv_astore_n (lv' := [(3, .ref h_ears_0), (2, .int (0 : Int32)), (0, .ref h0), (1, .ref k1)]) hx hb dX6_hearCode_32 rfl hl (by decide) rfl ?_; clear hl; clear ls; intro ls hl
  refine lv_aload_n hx hb dX6_hearCode_33 rfl (lv_at hl 0 rfl) ?_
  refine lv_aload_n hx hb dX6_hearCode_34 rfl (lv_at hl 2 rfl) ?_
  refine va_get (D := (dC, dI)) (ci := 6) (v := .ref h_frame) (C := RX6) (T := TX6) (N := 6) hx hb hts inX6 hown hK hP 0 rfl rfl 4 (by decide) (hts _ (List.mem_cons_of_mem _ mw_150)) (fun _ h9 => h9) rfl dX6_hearCode_35 ?_
  refine va_get (D := (dC, dI)) (ci := 4) (v := .ref h_frame_rejoined) (C := RX4) (T := TX4) (N := 11) hx hb hts inX4 hown hK hP 1 rfl rfl 4 (by decide) (hts _ (List.mem_cons_of_mem _ mw_507)) (fun _ h9 => h9) rfl dX6_hearCode_38 ?_
  refine lv_iload_n hx hb dX6_hearCode_41 rfl (lv_at hl 1 rfl) ?_
  have hPc := pSub (ws' := (w_X3_hearBands h_ears_0 h_ears_0_tree h_ears_0_row h_ears_0_made h_ears_0_fresh h_ears_0_tree_memoriesA h_ears_0_tree_memoriesB h_ears_0_tree_row h_ears_0_tree_next h_frame_rejoined cy 64 c_ears_0_lag c_ears_0_lagSum f10 c_ears_0_tree_row c_ears_0_tree_memoriesB c_ears_0_tree_memoriesA c_ears_0_tree_next c_ears_0_fresh)) hP [12, 13, 10, 14, 15, 16, 17, 18] rfl
  have hDc := dSub (ws' := (w_X3_hearBands h_ears_0 h_ears_0_tree h_ears_0_row h_ears_0_made h_ears_0_fresh h_ears_0_tree_memoriesA h_ears_0_tree_memoriesB h_ears_0_tree_row h_ears_0_tree_next h_frame_rejoined cy 64 c_ears_0_lag c_ears_0_lagSum f10 c_ears_0_tree_row c_ears_0_tree_memoriesB c_ears_0_tree_memoriesA c_ears_0_tree_next c_ears_0_fresh)) hD [12, 13, 10, 14, 15, 16, 17, 18] (by decide) rfl
  have hFc := va_free (wc := (w_X3_hearBands h_ears_0 h_ears_0_tree h_ears_0_row h_ears_0_made h_ears_0_fresh h_ears_0_tree_memoriesA h_ears_0_tree_memoriesB h_ears_0_tree_row h_ears_0_tree_next h_frame_rejoined cy 64 c_ears_0_lag c_ears_0_lagSum f10 c_ears_0_tree_row c_ears_0_tree_memoriesB c_ears_0_tree_memoriesA c_ears_0_tree_next c_ears_0_fresh)) hD hS hA [12, 13, 10, 14, 15, 16, 17, 18] rfl
  refine va_callv (va_runV (As := [.ref h_frame_rejoined, .int (0 : Int32)]) (rest := []) ⟨hx, hb, hml, hown, hts⟩ (c_X3_hearBands l dC dI cy h_ears_0 h_ears_0_tree h_ears_0_row h_ears_0_made h_ears_0_fresh h_ears_0_tree_memoriesA h_ears_0_tree_memoriesB h_ears_0_tree_row h_ears_0_tree_next h_frame_rejoined 64 H.size (0 : Int32) c_ears_0_lag c_ears_0_lagSum f10 c_ears_0_tree_row c_ears_0_tree_memoriesB c_ears_0_tree_memoriesA c_ears_0_tree_next c_ears_0_fresh _ hw) (cwV 2 hts (goodV mw_526 mw_523 mw_524 mw_525 mw_147) rfl rfl rfl (by decide +kernel) ⟨Nat.le_of_ble_eq_true rfl, Nat.le_of_ble_eq_true rfl⟩) ⟨PX_blind, va_recv hK hPc (ci := 3) (q0 := 0) rfl rfl, PX_pre hPc hK hDc hG⟩ rfl rfl hl.1 rfl (lv_room (Nat.le_of_ble_eq_true rfl)) dX6_hearCode_42 ⟨Nat.zero_le _, Nat.zero_le _⟩) hS (fun q _ h => hFc q h) hFc ?_; clear hw hS; intro u t H1 locs1 ht hvm hw hB hz1 hk1 hS
  obtain ⟨f11, f12, f13, f14, f15⟩ := u
  obtain ⟨hP1, -, -⟩ := hB
  rw [ht] at hP1
  replace hP := jC0 hP hD [12, 13, 10, 14, 15, 16, 17, 18] [0, 1, 2, 3, 4, 5, 6, 7, 8, 9, 11, 19, 20, 21, 22, 23, 24, 25, 26, 27, 28, 29] rfl hk1 hP1 (w_X6_hearCode h0 h_numbers h_book h_buffer h_ears h_frame h_records h_frame_split h_frame_told h_frame_quants h_frame_backs h_frame_rejoined h_frame_scales h_frame_needs h_frame_bits k1 k1_bytes h_ears_0 h_ears_1 h_ears_0_tree h_ears_0_row h_ears_0_made h_ears_0_fresh h_ears_0_tree_memoriesA h_ears_0_tree_memoriesB h_ears_0_tree_row h_ears_0_tree_next h_ears_1_tree h_ears_1_row h_ears_1_made h_ears_1_fresh h_ears_1_tree_memoriesA h_ears_1_tree_memoriesB h_ears_1_tree_row h_ears_1_tree_next cy x1 x2 x3 p1_size x4 p1_bytes f5 c_numbers f6 f7 f8 f9 f10 c_ears_0_lag c_ears_0_lagSum f11 f12 f13 f14 f15 c_ears_0_row c_ears_0_made c_ears_1_lag c_ears_1_lagSum c_ears_1_tree_row c_ears_1_tree_memoriesB c_ears_1_tree_memoriesA c_ears_1_tree_next c_ears_1_fresh c_ears_1_row c_ears_1_made) rfl rfl rfl 30 rfl (by decide +kernel); clear hD; obtain ⟨hP, hD⟩ := hP
  replace hP : va_P (dC, dI) vwCl (w_X6_hearCode h0 h_numbers h_book h_buffer h_ears h_frame h_records h_frame_split h_frame_told h_frame_quants h_frame_backs h_frame_rejoined h_frame_scales h_frame_needs h_frame_bits k1 k1_bytes h_ears_0 h_ears_1 h_ears_0_tree h_ears_0_row h_ears_0_made h_ears_0_fresh h_ears_0_tree_memoriesA h_ears_0_tree_memoriesB h_ears_0_tree_row h_ears_0_tree_next h_ears_1_tree h_ears_1_row h_ears_1_made h_ears_1_fresh h_ears_1_tree_memoriesA h_ears_1_tree_memoriesB h_ears_1_tree_row h_ears_1_tree_next cy x1 x2 x3 p1_size x4 p1_bytes f5 c_numbers f6 f7 f8 f9 f10 c_ears_0_lag c_ears_0_lagSum f11 f12 f13 f14 f15 c_ears_0_row c_ears_0_made c_ears_1_lag c_ears_1_lagSum c_ears_1_tree_row c_ears_1_tree_memoriesB c_ears_1_tree_memoriesA c_ears_1_tree_next c_ears_1_fresh c_ears_1_row c_ears_1_made) H1 := hP
  replace hD : va_D A (w_X6_hearCode h0 h_numbers h_book h_buffer h_ears h_frame h_records h_frame_split h_frame_told h_frame_quants h_frame_backs h_frame_rejoined h_frame_scales h_frame_needs h_frame_bits k1 k1_bytes h_ears_0 h_ears_1 h_ears_0_tree h_ears_0_row h_ears_0_made h_ears_0_fresh h_ears_0_tree_memoriesA h_ears_0_tree_memoriesB h_ears_0_tree_row h_ears_0_tree_next h_ears_1_tree h_ears_1_row h_ears_1_made h_ears_1_fresh h_ears_1_tree_memoriesA h_ears_1_tree_memoriesB h_ears_1_tree_row h_ears_1_tree_next cy x1 x2 x3 p1_size x4 p1_bytes f5 c_numbers f6 f7 f8 f9 f10 c_ears_0_lag c_ears_0_lagSum f11 f12 f13 f14 f15 c_ears_0_row c_ears_0_made c_ears_1_lag c_ears_1_lagSum c_ears_1_tree_row c_ears_1_tree_memoriesB c_ears_1_tree_memoriesA c_ears_1_tree_next c_ears_1_fresh c_ears_1_row c_ears_1_made) := hD
  clear hPc hDc hFc hP1 hk1 hz1 hvm ht; clear t; clear H locs; obtain ⟨H, hH⟩ : ∃ H, H = H1 := ⟨_, rfl⟩; obtain ⟨locs, hlo⟩ : ∃ L, L = locs1 := ⟨_, rfl⟩; subst hH; subst hlo
  refine W.widen (k := 0) (n := 0) (Nat.le_refl 0) (Nat.le_refl 0) ?_
  refine lv_aload_n hx hb dX6_hearCode_45 rfl (lv_at hl 2 rfl) ?_
  refine va_get (D := (dC, dI)) (ci := 6) (v := .ref h_numbers) (C := RX6) (T := TX6) (N := 6) hx hb hts inX6 hown hK hP 0 rfl rfl 0 (by decide) (hts _ (List.mem_cons_of_mem _ mw_152)) (fun _ h9 => h9) rfl dX6_hearCode_46 ?_
  refine lv_bipush (v := 15) hx hb dX6_hearCode_49 (by decide) ?_
  refine xiald (k := 15) hx hb hK hP 5 0 rfl rfl (vpL 15 54 rfl) (by decide) dX6_hearCode_51 ?_
  refine jn10 (Gg := fun (x17 : Int32) (x18 : Int32) (f19 : (Nat → Int32)) (f20 : (Nat → Int32)) (f21 : (Nat → Int32)) (x22 : Int32) (x23 : Int32) (f24 : (Nat → Int32)) (f25 : (Nat → Int32)) (f26 : (Nat → Int32)) => ∀ (H : Heap) (locs : List Loc) (ls : Array Slot), va_P (dC, dI) vwCl (w_X6_hearCode h0 h_numbers h_book h_buffer h_ears h_frame h_records h_frame_split h_frame_told h_frame_quants h_frame_backs h_frame_rejoined h_frame_scales h_frame_needs h_frame_bits k1 k1_bytes h_ears_0 h_ears_1 h_ears_0_tree h_ears_0_row h_ears_0_made h_ears_0_fresh h_ears_0_tree_memoriesA h_ears_0_tree_memoriesB h_ears_0_tree_row h_ears_0_tree_next h_ears_1_tree h_ears_1_row h_ears_1_made h_ears_1_fresh h_ears_1_tree_memoriesA h_ears_1_tree_memoriesB h_ears_1_tree_row h_ears_1_tree_next cy x1 x2 x3 p1_size x4 p1_bytes f5 c_numbers f6 f7 f8 f9 f10 x17 x18 f11 f12 f13 f14 f19 f20 f21 x22 x23 c_ears_1_tree_row c_ears_1_tree_memoriesB c_ears_1_tree_memoriesA c_ears_1_tree_next f24 f25 f26) H → va_D A (w_X6_hearCode h0 h_numbers h_book h_buffer h_ears h_frame h_records h_frame_split h_frame_told h_frame_quants h_frame_backs h_frame_rejoined h_frame_scales h_frame_needs h_frame_bits k1 k1_bytes h_ears_0 h_ears_1 h_ears_0_tree h_ears_0_row h_ears_0_made h_ears_0_fresh h_ears_0_tree_memoriesA h_ears_0_tree_memoriesB h_ears_0_tree_row h_ears_0_tree_next h_ears_1_tree h_ears_1_row h_ears_1_made h_ears_1_fresh h_ears_1_tree_memoriesA h_ears_1_tree_memoriesB h_ears_1_tree_row h_ears_1_tree_next cy x1 x2 x3 p1_size x4 p1_bytes f5 c_numbers f6 f7 f8 f9 f10 x17 x18 f11 f12 f13 f14 f19 f20 f21 x22 x23 c_ears_1_tree_row c_ears_1_tree_memoriesB c_ears_1_tree_memoriesA c_ears_1_tree_next f24 f25 f26) → va_S A s.heap H locs → lv_has ls 4 [(0, .ref h0), (2, .int (0 : Int32)), (3, .ref h_ears_0)] → W p l e { frames := 3, cells := 0, slots := 0, locals := 90 } s m av below meth c H locs 0 0 Q0 (F0 m 67 ls [])) hw ?_ ?_ <;> clear hw
  · clear hP hD hS hl; clear H locs ls; intro x17 x18 f19 f20 f21 x22 x23 f24 f25 f26 hw H locs ls hP hD hS hl
    refine lv_aload_n hx hb dX6_hearCode_67 rfl (lv_at hl 2 rfl) ?_
    refine lv_aload_n hx hb dX6_hearCode_68 rfl (lv_at hl 2 rfl) ?_
    refine va_get (D := (dC, dI)) (ci := 3) (v := .ref h_ears_0_fresh) (C := RX3) (T := TX3) (N := 6) hx hb hts inX3 hown hK hP 12 rfl rfl 3 (by decide) (hts _ (List.mem_cons_of_mem _ mw_508)) (fun _ h9 => h9) rfl dX6_hearCode_69 ?_
    have hPc := pSub (ws' := (w_X3_keepSamples h_ears_0 h_ears_0_tree h_ears_0_row h_ears_0_made h_ears_0_fresh h_ears_0_fresh cy 32 x17 x18 f20 f19)) hP [12, 19, 18] rfl
    have hDc := dSub (ws' := (w_X3_keepSamples h_ears_0 h_ears_0_tree h_ears_0_row h_ears_0_made h_ears_0_fresh h_ears_0_fresh cy 32 x17 x18 f20 f19)) hD [12, 19, 18] (by decide) rfl
    have hFc := va_free (wc := (w_X3_keepSamples h_ears_0 h_ears_0_tree h_ears_0_row h_ears_0_made h_ears_0_fresh h_ears_0_fresh cy 32 x17 x18 f20 f19)) hD hS hA [12, 19, 18] rfl
    refine va_callv (va_runV (As := [.ref h_ears_0_fresh]) (rest := []) ⟨hx, hb, hml, hown, hts⟩ (c_X3_keepSamples l dC dI cy h_ears_0 h_ears_0_tree h_ears_0_row h_ears_0_made h_ears_0_fresh h_ears_0_fresh 32 H.size x17 x18 f20 f19 _ hw) (cwV 1 hts (goodV mw_552 mw_549 mw_550 mw_551 mw_147) rfl rfl rfl (by decide +kernel) ⟨Nat.le_of_ble_eq_true rfl, Nat.le_of_ble_eq_true rfl⟩) ⟨PX_blind, va_recv hK hPc (ci := 3) (q0 := 0) rfl rfl, PX_pre hPc hK hDc hG⟩ rfl rfl hl.1 rfl (lv_room (Nat.le_of_ble_eq_true rfl)) dX6_hearCode_72 ⟨Nat.zero_le _, Nat.zero_le _⟩) hS (fun q _ h => hFc q h) hFc ?_; clear hw hS; intro f29 t H1 locs1 ht hvm hw hB hz1 hk1 hS
    obtain ⟨hP1, -, -⟩ := hB
    rw [ht] at hP1
    replace hP := jC0 hP hD [12, 19, 18] [0, 1, 2, 3, 4, 5, 6, 7, 8, 9, 10, 11, 13, 14, 15, 16, 17, 20, 21, 22, 23, 24, 25, 26, 27, 28, 29] rfl hk1 hP1 (w_X6_hearCode h0 h_numbers h_book h_buffer h_ears h_frame h_records h_frame_split h_frame_told h_frame_quants h_frame_backs h_frame_rejoined h_frame_scales h_frame_needs h_frame_bits k1 k1_bytes h_ears_0 h_ears_1 h_ears_0_tree h_ears_0_row h_ears_0_made h_ears_0_fresh h_ears_0_tree_memoriesA h_ears_0_tree_memoriesB h_ears_0_tree_row h_ears_0_tree_next h_ears_1_tree h_ears_1_row h_ears_1_made h_ears_1_fresh h_ears_1_tree_memoriesA h_ears_1_tree_memoriesB h_ears_1_tree_row h_ears_1_tree_next cy x1 x2 x3 p1_size x4 p1_bytes f5 c_numbers f6 f7 f8 f9 f10 x17 x18 f11 f12 f13 f14 f19 f29 f21 x22 x23 c_ears_1_tree_row c_ears_1_tree_memoriesB c_ears_1_tree_memoriesA c_ears_1_tree_next f24 f25 f26) rfl rfl rfl 30 rfl (by decide +kernel); clear hD; obtain ⟨hP, hD⟩ := hP
    replace hP : va_P (dC, dI) vwCl (w_X6_hearCode h0 h_numbers h_book h_buffer h_ears h_frame h_records h_frame_split h_frame_told h_frame_quants h_frame_backs h_frame_rejoined h_frame_scales h_frame_needs h_frame_bits k1 k1_bytes h_ears_0 h_ears_1 h_ears_0_tree h_ears_0_row h_ears_0_made h_ears_0_fresh h_ears_0_tree_memoriesA h_ears_0_tree_memoriesB h_ears_0_tree_row h_ears_0_tree_next h_ears_1_tree h_ears_1_row h_ears_1_made h_ears_1_fresh h_ears_1_tree_memoriesA h_ears_1_tree_memoriesB h_ears_1_tree_row h_ears_1_tree_next cy x1 x2 x3 p1_size x4 p1_bytes f5 c_numbers f6 f7 f8 f9 f10 x17 x18 f11 f12 f13 f14 f19 f29 f21 x22 x23 c_ears_1_tree_row c_ears_1_tree_memoriesB c_ears_1_tree_memoriesA c_ears_1_tree_next f24 f25 f26) H1 := hP
    replace hD : va_D A (w_X6_hearCode h0 h_numbers h_book h_buffer h_ears h_frame h_records h_frame_split h_frame_told h_frame_quants h_frame_backs h_frame_rejoined h_frame_scales h_frame_needs h_frame_bits k1 k1_bytes h_ears_0 h_ears_1 h_ears_0_tree h_ears_0_row h_ears_0_made h_ears_0_fresh h_ears_0_tree_memoriesA h_ears_0_tree_memoriesB h_ears_0_tree_row h_ears_0_tree_next h_ears_1_tree h_ears_1_row h_ears_1_made h_ears_1_fresh h_ears_1_tree_memoriesA h_ears_1_tree_memoriesB h_ears_1_tree_row h_ears_1_tree_next cy x1 x2 x3 p1_size x4 p1_bytes f5 c_numbers f6 f7 f8 f9 f10 x17 x18 f11 f12 f13 f14 f19 f29 f21 x22 x23 c_ears_1_tree_row c_ears_1_tree_memoriesB c_ears_1_tree_memoriesA c_ears_1_tree_next f24 f25 f26) := hD
    clear hPc hDc hFc hP1 hk1 hz1 hvm ht; clear t; clear H locs; obtain ⟨H, hH⟩ : ∃ H, H = H1 := ⟨_, rfl⟩; obtain ⟨locs, hlo⟩ : ∃ L, L = locs1 := ⟨_, rfl⟩; subst hH; subst hlo
    refine W.widen (k := 0) (n := 0) (Nat.le_refl 0) (Nat.le_refl 0) ?_
    refine lv_iinc (v := (1 : Int32)) (lv' := [(2, .int (1 : Int32)), (0, .ref h0), (3, .ref h_ears_0)]) hx hb dX6_hearCode_75 hl (k := 1) rfl (by decide) (by decide) rfl ?_; clear hl; clear ls; intro ls hl
    refine lv_goto (tgt := 21) hx hb dX6_hearCode_78 (by decide) ?_
    refine lv_iload_n hx hb dX6_hearCode_21 rfl (lv_at hl 0 rfl) ?_
    refine lv_iconst (v := 2) hx hb dX6_hearCode_22 (by decide) ?_
    refine lv_icmp_ge (tgt := 81) hx hb dX6_hearCode_23 (by decide) (fun hc => absurd hc (by decide)) (fun _ => ?_)
    refine lv_aload_n hx hb dX6_hearCode_26 rfl (lv_at hl 1 rfl) ?_
    refine va_get (D := (dC, dI)) (ci := 6) (v := .ref h_ears) (C := RX6) (T := TX6) (N := 6) hx hb hts inX6 hown hK hP 0 rfl rfl 3 (by decide) (hts _ (List.mem_cons_of_mem _ mw_148)) (fun _ h9 => h9) rfl dX6_hearCode_27 ?_
    refine lv_iload_n hx hb dX6_hearCode_30 rfl (lv_at hl 0 rfl) ?_
    refine xald1 hx hb hK hP 11 3 rfl rfl dX6_hearCode_31 ?_
    refine lv_astore_n (lv' := [(3, .ref h_ears_1), (2, .int (1 : Int32)), (0, .ref h0)]) hx hb dX6_hearCode_32 rfl hl (by decide) rfl ?_; clear hl; clear ls; intro ls hl
    refine lv_aload_n hx hb dX6_hearCode_33 rfl (lv_at hl 0 rfl) ?_
    refine lv_aload_n hx hb dX6_hearCode_34 rfl (lv_at hl 2 rfl) ?_
    refine va_get (D := (dC, dI)) (ci := 6) (v := .ref h_frame) (C := RX6) (T := TX6) (N := 6) hx hb hts inX6 hown hK hP 0 rfl rfl 4 (by decide) (hts _ (List.mem_cons_of_mem _ mw_150)) (fun _ h9 => h9) rfl dX6_hearCode_35 ?_
    refine va_get (D := (dC, dI)) (ci := 4) (v := .ref h_frame_rejoined) (C := RX4) (T := TX4) (N := 11) hx hb hts inX4 hown hK hP 1 rfl rfl 4 (by decide) (hts _ (List.mem_cons_of_mem _ mw_507)) (fun _ h9 => h9) rfl dX6_hearCode_38 ?_
    refine lv_iload_n hx hb dX6_hearCode_41 rfl (lv_at hl 1 rfl) ?_
    have hPc := pSub (ws' := (w_X3_hearBands h_ears_1 h_ears_1_tree h_ears_1_row h_ears_1_made h_ears_1_fresh h_ears_1_tree_memoriesA h_ears_1_tree_memoriesB h_ears_1_tree_row h_ears_1_tree_next h_frame_rejoined cy 64 x22 x23 f10 c_ears_1_tree_row c_ears_1_tree_memoriesB c_ears_1_tree_memoriesA c_ears_1_tree_next f24)) hP [21, 22, 10, 23, 24, 25, 26, 27] rfl
    have hDc := dSub (ws' := (w_X3_hearBands h_ears_1 h_ears_1_tree h_ears_1_row h_ears_1_made h_ears_1_fresh h_ears_1_tree_memoriesA h_ears_1_tree_memoriesB h_ears_1_tree_row h_ears_1_tree_next h_frame_rejoined cy 64 x22 x23 f10 c_ears_1_tree_row c_ears_1_tree_memoriesB c_ears_1_tree_memoriesA c_ears_1_tree_next f24)) hD [21, 22, 10, 23, 24, 25, 26, 27] (by decide) rfl
    have hFc := va_free (wc := (w_X3_hearBands h_ears_1 h_ears_1_tree h_ears_1_row h_ears_1_made h_ears_1_fresh h_ears_1_tree_memoriesA h_ears_1_tree_memoriesB h_ears_1_tree_row h_ears_1_tree_next h_frame_rejoined cy 64 x22 x23 f10 c_ears_1_tree_row c_ears_1_tree_memoriesB c_ears_1_tree_memoriesA c_ears_1_tree_next f24)) hD hS hA [21, 22, 10, 23, 24, 25, 26, 27] rfl
    refine va_callv (va_runV (As := [.ref h_frame_rejoined, .int (1 : Int32)]) (rest := []) ⟨hx, hb, hml, hown, hts⟩ (c_X3_hearBands l dC dI cy h_ears_1 h_ears_1_tree h_ears_1_row h_ears_1_made h_ears_1_fresh h_ears_1_tree_memoriesA h_ears_1_tree_memoriesB h_ears_1_tree_row h_ears_1_tree_next h_frame_rejoined 64 H.size (1 : Int32) x22 x23 f10 c_ears_1_tree_row c_ears_1_tree_memoriesB c_ears_1_tree_memoriesA c_ears_1_tree_next f24 _ hw) (cwV 2 hts (goodV mw_526 mw_523 mw_524 mw_525 mw_147) rfl rfl rfl (by decide +kernel) ⟨Nat.le_of_ble_eq_true rfl, Nat.le_of_ble_eq_true rfl⟩) ⟨PX_blind, va_recv hK hPc (ci := 3) (q0 := 0) rfl rfl, PX_pre hPc hK hDc hG⟩ rfl rfl hl.1 rfl (lv_room (Nat.le_of_ble_eq_true rfl)) dX6_hearCode_42 ⟨Nat.zero_le _, Nat.zero_le _⟩) hS (fun q _ h => hFc q h) hFc ?_; clear hw hS; intro u t H1 locs1 ht hvm hw hB hz1 hk1 hS
    obtain ⟨f30, f31, f32, f33, f34⟩ := u
    obtain ⟨hP1, -, -⟩ := hB
    rw [ht] at hP1
    replace hP := jC0 hP hD [21, 22, 10, 23, 24, 25, 26, 27] [0, 1, 2, 3, 4, 5, 6, 7, 8, 9, 11, 12, 13, 14, 15, 16, 17, 18, 19, 20, 28, 29] rfl hk1 hP1 (w_X6_hearCode h0 h_numbers h_book h_buffer h_ears h_frame h_records h_frame_split h_frame_told h_frame_quants h_frame_backs h_frame_rejoined h_frame_scales h_frame_needs h_frame_bits k1 k1_bytes h_ears_0 h_ears_1 h_ears_0_tree h_ears_0_row h_ears_0_made h_ears_0_fresh h_ears_0_tree_memoriesA h_ears_0_tree_memoriesB h_ears_0_tree_row h_ears_0_tree_next h_ears_1_tree h_ears_1_row h_ears_1_made h_ears_1_fresh h_ears_1_tree_memoriesA h_ears_1_tree_memoriesB h_ears_1_tree_row h_ears_1_tree_next cy x1 x2 x3 p1_size x4 p1_bytes f5 c_numbers f6 f7 f8 f9 f10 x17 x18 f11 f12 f13 f14 f19 f29 f21 x22 x23 f30 f31 f32 f33 f34 f25 f26) rfl rfl rfl 30 rfl (by decide +kernel); clear hD; obtain ⟨hP, hD⟩ := hP
    replace hP : va_P (dC, dI) vwCl (w_X6_hearCode h0 h_numbers h_book h_buffer h_ears h_frame h_records h_frame_split h_frame_told h_frame_quants h_frame_backs h_frame_rejoined h_frame_scales h_frame_needs h_frame_bits k1 k1_bytes h_ears_0 h_ears_1 h_ears_0_tree h_ears_0_row h_ears_0_made h_ears_0_fresh h_ears_0_tree_memoriesA h_ears_0_tree_memoriesB h_ears_0_tree_row h_ears_0_tree_next h_ears_1_tree h_ears_1_row h_ears_1_made h_ears_1_fresh h_ears_1_tree_memoriesA h_ears_1_tree_memoriesB h_ears_1_tree_row h_ears_1_tree_next cy x1 x2 x3 p1_size x4 p1_bytes f5 c_numbers f6 f7 f8 f9 f10 x17 x18 f11 f12 f13 f14 f19 f29 f21 x22 x23 f30 f31 f32 f33 f34 f25 f26) H1 := hP
    replace hD : va_D A (w_X6_hearCode h0 h_numbers h_book h_buffer h_ears h_frame h_records h_frame_split h_frame_told h_frame_quants h_frame_backs h_frame_rejoined h_frame_scales h_frame_needs h_frame_bits k1 k1_bytes h_ears_0 h_ears_1 h_ears_0_tree h_ears_0_row h_ears_0_made h_ears_0_fresh h_ears_0_tree_memoriesA h_ears_0_tree_memoriesB h_ears_0_tree_row h_ears_0_tree_next h_ears_1_tree h_ears_1_row h_ears_1_made h_ears_1_fresh h_ears_1_tree_memoriesA h_ears_1_tree_memoriesB h_ears_1_tree_row h_ears_1_tree_next cy x1 x2 x3 p1_size x4 p1_bytes f5 c_numbers f6 f7 f8 f9 f10 x17 x18 f11 f12 f13 f14 f19 f29 f21 x22 x23 f30 f31 f32 f33 f34 f25 f26) := hD
    clear hPc hDc hFc hP1 hk1 hz1 hvm ht; clear t; clear H locs; obtain ⟨H, hH⟩ : ∃ H, H = H1 := ⟨_, rfl⟩; obtain ⟨locs, hlo⟩ : ∃ L, L = locs1 := ⟨_, rfl⟩; subst hH; subst hlo
    refine W.widen (k := 0) (n := 0) (Nat.le_refl 0) (Nat.le_refl 0) ?_
    refine lv_aload_n hx hb dX6_hearCode_45 rfl (lv_at hl 2 rfl) ?_
    refine va_get (D := (dC, dI)) (ci := 6) (v := .ref h_numbers) (C := RX6) (T := TX6) (N := 6) hx hb hts inX6 hown hK hP 0 rfl rfl 0 (by decide) (hts _ (List.mem_cons_of_mem _ mw_152)) (fun _ h9 => h9) rfl dX6_hearCode_46 ?_
    refine lv_bipush (v := 15) hx hb dX6_hearCode_49 (by decide) ?_
    refine xiald (k := 15) hx hb hK hP 5 0 rfl rfl (vpL 15 54 rfl) (by decide) dX6_hearCode_51 ?_
    refine jn10 (Gg := fun (x36 : Int32) (x37 : Int32) (f38 : (Nat → Int32)) (f39 : (Nat → Int32)) (f40 : (Nat → Int32)) (x41 : Int32) (x42 : Int32) (f43 : (Nat → Int32)) (f44 : (Nat → Int32)) (f45 : (Nat → Int32)) => ∀ (H : Heap) (locs : List Loc) (ls : Array Slot), va_P (dC, dI) vwCl (w_X6_hearCode h0 h_numbers h_book h_buffer h_ears h_frame h_records h_frame_split h_frame_told h_frame_quants h_frame_backs h_frame_rejoined h_frame_scales h_frame_needs h_frame_bits k1 k1_bytes h_ears_0 h_ears_1 h_ears_0_tree h_ears_0_row h_ears_0_made h_ears_0_fresh h_ears_0_tree_memoriesA h_ears_0_tree_memoriesB h_ears_0_tree_row h_ears_0_tree_next h_ears_1_tree h_ears_1_row h_ears_1_made h_ears_1_fresh h_ears_1_tree_memoriesA h_ears_1_tree_memoriesB h_ears_1_tree_row h_ears_1_tree_next cy x1 x2 x3 p1_size x4 p1_bytes f5 c_numbers f6 f7 f8 f9 f10 x36 x37 f11 f12 f13 f14 f38 f39 f40 x41 x42 f30 f31 f32 f33 f43 f44 f45) H → va_D A (w_X6_hearCode h0 h_numbers h_book h_buffer h_ears h_frame h_records h_frame_split h_frame_told h_frame_quants h_frame_backs h_frame_rejoined h_frame_scales h_frame_needs h_frame_bits k1 k1_bytes h_ears_0 h_ears_1 h_ears_0_tree h_ears_0_row h_ears_0_made h_ears_0_fresh h_ears_0_tree_memoriesA h_ears_0_tree_memoriesB h_ears_0_tree_row h_ears_0_tree_next h_ears_1_tree h_ears_1_row h_ears_1_made h_ears_1_fresh h_ears_1_tree_memoriesA h_ears_1_tree_memoriesB h_ears_1_tree_row h_ears_1_tree_next cy x1 x2 x3 p1_size x4 p1_bytes f5 c_numbers f6 f7 f8 f9 f10 x36 x37 f11 f12 f13 f14 f38 f39 f40 x41 x42 f30 f31 f32 f33 f43 f44 f45) → va_S A s.heap H locs → lv_has ls 4 [(0, .ref h0), (2, .int (1 : Int32)), (3, .ref h_ears_1)] → W p l e { frames := 3, cells := 0, slots := 0, locals := 90 } s m av below meth c H locs 0 0 Q0 (F0 m 67 ls [])) hw ?_ ?_ <;> clear hw
    · clear hP hD hS hl; clear H locs ls; intro x36 x37 f38 f39 f40 x41 x42 f43 f44 f45 hw H locs ls hP hD hS hl
      refine lv_aload_n hx hb dX6_hearCode_67 rfl (lv_at hl 2 rfl) ?_
      refine lv_aload_n hx hb dX6_hearCode_68 rfl (lv_at hl 2 rfl) ?_
      refine va_get (D := (dC, dI)) (ci := 3) (v := .ref h_ears_1_fresh) (C := RX3) (T := TX3) (N := 6) hx hb hts inX3 hown hK hP 21 rfl rfl 3 (by decide) (hts _ (List.mem_cons_of_mem _ mw_508)) (fun _ h9 => h9) rfl dX6_hearCode_69 ?_
      have hPc := pSub (ws' := (w_X3_keepSamples h_ears_1 h_ears_1_tree h_ears_1_row h_ears_1_made h_ears_1_fresh h_ears_1_fresh cy 32 x41 x42 f44 f43)) hP [21, 28, 27] rfl
      have hDc := dSub (ws' := (w_X3_keepSamples h_ears_1 h_ears_1_tree h_ears_1_row h_ears_1_made h_ears_1_fresh h_ears_1_fresh cy 32 x41 x42 f44 f43)) hD [21, 28, 27] (by decide) rfl
      have hFc := va_free (wc := (w_X3_keepSamples h_ears_1 h_ears_1_tree h_ears_1_row h_ears_1_made h_ears_1_fresh h_ears_1_fresh cy 32 x41 x42 f44 f43)) hD hS hA [21, 28, 27] rfl
      refine va_callv (va_runV (As := [.ref h_ears_1_fresh]) (rest := []) ⟨hx, hb, hml, hown, hts⟩ (c_X3_keepSamples l dC dI cy h_ears_1 h_ears_1_tree h_ears_1_row h_ears_1_made h_ears_1_fresh h_ears_1_fresh 32 H.size x41 x42 f44 f43 _ hw) (cwV 1 hts (goodV mw_552 mw_549 mw_550 mw_551 mw_147) rfl rfl rfl (by decide +kernel) ⟨Nat.le_of_ble_eq_true rfl, Nat.le_of_ble_eq_true rfl⟩) ⟨PX_blind, va_recv hK hPc (ci := 3) (q0 := 0) rfl rfl, PX_pre hPc hK hDc hG⟩ rfl rfl hl.1 rfl (lv_room (Nat.le_of_ble_eq_true rfl)) dX6_hearCode_72 ⟨Nat.zero_le _, Nat.zero_le _⟩) hS (fun q _ h => hFc q h) hFc ?_; clear hw hS; intro f48 t H1 locs1 ht hvm hw hB hz1 hk1 hS
      obtain ⟨hP1, -, -⟩ := hB
      rw [ht] at hP1
      replace hP := jC0 hP hD [21, 28, 27] [0, 1, 2, 3, 4, 5, 6, 7, 8, 9, 10, 11, 12, 13, 14, 15, 16, 17, 18, 19, 20, 22, 23, 24, 25, 26, 29] rfl hk1 hP1 (w_X6_hearCode h0 h_numbers h_book h_buffer h_ears h_frame h_records h_frame_split h_frame_told h_frame_quants h_frame_backs h_frame_rejoined h_frame_scales h_frame_needs h_frame_bits k1 k1_bytes h_ears_0 h_ears_1 h_ears_0_tree h_ears_0_row h_ears_0_made h_ears_0_fresh h_ears_0_tree_memoriesA h_ears_0_tree_memoriesB h_ears_0_tree_row h_ears_0_tree_next h_ears_1_tree h_ears_1_row h_ears_1_made h_ears_1_fresh h_ears_1_tree_memoriesA h_ears_1_tree_memoriesB h_ears_1_tree_row h_ears_1_tree_next cy x1 x2 x3 p1_size x4 p1_bytes f5 c_numbers f6 f7 f8 f9 f10 x36 x37 f11 f12 f13 f14 f38 f39 f40 x41 x42 f30 f31 f32 f33 f43 f48 f45) rfl rfl rfl 30 rfl (by decide +kernel); clear hD; obtain ⟨hP, hD⟩ := hP
      replace hP : va_P (dC, dI) vwCl (w_X6_hearCode h0 h_numbers h_book h_buffer h_ears h_frame h_records h_frame_split h_frame_told h_frame_quants h_frame_backs h_frame_rejoined h_frame_scales h_frame_needs h_frame_bits k1 k1_bytes h_ears_0 h_ears_1 h_ears_0_tree h_ears_0_row h_ears_0_made h_ears_0_fresh h_ears_0_tree_memoriesA h_ears_0_tree_memoriesB h_ears_0_tree_row h_ears_0_tree_next h_ears_1_tree h_ears_1_row h_ears_1_made h_ears_1_fresh h_ears_1_tree_memoriesA h_ears_1_tree_memoriesB h_ears_1_tree_row h_ears_1_tree_next cy x1 x2 x3 p1_size x4 p1_bytes f5 c_numbers f6 f7 f8 f9 f10 x36 x37 f11 f12 f13 f14 f38 f39 f40 x41 x42 f30 f31 f32 f33 f43 f48 f45) H1 := hP
      replace hD : va_D A (w_X6_hearCode h0 h_numbers h_book h_buffer h_ears h_frame h_records h_frame_split h_frame_told h_frame_quants h_frame_backs h_frame_rejoined h_frame_scales h_frame_needs h_frame_bits k1 k1_bytes h_ears_0 h_ears_1 h_ears_0_tree h_ears_0_row h_ears_0_made h_ears_0_fresh h_ears_0_tree_memoriesA h_ears_0_tree_memoriesB h_ears_0_tree_row h_ears_0_tree_next h_ears_1_tree h_ears_1_row h_ears_1_made h_ears_1_fresh h_ears_1_tree_memoriesA h_ears_1_tree_memoriesB h_ears_1_tree_row h_ears_1_tree_next cy x1 x2 x3 p1_size x4 p1_bytes f5 c_numbers f6 f7 f8 f9 f10 x36 x37 f11 f12 f13 f14 f38 f39 f40 x41 x42 f30 f31 f32 f33 f43 f48 f45) := hD
      clear hPc hDc hFc hP1 hk1 hz1 hvm ht; clear t; clear H locs; obtain ⟨H, hH⟩ : ∃ H, H = H1 := ⟨_, rfl⟩; obtain ⟨locs, hlo⟩ : ∃ L, L = locs1 := ⟨_, rfl⟩; subst hH; subst hlo
      refine W.widen (k := 0) (n := 0) (Nat.le_refl 0) (Nat.le_refl 0) ?_
      refine lv_iinc (v := (2 : Int32)) (lv' := [(2, .int (2 : Int32)), (0, .ref h0), (3, .ref h_ears_1)]) hx hb dX6_hearCode_75 hl (k := 1) rfl (by decide) (by decide) rfl ?_; clear hl; clear ls; intro ls hl
      refine lv_goto (tgt := 21) hx hb dX6_hearCode_78 (by decide) ?_
      refine lv_iload_n hx hb dX6_hearCode_21 rfl (lv_at hl 0 rfl) ?_
      refine lv_iconst (v := 2) hx hb dX6_hearCode_22 (by decide) ?_
      refine lv_icmp_ge (tgt := 81) hx hb dX6_hearCode_23 (by decide) (fun _ => ?_) (fun hc => absurd hc (by decide))
      refine lv_aload_n hx hb dX6_hearCode_81 rfl (lv_at hl 1 rfl) ?_
      refine va_get (D := (dC, dI)) (ci := 6) (v := .ref h_numbers) (C := RX6) (T := TX6) (N := 6) hx hb hts inX6 hown hK hP 0 rfl rfl 0 (by decide) (hts _ (List.mem_cons_of_mem _ mw_152)) (fun _ h9 => h9) rfl dX6_hearCode_82 ?_
      refine lv_bipush (v := 13) hx hb dX6_hearCode_85 (by decide) ?_
      refine lv_dup2_11 hx hb dX6_hearCode_87 rfl rfl ?_
      refine xiald (k := 13) hx hb hK hP 5 0 rfl rfl (vpL 13 54 rfl) (by decide) dX6_hearCode_88 ?_
      refine lv_iconst (v := 1) hx hb dX6_hearCode_89 (by decide) ?_
      refine lv_iadd hx hb dX6_hearCode_90 ?_
      refine xiast (k := 13) hx hb hK hP hD hS 5 0 rfl rfl (vpL 13 54 rfl) (by decide) dX6_hearCode_91 ?_; clear hP hD hS; clear H locs; intro f51 e_f51 H locs hP hD hS
      replace hw := hw f51 e_f51
      clear e_f51
      replace hP : va_P (dC, dI) vwCl (w_X6_hearCode h0 h_numbers h_book h_buffer h_ears h_frame h_records h_frame_split h_frame_told h_frame_quants h_frame_backs h_frame_rejoined h_frame_scales h_frame_needs h_frame_bits k1 k1_bytes h_ears_0 h_ears_1 h_ears_0_tree h_ears_0_row h_ears_0_made h_ears_0_fresh h_ears_0_tree_memoriesA h_ears_0_tree_memoriesB h_ears_0_tree_row h_ears_0_tree_next h_ears_1_tree h_ears_1_row h_ears_1_made h_ears_1_fresh h_ears_1_tree_memoriesA h_ears_1_tree_memoriesB h_ears_1_tree_row h_ears_1_tree_next cy x1 x2 x3 p1_size x4 p1_bytes f5 f51 f6 f7 f8 f9 f10 x36 x37 f11 f12 f13 f14 f38 f39 f40 x41 x42 f30 f31 f32 f33 f43 f48 f45) H := hP
      replace hD : va_D A (w_X6_hearCode h0 h_numbers h_book h_buffer h_ears h_frame h_records h_frame_split h_frame_told h_frame_quants h_frame_backs h_frame_rejoined h_frame_scales h_frame_needs h_frame_bits k1 k1_bytes h_ears_0 h_ears_1 h_ears_0_tree h_ears_0_row h_ears_0_made h_ears_0_fresh h_ears_0_tree_memoriesA h_ears_0_tree_memoriesB h_ears_0_tree_row h_ears_0_tree_next h_ears_1_tree h_ears_1_row h_ears_1_made h_ears_1_fresh h_ears_1_tree_memoriesA h_ears_1_tree_memoriesB h_ears_1_tree_row h_ears_1_tree_next cy x1 x2 x3 p1_size x4 p1_bytes f5 f51 f6 f7 f8 f9 f10 x36 x37 f11 f12 f13 f14 f38 f39 f40 x41 x42 f30 f31 f32 f33 f43 f48 f45) := hD
      refine lv_aload_n hx hb dX6_hearCode_92 rfl (lv_at hl 1 rfl) ?_
      refine va_get (D := (dC, dI)) (ci := 6) (v := .ref h_numbers) (C := RX6) (T := TX6) (N := 6) hx hb hts inX6 hown hK hP 0 rfl rfl 0 (by decide) (hts _ (List.mem_cons_of_mem _ mw_152)) (fun _ h9 => h9) rfl dX6_hearCode_93 ?_
      refine lv_bipush (v := 15) hx hb dX6_hearCode_96 (by decide) ?_
      refine lv_iconst (v := 0) hx hb dX6_hearCode_98 (by decide) ?_
      refine xiast (k := 15) hx hb hK hP hD hS 5 0 rfl rfl (vpL 15 54 rfl) (by decide) dX6_hearCode_99 ?_; clear hP hD hS; clear H locs; intro f53 e_f53 H locs hP hD hS
      replace hw := hw f53 e_f53
      clear e_f53
      replace hP : va_P (dC, dI) vwCl (w_X6_hearCode h0 h_numbers h_book h_buffer h_ears h_frame h_records h_frame_split h_frame_told h_frame_quants h_frame_backs h_frame_rejoined h_frame_scales h_frame_needs h_frame_bits k1 k1_bytes h_ears_0 h_ears_1 h_ears_0_tree h_ears_0_row h_ears_0_made h_ears_0_fresh h_ears_0_tree_memoriesA h_ears_0_tree_memoriesB h_ears_0_tree_row h_ears_0_tree_next h_ears_1_tree h_ears_1_row h_ears_1_made h_ears_1_fresh h_ears_1_tree_memoriesA h_ears_1_tree_memoriesB h_ears_1_tree_row h_ears_1_tree_next cy x1 x2 x3 p1_size x4 p1_bytes f5 f53 f6 f7 f8 f9 f10 x36 x37 f11 f12 f13 f14 f38 f39 f40 x41 x42 f30 f31 f32 f33 f43 f48 f45) H := hP
      replace hD : va_D A (w_X6_hearCode h0 h_numbers h_book h_buffer h_ears h_frame h_records h_frame_split h_frame_told h_frame_quants h_frame_backs h_frame_rejoined h_frame_scales h_frame_needs h_frame_bits k1 k1_bytes h_ears_0 h_ears_1 h_ears_0_tree h_ears_0_row h_ears_0_made h_ears_0_fresh h_ears_0_tree_memoriesA h_ears_0_tree_memoriesB h_ears_0_tree_row h_ears_0_tree_next h_ears_1_tree h_ears_1_row h_ears_1_made h_ears_1_fresh h_ears_1_tree_memoriesA h_ears_1_tree_memoriesB h_ears_1_tree_row h_ears_1_tree_next cy x1 x2 x3 p1_size x4 p1_bytes f5 f53 f6 f7 f8 f9 f10 x36 x37 f11 f12 f13 f14 f38 f39 f40 x41 x42 f30 f31 f32 f33 f43 f48 f45) := hD
      subst hQe
      exact W.vret hx hb hr (fun t ht hW => ⟨⟨(x1, x2, x3, x4, f5, f53, f6, f7, f8, f9, f10, x36, x37, f11, f12, f13, f14, f38, f39, f40, x41, x42, f30, f31, f32, f33, f43, f48, f45), rfl, hw, by rw [ht]; exact hP, va_K.moved hW.alike hK, hD⟩, hS.F ht⟩) hS.2.2 dX6_hearCode_100
    · intro j47 hw
      refine lv_if_le (tgt := 67) hx hb dX6_hearCode_52 (by decide) (fun c54 => ?_) (fun c54 => ?_)
      · replace hw := hw.1 c54
        exact j47 x17 x18 f19 f29 f21 x22 x23 f34 f25 f26 hw H locs ls hP hD hS (lv_sub hl [2, 1, 0] rfl)
      · replace hw := hw.2 c54
        refine lv_aload_n hx hb dX6_hearCode_55 rfl (lv_at hl 0 rfl) ?_
        refine lv_aload_n hx hb dX6_hearCode_56 rfl (lv_at hl 2 rfl) ?_
        have hPc := pSub (ws' := (w_X6_fade h0 h_numbers h_book h_buffer h_ears h_frame h_records cy c_numbers)) hP [0, 5] rfl
        have hDc := dSub (ws' := (w_X6_fade h0 h_numbers h_book h_buffer h_ears h_frame h_records cy c_numbers)) hD [0, 5] (by decide) rfl
        have hFc := va_free (wc := (w_X6_fade h0 h_numbers h_book h_buffer h_ears h_frame h_records cy c_numbers)) hD hS hA [0, 5] rfl
        refine va_calli (va_runV (As := []) (rest := [.ref h_ears_1]) ⟨hx, hb, hml, hown, hts⟩ (c_X6_fade l dC dI cy h0 h_numbers h_book h_buffer h_ears h_frame h_records H.size c_numbers _ hw) (cwV 0 hts (goodV mw_501 mw_498 mw_499 mw_500 mw_56) rfl rfl rfl (by decide +kernel) ⟨Nat.le_of_ble_eq_true rfl, Nat.le_of_ble_eq_true rfl⟩) ⟨PX_blind, va_recv hK hPc (ci := 6) (q0 := 0) rfl rfl, PX_pre hPc hK hDc hG⟩ rfl rfl hl.1 rfl (lv_room (Nat.le_of_ble_eq_true rfl)) dX6_hearCode_57 ⟨Nat.zero_le _, Nat.zero_le _⟩) hS (fun q _ h => hFc q h) hFc ?_; clear hw hS; intro r55 _ t H1 locs1 ht hvm hw hB hz1 hk1 hS
        obtain ⟨hP1, -, -⟩ := hB
        rw [ht] at hP1
        replace hP := jC0 hP hD [0, 5] [1, 2, 3, 4, 6, 7, 8, 9, 10, 11, 12, 13, 14, 15, 16, 17, 18, 19, 20, 21, 22, 23, 24, 25, 26, 27, 28, 29] rfl hk1 hP1 (w_X6_hearCode h0 h_numbers h_book h_buffer h_ears h_frame h_records h_frame_split h_frame_told h_frame_quants h_frame_backs h_frame_rejoined h_frame_scales h_frame_needs h_frame_bits k1 k1_bytes h_ears_0 h_ears_1 h_ears_0_tree h_ears_0_row h_ears_0_made h_ears_0_fresh h_ears_0_tree_memoriesA h_ears_0_tree_memoriesB h_ears_0_tree_row h_ears_0_tree_next h_ears_1_tree h_ears_1_row h_ears_1_made h_ears_1_fresh h_ears_1_tree_memoriesA h_ears_1_tree_memoriesB h_ears_1_tree_row h_ears_1_tree_next cy x1 x2 x3 p1_size x4 p1_bytes f5 c_numbers f6 f7 f8 f9 f10 x17 x18 f11 f12 f13 f14 f19 f29 f21 x22 x23 f30 f31 f32 f33 f34 f25 f26) rfl rfl rfl 30 rfl (by decide +kernel); clear hD; obtain ⟨hP, hD⟩ := hP
        replace hP : va_P (dC, dI) vwCl (w_X6_hearCode h0 h_numbers h_book h_buffer h_ears h_frame h_records h_frame_split h_frame_told h_frame_quants h_frame_backs h_frame_rejoined h_frame_scales h_frame_needs h_frame_bits k1 k1_bytes h_ears_0 h_ears_1 h_ears_0_tree h_ears_0_row h_ears_0_made h_ears_0_fresh h_ears_0_tree_memoriesA h_ears_0_tree_memoriesB h_ears_0_tree_row h_ears_0_tree_next h_ears_1_tree h_ears_1_row h_ears_1_made h_ears_1_fresh h_ears_1_tree_memoriesA h_ears_1_tree_memoriesB h_ears_1_tree_row h_ears_1_tree_next cy x1 x2 x3 p1_size x4 p1_bytes f5 c_numbers f6 f7 f8 f9 f10 x17 x18 f11 f12 f13 f14 f19 f29 f21 x22 x23 f30 f31 f32 f33 f34 f25 f26) H1 := hP
        replace hD : va_D A (w_X6_hearCode h0 h_numbers h_book h_buffer h_ears h_frame h_records h_frame_split h_frame_told h_frame_quants h_frame_backs h_frame_rejoined h_frame_scales h_frame_needs h_frame_bits k1 k1_bytes h_ears_0 h_ears_1 h_ears_0_tree h_ears_0_row h_ears_0_made h_ears_0_fresh h_ears_0_tree_memoriesA h_ears_0_tree_memoriesB h_ears_0_tree_row h_ears_0_tree_next h_ears_1_tree h_ears_1_row h_ears_1_made h_ears_1_fresh h_ears_1_tree_memoriesA h_ears_1_tree_memoriesB h_ears_1_tree_row h_ears_1_tree_next cy x1 x2 x3 p1_size x4 p1_bytes f5 c_numbers f6 f7 f8 f9 f10 x17 x18 f11 f12 f13 f14 f19 f29 f21 x22 x23 f30 f31 f32 f33 f34 f25 f26) := hD
        clear hPc hDc hFc hP1 hk1 hz1 hvm ht; clear t; clear H locs; obtain ⟨H, hH⟩ : ∃ H, H = H1 := ⟨_, rfl⟩; obtain ⟨locs, hlo⟩ : ∃ L, L = locs1 := ⟨_, rfl⟩; subst hH; subst hlo
        refine W.widen (k := 0) (n := 0) (Nat.le_refl 0) (Nat.le_refl 0) ?_
        have hPc := pSub (ws' := (w_X3_makeUp h_ears_1 h_ears_1_tree h_ears_1_row h_ears_1_made h_ears_1_fresh cy x22 x23 f25 f26)) hP [21, 28, 29] rfl
        have hDc := dSub (ws' := (w_X3_makeUp h_ears_1 h_ears_1_tree h_ears_1_row h_ears_1_made h_ears_1_fresh cy x22 x23 f25 f26)) hD [21, 28, 29] (by decide) rfl
        have hFc := va_free (wc := (w_X3_makeUp h_ears_1 h_ears_1_tree h_ears_1_row h_ears_1_made h_ears_1_fresh cy x22 x23 f25 f26)) hD hS hA [21, 28, 29] rfl
        refine va_callv (va_runV (As := [.int r55]) (rest := []) ⟨hx, hb, hml, hown, hts⟩ (c_X3_makeUp l dC dI cy h_ears_1 h_ears_1_tree h_ears_1_row h_ears_1_made h_ears_1_fresh H.size r55 x22 x23 f25 f26 _ hw) (cwV 1 hts (goodV mw_538 mw_535 mw_536 mw_537 mw_147) rfl rfl rfl (by decide +kernel) ⟨Nat.le_of_ble_eq_true rfl, Nat.le_of_ble_eq_true rfl⟩) ⟨PX_blind, va_recv hK hPc (ci := 3) (q0 := 0) rfl rfl, PX_pre hPc hK hDc hG⟩ rfl rfl hl.1 rfl (lv_room (Nat.le_of_ble_eq_true rfl)) dX6_hearCode_60 ⟨Nat.zero_le _, Nat.zero_le _⟩) hS (fun q _ h => hFc q h) hFc ?_; clear hw hS; intro u t H1 locs1 ht hvm hw hB hz1 hk1 hS
        obtain ⟨x56, x57, f58, f59⟩ := u
        obtain ⟨hP1, -, -⟩ := hB
        rw [ht] at hP1
        replace hP := jC0 hP hD [21, 28, 29] [0, 1, 2, 3, 4, 5, 6, 7, 8, 9, 10, 11, 12, 13, 14, 15, 16, 17, 18, 19, 20, 22, 23, 24, 25, 26, 27] rfl hk1 hP1 (w_X6_hearCode h0 h_numbers h_book h_buffer h_ears h_frame h_records h_frame_split h_frame_told h_frame_quants h_frame_backs h_frame_rejoined h_frame_scales h_frame_needs h_frame_bits k1 k1_bytes h_ears_0 h_ears_1 h_ears_0_tree h_ears_0_row h_ears_0_made h_ears_0_fresh h_ears_0_tree_memoriesA h_ears_0_tree_memoriesB h_ears_0_tree_row h_ears_0_tree_next h_ears_1_tree h_ears_1_row h_ears_1_made h_ears_1_fresh h_ears_1_tree_memoriesA h_ears_1_tree_memoriesB h_ears_1_tree_row h_ears_1_tree_next cy x1 x2 x3 p1_size x4 p1_bytes f5 c_numbers f6 f7 f8 f9 f10 x17 x18 f11 f12 f13 f14 f19 f29 f21 x56 x57 f30 f31 f32 f33 f34 f58 f59) rfl rfl rfl 30 rfl (by decide +kernel); clear hD; obtain ⟨hP, hD⟩ := hP
        replace hP : va_P (dC, dI) vwCl (w_X6_hearCode h0 h_numbers h_book h_buffer h_ears h_frame h_records h_frame_split h_frame_told h_frame_quants h_frame_backs h_frame_rejoined h_frame_scales h_frame_needs h_frame_bits k1 k1_bytes h_ears_0 h_ears_1 h_ears_0_tree h_ears_0_row h_ears_0_made h_ears_0_fresh h_ears_0_tree_memoriesA h_ears_0_tree_memoriesB h_ears_0_tree_row h_ears_0_tree_next h_ears_1_tree h_ears_1_row h_ears_1_made h_ears_1_fresh h_ears_1_tree_memoriesA h_ears_1_tree_memoriesB h_ears_1_tree_row h_ears_1_tree_next cy x1 x2 x3 p1_size x4 p1_bytes f5 c_numbers f6 f7 f8 f9 f10 x17 x18 f11 f12 f13 f14 f19 f29 f21 x56 x57 f30 f31 f32 f33 f34 f58 f59) H1 := hP
        replace hD : va_D A (w_X6_hearCode h0 h_numbers h_book h_buffer h_ears h_frame h_records h_frame_split h_frame_told h_frame_quants h_frame_backs h_frame_rejoined h_frame_scales h_frame_needs h_frame_bits k1 k1_bytes h_ears_0 h_ears_1 h_ears_0_tree h_ears_0_row h_ears_0_made h_ears_0_fresh h_ears_0_tree_memoriesA h_ears_0_tree_memoriesB h_ears_0_tree_row h_ears_0_tree_next h_ears_1_tree h_ears_1_row h_ears_1_made h_ears_1_fresh h_ears_1_tree_memoriesA h_ears_1_tree_memoriesB h_ears_1_tree_row h_ears_1_tree_next cy x1 x2 x3 p1_size x4 p1_bytes f5 c_numbers f6 f7 f8 f9 f10 x17 x18 f11 f12 f13 f14 f19 f29 f21 x56 x57 f30 f31 f32 f33 f34 f58 f59) := hD
        clear hPc hDc hFc hP1 hk1 hz1 hvm ht; clear t; clear H locs; obtain ⟨H, hH⟩ : ∃ H, H = H1 := ⟨_, rfl⟩; obtain ⟨locs, hlo⟩ : ∃ L, L = locs1 := ⟨_, rfl⟩; subst hH; subst hlo
        refine W.widen (k := 0) (n := 0) (Nat.le_refl 0) (Nat.le_refl 0) ?_
        refine lv_aload_n hx hb dX6_hearCode_63 rfl (lv_at hl 0 rfl) ?_
        have hPc := pSub (ws' := (w_X3_blendWithMade h_ears_1 h_ears_1_tree h_ears_1_row h_ears_1_made h_ears_1_fresh cy x56 x57 f59 f34)) hP [21, 29, 27] rfl
        have hDc := dSub (ws' := (w_X3_blendWithMade h_ears_1 h_ears_1_tree h_ears_1_row h_ears_1_made h_ears_1_fresh cy x56 x57 f59 f34)) hD [21, 29, 27] (by decide) rfl
        have hFc := va_free (wc := (w_X3_blendWithMade h_ears_1 h_ears_1_tree h_ears_1_row h_ears_1_made h_ears_1_fresh cy x56 x57 f59 f34)) hD hS hA [21, 29, 27] rfl
        refine va_callv (va_runV (As := []) (rest := []) ⟨hx, hb, hml, hown, hts⟩ (c_X3_blendWithMade l dC dI cy h_ears_1 h_ears_1_tree h_ears_1_row h_ears_1_made h_ears_1_fresh H.size x56 x57 f59 f34 _ hw) (cwV 0 hts (goodV mw_548 mw_545 mw_546 mw_547 mw_147) rfl rfl rfl (by decide +kernel) ⟨Nat.le_of_ble_eq_true rfl, Nat.le_of_ble_eq_true rfl⟩) ⟨PX_blind, va_recv hK hPc (ci := 3) (q0 := 0) rfl rfl, PX_pre hPc hK hDc hG⟩ rfl rfl hl.1 rfl (lv_room (Nat.le_of_ble_eq_true rfl)) dX6_hearCode_64 ⟨Nat.zero_le _, Nat.zero_le _⟩) hS (fun q _ h => hFc q h) hFc ?_; clear hw hS; intro f60 t H1 locs1 ht hvm hw hB hz1 hk1 hS
        obtain ⟨hP1, -, -⟩ := hB
        rw [ht] at hP1
        replace hP := jC0 hP hD [21, 29, 27] [0, 1, 2, 3, 4, 5, 6, 7, 8, 9, 10, 11, 12, 13, 14, 15, 16, 17, 18, 19, 20, 22, 23, 24, 25, 26, 28] rfl hk1 hP1 (w_X6_hearCode h0 h_numbers h_book h_buffer h_ears h_frame h_records h_frame_split h_frame_told h_frame_quants h_frame_backs h_frame_rejoined h_frame_scales h_frame_needs h_frame_bits k1 k1_bytes h_ears_0 h_ears_1 h_ears_0_tree h_ears_0_row h_ears_0_made h_ears_0_fresh h_ears_0_tree_memoriesA h_ears_0_tree_memoriesB h_ears_0_tree_row h_ears_0_tree_next h_ears_1_tree h_ears_1_row h_ears_1_made h_ears_1_fresh h_ears_1_tree_memoriesA h_ears_1_tree_memoriesB h_ears_1_tree_row h_ears_1_tree_next cy x1 x2 x3 p1_size x4 p1_bytes f5 c_numbers f6 f7 f8 f9 f10 x17 x18 f11 f12 f13 f14 f19 f29 f21 x56 x57 f30 f31 f32 f33 f60 f58 f59) rfl rfl rfl 30 rfl (by decide +kernel); clear hD; obtain ⟨hP, hD⟩ := hP
        replace hP : va_P (dC, dI) vwCl (w_X6_hearCode h0 h_numbers h_book h_buffer h_ears h_frame h_records h_frame_split h_frame_told h_frame_quants h_frame_backs h_frame_rejoined h_frame_scales h_frame_needs h_frame_bits k1 k1_bytes h_ears_0 h_ears_1 h_ears_0_tree h_ears_0_row h_ears_0_made h_ears_0_fresh h_ears_0_tree_memoriesA h_ears_0_tree_memoriesB h_ears_0_tree_row h_ears_0_tree_next h_ears_1_tree h_ears_1_row h_ears_1_made h_ears_1_fresh h_ears_1_tree_memoriesA h_ears_1_tree_memoriesB h_ears_1_tree_row h_ears_1_tree_next cy x1 x2 x3 p1_size x4 p1_bytes f5 c_numbers f6 f7 f8 f9 f10 x17 x18 f11 f12 f13 f14 f19 f29 f21 x56 x57 f30 f31 f32 f33 f60 f58 f59) H1 := hP
        replace hD : va_D A (w_X6_hearCode h0 h_numbers h_book h_buffer h_ears h_frame h_records h_frame_split h_frame_told h_frame_quants h_frame_backs h_frame_rejoined h_frame_scales h_frame_needs h_frame_bits k1 k1_bytes h_ears_0 h_ears_1 h_ears_0_tree h_ears_0_row h_ears_0_made h_ears_0_fresh h_ears_0_tree_memoriesA h_ears_0_tree_memoriesB h_ears_0_tree_row h_ears_0_tree_next h_ears_1_tree h_ears_1_row h_ears_1_made h_ears_1_fresh h_ears_1_tree_memoriesA h_ears_1_tree_memoriesB h_ears_1_tree_row h_ears_1_tree_next cy x1 x2 x3 p1_size x4 p1_bytes f5 c_numbers f6 f7 f8 f9 f10 x17 x18 f11 f12 f13 f14 f19 f29 f21 x56 x57 f30 f31 f32 f33 f60 f58 f59) := hD
        clear hPc hDc hFc hP1 hk1 hz1 hvm ht; clear t; clear H locs; obtain ⟨H, hH⟩ : ∃ H, H = H1 := ⟨_, rfl⟩; obtain ⟨locs, hlo⟩ : ∃ L, L = locs1 := ⟨_, rfl⟩; subst hH; subst hlo
        refine W.widen (k := 0) (n := 0) (Nat.le_refl 0) (Nat.le_refl 0) ?_
        exact j47 x17 x18 f19 f29 f21 x56 x57 f60 f58 f59 hw H locs ls hP hD hS (lv_sub hl [2, 1, 0] rfl)
  · intro j28 hw
    refine lv_if_le (tgt := 67) hx hb dX6_hearCode_52 (by decide) (fun c61 => ?_) (fun c61 => ?_)
    · replace hw := hw.1 c61
      exact j28 c_ears_0_lag c_ears_0_lagSum f15 c_ears_0_row c_ears_0_made c_ears_1_lag c_ears_1_lagSum c_ears_1_fresh c_ears_1_row c_ears_1_made hw H locs ls hP hD hS (lv_sub hl [2, 1, 0] rfl)
    · replace hw := hw.2 c61
      refine lv_aload_n hx hb dX6_hearCode_55 rfl (lv_at hl 0 rfl) ?_
      refine lv_aload_n hx hb dX6_hearCode_56 rfl (lv_at hl 2 rfl) ?_
      have hPc := pSub (ws' := (w_X6_fade h0 h_numbers h_book h_buffer h_ears h_frame h_records cy c_numbers)) hP [0, 5] rfl
      have hDc := dSub (ws' := (w_X6_fade h0 h_numbers h_book h_buffer h_ears h_frame h_records cy c_numbers)) hD [0, 5] (by decide) rfl
      have hFc := va_free (wc := (w_X6_fade h0 h_numbers h_book h_buffer h_ears h_frame h_records cy c_numbers)) hD hS hA [0, 5] rfl
      refine va_calli (va_runV (As := []) (rest := [.ref h_ears_0]) ⟨hx, hb, hml, hown, hts⟩ (c_X6_fade l dC dI cy h0 h_numbers h_book h_buffer h_ears h_frame h_records H.size c_numbers _ hw) (cwV 0 hts (goodV mw_501 mw_498 mw_499 mw_500 mw_56) rfl rfl rfl (by decide +kernel) ⟨Nat.le_of_ble_eq_true rfl, Nat.le_of_ble_eq_true rfl⟩) ⟨PX_blind, va_recv hK hPc (ci := 6) (q0 := 0) rfl rfl, PX_pre hPc hK hDc hG⟩ rfl rfl hl.1 rfl (lv_room (Nat.le_of_ble_eq_true rfl)) dX6_hearCode_57 ⟨Nat.zero_le _, Nat.zero_le _⟩) hS (fun q _ h => hFc q h) hFc ?_; clear hw hS; intro r62 _ t H1 locs1 ht hvm hw hB hz1 hk1 hS
      obtain ⟨hP1, -, -⟩ := hB
      rw [ht] at hP1
      replace hP := jC0 hP hD [0, 5] [1, 2, 3, 4, 6, 7, 8, 9, 10, 11, 12, 13, 14, 15, 16, 17, 18, 19, 20, 21, 22, 23, 24, 25, 26, 27, 28, 29] rfl hk1 hP1 (w_X6_hearCode h0 h_numbers h_book h_buffer h_ears h_frame h_records h_frame_split h_frame_told h_frame_quants h_frame_backs h_frame_rejoined h_frame_scales h_frame_needs h_frame_bits k1 k1_bytes h_ears_0 h_ears_1 h_ears_0_tree h_ears_0_row h_ears_0_made h_ears_0_fresh h_ears_0_tree_memoriesA h_ears_0_tree_memoriesB h_ears_0_tree_row h_ears_0_tree_next h_ears_1_tree h_ears_1_row h_ears_1_made h_ears_1_fresh h_ears_1_tree_memoriesA h_ears_1_tree_memoriesB h_ears_1_tree_row h_ears_1_tree_next cy x1 x2 x3 p1_size x4 p1_bytes f5 c_numbers f6 f7 f8 f9 f10 c_ears_0_lag c_ears_0_lagSum f11 f12 f13 f14 f15 c_ears_0_row c_ears_0_made c_ears_1_lag c_ears_1_lagSum c_ears_1_tree_row c_ears_1_tree_memoriesB c_ears_1_tree_memoriesA c_ears_1_tree_next c_ears_1_fresh c_ears_1_row c_ears_1_made) rfl rfl rfl 30 rfl (by decide +kernel); clear hD; obtain ⟨hP, hD⟩ := hP
      replace hP : va_P (dC, dI) vwCl (w_X6_hearCode h0 h_numbers h_book h_buffer h_ears h_frame h_records h_frame_split h_frame_told h_frame_quants h_frame_backs h_frame_rejoined h_frame_scales h_frame_needs h_frame_bits k1 k1_bytes h_ears_0 h_ears_1 h_ears_0_tree h_ears_0_row h_ears_0_made h_ears_0_fresh h_ears_0_tree_memoriesA h_ears_0_tree_memoriesB h_ears_0_tree_row h_ears_0_tree_next h_ears_1_tree h_ears_1_row h_ears_1_made h_ears_1_fresh h_ears_1_tree_memoriesA h_ears_1_tree_memoriesB h_ears_1_tree_row h_ears_1_tree_next cy x1 x2 x3 p1_size x4 p1_bytes f5 c_numbers f6 f7 f8 f9 f10 c_ears_0_lag c_ears_0_lagSum f11 f12 f13 f14 f15 c_ears_0_row c_ears_0_made c_ears_1_lag c_ears_1_lagSum c_ears_1_tree_row c_ears_1_tree_memoriesB c_ears_1_tree_memoriesA c_ears_1_tree_next c_ears_1_fresh c_ears_1_row c_ears_1_made) H1 := hP
      replace hD : va_D A (w_X6_hearCode h0 h_numbers h_book h_buffer h_ears h_frame h_records h_frame_split h_frame_told h_frame_quants h_frame_backs h_frame_rejoined h_frame_scales h_frame_needs h_frame_bits k1 k1_bytes h_ears_0 h_ears_1 h_ears_0_tree h_ears_0_row h_ears_0_made h_ears_0_fresh h_ears_0_tree_memoriesA h_ears_0_tree_memoriesB h_ears_0_tree_row h_ears_0_tree_next h_ears_1_tree h_ears_1_row h_ears_1_made h_ears_1_fresh h_ears_1_tree_memoriesA h_ears_1_tree_memoriesB h_ears_1_tree_row h_ears_1_tree_next cy x1 x2 x3 p1_size x4 p1_bytes f5 c_numbers f6 f7 f8 f9 f10 c_ears_0_lag c_ears_0_lagSum f11 f12 f13 f14 f15 c_ears_0_row c_ears_0_made c_ears_1_lag c_ears_1_lagSum c_ears_1_tree_row c_ears_1_tree_memoriesB c_ears_1_tree_memoriesA c_ears_1_tree_next c_ears_1_fresh c_ears_1_row c_ears_1_made) := hD
      clear hPc hDc hFc hP1 hk1 hz1 hvm ht; clear t; clear H locs; obtain ⟨H, hH⟩ : ∃ H, H = H1 := ⟨_, rfl⟩; obtain ⟨locs, hlo⟩ : ∃ L, L = locs1 := ⟨_, rfl⟩; subst hH; subst hlo
      refine W.widen (k := 0) (n := 0) (Nat.le_refl 0) (Nat.le_refl 0) ?_
      have hPc := pSub (ws' := (w_X3_makeUp h_ears_0 h_ears_0_tree h_ears_0_row h_ears_0_made h_ears_0_fresh cy c_ears_0_lag c_ears_0_lagSum c_ears_0_row c_ears_0_made)) hP [12, 19, 20] rfl
      have hDc := dSub (ws' := (w_X3_makeUp h_ears_0 h_ears_0_tree h_ears_0_row h_ears_0_made h_ears_0_fresh cy c_ears_0_lag c_ears_0_lagSum c_ears_0_row c_ears_0_made)) hD [12, 19, 20] (by decide) rfl
      have hFc := va_free (wc := (w_X3_makeUp h_ears_0 h_ears_0_tree h_ears_0_row h_ears_0_made h_ears_0_fresh cy c_ears_0_lag c_ears_0_lagSum c_ears_0_row c_ears_0_made)) hD hS hA [12, 19, 20] rfl
      refine va_callv (va_runV (As := [.int r62]) (rest := []) ⟨hx, hb, hml, hown, hts⟩ (c_X3_makeUp l dC dI cy h_ears_0 h_ears_0_tree h_ears_0_row h_ears_0_made h_ears_0_fresh H.size r62 c_ears_0_lag c_ears_0_lagSum c_ears_0_row c_ears_0_made _ hw) (cwV 1 hts (goodV mw_538 mw_535 mw_536 mw_537 mw_147) rfl rfl rfl (by decide +kernel) ⟨Nat.le_of_ble_eq_true rfl, Nat.le_of_ble_eq_true rfl⟩) ⟨PX_blind, va_recv hK hPc (ci := 3) (q0 := 0) rfl rfl, PX_pre hPc hK hDc hG⟩ rfl rfl hl.1 rfl (lv_room (Nat.le_of_ble_eq_true rfl)) dX6_hearCode_60 ⟨Nat.zero_le _, Nat.zero_le _⟩) hS (fun q _ h => hFc q h) hFc ?_; clear hw hS; intro u t H1 locs1 ht hvm hw hB hz1 hk1 hS
      obtain ⟨x63, x64, f65, f66⟩ := u
      obtain ⟨hP1, -, -⟩ := hB
      rw [ht] at hP1
      replace hP := jC0 hP hD [12, 19, 20] [0, 1, 2, 3, 4, 5, 6, 7, 8, 9, 10, 11, 13, 14, 15, 16, 17, 18, 21, 22, 23, 24, 25, 26, 27, 28, 29] rfl hk1 hP1 (w_X6_hearCode h0 h_numbers h_book h_buffer h_ears h_frame h_records h_frame_split h_frame_told h_frame_quants h_frame_backs h_frame_rejoined h_frame_scales h_frame_needs h_frame_bits k1 k1_bytes h_ears_0 h_ears_1 h_ears_0_tree h_ears_0_row h_ears_0_made h_ears_0_fresh h_ears_0_tree_memoriesA h_ears_0_tree_memoriesB h_ears_0_tree_row h_ears_0_tree_next h_ears_1_tree h_ears_1_row h_ears_1_made h_ears_1_fresh h_ears_1_tree_memoriesA h_ears_1_tree_memoriesB h_ears_1_tree_row h_ears_1_tree_next cy x1 x2 x3 p1_size x4 p1_bytes f5 c_numbers f6 f7 f8 f9 f10 x63 x64 f11 f12 f13 f14 f15 f65 f66 c_ears_1_lag c_ears_1_lagSum c_ears_1_tree_row c_ears_1_tree_memoriesB c_ears_1_tree_memoriesA c_ears_1_tree_next c_ears_1_fresh c_ears_1_row c_ears_1_made) rfl rfl rfl 30 rfl (by decide +kernel); clear hD; obtain ⟨hP, hD⟩ := hP
      replace hP : va_P (dC, dI) vwCl (w_X6_hearCode h0 h_numbers h_book h_buffer h_ears h_frame h_records h_frame_split h_frame_told h_frame_quants h_frame_backs h_frame_rejoined h_frame_scales h_frame_needs h_frame_bits k1 k1_bytes h_ears_0 h_ears_1 h_ears_0_tree h_ears_0_row h_ears_0_made h_ears_0_fresh h_ears_0_tree_memoriesA h_ears_0_tree_memoriesB h_ears_0_tree_row h_ears_0_tree_next h_ears_1_tree h_ears_1_row h_ears_1_made h_ears_1_fresh h_ears_1_tree_memoriesA h_ears_1_tree_memoriesB h_ears_1_tree_row h_ears_1_tree_next cy x1 x2 x3 p1_size x4 p1_bytes f5 c_numbers f6 f7 f8 f9 f10 x63 x64 f11 f12 f13 f14 f15 f65 f66 c_ears_1_lag c_ears_1_lagSum c_ears_1_tree_row c_ears_1_tree_memoriesB c_ears_1_tree_memoriesA c_ears_1_tree_next c_ears_1_fresh c_ears_1_row c_ears_1_made) H1 := hP
      replace hD : va_D A (w_X6_hearCode h0 h_numbers h_book h_buffer h_ears h_frame h_records h_frame_split h_frame_told h_frame_quants h_frame_backs h_frame_rejoined h_frame_scales h_frame_needs h_frame_bits k1 k1_bytes h_ears_0 h_ears_1 h_ears_0_tree h_ears_0_row h_ears_0_made h_ears_0_fresh h_ears_0_tree_memoriesA h_ears_0_tree_memoriesB h_ears_0_tree_row h_ears_0_tree_next h_ears_1_tree h_ears_1_row h_ears_1_made h_ears_1_fresh h_ears_1_tree_memoriesA h_ears_1_tree_memoriesB h_ears_1_tree_row h_ears_1_tree_next cy x1 x2 x3 p1_size x4 p1_bytes f5 c_numbers f6 f7 f8 f9 f10 x63 x64 f11 f12 f13 f14 f15 f65 f66 c_ears_1_lag c_ears_1_lagSum c_ears_1_tree_row c_ears_1_tree_memoriesB c_ears_1_tree_memoriesA c_ears_1_tree_next c_ears_1_fresh c_ears_1_row c_ears_1_made) := hD
      clear hPc hDc hFc hP1 hk1 hz1 hvm ht; clear t; clear H locs; obtain ⟨H, hH⟩ : ∃ H, H = H1 := ⟨_, rfl⟩; obtain ⟨locs, hlo⟩ : ∃ L, L = locs1 := ⟨_, rfl⟩; subst hH; subst hlo
      refine W.widen (k := 0) (n := 0) (Nat.le_refl 0) (Nat.le_refl 0) ?_
      refine lv_aload_n hx hb dX6_hearCode_63 rfl (lv_at hl 0 rfl) ?_
      have hPc := pSub (ws' := (w_X3_blendWithMade h_ears_0 h_ears_0_tree h_ears_0_row h_ears_0_made h_ears_0_fresh cy x63 x64 f66 f15)) hP [12, 20, 18] rfl
      have hDc := dSub (ws' := (w_X3_blendWithMade h_ears_0 h_ears_0_tree h_ears_0_row h_ears_0_made h_ears_0_fresh cy x63 x64 f66 f15)) hD [12, 20, 18] (by decide) rfl
      have hFc := va_free (wc := (w_X3_blendWithMade h_ears_0 h_ears_0_tree h_ears_0_row h_ears_0_made h_ears_0_fresh cy x63 x64 f66 f15)) hD hS hA [12, 20, 18] rfl
      refine va_callv (va_runV (As := []) (rest := []) ⟨hx, hb, hml, hown, hts⟩ (c_X3_blendWithMade l dC dI cy h_ears_0 h_ears_0_tree h_ears_0_row h_ears_0_made h_ears_0_fresh H.size x63 x64 f66 f15 _ hw) (cwV 0 hts (goodV mw_548 mw_545 mw_546 mw_547 mw_147) rfl rfl rfl (by decide +kernel) ⟨Nat.le_of_ble_eq_true rfl, Nat.le_of_ble_eq_true rfl⟩) ⟨PX_blind, va_recv hK hPc (ci := 3) (q0 := 0) rfl rfl, PX_pre hPc hK hDc hG⟩ rfl rfl hl.1 rfl (lv_room (Nat.le_of_ble_eq_true rfl)) dX6_hearCode_64 ⟨Nat.zero_le _, Nat.zero_le _⟩) hS (fun q _ h => hFc q h) hFc ?_; clear hw hS; intro f67 t H1 locs1 ht hvm hw hB hz1 hk1 hS
      obtain ⟨hP1, -, -⟩ := hB
      rw [ht] at hP1
      replace hP := jC0 hP hD [12, 20, 18] [0, 1, 2, 3, 4, 5, 6, 7, 8, 9, 10, 11, 13, 14, 15, 16, 17, 19, 21, 22, 23, 24, 25, 26, 27, 28, 29] rfl hk1 hP1 (w_X6_hearCode h0 h_numbers h_book h_buffer h_ears h_frame h_records h_frame_split h_frame_told h_frame_quants h_frame_backs h_frame_rejoined h_frame_scales h_frame_needs h_frame_bits k1 k1_bytes h_ears_0 h_ears_1 h_ears_0_tree h_ears_0_row h_ears_0_made h_ears_0_fresh h_ears_0_tree_memoriesA h_ears_0_tree_memoriesB h_ears_0_tree_row h_ears_0_tree_next h_ears_1_tree h_ears_1_row h_ears_1_made h_ears_1_fresh h_ears_1_tree_memoriesA h_ears_1_tree_memoriesB h_ears_1_tree_row h_ears_1_tree_next cy x1 x2 x3 p1_size x4 p1_bytes f5 c_numbers f6 f7 f8 f9 f10 x63 x64 f11 f12 f13 f14 f67 f65 f66 c_ears_1_lag c_ears_1_lagSum c_ears_1_tree_row c_ears_1_tree_memoriesB c_ears_1_tree_memoriesA c_ears_1_tree_next c_ears_1_fresh c_ears_1_row c_ears_1_made) rfl rfl rfl 30 rfl (by decide +kernel); clear hD; obtain ⟨hP, hD⟩ := hP
      replace hP : va_P (dC, dI) vwCl (w_X6_hearCode h0 h_numbers h_book h_buffer h_ears h_frame h_records h_frame_split h_frame_told h_frame_quants h_frame_backs h_frame_rejoined h_frame_scales h_frame_needs h_frame_bits k1 k1_bytes h_ears_0 h_ears_1 h_ears_0_tree h_ears_0_row h_ears_0_made h_ears_0_fresh h_ears_0_tree_memoriesA h_ears_0_tree_memoriesB h_ears_0_tree_row h_ears_0_tree_next h_ears_1_tree h_ears_1_row h_ears_1_made h_ears_1_fresh h_ears_1_tree_memoriesA h_ears_1_tree_memoriesB h_ears_1_tree_row h_ears_1_tree_next cy x1 x2 x3 p1_size x4 p1_bytes f5 c_numbers f6 f7 f8 f9 f10 x63 x64 f11 f12 f13 f14 f67 f65 f66 c_ears_1_lag c_ears_1_lagSum c_ears_1_tree_row c_ears_1_tree_memoriesB c_ears_1_tree_memoriesA c_ears_1_tree_next c_ears_1_fresh c_ears_1_row c_ears_1_made) H1 := hP
      replace hD : va_D A (w_X6_hearCode h0 h_numbers h_book h_buffer h_ears h_frame h_records h_frame_split h_frame_told h_frame_quants h_frame_backs h_frame_rejoined h_frame_scales h_frame_needs h_frame_bits k1 k1_bytes h_ears_0 h_ears_1 h_ears_0_tree h_ears_0_row h_ears_0_made h_ears_0_fresh h_ears_0_tree_memoriesA h_ears_0_tree_memoriesB h_ears_0_tree_row h_ears_0_tree_next h_ears_1_tree h_ears_1_row h_ears_1_made h_ears_1_fresh h_ears_1_tree_memoriesA h_ears_1_tree_memoriesB h_ears_1_tree_row h_ears_1_tree_next cy x1 x2 x3 p1_size x4 p1_bytes f5 c_numbers f6 f7 f8 f9 f10 x63 x64 f11 f12 f13 f14 f67 f65 f66 c_ears_1_lag c_ears_1_lagSum c_ears_1_tree_row c_ears_1_tree_memoriesB c_ears_1_tree_memoriesA c_ears_1_tree_next c_ears_1_fresh c_ears_1_row c_ears_1_made) := hD
      clear hPc hDc hFc hP1 hk1 hz1 hvm ht; clear t; clear H locs; obtain ⟨H, hH⟩ : ∃ H, H = H1 := ⟨_, rfl⟩; obtain ⟨locs, hlo⟩ : ∃ L, L = locs1 := ⟨_, rfl⟩; subst hH; subst hlo
      refine W.widen (k := 0) (n := 0) (Nat.le_refl 0) (Nat.le_refl 0) ?_
      exact j28 x63 x64 f67 f65 f66 c_ears_1_lag c_ears_1_lagSum c_ears_1_fresh c_ears_1_row c_ears_1_made hw H locs ls hP hD hS (lv_sub hl [2, 1, 0] rfl)
set_option maxHeartbeats 4000000 in
set_option maxRecDepth 100000 in
theorem c_X6_hearMadeUp (l : Launch) (dC : Nat → ClassId) (dI : Nat → Nat → Nat) (cy : Nat → ClassId) (h0 h_numbers h_book h_buffer h_ears h_frame h_records h_ears_0 h_ears_1 h_ears_0_tree h_ears_0_row h_ears_0_made h_ears_0_fresh h_ears_1_tree h_ears_1_row h_ears_1_made h_ears_1_fresh : Nat) (sz : Nat) (v1 : Int32) (c_ears_0_lag : Int32) (c_ears_0_lagSum : Int32) (c_ears_0_row : Nat → Int32) (c_ears_0_made : Nat → Int32) (c_ears_1_lag : Int32) (c_ears_1_lagSum : Int32) (c_ears_1_row : Nat → Int32) (c_ears_1_made : Nat → Int32) (c_numbers : Nat → Int32) (post : Int32 → Int32 → (Nat → Int32) → (Nat → Int32) → Int32 → Int32 → (Nat → Int32) → (Nat → Int32) → (Nat → Int32) → Prop) (hw : wp_X6_hearMadeUp v1 c_ears_0_lag c_ears_0_lagSum c_ears_0_row c_ears_0_made c_ears_1_lag c_ears_1_lagSum c_ears_1_row c_ears_1_made c_numbers post) : Met l yX6_hearMadeUp wsX6_hearMadeUp ({ frames := 3, cells := 0, slots := 0, locals := 75 }) (PX dC dI cy [.ref h0, .int v1] sz (w_X6_hearMadeUp h0 h_numbers h_book h_buffer h_ears h_frame h_records h_ears_0 h_ears_1 h_ears_0_tree h_ears_0_row h_ears_0_made h_ears_0_fresh h_ears_1_tree h_ears_1_row h_ears_1_made h_ears_1_fresh cy c_ears_0_lag c_ears_0_lagSum c_ears_0_row c_ears_0_made c_ears_1_lag c_ears_1_lagSum c_ears_1_row c_ears_1_made c_numbers)) (va_Qv (fun (u : Int32 × Int32 × (Nat → Int32) × (Nat → Int32) × Int32 × Int32 × (Nat → Int32) × (Nat → Int32) × (Nat → Int32)) => post u.1 u.2.1 u.2.2.1 u.2.2.2.1 u.2.2.2.2.1 u.2.2.2.2.2.1 u.2.2.2.2.2.2.1 u.2.2.2.2.2.2.2.1 u.2.2.2.2.2.2.2.2) (QX dC dI cy (va_A (w_X6_hearMadeUp h0 h_numbers h_book h_buffer h_ears h_frame h_records h_ears_0 h_ears_1 h_ears_0_tree h_ears_0_row h_ears_0_made h_ears_0_fresh h_ears_1_tree h_ears_1_row h_ears_1_made h_ears_1_fresh cy c_ears_0_lag c_ears_0_lagSum c_ears_0_row c_ears_0_made c_ears_1_lag c_ears_1_lagSum c_ears_1_row c_ears_1_made c_numbers) sz) (fun (u : Int32 × Int32 × (Nat → Int32) × (Nat → Int32) × Int32 × Int32 × (Nat → Int32) × (Nat → Int32) × (Nat → Int32)) => w_X6_hearMadeUp h0 h_numbers h_book h_buffer h_ears h_frame h_records h_ears_0 h_ears_1 h_ears_0_tree h_ears_0_row h_ears_0_made h_ears_0_fresh h_ears_1_tree h_ears_1_row h_ears_1_made h_ears_1_fresh cy u.1 u.2.1 u.2.2.1 u.2.2.2.1 u.2.2.2.2.1 u.2.2.2.2.2.1 u.2.2.2.2.2.2.1 u.2.2.2.2.2.2.2.1 u.2.2.2.2.2.2.2.2)) (va_A (w_X6_hearMadeUp h0 h_numbers h_book h_buffer h_ears h_frame h_records h_ears_0 h_ears_1 h_ears_0_tree h_ears_0_row h_ears_0_made h_ears_0_fresh h_ears_1_tree h_ears_1_row h_ears_1_made h_ears_1_fresh cy c_ears_0_lag c_ears_0_lagSum c_ears_0_row c_ears_0_made c_ears_1_lag c_ears_1_lagSum c_ears_1_row c_ears_1_made c_numbers) sz)) 0 0 (va_A (w_X6_hearMadeUp h0 h_numbers h_book h_buffer h_ears h_frame h_records h_ears_0 h_ears_1 h_ears_0_tree h_ears_0_row h_ears_0_made h_ears_0_fresh h_ears_1_tree h_ears_1_row h_ears_1_made h_ears_1_fresh cy c_ears_0_lag c_ears_0_lagSum c_ears_0_row c_ears_0_made c_ears_1_lag c_ears_1_lagSum c_ears_1_row c_ears_1_made c_numbers) sz) := by
  refine Met.ofW (cc := cX6_hearMadeUp) (maxL := 4) (ret := none) (by decide) rfl ?_
  intro p e s m args below meth c s₁ B hml hv
  obtain ⟨rfl, hsz, hP, hK, hD0, hG⟩ := hv
  have hx := B.exec
  have hb := B.bytes
  have hr := B.returns
  have hts := atoms_spec (ws := wsX6_hearMadeUp) B.pre
  have hown : s.vm.findClass RX6 = some m.cls := findClass_of_methodNamed B.named
  have hlocks := B.notSynchronized
  subst hsz
  have hD := hD0.self (sz := s.heap.size)
  generalize hAe : va_A (w_X6_hearMadeUp h0 h_numbers h_book h_buffer h_ears h_frame h_records h_ears_0 h_ears_1 h_ears_0_tree h_ears_0_row h_ears_0_made h_ears_0_fresh h_ears_1_tree h_ears_1_row h_ears_1_made h_ears_1_fresh cy c_ears_0_lag c_ears_0_lagSum c_ears_0_row c_ears_0_made c_ears_1_lag c_ears_1_lagSum c_ears_1_row c_ears_1_made c_numbers) s.heap.size = A at hD ⊢
  have hA : ∀ q : Nat, s.heap.size ≤ q → A q := fun q h => by rw [← hAe]; exact Or.inr h
  have hS : va_S A s.heap s.heap [] := va_S.rf
  have hl := lv_entry ([.ref h0, .int v1]) (n := 4) (Nat.le_of_ble_eq_true rfl)
  rw [lg_entry_eq]
  generalize (lg_sl ([.ref h0, .int v1]) ++ List.replicate (4 - (lg_sl ([.ref h0, .int v1])).length) Slot.unset).toArray = ls at hl ⊢
  replace hl : lv_has ls 4 [(0, .ref h0), (1, .int v1)] := hl
  have inX3 : ∀ w ∈ u_ws RX3 TX3 6, w ∈ wsX6_hearMadeUp := fun w h => List.mem_cons_of_mem _ (inlX3 w h)
  have inX6 : ∀ w ∈ u_ws RX6 TX6 6, w ∈ wsX6_hearMadeUp := fun w h => List.mem_cons_of_mem _ (inlX6 w h)
  clear hAe hD0 B
  unfold wp_X6_hearMadeUp at hw
  generalize hQe : MQ below _ _ s _ _ _ = Q0
  generalize ([.ref h0, .int v1] : List Value).toArray = av at *
  obtain ⟨H, hH⟩ : ∃ H, H = s.heap := ⟨_, rfl⟩
  obtain ⟨locs, hlo⟩ : ∃ L : List Loc, L = [] := ⟨_, rfl⟩
  replace hP : va_P (dC, dI) vwCl (w_X6_hearMadeUp h0 h_numbers h_book h_buffer h_ears h_frame h_records h_ears_0 h_ears_1 h_ears_0_tree h_ears_0_row h_ears_0_made h_ears_0_fresh h_ears_1_tree h_ears_1_row h_ears_1_made h_ears_1_fresh cy c_ears_0_lag c_ears_0_lagSum c_ears_0_row c_ears_0_made c_ears_1_lag c_ears_1_lagSum c_ears_1_row c_ears_1_made c_numbers) H := by rw [hH]; exact hP
  replace hS : va_S A s.heap H locs := by rw [hH, hlo]; exact hS
  suffices hgo : W p l e ({ frames := 3, cells := 0, slots := 0, locals := 75 }) s m av below meth c H locs 0 0 Q0 (F0 m 0 ls []) by rw [hH, hlo] at hgo; exact hgo
  clear hH hlo
  refine lv_iconst (v := 0) hx hb dX6_hearMadeUp_0 (by decide) ?_
  refine lv_istore_n (lv' := [(2, .int (0 : Int32)), (0, .ref h0), (1, .int v1)]) hx hb dX6_hearMadeUp_1 rfl hl (by decide) rfl ?_; clear hl; clear ls; intro ls hl
  refine lv_iload_n hx hb dX6_hearMadeUp_2 rfl (lv_at hl 0 rfl) ?_
  refine lv_iconst (v := 2) hx hb dX6_hearMadeUp_3 (by decide) ?_
  refine lv_icmp_ge (tgt := 33) hx hb dX6_hearMadeUp_4 (by decide) (fun hc => absurd hc (by decide)) (fun _ => ?_)
  refine lv_aload_n hx hb dX6_hearMadeUp_7 rfl (lv_at hl 1 rfl) ?_
  refine va_get (D := (dC, dI)) (ci := 6) (v := .ref h_ears) (C := RX6) (T := TX6) (N := 6) hx hb hts inX6 hown hK hP 0 rfl rfl 3 (by decide) (hts _ (List.mem_cons_of_mem _ mw_148)) (fun _ h9 => h9) rfl dX6_hearMadeUp_8 ?_
  refine lv_iload_n hx hb dX6_hearMadeUp_11 rfl (lv_at hl 0 rfl) ?_
  refine xald0 hx hb hK hP 1 3 rfl rfl dX6_hearMadeUp_12 ?_
  refine lv_astore_n (lv' := [(3, .ref h_ears_0), (2, .int (0 : Int32)), (0, .ref h0), (1, .int v1)]) hx hb dX6_hearMadeUp_13 rfl hl (by decide) rfl ?_; clear hl; clear ls; intro ls hl
  refine lv_aload_n hx hb dX6_hearMadeUp_14 rfl (lv_at hl 0 rfl) ?_
  refine lv_iload_n hx hb dX6_hearMadeUp_15 rfl (lv_at hl 3 rfl) ?_
  have hPc := pSub (ws' := (w_X3_makeUp h_ears_0 h_ears_0_tree h_ears_0_row h_ears_0_made h_ears_0_fresh cy c_ears_0_lag c_ears_0_lagSum c_ears_0_row c_ears_0_made)) hP [2, 3, 4] rfl
  have hDc := dSub (ws' := (w_X3_makeUp h_ears_0 h_ears_0_tree h_ears_0_row h_ears_0_made h_ears_0_fresh cy c_ears_0_lag c_ears_0_lagSum c_ears_0_row c_ears_0_made)) hD [2, 3, 4] (by decide) rfl
  have hFc := va_free (wc := (w_X3_makeUp h_ears_0 h_ears_0_tree h_ears_0_row h_ears_0_made h_ears_0_fresh cy c_ears_0_lag c_ears_0_lagSum c_ears_0_row c_ears_0_made)) hD hS hA [2, 3, 4] rfl
  refine va_callv (va_runV (As := [.int v1]) (rest := []) ⟨hx, hb, hml, hown, hts⟩ (c_X3_makeUp l dC dI cy h_ears_0 h_ears_0_tree h_ears_0_row h_ears_0_made h_ears_0_fresh H.size v1 c_ears_0_lag c_ears_0_lagSum c_ears_0_row c_ears_0_made _ hw) (cwV 1 hts (goodV mw_538 mw_535 mw_536 mw_537 mw_147) rfl rfl rfl (by decide +kernel) ⟨Nat.le_of_ble_eq_true rfl, Nat.le_of_ble_eq_true rfl⟩) ⟨PX_blind, va_recv hK hPc (ci := 3) (q0 := 0) rfl rfl, PX_pre hPc hK hDc hG⟩ rfl rfl hl.1 rfl (lv_room (Nat.le_of_ble_eq_true rfl)) dX6_hearMadeUp_16 ⟨Nat.zero_le _, Nat.zero_le _⟩) hS (fun q _ h => hFc q h) hFc ?_; clear hw hS; intro u t H1 locs1 ht hvm hw hB hz1 hk1 hS
  obtain ⟨x1, x2, f3, f4⟩ := u
  obtain ⟨hP1, -, -⟩ := hB
  rw [ht] at hP1
  replace hP := jC0 hP hD [2, 3, 4] [0, 1, 5, 6, 7, 8] rfl hk1 hP1 (w_X6_hearMadeUp h0 h_numbers h_book h_buffer h_ears h_frame h_records h_ears_0 h_ears_1 h_ears_0_tree h_ears_0_row h_ears_0_made h_ears_0_fresh h_ears_1_tree h_ears_1_row h_ears_1_made h_ears_1_fresh cy x1 x2 f3 f4 c_ears_1_lag c_ears_1_lagSum c_ears_1_row c_ears_1_made c_numbers) rfl rfl rfl 9 rfl (by decide +kernel); clear hD; obtain ⟨hP, hD⟩ := hP
  replace hP : va_P (dC, dI) vwCl (w_X6_hearMadeUp h0 h_numbers h_book h_buffer h_ears h_frame h_records h_ears_0 h_ears_1 h_ears_0_tree h_ears_0_row h_ears_0_made h_ears_0_fresh h_ears_1_tree h_ears_1_row h_ears_1_made h_ears_1_fresh cy x1 x2 f3 f4 c_ears_1_lag c_ears_1_lagSum c_ears_1_row c_ears_1_made c_numbers) H1 := hP
  replace hD : va_D A (w_X6_hearMadeUp h0 h_numbers h_book h_buffer h_ears h_frame h_records h_ears_0 h_ears_1 h_ears_0_tree h_ears_0_row h_ears_0_made h_ears_0_fresh h_ears_1_tree h_ears_1_row h_ears_1_made h_ears_1_fresh cy x1 x2 f3 f4 c_ears_1_lag c_ears_1_lagSum c_ears_1_row c_ears_1_made c_numbers) := hD
  clear hPc hDc hFc hP1 hk1 hz1 hvm ht; clear t; clear H locs; obtain ⟨H, hH⟩ : ∃ H, H = H1 := ⟨_, rfl⟩; obtain ⟨locs, hlo⟩ : ∃ L, L = locs1 := ⟨_, rfl⟩; subst hH; subst hlo
  refine W.widen (k := 0) (n := 0) (Nat.le_refl 0) (Nat.le_refl 0) ?_
  refine lv_aload_n hx hb dX6_hearMadeUp_19 rfl (lv_at hl 0 rfl) ?_
  refine lv_aload_n hx hb dX6_hearMadeUp_20 rfl (lv_at hl 0 rfl) ?_
  refine va_get (D := (dC, dI)) (ci := 3) (v := .ref h_ears_0_made) (C := RX3) (T := TX3) (N := 6) hx hb hts inX3 hown hK hP 2 rfl rfl 2 (by decide) (hts _ (List.mem_cons_of_mem _ mw_559)) (fun _ h9 => h9) rfl dX6_hearMadeUp_21 ?_
  have hPc := pSub (ws' := (w_X3_keepSamples h_ears_0 h_ears_0_tree h_ears_0_row h_ears_0_made h_ears_0_fresh h_ears_0_made cy 32 x1 x2 f3 f4)) hP [2, 3, 4] rfl
  have hDc := dSub (ws' := (w_X3_keepSamples h_ears_0 h_ears_0_tree h_ears_0_row h_ears_0_made h_ears_0_fresh h_ears_0_made cy 32 x1 x2 f3 f4)) hD [2, 3, 4] (by decide) rfl
  have hFc := va_free (wc := (w_X3_keepSamples h_ears_0 h_ears_0_tree h_ears_0_row h_ears_0_made h_ears_0_fresh h_ears_0_made cy 32 x1 x2 f3 f4)) hD hS hA [2, 3, 4] rfl
  refine va_callv (va_runV (As := [.ref h_ears_0_made]) (rest := []) ⟨hx, hb, hml, hown, hts⟩ (c_X3_keepSamples l dC dI cy h_ears_0 h_ears_0_tree h_ears_0_row h_ears_0_made h_ears_0_fresh h_ears_0_made 32 H.size x1 x2 f3 f4 _ hw) (cwV 1 hts (goodV mw_552 mw_549 mw_550 mw_551 mw_147) rfl rfl rfl (by decide +kernel) ⟨Nat.le_of_ble_eq_true rfl, Nat.le_of_ble_eq_true rfl⟩) ⟨PX_blind, va_recv hK hPc (ci := 3) (q0 := 0) rfl rfl, PX_pre hPc hK hDc hG⟩ rfl rfl hl.1 rfl (lv_room (Nat.le_of_ble_eq_true rfl)) dX6_hearMadeUp_24 ⟨Nat.zero_le _, Nat.zero_le _⟩) hS (fun q _ h => hFc q h) hFc ?_; clear hw hS; intro f5 t H1 locs1 ht hvm hw hB hz1 hk1 hS
  obtain ⟨hP1, -, -⟩ := hB
  rw [ht] at hP1
  replace hP := jC0 hP hD [2, 3, 4] [0, 1, 5, 6, 7, 8] rfl hk1 hP1 (w_X6_hearMadeUp h0 h_numbers h_book h_buffer h_ears h_frame h_records h_ears_0 h_ears_1 h_ears_0_tree h_ears_0_row h_ears_0_made h_ears_0_fresh h_ears_1_tree h_ears_1_row h_ears_1_made h_ears_1_fresh cy x1 x2 f5 f4 c_ears_1_lag c_ears_1_lagSum c_ears_1_row c_ears_1_made c_numbers) rfl rfl rfl 9 rfl (by decide +kernel); clear hD; obtain ⟨hP, hD⟩ := hP
  replace hP : va_P (dC, dI) vwCl (w_X6_hearMadeUp h0 h_numbers h_book h_buffer h_ears h_frame h_records h_ears_0 h_ears_1 h_ears_0_tree h_ears_0_row h_ears_0_made h_ears_0_fresh h_ears_1_tree h_ears_1_row h_ears_1_made h_ears_1_fresh cy x1 x2 f5 f4 c_ears_1_lag c_ears_1_lagSum c_ears_1_row c_ears_1_made c_numbers) H1 := hP
  replace hD : va_D A (w_X6_hearMadeUp h0 h_numbers h_book h_buffer h_ears h_frame h_records h_ears_0 h_ears_1 h_ears_0_tree h_ears_0_row h_ears_0_made h_ears_0_fresh h_ears_1_tree h_ears_1_row h_ears_1_made h_ears_1_fresh cy x1 x2 f5 f4 c_ears_1_lag c_ears_1_lagSum c_ears_1_row c_ears_1_made c_numbers) := hD
  clear hPc hDc hFc hP1 hk1 hz1 hvm ht; clear t; clear H locs; obtain ⟨H, hH⟩ : ∃ H, H = H1 := ⟨_, rfl⟩; obtain ⟨locs, hlo⟩ : ∃ L, L = locs1 := ⟨_, rfl⟩; subst hH; subst hlo
  refine W.widen (k := 0) (n := 0) (Nat.le_refl 0) (Nat.le_refl 0) ?_
  refine lv_iinc (v := (1 : Int32)) (lv' := [(2, .int (1 : Int32)), (3, .ref h_ears_0), (0, .ref h0), (1, .int v1)]) hx hb dX6_hearMadeUp_27 hl (k := 1) rfl (by decide) (by decide) rfl ?_; clear hl; clear ls; intro ls hl
  refine lv_goto (tgt := 2) hx hb dX6_hearMadeUp_30 (by decide) ?_
  refine lv_iload_n hx hb dX6_hearMadeUp_2 rfl (lv_at hl 0 rfl) ?_
  refine lv_iconst (v := 2) hx hb dX6_hearMadeUp_3 (by decide) ?_
  refine lv_icmp_ge (tgt := 33) hx hb dX6_hearMadeUp_4 (by decide) (fun hc => absurd hc (by decide)) (fun _ => ?_)
  refine lv_aload_n hx hb dX6_hearMadeUp_7 rfl (lv_at hl 2 rfl) ?_
  refine va_get (D := (dC, dI)) (ci := 6) (v := .ref h_ears) (C := RX6) (T := TX6) (N := 6) hx hb hts inX6 hown hK hP 0 rfl rfl 3 (by decide) (hts _ (List.mem_cons_of_mem _ mw_148)) (fun _ h9 => h9) rfl dX6_hearMadeUp_8 ?_
  refine lv_iload_n hx hb dX6_hearMadeUp_11 rfl (lv_at hl 0 rfl) ?_
  refine xald1 hx hb hK hP 1 3 rfl rfl dX6_hearMadeUp_12 ?_
  refine lv_astore_n (lv' := [(3, .ref h_ears_1), (2, .int (1 : Int32)), (0, .ref h0), (1, .int v1)]) hx hb dX6_hearMadeUp_13 rfl hl (by decide) rfl ?_; clear hl; clear ls; intro ls hl
  refine lv_aload_n hx hb dX6_hearMadeUp_14 rfl (lv_at hl 0 rfl) ?_
  refine lv_iload_n hx hb dX6_hearMadeUp_15 rfl (lv_at hl 3 rfl) ?_
  have hPc := pSub (ws' := (w_X3_makeUp h_ears_1 h_ears_1_tree h_ears_1_row h_ears_1_made h_ears_1_fresh cy c_ears_1_lag c_ears_1_lagSum c_ears_1_row c_ears_1_made)) hP [5, 6, 7] rfl
  have hDc := dSub (ws' := (w_X3_makeUp h_ears_1 h_ears_1_tree h_ears_1_row h_ears_1_made h_ears_1_fresh cy c_ears_1_lag c_ears_1_lagSum c_ears_1_row c_ears_1_made)) hD [5, 6, 7] (by decide) rfl
  have hFc := va_free (wc := (w_X3_makeUp h_ears_1 h_ears_1_tree h_ears_1_row h_ears_1_made h_ears_1_fresh cy c_ears_1_lag c_ears_1_lagSum c_ears_1_row c_ears_1_made)) hD hS hA [5, 6, 7] rfl
  refine va_callv (va_runV (As := [.int v1]) (rest := []) ⟨hx, hb, hml, hown, hts⟩ (c_X3_makeUp l dC dI cy h_ears_1 h_ears_1_tree h_ears_1_row h_ears_1_made h_ears_1_fresh H.size v1 c_ears_1_lag c_ears_1_lagSum c_ears_1_row c_ears_1_made _ hw) (cwV 1 hts (goodV mw_538 mw_535 mw_536 mw_537 mw_147) rfl rfl rfl (by decide +kernel) ⟨Nat.le_of_ble_eq_true rfl, Nat.le_of_ble_eq_true rfl⟩) ⟨PX_blind, va_recv hK hPc (ci := 3) (q0 := 0) rfl rfl, PX_pre hPc hK hDc hG⟩ rfl rfl hl.1 rfl (lv_room (Nat.le_of_ble_eq_true rfl)) dX6_hearMadeUp_16 ⟨Nat.zero_le _, Nat.zero_le _⟩) hS (fun q _ h => hFc q h) hFc ?_; clear hw hS; intro u t H1 locs1 ht hvm hw hB hz1 hk1 hS
  obtain ⟨x6, x7, f8, f9⟩ := u
  obtain ⟨hP1, -, -⟩ := hB
  rw [ht] at hP1
  replace hP := jC0 hP hD [5, 6, 7] [0, 1, 2, 3, 4, 8] rfl hk1 hP1 (w_X6_hearMadeUp h0 h_numbers h_book h_buffer h_ears h_frame h_records h_ears_0 h_ears_1 h_ears_0_tree h_ears_0_row h_ears_0_made h_ears_0_fresh h_ears_1_tree h_ears_1_row h_ears_1_made h_ears_1_fresh cy x1 x2 f5 f4 x6 x7 f8 f9 c_numbers) rfl rfl rfl 9 rfl (by decide +kernel); clear hD; obtain ⟨hP, hD⟩ := hP
  replace hP : va_P (dC, dI) vwCl (w_X6_hearMadeUp h0 h_numbers h_book h_buffer h_ears h_frame h_records h_ears_0 h_ears_1 h_ears_0_tree h_ears_0_row h_ears_0_made h_ears_0_fresh h_ears_1_tree h_ears_1_row h_ears_1_made h_ears_1_fresh cy x1 x2 f5 f4 x6 x7 f8 f9 c_numbers) H1 := hP
  replace hD : va_D A (w_X6_hearMadeUp h0 h_numbers h_book h_buffer h_ears h_frame h_records h_ears_0 h_ears_1 h_ears_0_tree h_ears_0_row h_ears_0_made h_ears_0_fresh h_ears_1_tree h_ears_1_row h_ears_1_made h_ears_1_fresh cy x1 x2 f5 f4 x6 x7 f8 f9 c_numbers) := hD
  clear hPc hDc hFc hP1 hk1 hz1 hvm ht; clear t; clear H locs; obtain ⟨H, hH⟩ : ∃ H, H = H1 := ⟨_, rfl⟩; obtain ⟨locs, hlo⟩ : ∃ L, L = locs1 := ⟨_, rfl⟩; subst hH; subst hlo
  refine W.widen (k := 0) (n := 0) (Nat.le_refl 0) (Nat.le_refl 0) ?_
  refine lv_aload_n hx hb dX6_hearMadeUp_19 rfl (lv_at hl 0 rfl) ?_
  refine lv_aload_n hx hb dX6_hearMadeUp_20 rfl (lv_at hl 0 rfl) ?_
  refine va_get (D := (dC, dI)) (ci := 3) (v := .ref h_ears_1_made) (C := RX3) (T := TX3) (N := 6) hx hb hts inX3 hown hK hP 5 rfl rfl 2 (by decide) (hts _ (List.mem_cons_of_mem _ mw_559)) (fun _ h9 => h9) rfl dX6_hearMadeUp_21 ?_
  have hPc := pSub (ws' := (w_X3_keepSamples h_ears_1 h_ears_1_tree h_ears_1_row h_ears_1_made h_ears_1_fresh h_ears_1_made cy 32 x6 x7 f8 f9)) hP [5, 6, 7] rfl
  have hDc := dSub (ws' := (w_X3_keepSamples h_ears_1 h_ears_1_tree h_ears_1_row h_ears_1_made h_ears_1_fresh h_ears_1_made cy 32 x6 x7 f8 f9)) hD [5, 6, 7] (by decide) rfl
  have hFc := va_free (wc := (w_X3_keepSamples h_ears_1 h_ears_1_tree h_ears_1_row h_ears_1_made h_ears_1_fresh h_ears_1_made cy 32 x6 x7 f8 f9)) hD hS hA [5, 6, 7] rfl
  refine va_callv (va_runV (As := [.ref h_ears_1_made]) (rest := []) ⟨hx, hb, hml, hown, hts⟩ (c_X3_keepSamples l dC dI cy h_ears_1 h_ears_1_tree h_ears_1_row h_ears_1_made h_ears_1_fresh h_ears_1_made 32 H.size x6 x7 f8 f9 _ hw) (cwV 1 hts (goodV mw_552 mw_549 mw_550 mw_551 mw_147) rfl rfl rfl (by decide +kernel) ⟨Nat.le_of_ble_eq_true rfl, Nat.le_of_ble_eq_true rfl⟩) ⟨PX_blind, va_recv hK hPc (ci := 3) (q0 := 0) rfl rfl, PX_pre hPc hK hDc hG⟩ rfl rfl hl.1 rfl (lv_room (Nat.le_of_ble_eq_true rfl)) dX6_hearMadeUp_24 ⟨Nat.zero_le _, Nat.zero_le _⟩) hS (fun q _ h => hFc q h) hFc ?_; clear hw hS; intro f10 t H1 locs1 ht hvm hw hB hz1 hk1 hS
  obtain ⟨hP1, -, -⟩ := hB
  rw [ht] at hP1
  replace hP := jC0 hP hD [5, 6, 7] [0, 1, 2, 3, 4, 8] rfl hk1 hP1 (w_X6_hearMadeUp h0 h_numbers h_book h_buffer h_ears h_frame h_records h_ears_0 h_ears_1 h_ears_0_tree h_ears_0_row h_ears_0_made h_ears_0_fresh h_ears_1_tree h_ears_1_row h_ears_1_made h_ears_1_fresh cy x1 x2 f5 f4 x6 x7 f10 f9 c_numbers) rfl rfl rfl 9 rfl (by decide +kernel); clear hD; obtain ⟨hP, hD⟩ := hP
  replace hP : va_P (dC, dI) vwCl (w_X6_hearMadeUp h0 h_numbers h_book h_buffer h_ears h_frame h_records h_ears_0 h_ears_1 h_ears_0_tree h_ears_0_row h_ears_0_made h_ears_0_fresh h_ears_1_tree h_ears_1_row h_ears_1_made h_ears_1_fresh cy x1 x2 f5 f4 x6 x7 f10 f9 c_numbers) H1 := hP
  replace hD : va_D A (w_X6_hearMadeUp h0 h_numbers h_book h_buffer h_ears h_frame h_records h_ears_0 h_ears_1 h_ears_0_tree h_ears_0_row h_ears_0_made h_ears_0_fresh h_ears_1_tree h_ears_1_row h_ears_1_made h_ears_1_fresh cy x1 x2 f5 f4 x6 x7 f10 f9 c_numbers) := hD
  clear hPc hDc hFc hP1 hk1 hz1 hvm ht; clear t; clear H locs; obtain ⟨H, hH⟩ : ∃ H, H = H1 := ⟨_, rfl⟩; obtain ⟨locs, hlo⟩ : ∃ L, L = locs1 := ⟨_, rfl⟩; subst hH; subst hlo
  refine W.widen (k := 0) (n := 0) (Nat.le_refl 0) (Nat.le_refl 0) ?_
  refine lv_iinc (v := (2 : Int32)) (lv' := [(2, .int (2 : Int32)), (3, .ref h_ears_1), (0, .ref h0), (1, .int v1)]) hx hb dX6_hearMadeUp_27 hl (k := 1) rfl (by decide) (by decide) rfl ?_; clear hl; clear ls; intro ls hl
  refine lv_goto (tgt := 2) hx hb dX6_hearMadeUp_30 (by decide) ?_
  refine lv_iload_n hx hb dX6_hearMadeUp_2 rfl (lv_at hl 0 rfl) ?_
  refine lv_iconst (v := 2) hx hb dX6_hearMadeUp_3 (by decide) ?_
  refine lv_icmp_ge (tgt := 33) hx hb dX6_hearMadeUp_4 (by decide) (fun _ => ?_) (fun hc => absurd hc (by decide))
  refine lv_aload_n hx hb dX6_hearMadeUp_33 rfl (lv_at hl 2 rfl) ?_
  refine va_get (D := (dC, dI)) (ci := 6) (v := .ref h_numbers) (C := RX6) (T := TX6) (N := 6) hx hb hts inX6 hown hK hP 0 rfl rfl 0 (by decide) (hts _ (List.mem_cons_of_mem _ mw_152)) (fun _ h9 => h9) rfl dX6_hearMadeUp_34 ?_
  refine lv_bipush (v := 14) hx hb dX6_hearMadeUp_37 (by decide) ?_
  refine lv_dup2_11 hx hb dX6_hearMadeUp_39 rfl rfl ?_
  refine xiald (k := 14) hx hb hK hP 8 0 rfl rfl (vpL 14 54 rfl) (by decide) dX6_hearMadeUp_40 ?_
  refine lv_iconst (v := 1) hx hb dX6_hearMadeUp_41 (by decide) ?_
  refine lv_iadd hx hb dX6_hearMadeUp_42 ?_
  refine xiast (k := 14) hx hb hK hP hD hS 8 0 rfl rfl (vpL 14 54 rfl) (by decide) dX6_hearMadeUp_43 ?_; clear hP hD hS; clear H locs; intro f13 e_f13 H locs hP hD hS
  replace hw := hw f13 e_f13
  clear e_f13
  replace hP : va_P (dC, dI) vwCl (w_X6_hearMadeUp h0 h_numbers h_book h_buffer h_ears h_frame h_records h_ears_0 h_ears_1 h_ears_0_tree h_ears_0_row h_ears_0_made h_ears_0_fresh h_ears_1_tree h_ears_1_row h_ears_1_made h_ears_1_fresh cy x1 x2 f5 f4 x6 x7 f10 f9 f13) H := hP
  replace hD : va_D A (w_X6_hearMadeUp h0 h_numbers h_book h_buffer h_ears h_frame h_records h_ears_0 h_ears_1 h_ears_0_tree h_ears_0_row h_ears_0_made h_ears_0_fresh h_ears_1_tree h_ears_1_row h_ears_1_made h_ears_1_fresh cy x1 x2 f5 f4 x6 x7 f10 f9 f13) := hD
  refine lv_aload_n hx hb dX6_hearMadeUp_44 rfl (lv_at hl 2 rfl) ?_
  refine va_get (D := (dC, dI)) (ci := 6) (v := .ref h_numbers) (C := RX6) (T := TX6) (N := 6) hx hb hts inX6 hown hK hP 0 rfl rfl 0 (by decide) (hts _ (List.mem_cons_of_mem _ mw_152)) (fun _ h9 => h9) rfl dX6_hearMadeUp_45 ?_
  refine lv_bipush (v := 15) hx hb dX6_hearMadeUp_48 (by decide) ?_
  refine lv_dup2_11 hx hb dX6_hearMadeUp_50 rfl rfl ?_
  refine xiald (k := 15) hx hb hK hP 8 0 rfl rfl (vpL 15 54 rfl) (by decide) dX6_hearMadeUp_51 ?_
  refine lv_iconst (v := 1) hx hb dX6_hearMadeUp_52 (by decide) ?_
  refine lv_iadd hx hb dX6_hearMadeUp_53 ?_
  refine xiast (k := 15) hx hb hK hP hD hS 8 0 rfl rfl (vpL 15 54 rfl) (by decide) dX6_hearMadeUp_54 ?_; clear hP hD hS; clear H locs; intro f16 e_f16 H locs hP hD hS
  replace hw := hw f16 e_f16
  clear e_f16
  replace hP : va_P (dC, dI) vwCl (w_X6_hearMadeUp h0 h_numbers h_book h_buffer h_ears h_frame h_records h_ears_0 h_ears_1 h_ears_0_tree h_ears_0_row h_ears_0_made h_ears_0_fresh h_ears_1_tree h_ears_1_row h_ears_1_made h_ears_1_fresh cy x1 x2 f5 f4 x6 x7 f10 f9 f16) H := hP
  replace hD : va_D A (w_X6_hearMadeUp h0 h_numbers h_book h_buffer h_ears h_frame h_records h_ears_0 h_ears_1 h_ears_0_tree h_ears_0_row h_ears_0_made h_ears_0_fresh h_ears_1_tree h_ears_1_row h_ears_1_made h_ears_1_fresh cy x1 x2 f5 f4 x6 x7 f10 f9 f16) := hD
  refine lv_aload_n hx hb dX6_hearMadeUp_55 rfl (lv_at hl 2 rfl) ?_
  refine va_get (D := (dC, dI)) (ci := 6) (v := .ref h_numbers) (C := RX6) (T := TX6) (N := 6) hx hb hts inX6 hown hK hP 0 rfl rfl 0 (by decide) (hts _ (List.mem_cons_of_mem _ mw_152)) (fun _ h9 => h9) rfl dX6_hearMadeUp_56 ?_
  refine lv_bipush (v := 16) hx hb dX6_hearMadeUp_59 (by decide) ?_
  refine lv_aload_n hx hb dX6_hearMadeUp_61 rfl (lv_at hl 2 rfl) ?_
  refine va_get (D := (dC, dI)) (ci := 6) (v := .ref h_numbers) (C := RX6) (T := TX6) (N := 6) hx hb hts inX6 hown hK hP 0 rfl rfl 0 (by decide) (hts _ (List.mem_cons_of_mem _ mw_152)) (fun _ h9 => h9) rfl dX6_hearMadeUp_62 ?_
  refine lv_bipush (v := 16) hx hb dX6_hearMadeUp_65 (by decide) ?_
  refine xiald (k := 16) hx hb hK hP 8 0 rfl rfl (vpL 16 54 rfl) (by decide) dX6_hearMadeUp_67 ?_
  refine lv_aload_n hx hb dX6_hearMadeUp_68 rfl (lv_at hl 2 rfl) ?_
  refine va_get (D := (dC, dI)) (ci := 6) (v := .ref h_numbers) (C := RX6) (T := TX6) (N := 6) hx hb hts inX6 hown hK hP 0 rfl rfl 0 (by decide) (hts _ (List.mem_cons_of_mem _ mw_152)) (fun _ h9 => h9) rfl dX6_hearMadeUp_69 ?_
  refine lv_bipush (v := 15) hx hb dX6_hearMadeUp_72 (by decide) ?_
  refine xiald (k := 15) hx hb hK hP 8 0 rfl rfl (vpL 15 54 rfl) (by decide) dX6_hearMadeUp_74 ?_
  refine va_mmax hx hb (by rw [hml]; exact hl.1.symm) hown (hts _ (List.mem_cons_of_mem _ mw_502)) (hts _ (List.mem_cons_of_mem _ mw_75)) (hts _ (List.mem_cons_of_mem _ mw_76)) (hts _ (List.mem_cons_of_mem _ mw_77)) (Nat.le_of_ble_eq_true rfl) (Nat.le_of_ble_eq_true rfl) (Nat.zero_le _) (Nat.zero_le _) dX6_hearMadeUp_75 ?_
  refine lv_topi (fun x19 e_x19 => ?_)
  replace hw := hw x19 e_x19
  clear e_x19
  refine xiast (k := 16) hx hb hK hP hD hS 8 0 rfl rfl (vpL 16 54 rfl) (by decide) dX6_hearMadeUp_78 ?_; clear hP hD hS; clear H locs; intro f21 e_f21 H locs hP hD hS
  replace hw := hw f21 e_f21
  clear e_f21
  replace hP : va_P (dC, dI) vwCl (w_X6_hearMadeUp h0 h_numbers h_book h_buffer h_ears h_frame h_records h_ears_0 h_ears_1 h_ears_0_tree h_ears_0_row h_ears_0_made h_ears_0_fresh h_ears_1_tree h_ears_1_row h_ears_1_made h_ears_1_fresh cy x1 x2 f5 f4 x6 x7 f10 f9 f21) H := hP
  replace hD : va_D A (w_X6_hearMadeUp h0 h_numbers h_book h_buffer h_ears h_frame h_records h_ears_0 h_ears_1 h_ears_0_tree h_ears_0_row h_ears_0_made h_ears_0_fresh h_ears_1_tree h_ears_1_row h_ears_1_made h_ears_1_fresh cy x1 x2 f5 f4 x6 x7 f10 f9 f21) := hD
  subst hQe
  exact W.vret hx hb hr (fun t ht hW => ⟨⟨(x1, x2, f5, f4, x6, x7, f10, f9, f21), rfl, hw, by rw [ht]; exact hP, va_K.moved hW.alike hK, hD⟩, hS.F ht⟩) hS.2.2 dX6_hearMadeUp_79
set_option maxHeartbeats 4000000 in
set_option maxRecDepth 100000 in
theorem c_X6_trim (l : Launch) (dC : Nat → ClassId) (dI : Nat → Nat → Nat) (cy : Nat → ClassId) (h0 h_numbers h_book h_buffer h_ears h_frame h_records : Nat) (sz : Nat) (c_numbers : Nat → Int32) (post : (Nat → Int32) → Prop) (hw : wp_X6_trim c_numbers post) : Met l yX6_trim wsX6_trim ({ frames := 1, cells := 0, slots := 0, locals := 22 }) (PX dC dI cy [.ref h0] sz (w_X6_trim h0 h_numbers h_book h_buffer h_ears h_frame h_records cy c_numbers)) (va_Qv (fun (u : (Nat → Int32)) => post u) (QX dC dI cy (va_A (w_X6_trim h0 h_numbers h_book h_buffer h_ears h_frame h_records cy c_numbers) sz) (fun (u : (Nat → Int32)) => w_X6_trim h0 h_numbers h_book h_buffer h_ears h_frame h_records cy u)) (va_A (w_X6_trim h0 h_numbers h_book h_buffer h_ears h_frame h_records cy c_numbers) sz)) 0 0 (va_A (w_X6_trim h0 h_numbers h_book h_buffer h_ears h_frame h_records cy c_numbers) sz) := by
  refine Met.ofW (cc := cX6_trim) (maxL := 2) (ret := none) (by decide) rfl ?_
  intro p e s m args below meth c s₁ B hml hv
  obtain ⟨rfl, hsz, hP, hK, hD0, hG⟩ := hv
  have hx := B.exec
  have hb := B.bytes
  have hr := B.returns
  have hts := atoms_spec (ws := wsX6_trim) B.pre
  have hown : s.vm.findClass RX6 = some m.cls := findClass_of_methodNamed B.named
  have hlocks := B.notSynchronized
  subst hsz
  have hD := hD0.self (sz := s.heap.size)
  generalize hAe : va_A (w_X6_trim h0 h_numbers h_book h_buffer h_ears h_frame h_records cy c_numbers) s.heap.size = A at hD ⊢
  have hA : ∀ q : Nat, s.heap.size ≤ q → A q := fun q h => by rw [← hAe]; exact Or.inr h
  have hS : va_S A s.heap s.heap [] := va_S.rf
  have hl := lv_entry ([.ref h0]) (n := 2) (Nat.le_of_ble_eq_true rfl)
  rw [lg_entry_eq]
  generalize (lg_sl ([.ref h0]) ++ List.replicate (2 - (lg_sl ([.ref h0])).length) Slot.unset).toArray = ls at hl ⊢
  replace hl : lv_has ls 2 [(0, .ref h0)] := hl
  have inX6 : ∀ w ∈ u_ws RX6 TX6 6, w ∈ wsX6_trim := fun w h => List.mem_cons_of_mem _ (inlX6 w h)
  clear hAe hD0 B
  unfold wp_X6_trim at hw
  generalize hQe : MQ below _ _ s _ _ _ = Q0
  generalize ([.ref h0] : List Value).toArray = av at *
  obtain ⟨H, hH⟩ : ∃ H, H = s.heap := ⟨_, rfl⟩
  obtain ⟨locs, hlo⟩ : ∃ L : List Loc, L = [] := ⟨_, rfl⟩
  replace hP : va_P (dC, dI) vwCl (w_X6_trim h0 h_numbers h_book h_buffer h_ears h_frame h_records cy c_numbers) H := by rw [hH]; exact hP
  replace hS : va_S A s.heap H locs := by rw [hH, hlo]; exact hS
  suffices hgo : W p l e ({ frames := 1, cells := 0, slots := 0, locals := 22 }) s m av below meth c H locs 0 0 Q0 (F0 m 0 ls []) by rw [hH, hlo] at hgo; exact hgo
  clear hH hlo
  refine lv_aload_n hx hb dX6_trim_0 rfl (lv_at hl 0 rfl) ?_
  refine va_get (D := (dC, dI)) (ci := 6) (v := .ref h_numbers) (C := RX6) (T := TX6) (N := 6) hx hb hts inX6 hown hK hP 0 rfl rfl 0 (by decide) (hts _ (List.mem_cons_of_mem _ mw_152)) (fun _ h9 => h9) rfl dX6_trim_1 ?_
  refine lv_bipush (v := 12) hx hb dX6_trim_4 (by decide) ?_
  refine xiald (k := 12) hx hb hK hP 1 0 rfl rfl (vpL 12 54 rfl) (by decide) dX6_trim_6 ?_
  refine lv_bipush (v := 8) hx hb dX6_trim_7 (by decide) ?_
  refine lv_aload_n hx hb dX6_trim_9 rfl (lv_at hl 0 rfl) ?_
  refine va_get (D := (dC, dI)) (ci := 6) (v := .ref h_numbers) (C := RX6) (T := TX6) (N := 6) hx hb hts inX6 hown hK hP 0 rfl rfl 0 (by decide) (hts _ (List.mem_cons_of_mem _ mw_152)) (fun _ h9 => h9) rfl dX6_trim_10 ?_
  refine lv_bipush (v := 27) hx hb dX6_trim_13 (by decide) ?_
  refine xiald (k := 27) hx hb hK hP 1 0 rfl rfl (vpL 27 54 rfl) (by decide) dX6_trim_15 ?_
  refine lv_imul hx hb dX6_trim_16 ?_
  refine lv_isub hx hb dX6_trim_17 ?_
  refine lv_topi (fun x3 e_x3 => ?_)
  replace hw := hw x3 e_x3
  clear e_x3
  refine lv_istore_n (lv' := [(1, .int x3), (0, .ref h0)]) hx hb dX6_trim_18 rfl hl (by decide) rfl ?_; clear hl; clear ls; intro ls hl
  refine lv_aload_n hx hb dX6_trim_19 rfl (lv_at hl 1 rfl) ?_
  refine va_get (D := (dC, dI)) (ci := 6) (v := .ref h_numbers) (C := RX6) (T := TX6) (N := 6) hx hb hts inX6 hown hK hP 0 rfl rfl 0 (by decide) (hts _ (List.mem_cons_of_mem _ mw_152)) (fun _ h9 => h9) rfl dX6_trim_20 ?_
  refine lv_bipush (v := 11) hx hb dX6_trim_23 (by decide) ?_
  refine lv_aload_n hx hb dX6_trim_25 rfl (lv_at hl 1 rfl) ?_
  refine va_get (D := (dC, dI)) (ci := 6) (v := .ref h_numbers) (C := RX6) (T := TX6) (N := 6) hx hb hts inX6 hown hK hP 0 rfl rfl 0 (by decide) (hts _ (List.mem_cons_of_mem _ mw_152)) (fun _ h9 => h9) rfl dX6_trim_26 ?_
  refine lv_bipush (v := 11) hx hb dX6_trim_29 (by decide) ?_
  refine xiald (k := 11) hx hb hK hP 1 0 rfl rfl (vpL 11 54 rfl) (by decide) dX6_trim_31 ?_
  refine lv_iload_n hx hb dX6_trim_32 rfl (lv_at hl 0 rfl) ?_
  refine lv_iadd hx hb dX6_trim_33 ?_
  refine lv_sipush (v := -1600) hx hb dX6_trim_34 (by decide) ?_
  refine lv_sipush (v := 1600) hx hb dX6_trim_37 (by decide) ?_
  have hPc := pSub (ws' := (w_X11_nearest cy)) hP [] rfl
  have hDc := dSub (ws' := (w_X11_nearest cy)) hD [] (by decide) rfl
  have hFc := va_free (wc := (w_X11_nearest cy)) hD hS hA [] rfl
  refine va_calli (va_runSN (As := [.int ((c_numbers 11) + x3), .int (-1600 : Int32), .int (1600 : Int32)]) (rest := [.int (11 : Int32), .ref h_numbers]) ⟨hx, hb, hml, hown, hts⟩ (c_X11_nearest l dC dI cy  H.size ((c_numbers 11) + x3) (-1600 : Int32) (1600 : Int32) _ hw) ⟨va_cnB 3 hts (goodG mw_276) rfl rfl rfl (hG.1 ("HeadsetBands$Player", 159, ⟨"HeadsetBands", "nearest", "(III)I"⟩, "HeadsetBands") (by decide +kernel)) (hts _ (List.mem_cons_of_mem _ mw_2)) (by decide +kernel) ⟨Nat.le_of_ble_eq_true rfl, Nat.le_of_ble_eq_true rfl⟩, (hts _ (List.mem_cons_of_mem _ mw_275)), trivial⟩ ⟨PX_blind, PX_pre hPc hK hDc hG⟩ rfl rfl hl.1 rfl (lv_room (Nat.le_of_ble_eq_true rfl)) dX6_trim_40 ⟨Nat.zero_le _, Nat.zero_le _⟩) hS (fun q _ h => hFc q h) hFc ?_; clear hw hS; intro r5 _ t H1 locs1 ht hvm hw hB hz1 hk1 hS
  obtain ⟨hP1, -, -⟩ := hB
  rw [ht] at hP1
  replace hP := jC0 hP hD [] [0, 1] rfl hk1 hP1 (w_X6_trim h0 h_numbers h_book h_buffer h_ears h_frame h_records cy c_numbers) rfl rfl rfl 2 rfl (by decide +kernel); clear hD; obtain ⟨hP, hD⟩ := hP
  replace hP : va_P (dC, dI) vwCl (w_X6_trim h0 h_numbers h_book h_buffer h_ears h_frame h_records cy c_numbers) H1 := hP
  replace hD : va_D A (w_X6_trim h0 h_numbers h_book h_buffer h_ears h_frame h_records cy c_numbers) := hD
  clear hPc hDc hFc hP1 hk1 hz1 hvm ht; clear t; clear H locs; obtain ⟨H, hH⟩ : ∃ H, H = H1 := ⟨_, rfl⟩; obtain ⟨locs, hlo⟩ : ∃ L, L = locs1 := ⟨_, rfl⟩; subst hH; subst hlo
  refine W.widen (k := 0) (n := 0) (Nat.le_refl 0) (Nat.le_refl 0) ?_
  refine xiast (k := 11) hx hb hK hP hD hS 1 0 rfl rfl (vpL 11 54 rfl) (by decide) dX6_trim_43 ?_; clear hP hD hS; clear H locs; intro f7 e_f7 H locs hP hD hS
  replace hw := hw f7 e_f7
  clear e_f7
  replace hP : va_P (dC, dI) vwCl (w_X6_trim h0 h_numbers h_book h_buffer h_ears h_frame h_records cy f7) H := hP
  replace hD : va_D A (w_X6_trim h0 h_numbers h_book h_buffer h_ears h_frame h_records cy f7) := hD
  refine lv_aload_n hx hb dX6_trim_44 rfl (lv_at hl 1 rfl) ?_
  refine va_get (D := (dC, dI)) (ci := 6) (v := .ref h_numbers) (C := RX6) (T := TX6) (N := 6) hx hb hts inX6 hown hK hP 0 rfl rfl 0 (by decide) (hts _ (List.mem_cons_of_mem _ mw_152)) (fun _ h9 => h9) rfl dX6_trim_45 ?_
  refine lv_bipush (v := 10) hx hb dX6_trim_48 (by decide) ?_
  refine lv_iconst (v := 4) hx hb dX6_trim_50 (by decide) ?_
  refine lv_iload_n hx hb dX6_trim_51 rfl (lv_at hl 0 rfl) ?_
  refine lv_imul hx hb dX6_trim_52 ?_
  refine lv_aload_n hx hb dX6_trim_53 rfl (lv_at hl 1 rfl) ?_
  refine va_get (D := (dC, dI)) (ci := 6) (v := .ref h_numbers) (C := RX6) (T := TX6) (N := 6) hx hb hts inX6 hown hK hP 0 rfl rfl 0 (by decide) (hts _ (List.mem_cons_of_mem _ mw_152)) (fun _ h9 => h9) rfl dX6_trim_54 ?_
  refine lv_bipush (v := 11) hx hb dX6_trim_57 (by decide) ?_
  refine xiald (k := 11) hx hb hK hP 1 0 rfl rfl (vpL 11 54 rfl) (by decide) dX6_trim_59 ?_
  refine lv_iadd hx hb dX6_trim_60 ?_
  refine lv_iconst (v := 3) hx hb dX6_trim_61 (by decide) ?_
  refine lv_ishr hx hb dX6_trim_62 ?_
  refine lv_bipush (v := -100) hx hb dX6_trim_63 (by decide) ?_
  refine lv_bipush (v := 100) hx hb dX6_trim_65 (by decide) ?_
  have hPc := pSub (ws' := (w_X11_nearest cy)) hP [] rfl
  have hDc := dSub (ws' := (w_X11_nearest cy)) hD [] (by decide) rfl
  have hFc := va_free (wc := (w_X11_nearest cy)) hD hS hA [] rfl
  refine va_calli (va_runSN (As := [.int ((((4 : Int32) * x3) + (f7 11)) >>> ((3 : Int32) &&& 31)), .int (-100 : Int32), .int (100 : Int32)]) (rest := [.int (10 : Int32), .ref h_numbers]) ⟨hx, hb, hml, hown, hts⟩ (c_X11_nearest l dC dI cy  H.size ((((4 : Int32) * x3) + (f7 11)) >>> ((3 : Int32) &&& 31)) (-100 : Int32) (100 : Int32) _ hw) ⟨va_cnB 3 hts (goodG mw_276) rfl rfl rfl (hG.1 ("HeadsetBands$Player", 159, ⟨"HeadsetBands", "nearest", "(III)I"⟩, "HeadsetBands") (by decide +kernel)) (hts _ (List.mem_cons_of_mem _ mw_2)) (by decide +kernel) ⟨Nat.le_of_ble_eq_true rfl, Nat.le_of_ble_eq_true rfl⟩, (hts _ (List.mem_cons_of_mem _ mw_275)), trivial⟩ ⟨PX_blind, PX_pre hPc hK hDc hG⟩ rfl rfl hl.1 rfl (lv_room (Nat.le_of_ble_eq_true rfl)) dX6_trim_67 ⟨Nat.zero_le _, Nat.zero_le _⟩) hS (fun q _ h => hFc q h) hFc ?_; clear hw hS; intro r9 _ t H1 locs1 ht hvm hw hB hz1 hk1 hS
  obtain ⟨hP1, -, -⟩ := hB
  rw [ht] at hP1
  replace hP := jC0 hP hD [] [0, 1] rfl hk1 hP1 (w_X6_trim h0 h_numbers h_book h_buffer h_ears h_frame h_records cy f7) rfl rfl rfl 2 rfl (by decide +kernel); clear hD; obtain ⟨hP, hD⟩ := hP
  replace hP : va_P (dC, dI) vwCl (w_X6_trim h0 h_numbers h_book h_buffer h_ears h_frame h_records cy f7) H1 := hP
  replace hD : va_D A (w_X6_trim h0 h_numbers h_book h_buffer h_ears h_frame h_records cy f7) := hD
  clear hPc hDc hFc hP1 hk1 hz1 hvm ht; clear t; clear H locs; obtain ⟨H, hH⟩ : ∃ H, H = H1 := ⟨_, rfl⟩; obtain ⟨locs, hlo⟩ : ∃ L, L = locs1 := ⟨_, rfl⟩; subst hH; subst hlo
  refine W.widen (k := 0) (n := 0) (Nat.le_refl 0) (Nat.le_refl 0) ?_
  refine xiast (k := 10) hx hb hK hP hD hS 1 0 rfl rfl (vpL 10 54 rfl) (by decide) dX6_trim_70 ?_; clear hP hD hS; clear H locs; intro f11 e_f11 H locs hP hD hS
  replace hw := hw f11 e_f11
  clear e_f11
  replace hP : va_P (dC, dI) vwCl (w_X6_trim h0 h_numbers h_book h_buffer h_ears h_frame h_records cy f11) H := hP
  replace hD : va_D A (w_X6_trim h0 h_numbers h_book h_buffer h_ears h_frame h_records cy f11) := hD
  refine lv_aload_n hx hb dX6_trim_71 rfl (lv_at hl 1 rfl) ?_
  refine va_get (D := (dC, dI)) (ci := 6) (v := .ref h_numbers) (C := RX6) (T := TX6) (N := 6) hx hb hts inX6 hown hK hP 0 rfl rfl 0 (by decide) (hts _ (List.mem_cons_of_mem _ mw_152)) (fun _ h9 => h9) rfl dX6_trim_72 ?_
  refine lv_bipush (v := 12) hx hb dX6_trim_75 (by decide) ?_
  refine lv_iconst (v := 0) hx hb dX6_trim_77 (by decide) ?_
  refine xiast (k := 12) hx hb hK hP hD hS 1 0 rfl rfl (vpL 12 54 rfl) (by decide) dX6_trim_78 ?_; clear hP hD hS; clear H locs; intro f13 e_f13 H locs hP hD hS
  replace hw := hw f13 e_f13
  clear e_f13
  replace hP : va_P (dC, dI) vwCl (w_X6_trim h0 h_numbers h_book h_buffer h_ears h_frame h_records cy f13) H := hP
  replace hD : va_D A (w_X6_trim h0 h_numbers h_book h_buffer h_ears h_frame h_records cy f13) := hD
  subst hQe
  exact W.vret hx hb hr (fun t ht hW => ⟨⟨f13, rfl, hw, by rw [ht]; exact hP, va_K.moved hW.alike hK, hD⟩, hS.F ht⟩) hS.2.2 dX6_trim_79
set_option maxHeartbeats 4000000 in
set_option maxRecDepth 100000 in
theorem c_X7_removeFirst (l : Launch) (dC : Nat → ClassId) (dI : Nat → Nat → Nat) (cy : Nat → ClassId) (h0 h_numbers h_places : Nat) (h_places_e : Nat → Nat → Nat) (n_c_places : Nat) (sz : Nat) (c_sizeAt : Int32) (c_head : Int32) (c_numbers : Nat → Int32) (post : Int32 → (Nat → Int32) → Prop) (hw : wp_X7_removeFirst n_c_places c_sizeAt c_head c_numbers post) : Met l yX7_removeFirst wsX7_removeFirst ({ frames := 0, cells := 0, slots := 0, locals := 0 }) (PX dC dI cy [.ref h0] sz (w_X7_removeFirst h0 h_numbers h_places h_places_e cy n_c_places c_sizeAt c_head c_numbers)) (va_Qv (fun (u : Int32 × (Nat → Int32)) => post u.1 u.2) (QX dC dI cy (va_A (w_X7_removeFirst h0 h_numbers h_places h_places_e cy n_c_places c_sizeAt c_head c_numbers) sz) (fun (u : Int32 × (Nat → Int32)) => w_X7_removeFirst h0 h_numbers h_places h_places_e cy n_c_places c_sizeAt u.1 u.2)) (va_A (w_X7_removeFirst h0 h_numbers h_places h_places_e cy n_c_places c_sizeAt c_head c_numbers) sz)) 0 0 (va_A (w_X7_removeFirst h0 h_numbers h_places h_places_e cy n_c_places c_sizeAt c_head c_numbers) sz) := by
  refine Met.ofW (cc := cX7_removeFirst) (maxL := 1) (ret := none) (by decide) rfl ?_
  intro p e s m args below meth c s₁ B hml hv
  obtain ⟨rfl, hsz, hP, hK, hD0, hG⟩ := hv
  have hx := B.exec
  have hb := B.bytes
  have hr := B.returns
  have hts := atoms_spec (ws := wsX7_removeFirst) B.pre
  have hown : s.vm.findClass RX7 = some m.cls := findClass_of_methodNamed B.named
  have hlocks := B.notSynchronized
  subst hsz
  have hD := hD0.self (sz := s.heap.size)
  generalize hAe : va_A (w_X7_removeFirst h0 h_numbers h_places h_places_e cy n_c_places c_sizeAt c_head c_numbers) s.heap.size = A at hD ⊢
  have hA : ∀ q : Nat, s.heap.size ≤ q → A q := fun q h => by rw [← hAe]; exact Or.inr h
  have hS : va_S A s.heap s.heap [] := va_S.rf
  have hl := lv_entry ([.ref h0]) (n := 1) (Nat.le_of_ble_eq_true rfl)
  rw [lg_entry_eq]
  generalize (lg_sl ([.ref h0]) ++ List.replicate (1 - (lg_sl ([.ref h0])).length) Slot.unset).toArray = ls at hl ⊢
  replace hl : lv_has ls 1 [(0, .ref h0)] := hl
  have inX7 : ∀ w ∈ u_ws RX7 TX7 4, w ∈ wsX7_removeFirst := fun w h => List.mem_cons_of_mem _ (inlX7 w h)
  clear hAe hD0 B
  unfold wp_X7_removeFirst at hw
  generalize hQe : MQ below _ _ s _ _ _ = Q0
  generalize ([.ref h0] : List Value).toArray = av at *
  obtain ⟨H, hH⟩ : ∃ H, H = s.heap := ⟨_, rfl⟩
  obtain ⟨locs, hlo⟩ : ∃ L : List Loc, L = [] := ⟨_, rfl⟩
  replace hP : va_P (dC, dI) vwCl (w_X7_removeFirst h0 h_numbers h_places h_places_e cy n_c_places c_sizeAt c_head c_numbers) H := by rw [hH]; exact hP
  replace hS : va_S A s.heap H locs := by rw [hH, hlo]; exact hS
  suffices hgo : W p l e ({ frames := 0, cells := 0, slots := 0, locals := 0 }) s m av below meth c H locs 0 0 Q0 (F0 m 0 ls []) by rw [hH, hlo] at hgo; exact hgo
  clear hH hlo
  refine lv_aload_n hx hb dX7_removeFirst_0 rfl (lv_at hl 0 rfl) ?_
  refine va_get (D := (dC, dI)) (ci := 7) (v := .ref h_numbers) (C := RX7) (T := TX7) (N := 4) hx hb hts inX7 hown hK hP 0 rfl rfl 0 (by decide) (hts _ (List.mem_cons_of_mem _ mw_72)) (fun _ h9 => h9) rfl dX7_removeFirst_1 ?_
  refine lv_aload_n hx hb dX7_removeFirst_4 rfl (lv_at hl 0 rfl) ?_
  refine va_get (D := (dC, dI)) (ci := 7) (v := .int c_sizeAt) (C := RX7) (T := TX7) (N := 4) hx hb hts inX7 hown hK hP 0 rfl rfl 1 (by decide) (hts _ (List.mem_cons_of_mem _ mw_73)) (fun _ h9 => h9) rfl dX7_removeFirst_5 ?_
  obtain ⟨h1, hw⟩ := hw
  refine xiald (k := c_sizeAt.toNatClampNeg) hx hb hK hP 1 0 rfl rfl h1 rfl dX7_removeFirst_8 ?_
  refine lv_if_le (tgt := 41) hx hb dX7_removeFirst_9 (by decide) (fun c2 => ?_) (fun c2 => ?_)
  · replace hw := hw.1 c2
    subst hQe
    exact W.vret hx hb hr (fun t ht hW => ⟨⟨(c_head, c_numbers), rfl, hw, by rw [ht]; exact hP, va_K.moved hW.alike hK, hD⟩, hS.F ht⟩) hS.2.2 dX7_removeFirst_41
  · replace hw := hw.2 c2
    refine lv_aload_n hx hb dX7_removeFirst_12 rfl (lv_at hl 0 rfl) ?_
    refine va_get (D := (dC, dI)) (ci := 7) (v := .ref h_numbers) (C := RX7) (T := TX7) (N := 4) hx hb hts inX7 hown hK hP 0 rfl rfl 0 (by decide) (hts _ (List.mem_cons_of_mem _ mw_72)) (fun _ h9 => h9) rfl dX7_removeFirst_13 ?_
    refine lv_aload_n hx hb dX7_removeFirst_16 rfl (lv_at hl 0 rfl) ?_
    refine va_get (D := (dC, dI)) (ci := 7) (v := .int c_sizeAt) (C := RX7) (T := TX7) (N := 4) hx hb hts inX7 hown hK hP 0 rfl rfl 1 (by decide) (hts _ (List.mem_cons_of_mem _ mw_73)) (fun _ h9 => h9) rfl dX7_removeFirst_17 ?_
    refine lv_dup2_11 hx hb dX7_removeFirst_20 rfl rfl ?_
    obtain ⟨h3, hw⟩ := hw
    refine xiald (k := c_sizeAt.toNatClampNeg) hx hb hK hP 1 0 rfl rfl h3 rfl dX7_removeFirst_21 ?_
    refine lv_iconst (v := 1) hx hb dX7_removeFirst_22 (by decide) ?_
    refine lv_isub hx hb dX7_removeFirst_23 ?_
    obtain ⟨h4, hw⟩ := hw
    refine xiast (k := c_sizeAt.toNatClampNeg) hx hb hK hP hD hS 1 0 rfl rfl h4 rfl dX7_removeFirst_24 ?_; clear hP hD hS; clear H locs; intro f5 e_f5 H locs hP hD hS
    replace hw := hw f5 e_f5
    clear e_f5
    replace hP : va_P (dC, dI) vwCl (w_X7_removeFirst h0 h_numbers h_places h_places_e cy n_c_places c_sizeAt c_head f5) H := hP
    replace hD : va_D A (w_X7_removeFirst h0 h_numbers h_places h_places_e cy n_c_places c_sizeAt c_head f5) := hD
    refine lv_aload_n hx hb dX7_removeFirst_25 rfl (lv_at hl 0 rfl) ?_
    refine lv_aload_n hx hb dX7_removeFirst_26 rfl (lv_at hl 0 rfl) ?_
    refine va_get (D := (dC, dI)) (ci := 7) (v := .int c_head) (C := RX7) (T := TX7) (N := 4) hx hb hts inX7 hown hK hP 0 rfl rfl 3 (by decide) (hts _ (List.mem_cons_of_mem _ mw_71)) (fun _ h9 => h9) rfl dX7_removeFirst_27 ?_
    refine lv_iconst (v := 1) hx hb dX7_removeFirst_30 (by decide) ?_
    refine lv_iadd hx hb dX7_removeFirst_31 ?_
    refine lv_aload_n hx hb dX7_removeFirst_32 rfl (lv_at hl 0 rfl) ?_
    refine va_get (D := (dC, dI)) (ci := 7) (v := .ref h_places) (C := RX7) (T := TX7) (N := 4) hx hb hts inX7 hown hK hP 0 rfl rfl 2 (by decide) (hts _ (List.mem_cons_of_mem _ mw_79)) (fun _ h9 => h9) rfl dX7_removeFirst_33 ?_
    refine va_alen (v := Int32.ofNat n_c_places) hx hb hK hP 2 4 rfl rfl rfl dX7_removeFirst_36 ?_
    obtain ⟨h6, hw⟩ := hw
    refine lv_irem hx hb dX7_removeFirst_37 h6 ?_
    refine lv_topi (fun x7 e_x7 => ?_)
    replace hw := hw x7 e_x7
    clear e_x7
    refine va_put (D := (dC, dI)) (ci := 7) (v := .int x7) (ty := .int) (C := RX7) (T := TX7) (N := 4) hx hb hts inX7 tyX7 tyX7_ok nmX7 hown hK hP hD hS 0 rfl rfl 3 (by decide) (hts _ (List.mem_cons_of_mem _ mw_71)) (fun _ h9 => h9) rfl (by decide +kernel) rfl rfl (Nat.le_of_ble_eq_true rfl) dX7_removeFirst_38 ?_; clear hP hD hS; clear H locs; intro H locs hP hD hS
    replace hP : va_P (dC, dI) vwCl (w_X7_removeFirst h0 h_numbers h_places h_places_e cy n_c_places c_sizeAt x7 f5) H := hP
    replace hD : va_D A (w_X7_removeFirst h0 h_numbers h_places h_places_e cy n_c_places c_sizeAt x7 f5) := hD
    subst hQe
    exact W.vret hx hb hr (fun t ht hW => ⟨⟨(x7, f5), rfl, hw, by rw [ht]; exact hP, va_K.moved hW.alike hK, hD⟩, hS.F ht⟩) hS.2.2 dX7_removeFirst_41
