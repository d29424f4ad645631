abbrev w_X9_splitRow (h0 h_memoriesA h_memoriesB h_row h_next : Nat) (cy : Nat → ClassId) (c_row : Nat → Int32) (c_memoriesA : Nat → Int32) (c_memoriesB : Nat → Int32) (c_next : Nat → Int32) : va_W := [(h0, .inr (9, [.ref h_memoriesA, .ref h_memoriesB, .ref h_row, .ref h_next])), (h_row, .inl (cy 0, 8, .inl c_row)), (h_memoriesA, .inl (cy 0, 7, .inl c_memoriesA)), (h_memoriesB, .inl (cy 0, 7, .inl c_memoriesB)), (h_next, .inl (cy 0, 8, .inl c_next))]
def wp_X9_splitRow (v1 : Int32) (v2 : Int32) (v3 : Int32) (c_row : Nat → Int32) (c_memoriesA : Nat → Int32) (c_memoriesB : Nat → Int32) (c_next : Nat → Int32) (post : (Nat → Int32) → (Nat → Int32) → (Nat → Int32) → Prop) : Prop :=
  ∀ x1, x1 = (0 : Int32) → Lz4 (fun g2 (x4 : Int32) (f5 : (Nat → Int32)) (f6 : (Nat → Int32)) (f7 : (Nat → Int32)) => (v3 ≤ x4 → post f5 f6 f7) ∧ (¬ v3 ≤ x4 → vp_in (v2 + ((2 : Int32) * x4)) 8 ∧ ∀ x10 : Int32, x10 = c_row (v2 + ((2 : Int32) * x4)).toNatClampNeg → vp_in ((v2 + ((2 : Int32) * x4)) + (1 : Int32)) 8 ∧ ∀ x12 : Int32, x12 = c_row ((v2 + ((2 : Int32) * x4)) + (1 : Int32)).toNatClampNeg → vp_in v1 7 ∧ ∀ x14 : Int32, x14 = x10 - (((f5 v1.toNatClampNeg) + x12) >>> ((1 : Int32) &&& 31)) → vp_in v1 7 ∧ vp_in (v2 + x4) 8 ∧ ∀ f17 : Nat → Int32, f17 = upd f7 (v2 + x4).toNatClampNeg (x12 + (((f6 v1.toNatClampNeg) + x14) >>> ((2 : Int32) &&& 31))) → vp_in ((v2 + v3) + x4) 8 ∧ ∀ f19 : Nat → Int32, f19 = upd f17 ((v2 + v3) + x4).toNatClampNeg x14 → vp_in v1 7 ∧ ∀ f21 : Nat → Int32, f21 = upd f5 v1.toNatClampNeg x12 → vp_in v1 7 ∧ ∀ f23 : Nat → Int32, f23 = upd f6 v1.toNatClampNeg x14 → g2 (x4 + 1) f21 f23 f19)) x1 c_memoriesA c_memoriesB c_next
set_option maxHeartbeats 4000000 in
set_option maxRecDepth 100000 in
theorem c_X9_splitRow (l : Launch) (dC : Nat → ClassId) (dI : Nat → Nat → Nat) (cy : Nat → ClassId) (h0 h_memoriesA h_memoriesB h_row h_next : Nat) (sz : Nat) (v1 : Int32) (v2 : Int32) (v3 : Int32) (c_row : Nat → Int32) (c_memoriesA : Nat → Int32) (c_memoriesB : Nat → Int32) (c_next : Nat → Int32) (post : (Nat → Int32) → (Nat → Int32) → (Nat → Int32) → Prop) (hw : wp_X9_splitRow v1 v2 v3 c_row c_memoriesA c_memoriesB c_next post) : Met l yX9_splitRow wsX9_splitRow ({ frames := 0, cells := 0, slots := 0, locals := 0 }) (PX dC dI cy [.ref h0, .int v1, .int v2, .int v3] sz (w_X9_splitRow h0 h_memoriesA h_memoriesB h_row h_next cy c_row c_memoriesA c_memoriesB c_next)) (va_Qv (fun (u : (Nat → Int32) × (Nat → Int32) × (Nat → Int32)) => post u.1 u.2.1 u.2.2) (QX dC dI cy (va_A (w_X9_splitRow h0 h_memoriesA h_memoriesB h_row h_next cy c_row c_memoriesA c_memoriesB c_next) sz) (fun (u : (Nat → Int32) × (Nat → Int32) × (Nat → Int32)) => w_X9_splitRow h0 h_memoriesA h_memoriesB h_row h_next cy c_row u.1 u.2.1 u.2.2)) (va_A (w_X9_splitRow h0 h_memoriesA h_memoriesB h_row h_next cy c_row c_memoriesA c_memoriesB c_next) sz)) 0 0 (va_A (w_X9_splitRow h0 h_memoriesA h_memoriesB h_row h_next cy c_row c_memoriesA c_memoriesB c_next) sz) := by
  refine Met.ofW (cc := cX9_splitRow) (maxL := 8) (ret := none) (by decide) rfl ?_
  intro p e s m args below meth c s₁ B hml hv
  obtain ⟨rfl, hsz, hP, hK, hD0, hG⟩ := hv
  have hx := B.exec
  have hb := B.bytes
  have hr := B.returns
  have hts := atoms_spec (ws := wsX9_splitRow) B.pre
  have hown : s.vm.findClass RX9 = some m.cls := findClass_of_methodNamed B.named
  have hlocks := B.notSynchronized
  subst hsz
  have hD := hD0.self (sz := s.heap.size)
  generalize hAe : va_A (w_X9_splitRow h0 h_memoriesA h_memoriesB h_row h_next cy c_row c_memoriesA c_memoriesB c_next) s.heap.size = A at hD ⊢
  have hA : ∀ q : Nat, s.heap.size ≤ q → A q := fun q h => by rw [← hAe]; exact Or.inr h
  have hS : va_S A s.heap s.heap [] := va_S.rf
  have hl := lv_entry ([.ref h0, .int v1, .int v2, .int v3]) (n := 8) (Nat.le_of_ble_eq_true rfl)
  rw [lg_entry_eq]
  generalize (lg_sl ([.ref h0, .int v1, .int v2, .int v3]) ++ List.replicate (8 - (lg_sl ([.ref h0, .int v1, .int v2, .int v3])).length) Slot.unset).toArray = ls at hl ⊢
  have hl : lv_has ls 8 [(0, .ref h0), (1, .int v1), (2, .int v2), (3, .int v3)] := hl
  have inX9 : ∀ w ∈ u_ws RX9 TX9 4, w ∈ wsX9_splitRow := fun w h => List.mem_cons_of_mem _ (inlX9 w h)
  clear hAe hD0 B
  unfold wp_X9_splitRow at hw
  generalize hQe : MQ below _ _ s _ _ _ = Q0
  generalize ([.ref h0, .int v1, .int v2, .int v3] : List Value).toArray = av at *
  obtain ⟨H, hH⟩ : ∃ H, H = s.heap := ⟨_, rfl⟩
  obtain ⟨locs, hlo⟩ : ∃ L : List Loc, L = [] := ⟨_, rfl⟩
  have hP : va_P (dC, dI) vwCl (w_X9_splitRow h0 h_memoriesA h_memoriesB h_row h_next cy c_row c_memoriesA c_memoriesB c_next) H := by rw [hH]; exact hP
  have hS : va_S A s.heap H locs := by rw [hH, hlo]; exact hS
  suffices hgo : W p l e ({ frames := 0, cells := 0, slots := 0, locals := 0 }) s m av below meth c H locs 0 0 Q0 (F0 m 0 ls []) by rw [hH, hlo] at hgo; exact hgo
  clear hH hlo
  refine lv_iconst (v := 0) hx hb dX9_splitRow_0 (by decide) ?_
  refine lv_istore (lv' := [(4, .int (0 : Int32)), (0, .ref h0), (1, .int v1), (2, .int v2), (3, .int v3)]) hx hb dX9_splitRow_1 hl (by decide) rfl (fun ls hl => ?_)
  obtain ⟨x1, e_x1⟩ : ∃ y : Int32, y = (0 : Int32) := ⟨_, rfl⟩
  replace hw := hw x1 e_x1
  have hl : lv_has ls 8 [(4, .int x1), (0, .ref h0), (1, .int v1), (2, .int v2), (3, .int v3)] := by rw [e_x1]; exact hl
  clear e_x1
  replace hl := lv_sub (l' := [(4, .int x1), (0, .ref h0), (1, .int v1), (2, .int v2), (3, .int v3)]) hl [0, 1, 2, 3, 4] rfl
  revert hl hS hD hP
  revert ls locs H
  refine Lz4_go hw (fun g2 ih3 x4 f5 f6 f7 hw => ?_)
  intro H locs ls hP hD hS hl
  refine lv_iload hx hb dX9_splitRow_3 (lv_at hl 0 rfl) ?_
  refine lv_iload_n hx hb dX9_splitRow_5 rfl (lv_at hl 4 rfl) ?_
  refine lv_icmp_ge (tgt := 111) hx hb dX9_splitRow_6 (by decide) (fun c8 => ?_) (fun c8 => ?_)
  · replace hw := hw.1 c8
    subst hQe
    exact W.vret hx hb hr (fun t ht hW => ⟨⟨(f5, f6, f7), rfl, hw, by rw [ht]; exact hP, va_K.moved hW.alike hK, hD⟩, hS.F ht⟩) hS.2.2 dX9_splitRow_111
  · replace hw := hw.2 c8
    refine lv_aload_n hx hb dX9_splitRow_9 rfl (lv_at hl 1 rfl) ?_
    refine va_get (D := (dC, dI)) (ci := 9) (v := .ref h_row) (C := RX9) (T := TX9) (N := 4) hx hb hts inX9 hown hK hP 0 rfl rfl 2 (by decide) (hts _ (List.mem_cons_of_mem _ mw_115)) (fun _ h9 => h9) rfl dX9_splitRow_10 ?_
    refine lv_iload_n hx hb dX9_splitRow_13 rfl (lv_at hl 3 rfl) ?_
    refine lv_iconst (v := 2) hx hb dX9_splitRow_14 (by decide) ?_
    refine lv_iload hx hb dX9_splitRow_15 (lv_at hl 0 rfl) ?_
    refine lv_imul hx hb dX9_splitRow_17 ?_
    refine lv_iadd hx hb dX9_splitRow_18 ?_
    obtain ⟨h9, hw⟩ := hw
    refine xiald (k := (v2 + ((2 : Int32) * x4)).toNatClampNeg) hx hb hK hP 1 0 rfl rfl h9 rfl dX9_splitRow_19 ?_
    refine lv_topi (fun x10 e_x10 => ?_)
    replace hw := hw x10 e_x10
    clear e_x10
    refine lv_istore (lv' := [(5, .int x10), (4, .int x4), (0, .ref h0), (1, .int v1), (2, .int v2), (3, .int v3)]) hx hb dX9_splitRow_20 hl (by decide) rfl (fun ls hl => ?_)
    refine lv_aload_n hx hb dX9_splitRow_22 rfl (lv_at hl 2 rfl) ?_
    refine va_get (D := (dC, dI)) (ci := 9) (v := .ref h_row) (C := RX9) (T := TX9) (N := 4) hx hb hts inX9 hown hK hP 0 rfl rfl 2 (by decide) (hts _ (List.mem_cons_of_mem _ mw_115)) (fun _ h9 => h9) rfl dX9_splitRow_23 ?_
    refine lv_iload_n hx hb dX9_splitRow_26 rfl (lv_at hl 4 rfl) ?_
    refine lv_iconst (v := 2) hx hb dX9_splitRow_27 (by decide) ?_
    refine lv_iload hx hb dX9_splitRow_28 (lv_at hl 1 rfl) ?_
    refine lv_imul hx hb dX9_splitRow_30 ?_
    refine lv_iadd hx hb dX9_splitRow_31 ?_
    refine lv_iconst (v := 1) hx hb dX9_splitRow_32 (by decide) ?_
    refine lv_iadd hx hb dX9_splitRow_33 ?_
    obtain ⟨h11, hw⟩ := hw
    refine xiald (k := ((v2 + ((2 : Int32) * x4)) + (1 : Int32)).toNatClampNeg) hx hb hK hP 1 0 rfl rfl h11 rfl dX9_splitRow_34 ?_
    refine lv_topi (fun x12 e_x12 => ?_)
    replace hw := hw x12 e_x12
    clear e_x12
    refine lv_istore (lv' := [(6, .int x12), (5, .int x10), (4, .int x4), (0, .ref h0), (1, .int v1), (2, .int v2), (3, .int v3)]) hx hb dX9_splitRow_35 hl (by decide) rfl (fun ls hl => ?_)
    refine lv_iload hx hb dX9_splitRow_37 (lv_at hl 1 rfl) ?_
    refine lv_aload_n hx hb dX9_splitRow_39 rfl (lv_at hl 3 rfl) ?_
    refine va_get (D := (dC, dI)) (ci := 9) (v := .ref h_memoriesA) (C := RX9) (T := TX9) (N := 4) hx hb hts inX9 hown hK hP 0 rfl rfl 0 (by decide) (hts _ (List.mem_cons_of_mem _ mw_113)) (fun _ h9 => h9) rfl dX9_splitRow_40 ?_
    refine lv_iload_n hx hb dX9_splitRow_43 rfl (lv_at hl 4 rfl) ?_
    obtain ⟨h13, hw⟩ := hw
    refine xiald (k := v1.toNatClampNeg) hx hb hK hP 2 0 rfl rfl h13 rfl dX9_splitRow_44 ?_
    refine lv_iload hx hb dX9_splitRow_45 (lv_at hl 0 rfl) ?_
    refine lv_iadd hx hb dX9_splitRow_47 ?_
    refine lv_iconst (v := 1) hx hb dX9_splitRow_48 (by decide) ?_
    refine lv_ishr hx hb dX9_splitRow_49 ?_
    refine lv_isub hx hb dX9_splitRow_50 ?_
    refine lv_topi (fun x14 e_x14 => ?_)
    replace hw := hw x14 e_x14
    clear e_x14
    refine lv_istore (lv' := [(7, .int x14), (6, .int x12), (5, .int x10), (4, .int x4), (0, .ref h0), (1, .int v1), (2, .int v2), (3, .int v3)]) hx hb dX9_splitRow_51 hl (by decide) rfl (fun ls hl => ?_)
    refine lv_aload_n hx hb dX9_splitRow_53 rfl (lv_at hl 4 rfl) ?_
    refine va_get (D := (dC, dI)) (ci := 9) (v := .ref h_next) (C := RX9) (T := TX9) (N := 4) hx hb hts inX9 hown hK hP 0 rfl rfl 3 (by decide) (hts _ (List.mem_cons_of_mem _ mw_116)) (fun _ h9 => h9) rfl dX9_splitRow_54 ?_
    refine lv_iload_n hx hb dX9_splitRow_57 rfl (lv_at hl 6 rfl) ?_
    refine lv_iload hx hb dX9_splitRow_58 (lv_at hl 3 rfl) ?_
    refine lv_iadd hx hb dX9_splitRow_60 ?_
    refine lv_iload hx hb dX9_splitRow_61 (lv_at hl 1 rfl) ?_
    refine lv_aload_n hx hb dX9_splitRow_63 rfl (lv_at hl 4 rfl) ?_
    refine va_get (D := (dC, dI)) (ci := 9) (v := .ref h_memoriesB) (C := RX9) (T := TX9) (N := 4) hx hb hts inX9 hown hK hP 0 rfl rfl 1 (by decide) (hts _ (List.mem_cons_of_mem _ mw_114)) (fun _ h9 => h9) rfl dX9_splitRow_64 ?_
    refine lv_iload_n hx hb dX9_splitRow_67 rfl (lv_at hl 5 rfl) ?_
    obtain ⟨h15, hw⟩ := hw
    refine xiald (k := v1.toNatClampNeg) hx hb hK hP 3 0 rfl rfl h15 rfl dX9_splitRow_68 ?_
    refine lv_iload hx hb dX9_splitRow_69 (lv_at hl 0 rfl) ?_
    refine lv_iadd hx hb dX9_splitRow_71 ?_
    refine lv_iconst (v := 2) hx hb dX9_splitRow_72 (by decide) ?_
    refine lv_ishr hx hb dX9_splitRow_73 ?_
    refine lv_iadd hx hb dX9_splitRow_74 ?_
    obtain ⟨h16, hw⟩ := hw
    refine xiast (k := (v2 + x4).toNatClampNeg) hx hb hK hP hD hS 4 0 rfl rfl h16 rfl dX9_splitRow_75 (fun f17 e_f17 H locs hP hD hS => ?_)
    replace hw := hw f17 e_f17
    clear e_f17
    have hP : va_P (dC, dI) vwCl (w_X9_splitRow h0 h_memoriesA h_memoriesB h_row h_next cy c_row f5 f6 f17) H := hP
    have hD : va_D A (w_X9_splitRow h0 h_memoriesA h_memoriesB h_row h_next cy c_row f5 f6 f17) := hD
    refine lv_aload_n hx hb dX9_splitRow_76 rfl (lv_at hl 4 rfl) ?_
    refine va_get (D := (dC, dI)) (ci := 9) (v := .ref h_next) (C := RX9) (T := TX9) (N := 4) hx hb hts inX9 hown hK hP 0 rfl rfl 3 (by decide) (hts _ (List.mem_cons_of_mem _ mw_116)) (fun _ h9 => h9) rfl dX9_splitRow_77 ?_
    refine lv_iload_n hx hb dX9_splitRow_80 rfl (lv_at hl 6 rfl) ?_
    refine lv_iload_n hx hb dX9_splitRow_81 rfl (lv_at hl 7 rfl) ?_
    refine lv_iadd hx hb dX9_splitRow_82 ?_
    refine lv_iload hx hb dX9_splitRow_83 (lv_at hl 3 rfl) ?_
    refine lv_iadd hx hb dX9_splitRow_85 ?_
    refine lv_iload hx hb dX9_splitRow_86 (lv_at hl 0 rfl) ?_
    obtain ⟨h18, hw⟩ := hw
    refine xiast (k := ((v2 + v3) + x4).toNatClampNeg) hx hb hK hP hD hS 4 0 rfl rfl h18 rfl dX9_splitRow_88 (fun f19 e_f19 H locs hP hD hS => ?_)
    replace hw := hw f19 e_f19
    clear e_f19
    have hP : va_P (dC, dI) vwCl (w_X9_splitRow h0 h_memoriesA h_memoriesB h_row h_next cy c_row f5 f6 f19) H := hP
    have hD : va_D A (w_X9_splitRow h0 h_memoriesA h_memoriesB h_row h_next cy c_row f5 f6 f19) := hD
    refine lv_aload_n hx hb dX9_splitRow_89 rfl (lv_at hl 4 rfl) ?_
    refine va_get (D := (dC, dI)) (ci := 9) (v := .ref h_memoriesA) (C := RX9) (T := TX9) (N := 4) hx hb hts inX9 hown hK hP 0 rfl rfl 0 (by decide) (hts _ (List.mem_cons_of_mem _ mw_113)) (fun _ h9 => h9) rfl dX9_splitRow_90 ?_
    refine lv_iload_n hx hb dX9_splitRow_93 rfl (lv_at hl 5 rfl) ?_
    refine lv_iload hx hb dX9_splitRow_94 (lv_at hl 1 rfl) ?_
    obtain ⟨h20, hw⟩ := hw
    refine xiast (k := v1.toNatClampNeg) hx hb hK hP hD hS 2 0 rfl rfl h20 rfl dX9_splitRow_96 (fun f21 e_f21 H locs hP hD hS => ?_)
    replace hw := hw f21 e_f21
    clear e_f21
    have hP : va_P (dC, dI) vwCl (w_X9_splitRow h0 h_memoriesA h_memoriesB h_row h_next cy c_row f21 f6 f19) H := hP
    have hD : va_D A (w_X9_splitRow h0 h_memoriesA h_memoriesB h_row h_next cy c_row f21 f6 f19) := hD
    refine lv_aload_n hx hb dX9_splitRow_97 rfl (lv_at hl 4 rfl) ?_
    refine va_get (D := (dC, dI)) (ci := 9) (v := .ref h_memoriesB) (C := RX9) (T := TX9) (N := 4) hx hb hts inX9 hown hK hP 0 rfl rfl 1 (by decide) (hts _ (List.mem_cons_of_mem _ mw_114)) (fun _ h9 => h9) rfl dX9_splitRow_98 ?_
    refine lv_iload_n hx hb dX9_splitRow_101 rfl (lv_at hl 5 rfl) ?_
    refine lv_iload hx hb dX9_splitRow_102 (lv_at hl 0 rfl) ?_
    obtain ⟨h22, hw⟩ := hw
    refine xiast (k := v1.toNatClampNeg) hx hb hK hP hD hS 3 0 rfl rfl h22 rfl dX9_splitRow_104 (fun f23 e_f23 H locs hP hD hS => ?_)
    replace hw := hw f23 e_f23
    clear e_f23
    have hP : va_P (dC, dI) vwCl (w_X9_splitRow h0 h_memoriesA h_memoriesB h_row h_next cy c_row f21 f23 f19) H := hP
    have hD : va_D A (w_X9_splitRow h0 h_memoriesA h_memoriesB h_row h_next cy c_row f21 f23 f19) := hD
    refine lv_iinc (v := x4 + 1) (lv' := [(4, .int (x4 + 1)), (7, .int x14), (6, .int x12), (5, .int x10), (0, .ref h0), (1, .int v1), (2, .int v2), (3, .int v3)]) hx hb dX9_splitRow_105 hl (k := 3) rfl rfl (by decide) rfl (fun ls hl => ?_)
    refine lv_goto (tgt := 3) hx hb dX9_splitRow_108 (by decide) ?_
    exact ih3 (x4 + 1) f21 f23 f19 hw H locs ls hP hD hS (lv_sub hl [0, 4, 5, 6, 7] rfl)
abbrev w_X4_need (h0 h_split h_told h_quants h_backs h_rejoined h_scales h_needs h_bits k3 : Nat) (cy : Nat → ClassId) (n_p3 : Nat) (c_twins : Int32) (c_method : Int32) (c_pool : Int32) (c_scales : Nat → Int32) (p3 : Nat → Int32) : va_W := [(h0, .inr (4, [.ref h_split, .ref h_told, .ref h_quants, .ref h_backs, .ref h_rejoined, .ref h_scales, .ref h_needs, .ref h_bits, .int c_twins, .int c_method, .int c_pool])), (h_scales, .inl (cy 0, 16, .inl c_scales)), (k3, .inl (cy 0, n_p3, .inl p3))]
def wp_X4_need (n_p3 : Nat) (v1 : Int32) (v2 : Int32) (c_scales : Nat → Int32) (p3 : Nat → Int32) (post : Int32 → Prop) : Prop :=
  vp_in v1 16 ∧ ∀ x2 : Int32, x2 = c_scales v1.toNatClampNeg → (x2 = 0 → post x2) ∧ (¬ x2 = 0 → (v2 = 0 → post x2) ∧ (¬ v2 = 0 → ∀ x5 : Int32, x5 = jrem v1 (8 : Int32) → vp_in ((40 : Int32) + x5) n_p3 ∧ ∀ x7 : Int32, x7 = x2 - (p3 ((40 : Int32) + x5).toNatClampNeg) → (x7 ≤ 0 → post x7) ∧ (¬ x7 ≤ 0 → ∀ x9 : Int32, x9 = x7 / (2 : Int32) → post x9)))
set_option maxHeartbeats 4000000 in
set_option maxRecDepth 100000 in
theorem c_X4_need (l : Launch) (dC : Nat → ClassId) (dI : Nat → Nat → Nat) (cy : Nat → ClassId) (h0 h_split h_told h_quants h_backs h_rejoined h_scales h_needs h_bits k3 : Nat) (n_p3 : Nat) (sz : Nat) (v1 : Int32) (v2 : Int32) (c_twins : Int32) (c_method : Int32) (c_pool : Int32) (c_scales : Nat → Int32) (p3 : Nat → Int32) (post : Int32 → Prop) (hw : wp_X4_need n_p3 v1 v2 c_scales p3 post) : Met l yX4_need wsX4_need ({ frames := 0, cells := 0, slots := 0, locals := 0 }) (PX dC dI cy [.ref h0, .int v1, .int v2, .ref k3] sz (w_X4_need h0 h_split h_told h_quants h_backs h_rejoined h_scales h_needs h_bits k3 cy n_p3 c_twins c_method c_pool c_scales p3)) (va_Qi (fun (r : Int32) (u : Unit) => post r) (QX dC dI cy (va_A (w_X4_need h0 h_split h_told h_quants h_backs h_rejoined h_scales h_needs h_bits k3 cy n_p3 c_twins c_method c_pool c_scales p3) sz) (fun (u : Unit) => w_X4_need h0 h_split h_told h_quants h_backs h_rejoined h_scales h_needs h_bits k3 cy n_p3 c_twins c_method c_pool c_scales p3)) (va_A (w_X4_need h0 h_split h_told h_quants h_backs h_rejoined h_scales h_needs h_bits k3 cy n_p3 c_twins c_method c_pool c_scales p3) sz)) 0 0 (va_A (w_X4_need h0 h_split h_told h_quants h_backs h_rejoined h_scales h_needs h_bits k3 cy n_p3 c_twins c_method c_pool c_scales p3) sz) := by
  refine Met.ofW (cc := cX4_need) (maxL := 6) (ret := (some .int)) (by decide) rfl ?_
  intro p e s m args below meth c s₁ B hml hv
  obtain ⟨rfl, hsz, hP, hK, hD0, hG⟩ := hv
  have hx := B.exec
  have hb := B.bytes
  have hr := B.returns
  have hts := atoms_spec (ws := wsX4_need) B.pre
  have hown : s.vm.findClass RX4 = some m.cls := findClass_of_methodNamed B.named
  have hlocks := B.notSynchronized
  subst hsz
  have hD := hD0.self (sz := s.heap.size)
  generalize hAe : va_A (w_X4_need h0 h_split h_told h_quants h_backs h_rejoined h_scales h_needs h_bits k3 cy n_p3 c_twins c_method c_pool c_scales p3) s.heap.size = A at hD ⊢
  have hA : ∀ q : Nat, s.heap.size ≤ q → A q := fun q h => by rw [← hAe]; exact Or.inr h
  have hS : va_S A s.heap s.heap [] := va_S.rf
  have hl := lv_entry ([.ref h0, .int v1, .int v2, .ref k3]) (n := 6) (Nat.le_of_ble_eq_true rfl)
  rw [lg_entry_eq]
  generalize (lg_sl ([.ref h0, .int v1, .int v2, .ref k3]) ++ List.replicate (6 - (lg_sl ([.ref h0, .int v1, .int v2, .ref k3])).length) Slot.unset).toArray = ls at hl ⊢
  have hl : lv_has ls 6 [(0, .ref h0), (1, .int v1), (2, .int v2), (3, .ref k3)] := hl
  have inX4 : ∀ w ∈ u_ws RX4 TX4 11, w ∈ wsX4_need := fun w h => List.mem_cons_of_mem _ (inlX4 w h)
  clear hAe hD0 B
  unfold wp_X4_need at hw
  generalize hQe : MQ below _ _ s _ _ _ = Q0
  generalize ([.ref h0, .int v1, .int v2, .ref k3] : List Value).toArray = av at *
  obtain ⟨H, hH⟩ : ∃ H, H = s.heap := ⟨_, rfl⟩
  obtain ⟨locs, hlo⟩ : ∃ L : List Loc, L = [] := ⟨_, rfl⟩
  have hP : va_P (dC, dI) vwCl (w_X4_need h0 h_split h_told h_quants h_backs h_rejoined h_scales h_needs h_bits k3 cy n_p3 c_twins c_method c_pool c_scales p3) H := by rw [hH]; exact hP
  have hS : va_S A s.heap H locs := by rw [hH, hlo]; exact hS
  suffices hgo : W p l e ({ frames := 0, cells := 0, slots := 0, locals := 0 }) s m av below meth c H locs 0 0 Q0 (F0 m 0 ls []) by rw [hH, hlo] at hgo; exact hgo
  clear hH hlo
  refine lv_aload_n hx hb dX4_need_0 rfl (lv_at hl 0 rfl) ?_
  refine va_get (D := (dC, dI)) (ci := 4) (v := .ref h_scales) (C := RX4) (T := TX4) (N := 11) hx hb hts inX4 hown hK hP 0 rfl rfl 5 (by decide) (hts _ (List.mem_cons_of_mem _ mw_125)) (fun _ h9 => h9) rfl dX4_need_1 ?_
  refine lv_iload_n hx hb dX4_need_4 rfl (lv_at hl 1 rfl) ?_
  obtain ⟨h1, hw⟩ := hw
  refine xiald (k := v1.toNatClampNeg) hx hb hK hP 1 0 rfl rfl h1 rfl dX4_need_5 ?_
  refine lv_topi (fun x2 e_x2 => ?_)
  replace hw := hw x2 e_x2
  clear e_x2
  refine lv_istore (lv' := [(4, .int x2), (0, .ref h0), (1, .int v1), (2, .int v2), (3, .ref k3)]) hx hb dX4_need_6 hl (by decide) rfl (fun ls hl => ?_)
  refine lv_iload hx hb dX4_need_8 (lv_at hl 0 rfl) ?_
  refine lv_if_eq (tgt := 17) hx hb dX4_need_10 (by decide) (fun c3 => ?_) (fun c3 => ?_)
  · replace hw := hw.1 c3
    refine lv_iload hx hb dX4_need_17 (lv_at hl 0 rfl) ?_
    subst hQe
    exact W.iret (v := x2) hx hb hr (fun t ht hW => ⟨⟨x2, (), rfl, hw, by rw [ht]; exact hP, va_K.moved hW.alike hK, hD⟩, hS.F ht⟩) hS.2.2 dX4_need_19
  · replace hw := hw.2 c3
    refine lv_iload_n hx hb dX4_need_13 rfl (lv_at hl 3 rfl) ?_
    refine lv_if_ne (tgt := 20) hx hb dX4_need_14 (by decide) (fun c4 => ?_) (fun c4 => ?_)
    · replace hw := hw.2 c4
      refine lv_iload hx hb dX4_need_20 (lv_at hl 0 rfl) ?_
      refine lv_aload_n hx hb dX4_need_22 rfl (lv_at hl 4 rfl) ?_
      refine lv_bipush (v := 40) hx hb dX4_need_23 (by decide) ?_
      refine lv_iload_n hx hb dX4_need_25 rfl (lv_at hl 2 rfl) ?_
      refine lv_bipush (v := 8) hx hb dX4_need_26 (by decide) ?_
      refine lv_irem hx hb dX4_need_28 (by decide) ?_
      refine lv_topi (fun x5 e_x5 => ?_)
      replace hw := hw x5 e_x5
      clear e_x5
      refine lv_iadd hx hb dX4_need_29 ?_
      obtain ⟨h6, hw⟩ := hw
      refine xiald (k := ((40 : Int32) + x5).toNatClampNeg) hx hb hK hP 2 0 rfl rfl h6 rfl dX4_need_30 ?_
      refine lv_isub hx hb dX4_need_31 ?_
      refine lv_topi (fun x7 e_x7 => ?_)
      replace hw := hw x7 e_x7
      clear e_x7
      refine lv_istore (lv' := [(5, .int x7), (4, .int x2), (0, .ref h0), (1, .int v1), (2, .int v2), (3, .ref k3)]) hx hb dX4_need_32 hl (by decide) rfl (fun ls hl => ?_)
      refine lv_iload hx hb dX4_need_34 (lv_at hl 0 rfl) ?_
      refine lv_if_le (tgt := 46) hx hb dX4_need_36 (by decide) (fun c8 => ?_) (fun c8 => ?_)
      · replace hw := hw.1 c8
        refine lv_iload hx hb dX4_need_46 (lv_at hl 0 rfl) ?_
        subst hQe
        exact W.iret (v := x7) hx hb hr (fun t ht hW => ⟨⟨x7, (), rfl, hw, by rw [ht]; exact hP, va_K.moved hW.alike hK, hD⟩, hS.F ht⟩) hS.2.2 dX4_need_48
      · replace hw := hw.2 c8
        refine lv_iload hx hb dX4_need_39 (lv_at hl 0 rfl) ?_
        refine lv_iconst (v := 2) hx hb dX4_need_41 (by decide) ?_
        refine lv_idiv hx hb dX4_need_42 (by decide) ?_
        refine lv_topi (fun x9 e_x9 => ?_)
        replace hw := hw x9 e_x9
        clear e_x9
        refine lv_goto (tgt := 48) hx hb dX4_need_43 (by decide) ?_
        subst hQe
        exact W.iret (v := x9) hx hb hr (fun t ht hW => ⟨⟨x9, (), rfl, hw, by rw [ht]; exact hP, va_K.moved hW.alike hK, hD⟩, hS.F ht⟩) hS.2.2 dX4_need_48
    · replace hw := hw.1 c4
      refine lv_iload hx hb dX4_need_17 (lv_at hl 0 rfl) ?_
      subst hQe
      exact W.iret (v := x2) hx hb hr (fun t ht hW => ⟨⟨x2, (), rfl, hw, by rw [ht]; exact hP, va_K.moved hW.alike hK, hD⟩, hS.F ht⟩) hS.2.2 dX4_need_19
abbrev w_X12_splitPair (h0 h_row h_kept h_isKept h_aside h_eight h_rows h_scales h_dealt h_bytes h_heardRow h_made h_comes h_backs h_fresh k1 : Nat) (cy : Nat → ClassId) (n_p1 : Nat) (c_thrown : Int32) (c_nodeS : Int32) (c_nodeD : Int32) (c_pairE : Int32) (c_pairO : Int32) (c_bit : Int32) (c_lag : Int32) (c_lagSum : Int32) (p1 : Nat → Int32) : va_W := [(h0, .inr (12, [.int c_thrown, .ref h_row, .ref h_kept, .ref h_isKept, .ref h_aside, .int c_nodeS, .int c_nodeD, .int c_pairE, .int c_pairO, .ref h_eight, .ref h_rows, .ref h_scales, .ref h_dealt, .ref h_bytes, .int c_bit, .ref h_heardRow, .int c_lag, .int c_lagSum, .ref h_made, .ref h_comes, .ref h_backs, .ref h_fresh])), (k1, .inl (cy 0, n_p1, .inl p1))]
def wp_X12_splitPair (n_p1 : Nat) (v2 : Int32) (v3 : Int32) (v4 : Int32) (c_nodeS : Int32) (c_nodeD : Int32) (p1 : Nat → Int32) (post : Int32 → Int32 → (Nat → Int32) → Prop) : Prop :=
  vp_in v2 n_p1 ∧ ∀ x2 : Int32, x2 = v3 - (((p1 v2.toNatClampNeg) + v4) >>> ((1 : Int32) &&& 31)) → vp_in (v2 + (1 : Int32)) n_p1 ∧ ∀ x4 : Int32, x4 = v4 + (((p1 (v2 + (1 : Int32)).toNatClampNeg) + x2) >>> ((2 : Int32) &&& 31)) → vp_in v2 n_p1 ∧ ∀ f6 : Nat → Int32, f6 = upd p1 v2.toNatClampNeg v4 → vp_in (v2 + (1 : Int32)) n_p1 ∧ ∀ f8 : Nat → Int32, f8 = upd f6 (v2 + (1 : Int32)).toNatClampNeg x2 → post x4 x2 f8
set_option maxHeartbeats 4000000 in
set_option maxRecDepth 100000 in
theorem c_X12_splitPair (l : Launch) (dC : Nat → ClassId) (dI : Nat → Nat → Nat) (cy : Nat → ClassId) (h0 h_row h_kept h_isKept h_aside h_eight h_rows h_scales h_dealt h_bytes h_heardRow h_made h_comes h_backs h_fresh k1 : Nat) (n_p1 : Nat) (sz : Nat) (v2 : Int32) (v3 : Int32) (v4 : Int32) (c_thrown : Int32) (c_nodeS : Int32) (c_nodeD : Int32) (c_pairE : Int32) (c_pairO : Int32) (c_bit : Int32) (c_lag : Int32) (c_lagSum : Int32) (p1 : Nat → Int32) (post : Int32 → Int32 → (Nat → Int32) → Prop) (hw : wp_X12_splitPair n_p1 v2 v3 v4 c_nodeS c_nodeD p1 post) : Met l yX12_splitPair wsX12_splitPair ({ frames := 0, cells := 0, slots := 0, locals := 0 }) (PX dC dI cy [.ref h0, .ref k1, .int v2, .int v3, .int v4] sz (w_X12_splitPair h0 h_row h_kept h_isKept h_aside h_eight h_rows h_scales h_dealt h_bytes h_heardRow h_made h_comes h_backs h_fresh k1 cy n_p1 c_thrown c_nodeS c_nodeD c_pairE c_pairO c_bit c_lag c_lagSum p1)) (va_Qv (fun (u : Int32 × Int32 × (Nat → Int32)) => post u.1 u.2.1 u.2.2) (QX dC dI cy (va_A (w_X12_splitPair h0 h_row h_kept h_isKept h_aside h_eight h_rows h_scales h_dealt h_bytes h_heardRow h_made h_comes h_backs h_fresh k1 cy n_p1 c_thrown c_nodeS c_nodeD c_pairE c_pairO c_bit c_lag c_lagSum p1) sz) (fun (u : Int32 × Int32 × (Nat → Int32)) => w_X12_splitPair h0 h_row h_kept h_isKept h_aside h_eight h_rows h_scales h_dealt h_bytes h_heardRow h_made h_comes h_backs h_fresh k1 cy n_p1 c_thrown u.1 u.2.1 c_pairE c_pairO c_bit c_lag c_lagSum u.2.2)) (va_A (w_X12_splitPair h0 h_row h_kept h_isKept h_aside h_eight h_rows h_scales h_dealt h_bytes h_heardRow h_made h_comes h_backs h_fresh k1 cy n_p1 c_thrown c_nodeS c_nodeD c_pairE c_pairO c_bit c_lag c_lagSum p1) sz)) 0 0 (va_A (w_X12_splitPair h0 h_row h_kept h_isKept h_aside h_eight h_rows h_scales h_dealt h_bytes h_heardRow h_made h_comes h_backs h_fresh k1 cy n_p1 c_thrown c_nodeS c_nodeD c_pairE c_pairO c_bit c_lag c_lagSum p1) sz) := by
  refine Met.ofW (cc := cX12_splitPair) (maxL := 5) (ret := none) (by decide) rfl ?_
  intro p e s m args below meth c s₁ B hml hv
  obtain ⟨rfl, hsz, hP, hK, hD0, hG⟩ := hv
  have hx := B.exec
  have hb := B.bytes
  have hr := B.returns
  have hts := atoms_spec (ws := wsX12_splitPair) B.pre
  have hown : s.vm.findClass RX12 = some m.cls := findClass_of_methodNamed B.named
  have hlocks := B.notSynchronized
  subst hsz
  have hD := hD0.self (sz := s.heap.size)
  generalize hAe : va_A (w_X12_splitPair h0 h_row h_kept h_isKept h_aside h_eight h_rows h_scales h_dealt h_bytes h_heardRow h_made h_comes h_backs h_fresh k1 cy n_p1 c_thrown c_nodeS c_nodeD c_pairE c_pairO c_bit c_lag c_lagSum p1) s.heap.size = A at hD ⊢
  have hA : ∀ q : Nat, s.heap.size ≤ q → A q := fun q h => by rw [← hAe]; exact Or.inr h
  have hS : va_S A s.heap s.heap [] := va_S.rf
  have hl := lv_entry ([.ref h0, .ref k1, .int v2, .int v3, .int v4]) (n := 5) (Nat.le_of_ble_eq_true rfl)
  rw [lg_entry_eq]
  generalize (lg_sl ([.ref h0, .ref k1, .int v2, .int v3, .int v4]) ++ List.replicate (5 - (lg_sl ([.ref h0, .ref k1, .int v2, .int v3, .int v4])).length) Slot.unset).toArray = ls at hl ⊢
  have hl : lv_has ls 5 [(0, .ref h0), (1, .ref k1), (2, .int v2), (3, .int v3), (4, .int v4)] := hl
  have inX12 : ∀ w ∈ u_ws RX12 TX12 22, w ∈ wsX12_splitPair := fun w h => List.mem_cons_of_mem _ (inlX12 w h)
  clear hAe hD0 B
  unfold wp_X12_splitPair at hw
  generalize hQe : MQ below _ _ s _ _ _ = Q0
  generalize ([.ref h0, .ref k1, .int v2, .int v3, .int v4] : List Value).toArray = av at *
  obtain ⟨H, hH⟩ : ∃ H, H = s.heap := ⟨_, rfl⟩
  obtain ⟨locs, hlo⟩ : ∃ L : List Loc, L = [] := ⟨_, rfl⟩
  have hP : va_P (dC, dI) vwCl (w_X12_splitPair h0 h_row h_kept h_isKept h_aside h_eight h_rows h_scales h_dealt h_bytes h_heardRow h_made h_comes h_backs h_fresh k1 cy n_p1 c_thrown c_nodeS c_nodeD c_pairE c_pairO c_bit c_lag c_lagSum p1) H := by rw [hH]; exact hP
  have hS : va_S A s.heap H locs := by rw [hH, hlo]; exact hS
  suffices hgo : W p l e ({ frames := 0, cells := 0, slots := 0, locals := 0 }) s m av below meth c H locs 0 0 Q0 (F0 m 0 ls []) by rw [hH, hlo] at hgo; exact hgo
  clear hH hlo
  refine lv_aload_n hx hb dX12_splitPair_0 rfl (lv_at hl 0 rfl) ?_
  refine lv_iload_n hx hb dX12_splitPair_1 rfl (lv_at hl 3 rfl) ?_
  refine lv_aload_n hx hb dX12_splitPair_2 rfl (lv_at hl 1 rfl) ?_
  refine lv_iload_n hx hb dX12_splitPair_3 rfl (lv_at hl 2 rfl) ?_
  obtain ⟨h1, hw⟩ := hw
  refine xiald (k := v2.toNatClampNeg) hx hb hK hP 1 0 rfl rfl h1 rfl dX12_splitPair_4 ?_
  refine lv_iload hx hb dX12_splitPair_5 (lv_at hl 4 rfl) ?_
  refine lv_iadd hx hb dX12_splitPair_7 ?_
  refine lv_iconst (v := 1) hx hb dX12_splitPair_8 (by decide) ?_
  refine lv_ishr hx hb dX12_splitPair_9 ?_
  refine lv_isub hx hb dX12_splitPair_10 ?_
  refine lv_topi (fun x2 e_x2 => ?_)
  replace hw := hw x2 e_x2
  clear e_x2
  refine va_put (D := (dC, dI)) (ci := 12) (v := .int x2) (ty := .int) (C := RX12) (T := TX12) (N := 22) hx hb hts inX12 tyX12 tyX12_ok nmX12 hown hK hP hD hS 0 rfl rfl 6 (by decide) (hts _ (List.mem_cons_of_mem _ mw_626)) (fun _ h9 => h9) rfl (by decide +kernel) rfl rfl (Nat.le_of_ble_eq_true rfl) dX12_splitPair_11 (fun H locs hP hD hS => ?_)
  have hP : va_P (dC, dI) vwCl (w_X12_splitPair h0 h_row h_kept h_isKept h_aside h_eight h_rows h_scales h_dealt h_bytes h_heardRow h_made h_comes h_backs h_fresh k1 cy n_p1 c_thrown c_nodeS x2 c_pairE c_pairO c_bit c_lag c_lagSum p1) H := hP
  have hD : va_D A (w_X12_splitPair h0 h_row h_kept h_isKept h_aside h_eight h_rows h_scales h_dealt h_bytes h_heardRow h_made h_comes h_backs h_fresh k1 cy n_p1 c_thrown c_nodeS x2 c_pairE c_pairO c_bit c_lag c_lagSum p1) := hD
  refine lv_aload_n hx hb dX12_splitPair_14 rfl (lv_at hl 0 rfl) ?_
  refine lv_iload hx hb dX12_splitPair_15 (lv_at hl 4 rfl) ?_
  refine lv_aload_n hx hb dX12_splitPair_17 rfl (lv_at hl 1 rfl) ?_
  refine lv_iload_n hx hb dX12_splitPair_18 rfl (lv_at hl 2 rfl) ?_
  refine lv_iconst (v := 1) hx hb dX12_splitPair_19 (by decide) ?_
  refine lv_iadd hx hb dX12_splitPair_20 ?_
  obtain ⟨h3, hw⟩ := hw
  refine xiald (k := (v2 + (1 : Int32)).toNatClampNeg) hx hb hK hP 1 0 rfl rfl h3 rfl dX12_splitPair_21 ?_
  refine lv_aload_n hx hb dX12_splitPair_22 rfl (lv_at hl 0 rfl) ?_
  refine va_get (D := (dC, dI)) (ci := 12) (v := .int x2) (C := RX12) (T := TX12) (N := 22) hx hb hts inX12 hown hK hP 0 rfl rfl 6 (by decide) (hts _ (List.mem_cons_of_mem _ mw_626)) (fun _ h9 => h9) rfl dX12_splitPair_23 ?_
  refine lv_iadd hx hb dX12_splitPair_26 ?_
  refine lv_iconst (v := 2) hx hb dX12_splitPair_27 (by decide) ?_
  refine lv_ishr hx hb dX12_splitPair_28 ?_
  refine lv_iadd hx hb dX12_splitPair_29 ?_
  refine lv_topi (fun x4 e_x4 => ?_)
  replace hw := hw x4 e_x4
  clear e_x4
  refine va_put (D := (dC, dI)) (ci := 12) (v := .int x4) (ty := .int) (C := RX12) (T := TX12) (N := 22) hx hb hts inX12 tyX12 tyX12_ok nmX12 hown hK hP hD hS 0 rfl rfl 5 (by decide) (hts _ (List.mem_cons_of_mem _ mw_625)) (fun _ h9 => h9) rfl (by decide +kernel) rfl rfl (Nat.le_of_ble_eq_true rfl) dX12_splitPair_30 (fun H locs hP hD hS => ?_)
  have hP : va_P (dC, dI) vwCl (w_X12_splitPair h0 h_row h_kept h_isKept h_aside h_eight h_rows h_scales h_dealt h_bytes h_heardRow h_made h_comes h_backs h_fresh k1 cy n_p1 c_thrown x4 x2 c_pairE c_pairO c_bit c_lag c_lagSum p1) H := hP
  have hD : va_D A (w_X12_splitPair h0 h_row h_kept h_isKept h_aside h_eight h_rows h_scales h_dealt h_bytes h_heardRow h_made h_comes h_backs h_fresh k1 cy n_p1 c_thrown x4 x2 c_pairE c_pairO c_bit c_lag c_lagSum p1) := hD
  refine lv_aload_n hx hb dX12_splitPair_33 rfl (lv_at hl 1 rfl) ?_
  refine lv_iload_n hx hb dX12_splitPair_34 rfl (lv_at hl 2 rfl) ?_
  refine lv_iload hx hb dX12_splitPair_35 (lv_at hl 4 rfl) ?_
  obtain ⟨h5, hw⟩ := hw
  refine xiast (k := v2.toNatClampNeg) hx hb hK hP hD hS 1 0 rfl rfl h5 rfl dX12_splitPair_37 (fun f6 e_f6 H locs hP hD hS => ?_)
  replace hw := hw f6 e_f6
  clear e_f6
  have hP : va_P (dC, dI) vwCl (w_X12_splitPair h0 h_row h_kept h_isKept h_aside h_eight h_rows h_scales h_dealt h_bytes h_heardRow h_made h_comes h_backs h_fresh k1 cy n_p1 c_thrown x4 x2 c_pairE c_pairO c_bit c_lag c_lagSum f6) H := hP
  have hD : va_D A (w_X12_splitPair h0 h_row h_kept h_isKept h_aside h_eight h_rows h_scales h_dealt h_bytes h_heardRow h_made h_comes h_backs h_fresh k1 cy n_p1 c_thrown x4 x2 c_pairE c_pairO c_bit c_lag c_lagSum f6) := hD
  refine lv_aload_n hx hb dX12_splitPair_38 rfl (lv_at hl 1 rfl) ?_
  refine lv_iload_n hx hb dX12_splitPair_39 rfl (lv_at hl 2 rfl) ?_
  refine lv_iconst (v := 1) hx hb dX12_splitPair_40 (by decide) ?_
  refine lv_iadd hx hb dX12_splitPair_41 ?_
  refine lv_aload_n hx hb dX12_splitPair_42 rfl (lv_at hl 0 rfl) ?_
  refine va_get (D := (dC, dI)) (ci := 12) (v := .int x2) (C := RX12) (T := TX12) (N := 22) hx hb hts inX12 hown hK hP 0 rfl rfl 6 (by decide) (hts _ (List.mem_cons_of_mem _ mw_626)) (fun _ h9 => h9) rfl dX12_splitPair_43 ?_
  obtain ⟨h7, hw⟩ := hw
  refine xiast (k := (v2 + (1 : Int32)).toNatClampNeg) hx hb hK hP hD hS 1 0 rfl rfl h7 rfl dX12_splitPair_46 (fun f8 e_f8 H locs hP hD hS => ?_)
  replace hw := hw f8 e_f8
  clear e_f8
  have hP : va_P (dC, dI) vwCl (w_X12_splitPair h0 h_row h_kept h_isKept h_aside h_eight h_rows h_scales h_dealt h_bytes h_heardRow h_made h_comes h_backs h_fresh k1 cy n_p1 c_thrown x4 x2 c_pairE c_pairO c_bit c_lag c_lagSum f8) H := hP
  have hD : va_D A (w_X12_splitPair h0 h_row h_kept h_isKept h_aside h_eight h_rows h_scales h_dealt h_bytes h_heardRow h_made h_comes h_backs h_fresh k1 cy n_p1 c_thrown x4 x2 c_pairE c_pairO c_bit c_lag c_lagSum f8) := hD
  subst hQe
  exact W.vret hx hb hr (fun t ht hW => ⟨⟨(x4, x2, f8), rfl, hw, by rw [ht]; exact hP, va_K.moved hW.alike hK, hD⟩, hS.F ht⟩) hS.2.2 dX12_splitPair_47
abbrev w_X12_down (cy : Nat → ClassId) : va_W := []
def wp_X12_down (v0 : Int64) (v2 : Int64) (post : Int64 → Prop) : Prop :=
  ¬ v2 = 0 ∧ ∀ x2 : Int64, x2 = v0 / v2 → ¬ v2 = 0 ∧ ∀ x4 : Int64, x4 = lrem v0 v2 → ((0 : Int64) ≤ x4 → post x2) ∧ (¬ (0 : Int64) ≤ x4 → post (x2 - (1 : Int64)))
set_option maxHeartbeats 4000000 in
set_option maxRecDepth 100000 in
theorem c_X12_down (l : Launch) (dC : Nat → ClassId) (dI : Nat → Nat → Nat) (cy : Nat → ClassId) (sz : Nat) (v0 : Int64) (v2 : Int64) (post : Int64 → Prop) (hw : wp_X12_down v0 v2 post) : Met l yX12_down wsX12_down ({ frames := 0, cells := 0, slots := 0, locals := 0 }) (PX dC dI cy [.long v0, .long v2] sz (w_X12_down cy)) (va_Ql (fun (r : Int64) (u : Unit) => post r) (QX dC dI cy (va_A (w_X12_down cy) sz) (fun (u : Unit) => w_X12_down cy)) (va_A (w_X12_down cy) sz)) 0 0 (va_A (w_X12_down cy) sz) := by
  refine Met.ofW (cc := cX12_down) (maxL := 6) (ret := (some .long)) (by decide) rfl ?_
  intro p e s m args below meth c s₁ B hml hv
  obtain ⟨rfl, hsz, hP, hK, hD0, hG⟩ := hv
  have hx := B.exec
  have hb := B.bytes
  have hr := B.returns
  have hts := atoms_spec (ws := wsX12_down) B.pre
  have hown : s.vm.findClass RX12 = some m.cls := findClass_of_methodNamed B.named
  have hlocks := B.notSynchronized
  subst hsz
  have hD := hD0.self (sz := s.heap.size)
  generalize hAe : va_A (w_X12_down cy) s.heap.size = A at hD ⊢
  have hA : ∀ q : Nat, s.heap.size ≤ q → A q := fun q h => by rw [← hAe]; exact Or.inr h
  have hS : va_S A s.heap s.heap [] := va_S.rf
  have hl := lv_entry ([.long v0, .long v2]) (n := 6) (Nat.le_of_ble_eq_true rfl)
  rw [lg_entry_eq]
  generalize (lg_sl ([.long v0, .long v2]) ++ List.replicate (6 - (lg_sl ([.long v0, .long v2])).length) Slot.unset).toArray = ls at hl ⊢
  have hl : lv_has ls 6 [(0, .long v0), (2, .long v2)] := hl
  clear hAe hD0 B
  unfold wp_X12_down at hw
  generalize hQe : MQ below _ _ s _ _ _ = Q0
  generalize ([.long v0, .long v2] : List Value).toArray = av at *
  obtain ⟨H, hH⟩ : ∃ H, H = s.heap := ⟨_, rfl⟩
  obtain ⟨locs, hlo⟩ : ∃ L : List Loc, L = [] := ⟨_, rfl⟩
  have hP : va_P (dC, dI) vwCl (w_X12_down cy) H := by rw [hH]; exact hP
  have hS : va_S A s.heap H locs := by rw [hH, hlo]; exact hS
  suffices hgo : W p l e ({ frames := 0, cells := 0, slots := 0, locals := 0 }) s m av below meth c H locs 0 0 Q0 (F0 m 0 ls []) by rw [hH, hlo] at hgo; exact hgo
  clear hH hlo
  refine lv_lload_n hx hb dX12_down_0 rfl (lv_at hl 0 rfl) ?_
  refine lv_lload_n hx hb dX12_down_1 rfl (lv_at hl 1 rfl) ?_
  obtain ⟨h1, hw⟩ := hw
  refine lv_ldiv hx hb dX12_down_2 h1 ?_
  refine lv_topl (fun x2 e_x2 => ?_)
  replace hw := hw x2 e_x2
  clear e_x2
  refine lv_lstore (lv' := [(4, .long x2), (0, .long v0), (2, .long v2)]) hx hb dX12_down_3 hl (by decide) rfl (fun ls hl => ?_)
  refine lv_lload_n hx hb dX12_down_5 rfl (lv_at hl 1 rfl) ?_
  refine lv_lload_n hx hb dX12_down_6 rfl (lv_at hl 2 rfl) ?_
  obtain ⟨h3, hw⟩ := hw
  refine lv_lrem hx hb dX12_down_7 h3 ?_
  refine lv_topl (fun x4 e_x4 => ?_)
  replace hw := hw x4 e_x4
  clear e_x4
  refine lv_lconst (v := 0) hx hb dX12_down_8 (by decide) ?_
  refine W.lcmp hx hb dX12_down_9 ?_
  refine lv_if_ge (tgt := 20) hx hb dX12_down_10 (by decide) (fun c5 => ?_) (fun c5 => ?_)
  · replace hw := hw.1 ((lg_cmp_ge _ _).mp c5)
    refine lv_lload hx hb dX12_down_20 (lv_at hl 0 rfl) ?_
    subst hQe
    exact W.lret (v := x2) hx hb hr (fun t ht hW => ⟨⟨x2, (), rfl, hw, by rw [ht]; exact hP, va_K.moved hW.alike hK, hD⟩, hS.F ht⟩) hS.2.2 dX12_down_22
  · replace hw := hw.2 (fun q => c5 ((lg_cmp_ge _ _).mpr q))
    refine lv_lload hx hb dX12_down_13 (lv_at hl 0 rfl) ?_
    refine lv_lconst (v := 1) hx hb dX12_down_15 (by decide) ?_
    refine lv_lsub hx hb dX12_down_16 ?_
    refine lv_goto (tgt := 22) hx hb dX12_down_17 (by decide) ?_
    subst hQe
    exact W.lret (v := x2 - (1 : Int64)) hx hb hr (fun t ht hW => ⟨⟨(x2 - (1 : Int64)), (), rfl, hw, by rw [ht]; exact hP, va_K.moved hW.alike hK, hD⟩, hS.F ht⟩) hS.2.2 dX12_down_22
abbrev w_X12_nearest (cy : Nat → ClassId) : va_W := []
def wp_X12_nearest (v0 : Int64) (v2 : Int64) (v4 : Int64) (post : Int32 → Prop) : Prop :=
  (v2 ≤ v0 → (v0 ≤ v4 → post (v0.toInt32)) ∧ (¬ v0 ≤ v4 → post (v4.toInt32))) ∧ (¬ v2 ≤ v0 → post (v2.toInt32))
set_option maxHeartbeats 4000000 in
set_option maxRecDepth 100000 in
theorem c_X12_nearest (l : Launch) (dC : Nat → ClassId) (dI : Nat → Nat → Nat) (cy : Nat → ClassId) (sz : Nat) (v0 : Int64) (v2 : Int64) (v4 : Int64) (post : Int32 → Prop) (hw : wp_X12_nearest v0 v2 v4 post) : Met l yX12_nearest wsX12_nearest ({ frames := 0, cells := 0, slots := 0, locals := 0 }) (PX dC dI cy [.long v0, .long v2, .long v4] sz (w_X12_nearest cy)) (va_Qi (fun (r : Int32) (u : Unit) => post r) (QX dC dI cy (va_A (w_X12_nearest cy) sz) (fun (u : Unit) => w_X12_nearest cy)) (va_A (w_X12_nearest cy) sz)) 0 0 (va_A (w_X12_nearest cy) sz) := by
  refine Met.ofW (cc := cX12_nearest) (maxL := 6) (ret := (some .int)) (by decide) rfl ?_
  intro p e s m args below meth c s₁ B hml hv
  obtain ⟨rfl, hsz, hP, hK, hD0, hG⟩ := hv
  have hx := B.exec
  have hb := B.bytes
  have hr := B.returns
  have hts := atoms_spec (ws := wsX12_nearest) B.pre
  have hown : s.vm.findClass RX12 = some m.cls := findClass_of_methodNamed B.named
  have hlocks := B.notSynchronized
  subst hsz
  have hD := hD0.self (sz := s.heap.size)
  generalize hAe : va_A (w_X12_nearest cy) s.heap.size = A at hD ⊢
  have hA : ∀ q : Nat, s.heap.size ≤ q → A q := fun q h => by rw [← hAe]; exact Or.inr h
  have hS : va_S A s.heap s.heap [] := va_S.rf
  have hl := lv_entry ([.long v0, .long v2, .long v4]) (n := 6) (Nat.le_of_ble_eq_true rfl)
  rw [lg_entry_eq]
  generalize (lg_sl ([.long v0, .long v2, .long v4]) ++ List.replicate (6 - (lg_sl ([.long v0, .long v2, .long v4])).length) Slot.unset).toArray = ls at hl ⊢
  have hl : lv_has ls 6 [(0, .long v0), (2, .long v2), (4, .long v4)] := hl
  clear hAe hD0 B
  unfold wp_X12_nearest at hw
  generalize hQe : MQ below _ _ s _ _ _ = Q0
  generalize ([.long v0, .long v2, .long v4] : List Value).toArray = av at *
  obtain ⟨H, hH⟩ : ∃ H, H = s.heap := ⟨_, rfl⟩
  obtain ⟨locs, hlo⟩ : ∃ L : List Loc, L = [] := ⟨_, rfl⟩
  have hP : va_P (dC, dI) vwCl (w_X12_nearest cy) H := by rw [hH]; exact hP
  have hS : va_S A s.heap H locs := by rw [hH, hlo]; exact hS
  suffices hgo : W p l e ({ frames := 0, cells := 0, slots := 0, locals := 0 }) s m av below meth c H locs 0 0 Q0 (F0 m 0 ls []) by rw [hH, hlo] at hgo; exact hgo
  clear hH hlo
  refine lv_lload_n hx hb dX12_nearest_0 rfl (lv_at hl 0 rfl) ?_
  refine lv_lload_n hx hb dX12_nearest_1 rfl (lv_at hl 1 rfl) ?_
  refine W.lcmp hx hb dX12_nearest_2 ?_
  refine lv_if_ge (tgt := 10) hx hb dX12_nearest_3 (by decide) (fun c1 => ?_) (fun c1 => ?_)
  · replace hw := hw.1 ((lg_cmp_ge _ _).mp c1)
    refine lv_lload_n hx hb dX12_nearest_10 rfl (lv_at hl 0 rfl) ?_
    refine lv_lload hx hb dX12_nearest_11 (lv_at hl 2 rfl) ?_
    refine W.lcmp hx hb dX12_nearest_13 ?_
    refine lv_if_le (tgt := 22) hx hb dX12_nearest_14 (by decide) (fun c2 => ?_) (fun c2 => ?_)
    · replace hw := hw.1 ((lg_cmp_le _ _).mp c2)
      refine lv_lload_n hx hb dX12_nearest_22 rfl (lv_at hl 0 rfl) ?_
      refine lv_l2i (v := v0.toInt32) hx hb dX12_nearest_23 rfl ?_
      subst hQe
      exact W.iret (v := v0.toInt32) hx hb hr (fun t ht hW => ⟨⟨(v0.toInt32), (), rfl, hw, by rw [ht]; exact hP, va_K.moved hW.alike hK, hD⟩, hS.F ht⟩) hS.2.2 dX12_nearest_24
    · replace hw := hw.2 (fun q => c2 ((lg_cmp_le _ _).mpr q))
      refine lv_lload hx hb dX12_nearest_17 (lv_at hl 2 rfl) ?_
      refine lv_goto (tgt := 23) hx hb dX12_nearest_19 (by decide) ?_
      refine lv_l2i (v := v4.toInt32) hx hb dX12_nearest_23 rfl ?_
      subst hQe
      exact W.iret (v := v4.toInt32) hx hb hr (fun t ht hW => ⟨⟨(v4.toInt32), (), rfl, hw, by rw [ht]; exact hP, va_K.moved hW.alike hK, hD⟩, hS.F ht⟩) hS.2.2 dX12_nearest_24
  · replace hw := hw.2 (fun q => c1 ((lg_cmp_ge _ _).mpr q))
    refine lv_lload_n hx hb dX12_nearest_6 rfl (lv_at hl 1 rfl) ?_
    refine lv_goto (tgt := 23) hx hb dX12_nearest_7 (by decide) ?_
    refine lv_l2i (v := v2.toInt32) hx hb dX12_nearest_23 rfl ?_
    subst hQe
    exact W.iret (v := v2.toInt32) hx hb hr (fun t ht hW => ⟨⟨(v2.toInt32), (), rfl, hw, by rw [ht]; exact hP, va_K.moved hW.alike hK, hD⟩, hS.F ht⟩) hS.2.2 dX12_nearest_24
abbrev w_X12_quant (cy : Nat → ClassId) : va_W := []
def wp_X12_quant (v0 : Int32) (v1 : Int32) (v2 : Int32) (post : Int32 → Prop) : Prop :=
  ∀ x1 : Int64, x1 = ((1 : Int64) <<< (v2.toInt64 &&& 63)) - (1 : Int64) → wp_X12_down (((v0.toInt64) + ((1 : Int64) <<< (v1.toInt64 &&& 63))) * x1) ((1 : Int64) <<< ((v1 + (1 : Int32)).toInt64 &&& 63)) (fun r2 => wp_X12_nearest r2 (0 : Int64) (x1 - (1 : Int64)) (fun r3 => post r3))
set_option maxHeartbeats 4000000 in
set_option maxRecDepth 100000 in
theorem c_X12_quant (l : Launch) (dC : Nat → ClassId) (dI : Nat → Nat → Nat) (cy : Nat → ClassId) (sz : Nat) (v0 : Int32) (v1 : Int32) (v2 : Int32) (post : Int32 → Prop) (hw : wp_X12_quant v0 v1 v2 post) : Met l yX12_quant wsX12_quant ({ frames := 1, cells := 0, slots := 0, locals := 25 }) (PX dC dI cy [.int v0, .int v1, .int v2] sz (w_X12_quant cy)) (va_Qi (fun (r : Int32) (u : Unit) => post r) (QX dC dI cy (va_A (w_X12_quant cy) sz) (fun (u : Unit) => w_X12_quant cy)) (va_A (w_X12_quant cy) sz)) 0 0 (va_A (w_X12_quant cy) sz) := by
  refine Met.ofW (cc := cX12_quant) (maxL := 5) (ret := (some .int)) (by decide) rfl ?_
  intro p e s m args below meth c s₁ B hml hv
  obtain ⟨rfl, hsz, hP, hK, hD0, hG⟩ := hv
  have hx := B.exec
  have hb := B.bytes
  have hr := B.returns
  have hts := atoms_spec (ws := wsX12_quant) B.pre
  have hown : s.vm.findClass RX12 = some m.cls := findClass_of_methodNamed B.named
  have hlocks := B.notSynchronized
  subst hsz
  have hD := hD0.self (sz := s.heap.size)
  generalize hAe : va_A (w_X12_quant cy) s.heap.size = A at hD ⊢
  have hA : ∀ q : Nat, s.heap.size ≤ q → A q := fun q h => by rw [← hAe]; exact Or.inr h
  have hS : va_S A s.heap s.heap [] := va_S.rf
  have hl := lv_entry ([.int v0, .int v1, .int v2]) (n := 5) (Nat.le_of_ble_eq_true rfl)
  rw [lg_entry_eq]
  generalize (lg_sl ([.int v0, .int v1, .int v2]) ++ List.replicate (5 - (lg_sl ([.int v0, .int v1, .int v2])).length) Slot.unset).toArray = ls at hl ⊢
  have hl : lv_has ls 5 [(0, .int v0), (1, .int v1), (2, .int v2)] := hl
  clear hAe hD0 B
  unfold wp_X12_quant at hw
  generalize hQe : MQ below _ _ s _ _ _ = Q0
  generalize ([.int v0, .int v1, .int v2] : List Value).toArray = av at *
  obtain ⟨H, hH⟩ : ∃ H, H = s.heap := ⟨_, rfl⟩
  obtain ⟨locs, hlo⟩ : ∃ L : List Loc, L = [] := ⟨_, rfl⟩
  have hP : va_P (dC, dI) vwCl (w_X12_quant cy) H := by rw [hH]; exact hP
  have hS : va_S A s.heap H locs := by rw [hH, hlo]; exact hS
  suffices hgo : W p l e ({ frames := 1, cells := 0, slots := 0, locals := 25 }) s m av below meth c H locs 0 0 Q0 (F0 m 0 ls []) by rw [hH, hlo] at hgo; exact hgo
  clear hH hlo
  refine lv_lconst (v := 1) hx hb dX12_quant_0 (by decide) ?_
  refine lv_iload_n hx hb dX12_quant_1 rfl (lv_at hl 2 rfl) ?_
  refine lv_lshl (v := (1 : Int64) <<< (v2.toInt64 &&& 63)) hx hb dX12_quant_2 rfl ?_
  refine lv_lconst (v := 1) hx hb dX12_quant_3 (by decide) ?_
  refine lv_lsub hx hb dX12_quant_4 ?_
  refine lv_topl (fun x1 e_x1 => ?_)
  replace hw := hw x1 e_x1
  clear e_x1
  refine lv_lstore_n (lv' := [(3, .long x1), (0, .int v0), (1, .int v1), (2, .int v2)]) hx hb dX12_quant_5 rfl hl (by decide) rfl (fun ls hl => ?_)
  refine lv_iload_n hx hb dX12_quant_6 rfl (lv_at hl 1 rfl) ?_
  refine lv_i2l (v := v0.toInt64) hx hb dX12_quant_7 rfl ?_
  refine lv_lconst (v := 1) hx hb dX12_quant_8 (by decide) ?_
  refine lv_iload_n hx hb dX12_quant_9 rfl (lv_at hl 2 rfl) ?_
  refine lv_lshl (v := (1 : Int64) <<< (v1.toInt64 &&& 63)) hx hb dX12_quant_10 rfl ?_
  refine lv_ladd hx hb dX12_quant_11 ?_
  refine lv_lload_n hx hb dX12_quant_12 rfl (lv_at hl 0 rfl) ?_
  refine lv_lmul hx hb dX12_quant_13 ?_
  refine lv_lconst (v := 1) hx hb dX12_quant_14 (by decide) ?_
  refine lv_iload_n hx hb dX12_quant_15 rfl (lv_at hl 2 rfl) ?_
  refine lv_iconst (v := 1) hx hb dX12_quant_16 (by decide) ?_
  refine lv_iadd hx hb dX12_quant_17 ?_
  refine lv_lshl (v := (1 : Int64) <<< ((v1 + (1 : Int32)).toInt64 &&& 63)) hx hb dX12_quant_18 rfl ?_
  have hPc := pSub (ws' := (w_X12_down cy)) hP [] rfl
  have hDc := dSub (ws' := (w_X12_down cy)) hD [] (by decide) rfl
  have hFc := va_free (wc := (w_X12_down cy)) hD hS hA [] rfl
  refine va_calll (va_runS (As := [.long (((v0.toInt64) + ((1 : Int64) <<< (v1.toInt64 &&& 63))) * x1), .long ((1 : Int64) <<< ((v1 + (1 : Int32)).toInt64 &&& 63))]) (rest := []) ⟨hx, hb, hml, hown, hts⟩ (c_X12_down l dC dI cy  H.size (((v0.toInt64) + ((1 : Int64) <<< (v1.toInt64 &&& 63))) * x1) ((1 : Int64) <<< ((v1 + (1 : Int32)).toInt64 &&& 63)) _ hw) (va_cwS 2 hts (goodS mw_674 mw_672 mw_673 mw_5) rfl rfl rfl (by decide +kernel) ⟨Nat.le_of_ble_eq_true rfl, Nat.le_of_ble_eq_true rfl⟩) ⟨PX_blind, PX_pre hPc hK hDc hG⟩ rfl rfl hl.1 rfl (lv_room (Nat.le_of_ble_eq_true rfl)) dX12_quant_19 ⟨Nat.zero_le _, Nat.zero_le _⟩) hS (fun q _ h => hFc q h) hFc (fun r2 _ t H locs ht hvm hw hB hz1 hk1 hS => ?_)
  obtain ⟨hP1, -, -⟩ := hB
  rw [ht] at hP1
  obtain ⟨hP, hD⟩ := jI hP hD [] rfl rfl hk1 hP1
  have hP : va_P (dC, dI) vwCl (w_X12_quant cy) H := hP
  have hD : va_D A (w_X12_quant cy) := hD
  clear hPc hDc hFc hP1 hk1 hz1 hvm ht
  refine W.widen (k := 0) (n := 0) (Nat.le_refl 0) (Nat.le_refl 0) ?_
  refine lv_lconst (v := 0) hx hb dX12_quant_22 (by decide) ?_
  refine lv_lload_n hx hb dX12_quant_23 rfl (lv_at hl 0 rfl) ?_
  refine lv_lconst (v := 1) hx hb dX12_quant_24 (by decide) ?_
  refine lv_lsub hx hb dX12_quant_25 ?_
  have hPc := pSub (ws' := (w_X12_nearest cy)) hP [] rfl
  have hDc := dSub (ws' := (w_X12_nearest cy)) hD [] (by decide) rfl
  have hFc := va_free (wc := (w_X12_nearest cy)) hD hS hA [] rfl
  refine va_calli (va_runS (As := [.long r2, .long (0 : Int64), .long (x1 - (1 : Int64))]) (rest := []) ⟨hx, hb, hml, hown, hts⟩ (c_X12_nearest l dC dI cy  H.size r2 (0 : Int64) (x1 - (1 : Int64)) _ hw) (va_cwS 3 hts (goodS mw_616 mw_614 mw_615 mw_5) rfl rfl rfl (by decide +kernel) ⟨Nat.le_of_ble_eq_true rfl, Nat.le_of_ble_eq_true rfl⟩) ⟨PX_blind, PX_pre hPc hK hDc hG⟩ rfl rfl hl.1 rfl (lv_room (Nat.le_of_ble_eq_true rfl)) dX12_quant_26 ⟨Nat.zero_le _, Nat.zero_le _⟩) hS (fun q _ h => hFc q h) hFc (fun r3 _ t H locs ht hvm hw hB hz1 hk1 hS => ?_)
  obtain ⟨hP1, -, -⟩ := hB
  rw [ht] at hP1
  obtain ⟨hP, hD⟩ := jI hP hD [] rfl rfl hk1 hP1
  have hP : va_P (dC, dI) vwCl (w_X12_quant cy) H := hP
  have hD : va_D A (w_X12_quant cy) := hD
  clear hPc hDc hFc hP1 hk1 hz1 hvm ht
  refine W.widen (k := 0) (n := 0) (Nat.le_refl 0) (Nat.le_refl 0) ?_
  subst hQe
  exact W.iret (v := r3) hx hb hr (fun t ht hW => ⟨⟨r3, (), rfl, hw, by rw [ht]; exact hP, va_K.moved hW.alike hK, hD⟩, hS.F ht⟩) hS.2.2 dX12_quant_29
abbrev w_X12_in (cy : Nat → ClassId) : va_W := []
def wp_X12_in (v0 : Int64) (v2 : Int64) (v4 : Int64) (post : Int32 → Prop) : Prop :=
  (v0 < v2 → post (0 : Int32)) ∧ (¬ v0 < v2 → (v4 < v0 → post (0 : Int32)) ∧ (¬ v4 < v0 → post (1 : Int32)))
set_option maxHeartbeats 4000000 in
set_option maxRecDepth 100000 in
theorem c_X12_in (l : Launch) (dC : Nat → ClassId) (dI : Nat → Nat → Nat) (cy : Nat → ClassId) (sz : Nat) (v0 : Int64) (v2 : Int64) (v4 : Int64) (post : Int32 → Prop) (hw : wp_X12_in v0 v2 v4 post) : Met l yX12_in wsX12_in ({ frames := 0, cells := 0, slots := 0, locals := 0 }) (PX dC dI cy [.long v0, .long v2, .long v4] sz (w_X12_in cy)) (va_Qi (fun (r : Int32) (u : Unit) => post r) (QX dC dI cy (va_A (w_X12_in cy) sz) (fun (u : Unit) => w_X12_in cy)) (va_A (w_X12_in cy) sz)) 0 0 (va_A (w_X12_in cy) sz) := by
  refine Met.ofW (cc := cX12_in) (maxL := 6) (ret := (some .boolean)) (by decide) rfl ?_
  intro p e s m args below meth c s₁ B hml hv
  obtain ⟨rfl, hsz, hP, hK, hD0, hG⟩ := hv
  have hx := B.exec
  have hb := B.bytes
  have hr := B.returns
  have hts := atoms_spec (ws := wsX12_in) B.pre
  have hown : s.vm.findClass RX12 = some m.cls := findClass_of_methodNamed B.named
  have hlocks := B.notSynchronized
  subst hsz
  have hD := hD0.self (sz := s.heap.size)
  generalize hAe : va_A (w_X12_in cy) s.heap.size = A at hD ⊢
  have hA : ∀ q : Nat, s.heap.size ≤ q → A q := fun q h => by rw [← hAe]; exact Or.inr h
  have hS : va_S A s.heap s.heap [] := va_S.rf
  have hl := lv_entry ([.long v0, .long v2, .long v4]) (n := 6) (Nat.le_of_ble_eq_true rfl)
  rw [lg_entry_eq]
  generalize (lg_sl ([.long v0, .long v2, .long v4]) ++ List.replicate (6 - (lg_sl ([.long v0, .long v2, .long v4])).length) Slot.unset).toArray = ls at hl ⊢
  have hl : lv_has ls 6 [(0, .long v0), (2, .long v2), (4, .long v4)] := hl
  clear hAe hD0 B
  unfold wp_X12_in at hw
  generalize hQe : MQ below _ _ s _ _ _ = Q0
  generalize ([.long v0, .long v2, .long v4] : List Value).toArray = av at *
  obtain ⟨H, hH⟩ : ∃ H, H = s.heap := ⟨_, rfl⟩
  obtain ⟨locs, hlo⟩ : ∃ L : List Loc, L = [] := ⟨_, rfl⟩
  have hP : va_P (dC, dI) vwCl (w_X12_in cy) H := by rw [hH]; exact hP
  have hS : va_S A s.heap H locs := by rw [hH, hlo]; exact hS
  suffices hgo : W p l e ({ frames := 0, cells := 0, slots := 0, locals := 0 }) s m av below meth c H locs 0 0 Q0 (F0 m 0 ls []) by rw [hH, hlo] at hgo; exact hgo
  clear hH hlo
  refine lv_lload_n hx hb dX12_in_0 rfl (lv_at hl 0 rfl) ?_
  refine lv_lload_n hx hb dX12_in_1 rfl (lv_at hl 1 rfl) ?_
  refine W.lcmp hx hb dX12_in_2 ?_
  refine lv_if_lt (tgt := 17) hx hb dX12_in_3 (by decide) (fun c1 => ?_) (fun c1 => ?_)
  · replace hw := hw.1 ((lg_cmp_lt _ _).mp c1)
    refine lv_iconst (v := 0) hx hb dX12_in_17 (by decide) ?_
    subst hQe
    exact W.zret (v := (0 : Int32)) hx hb hr isB_0 (fun t ht hW => ⟨⟨(0 : Int32), (), rfl, hw, by rw [ht]; exact hP, va_K.moved hW.alike hK, hD⟩, hS.F ht⟩) hS.2.2 dX12_in_18
  · replace hw := hw.2 (fun q => c1 ((lg_cmp_lt _ _).mpr q))
    refine lv_lload_n hx hb dX12_in_6 rfl (lv_at hl 0 rfl) ?_
    refine lv_lload hx hb dX12_in_7 (lv_at hl 2 rfl) ?_
    refine W.lcmp hx hb dX12_in_9 ?_
    refine lv_if_gt (tgt := 17) hx hb dX12_in_10 (by decide) (fun c2 => ?_) (fun c2 => ?_)
    · replace hw := hw.1 ((lg_cmp_gt _ _).mp c2)
      refine lv_iconst (v := 0) hx hb dX12_in_17 (by decide) ?_
      subst hQe
      exact W.zret (v := (0 : Int32)) hx hb hr isB_0 (fun t ht hW => ⟨⟨(0 : Int32), (), rfl, hw, by rw [ht]; exact hP, va_K.moved hW.alike hK, hD⟩, hS.F ht⟩) hS.2.2 dX12_in_18
    · replace hw := hw.2 (fun q => c2 ((lg_cmp_gt _ _).mpr q))
      refine lv_iconst (v := 1) hx hb dX12_in_13 (by decide) ?_
      refine lv_goto (tgt := 18) hx hb dX12_in_14 (by decide) ?_
      subst hQe
      exact W.zret (v := (1 : Int32)) hx hb hr isB_1 (fun t ht hW => ⟨⟨(1 : Int32), (), rfl, hw, by rw [ht]; exact hP, va_K.moved hW.alike hK, hD⟩, hS.F ht⟩) hS.2.2 dX12_in_18
abbrev w_X11_within (cy : Nat → ClassId) : va_W := []
def wp_X11_within (v0 : Int32) (v1 : Int32) (v2 : Int32) (post : Int32 → Prop) : Prop :=
  (v0 < v1 → post (0 : Int32)) ∧ (¬ v0 < v1 → (v2 < v0 → post (0 : Int32)) ∧ (¬ v2 < v0 → post (1 : Int32)))
set_option maxHeartbeats 4000000 in
set_option maxRecDepth 100000 in
theorem c_X11_within (l : Launch) (dC : Nat → ClassId) (dI : Nat → Nat → Nat) (cy : Nat → ClassId) (sz : Nat) (v0 : Int32) (v1 : Int32) (v2 : Int32) (post : Int32 → Prop) (hw : wp_X11_within v0 v1 v2 post) : Met l yX11_within wsX11_within ({ frames := 0, cells := 0, slots := 0, locals := 0 }) (PX dC dI cy [.int v0, .int v1, .int v2] sz (w_X11_within cy)) (va_Qi (fun (r : Int32) (u : Unit) => post r) (QX dC dI cy (va_A (w_X11_within cy) sz) (fun (u : Unit) => w_X11_within cy)) (va_A (w_X11_within cy) sz)) 0 0 (va_A (w_X11_within cy) sz) := by
  refine Met.ofW (cc := cX11_within) (maxL := 3) (ret := (some .boolean)) (by decide) rfl ?_
  intro p e s m args below meth c s₁ B hml hv
  obtain ⟨rfl, hsz, hP, hK, hD0, hG⟩ := hv
  have hx := B.exec
  have hb := B.bytes
  have hr := B.returns
  have hts := atoms_spec (ws := wsX11_within) B.pre
  have hown : s.vm.findClass RX11 = some m.cls := findClass_of_methodNamed B.named
  have hlocks := B.notSynchronized
  subst hsz
  have hD := hD0.self (sz := s.heap.size)
  generalize hAe : va_A (w_X11_within cy) s.heap.size = A at hD ⊢
  have hA : ∀ q : Nat, s.heap.size ≤ q → A q := fun q h => by rw [← hAe]; exact Or.inr h
  have hS : va_S A s.heap s.heap [] := va_S.rf
  have hl := lv_entry ([.int v0, .int v1, .int v2]) (n := 3) (Nat.le_of_ble_eq_true rfl)
  rw [lg_entry_eq]
  generalize (lg_sl ([.int v0, .int v1, .int v2]) ++ List.replicate (3 - (lg_sl ([.int v0, .int v1, .int v2])).length) Slot.unset).toArray = ls at hl ⊢
  have hl : lv_has ls 3 [(0, .int v0), (1, .int v1), (2, .int v2)] := hl
  clear hAe hD0 B
  unfold wp_X11_within at hw
  generalize hQe : MQ below _ _ s _ _ _ = Q0
  generalize ([.int v0, .int v1, .int v2] : List Value).toArray = av at *
  obtain ⟨H, hH⟩ : ∃ H, H = s.heap := ⟨_, rfl⟩
  obtain ⟨locs, hlo⟩ : ∃ L : List Loc, L = [] := ⟨_, rfl⟩
  have hP : va_P (dC, dI) vwCl (w_X11_within cy) H := by rw [hH]; exact hP
  have hS : va_S A s.heap H locs := by rw [hH, hlo]; exact hS
  suffices hgo : W p l e ({ frames := 0, cells := 0, slots := 0, locals := 0 }) s m av below meth c H locs 0 0 Q0 (F0 m 0 ls []) by rw [hH, hlo] at hgo; exact hgo
  clear hH hlo
  refine lv_iload_n hx hb dX11_within_0 rfl (lv_at hl 0 rfl) ?_
  refine lv_iload_n hx hb dX11_within_1 rfl (lv_at hl 1 rfl) ?_
  refine lv_icmp_lt (tgt := 14) hx hb dX11_within_2 (by decide) (fun c1 => ?_) (fun c1 => ?_)
  · replace hw := hw.1 c1
    refine lv_iconst (v := 0) hx hb dX11_within_14 (by decide) ?_
    subst hQe
    exact W.zret (v := (0 : Int32)) hx hb hr isB_0 (fun t ht hW => ⟨⟨(0 : Int32), (), rfl, hw, by rw [ht]; exact hP, va_K.moved hW.alike hK, hD⟩, hS.F ht⟩) hS.2.2 dX11_within_15
  · replace hw := hw.2 c1
    refine lv_iload_n hx hb dX11_within_5 rfl (lv_at hl 0 rfl) ?_
    refine lv_iload_n hx hb dX11_within_6 rfl (lv_at hl 2 rfl) ?_
    refine lv_icmp_gt (tgt := 14) hx hb dX11_within_7 (by decide) (fun c2 => ?_) (fun c2 => ?_)
    · replace hw := hw.1 c2
      refine lv_iconst (v := 0) hx hb dX11_within_14 (by decide) ?_
      subst hQe
      exact W.zret (v := (0 : Int32)) hx hb hr isB_0 (fun t ht hW => ⟨⟨(0 : Int32), (), rfl, hw, by rw [ht]; exact hP, va_K.moved hW.alike hK, hD⟩, hS.F ht⟩) hS.2.2 dX11_within_15
    · replace hw := hw.2 c2
      refine lv_iconst (v := 1) hx hb dX11_within_10 (by decide) ?_
      refine lv_goto (tgt := 15) hx hb dX11_within_11 (by decide) ?_
      subst hQe
      exact W.zret (v := (1 : Int32)) hx hb hr isB_1 (fun t ht hW => ⟨⟨(1 : Int32), (), rfl, hw, by rw [ht]; exact hP, va_K.moved hW.alike hK, hD⟩, hS.F ht⟩) hS.2.2 dX11_within_15
abbrev w_X12_isSet (cy : Nat → ClassId) : va_W := []
def wp_X12_isSet (v0 : Int32) (v1 : Int32) (post : Int32 → Prop) : Prop :=
  (v0 = 0 → wp_X12_in (v1.toInt64) (0 : Int64) (999999 : Int64) (fun r2 => isB r2 ∧ post r2)) ∧ (v0 = 1 → wp_X12_in (v1.toInt64) (2 : Int64) (128 : Int64) (fun r5 => isB r5 ∧ post r5)) ∧ (v0 = 2 → wp_X12_in (v1.toInt64) (0 : Int64) (1 : Int64) (fun r8 => isB r8 ∧ post r8)) ∧ (v0 = 3 → wp_X12_in (v1.toInt64) (0 : Int64) (1 : Int64) (fun r11 => isB r11 ∧ post r11)) ∧ (v0 = 4 → wp_X12_in (v1.toInt64) (1 : Int64) (16 : Int64) (fun r14 => isB r14 ∧ post r14)) ∧ (v0 = 5 → wp_X12_in (v1.toInt64) (0 : Int64) (100 : Int64) (fun r17 => isB r17 ∧ post r17)) ∧ (v0 = 6 → wp_X12_in (v1.toInt64) (-50 : Int64) (50 : Int64) (fun r20 => isB r20 ∧ post r20)) ∧ (v0 = 7 → wp_X12_in (v1.toInt64) (1 : Int64) (6 : Int64) (fun r23 => isB r23 ∧ post r23)) ∧ (v0 = 8 → wp_X12_in (v1.toInt64) (10 : Int64) (80 : Int64) (fun r26 => isB r26 ∧ post r26)) ∧ (v0 = 9 → wp_X12_in (v1.toInt64) (0 : Int64) (1 : Int64) (fun r29 => isB r29 ∧ post r29)) ∧ (v0 = 10 → wp_X12_in (v1.toInt64) (0 : Int64) (1000 : Int64) (fun r32 => isB r32 ∧ post r32)) ∧ (¬ v0 = 0 → ¬ v0 = 1 → ¬ v0 = 2 → ¬ v0 = 3 → ¬ v0 = 4 → ¬ v0 = 5 → ¬ v0 = 6 → ¬ v0 = 7 → ¬ v0 = 8 → ¬ v0 = 9 → ¬ v0 = 10 → post (0 : Int32))
set_option maxHeartbeats 4000000 in
set_option maxRecDepth 100000 in
theorem c_X12_isSet (l : Launch) (dC : Nat → ClassId) (dI : Nat → Nat → Nat) (cy : Nat → ClassId) (sz : Nat) (v0 : Int32) (v1 : Int32) (post : Int32 → Prop) (hw : wp_X12_isSet v0 v1 post) : Met l yX12_isSet wsX12_isSet ({ frames := 1, cells := 0, slots := 0, locals := 25 }) (PX dC dI cy [.int v0, .int v1] sz (w_X12_isSet cy)) (va_Qi (fun (r : Int32) (u : Unit) => post r) (QX dC dI cy (va_A (w_X12_isSet cy) sz) (fun (u : Unit) => w_X12_isSet cy)) (va_A (w_X12_isSet cy) sz)) 0 0 (va_A (w_X12_isSet cy) sz) := by
  refine Met.ofW (cc := cX12_isSet) (maxL := 2) (ret := (some .boolean)) (by decide) rfl ?_
  intro p e s m args below meth c s₁ B hml hv
  obtain ⟨rfl, hsz, hP, hK, hD0, hG⟩ := hv
  have hx := B.exec
  have hb := B.bytes
  have hr := B.returns
  have hts := atoms_spec (ws := wsX12_isSet) B.pre
  have hown : s.vm.findClass RX12 = some m.cls := findClass_of_methodNamed B.named
  have hlocks := B.notSynchronized
  subst hsz
  have hD := hD0.self (sz := s.heap.size)
  generalize hAe : va_A (w_X12_isSet cy) s.heap.size = A at hD ⊢
  have hA : ∀ q : Nat, s.heap.size ≤ q → A q := fun q h => by rw [← hAe]; exact Or.inr h
  have hS : va_S A s.heap s.heap [] := va_S.rf
  have hl := lv_entry ([.int v0, .int v1]) (n := 2) (Nat.le_of_ble_eq_true rfl)
  rw [lg_entry_eq]
  generalize (lg_sl ([.int v0, .int v1]) ++ List.replicate (2 - (lg_sl ([.int v0, .int v1])).length) Slot.unset).toArray = ls at hl ⊢
  have hl : lv_has ls 2 [(0, .int v0), (1, .int v1)] := hl
  clear hAe hD0 B
  unfold wp_X12_isSet at hw
  generalize hQe : MQ below _ _ s _ _ _ = Q0
  generalize ([.int v0, .int v1] : List Value).toArray = av at *
  obtain ⟨H, hH⟩ : ∃ H, H = s.heap := ⟨_, rfl⟩
  obtain ⟨locs, hlo⟩ : ∃ L : List Loc, L = [] := ⟨_, rfl⟩
  have hP : va_P (dC, dI) vwCl (w_X12_isSet cy) H := by rw [hH]; exact hP
  have hS : va_S A s.heap H locs := by rw [hH, hlo]; exact hS
  suffices hgo : W p l e ({ frames := 1, cells := 0, slots := 0, locals := 25 }) s m av below meth c H locs 0 0 Q0 (F0 m 0 ls []) by rw [hH, hlo] at hgo; exact hgo
  clear hH hlo
  refine lv_iload_n hx hb dX12_isSet_0 rfl (lv_at hl 0 rfl) ?_
  by_cases c1 : v0 = 0
  · replace hw := hw.1 c1
    refine lv_tableIn (tgt := 60) hx hb dX12_isSet_1 (by rw [c1]; decide) (by rw [c1]; decide) (by rw [c1]; rfl) (by decide) ?_
    refine lv_iload_n hx hb dX12_isSet_60 rfl (lv_at hl 1 rfl) ?_
    refine lv_i2l (v := v1.toInt64) hx hb dX12_isSet_61 rfl ?_
    refine lv_lconst (v := 0) hx hb dX12_isSet_62 (by decide) ?_
    refine lv_ldc2 (v := 999999) hx hb hown (hts _ (List.mem_cons_of_mem _ mw_222)) dX12_isSet_63 ?_
    have hPc := pSub (ws' := (w_X12_in cy)) hP [] rfl
    have hDc := dSub (ws' := (w_X12_in cy)) hD [] (by decide) rfl
    have hFc := va_free (wc := (w_X12_in cy)) hD hS hA [] rfl
    refine va_calli (va_runS (As := [.long (v1.toInt64), .long (0 : Int64), .long (999999 : Int64)]) (rest := []) ⟨hx, hb, hml, hown, hts⟩ (c_X12_in l dC dI cy  H.size (v1.toInt64) (0 : Int64) (999999 : Int64) _ hw) (va_cwS 3 hts (goodS mw_207 mw_205 mw_206 mw_5) rfl rfl rfl (by decide +kernel) ⟨Nat.le_of_ble_eq_true rfl, Nat.le_of_ble_eq_true rfl⟩) ⟨PX_blind, PX_pre hPc hK hDc hG⟩ rfl rfl hl.1 rfl (lv_room (Nat.le_of_ble_eq_true rfl)) dX12_isSet_66 ⟨Nat.zero_le _, Nat.zero_le _⟩) hS (fun q _ h => hFc q h) hFc (fun r2 _ t H locs ht hvm hw hB hz1 hk1 hS => ?_)
    obtain ⟨hP1, -, -⟩ := hB
    rw [ht] at hP1
    obtain ⟨hP, hD⟩ := jI hP hD [] rfl rfl hk1 hP1
    have hP : va_P (dC, dI) vwCl (w_X12_isSet cy) H := hP
    have hD : va_D A (w_X12_isSet cy) := hD
    clear hPc hDc hFc hP1 hk1 hz1 hvm ht
    refine W.widen (k := 0) (n := 0) (Nat.le_refl 0) (Nat.le_refl 0) ?_
    obtain ⟨h3, hw⟩ := hw
    subst hQe
    exact W.zret (v := r2) hx hb hr h3 (fun t ht hW => ⟨⟨r2, (), rfl, hw, by rw [ht]; exact hP, va_K.moved hW.alike hK, hD⟩, hS.F ht⟩) hS.2.2 dX12_isSet_69
  · skip
    by_cases c4 : v0 = 1
    · replace hw := hw.2.1 c4
      refine lv_tableIn (tgt := 70) hx hb dX12_isSet_1 (by rw [c4]; decide) (by rw [c4]; decide) (by rw [c4]; rfl) (by decide) ?_
      refine lv_iload_n hx hb dX12_isSet_70 rfl (lv_at hl 1 rfl) ?_
      refine lv_i2l (v := v1.toInt64) hx hb dX12_isSet_71 rfl ?_
      refine lv_ldc2 (v := 2) hx hb hown (hts _ (List.mem_cons_of_mem _ mw_201)) dX12_isSet_72 ?_
      refine lv_ldc2 (v := 128) hx hb hown (hts _ (List.mem_cons_of_mem _ mw_223)) dX12_isSet_75 ?_
      have hPc := pSub (ws' := (w_X12_in cy)) hP [] rfl
      have hDc := dSub (ws' := (w_X12_in cy)) hD [] (by decide) rfl
      have hFc := va_free (wc := (w_X12_in cy)) hD hS hA [] rfl
      refine va_calli (va_runS (As := [.long (v1.toInt64), .long (2 : Int64), .long (128 : Int64)]) (rest := []) ⟨hx, hb, hml, hown, hts⟩ (c_X12_in l dC dI cy  H.size (v1.toInt64) (2 : Int64) (128 : Int64) _ hw) (va_cwS 3 hts (goodS mw_207 mw_205 mw_206 mw_5) rfl rfl rfl (by decide +kernel) ⟨Nat.le_of_ble_eq_true rfl, Nat.le_of_ble_eq_true rfl⟩) ⟨PX_blind, PX_pre hPc hK hDc hG⟩ rfl rfl hl.1 rfl (lv_room (Nat.le_of_ble_eq_true rfl)) dX12_isSet_78 ⟨Nat.zero_le _, Nat.zero_le _⟩) hS (fun q _ h => hFc q h) hFc (fun r5 _ t H locs ht hvm hw hB hz1 hk1 hS => ?_)
      obtain ⟨hP1, -, -⟩ := hB
      rw [ht] at hP1
      obtain ⟨hP, hD⟩ := jI hP hD [] rfl rfl hk1 hP1
      have hP : va_P (dC, dI) vwCl (w_X12_isSet cy) H := hP
      have hD : va_D A (w_X12_isSet cy) := hD
      clear hPc hDc hFc hP1 hk1 hz1 hvm ht
      refine W.widen (k := 0) (n := 0) (Nat.le_refl 0) (Nat.le_refl 0) ?_
      obtain ⟨h6, hw⟩ := hw
      subst hQe
      exact W.zret (v := r5) hx hb hr h6 (fun t ht hW => ⟨⟨r5, (), rfl, hw, by rw [ht]; exact hP, va_K.moved hW.alike hK, hD⟩, hS.F ht⟩) hS.2.2 dX12_isSet_81
    · skip
      by_cases c7 : v0 = 2
      · replace hw := hw.2.2.1 c7
        refine lv_tableIn (tgt := 82) hx hb dX12_isSet_1 (by rw [c7]; decide) (by rw [c7]; decide) (by rw [c7]; rfl) (by decide) ?_
        refine lv_iload_n hx hb dX12_isSet_82 rfl (lv_at hl 1 rfl) ?_
        refine lv_i2l (v := v1.toInt64) hx hb dX12_isSet_83 rfl ?_
        refine lv_lconst (v := 0) hx hb dX12_isSet_84 (by decide) ?_
        refine lv_lconst (v := 1) hx hb dX12_isSet_85 (by decide) ?_
        have hPc := pSub (ws' := (w_X12_in cy)) hP [] rfl
        have hDc := dSub (ws' := (w_X12_in cy)) hD [] (by decide) rfl
        have hFc := va_free (wc := (w_X12_in cy)) hD hS hA [] rfl
        refine va_calli (va_runS (As := [.long (v1.toInt64), .long (0 : Int64), .long (1 : Int64)]) (rest := []) ⟨hx, hb, hml, hown, hts⟩ (c_X12_in l dC dI cy  H.size (v1.toInt64) (0 : Int64) (1 : Int64) _ hw) (va_cwS 3 hts (goodS mw_207 mw_205 mw_206 mw_5) rfl rfl rfl (by decide +kernel) ⟨Nat.le_of_ble_eq_true rfl, Nat.le_of_ble_eq_true rfl⟩) ⟨PX_blind, PX_pre hPc hK hDc hG⟩ rfl rfl hl.1 rfl (lv_room (Nat.le_of_ble_eq_true rfl)) dX12_isSet_86 ⟨Nat.zero_le _, Nat.zero_le _⟩) hS (fun q _ h => hFc q h) hFc (fun r8 _ t H locs ht hvm hw hB hz1 hk1 hS => ?_)
        obtain ⟨hP1, -, -⟩ := hB
        rw [ht] at hP1
        obtain ⟨hP, hD⟩ := jI hP hD [] rfl rfl hk1 hP1
        have hP : va_P (dC, dI) vwCl (w_X12_isSet cy) H := hP
        have hD : va_D A (w_X12_isSet cy) := hD
        clear hPc hDc hFc hP1 hk1 hz1 hvm ht
        refine W.widen (k := 0) (n := 0) (Nat.le_refl 0) (Nat.le_refl 0) ?_
        obtain ⟨h9, hw⟩ := hw
        subst hQe
        exact W.zret (v := r8) hx hb hr h9 (fun t ht hW => ⟨⟨r8, (), rfl, hw, by rw [ht]; exact hP, va_K.moved hW.alike hK, hD⟩, hS.F ht⟩) hS.2.2 dX12_isSet_89
      · skip
        by_cases c10 : v0 = 3
        · replace hw := hw.2.2.2.1 c10
          refine lv_tableIn (tgt := 82) hx hb dX12_isSet_1 (by rw [c10]; decide) (by rw [c10]; decide) (by rw [c10]; rfl) (by decide) ?_
          refine lv_iload_n hx hb dX12_isSet_82 rfl (lv_at hl 1 rfl) ?_
          refine lv_i2l (v := v1.toInt64) hx hb dX12_isSet_83 rfl ?_
          refine lv_lconst (v := 0) hx hb dX12_isSet_84 (by decide) ?_
          refine lv_lconst (v := 1) hx hb dX12_isSet_85 (by decide) ?_
          have hPc := pSub (ws' := (w_X12_in cy)) hP [] rfl
          have hDc := dSub (ws' := (w_X12_in cy)) hD [] (by decide) rfl
          have hFc := va_free (wc := (w_X12_in cy)) hD hS hA [] rfl
          refine va_calli (va_runS (As := [.long (v1.toInt64), .long (0 : Int64), .long (1 : Int64)]) (rest := []) ⟨hx, hb, hml, hown, hts⟩ (c_X12_in l dC dI cy  H.size (v1.toInt64) (0 : Int64) (1 : Int64) _ hw) (va_cwS 3 hts (goodS mw_207 mw_205 mw_206 mw_5) rfl rfl rfl (by decide +kernel) ⟨Nat.le_of_ble_eq_true rfl, Nat.le_of_ble_eq_true rfl⟩) ⟨PX_blind, PX_pre hPc hK hDc hG⟩ rfl rfl hl.1 rfl (lv_room (Nat.le_of_ble_eq_true rfl)) dX12_isSet_86 ⟨Nat.zero_le _, Nat.zero_le _⟩) hS (fun q _ h => hFc q h) hFc (fun r11 _ t H locs ht hvm hw hB hz1 hk1 hS => ?_)
          obtain ⟨hP1, -, -⟩ := hB
          rw [ht] at hP1
          obtain ⟨hP, hD⟩ := jI hP hD [] rfl rfl hk1 hP1
          have hP : va_P (dC, dI) vwCl (w_X12_isSet cy) H := hP
          have hD : va_D A (w_X12_isSet cy) := hD
          clear hPc hDc hFc hP1 hk1 hz1 hvm ht
          refine W.widen (k := 0) (n := 0) (Nat.le_refl 0) (Nat.le_refl 0) ?_
          obtain ⟨h12, hw⟩ := hw
          subst hQe
          exact W.zret (v := r11) hx hb hr h12 (fun t ht hW => ⟨⟨r11, (), rfl, hw, by rw [ht]; exact hP, va_K.moved hW.alike hK, hD⟩, hS.F ht⟩) hS.2.2 dX12_isSet_89
        · skip
          by_cases c13 : v0 = 4
          · replace hw := hw.2.2.2.2.1 c13
            refine lv_tableIn (tgt := 90) hx hb dX12_isSet_1 (by rw [c13]; decide) (by rw [c13]; decide) (by rw [c13]; rfl) (by decide) ?_
            refine lv_iload_n hx hb dX12_isSet_90 rfl (lv_at hl 1 rfl) ?_
            refine lv_i2l (v := v1.toInt64) hx hb dX12_isSet_91 rfl ?_
            refine lv_lconst (v := 1) hx hb dX12_isSet_92 (by decide) ?_
            refine lv_ldc2 (v := 16) hx hb hown (hts _ (List.mem_cons_of_mem _ mw_224)) dX12_isSet_93 ?_
            have hPc := pSub (ws' := (w_X12_in cy)) hP [] rfl
            have hDc := dSub (ws' := (w_X12_in cy)) hD [] (by decide) rfl
            have hFc := va_free (wc := (w_X12_in cy)) hD hS hA [] rfl
            refine va_calli (va_runS (As := [.long (v1.toInt64), .long (1 : Int64), .long (16 : Int64)]) (rest := []) ⟨hx, hb, hml, hown, hts⟩ (c_X12_in l dC dI cy  H.size (v1.toInt64) (1 : Int64) (16 : Int64) _ hw) (va_cwS 3 hts (goodS mw_207 mw_205 mw_206 mw_5) rfl rfl rfl (by decide +kernel) ⟨Nat.le_of_ble_eq_true rfl, Nat.le_of_ble_eq_true rfl⟩) ⟨PX_blind, PX_pre hPc hK hDc hG⟩ rfl rfl hl.1 rfl (lv_room (Nat.le_of_ble_eq_true rfl)) dX12_isSet_96 ⟨Nat.zero_le _, Nat.zero_le _⟩) hS (fun q _ h => hFc q h) hFc (fun r14 _ t H locs ht hvm hw hB hz1 hk1 hS => ?_)
            obtain ⟨hP1, -, -⟩ := hB
            rw [ht] at hP1
            obtain ⟨hP, hD⟩ := jI hP hD [] rfl rfl hk1 hP1
            have hP : va_P (dC, dI) vwCl (w_X12_isSet cy) H := hP
            have hD : va_D A (w_X12_isSet cy) := hD
            clear hPc hDc hFc hP1 hk1 hz1 hvm ht
            refine W.widen (k := 0) (n := 0) (Nat.le_refl 0) (Nat.le_refl 0) ?_
            obtain ⟨h15, hw⟩ := hw
            subst hQe
            exact W.zret (v := r14) hx hb hr h15 (fun t ht hW => ⟨⟨r14, (), rfl, hw, by rw [ht]; exact hP, va_K.moved hW.alike hK, hD⟩, hS.F ht⟩) hS.2.2 dX12_isSet_99
          · skip
            by_cases c16 : v0 = 5
            · replace hw := hw.2.2.2.2.2.1 c16
              refine lv_tableIn (tgt := 100) hx hb dX12_isSet_1 (by rw [c16]; decide) (by rw [c16]; decide) (by rw [c16]; rfl) (by decide) ?_
              refine lv_iload_n hx hb dX12_isSet_100 rfl (lv_at hl 1 rfl) ?_
              refine lv_i2l (v := v1.toInt64) hx hb dX12_isSet_101 rfl ?_
              refine lv_lconst (v := 0) hx hb dX12_isSet_102 (by decide) ?_
              refine lv_ldc2 (v := 100) hx hb hown (hts _ (List.mem_cons_of_mem _ mw_225)) dX12_isSet_103 ?_
              have hPc := pSub (ws' := (w_X12_in cy)) hP [] rfl
              have hDc := dSub (ws' := (w_X12_in cy)) hD [] (by decide) rfl
              have hFc := va_free (wc := (w_X12_in cy)) hD hS hA [] rfl
              refine va_calli (va_runS (As := [.long (v1.toInt64), .long (0 : Int64), .long (100 : Int64)]) (rest := []) ⟨hx, hb, hml, hown, hts⟩ (c_X12_in l dC dI cy  H.size (v1.toInt64) (0 : Int64) (100 : Int64) _ hw) (va_cwS 3 hts (goodS mw_207 mw_205 mw_206 mw_5) rfl rfl rfl (by decide +kernel) ⟨Nat.le_of_ble_eq_true rfl, Nat.le_of_ble_eq_true rfl⟩) ⟨PX_blind, PX_pre hPc hK hDc hG⟩ rfl rfl hl.1 rfl (lv_room (Nat.le_of_ble_eq_true rfl)) dX12_isSet_106 ⟨Nat.zero_le _, Nat.zero_le _⟩) hS (fun q _ h => hFc q h) hFc (fun r17 _ t H locs ht hvm hw hB hz1 hk1 hS => ?_)
              obtain ⟨hP1, -, -⟩ := hB
              rw [ht] at hP1
              obtain ⟨hP, hD⟩ := jI hP hD [] rfl rfl hk1 hP1
              have hP : va_P (dC, dI) vwCl (w_X12_isSet cy) H := hP
              have hD : va_D A (w_X12_isSet cy) := hD
              clear hPc hDc hFc hP1 hk1 hz1 hvm ht
              refine W.widen (k := 0) (n := 0) (Nat.le_refl 0) (Nat.le_refl 0) ?_
              obtain ⟨h18, hw⟩ := hw
              subst hQe
              exact W.zret (v := r17) hx hb hr h18 (fun t ht hW => ⟨⟨r17, (), rfl, hw, by rw [ht]; exact hP, va_K.moved hW.alike hK, hD⟩, hS.F ht⟩) hS.2.2 dX12_isSet_109
            · skip
              by_cases c19 : v0 = 6
              · replace hw := hw.2.2.2.2.2.2.1 c19
                refine lv_tableIn (tgt := 110) hx hb dX12_isSet_1 (by rw [c19]; decide) (by rw [c19]; decide) (by rw [c19]; rfl) (by decide) ?_
                refine lv_iload_n hx hb dX12_isSet_110 rfl (lv_at hl 1 rfl) ?_
                refine lv_i2l (v := v1.toInt64) hx hb dX12_isSet_111 rfl ?_
                refine lv_ldc2 (v := -50) hx hb hown (hts _ (List.mem_cons_of_mem _ mw_226)) dX12_isSet_112 ?_
                refine lv_ldc2 (v := 50) hx hb hown (hts _ (List.mem_cons_of_mem _ mw_227)) dX12_isSet_115 ?_
                have hPc := pSub (ws' := (w_X12_in cy)) hP [] rfl
                have hDc := dSub (ws' := (w_X12_in cy)) hD [] (by decide) rfl
                have hFc := va_free (wc := (w_X12_in cy)) hD hS hA [] rfl
                refine va_calli (va_runS (As := [.long (v1.toInt64), .long (-50 : Int64), .long (50 : Int64)]) (rest := []) ⟨hx, hb, hml, hown, hts⟩ (c_X12_in l dC dI cy  H.size (v1.toInt64) (-50 : Int64) (50 : Int64) _ hw) (va_cwS 3 hts (goodS mw_207 mw_205 mw_206 mw_5) rfl rfl rfl (by decide +kernel) ⟨Nat.le_of_ble_eq_true rfl, Nat.le_of_ble_eq_true rfl⟩) ⟨PX_blind, PX_pre hPc hK hDc hG⟩ rfl rfl hl.1 rfl (lv_room (Nat.le_of_ble_eq_true rfl)) dX12_isSet_118 ⟨Nat.zero_le _, Nat.zero_le _⟩) hS (fun q _ h => hFc q h) hFc (fun r20 _ t H locs ht hvm hw hB hz1 hk1 hS => ?_)
                obtain ⟨hP1, -, -⟩ := hB
                rw [ht] at hP1
                obtain ⟨hP, hD⟩ := jI hP hD [] rfl rfl hk1 hP1
                have hP : va_P (dC, dI) vwCl (w_X12_isSet cy) H := hP
                have hD : va_D A (w_X12_isSet cy) := hD
                clear hPc hDc hFc hP1 hk1 hz1 hvm ht
                refine W.widen (k := 0) (n := 0) (Nat.le_refl 0) (Nat.le_refl 0) ?_
                obtain ⟨h21, hw⟩ := hw
                subst hQe
                exact W.zret (v := r20) hx hb hr h21 (fun t ht hW => ⟨⟨r20, (), rfl, hw, by rw [ht]; exact hP, va_K.moved hW.alike hK, hD⟩, hS.F ht⟩) hS.2.2 dX12_isSet_121
              · skip
                by_cases c22 : v0 = 7
                · replace hw := hw.2.2.2.2.2.2.2.1 c22
                  refine lv_tableIn (tgt := 122) hx hb dX12_isSet_1 (by rw [c22]; decide) (by rw [c22]; decide) (by rw [c22]; rfl) (by decide) ?_
                  refine lv_iload_n hx hb dX12_isSet_122 rfl (lv_at hl 1 rfl) ?_
                  refine lv_i2l (v := v1.toInt64) hx hb dX12_isSet_123 rfl ?_
                  refine lv_lconst (v := 1) hx hb dX12_isSet_124 (by decide) ?_
                  refine lv_ldc2 (v := 6) hx hb hown (hts _ (List.mem_cons_of_mem _ mw_228)) dX12_isSet_125 ?_
                  have hPc := pSub (ws' := (w_X12_in cy)) hP [] rfl
                  have hDc := dSub (ws' := (w_X12_in cy)) hD [] (by decide) rfl
                  have hFc := va_free (wc := (w_X12_in cy)) hD hS hA [] rfl
                  refine va_calli (va_runS (As := [.long (v1.toInt64), .long (1 : Int64), .long (6 : Int64)]) (rest := []) ⟨hx, hb, hml, hown, hts⟩ (c_X12_in l dC dI cy  H.size (v1.toInt64) (1 : Int64) (6 : Int64) _ hw) (va_cwS 3 hts (goodS mw_207 mw_205 mw_206 mw_5) rfl rfl rfl (by decide +kernel) ⟨Nat.le_of_ble_eq_true rfl, Nat.le_of_ble_eq_true rfl⟩) ⟨PX_blind, PX_pre hPc hK hDc hG⟩ rfl rfl hl.1 rfl (lv_room (Nat.le_of_ble_eq_true rfl)) dX12_isSet_128 ⟨Nat.zero_le _, Nat.zero_le _⟩) hS (fun q _ h => hFc q h) hFc (fun r23 _ t H locs ht hvm hw hB hz1 hk1 hS => ?_)
                  obtain ⟨hP1, -, -⟩ := hB
                  rw [ht] at hP1
                  obtain ⟨hP, hD⟩ := jI hP hD [] rfl rfl hk1 hP1
                  have hP : va_P (dC, dI) vwCl (w_X12_isSet cy) H := hP
                  have hD : va_D A (w_X12_isSet cy) := hD
                  clear hPc hDc hFc hP1 hk1 hz1 hvm ht
                  refine W.widen (k := 0) (n := 0) (Nat.le_refl 0) (Nat.le_refl 0) ?_
                  obtain ⟨h24, hw⟩ := hw
                  subst hQe
                  exact W.zret (v := r23) hx hb hr h24 (fun t ht hW => ⟨⟨r23, (), rfl, hw, by rw [ht]; exact hP, va_K.moved hW.alike hK, hD⟩, hS.F ht⟩) hS.2.2 dX12_isSet_131
                · skip
                  by_cases c25 : v0 = 8
                  · replace hw := hw.2.2.2.2.2.2.2.2.1 c25
                    refine lv_tableIn (tgt := 132) hx hb dX12_isSet_1 (by rw [c25]; decide) (by rw [c25]; decide) (by rw [c25]; rfl) (by decide) ?_
                    refine lv_iload_n hx hb dX12_isSet_132 rfl (lv_at hl 1 rfl) ?_
                    refine lv_i2l (v := v1.toInt64) hx hb dX12_isSet_133 rfl ?_
                    refine lv_ldc2 (v := 10) hx hb hown (hts _ (List.mem_cons_of_mem _ mw_229)) dX12_isSet_134 ?_
                    refine lv_ldc2 (v := 80) hx hb hown (hts _ (List.mem_cons_of_mem _ mw_230)) dX12_isSet_137 ?_
                    have hPc := pSub (ws' := (w_X12_in cy)) hP [] rfl
                    have hDc := dSub (ws' := (w_X12_in cy)) hD [] (by decide) rfl
                    have hFc := va_free (wc := (w_X12_in cy)) hD hS hA [] rfl
                    refine va_calli (va_runS (As := [.long (v1.toInt64), .long (10 : Int64), .long (80 : Int64)]) (rest := []) ⟨hx, hb, hml, hown, hts⟩ (c_X12_in l dC dI cy  H.size (v1.toInt64) (10 : Int64) (80 : Int64) _ hw) (va_cwS 3 hts (goodS mw_207 mw_205 mw_206 mw_5) rfl rfl rfl (by decide +kernel) ⟨Nat.le_of_ble_eq_true rfl, Nat.le_of_ble_eq_true rfl⟩) ⟨PX_blind, PX_pre hPc hK hDc hG⟩ rfl rfl hl.1 rfl (lv_room (Nat.le_of_ble_eq_true rfl)) dX12_isSet_140 ⟨Nat.zero_le _, Nat.zero_le _⟩) hS (fun q _ h => hFc q h) hFc (fun r26 _ t H locs ht hvm hw hB hz1 hk1 hS => ?_)
                    obtain ⟨hP1, -, -⟩ := hB
                    rw [ht] at hP1
                    obtain ⟨hP, hD⟩ := jI hP hD [] rfl rfl hk1 hP1
                    have hP : va_P (dC, dI) vwCl (w_X12_isSet cy) H := hP
                    have hD : va_D A (w_X12_isSet cy) := hD
                    clear hPc hDc hFc hP1 hk1 hz1 hvm ht
                    refine W.widen (k := 0) (n := 0) (Nat.le_refl 0) (Nat.le_refl 0) ?_
                    obtain ⟨h27, hw⟩ := hw
                    subst hQe
                    exact W.zret (v := r26) hx hb hr h27 (fun t ht hW => ⟨⟨r26, (), rfl, hw, by rw [ht]; exact hP, va_K.moved hW.alike hK, hD⟩, hS.F ht⟩) hS.2.2 dX12_isSet_143
                  · skip
                    by_cases c28 : v0 = 9
                    · replace hw := hw.2.2.2.2.2.2.2.2.2.1 c28
                      refine lv_tableIn (tgt := 82) hx hb dX12_isSet_1 (by rw [c28]; decide) (by rw [c28]; decide) (by rw [c28]; rfl) (by decide) ?_
                      refine lv_iload_n hx hb dX12_isSet_82 rfl (lv_at hl 1 rfl) ?_
                      refine lv_i2l (v := v1.toInt64) hx hb dX12_isSet_83 rfl ?_
                      refine lv_lconst (v := 0) hx hb dX12_isSet_84 (by decide) ?_
                      refine lv_lconst (v := 1) hx hb dX12_isSet_85 (by decide) ?_
                      have hPc := pSub (ws' := (w_X12_in cy)) hP [] rfl
                      have hDc := dSub (ws' := (w_X12_in cy)) hD [] (by decide) rfl
                      have hFc := va_free (wc := (w_X12_in cy)) hD hS hA [] rfl
                      refine va_calli (va_runS (As := [.long (v1.toInt64), .long (0 : Int64), .long (1 : Int64)]) (rest := []) ⟨hx, hb, hml, hown, hts⟩ (c_X12_in l dC dI cy  H.size (v1.toInt64) (0 : Int64) (1 : Int64) _ hw) (va_cwS 3 hts (goodS mw_207 mw_205 mw_206 mw_5) rfl rfl rfl (by decide +kernel) ⟨Nat.le_of_ble_eq_true rfl, Nat.le_of_ble_eq_true rfl⟩) ⟨PX_blind, PX_pre hPc hK hDc hG⟩ rfl rfl hl.1 rfl (lv_room (Nat.le_of_ble_eq_true rfl)) dX12_isSet_86 ⟨Nat.zero_le _, Nat.zero_le _⟩) hS (fun q _ h => hFc q h) hFc (fun r29 _ t H locs ht hvm hw hB hz1 hk1 hS => ?_)
                      obtain ⟨hP1, -, -⟩ := hB
                      rw [ht] at hP1
                      obtain ⟨hP, hD⟩ := jI hP hD [] rfl rfl hk1 hP1
                      have hP : va_P (dC, dI) vwCl (w_X12_isSet cy) H := hP
                      have hD : va_D A (w_X12_isSet cy) := hD
                      clear hPc hDc hFc hP1 hk1 hz1 hvm ht
                      refine W.widen (k := 0) (n := 0) (Nat.le_refl 0) (Nat.le_refl 0) ?_
                      obtain ⟨h30, hw⟩ := hw
                      subst hQe
                      exact W.zret (v := r29) hx hb hr h30 (fun t ht hW => ⟨⟨r29, (), rfl, hw, by rw [ht]; exact hP, va_K.moved hW.alike hK, hD⟩, hS.F ht⟩) hS.2.2 dX12_isSet_89
                    · skip
                      by_cases c31 : v0 = 10
                      · replace hw := hw.2.2.2.2.2.2.2.2.2.2.1 c31
                        refine lv_tableIn (tgt := 144) hx hb dX12_isSet_1 (by rw [c31]; decide) (by rw [c31]; decide) (by rw [c31]; rfl) (by decide) ?_
                        refine lv_iload_n hx hb dX12_isSet_144 rfl (lv_at hl 1 rfl) ?_
                        refine lv_i2l (v := v1.toInt64) hx hb dX12_isSet_145 rfl ?_
                        refine lv_lconst (v := 0) hx hb dX12_isSet_146 (by decide) ?_
                        refine lv_ldc2 (v := 1000) hx hb hown (hts _ (List.mem_cons_of_mem _ mw_231)) dX12_isSet_147 ?_
                        have hPc := pSub (ws' := (w_X12_in cy)) hP [] rfl
                        have hDc := dSub (ws' := (w_X12_in cy)) hD [] (by decide) rfl
                        have hFc := va_free (wc := (w_X12_in cy)) hD hS hA [] rfl
                        refine va_calli (va_runS (As := [.long (v1.toInt64), .long (0 : Int64), .long (1000 : Int64)]) (rest := []) ⟨hx, hb, hml, hown, hts⟩ (c_X12_in l dC dI cy  H.size (v1.toInt64) (0 : Int64) (1000 : Int64) _ hw) (va_cwS 3 hts (goodS mw_207 mw_205 mw_206 mw_5) rfl rfl rfl (by decide +kernel) ⟨Nat.le_of_ble_eq_true rfl, Nat.le_of_ble_eq_true rfl⟩) ⟨PX_blind, PX_pre hPc hK hDc hG⟩ rfl rfl hl.1 rfl (lv_room (Nat.le_of_ble_eq_true rfl)) dX12_isSet_150 ⟨Nat.zero_le _, Nat.zero_le _⟩) hS (fun q _ h => hFc q h) hFc (fun r32 _ t H locs ht hvm hw hB hz1 hk1 hS => ?_)
                        obtain ⟨hP1, -, -⟩ := hB
                        rw [ht] at hP1
                        obtain ⟨hP, hD⟩ := jI hP hD [] rfl rfl hk1 hP1
                        have hP : va_P (dC, dI) vwCl (w_X12_isSet cy) H := hP
                        have hD : va_D A (w_X12_isSet cy) := hD
                        clear hPc hDc hFc hP1 hk1 hz1 hvm ht
                        refine W.widen (k := 0) (n := 0) (Nat.le_refl 0) (Nat.le_refl 0) ?_
                        obtain ⟨h33, hw⟩ := hw
                        subst hQe
                        exact W.zret (v := r32) hx hb hr h33 (fun t ht hW => ⟨⟨r32, (), rfl, hw, by rw [ht]; exact hP, va_K.moved hW.alike hK, hD⟩, hS.F ht⟩) hS.2.2 dX12_isSet_153
                      · skip
                        replace hw := hw.2.2.2.2.2.2.2.2.2.2.2 c1 c4 c7 c10 c13 c16 c19 c22 c25 c28 c31
                        refine lv_tableOut (tgt := 154) hx hb dX12_isSet_1 (by have e0 := sw_ne (n := 0) c1 (by decide); have e1 := sw_ne (n := 1) c4 (by decide); have e2 := sw_ne (n := 2) c7 (by decide); have e3 := sw_ne (n := 3) c10 (by decide); have e4 := sw_ne (n := 4) c13 (by decide); have e5 := sw_ne (n := 5) c16 (by decide); have e6 := sw_ne (n := 6) c19 (by decide); have e7 := sw_ne (n := 7) c22 (by decide); have e8 := sw_ne (n := 8) c25 (by decide); have e9 := sw_ne (n := 9) c28 (by decide); have e10 := sw_ne (n := 10) c31 (by decide); omega) (by decide) ?_
                        refine lv_iconst (v := 0) hx hb dX12_isSet_154 (by decide) ?_
                        subst hQe
                        exact W.zret (v := (0 : Int32)) hx hb hr isB_0 (fun t ht hW => ⟨⟨(0 : Int32), (), rfl, hw, by rw [ht]; exact hP, va_K.moved hW.alike hK, hD⟩, hS.F ht⟩) hS.2.2 dX12_isSet_155
abbrev w_X12_sets (h0 h_row h_kept h_isKept h_aside h_eight h_rows h_scales h_dealt h_bytes h_heardRow h_made h_comes h_backs h_fresh : Nat) (cy : Nat → ClassId) (c_thrown : Int32) (c_nodeS : Int32) (c_nodeD : Int32) (c_pairE : Int32) (c_pairO : Int32) (c_bit : Int32) (c_lag : Int32) (c_lagSum : Int32) (c_row : Nat → Int32) : va_W := [(h0, .inr (12, [.int c_thrown, .ref h_row, .ref h_kept, .ref h_isKept, .ref h_aside, .int c_nodeS, .int c_nodeD, .int c_pairE, .int c_pairO, .ref h_eight, .ref h_rows, .ref h_scales, .ref h_dealt, .ref h_bytes, .int c_bit, .ref h_heardRow, .int c_lag, .int c_lagSum, .ref h_made, .ref h_comes, .ref h_backs, .ref h_fresh])), (h_row, .inl (cy 0, 13385, .inl c_row))]
def wp_X12_sets (v1 : Int32) (v2 : Int32) (c_thrown : Int32) (c_row : Nat → Int32) (post : Int32 → Int32 → (Nat → Int32) → Prop) : Prop :=
  wp_X12_isSet v1 v2 (fun r1 => (r1 = 0 → post (0 : Int32) (0 : Int32) c_row) ∧ (¬ r1 = 0 → vp_in ((6 : Int32) + v1) 13385 ∧ ∀ f4 : Nat → Int32, f4 = upd c_row ((6 : Int32) + v1).toNatClampNeg v2 → ∀ k6 : (Nat → Int32) → Prop, (∀ (f5 : (Nat → Int32)), (∀ k8 : Prop, ((∀ f12 : Nat → Int32, f12 = upd f5 43 (f5 7) → post (1 : Int32) (0 : Int32) f12) → k8) → (v1 = (1 : Int32) → k8) ∧ (¬ v1 = (1 : Int32) → (v1 = (9 : Int32) → (v2 = 0 → k8) ∧ (¬ v2 = 0 → post (1 : Int32) (0 : Int32) f5)) ∧ (¬ v1 = (9 : Int32) → post (1 : Int32) (0 : Int32) f5))) → k6 f5) → (v1 = 0 → ∀ f18 : Nat → Int32, f18 = upd f4 49 v2 → k6 f18) ∧ (¬ v1 = 0 → k6 f4)))
set_option maxHeartbeats 4000000 in
set_option maxRecDepth 100000 in
theorem c_X12_sets (l : Launch) (dC : Nat → ClassId) (dI : Nat → Nat → Nat) (cy : Nat → ClassId) (h0 h_row h_kept h_isKept h_aside h_eight h_rows h_scales h_dealt h_bytes h_heardRow h_made h_comes h_backs h_fresh : Nat) (sz : Nat) (v1 : Int32) (v2 : Int32) (c_thrown : Int32) (c_nodeS : Int32) (c_nodeD : Int32) (c_pairE : Int32) (c_pairO : Int32) (c_bit : Int32) (c_lag : Int32) (c_lagSum : Int32) (c_row : Nat → Int32) (post : Int32 → Int32 → (Nat → Int32) → Prop) (hw : wp_X12_sets v1 v2 c_thrown c_row post) : Met l yX12_sets wsX12_sets ({ frames := 2, cells := 0, slots := 0, locals := 46 }) (PX dC dI cy [.ref h0, .int v1, .int v2] sz (w_X12_sets h0 h_row h_kept h_isKept h_aside h_eight h_rows h_scales h_dealt h_bytes h_heardRow h_made h_comes h_backs h_fresh cy c_thrown c_nodeS c_nodeD c_pairE c_pairO c_bit c_lag c_lagSum c_row)) (va_Qi (fun (r : Int32) (u : Int32 × (Nat → Int32)) => post r u.1 u.2) (QX dC dI cy (va_A (w_X12_sets h0 h_row h_kept h_isKept h_aside h_eight h_rows h_scales h_dealt h_bytes h_heardRow h_made h_comes h_backs h_fresh cy c_thrown c_nodeS c_nodeD c_pairE c_pairO c_bit c_lag c_lagSum c_row) sz) (fun (u : Int32 × (Nat → Int32)) => w_X12_sets h0 h_row h_kept h_isKept h_aside h_eight h_rows h_scales h_dealt h_bytes h_heardRow h_made h_comes h_backs h_fresh cy u.1 c_nodeS c_nodeD c_pairE c_pairO c_bit c_lag c_lagSum u.2)) (va_A (w_X12_sets h0 h_row h_kept h_isKept h_aside h_eight h_rows h_scales h_dealt h_bytes h_heardRow h_made h_comes h_backs h_fresh cy c_thrown c_nodeS c_nodeD c_pairE c_pairO c_bit c_lag c_lagSum c_row) sz)) 0 0 (va_A (w_X12_sets h0 h_row h_kept h_isKept h_aside h_eight h_rows h_scales h_dealt h_bytes h_heardRow h_made h_comes h_backs h_fresh cy c_thrown c_nodeS c_nodeD c_pairE c_pairO c_bit c_lag c_lagSum c_row) sz) := by
  refine Met.ofW (cc := cX12_sets) (maxL := 3) (ret := (some .boolean)) (by decide) rfl ?_
  intro p e s m args below meth c s₁ B hml hv
  obtain ⟨rfl, hsz, hP, hK, hD0, hG⟩ := hv
  have hx := B.exec
  have hb := B.bytes
  have hr := B.returns
  have hts := atoms_spec (ws := wsX12_sets) B.pre
  have hown : s.vm.findClass RX12 = some m.cls := findClass_of_methodNamed B.named
  have hlocks := B.notSynchronized
  subst hsz
  have hD := hD0.self (sz := s.heap.size)
  generalize hAe : va_A (w_X12_sets h0 h_row h_kept h_isKept h_aside h_eight h_rows h_scales h_dealt h_bytes h_heardRow h_made h_comes h_backs h_fresh cy c_thrown c_nodeS c_nodeD c_pairE c_pairO c_bit c_lag c_lagSum c_row) s.heap.size = A at hD ⊢
  have hA : ∀ q : Nat, s.heap.size ≤ q → A q := fun q h => by rw [← hAe]; exact Or.inr h
  have hS : va_S A s.heap s.heap [] := va_S.rf
  have hl := lv_entry ([.ref h0, .int v1, .int v2]) (n := 3) (Nat.le_of_ble_eq_true rfl)
  rw [lg_entry_eq]
  generalize (lg_sl ([.ref h0, .int v1, .int v2]) ++ List.replicate (3 - (lg_sl ([.ref h0, .int v1, .int v2])).length) Slot.unset).toArray = ls at hl ⊢
  have hl : lv_has ls 3 [(0, .ref h0), (1, .int v1), (2, .int v2)] := hl
  have inX12 : ∀ w ∈ u_ws RX12 TX12 22, w ∈ wsX12_sets := fun w h => List.mem_cons_of_mem _ (inlX12 w h)
  clear hAe hD0 B
  unfold wp_X12_sets at hw
  generalize hQe : MQ below _ _ s _ _ _ = Q0
  generalize ([.ref h0, .int v1, .int v2] : List Value).toArray = av at *
  obtain ⟨H, hH⟩ : ∃ H, H = s.heap := ⟨_, rfl⟩
  obtain ⟨locs, hlo⟩ : ∃ L : List Loc, L = [] := ⟨_, rfl⟩
  have hP : va_P (dC, dI) vwCl (w_X12_sets h0 h_row h_kept h_isKept h_aside h_eight h_rows h_scales h_dealt h_bytes h_heardRow h_made h_comes h_backs h_fresh cy c_thrown c_nodeS c_nodeD c_pairE c_pairO c_bit c_lag c_lagSum c_row) H := by rw [hH]; exact hP
  have hS : va_S A s.heap H locs := by rw [hH, hlo]; exact hS
  suffices hgo : W p l e ({ frames := 2, cells := 0, slots := 0, locals := 46 }) s m av below meth c H locs 0 0 Q0 (F0 m 0 ls []) by rw [hH, hlo] at hgo; exact hgo
  clear hH hlo
  refine lv_aload_n hx hb dX12_sets_0 rfl (lv_at hl 0 rfl) ?_
  refine lv_iconst (v := 0) hx hb dX12_sets_1 (by decide) ?_
  refine va_put (D := (dC, dI)) (ci := 12) (v := .int (0 : Int32)) (ty := .int) (C := RX12) (T := TX12) (N := 22) hx hb hts inX12 tyX12 tyX12_ok nmX12 hown hK hP hD hS 0 rfl rfl 0 (by decide) (hts _ (List.mem_cons_of_mem _ mw_200)) (fun _ h9 => h9) rfl (by decide +kernel) rfl rfl (Nat.le_of_ble_eq_true rfl) dX12_sets_2 (fun H locs hP hD hS => ?_)
  have hP : va_P (dC, dI) vwCl (w_X12_sets h0 h_row h_kept h_isKept h_aside h_eight h_rows h_scales h_dealt h_bytes h_heardRow h_made h_comes h_backs h_fresh cy (0 : Int32) c_nodeS c_nodeD c_pairE c_pairO c_bit c_lag c_lagSum c_row) H := hP
  have hD : va_D A (w_X12_sets h0 h_row h_kept h_isKept h_aside h_eight h_rows h_scales h_dealt h_bytes h_heardRow h_made h_comes h_backs h_fresh cy (0 : Int32) c_nodeS c_nodeD c_pairE c_pairO c_bit c_lag c_lagSum c_row) := hD
  refine lv_iload_n hx hb dX12_sets_5 rfl (lv_at hl 1 rfl) ?_
  refine lv_iload_n hx hb dX12_sets_6 rfl (lv_at hl 2 rfl) ?_
  have hPc := pSub (ws' := (w_X12_isSet cy)) hP [] rfl
  have hDc := dSub (ws' := (w_X12_isSet cy)) hD [] (by decide) rfl
  have hFc := va_free (wc := (w_X12_isSet cy)) hD hS hA [] rfl
  refine va_calli (va_runS (As := [.int v1, .int v2]) (rest := []) ⟨hx, hb, hml, hown, hts⟩ (c_X12_isSet l dC dI cy  H.size v1 v2 _ hw) (va_cwS 2 hts (goodS mw_221 mw_219 mw_220 mw_5) rfl rfl rfl (by decide +kernel) ⟨Nat.le_of_ble_eq_true rfl, Nat.le_of_ble_eq_true rfl⟩) ⟨PX_blind, PX_pre hPc hK hDc hG⟩ rfl rfl hl.1 rfl (lv_room (Nat.le_of_ble_eq_true rfl)) dX12_sets_7 ⟨Nat.zero_le _, Nat.zero_le _⟩) hS (fun q _ h => hFc q h) hFc (fun r1 _ t H locs ht hvm hw hB hz1 hk1 hS => ?_)
  obtain ⟨hP1, -, -⟩ := hB
  rw [ht] at hP1
  obtain ⟨hP, hD⟩ := jI hP hD [] rfl rfl hk1 hP1
  have hP : va_P (dC, dI) vwCl (w_X12_sets h0 h_row h_kept h_isKept h_aside h_eight h_rows h_scales h_dealt h_bytes h_heardRow h_made h_comes h_backs h_fresh cy (0 : Int32) c_nodeS c_nodeD c_pairE c_pairO c_bit c_lag c_lagSum c_row) H := hP
  have hD : va_D A (w_X12_sets h0 h_row h_kept h_isKept h_aside h_eight h_rows h_scales h_dealt h_bytes h_heardRow h_made h_comes h_backs h_fresh cy (0 : Int32) c_nodeS c_nodeD c_pairE c_pairO c_bit c_lag c_lagSum c_row) := hD
  clear hPc hDc hFc hP1 hk1 hz1 hvm ht
  refine W.widen (k := 0) (n := 0) (Nat.le_refl 0) (Nat.le_refl 0) ?_
  refine lv_if_ne (tgt := 15) hx hb dX12_sets_10 (by decide) (fun c2 => ?_) (fun c2 => ?_)
  · replace hw := hw.2 c2
    refine lv_aload_n hx hb dX12_sets_15 rfl (lv_at hl 0 rfl) ?_
    refine va_get (D := (dC, dI)) (ci := 12) (v := .ref h_row) (C := RX12) (T := TX12) (N := 22) hx hb hts inX12 hown hK hP 0 rfl rfl 1 (by decide) (hts _ (List.mem_cons_of_mem _ mw_169)) (fun _ h9 => h9) rfl dX12_sets_16 ?_
    refine lv_bipush (v := 6) hx hb dX12_sets_19 (by decide) ?_
    refine lv_iload_n hx hb dX12_sets_21 rfl (lv_at hl 1 rfl) ?_
    refine lv_iadd hx hb dX12_sets_22 ?_
    refine lv_iload_n hx hb dX12_sets_23 rfl (lv_at hl 2 rfl) ?_
    obtain ⟨h3, hw⟩ := hw
    refine xiast (k := ((6 : Int32) + v1).toNatClampNeg) hx hb hK hP hD hS 1 0 rfl rfl h3 rfl dX12_sets_24 (fun f4 e_f4 H locs hP hD hS => ?_)
    replace hw := hw f4 e_f4
    clear e_f4
    have hP : va_P (dC, dI) vwCl (w_X12_sets h0 h_row h_kept h_isKept h_aside h_eight h_rows h_scales h_dealt h_bytes h_heardRow h_made h_comes h_backs h_fresh cy (0 : Int32) c_nodeS c_nodeD c_pairE c_pairO c_bit c_lag c_lagSum f4) H := hP
    have hD : va_D A (w_X12_sets h0 h_row h_kept h_isKept h_aside h_eight h_rows h_scales h_dealt h_bytes h_heardRow h_made h_comes h_backs h_fresh cy (0 : Int32) c_nodeS c_nodeD c_pairE c_pairO c_bit c_lag c_lagSum f4) := hD
    refine lv_iload_n hx hb dX12_sets_25 rfl (lv_at hl 1 rfl) ?_
    refine jn1 (Gg := fun (f5 : (Nat → Int32)) => ∀ (H : Heap) (locs : List Loc) (ls : Array Slot), va_P (dC, dI) vwCl (w_X12_sets h0 h_row h_kept h_isKept h_aside h_eight h_rows h_scales h_dealt h_bytes h_heardRow h_made h_comes h_backs h_fresh cy (0 : Int32) c_nodeS c_nodeD c_pairE c_pairO c_bit c_lag c_lagSum f5) H → va_D A (w_X12_sets h0 h_row h_kept h_isKept h_aside h_eight h_rows h_scales h_dealt h_bytes h_heardRow h_made h_comes h_backs h_fresh cy (0 : Int32) c_nodeS c_nodeD c_pairE c_pairO c_bit c_lag c_lagSum f5) → va_S A s.heap H locs → lv_has ls 3 [(0, .ref h0), (1, .int v1), (2, .int v2)] → W p l e { frames := 2, cells := 0, slots := 0, locals := 46 } s m av below meth c H locs 0 0 Q0 (F0 m 37 ls [])) hw (fun f5 hw H locs ls hP hD hS hl => ?_) (fun j7 hw => ?_)
    · skip
      refine lv_iload_n hx hb dX12_sets_37 rfl (lv_at hl 1 rfl) ?_
      refine lv_iconst (v := 1) hx hb dX12_sets_38 (by decide) ?_
      refine jn0 (Gg := ∀ (H : Heap) (locs : List Loc) (ls : Array Slot), va_P (dC, dI) vwCl (w_X12_sets h0 h_row h_kept h_isKept h_aside h_eight h_rows h_scales h_dealt h_bytes h_heardRow h_made h_comes h_backs h_fresh cy (0 : Int32) c_nodeS c_nodeD c_pairE c_pairO c_bit c_lag c_lagSum f5) H → va_D A (w_X12_sets h0 h_row h_kept h_isKept h_aside h_eight h_rows h_scales h_dealt h_bytes h_heardRow h_made h_comes h_backs h_fresh cy (0 : Int32) c_nodeS c_nodeD c_pairE c_pairO c_bit c_lag c_lagSum f5) → va_S A s.heap H locs → lv_has ls 3 [(0, .ref h0)] → W p l e { frames := 2, cells := 0, slots := 0, locals := 46 } s m av below meth c H locs 0 0 Q0 (F0 m 52 ls [])) hw (fun  hw H locs ls hP hD hS hl => ?_) (fun j9 hw => ?_)
      · skip
        refine lv_aload_n hx hb dX12_sets_52 rfl (lv_at hl 0 rfl) ?_
        refine va_get (D := (dC, dI)) (ci := 12) (v := .ref h_row) (C := RX12) (T := TX12) (N := 22) hx hb hts inX12 hown hK hP 0 rfl rfl 1 (by decide) (hts _ (List.mem_cons_of_mem _ mw_169)) (fun _ h9 => h9) rfl dX12_sets_53 ?_
        refine lv_bipush (v := 43) hx hb dX12_sets_56 (by decide) ?_
        refine lv_aload_n hx hb dX12_sets_58 rfl (lv_at hl 0 rfl) ?_
        refine va_get (D := (dC, dI)) (ci := 12) (v := .ref h_row) (C := RX12) (T := TX12) (N := 22) hx hb hts inX12 hown hK hP 0 rfl rfl 1 (by decide) (hts _ (List.mem_cons_of_mem _ mw_169)) (fun _ h9 => h9) rfl dX12_sets_59 ?_
        refine lv_bipush (v := 7) hx hb dX12_sets_62 (by decide) ?_
        refine xiald (k := 7) hx hb hK hP 1 0 rfl rfl (by decide) (by decide) dX12_sets_64 ?_
        refine xiast (k := 43) hx hb hK hP hD hS 1 0 rfl rfl (by decide) (by decide) dX12_sets_65 (fun f12 e_f12 H locs hP hD hS => ?_)
        replace hw := hw f12 e_f12
        clear e_f12
        have hP : va_P (dC, dI) vwCl (w_X12_sets h0 h_row h_kept h_isKept h_aside h_eight h_rows h_scales h_dealt h_bytes h_heardRow h_made h_comes h_backs h_fresh cy (0 : Int32) c_nodeS c_nodeD c_pairE c_pairO c_bit c_lag c_lagSum f12) H := hP
        have hD : va_D A (w_X12_sets h0 h_row h_kept h_isKept h_aside h_eight h_rows h_scales h_dealt h_bytes h_heardRow h_made h_comes h_backs h_fresh cy (0 : Int32) c_nodeS c_nodeD c_pairE c_pairO c_bit c_lag c_lagSum f12) := hD
        refine lv_iconst (v := 1) hx hb dX12_sets_66 (by decide) ?_
        subst hQe
        exact W.zret (v := (1 : Int32)) hx hb hr isB_1 (fun t ht hW => ⟨⟨(1 : Int32), ((0 : Int32), f12), rfl, hw, by rw [ht]; exact hP, va_K.moved hW.alike hK, hD⟩, hS.F ht⟩) hS.2.2 dX12_sets_67
      · skip
        refine lv_icmp_eq (tgt := 52) hx hb dX12_sets_39 (by decide) (fun c13 => ?_) (fun c13 => ?_)
        · replace hw := hw.1 c13
          exact j9 hw H locs ls hP hD hS (lv_sub hl [0] rfl)
        · replace hw := hw.2 c13
          refine lv_iload_n hx hb dX12_sets_42 rfl (lv_at hl 1 rfl) ?_
          refine lv_bipush (v := 9) hx hb dX12_sets_43 (by decide) ?_
          refine lv_icmp_ne (tgt := 66) hx hb dX12_sets_45 (by decide) (fun c14 => ?_) (fun c14 => ?_)
          · replace hw := hw.2 c14
            refine lv_iconst (v := 1) hx hb dX12_sets_66 (by decide) ?_
            subst hQe
            exact W.zret (v := (1 : Int32)) hx hb hr isB_1 (fun t ht hW => ⟨⟨(1 : Int32), ((0 : Int32), f5), rfl, hw, by rw [ht]; exact hP, va_K.moved hW.alike hK, hD⟩, hS.F ht⟩) hS.2.2 dX12_sets_67
          · replace hw := hw.1 c14
            refine lv_iload_n hx hb dX12_sets_48 rfl (lv_at hl 2 rfl) ?_
            refine lv_if_ne (tgt := 66) hx hb dX12_sets_49 (by decide) (fun c15 => ?_) (fun c15 => ?_)
            · replace hw := hw.2 c15
              refine lv_iconst (v := 1) hx hb dX12_sets_66 (by decide) ?_
              subst hQe
              exact W.zret (v := (1 : Int32)) hx hb hr isB_1 (fun t ht hW => ⟨⟨(1 : Int32), ((0 : Int32), f5), rfl, hw, by rw [ht]; exact hP, va_K.moved hW.alike hK, hD⟩, hS.F ht⟩) hS.2.2 dX12_sets_67
            · replace hw := hw.1 c15
              exact j9 hw H locs ls hP hD hS (lv_sub hl [0] rfl)
    · skip
      refine lv_if_ne (tgt := 37) hx hb dX12_sets_26 (by decide) (fun c16 => ?_) (fun c16 => ?_)
      · replace hw := hw.2 c16
        exact j7 f4 hw H locs ls hP hD hS (lv_sub hl [0, 1, 2] rfl)
      · replace hw := hw.1 c16
        refine lv_aload_n hx hb dX12_sets_29 rfl (lv_at hl 0 rfl) ?_
        refine va_get (D := (dC, dI)) (ci := 12) (v := .ref h_row) (C := RX12) (T := TX12) (N := 22) hx hb hts inX12 hown hK hP 0 rfl rfl 1 (by decide) (hts _ (List.mem_cons_of_mem _ mw_169)) (fun _ h9 => h9) rfl dX12_sets_30 ?_
        refine lv_bipush (v := 49) hx hb dX12_sets_33 (by decide) ?_
        refine lv_iload_n hx hb dX12_sets_35 rfl (lv_at hl 2 rfl) ?_
        refine xiast (k := 49) hx hb hK hP hD hS 1 0 rfl rfl (by decide) (by decide) dX12_sets_36 (fun f18 e_f18 H locs hP hD hS => ?_)
        replace hw := hw f18 e_f18
        clear e_f18
        have hP : va_P (dC, dI) vwCl (w_X12_sets h0 h_row h_kept h_isKept h_aside h_eight h_rows h_scales h_dealt h_bytes h_heardRow h_made h_comes h_backs h_fresh cy (0 : Int32) c_nodeS c_nodeD c_pairE c_pairO c_bit c_lag c_lagSum f18) H := hP
        have hD : va_D A (w_X12_sets h0 h_row h_kept h_isKept h_aside h_eight h_rows h_scales h_dealt h_bytes h_heardRow h_made h_comes h_backs h_fresh cy (0 : Int32) c_nodeS c_nodeD c_pairE c_pairO c_bit c_lag c_lagSum f18) := hD
        exact j7 f18 hw H locs ls hP hD hS (lv_sub hl [0, 1, 2] rfl)
  · replace hw := hw.1 c2
    refine lv_iconst (v := 0) hx hb dX12_sets_13 (by decide) ?_
    subst hQe
    exact W.zret (v := (0 : Int32)) hx hb hr isB_0 (fun t ht hW => ⟨⟨(0 : Int32), ((0 : Int32), c_row), rfl, hw, by rw [ht]; exact hP, va_K.moved hW.alike hK, hD⟩, hS.F ht⟩) hS.2.2 dX12_sets_14
abbrev w_X7_at (h0 h_numbers h_places : Nat) (h_places_e : Nat → Nat → Nat) (cy : Nat → ClassId) (n_c_places : Nat) (c_sizeAt : Int32) (c_head : Int32) (c_numbers : Nat → Int32) : va_W := [(h0, .inr (7, [.ref h_numbers, .int c_sizeAt, .ref h_places, .int c_head])), (h_numbers, .inl (cy 0, 54, .inl c_numbers)), (h_places, .inl (cy 4, n_c_places, .inr (.inr (.inr (.inr (rowF h_places_e))))))]
def wp_X7_at (n_c_places : Nat) (v1 : Int32) (c_sizeAt : Int32) (c_head : Int32) (c_numbers : Nat → Int32) (post : (Option Nat) → Prop) : Prop :=
  (v1 < 0 → post none) ∧ (¬ v1 < 0 → vp_in c_sizeAt 54 ∧ (v1 < (c_numbers c_sizeAt.toNatClampNeg) → ¬ (Int32.ofNat n_c_places) = 0 ∧ ∀ x5 : Int32, x5 = jrem (c_head + v1) (Int32.ofNat n_c_places) → vp_in x5 n_c_places ∧ post (some (x5.toNatClampNeg))) ∧ (¬ v1 < (c_numbers c_sizeAt.toNatClampNeg) → post none))
set_option maxHeartbeats 4000000 in
set_option maxRecDepth 100000 in
theorem c_X7_at (l : Launch) (dC : Nat → ClassId) (dI : Nat → Nat → Nat) (cy : Nat → ClassId) (h0 h_numbers h_places : Nat) (h_places_e : Nat → Nat → Nat) (n_c_places : Nat) (sz : Nat) (v1 : Int32) (c_sizeAt : Int32) (c_head : Int32) (c_numbers : Nat → Int32) (post : (Option Nat) → Prop) (hw : wp_X7_at n_c_places v1 c_sizeAt c_head c_numbers post) : Met l yX7_at wsX7_at ({ frames := 0, cells := 0, slots := 0, locals := 0 }) (PX dC dI cy [.ref h0, .int v1] sz (w_X7_at h0 h_numbers h_places h_places_e cy n_c_places c_sizeAt c_head c_numbers)) (va_Qq (fun (r : Option Nat) (u : Unit) => ∃ o : Option Nat, r = o.map (fun i => h_places_e i 0) ∧ post o) (QX dC dI cy (va_A (w_X7_at h0 h_numbers h_places h_places_e cy n_c_places c_sizeAt c_head c_numbers) sz) (fun (u : Unit) => w_X7_at h0 h_numbers h_places h_places_e cy n_c_places c_sizeAt c_head c_numbers)) (va_A (w_X7_at h0 h_numbers h_places h_places_e cy n_c_places c_sizeAt c_head c_numbers) sz)) 0 0 (va_A (w_X7_at h0 h_numbers h_places h_places_e cy n_c_places c_sizeAt c_head c_numbers) sz) := by
  refine Met.ofW (cc := cX7_at) (maxL := 2) (ret := (some (.object "HeadsetBands$Packet"))) (by decide) rfl ?_
  intro p e s m args below meth c s₁ B hml hv
  obtain ⟨rfl, hsz, hP, hK, hD0, hG⟩ := hv
  have hx := B.exec
  have hb := B.bytes
  have hr := B.returns
  have hts := atoms_spec (ws := wsX7_at) B.pre
  have hown : s.vm.findClass RX7 = some m.cls := findClass_of_methodNamed B.named
  have hlocks := B.notSynchronized
  subst hsz
  have hD := hD0.self (sz := s.heap.size)
  generalize hAe : va_A (w_X7_at h0 h_numbers h_places h_places_e cy n_c_places c_sizeAt c_head c_numbers) s.heap.size = A at hD ⊢
  have hA : ∀ q : Nat, s.heap.size ≤ q → A q := fun q h => by rw [← hAe]; exact Or.inr h
  have hS : va_S A s.heap s.heap [] := va_S.rf
  have hl := lv_entry ([.ref h0, .int v1]) (n := 2) (Nat.le_of_ble_eq_true rfl)
  rw [lg_entry_eq]
  generalize (lg_sl ([.ref h0, .int v1]) ++ List.replicate (2 - (lg_sl ([.ref h0, .int v1])).length) Slot.unset).toArray = ls at hl ⊢
  have hl : lv_has ls 2 [(0, .ref h0), (1, .int v1)] := hl
  have inX7 : ∀ w ∈ u_ws RX7 TX7 4, w ∈ wsX7_at := fun w h => List.mem_cons_of_mem _ (inlX7 w h)
  clear hAe hD0 B
  unfold wp_X7_at at hw
  generalize hQe : MQ below _ _ s _ _ _ = Q0
  generalize ([.ref h0, .int v1] : List Value).toArray = av at *
  obtain ⟨H, hH⟩ : ∃ H, H = s.heap := ⟨_, rfl⟩
  obtain ⟨locs, hlo⟩ : ∃ L : List Loc, L = [] := ⟨_, rfl⟩
  have hP : va_P (dC, dI) vwCl (w_X7_at h0 h_numbers h_places h_places_e cy n_c_places c_sizeAt c_head c_numbers) H := by rw [hH]; exact hP
  have hS : va_S A s.heap H locs := by rw [hH, hlo]; exact hS
  suffices hgo : W p l e ({ frames := 0, cells := 0, slots := 0, locals := 0 }) s m av below meth c H locs 0 0 Q0 (F0 m 0 ls []) by rw [hH, hlo] at hgo; exact hgo
  clear hH hlo
  refine lv_iload_n hx hb dX7_at_0 rfl (lv_at hl 1 rfl) ?_
  refine lv_if_lt (tgt := 17) hx hb dX7_at_1 (by decide) (fun c1 => ?_) (fun c1 => ?_)
  · replace hw := hw.1 c1
    refine lv_null hx hb dX7_at_17 ?_
    subst hQe
    exact W.aret (v := .null) hx hb hr (Or.inl ⟨_, rfl⟩) (Or.inl rfl) (fun t ht hW => ⟨⟨none, (), rfl, ⟨none, rfl, hw⟩, by rw [ht]; exact hP, va_K.moved hW.alike hK, hD⟩, hS.F ht⟩) hS.2.2 dX7_at_18
  · replace hw := hw.2 c1
    refine lv_iload_n hx hb dX7_at_4 rfl (lv_at hl 1 rfl) ?_
    refine lv_aload_n hx hb dX7_at_5 rfl (lv_at hl 0 rfl) ?_
    refine va_get (D := (dC, dI)) (ci := 7) (v := .ref h_numbers) (C := RX7) (T := TX7) (N := 4) hx hb hts inX7 hown hK hP 0 rfl rfl 0 (by decide) (hts _ (List.mem_cons_of_mem _ mw_72)) (fun _ h9 => h9) rfl dX7_at_6 ?_
    refine lv_aload_n hx hb dX7_at_9 rfl (lv_at hl 0 rfl) ?_
    refine va_get (D := (dC, dI)) (ci := 7) (v := .int c_sizeAt) (C := RX7) (T := TX7) (N := 4) hx hb hts inX7 hown hK hP 0 rfl rfl 1 (by decide) (hts _ (List.mem_cons_of_mem _ mw_73)) (fun _ h9 => h9) rfl dX7_at_10 ?_
    obtain ⟨h2, hw⟩ := hw
    refine xiald (k := c_sizeAt.toNatClampNeg) hx hb hK hP 1 0 rfl rfl h2 rfl dX7_at_13 ?_
    refine lv_icmp_lt (tgt := 19) hx hb dX7_at_14 (by decide) (fun c3 => ?_) (fun c3 => ?_)
    · replace hw := hw.1 c3
      refine lv_aload_n hx hb dX7_at_19 rfl (lv_at hl 0 rfl) ?_
      refine va_get (D := (dC, dI)) (ci := 7) (v := .ref h_places) (C := RX7) (T := TX7) (N := 4) hx hb hts inX7 hown hK hP 0 rfl rfl 2 (by decide) (hts _ (List.mem_cons_of_mem _ mw_79)) (fun _ h9 => h9) rfl dX7_at_20 ?_
      refine lv_aload_n hx hb dX7_at_23 rfl (lv_at hl 0 rfl) ?_
      refine va_get (D := (dC, dI)) (ci := 7) (v := .int c_head) (C := RX7) (T := TX7) (N := 4) hx hb hts inX7 hown hK hP 0 rfl rfl 3 (by decide) (hts _ (List.mem_cons_of_mem _ mw_71)) (fun _ h9 => h9) rfl dX7_at_24 ?_
      refine lv_iload_n hx hb dX7_at_27 rfl (lv_at hl 1 rfl) ?_
      refine lv_iadd hx hb dX7_at_28 ?_
      refine lv_aload_n hx hb dX7_at_29 rfl (lv_at hl 0 rfl) ?_
      refine va_get (D := (dC, dI)) (ci := 7) (v := .ref h_places) (C := RX7) (T := TX7) (N := 4) hx hb hts inX7 hown hK hP 0 rfl rfl 2 (by decide) (hts _ (List.mem_cons_of_mem _ mw_79)) (fun _ h9 => h9) rfl dX7_at_30 ?_
      refine va_alen (v := Int32.ofNat n_c_places) hx hb hK hP 2 4 rfl rfl rfl dX7_at_33 ?_
      obtain ⟨h4, hw⟩ := hw
      refine lv_irem hx hb dX7_at_34 h4 ?_
      refine lv_topi (fun x5 e_x5 => ?_)
      replace hw := hw x5 e_x5
      clear e_x5
      obtain ⟨h6, hw⟩ := hw
      refine xaldF hx hb hK hP 2 4 rfl rfl h6 dX7_at_35 ?_
      subst hQe
      exact W.aret (v := (.ref (h_places_e x5.toNatClampNeg 0))) hx hb hr (Or.inl ⟨_, rfl⟩) (Or.inr ⟨_, rfl⟩) (fun t ht hW => ⟨⟨(some (h_places_e x5.toNatClampNeg 0)), (), rfl, ⟨(some (x5.toNatClampNeg)), rfl, hw⟩, by rw [ht]; exact hP, va_K.moved hW.alike hK, hD⟩, hS.F ht⟩) hS.2.2 dX7_at_36
    · replace hw := hw.2 c3
      refine lv_null hx hb dX7_at_17 ?_
      subst hQe
      exact W.aret (v := .null) hx hb hr (Or.inl ⟨_, rfl⟩) (Or.inl rfl) (fun t ht hW => ⟨⟨none, (), rfl, ⟨none, rfl, hw⟩, by rw [ht]; exact hP, va_K.moved hW.alike hK, hD⟩, hS.F ht⟩) hS.2.2 dX7_at_18
abbrev w_X0_setStatus (h0 h_records h_delays : Nat) (cy : Nat → ClassId) (c_records : Nat → Int32) : va_W := [(h0, .inr (0, [.ref h_records, .ref h_delays])), (h_records, .inl (cy 0, 2500, .inl c_records))]
def wp_X0_setStatus (v1 : Int32) (v2 : Int32) (c_records : Nat → Int32) (post : (Nat → Int32) → Prop) : Prop :=
  wp_X11_within v1 (0 : Int32) (2499 : Int32) (fun r1 => (r1 = 0 → post c_records) ∧ (¬ r1 = 0 → vp_in v1 2500 ∧ vp_in v1 2500 ∧ ∀ f5 : Nat → Int32, f5 = upd c_records v1.toNatClampNeg (((c_records v1.toNatClampNeg) &&& (-4 : Int32)) ||| v2) → post f5))
set_option maxHeartbeats 4000000 in
set_option maxRecDepth 100000 in
theorem c_X0_setStatus (l : Launch) (dC : Nat → ClassId) (dI : Nat → Nat → Nat) (cy : Nat → ClassId) (h0 h_records h_delays : Nat) (sz : Nat) (v1 : Int32) (v2 : Int32) (c_records : Nat → Int32) (post : (Nat → Int32) → Prop) (hw : wp_X0_setStatus v1 v2 c_records post) : Met l yX0_setStatus wsX0_setStatus ({ frames := 1, cells := 0, slots := 0, locals := 22 }) (PX dC dI cy [.ref h0, .int v1, .int v2] sz (w_X0_setStatus h0 h_records h_delays cy c_records)) (va_Qv (fun (u : (Nat → Int32)) => post u) (QX dC dI cy (va_A (w_X0_setStatus h0 h_records h_delays cy c_records) sz) (fun (u : (Nat → Int32)) => w_X0_setStatus h0 h_records h_delays cy u)) (va_A (w_X0_setStatus h0 h_records h_delays cy c_records) sz)) 0 0 (va_A (w_X0_setStatus h0 h_records h_delays cy c_records) sz) := by
  refine Met.ofW (cc := cX0_setStatus) (maxL := 3) (ret := none) (by decide) rfl ?_
  intro p e s m args below meth c s₁ B hml hv
  obtain ⟨rfl, hsz, hP, hK, hD0, hG⟩ := hv
  have hx := B.exec
  have hb := B.bytes
  have hr := B.returns
  have hts := atoms_spec (ws := wsX0_setStatus) B.pre
  have hown : s.vm.findClass RX0 = some m.cls := findClass_of_methodNamed B.named
  have hlocks := B.notSynchronized
  subst hsz
  have hD := hD0.self (sz := s.heap.size)
  generalize hAe : va_A (w_X0_setStatus h0 h_records h_delays cy c_records) s.heap.size = A at hD ⊢
  have hA : ∀ q : Nat, s.heap.size ≤ q → A q := fun q h => by rw [← hAe]; exact Or.inr h
  have hS : va_S A s.heap s.heap [] := va_S.rf
  have hl := lv_entry ([.ref h0, .int v1, .int v2]) (n := 3) (Nat.le_of_ble_eq_true rfl)
  rw [lg_entry_eq]
  generalize (lg_sl ([.ref h0, .int v1, .int v2]) ++ List.replicate (3 - (lg_sl ([.ref h0, .int v1, .int v2])).length) Slot.unset).toArray = ls at hl ⊢
  have hl : lv_has ls 3 [(0, .ref h0), (1, .int v1), (2, .int v2)] := hl
  have inX0 : ∀ w ∈ u_ws RX0 TX0 2, w ∈ wsX0_setStatus := fun w h => List.mem_cons_of_mem _ (inlX0 w h)
  clear hAe hD0 B
  unfold wp_X0_setStatus at hw
  generalize hQe : MQ below _ _ s _ _ _ = Q0
  generalize ([.ref h0, .int v1, .int v2] : List Value).toArray = av at *
  obtain ⟨H, hH⟩ : ∃ H, H = s.heap := ⟨_, rfl⟩
  obtain ⟨locs, hlo⟩ : ∃ L : List Loc, L = [] := ⟨_, rfl⟩
  have hP : va_P (dC, dI) vwCl (w_X0_setStatus h0 h_records h_delays cy c_records) H := by rw [hH]; exact hP
  have hS : va_S A s.heap H locs := by rw [hH, hlo]; exact hS
  suffices hgo : W p l e ({ frames := 1, cells := 0, slots := 0, locals := 22 }) s m av below meth c H locs 0 0 Q0 (F0 m 0 ls []) by rw [hH, hlo] at hgo; exact hgo
  clear hH hlo
  refine lv_iload_n hx hb dX0_setStatus_0 rfl (lv_at hl 1 rfl) ?_
  refine lv_iconst (v := 0) hx hb dX0_setStatus_1 (by decide) ?_
  refine lv_sipush (v := 2499) hx hb dX0_setStatus_2 (by decide) ?_
  have hPc := pSub (ws' := (w_X11_within cy)) hP [] rfl
  have hDc := dSub (ws' := (w_X11_within cy)) hD [] (by decide) rfl
  have hFc := va_free (wc := (w_X11_within cy)) hD hS hA [] rfl
  refine va_calli (va_runSN (As := [.int v1, .int (0 : Int32), .int (2499 : Int32)]) (rest := []) ⟨hx, hb, hml, hown, hts⟩ (c_X11_within l dC dI cy  H.size v1 (0 : Int32) (2499 : Int32) _ hw) ⟨va_cnB 3 hts (goodG mw_195) rfl rfl rfl (hG.1 ("HeadsetBands$Book", 30, ⟨"HeadsetBands", "within", "(III)Z"⟩, "HeadsetBands") (by decide +kernel)) (hts _ (List.mem_cons_of_mem _ mw_2)) (by decide +kernel) ⟨Nat.le_of_ble_eq_true rfl, Nat.le_of_ble_eq_true rfl⟩, (hts _ (List.mem_cons_of_mem _ mw_194)), trivial⟩ ⟨PX_blind, PX_pre hPc hK hDc hG⟩ rfl rfl hl.1 rfl (lv_room (Nat.le_of_ble_eq_true rfl)) dX0_setStatus_5 ⟨Nat.zero_le _, Nat.zero_le _⟩) hS (fun q _ h => hFc q h) hFc (fun r1 _ t H locs ht hvm hw hB hz1 hk1 hS => ?_)
  obtain ⟨hP1, -, -⟩ := hB
  rw [ht] at hP1
  obtain ⟨hP, hD⟩ := jI hP hD [] rfl rfl hk1 hP1
  have hP : va_P (dC, dI) vwCl (w_X0_setStatus h0 h_records h_delays cy c_records) H := hP
  have hD : va_D A (w_X0_setStatus h0 h_records h_delays cy c_records) := hD
  clear hPc hDc hFc hP1 hk1 hz1 hvm ht
  refine W.widen (k := 0) (n := 0) (Nat.le_refl 0) (Nat.le_refl 0) ?_
  refine lv_if_eq (tgt := 28) hx hb dX0_setStatus_8 (by decide) (fun c2 => ?_) (fun c2 => ?_)
  · replace hw := hw.1 c2
    subst hQe
    exact W.vret hx hb hr (fun t ht hW => ⟨⟨c_records, rfl, hw, by rw [ht]; exact hP, va_K.moved hW.alike hK, hD⟩, hS.F ht⟩) hS.2.2 dX0_setStatus_28
  · replace hw := hw.2 c2
    refine lv_aload_n hx hb dX0_setStatus_11 rfl (lv_at hl 0 rfl) ?_
    refine va_get (D := (dC, dI)) (ci := 0) (v := .ref h_records) (C := RX0) (T := TX0) (N := 2) hx hb hts inX0 hown hK hP 0 rfl rfl 0 (by decide) (hts _ (List.mem_cons_of_mem _ mw_65)) (fun _ h9 => h9) rfl dX0_setStatus_12 ?_
    refine lv_iload_n hx hb dX0_setStatus_15 rfl (lv_at hl 1 rfl) ?_
    refine lv_aload_n hx hb dX0_setStatus_16 rfl (lv_at hl 0 rfl) ?_
    refine va_get (D := (dC, dI)) (ci := 0) (v := .ref h_records) (C := RX0) (T := TX0) (N := 2) hx hb hts inX0 hown hK hP 0 rfl rfl 0 (by decide) (hts _ (List.mem_cons_of_mem _ mw_65)) (fun _ h9 => h9) rfl dX0_setStatus_17 ?_
    refine lv_iload_n hx hb dX0_setStatus_20 rfl (lv_at hl 1 rfl) ?_
    obtain ⟨h3, hw⟩ := hw
    refine xiald (k := v1.toNatClampNeg) hx hb hK hP 1 0 rfl rfl h3 rfl dX0_setStatus_21 ?_
    refine lv_bipush (v := -4) hx hb dX0_setStatus_22 (by decide) ?_
    refine lv_iand hx hb dX0_setStatus_24 ?_
    refine lv_iload_n hx hb dX0_setStatus_25 rfl (lv_at hl 2 rfl) ?_
    refine lv_ior hx hb dX0_setStatus_26 ?_
    obtain ⟨h4, hw⟩ := hw
    refine xiast (k := v1.toNatClampNeg) hx hb hK hP hD hS 1 0 rfl rfl h4 rfl dX0_setStatus_27 (fun f5 e_f5 H locs hP hD hS => ?_)
    replace hw := hw f5 e_f5
    clear e_f5
    have hP : va_P (dC, dI) vwCl (w_X0_setStatus h0 h_records h_delays cy f5) H := hP
    have hD : va_D A (w_X0_setStatus h0 h_records h_delays cy f5) := hD
    subst hQe
    exact W.vret hx hb hr (fun t ht hW => ⟨⟨f5, rfl, hw, by rw [ht]; exact hP, va_K.moved hW.alike hK, hD⟩, hS.F ht⟩) hS.2.2 dX0_setStatus_28
abbrev w_X7_removeFirst (h0 h_numbers h_places : Nat) (h_places_e : Nat → Nat → Nat) (cy : Nat → ClassId) (n_c_places : Nat) (c_sizeAt : Int32) (c_head : Int32) (c_numbers : Nat → Int32) : va_W := [(h0, .inr (7, [.ref h_numbers, .int c_sizeAt, .ref h_places, .int c_head])), (h_numbers, .inl (cy 0, 54, .inl c_numbers)), (h_places, .inl (cy 4, n_c_places, .inr (.inr (.inr (.inr (rowF h_places_e))))))]
def wp_X7_removeFirst (n_c_places : Nat) (c_sizeAt : Int32) (c_head : Int32) (c_numbers : Nat → Int32) (post : Int32 → (Nat → Int32) → Prop) : Prop :=
  vp_in c_sizeAt 54 ∧ ((c_numbers c_sizeAt.toNatClampNeg) ≤ 0 → post c_head c_numbers) ∧ (¬ (c_numbers c_sizeAt.toNatClampNeg) ≤ 0 → vp_in c_sizeAt 54 ∧ vp_in c_sizeAt 54 ∧ ∀ f5 : Nat → Int32, f5 = upd c_numbers c_sizeAt.toNatClampNeg ((c_numbers c_sizeAt.toNatClampNeg) - (1 : Int32)) → ¬ (Int32.ofNat n_c_places) = 0 ∧ ∀ x7 : Int32, x7 = jrem (c_head + (1 : Int32)) (Int32.ofNat n_c_places) → post x7 f5)
set_option maxHeartbeats 4000000 in
set_option maxRecDepth 100000 in
theorem c_X7_removeFirst (l : Launch) (dC : Nat → ClassId) (dI : Nat → Nat → Nat) (cy : Nat → ClassId) (h0 h_numbers h_places : Nat) (h_places_e : Nat → Nat → Nat) (n_c_places : Nat) (sz : Nat) (c_sizeAt : Int32) (c_head : Int32) (c_numbers : Nat → Int32) (post : Int32 → (Nat → Int32) → Prop) (hw : wp_X7_removeFirst n_c_places c_sizeAt c_head c_numbers post) : Met l yX7_removeFirst wsX7_removeFirst ({ frames := 0, cells := 0, slots := 0, locals := 0 }) (PX dC dI cy [.ref h0] sz (w_X7_removeFirst h0 h_numbers h_places h_places_e cy n_c_places c_sizeAt c_head c_numbers)) (va_Qv (fun (u : Int32 × (Nat → Int32)) => post u.1 u.2) (QX dC dI cy (va_A (w_X7_removeFirst h0 h_numbers h_places h_places_e cy n_c_places c_sizeAt c_head c_numbers) sz) (fun (u : Int32 × (Nat → Int32)) => w_X7_removeFirst h0 h_numbers h_places h_places_e cy n_c_places c_sizeAt u.1 u.2)) (va_A (w_X7_removeFirst h0 h_numbers h_places h_places_e cy n_c_places c_sizeAt c_head c_numbers) sz)) 0 0 (va_A (w_X7_removeFirst h0 h_numbers h_places h_places_e cy n_c_places c_sizeAt c_head c_numbers) sz) := by
  refine Met.ofW (cc := cX7_removeFirst) (maxL := 1) (ret := none) (by decide) rfl ?_
  intro p e s m args below meth c s₁ B hml hv
  obtain ⟨rfl, hsz, hP, hK, hD0, hG⟩ := hv
  have hx := B.exec
  have hb := B.bytes
  have hr := B.returns
  have hts := atoms_spec (ws := wsX7_removeFirst) B.pre
  have hown : s.vm.findClass RX7 = some m.cls := findClass_of_methodNamed B.named
  have hlocks := B.notSynchronized
  subst hsz
  have hD := hD0.self (sz := s.heap.size)
  generalize hAe : va_A (w_X7_removeFirst h0 h_numbers h_places h_places_e cy n_c_places c_sizeAt c_head c_numbers) s.heap.size = A at hD ⊢
  have hA : ∀ q : Nat, s.heap.size ≤ q → A q := fun q h => by rw [← hAe]; exact Or.inr h
  have hS : va_S A s.heap s.heap [] := va_S.rf
  have hl := lv_entry ([.ref h0]) (n := 1) (Nat.le_of_ble_eq_true rfl)
  rw [lg_entry_eq]
  generalize (lg_sl ([.ref h0]) ++ List.replicate (1 - (lg_sl ([.ref h0])).length) Slot.unset).toArray = ls at hl ⊢
  have hl : lv_has ls 1 [(0, .ref h0)] := hl
  have inX7 : ∀ w ∈ u_ws RX7 TX7 4, w ∈ wsX7_removeFirst := fun w h => List.mem_cons_of_mem _ (inlX7 w h)
  clear hAe hD0 B
  unfold wp_X7_removeFirst at hw
  generalize hQe : MQ below _ _ s _ _ _ = Q0
  generalize ([.ref h0] : List Value).toArray = av at *
  obtain ⟨H, hH⟩ : ∃ H, H = s.heap := ⟨_, rfl⟩
  obtain ⟨locs, hlo⟩ : ∃ L : List Loc, L = [] := ⟨_, rfl⟩
  have hP : va_P (dC, dI) vwCl (w_X7_removeFirst h0 h_numbers h_places h_places_e cy n_c_places c_sizeAt c_head c_numbers) H := by rw [hH]; exact hP
  have hS : va_S A s.heap H locs := by rw [hH, hlo]; exact hS
  suffices hgo : W p l e ({ frames := 0, cells := 0, slots := 0, locals := 0 }) s m av below meth c H locs 0 0 Q0 (F0 m 0 ls []) by rw [hH, hlo] at hgo; exact hgo
  clear hH hlo
  refine lv_aload_n hx hb dX7_removeFirst_0 rfl (lv_at hl 0 rfl) ?_
  refine va_get (D := (dC, dI)) (ci := 7) (v := .ref h_numbers) (C := RX7) (T := TX7) (N := 4) hx hb hts inX7 hown hK hP 0 rfl rfl 0 (by decide) (hts _ (List.mem_cons_of_mem _ mw_72)) (fun _ h9 => h9) rfl dX7_removeFirst_1 ?_
  refine lv_aload_n hx hb dX7_removeFirst_4 rfl (lv_at hl 0 rfl) ?_
  refine va_get (D := (dC, dI)) (ci := 7) (v := .int c_sizeAt) (C := RX7) (T := TX7) (N := 4) hx hb hts inX7 hown hK hP 0 rfl rfl 1 (by decide) (hts _ (List.mem_cons_of_mem _ mw_73)) (fun _ h9 => h9) rfl dX7_removeFirst_5 ?_
  obtain ⟨h1, hw⟩ := hw
  refine xiald (k := c_sizeAt.toNatClampNeg) hx hb hK hP 1 0 rfl rfl h1 rfl dX7_removeFirst_8 ?_
  refine lv_if_le (tgt := 41) hx hb dX7_removeFirst_9 (by decide) (fun c2 => ?_) (fun c2 => ?_)
  · replace hw := hw.1 c2
    subst hQe
    exact W.vret hx hb hr (fun t ht hW => ⟨⟨(c_head, c_numbers), rfl, hw, by rw [ht]; exact hP, va_K.moved hW.alike hK, hD⟩, hS.F ht⟩) hS.2.2 dX7_removeFirst_41
  · replace hw := hw.2 c2
    refine lv_aload_n hx hb dX7_removeFirst_12 rfl (lv_at hl 0 rfl) ?_
    refine va_get (D := (dC, dI)) (ci := 7) (v := .ref h_numbers) (C := RX7) (T := TX7) (N := 4) hx hb hts inX7 hown hK hP 0 rfl rfl 0 (by decide) (hts _ (List.mem_cons_of_mem _ mw_72)) (fun _ h9 => h9) rfl dX7_removeFirst_13 ?_
    refine lv_aload_n hx hb dX7_removeFirst_16 rfl (lv_at hl 0 rfl) ?_
    refine va_get (D := (dC, dI)) (ci := 7) (v := .int c_sizeAt) (C := RX7) (T := TX7) (N := 4) hx hb hts inX7 hown hK hP 0 rfl rfl 1 (by decide) (hts _ (List.mem_cons_of_mem _ mw_73)) (fun _ h9 => h9) rfl dX7_removeFirst_17 ?_
    refine lv_dup2_11 hx hb dX7_removeFirst_20 rfl rfl ?_
    obtain ⟨h3, hw⟩ := hw
    refine xiald (k := c_sizeAt.toNatClampNeg) hx hb hK hP 1 0 rfl rfl h3 rfl dX7_removeFirst_21 ?_
    refine lv_iconst (v := 1) hx hb dX7_removeFirst_22 (by decide) ?_
    refine lv_isub hx hb dX7_removeFirst_23 ?_
    obtain ⟨h4, hw⟩ := hw
    refine xiast (k := c_sizeAt.toNatClampNeg) hx hb hK hP hD hS 1 0 rfl rfl h4 rfl dX7_removeFirst_24 (fun f5 e_f5 H locs hP hD hS => ?_)
    replace hw := hw f5 e_f5
    clear e_f5
    have hP : va_P (dC, dI) vwCl (w_X7_removeFirst h0 h_numbers h_places h_places_e cy n_c_places c_sizeAt c_head f5) H := hP
    have hD : va_D A (w_X7_removeFirst h0 h_numbers h_places h_places_e cy n_c_places c_sizeAt c_head f5) := hD
    refine lv_aload_n hx hb dX7_removeFirst_25 rfl (lv_at hl 0 rfl) ?_
    refine lv_aload_n hx hb dX7_removeFirst_26 rfl (lv_at hl 0 rfl) ?_
    refine va_get (D := (dC, dI)) (ci := 7) (v := .int c_head) (C := RX7) (T := TX7) (N := 4) hx hb hts inX7 hown hK hP 0 rfl rfl 3 (by decide) (hts _ (List.mem_cons_of_mem _ mw_71)) (fun _ h9 => h9) rfl dX7_removeFirst_27 ?_
    refine lv_iconst (v := 1) hx hb dX7_removeFirst_30 (by decide) ?_
    refine lv_iadd hx hb dX7_removeFirst_31 ?_
    refine lv_aload_n hx hb dX7_removeFirst_32 rfl (lv_at hl 0 rfl) ?_
    refine va_get (D := (dC, dI)) (ci := 7) (v := .ref h_places) (C := RX7) (T := TX7) (N := 4) hx hb hts inX7 hown hK hP 0 rfl rfl 2 (by decide) (hts _ (List.mem_cons_of_mem _ mw_79)) (fun _ h9 => h9) rfl dX7_removeFirst_33 ?_
    refine va_alen (v := Int32.ofNat n_c_places) hx hb hK hP 2 4 rfl rfl rfl dX7_removeFirst_36 ?_
    obtain ⟨h6, hw⟩ := hw
    refine lv_irem hx hb dX7_removeFirst_37 h6 ?_
    refine lv_topi (fun x7 e_x7 => ?_)
    replace hw := hw x7 e_x7
    clear e_x7
    refine va_put (D := (dC, dI)) (ci := 7) (v := .int x7) (ty := .int) (C := RX7) (T := TX7) (N := 4) hx hb hts inX7 tyX7 tyX7_ok nmX7 hown hK hP hD hS 0 rfl rfl 3 (by decide) (hts _ (List.mem_cons_of_mem _ mw_71)) (fun _ h9 => h9) rfl (by decide +kernel) rfl rfl (Nat.le_of_ble_eq_true rfl) dX7_removeFirst_38 (fun H locs hP hD hS => ?_)
    have hP : va_P (dC, dI) vwCl (w_X7_removeFirst h0 h_numbers h_places h_places_e cy n_c_places c_sizeAt x7 f5) H := hP
    have hD : va_D A (w_X7_removeFirst h0 h_numbers h_places h_places_e cy n_c_places c_sizeAt x7 f5) := hD
    subst hQe
    exact W.vret hx hb hr (fun t ht hW => ⟨⟨(x7, f5), rfl, hw, by rw [ht]; exact hP, va_K.moved hW.alike hK, hD⟩, hS.F ht⟩) hS.2.2 dX7_removeFirst_41
abbrev w_X8_giveUpFirst (h0 h_numbers h_book h_line h_buffer k1 k1_whole k1_came h_book_records h_book_delays h_line_places : Nat) (h_line_places_e : Nat → Nat → Nat) (cy : Nat → ClassId) (c_numbers : Nat → Int32) (p1_number : Int32) (p1_sent : Int32) (p1_over : Int32) (p1_pieceBytes : Int32) (c_book_records : Nat → Int32) (c_line_sizeAt : Int32) (c_line_head : Int32) : va_W := [(h0, .inr (8, [.ref h_numbers, .ref h_book, .ref h_line, .ref h_buffer])), (h_numbers, .inl (cy 0, 54, .inl c_numbers)), (k1, .inr (5, [.int p1_number, .int p1_sent, .int p1_over, .int p1_pieceBytes, .ref k1_whole, .ref k1_came])), (h_book, .inr (0, [.ref h_book_records, .ref h_book_delays])), (h_book_records, .inl (cy 0, 2500, .inl c_book_records)), (h_line, .inr (7, [.ref h_numbers, .int c_line_sizeAt, .ref h_line_places, .int c_line_head])), (h_line_places, .inl (cy 4, 6, .inr (.inr (.inr (.inr (rowF h_line_places_e))))))]
def wp_X8_giveUpFirst (c_numbers : Nat → Int32) (p1_number : Int32) (c_book_records : Nat → Int32) (c_line_sizeAt : Int32) (c_line_head : Int32) (post : (Nat → Int32) → (Nat → Int32) → Int32 → Prop) : Prop :=
  ∀ f3 : Nat → Int32, f3 = upd c_numbers 4 ((c_numbers 4) + (1 : Int32)) → wp_X0_setStatus p1_number (3 : Int32) c_book_records (fun f4 => wp_X7_removeFirst 6 c_line_sizeAt c_line_head f3 (fun x5 f6 => post f6 f4 x5))
set_option maxHeartbeats 4000000 in
set_option maxRecDepth 100000 in
theorem c_X8_giveUpFirst (l : Launch) (dC : Nat → ClassId) (dI : Nat → Nat → Nat) (cy : Nat → ClassId) (h0 h_numbers h_book h_line h_buffer k1 k1_whole k1_came h_book_records h_book_delays h_line_places : Nat) (h_line_places_e : Nat → Nat → Nat) (sz : Nat) (c_numbers : Nat → Int32) (p1_number : Int32) (p1_sent : Int32) (p1_over : Int32) (p1_pieceBytes : Int32) (c_book_records : Nat → Int32) (c_line_sizeAt : Int32) (c_line_head : Int32) (post : (Nat → Int32) → (Nat → Int32) → Int32 → Prop) (hw : wp_X8_giveUpFirst c_numbers p1_number c_book_records c_line_sizeAt c_line_head post) : Met l yX8_giveUpFirst wsX8_giveUpFirst ({ frames := 2, cells := 0, slots := 0, locals := 44 }) (PX dC dI cy [.ref h0, .ref k1] sz (w_X8_giveUpFirst h0 h_numbers h_book h_line h_buffer k1 k1_whole k1_came h_book_records h_book_delays h_line_places h_line_places_e cy c_numbers p1_number p1_sent p1_over p1_pieceBytes c_book_records c_line_sizeAt c_line_head)) (va_Qv (fun (u : (Nat → Int32) × (Nat → Int32) × Int32) => post u.1 u.2.1 u.2.2) (QX dC dI cy (va_A (w_X8_giveUpFirst h0 h_numbers h_book h_line h_buffer k1 k1_whole k1_came h_book_records h_book_delays h_line_places h_line_places_e cy c_numbers p1_number p1_sent p1_over p1_pieceBytes c_book_records c_line_sizeAt c_line_head) sz) (fun (u : (Nat → Int32) × (Nat → Int32) × Int32) => w_X8_giveUpFirst h0 h_numbers h_book h_line h_buffer k1 k1_whole k1_came h_book_records h_book_delays h_line_places h_line_places_e cy u.1 p1_number p1_sent p1_over p1_pieceBytes u.2.1 c_line_sizeAt u.2.2)) (va_A (w_X8_giveUpFirst h0 h_numbers h_book h_line h_buffer k1 k1_whole k1_came h_book_records h_book_delays h_line_places h_line_places_e cy c_numbers p1_number p1_sent p1_over p1_pieceBytes c_book_records c_line_sizeAt c_line_head) sz)) 0 0 (va_A (w_X8_giveUpFirst h0 h_numbers h_book h_line h_buffer k1 k1_whole k1_came h_book_records h_book_delays h_line_places h_line_places_e cy c_numbers p1_number p1_sent p1_over p1_pieceBytes c_book_records c_line_sizeAt c_line_head) sz) := by
  refine Met.ofW (cc := cX8_giveUpFirst) (maxL := 2) (ret := none) (by decide) rfl ?_
  intro p e s m args below meth c s₁ B hml hv
  obtain ⟨rfl, hsz, hP, hK, hD0, hG⟩ := hv
  have hx := B.exec
  have hb := B.bytes
  have hr := B.returns
  have hts := atoms_spec (ws := wsX8_giveUpFirst) B.pre
  have hown : s.vm.findClass RX8 = some m.cls := findClass_of_methodNamed B.named
  have hlocks := B.notSynchronized
  subst hsz
  have hD := hD0.self (sz := s.heap.size)
  generalize hAe : va_A (w_X8_giveUpFirst h0 h_numbers h_book h_line h_buffer k1 k1_whole k1_came h_book_records h_book_delays h_line_places h_line_places_e cy c_numbers p1_number p1_sent p1_over p1_pieceBytes c_book_records c_line_sizeAt c_line_head) s.heap.size = A at hD ⊢
  have hA : ∀ q : Nat, s.heap.size ≤ q → A q := fun q h => by rw [← hAe]; exact Or.inr h
  have hS : va_S A s.heap s.heap [] := va_S.rf
  have hl := lv_entry ([.ref h0, .ref k1]) (n := 2) (Nat.le_of_ble_eq_true rfl)
  rw [lg_entry_eq]
  generalize (lg_sl ([.ref h0, .ref k1]) ++ List.replicate (2 - (lg_sl ([.ref h0, .ref k1])).length) Slot.unset).toArray = ls at hl ⊢
  have hl : lv_has ls 2 [(0, .ref h0), (1, .ref k1)] := hl
  have inX5 : ∀ w ∈ u_ws RX5 TX5 6, w ∈ wsX8_giveUpFirst := fun w h => List.mem_cons_of_mem _ (inlX5 w h)
  have inX8 : ∀ w ∈ u_ws RX8 TX8 4, w ∈ wsX8_giveUpFirst := fun w h => List.mem_cons_of_mem _ (inlX8 w h)
  clear hAe hD0 B
  unfold wp_X8_giveUpFirst at hw
  generalize hQe : MQ below _ _ s _ _ _ = Q0
  generalize ([.ref h0, .ref k1] : List Value).toArray = av at *
  obtain ⟨H, hH⟩ : ∃ H, H = s.heap := ⟨_, rfl⟩
  obtain ⟨locs, hlo⟩ : ∃ L : List Loc, L = [] := ⟨_, rfl⟩
  have hP : va_P (dC, dI) vwCl (w_X8_giveUpFirst h0 h_numbers h_book h_line h_buffer k1 k1_whole k1_came h_book_records h_book_delays h_line_places h_line_places_e cy c_numbers p1_number p1_sent p1_over p1_pieceBytes c_book_records c_line_sizeAt c_line_head) H := by rw [hH]; exact hP
  have hS : va_S A s.heap H locs := by rw [hH, hlo]; exact hS
  suffices hgo : W p l e ({ frames := 2, cells := 0, slots := 0, locals := 44 }) s m av below meth c H locs 0 0 Q0 (F0 m 0 ls []) by rw [hH, hlo] at hgo; exact hgo
  clear hH hlo
  refine lv_aload_n hx hb dX8_giveUpFirst_0 rfl (lv_at hl 0 rfl) ?_
  refine va_get (D := (dC, dI)) (ci := 8) (v := .ref h_numbers) (C := RX8) (T := TX8) (N := 4) hx hb hts inX8 hown hK hP 0 rfl rfl 0 (by decide) (hts _ (List.mem_cons_of_mem _ mw_135)) (fun _ h9 => h9) rfl dX8_giveUpFirst_1 ?_
  refine lv_iconst (v := 4) hx hb dX8_giveUpFirst_4 (by decide) ?_
  refine lv_dup2_11 hx hb dX8_giveUpFirst_5 rfl rfl ?_
  refine xiald (k := 4) hx hb hK hP 1 0 rfl rfl (by decide) (by decide) dX8_giveUpFirst_6 ?_
  refine lv_iconst (v := 1) hx hb dX8_giveUpFirst_7 (by decide) ?_
  refine lv_iadd hx hb dX8_giveUpFirst_8 ?_
  refine xiast (k := 4) hx hb hK hP hD hS 1 0 rfl rfl (by decide) (by decide) dX8_giveUpFirst_9 (fun f3 e_f3 H locs hP hD hS => ?_)
  replace hw := hw f3 e_f3
  clear e_f3
  have hP : va_P (dC, dI) vwCl (w_X8_giveUpFirst h0 h_numbers h_book h_line h_buffer k1 k1_whole k1_came h_book_records h_book_delays h_line_places h_line_places_e cy f3 p1_number p1_sent p1_over p1_pieceBytes c_book_records c_line_sizeAt c_line_head) H := hP
  have hD : va_D A (w_X8_giveUpFirst h0 h_numbers h_book h_line h_buffer k1 k1_whole k1_came h_book_records h_book_delays h_line_places h_line_places_e cy f3 p1_number p1_sent p1_over p1_pieceBytes c_book_records c_line_sizeAt c_line_head) := hD
  refine lv_aload_n hx hb dX8_giveUpFirst_10 rfl (lv_at hl 0 rfl) ?_
  refine va_get (D := (dC, dI)) (ci := 8) (v := .ref h_book) (C := RX8) (T := TX8) (N := 4) hx hb hts inX8 hown hK hP 0 rfl rfl 1 (by decide) (hts _ (List.mem_cons_of_mem _ mw_136)) (fun _ h9 => h9) rfl dX8_giveUpFirst_11 ?_
  refine lv_aload_n hx hb dX8_giveUpFirst_14 rfl (lv_at hl 1 rfl) ?_
  refine va_get (D := (dC, dI)) (ci := 5) (v := .int p1_number) (C := RX5) (T := TX5) (N := 6) hx hb hts inX5 hown hK hP 2 rfl rfl 0 (by decide) (hts _ (List.mem_cons_of_mem _ mw_417)) (fun _ h9 => h9) rfl dX8_giveUpFirst_15 ?_
  refine lv_iconst (v := 3) hx hb dX8_giveUpFirst_18 (by decide) ?_
  have hPc := pSub (ws' := (w_X0_setStatus h_book h_book_records h_book_delays cy c_book_records)) hP [3, 4] rfl
  have hDc := dSub (ws' := (w_X0_setStatus h_book h_book_records h_book_delays cy c_book_records)) hD [3, 4] (by decide) rfl
  have hFc := va_free (wc := (w_X0_setStatus h_book h_book_records h_book_delays cy c_book_records)) hD hS hA [3, 4] rfl
  refine va_callv (va_runV (As := [.int p1_number, .int (3 : Int32)]) (rest := []) ⟨hx, hb, hml, hown, hts⟩ (c_X0_setStatus l dC dI cy h_book h_book_records h_book_delays H.size p1_number (3 : Int32) c_book_records _ hw) (cwV 2 hts (goodV mw_405 mw_402 mw_403 mw_404 mw_40) rfl rfl rfl (by decide +kernel) ⟨Nat.le_of_ble_eq_true rfl, Nat.le_of_ble_eq_true rfl⟩) ⟨PX_blind, va_recv hK hPc (ci := 0) (q0 := 0) rfl rfl, PX_pre hPc hK hDc hG⟩ rfl rfl hl.1 rfl (lv_room (Nat.le_of_ble_eq_true rfl)) dX8_giveUpFirst_19 ⟨Nat.zero_le _, Nat.zero_le _⟩) hS (fun q _ h => hFc q h) hFc (fun f4 t H locs ht hvm hw hB hz1 hk1 hS => ?_)
  obtain ⟨hP1, -, -⟩ := hB
  rw [ht] at hP1
  obtain ⟨hP, hD⟩ := jI hP hD [3, 4] rfl rfl hk1 hP1
  have hP : va_P (dC, dI) vwCl (w_X8_giveUpFirst h0 h_numbers h_book h_line h_buffer k1 k1_whole k1_came h_book_records h_book_delays h_line_places h_line_places_e cy f3 p1_number p1_sent p1_over p1_pieceBytes f4 c_line_sizeAt c_line_head) H := hP
  have hD : va_D A (w_X8_giveUpFirst h0 h_numbers h_book h_line h_buffer k1 k1_whole k1_came h_book_records h_book_delays h_line_places h_line_places_e cy f3 p1_number p1_sent p1_over p1_pieceBytes f4 c_line_sizeAt c_line_head) := hD
  clear hPc hDc hFc hP1 hk1 hz1 hvm ht
  refine W.widen (k := 0) (n := 0) (Nat.le_refl 0) (Nat.le_refl 0) ?_
  refine lv_aload_n hx hb dX8_giveUpFirst_22 rfl (lv_at hl 0 rfl) ?_
  refine va_get (D := (dC, dI)) (ci := 8) (v := .ref h_line) (C := RX8) (T := TX8) (N := 4) hx hb hts inX8 hown hK hP 0 rfl rfl 2 (by decide) (hts _ (List.mem_cons_of_mem _ mw_139)) (fun _ h9 => h9) rfl dX8_giveUpFirst_23 ?_
  have hPc := pSub (ws' := (w_X7_removeFirst h_line h_numbers h_line_places h_line_places_e cy 6 c_line_sizeAt c_line_head f3)) hP [5, 1, 6] rfl
  have hDc := dSub (ws' := (w_X7_removeFirst h_line h_numbers h_line_places h_line_places_e cy 6 c_line_sizeAt c_line_head f3)) hD [5, 1, 6] (by decide) rfl
  have hFc := va_free (wc := (w_X7_removeFirst h_line h_numbers h_line_places h_line_places_e cy 6 c_line_sizeAt c_line_head f3)) hD hS hA [5, 1, 6] rfl
  refine va_callv (va_runV (As := []) (rest := []) ⟨hx, hb, hml, hown, hts⟩ (c_X7_removeFirst l dC dI cy h_line h_numbers h_line_places h_line_places_e 6 H.size c_line_sizeAt c_line_head f3 _ hw) (cwV 0 hts (goodV mw_431 mw_428 mw_429 mw_430 mw_44) rfl rfl rfl (by decide +kernel) ⟨Nat.le_of_ble_eq_true rfl, Nat.le_of_ble_eq_true rfl⟩) ⟨PX_blind, va_recv hK hPc (ci := 7) (q0 := 0) rfl rfl, PX_pre hPc hK hDc hG⟩ rfl rfl hl.1 rfl (lv_room (Nat.le_of_ble_eq_true rfl)) dX8_giveUpFirst_26 ⟨Nat.zero_le _, Nat.zero_le _⟩) hS (fun q _ h => hFc q h) hFc (fun u t H locs ht hvm hw hB hz1 hk1 hS => ?_)
  obtain ⟨x5, f6⟩ := u
  obtain ⟨hP1, -, -⟩ := hB
  rw [ht] at hP1
  obtain ⟨hP, hD⟩ := jI hP hD [5, 1, 6] rfl rfl hk1 hP1
  have hP : va_P (dC, dI) vwCl (w_X8_giveUpFirst h0 h_numbers h_book h_line h_buffer k1 k1_whole k1_came h_book_records h_book_delays h_line_places h_line_places_e cy f6 p1_number p1_sent p1_over p1_pieceBytes f4 c_line_sizeAt x5) H := hP
  have hD : va_D A (w_X8_giveUpFirst h0 h_numbers h_book h_line h_buffer k1 k1_whole k1_came h_book_records h_book_delays h_line_places h_line_places_e cy f6 p1_number p1_sent p1_over p1_pieceBytes f4 c_line_sizeAt x5) := hD
  clear hPc hDc hFc hP1 hk1 hz1 hvm ht
  refine W.widen (k := 0) (n := 0) (Nat.le_refl 0) (Nat.le_refl 0) ?_
  subst hQe
  exact W.vret hx hb hr (fun t ht hW => ⟨⟨(f6, f4, x5), rfl, hw, by rw [ht]; exact hP, va_K.moved hW.alike hK, hD⟩, hS.F ht⟩) hS.2.2 dX8_giveUpFirst_29
abbrev s_X8_giveUpLateOnes (h0 h_numbers h_book h_line h_buffer h_line_places h_book_records h_book_delays : Nat) (h_line_places_e : Nat → Nat → Nat) (cy : Nat → ClassId) (c_line_sizeAt : Int32) (c_line_head : Int32) (c_numbers : Nat → Int32) (c_book_records : Nat → Int32) : va_W := [(h0, .inr (8, [.ref h_numbers, .ref h_book, .ref h_line, .ref h_buffer])), (h_line, .inr (7, [.ref h_numbers, .int c_line_sizeAt, .ref h_line_places, .int c_line_head])), (h_numbers, .inl (cy 0, 54, .inl c_numbers)), (h_line_places, .inl (cy 4, 6, .inr (.inr (.inr (.inr (rowF h_line_places_e)))))), (h_book, .inr (0, [.ref h_book_records, .ref h_book_delays])), (h_book_records, .inl (cy 0, 2500, .inl c_book_records))]
abbrev w_X8_giveUpLateOnes (h0 h_numbers h_book h_line h_buffer h_line_places h_book_records h_book_delays : Nat) (h_line_places_e : Nat → Nat → Nat) (cy : Nat → ClassId) (c_line_sizeAt : Int32) (c_line_head : Int32) (c_numbers : Nat → Int32) (c_book_records : Nat → Int32) (c_line_places_number : Nat → Int32) (c_line_places_sent : Nat → Int32) (c_line_places_over : Nat → Int32) (c_line_places_pieceBytes : Nat → Int32) (c_line_places_whole_bytes : Nat → Nat → Int32) (c_line_places_whole_size : Nat → Int32) (c_line_places_whole_at : Nat → Int32) (c_line_places_came_bytes : Nat → Nat → Int32) (c_line_places_came_size : Nat → Int32) (c_line_places_came_at : Nat → Int32) : va_W := ([(h0, .inr (8, [.ref h_numbers, .ref h_book, .ref h_line, .ref h_buffer])), (h_line, .inr (7, [.ref h_numbers, .int c_line_sizeAt, .ref h_line_places, .int c_line_head])), (h_numbers, .inl (cy 0, 54, .inl c_numbers)), (h_line_places, .inl (cy 4, 6, .inr (.inr (.inr (.inr (rowF h_line_places_e)))))), (h_book, .inr (0, [.ref h_book_records, .ref h_book_delays])), (h_book_records, .inl (cy 0, 2500, .inl c_book_records))] : va_W) ++ (fam 6 (pkF h_line_places_e cy c_line_places_number c_line_places_sent c_line_places_over c_line_places_pieceBytes c_line_places_whole_bytes c_line_places_whole_size c_line_places_whole_at c_line_places_came_bytes c_line_places_came_size c_line_places_came_at) ++ [])
def wp_X8_giveUpLateOnes (v1 : Int32) (c_line_sizeAt : Int32) (c_line_head : Int32) (c_numbers : Nat → Int32) (c_book_records : Nat → Int32) (c_line_places_number : Nat → Int32) (post : Int32 → (Nat → Int32) → (Nat → Int32) → Prop) : Prop :=
  ∀ x1, x1 = (0 : Int32) → Lz4 (fun g2 (x4 : Int32) (x5 : Int32) (f6 : (Nat → Int32)) (f7 : (Nat → Int32)) => ((6 : Int32) ≤ x4 → post x5 f6 f7) ∧ (¬ (6 : Int32) ≤ x4 → wp_X7_at 6 (0 : Int32) c_line_sizeAt x5 f6 (fun r9 => (r9 = none → post x5 f6 f7) ∧ (∀ j10, r9 = some j10 → j10 < 6 ∧ ((((4 : Int32) * (c_line_places_number j10)) + (f6 24)) ≤ v1 → wp_X8_giveUpFirst f6 (c_line_places_number j10) f7 c_line_sizeAt x5 (fun f14 f15 x16 => ∀ f18 : Nat → Int32, f18 = upd f14 38 (1 : Int32) → g2 (x4 + 1) x16 f18 f15)) ∧ (¬ (((4 : Int32) * (c_line_places_number j10)) + (f6 24)) ≤ v1 → post x5 f6 f7))))) x1 c_line_head c_numbers c_book_records
set_option maxHeartbeats 4000000 in
set_option maxRecDepth 100000 in
theorem c_X8_giveUpLateOnes (l : Launch) (dC : Nat → ClassId) (dI : Nat → Nat → Nat) (cy : Nat → ClassId) (h0 h_numbers h_book h_line h_buffer h_line_places h_book_records h_book_delays : Nat) (h_line_places_e : Nat → Nat → Nat) (sz : Nat) (v1 : Int32) (c_line_sizeAt : Int32) (c_line_head : Int32) (c_numbers : Nat → Int32) (c_book_records : Nat → Int32) (c_line_places_number : Nat → Int32) (c_line_places_sent : Nat → Int32) (c_line_places_over : Nat → Int32) (c_line_places_pieceBytes : Nat → Int32) (c_line_places_whole_bytes : Nat → Nat → Int32) (c_line_places_whole_size : Nat → Int32) (c_line_places_whole_at : Nat → Int32) (c_line_places_came_bytes : Nat → Nat → Int32) (c_line_places_came_size : Nat → Int32) (c_line_places_came_at : Nat → Int32) (post : Int32 → (Nat → Int32) → (Nat → Int32) → Prop) (hw : wp_X8_giveUpLateOnes v1 c_line_sizeAt c_line_head c_numbers c_book_records c_line_places_number post) : Met l yX8_giveUpLateOnes wsX8_giveUpLateOnes ({ frames := 3, cells := 0, slots := 0, locals := 65 }) (PX dC dI cy [.ref h0, .int v1] sz (w_X8_giveUpLateOnes h0 h_numbers h_book h_line h_buffer h_line_places h_book_records h_book_delays h_line_places_e cy c_line_sizeAt c_line_head c_numbers c_book_records c_line_places_number c_line_places_sent c_line_places_over c_line_places_pieceBytes c_line_places_whole_bytes c_line_places_whole_size c_line_places_whole_at c_line_places_came_bytes c_line_places_came_size c_line_places_came_at)) (va_Qv (fun (u : Int32 × (Nat → Int32) × (Nat → Int32)) => post u.1 u.2.1 u.2.2) (QX dC dI cy (va_A (w_X8_giveUpLateOnes h0 h_numbers h_book h_line h_buffer h_line_places h_book_records h_book_delays h_line_places_e cy c_line_sizeAt c_line_head c_numbers c_book_records c_line_places_number c_line_places_sent c_line_places_over c_line_places_pieceBytes c_line_places_whole_bytes c_line_places_whole_size c_line_places_whole_at c_line_places_came_bytes c_line_places_came_size c_line_places_came_at) sz) (fun (u : Int32 × (Nat → Int32) × (Nat → Int32)) => w_X8_giveUpLateOnes h0 h_numbers h_book h_line h_buffer h_line_places h_book_records h_book_delays h_line_places_e cy c_line_sizeAt u.1 u.2.1 u.2.2 c_line_places_number c_line_places_sent c_line_places_over c_line_places_pieceBytes c_line_places_whole_bytes c_line_places_whole_size c_line_places_whole_at c_line_places_came_bytes c_line_places_came_size c_line_places_came_at)) (va_A (w_X8_giveUpLateOnes h0 h_numbers h_book h_line h_buffer h_line_places h_book_records h_book_delays h_line_places_e cy c_line_sizeAt c_line_head c_numbers c_book_records c_line_places_number c_line_places_sent c_line_places_over c_line_places_pieceBytes c_line_places_whole_bytes c_line_places_whole_size c_line_places_whole_at c_line_places_came_bytes c_line_places_came_size c_line_places_came_at) sz)) 0 0 (va_A (w_X8_giveUpLateOnes h0 h_numbers h_book h_line h_buffer h_line_places h_book_records h_book_delays h_line_places_e cy c_line_sizeAt c_line_head c_numbers c_book_records c_line_places_number c_line_places_sent c_line_places_over c_line_places_pieceBytes c_line_places_whole_bytes c_line_places_whole_size c_line_places_whole_at c_line_places_came_bytes c_line_places_came_size c_line_places_came_at) sz) := by
  refine Met.ofW (cc := cX8_giveUpLateOnes) (maxL := 4) (ret := none) (by decide) rfl ?_
  intro p e s m args below meth c s₁ B hml hv
  obtain ⟨rfl, hsz, hP, hK, hD0, hG⟩ := hv
  have hx := B.exec
  have hb := B.bytes
  have hr := B.returns
  have hts := atoms_spec (ws := wsX8_giveUpLateOnes) B.pre
  have hown : s.vm.findClass RX8 = some m.cls := findClass_of_methodNamed B.named
  have hlocks := B.notSynchronized
  subst hsz
  have hD := hD0.self (sz := s.heap.size)
  generalize hAe : va_A (w_X8_giveUpLateOnes h0 h_numbers h_book h_line h_buffer h_line_places h_book_records h_book_delays h_line_places_e cy c_line_sizeAt c_line_head c_numbers c_book_records c_line_places_number c_line_places_sent c_line_places_over c_line_places_pieceBytes c_line_places_whole_bytes c_line_places_whole_size c_line_places_whole_at c_line_places_came_bytes c_line_places_came_size c_line_places_came_at) s.heap.size = A at hD ⊢
  have hA : ∀ q : Nat, s.heap.size ≤ q → A q := fun q h => by rw [← hAe]; exact Or.inr h
  have hS : va_S A s.heap s.heap [] := va_S.rf
  have hl := lv_entry ([.ref h0, .int v1]) (n := 4) (Nat.le_of_ble_eq_true rfl)
  rw [lg_entry_eq]
  generalize (lg_sl ([.ref h0, .int v1]) ++ List.replicate (4 - (lg_sl ([.ref h0, .int v1])).length) Slot.unset).toArray = ls at hl ⊢
  have hl : lv_has ls 4 [(0, .ref h0), (1, .int v1)] := hl
  have inX5 : ∀ w ∈ u_ws RX5 TX5 6, w ∈ wsX8_giveUpLateOnes := fun w h => List.mem_cons_of_mem _ (inlX5 w h)
  have inX8 : ∀ w ∈ u_ws RX8 TX8 4, w ∈ wsX8_giveUpLateOnes := fun w h => List.mem_cons_of_mem _ (inlX8 w h)
  clear hAe hD0 B
  unfold wp_X8_giveUpLateOnes at hw
  generalize hQe : MQ below _ _ s _ _ _ = Q0
  generalize ([.ref h0, .int v1] : List Value).toArray = av at *
  obtain ⟨H, hH⟩ : ∃ H, H = s.heap := ⟨_, rfl⟩
  obtain ⟨locs, hlo⟩ : ∃ L : List Loc, L = [] := ⟨_, rfl⟩
  have hP : va_P (dC, dI) vwCl (w_X8_giveUpLateOnes h0 h_numbers h_book h_line h_buffer h_line_places h_book_records h_book_delays h_line_places_e cy c_line_sizeAt c_line_head c_numbers c_book_records c_line_places_number c_line_places_sent c_line_places_over c_line_places_pieceBytes c_line_places_whole_bytes c_line_places_whole_size c_line_places_whole_at c_line_places_came_bytes c_line_places_came_size c_line_places_came_at) H := by rw [hH]; exact hP
  have hS : va_S A s.heap H locs := by rw [hH, hlo]; exact hS
  suffices hgo : W p l e ({ frames := 3, cells := 0, slots := 0, locals := 65 }) s m av below meth c H locs 0 0 Q0 (F0 m 0 ls []) by rw [hH, hlo] at hgo; exact hgo
  clear hH hlo
  refine lv_iconst (v := 0) hx hb dX8_giveUpLateOnes_0 (by decide) ?_
  refine lv_istore_n (lv' := [(2, .int (0 : Int32)), (0, .ref h0), (1, .int v1)]) hx hb dX8_giveUpLateOnes_1 rfl hl (by decide) rfl (fun ls hl => ?_)
  obtain ⟨x1, e_x1⟩ : ∃ y : Int32, y = (0 : Int32) := ⟨_, rfl⟩
  replace hw := hw x1 e_x1
  have hl : lv_has ls 4 [(2, .int x1), (0, .ref h0), (1, .int v1)] := by rw [e_x1]; exact hl
  clear e_x1
  replace hl := lv_sub (l' := [(2, .int x1), (0, .ref h0), (1, .int v1)]) hl [0, 1, 2] rfl
  revert hl hS hD hP
  revert ls locs H
  refine Lz4_go hw (fun g2 ih3 x4 x5 f6 f7 hw => ?_)
  intro H locs ls hP hD hS hl
  refine lv_iload_n hx hb dX8_giveUpLateOnes_2 rfl (lv_at hl 0 rfl) ?_
  refine lv_bipush (v := 6) hx hb dX8_giveUpLateOnes_3 (by decide) ?_
  refine lv_icmp_ge (tgt := 59) hx hb dX8_giveUpLateOnes_5 (by decide) (fun c8 => ?_) (fun c8 => ?_)
  · replace hw := hw.1 c8
    subst hQe
    exact W.vret hx hb hr (fun t ht hW => ⟨⟨(x5, f6, f7), rfl, hw, by rw [ht]; exact hP, va_K.moved hW.alike hK, hD⟩, hS.F ht⟩) hS.2.2 dX8_giveUpLateOnes_59
  · replace hw := hw.2 c8
    refine lv_aload_n hx hb dX8_giveUpLateOnes_8 rfl (lv_at hl 1 rfl) ?_
    refine va_get (D := (dC, dI)) (ci := 8) (v := .ref h_line) (C := RX8) (T := TX8) (N := 4) hx hb hts inX8 hown hK hP 0 rfl rfl 2 (by decide) (hts _ (List.mem_cons_of_mem _ mw_139)) (fun _ h9 => h9) rfl dX8_giveUpLateOnes_9 ?_
    refine lv_iconst (v := 0) hx hb dX8_giveUpLateOnes_12 (by decide) ?_
    have hPc := pSub (ws' := (w_X7_at h_line h_numbers h_line_places h_line_places_e cy 6 c_line_sizeAt x5 f6)) hP [1, 2, 3] rfl
    have hDc := dSub (ws' := (w_X7_at h_line h_numbers h_line_places h_line_places_e cy 6 c_line_sizeAt x5 f6)) hD [1, 2, 3] (by decide) rfl
    have hFc := va_free (wc := (w_X7_at h_line h_numbers h_line_places h_line_places_e cy 6 c_line_sizeAt x5 f6)) hD hS hA [1, 2, 3] rfl
    refine va_callq (va_runV (As := [.int (0 : Int32)]) (rest := []) ⟨hx, hb, hml, hown, hts⟩ (c_X7_at l dC dI cy h_line h_numbers h_line_places h_line_places_e 6 H.size (0 : Int32) c_line_sizeAt x5 f6 _ hw) (cwV 1 hts (goodV mw_387 mw_423 mw_385 mw_386 mw_44) rfl rfl rfl (by decide +kernel) ⟨Nat.le_of_ble_eq_true rfl, Nat.le_of_ble_eq_true rfl⟩) ⟨PX_blind, va_recv hK hPc (ci := 7) (q0 := 0) rfl rfl, PX_pre hPc hK hDc hG⟩ rfl rfl hl.1 rfl (lv_room (Nat.le_of_ble_eq_true rfl)) dX8_giveUpLateOnes_13 ⟨Nat.zero_le _, Nat.zero_le _⟩) hS (fun q _ h => hFc q h) hFc (fun r9 _ t H locs ht hvm hw hB hz1 hk1 hS => ?_)
    obtain ⟨hP1, -, -⟩ := hB
    rw [ht] at hP1
    obtain ⟨hP, hD⟩ := jI hP hD [1, 2, 3] rfl rfl hk1 hP1
    have hP : va_P (dC, dI) vwCl (w_X8_giveUpLateOnes h0 h_numbers h_book h_line h_buffer h_line_places h_book_records h_book_delays h_line_places_e cy c_line_sizeAt x5 f6 f7 c_line_places_number c_line_places_sent c_line_places_over c_line_places_pieceBytes c_line_places_whole_bytes c_line_places_whole_size c_line_places_whole_at c_line_places_came_bytes c_line_places_came_size c_line_places_came_at) H := hP
    have hD : va_D A (w_X8_giveUpLateOnes h0 h_numbers h_book h_line h_buffer h_line_places h_book_records h_book_delays h_line_places_e cy c_line_sizeAt x5 f6 f7 c_line_places_number c_line_places_sent c_line_places_over c_line_places_pieceBytes c_line_places_whole_bytes c_line_places_whole_size c_line_places_whole_at c_line_places_came_bytes c_line_places_came_size c_line_places_came_at) := hD
    clear hPc hDc hFc hP1 hk1 hz1 hvm ht
    refine W.widen (k := 0) (n := 0) (Nat.le_refl 0) (Nat.le_refl 0) ?_
    obtain ⟨r9, rfl, hw⟩ := hw
    cases r9 with
    | none =>
      replace hw := hw.1 rfl
      refine lv_astore_nN (lv' := [(3, .null), (2, .int x4), (0, .ref h0), (1, .int v1)]) hx hb dX8_giveUpLateOnes_16 rfl hl (by decide) rfl (fun ls hl => ?_)
      refine lv_aload_nN hx hb dX8_giveUpLateOnes_17 rfl (lv_at hl 0 rfl) ?_
      refine lv_ifnullN (tgt := 39) hx hb dX8_giveUpLateOnes_18 (by decide) ?_
      subst hQe
      exact W.vret hx hb hr (fun t ht hW => ⟨⟨(x5, f6, f7), rfl, hw, by rw [ht]; exact hP, va_K.moved hW.alike hK, hD⟩, hS.F ht⟩) hS.2.2 dX8_giveUpLateOnes_39
    | some j10 =>
      obtain ⟨hj11, hw⟩ := hw.2 j10 rfl
      obtain ⟨hP, hD⟩ := fam_in hP hD hj11
      have hP : va_P (dC, dI) vwCl (s_X8_giveUpLateOnes h0 h_numbers h_book h_line h_buffer h_line_places h_book_records h_book_delays h_line_places_e cy c_line_sizeAt x5 f6 f7 ++ (pk (h_line_places_e j10) cy (c_line_places_number j10) (c_line_places_sent j10) (c_line_places_over j10) (c_line_places_pieceBytes j10) (c_line_places_whole_bytes j10) (c_line_places_whole_size j10) (c_line_places_whole_at j10) (c_line_places_came_bytes j10) (c_line_places_came_size j10) (c_line_places_came_at j10) ++ famX 6 j10 (pkF h_line_places_e cy c_line_places_number c_line_places_sent c_line_places_over c_line_places_pieceBytes c_line_places_whole_bytes c_line_places_whole_size c_line_places_whole_at c_line_places_came_bytes c_line_places_came_size c_line_places_came_at))) H := hP
      have hD : va_D A (s_X8_giveUpLateOnes h0 h_numbers h_book h_line h_buffer h_line_places h_book_records h_book_delays h_line_places_e cy c_line_sizeAt x5 f6 f7 ++ (pk (h_line_places_e j10) cy (c_line_places_number j10) (c_line_places_sent j10) (c_line_places_over j10) (c_line_places_pieceBytes j10) (c_line_places_whole_bytes j10) (c_line_places_whole_size j10) (c_line_places_whole_at j10) (c_line_places_came_bytes j10) (c_line_places_came_size j10) (c_line_places_came_at j10) ++ famX 6 j10 (pkF h_line_places_e cy c_line_places_number c_line_places_sent c_line_places_over c_line_places_pieceBytes c_line_places_whole_bytes c_line_places_whole_size c_line_places_whole_at c_line_places_came_bytes c_line_places_came_size c_line_places_came_at))) := hD
      refine W.eq (g2 := F0 m 16 ls ([.ref (h_line_places_e j10 0)])) rfl ?_
      refine lv_astore_n (lv' := [(3, .ref (h_line_places_e j10 0)), (2, .int x4), (0, .ref h0), (1, .int v1)]) hx hb dX8_giveUpLateOnes_16 rfl hl (by decide) rfl (fun ls hl => ?_)
      refine lv_aload_n hx hb dX8_giveUpLateOnes_17 rfl (lv_at hl 0 rfl) ?_
      refine lv_ifnull hx hb dX8_giveUpLateOnes_18 ?_
      refine lv_iconst (v := 4) hx hb dX8_giveUpLateOnes_21 (by decide) ?_
      refine lv_aload_n hx hb dX8_giveUpLateOnes_22 rfl (lv_at hl 0 rfl) ?_
      refine va_get (D := (dC, dI)) (ci := 5) (v := .int (c_line_places_number j10)) (C := RX5) (T := TX5) (N := 6) hx hb hts inX5 hown hK hP 6 rfl rfl 0 (by decide) (hts _ (List.mem_cons_of_mem _ mw_417)) (fun _ h9 => h9) rfl dX8_giveUpLateOnes_23 ?_
      refine lv_imul hx hb dX8_giveUpLateOnes_26 ?_
      refine lv_aload_n hx hb dX8_giveUpLateOnes_27 rfl (lv_at hl 2 rfl) ?_
      refine va_get (D := (dC, dI)) (ci := 8) (v := .ref h_numbers) (C := RX8) (T := TX8) (N := 4) hx hb hts inX8 hown hK hP 0 rfl rfl 0 (by decide) (hts _ (List.mem_cons_of_mem _ mw_135)) (fun _ h9 => h9) rfl dX8_giveUpLateOnes_28 ?_
      refine lv_bipush (v := 24) hx hb dX8_giveUpLateOnes_31 (by decide) ?_
      refine xiald (k := 24) hx hb hK hP 2 0 rfl rfl (by decide) (by decide) dX8_giveUpLateOnes_33 ?_
      refine lv_iadd hx hb dX8_giveUpLateOnes_34 ?_
      refine lv_iload_n hx hb dX8_giveUpLateOnes_35 rfl (lv_at hl 3 rfl) ?_
      refine lv_icmp_le (tgt := 40) hx hb dX8_giveUpLateOnes_36 (by decide) (fun c13 => ?_) (fun c13 => ?_)
      · replace hw := hw.1 c13
        refine lv_aload_n hx hb dX8_giveUpLateOnes_40 rfl (lv_at hl 2 rfl) ?_
        refine lv_aload_n hx hb dX8_giveUpLateOnes_41 rfl (lv_at hl 0 rfl) ?_
        have hPc := pSub (ws' := (w_X8_giveUpFirst h0 h_numbers h_book h_line h_buffer (h_line_places_e j10 0) (h_line_places_e j10 1) (h_line_places_e j10 3) h_book_records h_book_delays h_line_places h_line_places_e cy f6 (c_line_places_number j10) (c_line_places_sent j10) (c_line_places_over j10) (c_line_places_pieceBytes j10) f7 c_line_sizeAt x5)) hP [0, 2, 6, 4, 5, 1, 3] rfl
        have hDc := dSub (ws' := (w_X8_giveUpFirst h0 h_numbers h_book h_line h_buffer (h_line_places_e j10 0) (h_line_places_e j10 1) (h_line_places_e j10 3) h_book_records h_book_delays h_line_places h_line_places_e cy f6 (c_line_places_number j10) (c_line_places_sent j10) (c_line_places_over j10) (c_line_places_pieceBytes j10) f7 c_line_sizeAt x5)) hD [0, 2, 6, 4, 5, 1, 3] (by decide) rfl
        have hFc := va_free (wc := (w_X8_giveUpFirst h0 h_numbers h_book h_line h_buffer (h_line_places_e j10 0) (h_line_places_e j10 1) (h_line_places_e j10 3) h_book_records h_book_delays h_line_places h_line_places_e cy f6 (c_line_places_number j10) (c_line_places_sent j10) (c_line_places_over j10) (c_line_places_pieceBytes j10) f7 c_line_sizeAt x5)) hD hS hA [0, 2, 6, 4, 5, 1, 3] rfl
        refine va_callv (va_runV (As := [.ref (h_line_places_e j10 0)]) (rest := []) ⟨hx, hb, hml, hown, hts⟩ (c_X8_giveUpFirst l dC dI cy h0 h_numbers h_book h_line h_buffer (h_line_places_e j10 0) (h_line_places_e j10 1) (h_line_places_e j10 3) h_book_records h_book_delays h_line_places h_line_places_e H.size f6 (c_line_places_number j10) (c_line_places_sent j10) (c_line_places_over j10) (c_line_places_pieceBytes j10) f7 c_line_sizeAt x5 _ hw) (cwV 1 hts (goodV mw_427 mw_424 mw_425 mw_426 mw_52) rfl rfl rfl (by decide +kernel) ⟨Nat.le_of_ble_eq_true rfl, Nat.le_of_ble_eq_true rfl⟩) ⟨PX_blind, va_recv hK hPc (ci := 8) (q0 := 0) rfl rfl, PX_pre hPc hK hDc hG⟩ rfl rfl hl.1 rfl (lv_room (Nat.le_of_ble_eq_true rfl)) dX8_giveUpLateOnes_42 ⟨Nat.zero_le _, Nat.zero_le _⟩) hS (fun q _ h => hFc q h) hFc (fun u t H locs ht hvm hw hB hz1 hk1 hS => ?_)
        obtain ⟨f14, f15, x16⟩ := u
        obtain ⟨hP1, -, -⟩ := hB
        rw [ht] at hP1
        obtain ⟨hP, hD⟩ := jI hP hD [0, 2, 6, 4, 5, 1, 3] rfl rfl hk1 hP1
        have hP : va_P (dC, dI) vwCl (s_X8_giveUpLateOnes h0 h_numbers h_book h_line h_buffer h_line_places h_book_records h_book_delays h_line_places_e cy c_line_sizeAt x16 f14 f15 ++ (pk (h_line_places_e j10) cy (c_line_places_number j10) (c_line_places_sent j10) (c_line_places_over j10) (c_line_places_pieceBytes j10) (c_line_places_whole_bytes j10) (c_line_places_whole_size j10) (c_line_places_whole_at j10) (c_line_places_came_bytes j10) (c_line_places_came_size j10) (c_line_places_came_at j10) ++ famX 6 j10 (pkF h_line_places_e cy c_line_places_number c_line_places_sent c_line_places_over c_line_places_pieceBytes c_line_places_whole_bytes c_line_places_whole_size c_line_places_whole_at c_line_places_came_bytes c_line_places_came_size c_line_places_came_at))) H := hP
        have hD : va_D A (s_X8_giveUpLateOnes h0 h_numbers h_book h_line h_buffer h_line_places h_book_records h_book_delays h_line_places_e cy c_line_sizeAt x16 f14 f15 ++ (pk (h_line_places_e j10) cy (c_line_places_number j10) (c_line_places_sent j10) (c_line_places_over j10) (c_line_places_pieceBytes j10) (c_line_places_whole_bytes j10) (c_line_places_whole_size j10) (c_line_places_whole_at j10) (c_line_places_came_bytes j10) (c_line_places_came_size j10) (c_line_places_came_at j10) ++ famX 6 j10 (pkF h_line_places_e cy c_line_places_number c_line_places_sent c_line_places_over c_line_places_pieceBytes c_line_places_whole_bytes c_line_places_whole_size c_line_places_whole_at c_line_places_came_bytes c_line_places_came_size c_line_places_came_at))) := hD
        clear hPc hDc hFc hP1 hk1 hz1 hvm ht
        refine W.widen (k := 0) (n := 0) (Nat.le_refl 0) (Nat.le_refl 0) ?_
        refine lv_aload_n hx hb dX8_giveUpLateOnes_45 rfl (lv_at hl 2 rfl) ?_
        refine va_get (D := (dC, dI)) (ci := 8) (v := .ref h_numbers) (C := RX8) (T := TX8) (N := 4) hx hb hts inX8 hown hK hP 0 rfl rfl 0 (by decide) (hts _ (List.mem_cons_of_mem _ mw_135)) (fun _ h9 => h9) rfl dX8_giveUpLateOnes_46 ?_
        refine lv_bipush (v := 38) hx hb dX8_giveUpLateOnes_49 (by decide) ?_
        refine lv_iconst (v := 1) hx hb dX8_giveUpLateOnes_51 (by decide) ?_
        refine xiast (k := 38) hx hb hK hP hD hS 2 0 rfl rfl (by decide) (by decide) dX8_giveUpLateOnes_52 (fun f18 e_f18 H locs hP hD hS => ?_)
        replace hw := hw f18 e_f18
        clear e_f18
        have hP : va_P (dC, dI) vwCl (s_X8_giveUpLateOnes h0 h_numbers h_book h_line h_buffer h_line_places h_book_records h_book_delays h_line_places_e cy c_line_sizeAt x16 f18 f15 ++ (pk (h_line_places_e j10) cy (c_line_places_number j10) (c_line_places_sent j10) (c_line_places_over j10) (c_line_places_pieceBytes j10) (c_line_places_whole_bytes j10) (c_line_places_whole_size j10) (c_line_places_whole_at j10) (c_line_places_came_bytes j10) (c_line_places_came_size j10) (c_line_places_came_at j10) ++ famX 6 j10 (pkF h_line_places_e cy c_line_places_number c_line_places_sent c_line_places_over c_line_places_pieceBytes c_line_places_whole_bytes c_line_places_whole_size c_line_places_whole_at c_line_places_came_bytes c_line_places_came_size c_line_places_came_at))) H := hP
        have hD : va_D A (s_X8_giveUpLateOnes h0 h_numbers h_book h_line h_buffer h_line_places h_book_records h_book_delays h_line_places_e cy c_line_sizeAt x16 f18 f15 ++ (pk (h_line_places_e j10) cy (c_line_places_number j10) (c_line_places_sent j10) (c_line_places_over j10) (c_line_places_pieceBytes j10) (c_line_places_whole_bytes j10) (c_line_places_whole_size j10) (c_line_places_whole_at j10) (c_line_places_came_bytes j10) (c_line_places_came_size j10) (c_line_places_came_at j10) ++ famX 6 j10 (pkF h_line_places_e cy c_line_places_number c_line_places_sent c_line_places_over c_line_places_pieceBytes c_line_places_whole_bytes c_line_places_whole_size c_line_places_whole_at c_line_places_came_bytes c_line_places_came_size c_line_places_came_at))) := hD
        refine lv_iinc (v := x4 + 1) (lv' := [(2, .int (x4 + 1)), (3, .ref (h_line_places_e j10 0)), (0, .ref h0), (1, .int v1)]) hx hb dX8_giveUpLateOnes_53 hl (k := 1) rfl rfl (by decide) rfl (fun ls hl => ?_)
        refine lv_goto (tgt := 2) hx hb dX8_giveUpLateOnes_56 (by decide) ?_
        obtain ⟨hP, hD⟩ := fam_out (w' := (pkF h_line_places_e cy c_line_places_number c_line_places_sent c_line_places_over c_line_places_pieceBytes c_line_places_whole_bytes c_line_places_whole_size c_line_places_whole_at c_line_places_came_bytes c_line_places_came_size c_line_places_came_at)) hP hD hj11 (by simp [pkF, va_up]) (fun i hi => by simp [pkF, va_up, hi])
        have hP : va_P (dC, dI) vwCl (w_X8_giveUpLateOnes h0 h_numbers h_book h_line h_buffer h_line_places h_book_records h_book_delays h_line_places_e cy c_line_sizeAt x16 f18 f15 c_line_places_number c_line_places_sent c_line_places_over c_line_places_pieceBytes c_line_places_whole_bytes c_line_places_whole_size c_line_places_whole_at c_line_places_came_bytes c_line_places_came_size c_line_places_came_at) H := hP
        have hD : va_D A (w_X8_giveUpLateOnes h0 h_numbers h_book h_line h_buffer h_line_places h_book_records h_book_delays h_line_places_e cy c_line_sizeAt x16 f18 f15 c_line_places_number c_line_places_sent c_line_places_over c_line_places_pieceBytes c_line_places_whole_bytes c_line_places_whole_size c_line_places_whole_at c_line_places_came_bytes c_line_places_came_size c_line_places_came_at) := hD
        exact ih3 (x4 + 1) x16 f18 f15 hw H locs ls hP hD hS (lv_sub hl [0, 2, 3] rfl)
      · replace hw := hw.2 c13
        obtain ⟨hP, hD⟩ := fam_out (w' := (pkF h_line_places_e cy c_line_places_number c_line_places_sent c_line_places_over c_line_places_pieceBytes c_line_places_whole_bytes c_line_places_whole_size c_line_places_whole_at c_line_places_came_bytes c_line_places_came_size c_line_places_came_at)) hP hD hj11 (by simp [pkF, va_up]) (fun i hi => by simp [pkF, va_up, hi])
        have hP : va_P (dC, dI) vwCl (w_X8_giveUpLateOnes h0 h_numbers h_book h_line h_buffer h_line_places h_book_records h_book_delays h_line_places_e cy c_line_sizeAt x5 f6 f7 c_line_places_number c_line_places_sent c_line_places_over c_line_places_pieceBytes c_line_places_whole_bytes c_line_places_whole_size c_line_places_whole_at c_line_places_came_bytes c_line_places_came_size c_line_places_came_at) H := hP
        have hD : va_D A (w_X8_giveUpLateOnes h0 h_numbers h_book h_line h_buffer h_line_places h_book_records h_book_delays h_line_places_e cy c_line_sizeAt x5 f6 f7 c_line_places_number c_line_places_sent c_line_places_over c_line_places_pieceBytes c_line_places_whole_bytes c_line_places_whole_size c_line_places_whole_at c_line_places_came_bytes c_line_places_came_size c_line_places_came_at) := hD
        subst hQe
        exact W.vret hx hb hr (fun t ht hW => ⟨⟨(x5, f6, f7), rfl, hw, by rw [ht]; exact hP, va_K.moved hW.alike hK, hD⟩, hS.F ht⟩) hS.2.2 dX8_giveUpLateOnes_39
