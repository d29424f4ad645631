set_option maxHeartbeats 4000000 in
set_option maxRecDepth 100000 in
theorem c_J7_fill_53178 (l : Launch) (dC : Nat → ClassId) (dI : Nat → Nat → Nat) (cy : Nat → ClassId) (k0 : Nat) (n_p0 : Nat) (sz : Nat) (v1 : Int32) (p0 : Nat → Int32) (post : (Nat → Int32) → Prop) (hw : wp_J7_fill_53178 n_p0 v1 p0 post) : Met l yJ7_fill_53178 wsJ7_fill_53178 ({ frames := 0, cells := 0, slots := 0, locals := 0 }) (PX dC dI cy [.ref k0, .int v1] sz (w_J7_fill_53178 k0 cy n_p0 p0)) (va_Qv (fun (u : (Nat → Int32)) => post u) (QX dC dI cy (va_A (w_J7_fill_53178 k0 cy n_p0 p0) sz) (fun (u : (Nat → Int32)) => w_J7_fill_53178 k0 cy n_p0 u)) (va_A (w_J7_fill_53178 k0 cy n_p0 p0) sz)) 0 0 (va_A (w_J7_fill_53178 k0 cy n_p0 p0) sz) := by
  refine Met.ofW (cc := cJ7_fill_53178) (maxL := 4) (ret := none) (by decide) rfl ?_
  intro p e s m args below meth c s₁ B hml hv
  obtain ⟨rfl, hsz, hP, hK, hD0, hG⟩ := hv
  have hx := B.exec
  have hb := B.bytes
  have hr := B.returns
  have hts := atoms_spec (ws := wsJ7_fill_53178) B.pre
  have hown : s.vm.findClass RJ7 = some m.cls := findClass_of_methodNamed B.named
  have hlocks := B.notSynchronized
  subst hsz
  have hD := hD0.self (sz := s.heap.size)
  generalize hAe : va_A (w_J7_fill_53178 k0 cy n_p0 p0) s.heap.size = A at hD ⊢
  have hA : ∀ q : Nat, s.heap.size ≤ q → A q := fun q h => by rw [← hAe]; exact Or.inr h
  have hS : va_S A s.heap s.heap [] := va_S.rf
  have hl := lv_entry ([.ref k0, .int v1]) (n := 4) (Nat.le_of_ble_eq_true rfl)
  rw [lg_entry_eq]
  generalize (lg_sl ([.ref k0, .int v1]) ++ List.replicate (4 - (lg_sl ([.ref k0, .int v1])).length) Slot.unset).toArray = ls at hl ⊢
  replace hl : lv_has ls 4 [(0, .ref k0), (1, .int v1)] := hl
  clear hAe hD0 B
  unfold wp_J7_fill_53178 at hw
  generalize hQe : MQ below _ _ s _ _ _ = Q0
  generalize ([.ref k0, .int v1] : List Value).toArray = av at *
  obtain ⟨H, hH⟩ : ∃ H, H = s.heap := ⟨_, rfl⟩
  obtain ⟨locs, hlo⟩ : ∃ L : List Loc, L = [] := ⟨_, rfl⟩
  replace hP : va_P (dC, dI) vwCl (w_J7_fill_53178 k0 cy n_p0 p0) H := by rw [hH]; exact hP
  replace hS : va_S A s.heap H locs := by rw [hH, hlo]; exact hS
  suffices hgo : W p l e ({ frames := 0, cells := 0, slots := 0, locals := 0 }) s m av below meth c H locs 0 0 Q0 (F0 m 0 ls []) by rw [hH, hlo] at hgo; exact hgo
  clear hH hlo
  refine lv_iconst (v := 0) hx hb dJ7_fill_53178_0 (by decide) ?_
  refine lv_istore_n (lv' := [(2, .int (0 : Int32)), (0, .ref k0), (1, .int v1)]) hx hb dJ7_fill_53178_1 rfl hl (by decide) rfl ?_; clear hl; clear ls; intro ls hl
  refine lv_aload_n hx hb dJ7_fill_53178_2 rfl (lv_at hl 1 rfl) ?_
  refine va_alen (v := Int32.ofNat n_p0) hx hb hK hP 0 0 rfl rfl rfl dJ7_fill_53178_3 ?_
  refine lv_topi (fun x1 e_x1 => ?_)
  replace hw := hw x1 e_x1
  clear e_x1
  refine lv_istore_n (lv' := [(3, .int x1), (2, .int (0 : Int32)), (0, .ref k0), (1, .int v1)]) hx hb dJ7_fill_53178_4 rfl hl (by decide) rfl ?_; clear hl; clear ls; intro ls hl
  obtain ⟨x2, e_x2⟩ : ∃ y : Int32, y = (0 : Int32) := ⟨_, rfl⟩
  replace hw := hw x2 e_x2
  replace hl : lv_has ls 4 [(3, .int x1), (2, .int x2), (0, .ref k0), (1, .int v1)] := by rw [e_x2]; exact hl
  clear e_x2
  replace hl := lv_sub (l' := [(3, .int x1), (2, .int x2), (0, .ref k0), (1, .int v1)]) hl [0, 1, 2, 3] rfl
  revert hl; revert hS; revert hD; revert hP; revert ls; revert locs; revert H
  revert hw; revert p0; revert x2
  refine Lz2_gr ?_; intro g3 ih4 x5 f6 hw
  intro H locs ls hP hD hS hl
  refine lv_iload_n hx hb dJ7_fill_53178_5 rfl (lv_at hl 1 rfl) ?_
  refine lv_iload_n hx hb dJ7_fill_53178_6 rfl (lv_at hl 0 rfl) ?_
  refine lv_icmp_ge (tgt := 20) hx hb dJ7_fill_53178_7 (by decide) (fun c7 => ?_) (fun c7 => ?_)
  · replace hw := hw.1 c7
    clear ih4
    subst hQe
    exact W.vret hx hb hr (fun t ht hW => ⟨⟨f6, rfl, hw, by rw [ht]; exact hP, va_K.moved hW.alike hK, hD⟩, hS.F ht⟩) hS.2.2 dJ7_fill_53178_20
  · replace hw := hw.2 c7
    refine lv_aload_n hx hb dJ7_fill_53178_10 rfl (lv_at hl 2 rfl) ?_
    refine lv_iload_n hx hb dJ7_fill_53178_11 rfl (lv_at hl 1 rfl) ?_
    refine lv_iload_n hx hb dJ7_fill_53178_12 rfl (lv_at hl 3 rfl) ?_
    obtain ⟨h8, hw⟩ := hw
    refine xiast (k := x5.toNatClampNeg) hx hb hK hP hD hS 0 0 rfl rfl h8 rfl dJ7_fill_53178_13 ?_; clear hP hD hS; clear H locs; intro f9 e_f9 H locs hP hD hS
    replace hw := hw f9 e_f9
    clear e_f9
    replace hP : va_P (dC, dI) vwCl (w_J7_fill_53178 k0 cy n_p0 f9) H := hP
    replace hD : va_D A (w_J7_fill_53178 k0 cy n_p0 f9) := hD
    refine lv_iinc (v := x5 + 1) (lv' := [(2, .int (x5 + 1)), (3, .int x1), (0, .ref k0), (1, .int v1)]) hx hb dJ7_fill_53178_14 hl (k := 1) rfl rfl (by decide) rfl ?_; clear hl; clear ls; intro ls hl
    refine lv_goto (tgt := 5) hx hb dJ7_fill_53178_17 (by decide) ?_
    exact ih4 (x5 + 1) f9 hw H locs ls hP hD hS (lv_sub hl [1, 0, 2, 3] rfl)
set_option maxHeartbeats 4000000 in
set_option maxRecDepth 100000 in
theorem c_X0_clear (l : Launch) (dC : Nat → ClassId) (dI : Nat → Nat → Nat) (cy : Nat → ClassId) (h0 h_records h_delays : Nat) (sz : Nat) (c_records : Nat → Int32) (c_delays : Nat → Int32) (post : (Nat → Int32) → (Nat → Int32) → Prop) (hw : wp_X0_clear c_records c_delays post) : Met l yX0_clear wsX0_clear ({ frames := 1, cells := 0, slots := 0, locals := 23 }) (PX dC dI cy [.ref h0] sz (w_X0_clear h0 h_records h_delays cy c_records c_delays)) (va_Qv (fun (u : (Nat → Int32) × (Nat → Int32)) => post u.1 u.2) (QX dC dI cy (va_A (w_X0_clear h0 h_records h_delays cy c_records c_delays) sz) (fun (u : (Nat → Int32) × (Nat → Int32)) => w_X0_clear h0 h_records h_delays cy u.1 u.2)) (va_A (w_X0_clear h0 h_records h_delays cy c_records c_delays) sz)) 0 0 (va_A (w_X0_clear h0 h_records h_delays cy c_records c_delays) sz) := by
  refine Met.ofW (cc := cX0_clear) (maxL := 1) (ret := none) (by decide) rfl ?_
  intro p e s m args below meth c s₁ B hml hv
  obtain ⟨rfl, hsz, hP, hK, hD0, hG⟩ := hv
  have hx := B.exec
  have hb := B.bytes
  have hr := B.returns
  have hts := atoms_spec (ws := wsX0_clear) B.pre
  have hown : s.vm.findClass RX0 = some m.cls := findClass_of_methodNamed B.named
  have hlocks := B.notSynchronized
  subst hsz
  have hD := hD0.self (sz := s.heap.size)
  generalize hAe : va_A (w_X0_clear h0 h_records h_delays cy c_records c_delays) s.heap.size = A at hD ⊢
  have hA : ∀ q : Nat, s.heap.size ≤ q → A q := fun q h => by rw [← hAe]; exact Or.inr h
  have hS : va_S A s.heap s.heap [] := va_S.rf
  have hl := lv_entry ([.ref h0]) (n := 1) (Nat.le_of_ble_eq_true rfl)
  rw [lg_entry_eq]
  generalize (lg_sl ([.ref h0]) ++ List.replicate (1 - (lg_sl ([.ref h0])).length) Slot.unset).toArray = ls at hl ⊢
  replace hl : lv_has ls 1 [(0, .ref h0)] := hl
  have inX0 : ∀ w ∈ u_ws RX0 TX0 2, w ∈ wsX0_clear := fun w h => List.mem_cons_of_mem _ (inlX0 w h)
  clear hAe hD0 B
  unfold wp_X0_clear at hw
  generalize hQe : MQ below _ _ s _ _ _ = Q0
  generalize ([.ref h0] : List Value).toArray = av at *
  obtain ⟨H, hH⟩ : ∃ H, H = s.heap := ⟨_, rfl⟩
  obtain ⟨locs, hlo⟩ : ∃ L : List Loc, L = [] := ⟨_, rfl⟩
  replace hP : va_P (dC, dI) vwCl (w_X0_clear h0 h_records h_delays cy c_records c_delays) H := by rw [hH]; exact hP
  replace hS : va_S A s.heap H locs := by rw [hH, hlo]; exact hS
  suffices hgo : W p l e ({ frames := 1, cells := 0, slots := 0, locals := 23 }) s m av below meth c H locs 0 0 Q0 (F0 m 0 ls []) by rw [hH, hlo] at hgo; exact hgo
  clear hH hlo
  refine lv_aload_n hx hb dX0_clear_0 rfl (lv_at hl 0 rfl) ?_
  refine va_get (D := (dC, dI)) (ci := 0) (v := .ref h_records) (C := RX0) (T := TX0) (N := 2) hx hb hts inX0 hown hK hP 0 rfl rfl 0 (by decide) (hts _ (List.mem_cons_of_mem _ mw_65)) (fun _ h9 => h9) rfl dX0_clear_1 ?_
  refine lv_iconst (v := 0) hx hb dX0_clear_4 (by decide) ?_
  have hPc := pSub (ws' := (w_J7_fill_53178 h_records cy 2500 c_records)) hP [1] rfl
  have hDc := dSub (ws' := (w_J7_fill_53178 h_records cy 2500 c_records)) hD [1] (by decide) rfl
  have hFc := va_free (wc := (w_J7_fill_53178 h_records cy 2500 c_records)) hD hS hA [1] rfl
  refine va_callv (va_runS (As := [.ref h_records, .int (0 : Int32)]) (rest := []) ⟨hx, hb, hml, hown, hts⟩ (c_J7_fill_53178 l dC dI cy h_records 2500 H.size (0 : Int32) c_records _ hw) (va_cwS 2 hts (goodS mw_356 mw_811 mw_354 mw_355) rfl rfl rfl (by decide +kernel) ⟨Nat.le_of_ble_eq_true rfl, Nat.le_of_ble_eq_true rfl⟩) ⟨PX_blind, PX_pre hPc hK hDc hG⟩ rfl rfl hl.1 rfl (lv_room (Nat.le_of_ble_eq_true rfl)) dX0_clear_5 ⟨Nat.zero_le _, Nat.zero_le _⟩) hS (fun q _ h => hFc q h) hFc ?_; clear hw hS; intro f1 t H1 locs1 ht hvm hw hB hz1 hk1 hS
  obtain ⟨hP1, -, -⟩ := hB
  rw [ht] at hP1
  replace hP := jC0 hP hD [1] [0, 2] rfl hk1 hP1 (w_X0_clear h0 h_records h_delays cy f1 c_delays) rfl rfl rfl 3 rfl (by decide +kernel); clear hD; obtain ⟨hP, hD⟩ := hP
  replace hP : va_P (dC, dI) vwCl (w_X0_clear h0 h_records h_delays cy f1 c_delays) H1 := hP
  replace hD : va_D A (w_X0_clear h0 h_records h_delays cy f1 c_delays) := hD
  clear hPc hDc hFc hP1 hk1 hz1 hvm ht; clear t; clear H locs; obtain ⟨H, hH⟩ : ∃ H, H = H1 := ⟨_, rfl⟩; obtain ⟨locs, hlo⟩ : ∃ L, L = locs1 := ⟨_, rfl⟩; subst hH; subst hlo
  refine W.widen (k := 0) (n := 0) (Nat.le_refl 0) (Nat.le_refl 0) ?_
  refine lv_aload_n hx hb dX0_clear_8 rfl (lv_at hl 0 rfl) ?_
  refine va_get (D := (dC, dI)) (ci := 0) (v := .ref h_delays) (C := RX0) (T := TX0) (N := 2) hx hb hts inX0 hown hK hP 0 rfl rfl 1 (by decide) (hts _ (List.mem_cons_of_mem _ mw_66)) (fun _ h9 => h9) rfl dX0_clear_9 ?_
  refine lv_iconst (v := 0) hx hb dX0_clear_12 (by decide) ?_
  have hPc := pSub (ws' := (w_J7_fill_53178 h_delays cy 16 c_delays)) hP [2] rfl
  have hDc := dSub (ws' := (w_J7_fill_53178 h_delays cy 16 c_delays)) hD [2] (by decide) rfl
  have hFc := va_free (wc := (w_J7_fill_53178 h_delays cy 16 c_delays)) hD hS hA [2] rfl
  refine va_callv (va_runS (As := [.ref h_delays, .int (0 : Int32)]) (rest := []) ⟨hx, hb, hml, hown, hts⟩ (c_J7_fill_53178 l dC dI cy h_delays 16 H.size (0 : Int32) c_delays _ hw) (va_cwS 2 hts (goodS mw_356 mw_811 mw_354 mw_355) rfl rfl rfl (by decide +kernel) ⟨Nat.le_of_ble_eq_true rfl, Nat.le_of_ble_eq_true rfl⟩) ⟨PX_blind, PX_pre hPc hK hDc hG⟩ rfl rfl hl.1 rfl (lv_room (Nat.le_of_ble_eq_true rfl)) dX0_clear_13 ⟨Nat.zero_le _, Nat.zero_le _⟩) hS (fun q _ h => hFc q h) hFc ?_; clear hw hS; intro f2 t H1 locs1 ht hvm hw hB hz1 hk1 hS
  obtain ⟨hP1, -, -⟩ := hB
  rw [ht] at hP1
  replace hP := jC0 hP hD [2] [0, 1] rfl hk1 hP1 (w_X0_clear h0 h_records h_delays cy f1 f2) rfl rfl rfl 3 rfl (by decide +kernel); clear hD; obtain ⟨hP, hD⟩ := hP
  replace hP : va_P (dC, dI) vwCl (w_X0_clear h0 h_records h_delays cy f1 f2) H1 := hP
  replace hD : va_D A (w_X0_clear h0 h_records h_delays cy f1 f2) := hD
  clear hPc hDc hFc hP1 hk1 hz1 hvm ht; clear t; clear H locs; obtain ⟨H, hH⟩ : ∃ H, H = H1 := ⟨_, rfl⟩; obtain ⟨locs, hlo⟩ : ∃ L, L = locs1 := ⟨_, rfl⟩; subst hH; subst hlo
  refine W.widen (k := 0) (n := 0) (Nat.le_refl 0) (Nat.le_refl 0) ?_
  subst hQe
  exact W.vret hx hb hr (fun t ht hW => ⟨⟨(f1, f2), rfl, hw, by rw [ht]; exact hP, va_K.moved hW.alike hK, hD⟩, hS.F ht⟩) hS.2.2 dX0_clear_16
set_option maxHeartbeats 4000000 in
set_option maxRecDepth 100000 in
theorem c_X0_become (l : Launch) (dC : Nat → ClassId) (dI : Nat → Nat → Nat) (cy : Nat → ClassId) (h0 h_records h_delays k1 k1_records k1_delays : Nat) (sz : Nat) (p1_records : Nat → Int32) (c_records : Nat → Int32) (p1_delays : Nat → Int32) (c_delays : Nat → Int32) (post : (Nat → Int32) → (Nat → Int32) → Prop) (hw : wp_X0_become p1_records c_records p1_delays c_delays post) : Met l yX0_become wsX0_become ({ frames := 1, cells := 0, slots := 0, locals := 40 }) (PX dC dI cy [.ref h0, .ref k1] sz (w_X0_become h0 h_records h_delays k1 k1_records k1_delays cy p1_records c_records p1_delays c_delays)) (va_Qv (fun (u : (Nat → Int32) × (Nat → Int32)) => post u.1 u.2) (QX dC dI cy (va_A (w_X0_become h0 h_records h_delays k1 k1_records k1_delays cy p1_records c_records p1_delays c_delays) sz) (fun (u : (Nat → Int32) × (Nat → Int32)) => w_X0_become h0 h_records h_delays k1 k1_records k1_delays cy p1_records u.1 p1_delays u.2)) (va_A (w_X0_become h0 h_records h_delays k1 k1_records k1_delays cy p1_records c_records p1_delays c_delays) sz)) 0 0 (va_A (w_X0_become h0 h_records h_delays k1 k1_records k1_delays cy p1_records c_records p1_delays c_delays) sz) := by
  refine Met.ofW (cc := cX0_become) (maxL := 2) (ret := none) (by decide) rfl ?_
  intro p e s m args below meth c s₁ B hml hv
  obtain ⟨rfl, hsz, hP, hK, hD0, hG⟩ := hv
  have hx := B.exec
  have hb := B.bytes
  have hr := B.returns
  have hts := atoms_spec (ws := wsX0_become) B.pre
  have hown : s.vm.findClass RX0 = some m.cls := findClass_of_methodNamed B.named
  have hlocks := B.notSynchronized
  subst hsz
  have hD := hD0.self (sz := s.heap.size)
  generalize hAe : va_A (w_X0_become h0 h_records h_delays k1 k1_records k1_delays cy p1_records c_records p1_delays c_delays) s.heap.size = A at hD ⊢
  have hA : ∀ q : Nat, s.heap.size ≤ q → A q := fun q h => by rw [← hAe]; exact Or.inr h
  have hS : va_S A s.heap s.heap [] := va_S.rf
  have hl := lv_entry ([.ref h0, .ref k1]) (n := 2) (Nat.le_of_ble_eq_true rfl)
  rw [lg_entry_eq]
  generalize (lg_sl ([.ref h0, .ref k1]) ++ List.replicate (2 - (lg_sl ([.ref h0, .ref k1])).length) Slot.unset).toArray = ls at hl ⊢
  replace hl : lv_has ls 2 [(0, .ref h0), (1, .ref k1)] := hl
  have inX0 : ∀ w ∈ u_ws RX0 TX0 2, w ∈ wsX0_become := fun w h => List.mem_cons_of_mem _ (inlX0 w h)
  clear hAe hD0 B
  unfold wp_X0_become at hw
  generalize hQe : MQ below _ _ s _ _ _ = Q0
  generalize ([.ref h0, .ref k1] : List Value).toArray = av at *
  obtain ⟨H, hH⟩ : ∃ H, H = s.heap := ⟨_, rfl⟩
  obtain ⟨locs, hlo⟩ : ∃ L : List Loc, L = [] := ⟨_, rfl⟩
  replace hP : va_P (dC, dI) vwCl (w_X0_become h0 h_records h_delays k1 k1_records k1_delays cy p1_records c_records p1_delays c_delays) H := by rw [hH]; exact hP
  replace hS : va_S A s.heap H locs := by rw [hH, hlo]; exact hS
  suffices hgo : W p l e ({ frames := 1, cells := 0, slots := 0, locals := 40 }) s m av below meth c H locs 0 0 Q0 (F0 m 0 ls []) by rw [hH, hlo] at hgo; exact hgo
  clear hH hlo
  refine lv_aload_n hx hb dX0_become_0 rfl (lv_at hl 1 rfl) ?_
  refine va_get (D := (dC, dI)) (ci := 0) (v := .ref k1_records) (C := RX0) (T := TX0) (N := 2) hx hb hts inX0 hown hK hP 1 rfl rfl 0 (by decide) (hts _ (List.mem_cons_of_mem _ mw_65)) (fun _ h9 => h9) rfl dX0_become_1 ?_
  refine lv_iconst (v := 0) hx hb dX0_become_4 (by decide) ?_
  refine lv_aload_n hx hb dX0_become_5 rfl (lv_at hl 0 rfl) ?_
  refine va_get (D := (dC, dI)) (ci := 0) (v := .ref h_records) (C := RX0) (T := TX0) (N := 2) hx hb hts inX0 hown hK hP 0 rfl rfl 0 (by decide) (hts _ (List.mem_cons_of_mem _ mw_65)) (fun _ h9 => h9) rfl dX0_become_6 ?_
  refine lv_iconst (v := 0) hx hb dX0_become_9 (by decide) ?_
  refine lv_sipush (v := 2500) hx hb dX0_become_10 (by decide) ?_
  refine xcopyi (k1 := 0) (k2 := 0) (k3 := 2500) hx hb (by rw [hml]; exact hl.1.symm) hown (hts _ (List.mem_cons_of_mem _ mw_847)) (hts _ (List.mem_cons_of_mem _ mw_59)) (hts _ (List.mem_cons_of_mem _ mw_60)) (hts _ (List.mem_cons_of_mem _ mw_61)) hK hP hD hS 2 3 0 0 rfl rfl rfl rfl rfl (by decide) (by decide) (by decide) (by decide) (by decide) (fun _ _ => rfl) (Nat.le_of_ble_eq_true rfl) (Nat.le_of_ble_eq_true rfl) (by decide) (by decide) (by decide) dX0_become_13 ?_; clear hP hD hS; clear H locs; intro f1 e_f1 H locs hP hD hS
  replace hw := hw f1 e_f1
  clear e_f1
  replace hP : va_P (dC, dI) vwCl (w_X0_become h0 h_records h_delays k1 k1_records k1_delays cy p1_records f1 p1_delays c_delays) H := hP
  replace hD : va_D A (w_X0_become h0 h_records h_delays k1 k1_records k1_delays cy p1_records f1 p1_delays c_delays) := hD
  refine lv_aload_n hx hb dX0_become_16 rfl (lv_at hl 1 rfl) ?_
  refine va_get (D := (dC, dI)) (ci := 0) (v := .ref k1_delays) (C := RX0) (T := TX0) (N := 2) hx hb hts inX0 hown hK hP 1 rfl rfl 1 (by decide) (hts _ (List.mem_cons_of_mem _ mw_66)) (fun _ h9 => h9) rfl dX0_become_17 ?_
  refine lv_iconst (v := 0) hx hb dX0_become_20 (by decide) ?_
  refine lv_aload_n hx hb dX0_become_21 rfl (lv_at hl 0 rfl) ?_
  refine va_get (D := (dC, dI)) (ci := 0) (v := .ref h_delays) (C := RX0) (T := TX0) (N := 2) hx hb hts inX0 hown hK hP 0 rfl rfl 1 (by decide) (hts _ (List.mem_cons_of_mem _ mw_66)) (fun _ h9 => h9) rfl dX0_become_22 ?_
  refine lv_iconst (v := 0) hx hb dX0_become_25 (by decide) ?_
  refine lv_bipush (v := 16) hx hb dX0_become_26 (by decide) ?_
  refine xcopyi (k1 := 0) (k2 := 0) (k3 := 16) hx hb (by rw [hml]; exact hl.1.symm) hown (hts _ (List.mem_cons_of_mem _ mw_847)) (hts _ (List.mem_cons_of_mem _ mw_59)) (hts _ (List.mem_cons_of_mem _ mw_60)) (hts _ (List.mem_cons_of_mem _ mw_61)) hK hP hD hS 4 5 0 0 rfl rfl rfl rfl rfl (by decide) (by decide) (by decide) (by decide) (by decide) (fun _ _ => rfl) (Nat.le_of_ble_eq_true rfl) (Nat.le_of_ble_eq_true rfl) (by decide) (by decide) (by decide) dX0_become_28 ?_; clear hP hD hS; clear H locs; intro f2 e_f2 H locs hP hD hS
  replace hw := hw f2 e_f2
  clear e_f2
  replace hP : va_P (dC, dI) vwCl (w_X0_become h0 h_records h_delays k1 k1_records k1_delays cy p1_records f1 p1_delays f2) H := hP
  replace hD : va_D A (w_X0_become h0 h_records h_delays k1 k1_records k1_delays cy p1_records f1 p1_delays f2) := hD
  subst hQe
  exact W.vret hx hb hr (fun t ht hW => ⟨⟨(f1, f2), rfl, hw, by rw [ht]; exact hP, va_K.moved hW.alike hK, hD⟩, hS.F ht⟩) hS.2.2 dX0_become_31
set_option maxHeartbeats 4000000 in
set_option maxRecDepth 100000 in
theorem c_X0_status (l : Launch) (dC : Nat → ClassId) (dI : Nat → Nat → Nat) (cy : Nat → ClassId) (h0 h_records h_delays : Nat) (sz : Nat) (v1 : Int32) (c_records : Nat → Int32) (post : Int32 → Prop) (hw : wp_X0_status v1 c_records post) : Met l yX0_status wsX0_status ({ frames := 0, cells := 0, slots := 0, locals := 0 }) (PX dC dI cy [.ref h0, .int v1] sz (w_X0_status h0 h_records h_delays cy c_records)) (va_Qi (fun (r : Int32) (u : Unit) => post r) (QX dC dI cy (va_A (w_X0_status h0 h_records h_delays cy c_records) sz) (fun (u : Unit) => w_X0_status h0 h_records h_delays cy c_records)) (va_A (w_X0_status h0 h_records h_delays cy c_records) sz)) 0 0 (va_A (w_X0_status h0 h_records h_delays cy c_records) sz) := by
  refine Met.ofW (cc := cX0_status) (maxL := 2) (ret := (some .int)) (by decide) rfl ?_
  intro p e s m args below meth c s₁ B hml hv
  obtain ⟨rfl, hsz, hP, hK, hD0, hG⟩ := hv
  have hx := B.exec
  have hb := B.bytes
  have hr := B.returns
  have hts := atoms_spec (ws := wsX0_status) B.pre
  have hown : s.vm.findClass RX0 = some m.cls := findClass_of_methodNamed B.named
  have hlocks := B.notSynchronized
  subst hsz
  have hD := hD0.self (sz := s.heap.size)
  generalize hAe : va_A (w_X0_status h0 h_records h_delays cy c_records) s.heap.size = A at hD ⊢
  have hA : ∀ q : Nat, s.heap.size ≤ q → A q := fun q h => by rw [← hAe]; exact Or.inr h
  have hS : va_S A s.heap s.heap [] := va_S.rf
  have hl := lv_entry ([.ref h0, .int v1]) (n := 2) (Nat.le_of_ble_eq_true rfl)
  rw [lg_entry_eq]
  generalize (lg_sl ([.ref h0, .int v1]) ++ List.replicate (2 - (lg_sl ([.ref h0, .int v1])).length) Slot.unset).toArray = ls at hl ⊢
  replace hl : lv_has ls 2 [(0, .ref h0), (1, .int v1)] := hl
  have inX0 : ∀ w ∈ u_ws RX0 TX0 2, w ∈ wsX0_status := fun w h => List.mem_cons_of_mem _ (inlX0 w h)
  clear hAe hD0 B
  unfold wp_X0_status at hw
  generalize hQe : MQ below _ _ s _ _ _ = Q0
  generalize ([.ref h0, .int v1] : List Value).toArray = av at *
  obtain ⟨H, hH⟩ : ∃ H, H = s.heap := ⟨_, rfl⟩
  obtain ⟨locs, hlo⟩ : ∃ L : List Loc, L = [] := ⟨_, rfl⟩
  replace hP : va_P (dC, dI) vwCl (w_X0_status h0 h_records h_delays cy c_records) H := by rw [hH]; exact hP
  replace hS : va_S A s.heap H locs := by rw [hH, hlo]; exact hS
  suffices hgo : W p l e ({ frames := 0, cells := 0, slots := 0, locals := 0 }) s m av below meth c H locs 0 0 Q0 (F0 m 0 ls []) by rw [hH, hlo] at hgo; exact hgo
  clear hH hlo
  refine lv_aload_n hx hb dX0_status_0 rfl (lv_at hl 0 rfl) ?_
  refine va_get (D := (dC, dI)) (ci := 0) (v := .ref h_records) (C := RX0) (T := TX0) (N := 2) hx hb hts inX0 hown hK hP 0 rfl rfl 0 (by decide) (hts _ (List.mem_cons_of_mem _ mw_65)) (fun _ h9 => h9) rfl dX0_status_1 ?_
  refine lv_iload_n hx hb dX0_status_4 rfl (lv_at hl 1 rfl) ?_
  obtain ⟨h1, hw⟩ := hw
  refine xiald (k := v1.toNatClampNeg) hx hb hK hP 1 0 rfl rfl h1 rfl dX0_status_5 ?_
  refine lv_iconst (v := 3) hx hb dX0_status_6 (by decide) ?_
  refine lv_iand hx hb dX0_status_7 ?_
  subst hQe
  exact W.iret (v := (c_records v1.toNatClampNeg) &&& (3 : Int32)) hx hb hr (fun t ht hW => ⟨⟨((c_records v1.toNatClampNeg) &&& (3 : Int32)), (), rfl, hw, by rw [ht]; exact hP, va_K.moved hW.alike hK, hD⟩, hS.F ht⟩) hS.2.2 dX0_status_8
set_option maxHeartbeats 4000000 in
set_option maxRecDepth 100000 in
theorem c_X0_howHeard (l : Launch) (dC : Nat → ClassId) (dI : Nat → Nat → Nat) (cy : Nat → ClassId) (h0 h_records h_delays : Nat) (sz : Nat) (v1 : Int32) (c_records : Nat → Int32) (post : Int32 → Prop) (hw : wp_X0_howHeard v1 c_records post) : Met l yX0_howHeard wsX0_howHeard ({ frames := 0, cells := 0, slots := 0, locals := 0 }) (PX dC dI cy [.ref h0, .int v1] sz (w_X0_howHeard h0 h_records h_delays cy c_records)) (va_Qi (fun (r : Int32) (u : Unit) => post r) (QX dC dI cy (va_A (w_X0_howHeard h0 h_records h_delays cy c_records) sz) (fun (u : Unit) => w_X0_howHeard h0 h_records h_delays cy c_records)) (va_A (w_X0_howHeard h0 h_records h_delays cy c_records) sz)) 0 0 (va_A (w_X0_howHeard h0 h_records h_delays cy c_records) sz) := by
  refine Met.ofW (cc := cX0_howHeard) (maxL := 2) (ret := (some .int)) (by decide) rfl ?_
  intro p e s m args below meth c s₁ B hml hv
  obtain ⟨rfl, hsz, hP, hK, hD0, hG⟩ := hv
  have hx := B.exec
  have hb := B.bytes
  have hr := B.returns
  have hts := atoms_spec (ws := wsX0_howHeard) B.pre
  have hown : s.vm.findClass RX0 = some m.cls := findClass_of_methodNamed B.named
  have hlocks := B.notSynchronized
  subst hsz
  have hD := hD0.self (sz := s.heap.size)
  generalize hAe : va_A (w_X0_howHeard h0 h_records h_delays cy c_records) s.heap.size = A at hD ⊢
  have hA : ∀ q : Nat, s.heap.size ≤ q → A q := fun q h => by rw [← hAe]; exact Or.inr h
  have hS : va_S A s.heap s.heap [] := va_S.rf
  have hl := lv_entry ([.ref h0, .int v1]) (n := 2) (Nat.le_of_ble_eq_true rfl)
  rw [lg_entry_eq]
  generalize (lg_sl ([.ref h0, .int v1]) ++ List.replicate (2 - (lg_sl ([.ref h0, .int v1])).length) Slot.unset).toArray = ls at hl ⊢
  replace hl : lv_has ls 2 [(0, .ref h0), (1, .int v1)] := hl
  have inX0 : ∀ w ∈ u_ws RX0 TX0 2, w ∈ wsX0_howHeard := fun w h => List.mem_cons_of_mem _ (inlX0 w h)
  clear hAe hD0 B
  unfold wp_X0_howHeard at hw
  generalize hQe : MQ below _ _ s _ _ _ = Q0
  generalize ([.ref h0, .int v1] : List Value).toArray = av at *
  obtain ⟨H, hH⟩ : ∃ H, H = s.heap := ⟨_, rfl⟩
  obtain ⟨locs, hlo⟩ : ∃ L : List Loc, L = [] := ⟨_, rfl⟩
  replace hP : va_P (dC, dI) vwCl (w_X0_howHeard h0 h_records h_delays cy c_records) H := by rw [hH]; exact hP
  replace hS : va_S A s.heap H locs := by rw [hH, hlo]; exact hS
  suffices hgo : W p l e ({ frames := 0, cells := 0, slots := 0, locals := 0 }) s m av below meth c H locs 0 0 Q0 (F0 m 0 ls []) by rw [hH, hlo] at hgo; exact hgo
  clear hH hlo
  refine lv_aload_n hx hb dX0_howHeard_0 rfl (lv_at hl 0 rfl) ?_
  refine va_get (D := (dC, dI)) (ci := 0) (v := .ref h_records) (C := RX0) (T := TX0) (N := 2) hx hb hts inX0 hown hK hP 0 rfl rfl 0 (by decide) (hts _ (List.mem_cons_of_mem _ mw_65)) (fun _ h9 => h9) rfl dX0_howHeard_1 ?_
  refine lv_iload_n hx hb dX0_howHeard_4 rfl (lv_at hl 1 rfl) ?_
  obtain ⟨h1, hw⟩ := hw
  refine xiald (k := v1.toNatClampNeg) hx hb hK hP 1 0 rfl rfl h1 rfl dX0_howHeard_5 ?_
  refine lv_iconst (v := 2) hx hb dX0_howHeard_6 (by decide) ?_
  refine lv_ishr hx hb dX0_howHeard_7 ?_
  refine lv_iconst (v := 3) hx hb dX0_howHeard_8 (by decide) ?_
  refine lv_iand hx hb dX0_howHeard_9 ?_
  subst hQe
  exact W.iret (v := ((c_records v1.toNatClampNeg) >>> ((2 : Int32) &&& 31)) &&& (3 : Int32)) hx hb hr (fun t ht hW => ⟨⟨(((c_records v1.toNatClampNeg) >>> ((2 : Int32) &&& 31)) &&& (3 : Int32)), (), rfl, hw, by rw [ht]; exact hP, va_K.moved hW.alike hK, hD⟩, hS.F ht⟩) hS.2.2 dX0_howHeard_10
set_option maxHeartbeats 4000000 in
set_option maxRecDepth 100000 in
theorem c_X0_sentPieces (l : Launch) (dC : Nat → ClassId) (dI : Nat → Nat → Nat) (cy : Nat → ClassId) (h0 h_records h_delays : Nat) (sz : Nat) (v1 : Int32) (c_records : Nat → Int32) (post : Int32 → Prop) (hw : wp_X0_sentPieces v1 c_records post) : Met l yX0_sentPieces wsX0_sentPieces ({ frames := 0, cells := 0, slots := 0, locals := 0 }) (PX dC dI cy [.ref h0, .int v1] sz (w_X0_sentPieces h0 h_records h_delays cy c_records)) (va_Qi (fun (r : Int32) (u : Unit) => post r) (QX dC dI cy (va_A (w_X0_sentPieces h0 h_records h_delays cy c_records) sz) (fun (u : Unit) => w_X0_sentPieces h0 h_records h_delays cy c_records)) (va_A (w_X0_sentPieces h0 h_records h_delays cy c_records) sz)) 0 0 (va_A (w_X0_sentPieces h0 h_records h_delays cy c_records) sz) := by
  refine Met.ofW (cc := cX0_sentPieces) (maxL := 2) (ret := (some .int)) (by decide) rfl ?_
  intro p e s m args below meth c s₁ B hml hv
  obtain ⟨rfl, hsz, hP, hK, hD0, hG⟩ := hv
  have hx := B.exec
  have hb := B.bytes
  have hr := B.returns
  have hts := atoms_spec (ws := wsX0_sentPieces) B.pre
  have hown : s.vm.findClass RX0 = some m.cls := findClass_of_methodNamed B.named
  have hlocks := B.notSynchronized
  subst hsz
  have hD := hD0.self (sz := s.heap.size)
  generalize hAe : va_A (w_X0_sentPieces h0 h_records h_delays cy c_records) s.heap.size = A at hD ⊢
  have hA : ∀ q : Nat, s.heap.size ≤ q → A q := fun q h => by rw [← hAe]; exact Or.inr h
  have hS : va_S A s.heap s.heap [] := va_S.rf
  have hl := lv_entry ([.ref h0, .int v1]) (n := 2) (Nat.le_of_ble_eq_true rfl)
  rw [lg_entry_eq]
  generalize (lg_sl ([.ref h0, .int v1]) ++ List.replicate (2 - (lg_sl ([.ref h0, .int v1])).length) Slot.unset).toArray = ls at hl ⊢
  replace hl : lv_has ls 2 [(0, .ref h0), (1, .int v1)] := hl
  have inX0 : ∀ w ∈ u_ws RX0 TX0 2, w ∈ wsX0_sentPieces := fun w h => List.mem_cons_of_mem _ (inlX0 w h)
  clear hAe hD0 B
  unfold wp_X0_sentPieces at hw
  generalize hQe : MQ below _ _ s _ _ _ = Q0
  generalize ([.ref h0, .int v1] : List Value).toArray = av at *
  obtain ⟨H, hH⟩ : ∃ H, H = s.heap := ⟨_, rfl⟩
  obtain ⟨locs, hlo⟩ : ∃ L : List Loc, L = [] := ⟨_, rfl⟩
  replace hP : va_P (dC, dI) vwCl (w_X0_sentPieces h0 h_records h_delays cy c_records) H := by rw [hH]; exact hP
  replace hS : va_S A s.heap H locs := by rw [hH, hlo]; exact hS
  suffices hgo : W p l e ({ frames := 0, cells := 0, slots := 0, locals := 0 }) s m av below meth c H locs 0 0 Q0 (F0 m 0 ls []) by rw [hH, hlo] at hgo; exact hgo
  clear hH hlo
  refine lv_aload_n hx hb dX0_sentPieces_0 rfl (lv_at hl 0 rfl) ?_
  refine va_get (D := (dC, dI)) (ci := 0) (v := .ref h_records) (C := RX0) (T := TX0) (N := 2) hx hb hts inX0 hown hK hP 0 rfl rfl 0 (by decide) (hts _ (List.mem_cons_of_mem _ mw_65)) (fun _ h9 => h9) rfl dX0_sentPieces_1 ?_
  refine lv_iload_n hx hb dX0_sentPieces_4 rfl (lv_at hl 1 rfl) ?_
  obtain ⟨h1, hw⟩ := hw
  refine xiald (k := v1.toNatClampNeg) hx hb hK hP 1 0 rfl rfl h1 rfl dX0_sentPieces_5 ?_
  refine lv_iconst (v := 4) hx hb dX0_sentPieces_6 (by decide) ?_
  refine lv_ishr hx hb dX0_sentPieces_7 ?_
  refine lv_sipush (v := 255) hx hb dX0_sentPieces_8 (by decide) ?_
  refine lv_iand hx hb dX0_sentPieces_11 ?_
  subst hQe
  exact W.iret (v := ((c_records v1.toNatClampNeg) >>> ((4 : Int32) &&& 31)) &&& (255 : Int32)) hx hb hr (fun t ht hW => ⟨⟨(((c_records v1.toNatClampNeg) >>> ((4 : Int32) &&& 31)) &&& (255 : Int32)), (), rfl, hw, by rw [ht]; exact hP, va_K.moved hW.alike hK, hD⟩, hS.F ht⟩) hS.2.2 dX0_sentPieces_12
set_option maxHeartbeats 4000000 in
set_option maxRecDepth 100000 in
theorem c_X0_arrivalSlot (l : Launch) (dC : Nat → ClassId) (dI : Nat → Nat → Nat) (cy : Nat → ClassId) (h0 h_records h_delays : Nat) (sz : Nat) (v1 : Int32) (c_records : Nat → Int32) (post : Int32 → Prop) (hw : wp_X0_arrivalSlot v1 c_records post) : Met l yX0_arrivalSlot wsX0_arrivalSlot ({ frames := 0, cells := 0, slots := 0, locals := 0 }) (PX dC dI cy [.ref h0, .int v1] sz (w_X0_arrivalSlot h0 h_records h_delays cy c_records)) (va_Qi (fun (r : Int32) (u : Unit) => post r) (QX dC dI cy (va_A (w_X0_arrivalSlot h0 h_records h_delays cy c_records) sz) (fun (u : Unit) => w_X0_arrivalSlot h0 h_records h_delays cy c_records)) (va_A (w_X0_arrivalSlot h0 h_records h_delays cy c_records) sz)) 0 0 (va_A (w_X0_arrivalSlot h0 h_records h_delays cy c_records) sz) := by
  refine Met.ofW (cc := cX0_arrivalSlot) (maxL := 2) (ret := (some .int)) (by decide) rfl ?_
  intro p e s m args below meth c s₁ B hml hv
  obtain ⟨rfl, hsz, hP, hK, hD0, hG⟩ := hv
  have hx := B.exec
  have hb := B.bytes
  have hr := B.returns
  have hts := atoms_spec (ws := wsX0_arrivalSlot) B.pre
  have hown : s.vm.findClass RX0 = some m.cls := findClass_of_methodNamed B.named
  have hlocks := B.notSynchronized
  subst hsz
  have hD := hD0.self (sz := s.heap.size)
  generalize hAe : va_A (w_X0_arrivalSlot h0 h_records h_delays cy c_records) s.heap.size = A at hD ⊢
  have hA : ∀ q : Nat, s.heap.size ≤ q → A q := fun q h => by rw [← hAe]; exact Or.inr h
  have hS : va_S A s.heap s.heap [] := va_S.rf
  have hl := lv_entry ([.ref h0, .int v1]) (n := 2) (Nat.le_of_ble_eq_true rfl)
  rw [lg_entry_eq]
  generalize (lg_sl ([.ref h0, .int v1]) ++ List.replicate (2 - (lg_sl ([.ref h0, .int v1])).length) Slot.unset).toArray = ls at hl ⊢
  replace hl : lv_has ls 2 [(0, .ref h0), (1, .int v1)] := hl
  have inX0 : ∀ w ∈ u_ws RX0 TX0 2, w ∈ wsX0_arrivalSlot := fun w h => List.mem_cons_of_mem _ (inlX0 w h)
  clear hAe hD0 B
  unfold wp_X0_arrivalSlot at hw
  generalize hQe : MQ below _ _ s _ _ _ = Q0
  generalize ([.ref h0, .int v1] : List Value).toArray = av at *
  obtain ⟨H, hH⟩ : ∃ H, H = s.heap := ⟨_, rfl⟩
  obtain ⟨locs, hlo⟩ : ∃ L : List Loc, L = [] := ⟨_, rfl⟩
  replace hP : va_P (dC, dI) vwCl (w_X0_arrivalSlot h0 h_records h_delays cy c_records) H := by rw [hH]; exact hP
  replace hS : va_S A s.heap H locs := by rw [hH, hlo]; exact hS
  suffices hgo : W p l e ({ frames := 0, cells := 0, slots := 0, locals := 0 }) s m av below meth c H locs 0 0 Q0 (F0 m 0 ls []) by rw [hH, hlo] at hgo; exact hgo
  clear hH hlo
  refine lv_aload_n hx hb dX0_arrivalSlot_0 rfl (lv_at hl 0 rfl) ?_
  refine va_get (D := (dC, dI)) (ci := 0) (v := .ref h_records) (C := RX0) (T := TX0) (N := 2) hx hb hts inX0 hown hK hP 0 rfl rfl 0 (by decide) (hts _ (List.mem_cons_of_mem _ mw_65)) (fun _ h9 => h9) rfl dX0_arrivalSlot_1 ?_
  refine lv_iload_n hx hb dX0_arrivalSlot_4 rfl (lv_at hl 1 rfl) ?_
  obtain ⟨h1, hw⟩ := hw
  refine xiald (k := v1.toNatClampNeg) hx hb hK hP 1 0 rfl rfl h1 rfl dX0_arrivalSlot_5 ?_
  refine lv_bipush (v := 12) hx hb dX0_arrivalSlot_6 (by decide) ?_
  refine lv_ishr hx hb dX0_arrivalSlot_8 ?_
  refine lv_iconst (v := 1) hx hb dX0_arrivalSlot_9 (by decide) ?_
  refine lv_isub hx hb dX0_arrivalSlot_10 ?_
  subst hQe
  exact W.iret (v := ((c_records v1.toNatClampNeg) >>> ((12 : Int32) &&& 31)) - (1 : Int32)) hx hb hr (fun t ht hW => ⟨⟨(((c_records v1.toNatClampNeg) >>> ((12 : Int32) &&& 31)) - (1 : Int32)), (), rfl, hw, by rw [ht]; exact hP, va_K.moved hW.alike hK, hD⟩, hS.F ht⟩) hS.2.2 dX0_arrivalSlot_11
set_option maxHeartbeats 4000000 in
set_option maxRecDepth 100000 in
theorem c_X11_within (l : Launch) (dC : Nat → ClassId) (dI : Nat → Nat → Nat) (cy : Nat → ClassId) (sz : Nat) (v0 : Int32) (v1 : Int32) (v2 : Int32) (post : Int32 → Prop) (hw : wp_X11_within v0 v1 v2 post) : Met l yX11_within wsX11_within ({ frames := 0, cells := 0, slots := 0, locals := 0 }) (PX dC dI cy [.int v0, .int v1, .int v2] sz (w_X11_within cy)) (va_Qi (fun (r : Int32) (u : Unit) => post r) (QX dC dI cy (va_A (w_X11_within cy) sz) (fun (u : Unit) => w_X11_within cy)) (va_A (w_X11_within cy) sz)) 0 0 (va_A (w_X11_within cy) sz) := by
  refine Met.ofW (cc := cX11_within) (maxL := 3) (ret := (some .boolean)) (by decide) rfl ?_
  intro p e s m args below meth c s₁ B hml hv
  obtain ⟨rfl, hsz, hP, hK, hD0, hG⟩ := hv
  have hx := B.exec
  have hb := B.bytes
  have hr := B.returns
  have hts := atoms_spec (ws := wsX11_within) B.pre
  have hown : s.vm.findClass RX11 = some m.cls := findClass_of_methodNamed B.named
  have hlocks := B.notSynchronized
  subst hsz
  have hD := hD0.self (sz := s.heap.size)
  generalize hAe : va_A (w_X11_within cy) s.heap.size = A at hD ⊢
  have hA : ∀ q : Nat, s.heap.size ≤ q → A q := fun q h => by rw [← hAe]; exact Or.inr h
  have hS : va_S A s.heap s.heap [] := va_S.rf
  have hl := lv_entry ([.int v0, .int v1, .int v2]) (n := 3) (Nat.le_of_ble_eq_true rfl)
  rw [lg_entry_eq]
  generalize (lg_sl ([.int v0, .int v1, .int v2]) ++ List.replicate (3 - (lg_sl ([.int v0, .int v1, .int v2])).length) Slot.unset).toArray = ls at hl ⊢
  replace hl : lv_has ls 3 [(0, .int v0), (1, .int v1), (2, .int v2)] := hl
  clear hAe hD0 B
  unfold wp_X11_within at hw
  generalize hQe : MQ below _ _ s _ _ _ = Q0
  generalize ([.int v0, .int v1, .int v2] : List Value).toArray = av at *
  obtain ⟨H, hH⟩ : ∃ H, H = s.heap := ⟨_, rfl⟩
  obtain ⟨locs, hlo⟩ : ∃ L : List Loc, L = [] := ⟨_, rfl⟩
  replace hP : va_P (dC, dI) vwCl (w_X11_within cy) H := by rw [hH]; exact hP
  replace hS : va_S A s.heap H locs := by rw [hH, hlo]; exact hS
  suffices hgo : W p l e ({ frames := 0, cells := 0, slots := 0, locals := 0 }) s m av below meth c H locs 0 0 Q0 (F0 m 0 ls []) by rw [hH, hlo] at hgo; exact hgo
  clear hH hlo
  refine lv_iload_n hx hb dX11_within_0 rfl (lv_at hl 0 rfl) ?_
  refine lv_iload_n hx hb dX11_within_1 rfl (lv_at hl 1 rfl) ?_
  refine lv_icmp_lt (tgt := 14) hx hb dX11_within_2 (by decide) (fun c1 => ?_) (fun c1 => ?_)
  · replace hw := hw.1 c1
    refine lv_iconst (v := 0) hx hb dX11_within_14 (by decide) ?_
    subst hQe
    exact W.zret (v := (0 : Int32)) hx hb hr isB_0 (fun t ht hW => ⟨⟨(0 : Int32), (), rfl, hw, by rw [ht]; exact hP, va_K.moved hW.alike hK, hD⟩, hS.F ht⟩) hS.2.2 dX11_within_15
  · replace hw := hw.2 c1
    refine lv_iload_n hx hb dX11_within_5 rfl (lv_at hl 0 rfl) ?_
    refine lv_iload_n hx hb dX11_within_6 rfl (lv_at hl 2 rfl) ?_
    refine lv_icmp_gt (tgt := 14) hx hb dX11_within_7 (by decide) (fun c2 => ?_) (fun c2 => ?_)
    · replace hw := hw.1 c2
      refine lv_iconst (v := 0) hx hb dX11_within_14 (by decide) ?_
      subst hQe
      exact W.zret (v := (0 : Int32)) hx hb hr isB_0 (fun t ht hW => ⟨⟨(0 : Int32), (), rfl, hw, by rw [ht]; exact hP, va_K.moved hW.alike hK, hD⟩, hS.F ht⟩) hS.2.2 dX11_within_15
    · replace hw := hw.2 c2
      refine lv_iconst (v := 1) hx hb dX11_within_10 (by decide) ?_
      refine lv_goto (tgt := 15) hx hb dX11_within_11 (by decide) ?_
      subst hQe
      exact W.zret (v := (1 : Int32)) hx hb hr isB_1 (fun t ht hW => ⟨⟨(1 : Int32), (), rfl, hw, by rw [ht]; exact hP, va_K.moved hW.alike hK, hD⟩, hS.F ht⟩) hS.2.2 dX11_within_15
set_option maxHeartbeats 4000000 in
set_option maxRecDepth 100000 in
theorem c_X0_setStatus (l : Launch) (dC : Nat → ClassId) (dI : Nat → Nat → Nat) (cy : Nat → ClassId) (h0 h_records h_delays : Nat) (sz : Nat) (v1 : Int32) (v2 : Int32) (c_records : Nat → Int32) (post : (Nat → Int32) → Prop) (hw : wp_X0_setStatus v1 v2 c_records post) : Met l yX0_setStatus wsX0_setStatus ({ frames := 1, cells := 0, slots := 0, locals := 22 }) (PX dC dI cy [.ref h0, .int v1, .int v2] sz (w_X0_setStatus h0 h_records h_delays cy c_records)) (va_Qv (fun (u : (Nat → Int32)) => post u) (QX dC dI cy (va_A (w_X0_setStatus h0 h_records h_delays cy c_records) sz) (fun (u : (Nat → Int32)) => w_X0_setStatus h0 h_records h_delays cy u)) (va_A (w_X0_setStatus h0 h_records h_delays cy c_records) sz)) 0 0 (va_A (w_X0_setStatus h0 h_records h_delays cy c_records) sz) := by
  refine Met.ofW (cc := cX0_setStatus) (maxL := 3) (ret := none) (by decide) rfl ?_
  intro p e s m args below meth c s₁ B hml hv
  obtain ⟨rfl, hsz, hP, hK, hD0, hG⟩ := hv
  have hx := B.exec
  have hb := B.bytes
  have hr := B.returns
  have hts := atoms_spec (ws := wsX0_setStatus) B.pre
  have hown : s.vm.findClass RX0 = some m.cls := findClass_of_methodNamed B.named
  have hlocks := B.notSynchronized
  subst hsz
  have hD := hD0.self (sz := s.heap.size)
  generalize hAe : va_A (w_X0_setStatus h0 h_records h_delays cy c_records) s.heap.size = A at hD ⊢
  have hA : ∀ q : Nat, s.heap.size ≤ q → A q := fun q h => by rw [← hAe]; exact Or.inr h
  have hS : va_S A s.heap s.heap [] := va_S.rf
  have hl := lv_entry ([.ref h0, .int v1, .int v2]) (n := 3) (Nat.le_of_ble_eq_true rfl)
  rw [lg_entry_eq]
  generalize (lg_sl ([.ref h0, .int v1, .int v2]) ++ List.replicate (3 - (lg_sl ([.ref h0, .int v1, .int v2])).length) Slot.unset).toArray = ls at hl ⊢
  replace hl : lv_has ls 3 [(0, .ref h0), (1, .int v1), (2, .int v2)] := hl
  have inX0 : ∀ w ∈ u_ws RX0 TX0 2, w ∈ wsX0_setStatus := fun w h => List.mem_cons_of_mem _ (inlX0 w h)
  clear hAe hD0 B
  unfold wp_X0_setStatus at hw
  generalize hQe : MQ below _ _ s _ _ _ = Q0
  generalize ([.ref h0, .int v1, .int v2] : List Value).toArray = av at *
  obtain ⟨H, hH⟩ : ∃ H, H = s.heap := ⟨_, rfl⟩
  obtain ⟨locs, hlo⟩ : ∃ L : List Loc, L = [] := ⟨_, rfl⟩
  replace hP : va_P (dC, dI) vwCl (w_X0_setStatus h0 h_records h_delays cy c_records) H := by rw [hH]; exact hP
  replace hS : va_S A s.heap H locs := by rw [hH, hlo]; exact hS
  suffices hgo : W p l e ({ frames := 1, cells := 0, slots := 0, locals := 22 }) s m av below meth c H locs 0 0 Q0 (F0 m 0 ls []) by rw [hH, hlo] at hgo; exact hgo
  clear hH hlo
  refine lv_iload_n hx hb dX0_setStatus_0 rfl (lv_at hl 1 rfl) ?_
  refine lv_iconst (v := 0) hx hb dX0_setStatus_1 (by decide) ?_
  refine lv_sipush (v := 2499) hx hb dX0_setStatus_2 (by decide) ?_
  have hPc := pSub (ws' := (w_X11_within cy)) hP [] rfl
  have hDc := dSub (ws' := (w_X11_within cy)) hD [] (by decide) rfl
  have hFc := va_free (wc := (w_X11_within cy)) hD hS hA [] rfl
  refine va_calli (va_runSN (As := [.int v1, .int (0 : Int32), .int (2499 : Int32)]) (rest := []) ⟨hx, hb, hml, hown, hts⟩ (c_X11_within l dC dI cy  H.size v1 (0 : Int32) (2499 : Int32) _ hw) ⟨va_cnB 3 hts (goodG mw_195) rfl rfl rfl (hG.1 ("HeadsetBands$Book", 30, ⟨"HeadsetBands", "within", "(III)Z"⟩, "HeadsetBands") (by decide +kernel)) (hts _ (List.mem_cons_of_mem _ mw_2)) (by decide +kernel) ⟨Nat.le_of_ble_eq_true rfl, Nat.le_of_ble_eq_true rfl⟩, (hts _ (List.mem_cons_of_mem _ mw_194)), trivial⟩ ⟨PX_blind, PX_pre hPc hK hDc hG⟩ rfl rfl hl.1 rfl (lv_room (Nat.le_of_ble_eq_true rfl)) dX0_setStatus_5 ⟨Nat.zero_le _, Nat.zero_le _⟩) hS (fun q _ h => hFc q h) hFc ?_; clear hw hS; intro r1 _ t H1 locs1 ht hvm hw hB hz1 hk1 hS
  obtain ⟨hP1, -, -⟩ := hB
  rw [ht] at hP1
  replace hP := jC0 hP hD [] [0, 1] rfl hk1 hP1 (w_X0_setStatus h0 h_records h_delays cy c_records) rfl rfl rfl 2 rfl (by decide +kernel); clear hD; obtain ⟨hP, hD⟩ := hP
  replace hP : va_P (dC, dI) vwCl (w_X0_setStatus h0 h_records h_delays cy c_records) H1 := hP
  replace hD : va_D A (w_X0_setStatus h0 h_records h_delays cy c_records) := hD
  clear hPc hDc hFc hP1 hk1 hz1 hvm ht; clear t; clear H locs; obtain ⟨H, hH⟩ : ∃ H, H = H1 := ⟨_, rfl⟩; obtain ⟨locs, hlo⟩ : ∃ L, L = locs1 := ⟨_, rfl⟩; subst hH; subst hlo
  refine W.widen (k := 0) (n := 0) (Nat.le_refl 0) (Nat.le_refl 0) ?_
  refine lv_if_eq (tgt := 28) hx hb dX0_setStatus_8 (by decide) (fun c2 => ?_) (fun c2 => ?_)
  · replace hw := hw.1 c2
    subst hQe
    exact W.vret hx hb hr (fun t ht hW => ⟨⟨c_records, rfl, hw, by rw [ht]; exact hP, va_K.moved hW.alike hK, hD⟩, hS.F ht⟩) hS.2.2 dX0_setStatus_28
  · replace hw := hw.2 c2
    refine lv_aload_n hx hb dX0_setStatus_11 rfl (lv_at hl 0 rfl) ?_
    refine va_get (D := (dC, dI)) (ci := 0) (v := .ref h_records) (C := RX0) (T := TX0) (N := 2) hx hb hts inX0 hown hK hP 0 rfl rfl 0 (by decide) (hts _ (List.mem_cons_of_mem _ mw_65)) (fun _ h9 => h9) rfl dX0_setStatus_12 ?_
    refine lv_iload_n hx hb dX0_setStatus_15 rfl (lv_at hl 1 rfl) ?_
    refine lv_aload_n hx hb dX0_setStatus_16 rfl (lv_at hl 0 rfl) ?_
    refine va_get (D := (dC, dI)) (ci := 0) (v := .ref h_records) (C := RX0) (T := TX0) (N := 2) hx hb hts inX0 hown hK hP 0 rfl rfl 0 (by decide) (hts _ (List.mem_cons_of_mem _ mw_65)) (fun _ h9 => h9) rfl dX0_setStatus_17 ?_
    refine lv_iload_n hx hb dX0_setStatus_20 rfl (lv_at hl 1 rfl) ?_
    obtain ⟨h3, hw⟩ := hw
    refine xiald (k := v1.toNatClampNeg) hx hb hK hP 1 0 rfl rfl h3 rfl dX0_setStatus_21 ?_
    refine lv_bipush (v := -4) hx hb dX0_setStatus_22 (by decide) ?_
    refine lv_iand hx hb dX0_setStatus_24 ?_
    refine lv_iload_n hx hb dX0_setStatus_25 rfl (lv_at hl 2 rfl) ?_
    refine lv_ior hx hb dX0_setStatus_26 ?_
    obtain ⟨h4, hw⟩ := hw
    refine xiast (k := v1.toNatClampNeg) hx hb hK hP hD hS 1 0 rfl rfl h4 rfl dX0_setStatus_27 ?_; clear hP hD hS; clear H locs; intro f5 e_f5 H locs hP hD hS
    replace hw := hw f5 e_f5
    clear e_f5
    replace hP : va_P (dC, dI) vwCl (w_X0_setStatus h0 h_records h_delays cy f5) H := hP
    replace hD : va_D A (w_X0_setStatus h0 h_records h_delays cy f5) := hD
    subst hQe
    exact W.vret hx hb hr (fun t ht hW => ⟨⟨f5, rfl, hw, by rw [ht]; exact hP, va_K.moved hW.alike hK, hD⟩, hS.F ht⟩) hS.2.2 dX0_setStatus_28
set_option maxHeartbeats 4000000 in
set_option maxRecDepth 100000 in
theorem c_X0_setHowHeard (l : Launch) (dC : Nat → ClassId) (dI : Nat → Nat → Nat) (cy : Nat → ClassId) (h0 h_records h_delays : Nat) (sz : Nat) (v1 : Int32) (v2 : Int32) (c_records : Nat → Int32) (post : (Nat → Int32) → Prop) (hw : wp_X0_setHowHeard v1 v2 c_records post) : Met l yX0_setHowHeard wsX0_setHowHeard ({ frames := 1, cells := 0, slots := 0, locals := 22 }) (PX dC dI cy [.ref h0, .int v1, .int v2] sz (w_X0_setHowHeard h0 h_records h_delays cy c_records)) (va_Qv (fun (u : (Nat → Int32)) => post u) (QX dC dI cy (va_A (w_X0_setHowHeard h0 h_records h_delays cy c_records) sz) (fun (u : (Nat → Int32)) => w_X0_setHowHeard h0 h_records h_delays cy u)) (va_A (w_X0_setHowHeard h0 h_records h_delays cy c_records) sz)) 0 0 (va_A (w_X0_setHowHeard h0 h_records h_delays cy c_records) sz) := by
  refine Met.ofW (cc := cX0_setHowHeard) (maxL := 3) (ret := none) (by decide) rfl ?_
  intro p e s m args below meth c s₁ B hml hv
  obtain ⟨rfl, hsz, hP, hK, hD0, hG⟩ := hv
  have hx := B.exec
  have hb := B.bytes
  have hr := B.returns
  have hts := atoms_spec (ws := wsX0_setHowHeard) B.pre
  have hown : s.vm.findClass RX0 = some m.cls := findClass_of_methodNamed B.named
  have hlocks := B.notSynchronized
  subst hsz
  have hD := hD0.self (sz := s.heap.size)
  generalize hAe : va_A (w_X0_setHowHeard h0 h_records h_delays cy c_records) s.heap.size = A at hD ⊢
  have hA : ∀ q : Nat, s.heap.size ≤ q → A q := fun q h => by rw [← hAe]; exact Or.inr h
  have hS : va_S A s.heap s.heap [] := va_S.rf
  have hl := lv_entry ([.ref h0, .int v1, .int v2]) (n := 3) (Nat.le_of_ble_eq_true rfl)
  rw [lg_entry_eq]
  generalize (lg_sl ([.ref h0, .int v1, .int v2]) ++ List.replicate (3 - (lg_sl ([.ref h0, .int v1, .int v2])).length) Slot.unset).toArray = ls at hl ⊢
  replace hl : lv_has ls 3 [(0, .ref h0), (1, .int v1), (2, .int v2)] := hl
  have inX0 : ∀ w ∈ u_ws RX0 TX0 2, w ∈ wsX0_setHowHeard := fun w h => List.mem_cons_of_mem _ (inlX0 w h)
  clear hAe hD0 B
  unfold wp_X0_setHowHeard at hw
  generalize hQe : MQ below _ _ s _ _ _ = Q0
  generalize ([.ref h0, .int v1, .int v2] : List Value).toArray = av at *
  obtain ⟨H, hH⟩ : ∃ H, H = s.heap := ⟨_, rfl⟩
  obtain ⟨locs, hlo⟩ : ∃ L : List Loc, L = [] := ⟨_, rfl⟩
  replace hP : va_P (dC, dI) vwCl (w_X0_setHowHeard h0 h_records h_delays cy c_records) H := by rw [hH]; exact hP
  replace hS : va_S A s.heap H locs := by rw [hH, hlo]; exact hS
  suffices hgo : W p l e ({ frames := 1, cells := 0, slots := 0, locals := 22 }) s m av below meth c H locs 0 0 Q0 (F0 m 0 ls []) by rw [hH, hlo] at hgo; exact hgo
  clear hH hlo
  refine lv_iload_n hx hb dX0_setHowHeard_0 rfl (lv_at hl 1 rfl) ?_
  refine lv_iconst (v := 0) hx hb dX0_setHowHeard_1 (by decide) ?_
  refine lv_sipush (v := 2499) hx hb dX0_setHowHeard_2 (by decide) ?_
  have hPc := pSub (ws' := (w_X11_within cy)) hP [] rfl
  have hDc := dSub (ws' := (w_X11_within cy)) hD [] (by decide) rfl
  have hFc := va_free (wc := (w_X11_within cy)) hD hS hA [] rfl
  refine va_calli (va_runSN (As := [.int v1, .int (0 : Int32), .int (2499 : Int32)]) (rest := []) ⟨hx, hb, hml, hown, hts⟩ (c_X11_within l dC dI cy  H.size v1 (0 : Int32) (2499 : Int32) _ hw) ⟨va_cnB 3 hts (goodG mw_195) rfl rfl rfl (hG.1 ("HeadsetBands$Book", 30, ⟨"HeadsetBands", "within", "(III)Z"⟩, "HeadsetBands") (by decide +kernel)) (hts _ (List.mem_cons_of_mem _ mw_2)) (by decide +kernel) ⟨Nat.le_of_ble_eq_true rfl, Nat.le_of_ble_eq_true rfl⟩, (hts _ (List.mem_cons_of_mem _ mw_194)), trivial⟩ ⟨PX_blind, PX_pre hPc hK hDc hG⟩ rfl rfl hl.1 rfl (lv_room (Nat.le_of_ble_eq_true rfl)) dX0_setHowHeard_5 ⟨Nat.zero_le _, Nat.zero_le _⟩) hS (fun q _ h => hFc q h) hFc ?_; clear hw hS; intro r1 _ t H1 locs1 ht hvm hw hB hz1 hk1 hS
  obtain ⟨hP1, -, -⟩ := hB
  rw [ht] at hP1
  replace hP := jC0 hP hD [] [0, 1] rfl hk1 hP1 (w_X0_setHowHeard h0 h_records h_delays cy c_records) rfl rfl rfl 2 rfl (by decide +kernel); clear hD; obtain ⟨hP, hD⟩ := hP
  replace hP : va_P (dC, dI) vwCl (w_X0_setHowHeard h0 h_records h_delays cy c_records) H1 := hP
  replace hD : va_D A (w_X0_setHowHeard h0 h_records h_delays cy c_records) := hD
  clear hPc hDc hFc hP1 hk1 hz1 hvm ht; clear t; clear H locs; obtain ⟨H, hH⟩ : ∃ H, H = H1 := ⟨_, rfl⟩; obtain ⟨locs, hlo⟩ : ∃ L, L = locs1 := ⟨_, rfl⟩; subst hH; subst hlo
  refine W.widen (k := 0) (n := 0) (Nat.le_refl 0) (Nat.le_refl 0) ?_
  refine lv_if_eq (tgt := 23) hx hb dX0_setHowHeard_8 (by decide) (fun c2 => ?_) (fun c2 => ?_)
  · replace hw := hw.1 c2
    subst hQe
    exact W.vret hx hb hr (fun t ht hW => ⟨⟨c_records, rfl, hw, by rw [ht]; exact hP, va_K.moved hW.alike hK, hD⟩, hS.F ht⟩) hS.2.2 dX0_setHowHeard_23
  · replace hw := hw.2 c2
    refine lv_aload_n hx hb dX0_setHowHeard_11 rfl (lv_at hl 0 rfl) ?_
    refine va_get (D := (dC, dI)) (ci := 0) (v := .ref h_records) (C := RX0) (T := TX0) (N := 2) hx hb hts inX0 hown hK hP 0 rfl rfl 0 (by decide) (hts _ (List.mem_cons_of_mem _ mw_65)) (fun _ h9 => h9) rfl dX0_setHowHeard_12 ?_
    refine lv_iload_n hx hb dX0_setHowHeard_15 rfl (lv_at hl 1 rfl) ?_
    refine lv_dup2_11 hx hb dX0_setHowHeard_16 rfl rfl ?_
    obtain ⟨h3, hw⟩ := hw
    refine xiald (k := v1.toNatClampNeg) hx hb hK hP 1 0 rfl rfl h3 rfl dX0_setHowHeard_17 ?_
    refine lv_iload_n hx hb dX0_setHowHeard_18 rfl (lv_at hl 2 rfl) ?_
    refine lv_iconst (v := 2) hx hb dX0_setHowHeard_19 (by decide) ?_
    refine lv_ishl hx hb dX0_setHowHeard_20 ?_
    refine lv_ior hx hb dX0_setHowHeard_21 ?_
    obtain ⟨h4, hw⟩ := hw
    refine xiast (k := v1.toNatClampNeg) hx hb hK hP hD hS 1 0 rfl rfl h4 rfl dX0_setHowHeard_22 ?_; clear hP hD hS; clear H locs; intro f5 e_f5 H locs hP hD hS
    replace hw := hw f5 e_f5
    clear e_f5
    replace hP : va_P (dC, dI) vwCl (w_X0_setHowHeard h0 h_records h_delays cy f5) H := hP
    replace hD : va_D A (w_X0_setHowHeard h0 h_records h_delays cy f5) := hD
    subst hQe
    exact W.vret hx hb hr (fun t ht hW => ⟨⟨f5, rfl, hw, by rw [ht]; exact hP, va_K.moved hW.alike hK, hD⟩, hS.F ht⟩) hS.2.2 dX0_setHowHeard_23
set_option maxHeartbeats 4000000 in
set_option maxRecDepth 100000 in
theorem c_X0_addSent (l : Launch) (dC : Nat → ClassId) (dI : Nat → Nat → Nat) (cy : Nat → ClassId) (h0 h_records h_delays : Nat) (sz : Nat) (v1 : Int32) (c_records : Nat → Int32) (post : (Nat → Int32) → Prop) (hw : wp_X0_addSent v1 c_records post) : Met l yX0_addSent wsX0_addSent ({ frames := 1, cells := 0, slots := 0, locals := 22 }) (PX dC dI cy [.ref h0, .int v1] sz (w_X0_addSent h0 h_records h_delays cy c_records)) (va_Qv (fun (u : (Nat → Int32)) => post u) (QX dC dI cy (va_A (w_X0_addSent h0 h_records h_delays cy c_records) sz) (fun (u : (Nat → Int32)) => w_X0_addSent h0 h_records h_delays cy u)) (va_A (w_X0_addSent h0 h_records h_delays cy c_records) sz)) 0 0 (va_A (w_X0_addSent h0 h_records h_delays cy c_records) sz) := by
  refine Met.ofW (cc := cX0_addSent) (maxL := 2) (ret := none) (by decide) rfl ?_
  intro p e s m args below meth c s₁ B hml hv
  obtain ⟨rfl, hsz, hP, hK, hD0, hG⟩ := hv
  have hx := B.exec
  have hb := B.bytes
  have hr := B.returns
  have hts := atoms_spec (ws := wsX0_addSent) B.pre
  have hown : s.vm.findClass RX0 = some m.cls := findClass_of_methodNamed B.named
  have hlocks := B.notSynchronized
  subst hsz
  have hD := hD0.self (sz := s.heap.size)
  generalize hAe : va_A (w_X0_addSent h0 h_records h_delays cy c_records) s.heap.size = A at hD ⊢
  have hA : ∀ q : Nat, s.heap.size ≤ q → A q := fun q h => by rw [← hAe]; exact Or.inr h
  have hS : va_S A s.heap s.heap [] := va_S.rf
  have hl := lv_entry ([.ref h0, .int v1]) (n := 2) (Nat.le_of_ble_eq_true rfl)
  rw [lg_entry_eq]
  generalize (lg_sl ([.ref h0, .int v1]) ++ List.replicate (2 - (lg_sl ([.ref h0, .int v1])).length) Slot.unset).toArray = ls at hl ⊢
  replace hl : lv_has ls 2 [(0, .ref h0), (1, .int v1)] := hl
  have inX0 : ∀ w ∈ u_ws RX0 TX0 2, w ∈ wsX0_addSent := fun w h => List.mem_cons_of_mem _ (inlX0 w h)
  clear hAe hD0 B
  unfold wp_X0_addSent at hw
  generalize hQe : MQ below _ _ s _ _ _ = Q0
  generalize ([.ref h0, .int v1] : List Value).toArray = av at *
  obtain ⟨H, hH⟩ : ∃ H, H = s.heap := ⟨_, rfl⟩
  obtain ⟨locs, hlo⟩ : ∃ L : List Loc, L = [] := ⟨_, rfl⟩
  replace hP : va_P (dC, dI) vwCl (w_X0_addSent h0 h_records h_delays cy c_records) H := by rw [hH]; exact hP
  replace hS : va_S A s.heap H locs := by rw [hH, hlo]; exact hS
  suffices hgo : W p l e ({ frames := 1, cells := 0, slots := 0, locals := 22 }) s m av below meth c H locs 0 0 Q0 (F0 m 0 ls []) by rw [hH, hlo] at hgo; exact hgo
  clear hH hlo
  refine lv_iload_n hx hb dX0_addSent_0 rfl (lv_at hl 1 rfl) ?_
  refine lv_iconst (v := 0) hx hb dX0_addSent_1 (by decide) ?_
  refine lv_sipush (v := 2499) hx hb dX0_addSent_2 (by decide) ?_
  have hPc := pSub (ws' := (w_X11_within cy)) hP [] rfl
  have hDc := dSub (ws' := (w_X11_within cy)) hD [] (by decide) rfl
  have hFc := va_free (wc := (w_X11_within cy)) hD hS hA [] rfl
  refine va_calli (va_runSN (As := [.int v1, .int (0 : Int32), .int (2499 : Int32)]) (rest := []) ⟨hx, hb, hml, hown, hts⟩ (c_X11_within l dC dI cy  H.size v1 (0 : Int32) (2499 : Int32) _ hw) ⟨va_cnB 3 hts (goodG mw_195) rfl rfl rfl (hG.1 ("HeadsetBands$Book", 30, ⟨"HeadsetBands", "within", "(III)Z"⟩, "HeadsetBands") (by decide +kernel)) (hts _ (List.mem_cons_of_mem _ mw_2)) (by decide +kernel) ⟨Nat.le_of_ble_eq_true rfl, Nat.le_of_ble_eq_true rfl⟩, (hts _ (List.mem_cons_of_mem _ mw_194)), trivial⟩ ⟨PX_blind, PX_pre hPc hK hDc hG⟩ rfl rfl hl.1 rfl (lv_room (Nat.le_of_ble_eq_true rfl)) dX0_addSent_5 ⟨Nat.zero_le _, Nat.zero_le _⟩) hS (fun q _ h => hFc q h) hFc ?_; clear hw hS; intro r1 _ t H1 locs1 ht hvm hw hB hz1 hk1 hS
  obtain ⟨hP1, -, -⟩ := hB
  rw [ht] at hP1
  replace hP := jC0 hP hD [] [0, 1] rfl hk1 hP1 (w_X0_addSent h0 h_records h_delays cy c_records) rfl rfl rfl 2 rfl (by decide +kernel); clear hD; obtain ⟨hP, hD⟩ := hP
  replace hP : va_P (dC, dI) vwCl (w_X0_addSent h0 h_records h_delays cy c_records) H1 := hP
  replace hD : va_D A (w_X0_addSent h0 h_records h_delays cy c_records) := hD
  clear hPc hDc hFc hP1 hk1 hz1 hvm ht; clear t; clear H locs; obtain ⟨H, hH⟩ : ∃ H, H = H1 := ⟨_, rfl⟩; obtain ⟨locs, hlo⟩ : ∃ L, L = locs1 := ⟨_, rfl⟩; subst hH; subst hlo
  refine W.widen (k := 0) (n := 0) (Nat.le_refl 0) (Nat.le_refl 0) ?_
  refine lv_if_eq (tgt := 22) hx hb dX0_addSent_8 (by decide) (fun c2 => ?_) (fun c2 => ?_)
  · replace hw := hw.1 c2
    subst hQe
    exact W.vret hx hb hr (fun t ht hW => ⟨⟨c_records, rfl, hw, by rw [ht]; exact hP, va_K.moved hW.alike hK, hD⟩, hS.F ht⟩) hS.2.2 dX0_addSent_22
  · replace hw := hw.2 c2
    refine lv_aload_n hx hb dX0_addSent_11 rfl (lv_at hl 0 rfl) ?_
    refine va_get (D := (dC, dI)) (ci := 0) (v := .ref h_records) (C := RX0) (T := TX0) (N := 2) hx hb hts inX0 hown hK hP 0 rfl rfl 0 (by decide) (hts _ (List.mem_cons_of_mem _ mw_65)) (fun _ h9 => h9) rfl dX0_addSent_12 ?_
    refine lv_iload_n hx hb dX0_addSent_15 rfl (lv_at hl 1 rfl) ?_
    refine lv_dup2_11 hx hb dX0_addSent_16 rfl rfl ?_
    obtain ⟨h3, hw⟩ := hw
    refine xiald (k := v1.toNatClampNeg) hx hb hK hP 1 0 rfl rfl h3 rfl dX0_addSent_17 ?_
    refine lv_bipush (v := 16) hx hb dX0_addSent_18 (by decide) ?_
    refine lv_iadd hx hb dX0_addSent_20 ?_
    obtain ⟨h4, hw⟩ := hw
    refine xiast (k := v1.toNatClampNeg) hx hb hK hP hD hS 1 0 rfl rfl h4 rfl dX0_addSent_21 ?_; clear hP hD hS; clear H locs; intro f5 e_f5 H locs hP hD hS
    replace hw := hw f5 e_f5
    clear e_f5
    replace hP : va_P (dC, dI) vwCl (w_X0_addSent h0 h_records h_delays cy f5) H := hP
    replace hD : va_D A (w_X0_addSent h0 h_records h_delays cy f5) := hD
    subst hQe
    exact W.vret hx hb hr (fun t ht hW => ⟨⟨f5, rfl, hw, by rw [ht]; exact hP, va_K.moved hW.alike hK, hD⟩, hS.F ht⟩) hS.2.2 dX0_addSent_22
set_option maxHeartbeats 4000000 in
set_option maxRecDepth 100000 in
theorem c_X11_nearest (l : Launch) (dC : Nat → ClassId) (dI : Nat → Nat → Nat) (cy : Nat → ClassId) (sz : Nat) (v0 : Int32) (v1 : Int32) (v2 : Int32) (post : Int32 → Prop) (hw : wp_X11_nearest v0 v1 v2 post) : Met l yX11_nearest wsX11_nearest ({ frames := 0, cells := 0, slots := 0, locals := 0 }) (PX dC dI cy [.int v0, .int v1, .int v2] sz (w_X11_nearest cy)) (va_Qi (fun (r : Int32) (u : Unit) => post r) (QX dC dI cy (va_A (w_X11_nearest cy) sz) (fun (u : Unit) => w_X11_nearest cy)) (va_A (w_X11_nearest cy) sz)) 0 0 (va_A (w_X11_nearest cy) sz) := by
  refine Met.ofW (cc := cX11_nearest) (maxL := 3) (ret := (some .int)) (by decide) rfl ?_
  intro p e s m args below meth c s₁ B hml hv
  obtain ⟨rfl, hsz, hP, hK, hD0, hG⟩ := hv
  have hx := B.exec
  have hb := B.bytes
  have hr := B.returns
  have hts := atoms_spec (ws := wsX11_nearest) B.pre
  have hown : s.vm.findClass RX11 = some m.cls := findClass_of_methodNamed B.named
  have hlocks := B.notSynchronized
  subst hsz
  have hD := hD0.self (sz := s.heap.size)
  generalize hAe : va_A (w_X11_nearest cy) s.heap.size = A at hD ⊢
  have hA : ∀ q : Nat, s.heap.size ≤ q → A q := fun q h => by rw [← hAe]; exact Or.inr h
  have hS : va_S A s.heap s.heap [] := va_S.rf
  have hl := lv_entry ([.int v0, .int v1, .int v2]) (n := 3) (Nat.le_of_ble_eq_true rfl)
  rw [lg_entry_eq]
  generalize (lg_sl ([.int v0, .int v1, .int v2]) ++ List.replicate (3 - (lg_sl ([.int v0, .int v1, .int v2])).length) Slot.unset).toArray = ls at hl ⊢
  replace hl : lv_has ls 3 [(0, .int v0), (1, .int v1), (2, .int v2)] := hl
  clear hAe hD0 B
  unfold wp_X11_nearest at hw
  generalize hQe : MQ below _ _ s _ _ _ = Q0
  generalize ([.int v0, .int v1, .int v2] : List Value).toArray = av at *
  obtain ⟨H, hH⟩ : ∃ H, H = s.heap := ⟨_, rfl⟩
  obtain ⟨locs, hlo⟩ : ∃ L : List Loc, L = [] := ⟨_, rfl⟩
  replace hP : va_P (dC, dI) vwCl (w_X11_nearest cy) H := by rw [hH]; exact hP
  replace hS : va_S A s.heap H locs := by rw [hH, hlo]; exact hS
  suffices hgo : W p l e ({ frames := 0, cells := 0, slots := 0, locals := 0 }) s m av below meth c H locs 0 0 Q0 (F0 m 0 ls []) by rw [hH, hlo] at hgo; exact hgo
  clear hH hlo
  refine lv_iload_n hx hb dX11_nearest_0 rfl (lv_at hl 0 rfl) ?_
  refine lv_iload_n hx hb dX11_nearest_1 rfl (lv_at hl 1 rfl) ?_
  refine lv_icmp_ge (tgt := 7) hx hb dX11_nearest_2 (by decide) (fun c1 => ?_) (fun c1 => ?_)
  · replace hw := hw.1 c1
    refine lv_iload_n hx hb dX11_nearest_7 rfl (lv_at hl 0 rfl) ?_
    refine lv_iload_n hx hb dX11_nearest_8 rfl (lv_at hl 2 rfl) ?_
    refine lv_icmp_le (tgt := 16) hx hb dX11_nearest_9 (by decide) (fun c2 => ?_) (fun c2 => ?_)
    · replace hw := hw.1 c2
      refine lv_iload_n hx hb dX11_nearest_16 rfl (lv_at hl 0 rfl) ?_
      subst hQe
      exact W.iret (v := v0) hx hb hr (fun t ht hW => ⟨⟨v0, (), rfl, hw, by rw [ht]; exact hP, va_K.moved hW.alike hK, hD⟩, hS.F ht⟩) hS.2.2 dX11_nearest_17
    · replace hw := hw.2 c2
      refine lv_iload_n hx hb dX11_nearest_12 rfl (lv_at hl 2 rfl) ?_
      refine lv_goto (tgt := 17) hx hb dX11_nearest_13 (by decide) ?_
      subst hQe
      exact W.iret (v := v2) hx hb hr (fun t ht hW => ⟨⟨v2, (), rfl, hw, by rw [ht]; exact hP, va_K.moved hW.alike hK, hD⟩, hS.F ht⟩) hS.2.2 dX11_nearest_17
  · replace hw := hw.2 c1
    refine lv_iload_n hx hb dX11_nearest_5 rfl (lv_at hl 1 rfl) ?_
    subst hQe
    exact W.iret (v := v1) hx hb hr (fun t ht hW => ⟨⟨v1, (), rfl, hw, by rw [ht]; exact hP, va_K.moved hW.alike hK, hD⟩, hS.F ht⟩) hS.2.2 dX11_nearest_6
set_option maxHeartbeats 4000000 in
set_option maxRecDepth 100000 in
theorem c_X0_arrive (l : Launch) (dC : Nat → ClassId) (dI : Nat → Nat → Nat) (cy : Nat → ClassId) (h0 h_records h_delays : Nat) (sz : Nat) (v1 : Int32) (v2 : Int32) (c_records : Nat → Int32) (c_delays : Nat → Int32) (post : (Nat → Int32) → (Nat → Int32) → Prop) (hw : wp_X0_arrive v1 v2 c_records c_delays post) : Met l yX0_arrive wsX0_arrive ({ frames := 2, cells := 0, slots := 0, locals := 44 }) (PX dC dI cy [.ref h0, .int v1, .int v2] sz (w_X0_arrive h0 h_records h_delays cy c_records c_delays)) (va_Qv (fun (u : (Nat → Int32) × (Nat → Int32)) => post u.1 u.2) (QX dC dI cy (va_A (w_X0_arrive h0 h_records h_delays cy c_records c_delays) sz) (fun (u : (Nat → Int32) × (Nat → Int32)) => w_X0_arrive h0 h_records h_delays cy u.1 u.2)) (va_A (w_X0_arrive h0 h_records h_delays cy c_records c_delays) sz)) 0 0 (va_A (w_X0_arrive h0 h_records h_delays cy c_records c_delays) sz) := by
  refine Met.ofW (cc := cX0_arrive) (maxL := 3) (ret := none) (by decide) rfl ?_
  intro p e s m args below meth c s₁ B hml hv
  obtain ⟨rfl, hsz, hP, hK, hD0, hG⟩ := hv
  have hx := B.exec
  have hb := B.bytes
  have hr := B.returns
  have hts := atoms_spec (ws := wsX0_arrive) B.pre
  have hown : s.vm.findClass RX0 = some m.cls := findClass_of_methodNamed B.named
  have hlocks := B.notSynchronized
  subst hsz
  have hD := hD0.self (sz := s.heap.size)
  generalize hAe : va_A (w_X0_arrive h0 h_records h_delays cy c_records c_delays) s.heap.size = A at hD ⊢
  have hA : ∀ q : Nat, s.heap.size ≤ q → A q := fun q h => by rw [← hAe]; exact Or.inr h
  have hS : va_S A s.heap s.heap [] := va_S.rf
  have hl := lv_entry ([.ref h0, .int v1, .int v2]) (n := 3) (Nat.le_of_ble_eq_true rfl)
  rw [lg_entry_eq]
  generalize (lg_sl ([.ref h0, .int v1, .int v2]) ++ List.replicate (3 - (lg_sl ([.ref h0, .int v1, .int v2])).length) Slot.unset).toArray = ls at hl ⊢
  replace hl : lv_has ls 3 [(0, .ref h0), (1, .int v1), (2, .int v2)] := hl
  have inX0 : ∀ w ∈ u_ws RX0 TX0 2, w ∈ wsX0_arrive := fun w h => List.mem_cons_of_mem _ (inlX0 w h)
  clear hAe hD0 B
  unfold wp_X0_arrive at hw
  generalize hQe : MQ below _ _ s _ _ _ = Q0
  generalize ([.ref h0, .int v1, .int v2] : List Value).toArray = av at *
  obtain ⟨H, hH⟩ : ∃ H, H = s.heap := ⟨_, rfl⟩
  obtain ⟨locs, hlo⟩ : ∃ L : List Loc, L = [] := ⟨_, rfl⟩
  replace hP : va_P (dC, dI) vwCl (w_X0_arrive h0 h_records h_delays cy c_records c_delays) H := by rw [hH]; exact hP
  replace hS : va_S A s.heap H locs := by rw [hH, hlo]; exact hS
  suffices hgo : W p l e ({ frames := 2, cells := 0, slots := 0, locals := 44 }) s m av below meth c H locs 0 0 Q0 (F0 m 0 ls []) by rw [hH, hlo] at hgo; exact hgo
  clear hH hlo
  refine lv_iload_n hx hb dX0_arrive_0 rfl (lv_at hl 1 rfl) ?_
  refine lv_iconst (v := 0) hx hb dX0_arrive_1 (by decide) ?_
  refine lv_sipush (v := 2499) hx hb dX0_arrive_2 (by decide) ?_
  have hPc := pSub (ws' := (w_X11_within cy)) hP [] rfl
  have hDc := dSub (ws' := (w_X11_within cy)) hD [] (by decide) rfl
  have hFc := va_free (wc := (w_X11_within cy)) hD hS hA [] rfl
  refine va_calli (va_runSN (As := [.int v1, .int (0 : Int32), .int (2499 : Int32)]) (rest := []) ⟨hx, hb, hml, hown, hts⟩ (c_X11_within l dC dI cy  H.size v1 (0 : Int32) (2499 : Int32) _ hw) ⟨va_cnB 3 hts (goodG mw_195) rfl rfl rfl (hG.1 ("HeadsetBands$Book", 30, ⟨"HeadsetBands", "within", "(III)Z"⟩, "HeadsetBands") (by decide +kernel)) (hts _ (List.mem_cons_of_mem _ mw_2)) (by decide +kernel) ⟨Nat.le_of_ble_eq_true rfl, Nat.le_of_ble_eq_true rfl⟩, (hts _ (List.mem_cons_of_mem _ mw_194)), trivial⟩ ⟨PX_blind, PX_pre hPc hK hDc hG⟩ rfl rfl hl.1 rfl (lv_room (Nat.le_of_ble_eq_true rfl)) dX0_arrive_5 ⟨Nat.zero_le _, Nat.zero_le _⟩) hS (fun q _ h => hFc q h) hFc ?_; clear hw hS; intro r1 _ t H1 locs1 ht hvm hw hB hz1 hk1 hS
  obtain ⟨hP1, -, -⟩ := hB
  rw [ht] at hP1
  replace hP := jC0 hP hD [] [0, 1, 2] rfl hk1 hP1 (w_X0_arrive h0 h_records h_delays cy c_records c_delays) rfl rfl rfl 3 rfl (by decide +kernel); clear hD; obtain ⟨hP, hD⟩ := hP
  replace hP : va_P (dC, dI) vwCl (w_X0_arrive h0 h_records h_delays cy c_records c_delays) H1 := hP
  replace hD : va_D A (w_X0_arrive h0 h_records h_delays cy c_records c_delays) := hD
  clear hPc hDc hFc hP1 hk1 hz1 hvm ht; clear t; clear H locs; obtain ⟨H, hH⟩ : ∃ H, H = H1 := ⟨_, rfl⟩; obtain ⟨locs, hlo⟩ : ∃ L, L = locs1 := ⟨_, rfl⟩; subst hH; subst hlo
  refine W.widen (k := 0) (n := 0) (Nat.le_refl 0) (Nat.le_refl 0) ?_
  refine lv_if_eq (tgt := 52) hx hb dX0_arrive_8 (by decide) (fun c2 => ?_) (fun c2 => ?_)
  · replace hw := hw.1 c2
    subst hQe
    exact W.vret hx hb hr (fun t ht hW => ⟨⟨(c_records, c_delays), rfl, hw, by rw [ht]; exact hP, va_K.moved hW.alike hK, hD⟩, hS.F ht⟩) hS.2.2 dX0_arrive_52
  · replace hw := hw.2 c2
    refine lv_aload_n hx hb dX0_arrive_11 rfl (lv_at hl 0 rfl) ?_
    refine lv_iload_n hx hb dX0_arrive_12 rfl (lv_at hl 1 rfl) ?_
    refine lv_iconst (v := 2) hx hb dX0_arrive_13 (by decide) ?_
    have hPc := pSub (ws' := (w_X0_setStatus h0 h_records h_delays cy c_records)) hP [0, 1] rfl
    have hDc := dSub (ws' := (w_X0_setStatus h0 h_records h_delays cy c_records)) hD [0, 1] (by decide) rfl
    have hFc := va_free (wc := (w_X0_setStatus h0 h_records h_delays cy c_records)) hD hS hA [0, 1] rfl
    refine va_callv (va_runV (As := [.int v1, .int (2 : Int32)]) (rest := []) ⟨hx, hb, hml, hown, hts⟩ (c_X0_setStatus l dC dI cy h0 h_records h_delays H.size v1 (2 : Int32) c_records _ hw) (cwV 2 hts (goodV mw_405 mw_482 mw_403 mw_404 mw_40) rfl rfl rfl (by decide +kernel) ⟨Nat.le_of_ble_eq_true rfl, Nat.le_of_ble_eq_true rfl⟩) ⟨PX_blind, va_recv hK hPc (ci := 0) (q0 := 0) rfl rfl, PX_pre hPc hK hDc hG⟩ rfl rfl hl.1 rfl (lv_room (Nat.le_of_ble_eq_true rfl)) dX0_arrive_14 ⟨Nat.zero_le _, Nat.zero_le _⟩) hS (fun q _ h => hFc q h) hFc ?_; clear hw hS; intro f3 t H1 locs1 ht hvm hw hB hz1 hk1 hS
    obtain ⟨hP1, -, -⟩ := hB
    rw [ht] at hP1
    replace hP := jC0 hP hD [0, 1] [2] rfl hk1 hP1 (w_X0_arrive h0 h_records h_delays cy f3 c_delays) rfl rfl rfl 3 rfl (by decide +kernel); clear hD; obtain ⟨hP, hD⟩ := hP
    replace hP : va_P (dC, dI) vwCl (w_X0_arrive h0 h_records h_delays cy f3 c_delays) H1 := hP
    replace hD : va_D A (w_X0_arrive h0 h_records h_delays cy f3 c_delays) := hD
    clear hPc hDc hFc hP1 hk1 hz1 hvm ht; clear t; clear H locs; obtain ⟨H, hH⟩ : ∃ H, H = H1 := ⟨_, rfl⟩; obtain ⟨locs, hlo⟩ : ∃ L, L = locs1 := ⟨_, rfl⟩; subst hH; subst hlo
    refine W.widen (k := 0) (n := 0) (Nat.le_refl 0) (Nat.le_refl 0) ?_
    refine lv_aload_n hx hb dX0_arrive_17 rfl (lv_at hl 0 rfl) ?_
    refine va_get (D := (dC, dI)) (ci := 0) (v := .ref h_records) (C := RX0) (T := TX0) (N := 2) hx hb hts inX0 hown hK hP 0 rfl rfl 0 (by decide) (hts _ (List.mem_cons_of_mem _ mw_65)) (fun _ h9 => h9) rfl dX0_arrive_18 ?_
    refine lv_iload_n hx hb dX0_arrive_21 rfl (lv_at hl 1 rfl) ?_
    refine lv_dup2_11 hx hb dX0_arrive_22 rfl rfl ?_
    obtain ⟨h4, hw⟩ := hw
    refine xiald (k := v1.toNatClampNeg) hx hb hK hP 1 0 rfl rfl h4 rfl dX0_arrive_23 ?_
    refine lv_iload_n hx hb dX0_arrive_24 rfl (lv_at hl 2 rfl) ?_
    refine lv_iconst (v := 1) hx hb dX0_arrive_25 (by decide) ?_
    refine lv_iadd hx hb dX0_arrive_26 ?_
    refine lv_bipush (v := 12) hx hb dX0_arrive_27 (by decide) ?_
    refine lv_ishl hx hb dX0_arrive_29 ?_
    refine lv_ior hx hb dX0_arrive_30 ?_
    obtain ⟨h5, hw⟩ := hw
    refine xiast (k := v1.toNatClampNeg) hx hb hK hP hD hS 1 0 rfl rfl h5 rfl dX0_arrive_31 ?_; clear hP hD hS; clear H locs; intro f6 e_f6 H locs hP hD hS
    replace hw := hw f6 e_f6
    clear e_f6
    replace hP : va_P (dC, dI) vwCl (w_X0_arrive h0 h_records h_delays cy f6 c_delays) H := hP
    replace hD : va_D A (w_X0_arrive h0 h_records h_delays cy f6 c_delays) := hD
    refine lv_aload_n hx hb dX0_arrive_32 rfl (lv_at hl 0 rfl) ?_
    refine va_get (D := (dC, dI)) (ci := 0) (v := .ref h_delays) (C := RX0) (T := TX0) (N := 2) hx hb hts inX0 hown hK hP 0 rfl rfl 1 (by decide) (hts _ (List.mem_cons_of_mem _ mw_66)) (fun _ h9 => h9) rfl dX0_arrive_33 ?_
    refine lv_iload_n hx hb dX0_arrive_36 rfl (lv_at hl 2 rfl) ?_
    refine lv_iconst (v := 4) hx hb dX0_arrive_37 (by decide) ?_
    refine lv_iload_n hx hb dX0_arrive_38 rfl (lv_at hl 1 rfl) ?_
    refine lv_imul hx hb dX0_arrive_39 ?_
    refine lv_isub hx hb dX0_arrive_40 ?_
    refine lv_iconst (v := 0) hx hb dX0_arrive_41 (by decide) ?_
    refine lv_bipush (v := 15) hx hb dX0_arrive_42 (by decide) ?_
    have hPc := pSub (ws' := (w_X11_nearest cy)) hP [] rfl
    have hDc := dSub (ws' := (w_X11_nearest cy)) hD [] (by decide) rfl
    have hFc := va_free (wc := (w_X11_nearest cy)) hD hS hA [] rfl
    refine va_calli (va_runSN (As := [.int (v2 - ((4 : Int32) * v1)), .int (0 : Int32), .int (15 : Int32)]) (rest := [.ref h_delays]) ⟨hx, hb, hml, hown, hts⟩ (c_X11_nearest l dC dI cy  H.size (v2 - ((4 : Int32) * v1)) (0 : Int32) (15 : Int32) _ hw) ⟨va_cnB 3 hts (goodG mw_276) rfl rfl rfl (hG.1 ("HeadsetBands$Book", 38, ⟨"HeadsetBands", "nearest", "(III)I"⟩, "HeadsetBands") (by decide +kernel)) (hts _ (List.mem_cons_of_mem _ mw_2)) (by decide +kernel) ⟨Nat.le_of_ble_eq_true rfl, Nat.le_of_ble_eq_true rfl⟩, (hts _ (List.mem_cons_of_mem _ mw_275)), trivial⟩ ⟨PX_blind, PX_pre hPc hK hDc hG⟩ rfl rfl hl.1 rfl (lv_room (Nat.le_of_ble_eq_true rfl)) dX0_arrive_44 ⟨Nat.zero_le _, Nat.zero_le _⟩) hS (fun q _ h => hFc q h) hFc ?_; clear hw hS; intro r7 _ t H1 locs1 ht hvm hw hB hz1 hk1 hS
    obtain ⟨hP1, -, -⟩ := hB
    rw [ht] at hP1
    replace hP := jC0 hP hD [] [0, 1, 2] rfl hk1 hP1 (w_X0_arrive h0 h_records h_delays cy f6 c_delays) rfl rfl rfl 3 rfl (by decide +kernel); clear hD; obtain ⟨hP, hD⟩ := hP
    replace hP : va_P (dC, dI) vwCl (w_X0_arrive h0 h_records h_delays cy f6 c_delays) H1 := hP
    replace hD : va_D A (w_X0_arrive h0 h_records h_delays cy f6 c_delays) := hD
    clear hPc hDc hFc hP1 hk1 hz1 hvm ht; clear t; clear H locs; obtain ⟨H, hH⟩ : ∃ H, H = H1 := ⟨_, rfl⟩; obtain ⟨locs, hlo⟩ : ∃ L, L = locs1 := ⟨_, rfl⟩; subst hH; subst hlo
    refine W.widen (k := 0) (n := 0) (Nat.le_refl 0) (Nat.le_refl 0) ?_
    refine lv_dup2_11 hx hb dX0_arrive_47 rfl rfl ?_
    obtain ⟨h8, hw⟩ := hw
    refine xiald (k := r7.toNatClampNeg) hx hb hK hP 2 0 rfl rfl h8 rfl dX0_arrive_48 ?_
    refine lv_iconst (v := 1) hx hb dX0_arrive_49 (by decide) ?_
    refine lv_iadd hx hb dX0_arrive_50 ?_
    obtain ⟨h9, hw⟩ := hw
    refine xiast (k := r7.toNatClampNeg) hx hb hK hP hD hS 2 0 rfl rfl h9 rfl dX0_arrive_51 ?_; clear hP hD hS; clear H locs; intro f10 e_f10 H locs hP hD hS
    replace hw := hw f10 e_f10
    clear e_f10
    replace hP : va_P (dC, dI) vwCl (w_X0_arrive h0 h_records h_delays cy f6 f10) H := hP
    replace hD : va_D A (w_X0_arrive h0 h_records h_delays cy f6 f10) := hD
    subst hQe
    exact W.vret hx hb hr (fun t ht hW => ⟨⟨(f6, f10), rfl, hw, by rw [ht]; exact hP, va_K.moved hW.alike hK, hD⟩, hS.F ht⟩) hS.2.2 dX0_arrive_52
set_option maxHeartbeats 4000000 in
set_option maxRecDepth 100000 in
theorem c_X0_delaysAbove (l : Launch) (dC : Nat → ClassId) (dI : Nat → Nat → Nat) (cy : Nat → ClassId) (h0 h_records h_delays : Nat) (sz : Nat) (v1 : Int32) (c_delays : Nat → Int32) (post : Int32 → Prop) (hw : wp_X0_delaysAbove v1 c_delays post) : Met l yX0_delaysAbove wsX0_delaysAbove ({ frames := 0, cells := 0, slots := 0, locals := 0 }) (PX dC dI cy [.ref h0, .int v1] sz (w_X0_delaysAbove h0 h_records h_delays cy c_delays)) (va_Qi (fun (r : Int32) (u : Unit) => post r) (QX dC dI cy (va_A (w_X0_delaysAbove h0 h_records h_delays cy c_delays) sz) (fun (u : Unit) => w_X0_delaysAbove h0 h_records h_delays cy c_delays)) (va_A (w_X0_delaysAbove h0 h_records h_delays cy c_delays) sz)) 0 0 (va_A (w_X0_delaysAbove h0 h_records h_delays cy c_delays) sz) := by
  refine Met.ofW (cc := cX0_delaysAbove) (maxL := 4) (ret := (some .int)) (by decide) rfl ?_
  intro p e s m args below meth c s₁ B hml hv
  obtain ⟨rfl, hsz, hP, hK, hD0, hG⟩ := hv
  have hx := B.exec
  have hb := B.bytes
  have hr := B.returns
  have hts := atoms_spec (ws := wsX0_delaysAbove) B.pre
  have hown : s.vm.findClass RX0 = some m.cls := findClass_of_methodNamed B.named
  have hlocks := B.notSynchronized
  subst hsz
  have hD := hD0.self (sz := s.heap.size)
  generalize hAe : va_A (w_X0_delaysAbove h0 h_records h_delays cy c_delays) s.heap.size = A at hD ⊢
  have hA : ∀ q : Nat, s.heap.size ≤ q → A q := fun q h => by rw [← hAe]; exact Or.inr h
  have hS : va_S A s.heap s.heap [] := va_S.rf
  have hl := lv_entry ([.ref h0, .int v1]) (n := 4) (Nat.le_of_ble_eq_true rfl)
  rw [lg_entry_eq]
  generalize (lg_sl ([.ref h0, .int v1]) ++ List.replicate (4 - (lg_sl ([.ref h0, .int v1])).length) Slot.unset).toArray = ls at hl ⊢
  replace hl : lv_has ls 4 [(0, .ref h0), (1, .int v1)] := hl
  have inX0 : ∀ w ∈ u_ws RX0 TX0 2, w ∈ wsX0_delaysAbove := fun w h => List.mem_cons_of_mem _ (inlX0 w h)
  clear hAe hD0 B
  unfold wp_X0_delaysAbove at hw
  generalize hQe : MQ below _ _ s _ _ _ = Q0
  generalize ([.ref h0, .int v1] : List Value).toArray = av at *
  obtain ⟨H, hH⟩ : ∃ H, H = s.heap := ⟨_, rfl⟩
  obtain ⟨locs, hlo⟩ : ∃ L : List Loc, L = [] := ⟨_, rfl⟩
  replace hP : va_P (dC, dI) vwCl (w_X0_delaysAbove h0 h_records h_delays cy c_delays) H := by rw [hH]; exact hP
  replace hS : va_S A s.heap H locs := by rw [hH, hlo]; exact hS
  suffices hgo : W p l e ({ frames := 0, cells := 0, slots := 0, locals := 0 }) s m av below meth c H locs 0 0 Q0 (F0 m 0 ls []) by rw [hH, hlo] at hgo; exact hgo
  clear hH hlo
  refine lv_iconst (v := 0) hx hb dX0_delaysAbove_0 (by decide) ?_
  refine lv_istore_n (lv' := [(2, .int (0 : Int32)), (0, .ref h0), (1, .int v1)]) hx hb dX0_delaysAbove_1 rfl hl (by decide) rfl ?_; clear hl; clear ls; intro ls hl
  refine lv_iload_n hx hb dX0_delaysAbove_2 rfl (lv_at hl 2 rfl) ?_
  refine lv_iconst (v := 1) hx hb dX0_delaysAbove_3 (by decide) ?_
  refine lv_iadd hx hb dX0_delaysAbove_4 ?_
  refine lv_topi (fun x1 e_x1 => ?_)
  replace hw := hw x1 e_x1
  clear e_x1
  refine lv_istore_n (lv' := [(3, .int x1), (2, .int (0 : Int32)), (0, .ref h0), (1, .int v1)]) hx hb dX0_delaysAbove_5 rfl hl (by decide) rfl ?_; clear hl; clear ls; intro ls hl
  obtain ⟨x2, e_x2⟩ : ∃ y : Int32, y = (0 : Int32) := ⟨_, rfl⟩
  replace hw := hw x2 e_x2
  replace hl : lv_has ls 4 [(3, .int x1), (2, .int x2), (0, .ref h0), (1, .int v1)] := by rw [e_x2]; exact hl
  clear e_x2
  replace hl := lv_sub (l' := [(3, .int x1), (2, .int x2), (0, .ref h0)]) hl [0, 1, 2] rfl
  revert hl; revert hS; revert hD; revert hP; revert ls; revert locs; revert H
  revert hw; revert x2; revert x1
  refine Lz2_gr ?_; intro g3 ih4 x5 x6 hw
  intro H locs ls hP hD hS hl
  refine lv_iload_n hx hb dX0_delaysAbove_6 rfl (lv_at hl 0 rfl) ?_
  refine lv_bipush (v := 16) hx hb dX0_delaysAbove_7 (by decide) ?_
  refine lv_icmp_ge (tgt := 27) hx hb dX0_delaysAbove_9 (by decide) (fun c7 => ?_) (fun c7 => ?_)
  · replace hw := hw.1 c7
    clear ih4
    refine lv_iload_n hx hb dX0_delaysAbove_27 rfl (lv_at hl 1 rfl) ?_
    subst hQe
    exact W.iret (v := x6) hx hb hr (fun t ht hW => ⟨⟨x6, (), rfl, hw, by rw [ht]; exact hP, va_K.moved hW.alike hK, hD⟩, hS.F ht⟩) hS.2.2 dX0_delaysAbove_28
  · replace hw := hw.2 c7
    refine lv_iload_n hx hb dX0_delaysAbove_12 rfl (lv_at hl 1 rfl) ?_
    refine lv_aload_n hx hb dX0_delaysAbove_13 rfl (lv_at hl 2 rfl) ?_
    refine va_get (D := (dC, dI)) (ci := 0) (v := .ref h_delays) (C := RX0) (T := TX0) (N := 2) hx hb hts inX0 hown hK hP 0 rfl rfl 1 (by decide) (hts _ (List.mem_cons_of_mem _ mw_66)) (fun _ h9 => h9) rfl dX0_delaysAbove_14 ?_
    refine lv_iload_n hx hb dX0_delaysAbove_17 rfl (lv_at hl 0 rfl) ?_
    obtain ⟨h8, hw⟩ := hw
    refine xiald (k := x5.toNatClampNeg) hx hb hK hP 1 0 rfl rfl h8 rfl dX0_delaysAbove_18 ?_
    refine lv_iadd hx hb dX0_delaysAbove_19 ?_
    refine lv_topi (fun x9 e_x9 => ?_)
    replace hw := hw x9 e_x9
    clear e_x9
    refine lv_istore_n (lv' := [(2, .int x9), (3, .int x5), (0, .ref h0)]) hx hb dX0_delaysAbove_20 rfl hl (by decide) rfl ?_; clear hl; clear ls; intro ls hl
    refine lv_iinc (v := x5 + 1) (lv' := [(3, .int (x5 + 1)), (2, .int x9), (0, .ref h0)]) hx hb dX0_delaysAbove_21 hl (k := 1) rfl rfl (by decide) rfl ?_; clear hl; clear ls; intro ls hl
    refine lv_goto (tgt := 6) hx hb dX0_delaysAbove_24 (by decide) ?_
    exact ih4 (x5 + 1) x9 hw H locs ls hP hD hS (lv_sub hl [0, 1, 2] rfl)
set_option maxHeartbeats 4000000 in
set_option maxRecDepth 100000 in
theorem c_X1_bytesFor (l : Launch) (dC : Nat → ClassId) (dI : Nat → Nat → Nat) (cy : Nat → ClassId) (sz : Nat) (v0 : Int32) (post : Int32 → Prop) (hw : wp_X1_bytesFor v0 post) : Met l yX1_bytesFor wsX1_bytesFor ({ frames := 0, cells := 0, slots := 0, locals := 0 }) (PX dC dI cy [.int v0] sz (w_X1_bytesFor cy)) (va_Qi (fun (r : Int32) (u : Unit) => post r) (QX dC dI cy (va_A (w_X1_bytesFor cy) sz) (fun (u : Unit) => w_X1_bytesFor cy)) (va_A (w_X1_bytesFor cy) sz)) 0 0 (va_A (w_X1_bytesFor cy) sz) := by
  refine Met.ofW (cc := cX1_bytesFor) (maxL := 1) (ret := (some .int)) (by decide) rfl ?_
  intro p e s m args below meth c s₁ B hml hv
  obtain ⟨rfl, hsz, hP, hK, hD0, hG⟩ := hv
  have hx := B.exec
  have hb := B.bytes
  have hr := B.returns
  have hts := atoms_spec (ws := wsX1_bytesFor) B.pre
  have hown : s.vm.findClass RX1 = some m.cls := findClass_of_methodNamed B.named
  have hlocks := B.notSynchronized
  subst hsz
  have hD := hD0.self (sz := s.heap.size)
  generalize hAe : va_A (w_X1_bytesFor cy) s.heap.size = A at hD ⊢
  have hA : ∀ q : Nat, s.heap.size ≤ q → A q := fun q h => by rw [← hAe]; exact Or.inr h
  have hS : va_S A s.heap s.heap [] := va_S.rf
  have hl := lv_entry ([.int v0]) (n := 1) (Nat.le_of_ble_eq_true rfl)
  rw [lg_entry_eq]
  generalize (lg_sl ([.int v0]) ++ List.replicate (1 - (lg_sl ([.int v0])).length) Slot.unset).toArray = ls at hl ⊢
  replace hl : lv_has ls 1 [(0, .int v0)] := hl
  clear hAe hD0 B
  unfold wp_X1_bytesFor at hw
  generalize hQe : MQ below _ _ s _ _ _ = Q0
  generalize ([.int v0] : List Value).toArray = av at *
  obtain ⟨H, hH⟩ : ∃ H, H = s.heap := ⟨_, rfl⟩
  obtain ⟨locs, hlo⟩ : ∃ L : List Loc, L = [] := ⟨_, rfl⟩
  replace hP : va_P (dC, dI) vwCl (w_X1_bytesFor cy) H := by rw [hH]; exact hP
  replace hS : va_S A s.heap H locs := by rw [hH, hlo]; exact hS
  suffices hgo : W p l e ({ frames := 0, cells := 0, slots := 0, locals := 0 }) s m av below meth c H locs 0 0 Q0 (F0 m 0 ls []) by rw [hH, hlo] at hgo; exact hgo
  clear hH hlo
  refine lv_bipush (v := 13) hx hb dX1_bytesFor_0 (by decide) ?_
  refine lv_iload_n hx hb dX1_bytesFor_2 rfl (lv_at hl 0 rfl) ?_
  refine lv_iconst (v := 4) hx hb dX1_bytesFor_3 (by decide) ?_
  refine lv_imul hx hb dX1_bytesFor_4 ?_
  refine lv_bipush (v := 7) hx hb dX1_bytesFor_5 (by decide) ?_
  refine lv_iadd hx hb dX1_bytesFor_7 ?_
  refine lv_bipush (v := 8) hx hb dX1_bytesFor_8 (by decide) ?_
  refine lv_idiv hx hb dX1_bytesFor_10 (by decide) ?_
  refine lv_topi (fun x1 e_x1 => ?_)
  replace hw := hw x1 e_x1
  clear e_x1
  refine lv_iadd hx hb dX1_bytesFor_11 ?_
  subst hQe
  exact W.iret (v := (13 : Int32) + x1) hx hb hr (fun t ht hW => ⟨⟨((13 : Int32) + x1), (), rfl, hw, by rw [ht]; exact hP, va_K.moved hW.alike hK, hD⟩, hS.F ht⟩) hS.2.2 dX1_bytesFor_12
set_option maxHeartbeats 4000000 in
set_option maxRecDepth 100000 in
theorem c_X1_become (l : Launch) (dC : Nat → ClassId) (dI : Nat → Nat → Nat) (cy : Nat → ClassId) (h0 h_bytes k1 k1_bytes : Nat) (sz : Nat) (c_size : Int32) (c_at : Int32) (p1_size : Int32) (p1_at : Int32) (p1_bytes : Nat → Int32) (c_bytes : Nat → Int32) (post : Int32 → (Nat → Int32) → Prop) (hw : wp_X1_become c_size p1_size p1_bytes c_bytes post) : Met l yX1_become wsX1_become ({ frames := 1, cells := 0, slots := 0, locals := 40 }) (PX dC dI cy [.ref h0, .ref k1] sz (w_X1_become h0 h_bytes k1 k1_bytes cy c_size c_at p1_size p1_at p1_bytes c_bytes)) (va_Qv (fun (u : Int32 × (Nat → Int32)) => post u.1 u.2) (QX dC dI cy (va_A (w_X1_become h0 h_bytes k1 k1_bytes cy c_size c_at p1_size p1_at p1_bytes c_bytes) sz) (fun (u : Int32 × (Nat → Int32)) => w_X1_become h0 h_bytes k1 k1_bytes cy u.1 c_at p1_size p1_at p1_bytes u.2)) (va_A (w_X1_become h0 h_bytes k1 k1_bytes cy c_size c_at p1_size p1_at p1_bytes c_bytes) sz)) 0 0 (va_A (w_X1_become h0 h_bytes k1 k1_bytes cy c_size c_at p1_size p1_at p1_bytes c_bytes) sz) := by
  refine Met.ofW (cc := cX1_become) (maxL := 2) (ret := none) (by decide) rfl ?_
  intro p e s m args below meth c s₁ B hml hv
  obtain ⟨rfl, hsz, hP, hK, hD0, hG⟩ := hv
  have hx := B.exec
  have hb := B.bytes
  have hr := B.returns
  have hts := atoms_spec (ws := wsX1_become) B.pre
  have hown : s.vm.findClass RX1 = some m.cls := findClass_of_methodNamed B.named
  have hlocks := B.notSynchronized
  subst hsz
  have hD := hD0.self (sz := s.heap.size)
  generalize hAe : va_A (w_X1_become h0 h_bytes k1 k1_bytes cy c_size c_at p1_size p1_at p1_bytes c_bytes) s.heap.size = A at hD ⊢
  have hA : ∀ q : Nat, s.heap.size ≤ q → A q := fun q h => by rw [← hAe]; exact Or.inr h
  have hS : va_S A s.heap s.heap [] := va_S.rf
  have hl := lv_entry ([.ref h0, .ref k1]) (n := 2) (Nat.le_of_ble_eq_true rfl)
  rw [lg_entry_eq]
  generalize (lg_sl ([.ref h0, .ref k1]) ++ List.replicate (2 - (lg_sl ([.ref h0, .ref k1])).length) Slot.unset).toArray = ls at hl ⊢
  replace hl : lv_has ls 2 [(0, .ref h0), (1, .ref k1)] := hl
  have inX1 : ∀ w ∈ u_ws RX1 TX1 3, w ∈ wsX1_become := fun w h => List.mem_cons_of_mem _ (inlX1 w h)
  clear hAe hD0 B
  unfold wp_X1_become at hw
  generalize hQe : MQ below _ _ s _ _ _ = Q0
  generalize ([.ref h0, .ref k1] : List Value).toArray = av at *
  obtain ⟨H, hH⟩ : ∃ H, H = s.heap := ⟨_, rfl⟩
  obtain ⟨locs, hlo⟩ : ∃ L : List Loc, L = [] := ⟨_, rfl⟩
  replace hP : va_P (dC, dI) vwCl (w_X1_become h0 h_bytes k1 k1_bytes cy c_size c_at p1_size p1_at p1_bytes c_bytes) H := by rw [hH]; exact hP
  replace hS : va_S A s.heap H locs := by rw [hH, hlo]; exact hS
  suffices hgo : W p l e ({ frames := 1, cells := 0, slots := 0, locals := 40 }) s m av below meth c H locs 0 0 Q0 (F0 m 0 ls []) by rw [hH, hlo] at hgo; exact hgo
  clear hH hlo
  refine lv_aload_n hx hb dX1_become_0 rfl (lv_at hl 1 rfl) ?_
  refine va_get (D := (dC, dI)) (ci := 1) (v := .ref k1_bytes) (C := RX1) (T := TX1) (N := 3) hx hb hts inX1 hown hK hP 1 rfl rfl 0 (by decide) (hts _ (List.mem_cons_of_mem _ mw_95)) (fun _ h9 => h9) rfl dX1_become_1 ?_
  refine lv_iconst (v := 0) hx hb dX1_become_4 (by decide) ?_
  refine lv_aload_n hx hb dX1_become_5 rfl (lv_at hl 0 rfl) ?_
  refine va_get (D := (dC, dI)) (ci := 1) (v := .ref h_bytes) (C := RX1) (T := TX1) (N := 3) hx hb hts inX1 hown hK hP 0 rfl rfl 0 (by decide) (hts _ (List.mem_cons_of_mem _ mw_95)) (fun _ h9 => h9) rfl dX1_become_6 ?_
  refine lv_iconst (v := 0) hx hb dX1_become_9 (by decide) ?_
  refine lv_bipush (v := 80) hx hb dX1_become_10 (by decide) ?_
  refine xcopyi (k1 := 0) (k2 := 0) (k3 := 80) hx hb (by rw [hml]; exact hl.1.symm) hown (hts _ (List.mem_cons_of_mem _ mw_397)) (hts _ (List.mem_cons_of_mem _ mw_59)) (hts _ (List.mem_cons_of_mem _ mw_60)) (hts _ (List.mem_cons_of_mem _ mw_61)) hK hP hD hS 2 3 0 0 rfl rfl rfl rfl rfl (by decide) (by decide) (by decide) (by decide) (by decide) (fun _ _ => rfl) (Nat.le_of_ble_eq_true rfl) (Nat.le_of_ble_eq_true rfl) (by decide) (by decide) (by decide) dX1_become_12 ?_; clear hP hD hS; clear H locs; intro f1 e_f1 H locs hP hD hS
  replace hw := hw f1 e_f1
  clear e_f1
  replace hP : va_P (dC, dI) vwCl (w_X1_become h0 h_bytes k1 k1_bytes cy c_size c_at p1_size p1_at p1_bytes f1) H := hP
  replace hD : va_D A (w_X1_become h0 h_bytes k1 k1_bytes cy c_size c_at p1_size p1_at p1_bytes f1) := hD
  refine lv_aload_n hx hb dX1_become_15 rfl (lv_at hl 0 rfl) ?_
  refine lv_aload_n hx hb dX1_become_16 rfl (lv_at hl 1 rfl) ?_
  refine va_get (D := (dC, dI)) (ci := 1) (v := .int p1_size) (C := RX1) (T := TX1) (N := 3) hx hb hts inX1 hown hK hP 1 rfl rfl 1 (by decide) (hts _ (List.mem_cons_of_mem _ mw_96)) (fun _ h9 => h9) rfl dX1_become_17 ?_
  refine va_put (D := (dC, dI)) (ci := 1) (v := .int p1_size) (ty := .int) (C := RX1) (T := TX1) (N := 3) hx hb hts inX1 tyX1 tyX1_ok nmX1 hown hK hP hD hS 0 rfl rfl 1 (by decide) (hts _ (List.mem_cons_of_mem _ mw_96)) (fun _ h9 => h9) rfl (by decide +kernel) rfl rfl (Nat.le_of_ble_eq_true rfl) dX1_become_20 ?_; clear hP hD hS; clear H locs; intro H locs hP hD hS
  replace hP : va_P (dC, dI) vwCl (w_X1_become h0 h_bytes k1 k1_bytes cy p1_size c_at p1_size p1_at p1_bytes f1) H := hP
  replace hD : va_D A (w_X1_become h0 h_bytes k1 k1_bytes cy p1_size c_at p1_size p1_at p1_bytes f1) := hD
  subst hQe
  exact W.vret hx hb hr (fun t ht hW => ⟨⟨(p1_size, f1), rfl, hw, by rw [ht]; exact hP, va_K.moved hW.alike hK, hD⟩, hS.F ht⟩) hS.2.2 dX1_become_23
set_option maxHeartbeats 4000000 in
set_option maxRecDepth 100000 in
theorem c_X1_rewind (l : Launch) (dC : Nat → ClassId) (dI : Nat → Nat → Nat) (cy : Nat → ClassId) (h0 h_bytes : Nat) (sz : Nat) (c_size : Int32) (c_at : Int32) (post : Int32 → Prop) (hw : wp_X1_rewind c_at post) : Met l yX1_rewind wsX1_rewind ({ frames := 0, cells := 0, slots := 0, locals := 0 }) (PX dC dI cy [.ref h0] sz (w_X1_rewind h0 h_bytes cy c_size c_at)) (va_Qv (fun (u : Int32) => post u) (QX dC dI cy (va_A (w_X1_rewind h0 h_bytes cy c_size c_at) sz) (fun (u : Int32) => w_X1_rewind h0 h_bytes cy c_size u)) (va_A (w_X1_rewind h0 h_bytes cy c_size c_at) sz)) 0 0 (va_A (w_X1_rewind h0 h_bytes cy c_size c_at) sz) := by
  refine Met.ofW (cc := cX1_rewind) (maxL := 1) (ret := none) (by decide) rfl ?_
  intro p e s m args below meth c s₁ B hml hv
  obtain ⟨rfl, hsz, hP, hK, hD0, hG⟩ := hv
  have hx := B.exec
  have hb := B.bytes
  have hr := B.returns
  have hts := atoms_spec (ws := wsX1_rewind) B.pre
  have hown : s.vm.findClass RX1 = some m.cls := findClass_of_methodNamed B.named
  have hlocks := B.notSynchronized
  subst hsz
  have hD := hD0.self (sz := s.heap.size)
  generalize hAe : va_A (w_X1_rewind h0 h_bytes cy c_size c_at) s.heap.size = A at hD ⊢
  have hA : ∀ q : Nat, s.heap.size ≤ q → A q := fun q h => by rw [← hAe]; exact Or.inr h
  have hS : va_S A s.heap s.heap [] := va_S.rf
  have hl := lv_entry ([.ref h0]) (n := 1) (Nat.le_of_ble_eq_true rfl)
  rw [lg_entry_eq]
  generalize (lg_sl ([.ref h0]) ++ List.replicate (1 - (lg_sl ([.ref h0])).length) Slot.unset).toArray = ls at hl ⊢
  replace hl : lv_has ls 1 [(0, .ref h0)] := hl
  have inX1 : ∀ w ∈ u_ws RX1 TX1 3, w ∈ wsX1_rewind := fun w h => List.mem_cons_of_mem _ (inlX1 w h)
  clear hAe hD0 B
  unfold wp_X1_rewind at hw
  generalize hQe : MQ below _ _ s _ _ _ = Q0
  generalize ([.ref h0] : List Value).toArray = av at *
  obtain ⟨H, hH⟩ : ∃ H, H = s.heap := ⟨_, rfl⟩
  obtain ⟨locs, hlo⟩ : ∃ L : List Loc, L = [] := ⟨_, rfl⟩
  replace hP : va_P (dC, dI) vwCl (w_X1_rewind h0 h_bytes cy c_size c_at) H := by rw [hH]; exact hP
  replace hS : va_S A s.heap H locs := by rw [hH, hlo]; exact hS
  suffices hgo : W p l e ({ frames := 0, cells := 0, slots := 0, locals := 0 }) s m av below meth c H locs 0 0 Q0 (F0 m 0 ls []) by rw [hH, hlo] at hgo; exact hgo
  clear hH hlo
  refine lv_aload_n hx hb dX1_rewind_0 rfl (lv_at hl 0 rfl) ?_
  refine lv_iconst (v := 0) hx hb dX1_rewind_1 (by decide) ?_
  refine va_put (D := (dC, dI)) (ci := 1) (v := .int (0 : Int32)) (ty := .int) (C := RX1) (T := TX1) (N := 3) hx hb hts inX1 tyX1 tyX1_ok nmX1 hown hK hP hD hS 0 rfl rfl 2 (by decide) (hts _ (List.mem_cons_of_mem _ mw_97)) (fun _ h9 => h9) rfl (by decide +kernel) rfl rfl (Nat.le_of_ble_eq_true rfl) dX1_rewind_2 ?_; clear hP hD hS; clear H locs; intro H locs hP hD hS
  replace hP : va_P (dC, dI) vwCl (w_X1_rewind h0 h_bytes cy c_size (0 : Int32)) H := hP
  replace hD : va_D A (w_X1_rewind h0 h_bytes cy c_size (0 : Int32)) := hD
  subst hQe
  exact W.vret hx hb hr (fun t ht hW => ⟨⟨(0 : Int32), rfl, hw, by rw [ht]; exact hP, va_K.moved hW.alike hK, hD⟩, hS.F ht⟩) hS.2.2 dX1_rewind_5
set_option maxHeartbeats 4000000 in
set_option maxRecDepth 100000 in
theorem c_X1_check (l : Launch) (dC : Nat → ClassId) (dI : Nat → Nat → Nat) (cy : Nat → ClassId) (h0 h_bytes : Nat) (sz : Nat) (c_size : Int32) (c_at : Int32) (c_bytes : Nat → Int32) (post : Int32 → Prop) (hw : wp_X1_check c_size c_bytes post) : Met l yX1_check wsX1_check ({ frames := 0, cells := 0, slots := 0, locals := 0 }) (PX dC dI cy [.ref h0] sz (w_X1_check h0 h_bytes cy c_size c_at c_bytes)) (va_Qi (fun (r : Int32) (u : Unit) => post r) (QX dC dI cy (va_A (w_X1_check h0 h_bytes cy c_size c_at c_bytes) sz) (fun (u : Unit) => w_X1_check h0 h_bytes cy c_size c_at c_bytes)) (va_A (w_X1_check h0 h_bytes cy c_size c_at c_bytes) sz)) 0 0 (va_A (w_X1_check h0 h_bytes cy c_size c_at c_bytes) sz) := by
  refine Met.ofW (cc := cX1_check) (maxL := 5) (ret := (some .int)) (by decide) rfl ?_
  intro p e s m args below meth c s₁ B hml hv
  obtain ⟨rfl, hsz, hP, hK, hD0, hG⟩ := hv
  have hx := B.exec
  have hb := B.bytes
  have hr := B.returns
  have hts := atoms_spec (ws := wsX1_check) B.pre
  have hown : s.vm.findClass RX1 = some m.cls := findClass_of_methodNamed B.named
  have hlocks := B.notSynchronized
  subst hsz
  have hD := hD0.self (sz := s.heap.size)
  generalize hAe : va_A (w_X1_check h0 h_bytes cy c_size c_at c_bytes) s.heap.size = A at hD ⊢
  have hA : ∀ q : Nat, s.heap.size ≤ q → A q := fun q h => by rw [← hAe]; exact Or.inr h
  have hS : va_S A s.heap s.heap [] := va_S.rf
  have hl := lv_entry ([.ref h0]) (n := 5) (Nat.le_of_ble_eq_true rfl)
  rw [lg_entry_eq]
  generalize (lg_sl ([.ref h0]) ++ List.replicate (5 - (lg_sl ([.ref h0])).length) Slot.unset).toArray = ls at hl ⊢
  replace hl : lv_has ls 5 [(0, .ref h0)] := hl
  have inX1 : ∀ w ∈ u_ws RX1 TX1 3, w ∈ wsX1_check := fun w h => List.mem_cons_of_mem _ (inlX1 w h)
  clear hAe hD0 B
  unfold wp_X1_check at hw
  generalize hQe : MQ below _ _ s _ _ _ = Q0
  generalize ([.ref h0] : List Value).toArray = av at *
  obtain ⟨H, hH⟩ : ∃ H, H = s.heap := ⟨_, rfl⟩
  obtain ⟨locs, hlo⟩ : ∃ L : List Loc, L = [] := ⟨_, rfl⟩
  replace hP : va_P (dC, dI) vwCl (w_X1_check h0 h_bytes cy c_size c_at c_bytes) H := by rw [hH]; exact hP
  replace hS : va_S A s.heap H locs := by rw [hH, hlo]; exact hS
  suffices hgo : W p l e ({ frames := 0, cells := 0, slots := 0, locals := 0 }) s m av below meth c H locs 0 0 Q0 (F0 m 0 ls []) by rw [hH, hlo] at hgo; exact hgo
  clear hH hlo
  refine lv_bipush (v := 15) hx hb dX1_check_0 (by decide) ?_
  refine lv_istore_n (lv' := [(1, .int (15 : Int32)), (0, .ref h0)]) hx hb dX1_check_2 rfl hl (by decide) rfl ?_; clear hl; clear ls; intro ls hl
  refine lv_iconst (v := 1) hx hb dX1_check_3 (by decide) ?_
  refine lv_istore_n (lv' := [(2, .int (1 : Int32)), (1, .int (15 : Int32)), (0, .ref h0)]) hx hb dX1_check_4 rfl hl (by decide) rfl ?_; clear hl; clear ls; intro ls hl
  obtain ⟨x1, e_x1⟩ : ∃ y : Int32, y = (1 : Int32) := ⟨_, rfl⟩
  replace hw := hw x1 e_x1
  replace hl : lv_has ls 5 [(2, .int x1), (1, .int (15 : Int32)), (0, .ref h0)] := by rw [e_x1]; exact hl
  clear e_x1
  obtain ⟨x2, e_x2⟩ : ∃ y : Int32, y = (15 : Int32) := ⟨_, rfl⟩
  replace hw := hw x2 e_x2
  replace hl : lv_has ls 5 [(2, .int x1), (1, .int x2), (0, .ref h0)] := by rw [e_x2]; exact hl
  clear e_x2
  replace hl := lv_sub (l' := [(2, .int x1), (1, .int x2), (0, .ref h0)]) hl [0, 1, 2] rfl
  revert hl; revert hS; revert hD; revert hP; revert ls; revert locs; revert H
  revert hw; revert x2; revert x1
  refine Lz2_gr ?_; intro g3 ih4 x5 x6 hw
  intro H locs ls hP hD hS hl
  refine lv_iload_n hx hb dX1_check_5 rfl (lv_at hl 0 rfl) ?_
  refine lv_aload_n hx hb dX1_check_6 rfl (lv_at hl 2 rfl) ?_
  refine va_get (D := (dC, dI)) (ci := 1) (v := .int c_size) (C := RX1) (T := TX1) (N := 3) hx hb hts inX1 hown hK hP 0 rfl rfl 1 (by decide) (hts _ (List.mem_cons_of_mem _ mw_96)) (fun _ h9 => h9) rfl dX1_check_7 ?_
  refine lv_icmp_ge (tgt := 71) hx hb dX1_check_10 (by decide) (fun c7 => ?_) (fun c7 => ?_)
  · replace hw := hw.1 c7
    clear ih4
    refine lv_iload_n hx hb dX1_check_71 rfl (lv_at hl 1 rfl) ?_
    subst hQe
    exact W.iret (v := x6) hx hb hr (fun t ht hW => ⟨⟨x6, (), rfl, hw, by rw [ht]; exact hP, va_K.moved hW.alike hK, hD⟩, hS.F ht⟩) hS.2.2 dX1_check_72
  · replace hw := hw.2 c7
    refine lv_iload_n hx hb dX1_check_13 rfl (lv_at hl 0 rfl) ?_
    refine lv_iconst (v := 3) hx hb dX1_check_14 (by decide) ?_
    refine jn1 (Gg := fun (x8 : Int32) => ∀ (H : Heap) (locs : List Loc) (ls : Array Slot), va_P (dC, dI) vwCl (w_X1_check h0 h_bytes cy c_size c_at c_bytes) H → va_D A (w_X1_check h0 h_bytes cy c_size c_at c_bytes) → va_S A s.heap H locs → lv_has ls 5 [(0, .ref h0), (1, .int x8), (2, .int x5)] → W p l e { frames := 0, cells := 0, slots := 0, locals := 0 } s m av below meth c H locs 0 0 Q0 (F0 m 65 ls [])) hw ?_ ?_ <;> clear hw
    · clear hP hD hS hl; clear H locs ls; intro x8 hw H locs ls hP hD hS hl
      refine lv_iinc (v := x5 + 1) (lv' := [(2, .int (x5 + 1)), (0, .ref h0), (1, .int x8)]) hx hb dX1_check_65 hl (k := 2) rfl rfl (by decide) rfl ?_; clear hl; clear ls; intro ls hl
      refine lv_goto (tgt := 5) hx hb dX1_check_68 (by decide) ?_
      exact ih4 (x5 + 1) x8 hw H locs ls hP hD hS (lv_sub hl [0, 2, 1] rfl)
    · intro j10 hw
      refine lv_icmp_ne (tgt := 21) hx hb dX1_check_15 (by decide) (fun c11 => ?_) (fun c11 => ?_)
      · replace hw := hw.2 c11
        refine lv_bipush (v := 7) hx hb dX1_check_21 (by decide) ?_
        refine lv_istore_n (lv' := [(3, .int (7 : Int32)), (2, .int x5), (1, .int x6), (0, .ref h0)]) hx hb dX1_check_23 rfl hl (by decide) rfl ?_; clear hl; clear ls; intro ls hl
        obtain ⟨x12, e_x12⟩ : ∃ y : Int32, y = (7 : Int32) := ⟨_, rfl⟩
        replace hw := hw x12 e_x12
        replace hl : lv_has ls 5 [(3, .int x12), (2, .int x5), (1, .int x6), (0, .ref h0)] := by rw [e_x12]; exact hl
        clear e_x12
        replace hl := lv_sub (l' := [(3, .int x12), (2, .int x5), (1, .int x6), (0, .ref h0)]) hl [0, 1, 2, 3] rfl
        revert hl; revert hS; revert hD; revert hP; revert ls; revert locs; revert H
        revert hw; revert x6; revert x12
        refine Lz2_gr ?_; intro g13 ih14 x15 x16 hw
        intro H locs ls hP hD hS hl
        refine lv_iload_n hx hb dX1_check_24 rfl (lv_at hl 0 rfl) ?_
        refine lv_if_lt (tgt := 65) hx hb dX1_check_25 (by decide) (fun c17 => ?_) (fun c17 => ?_)
        · replace hw := hw.1 c17
          exact j10 x16 hw H locs ls hP hD hS (lv_sub hl [3, 2, 1] rfl)
        · replace hw := hw.2 c17
          refine lv_iload_n hx hb dX1_check_28 rfl (lv_at hl 2 rfl) ?_
          refine lv_bipush (v := 7) hx hb dX1_check_29 (by decide) ?_
          refine lv_ishr hx hb dX1_check_31 ?_
          refine lv_aload_n hx hb dX1_check_32 rfl (lv_at hl 3 rfl) ?_
          refine va_get (D := (dC, dI)) (ci := 1) (v := .ref h_bytes) (C := RX1) (T := TX1) (N := 3) hx hb hts inX1 hown hK hP 0 rfl rfl 0 (by decide) (hts _ (List.mem_cons_of_mem _ mw_95)) (fun _ h9 => h9) rfl dX1_check_33 ?_
          refine lv_iload_n hx hb dX1_check_36 rfl (lv_at hl 1 rfl) ?_
          obtain ⟨h18, hw⟩ := hw
          refine xiald (k := x5.toNatClampNeg) hx hb hK hP 1 0 rfl rfl h18 rfl dX1_check_37 ?_
          refine lv_iload_n hx hb dX1_check_38 rfl (lv_at hl 0 rfl) ?_
          refine lv_ishr hx hb dX1_check_39 ?_
          refine lv_ixor hx hb dX1_check_40 ?_
          refine lv_iconst (v := 1) hx hb dX1_check_41 (by decide) ?_
          refine lv_iand hx hb dX1_check_42 ?_
          refine lv_topi (fun x19 e_x19 => ?_)
          replace hw := hw x19 e_x19
          clear e_x19
          refine lv_istore (lv' := [(4, .int x19), (3, .int x15), (2, .int x5), (1, .int x16), (0, .ref h0)]) hx hb dX1_check_43 hl (by decide) rfl ?_; clear hl; clear ls; intro ls hl
          refine lv_iconst (v := 2) hx hb dX1_check_45 (by decide) ?_
          refine lv_iload_n hx hb dX1_check_46 rfl (lv_at hl 3 rfl) ?_
          refine lv_imul hx hb dX1_check_47 ?_
          refine lv_bipush (v := 29) hx hb dX1_check_48 (by decide) ?_
          refine lv_iload hx hb dX1_check_50 (lv_at hl 0 rfl) ?_
          refine lv_imul hx hb dX1_check_52 ?_
          refine lv_ixor hx hb dX1_check_53 ?_
          refine lv_sipush (v := 255) hx hb dX1_check_54 (by decide) ?_
          refine lv_iand hx hb dX1_check_57 ?_
          refine lv_topi (fun x20 e_x20 => ?_)
          replace hw := hw x20 e_x20
          clear e_x20
          refine lv_istore_n (lv' := [(1, .int x20), (4, .int x19), (3, .int x15), (2, .int x5), (0, .ref h0)]) hx hb dX1_check_58 rfl hl (by decide) rfl ?_; clear hl; clear ls; intro ls hl
          refine lv_iinc (v := x15 + (-1)) (lv' := [(3, .int (x15 + (-1))), (1, .int x20), (4, .int x19), (2, .int x5), (0, .ref h0)]) hx hb dX1_check_59 hl (k := 2) rfl rfl (by decide) rfl ?_; clear hl; clear ls; intro ls hl
          refine lv_goto (tgt := 24) hx hb dX1_check_62 (by decide) ?_
          exact ih14 (x15 + (-1)) x20 hw H locs ls hP hD hS (lv_sub hl [0, 3, 1, 4] rfl)
      · replace hw := hw.1 c11
        refine lv_goto (tgt := 65) hx hb dX1_check_18 (by decide) ?_
        exact j10 x6 hw H locs ls hP hD hS (lv_sub hl [2, 1, 0] rfl)
set_option maxHeartbeats 4000000 in
set_option maxRecDepth 100000 in
theorem c_X1_put (l : Launch) (dC : Nat → ClassId) (dI : Nat → Nat → Nat) (cy : Nat → ClassId) (h0 h_bytes : Nat) (sz : Nat) (v1 : Int32) (v2 : Int32) (c_size : Int32) (c_at : Int32) (c_bytes : Nat → Int32) (post : Int32 → (Nat → Int32) → Prop) (hw : wp_X1_put v1 v2 c_size c_at c_bytes post) : Met l yX1_put wsX1_put ({ frames := 0, cells := 0, slots := 0, locals := 0 }) (PX dC dI cy [.ref h0, .int v1, .int v2] sz (w_X1_put h0 h_bytes cy c_size c_at c_bytes)) (va_Qv (fun (u : Int32 × (Nat → Int32)) => post u.1 u.2) (QX dC dI cy (va_A (w_X1_put h0 h_bytes cy c_size c_at c_bytes) sz) (fun (u : Int32 × (Nat → Int32)) => w_X1_put h0 h_bytes cy c_size u.1 u.2)) (va_A (w_X1_put h0 h_bytes cy c_size c_at c_bytes) sz)) 0 0 (va_A (w_X1_put h0 h_bytes cy c_size c_at c_bytes) sz) := by
  refine Met.ofW (cc := cX1_put) (maxL := 4) (ret := none) (by decide) rfl ?_
  intro p e s m args below meth c s₁ B hml hv
  obtain ⟨rfl, hsz, hP, hK, hD0, hG⟩ := hv
  have hx := B.exec
  have hb := B.bytes
  have hr := B.returns
  have hts := atoms_spec (ws := wsX1_put) B.pre
  have hown : s.vm.findClass RX1 = some m.cls := findClass_of_methodNamed B.named
  have hlocks := B.notSynchronized
  subst hsz
  have hD := hD0.self (sz := s.heap.size)
  generalize hAe : va_A (w_X1_put h0 h_bytes cy c_size c_at c_bytes) s.heap.size = A at hD ⊢
  have hA : ∀ q : Nat, s.heap.size ≤ q → A q := fun q h => by rw [← hAe]; exact Or.inr h
  have hS : va_S A s.heap s.heap [] := va_S.rf
  have hl := lv_entry ([.ref h0, .int v1, .int v2]) (n := 4) (Nat.le_of_ble_eq_true rfl)
  rw [lg_entry_eq]
  generalize (lg_sl ([.ref h0, .int v1, .int v2]) ++ List.replicate (4 - (lg_sl ([.ref h0, .int v1, .int v2])).length) Slot.unset).toArray = ls at hl ⊢
  replace hl : lv_has ls 4 [(0, .ref h0), (1, .int v1), (2, .int v2)] := hl
  have inX1 : ∀ w ∈ u_ws RX1 TX1 3, w ∈ wsX1_put := fun w h => List.mem_cons_of_mem _ (inlX1 w h)
  clear hAe hD0 B
  unfold wp_X1_put at hw
  generalize hQe : MQ below _ _ s _ _ _ = Q0
  generalize ([.ref h0, .int v1, .int v2] : List Value).toArray = av at *
  obtain ⟨H, hH⟩ : ∃ H, H = s.heap := ⟨_, rfl⟩
  obtain ⟨locs, hlo⟩ : ∃ L : List Loc, L = [] := ⟨_, rfl⟩
  replace hP : va_P (dC, dI) vwCl (w_X1_put h0 h_bytes cy c_size c_at c_bytes) H := by rw [hH]; exact hP
  replace hS : va_S A s.heap H locs := by rw [hH, hlo]; exact hS
  suffices hgo : W p l e ({ frames := 0, cells := 0, slots := 0, locals := 0 }) s m av below meth c H locs 0 0 Q0 (F0 m 0 ls []) by rw [hH, hlo] at hgo; exact hgo
  clear hH hlo
  refine lv_iload_n hx hb dX1_put_0 rfl (lv_at hl 2 rfl) ?_
  refine lv_iconst (v := 1) hx hb dX1_put_1 (by decide) ?_
  refine lv_isub hx hb dX1_put_2 ?_
  refine lv_topi (fun x1 e_x1 => ?_)
  replace hw := hw x1 e_x1
  clear e_x1
  refine lv_istore_n (lv' := [(3, .int x1), (0, .ref h0), (1, .int v1), (2, .int v2)]) hx hb dX1_put_3 rfl hl (by decide) rfl ?_; clear hl; clear ls; intro ls hl
  replace hl := lv_sub (l' := [(3, .int x1), (0, .ref h0), (1, .int v1)]) hl [0, 1, 2] rfl
  revert hl; revert hS; revert hD; revert hP; revert ls; revert locs; revert H
  revert hw; revert c_bytes; revert c_at; revert x1
  refine Lz3_gr ?_; intro g2 ih3 x4 x5 f6 hw
  intro H locs ls hP hD hS hl
  refine lv_iload_n hx hb dX1_put_4 rfl (lv_at hl 0 rfl) ?_
  refine lv_if_lt (tgt := 69) hx hb dX1_put_5 (by decide) (fun c7 => ?_) (fun c7 => ?_)
  · replace hw := hw.1 c7
    clear ih3
    subst hQe
    exact W.vret hx hb hr (fun t ht hW => ⟨⟨(x5, f6), rfl, hw, by rw [ht]; exact hP, va_K.moved hW.alike hK, hD⟩, hS.F ht⟩) hS.2.2 dX1_put_69
  · replace hw := hw.2 c7
    refine lv_aload_n hx hb dX1_put_8 rfl (lv_at hl 1 rfl) ?_
    refine va_get (D := (dC, dI)) (ci := 1) (v := .int x5) (C := RX1) (T := TX1) (N := 3) hx hb hts inX1 hown hK hP 0 rfl rfl 2 (by decide) (hts _ (List.mem_cons_of_mem _ mw_97)) (fun _ h9 => h9) rfl dX1_put_9 ?_
    refine lv_bipush (v := 8) hx hb dX1_put_12 (by decide) ?_
    refine lv_aload_n hx hb dX1_put_14 rfl (lv_at hl 1 rfl) ?_
    refine va_get (D := (dC, dI)) (ci := 1) (v := .int c_size) (C := RX1) (T := TX1) (N := 3) hx hb hts inX1 hown hK hP 0 rfl rfl 1 (by decide) (hts _ (List.mem_cons_of_mem _ mw_96)) (fun _ h9 => h9) rfl dX1_put_15 ?_
    refine lv_imul hx hb dX1_put_18 ?_
    refine jn1 (Gg := fun (f8 : (Nat → Int32)) => ∀ (H : Heap) (locs : List Loc) (ls : Array Slot), va_P (dC, dI) vwCl (w_X1_put h0 h_bytes cy c_size x5 f8) H → va_D A (w_X1_put h0 h_bytes cy c_size x5 f8) → va_S A s.heap H locs → lv_has ls 4 [(0, .ref h0), (1, .int v1), (3, .int x4)] → W p l e { frames := 0, cells := 0, slots := 0, locals := 0 } s m av below meth c H locs 0 0 Q0 (F0 m 53 ls [])) hw ?_ ?_ <;> clear hw
    · clear hP hD hS hl; clear H locs ls; intro f8 hw H locs ls hP hD hS hl
      refine lv_aload_n hx hb dX1_put_53 rfl (lv_at hl 0 rfl) ?_
      refine lv_dup hx hb dX1_put_54 rfl ?_
      refine va_get (D := (dC, dI)) (ci := 1) (v := .int x5) (C := RX1) (T := TX1) (N := 3) hx hb hts inX1 hown hK hP 0 rfl rfl 2 (by decide) (hts _ (List.mem_cons_of_mem _ mw_97)) (fun _ h9 => h9) rfl dX1_put_55 ?_
      refine lv_iconst (v := 1) hx hb dX1_put_58 (by decide) ?_
      refine lv_iadd hx hb dX1_put_59 ?_
      refine lv_topi (fun x11 e_x11 => ?_)
      replace hw := hw x11 e_x11
      clear e_x11
      refine va_put (D := (dC, dI)) (ci := 1) (v := .int x11) (ty := .int) (C := RX1) (T := TX1) (N := 3) hx hb hts inX1 tyX1 tyX1_ok nmX1 hown hK hP hD hS 0 rfl rfl 2 (by decide) (hts _ (List.mem_cons_of_mem _ mw_97)) (fun _ h9 => h9) rfl (by decide +kernel) rfl rfl (Nat.le_of_ble_eq_true rfl) dX1_put_60 ?_; clear hP hD hS; clear H locs; intro H locs hP hD hS
      replace hP : va_P (dC, dI) vwCl (w_X1_put h0 h_bytes cy c_size x11 f8) H := hP
      replace hD : va_D A (w_X1_put h0 h_bytes cy c_size x11 f8) := hD
      refine lv_iinc (v := x4 + (-1)) (lv' := [(3, .int (x4 + (-1))), (0, .ref h0), (1, .int v1)]) hx hb dX1_put_63 hl (k := 2) rfl rfl (by decide) rfl ?_; clear hl; clear ls; intro ls hl
      refine lv_goto (tgt := 4) hx hb dX1_put_66 (by decide) ?_
      exact ih3 (x4 + (-1)) x11 f8 hw H locs ls hP hD hS (lv_sub hl [0, 1, 2] rfl)
    · intro j10 hw
      refine lv_icmp_ge (tgt := 53) hx hb dX1_put_19 (by decide) (fun c12 => ?_) (fun c12 => ?_)
      · replace hw := hw.1 c12
        exact j10 f6 hw H locs ls hP hD hS (lv_sub hl [1, 2, 0] rfl)
      · replace hw := hw.2 c12
        refine lv_aload_n hx hb dX1_put_22 rfl (lv_at hl 1 rfl) ?_
        refine va_get (D := (dC, dI)) (ci := 1) (v := .ref h_bytes) (C := RX1) (T := TX1) (N := 3) hx hb hts inX1 hown hK hP 0 rfl rfl 0 (by decide) (hts _ (List.mem_cons_of_mem _ mw_95)) (fun _ h9 => h9) rfl dX1_put_23 ?_
        refine lv_aload_n hx hb dX1_put_26 rfl (lv_at hl 1 rfl) ?_
        refine va_get (D := (dC, dI)) (ci := 1) (v := .int x5) (C := RX1) (T := TX1) (N := 3) hx hb hts inX1 hown hK hP 0 rfl rfl 2 (by decide) (hts _ (List.mem_cons_of_mem _ mw_97)) (fun _ h9 => h9) rfl dX1_put_27 ?_
        refine lv_bipush (v := 8) hx hb dX1_put_30 (by decide) ?_
        refine lv_idiv hx hb dX1_put_32 (by decide) ?_
        refine lv_topi (fun x13 e_x13 => ?_)
        replace hw := hw x13 e_x13
        clear e_x13
        refine lv_dup2_11 hx hb dX1_put_33 rfl rfl ?_
        obtain ⟨h14, hw⟩ := hw
        refine xiald (k := x13.toNatClampNeg) hx hb hK hP 1 0 rfl rfl h14 rfl dX1_put_34 ?_
        refine lv_iload_n hx hb dX1_put_35 rfl (lv_at hl 2 rfl) ?_
        refine lv_iload_n hx hb dX1_put_36 rfl (lv_at hl 0 rfl) ?_
        refine lv_ishr hx hb dX1_put_37 ?_
        refine lv_iconst (v := 1) hx hb dX1_put_38 (by decide) ?_
        refine lv_iand hx hb dX1_put_39 ?_
        refine lv_bipush (v := 7) hx hb dX1_put_40 (by decide) ?_
        refine lv_aload_n hx hb dX1_put_42 rfl (lv_at hl 1 rfl) ?_
        refine va_get (D := (dC, dI)) (ci := 1) (v := .int x5) (C := RX1) (T := TX1) (N := 3) hx hb hts inX1 hown hK hP 0 rfl rfl 2 (by decide) (hts _ (List.mem_cons_of_mem _ mw_97)) (fun _ h9 => h9) rfl dX1_put_43 ?_
        refine lv_bipush (v := 8) hx hb dX1_put_46 (by decide) ?_
        refine lv_irem hx hb dX1_put_48 (by decide) ?_
        refine lv_topi (fun x15 e_x15 => ?_)
        replace hw := hw x15 e_x15
        clear e_x15
        refine lv_isub hx hb dX1_put_49 ?_
        refine lv_ishl hx hb dX1_put_50 ?_
        refine lv_ior hx hb dX1_put_51 ?_
        obtain ⟨h16, hw⟩ := hw
        refine xiast (k := x13.toNatClampNeg) hx hb hK hP hD hS 1 0 rfl rfl h16 rfl dX1_put_52 ?_; clear hP hD hS; clear H locs; intro f17 e_f17 H locs hP hD hS
        replace hw := hw f17 e_f17
        clear e_f17
        replace hP : va_P (dC, dI) vwCl (w_X1_put h0 h_bytes cy c_size x5 f17) H := hP
        replace hD : va_D A (w_X1_put h0 h_bytes cy c_size x5 f17) := hD
        exact j10 f17 hw H locs ls hP hD hS (lv_sub hl [1, 2, 0] rfl)
set_option maxHeartbeats 4000000 in
set_option maxRecDepth 100000 in
theorem c_X4_bitsOf (l : Launch) (dC : Nat → ClassId) (dI : Nat → Nat → Nat) (cy : Nat → ClassId) (h0 h_split h_told h_quants h_backs h_rejoined h_scales h_needs h_bits : Nat) (sz : Nat) (v1 : Int32) (c_twins : Int32) (c_method : Int32) (c_pool : Int32) (c_bits : Nat → Int32) (post : Int32 → Prop) (hw : wp_X4_bitsOf v1 c_bits post) : Met l yX4_bitsOf wsX4_bitsOf ({ frames := 0, cells := 0, slots := 0, locals := 0 }) (PX dC dI cy [.ref h0, .int v1] sz (w_X4_bitsOf h0 h_split h_told h_quants h_backs h_rejoined h_scales h_needs h_bits cy c_twins c_method c_pool c_bits)) (va_Qi (fun (r : Int32) (u : Unit) => post r) (QX dC dI cy (va_A (w_X4_bitsOf h0 h_split h_told h_quants h_backs h_rejoined h_scales h_needs h_bits cy c_twins c_method c_pool c_bits) sz) (fun (u : Unit) => w_X4_bitsOf h0 h_split h_told h_quants h_backs h_rejoined h_scales h_needs h_bits cy c_twins c_method c_pool c_bits)) (va_A (w_X4_bitsOf h0 h_split h_told h_quants h_backs h_rejoined h_scales h_needs h_bits cy c_twins c_method c_pool c_bits) sz)) 0 0 (va_A (w_X4_bitsOf h0 h_split h_told h_quants h_backs h_rejoined h_scales h_needs h_bits cy c_twins c_method c_pool c_bits) sz) := by
  refine Met.ofW (cc := cX4_bitsOf) (maxL := 4) (ret := (some .int)) (by decide) rfl ?_
  intro p e s m args below meth c s₁ B hml hv
  obtain ⟨rfl, hsz, hP, hK, hD0, hG⟩ := hv
  have hx := B.exec
  have hb := B.bytes
  have hr := B.returns
  have hts := atoms_spec (ws := wsX4_bitsOf) B.pre
  have hown : s.vm.findClass RX4 = some m.cls := findClass_of_methodNamed B.named
  have hlocks := B.notSynchronized
  subst hsz
  have hD := hD0.self (sz := s.heap.size)
  generalize hAe : va_A (w_X4_bitsOf h0 h_split h_told h_quants h_backs h_rejoined h_scales h_needs h_bits cy c_twins c_method c_pool c_bits) s.heap.size = A at hD ⊢
  have hA : ∀ q : Nat, s.heap.size ≤ q → A q := fun q h => by rw [← hAe]; exact Or.inr h
  have hS : va_S A s.heap s.heap [] := va_S.rf
  have hl := lv_entry ([.ref h0, .int v1]) (n := 4) (Nat.le_of_ble_eq_true rfl)
  rw [lg_entry_eq]
  generalize (lg_sl ([.ref h0, .int v1]) ++ List.replicate (4 - (lg_sl ([.ref h0, .int v1])).length) Slot.unset).toArray = ls at hl ⊢
  replace hl : lv_has ls 4 [(0, .ref h0), (1, .int v1)] := hl
  have inX4 : ∀ w ∈ u_ws RX4 TX4 11, w ∈ wsX4_bitsOf := fun w h => List.mem_cons_of_mem _ (inlX4 w h)
  clear hAe hD0 B
  unfold wp_X4_bitsOf at hw
  generalize hQe : MQ below _ _ s _ _ _ = Q0
  generalize ([.ref h0, .int v1] : List Value).toArray = av at *
  obtain ⟨H, hH⟩ : ∃ H, H = s.heap := ⟨_, rfl⟩
  obtain ⟨locs, hlo⟩ : ∃ L : List Loc, L = [] := ⟨_, rfl⟩
  replace hP : va_P (dC, dI) vwCl (w_X4_bitsOf h0 h_split h_told h_quants h_backs h_rejoined h_scales h_needs h_bits cy c_twins c_method c_pool c_bits) H := by rw [hH]; exact hP
  replace hS : va_S A s.heap H locs := by rw [hH, hlo]; exact hS
  suffices hgo : W p l e ({ frames := 0, cells := 0, slots := 0, locals := 0 }) s m av below meth c H locs 0 0 Q0 (F0 m 0 ls []) by rw [hH, hlo] at hgo; exact hgo
  clear hH hlo
  refine lv_iconst (v := 0) hx hb dX4_bitsOf_0 (by decide) ?_
  refine lv_istore_n (lv' := [(2, .int (0 : Int32)), (0, .ref h0), (1, .int v1)]) hx hb dX4_bitsOf_1 rfl hl (by decide) rfl ?_; clear hl; clear ls; intro ls hl
  refine lv_iconst (v := 0) hx hb dX4_bitsOf_2 (by decide) ?_
  refine lv_istore_n (lv' := [(3, .int (0 : Int32)), (2, .int (0 : Int32)), (0, .ref h0), (1, .int v1)]) hx hb dX4_bitsOf_3 rfl hl (by decide) rfl ?_; clear hl; clear ls; intro ls hl
  obtain ⟨x1, e_x1⟩ : ∃ y : Int32, y = (0 : Int32) := ⟨_, rfl⟩
  replace hw := hw x1 e_x1
  replace hl : lv_has ls 4 [(3, .int x1), (2, .int (0 : Int32)), (0, .ref h0), (1, .int v1)] := by rw [e_x1]; exact hl
  clear e_x1
  obtain ⟨x2, e_x2⟩ : ∃ y : Int32, y = (0 : Int32) := ⟨_, rfl⟩
  replace hw := hw x2 e_x2
  replace hl : lv_has ls 4 [(3, .int x1), (2, .int x2), (0, .ref h0), (1, .int v1)] := by rw [e_x2]; exact hl
  clear e_x2
  replace hl := lv_sub (l' := [(3, .int x1), (2, .int x2), (0, .ref h0), (1, .int v1)]) hl [0, 1, 2, 3] rfl
  revert hl; revert hS; revert hD; revert hP; revert ls; revert locs; revert H
  revert hw; revert x2; revert x1
  refine Lz2_gr ?_; intro g3 ih4 x5 x6 hw
  intro H locs ls hP hD hS hl
  refine lv_iload_n hx hb dX4_bitsOf_4 rfl (lv_at hl 0 rfl) ?_
  refine lv_bipush (v := 8) hx hb dX4_bitsOf_5 (by decide) ?_
  refine lv_icmp_ge (tgt := 30) hx hb dX4_bitsOf_7 (by decide) (fun c7 => ?_) (fun c7 => ?_)
  · replace hw := hw.1 c7
    clear ih4
    refine lv_iload_n hx hb dX4_bitsOf_30 rfl (lv_at hl 1 rfl) ?_
    subst hQe
    exact W.iret (v := x6) hx hb hr (fun t ht hW => ⟨⟨x6, (), rfl, hw, by rw [ht]; exact hP, va_K.moved hW.alike hK, hD⟩, hS.F ht⟩) hS.2.2 dX4_bitsOf_31
  · replace hw := hw.2 c7
    refine lv_iload_n hx hb dX4_bitsOf_10 rfl (lv_at hl 1 rfl) ?_
    refine lv_aload_n hx hb dX4_bitsOf_11 rfl (lv_at hl 2 rfl) ?_
    refine va_get (D := (dC, dI)) (ci := 4) (v := .ref h_bits) (C := RX4) (T := TX4) (N := 11) hx hb hts inX4 hown hK hP 0 rfl rfl 7 (by decide) (hts _ (List.mem_cons_of_mem _ mw_127)) (fun _ h9 => h9) rfl dX4_bitsOf_12 ?_
    refine lv_iload_n hx hb dX4_bitsOf_15 rfl (lv_at hl 3 rfl) ?_
    refine lv_bipush (v := 8) hx hb dX4_bitsOf_16 (by decide) ?_
    refine lv_imul hx hb dX4_bitsOf_18 ?_
    refine lv_iload_n hx hb dX4_bitsOf_19 rfl (lv_at hl 0 rfl) ?_
    refine lv_iadd hx hb dX4_bitsOf_20 ?_
    obtain ⟨h8, hw⟩ := hw
    refine xiald (k := ((v1 * (8 : Int32)) + x5).toNatClampNeg) hx hb hK hP 1 0 rfl rfl h8 rfl dX4_bitsOf_21 ?_
    refine lv_iadd hx hb dX4_bitsOf_22 ?_
    refine lv_topi (fun x9 e_x9 => ?_)
    replace hw := hw x9 e_x9
    clear e_x9
    refine lv_istore_n (lv' := [(2, .int x9), (3, .int x5), (0, .ref h0), (1, .int v1)]) hx hb dX4_bitsOf_23 rfl hl (by decide) rfl ?_; clear hl; clear ls; intro ls hl
    refine lv_iinc (v := x5 + 1) (lv' := [(3, .int (x5 + 1)), (2, .int x9), (0, .ref h0), (1, .int v1)]) hx hb dX4_bitsOf_24 hl (k := 1) rfl rfl (by decide) rfl ?_; clear hl; clear ls; intro ls hl
    refine lv_goto (tgt := 4) hx hb dX4_bitsOf_27 (by decide) ?_
    exact ih4 (x5 + 1) x9 hw H locs ls hP hD hS (lv_sub hl [0, 1, 2, 3] rfl)
set_option maxHeartbeats 4000000 in
set_option maxRecDepth 100000 in
theorem c_X1_write (l : Launch) (dC : Nat → ClassId) (dI : Nat → Nat → Nat) (cy : Nat → ClassId) (h0 h_bytes k1 k1_split k1_told k1_quants k1_backs k1_rejoined k1_scales k1_needs k1_bits : Nat) (sz : Nat) (v2 : Int32) (v3 : Int32) (c_size : Int32) (c_at : Int32) (c_bytes : Nat → Int32) (p1_twins : Int32) (p1_method : Int32) (p1_pool : Int32) (p1_bits : Nat → Int32) (p1_scales : Nat → Int32) (p1_quants : Nat → Int32) (post : Int32 → Int32 → (Nat → Int32) → Prop) (hw : wp_X1_write v2 v3 c_size c_at c_bytes p1_twins p1_method p1_pool p1_bits p1_scales p1_quants post) : Met l yX1_write wsX1_write ({ frames := 1, cells := 0, slots := 0, locals := 30 }) (PX dC dI cy [.ref h0, .ref k1, .int v2, .int v3] sz (w_X1_write h0 h_bytes k1 k1_split k1_told k1_quants k1_backs k1_rejoined k1_scales k1_needs k1_bits cy c_size c_at c_bytes p1_twins p1_method p1_pool p1_bits p1_scales p1_quants)) (va_Qv (fun (u : Int32 × Int32 × (Nat → Int32)) => post u.1 u.2.1 u.2.2) (QX dC dI cy (va_A (w_X1_write h0 h_bytes k1 k1_split k1_told k1_quants k1_backs k1_rejoined k1_scales k1_needs k1_bits cy c_size c_at c_bytes p1_twins p1_method p1_pool p1_bits p1_scales p1_quants) sz) (fun (u : Int32 × Int32 × (Nat → Int32)) => w_X1_write h0 h_bytes k1 k1_split k1_told k1_quants k1_backs k1_rejoined k1_scales k1_needs k1_bits cy u.1 u.2.1 u.2.2 p1_twins p1_method p1_pool p1_bits p1_scales p1_quants)) (va_A (w_X1_write h0 h_bytes k1 k1_split k1_told k1_quants k1_backs k1_rejoined k1_scales k1_needs k1_bits cy c_size c_at c_bytes p1_twins p1_method p1_pool p1_bits p1_scales p1_quants) sz)) 0 0 (va_A (w_X1_write h0 h_bytes k1 k1_split k1_told k1_quants k1_backs k1_rejoined k1_scales k1_needs k1_bits cy c_size c_at c_bytes p1_twins p1_method p1_pool p1_bits p1_scales p1_quants) sz) := by
  refine Met.ofW (cc := cX1_write) (maxL := 5) (ret := none) (by decide) rfl ?_
  intro p e s m args below meth c s₁ B hml hv
  obtain ⟨rfl, hsz, hP, hK, hD0, hG⟩ := hv
  have hx := B.exec
  have hb := B.bytes
  have hr := B.returns
  have hts := atoms_spec (ws := wsX1_write) B.pre
  have hown : s.vm.findClass RX1 = some m.cls := findClass_of_methodNamed B.named
  have hlocks := B.notSynchronized
  subst hsz
  have hD := hD0.self (sz := s.heap.size)
  generalize hAe : va_A (w_X1_write h0 h_bytes k1 k1_split k1_told k1_quants k1_backs k1_rejoined k1_scales k1_needs k1_bits cy c_size c_at c_bytes p1_twins p1_method p1_pool p1_bits p1_scales p1_quants) s.heap.size = A at hD ⊢
  have hA : ∀ q : Nat, s.heap.size ≤ q → A q := fun q h => by rw [← hAe]; exact Or.inr h
  have hS : va_S A s.heap s.heap [] := va_S.rf
  have hl := lv_entry ([.ref h0, .ref k1, .int v2, .int v3]) (n := 5) (Nat.le_of_ble_eq_true rfl)
  rw [lg_entry_eq]
  generalize (lg_sl ([.ref h0, .ref k1, .int v2, .int v3]) ++ List.replicate (5 - (lg_sl ([.ref h0, .ref k1, .int v2, .int v3])).length) Slot.unset).toArray = ls at hl ⊢
  replace hl : lv_has ls 5 [(0, .ref h0), (1, .ref k1), (2, .int v2), (3, .int v3)] := hl
  have inX1 : ∀ w ∈ u_ws RX1 TX1 3, w ∈ wsX1_write := fun w h => List.mem_cons_of_mem _ (inlX1 w h)
  have inX4 : ∀ w ∈ u_ws RX4 TX4 11, w ∈ wsX1_write := fun w h => List.mem_cons_of_mem _ (inlX4 w h)
  clear hAe hD0 B
  unfold wp_X1_write at hw
  generalize hQe : MQ below _ _ s _ _ _ = Q0
  generalize ([.ref h0, .ref k1, .int v2, .int v3] : List Value).toArray = av at *
  obtain ⟨H, hH⟩ : ∃ H, H = s.heap := ⟨_, rfl⟩
  obtain ⟨locs, hlo⟩ : ∃ L : List Loc, L = [] := ⟨_, rfl⟩
  replace hP : va_P (dC, dI) vwCl (w_X1_write h0 h_bytes k1 k1_split k1_told k1_quants k1_backs k1_rejoined k1_scales k1_needs k1_bits cy c_size c_at c_bytes p1_twins p1_method p1_pool p1_bits p1_scales p1_quants) H := by rw [hH]; exact hP
  replace hS : va_S A s.heap H locs := by rw [hH, hlo]; exact hS
  suffices hgo : W p l e ({ frames := 1, cells := 0, slots := 0, locals := 30 }) s m av below meth c H locs 0 0 Q0 (F0 m 0 ls []) by rw [hH, hlo] at hgo; exact hgo
  clear hH hlo
  refine lv_aload_n hx hb dX1_write_0 rfl (lv_at hl 0 rfl) ?_
  refine va_get (D := (dC, dI)) (ci := 1) (v := .ref h_bytes) (C := RX1) (T := TX1) (N := 3) hx hb hts inX1 hown hK hP 0 rfl rfl 0 (by decide) (hts _ (List.mem_cons_of_mem _ mw_95)) (fun _ h9 => h9) rfl dX1_write_1 ?_
  refine lv_iconst (v := 0) hx hb dX1_write_4 (by decide) ?_
  have hPc := pSub (ws' := (w_J7_fill_53178 h_bytes cy 80 c_bytes)) hP [1] rfl
  have hDc := dSub (ws' := (w_J7_fill_53178 h_bytes cy 80 c_bytes)) hD [1] (by decide) rfl
  have hFc := va_free (wc := (w_J7_fill_53178 h_bytes cy 80 c_bytes)) hD hS hA [1] rfl
  refine va_callv (va_runS (As := [.ref h_bytes, .int (0 : Int32)]) (rest := []) ⟨hx, hb, hml, hown, hts⟩ (c_J7_fill_53178 l dC dI cy h_bytes 80 H.size (0 : Int32) c_bytes _ hw) (va_cwS 2 hts (goodS mw_356 mw_353 mw_354 mw_355) rfl rfl rfl (by decide +kernel) ⟨Nat.le_of_ble_eq_true rfl, Nat.le_of_ble_eq_true rfl⟩) ⟨PX_blind, PX_pre hPc hK hDc hG⟩ rfl rfl hl.1 rfl (lv_room (Nat.le_of_ble_eq_true rfl)) dX1_write_5 ⟨Nat.zero_le _, Nat.zero_le _⟩) hS (fun q _ h => hFc q h) hFc ?_; clear hw hS; intro f1 t H1 locs1 ht hvm hw hB hz1 hk1 hS
  obtain ⟨hP1, -, -⟩ := hB
  rw [ht] at hP1
  replace hP := jC0 hP hD [1] [0, 2, 3, 4, 5] rfl hk1 hP1 (w_X1_write h0 h_bytes k1 k1_split k1_told k1_quants k1_backs k1_rejoined k1_scales k1_needs k1_bits cy c_size c_at f1 p1_twins p1_method p1_pool p1_bits p1_scales p1_quants) rfl rfl rfl 6 rfl (by decide +kernel); clear hD; obtain ⟨hP, hD⟩ := hP
  replace hP : va_P (dC, dI) vwCl (w_X1_write h0 h_bytes k1 k1_split k1_told k1_quants k1_backs k1_rejoined k1_scales k1_needs k1_bits cy c_size c_at f1 p1_twins p1_method p1_pool p1_bits p1_scales p1_quants) H1 := hP
  replace hD : va_D A (w_X1_write h0 h_bytes k1 k1_split k1_told k1_quants k1_backs k1_rejoined k1_scales k1_needs k1_bits cy c_size c_at f1 p1_twins p1_method p1_pool p1_bits p1_scales p1_quants) := hD
  clear hPc hDc hFc hP1 hk1 hz1 hvm ht; clear t; clear H locs; obtain ⟨H, hH⟩ : ∃ H, H = H1 := ⟨_, rfl⟩; obtain ⟨locs, hlo⟩ : ∃ L, L = locs1 := ⟨_, rfl⟩; subst hH; subst hlo
  refine W.widen (k := 0) (n := 0) (Nat.le_refl 0) (Nat.le_refl 0) ?_
  refine lv_aload_n hx hb dX1_write_8 rfl (lv_at hl 0 rfl) ?_
  refine lv_bipush (v := 80) hx hb dX1_write_9 (by decide) ?_
  refine lv_aload_n hx hb dX1_write_11 rfl (lv_at hl 1 rfl) ?_
  refine lv_iconst (v := 0) hx hb dX1_write_12 (by decide) ?_
  have hPc := pSub (ws' := (w_X4_bitsOf k1 k1_split k1_told k1_quants k1_backs k1_rejoined k1_scales k1_needs k1_bits cy p1_twins p1_method p1_pool p1_bits)) hP [2, 3] rfl
  have hDc := dSub (ws' := (w_X4_bitsOf k1 k1_split k1_told k1_quants k1_backs k1_rejoined k1_scales k1_needs k1_bits cy p1_twins p1_method p1_pool p1_bits)) hD [2, 3] (by decide) rfl
  have hFc := va_free (wc := (w_X4_bitsOf k1 k1_split k1_told k1_quants k1_backs k1_rejoined k1_scales k1_needs k1_bits cy p1_twins p1_method p1_pool p1_bits)) hD hS hA [2, 3] rfl
  refine va_calli (va_runV (As := [.int (0 : Int32)]) (rest := [.int (80 : Int32), .ref h0]) ⟨hx, hb, hml, hown, hts⟩ (c_X4_bitsOf l dC dI cy k1 k1_split k1_told k1_quants k1_backs k1_rejoined k1_scales k1_needs k1_bits H.size (0 : Int32) p1_twins p1_method p1_pool p1_bits _ hw) (cwV 1 hts (goodV mw_360 mw_357 mw_358 mw_359 mw_20) rfl rfl rfl (by decide +kernel) ⟨Nat.le_of_ble_eq_true rfl, Nat.le_of_ble_eq_true rfl⟩) ⟨PX_blind, va_recv hK hPc (ci := 4) (q0 := 0) rfl rfl, PX_pre hPc hK hDc hG⟩ rfl rfl hl.1 rfl (lv_room (Nat.le_of_ble_eq_true rfl)) dX1_write_13 ⟨Nat.zero_le _, Nat.zero_le _⟩) hS (fun q _ h => hFc q h) hFc ?_; clear hw hS; intro r2 _ t H1 locs1 ht hvm hw hB hz1 hk1 hS
  obtain ⟨hP1, -, -⟩ := hB
  rw [ht] at hP1
  replace hP := jC0 hP hD [2, 3] [0, 1, 4, 5] rfl hk1 hP1 (w_X1_write h0 h_bytes k1 k1_split k1_told k1_quants k1_backs k1_rejoined k1_scales k1_needs k1_bits cy c_size c_at f1 p1_twins p1_method p1_pool p1_bits p1_scales p1_quants) rfl rfl rfl 6 rfl (by decide +kernel); clear hD; obtain ⟨hP, hD⟩ := hP
  replace hP : va_P (dC, dI) vwCl (w_X1_write h0 h_bytes k1 k1_split k1_told k1_quants k1_backs k1_rejoined k1_scales k1_needs k1_bits cy c_size c_at f1 p1_twins p1_method p1_pool p1_bits p1_scales p1_quants) H1 := hP
  replace hD : va_D A (w_X1_write h0 h_bytes k1 k1_split k1_told k1_quants k1_backs k1_rejoined k1_scales k1_needs k1_bits cy c_size c_at f1 p1_twins p1_method p1_pool p1_bits p1_scales p1_quants) := hD
  clear hPc hDc hFc hP1 hk1 hz1 hvm ht; clear t; clear H locs; obtain ⟨H, hH⟩ : ∃ H, H = H1 := ⟨_, rfl⟩; obtain ⟨locs, hlo⟩ : ∃ L, L = locs1 := ⟨_, rfl⟩; subst hH; subst hlo
  refine W.widen (k := 0) (n := 0) (Nat.le_refl 0) (Nat.le_refl 0) ?_
  refine lv_aload_n hx hb dX1_write_16 rfl (lv_at hl 1 rfl) ?_
  refine lv_iconst (v := 1) hx hb dX1_write_17 (by decide) ?_
  have hPc := pSub (ws' := (w_X4_bitsOf k1 k1_split k1_told k1_quants k1_backs k1_rejoined k1_scales k1_needs k1_bits cy p1_twins p1_method p1_pool p1_bits)) hP [2, 3] rfl
  have hDc := dSub (ws' := (w_X4_bitsOf k1 k1_split k1_told k1_quants k1_backs k1_rejoined k1_scales k1_needs k1_bits cy p1_twins p1_method p1_pool p1_bits)) hD [2, 3] (by decide) rfl
  have hFc := va_free (wc := (w_X4_bitsOf k1 k1_split k1_told k1_quants k1_backs k1_rejoined k1_scales k1_needs k1_bits cy p1_twins p1_method p1_pool p1_bits)) hD hS hA [2, 3] rfl
  refine va_calli (va_runV (As := [.int (1 : Int32)]) (rest := [.int r2, .int (80 : Int32), .ref h0]) ⟨hx, hb, hml, hown, hts⟩ (c_X4_bitsOf l dC dI cy k1 k1_split k1_told k1_quants k1_backs k1_rejoined k1_scales k1_needs k1_bits H.size (1 : Int32) p1_twins p1_method p1_pool p1_bits _ hw) (cwV 1 hts (goodV mw_360 mw_357 mw_358 mw_359 mw_20) rfl rfl rfl (by decide +kernel) ⟨Nat.le_of_ble_eq_true rfl, Nat.le_of_ble_eq_true rfl⟩) ⟨PX_blind, va_recv hK hPc (ci := 4) (q0 := 0) rfl rfl, PX_pre hPc hK hDc hG⟩ rfl rfl hl.1 rfl (lv_room (Nat.le_of_ble_eq_true rfl)) dX1_write_18 ⟨Nat.zero_le _, Nat.zero_le _⟩) hS (fun q _ h => hFc q h) hFc ?_; clear hw hS; intro r3 _ t H1 locs1 ht hvm hw hB hz1 hk1 hS
  obtain ⟨hP1, -, -⟩ := hB
  rw [ht] at hP1
  replace hP := jC0 hP hD [2, 3] [0, 1, 4, 5] rfl hk1 hP1 (w_X1_write h0 h_bytes k1 k1_split k1_told k1_quants k1_backs k1_rejoined k1_scales k1_needs k1_bits cy c_size c_at f1 p1_twins p1_method p1_pool p1_bits p1_scales p1_quants) rfl rfl rfl 6 rfl (by decide +kernel); clear hD; obtain ⟨hP, hD⟩ := hP
  replace hP : va_P (dC, dI) vwCl (w_X1_write h0 h_bytes k1 k1_split k1_told k1_quants k1_backs k1_rejoined k1_scales k1_needs k1_bits cy c_size c_at f1 p1_twins p1_method p1_pool p1_bits p1_scales p1_quants) H1 := hP
  replace hD : va_D A (w_X1_write h0 h_bytes k1 k1_split k1_told k1_quants k1_backs k1_rejoined k1_scales k1_needs k1_bits cy c_size c_at f1 p1_twins p1_method p1_pool p1_bits p1_scales p1_quants) := hD
  clear hPc hDc hFc hP1 hk1 hz1 hvm ht; clear t; clear H locs; obtain ⟨H, hH⟩ : ∃ H, H = H1 := ⟨_, rfl⟩; obtain ⟨locs, hlo⟩ : ∃ L, L = locs1 := ⟨_, rfl⟩; subst hH; subst hlo
  refine W.widen (k := 0) (n := 0) (Nat.le_refl 0) (Nat.le_refl 0) ?_
  refine lv_iadd hx hb dX1_write_21 ?_
  have hPc := pSub (ws' := (w_X1_bytesFor cy)) hP [] rfl
  have hDc := dSub (ws' := (w_X1_bytesFor cy)) hD [] (by decide) rfl
  have hFc := va_free (wc := (w_X1_bytesFor cy)) hD hS hA [] rfl
  refine va_calli (va_runS (As := [.int (r2 + r3)]) (rest := [.int (80 : Int32), .ref h0]) ⟨hx, hb, hml, hown, hts⟩ (c_X1_bytesFor l dC dI cy  H.size (r2 + r3) _ hw) (va_cwS 1 hts (goodS mw_363 mw_361 mw_362 mw_24) rfl rfl rfl (by decide +kernel) ⟨Nat.le_of_ble_eq_true rfl, Nat.le_of_ble_eq_true rfl⟩) ⟨PX_blind, PX_pre hPc hK hDc hG⟩ rfl rfl hl.1 rfl (lv_room (Nat.le_of_ble_eq_true rfl)) dX1_write_22 ⟨Nat.zero_le _, Nat.zero_le _⟩) hS (fun q _ h => hFc q h) hFc ?_; clear hw hS; intro r4 _ t H1 locs1 ht hvm hw hB hz1 hk1 hS
  obtain ⟨hP1, -, -⟩ := hB
  rw [ht] at hP1
  replace hP := jC0 hP hD [] [0, 1, 2, 3, 4, 5] rfl hk1 hP1 (w_X1_write h0 h_bytes k1 k1_split k1_told k1_quants k1_backs k1_rejoined k1_scales k1_needs k1_bits cy c_size c_at f1 p1_twins p1_method p1_pool p1_bits p1_scales p1_quants) rfl rfl rfl 6 rfl (by decide +kernel); clear hD; obtain ⟨hP, hD⟩ := hP
  replace hP : va_P (dC, dI) vwCl (w_X1_write h0 h_bytes k1 k1_split k1_told k1_quants k1_backs k1_rejoined k1_scales k1_needs k1_bits cy c_size c_at f1 p1_twins p1_method p1_pool p1_bits p1_scales p1_quants) H1 := hP
  replace hD : va_D A (w_X1_write h0 h_bytes k1 k1_split k1_told k1_quants k1_backs k1_rejoined k1_scales k1_needs k1_bits cy c_size c_at f1 p1_twins p1_method p1_pool p1_bits p1_scales p1_quants) := hD
  clear hPc hDc hFc hP1 hk1 hz1 hvm ht; clear t; clear H locs; obtain ⟨H, hH⟩ : ∃ H, H = H1 := ⟨_, rfl⟩; obtain ⟨locs, hlo⟩ : ∃ L, L = locs1 := ⟨_, rfl⟩; subst hH; subst hlo
  refine W.widen (k := 0) (n := 0) (Nat.le_refl 0) (Nat.le_refl 0) ?_
  refine va_mmin hx hb (by rw [hml]; exact hl.1.symm) hown (hts _ (List.mem_cons_of_mem _ mw_344)) (hts _ (List.mem_cons_of_mem _ mw_345)) (hts _ (List.mem_cons_of_mem _ mw_76)) (hts _ (List.mem_cons_of_mem _ mw_346)) (Nat.le_of_ble_eq_true rfl) (Nat.le_of_ble_eq_true rfl) (Nat.zero_le _) (Nat.zero_le _) dX1_write_25 ?_
  refine lv_topi (fun x5 e_x5 => ?_)
  replace hw := hw x5 e_x5
  clear e_x5
  refine va_put (D := (dC, dI)) (ci := 1) (v := .int x5) (ty := .int) (C := RX1) (T := TX1) (N := 3) hx hb hts inX1 tyX1 tyX1_ok nmX1 hown hK hP hD hS 0 rfl rfl 1 (by decide) (hts _ (List.mem_cons_of_mem _ mw_96)) (fun _ h9 => h9) rfl (by decide +kernel) rfl rfl (Nat.le_of_ble_eq_true rfl) dX1_write_28 ?_; clear hP hD hS; clear H locs; intro H locs hP hD hS
  replace hP : va_P (dC, dI) vwCl (w_X1_write h0 h_bytes k1 k1_split k1_told k1_quants k1_backs k1_rejoined k1_scales k1_needs k1_bits cy x5 c_at f1 p1_twins p1_method p1_pool p1_bits p1_scales p1_quants) H := hP
  replace hD : va_D A (w_X1_write h0 h_bytes k1 k1_split k1_told k1_quants k1_backs k1_rejoined k1_scales k1_needs k1_bits cy x5 c_at f1 p1_twins p1_method p1_pool p1_bits p1_scales p1_quants) := hD
  refine lv_aload_n hx hb dX1_write_31 rfl (lv_at hl 0 rfl) ?_
  have hPc := pSub (ws' := (w_X1_rewind h0 h_bytes cy x5 c_at)) hP [0] rfl
  have hDc := dSub (ws' := (w_X1_rewind h0 h_bytes cy x5 c_at)) hD [0] (by decide) rfl
  have hFc := va_free (wc := (w_X1_rewind h0 h_bytes cy x5 c_at)) hD hS hA [0] rfl
  refine va_callv (va_runV (As := []) (rest := []) ⟨hx, hb, hml, hown, hts⟩ (c_X1_rewind l dC dI cy h0 h_bytes H.size x5 c_at _ hw) (cwV 0 hts (goodV mw_367 mw_364 mw_365 mw_366 mw_24) rfl rfl rfl (by decide +kernel) ⟨Nat.le_of_ble_eq_true rfl, Nat.le_of_ble_eq_true rfl⟩) ⟨PX_blind, va_recv hK hPc (ci := 1) (q0 := 0) rfl rfl, PX_pre hPc hK hDc hG⟩ rfl rfl hl.1 rfl (lv_room (Nat.le_of_ble_eq_true rfl)) dX1_write_32 ⟨Nat.zero_le _, Nat.zero_le _⟩) hS (fun q _ h => hFc q h) hFc ?_; clear hw hS; intro x6 t H1 locs1 ht hvm hw hB hz1 hk1 hS
  obtain ⟨hP1, -, -⟩ := hB
  rw [ht] at hP1
  replace hP := jC0 hP hD [0] [1, 2, 3, 4, 5] rfl hk1 hP1 (w_X1_write h0 h_bytes k1 k1_split k1_told k1_quants k1_backs k1_rejoined k1_scales k1_needs k1_bits cy x5 x6 f1 p1_twins p1_method p1_pool p1_bits p1_scales p1_quants) rfl rfl rfl 6 rfl (by decide +kernel); clear hD; obtain ⟨hP, hD⟩ := hP
  replace hP : va_P (dC, dI) vwCl (w_X1_write h0 h_bytes k1 k1_split k1_told k1_quants k1_backs k1_rejoined k1_scales k1_needs k1_bits cy x5 x6 f1 p1_twins p1_method p1_pool p1_bits p1_scales p1_quants) H1 := hP
  replace hD : va_D A (w_X1_write h0 h_bytes k1 k1_split k1_told k1_quants k1_backs k1_rejoined k1_scales k1_needs k1_bits cy x5 x6 f1 p1_twins p1_method p1_pool p1_bits p1_scales p1_quants) := hD
  clear hPc hDc hFc hP1 hk1 hz1 hvm ht; clear t; clear H locs; obtain ⟨H, hH⟩ : ∃ H, H = H1 := ⟨_, rfl⟩; obtain ⟨locs, hlo⟩ : ∃ L, L = locs1 := ⟨_, rfl⟩; subst hH; subst hlo
  refine W.widen (k := 0) (n := 0) (Nat.le_refl 0) (Nat.le_refl 0) ?_
  refine lv_aload_n hx hb dX1_write_35 rfl (lv_at hl 0 rfl) ?_
  refine lv_sipush (v := 156) hx hb dX1_write_36 (by decide) ?_
  refine lv_bipush (v := 8) hx hb dX1_write_39 (by decide) ?_
  have hPc := pSub (ws' := (w_X1_put h0 h_bytes cy x5 x6 f1)) hP [0, 1] rfl
  have hDc := dSub (ws' := (w_X1_put h0 h_bytes cy x5 x6 f1)) hD [0, 1] (by decide) rfl
  have hFc := va_free (wc := (w_X1_put h0 h_bytes cy x5 x6 f1)) hD hS hA [0, 1] rfl
  refine va_callv (va_runV (As := [.int (156 : Int32), .int (8 : Int32)]) (rest := []) ⟨hx, hb, hml, hown, hts⟩ (c_X1_put l dC dI cy h0 h_bytes H.size (156 : Int32) (8 : Int32) x5 x6 f1 _ hw) (cwV 2 hts (goodV mw_371 mw_368 mw_369 mw_370 mw_24) rfl rfl rfl (by decide +kernel) ⟨Nat.le_of_ble_eq_true rfl, Nat.le_of_ble_eq_true rfl⟩) ⟨PX_blind, va_recv hK hPc (ci := 1) (q0 := 0) rfl rfl, PX_pre hPc hK hDc hG⟩ rfl rfl hl.1 rfl (lv_room (Nat.le_of_ble_eq_true rfl)) dX1_write_41 ⟨Nat.zero_le _, Nat.zero_le _⟩) hS (fun q _ h => hFc q h) hFc ?_; clear hw hS; intro u t H1 locs1 ht hvm hw hB hz1 hk1 hS
  obtain ⟨x7, f8⟩ := u
  try dsimp only at hw
  obtain ⟨hP1, -, -⟩ := hB
  rw [ht] at hP1
  replace hP := jC0 hP hD [0, 1] [2, 3, 4, 5] rfl hk1 hP1 (w_X1_write h0 h_bytes k1 k1_split k1_told k1_quants k1_backs k1_rejoined k1_scales k1_needs k1_bits cy x5 x7 f8 p1_twins p1_method p1_pool p1_bits p1_scales p1_quants) rfl rfl rfl 6 rfl (by decide +kernel); clear hD; obtain ⟨hP, hD⟩ := hP
  replace hP : va_P (dC, dI) vwCl (w_X1_write h0 h_bytes k1 k1_split k1_told k1_quants k1_backs k1_rejoined k1_scales k1_needs k1_bits cy x5 x7 f8 p1_twins p1_method p1_pool p1_bits p1_scales p1_quants) H1 := hP
  replace hD : va_D A (w_X1_write h0 h_bytes k1 k1_split k1_told k1_quants k1_backs k1_rejoined k1_scales k1_needs k1_bits cy x5 x7 f8 p1_twins p1_method p1_pool p1_bits p1_scales p1_quants) := hD
  clear hPc hDc hFc hP1 hk1 hz1 hvm ht; clear t; clear H locs; obtain ⟨H, hH⟩ : ∃ H, H = H1 := ⟨_, rfl⟩; obtain ⟨locs, hlo⟩ : ∃ L, L = locs1 := ⟨_, rfl⟩; subst hH; subst hlo
  refine W.widen (k := 0) (n := 0) (Nat.le_refl 0) (Nat.le_refl 0) ?_
  refine lv_aload_n hx hb dX1_write_44 rfl (lv_at hl 0 rfl) ?_
  refine lv_aload_n hx hb dX1_write_45 rfl (lv_at hl 1 rfl) ?_
  refine va_get (D := (dC, dI)) (ci := 4) (v := .int p1_method) (C := RX4) (T := TX4) (N := 11) hx hb hts inX4 hown hK hP 2 rfl rfl 9 (by decide) (hts _ (List.mem_cons_of_mem _ mw_347)) (fun _ h9 => h9) rfl dX1_write_46 ?_
  refine lv_sipush (v := 128) hx hb dX1_write_49 (by decide) ?_
  refine lv_imul hx hb dX1_write_52 ?_
  refine lv_iload_n hx hb dX1_write_53 rfl (lv_at hl 3 rfl) ?_
  refine lv_bipush (v := 64) hx hb dX1_write_54 (by decide) ?_
  refine lv_imul hx hb dX1_write_56 ?_
  refine lv_iadd hx hb dX1_write_57 ?_
  refine lv_iload_n hx hb dX1_write_58 rfl (lv_at hl 2 rfl) ?_
  refine lv_bipush (v := 64) hx hb dX1_write_59 (by decide) ?_
  refine lv_irem hx hb dX1_write_61 (by decide) ?_
  refine lv_topi (fun x9 e_x9 => ?_)
  replace hw := hw x9 e_x9
  clear e_x9
  refine lv_iadd hx hb dX1_write_62 ?_
  refine lv_bipush (v := 8) hx hb dX1_write_63 (by decide) ?_
  have hPc := pSub (ws' := (w_X1_put h0 h_bytes cy x5 x7 f8)) hP [0, 1] rfl
  have hDc := dSub (ws' := (w_X1_put h0 h_bytes cy x5 x7 f8)) hD [0, 1] (by decide) rfl
  have hFc := va_free (wc := (w_X1_put h0 h_bytes cy x5 x7 f8)) hD hS hA [0, 1] rfl
  refine va_callv (va_runV (As := [.int (((p1_method * (128 : Int32)) + (v3 * (64 : Int32))) + x9), .int (8 : Int32)]) (rest := []) ⟨hx, hb, hml, hown, hts⟩ (c_X1_put l dC dI cy h0 h_bytes H.size (((p1_method * (128 : Int32)) + (v3 * (64 : Int32))) + x9) (8 : Int32) x5 x7 f8 _ hw) (cwV 2 hts (goodV mw_371 mw_368 mw_369 mw_370 mw_24) rfl rfl rfl (by decide +kernel) ⟨Nat.le_of_ble_eq_true rfl, Nat.le_of_ble_eq_true rfl⟩) ⟨PX_blind, va_recv hK hPc (ci := 1) (q0 := 0) rfl rfl, PX_pre hPc hK hDc hG⟩ rfl rfl hl.1 rfl (lv_room (Nat.le_of_ble_eq_true rfl)) dX1_write_65 ⟨Nat.zero_le _, Nat.zero_le _⟩) hS (fun q _ h => hFc q h) hFc ?_; clear hw hS; intro u t H1 locs1 ht hvm hw hB hz1 hk1 hS
  obtain ⟨x10, f11⟩ := u
  try dsimp only at hw
  obtain ⟨hP1, -, -⟩ := hB
  rw [ht] at hP1
  replace hP := jC0 hP hD [0, 1] [2, 3, 4, 5] rfl hk1 hP1 (w_X1_write h0 h_bytes k1 k1_split k1_told k1_quants k1_backs k1_rejoined k1_scales k1_needs k1_bits cy x5 x10 f11 p1_twins p1_method p1_pool p1_bits p1_scales p1_quants) rfl rfl rfl 6 rfl (by decide +kernel); clear hD; obtain ⟨hP, hD⟩ := hP
  replace hP : va_P (dC, dI) vwCl (w_X1_write h0 h_bytes k1 k1_split k1_told k1_quants k1_backs k1_rejoined k1_scales k1_needs k1_bits cy x5 x10 f11 p1_twins p1_method p1_pool p1_bits p1_scales p1_quants) H1 := hP
  replace hD : va_D A (w_X1_write h0 h_bytes k1 k1_split k1_told k1_quants k1_backs k1_rejoined k1_scales k1_needs k1_bits cy x5 x10 f11 p1_twins p1_method p1_pool p1_bits p1_scales p1_quants) := hD
  clear hPc hDc hFc hP1 hk1 hz1 hvm ht; clear t; clear H locs; obtain ⟨H, hH⟩ : ∃ H, H = H1 := ⟨_, rfl⟩; obtain ⟨locs, hlo⟩ : ∃ L, L = locs1 := ⟨_, rfl⟩; subst hH; subst hlo
  refine W.widen (k := 0) (n := 0) (Nat.le_refl 0) (Nat.le_refl 0) ?_
  refine lv_aload_n hx hb dX1_write_68 rfl (lv_at hl 0 rfl) ?_
  refine lv_aload_n hx hb dX1_write_69 rfl (lv_at hl 1 rfl) ?_
  refine va_get (D := (dC, dI)) (ci := 4) (v := .int p1_pool) (C := RX4) (T := TX4) (N := 11) hx hb hts inX4 hown hK hP 2 rfl rfl 10 (by decide) (hts _ (List.mem_cons_of_mem _ mw_348)) (fun _ h9 => h9) rfl dX1_write_70 ?_
  refine lv_bipush (v := 8) hx hb dX1_write_73 (by decide) ?_
  have hPc := pSub (ws' := (w_X1_put h0 h_bytes cy x5 x10 f11)) hP [0, 1] rfl
  have hDc := dSub (ws' := (w_X1_put h0 h_bytes cy x5 x10 f11)) hD [0, 1] (by decide) rfl
  have hFc := va_free (wc := (w_X1_put h0 h_bytes cy x5 x10 f11)) hD hS hA [0, 1] rfl
  refine va_callv (va_runV (As := [.int p1_pool, .int (8 : Int32)]) (rest := []) ⟨hx, hb, hml, hown, hts⟩ (c_X1_put l dC dI cy h0 h_bytes H.size p1_pool (8 : Int32) x5 x10 f11 _ hw) (cwV 2 hts (goodV mw_371 mw_368 mw_369 mw_370 mw_24) rfl rfl rfl (by decide +kernel) ⟨Nat.le_of_ble_eq_true rfl, Nat.le_of_ble_eq_true rfl⟩) ⟨PX_blind, va_recv hK hPc (ci := 1) (q0 := 0) rfl rfl, PX_pre hPc hK hDc hG⟩ rfl rfl hl.1 rfl (lv_room (Nat.le_of_ble_eq_true rfl)) dX1_write_75 ⟨Nat.zero_le _, Nat.zero_le _⟩) hS (fun q _ h => hFc q h) hFc ?_; clear hw hS; intro u t H1 locs1 ht hvm hw hB hz1 hk1 hS
  obtain ⟨x12, f13⟩ := u
  try dsimp only at hw
  obtain ⟨hP1, -, -⟩ := hB
  rw [ht] at hP1
  replace hP := jC0 hP hD [0, 1] [2, 3, 4, 5] rfl hk1 hP1 (w_X1_write h0 h_bytes k1 k1_split k1_told k1_quants k1_backs k1_rejoined k1_scales k1_needs k1_bits cy x5 x12 f13 p1_twins p1_method p1_pool p1_bits p1_scales p1_quants) rfl rfl rfl 6 rfl (by decide +kernel); clear hD; obtain ⟨hP, hD⟩ := hP
  replace hP : va_P (dC, dI) vwCl (w_X1_write h0 h_bytes k1 k1_split k1_told k1_quants k1_backs k1_rejoined k1_scales k1_needs k1_bits cy x5 x12 f13 p1_twins p1_method p1_pool p1_bits p1_scales p1_quants) H1 := hP
  replace hD : va_D A (w_X1_write h0 h_bytes k1 k1_split k1_told k1_quants k1_backs k1_rejoined k1_scales k1_needs k1_bits cy x5 x12 f13 p1_twins p1_method p1_pool p1_bits p1_scales p1_quants) := hD
  clear hPc hDc hFc hP1 hk1 hz1 hvm ht; clear t; clear H locs; obtain ⟨H, hH⟩ : ∃ H, H = H1 := ⟨_, rfl⟩; obtain ⟨locs, hlo⟩ : ∃ L, L = locs1 := ⟨_, rfl⟩; subst hH; subst hlo
  refine W.widen (k := 0) (n := 0) (Nat.le_refl 0) (Nat.le_refl 0) ?_
  refine lv_aload_n hx hb dX1_write_78 rfl (lv_at hl 0 rfl) ?_
  refine lv_iconst (v := 0) hx hb dX1_write_79 (by decide) ?_
  refine lv_bipush (v := 8) hx hb dX1_write_80 (by decide) ?_
  have hPc := pSub (ws' := (w_X1_put h0 h_bytes cy x5 x12 f13)) hP [0, 1] rfl
  have hDc := dSub (ws' := (w_X1_put h0 h_bytes cy x5 x12 f13)) hD [0, 1] (by decide) rfl
  have hFc := va_free (wc := (w_X1_put h0 h_bytes cy x5 x12 f13)) hD hS hA [0, 1] rfl
  refine va_callv (va_runV (As := [.int (0 : Int32), .int (8 : Int32)]) (rest := []) ⟨hx, hb, hml, hown, hts⟩ (c_X1_put l dC dI cy h0 h_bytes H.size (0 : Int32) (8 : Int32) x5 x12 f13 _ hw) (cwV 2 hts (goodV mw_371 mw_368 mw_369 mw_370 mw_24) rfl rfl rfl (by decide +kernel) ⟨Nat.le_of_ble_eq_true rfl, Nat.le_of_ble_eq_true rfl⟩) ⟨PX_blind, va_recv hK hPc (ci := 1) (q0 := 0) rfl rfl, PX_pre hPc hK hDc hG⟩ rfl rfl hl.1 rfl (lv_room (Nat.le_of_ble_eq_true rfl)) dX1_write_82 ⟨Nat.zero_le _, Nat.zero_le _⟩) hS (fun q _ h => hFc q h) hFc ?_; clear hw hS; intro u t H1 locs1 ht hvm hw hB hz1 hk1 hS
  obtain ⟨x14, f15⟩ := u
  try dsimp only at hw
  obtain ⟨hP1, -, -⟩ := hB
  rw [ht] at hP1
  replace hP := jC0 hP hD [0, 1] [2, 3, 4, 5] rfl hk1 hP1 (w_X1_write h0 h_bytes k1 k1_split k1_told k1_quants k1_backs k1_rejoined k1_scales k1_needs k1_bits cy x5 x14 f15 p1_twins p1_method p1_pool p1_bits p1_scales p1_quants) rfl rfl rfl 6 rfl (by decide +kernel); clear hD; obtain ⟨hP, hD⟩ := hP
  replace hP : va_P (dC, dI) vwCl (w_X1_write h0 h_bytes k1 k1_split k1_told k1_quants k1_backs k1_rejoined k1_scales k1_needs k1_bits cy x5 x14 f15 p1_twins p1_method p1_pool p1_bits p1_scales p1_quants) H1 := hP
  replace hD : va_D A (w_X1_write h0 h_bytes k1 k1_split k1_told k1_quants k1_backs k1_rejoined k1_scales k1_needs k1_bits cy x5 x14 f15 p1_twins p1_method p1_pool p1_bits p1_scales p1_quants) := hD
  clear hPc hDc hFc hP1 hk1 hz1 hvm ht; clear t; clear H locs; obtain ⟨H, hH⟩ : ∃ H, H = H1 := ⟨_, rfl⟩; obtain ⟨locs, hlo⟩ : ∃ L, L = locs1 := ⟨_, rfl⟩; subst hH; subst hlo
  refine W.widen (k := 0) (n := 0) (Nat.le_refl 0) (Nat.le_refl 0) ?_
  refine lv_aload_n hx hb dX1_write_85 rfl (lv_at hl 0 rfl) ?_
  refine lv_aload_n hx hb dX1_write_86 rfl (lv_at hl 1 rfl) ?_
  refine va_get (D := (dC, dI)) (ci := 4) (v := .int p1_twins) (C := RX4) (T := TX4) (N := 11) hx hb hts inX4 hown hK hP 2 rfl rfl 8 (by decide) (hts _ (List.mem_cons_of_mem _ mw_349)) (fun _ h9 => h9) rfl dX1_write_87 ?_
  refine lv_bipush (v := 8) hx hb dX1_write_90 (by decide) ?_
  have hPc := pSub (ws' := (w_X1_put h0 h_bytes cy x5 x14 f15)) hP [0, 1] rfl
  have hDc := dSub (ws' := (w_X1_put h0 h_bytes cy x5 x14 f15)) hD [0, 1] (by decide) rfl
  have hFc := va_free (wc := (w_X1_put h0 h_bytes cy x5 x14 f15)) hD hS hA [0, 1] rfl
  refine va_callv (va_runV (As := [.int p1_twins, .int (8 : Int32)]) (rest := []) ⟨hx, hb, hml, hown, hts⟩ (c_X1_put l dC dI cy h0 h_bytes H.size p1_twins (8 : Int32) x5 x14 f15 _ hw) (cwV 2 hts (goodV mw_371 mw_368 mw_369 mw_370 mw_24) rfl rfl rfl (by decide +kernel) ⟨Nat.le_of_ble_eq_true rfl, Nat.le_of_ble_eq_true rfl⟩) ⟨PX_blind, va_recv hK hPc (ci := 1) (q0 := 0) rfl rfl, PX_pre hPc hK hDc hG⟩ rfl rfl hl.1 rfl (lv_room (Nat.le_of_ble_eq_true rfl)) dX1_write_92 ⟨Nat.zero_le _, Nat.zero_le _⟩) hS (fun q _ h => hFc q h) hFc ?_; clear hw hS; intro u t H1 locs1 ht hvm hw hB hz1 hk1 hS
  obtain ⟨x16, f17⟩ := u
  try dsimp only at hw
  obtain ⟨hP1, -, -⟩ := hB
  rw [ht] at hP1
  replace hP := jC0 hP hD [0, 1] [2, 3, 4, 5] rfl hk1 hP1 (w_X1_write h0 h_bytes k1 k1_split k1_told k1_quants k1_backs k1_rejoined k1_scales k1_needs k1_bits cy x5 x16 f17 p1_twins p1_method p1_pool p1_bits p1_scales p1_quants) rfl rfl rfl 6 rfl (by decide +kernel); clear hD; obtain ⟨hP, hD⟩ := hP
  replace hP : va_P (dC, dI) vwCl (w_X1_write h0 h_bytes k1 k1_split k1_told k1_quants k1_backs k1_rejoined k1_scales k1_needs k1_bits cy x5 x16 f17 p1_twins p1_method p1_pool p1_bits p1_scales p1_quants) H1 := hP
  replace hD : va_D A (w_X1_write h0 h_bytes k1 k1_split k1_told k1_quants k1_backs k1_rejoined k1_scales k1_needs k1_bits cy x5 x16 f17 p1_twins p1_method p1_pool p1_bits p1_scales p1_quants) := hD
  clear hPc hDc hFc hP1 hk1 hz1 hvm ht; clear t; clear H locs; obtain ⟨H, hH⟩ : ∃ H, H = H1 := ⟨_, rfl⟩; obtain ⟨locs, hlo⟩ : ∃ L, L = locs1 := ⟨_, rfl⟩; subst hH; subst hlo
  refine W.widen (k := 0) (n := 0) (Nat.le_refl 0) (Nat.le_refl 0) ?_
  refine lv_iconst (v := 0) hx hb dX1_write_95 (by decide) ?_
  refine lv_istore (lv' := [(4, .int (0 : Int32)), (0, .ref h0), (1, .ref k1), (2, .int v2), (3, .int v3)]) hx hb dX1_write_96 hl (by decide) rfl ?_; clear hl; clear ls; intro ls hl
  obtain ⟨x18, e_x18⟩ : ∃ y : Int32, y = (0 : Int32) := ⟨_, rfl⟩
  replace hw := hw x18 e_x18
  replace hl : lv_has ls 5 [(4, .int x18), (0, .ref h0), (1, .ref k1), (2, .int v2), (3, .int v3)] := by rw [e_x18]; exact hl
  clear e_x18
  replace hl := lv_sub (l' := [(4, .int x18), (0, .ref h0), (1, .ref k1)]) hl [0, 1, 2] rfl
  revert hl; revert hS; revert hD; revert hP; revert ls; revert locs; revert H
  revert hw; revert f17; revert x16; revert x18
  refine Lz3_gr ?_; intro g19 ih20 x21 x22 f23 hw
  intro H locs ls hP hD hS hl
  refine lv_iload hx hb dX1_write_98 (lv_at hl 0 rfl) ?_
  refine lv_bipush (v := 16) hx hb dX1_write_100 (by decide) ?_
  refine lv_icmp_ge (tgt := 123) hx hb dX1_write_102 (by decide) (fun c24 => ?_) (fun c24 => ?_)
  · replace hw := hw.1 c24
    clear ih20
    refine lv_iconst (v := 0) hx hb dX1_write_123 (by decide) ?_
    refine lv_istore (lv' := [(4, .int (0 : Int32)), (0, .ref h0), (1, .ref k1)]) hx hb dX1_write_124 hl (by decide) rfl ?_; clear hl; clear ls; intro ls hl
    obtain ⟨x25, e_x25⟩ : ∃ y : Int32, y = (0 : Int32) := ⟨_, rfl⟩
    replace hw := hw x25 e_x25
    replace hl : lv_has ls 5 [(4, .int x25), (0, .ref h0), (1, .ref k1)] := by rw [e_x25]; exact hl
    clear e_x25
    replace hl := lv_sub (l' := [(4, .int x25), (0, .ref h0), (1, .ref k1)]) hl [0, 1, 2] rfl
    revert hl; revert hS; revert hD; revert hP; revert ls; revert locs; revert H
    revert hw; revert f23; revert x22; revert x25
    refine Lz3_gr ?_; intro g26 ih27 x28 x29 f30 hw
    intro H locs ls hP hD hS hl
    refine lv_iload hx hb dX1_write_126 (lv_at hl 0 rfl) ?_
    refine lv_bipush (v := 64) hx hb dX1_write_128 (by decide) ?_
    refine lv_icmp_ge (tgt := 160) hx hb dX1_write_130 (by decide) (fun c31 => ?_) (fun c31 => ?_)
    · replace hw := hw.1 c31
      clear ih27
      refine lv_aload_n hx hb dX1_write_160 rfl (lv_at hl 1 rfl) ?_
      refine va_get (D := (dC, dI)) (ci := 1) (v := .ref h_bytes) (C := RX1) (T := TX1) (N := 3) hx hb hts inX1 hown hK hP 0 rfl rfl 0 (by decide) (hts _ (List.mem_cons_of_mem _ mw_95)) (fun _ h9 => h9) rfl dX1_write_161 ?_
      refine lv_iconst (v := 3) hx hb dX1_write_164 (by decide) ?_
      refine lv_aload_n hx hb dX1_write_165 rfl (lv_at hl 1 rfl) ?_
      have hPc := pSub (ws' := (w_X1_check h0 h_bytes cy x5 x29 f30)) hP [0, 1] rfl
      have hDc := dSub (ws' := (w_X1_check h0 h_bytes cy x5 x29 f30)) hD [0, 1] (by decide) rfl
      have hFc := va_free (wc := (w_X1_check h0 h_bytes cy x5 x29 f30)) hD hS hA [0, 1] rfl
      refine va_calli (va_runV (As := []) (rest := [.int (3 : Int32), .ref h_bytes]) ⟨hx, hb, hml, hown, hts⟩ (c_X1_check l dC dI cy h0 h_bytes H.size x5 x29 f30 _ hw) (cwV 0 hts (goodV mw_375 mw_372 mw_373 mw_374 mw_24) rfl rfl rfl (by decide +kernel) ⟨Nat.le_of_ble_eq_true rfl, Nat.le_of_ble_eq_true rfl⟩) ⟨PX_blind, va_recv hK hPc (ci := 1) (q0 := 0) rfl rfl, PX_pre hPc hK hDc hG⟩ rfl rfl hl.1 rfl (lv_room (Nat.le_of_ble_eq_true rfl)) dX1_write_166 ⟨Nat.zero_le _, Nat.zero_le _⟩) hS (fun q _ h => hFc q h) hFc ?_; clear hw hS; intro r32 _ t H1 locs1 ht hvm hw hB hz1 hk1 hS
      obtain ⟨hP1, -, -⟩ := hB
      rw [ht] at hP1
      replace hP := jC0 hP hD [0, 1] [2, 3, 4, 5] rfl hk1 hP1 (w_X1_write h0 h_bytes k1 k1_split k1_told k1_quants k1_backs k1_rejoined k1_scales k1_needs k1_bits cy x5 x29 f30 p1_twins p1_method p1_pool p1_bits p1_scales p1_quants) rfl rfl rfl 6 rfl (by decide +kernel); clear hD; obtain ⟨hP, hD⟩ := hP
      replace hP : va_P (dC, dI) vwCl (w_X1_write h0 h_bytes k1 k1_split k1_told k1_quants k1_backs k1_rejoined k1_scales k1_needs k1_bits cy x5 x29 f30 p1_twins p1_method p1_pool p1_bits p1_scales p1_quants) H1 := hP
      replace hD : va_D A (w_X1_write h0 h_bytes k1 k1_split k1_told k1_quants k1_backs k1_rejoined k1_scales k1_needs k1_bits cy x5 x29 f30 p1_twins p1_method p1_pool p1_bits p1_scales p1_quants) := hD
      clear hPc hDc hFc hP1 hk1 hz1 hvm ht; clear t; clear H locs; obtain ⟨H, hH⟩ : ∃ H, H = H1 := ⟨_, rfl⟩; obtain ⟨locs, hlo⟩ : ∃ L, L = locs1 := ⟨_, rfl⟩; subst hH; subst hlo
      refine W.widen (k := 0) (n := 0) (Nat.le_refl 0) (Nat.le_refl 0) ?_
      refine xiast (k := 3) hx hb hK hP hD hS 1 0 rfl rfl (vpL 3 80 rfl) (by decide) dX1_write_169 ?_; clear hP hD hS; clear H locs; intro f34 e_f34 H locs hP hD hS
      replace hw := hw f34 e_f34
      clear e_f34
      replace hP : va_P (dC, dI) vwCl (w_X1_write h0 h_bytes k1 k1_split k1_told k1_quants k1_backs k1_rejoined k1_scales k1_needs k1_bits cy x5 x29 f34 p1_twins p1_method p1_pool p1_bits p1_scales p1_quants) H := hP
      replace hD : va_D A (w_X1_write h0 h_bytes k1 k1_split k1_told k1_quants k1_backs k1_rejoined k1_scales k1_needs k1_bits cy x5 x29 f34 p1_twins p1_method p1_pool p1_bits p1_scales p1_quants) := hD
      subst hQe
      exact W.vret hx hb hr (fun t ht hW => ⟨⟨(x5, x29, f34), rfl, hw, by rw [ht]; exact hP, va_K.moved hW.alike hK, hD⟩, hS.F ht⟩) hS.2.2 dX1_write_170
    · replace hw := hw.2 c31
      refine lv_aload_n hx hb dX1_write_133 rfl (lv_at hl 1 rfl) ?_
      refine lv_aload_n hx hb dX1_write_134 rfl (lv_at hl 2 rfl) ?_
      refine va_get (D := (dC, dI)) (ci := 4) (v := .ref k1_quants) (C := RX4) (T := TX4) (N := 11) hx hb hts inX4 hown hK hP 2 rfl rfl 2 (by decide) (hts _ (List.mem_cons_of_mem _ mw_351)) (fun _ h9 => h9) rfl dX1_write_135 ?_
      refine lv_iload hx hb dX1_write_138 (lv_at hl 0 rfl) ?_
      obtain ⟨h35, hw⟩ := hw
      refine xiald (k := x28.toNatClampNeg) hx hb hK hP 5 0 rfl rfl h35 rfl dX1_write_140 ?_
      refine lv_aload_n hx hb dX1_write_141 rfl (lv_at hl 2 rfl) ?_
      refine va_get (D := (dC, dI)) (ci := 4) (v := .ref k1_bits) (C := RX4) (T := TX4) (N := 11) hx hb hts inX4 hown hK hP 2 rfl rfl 7 (by decide) (hts _ (List.mem_cons_of_mem _ mw_352)) (fun _ h9 => h9) rfl dX1_write_142 ?_
      refine lv_iload hx hb dX1_write_145 (lv_at hl 0 rfl) ?_
      refine lv_bipush (v := 16) hx hb dX1_write_147 (by decide) ?_
      refine lv_irem hx hb dX1_write_149 (by decide) ?_
      refine lv_topi (fun x36 e_x36 => ?_)
      replace hw := hw x36 e_x36
      clear e_x36
      obtain ⟨h37, hw⟩ := hw
      refine xiald (k := x36.toNatClampNeg) hx hb hK hP 3 0 rfl rfl h37 rfl dX1_write_150 ?_
      have hPc := pSub (ws' := (w_X1_put h0 h_bytes cy x5 x29 f30)) hP [0, 1] rfl
      have hDc := dSub (ws' := (w_X1_put h0 h_bytes cy x5 x29 f30)) hD [0, 1] (by decide) rfl
      have hFc := va_free (wc := (w_X1_put h0 h_bytes cy x5 x29 f30)) hD hS hA [0, 1] rfl
      refine va_callv (va_runV (As := [.int (p1_quants x28.toNatClampNeg), .int (p1_bits x36.toNatClampNeg)]) (rest := []) ⟨hx, hb, hml, hown, hts⟩ (c_X1_put l dC dI cy h0 h_bytes H.size (p1_quants x28.toNatClampNeg) (p1_bits x36.toNatClampNeg) x5 x29 f30 _ hw) (cwV 2 hts (goodV mw_371 mw_368 mw_369 mw_370 mw_24) rfl rfl rfl (by decide +kernel) ⟨Nat.le_of_ble_eq_true rfl, Nat.le_of_ble_eq_true rfl⟩) ⟨PX_blind, va_recv hK hPc (ci := 1) (q0 := 0) rfl rfl, PX_pre hPc hK hDc hG⟩ rfl rfl hl.1 rfl (lv_room (Nat.le_of_ble_eq_true rfl)) dX1_write_151 ⟨Nat.zero_le _, Nat.zero_le _⟩) hS (fun q _ h => hFc q h) hFc ?_; clear hw hS; intro u t H1 locs1 ht hvm hw hB hz1 hk1 hS
      obtain ⟨x38, f39⟩ := u
      try dsimp only at hw
      obtain ⟨hP1, -, -⟩ := hB
      rw [ht] at hP1
      replace hP := jC0 hP hD [0, 1] [2, 3, 4, 5] rfl hk1 hP1 (w_X1_write h0 h_bytes k1 k1_split k1_told k1_quants k1_backs k1_rejoined k1_scales k1_needs k1_bits cy x5 x38 f39 p1_twins p1_method p1_pool p1_bits p1_scales p1_quants) rfl rfl rfl 6 rfl (by decide +kernel); clear hD; obtain ⟨hP, hD⟩ := hP
      replace hP : va_P (dC, dI) vwCl (w_X1_write h0 h_bytes k1 k1_split k1_told k1_quants k1_backs k1_rejoined k1_scales k1_needs k1_bits cy x5 x38 f39 p1_twins p1_method p1_pool p1_bits p1_scales p1_quants) H1 := hP
      replace hD : va_D A (w_X1_write h0 h_bytes k1 k1_split k1_told k1_quants k1_backs k1_rejoined k1_scales k1_needs k1_bits cy x5 x38 f39 p1_twins p1_method p1_pool p1_bits p1_scales p1_quants) := hD
      clear hPc hDc hFc hP1 hk1 hz1 hvm ht; clear t; clear H locs; obtain ⟨H, hH⟩ : ∃ H, H = H1 := ⟨_, rfl⟩; obtain ⟨locs, hlo⟩ : ∃ L, L = locs1 := ⟨_, rfl⟩; subst hH; subst hlo
      refine W.widen (k := 0) (n := 0) (Nat.le_refl 0) (Nat.le_refl 0) ?_
      refine lv_iinc (v := x28 + 1) (lv' := [(4, .int (x28 + 1)), (0, .ref h0), (1, .ref k1)]) hx hb dX1_write_154 hl (k := 0) rfl rfl (by decide) rfl ?_; clear hl; clear ls; intro ls hl
      refine lv_goto (tgt := 126) hx hb dX1_write_157 (by decide) ?_
      exact ih27 (x28 + 1) x38 f39 hw H locs ls hP hD hS (lv_sub hl [0, 1, 2] rfl)
  · replace hw := hw.2 c24
    refine lv_aload_n hx hb dX1_write_105 rfl (lv_at hl 1 rfl) ?_
    refine lv_aload_n hx hb dX1_write_106 rfl (lv_at hl 2 rfl) ?_
    refine va_get (D := (dC, dI)) (ci := 4) (v := .ref k1_scales) (C := RX4) (T := TX4) (N := 11) hx hb hts inX4 hown hK hP 2 rfl rfl 5 (by decide) (hts _ (List.mem_cons_of_mem _ mw_350)) (fun _ h9 => h9) rfl dX1_write_107 ?_
    refine lv_iload hx hb dX1_write_110 (lv_at hl 0 rfl) ?_
    obtain ⟨h40, hw⟩ := hw
    refine xiald (k := x21.toNatClampNeg) hx hb hK hP 4 0 rfl rfl h40 rfl dX1_write_112 ?_
    refine lv_iconst (v := 4) hx hb dX1_write_113 (by decide) ?_
    have hPc := pSub (ws' := (w_X1_put h0 h_bytes cy x5 x22 f23)) hP [0, 1] rfl
    have hDc := dSub (ws' := (w_X1_put h0 h_bytes cy x5 x22 f23)) hD [0, 1] (by decide) rfl
    have hFc := va_free (wc := (w_X1_put h0 h_bytes cy x5 x22 f23)) hD hS hA [0, 1] rfl
    refine va_callv (va_runV (As := [.int (p1_scales x21.toNatClampNeg), .int (4 : Int32)]) (rest := []) ⟨hx, hb, hml, hown, hts⟩ (c_X1_put l dC dI cy h0 h_bytes H.size (p1_scales x21.toNatClampNeg) (4 : Int32) x5 x22 f23 _ hw) (cwV 2 hts (goodV mw_371 mw_368 mw_369 mw_370 mw_24) rfl rfl rfl (by decide +kernel) ⟨Nat.le_of_ble_eq_true rfl, Nat.le_of_ble_eq_true rfl⟩) ⟨PX_blind, va_recv hK hPc (ci := 1) (q0 := 0) rfl rfl, PX_pre hPc hK hDc hG⟩ rfl rfl hl.1 rfl (lv_room (Nat.le_of_ble_eq_true rfl)) dX1_write_114 ⟨Nat.zero_le _, Nat.zero_le _⟩) hS (fun q _ h => hFc q h) hFc ?_; clear hw hS; intro u t H1 locs1 ht hvm hw hB hz1 hk1 hS
    obtain ⟨x41, f42⟩ := u
    try dsimp only at hw
    obtain ⟨hP1, -, -⟩ := hB
    rw [ht] at hP1
    replace hP := jC0 hP hD [0, 1] [2, 3, 4, 5] rfl hk1 hP1 (w_X1_write h0 h_bytes k1 k1_split k1_told k1_quants k1_backs k1_rejoined k1_scales k1_needs k1_bits cy x5 x41 f42 p1_twins p1_method p1_pool p1_bits p1_scales p1_quants) rfl rfl rfl 6 rfl (by decide +kernel); clear hD; obtain ⟨hP, hD⟩ := hP
    replace hP : va_P (dC, dI) vwCl (w_X1_write h0 h_bytes k1 k1_split k1_told k1_quants k1_backs k1_rejoined k1_scales k1_needs k1_bits cy x5 x41 f42 p1_twins p1_method p1_pool p1_bits p1_scales p1_quants) H1 := hP
    replace hD : va_D A (w_X1_write h0 h_bytes k1 k1_split k1_told k1_quants k1_backs k1_rejoined k1_scales k1_needs k1_bits cy x5 x41 f42 p1_twins p1_method p1_pool p1_bits p1_scales p1_quants) := hD
    clear hPc hDc hFc hP1 hk1 hz1 hvm ht; clear t; clear H locs; obtain ⟨H, hH⟩ : ∃ H, H = H1 := ⟨_, rfl⟩; obtain ⟨locs, hlo⟩ : ∃ L, L = locs1 := ⟨_, rfl⟩; subst hH; subst hlo
    refine W.widen (k := 0) (n := 0) (Nat.le_refl 0) (Nat.le_refl 0) ?_
    refine lv_iinc (v := x21 + 1) (lv' := [(4, .int (x21 + 1)), (0, .ref h0), (1, .ref k1)]) hx hb dX1_write_117 hl (k := 0) rfl rfl (by decide) rfl ?_; clear hl; clear ls; intro ls hl
    refine lv_goto (tgt := 98) hx hb dX1_write_120 (by decide) ?_
    exact ih20 (x21 + 1) x41 f42 hw H locs ls hP hD hS (lv_sub hl [0, 1, 2] rfl)
set_option maxHeartbeats 4000000 in
set_option maxRecDepth 100000 in
theorem c_X1_take (l : Launch) (dC : Nat → ClassId) (dI : Nat → Nat → Nat) (cy : Nat → ClassId) (h0 h_bytes : Nat) (sz : Nat) (v1 : Int32) (c_size : Int32) (c_at : Int32) (c_bytes : Nat → Int32) (post : Int32 → Int32 → Prop) (hw : wp_X1_take v1 c_size c_at c_bytes post) : Met l yX1_take wsX1_take ({ frames := 0, cells := 0, slots := 0, locals := 0 }) (PX dC dI cy [.ref h0, .int v1] sz (w_X1_take h0 h_bytes cy c_size c_at c_bytes)) (va_Qi (fun (r : Int32) (u : Int32) => post r u) (QX dC dI cy (va_A (w_X1_take h0 h_bytes cy c_size c_at c_bytes) sz) (fun (u : Int32) => w_X1_take h0 h_bytes cy c_size u c_bytes)) (va_A (w_X1_take h0 h_bytes cy c_size c_at c_bytes) sz)) 0 0 (va_A (w_X1_take h0 h_bytes cy c_size c_at c_bytes) sz) := by
  refine Met.ofW (cc := cX1_take) (maxL := 4) (ret := (some .int)) (by decide) rfl ?_
  intro p e s m args below meth c s₁ B hml hv
  obtain ⟨rfl, hsz, hP, hK, hD0, hG⟩ := hv
  have hx := B.exec
  have hb := B.bytes
  have hr := B.returns
  have hts := atoms_spec (ws := wsX1_take) B.pre
  have hown : s.vm.findClass RX1 = some m.cls := findClass_of_methodNamed B.named
  have hlocks := B.notSynchronized
  subst hsz
  have hD := hD0.self (sz := s.heap.size)
  generalize hAe : va_A (w_X1_take h0 h_bytes cy c_size c_at c_bytes) s.heap.size = A at hD ⊢
  have hA : ∀ q : Nat, s.heap.size ≤ q → A q := fun q h => by rw [← hAe]; exact Or.inr h
  have hS : va_S A s.heap s.heap [] := va_S.rf
  have hl := lv_entry ([.ref h0, .int v1]) (n := 4) (Nat.le_of_ble_eq_true rfl)
  rw [lg_entry_eq]
  generalize (lg_sl ([.ref h0, .int v1]) ++ List.replicate (4 - (lg_sl ([.ref h0, .int v1])).length) Slot.unset).toArray = ls at hl ⊢
  replace hl : lv_has ls 4 [(0, .ref h0), (1, .int v1)] := hl
  have inX1 : ∀ w ∈ u_ws RX1 TX1 3, w ∈ wsX1_take := fun w h => List.mem_cons_of_mem _ (inlX1 w h)
  clear hAe hD0 B
  unfold wp_X1_take at hw
  generalize hQe : MQ below _ _ s _ _ _ = Q0
  generalize ([.ref h0, .int v1] : List Value).toArray = av at *
  obtain ⟨H, hH⟩ : ∃ H, H = s.heap := ⟨_, rfl⟩
  obtain ⟨locs, hlo⟩ : ∃ L : List Loc, L = [] := ⟨_, rfl⟩
  replace hP : va_P (dC, dI) vwCl (w_X1_take h0 h_bytes cy c_size c_at c_bytes) H := by rw [hH]; exact hP
  replace hS : va_S A s.heap H locs := by rw [hH, hlo]; exact hS
  suffices hgo : W p l e ({ frames := 0, cells := 0, slots := 0, locals := 0 }) s m av below meth c H locs 0 0 Q0 (F0 m 0 ls []) by rw [hH, hlo] at hgo; exact hgo
  clear hH hlo
  refine lv_iconst (v := 0) hx hb dX1_take_0 (by decide) ?_
  refine lv_istore_n (lv' := [(2, .int (0 : Int32)), (0, .ref h0), (1, .int v1)]) hx hb dX1_take_1 rfl hl (by decide) rfl ?_; clear hl; clear ls; intro ls hl
  refine lv_iconst (v := 0) hx hb dX1_take_2 (by decide) ?_
  refine lv_istore_n (lv' := [(3, .int (0 : Int32)), (2, .int (0 : Int32)), (0, .ref h0), (1, .int v1)]) hx hb dX1_take_3 rfl hl (by decide) rfl ?_; clear hl; clear ls; intro ls hl
  obtain ⟨x1, e_x1⟩ : ∃ y : Int32, y = (0 : Int32) := ⟨_, rfl⟩
  replace hw := hw x1 e_x1
  replace hl : lv_has ls 4 [(3, .int x1), (2, .int (0 : Int32)), (0, .ref h0), (1, .int v1)] := by rw [e_x1]; exact hl
  clear e_x1
  obtain ⟨x2, e_x2⟩ : ∃ y : Int32, y = (0 : Int32) := ⟨_, rfl⟩
  replace hw := hw x2 e_x2
  replace hl : lv_has ls 4 [(3, .int x1), (2, .int x2), (0, .ref h0), (1, .int v1)] := by rw [e_x2]; exact hl
  clear e_x2
  replace hl := lv_sub (l' := [(3, .int x1), (2, .int x2), (0, .ref h0), (1, .int v1)]) hl [0, 1, 2, 3] rfl
  revert hl; revert hS; revert hD; revert hP; revert ls; revert locs; revert H
  revert hw; revert c_at; revert x2; revert x1
  refine Lz3_gr ?_; intro g3 ih4 x5 x6 x7 hw
  intro H locs ls hP hD hS hl
  refine lv_iload_n hx hb dX1_take_4 rfl (lv_at hl 0 rfl) ?_
  refine lv_iload_n hx hb dX1_take_5 rfl (lv_at hl 3 rfl) ?_
  refine lv_icmp_ge (tgt := 73) hx hb dX1_take_6 (by decide) (fun c8 => ?_) (fun c8 => ?_)
  · replace hw := hw.1 c8
    clear ih4
    refine lv_iload_n hx hb dX1_take_73 rfl (lv_at hl 1 rfl) ?_
    subst hQe
    exact W.iret (v := x6) hx hb hr (fun t ht hW => ⟨⟨x6, x7, rfl, hw, by rw [ht]; exact hP, va_K.moved hW.alike hK, hD⟩, hS.F ht⟩) hS.2.2 dX1_take_74
  · replace hw := hw.2 c8
    refine lv_iconst (v := 2) hx hb dX1_take_9 (by decide) ?_
    refine lv_iload_n hx hb dX1_take_10 rfl (lv_at hl 1 rfl) ?_
    refine lv_imul hx hb dX1_take_11 ?_
    refine lv_aload_n hx hb dX1_take_12 rfl (lv_at hl 2 rfl) ?_
    refine va_get (D := (dC, dI)) (ci := 1) (v := .int x7) (C := RX1) (T := TX1) (N := 3) hx hb hts inX1 hown hK hP 0 rfl rfl 2 (by decide) (hts _ (List.mem_cons_of_mem _ mw_97)) (fun _ h9 => h9) rfl dX1_take_13 ?_
    refine lv_bipush (v := 8) hx hb dX1_take_16 (by decide) ?_
    refine lv_aload_n hx hb dX1_take_18 rfl (lv_at hl 2 rfl) ?_
    refine va_get (D := (dC, dI)) (ci := 1) (v := .int c_size) (C := RX1) (T := TX1) (N := 3) hx hb hts inX1 hown hK hP 0 rfl rfl 1 (by decide) (hts _ (List.mem_cons_of_mem _ mw_96)) (fun _ h9 => h9) rfl dX1_take_19 ?_
    refine lv_imul hx hb dX1_take_22 ?_
    refine jn1 (Gg := fun (x9 : Int32) => ∀ (H : Heap) (locs : List Loc) (ls : Array Slot), va_P (dC, dI) vwCl (w_X1_take h0 h_bytes cy c_size x7 c_bytes) H → va_D A (w_X1_take h0 h_bytes cy c_size x7 c_bytes) → va_S A s.heap H locs → lv_has ls 4 [(0, .ref h0), (1, .int v1), (3, .int x5)] → W p l e { frames := 0, cells := 0, slots := 0, locals := 0 } s m av below meth c H locs 0 0 Q0 (F0 m 55 ls [.int x9, .int ((2 : Int32) * x6)])) hw ?_ ?_ <;> clear hw
    · clear hP hD hS hl; clear H locs ls; intro x9 hw H locs ls hP hD hS hl
      refine lv_iadd hx hb dX1_take_55 ?_
      refine lv_topi (fun x12 e_x12 => ?_)
      replace hw := hw x12 e_x12
      clear e_x12
      refine lv_istore_n (lv' := [(2, .int x12), (0, .ref h0), (1, .int v1), (3, .int x5)]) hx hb dX1_take_56 rfl hl (by decide) rfl ?_; clear hl; clear ls; intro ls hl
      refine lv_aload_n hx hb dX1_take_57 rfl (lv_at hl 1 rfl) ?_
      refine lv_dup hx hb dX1_take_58 rfl ?_
      refine va_get (D := (dC, dI)) (ci := 1) (v := .int x7) (C := RX1) (T := TX1) (N := 3) hx hb hts inX1 hown hK hP 0 rfl rfl 2 (by decide) (hts _ (List.mem_cons_of_mem _ mw_97)) (fun _ h9 => h9) rfl dX1_take_59 ?_
      refine lv_iconst (v := 1) hx hb dX1_take_62 (by decide) ?_
      refine lv_iadd hx hb dX1_take_63 ?_
      refine lv_topi (fun x13 e_x13 => ?_)
      replace hw := hw x13 e_x13
      clear e_x13
      refine va_put (D := (dC, dI)) (ci := 1) (v := .int x13) (ty := .int) (C := RX1) (T := TX1) (N := 3) hx hb hts inX1 tyX1 tyX1_ok nmX1 hown hK hP hD hS 0 rfl rfl 2 (by decide) (hts _ (List.mem_cons_of_mem _ mw_97)) (fun _ h9 => h9) rfl (by decide +kernel) rfl rfl (Nat.le_of_ble_eq_true rfl) dX1_take_64 ?_; clear hP hD hS; clear H locs; intro H locs hP hD hS
      replace hP : va_P (dC, dI) vwCl (w_X1_take h0 h_bytes cy c_size x13 c_bytes) H := hP
      replace hD : va_D A (w_X1_take h0 h_bytes cy c_size x13 c_bytes) := hD
      refine lv_iinc (v := x5 + 1) (lv' := [(3, .int (x5 + 1)), (2, .int x12), (0, .ref h0), (1, .int v1)]) hx hb dX1_take_67 hl (k := 3) rfl rfl (by decide) rfl ?_; clear hl; clear ls; intro ls hl
      refine lv_goto (tgt := 4) hx hb dX1_take_70 (by decide) ?_
      exact ih4 (x5 + 1) x12 x13 hw H locs ls hP hD hS (lv_sub hl [0, 1, 2, 3] rfl)
    · intro j11 hw
      refine lv_icmp_ge (tgt := 54) hx hb dX1_take_23 (by decide) (fun c14 => ?_) (fun c14 => ?_)
      · replace hw := hw.1 c14
        refine lv_iconst (v := 0) hx hb dX1_take_54 (by decide) ?_
        exact j11 (0 : Int32) hw H locs ls hP hD hS (lv_sub hl [2, 3, 0] rfl)
      · replace hw := hw.2 c14
        refine lv_aload_n hx hb dX1_take_26 rfl (lv_at hl 2 rfl) ?_
        refine va_get (D := (dC, dI)) (ci := 1) (v := .ref h_bytes) (C := RX1) (T := TX1) (N := 3) hx hb hts inX1 hown hK hP 0 rfl rfl 0 (by decide) (hts _ (List.mem_cons_of_mem _ mw_95)) (fun _ h9 => h9) rfl dX1_take_27 ?_
        refine lv_aload_n hx hb dX1_take_30 rfl (lv_at hl 2 rfl) ?_
        refine va_get (D := (dC, dI)) (ci := 1) (v := .int x7) (C := RX1) (T := TX1) (N := 3) hx hb hts inX1 hown hK hP 0 rfl rfl 2 (by decide) (hts _ (List.mem_cons_of_mem _ mw_97)) (fun _ h9 => h9) rfl dX1_take_31 ?_
        refine lv_bipush (v := 8) hx hb dX1_take_34 (by decide) ?_
        refine lv_idiv hx hb dX1_take_36 (by decide) ?_
        refine lv_topi (fun x15 e_x15 => ?_)
        replace hw := hw x15 e_x15
        clear e_x15
        obtain ⟨h16, hw⟩ := hw
        refine xiald (k := x15.toNatClampNeg) hx hb hK hP 1 0 rfl rfl h16 rfl dX1_take_37 ?_
        refine lv_bipush (v := 7) hx hb dX1_take_38 (by decide) ?_
        refine lv_aload_n hx hb dX1_take_40 rfl (lv_at hl 2 rfl) ?_
        refine va_get (D := (dC, dI)) (ci := 1) (v := .int x7) (C := RX1) (T := TX1) (N := 3) hx hb hts inX1 hown hK hP 0 rfl rfl 2 (by decide) (hts _ (List.mem_cons_of_mem _ mw_97)) (fun _ h9 => h9) rfl dX1_take_41 ?_
        refine lv_bipush (v := 8) hx hb dX1_take_44 (by decide) ?_
        refine lv_irem hx hb dX1_take_46 (by decide) ?_
        refine lv_topi (fun x17 e_x17 => ?_)
        replace hw := hw x17 e_x17
        clear e_x17
        refine lv_isub hx hb dX1_take_47 ?_
        refine lv_ishr hx hb dX1_take_48 ?_
        refine lv_iconst (v := 1) hx hb dX1_take_49 (by decide) ?_
        refine lv_iand hx hb dX1_take_50 ?_
        refine lv_goto (tgt := 55) hx hb dX1_take_51 (by decide) ?_
        exact j11 (((c_bytes x15.toNatClampNeg) >>> (((7 : Int32) - x17) &&& 31)) &&& (1 : Int32)) hw H locs ls hP hD hS (lv_sub hl [2, 3, 0] rfl)
set_option maxHeartbeats 4000000 in
set_option maxRecDepth 100000 in
theorem c_X1_turnRound (l : Launch) (dC : Nat → ClassId) (dI : Nat → Nat → Nat) (cy : Nat → ClassId) (h0 h_bytes : Nat) (sz : Nat) (v1 : Int32) (c_size : Int32) (c_at : Int32) (c_bytes : Nat → Int32) (post : (Nat → Int32) → Prop) (hw : wp_X1_turnRound v1 c_size c_bytes post) : Met l yX1_turnRound wsX1_turnRound ({ frames := 0, cells := 0, slots := 0, locals := 0 }) (PX dC dI cy [.ref h0, .int v1] sz (w_X1_turnRound h0 h_bytes cy c_size c_at c_bytes)) (va_Qv (fun (u : (Nat → Int32)) => post u) (QX dC dI cy (va_A (w_X1_turnRound h0 h_bytes cy c_size c_at c_bytes) sz) (fun (u : (Nat → Int32)) => w_X1_turnRound h0 h_bytes cy c_size c_at u)) (va_A (w_X1_turnRound h0 h_bytes cy c_size c_at c_bytes) sz)) 0 0 (va_A (w_X1_turnRound h0 h_bytes cy c_size c_at c_bytes) sz) := by
  refine Met.ofW (cc := cX1_turnRound) (maxL := 2) (ret := none) (by decide) rfl ?_
  intro p e s m args below meth c s₁ B hml hv
  obtain ⟨rfl, hsz, hP, hK, hD0, hG⟩ := hv
  have hx := B.exec
  have hb := B.bytes
  have hr := B.returns
  have hts := atoms_spec (ws := wsX1_turnRound) B.pre
  have hown : s.vm.findClass RX1 = some m.cls := findClass_of_methodNamed B.named
  have hlocks := B.notSynchronized
  subst hsz
  have hD := hD0.self (sz := s.heap.size)
  generalize hAe : va_A (w_X1_turnRound h0 h_bytes cy c_size c_at c_bytes) s.heap.size = A at hD ⊢
  have hA : ∀ q : Nat, s.heap.size ≤ q → A q := fun q h => by rw [← hAe]; exact Or.inr h
  have hS : va_S A s.heap s.heap [] := va_S.rf
  have hl := lv_entry ([.ref h0, .int v1]) (n := 2) (Nat.le_of_ble_eq_true rfl)
  rw [lg_entry_eq]
  generalize (lg_sl ([.ref h0, .int v1]) ++ List.replicate (2 - (lg_sl ([.ref h0, .int v1])).length) Slot.unset).toArray = ls at hl ⊢
  replace hl : lv_has ls 2 [(0, .ref h0), (1, .int v1)] := hl
  have inX1 : ∀ w ∈ u_ws RX1 TX1 3, w ∈ wsX1_turnRound := fun w h => List.mem_cons_of_mem _ (inlX1 w h)
  clear hAe hD0 B
  unfold wp_X1_turnRound at hw
  generalize hQe : MQ below _ _ s _ _ _ = Q0
  generalize ([.ref h0, .int v1] : List Value).toArray = av at *
  obtain ⟨H, hH⟩ : ∃ H, H = s.heap := ⟨_, rfl⟩
  obtain ⟨locs, hlo⟩ : ∃ L : List Loc, L = [] := ⟨_, rfl⟩
  replace hP : va_P (dC, dI) vwCl (w_X1_turnRound h0 h_bytes cy c_size c_at c_bytes) H := by rw [hH]; exact hP
  replace hS : va_S A s.heap H locs := by rw [hH, hlo]; exact hS
  suffices hgo : W p l e ({ frames := 0, cells := 0, slots := 0, locals := 0 }) s m av below meth c H locs 0 0 Q0 (F0 m 0 ls []) by rw [hH, hlo] at hgo; exact hgo
  clear hH hlo
  refine lv_iload_n hx hb dX1_turnRound_0 rfl (lv_at hl 1 rfl) ?_
  refine lv_if_lt (tgt := 36) hx hb dX1_turnRound_1 (by decide) (fun c1 => ?_) (fun c1 => ?_)
  · replace hw := hw.1 c1
    subst hQe
    exact W.vret hx hb hr (fun t ht hW => ⟨⟨c_bytes, rfl, hw, by rw [ht]; exact hP, va_K.moved hW.alike hK, hD⟩, hS.F ht⟩) hS.2.2 dX1_turnRound_36
  · replace hw := hw.2 c1
    refine lv_iload_n hx hb dX1_turnRound_4 rfl (lv_at hl 1 rfl) ?_
    refine lv_bipush (v := 8) hx hb dX1_turnRound_5 (by decide) ?_
    refine lv_aload_n hx hb dX1_turnRound_7 rfl (lv_at hl 0 rfl) ?_
    refine va_get (D := (dC, dI)) (ci := 1) (v := .int c_size) (C := RX1) (T := TX1) (N := 3) hx hb hts inX1 hown hK hP 0 rfl rfl 1 (by decide) (hts _ (List.mem_cons_of_mem _ mw_96)) (fun _ h9 => h9) rfl dX1_turnRound_8 ?_
    refine lv_imul hx hb dX1_turnRound_11 ?_
    refine lv_icmp_ge (tgt := 36) hx hb dX1_turnRound_12 (by decide) (fun c2 => ?_) (fun c2 => ?_)
    · replace hw := hw.1 c2
      subst hQe
      exact W.vret hx hb hr (fun t ht hW => ⟨⟨c_bytes, rfl, hw, by rw [ht]; exact hP, va_K.moved hW.alike hK, hD⟩, hS.F ht⟩) hS.2.2 dX1_turnRound_36
    · replace hw := hw.2 c2
      refine lv_aload_n hx hb dX1_turnRound_15 rfl (lv_at hl 0 rfl) ?_
      refine va_get (D := (dC, dI)) (ci := 1) (v := .ref h_bytes) (C := RX1) (T := TX1) (N := 3) hx hb hts inX1 hown hK hP 0 rfl rfl 0 (by decide) (hts _ (List.mem_cons_of_mem _ mw_95)) (fun _ h9 => h9) rfl dX1_turnRound_16 ?_
      refine lv_iload_n hx hb dX1_turnRound_19 rfl (lv_at hl 1 rfl) ?_
      refine lv_bipush (v := 8) hx hb dX1_turnRound_20 (by decide) ?_
      refine lv_idiv hx hb dX1_turnRound_22 (by decide) ?_
      refine lv_topi (fun x3 e_x3 => ?_)
      replace hw := hw x3 e_x3
      clear e_x3
      refine lv_dup2_11 hx hb dX1_turnRound_23 rfl rfl ?_
      obtain ⟨h4, hw⟩ := hw
      refine xiald (k := x3.toNatClampNeg) hx hb hK hP 1 0 rfl rfl h4 rfl dX1_turnRound_24 ?_
      refine lv_iconst (v := 1) hx hb dX1_turnRound_25 (by decide) ?_
      refine lv_bipush (v := 7) hx hb dX1_turnRound_26 (by decide) ?_
      refine lv_iload_n hx hb dX1_turnRound_28 rfl (lv_at hl 1 rfl) ?_
      refine lv_bipush (v := 8) hx hb dX1_turnRound_29 (by decide) ?_
      refine lv_irem hx hb dX1_turnRound_31 (by decide) ?_
      refine lv_topi (fun x5 e_x5 => ?_)
      replace hw := hw x5 e_x5
      clear e_x5
      refine lv_isub hx hb dX1_turnRound_32 ?_
      refine lv_ishl hx hb dX1_turnRound_33 ?_
      refine lv_ixor hx hb dX1_turnRound_34 ?_
      obtain ⟨h6, hw⟩ := hw
      refine xiast (k := x3.toNatClampNeg) hx hb hK hP hD hS 1 0 rfl rfl h6 rfl dX1_turnRound_35 ?_; clear hP hD hS; clear H locs; intro f7 e_f7 H locs hP hD hS
      replace hw := hw f7 e_f7
      clear e_f7
      replace hP : va_P (dC, dI) vwCl (w_X1_turnRound h0 h_bytes cy c_size c_at f7) H := hP
      replace hD : va_D A (w_X1_turnRound h0 h_bytes cy c_size c_at f7) := hD
      subst hQe
      exact W.vret hx hb hr (fun t ht hW => ⟨⟨f7, rfl, hw, by rw [ht]; exact hP, va_K.moved hW.alike hK, hD⟩, hS.F ht⟩) hS.2.2 dX1_turnRound_36
set_option maxHeartbeats 4000000 in
set_option maxRecDepth 100000 in
theorem c_X1_look (l : Launch) (dC : Nat → ClassId) (dI : Nat → Nat → Nat) (cy : Nat → ClassId) (h0 h_bytes : Nat) (sz : Nat) (c_size : Int32) (c_at : Int32) (c_bytes : Nat → Int32) (post : Int32 → Prop) (hw : wp_X1_look c_size c_bytes post) : Met l yX1_look wsX1_look ({ frames := 1, cells := 0, slots := 0, locals := 24 }) (PX dC dI cy [.ref h0] sz (w_X1_look h0 h_bytes cy c_size c_at c_bytes)) (va_Qi (fun (r : Int32) (u : Unit) => post r) (QX dC dI cy (va_A (w_X1_look h0 h_bytes cy c_size c_at c_bytes) sz) (fun (u : Unit) => w_X1_look h0 h_bytes cy c_size c_at c_bytes)) (va_A (w_X1_look h0 h_bytes cy c_size c_at c_bytes) sz)) 0 0 (va_A (w_X1_look h0 h_bytes cy c_size c_at c_bytes) sz) := by
  refine Met.ofW (cc := cX1_look) (maxL := 1) (ret := (some .int)) (by decide) rfl ?_
  intro p e s m args below meth c s₁ B hml hv
  obtain ⟨rfl, hsz, hP, hK, hD0, hG⟩ := hv
  have hx := B.exec
  have hb := B.bytes
  have hr := B.returns
  have hts := atoms_spec (ws := wsX1_look) B.pre
  have hown : s.vm.findClass RX1 = some m.cls := findClass_of_methodNamed B.named
  have hlocks := B.notSynchronized
  subst hsz
  have hD := hD0.self (sz := s.heap.size)
  generalize hAe : va_A (w_X1_look h0 h_bytes cy c_size c_at c_bytes) s.heap.size = A at hD ⊢
  have hA : ∀ q : Nat, s.heap.size ≤ q → A q := fun q h => by rw [← hAe]; exact Or.inr h
  have hS : va_S A s.heap s.heap [] := va_S.rf
  have hl := lv_entry ([.ref h0]) (n := 1) (Nat.le_of_ble_eq_true rfl)
  rw [lg_entry_eq]
  generalize (lg_sl ([.ref h0]) ++ List.replicate (1 - (lg_sl ([.ref h0])).length) Slot.unset).toArray = ls at hl ⊢
  replace hl : lv_has ls 1 [(0, .ref h0)] := hl
  have inX1 : ∀ w ∈ u_ws RX1 TX1 3, w ∈ wsX1_look := fun w h => List.mem_cons_of_mem _ (inlX1 w h)
  clear hAe hD0 B
  unfold wp_X1_look at hw
  generalize hQe : MQ below _ _ s _ _ _ = Q0
  generalize ([.ref h0] : List Value).toArray = av at *
  obtain ⟨H, hH⟩ : ∃ H, H = s.heap := ⟨_, rfl⟩
  obtain ⟨locs, hlo⟩ : ∃ L : List Loc, L = [] := ⟨_, rfl⟩
  replace hP : va_P (dC, dI) vwCl (w_X1_look h0 h_bytes cy c_size c_at c_bytes) H := by rw [hH]; exact hP
  replace hS : va_S A s.heap H locs := by rw [hH, hlo]; exact hS
  suffices hgo : W p l e ({ frames := 1, cells := 0, slots := 0, locals := 24 }) s m av below meth c H locs 0 0 Q0 (F0 m 0 ls []) by rw [hH, hlo] at hgo; exact hgo
  clear hH hlo
  refine lv_aload_n hx hb dX1_look_0 rfl (lv_at hl 0 rfl) ?_
  refine va_get (D := (dC, dI)) (ci := 1) (v := .ref h_bytes) (C := RX1) (T := TX1) (N := 3) hx hb hts inX1 hown hK hP 0 rfl rfl 0 (by decide) (hts _ (List.mem_cons_of_mem _ mw_95)) (fun _ h9 => h9) rfl dX1_look_1 ?_
  refine lv_iconst (v := 0) hx hb dX1_look_4 (by decide) ?_
  refine xiald (k := 0) hx hb hK hP 1 0 rfl rfl (vpL 0 80 rfl) (by decide) dX1_look_5 ?_
  refine lv_sipush (v := 156) hx hb dX1_look_6 (by decide) ?_
  refine lv_icmp_eq (tgt := 14) hx hb dX1_look_9 (by decide) (fun c2 => ?_) (fun c2 => ?_)
  · replace hw := hw.1 c2
    refine lv_aload_n hx hb dX1_look_14 rfl (lv_at hl 0 rfl) ?_
    refine va_get (D := (dC, dI)) (ci := 1) (v := .ref h_bytes) (C := RX1) (T := TX1) (N := 3) hx hb hts inX1 hown hK hP 0 rfl rfl 0 (by decide) (hts _ (List.mem_cons_of_mem _ mw_95)) (fun _ h9 => h9) rfl dX1_look_15 ?_
    refine lv_iconst (v := 3) hx hb dX1_look_18 (by decide) ?_
    refine xiald (k := 3) hx hb hK hP 1 0 rfl rfl (vpL 3 80 rfl) (by decide) dX1_look_19 ?_
    refine lv_aload_n hx hb dX1_look_20 rfl (lv_at hl 0 rfl) ?_
    have hPc := pSub (ws' := (w_X1_check h0 h_bytes cy c_size c_at c_bytes)) hP [0, 1] rfl
    have hDc := dSub (ws' := (w_X1_check h0 h_bytes cy c_size c_at c_bytes)) hD [0, 1] (by decide) rfl
    have hFc := va_free (wc := (w_X1_check h0 h_bytes cy c_size c_at c_bytes)) hD hS hA [0, 1] rfl
    refine va_calli (va_runV (As := []) (rest := [.int (c_bytes 3)]) ⟨hx, hb, hml, hown, hts⟩ (c_X1_check l dC dI cy h0 h_bytes H.size c_size c_at c_bytes _ hw) (cwV 0 hts (goodV mw_375 mw_372 mw_373 mw_374 mw_24) rfl rfl rfl (by decide +kernel) ⟨Nat.le_of_ble_eq_true rfl, Nat.le_of_ble_eq_true rfl⟩) ⟨PX_blind, va_recv hK hPc (ci := 1) (q0 := 0) rfl rfl, PX_pre hPc hK hDc hG⟩ rfl rfl hl.1 rfl (lv_room (Nat.le_of_ble_eq_true rfl)) dX1_look_21 ⟨Nat.zero_le _, Nat.zero_le _⟩) hS (fun q _ h => hFc q h) hFc ?_; clear hw hS; intro r4 _ t H1 locs1 ht hvm hw hB hz1 hk1 hS
    obtain ⟨hP1, -, -⟩ := hB
    rw [ht] at hP1
    replace hP := jC0 hP hD [0, 1] [] rfl hk1 hP1 (w_X1_look h0 h_bytes cy c_size c_at c_bytes) rfl rfl rfl 2 rfl (by decide +kernel); clear hD; obtain ⟨hP, hD⟩ := hP
    replace hP : va_P (dC, dI) vwCl (w_X1_look h0 h_bytes cy c_size c_at c_bytes) H1 := hP
    replace hD : va_D A (w_X1_look h0 h_bytes cy c_size c_at c_bytes) := hD
    clear hPc hDc hFc hP1 hk1 hz1 hvm ht; clear t; clear H locs; obtain ⟨H, hH⟩ : ∃ H, H = H1 := ⟨_, rfl⟩; obtain ⟨locs, hlo⟩ : ∃ L, L = locs1 := ⟨_, rfl⟩; subst hH; subst hlo
    refine W.widen (k := 0) (n := 0) (Nat.le_refl 0) (Nat.le_refl 0) ?_
    refine lv_icmp_ne (tgt := 31) hx hb dX1_look_24 (by decide) (fun c5 => ?_) (fun c5 => ?_)
    · replace hw := hw.2 c5
      refine lv_iconst (v := 1) hx hb dX1_look_31 (by decide) ?_
      subst hQe
      exact W.iret (v := (1 : Int32)) hx hb hr (fun t ht hW => ⟨⟨(1 : Int32), (), rfl, hw, by rw [ht]; exact hP, va_K.moved hW.alike hK, hD⟩, hS.F ht⟩) hS.2.2 dX1_look_32
    · replace hw := hw.1 c5
      refine lv_iconst (v := 2) hx hb dX1_look_27 (by decide) ?_
      refine lv_goto (tgt := 32) hx hb dX1_look_28 (by decide) ?_
      subst hQe
      exact W.iret (v := (2 : Int32)) hx hb hr (fun t ht hW => ⟨⟨(2 : Int32), (), rfl, hw, by rw [ht]; exact hP, va_K.moved hW.alike hK, hD⟩, hS.F ht⟩) hS.2.2 dX1_look_32
  · replace hw := hw.2 c2
    refine lv_iconst (v := 0) hx hb dX1_look_12 (by decide) ?_
    subst hQe
    exact W.iret (v := (0 : Int32)) hx hb hr (fun t ht hW => ⟨⟨(0 : Int32), (), rfl, hw, by rw [ht]; exact hP, va_K.moved hW.alike hK, hD⟩, hS.F ht⟩) hS.2.2 dX1_look_13
set_option maxHeartbeats 4000000 in
set_option maxRecDepth 100000 in
theorem c_X9_clear (l : Launch) (dC : Nat → ClassId) (dI : Nat → Nat → Nat) (cy : Nat → ClassId) (h0 h_memoriesA h_memoriesB h_row h_next : Nat) (sz : Nat) (c_memoriesA : Nat → Int32) (c_memoriesB : Nat → Int32) (post : (Nat → Int32) → (Nat → Int32) → Prop) (hw : wp_X9_clear c_memoriesA c_memoriesB post) : Met l yX9_clear wsX9_clear ({ frames := 1, cells := 0, slots := 0, locals := 23 }) (PX dC dI cy [.ref h0] sz (w_X9_clear h0 h_memoriesA h_memoriesB h_row h_next cy c_memoriesA c_memoriesB)) (va_Qv (fun (u : (Nat → Int32) × (Nat → Int32)) => post u.1 u.2) (QX dC dI cy (va_A (w_X9_clear h0 h_memoriesA h_memoriesB h_row h_next cy c_memoriesA c_memoriesB) sz) (fun (u : (Nat → Int32) × (Nat → Int32)) => w_X9_clear h0 h_memoriesA h_memoriesB h_row h_next cy u.1 u.2)) (va_A (w_X9_clear h0 h_memoriesA h_memoriesB h_row h_next cy c_memoriesA c_memoriesB) sz)) 0 0 (va_A (w_X9_clear h0 h_memoriesA h_memoriesB h_row h_next cy c_memoriesA c_memoriesB) sz) := by
  refine Met.ofW (cc := cX9_clear) (maxL := 1) (ret := none) (by decide) rfl ?_
  intro p e s m args below meth c s₁ B hml hv
  obtain ⟨rfl, hsz, hP, hK, hD0, hG⟩ := hv
  have hx := B.exec
  have hb := B.bytes
  have hr := B.returns
  have hts := atoms_spec (ws := wsX9_clear) B.pre
  have hown : s.vm.findClass RX9 = some m.cls := findClass_of_methodNamed B.named
  have hlocks := B.notSynchronized
  subst hsz
  have hD := hD0.self (sz := s.heap.size)
  generalize hAe : va_A (w_X9_clear h0 h_memoriesA h_memoriesB h_row h_next cy c_memoriesA c_memoriesB) s.heap.size = A at hD ⊢
  have hA : ∀ q : Nat, s.heap.size ≤ q → A q := fun q h => by rw [← hAe]; exact Or.inr h
  have hS : va_S A s.heap s.heap [] := va_S.rf
  have hl := lv_entry ([.ref h0]) (n := 1) (Nat.le_of_ble_eq_true rfl)
  rw [lg_entry_eq]
  generalize (lg_sl ([.ref h0]) ++ List.replicate (1 - (lg_sl ([.ref h0])).length) Slot.unset).toArray = ls at hl ⊢
  replace hl : lv_has ls 1 [(0, .ref h0)] := hl
  have inX9 : ∀ w ∈ u_ws RX9 TX9 4, w ∈ wsX9_clear := fun w h => List.mem_cons_of_mem _ (inlX9 w h)
  clear hAe hD0 B
  unfold wp_X9_clear at hw
  generalize hQe : MQ below _ _ s _ _ _ = Q0
  generalize ([.ref h0] : List Value).toArray = av at *
  obtain ⟨H, hH⟩ : ∃ H, H = s.heap := ⟨_, rfl⟩
  obtain ⟨locs, hlo⟩ : ∃ L : List Loc, L = [] := ⟨_, rfl⟩
  replace hP : va_P (dC, dI) vwCl (w_X9_clear h0 h_memoriesA h_memoriesB h_row h_next cy c_memoriesA c_memoriesB) H := by rw [hH]; exact hP
  replace hS : va_S A s.heap H locs := by rw [hH, hlo]; exact hS
  suffices hgo : W p l e ({ frames := 1, cells := 0, slots := 0, locals := 23 }) s m av below meth c H locs 0 0 Q0 (F0 m 0 ls []) by rw [hH, hlo] at hgo; exact hgo
  clear hH hlo
  refine lv_aload_n hx hb dX9_clear_0 rfl (lv_at hl 0 rfl) ?_
  refine va_get (D := (dC, dI)) (ci := 9) (v := .ref h_memoriesA) (C := RX9) (T := TX9) (N := 4) hx hb hts inX9 hown hK hP 0 rfl rfl 0 (by decide) (hts _ (List.mem_cons_of_mem _ mw_113)) (fun _ h9 => h9) rfl dX9_clear_1 ?_
  refine lv_iconst (v := 0) hx hb dX9_clear_4 (by decide) ?_
  have hPc := pSub (ws' := (w_J7_fill_53178 h_memoriesA cy 7 c_memoriesA)) hP [1] rfl
  have hDc := dSub (ws' := (w_J7_fill_53178 h_memoriesA cy 7 c_memoriesA)) hD [1] (by decide) rfl
  have hFc := va_free (wc := (w_J7_fill_53178 h_memoriesA cy 7 c_memoriesA)) hD hS hA [1] rfl
  refine va_callv (va_runS (As := [.ref h_memoriesA, .int (0 : Int32)]) (rest := []) ⟨hx, hb, hml, hown, hts⟩ (c_J7_fill_53178 l dC dI cy h_memoriesA 7 H.size (0 : Int32) c_memoriesA _ hw) (va_cwS 2 hts (goodS mw_356 mw_820 mw_354 mw_355) rfl rfl rfl (by decide +kernel) ⟨Nat.le_of_ble_eq_true rfl, Nat.le_of_ble_eq_true rfl⟩) ⟨PX_blind, PX_pre hPc hK hDc hG⟩ rfl rfl hl.1 rfl (lv_room (Nat.le_of_ble_eq_true rfl)) dX9_clear_5 ⟨Nat.zero_le _, Nat.zero_le _⟩) hS (fun q _ h => hFc q h) hFc ?_; clear hw hS; intro f1 t H1 locs1 ht hvm hw hB hz1 hk1 hS
  obtain ⟨hP1, -, -⟩ := hB
  rw [ht] at hP1
  replace hP := jC0 hP hD [1] [0, 2] rfl hk1 hP1 (w_X9_clear h0 h_memoriesA h_memoriesB h_row h_next cy f1 c_memoriesB) rfl rfl rfl 3 rfl (by decide +kernel); clear hD; obtain ⟨hP, hD⟩ := hP
  replace hP : va_P (dC, dI) vwCl (w_X9_clear h0 h_memoriesA h_memoriesB h_row h_next cy f1 c_memoriesB) H1 := hP
  replace hD : va_D A (w_X9_clear h0 h_memoriesA h_memoriesB h_row h_next cy f1 c_memoriesB) := hD
  clear hPc hDc hFc hP1 hk1 hz1 hvm ht; clear t; clear H locs; obtain ⟨H, hH⟩ : ∃ H, H = H1 := ⟨_, rfl⟩; obtain ⟨locs, hlo⟩ : ∃ L, L = locs1 := ⟨_, rfl⟩; subst hH; subst hlo
  refine W.widen (k := 0) (n := 0) (Nat.le_refl 0) (Nat.le_refl 0) ?_
  refine lv_aload_n hx hb dX9_clear_8 rfl (lv_at hl 0 rfl) ?_
  refine va_get (D := (dC, dI)) (ci := 9) (v := .ref h_memoriesB) (C := RX9) (T := TX9) (N := 4) hx hb hts inX9 hown hK hP 0 rfl rfl 1 (by decide) (hts _ (List.mem_cons_of_mem _ mw_114)) (fun _ h9 => h9) rfl dX9_clear_9 ?_
  refine lv_iconst (v := 0) hx hb dX9_clear_12 (by decide) ?_
  have hPc := pSub (ws' := (w_J7_fill_53178 h_memoriesB cy 7 c_memoriesB)) hP [2] rfl
  have hDc := dSub (ws' := (w_J7_fill_53178 h_memoriesB cy 7 c_memoriesB)) hD [2] (by decide) rfl
  have hFc := va_free (wc := (w_J7_fill_53178 h_memoriesB cy 7 c_memoriesB)) hD hS hA [2] rfl
  refine va_callv (va_runS (As := [.ref h_memoriesB, .int (0 : Int32)]) (rest := []) ⟨hx, hb, hml, hown, hts⟩ (c_J7_fill_53178 l dC dI cy h_memoriesB 7 H.size (0 : Int32) c_memoriesB _ hw) (va_cwS 2 hts (goodS mw_356 mw_820 mw_354 mw_355) rfl rfl rfl (by decide +kernel) ⟨Nat.le_of_ble_eq_true rfl, Nat.le_of_ble_eq_true rfl⟩) ⟨PX_blind, PX_pre hPc hK hDc hG⟩ rfl rfl hl.1 rfl (lv_room (Nat.le_of_ble_eq_true rfl)) dX9_clear_13 ⟨Nat.zero_le _, Nat.zero_le _⟩) hS (fun q _ h => hFc q h) hFc ?_; clear hw hS; intro f2 t H1 locs1 ht hvm hw hB hz1 hk1 hS
  obtain ⟨hP1, -, -⟩ := hB
  rw [ht] at hP1
  replace hP := jC0 hP hD [2] [0, 1] rfl hk1 hP1 (w_X9_clear h0 h_memoriesA h_memoriesB h_row h_next cy f1 f2) rfl rfl rfl 3 rfl (by decide +kernel); clear hD; obtain ⟨hP, hD⟩ := hP
  replace hP : va_P (dC, dI) vwCl (w_X9_clear h0 h_memoriesA h_memoriesB h_row h_next cy f1 f2) H1 := hP
  replace hD : va_D A (w_X9_clear h0 h_memoriesA h_memoriesB h_row h_next cy f1 f2) := hD
  clear hPc hDc hFc hP1 hk1 hz1 hvm ht; clear t; clear H locs; obtain ⟨H, hH⟩ : ∃ H, H = H1 := ⟨_, rfl⟩; obtain ⟨locs, hlo⟩ : ∃ L, L = locs1 := ⟨_, rfl⟩; subst hH; subst hlo
  refine W.widen (k := 0) (n := 0) (Nat.le_refl 0) (Nat.le_refl 0) ?_
  subst hQe
  exact W.vret hx hb hr (fun t ht hW => ⟨⟨(f1, f2), rfl, hw, by rw [ht]; exact hP, va_K.moved hW.alike hK, hD⟩, hS.F ht⟩) hS.2.2 dX9_clear_16
set_option maxHeartbeats 4000000 in
set_option maxRecDepth 100000 in
theorem c_X2_clear (l : Launch) (dC : Nat → ClassId) (dI : Nat → Nat → Nat) (cy : Nat → ClassId) (h0 h_numbers h_trees h_samples h_frame h_code h_trees_0 h_trees_1 h_trees_0_memoriesA h_trees_0_memoriesB h_trees_0_row h_trees_0_next h_trees_1_memoriesA h_trees_1_memoriesB h_trees_1_row h_trees_1_next : Nat) (sz : Nat) (c_trees_0_memoriesA : Nat → Int32) (c_trees_0_memoriesB : Nat → Int32) (c_trees_1_memoriesA : Nat → Int32) (c_trees_1_memoriesB : Nat → Int32) (post : (Nat → Int32) → (Nat → Int32) → (Nat → Int32) → (Nat → Int32) → Prop) (hw : wp_X2_clear c_trees_0_memoriesA c_trees_0_memoriesB c_trees_1_memoriesA c_trees_1_memoriesB post) : Met l yX2_clear wsX2_clear ({ frames := 2, cells := 0, slots := 0, locals := 43 }) (PX dC dI cy [.ref h0] sz (w_X2_clear h0 h_numbers h_trees h_samples h_frame h_code h_trees_0 h_trees_1 h_trees_0_memoriesA h_trees_0_memoriesB h_trees_0_row h_trees_0_next h_trees_1_memoriesA h_trees_1_memoriesB h_trees_1_row h_trees_1_next cy c_trees_0_memoriesA c_trees_0_memoriesB c_trees_1_memoriesA c_trees_1_memoriesB)) (va_Qv (fun (u : (Nat → Int32) × (Nat → Int32) × (Nat → Int32) × (Nat → Int32)) => post u.1 u.2.1 u.2.2.1 u.2.2.2) (QX dC dI cy (va_A (w_X2_clear h0 h_numbers h_trees h_samples h_frame h_code h_trees_0 h_trees_1 h_trees_0_memoriesA h_trees_0_memoriesB h_trees_0_row h_trees_0_next h_trees_1_memoriesA h_trees_1_memoriesB h_trees_1_row h_trees_1_next cy c_trees_0_memoriesA c_trees_0_memoriesB c_trees_1_memoriesA c_trees_1_memoriesB) sz) (fun (u : (Nat → Int32) × (Nat → Int32) × (Nat → Int32) × (Nat → Int32)) => w_X2_clear h0 h_numbers h_trees h_samples h_frame h_code h_trees_0 h_trees_1 h_trees_0_memoriesA h_trees_0_memoriesB h_trees_0_row h_trees_0_next h_trees_1_memoriesA h_trees_1_memoriesB h_trees_1_row h_trees_1_next cy u.1 u.2.1 u.2.2.1 u.2.2.2)) (va_A (w_X2_clear h0 h_numbers h_trees h_samples h_frame h_code h_trees_0 h_trees_1 h_trees_0_memoriesA h_trees_0_memoriesB h_trees_0_row h_trees_0_next h_trees_1_memoriesA h_trees_1_memoriesB h_trees_1_row h_trees_1_next cy c_trees_0_memoriesA c_trees_0_memoriesB c_trees_1_memoriesA c_trees_1_memoriesB) sz)) 0 0 (va_A (w_X2_clear h0 h_numbers h_trees h_samples h_frame h_code h_trees_0 h_trees_1 h_trees_0_memoriesA h_trees_0_memoriesB h_trees_0_row h_trees_0_next h_trees_1_memoriesA h_trees_1_memoriesB h_trees_1_row h_trees_1_next cy c_trees_0_memoriesA c_trees_0_memoriesB c_trees_1_memoriesA c_trees_1_memoriesB) sz) := by
  refine Met.ofW (cc := cX2_clear) (maxL := 1) (ret := none) (by decide) rfl ?_
  intro p e s m args below meth c s₁ B hml hv
  obtain ⟨rfl, hsz, hP, hK, hD0, hG⟩ := hv
  have hx := B.exec
  have hb := B.bytes
  have hr := B.returns
  have hts := atoms_spec (ws := wsX2_clear) B.pre
  have hown : s.vm.findClass RX2 = some m.cls := findClass_of_methodNamed B.named
  have hlocks := B.notSynchronized
  subst hsz
  have hD := hD0.self (sz := s.heap.size)
  generalize hAe : va_A (w_X2_clear h0 h_numbers h_trees h_samples h_frame h_code h_trees_0 h_trees_1 h_trees_0_memoriesA h_trees_0_memoriesB h_trees_0_row h_trees_0_next h_trees_1_memoriesA h_trees_1_memoriesB h_trees_1_row h_trees_1_next cy c_trees_0_memoriesA c_trees_0_memoriesB c_trees_1_memoriesA c_trees_1_memoriesB) s.heap.size = A at hD ⊢
  have hA : ∀ q : Nat, s.heap.size ≤ q → A q := fun q h => by rw [← hAe]; exact Or.inr h
  have hS : va_S A s.heap s.heap [] := va_S.rf
  have hl := lv_entry ([.ref h0]) (n := 1) (Nat.le_of_ble_eq_true rfl)
  rw [lg_entry_eq]
  generalize (lg_sl ([.ref h0]) ++ List.replicate (1 - (lg_sl ([.ref h0])).length) Slot.unset).toArray = ls at hl ⊢
  replace hl : lv_has ls 1 [(0, .ref h0)] := hl
  have inX2 : ∀ w ∈ u_ws RX2 TX2 5, w ∈ wsX2_clear := fun w h => List.mem_cons_of_mem _ (inlX2 w h)
  clear hAe hD0 B
  unfold wp_X2_clear at hw
  generalize hQe : MQ below _ _ s _ _ _ = Q0
  generalize ([.ref h0] : List Value).toArray = av at *
  obtain ⟨H, hH⟩ : ∃ H, H = s.heap := ⟨_, rfl⟩
  obtain ⟨locs, hlo⟩ : ∃ L : List Loc, L = [] := ⟨_, rfl⟩
  replace hP : va_P (dC, dI) vwCl (w_X2_clear h0 h_numbers h_trees h_samples h_frame h_code h_trees_0 h_trees_1 h_trees_0_memoriesA h_trees_0_memoriesB h_trees_0_row h_trees_0_next h_trees_1_memoriesA h_trees_1_memoriesB h_trees_1_row h_trees_1_next cy c_trees_0_memoriesA c_trees_0_memoriesB c_trees_1_memoriesA c_trees_1_memoriesB) H := by rw [hH]; exact hP
  replace hS : va_S A s.heap H locs := by rw [hH, hlo]; exact hS
  suffices hgo : W p l e ({ frames := 2, cells := 0, slots := 0, locals := 43 }) s m av below meth c H locs 0 0 Q0 (F0 m 0 ls []) by rw [hH, hlo] at hgo; exact hgo
  clear hH hlo
  refine lv_aload_n hx hb dX2_clear_0 rfl (lv_at hl 0 rfl) ?_
  refine va_get (D := (dC, dI)) (ci := 2) (v := .ref h_trees) (C := RX2) (T := TX2) (N := 5) hx hb hts inX2 hown hK hP 0 rfl rfl 1 (by decide) (hts _ (List.mem_cons_of_mem _ mw_103)) (fun _ h9 => h9) rfl dX2_clear_1 ?_
  refine lv_iconst (v := 0) hx hb dX2_clear_4 (by decide) ?_
  refine xald0 hx hb hK hP 1 2 rfl rfl dX2_clear_5 ?_
  have hPc := pSub (ws' := (w_X9_clear h_trees_0 h_trees_0_memoriesA h_trees_0_memoriesB h_trees_0_row h_trees_0_next cy c_trees_0_memoriesA c_trees_0_memoriesB)) hP [2, 3, 4] rfl
  have hDc := dSub (ws' := (w_X9_clear h_trees_0 h_trees_0_memoriesA h_trees_0_memoriesB h_trees_0_row h_trees_0_next cy c_trees_0_memoriesA c_trees_0_memoriesB)) hD [2, 3, 4] (by decide) rfl
  have hFc := va_free (wc := (w_X9_clear h_trees_0 h_trees_0_memoriesA h_trees_0_memoriesB h_trees_0_row h_trees_0_next cy c_trees_0_memoriesA c_trees_0_memoriesB)) hD hS hA [2, 3, 4] rfl
  refine va_callv (va_runV (As := []) (rest := []) ⟨hx, hb, hml, hown, hts⟩ (c_X9_clear l dC dI cy h_trees_0 h_trees_0_memoriesA h_trees_0_memoriesB h_trees_0_row h_trees_0_next H.size c_trees_0_memoriesA c_trees_0_memoriesB _ hw) (cwV 0 hts (goodV mw_819 mw_816 mw_817 mw_818 mw_28) rfl rfl rfl (by decide +kernel) ⟨Nat.le_of_ble_eq_true rfl, Nat.le_of_ble_eq_true rfl⟩) ⟨PX_blind, va_recv hK hPc (ci := 9) (q0 := 0) rfl rfl, PX_pre hPc hK hDc hG⟩ rfl rfl hl.1 rfl (lv_room (Nat.le_of_ble_eq_true rfl)) dX2_clear_6 ⟨Nat.zero_le _, Nat.zero_le _⟩) hS (fun q _ h => hFc q h) hFc ?_; clear hw hS; intro u t H1 locs1 ht hvm hw hB hz1 hk1 hS
  obtain ⟨f1, f2⟩ := u
  obtain ⟨hP1, -, -⟩ := hB
  rw [ht] at hP1
  replace hP := jC0 hP hD [2, 3, 4] [0, 1, 5, 6, 7] rfl hk1 hP1 (w_X2_clear h0 h_numbers h_trees h_samples h_frame h_code h_trees_0 h_trees_1 h_trees_0_memoriesA h_trees_0_memoriesB h_trees_0_row h_trees_0_next h_trees_1_memoriesA h_trees_1_memoriesB h_trees_1_row h_trees_1_next cy f1 f2 c_trees_1_memoriesA c_trees_1_memoriesB) rfl rfl rfl 8 rfl (by decide +kernel); clear hD; obtain ⟨hP, hD⟩ := hP
  replace hP : va_P (dC, dI) vwCl (w_X2_clear h0 h_numbers h_trees h_samples h_frame h_code h_trees_0 h_trees_1 h_trees_0_memoriesA h_trees_0_memoriesB h_trees_0_row h_trees_0_next h_trees_1_memoriesA h_trees_1_memoriesB h_trees_1_row h_trees_1_next cy f1 f2 c_trees_1_memoriesA c_trees_1_memoriesB) H1 := hP
  replace hD : va_D A (w_X2_clear h0 h_numbers h_trees h_samples h_frame h_code h_trees_0 h_trees_1 h_trees_0_memoriesA h_trees_0_memoriesB h_trees_0_row h_trees_0_next h_trees_1_memoriesA h_trees_1_memoriesB h_trees_1_row h_trees_1_next cy f1 f2 c_trees_1_memoriesA c_trees_1_memoriesB) := hD
  clear hPc hDc hFc hP1 hk1 hz1 hvm ht; clear t; clear H locs; obtain ⟨H, hH⟩ : ∃ H, H = H1 := ⟨_, rfl⟩; obtain ⟨locs, hlo⟩ : ∃ L, L = locs1 := ⟨_, rfl⟩; subst hH; subst hlo
  refine W.widen (k := 0) (n := 0) (Nat.le_refl 0) (Nat.le_refl 0) ?_
  refine lv_aload_n hx hb dX2_clear_9 rfl (lv_at hl 0 rfl) ?_
  refine va_get (D := (dC, dI)) (ci := 2) (v := .ref h_trees) (C := RX2) (T := TX2) (N := 5) hx hb hts inX2 hown hK hP 0 rfl rfl 1 (by decide) (hts _ (List.mem_cons_of_mem _ mw_103)) (fun _ h9 => h9) rfl dX2_clear_10 ?_
  refine lv_iconst (v := 1) hx hb dX2_clear_13 (by decide) ?_
  refine xald1 hx hb hK hP 1 2 rfl rfl dX2_clear_14 ?_
  have hPc := pSub (ws' := (w_X9_clear h_trees_1 h_trees_1_memoriesA h_trees_1_memoriesB h_trees_1_row h_trees_1_next cy c_trees_1_memoriesA c_trees_1_memoriesB)) hP [5, 6, 7] rfl
  have hDc := dSub (ws' := (w_X9_clear h_trees_1 h_trees_1_memoriesA h_trees_1_memoriesB h_trees_1_row h_trees_1_next cy c_trees_1_memoriesA c_trees_1_memoriesB)) hD [5, 6, 7] (by decide) rfl
  have hFc := va_free (wc := (w_X9_clear h_trees_1 h_trees_1_memoriesA h_trees_1_memoriesB h_trees_1_row h_trees_1_next cy c_trees_1_memoriesA c_trees_1_memoriesB)) hD hS hA [5, 6, 7] rfl
  refine va_callv (va_runV (As := []) (rest := []) ⟨hx, hb, hml, hown, hts⟩ (c_X9_clear l dC dI cy h_trees_1 h_trees_1_memoriesA h_trees_1_memoriesB h_trees_1_row h_trees_1_next H.size c_trees_1_memoriesA c_trees_1_memoriesB _ hw) (cwV 0 hts (goodV mw_819 mw_816 mw_817 mw_818 mw_28) rfl rfl rfl (by decide +kernel) ⟨Nat.le_of_ble_eq_true rfl, Nat.le_of_ble_eq_true rfl⟩) ⟨PX_blind, va_recv hK hPc (ci := 9) (q0 := 0) rfl rfl, PX_pre hPc hK hDc hG⟩ rfl rfl hl.1 rfl (lv_room (Nat.le_of_ble_eq_true rfl)) dX2_clear_15 ⟨Nat.zero_le _, Nat.zero_le _⟩) hS (fun q _ h => hFc q h) hFc ?_; clear hw hS; intro u t H1 locs1 ht hvm hw hB hz1 hk1 hS
  obtain ⟨f3, f4⟩ := u
  obtain ⟨hP1, -, -⟩ := hB
  rw [ht] at hP1
  replace hP := jC0 hP hD [5, 6, 7] [0, 1, 2, 3, 4] rfl hk1 hP1 (w_X2_clear h0 h_numbers h_trees h_samples h_frame h_code h_trees_0 h_trees_1 h_trees_0_memoriesA h_trees_0_memoriesB h_trees_0_row h_trees_0_next h_trees_1_memoriesA h_trees_1_memoriesB h_trees_1_row h_trees_1_next cy f1 f2 f3 f4) rfl rfl rfl 8 rfl (by decide +kernel); clear hD; obtain ⟨hP, hD⟩ := hP
  replace hP : va_P (dC, dI) vwCl (w_X2_clear h0 h_numbers h_trees h_samples h_frame h_code h_trees_0 h_trees_1 h_trees_0_memoriesA h_trees_0_memoriesB h_trees_0_row h_trees_0_next h_trees_1_memoriesA h_trees_1_memoriesB h_trees_1_row h_trees_1_next cy f1 f2 f3 f4) H1 := hP
  replace hD : va_D A (w_X2_clear h0 h_numbers h_trees h_samples h_frame h_code h_trees_0 h_trees_1 h_trees_0_memoriesA h_trees_0_memoriesB h_trees_0_row h_trees_0_next h_trees_1_memoriesA h_trees_1_memoriesB h_trees_1_row h_trees_1_next cy f1 f2 f3 f4) := hD
  clear hPc hDc hFc hP1 hk1 hz1 hvm ht; clear t; clear H locs; obtain ⟨H, hH⟩ : ∃ H, H = H1 := ⟨_, rfl⟩; obtain ⟨locs, hlo⟩ : ∃ L, L = locs1 := ⟨_, rfl⟩; subst hH; subst hlo
  refine W.widen (k := 0) (n := 0) (Nat.le_refl 0) (Nat.le_refl 0) ?_
  subst hQe
  exact W.vret hx hb hr (fun t ht hW => ⟨⟨(f1, f2, f3, f4), rfl, hw, by rw [ht]; exact hP, va_K.moved hW.alike hK, hD⟩, hS.F ht⟩) hS.2.2 dX2_clear_18
set_option maxHeartbeats 4000000 in
set_option maxRecDepth 100000 in
theorem c_X4_become (l : Launch) (dC : Nat → ClassId) (dI : Nat → Nat → Nat) (cy : Nat → ClassId) (h0 h_split h_told h_quants h_backs h_rejoined h_scales h_needs h_bits k1 k1_split k1_told k1_quants k1_backs k1_rejoined k1_scales k1_needs k1_bits : Nat) (sz : Nat) (c_twins : Int32) (c_method : Int32) (c_pool : Int32) (p1_twins : Int32) (p1_method : Int32) (p1_pool : Int32) (p1_split : Nat → Int32) (c_split : Nat → Int32) (p1_told : Nat → Int32) (c_told : Nat → Int32) (p1_quants : Nat → Int32) (c_quants : Nat → Int32) (p1_backs : Nat → Int32) (c_backs : Nat → Int32) (p1_scales : Nat → Int32) (c_scales : Nat → Int32) (p1_bits : Nat → Int32) (c_bits : Nat → Int32) (post : Int32 → Int32 → Int32 → (Nat → Int32) → (Nat → Int32) → (Nat → Int32) → (Nat → Int32) → (Nat → Int32) → (Nat → Int32) → Prop) (hw : wp_X4_become c_twins c_method c_pool p1_twins p1_method p1_pool p1_split c_split p1_told c_told p1_quants c_quants p1_backs c_backs p1_scales c_scales p1_bits c_bits post) : Met l yX4_become wsX4_become ({ frames := 1, cells := 0, slots := 0, locals := 40 }) (PX dC dI cy [.ref h0, .ref k1] sz (w_X4_become h0 h_split h_told h_quants h_backs h_rejoined h_scales h_needs h_bits k1 k1_split k1_told k1_quants k1_backs k1_rejoined k1_scales k1_needs k1_bits cy c_twins c_method c_pool p1_twins p1_method p1_pool p1_split c_split p1_told c_told p1_quants c_quants p1_backs c_backs p1_scales c_scales p1_bits c_bits)) (va_Qv (fun (u : Int32 × Int32 × Int32 × (Nat → Int32) × (Nat → Int32) × (Nat → Int32) × (Nat → Int32) × (Nat → Int32) × (Nat → Int32)) => post u.1 u.2.1 u.2.2.1 u.2.2.2.1 u.2.2.2.2.1 u.2.2.2.2.2.1 u.2.2.2.2.2.2.1 u.2.2.2.2.2.2.2.1 u.2.2.2.2.2.2.2.2) (QX dC dI cy (va_A (w_X4_become h0 h_split h_told h_quants h_backs h_rejoined h_scales h_needs h_bits k1 k1_split k1_told k1_quants k1_backs k1_rejoined k1_scales k1_needs k1_bits cy c_twins c_method c_pool p1_twins p1_method p1_pool p1_split c_split p1_told c_told p1_quants c_quants p1_backs c_backs p1_scales c_scales p1_bits c_bits) sz) (fun (u : Int32 × Int32 × Int32 × (Nat → Int32) × (Nat → Int32) × (Nat → Int32) × (Nat → Int32) × (Nat → Int32) × (Nat → Int32)) => w_X4_become h0 h_split h_told h_quants h_backs h_rejoined h_scales h_needs h_bits k1 k1_split k1_told k1_quants k1_backs k1_rejoined k1_scales k1_needs k1_bits cy u.1 u.2.1 u.2.2.1 p1_twins p1_method p1_pool p1_split u.2.2.2.1 p1_told u.2.2.2.2.1 p1_quants u.2.2.2.2.2.1 p1_backs u.2.2.2.2.2.2.1 p1_scales u.2.2.2.2.2.2.2.1 p1_bits u.2.2.2.2.2.2.2.2)) (va_A (w_X4_become h0 h_split h_told h_quants h_backs h_rejoined h_scales h_needs h_bits k1 k1_split k1_told k1_quants k1_backs k1_rejoined k1_scales k1_needs k1_bits cy c_twins c_method c_pool p1_twins p1_method p1_pool p1_split c_split p1_told c_told p1_quants c_quants p1_backs c_backs p1_scales c_scales p1_bits c_bits) sz)) 0 0 (va_A (w_X4_become h0 h_split h_told h_quants h_backs h_rejoined h_scales h_needs h_bits k1 k1_split k1_told k1_quants k1_backs k1_rejoined k1_scales k1_needs k1_bits cy c_twins c_method c_pool p1_twins p1_method p1_pool p1_split c_split p1_told c_told p1_quants c_quants p1_backs c_backs p1_scales c_scales p1_bits c_bits) sz) := by
  refine Met.ofW (cc := cX4_become) (maxL := 2) (ret := none) (by decide) rfl ?_
  intro p e s m args below meth c s₁ B hml hv
  obtain ⟨rfl, hsz, hP, hK, hD0, hG⟩ := hv
  have hx := B.exec
  have hb := B.bytes
  have hr := B.returns
  have hts := atoms_spec (ws := wsX4_become) B.pre
  have hown : s.vm.findClass RX4 = some m.cls := findClass_of_methodNamed B.named
  have hlocks := B.notSynchronized
  subst hsz
  have hD := hD0.self (sz := s.heap.size)
  generalize hAe : va_A (w_X4_become h0 h_split h_told h_quants h_backs h_rejoined h_scales h_needs h_bits k1 k1_split k1_told k1_quants k1_backs k1_rejoined k1_scales k1_needs k1_bits cy c_twins c_method c_pool p1_twins p1_method p1_pool p1_split c_split p1_told c_told p1_quants c_quants p1_backs c_backs p1_scales c_scales p1_bits c_bits) s.heap.size = A at hD ⊢
  have hA : ∀ q : Nat, s.heap.size ≤ q → A q := fun q h => by rw [← hAe]; exact Or.inr h
  have hS : va_S A s.heap s.heap [] := va_S.rf
  have hl := lv_entry ([.ref h0, .ref k1]) (n := 2) (Nat.le_of_ble_eq_true rfl)
  rw [lg_entry_eq]
  generalize (lg_sl ([.ref h0, .ref k1]) ++ List.replicate (2 - (lg_sl ([.ref h0, .ref k1])).length) Slot.unset).toArray = ls at hl ⊢
  replace hl : lv_has ls 2 [(0, .ref h0), (1, .ref k1)] := hl
  have inX4 : ∀ w ∈ u_ws RX4 TX4 11, w ∈ wsX4_become := fun w h => List.mem_cons_of_mem _ (inlX4 w h)
  clear hAe hD0 B
  unfold wp_X4_become at hw
  generalize hQe : MQ below _ _ s _ _ _ = Q0
  generalize ([.ref h0, .ref k1] : List Value).toArray = av at *
  obtain ⟨H, hH⟩ : ∃ H, H = s.heap := ⟨_, rfl⟩
  obtain ⟨locs, hlo⟩ : ∃ L : List Loc, L = [] := ⟨_, rfl⟩
  replace hP : va_P (dC, dI) vwCl (w_X4_become h0 h_split h_told h_quants h_backs h_rejoined h_scales h_needs h_bits k1 k1_split k1_told k1_quants k1_backs k1_rejoined k1_scales k1_needs k1_bits cy c_twins c_method c_pool p1_twins p1_method p1_pool p1_split c_split p1_told c_told p1_quants c_quants p1_backs c_backs p1_scales c_scales p1_bits c_bits) H := by rw [hH]; exact hP
  replace hS : va_S A s.heap H locs := by rw [hH, hlo]; exact hS
  suffices hgo : W p l e ({ frames := 1, cells := 0, slots := 0, locals := 40 }) s m av below meth c H locs 0 0 Q0 (F0 m 0 ls []) by rw [hH, hlo] at hgo; exact hgo
  clear hH hlo
  refine lv_aload_n hx hb dX4_become_0 rfl (lv_at hl 1 rfl) ?_
  refine va_get (D := (dC, dI)) (ci := 4) (v := .ref k1_split) (C := RX4) (T := TX4) (N := 11) hx hb hts inX4 hown hK hP 1 rfl rfl 0 (by decide) (hts _ (List.mem_cons_of_mem _ mw_120)) (fun _ h9 => h9) rfl dX4_become_1 ?_
  refine lv_iconst (v := 0) hx hb dX4_become_4 (by decide) ?_
  refine lv_aload_n hx hb dX4_become_5 rfl (lv_at hl 0 rfl) ?_
  refine va_get (D := (dC, dI)) (ci := 4) (v := .ref h_split) (C := RX4) (T := TX4) (N := 11) hx hb hts inX4 hown hK hP 0 rfl rfl 0 (by decide) (hts _ (List.mem_cons_of_mem _ mw_120)) (fun _ h9 => h9) rfl dX4_become_6 ?_
  refine lv_iconst (v := 0) hx hb dX4_become_9 (by decide) ?_
  refine lv_bipush (v := 64) hx hb dX4_become_10 (by decide) ?_
  refine xcopyi (k1 := 0) (k2 := 0) (k3 := 64) hx hb (by rw [hml]; exact hl.1.symm) hown (hts _ (List.mem_cons_of_mem _ mw_290)) (hts _ (List.mem_cons_of_mem _ mw_59)) (hts _ (List.mem_cons_of_mem _ mw_60)) (hts _ (List.mem_cons_of_mem _ mw_61)) hK hP hD hS 2 3 0 0 rfl rfl rfl rfl rfl (by decide) (by decide) (by decide) (by decide) (by decide) (fun _ _ => rfl) (Nat.le_of_ble_eq_true rfl) (Nat.le_of_ble_eq_true rfl) (by decide) (by decide) (by decide) dX4_become_12 ?_; clear hP hD hS; clear H locs; intro f1 e_f1 H locs hP hD hS
  replace hw := hw f1 e_f1
  clear e_f1
  replace hP : va_P (dC, dI) vwCl (w_X4_become h0 h_split h_told h_quants h_backs h_rejoined h_scales h_needs h_bits k1 k1_split k1_told k1_quants k1_backs k1_rejoined k1_scales k1_needs k1_bits cy c_twins c_method c_pool p1_twins p1_method p1_pool p1_split f1 p1_told c_told p1_quants c_quants p1_backs c_backs p1_scales c_scales p1_bits c_bits) H := hP
  replace hD : va_D A (w_X4_become h0 h_split h_told h_quants h_backs h_rejoined h_scales h_needs h_bits k1 k1_split k1_told k1_quants k1_backs k1_rejoined k1_scales k1_needs k1_bits cy c_twins c_method c_pool p1_twins p1_method p1_pool p1_split f1 p1_told c_told p1_quants c_quants p1_backs c_backs p1_scales c_scales p1_bits c_bits) := hD
  refine lv_aload_n hx hb dX4_become_15 rfl (lv_at hl 1 rfl) ?_
  refine va_get (D := (dC, dI)) (ci := 4) (v := .ref k1_told) (C := RX4) (T := TX4) (N := 11) hx hb hts inX4 hown hK hP 1 rfl rfl 1 (by decide) (hts _ (List.mem_cons_of_mem _ mw_121)) (fun _ h9 => h9) rfl dX4_become_16 ?_
  refine lv_iconst (v := 0) hx hb dX4_become_19 (by decide) ?_
  refine lv_aload_n hx hb dX4_become_20 rfl (lv_at hl 0 rfl) ?_
  refine va_get (D := (dC, dI)) (ci := 4) (v := .ref h_told) (C := RX4) (T := TX4) (N := 11) hx hb hts inX4 hown hK hP 0 rfl rfl 1 (by decide) (hts _ (List.mem_cons_of_mem _ mw_121)) (fun _ h9 => h9) rfl dX4_become_21 ?_
  refine lv_iconst (v := 0) hx hb dX4_become_24 (by decide) ?_
  refine lv_bipush (v := 64) hx hb dX4_become_25 (by decide) ?_
  refine xcopyi (k1 := 0) (k2 := 0) (k3 := 64) hx hb (by rw [hml]; exact hl.1.symm) hown (hts _ (List.mem_cons_of_mem _ mw_290)) (hts _ (List.mem_cons_of_mem _ mw_59)) (hts _ (List.mem_cons_of_mem _ mw_60)) (hts _ (List.mem_cons_of_mem _ mw_61)) hK hP hD hS 4 5 0 0 rfl rfl rfl rfl rfl (by decide) (by decide) (by decide) (by decide) (by decide) (fun _ _ => rfl) (Nat.le_of_ble_eq_true rfl) (Nat.le_of_ble_eq_true rfl) (by decide) (by decide) (by decide) dX4_become_27 ?_; clear hP hD hS; clear H locs; intro f2 e_f2 H locs hP hD hS
  replace hw := hw f2 e_f2
  clear e_f2
  replace hP : va_P (dC, dI) vwCl (w_X4_become h0 h_split h_told h_quants h_backs h_rejoined h_scales h_needs h_bits k1 k1_split k1_told k1_quants k1_backs k1_rejoined k1_scales k1_needs k1_bits cy c_twins c_method c_pool p1_twins p1_method p1_pool p1_split f1 p1_told f2 p1_quants c_quants p1_backs c_backs p1_scales c_scales p1_bits c_bits) H := hP
  replace hD : va_D A (w_X4_become h0 h_split h_told h_quants h_backs h_rejoined h_scales h_needs h_bits k1 k1_split k1_told k1_quants k1_backs k1_rejoined k1_scales k1_needs k1_bits cy c_twins c_method c_pool p1_twins p1_method p1_pool p1_split f1 p1_told f2 p1_quants c_quants p1_backs c_backs p1_scales c_scales p1_bits c_bits) := hD
  refine lv_aload_n hx hb dX4_become_30 rfl (lv_at hl 1 rfl) ?_
  refine va_get (D := (dC, dI)) (ci := 4) (v := .ref k1_quants) (C := RX4) (T := TX4) (N := 11) hx hb hts inX4 hown hK hP 1 rfl rfl 2 (by decide) (hts _ (List.mem_cons_of_mem _ mw_122)) (fun _ h9 => h9) rfl dX4_become_31 ?_
  refine lv_iconst (v := 0) hx hb dX4_become_34 (by decide) ?_
  refine lv_aload_n hx hb dX4_become_35 rfl (lv_at hl 0 rfl) ?_
  refine va_get (D := (dC, dI)) (ci := 4) (v := .ref h_quants) (C := RX4) (T := TX4) (N := 11) hx hb hts inX4 hown hK hP 0 rfl rfl 2 (by decide) (hts _ (List.mem_cons_of_mem _ mw_122)) (fun _ h9 => h9) rfl dX4_become_36 ?_
  refine lv_iconst (v := 0) hx hb dX4_become_39 (by decide) ?_
  refine lv_bipush (v := 64) hx hb dX4_become_40 (by decide) ?_
  refine xcopyi (k1 := 0) (k2 := 0) (k3 := 64) hx hb (by rw [hml]; exact hl.1.symm) hown (hts _ (List.mem_cons_of_mem _ mw_290)) (hts _ (List.mem_cons_of_mem _ mw_59)) (hts _ (List.mem_cons_of_mem _ mw_60)) (hts _ (List.mem_cons_of_mem _ mw_61)) hK hP hD hS 6 7 0 0 rfl rfl rfl rfl rfl (by decide) (by decide) (by decide) (by decide) (by decide) (fun _ _ => rfl) (Nat.le_of_ble_eq_true rfl) (Nat.le_of_ble_eq_true rfl) (by decide) (by decide) (by decide) dX4_become_42 ?_; clear hP hD hS; clear H locs; intro f3 e_f3 H locs hP hD hS
  replace hw := hw f3 e_f3
  clear e_f3
  replace hP : va_P (dC, dI) vwCl (w_X4_become h0 h_split h_told h_quants h_backs h_rejoined h_scales h_needs h_bits k1 k1_split k1_told k1_quants k1_backs k1_rejoined k1_scales k1_needs k1_bits cy c_twins c_method c_pool p1_twins p1_method p1_pool p1_split f1 p1_told f2 p1_quants f3 p1_backs c_backs p1_scales c_scales p1_bits c_bits) H := hP
  replace hD : va_D A (w_X4_become h0 h_split h_told h_quants h_backs h_rejoined h_scales h_needs h_bits k1 k1_split k1_told k1_quants k1_backs k1_rejoined k1_scales k1_needs k1_bits cy c_twins c_method c_pool p1_twins p1_method p1_pool p1_split f1 p1_told f2 p1_quants f3 p1_backs c_backs p1_scales c_scales p1_bits c_bits) := hD
  refine lv_aload_n hx hb dX4_become_45 rfl (lv_at hl 1 rfl) ?_
  refine va_get (D := (dC, dI)) (ci := 4) (v := .ref k1_backs) (C := RX4) (T := TX4) (N := 11) hx hb hts inX4 hown hK hP 1 rfl rfl 3 (by decide) (hts _ (List.mem_cons_of_mem _ mw_123)) (fun _ h9 => h9) rfl dX4_become_46 ?_
  refine lv_iconst (v := 0) hx hb dX4_become_49 (by decide) ?_
  refine lv_aload_n hx hb dX4_become_50 rfl (lv_at hl 0 rfl) ?_
  refine va_get (D := (dC, dI)) (ci := 4) (v := .ref h_backs) (C := RX4) (T := TX4) (N := 11) hx hb hts inX4 hown hK hP 0 rfl rfl 3 (by decide) (hts _ (List.mem_cons_of_mem _ mw_123)) (fun _ h9 => h9) rfl dX4_become_51 ?_
  refine lv_iconst (v := 0) hx hb dX4_become_54 (by decide) ?_
  refine lv_bipush (v := 64) hx hb dX4_become_55 (by decide) ?_
  refine xcopyi (k1 := 0) (k2 := 0) (k3 := 64) hx hb (by rw [hml]; exact hl.1.symm) hown (hts _ (List.mem_cons_of_mem _ mw_290)) (hts _ (List.mem_cons_of_mem _ mw_59)) (hts _ (List.mem_cons_of_mem _ mw_60)) (hts _ (List.mem_cons_of_mem _ mw_61)) hK hP hD hS 8 9 0 0 rfl rfl rfl rfl rfl (by decide) (by decide) (by decide) (by decide) (by decide) (fun _ _ => rfl) (Nat.le_of_ble_eq_true rfl) (Nat.le_of_ble_eq_true rfl) (by decide) (by decide) (by decide) dX4_become_57 ?_; clear hP hD hS; clear H locs; intro f4 e_f4 H locs hP hD hS
  replace hw := hw f4 e_f4
  clear e_f4
  replace hP : va_P (dC, dI) vwCl (w_X4_become h0 h_split h_told h_quants h_backs h_rejoined h_scales h_needs h_bits k1 k1_split k1_told k1_quants k1_backs k1_rejoined k1_scales k1_needs k1_bits cy c_twins c_method c_pool p1_twins p1_method p1_pool p1_split f1 p1_told f2 p1_quants f3 p1_backs f4 p1_scales c_scales p1_bits c_bits) H := hP
  replace hD : va_D A (w_X4_become h0 h_split h_told h_quants h_backs h_rejoined h_scales h_needs h_bits k1 k1_split k1_told k1_quants k1_backs k1_rejoined k1_scales k1_needs k1_bits cy c_twins c_method c_pool p1_twins p1_method p1_pool p1_split f1 p1_told f2 p1_quants f3 p1_backs f4 p1_scales c_scales p1_bits c_bits) := hD
  refine lv_aload_n hx hb dX4_become_60 rfl (lv_at hl 1 rfl) ?_
  refine va_get (D := (dC, dI)) (ci := 4) (v := .ref k1_scales) (C := RX4) (T := TX4) (N := 11) hx hb hts inX4 hown hK hP 1 rfl rfl 5 (by decide) (hts _ (List.mem_cons_of_mem _ mw_125)) (fun _ h9 => h9) rfl dX4_become_61 ?_
  refine lv_iconst (v := 0) hx hb dX4_become_64 (by decide) ?_
  refine lv_aload_n hx hb dX4_become_65 rfl (lv_at hl 0 rfl) ?_
  refine va_get (D := (dC, dI)) (ci := 4) (v := .ref h_scales) (C := RX4) (T := TX4) (N := 11) hx hb hts inX4 hown hK hP 0 rfl rfl 5 (by decide) (hts _ (List.mem_cons_of_mem _ mw_125)) (fun _ h9 => h9) rfl dX4_become_66 ?_
  refine lv_iconst (v := 0) hx hb dX4_become_69 (by decide) ?_
  refine lv_bipush (v := 16) hx hb dX4_become_70 (by decide) ?_
  refine xcopyi (k1 := 0) (k2 := 0) (k3 := 16) hx hb (by rw [hml]; exact hl.1.symm) hown (hts _ (List.mem_cons_of_mem _ mw_290)) (hts _ (List.mem_cons_of_mem _ mw_59)) (hts _ (List.mem_cons_of_mem _ mw_60)) (hts _ (List.mem_cons_of_mem _ mw_61)) hK hP hD hS 10 11 0 0 rfl rfl rfl rfl rfl (by decide) (by decide) (by decide) (by decide) (by decide) (fun _ _ => rfl) (Nat.le_of_ble_eq_true rfl) (Nat.le_of_ble_eq_true rfl) (by decide) (by decide) (by decide) dX4_become_72 ?_; clear hP hD hS; clear H locs; intro f5 e_f5 H locs hP hD hS
  replace hw := hw f5 e_f5
  clear e_f5
  replace hP : va_P (dC, dI) vwCl (w_X4_become h0 h_split h_told h_quants h_backs h_rejoined h_scales h_needs h_bits k1 k1_split k1_told k1_quants k1_backs k1_rejoined k1_scales k1_needs k1_bits cy c_twins c_method c_pool p1_twins p1_method p1_pool p1_split f1 p1_told f2 p1_quants f3 p1_backs f4 p1_scales f5 p1_bits c_bits) H := hP
  replace hD : va_D A (w_X4_become h0 h_split h_told h_quants h_backs h_rejoined h_scales h_needs h_bits k1 k1_split k1_told k1_quants k1_backs k1_rejoined k1_scales k1_needs k1_bits cy c_twins c_method c_pool p1_twins p1_method p1_pool p1_split f1 p1_told f2 p1_quants f3 p1_backs f4 p1_scales f5 p1_bits c_bits) := hD
  refine lv_aload_n hx hb dX4_become_75 rfl (lv_at hl 1 rfl) ?_
  refine va_get (D := (dC, dI)) (ci := 4) (v := .ref k1_bits) (C := RX4) (T := TX4) (N := 11) hx hb hts inX4 hown hK hP 1 rfl rfl 7 (by decide) (hts _ (List.mem_cons_of_mem _ mw_127)) (fun _ h9 => h9) rfl dX4_become_76 ?_
  refine lv_iconst (v := 0) hx hb dX4_become_79 (by decide) ?_
  refine lv_aload_n hx hb dX4_become_80 rfl (lv_at hl 0 rfl) ?_
  refine va_get (D := (dC, dI)) (ci := 4) (v := .ref h_bits) (C := RX4) (T := TX4) (N := 11) hx hb hts inX4 hown hK hP 0 rfl rfl 7 (by decide) (hts _ (List.mem_cons_of_mem _ mw_127)) (fun _ h9 => h9) rfl dX4_become_81 ?_
  refine lv_iconst (v := 0) hx hb dX4_become_84 (by decide) ?_
  refine lv_bipush (v := 16) hx hb dX4_become_85 (by decide) ?_
  refine xcopyi (k1 := 0) (k2 := 0) (k3 := 16) hx hb (by rw [hml]; exact hl.1.symm) hown (hts _ (List.mem_cons_of_mem _ mw_290)) (hts _ (List.mem_cons_of_mem _ mw_59)) (hts _ (List.mem_cons_of_mem _ mw_60)) (hts _ (List.mem_cons_of_mem _ mw_61)) hK hP hD hS 12 13 0 0 rfl rfl rfl rfl rfl (by decide) (by decide) (by decide) (by decide) (by decide) (fun _ _ => rfl) (Nat.le_of_ble_eq_true rfl) (Nat.le_of_ble_eq_true rfl) (by decide) (by decide) (by decide) dX4_become_87 ?_; clear hP hD hS; clear H locs; intro f6 e_f6 H locs hP hD hS
  replace hw := hw f6 e_f6
  clear e_f6
  replace hP : va_P (dC, dI) vwCl (w_X4_become h0 h_split h_told h_quants h_backs h_rejoined h_scales h_needs h_bits k1 k1_split k1_told k1_quants k1_backs k1_rejoined k1_scales k1_needs k1_bits cy c_twins c_method c_pool p1_twins p1_method p1_pool p1_split f1 p1_told f2 p1_quants f3 p1_backs f4 p1_scales f5 p1_bits f6) H := hP
  replace hD : va_D A (w_X4_become h0 h_split h_told h_quants h_backs h_rejoined h_scales h_needs h_bits k1 k1_split k1_told k1_quants k1_backs k1_rejoined k1_scales k1_needs k1_bits cy c_twins c_method c_pool p1_twins p1_method p1_pool p1_split f1 p1_told f2 p1_quants f3 p1_backs f4 p1_scales f5 p1_bits f6) := hD
  refine lv_aload_n hx hb dX4_become_90 rfl (lv_at hl 0 rfl) ?_
  refine lv_aload_n hx hb dX4_become_91 rfl (lv_at hl 1 rfl) ?_
  refine va_get (D := (dC, dI)) (ci := 4) (v := .int p1_twins) (C := RX4) (T := TX4) (N := 11) hx hb hts inX4 hown hK hP 1 rfl rfl 8 (by decide) (hts _ (List.mem_cons_of_mem _ mw_128)) (fun _ h9 => h9) rfl dX4_become_92 ?_
  refine va_put (D := (dC, dI)) (ci := 4) (v := .int p1_twins) (ty := .int) (C := RX4) (T := TX4) (N := 11) hx hb hts inX4 tyX4 tyX4_ok nmX4 hown hK hP hD hS 0 rfl rfl 8 (by decide) (hts _ (List.mem_cons_of_mem _ mw_128)) (fun _ h9 => h9) rfl (by decide +kernel) rfl rfl (Nat.le_of_ble_eq_true rfl) dX4_become_95 ?_; clear hP hD hS; clear H locs; intro H locs hP hD hS
  replace hP : va_P (dC, dI) vwCl (w_X4_become h0 h_split h_told h_quants h_backs h_rejoined h_scales h_needs h_bits k1 k1_split k1_told k1_quants k1_backs k1_rejoined k1_scales k1_needs k1_bits cy p1_twins c_method c_pool p1_twins p1_method p1_pool p1_split f1 p1_told f2 p1_quants f3 p1_backs f4 p1_scales f5 p1_bits f6) H := hP
  replace hD : va_D A (w_X4_become h0 h_split h_told h_quants h_backs h_rejoined h_scales h_needs h_bits k1 k1_split k1_told k1_quants k1_backs k1_rejoined k1_scales k1_needs k1_bits cy p1_twins c_method c_pool p1_twins p1_method p1_pool p1_split f1 p1_told f2 p1_quants f3 p1_backs f4 p1_scales f5 p1_bits f6) := hD
  refine lv_aload_n hx hb dX4_become_98 rfl (lv_at hl 0 rfl) ?_
  refine lv_aload_n hx hb dX4_become_99 rfl (lv_at hl 1 rfl) ?_
  refine va_get (D := (dC, dI)) (ci := 4) (v := .int p1_method) (C := RX4) (T := TX4) (N := 11) hx hb hts inX4 hown hK hP 1 rfl rfl 9 (by decide) (hts _ (List.mem_cons_of_mem _ mw_129)) (fun _ h9 => h9) rfl dX4_become_100 ?_
  refine va_put (D := (dC, dI)) (ci := 4) (v := .int p1_method) (ty := .int) (C := RX4) (T := TX4) (N := 11) hx hb hts inX4 tyX4 tyX4_ok nmX4 hown hK hP hD hS 0 rfl rfl 9 (by decide) (hts _ (List.mem_cons_of_mem _ mw_129)) (fun _ h9 => h9) rfl (by decide +kernel) rfl rfl (Nat.le_of_ble_eq_true rfl) dX4_become_103 ?_; clear hP hD hS; clear H locs; intro H locs hP hD hS
  replace hP : va_P (dC, dI) vwCl (w_X4_become h0 h_split h_told h_quants h_backs h_rejoined h_scales h_needs h_bits k1 k1_split k1_told k1_quants k1_backs k1_rejoined k1_scales k1_needs k1_bits cy p1_twins p1_method c_pool p1_twins p1_method p1_pool p1_split f1 p1_told f2 p1_quants f3 p1_backs f4 p1_scales f5 p1_bits f6) H := hP
  replace hD : va_D A (w_X4_become h0 h_split h_told h_quants h_backs h_rejoined h_scales h_needs h_bits k1 k1_split k1_told k1_quants k1_backs k1_rejoined k1_scales k1_needs k1_bits cy p1_twins p1_method c_pool p1_twins p1_method p1_pool p1_split f1 p1_told f2 p1_quants f3 p1_backs f4 p1_scales f5 p1_bits f6) := hD
  refine lv_aload_n hx hb dX4_become_106 rfl (lv_at hl 0 rfl) ?_
  refine lv_aload_n hx hb dX4_become_107 rfl (lv_at hl 1 rfl) ?_
  refine va_get (D := (dC, dI)) (ci := 4) (v := .int p1_pool) (C := RX4) (T := TX4) (N := 11) hx hb hts inX4 hown hK hP 1 rfl rfl 10 (by decide) (hts _ (List.mem_cons_of_mem _ mw_130)) (fun _ h9 => h9) rfl dX4_become_108 ?_
  refine va_put (D := (dC, dI)) (ci := 4) (v := .int p1_pool) (ty := .int) (C := RX4) (T := TX4) (N := 11) hx hb hts inX4 tyX4 tyX4_ok nmX4 hown hK hP hD hS 0 rfl rfl 10 (by decide) (hts _ (List.mem_cons_of_mem _ mw_130)) (fun _ h9 => h9) rfl (by decide +kernel) rfl rfl (Nat.le_of_ble_eq_true rfl) dX4_become_111 ?_; clear hP hD hS; clear H locs; intro H locs hP hD hS
  replace hP : va_P (dC, dI) vwCl (w_X4_become h0 h_split h_told h_quants h_backs h_rejoined h_scales h_needs h_bits k1 k1_split k1_told k1_quants k1_backs k1_rejoined k1_scales k1_needs k1_bits cy p1_twins p1_method p1_pool p1_twins p1_method p1_pool p1_split f1 p1_told f2 p1_quants f3 p1_backs f4 p1_scales f5 p1_bits f6) H := hP
  replace hD : va_D A (w_X4_become h0 h_split h_told h_quants h_backs h_rejoined h_scales h_needs h_bits k1 k1_split k1_told k1_quants k1_backs k1_rejoined k1_scales k1_needs k1_bits cy p1_twins p1_method p1_pool p1_twins p1_method p1_pool p1_split f1 p1_told f2 p1_quants f3 p1_backs f4 p1_scales f5 p1_bits f6) := hD
  subst hQe
  exact W.vret hx hb hr (fun t ht hW => ⟨⟨(p1_twins, p1_method, p1_pool, f1, f2, f3, f4, f5, f6), rfl, hw, by rw [ht]; exact hP, va_K.moved hW.alike hK, hD⟩, hS.F ht⟩) hS.2.2 dX4_become_114
set_option maxHeartbeats 4000000 in
set_option maxRecDepth 100000 in
theorem c_X9_become (l : Launch) (dC : Nat → ClassId) (dI : Nat → Nat → Nat) (cy : Nat → ClassId) (h0 h_memoriesA h_memoriesB h_row h_next k1 k1_memoriesA k1_memoriesB k1_row k1_next : Nat) (sz : Nat) (p1_memoriesA : Nat → Int32) (c_memoriesA : Nat → Int32) (p1_memoriesB : Nat → Int32) (c_memoriesB : Nat → Int32) (post : (Nat → Int32) → (Nat → Int32) → Prop) (hw : wp_X9_become p1_memoriesA c_memoriesA p1_memoriesB c_memoriesB post) : Met l yX9_become wsX9_become ({ frames := 1, cells := 0, slots := 0, locals := 40 }) (PX dC dI cy [.ref h0, .ref k1] sz (w_X9_become h0 h_memoriesA h_memoriesB h_row h_next k1 k1_memoriesA k1_memoriesB k1_row k1_next cy p1_memoriesA c_memoriesA p1_memoriesB c_memoriesB)) (va_Qv (fun (u : (Nat → Int32) × (Nat → Int32)) => post u.1 u.2) (QX dC dI cy (va_A (w_X9_become h0 h_memoriesA h_memoriesB h_row h_next k1 k1_memoriesA k1_memoriesB k1_row k1_next cy p1_memoriesA c_memoriesA p1_memoriesB c_memoriesB) sz) (fun (u : (Nat → Int32) × (Nat → Int32)) => w_X9_become h0 h_memoriesA h_memoriesB h_row h_next k1 k1_memoriesA k1_memoriesB k1_row k1_next cy p1_memoriesA u.1 p1_memoriesB u.2)) (va_A (w_X9_become h0 h_memoriesA h_memoriesB h_row h_next k1 k1_memoriesA k1_memoriesB k1_row k1_next cy p1_memoriesA c_memoriesA p1_memoriesB c_memoriesB) sz)) 0 0 (va_A (w_X9_become h0 h_memoriesA h_memoriesB h_row h_next k1 k1_memoriesA k1_memoriesB k1_row k1_next cy p1_memoriesA c_memoriesA p1_memoriesB c_memoriesB) sz) := by
  refine Met.ofW (cc := cX9_become) (maxL := 2) (ret := none) (by decide) rfl ?_
  intro p e s m args below meth c s₁ B hml hv
  obtain ⟨rfl, hsz, hP, hK, hD0, hG⟩ := hv
  have hx := B.exec
  have hb := B.bytes
  have hr := B.returns
  have hts := atoms_spec (ws := wsX9_become) B.pre
  have hown : s.vm.findClass RX9 = some m.cls := findClass_of_methodNamed B.named
  have hlocks := B.notSynchronized
  subst hsz
  have hD := hD0.self (sz := s.heap.size)
  generalize hAe : va_A (w_X9_become h0 h_memoriesA h_memoriesB h_row h_next k1 k1_memoriesA k1_memoriesB k1_row k1_next cy p1_memoriesA c_memoriesA p1_memoriesB c_memoriesB) s.heap.size = A at hD ⊢
  have hA : ∀ q : Nat, s.heap.size ≤ q → A q := fun q h => by rw [← hAe]; exact Or.inr h
  have hS : va_S A s.heap s.heap [] := va_S.rf
  have hl := lv_entry ([.ref h0, .ref k1]) (n := 2) (Nat.le_of_ble_eq_true rfl)
  rw [lg_entry_eq]
  generalize (lg_sl ([.ref h0, .ref k1]) ++ List.replicate (2 - (lg_sl ([.ref h0, .ref k1])).length) Slot.unset).toArray = ls at hl ⊢
  replace hl : lv_has ls 2 [(0, .ref h0), (1, .ref k1)] := hl
  have inX9 : ∀ w ∈ u_ws RX9 TX9 4, w ∈ wsX9_become := fun w h => List.mem_cons_of_mem _ (inlX9 w h)
  clear hAe hD0 B
  unfold wp_X9_become at hw
  generalize hQe : MQ below _ _ s _ _ _ = Q0
  generalize ([.ref h0, .ref k1] : List Value).toArray = av at *
  obtain ⟨H, hH⟩ : ∃ H, H = s.heap := ⟨_, rfl⟩
  obtain ⟨locs, hlo⟩ : ∃ L : List Loc, L = [] := ⟨_, rfl⟩
  replace hP : va_P (dC, dI) vwCl (w_X9_become h0 h_memoriesA h_memoriesB h_row h_next k1 k1_memoriesA k1_memoriesB k1_row k1_next cy p1_memoriesA c_memoriesA p1_memoriesB c_memoriesB) H := by rw [hH]; exact hP
  replace hS : va_S A s.heap H locs := by rw [hH, hlo]; exact hS
  suffices hgo : W p l e ({ frames := 1, cells := 0, slots := 0, locals := 40 }) s m av below meth c H locs 0 0 Q0 (F0 m 0 ls []) by rw [hH, hlo] at hgo; exact hgo
  clear hH hlo
  refine lv_aload_n hx hb dX9_become_0 rfl (lv_at hl 1 rfl) ?_
  refine va_get (D := (dC, dI)) (ci := 9) (v := .ref k1_memoriesA) (C := RX9) (T := TX9) (N := 4) hx hb hts inX9 hown hK hP 1 rfl rfl 0 (by decide) (hts _ (List.mem_cons_of_mem _ mw_113)) (fun _ h9 => h9) rfl dX9_become_1 ?_
  refine lv_iconst (v := 0) hx hb dX9_become_4 (by decide) ?_
  refine lv_aload_n hx hb dX9_become_5 rfl (lv_at hl 0 rfl) ?_
  refine va_get (D := (dC, dI)) (ci := 9) (v := .ref h_memoriesA) (C := RX9) (T := TX9) (N := 4) hx hb hts inX9 hown hK hP 0 rfl rfl 0 (by decide) (hts _ (List.mem_cons_of_mem _ mw_113)) (fun _ h9 => h9) rfl dX9_become_6 ?_
  refine lv_iconst (v := 0) hx hb dX9_become_9 (by decide) ?_
  refine lv_bipush (v := 7) hx hb dX9_become_10 (by decide) ?_
  refine xcopyi (k1 := 0) (k2 := 0) (k3 := 7) hx hb (by rw [hml]; exact hl.1.symm) hown (hts _ (List.mem_cons_of_mem _ mw_281)) (hts _ (List.mem_cons_of_mem _ mw_59)) (hts _ (List.mem_cons_of_mem _ mw_60)) (hts _ (List.mem_cons_of_mem _ mw_61)) hK hP hD hS 2 3 0 0 rfl rfl rfl rfl rfl (by decide) (by decide) (by decide) (by decide) (by decide) (fun _ _ => rfl) (Nat.le_of_ble_eq_true rfl) (Nat.le_of_ble_eq_true rfl) (by decide) (by decide) (by decide) dX9_become_12 ?_; clear hP hD hS; clear H locs; intro f1 e_f1 H locs hP hD hS
  replace hw := hw f1 e_f1
  clear e_f1
  replace hP : va_P (dC, dI) vwCl (w_X9_become h0 h_memoriesA h_memoriesB h_row h_next k1 k1_memoriesA k1_memoriesB k1_row k1_next cy p1_memoriesA f1 p1_memoriesB c_memoriesB) H := hP
  replace hD : va_D A (w_X9_become h0 h_memoriesA h_memoriesB h_row h_next k1 k1_memoriesA k1_memoriesB k1_row k1_next cy p1_memoriesA f1 p1_memoriesB c_memoriesB) := hD
  refine lv_aload_n hx hb dX9_become_15 rfl (lv_at hl 1 rfl) ?_
  refine va_get (D := (dC, dI)) (ci := 9) (v := .ref k1_memoriesB) (C := RX9) (T := TX9) (N := 4) hx hb hts inX9 hown hK hP 1 rfl rfl 1 (by decide) (hts _ (List.mem_cons_of_mem _ mw_114)) (fun _ h9 => h9) rfl dX9_become_16 ?_
  refine lv_iconst (v := 0) hx hb dX9_become_19 (by decide) ?_
  refine lv_aload_n hx hb dX9_become_20 rfl (lv_at hl 0 rfl) ?_
  refine va_get (D := (dC, dI)) (ci := 9) (v := .ref h_memoriesB) (C := RX9) (T := TX9) (N := 4) hx hb hts inX9 hown hK hP 0 rfl rfl 1 (by decide) (hts _ (List.mem_cons_of_mem _ mw_114)) (fun _ h9 => h9) rfl dX9_become_21 ?_
  refine lv_iconst (v := 0) hx hb dX9_become_24 (by decide) ?_
  refine lv_bipush (v := 7) hx hb dX9_become_25 (by decide) ?_
  refine xcopyi (k1 := 0) (k2 := 0) (k3 := 7) hx hb (by rw [hml]; exact hl.1.symm) hown (hts _ (List.mem_cons_of_mem _ mw_281)) (hts _ (List.mem_cons_of_mem _ mw_59)) (hts _ (List.mem_cons_of_mem _ mw_60)) (hts _ (List.mem_cons_of_mem _ mw_61)) hK hP hD hS 4 5 0 0 rfl rfl rfl rfl rfl (by decide) (by decide) (by decide) (by decide) (by decide) (fun _ _ => rfl) (Nat.le_of_ble_eq_true rfl) (Nat.le_of_ble_eq_true rfl) (by decide) (by decide) (by decide) dX9_become_27 ?_; clear hP hD hS; clear H locs; intro f2 e_f2 H locs hP hD hS
  replace hw := hw f2 e_f2
  clear e_f2
  replace hP : va_P (dC, dI) vwCl (w_X9_become h0 h_memoriesA h_memoriesB h_row h_next k1 k1_memoriesA k1_memoriesB k1_row k1_next cy p1_memoriesA f1 p1_memoriesB f2) H := hP
  replace hD : va_D A (w_X9_become h0 h_memoriesA h_memoriesB h_row h_next k1 k1_memoriesA k1_memoriesB k1_row k1_next cy p1_memoriesA f1 p1_memoriesB f2) := hD
  subst hQe
  exact W.vret hx hb hr (fun t ht hW => ⟨⟨(f1, f2), rfl, hw, by rw [ht]; exact hP, va_K.moved hW.alike hK, hD⟩, hS.F ht⟩) hS.2.2 dX9_become_30
set_option maxHeartbeats 4000000 in
set_option maxRecDepth 100000 in
theorem c_X2_become (l : Launch) (dC : Nat → ClassId) (dI : Nat → Nat → Nat) (cy : Nat → ClassId) (h0 h_numbers h_trees h_samples h_frame h_code h_trees_0 h_trees_1 k1 k1_numbers k1_trees k1_samples k1_frame k1_code k1_trees_0 k1_trees_1 h_trees_0_memoriesA h_trees_0_memoriesB h_trees_0_row h_trees_0_next k1_trees_0_memoriesA k1_trees_0_memoriesB k1_trees_0_row k1_trees_0_next h_trees_1_memoriesA h_trees_1_memoriesB h_trees_1_row h_trees_1_next k1_trees_1_memoriesA k1_trees_1_memoriesB k1_trees_1_row k1_trees_1_next h_frame_split h_frame_told h_frame_quants h_frame_backs h_frame_rejoined h_frame_scales h_frame_needs h_frame_bits k1_frame_split k1_frame_told k1_frame_quants k1_frame_backs k1_frame_rejoined k1_frame_scales k1_frame_needs k1_frame_bits h_code_bytes k1_code_bytes : Nat) (sz : Nat) (p1_trees_0_memoriesA : Nat → Int32) (c_trees_0_memoriesA : Nat → Int32) (p1_trees_0_memoriesB : Nat → Int32) (c_trees_0_memoriesB : Nat → Int32) (p1_trees_1_memoriesA : Nat → Int32) (c_trees_1_memoriesA : Nat → Int32) (p1_trees_1_memoriesB : Nat → Int32) (c_trees_1_memoriesB : Nat → Int32) (c_frame_twins : Int32) (c_frame_method : Int32) (c_frame_pool : Int32) (p1_frame_twins : Int32) (p1_frame_method : Int32) (p1_frame_pool : Int32) (p1_frame_split : Nat → Int32) (c_frame_split : Nat → Int32) (p1_frame_told : Nat → Int32) (c_frame_told : Nat → Int32) (p1_frame_quants : Nat → Int32) (c_frame_quants : Nat → Int32) (p1_frame_backs : Nat → Int32) (c_frame_backs : Nat → Int32) (p1_frame_scales : Nat → Int32) (c_frame_scales : Nat → Int32) (p1_frame_bits : Nat → Int32) (c_frame_bits : Nat → Int32) (c_code_size : Int32) (c_code_at : Int32) (p1_code_size : Int32) (p1_code_at : Int32) (p1_code_bytes : Nat → Int32) (c_code_bytes : Nat → Int32) (post : (Nat → Int32) → (Nat → Int32) → (Nat → Int32) → (Nat → Int32) → Int32 → Int32 → Int32 → (Nat → Int32) → (Nat → Int32) → (Nat → Int32) → (Nat → Int32) → (Nat → Int32) → (Nat → Int32) → Int32 → (Nat → Int32) → Prop) (hw : wp_X2_become p1_trees_0_memoriesA c_trees_0_memoriesA p1_trees_0_memoriesB c_trees_0_memoriesB p1_trees_1_memoriesA c_trees_1_memoriesA p1_trees_1_memoriesB c_trees_1_memoriesB c_frame_twins c_frame_method c_frame_pool p1_frame_twins p1_frame_method p1_frame_pool p1_frame_split c_frame_split p1_frame_told c_frame_told p1_frame_quants c_frame_quants p1_frame_backs c_frame_backs p1_frame_scales c_frame_scales p1_frame_bits c_frame_bits c_code_size p1_code_size p1_code_bytes c_code_bytes post) : Met l yX2_become wsX2_become ({ frames := 2, cells := 0, slots := 0, locals := 61 }) (PX dC dI cy [.ref h0, .ref k1] sz (w_X2_become h0 h_numbers h_trees h_samples h_frame h_code h_trees_0 h_trees_1 k1 k1_numbers k1_trees k1_samples k1_frame k1_code k1_trees_0 k1_trees_1 h_trees_0_memoriesA h_trees_0_memoriesB h_trees_0_row h_trees_0_next k1_trees_0_memoriesA k1_trees_0_memoriesB k1_trees_0_row k1_trees_0_next h_trees_1_memoriesA h_trees_1_memoriesB h_trees_1_row h_trees_1_next k1_trees_1_memoriesA k1_trees_1_memoriesB k1_trees_1_row k1_trees_1_next h_frame_split h_frame_told h_frame_quants h_frame_backs h_frame_rejoined h_frame_scales h_frame_needs h_frame_bits k1_frame_split k1_frame_told k1_frame_quants k1_frame_backs k1_frame_rejoined k1_frame_scales k1_frame_needs k1_frame_bits h_code_bytes k1_code_bytes cy p1_trees_0_memoriesA c_trees_0_memoriesA p1_trees_0_memoriesB c_trees_0_memoriesB p1_trees_1_memoriesA c_trees_1_memoriesA p1_trees_1_memoriesB c_trees_1_memoriesB c_frame_twins c_frame_method c_frame_pool p1_frame_twins p1_frame_method p1_frame_pool p1_frame_split c_frame_split p1_frame_told c_frame_told p1_frame_quants c_frame_quants p1_frame_backs c_frame_backs p1_frame_scales c_frame_scales p1_frame_bits c_frame_bits c_code_size c_code_at p1_code_size p1_code_at p1_code_bytes c_code_bytes)) (va_Qv (fun (u : (Nat → Int32) × (Nat → Int32) × (Nat → Int32) × (Nat → Int32) × Int32 × Int32 × Int32 × (Nat → Int32) × (Nat → Int32) × (Nat → Int32) × (Nat → Int32) × (Nat → Int32) × (Nat → Int32) × Int32 × (Nat → Int32)) => post u.1 u.2.1 u.2.2.1 u.2.2.2.1 u.2.2.2.2.1 u.2.2.2.2.2.1 u.2.2.2.2.2.2.1 u.2.2.2.2.2.2.2.1 u.2.2.2.2.2.2.2.2.1 u.2.2.2.2.2.2.2.2.2.1 u.2.2.2.2.2.2.2.2.2.2.1 u.2.2.2.2.2.2.2.2.2.2.2.1 u.2.2.2.2.2.2.2.2.2.2.2.2.1 u.2.2.2.2.2.2.2.2.2.2.2.2.2.1 u.2.2.2.2.2.2.2.2.2.2.2.2.2.2) (QX dC dI cy (va_A (w_X2_become h0 h_numbers h_trees h_samples h_frame h_code h_trees_0 h_trees_1 k1 k1_numbers k1_trees k1_samples k1_frame k1_code k1_trees_0 k1_trees_1 h_trees_0_memoriesA h_trees_0_memoriesB h_trees_0_row h_trees_0_next k1_trees_0_memoriesA k1_trees_0_memoriesB k1_trees_0_row k1_trees_0_next h_trees_1_memoriesA h_trees_1_memoriesB h_trees_1_row h_trees_1_next k1_trees_1_memoriesA k1_trees_1_memoriesB k1_trees_1_row k1_trees_1_next h_frame_split h_frame_told h_frame_quants h_frame_backs h_frame_rejoined h_frame_scales h_frame_needs h_frame_bits k1_frame_split k1_frame_told k1_frame_quants k1_frame_backs k1_frame_rejoined k1_frame_scales k1_frame_needs k1_frame_bits h_code_bytes k1_code_bytes cy p1_trees_0_memoriesA c_trees_0_memoriesA p1_trees_0_memoriesB c_trees_0_memoriesB p1_trees_1_memoriesA c_trees_1_memoriesA p1_trees_1_memoriesB c_trees_1_memoriesB c_frame_twins c_frame_method c_frame_pool p1_frame_twins p1_frame_method p1_frame_pool p1_frame_split c_frame_split p1_frame_told c_frame_told p1_frame_quants c_frame_quants p1_frame_backs c_frame_backs p1_frame_scales c_frame_scales p1_frame_bits c_frame_bits c_code_size c_code_at p1_code_size p1_code_at p1_code_bytes c_code_bytes) sz) (fun (u : (Nat → Int32) × (Nat → Int32) × (Nat → Int32) × (Nat → Int32) × Int32 × Int32 × Int32 × (Nat → Int32) × (Nat → Int32) × (Nat → Int32) × (Nat → Int32) × (Nat → Int32) × (Nat → Int32) × Int32 × (Nat → Int32)) => w_X2_become h0 h_numbers h_trees h_samples h_frame h_code h_trees_0 h_trees_1 k1 k1_numbers k1_trees k1_samples k1_frame k1_code k1_trees_0 k1_trees_1 h_trees_0_memoriesA h_trees_0_memoriesB h_trees_0_row h_trees_0_next k1_trees_0_memoriesA k1_trees_0_memoriesB k1_trees_0_row k1_trees_0_next h_trees_1_memoriesA h_trees_1_memoriesB h_trees_1_row h_trees_1_next k1_trees_1_memoriesA k1_trees_1_memoriesB k1_trees_1_row k1_trees_1_next h_frame_split h_frame_told h_frame_quants h_frame_backs h_frame_rejoined h_frame_scales h_frame_needs h_frame_bits k1_frame_split k1_frame_told k1_frame_quants k1_frame_backs k1_frame_rejoined k1_frame_scales k1_frame_needs k1_frame_bits h_code_bytes k1_code_bytes cy p1_trees_0_memoriesA u.1 p1_trees_0_memoriesB u.2.1 p1_trees_1_memoriesA u.2.2.1 p1_trees_1_memoriesB u.2.2.2.1 u.2.2.2.2.1 u.2.2.2.2.2.1 u.2.2.2.2.2.2.1 p1_frame_twins p1_frame_method p1_frame_pool p1_frame_split u.2.2.2.2.2.2.2.1 p1_frame_told u.2.2.2.2.2.2.2.2.1 p1_frame_quants u.2.2.2.2.2.2.2.2.2.1 p1_frame_backs u.2.2.2.2.2.2.2.2.2.2.1 p1_frame_scales u.2.2.2.2.2.2.2.2.2.2.2.1 p1_frame_bits u.2.2.2.2.2.2.2.2.2.2.2.2.1 u.2.2.2.2.2.2.2.2.2.2.2.2.2.1 c_code_at p1_code_size p1_code_at p1_code_bytes u.2.2.2.2.2.2.2.2.2.2.2.2.2.2)) (va_A (w_X2_become h0 h_numbers h_trees h_samples h_frame h_code h_trees_0 h_trees_1 k1 k1_numbers k1_trees k1_samples k1_frame k1_code k1_trees_0 k1_trees_1 h_trees_0_memoriesA h_trees_0_memoriesB h_trees_0_row h_trees_0_next k1_trees_0_memoriesA k1_trees_0_memoriesB k1_trees_0_row k1_trees_0_next h_trees_1_memoriesA h_trees_1_memoriesB h_trees_1_row h_trees_1_next k1_trees_1_memoriesA k1_trees_1_memoriesB k1_trees_1_row k1_trees_1_next h_frame_split h_frame_told h_frame_quants h_frame_backs h_frame_rejoined h_frame_scales h_frame_needs h_frame_bits k1_frame_split k1_frame_told k1_frame_quants k1_frame_backs k1_frame_rejoined k1_frame_scales k1_frame_needs k1_frame_bits h_code_bytes k1_code_bytes cy p1_trees_0_memoriesA c_trees_0_memoriesA p1_trees_0_memoriesB c_trees_0_memoriesB p1_trees_1_memoriesA c_trees_1_memoriesA p1_trees_1_memoriesB c_trees_1_memoriesB c_frame_twins c_frame_method c_frame_pool p1_frame_twins p1_frame_method p1_frame_pool p1_frame_split c_frame_split p1_frame_told c_frame_told p1_frame_quants c_frame_quants p1_frame_backs c_frame_backs p1_frame_scales c_frame_scales p1_frame_bits c_frame_bits c_code_size c_code_at p1_code_size p1_code_at p1_code_bytes c_code_bytes) sz)) 0 0 (va_A (w_X2_become h0 h_numbers h_trees h_samples h_frame h_code h_trees_0 h_trees_1 k1 k1_numbers k1_trees k1_samples k1_frame k1_code k1_trees_0 k1_trees_1 h_trees_0_memoriesA h_trees_0_memoriesB h_trees_0_row h_trees_0_next k1_trees_0_memoriesA k1_trees_0_memoriesB k1_trees_0_row k1_trees_0_next h_trees_1_memoriesA h_trees_1_memoriesB h_trees_1_row h_trees_1_next k1_trees_1_memoriesA k1_trees_1_memoriesB k1_trees_1_row k1_trees_1_next h_frame_split h_frame_told h_frame_quants h_frame_backs h_frame_rejoined h_frame_scales h_frame_needs h_frame_bits k1_frame_split k1_frame_told k1_frame_quants k1_frame_backs k1_frame_rejoined k1_frame_scales k1_frame_needs k1_frame_bits h_code_bytes k1_code_bytes cy p1_trees_0_memoriesA c_trees_0_memoriesA p1_trees_0_memoriesB c_trees_0_memoriesB p1_trees_1_memoriesA c_trees_1_memoriesA p1_trees_1_memoriesB c_trees_1_memoriesB c_frame_twins c_frame_method c_frame_pool p1_frame_twins p1_frame_method p1_frame_pool p1_frame_split c_frame_split p1_frame_told c_frame_told p1_frame_quants c_frame_quants p1_frame_backs c_frame_backs p1_frame_scales c_frame_scales p1_frame_bits c_frame_bits c_code_size c_code_at p1_code_size p1_code_at p1_code_bytes c_code_bytes) sz) := by
  refine Met.ofW (cc := cX2_become) (maxL := 2) (ret := none) (by decide) rfl ?_
  intro p e s m args below meth c s₁ B hml hv
  obtain ⟨rfl, hsz, hP, hK, hD0, hG⟩ := hv
  have hx := B.exec
  have hb := B.bytes
  have hr := B.returns
  have hts := atoms_spec (ws := wsX2_become) B.pre
  have hown : s.vm.findClass RX2 = some m.cls := findClass_of_methodNamed B.named
  have hlocks := B.notSynchronized
  subst hsz
  have hD := hD0.self (sz := s.heap.size)
  generalize hAe : va_A (w_X2_become h0 h_numbers h_trees h_samples h_frame h_code h_trees_0 h_trees_1 k1 k1_numbers k1_trees k1_samples k1_frame k1_code k1_trees_0 k1_trees_1 h_trees_0_memoriesA h_trees_0_memoriesB h_trees_0_row h_trees_0_next k1_trees_0_memoriesA k1_trees_0_memoriesB k1_trees_0_row k1_trees_0_next h_trees_1_memoriesA h_trees_1_memoriesB h_trees_1_row h_trees_1_next k1_trees_1_memoriesA k1_trees_1_memoriesB k1_trees_1_row k1_trees_1_next h_frame_split h_frame_told h_frame_quants h_frame_backs h_frame_rejoined h_frame_scales h_frame_needs h_frame_bits k1_frame_split k1_frame_told k1_frame_quants k1_frame_backs k1_frame_rejoined k1_frame_scales k1_frame_needs k1_frame_bits h_code_bytes k1_code_bytes cy p1_trees_0_memoriesA c_trees_0_memoriesA p1_trees_0_memoriesB c_trees_0_memoriesB p1_trees_1_memoriesA c_trees_1_memoriesA p1_trees_1_memoriesB c_trees_1_memoriesB c_frame_twins c_frame_method c_frame_pool p1_frame_twins p1_frame_method p1_frame_pool p1_frame_split c_frame_split p1_frame_told c_frame_told p1_frame_quants c_frame_quants p1_frame_backs c_frame_backs p1_frame_scales c_frame_scales p1_frame_bits c_frame_bits c_code_size c_code_at p1_code_size p1_code_at p1_code_bytes c_code_bytes) s.heap.size = A at hD ⊢
  have hA : ∀ q : Nat, s.heap.size ≤ q → A q := fun q h => by rw [← hAe]; exact Or.inr h
  have hS : va_S A s.heap s.heap [] := va_S.rf
  have hl := lv_entry ([.ref h0, .ref k1]) (n := 2) (Nat.le_of_ble_eq_true rfl)
  rw [lg_entry_eq]
  generalize (lg_sl ([.ref h0, .ref k1]) ++ List.replicate (2 - (lg_sl ([.ref h0, .ref k1])).length) Slot.unset).toArray = ls at hl ⊢
  replace hl : lv_has ls 2 [(0, .ref h0), (1, .ref k1)] := hl
  have inX2 : ∀ w ∈ u_ws RX2 TX2 5, w ∈ wsX2_become := fun w h => List.mem_cons_of_mem _ (inlX2 w h)
  clear hAe hD0 B
  unfold wp_X2_become at hw
  generalize hQe : MQ below _ _ s _ _ _ = Q0
  generalize ([.ref h0, .ref k1] : List Value).toArray = av at *
  obtain ⟨H, hH⟩ : ∃ H, H = s.heap := ⟨_, rfl⟩
  obtain ⟨locs, hlo⟩ : ∃ L : List Loc, L = [] := ⟨_, rfl⟩
  replace hP : va_P (dC, dI) vwCl (w_X2_become h0 h_numbers h_trees h_samples h_frame h_code h_trees_0 h_trees_1 k1 k1_numbers k1_trees k1_samples k1_frame k1_code k1_trees_0 k1_trees_1 h_trees_0_memoriesA h_trees_0_memoriesB h_trees_0_row h_trees_0_next k1_trees_0_memoriesA k1_trees_0_memoriesB k1_trees_0_row k1_trees_0_next h_trees_1_memoriesA h_trees_1_memoriesB h_trees_1_row h_trees_1_next k1_trees_1_memoriesA k1_trees_1_memoriesB k1_trees_1_row k1_trees_1_next h_frame_split h_frame_told h_frame_quants h_frame_backs h_frame_rejoined h_frame_scales h_frame_needs h_frame_bits k1_frame_split k1_frame_told k1_frame_quants k1_frame_backs k1_frame_rejoined k1_frame_scales k1_frame_needs k1_frame_bits h_code_bytes k1_code_bytes cy p1_trees_0_memoriesA c_trees_0_memoriesA p1_trees_0_memoriesB c_trees_0_memoriesB p1_trees_1_memoriesA c_trees_1_memoriesA p1_trees_1_memoriesB c_trees_1_memoriesB c_frame_twins c_frame_method c_frame_pool p1_frame_twins p1_frame_method p1_frame_pool p1_frame_split c_frame_split p1_frame_told c_frame_told p1_frame_quants c_frame_quants p1_frame_backs c_frame_backs p1_frame_scales c_frame_scales p1_frame_bits c_frame_bits c_code_size c_code_at p1_code_size p1_code_at p1_code_bytes c_code_bytes) H := by rw [hH]; exact hP
  replace hS : va_S A s.heap H locs := by rw [hH, hlo]; exact hS
  suffices hgo : W p l e ({ frames := 2, cells := 0, slots := 0, locals := 61 }) s m av below meth c H locs 0 0 Q0 (F0 m 0 ls []) by rw [hH, hlo] at hgo; exact hgo
  clear hH hlo
  refine lv_aload_n hx hb dX2_become_0 rfl (lv_at hl 0 rfl) ?_
  refine va_get (D := (dC, dI)) (ci := 2) (v := .ref h_trees) (C := RX2) (T := TX2) (N := 5) hx hb hts inX2 hown hK hP 0 rfl rfl 1 (by decide) (hts _ (List.mem_cons_of_mem _ mw_103)) (fun _ h9 => h9) rfl dX2_become_1 ?_
  refine lv_iconst (v := 0) hx hb dX2_become_4 (by decide) ?_
  refine xald0 hx hb hK hP 1 2 rfl rfl dX2_become_5 ?_
  refine lv_aload_n hx hb dX2_become_6 rfl (lv_at hl 1 rfl) ?_
  refine va_get (D := (dC, dI)) (ci := 2) (v := .ref k1_trees) (C := RX2) (T := TX2) (N := 5) hx hb hts inX2 hown hK hP 2 rfl rfl 1 (by decide) (hts _ (List.mem_cons_of_mem _ mw_103)) (fun _ h9 => h9) rfl dX2_become_7 ?_
  refine lv_iconst (v := 0) hx hb dX2_become_10 (by decide) ?_
  refine xald0 hx hb hK hP 3 2 rfl rfl dX2_become_11 ?_
  have hPc := pSub (ws' := (w_X9_become h_trees_0 h_trees_0_memoriesA h_trees_0_memoriesB h_trees_0_row h_trees_0_next k1_trees_0 k1_trees_0_memoriesA k1_trees_0_memoriesB k1_trees_0_row k1_trees_0_next cy p1_trees_0_memoriesA c_trees_0_memoriesA p1_trees_0_memoriesB c_trees_0_memoriesB)) hP [4, 5, 6, 7, 8, 9] rfl
  have hDc := dSub (ws' := (w_X9_become h_trees_0 h_trees_0_memoriesA h_trees_0_memoriesB h_trees_0_row h_trees_0_next k1_trees_0 k1_trees_0_memoriesA k1_trees_0_memoriesB k1_trees_0_row k1_trees_0_next cy p1_trees_0_memoriesA c_trees_0_memoriesA p1_trees_0_memoriesB c_trees_0_memoriesB)) hD [4, 5, 6, 7, 8, 9] (by decide) rfl
  have hFc := va_free (wc := (w_X9_become h_trees_0 h_trees_0_memoriesA h_trees_0_memoriesB h_trees_0_row h_trees_0_next k1_trees_0 k1_trees_0_memoriesA k1_trees_0_memoriesB k1_trees_0_row k1_trees_0_next cy p1_trees_0_memoriesA c_trees_0_memoriesA p1_trees_0_memoriesB c_trees_0_memoriesB)) hD hS hA [4, 5, 6, 7, 8, 9] rfl
  refine va_callv (va_runV (As := [.ref k1_trees_0]) (rest := []) ⟨hx, hb, hml, hown, hts⟩ (c_X9_become l dC dI cy h_trees_0 h_trees_0_memoriesA h_trees_0_memoriesB h_trees_0_row h_trees_0_next k1_trees_0 k1_trees_0_memoriesA k1_trees_0_memoriesB k1_trees_0_row k1_trees_0_next H.size p1_trees_0_memoriesA c_trees_0_memoriesA p1_trees_0_memoriesB c_trees_0_memoriesB _ hw) (cwV 1 hts (goodV mw_855 mw_852 mw_853 mw_854 mw_28) rfl rfl rfl (by decide +kernel) ⟨Nat.le_of_ble_eq_true rfl, Nat.le_of_ble_eq_true rfl⟩) ⟨PX_blind, va_recv hK hPc (ci := 9) (q0 := 0) rfl rfl, PX_pre hPc hK hDc hG⟩ rfl rfl hl.1 rfl (lv_room (Nat.le_of_ble_eq_true rfl)) dX2_become_12 ⟨Nat.zero_le _, Nat.zero_le _⟩) hS (fun q _ h => hFc q h) hFc ?_; clear hw hS; intro u t H1 locs1 ht hvm hw hB hz1 hk1 hS
  obtain ⟨f1, f2⟩ := u
  obtain ⟨hP1, -, -⟩ := hB
  rw [ht] at hP1
  replace hP := jC0 hP hD [4, 5, 6, 7, 8, 9] [0, 1, 2, 3, 10, 11, 12, 13, 14, 15, 16, 17, 18, 19, 20, 21, 22, 23, 24, 25, 26, 27, 28, 29, 30, 31, 32, 33] rfl hk1 hP1 (w_X2_become h0 h_numbers h_trees h_samples h_frame h_code h_trees_0 h_trees_1 k1 k1_numbers k1_trees k1_samples k1_frame k1_code k1_trees_0 k1_trees_1 h_trees_0_memoriesA h_trees_0_memoriesB h_trees_0_row h_trees_0_next k1_trees_0_memoriesA k1_trees_0_memoriesB k1_trees_0_row k1_trees_0_next h_trees_1_memoriesA h_trees_1_memoriesB h_trees_1_row h_trees_1_next k1_trees_1_memoriesA k1_trees_1_memoriesB k1_trees_1_row k1_trees_1_next h_frame_split h_frame_told h_frame_quants h_frame_backs h_frame_rejoined h_frame_scales h_frame_needs h_frame_bits k1_frame_split k1_frame_told k1_frame_quants k1_frame_backs k1_frame_rejoined k1_frame_scales k1_frame_needs k1_frame_bits h_code_bytes k1_code_bytes cy p1_trees_0_memoriesA f1 p1_trees_0_memoriesB f2 p1_trees_1_memoriesA c_trees_1_memoriesA p1_trees_1_memoriesB c_trees_1_memoriesB c_frame_twins c_frame_method c_frame_pool p1_frame_twins p1_frame_method p1_frame_pool p1_frame_split c_frame_split p1_frame_told c_frame_told p1_frame_quants c_frame_quants p1_frame_backs c_frame_backs p1_frame_scales c_frame_scales p1_frame_bits c_frame_bits c_code_size c_code_at p1_code_size p1_code_at p1_code_bytes c_code_bytes) rfl rfl rfl 34 rfl (by decide +kernel); clear hD; obtain ⟨hP, hD⟩ := hP
  replace hP : va_P (dC, dI) vwCl (w_X2_become h0 h_numbers h_trees h_samples h_frame h_code h_trees_0 h_trees_1 k1 k1_numbers k1_trees k1_samples k1_frame k1_code k1_trees_0 k1_trees_1 h_trees_0_memoriesA h_trees_0_memoriesB h_trees_0_row h_trees_0_next k1_trees_0_memoriesA k1_trees_0_memoriesB k1_trees_0_row k1_trees_0_next h_trees_1_memoriesA h_trees_1_memoriesB h_trees_1_row h_trees_1_next k1_trees_1_memoriesA k1_trees_1_memoriesB k1_trees_1_row k1_trees_1_next h_frame_split h_frame_told h_frame_quants h_frame_backs h_frame_rejoined h_frame_scales h_frame_needs h_frame_bits k1_frame_split k1_frame_told k1_frame_quants k1_frame_backs k1_frame_rejoined k1_frame_scales k1_frame_needs k1_frame_bits h_code_bytes k1_code_bytes cy p1_trees_0_memoriesA f1 p1_trees_0_memoriesB f2 p1_trees_1_memoriesA c_trees_1_memoriesA p1_trees_1_memoriesB c_trees_1_memoriesB c_frame_twins c_frame_method c_frame_pool p1_frame_twins p1_frame_method p1_frame_pool p1_frame_split c_frame_split p1_frame_told c_frame_told p1_frame_quants c_frame_quants p1_frame_backs c_frame_backs p1_frame_scales c_frame_scales p1_frame_bits c_frame_bits c_code_size c_code_at p1_code_size p1_code_at p1_code_bytes c_code_bytes) H1 := hP
  replace hD : va_D A (w_X2_become h0 h_numbers h_trees h_samples h_frame h_code h_trees_0 h_trees_1 k1 k1_numbers k1_trees k1_samples k1_frame k1_code k1_trees_0 k1_trees_1 h_trees_0_memoriesA h_trees_0_memoriesB h_trees_0_row h_trees_0_next k1_trees_0_memoriesA k1_trees_0_memoriesB k1_trees_0_row k1_trees_0_next h_trees_1_memoriesA h_trees_1_memoriesB h_trees_1_row h_trees_1_next k1_trees_1_memoriesA k1_trees_1_memoriesB k1_trees_1_row k1_trees_1_next h_frame_split h_frame_told h_frame_quants h_frame_backs h_frame_rejoined h_frame_scales h_frame_needs h_frame_bits k1_frame_split k1_frame_told k1_frame_quants k1_frame_backs k1_frame_rejoined k1_frame_scales k1_frame_needs k1_frame_bits h_code_bytes k1_code_bytes cy p1_trees_0_memoriesA f1 p1_trees_0_memoriesB f2 p1_trees_1_memoriesA c_trees_1_memoriesA p1_trees_1_memoriesB c_trees_1_memoriesB c_frame_twins c_frame_method c_frame_pool p1_frame_twins p1_frame_method p1_frame_pool p1_frame_split c_frame_split p1_frame_told c_frame_told p1_frame_quants c_frame_quants p1_frame_backs c_frame_backs p1_frame_scales c_frame_scales p1_frame_bits c_frame_bits c_code_size c_code_at p1_code_size p1_code_at p1_code_bytes c_code_bytes) := hD
  clear hPc hDc hFc hP1 hk1 hz1 hvm ht; clear t; clear H locs; obtain ⟨H, hH⟩ : ∃ H, H = H1 := ⟨_, rfl⟩; obtain ⟨locs, hlo⟩ : ∃ L, L = locs1 := ⟨_, rfl⟩; subst hH; subst hlo
  refine W.widen (k := 0) (n := 0) (Nat.le_refl 0) (Nat.le_refl 0) ?_
  refine lv_aload_n hx hb dX2_become_15 rfl (lv_at hl 0 rfl) ?_
  refine va_get (D := (dC, dI)) (ci := 2) (v := .ref h_trees) (C := RX2) (T := TX2) (N := 5) hx hb hts inX2 hown hK hP 0 rfl rfl 1 (by decide) (hts _ (List.mem_cons_of_mem _ mw_103)) (fun _ h9 => h9) rfl dX2_become_16 ?_
  refine lv_iconst (v := 1) hx hb dX2_become_19 (by decide) ?_
  refine xald1 hx hb hK hP 1 2 rfl rfl dX2_become_20 ?_
  refine lv_aload_n hx hb dX2_become_21 rfl (lv_at hl 1 rfl) ?_
  refine va_get (D := (dC, dI)) (ci := 2) (v := .ref k1_trees) (C := RX2) (T := TX2) (N := 5) hx hb hts inX2 hown hK hP 2 rfl rfl 1 (by decide) (hts _ (List.mem_cons_of_mem _ mw_103)) (fun _ h9 => h9) rfl dX2_become_22 ?_
  refine lv_iconst (v := 1) hx hb dX2_become_25 (by decide) ?_
  refine xald1 hx hb hK hP 3 2 rfl rfl dX2_become_26 ?_
  have hPc := pSub (ws' := (w_X9_become h_trees_1 h_trees_1_memoriesA h_trees_1_memoriesB h_trees_1_row h_trees_1_next k1_trees_1 k1_trees_1_memoriesA k1_trees_1_memoriesB k1_trees_1_row k1_trees_1_next cy p1_trees_1_memoriesA c_trees_1_memoriesA p1_trees_1_memoriesB c_trees_1_memoriesB)) hP [10, 11, 12, 13, 14, 15] rfl
  have hDc := dSub (ws' := (w_X9_become h_trees_1 h_trees_1_memoriesA h_trees_1_memoriesB h_trees_1_row h_trees_1_next k1_trees_1 k1_trees_1_memoriesA k1_trees_1_memoriesB k1_trees_1_row k1_trees_1_next cy p1_trees_1_memoriesA c_trees_1_memoriesA p1_trees_1_memoriesB c_trees_1_memoriesB)) hD [10, 11, 12, 13, 14, 15] (by decide) rfl
  have hFc := va_free (wc := (w_X9_become h_trees_1 h_trees_1_memoriesA h_trees_1_memoriesB h_trees_1_row h_trees_1_next k1_trees_1 k1_trees_1_memoriesA k1_trees_1_memoriesB k1_trees_1_row k1_trees_1_next cy p1_trees_1_memoriesA c_trees_1_memoriesA p1_trees_1_memoriesB c_trees_1_memoriesB)) hD hS hA [10, 11, 12, 13, 14, 15] rfl
  refine va_callv (va_runV (As := [.ref k1_trees_1]) (rest := []) ⟨hx, hb, hml, hown, hts⟩ (c_X9_become l dC dI cy h_trees_1 h_trees_1_memoriesA h_trees_1_memoriesB h_trees_1_row h_trees_1_next k1_trees_1 k1_trees_1_memoriesA k1_trees_1_memoriesB k1_trees_1_row k1_trees_1_next H.size p1_trees_1_memoriesA c_trees_1_memoriesA p1_trees_1_memoriesB c_trees_1_memoriesB _ hw) (cwV 1 hts (goodV mw_855 mw_852 mw_853 mw_854 mw_28) rfl rfl rfl (by decide +kernel) ⟨Nat.le_of_ble_eq_true rfl, Nat.le_of_ble_eq_true rfl⟩) ⟨PX_blind, va_recv hK hPc (ci := 9) (q0 := 0) rfl rfl, PX_pre hPc hK hDc hG⟩ rfl rfl hl.1 rfl (lv_room (Nat.le_of_ble_eq_true rfl)) dX2_become_27 ⟨Nat.zero_le _, Nat.zero_le _⟩) hS (fun q _ h => hFc q h) hFc ?_; clear hw hS; intro u t H1 locs1 ht hvm hw hB hz1 hk1 hS
  obtain ⟨f3, f4⟩ := u
  obtain ⟨hP1, -, -⟩ := hB
  rw [ht] at hP1
  replace hP := jC0 hP hD [10, 11, 12, 13, 14, 15] [0, 1, 2, 3, 4, 5, 6, 7, 8, 9, 16, 17, 18, 19, 20, 21, 22, 23, 24, 25, 26, 27, 28, 29, 30, 31, 32, 33] rfl hk1 hP1 (w_X2_become h0 h_numbers h_trees h_samples h_frame h_code h_trees_0 h_trees_1 k1 k1_numbers k1_trees k1_samples k1_frame k1_code k1_trees_0 k1_trees_1 h_trees_0_memoriesA h_trees_0_memoriesB h_trees_0_row h_trees_0_next k1_trees_0_memoriesA k1_trees_0_memoriesB k1_trees_0_row k1_trees_0_next h_trees_1_memoriesA h_trees_1_memoriesB h_trees_1_row h_trees_1_next k1_trees_1_memoriesA k1_trees_1_memoriesB k1_trees_1_row k1_trees_1_next h_frame_split h_frame_told h_frame_quants h_frame_backs h_frame_rejoined h_frame_scales h_frame_needs h_frame_bits k1_frame_split k1_frame_told k1_frame_quants k1_frame_backs k1_frame_rejoined k1_frame_scales k1_frame_needs k1_frame_bits h_code_bytes k1_code_bytes cy p1_trees_0_memoriesA f1 p1_trees_0_memoriesB f2 p1_trees_1_memoriesA f3 p1_trees_1_memoriesB f4 c_frame_twins c_frame_method c_frame_pool p1_frame_twins p1_frame_method p1_frame_pool p1_frame_split c_frame_split p1_frame_told c_frame_told p1_frame_quants c_frame_quants p1_frame_backs c_frame_backs p1_frame_scales c_frame_scales p1_frame_bits c_frame_bits c_code_size c_code_at p1_code_size p1_code_at p1_code_bytes c_code_bytes) rfl rfl rfl 34 rfl (by decide +kernel); clear hD; obtain ⟨hP, hD⟩ := hP
  replace hP : va_P (dC, dI) vwCl (w_X2_become h0 h_numbers h_trees h_samples h_frame h_code h_trees_0 h_trees_1 k1 k1_numbers k1_trees k1_samples k1_frame k1_code k1_trees_0 k1_trees_1 h_trees_0_memoriesA h_trees_0_memoriesB h_trees_0_row h_trees_0_next k1_trees_0_memoriesA k1_trees_0_memoriesB k1_trees_0_row k1_trees_0_next h_trees_1_memoriesA h_trees_1_memoriesB h_trees_1_row h_trees_1_next k1_trees_1_memoriesA k1_trees_1_memoriesB k1_trees_1_row k1_trees_1_next h_frame_split h_frame_told h_frame_quants h_frame_backs h_frame_rejoined h_frame_scales h_frame_needs h_frame_bits k1_frame_split k1_frame_told k1_frame_quants k1_frame_backs k1_frame_rejoined k1_frame_scales k1_frame_needs k1_frame_bits h_code_bytes k1_code_bytes cy p1_trees_0_memoriesA f1 p1_trees_0_memoriesB f2 p1_trees_1_memoriesA f3 p1_trees_1_memoriesB f4 c_frame_twins c_frame_method c_frame_pool p1_frame_twins p1_frame_method p1_frame_pool p1_frame_split c_frame_split p1_frame_told c_frame_told p1_frame_quants c_frame_quants p1_frame_backs c_frame_backs p1_frame_scales c_frame_scales p1_frame_bits c_frame_bits c_code_size c_code_at p1_code_size p1_code_at p1_code_bytes c_code_bytes) H1 := hP
  replace hD : va_D A (w_X2_become h0 h_numbers h_trees h_samples h_frame h_code h_trees_0 h_trees_1 k1 k1_numbers k1_trees k1_samples k1_frame k1_code k1_trees_0 k1_trees_1 h_trees_0_memoriesA h_trees_0_memoriesB h_trees_0_row h_trees_0_next k1_trees_0_memoriesA k1_trees_0_memoriesB k1_trees_0_row k1_trees_0_next h_trees_1_memoriesA h_trees_1_memoriesB h_trees_1_row h_trees_1_next k1_trees_1_memoriesA k1_trees_1_memoriesB k1_trees_1_row k1_trees_1_next h_frame_split h_frame_told h_frame_quants h_frame_backs h_frame_rejoined h_frame_scales h_frame_needs h_frame_bits k1_frame_split k1_frame_told k1_frame_quants k1_frame_backs k1_frame_rejoined k1_frame_scales k1_frame_needs k1_frame_bits h_code_bytes k1_code_bytes cy p1_trees_0_memoriesA f1 p1_trees_0_memoriesB f2 p1_trees_1_memoriesA f3 p1_trees_1_memoriesB f4 c_frame_twins c_frame_method c_frame_pool p1_frame_twins p1_frame_method p1_frame_pool p1_frame_split c_frame_split p1_frame_told c_frame_told p1_frame_quants c_frame_quants p1_frame_backs c_frame_backs p1_frame_scales c_frame_scales p1_frame_bits c_frame_bits c_code_size c_code_at p1_code_size p1_code_at p1_code_bytes c_code_bytes) := hD
  clear hPc hDc hFc hP1 hk1 hz1 hvm ht; clear t; clear H locs; obtain ⟨H, hH⟩ : ∃ H, H = H1 := ⟨_, rfl⟩; obtain ⟨locs, hlo⟩ : ∃ L, L = locs1 := ⟨_, rfl⟩; subst hH; subst hlo
  refine W.widen (k := 0) (n := 0) (Nat.le_refl 0) (Nat.le_refl 0) ?_
  refine lv_aload_n hx hb dX2_become_30 rfl (lv_at hl 0 rfl) ?_
  refine va_get (D := (dC, dI)) (ci := 2) (v := .ref h_frame) (C := RX2) (T := TX2) (N := 5) hx hb hts inX2 hown hK hP 0 rfl rfl 3 (by decide) (hts _ (List.mem_cons_of_mem _ mw_106)) (fun _ h9 => h9) rfl dX2_become_31 ?_
  refine lv_aload_n hx hb dX2_become_34 rfl (lv_at hl 1 rfl) ?_
  refine va_get (D := (dC, dI)) (ci := 2) (v := .ref k1_frame) (C := RX2) (T := TX2) (N := 5) hx hb hts inX2 hown hK hP 2 rfl rfl 3 (by decide) (hts _ (List.mem_cons_of_mem _ mw_106)) (fun _ h9 => h9) rfl dX2_become_35 ?_
  have hPc := pSub (ws' := (w_X4_become h_frame h_frame_split h_frame_told h_frame_quants h_frame_backs h_frame_rejoined h_frame_scales h_frame_needs h_frame_bits k1_frame k1_frame_split k1_frame_told k1_frame_quants k1_frame_backs k1_frame_rejoined k1_frame_scales k1_frame_needs k1_frame_bits cy c_frame_twins c_frame_method c_frame_pool p1_frame_twins p1_frame_method p1_frame_pool p1_frame_split c_frame_split p1_frame_told c_frame_told p1_frame_quants c_frame_quants p1_frame_backs c_frame_backs p1_frame_scales c_frame_scales p1_frame_bits c_frame_bits)) hP [16, 17, 18, 19, 20, 21, 22, 23, 24, 25, 26, 27, 28, 29] rfl
  have hDc := dSub (ws' := (w_X4_become h_frame h_frame_split h_frame_told h_frame_quants h_frame_backs h_frame_rejoined h_frame_scales h_frame_needs h_frame_bits k1_frame k1_frame_split k1_frame_told k1_frame_quants k1_frame_backs k1_frame_rejoined k1_frame_scales k1_frame_needs k1_frame_bits cy c_frame_twins c_frame_method c_frame_pool p1_frame_twins p1_frame_method p1_frame_pool p1_frame_split c_frame_split p1_frame_told c_frame_told p1_frame_quants c_frame_quants p1_frame_backs c_frame_backs p1_frame_scales c_frame_scales p1_frame_bits c_frame_bits)) hD [16, 17, 18, 19, 20, 21, 22, 23, 24, 25, 26, 27, 28, 29] (by decide) rfl
  have hFc := va_free (wc := (w_X4_become h_frame h_frame_split h_frame_told h_frame_quants h_frame_backs h_frame_rejoined h_frame_scales h_frame_needs h_frame_bits k1_frame k1_frame_split k1_frame_told k1_frame_quants k1_frame_backs k1_frame_rejoined k1_frame_scales k1_frame_needs k1_frame_bits cy c_frame_twins c_frame_method c_frame_pool p1_frame_twins p1_frame_method p1_frame_pool p1_frame_split c_frame_split p1_frame_told c_frame_told p1_frame_quants c_frame_quants p1_frame_backs c_frame_backs p1_frame_scales c_frame_scales p1_frame_bits c_frame_bits)) hD hS hA [16, 17, 18, 19, 20, 21, 22, 23, 24, 25, 26, 27, 28, 29] rfl
  refine va_callv (va_runV (As := [.ref k1_frame]) (rest := []) ⟨hx, hb, hml, hown, hts⟩ (c_X4_become l dC dI cy h_frame h_frame_split h_frame_told h_frame_quants h_frame_backs h_frame_rejoined h_frame_scales h_frame_needs h_frame_bits k1_frame k1_frame_split k1_frame_told k1_frame_quants k1_frame_backs k1_frame_rejoined k1_frame_scales k1_frame_needs k1_frame_bits H.size c_frame_twins c_frame_method c_frame_pool p1_frame_twins p1_frame_method p1_frame_pool p1_frame_split c_frame_split p1_frame_told c_frame_told p1_frame_quants c_frame_quants p1_frame_backs c_frame_backs p1_frame_scales c_frame_scales p1_frame_bits c_frame_bits _ hw) (cwV 1 hts (goodV mw_859 mw_856 mw_857 mw_858 mw_20) rfl rfl rfl (by decide +kernel) ⟨Nat.le_of_ble_eq_true rfl, Nat.le_of_ble_eq_true rfl⟩) ⟨PX_blind, va_recv hK hPc (ci := 4) (q0 := 0) rfl rfl, PX_pre hPc hK hDc hG⟩ rfl rfl hl.1 rfl (lv_room (Nat.le_of_ble_eq_true rfl)) dX2_become_38 ⟨Nat.zero_le _, Nat.zero_le _⟩) hS (fun q _ h => hFc q h) hFc ?_; clear hw hS; intro u t H1 locs1 ht hvm hw hB hz1 hk1 hS
  obtain ⟨x5, x6, x7, f8, f9, f10, f11, f12, f13⟩ := u
  obtain ⟨hP1, -, -⟩ := hB
  rw [ht] at hP1
  replace hP := jC0 hP hD [16, 17, 18, 19, 20, 21, 22, 23, 24, 25, 26, 27, 28, 29] [0, 1, 2, 3, 4, 5, 6, 7, 8, 9, 10, 11, 12, 13, 14, 15, 30, 31, 32, 33] rfl hk1 hP1 (w_X2_become h0 h_numbers h_trees h_samples h_frame h_code h_trees_0 h_trees_1 k1 k1_numbers k1_trees k1_samples k1_frame k1_code k1_trees_0 k1_trees_1 h_trees_0_memoriesA h_trees_0_memoriesB h_trees_0_row h_trees_0_next k1_trees_0_memoriesA k1_trees_0_memoriesB k1_trees_0_row k1_trees_0_next h_trees_1_memoriesA h_trees_1_memoriesB h_trees_1_row h_trees_1_next k1_trees_1_memoriesA k1_trees_1_memoriesB k1_trees_1_row k1_trees_1_next h_frame_split h_frame_told h_frame_quants h_frame_backs h_frame_rejoined h_frame_scales h_frame_needs h_frame_bits k1_frame_split k1_frame_told k1_frame_quants k1_frame_backs k1_frame_rejoined k1_frame_scales k1_frame_needs k1_frame_bits h_code_bytes k1_code_bytes cy p1_trees_0_memoriesA f1 p1_trees_0_memoriesB f2 p1_trees_1_memoriesA f3 p1_trees_1_memoriesB f4 x5 x6 x7 p1_frame_twins p1_frame_method p1_frame_pool p1_frame_split f8 p1_frame_told f9 p1_frame_quants f10 p1_frame_backs f11 p1_frame_scales f12 p1_frame_bits f13 c_code_size c_code_at p1_code_size p1_code_at p1_code_bytes c_code_bytes) rfl rfl rfl 34 rfl (by decide +kernel); clear hD; obtain ⟨hP, hD⟩ := hP
  replace hP : va_P (dC, dI) vwCl (w_X2_become h0 h_numbers h_trees h_samples h_frame h_code h_trees_0 h_trees_1 k1 k1_numbers k1_trees k1_samples k1_frame k1_code k1_trees_0 k1_trees_1 h_trees_0_memoriesA h_trees_0_memoriesB h_trees_0_row h_trees_0_next k1_trees_0_memoriesA k1_trees_0_memoriesB k1_trees_0_row k1_trees_0_next h_trees_1_memoriesA h_trees_1_memoriesB h_trees_1_row h_trees_1_next k1_trees_1_memoriesA k1_trees_1_memoriesB k1_trees_1_row k1_trees_1_next h_frame_split h_frame_told h_frame_quants h_frame_backs h_frame_rejoined h_frame_scales h_frame_needs h_frame_bits k1_frame_split k1_frame_told k1_frame_quants k1_frame_backs k1_frame_rejoined k1_frame_scales k1_frame_needs k1_frame_bits h_code_bytes k1_code_bytes cy p1_trees_0_memoriesA f1 p1_trees_0_memoriesB f2 p1_trees_1_memoriesA f3 p1_trees_1_memoriesB f4 x5 x6 x7 p1_frame_twins p1_frame_method p1_frame_pool p1_frame_split f8 p1_frame_told f9 p1_frame_quants f10 p1_frame_backs f11 p1_frame_scales f12 p1_frame_bits f13 c_code_size c_code_at p1_code_size p1_code_at p1_code_bytes c_code_bytes) H1 := hP
  replace hD : va_D A (w_X2_become h0 h_numbers h_trees h_samples h_frame h_code h_trees_0 h_trees_1 k1 k1_numbers k1_trees k1_samples k1_frame k1_code k1_trees_0 k1_trees_1 h_trees_0_memoriesA h_trees_0_memoriesB h_trees_0_row h_trees_0_next k1_trees_0_memoriesA k1_trees_0_memoriesB k1_trees_0_row k1_trees_0_next h_trees_1_memoriesA h_trees_1_memoriesB h_trees_1_row h_trees_1_next k1_trees_1_memoriesA k1_trees_1_memoriesB k1_trees_1_row k1_trees_1_next h_frame_split h_frame_told h_frame_quants h_frame_backs h_frame_rejoined h_frame_scales h_frame_needs h_frame_bits k1_frame_split k1_frame_told k1_frame_quants k1_frame_backs k1_frame_rejoined k1_frame_scales k1_frame_needs k1_frame_bits h_code_bytes k1_code_bytes cy p1_trees_0_memoriesA f1 p1_trees_0_memoriesB f2 p1_trees_1_memoriesA f3 p1_trees_1_memoriesB f4 x5 x6 x7 p1_frame_twins p1_frame_method p1_frame_pool p1_frame_split f8 p1_frame_told f9 p1_frame_quants f10 p1_frame_backs f11 p1_frame_scales f12 p1_frame_bits f13 c_code_size c_code_at p1_code_size p1_code_at p1_code_bytes c_code_bytes) := hD
  clear hPc hDc hFc hP1 hk1 hz1 hvm ht; clear t; clear H locs; obtain ⟨H, hH⟩ : ∃ H, H = H1 := ⟨_, rfl⟩; obtain ⟨locs, hlo⟩ : ∃ L, L = locs1 := ⟨_, rfl⟩; subst hH; subst hlo
  refine W.widen (k := 0) (n := 0) (Nat.le_refl 0) (Nat.le_refl 0) ?_
  refine lv_aload_n hx hb dX2_become_41 rfl (lv_at hl 0 rfl) ?_
  refine va_get (D := (dC, dI)) (ci := 2) (v := .ref h_code) (C := RX2) (T := TX2) (N := 5) hx hb hts inX2 hown hK hP 0 rfl rfl 4 (by decide) (hts _ (List.mem_cons_of_mem _ mw_108)) (fun _ h9 => h9) rfl dX2_become_42 ?_
  refine lv_aload_n hx hb dX2_become_45 rfl (lv_at hl 1 rfl) ?_
  refine va_get (D := (dC, dI)) (ci := 2) (v := .ref k1_code) (C := RX2) (T := TX2) (N := 5) hx hb hts inX2 hown hK hP 2 rfl rfl 4 (by decide) (hts _ (List.mem_cons_of_mem _ mw_108)) (fun _ h9 => h9) rfl dX2_become_46 ?_
  have hPc := pSub (ws' := (w_X1_become h_code h_code_bytes k1_code k1_code_bytes cy c_code_size c_code_at p1_code_size p1_code_at p1_code_bytes c_code_bytes)) hP [30, 31, 32, 33] rfl
  have hDc := dSub (ws' := (w_X1_become h_code h_code_bytes k1_code k1_code_bytes cy c_code_size c_code_at p1_code_size p1_code_at p1_code_bytes c_code_bytes)) hD [30, 31, 32, 33] (by decide) rfl
  have hFc := va_free (wc := (w_X1_become h_code h_code_bytes k1_code k1_code_bytes cy c_code_size c_code_at p1_code_size p1_code_at p1_code_bytes c_code_bytes)) hD hS hA [30, 31, 32, 33] rfl
  refine va_callv (va_runV (As := [.ref k1_code]) (rest := []) ⟨hx, hb, hml, hown, hts⟩ (c_X1_become l dC dI cy h_code h_code_bytes k1_code k1_code_bytes H.size c_code_size c_code_at p1_code_size p1_code_at p1_code_bytes c_code_bytes _ hw) (cwV 1 hts (goodV mw_396 mw_860 mw_394 mw_395 mw_24) rfl rfl rfl (by decide +kernel) ⟨Nat.le_of_ble_eq_true rfl, Nat.le_of_ble_eq_true rfl⟩) ⟨PX_blind, va_recv hK hPc (ci := 1) (q0 := 0) rfl rfl, PX_pre hPc hK hDc hG⟩ rfl rfl hl.1 rfl (lv_room (Nat.le_of_ble_eq_true rfl)) dX2_become_49 ⟨Nat.zero_le _, Nat.zero_le _⟩) hS (fun q _ h => hFc q h) hFc ?_; clear hw hS; intro u t H1 locs1 ht hvm hw hB hz1 hk1 hS
  obtain ⟨x14, f15⟩ := u
  obtain ⟨hP1, -, -⟩ := hB
  rw [ht] at hP1
  replace hP := jC0 hP hD [30, 31, 32, 33] [0, 1, 2, 3, 4, 5, 6, 7, 8, 9, 10, 11, 12, 13, 14, 15, 16, 17, 18, 19, 20, 21, 22, 23, 24, 25, 26, 27, 28, 29] rfl hk1 hP1 (w_X2_become h0 h_numbers h_trees h_samples h_frame h_code h_trees_0 h_trees_1 k1 k1_numbers k1_trees k1_samples k1_frame k1_code k1_trees_0 k1_trees_1 h_trees_0_memoriesA h_trees_0_memoriesB h_trees_0_row h_trees_0_next k1_trees_0_memoriesA k1_trees_0_memoriesB k1_trees_0_row k1_trees_0_next h_trees_1_memoriesA h_trees_1_memoriesB h_trees_1_row h_trees_1_next k1_trees_1_memoriesA k1_trees_1_memoriesB k1_trees_1_row k1_trees_1_next h_frame_split h_frame_told h_frame_quants h_frame_backs h_frame_rejoined h_frame_scales h_frame_needs h_frame_bits k1_frame_split k1_frame_told k1_frame_quants k1_frame_backs k1_frame_rejoined k1_frame_scales k1_frame_needs k1_frame_bits h_code_bytes k1_code_bytes cy p1_trees_0_memoriesA f1 p1_trees_0_memoriesB f2 p1_trees_1_memoriesA f3 p1_trees_1_memoriesB f4 x5 x6 x7 p1_frame_twins p1_frame_method p1_frame_pool p1_frame_split f8 p1_frame_told f9 p1_frame_quants f10 p1_frame_backs f11 p1_frame_scales f12 p1_frame_bits f13 x14 c_code_at p1_code_size p1_code_at p1_code_bytes f15) rfl rfl rfl 34 rfl (by decide +kernel); clear hD; obtain ⟨hP, hD⟩ := hP
  replace hP : va_P (dC, dI) vwCl (w_X2_become h0 h_numbers h_trees h_samples h_frame h_code h_trees_0 h_trees_1 k1 k1_numbers k1_trees k1_samples k1_frame k1_code k1_trees_0 k1_trees_1 h_trees_0_memoriesA h_trees_0_memoriesB h_trees_0_row h_trees_0_next k1_trees_0_memoriesA k1_trees_0_memoriesB k1_trees_0_row k1_trees_0_next h_trees_1_memoriesA h_trees_1_memoriesB h_trees_1_row h_trees_1_next k1_trees_1_memoriesA k1_trees_1_memoriesB k1_trees_1_row k1_trees_1_next h_frame_split h_frame_told h_frame_quants h_frame_backs h_frame_rejoined h_frame_scales h_frame_needs h_frame_bits k1_frame_split k1_frame_told k1_frame_quants k1_frame_backs k1_frame_rejoined k1_frame_scales k1_frame_needs k1_frame_bits h_code_bytes k1_code_bytes cy p1_trees_0_memoriesA f1 p1_trees_0_memoriesB f2 p1_trees_1_memoriesA f3 p1_trees_1_memoriesB f4 x5 x6 x7 p1_frame_twins p1_frame_method p1_frame_pool p1_frame_split f8 p1_frame_told f9 p1_frame_quants f10 p1_frame_backs f11 p1_frame_scales f12 p1_frame_bits f13 x14 c_code_at p1_code_size p1_code_at p1_code_bytes f15) H1 := hP
  replace hD : va_D A (w_X2_become h0 h_numbers h_trees h_samples h_frame h_code h_trees_0 h_trees_1 k1 k1_numbers k1_trees k1_samples k1_frame k1_code k1_trees_0 k1_trees_1 h_trees_0_memoriesA h_trees_0_memoriesB h_trees_0_row h_trees_0_next k1_trees_0_memoriesA k1_trees_0_memoriesB k1_trees_0_row k1_trees_0_next h_trees_1_memoriesA h_trees_1_memoriesB h_trees_1_row h_trees_1_next k1_trees_1_memoriesA k1_trees_1_memoriesB k1_trees_1_row k1_trees_1_next h_frame_split h_frame_told h_frame_quants h_frame_backs h_frame_rejoined h_frame_scales h_frame_needs h_frame_bits k1_frame_split k1_frame_told k1_frame_quants k1_frame_backs k1_frame_rejoined k1_frame_scales k1_frame_needs k1_frame_bits h_code_bytes k1_code_bytes cy p1_trees_0_memoriesA f1 p1_trees_0_memoriesB f2 p1_trees_1_memoriesA f3 p1_trees_1_memoriesB f4 x5 x6 x7 p1_frame_twins p1_frame_method p1_frame_pool p1_frame_split f8 p1_frame_told f9 p1_frame_quants f10 p1_frame_backs f11 p1_frame_scales f12 p1_frame_bits f13 x14 c_code_at p1_code_size p1_code_at p1_code_bytes f15) := hD
  clear hPc hDc hFc hP1 hk1 hz1 hvm ht; clear t; clear H locs; obtain ⟨H, hH⟩ : ∃ H, H = H1 := ⟨_, rfl⟩; obtain ⟨locs, hlo⟩ : ∃ L, L = locs1 := ⟨_, rfl⟩; subst hH; subst hlo
  refine W.widen (k := 0) (n := 0) (Nat.le_refl 0) (Nat.le_refl 0) ?_
  subst hQe
  exact W.vret hx hb hr (fun t ht hW => ⟨⟨(f1, f2, f3, f4, x5, x6, x7, f8, f9, f10, f11, f12, f13, x14, f15), rfl, hw, by rw [ht]; exact hP, va_K.moved hW.alike hK, hD⟩, hS.F ht⟩) hS.2.2 dX2_become_52
set_option maxHeartbeats 4000000 in
set_option maxRecDepth 100000 in
theorem c_X11_nearestSample (l : Launch) (dC : Nat → ClassId) (dI : Nat → Nat → Nat) (cy : Nat → ClassId) (sz : Nat) (v0 : Int32) (post : Int32 → Prop) (hw : wp_X11_nearestSample v0 post) : Met l yX11_nearestSample wsX11_nearestSample ({ frames := 1, cells := 0, slots := 0, locals := 22 }) (PX dC dI cy [.int v0] sz (w_X11_nearestSample cy)) (va_Qi (fun (r : Int32) (u : Unit) => post r) (QX dC dI cy (va_A (w_X11_nearestSample cy) sz) (fun (u : Unit) => w_X11_nearestSample cy)) (va_A (w_X11_nearestSample cy) sz)) 0 0 (va_A (w_X11_nearestSample cy) sz) := by
  refine Met.ofW (cc := cX11_nearestSample) (maxL := 1) (ret := (some .int)) (by decide) rfl ?_
  intro p e s m args below meth c s₁ B hml hv
  obtain ⟨rfl, hsz, hP, hK, hD0, hG⟩ := hv
  have hx := B.exec
  have hb := B.bytes
  have hr := B.returns
  have hts := atoms_spec (ws := wsX11_nearestSample) B.pre
  have hown : s.vm.findClass RX11 = some m.cls := findClass_of_methodNamed B.named
  have hlocks := B.notSynchronized
  subst hsz
  have hD := hD0.self (sz := s.heap.size)
  generalize hAe : va_A (w_X11_nearestSample cy) s.heap.size = A at hD ⊢
  have hA : ∀ q : Nat, s.heap.size ≤ q → A q := fun q h => by rw [← hAe]; exact Or.inr h
  have hS : va_S A s.heap s.heap [] := va_S.rf
  have hl := lv_entry ([.int v0]) (n := 1) (Nat.le_of_ble_eq_true rfl)
  rw [lg_entry_eq]
  generalize (lg_sl ([.int v0]) ++ List.replicate (1 - (lg_sl ([.int v0])).length) Slot.unset).toArray = ls at hl ⊢
  replace hl : lv_has ls 1 [(0, .int v0)] := hl
  clear hAe hD0 B
  unfold wp_X11_nearestSample at hw
  generalize hQe : MQ below _ _ s _ _ _ = Q0
  generalize ([.int v0] : List Value).toArray = av at *
  obtain ⟨H, hH⟩ : ∃ H, H = s.heap := ⟨_, rfl⟩
  obtain ⟨locs, hlo⟩ : ∃ L : List Loc, L = [] := ⟨_, rfl⟩
  replace hP : va_P (dC, dI) vwCl (w_X11_nearestSample cy) H := by rw [hH]; exact hP
  replace hS : va_S A s.heap H locs := by rw [hH, hlo]; exact hS
  suffices hgo : W p l e ({ frames := 1, cells := 0, slots := 0, locals := 22 }) s m av below meth c H locs 0 0 Q0 (F0 m 0 ls []) by rw [hH, hlo] at hgo; exact hgo
  clear hH hlo
  refine lv_iload_n hx hb dX11_nearestSample_0 rfl (lv_at hl 0 rfl) ?_
  refine lv_sipush (v := -2048) hx hb dX11_nearestSample_1 (by decide) ?_
  refine lv_sipush (v := 2047) hx hb dX11_nearestSample_4 (by decide) ?_
  have hPc := pSub (ws' := (w_X11_nearest cy)) hP [] rfl
  have hDc := dSub (ws' := (w_X11_nearest cy)) hD [] (by decide) rfl
  have hFc := va_free (wc := (w_X11_nearest cy)) hD hS hA [] rfl
  refine va_calli (va_runS (As := [.int v0, .int (-2048 : Int32), .int (2047 : Int32)]) (rest := []) ⟨hx, hb, hml, hown, hts⟩ (c_X11_nearest l dC dI cy  H.size v0 (-2048 : Int32) (2047 : Int32) _ hw) (va_cwS 3 hts (goodS mw_276 mw_274 mw_275 mw_2) rfl rfl rfl (by decide +kernel) ⟨Nat.le_of_ble_eq_true rfl, Nat.le_of_ble_eq_true rfl⟩) ⟨PX_blind, PX_pre hPc hK hDc hG⟩ rfl rfl hl.1 rfl (lv_room (Nat.le_of_ble_eq_true rfl)) dX11_nearestSample_7 ⟨Nat.zero_le _, Nat.zero_le _⟩) hS (fun q _ h => hFc q h) hFc ?_; clear hw hS; intro r1 _ t H1 locs1 ht hvm hw hB hz1 hk1 hS
  obtain ⟨hP1, -, -⟩ := hB
  rw [ht] at hP1
  replace hP := jC0 hP hD [] [] rfl hk1 hP1 (w_X11_nearestSample cy) rfl rfl rfl 0 rfl (by decide +kernel); clear hD; obtain ⟨hP, hD⟩ := hP
  replace hP : va_P (dC, dI) vwCl (w_X11_nearestSample cy) H1 := hP
  replace hD : va_D A (w_X11_nearestSample cy) := hD
  clear hPc hDc hFc hP1 hk1 hz1 hvm ht; clear t; clear H locs; obtain ⟨H, hH⟩ : ∃ H, H = H1 := ⟨_, rfl⟩; obtain ⟨locs, hlo⟩ : ∃ L, L = locs1 := ⟨_, rfl⟩; subst hH; subst hlo
  refine W.widen (k := 0) (n := 0) (Nat.le_refl 0) (Nat.le_refl 0) ?_
  subst hQe
  exact W.iret (v := r1) hx hb hr (fun t ht hW => ⟨⟨r1, (), rfl, hw, by rw [ht]; exact hP, va_K.moved hW.alike hK, hD⟩, hS.F ht⟩) hS.2.2 dX11_nearestSample_10
set_option maxHeartbeats 4000000 in
set_option maxRecDepth 100000 in
theorem c_X11_sampleOf (l : Launch) (dC : Nat → ClassId) (dI : Nat → Nat → Nat) (cy : Nat → ClassId) (k0 : Nat) (n_p0 : Nat) (sz : Nat) (v1 : Int32) (v2 : Int32) (p0 : Nat → Int32) (post : Int32 → Prop) (hw : wp_X11_sampleOf n_p0 v1 v2 p0 post) : Met l yX11_sampleOf wsX11_sampleOf ({ frames := 2, cells := 0, slots := 0, locals := 42 }) (PX dC dI cy [.ref k0, .int v1, .int v2] sz (w_X11_sampleOf k0 cy n_p0 p0)) (va_Qi (fun (r : Int32) (u : Unit) => post r) (QX dC dI cy (va_A (w_X11_sampleOf k0 cy n_p0 p0) sz) (fun (u : Unit) => w_X11_sampleOf k0 cy n_p0 p0)) (va_A (w_X11_sampleOf k0 cy n_p0 p0) sz)) 0 0 (va_A (w_X11_sampleOf k0 cy n_p0 p0) sz) := by
  refine Met.ofW (cc := cX11_sampleOf) (maxL := 11) (ret := (some .int)) (by decide) rfl ?_
  intro p e s m args below meth c s₁ B hml hv
  obtain ⟨rfl, hsz, hP, hK, hD0, hG⟩ := hv
  have hx := B.exec
  have hb := B.bytes
  have hr := B.returns
  have hts := atoms_spec (ws := wsX11_sampleOf) B.pre
  have hown : s.vm.findClass RX11 = some m.cls := findClass_of_methodNamed B.named
  have hlocks := B.notSynchronized
  subst hsz
  have hD := hD0.self (sz := s.heap.size)
  generalize hAe : va_A (w_X11_sampleOf k0 cy n_p0 p0) s.heap.size = A at hD ⊢
  have hA : ∀ q : Nat, s.heap.size ≤ q → A q := fun q h => by rw [← hAe]; exact Or.inr h
  have hS : va_S A s.heap s.heap [] := va_S.rf
  have hl := lv_entry ([.ref k0, .int v1, .int v2]) (n := 11) (Nat.le_of_ble_eq_true rfl)
  rw [lg_entry_eq]
  generalize (lg_sl ([.ref k0, .int v1, .int v2]) ++ List.replicate (11 - (lg_sl ([.ref k0, .int v1, .int v2])).length) Slot.unset).toArray = ls at hl ⊢
  replace hl : lv_has ls 11 [(0, .ref k0), (1, .int v1), (2, .int v2)] := hl
  clear hAe hD0 B
  unfold wp_X11_sampleOf at hw
  generalize hQe : MQ below _ _ s _ _ _ = Q0
  generalize ([.ref k0, .int v1, .int v2] : List Value).toArray = av at *
  obtain ⟨H, hH⟩ : ∃ H, H = s.heap := ⟨_, rfl⟩
  obtain ⟨locs, hlo⟩ : ∃ L : List Loc, L = [] := ⟨_, rfl⟩
  replace hP : va_P (dC, dI) vwCl (w_X11_sampleOf k0 cy n_p0 p0) H := by rw [hH]; exact hP
  replace hS : va_S A s.heap H locs := by rw [hH, hlo]; exact hS
  suffices hgo : W p l e ({ frames := 2, cells := 0, slots := 0, locals := 42 }) s m av below meth c H locs 0 0 Q0 (F0 m 0 ls []) by rw [hH, hlo] at hgo; exact hgo
  clear hH hlo
  refine lv_bipush (v := 48) hx hb dX11_sampleOf_0 (by decide) ?_
  refine lv_iconst (v := 3) hx hb dX11_sampleOf_2 (by decide) ?_
  refine lv_iload_n hx hb dX11_sampleOf_3 rfl (lv_at hl 1 rfl) ?_
  refine lv_imul hx hb dX11_sampleOf_4 ?_
  refine lv_iadd hx hb dX11_sampleOf_5 ?_
  refine lv_topi (fun x1 e_x1 => ?_)
  replace hw := hw x1 e_x1
  clear e_x1
  refine lv_istore_n (lv' := [(3, .int x1), (0, .ref k0), (1, .int v1), (2, .int v2)]) hx hb dX11_sampleOf_6 rfl hl (by decide) rfl ?_; clear hl; clear ls; intro ls hl
  refine lv_iconst (v := 1) hx hb dX11_sampleOf_7 (by decide) ?_
  refine lv_aload_n hx hb dX11_sampleOf_8 rfl (lv_at hl 1 rfl) ?_
  refine lv_iload_n hx hb dX11_sampleOf_9 rfl (lv_at hl 0 rfl) ?_
  obtain ⟨h2, hw⟩ := hw
  refine xiald (k := x1.toNatClampNeg) hx hb hK hP 0 0 rfl rfl h2 rfl dX11_sampleOf_10 ?_
  refine va_mmax hx hb (by rw [hml]; exact hl.1.symm) hown (hts _ (List.mem_cons_of_mem _ mw_269)) (hts _ (List.mem_cons_of_mem _ mw_75)) (hts _ (List.mem_cons_of_mem _ mw_76)) (hts _ (List.mem_cons_of_mem _ mw_77)) (Nat.le_of_ble_eq_true rfl) (Nat.le_of_ble_eq_true rfl) (Nat.zero_le _) (Nat.zero_le _) dX11_sampleOf_11 ?_
  refine lv_topi (fun x3 e_x3 => ?_)
  replace hw := hw x3 e_x3
  clear e_x3
  refine lv_istore (lv' := [(4, .int x3), (3, .int x1), (0, .ref k0), (1, .int v1), (2, .int v2)]) hx hb dX11_sampleOf_14 hl (by decide) rfl ?_; clear hl; clear ls; intro ls hl
  refine lv_aload_n hx hb dX11_sampleOf_16 rfl (lv_at hl 2 rfl) ?_
  refine lv_iload_n hx hb dX11_sampleOf_17 rfl (lv_at hl 1 rfl) ?_
  refine lv_iconst (v := 1) hx hb dX11_sampleOf_18 (by decide) ?_
  refine lv_iadd hx hb dX11_sampleOf_19 ?_
  obtain ⟨h4, hw⟩ := hw
  refine xiald (k := (x1 + (1 : Int32)).toNatClampNeg) hx hb hK hP 0 0 rfl rfl h4 rfl dX11_sampleOf_20 ?_
  refine lv_topi (fun x5 e_x5 => ?_)
  replace hw := hw x5 e_x5
  clear e_x5
  refine lv_istore (lv' := [(5, .int x5), (4, .int x3), (3, .int x1), (0, .ref k0), (1, .int v1), (2, .int v2)]) hx hb dX11_sampleOf_21 hl (by decide) rfl ?_; clear hl; clear ls; intro ls hl
  refine lv_aload_n hx hb dX11_sampleOf_23 rfl (lv_at hl 3 rfl) ?_
  refine lv_iload_n hx hb dX11_sampleOf_24 rfl (lv_at hl 2 rfl) ?_
  refine lv_iconst (v := 2) hx hb dX11_sampleOf_25 (by decide) ?_
  refine lv_iadd hx hb dX11_sampleOf_26 ?_
  obtain ⟨h6, hw⟩ := hw
  refine xiald (k := (x1 + (2 : Int32)).toNatClampNeg) hx hb hK hP 0 0 rfl rfl h6 rfl dX11_sampleOf_27 ?_
  refine lv_topi (fun x7 e_x7 => ?_)
  replace hw := hw x7 e_x7
  clear e_x7
  refine lv_istore (lv' := [(6, .int x7), (5, .int x5), (4, .int x3), (3, .int x1), (0, .ref k0), (1, .int v1), (2, .int v2)]) hx hb dX11_sampleOf_28 hl (by decide) rfl ?_; clear hl; clear ls; intro ls hl
  refine lv_iload_n hx hb dX11_sampleOf_30 rfl (lv_at hl 6 rfl) ?_
  refine lv_iload hx hb dX11_sampleOf_31 (lv_at hl 2 rfl) ?_
  obtain ⟨h8, hw⟩ := hw
  refine lv_irem hx hb dX11_sampleOf_33 h8 ?_
  refine lv_topi (fun x9 e_x9 => ?_)
  replace hw := hw x9 e_x9
  clear e_x9
  refine lv_istore (lv' := [(7, .int x9), (6, .int x7), (5, .int x5), (4, .int x3), (3, .int x1), (0, .ref k0), (1, .int v1), (2, .int v2)]) hx hb dX11_sampleOf_34 hl (by decide) rfl ?_; clear hl; clear ls; intro ls hl
  refine lv_iconst (v := 4) hx hb dX11_sampleOf_36 (by decide) ?_
  refine lv_iload hx hb dX11_sampleOf_37 (lv_at hl 2 rfl) ?_
  refine lv_imul hx hb dX11_sampleOf_39 ?_
  refine lv_iload hx hb dX11_sampleOf_40 (lv_at hl 0 rfl) ?_
  refine lv_imul hx hb dX11_sampleOf_42 ?_
  refine lv_iload hx hb dX11_sampleOf_43 (lv_at hl 3 rfl) ?_
  obtain ⟨h10, hw⟩ := hw
  refine lv_idiv hx hb dX11_sampleOf_45 h10 ?_
  refine lv_topi (fun x11 e_x11 => ?_)
  replace hw := hw x11 e_x11
  clear e_x11
  refine lv_istore (lv' := [(8, .int x11), (7, .int x9), (6, .int x7), (5, .int x5), (4, .int x3), (3, .int x1), (0, .ref k0), (1, .int v1), (2, .int v2)]) hx hb dX11_sampleOf_46 hl (by decide) rfl ?_; clear hl; clear ls; intro ls hl
  refine lv_iconst (v := 2) hx hb dX11_sampleOf_48 (by decide) ?_
  refine lv_iload hx hb dX11_sampleOf_49 (lv_at hl 1 rfl) ?_
  refine lv_imul hx hb dX11_sampleOf_51 ?_
  refine lv_iload hx hb dX11_sampleOf_52 (lv_at hl 4 rfl) ?_
  refine jn1 (Gg := fun (x12 : Int32) => ∀ (H : Heap) (locs : List Loc) (ls : Array Slot), va_P (dC, dI) vwCl (w_X11_sampleOf k0 cy n_p0 p0) H → va_D A (w_X11_sampleOf k0 cy n_p0 p0) → va_S A s.heap H locs → lv_has ls 11 [(0, .ref k0), (1, .int v1), (2, .int v2), (6, .int x7)] → W p l e { frames := 2, cells := 0, slots := 0, locals := 42 } s m av below meth c H locs 0 0 Q0 (F0 m 72 ls [.int x12])) hw ?_ ?_ <;> clear hw
  · clear hP hD hS hl; clear H locs ls; intro x12 hw H locs ls hP hD hS hl
    refine lv_istore (lv' := [(9, .int x12), (0, .ref k0), (1, .int v1), (2, .int v2), (6, .int x7)]) hx hb dX11_sampleOf_72 hl (by decide) rfl ?_; clear hl; clear ls; intro ls hl
    refine lv_iload hx hb dX11_sampleOf_74 (lv_at hl 4 rfl) ?_
    refine jn1 (Gg := fun (x15 : Int32) => ∀ (H : Heap) (locs : List Loc) (ls : Array Slot), va_P (dC, dI) vwCl (w_X11_sampleOf k0 cy n_p0 p0) H → va_D A (w_X11_sampleOf k0 cy n_p0 p0) → va_S A s.heap H locs → lv_has ls 11 [(9, .int x15)] → W p l e { frames := 2, cells := 0, slots := 0, locals := 42 } s m av below meth c H locs 0 0 Q0 (F0 m 118 ls [])) hw ?_ ?_ <;> clear hw
    · clear hP hD hS hl; clear H locs ls; intro x15 hw H locs ls hP hD hS hl
      refine lv_iload hx hb dX11_sampleOf_118 (lv_at hl 0 rfl) ?_
      have hPc := pSub (ws' := (w_X11_nearestSample cy)) hP [] rfl
      have hDc := dSub (ws' := (w_X11_nearestSample cy)) hD [] (by decide) rfl
      have hFc := va_free (wc := (w_X11_nearestSample cy)) hD hS hA [] rfl
      refine va_calli (va_runS (As := [.int x15]) (rest := []) ⟨hx, hb, hml, hown, hts⟩ (c_X11_nearestSample l dC dI cy  H.size x15 _ hw) (va_cwS 1 hts (goodS mw_273 mw_271 mw_272 mw_2) rfl rfl rfl (by decide +kernel) ⟨Nat.le_of_ble_eq_true rfl, Nat.le_of_ble_eq_true rfl⟩) ⟨PX_blind, PX_pre hPc hK hDc hG⟩ rfl rfl hl.1 rfl (lv_room (Nat.le_of_ble_eq_true rfl)) dX11_sampleOf_120 ⟨Nat.zero_le _, Nat.zero_le _⟩) hS (fun q _ h => hFc q h) hFc ?_; clear hw hS; intro r18 _ t H1 locs1 ht hvm hw hB hz1 hk1 hS
      obtain ⟨hP1, -, -⟩ := hB
      rw [ht] at hP1
      replace hP := jC0 hP hD [] [0] rfl hk1 hP1 (w_X11_sampleOf k0 cy n_p0 p0) rfl rfl rfl 1 rfl (by decide +kernel); clear hD; obtain ⟨hP, hD⟩ := hP
      replace hP : va_P (dC, dI) vwCl (w_X11_sampleOf k0 cy n_p0 p0) H1 := hP
      replace hD : va_D A (w_X11_sampleOf k0 cy n_p0 p0) := hD
      clear hPc hDc hFc hP1 hk1 hz1 hvm ht; clear t; clear H locs; obtain ⟨H, hH⟩ : ∃ H, H = H1 := ⟨_, rfl⟩; obtain ⟨locs, hlo⟩ : ∃ L, L = locs1 := ⟨_, rfl⟩; subst hH; subst hlo
      refine W.widen (k := 0) (n := 0) (Nat.le_refl 0) (Nat.le_refl 0) ?_
      subst hQe
      exact W.iret (v := r18) hx hb hr (fun t ht hW => ⟨⟨r18, (), rfl, hw, by rw [ht]; exact hP, va_K.moved hW.alike hK, hD⟩, hS.F ht⟩) hS.2.2 dX11_sampleOf_123
    · intro j17 hw
      refine lv_if_le (tgt := 118) hx hb dX11_sampleOf_76 (by decide) (fun c19 => ?_) (fun c19 => ?_)
      · replace hw := hw.1 c19
        exact j17 x12 hw H locs ls hP hD hS (lv_sub hl [0] rfl)
      · replace hw := hw.2 c19
        refine lv_sipush (v := 7919) hx hb dX11_sampleOf_79 (by decide) ?_
        refine lv_iload_n hx hb dX11_sampleOf_82 rfl (lv_at hl 3 rfl) ?_
        refine lv_imul hx hb dX11_sampleOf_83 ?_
        refine lv_ldcw (v := 104729) hx hb hown (hts _ (List.mem_cons_of_mem _ mw_270)) dX11_sampleOf_84 ?_
        refine lv_iload_n hx hb dX11_sampleOf_87 rfl (lv_at hl 2 rfl) ?_
        refine lv_imul hx hb dX11_sampleOf_88 ?_
        refine lv_iadd hx hb dX11_sampleOf_89 ?_
        refine lv_aload_n hx hb dX11_sampleOf_90 rfl (lv_at hl 1 rfl) ?_
        refine lv_bipush (v := 20) hx hb dX11_sampleOf_91 (by decide) ?_
        obtain ⟨h20, hw⟩ := hw
        refine xiald (k := (20 : Int32).toNatClampNeg) hx hb hK hP 0 0 rfl rfl h20 rfl dX11_sampleOf_93 ?_
        refine lv_iadd hx hb dX11_sampleOf_94 ?_
        refine lv_sipush (v := 10007) hx hb dX11_sampleOf_95 (by decide) ?_
        refine lv_irem hx hb dX11_sampleOf_98 (by decide) ?_
        refine lv_topi (fun x21 e_x21 => ?_)
        replace hw := hw x21 e_x21
        clear e_x21
        refine lv_istore (lv' := [(10, .int x21), (9, .int x12), (0, .ref k0), (1, .int v1), (2, .int v2), (6, .int x7)]) hx hb dX11_sampleOf_99 hl (by decide) rfl ?_; clear hl; clear ls; intro ls hl
        refine lv_iload hx hb dX11_sampleOf_101 (lv_at hl 1 rfl) ?_
        refine lv_iload hx hb dX11_sampleOf_103 (lv_at hl 0 rfl) ?_
        refine lv_iconst (v := 2) hx hb dX11_sampleOf_105 (by decide) ?_
        refine lv_iload hx hb dX11_sampleOf_106 (lv_at hl 5 rfl) ?_
        refine lv_imul hx hb dX11_sampleOf_108 ?_
        refine lv_iconst (v := 1) hx hb dX11_sampleOf_109 (by decide) ?_
        refine lv_iadd hx hb dX11_sampleOf_110 ?_
        obtain ⟨h22, hw⟩ := hw
        refine lv_irem hx hb dX11_sampleOf_111 h22 ?_
        refine lv_topi (fun x23 e_x23 => ?_)
        replace hw := hw x23 e_x23
        clear e_x23
        refine lv_iload hx hb dX11_sampleOf_112 (lv_at hl 5 rfl) ?_
        refine lv_isub hx hb dX11_sampleOf_114 ?_
        refine lv_iadd hx hb dX11_sampleOf_115 ?_
        refine lv_topi (fun x24 e_x24 => ?_)
        replace hw := hw x24 e_x24
        clear e_x24
        refine lv_istore (lv' := [(9, .int x24), (10, .int x21), (0, .ref k0), (1, .int v1), (2, .int v2), (6, .int x7)]) hx hb dX11_sampleOf_116 hl (by decide) rfl ?_; clear hl; clear ls; intro ls hl
        exact j17 x24 hw H locs ls hP hD hS (lv_sub hl [0] rfl)
  · intro j14 hw
    refine lv_icmp_ge (tgt := 65) hx hb dX11_sampleOf_54 (by decide) (fun c25 => ?_) (fun c25 => ?_)
    · replace hw := hw.1 c25
      refine lv_iconst (v := 3) hx hb dX11_sampleOf_65 (by decide) ?_
      refine lv_iload hx hb dX11_sampleOf_66 (lv_at hl 3 rfl) ?_
      refine lv_imul hx hb dX11_sampleOf_68 ?_
      refine lv_iload hx hb dX11_sampleOf_69 (lv_at hl 0 rfl) ?_
      refine lv_isub hx hb dX11_sampleOf_71 ?_
      exact j14 (((3 : Int32) * x5) - x11) hw H locs ls hP hD hS (lv_sub hl [6, 7, 8, 2] rfl)
    · replace hw := hw.2 c25
      refine lv_iload hx hb dX11_sampleOf_57 (lv_at hl 0 rfl) ?_
      refine lv_iload hx hb dX11_sampleOf_59 (lv_at hl 3 rfl) ?_
      refine lv_isub hx hb dX11_sampleOf_61 ?_
      refine lv_goto (tgt := 72) hx hb dX11_sampleOf_62 (by decide) ?_
      exact j14 (x11 - x5) hw H locs ls hP hD hS (lv_sub hl [6, 7, 8, 2] rfl)
set_option maxHeartbeats 4000000 in
set_option maxRecDepth 100000 in
theorem c_X4_need (l : Launch) (dC : Nat → ClassId) (dI : Nat → Nat → Nat) (cy : Nat → ClassId) (h0 h_split h_told h_quants h_backs h_rejoined h_scales h_needs h_bits k3 : Nat) (n_p3 : Nat) (sz : Nat) (v1 : Int32) (v2 : Int32) (c_twins : Int32) (c_method : Int32) (c_pool : Int32) (c_scales : Nat → Int32) (p3 : Nat → Int32) (post : Int32 → Prop) (hw : wp_X4_need n_p3 v1 v2 c_scales p3 post) : Met l yX4_need wsX4_need ({ frames := 0, cells := 0, slots := 0, locals := 0 }) (PX dC dI cy [.ref h0, .int v1, .int v2, .ref k3] sz (w_X4_need h0 h_split h_told h_quants h_backs h_rejoined h_scales h_needs h_bits k3 cy n_p3 c_twins c_method c_pool c_scales p3)) (va_Qi (fun (r : Int32) (u : Unit) => post r) (QX dC dI cy (va_A (w_X4_need h0 h_split h_told h_quants h_backs h_rejoined h_scales h_needs h_bits k3 cy n_p3 c_twins c_method c_pool c_scales p3) sz) (fun (u : Unit) => w_X4_need h0 h_split h_told h_quants h_backs h_rejoined h_scales h_needs h_bits k3 cy n_p3 c_twins c_method c_pool c_scales p3)) (va_A (w_X4_need h0 h_split h_told h_quants h_backs h_rejoined h_scales h_needs h_bits k3 cy n_p3 c_twins c_method c_pool c_scales p3) sz)) 0 0 (va_A (w_X4_need h0 h_split h_told h_quants h_backs h_rejoined h_scales h_needs h_bits k3 cy n_p3 c_twins c_method c_pool c_scales p3) sz) := by
  refine Met.ofW (cc := cX4_need) (maxL := 6) (ret := (some .int)) (by decide) rfl ?_
  intro p e s m args below meth c s₁ B hml hv
  obtain ⟨rfl, hsz, hP, hK, hD0, hG⟩ := hv
  have hx := B.exec
  have hb := B.bytes
  have hr := B.returns
  have hts := atoms_spec (ws := wsX4_need) B.pre
  have hown : s.vm.findClass RX4 = some m.cls := findClass_of_methodNamed B.named
  have hlocks := B.notSynchronized
  subst hsz
  have hD := hD0.self (sz := s.heap.size)
  generalize hAe : va_A (w_X4_need h0 h_split h_told h_quants h_backs h_rejoined h_scales h_needs h_bits k3 cy n_p3 c_twins c_method c_pool c_scales p3) s.heap.size = A at hD ⊢
  have hA : ∀ q : Nat, s.heap.size ≤ q → A q := fun q h => by rw [← hAe]; exact Or.inr h
  have hS : va_S A s.heap s.heap [] := va_S.rf
  have hl := lv_entry ([.ref h0, .int v1, .int v2, .ref k3]) (n := 6) (Nat.le_of_ble_eq_true rfl)
  rw [lg_entry_eq]
  generalize (lg_sl ([.ref h0, .int v1, .int v2, .ref k3]) ++ List.replicate (6 - (lg_sl ([.ref h0, .int v1, .int v2, .ref k3])).length) Slot.unset).toArray = ls at hl ⊢
  replace hl : lv_has ls 6 [(0, .ref h0), (1, .int v1), (2, .int v2), (3, .ref k3)] := hl
  have inX4 : ∀ w ∈ u_ws RX4 TX4 11, w ∈ wsX4_need := fun w h => List.mem_cons_of_mem _ (inlX4 w h)
  clear hAe hD0 B
  unfold wp_X4_need at hw
  generalize hQe : MQ below _ _ s _ _ _ = Q0
  generalize ([.ref h0, .int v1, .int v2, .ref k3] : List Value).toArray = av at *
  obtain ⟨H, hH⟩ : ∃ H, H = s.heap := ⟨_, rfl⟩
  obtain ⟨locs, hlo⟩ : ∃ L : List Loc, L = [] := ⟨_, rfl⟩
  replace hP : va_P (dC, dI) vwCl (w_X4_need h0 h_split h_told h_quants h_backs h_rejoined h_scales h_needs h_bits k3 cy n_p3 c_twins c_method c_pool c_scales p3) H := by rw [hH]; exact hP
  replace hS : va_S A s.heap H locs := by rw [hH, hlo]; exact hS
  suffices hgo : W p l e ({ frames := 0, cells := 0, slots := 0, locals := 0 }) s m av below meth c H locs 0 0 Q0 (F0 m 0 ls []) by rw [hH, hlo] at hgo; exact hgo
  clear hH hlo
  refine lv_aload_n hx hb dX4_need_0 rfl (lv_at hl 0 rfl) ?_
  refine va_get (D := (dC, dI)) (ci := 4) (v := .ref h_scales) (C := RX4) (T := TX4) (N := 11) hx hb hts inX4 hown hK hP 0 rfl rfl 5 (by decide) (hts _ (List.mem_cons_of_mem _ mw_125)) (fun _ h9 => h9) rfl dX4_need_1 ?_
  refine lv_iload_n hx hb dX4_need_4 rfl (lv_at hl 1 rfl) ?_
  obtain ⟨h1, hw⟩ := hw
  refine xiald (k := v1.toNatClampNeg) hx hb hK hP 1 0 rfl rfl h1 rfl dX4_need_5 ?_
  refine lv_topi (fun x2 e_x2 => ?_)
  replace hw := hw x2 e_x2
  clear e_x2
  refine lv_istore (lv' := [(4, .int x2), (0, .ref h0), (1, .int v1), (2, .int v2), (3, .ref k3)]) hx hb dX4_need_6 hl (by decide) rfl ?_; clear hl; clear ls; intro ls hl
  refine lv_iload hx hb dX4_need_8 (lv_at hl 0 rfl) ?_
  refine lv_if_eq (tgt := 17) hx hb dX4_need_10 (by decide) (fun c3 => ?_) (fun c3 => ?_)
  · replace hw := hw.1 c3
    refine lv_iload hx hb dX4_need_17 (lv_at hl 0 rfl) ?_
    subst hQe
    exact W.iret (v := x2) hx hb hr (fun t ht hW => ⟨⟨x2, (), rfl, hw, by rw [ht]; exact hP, va_K.moved hW.alike hK, hD⟩, hS.F ht⟩) hS.2.2 dX4_need_19
  · replace hw := hw.2 c3
    refine lv_iload_n hx hb dX4_need_13 rfl (lv_at hl 3 rfl) ?_
    refine lv_if_ne (tgt := 20) hx hb dX4_need_14 (by decide) (fun c4 => ?_) (fun c4 => ?_)
    · replace hw := hw.2 c4
      refine lv_iload hx hb dX4_need_20 (lv_at hl 0 rfl) ?_
      refine lv_aload_n hx hb dX4_need_22 rfl (lv_at hl 4 rfl) ?_
      refine lv_bipush (v := 40) hx hb dX4_need_23 (by decide) ?_
      refine lv_iload_n hx hb dX4_need_25 rfl (lv_at hl 2 rfl) ?_
      refine lv_bipush (v := 8) hx hb dX4_need_26 (by decide) ?_
      refine lv_irem hx hb dX4_need_28 (by decide) ?_
      refine lv_topi (fun x5 e_x5 => ?_)
      replace hw := hw x5 e_x5
      clear e_x5
      refine lv_iadd hx hb dX4_need_29 ?_
      obtain ⟨h6, hw⟩ := hw
      refine xiald (k := ((40 : Int32) + x5).toNatClampNeg) hx hb hK hP 2 0 rfl rfl h6 rfl dX4_need_30 ?_
      refine lv_isub hx hb dX4_need_31 ?_
      refine lv_topi (fun x7 e_x7 => ?_)
      replace hw := hw x7 e_x7
      clear e_x7
      refine lv_istore (lv' := [(5, .int x7), (4, .int x2), (0, .ref h0), (1, .int v1), (2, .int v2), (3, .ref k3)]) hx hb dX4_need_32 hl (by decide) rfl ?_; clear hl; clear ls; intro ls hl
      refine lv_iload hx hb dX4_need_34 (lv_at hl 0 rfl) ?_
      refine lv_if_le (tgt := 46) hx hb dX4_need_36 (by decide) (fun c8 => ?_) (fun c8 => ?_)
      · replace hw := hw.1 c8
        refine lv_iload hx hb dX4_need_46 (lv_at hl 0 rfl) ?_
        subst hQe
        exact W.iret (v := x7) hx hb hr (fun t ht hW => ⟨⟨x7, (), rfl, hw, by rw [ht]; exact hP, va_K.moved hW.alike hK, hD⟩, hS.F ht⟩) hS.2.2 dX4_need_48
      · replace hw := hw.2 c8
        refine lv_iload hx hb dX4_need_39 (lv_at hl 0 rfl) ?_
        refine lv_iconst (v := 2) hx hb dX4_need_41 (by decide) ?_
        refine lv_idiv hx hb dX4_need_42 (by decide) ?_
        refine lv_topi (fun x9 e_x9 => ?_)
        replace hw := hw x9 e_x9
        clear e_x9
        refine lv_goto (tgt := 48) hx hb dX4_need_43 (by decide) ?_
        subst hQe
        exact W.iret (v := x9) hx hb hr (fun t ht hW => ⟨⟨x9, (), rfl, hw, by rw [ht]; exact hP, va_K.moved hW.alike hK, hD⟩, hS.F ht⟩) hS.2.2 dX4_need_48
    · replace hw := hw.1 c4
      refine lv_iload hx hb dX4_need_17 (lv_at hl 0 rfl) ?_
      subst hQe
      exact W.iret (v := x2) hx hb hr (fun t ht hW => ⟨⟨x2, (), rfl, hw, by rw [ht]; exact hP, va_K.moved hW.alike hK, hD⟩, hS.F ht⟩) hS.2.2 dX4_need_19
set_option maxHeartbeats 4000000 in
set_option maxRecDepth 100000 in
theorem c_X4_neediest (l : Launch) (dC : Nat → ClassId) (dI : Nat → Nat → Nat) (cy : Nat → ClassId) (h0 h_split h_told h_quants h_backs h_rejoined h_scales h_needs h_bits : Nat) (sz : Nat) (v1 : Int32) (c_twins : Int32) (c_method : Int32) (c_pool : Int32) (c_needs : Nat → Int32) (c_bits : Nat → Int32) (post : Int32 → Prop) (hw : wp_X4_neediest v1 c_needs c_bits post) : Met l yX4_neediest wsX4_neediest ({ frames := 0, cells := 0, slots := 0, locals := 0 }) (PX dC dI cy [.ref h0, .int v1] sz (w_X4_neediest h0 h_split h_told h_quants h_backs h_rejoined h_scales h_needs h_bits cy c_twins c_method c_pool c_needs c_bits)) (va_Qi (fun (r : Int32) (u : Unit) => post r) (QX dC dI cy (va_A (w_X4_neediest h0 h_split h_told h_quants h_backs h_rejoined h_scales h_needs h_bits cy c_twins c_method c_pool c_needs c_bits) sz) (fun (u : Unit) => w_X4_neediest h0 h_split h_told h_quants h_backs h_rejoined h_scales h_needs h_bits cy c_twins c_method c_pool c_needs c_bits)) (va_A (w_X4_neediest h0 h_split h_told h_quants h_backs h_rejoined h_scales h_needs h_bits cy c_twins c_method c_pool c_needs c_bits) sz)) 0 0 (va_A (w_X4_neediest h0 h_split h_told h_quants h_backs h_rejoined h_scales h_needs h_bits cy c_twins c_method c_pool c_needs c_bits) sz) := by
  refine Met.ofW (cc := cX4_neediest) (maxL := 7) (ret := (some .int)) (by decide) rfl ?_
  intro p e s m args below meth c s₁ B hml hv
  obtain ⟨rfl, hsz, hP, hK, hD0, hG⟩ := hv
  have hx := B.exec
  have hb := B.bytes
  have hr := B.returns
  have hts := atoms_spec (ws := wsX4_neediest) B.pre
  have hown : s.vm.findClass RX4 = some m.cls := findClass_of_methodNamed B.named
  have hlocks := B.notSynchronized
  subst hsz
  have hD := hD0.self (sz := s.heap.size)
  generalize hAe : va_A (w_X4_neediest h0 h_split h_told h_quants h_backs h_rejoined h_scales h_needs h_bits cy c_twins c_method c_pool c_needs c_bits) s.heap.size = A at hD ⊢
  have hA : ∀ q : Nat, s.heap.size ≤ q → A q := fun q h => by rw [← hAe]; exact Or.inr h
  have hS : va_S A s.heap s.heap [] := va_S.rf
  have hl := lv_entry ([.ref h0, .int v1]) (n := 7) (Nat.le_of_ble_eq_true rfl)
  rw [lg_entry_eq]
  generalize (lg_sl ([.ref h0, .int v1]) ++ List.replicate (7 - (lg_sl ([.ref h0, .int v1])).length) Slot.unset).toArray = ls at hl ⊢
  replace hl : lv_has ls 7 [(0, .ref h0), (1, .int v1)] := hl
  have inX4 : ∀ w ∈ u_ws RX4 TX4 11, w ∈ wsX4_neediest := fun w h => List.mem_cons_of_mem _ (inlX4 w h)
  clear hAe hD0 B
  unfold wp_X4_neediest at hw
  generalize hQe : MQ below _ _ s _ _ _ = Q0
  generalize ([.ref h0, .int v1] : List Value).toArray = av at *
  obtain ⟨H, hH⟩ : ∃ H, H = s.heap := ⟨_, rfl⟩
  obtain ⟨locs, hlo⟩ : ∃ L : List Loc, L = [] := ⟨_, rfl⟩
  replace hP : va_P (dC, dI) vwCl (w_X4_neediest h0 h_split h_told h_quants h_backs h_rejoined h_scales h_needs h_bits cy c_twins c_method c_pool c_needs c_bits) H := by rw [hH]; exact hP
  replace hS : va_S A s.heap H locs := by rw [hH, hlo]; exact hS
  suffices hgo : W p l e ({ frames := 0, cells := 0, slots := 0, locals := 0 }) s m av below meth c H locs 0 0 Q0 (F0 m 0 ls []) by rw [hH, hlo] at hgo; exact hgo
  clear hH hlo
  refine lv_iconst (v := -1) hx hb dX4_neediest_0 (by decide) ?_
  refine lv_istore_n (lv' := [(2, .int (-1 : Int32)), (0, .ref h0), (1, .int v1)]) hx hb dX4_neediest_1 rfl hl (by decide) rfl ?_; clear hl; clear ls; intro ls hl
  refine lv_iconst (v := 0) hx hb dX4_neediest_2 (by decide) ?_
  refine lv_istore_n (lv' := [(3, .int (0 : Int32)), (2, .int (-1 : Int32)), (0, .ref h0), (1, .int v1)]) hx hb dX4_neediest_3 rfl hl (by decide) rfl ?_; clear hl; clear ls; intro ls hl
  refine lv_iconst (v := 0) hx hb dX4_neediest_4 (by decide) ?_
  refine lv_istore (lv' := [(4, .int (0 : Int32)), (3, .int (0 : Int32)), (2, .int (-1 : Int32)), (0, .ref h0), (1, .int v1)]) hx hb dX4_neediest_5 hl (by decide) rfl ?_; clear hl; clear ls; intro ls hl
  obtain ⟨x1, e_x1⟩ : ∃ y : Int32, y = (0 : Int32) := ⟨_, rfl⟩
  replace hw := hw x1 e_x1
  replace hl : lv_has ls 7 [(4, .int x1), (3, .int (0 : Int32)), (2, .int (-1 : Int32)), (0, .ref h0), (1, .int v1)] := by rw [e_x1]; exact hl
  clear e_x1
  obtain ⟨x2, e_x2⟩ : ∃ y : Int32, y = (0 : Int32) := ⟨_, rfl⟩
  replace hw := hw x2 e_x2
  replace hl : lv_has ls 7 [(4, .int x1), (3, .int x2), (2, .int (-1 : Int32)), (0, .ref h0), (1, .int v1)] := by rw [e_x2]; exact hl
  clear e_x2
  obtain ⟨x3, e_x3⟩ : ∃ y : Int32, y = (-1 : Int32) := ⟨_, rfl⟩
  replace hw := hw x3 e_x3
  replace hl : lv_has ls 7 [(4, .int x1), (3, .int x2), (2, .int x3), (0, .ref h0), (1, .int v1)] := by rw [e_x3]; exact hl
  clear e_x3
  replace hl := lv_sub (l' := [(4, .int x1), (3, .int x2), (2, .int x3), (0, .ref h0), (1, .int v1)]) hl [0, 1, 2, 3, 4] rfl
  revert hl; revert hS; revert hD; revert hP; revert ls; revert locs; revert H
  revert hw; revert x3; revert x2; revert x1
  refine Lz3_gr ?_; intro g4 ih5 x6 x7 x8 hw
  intro H locs ls hP hD hS hl
  refine lv_iload hx hb dX4_neediest_7 (lv_at hl 0 rfl) ?_
  refine lv_bipush (v := 16) hx hb dX4_neediest_9 (by decide) ?_
  refine lv_icmp_ge (tgt := 84) hx hb dX4_neediest_11 (by decide) (fun c9 => ?_) (fun c9 => ?_)
  · replace hw := hw.1 c9
    clear ih5
    refine lv_iload_n hx hb dX4_neediest_84 rfl (lv_at hl 2 rfl) ?_
    subst hQe
    exact W.iret (v := x8) hx hb hr (fun t ht hW => ⟨⟨x8, (), rfl, hw, by rw [ht]; exact hP, va_K.moved hW.alike hK, hD⟩, hS.F ht⟩) hS.2.2 dX4_neediest_85
  · replace hw := hw.2 c9
    refine lv_aload_n hx hb dX4_neediest_14 rfl (lv_at hl 3 rfl) ?_
    refine va_get (D := (dC, dI)) (ci := 4) (v := .ref h_needs) (C := RX4) (T := TX4) (N := 11) hx hb hts inX4 hown hK hP 0 rfl rfl 6 (by decide) (hts _ (List.mem_cons_of_mem _ mw_126)) (fun _ h9 => h9) rfl dX4_neediest_15 ?_
    refine lv_iload hx hb dX4_neediest_18 (lv_at hl 0 rfl) ?_
    obtain ⟨h10, hw⟩ := hw
    refine xiald (k := x6.toNatClampNeg) hx hb hK hP 1 0 rfl rfl h10 rfl dX4_neediest_20 ?_
    refine lv_aload_n hx hb dX4_neediest_21 rfl (lv_at hl 3 rfl) ?_
    refine va_get (D := (dC, dI)) (ci := 4) (v := .ref h_bits) (C := RX4) (T := TX4) (N := 11) hx hb hts inX4 hown hK hP 0 rfl rfl 7 (by decide) (hts _ (List.mem_cons_of_mem _ mw_127)) (fun _ h9 => h9) rfl dX4_neediest_22 ?_
    refine lv_iload hx hb dX4_neediest_25 (lv_at hl 0 rfl) ?_
    obtain ⟨h11, hw⟩ := hw
    refine xiald (k := x6.toNatClampNeg) hx hb hK hP 2 0 rfl rfl h11 rfl dX4_neediest_27 ?_
    refine lv_isub hx hb dX4_neediest_28 ?_
    refine lv_topi (fun x12 e_x12 => ?_)
    replace hw := hw x12 e_x12
    clear e_x12
    refine lv_istore (lv' := [(5, .int x12), (4, .int x6), (3, .int x7), (2, .int x8), (0, .ref h0), (1, .int v1)]) hx hb dX4_neediest_29 hl (by decide) rfl ?_; clear hl; clear ls; intro ls hl
    refine lv_aload_n hx hb dX4_neediest_31 rfl (lv_at hl 4 rfl) ?_
    refine va_get (D := (dC, dI)) (ci := 4) (v := .ref h_bits) (C := RX4) (T := TX4) (N := 11) hx hb hts inX4 hown hK hP 0 rfl rfl 7 (by decide) (hts _ (List.mem_cons_of_mem _ mw_127)) (fun _ h9 => h9) rfl dX4_neediest_32 ?_
    refine lv_iload hx hb dX4_neediest_35 (lv_at hl 1 rfl) ?_
    obtain ⟨h13, hw⟩ := hw
    refine xiald (k := x6.toNatClampNeg) hx hb hK hP 2 0 rfl rfl h13 rfl dX4_neediest_37 ?_
    refine jn1 (Gg := fun (x14 : Int32) => ∀ (H : Heap) (locs : List Loc) (ls : Array Slot), va_P (dC, dI) vwCl (w_X4_neediest h0 h_split h_told h_quants h_backs h_rejoined h_scales h_needs h_bits cy c_twins c_method c_pool c_needs c_bits) H → va_D A (w_X4_neediest h0 h_split h_told h_quants h_backs h_rejoined h_scales h_needs h_bits cy c_twins c_method c_pool c_needs c_bits) → va_S A s.heap H locs → lv_has ls 7 [(0, .ref h0), (1, .int v1), (2, .int x8), (3, .int x7), (4, .int x6), (5, .int x12)] → W p l e { frames := 0, cells := 0, slots := 0, locals := 0 } s m av below meth c H locs 0 0 Q0 (F0 m 46 ls [.int x14])) hw ?_ ?_ <;> clear hw
    · clear hP hD hS hl; clear H locs ls; intro x14 hw H locs ls hP hD hS hl
      refine lv_istore (lv' := [(6, .int x14), (0, .ref h0), (1, .int v1), (2, .int x8), (3, .int x7), (4, .int x6), (5, .int x12)]) hx hb dX4_neediest_46 hl (by decide) rfl ?_; clear hl; clear ls; intro ls hl
      refine lv_iload hx hb dX4_neediest_48 (lv_at hl 6 rfl) ?_
      refine lv_iload_n hx hb dX4_neediest_50 rfl (lv_at hl 4 rfl) ?_
      refine jn2 (Gg := fun (x17 : Int32) (x18 : Int32) => ∀ (H : Heap) (locs : List Loc) (ls : Array Slot), va_P (dC, dI) vwCl (w_X4_neediest h0 h_split h_told h_quants h_backs h_rejoined h_scales h_needs h_bits cy c_twins c_method c_pool c_needs c_bits) H → va_D A (w_X4_neediest h0 h_split h_told h_quants h_backs h_rejoined h_scales h_needs h_bits cy c_twins c_method c_pool c_needs c_bits) → va_S A s.heap H locs → lv_has ls 7 [(0, .ref h0), (1, .int v1), (2, .int x17), (3, .int x18), (4, .int x6)] → W p l e { frames := 0, cells := 0, slots := 0, locals := 0 } s m av below meth c H locs 0 0 Q0 (F0 m 78 ls [])) hw ?_ ?_ <;> clear hw
      · clear hP hD hS hl; clear H locs ls; intro x17 x18 hw H locs ls hP hD hS hl
        refine lv_iinc (v := x6 + 1) (lv' := [(4, .int (x6 + 1)), (0, .ref h0), (1, .int v1), (2, .int x17), (3, .int x18)]) hx hb dX4_neediest_78 hl (k := 4) rfl rfl (by decide) rfl ?_; clear hl; clear ls; intro ls hl
        refine lv_goto (tgt := 7) hx hb dX4_neediest_81 (by decide) ?_
        exact ih5 (x6 + 1) x18 x17 hw H locs ls hP hD hS (lv_sub hl [0, 4, 3, 1, 2] rfl)
      · intro j20 hw
        refine lv_icmp_le (tgt := 78) hx hb dX4_neediest_51 (by decide) (fun c21 => ?_) (fun c21 => ?_)
        · replace hw := hw.1 c21
          exact j20 x8 x7 hw H locs ls hP hD hS (lv_sub hl [1, 2, 3, 4, 5] rfl)
        · replace hw := hw.2 c21
          refine lv_aload_n hx hb dX4_neediest_54 rfl (lv_at hl 1 rfl) ?_
          refine va_get (D := (dC, dI)) (ci := 4) (v := .ref h_bits) (C := RX4) (T := TX4) (N := 11) hx hb hts inX4 hown hK hP 0 rfl rfl 7 (by decide) (hts _ (List.mem_cons_of_mem _ mw_127)) (fun _ h9 => h9) rfl dX4_neediest_55 ?_
          refine lv_iload hx hb dX4_neediest_58 (lv_at hl 5 rfl) ?_
          obtain ⟨h22, hw⟩ := hw
          refine xiald (k := x6.toNatClampNeg) hx hb hK hP 2 0 rfl rfl h22 rfl dX4_neediest_60 ?_
          refine lv_bipush (v := 16) hx hb dX4_neediest_61 (by decide) ?_
          refine lv_icmp_ge (tgt := 78) hx hb dX4_neediest_63 (by decide) (fun c23 => ?_) (fun c23 => ?_)
          · replace hw := hw.1 c23
            exact j20 x8 x7 hw H locs ls hP hD hS (lv_sub hl [1, 2, 3, 4, 5] rfl)
          · replace hw := hw.2 c23
            refine lv_iload_n hx hb dX4_neediest_66 rfl (lv_at hl 2 rfl) ?_
            refine lv_iload hx hb dX4_neediest_67 (lv_at hl 0 rfl) ?_
            refine lv_icmp_lt (tgt := 78) hx hb dX4_neediest_69 (by decide) (fun c24 => ?_) (fun c24 => ?_)
            · replace hw := hw.1 c24
              exact j20 x8 x7 hw H locs ls hP hD hS (lv_sub hl [1, 2, 3, 4, 5] rfl)
            · replace hw := hw.2 c24
              refine lv_iload hx hb dX4_neediest_72 (lv_at hl 5 rfl) ?_
              refine lv_istore_n (lv' := [(2, .int x6), (6, .int x14), (0, .ref h0), (1, .int v1), (3, .int x7), (4, .int x6), (5, .int x12)]) hx hb dX4_neediest_74 rfl hl (by decide) rfl ?_; clear hl; clear ls; intro ls hl
              refine lv_iload hx hb dX4_neediest_75 (lv_at hl 6 rfl) ?_
              refine lv_istore_n (lv' := [(3, .int x12), (2, .int x6), (6, .int x14), (0, .ref h0), (1, .int v1), (4, .int x6), (5, .int x12)]) hx hb dX4_neediest_77 rfl hl (by decide) rfl ?_; clear hl; clear ls; intro ls hl
              exact j20 x6 x12 hw H locs ls hP hD hS (lv_sub hl [3, 4, 1, 0, 5] rfl)
    · intro j16 hw
      refine lv_if_ne (tgt := 45) hx hb dX4_neediest_38 (by decide) (fun c25 => ?_) (fun c25 => ?_)
      · replace hw := hw.2 c25
        refine lv_iconst (v := 1) hx hb dX4_neediest_45 (by decide) ?_
        exact j16 (1 : Int32) hw H locs ls hP hD hS (lv_sub hl [4, 5, 3, 2, 1, 0] rfl)
      · replace hw := hw.1 c25
        refine lv_iconst (v := 2) hx hb dX4_neediest_41 (by decide) ?_
        refine lv_goto (tgt := 46) hx hb dX4_neediest_42 (by decide) ?_
        exact j16 (2 : Int32) hw H locs ls hP hD hS (lv_sub hl [4, 5, 3, 2, 1, 0] rfl)
set_option maxHeartbeats 4000000 in
set_option maxRecDepth 100000 in
theorem c_X4_deal (l : Launch) (dC : Nat → ClassId) (dI : Nat → Nat → Nat) (cy : Nat → ClassId) (h0 h_split h_told h_quants h_backs h_rejoined h_scales h_needs h_bits k3 : Nat) (n_p3 : Nat) (sz : Nat) (v1 : Int32) (v2 : Int32) (c_twins : Int32) (c_method : Int32) (c_pool : Int32) (c_scales : Nat → Int32) (p3 : Nat → Int32) (c_needs : Nat → Int32) (c_bits : Nat → Int32) (post : Int32 → Int32 → (Nat → Int32) → (Nat → Int32) → Prop) (hw : wp_X4_deal n_p3 v1 v2 c_method c_pool c_scales p3 c_needs c_bits post) : Met l yX4_deal wsX4_deal ({ frames := 1, cells := 0, slots := 0, locals := 26 }) (PX dC dI cy [.ref h0, .int v1, .int v2, .ref k3] sz (w_X4_deal h0 h_split h_told h_quants h_backs h_rejoined h_scales h_needs h_bits k3 cy n_p3 c_twins c_method c_pool c_scales p3 c_needs c_bits)) (va_Qv (fun (u : Int32 × Int32 × (Nat → Int32) × (Nat → Int32)) => post u.1 u.2.1 u.2.2.1 u.2.2.2) (QX dC dI cy (va_A (w_X4_deal h0 h_split h_told h_quants h_backs h_rejoined h_scales h_needs h_bits k3 cy n_p3 c_twins c_method c_pool c_scales p3 c_needs c_bits) sz) (fun (u : Int32 × Int32 × (Nat → Int32) × (Nat → Int32)) => w_X4_deal h0 h_split h_told h_quants h_backs h_rejoined h_scales h_needs h_bits k3 cy n_p3 c_twins u.1 u.2.1 c_scales p3 u.2.2.1 u.2.2.2)) (va_A (w_X4_deal h0 h_split h_told h_quants h_backs h_rejoined h_scales h_needs h_bits k3 cy n_p3 c_twins c_method c_pool c_scales p3 c_needs c_bits) sz)) 0 0 (va_A (w_X4_deal h0 h_split h_told h_quants h_backs h_rejoined h_scales h_needs h_bits k3 cy n_p3 c_twins c_method c_pool c_scales p3 c_needs c_bits) sz) := by
  refine Met.ofW (cc := cX4_deal) (maxL := 8) (ret := none) (by decide) rfl ?_
  intro p e s m args below meth c s₁ B hml hv
  obtain ⟨rfl, hsz, hP, hK, hD0, hG⟩ := hv
  have hx := B.exec
  have hb := B.bytes
  have hr := B.returns
  have hts := atoms_spec (ws := wsX4_deal) B.pre
  have hown : s.vm.findClass RX4 = some m.cls := findClass_of_methodNamed B.named
  have hlocks := B.notSynchronized
  subst hsz
  have hD := hD0.self (sz := s.heap.size)
  generalize hAe : va_A (w_X4_deal h0 h_split h_told h_quants h_backs h_rejoined h_scales h_needs h_bits k3 cy n_p3 c_twins c_method c_pool c_scales p3 c_needs c_bits) s.heap.size = A at hD ⊢
  have hA : ∀ q : Nat, s.heap.size ≤ q → A q := fun q h => by rw [← hAe]; exact Or.inr h
  have hS : va_S A s.heap s.heap [] := va_S.rf
  have hl := lv_entry ([.ref h0, .int v1, .int v2, .ref k3]) (n := 8) (Nat.le_of_ble_eq_true rfl)
  rw [lg_entry_eq]
  generalize (lg_sl ([.ref h0, .int v1, .int v2, .ref k3]) ++ List.replicate (8 - (lg_sl ([.ref h0, .int v1, .int v2, .ref k3])).length) Slot.unset).toArray = ls at hl ⊢
  replace hl : lv_has ls 8 [(0, .ref h0), (1, .int v1), (2, .int v2), (3, .ref k3)] := hl
  have inX4 : ∀ w ∈ u_ws RX4 TX4 11, w ∈ wsX4_deal := fun w h => List.mem_cons_of_mem _ (inlX4 w h)
  clear hAe hD0 B
  unfold wp_X4_deal at hw
  generalize hQe : MQ below _ _ s _ _ _ = Q0
  generalize ([.ref h0, .int v1, .int v2, .ref k3] : List Value).toArray = av at *
  obtain ⟨H, hH⟩ : ∃ H, H = s.heap := ⟨_, rfl⟩
  obtain ⟨locs, hlo⟩ : ∃ L : List Loc, L = [] := ⟨_, rfl⟩
  replace hP : va_P (dC, dI) vwCl (w_X4_deal h0 h_split h_told h_quants h_backs h_rejoined h_scales h_needs h_bits k3 cy n_p3 c_twins c_method c_pool c_scales p3 c_needs c_bits) H := by rw [hH]; exact hP
  replace hS : va_S A s.heap H locs := by rw [hH, hlo]; exact hS
  suffices hgo : W p l e ({ frames := 1, cells := 0, slots := 0, locals := 26 }) s m av below meth c H locs 0 0 Q0 (F0 m 0 ls []) by rw [hH, hlo] at hgo; exact hgo
  clear hH hlo
  refine lv_iconst (v := 0) hx hb dX4_deal_0 (by decide) ?_
  refine lv_istore (lv' := [(4, .int (0 : Int32)), (0, .ref h0), (1, .int v1), (2, .int v2), (3, .ref k3)]) hx hb dX4_deal_1 hl (by decide) rfl ?_; clear hl; clear ls; intro ls hl
  obtain ⟨x1, e_x1⟩ : ∃ y : Int32, y = (0 : Int32) := ⟨_, rfl⟩
  replace hw := hw x1 e_x1
  replace hl : lv_has ls 8 [(4, .int x1), (0, .ref h0), (1, .int v1), (2, .int v2), (3, .ref k3)] := by rw [e_x1]; exact hl
  clear e_x1
  replace hl := lv_sub (l' := [(4, .int x1), (0, .ref h0), (1, .int v1), (2, .int v2), (3, .ref k3)]) hl [0, 1, 2, 3, 4] rfl
  revert hl; revert hS; revert hD; revert hP; revert ls; revert locs; revert H
  revert hw; revert c_bits; revert c_needs; revert x1
  refine Lz3_gr ?_; intro g2 ih3 x4 f5 f6 hw
  intro H locs ls hP hD hS hl
  refine lv_iload hx hb dX4_deal_3 (lv_at hl 0 rfl) ?_
  refine lv_bipush (v := 16) hx hb dX4_deal_5 (by decide) ?_
  refine lv_icmp_ge (tgt := 39) hx hb dX4_deal_7 (by decide) (fun c7 => ?_) (fun c7 => ?_)
  · replace hw := hw.1 c7
    clear ih3
    refine lv_aload_n hx hb dX4_deal_39 rfl (lv_at hl 1 rfl) ?_
    refine lv_iload_n hx hb dX4_deal_40 rfl (lv_at hl 2 rfl) ?_
    refine va_put (D := (dC, dI)) (ci := 4) (v := .int v1) (ty := .int) (C := RX4) (T := TX4) (N := 11) hx hb hts inX4 tyX4 tyX4_ok nmX4 hown hK hP hD hS 0 rfl rfl 10 (by decide) (hts _ (List.mem_cons_of_mem _ mw_130)) (fun _ h9 => h9) rfl (by decide +kernel) rfl rfl (Nat.le_of_ble_eq_true rfl) dX4_deal_41 ?_; clear hP hD hS; clear H locs; intro H locs hP hD hS
    replace hP : va_P (dC, dI) vwCl (w_X4_deal h0 h_split h_told h_quants h_backs h_rejoined h_scales h_needs h_bits k3 cy n_p3 c_twins c_method v1 c_scales p3 f5 f6) H := hP
    replace hD : va_D A (w_X4_deal h0 h_split h_told h_quants h_backs h_rejoined h_scales h_needs h_bits k3 cy n_p3 c_twins c_method v1 c_scales p3 f5 f6) := hD
    refine lv_aload_n hx hb dX4_deal_44 rfl (lv_at hl 1 rfl) ?_
    refine lv_iload_n hx hb dX4_deal_45 rfl (lv_at hl 3 rfl) ?_
    refine va_put (D := (dC, dI)) (ci := 4) (v := .int v2) (ty := .int) (C := RX4) (T := TX4) (N := 11) hx hb hts inX4 tyX4 tyX4_ok nmX4 hown hK hP hD hS 0 rfl rfl 9 (by decide) (hts _ (List.mem_cons_of_mem _ mw_129)) (fun _ h9 => h9) rfl (by decide +kernel) rfl rfl (Nat.le_of_ble_eq_true rfl) dX4_deal_46 ?_; clear hP hD hS; clear H locs; intro H locs hP hD hS
    replace hP : va_P (dC, dI) vwCl (w_X4_deal h0 h_split h_told h_quants h_backs h_rejoined h_scales h_needs h_bits k3 cy n_p3 c_twins v2 v1 c_scales p3 f5 f6) H := hP
    replace hD : va_D A (w_X4_deal h0 h_split h_told h_quants h_backs h_rejoined h_scales h_needs h_bits k3 cy n_p3 c_twins v2 v1 c_scales p3 f5 f6) := hD
    refine lv_iload_n hx hb dX4_deal_49 rfl (lv_at hl 2 rfl) ?_
    refine lv_istore (lv' := [(4, .int v1), (0, .ref h0), (1, .int v1), (2, .int v2), (3, .ref k3)]) hx hb dX4_deal_50 hl (by decide) rfl ?_; clear hl; clear ls; intro ls hl
    refine lv_iconst (v := 0) hx hb dX4_deal_52 (by decide) ?_
    refine lv_istore (lv' := [(5, .int (0 : Int32)), (4, .int v1), (0, .ref h0), (1, .int v1), (2, .int v2), (3, .ref k3)]) hx hb dX4_deal_53 hl (by decide) rfl ?_; clear hl; clear ls; intro ls hl
    obtain ⟨x8, e_x8⟩ : ∃ y : Int32, y = (0 : Int32) := ⟨_, rfl⟩
    replace hw := hw x8 e_x8
    replace hl : lv_has ls 8 [(5, .int x8), (4, .int v1), (0, .ref h0), (1, .int v1), (2, .int v2), (3, .ref k3)] := by rw [e_x8]; exact hl
    clear e_x8
    obtain ⟨x9, e_x9⟩ : ∃ y : Int32, y = v1 := ⟨_, rfl⟩
    replace hw := hw x9 e_x9
    replace hl : lv_has ls 8 [(5, .int x8), (4, .int x9), (0, .ref h0), (1, .int v1), (2, .int v2), (3, .ref k3)] := by rw [e_x9]; exact hl
    clear e_x9
    replace hl := lv_sub (l' := [(5, .int x8), (4, .int x9), (0, .ref h0), (1, .int v1)]) hl [0, 1, 2, 3] rfl
    revert hl; revert hS; revert hD; revert hP; revert ls; revert locs; revert H
    revert hw; revert f6; revert x9; revert x8
    refine Lz3_gr ?_; intro g10 ih11 x12 x13 f14 hw
    intro H locs ls hP hD hS hl
    refine lv_iload hx hb dX4_deal_55 (lv_at hl 0 rfl) ?_
    refine lv_iload_n hx hb dX4_deal_57 rfl (lv_at hl 3 rfl) ?_
    refine lv_icmp_ge (tgt := 118) hx hb dX4_deal_58 (by decide) (fun c15 => ?_) (fun c15 => ?_)
    · replace hw := hw.1 c15
      clear ih11
      subst hQe
      exact W.vret hx hb hr (fun t ht hW => ⟨⟨(v2, v1, f5, f14), rfl, hw, by rw [ht]; exact hP, va_K.moved hW.alike hK, hD⟩, hS.F ht⟩) hS.2.2 dX4_deal_118
    · replace hw := hw.2 c15
      refine lv_aload_n hx hb dX4_deal_61 rfl (lv_at hl 2 rfl) ?_
      refine lv_iload hx hb dX4_deal_62 (lv_at hl 1 rfl) ?_
      have hPc := pSub (ws' := (w_X4_neediest h0 h_split h_told h_quants h_backs h_rejoined h_scales h_needs h_bits cy c_twins v2 v1 f5 f14)) hP [0, 3, 4] rfl
      have hDc := dSub (ws' := (w_X4_neediest h0 h_split h_told h_quants h_backs h_rejoined h_scales h_needs h_bits cy c_twins v2 v1 f5 f14)) hD [0, 3, 4] (by decide) rfl
      have hFc := va_free (wc := (w_X4_neediest h0 h_split h_told h_quants h_backs h_rejoined h_scales h_needs h_bits cy c_twins v2 v1 f5 f14)) hD hS hA [0, 3, 4] rfl
      refine va_calli (va_runV (As := [.int x13]) (rest := []) ⟨hx, hb, hml, hown, hts⟩ (c_X4_neediest l dC dI cy h0 h_split h_told h_quants h_backs h_rejoined h_scales h_needs h_bits H.size x13 c_twins v2 v1 f5 f14 _ hw) (cwV 1 hts (goodV mw_322 mw_319 mw_320 mw_321 mw_20) rfl rfl rfl (by decide +kernel) ⟨Nat.le_of_ble_eq_true rfl, Nat.le_of_ble_eq_true rfl⟩) ⟨PX_blind, va_recv hK hPc (ci := 4) (q0 := 0) rfl rfl, PX_pre hPc hK hDc hG⟩ rfl rfl hl.1 rfl (lv_room (Nat.le_of_ble_eq_true rfl)) dX4_deal_64 ⟨Nat.zero_le _, Nat.zero_le _⟩) hS (fun q _ h => hFc q h) hFc ?_; clear hw hS; intro r16 _ t H1 locs1 ht hvm hw hB hz1 hk1 hS
      obtain ⟨hP1, -, -⟩ := hB
      rw [ht] at hP1
      replace hP := jC0 hP hD [0, 3, 4] [1, 2] rfl hk1 hP1 (w_X4_deal h0 h_split h_told h_quants h_backs h_rejoined h_scales h_needs h_bits k3 cy n_p3 c_twins v2 v1 c_scales p3 f5 f14) rfl rfl rfl 5 rfl (by decide +kernel); clear hD; obtain ⟨hP, hD⟩ := hP
      replace hP : va_P (dC, dI) vwCl (w_X4_deal h0 h_split h_told h_quants h_backs h_rejoined h_scales h_needs h_bits k3 cy n_p3 c_twins v2 v1 c_scales p3 f5 f14) H1 := hP
      replace hD : va_D A (w_X4_deal h0 h_split h_told h_quants h_backs h_rejoined h_scales h_needs h_bits k3 cy n_p3 c_twins v2 v1 c_scales p3 f5 f14) := hD
      clear hPc hDc hFc hP1 hk1 hz1 hvm ht; clear t; clear H locs; obtain ⟨H, hH⟩ : ∃ H, H = H1 := ⟨_, rfl⟩; obtain ⟨locs, hlo⟩ : ∃ L, L = locs1 := ⟨_, rfl⟩; subst hH; subst hlo
      refine W.widen (k := 0) (n := 0) (Nat.le_refl 0) (Nat.le_refl 0) ?_
      refine lv_istore (lv' := [(6, .int r16), (5, .int x12), (4, .int x13), (0, .ref h0), (1, .int v1)]) hx hb dX4_deal_67 hl (by decide) rfl ?_; clear hl; clear ls; intro ls hl
      refine lv_iload hx hb dX4_deal_69 (lv_at hl 0 rfl) ?_
      refine lv_iconst (v := -1) hx hb dX4_deal_71 (by decide) ?_
      refine lv_icmp_ne (tgt := 76) hx hb dX4_deal_72 (by decide) (fun c17 => ?_) (fun c17 => ?_)
      · replace hw := hw.2 c17
        refine lv_aload_n hx hb dX4_deal_76 rfl (lv_at hl 3 rfl) ?_
        refine va_get (D := (dC, dI)) (ci := 4) (v := .ref h_bits) (C := RX4) (T := TX4) (N := 11) hx hb hts inX4 hown hK hP 0 rfl rfl 7 (by decide) (hts _ (List.mem_cons_of_mem _ mw_127)) (fun _ h9 => h9) rfl dX4_deal_77 ?_
        refine lv_iload hx hb dX4_deal_80 (lv_at hl 0 rfl) ?_
        obtain ⟨h18, hw⟩ := hw
        refine xiald (k := r16.toNatClampNeg) hx hb hK hP 4 0 rfl rfl h18 rfl dX4_deal_82 ?_
        refine jn1 (Gg := fun (x19 : Int32) => ∀ (H : Heap) (locs : List Loc) (ls : Array Slot), va_P (dC, dI) vwCl (w_X4_deal h0 h_split h_told h_quants h_backs h_rejoined h_scales h_needs h_bits k3 cy n_p3 c_twins v2 v1 c_scales p3 f5 f14) H → va_D A (w_X4_deal h0 h_split h_told h_quants h_backs h_rejoined h_scales h_needs h_bits k3 cy n_p3 c_twins v2 v1 c_scales p3 f5 f14) → va_S A s.heap H locs → lv_has ls 8 [(0, .ref h0), (1, .int v1), (4, .int x13), (5, .int x12), (6, .int r16)] → W p l e { frames := 1, cells := 0, slots := 0, locals := 26 } s m av below meth c H locs 0 0 Q0 (F0 m 91 ls [.int x19])) hw ?_ ?_ <;> clear hw
        · clear hP hD hS hl; clear H locs ls; intro x19 hw H locs ls hP hD hS hl
          refine lv_istore (lv' := [(7, .int x19), (0, .ref h0), (1, .int v1), (4, .int x13), (5, .int x12), (6, .int r16)]) hx hb dX4_deal_91 hl (by decide) rfl ?_; clear hl; clear ls; intro ls hl
          refine lv_aload_n hx hb dX4_deal_93 rfl (lv_at hl 1 rfl) ?_
          refine va_get (D := (dC, dI)) (ci := 4) (v := .ref h_bits) (C := RX4) (T := TX4) (N := 11) hx hb hts inX4 hown hK hP 0 rfl rfl 7 (by decide) (hts _ (List.mem_cons_of_mem _ mw_127)) (fun _ h9 => h9) rfl dX4_deal_94 ?_
          refine lv_iload hx hb dX4_deal_97 (lv_at hl 5 rfl) ?_
          refine lv_dup2_11 hx hb dX4_deal_99 rfl rfl ?_
          obtain ⟨h22, hw⟩ := hw
          refine xiald (k := r16.toNatClampNeg) hx hb hK hP 4 0 rfl rfl h22 rfl dX4_deal_100 ?_
          refine lv_iload hx hb dX4_deal_101 (lv_at hl 0 rfl) ?_
          refine lv_iadd hx hb dX4_deal_103 ?_
          obtain ⟨h23, hw⟩ := hw
          refine xiast (k := r16.toNatClampNeg) hx hb hK hP hD hS 4 0 rfl rfl h23 rfl dX4_deal_104 ?_; clear hP hD hS; clear H locs; intro f24 e_f24 H locs hP hD hS
          replace hw := hw f24 e_f24
          clear e_f24
          replace hP : va_P (dC, dI) vwCl (w_X4_deal h0 h_split h_told h_quants h_backs h_rejoined h_scales h_needs h_bits k3 cy n_p3 c_twins v2 v1 c_scales p3 f5 f24) H := hP
          replace hD : va_D A (w_X4_deal h0 h_split h_told h_quants h_backs h_rejoined h_scales h_needs h_bits k3 cy n_p3 c_twins v2 v1 c_scales p3 f5 f24) := hD
          refine lv_iload hx hb dX4_deal_105 (lv_at hl 3 rfl) ?_
          refine lv_iload hx hb dX4_deal_107 (lv_at hl 0 rfl) ?_
          refine lv_isub hx hb dX4_deal_109 ?_
          refine lv_topi (fun x25 e_x25 => ?_)
          replace hw := hw x25 e_x25
          clear e_x25
          refine lv_istore (lv' := [(4, .int x25), (7, .int x19), (0, .ref h0), (1, .int v1), (5, .int x12), (6, .int r16)]) hx hb dX4_deal_110 hl (by decide) rfl ?_; clear hl; clear ls; intro ls hl
          refine lv_iinc (v := x12 + 1) (lv' := [(5, .int (x12 + 1)), (4, .int x25), (7, .int x19), (0, .ref h0), (1, .int v1), (6, .int r16)]) hx hb dX4_deal_112 hl (k := 4) rfl rfl (by decide) rfl ?_; clear hl; clear ls; intro ls hl
          refine lv_goto (tgt := 55) hx hb dX4_deal_115 (by decide) ?_
          exact ih11 (x12 + 1) x25 f24 hw H locs ls hP hD hS (lv_sub hl [0, 1, 3, 4] rfl)
        · intro j21 hw
          refine lv_if_ne (tgt := 90) hx hb dX4_deal_83 (by decide) (fun c26 => ?_) (fun c26 => ?_)
          · replace hw := hw.2 c26
            refine lv_iconst (v := 1) hx hb dX4_deal_90 (by decide) ?_
            exact j21 (1 : Int32) hw H locs ls hP hD hS (lv_sub hl [3, 4, 2, 1, 0] rfl)
          · replace hw := hw.1 c26
            refine lv_iconst (v := 2) hx hb dX4_deal_86 (by decide) ?_
            refine lv_goto (tgt := 91) hx hb dX4_deal_87 (by decide) ?_
            exact j21 (2 : Int32) hw H locs ls hP hD hS (lv_sub hl [3, 4, 2, 1, 0] rfl)
      · replace hw := hw.1 c17
        clear ih11
        subst hQe
        exact W.vret hx hb hr (fun t ht hW => ⟨⟨(v2, v1, f5, f14), rfl, hw, by rw [ht]; exact hP, va_K.moved hW.alike hK, hD⟩, hS.F ht⟩) hS.2.2 dX4_deal_75
  · replace hw := hw.2 c7
    refine lv_aload_n hx hb dX4_deal_10 rfl (lv_at hl 1 rfl) ?_
    refine va_get (D := (dC, dI)) (ci := 4) (v := .ref h_needs) (C := RX4) (T := TX4) (N := 11) hx hb hts inX4 hown hK hP 0 rfl rfl 6 (by decide) (hts _ (List.mem_cons_of_mem _ mw_126)) (fun _ h9 => h9) rfl dX4_deal_11 ?_
    refine lv_iload hx hb dX4_deal_14 (lv_at hl 0 rfl) ?_
    refine lv_aload_n hx hb dX4_deal_16 rfl (lv_at hl 1 rfl) ?_
    refine lv_iload hx hb dX4_deal_17 (lv_at hl 0 rfl) ?_
    refine lv_iload_n hx hb dX4_deal_19 rfl (lv_at hl 3 rfl) ?_
    refine lv_aload_n hx hb dX4_deal_20 rfl (lv_at hl 4 rfl) ?_
    have hPc := pSub (ws' := (w_X4_need h0 h_split h_told h_quants h_backs h_rejoined h_scales h_needs h_bits k3 cy n_p3 c_twins c_method c_pool c_scales p3)) hP [0, 1, 2] rfl
    have hDc := dSub (ws' := (w_X4_need h0 h_split h_told h_quants h_backs h_rejoined h_scales h_needs h_bits k3 cy n_p3 c_twins c_method c_pool c_scales p3)) hD [0, 1, 2] (by decide) rfl
    have hFc := va_free (wc := (w_X4_need h0 h_split h_told h_quants h_backs h_rejoined h_scales h_needs h_bits k3 cy n_p3 c_twins c_method c_pool c_scales p3)) hD hS hA [0, 1, 2] rfl
    refine va_calli (va_runV (As := [.int x4, .int v2, .ref k3]) (rest := [.int x4, .ref h_needs]) ⟨hx, hb, hml, hown, hts⟩ (c_X4_need l dC dI cy h0 h_split h_told h_quants h_backs h_rejoined h_scales h_needs h_bits k3 n_p3 H.size x4 v2 c_twins c_method c_pool c_scales p3 _ hw) (cwV 3 hts (goodV mw_318 mw_315 mw_316 mw_317 mw_20) rfl rfl rfl (by decide +kernel) ⟨Nat.le_of_ble_eq_true rfl, Nat.le_of_ble_eq_true rfl⟩) ⟨PX_blind, va_recv hK hPc (ci := 4) (q0 := 0) rfl rfl, PX_pre hPc hK hDc hG⟩ rfl rfl hl.1 rfl (lv_room (Nat.le_of_ble_eq_true rfl)) dX4_deal_21 ⟨Nat.zero_le _, Nat.zero_le _⟩) hS (fun q _ h => hFc q h) hFc ?_; clear hw hS; intro r27 _ t H1 locs1 ht hvm hw hB hz1 hk1 hS
    obtain ⟨hP1, -, -⟩ := hB
    rw [ht] at hP1
    replace hP := jC0 hP hD [0, 1, 2] [3, 4] rfl hk1 hP1 (w_X4_deal h0 h_split h_told h_quants h_backs h_rejoined h_scales h_needs h_bits k3 cy n_p3 c_twins c_method c_pool c_scales p3 f5 f6) rfl rfl rfl 5 rfl (by decide +kernel); clear hD; obtain ⟨hP, hD⟩ := hP
    replace hP : va_P (dC, dI) vwCl (w_X4_deal h0 h_split h_told h_quants h_backs h_rejoined h_scales h_needs h_bits k3 cy n_p3 c_twins c_method c_pool c_scales p3 f5 f6) H1 := hP
    replace hD : va_D A (w_X4_deal h0 h_split h_told h_quants h_backs h_rejoined h_scales h_needs h_bits k3 cy n_p3 c_twins c_method c_pool c_scales p3 f5 f6) := hD
    clear hPc hDc hFc hP1 hk1 hz1 hvm ht; clear t; clear H locs; obtain ⟨H, hH⟩ : ∃ H, H = H1 := ⟨_, rfl⟩; obtain ⟨locs, hlo⟩ : ∃ L, L = locs1 := ⟨_, rfl⟩; subst hH; subst hlo
    refine W.widen (k := 0) (n := 0) (Nat.le_refl 0) (Nat.le_refl 0) ?_
    obtain ⟨h28, hw⟩ := hw
    refine xiast (k := x4.toNatClampNeg) hx hb hK hP hD hS 3 0 rfl rfl h28 rfl dX4_deal_24 ?_; clear hP hD hS; clear H locs; intro f29 e_f29 H locs hP hD hS
    replace hw := hw f29 e_f29
    clear e_f29
    replace hP : va_P (dC, dI) vwCl (w_X4_deal h0 h_split h_told h_quants h_backs h_rejoined h_scales h_needs h_bits k3 cy n_p3 c_twins c_method c_pool c_scales p3 f29 f6) H := hP
    replace hD : va_D A (w_X4_deal h0 h_split h_told h_quants h_backs h_rejoined h_scales h_needs h_bits k3 cy n_p3 c_twins c_method c_pool c_scales p3 f29 f6) := hD
    refine lv_aload_n hx hb dX4_deal_25 rfl (lv_at hl 1 rfl) ?_
    refine va_get (D := (dC, dI)) (ci := 4) (v := .ref h_bits) (C := RX4) (T := TX4) (N := 11) hx hb hts inX4 hown hK hP 0 rfl rfl 7 (by decide) (hts _ (List.mem_cons_of_mem _ mw_127)) (fun _ h9 => h9) rfl dX4_deal_26 ?_
    refine lv_iload hx hb dX4_deal_29 (lv_at hl 0 rfl) ?_
    refine lv_iconst (v := 0) hx hb dX4_deal_31 (by decide) ?_
    obtain ⟨h30, hw⟩ := hw
    refine xiast (k := x4.toNatClampNeg) hx hb hK hP hD hS 4 0 rfl rfl h30 rfl dX4_deal_32 ?_; clear hP hD hS; clear H locs; intro f31 e_f31 H locs hP hD hS
    replace hw := hw f31 e_f31
    clear e_f31
    replace hP : va_P (dC, dI) vwCl (w_X4_deal h0 h_split h_told h_quants h_backs h_rejoined h_scales h_needs h_bits k3 cy n_p3 c_twins c_method c_pool c_scales p3 f29 f31) H := hP
    replace hD : va_D A (w_X4_deal h0 h_split h_told h_quants h_backs h_rejoined h_scales h_needs h_bits k3 cy n_p3 c_twins c_method c_pool c_scales p3 f29 f31) := hD
    refine lv_iinc (v := x4 + 1) (lv' := [(4, .int (x4 + 1)), (0, .ref h0), (1, .int v1), (2, .int v2), (3, .ref k3)]) hx hb dX4_deal_33 hl (k := 0) rfl rfl (by decide) rfl ?_; clear hl; clear ls; intro ls hl
    refine lv_goto (tgt := 3) hx hb dX4_deal_36 (by decide) ?_
    exact ih3 (x4 + 1) f29 f31 hw H locs ls hP hD hS (lv_sub hl [0, 1, 2, 3, 4] rfl)
set_option maxHeartbeats 4000000 in
set_option maxRecDepth 100000 in
theorem c_X4_backOf (l : Launch) (dC : Nat → ClassId) (dI : Nat → Nat → Nat) (cy : Nat → ClassId) (sz : Nat) (v0 : Int32) (v1 : Int32) (v2 : Int32) (post : Int32 → Prop) (hw : wp_X4_backOf v0 v1 v2 post) : Met l yX4_backOf wsX4_backOf ({ frames := 0, cells := 0, slots := 0, locals := 0 }) (PX dC dI cy [.int v0, .int v1, .int v2] sz (w_X4_backOf cy)) (va_Qi (fun (r : Int32) (u : Unit) => post r) (QX dC dI cy (va_A (w_X4_backOf cy) sz) (fun (u : Unit) => w_X4_backOf cy)) (va_A (w_X4_backOf cy) sz)) 0 0 (va_A (w_X4_backOf cy) sz) := by
  refine Met.ofW (cc := cX4_backOf) (maxL := 5) (ret := (some .int)) (by decide) rfl ?_
  intro p e s m args below meth c s₁ B hml hv
  obtain ⟨rfl, hsz, hP, hK, hD0, hG⟩ := hv
  have hx := B.exec
  have hb := B.bytes
  have hr := B.returns
  have hts := atoms_spec (ws := wsX4_backOf) B.pre
  have hown : s.vm.findClass RX4 = some m.cls := findClass_of_methodNamed B.named
  have hlocks := B.notSynchronized
  subst hsz
  have hD := hD0.self (sz := s.heap.size)
  generalize hAe : va_A (w_X4_backOf cy) s.heap.size = A at hD ⊢
  have hA : ∀ q : Nat, s.heap.size ≤ q → A q := fun q h => by rw [← hAe]; exact Or.inr h
  have hS : va_S A s.heap s.heap [] := va_S.rf
  have hl := lv_entry ([.int v0, .int v1, .int v2]) (n := 5) (Nat.le_of_ble_eq_true rfl)
  rw [lg_entry_eq]
  generalize (lg_sl ([.int v0, .int v1, .int v2]) ++ List.replicate (5 - (lg_sl ([.int v0, .int v1, .int v2])).length) Slot.unset).toArray = ls at hl ⊢
  replace hl : lv_has ls 5 [(0, .int v0), (1, .int v1), (2, .int v2)] := hl
  clear hAe hD0 B
  unfold wp_X4_backOf at hw
  generalize hQe : MQ below _ _ s _ _ _ = Q0
  generalize ([.int v0, .int v1, .int v2] : List Value).toArray = av at *
  obtain ⟨H, hH⟩ : ∃ H, H = s.heap := ⟨_, rfl⟩
  obtain ⟨locs, hlo⟩ : ∃ L : List Loc, L = [] := ⟨_, rfl⟩
  replace hP : va_P (dC, dI) vwCl (w_X4_backOf cy) H := by rw [hH]; exact hP
  replace hS : va_S A s.heap H locs := by rw [hH, hlo]; exact hS
  suffices hgo : W p l e ({ frames := 0, cells := 0, slots := 0, locals := 0 }) s m av below meth c H locs 0 0 Q0 (F0 m 0 ls []) by rw [hH, hlo] at hgo; exact hgo
  clear hH hlo
  refine lv_iload_n hx hb dX4_backOf_0 rfl (lv_at hl 2 rfl) ?_
  refine lv_if_gt (tgt := 6) hx hb dX4_backOf_1 (by decide) (fun c1 => ?_) (fun c1 => ?_)
  · replace hw := hw.1 c1
    refine lv_lconst (v := 1) hx hb dX4_backOf_6 (by decide) ?_
    refine lv_iload_n hx hb dX4_backOf_7 rfl (lv_at hl 2 rfl) ?_
    refine lv_lshl (v := (1 : Int64) <<< (v2.toInt64 &&& 63)) hx hb dX4_backOf_8 rfl ?_
    refine lv_lconst (v := 1) hx hb dX4_backOf_9 (by decide) ?_
    refine lv_lsub hx hb dX4_backOf_10 ?_
    refine lv_topl (fun x2 e_x2 => ?_)
    replace hw := hw x2 e_x2
    clear e_x2
    refine lv_lstore_n (lv' := [(3, .long x2), (0, .int v0), (1, .int v1), (2, .int v2)]) hx hb dX4_backOf_11 rfl hl (by decide) rfl ?_; clear hl; clear ls; intro ls hl
    refine lv_ldc2 (v := 2) hx hb hown (hts _ (List.mem_cons_of_mem _ mw_339)) dX4_backOf_12 ?_
    refine lv_iload_n hx hb dX4_backOf_15 rfl (lv_at hl 1 rfl) ?_
    refine lv_i2l (v := v0.toInt64) hx hb dX4_backOf_16 rfl ?_
    refine lv_lmul hx hb dX4_backOf_17 ?_
    refine lv_lconst (v := 1) hx hb dX4_backOf_18 (by decide) ?_
    refine lv_ladd hx hb dX4_backOf_19 ?_
    refine lv_iload_n hx hb dX4_backOf_20 rfl (lv_at hl 2 rfl) ?_
    refine lv_lshl (v := (((2 : Int64) * (v0.toInt64)) + (1 : Int64)) <<< (v1.toInt64 &&& 63)) hx hb dX4_backOf_21 rfl ?_
    refine lv_lload_n hx hb dX4_backOf_22 rfl (lv_at hl 0 rfl) ?_
    obtain ⟨h3, hw⟩ := hw
    refine lv_ldiv hx hb dX4_backOf_23 h3 ?_
    refine lv_topl (fun x4 e_x4 => ?_)
    replace hw := hw x4 e_x4
    clear e_x4
    refine lv_lconst (v := 1) hx hb dX4_backOf_24 (by decide) ?_
    refine lv_iload_n hx hb dX4_backOf_25 rfl (lv_at hl 2 rfl) ?_
    refine lv_lshl (v := (1 : Int64) <<< (v1.toInt64 &&& 63)) hx hb dX4_backOf_26 rfl ?_
    refine lv_lsub hx hb dX4_backOf_27 ?_
    refine lv_l2i (v := (x4 - ((1 : Int64) <<< (v1.toInt64 &&& 63))).toInt32) hx hb dX4_backOf_28 rfl ?_
    subst hQe
    exact W.iret (v := (x4 - ((1 : Int64) <<< (v1.toInt64 &&& 63))).toInt32) hx hb hr (fun t ht hW => ⟨⟨((x4 - ((1 : Int64) <<< (v1.toInt64 &&& 63))).toInt32), (), rfl, hw, by rw [ht]; exact hP, va_K.moved hW.alike hK, hD⟩, hS.F ht⟩) hS.2.2 dX4_backOf_29
  · replace hw := hw.2 c1
    refine lv_iconst (v := 0) hx hb dX4_backOf_4 (by decide) ?_
    subst hQe
    exact W.iret (v := (0 : Int32)) hx hb hr (fun t ht hW => ⟨⟨(0 : Int32), (), rfl, hw, by rw [ht]; exact hP, va_K.moved hW.alike hK, hD⟩, hS.F ht⟩) hS.2.2 dX4_backOf_5
set_option maxHeartbeats 4000000 in
set_option maxRecDepth 100000 in
theorem c_X4_quantOf (l : Launch) (dC : Nat → ClassId) (dI : Nat → Nat → Nat) (cy : Nat → ClassId) (sz : Nat) (v0 : Int32) (v1 : Int32) (v2 : Int32) (post : Int32 → Prop) (hw : wp_X4_quantOf v0 v1 v2 post) : Met l yX4_quantOf wsX4_quantOf ({ frames := 1, cells := 0, slots := 0, locals := 30 }) (PX dC dI cy [.int v0, .int v1, .int v2] sz (w_X4_quantOf cy)) (va_Qi (fun (r : Int32) (u : Unit) => post r) (QX dC dI cy (va_A (w_X4_quantOf cy) sz) (fun (u : Unit) => w_X4_quantOf cy)) (va_A (w_X4_quantOf cy) sz)) 0 0 (va_A (w_X4_quantOf cy) sz) := by
  refine Met.ofW (cc := cX4_quantOf) (maxL := 7) (ret := (some .int)) (by decide) rfl ?_
  intro p e s m args below meth c s₁ B hml hv
  obtain ⟨rfl, hsz, hP, hK, hD0, hG⟩ := hv
  have hx := B.exec
  have hb := B.bytes
  have hr := B.returns
  have hts := atoms_spec (ws := wsX4_quantOf) B.pre
  have hown : s.vm.findClass RX4 = some m.cls := findClass_of_methodNamed B.named
  have hlocks := B.notSynchronized
  subst hsz
  have hD := hD0.self (sz := s.heap.size)
  generalize hAe : va_A (w_X4_quantOf cy) s.heap.size = A at hD ⊢
  have hA : ∀ q : Nat, s.heap.size ≤ q → A q := fun q h => by rw [← hAe]; exact Or.inr h
  have hS : va_S A s.heap s.heap [] := va_S.rf
  have hl := lv_entry ([.int v0, .int v1, .int v2]) (n := 7) (Nat.le_of_ble_eq_true rfl)
  rw [lg_entry_eq]
  generalize (lg_sl ([.int v0, .int v1, .int v2]) ++ List.replicate (7 - (lg_sl ([.int v0, .int v1, .int v2])).length) Slot.unset).toArray = ls at hl ⊢
  replace hl : lv_has ls 7 [(0, .int v0), (1, .int v1), (2, .int v2)] := hl
  clear hAe hD0 B
  unfold wp_X4_quantOf at hw
  generalize hQe : MQ below _ _ s _ _ _ = Q0
  generalize ([.int v0, .int v1, .int v2] : List Value).toArray = av at *
  obtain ⟨H, hH⟩ : ∃ H, H = s.heap := ⟨_, rfl⟩
  obtain ⟨locs, hlo⟩ : ∃ L : List Loc, L = [] := ⟨_, rfl⟩
  replace hP : va_P (dC, dI) vwCl (w_X4_quantOf cy) H := by rw [hH]; exact hP
  replace hS : va_S A s.heap H locs := by rw [hH, hlo]; exact hS
  suffices hgo : W p l e ({ frames := 1, cells := 0, slots := 0, locals := 30 }) s m av below meth c H locs 0 0 Q0 (F0 m 0 ls []) by rw [hH, hlo] at hgo; exact hgo
  clear hH hlo
  refine lv_iload_n hx hb dX4_quantOf_0 rfl (lv_at hl 2 rfl) ?_
  refine lv_if_gt (tgt := 6) hx hb dX4_quantOf_1 (by decide) (fun c1 => ?_) (fun c1 => ?_)
  · replace hw := hw.1 c1
    refine lv_lconst (v := 1) hx hb dX4_quantOf_6 (by decide) ?_
    refine lv_iload_n hx hb dX4_quantOf_7 rfl (lv_at hl 2 rfl) ?_
    refine lv_lshl (v := (1 : Int64) <<< (v2.toInt64 &&& 63)) hx hb dX4_quantOf_8 rfl ?_
    refine lv_lconst (v := 1) hx hb dX4_quantOf_9 (by decide) ?_
    refine lv_lsub hx hb dX4_quantOf_10 ?_
    refine lv_topl (fun x2 e_x2 => ?_)
    replace hw := hw x2 e_x2
    clear e_x2
    refine lv_lstore_n (lv' := [(3, .long x2), (0, .int v0), (1, .int v1), (2, .int v2)]) hx hb dX4_quantOf_11 rfl hl (by decide) rfl ?_; clear hl; clear ls; intro ls hl
    refine lv_iload_n hx hb dX4_quantOf_12 rfl (lv_at hl 1 rfl) ?_
    refine lv_i2l (v := v0.toInt64) hx hb dX4_quantOf_13 rfl ?_
    refine lv_lconst (v := 1) hx hb dX4_quantOf_14 (by decide) ?_
    refine lv_iload_n hx hb dX4_quantOf_15 rfl (lv_at hl 2 rfl) ?_
    refine lv_lshl (v := (1 : Int64) <<< (v1.toInt64 &&& 63)) hx hb dX4_quantOf_16 rfl ?_
    refine lv_ladd hx hb dX4_quantOf_17 ?_
    refine lv_lload_n hx hb dX4_quantOf_18 rfl (lv_at hl 0 rfl) ?_
    refine lv_lmul hx hb dX4_quantOf_19 ?_
    refine lv_iload_n hx hb dX4_quantOf_20 rfl (lv_at hl 2 rfl) ?_
    refine lv_iconst (v := 1) hx hb dX4_quantOf_21 (by decide) ?_
    refine lv_iadd hx hb dX4_quantOf_22 ?_
    refine lv_lshr (v := (((v0.toInt64) + ((1 : Int64) <<< (v1.toInt64 &&& 63))) * x2) >>> ((v1 + (1 : Int32)).toInt64 &&& 63)) hx hb dX4_quantOf_23 rfl ?_
    refine lv_topl (fun x3 e_x3 => ?_)
    replace hw := hw x3 e_x3
    clear e_x3
    refine lv_lstore (lv' := [(5, .long x3), (3, .long x2), (0, .int v0), (1, .int v1), (2, .int v2)]) hx hb dX4_quantOf_24 hl (by decide) rfl ?_; clear hl; clear ls; intro ls hl
    refine lv_lconst (v := 0) hx hb dX4_quantOf_26 (by decide) ?_
    refine lv_lload_n hx hb dX4_quantOf_27 rfl (lv_at hl 1 rfl) ?_
    refine lv_lconst (v := 1) hx hb dX4_quantOf_28 (by decide) ?_
    refine lv_lsub hx hb dX4_quantOf_29 ?_
    refine lv_lload hx hb dX4_quantOf_30 (lv_at hl 0 rfl) ?_
    refine va_mmin_long hx hb (by rw [hml]; exact hl.1.symm) hown (hts _ (List.mem_cons_of_mem _ mw_330)) (hts _ (List.mem_cons_of_mem _ mw_331)) (hts _ (List.mem_cons_of_mem _ mw_76)) (hts _ (List.mem_cons_of_mem _ mw_332)) (Nat.le_of_ble_eq_true rfl) (Nat.le_of_ble_eq_true rfl) (Nat.zero_le _) (Nat.zero_le _) dX4_quantOf_32 ?_
    refine lv_topl (fun x4 e_x4 => ?_)
    replace hw := hw x4 e_x4
    clear e_x4
    refine va_mmax_long hx hb (by rw [hml]; exact hl.1.symm) hown (hts _ (List.mem_cons_of_mem _ mw_333)) (hts _ (List.mem_cons_of_mem _ mw_334)) (hts _ (List.mem_cons_of_mem _ mw_76)) (hts _ (List.mem_cons_of_mem _ mw_335)) (Nat.le_of_ble_eq_true rfl) (Nat.le_of_ble_eq_true rfl) (Nat.zero_le _) (Nat.zero_le _) dX4_quantOf_35 ?_
    refine lv_topl (fun x5 e_x5 => ?_)
    replace hw := hw x5 e_x5
    clear e_x5
    refine lv_l2i (v := x5.toInt32) hx hb dX4_quantOf_38 rfl ?_
    subst hQe
    exact W.iret (v := x5.toInt32) hx hb hr (fun t ht hW => ⟨⟨(x5.toInt32), (), rfl, hw, by rw [ht]; exact hP, va_K.moved hW.alike hK, hD⟩, hS.F ht⟩) hS.2.2 dX4_quantOf_39
  · replace hw := hw.2 c1
    refine lv_iconst (v := 0) hx hb dX4_quantOf_4 (by decide) ?_
    subst hQe
    exact W.iret (v := (0 : Int32)) hx hb hr (fun t ht hW => ⟨⟨(0 : Int32), (), rfl, hw, by rw [ht]; exact hP, va_K.moved hW.alike hK, hD⟩, hS.F ht⟩) hS.2.2 dX4_quantOf_5
set_option maxHeartbeats 4000000 in
set_option maxRecDepth 100000 in
theorem c_X4_quantise (l : Launch) (dC : Nat → ClassId) (dI : Nat → Nat → Nat) (cy : Nat → ClassId) (h0 h_split h_told h_quants h_backs h_rejoined h_scales h_needs h_bits : Nat) (sz : Nat) (c_twins : Int32) (c_method : Int32) (c_pool : Int32) (c_told : Nat → Int32) (c_scales : Nat → Int32) (c_bits : Nat → Int32) (c_quants : Nat → Int32) (c_backs : Nat → Int32) (post : (Nat → Int32) → (Nat → Int32) → Prop) (hw : wp_X4_quantise c_told c_scales c_bits c_quants c_backs post) : Met l yX4_quantise wsX4_quantise ({ frames := 2, cells := 0, slots := 0, locals := 56 }) (PX dC dI cy [.ref h0] sz (w_X4_quantise h0 h_split h_told h_quants h_backs h_rejoined h_scales h_needs h_bits cy c_twins c_method c_pool c_told c_scales c_bits c_quants c_backs)) (va_Qv (fun (u : (Nat → Int32) × (Nat → Int32)) => post u.1 u.2) (QX dC dI cy (va_A (w_X4_quantise h0 h_split h_told h_quants h_backs h_rejoined h_scales h_needs h_bits cy c_twins c_method c_pool c_told c_scales c_bits c_quants c_backs) sz) (fun (u : (Nat → Int32) × (Nat → Int32)) => w_X4_quantise h0 h_split h_told h_quants h_backs h_rejoined h_scales h_needs h_bits cy c_twins c_method c_pool c_told c_scales c_bits u.1 u.2)) (va_A (w_X4_quantise h0 h_split h_told h_quants h_backs h_rejoined h_scales h_needs h_bits cy c_twins c_method c_pool c_told c_scales c_bits c_quants c_backs) sz)) 0 0 (va_A (w_X4_quantise h0 h_split h_told h_quants h_backs h_rejoined h_scales h_needs h_bits cy c_twins c_method c_pool c_told c_scales c_bits c_quants c_backs) sz) := by
  refine Met.ofW (cc := cX4_quantise) (maxL := 3) (ret := none) (by decide) rfl ?_
  intro p e s m args below meth c s₁ B hml hv
  obtain ⟨rfl, hsz, hP, hK, hD0, hG⟩ := hv
  have hx := B.exec
  have hb := B.bytes
  have hr := B.returns
  have hts := atoms_spec (ws := wsX4_quantise) B.pre
  have hown : s.vm.findClass RX4 = some m.cls := findClass_of_methodNamed B.named
  have hlocks := B.notSynchronized
  subst hsz
  have hD := hD0.self (sz := s.heap.size)
  generalize hAe : va_A (w_X4_quantise h0 h_split h_told h_quants h_backs h_rejoined h_scales h_needs h_bits cy c_twins c_method c_pool c_told c_scales c_bits c_quants c_backs) s.heap.size = A at hD ⊢
  have hA : ∀ q : Nat, s.heap.size ≤ q → A q := fun q h => by rw [← hAe]; exact Or.inr h
  have hS : va_S A s.heap s.heap [] := va_S.rf
  have hl := lv_entry ([.ref h0]) (n := 3) (Nat.le_of_ble_eq_true rfl)
  rw [lg_entry_eq]
  generalize (lg_sl ([.ref h0]) ++ List.replicate (3 - (lg_sl ([.ref h0])).length) Slot.unset).toArray = ls at hl ⊢
  replace hl : lv_has ls 3 [(0, .ref h0)] := hl
  have inX4 : ∀ w ∈ u_ws RX4 TX4 11, w ∈ wsX4_quantise := fun w h => List.mem_cons_of_mem _ (inlX4 w h)
  clear hAe hD0 B
  unfold wp_X4_quantise at hw
  generalize hQe : MQ below _ _ s _ _ _ = Q0
  generalize ([.ref h0] : List Value).toArray = av at *
  obtain ⟨H, hH⟩ : ∃ H, H = s.heap := ⟨_, rfl⟩
  obtain ⟨locs, hlo⟩ : ∃ L : List Loc, L = [] := ⟨_, rfl⟩
  replace hP : va_P (dC, dI) vwCl (w_X4_quantise h0 h_split h_told h_quants h_backs h_rejoined h_scales h_needs h_bits cy c_twins c_method c_pool c_told c_scales c_bits c_quants c_backs) H := by rw [hH]; exact hP
  replace hS : va_S A s.heap H locs := by rw [hH, hlo]; exact hS
  suffices hgo : W p l e ({ frames := 2, cells := 0, slots := 0, locals := 56 }) s m av below meth c H locs 0 0 Q0 (F0 m 0 ls []) by rw [hH, hlo] at hgo; exact hgo
  clear hH hlo
  refine lv_iconst (v := 0) hx hb dX4_quantise_0 (by decide) ?_
  refine lv_istore_n (lv' := [(1, .int (0 : Int32)), (0, .ref h0)]) hx hb dX4_quantise_1 rfl hl (by decide) rfl ?_; clear hl; clear ls; intro ls hl
  obtain ⟨x1, e_x1⟩ : ∃ y : Int32, y = (0 : Int32) := ⟨_, rfl⟩
  replace hw := hw x1 e_x1
  replace hl : lv_has ls 3 [(1, .int x1), (0, .ref h0)] := by rw [e_x1]; exact hl
  clear e_x1
  replace hl := lv_sub (l' := [(1, .int x1), (0, .ref h0)]) hl [0, 1] rfl
  revert hl; revert hS; revert hD; revert hP; revert ls; revert locs; revert H
  revert hw; revert c_backs; revert c_quants; revert x1
  refine Lz3_gr ?_; intro g2 ih3 x4 f5 f6 hw
  intro H locs ls hP hD hS hl
  refine lv_iload_n hx hb dX4_quantise_2 rfl (lv_at hl 0 rfl) ?_
  refine lv_bipush (v := 64) hx hb dX4_quantise_3 (by decide) ?_
  refine lv_icmp_ge (tgt := 73) hx hb dX4_quantise_5 (by decide) (fun c7 => ?_) (fun c7 => ?_)
  · replace hw := hw.1 c7
    clear ih3
    subst hQe
    exact W.vret hx hb hr (fun t ht hW => ⟨⟨(f5, f6), rfl, hw, by rw [ht]; exact hP, va_K.moved hW.alike hK, hD⟩, hS.F ht⟩) hS.2.2 dX4_quantise_73
  · replace hw := hw.2 c7
    refine lv_iload_n hx hb dX4_quantise_8 rfl (lv_at hl 0 rfl) ?_
    refine lv_bipush (v := 16) hx hb dX4_quantise_9 (by decide) ?_
    refine lv_irem hx hb dX4_quantise_11 (by decide) ?_
    refine lv_topi (fun x8 e_x8 => ?_)
    replace hw := hw x8 e_x8
    clear e_x8
    refine lv_istore_n (lv' := [(2, .int x8), (1, .int x4), (0, .ref h0)]) hx hb dX4_quantise_12 rfl hl (by decide) rfl ?_; clear hl; clear ls; intro ls hl
    refine lv_aload_n hx hb dX4_quantise_13 rfl (lv_at hl 2 rfl) ?_
    refine va_get (D := (dC, dI)) (ci := 4) (v := .ref h_quants) (C := RX4) (T := TX4) (N := 11) hx hb hts inX4 hown hK hP 0 rfl rfl 2 (by decide) (hts _ (List.mem_cons_of_mem _ mw_122)) (fun _ h9 => h9) rfl dX4_quantise_14 ?_
    refine lv_iload_n hx hb dX4_quantise_17 rfl (lv_at hl 1 rfl) ?_
    refine lv_aload_n hx hb dX4_quantise_18 rfl (lv_at hl 2 rfl) ?_
    refine va_get (D := (dC, dI)) (ci := 4) (v := .ref h_told) (C := RX4) (T := TX4) (N := 11) hx hb hts inX4 hown hK hP 0 rfl rfl 1 (by decide) (hts _ (List.mem_cons_of_mem _ mw_121)) (fun _ h9 => h9) rfl dX4_quantise_19 ?_
    refine lv_iload_n hx hb dX4_quantise_22 rfl (lv_at hl 1 rfl) ?_
    obtain ⟨h9, hw⟩ := hw
    refine xiald (k := x4.toNatClampNeg) hx hb hK hP 1 0 rfl rfl h9 rfl dX4_quantise_23 ?_
    refine lv_aload_n hx hb dX4_quantise_24 rfl (lv_at hl 2 rfl) ?_
    refine va_get (D := (dC, dI)) (ci := 4) (v := .ref h_scales) (C := RX4) (T := TX4) (N := 11) hx hb hts inX4 hown hK hP 0 rfl rfl 5 (by decide) (hts _ (List.mem_cons_of_mem _ mw_125)) (fun _ h9 => h9) rfl dX4_quantise_25 ?_
    refine lv_iload_n hx hb dX4_quantise_28 rfl (lv_at hl 0 rfl) ?_
    obtain ⟨h10, hw⟩ := hw
    refine xiald (k := x8.toNatClampNeg) hx hb hK hP 2 0 rfl rfl h10 rfl dX4_quantise_29 ?_
    refine lv_aload_n hx hb dX4_quantise_30 rfl (lv_at hl 2 rfl) ?_
    refine va_get (D := (dC, dI)) (ci := 4) (v := .ref h_bits) (C := RX4) (T := TX4) (N := 11) hx hb hts inX4 hown hK hP 0 rfl rfl 7 (by decide) (hts _ (List.mem_cons_of_mem _ mw_127)) (fun _ h9 => h9) rfl dX4_quantise_31 ?_
    refine lv_iload_n hx hb dX4_quantise_34 rfl (lv_at hl 0 rfl) ?_
    obtain ⟨h11, hw⟩ := hw
    refine xiald (k := x8.toNatClampNeg) hx hb hK hP 3 0 rfl rfl h11 rfl dX4_quantise_35 ?_
    have hPc := pSub (ws' := (w_X4_quantOf cy)) hP [] rfl
    have hDc := dSub (ws' := (w_X4_quantOf cy)) hD [] (by decide) rfl
    have hFc := va_free (wc := (w_X4_quantOf cy)) hD hS hA [] rfl
    refine va_calli (va_runS (As := [.int (c_told x4.toNatClampNeg), .int (c_scales x8.toNatClampNeg), .int (c_bits x8.toNatClampNeg)]) (rest := [.int x4, .ref h_quants]) ⟨hx, hb, hml, hown, hts⟩ (c_X4_quantOf l dC dI cy  H.size (c_told x4.toNatClampNeg) (c_scales x8.toNatClampNeg) (c_bits x8.toNatClampNeg) _ hw) (va_cwS 3 hts (goodS mw_329 mw_327 mw_328 mw_20) rfl rfl rfl (by decide +kernel) ⟨Nat.le_of_ble_eq_true rfl, Nat.le_of_ble_eq_true rfl⟩) ⟨PX_blind, PX_pre hPc hK hDc hG⟩ rfl rfl hl.1 rfl (lv_room (Nat.le_of_ble_eq_true rfl)) dX4_quantise_36 ⟨Nat.zero_le _, Nat.zero_le _⟩) hS (fun q _ h => hFc q h) hFc ?_; clear hw hS; intro r12 _ t H1 locs1 ht hvm hw hB hz1 hk1 hS
    obtain ⟨hP1, -, -⟩ := hB
    rw [ht] at hP1
    replace hP := jC0 hP hD [] [0, 1, 2, 3, 4, 5] rfl hk1 hP1 (w_X4_quantise h0 h_split h_told h_quants h_backs h_rejoined h_scales h_needs h_bits cy c_twins c_method c_pool c_told c_scales c_bits f5 f6) rfl rfl rfl 6 rfl (by decide +kernel); clear hD; obtain ⟨hP, hD⟩ := hP
    replace hP : va_P (dC, dI) vwCl (w_X4_quantise h0 h_split h_told h_quants h_backs h_rejoined h_scales h_needs h_bits cy c_twins c_method c_pool c_told c_scales c_bits f5 f6) H1 := hP
    replace hD : va_D A (w_X4_quantise h0 h_split h_told h_quants h_backs h_rejoined h_scales h_needs h_bits cy c_twins c_method c_pool c_told c_scales c_bits f5 f6) := hD
    clear hPc hDc hFc hP1 hk1 hz1 hvm ht; clear t; clear H locs; obtain ⟨H, hH⟩ : ∃ H, H = H1 := ⟨_, rfl⟩; obtain ⟨locs, hlo⟩ : ∃ L, L = locs1 := ⟨_, rfl⟩; subst hH; subst hlo
    refine W.widen (k := 0) (n := 0) (Nat.le_refl 0) (Nat.le_refl 0) ?_
    obtain ⟨h13, hw⟩ := hw
    refine xiast (k := x4.toNatClampNeg) hx hb hK hP hD hS 4 0 rfl rfl h13 rfl dX4_quantise_39 ?_; clear hP hD hS; clear H locs; intro f14 e_f14 H locs hP hD hS
    replace hw := hw f14 e_f14
    clear e_f14
    replace hP : va_P (dC, dI) vwCl (w_X4_quantise h0 h_split h_told h_quants h_backs h_rejoined h_scales h_needs h_bits cy c_twins c_method c_pool c_told c_scales c_bits f14 f6) H := hP
    replace hD : va_D A (w_X4_quantise h0 h_split h_told h_quants h_backs h_rejoined h_scales h_needs h_bits cy c_twins c_method c_pool c_told c_scales c_bits f14 f6) := hD
    refine lv_aload_n hx hb dX4_quantise_40 rfl (lv_at hl 2 rfl) ?_
    refine va_get (D := (dC, dI)) (ci := 4) (v := .ref h_backs) (C := RX4) (T := TX4) (N := 11) hx hb hts inX4 hown hK hP 0 rfl rfl 3 (by decide) (hts _ (List.mem_cons_of_mem _ mw_123)) (fun _ h9 => h9) rfl dX4_quantise_41 ?_
    refine lv_iload_n hx hb dX4_quantise_44 rfl (lv_at hl 1 rfl) ?_
    refine lv_aload_n hx hb dX4_quantise_45 rfl (lv_at hl 2 rfl) ?_
    refine va_get (D := (dC, dI)) (ci := 4) (v := .ref h_quants) (C := RX4) (T := TX4) (N := 11) hx hb hts inX4 hown hK hP 0 rfl rfl 2 (by decide) (hts _ (List.mem_cons_of_mem _ mw_122)) (fun _ h9 => h9) rfl dX4_quantise_46 ?_
    refine lv_iload_n hx hb dX4_quantise_49 rfl (lv_at hl 1 rfl) ?_
    obtain ⟨h15, hw⟩ := hw
    refine xiald (k := x4.toNatClampNeg) hx hb hK hP 4 0 rfl rfl h15 rfl dX4_quantise_50 ?_
    refine lv_aload_n hx hb dX4_quantise_51 rfl (lv_at hl 2 rfl) ?_
    refine va_get (D := (dC, dI)) (ci := 4) (v := .ref h_scales) (C := RX4) (T := TX4) (N := 11) hx hb hts inX4 hown hK hP 0 rfl rfl 5 (by decide) (hts _ (List.mem_cons_of_mem _ mw_125)) (fun _ h9 => h9) rfl dX4_quantise_52 ?_
    refine lv_iload_n hx hb dX4_quantise_55 rfl (lv_at hl 0 rfl) ?_
    obtain ⟨h16, hw⟩ := hw
    refine xiald (k := x8.toNatClampNeg) hx hb hK hP 2 0 rfl rfl h16 rfl dX4_quantise_56 ?_
    refine lv_aload_n hx hb dX4_quantise_57 rfl (lv_at hl 2 rfl) ?_
    refine va_get (D := (dC, dI)) (ci := 4) (v := .ref h_bits) (C := RX4) (T := TX4) (N := 11) hx hb hts inX4 hown hK hP 0 rfl rfl 7 (by decide) (hts _ (List.mem_cons_of_mem _ mw_127)) (fun _ h9 => h9) rfl dX4_quantise_58 ?_
    refine lv_iload_n hx hb dX4_quantise_61 rfl (lv_at hl 0 rfl) ?_
    obtain ⟨h17, hw⟩ := hw
    refine xiald (k := x8.toNatClampNeg) hx hb hK hP 3 0 rfl rfl h17 rfl dX4_quantise_62 ?_
    have hPc := pSub (ws' := (w_X4_backOf cy)) hP [] rfl
    have hDc := dSub (ws' := (w_X4_backOf cy)) hD [] (by decide) rfl
    have hFc := va_free (wc := (w_X4_backOf cy)) hD hS hA [] rfl
    refine va_calli (va_runS (As := [.int (f14 x4.toNatClampNeg), .int (c_scales x8.toNatClampNeg), .int (c_bits x8.toNatClampNeg)]) (rest := [.int x4, .ref h_backs]) ⟨hx, hb, hml, hown, hts⟩ (c_X4_backOf l dC dI cy  H.size (f14 x4.toNatClampNeg) (c_scales x8.toNatClampNeg) (c_bits x8.toNatClampNeg) _ hw) (va_cwS 3 hts (goodS mw_338 mw_336 mw_337 mw_20) rfl rfl rfl (by decide +kernel) ⟨Nat.le_of_ble_eq_true rfl, Nat.le_of_ble_eq_true rfl⟩) ⟨PX_blind, PX_pre hPc hK hDc hG⟩ rfl rfl hl.1 rfl (lv_room (Nat.le_of_ble_eq_true rfl)) dX4_quantise_63 ⟨Nat.zero_le _, Nat.zero_le _⟩) hS (fun q _ h => hFc q h) hFc ?_; clear hw hS; intro r18 _ t H1 locs1 ht hvm hw hB hz1 hk1 hS
    obtain ⟨hP1, -, -⟩ := hB
    rw [ht] at hP1
    replace hP := jC0 hP hD [] [0, 1, 2, 3, 4, 5] rfl hk1 hP1 (w_X4_quantise h0 h_split h_told h_quants h_backs h_rejoined h_scales h_needs h_bits cy c_twins c_method c_pool c_told c_scales c_bits f14 f6) rfl rfl rfl 6 rfl (by decide +kernel); clear hD; obtain ⟨hP, hD⟩ := hP
    replace hP : va_P (dC, dI) vwCl (w_X4_quantise h0 h_split h_told h_quants h_backs h_rejoined h_scales h_needs h_bits cy c_twins c_method c_pool c_told c_scales c_bits f14 f6) H1 := hP
    replace hD : va_D A (w_X4_quantise h0 h_split h_told h_quants h_backs h_rejoined h_scales h_needs h_bits cy c_twins c_method c_pool c_told c_scales c_bits f14 f6) := hD
    clear hPc hDc hFc hP1 hk1 hz1 hvm ht; clear t; clear H locs; obtain ⟨H, hH⟩ : ∃ H, H = H1 := ⟨_, rfl⟩; obtain ⟨locs, hlo⟩ : ∃ L, L = locs1 := ⟨_, rfl⟩; subst hH; subst hlo
    refine W.widen (k := 0) (n := 0) (Nat.le_refl 0) (Nat.le_refl 0) ?_
    obtain ⟨h19, hw⟩ := hw
    refine xiast (k := x4.toNatClampNeg) hx hb hK hP hD hS 5 0 rfl rfl h19 rfl dX4_quantise_66 ?_; clear hP hD hS; clear H locs; intro f20 e_f20 H locs hP hD hS
    replace hw := hw f20 e_f20
    clear e_f20
    replace hP : va_P (dC, dI) vwCl (w_X4_quantise h0 h_split h_told h_quants h_backs h_rejoined h_scales h_needs h_bits cy c_twins c_method c_pool c_told c_scales c_bits f14 f20) H := hP
    replace hD : va_D A (w_X4_quantise h0 h_split h_told h_quants h_backs h_rejoined h_scales h_needs h_bits cy c_twins c_method c_pool c_told c_scales c_bits f14 f20) := hD
    refine lv_iinc (v := x4 + 1) (lv' := [(1, .int (x4 + 1)), (2, .int x8), (0, .ref h0)]) hx hb dX4_quantise_67 hl (k := 1) rfl rfl (by decide) rfl ?_; clear hl; clear ls; intro ls hl
    refine lv_goto (tgt := 2) hx hb dX4_quantise_70 (by decide) ?_
    exact ih3 (x4 + 1) f14 f20 hw H locs ls hP hD hS (lv_sub hl [0, 2] rfl)
set_option maxHeartbeats 4000000 in
set_option maxRecDepth 100000 in
theorem c_X4_makeTwin (l : Launch) (dC : Nat → ClassId) (dI : Nat → Nat → Nat) (cy : Nat → ClassId) (h0 h_split h_told h_quants h_backs h_rejoined h_scales h_needs h_bits : Nat) (sz : Nat) (v1 : Int32) (c_twins : Int32) (c_method : Int32) (c_pool : Int32) (c_split : Nat → Int32) (c_told : Nat → Int32) (post : (Nat → Int32) → Prop) (hw : wp_X4_makeTwin v1 c_split c_told post) : Met l yX4_makeTwin wsX4_makeTwin ({ frames := 0, cells := 0, slots := 0, locals := 0 }) (PX dC dI cy [.ref h0, .int v1] sz (w_X4_makeTwin h0 h_split h_told h_quants h_backs h_rejoined h_scales h_needs h_bits cy c_twins c_method c_pool c_split c_told)) (va_Qv (fun (u : (Nat → Int32)) => post u) (QX dC dI cy (va_A (w_X4_makeTwin h0 h_split h_told h_quants h_backs h_rejoined h_scales h_needs h_bits cy c_twins c_method c_pool c_split c_told) sz) (fun (u : (Nat → Int32)) => w_X4_makeTwin h0 h_split h_told h_quants h_backs h_rejoined h_scales h_needs h_bits cy c_twins c_method c_pool c_split u)) (va_A (w_X4_makeTwin h0 h_split h_told h_quants h_backs h_rejoined h_scales h_needs h_bits cy c_twins c_method c_pool c_split c_told) sz)) 0 0 (va_A (w_X4_makeTwin h0 h_split h_told h_quants h_backs h_rejoined h_scales h_needs h_bits cy c_twins c_method c_pool c_split c_told) sz) := by
  refine Met.ofW (cc := cX4_makeTwin) (maxL := 5) (ret := none) (by decide) rfl ?_
  intro p e s m args below meth c s₁ B hml hv
  obtain ⟨rfl, hsz, hP, hK, hD0, hG⟩ := hv
  have hx := B.exec
  have hb := B.bytes
  have hr := B.returns
  have hts := atoms_spec (ws := wsX4_makeTwin) B.pre
  have hown : s.vm.findClass RX4 = some m.cls := findClass_of_methodNamed B.named
  have hlocks := B.notSynchronized
  subst hsz
  have hD := hD0.self (sz := s.heap.size)
  generalize hAe : va_A (w_X4_makeTwin h0 h_split h_told h_quants h_backs h_rejoined h_scales h_needs h_bits cy c_twins c_method c_pool c_split c_told) s.heap.size = A at hD ⊢
  have hA : ∀ q : Nat, s.heap.size ≤ q → A q := fun q h => by rw [← hAe]; exact Or.inr h
  have hS : va_S A s.heap s.heap [] := va_S.rf
  have hl := lv_entry ([.ref h0, .int v1]) (n := 5) (Nat.le_of_ble_eq_true rfl)
  rw [lg_entry_eq]
  generalize (lg_sl ([.ref h0, .int v1]) ++ List.replicate (5 - (lg_sl ([.ref h0, .int v1])).length) Slot.unset).toArray = ls at hl ⊢
  replace hl : lv_has ls 5 [(0, .ref h0), (1, .int v1)] := hl
  have inX4 : ∀ w ∈ u_ws RX4 TX4 11, w ∈ wsX4_makeTwin := fun w h => List.mem_cons_of_mem _ (inlX4 w h)
  clear hAe hD0 B
  unfold wp_X4_makeTwin at hw
  generalize hQe : MQ below _ _ s _ _ _ = Q0
  generalize ([.ref h0, .int v1] : List Value).toArray = av at *
  obtain ⟨H, hH⟩ : ∃ H, H = s.heap := ⟨_, rfl⟩
  obtain ⟨locs, hlo⟩ : ∃ L : List Loc, L = [] := ⟨_, rfl⟩
  replace hP : va_P (dC, dI) vwCl (w_X4_makeTwin h0 h_split h_told h_quants h_backs h_rejoined h_scales h_needs h_bits cy c_twins c_method c_pool c_split c_told) H := by rw [hH]; exact hP
  replace hS : va_S A s.heap H locs := by rw [hH, hlo]; exact hS
  suffices hgo : W p l e ({ frames := 0, cells := 0, slots := 0, locals := 0 }) s m av below meth c H locs 0 0 Q0 (F0 m 0 ls []) by rw [hH, hlo] at hgo; exact hgo
  clear hH hlo
  refine lv_iload_n hx hb dX4_makeTwin_0 rfl (lv_at hl 1 rfl) ?_
  refine lv_istore_n (lv' := [(2, .int v1), (0, .ref h0), (1, .int v1)]) hx hb dX4_makeTwin_1 rfl hl (by decide) rfl ?_; clear hl; clear ls; intro ls hl
  obtain ⟨x1, e_x1⟩ : ∃ y : Int32, y = v1 := ⟨_, rfl⟩
  replace hw := hw x1 e_x1
  replace hl : lv_has ls 5 [(2, .int x1), (0, .ref h0), (1, .int v1)] := by rw [e_x1]; exact hl
  clear e_x1
  replace hl := lv_sub (l' := [(2, .int x1), (0, .ref h0)]) hl [0, 1] rfl
  revert hl; revert hS; revert hD; revert hP; revert ls; revert locs; revert H
  revert hw; revert c_told; revert x1
  refine Lz2_gr ?_; intro g2 ih3 x4 f5 hw
  intro H locs ls hP hD hS hl
  refine lv_iload_n hx hb dX4_makeTwin_2 rfl (lv_at hl 0 rfl) ?_
  refine lv_bipush (v := 64) hx hb dX4_makeTwin_3 (by decide) ?_
  refine lv_icmp_ge (tgt := 57) hx hb dX4_makeTwin_5 (by decide) (fun c6 => ?_) (fun c6 => ?_)
  · replace hw := hw.1 c6
    clear ih3
    subst hQe
    exact W.vret hx hb hr (fun t ht hW => ⟨⟨f5, rfl, hw, by rw [ht]; exact hP, va_K.moved hW.alike hK, hD⟩, hS.F ht⟩) hS.2.2 dX4_makeTwin_57
  · replace hw := hw.2 c6
    refine lv_aload_n hx hb dX4_makeTwin_8 rfl (lv_at hl 1 rfl) ?_
    refine va_get (D := (dC, dI)) (ci := 4) (v := .ref h_split) (C := RX4) (T := TX4) (N := 11) hx hb hts inX4 hown hK hP 0 rfl rfl 0 (by decide) (hts _ (List.mem_cons_of_mem _ mw_120)) (fun _ h9 => h9) rfl dX4_makeTwin_9 ?_
    refine lv_iload_n hx hb dX4_makeTwin_12 rfl (lv_at hl 0 rfl) ?_
    obtain ⟨h7, hw⟩ := hw
    refine xiald (k := x4.toNatClampNeg) hx hb hK hP 1 0 rfl rfl h7 rfl dX4_makeTwin_13 ?_
    refine lv_topi (fun x8 e_x8 => ?_)
    replace hw := hw x8 e_x8
    clear e_x8
    refine lv_istore_n (lv' := [(3, .int x8), (2, .int x4), (0, .ref h0)]) hx hb dX4_makeTwin_14 rfl hl (by decide) rfl ?_; clear hl; clear ls; intro ls hl
    refine lv_aload_n hx hb dX4_makeTwin_15 rfl (lv_at hl 2 rfl) ?_
    refine va_get (D := (dC, dI)) (ci := 4) (v := .ref h_split) (C := RX4) (T := TX4) (N := 11) hx hb hts inX4 hown hK hP 0 rfl rfl 0 (by decide) (hts _ (List.mem_cons_of_mem _ mw_120)) (fun _ h9 => h9) rfl dX4_makeTwin_16 ?_
    refine lv_iload_n hx hb dX4_makeTwin_19 rfl (lv_at hl 1 rfl) ?_
    refine lv_bipush (v := 8) hx hb dX4_makeTwin_20 (by decide) ?_
    refine lv_iadd hx hb dX4_makeTwin_22 ?_
    obtain ⟨h9, hw⟩ := hw
    refine xiald (k := (x4 + (8 : Int32)).toNatClampNeg) hx hb hK hP 1 0 rfl rfl h9 rfl dX4_makeTwin_23 ?_
    refine lv_topi (fun x10 e_x10 => ?_)
    replace hw := hw x10 e_x10
    clear e_x10
    refine lv_istore (lv' := [(4, .int x10), (3, .int x8), (2, .int x4), (0, .ref h0)]) hx hb dX4_makeTwin_24 hl (by decide) rfl ?_; clear hl; clear ls; intro ls hl
    refine lv_aload_n hx hb dX4_makeTwin_26 rfl (lv_at hl 3 rfl) ?_
    refine va_get (D := (dC, dI)) (ci := 4) (v := .ref h_told) (C := RX4) (T := TX4) (N := 11) hx hb hts inX4 hown hK hP 0 rfl rfl 1 (by decide) (hts _ (List.mem_cons_of_mem _ mw_121)) (fun _ h9 => h9) rfl dX4_makeTwin_27 ?_
    refine lv_iload_n hx hb dX4_makeTwin_30 rfl (lv_at hl 2 rfl) ?_
    refine lv_iload_n hx hb dX4_makeTwin_31 rfl (lv_at hl 1 rfl) ?_
    refine lv_iload hx hb dX4_makeTwin_32 (lv_at hl 0 rfl) ?_
    refine lv_iadd hx hb dX4_makeTwin_34 ?_
    refine lv_iconst (v := 1) hx hb dX4_makeTwin_35 (by decide) ?_
    refine lv_ishr hx hb dX4_makeTwin_36 ?_
    obtain ⟨h11, hw⟩ := hw
    refine xiast (k := x4.toNatClampNeg) hx hb hK hP hD hS 2 0 rfl rfl h11 rfl dX4_makeTwin_37 ?_; clear hP hD hS; clear H locs; intro f12 e_f12 H locs hP hD hS
    replace hw := hw f12 e_f12
    clear e_f12
    replace hP : va_P (dC, dI) vwCl (w_X4_makeTwin h0 h_split h_told h_quants h_backs h_rejoined h_scales h_needs h_bits cy c_twins c_method c_pool c_split f12) H := hP
    replace hD : va_D A (w_X4_makeTwin h0 h_split h_told h_quants h_backs h_rejoined h_scales h_needs h_bits cy c_twins c_method c_pool c_split f12) := hD
    refine lv_aload_n hx hb dX4_makeTwin_38 rfl (lv_at hl 3 rfl) ?_
    refine va_get (D := (dC, dI)) (ci := 4) (v := .ref h_told) (C := RX4) (T := TX4) (N := 11) hx hb hts inX4 hown hK hP 0 rfl rfl 1 (by decide) (hts _ (List.mem_cons_of_mem _ mw_121)) (fun _ h9 => h9) rfl dX4_makeTwin_39 ?_
    refine lv_iload_n hx hb dX4_makeTwin_42 rfl (lv_at hl 2 rfl) ?_
    refine lv_bipush (v := 8) hx hb dX4_makeTwin_43 (by decide) ?_
    refine lv_iadd hx hb dX4_makeTwin_45 ?_
    refine lv_iload_n hx hb dX4_makeTwin_46 rfl (lv_at hl 1 rfl) ?_
    refine lv_iload hx hb dX4_makeTwin_47 (lv_at hl 0 rfl) ?_
    refine lv_isub hx hb dX4_makeTwin_49 ?_
    obtain ⟨h13, hw⟩ := hw
    refine xiast (k := (x4 + (8 : Int32)).toNatClampNeg) hx hb hK hP hD hS 2 0 rfl rfl h13 rfl dX4_makeTwin_50 ?_; clear hP hD hS; clear H locs; intro f14 e_f14 H locs hP hD hS
    replace hw := hw f14 e_f14
    clear e_f14
    replace hP : va_P (dC, dI) vwCl (w_X4_makeTwin h0 h_split h_told h_quants h_backs h_rejoined h_scales h_needs h_bits cy c_twins c_method c_pool c_split f14) H := hP
    replace hD : va_D A (w_X4_makeTwin h0 h_split h_told h_quants h_backs h_rejoined h_scales h_needs h_bits cy c_twins c_method c_pool c_split f14) := hD
    refine lv_iinc (v := x4 + 16) (lv' := [(2, .int (x4 + 16)), (4, .int x10), (3, .int x8), (0, .ref h0)]) hx hb dX4_makeTwin_51 hl (k := 2) rfl rfl (by decide) rfl ?_; clear hl; clear ls; intro ls hl
    refine lv_goto (tgt := 2) hx hb dX4_makeTwin_54 (by decide) ?_
    exact ih3 (x4 + 16) f14 hw H locs ls hP hD hS (lv_sub hl [0, 3] rfl)
set_option maxHeartbeats 4000000 in
set_option maxRecDepth 100000 in
theorem c_X4_scaleOf (l : Launch) (dC : Nat → ClassId) (dI : Nat → Nat → Nat) (cy : Nat → ClassId) (h0 h_split h_told h_quants h_backs h_rejoined h_scales h_needs h_bits : Nat) (sz : Nat) (v1 : Int32) (c_twins : Int32) (c_method : Int32) (c_pool : Int32) (c_told : Nat → Int32) (post : Int32 → Prop) (hw : wp_X4_scaleOf v1 c_told post) : Met l yX4_scaleOf wsX4_scaleOf ({ frames := 1, cells := 0, slots := 0, locals := 30 }) (PX dC dI cy [.ref h0, .int v1] sz (w_X4_scaleOf h0 h_split h_told h_quants h_backs h_rejoined h_scales h_needs h_bits cy c_twins c_method c_pool c_told)) (va_Qi (fun (r : Int32) (u : Unit) => post r) (QX dC dI cy (va_A (w_X4_scaleOf h0 h_split h_told h_quants h_backs h_rejoined h_scales h_needs h_bits cy c_twins c_method c_pool c_told) sz) (fun (u : Unit) => w_X4_scaleOf h0 h_split h_told h_quants h_backs h_rejoined h_scales h_needs h_bits cy c_twins c_method c_pool c_told)) (va_A (w_X4_scaleOf h0 h_split h_told h_quants h_backs h_rejoined h_scales h_needs h_bits cy c_twins c_method c_pool c_told) sz)) 0 0 (va_A (w_X4_scaleOf h0 h_split h_told h_quants h_backs h_rejoined h_scales h_needs h_bits cy c_twins c_method c_pool c_told) sz) := by
  refine Met.ofW (cc := cX4_scaleOf) (maxL := 4) (ret := (some .int)) (by decide) rfl ?_
  intro p e s m args below meth c s₁ B hml hv
  obtain ⟨rfl, hsz, hP, hK, hD0, hG⟩ := hv
  have hx := B.exec
  have hb := B.bytes
  have hr := B.returns
  have hts := atoms_spec (ws := wsX4_scaleOf) B.pre
  have hown : s.vm.findClass RX4 = some m.cls := findClass_of_methodNamed B.named
  have hlocks := B.notSynchronized
  subst hsz
  have hD := hD0.self (sz := s.heap.size)
  generalize hAe : va_A (w_X4_scaleOf h0 h_split h_told h_quants h_backs h_rejoined h_scales h_needs h_bits cy c_twins c_method c_pool c_told) s.heap.size = A at hD ⊢
  have hA : ∀ q : Nat, s.heap.size ≤ q → A q := fun q h => by rw [← hAe]; exact Or.inr h
  have hS : va_S A s.heap s.heap [] := va_S.rf
  have hl := lv_entry ([.ref h0, .int v1]) (n := 4) (Nat.le_of_ble_eq_true rfl)
  rw [lg_entry_eq]
  generalize (lg_sl ([.ref h0, .int v1]) ++ List.replicate (4 - (lg_sl ([.ref h0, .int v1])).length) Slot.unset).toArray = ls at hl ⊢
  replace hl : lv_has ls 4 [(0, .ref h0), (1, .int v1)] := hl
  have inX4 : ∀ w ∈ u_ws RX4 TX4 11, w ∈ wsX4_scaleOf := fun w h => List.mem_cons_of_mem _ (inlX4 w h)
  clear hAe hD0 B
  unfold wp_X4_scaleOf at hw
  generalize hQe : MQ below _ _ s _ _ _ = Q0
  generalize ([.ref h0, .int v1] : List Value).toArray = av at *
  obtain ⟨H, hH⟩ : ∃ H, H = s.heap := ⟨_, rfl⟩
  obtain ⟨locs, hlo⟩ : ∃ L : List Loc, L = [] := ⟨_, rfl⟩
  replace hP : va_P (dC, dI) vwCl (w_X4_scaleOf h0 h_split h_told h_quants h_backs h_rejoined h_scales h_needs h_bits cy c_twins c_method c_pool c_told) H := by rw [hH]; exact hP
  replace hS : va_S A s.heap H locs := by rw [hH, hlo]; exact hS
  suffices hgo : W p l e ({ frames := 1, cells := 0, slots := 0, locals := 30 }) s m av below meth c H locs 0 0 Q0 (F0 m 0 ls []) by rw [hH, hlo] at hgo; exact hgo
  clear hH hlo
  refine lv_iconst (v := 0) hx hb dX4_scaleOf_0 (by decide) ?_
  refine lv_istore_n (lv' := [(2, .int (0 : Int32)), (0, .ref h0), (1, .int v1)]) hx hb dX4_scaleOf_1 rfl hl (by decide) rfl ?_; clear hl; clear ls; intro ls hl
  refine lv_iload_n hx hb dX4_scaleOf_2 rfl (lv_at hl 2 rfl) ?_
  refine lv_istore_n (lv' := [(3, .int v1), (2, .int (0 : Int32)), (0, .ref h0), (1, .int v1)]) hx hb dX4_scaleOf_3 rfl hl (by decide) rfl ?_; clear hl; clear ls; intro ls hl
  obtain ⟨x1, e_x1⟩ : ∃ y : Int32, y = v1 := ⟨_, rfl⟩
  replace hw := hw x1 e_x1
  replace hl : lv_has ls 4 [(3, .int x1), (2, .int (0 : Int32)), (0, .ref h0), (1, .int v1)] := by rw [e_x1]; exact hl
  clear e_x1
  obtain ⟨x2, e_x2⟩ : ∃ y : Int32, y = (0 : Int32) := ⟨_, rfl⟩
  replace hw := hw x2 e_x2
  replace hl : lv_has ls 4 [(3, .int x1), (2, .int x2), (0, .ref h0), (1, .int v1)] := by rw [e_x2]; exact hl
  clear e_x2
  replace hl := lv_sub (l' := [(3, .int x1), (2, .int x2), (0, .ref h0)]) hl [0, 1, 2] rfl
  revert hl; revert hS; revert hD; revert hP; revert ls; revert locs; revert H
  revert hw; revert x2; revert x1
  refine Lz2_gr ?_; intro g3 ih4 x5 x6 hw
  intro H locs ls hP hD hS hl
  refine lv_iload_n hx hb dX4_scaleOf_4 rfl (lv_at hl 0 rfl) ?_
  refine lv_bipush (v := 64) hx hb dX4_scaleOf_5 (by decide) ?_
  refine lv_icmp_ge (tgt := 30) hx hb dX4_scaleOf_7 (by decide) (fun c7 => ?_) (fun c7 => ?_)
  · replace hw := hw.1 c7
    clear ih4
    refine lv_iconst (v := 0) hx hb dX4_scaleOf_30 (by decide) ?_
    refine lv_istore_n (lv' := [(3, .int (0 : Int32)), (2, .int x6), (0, .ref h0)]) hx hb dX4_scaleOf_31 rfl hl (by decide) rfl ?_; clear hl; clear ls; intro ls hl
    obtain ⟨x8, e_x8⟩ : ∃ y : Int32, y = (0 : Int32) := ⟨_, rfl⟩
    replace hw := hw x8 e_x8
    replace hl : lv_has ls 4 [(3, .int x8), (2, .int x6), (0, .ref h0)] := by rw [e_x8]; exact hl
    clear e_x8
    replace hl := lv_sub (l' := [(3, .int x8), (2, .int x6)]) hl [0, 1] rfl
    revert hl; revert hS; revert hD; revert hP; revert ls; revert locs; revert H
    revert hw; revert x8
    refine Lz1_gr ?_; intro g9 ih10 x11 hw
    intro H locs ls hP hD hS hl
    refine lv_iload_n hx hb dX4_scaleOf_32 rfl (lv_at hl 0 rfl) ?_
    refine lv_bipush (v := 15) hx hb dX4_scaleOf_33 (by decide) ?_
    refine lv_icmp_ge (tgt := 53) hx hb dX4_scaleOf_35 (by decide) (fun c12 => ?_) (fun c12 => ?_)
    · replace hw := hw.1 c12
      clear ih10
      refine lv_bipush (v := 15) hx hb dX4_scaleOf_53 (by decide) ?_
      subst hQe
      exact W.iret (v := (15 : Int32)) hx hb hr (fun t ht hW => ⟨⟨(15 : Int32), (), rfl, hw, by rw [ht]; exact hP, va_K.moved hW.alike hK, hD⟩, hS.F ht⟩) hS.2.2 dX4_scaleOf_55
    · replace hw := hw.2 c12
      refine lv_iload_n hx hb dX4_scaleOf_38 rfl (lv_at hl 1 rfl) ?_
      refine lv_iconst (v := 1) hx hb dX4_scaleOf_39 (by decide) ?_
      refine lv_iload_n hx hb dX4_scaleOf_40 rfl (lv_at hl 0 rfl) ?_
      refine lv_ishl hx hb dX4_scaleOf_41 ?_
      refine lv_icmp_ge (tgt := 47) hx hb dX4_scaleOf_42 (by decide) (fun c13 => ?_) (fun c13 => ?_)
      · replace hw := hw.1 c13
        refine lv_iinc (v := x11 + 1) (lv' := [(3, .int (x11 + 1)), (2, .int x6)]) hx hb dX4_scaleOf_47 hl (k := 0) rfl rfl (by decide) rfl ?_; clear hl; clear ls; intro ls hl
        refine lv_goto (tgt := 32) hx hb dX4_scaleOf_50 (by decide) ?_
        exact ih10 (x11 + 1) hw H locs ls hP hD hS (lv_sub hl [0, 1] rfl)
      · replace hw := hw.2 c13
        clear ih10
        refine lv_iload_n hx hb dX4_scaleOf_45 rfl (lv_at hl 0 rfl) ?_
        subst hQe
        exact W.iret (v := x11) hx hb hr (fun t ht hW => ⟨⟨x11, (), rfl, hw, by rw [ht]; exact hP, va_K.moved hW.alike hK, hD⟩, hS.F ht⟩) hS.2.2 dX4_scaleOf_46
  · replace hw := hw.2 c7
    refine lv_iload_n hx hb dX4_scaleOf_10 rfl (lv_at hl 1 rfl) ?_
    refine lv_aload_n hx hb dX4_scaleOf_11 rfl (lv_at hl 2 rfl) ?_
    refine va_get (D := (dC, dI)) (ci := 4) (v := .ref h_told) (C := RX4) (T := TX4) (N := 11) hx hb hts inX4 hown hK hP 0 rfl rfl 1 (by decide) (hts _ (List.mem_cons_of_mem _ mw_121)) (fun _ h9 => h9) rfl dX4_scaleOf_12 ?_
    refine lv_iload_n hx hb dX4_scaleOf_15 rfl (lv_at hl 0 rfl) ?_
    obtain ⟨h14, hw⟩ := hw
    refine xiald (k := x5.toNatClampNeg) hx hb hK hP 1 0 rfl rfl h14 rfl dX4_scaleOf_16 ?_
    refine va_mabs hx hb (by rw [hml]; exact hl.1.symm) hown (hts _ (List.mem_cons_of_mem _ mw_295)) (hts _ (List.mem_cons_of_mem _ mw_296)) (hts _ (List.mem_cons_of_mem _ mw_76)) (hts _ (List.mem_cons_of_mem _ mw_297)) (Nat.le_of_ble_eq_true rfl) (Nat.le_of_ble_eq_true rfl) (Nat.zero_le _) (Nat.zero_le _) dX4_scaleOf_17 ?_
    refine lv_topi (fun x15 e_x15 => ?_)
    replace hw := hw x15 e_x15
    clear e_x15
    refine va_mmax hx hb (by rw [hml]; exact hl.1.symm) hown (hts _ (List.mem_cons_of_mem _ mw_310)) (hts _ (List.mem_cons_of_mem _ mw_75)) (hts _ (List.mem_cons_of_mem _ mw_76)) (hts _ (List.mem_cons_of_mem _ mw_77)) (Nat.le_of_ble_eq_true rfl) (Nat.le_of_ble_eq_true rfl) (Nat.zero_le _) (Nat.zero_le _) dX4_scaleOf_20 ?_
    refine lv_topi (fun x16 e_x16 => ?_)
    replace hw := hw x16 e_x16
    clear e_x16
    refine lv_istore_n (lv' := [(2, .int x16), (3, .int x5), (0, .ref h0)]) hx hb dX4_scaleOf_23 rfl hl (by decide) rfl ?_; clear hl; clear ls; intro ls hl
    refine lv_iinc (v := x5 + 16) (lv' := [(3, .int (x5 + 16)), (2, .int x16), (0, .ref h0)]) hx hb dX4_scaleOf_24 hl (k := 1) rfl rfl (by decide) rfl ?_; clear hl; clear ls; intro ls hl
    refine lv_goto (tgt := 4) hx hb dX4_scaleOf_27 (by decide) ?_
    exact ih4 (x5 + 16) x16 hw H locs ls hP hD hS (lv_sub hl [0, 1, 2] rfl)
set_option maxHeartbeats 4000000 in
set_option maxRecDepth 100000 in
theorem c_X4_sumApart (l : Launch) (dC : Nat → ClassId) (dI : Nat → Nat → Nat) (cy : Nat → ClassId) (h0 h_split h_told h_quants h_backs h_rejoined h_scales h_needs h_bits : Nat) (sz : Nat) (v1 : Int32) (c_twins : Int32) (c_method : Int32) (c_pool : Int32) (c_split : Nat → Int32) (post : Int32 → Prop) (hw : wp_X4_sumApart v1 c_split post) : Met l yX4_sumApart wsX4_sumApart ({ frames := 1, cells := 0, slots := 0, locals := 30 }) (PX dC dI cy [.ref h0, .int v1] sz (w_X4_sumApart h0 h_split h_told h_quants h_backs h_rejoined h_scales h_needs h_bits cy c_twins c_method c_pool c_split)) (va_Qi (fun (r : Int32) (u : Unit) => post r) (QX dC dI cy (va_A (w_X4_sumApart h0 h_split h_told h_quants h_backs h_rejoined h_scales h_needs h_bits cy c_twins c_method c_pool c_split) sz) (fun (u : Unit) => w_X4_sumApart h0 h_split h_told h_quants h_backs h_rejoined h_scales h_needs h_bits cy c_twins c_method c_pool c_split)) (va_A (w_X4_sumApart h0 h_split h_told h_quants h_backs h_rejoined h_scales h_needs h_bits cy c_twins c_method c_pool c_split) sz)) 0 0 (va_A (w_X4_sumApart h0 h_split h_told h_quants h_backs h_rejoined h_scales h_needs h_bits cy c_twins c_method c_pool c_split) sz) := by
  refine Met.ofW (cc := cX4_sumApart) (maxL := 4) (ret := (some .int)) (by decide) rfl ?_
  intro p e s m args below meth c s₁ B hml hv
  obtain ⟨rfl, hsz, hP, hK, hD0, hG⟩ := hv
  have hx := B.exec
  have hb := B.bytes
  have hr := B.returns
  have hts := atoms_spec (ws := wsX4_sumApart) B.pre
  have hown : s.vm.findClass RX4 = some m.cls := findClass_of_methodNamed B.named
  have hlocks := B.notSynchronized
  subst hsz
  have hD := hD0.self (sz := s.heap.size)
  generalize hAe : va_A (w_X4_sumApart h0 h_split h_told h_quants h_backs h_rejoined h_scales h_needs h_bits cy c_twins c_method c_pool c_split) s.heap.size = A at hD ⊢
  have hA : ∀ q : Nat, s.heap.size ≤ q → A q := fun q h => by rw [← hAe]; exact Or.inr h
  have hS : va_S A s.heap s.heap [] := va_S.rf
  have hl := lv_entry ([.ref h0, .int v1]) (n := 4) (Nat.le_of_ble_eq_true rfl)
  rw [lg_entry_eq]
  generalize (lg_sl ([.ref h0, .int v1]) ++ List.replicate (4 - (lg_sl ([.ref h0, .int v1])).length) Slot.unset).toArray = ls at hl ⊢
  replace hl : lv_has ls 4 [(0, .ref h0), (1, .int v1)] := hl
  have inX4 : ∀ w ∈ u_ws RX4 TX4 11, w ∈ wsX4_sumApart := fun w h => List.mem_cons_of_mem _ (inlX4 w h)
  clear hAe hD0 B
  unfold wp_X4_sumApart at hw
  generalize hQe : MQ below _ _ s _ _ _ = Q0
  generalize ([.ref h0, .int v1] : List Value).toArray = av at *
  obtain ⟨H, hH⟩ : ∃ H, H = s.heap := ⟨_, rfl⟩
  obtain ⟨locs, hlo⟩ : ∃ L : List Loc, L = [] := ⟨_, rfl⟩
  replace hP : va_P (dC, dI) vwCl (w_X4_sumApart h0 h_split h_told h_quants h_backs h_rejoined h_scales h_needs h_bits cy c_twins c_method c_pool c_split) H := by rw [hH]; exact hP
  replace hS : va_S A s.heap H locs := by rw [hH, hlo]; exact hS
  suffices hgo : W p l e ({ frames := 1, cells := 0, slots := 0, locals := 30 }) s m av below meth c H locs 0 0 Q0 (F0 m 0 ls []) by rw [hH, hlo] at hgo; exact hgo
  clear hH hlo
  refine lv_iconst (v := 0) hx hb dX4_sumApart_0 (by decide) ?_
  refine lv_istore_n (lv' := [(2, .int (0 : Int32)), (0, .ref h0), (1, .int v1)]) hx hb dX4_sumApart_1 rfl hl (by decide) rfl ?_; clear hl; clear ls; intro ls hl
  refine lv_iload_n hx hb dX4_sumApart_2 rfl (lv_at hl 2 rfl) ?_
  refine lv_istore_n (lv' := [(3, .int v1), (2, .int (0 : Int32)), (0, .ref h0), (1, .int v1)]) hx hb dX4_sumApart_3 rfl hl (by decide) rfl ?_; clear hl; clear ls; intro ls hl
  obtain ⟨x1, e_x1⟩ : ∃ y : Int32, y = v1 := ⟨_, rfl⟩
  replace hw := hw x1 e_x1
  replace hl : lv_has ls 4 [(3, .int x1), (2, .int (0 : Int32)), (0, .ref h0), (1, .int v1)] := by rw [e_x1]; exact hl
  clear e_x1
  obtain ⟨x2, e_x2⟩ : ∃ y : Int32, y = (0 : Int32) := ⟨_, rfl⟩
  replace hw := hw x2 e_x2
  replace hl : lv_has ls 4 [(3, .int x1), (2, .int x2), (0, .ref h0), (1, .int v1)] := by rw [e_x2]; exact hl
  clear e_x2
  replace hl := lv_sub (l' := [(3, .int x1), (2, .int x2), (0, .ref h0)]) hl [0, 1, 2] rfl
  revert hl; revert hS; revert hD; revert hP; revert ls; revert locs; revert H
  revert hw; revert x2; revert x1
  refine Lz2_gr ?_; intro g3 ih4 x5 x6 hw
  intro H locs ls hP hD hS hl
  refine lv_iload_n hx hb dX4_sumApart_4 rfl (lv_at hl 0 rfl) ?_
  refine lv_bipush (v := 64) hx hb dX4_sumApart_5 (by decide) ?_
  refine lv_icmp_ge (tgt := 41) hx hb dX4_sumApart_7 (by decide) (fun c7 => ?_) (fun c7 => ?_)
  · replace hw := hw.1 c7
    clear ih4
    refine lv_iload_n hx hb dX4_sumApart_41 rfl (lv_at hl 1 rfl) ?_
    subst hQe
    exact W.iret (v := x6) hx hb hr (fun t ht hW => ⟨⟨x6, (), rfl, hw, by rw [ht]; exact hP, va_K.moved hW.alike hK, hD⟩, hS.F ht⟩) hS.2.2 dX4_sumApart_42
  · replace hw := hw.2 c7
    refine lv_iload_n hx hb dX4_sumApart_10 rfl (lv_at hl 1 rfl) ?_
    refine lv_aload_n hx hb dX4_sumApart_11 rfl (lv_at hl 2 rfl) ?_
    refine va_get (D := (dC, dI)) (ci := 4) (v := .ref h_split) (C := RX4) (T := TX4) (N := 11) hx hb hts inX4 hown hK hP 0 rfl rfl 0 (by decide) (hts _ (List.mem_cons_of_mem _ mw_120)) (fun _ h9 => h9) rfl dX4_sumApart_12 ?_
    refine lv_iload_n hx hb dX4_sumApart_15 rfl (lv_at hl 0 rfl) ?_
    obtain ⟨h8, hw⟩ := hw
    refine xiald (k := x5.toNatClampNeg) hx hb hK hP 1 0 rfl rfl h8 rfl dX4_sumApart_16 ?_
    refine va_mabs hx hb (by rw [hml]; exact hl.1.symm) hown (hts _ (List.mem_cons_of_mem _ mw_295)) (hts _ (List.mem_cons_of_mem _ mw_296)) (hts _ (List.mem_cons_of_mem _ mw_76)) (hts _ (List.mem_cons_of_mem _ mw_297)) (Nat.le_of_ble_eq_true rfl) (Nat.le_of_ble_eq_true rfl) (Nat.zero_le _) (Nat.zero_le _) dX4_sumApart_17 ?_
    refine lv_topi (fun x9 e_x9 => ?_)
    replace hw := hw x9 e_x9
    clear e_x9
    refine lv_aload_n hx hb dX4_sumApart_20 rfl (lv_at hl 2 rfl) ?_
    refine va_get (D := (dC, dI)) (ci := 4) (v := .ref h_split) (C := RX4) (T := TX4) (N := 11) hx hb hts inX4 hown hK hP 0 rfl rfl 0 (by decide) (hts _ (List.mem_cons_of_mem _ mw_120)) (fun _ h9 => h9) rfl dX4_sumApart_21 ?_
    refine lv_iload_n hx hb dX4_sumApart_24 rfl (lv_at hl 0 rfl) ?_
    refine lv_bipush (v := 8) hx hb dX4_sumApart_25 (by decide) ?_
    refine lv_iadd hx hb dX4_sumApart_27 ?_
    obtain ⟨h10, hw⟩ := hw
    refine xiald (k := (x5 + (8 : Int32)).toNatClampNeg) hx hb hK hP 1 0 rfl rfl h10 rfl dX4_sumApart_28 ?_
    refine va_mabs hx hb (by rw [hml]; exact hl.1.symm) hown (hts _ (List.mem_cons_of_mem _ mw_295)) (hts _ (List.mem_cons_of_mem _ mw_296)) (hts _ (List.mem_cons_of_mem _ mw_76)) (hts _ (List.mem_cons_of_mem _ mw_297)) (Nat.le_of_ble_eq_true rfl) (Nat.le_of_ble_eq_true rfl) (Nat.zero_le _) (Nat.zero_le _) dX4_sumApart_29 ?_
    refine lv_topi (fun x11 e_x11 => ?_)
    replace hw := hw x11 e_x11
    clear e_x11
    refine lv_iadd hx hb dX4_sumApart_32 ?_
    refine lv_iadd hx hb dX4_sumApart_33 ?_
    refine lv_topi (fun x12 e_x12 => ?_)
    replace hw := hw x12 e_x12
    clear e_x12
    refine lv_istore_n (lv' := [(2, .int x12), (3, .int x5), (0, .ref h0)]) hx hb dX4_sumApart_34 rfl hl (by decide) rfl ?_; clear hl; clear ls; intro ls hl
    refine lv_iinc (v := x5 + 16) (lv' := [(3, .int (x5 + 16)), (2, .int x12), (0, .ref h0)]) hx hb dX4_sumApart_35 hl (k := 1) rfl rfl (by decide) rfl ?_; clear hl; clear ls; intro ls hl
    refine lv_goto (tgt := 4) hx hb dX4_sumApart_38 (by decide) ?_
    exact ih4 (x5 + 16) x12 hw H locs ls hP hD hS (lv_sub hl [0, 1, 2] rfl)
set_option maxHeartbeats 4000000 in
set_option maxRecDepth 100000 in
theorem c_X4_sumPaired (l : Launch) (dC : Nat → ClassId) (dI : Nat → Nat → Nat) (cy : Nat → ClassId) (h0 h_split h_told h_quants h_backs h_rejoined h_scales h_needs h_bits : Nat) (sz : Nat) (v1 : Int32) (c_twins : Int32) (c_method : Int32) (c_pool : Int32) (c_split : Nat → Int32) (post : Int32 → Prop) (hw : wp_X4_sumPaired v1 c_split post) : Met l yX4_sumPaired wsX4_sumPaired ({ frames := 1, cells := 0, slots := 0, locals := 30 }) (PX dC dI cy [.ref h0, .int v1] sz (w_X4_sumPaired h0 h_split h_told h_quants h_backs h_rejoined h_scales h_needs h_bits cy c_twins c_method c_pool c_split)) (va_Qi (fun (r : Int32) (u : Unit) => post r) (QX dC dI cy (va_A (w_X4_sumPaired h0 h_split h_told h_quants h_backs h_rejoined h_scales h_needs h_bits cy c_twins c_method c_pool c_split) sz) (fun (u : Unit) => w_X4_sumPaired h0 h_split h_told h_quants h_backs h_rejoined h_scales h_needs h_bits cy c_twins c_method c_pool c_split)) (va_A (w_X4_sumPaired h0 h_split h_told h_quants h_backs h_rejoined h_scales h_needs h_bits cy c_twins c_method c_pool c_split) sz)) 0 0 (va_A (w_X4_sumPaired h0 h_split h_told h_quants h_backs h_rejoined h_scales h_needs h_bits cy c_twins c_method c_pool c_split) sz) := by
  refine Met.ofW (cc := cX4_sumPaired) (maxL := 6) (ret := (some .int)) (by decide) rfl ?_
  intro p e s m args below meth c s₁ B hml hv
  obtain ⟨rfl, hsz, hP, hK, hD0, hG⟩ := hv
  have hx := B.exec
  have hb := B.bytes
  have hr := B.returns
  have hts := atoms_spec (ws := wsX4_sumPaired) B.pre
  have hown : s.vm.findClass RX4 = some m.cls := findClass_of_methodNamed B.named
  have hlocks := B.notSynchronized
  subst hsz
  have hD := hD0.self (sz := s.heap.size)
  generalize hAe : va_A (w_X4_sumPaired h0 h_split h_told h_quants h_backs h_rejoined h_scales h_needs h_bits cy c_twins c_method c_pool c_split) s.heap.size = A at hD ⊢
  have hA : ∀ q : Nat, s.heap.size ≤ q → A q := fun q h => by rw [← hAe]; exact Or.inr h
  have hS : va_S A s.heap s.heap [] := va_S.rf
  have hl := lv_entry ([.ref h0, .int v1]) (n := 6) (Nat.le_of_ble_eq_true rfl)
  rw [lg_entry_eq]
  generalize (lg_sl ([.ref h0, .int v1]) ++ List.replicate (6 - (lg_sl ([.ref h0, .int v1])).length) Slot.unset).toArray = ls at hl ⊢
  replace hl : lv_has ls 6 [(0, .ref h0), (1, .int v1)] := hl
  have inX4 : ∀ w ∈ u_ws RX4 TX4 11, w ∈ wsX4_sumPaired := fun w h => List.mem_cons_of_mem _ (inlX4 w h)
  clear hAe hD0 B
  unfold wp_X4_sumPaired at hw
  generalize hQe : MQ below _ _ s _ _ _ = Q0
  generalize ([.ref h0, .int v1] : List Value).toArray = av at *
  obtain ⟨H, hH⟩ : ∃ H, H = s.heap := ⟨_, rfl⟩
  obtain ⟨locs, hlo⟩ : ∃ L : List Loc, L = [] := ⟨_, rfl⟩
  replace hP : va_P (dC, dI) vwCl (w_X4_sumPaired h0 h_split h_told h_quants h_backs h_rejoined h_scales h_needs h_bits cy c_twins c_method c_pool c_split) H := by rw [hH]; exact hP
  replace hS : va_S A s.heap H locs := by rw [hH, hlo]; exact hS
  suffices hgo : W p l e ({ frames := 1, cells := 0, slots := 0, locals := 30 }) s m av below meth c H locs 0 0 Q0 (F0 m 0 ls []) by rw [hH, hlo] at hgo; exact hgo
  clear hH hlo
  refine lv_iconst (v := 0) hx hb dX4_sumPaired_0 (by decide) ?_
  refine lv_istore_n (lv' := [(2, .int (0 : Int32)), (0, .ref h0), (1, .int v1)]) hx hb dX4_sumPaired_1 rfl hl (by decide) rfl ?_; clear hl; clear ls; intro ls hl
  refine lv_iload_n hx hb dX4_sumPaired_2 rfl (lv_at hl 2 rfl) ?_
  refine lv_istore_n (lv' := [(3, .int v1), (2, .int (0 : Int32)), (0, .ref h0), (1, .int v1)]) hx hb dX4_sumPaired_3 rfl hl (by decide) rfl ?_; clear hl; clear ls; intro ls hl
  obtain ⟨x1, e_x1⟩ : ∃ y : Int32, y = v1 := ⟨_, rfl⟩
  replace hw := hw x1 e_x1
  replace hl : lv_has ls 6 [(3, .int x1), (2, .int (0 : Int32)), (0, .ref h0), (1, .int v1)] := by rw [e_x1]; exact hl
  clear e_x1
  obtain ⟨x2, e_x2⟩ : ∃ y : Int32, y = (0 : Int32) := ⟨_, rfl⟩
  replace hw := hw x2 e_x2
  replace hl : lv_has ls 6 [(3, .int x1), (2, .int x2), (0, .ref h0), (1, .int v1)] := by rw [e_x2]; exact hl
  clear e_x2
  replace hl := lv_sub (l' := [(3, .int x1), (2, .int x2), (0, .ref h0)]) hl [0, 1, 2] rfl
  revert hl; revert hS; revert hD; revert hP; revert ls; revert locs; revert H
  revert hw; revert x2; revert x1
  refine Lz2_gr ?_; intro g3 ih4 x5 x6 hw
  intro H locs ls hP hD hS hl
  refine lv_iload_n hx hb dX4_sumPaired_4 rfl (lv_at hl 0 rfl) ?_
  refine lv_bipush (v := 64) hx hb dX4_sumPaired_5 (by decide) ?_
  refine lv_icmp_ge (tgt := 57) hx hb dX4_sumPaired_7 (by decide) (fun c7 => ?_) (fun c7 => ?_)
  · replace hw := hw.1 c7
    clear ih4
    refine lv_iload_n hx hb dX4_sumPaired_57 rfl (lv_at hl 1 rfl) ?_
    subst hQe
    exact W.iret (v := x6) hx hb hr (fun t ht hW => ⟨⟨x6, (), rfl, hw, by rw [ht]; exact hP, va_K.moved hW.alike hK, hD⟩, hS.F ht⟩) hS.2.2 dX4_sumPaired_58
  · replace hw := hw.2 c7
    refine lv_aload_n hx hb dX4_sumPaired_10 rfl (lv_at hl 2 rfl) ?_
    refine va_get (D := (dC, dI)) (ci := 4) (v := .ref h_split) (C := RX4) (T := TX4) (N := 11) hx hb hts inX4 hown hK hP 0 rfl rfl 0 (by decide) (hts _ (List.mem_cons_of_mem _ mw_120)) (fun _ h9 => h9) rfl dX4_sumPaired_11 ?_
    refine lv_iload_n hx hb dX4_sumPaired_14 rfl (lv_at hl 0 rfl) ?_
    obtain ⟨h8, hw⟩ := hw
    refine xiald (k := x5.toNatClampNeg) hx hb hK hP 1 0 rfl rfl h8 rfl dX4_sumPaired_15 ?_
    refine lv_topi (fun x9 e_x9 => ?_)
    replace hw := hw x9 e_x9
    clear e_x9
    refine lv_istore (lv' := [(4, .int x9), (3, .int x5), (2, .int x6), (0, .ref h0)]) hx hb dX4_sumPaired_16 hl (by decide) rfl ?_; clear hl; clear ls; intro ls hl
    refine lv_aload_n hx hb dX4_sumPaired_18 rfl (lv_at hl 3 rfl) ?_
    refine va_get (D := (dC, dI)) (ci := 4) (v := .ref h_split) (C := RX4) (T := TX4) (N := 11) hx hb hts inX4 hown hK hP 0 rfl rfl 0 (by decide) (hts _ (List.mem_cons_of_mem _ mw_120)) (fun _ h9 => h9) rfl dX4_sumPaired_19 ?_
    refine lv_iload_n hx hb dX4_sumPaired_22 rfl (lv_at hl 1 rfl) ?_
    refine lv_bipush (v := 8) hx hb dX4_sumPaired_23 (by decide) ?_
    refine lv_iadd hx hb dX4_sumPaired_25 ?_
    obtain ⟨h10, hw⟩ := hw
    refine xiald (k := (x5 + (8 : Int32)).toNatClampNeg) hx hb hK hP 1 0 rfl rfl h10 rfl dX4_sumPaired_26 ?_
    refine lv_topi (fun x11 e_x11 => ?_)
    replace hw := hw x11 e_x11
    clear e_x11
    refine lv_istore (lv' := [(5, .int x11), (4, .int x9), (3, .int x5), (2, .int x6), (0, .ref h0)]) hx hb dX4_sumPaired_27 hl (by decide) rfl ?_; clear hl; clear ls; intro ls hl
    refine lv_iload_n hx hb dX4_sumPaired_29 rfl (lv_at hl 3 rfl) ?_
    refine lv_iload hx hb dX4_sumPaired_30 (lv_at hl 1 rfl) ?_
    refine lv_iload hx hb dX4_sumPaired_32 (lv_at hl 0 rfl) ?_
    refine lv_iadd hx hb dX4_sumPaired_34 ?_
    refine lv_iconst (v := 1) hx hb dX4_sumPaired_35 (by decide) ?_
    refine lv_ishr hx hb dX4_sumPaired_36 ?_
    refine va_mabs hx hb (by rw [hml]; exact hl.1.symm) hown (hts _ (List.mem_cons_of_mem _ mw_295)) (hts _ (List.mem_cons_of_mem _ mw_296)) (hts _ (List.mem_cons_of_mem _ mw_76)) (hts _ (List.mem_cons_of_mem _ mw_297)) (Nat.le_of_ble_eq_true rfl) (Nat.le_of_ble_eq_true rfl) (Nat.zero_le _) (Nat.zero_le _) dX4_sumPaired_37 ?_
    refine lv_topi (fun x12 e_x12 => ?_)
    replace hw := hw x12 e_x12
    clear e_x12
    refine lv_iload hx hb dX4_sumPaired_40 (lv_at hl 1 rfl) ?_
    refine lv_iload hx hb dX4_sumPaired_42 (lv_at hl 0 rfl) ?_
    refine lv_isub hx hb dX4_sumPaired_44 ?_
    refine va_mabs hx hb (by rw [hml]; exact hl.1.symm) hown (hts _ (List.mem_cons_of_mem _ mw_295)) (hts _ (List.mem_cons_of_mem _ mw_296)) (hts _ (List.mem_cons_of_mem _ mw_76)) (hts _ (List.mem_cons_of_mem _ mw_297)) (Nat.le_of_ble_eq_true rfl) (Nat.le_of_ble_eq_true rfl) (Nat.zero_le _) (Nat.zero_le _) dX4_sumPaired_45 ?_
    refine lv_topi (fun x13 e_x13 => ?_)
    replace hw := hw x13 e_x13
    clear e_x13
    refine lv_iadd hx hb dX4_sumPaired_48 ?_
    refine lv_iadd hx hb dX4_sumPaired_49 ?_
    refine lv_topi (fun x14 e_x14 => ?_)
    replace hw := hw x14 e_x14
    clear e_x14
    refine lv_istore_n (lv' := [(2, .int x14), (5, .int x11), (4, .int x9), (3, .int x5), (0, .ref h0)]) hx hb dX4_sumPaired_50 rfl hl (by decide) rfl ?_; clear hl; clear ls; intro ls hl
    refine lv_iinc (v := x5 + 16) (lv' := [(3, .int (x5 + 16)), (2, .int x14), (5, .int x11), (4, .int x9), (0, .ref h0)]) hx hb dX4_sumPaired_51 hl (k := 3) rfl rfl (by decide) rfl ?_; clear hl; clear ls; intro ls hl
    refine lv_goto (tgt := 4) hx hb dX4_sumPaired_54 (by decide) ?_
    exact ih4 (x5 + 16) x14 hw H locs ls hP hD hS (lv_sub hl [0, 1, 4] rfl)
set_option maxHeartbeats 4000000 in
set_option maxRecDepth 100000 in
theorem c_X4_tell (l : Launch) (dC : Nat → ClassId) (dI : Nat → Nat → Nat) (cy : Nat → ClassId) (h0 h_split h_told h_quants h_backs h_rejoined h_scales h_needs h_bits : Nat) (sz : Nat) (v1 : Int32) (c_twins : Int32) (c_method : Int32) (c_pool : Int32) (c_split : Nat → Int32) (c_told : Nat → Int32) (c_scales : Nat → Int32) (post : Int32 → (Nat → Int32) → (Nat → Int32) → Prop) (hw : wp_X4_tell v1 c_twins c_split c_told c_scales post) : Met l yX4_tell wsX4_tell ({ frames := 2, cells := 0, slots := 0, locals := 55 }) (PX dC dI cy [.ref h0, .int v1] sz (w_X4_tell h0 h_split h_told h_quants h_backs h_rejoined h_scales h_needs h_bits cy c_twins c_method c_pool c_split c_told c_scales)) (va_Qv (fun (u : Int32 × (Nat → Int32) × (Nat → Int32)) => post u.1 u.2.1 u.2.2) (QX dC dI cy (va_A (w_X4_tell h0 h_split h_told h_quants h_backs h_rejoined h_scales h_needs h_bits cy c_twins c_method c_pool c_split c_told c_scales) sz) (fun (u : Int32 × (Nat → Int32) × (Nat → Int32)) => w_X4_tell h0 h_split h_told h_quants h_backs h_rejoined h_scales h_needs h_bits cy u.1 c_method c_pool c_split u.2.1 u.2.2)) (va_A (w_X4_tell h0 h_split h_told h_quants h_backs h_rejoined h_scales h_needs h_bits cy c_twins c_method c_pool c_split c_told c_scales) sz)) 0 0 (va_A (w_X4_tell h0 h_split h_told h_quants h_backs h_rejoined h_scales h_needs h_bits cy c_twins c_method c_pool c_split c_told c_scales) sz) := by
  refine Met.ofW (cc := cX4_tell) (maxL := 3) (ret := none) (by decide) rfl ?_
  intro p e s m args below meth c s₁ B hml hv
  obtain ⟨rfl, hsz, hP, hK, hD0, hG⟩ := hv
  have hx := B.exec
  have hb := B.bytes
  have hr := B.returns
  have hts := atoms_spec (ws := wsX4_tell) B.pre
  have hown : s.vm.findClass RX4 = some m.cls := findClass_of_methodNamed B.named
  have hlocks := B.notSynchronized
  subst hsz
  have hD := hD0.self (sz := s.heap.size)
  generalize hAe : va_A (w_X4_tell h0 h_split h_told h_quants h_backs h_rejoined h_scales h_needs h_bits cy c_twins c_method c_pool c_split c_told c_scales) s.heap.size = A at hD ⊢
  have hA : ∀ q : Nat, s.heap.size ≤ q → A q := fun q h => by rw [← hAe]; exact Or.inr h
  have hS : va_S A s.heap s.heap [] := va_S.rf
  have hl := lv_entry ([.ref h0, .int v1]) (n := 3) (Nat.le_of_ble_eq_true rfl)
  rw [lg_entry_eq]
  generalize (lg_sl ([.ref h0, .int v1]) ++ List.replicate (3 - (lg_sl ([.ref h0, .int v1])).length) Slot.unset).toArray = ls at hl ⊢
  replace hl : lv_has ls 3 [(0, .ref h0), (1, .int v1)] := hl
  have inX4 : ∀ w ∈ u_ws RX4 TX4 11, w ∈ wsX4_tell := fun w h => List.mem_cons_of_mem _ (inlX4 w h)
  clear hAe hD0 B
  unfold wp_X4_tell at hw
  generalize hQe : MQ below _ _ s _ _ _ = Q0
  generalize ([.ref h0, .int v1] : List Value).toArray = av at *
  obtain ⟨H, hH⟩ : ∃ H, H = s.heap := ⟨_, rfl⟩
  obtain ⟨locs, hlo⟩ : ∃ L : List Loc, L = [] := ⟨_, rfl⟩
  replace hP : va_P (dC, dI) vwCl (w_X4_tell h0 h_split h_told h_quants h_backs h_rejoined h_scales h_needs h_bits cy c_twins c_method c_pool c_split c_told c_scales) H := by rw [hH]; exact hP
  replace hS : va_S A s.heap H locs := by rw [hH, hlo]; exact hS
  suffices hgo : W p l e ({ frames := 2, cells := 0, slots := 0, locals := 55 }) s m av below meth c H locs 0 0 Q0 (F0 m 0 ls []) by rw [hH, hlo] at hgo; exact hgo
  clear hH hlo
  refine lv_aload_n hx hb dX4_tell_0 rfl (lv_at hl 0 rfl) ?_
  refine va_get (D := (dC, dI)) (ci := 4) (v := .ref h_split) (C := RX4) (T := TX4) (N := 11) hx hb hts inX4 hown hK hP 0 rfl rfl 0 (by decide) (hts _ (List.mem_cons_of_mem _ mw_120)) (fun _ h9 => h9) rfl dX4_tell_1 ?_
  refine lv_iconst (v := 0) hx hb dX4_tell_4 (by decide) ?_
  refine lv_aload_n hx hb dX4_tell_5 rfl (lv_at hl 0 rfl) ?_
  refine va_get (D := (dC, dI)) (ci := 4) (v := .ref h_told) (C := RX4) (T := TX4) (N := 11) hx hb hts inX4 hown hK hP 0 rfl rfl 1 (by decide) (hts _ (List.mem_cons_of_mem _ mw_121)) (fun _ h9 => h9) rfl dX4_tell_6 ?_
  refine lv_iconst (v := 0) hx hb dX4_tell_9 (by decide) ?_
  refine lv_bipush (v := 64) hx hb dX4_tell_10 (by decide) ?_
  refine xcopyi (k1 := 0) (k2 := 0) (k3 := 64) hx hb (by rw [hml]; exact hl.1.symm) hown (hts _ (List.mem_cons_of_mem _ mw_290)) (hts _ (List.mem_cons_of_mem _ mw_59)) (hts _ (List.mem_cons_of_mem _ mw_60)) (hts _ (List.mem_cons_of_mem _ mw_61)) hK hP hD hS 1 2 0 0 rfl rfl rfl rfl rfl (by decide) (by decide) (by decide) (by decide) (by decide) (fun _ _ => rfl) (Nat.le_of_ble_eq_true rfl) (Nat.le_of_ble_eq_true rfl) (by decide) (by decide) (by decide) dX4_tell_12 ?_; clear hP hD hS; clear H locs; intro f1 e_f1 H locs hP hD hS
  replace hw := hw f1 e_f1
  clear e_f1
  replace hP : va_P (dC, dI) vwCl (w_X4_tell h0 h_split h_told h_quants h_backs h_rejoined h_scales h_needs h_bits cy c_twins c_method c_pool c_split f1 c_scales) H := hP
  replace hD : va_D A (w_X4_tell h0 h_split h_told h_quants h_backs h_rejoined h_scales h_needs h_bits cy c_twins c_method c_pool c_split f1 c_scales) := hD
  refine lv_aload_n hx hb dX4_tell_15 rfl (lv_at hl 0 rfl) ?_
  refine lv_iconst (v := 0) hx hb dX4_tell_16 (by decide) ?_
  refine va_put (D := (dC, dI)) (ci := 4) (v := .int (0 : Int32)) (ty := .int) (C := RX4) (T := TX4) (N := 11) hx hb hts inX4 tyX4 tyX4_ok nmX4 hown hK hP hD hS 0 rfl rfl 8 (by decide) (hts _ (List.mem_cons_of_mem _ mw_128)) (fun _ h9 => h9) rfl (by decide +kernel) rfl rfl (Nat.le_of_ble_eq_true rfl) dX4_tell_17 ?_; clear hP hD hS; clear H locs; intro H locs hP hD hS
  replace hP : va_P (dC, dI) vwCl (w_X4_tell h0 h_split h_told h_quants h_backs h_rejoined h_scales h_needs h_bits cy (0 : Int32) c_method c_pool c_split f1 c_scales) H := hP
  replace hD : va_D A (w_X4_tell h0 h_split h_told h_quants h_backs h_rejoined h_scales h_needs h_bits cy (0 : Int32) c_method c_pool c_split f1 c_scales) := hD
  refine lv_iconst (v := 0) hx hb dX4_tell_20 (by decide) ?_
  refine lv_istore_n (lv' := [(2, .int (0 : Int32)), (0, .ref h0), (1, .int v1)]) hx hb dX4_tell_21 rfl hl (by decide) rfl ?_; clear hl; clear ls; intro ls hl
  obtain ⟨x2, e_x2⟩ : ∃ y : Int32, y = (0 : Int32) := ⟨_, rfl⟩
  replace hw := hw x2 e_x2
  replace hl : lv_has ls 3 [(2, .int x2), (0, .ref h0), (1, .int v1)] := by rw [e_x2]; exact hl
  clear e_x2
  obtain ⟨x3, e_x3⟩ : ∃ y : Int32, y = (0 : Int32) := ⟨_, rfl⟩
  replace hw := hw x3 e_x3
  replace hP : va_P (dC, dI) vwCl (w_X4_tell h0 h_split h_told h_quants h_backs h_rejoined h_scales h_needs h_bits cy x3 c_method c_pool c_split f1 c_scales) H ∧ va_D A (w_X4_tell h0 h_split h_told h_quants h_backs h_rejoined h_scales h_needs h_bits cy x3 c_method c_pool c_split f1 c_scales) := (by rw [e_x3]; exact ⟨hP, hD⟩); clear hD; obtain ⟨hP, hD⟩ := hP
  clear e_x3
  replace hl := lv_sub (l' := [(2, .int x2), (0, .ref h0), (1, .int v1)]) hl [0, 1, 2] rfl
  revert hl; revert hS; revert hD; revert hP; revert ls; revert locs; revert H
  revert hw; revert f1; revert x3; revert x2
  refine Lz3_gr ?_; intro g4 ih5 x6 x7 f8 hw
  intro H locs ls hP hD hS hl
  refine lv_iload_n hx hb dX4_tell_22 rfl (lv_at hl 0 rfl) ?_
  refine lv_bipush (v := 7) hx hb dX4_tell_23 (by decide) ?_
  refine lv_icmp_ge (tgt := 69) hx hb dX4_tell_25 (by decide) (fun c9 => ?_) (fun c9 => ?_)
  · replace hw := hw.1 c9
    clear ih5
    refine lv_iconst (v := 0) hx hb dX4_tell_69 (by decide) ?_
    refine lv_istore_n (lv' := [(2, .int (0 : Int32)), (0, .ref h0), (1, .int v1)]) hx hb dX4_tell_70 rfl hl (by decide) rfl ?_; clear hl; clear ls; intro ls hl
    obtain ⟨x10, e_x10⟩ : ∃ y : Int32, y = (0 : Int32) := ⟨_, rfl⟩
    replace hw := hw x10 e_x10
    replace hl : lv_has ls 3 [(2, .int x10), (0, .ref h0), (1, .int v1)] := by rw [e_x10]; exact hl
    clear e_x10
    replace hl := lv_sub (l' := [(2, .int x10), (0, .ref h0)]) hl [0, 1] rfl
    revert hl; revert hS; revert hD; revert hP; revert ls; revert locs; revert H
    revert hw; revert c_scales; revert x10
    refine Lz2_gr ?_; intro g11 ih12 x13 f14 hw
    intro H locs ls hP hD hS hl
    refine lv_iload_n hx hb dX4_tell_71 rfl (lv_at hl 0 rfl) ?_
    refine lv_bipush (v := 16) hx hb dX4_tell_72 (by decide) ?_
    refine lv_icmp_ge (tgt := 94) hx hb dX4_tell_74 (by decide) (fun c15 => ?_) (fun c15 => ?_)
    · replace hw := hw.1 c15
      clear ih12
      subst hQe
      exact W.vret hx hb hr (fun t ht hW => ⟨⟨(x7, f8, f14), rfl, hw, by rw [ht]; exact hP, va_K.moved hW.alike hK, hD⟩, hS.F ht⟩) hS.2.2 dX4_tell_94
    · replace hw := hw.2 c15
      refine lv_aload_n hx hb dX4_tell_77 rfl (lv_at hl 1 rfl) ?_
      refine va_get (D := (dC, dI)) (ci := 4) (v := .ref h_scales) (C := RX4) (T := TX4) (N := 11) hx hb hts inX4 hown hK hP 0 rfl rfl 5 (by decide) (hts _ (List.mem_cons_of_mem _ mw_125)) (fun _ h9 => h9) rfl dX4_tell_78 ?_
      refine lv_iload_n hx hb dX4_tell_81 rfl (lv_at hl 0 rfl) ?_
      refine lv_aload_n hx hb dX4_tell_82 rfl (lv_at hl 1 rfl) ?_
      refine lv_iload_n hx hb dX4_tell_83 rfl (lv_at hl 0 rfl) ?_
      have hPc := pSub (ws' := (w_X4_scaleOf h0 h_split h_told h_quants h_backs h_rejoined h_scales h_needs h_bits cy x7 c_method c_pool f8)) hP [0, 2] rfl
      have hDc := dSub (ws' := (w_X4_scaleOf h0 h_split h_told h_quants h_backs h_rejoined h_scales h_needs h_bits cy x7 c_method c_pool f8)) hD [0, 2] (by decide) rfl
      have hFc := va_free (wc := (w_X4_scaleOf h0 h_split h_told h_quants h_backs h_rejoined h_scales h_needs h_bits cy x7 c_method c_pool f8)) hD hS hA [0, 2] rfl
      refine va_calli (va_runV (As := [.int x13]) (rest := [.int x13, .ref h_scales]) ⟨hx, hb, hml, hown, hts⟩ (c_X4_scaleOf l dC dI cy h0 h_split h_told h_quants h_backs h_rejoined h_scales h_needs h_bits H.size x13 x7 c_method c_pool f8 _ hw) (cwV 1 hts (goodV mw_309 mw_306 mw_307 mw_308 mw_20) rfl rfl rfl (by decide +kernel) ⟨Nat.le_of_ble_eq_true rfl, Nat.le_of_ble_eq_true rfl⟩) ⟨PX_blind, va_recv hK hPc (ci := 4) (q0 := 0) rfl rfl, PX_pre hPc hK hDc hG⟩ rfl rfl hl.1 rfl (lv_room (Nat.le_of_ble_eq_true rfl)) dX4_tell_84 ⟨Nat.zero_le _, Nat.zero_le _⟩) hS (fun q _ h => hFc q h) hFc ?_; clear hw hS; intro r16 _ t H1 locs1 ht hvm hw hB hz1 hk1 hS
      obtain ⟨hP1, -, -⟩ := hB
      rw [ht] at hP1
      replace hP := jC0 hP hD [0, 2] [1, 3] rfl hk1 hP1 (w_X4_tell h0 h_split h_told h_quants h_backs h_rejoined h_scales h_needs h_bits cy x7 c_method c_pool c_split f8 f14) rfl rfl rfl 4 rfl (by decide +kernel); clear hD; obtain ⟨hP, hD⟩ := hP
      replace hP : va_P (dC, dI) vwCl (w_X4_tell h0 h_split h_told h_quants h_backs h_rejoined h_scales h_needs h_bits cy x7 c_method c_pool c_split f8 f14) H1 := hP
      replace hD : va_D A (w_X4_tell h0 h_split h_told h_quants h_backs h_rejoined h_scales h_needs h_bits cy x7 c_method c_pool c_split f8 f14) := hD
      clear hPc hDc hFc hP1 hk1 hz1 hvm ht; clear t; clear H locs; obtain ⟨H, hH⟩ : ∃ H, H = H1 := ⟨_, rfl⟩; obtain ⟨locs, hlo⟩ : ∃ L, L = locs1 := ⟨_, rfl⟩; subst hH; subst hlo
      refine W.widen (k := 0) (n := 0) (Nat.le_refl 0) (Nat.le_refl 0) ?_
      obtain ⟨h17, hw⟩ := hw
      refine xiast (k := x13.toNatClampNeg) hx hb hK hP hD hS 3 0 rfl rfl h17 rfl dX4_tell_87 ?_; clear hP hD hS; clear H locs; intro f18 e_f18 H locs hP hD hS
      replace hw := hw f18 e_f18
      clear e_f18
      replace hP : va_P (dC, dI) vwCl (w_X4_tell h0 h_split h_told h_quants h_backs h_rejoined h_scales h_needs h_bits cy x7 c_method c_pool c_split f8 f18) H := hP
      replace hD : va_D A (w_X4_tell h0 h_split h_told h_quants h_backs h_rejoined h_scales h_needs h_bits cy x7 c_method c_pool c_split f8 f18) := hD
      refine lv_iinc (v := x13 + 1) (lv' := [(2, .int (x13 + 1)), (0, .ref h0)]) hx hb dX4_tell_88 hl (k := 0) rfl rfl (by decide) rfl ?_; clear hl; clear ls; intro ls hl
      refine lv_goto (tgt := 71) hx hb dX4_tell_91 (by decide) ?_
      exact ih12 (x13 + 1) f18 hw H locs ls hP hD hS (lv_sub hl [0, 1] rfl)
  · replace hw := hw.2 c9
    refine lv_iload_n hx hb dX4_tell_28 rfl (lv_at hl 2 rfl) ?_
    refine lv_iconst (v := 1) hx hb dX4_tell_29 (by decide) ?_
    refine jn2 (Gg := fun (x19 : Int32) (f20 : (Nat → Int32)) => ∀ (H : Heap) (locs : List Loc) (ls : Array Slot), va_P (dC, dI) vwCl (w_X4_tell h0 h_split h_told h_quants h_backs h_rejoined h_scales h_needs h_bits cy x19 c_method c_pool c_split f20 c_scales) H → va_D A (w_X4_tell h0 h_split h_told h_quants h_backs h_rejoined h_scales h_needs h_bits cy x19 c_method c_pool c_split f20 c_scales) → va_S A s.heap H locs → lv_has ls 3 [(0, .ref h0), (1, .int v1), (2, .int x6)] → W p l e { frames := 2, cells := 0, slots := 0, locals := 55 } s m av below meth c H locs 0 0 Q0 (F0 m 63 ls [])) hw ?_ ?_ <;> clear hw
    · clear hP hD hS hl; clear H locs ls; intro x19 f20 hw H locs ls hP hD hS hl
      refine lv_iinc (v := x6 + 1) (lv' := [(2, .int (x6 + 1)), (0, .ref h0), (1, .int v1)]) hx hb dX4_tell_63 hl (k := 2) rfl rfl (by decide) rfl ?_; clear hl; clear ls; intro ls hl
      refine lv_goto (tgt := 22) hx hb dX4_tell_66 (by decide) ?_
      exact ih5 (x6 + 1) x19 f20 hw H locs ls hP hD hS (lv_sub hl [0, 1, 2] rfl)
    · intro j22 hw
      refine lv_icmp_ne (tgt := 63) hx hb dX4_tell_30 (by decide) (fun c23 => ?_) (fun c23 => ?_)
      · replace hw := hw.2 c23
        exact j22 x7 f8 hw H locs ls hP hD hS (lv_sub hl [1, 2, 0] rfl)
      · replace hw := hw.1 c23
        refine lv_aload_n hx hb dX4_tell_33 rfl (lv_at hl 1 rfl) ?_
        refine lv_iload_n hx hb dX4_tell_34 rfl (lv_at hl 0 rfl) ?_
        have hPc := pSub (ws' := (w_X4_sumPaired h0 h_split h_told h_quants h_backs h_rejoined h_scales h_needs h_bits cy x7 c_method c_pool c_split)) hP [0, 1] rfl
        have hDc := dSub (ws' := (w_X4_sumPaired h0 h_split h_told h_quants h_backs h_rejoined h_scales h_needs h_bits cy x7 c_method c_pool c_split)) hD [0, 1] (by decide) rfl
        have hFc := va_free (wc := (w_X4_sumPaired h0 h_split h_told h_quants h_backs h_rejoined h_scales h_needs h_bits cy x7 c_method c_pool c_split)) hD hS hA [0, 1] rfl
        refine va_calli (va_runV (As := [.int x6]) (rest := []) ⟨hx, hb, hml, hown, hts⟩ (c_X4_sumPaired l dC dI cy h0 h_split h_told h_quants h_backs h_rejoined h_scales h_needs h_bits H.size x6 x7 c_method c_pool c_split _ hw) (cwV 1 hts (goodV mw_294 mw_291 mw_292 mw_293 mw_20) rfl rfl rfl (by decide +kernel) ⟨Nat.le_of_ble_eq_true rfl, Nat.le_of_ble_eq_true rfl⟩) ⟨PX_blind, va_recv hK hPc (ci := 4) (q0 := 0) rfl rfl, PX_pre hPc hK hDc hG⟩ rfl rfl hl.1 rfl (lv_room (Nat.le_of_ble_eq_true rfl)) dX4_tell_35 ⟨Nat.zero_le _, Nat.zero_le _⟩) hS (fun q _ h => hFc q h) hFc ?_; clear hw hS; intro r24 _ t H1 locs1 ht hvm hw hB hz1 hk1 hS
        obtain ⟨hP1, -, -⟩ := hB
        rw [ht] at hP1
        replace hP := jC0 hP hD [0, 1] [2, 3] rfl hk1 hP1 (w_X4_tell h0 h_split h_told h_quants h_backs h_rejoined h_scales h_needs h_bits cy x7 c_method c_pool c_split f8 c_scales) rfl rfl rfl 4 rfl (by decide +kernel); clear hD; obtain ⟨hP, hD⟩ := hP
        replace hP : va_P (dC, dI) vwCl (w_X4_tell h0 h_split h_told h_quants h_backs h_rejoined h_scales h_needs h_bits cy x7 c_method c_pool c_split f8 c_scales) H1 := hP
        replace hD : va_D A (w_X4_tell h0 h_split h_told h_quants h_backs h_rejoined h_scales h_needs h_bits cy x7 c_method c_pool c_split f8 c_scales) := hD
        clear hPc hDc hFc hP1 hk1 hz1 hvm ht; clear t; clear H locs; obtain ⟨H, hH⟩ : ∃ H, H = H1 := ⟨_, rfl⟩; obtain ⟨locs, hlo⟩ : ∃ L, L = locs1 := ⟨_, rfl⟩; subst hH; subst hlo
        refine W.widen (k := 0) (n := 0) (Nat.le_refl 0) (Nat.le_refl 0) ?_
        refine lv_aload_n hx hb dX4_tell_38 rfl (lv_at hl 1 rfl) ?_
        refine lv_iload_n hx hb dX4_tell_39 rfl (lv_at hl 0 rfl) ?_
        have hPc := pSub (ws' := (w_X4_sumApart h0 h_split h_told h_quants h_backs h_rejoined h_scales h_needs h_bits cy x7 c_method c_pool c_split)) hP [0, 1] rfl
        have hDc := dSub (ws' := (w_X4_sumApart h0 h_split h_told h_quants h_backs h_rejoined h_scales h_needs h_bits cy x7 c_method c_pool c_split)) hD [0, 1] (by decide) rfl
        have hFc := va_free (wc := (w_X4_sumApart h0 h_split h_told h_quants h_backs h_rejoined h_scales h_needs h_bits cy x7 c_method c_pool c_split)) hD hS hA [0, 1] rfl
        refine va_calli (va_runV (As := [.int x6]) (rest := [.int r24]) ⟨hx, hb, hml, hown, hts⟩ (c_X4_sumApart l dC dI cy h0 h_split h_told h_quants h_backs h_rejoined h_scales h_needs h_bits H.size x6 x7 c_method c_pool c_split _ hw) (cwV 1 hts (goodV mw_301 mw_298 mw_299 mw_300 mw_20) rfl rfl rfl (by decide +kernel) ⟨Nat.le_of_ble_eq_true rfl, Nat.le_of_ble_eq_true rfl⟩) ⟨PX_blind, va_recv hK hPc (ci := 4) (q0 := 0) rfl rfl, PX_pre hPc hK hDc hG⟩ rfl rfl hl.1 rfl (lv_room (Nat.le_of_ble_eq_true rfl)) dX4_tell_40 ⟨Nat.zero_le _, Nat.zero_le _⟩) hS (fun q _ h => hFc q h) hFc ?_; clear hw hS; intro r25 _ t H1 locs1 ht hvm hw hB hz1 hk1 hS
        obtain ⟨hP1, -, -⟩ := hB
        rw [ht] at hP1
        replace hP := jC0 hP hD [0, 1] [2, 3] rfl hk1 hP1 (w_X4_tell h0 h_split h_told h_quants h_backs h_rejoined h_scales h_needs h_bits cy x7 c_method c_pool c_split f8 c_scales) rfl rfl rfl 4 rfl (by decide +kernel); clear hD; obtain ⟨hP, hD⟩ := hP
        replace hP : va_P (dC, dI) vwCl (w_X4_tell h0 h_split h_told h_quants h_backs h_rejoined h_scales h_needs h_bits cy x7 c_method c_pool c_split f8 c_scales) H1 := hP
        replace hD : va_D A (w_X4_tell h0 h_split h_told h_quants h_backs h_rejoined h_scales h_needs h_bits cy x7 c_method c_pool c_split f8 c_scales) := hD
        clear hPc hDc hFc hP1 hk1 hz1 hvm ht; clear t; clear H locs; obtain ⟨H, hH⟩ : ∃ H, H = H1 := ⟨_, rfl⟩; obtain ⟨locs, hlo⟩ : ∃ L, L = locs1 := ⟨_, rfl⟩; subst hH; subst hlo
        refine W.widen (k := 0) (n := 0) (Nat.le_refl 0) (Nat.le_refl 0) ?_
        refine lv_icmp_ge (tgt := 63) hx hb dX4_tell_43 (by decide) (fun c26 => ?_) (fun c26 => ?_)
        · replace hw := hw.1 c26
          exact j22 x7 f8 hw H locs ls hP hD hS (lv_sub hl [1, 2, 0] rfl)
        · replace hw := hw.2 c26
          refine lv_aload_n hx hb dX4_tell_46 rfl (lv_at hl 1 rfl) ?_
          refine lv_dup hx hb dX4_tell_47 rfl ?_
          refine va_get (D := (dC, dI)) (ci := 4) (v := .int x7) (C := RX4) (T := TX4) (N := 11) hx hb hts inX4 hown hK hP 0 rfl rfl 8 (by decide) (hts _ (List.mem_cons_of_mem _ mw_128)) (fun _ h9 => h9) rfl dX4_tell_48 ?_
          refine lv_iconst (v := 1) hx hb dX4_tell_51 (by decide) ?_
          refine lv_iload_n hx hb dX4_tell_52 rfl (lv_at hl 0 rfl) ?_
          refine lv_ishl hx hb dX4_tell_53 ?_
          refine lv_ior hx hb dX4_tell_54 ?_
          refine lv_topi (fun x27 e_x27 => ?_)
          replace hw := hw x27 e_x27
          clear e_x27
          refine va_put (D := (dC, dI)) (ci := 4) (v := .int x27) (ty := .int) (C := RX4) (T := TX4) (N := 11) hx hb hts inX4 tyX4 tyX4_ok nmX4 hown hK hP hD hS 0 rfl rfl 8 (by decide) (hts _ (List.mem_cons_of_mem _ mw_128)) (fun _ h9 => h9) rfl (by decide +kernel) rfl rfl (Nat.le_of_ble_eq_true rfl) dX4_tell_55 ?_; clear hP hD hS; clear H locs; intro H locs hP hD hS
          replace hP : va_P (dC, dI) vwCl (w_X4_tell h0 h_split h_told h_quants h_backs h_rejoined h_scales h_needs h_bits cy x27 c_method c_pool c_split f8 c_scales) H := hP
          replace hD : va_D A (w_X4_tell h0 h_split h_told h_quants h_backs h_rejoined h_scales h_needs h_bits cy x27 c_method c_pool c_split f8 c_scales) := hD
          refine lv_aload_n hx hb dX4_tell_58 rfl (lv_at hl 1 rfl) ?_
          refine lv_iload_n hx hb dX4_tell_59 rfl (lv_at hl 0 rfl) ?_
          have hPc := pSub (ws' := (w_X4_makeTwin h0 h_split h_told h_quants h_backs h_rejoined h_scales h_needs h_bits cy x27 c_method c_pool c_split f8)) hP [0, 1, 2] rfl
          have hDc := dSub (ws' := (w_X4_makeTwin h0 h_split h_told h_quants h_backs h_rejoined h_scales h_needs h_bits cy x27 c_method c_pool c_split f8)) hD [0, 1, 2] (by decide) rfl
          have hFc := va_free (wc := (w_X4_makeTwin h0 h_split h_told h_quants h_backs h_rejoined h_scales h_needs h_bits cy x27 c_method c_pool c_split f8)) hD hS hA [0, 1, 2] rfl
          refine va_callv (va_runV (As := [.int x6]) (rest := []) ⟨hx, hb, hml, hown, hts⟩ (c_X4_makeTwin l dC dI cy h0 h_split h_told h_quants h_backs h_rejoined h_scales h_needs h_bits H.size x6 x27 c_method c_pool c_split f8 _ hw) (cwV 1 hts (goodV mw_305 mw_302 mw_303 mw_304 mw_20) rfl rfl rfl (by decide +kernel) ⟨Nat.le_of_ble_eq_true rfl, Nat.le_of_ble_eq_true rfl⟩) ⟨PX_blind, va_recv hK hPc (ci := 4) (q0 := 0) rfl rfl, PX_pre hPc hK hDc hG⟩ rfl rfl hl.1 rfl (lv_room (Nat.le_of_ble_eq_true rfl)) dX4_tell_60 ⟨Nat.zero_le _, Nat.zero_le _⟩) hS (fun q _ h => hFc q h) hFc ?_; clear hw hS; intro f28 t H1 locs1 ht hvm hw hB hz1 hk1 hS
          obtain ⟨hP1, -, -⟩ := hB
          rw [ht] at hP1
          replace hP := jC0 hP hD [0, 1, 2] [3] rfl hk1 hP1 (w_X4_tell h0 h_split h_told h_quants h_backs h_rejoined h_scales h_needs h_bits cy x27 c_method c_pool c_split f28 c_scales) rfl rfl rfl 4 rfl (by decide +kernel); clear hD; obtain ⟨hP, hD⟩ := hP
          replace hP : va_P (dC, dI) vwCl (w_X4_tell h0 h_split h_told h_quants h_backs h_rejoined h_scales h_needs h_bits cy x27 c_method c_pool c_split f28 c_scales) H1 := hP
          replace hD : va_D A (w_X4_tell h0 h_split h_told h_quants h_backs h_rejoined h_scales h_needs h_bits cy x27 c_method c_pool c_split f28 c_scales) := hD
          clear hPc hDc hFc hP1 hk1 hz1 hvm ht; clear t; clear H locs; obtain ⟨H, hH⟩ : ∃ H, H = H1 := ⟨_, rfl⟩; obtain ⟨locs, hlo⟩ : ∃ L, L = locs1 := ⟨_, rfl⟩; subst hH; subst hlo
          refine W.widen (k := 0) (n := 0) (Nat.le_refl 0) (Nat.le_refl 0) ?_
          exact j22 x27 f28 hw H locs ls hP hD hS (lv_sub hl [1, 2, 0] rfl)
set_option maxHeartbeats 4000000 in
set_option maxRecDepth 100000 in
theorem c_X9_splitRow (l : Launch) (dC : Nat → ClassId) (dI : Nat → Nat → Nat) (cy : Nat → ClassId) (h0 h_memoriesA h_memoriesB h_row h_next : Nat) (sz : Nat) (v1 : Int32) (v2 : Int32) (v3 : Int32) (c_row : Nat → Int32) (c_memoriesA : Nat → Int32) (c_memoriesB : Nat → Int32) (c_next : Nat → Int32) (post : (Nat → Int32) → (Nat → Int32) → (Nat → Int32) → Prop) (hw : wp_X9_splitRow v1 v2 v3 c_row c_memoriesA c_memoriesB c_next post) : Met l yX9_splitRow wsX9_splitRow ({ frames := 0, cells := 0, slots := 0, locals := 0 }) (PX dC dI cy [.ref h0, .int v1, .int v2, .int v3] sz (w_X9_splitRow h0 h_memoriesA h_memoriesB h_row h_next cy c_row c_memoriesA c_memoriesB c_next)) (va_Qv (fun (u : (Nat → Int32) × (Nat → Int32) × (Nat → Int32)) => post u.1 u.2.1 u.2.2) (QX dC dI cy (va_A (w_X9_splitRow h0 h_memoriesA h_memoriesB h_row h_next cy c_row c_memoriesA c_memoriesB c_next) sz) (fun (u : (Nat → Int32) × (Nat → Int32) × (Nat → Int32)) => w_X9_splitRow h0 h_memoriesA h_memoriesB h_row h_next cy c_row u.1 u.2.1 u.2.2)) (va_A (w_X9_splitRow h0 h_memoriesA h_memoriesB h_row h_next cy c_row c_memoriesA c_memoriesB c_next) sz)) 0 0 (va_A (w_X9_splitRow h0 h_memoriesA h_memoriesB h_row h_next cy c_row c_memoriesA c_memoriesB c_next) sz) := by
  refine Met.ofW (cc := cX9_splitRow) (maxL := 8) (ret := none) (by decide) rfl ?_
  intro p e s m args below meth c s₁ B hml hv
  obtain ⟨rfl, hsz, hP, hK, hD0, hG⟩ := hv
  have hx := B.exec
  have hb := B.bytes
  have hr := B.returns
  have hts := atoms_spec (ws := wsX9_splitRow) B.pre
  have hown : s.vm.findClass RX9 = some m.cls := findClass_of_methodNamed B.named
  have hlocks := B.notSynchronized
  subst hsz
  have hD := hD0.self (sz := s.heap.size)
  generalize hAe : va_A (w_X9_splitRow h0 h_memoriesA h_memoriesB h_row h_next cy c_row c_memoriesA c_memoriesB c_next) s.heap.size = A at hD ⊢
  have hA : ∀ q : Nat, s.heap.size ≤ q → A q := fun q h => by rw [← hAe]; exact Or.inr h
  have hS : va_S A s.heap s.heap [] := va_S.rf
  have hl := lv_entry ([.ref h0, .int v1, .int v2, .int v3]) (n := 8) (Nat.le_of_ble_eq_true rfl)
  rw [lg_entry_eq]
  generalize (lg_sl ([.ref h0, .int v1, .int v2, .int v3]) ++ List.replicate (8 - (lg_sl ([.ref h0, .int v1, .int v2, .int v3])).length) Slot.unset).toArray = ls at hl ⊢
  replace hl : lv_has ls 8 [(0, .ref h0), (1, .int v1), (2, .int v2), (3, .int v3)] := hl
  have inX9 : ∀ w ∈ u_ws RX9 TX9 4, w ∈ wsX9_splitRow := fun w h => List.mem_cons_of_mem _ (inlX9 w h)
  clear hAe hD0 B
  unfold wp_X9_splitRow at hw
  generalize hQe : MQ below _ _ s _ _ _ = Q0
  generalize ([.ref h0, .int v1, .int v2, .int v3] : List Value).toArray = av at *
  obtain ⟨H, hH⟩ : ∃ H, H = s.heap := ⟨_, rfl⟩
  obtain ⟨locs, hlo⟩ : ∃ L : List Loc, L = [] := ⟨_, rfl⟩
  replace hP : va_P (dC, dI) vwCl (w_X9_splitRow h0 h_memoriesA h_memoriesB h_row h_next cy c_row c_memoriesA c_memoriesB c_next) H := by rw [hH]; exact hP
  replace hS : va_S A s.heap H locs := by rw [hH, hlo]; exact hS
  suffices hgo : W p l e ({ frames := 0, cells := 0, slots := 0, locals := 0 }) s m av below meth c H locs 0 0 Q0 (F0 m 0 ls []) by rw [hH, hlo] at hgo; exact hgo
  clear hH hlo
  refine lv_iconst (v := 0) hx hb dX9_splitRow_0 (by decide) ?_
  refine lv_istore (lv' := [(4, .int (0 : Int32)), (0, .ref h0), (1, .int v1), (2, .int v2), (3, .int v3)]) hx hb dX9_splitRow_1 hl (by decide) rfl ?_; clear hl; clear ls; intro ls hl
  obtain ⟨x1, e_x1⟩ : ∃ y : Int32, y = (0 : Int32) := ⟨_, rfl⟩
  replace hw := hw x1 e_x1
  replace hl : lv_has ls 8 [(4, .int x1), (0, .ref h0), (1, .int v1), (2, .int v2), (3, .int v3)] := by rw [e_x1]; exact hl
  clear e_x1
  replace hl := lv_sub (l' := [(4, .int x1), (0, .ref h0), (1, .int v1), (2, .int v2), (3, .int v3)]) hl [0, 1, 2, 3, 4] rfl
  revert hl; revert hS; revert hD; revert hP; revert ls; revert locs; revert H
  revert hw; revert c_next; revert c_memoriesB; revert c_memoriesA; revert x1
  refine Lz4_gr ?_; intro g2 ih3 x4 f5 f6 f7 hw
  intro H locs ls hP hD hS hl
  refine lv_iload hx hb dX9_splitRow_3 (lv_at hl 0 rfl) ?_
  refine lv_iload_n hx hb dX9_splitRow_5 rfl (lv_at hl 4 rfl) ?_
  refine lv_icmp_ge (tgt := 111) hx hb dX9_splitRow_6 (by decide) (fun c8 => ?_) (fun c8 => ?_)
  · replace hw := hw.1 c8
    clear ih3
    subst hQe
    exact W.vret hx hb hr (fun t ht hW => ⟨⟨(f5, f6, f7), rfl, hw, by rw [ht]; exact hP, va_K.moved hW.alike hK, hD⟩, hS.F ht⟩) hS.2.2 dX9_splitRow_111
  · replace hw := hw.2 c8
    refine lv_aload_n hx hb dX9_splitRow_9 rfl (lv_at hl 1 rfl) ?_
    refine va_get (D := (dC, dI)) (ci := 9) (v := .ref h_row) (C := RX9) (T := TX9) (N := 4) hx hb hts inX9 hown hK hP 0 rfl rfl 2 (by decide) (hts _ (List.mem_cons_of_mem _ mw_115)) (fun _ h9 => h9) rfl dX9_splitRow_10 ?_
    refine lv_iload_n hx hb dX9_splitRow_13 rfl (lv_at hl 3 rfl) ?_
    refine lv_iconst (v := 2) hx hb dX9_splitRow_14 (by decide) ?_
    refine lv_iload hx hb dX9_splitRow_15 (lv_at hl 0 rfl) ?_
    refine lv_imul hx hb dX9_splitRow_17 ?_
    refine lv_iadd hx hb dX9_splitRow_18 ?_
    obtain ⟨h9, hw⟩ := hw
    refine xiald (k := (v2 + ((2 : Int32) * x4)).toNatClampNeg) hx hb hK hP 1 0 rfl rfl h9 rfl dX9_splitRow_19 ?_
    refine lv_topi (fun x10 e_x10 => ?_)
    replace hw := hw x10 e_x10
    clear e_x10
    refine lv_istore (lv' := [(5, .int x10), (4, .int x4), (0, .ref h0), (1, .int v1), (2, .int v2), (3, .int v3)]) hx hb dX9_splitRow_20 hl (by decide) rfl ?_; clear hl; clear ls; intro ls hl
    refine lv_aload_n hx hb dX9_splitRow_22 rfl (lv_at hl 2 rfl) ?_
    refine va_get (D := (dC, dI)) (ci := 9) (v := .ref h_row) (C := RX9) (T := TX9) (N := 4) hx hb hts inX9 hown hK hP 0 rfl rfl 2 (by decide) (hts _ (List.mem_cons_of_mem _ mw_115)) (fun _ h9 => h9) rfl dX9_splitRow_23 ?_
    refine lv_iload_n hx hb dX9_splitRow_26 rfl (lv_at hl 4 rfl) ?_
    refine lv_iconst (v := 2) hx hb dX9_splitRow_27 (by decide) ?_
    refine lv_iload hx hb dX9_splitRow_28 (lv_at hl 1 rfl) ?_
    refine lv_imul hx hb dX9_splitRow_30 ?_
    refine lv_iadd hx hb dX9_splitRow_31 ?_
    refine lv_iconst (v := 1) hx hb dX9_splitRow_32 (by decide) ?_
    refine lv_iadd hx hb dX9_splitRow_33 ?_
    obtain ⟨h11, hw⟩ := hw
    refine xiald (k := ((v2 + ((2 : Int32) * x4)) + (1 : Int32)).toNatClampNeg) hx hb hK hP 1 0 rfl rfl h11 rfl dX9_splitRow_34 ?_
    refine lv_topi (fun x12 e_x12 => ?_)
    replace hw := hw x12 e_x12
    clear e_x12
    refine lv_istore (lv' := [(6, .int x12), (5, .int x10), (4, .int x4), (0, .ref h0), (1, .int v1), (2, .int v2), (3, .int v3)]) hx hb dX9_splitRow_35 hl (by decide) rfl ?_; clear hl; clear ls; intro ls hl
    refine lv_iload hx hb dX9_splitRow_37 (lv_at hl 1 rfl) ?_
    refine lv_aload_n hx hb dX9_splitRow_39 rfl (lv_at hl 3 rfl) ?_
    refine va_get (D := (dC, dI)) (ci := 9) (v := .ref h_memoriesA) (C := RX9) (T := TX9) (N := 4) hx hb hts inX9 hown hK hP 0 rfl rfl 0 (by decide) (hts _ (List.mem_cons_of_mem _ mw_113)) (fun _ h9 => h9) rfl dX9_splitRow_40 ?_
    refine lv_iload_n hx hb dX9_splitRow_43 rfl (lv_at hl 4 rfl) ?_
    obtain ⟨h13, hw⟩ := hw
    refine xiald (k := v1.toNatClampNeg) hx hb hK hP 2 0 rfl rfl h13 rfl dX9_splitRow_44 ?_
    refine lv_iload hx hb dX9_splitRow_45 (lv_at hl 0 rfl) ?_
    refine lv_iadd hx hb dX9_splitRow_47 ?_
    refine lv_iconst (v := 1) hx hb dX9_splitRow_48 (by decide) ?_
    refine lv_ishr hx hb dX9_splitRow_49 ?_
    refine lv_isub hx hb dX9_splitRow_50 ?_
    refine lv_topi (fun x14 e_x14 => ?_)
    replace hw := hw x14 e_x14
    clear e_x14
    refine lv_istore (lv' := [(7, .int x14), (6, .int x12), (5, .int x10), (4, .int x4), (0, .ref h0), (1, .int v1), (2, .int v2), (3, .int v3)]) hx hb dX9_splitRow_51 hl (by decide) rfl ?_; clear hl; clear ls; intro ls hl
    refine lv_aload_n hx hb dX9_splitRow_53 rfl (lv_at hl 4 rfl) ?_
    refine va_get (D := (dC, dI)) (ci := 9) (v := .ref h_next) (C := RX9) (T := TX9) (N := 4) hx hb hts inX9 hown hK hP 0 rfl rfl 3 (by decide) (hts _ (List.mem_cons_of_mem _ mw_116)) (fun _ h9 => h9) rfl dX9_splitRow_54 ?_
    refine lv_iload_n hx hb dX9_splitRow_57 rfl (lv_at hl 6 rfl) ?_
    refine lv_iload hx hb dX9_splitRow_58 (lv_at hl 3 rfl) ?_
    refine lv_iadd hx hb dX9_splitRow_60 ?_
    refine lv_iload hx hb dX9_splitRow_61 (lv_at hl 1 rfl) ?_
    refine lv_aload_n hx hb dX9_splitRow_63 rfl (lv_at hl 4 rfl) ?_
    refine va_get (D := (dC, dI)) (ci := 9) (v := .ref h_memoriesB) (C := RX9) (T := TX9) (N := 4) hx hb hts inX9 hown hK hP 0 rfl rfl 1 (by decide) (hts _ (List.mem_cons_of_mem _ mw_114)) (fun _ h9 => h9) rfl dX9_splitRow_64 ?_
    refine lv_iload_n hx hb dX9_splitRow_67 rfl (lv_at hl 5 rfl) ?_
    obtain ⟨h15, hw⟩ := hw
    refine xiald (k := v1.toNatClampNeg) hx hb hK hP 3 0 rfl rfl h15 rfl dX9_splitRow_68 ?_
    refine lv_iload hx hb dX9_splitRow_69 (lv_at hl 0 rfl) ?_
    refine lv_iadd hx hb dX9_splitRow_71 ?_
    refine lv_iconst (v := 2) hx hb dX9_splitRow_72 (by decide) ?_
    refine lv_ishr hx hb dX9_splitRow_73 ?_
    refine lv_iadd hx hb dX9_splitRow_74 ?_
    obtain ⟨h16, hw⟩ := hw
    refine xiast (k := (v2 + x4).toNatClampNeg) hx hb hK hP hD hS 4 0 rfl rfl h16 rfl dX9_splitRow_75 ?_; clear hP hD hS; clear H locs; intro f17 e_f17 H locs hP hD hS
    replace hw := hw f17 e_f17
    clear e_f17
    replace hP : va_P (dC, dI) vwCl (w_X9_splitRow h0 h_memoriesA h_memoriesB h_row h_next cy c_row f5 f6 f17) H := hP
    replace hD : va_D A (w_X9_splitRow h0 h_memoriesA h_memoriesB h_row h_next cy c_row f5 f6 f17) := hD
    refine lv_aload_n hx hb dX9_splitRow_76 rfl (lv_at hl 4 rfl) ?_
    refine va_get (D := (dC, dI)) (ci := 9) (v := .ref h_next) (C := RX9) (T := TX9) (N := 4) hx hb hts inX9 hown hK hP 0 rfl rfl 3 (by decide) (hts _ (List.mem_cons_of_mem _ mw_116)) (fun _ h9 => h9) rfl dX9_splitRow_77 ?_
    refine lv_iload_n hx hb dX9_splitRow_80 rfl (lv_at hl 6 rfl) ?_
    refine lv_iload_n hx hb dX9_splitRow_81 rfl (lv_at hl 7 rfl) ?_
    refine lv_iadd hx hb dX9_splitRow_82 ?_
    refine lv_iload hx hb dX9_splitRow_83 (lv_at hl 3 rfl) ?_
    refine lv_iadd hx hb dX9_splitRow_85 ?_
    refine lv_iload hx hb dX9_splitRow_86 (lv_at hl 0 rfl) ?_
    obtain ⟨h18, hw⟩ := hw
    refine xiast (k := ((v2 + v3) + x4).toNatClampNeg) hx hb hK hP hD hS 4 0 rfl rfl h18 rfl dX9_splitRow_88 ?_; clear hP hD hS; clear H locs; intro f19 e_f19 H locs hP hD hS
    replace hw := hw f19 e_f19
    clear e_f19
    replace hP : va_P (dC, dI) vwCl (w_X9_splitRow h0 h_memoriesA h_memoriesB h_row h_next cy c_row f5 f6 f19) H := hP
    replace hD : va_D A (w_X9_splitRow h0 h_memoriesA h_memoriesB h_row h_next cy c_row f5 f6 f19) := hD
    refine lv_aload_n hx hb dX9_splitRow_89 rfl (lv_at hl 4 rfl) ?_
    refine va_get (D := (dC, dI)) (ci := 9) (v := .ref h_memoriesA) (C := RX9) (T := TX9) (N := 4) hx hb hts inX9 hown hK hP 0 rfl rfl 0 (by decide) (hts _ (List.mem_cons_of_mem _ mw_113)) (fun _ h9 => h9) rfl dX9_splitRow_90 ?_
    refine lv_iload_n hx hb dX9_splitRow_93 rfl (lv_at hl 5 rfl) ?_
    refine lv_iload hx hb dX9_splitRow_94 (lv_at hl 1 rfl) ?_
    obtain ⟨h20, hw⟩ := hw
    refine xiast (k := v1.toNatClampNeg) hx hb hK hP hD hS 2 0 rfl rfl h20 rfl dX9_splitRow_96 ?_; clear hP hD hS; clear H locs; intro f21 e_f21 H locs hP hD hS
    replace hw := hw f21 e_f21
    clear e_f21
    replace hP : va_P (dC, dI) vwCl (w_X9_splitRow h0 h_memoriesA h_memoriesB h_row h_next cy c_row f21 f6 f19) H := hP
    replace hD : va_D A (w_X9_splitRow h0 h_memoriesA h_memoriesB h_row h_next cy c_row f21 f6 f19) := hD
    refine lv_aload_n hx hb dX9_splitRow_97 rfl (lv_at hl 4 rfl) ?_
    refine va_get (D := (dC, dI)) (ci := 9) (v := .ref h_memoriesB) (C := RX9) (T := TX9) (N := 4) hx hb hts inX9 hown hK hP 0 rfl rfl 1 (by decide) (hts _ (List.mem_cons_of_mem _ mw_114)) (fun _ h9 => h9) rfl dX9_splitRow_98 ?_
    refine lv_iload_n hx hb dX9_splitRow_101 rfl (lv_at hl 5 rfl) ?_
    refine lv_iload hx hb dX9_splitRow_102 (lv_at hl 0 rfl) ?_
    obtain ⟨h22, hw⟩ := hw
    refine xiast (k := v1.toNatClampNeg) hx hb hK hP hD hS 3 0 rfl rfl h22 rfl dX9_splitRow_104 ?_; clear hP hD hS; clear H locs; intro f23 e_f23 H locs hP hD hS
    replace hw := hw f23 e_f23
    clear e_f23
    replace hP : va_P (dC, dI) vwCl (w_X9_splitRow h0 h_memoriesA h_memoriesB h_row h_next cy c_row f21 f23 f19) H := hP
    replace hD : va_D A (w_X9_splitRow h0 h_memoriesA h_memoriesB h_row h_next cy c_row f21 f23 f19) := hD
    refine lv_iinc (v := x4 + 1) (lv' := [(4, .int (x4 + 1)), (7, .int x14), (6, .int x12), (5, .int x10), (0, .ref h0), (1, .int v1), (2, .int v2), (3, .int v3)]) hx hb dX9_splitRow_105 hl (k := 3) rfl rfl (by decide) rfl ?_; clear hl; clear ls; intro ls hl
    refine lv_goto (tgt := 3) hx hb dX9_splitRow_108 (by decide) ?_
    exact ih3 (x4 + 1) f21 f23 f19 hw H locs ls hP hD hS (lv_sub hl [0, 4, 5, 6, 7] rfl)
set_option maxHeartbeats 4000000 in
set_option maxRecDepth 100000 in
theorem c_X9_splitBlock (l : Launch) (dC : Nat → ClassId) (dI : Nat → Nat → Nat) (cy : Nat → ClassId) (h0 h_memoriesA h_memoriesB h_row h_next k1 k3 : Nat) (n_p1 n_p3 : Nat) (sz : Nat) (v2 : Int32) (v4 : Int32) (p1 : Nat → Int32) (c_row : Nat → Int32) (c_memoriesA : Nat → Int32) (c_memoriesB : Nat → Int32) (c_next : Nat → Int32) (p3 : Nat → Int32) (post : (Nat → Int32) → (Nat → Int32) → (Nat → Int32) → (Nat → Int32) → (Nat → Int32) → Prop) (hw : wp_X9_splitBlock n_p1 n_p3 v2 v4 p1 c_row c_memoriesA c_memoriesB c_next p3 post) : Met l yX9_splitBlock wsX9_splitBlock ({ frames := 1, cells := 0, slots := 0, locals := 40 }) (PX dC dI cy [.ref h0, .ref k1, .int v2, .ref k3, .int v4] sz (w_X9_splitBlock h0 h_memoriesA h_memoriesB h_row h_next k1 k3 cy n_p1 n_p3 p1 c_row c_memoriesA c_memoriesB c_next p3)) (va_Qv (fun (u : (Nat → Int32) × (Nat → Int32) × (Nat → Int32) × (Nat → Int32) × (Nat → Int32)) => post u.1 u.2.1 u.2.2.1 u.2.2.2.1 u.2.2.2.2) (QX dC dI cy (va_A (w_X9_splitBlock h0 h_memoriesA h_memoriesB h_row h_next k1 k3 cy n_p1 n_p3 p1 c_row c_memoriesA c_memoriesB c_next p3) sz) (fun (u : (Nat → Int32) × (Nat → Int32) × (Nat → Int32) × (Nat → Int32) × (Nat → Int32)) => w_X9_splitBlock h0 h_memoriesA h_memoriesB h_row h_next k1 k3 cy n_p1 n_p3 p1 u.1 u.2.1 u.2.2.1 u.2.2.2.1 u.2.2.2.2)) (va_A (w_X9_splitBlock h0 h_memoriesA h_memoriesB h_row h_next k1 k3 cy n_p1 n_p3 p1 c_row c_memoriesA c_memoriesB c_next p3) sz)) 0 0 (va_A (w_X9_splitBlock h0 h_memoriesA h_memoriesB h_row h_next k1 k3 cy n_p1 n_p3 p1 c_row c_memoriesA c_memoriesB c_next p3) sz) := by
  refine Met.ofW (cc := cX9_splitBlock) (maxL := 8) (ret := none) (by decide) rfl ?_
  intro p e s m args below meth c s₁ B hml hv
  obtain ⟨rfl, hsz, hP, hK, hD0, hG⟩ := hv
  have hx := B.exec
  have hb := B.bytes
  have hr := B.returns
  have hts := atoms_spec (ws := wsX9_splitBlock) B.pre
  have hown : s.vm.findClass RX9 = some m.cls := findClass_of_methodNamed B.named
  have hlocks := B.notSynchronized
  subst hsz
  have hD := hD0.self (sz := s.heap.size)
  generalize hAe : va_A (w_X9_splitBlock h0 h_memoriesA h_memoriesB h_row h_next k1 k3 cy n_p1 n_p3 p1 c_row c_memoriesA c_memoriesB c_next p3) s.heap.size = A at hD ⊢
  have hA : ∀ q : Nat, s.heap.size ≤ q → A q := fun q h => by rw [← hAe]; exact Or.inr h
  have hS : va_S A s.heap s.heap [] := va_S.rf
  have hl := lv_entry ([.ref h0, .ref k1, .int v2, .ref k3, .int v4]) (n := 8) (Nat.le_of_ble_eq_true rfl)
  rw [lg_entry_eq]
  generalize (lg_sl ([.ref h0, .ref k1, .int v2, .ref k3, .int v4]) ++ List.replicate (8 - (lg_sl ([.ref h0, .ref k1, .int v2, .ref k3, .int v4])).length) Slot.unset).toArray = ls at hl ⊢
  replace hl : lv_has ls 8 [(0, .ref h0), (1, .ref k1), (2, .int v2), (3, .ref k3), (4, .int v4)] := hl
  have inX9 : ∀ w ∈ u_ws RX9 TX9 4, w ∈ wsX9_splitBlock := fun w h => List.mem_cons_of_mem _ (inlX9 w h)
  clear hAe hD0 B
  unfold wp_X9_splitBlock at hw
  generalize hQe : MQ below _ _ s _ _ _ = Q0
  generalize ([.ref h0, .ref k1, .int v2, .ref k3, .int v4] : List Value).toArray = av at *
  obtain ⟨H, hH⟩ : ∃ H, H = s.heap := ⟨_, rfl⟩
  obtain ⟨locs, hlo⟩ : ∃ L : List Loc, L = [] := ⟨_, rfl⟩
  replace hP : va_P (dC, dI) vwCl (w_X9_splitBlock h0 h_memoriesA h_memoriesB h_row h_next k1 k3 cy n_p1 n_p3 p1 c_row c_memoriesA c_memoriesB c_next p3) H := by rw [hH]; exact hP
  replace hS : va_S A s.heap H locs := by rw [hH, hlo]; exact hS
  suffices hgo : W p l e ({ frames := 1, cells := 0, slots := 0, locals := 40 }) s m av below meth c H locs 0 0 Q0 (F0 m 0 ls []) by rw [hH, hlo] at hgo; exact hgo
  clear hH hlo
  refine lv_aload_n hx hb dX9_splitBlock_0 rfl (lv_at hl 1 rfl) ?_
  refine lv_iload_n hx hb dX9_splitBlock_1 rfl (lv_at hl 2 rfl) ?_
  refine lv_aload_n hx hb dX9_splitBlock_2 rfl (lv_at hl 0 rfl) ?_
  refine va_get (D := (dC, dI)) (ci := 9) (v := .ref h_row) (C := RX9) (T := TX9) (N := 4) hx hb hts inX9 hown hK hP 0 rfl rfl 2 (by decide) (hts _ (List.mem_cons_of_mem _ mw_115)) (fun _ h9 => h9) rfl dX9_splitBlock_3 ?_
  refine lv_iconst (v := 0) hx hb dX9_splitBlock_6 (by decide) ?_
  refine lv_bipush (v := 8) hx hb dX9_splitBlock_7 (by decide) ?_
  obtain ⟨h1, hw⟩ := hw
  obtain ⟨h2, hw⟩ := hw
  refine xcopyi (k1 := v2.toNatClampNeg) (k2 := 0) (k3 := 8) hx hb (by rw [hml]; exact hl.1.symm) hown (hts _ (List.mem_cons_of_mem _ mw_281)) (hts _ (List.mem_cons_of_mem _ mw_59)) (hts _ (List.mem_cons_of_mem _ mw_60)) (hts _ (List.mem_cons_of_mem _ mw_61)) hK hP hD hS 1 2 0 0 rfl rfl rfl rfl rfl h1 (by decide) (by decide) h2 (by decide) (fun _ _ => rfl) (Nat.le_of_ble_eq_true rfl) (Nat.le_of_ble_eq_true rfl) rfl (by decide) (by decide) dX9_splitBlock_9 ?_; clear hP hD hS; clear H locs; intro f3 e_f3 H locs hP hD hS
  replace hw := hw f3 e_f3
  clear e_f3
  replace hP : va_P (dC, dI) vwCl (w_X9_splitBlock h0 h_memoriesA h_memoriesB h_row h_next k1 k3 cy n_p1 n_p3 p1 f3 c_memoriesA c_memoriesB c_next p3) H := hP
  replace hD : va_D A (w_X9_splitBlock h0 h_memoriesA h_memoriesB h_row h_next k1 k3 cy n_p1 n_p3 p1 f3 c_memoriesA c_memoriesB c_next p3) := hD
  refine lv_iconst (v := 0) hx hb dX9_splitBlock_12 (by decide) ?_
  refine lv_istore (lv' := [(5, .int (0 : Int32)), (0, .ref h0), (1, .ref k1), (2, .int v2), (3, .ref k3), (4, .int v4)]) hx hb dX9_splitBlock_13 hl (by decide) rfl ?_; clear hl; clear ls; intro ls hl
  obtain ⟨x4, e_x4⟩ : ∃ y : Int32, y = (0 : Int32) := ⟨_, rfl⟩
  replace hw := hw x4 e_x4
  replace hl : lv_has ls 8 [(5, .int x4), (0, .ref h0), (1, .ref k1), (2, .int v2), (3, .ref k3), (4, .int v4)] := by rw [e_x4]; exact hl
  clear e_x4
  replace hl := lv_sub (l' := [(5, .int x4), (0, .ref h0), (3, .ref k3), (4, .int v4)]) hl [0, 1, 4, 5] rfl
  revert hl; revert hS; revert hD; revert hP; revert ls; revert locs; revert H
  revert hw; revert c_next; revert c_memoriesB; revert c_memoriesA; revert f3; revert x4
  refine Lz5_gr ?_; intro g5 ih6 x7 f8 f9 f10 f11 hw
  intro H locs ls hP hD hS hl
  refine lv_iload hx hb dX9_splitBlock_15 (lv_at hl 0 rfl) ?_
  refine lv_iconst (v := 3) hx hb dX9_splitBlock_17 (by decide) ?_
  refine lv_icmp_ge (tgt := 90) hx hb dX9_splitBlock_18 (by decide) (fun c12 => ?_) (fun c12 => ?_)
  · replace hw := hw.1 c12
    clear ih6
    refine lv_aload_n hx hb dX9_splitBlock_90 rfl (lv_at hl 1 rfl) ?_
    refine va_get (D := (dC, dI)) (ci := 9) (v := .ref h_row) (C := RX9) (T := TX9) (N := 4) hx hb hts inX9 hown hK hP 0 rfl rfl 2 (by decide) (hts _ (List.mem_cons_of_mem _ mw_115)) (fun _ h9 => h9) rfl dX9_splitBlock_91 ?_
    refine lv_iconst (v := 0) hx hb dX9_splitBlock_94 (by decide) ?_
    refine lv_aload_n hx hb dX9_splitBlock_95 rfl (lv_at hl 2 rfl) ?_
    refine lv_iload hx hb dX9_splitBlock_96 (lv_at hl 3 rfl) ?_
    refine lv_bipush (v := 8) hx hb dX9_splitBlock_98 (by decide) ?_
    obtain ⟨h13, hw⟩ := hw
    obtain ⟨h14, hw⟩ := hw
    refine xcopyi (k1 := 0) (k2 := v4.toNatClampNeg) (k3 := 8) hx hb (by rw [hml]; exact hl.1.symm) hown (hts _ (List.mem_cons_of_mem _ mw_281)) (hts _ (List.mem_cons_of_mem _ mw_59)) (hts _ (List.mem_cons_of_mem _ mw_60)) (hts _ (List.mem_cons_of_mem _ mw_61)) hK hP hD hS 2 6 0 0 rfl rfl rfl rfl rfl (by decide) h13 (by decide) (by decide) h14 (fun _ _ => rfl) (Nat.le_of_ble_eq_true rfl) (Nat.le_of_ble_eq_true rfl) (by decide) rfl (by decide) dX9_splitBlock_100 ?_; clear hP hD hS; clear H locs; intro f15 e_f15 H locs hP hD hS
    replace hw := hw f15 e_f15
    clear e_f15
    replace hP : va_P (dC, dI) vwCl (w_X9_splitBlock h0 h_memoriesA h_memoriesB h_row h_next k1 k3 cy n_p1 n_p3 p1 f8 f9 f10 f11 f15) H := hP
    replace hD : va_D A (w_X9_splitBlock h0 h_memoriesA h_memoriesB h_row h_next k1 k3 cy n_p1 n_p3 p1 f8 f9 f10 f11 f15) := hD
    subst hQe
    exact W.vret hx hb hr (fun t ht hW => ⟨⟨(f8, f9, f10, f11, f15), rfl, hw, by rw [ht]; exact hP, va_K.moved hW.alike hK, hD⟩, hS.F ht⟩) hS.2.2 dX9_splitBlock_103
  · replace hw := hw.2 c12
    refine lv_iconst (v := 1) hx hb dX9_splitBlock_21 (by decide) ?_
    refine lv_iload hx hb dX9_splitBlock_22 (lv_at hl 0 rfl) ?_
    refine lv_ishl hx hb dX9_splitBlock_24 ?_
    refine lv_topi (fun x16 e_x16 => ?_)
    replace hw := hw x16 e_x16
    clear e_x16
    refine lv_istore (lv' := [(6, .int x16), (5, .int x7), (0, .ref h0), (3, .ref k3), (4, .int v4)]) hx hb dX9_splitBlock_25 hl (by decide) rfl ?_; clear hl; clear ls; intro ls hl
    refine lv_iconst (v := 0) hx hb dX9_splitBlock_27 (by decide) ?_
    refine lv_istore (lv' := [(7, .int (0 : Int32)), (6, .int x16), (5, .int x7), (0, .ref h0), (3, .ref k3), (4, .int v4)]) hx hb dX9_splitBlock_28 hl (by decide) rfl ?_; clear hl; clear ls; intro ls hl
    obtain ⟨x17, e_x17⟩ : ∃ y : Int32, y = (0 : Int32) := ⟨_, rfl⟩
    replace hw := hw x17 e_x17
    replace hl : lv_has ls 8 [(7, .int x17), (6, .int x16), (5, .int x7), (0, .ref h0), (3, .ref k3), (4, .int v4)] := by rw [e_x17]; exact hl
    clear e_x17
    replace hl := lv_sub (l' := [(7, .int x17), (6, .int x16), (5, .int x7), (0, .ref h0), (3, .ref k3), (4, .int v4)]) hl [0, 1, 2, 3, 4, 5] rfl
    revert hl; revert hS; revert hD; revert hP; revert ls; revert locs; revert H
    revert hw; revert f11; revert f10; revert f9; revert x17
    refine Lz4_gr ?_; intro g18 ih19 x20 f21 f22 f23 hw
    intro H locs ls hP hD hS hl
    refine lv_iload hx hb dX9_splitBlock_30 (lv_at hl 0 rfl) ?_
    refine lv_iload hx hb dX9_splitBlock_32 (lv_at hl 1 rfl) ?_
    refine lv_icmp_ge (tgt := 69) hx hb dX9_splitBlock_34 (by decide) (fun c24 => ?_) (fun c24 => ?_)
    · replace hw := hw.1 c24
      clear ih19
      refine lv_aload_n hx hb dX9_splitBlock_69 rfl (lv_at hl 3 rfl) ?_
      refine va_get (D := (dC, dI)) (ci := 9) (v := .ref h_next) (C := RX9) (T := TX9) (N := 4) hx hb hts inX9 hown hK hP 0 rfl rfl 3 (by decide) (hts _ (List.mem_cons_of_mem _ mw_116)) (fun _ h9 => h9) rfl dX9_splitBlock_70 ?_
      refine lv_iconst (v := 0) hx hb dX9_splitBlock_73 (by decide) ?_
      refine lv_aload_n hx hb dX9_splitBlock_74 rfl (lv_at hl 3 rfl) ?_
      refine va_get (D := (dC, dI)) (ci := 9) (v := .ref h_row) (C := RX9) (T := TX9) (N := 4) hx hb hts inX9 hown hK hP 0 rfl rfl 2 (by decide) (hts _ (List.mem_cons_of_mem _ mw_115)) (fun _ h9 => h9) rfl dX9_splitBlock_75 ?_
      refine lv_iconst (v := 0) hx hb dX9_splitBlock_78 (by decide) ?_
      refine lv_bipush (v := 8) hx hb dX9_splitBlock_79 (by decide) ?_
      refine xcopyi (k1 := 0) (k2 := 0) (k3 := 8) hx hb (by rw [hml]; exact hl.1.symm) hown (hts _ (List.mem_cons_of_mem _ mw_281)) (hts _ (List.mem_cons_of_mem _ mw_59)) (hts _ (List.mem_cons_of_mem _ mw_60)) (hts _ (List.mem_cons_of_mem _ mw_61)) hK hP hD hS 5 2 0 0 rfl rfl rfl rfl rfl (by decide) (by decide) (by decide) (by decide) (by decide) (fun _ _ => rfl) (Nat.le_of_ble_eq_true rfl) (Nat.le_of_ble_eq_true rfl) (by decide) (by decide) (by decide) dX9_splitBlock_81 ?_; clear hP hD hS; clear H locs; intro f25 e_f25 H locs hP hD hS
      replace hw := hw f25 e_f25
      clear e_f25
      replace hP : va_P (dC, dI) vwCl (w_X9_splitBlock h0 h_memoriesA h_memoriesB h_row h_next k1 k3 cy n_p1 n_p3 p1 f25 f21 f22 f23 p3) H := hP
      replace hD : va_D A (w_X9_splitBlock h0 h_memoriesA h_memoriesB h_row h_next k1 k3 cy n_p1 n_p3 p1 f25 f21 f22 f23 p3) := hD
      refine lv_iinc (v := x7 + 1) (lv' := [(5, .int (x7 + 1)), (7, .int x20), (6, .int x16), (0, .ref h0), (3, .ref k3), (4, .int v4)]) hx hb dX9_splitBlock_84 hl (k := 2) rfl rfl (by decide) rfl ?_; clear hl; clear ls; intro ls hl
      refine lv_goto (tgt := 15) hx hb dX9_splitBlock_87 (by decide) ?_
      exact ih6 (x7 + 1) f25 f21 f22 f23 hw H locs ls hP hD hS (lv_sub hl [0, 3, 4, 5] rfl)
    · replace hw := hw.2 c24
      refine lv_aload_n hx hb dX9_splitBlock_37 rfl (lv_at hl 3 rfl) ?_
      refine lv_iload hx hb dX9_splitBlock_38 (lv_at hl 1 rfl) ?_
      refine lv_iconst (v := 1) hx hb dX9_splitBlock_40 (by decide) ?_
      refine lv_isub hx hb dX9_splitBlock_41 ?_
      refine lv_iload hx hb dX9_splitBlock_42 (lv_at hl 0 rfl) ?_
      refine lv_iadd hx hb dX9_splitBlock_44 ?_
      refine lv_iload hx hb dX9_splitBlock_45 (lv_at hl 0 rfl) ?_
      refine lv_bipush (v := 8) hx hb dX9_splitBlock_47 (by decide) ?_
      refine lv_imul hx hb dX9_splitBlock_49 ?_
      refine lv_iload hx hb dX9_splitBlock_50 (lv_at hl 1 rfl) ?_
      obtain ⟨h26, hw⟩ := hw
      refine lv_idiv hx hb dX9_splitBlock_52 h26 ?_
      refine lv_topi (fun x27 e_x27 => ?_)
      replace hw := hw x27 e_x27
      clear e_x27
      refine lv_bipush (v := 8) hx hb dX9_splitBlock_53 (by decide) ?_
      refine lv_iload hx hb dX9_splitBlock_55 (lv_at hl 1 rfl) ?_
      obtain ⟨h28, hw⟩ := hw
      refine lv_idiv hx hb dX9_splitBlock_57 h28 ?_
      refine lv_topi (fun x29 e_x29 => ?_)
      replace hw := hw x29 e_x29
      clear e_x29
      refine lv_iconst (v := 2) hx hb dX9_splitBlock_58 (by decide) ?_
      refine lv_idiv hx hb dX9_splitBlock_59 (by decide) ?_
      refine lv_topi (fun x30 e_x30 => ?_)
      replace hw := hw x30 e_x30
      clear e_x30
      have hPc := pSub (ws' := (w_X9_splitRow h0 h_memoriesA h_memoriesB h_row h_next cy f8 f21 f22 f23)) hP [0, 2, 3, 4, 5] rfl
      have hDc := dSub (ws' := (w_X9_splitRow h0 h_memoriesA h_memoriesB h_row h_next cy f8 f21 f22 f23)) hD [0, 2, 3, 4, 5] (by decide) rfl
      have hFc := va_free (wc := (w_X9_splitRow h0 h_memoriesA h_memoriesB h_row h_next cy f8 f21 f22 f23)) hD hS hA [0, 2, 3, 4, 5] rfl
      refine va_callv (va_runV (As := [.int ((x16 - (1 : Int32)) + x20), .int x27, .int x30]) (rest := []) ⟨hx, hb, hml, hown, hts⟩ (c_X9_splitRow l dC dI cy h0 h_memoriesA h_memoriesB h_row h_next H.size ((x16 - (1 : Int32)) + x20) x27 x30 f8 f21 f22 f23 _ hw) (cwV 3 hts (goodV mw_285 mw_282 mw_283 mw_284 mw_28) rfl rfl rfl (by decide +kernel) ⟨Nat.le_of_ble_eq_true rfl, Nat.le_of_ble_eq_true rfl⟩) ⟨PX_blind, va_recv hK hPc (ci := 9) (q0 := 0) rfl rfl, PX_pre hPc hK hDc hG⟩ rfl rfl hl.1 rfl (lv_room (Nat.le_of_ble_eq_true rfl)) dX9_splitBlock_60 ⟨Nat.zero_le _, Nat.zero_le _⟩) hS (fun q _ h => hFc q h) hFc ?_; clear hw hS; intro u t H1 locs1 ht hvm hw hB hz1 hk1 hS
      obtain ⟨f31, f32, f33⟩ := u
      try dsimp only at hw
      obtain ⟨hP1, -, -⟩ := hB
      rw [ht] at hP1
      replace hP := jC0 hP hD [0, 2, 3, 4, 5] [1, 6] rfl hk1 hP1 (w_X9_splitBlock h0 h_memoriesA h_memoriesB h_row h_next k1 k3 cy n_p1 n_p3 p1 f8 f31 f32 f33 p3) rfl rfl rfl 7 rfl (by decide +kernel); clear hD; obtain ⟨hP, hD⟩ := hP
      replace hP : va_P (dC, dI) vwCl (w_X9_splitBlock h0 h_memoriesA h_memoriesB h_row h_next k1 k3 cy n_p1 n_p3 p1 f8 f31 f32 f33 p3) H1 := hP
      replace hD : va_D A (w_X9_splitBlock h0 h_memoriesA h_memoriesB h_row h_next k1 k3 cy n_p1 n_p3 p1 f8 f31 f32 f33 p3) := hD
      clear hPc hDc hFc hP1 hk1 hz1 hvm ht; clear t; clear H locs; obtain ⟨H, hH⟩ : ∃ H, H = H1 := ⟨_, rfl⟩; obtain ⟨locs, hlo⟩ : ∃ L, L = locs1 := ⟨_, rfl⟩; subst hH; subst hlo
      refine W.widen (k := 0) (n := 0) (Nat.le_refl 0) (Nat.le_refl 0) ?_
      refine lv_iinc (v := x20 + 1) (lv' := [(7, .int (x20 + 1)), (6, .int x16), (5, .int x7), (0, .ref h0), (3, .ref k3), (4, .int v4)]) hx hb dX9_splitBlock_63 hl (k := 0) rfl rfl (by decide) rfl ?_; clear hl; clear ls; intro ls hl
      refine lv_goto (tgt := 30) hx hb dX9_splitBlock_66 (by decide) ?_
      exact ih19 (x20 + 1) f31 f32 f33 hw H locs ls hP hD hS (lv_sub hl [0, 1, 2, 3, 4, 5] rfl)
set_option maxHeartbeats 4000000 in
set_option maxRecDepth 100000 in
theorem c_X2_codeFrame (l : Launch) (dC : Nat → ClassId) (dI : Nat → Nat → Nat) (cy : Nat → ClassId) (h0 h_numbers h_trees h_samples h_frame h_code h_trees_0 h_trees_1 h_frame_split h_frame_told h_frame_quants h_frame_backs h_frame_rejoined h_frame_scales h_frame_needs h_frame_bits h_trees_0_memoriesA h_trees_0_memoriesB h_trees_0_row h_trees_0_next h_trees_1_memoriesA h_trees_1_memoriesB h_trees_1_row h_trees_1_next h_code_bytes : Nat) (sz : Nat) (v1 : Int32) (c_numbers : Nat → Int32) (c_samples : Nat → Int32) (c_frame_twins : Int32) (c_frame_method : Int32) (c_frame_pool : Int32) (c_trees_0_row : Nat → Int32) (c_trees_0_memoriesA : Nat → Int32) (c_trees_0_memoriesB : Nat → Int32) (c_trees_0_next : Nat → Int32) (c_frame_split : Nat → Int32) (c_trees_1_row : Nat → Int32) (c_trees_1_memoriesA : Nat → Int32) (c_trees_1_memoriesB : Nat → Int32) (c_trees_1_next : Nat → Int32) (c_frame_told : Nat → Int32) (c_frame_scales : Nat → Int32) (c_frame_needs : Nat → Int32) (c_frame_bits : Nat → Int32) (c_frame_quants : Nat → Int32) (c_frame_backs : Nat → Int32) (c_code_size : Int32) (c_code_at : Int32) (c_code_bytes : Nat → Int32) (post : (Nat → Int32) → (Nat → Int32) → Int32 → Int32 → Int32 → (Nat → Int32) → (Nat → Int32) → (Nat → Int32) → (Nat → Int32) → (Nat → Int32) → (Nat → Int32) → (Nat → Int32) → (Nat → Int32) → (Nat → Int32) → (Nat → Int32) → (Nat → Int32) → (Nat → Int32) → (Nat → Int32) → (Nat → Int32) → (Nat → Int32) → Int32 → Int32 → (Nat → Int32) → Prop) (hw : wp_X2_codeFrame v1 c_numbers c_samples c_frame_twins c_frame_method c_frame_pool c_trees_0_row c_trees_0_memoriesA c_trees_0_memoriesB c_trees_0_next c_frame_split c_trees_1_row c_trees_1_memoriesA c_trees_1_memoriesB c_trees_1_next c_frame_told c_frame_scales c_frame_needs c_frame_bits c_frame_quants c_frame_backs c_code_size c_code_at c_code_bytes post) : Met l yX2_codeFrame wsX2_codeFrame ({ frames := 3, cells := 0, slots := 0, locals := 78 }) (PX dC dI cy [.ref h0, .int v1] sz (w_X2_codeFrame h0 h_numbers h_trees h_samples h_frame h_code h_trees_0 h_trees_1 h_frame_split h_frame_told h_frame_quants h_frame_backs h_frame_rejoined h_frame_scales h_frame_needs h_frame_bits h_trees_0_memoriesA h_trees_0_memoriesB h_trees_0_row h_trees_0_next h_trees_1_memoriesA h_trees_1_memoriesB h_trees_1_row h_trees_1_next h_code_bytes cy c_numbers c_samples c_frame_twins c_frame_method c_frame_pool c_trees_0_row c_trees_0_memoriesA c_trees_0_memoriesB c_trees_0_next c_frame_split c_trees_1_row c_trees_1_memoriesA c_trees_1_memoriesB c_trees_1_next c_frame_told c_frame_scales c_frame_needs c_frame_bits c_frame_quants c_frame_backs c_code_size c_code_at c_code_bytes)) (va_Qv (fun (u : (Nat → Int32) × (Nat → Int32) × Int32 × Int32 × Int32 × (Nat → Int32) × (Nat → Int32) × (Nat → Int32) × (Nat → Int32) × (Nat → Int32) × (Nat → Int32) × (Nat → Int32) × (Nat → Int32) × (Nat → Int32) × (Nat → Int32) × (Nat → Int32) × (Nat → Int32) × (Nat → Int32) × (Nat → Int32) × (Nat → Int32) × Int32 × Int32 × (Nat → Int32)) => post u.1 u.2.1 u.2.2.1 u.2.2.2.1 u.2.2.2.2.1 u.2.2.2.2.2.1 u.2.2.2.2.2.2.1 u.2.2.2.2.2.2.2.1 u.2.2.2.2.2.2.2.2.1 u.2.2.2.2.2.2.2.2.2.1 u.2.2.2.2.2.2.2.2.2.2.1 u.2.2.2.2.2.2.2.2.2.2.2.1 u.2.2.2.2.2.2.2.2.2.2.2.2.1 u.2.2.2.2.2.2.2.2.2.2.2.2.2.1 u.2.2.2.2.2.2.2.2.2.2.2.2.2.2.1 u.2.2.2.2.2.2.2.2.2.2.2.2.2.2.2.1 u.2.2.2.2.2.2.2.2.2.2.2.2.2.2.2.2.1 u.2.2.2.2.2.2.2.2.2.2.2.2.2.2.2.2.2.1 u.2.2.2.2.2.2.2.2.2.2.2.2.2.2.2.2.2.2.1 u.2.2.2.2.2.2.2.2.2.2.2.2.2.2.2.2.2.2.2.1 u.2.2.2.2.2.2.2.2.2.2.2.2.2.2.2.2.2.2.2.2.1 u.2.2.2.2.2.2.2.2.2.2.2.2.2.2.2.2.2.2.2.2.2.1 u.2.2.2.2.2.2.2.2.2.2.2.2.2.2.2.2.2.2.2.2.2.2) (QX dC dI cy (va_A (w_X2_codeFrame h0 h_numbers h_trees h_samples h_frame h_code h_trees_0 h_trees_1 h_frame_split h_frame_told h_frame_quants h_frame_backs h_frame_rejoined h_frame_scales h_frame_needs h_frame_bits h_trees_0_memoriesA h_trees_0_memoriesB h_trees_0_row h_trees_0_next h_trees_1_memoriesA h_trees_1_memoriesB h_trees_1_row h_trees_1_next h_code_bytes cy c_numbers c_samples c_frame_twins c_frame_method c_frame_pool c_trees_0_row c_trees_0_memoriesA c_trees_0_memoriesB c_trees_0_next c_frame_split c_trees_1_row c_trees_1_memoriesA c_trees_1_memoriesB c_trees_1_next c_frame_told c_frame_scales c_frame_needs c_frame_bits c_frame_quants c_frame_backs c_code_size c_code_at c_code_bytes) sz) (fun (u : (Nat → Int32) × (Nat → Int32) × Int32 × Int32 × Int32 × (Nat → Int32) × (Nat → Int32) × (Nat → Int32) × (Nat → Int32) × (Nat → Int32) × (Nat → Int32) × (Nat → Int32) × (Nat → Int32) × (Nat → Int32) × (Nat → Int32) × (Nat → Int32) × (Nat → Int32) × (Nat → Int32) × (Nat → Int32) × (Nat → Int32) × Int32 × Int32 × (Nat → Int32)) => w_X2_codeFrame h0 h_numbers h_trees h_samples h_frame h_code h_trees_0 h_trees_1 h_frame_split h_frame_told h_frame_quants h_frame_backs h_frame_rejoined h_frame_scales h_frame_needs h_frame_bits h_trees_0_memoriesA h_trees_0_memoriesB h_trees_0_row h_trees_0_next h_trees_1_memoriesA h_trees_1_memoriesB h_trees_1_row h_trees_1_next h_code_bytes cy u.1 u.2.1 u.2.2.1 u.2.2.2.1 u.2.2.2.2.1 u.2.2.2.2.2.1 u.2.2.2.2.2.2.1 u.2.2.2.2.2.2.2.1 u.2.2.2.2.2.2.2.2.1 u.2.2.2.2.2.2.2.2.2.1 u.2.2.2.2.2.2.2.2.2.2.1 u.2.2.2.2.2.2.2.2.2.2.2.1 u.2.2.2.2.2.2.2.2.2.2.2.2.1 u.2.2.2.2.2.2.2.2.2.2.2.2.2.1 u.2.2.2.2.2.2.2.2.2.2.2.2.2.2.1 u.2.2.2.2.2.2.2.2.2.2.2.2.2.2.2.1 u.2.2.2.2.2.2.2.2.2.2.2.2.2.2.2.2.1 u.2.2.2.2.2.2.2.2.2.2.2.2.2.2.2.2.2.1 u.2.2.2.2.2.2.2.2.2.2.2.2.2.2.2.2.2.2.1 u.2.2.2.2.2.2.2.2.2.2.2.2.2.2.2.2.2.2.2.1 u.2.2.2.2.2.2.2.2.2.2.2.2.2.2.2.2.2.2.2.2.1 u.2.2.2.2.2.2.2.2.2.2.2.2.2.2.2.2.2.2.2.2.2.1 u.2.2.2.2.2.2.2.2.2.2.2.2.2.2.2.2.2.2.2.2.2.2)) (va_A (w_X2_codeFrame h0 h_numbers h_trees h_samples h_frame h_code h_trees_0 h_trees_1 h_frame_split h_frame_told h_frame_quants h_frame_backs h_frame_rejoined h_frame_scales h_frame_needs h_frame_bits h_trees_0_memoriesA h_trees_0_memoriesB h_trees_0_row h_trees_0_next h_trees_1_memoriesA h_trees_1_memoriesB h_trees_1_row h_trees_1_next h_code_bytes cy c_numbers c_samples c_frame_twins c_frame_method c_frame_pool c_trees_0_row c_trees_0_memoriesA c_trees_0_memoriesB c_trees_0_next c_frame_split c_trees_1_row c_trees_1_memoriesA c_trees_1_memoriesB c_trees_1_next c_frame_told c_frame_scales c_frame_needs c_frame_bits c_frame_quants c_frame_backs c_code_size c_code_at c_code_bytes) sz)) 0 0 (va_A (w_X2_codeFrame h0 h_numbers h_trees h_samples h_frame h_code h_trees_0 h_trees_1 h_frame_split h_frame_told h_frame_quants h_frame_backs h_frame_rejoined h_frame_scales h_frame_needs h_frame_bits h_trees_0_memoriesA h_trees_0_memoriesB h_trees_0_row h_trees_0_next h_trees_1_memoriesA h_trees_1_memoriesB h_trees_1_row h_trees_1_next h_code_bytes cy c_numbers c_samples c_frame_twins c_frame_method c_frame_pool c_trees_0_row c_trees_0_memoriesA c_trees_0_memoriesB c_trees_0_next c_frame_split c_trees_1_row c_trees_1_memoriesA c_trees_1_memoriesB c_trees_1_next c_frame_told c_frame_scales c_frame_needs c_frame_bits c_frame_quants c_frame_backs c_code_size c_code_at c_code_bytes) sz) := by
  refine Met.ofW (cc := cX2_codeFrame) (maxL := 4) (ret := none) (by decide) rfl ?_
  intro p e s m args below meth c s₁ B hml hv
  obtain ⟨rfl, hsz, hP, hK, hD0, hG⟩ := hv
  have hx := B.exec
  have hb := B.bytes
  have hr := B.returns
  have hts := atoms_spec (ws := wsX2_codeFrame) B.pre
  have hown : s.vm.findClass RX2 = some m.cls := findClass_of_methodNamed B.named
  have hlocks := B.notSynchronized
  subst hsz
  have hD := hD0.self (sz := s.heap.size)
  generalize hAe : va_A (w_X2_codeFrame h0 h_numbers h_trees h_samples h_frame h_code h_trees_0 h_trees_1 h_frame_split h_frame_told h_frame_quants h_frame_backs h_frame_rejoined h_frame_scales h_frame_needs h_frame_bits h_trees_0_memoriesA h_trees_0_memoriesB h_trees_0_row h_trees_0_next h_trees_1_memoriesA h_trees_1_memoriesB h_trees_1_row h_trees_1_next h_code_bytes cy c_numbers c_samples c_frame_twins c_frame_method c_frame_pool c_trees_0_row c_trees_0_memoriesA c_trees_0_memoriesB c_trees_0_next c_frame_split c_trees_1_row c_trees_1_memoriesA c_trees_1_memoriesB c_trees_1_next c_frame_told c_frame_scales c_frame_needs c_frame_bits c_frame_quants c_frame_backs c_code_size c_code_at c_code_bytes) s.heap.size = A at hD ⊢
  have hA : ∀ q : Nat, s.heap.size ≤ q → A q := fun q h => by rw [← hAe]; exact Or.inr h
  have hS : va_S A s.heap s.heap [] := va_S.rf
  have hl := lv_entry ([.ref h0, .int v1]) (n := 4) (Nat.le_of_ble_eq_true rfl)
  rw [lg_entry_eq]
  generalize (lg_sl ([.ref h0, .int v1]) ++ List.replicate (4 - (lg_sl ([.ref h0, .int v1])).length) Slot.unset).toArray = ls at hl ⊢
  replace hl : lv_has ls 4 [(0, .ref h0), (1, .int v1)] := hl
  have inX1 : ∀ w ∈ u_ws RX1 TX1 3, w ∈ wsX2_codeFrame := fun w h => List.mem_cons_of_mem _ (inlX1 w h)
  have inX2 : ∀ w ∈ u_ws RX2 TX2 5, w ∈ wsX2_codeFrame := fun w h => List.mem_cons_of_mem _ (inlX2 w h)
  have inX4 : ∀ w ∈ u_ws RX4 TX4 11, w ∈ wsX2_codeFrame := fun w h => List.mem_cons_of_mem _ (inlX4 w h)
  clear hAe hD0 B
  unfold wp_X2_codeFrame at hw
  generalize hQe : MQ below _ _ s _ _ _ = Q0
  generalize ([.ref h0, .int v1] : List Value).toArray = av at *
  obtain ⟨H, hH⟩ : ∃ H, H = s.heap := ⟨_, rfl⟩
  obtain ⟨locs, hlo⟩ : ∃ L : List Loc, L = [] := ⟨_, rfl⟩
  replace hP : va_P (dC, dI) vwCl (w_X2_codeFrame h0 h_numbers h_trees h_samples h_frame h_code h_trees_0 h_trees_1 h_frame_split h_frame_told h_frame_quants h_frame_backs h_frame_rejoined h_frame_scales h_frame_needs h_frame_bits h_trees_0_memoriesA h_trees_0_memoriesB h_trees_0_row h_trees_0_next h_trees_1_memoriesA h_trees_1_memoriesB h_trees_1_row h_trees_1_next h_code_bytes cy c_numbers c_samples c_frame_twins c_frame_method c_frame_pool c_trees_0_row c_trees_0_memoriesA c_trees_0_memoriesB c_trees_0_next c_frame_split c_trees_1_row c_trees_1_memoriesA c_trees_1_memoriesB c_trees_1_next c_frame_told c_frame_scales c_frame_needs c_frame_bits c_frame_quants c_frame_backs c_code_size c_code_at c_code_bytes) H := by rw [hH]; exact hP
  replace hS : va_S A s.heap H locs := by rw [hH, hlo]; exact hS
  suffices hgo : W p l e ({ frames := 3, cells := 0, slots := 0, locals := 78 }) s m av below meth c H locs 0 0 Q0 (F0 m 0 ls []) by rw [hH, hlo] at hgo; exact hgo
  clear hH hlo
  refine lv_iconst (v := 0) hx hb dX2_codeFrame_0 (by decide) ?_
  refine lv_istore_n (lv' := [(2, .int (0 : Int32)), (0, .ref h0), (1, .int v1)]) hx hb dX2_codeFrame_1 rfl hl (by decide) rfl ?_; clear hl; clear ls; intro ls hl
  refine lv_iload_n hx hb dX2_codeFrame_2 rfl (lv_at hl 0 rfl) ?_
  refine lv_iconst (v := 2) hx hb dX2_codeFrame_3 (by decide) ?_
  refine lv_icmp_ge (tgt := 93) hx hb dX2_codeFrame_4 (by decide) (fun hc => absurd hc (by decide)) (fun _ => ?_)
  refine lv_iconst (v := 0) hx hb dX2_codeFrame_7 (by decide) ?_
  refine lv_istore_n (lv' := [(3, .int (0 : Int32)), (2, .int (0 : Int32)), (0, .ref h0), (1, .int v1)]) hx hb dX2_codeFrame_8 rfl hl (by decide) rfl ?_; clear hl; clear ls; intro ls hl
  obtain ⟨x1, e_x1⟩ : ∃ y : Int32, y = (0 : Int32) := ⟨_, rfl⟩
  replace hw := hw x1 e_x1
  replace hl : lv_has ls 4 [(3, .int x1), (2, .int (0 : Int32)), (0, .ref h0), (1, .int v1)] := by rw [e_x1]; exact hl
  clear e_x1
  replace hl := lv_sub (l' := [(3, .int x1), (2, .int (0 : Int32)), (0, .ref h0), (1, .int v1)]) hl [0, 1, 2, 3] rfl
  revert hl; revert hS; revert hD; revert hP; revert ls; revert locs; revert H
  revert hw; revert c_samples; revert x1
  refine Lz2_gr ?_; intro g2 ih3 x4 f5 hw
  intro H locs ls hP hD hS hl
  refine lv_iload_n hx hb dX2_codeFrame_9 rfl (lv_at hl 0 rfl) ?_
  refine lv_bipush (v := 32) hx hb dX2_codeFrame_10 (by decide) ?_
  refine lv_icmp_ge (tgt := 41) hx hb dX2_codeFrame_12 (by decide) (fun c6 => ?_) (fun c6 => ?_)
  · replace hw := hw.1 c6
    clear ih3
    refine lv_iconst (v := 0) hx hb dX2_codeFrame_41 (by decide) ?_
    refine lv_istore_n (lv' := [(3, .int (0 : Int32)), (2, .int (0 : Int32)), (0, .ref h0), (1, .int v1)]) hx hb dX2_codeFrame_42 rfl hl (by decide) rfl ?_; clear hl; clear ls; intro ls hl
    obtain ⟨x7, e_x7⟩ : ∃ y : Int32, y = (0 : Int32) := ⟨_, rfl⟩
    replace hw := hw x7 e_x7
    replace hl : lv_has ls 4 [(3, .int x7), (2, .int (0 : Int32)), (0, .ref h0), (1, .int v1)] := by rw [e_x7]; exact hl
    clear e_x7
    replace hl := lv_sub (l' := [(3, .int x7), (2, .int (0 : Int32)), (0, .ref h0), (1, .int v1)]) hl [0, 1, 2, 3] rfl
    revert hl; revert hS; revert hD; revert hP; revert ls; revert locs; revert H
    revert hw; revert c_trees_1_next; revert c_trees_1_memoriesB; revert c_trees_1_memoriesA; revert c_trees_1_row; revert c_frame_split; revert c_trees_0_next; revert c_trees_0_memoriesB; revert c_trees_0_memoriesA; revert c_trees_0_row; revert x7
    refine Lz10_gr ?_; intro g8 ih9 x10 f11 f12 f13 f14 f15 f16 f17 f18 f19 hw
    intro H locs ls hP hD hS hl
    refine lv_iload_n hx hb dX2_codeFrame_43 rfl (lv_at hl 0 rfl) ?_
    refine lv_iconst (v := 4) hx hb dX2_codeFrame_44 (by decide) ?_
    refine lv_icmp_ge (tgt := 87) hx hb dX2_codeFrame_45 (by decide) (fun c20 => ?_) (fun c20 => ?_)
    · replace hw := hw.1 c20
      clear ih9
      refine lv_iinc (v := (1 : Int32)) (lv' := [(2, .int (1 : Int32)), (3, .int x10), (0, .ref h0), (1, .int v1)]) hx hb dX2_codeFrame_87 hl (k := 1) rfl (by decide) (by decide) rfl ?_; clear hl; clear ls; intro ls hl
      refine lv_goto (tgt := 2) hx hb dX2_codeFrame_90 (by decide) ?_
      refine lv_iload_n hx hb dX2_codeFrame_2 rfl (lv_at hl 0 rfl) ?_
      refine lv_iconst (v := 2) hx hb dX2_codeFrame_3 (by decide) ?_
      refine lv_icmp_ge (tgt := 93) hx hb dX2_codeFrame_4 (by decide) (fun hc => absurd hc (by decide)) (fun _ => ?_)
      refine lv_iconst (v := 0) hx hb dX2_codeFrame_7 (by decide) ?_
      refine lv_istore_n (lv' := [(3, .int (0 : Int32)), (2, .int (1 : Int32)), (0, .ref h0), (1, .int v1)]) hx hb dX2_codeFrame_8 rfl hl (by decide) rfl ?_; clear hl; clear ls; intro ls hl
      obtain ⟨x21, e_x21⟩ : ∃ y : Int32, y = (0 : Int32) := ⟨_, rfl⟩
      replace hw := hw x21 e_x21
      replace hl : lv_has ls 4 [(3, .int x21), (2, .int (1 : Int32)), (0, .ref h0), (1, .int v1)] := by rw [e_x21]; exact hl
      clear e_x21
      replace hl := lv_sub (l' := [(3, .int x21), (2, .int (1 : Int32)), (0, .ref h0), (1, .int v1)]) hl [0, 1, 2, 3] rfl
      revert hl; revert hS; revert hD; revert hP; revert ls; revert locs; revert H
      revert hw; revert f5; revert x21
      refine Lz2_gr ?_; intro g22 ih23 x24 f25 hw
      intro H locs ls hP hD hS hl
      refine lv_iload_n hx hb dX2_codeFrame_9 rfl (lv_at hl 0 rfl) ?_
      refine lv_bipush (v := 32) hx hb dX2_codeFrame_10 (by decide) ?_
      refine lv_icmp_ge (tgt := 41) hx hb dX2_codeFrame_12 (by decide) (fun c26 => ?_) (fun c26 => ?_)
      · replace hw := hw.1 c26
        clear ih23
        refine lv_iconst (v := 0) hx hb dX2_codeFrame_41 (by decide) ?_
        refine lv_istore_n (lv' := [(3, .int (0 : Int32)), (2, .int (1 : Int32)), (0, .ref h0), (1, .int v1)]) hx hb dX2_codeFrame_42 rfl hl (by decide) rfl ?_; clear hl; clear ls; intro ls hl
        obtain ⟨x27, e_x27⟩ : ∃ y : Int32, y = (0 : Int32) := ⟨_, rfl⟩
        replace hw := hw x27 e_x27
        replace hl : lv_has ls 4 [(3, .int x27), (2, .int (1 : Int32)), (0, .ref h0), (1, .int v1)] := by rw [e_x27]; exact hl
        clear e_x27
        replace hl := lv_sub (l' := [(3, .int x27), (2, .int (1 : Int32)), (0, .ref h0), (1, .int v1)]) hl [0, 1, 2, 3] rfl
        revert hl; revert hS; revert hD; revert hP; revert ls; revert locs; revert H
        revert hw; revert f19; revert f18; revert f17; revert f16; revert f15; revert f14; revert f13; revert f12; revert f11; revert x27
        refine Lz10_gr ?_; intro g28 ih29 x30 f31 f32 f33 f34 f35 f36 f37 f38 f39 hw
        intro H locs ls hP hD hS hl
        refine lv_iload_n hx hb dX2_codeFrame_43 rfl (lv_at hl 0 rfl) ?_
        refine lv_iconst (v := 4) hx hb dX2_codeFrame_44 (by decide) ?_
        refine lv_icmp_ge (tgt := 87) hx hb dX2_codeFrame_45 (by decide) (fun c40 => ?_) (fun c40 => ?_)
        · replace hw := hw.1 c40
          clear ih29
          refine lv_iinc (v := (2 : Int32)) (lv' := [(2, .int (2 : Int32)), (3, .int x30), (0, .ref h0), (1, .int v1)]) hx hb dX2_codeFrame_87 hl (k := 1) rfl (by decide) (by decide) rfl ?_; clear hl; clear ls; intro ls hl
          refine lv_goto (tgt := 2) hx hb dX2_codeFrame_90 (by decide) ?_
          refine lv_iload_n hx hb dX2_codeFrame_2 rfl (lv_at hl 0 rfl) ?_
          refine lv_iconst (v := 2) hx hb dX2_codeFrame_3 (by decide) ?_
          refine lv_icmp_ge (tgt := 93) hx hb dX2_codeFrame_4 (by decide) (fun _ => ?_) (fun hc => absurd hc (by decide))
          refine lv_aload_n hx hb dX2_codeFrame_93 rfl (lv_at hl 2 rfl) ?_
          refine va_get (D := (dC, dI)) (ci := 2) (v := .ref h_frame) (C := RX2) (T := TX2) (N := 5) hx hb hts inX2 hown hK hP 0 rfl rfl 3 (by decide) (hts _ (List.mem_cons_of_mem _ mw_106)) (fun _ h9 => h9) rfl dX2_codeFrame_94 ?_
          refine lv_aload_n hx hb dX2_codeFrame_97 rfl (lv_at hl 2 rfl) ?_
          refine va_get (D := (dC, dI)) (ci := 2) (v := .ref h_numbers) (C := RX2) (T := TX2) (N := 5) hx hb hts inX2 hown hK hP 0 rfl rfl 0 (by decide) (hts _ (List.mem_cons_of_mem _ mw_109)) (fun _ h9 => h9) rfl dX2_codeFrame_98 ?_
          refine lv_bipush (v := 23) hx hb dX2_codeFrame_101 (by decide) ?_
          refine xiald (k := 23) hx hb hK hP 1 0 rfl rfl (vpL 23 54 rfl) (by decide) dX2_codeFrame_103 ?_
          have hPc := pSub (ws' := (w_X4_tell h_frame h_frame_split h_frame_told h_frame_quants h_frame_backs h_frame_rejoined h_frame_scales h_frame_needs h_frame_bits cy c_frame_twins c_frame_method c_frame_pool f35 c_frame_told c_frame_scales)) hP [4, 10, 16, 17] rfl
          have hDc := dSub (ws' := (w_X4_tell h_frame h_frame_split h_frame_told h_frame_quants h_frame_backs h_frame_rejoined h_frame_scales h_frame_needs h_frame_bits cy c_frame_twins c_frame_method c_frame_pool f35 c_frame_told c_frame_scales)) hD [4, 10, 16, 17] (by decide) rfl
          have hFc := va_free (wc := (w_X4_tell h_frame h_frame_split h_frame_told h_frame_quants h_frame_backs h_frame_rejoined h_frame_scales h_frame_needs h_frame_bits cy c_frame_twins c_frame_method c_frame_pool f35 c_frame_told c_frame_scales)) hD hS hA [4, 10, 16, 17] rfl
          refine va_callv (va_runV (As := [.int (c_numbers 23)]) (rest := []) ⟨hx, hb, hml, hown, hts⟩ (c_X4_tell l dC dI cy h_frame h_frame_split h_frame_told h_frame_quants h_frame_backs h_frame_rejoined h_frame_scales h_frame_needs h_frame_bits H.size (c_numbers 23) c_frame_twins c_frame_method c_frame_pool f35 c_frame_told c_frame_scales _ hw) (cwV 1 hts (goodV mw_289 mw_286 mw_287 mw_288 mw_20) rfl rfl rfl (by decide +kernel) ⟨Nat.le_of_ble_eq_true rfl, Nat.le_of_ble_eq_true rfl⟩) ⟨PX_blind, va_recv hK hPc (ci := 4) (q0 := 0) rfl rfl, PX_pre hPc hK hDc hG⟩ rfl rfl hl.1 rfl (lv_room (Nat.le_of_ble_eq_true rfl)) dX2_codeFrame_104 ⟨Nat.zero_le _, Nat.zero_le _⟩) hS (fun q _ h => hFc q h) hFc ?_; clear hw hS; intro u t H1 locs1 ht hvm hw hB hz1 hk1 hS
          obtain ⟨x42, f43, f44⟩ := u
          try dsimp only at hw
          obtain ⟨hP1, -, -⟩ := hB
          rw [ht] at hP1
          replace hP := jC0 hP hD [4, 10, 16, 17] [0, 1, 2, 3, 5, 6, 7, 8, 9, 11, 12, 13, 14, 15, 18, 19, 20, 21, 22, 23] rfl hk1 hP1 (w_X2_codeFrame h0 h_numbers h_trees h_samples h_frame h_code h_trees_0 h_trees_1 h_frame_split h_frame_told h_frame_quants h_frame_backs h_frame_rejoined h_frame_scales h_frame_needs h_frame_bits h_trees_0_memoriesA h_trees_0_memoriesB h_trees_0_row h_trees_0_next h_trees_1_memoriesA h_trees_1_memoriesB h_trees_1_row h_trees_1_next h_code_bytes cy c_numbers f25 x42 c_frame_method c_frame_pool f31 f32 f33 f34 f35 f36 f37 f38 f39 f43 f44 c_frame_needs c_frame_bits c_frame_quants c_frame_backs c_code_size c_code_at c_code_bytes) rfl rfl rfl 24 rfl (by decide +kernel); clear hD; obtain ⟨hP, hD⟩ := hP
          replace hP : va_P (dC, dI) vwCl (w_X2_codeFrame h0 h_numbers h_trees h_samples h_frame h_code h_trees_0 h_trees_1 h_frame_split h_frame_told h_frame_quants h_frame_backs h_frame_rejoined h_frame_scales h_frame_needs h_frame_bits h_trees_0_memoriesA h_trees_0_memoriesB h_trees_0_row h_trees_0_next h_trees_1_memoriesA h_trees_1_memoriesB h_trees_1_row h_trees_1_next h_code_bytes cy c_numbers f25 x42 c_frame_method c_frame_pool f31 f32 f33 f34 f35 f36 f37 f38 f39 f43 f44 c_frame_needs c_frame_bits c_frame_quants c_frame_backs c_code_size c_code_at c_code_bytes) H1 := hP
          replace hD : va_D A (w_X2_codeFrame h0 h_numbers h_trees h_samples h_frame h_code h_trees_0 h_trees_1 h_frame_split h_frame_told h_frame_quants h_frame_backs h_frame_rejoined h_frame_scales h_frame_needs h_frame_bits h_trees_0_memoriesA h_trees_0_memoriesB h_trees_0_row h_trees_0_next h_trees_1_memoriesA h_trees_1_memoriesB h_trees_1_row h_trees_1_next h_code_bytes cy c_numbers f25 x42 c_frame_method c_frame_pool f31 f32 f33 f34 f35 f36 f37 f38 f39 f43 f44 c_frame_needs c_frame_bits c_frame_quants c_frame_backs c_code_size c_code_at c_code_bytes) := hD
          clear hPc hDc hFc hP1 hk1 hz1 hvm ht; clear t; clear H locs; obtain ⟨H, hH⟩ : ∃ H, H = H1 := ⟨_, rfl⟩; obtain ⟨locs, hlo⟩ : ∃ L, L = locs1 := ⟨_, rfl⟩; subst hH; subst hlo
          refine W.widen (k := 0) (n := 0) (Nat.le_refl 0) (Nat.le_refl 0) ?_
          refine lv_aload_n hx hb dX2_codeFrame_107 rfl (lv_at hl 2 rfl) ?_
          refine va_get (D := (dC, dI)) (ci := 2) (v := .ref h_frame) (C := RX2) (T := TX2) (N := 5) hx hb hts inX2 hown hK hP 0 rfl rfl 3 (by decide) (hts _ (List.mem_cons_of_mem _ mw_106)) (fun _ h9 => h9) rfl dX2_codeFrame_108 ?_
          refine lv_aload_n hx hb dX2_codeFrame_111 rfl (lv_at hl 2 rfl) ?_
          refine va_get (D := (dC, dI)) (ci := 2) (v := .ref h_numbers) (C := RX2) (T := TX2) (N := 5) hx hb hts inX2 hown hK hP 0 rfl rfl 0 (by decide) (hts _ (List.mem_cons_of_mem _ mw_109)) (fun _ h9 => h9) rfl dX2_codeFrame_112 ?_
          refine lv_bipush (v := 31) hx hb dX2_codeFrame_115 (by decide) ?_
          refine xiald (k := 31) hx hb hK hP 1 0 rfl rfl (vpL 31 54 rfl) (by decide) dX2_codeFrame_117 ?_
          refine lv_aload_n hx hb dX2_codeFrame_118 rfl (lv_at hl 2 rfl) ?_
          refine va_get (D := (dC, dI)) (ci := 2) (v := .ref h_numbers) (C := RX2) (T := TX2) (N := 5) hx hb hts inX2 hown hK hP 0 rfl rfl 0 (by decide) (hts _ (List.mem_cons_of_mem _ mw_109)) (fun _ h9 => h9) rfl dX2_codeFrame_119 ?_
          refine lv_bipush (v := 22) hx hb dX2_codeFrame_122 (by decide) ?_
          refine xiald (k := 22) hx hb hK hP 1 0 rfl rfl (vpL 22 54 rfl) (by decide) dX2_codeFrame_124 ?_
          refine lv_aload_n hx hb dX2_codeFrame_125 rfl (lv_at hl 2 rfl) ?_
          refine va_get (D := (dC, dI)) (ci := 2) (v := .ref h_numbers) (C := RX2) (T := TX2) (N := 5) hx hb hts inX2 hown hK hP 0 rfl rfl 0 (by decide) (hts _ (List.mem_cons_of_mem _ mw_109)) (fun _ h9 => h9) rfl dX2_codeFrame_126 ?_
          have hPc := pSub (ws' := (w_X4_deal h_frame h_frame_split h_frame_told h_frame_quants h_frame_backs h_frame_rejoined h_frame_scales h_frame_needs h_frame_bits h_numbers cy 54 x42 c_frame_method c_frame_pool f44 c_numbers c_frame_needs c_frame_bits)) hP [4, 17, 1, 18, 19] rfl
          have hDc := dSub (ws' := (w_X4_deal h_frame h_frame_split h_frame_told h_frame_quants h_frame_backs h_frame_rejoined h_frame_scales h_frame_needs h_frame_bits h_numbers cy 54 x42 c_frame_method c_frame_pool f44 c_numbers c_frame_needs c_frame_bits)) hD [4, 17, 1, 18, 19] (by decide) rfl
          have hFc := va_free (wc := (w_X4_deal h_frame h_frame_split h_frame_told h_frame_quants h_frame_backs h_frame_rejoined h_frame_scales h_frame_needs h_frame_bits h_numbers cy 54 x42 c_frame_method c_frame_pool f44 c_numbers c_frame_needs c_frame_bits)) hD hS hA [4, 17, 1, 18, 19] rfl
          refine va_callv (va_runV (As := [.int (c_numbers 31), .int (c_numbers 22), .ref h_numbers]) (rest := []) ⟨hx, hb, hml, hown, hts⟩ (c_X4_deal l dC dI cy h_frame h_frame_split h_frame_told h_frame_quants h_frame_backs h_frame_rejoined h_frame_scales h_frame_needs h_frame_bits h_numbers 54 H.size (c_numbers 31) (c_numbers 22) x42 c_frame_method c_frame_pool f44 c_numbers c_frame_needs c_frame_bits _ hw) (cwV 3 hts (goodV mw_314 mw_311 mw_312 mw_313 mw_20) rfl rfl rfl (by decide +kernel) ⟨Nat.le_of_ble_eq_true rfl, Nat.le_of_ble_eq_true rfl⟩) ⟨PX_blind, va_recv hK hPc (ci := 4) (q0 := 0) rfl rfl, PX_pre hPc hK hDc hG⟩ rfl rfl hl.1 rfl (lv_room (Nat.le_of_ble_eq_true rfl)) dX2_codeFrame_129 ⟨Nat.zero_le _, Nat.zero_le _⟩) hS (fun q _ h => hFc q h) hFc ?_; clear hw hS; intro u t H1 locs1 ht hvm hw hB hz1 hk1 hS
          obtain ⟨x47, x48, f49, f50⟩ := u
          try dsimp only at hw
          obtain ⟨hP1, -, -⟩ := hB
          rw [ht] at hP1
          replace hP := jC0 hP hD [4, 17, 1, 18, 19] [0, 2, 3, 5, 6, 7, 8, 9, 10, 11, 12, 13, 14, 15, 16, 20, 21, 22, 23] rfl hk1 hP1 (w_X2_codeFrame h0 h_numbers h_trees h_samples h_frame h_code h_trees_0 h_trees_1 h_frame_split h_frame_told h_frame_quants h_frame_backs h_frame_rejoined h_frame_scales h_frame_needs h_frame_bits h_trees_0_memoriesA h_trees_0_memoriesB h_trees_0_row h_trees_0_next h_trees_1_memoriesA h_trees_1_memoriesB h_trees_1_row h_trees_1_next h_code_bytes cy c_numbers f25 x42 x47 x48 f31 f32 f33 f34 f35 f36 f37 f38 f39 f43 f44 f49 f50 c_frame_quants c_frame_backs c_code_size c_code_at c_code_bytes) rfl rfl rfl 24 rfl (by decide +kernel); clear hD; obtain ⟨hP, hD⟩ := hP
          replace hP : va_P (dC, dI) vwCl (w_X2_codeFrame h0 h_numbers h_trees h_samples h_frame h_code h_trees_0 h_trees_1 h_frame_split h_frame_told h_frame_quants h_frame_backs h_frame_rejoined h_frame_scales h_frame_needs h_frame_bits h_trees_0_memoriesA h_trees_0_memoriesB h_trees_0_row h_trees_0_next h_trees_1_memoriesA h_trees_1_memoriesB h_trees_1_row h_trees_1_next h_code_bytes cy c_numbers f25 x42 x47 x48 f31 f32 f33 f34 f35 f36 f37 f38 f39 f43 f44 f49 f50 c_frame_quants c_frame_backs c_code_size c_code_at c_code_bytes) H1 := hP
          replace hD : va_D A (w_X2_codeFrame h0 h_numbers h_trees h_samples h_frame h_code h_trees_0 h_trees_1 h_frame_split h_frame_told h_frame_quants h_frame_backs h_frame_rejoined h_frame_scales h_frame_needs h_frame_bits h_trees_0_memoriesA h_trees_0_memoriesB h_trees_0_row h_trees_0_next h_trees_1_memoriesA h_trees_1_memoriesB h_trees_1_row h_trees_1_next h_code_bytes cy c_numbers f25 x42 x47 x48 f31 f32 f33 f34 f35 f36 f37 f38 f39 f43 f44 f49 f50 c_frame_quants c_frame_backs c_code_size c_code_at c_code_bytes) := hD
          clear hPc hDc hFc hP1 hk1 hz1 hvm ht; clear t; clear H locs; obtain ⟨H, hH⟩ : ∃ H, H = H1 := ⟨_, rfl⟩; obtain ⟨locs, hlo⟩ : ∃ L, L = locs1 := ⟨_, rfl⟩; subst hH; subst hlo
          refine W.widen (k := 0) (n := 0) (Nat.le_refl 0) (Nat.le_refl 0) ?_
          refine lv_aload_n hx hb dX2_codeFrame_132 rfl (lv_at hl 2 rfl) ?_
          refine va_get (D := (dC, dI)) (ci := 2) (v := .ref h_frame) (C := RX2) (T := TX2) (N := 5) hx hb hts inX2 hown hK hP 0 rfl rfl 3 (by decide) (hts _ (List.mem_cons_of_mem _ mw_106)) (fun _ h9 => h9) rfl dX2_codeFrame_133 ?_
          have hPc := pSub (ws' := (w_X4_quantise h_frame h_frame_split h_frame_told h_frame_quants h_frame_backs h_frame_rejoined h_frame_scales h_frame_needs h_frame_bits cy x42 x47 x48 f43 f44 f50 c_frame_quants c_frame_backs)) hP [4, 16, 17, 19, 20, 21] rfl
          have hDc := dSub (ws' := (w_X4_quantise h_frame h_frame_split h_frame_told h_frame_quants h_frame_backs h_frame_rejoined h_frame_scales h_frame_needs h_frame_bits cy x42 x47 x48 f43 f44 f50 c_frame_quants c_frame_backs)) hD [4, 16, 17, 19, 20, 21] (by decide) rfl
          have hFc := va_free (wc := (w_X4_quantise h_frame h_frame_split h_frame_told h_frame_quants h_frame_backs h_frame_rejoined h_frame_scales h_frame_needs h_frame_bits cy x42 x47 x48 f43 f44 f50 c_frame_quants c_frame_backs)) hD hS hA [4, 16, 17, 19, 20, 21] rfl
          refine va_callv (va_runV (As := []) (rest := []) ⟨hx, hb, hml, hown, hts⟩ (c_X4_quantise l dC dI cy h_frame h_frame_split h_frame_told h_frame_quants h_frame_backs h_frame_rejoined h_frame_scales h_frame_needs h_frame_bits H.size x42 x47 x48 f43 f44 f50 c_frame_quants c_frame_backs _ hw) (cwV 0 hts (goodV mw_326 mw_323 mw_324 mw_325 mw_20) rfl rfl rfl (by decide +kernel) ⟨Nat.le_of_ble_eq_true rfl, Nat.le_of_ble_eq_true rfl⟩) ⟨PX_blind, va_recv hK hPc (ci := 4) (q0 := 0) rfl rfl, PX_pre hPc hK hDc hG⟩ rfl rfl hl.1 rfl (lv_room (Nat.le_of_ble_eq_true rfl)) dX2_codeFrame_136 ⟨Nat.zero_le _, Nat.zero_le _⟩) hS (fun q _ h => hFc q h) hFc ?_; clear hw hS; intro u t H1 locs1 ht hvm hw hB hz1 hk1 hS
          obtain ⟨f51, f52⟩ := u
          try dsimp only at hw
          obtain ⟨hP1, -, -⟩ := hB
          rw [ht] at hP1
          replace hP := jC0 hP hD [4, 16, 17, 19, 20, 21] [0, 1, 2, 3, 5, 6, 7, 8, 9, 10, 11, 12, 13, 14, 15, 18, 22, 23] rfl hk1 hP1 (w_X2_codeFrame h0 h_numbers h_trees h_samples h_frame h_code h_trees_0 h_trees_1 h_frame_split h_frame_told h_frame_quants h_frame_backs h_frame_rejoined h_frame_scales h_frame_needs h_frame_bits h_trees_0_memoriesA h_trees_0_memoriesB h_trees_0_row h_trees_0_next h_trees_1_memoriesA h_trees_1_memoriesB h_trees_1_row h_trees_1_next h_code_bytes cy c_numbers f25 x42 x47 x48 f31 f32 f33 f34 f35 f36 f37 f38 f39 f43 f44 f49 f50 f51 f52 c_code_size c_code_at c_code_bytes) rfl rfl rfl 24 rfl (by decide +kernel); clear hD; obtain ⟨hP, hD⟩ := hP
          replace hP : va_P (dC, dI) vwCl (w_X2_codeFrame h0 h_numbers h_trees h_samples h_frame h_code h_trees_0 h_trees_1 h_frame_split h_frame_told h_frame_quants h_frame_backs h_frame_rejoined h_frame_scales h_frame_needs h_frame_bits h_trees_0_memoriesA h_trees_0_memoriesB h_trees_0_row h_trees_0_next h_trees_1_memoriesA h_trees_1_memoriesB h_trees_1_row h_trees_1_next h_code_bytes cy c_numbers f25 x42 x47 x48 f31 f32 f33 f34 f35 f36 f37 f38 f39 f43 f44 f49 f50 f51 f52 c_code_size c_code_at c_code_bytes) H1 := hP
          replace hD : va_D A (w_X2_codeFrame h0 h_numbers h_trees h_samples h_frame h_code h_trees_0 h_trees_1 h_frame_split h_frame_told h_frame_quants h_frame_backs h_frame_rejoined h_frame_scales h_frame_needs h_frame_bits h_trees_0_memoriesA h_trees_0_memoriesB h_trees_0_row h_trees_0_next h_trees_1_memoriesA h_trees_1_memoriesB h_trees_1_row h_trees_1_next h_code_bytes cy c_numbers f25 x42 x47 x48 f31 f32 f33 f34 f35 f36 f37 f38 f39 f43 f44 f49 f50 f51 f52 c_code_size c_code_at c_code_bytes) := hD
          clear hPc hDc hFc hP1 hk1 hz1 hvm ht; clear t; clear H locs; obtain ⟨H, hH⟩ : ∃ H, H = H1 := ⟨_, rfl⟩; obtain ⟨locs, hlo⟩ : ∃ L, L = locs1 := ⟨_, rfl⟩; subst hH; subst hlo
          refine W.widen (k := 0) (n := 0) (Nat.le_refl 0) (Nat.le_refl 0) ?_
          refine lv_aload_n hx hb dX2_codeFrame_139 rfl (lv_at hl 2 rfl) ?_
          refine va_get (D := (dC, dI)) (ci := 2) (v := .ref h_code) (C := RX2) (T := TX2) (N := 5) hx hb hts inX2 hown hK hP 0 rfl rfl 4 (by decide) (hts _ (List.mem_cons_of_mem _ mw_108)) (fun _ h9 => h9) rfl dX2_codeFrame_140 ?_
          refine lv_aload_n hx hb dX2_codeFrame_143 rfl (lv_at hl 2 rfl) ?_
          refine va_get (D := (dC, dI)) (ci := 2) (v := .ref h_frame) (C := RX2) (T := TX2) (N := 5) hx hb hts inX2 hown hK hP 0 rfl rfl 3 (by decide) (hts _ (List.mem_cons_of_mem _ mw_106)) (fun _ h9 => h9) rfl dX2_codeFrame_144 ?_
          refine lv_iload_n hx hb dX2_codeFrame_147 rfl (lv_at hl 3 rfl) ?_
          refine lv_aload_n hx hb dX2_codeFrame_148 rfl (lv_at hl 2 rfl) ?_
          refine va_get (D := (dC, dI)) (ci := 2) (v := .ref h_numbers) (C := RX2) (T := TX2) (N := 5) hx hb hts inX2 hown hK hP 0 rfl rfl 0 (by decide) (hts _ (List.mem_cons_of_mem _ mw_109)) (fun _ h9 => h9) rfl dX2_codeFrame_149 ?_
          refine lv_bipush (v := 23) hx hb dX2_codeFrame_152 (by decide) ?_
          refine xiald (k := 23) hx hb hK hP 1 0 rfl rfl (vpL 23 54 rfl) (by decide) dX2_codeFrame_154 ?_
          have hPc := pSub (ws' := (w_X1_write h_code h_code_bytes h_frame h_frame_split h_frame_told h_frame_quants h_frame_backs h_frame_rejoined h_frame_scales h_frame_needs h_frame_bits cy c_code_size c_code_at c_code_bytes x42 x47 x48 f50 f44 f51)) hP [22, 23, 4, 19, 17, 20] rfl
          have hDc := dSub (ws' := (w_X1_write h_code h_code_bytes h_frame h_frame_split h_frame_told h_frame_quants h_frame_backs h_frame_rejoined h_frame_scales h_frame_needs h_frame_bits cy c_code_size c_code_at c_code_bytes x42 x47 x48 f50 f44 f51)) hD [22, 23, 4, 19, 17, 20] (by decide) rfl
          have hFc := va_free (wc := (w_X1_write h_code h_code_bytes h_frame h_frame_split h_frame_told h_frame_quants h_frame_backs h_frame_rejoined h_frame_scales h_frame_needs h_frame_bits cy c_code_size c_code_at c_code_bytes x42 x47 x48 f50 f44 f51)) hD hS hA [22, 23, 4, 19, 17, 20] rfl
          refine va_callv (va_runV (As := [.ref h_frame, .int v1, .int (c_numbers 23)]) (rest := []) ⟨hx, hb, hml, hown, hts⟩ (c_X1_write l dC dI cy h_code h_code_bytes h_frame h_frame_split h_frame_told h_frame_quants h_frame_backs h_frame_rejoined h_frame_scales h_frame_needs h_frame_bits H.size v1 (c_numbers 23) c_code_size c_code_at c_code_bytes x42 x47 x48 f50 f44 f51 _ hw) (cwV 3 hts (goodV mw_343 mw_340 mw_341 mw_342 mw_24) rfl rfl rfl (by decide +kernel) ⟨Nat.le_of_ble_eq_true rfl, Nat.le_of_ble_eq_true rfl⟩) ⟨PX_blind, va_recv hK hPc (ci := 1) (q0 := 0) rfl rfl, PX_pre hPc hK hDc hG⟩ rfl rfl hl.1 rfl (lv_room (Nat.le_of_ble_eq_true rfl)) dX2_codeFrame_155 ⟨Nat.zero_le _, Nat.zero_le _⟩) hS (fun q _ h => hFc q h) hFc ?_; clear hw hS; intro u t H1 locs1 ht hvm hw hB hz1 hk1 hS
          obtain ⟨x54, x55, f56⟩ := u
          try dsimp only at hw
          obtain ⟨hP1, -, -⟩ := hB
          rw [ht] at hP1
          replace hP := jC0 hP hD [22, 23, 4, 19, 17, 20] [0, 1, 2, 3, 5, 6, 7, 8, 9, 10, 11, 12, 13, 14, 15, 16, 18, 21] rfl hk1 hP1 (w_X2_codeFrame h0 h_numbers h_trees h_samples h_frame h_code h_trees_0 h_trees_1 h_frame_split h_frame_told h_frame_quants h_frame_backs h_frame_rejoined h_frame_scales h_frame_needs h_frame_bits h_trees_0_memoriesA h_trees_0_memoriesB h_trees_0_row h_trees_0_next h_trees_1_memoriesA h_trees_1_memoriesB h_trees_1_row h_trees_1_next h_code_bytes cy c_numbers f25 x42 x47 x48 f31 f32 f33 f34 f35 f36 f37 f38 f39 f43 f44 f49 f50 f51 f52 x54 x55 f56) rfl rfl rfl 24 rfl (by decide +kernel); clear hD; obtain ⟨hP, hD⟩ := hP
          replace hP : va_P (dC, dI) vwCl (w_X2_codeFrame h0 h_numbers h_trees h_samples h_frame h_code h_trees_0 h_trees_1 h_frame_split h_frame_told h_frame_quants h_frame_backs h_frame_rejoined h_frame_scales h_frame_needs h_frame_bits h_trees_0_memoriesA h_trees_0_memoriesB h_trees_0_row h_trees_0_next h_trees_1_memoriesA h_trees_1_memoriesB h_trees_1_row h_trees_1_next h_code_bytes cy c_numbers f25 x42 x47 x48 f31 f32 f33 f34 f35 f36 f37 f38 f39 f43 f44 f49 f50 f51 f52 x54 x55 f56) H1 := hP
          replace hD : va_D A (w_X2_codeFrame h0 h_numbers h_trees h_samples h_frame h_code h_trees_0 h_trees_1 h_frame_split h_frame_told h_frame_quants h_frame_backs h_frame_rejoined h_frame_scales h_frame_needs h_frame_bits h_trees_0_memoriesA h_trees_0_memoriesB h_trees_0_row h_trees_0_next h_trees_1_memoriesA h_trees_1_memoriesB h_trees_1_row h_trees_1_next h_code_bytes cy c_numbers f25 x42 x47 x48 f31 f32 f33 f34 f35 f36 f37 f38 f39 f43 f44 f49 f50 f51 f52 x54 x55 f56) := hD
          clear hPc hDc hFc hP1 hk1 hz1 hvm ht; clear t; clear H locs; obtain ⟨H, hH⟩ : ∃ H, H = H1 := ⟨_, rfl⟩; obtain ⟨locs, hlo⟩ : ∃ L, L = locs1 := ⟨_, rfl⟩; subst hH; subst hlo
          refine W.widen (k := 0) (n := 0) (Nat.le_refl 0) (Nat.le_refl 0) ?_
          refine lv_aload_n hx hb dX2_codeFrame_158 rfl (lv_at hl 2 rfl) ?_
          refine va_get (D := (dC, dI)) (ci := 2) (v := .ref h_numbers) (C := RX2) (T := TX2) (N := 5) hx hb hts inX2 hown hK hP 0 rfl rfl 0 (by decide) (hts _ (List.mem_cons_of_mem _ mw_109)) (fun _ h9 => h9) rfl dX2_codeFrame_159 ?_
          refine lv_iconst (v := 1) hx hb dX2_codeFrame_162 (by decide) ?_
          refine lv_dup2_11 hx hb dX2_codeFrame_163 rfl rfl ?_
          refine xiald (k := 1) hx hb hK hP 1 0 rfl rfl (vpL 1 54 rfl) (by decide) dX2_codeFrame_164 ?_
          refine lv_iconst (v := 1) hx hb dX2_codeFrame_165 (by decide) ?_
          refine lv_iadd hx hb dX2_codeFrame_166 ?_
          refine xiast (k := 1) hx hb hK hP hD hS 1 0 rfl rfl (vpL 1 54 rfl) (by decide) dX2_codeFrame_167 ?_; clear hP hD hS; clear H locs; intro f59 e_f59 H locs hP hD hS
          replace hw := hw f59 e_f59
          clear e_f59
          replace hP : va_P (dC, dI) vwCl (w_X2_codeFrame h0 h_numbers h_trees h_samples h_frame h_code h_trees_0 h_trees_1 h_frame_split h_frame_told h_frame_quants h_frame_backs h_frame_rejoined h_frame_scales h_frame_needs h_frame_bits h_trees_0_memoriesA h_trees_0_memoriesB h_trees_0_row h_trees_0_next h_trees_1_memoriesA h_trees_1_memoriesB h_trees_1_row h_trees_1_next h_code_bytes cy f59 f25 x42 x47 x48 f31 f32 f33 f34 f35 f36 f37 f38 f39 f43 f44 f49 f50 f51 f52 x54 x55 f56) H := hP
          replace hD : va_D A (w_X2_codeFrame h0 h_numbers h_trees h_samples h_frame h_code h_trees_0 h_trees_1 h_frame_split h_frame_told h_frame_quants h_frame_backs h_frame_rejoined h_frame_scales h_frame_needs h_frame_bits h_trees_0_memoriesA h_trees_0_memoriesB h_trees_0_row h_trees_0_next h_trees_1_memoriesA h_trees_1_memoriesB h_trees_1_row h_trees_1_next h_code_bytes cy f59 f25 x42 x47 x48 f31 f32 f33 f34 f35 f36 f37 f38 f39 f43 f44 f49 f50 f51 f52 x54 x55 f56) := hD
          refine lv_aload_n hx hb dX2_codeFrame_168 rfl (lv_at hl 2 rfl) ?_
          refine va_get (D := (dC, dI)) (ci := 2) (v := .ref h_numbers) (C := RX2) (T := TX2) (N := 5) hx hb hts inX2 hown hK hP 0 rfl rfl 0 (by decide) (hts _ (List.mem_cons_of_mem _ mw_109)) (fun _ h9 => h9) rfl dX2_codeFrame_169 ?_
          refine lv_bipush (v := 19) hx hb dX2_codeFrame_172 (by decide) ?_
          refine lv_dup2_11 hx hb dX2_codeFrame_174 rfl rfl ?_
          refine xiald (k := 19) hx hb hK hP 1 0 rfl rfl (vpL 19 54 rfl) (by decide) dX2_codeFrame_175 ?_
          refine lv_aload_n hx hb dX2_codeFrame_176 rfl (lv_at hl 2 rfl) ?_
          refine va_get (D := (dC, dI)) (ci := 2) (v := .ref h_code) (C := RX2) (T := TX2) (N := 5) hx hb hts inX2 hown hK hP 0 rfl rfl 4 (by decide) (hts _ (List.mem_cons_of_mem _ mw_108)) (fun _ h9 => h9) rfl dX2_codeFrame_177 ?_
          refine va_get (D := (dC, dI)) (ci := 1) (v := .int x54) (C := RX1) (T := TX1) (N := 3) hx hb hts inX1 hown hK hP 22 rfl rfl 1 (by decide) (hts _ (List.mem_cons_of_mem _ mw_266)) (fun _ h9 => h9) rfl dX2_codeFrame_180 ?_
          refine lv_iadd hx hb dX2_codeFrame_183 ?_
          refine xiast (k := 19) hx hb hK hP hD hS 1 0 rfl rfl (vpL 19 54 rfl) (by decide) dX2_codeFrame_184 ?_; clear hP hD hS; clear H locs; intro f62 e_f62 H locs hP hD hS
          replace hw := hw f62 e_f62
          clear e_f62
          replace hP : va_P (dC, dI) vwCl (w_X2_codeFrame h0 h_numbers h_trees h_samples h_frame h_code h_trees_0 h_trees_1 h_frame_split h_frame_told h_frame_quants h_frame_backs h_frame_rejoined h_frame_scales h_frame_needs h_frame_bits h_trees_0_memoriesA h_trees_0_memoriesB h_trees_0_row h_trees_0_next h_trees_1_memoriesA h_trees_1_memoriesB h_trees_1_row h_trees_1_next h_code_bytes cy f62 f25 x42 x47 x48 f31 f32 f33 f34 f35 f36 f37 f38 f39 f43 f44 f49 f50 f51 f52 x54 x55 f56) H := hP
          replace hD : va_D A (w_X2_codeFrame h0 h_numbers h_trees h_samples h_frame h_code h_trees_0 h_trees_1 h_frame_split h_frame_told h_frame_quants h_frame_backs h_frame_rejoined h_frame_scales h_frame_needs h_frame_bits h_trees_0_memoriesA h_trees_0_memoriesB h_trees_0_row h_trees_0_next h_trees_1_memoriesA h_trees_1_memoriesB h_trees_1_row h_trees_1_next h_code_bytes cy f62 f25 x42 x47 x48 f31 f32 f33 f34 f35 f36 f37 f38 f39 f43 f44 f49 f50 f51 f52 x54 x55 f56) := hD
          subst hQe
          exact W.vret hx hb hr (fun t ht hW => ⟨⟨(f62, f25, x42, x47, x48, f31, f32, f33, f34, f35, f36, f37, f38, f39, f43, f44, f49, f50, f51, f52, x54, x55, f56), rfl, hw, by rw [ht]; exact hP, va_K.moved hW.alike hK, hD⟩, hS.F ht⟩) hS.2.2 dX2_codeFrame_185
        · replace hw := hw.2 c40
          refine lv_aload_n hx hb dX2_codeFrame_48 rfl (lv_at hl 2 rfl) ?_
          refine va_get (D := (dC, dI)) (ci := 2) (v := .ref h_trees) (C := RX2) (T := TX2) (N := 5) hx hb hts inX2 hown hK hP 0 rfl rfl 1 (by decide) (hts _ (List.mem_cons_of_mem _ mw_103)) (fun _ h9 => h9) rfl dX2_codeFrame_49 ?_
          refine lv_iload_n hx hb dX2_codeFrame_52 rfl (lv_at hl 1 rfl) ?_
          refine xald1 hx hb hK hP 3 2 rfl rfl dX2_codeFrame_53 ?_
          refine lv_aload_n hx hb dX2_codeFrame_54 rfl (lv_at hl 2 rfl) ?_
          refine va_get (D := (dC, dI)) (ci := 2) (v := .ref h_samples) (C := RX2) (T := TX2) (N := 5) hx hb hts inX2 hown hK hP 0 rfl rfl 2 (by decide) (hts _ (List.mem_cons_of_mem _ mw_104)) (fun _ h9 => h9) rfl dX2_codeFrame_55 ?_
          refine lv_bipush (v := 8) hx hb dX2_codeFrame_58 (by decide) ?_
          refine lv_iload_n hx hb dX2_codeFrame_60 rfl (lv_at hl 0 rfl) ?_
          refine lv_imul hx hb dX2_codeFrame_61 ?_
          refine lv_aload_n hx hb dX2_codeFrame_62 rfl (lv_at hl 2 rfl) ?_
          refine va_get (D := (dC, dI)) (ci := 2) (v := .ref h_frame) (C := RX2) (T := TX2) (N := 5) hx hb hts inX2 hown hK hP 0 rfl rfl 3 (by decide) (hts _ (List.mem_cons_of_mem _ mw_106)) (fun _ h9 => h9) rfl dX2_codeFrame_63 ?_
          refine va_get (D := (dC, dI)) (ci := 4) (v := .ref h_frame_split) (C := RX4) (T := TX4) (N := 11) hx hb hts inX4 hown hK hP 4 rfl rfl 0 (by decide) (hts _ (List.mem_cons_of_mem _ mw_265)) (fun _ h9 => h9) rfl dX2_codeFrame_66 ?_
          refine lv_bipush (v := 16) hx hb dX2_codeFrame_69 (by decide) ?_
          refine lv_iload_n hx hb dX2_codeFrame_71 rfl (lv_at hl 0 rfl) ?_
          refine lv_imul hx hb dX2_codeFrame_72 ?_
          refine lv_bipush (v := 8) hx hb dX2_codeFrame_73 (by decide) ?_
          refine lv_iload_n hx hb dX2_codeFrame_75 rfl (lv_at hl 1 rfl) ?_
          refine lv_imul hx hb dX2_codeFrame_76 ?_
          refine lv_iadd hx hb dX2_codeFrame_77 ?_
          have hPc := pSub (ws' := (w_X9_splitBlock h_trees_1 h_trees_1_memoriesA h_trees_1_memoriesB h_trees_1_row h_trees_1_next h_samples h_frame_split cy 32 64 f25 f36 f37 f38 f39 f35)) hP [11, 2, 12, 13, 14, 15, 10] rfl
          have hDc := dSub (ws' := (w_X9_splitBlock h_trees_1 h_trees_1_memoriesA h_trees_1_memoriesB h_trees_1_row h_trees_1_next h_samples h_frame_split cy 32 64 f25 f36 f37 f38 f39 f35)) hD [11, 2, 12, 13, 14, 15, 10] (by decide) rfl
          have hFc := va_free (wc := (w_X9_splitBlock h_trees_1 h_trees_1_memoriesA h_trees_1_memoriesB h_trees_1_row h_trees_1_next h_samples h_frame_split cy 32 64 f25 f36 f37 f38 f39 f35)) hD hS hA [11, 2, 12, 13, 14, 15, 10] rfl
          refine va_callv (va_runV (As := [.ref h_samples, .int ((8 : Int32) * x30), .ref h_frame_split, .int (((16 : Int32) * x30) + ((8 : Int32) * (1 : Int32)))]) (rest := []) ⟨hx, hb, hml, hown, hts⟩ (c_X9_splitBlock l dC dI cy h_trees_1 h_trees_1_memoriesA h_trees_1_memoriesB h_trees_1_row h_trees_1_next h_samples h_frame_split 32 64 H.size ((8 : Int32) * x30) (((16 : Int32) * x30) + ((8 : Int32) * (1 : Int32))) f25 f36 f37 f38 f39 f35 _ hw) (cwV 4 hts (goodV mw_280 mw_277 mw_278 mw_279 mw_28) rfl rfl rfl (by decide +kernel) ⟨Nat.le_of_ble_eq_true rfl, Nat.le_of_ble_eq_true rfl⟩) ⟨PX_blind, va_recv hK hPc (ci := 9) (q0 := 0) rfl rfl, PX_pre hPc hK hDc hG⟩ rfl rfl hl.1 rfl (lv_room (Nat.le_of_ble_eq_true rfl)) dX2_codeFrame_78 ⟨Nat.zero_le _, Nat.zero_le _⟩) hS (fun q _ h => hFc q h) hFc ?_; clear hw hS; intro u t H1 locs1 ht hvm hw hB hz1 hk1 hS
          obtain ⟨f63, f64, f65, f66, f67⟩ := u
          try dsimp only at hw
          obtain ⟨hP1, -, -⟩ := hB
          rw [ht] at hP1
          replace hP := jC0 hP hD [11, 2, 12, 13, 14, 15, 10] [0, 1, 3, 4, 5, 6, 7, 8, 9, 16, 17, 18, 19, 20, 21, 22, 23] rfl hk1 hP1 (w_X2_codeFrame h0 h_numbers h_trees h_samples h_frame h_code h_trees_0 h_trees_1 h_frame_split h_frame_told h_frame_quants h_frame_backs h_frame_rejoined h_frame_scales h_frame_needs h_frame_bits h_trees_0_memoriesA h_trees_0_memoriesB h_trees_0_row h_trees_0_next h_trees_1_memoriesA h_trees_1_memoriesB h_trees_1_row h_trees_1_next h_code_bytes cy c_numbers f25 c_frame_twins c_frame_method c_frame_pool f31 f32 f33 f34 f67 f63 f64 f65 f66 c_frame_told c_frame_scales c_frame_needs c_frame_bits c_frame_quants c_frame_backs c_code_size c_code_at c_code_bytes) rfl rfl rfl 24 rfl (by decide +kernel); clear hD; obtain ⟨hP, hD⟩ := hP
          replace hP : va_P (dC, dI) vwCl (w_X2_codeFrame h0 h_numbers h_trees h_samples h_frame h_code h_trees_0 h_trees_1 h_frame_split h_frame_told h_frame_quants h_frame_backs h_frame_rejoined h_frame_scales h_frame_needs h_frame_bits h_trees_0_memoriesA h_trees_0_memoriesB h_trees_0_row h_trees_0_next h_trees_1_memoriesA h_trees_1_memoriesB h_trees_1_row h_trees_1_next h_code_bytes cy c_numbers f25 c_frame_twins c_frame_method c_frame_pool f31 f32 f33 f34 f67 f63 f64 f65 f66 c_frame_told c_frame_scales c_frame_needs c_frame_bits c_frame_quants c_frame_backs c_code_size c_code_at c_code_bytes) H1 := hP
          replace hD : va_D A (w_X2_codeFrame h0 h_numbers h_trees h_samples h_frame h_code h_trees_0 h_trees_1 h_frame_split h_frame_told h_frame_quants h_frame_backs h_frame_rejoined h_frame_scales h_frame_needs h_frame_bits h_trees_0_memoriesA h_trees_0_memoriesB h_trees_0_row h_trees_0_next h_trees_1_memoriesA h_trees_1_memoriesB h_trees_1_row h_trees_1_next h_code_bytes cy c_numbers f25 c_frame_twins c_frame_method c_frame_pool f31 f32 f33 f34 f67 f63 f64 f65 f66 c_frame_told c_frame_scales c_frame_needs c_frame_bits c_frame_quants c_frame_backs c_code_size c_code_at c_code_bytes) := hD
          clear hPc hDc hFc hP1 hk1 hz1 hvm ht; clear t; clear H locs; obtain ⟨H, hH⟩ : ∃ H, H = H1 := ⟨_, rfl⟩; obtain ⟨locs, hlo⟩ : ∃ L, L = locs1 := ⟨_, rfl⟩; subst hH; subst hlo
          refine W.widen (k := 0) (n := 0) (Nat.le_refl 0) (Nat.le_refl 0) ?_
          refine lv_iinc (v := x30 + 1) (lv' := [(3, .int (x30 + 1)), (2, .int (1 : Int32)), (0, .ref h0), (1, .int v1)]) hx hb dX2_codeFrame_81 hl (k := 0) rfl rfl (by decide) rfl ?_; clear hl; clear ls; intro ls hl
          refine lv_goto (tgt := 43) hx hb dX2_codeFrame_84 (by decide) ?_
          exact ih29 (x30 + 1) f31 f32 f33 f34 f67 f63 f64 f65 f66 hw H locs ls hP hD hS (lv_sub hl [0, 1, 2, 3] rfl)
      · replace hw := hw.2 c26
        refine lv_aload_n hx hb dX2_codeFrame_15 rfl (lv_at hl 2 rfl) ?_
        refine va_get (D := (dC, dI)) (ci := 2) (v := .ref h_samples) (C := RX2) (T := TX2) (N := 5) hx hb hts inX2 hown hK hP 0 rfl rfl 2 (by decide) (hts _ (List.mem_cons_of_mem _ mw_104)) (fun _ h9 => h9) rfl dX2_codeFrame_16 ?_
        refine lv_iload_n hx hb dX2_codeFrame_19 rfl (lv_at hl 0 rfl) ?_
        refine lv_aload_n hx hb dX2_codeFrame_20 rfl (lv_at hl 2 rfl) ?_
        refine va_get (D := (dC, dI)) (ci := 2) (v := .ref h_numbers) (C := RX2) (T := TX2) (N := 5) hx hb hts inX2 hown hK hP 0 rfl rfl 0 (by decide) (hts _ (List.mem_cons_of_mem _ mw_109)) (fun _ h9 => h9) rfl dX2_codeFrame_21 ?_
        refine lv_iload_n hx hb dX2_codeFrame_24 rfl (lv_at hl 1 rfl) ?_
        refine lv_bipush (v := 32) hx hb dX2_codeFrame_25 (by decide) ?_
        refine lv_iload_n hx hb dX2_codeFrame_27 rfl (lv_at hl 3 rfl) ?_
        refine lv_imul hx hb dX2_codeFrame_28 ?_
        refine lv_iload_n hx hb dX2_codeFrame_29 rfl (lv_at hl 0 rfl) ?_
        refine lv_iadd hx hb dX2_codeFrame_30 ?_
        have hPc := pSub (ws' := (w_X11_sampleOf h_numbers cy 54 c_numbers)) hP [1] rfl
        have hDc := dSub (ws' := (w_X11_sampleOf h_numbers cy 54 c_numbers)) hD [1] (by decide) rfl
        have hFc := va_free (wc := (w_X11_sampleOf h_numbers cy 54 c_numbers)) hD hS hA [1] rfl
        refine va_calli (va_runSN (As := [.ref h_numbers, .int (1 : Int32), .int (((32 : Int32) * v1) + x24)]) (rest := [.int x24, .ref h_samples]) ⟨hx, hb, hml, hown, hts⟩ (c_X11_sampleOf l dC dI cy h_numbers 54 H.size (1 : Int32) (((32 : Int32) * v1) + x24) c_numbers _ hw) ⟨va_cnB 3 hts (goodG mw_268) rfl rfl rfl (hG.1 ("HeadsetBands$Coder", 52, ⟨"HeadsetBands", "sampleOf", "([III)I"⟩, "HeadsetBands") (by decide +kernel)) (hts _ (List.mem_cons_of_mem _ mw_2)) (by decide +kernel) ⟨Nat.le_of_ble_eq_true rfl, Nat.le_of_ble_eq_true rfl⟩, (hts _ (List.mem_cons_of_mem _ mw_267)), trivial⟩ ⟨PX_blind, PX_pre hPc hK hDc hG⟩ rfl rfl hl.1 rfl (lv_room (Nat.le_of_ble_eq_true rfl)) dX2_codeFrame_31 ⟨Nat.zero_le _, Nat.zero_le _⟩) hS (fun q _ h => hFc q h) hFc ?_; clear hw hS; intro r68 _ t H1 locs1 ht hvm hw hB hz1 hk1 hS
        obtain ⟨hP1, -, -⟩ := hB
        rw [ht] at hP1
        replace hP := jC0 hP hD [1] [0, 2, 3, 4, 5, 6, 7, 8, 9, 10, 11, 12, 13, 14, 15, 16, 17, 18, 19, 20, 21, 22, 23] rfl hk1 hP1 (w_X2_codeFrame h0 h_numbers h_trees h_samples h_frame h_code h_trees_0 h_trees_1 h_frame_split h_frame_told h_frame_quants h_frame_backs h_frame_rejoined h_frame_scales h_frame_needs h_frame_bits h_trees_0_memoriesA h_trees_0_memoriesB h_trees_0_row h_trees_0_next h_trees_1_memoriesA h_trees_1_memoriesB h_trees_1_row h_trees_1_next h_code_bytes cy c_numbers f25 c_frame_twins c_frame_method c_frame_pool f11 f12 f13 f14 f15 f16 f17 f18 f19 c_frame_told c_frame_scales c_frame_needs c_frame_bits c_frame_quants c_frame_backs c_code_size c_code_at c_code_bytes) rfl rfl rfl 24 rfl (by decide +kernel); clear hD; obtain ⟨hP, hD⟩ := hP
        replace hP : va_P (dC, dI) vwCl (w_X2_codeFrame h0 h_numbers h_trees h_samples h_frame h_code h_trees_0 h_trees_1 h_frame_split h_frame_told h_frame_quants h_frame_backs h_frame_rejoined h_frame_scales h_frame_needs h_frame_bits h_trees_0_memoriesA h_trees_0_memoriesB h_trees_0_row h_trees_0_next h_trees_1_memoriesA h_trees_1_memoriesB h_trees_1_row h_trees_1_next h_code_bytes cy c_numbers f25 c_frame_twins c_frame_method c_frame_pool f11 f12 f13 f14 f15 f16 f17 f18 f19 c_frame_told c_frame_scales c_frame_needs c_frame_bits c_frame_quants c_frame_backs c_code_size c_code_at c_code_bytes) H1 := hP
        replace hD : va_D A (w_X2_codeFrame h0 h_numbers h_trees h_samples h_frame h_code h_trees_0 h_trees_1 h_frame_split h_frame_told h_frame_quants h_frame_backs h_frame_rejoined h_frame_scales h_frame_needs h_frame_bits h_trees_0_memoriesA h_trees_0_memoriesB h_trees_0_row h_trees_0_next h_trees_1_memoriesA h_trees_1_memoriesB h_trees_1_row h_trees_1_next h_code_bytes cy c_numbers f25 c_frame_twins c_frame_method c_frame_pool f11 f12 f13 f14 f15 f16 f17 f18 f19 c_frame_told c_frame_scales c_frame_needs c_frame_bits c_frame_quants c_frame_backs c_code_size c_code_at c_code_bytes) := hD
        clear hPc hDc hFc hP1 hk1 hz1 hvm ht; clear t; clear H locs; obtain ⟨H, hH⟩ : ∃ H, H = H1 := ⟨_, rfl⟩; obtain ⟨locs, hlo⟩ : ∃ L, L = locs1 := ⟨_, rfl⟩; subst hH; subst hlo
        refine W.widen (k := 0) (n := 0) (Nat.le_refl 0) (Nat.le_refl 0) ?_
        obtain ⟨h69, hw⟩ := hw
        refine xiast (k := x24.toNatClampNeg) hx hb hK hP hD hS 2 0 rfl rfl h69 rfl dX2_codeFrame_34 ?_; clear hP hD hS; clear H locs; intro f70 e_f70 H locs hP hD hS
        replace hw := hw f70 e_f70
        clear e_f70
        replace hP : va_P (dC, dI) vwCl (w_X2_codeFrame h0 h_numbers h_trees h_samples h_frame h_code h_trees_0 h_trees_1 h_frame_split h_frame_told h_frame_quants h_frame_backs h_frame_rejoined h_frame_scales h_frame_needs h_frame_bits h_trees_0_memoriesA h_trees_0_memoriesB h_trees_0_row h_trees_0_next h_trees_1_memoriesA h_trees_1_memoriesB h_trees_1_row h_trees_1_next h_code_bytes cy c_numbers f70 c_frame_twins c_frame_method c_frame_pool f11 f12 f13 f14 f15 f16 f17 f18 f19 c_frame_told c_frame_scales c_frame_needs c_frame_bits c_frame_quants c_frame_backs c_code_size c_code_at c_code_bytes) H := hP
        replace hD : va_D A (w_X2_codeFrame h0 h_numbers h_trees h_samples h_frame h_code h_trees_0 h_trees_1 h_frame_split h_frame_told h_frame_quants h_frame_backs h_frame_rejoined h_frame_scales h_frame_needs h_frame_bits h_trees_0_memoriesA h_trees_0_memoriesB h_trees_0_row h_trees_0_next h_trees_1_memoriesA h_trees_1_memoriesB h_trees_1_row h_trees_1_next h_code_bytes cy c_numbers f70 c_frame_twins c_frame_method c_frame_pool f11 f12 f13 f14 f15 f16 f17 f18 f19 c_frame_told c_frame_scales c_frame_needs c_frame_bits c_frame_quants c_frame_backs c_code_size c_code_at c_code_bytes) := hD
        refine lv_iinc (v := x24 + 1) (lv' := [(3, .int (x24 + 1)), (2, .int (1 : Int32)), (0, .ref h0), (1, .int v1)]) hx hb dX2_codeFrame_35 hl (k := 0) rfl rfl (by decide) rfl ?_; clear hl; clear ls; intro ls hl
        refine lv_goto (tgt := 9) hx hb dX2_codeFrame_38 (by decide) ?_
        exact ih23 (x24 + 1) f70 hw H locs ls hP hD hS (lv_sub hl [0, 1, 2, 3] rfl)
    · replace hw := hw.2 c20
      refine lv_aload_n hx hb dX2_codeFrame_48 rfl (lv_at hl 2 rfl) ?_
      refine va_get (D := (dC, dI)) (ci := 2) (v := .ref h_trees) (C := RX2) (T := TX2) (N := 5) hx hb hts inX2 hown hK hP 0 rfl rfl 1 (by decide) (hts _ (List.mem_cons_of_mem _ mw_103)) (fun _ h9 => h9) rfl dX2_codeFrame_49 ?_
      refine lv_iload_n hx hb dX2_codeFrame_52 rfl (lv_at hl 1 rfl) ?_
      refine xald0 hx hb hK hP 3 2 rfl rfl dX2_codeFrame_53 ?_
      refine lv_aload_n hx hb dX2_codeFrame_54 rfl (lv_at hl 2 rfl) ?_
      refine va_get (D := (dC, dI)) (ci := 2) (v := .ref h_samples) (C := RX2) (T := TX2) (N := 5) hx hb hts inX2 hown hK hP 0 rfl rfl 2 (by decide) (hts _ (List.mem_cons_of_mem _ mw_104)) (fun _ h9 => h9) rfl dX2_codeFrame_55 ?_
      refine lv_bipush (v := 8) hx hb dX2_codeFrame_58 (by decide) ?_
      refine lv_iload_n hx hb dX2_codeFrame_60 rfl (lv_at hl 0 rfl) ?_
      refine lv_imul hx hb dX2_codeFrame_61 ?_
      refine lv_aload_n hx hb dX2_codeFrame_62 rfl (lv_at hl 2 rfl) ?_
      refine va_get (D := (dC, dI)) (ci := 2) (v := .ref h_frame) (C := RX2) (T := TX2) (N := 5) hx hb hts inX2 hown hK hP 0 rfl rfl 3 (by decide) (hts _ (List.mem_cons_of_mem _ mw_106)) (fun _ h9 => h9) rfl dX2_codeFrame_63 ?_
      refine va_get (D := (dC, dI)) (ci := 4) (v := .ref h_frame_split) (C := RX4) (T := TX4) (N := 11) hx hb hts inX4 hown hK hP 4 rfl rfl 0 (by decide) (hts _ (List.mem_cons_of_mem _ mw_265)) (fun _ h9 => h9) rfl dX2_codeFrame_66 ?_
      refine lv_bipush (v := 16) hx hb dX2_codeFrame_69 (by decide) ?_
      refine lv_iload_n hx hb dX2_codeFrame_71 rfl (lv_at hl 0 rfl) ?_
      refine lv_imul hx hb dX2_codeFrame_72 ?_
      refine lv_bipush (v := 8) hx hb dX2_codeFrame_73 (by decide) ?_
      refine lv_iload_n hx hb dX2_codeFrame_75 rfl (lv_at hl 1 rfl) ?_
      refine lv_imul hx hb dX2_codeFrame_76 ?_
      refine lv_iadd hx hb dX2_codeFrame_77 ?_
      have hPc := pSub (ws' := (w_X9_splitBlock h_trees_0 h_trees_0_memoriesA h_trees_0_memoriesB h_trees_0_row h_trees_0_next h_samples h_frame_split cy 32 64 f5 f11 f12 f13 f14 f15)) hP [5, 2, 6, 7, 8, 9, 10] rfl
      have hDc := dSub (ws' := (w_X9_splitBlock h_trees_0 h_trees_0_memoriesA h_trees_0_memoriesB h_trees_0_row h_trees_0_next h_samples h_frame_split cy 32 64 f5 f11 f12 f13 f14 f15)) hD [5, 2, 6, 7, 8, 9, 10] (by decide) rfl
      have hFc := va_free (wc := (w_X9_splitBlock h_trees_0 h_trees_0_memoriesA h_trees_0_memoriesB h_trees_0_row h_trees_0_next h_samples h_frame_split cy 32 64 f5 f11 f12 f13 f14 f15)) hD hS hA [5, 2, 6, 7, 8, 9, 10] rfl
      refine va_callv (va_runV (As := [.ref h_samples, .int ((8 : Int32) * x10), .ref h_frame_split, .int (((16 : Int32) * x10) + ((8 : Int32) * (0 : Int32)))]) (rest := []) ⟨hx, hb, hml, hown, hts⟩ (c_X9_splitBlock l dC dI cy h_trees_0 h_trees_0_memoriesA h_trees_0_memoriesB h_trees_0_row h_trees_0_next h_samples h_frame_split 32 64 H.size ((8 : Int32) * x10) (((16 : Int32) * x10) + ((8 : Int32) * (0 : Int32))) f5 f11 f12 f13 f14 f15 _ hw) (cwV 4 hts (goodV mw_280 mw_277 mw_278 mw_279 mw_28) rfl rfl rfl (by decide +kernel) ⟨Nat.le_of_ble_eq_true rfl, Nat.le_of_ble_eq_true rfl⟩) ⟨PX_blind, va_recv hK hPc (ci := 9) (q0 := 0) rfl rfl, PX_pre hPc hK hDc hG⟩ rfl rfl hl.1 rfl (lv_room (Nat.le_of_ble_eq_true rfl)) dX2_codeFrame_78 ⟨Nat.zero_le _, Nat.zero_le _⟩) hS (fun q _ h => hFc q h) hFc ?_; clear hw hS; intro u t H1 locs1 ht hvm hw hB hz1 hk1 hS
      obtain ⟨f71, f72, f73, f74, f75⟩ := u
      try dsimp only at hw
      obtain ⟨hP1, -, -⟩ := hB
      rw [ht] at hP1
      replace hP := jC0 hP hD [5, 2, 6, 7, 8, 9, 10] [0, 1, 3, 4, 11, 12, 13, 14, 15, 16, 17, 18, 19, 20, 21, 22, 23] rfl hk1 hP1 (w_X2_codeFrame h0 h_numbers h_trees h_samples h_frame h_code h_trees_0 h_trees_1 h_frame_split h_frame_told h_frame_quants h_frame_backs h_frame_rejoined h_frame_scales h_frame_needs h_frame_bits h_trees_0_memoriesA h_trees_0_memoriesB h_trees_0_row h_trees_0_next h_trees_1_memoriesA h_trees_1_memoriesB h_trees_1_row h_trees_1_next h_code_bytes cy c_numbers f5 c_frame_twins c_frame_method c_frame_pool f71 f72 f73 f74 f75 f16 f17 f18 f19 c_frame_told c_frame_scales c_frame_needs c_frame_bits c_frame_quants c_frame_backs c_code_size c_code_at c_code_bytes) rfl rfl rfl 24 rfl (by decide +kernel); clear hD; obtain ⟨hP, hD⟩ := hP
      replace hP : va_P (dC, dI) vwCl (w_X2_codeFrame h0 h_numbers h_trees h_samples h_frame h_code h_trees_0 h_trees_1 h_frame_split h_frame_told h_frame_quants h_frame_backs h_frame_rejoined h_frame_scales h_frame_needs h_frame_bits h_trees_0_memoriesA h_trees_0_memoriesB h_trees_0_row h_trees_0_next h_trees_1_memoriesA h_trees_1_memoriesB h_trees_1_row h_trees_1_next h_code_bytes cy c_numbers f5 c_frame_twins c_frame_method c_frame_pool f71 f72 f73 f74 f75 f16 f17 f18 f19 c_frame_told c_frame_scales c_frame_needs c_frame_bits c_frame_quants c_frame_backs c_code_size c_code_at c_code_bytes) H1 := hP
      replace hD : va_D A (w_X2_codeFrame h0 h_numbers h_trees h_samples h_frame h_code h_trees_0 h_trees_1 h_frame_split h_frame_told h_frame_quants h_frame_backs h_frame_rejoined h_frame_scales h_frame_needs h_frame_bits h_trees_0_memoriesA h_trees_0_memoriesB h_trees_0_row h_trees_0_next h_trees_1_memoriesA h_trees_1_memoriesB h_trees_1_row h_trees_1_next h_code_bytes cy c_numbers f5 c_frame_twins c_frame_method c_frame_pool f71 f72 f73 f74 f75 f16 f17 f18 f19 c_frame_told c_frame_scales c_frame_needs c_frame_bits c_frame_quants c_frame_backs c_code_size c_code_at c_code_bytes) := hD
      clear hPc hDc hFc hP1 hk1 hz1 hvm ht; clear t; clear H locs; obtain ⟨H, hH⟩ : ∃ H, H = H1 := ⟨_, rfl⟩; obtain ⟨locs, hlo⟩ : ∃ L, L = locs1 := ⟨_, rfl⟩; subst hH; subst hlo
      refine W.widen (k := 0) (n := 0) (Nat.le_refl 0) (Nat.le_refl 0) ?_
      refine lv_iinc (v := x10 + 1) (lv' := [(3, .int (x10 + 1)), (2, .int (0 : Int32)), (0, .ref h0), (1, .int v1)]) hx hb dX2_codeFrame_81 hl (k := 0) rfl rfl (by decide) rfl ?_; clear hl; clear ls; intro ls hl
      refine lv_goto (tgt := 43) hx hb dX2_codeFrame_84 (by decide) ?_
      exact ih9 (x10 + 1) f71 f72 f73 f74 f75 f16 f17 f18 f19 hw H locs ls hP hD hS (lv_sub hl [0, 1, 2, 3] rfl)
  · replace hw := hw.2 c6
    refine lv_aload_n hx hb dX2_codeFrame_15 rfl (lv_at hl 2 rfl) ?_
    refine va_get (D := (dC, dI)) (ci := 2) (v := .ref h_samples) (C := RX2) (T := TX2) (N := 5) hx hb hts inX2 hown hK hP 0 rfl rfl 2 (by decide) (hts _ (List.mem_cons_of_mem _ mw_104)) (fun _ h9 => h9) rfl dX2_codeFrame_16 ?_
    refine lv_iload_n hx hb dX2_codeFrame_19 rfl (lv_at hl 0 rfl) ?_
    refine lv_aload_n hx hb dX2_codeFrame_20 rfl (lv_at hl 2 rfl) ?_
    refine va_get (D := (dC, dI)) (ci := 2) (v := .ref h_numbers) (C := RX2) (T := TX2) (N := 5) hx hb hts inX2 hown hK hP 0 rfl rfl 0 (by decide) (hts _ (List.mem_cons_of_mem _ mw_109)) (fun _ h9 => h9) rfl dX2_codeFrame_21 ?_
    refine lv_iload_n hx hb dX2_codeFrame_24 rfl (lv_at hl 1 rfl) ?_
    refine lv_bipush (v := 32) hx hb dX2_codeFrame_25 (by decide) ?_
    refine lv_iload_n hx hb dX2_codeFrame_27 rfl (lv_at hl 3 rfl) ?_
    refine lv_imul hx hb dX2_codeFrame_28 ?_
    refine lv_iload_n hx hb dX2_codeFrame_29 rfl (lv_at hl 0 rfl) ?_
    refine lv_iadd hx hb dX2_codeFrame_30 ?_
    have hPc := pSub (ws' := (w_X11_sampleOf h_numbers cy 54 c_numbers)) hP [1] rfl
    have hDc := dSub (ws' := (w_X11_sampleOf h_numbers cy 54 c_numbers)) hD [1] (by decide) rfl
    have hFc := va_free (wc := (w_X11_sampleOf h_numbers cy 54 c_numbers)) hD hS hA [1] rfl
    refine va_calli (va_runSN (As := [.ref h_numbers, .int (0 : Int32), .int (((32 : Int32) * v1) + x4)]) (rest := [.int x4, .ref h_samples]) ⟨hx, hb, hml, hown, hts⟩ (c_X11_sampleOf l dC dI cy h_numbers 54 H.size (0 : Int32) (((32 : Int32) * v1) + x4) c_numbers _ hw) ⟨va_cnB 3 hts (goodG mw_268) rfl rfl rfl (hG.1 ("HeadsetBands$Coder", 52, ⟨"HeadsetBands", "sampleOf", "([III)I"⟩, "HeadsetBands") (by decide +kernel)) (hts _ (List.mem_cons_of_mem _ mw_2)) (by decide +kernel) ⟨Nat.le_of_ble_eq_true rfl, Nat.le_of_ble_eq_true rfl⟩, (hts _ (List.mem_cons_of_mem _ mw_267)), trivial⟩ ⟨PX_blind, PX_pre hPc hK hDc hG⟩ rfl rfl hl.1 rfl (lv_room (Nat.le_of_ble_eq_true rfl)) dX2_codeFrame_31 ⟨Nat.zero_le _, Nat.zero_le _⟩) hS (fun q _ h => hFc q h) hFc ?_; clear hw hS; intro r76 _ t H1 locs1 ht hvm hw hB hz1 hk1 hS
    obtain ⟨hP1, -, -⟩ := hB
    rw [ht] at hP1
    replace hP := jC0 hP hD [1] [0, 2, 3, 4, 5, 6, 7, 8, 9, 10, 11, 12, 13, 14, 15, 16, 17, 18, 19, 20, 21, 22, 23] rfl hk1 hP1 (w_X2_codeFrame h0 h_numbers h_trees h_samples h_frame h_code h_trees_0 h_trees_1 h_frame_split h_frame_told h_frame_quants h_frame_backs h_frame_rejoined h_frame_scales h_frame_needs h_frame_bits h_trees_0_memoriesA h_trees_0_memoriesB h_trees_0_row h_trees_0_next h_trees_1_memoriesA h_trees_1_memoriesB h_trees_1_row h_trees_1_next h_code_bytes cy c_numbers f5 c_frame_twins c_frame_method c_frame_pool c_trees_0_row c_trees_0_memoriesA c_trees_0_memoriesB c_trees_0_next c_frame_split c_trees_1_row c_trees_1_memoriesA c_trees_1_memoriesB c_trees_1_next c_frame_told c_frame_scales c_frame_needs c_frame_bits c_frame_quants c_frame_backs c_code_size c_code_at c_code_bytes) rfl rfl rfl 24 rfl (by decide +kernel); clear hD; obtain ⟨hP, hD⟩ := hP
    replace hP : va_P (dC, dI) vwCl (w_X2_codeFrame h0 h_numbers h_trees h_samples h_frame h_code h_trees_0 h_trees_1 h_frame_split h_frame_told h_frame_quants h_frame_backs h_frame_rejoined h_frame_scales h_frame_needs h_frame_bits h_trees_0_memoriesA h_trees_0_memoriesB h_trees_0_row h_trees_0_next h_trees_1_memoriesA h_trees_1_memoriesB h_trees_1_row h_trees_1_next h_code_bytes cy c_numbers f5 c_frame_twins c_frame_method c_frame_pool c_trees_0_row c_trees_0_memoriesA c_trees_0_memoriesB c_trees_0_next c_frame_split c_trees_1_row c_trees_1_memoriesA c_trees_1_memoriesB c_trees_1_next c_frame_told c_frame_scales c_frame_needs c_frame_bits c_frame_quants c_frame_backs c_code_size c_code_at c_code_bytes) H1 := hP
    replace hD : va_D A (w_X2_codeFrame h0 h_numbers h_trees h_samples h_frame h_code h_trees_0 h_trees_1 h_frame_split h_frame_told h_frame_quants h_frame_backs h_frame_rejoined h_frame_scales h_frame_needs h_frame_bits h_trees_0_memoriesA h_trees_0_memoriesB h_trees_0_row h_trees_0_next h_trees_1_memoriesA h_trees_1_memoriesB h_trees_1_row h_trees_1_next h_code_bytes cy c_numbers f5 c_frame_twins c_frame_method c_frame_pool c_trees_0_row c_trees_0_memoriesA c_trees_0_memoriesB c_trees_0_next c_frame_split c_trees_1_row c_trees_1_memoriesA c_trees_1_memoriesB c_trees_1_next c_frame_told c_frame_scales c_frame_needs c_frame_bits c_frame_quants c_frame_backs c_code_size c_code_at c_code_bytes) := hD
    clear hPc hDc hFc hP1 hk1 hz1 hvm ht; clear t; clear H locs; obtain ⟨H, hH⟩ : ∃ H, H = H1 := ⟨_, rfl⟩; obtain ⟨locs, hlo⟩ : ∃ L, L = locs1 := ⟨_, rfl⟩; subst hH; subst hlo
    refine W.widen (k := 0) (n := 0) (Nat.le_refl 0) (Nat.le_refl 0) ?_
    obtain ⟨h77, hw⟩ := hw
    refine xiast (k := x4.toNatClampNeg) hx hb hK hP hD hS 2 0 rfl rfl h77 rfl dX2_codeFrame_34 ?_; clear hP hD hS; clear H locs; intro f78 e_f78 H locs hP hD hS
    replace hw := hw f78 e_f78
    clear e_f78
    replace hP : va_P (dC, dI) vwCl (w_X2_codeFrame h0 h_numbers h_trees h_samples h_frame h_code h_trees_0 h_trees_1 h_frame_split h_frame_told h_frame_quants h_frame_backs h_frame_rejoined h_frame_scales h_frame_needs h_frame_bits h_trees_0_memoriesA h_trees_0_memoriesB h_trees_0_row h_trees_0_next h_trees_1_memoriesA h_trees_1_memoriesB h_trees_1_row h_trees_1_next h_code_bytes cy c_numbers f78 c_frame_twins c_frame_method c_frame_pool c_trees_0_row c_trees_0_memoriesA c_trees_0_memoriesB c_trees_0_next c_frame_split c_trees_1_row c_trees_1_memoriesA c_trees_1_memoriesB c_trees_1_next c_frame_told c_frame_scales c_frame_needs c_frame_bits c_frame_quants c_frame_backs c_code_size c_code_at c_code_bytes) H := hP
    replace hD : va_D A (w_X2_codeFrame h0 h_numbers h_trees h_samples h_frame h_code h_trees_0 h_trees_1 h_frame_split h_frame_told h_frame_quants h_frame_backs h_frame_rejoined h_frame_scales h_frame_needs h_frame_bits h_trees_0_memoriesA h_trees_0_memoriesB h_trees_0_row h_trees_0_next h_trees_1_memoriesA h_trees_1_memoriesB h_trees_1_row h_trees_1_next h_code_bytes cy c_numbers f78 c_frame_twins c_frame_method c_frame_pool c_trees_0_row c_trees_0_memoriesA c_trees_0_memoriesB c_trees_0_next c_frame_split c_trees_1_row c_trees_1_memoriesA c_trees_1_memoriesB c_trees_1_next c_frame_told c_frame_scales c_frame_needs c_frame_bits c_frame_quants c_frame_backs c_code_size c_code_at c_code_bytes) := hD
    refine lv_iinc (v := x4 + 1) (lv' := [(3, .int (x4 + 1)), (2, .int (0 : Int32)), (0, .ref h0), (1, .int v1)]) hx hb dX2_codeFrame_35 hl (k := 0) rfl rfl (by decide) rfl ?_; clear hl; clear ls; intro ls hl
    refine lv_goto (tgt := 9) hx hb dX2_codeFrame_38 (by decide) ?_
    exact ih3 (x4 + 1) f78 hw H locs ls hP hD hS (lv_sub hl [0, 1, 2, 3] rfl)
set_option maxHeartbeats 4000000 in
set_option maxRecDepth 100000 in
theorem c_X2_steer (l : Launch) (dC : Nat → ClassId) (dI : Nat → Nat → Nat) (cy : Nat → ClassId) (h0 h_numbers h_trees h_samples h_frame h_code : Nat) (sz : Nat) (c_numbers : Nat → Int32) (post : (Nat → Int32) → Prop) (hw : wp_X2_steer c_numbers post) : Met l yX2_steer wsX2_steer ({ frames := 1, cells := 0, slots := 0, locals := 30 }) (PX dC dI cy [.ref h0] sz (w_X2_steer h0 h_numbers h_trees h_samples h_frame h_code cy c_numbers)) (va_Qv (fun (u : (Nat → Int32)) => post u) (QX dC dI cy (va_A (w_X2_steer h0 h_numbers h_trees h_samples h_frame h_code cy c_numbers) sz) (fun (u : (Nat → Int32)) => w_X2_steer h0 h_numbers h_trees h_samples h_frame h_code cy u)) (va_A (w_X2_steer h0 h_numbers h_trees h_samples h_frame h_code cy c_numbers) sz)) 0 0 (va_A (w_X2_steer h0 h_numbers h_trees h_samples h_frame h_code cy c_numbers) sz) := by
  refine Met.ofW (cc := cX2_steer) (maxL := 3) (ret := none) (by decide) rfl ?_
  intro p e s m args below meth c s₁ B hml hv
  obtain ⟨rfl, hsz, hP, hK, hD0, hG⟩ := hv
  have hx := B.exec
  have hb := B.bytes
  have hr := B.returns
  have hts := atoms_spec (ws := wsX2_steer) B.pre
  have hown : s.vm.findClass RX2 = some m.cls := findClass_of_methodNamed B.named
  have hlocks := B.notSynchronized
  subst hsz
  have hD := hD0.self (sz := s.heap.size)
  generalize hAe : va_A (w_X2_steer h0 h_numbers h_trees h_samples h_frame h_code cy c_numbers) s.heap.size = A at hD ⊢
  have hA : ∀ q : Nat, s.heap.size ≤ q → A q := fun q h => by rw [← hAe]; exact Or.inr h
  have hS : va_S A s.heap s.heap [] := va_S.rf
  have hl := lv_entry ([.ref h0]) (n := 3) (Nat.le_of_ble_eq_true rfl)
  rw [lg_entry_eq]
  generalize (lg_sl ([.ref h0]) ++ List.replicate (3 - (lg_sl ([.ref h0])).length) Slot.unset).toArray = ls at hl ⊢
  replace hl : lv_has ls 3 [(0, .ref h0)] := hl
  have inX2 : ∀ w ∈ u_ws RX2 TX2 5, w ∈ wsX2_steer := fun w h => List.mem_cons_of_mem _ (inlX2 w h)
  clear hAe hD0 B
  unfold wp_X2_steer at hw
  generalize hQe : MQ below _ _ s _ _ _ = Q0
  generalize ([.ref h0] : List Value).toArray = av at *
  obtain ⟨H, hH⟩ : ∃ H, H = s.heap := ⟨_, rfl⟩
  obtain ⟨locs, hlo⟩ : ∃ L : List Loc, L = [] := ⟨_, rfl⟩
  replace hP : va_P (dC, dI) vwCl (w_X2_steer h0 h_numbers h_trees h_samples h_frame h_code cy c_numbers) H := by rw [hH]; exact hP
  replace hS : va_S A s.heap H locs := by rw [hH, hlo]; exact hS
  suffices hgo : W p l e ({ frames := 1, cells := 0, slots := 0, locals := 30 }) s m av below meth c H locs 0 0 Q0 (F0 m 0 ls []) by rw [hH, hlo] at hgo; exact hgo
  clear hH hlo
  refine lv_aload_n hx hb dX2_steer_0 rfl (lv_at hl 0 rfl) ?_
  refine va_get (D := (dC, dI)) (ci := 2) (v := .ref h_numbers) (C := RX2) (T := TX2) (N := 5) hx hb hts inX2 hown hK hP 0 rfl rfl 0 (by decide) (hts _ (List.mem_cons_of_mem _ mw_109)) (fun _ h9 => h9) rfl dX2_steer_1 ?_
  refine lv_iconst (v := 1) hx hb dX2_steer_4 (by decide) ?_
  refine xiald (k := 1) hx hb hK hP 1 0 rfl rfl (vpL 1 54 rfl) (by decide) dX2_steer_5 ?_
  refine lv_bipush (v := 8) hx hb dX2_steer_6 (by decide) ?_
  refine lv_irem hx hb dX2_steer_8 (by decide) ?_
  refine lv_topi (fun x2 e_x2 => ?_)
  replace hw := hw x2 e_x2
  clear e_x2
  refine lv_if_eq (tgt := 13) hx hb dX2_steer_9 (by decide) (fun c3 => ?_) (fun c3 => ?_)
  · replace hw := hw.1 c3
    refine lv_aload_n hx hb dX2_steer_13 rfl (lv_at hl 0 rfl) ?_
    refine va_get (D := (dC, dI)) (ci := 2) (v := .ref h_numbers) (C := RX2) (T := TX2) (N := 5) hx hb hts inX2 hown hK hP 0 rfl rfl 0 (by decide) (hts _ (List.mem_cons_of_mem _ mw_109)) (fun _ h9 => h9) rfl dX2_steer_14 ?_
    refine lv_bipush (v := 29) hx hb dX2_steer_17 (by decide) ?_
    refine xiald (k := 29) hx hb hK hP 1 0 rfl rfl (vpL 29 54 rfl) (by decide) dX2_steer_19 ?_
    refine lv_iconst (v := 1) hx hb dX2_steer_20 (by decide) ?_
    refine jn1 (Gg := fun (f5 : (Nat → Int32)) => ∀ (H : Heap) (locs : List Loc) (ls : Array Slot), va_P (dC, dI) vwCl (w_X2_steer h0 h_numbers h_trees h_samples h_frame h_code cy f5) H → va_D A (w_X2_steer h0 h_numbers h_trees h_samples h_frame h_code cy f5) → va_S A s.heap H locs → lv_has ls 3 [(0, .ref h0)] → W p l e { frames := 1, cells := 0, slots := 0, locals := 30 } s m av below meth c H locs 0 0 Q0 (F0 m 85 ls [])) hw ?_ ?_ <;> clear hw
    · clear hP hD hS hl; clear H locs ls; intro f5 hw H locs ls hP hD hS hl
      refine lv_aload_n hx hb dX2_steer_85 rfl (lv_at hl 0 rfl) ?_
      refine va_get (D := (dC, dI)) (ci := 2) (v := .ref h_numbers) (C := RX2) (T := TX2) (N := 5) hx hb hts inX2 hown hK hP 0 rfl rfl 0 (by decide) (hts _ (List.mem_cons_of_mem _ mw_109)) (fun _ h9 => h9) rfl dX2_steer_86 ?_
      refine lv_bipush (v := 38) hx hb dX2_steer_89 (by decide) ?_
      refine lv_iconst (v := 0) hx hb dX2_steer_91 (by decide) ?_
      refine xiast (k := 38) hx hb hK hP hD hS 1 0 rfl rfl (vpL 38 54 rfl) (by decide) dX2_steer_92 ?_; clear hP hD hS; clear H locs; intro f9 e_f9 H locs hP hD hS
      replace hw := hw f9 e_f9
      clear e_f9
      replace hP : va_P (dC, dI) vwCl (w_X2_steer h0 h_numbers h_trees h_samples h_frame h_code cy f9) H := hP
      replace hD : va_D A (w_X2_steer h0 h_numbers h_trees h_samples h_frame h_code cy f9) := hD
      subst hQe
      exact W.vret hx hb hr (fun t ht hW => ⟨⟨f9, rfl, hw, by rw [ht]; exact hP, va_K.moved hW.alike hK, hD⟩, hS.F ht⟩) hS.2.2 dX2_steer_93
    · intro j7 hw
      refine lv_icmp_ne (tgt := 85) hx hb dX2_steer_21 (by decide) (fun c10 => ?_) (fun c10 => ?_)
      · replace hw := hw.2 c10
        exact j7 c_numbers hw H locs ls hP hD hS (lv_sub hl [0] rfl)
      · replace hw := hw.1 c10
        refine lv_aload_n hx hb dX2_steer_24 rfl (lv_at hl 0 rfl) ?_
        refine va_get (D := (dC, dI)) (ci := 2) (v := .ref h_numbers) (C := RX2) (T := TX2) (N := 5) hx hb hts inX2 hown hK hP 0 rfl rfl 0 (by decide) (hts _ (List.mem_cons_of_mem _ mw_109)) (fun _ h9 => h9) rfl dX2_steer_25 ?_
        refine lv_bipush (v := 31) hx hb dX2_steer_28 (by decide) ?_
        refine xiald (k := 31) hx hb hK hP 1 0 rfl rfl (vpL 31 54 rfl) (by decide) dX2_steer_30 ?_
        refine lv_topi (fun x12 e_x12 => ?_)
        replace hw := hw x12 e_x12
        clear e_x12
        refine lv_istore_n (lv' := [(1, .int x12), (0, .ref h0)]) hx hb dX2_steer_31 rfl hl (by decide) rfl ?_; clear hl; clear ls; intro ls hl
        refine lv_aload_n hx hb dX2_steer_32 rfl (lv_at hl 1 rfl) ?_
        refine va_get (D := (dC, dI)) (ci := 2) (v := .ref h_numbers) (C := RX2) (T := TX2) (N := 5) hx hb hts inX2 hown hK hP 0 rfl rfl 0 (by decide) (hts _ (List.mem_cons_of_mem _ mw_109)) (fun _ h9 => h9) rfl dX2_steer_33 ?_
        refine lv_bipush (v := 38) hx hb dX2_steer_36 (by decide) ?_
        refine xiald (k := 38) hx hb hK hP 1 0 rfl rfl (vpL 38 54 rfl) (by decide) dX2_steer_38 ?_
        refine lv_iconst (v := 1) hx hb dX2_steer_39 (by decide) ?_
        refine jn1 (Gg := fun (x14 : Int32) => ∀ (H : Heap) (locs : List Loc) (ls : Array Slot), va_P (dC, dI) vwCl (w_X2_steer h0 h_numbers h_trees h_samples h_frame h_code cy c_numbers) H → va_D A (w_X2_steer h0 h_numbers h_trees h_samples h_frame h_code cy c_numbers) → va_S A s.heap H locs → lv_has ls 3 [(0, .ref h0), (1, .int x12)] → W p l e { frames := 1, cells := 0, slots := 0, locals := 30 } s m av below meth c H locs 0 0 Q0 (F0 m 48 ls [.int x14])) hw ?_ ?_ <;> clear hw
        · clear hP hD hS hl; clear H locs ls; intro x14 hw H locs ls hP hD hS hl
          refine lv_istore_n (lv' := [(2, .int x14), (0, .ref h0), (1, .int x12)]) hx hb dX2_steer_48 rfl hl (by decide) rfl ?_; clear hl; clear ls; intro ls hl
          refine lv_aload_n hx hb dX2_steer_49 rfl (lv_at hl 1 rfl) ?_
          refine va_get (D := (dC, dI)) (ci := 2) (v := .ref h_numbers) (C := RX2) (T := TX2) (N := 5) hx hb hts inX2 hown hK hP 0 rfl rfl 0 (by decide) (hts _ (List.mem_cons_of_mem _ mw_109)) (fun _ h9 => h9) rfl dX2_steer_50 ?_
          refine lv_bipush (v := 31) hx hb dX2_steer_53 (by decide) ?_
          refine lv_iload_n hx hb dX2_steer_55 rfl (lv_at hl 0 rfl) ?_
          refine jn1 (Gg := fun (x17 : Int32) => ∀ (H : Heap) (locs : List Loc) (ls : Array Slot), va_P (dC, dI) vwCl (w_X2_steer h0 h_numbers h_trees h_samples h_frame h_code cy c_numbers) H → va_D A (w_X2_steer h0 h_numbers h_trees h_samples h_frame h_code cy c_numbers) → va_S A s.heap H locs → lv_has ls 3 [(0, .ref h0)] → W p l e { frames := 1, cells := 0, slots := 0, locals := 30 } s m av below meth c H locs 0 0 Q0 (F0 m 84 ls [.int x17, .int (31 : Int32), .ref h_numbers])) hw ?_ ?_ <;> clear hw
          · clear hP hD hS hl; clear H locs ls; intro x17 hw H locs ls hP hD hS hl
            refine xiast (k := 31) hx hb hK hP hD hS 1 0 rfl rfl (vpL 31 54 rfl) (by decide) dX2_steer_84 ?_; clear hP hD hS; clear H locs; intro f21 e_f21 H locs hP hD hS
            replace hw := hw f21 e_f21
            clear e_f21
            replace hP : va_P (dC, dI) vwCl (w_X2_steer h0 h_numbers h_trees h_samples h_frame h_code cy f21) H := hP
            replace hD : va_D A (w_X2_steer h0 h_numbers h_trees h_samples h_frame h_code cy f21) := hD
            exact j7 f21 hw H locs ls hP hD hS (lv_sub hl [0] rfl)
          · intro j19 hw
            refine lv_if_eq (tgt := 71) hx hb dX2_steer_56 (by decide) (fun c22 => ?_) (fun c22 => ?_)
            · replace hw := hw.1 c22
              refine lv_aload_n hx hb dX2_steer_71 rfl (lv_at hl 1 rfl) ?_
              refine va_get (D := (dC, dI)) (ci := 2) (v := .ref h_numbers) (C := RX2) (T := TX2) (N := 5) hx hb hts inX2 hown hK hP 0 rfl rfl 0 (by decide) (hts _ (List.mem_cons_of_mem _ mw_109)) (fun _ h9 => h9) rfl dX2_steer_72 ?_
              refine lv_bipush (v := 21) hx hb dX2_steer_75 (by decide) ?_
              refine xiald (k := 21) hx hb hK hP 1 0 rfl rfl (vpL 21 54 rfl) (by decide) dX2_steer_77 ?_
              refine lv_iload_n hx hb dX2_steer_78 rfl (lv_at hl 2 rfl) ?_
              refine lv_iconst (v := 2) hx hb dX2_steer_79 (by decide) ?_
              refine lv_iadd hx hb dX2_steer_80 ?_
              refine va_mmin hx hb (by rw [hml]; exact hl.1.symm) hown (hts _ (List.mem_cons_of_mem _ mw_411)) (hts _ (List.mem_cons_of_mem _ mw_345)) (hts _ (List.mem_cons_of_mem _ mw_76)) (hts _ (List.mem_cons_of_mem _ mw_346)) (Nat.le_of_ble_eq_true rfl) (Nat.le_of_ble_eq_true rfl) (Nat.zero_le _) (Nat.zero_le _) dX2_steer_81 ?_
              refine lv_topi (fun x24 e_x24 => ?_)
              replace hw := hw x24 e_x24
              clear e_x24
              exact j19 x24 hw H locs ls hP hD hS (lv_sub hl [1] rfl)
            · replace hw := hw.2 c22
              refine lv_iconst (v := 2) hx hb dX2_steer_59 (by decide) ?_
              refine lv_iload_n hx hb dX2_steer_60 rfl (lv_at hl 2 rfl) ?_
              refine lv_iconst (v := 3) hx hb dX2_steer_61 (by decide) ?_
              refine lv_imul hx hb dX2_steer_62 ?_
              refine lv_iconst (v := 4) hx hb dX2_steer_63 (by decide) ?_
              refine lv_idiv hx hb dX2_steer_64 (by decide) ?_
              refine lv_topi (fun x25 e_x25 => ?_)
              replace hw := hw x25 e_x25
              clear e_x25
              refine va_mmax hx hb (by rw [hml]; exact hl.1.symm) hown (hts _ (List.mem_cons_of_mem _ mw_410)) (hts _ (List.mem_cons_of_mem _ mw_75)) (hts _ (List.mem_cons_of_mem _ mw_76)) (hts _ (List.mem_cons_of_mem _ mw_77)) (Nat.le_of_ble_eq_true rfl) (Nat.le_of_ble_eq_true rfl) (Nat.zero_le _) (Nat.zero_le _) dX2_steer_65 ?_
              refine lv_topi (fun x26 e_x26 => ?_)
              replace hw := hw x26 e_x26
              clear e_x26
              refine lv_goto (tgt := 84) hx hb dX2_steer_68 (by decide) ?_
              exact j19 x26 hw H locs ls hP hD hS (lv_sub hl [1] rfl)
        · intro j16 hw
          refine lv_icmp_ne (tgt := 47) hx hb dX2_steer_40 (by decide) (fun c27 => ?_) (fun c27 => ?_)
          · replace hw := hw.2 c27
            refine lv_iconst (v := 0) hx hb dX2_steer_47 (by decide) ?_
            exact j16 (0 : Int32) hw H locs ls hP hD hS (lv_sub hl [1, 0] rfl)
          · replace hw := hw.1 c27
            refine lv_iconst (v := 1) hx hb dX2_steer_43 (by decide) ?_
            refine lv_goto (tgt := 48) hx hb dX2_steer_44 (by decide) ?_
            exact j16 (1 : Int32) hw H locs ls hP hD hS (lv_sub hl [1, 0] rfl)
  · replace hw := hw.2 c3
    subst hQe
    exact W.vret hx hb hr (fun t ht hW => ⟨⟨c_numbers, rfl, hw, by rw [ht]; exact hP, va_K.moved hW.alike hK, hD⟩, hS.F ht⟩) hS.2.2 dX2_steer_12
set_option maxHeartbeats 4000000 in
set_option maxRecDepth 100000 in
theorem c_X3_clear (l : Launch) (dC : Nat → ClassId) (dI : Nat → Nat → Nat) (cy : Nat → ClassId) (h0 h_tree h_row h_made h_fresh h_tree_memoriesA h_tree_memoriesB h_tree_row h_tree_next : Nat) (sz : Nat) (c_lag : Int32) (c_lagSum : Int32) (c_tree_memoriesA : Nat → Int32) (c_tree_memoriesB : Nat → Int32) (c_row : Nat → Int32) (post : (Nat → Int32) → (Nat → Int32) → (Nat → Int32) → Prop) (hw : wp_X3_clear c_tree_memoriesA c_tree_memoriesB c_row post) : Met l yX3_clear wsX3_clear ({ frames := 2, cells := 0, slots := 0, locals := 43 }) (PX dC dI cy [.ref h0] sz (w_X3_clear h0 h_tree h_row h_made h_fresh h_tree_memoriesA h_tree_memoriesB h_tree_row h_tree_next cy c_lag c_lagSum c_tree_memoriesA c_tree_memoriesB c_row)) (va_Qv (fun (u : (Nat → Int32) × (Nat → Int32) × (Nat → Int32)) => post u.1 u.2.1 u.2.2) (QX dC dI cy (va_A (w_X3_clear h0 h_tree h_row h_made h_fresh h_tree_memoriesA h_tree_memoriesB h_tree_row h_tree_next cy c_lag c_lagSum c_tree_memoriesA c_tree_memoriesB c_row) sz) (fun (u : (Nat → Int32) × (Nat → Int32) × (Nat → Int32)) => w_X3_clear h0 h_tree h_row h_made h_fresh h_tree_memoriesA h_tree_memoriesB h_tree_row h_tree_next cy c_lag c_lagSum u.1 u.2.1 u.2.2)) (va_A (w_X3_clear h0 h_tree h_row h_made h_fresh h_tree_memoriesA h_tree_memoriesB h_tree_row h_tree_next cy c_lag c_lagSum c_tree_memoriesA c_tree_memoriesB c_row) sz)) 0 0 (va_A (w_X3_clear h0 h_tree h_row h_made h_fresh h_tree_memoriesA h_tree_memoriesB h_tree_row h_tree_next cy c_lag c_lagSum c_tree_memoriesA c_tree_memoriesB c_row) sz) := by
  refine Met.ofW (cc := cX3_clear) (maxL := 1) (ret := none) (by decide) rfl ?_
  intro p e s m args below meth c s₁ B hml hv
  obtain ⟨rfl, hsz, hP, hK, hD0, hG⟩ := hv
  have hx := B.exec
  have hb := B.bytes
  have hr := B.returns
  have hts := atoms_spec (ws := wsX3_clear) B.pre
  have hown : s.vm.findClass RX3 = some m.cls := findClass_of_methodNamed B.named
  have hlocks := B.notSynchronized
  subst hsz
  have hD := hD0.self (sz := s.heap.size)
  generalize hAe : va_A (w_X3_clear h0 h_tree h_row h_made h_fresh h_tree_memoriesA h_tree_memoriesB h_tree_row h_tree_next cy c_lag c_lagSum c_tree_memoriesA c_tree_memoriesB c_row) s.heap.size = A at hD ⊢
  have hA : ∀ q : Nat, s.heap.size ≤ q → A q := fun q h => by rw [← hAe]; exact Or.inr h
  have hS : va_S A s.heap s.heap [] := va_S.rf
  have hl := lv_entry ([.ref h0]) (n := 1) (Nat.le_of_ble_eq_true rfl)
  rw [lg_entry_eq]
  generalize (lg_sl ([.ref h0]) ++ List.replicate (1 - (lg_sl ([.ref h0])).length) Slot.unset).toArray = ls at hl ⊢
  replace hl : lv_has ls 1 [(0, .ref h0)] := hl
  have inX3 : ∀ w ∈ u_ws RX3 TX3 6, w ∈ wsX3_clear := fun w h => List.mem_cons_of_mem _ (inlX3 w h)
  clear hAe hD0 B
  unfold wp_X3_clear at hw
  generalize hQe : MQ below _ _ s _ _ _ = Q0
  generalize ([.ref h0] : List Value).toArray = av at *
  obtain ⟨H, hH⟩ : ∃ H, H = s.heap := ⟨_, rfl⟩
  obtain ⟨locs, hlo⟩ : ∃ L : List Loc, L = [] := ⟨_, rfl⟩
  replace hP : va_P (dC, dI) vwCl (w_X3_clear h0 h_tree h_row h_made h_fresh h_tree_memoriesA h_tree_memoriesB h_tree_row h_tree_next cy c_lag c_lagSum c_tree_memoriesA c_tree_memoriesB c_row) H := by rw [hH]; exact hP
  replace hS : va_S A s.heap H locs := by rw [hH, hlo]; exact hS
  suffices hgo : W p l e ({ frames := 2, cells := 0, slots := 0, locals := 43 }) s m av below meth c H locs 0 0 Q0 (F0 m 0 ls []) by rw [hH, hlo] at hgo; exact hgo
  clear hH hlo
  refine lv_aload_n hx hb dX3_clear_0 rfl (lv_at hl 0 rfl) ?_
  refine va_get (D := (dC, dI)) (ci := 3) (v := .ref h_tree) (C := RX3) (T := TX3) (N := 6) hx hb hts inX3 hown hK hP 0 rfl rfl 0 (by decide) (hts _ (List.mem_cons_of_mem _ mw_159)) (fun _ h9 => h9) rfl dX3_clear_1 ?_
  have hPc := pSub (ws' := (w_X9_clear h_tree h_tree_memoriesA h_tree_memoriesB h_tree_row h_tree_next cy c_tree_memoriesA c_tree_memoriesB)) hP [1, 2, 3] rfl
  have hDc := dSub (ws' := (w_X9_clear h_tree h_tree_memoriesA h_tree_memoriesB h_tree_row h_tree_next cy c_tree_memoriesA c_tree_memoriesB)) hD [1, 2, 3] (by decide) rfl
  have hFc := va_free (wc := (w_X9_clear h_tree h_tree_memoriesA h_tree_memoriesB h_tree_row h_tree_next cy c_tree_memoriesA c_tree_memoriesB)) hD hS hA [1, 2, 3] rfl
  refine va_callv (va_runV (As := []) (rest := []) ⟨hx, hb, hml, hown, hts⟩ (c_X9_clear l dC dI cy h_tree h_tree_memoriesA h_tree_memoriesB h_tree_row h_tree_next H.size c_tree_memoriesA c_tree_memoriesB _ hw) (cwV 0 hts (goodV mw_819 mw_829 mw_817 mw_818 mw_28) rfl rfl rfl (by decide +kernel) ⟨Nat.le_of_ble_eq_true rfl, Nat.le_of_ble_eq_true rfl⟩) ⟨PX_blind, va_recv hK hPc (ci := 9) (q0 := 0) rfl rfl, PX_pre hPc hK hDc hG⟩ rfl rfl hl.1 rfl (lv_room (Nat.le_of_ble_eq_true rfl)) dX3_clear_4 ⟨Nat.zero_le _, Nat.zero_le _⟩) hS (fun q _ h => hFc q h) hFc ?_; clear hw hS; intro u t H1 locs1 ht hvm hw hB hz1 hk1 hS
  obtain ⟨f1, f2⟩ := u
  obtain ⟨hP1, -, -⟩ := hB
  rw [ht] at hP1
  replace hP := jC0 hP hD [1, 2, 3] [0, 4] rfl hk1 hP1 (w_X3_clear h0 h_tree h_row h_made h_fresh h_tree_memoriesA h_tree_memoriesB h_tree_row h_tree_next cy c_lag c_lagSum f1 f2 c_row) rfl rfl rfl 5 rfl (by decide +kernel); clear hD; obtain ⟨hP, hD⟩ := hP
  replace hP : va_P (dC, dI) vwCl (w_X3_clear h0 h_tree h_row h_made h_fresh h_tree_memoriesA h_tree_memoriesB h_tree_row h_tree_next cy c_lag c_lagSum f1 f2 c_row) H1 := hP
  replace hD : va_D A (w_X3_clear h0 h_tree h_row h_made h_fresh h_tree_memoriesA h_tree_memoriesB h_tree_row h_tree_next cy c_lag c_lagSum f1 f2 c_row) := hD
  clear hPc hDc hFc hP1 hk1 hz1 hvm ht; clear t; clear H locs; obtain ⟨H, hH⟩ : ∃ H, H = H1 := ⟨_, rfl⟩; obtain ⟨locs, hlo⟩ : ∃ L, L = locs1 := ⟨_, rfl⟩; subst hH; subst hlo
  refine W.widen (k := 0) (n := 0) (Nat.le_refl 0) (Nat.le_refl 0) ?_
  refine lv_aload_n hx hb dX3_clear_7 rfl (lv_at hl 0 rfl) ?_
  refine va_get (D := (dC, dI)) (ci := 3) (v := .ref h_row) (C := RX3) (T := TX3) (N := 6) hx hb hts inX3 hown hK hP 0 rfl rfl 1 (by decide) (hts _ (List.mem_cons_of_mem _ mw_160)) (fun _ h9 => h9) rfl dX3_clear_8 ?_
  refine lv_iconst (v := 0) hx hb dX3_clear_11 (by decide) ?_
  have hPc := pSub (ws' := (w_J7_fill_53178 h_row cy 224 c_row)) hP [4] rfl
  have hDc := dSub (ws' := (w_J7_fill_53178 h_row cy 224 c_row)) hD [4] (by decide) rfl
  have hFc := va_free (wc := (w_J7_fill_53178 h_row cy 224 c_row)) hD hS hA [4] rfl
  refine va_callv (va_runS (As := [.ref h_row, .int (0 : Int32)]) (rest := []) ⟨hx, hb, hml, hown, hts⟩ (c_J7_fill_53178 l dC dI cy h_row 224 H.size (0 : Int32) c_row _ hw) (va_cwS 2 hts (goodS mw_356 mw_830 mw_354 mw_355) rfl rfl rfl (by decide +kernel) ⟨Nat.le_of_ble_eq_true rfl, Nat.le_of_ble_eq_true rfl⟩) ⟨PX_blind, PX_pre hPc hK hDc hG⟩ rfl rfl hl.1 rfl (lv_room (Nat.le_of_ble_eq_true rfl)) dX3_clear_12 ⟨Nat.zero_le _, Nat.zero_le _⟩) hS (fun q _ h => hFc q h) hFc ?_; clear hw hS; intro f3 t H1 locs1 ht hvm hw hB hz1 hk1 hS
  obtain ⟨hP1, -, -⟩ := hB
  rw [ht] at hP1
  replace hP := jC0 hP hD [4] [0, 1, 2, 3] rfl hk1 hP1 (w_X3_clear h0 h_tree h_row h_made h_fresh h_tree_memoriesA h_tree_memoriesB h_tree_row h_tree_next cy c_lag c_lagSum f1 f2 f3) rfl rfl rfl 5 rfl (by decide +kernel); clear hD; obtain ⟨hP, hD⟩ := hP
  replace hP : va_P (dC, dI) vwCl (w_X3_clear h0 h_tree h_row h_made h_fresh h_tree_memoriesA h_tree_memoriesB h_tree_row h_tree_next cy c_lag c_lagSum f1 f2 f3) H1 := hP
  replace hD : va_D A (w_X3_clear h0 h_tree h_row h_made h_fresh h_tree_memoriesA h_tree_memoriesB h_tree_row h_tree_next cy c_lag c_lagSum f1 f2 f3) := hD
  clear hPc hDc hFc hP1 hk1 hz1 hvm ht; clear t; clear H locs; obtain ⟨H, hH⟩ : ∃ H, H = H1 := ⟨_, rfl⟩; obtain ⟨locs, hlo⟩ : ∃ L, L = locs1 := ⟨_, rfl⟩; subst hH; subst hlo
  refine W.widen (k := 0) (n := 0) (Nat.le_refl 0) (Nat.le_refl 0) ?_
  subst hQe
  exact W.vret hx hb hr (fun t ht hW => ⟨⟨(f1, f2, f3), rfl, hw, by rw [ht]; exact hP, va_K.moved hW.alike hK, hD⟩, hS.F ht⟩) hS.2.2 dX3_clear_15
set_option maxHeartbeats 4000000 in
set_option maxRecDepth 100000 in
theorem c_X3_become (l : Launch) (dC : Nat → ClassId) (dI : Nat → Nat → Nat) (cy : Nat → ClassId) (h0 h_tree h_row h_made h_fresh k1 k1_tree k1_row k1_made k1_fresh h_tree_memoriesA h_tree_memoriesB h_tree_row h_tree_next k1_tree_memoriesA k1_tree_memoriesB k1_tree_row k1_tree_next : Nat) (sz : Nat) (c_lag : Int32) (c_lagSum : Int32) (p1_lag : Int32) (p1_lagSum : Int32) (p1_tree_memoriesA : Nat → Int32) (c_tree_memoriesA : Nat → Int32) (p1_tree_memoriesB : Nat → Int32) (c_tree_memoriesB : Nat → Int32) (p1_row : Nat → Int32) (c_row : Nat → Int32) (post : (Nat → Int32) → (Nat → Int32) → (Nat → Int32) → Prop) (hw : wp_X3_become p1_tree_memoriesA c_tree_memoriesA p1_tree_memoriesB c_tree_memoriesB p1_row c_row post) : Met l yX3_become wsX3_become ({ frames := 2, cells := 0, slots := 0, locals := 61 }) (PX dC dI cy [.ref h0, .ref k1] sz (w_X3_become h0 h_tree h_row h_made h_fresh k1 k1_tree k1_row k1_made k1_fresh h_tree_memoriesA h_tree_memoriesB h_tree_row h_tree_next k1_tree_memoriesA k1_tree_memoriesB k1_tree_row k1_tree_next cy c_lag c_lagSum p1_lag p1_lagSum p1_tree_memoriesA c_tree_memoriesA p1_tree_memoriesB c_tree_memoriesB p1_row c_row)) (va_Qv (fun (u : (Nat → Int32) × (Nat → Int32) × (Nat → Int32)) => post u.1 u.2.1 u.2.2) (QX dC dI cy (va_A (w_X3_become h0 h_tree h_row h_made h_fresh k1 k1_tree k1_row k1_made k1_fresh h_tree_memoriesA h_tree_memoriesB h_tree_row h_tree_next k1_tree_memoriesA k1_tree_memoriesB k1_tree_row k1_tree_next cy c_lag c_lagSum p1_lag p1_lagSum p1_tree_memoriesA c_tree_memoriesA p1_tree_memoriesB c_tree_memoriesB p1_row c_row) sz) (fun (u : (Nat → Int32) × (Nat → Int32) × (Nat → Int32)) => w_X3_become h0 h_tree h_row h_made h_fresh k1 k1_tree k1_row k1_made k1_fresh h_tree_memoriesA h_tree_memoriesB h_tree_row h_tree_next k1_tree_memoriesA k1_tree_memoriesB k1_tree_row k1_tree_next cy c_lag c_lagSum p1_lag p1_lagSum p1_tree_memoriesA u.1 p1_tree_memoriesB u.2.1 p1_row u.2.2)) (va_A (w_X3_become h0 h_tree h_row h_made h_fresh k1 k1_tree k1_row k1_made k1_fresh h_tree_memoriesA h_tree_memoriesB h_tree_row h_tree_next k1_tree_memoriesA k1_tree_memoriesB k1_tree_row k1_tree_next cy c_lag c_lagSum p1_lag p1_lagSum p1_tree_memoriesA c_tree_memoriesA p1_tree_memoriesB c_tree_memoriesB p1_row c_row) sz)) 0 0 (va_A (w_X3_become h0 h_tree h_row h_made h_fresh k1 k1_tree k1_row k1_made k1_fresh h_tree_memoriesA h_tree_memoriesB h_tree_row h_tree_next k1_tree_memoriesA k1_tree_memoriesB k1_tree_row k1_tree_next cy c_lag c_lagSum p1_lag p1_lagSum p1_tree_memoriesA c_tree_memoriesA p1_tree_memoriesB c_tree_memoriesB p1_row c_row) sz) := by
  refine Met.ofW (cc := cX3_become) (maxL := 2) (ret := none) (by decide) rfl ?_
  intro p e s m args below meth c s₁ B hml hv
  obtain ⟨rfl, hsz, hP, hK, hD0, hG⟩ := hv
  have hx := B.exec
  have hb := B.bytes
  have hr := B.returns
  have hts := atoms_spec (ws := wsX3_become) B.pre
  have hown : s.vm.findClass RX3 = some m.cls := findClass_of_methodNamed B.named
  have hlocks := B.notSynchronized
  subst hsz
  have hD := hD0.self (sz := s.heap.size)
  generalize hAe : va_A (w_X3_become h0 h_tree h_row h_made h_fresh k1 k1_tree k1_row k1_made k1_fresh h_tree_memoriesA h_tree_memoriesB h_tree_row h_tree_next k1_tree_memoriesA k1_tree_memoriesB k1_tree_row k1_tree_next cy c_lag c_lagSum p1_lag p1_lagSum p1_tree_memoriesA c_tree_memoriesA p1_tree_memoriesB c_tree_memoriesB p1_row c_row) s.heap.size = A at hD ⊢
  have hA : ∀ q : Nat, s.heap.size ≤ q → A q := fun q h => by rw [← hAe]; exact Or.inr h
  have hS : va_S A s.heap s.heap [] := va_S.rf
  have hl := lv_entry ([.ref h0, .ref k1]) (n := 2) (Nat.le_of_ble_eq_true rfl)
  rw [lg_entry_eq]
  generalize (lg_sl ([.ref h0, .ref k1]) ++ List.replicate (2 - (lg_sl ([.ref h0, .ref k1])).length) Slot.unset).toArray = ls at hl ⊢
  replace hl : lv_has ls 2 [(0, .ref h0), (1, .ref k1)] := hl
  have inX3 : ∀ w ∈ u_ws RX3 TX3 6, w ∈ wsX3_become := fun w h => List.mem_cons_of_mem _ (inlX3 w h)
  clear hAe hD0 B
  unfold wp_X3_become at hw
  generalize hQe : MQ below _ _ s _ _ _ = Q0
  generalize ([.ref h0, .ref k1] : List Value).toArray = av at *
  obtain ⟨H, hH⟩ : ∃ H, H = s.heap := ⟨_, rfl⟩
  obtain ⟨locs, hlo⟩ : ∃ L : List Loc, L = [] := ⟨_, rfl⟩
  replace hP : va_P (dC, dI) vwCl (w_X3_become h0 h_tree h_row h_made h_fresh k1 k1_tree k1_row k1_made k1_fresh h_tree_memoriesA h_tree_memoriesB h_tree_row h_tree_next k1_tree_memoriesA k1_tree_memoriesB k1_tree_row k1_tree_next cy c_lag c_lagSum p1_lag p1_lagSum p1_tree_memoriesA c_tree_memoriesA p1_tree_memoriesB c_tree_memoriesB p1_row c_row) H := by rw [hH]; exact hP
  replace hS : va_S A s.heap H locs := by rw [hH, hlo]; exact hS
  suffices hgo : W p l e ({ frames := 2, cells := 0, slots := 0, locals := 61 }) s m av below meth c H locs 0 0 Q0 (F0 m 0 ls []) by rw [hH, hlo] at hgo; exact hgo
  clear hH hlo
  refine lv_aload_n hx hb dX3_become_0 rfl (lv_at hl 0 rfl) ?_
  refine va_get (D := (dC, dI)) (ci := 3) (v := .ref h_tree) (C := RX3) (T := TX3) (N := 6) hx hb hts inX3 hown hK hP 0 rfl rfl 0 (by decide) (hts _ (List.mem_cons_of_mem _ mw_159)) (fun _ h9 => h9) rfl dX3_become_1 ?_
  refine lv_aload_n hx hb dX3_become_4 rfl (lv_at hl 1 rfl) ?_
  refine va_get (D := (dC, dI)) (ci := 3) (v := .ref k1_tree) (C := RX3) (T := TX3) (N := 6) hx hb hts inX3 hown hK hP 1 rfl rfl 0 (by decide) (hts _ (List.mem_cons_of_mem _ mw_159)) (fun _ h9 => h9) rfl dX3_become_5 ?_
  have hPc := pSub (ws' := (w_X9_become h_tree h_tree_memoriesA h_tree_memoriesB h_tree_row h_tree_next k1_tree k1_tree_memoriesA k1_tree_memoriesB k1_tree_row k1_tree_next cy p1_tree_memoriesA c_tree_memoriesA p1_tree_memoriesB c_tree_memoriesB)) hP [2, 3, 4, 5, 6, 7] rfl
  have hDc := dSub (ws' := (w_X9_become h_tree h_tree_memoriesA h_tree_memoriesB h_tree_row h_tree_next k1_tree k1_tree_memoriesA k1_tree_memoriesB k1_tree_row k1_tree_next cy p1_tree_memoriesA c_tree_memoriesA p1_tree_memoriesB c_tree_memoriesB)) hD [2, 3, 4, 5, 6, 7] (by decide) rfl
  have hFc := va_free (wc := (w_X9_become h_tree h_tree_memoriesA h_tree_memoriesB h_tree_row h_tree_next k1_tree k1_tree_memoriesA k1_tree_memoriesB k1_tree_row k1_tree_next cy p1_tree_memoriesA c_tree_memoriesA p1_tree_memoriesB c_tree_memoriesB)) hD hS hA [2, 3, 4, 5, 6, 7] rfl
  refine va_callv (va_runV (As := [.ref k1_tree]) (rest := []) ⟨hx, hb, hml, hown, hts⟩ (c_X9_become l dC dI cy h_tree h_tree_memoriesA h_tree_memoriesB h_tree_row h_tree_next k1_tree k1_tree_memoriesA k1_tree_memoriesB k1_tree_row k1_tree_next H.size p1_tree_memoriesA c_tree_memoriesA p1_tree_memoriesB c_tree_memoriesB _ hw) (cwV 1 hts (goodV mw_855 mw_880 mw_853 mw_854 mw_28) rfl rfl rfl (by decide +kernel) ⟨Nat.le_of_ble_eq_true rfl, Nat.le_of_ble_eq_true rfl⟩) ⟨PX_blind, va_recv hK hPc (ci := 9) (q0 := 0) rfl rfl, PX_pre hPc hK hDc hG⟩ rfl rfl hl.1 rfl (lv_room (Nat.le_of_ble_eq_true rfl)) dX3_become_8 ⟨Nat.zero_le _, Nat.zero_le _⟩) hS (fun q _ h => hFc q h) hFc ?_; clear hw hS; intro u t H1 locs1 ht hvm hw hB hz1 hk1 hS
  obtain ⟨f1, f2⟩ := u
  obtain ⟨hP1, -, -⟩ := hB
  rw [ht] at hP1
  replace hP := jC0 hP hD [2, 3, 4, 5, 6, 7] [0, 1, 8, 9] rfl hk1 hP1 (w_X3_become h0 h_tree h_row h_made h_fresh k1 k1_tree k1_row k1_made k1_fresh h_tree_memoriesA h_tree_memoriesB h_tree_row h_tree_next k1_tree_memoriesA k1_tree_memoriesB k1_tree_row k1_tree_next cy c_lag c_lagSum p1_lag p1_lagSum p1_tree_memoriesA f1 p1_tree_memoriesB f2 p1_row c_row) rfl rfl rfl 10 rfl (by decide +kernel); clear hD; obtain ⟨hP, hD⟩ := hP
  replace hP : va_P (dC, dI) vwCl (w_X3_become h0 h_tree h_row h_made h_fresh k1 k1_tree k1_row k1_made k1_fresh h_tree_memoriesA h_tree_memoriesB h_tree_row h_tree_next k1_tree_memoriesA k1_tree_memoriesB k1_tree_row k1_tree_next cy c_lag c_lagSum p1_lag p1_lagSum p1_tree_memoriesA f1 p1_tree_memoriesB f2 p1_row c_row) H1 := hP
  replace hD : va_D A (w_X3_become h0 h_tree h_row h_made h_fresh k1 k1_tree k1_row k1_made k1_fresh h_tree_memoriesA h_tree_memoriesB h_tree_row h_tree_next k1_tree_memoriesA k1_tree_memoriesB k1_tree_row k1_tree_next cy c_lag c_lagSum p1_lag p1_lagSum p1_tree_memoriesA f1 p1_tree_memoriesB f2 p1_row c_row) := hD
  clear hPc hDc hFc hP1 hk1 hz1 hvm ht; clear t; clear H locs; obtain ⟨H, hH⟩ : ∃ H, H = H1 := ⟨_, rfl⟩; obtain ⟨locs, hlo⟩ : ∃ L, L = locs1 := ⟨_, rfl⟩; subst hH; subst hlo
  refine W.widen (k := 0) (n := 0) (Nat.le_refl 0) (Nat.le_refl 0) ?_
  refine lv_aload_n hx hb dX3_become_11 rfl (lv_at hl 1 rfl) ?_
  refine va_get (D := (dC, dI)) (ci := 3) (v := .ref k1_row) (C := RX3) (T := TX3) (N := 6) hx hb hts inX3 hown hK hP 1 rfl rfl 1 (by decide) (hts _ (List.mem_cons_of_mem _ mw_160)) (fun _ h9 => h9) rfl dX3_become_12 ?_
  refine lv_iconst (v := 0) hx hb dX3_become_15 (by decide) ?_
  refine lv_aload_n hx hb dX3_become_16 rfl (lv_at hl 0 rfl) ?_
  refine va_get (D := (dC, dI)) (ci := 3) (v := .ref h_row) (C := RX3) (T := TX3) (N := 6) hx hb hts inX3 hown hK hP 0 rfl rfl 1 (by decide) (hts _ (List.mem_cons_of_mem _ mw_160)) (fun _ h9 => h9) rfl dX3_become_17 ?_
  refine lv_iconst (v := 0) hx hb dX3_become_20 (by decide) ?_
  refine lv_sipush (v := 192) hx hb dX3_become_21 (by decide) ?_
  refine xcopyi (k1 := 0) (k2 := 0) (k3 := 192) hx hb (by rw [hml]; exact hl.1.symm) hown (hts _ (List.mem_cons_of_mem _ mw_553)) (hts _ (List.mem_cons_of_mem _ mw_59)) (hts _ (List.mem_cons_of_mem _ mw_60)) (hts _ (List.mem_cons_of_mem _ mw_61)) hK hP hD hS 8 9 0 0 rfl rfl rfl rfl rfl (by decide) (by decide) (by decide) (by decide) (by decide) (fun _ _ => rfl) (Nat.le_of_ble_eq_true rfl) (Nat.le_of_ble_eq_true rfl) (by decide) (by decide) (by decide) dX3_become_24 ?_; clear hP hD hS; clear H locs; intro f3 e_f3 H locs hP hD hS
  replace hw := hw f3 e_f3
  clear e_f3
  replace hP : va_P (dC, dI) vwCl (w_X3_become h0 h_tree h_row h_made h_fresh k1 k1_tree k1_row k1_made k1_fresh h_tree_memoriesA h_tree_memoriesB h_tree_row h_tree_next k1_tree_memoriesA k1_tree_memoriesB k1_tree_row k1_tree_next cy c_lag c_lagSum p1_lag p1_lagSum p1_tree_memoriesA f1 p1_tree_memoriesB f2 p1_row f3) H := hP
  replace hD : va_D A (w_X3_become h0 h_tree h_row h_made h_fresh k1 k1_tree k1_row k1_made k1_fresh h_tree_memoriesA h_tree_memoriesB h_tree_row h_tree_next k1_tree_memoriesA k1_tree_memoriesB k1_tree_row k1_tree_next cy c_lag c_lagSum p1_lag p1_lagSum p1_tree_memoriesA f1 p1_tree_memoriesB f2 p1_row f3) := hD
  subst hQe
  exact W.vret hx hb hr (fun t ht hW => ⟨⟨(f1, f2, f3), rfl, hw, by rw [ht]; exact hP, va_K.moved hW.alike hK, hD⟩, hS.F ht⟩) hS.2.2 dX3_become_27
set_option maxHeartbeats 4000000 in
set_option maxRecDepth 100000 in
theorem c_X3_sampleAgo (l : Launch) (dC : Nat → ClassId) (dI : Nat → Nat → Nat) (cy : Nat → ClassId) (h0 h_tree h_row h_made h_fresh : Nat) (sz : Nat) (v1 : Int32) (c_lag : Int32) (c_lagSum : Int32) (c_row : Nat → Int32) (post : Int32 → Prop) (hw : wp_X3_sampleAgo v1 c_row post) : Met l yX3_sampleAgo wsX3_sampleAgo ({ frames := 0, cells := 0, slots := 0, locals := 0 }) (PX dC dI cy [.ref h0, .int v1] sz (w_X3_sampleAgo h0 h_tree h_row h_made h_fresh cy c_lag c_lagSum c_row)) (va_Qi (fun (r : Int32) (u : Unit) => post r) (QX dC dI cy (va_A (w_X3_sampleAgo h0 h_tree h_row h_made h_fresh cy c_lag c_lagSum c_row) sz) (fun (u : Unit) => w_X3_sampleAgo h0 h_tree h_row h_made h_fresh cy c_lag c_lagSum c_row)) (va_A (w_X3_sampleAgo h0 h_tree h_row h_made h_fresh cy c_lag c_lagSum c_row) sz)) 0 0 (va_A (w_X3_sampleAgo h0 h_tree h_row h_made h_fresh cy c_lag c_lagSum c_row) sz) := by
  refine Met.ofW (cc := cX3_sampleAgo) (maxL := 2) (ret := (some .int)) (by decide) rfl ?_
  intro p e s m args below meth c s₁ B hml hv
  obtain ⟨rfl, hsz, hP, hK, hD0, hG⟩ := hv
  have hx := B.exec
  have hb := B.bytes
  have hr := B.returns
  have hts := atoms_spec (ws := wsX3_sampleAgo) B.pre
  have hown : s.vm.findClass RX3 = some m.cls := findClass_of_methodNamed B.named
  have hlocks := B.notSynchronized
  subst hsz
  have hD := hD0.self (sz := s.heap.size)
  generalize hAe : va_A (w_X3_sampleAgo h0 h_tree h_row h_made h_fresh cy c_lag c_lagSum c_row) s.heap.size = A at hD ⊢
  have hA : ∀ q : Nat, s.heap.size ≤ q → A q := fun q h => by rw [← hAe]; exact Or.inr h
  have hS : va_S A s.heap s.heap [] := va_S.rf
  have hl := lv_entry ([.ref h0, .int v1]) (n := 2) (Nat.le_of_ble_eq_true rfl)
  rw [lg_entry_eq]
  generalize (lg_sl ([.ref h0, .int v1]) ++ List.replicate (2 - (lg_sl ([.ref h0, .int v1])).length) Slot.unset).toArray = ls at hl ⊢
  replace hl : lv_has ls 2 [(0, .ref h0), (1, .int v1)] := hl
  have inX3 : ∀ w ∈ u_ws RX3 TX3 6, w ∈ wsX3_sampleAgo := fun w h => List.mem_cons_of_mem _ (inlX3 w h)
  clear hAe hD0 B
  unfold wp_X3_sampleAgo at hw
  generalize hQe : MQ below _ _ s _ _ _ = Q0
  generalize ([.ref h0, .int v1] : List Value).toArray = av at *
  obtain ⟨H, hH⟩ : ∃ H, H = s.heap := ⟨_, rfl⟩
  obtain ⟨locs, hlo⟩ : ∃ L : List Loc, L = [] := ⟨_, rfl⟩
  replace hP : va_P (dC, dI) vwCl (w_X3_sampleAgo h0 h_tree h_row h_made h_fresh cy c_lag c_lagSum c_row) H := by rw [hH]; exact hP
  replace hS : va_S A s.heap H locs := by rw [hH, hlo]; exact hS
  suffices hgo : W p l e ({ frames := 0, cells := 0, slots := 0, locals := 0 }) s m av below meth c H locs 0 0 Q0 (F0 m 0 ls []) by rw [hH, hlo] at hgo; exact hgo
  clear hH hlo
  refine lv_aload_n hx hb dX3_sampleAgo_0 rfl (lv_at hl 0 rfl) ?_
  refine va_get (D := (dC, dI)) (ci := 3) (v := .ref h_row) (C := RX3) (T := TX3) (N := 6) hx hb hts inX3 hown hK hP 0 rfl rfl 1 (by decide) (hts _ (List.mem_cons_of_mem _ mw_160)) (fun _ h9 => h9) rfl dX3_sampleAgo_1 ?_
  refine lv_sipush (v := 191) hx hb dX3_sampleAgo_4 (by decide) ?_
  refine lv_iload_n hx hb dX3_sampleAgo_7 rfl (lv_at hl 1 rfl) ?_
  refine lv_isub hx hb dX3_sampleAgo_8 ?_
  obtain ⟨h1, hw⟩ := hw
  refine xiald (k := ((191 : Int32) - v1).toNatClampNeg) hx hb hK hP 1 0 rfl rfl h1 rfl dX3_sampleAgo_9 ?_
  subst hQe
  exact W.iret (v := c_row ((191 : Int32) - v1).toNatClampNeg) hx hb hr (fun t ht hW => ⟨⟨(c_row ((191 : Int32) - v1).toNatClampNeg), (), rfl, hw, by rw [ht]; exact hP, va_K.moved hW.alike hK, hD⟩, hS.F ht⟩) hS.2.2 dX3_sampleAgo_10
set_option maxHeartbeats 4000000 in
set_option maxRecDepth 100000 in
theorem c_X3_findLag (l : Launch) (dC : Nat → ClassId) (dI : Nat → Nat → Nat) (cy : Nat → ClassId) (h0 h_tree h_row h_made h_fresh : Nat) (sz : Nat) (c_lag : Int32) (c_lagSum : Int32) (c_row : Nat → Int32) (post : Int32 → Int32 → Prop) (hw : wp_X3_findLag c_lag c_lagSum c_row post) : Met l yX3_findLag wsX3_findLag ({ frames := 1, cells := 0, slots := 0, locals := 30 }) (PX dC dI cy [.ref h0] sz (w_X3_findLag h0 h_tree h_row h_made h_fresh cy c_lag c_lagSum c_row)) (va_Qv (fun (u : Int32 × Int32) => post u.1 u.2) (QX dC dI cy (va_A (w_X3_findLag h0 h_tree h_row h_made h_fresh cy c_lag c_lagSum c_row) sz) (fun (u : Int32 × Int32) => w_X3_findLag h0 h_tree h_row h_made h_fresh cy u.1 u.2 c_row)) (va_A (w_X3_findLag h0 h_tree h_row h_made h_fresh cy c_lag c_lagSum c_row) sz)) 0 0 (va_A (w_X3_findLag h0 h_tree h_row h_made h_fresh cy c_lag c_lagSum c_row) sz) := by
  refine Met.ofW (cc := cX3_findLag) (maxL := 4) (ret := none) (by decide) rfl ?_
  intro p e s m args below meth c s₁ B hml hv
  obtain ⟨rfl, hsz, hP, hK, hD0, hG⟩ := hv
  have hx := B.exec
  have hb := B.bytes
  have hr := B.returns
  have hts := atoms_spec (ws := wsX3_findLag) B.pre
  have hown : s.vm.findClass RX3 = some m.cls := findClass_of_methodNamed B.named
  have hlocks := B.notSynchronized
  subst hsz
  have hD := hD0.self (sz := s.heap.size)
  generalize hAe : va_A (w_X3_findLag h0 h_tree h_row h_made h_fresh cy c_lag c_lagSum c_row) s.heap.size = A at hD ⊢
  have hA : ∀ q : Nat, s.heap.size ≤ q → A q := fun q h => by rw [← hAe]; exact Or.inr h
  have hS : va_S A s.heap s.heap [] := va_S.rf
  have hl := lv_entry ([.ref h0]) (n := 4) (Nat.le_of_ble_eq_true rfl)
  rw [lg_entry_eq]
  generalize (lg_sl ([.ref h0]) ++ List.replicate (4 - (lg_sl ([.ref h0])).length) Slot.unset).toArray = ls at hl ⊢
  replace hl : lv_has ls 4 [(0, .ref h0)] := hl
  have inX3 : ∀ w ∈ u_ws RX3 TX3 6, w ∈ wsX3_findLag := fun w h => List.mem_cons_of_mem _ (inlX3 w h)
  clear hAe hD0 B
  unfold wp_X3_findLag at hw
  generalize hQe : MQ below _ _ s _ _ _ = Q0
  generalize ([.ref h0] : List Value).toArray = av at *
  obtain ⟨H, hH⟩ : ∃ H, H = s.heap := ⟨_, rfl⟩
  obtain ⟨locs, hlo⟩ : ∃ L : List Loc, L = [] := ⟨_, rfl⟩
  replace hP : va_P (dC, dI) vwCl (w_X3_findLag h0 h_tree h_row h_made h_fresh cy c_lag c_lagSum c_row) H := by rw [hH]; exact hP
  replace hS : va_S A s.heap H locs := by rw [hH, hlo]; exact hS
  suffices hgo : W p l e ({ frames := 1, cells := 0, slots := 0, locals := 30 }) s m av below meth c H locs 0 0 Q0 (F0 m 0 ls []) by rw [hH, hlo] at hgo; exact hgo
  clear hH hlo
  refine lv_aload_n hx hb dX3_findLag_0 rfl (lv_at hl 0 rfl) ?_
  refine lv_ldc (v := 2147483647) hx hb hown (hts _ (List.mem_cons_of_mem _ mw_543)) dX3_findLag_1 ?_
  refine va_put (D := (dC, dI)) (ci := 3) (v := .int (2147483647 : Int32)) (ty := .int) (C := RX3) (T := TX3) (N := 6) hx hb hts inX3 tyX3 tyX3_ok nmX3 hown hK hP hD hS 0 rfl rfl 5 (by decide) (hts _ (List.mem_cons_of_mem _ mw_164)) (fun _ h9 => h9) rfl (by decide +kernel) rfl rfl (Nat.le_of_ble_eq_true rfl) dX3_findLag_3 ?_; clear hP hD hS; clear H locs; intro H locs hP hD hS
  replace hP : va_P (dC, dI) vwCl (w_X3_findLag h0 h_tree h_row h_made h_fresh cy c_lag (2147483647 : Int32) c_row) H := hP
  replace hD : va_D A (w_X3_findLag h0 h_tree h_row h_made h_fresh cy c_lag (2147483647 : Int32) c_row) := hD
  refine lv_bipush (v := 16) hx hb dX3_findLag_6 (by decide) ?_
  refine lv_istore_n (lv' := [(1, .int (16 : Int32)), (0, .ref h0)]) hx hb dX3_findLag_8 rfl hl (by decide) rfl ?_; clear hl; clear ls; intro ls hl
  obtain ⟨x1, e_x1⟩ : ∃ y : Int32, y = (16 : Int32) := ⟨_, rfl⟩
  replace hw := hw x1 e_x1
  replace hl : lv_has ls 4 [(1, .int x1), (0, .ref h0)] := by rw [e_x1]; exact hl
  clear e_x1
  obtain ⟨x2, e_x2⟩ : ∃ y : Int32, y = (2147483647 : Int32) := ⟨_, rfl⟩
  replace hw := hw x2 e_x2
  replace hP : va_P (dC, dI) vwCl (w_X3_findLag h0 h_tree h_row h_made h_fresh cy c_lag x2 c_row) H ∧ va_D A (w_X3_findLag h0 h_tree h_row h_made h_fresh cy c_lag x2 c_row) := (by rw [e_x2]; exact ⟨hP, hD⟩); clear hD; obtain ⟨hP, hD⟩ := hP
  clear e_x2
  replace hl := lv_sub (l' := [(1, .int x1), (0, .ref h0)]) hl [0, 1] rfl
  revert hl; revert hS; revert hD; revert hP; revert ls; revert locs; revert H
  revert hw; revert x2; revert c_lag; revert x1
  refine Lz3_gr ?_; intro g3 ih4 x5 x6 x7 hw
  intro H locs ls hP hD hS hl
  refine lv_iload_n hx hb dX3_findLag_9 rfl (lv_at hl 0 rfl) ?_
  refine lv_bipush (v := 120) hx hb dX3_findLag_10 (by decide) ?_
  refine lv_icmp_gt (tgt := 87) hx hb dX3_findLag_12 (by decide) (fun c8 => ?_) (fun c8 => ?_)
  · replace hw := hw.1 c8
    clear ih4
    subst hQe
    exact W.vret hx hb hr (fun t ht hW => ⟨⟨(x6, x7), rfl, hw, by rw [ht]; exact hP, va_K.moved hW.alike hK, hD⟩, hS.F ht⟩) hS.2.2 dX3_findLag_87
  · replace hw := hw.2 c8
    refine lv_iconst (v := 0) hx hb dX3_findLag_15 (by decide) ?_
    refine lv_istore_n (lv' := [(2, .int (0 : Int32)), (1, .int x5), (0, .ref h0)]) hx hb dX3_findLag_16 rfl hl (by decide) rfl ?_; clear hl; clear ls; intro ls hl
    refine lv_sipush (v := 160) hx hb dX3_findLag_17 (by decide) ?_
    refine lv_istore_n (lv' := [(3, .int (160 : Int32)), (2, .int (0 : Int32)), (1, .int x5), (0, .ref h0)]) hx hb dX3_findLag_20 rfl hl (by decide) rfl ?_; clear hl; clear ls; intro ls hl
    obtain ⟨x9, e_x9⟩ : ∃ y : Int32, y = (160 : Int32) := ⟨_, rfl⟩
    replace hw := hw x9 e_x9
    replace hl : lv_has ls 4 [(3, .int x9), (2, .int (0 : Int32)), (1, .int x5), (0, .ref h0)] := by rw [e_x9]; exact hl
    clear e_x9
    obtain ⟨x10, e_x10⟩ : ∃ y : Int32, y = (0 : Int32) := ⟨_, rfl⟩
    replace hw := hw x10 e_x10
    replace hl : lv_has ls 4 [(3, .int x9), (2, .int x10), (1, .int x5), (0, .ref h0)] := by rw [e_x10]; exact hl
    clear e_x10
    replace hl := lv_sub (l' := [(3, .int x9), (2, .int x10), (1, .int x5), (0, .ref h0)]) hl [0, 1, 2, 3] rfl
    revert hl; revert hS; revert hD; revert hP; revert ls; revert locs; revert H
    revert hw; revert x10; revert x9
    refine Lz2_gr ?_; intro g11 ih12 x13 x14 hw
    intro H locs ls hP hD hS hl
    refine lv_iload_n hx hb dX3_findLag_21 rfl (lv_at hl 0 rfl) ?_
    refine lv_sipush (v := 192) hx hb dX3_findLag_22 (by decide) ?_
    refine jn0 (Gg := ∀ (H : Heap) (locs : List Loc) (ls : Array Slot), va_P (dC, dI) vwCl (w_X3_findLag h0 h_tree h_row h_made h_fresh cy x6 x7 c_row) H → va_D A (w_X3_findLag h0 h_tree h_row h_made h_fresh cy x6 x7 c_row) → va_S A s.heap H locs → lv_has ls 4 [(0, .ref h0), (1, .int x5), (2, .int x14)] → W p l e { frames := 1, cells := 0, slots := 0, locals := 30 } s m av below meth c H locs 0 0 Q0 (F0 m 63 ls [])) hw ?_ ?_ <;> clear hw
    · clear hP hD hS hl; clear H locs ls; intro  hw H locs ls hP hD hS hl
      clear ih12
      refine lv_iload_n hx hb dX3_findLag_63 rfl (lv_at hl 2 rfl) ?_
      refine lv_aload_n hx hb dX3_findLag_64 rfl (lv_at hl 0 rfl) ?_
      refine va_get (D := (dC, dI)) (ci := 3) (v := .int x7) (C := RX3) (T := TX3) (N := 6) hx hb hts inX3 hown hK hP 0 rfl rfl 5 (by decide) (hts _ (List.mem_cons_of_mem _ mw_164)) (fun _ h9 => h9) rfl dX3_findLag_65 ?_
      refine jn2 (Gg := fun (x17 : Int32) (x18 : Int32) => ∀ (H : Heap) (locs : List Loc) (ls : Array Slot), va_P (dC, dI) vwCl (w_X3_findLag h0 h_tree h_row h_made h_fresh cy x17 x18 c_row) H → va_D A (w_X3_findLag h0 h_tree h_row h_made h_fresh cy x17 x18 c_row) → va_S A s.heap H locs → lv_has ls 4 [(0, .ref h0), (1, .int x5)] → W p l e { frames := 1, cells := 0, slots := 0, locals := 30 } s m av below meth c H locs 0 0 Q0 (F0 m 81 ls [])) hw ?_ ?_ <;> clear hw
      · clear hP hD hS hl; clear H locs ls; intro x17 x18 hw H locs ls hP hD hS hl
        refine lv_iinc (v := x5 + 1) (lv' := [(1, .int (x5 + 1)), (0, .ref h0)]) hx hb dX3_findLag_81 hl (k := 1) rfl rfl (by decide) rfl ?_; clear hl; clear ls; intro ls hl
        refine lv_goto (tgt := 9) hx hb dX3_findLag_84 (by decide) ?_
        exact ih4 (x5 + 1) x17 x18 hw H locs ls hP hD hS (lv_sub hl [0, 1] rfl)
      · intro j20 hw
        refine lv_icmp_ge (tgt := 81) hx hb dX3_findLag_68 (by decide) (fun c21 => ?_) (fun c21 => ?_)
        · replace hw := hw.1 c21
          exact j20 x6 x7 hw H locs ls hP hD hS (lv_sub hl [0, 1] rfl)
        · replace hw := hw.2 c21
          refine lv_aload_n hx hb dX3_findLag_71 rfl (lv_at hl 0 rfl) ?_
          refine lv_iload_n hx hb dX3_findLag_72 rfl (lv_at hl 1 rfl) ?_
          refine va_put (D := (dC, dI)) (ci := 3) (v := .int x5) (ty := .int) (C := RX3) (T := TX3) (N := 6) hx hb hts inX3 tyX3 tyX3_ok nmX3 hown hK hP hD hS 0 rfl rfl 4 (by decide) (hts _ (List.mem_cons_of_mem _ mw_163)) (fun _ h9 => h9) rfl (by decide +kernel) rfl rfl (Nat.le_of_ble_eq_true rfl) dX3_findLag_73 ?_; clear hP hD hS; clear H locs; intro H locs hP hD hS
          replace hP : va_P (dC, dI) vwCl (w_X3_findLag h0 h_tree h_row h_made h_fresh cy x5 x7 c_row) H := hP
          replace hD : va_D A (w_X3_findLag h0 h_tree h_row h_made h_fresh cy x5 x7 c_row) := hD
          refine lv_aload_n hx hb dX3_findLag_76 rfl (lv_at hl 0 rfl) ?_
          refine lv_iload_n hx hb dX3_findLag_77 rfl (lv_at hl 2 rfl) ?_
          refine va_put (D := (dC, dI)) (ci := 3) (v := .int x14) (ty := .int) (C := RX3) (T := TX3) (N := 6) hx hb hts inX3 tyX3 tyX3_ok nmX3 hown hK hP hD hS 0 rfl rfl 5 (by decide) (hts _ (List.mem_cons_of_mem _ mw_164)) (fun _ h9 => h9) rfl (by decide +kernel) rfl rfl (Nat.le_of_ble_eq_true rfl) dX3_findLag_78 ?_; clear hP hD hS; clear H locs; intro H locs hP hD hS
          replace hP : va_P (dC, dI) vwCl (w_X3_findLag h0 h_tree h_row h_made h_fresh cy x5 x14 c_row) H := hP
          replace hD : va_D A (w_X3_findLag h0 h_tree h_row h_made h_fresh cy x5 x14 c_row) := hD
          exact j20 x5 x14 hw H locs ls hP hD hS (lv_sub hl [0, 1] rfl)
    · intro j16 hw
      refine lv_icmp_ge (tgt := 63) hx hb dX3_findLag_25 (by decide) (fun c22 => ?_) (fun c22 => ?_)
      · replace hw := hw.1 c22
        exact j16 hw H locs ls hP hD hS (lv_sub hl [3, 2, 1] rfl)
      · replace hw := hw.2 c22
        refine lv_iload_n hx hb dX3_findLag_28 rfl (lv_at hl 1 rfl) ?_
        refine lv_aload_n hx hb dX3_findLag_29 rfl (lv_at hl 3 rfl) ?_
        refine va_get (D := (dC, dI)) (ci := 3) (v := .int x7) (C := RX3) (T := TX3) (N := 6) hx hb hts inX3 hown hK hP 0 rfl rfl 5 (by decide) (hts _ (List.mem_cons_of_mem _ mw_164)) (fun _ h9 => h9) rfl dX3_findLag_30 ?_
        refine lv_icmp_ge (tgt := 63) hx hb dX3_findLag_33 (by decide) (fun c23 => ?_) (fun c23 => ?_)
        · replace hw := hw.1 c23
          exact j16 hw H locs ls hP hD hS (lv_sub hl [3, 2, 1] rfl)
        · replace hw := hw.2 c23
          refine lv_iload_n hx hb dX3_findLag_36 rfl (lv_at hl 1 rfl) ?_
          refine lv_aload_n hx hb dX3_findLag_37 rfl (lv_at hl 3 rfl) ?_
          refine va_get (D := (dC, dI)) (ci := 3) (v := .ref h_row) (C := RX3) (T := TX3) (N := 6) hx hb hts inX3 hown hK hP 0 rfl rfl 1 (by decide) (hts _ (List.mem_cons_of_mem _ mw_160)) (fun _ h9 => h9) rfl dX3_findLag_38 ?_
          refine lv_iload_n hx hb dX3_findLag_41 rfl (lv_at hl 0 rfl) ?_
          obtain ⟨h24, hw⟩ := hw
          refine xiald (k := x13.toNatClampNeg) hx hb hK hP 1 0 rfl rfl h24 rfl dX3_findLag_42 ?_
          refine lv_aload_n hx hb dX3_findLag_43 rfl (lv_at hl 3 rfl) ?_
          refine va_get (D := (dC, dI)) (ci := 3) (v := .ref h_row) (C := RX3) (T := TX3) (N := 6) hx hb hts inX3 hown hK hP 0 rfl rfl 1 (by decide) (hts _ (List.mem_cons_of_mem _ mw_160)) (fun _ h9 => h9) rfl dX3_findLag_44 ?_
          refine lv_iload_n hx hb dX3_findLag_47 rfl (lv_at hl 0 rfl) ?_
          refine lv_iload_n hx hb dX3_findLag_48 rfl (lv_at hl 2 rfl) ?_
          refine lv_isub hx hb dX3_findLag_49 ?_
          obtain ⟨h25, hw⟩ := hw
          refine xiald (k := (x13 - x5).toNatClampNeg) hx hb hK hP 1 0 rfl rfl h25 rfl dX3_findLag_50 ?_
          refine lv_isub hx hb dX3_findLag_51 ?_
          refine va_mabs hx hb (by rw [hml]; exact hl.1.symm) hown (hts _ (List.mem_cons_of_mem _ mw_544)) (hts _ (List.mem_cons_of_mem _ mw_296)) (hts _ (List.mem_cons_of_mem _ mw_76)) (hts _ (List.mem_cons_of_mem _ mw_297)) (Nat.le_of_ble_eq_true rfl) (Nat.le_of_ble_eq_true rfl) (Nat.zero_le _) (Nat.zero_le _) dX3_findLag_52 ?_
          refine lv_topi (fun x26 e_x26 => ?_)
          replace hw := hw x26 e_x26
          clear e_x26
          refine lv_iadd hx hb dX3_findLag_55 ?_
          refine lv_topi (fun x27 e_x27 => ?_)
          replace hw := hw x27 e_x27
          clear e_x27
          refine lv_istore_n (lv' := [(2, .int x27), (3, .int x13), (1, .int x5), (0, .ref h0)]) hx hb dX3_findLag_56 rfl hl (by decide) rfl ?_; clear hl; clear ls; intro ls hl
          refine lv_iinc (v := x13 + 1) (lv' := [(3, .int (x13 + 1)), (2, .int x27), (1, .int x5), (0, .ref h0)]) hx hb dX3_findLag_57 hl (k := 1) rfl rfl (by decide) rfl ?_; clear hl; clear ls; intro ls hl
          refine lv_goto (tgt := 21) hx hb dX3_findLag_60 (by decide) ?_
          exact ih12 (x13 + 1) x27 hw H locs ls hP hD hS (lv_sub hl [0, 1, 2, 3] rfl)
set_option maxHeartbeats 4000000 in
set_option maxRecDepth 100000 in
theorem c_X3_makeUp (l : Launch) (dC : Nat → ClassId) (dI : Nat → Nat → Nat) (cy : Nat → ClassId) (h0 h_tree h_row h_made h_fresh : Nat) (sz : Nat) (v1 : Int32) (c_lag : Int32) (c_lagSum : Int32) (c_row : Nat → Int32) (c_made : Nat → Int32) (post : Int32 → Int32 → (Nat → Int32) → (Nat → Int32) → Prop) (hw : wp_X3_makeUp v1 c_lag c_lagSum c_row c_made post) : Met l yX3_makeUp wsX3_makeUp ({ frames := 2, cells := 0, slots := 0, locals := 53 }) (PX dC dI cy [.ref h0, .int v1] sz (w_X3_makeUp h0 h_tree h_row h_made h_fresh cy c_lag c_lagSum c_row c_made)) (va_Qv (fun (u : Int32 × Int32 × (Nat → Int32) × (Nat → Int32)) => post u.1 u.2.1 u.2.2.1 u.2.2.2) (QX dC dI cy (va_A (w_X3_makeUp h0 h_tree h_row h_made h_fresh cy c_lag c_lagSum c_row c_made) sz) (fun (u : Int32 × Int32 × (Nat → Int32) × (Nat → Int32)) => w_X3_makeUp h0 h_tree h_row h_made h_fresh cy u.1 u.2.1 u.2.2.1 u.2.2.2)) (va_A (w_X3_makeUp h0 h_tree h_row h_made h_fresh cy c_lag c_lagSum c_row c_made) sz)) 0 0 (va_A (w_X3_makeUp h0 h_tree h_row h_made h_fresh cy c_lag c_lagSum c_row c_made) sz) := by
  refine Met.ofW (cc := cX3_makeUp) (maxL := 3) (ret := none) (by decide) rfl ?_
  intro p e s m args below meth c s₁ B hml hv
  obtain ⟨rfl, hsz, hP, hK, hD0, hG⟩ := hv
  have hx := B.exec
  have hb := B.bytes
  have hr := B.returns
  have hts := atoms_spec (ws := wsX3_makeUp) B.pre
  have hown : s.vm.findClass RX3 = some m.cls := findClass_of_methodNamed B.named
  have hlocks := B.notSynchronized
  subst hsz
  have hD := hD0.self (sz := s.heap.size)
  generalize hAe : va_A (w_X3_makeUp h0 h_tree h_row h_made h_fresh cy c_lag c_lagSum c_row c_made) s.heap.size = A at hD ⊢
  have hA : ∀ q : Nat, s.heap.size ≤ q → A q := fun q h => by rw [← hAe]; exact Or.inr h
  have hS : va_S A s.heap s.heap [] := va_S.rf
  have hl := lv_entry ([.ref h0, .int v1]) (n := 3) (Nat.le_of_ble_eq_true rfl)
  rw [lg_entry_eq]
  generalize (lg_sl ([.ref h0, .int v1]) ++ List.replicate (3 - (lg_sl ([.ref h0, .int v1])).length) Slot.unset).toArray = ls at hl ⊢
  replace hl : lv_has ls 3 [(0, .ref h0), (1, .int v1)] := hl
  have inX3 : ∀ w ∈ u_ws RX3 TX3 6, w ∈ wsX3_makeUp := fun w h => List.mem_cons_of_mem _ (inlX3 w h)
  clear hAe hD0 B
  unfold wp_X3_makeUp at hw
  generalize hQe : MQ below _ _ s _ _ _ = Q0
  generalize ([.ref h0, .int v1] : List Value).toArray = av at *
  obtain ⟨H, hH⟩ : ∃ H, H = s.heap := ⟨_, rfl⟩
  obtain ⟨locs, hlo⟩ : ∃ L : List Loc, L = [] := ⟨_, rfl⟩
  replace hP : va_P (dC, dI) vwCl (w_X3_makeUp h0 h_tree h_row h_made h_fresh cy c_lag c_lagSum c_row c_made) H := by rw [hH]; exact hP
  replace hS : va_S A s.heap H locs := by rw [hH, hlo]; exact hS
  suffices hgo : W p l e ({ frames := 2, cells := 0, slots := 0, locals := 53 }) s m av below meth c H locs 0 0 Q0 (F0 m 0 ls []) by rw [hH, hlo] at hgo; exact hgo
  clear hH hlo
  refine lv_aload_n hx hb dX3_makeUp_0 rfl (lv_at hl 0 rfl) ?_
  have hPc := pSub (ws' := (w_X3_findLag h0 h_tree h_row h_made h_fresh cy c_lag c_lagSum c_row)) hP [0, 1] rfl
  have hDc := dSub (ws' := (w_X3_findLag h0 h_tree h_row h_made h_fresh cy c_lag c_lagSum c_row)) hD [0, 1] (by decide) rfl
  have hFc := va_free (wc := (w_X3_findLag h0 h_tree h_row h_made h_fresh cy c_lag c_lagSum c_row)) hD hS hA [0, 1] rfl
  refine va_callv (va_runV (As := []) (rest := []) ⟨hx, hb, hml, hown, hts⟩ (c_X3_findLag l dC dI cy h0 h_tree h_row h_made h_fresh H.size c_lag c_lagSum c_row _ hw) (cwV 0 hts (goodV mw_542 mw_539 mw_540 mw_541 mw_147) rfl rfl rfl (by decide +kernel) ⟨Nat.le_of_ble_eq_true rfl, Nat.le_of_ble_eq_true rfl⟩) ⟨PX_blind, va_recv hK hPc (ci := 3) (q0 := 0) rfl rfl, PX_pre hPc hK hDc hG⟩ rfl rfl hl.1 rfl (lv_room (Nat.le_of_ble_eq_true rfl)) dX3_makeUp_1 ⟨Nat.zero_le _, Nat.zero_le _⟩) hS (fun q _ h => hFc q h) hFc ?_; clear hw hS; intro u t H1 locs1 ht hvm hw hB hz1 hk1 hS
  obtain ⟨x1, x2⟩ := u
  try dsimp only at hw
  obtain ⟨hP1, -, -⟩ := hB
  rw [ht] at hP1
  replace hP := jC0 hP hD [0, 1] [2] rfl hk1 hP1 (w_X3_makeUp h0 h_tree h_row h_made h_fresh cy x1 x2 c_row c_made) rfl rfl rfl 3 rfl (by decide +kernel); clear hD; obtain ⟨hP, hD⟩ := hP
  replace hP : va_P (dC, dI) vwCl (w_X3_makeUp h0 h_tree h_row h_made h_fresh cy x1 x2 c_row c_made) H1 := hP
  replace hD : va_D A (w_X3_makeUp h0 h_tree h_row h_made h_fresh cy x1 x2 c_row c_made) := hD
  clear hPc hDc hFc hP1 hk1 hz1 hvm ht; clear t; clear H locs; obtain ⟨H, hH⟩ : ∃ H, H = H1 := ⟨_, rfl⟩; obtain ⟨locs, hlo⟩ : ∃ L, L = locs1 := ⟨_, rfl⟩; subst hH; subst hlo
  refine W.widen (k := 0) (n := 0) (Nat.le_refl 0) (Nat.le_refl 0) ?_
  refine lv_iconst (v := 0) hx hb dX3_makeUp_4 (by decide) ?_
  refine lv_istore_n (lv' := [(2, .int (0 : Int32)), (0, .ref h0), (1, .int v1)]) hx hb dX3_makeUp_5 rfl hl (by decide) rfl ?_; clear hl; clear ls; intro ls hl
  obtain ⟨x3, e_x3⟩ : ∃ y : Int32, y = (0 : Int32) := ⟨_, rfl⟩
  replace hw := hw x3 e_x3
  replace hl : lv_has ls 3 [(2, .int x3), (0, .ref h0), (1, .int v1)] := by rw [e_x3]; exact hl
  clear e_x3
  replace hl := lv_sub (l' := [(2, .int x3), (0, .ref h0), (1, .int v1)]) hl [0, 1, 2] rfl
  revert hl; revert hS; revert hD; revert hP; revert ls; revert locs; revert H
  revert hw; revert c_made; revert c_row; revert x3
  refine Lz3_gr ?_; intro g4 ih5 x6 f7 f8 hw
  intro H locs ls hP hD hS hl
  refine lv_iload_n hx hb dX3_makeUp_6 rfl (lv_at hl 0 rfl) ?_
  refine lv_bipush (v := 32) hx hb dX3_makeUp_7 (by decide) ?_
  refine lv_icmp_ge (tgt := 63) hx hb dX3_makeUp_9 (by decide) (fun c9 => ?_) (fun c9 => ?_)
  · replace hw := hw.1 c9
    clear ih5
    subst hQe
    exact W.vret hx hb hr (fun t ht hW => ⟨⟨(x1, x2, f7, f8), rfl, hw, by rw [ht]; exact hP, va_K.moved hW.alike hK, hD⟩, hS.F ht⟩) hS.2.2 dX3_makeUp_63
  · replace hw := hw.2 c9
    refine lv_aload_n hx hb dX3_makeUp_12 rfl (lv_at hl 1 rfl) ?_
    refine va_get (D := (dC, dI)) (ci := 3) (v := .ref h_row) (C := RX3) (T := TX3) (N := 6) hx hb hts inX3 hown hK hP 0 rfl rfl 1 (by decide) (hts _ (List.mem_cons_of_mem _ mw_160)) (fun _ h9 => h9) rfl dX3_makeUp_13 ?_
    refine lv_sipush (v := 192) hx hb dX3_makeUp_16 (by decide) ?_
    refine lv_iload_n hx hb dX3_makeUp_19 rfl (lv_at hl 0 rfl) ?_
    refine lv_iadd hx hb dX3_makeUp_20 ?_
    refine lv_aload_n hx hb dX3_makeUp_21 rfl (lv_at hl 1 rfl) ?_
    refine va_get (D := (dC, dI)) (ci := 3) (v := .ref h_row) (C := RX3) (T := TX3) (N := 6) hx hb hts inX3 hown hK hP 0 rfl rfl 1 (by decide) (hts _ (List.mem_cons_of_mem _ mw_160)) (fun _ h9 => h9) rfl dX3_makeUp_22 ?_
    refine lv_sipush (v := 192) hx hb dX3_makeUp_25 (by decide) ?_
    refine lv_iload_n hx hb dX3_makeUp_28 rfl (lv_at hl 0 rfl) ?_
    refine lv_iadd hx hb dX3_makeUp_29 ?_
    refine lv_aload_n hx hb dX3_makeUp_30 rfl (lv_at hl 1 rfl) ?_
    refine va_get (D := (dC, dI)) (ci := 3) (v := .int x1) (C := RX3) (T := TX3) (N := 6) hx hb hts inX3 hown hK hP 0 rfl rfl 4 (by decide) (hts _ (List.mem_cons_of_mem _ mw_163)) (fun _ h9 => h9) rfl dX3_makeUp_31 ?_
    refine lv_isub hx hb dX3_makeUp_34 ?_
    obtain ⟨h10, hw⟩ := hw
    refine xiald (k := (((192 : Int32) + x6) - x1).toNatClampNeg) hx hb hK hP 1 0 rfl rfl h10 rfl dX3_makeUp_35 ?_
    obtain ⟨h11, hw⟩ := hw
    refine xiast (k := ((192 : Int32) + x6).toNatClampNeg) hx hb hK hP hD hS 1 0 rfl rfl h11 rfl dX3_makeUp_36 ?_; clear hP hD hS; clear H locs; intro f12 e_f12 H locs hP hD hS
    replace hw := hw f12 e_f12
    clear e_f12
    replace hP : va_P (dC, dI) vwCl (w_X3_makeUp h0 h_tree h_row h_made h_fresh cy x1 x2 f12 f8) H := hP
    replace hD : va_D A (w_X3_makeUp h0 h_tree h_row h_made h_fresh cy x1 x2 f12 f8) := hD
    refine lv_aload_n hx hb dX3_makeUp_37 rfl (lv_at hl 1 rfl) ?_
    refine va_get (D := (dC, dI)) (ci := 3) (v := .ref h_made) (C := RX3) (T := TX3) (N := 6) hx hb hts inX3 hown hK hP 0 rfl rfl 2 (by decide) (hts _ (List.mem_cons_of_mem _ mw_161)) (fun _ h9 => h9) rfl dX3_makeUp_38 ?_
    refine lv_iload_n hx hb dX3_makeUp_41 rfl (lv_at hl 0 rfl) ?_
    refine lv_aload_n hx hb dX3_makeUp_42 rfl (lv_at hl 1 rfl) ?_
    refine va_get (D := (dC, dI)) (ci := 3) (v := .ref h_row) (C := RX3) (T := TX3) (N := 6) hx hb hts inX3 hown hK hP 0 rfl rfl 1 (by decide) (hts _ (List.mem_cons_of_mem _ mw_160)) (fun _ h9 => h9) rfl dX3_makeUp_43 ?_
    refine lv_sipush (v := 192) hx hb dX3_makeUp_46 (by decide) ?_
    refine lv_iload_n hx hb dX3_makeUp_49 rfl (lv_at hl 0 rfl) ?_
    refine lv_iadd hx hb dX3_makeUp_50 ?_
    obtain ⟨h13, hw⟩ := hw
    refine xiald (k := ((192 : Int32) + x6).toNatClampNeg) hx hb hK hP 1 0 rfl rfl h13 rfl dX3_makeUp_51 ?_
    refine lv_iload_n hx hb dX3_makeUp_52 rfl (lv_at hl 2 rfl) ?_
    refine lv_imul hx hb dX3_makeUp_53 ?_
    refine lv_iconst (v := 3) hx hb dX3_makeUp_54 (by decide) ?_
    refine lv_ishr hx hb dX3_makeUp_55 ?_
    obtain ⟨h14, hw⟩ := hw
    refine xiast (k := x6.toNatClampNeg) hx hb hK hP hD hS 2 0 rfl rfl h14 rfl dX3_makeUp_56 ?_; clear hP hD hS; clear H locs; intro f15 e_f15 H locs hP hD hS
    replace hw := hw f15 e_f15
    clear e_f15
    replace hP : va_P (dC, dI) vwCl (w_X3_makeUp h0 h_tree h_row h_made h_fresh cy x1 x2 f12 f15) H := hP
    replace hD : va_D A (w_X3_makeUp h0 h_tree h_row h_made h_fresh cy x1 x2 f12 f15) := hD
    refine lv_iinc (v := x6 + 1) (lv' := [(2, .int (x6 + 1)), (0, .ref h0), (1, .int v1)]) hx hb dX3_makeUp_57 hl (k := 0) rfl rfl (by decide) rfl ?_; clear hl; clear ls; intro ls hl
    refine lv_goto (tgt := 6) hx hb dX3_makeUp_60 (by decide) ?_
    exact ih5 (x6 + 1) f12 f15 hw H locs ls hP hD hS (lv_sub hl [0, 1, 2] rfl)
set_option maxHeartbeats 4000000 in
set_option maxRecDepth 100000 in
theorem c_X9_joinRow (l : Launch) (dC : Nat → ClassId) (dI : Nat → Nat → Nat) (cy : Nat → ClassId) (h0 h_memoriesA h_memoriesB h_row h_next : Nat) (sz : Nat) (v1 : Int32) (v2 : Int32) (v3 : Int32) (c_row : Nat → Int32) (c_memoriesB : Nat → Int32) (c_memoriesA : Nat → Int32) (c_next : Nat → Int32) (post : (Nat → Int32) → (Nat → Int32) → (Nat → Int32) → Prop) (hw : wp_X9_joinRow v1 v2 v3 c_row c_memoriesB c_memoriesA c_next post) : Met l yX9_joinRow wsX9_joinRow ({ frames := 0, cells := 0, slots := 0, locals := 0 }) (PX dC dI cy [.ref h0, .int v1, .int v2, .int v3] sz (w_X9_joinRow h0 h_memoriesA h_memoriesB h_row h_next cy c_row c_memoriesB c_memoriesA c_next)) (va_Qv (fun (u : (Nat → Int32) × (Nat → Int32) × (Nat → Int32)) => post u.1 u.2.1 u.2.2) (QX dC dI cy (va_A (w_X9_joinRow h0 h_memoriesA h_memoriesB h_row h_next cy c_row c_memoriesB c_memoriesA c_next) sz) (fun (u : (Nat → Int32) × (Nat → Int32) × (Nat → Int32)) => w_X9_joinRow h0 h_memoriesA h_memoriesB h_row h_next cy c_row u.1 u.2.1 u.2.2)) (va_A (w_X9_joinRow h0 h_memoriesA h_memoriesB h_row h_next cy c_row c_memoriesB c_memoriesA c_next) sz)) 0 0 (va_A (w_X9_joinRow h0 h_memoriesA h_memoriesB h_row h_next cy c_row c_memoriesB c_memoriesA c_next) sz) := by
  refine Met.ofW (cc := cX9_joinRow) (maxL := 8) (ret := none) (by decide) rfl ?_
  intro p e s m args below meth c s₁ B hml hv
  obtain ⟨rfl, hsz, hP, hK, hD0, hG⟩ := hv
  have hx := B.exec
  have hb := B.bytes
  have hr := B.returns
  have hts := atoms_spec (ws := wsX9_joinRow) B.pre
  have hown : s.vm.findClass RX9 = some m.cls := findClass_of_methodNamed B.named
  have hlocks := B.notSynchronized
  subst hsz
  have hD := hD0.self (sz := s.heap.size)
  generalize hAe : va_A (w_X9_joinRow h0 h_memoriesA h_memoriesB h_row h_next cy c_row c_memoriesB c_memoriesA c_next) s.heap.size = A at hD ⊢
  have hA : ∀ q : Nat, s.heap.size ≤ q → A q := fun q h => by rw [← hAe]; exact Or.inr h
  have hS : va_S A s.heap s.heap [] := va_S.rf
  have hl := lv_entry ([.ref h0, .int v1, .int v2, .int v3]) (n := 8) (Nat.le_of_ble_eq_true rfl)
  rw [lg_entry_eq]
  generalize (lg_sl ([.ref h0, .int v1, .int v2, .int v3]) ++ List.replicate (8 - (lg_sl ([.ref h0, .int v1, .int v2, .int v3])).length) Slot.unset).toArray = ls at hl ⊢
  replace hl : lv_has ls 8 [(0, .ref h0), (1, .int v1), (2, .int v2), (3, .int v3)] := hl
  have inX9 : ∀ w ∈ u_ws RX9 TX9 4, w ∈ wsX9_joinRow := fun w h => List.mem_cons_of_mem _ (inlX9 w h)
  clear hAe hD0 B
  unfold wp_X9_joinRow at hw
  generalize hQe : MQ below _ _ s _ _ _ = Q0
  generalize ([.ref h0, .int v1, .int v2, .int v3] : List Value).toArray = av at *
  obtain ⟨H, hH⟩ : ∃ H, H = s.heap := ⟨_, rfl⟩
  obtain ⟨locs, hlo⟩ : ∃ L : List Loc, L = [] := ⟨_, rfl⟩
  replace hP : va_P (dC, dI) vwCl (w_X9_joinRow h0 h_memoriesA h_memoriesB h_row h_next cy c_row c_memoriesB c_memoriesA c_next) H := by rw [hH]; exact hP
  replace hS : va_S A s.heap H locs := by rw [hH, hlo]; exact hS
  suffices hgo : W p l e ({ frames := 0, cells := 0, slots := 0, locals := 0 }) s m av below meth c H locs 0 0 Q0 (F0 m 0 ls []) by rw [hH, hlo] at hgo; exact hgo
  clear hH hlo
  refine lv_iconst (v := 0) hx hb dX9_joinRow_0 (by decide) ?_
  refine lv_istore (lv' := [(4, .int (0 : Int32)), (0, .ref h0), (1, .int v1), (2, .int v2), (3, .int v3)]) hx hb dX9_joinRow_1 hl (by decide) rfl ?_; clear hl; clear ls; intro ls hl
  obtain ⟨x1, e_x1⟩ : ∃ y : Int32, y = (0 : Int32) := ⟨_, rfl⟩
  replace hw := hw x1 e_x1
  replace hl : lv_has ls 8 [(4, .int x1), (0, .ref h0), (1, .int v1), (2, .int v2), (3, .int v3)] := by rw [e_x1]; exact hl
  clear e_x1
  replace hl := lv_sub (l' := [(4, .int x1), (0, .ref h0), (1, .int v1), (2, .int v2), (3, .int v3)]) hl [0, 1, 2, 3, 4] rfl
  revert hl; revert hS; revert hD; revert hP; revert ls; revert locs; revert H
  revert hw; revert c_next; revert c_memoriesA; revert c_memoriesB; revert x1
  refine Lz4_gr ?_; intro g2 ih3 x4 f5 f6 f7 hw
  intro H locs ls hP hD hS hl
  refine lv_iload hx hb dX9_joinRow_3 (lv_at hl 0 rfl) ?_
  refine lv_iload_n hx hb dX9_joinRow_5 rfl (lv_at hl 4 rfl) ?_
  refine lv_icmp_ge (tgt := 111) hx hb dX9_joinRow_6 (by decide) (fun c8 => ?_) (fun c8 => ?_)
  · replace hw := hw.1 c8
    clear ih3
    subst hQe
    exact W.vret hx hb hr (fun t ht hW => ⟨⟨(f5, f6, f7), rfl, hw, by rw [ht]; exact hP, va_K.moved hW.alike hK, hD⟩, hS.F ht⟩) hS.2.2 dX9_joinRow_111
  · replace hw := hw.2 c8
    refine lv_aload_n hx hb dX9_joinRow_9 rfl (lv_at hl 1 rfl) ?_
    refine va_get (D := (dC, dI)) (ci := 9) (v := .ref h_row) (C := RX9) (T := TX9) (N := 4) hx hb hts inX9 hown hK hP 0 rfl rfl 2 (by decide) (hts _ (List.mem_cons_of_mem _ mw_115)) (fun _ h9 => h9) rfl dX9_joinRow_10 ?_
    refine lv_iload_n hx hb dX9_joinRow_13 rfl (lv_at hl 3 rfl) ?_
    refine lv_iload hx hb dX9_joinRow_14 (lv_at hl 0 rfl) ?_
    refine lv_iadd hx hb dX9_joinRow_16 ?_
    obtain ⟨h9, hw⟩ := hw
    refine xiald (k := (v2 + x4).toNatClampNeg) hx hb hK hP 1 0 rfl rfl h9 rfl dX9_joinRow_17 ?_
    refine lv_topi (fun x10 e_x10 => ?_)
    replace hw := hw x10 e_x10
    clear e_x10
    refine lv_istore (lv' := [(5, .int x10), (4, .int x4), (0, .ref h0), (1, .int v1), (2, .int v2), (3, .int v3)]) hx hb dX9_joinRow_18 hl (by decide) rfl ?_; clear hl; clear ls; intro ls hl
    refine lv_aload_n hx hb dX9_joinRow_20 rfl (lv_at hl 2 rfl) ?_
    refine va_get (D := (dC, dI)) (ci := 9) (v := .ref h_row) (C := RX9) (T := TX9) (N := 4) hx hb hts inX9 hown hK hP 0 rfl rfl 2 (by decide) (hts _ (List.mem_cons_of_mem _ mw_115)) (fun _ h9 => h9) rfl dX9_joinRow_21 ?_
    refine lv_iload_n hx hb dX9_joinRow_24 rfl (lv_at hl 4 rfl) ?_
    refine lv_iload_n hx hb dX9_joinRow_25 rfl (lv_at hl 5 rfl) ?_
    refine lv_iadd hx hb dX9_joinRow_26 ?_
    refine lv_iload hx hb dX9_joinRow_27 (lv_at hl 1 rfl) ?_
    refine lv_iadd hx hb dX9_joinRow_29 ?_
    obtain ⟨h11, hw⟩ := hw
    refine xiald (k := ((v2 + v3) + x4).toNatClampNeg) hx hb hK hP 1 0 rfl rfl h11 rfl dX9_joinRow_30 ?_
    refine lv_topi (fun x12 e_x12 => ?_)
    replace hw := hw x12 e_x12
    clear e_x12
    refine lv_istore (lv' := [(6, .int x12), (5, .int x10), (4, .int x4), (0, .ref h0), (1, .int v1), (2, .int v2), (3, .int v3)]) hx hb dX9_joinRow_31 hl (by decide) rfl ?_; clear hl; clear ls; intro ls hl
    refine lv_iload hx hb dX9_joinRow_33 (lv_at hl 1 rfl) ?_
    refine lv_aload_n hx hb dX9_joinRow_35 rfl (lv_at hl 3 rfl) ?_
    refine va_get (D := (dC, dI)) (ci := 9) (v := .ref h_memoriesB) (C := RX9) (T := TX9) (N := 4) hx hb hts inX9 hown hK hP 0 rfl rfl 1 (by decide) (hts _ (List.mem_cons_of_mem _ mw_114)) (fun _ h9 => h9) rfl dX9_joinRow_36 ?_
    refine lv_iload_n hx hb dX9_joinRow_39 rfl (lv_at hl 4 rfl) ?_
    obtain ⟨h13, hw⟩ := hw
    refine xiald (k := v1.toNatClampNeg) hx hb hK hP 2 0 rfl rfl h13 rfl dX9_joinRow_40 ?_
    refine lv_iload hx hb dX9_joinRow_41 (lv_at hl 0 rfl) ?_
    refine lv_iadd hx hb dX9_joinRow_43 ?_
    refine lv_iconst (v := 2) hx hb dX9_joinRow_44 (by decide) ?_
    refine lv_ishr hx hb dX9_joinRow_45 ?_
    refine lv_isub hx hb dX9_joinRow_46 ?_
    refine lv_topi (fun x14 e_x14 => ?_)
    replace hw := hw x14 e_x14
    clear e_x14
    refine lv_istore (lv' := [(7, .int x14), (6, .int x12), (5, .int x10), (4, .int x4), (0, .ref h0), (1, .int v1), (2, .int v2), (3, .int v3)]) hx hb dX9_joinRow_47 hl (by decide) rfl ?_; clear hl; clear ls; intro ls hl
    refine lv_aload_n hx hb dX9_joinRow_49 rfl (lv_at hl 4 rfl) ?_
    refine va_get (D := (dC, dI)) (ci := 9) (v := .ref h_next) (C := RX9) (T := TX9) (N := 4) hx hb hts inX9 hown hK hP 0 rfl rfl 3 (by decide) (hts _ (List.mem_cons_of_mem _ mw_116)) (fun _ h9 => h9) rfl dX9_joinRow_50 ?_
    refine lv_iload_n hx hb dX9_joinRow_53 rfl (lv_at hl 6 rfl) ?_
    refine lv_iconst (v := 2) hx hb dX9_joinRow_54 (by decide) ?_
    refine lv_iload hx hb dX9_joinRow_55 (lv_at hl 3 rfl) ?_
    refine lv_imul hx hb dX9_joinRow_57 ?_
    refine lv_iadd hx hb dX9_joinRow_58 ?_
    refine lv_iload hx hb dX9_joinRow_59 (lv_at hl 1 rfl) ?_
    refine lv_aload_n hx hb dX9_joinRow_61 rfl (lv_at hl 4 rfl) ?_
    refine va_get (D := (dC, dI)) (ci := 9) (v := .ref h_memoriesA) (C := RX9) (T := TX9) (N := 4) hx hb hts inX9 hown hK hP 0 rfl rfl 0 (by decide) (hts _ (List.mem_cons_of_mem _ mw_113)) (fun _ h9 => h9) rfl dX9_joinRow_62 ?_
    refine lv_iload_n hx hb dX9_joinRow_65 rfl (lv_at hl 5 rfl) ?_
    obtain ⟨h15, hw⟩ := hw
    refine xiald (k := v1.toNatClampNeg) hx hb hK hP 3 0 rfl rfl h15 rfl dX9_joinRow_66 ?_
    refine lv_iload hx hb dX9_joinRow_67 (lv_at hl 0 rfl) ?_
    refine lv_iadd hx hb dX9_joinRow_69 ?_
    refine lv_iconst (v := 1) hx hb dX9_joinRow_70 (by decide) ?_
    refine lv_ishr hx hb dX9_joinRow_71 ?_
    refine lv_iadd hx hb dX9_joinRow_72 ?_
    obtain ⟨h16, hw⟩ := hw
    refine xiast (k := (v2 + ((2 : Int32) * x4)).toNatClampNeg) hx hb hK hP hD hS 4 0 rfl rfl h16 rfl dX9_joinRow_73 ?_; clear hP hD hS; clear H locs; intro f17 e_f17 H locs hP hD hS
    replace hw := hw f17 e_f17
    clear e_f17
    replace hP : va_P (dC, dI) vwCl (w_X9_joinRow h0 h_memoriesA h_memoriesB h_row h_next cy c_row f5 f6 f17) H := hP
    replace hD : va_D A (w_X9_joinRow h0 h_memoriesA h_memoriesB h_row h_next cy c_row f5 f6 f17) := hD
    refine lv_aload_n hx hb dX9_joinRow_74 rfl (lv_at hl 4 rfl) ?_
    refine va_get (D := (dC, dI)) (ci := 9) (v := .ref h_next) (C := RX9) (T := TX9) (N := 4) hx hb hts inX9 hown hK hP 0 rfl rfl 3 (by decide) (hts _ (List.mem_cons_of_mem _ mw_116)) (fun _ h9 => h9) rfl dX9_joinRow_75 ?_
    refine lv_iload_n hx hb dX9_joinRow_78 rfl (lv_at hl 6 rfl) ?_
    refine lv_iconst (v := 2) hx hb dX9_joinRow_79 (by decide) ?_
    refine lv_iload hx hb dX9_joinRow_80 (lv_at hl 3 rfl) ?_
    refine lv_imul hx hb dX9_joinRow_82 ?_
    refine lv_iadd hx hb dX9_joinRow_83 ?_
    refine lv_iconst (v := 1) hx hb dX9_joinRow_84 (by decide) ?_
    refine lv_iadd hx hb dX9_joinRow_85 ?_
    refine lv_iload hx hb dX9_joinRow_86 (lv_at hl 0 rfl) ?_
    obtain ⟨h18, hw⟩ := hw
    refine xiast (k := ((v2 + ((2 : Int32) * x4)) + (1 : Int32)).toNatClampNeg) hx hb hK hP hD hS 4 0 rfl rfl h18 rfl dX9_joinRow_88 ?_; clear hP hD hS; clear H locs; intro f19 e_f19 H locs hP hD hS
    replace hw := hw f19 e_f19
    clear e_f19
    replace hP : va_P (dC, dI) vwCl (w_X9_joinRow h0 h_memoriesA h_memoriesB h_row h_next cy c_row f5 f6 f19) H := hP
    replace hD : va_D A (w_X9_joinRow h0 h_memoriesA h_memoriesB h_row h_next cy c_row f5 f6 f19) := hD
    refine lv_aload_n hx hb dX9_joinRow_89 rfl (lv_at hl 4 rfl) ?_
    refine va_get (D := (dC, dI)) (ci := 9) (v := .ref h_memoriesA) (C := RX9) (T := TX9) (N := 4) hx hb hts inX9 hown hK hP 0 rfl rfl 0 (by decide) (hts _ (List.mem_cons_of_mem _ mw_113)) (fun _ h9 => h9) rfl dX9_joinRow_90 ?_
    refine lv_iload_n hx hb dX9_joinRow_93 rfl (lv_at hl 5 rfl) ?_
    refine lv_iload hx hb dX9_joinRow_94 (lv_at hl 0 rfl) ?_
    obtain ⟨h20, hw⟩ := hw
    refine xiast (k := v1.toNatClampNeg) hx hb hK hP hD hS 3 0 rfl rfl h20 rfl dX9_joinRow_96 ?_; clear hP hD hS; clear H locs; intro f21 e_f21 H locs hP hD hS
    replace hw := hw f21 e_f21
    clear e_f21
    replace hP : va_P (dC, dI) vwCl (w_X9_joinRow h0 h_memoriesA h_memoriesB h_row h_next cy c_row f5 f21 f19) H := hP
    replace hD : va_D A (w_X9_joinRow h0 h_memoriesA h_memoriesB h_row h_next cy c_row f5 f21 f19) := hD
    refine lv_aload_n hx hb dX9_joinRow_97 rfl (lv_at hl 4 rfl) ?_
    refine va_get (D := (dC, dI)) (ci := 9) (v := .ref h_memoriesB) (C := RX9) (T := TX9) (N := 4) hx hb hts inX9 hown hK hP 0 rfl rfl 1 (by decide) (hts _ (List.mem_cons_of_mem _ mw_114)) (fun _ h9 => h9) rfl dX9_joinRow_98 ?_
    refine lv_iload_n hx hb dX9_joinRow_101 rfl (lv_at hl 5 rfl) ?_
    refine lv_iload hx hb dX9_joinRow_102 (lv_at hl 1 rfl) ?_
    obtain ⟨h22, hw⟩ := hw
    refine xiast (k := v1.toNatClampNeg) hx hb hK hP hD hS 2 0 rfl rfl h22 rfl dX9_joinRow_104 ?_; clear hP hD hS; clear H locs; intro f23 e_f23 H locs hP hD hS
    replace hw := hw f23 e_f23
    clear e_f23
    replace hP : va_P (dC, dI) vwCl (w_X9_joinRow h0 h_memoriesA h_memoriesB h_row h_next cy c_row f23 f21 f19) H := hP
    replace hD : va_D A (w_X9_joinRow h0 h_memoriesA h_memoriesB h_row h_next cy c_row f23 f21 f19) := hD
    refine lv_iinc (v := x4 + 1) (lv' := [(4, .int (x4 + 1)), (7, .int x14), (6, .int x12), (5, .int x10), (0, .ref h0), (1, .int v1), (2, .int v2), (3, .int v3)]) hx hb dX9_joinRow_105 hl (k := 3) rfl rfl (by decide) rfl ?_; clear hl; clear ls; intro ls hl
    refine lv_goto (tgt := 3) hx hb dX9_joinRow_108 (by decide) ?_
    exact ih3 (x4 + 1) f23 f21 f19 hw H locs ls hP hD hS (lv_sub hl [0, 4, 5, 6, 7] rfl)
