set_option maxHeartbeats 4000000 in
set_option maxRecDepth 100000 in
theorem c_X12_late (l : Launch) (dC : Nat → ClassId) (dI : Nat → Nat → Nat) (cy : Nat → ClassId) (h0 h_row h_kept h_isKept h_aside h_eight h_rows h_scales h_dealt h_bytes h_heardRow h_made h_comes h_backs h_fresh : Nat) (sz : Nat) (v1 : Int32) (c_thrown : Int32) (c_nodeS : Int32) (c_nodeD : Int32) (c_pairE : Int32) (c_pairO : Int32) (c_bit : Int32) (c_lag : Int32) (c_lagSum : Int32) (c_row : Nat → Int32) (post : Int32 → Int32 → Prop) (hw : wp_X12_late v1 c_thrown c_row post) : Met l yX12_late wsX12_late ({ frames := 1, cells := 0, slots := 0, locals := 25 }) (PX dC dI cy [.ref h0, .int v1] sz (w_X12_late h0 h_row h_kept h_isKept h_aside h_eight h_rows h_scales h_dealt h_bytes h_heardRow h_made h_comes h_backs h_fresh cy c_thrown c_nodeS c_nodeD c_pairE c_pairO c_bit c_lag c_lagSum c_row)) (va_Qi (fun (r : Int32) (u : Int32) => post r u) (QX dC dI cy (va_A (w_X12_late h0 h_row h_kept h_isKept h_aside h_eight h_rows h_scales h_dealt h_bytes h_heardRow h_made h_comes h_backs h_fresh cy c_thrown c_nodeS c_nodeD c_pairE c_pairO c_bit c_lag c_lagSum c_row) sz) (fun (u : Int32) => w_X12_late h0 h_row h_kept h_isKept h_aside h_eight h_rows h_scales h_dealt h_bytes h_heardRow h_made h_comes h_backs h_fresh cy u c_nodeS c_nodeD c_pairE c_pairO c_bit c_lag c_lagSum c_row)) (va_A (w_X12_late h0 h_row h_kept h_isKept h_aside h_eight h_rows h_scales h_dealt h_bytes h_heardRow h_made h_comes h_backs h_fresh cy c_thrown c_nodeS c_nodeD c_pairE c_pairO c_bit c_lag c_lagSum c_row) sz)) 0 0 (va_A (w_X12_late h0 h_row h_kept h_isKept h_aside h_eight h_rows h_scales h_dealt h_bytes h_heardRow h_made h_comes h_backs h_fresh cy c_thrown c_nodeS c_nodeD c_pairE c_pairO c_bit c_lag c_lagSum c_row) sz) := by
  refine Met.ofW (cc := cX12_late) (maxL := 10) (ret := (some .int)) (by decide) rfl ?_
  intro p e s m args below meth c s₁ B hml hv
  obtain ⟨rfl, hsz, hP, hK, hD0, hG⟩ := hv
  have hx := B.exec
  have hb := B.bytes
  have hr := B.returns
  have hts := atoms_spec (ws := wsX12_late) B.pre
  have hown : s.vm.findClass RX12 = some m.cls := findClass_of_methodNamed B.named
  have hlocks := B.notSynchronized
  subst hsz
  have hD := hD0.self (sz := s.heap.size)
  generalize hAe : va_A (w_X12_late h0 h_row h_kept h_isKept h_aside h_eight h_rows h_scales h_dealt h_bytes h_heardRow h_made h_comes h_backs h_fresh cy c_thrown c_nodeS c_nodeD c_pairE c_pairO c_bit c_lag c_lagSum c_row) s.heap.size = A at hD ⊢
  have hA : ∀ q : Nat, s.heap.size ≤ q → A q := fun q h => by rw [← hAe]; exact Or.inr h
  have hS : va_S A s.heap s.heap [] := va_S.rf
  have hl := lv_entry ([.ref h0, .int v1]) (n := 10) (Nat.le_of_ble_eq_true rfl)
  rw [lg_entry_eq]
  generalize (lg_sl ([.ref h0, .int v1]) ++ List.replicate (10 - (lg_sl ([.ref h0, .int v1])).length) Slot.unset).toArray = ls at hl ⊢
  replace hl : lv_has ls 10 [(0, .ref h0), (1, .int v1)] := hl
  have inX12 : ∀ w ∈ u_ws RX12 TX12 22, w ∈ wsX12_late := fun w h => List.mem_cons_of_mem _ (inlX12 w h)
  clear hAe hD0 B
  unfold wp_X12_late at hw
  generalize hQe : MQ below _ _ s _ _ _ = Q0
  generalize ([.ref h0, .int v1] : List Value).toArray = av at *
  obtain ⟨H, hH⟩ : ∃ H, H = s.heap := ⟨_, rfl⟩
  obtain ⟨locs, hlo⟩ : ∃ L : List Loc, L = [] := ⟨_, rfl⟩
  replace hP : va_P (dC, dI) vwCl (w_X12_late h0 h_row h_kept h_isKept h_aside h_eight h_rows h_scales h_dealt h_bytes h_heardRow h_made h_comes h_backs h_fresh cy c_thrown c_nodeS c_nodeD c_pairE c_pairO c_bit c_lag c_lagSum c_row) H := by rw [hH]; exact hP
  replace hS : va_S A s.heap H locs := by rw [hH, hlo]; exact hS
  suffices hgo : W p l e ({ frames := 1, cells := 0, slots := 0, locals := 25 }) s m av below meth c H locs 0 0 Q0 (F0 m 0 ls []) by rw [hH, hlo] at hgo; exact hgo
  clear hH hlo
  refine lv_aload_n hx hb dX12_late_0 rfl (lv_at hl 0 rfl) ?_
  refine lv_iconst (v := 0) hx hb dX12_late_1 (by decide) ?_
  refine va_put (D := (dC, dI)) (ci := 12) (v := .int (0 : Int32)) (ty := .int) (C := RX12) (T := TX12) (N := 22) hx hb hts inX12 tyX12 tyX12_ok nmX12 hown hK hP hD hS 0 rfl rfl 0 (by decide) (hts _ (List.mem_cons_of_mem _ mw_200)) (fun _ h9 => h9) rfl (by decide +kernel) rfl rfl (Nat.le_of_ble_eq_true rfl) dX12_late_2 ?_; clear hP hD hS; clear H locs; intro H locs hP hD hS
  replace hP : va_P (dC, dI) vwCl (w_X12_late h0 h_row h_kept h_isKept h_aside h_eight h_rows h_scales h_dealt h_bytes h_heardRow h_made h_comes h_backs h_fresh cy (0 : Int32) c_nodeS c_nodeD c_pairE c_pairO c_bit c_lag c_lagSum c_row) H := hP
  replace hD : va_D A (w_X12_late h0 h_row h_kept h_isKept h_aside h_eight h_rows h_scales h_dealt h_bytes h_heardRow h_made h_comes h_backs h_fresh cy (0 : Int32) c_nodeS c_nodeD c_pairE c_pairO c_bit c_lag c_lagSum c_row) := hD
  refine lv_aload_n hx hb dX12_late_5 rfl (lv_at hl 0 rfl) ?_
  refine va_get (D := (dC, dI)) (ci := 12) (v := .ref h_row) (C := RX12) (T := TX12) (N := 22) hx hb hts inX12 hown hK hP 0 rfl rfl 1 (by decide) (hts _ (List.mem_cons_of_mem _ mw_169)) (fun _ h9 => h9) rfl dX12_late_6 ?_
  refine lv_bipush (v := 52) hx hb dX12_late_9 (by decide) ?_
  refine xiald (k := 52) hx hb hK hP 1 0 rfl rfl (vpL 52 13385 rfl) (by decide) dX12_late_11 ?_
  refine lv_if_eq (tgt := 27) hx hb dX12_late_12 (by decide) (fun c2 => ?_) (fun c2 => ?_)
  · replace hw := hw.1 c2; clear c2
    refine lv_ldc (v := -2147483648) hx hb hown (hts _ (List.mem_cons_of_mem _ mw_908)) dX12_late_27 ?_
    subst hQe
    exact W.iret (v := (-2147483648 : Int32)) hx hb hr (fun t ht hW => ⟨⟨(-2147483648 : Int32), (0 : Int32), rfl, hw, by rw [ht]; exact hP, va_K.moved hW.alike hK, hD⟩, hS.F ht⟩) hS.2.2 dX12_late_29
  · replace hw := hw.2 c2; clear c2
    refine lv_iload_n hx hb dX12_late_15 rfl (lv_at hl 1 rfl) ?_
    refine lv_i2l (v := v1.toInt64) hx hb dX12_late_16 rfl ?_
    refine lv_lconst (v := 0) hx hb dX12_late_17 (by decide) ?_
    refine lv_ldc2 (v := 3) hx hb hown (hts _ (List.mem_cons_of_mem _ mw_931)) dX12_late_18 ?_
    have hPc := pSub (ws' := (w_X12_in cy)) hP [] rfl
    have hDc := dSub (ws' := (w_X12_in cy)) hD [] (by decide) rfl
    have hFc := va_free (wc := (w_X12_in cy)) hD hS hA [] rfl
    refine va_calli (va_runS (As := [.long (v1.toInt64), .long (0 : Int64), .long (3 : Int64)]) (rest := []) ⟨hx, hb, hml, hown, hts⟩ (c_X12_in l dC dI cy  H.size (v1.toInt64) (0 : Int64) (3 : Int64) _ hw) (va_cwS 3 hts (goodS mw_207 mw_205 mw_206 mw_5) rfl rfl rfl (by decide +kernel) ⟨Nat.le_of_ble_eq_true rfl, Nat.le_of_ble_eq_true rfl⟩) ⟨PX_blind, PX_pre hPc hK hDc hG⟩ rfl rfl hl.1 rfl (lv_room (Nat.le_of_ble_eq_true rfl)) dX12_late_21 ⟨Nat.zero_le _, Nat.zero_le _⟩) hS (fun q _ h => hFc q h) hFc ?_; clear hw hS; intro r3 _ t H1 locs1 ht hvm hw hB hz1 hk1 hS
    obtain ⟨hP1, -, -⟩ := hB
    rw [ht] at hP1
    replace hP := jC0 hP hD [] [0, 1] rfl hk1 hP1 (w_X12_late h0 h_row h_kept h_isKept h_aside h_eight h_rows h_scales h_dealt h_bytes h_heardRow h_made h_comes h_backs h_fresh cy (0 : Int32) c_nodeS c_nodeD c_pairE c_pairO c_bit c_lag c_lagSum c_row) rfl rfl rfl 2 rfl (by decide +kernel); clear hD; obtain ⟨hP, hD⟩ := hP
    replace hP : va_P (dC, dI) vwCl (w_X12_late h0 h_row h_kept h_isKept h_aside h_eight h_rows h_scales h_dealt h_bytes h_heardRow h_made h_comes h_backs h_fresh cy (0 : Int32) c_nodeS c_nodeD c_pairE c_pairO c_bit c_lag c_lagSum c_row) H1 := hP
    replace hD : va_D A (w_X12_late h0 h_row h_kept h_isKept h_aside h_eight h_rows h_scales h_dealt h_bytes h_heardRow h_made h_comes h_backs h_fresh cy (0 : Int32) c_nodeS c_nodeD c_pairE c_pairO c_bit c_lag c_lagSum c_row) := hD
    clear hPc hDc hFc hP1 hk1 hz1 hvm ht; clear t; clear H locs; obtain ⟨H, hH⟩ : ∃ H, H = H1 := ⟨_, rfl⟩; obtain ⟨locs, hlo⟩ : ∃ L, L = locs1 := ⟨_, rfl⟩; subst hH; subst hlo
    refine W.widen (k := 0) (n := 0) (Nat.le_refl 0) (Nat.le_refl 0) ?_
    refine lv_if_ne (tgt := 30) hx hb dX12_late_24 (by decide) (fun c4 => ?_) (fun c4 => ?_)
    · replace hw := hw.2 c4; clear c4
      refine lv_iconst (v := 0) hx hb dX12_late_30 (by decide) ?_
      refine lv_istore_n (lv' := [(2, .int (0 : Int32)), (0, .ref h0), (1, .int v1)]) hx hb dX12_late_31 rfl hl (by decide) rfl ?_; clear hl; clear ls; intro ls hl
      refine lv_iconst (v := 0) hx hb dX12_late_32 (by decide) ?_
      refine lv_istore_n (lv' := [(3, .int (0 : Int32)), (2, .int (0 : Int32)), (0, .ref h0), (1, .int v1)]) hx hb dX12_late_33 rfl hl (by decide) rfl ?_; clear hl; clear ls; intro ls hl
      refine lv_iconst (v := 0) hx hb dX12_late_34 (by decide) ?_
      refine lv_istore (lv' := [(4, .int (0 : Int32)), (3, .int (0 : Int32)), (2, .int (0 : Int32)), (0, .ref h0), (1, .int v1)]) hx hb dX12_late_35 hl (by decide) rfl ?_; clear hl; clear ls; intro ls hl
      refine lv_iconst (v := 0) hx hb dX12_late_37 (by decide) ?_
      refine lv_istore (lv' := [(5, .int (0 : Int32)), (4, .int (0 : Int32)), (3, .int (0 : Int32)), (2, .int (0 : Int32)), (0, .ref h0), (1, .int v1)]) hx hb dX12_late_38 hl (by decide) rfl ?_; clear hl; clear ls; intro ls hl
      refine lv_iconst (v := 0) hx hb dX12_late_40 (by decide) ?_
      refine lv_istore (lv' := [(6, .int (0 : Int32)), (5, .int (0 : Int32)), (4, .int (0 : Int32)), (3, .int (0 : Int32)), (2, .int (0 : Int32)), (0, .ref h0), (1, .int v1)]) hx hb dX12_late_41 hl (by decide) rfl ?_; clear hl; clear ls; intro ls hl
      refine lv_iconst (v := 0) hx hb dX12_late_43 (by decide) ?_
      refine lv_istore (lv' := [(7, .int (0 : Int32)), (6, .int (0 : Int32)), (5, .int (0 : Int32)), (4, .int (0 : Int32)), (3, .int (0 : Int32)), (2, .int (0 : Int32)), (0, .ref h0), (1, .int v1)]) hx hb dX12_late_44 hl (by decide) rfl ?_; clear hl; clear ls; intro ls hl
      obtain ⟨x5, e_x5⟩ : ∃ y : Int32, y = (0 : Int32) := ⟨_, rfl⟩
      replace hw := hw x5 e_x5
      replace hl : lv_has ls 10 [(7, .int x5), (6, .int (0 : Int32)), (5, .int (0 : Int32)), (4, .int (0 : Int32)), (3, .int (0 : Int32)), (2, .int (0 : Int32)), (0, .ref h0), (1, .int v1)] := by rw [e_x5]; exact hl
      clear e_x5
      obtain ⟨x6, e_x6⟩ : ∃ y : Int32, y = (0 : Int32) := ⟨_, rfl⟩
      replace hw := hw x6 e_x6
      replace hl : lv_has ls 10 [(7, .int x5), (6, .int x6), (5, .int (0 : Int32)), (4, .int (0 : Int32)), (3, .int (0 : Int32)), (2, .int (0 : Int32)), (0, .ref h0), (1, .int v1)] := by rw [e_x6]; exact hl
      clear e_x6
      obtain ⟨x7, e_x7⟩ : ∃ y : Int32, y = (0 : Int32) := ⟨_, rfl⟩
      replace hw := hw x7 e_x7
      replace hl : lv_has ls 10 [(7, .int x5), (6, .int x6), (5, .int x7), (4, .int (0 : Int32)), (3, .int (0 : Int32)), (2, .int (0 : Int32)), (0, .ref h0), (1, .int v1)] := by rw [e_x7]; exact hl
      clear e_x7
      obtain ⟨x8, e_x8⟩ : ∃ y : Int32, y = (0 : Int32) := ⟨_, rfl⟩
      replace hw := hw x8 e_x8
      replace hl : lv_has ls 10 [(7, .int x5), (6, .int x6), (5, .int x7), (4, .int x8), (3, .int (0 : Int32)), (2, .int (0 : Int32)), (0, .ref h0), (1, .int v1)] := by rw [e_x8]; exact hl
      clear e_x8
      obtain ⟨x9, e_x9⟩ : ∃ y : Int32, y = (0 : Int32) := ⟨_, rfl⟩
      replace hw := hw x9 e_x9
      replace hl : lv_has ls 10 [(7, .int x5), (6, .int x6), (5, .int x7), (4, .int x8), (3, .int x9), (2, .int (0 : Int32)), (0, .ref h0), (1, .int v1)] := by rw [e_x9]; exact hl
      clear e_x9
      obtain ⟨x10, e_x10⟩ : ∃ y : Int32, y = (0 : Int32) := ⟨_, rfl⟩
      replace hw := hw x10 e_x10
      replace hl : lv_has ls 10 [(7, .int x5), (6, .int x6), (5, .int x7), (4, .int x8), (3, .int x9), (2, .int x10), (0, .ref h0), (1, .int v1)] := by rw [e_x10]; exact hl
      clear e_x10
      replace hl := lv_sub (l' := [(7, .int x5), (6, .int x6), (5, .int x7), (4, .int x8), (3, .int x9), (2, .int x10), (0, .ref h0), (1, .int v1)]) hl [0, 1, 2, 3, 4, 5, 6, 7] rfl
      revert hl; revert hS; revert hD; revert hP; revert ls; revert locs; revert H
      revert hw; revert x10; revert x9; revert x8; revert x7; revert x6; revert x5
      refine Lz6_gr ?_; intro g11 ih12 x13 x14 x15 x16 x17 x18 hw
      intro H locs ls hP hD hS hl
      refine lv_iload hx hb dX12_late_46 (lv_at hl 0 rfl) ?_
      refine lv_aload_n hx hb dX12_late_48 rfl (lv_at hl 6 rfl) ?_
      refine va_get (D := (dC, dI)) (ci := 12) (v := .ref h_row) (C := RX12) (T := TX12) (N := 22) hx hb hts inX12 hown hK hP 0 rfl rfl 1 (by decide) (hts _ (List.mem_cons_of_mem _ mw_169)) (fun _ h9 => h9) rfl dX12_late_49 ?_
      refine lv_bipush (v := 52) hx hb dX12_late_52 (by decide) ?_
      refine xiald (k := 52) hx hb hK hP 1 0 rfl rfl (vpL 52 13385 rfl) (by decide) dX12_late_54 ?_
      refine lv_icmp_ge (tgt := 182) hx hb dX12_late_55 (by decide) (fun c20 => ?_) (fun c20 => ?_)
      · replace hw := hw.1 c20; clear c20
        clear ih12
        refine lv_iload_n hx hb dX12_late_182 rfl (lv_at hl 7 rfl) ?_
        refine lv_if_ne (tgt := 190) hx hb dX12_late_183 (by decide) (fun c21 => ?_) (fun c21 => ?_)
        · replace hw := hw.2 c21; clear c21
          refine lv_iload_n hx hb dX12_late_190 rfl (lv_at hl 7 rfl) ?_
          refine lv_iconst (v := 1) hx hb dX12_late_191 (by decide) ?_
          refine lv_icmp_ne (tgt := 199) hx hb dX12_late_192 (by decide) (fun c22 => ?_) (fun c22 => ?_)
          · replace hw := hw.2 c22; clear c22
            refine lv_iload_n hx hb dX12_late_199 rfl (lv_at hl 7 rfl) ?_
            refine lv_iconst (v := 2) hx hb dX12_late_200 (by decide) ?_
            refine lv_icmp_ne (tgt := 209) hx hb dX12_late_201 (by decide) (fun c23 => ?_) (fun c23 => ?_)
            · replace hw := hw.2 c23; clear c23
              refine lv_iload hx hb dX12_late_209 (lv_at hl 2 rfl) ?_
              subst hQe
              exact W.iret (v := x15) hx hb hr (fun t ht hW => ⟨⟨x15, (0 : Int32), rfl, hw, by rw [ht]; exact hP, va_K.moved hW.alike hK, hD⟩, hS.F ht⟩) hS.2.2 dX12_late_211
            · replace hw := hw.1 c23; clear c23
              refine lv_iload hx hb dX12_late_204 (lv_at hl 3 rfl) ?_
              refine lv_goto (tgt := 211) hx hb dX12_late_206 (by decide) ?_
              subst hQe
              exact W.iret (v := x16) hx hb hr (fun t ht hW => ⟨⟨x16, (0 : Int32), rfl, hw, by rw [ht]; exact hP, va_K.moved hW.alike hK, hD⟩, hS.F ht⟩) hS.2.2 dX12_late_211
          · replace hw := hw.1 c22; clear c22
            refine lv_iload_n hx hb dX12_late_195 rfl (lv_at hl 4 rfl) ?_
            refine lv_goto (tgt := 211) hx hb dX12_late_196 (by decide) ?_
            subst hQe
            exact W.iret (v := x17) hx hb hr (fun t ht hW => ⟨⟨x17, (0 : Int32), rfl, hw, by rw [ht]; exact hP, va_K.moved hW.alike hK, hD⟩, hS.F ht⟩) hS.2.2 dX12_late_211
        · replace hw := hw.1 c21; clear c21
          refine lv_iload_n hx hb dX12_late_186 rfl (lv_at hl 5 rfl) ?_
          refine lv_goto (tgt := 211) hx hb dX12_late_187 (by decide) ?_
          subst hQe
          exact W.iret (v := x18) hx hb hr (fun t ht hW => ⟨⟨x18, (0 : Int32), rfl, hw, by rw [ht]; exact hP, va_K.moved hW.alike hK, hD⟩, hS.F ht⟩) hS.2.2 dX12_late_211
      · replace hw := hw.2 c20; clear c20
        refine lv_sipush (v := 3257) hx hb dX12_late_58 (by decide) ?_
        refine lv_bipush (v := 7) hx hb dX12_late_61 (by decide) ?_
        refine lv_iload hx hb dX12_late_63 (lv_at hl 0 rfl) ?_
        refine lv_imul hx hb dX12_late_65 ?_
        refine lv_iadd hx hb dX12_late_66 ?_
        refine lv_topi (fun x24 e_x24 => ?_)
        replace hw := hw x24 e_x24
        clear e_x24
        refine lv_istore (lv' := [(8, .int x24), (7, .int x13), (6, .int x14), (5, .int x15), (4, .int x16), (3, .int x17), (2, .int x18), (0, .ref h0), (1, .int v1)]) hx hb dX12_late_67 hl (by decide) rfl ?_; clear hl; clear ls; intro ls hl
        refine lv_aload_n hx hb dX12_late_69 rfl (lv_at hl 7 rfl) ?_
        refine va_get (D := (dC, dI)) (ci := 12) (v := .ref h_row) (C := RX12) (T := TX12) (N := 22) hx hb hts inX12 hown hK hP 0 rfl rfl 1 (by decide) (hts _ (List.mem_cons_of_mem _ mw_169)) (fun _ h9 => h9) rfl dX12_late_70 ?_
        refine lv_iload hx hb dX12_late_73 (lv_at hl 0 rfl) ?_
        refine lv_bipush (v := 6) hx hb dX12_late_75 (by decide) ?_
        refine lv_iadd hx hb dX12_late_77 ?_
        obtain ⟨h25, hw⟩ := hw
        refine xiald (k := (x24 + (6 : Int32)).toNatClampNeg) hx hb hK hP 1 0 rfl rfl h25 rfl dX12_late_78 ?_
        refine lv_iconst (v := 4) hx hb dX12_late_79 (by decide) ?_
        refine lv_aload_n hx hb dX12_late_80 rfl (lv_at hl 7 rfl) ?_
        refine va_get (D := (dC, dI)) (ci := 12) (v := .ref h_row) (C := RX12) (T := TX12) (N := 22) hx hb hts inX12 hown hK hP 0 rfl rfl 1 (by decide) (hts _ (List.mem_cons_of_mem _ mw_169)) (fun _ h9 => h9) rfl dX12_late_81 ?_
        refine lv_iload hx hb dX12_late_84 (lv_at hl 0 rfl) ?_
        obtain ⟨h26, hw⟩ := hw
        refine xiald (k := x24.toNatClampNeg) hx hb hK hP 1 0 rfl rfl h26 rfl dX12_late_86 ?_
        refine lv_imul hx hb dX12_late_87 ?_
        refine lv_isub hx hb dX12_late_88 ?_
        refine lv_topi (fun x27 e_x27 => ?_)
        replace hw := hw x27 e_x27
        clear e_x27
        refine lv_istore (lv' := [(9, .int x27), (8, .int x24), (7, .int x13), (6, .int x14), (5, .int x15), (4, .int x16), (3, .int x17), (2, .int x18), (0, .ref h0), (1, .int v1)]) hx hb dX12_late_89 hl (by decide) rfl ?_; clear hl; clear ls; intro ls hl
        refine lv_iload hx hb dX12_late_91 (lv_at hl 2 rfl) ?_
        refine jn1 (Gg := fun (x28 : Int32) => ∀ (H : Heap) (locs : List Loc) (ls : Array Slot), va_P (dC, dI) vwCl (w_X12_late h0 h_row h_kept h_isKept h_aside h_eight h_rows h_scales h_dealt h_bytes h_heardRow h_made h_comes h_backs h_fresh cy (0 : Int32) c_nodeS c_nodeD c_pairE c_pairO c_bit c_lag c_lagSum c_row) H → va_D A (w_X12_late h0 h_row h_kept h_isKept h_aside h_eight h_rows h_scales h_dealt h_bytes h_heardRow h_made h_comes h_backs h_fresh cy (0 : Int32) c_nodeS c_nodeD c_pairE c_pairO c_bit c_lag c_lagSum c_row) → va_S A s.heap H locs → lv_has ls 10 [(0, .ref h0), (1, .int v1), (3, .int x17), (4, .int x16), (5, .int x15), (6, .int x14), (7, .int x13), (8, .int x24), (9, .int x27)] → W p l e { frames := 1, cells := 0, slots := 0, locals := 25 } s m av below meth c H locs 0 0 Q0 (F0 m 108 ls [.int x28])) hw ?_ ?_ <;> clear hw
        · clear hP hD hS hl; clear H locs ls; intro x28 hw H locs ls hP hD hS hl
          refine lv_istore_n (lv' := [(2, .int x28), (0, .ref h0), (1, .int v1), (3, .int x17), (4, .int x16), (5, .int x15), (6, .int x14), (7, .int x13), (8, .int x24), (9, .int x27)]) hx hb dX12_late_108 rfl hl (by decide) rfl ?_; clear hl; clear ls; intro ls hl
          refine lv_iload hx hb dX12_late_109 (lv_at hl 7 rfl) ?_
          refine jn1 (Gg := fun (x31 : Int32) => ∀ (H : Heap) (locs : List Loc) (ls : Array Slot), va_P (dC, dI) vwCl (w_X12_late h0 h_row h_kept h_isKept h_aside h_eight h_rows h_scales h_dealt h_bytes h_heardRow h_made h_comes h_backs h_fresh cy (0 : Int32) c_nodeS c_nodeD c_pairE c_pairO c_bit c_lag c_lagSum c_row) H → va_D A (w_X12_late h0 h_row h_kept h_isKept h_aside h_eight h_rows h_scales h_dealt h_bytes h_heardRow h_made h_comes h_backs h_fresh cy (0 : Int32) c_nodeS c_nodeD c_pairE c_pairO c_bit c_lag c_lagSum c_row) → va_S A s.heap H locs → lv_has ls 10 [(0, .ref h0), (1, .int v1), (2, .int x28), (4, .int x16), (5, .int x15), (6, .int x14), (7, .int x13), (8, .int x24), (9, .int x27)] → W p l e { frames := 1, cells := 0, slots := 0, locals := 25 } s m av below meth c H locs 0 0 Q0 (F0 m 126 ls [.int x31])) hw ?_ ?_ <;> clear hw
          · clear hP hD hS hl; clear H locs ls; intro x31 hw H locs ls hP hD hS hl
            refine lv_istore_n (lv' := [(3, .int x31), (0, .ref h0), (1, .int v1), (2, .int x28), (4, .int x16), (5, .int x15), (6, .int x14), (7, .int x13), (8, .int x24), (9, .int x27)]) hx hb dX12_late_126 rfl hl (by decide) rfl ?_; clear hl; clear ls; intro ls hl
            refine lv_iload hx hb dX12_late_127 (lv_at hl 4 rfl) ?_
            refine lv_iload hx hb dX12_late_129 (lv_at hl 7 rfl) ?_
            refine jn1 (Gg := fun (x34 : Int32) => ∀ (H : Heap) (locs : List Loc) (ls : Array Slot), va_P (dC, dI) vwCl (w_X12_late h0 h_row h_kept h_isKept h_aside h_eight h_rows h_scales h_dealt h_bytes h_heardRow h_made h_comes h_backs h_fresh cy (0 : Int32) c_nodeS c_nodeD c_pairE c_pairO c_bit c_lag c_lagSum c_row) H → va_D A (w_X12_late h0 h_row h_kept h_isKept h_aside h_eight h_rows h_scales h_dealt h_bytes h_heardRow h_made h_comes h_backs h_fresh cy (0 : Int32) c_nodeS c_nodeD c_pairE c_pairO c_bit c_lag c_lagSum c_row) → va_S A s.heap H locs → lv_has ls 10 [(0, .ref h0), (1, .int v1), (2, .int x28), (3, .int x31), (5, .int x15), (7, .int x13), (8, .int x24), (9, .int x27)] → W p l e { frames := 1, cells := 0, slots := 0, locals := 25 } s m av below meth c H locs 0 0 Q0 (F0 m 146 ls [.int x34, .int x16])) hw ?_ ?_ <;> clear hw
            · clear hP hD hS hl; clear H locs ls; intro x34 hw H locs ls hP hD hS hl
              refine lv_iadd hx hb dX12_late_146 ?_
              refine lv_topi (fun x37 e_x37 => ?_)
              replace hw := hw x37 e_x37
              clear e_x37
              refine lv_istore (lv' := [(4, .int x37), (0, .ref h0), (1, .int v1), (2, .int x28), (3, .int x31), (5, .int x15), (7, .int x13), (8, .int x24), (9, .int x27)]) hx hb dX12_late_147 hl (by decide) rfl ?_; clear hl; clear ls; intro ls hl
              refine lv_iload hx hb dX12_late_149 (lv_at hl 5 rfl) ?_
              refine lv_aload_n hx hb dX12_late_151 rfl (lv_at hl 1 rfl) ?_
              refine va_get (D := (dC, dI)) (ci := 12) (v := .ref h_row) (C := RX12) (T := TX12) (N := 22) hx hb hts inX12 hown hK hP 0 rfl rfl 1 (by decide) (hts _ (List.mem_cons_of_mem _ mw_169)) (fun _ h9 => h9) rfl dX12_late_152 ?_
              refine lv_iload hx hb dX12_late_155 (lv_at hl 7 rfl) ?_
              refine lv_iconst (v := 1) hx hb dX12_late_157 (by decide) ?_
              refine lv_iadd hx hb dX12_late_158 ?_
              obtain ⟨h38, hw⟩ := hw
              refine xiald (k := (x24 + (1 : Int32)).toNatClampNeg) hx hb hK hP 1 0 rfl rfl h38 rfl dX12_late_159 ?_
              refine lv_iconst (v := 2) hx hb dX12_late_160 (by decide) ?_
              refine jn1 (Gg := fun (x39 : Int32) => ∀ (H : Heap) (locs : List Loc) (ls : Array Slot), va_P (dC, dI) vwCl (w_X12_late h0 h_row h_kept h_isKept h_aside h_eight h_rows h_scales h_dealt h_bytes h_heardRow h_made h_comes h_backs h_fresh cy (0 : Int32) c_nodeS c_nodeD c_pairE c_pairO c_bit c_lag c_lagSum c_row) H → va_D A (w_X12_late h0 h_row h_kept h_isKept h_aside h_eight h_rows h_scales h_dealt h_bytes h_heardRow h_made h_comes h_backs h_fresh cy (0 : Int32) c_nodeS c_nodeD c_pairE c_pairO c_bit c_lag c_lagSum c_row) → va_S A s.heap H locs → lv_has ls 10 [(0, .ref h0), (1, .int v1), (2, .int x28), (3, .int x31), (4, .int x37), (7, .int x13), (9, .int x27)] → W p l e { frames := 1, cells := 0, slots := 0, locals := 25 } s m av below meth c H locs 0 0 Q0 (F0 m 169 ls [.int x39, .int x15])) hw ?_ ?_ <;> clear hw
              · clear hP hD hS hl; clear H locs ls; intro x39 hw H locs ls hP hD hS hl
                refine lv_iadd hx hb dX12_late_169 ?_
                refine lv_topi (fun x42 e_x42 => ?_)
                replace hw := hw x42 e_x42
                clear e_x42
                refine lv_istore (lv' := [(5, .int x42), (0, .ref h0), (1, .int v1), (2, .int x28), (3, .int x31), (4, .int x37), (7, .int x13), (9, .int x27)]) hx hb dX12_late_170 hl (by decide) rfl ?_; clear hl; clear ls; intro ls hl
                refine lv_iload hx hb dX12_late_172 (lv_at hl 7 rfl) ?_
                refine lv_istore (lv' := [(6, .int x27), (5, .int x42), (0, .ref h0), (1, .int v1), (2, .int x28), (3, .int x31), (4, .int x37), (7, .int x13), (9, .int x27)]) hx hb dX12_late_174 hl (by decide) rfl ?_; clear hl; clear ls; intro ls hl
                refine lv_iinc (v := x13 + 1) (lv' := [(7, .int (x13 + 1)), (6, .int x27), (5, .int x42), (0, .ref h0), (1, .int v1), (2, .int x28), (3, .int x31), (4, .int x37), (9, .int x27)]) hx hb dX12_late_176 hl (k := 7) rfl rfl (by decide) rfl ?_; clear hl; clear ls; intro ls hl
                refine lv_goto (tgt := 46) hx hb dX12_late_179 (by decide) ?_
                exact ih12 (x13 + 1) x27 x42 x37 x31 x28 hw H locs ls hP hD hS (lv_sub hl [0, 1, 2, 7, 6, 5, 3, 4] rfl)
              · intro j41 hw
                refine lv_icmp_ne (tgt := 168) hx hb dX12_late_161 (by decide) (fun c43 => ?_) (fun c43 => ?_)
                · replace hw := hw.2 c43; clear c43
                  refine lv_iconst (v := 0) hx hb dX12_late_168 (by decide) ?_
                  exact j41 (0 : Int32) hw H locs ls hP hD hS (lv_sub hl [1, 2, 3, 4, 0, 6, 8] rfl)
                · replace hw := hw.1 c43; clear c43
                  refine lv_iconst (v := 1) hx hb dX12_late_164 (by decide) ?_
                  refine lv_goto (tgt := 169) hx hb dX12_late_165 (by decide) ?_
                  exact j41 (1 : Int32) hw H locs ls hP hD hS (lv_sub hl [1, 2, 3, 4, 0, 6, 8] rfl)
            · intro j36 hw
              refine lv_if_ne (tgt := 138) hx hb dX12_late_131 (by decide) (fun c44 => ?_) (fun c44 => ?_)
              · replace hw := hw.2 c44; clear c44
                refine lv_iload hx hb dX12_late_138 (lv_at hl 9 rfl) ?_
                refine lv_iload hx hb dX12_late_140 (lv_at hl 6 rfl) ?_
                refine lv_isub hx hb dX12_late_142 ?_
                have hPc := pSub (ws' := (w_X12_size cy)) hP [] rfl
                have hDc := dSub (ws' := (w_X12_size cy)) hD [] (by decide) rfl
                have hFc := va_free (wc := (w_X12_size cy)) hD hS hA [] rfl
                refine va_calli (va_runS (As := [.int (x27 - x14)]) (rest := [.int x16]) ⟨hx, hb, hml, hown, hts⟩ (c_X12_size l dC dI cy  H.size (x27 - x14) _ hw) (va_cwS 1 hts (goodS mw_647 mw_645 mw_646 mw_5) rfl rfl rfl (by decide +kernel) ⟨Nat.le_of_ble_eq_true rfl, Nat.le_of_ble_eq_true rfl⟩) ⟨PX_blind, PX_pre hPc hK hDc hG⟩ rfl rfl hl.1 rfl (lv_room (Nat.le_of_ble_eq_true rfl)) dX12_late_143 ⟨Nat.zero_le _, Nat.zero_le _⟩) hS (fun q _ h => hFc q h) hFc ?_; clear hw hS; intro r45 _ t H1 locs1 ht hvm hw hB hz1 hk1 hS
                obtain ⟨hP1, -, -⟩ := hB
                rw [ht] at hP1
                replace hP := jC0 hP hD [] [0, 1] rfl hk1 hP1 (w_X12_late h0 h_row h_kept h_isKept h_aside h_eight h_rows h_scales h_dealt h_bytes h_heardRow h_made h_comes h_backs h_fresh cy (0 : Int32) c_nodeS c_nodeD c_pairE c_pairO c_bit c_lag c_lagSum c_row) rfl rfl rfl 2 rfl (by decide +kernel); clear hD; obtain ⟨hP, hD⟩ := hP
                replace hP : va_P (dC, dI) vwCl (w_X12_late h0 h_row h_kept h_isKept h_aside h_eight h_rows h_scales h_dealt h_bytes h_heardRow h_made h_comes h_backs h_fresh cy (0 : Int32) c_nodeS c_nodeD c_pairE c_pairO c_bit c_lag c_lagSum c_row) H1 := hP
                replace hD : va_D A (w_X12_late h0 h_row h_kept h_isKept h_aside h_eight h_rows h_scales h_dealt h_bytes h_heardRow h_made h_comes h_backs h_fresh cy (0 : Int32) c_nodeS c_nodeD c_pairE c_pairO c_bit c_lag c_lagSum c_row) := hD
                clear hPc hDc hFc hP1 hk1 hz1 hvm ht; clear t; clear H locs; obtain ⟨H, hH⟩ : ∃ H, H = H1 := ⟨_, rfl⟩; obtain ⟨locs, hlo⟩ : ∃ L, L = locs1 := ⟨_, rfl⟩; subst hH; subst hlo
                refine W.widen (k := 0) (n := 0) (Nat.le_refl 0) (Nat.le_refl 0) ?_
                exact j36 r45 hw H locs ls hP hD hS (lv_sub hl [1, 2, 3, 0, 5, 7, 8, 9] rfl)
              · replace hw := hw.1 c44; clear c44
                refine lv_iconst (v := 0) hx hb dX12_late_134 (by decide) ?_
                refine lv_goto (tgt := 146) hx hb dX12_late_135 (by decide) ?_
                exact j36 (0 : Int32) hw H locs ls hP hD hS (lv_sub hl [1, 2, 3, 0, 5, 7, 8, 9] rfl)
          · intro j33 hw
            refine jn0 (Gg := ∀ (H : Heap) (locs : List Loc) (ls : Array Slot), va_P (dC, dI) vwCl (w_X12_late h0 h_row h_kept h_isKept h_aside h_eight h_rows h_scales h_dealt h_bytes h_heardRow h_made h_comes h_backs h_fresh cy (0 : Int32) c_nodeS c_nodeD c_pairE c_pairO c_bit c_lag c_lagSum c_row) H → va_D A (w_X12_late h0 h_row h_kept h_isKept h_aside h_eight h_rows h_scales h_dealt h_bytes h_heardRow h_made h_comes h_backs h_fresh cy (0 : Int32) c_nodeS c_nodeD c_pairE c_pairO c_bit c_lag c_lagSum c_row) → va_S A s.heap H locs → lv_has ls 10 [(0, .ref h0), (1, .int v1), (2, .int x28), (4, .int x16), (5, .int x15), (6, .int x14), (7, .int x13), (8, .int x24), (9, .int x27)] → W p l e { frames := 1, cells := 0, slots := 0, locals := 25 } s m av below meth c H locs 0 0 Q0 (F0 m 120 ls [])) hw ?_ ?_ <;> clear hw
            · clear hP hD hS hl; clear H locs ls; intro  hw H locs ls hP hD hS hl
              refine lv_iload hx hb dX12_late_120 (lv_at hl 8 rfl) ?_
              refine lv_goto (tgt := 126) hx hb dX12_late_122 (by decide) ?_
              exact j33 x27 hw H locs ls hP hD hS (lv_sub hl [0, 1, 2, 3, 4, 5, 6, 7, 8] rfl)
            · intro j47 hw
              refine lv_if_eq (tgt := 120) hx hb dX12_late_111 (by decide) (fun c48 => ?_) (fun c48 => ?_)
              · replace hw := hw.1 c48; clear c48
                exact j47 hw H locs ls hP hD hS (lv_sub hl [1, 2, 0, 4, 5, 6, 7, 8, 9] rfl)
              · replace hw := hw.2 c48; clear c48
                refine lv_iload hx hb dX12_late_114 (lv_at hl 9 rfl) ?_
                refine lv_iload_n hx hb dX12_late_116 rfl (lv_at hl 3 rfl) ?_
                refine lv_icmp_le (tgt := 125) hx hb dX12_late_117 (by decide) (fun c49 => ?_) (fun c49 => ?_)
                · replace hw := hw.1 c49; clear c49
                  refine lv_iload_n hx hb dX12_late_125 rfl (lv_at hl 3 rfl) ?_
                  exact j33 x17 hw H locs ls hP hD hS (lv_sub hl [1, 2, 0, 4, 5, 6, 7, 8, 9] rfl)
                · replace hw := hw.2 c49; clear c49
                  exact j47 hw H locs ls hP hD hS (lv_sub hl [1, 2, 0, 4, 5, 6, 7, 8, 9] rfl)
        · intro j30 hw
          refine jn0 (Gg := ∀ (H : Heap) (locs : List Loc) (ls : Array Slot), va_P (dC, dI) vwCl (w_X12_late h0 h_row h_kept h_isKept h_aside h_eight h_rows h_scales h_dealt h_bytes h_heardRow h_made h_comes h_backs h_fresh cy (0 : Int32) c_nodeS c_nodeD c_pairE c_pairO c_bit c_lag c_lagSum c_row) H → va_D A (w_X12_late h0 h_row h_kept h_isKept h_aside h_eight h_rows h_scales h_dealt h_bytes h_heardRow h_made h_comes h_backs h_fresh cy (0 : Int32) c_nodeS c_nodeD c_pairE c_pairO c_bit c_lag c_lagSum c_row) → va_S A s.heap H locs → lv_has ls 10 [(0, .ref h0), (1, .int v1), (3, .int x17), (4, .int x16), (5, .int x15), (6, .int x14), (7, .int x13), (8, .int x24), (9, .int x27)] → W p l e { frames := 1, cells := 0, slots := 0, locals := 25 } s m av below meth c H locs 0 0 Q0 (F0 m 102 ls [])) hw ?_ ?_ <;> clear hw
          · clear hP hD hS hl; clear H locs ls; intro  hw H locs ls hP hD hS hl
            refine lv_iload hx hb dX12_late_102 (lv_at hl 8 rfl) ?_
            refine lv_goto (tgt := 108) hx hb dX12_late_104 (by decide) ?_
            exact j30 x27 hw H locs ls hP hD hS (lv_sub hl [0, 1, 2, 3, 4, 5, 6, 7, 8] rfl)
          · intro j51 hw
            refine lv_if_eq (tgt := 102) hx hb dX12_late_93 (by decide) (fun c52 => ?_) (fun c52 => ?_)
            · replace hw := hw.1 c52; clear c52
              exact j51 hw H locs ls hP hD hS (lv_sub hl [8, 9, 6, 5, 4, 3, 2, 1, 0] rfl)
            · replace hw := hw.2 c52; clear c52
              refine lv_iload hx hb dX12_late_96 (lv_at hl 0 rfl) ?_
              refine lv_iload_n hx hb dX12_late_98 rfl (lv_at hl 7 rfl) ?_
              refine lv_icmp_ge (tgt := 107) hx hb dX12_late_99 (by decide) (fun c53 => ?_) (fun c53 => ?_)
              · replace hw := hw.1 c53; clear c53
                refine lv_iload_n hx hb dX12_late_107 rfl (lv_at hl 7 rfl) ?_
                exact j30 x18 hw H locs ls hP hD hS (lv_sub hl [8, 9, 6, 5, 4, 3, 2, 1, 0] rfl)
              · replace hw := hw.2 c53; clear c53
                exact j51 hw H locs ls hP hD hS (lv_sub hl [8, 9, 6, 5, 4, 3, 2, 1, 0] rfl)
    · replace hw := hw.1 c4; clear c4
      refine lv_ldc (v := -2147483648) hx hb hown (hts _ (List.mem_cons_of_mem _ mw_908)) dX12_late_27 ?_
      subst hQe
      exact W.iret (v := (-2147483648 : Int32)) hx hb hr (fun t ht hW => ⟨⟨(-2147483648 : Int32), (0 : Int32), rfl, hw, by rw [ht]; exact hP, va_K.moved hW.alike hK, hD⟩, hS.F ht⟩) hS.2.2 dX12_late_29
set_option maxHeartbeats 4000000 in
set_option maxRecDepth 100000 in
theorem c_X12_delays (l : Launch) (dC : Nat → ClassId) (dI : Nat → Nat → Nat) (cy : Nat → ClassId) (h0 h_row h_kept h_isKept h_aside h_eight h_rows h_scales h_dealt h_bytes h_heardRow h_made h_comes h_backs h_fresh : Nat) (sz : Nat) (v1 : Int32) (v2 : Int32) (c_thrown : Int32) (c_nodeS : Int32) (c_nodeD : Int32) (c_pairE : Int32) (c_pairO : Int32) (c_bit : Int32) (c_lag : Int32) (c_lagSum : Int32) (c_row : Nat → Int32) (post : Int32 → Int32 → Prop) (hw : wp_X12_delays v1 v2 c_thrown c_row post) : Met l yX12_delays wsX12_delays ({ frames := 1, cells := 0, slots := 0, locals := 25 }) (PX dC dI cy [.ref h0, .int v1, .int v2] sz (w_X12_delays h0 h_row h_kept h_isKept h_aside h_eight h_rows h_scales h_dealt h_bytes h_heardRow h_made h_comes h_backs h_fresh cy c_thrown c_nodeS c_nodeD c_pairE c_pairO c_bit c_lag c_lagSum c_row)) (va_Qi (fun (r : Int32) (u : Int32) => post r u) (QX dC dI cy (va_A (w_X12_delays h0 h_row h_kept h_isKept h_aside h_eight h_rows h_scales h_dealt h_bytes h_heardRow h_made h_comes h_backs h_fresh cy c_thrown c_nodeS c_nodeD c_pairE c_pairO c_bit c_lag c_lagSum c_row) sz) (fun (u : Int32) => w_X12_delays h0 h_row h_kept h_isKept h_aside h_eight h_rows h_scales h_dealt h_bytes h_heardRow h_made h_comes h_backs h_fresh cy u c_nodeS c_nodeD c_pairE c_pairO c_bit c_lag c_lagSum c_row)) (va_A (w_X12_delays h0 h_row h_kept h_isKept h_aside h_eight h_rows h_scales h_dealt h_bytes h_heardRow h_made h_comes h_backs h_fresh cy c_thrown c_nodeS c_nodeD c_pairE c_pairO c_bit c_lag c_lagSum c_row) sz)) 0 0 (va_A (w_X12_delays h0 h_row h_kept h_isKept h_aside h_eight h_rows h_scales h_dealt h_bytes h_heardRow h_made h_comes h_backs h_fresh cy c_thrown c_nodeS c_nodeD c_pairE c_pairO c_bit c_lag c_lagSum c_row) sz) := by
  refine Met.ofW (cc := cX12_delays) (maxL := 5) (ret := (some .int)) (by decide) rfl ?_
  intro p e s m args below meth c s₁ B hml hv
  obtain ⟨rfl, hsz, hP, hK, hD0, hG⟩ := hv
  have hx := B.exec
  have hb := B.bytes
  have hr := B.returns
  have hts := atoms_spec (ws := wsX12_delays) B.pre
  have hown : s.vm.findClass RX12 = some m.cls := findClass_of_methodNamed B.named
  have hlocks := B.notSynchronized
  subst hsz
  have hD := hD0.self (sz := s.heap.size)
  generalize hAe : va_A (w_X12_delays h0 h_row h_kept h_isKept h_aside h_eight h_rows h_scales h_dealt h_bytes h_heardRow h_made h_comes h_backs h_fresh cy c_thrown c_nodeS c_nodeD c_pairE c_pairO c_bit c_lag c_lagSum c_row) s.heap.size = A at hD ⊢
  have hA : ∀ q : Nat, s.heap.size ≤ q → A q := fun q h => by rw [← hAe]; exact Or.inr h
  have hS : va_S A s.heap s.heap [] := va_S.rf
  have hl := lv_entry ([.ref h0, .int v1, .int v2]) (n := 5) (Nat.le_of_ble_eq_true rfl)
  rw [lg_entry_eq]
  generalize (lg_sl ([.ref h0, .int v1, .int v2]) ++ List.replicate (5 - (lg_sl ([.ref h0, .int v1, .int v2])).length) Slot.unset).toArray = ls at hl ⊢
  replace hl : lv_has ls 5 [(0, .ref h0), (1, .int v1), (2, .int v2)] := hl
  have inX12 : ∀ w ∈ u_ws RX12 TX12 22, w ∈ wsX12_delays := fun w h => List.mem_cons_of_mem _ (inlX12 w h)
  clear hAe hD0 B
  unfold wp_X12_delays at hw
  generalize hQe : MQ below _ _ s _ _ _ = Q0
  generalize ([.ref h0, .int v1, .int v2] : List Value).toArray = av at *
  obtain ⟨H, hH⟩ : ∃ H, H = s.heap := ⟨_, rfl⟩
  obtain ⟨locs, hlo⟩ : ∃ L : List Loc, L = [] := ⟨_, rfl⟩
  replace hP : va_P (dC, dI) vwCl (w_X12_delays h0 h_row h_kept h_isKept h_aside h_eight h_rows h_scales h_dealt h_bytes h_heardRow h_made h_comes h_backs h_fresh cy c_thrown c_nodeS c_nodeD c_pairE c_pairO c_bit c_lag c_lagSum c_row) H := by rw [hH]; exact hP
  replace hS : va_S A s.heap H locs := by rw [hH, hlo]; exact hS
  suffices hgo : W p l e ({ frames := 1, cells := 0, slots := 0, locals := 25 }) s m av below meth c H locs 0 0 Q0 (F0 m 0 ls []) by rw [hH, hlo] at hgo; exact hgo
  clear hH hlo
  refine lv_aload_n hx hb dX12_delays_0 rfl (lv_at hl 0 rfl) ?_
  refine lv_iconst (v := 0) hx hb dX12_delays_1 (by decide) ?_
  refine va_put (D := (dC, dI)) (ci := 12) (v := .int (0 : Int32)) (ty := .int) (C := RX12) (T := TX12) (N := 22) hx hb hts inX12 tyX12 tyX12_ok nmX12 hown hK hP hD hS 0 rfl rfl 0 (by decide) (hts _ (List.mem_cons_of_mem _ mw_200)) (fun _ h9 => h9) rfl (by decide +kernel) rfl rfl (Nat.le_of_ble_eq_true rfl) dX12_delays_2 ?_; clear hP hD hS; clear H locs; intro H locs hP hD hS
  replace hP : va_P (dC, dI) vwCl (w_X12_delays h0 h_row h_kept h_isKept h_aside h_eight h_rows h_scales h_dealt h_bytes h_heardRow h_made h_comes h_backs h_fresh cy (0 : Int32) c_nodeS c_nodeD c_pairE c_pairO c_bit c_lag c_lagSum c_row) H := hP
  replace hD : va_D A (w_X12_delays h0 h_row h_kept h_isKept h_aside h_eight h_rows h_scales h_dealt h_bytes h_heardRow h_made h_comes h_backs h_fresh cy (0 : Int32) c_nodeS c_nodeD c_pairE c_pairO c_bit c_lag c_lagSum c_row) := hD
  refine lv_iload_n hx hb dX12_delays_5 rfl (lv_at hl 1 rfl) ?_
  refine lv_i2l (v := v1.toInt64) hx hb dX12_delays_6 rfl ?_
  refine lv_lconst (v := 0) hx hb dX12_delays_7 (by decide) ?_
  refine lv_ldc2 (v := 15) hx hb hown (hts _ (List.mem_cons_of_mem _ mw_720)) dX12_delays_8 ?_
  have hPc := pSub (ws' := (w_X12_in cy)) hP [] rfl
  have hDc := dSub (ws' := (w_X12_in cy)) hD [] (by decide) rfl
  have hFc := va_free (wc := (w_X12_in cy)) hD hS hA [] rfl
  refine va_calli (va_runS (As := [.long (v1.toInt64), .long (0 : Int64), .long (15 : Int64)]) (rest := []) ⟨hx, hb, hml, hown, hts⟩ (c_X12_in l dC dI cy  H.size (v1.toInt64) (0 : Int64) (15 : Int64) _ hw) (va_cwS 3 hts (goodS mw_207 mw_205 mw_206 mw_5) rfl rfl rfl (by decide +kernel) ⟨Nat.le_of_ble_eq_true rfl, Nat.le_of_ble_eq_true rfl⟩) ⟨PX_blind, PX_pre hPc hK hDc hG⟩ rfl rfl hl.1 rfl (lv_room (Nat.le_of_ble_eq_true rfl)) dX12_delays_11 ⟨Nat.zero_le _, Nat.zero_le _⟩) hS (fun q _ h => hFc q h) hFc ?_; clear hw hS; intro r1 _ t H1 locs1 ht hvm hw hB hz1 hk1 hS
  obtain ⟨hP1, -, -⟩ := hB
  rw [ht] at hP1
  replace hP := jC0 hP hD [] [0, 1] rfl hk1 hP1 (w_X12_delays h0 h_row h_kept h_isKept h_aside h_eight h_rows h_scales h_dealt h_bytes h_heardRow h_made h_comes h_backs h_fresh cy (0 : Int32) c_nodeS c_nodeD c_pairE c_pairO c_bit c_lag c_lagSum c_row) rfl rfl rfl 2 rfl (by decide +kernel); clear hD; obtain ⟨hP, hD⟩ := hP
  replace hP : va_P (dC, dI) vwCl (w_X12_delays h0 h_row h_kept h_isKept h_aside h_eight h_rows h_scales h_dealt h_bytes h_heardRow h_made h_comes h_backs h_fresh cy (0 : Int32) c_nodeS c_nodeD c_pairE c_pairO c_bit c_lag c_lagSum c_row) H1 := hP
  replace hD : va_D A (w_X12_delays h0 h_row h_kept h_isKept h_aside h_eight h_rows h_scales h_dealt h_bytes h_heardRow h_made h_comes h_backs h_fresh cy (0 : Int32) c_nodeS c_nodeD c_pairE c_pairO c_bit c_lag c_lagSum c_row) := hD
  clear hPc hDc hFc hP1 hk1 hz1 hvm ht; clear t; clear H locs; obtain ⟨H, hH⟩ : ∃ H, H = H1 := ⟨_, rfl⟩; obtain ⟨locs, hlo⟩ : ∃ L, L = locs1 := ⟨_, rfl⟩; subst hH; subst hlo
  refine W.widen (k := 0) (n := 0) (Nat.le_refl 0) (Nat.le_refl 0) ?_
  refine lv_if_eq (tgt := 27) hx hb dX12_delays_14 (by decide) (fun c2 => ?_) (fun c2 => ?_)
  · replace hw := hw.1 c2; clear c2
    refine lv_iconst (v := -1) hx hb dX12_delays_27 (by decide) ?_
    subst hQe
    exact W.iret (v := (-1 : Int32)) hx hb hr (fun t ht hW => ⟨⟨(-1 : Int32), (0 : Int32), rfl, hw, by rw [ht]; exact hP, va_K.moved hW.alike hK, hD⟩, hS.F ht⟩) hS.2.2 dX12_delays_28
  · replace hw := hw.2 c2; clear c2
    refine lv_iload_n hx hb dX12_delays_17 rfl (lv_at hl 2 rfl) ?_
    refine lv_i2l (v := v2.toInt64) hx hb dX12_delays_18 rfl ?_
    refine lv_lconst (v := 0) hx hb dX12_delays_19 (by decide) ?_
    refine lv_lconst (v := 1) hx hb dX12_delays_20 (by decide) ?_
    have hPc := pSub (ws' := (w_X12_in cy)) hP [] rfl
    have hDc := dSub (ws' := (w_X12_in cy)) hD [] (by decide) rfl
    have hFc := va_free (wc := (w_X12_in cy)) hD hS hA [] rfl
    refine va_calli (va_runS (As := [.long (v2.toInt64), .long (0 : Int64), .long (1 : Int64)]) (rest := []) ⟨hx, hb, hml, hown, hts⟩ (c_X12_in l dC dI cy  H.size (v2.toInt64) (0 : Int64) (1 : Int64) _ hw) (va_cwS 3 hts (goodS mw_207 mw_205 mw_206 mw_5) rfl rfl rfl (by decide +kernel) ⟨Nat.le_of_ble_eq_true rfl, Nat.le_of_ble_eq_true rfl⟩) ⟨PX_blind, PX_pre hPc hK hDc hG⟩ rfl rfl hl.1 rfl (lv_room (Nat.le_of_ble_eq_true rfl)) dX12_delays_21 ⟨Nat.zero_le _, Nat.zero_le _⟩) hS (fun q _ h => hFc q h) hFc ?_; clear hw hS; intro r3 _ t H1 locs1 ht hvm hw hB hz1 hk1 hS
    obtain ⟨hP1, -, -⟩ := hB
    rw [ht] at hP1
    replace hP := jC0 hP hD [] [0, 1] rfl hk1 hP1 (w_X12_delays h0 h_row h_kept h_isKept h_aside h_eight h_rows h_scales h_dealt h_bytes h_heardRow h_made h_comes h_backs h_fresh cy (0 : Int32) c_nodeS c_nodeD c_pairE c_pairO c_bit c_lag c_lagSum c_row) rfl rfl rfl 2 rfl (by decide +kernel); clear hD; obtain ⟨hP, hD⟩ := hP
    replace hP : va_P (dC, dI) vwCl (w_X12_delays h0 h_row h_kept h_isKept h_aside h_eight h_rows h_scales h_dealt h_bytes h_heardRow h_made h_comes h_backs h_fresh cy (0 : Int32) c_nodeS c_nodeD c_pairE c_pairO c_bit c_lag c_lagSum c_row) H1 := hP
    replace hD : va_D A (w_X12_delays h0 h_row h_kept h_isKept h_aside h_eight h_rows h_scales h_dealt h_bytes h_heardRow h_made h_comes h_backs h_fresh cy (0 : Int32) c_nodeS c_nodeD c_pairE c_pairO c_bit c_lag c_lagSum c_row) := hD
    clear hPc hDc hFc hP1 hk1 hz1 hvm ht; clear t; clear H locs; obtain ⟨H, hH⟩ : ∃ H, H = H1 := ⟨_, rfl⟩; obtain ⟨locs, hlo⟩ : ∃ L, L = locs1 := ⟨_, rfl⟩; subst hH; subst hlo
    refine W.widen (k := 0) (n := 0) (Nat.le_refl 0) (Nat.le_refl 0) ?_
    refine lv_if_ne (tgt := 29) hx hb dX12_delays_24 (by decide) (fun c4 => ?_) (fun c4 => ?_)
    · replace hw := hw.2 c4; clear c4
      refine lv_iconst (v := 0) hx hb dX12_delays_29 (by decide) ?_
      refine lv_istore_n (lv' := [(3, .int (0 : Int32)), (0, .ref h0), (1, .int v1), (2, .int v2)]) hx hb dX12_delays_30 rfl hl (by decide) rfl ?_; clear hl; clear ls; intro ls hl
      refine lv_iload_n hx hb dX12_delays_31 rfl (lv_at hl 2 rfl) ?_
      refine lv_iconst (v := 1) hx hb dX12_delays_32 (by decide) ?_
      refine lv_iadd hx hb dX12_delays_33 ?_
      refine lv_topi (fun x5 e_x5 => ?_)
      replace hw := hw x5 e_x5
      clear e_x5
      refine lv_istore (lv' := [(4, .int x5), (3, .int (0 : Int32)), (0, .ref h0), (1, .int v1), (2, .int v2)]) hx hb dX12_delays_34 hl (by decide) rfl ?_; clear hl; clear ls; intro ls hl
      obtain ⟨x6, e_x6⟩ : ∃ y : Int32, y = (0 : Int32) := ⟨_, rfl⟩
      replace hw := hw x6 e_x6
      replace hl : lv_has ls 5 [(4, .int x5), (3, .int x6), (0, .ref h0), (1, .int v1), (2, .int v2)] := by rw [e_x6]; exact hl
      clear e_x6
      replace hl := lv_sub (l' := [(4, .int x5), (3, .int x6), (0, .ref h0), (1, .int v1), (2, .int v2)]) hl [0, 1, 2, 3, 4] rfl
      revert hl; revert hS; revert hD; revert hP; revert ls; revert locs; revert H
      revert hw; revert x6; revert x5
      refine Lz2_gr ?_; intro g7 ih8 x9 x10 hw
      intro H locs ls hP hD hS hl
      refine lv_iload hx hb dX12_delays_36 (lv_at hl 0 rfl) ?_
      refine lv_bipush (v := 16) hx hb dX12_delays_38 (by decide) ?_
      refine lv_icmp_ge (tgt := 63) hx hb dX12_delays_40 (by decide) (fun c11 => ?_) (fun c11 => ?_)
      · replace hw := hw.1 c11; clear c11
        clear ih8
        refine lv_iload_n hx hb dX12_delays_63 rfl (lv_at hl 4 rfl) ?_
        refine lv_if_ne (tgt := 80) hx hb dX12_delays_64 (by decide) (fun c12 => ?_) (fun c12 => ?_)
        · replace hw := hw.2 c12; clear c12
          refine lv_iload_n hx hb dX12_delays_80 rfl (lv_at hl 1 rfl) ?_
          subst hQe
          exact W.iret (v := x10) hx hb hr (fun t ht hW => ⟨⟨x10, (0 : Int32), rfl, hw, by rw [ht]; exact hP, va_K.moved hW.alike hK, hD⟩, hS.F ht⟩) hS.2.2 dX12_delays_81
        · replace hw := hw.1 c12; clear c12
          refine lv_aload_n hx hb dX12_delays_67 rfl (lv_at hl 2 rfl) ?_
          refine va_get (D := (dC, dI)) (ci := 12) (v := .ref h_row) (C := RX12) (T := TX12) (N := 22) hx hb hts inX12 hown hK hP 0 rfl rfl 1 (by decide) (hts _ (List.mem_cons_of_mem _ mw_169)) (fun _ h9 => h9) rfl dX12_delays_68 ?_
          refine lv_sipush (v := 3369) hx hb dX12_delays_71 (by decide) ?_
          refine lv_iload_n hx hb dX12_delays_74 rfl (lv_at hl 3 rfl) ?_
          refine lv_iadd hx hb dX12_delays_75 ?_
          obtain ⟨h13, hw⟩ := hw
          refine xiald (k := ((3369 : Int32) + v1).toNatClampNeg) hx hb hK hP 1 0 rfl rfl h13 rfl dX12_delays_76 ?_
          refine lv_goto (tgt := 81) hx hb dX12_delays_77 (by decide) ?_
          subst hQe
          exact W.iret (v := c_row ((3369 : Int32) + v1).toNatClampNeg) hx hb hr (fun t ht hW => ⟨⟨(c_row ((3369 : Int32) + v1).toNatClampNeg), (0 : Int32), rfl, hw, by rw [ht]; exact hP, va_K.moved hW.alike hK, hD⟩, hS.F ht⟩) hS.2.2 dX12_delays_81
      · replace hw := hw.2 c11; clear c11
        refine lv_iload_n hx hb dX12_delays_43 rfl (lv_at hl 1 rfl) ?_
        refine lv_aload_n hx hb dX12_delays_44 rfl (lv_at hl 2 rfl) ?_
        refine va_get (D := (dC, dI)) (ci := 12) (v := .ref h_row) (C := RX12) (T := TX12) (N := 22) hx hb hts inX12 hown hK hP 0 rfl rfl 1 (by decide) (hts _ (List.mem_cons_of_mem _ mw_169)) (fun _ h9 => h9) rfl dX12_delays_45 ?_
        refine lv_sipush (v := 3369) hx hb dX12_delays_48 (by decide) ?_
        refine lv_iload hx hb dX12_delays_51 (lv_at hl 0 rfl) ?_
        refine lv_iadd hx hb dX12_delays_53 ?_
        obtain ⟨h14, hw⟩ := hw
        refine xiald (k := ((3369 : Int32) + x9).toNatClampNeg) hx hb hK hP 1 0 rfl rfl h14 rfl dX12_delays_54 ?_
        refine lv_iadd hx hb dX12_delays_55 ?_
        refine lv_topi (fun x15 e_x15 => ?_)
        replace hw := hw x15 e_x15
        clear e_x15
        refine lv_istore_n (lv' := [(3, .int x15), (4, .int x9), (0, .ref h0), (1, .int v1), (2, .int v2)]) hx hb dX12_delays_56 rfl hl (by decide) rfl ?_; clear hl; clear ls; intro ls hl
        refine lv_iinc (v := x9 + 1) (lv' := [(4, .int (x9 + 1)), (3, .int x15), (0, .ref h0), (1, .int v1), (2, .int v2)]) hx hb dX12_delays_57 hl (k := 1) rfl rfl (by decide) rfl ?_; clear hl; clear ls; intro ls hl
        refine lv_goto (tgt := 36) hx hb dX12_delays_60 (by decide) ?_
        exact ih8 (x9 + 1) x15 hw H locs ls hP hD hS (lv_sub hl [0, 1, 2, 3, 4] rfl)
    · replace hw := hw.1 c4; clear c4
      refine lv_iconst (v := -1) hx hb dX12_delays_27 (by decide) ?_
      subst hQe
      exact W.iret (v := (-1 : Int32)) hx hb hr (fun t ht hW => ⟨⟨(-1 : Int32), (0 : Int32), rfl, hw, by rw [ht]; exact hP, va_K.moved hW.alike hK, hD⟩, hS.F ht⟩) hS.2.2 dX12_delays_28
set_option maxHeartbeats 4000000 in
set_option maxRecDepth 100000 in
theorem c_X12_tells (l : Launch) (dC : Nat → ClassId) (dI : Nat → Nat → Nat) (cy : Nat → ClassId) (h0 h_row h_kept h_isKept h_aside h_eight h_rows h_scales h_dealt h_bytes h_heardRow h_made h_comes h_backs h_fresh : Nat) (sz : Nat) (v1 : Int32) (c_thrown : Int32) (c_nodeS : Int32) (c_nodeD : Int32) (c_pairE : Int32) (c_pairO : Int32) (c_bit : Int32) (c_lag : Int32) (c_lagSum : Int32) (c_row : Nat → Int32) (post : Int32 → Prop) (hw : wp_X12_tells v1 c_row post) : Met l yX12_tells wsX12_tells ({ frames := 1, cells := 0, slots := 0, locals := 25 }) (PX dC dI cy [.ref h0, .int v1] sz (w_X12_tells h0 h_row h_kept h_isKept h_aside h_eight h_rows h_scales h_dealt h_bytes h_heardRow h_made h_comes h_backs h_fresh cy c_thrown c_nodeS c_nodeD c_pairE c_pairO c_bit c_lag c_lagSum c_row)) (va_Qi (fun (r : Int32) (u : Unit) => post r) (QX dC dI cy (va_A (w_X12_tells h0 h_row h_kept h_isKept h_aside h_eight h_rows h_scales h_dealt h_bytes h_heardRow h_made h_comes h_backs h_fresh cy c_thrown c_nodeS c_nodeD c_pairE c_pairO c_bit c_lag c_lagSum c_row) sz) (fun (u : Unit) => w_X12_tells h0 h_row h_kept h_isKept h_aside h_eight h_rows h_scales h_dealt h_bytes h_heardRow h_made h_comes h_backs h_fresh cy c_thrown c_nodeS c_nodeD c_pairE c_pairO c_bit c_lag c_lagSum c_row)) (va_A (w_X12_tells h0 h_row h_kept h_isKept h_aside h_eight h_rows h_scales h_dealt h_bytes h_heardRow h_made h_comes h_backs h_fresh cy c_thrown c_nodeS c_nodeD c_pairE c_pairO c_bit c_lag c_lagSum c_row) sz)) 0 0 (va_A (w_X12_tells h0 h_row h_kept h_isKept h_aside h_eight h_rows h_scales h_dealt h_bytes h_heardRow h_made h_comes h_backs h_fresh cy c_thrown c_nodeS c_nodeD c_pairE c_pairO c_bit c_lag c_lagSum c_row) sz) := by
  refine Met.ofW (cc := cX12_tells) (maxL := 2) (ret := (some .int)) (by decide) rfl ?_
  intro p e s m args below meth c s₁ B hml hv
  obtain ⟨rfl, hsz, hP, hK, hD0, hG⟩ := hv
  have hx := B.exec
  have hb := B.bytes
  have hr := B.returns
  have hts := atoms_spec (ws := wsX12_tells) B.pre
  have hown : s.vm.findClass RX12 = some m.cls := findClass_of_methodNamed B.named
  have hlocks := B.notSynchronized
  subst hsz
  have hD := hD0.self (sz := s.heap.size)
  generalize hAe : va_A (w_X12_tells h0 h_row h_kept h_isKept h_aside h_eight h_rows h_scales h_dealt h_bytes h_heardRow h_made h_comes h_backs h_fresh cy c_thrown c_nodeS c_nodeD c_pairE c_pairO c_bit c_lag c_lagSum c_row) s.heap.size = A at hD ⊢
  have hA : ∀ q : Nat, s.heap.size ≤ q → A q := fun q h => by rw [← hAe]; exact Or.inr h
  have hS : va_S A s.heap s.heap [] := va_S.rf
  have hl := lv_entry ([.ref h0, .int v1]) (n := 2) (Nat.le_of_ble_eq_true rfl)
  rw [lg_entry_eq]
  generalize (lg_sl ([.ref h0, .int v1]) ++ List.replicate (2 - (lg_sl ([.ref h0, .int v1])).length) Slot.unset).toArray = ls at hl ⊢
  replace hl : lv_has ls 2 [(0, .ref h0), (1, .int v1)] := hl
  have inX12 : ∀ w ∈ u_ws RX12 TX12 22, w ∈ wsX12_tells := fun w h => List.mem_cons_of_mem _ (inlX12 w h)
  clear hAe hD0 B
  unfold wp_X12_tells at hw
  generalize hQe : MQ below _ _ s _ _ _ = Q0
  generalize ([.ref h0, .int v1] : List Value).toArray = av at *
  obtain ⟨H, hH⟩ : ∃ H, H = s.heap := ⟨_, rfl⟩
  obtain ⟨locs, hlo⟩ : ∃ L : List Loc, L = [] := ⟨_, rfl⟩
  replace hP : va_P (dC, dI) vwCl (w_X12_tells h0 h_row h_kept h_isKept h_aside h_eight h_rows h_scales h_dealt h_bytes h_heardRow h_made h_comes h_backs h_fresh cy c_thrown c_nodeS c_nodeD c_pairE c_pairO c_bit c_lag c_lagSum c_row) H := by rw [hH]; exact hP
  replace hS : va_S A s.heap H locs := by rw [hH, hlo]; exact hS
  suffices hgo : W p l e ({ frames := 1, cells := 0, slots := 0, locals := 25 }) s m av below meth c H locs 0 0 Q0 (F0 m 0 ls []) by rw [hH, hlo] at hgo; exact hgo
  clear hH hlo
  refine lv_iload_n hx hb dX12_tells_0 rfl (lv_at hl 1 rfl) ?_
  by_cases c1 : v1 = 0
  · replace hw := hw.1 c1
    refine lv_tableIn (tgt := 164) hx hb dX12_tells_1 (by rw [c1]; decide) (by rw [c1]; decide) (by rw [c1]; rfl) (by decide) ?_
    refine lv_aload_n hx hb dX12_tells_164 rfl (lv_at hl 0 rfl) ?_
    refine va_get (D := (dC, dI)) (ci := 12) (v := .ref h_row) (C := RX12) (T := TX12) (N := 22) hx hb hts inX12 hown hK hP 0 rfl rfl 1 (by decide) (hts _ (List.mem_cons_of_mem _ mw_169)) (fun _ h9 => h9) rfl dX12_tells_165 ?_
    refine lv_bipush (v := 25) hx hb dX12_tells_168 (by decide) ?_
    refine xiald (k := 25) hx hb hK hP 1 0 rfl rfl (vpL 25 13385 rfl) (by decide) dX12_tells_170 ?_
    subst hQe
    exact W.iret (v := c_row 25) hx hb hr (fun t ht hW => ⟨⟨(c_row 25), (), rfl, hw, by rw [ht]; exact hP, va_K.moved hW.alike hK, hD⟩, hS.F ht⟩) hS.2.2 dX12_tells_171
  · skip
    by_cases c3 : v1 = 1
    · replace hw := hw.2.1 c3
      refine lv_tableIn (tgt := 172) hx hb dX12_tells_1 (by rw [c3]; decide) (by rw [c3]; decide) (by rw [c3]; rfl) (by decide) ?_
      refine lv_aload_n hx hb dX12_tells_172 rfl (lv_at hl 0 rfl) ?_
      refine va_get (D := (dC, dI)) (ci := 12) (v := .ref h_row) (C := RX12) (T := TX12) (N := 22) hx hb hts inX12 hown hK hP 0 rfl rfl 1 (by decide) (hts _ (List.mem_cons_of_mem _ mw_169)) (fun _ h9 => h9) rfl dX12_tells_173 ?_
      refine lv_bipush (v := 26) hx hb dX12_tells_176 (by decide) ?_
      refine xiald (k := 26) hx hb hK hP 1 0 rfl rfl (vpL 26 13385 rfl) (by decide) dX12_tells_178 ?_
      subst hQe
      exact W.iret (v := c_row 26) hx hb hr (fun t ht hW => ⟨⟨(c_row 26), (), rfl, hw, by rw [ht]; exact hP, va_K.moved hW.alike hK, hD⟩, hS.F ht⟩) hS.2.2 dX12_tells_179
    · skip
      by_cases c5 : v1 = 2
      · replace hw := hw.2.2.1 c5
        refine lv_tableIn (tgt := 180) hx hb dX12_tells_1 (by rw [c5]; decide) (by rw [c5]; decide) (by rw [c5]; rfl) (by decide) ?_
        refine lv_aload_n hx hb dX12_tells_180 rfl (lv_at hl 0 rfl) ?_
        refine va_get (D := (dC, dI)) (ci := 12) (v := .ref h_row) (C := RX12) (T := TX12) (N := 22) hx hb hts inX12 hown hK hP 0 rfl rfl 1 (by decide) (hts _ (List.mem_cons_of_mem _ mw_169)) (fun _ h9 => h9) rfl dX12_tells_181 ?_
        refine lv_bipush (v := 27) hx hb dX12_tells_184 (by decide) ?_
        refine xiald (k := 27) hx hb hK hP 1 0 rfl rfl (vpL 27 13385 rfl) (by decide) dX12_tells_186 ?_
        subst hQe
        exact W.iret (v := c_row 27) hx hb hr (fun t ht hW => ⟨⟨(c_row 27), (), rfl, hw, by rw [ht]; exact hP, va_K.moved hW.alike hK, hD⟩, hS.F ht⟩) hS.2.2 dX12_tells_187
      · skip
        by_cases c7 : v1 = 3
        · replace hw := hw.2.2.2.1 c7
          refine lv_tableIn (tgt := 188) hx hb dX12_tells_1 (by rw [c7]; decide) (by rw [c7]; decide) (by rw [c7]; rfl) (by decide) ?_
          refine lv_aload_n hx hb dX12_tells_188 rfl (lv_at hl 0 rfl) ?_
          refine va_get (D := (dC, dI)) (ci := 12) (v := .ref h_row) (C := RX12) (T := TX12) (N := 22) hx hb hts inX12 hown hK hP 0 rfl rfl 1 (by decide) (hts _ (List.mem_cons_of_mem _ mw_169)) (fun _ h9 => h9) rfl dX12_tells_189 ?_
          refine lv_bipush (v := 28) hx hb dX12_tells_192 (by decide) ?_
          refine xiald (k := 28) hx hb hK hP 1 0 rfl rfl (vpL 28 13385 rfl) (by decide) dX12_tells_194 ?_
          subst hQe
          exact W.iret (v := c_row 28) hx hb hr (fun t ht hW => ⟨⟨(c_row 28), (), rfl, hw, by rw [ht]; exact hP, va_K.moved hW.alike hK, hD⟩, hS.F ht⟩) hS.2.2 dX12_tells_195
        · skip
          by_cases c9 : v1 = 4
          · replace hw := hw.2.2.2.2.1 c9
            refine lv_tableIn (tgt := 196) hx hb dX12_tells_1 (by rw [c9]; decide) (by rw [c9]; decide) (by rw [c9]; rfl) (by decide) ?_
            refine lv_aload_n hx hb dX12_tells_196 rfl (lv_at hl 0 rfl) ?_
            refine va_get (D := (dC, dI)) (ci := 12) (v := .ref h_row) (C := RX12) (T := TX12) (N := 22) hx hb hts inX12 hown hK hP 0 rfl rfl 1 (by decide) (hts _ (List.mem_cons_of_mem _ mw_169)) (fun _ h9 => h9) rfl dX12_tells_197 ?_
            refine lv_bipush (v := 29) hx hb dX12_tells_200 (by decide) ?_
            refine xiald (k := 29) hx hb hK hP 1 0 rfl rfl (vpL 29 13385 rfl) (by decide) dX12_tells_202 ?_
            subst hQe
            exact W.iret (v := c_row 29) hx hb hr (fun t ht hW => ⟨⟨(c_row 29), (), rfl, hw, by rw [ht]; exact hP, va_K.moved hW.alike hK, hD⟩, hS.F ht⟩) hS.2.2 dX12_tells_203
          · skip
            by_cases c11 : v1 = 5
            · replace hw := hw.2.2.2.2.2.1 c11
              refine lv_tableIn (tgt := 204) hx hb dX12_tells_1 (by rw [c11]; decide) (by rw [c11]; decide) (by rw [c11]; rfl) (by decide) ?_
              refine lv_aload_n hx hb dX12_tells_204 rfl (lv_at hl 0 rfl) ?_
              refine va_get (D := (dC, dI)) (ci := 12) (v := .ref h_row) (C := RX12) (T := TX12) (N := 22) hx hb hts inX12 hown hK hP 0 rfl rfl 1 (by decide) (hts _ (List.mem_cons_of_mem _ mw_169)) (fun _ h9 => h9) rfl dX12_tells_205 ?_
              refine lv_bipush (v := 51) hx hb dX12_tells_208 (by decide) ?_
              refine xiald (k := 51) hx hb hK hP 1 0 rfl rfl (vpL 51 13385 rfl) (by decide) dX12_tells_210 ?_
              subst hQe
              exact W.iret (v := c_row 51) hx hb hr (fun t ht hW => ⟨⟨(c_row 51), (), rfl, hw, by rw [ht]; exact hP, va_K.moved hW.alike hK, hD⟩, hS.F ht⟩) hS.2.2 dX12_tells_211
            · skip
              by_cases c13 : v1 = 6
              · replace hw := hw.2.2.2.2.2.2.1 c13
                refine lv_tableIn (tgt := 212) hx hb dX12_tells_1 (by rw [c13]; decide) (by rw [c13]; decide) (by rw [c13]; rfl) (by decide) ?_
                refine lv_aload_n hx hb dX12_tells_212 rfl (lv_at hl 0 rfl) ?_
                have hPc := pSub (ws' := (w_X12_level h0 h_row h_kept h_isKept h_aside h_eight h_rows h_scales h_dealt h_bytes h_heardRow h_made h_comes h_backs h_fresh cy c_thrown c_nodeS c_nodeD c_pairE c_pairO c_bit c_lag c_lagSum c_row)) hP [0, 1] rfl
                have hDc := dSub (ws' := (w_X12_level h0 h_row h_kept h_isKept h_aside h_eight h_rows h_scales h_dealt h_bytes h_heardRow h_made h_comes h_backs h_fresh cy c_thrown c_nodeS c_nodeD c_pairE c_pairO c_bit c_lag c_lagSum c_row)) hD [0, 1] (by decide) rfl
                have hFc := va_free (wc := (w_X12_level h0 h_row h_kept h_isKept h_aside h_eight h_rows h_scales h_dealt h_bytes h_heardRow h_made h_comes h_backs h_fresh cy c_thrown c_nodeS c_nodeD c_pairE c_pairO c_bit c_lag c_lagSum c_row)) hD hS hA [0, 1] rfl
                refine va_calli (va_runV (As := []) (rest := []) ⟨hx, hb, hml, hown, hts⟩ (c_X12_level l dC dI cy h0 h_row h_kept h_isKept h_aside h_eight h_rows h_scales h_dealt h_bytes h_heardRow h_made h_comes h_backs h_fresh H.size c_thrown c_nodeS c_nodeD c_pairE c_pairO c_bit c_lag c_lagSum c_row _ hw) (cwV 0 hts (goodV mw_724 mw_721 mw_722 mw_723 mw_5) rfl rfl rfl (by decide +kernel) ⟨Nat.le_of_ble_eq_true rfl, Nat.le_of_ble_eq_true rfl⟩) ⟨PX_blind, va_recv hK hPc (ci := 12) (q0 := 0) rfl rfl, PX_pre hPc hK hDc hG⟩ rfl rfl hl.1 rfl (lv_room (Nat.le_of_ble_eq_true rfl)) dX12_tells_213 ⟨Nat.zero_le _, Nat.zero_le _⟩) hS (fun q _ h => hFc q h) hFc ?_; clear hw hS; intro r14 _ t H1 locs1 ht hvm hw hB hz1 hk1 hS
                obtain ⟨hP1, -, -⟩ := hB
                rw [ht] at hP1
                replace hP := jC0 hP hD [0, 1] [] rfl hk1 hP1 (w_X12_tells h0 h_row h_kept h_isKept h_aside h_eight h_rows h_scales h_dealt h_bytes h_heardRow h_made h_comes h_backs h_fresh cy c_thrown c_nodeS c_nodeD c_pairE c_pairO c_bit c_lag c_lagSum c_row) rfl rfl rfl 2 rfl (by decide +kernel); clear hD; obtain ⟨hP, hD⟩ := hP
                replace hP : va_P (dC, dI) vwCl (w_X12_tells h0 h_row h_kept h_isKept h_aside h_eight h_rows h_scales h_dealt h_bytes h_heardRow h_made h_comes h_backs h_fresh cy c_thrown c_nodeS c_nodeD c_pairE c_pairO c_bit c_lag c_lagSum c_row) H1 := hP
                replace hD : va_D A (w_X12_tells h0 h_row h_kept h_isKept h_aside h_eight h_rows h_scales h_dealt h_bytes h_heardRow h_made h_comes h_backs h_fresh cy c_thrown c_nodeS c_nodeD c_pairE c_pairO c_bit c_lag c_lagSum c_row) := hD
                clear hPc hDc hFc hP1 hk1 hz1 hvm ht; clear t; clear H locs; obtain ⟨H, hH⟩ : ∃ H, H = H1 := ⟨_, rfl⟩; obtain ⟨locs, hlo⟩ : ∃ L, L = locs1 := ⟨_, rfl⟩; subst hH; subst hlo
                refine W.widen (k := 0) (n := 0) (Nat.le_refl 0) (Nat.le_refl 0) ?_
                subst hQe
                exact W.iret (v := r14) hx hb hr (fun t ht hW => ⟨⟨r14, (), rfl, hw, by rw [ht]; exact hP, va_K.moved hW.alike hK, hD⟩, hS.F ht⟩) hS.2.2 dX12_tells_216
              · skip
                by_cases c15 : v1 = 7
                · replace hw := hw.2.2.2.2.2.2.2.1 c15
                  refine lv_tableIn (tgt := 217) hx hb dX12_tells_1 (by rw [c15]; decide) (by rw [c15]; decide) (by rw [c15]; rfl) (by decide) ?_
                  refine lv_aload_n hx hb dX12_tells_217 rfl (lv_at hl 0 rfl) ?_
                  refine va_get (D := (dC, dI)) (ci := 12) (v := .ref h_row) (C := RX12) (T := TX12) (N := 22) hx hb hts inX12 hown hK hP 0 rfl rfl 1 (by decide) (hts _ (List.mem_cons_of_mem _ mw_169)) (fun _ h9 => h9) rfl dX12_tells_218 ?_
                  refine lv_bipush (v := 30) hx hb dX12_tells_221 (by decide) ?_
                  refine xiald (k := 30) hx hb hK hP 1 0 rfl rfl (vpL 30 13385 rfl) (by decide) dX12_tells_223 ?_
                  subst hQe
                  exact W.iret (v := c_row 30) hx hb hr (fun t ht hW => ⟨⟨(c_row 30), (), rfl, hw, by rw [ht]; exact hP, va_K.moved hW.alike hK, hD⟩, hS.F ht⟩) hS.2.2 dX12_tells_224
                · skip
                  by_cases c17 : v1 = 8
                  · replace hw := hw.2.2.2.2.2.2.2.2.1 c17
                    refine lv_tableIn (tgt := 225) hx hb dX12_tells_1 (by rw [c17]; decide) (by rw [c17]; decide) (by rw [c17]; rfl) (by decide) ?_
                    refine lv_aload_n hx hb dX12_tells_225 rfl (lv_at hl 0 rfl) ?_
                    refine va_get (D := (dC, dI)) (ci := 12) (v := .ref h_row) (C := RX12) (T := TX12) (N := 22) hx hb hts inX12 hown hK hP 0 rfl rfl 1 (by decide) (hts _ (List.mem_cons_of_mem _ mw_169)) (fun _ h9 => h9) rfl dX12_tells_226 ?_
                    refine lv_bipush (v := 31) hx hb dX12_tells_229 (by decide) ?_
                    refine xiald (k := 31) hx hb hK hP 1 0 rfl rfl (vpL 31 13385 rfl) (by decide) dX12_tells_231 ?_
                    subst hQe
                    exact W.iret (v := c_row 31) hx hb hr (fun t ht hW => ⟨⟨(c_row 31), (), rfl, hw, by rw [ht]; exact hP, va_K.moved hW.alike hK, hD⟩, hS.F ht⟩) hS.2.2 dX12_tells_232
                  · skip
                    by_cases c19 : v1 = 9
                    · replace hw := hw.2.2.2.2.2.2.2.2.2.1 c19
                      refine lv_tableIn (tgt := 233) hx hb dX12_tells_1 (by rw [c19]; decide) (by rw [c19]; decide) (by rw [c19]; rfl) (by decide) ?_
                      refine lv_aload_n hx hb dX12_tells_233 rfl (lv_at hl 0 rfl) ?_
                      refine va_get (D := (dC, dI)) (ci := 12) (v := .ref h_row) (C := RX12) (T := TX12) (N := 22) hx hb hts inX12 hown hK hP 0 rfl rfl 1 (by decide) (hts _ (List.mem_cons_of_mem _ mw_169)) (fun _ h9 => h9) rfl dX12_tells_234 ?_
                      refine lv_bipush (v := 32) hx hb dX12_tells_237 (by decide) ?_
                      refine xiald (k := 32) hx hb hK hP 1 0 rfl rfl (vpL 32 13385 rfl) (by decide) dX12_tells_239 ?_
                      subst hQe
                      exact W.iret (v := c_row 32) hx hb hr (fun t ht hW => ⟨⟨(c_row 32), (), rfl, hw, by rw [ht]; exact hP, va_K.moved hW.alike hK, hD⟩, hS.F ht⟩) hS.2.2 dX12_tells_240
                    · skip
                      by_cases c21 : v1 = 10
                      · replace hw := hw.2.2.2.2.2.2.2.2.2.2.1 c21
                        refine lv_tableIn (tgt := 241) hx hb dX12_tells_1 (by rw [c21]; decide) (by rw [c21]; decide) (by rw [c21]; rfl) (by decide) ?_
                        refine lv_aload_n hx hb dX12_tells_241 rfl (lv_at hl 0 rfl) ?_
                        refine va_get (D := (dC, dI)) (ci := 12) (v := .ref h_row) (C := RX12) (T := TX12) (N := 22) hx hb hts inX12 hown hK hP 0 rfl rfl 1 (by decide) (hts _ (List.mem_cons_of_mem _ mw_169)) (fun _ h9 => h9) rfl dX12_tells_242 ?_
                        refine lv_bipush (v := 33) hx hb dX12_tells_245 (by decide) ?_
                        refine xiald (k := 33) hx hb hK hP 1 0 rfl rfl (vpL 33 13385 rfl) (by decide) dX12_tells_247 ?_
                        subst hQe
                        exact W.iret (v := c_row 33) hx hb hr (fun t ht hW => ⟨⟨(c_row 33), (), rfl, hw, by rw [ht]; exact hP, va_K.moved hW.alike hK, hD⟩, hS.F ht⟩) hS.2.2 dX12_tells_248
                      · skip
                        by_cases c23 : v1 = 11
                        · replace hw := hw.2.2.2.2.2.2.2.2.2.2.2.1 c23
                          refine lv_tableIn (tgt := 249) hx hb dX12_tells_1 (by rw [c23]; decide) (by rw [c23]; decide) (by rw [c23]; rfl) (by decide) ?_
                          refine lv_aload_n hx hb dX12_tells_249 rfl (lv_at hl 0 rfl) ?_
                          refine va_get (D := (dC, dI)) (ci := 12) (v := .ref h_row) (C := RX12) (T := TX12) (N := 22) hx hb hts inX12 hown hK hP 0 rfl rfl 1 (by decide) (hts _ (List.mem_cons_of_mem _ mw_169)) (fun _ h9 => h9) rfl dX12_tells_250 ?_
                          refine lv_bipush (v := 34) hx hb dX12_tells_253 (by decide) ?_
                          refine xiald (k := 34) hx hb hK hP 1 0 rfl rfl (vpL 34 13385 rfl) (by decide) dX12_tells_255 ?_
                          subst hQe
                          exact W.iret (v := c_row 34) hx hb hr (fun t ht hW => ⟨⟨(c_row 34), (), rfl, hw, by rw [ht]; exact hP, va_K.moved hW.alike hK, hD⟩, hS.F ht⟩) hS.2.2 dX12_tells_256
                        · skip
                          by_cases c25 : v1 = 12
                          · replace hw := hw.2.2.2.2.2.2.2.2.2.2.2.2.1 c25
                            refine lv_tableIn (tgt := 257) hx hb dX12_tells_1 (by rw [c25]; decide) (by rw [c25]; decide) (by rw [c25]; rfl) (by decide) ?_
                            refine lv_aload_n hx hb dX12_tells_257 rfl (lv_at hl 0 rfl) ?_
                            refine va_get (D := (dC, dI)) (ci := 12) (v := .ref h_row) (C := RX12) (T := TX12) (N := 22) hx hb hts inX12 hown hK hP 0 rfl rfl 1 (by decide) (hts _ (List.mem_cons_of_mem _ mw_169)) (fun _ h9 => h9) rfl dX12_tells_258 ?_
                            refine lv_bipush (v := 35) hx hb dX12_tells_261 (by decide) ?_
                            refine xiald (k := 35) hx hb hK hP 1 0 rfl rfl (vpL 35 13385 rfl) (by decide) dX12_tells_263 ?_
                            subst hQe
                            exact W.iret (v := c_row 35) hx hb hr (fun t ht hW => ⟨⟨(c_row 35), (), rfl, hw, by rw [ht]; exact hP, va_K.moved hW.alike hK, hD⟩, hS.F ht⟩) hS.2.2 dX12_tells_264
                          · skip
                            by_cases c27 : v1 = 13
                            · replace hw := hw.2.2.2.2.2.2.2.2.2.2.2.2.2.1 c27
                              refine lv_tableIn (tgt := 265) hx hb dX12_tells_1 (by rw [c27]; decide) (by rw [c27]; decide) (by rw [c27]; rfl) (by decide) ?_
                              refine lv_aload_n hx hb dX12_tells_265 rfl (lv_at hl 0 rfl) ?_
                              refine va_get (D := (dC, dI)) (ci := 12) (v := .ref h_row) (C := RX12) (T := TX12) (N := 22) hx hb hts inX12 hown hK hP 0 rfl rfl 1 (by decide) (hts _ (List.mem_cons_of_mem _ mw_169)) (fun _ h9 => h9) rfl dX12_tells_266 ?_
                              refine lv_bipush (v := 36) hx hb dX12_tells_269 (by decide) ?_
                              refine xiald (k := 36) hx hb hK hP 1 0 rfl rfl (vpL 36 13385 rfl) (by decide) dX12_tells_271 ?_
                              subst hQe
                              exact W.iret (v := c_row 36) hx hb hr (fun t ht hW => ⟨⟨(c_row 36), (), rfl, hw, by rw [ht]; exact hP, va_K.moved hW.alike hK, hD⟩, hS.F ht⟩) hS.2.2 dX12_tells_272
                            · skip
                              by_cases c29 : v1 = 14
                              · replace hw := hw.2.2.2.2.2.2.2.2.2.2.2.2.2.2.1 c29
                                refine lv_tableIn (tgt := 273) hx hb dX12_tells_1 (by rw [c29]; decide) (by rw [c29]; decide) (by rw [c29]; rfl) (by decide) ?_
                                refine lv_aload_n hx hb dX12_tells_273 rfl (lv_at hl 0 rfl) ?_
                                refine va_get (D := (dC, dI)) (ci := 12) (v := .ref h_row) (C := RX12) (T := TX12) (N := 22) hx hb hts inX12 hown hK hP 0 rfl rfl 1 (by decide) (hts _ (List.mem_cons_of_mem _ mw_169)) (fun _ h9 => h9) rfl dX12_tells_274 ?_
                                refine lv_bipush (v := 37) hx hb dX12_tells_277 (by decide) ?_
                                refine xiald (k := 37) hx hb hK hP 1 0 rfl rfl (vpL 37 13385 rfl) (by decide) dX12_tells_279 ?_
                                subst hQe
                                exact W.iret (v := c_row 37) hx hb hr (fun t ht hW => ⟨⟨(c_row 37), (), rfl, hw, by rw [ht]; exact hP, va_K.moved hW.alike hK, hD⟩, hS.F ht⟩) hS.2.2 dX12_tells_280
                              · skip
                                by_cases c31 : v1 = 15
                                · replace hw := hw.2.2.2.2.2.2.2.2.2.2.2.2.2.2.2.1 c31
                                  refine lv_tableIn (tgt := 281) hx hb dX12_tells_1 (by rw [c31]; decide) (by rw [c31]; decide) (by rw [c31]; rfl) (by decide) ?_
                                  refine lv_aload_n hx hb dX12_tells_281 rfl (lv_at hl 0 rfl) ?_
                                  refine va_get (D := (dC, dI)) (ci := 12) (v := .ref h_row) (C := RX12) (T := TX12) (N := 22) hx hb hts inX12 hown hK hP 0 rfl rfl 1 (by decide) (hts _ (List.mem_cons_of_mem _ mw_169)) (fun _ h9 => h9) rfl dX12_tells_282 ?_
                                  refine lv_bipush (v := 38) hx hb dX12_tells_285 (by decide) ?_
                                  refine xiald (k := 38) hx hb hK hP 1 0 rfl rfl (vpL 38 13385 rfl) (by decide) dX12_tells_287 ?_
                                  subst hQe
                                  exact W.iret (v := c_row 38) hx hb hr (fun t ht hW => ⟨⟨(c_row 38), (), rfl, hw, by rw [ht]; exact hP, va_K.moved hW.alike hK, hD⟩, hS.F ht⟩) hS.2.2 dX12_tells_288
                                · skip
                                  by_cases c33 : v1 = 16
                                  · replace hw := hw.2.2.2.2.2.2.2.2.2.2.2.2.2.2.2.2.1 c33
                                    refine lv_tableIn (tgt := 289) hx hb dX12_tells_1 (by rw [c33]; decide) (by rw [c33]; decide) (by rw [c33]; rfl) (by decide) ?_
                                    refine lv_aload_n hx hb dX12_tells_289 rfl (lv_at hl 0 rfl) ?_
                                    refine va_get (D := (dC, dI)) (ci := 12) (v := .ref h_row) (C := RX12) (T := TX12) (N := 22) hx hb hts inX12 hown hK hP 0 rfl rfl 1 (by decide) (hts _ (List.mem_cons_of_mem _ mw_169)) (fun _ h9 => h9) rfl dX12_tells_290 ?_
                                    refine lv_bipush (v := 39) hx hb dX12_tells_293 (by decide) ?_
                                    refine xiald (k := 39) hx hb hK hP 1 0 rfl rfl (vpL 39 13385 rfl) (by decide) dX12_tells_295 ?_
                                    subst hQe
                                    exact W.iret (v := c_row 39) hx hb hr (fun t ht hW => ⟨⟨(c_row 39), (), rfl, hw, by rw [ht]; exact hP, va_K.moved hW.alike hK, hD⟩, hS.F ht⟩) hS.2.2 dX12_tells_296
                                  · skip
                                    by_cases c35 : v1 = 17
                                    · replace hw := hw.2.2.2.2.2.2.2.2.2.2.2.2.2.2.2.2.2.1 c35
                                      refine lv_tableIn (tgt := 297) hx hb dX12_tells_1 (by rw [c35]; decide) (by rw [c35]; decide) (by rw [c35]; rfl) (by decide) ?_
                                      refine lv_aload_n hx hb dX12_tells_297 rfl (lv_at hl 0 rfl) ?_
                                      refine va_get (D := (dC, dI)) (ci := 12) (v := .ref h_row) (C := RX12) (T := TX12) (N := 22) hx hb hts inX12 hown hK hP 0 rfl rfl 1 (by decide) (hts _ (List.mem_cons_of_mem _ mw_169)) (fun _ h9 => h9) rfl dX12_tells_298 ?_
                                      refine lv_bipush (v := 40) hx hb dX12_tells_301 (by decide) ?_
                                      refine xiald (k := 40) hx hb hK hP 1 0 rfl rfl (vpL 40 13385 rfl) (by decide) dX12_tells_303 ?_
                                      subst hQe
                                      exact W.iret (v := c_row 40) hx hb hr (fun t ht hW => ⟨⟨(c_row 40), (), rfl, hw, by rw [ht]; exact hP, va_K.moved hW.alike hK, hD⟩, hS.F ht⟩) hS.2.2 dX12_tells_304
                                    · skip
                                      by_cases c37 : v1 = 18
                                      · replace hw := hw.2.2.2.2.2.2.2.2.2.2.2.2.2.2.2.2.2.2.1 c37
                                        refine lv_tableIn (tgt := 305) hx hb dX12_tells_1 (by rw [c37]; decide) (by rw [c37]; decide) (by rw [c37]; rfl) (by decide) ?_
                                        refine lv_aload_n hx hb dX12_tells_305 rfl (lv_at hl 0 rfl) ?_
                                        refine va_get (D := (dC, dI)) (ci := 12) (v := .ref h_row) (C := RX12) (T := TX12) (N := 22) hx hb hts inX12 hown hK hP 0 rfl rfl 1 (by decide) (hts _ (List.mem_cons_of_mem _ mw_169)) (fun _ h9 => h9) rfl dX12_tells_306 ?_
                                        refine lv_bipush (v := 41) hx hb dX12_tells_309 (by decide) ?_
                                        refine xiald (k := 41) hx hb hK hP 1 0 rfl rfl (vpL 41 13385 rfl) (by decide) dX12_tells_311 ?_
                                        subst hQe
                                        exact W.iret (v := c_row 41) hx hb hr (fun t ht hW => ⟨⟨(c_row 41), (), rfl, hw, by rw [ht]; exact hP, va_K.moved hW.alike hK, hD⟩, hS.F ht⟩) hS.2.2 dX12_tells_312
                                      · skip
                                        by_cases c39 : v1 = 19
                                        · replace hw := hw.2.2.2.2.2.2.2.2.2.2.2.2.2.2.2.2.2.2.2.1 c39
                                          refine lv_tableIn (tgt := 313) hx hb dX12_tells_1 (by rw [c39]; decide) (by rw [c39]; decide) (by rw [c39]; rfl) (by decide) ?_
                                          refine lv_aload_n hx hb dX12_tells_313 rfl (lv_at hl 0 rfl) ?_
                                          refine va_get (D := (dC, dI)) (ci := 12) (v := .ref h_row) (C := RX12) (T := TX12) (N := 22) hx hb hts inX12 hown hK hP 0 rfl rfl 1 (by decide) (hts _ (List.mem_cons_of_mem _ mw_169)) (fun _ h9 => h9) rfl dX12_tells_314 ?_
                                          refine lv_bipush (v := 42) hx hb dX12_tells_317 (by decide) ?_
                                          refine xiald (k := 42) hx hb hK hP 1 0 rfl rfl (vpL 42 13385 rfl) (by decide) dX12_tells_319 ?_
                                          subst hQe
                                          exact W.iret (v := c_row 42) hx hb hr (fun t ht hW => ⟨⟨(c_row 42), (), rfl, hw, by rw [ht]; exact hP, va_K.moved hW.alike hK, hD⟩, hS.F ht⟩) hS.2.2 dX12_tells_320
                                        · skip
                                          by_cases c41 : v1 = 20
                                          · replace hw := hw.2.2.2.2.2.2.2.2.2.2.2.2.2.2.2.2.2.2.2.2.1 c41
                                            refine lv_tableIn (tgt := 369) hx hb dX12_tells_1 (by rw [c41]; decide) (by rw [c41]; decide) (by rw [c41]; rfl) (by decide) ?_
                                            refine lv_iload_n hx hb dX12_tells_369 rfl (lv_at hl 1 rfl) ?_
                                            refine lv_i2l (v := v1.toInt64) hx hb dX12_tells_370 rfl ?_
                                            refine lv_ldc2 (v := 20) hx hb hown (hts _ (List.mem_cons_of_mem _ mw_1216)) dX12_tells_371 ?_
                                            refine lv_ldc2 (v := 30) hx hb hown (hts _ (List.mem_cons_of_mem _ mw_1217)) dX12_tells_374 ?_
                                            have hPc := pSub (ws' := (w_X12_in cy)) hP [] rfl
                                            have hDc := dSub (ws' := (w_X12_in cy)) hD [] (by decide) rfl
                                            have hFc := va_free (wc := (w_X12_in cy)) hD hS hA [] rfl
                                            refine va_calli (va_runS (As := [.long (v1.toInt64), .long (20 : Int64), .long (30 : Int64)]) (rest := []) ⟨hx, hb, hml, hown, hts⟩ (c_X12_in l dC dI cy  H.size (v1.toInt64) (20 : Int64) (30 : Int64) _ hw) (va_cwS 3 hts (goodS mw_207 mw_205 mw_206 mw_5) rfl rfl rfl (by decide +kernel) ⟨Nat.le_of_ble_eq_true rfl, Nat.le_of_ble_eq_true rfl⟩) ⟨PX_blind, PX_pre hPc hK hDc hG⟩ rfl rfl hl.1 rfl (lv_room (Nat.le_of_ble_eq_true rfl)) dX12_tells_377 ⟨Nat.zero_le _, Nat.zero_le _⟩) hS (fun q _ h => hFc q h) hFc ?_; clear hw hS; intro r42 _ t H1 locs1 ht hvm hw hB hz1 hk1 hS
                                            obtain ⟨hP1, -, -⟩ := hB
                                            rw [ht] at hP1
                                            replace hP := jC0 hP hD [] [0, 1] rfl hk1 hP1 (w_X12_tells h0 h_row h_kept h_isKept h_aside h_eight h_rows h_scales h_dealt h_bytes h_heardRow h_made h_comes h_backs h_fresh cy c_thrown c_nodeS c_nodeD c_pairE c_pairO c_bit c_lag c_lagSum c_row) rfl rfl rfl 2 rfl (by decide +kernel); clear hD; obtain ⟨hP, hD⟩ := hP
                                            replace hP : va_P (dC, dI) vwCl (w_X12_tells h0 h_row h_kept h_isKept h_aside h_eight h_rows h_scales h_dealt h_bytes h_heardRow h_made h_comes h_backs h_fresh cy c_thrown c_nodeS c_nodeD c_pairE c_pairO c_bit c_lag c_lagSum c_row) H1 := hP
                                            replace hD : va_D A (w_X12_tells h0 h_row h_kept h_isKept h_aside h_eight h_rows h_scales h_dealt h_bytes h_heardRow h_made h_comes h_backs h_fresh cy c_thrown c_nodeS c_nodeD c_pairE c_pairO c_bit c_lag c_lagSum c_row) := hD
                                            clear hPc hDc hFc hP1 hk1 hz1 hvm ht; clear t; clear H locs; obtain ⟨H, hH⟩ : ∃ H, H = H1 := ⟨_, rfl⟩; obtain ⟨locs, hlo⟩ : ∃ L, L = locs1 := ⟨_, rfl⟩; subst hH; subst hlo
                                            refine W.widen (k := 0) (n := 0) (Nat.le_refl 0) (Nat.le_refl 0) ?_
                                            refine lv_if_eq (tgt := 398) hx hb dX12_tells_380 (by decide) (fun c43 => ?_) (fun c43 => ?_)
                                            · replace hw := hw.1 c43; clear c43
                                              refine lv_iload_n hx hb dX12_tells_398 rfl (lv_at hl 1 rfl) ?_
                                              refine lv_i2l (v := v1.toInt64) hx hb dX12_tells_399 rfl ?_
                                              refine lv_ldc2 (v := 40) hx hb hown (hts _ (List.mem_cons_of_mem _ mw_1218)) dX12_tells_400 ?_
                                              refine lv_ldc2 (v := 47) hx hb hown (hts _ (List.mem_cons_of_mem _ mw_1219)) dX12_tells_403 ?_
                                              have hPc := pSub (ws' := (w_X12_in cy)) hP [] rfl
                                              have hDc := dSub (ws' := (w_X12_in cy)) hD [] (by decide) rfl
                                              have hFc := va_free (wc := (w_X12_in cy)) hD hS hA [] rfl
                                              refine va_calli (va_runS (As := [.long (v1.toInt64), .long (40 : Int64), .long (47 : Int64)]) (rest := []) ⟨hx, hb, hml, hown, hts⟩ (c_X12_in l dC dI cy  H.size (v1.toInt64) (40 : Int64) (47 : Int64) _ hw) (va_cwS 3 hts (goodS mw_207 mw_205 mw_206 mw_5) rfl rfl rfl (by decide +kernel) ⟨Nat.le_of_ble_eq_true rfl, Nat.le_of_ble_eq_true rfl⟩) ⟨PX_blind, PX_pre hPc hK hDc hG⟩ rfl rfl hl.1 rfl (lv_room (Nat.le_of_ble_eq_true rfl)) dX12_tells_406 ⟨Nat.zero_le _, Nat.zero_le _⟩) hS (fun q _ h => hFc q h) hFc ?_; clear hw hS; intro r44 _ t H1 locs1 ht hvm hw hB hz1 hk1 hS
                                              obtain ⟨hP1, -, -⟩ := hB
                                              rw [ht] at hP1
                                              replace hP := jC0 hP hD [] [0, 1] rfl hk1 hP1 (w_X12_tells h0 h_row h_kept h_isKept h_aside h_eight h_rows h_scales h_dealt h_bytes h_heardRow h_made h_comes h_backs h_fresh cy c_thrown c_nodeS c_nodeD c_pairE c_pairO c_bit c_lag c_lagSum c_row) rfl rfl rfl 2 rfl (by decide +kernel); clear hD; obtain ⟨hP, hD⟩ := hP
                                              replace hP : va_P (dC, dI) vwCl (w_X12_tells h0 h_row h_kept h_isKept h_aside h_eight h_rows h_scales h_dealt h_bytes h_heardRow h_made h_comes h_backs h_fresh cy c_thrown c_nodeS c_nodeD c_pairE c_pairO c_bit c_lag c_lagSum c_row) H1 := hP
                                              replace hD : va_D A (w_X12_tells h0 h_row h_kept h_isKept h_aside h_eight h_rows h_scales h_dealt h_bytes h_heardRow h_made h_comes h_backs h_fresh cy c_thrown c_nodeS c_nodeD c_pairE c_pairO c_bit c_lag c_lagSum c_row) := hD
                                              clear hPc hDc hFc hP1 hk1 hz1 hvm ht; clear t; clear H locs; obtain ⟨H, hH⟩ : ∃ H, H = H1 := ⟨_, rfl⟩; obtain ⟨locs, hlo⟩ : ∃ L, L = locs1 := ⟨_, rfl⟩; subst hH; subst hlo
                                              refine W.widen (k := 0) (n := 0) (Nat.le_refl 0) (Nat.le_refl 0) ?_
                                              refine lv_if_eq (tgt := 427) hx hb dX12_tells_409 (by decide) (fun c45 => ?_) (fun c45 => ?_)
                                              · replace hw := hw.1 c45; clear c45
                                                refine lv_ldc (v := -2147483648) hx hb hown (hts _ (List.mem_cons_of_mem _ mw_908)) dX12_tells_427 ?_
                                                subst hQe
                                                exact W.iret (v := (-2147483648 : Int32)) hx hb hr (fun t ht hW => ⟨⟨(-2147483648 : Int32), (), rfl, hw, by rw [ht]; exact hP, va_K.moved hW.alike hK, hD⟩, hS.F ht⟩) hS.2.2 dX12_tells_429
                                              · replace hw := hw.2 c45; clear c45
                                                refine lv_aload_n hx hb dX12_tells_412 rfl (lv_at hl 0 rfl) ?_
                                                refine va_get (D := (dC, dI)) (ci := 12) (v := .ref h_row) (C := RX12) (T := TX12) (N := 22) hx hb hts inX12 hown hK hP 0 rfl rfl 1 (by decide) (hts _ (List.mem_cons_of_mem _ mw_169)) (fun _ h9 => h9) rfl dX12_tells_413 ?_
                                                refine lv_bipush (v := 17) hx hb dX12_tells_416 (by decide) ?_
                                                refine lv_iload_n hx hb dX12_tells_418 rfl (lv_at hl 1 rfl) ?_
                                                refine lv_iadd hx hb dX12_tells_419 ?_
                                                refine lv_bipush (v := 40) hx hb dX12_tells_420 (by decide) ?_
                                                refine lv_isub hx hb dX12_tells_422 ?_
                                                obtain ⟨h46, hw⟩ := hw
                                                refine xiald (k := (((17 : Int32) + v1) - (40 : Int32)).toNatClampNeg) hx hb hK hP 1 0 rfl rfl h46 rfl dX12_tells_423 ?_
                                                refine lv_goto (tgt := 429) hx hb dX12_tells_424 (by decide) ?_
                                                subst hQe
                                                exact W.iret (v := c_row (((17 : Int32) + v1) - (40 : Int32)).toNatClampNeg) hx hb hr (fun t ht hW => ⟨⟨(c_row (((17 : Int32) + v1) - (40 : Int32)).toNatClampNeg), (), rfl, hw, by rw [ht]; exact hP, va_K.moved hW.alike hK, hD⟩, hS.F ht⟩) hS.2.2 dX12_tells_429
                                            · replace hw := hw.2 c43; clear c43
                                              refine lv_aload_n hx hb dX12_tells_383 rfl (lv_at hl 0 rfl) ?_
                                              refine va_get (D := (dC, dI)) (ci := 12) (v := .ref h_row) (C := RX12) (T := TX12) (N := 22) hx hb hts inX12 hown hK hP 0 rfl rfl 1 (by decide) (hts _ (List.mem_cons_of_mem _ mw_169)) (fun _ h9 => h9) rfl dX12_tells_384 ?_
                                              refine lv_bipush (v := 6) hx hb dX12_tells_387 (by decide) ?_
                                              refine lv_iload_n hx hb dX12_tells_389 rfl (lv_at hl 1 rfl) ?_
                                              refine lv_iadd hx hb dX12_tells_390 ?_
                                              refine lv_bipush (v := 20) hx hb dX12_tells_391 (by decide) ?_
                                              refine lv_isub hx hb dX12_tells_393 ?_
                                              obtain ⟨h47, hw⟩ := hw
                                              refine xiald (k := (((6 : Int32) + v1) - (20 : Int32)).toNatClampNeg) hx hb hK hP 1 0 rfl rfl h47 rfl dX12_tells_394 ?_
                                              refine lv_goto (tgt := 429) hx hb dX12_tells_395 (by decide) ?_
                                              subst hQe
                                              exact W.iret (v := c_row (((6 : Int32) + v1) - (20 : Int32)).toNatClampNeg) hx hb hr (fun t ht hW => ⟨⟨(c_row (((6 : Int32) + v1) - (20 : Int32)).toNatClampNeg), (), rfl, hw, by rw [ht]; exact hP, va_K.moved hW.alike hK, hD⟩, hS.F ht⟩) hS.2.2 dX12_tells_429
                                          · skip
                                            by_cases c48 : v1 = 21
                                            · replace hw := hw.2.2.2.2.2.2.2.2.2.2.2.2.2.2.2.2.2.2.2.2.2.1 c48
                                              refine lv_tableIn (tgt := 369) hx hb dX12_tells_1 (by rw [c48]; decide) (by rw [c48]; decide) (by rw [c48]; rfl) (by decide) ?_
                                              refine lv_iload_n hx hb dX12_tells_369 rfl (lv_at hl 1 rfl) ?_
                                              refine lv_i2l (v := v1.toInt64) hx hb dX12_tells_370 rfl ?_
                                              refine lv_ldc2 (v := 20) hx hb hown (hts _ (List.mem_cons_of_mem _ mw_1216)) dX12_tells_371 ?_
                                              refine lv_ldc2 (v := 30) hx hb hown (hts _ (List.mem_cons_of_mem _ mw_1217)) dX12_tells_374 ?_
                                              have hPc := pSub (ws' := (w_X12_in cy)) hP [] rfl
                                              have hDc := dSub (ws' := (w_X12_in cy)) hD [] (by decide) rfl
                                              have hFc := va_free (wc := (w_X12_in cy)) hD hS hA [] rfl
                                              refine va_calli (va_runS (As := [.long (v1.toInt64), .long (20 : Int64), .long (30 : Int64)]) (rest := []) ⟨hx, hb, hml, hown, hts⟩ (c_X12_in l dC dI cy  H.size (v1.toInt64) (20 : Int64) (30 : Int64) _ hw) (va_cwS 3 hts (goodS mw_207 mw_205 mw_206 mw_5) rfl rfl rfl (by decide +kernel) ⟨Nat.le_of_ble_eq_true rfl, Nat.le_of_ble_eq_true rfl⟩) ⟨PX_blind, PX_pre hPc hK hDc hG⟩ rfl rfl hl.1 rfl (lv_room (Nat.le_of_ble_eq_true rfl)) dX12_tells_377 ⟨Nat.zero_le _, Nat.zero_le _⟩) hS (fun q _ h => hFc q h) hFc ?_; clear hw hS; intro r49 _ t H1 locs1 ht hvm hw hB hz1 hk1 hS
                                              obtain ⟨hP1, -, -⟩ := hB
                                              rw [ht] at hP1
                                              replace hP := jC0 hP hD [] [0, 1] rfl hk1 hP1 (w_X12_tells h0 h_row h_kept h_isKept h_aside h_eight h_rows h_scales h_dealt h_bytes h_heardRow h_made h_comes h_backs h_fresh cy c_thrown c_nodeS c_nodeD c_pairE c_pairO c_bit c_lag c_lagSum c_row) rfl rfl rfl 2 rfl (by decide +kernel); clear hD; obtain ⟨hP, hD⟩ := hP
                                              replace hP : va_P (dC, dI) vwCl (w_X12_tells h0 h_row h_kept h_isKept h_aside h_eight h_rows h_scales h_dealt h_bytes h_heardRow h_made h_comes h_backs h_fresh cy c_thrown c_nodeS c_nodeD c_pairE c_pairO c_bit c_lag c_lagSum c_row) H1 := hP
                                              replace hD : va_D A (w_X12_tells h0 h_row h_kept h_isKept h_aside h_eight h_rows h_scales h_dealt h_bytes h_heardRow h_made h_comes h_backs h_fresh cy c_thrown c_nodeS c_nodeD c_pairE c_pairO c_bit c_lag c_lagSum c_row) := hD
                                              clear hPc hDc hFc hP1 hk1 hz1 hvm ht; clear t; clear H locs; obtain ⟨H, hH⟩ : ∃ H, H = H1 := ⟨_, rfl⟩; obtain ⟨locs, hlo⟩ : ∃ L, L = locs1 := ⟨_, rfl⟩; subst hH; subst hlo
                                              refine W.widen (k := 0) (n := 0) (Nat.le_refl 0) (Nat.le_refl 0) ?_
                                              refine lv_if_eq (tgt := 398) hx hb dX12_tells_380 (by decide) (fun c50 => ?_) (fun c50 => ?_)
                                              · replace hw := hw.1 c50; clear c50
                                                refine lv_iload_n hx hb dX12_tells_398 rfl (lv_at hl 1 rfl) ?_
                                                refine lv_i2l (v := v1.toInt64) hx hb dX12_tells_399 rfl ?_
                                                refine lv_ldc2 (v := 40) hx hb hown (hts _ (List.mem_cons_of_mem _ mw_1218)) dX12_tells_400 ?_
                                                refine lv_ldc2 (v := 47) hx hb hown (hts _ (List.mem_cons_of_mem _ mw_1219)) dX12_tells_403 ?_
                                                have hPc := pSub (ws' := (w_X12_in cy)) hP [] rfl
                                                have hDc := dSub (ws' := (w_X12_in cy)) hD [] (by decide) rfl
                                                have hFc := va_free (wc := (w_X12_in cy)) hD hS hA [] rfl
                                                refine va_calli (va_runS (As := [.long (v1.toInt64), .long (40 : Int64), .long (47 : Int64)]) (rest := []) ⟨hx, hb, hml, hown, hts⟩ (c_X12_in l dC dI cy  H.size (v1.toInt64) (40 : Int64) (47 : Int64) _ hw) (va_cwS 3 hts (goodS mw_207 mw_205 mw_206 mw_5) rfl rfl rfl (by decide +kernel) ⟨Nat.le_of_ble_eq_true rfl, Nat.le_of_ble_eq_true rfl⟩) ⟨PX_blind, PX_pre hPc hK hDc hG⟩ rfl rfl hl.1 rfl (lv_room (Nat.le_of_ble_eq_true rfl)) dX12_tells_406 ⟨Nat.zero_le _, Nat.zero_le _⟩) hS (fun q _ h => hFc q h) hFc ?_; clear hw hS; intro r51 _ t H1 locs1 ht hvm hw hB hz1 hk1 hS
                                                obtain ⟨hP1, -, -⟩ := hB
                                                rw [ht] at hP1
                                                replace hP := jC0 hP hD [] [0, 1] rfl hk1 hP1 (w_X12_tells h0 h_row h_kept h_isKept h_aside h_eight h_rows h_scales h_dealt h_bytes h_heardRow h_made h_comes h_backs h_fresh cy c_thrown c_nodeS c_nodeD c_pairE c_pairO c_bit c_lag c_lagSum c_row) rfl rfl rfl 2 rfl (by decide +kernel); clear hD; obtain ⟨hP, hD⟩ := hP
                                                replace hP : va_P (dC, dI) vwCl (w_X12_tells h0 h_row h_kept h_isKept h_aside h_eight h_rows h_scales h_dealt h_bytes h_heardRow h_made h_comes h_backs h_fresh cy c_thrown c_nodeS c_nodeD c_pairE c_pairO c_bit c_lag c_lagSum c_row) H1 := hP
                                                replace hD : va_D A (w_X12_tells h0 h_row h_kept h_isKept h_aside h_eight h_rows h_scales h_dealt h_bytes h_heardRow h_made h_comes h_backs h_fresh cy c_thrown c_nodeS c_nodeD c_pairE c_pairO c_bit c_lag c_lagSum c_row) := hD
                                                clear hPc hDc hFc hP1 hk1 hz1 hvm ht; clear t; clear H locs; obtain ⟨H, hH⟩ : ∃ H, H = H1 := ⟨_, rfl⟩; obtain ⟨locs, hlo⟩ : ∃ L, L = locs1 := ⟨_, rfl⟩; subst hH; subst hlo
                                                refine W.widen (k := 0) (n := 0) (Nat.le_refl 0) (Nat.le_refl 0) ?_
                                                refine lv_if_eq (tgt := 427) hx hb dX12_tells_409 (by decide) (fun c52 => ?_) (fun c52 => ?_)
                                                · replace hw := hw.1 c52; clear c52
                                                  refine lv_ldc (v := -2147483648) hx hb hown (hts _ (List.mem_cons_of_mem _ mw_908)) dX12_tells_427 ?_
                                                  subst hQe
                                                  exact W.iret (v := (-2147483648 : Int32)) hx hb hr (fun t ht hW => ⟨⟨(-2147483648 : Int32), (), rfl, hw, by rw [ht]; exact hP, va_K.moved hW.alike hK, hD⟩, hS.F ht⟩) hS.2.2 dX12_tells_429
                                                · replace hw := hw.2 c52; clear c52
                                                  refine lv_aload_n hx hb dX12_tells_412 rfl (lv_at hl 0 rfl) ?_
                                                  refine va_get (D := (dC, dI)) (ci := 12) (v := .ref h_row) (C := RX12) (T := TX12) (N := 22) hx hb hts inX12 hown hK hP 0 rfl rfl 1 (by decide) (hts _ (List.mem_cons_of_mem _ mw_169)) (fun _ h9 => h9) rfl dX12_tells_413 ?_
                                                  refine lv_bipush (v := 17) hx hb dX12_tells_416 (by decide) ?_
                                                  refine lv_iload_n hx hb dX12_tells_418 rfl (lv_at hl 1 rfl) ?_
                                                  refine lv_iadd hx hb dX12_tells_419 ?_
                                                  refine lv_bipush (v := 40) hx hb dX12_tells_420 (by decide) ?_
                                                  refine lv_isub hx hb dX12_tells_422 ?_
                                                  obtain ⟨h53, hw⟩ := hw
                                                  refine xiald (k := (((17 : Int32) + v1) - (40 : Int32)).toNatClampNeg) hx hb hK hP 1 0 rfl rfl h53 rfl dX12_tells_423 ?_
                                                  refine lv_goto (tgt := 429) hx hb dX12_tells_424 (by decide) ?_
                                                  subst hQe
                                                  exact W.iret (v := c_row (((17 : Int32) + v1) - (40 : Int32)).toNatClampNeg) hx hb hr (fun t ht hW => ⟨⟨(c_row (((17 : Int32) + v1) - (40 : Int32)).toNatClampNeg), (), rfl, hw, by rw [ht]; exact hP, va_K.moved hW.alike hK, hD⟩, hS.F ht⟩) hS.2.2 dX12_tells_429
                                              · replace hw := hw.2 c50; clear c50
                                                refine lv_aload_n hx hb dX12_tells_383 rfl (lv_at hl 0 rfl) ?_
                                                refine va_get (D := (dC, dI)) (ci := 12) (v := .ref h_row) (C := RX12) (T := TX12) (N := 22) hx hb hts inX12 hown hK hP 0 rfl rfl 1 (by decide) (hts _ (List.mem_cons_of_mem _ mw_169)) (fun _ h9 => h9) rfl dX12_tells_384 ?_
                                                refine lv_bipush (v := 6) hx hb dX12_tells_387 (by decide) ?_
                                                refine lv_iload_n hx hb dX12_tells_389 rfl (lv_at hl 1 rfl) ?_
                                                refine lv_iadd hx hb dX12_tells_390 ?_
                                                refine lv_bipush (v := 20) hx hb dX12_tells_391 (by decide) ?_
                                                refine lv_isub hx hb dX12_tells_393 ?_
                                                obtain ⟨h54, hw⟩ := hw
                                                refine xiald (k := (((6 : Int32) + v1) - (20 : Int32)).toNatClampNeg) hx hb hK hP 1 0 rfl rfl h54 rfl dX12_tells_394 ?_
                                                refine lv_goto (tgt := 429) hx hb dX12_tells_395 (by decide) ?_
                                                subst hQe
                                                exact W.iret (v := c_row (((6 : Int32) + v1) - (20 : Int32)).toNatClampNeg) hx hb hr (fun t ht hW => ⟨⟨(c_row (((6 : Int32) + v1) - (20 : Int32)).toNatClampNeg), (), rfl, hw, by rw [ht]; exact hP, va_K.moved hW.alike hK, hD⟩, hS.F ht⟩) hS.2.2 dX12_tells_429
                                            · skip
                                              by_cases c55 : v1 = 22
                                              · replace hw := hw.2.2.2.2.2.2.2.2.2.2.2.2.2.2.2.2.2.2.2.2.2.2.1 c55
                                                refine lv_tableIn (tgt := 369) hx hb dX12_tells_1 (by rw [c55]; decide) (by rw [c55]; decide) (by rw [c55]; rfl) (by decide) ?_
                                                refine lv_iload_n hx hb dX12_tells_369 rfl (lv_at hl 1 rfl) ?_
                                                refine lv_i2l (v := v1.toInt64) hx hb dX12_tells_370 rfl ?_
                                                refine lv_ldc2 (v := 20) hx hb hown (hts _ (List.mem_cons_of_mem _ mw_1216)) dX12_tells_371 ?_
                                                refine lv_ldc2 (v := 30) hx hb hown (hts _ (List.mem_cons_of_mem _ mw_1217)) dX12_tells_374 ?_
                                                have hPc := pSub (ws' := (w_X12_in cy)) hP [] rfl
                                                have hDc := dSub (ws' := (w_X12_in cy)) hD [] (by decide) rfl
                                                have hFc := va_free (wc := (w_X12_in cy)) hD hS hA [] rfl
                                                refine va_calli (va_runS (As := [.long (v1.toInt64), .long (20 : Int64), .long (30 : Int64)]) (rest := []) ⟨hx, hb, hml, hown, hts⟩ (c_X12_in l dC dI cy  H.size (v1.toInt64) (20 : Int64) (30 : Int64) _ hw) (va_cwS 3 hts (goodS mw_207 mw_205 mw_206 mw_5) rfl rfl rfl (by decide +kernel) ⟨Nat.le_of_ble_eq_true rfl, Nat.le_of_ble_eq_true rfl⟩) ⟨PX_blind, PX_pre hPc hK hDc hG⟩ rfl rfl hl.1 rfl (lv_room (Nat.le_of_ble_eq_true rfl)) dX12_tells_377 ⟨Nat.zero_le _, Nat.zero_le _⟩) hS (fun q _ h => hFc q h) hFc ?_; clear hw hS; intro r56 _ t H1 locs1 ht hvm hw hB hz1 hk1 hS
                                                obtain ⟨hP1, -, -⟩ := hB
                                                rw [ht] at hP1
                                                replace hP := jC0 hP hD [] [0, 1] rfl hk1 hP1 (w_X12_tells h0 h_row h_kept h_isKept h_aside h_eight h_rows h_scales h_dealt h_bytes h_heardRow h_made h_comes h_backs h_fresh cy c_thrown c_nodeS c_nodeD c_pairE c_pairO c_bit c_lag c_lagSum c_row) rfl rfl rfl 2 rfl (by decide +kernel); clear hD; obtain ⟨hP, hD⟩ := hP
                                                replace hP : va_P (dC, dI) vwCl (w_X12_tells h0 h_row h_kept h_isKept h_aside h_eight h_rows h_scales h_dealt h_bytes h_heardRow h_made h_comes h_backs h_fresh cy c_thrown c_nodeS c_nodeD c_pairE c_pairO c_bit c_lag c_lagSum c_row) H1 := hP
                                                replace hD : va_D A (w_X12_tells h0 h_row h_kept h_isKept h_aside h_eight h_rows h_scales h_dealt h_bytes h_heardRow h_made h_comes h_backs h_fresh cy c_thrown c_nodeS c_nodeD c_pairE c_pairO c_bit c_lag c_lagSum c_row) := hD
                                                clear hPc hDc hFc hP1 hk1 hz1 hvm ht; clear t; clear H locs; obtain ⟨H, hH⟩ : ∃ H, H = H1 := ⟨_, rfl⟩; obtain ⟨locs, hlo⟩ : ∃ L, L = locs1 := ⟨_, rfl⟩; subst hH; subst hlo
                                                refine W.widen (k := 0) (n := 0) (Nat.le_refl 0) (Nat.le_refl 0) ?_
                                                refine lv_if_eq (tgt := 398) hx hb dX12_tells_380 (by decide) (fun c57 => ?_) (fun c57 => ?_)
                                                · replace hw := hw.1 c57; clear c57
                                                  refine lv_iload_n hx hb dX12_tells_398 rfl (lv_at hl 1 rfl) ?_
                                                  refine lv_i2l (v := v1.toInt64) hx hb dX12_tells_399 rfl ?_
                                                  refine lv_ldc2 (v := 40) hx hb hown (hts _ (List.mem_cons_of_mem _ mw_1218)) dX12_tells_400 ?_
                                                  refine lv_ldc2 (v := 47) hx hb hown (hts _ (List.mem_cons_of_mem _ mw_1219)) dX12_tells_403 ?_
                                                  have hPc := pSub (ws' := (w_X12_in cy)) hP [] rfl
                                                  have hDc := dSub (ws' := (w_X12_in cy)) hD [] (by decide) rfl
                                                  have hFc := va_free (wc := (w_X12_in cy)) hD hS hA [] rfl
                                                  refine va_calli (va_runS (As := [.long (v1.toInt64), .long (40 : Int64), .long (47 : Int64)]) (rest := []) ⟨hx, hb, hml, hown, hts⟩ (c_X12_in l dC dI cy  H.size (v1.toInt64) (40 : Int64) (47 : Int64) _ hw) (va_cwS 3 hts (goodS mw_207 mw_205 mw_206 mw_5) rfl rfl rfl (by decide +kernel) ⟨Nat.le_of_ble_eq_true rfl, Nat.le_of_ble_eq_true rfl⟩) ⟨PX_blind, PX_pre hPc hK hDc hG⟩ rfl rfl hl.1 rfl (lv_room (Nat.le_of_ble_eq_true rfl)) dX12_tells_406 ⟨Nat.zero_le _, Nat.zero_le _⟩) hS (fun q _ h => hFc q h) hFc ?_; clear hw hS; intro r58 _ t H1 locs1 ht hvm hw hB hz1 hk1 hS
                                                  obtain ⟨hP1, -, -⟩ := hB
                                                  rw [ht] at hP1
                                                  replace hP := jC0 hP hD [] [0, 1] rfl hk1 hP1 (w_X12_tells h0 h_row h_kept h_isKept h_aside h_eight h_rows h_scales h_dealt h_bytes h_heardRow h_made h_comes h_backs h_fresh cy c_thrown c_nodeS c_nodeD c_pairE c_pairO c_bit c_lag c_lagSum c_row) rfl rfl rfl 2 rfl (by decide +kernel); clear hD; obtain ⟨hP, hD⟩ := hP
                                                  replace hP : va_P (dC, dI) vwCl (w_X12_tells h0 h_row h_kept h_isKept h_aside h_eight h_rows h_scales h_dealt h_bytes h_heardRow h_made h_comes h_backs h_fresh cy c_thrown c_nodeS c_nodeD c_pairE c_pairO c_bit c_lag c_lagSum c_row) H1 := hP
                                                  replace hD : va_D A (w_X12_tells h0 h_row h_kept h_isKept h_aside h_eight h_rows h_scales h_dealt h_bytes h_heardRow h_made h_comes h_backs h_fresh cy c_thrown c_nodeS c_nodeD c_pairE c_pairO c_bit c_lag c_lagSum c_row) := hD
                                                  clear hPc hDc hFc hP1 hk1 hz1 hvm ht; clear t; clear H locs; obtain ⟨H, hH⟩ : ∃ H, H = H1 := ⟨_, rfl⟩; obtain ⟨locs, hlo⟩ : ∃ L, L = locs1 := ⟨_, rfl⟩; subst hH; subst hlo
                                                  refine W.widen (k := 0) (n := 0) (Nat.le_refl 0) (Nat.le_refl 0) ?_
                                                  refine lv_if_eq (tgt := 427) hx hb dX12_tells_409 (by decide) (fun c59 => ?_) (fun c59 => ?_)
                                                  · replace hw := hw.1 c59; clear c59
                                                    refine lv_ldc (v := -2147483648) hx hb hown (hts _ (List.mem_cons_of_mem _ mw_908)) dX12_tells_427 ?_
                                                    subst hQe
                                                    exact W.iret (v := (-2147483648 : Int32)) hx hb hr (fun t ht hW => ⟨⟨(-2147483648 : Int32), (), rfl, hw, by rw [ht]; exact hP, va_K.moved hW.alike hK, hD⟩, hS.F ht⟩) hS.2.2 dX12_tells_429
                                                  · replace hw := hw.2 c59; clear c59
                                                    refine lv_aload_n hx hb dX12_tells_412 rfl (lv_at hl 0 rfl) ?_
                                                    refine va_get (D := (dC, dI)) (ci := 12) (v := .ref h_row) (C := RX12) (T := TX12) (N := 22) hx hb hts inX12 hown hK hP 0 rfl rfl 1 (by decide) (hts _ (List.mem_cons_of_mem _ mw_169)) (fun _ h9 => h9) rfl dX12_tells_413 ?_
                                                    refine lv_bipush (v := 17) hx hb dX12_tells_416 (by decide) ?_
                                                    refine lv_iload_n hx hb dX12_tells_418 rfl (lv_at hl 1 rfl) ?_
                                                    refine lv_iadd hx hb dX12_tells_419 ?_
                                                    refine lv_bipush (v := 40) hx hb dX12_tells_420 (by decide) ?_
                                                    refine lv_isub hx hb dX12_tells_422 ?_
                                                    obtain ⟨h60, hw⟩ := hw
                                                    refine xiald (k := (((17 : Int32) + v1) - (40 : Int32)).toNatClampNeg) hx hb hK hP 1 0 rfl rfl h60 rfl dX12_tells_423 ?_
                                                    refine lv_goto (tgt := 429) hx hb dX12_tells_424 (by decide) ?_
                                                    subst hQe
                                                    exact W.iret (v := c_row (((17 : Int32) + v1) - (40 : Int32)).toNatClampNeg) hx hb hr (fun t ht hW => ⟨⟨(c_row (((17 : Int32) + v1) - (40 : Int32)).toNatClampNeg), (), rfl, hw, by rw [ht]; exact hP, va_K.moved hW.alike hK, hD⟩, hS.F ht⟩) hS.2.2 dX12_tells_429
                                                · replace hw := hw.2 c57; clear c57
                                                  refine lv_aload_n hx hb dX12_tells_383 rfl (lv_at hl 0 rfl) ?_
                                                  refine va_get (D := (dC, dI)) (ci := 12) (v := .ref h_row) (C := RX12) (T := TX12) (N := 22) hx hb hts inX12 hown hK hP 0 rfl rfl 1 (by decide) (hts _ (List.mem_cons_of_mem _ mw_169)) (fun _ h9 => h9) rfl dX12_tells_384 ?_
                                                  refine lv_bipush (v := 6) hx hb dX12_tells_387 (by decide) ?_
                                                  refine lv_iload_n hx hb dX12_tells_389 rfl (lv_at hl 1 rfl) ?_
                                                  refine lv_iadd hx hb dX12_tells_390 ?_
                                                  refine lv_bipush (v := 20) hx hb dX12_tells_391 (by decide) ?_
                                                  refine lv_isub hx hb dX12_tells_393 ?_
                                                  obtain ⟨h61, hw⟩ := hw
                                                  refine xiald (k := (((6 : Int32) + v1) - (20 : Int32)).toNatClampNeg) hx hb hK hP 1 0 rfl rfl h61 rfl dX12_tells_394 ?_
                                                  refine lv_goto (tgt := 429) hx hb dX12_tells_395 (by decide) ?_
                                                  subst hQe
                                                  exact W.iret (v := c_row (((6 : Int32) + v1) - (20 : Int32)).toNatClampNeg) hx hb hr (fun t ht hW => ⟨⟨(c_row (((6 : Int32) + v1) - (20 : Int32)).toNatClampNeg), (), rfl, hw, by rw [ht]; exact hP, va_K.moved hW.alike hK, hD⟩, hS.F ht⟩) hS.2.2 dX12_tells_429
                                              · skip
                                                by_cases c62 : v1 = 23
                                                · replace hw := hw.2.2.2.2.2.2.2.2.2.2.2.2.2.2.2.2.2.2.2.2.2.2.2.1 c62
                                                  refine lv_tableIn (tgt := 369) hx hb dX12_tells_1 (by rw [c62]; decide) (by rw [c62]; decide) (by rw [c62]; rfl) (by decide) ?_
                                                  refine lv_iload_n hx hb dX12_tells_369 rfl (lv_at hl 1 rfl) ?_
                                                  refine lv_i2l (v := v1.toInt64) hx hb dX12_tells_370 rfl ?_
                                                  refine lv_ldc2 (v := 20) hx hb hown (hts _ (List.mem_cons_of_mem _ mw_1216)) dX12_tells_371 ?_
                                                  refine lv_ldc2 (v := 30) hx hb hown (hts _ (List.mem_cons_of_mem _ mw_1217)) dX12_tells_374 ?_
                                                  have hPc := pSub (ws' := (w_X12_in cy)) hP [] rfl
                                                  have hDc := dSub (ws' := (w_X12_in cy)) hD [] (by decide) rfl
                                                  have hFc := va_free (wc := (w_X12_in cy)) hD hS hA [] rfl
                                                  refine va_calli (va_runS (As := [.long (v1.toInt64), .long (20 : Int64), .long (30 : Int64)]) (rest := []) ⟨hx, hb, hml, hown, hts⟩ (c_X12_in l dC dI cy  H.size (v1.toInt64) (20 : Int64) (30 : Int64) _ hw) (va_cwS 3 hts (goodS mw_207 mw_205 mw_206 mw_5) rfl rfl rfl (by decide +kernel) ⟨Nat.le_of_ble_eq_true rfl, Nat.le_of_ble_eq_true rfl⟩) ⟨PX_blind, PX_pre hPc hK hDc hG⟩ rfl rfl hl.1 rfl (lv_room (Nat.le_of_ble_eq_true rfl)) dX12_tells_377 ⟨Nat.zero_le _, Nat.zero_le _⟩) hS (fun q _ h => hFc q h) hFc ?_; clear hw hS; intro r63 _ t H1 locs1 ht hvm hw hB hz1 hk1 hS
                                                  obtain ⟨hP1, -, -⟩ := hB
                                                  rw [ht] at hP1
                                                  replace hP := jC0 hP hD [] [0, 1] rfl hk1 hP1 (w_X12_tells h0 h_row h_kept h_isKept h_aside h_eight h_rows h_scales h_dealt h_bytes h_heardRow h_made h_comes h_backs h_fresh cy c_thrown c_nodeS c_nodeD c_pairE c_pairO c_bit c_lag c_lagSum c_row) rfl rfl rfl 2 rfl (by decide +kernel); clear hD; obtain ⟨hP, hD⟩ := hP
                                                  replace hP : va_P (dC, dI) vwCl (w_X12_tells h0 h_row h_kept h_isKept h_aside h_eight h_rows h_scales h_dealt h_bytes h_heardRow h_made h_comes h_backs h_fresh cy c_thrown c_nodeS c_nodeD c_pairE c_pairO c_bit c_lag c_lagSum c_row) H1 := hP
                                                  replace hD : va_D A (w_X12_tells h0 h_row h_kept h_isKept h_aside h_eight h_rows h_scales h_dealt h_bytes h_heardRow h_made h_comes h_backs h_fresh cy c_thrown c_nodeS c_nodeD c_pairE c_pairO c_bit c_lag c_lagSum c_row) := hD
                                                  clear hPc hDc hFc hP1 hk1 hz1 hvm ht; clear t; clear H locs; obtain ⟨H, hH⟩ : ∃ H, H = H1 := ⟨_, rfl⟩; obtain ⟨locs, hlo⟩ : ∃ L, L = locs1 := ⟨_, rfl⟩; subst hH; subst hlo
                                                  refine W.widen (k := 0) (n := 0) (Nat.le_refl 0) (Nat.le_refl 0) ?_
                                                  refine lv_if_eq (tgt := 398) hx hb dX12_tells_380 (by decide) (fun c64 => ?_) (fun c64 => ?_)
                                                  · replace hw := hw.1 c64; clear c64
                                                    refine lv_iload_n hx hb dX12_tells_398 rfl (lv_at hl 1 rfl) ?_
                                                    refine lv_i2l (v := v1.toInt64) hx hb dX12_tells_399 rfl ?_
                                                    refine lv_ldc2 (v := 40) hx hb hown (hts _ (List.mem_cons_of_mem _ mw_1218)) dX12_tells_400 ?_
                                                    refine lv_ldc2 (v := 47) hx hb hown (hts _ (List.mem_cons_of_mem _ mw_1219)) dX12_tells_403 ?_
                                                    have hPc := pSub (ws' := (w_X12_in cy)) hP [] rfl
                                                    have hDc := dSub (ws' := (w_X12_in cy)) hD [] (by decide) rfl
                                                    have hFc := va_free (wc := (w_X12_in cy)) hD hS hA [] rfl
                                                    refine va_calli (va_runS (As := [.long (v1.toInt64), .long (40 : Int64), .long (47 : Int64)]) (rest := []) ⟨hx, hb, hml, hown, hts⟩ (c_X12_in l dC dI cy  H.size (v1.toInt64) (40 : Int64) (47 : Int64) _ hw) (va_cwS 3 hts (goodS mw_207 mw_205 mw_206 mw_5) rfl rfl rfl (by decide +kernel) ⟨Nat.le_of_ble_eq_true rfl, Nat.le_of_ble_eq_true rfl⟩) ⟨PX_blind, PX_pre hPc hK hDc hG⟩ rfl rfl hl.1 rfl (lv_room (Nat.le_of_ble_eq_true rfl)) dX12_tells_406 ⟨Nat.zero_le _, Nat.zero_le _⟩) hS (fun q _ h => hFc q h) hFc ?_; clear hw hS; intro r65 _ t H1 locs1 ht hvm hw hB hz1 hk1 hS
                                                    obtain ⟨hP1, -, -⟩ := hB
                                                    rw [ht] at hP1
                                                    replace hP := jC0 hP hD [] [0, 1] rfl hk1 hP1 (w_X12_tells h0 h_row h_kept h_isKept h_aside h_eight h_rows h_scales h_dealt h_bytes h_heardRow h_made h_comes h_backs h_fresh cy c_thrown c_nodeS c_nodeD c_pairE c_pairO c_bit c_lag c_lagSum c_row) rfl rfl rfl 2 rfl (by decide +kernel); clear hD; obtain ⟨hP, hD⟩ := hP
                                                    replace hP : va_P (dC, dI) vwCl (w_X12_tells h0 h_row h_kept h_isKept h_aside h_eight h_rows h_scales h_dealt h_bytes h_heardRow h_made h_comes h_backs h_fresh cy c_thrown c_nodeS c_nodeD c_pairE c_pairO c_bit c_lag c_lagSum c_row) H1 := hP
                                                    replace hD : va_D A (w_X12_tells h0 h_row h_kept h_isKept h_aside h_eight h_rows h_scales h_dealt h_bytes h_heardRow h_made h_comes h_backs h_fresh cy c_thrown c_nodeS c_nodeD c_pairE c_pairO c_bit c_lag c_lagSum c_row) := hD
                                                    clear hPc hDc hFc hP1 hk1 hz1 hvm ht; clear t; clear H locs; obtain ⟨H, hH⟩ : ∃ H, H = H1 := ⟨_, rfl⟩; obtain ⟨locs, hlo⟩ : ∃ L, L = locs1 := ⟨_, rfl⟩; subst hH; subst hlo
                                                    refine W.widen (k := 0) (n := 0) (Nat.le_refl 0) (Nat.le_refl 0) ?_
                                                    refine lv_if_eq (tgt := 427) hx hb dX12_tells_409 (by decide) (fun c66 => ?_) (fun c66 => ?_)
                                                    · replace hw := hw.1 c66; clear c66
                                                      refine lv_ldc (v := -2147483648) hx hb hown (hts _ (List.mem_cons_of_mem _ mw_908)) dX12_tells_427 ?_
                                                      subst hQe
                                                      exact W.iret (v := (-2147483648 : Int32)) hx hb hr (fun t ht hW => ⟨⟨(-2147483648 : Int32), (), rfl, hw, by rw [ht]; exact hP, va_K.moved hW.alike hK, hD⟩, hS.F ht⟩) hS.2.2 dX12_tells_429
                                                    · replace hw := hw.2 c66; clear c66
                                                      refine lv_aload_n hx hb dX12_tells_412 rfl (lv_at hl 0 rfl) ?_
                                                      refine va_get (D := (dC, dI)) (ci := 12) (v := .ref h_row) (C := RX12) (T := TX12) (N := 22) hx hb hts inX12 hown hK hP 0 rfl rfl 1 (by decide) (hts _ (List.mem_cons_of_mem _ mw_169)) (fun _ h9 => h9) rfl dX12_tells_413 ?_
                                                      refine lv_bipush (v := 17) hx hb dX12_tells_416 (by decide) ?_
                                                      refine lv_iload_n hx hb dX12_tells_418 rfl (lv_at hl 1 rfl) ?_
                                                      refine lv_iadd hx hb dX12_tells_419 ?_
                                                      refine lv_bipush (v := 40) hx hb dX12_tells_420 (by decide) ?_
                                                      refine lv_isub hx hb dX12_tells_422 ?_
                                                      obtain ⟨h67, hw⟩ := hw
                                                      refine xiald (k := (((17 : Int32) + v1) - (40 : Int32)).toNatClampNeg) hx hb hK hP 1 0 rfl rfl h67 rfl dX12_tells_423 ?_
                                                      refine lv_goto (tgt := 429) hx hb dX12_tells_424 (by decide) ?_
                                                      subst hQe
                                                      exact W.iret (v := c_row (((17 : Int32) + v1) - (40 : Int32)).toNatClampNeg) hx hb hr (fun t ht hW => ⟨⟨(c_row (((17 : Int32) + v1) - (40 : Int32)).toNatClampNeg), (), rfl, hw, by rw [ht]; exact hP, va_K.moved hW.alike hK, hD⟩, hS.F ht⟩) hS.2.2 dX12_tells_429
                                                  · replace hw := hw.2 c64; clear c64
                                                    refine lv_aload_n hx hb dX12_tells_383 rfl (lv_at hl 0 rfl) ?_
                                                    refine va_get (D := (dC, dI)) (ci := 12) (v := .ref h_row) (C := RX12) (T := TX12) (N := 22) hx hb hts inX12 hown hK hP 0 rfl rfl 1 (by decide) (hts _ (List.mem_cons_of_mem _ mw_169)) (fun _ h9 => h9) rfl dX12_tells_384 ?_
                                                    refine lv_bipush (v := 6) hx hb dX12_tells_387 (by decide) ?_
                                                    refine lv_iload_n hx hb dX12_tells_389 rfl (lv_at hl 1 rfl) ?_
                                                    refine lv_iadd hx hb dX12_tells_390 ?_
                                                    refine lv_bipush (v := 20) hx hb dX12_tells_391 (by decide) ?_
                                                    refine lv_isub hx hb dX12_tells_393 ?_
                                                    obtain ⟨h68, hw⟩ := hw
                                                    refine xiald (k := (((6 : Int32) + v1) - (20 : Int32)).toNatClampNeg) hx hb hK hP 1 0 rfl rfl h68 rfl dX12_tells_394 ?_
                                                    refine lv_goto (tgt := 429) hx hb dX12_tells_395 (by decide) ?_
                                                    subst hQe
                                                    exact W.iret (v := c_row (((6 : Int32) + v1) - (20 : Int32)).toNatClampNeg) hx hb hr (fun t ht hW => ⟨⟨(c_row (((6 : Int32) + v1) - (20 : Int32)).toNatClampNeg), (), rfl, hw, by rw [ht]; exact hP, va_K.moved hW.alike hK, hD⟩, hS.F ht⟩) hS.2.2 dX12_tells_429
                                                · skip
                                                  by_cases c69 : v1 = 24
                                                  · replace hw := hw.2.2.2.2.2.2.2.2.2.2.2.2.2.2.2.2.2.2.2.2.2.2.2.2.1 c69
                                                    refine lv_tableIn (tgt := 369) hx hb dX12_tells_1 (by rw [c69]; decide) (by rw [c69]; decide) (by rw [c69]; rfl) (by decide) ?_
                                                    refine lv_iload_n hx hb dX12_tells_369 rfl (lv_at hl 1 rfl) ?_
                                                    refine lv_i2l (v := v1.toInt64) hx hb dX12_tells_370 rfl ?_
                                                    refine lv_ldc2 (v := 20) hx hb hown (hts _ (List.mem_cons_of_mem _ mw_1216)) dX12_tells_371 ?_
                                                    refine lv_ldc2 (v := 30) hx hb hown (hts _ (List.mem_cons_of_mem _ mw_1217)) dX12_tells_374 ?_
                                                    have hPc := pSub (ws' := (w_X12_in cy)) hP [] rfl
                                                    have hDc := dSub (ws' := (w_X12_in cy)) hD [] (by decide) rfl
                                                    have hFc := va_free (wc := (w_X12_in cy)) hD hS hA [] rfl
                                                    refine va_calli (va_runS (As := [.long (v1.toInt64), .long (20 : Int64), .long (30 : Int64)]) (rest := []) ⟨hx, hb, hml, hown, hts⟩ (c_X12_in l dC dI cy  H.size (v1.toInt64) (20 : Int64) (30 : Int64) _ hw) (va_cwS 3 hts (goodS mw_207 mw_205 mw_206 mw_5) rfl rfl rfl (by decide +kernel) ⟨Nat.le_of_ble_eq_true rfl, Nat.le_of_ble_eq_true rfl⟩) ⟨PX_blind, PX_pre hPc hK hDc hG⟩ rfl rfl hl.1 rfl (lv_room (Nat.le_of_ble_eq_true rfl)) dX12_tells_377 ⟨Nat.zero_le _, Nat.zero_le _⟩) hS (fun q _ h => hFc q h) hFc ?_; clear hw hS; intro r70 _ t H1 locs1 ht hvm hw hB hz1 hk1 hS
                                                    obtain ⟨hP1, -, -⟩ := hB
                                                    rw [ht] at hP1
                                                    replace hP := jC0 hP hD [] [0, 1] rfl hk1 hP1 (w_X12_tells h0 h_row h_kept h_isKept h_aside h_eight h_rows h_scales h_dealt h_bytes h_heardRow h_made h_comes h_backs h_fresh cy c_thrown c_nodeS c_nodeD c_pairE c_pairO c_bit c_lag c_lagSum c_row) rfl rfl rfl 2 rfl (by decide +kernel); clear hD; obtain ⟨hP, hD⟩ := hP
                                                    replace hP : va_P (dC, dI) vwCl (w_X12_tells h0 h_row h_kept h_isKept h_aside h_eight h_rows h_scales h_dealt h_bytes h_heardRow h_made h_comes h_backs h_fresh cy c_thrown c_nodeS c_nodeD c_pairE c_pairO c_bit c_lag c_lagSum c_row) H1 := hP
                                                    replace hD : va_D A (w_X12_tells h0 h_row h_kept h_isKept h_aside h_eight h_rows h_scales h_dealt h_bytes h_heardRow h_made h_comes h_backs h_fresh cy c_thrown c_nodeS c_nodeD c_pairE c_pairO c_bit c_lag c_lagSum c_row) := hD
                                                    clear hPc hDc hFc hP1 hk1 hz1 hvm ht; clear t; clear H locs; obtain ⟨H, hH⟩ : ∃ H, H = H1 := ⟨_, rfl⟩; obtain ⟨locs, hlo⟩ : ∃ L, L = locs1 := ⟨_, rfl⟩; subst hH; subst hlo
                                                    refine W.widen (k := 0) (n := 0) (Nat.le_refl 0) (Nat.le_refl 0) ?_
                                                    refine lv_if_eq (tgt := 398) hx hb dX12_tells_380 (by decide) (fun c71 => ?_) (fun c71 => ?_)
                                                    · replace hw := hw.1 c71; clear c71
                                                      refine lv_iload_n hx hb dX12_tells_398 rfl (lv_at hl 1 rfl) ?_
                                                      refine lv_i2l (v := v1.toInt64) hx hb dX12_tells_399 rfl ?_
                                                      refine lv_ldc2 (v := 40) hx hb hown (hts _ (List.mem_cons_of_mem _ mw_1218)) dX12_tells_400 ?_
                                                      refine lv_ldc2 (v := 47) hx hb hown (hts _ (List.mem_cons_of_mem _ mw_1219)) dX12_tells_403 ?_
                                                      have hPc := pSub (ws' := (w_X12_in cy)) hP [] rfl
                                                      have hDc := dSub (ws' := (w_X12_in cy)) hD [] (by decide) rfl
                                                      have hFc := va_free (wc := (w_X12_in cy)) hD hS hA [] rfl
                                                      refine va_calli (va_runS (As := [.long (v1.toInt64), .long (40 : Int64), .long (47 : Int64)]) (rest := []) ⟨hx, hb, hml, hown, hts⟩ (c_X12_in l dC dI cy  H.size (v1.toInt64) (40 : Int64) (47 : Int64) _ hw) (va_cwS 3 hts (goodS mw_207 mw_205 mw_206 mw_5) rfl rfl rfl (by decide +kernel) ⟨Nat.le_of_ble_eq_true rfl, Nat.le_of_ble_eq_true rfl⟩) ⟨PX_blind, PX_pre hPc hK hDc hG⟩ rfl rfl hl.1 rfl (lv_room (Nat.le_of_ble_eq_true rfl)) dX12_tells_406 ⟨Nat.zero_le _, Nat.zero_le _⟩) hS (fun q _ h => hFc q h) hFc ?_; clear hw hS; intro r72 _ t H1 locs1 ht hvm hw hB hz1 hk1 hS
                                                      obtain ⟨hP1, -, -⟩ := hB
                                                      rw [ht] at hP1
                                                      replace hP := jC0 hP hD [] [0, 1] rfl hk1 hP1 (w_X12_tells h0 h_row h_kept h_isKept h_aside h_eight h_rows h_scales h_dealt h_bytes h_heardRow h_made h_comes h_backs h_fresh cy c_thrown c_nodeS c_nodeD c_pairE c_pairO c_bit c_lag c_lagSum c_row) rfl rfl rfl 2 rfl (by decide +kernel); clear hD; obtain ⟨hP, hD⟩ := hP
                                                      replace hP : va_P (dC, dI) vwCl (w_X12_tells h0 h_row h_kept h_isKept h_aside h_eight h_rows h_scales h_dealt h_bytes h_heardRow h_made h_comes h_backs h_fresh cy c_thrown c_nodeS c_nodeD c_pairE c_pairO c_bit c_lag c_lagSum c_row) H1 := hP
                                                      replace hD : va_D A (w_X12_tells h0 h_row h_kept h_isKept h_aside h_eight h_rows h_scales h_dealt h_bytes h_heardRow h_made h_comes h_backs h_fresh cy c_thrown c_nodeS c_nodeD c_pairE c_pairO c_bit c_lag c_lagSum c_row) := hD
                                                      clear hPc hDc hFc hP1 hk1 hz1 hvm ht; clear t; clear H locs; obtain ⟨H, hH⟩ : ∃ H, H = H1 := ⟨_, rfl⟩; obtain ⟨locs, hlo⟩ : ∃ L, L = locs1 := ⟨_, rfl⟩; subst hH; subst hlo
                                                      refine W.widen (k := 0) (n := 0) (Nat.le_refl 0) (Nat.le_refl 0) ?_
                                                      refine lv_if_eq (tgt := 427) hx hb dX12_tells_409 (by decide) (fun c73 => ?_) (fun c73 => ?_)
                                                      · replace hw := hw.1 c73; clear c73
                                                        refine lv_ldc (v := -2147483648) hx hb hown (hts _ (List.mem_cons_of_mem _ mw_908)) dX12_tells_427 ?_
                                                        subst hQe
                                                        exact W.iret (v := (-2147483648 : Int32)) hx hb hr (fun t ht hW => ⟨⟨(-2147483648 : Int32), (), rfl, hw, by rw [ht]; exact hP, va_K.moved hW.alike hK, hD⟩, hS.F ht⟩) hS.2.2 dX12_tells_429
                                                      · replace hw := hw.2 c73; clear c73
                                                        refine lv_aload_n hx hb dX12_tells_412 rfl (lv_at hl 0 rfl) ?_
                                                        refine va_get (D := (dC, dI)) (ci := 12) (v := .ref h_row) (C := RX12) (T := TX12) (N := 22) hx hb hts inX12 hown hK hP 0 rfl rfl 1 (by decide) (hts _ (List.mem_cons_of_mem _ mw_169)) (fun _ h9 => h9) rfl dX12_tells_413 ?_
                                                        refine lv_bipush (v := 17) hx hb dX12_tells_416 (by decide) ?_
                                                        refine lv_iload_n hx hb dX12_tells_418 rfl (lv_at hl 1 rfl) ?_
                                                        refine lv_iadd hx hb dX12_tells_419 ?_
                                                        refine lv_bipush (v := 40) hx hb dX12_tells_420 (by decide) ?_
                                                        refine lv_isub hx hb dX12_tells_422 ?_
                                                        obtain ⟨h74, hw⟩ := hw
                                                        refine xiald (k := (((17 : Int32) + v1) - (40 : Int32)).toNatClampNeg) hx hb hK hP 1 0 rfl rfl h74 rfl dX12_tells_423 ?_
                                                        refine lv_goto (tgt := 429) hx hb dX12_tells_424 (by decide) ?_
                                                        subst hQe
                                                        exact W.iret (v := c_row (((17 : Int32) + v1) - (40 : Int32)).toNatClampNeg) hx hb hr (fun t ht hW => ⟨⟨(c_row (((17 : Int32) + v1) - (40 : Int32)).toNatClampNeg), (), rfl, hw, by rw [ht]; exact hP, va_K.moved hW.alike hK, hD⟩, hS.F ht⟩) hS.2.2 dX12_tells_429
                                                    · replace hw := hw.2 c71; clear c71
                                                      refine lv_aload_n hx hb dX12_tells_383 rfl (lv_at hl 0 rfl) ?_
                                                      refine va_get (D := (dC, dI)) (ci := 12) (v := .ref h_row) (C := RX12) (T := TX12) (N := 22) hx hb hts inX12 hown hK hP 0 rfl rfl 1 (by decide) (hts _ (List.mem_cons_of_mem _ mw_169)) (fun _ h9 => h9) rfl dX12_tells_384 ?_
                                                      refine lv_bipush (v := 6) hx hb dX12_tells_387 (by decide) ?_
                                                      refine lv_iload_n hx hb dX12_tells_389 rfl (lv_at hl 1 rfl) ?_
                                                      refine lv_iadd hx hb dX12_tells_390 ?_
                                                      refine lv_bipush (v := 20) hx hb dX12_tells_391 (by decide) ?_
                                                      refine lv_isub hx hb dX12_tells_393 ?_
                                                      obtain ⟨h75, hw⟩ := hw
                                                      refine xiald (k := (((6 : Int32) + v1) - (20 : Int32)).toNatClampNeg) hx hb hK hP 1 0 rfl rfl h75 rfl dX12_tells_394 ?_
                                                      refine lv_goto (tgt := 429) hx hb dX12_tells_395 (by decide) ?_
                                                      subst hQe
                                                      exact W.iret (v := c_row (((6 : Int32) + v1) - (20 : Int32)).toNatClampNeg) hx hb hr (fun t ht hW => ⟨⟨(c_row (((6 : Int32) + v1) - (20 : Int32)).toNatClampNeg), (), rfl, hw, by rw [ht]; exact hP, va_K.moved hW.alike hK, hD⟩, hS.F ht⟩) hS.2.2 dX12_tells_429
                                                  · skip
                                                    by_cases c76 : v1 = 25
                                                    · replace hw := hw.2.2.2.2.2.2.2.2.2.2.2.2.2.2.2.2.2.2.2.2.2.2.2.2.2.1 c76
                                                      refine lv_tableIn (tgt := 369) hx hb dX12_tells_1 (by rw [c76]; decide) (by rw [c76]; decide) (by rw [c76]; rfl) (by decide) ?_
                                                      refine lv_iload_n hx hb dX12_tells_369 rfl (lv_at hl 1 rfl) ?_
                                                      refine lv_i2l (v := v1.toInt64) hx hb dX12_tells_370 rfl ?_
                                                      refine lv_ldc2 (v := 20) hx hb hown (hts _ (List.mem_cons_of_mem _ mw_1216)) dX12_tells_371 ?_
                                                      refine lv_ldc2 (v := 30) hx hb hown (hts _ (List.mem_cons_of_mem _ mw_1217)) dX12_tells_374 ?_
                                                      have hPc := pSub (ws' := (w_X12_in cy)) hP [] rfl
                                                      have hDc := dSub (ws' := (w_X12_in cy)) hD [] (by decide) rfl
                                                      have hFc := va_free (wc := (w_X12_in cy)) hD hS hA [] rfl
                                                      refine va_calli (va_runS (As := [.long (v1.toInt64), .long (20 : Int64), .long (30 : Int64)]) (rest := []) ⟨hx, hb, hml, hown, hts⟩ (c_X12_in l dC dI cy  H.size (v1.toInt64) (20 : Int64) (30 : Int64) _ hw) (va_cwS 3 hts (goodS mw_207 mw_205 mw_206 mw_5) rfl rfl rfl (by decide +kernel) ⟨Nat.le_of_ble_eq_true rfl, Nat.le_of_ble_eq_true rfl⟩) ⟨PX_blind, PX_pre hPc hK hDc hG⟩ rfl rfl hl.1 rfl (lv_room (Nat.le_of_ble_eq_true rfl)) dX12_tells_377 ⟨Nat.zero_le _, Nat.zero_le _⟩) hS (fun q _ h => hFc q h) hFc ?_; clear hw hS; intro r77 _ t H1 locs1 ht hvm hw hB hz1 hk1 hS
                                                      obtain ⟨hP1, -, -⟩ := hB
                                                      rw [ht] at hP1
                                                      replace hP := jC0 hP hD [] [0, 1] rfl hk1 hP1 (w_X12_tells h0 h_row h_kept h_isKept h_aside h_eight h_rows h_scales h_dealt h_bytes h_heardRow h_made h_comes h_backs h_fresh cy c_thrown c_nodeS c_nodeD c_pairE c_pairO c_bit c_lag c_lagSum c_row) rfl rfl rfl 2 rfl (by decide +kernel); clear hD; obtain ⟨hP, hD⟩ := hP
                                                      replace hP : va_P (dC, dI) vwCl (w_X12_tells h0 h_row h_kept h_isKept h_aside h_eight h_rows h_scales h_dealt h_bytes h_heardRow h_made h_comes h_backs h_fresh cy c_thrown c_nodeS c_nodeD c_pairE c_pairO c_bit c_lag c_lagSum c_row) H1 := hP
                                                      replace hD : va_D A (w_X12_tells h0 h_row h_kept h_isKept h_aside h_eight h_rows h_scales h_dealt h_bytes h_heardRow h_made h_comes h_backs h_fresh cy c_thrown c_nodeS c_nodeD c_pairE c_pairO c_bit c_lag c_lagSum c_row) := hD
                                                      clear hPc hDc hFc hP1 hk1 hz1 hvm ht; clear t; clear H locs; obtain ⟨H, hH⟩ : ∃ H, H = H1 := ⟨_, rfl⟩; obtain ⟨locs, hlo⟩ : ∃ L, L = locs1 := ⟨_, rfl⟩; subst hH; subst hlo
                                                      refine W.widen (k := 0) (n := 0) (Nat.le_refl 0) (Nat.le_refl 0) ?_
                                                      refine lv_if_eq (tgt := 398) hx hb dX12_tells_380 (by decide) (fun c78 => ?_) (fun c78 => ?_)
                                                      · replace hw := hw.1 c78; clear c78
                                                        refine lv_iload_n hx hb dX12_tells_398 rfl (lv_at hl 1 rfl) ?_
                                                        refine lv_i2l (v := v1.toInt64) hx hb dX12_tells_399 rfl ?_
                                                        refine lv_ldc2 (v := 40) hx hb hown (hts _ (List.mem_cons_of_mem _ mw_1218)) dX12_tells_400 ?_
                                                        refine lv_ldc2 (v := 47) hx hb hown (hts _ (List.mem_cons_of_mem _ mw_1219)) dX12_tells_403 ?_
                                                        have hPc := pSub (ws' := (w_X12_in cy)) hP [] rfl
                                                        have hDc := dSub (ws' := (w_X12_in cy)) hD [] (by decide) rfl
                                                        have hFc := va_free (wc := (w_X12_in cy)) hD hS hA [] rfl
                                                        refine va_calli (va_runS (As := [.long (v1.toInt64), .long (40 : Int64), .long (47 : Int64)]) (rest := []) ⟨hx, hb, hml, hown, hts⟩ (c_X12_in l dC dI cy  H.size (v1.toInt64) (40 : Int64) (47 : Int64) _ hw) (va_cwS 3 hts (goodS mw_207 mw_205 mw_206 mw_5) rfl rfl rfl (by decide +kernel) ⟨Nat.le_of_ble_eq_true rfl, Nat.le_of_ble_eq_true rfl⟩) ⟨PX_blind, PX_pre hPc hK hDc hG⟩ rfl rfl hl.1 rfl (lv_room (Nat.le_of_ble_eq_true rfl)) dX12_tells_406 ⟨Nat.zero_le _, Nat.zero_le _⟩) hS (fun q _ h => hFc q h) hFc ?_; clear hw hS; intro r79 _ t H1 locs1 ht hvm hw hB hz1 hk1 hS
                                                        obtain ⟨hP1, -, -⟩ := hB
                                                        rw [ht] at hP1
                                                        replace hP := jC0 hP hD [] [0, 1] rfl hk1 hP1 (w_X12_tells h0 h_row h_kept h_isKept h_aside h_eight h_rows h_scales h_dealt h_bytes h_heardRow h_made h_comes h_backs h_fresh cy c_thrown c_nodeS c_nodeD c_pairE c_pairO c_bit c_lag c_lagSum c_row) rfl rfl rfl 2 rfl (by decide +kernel); clear hD; obtain ⟨hP, hD⟩ := hP
                                                        replace hP : va_P (dC, dI) vwCl (w_X12_tells h0 h_row h_kept h_isKept h_aside h_eight h_rows h_scales h_dealt h_bytes h_heardRow h_made h_comes h_backs h_fresh cy c_thrown c_nodeS c_nodeD c_pairE c_pairO c_bit c_lag c_lagSum c_row) H1 := hP
                                                        replace hD : va_D A (w_X12_tells h0 h_row h_kept h_isKept h_aside h_eight h_rows h_scales h_dealt h_bytes h_heardRow h_made h_comes h_backs h_fresh cy c_thrown c_nodeS c_nodeD c_pairE c_pairO c_bit c_lag c_lagSum c_row) := hD
                                                        clear hPc hDc hFc hP1 hk1 hz1 hvm ht; clear t; clear H locs; obtain ⟨H, hH⟩ : ∃ H, H = H1 := ⟨_, rfl⟩; obtain ⟨locs, hlo⟩ : ∃ L, L = locs1 := ⟨_, rfl⟩; subst hH; subst hlo
                                                        refine W.widen (k := 0) (n := 0) (Nat.le_refl 0) (Nat.le_refl 0) ?_
                                                        refine lv_if_eq (tgt := 427) hx hb dX12_tells_409 (by decide) (fun c80 => ?_) (fun c80 => ?_)
                                                        · replace hw := hw.1 c80; clear c80
                                                          refine lv_ldc (v := -2147483648) hx hb hown (hts _ (List.mem_cons_of_mem _ mw_908)) dX12_tells_427 ?_
                                                          subst hQe
                                                          exact W.iret (v := (-2147483648 : Int32)) hx hb hr (fun t ht hW => ⟨⟨(-2147483648 : Int32), (), rfl, hw, by rw [ht]; exact hP, va_K.moved hW.alike hK, hD⟩, hS.F ht⟩) hS.2.2 dX12_tells_429
                                                        · replace hw := hw.2 c80; clear c80
                                                          refine lv_aload_n hx hb dX12_tells_412 rfl (lv_at hl 0 rfl) ?_
                                                          refine va_get (D := (dC, dI)) (ci := 12) (v := .ref h_row) (C := RX12) (T := TX12) (N := 22) hx hb hts inX12 hown hK hP 0 rfl rfl 1 (by decide) (hts _ (List.mem_cons_of_mem _ mw_169)) (fun _ h9 => h9) rfl dX12_tells_413 ?_
                                                          refine lv_bipush (v := 17) hx hb dX12_tells_416 (by decide) ?_
                                                          refine lv_iload_n hx hb dX12_tells_418 rfl (lv_at hl 1 rfl) ?_
                                                          refine lv_iadd hx hb dX12_tells_419 ?_
                                                          refine lv_bipush (v := 40) hx hb dX12_tells_420 (by decide) ?_
                                                          refine lv_isub hx hb dX12_tells_422 ?_
                                                          obtain ⟨h81, hw⟩ := hw
                                                          refine xiald (k := (((17 : Int32) + v1) - (40 : Int32)).toNatClampNeg) hx hb hK hP 1 0 rfl rfl h81 rfl dX12_tells_423 ?_
                                                          refine lv_goto (tgt := 429) hx hb dX12_tells_424 (by decide) ?_
                                                          subst hQe
                                                          exact W.iret (v := c_row (((17 : Int32) + v1) - (40 : Int32)).toNatClampNeg) hx hb hr (fun t ht hW => ⟨⟨(c_row (((17 : Int32) + v1) - (40 : Int32)).toNatClampNeg), (), rfl, hw, by rw [ht]; exact hP, va_K.moved hW.alike hK, hD⟩, hS.F ht⟩) hS.2.2 dX12_tells_429
                                                      · replace hw := hw.2 c78; clear c78
                                                        refine lv_aload_n hx hb dX12_tells_383 rfl (lv_at hl 0 rfl) ?_
                                                        refine va_get (D := (dC, dI)) (ci := 12) (v := .ref h_row) (C := RX12) (T := TX12) (N := 22) hx hb hts inX12 hown hK hP 0 rfl rfl 1 (by decide) (hts _ (List.mem_cons_of_mem _ mw_169)) (fun _ h9 => h9) rfl dX12_tells_384 ?_
                                                        refine lv_bipush (v := 6) hx hb dX12_tells_387 (by decide) ?_
                                                        refine lv_iload_n hx hb dX12_tells_389 rfl (lv_at hl 1 rfl) ?_
                                                        refine lv_iadd hx hb dX12_tells_390 ?_
                                                        refine lv_bipush (v := 20) hx hb dX12_tells_391 (by decide) ?_
                                                        refine lv_isub hx hb dX12_tells_393 ?_
                                                        obtain ⟨h82, hw⟩ := hw
                                                        refine xiald (k := (((6 : Int32) + v1) - (20 : Int32)).toNatClampNeg) hx hb hK hP 1 0 rfl rfl h82 rfl dX12_tells_394 ?_
                                                        refine lv_goto (tgt := 429) hx hb dX12_tells_395 (by decide) ?_
                                                        subst hQe
                                                        exact W.iret (v := c_row (((6 : Int32) + v1) - (20 : Int32)).toNatClampNeg) hx hb hr (fun t ht hW => ⟨⟨(c_row (((6 : Int32) + v1) - (20 : Int32)).toNatClampNeg), (), rfl, hw, by rw [ht]; exact hP, va_K.moved hW.alike hK, hD⟩, hS.F ht⟩) hS.2.2 dX12_tells_429
                                                    · skip
                                                      by_cases c83 : v1 = 26
                                                      · replace hw := hw.2.2.2.2.2.2.2.2.2.2.2.2.2.2.2.2.2.2.2.2.2.2.2.2.2.2.1 c83
                                                        refine lv_tableIn (tgt := 369) hx hb dX12_tells_1 (by rw [c83]; decide) (by rw [c83]; decide) (by rw [c83]; rfl) (by decide) ?_
                                                        refine lv_iload_n hx hb dX12_tells_369 rfl (lv_at hl 1 rfl) ?_
                                                        refine lv_i2l (v := v1.toInt64) hx hb dX12_tells_370 rfl ?_
                                                        refine lv_ldc2 (v := 20) hx hb hown (hts _ (List.mem_cons_of_mem _ mw_1216)) dX12_tells_371 ?_
                                                        refine lv_ldc2 (v := 30) hx hb hown (hts _ (List.mem_cons_of_mem _ mw_1217)) dX12_tells_374 ?_
                                                        have hPc := pSub (ws' := (w_X12_in cy)) hP [] rfl
                                                        have hDc := dSub (ws' := (w_X12_in cy)) hD [] (by decide) rfl
                                                        have hFc := va_free (wc := (w_X12_in cy)) hD hS hA [] rfl
                                                        refine va_calli (va_runS (As := [.long (v1.toInt64), .long (20 : Int64), .long (30 : Int64)]) (rest := []) ⟨hx, hb, hml, hown, hts⟩ (c_X12_in l dC dI cy  H.size (v1.toInt64) (20 : Int64) (30 : Int64) _ hw) (va_cwS 3 hts (goodS mw_207 mw_205 mw_206 mw_5) rfl rfl rfl (by decide +kernel) ⟨Nat.le_of_ble_eq_true rfl, Nat.le_of_ble_eq_true rfl⟩) ⟨PX_blind, PX_pre hPc hK hDc hG⟩ rfl rfl hl.1 rfl (lv_room (Nat.le_of_ble_eq_true rfl)) dX12_tells_377 ⟨Nat.zero_le _, Nat.zero_le _⟩) hS (fun q _ h => hFc q h) hFc ?_; clear hw hS; intro r84 _ t H1 locs1 ht hvm hw hB hz1 hk1 hS
                                                        obtain ⟨hP1, -, -⟩ := hB
                                                        rw [ht] at hP1
                                                        replace hP := jC0 hP hD [] [0, 1] rfl hk1 hP1 (w_X12_tells h0 h_row h_kept h_isKept h_aside h_eight h_rows h_scales h_dealt h_bytes h_heardRow h_made h_comes h_backs h_fresh cy c_thrown c_nodeS c_nodeD c_pairE c_pairO c_bit c_lag c_lagSum c_row) rfl rfl rfl 2 rfl (by decide +kernel); clear hD; obtain ⟨hP, hD⟩ := hP
                                                        replace hP : va_P (dC, dI) vwCl (w_X12_tells h0 h_row h_kept h_isKept h_aside h_eight h_rows h_scales h_dealt h_bytes h_heardRow h_made h_comes h_backs h_fresh cy c_thrown c_nodeS c_nodeD c_pairE c_pairO c_bit c_lag c_lagSum c_row) H1 := hP
                                                        replace hD : va_D A (w_X12_tells h0 h_row h_kept h_isKept h_aside h_eight h_rows h_scales h_dealt h_bytes h_heardRow h_made h_comes h_backs h_fresh cy c_thrown c_nodeS c_nodeD c_pairE c_pairO c_bit c_lag c_lagSum c_row) := hD
                                                        clear hPc hDc hFc hP1 hk1 hz1 hvm ht; clear t; clear H locs; obtain ⟨H, hH⟩ : ∃ H, H = H1 := ⟨_, rfl⟩; obtain ⟨locs, hlo⟩ : ∃ L, L = locs1 := ⟨_, rfl⟩; subst hH; subst hlo
                                                        refine W.widen (k := 0) (n := 0) (Nat.le_refl 0) (Nat.le_refl 0) ?_
                                                        refine lv_if_eq (tgt := 398) hx hb dX12_tells_380 (by decide) (fun c85 => ?_) (fun c85 => ?_)
                                                        · replace hw := hw.1 c85; clear c85
                                                          refine lv_iload_n hx hb dX12_tells_398 rfl (lv_at hl 1 rfl) ?_
                                                          refine lv_i2l (v := v1.toInt64) hx hb dX12_tells_399 rfl ?_
                                                          refine lv_ldc2 (v := 40) hx hb hown (hts _ (List.mem_cons_of_mem _ mw_1218)) dX12_tells_400 ?_
                                                          refine lv_ldc2 (v := 47) hx hb hown (hts _ (List.mem_cons_of_mem _ mw_1219)) dX12_tells_403 ?_
                                                          have hPc := pSub (ws' := (w_X12_in cy)) hP [] rfl
                                                          have hDc := dSub (ws' := (w_X12_in cy)) hD [] (by decide) rfl
                                                          have hFc := va_free (wc := (w_X12_in cy)) hD hS hA [] rfl
                                                          refine va_calli (va_runS (As := [.long (v1.toInt64), .long (40 : Int64), .long (47 : Int64)]) (rest := []) ⟨hx, hb, hml, hown, hts⟩ (c_X12_in l dC dI cy  H.size (v1.toInt64) (40 : Int64) (47 : Int64) _ hw) (va_cwS 3 hts (goodS mw_207 mw_205 mw_206 mw_5) rfl rfl rfl (by decide +kernel) ⟨Nat.le_of_ble_eq_true rfl, Nat.le_of_ble_eq_true rfl⟩) ⟨PX_blind, PX_pre hPc hK hDc hG⟩ rfl rfl hl.1 rfl (lv_room (Nat.le_of_ble_eq_true rfl)) dX12_tells_406 ⟨Nat.zero_le _, Nat.zero_le _⟩) hS (fun q _ h => hFc q h) hFc ?_; clear hw hS; intro r86 _ t H1 locs1 ht hvm hw hB hz1 hk1 hS
                                                          obtain ⟨hP1, -, -⟩ := hB
                                                          rw [ht] at hP1
                                                          replace hP := jC0 hP hD [] [0, 1] rfl hk1 hP1 (w_X12_tells h0 h_row h_kept h_isKept h_aside h_eight h_rows h_scales h_dealt h_bytes h_heardRow h_made h_comes h_backs h_fresh cy c_thrown c_nodeS c_nodeD c_pairE c_pairO c_bit c_lag c_lagSum c_row) rfl rfl rfl 2 rfl (by decide +kernel); clear hD; obtain ⟨hP, hD⟩ := hP
                                                          replace hP : va_P (dC, dI) vwCl (w_X12_tells h0 h_row h_kept h_isKept h_aside h_eight h_rows h_scales h_dealt h_bytes h_heardRow h_made h_comes h_backs h_fresh cy c_thrown c_nodeS c_nodeD c_pairE c_pairO c_bit c_lag c_lagSum c_row) H1 := hP
                                                          replace hD : va_D A (w_X12_tells h0 h_row h_kept h_isKept h_aside h_eight h_rows h_scales h_dealt h_bytes h_heardRow h_made h_comes h_backs h_fresh cy c_thrown c_nodeS c_nodeD c_pairE c_pairO c_bit c_lag c_lagSum c_row) := hD
                                                          clear hPc hDc hFc hP1 hk1 hz1 hvm ht; clear t; clear H locs; obtain ⟨H, hH⟩ : ∃ H, H = H1 := ⟨_, rfl⟩; obtain ⟨locs, hlo⟩ : ∃ L, L = locs1 := ⟨_, rfl⟩; subst hH; subst hlo
                                                          refine W.widen (k := 0) (n := 0) (Nat.le_refl 0) (Nat.le_refl 0) ?_
                                                          refine lv_if_eq (tgt := 427) hx hb dX12_tells_409 (by decide) (fun c87 => ?_) (fun c87 => ?_)
                                                          · replace hw := hw.1 c87; clear c87
                                                            refine lv_ldc (v := -2147483648) hx hb hown (hts _ (List.mem_cons_of_mem _ mw_908)) dX12_tells_427 ?_
                                                            subst hQe
                                                            exact W.iret (v := (-2147483648 : Int32)) hx hb hr (fun t ht hW => ⟨⟨(-2147483648 : Int32), (), rfl, hw, by rw [ht]; exact hP, va_K.moved hW.alike hK, hD⟩, hS.F ht⟩) hS.2.2 dX12_tells_429
                                                          · replace hw := hw.2 c87; clear c87
                                                            refine lv_aload_n hx hb dX12_tells_412 rfl (lv_at hl 0 rfl) ?_
                                                            refine va_get (D := (dC, dI)) (ci := 12) (v := .ref h_row) (C := RX12) (T := TX12) (N := 22) hx hb hts inX12 hown hK hP 0 rfl rfl 1 (by decide) (hts _ (List.mem_cons_of_mem _ mw_169)) (fun _ h9 => h9) rfl dX12_tells_413 ?_
                                                            refine lv_bipush (v := 17) hx hb dX12_tells_416 (by decide) ?_
                                                            refine lv_iload_n hx hb dX12_tells_418 rfl (lv_at hl 1 rfl) ?_
                                                            refine lv_iadd hx hb dX12_tells_419 ?_
                                                            refine lv_bipush (v := 40) hx hb dX12_tells_420 (by decide) ?_
                                                            refine lv_isub hx hb dX12_tells_422 ?_
                                                            obtain ⟨h88, hw⟩ := hw
                                                            refine xiald (k := (((17 : Int32) + v1) - (40 : Int32)).toNatClampNeg) hx hb hK hP 1 0 rfl rfl h88 rfl dX12_tells_423 ?_
                                                            refine lv_goto (tgt := 429) hx hb dX12_tells_424 (by decide) ?_
                                                            subst hQe
                                                            exact W.iret (v := c_row (((17 : Int32) + v1) - (40 : Int32)).toNatClampNeg) hx hb hr (fun t ht hW => ⟨⟨(c_row (((17 : Int32) + v1) - (40 : Int32)).toNatClampNeg), (), rfl, hw, by rw [ht]; exact hP, va_K.moved hW.alike hK, hD⟩, hS.F ht⟩) hS.2.2 dX12_tells_429
                                                        · replace hw := hw.2 c85; clear c85
                                                          refine lv_aload_n hx hb dX12_tells_383 rfl (lv_at hl 0 rfl) ?_
                                                          refine va_get (D := (dC, dI)) (ci := 12) (v := .ref h_row) (C := RX12) (T := TX12) (N := 22) hx hb hts inX12 hown hK hP 0 rfl rfl 1 (by decide) (hts _ (List.mem_cons_of_mem _ mw_169)) (fun _ h9 => h9) rfl dX12_tells_384 ?_
                                                          refine lv_bipush (v := 6) hx hb dX12_tells_387 (by decide) ?_
                                                          refine lv_iload_n hx hb dX12_tells_389 rfl (lv_at hl 1 rfl) ?_
                                                          refine lv_iadd hx hb dX12_tells_390 ?_
                                                          refine lv_bipush (v := 20) hx hb dX12_tells_391 (by decide) ?_
                                                          refine lv_isub hx hb dX12_tells_393 ?_
                                                          obtain ⟨h89, hw⟩ := hw
                                                          refine xiald (k := (((6 : Int32) + v1) - (20 : Int32)).toNatClampNeg) hx hb hK hP 1 0 rfl rfl h89 rfl dX12_tells_394 ?_
                                                          refine lv_goto (tgt := 429) hx hb dX12_tells_395 (by decide) ?_
                                                          subst hQe
                                                          exact W.iret (v := c_row (((6 : Int32) + v1) - (20 : Int32)).toNatClampNeg) hx hb hr (fun t ht hW => ⟨⟨(c_row (((6 : Int32) + v1) - (20 : Int32)).toNatClampNeg), (), rfl, hw, by rw [ht]; exact hP, va_K.moved hW.alike hK, hD⟩, hS.F ht⟩) hS.2.2 dX12_tells_429
                                                      · skip
                                                        by_cases c90 : v1 = 27
                                                        · replace hw := hw.2.2.2.2.2.2.2.2.2.2.2.2.2.2.2.2.2.2.2.2.2.2.2.2.2.2.2.1 c90
                                                          refine lv_tableIn (tgt := 369) hx hb dX12_tells_1 (by rw [c90]; decide) (by rw [c90]; decide) (by rw [c90]; rfl) (by decide) ?_
                                                          refine lv_iload_n hx hb dX12_tells_369 rfl (lv_at hl 1 rfl) ?_
                                                          refine lv_i2l (v := v1.toInt64) hx hb dX12_tells_370 rfl ?_
                                                          refine lv_ldc2 (v := 20) hx hb hown (hts _ (List.mem_cons_of_mem _ mw_1216)) dX12_tells_371 ?_
                                                          refine lv_ldc2 (v := 30) hx hb hown (hts _ (List.mem_cons_of_mem _ mw_1217)) dX12_tells_374 ?_
                                                          have hPc := pSub (ws' := (w_X12_in cy)) hP [] rfl
                                                          have hDc := dSub (ws' := (w_X12_in cy)) hD [] (by decide) rfl
                                                          have hFc := va_free (wc := (w_X12_in cy)) hD hS hA [] rfl
                                                          refine va_calli (va_runS (As := [.long (v1.toInt64), .long (20 : Int64), .long (30 : Int64)]) (rest := []) ⟨hx, hb, hml, hown, hts⟩ (c_X12_in l dC dI cy  H.size (v1.toInt64) (20 : Int64) (30 : Int64) _ hw) (va_cwS 3 hts (goodS mw_207 mw_205 mw_206 mw_5) rfl rfl rfl (by decide +kernel) ⟨Nat.le_of_ble_eq_true rfl, Nat.le_of_ble_eq_true rfl⟩) ⟨PX_blind, PX_pre hPc hK hDc hG⟩ rfl rfl hl.1 rfl (lv_room (Nat.le_of_ble_eq_true rfl)) dX12_tells_377 ⟨Nat.zero_le _, Nat.zero_le _⟩) hS (fun q _ h => hFc q h) hFc ?_; clear hw hS; intro r91 _ t H1 locs1 ht hvm hw hB hz1 hk1 hS
                                                          obtain ⟨hP1, -, -⟩ := hB
                                                          rw [ht] at hP1
                                                          replace hP := jC0 hP hD [] [0, 1] rfl hk1 hP1 (w_X12_tells h0 h_row h_kept h_isKept h_aside h_eight h_rows h_scales h_dealt h_bytes h_heardRow h_made h_comes h_backs h_fresh cy c_thrown c_nodeS c_nodeD c_pairE c_pairO c_bit c_lag c_lagSum c_row) rfl rfl rfl 2 rfl (by decide +kernel); clear hD; obtain ⟨hP, hD⟩ := hP
                                                          replace hP : va_P (dC, dI) vwCl (w_X12_tells h0 h_row h_kept h_isKept h_aside h_eight h_rows h_scales h_dealt h_bytes h_heardRow h_made h_comes h_backs h_fresh cy c_thrown c_nodeS c_nodeD c_pairE c_pairO c_bit c_lag c_lagSum c_row) H1 := hP
                                                          replace hD : va_D A (w_X12_tells h0 h_row h_kept h_isKept h_aside h_eight h_rows h_scales h_dealt h_bytes h_heardRow h_made h_comes h_backs h_fresh cy c_thrown c_nodeS c_nodeD c_pairE c_pairO c_bit c_lag c_lagSum c_row) := hD
                                                          clear hPc hDc hFc hP1 hk1 hz1 hvm ht; clear t; clear H locs; obtain ⟨H, hH⟩ : ∃ H, H = H1 := ⟨_, rfl⟩; obtain ⟨locs, hlo⟩ : ∃ L, L = locs1 := ⟨_, rfl⟩; subst hH; subst hlo
                                                          refine W.widen (k := 0) (n := 0) (Nat.le_refl 0) (Nat.le_refl 0) ?_
                                                          refine lv_if_eq (tgt := 398) hx hb dX12_tells_380 (by decide) (fun c92 => ?_) (fun c92 => ?_)
                                                          · replace hw := hw.1 c92; clear c92
                                                            refine lv_iload_n hx hb dX12_tells_398 rfl (lv_at hl 1 rfl) ?_
                                                            refine lv_i2l (v := v1.toInt64) hx hb dX12_tells_399 rfl ?_
                                                            refine lv_ldc2 (v := 40) hx hb hown (hts _ (List.mem_cons_of_mem _ mw_1218)) dX12_tells_400 ?_
                                                            refine lv_ldc2 (v := 47) hx hb hown (hts _ (List.mem_cons_of_mem _ mw_1219)) dX12_tells_403 ?_
                                                            have hPc := pSub (ws' := (w_X12_in cy)) hP [] rfl
                                                            have hDc := dSub (ws' := (w_X12_in cy)) hD [] (by decide) rfl
                                                            have hFc := va_free (wc := (w_X12_in cy)) hD hS hA [] rfl
                                                            refine va_calli (va_runS (As := [.long (v1.toInt64), .long (40 : Int64), .long (47 : Int64)]) (rest := []) ⟨hx, hb, hml, hown, hts⟩ (c_X12_in l dC dI cy  H.size (v1.toInt64) (40 : Int64) (47 : Int64) _ hw) (va_cwS 3 hts (goodS mw_207 mw_205 mw_206 mw_5) rfl rfl rfl (by decide +kernel) ⟨Nat.le_of_ble_eq_true rfl, Nat.le_of_ble_eq_true rfl⟩) ⟨PX_blind, PX_pre hPc hK hDc hG⟩ rfl rfl hl.1 rfl (lv_room (Nat.le_of_ble_eq_true rfl)) dX12_tells_406 ⟨Nat.zero_le _, Nat.zero_le _⟩) hS (fun q _ h => hFc q h) hFc ?_; clear hw hS; intro r93 _ t H1 locs1 ht hvm hw hB hz1 hk1 hS
                                                            obtain ⟨hP1, -, -⟩ := hB
                                                            rw [ht] at hP1
                                                            replace hP := jC0 hP hD [] [0, 1] rfl hk1 hP1 (w_X12_tells h0 h_row h_kept h_isKept h_aside h_eight h_rows h_scales h_dealt h_bytes h_heardRow h_made h_comes h_backs h_fresh cy c_thrown c_nodeS c_nodeD c_pairE c_pairO c_bit c_lag c_lagSum c_row) rfl rfl rfl 2 rfl (by decide +kernel); clear hD; obtain ⟨hP, hD⟩ := hP
                                                            replace hP : va_P (dC, dI) vwCl (w_X12_tells h0 h_row h_kept h_isKept h_aside h_eight h_rows h_scales h_dealt h_bytes h_heardRow h_made h_comes h_backs h_fresh cy c_thrown c_nodeS c_nodeD c_pairE c_pairO c_bit c_lag c_lagSum c_row) H1 := hP
                                                            replace hD : va_D A (w_X12_tells h0 h_row h_kept h_isKept h_aside h_eight h_rows h_scales h_dealt h_bytes h_heardRow h_made h_comes h_backs h_fresh cy c_thrown c_nodeS c_nodeD c_pairE c_pairO c_bit c_lag c_lagSum c_row) := hD
                                                            clear hPc hDc hFc hP1 hk1 hz1 hvm ht; clear t; clear H locs; obtain ⟨H, hH⟩ : ∃ H, H = H1 := ⟨_, rfl⟩; obtain ⟨locs, hlo⟩ : ∃ L, L = locs1 := ⟨_, rfl⟩; subst hH; subst hlo
                                                            refine W.widen (k := 0) (n := 0) (Nat.le_refl 0) (Nat.le_refl 0) ?_
                                                            refine lv_if_eq (tgt := 427) hx hb dX12_tells_409 (by decide) (fun c94 => ?_) (fun c94 => ?_)
                                                            · replace hw := hw.1 c94; clear c94
                                                              refine lv_ldc (v := -2147483648) hx hb hown (hts _ (List.mem_cons_of_mem _ mw_908)) dX12_tells_427 ?_
                                                              subst hQe
                                                              exact W.iret (v := (-2147483648 : Int32)) hx hb hr (fun t ht hW => ⟨⟨(-2147483648 : Int32), (), rfl, hw, by rw [ht]; exact hP, va_K.moved hW.alike hK, hD⟩, hS.F ht⟩) hS.2.2 dX12_tells_429
                                                            · replace hw := hw.2 c94; clear c94
                                                              refine lv_aload_n hx hb dX12_tells_412 rfl (lv_at hl 0 rfl) ?_
                                                              refine va_get (D := (dC, dI)) (ci := 12) (v := .ref h_row) (C := RX12) (T := TX12) (N := 22) hx hb hts inX12 hown hK hP 0 rfl rfl 1 (by decide) (hts _ (List.mem_cons_of_mem _ mw_169)) (fun _ h9 => h9) rfl dX12_tells_413 ?_
                                                              refine lv_bipush (v := 17) hx hb dX12_tells_416 (by decide) ?_
                                                              refine lv_iload_n hx hb dX12_tells_418 rfl (lv_at hl 1 rfl) ?_
                                                              refine lv_iadd hx hb dX12_tells_419 ?_
                                                              refine lv_bipush (v := 40) hx hb dX12_tells_420 (by decide) ?_
                                                              refine lv_isub hx hb dX12_tells_422 ?_
                                                              obtain ⟨h95, hw⟩ := hw
                                                              refine xiald (k := (((17 : Int32) + v1) - (40 : Int32)).toNatClampNeg) hx hb hK hP 1 0 rfl rfl h95 rfl dX12_tells_423 ?_
                                                              refine lv_goto (tgt := 429) hx hb dX12_tells_424 (by decide) ?_
                                                              subst hQe
                                                              exact W.iret (v := c_row (((17 : Int32) + v1) - (40 : Int32)).toNatClampNeg) hx hb hr (fun t ht hW => ⟨⟨(c_row (((17 : Int32) + v1) - (40 : Int32)).toNatClampNeg), (), rfl, hw, by rw [ht]; exact hP, va_K.moved hW.alike hK, hD⟩, hS.F ht⟩) hS.2.2 dX12_tells_429
                                                          · replace hw := hw.2 c92; clear c92
                                                            refine lv_aload_n hx hb dX12_tells_383 rfl (lv_at hl 0 rfl) ?_
                                                            refine va_get (D := (dC, dI)) (ci := 12) (v := .ref h_row) (C := RX12) (T := TX12) (N := 22) hx hb hts inX12 hown hK hP 0 rfl rfl 1 (by decide) (hts _ (List.mem_cons_of_mem _ mw_169)) (fun _ h9 => h9) rfl dX12_tells_384 ?_
                                                            refine lv_bipush (v := 6) hx hb dX12_tells_387 (by decide) ?_
                                                            refine lv_iload_n hx hb dX12_tells_389 rfl (lv_at hl 1 rfl) ?_
                                                            refine lv_iadd hx hb dX12_tells_390 ?_
                                                            refine lv_bipush (v := 20) hx hb dX12_tells_391 (by decide) ?_
                                                            refine lv_isub hx hb dX12_tells_393 ?_
                                                            obtain ⟨h96, hw⟩ := hw
                                                            refine xiald (k := (((6 : Int32) + v1) - (20 : Int32)).toNatClampNeg) hx hb hK hP 1 0 rfl rfl h96 rfl dX12_tells_394 ?_
                                                            refine lv_goto (tgt := 429) hx hb dX12_tells_395 (by decide) ?_
                                                            subst hQe
                                                            exact W.iret (v := c_row (((6 : Int32) + v1) - (20 : Int32)).toNatClampNeg) hx hb hr (fun t ht hW => ⟨⟨(c_row (((6 : Int32) + v1) - (20 : Int32)).toNatClampNeg), (), rfl, hw, by rw [ht]; exact hP, va_K.moved hW.alike hK, hD⟩, hS.F ht⟩) hS.2.2 dX12_tells_429
                                                        · skip
                                                          by_cases c97 : v1 = 28
                                                          · replace hw := hw.2.2.2.2.2.2.2.2.2.2.2.2.2.2.2.2.2.2.2.2.2.2.2.2.2.2.2.2.1 c97
                                                            refine lv_tableIn (tgt := 369) hx hb dX12_tells_1 (by rw [c97]; decide) (by rw [c97]; decide) (by rw [c97]; rfl) (by decide) ?_
                                                            refine lv_iload_n hx hb dX12_tells_369 rfl (lv_at hl 1 rfl) ?_
                                                            refine lv_i2l (v := v1.toInt64) hx hb dX12_tells_370 rfl ?_
                                                            refine lv_ldc2 (v := 20) hx hb hown (hts _ (List.mem_cons_of_mem _ mw_1216)) dX12_tells_371 ?_
                                                            refine lv_ldc2 (v := 30) hx hb hown (hts _ (List.mem_cons_of_mem _ mw_1217)) dX12_tells_374 ?_
                                                            have hPc := pSub (ws' := (w_X12_in cy)) hP [] rfl
                                                            have hDc := dSub (ws' := (w_X12_in cy)) hD [] (by decide) rfl
                                                            have hFc := va_free (wc := (w_X12_in cy)) hD hS hA [] rfl
                                                            refine va_calli (va_runS (As := [.long (v1.toInt64), .long (20 : Int64), .long (30 : Int64)]) (rest := []) ⟨hx, hb, hml, hown, hts⟩ (c_X12_in l dC dI cy  H.size (v1.toInt64) (20 : Int64) (30 : Int64) _ hw) (va_cwS 3 hts (goodS mw_207 mw_205 mw_206 mw_5) rfl rfl rfl (by decide +kernel) ⟨Nat.le_of_ble_eq_true rfl, Nat.le_of_ble_eq_true rfl⟩) ⟨PX_blind, PX_pre hPc hK hDc hG⟩ rfl rfl hl.1 rfl (lv_room (Nat.le_of_ble_eq_true rfl)) dX12_tells_377 ⟨Nat.zero_le _, Nat.zero_le _⟩) hS (fun q _ h => hFc q h) hFc ?_; clear hw hS; intro r98 _ t H1 locs1 ht hvm hw hB hz1 hk1 hS
                                                            obtain ⟨hP1, -, -⟩ := hB
                                                            rw [ht] at hP1
                                                            replace hP := jC0 hP hD [] [0, 1] rfl hk1 hP1 (w_X12_tells h0 h_row h_kept h_isKept h_aside h_eight h_rows h_scales h_dealt h_bytes h_heardRow h_made h_comes h_backs h_fresh cy c_thrown c_nodeS c_nodeD c_pairE c_pairO c_bit c_lag c_lagSum c_row) rfl rfl rfl 2 rfl (by decide +kernel); clear hD; obtain ⟨hP, hD⟩ := hP
                                                            replace hP : va_P (dC, dI) vwCl (w_X12_tells h0 h_row h_kept h_isKept h_aside h_eight h_rows h_scales h_dealt h_bytes h_heardRow h_made h_comes h_backs h_fresh cy c_thrown c_nodeS c_nodeD c_pairE c_pairO c_bit c_lag c_lagSum c_row) H1 := hP
                                                            replace hD : va_D A (w_X12_tells h0 h_row h_kept h_isKept h_aside h_eight h_rows h_scales h_dealt h_bytes h_heardRow h_made h_comes h_backs h_fresh cy c_thrown c_nodeS c_nodeD c_pairE c_pairO c_bit c_lag c_lagSum c_row) := hD
                                                            clear hPc hDc hFc hP1 hk1 hz1 hvm ht; clear t; clear H locs; obtain ⟨H, hH⟩ : ∃ H, H = H1 := ⟨_, rfl⟩; obtain ⟨locs, hlo⟩ : ∃ L, L = locs1 := ⟨_, rfl⟩; subst hH; subst hlo
                                                            refine W.widen (k := 0) (n := 0) (Nat.le_refl 0) (Nat.le_refl 0) ?_
                                                            refine lv_if_eq (tgt := 398) hx hb dX12_tells_380 (by decide) (fun c99 => ?_) (fun c99 => ?_)
                                                            · replace hw := hw.1 c99; clear c99
                                                              refine lv_iload_n hx hb dX12_tells_398 rfl (lv_at hl 1 rfl) ?_
                                                              refine lv_i2l (v := v1.toInt64) hx hb dX12_tells_399 rfl ?_
                                                              refine lv_ldc2 (v := 40) hx hb hown (hts _ (List.mem_cons_of_mem _ mw_1218)) dX12_tells_400 ?_
                                                              refine lv_ldc2 (v := 47) hx hb hown (hts _ (List.mem_cons_of_mem _ mw_1219)) dX12_tells_403 ?_
                                                              have hPc := pSub (ws' := (w_X12_in cy)) hP [] rfl
                                                              have hDc := dSub (ws' := (w_X12_in cy)) hD [] (by decide) rfl
                                                              have hFc := va_free (wc := (w_X12_in cy)) hD hS hA [] rfl
                                                              refine va_calli (va_runS (As := [.long (v1.toInt64), .long (40 : Int64), .long (47 : Int64)]) (rest := []) ⟨hx, hb, hml, hown, hts⟩ (c_X12_in l dC dI cy  H.size (v1.toInt64) (40 : Int64) (47 : Int64) _ hw) (va_cwS 3 hts (goodS mw_207 mw_205 mw_206 mw_5) rfl rfl rfl (by decide +kernel) ⟨Nat.le_of_ble_eq_true rfl, Nat.le_of_ble_eq_true rfl⟩) ⟨PX_blind, PX_pre hPc hK hDc hG⟩ rfl rfl hl.1 rfl (lv_room (Nat.le_of_ble_eq_true rfl)) dX12_tells_406 ⟨Nat.zero_le _, Nat.zero_le _⟩) hS (fun q _ h => hFc q h) hFc ?_; clear hw hS; intro r100 _ t H1 locs1 ht hvm hw hB hz1 hk1 hS
                                                              obtain ⟨hP1, -, -⟩ := hB
                                                              rw [ht] at hP1
                                                              replace hP := jC0 hP hD [] [0, 1] rfl hk1 hP1 (w_X12_tells h0 h_row h_kept h_isKept h_aside h_eight h_rows h_scales h_dealt h_bytes h_heardRow h_made h_comes h_backs h_fresh cy c_thrown c_nodeS c_nodeD c_pairE c_pairO c_bit c_lag c_lagSum c_row) rfl rfl rfl 2 rfl (by decide +kernel); clear hD; obtain ⟨hP, hD⟩ := hP
                                                              replace hP : va_P (dC, dI) vwCl (w_X12_tells h0 h_row h_kept h_isKept h_aside h_eight h_rows h_scales h_dealt h_bytes h_heardRow h_made h_comes h_backs h_fresh cy c_thrown c_nodeS c_nodeD c_pairE c_pairO c_bit c_lag c_lagSum c_row) H1 := hP
                                                              replace hD : va_D A (w_X12_tells h0 h_row h_kept h_isKept h_aside h_eight h_rows h_scales h_dealt h_bytes h_heardRow h_made h_comes h_backs h_fresh cy c_thrown c_nodeS c_nodeD c_pairE c_pairO c_bit c_lag c_lagSum c_row) := hD
                                                              clear hPc hDc hFc hP1 hk1 hz1 hvm ht; clear t; clear H locs; obtain ⟨H, hH⟩ : ∃ H, H = H1 := ⟨_, rfl⟩; obtain ⟨locs, hlo⟩ : ∃ L, L = locs1 := ⟨_, rfl⟩; subst hH; subst hlo
                                                              refine W.widen (k := 0) (n := 0) (Nat.le_refl 0) (Nat.le_refl 0) ?_
                                                              refine lv_if_eq (tgt := 427) hx hb dX12_tells_409 (by decide) (fun c101 => ?_) (fun c101 => ?_)
                                                              · replace hw := hw.1 c101; clear c101
                                                                refine lv_ldc (v := -2147483648) hx hb hown (hts _ (List.mem_cons_of_mem _ mw_908)) dX12_tells_427 ?_
                                                                subst hQe
                                                                exact W.iret (v := (-2147483648 : Int32)) hx hb hr (fun t ht hW => ⟨⟨(-2147483648 : Int32), (), rfl, hw, by rw [ht]; exact hP, va_K.moved hW.alike hK, hD⟩, hS.F ht⟩) hS.2.2 dX12_tells_429
                                                              · replace hw := hw.2 c101; clear c101
                                                                refine lv_aload_n hx hb dX12_tells_412 rfl (lv_at hl 0 rfl) ?_
                                                                refine va_get (D := (dC, dI)) (ci := 12) (v := .ref h_row) (C := RX12) (T := TX12) (N := 22) hx hb hts inX12 hown hK hP 0 rfl rfl 1 (by decide) (hts _ (List.mem_cons_of_mem _ mw_169)) (fun _ h9 => h9) rfl dX12_tells_413 ?_
                                                                refine lv_bipush (v := 17) hx hb dX12_tells_416 (by decide) ?_
                                                                refine lv_iload_n hx hb dX12_tells_418 rfl (lv_at hl 1 rfl) ?_
                                                                refine lv_iadd hx hb dX12_tells_419 ?_
                                                                refine lv_bipush (v := 40) hx hb dX12_tells_420 (by decide) ?_
                                                                refine lv_isub hx hb dX12_tells_422 ?_
                                                                obtain ⟨h102, hw⟩ := hw
                                                                refine xiald (k := (((17 : Int32) + v1) - (40 : Int32)).toNatClampNeg) hx hb hK hP 1 0 rfl rfl h102 rfl dX12_tells_423 ?_
                                                                refine lv_goto (tgt := 429) hx hb dX12_tells_424 (by decide) ?_
                                                                subst hQe
                                                                exact W.iret (v := c_row (((17 : Int32) + v1) - (40 : Int32)).toNatClampNeg) hx hb hr (fun t ht hW => ⟨⟨(c_row (((17 : Int32) + v1) - (40 : Int32)).toNatClampNeg), (), rfl, hw, by rw [ht]; exact hP, va_K.moved hW.alike hK, hD⟩, hS.F ht⟩) hS.2.2 dX12_tells_429
                                                            · replace hw := hw.2 c99; clear c99
                                                              refine lv_aload_n hx hb dX12_tells_383 rfl (lv_at hl 0 rfl) ?_
                                                              refine va_get (D := (dC, dI)) (ci := 12) (v := .ref h_row) (C := RX12) (T := TX12) (N := 22) hx hb hts inX12 hown hK hP 0 rfl rfl 1 (by decide) (hts _ (List.mem_cons_of_mem _ mw_169)) (fun _ h9 => h9) rfl dX12_tells_384 ?_
                                                              refine lv_bipush (v := 6) hx hb dX12_tells_387 (by decide) ?_
                                                              refine lv_iload_n hx hb dX12_tells_389 rfl (lv_at hl 1 rfl) ?_
                                                              refine lv_iadd hx hb dX12_tells_390 ?_
                                                              refine lv_bipush (v := 20) hx hb dX12_tells_391 (by decide) ?_
                                                              refine lv_isub hx hb dX12_tells_393 ?_
                                                              obtain ⟨h103, hw⟩ := hw
                                                              refine xiald (k := (((6 : Int32) + v1) - (20 : Int32)).toNatClampNeg) hx hb hK hP 1 0 rfl rfl h103 rfl dX12_tells_394 ?_
                                                              refine lv_goto (tgt := 429) hx hb dX12_tells_395 (by decide) ?_
                                                              subst hQe
                                                              exact W.iret (v := c_row (((6 : Int32) + v1) - (20 : Int32)).toNatClampNeg) hx hb hr (fun t ht hW => ⟨⟨(c_row (((6 : Int32) + v1) - (20 : Int32)).toNatClampNeg), (), rfl, hw, by rw [ht]; exact hP, va_K.moved hW.alike hK, hD⟩, hS.F ht⟩) hS.2.2 dX12_tells_429
                                                          · skip
                                                            by_cases c104 : v1 = 29
                                                            · replace hw := hw.2.2.2.2.2.2.2.2.2.2.2.2.2.2.2.2.2.2.2.2.2.2.2.2.2.2.2.2.2.1 c104
                                                              refine lv_tableIn (tgt := 369) hx hb dX12_tells_1 (by rw [c104]; decide) (by rw [c104]; decide) (by rw [c104]; rfl) (by decide) ?_
                                                              refine lv_iload_n hx hb dX12_tells_369 rfl (lv_at hl 1 rfl) ?_
                                                              refine lv_i2l (v := v1.toInt64) hx hb dX12_tells_370 rfl ?_
                                                              refine lv_ldc2 (v := 20) hx hb hown (hts _ (List.mem_cons_of_mem _ mw_1216)) dX12_tells_371 ?_
                                                              refine lv_ldc2 (v := 30) hx hb hown (hts _ (List.mem_cons_of_mem _ mw_1217)) dX12_tells_374 ?_
                                                              have hPc := pSub (ws' := (w_X12_in cy)) hP [] rfl
                                                              have hDc := dSub (ws' := (w_X12_in cy)) hD [] (by decide) rfl
                                                              have hFc := va_free (wc := (w_X12_in cy)) hD hS hA [] rfl
                                                              refine va_calli (va_runS (As := [.long (v1.toInt64), .long (20 : Int64), .long (30 : Int64)]) (rest := []) ⟨hx, hb, hml, hown, hts⟩ (c_X12_in l dC dI cy  H.size (v1.toInt64) (20 : Int64) (30 : Int64) _ hw) (va_cwS 3 hts (goodS mw_207 mw_205 mw_206 mw_5) rfl rfl rfl (by decide +kernel) ⟨Nat.le_of_ble_eq_true rfl, Nat.le_of_ble_eq_true rfl⟩) ⟨PX_blind, PX_pre hPc hK hDc hG⟩ rfl rfl hl.1 rfl (lv_room (Nat.le_of_ble_eq_true rfl)) dX12_tells_377 ⟨Nat.zero_le _, Nat.zero_le _⟩) hS (fun q _ h => hFc q h) hFc ?_; clear hw hS; intro r105 _ t H1 locs1 ht hvm hw hB hz1 hk1 hS
                                                              obtain ⟨hP1, -, -⟩ := hB
                                                              rw [ht] at hP1
                                                              replace hP := jC0 hP hD [] [0, 1] rfl hk1 hP1 (w_X12_tells h0 h_row h_kept h_isKept h_aside h_eight h_rows h_scales h_dealt h_bytes h_heardRow h_made h_comes h_backs h_fresh cy c_thrown c_nodeS c_nodeD c_pairE c_pairO c_bit c_lag c_lagSum c_row) rfl rfl rfl 2 rfl (by decide +kernel); clear hD; obtain ⟨hP, hD⟩ := hP
                                                              replace hP : va_P (dC, dI) vwCl (w_X12_tells h0 h_row h_kept h_isKept h_aside h_eight h_rows h_scales h_dealt h_bytes h_heardRow h_made h_comes h_backs h_fresh cy c_thrown c_nodeS c_nodeD c_pairE c_pairO c_bit c_lag c_lagSum c_row) H1 := hP
                                                              replace hD : va_D A (w_X12_tells h0 h_row h_kept h_isKept h_aside h_eight h_rows h_scales h_dealt h_bytes h_heardRow h_made h_comes h_backs h_fresh cy c_thrown c_nodeS c_nodeD c_pairE c_pairO c_bit c_lag c_lagSum c_row) := hD
                                                              clear hPc hDc hFc hP1 hk1 hz1 hvm ht; clear t; clear H locs; obtain ⟨H, hH⟩ : ∃ H, H = H1 := ⟨_, rfl⟩; obtain ⟨locs, hlo⟩ : ∃ L, L = locs1 := ⟨_, rfl⟩; subst hH; subst hlo
                                                              refine W.widen (k := 0) (n := 0) (Nat.le_refl 0) (Nat.le_refl 0) ?_
                                                              refine lv_if_eq (tgt := 398) hx hb dX12_tells_380 (by decide) (fun c106 => ?_) (fun c106 => ?_)
                                                              · replace hw := hw.1 c106; clear c106
                                                                refine lv_iload_n hx hb dX12_tells_398 rfl (lv_at hl 1 rfl) ?_
                                                                refine lv_i2l (v := v1.toInt64) hx hb dX12_tells_399 rfl ?_
                                                                refine lv_ldc2 (v := 40) hx hb hown (hts _ (List.mem_cons_of_mem _ mw_1218)) dX12_tells_400 ?_
                                                                refine lv_ldc2 (v := 47) hx hb hown (hts _ (List.mem_cons_of_mem _ mw_1219)) dX12_tells_403 ?_
                                                                have hPc := pSub (ws' := (w_X12_in cy)) hP [] rfl
                                                                have hDc := dSub (ws' := (w_X12_in cy)) hD [] (by decide) rfl
                                                                have hFc := va_free (wc := (w_X12_in cy)) hD hS hA [] rfl
                                                                refine va_calli (va_runS (As := [.long (v1.toInt64), .long (40 : Int64), .long (47 : Int64)]) (rest := []) ⟨hx, hb, hml, hown, hts⟩ (c_X12_in l dC dI cy  H.size (v1.toInt64) (40 : Int64) (47 : Int64) _ hw) (va_cwS 3 hts (goodS mw_207 mw_205 mw_206 mw_5) rfl rfl rfl (by decide +kernel) ⟨Nat.le_of_ble_eq_true rfl, Nat.le_of_ble_eq_true rfl⟩) ⟨PX_blind, PX_pre hPc hK hDc hG⟩ rfl rfl hl.1 rfl (lv_room (Nat.le_of_ble_eq_true rfl)) dX12_tells_406 ⟨Nat.zero_le _, Nat.zero_le _⟩) hS (fun q _ h => hFc q h) hFc ?_; clear hw hS; intro r107 _ t H1 locs1 ht hvm hw hB hz1 hk1 hS
                                                                obtain ⟨hP1, -, -⟩ := hB
                                                                rw [ht] at hP1
                                                                replace hP := jC0 hP hD [] [0, 1] rfl hk1 hP1 (w_X12_tells h0 h_row h_kept h_isKept h_aside h_eight h_rows h_scales h_dealt h_bytes h_heardRow h_made h_comes h_backs h_fresh cy c_thrown c_nodeS c_nodeD c_pairE c_pairO c_bit c_lag c_lagSum c_row) rfl rfl rfl 2 rfl (by decide +kernel); clear hD; obtain ⟨hP, hD⟩ := hP
                                                                replace hP : va_P (dC, dI) vwCl (w_X12_tells h0 h_row h_kept h_isKept h_aside h_eight h_rows h_scales h_dealt h_bytes h_heardRow h_made h_comes h_backs h_fresh cy c_thrown c_nodeS c_nodeD c_pairE c_pairO c_bit c_lag c_lagSum c_row) H1 := hP
                                                                replace hD : va_D A (w_X12_tells h0 h_row h_kept h_isKept h_aside h_eight h_rows h_scales h_dealt h_bytes h_heardRow h_made h_comes h_backs h_fresh cy c_thrown c_nodeS c_nodeD c_pairE c_pairO c_bit c_lag c_lagSum c_row) := hD
                                                                clear hPc hDc hFc hP1 hk1 hz1 hvm ht; clear t; clear H locs; obtain ⟨H, hH⟩ : ∃ H, H = H1 := ⟨_, rfl⟩; obtain ⟨locs, hlo⟩ : ∃ L, L = locs1 := ⟨_, rfl⟩; subst hH; subst hlo
                                                                refine W.widen (k := 0) (n := 0) (Nat.le_refl 0) (Nat.le_refl 0) ?_
                                                                refine lv_if_eq (tgt := 427) hx hb dX12_tells_409 (by decide) (fun c108 => ?_) (fun c108 => ?_)
                                                                · replace hw := hw.1 c108; clear c108
                                                                  refine lv_ldc (v := -2147483648) hx hb hown (hts _ (List.mem_cons_of_mem _ mw_908)) dX12_tells_427 ?_
                                                                  subst hQe
                                                                  exact W.iret (v := (-2147483648 : Int32)) hx hb hr (fun t ht hW => ⟨⟨(-2147483648 : Int32), (), rfl, hw, by rw [ht]; exact hP, va_K.moved hW.alike hK, hD⟩, hS.F ht⟩) hS.2.2 dX12_tells_429
                                                                · replace hw := hw.2 c108; clear c108
                                                                  refine lv_aload_n hx hb dX12_tells_412 rfl (lv_at hl 0 rfl) ?_
                                                                  refine va_get (D := (dC, dI)) (ci := 12) (v := .ref h_row) (C := RX12) (T := TX12) (N := 22) hx hb hts inX12 hown hK hP 0 rfl rfl 1 (by decide) (hts _ (List.mem_cons_of_mem _ mw_169)) (fun _ h9 => h9) rfl dX12_tells_413 ?_
                                                                  refine lv_bipush (v := 17) hx hb dX12_tells_416 (by decide) ?_
                                                                  refine lv_iload_n hx hb dX12_tells_418 rfl (lv_at hl 1 rfl) ?_
                                                                  refine lv_iadd hx hb dX12_tells_419 ?_
                                                                  refine lv_bipush (v := 40) hx hb dX12_tells_420 (by decide) ?_
                                                                  refine lv_isub hx hb dX12_tells_422 ?_
                                                                  obtain ⟨h109, hw⟩ := hw
                                                                  refine xiald (k := (((17 : Int32) + v1) - (40 : Int32)).toNatClampNeg) hx hb hK hP 1 0 rfl rfl h109 rfl dX12_tells_423 ?_
                                                                  refine lv_goto (tgt := 429) hx hb dX12_tells_424 (by decide) ?_
                                                                  subst hQe
                                                                  exact W.iret (v := c_row (((17 : Int32) + v1) - (40 : Int32)).toNatClampNeg) hx hb hr (fun t ht hW => ⟨⟨(c_row (((17 : Int32) + v1) - (40 : Int32)).toNatClampNeg), (), rfl, hw, by rw [ht]; exact hP, va_K.moved hW.alike hK, hD⟩, hS.F ht⟩) hS.2.2 dX12_tells_429
                                                              · replace hw := hw.2 c106; clear c106
                                                                refine lv_aload_n hx hb dX12_tells_383 rfl (lv_at hl 0 rfl) ?_
                                                                refine va_get (D := (dC, dI)) (ci := 12) (v := .ref h_row) (C := RX12) (T := TX12) (N := 22) hx hb hts inX12 hown hK hP 0 rfl rfl 1 (by decide) (hts _ (List.mem_cons_of_mem _ mw_169)) (fun _ h9 => h9) rfl dX12_tells_384 ?_
                                                                refine lv_bipush (v := 6) hx hb dX12_tells_387 (by decide) ?_
                                                                refine lv_iload_n hx hb dX12_tells_389 rfl (lv_at hl 1 rfl) ?_
                                                                refine lv_iadd hx hb dX12_tells_390 ?_
                                                                refine lv_bipush (v := 20) hx hb dX12_tells_391 (by decide) ?_
                                                                refine lv_isub hx hb dX12_tells_393 ?_
                                                                obtain ⟨h110, hw⟩ := hw
                                                                refine xiald (k := (((6 : Int32) + v1) - (20 : Int32)).toNatClampNeg) hx hb hK hP 1 0 rfl rfl h110 rfl dX12_tells_394 ?_
                                                                refine lv_goto (tgt := 429) hx hb dX12_tells_395 (by decide) ?_
                                                                subst hQe
                                                                exact W.iret (v := c_row (((6 : Int32) + v1) - (20 : Int32)).toNatClampNeg) hx hb hr (fun t ht hW => ⟨⟨(c_row (((6 : Int32) + v1) - (20 : Int32)).toNatClampNeg), (), rfl, hw, by rw [ht]; exact hP, va_K.moved hW.alike hK, hD⟩, hS.F ht⟩) hS.2.2 dX12_tells_429
                                                            · skip
                                                              by_cases c111 : v1 = 30
                                                              · replace hw := hw.2.2.2.2.2.2.2.2.2.2.2.2.2.2.2.2.2.2.2.2.2.2.2.2.2.2.2.2.2.2.1 c111
                                                                refine lv_tableIn (tgt := 369) hx hb dX12_tells_1 (by rw [c111]; decide) (by rw [c111]; decide) (by rw [c111]; rfl) (by decide) ?_
                                                                refine lv_iload_n hx hb dX12_tells_369 rfl (lv_at hl 1 rfl) ?_
                                                                refine lv_i2l (v := v1.toInt64) hx hb dX12_tells_370 rfl ?_
                                                                refine lv_ldc2 (v := 20) hx hb hown (hts _ (List.mem_cons_of_mem _ mw_1216)) dX12_tells_371 ?_
                                                                refine lv_ldc2 (v := 30) hx hb hown (hts _ (List.mem_cons_of_mem _ mw_1217)) dX12_tells_374 ?_
                                                                have hPc := pSub (ws' := (w_X12_in cy)) hP [] rfl
                                                                have hDc := dSub (ws' := (w_X12_in cy)) hD [] (by decide) rfl
                                                                have hFc := va_free (wc := (w_X12_in cy)) hD hS hA [] rfl
                                                                refine va_calli (va_runS (As := [.long (v1.toInt64), .long (20 : Int64), .long (30 : Int64)]) (rest := []) ⟨hx, hb, hml, hown, hts⟩ (c_X12_in l dC dI cy  H.size (v1.toInt64) (20 : Int64) (30 : Int64) _ hw) (va_cwS 3 hts (goodS mw_207 mw_205 mw_206 mw_5) rfl rfl rfl (by decide +kernel) ⟨Nat.le_of_ble_eq_true rfl, Nat.le_of_ble_eq_true rfl⟩) ⟨PX_blind, PX_pre hPc hK hDc hG⟩ rfl rfl hl.1 rfl (lv_room (Nat.le_of_ble_eq_true rfl)) dX12_tells_377 ⟨Nat.zero_le _, Nat.zero_le _⟩) hS (fun q _ h => hFc q h) hFc ?_; clear hw hS; intro r112 _ t H1 locs1 ht hvm hw hB hz1 hk1 hS
                                                                obtain ⟨hP1, -, -⟩ := hB
                                                                rw [ht] at hP1
                                                                replace hP := jC0 hP hD [] [0, 1] rfl hk1 hP1 (w_X12_tells h0 h_row h_kept h_isKept h_aside h_eight h_rows h_scales h_dealt h_bytes h_heardRow h_made h_comes h_backs h_fresh cy c_thrown c_nodeS c_nodeD c_pairE c_pairO c_bit c_lag c_lagSum c_row) rfl rfl rfl 2 rfl (by decide +kernel); clear hD; obtain ⟨hP, hD⟩ := hP
                                                                replace hP : va_P (dC, dI) vwCl (w_X12_tells h0 h_row h_kept h_isKept h_aside h_eight h_rows h_scales h_dealt h_bytes h_heardRow h_made h_comes h_backs h_fresh cy c_thrown c_nodeS c_nodeD c_pairE c_pairO c_bit c_lag c_lagSum c_row) H1 := hP
                                                                replace hD : va_D A (w_X12_tells h0 h_row h_kept h_isKept h_aside h_eight h_rows h_scales h_dealt h_bytes h_heardRow h_made h_comes h_backs h_fresh cy c_thrown c_nodeS c_nodeD c_pairE c_pairO c_bit c_lag c_lagSum c_row) := hD
                                                                clear hPc hDc hFc hP1 hk1 hz1 hvm ht; clear t; clear H locs; obtain ⟨H, hH⟩ : ∃ H, H = H1 := ⟨_, rfl⟩; obtain ⟨locs, hlo⟩ : ∃ L, L = locs1 := ⟨_, rfl⟩; subst hH; subst hlo
                                                                refine W.widen (k := 0) (n := 0) (Nat.le_refl 0) (Nat.le_refl 0) ?_
                                                                refine lv_if_eq (tgt := 398) hx hb dX12_tells_380 (by decide) (fun c113 => ?_) (fun c113 => ?_)
                                                                · replace hw := hw.1 c113; clear c113
                                                                  refine lv_iload_n hx hb dX12_tells_398 rfl (lv_at hl 1 rfl) ?_
                                                                  refine lv_i2l (v := v1.toInt64) hx hb dX12_tells_399 rfl ?_
                                                                  refine lv_ldc2 (v := 40) hx hb hown (hts _ (List.mem_cons_of_mem _ mw_1218)) dX12_tells_400 ?_
                                                                  refine lv_ldc2 (v := 47) hx hb hown (hts _ (List.mem_cons_of_mem _ mw_1219)) dX12_tells_403 ?_
                                                                  have hPc := pSub (ws' := (w_X12_in cy)) hP [] rfl
                                                                  have hDc := dSub (ws' := (w_X12_in cy)) hD [] (by decide) rfl
                                                                  have hFc := va_free (wc := (w_X12_in cy)) hD hS hA [] rfl
                                                                  refine va_calli (va_runS (As := [.long (v1.toInt64), .long (40 : Int64), .long (47 : Int64)]) (rest := []) ⟨hx, hb, hml, hown, hts⟩ (c_X12_in l dC dI cy  H.size (v1.toInt64) (40 : Int64) (47 : Int64) _ hw) (va_cwS 3 hts (goodS mw_207 mw_205 mw_206 mw_5) rfl rfl rfl (by decide +kernel) ⟨Nat.le_of_ble_eq_true rfl, Nat.le_of_ble_eq_true rfl⟩) ⟨PX_blind, PX_pre hPc hK hDc hG⟩ rfl rfl hl.1 rfl (lv_room (Nat.le_of_ble_eq_true rfl)) dX12_tells_406 ⟨Nat.zero_le _, Nat.zero_le _⟩) hS (fun q _ h => hFc q h) hFc ?_; clear hw hS; intro r114 _ t H1 locs1 ht hvm hw hB hz1 hk1 hS
                                                                  obtain ⟨hP1, -, -⟩ := hB
                                                                  rw [ht] at hP1
                                                                  replace hP := jC0 hP hD [] [0, 1] rfl hk1 hP1 (w_X12_tells h0 h_row h_kept h_isKept h_aside h_eight h_rows h_scales h_dealt h_bytes h_heardRow h_made h_comes h_backs h_fresh cy c_thrown c_nodeS c_nodeD c_pairE c_pairO c_bit c_lag c_lagSum c_row) rfl rfl rfl 2 rfl (by decide +kernel); clear hD; obtain ⟨hP, hD⟩ := hP
                                                                  replace hP : va_P (dC, dI) vwCl (w_X12_tells h0 h_row h_kept h_isKept h_aside h_eight h_rows h_scales h_dealt h_bytes h_heardRow h_made h_comes h_backs h_fresh cy c_thrown c_nodeS c_nodeD c_pairE c_pairO c_bit c_lag c_lagSum c_row) H1 := hP
                                                                  replace hD : va_D A (w_X12_tells h0 h_row h_kept h_isKept h_aside h_eight h_rows h_scales h_dealt h_bytes h_heardRow h_made h_comes h_backs h_fresh cy c_thrown c_nodeS c_nodeD c_pairE c_pairO c_bit c_lag c_lagSum c_row) := hD
                                                                  clear hPc hDc hFc hP1 hk1 hz1 hvm ht; clear t; clear H locs; obtain ⟨H, hH⟩ : ∃ H, H = H1 := ⟨_, rfl⟩; obtain ⟨locs, hlo⟩ : ∃ L, L = locs1 := ⟨_, rfl⟩; subst hH; subst hlo
                                                                  refine W.widen (k := 0) (n := 0) (Nat.le_refl 0) (Nat.le_refl 0) ?_
                                                                  refine lv_if_eq (tgt := 427) hx hb dX12_tells_409 (by decide) (fun c115 => ?_) (fun c115 => ?_)
                                                                  · replace hw := hw.1 c115; clear c115
                                                                    refine lv_ldc (v := -2147483648) hx hb hown (hts _ (List.mem_cons_of_mem _ mw_908)) dX12_tells_427 ?_
                                                                    subst hQe
                                                                    exact W.iret (v := (-2147483648 : Int32)) hx hb hr (fun t ht hW => ⟨⟨(-2147483648 : Int32), (), rfl, hw, by rw [ht]; exact hP, va_K.moved hW.alike hK, hD⟩, hS.F ht⟩) hS.2.2 dX12_tells_429
                                                                  · replace hw := hw.2 c115; clear c115
                                                                    refine lv_aload_n hx hb dX12_tells_412 rfl (lv_at hl 0 rfl) ?_
                                                                    refine va_get (D := (dC, dI)) (ci := 12) (v := .ref h_row) (C := RX12) (T := TX12) (N := 22) hx hb hts inX12 hown hK hP 0 rfl rfl 1 (by decide) (hts _ (List.mem_cons_of_mem _ mw_169)) (fun _ h9 => h9) rfl dX12_tells_413 ?_
                                                                    refine lv_bipush (v := 17) hx hb dX12_tells_416 (by decide) ?_
                                                                    refine lv_iload_n hx hb dX12_tells_418 rfl (lv_at hl 1 rfl) ?_
                                                                    refine lv_iadd hx hb dX12_tells_419 ?_
                                                                    refine lv_bipush (v := 40) hx hb dX12_tells_420 (by decide) ?_
                                                                    refine lv_isub hx hb dX12_tells_422 ?_
                                                                    obtain ⟨h116, hw⟩ := hw
                                                                    refine xiald (k := (((17 : Int32) + v1) - (40 : Int32)).toNatClampNeg) hx hb hK hP 1 0 rfl rfl h116 rfl dX12_tells_423 ?_
                                                                    refine lv_goto (tgt := 429) hx hb dX12_tells_424 (by decide) ?_
                                                                    subst hQe
                                                                    exact W.iret (v := c_row (((17 : Int32) + v1) - (40 : Int32)).toNatClampNeg) hx hb hr (fun t ht hW => ⟨⟨(c_row (((17 : Int32) + v1) - (40 : Int32)).toNatClampNeg), (), rfl, hw, by rw [ht]; exact hP, va_K.moved hW.alike hK, hD⟩, hS.F ht⟩) hS.2.2 dX12_tells_429
                                                                · replace hw := hw.2 c113; clear c113
                                                                  refine lv_aload_n hx hb dX12_tells_383 rfl (lv_at hl 0 rfl) ?_
                                                                  refine va_get (D := (dC, dI)) (ci := 12) (v := .ref h_row) (C := RX12) (T := TX12) (N := 22) hx hb hts inX12 hown hK hP 0 rfl rfl 1 (by decide) (hts _ (List.mem_cons_of_mem _ mw_169)) (fun _ h9 => h9) rfl dX12_tells_384 ?_
                                                                  refine lv_bipush (v := 6) hx hb dX12_tells_387 (by decide) ?_
                                                                  refine lv_iload_n hx hb dX12_tells_389 rfl (lv_at hl 1 rfl) ?_
                                                                  refine lv_iadd hx hb dX12_tells_390 ?_
                                                                  refine lv_bipush (v := 20) hx hb dX12_tells_391 (by decide) ?_
                                                                  refine lv_isub hx hb dX12_tells_393 ?_
                                                                  obtain ⟨h117, hw⟩ := hw
                                                                  refine xiald (k := (((6 : Int32) + v1) - (20 : Int32)).toNatClampNeg) hx hb hK hP 1 0 rfl rfl h117 rfl dX12_tells_394 ?_
                                                                  refine lv_goto (tgt := 429) hx hb dX12_tells_395 (by decide) ?_
                                                                  subst hQe
                                                                  exact W.iret (v := c_row (((6 : Int32) + v1) - (20 : Int32)).toNatClampNeg) hx hb hr (fun t ht hW => ⟨⟨(c_row (((6 : Int32) + v1) - (20 : Int32)).toNatClampNeg), (), rfl, hw, by rw [ht]; exact hP, va_K.moved hW.alike hK, hD⟩, hS.F ht⟩) hS.2.2 dX12_tells_429
                                                              · skip
                                                                by_cases c118 : v1 = 31
                                                                · replace hw := hw.2.2.2.2.2.2.2.2.2.2.2.2.2.2.2.2.2.2.2.2.2.2.2.2.2.2.2.2.2.2.2.1 c118
                                                                  refine lv_tableIn (tgt := 321) hx hb dX12_tells_1 (by rw [c118]; decide) (by rw [c118]; decide) (by rw [c118]; rfl) (by decide) ?_
                                                                  refine lv_aload_n hx hb dX12_tells_321 rfl (lv_at hl 0 rfl) ?_
                                                                  refine va_get (D := (dC, dI)) (ci := 12) (v := .ref h_row) (C := RX12) (T := TX12) (N := 22) hx hb hts inX12 hown hK hP 0 rfl rfl 1 (by decide) (hts _ (List.mem_cons_of_mem _ mw_169)) (fun _ h9 => h9) rfl dX12_tells_322 ?_
                                                                  refine lv_bipush (v := 43) hx hb dX12_tells_325 (by decide) ?_
                                                                  refine xiald (k := 43) hx hb hK hP 1 0 rfl rfl (vpL 43 13385 rfl) (by decide) dX12_tells_327 ?_
                                                                  subst hQe
                                                                  exact W.iret (v := c_row 43) hx hb hr (fun t ht hW => ⟨⟨(c_row 43), (), rfl, hw, by rw [ht]; exact hP, va_K.moved hW.alike hK, hD⟩, hS.F ht⟩) hS.2.2 dX12_tells_328
                                                                · skip
                                                                  by_cases c120 : v1 = 32
                                                                  · replace hw := hw.2.2.2.2.2.2.2.2.2.2.2.2.2.2.2.2.2.2.2.2.2.2.2.2.2.2.2.2.2.2.2.2.1 c120
                                                                    refine lv_tableIn (tgt := 329) hx hb dX12_tells_1 (by rw [c120]; decide) (by rw [c120]; decide) (by rw [c120]; rfl) (by decide) ?_
                                                                    refine lv_aload_n hx hb dX12_tells_329 rfl (lv_at hl 0 rfl) ?_
                                                                    refine va_get (D := (dC, dI)) (ci := 12) (v := .ref h_row) (C := RX12) (T := TX12) (N := 22) hx hb hts inX12 hown hK hP 0 rfl rfl 1 (by decide) (hts _ (List.mem_cons_of_mem _ mw_169)) (fun _ h9 => h9) rfl dX12_tells_330 ?_
                                                                    refine lv_bipush (v := 44) hx hb dX12_tells_333 (by decide) ?_
                                                                    refine xiald (k := 44) hx hb hK hP 1 0 rfl rfl (vpL 44 13385 rfl) (by decide) dX12_tells_335 ?_
                                                                    subst hQe
                                                                    exact W.iret (v := c_row 44) hx hb hr (fun t ht hW => ⟨⟨(c_row 44), (), rfl, hw, by rw [ht]; exact hP, va_K.moved hW.alike hK, hD⟩, hS.F ht⟩) hS.2.2 dX12_tells_336
                                                                  · skip
                                                                    by_cases c122 : v1 = 33
                                                                    · replace hw := hw.2.2.2.2.2.2.2.2.2.2.2.2.2.2.2.2.2.2.2.2.2.2.2.2.2.2.2.2.2.2.2.2.2.1 c122
                                                                      refine lv_tableIn (tgt := 337) hx hb dX12_tells_1 (by rw [c122]; decide) (by rw [c122]; decide) (by rw [c122]; rfl) (by decide) ?_
                                                                      refine lv_aload_n hx hb dX12_tells_337 rfl (lv_at hl 0 rfl) ?_
                                                                      refine va_get (D := (dC, dI)) (ci := 12) (v := .ref h_row) (C := RX12) (T := TX12) (N := 22) hx hb hts inX12 hown hK hP 0 rfl rfl 1 (by decide) (hts _ (List.mem_cons_of_mem _ mw_169)) (fun _ h9 => h9) rfl dX12_tells_338 ?_
                                                                      refine lv_bipush (v := 45) hx hb dX12_tells_341 (by decide) ?_
                                                                      refine xiald (k := 45) hx hb hK hP 1 0 rfl rfl (vpL 45 13385 rfl) (by decide) dX12_tells_343 ?_
                                                                      subst hQe
                                                                      exact W.iret (v := c_row 45) hx hb hr (fun t ht hW => ⟨⟨(c_row 45), (), rfl, hw, by rw [ht]; exact hP, va_K.moved hW.alike hK, hD⟩, hS.F ht⟩) hS.2.2 dX12_tells_344
                                                                    · skip
                                                                      by_cases c124 : v1 = 34
                                                                      · replace hw := hw.2.2.2.2.2.2.2.2.2.2.2.2.2.2.2.2.2.2.2.2.2.2.2.2.2.2.2.2.2.2.2.2.2.2.1 c124
                                                                        refine lv_tableIn (tgt := 345) hx hb dX12_tells_1 (by rw [c124]; decide) (by rw [c124]; decide) (by rw [c124]; rfl) (by decide) ?_
                                                                        refine lv_aload_n hx hb dX12_tells_345 rfl (lv_at hl 0 rfl) ?_
                                                                        refine va_get (D := (dC, dI)) (ci := 12) (v := .ref h_row) (C := RX12) (T := TX12) (N := 22) hx hb hts inX12 hown hK hP 0 rfl rfl 1 (by decide) (hts _ (List.mem_cons_of_mem _ mw_169)) (fun _ h9 => h9) rfl dX12_tells_346 ?_
                                                                        refine lv_bipush (v := 46) hx hb dX12_tells_349 (by decide) ?_
                                                                        refine xiald (k := 46) hx hb hK hP 1 0 rfl rfl (vpL 46 13385 rfl) (by decide) dX12_tells_351 ?_
                                                                        subst hQe
                                                                        exact W.iret (v := c_row 46) hx hb hr (fun t ht hW => ⟨⟨(c_row 46), (), rfl, hw, by rw [ht]; exact hP, va_K.moved hW.alike hK, hD⟩, hS.F ht⟩) hS.2.2 dX12_tells_352
                                                                      · skip
                                                                        by_cases c126 : v1 = 35
                                                                        · replace hw := hw.2.2.2.2.2.2.2.2.2.2.2.2.2.2.2.2.2.2.2.2.2.2.2.2.2.2.2.2.2.2.2.2.2.2.2.1 c126
                                                                          refine lv_tableIn (tgt := 353) hx hb dX12_tells_1 (by rw [c126]; decide) (by rw [c126]; decide) (by rw [c126]; rfl) (by decide) ?_
                                                                          refine lv_aload_n hx hb dX12_tells_353 rfl (lv_at hl 0 rfl) ?_
                                                                          refine va_get (D := (dC, dI)) (ci := 12) (v := .ref h_row) (C := RX12) (T := TX12) (N := 22) hx hb hts inX12 hown hK hP 0 rfl rfl 1 (by decide) (hts _ (List.mem_cons_of_mem _ mw_169)) (fun _ h9 => h9) rfl dX12_tells_354 ?_
                                                                          refine lv_bipush (v := 47) hx hb dX12_tells_357 (by decide) ?_
                                                                          refine xiald (k := 47) hx hb hK hP 1 0 rfl rfl (vpL 47 13385 rfl) (by decide) dX12_tells_359 ?_
                                                                          subst hQe
                                                                          exact W.iret (v := c_row 47) hx hb hr (fun t ht hW => ⟨⟨(c_row 47), (), rfl, hw, by rw [ht]; exact hP, va_K.moved hW.alike hK, hD⟩, hS.F ht⟩) hS.2.2 dX12_tells_360
                                                                        · skip
                                                                          by_cases c128 : v1 = 36
                                                                          · replace hw := hw.2.2.2.2.2.2.2.2.2.2.2.2.2.2.2.2.2.2.2.2.2.2.2.2.2.2.2.2.2.2.2.2.2.2.2.2.1 c128
                                                                            refine lv_tableIn (tgt := 361) hx hb dX12_tells_1 (by rw [c128]; decide) (by rw [c128]; decide) (by rw [c128]; rfl) (by decide) ?_
                                                                            refine lv_aload_n hx hb dX12_tells_361 rfl (lv_at hl 0 rfl) ?_
                                                                            refine va_get (D := (dC, dI)) (ci := 12) (v := .ref h_row) (C := RX12) (T := TX12) (N := 22) hx hb hts inX12 hown hK hP 0 rfl rfl 1 (by decide) (hts _ (List.mem_cons_of_mem _ mw_169)) (fun _ h9 => h9) rfl dX12_tells_362 ?_
                                                                            refine lv_bipush (v := 48) hx hb dX12_tells_365 (by decide) ?_
                                                                            refine xiald (k := 48) hx hb hK hP 1 0 rfl rfl (vpL 48 13385 rfl) (by decide) dX12_tells_367 ?_
                                                                            subst hQe
                                                                            exact W.iret (v := c_row 48) hx hb hr (fun t ht hW => ⟨⟨(c_row 48), (), rfl, hw, by rw [ht]; exact hP, va_K.moved hW.alike hK, hD⟩, hS.F ht⟩) hS.2.2 dX12_tells_368
                                                                          · skip
                                                                            replace hw := hw.2.2.2.2.2.2.2.2.2.2.2.2.2.2.2.2.2.2.2.2.2.2.2.2.2.2.2.2.2.2.2.2.2.2.2.2.2 c1 c3 c5 c7 c9 c11 c13 c15 c17 c19 c21 c23 c25 c27 c29 c31 c33 c35 c37 c39 c41 c48 c55 c62 c69 c76 c83 c90 c97 c104 c111 c118 c120 c122 c124 c126 c128
                                                                            refine lv_tableOut (tgt := 369) hx hb dX12_tells_1 (by have e0 := sw_ne (n := 0) c1 (by decide); have e1 := sw_ne (n := 1) c3 (by decide); have e2 := sw_ne (n := 2) c5 (by decide); have e3 := sw_ne (n := 3) c7 (by decide); have e4 := sw_ne (n := 4) c9 (by decide); have e5 := sw_ne (n := 5) c11 (by decide); have e6 := sw_ne (n := 6) c13 (by decide); have e7 := sw_ne (n := 7) c15 (by decide); have e8 := sw_ne (n := 8) c17 (by decide); have e9 := sw_ne (n := 9) c19 (by decide); have e10 := sw_ne (n := 10) c21 (by decide); have e11 := sw_ne (n := 11) c23 (by decide); have e12 := sw_ne (n := 12) c25 (by decide); have e13 := sw_ne (n := 13) c27 (by decide); have e14 := sw_ne (n := 14) c29 (by decide); have e15 := sw_ne (n := 15) c31 (by decide); have e16 := sw_ne (n := 16) c33 (by decide); have e17 := sw_ne (n := 17) c35 (by decide); have e18 := sw_ne (n := 18) c37 (by decide); have e19 := sw_ne (n := 19) c39 (by decide); have e20 := sw_ne (n := 20) c41 (by decide); have e21 := sw_ne (n := 21) c48 (by decide); have e22 := sw_ne (n := 22) c55 (by decide); have e23 := sw_ne (n := 23) c62 (by decide); have e24 := sw_ne (n := 24) c69 (by decide); have e25 := sw_ne (n := 25) c76 (by decide); have e26 := sw_ne (n := 26) c83 (by decide); have e27 := sw_ne (n := 27) c90 (by decide); have e28 := sw_ne (n := 28) c97 (by decide); have e29 := sw_ne (n := 29) c104 (by decide); have e30 := sw_ne (n := 30) c111 (by decide); have e31 := sw_ne (n := 31) c118 (by decide); have e32 := sw_ne (n := 32) c120 (by decide); have e33 := sw_ne (n := 33) c122 (by decide); have e34 := sw_ne (n := 34) c124 (by decide); have e35 := sw_ne (n := 35) c126 (by decide); have e36 := sw_ne (n := 36) c128 (by decide); omega) (by decide) ?_
                                                                            refine lv_iload_n hx hb dX12_tells_369 rfl (lv_at hl 1 rfl) ?_
                                                                            refine lv_i2l (v := v1.toInt64) hx hb dX12_tells_370 rfl ?_
                                                                            refine lv_ldc2 (v := 20) hx hb hown (hts _ (List.mem_cons_of_mem _ mw_1216)) dX12_tells_371 ?_
                                                                            refine lv_ldc2 (v := 30) hx hb hown (hts _ (List.mem_cons_of_mem _ mw_1217)) dX12_tells_374 ?_
                                                                            have hPc := pSub (ws' := (w_X12_in cy)) hP [] rfl
                                                                            have hDc := dSub (ws' := (w_X12_in cy)) hD [] (by decide) rfl
                                                                            have hFc := va_free (wc := (w_X12_in cy)) hD hS hA [] rfl
                                                                            refine va_calli (va_runS (As := [.long (v1.toInt64), .long (20 : Int64), .long (30 : Int64)]) (rest := []) ⟨hx, hb, hml, hown, hts⟩ (c_X12_in l dC dI cy  H.size (v1.toInt64) (20 : Int64) (30 : Int64) _ hw) (va_cwS 3 hts (goodS mw_207 mw_205 mw_206 mw_5) rfl rfl rfl (by decide +kernel) ⟨Nat.le_of_ble_eq_true rfl, Nat.le_of_ble_eq_true rfl⟩) ⟨PX_blind, PX_pre hPc hK hDc hG⟩ rfl rfl hl.1 rfl (lv_room (Nat.le_of_ble_eq_true rfl)) dX12_tells_377 ⟨Nat.zero_le _, Nat.zero_le _⟩) hS (fun q _ h => hFc q h) hFc ?_; clear hw hS; intro r130 _ t H1 locs1 ht hvm hw hB hz1 hk1 hS
                                                                            obtain ⟨hP1, -, -⟩ := hB
                                                                            rw [ht] at hP1
                                                                            replace hP := jC0 hP hD [] [0, 1] rfl hk1 hP1 (w_X12_tells h0 h_row h_kept h_isKept h_aside h_eight h_rows h_scales h_dealt h_bytes h_heardRow h_made h_comes h_backs h_fresh cy c_thrown c_nodeS c_nodeD c_pairE c_pairO c_bit c_lag c_lagSum c_row) rfl rfl rfl 2 rfl (by decide +kernel); clear hD; obtain ⟨hP, hD⟩ := hP
                                                                            replace hP : va_P (dC, dI) vwCl (w_X12_tells h0 h_row h_kept h_isKept h_aside h_eight h_rows h_scales h_dealt h_bytes h_heardRow h_made h_comes h_backs h_fresh cy c_thrown c_nodeS c_nodeD c_pairE c_pairO c_bit c_lag c_lagSum c_row) H1 := hP
                                                                            replace hD : va_D A (w_X12_tells h0 h_row h_kept h_isKept h_aside h_eight h_rows h_scales h_dealt h_bytes h_heardRow h_made h_comes h_backs h_fresh cy c_thrown c_nodeS c_nodeD c_pairE c_pairO c_bit c_lag c_lagSum c_row) := hD
                                                                            clear hPc hDc hFc hP1 hk1 hz1 hvm ht; clear t; clear H locs; obtain ⟨H, hH⟩ : ∃ H, H = H1 := ⟨_, rfl⟩; obtain ⟨locs, hlo⟩ : ∃ L, L = locs1 := ⟨_, rfl⟩; subst hH; subst hlo
                                                                            refine W.widen (k := 0) (n := 0) (Nat.le_refl 0) (Nat.le_refl 0) ?_
                                                                            refine lv_if_eq (tgt := 398) hx hb dX12_tells_380 (by decide) (fun c131 => ?_) (fun c131 => ?_)
                                                                            · replace hw := hw.1 c131; clear c131
                                                                              refine lv_iload_n hx hb dX12_tells_398 rfl (lv_at hl 1 rfl) ?_
                                                                              refine lv_i2l (v := v1.toInt64) hx hb dX12_tells_399 rfl ?_
                                                                              refine lv_ldc2 (v := 40) hx hb hown (hts _ (List.mem_cons_of_mem _ mw_1218)) dX12_tells_400 ?_
                                                                              refine lv_ldc2 (v := 47) hx hb hown (hts _ (List.mem_cons_of_mem _ mw_1219)) dX12_tells_403 ?_
                                                                              have hPc := pSub (ws' := (w_X12_in cy)) hP [] rfl
                                                                              have hDc := dSub (ws' := (w_X12_in cy)) hD [] (by decide) rfl
                                                                              have hFc := va_free (wc := (w_X12_in cy)) hD hS hA [] rfl
                                                                              refine va_calli (va_runS (As := [.long (v1.toInt64), .long (40 : Int64), .long (47 : Int64)]) (rest := []) ⟨hx, hb, hml, hown, hts⟩ (c_X12_in l dC dI cy  H.size (v1.toInt64) (40 : Int64) (47 : Int64) _ hw) (va_cwS 3 hts (goodS mw_207 mw_205 mw_206 mw_5) rfl rfl rfl (by decide +kernel) ⟨Nat.le_of_ble_eq_true rfl, Nat.le_of_ble_eq_true rfl⟩) ⟨PX_blind, PX_pre hPc hK hDc hG⟩ rfl rfl hl.1 rfl (lv_room (Nat.le_of_ble_eq_true rfl)) dX12_tells_406 ⟨Nat.zero_le _, Nat.zero_le _⟩) hS (fun q _ h => hFc q h) hFc ?_; clear hw hS; intro r132 _ t H1 locs1 ht hvm hw hB hz1 hk1 hS
                                                                              obtain ⟨hP1, -, -⟩ := hB
                                                                              rw [ht] at hP1
                                                                              replace hP := jC0 hP hD [] [0, 1] rfl hk1 hP1 (w_X12_tells h0 h_row h_kept h_isKept h_aside h_eight h_rows h_scales h_dealt h_bytes h_heardRow h_made h_comes h_backs h_fresh cy c_thrown c_nodeS c_nodeD c_pairE c_pairO c_bit c_lag c_lagSum c_row) rfl rfl rfl 2 rfl (by decide +kernel); clear hD; obtain ⟨hP, hD⟩ := hP
                                                                              replace hP : va_P (dC, dI) vwCl (w_X12_tells h0 h_row h_kept h_isKept h_aside h_eight h_rows h_scales h_dealt h_bytes h_heardRow h_made h_comes h_backs h_fresh cy c_thrown c_nodeS c_nodeD c_pairE c_pairO c_bit c_lag c_lagSum c_row) H1 := hP
                                                                              replace hD : va_D A (w_X12_tells h0 h_row h_kept h_isKept h_aside h_eight h_rows h_scales h_dealt h_bytes h_heardRow h_made h_comes h_backs h_fresh cy c_thrown c_nodeS c_nodeD c_pairE c_pairO c_bit c_lag c_lagSum c_row) := hD
                                                                              clear hPc hDc hFc hP1 hk1 hz1 hvm ht; clear t; clear H locs; obtain ⟨H, hH⟩ : ∃ H, H = H1 := ⟨_, rfl⟩; obtain ⟨locs, hlo⟩ : ∃ L, L = locs1 := ⟨_, rfl⟩; subst hH; subst hlo
                                                                              refine W.widen (k := 0) (n := 0) (Nat.le_refl 0) (Nat.le_refl 0) ?_
                                                                              refine lv_if_eq (tgt := 427) hx hb dX12_tells_409 (by decide) (fun c133 => ?_) (fun c133 => ?_)
                                                                              · replace hw := hw.1 c133; clear c133
                                                                                refine lv_ldc (v := -2147483648) hx hb hown (hts _ (List.mem_cons_of_mem _ mw_908)) dX12_tells_427 ?_
                                                                                subst hQe
                                                                                exact W.iret (v := (-2147483648 : Int32)) hx hb hr (fun t ht hW => ⟨⟨(-2147483648 : Int32), (), rfl, hw, by rw [ht]; exact hP, va_K.moved hW.alike hK, hD⟩, hS.F ht⟩) hS.2.2 dX12_tells_429
                                                                              · replace hw := hw.2 c133; clear c133
                                                                                refine lv_aload_n hx hb dX12_tells_412 rfl (lv_at hl 0 rfl) ?_
                                                                                refine va_get (D := (dC, dI)) (ci := 12) (v := .ref h_row) (C := RX12) (T := TX12) (N := 22) hx hb hts inX12 hown hK hP 0 rfl rfl 1 (by decide) (hts _ (List.mem_cons_of_mem _ mw_169)) (fun _ h9 => h9) rfl dX12_tells_413 ?_
                                                                                refine lv_bipush (v := 17) hx hb dX12_tells_416 (by decide) ?_
                                                                                refine lv_iload_n hx hb dX12_tells_418 rfl (lv_at hl 1 rfl) ?_
                                                                                refine lv_iadd hx hb dX12_tells_419 ?_
                                                                                refine lv_bipush (v := 40) hx hb dX12_tells_420 (by decide) ?_
                                                                                refine lv_isub hx hb dX12_tells_422 ?_
                                                                                obtain ⟨h134, hw⟩ := hw
                                                                                refine xiald (k := (((17 : Int32) + v1) - (40 : Int32)).toNatClampNeg) hx hb hK hP 1 0 rfl rfl h134 rfl dX12_tells_423 ?_
                                                                                refine lv_goto (tgt := 429) hx hb dX12_tells_424 (by decide) ?_
                                                                                subst hQe
                                                                                exact W.iret (v := c_row (((17 : Int32) + v1) - (40 : Int32)).toNatClampNeg) hx hb hr (fun t ht hW => ⟨⟨(c_row (((17 : Int32) + v1) - (40 : Int32)).toNatClampNeg), (), rfl, hw, by rw [ht]; exact hP, va_K.moved hW.alike hK, hD⟩, hS.F ht⟩) hS.2.2 dX12_tells_429
                                                                            · replace hw := hw.2 c131; clear c131
                                                                              refine lv_aload_n hx hb dX12_tells_383 rfl (lv_at hl 0 rfl) ?_
                                                                              refine va_get (D := (dC, dI)) (ci := 12) (v := .ref h_row) (C := RX12) (T := TX12) (N := 22) hx hb hts inX12 hown hK hP 0 rfl rfl 1 (by decide) (hts _ (List.mem_cons_of_mem _ mw_169)) (fun _ h9 => h9) rfl dX12_tells_384 ?_
                                                                              refine lv_bipush (v := 6) hx hb dX12_tells_387 (by decide) ?_
                                                                              refine lv_iload_n hx hb dX12_tells_389 rfl (lv_at hl 1 rfl) ?_
                                                                              refine lv_iadd hx hb dX12_tells_390 ?_
                                                                              refine lv_bipush (v := 20) hx hb dX12_tells_391 (by decide) ?_
                                                                              refine lv_isub hx hb dX12_tells_393 ?_
                                                                              obtain ⟨h135, hw⟩ := hw
                                                                              refine xiald (k := (((6 : Int32) + v1) - (20 : Int32)).toNatClampNeg) hx hb hK hP 1 0 rfl rfl h135 rfl dX12_tells_394 ?_
                                                                              refine lv_goto (tgt := 429) hx hb dX12_tells_395 (by decide) ?_
                                                                              subst hQe
                                                                              exact W.iret (v := c_row (((6 : Int32) + v1) - (20 : Int32)).toNatClampNeg) hx hb hr (fun t ht hW => ⟨⟨(c_row (((6 : Int32) + v1) - (20 : Int32)).toNatClampNeg), (), rfl, hw, by rw [ht]; exact hP, va_K.moved hW.alike hK, hD⟩, hS.F ht⟩) hS.2.2 dX12_tells_429
set_option maxHeartbeats 4000000 in
set_option maxRecDepth 100000 in
theorem c_X12_would (l : Launch) (dC : Nat → ClassId) (dI : Nat → Nat → Nat) (cy : Nat → ClassId) (h0 h_row h_kept h_isKept h_aside h_eight h_rows h_scales h_dealt h_bytes h_heardRow h_made h_comes h_backs h_fresh : Nat) (sz : Nat) (v1 : Int32) (v2 : Int32) (c_thrown : Int32) (c_nodeS : Int32) (c_nodeD : Int32) (c_pairE : Int32) (c_pairO : Int32) (c_bit : Int32) (c_lag : Int32) (c_lagSum : Int32) (c_row : Nat → Int32) (c_aside : Nat → Int32) (c_eight : Nat → Int32) (c_rows : Nat → Int32) (c_bytes : Nat → Int32) (c_scales : Nat → Int32) (c_dealt : Nat → Int32) (c_heardRow : Nat → Int32) (c_made : Nat → Int32) (c_backs : Nat → Int32) (c_comes : Nat → Int32) (post : Int32 → Int32 → Int32 → Int32 → Int32 → Int32 → Int32 → Int32 → Int32 → (Nat → Int32) → (Nat → Int32) → (Nat → Int32) → (Nat → Int32) → (Nat → Int32) → (Nat → Int32) → (Nat → Int32) → (Nat → Int32) → (Nat → Int32) → (Nat → Int32) → (Nat → Int32) → Prop) (hw : wp_X12_would v1 v2 c_thrown c_nodeS c_nodeD c_pairE c_pairO c_bit c_lag c_lagSum c_row c_aside c_eight c_rows c_bytes c_scales c_dealt c_heardRow c_made c_backs c_comes post) : Met l yX12_would wsX12_would ({ frames := 6, cells := 0, slots := 0, locals := 148 }) (PX dC dI cy [.ref h0, .int v1, .int v2] sz (w_X12_would h0 h_row h_kept h_isKept h_aside h_eight h_rows h_scales h_dealt h_bytes h_heardRow h_made h_comes h_backs h_fresh cy c_thrown c_nodeS c_nodeD c_pairE c_pairO c_bit c_lag c_lagSum c_row c_aside c_eight c_rows c_bytes c_scales c_dealt c_heardRow c_made c_backs c_comes)) (va_Qi (fun (r : Int32) (u : Int32 × Int32 × Int32 × Int32 × Int32 × Int32 × Int32 × Int32 × (Nat → Int32) × (Nat → Int32) × (Nat → Int32) × (Nat → Int32) × (Nat → Int32) × (Nat → Int32) × (Nat → Int32) × (Nat → Int32) × (Nat → Int32) × (Nat → Int32) × (Nat → Int32)) => post r u.1 u.2.1 u.2.2.1 u.2.2.2.1 u.2.2.2.2.1 u.2.2.2.2.2.1 u.2.2.2.2.2.2.1 u.2.2.2.2.2.2.2.1 u.2.2.2.2.2.2.2.2.1 u.2.2.2.2.2.2.2.2.2.1 u.2.2.2.2.2.2.2.2.2.2.1 u.2.2.2.2.2.2.2.2.2.2.2.1 u.2.2.2.2.2.2.2.2.2.2.2.2.1 u.2.2.2.2.2.2.2.2.2.2.2.2.2.1 u.2.2.2.2.2.2.2.2.2.2.2.2.2.2.1 u.2.2.2.2.2.2.2.2.2.2.2.2.2.2.2.1 u.2.2.2.2.2.2.2.2.2.2.2.2.2.2.2.2.1 u.2.2.2.2.2.2.2.2.2.2.2.2.2.2.2.2.2.1 u.2.2.2.2.2.2.2.2.2.2.2.2.2.2.2.2.2.2) (QX dC dI cy (va_A (w_X12_would h0 h_row h_kept h_isKept h_aside h_eight h_rows h_scales h_dealt h_bytes h_heardRow h_made h_comes h_backs h_fresh cy c_thrown c_nodeS c_nodeD c_pairE c_pairO c_bit c_lag c_lagSum c_row c_aside c_eight c_rows c_bytes c_scales c_dealt c_heardRow c_made c_backs c_comes) sz) (fun (u : Int32 × Int32 × Int32 × Int32 × Int32 × Int32 × Int32 × Int32 × (Nat → Int32) × (Nat → Int32) × (Nat → Int32) × (Nat → Int32) × (Nat → Int32) × (Nat → Int32) × (Nat → Int32) × (Nat → Int32) × (Nat → Int32) × (Nat → Int32) × (Nat → Int32)) => w_X12_would h0 h_row h_kept h_isKept h_aside h_eight h_rows h_scales h_dealt h_bytes h_heardRow h_made h_comes h_backs h_fresh cy u.1 u.2.1 u.2.2.1 u.2.2.2.1 u.2.2.2.2.1 u.2.2.2.2.2.1 u.2.2.2.2.2.2.1 u.2.2.2.2.2.2.2.1 u.2.2.2.2.2.2.2.2.1 u.2.2.2.2.2.2.2.2.2.1 u.2.2.2.2.2.2.2.2.2.2.1 u.2.2.2.2.2.2.2.2.2.2.2.1 u.2.2.2.2.2.2.2.2.2.2.2.2.1 u.2.2.2.2.2.2.2.2.2.2.2.2.2.1 u.2.2.2.2.2.2.2.2.2.2.2.2.2.2.1 u.2.2.2.2.2.2.2.2.2.2.2.2.2.2.2.1 u.2.2.2.2.2.2.2.2.2.2.2.2.2.2.2.2.1 u.2.2.2.2.2.2.2.2.2.2.2.2.2.2.2.2.2.1 u.2.2.2.2.2.2.2.2.2.2.2.2.2.2.2.2.2.2)) (va_A (w_X12_would h0 h_row h_kept h_isKept h_aside h_eight h_rows h_scales h_dealt h_bytes h_heardRow h_made h_comes h_backs h_fresh cy c_thrown c_nodeS c_nodeD c_pairE c_pairO c_bit c_lag c_lagSum c_row c_aside c_eight c_rows c_bytes c_scales c_dealt c_heardRow c_made c_backs c_comes) sz)) 0 0 (va_A (w_X12_would h0 h_row h_kept h_isKept h_aside h_eight h_rows h_scales h_dealt h_bytes h_heardRow h_made h_comes h_backs h_fresh cy c_thrown c_nodeS c_nodeD c_pairE c_pairO c_bit c_lag c_lagSum c_row c_aside c_eight c_rows c_bytes c_scales c_dealt c_heardRow c_made c_backs c_comes) sz) := by
  refine Met.ofW (cc := cX12_would) (maxL := 4) (ret := (some .int)) (by decide) rfl ?_
  intro p e s m args below meth c s₁ B hml hv
  obtain ⟨rfl, hsz, hP, hK, hD0, hG⟩ := hv
  have hx := B.exec
  have hb := B.bytes
  have hr := B.returns
  have hts := atoms_spec (ws := wsX12_would) B.pre
  have hown : s.vm.findClass RX12 = some m.cls := findClass_of_methodNamed B.named
  have hlocks := B.notSynchronized
  subst hsz
  have hD := hD0.self (sz := s.heap.size)
  generalize hAe : va_A (w_X12_would h0 h_row h_kept h_isKept h_aside h_eight h_rows h_scales h_dealt h_bytes h_heardRow h_made h_comes h_backs h_fresh cy c_thrown c_nodeS c_nodeD c_pairE c_pairO c_bit c_lag c_lagSum c_row c_aside c_eight c_rows c_bytes c_scales c_dealt c_heardRow c_made c_backs c_comes) s.heap.size = A at hD ⊢
  have hA : ∀ q : Nat, s.heap.size ≤ q → A q := fun q h => by rw [← hAe]; exact Or.inr h
  have hS : va_S A s.heap s.heap [] := va_S.rf
  have hl := lv_entry ([.ref h0, .int v1, .int v2]) (n := 4) (Nat.le_of_ble_eq_true rfl)
  rw [lg_entry_eq]
  generalize (lg_sl ([.ref h0, .int v1, .int v2]) ++ List.replicate (4 - (lg_sl ([.ref h0, .int v1, .int v2])).length) Slot.unset).toArray = ls at hl ⊢
  replace hl : lv_has ls 4 [(0, .ref h0), (1, .int v1), (2, .int v2)] := hl
  have inX12 : ∀ w ∈ u_ws RX12 TX12 22, w ∈ wsX12_would := fun w h => List.mem_cons_of_mem _ (inlX12 w h)
  clear hAe hD0 B
  unfold wp_X12_would at hw
  generalize hQe : MQ below _ _ s _ _ _ = Q0
  generalize ([.ref h0, .int v1, .int v2] : List Value).toArray = av at *
  obtain ⟨H, hH⟩ : ∃ H, H = s.heap := ⟨_, rfl⟩
  obtain ⟨locs, hlo⟩ : ∃ L : List Loc, L = [] := ⟨_, rfl⟩
  replace hP : va_P (dC, dI) vwCl (w_X12_would h0 h_row h_kept h_isKept h_aside h_eight h_rows h_scales h_dealt h_bytes h_heardRow h_made h_comes h_backs h_fresh cy c_thrown c_nodeS c_nodeD c_pairE c_pairO c_bit c_lag c_lagSum c_row c_aside c_eight c_rows c_bytes c_scales c_dealt c_heardRow c_made c_backs c_comes) H := by rw [hH]; exact hP
  replace hS : va_S A s.heap H locs := by rw [hH, hlo]; exact hS
  suffices hgo : W p l e ({ frames := 6, cells := 0, slots := 0, locals := 148 }) s m av below meth c H locs 0 0 Q0 (F0 m 0 ls []) by rw [hH, hlo] at hgo; exact hgo
  clear hH hlo
  refine lv_aload_n hx hb dX12_would_0 rfl (lv_at hl 0 rfl) ?_
  refine lv_iconst (v := 0) hx hb dX12_would_1 (by decide) ?_
  refine va_put (D := (dC, dI)) (ci := 12) (v := .int (0 : Int32)) (ty := .int) (C := RX12) (T := TX12) (N := 22) hx hb hts inX12 tyX12 tyX12_ok nmX12 hown hK hP hD hS 0 rfl rfl 0 (by decide) (hts _ (List.mem_cons_of_mem _ mw_200)) (fun _ h9 => h9) rfl (by decide +kernel) rfl rfl (Nat.le_of_ble_eq_true rfl) dX12_would_2 ?_; clear hP hD hS; clear H locs; intro H locs hP hD hS
  replace hP : va_P (dC, dI) vwCl (w_X12_would h0 h_row h_kept h_isKept h_aside h_eight h_rows h_scales h_dealt h_bytes h_heardRow h_made h_comes h_backs h_fresh cy (0 : Int32) c_nodeS c_nodeD c_pairE c_pairO c_bit c_lag c_lagSum c_row c_aside c_eight c_rows c_bytes c_scales c_dealt c_heardRow c_made c_backs c_comes) H := hP
  replace hD : va_D A (w_X12_would h0 h_row h_kept h_isKept h_aside h_eight h_rows h_scales h_dealt h_bytes h_heardRow h_made h_comes h_backs h_fresh cy (0 : Int32) c_nodeS c_nodeD c_pairE c_pairO c_bit c_lag c_lagSum c_row c_aside c_eight c_rows c_bytes c_scales c_dealt c_heardRow c_made c_backs c_comes) := hD
  refine lv_iload_n hx hb dX12_would_5 rfl (lv_at hl 1 rfl) ?_
  refine lv_i2l (v := v1.toInt64) hx hb dX12_would_6 rfl ?_
  refine lv_lconst (v := 1) hx hb dX12_would_7 (by decide) ?_
  refine lv_ldc2 (v := 100) hx hb hown (hts _ (List.mem_cons_of_mem _ mw_225)) dX12_would_8 ?_
  have hPc := pSub (ws' := (w_X12_in cy)) hP [] rfl
  have hDc := dSub (ws' := (w_X12_in cy)) hD [] (by decide) rfl
  have hFc := va_free (wc := (w_X12_in cy)) hD hS hA [] rfl
  refine va_calli (va_runS (As := [.long (v1.toInt64), .long (1 : Int64), .long (100 : Int64)]) (rest := []) ⟨hx, hb, hml, hown, hts⟩ (c_X12_in l dC dI cy  H.size (v1.toInt64) (1 : Int64) (100 : Int64) _ hw) (va_cwS 3 hts (goodS mw_207 mw_205 mw_206 mw_5) rfl rfl rfl (by decide +kernel) ⟨Nat.le_of_ble_eq_true rfl, Nat.le_of_ble_eq_true rfl⟩) ⟨PX_blind, PX_pre hPc hK hDc hG⟩ rfl rfl hl.1 rfl (lv_room (Nat.le_of_ble_eq_true rfl)) dX12_would_11 ⟨Nat.zero_le _, Nat.zero_le _⟩) hS (fun q _ h => hFc q h) hFc ?_; clear hw hS; intro r1 _ t H1 locs1 ht hvm hw hB hz1 hk1 hS
  obtain ⟨hP1, -, -⟩ := hB
  rw [ht] at hP1
  replace hP := jC0 hP hD [] [0, 1, 2, 3, 4, 5, 6, 7, 8, 9, 10, 11] rfl hk1 hP1 (w_X12_would h0 h_row h_kept h_isKept h_aside h_eight h_rows h_scales h_dealt h_bytes h_heardRow h_made h_comes h_backs h_fresh cy (0 : Int32) c_nodeS c_nodeD c_pairE c_pairO c_bit c_lag c_lagSum c_row c_aside c_eight c_rows c_bytes c_scales c_dealt c_heardRow c_made c_backs c_comes) rfl rfl rfl 12 rfl (by decide +kernel); clear hD; obtain ⟨hP, hD⟩ := hP
  replace hP : va_P (dC, dI) vwCl (w_X12_would h0 h_row h_kept h_isKept h_aside h_eight h_rows h_scales h_dealt h_bytes h_heardRow h_made h_comes h_backs h_fresh cy (0 : Int32) c_nodeS c_nodeD c_pairE c_pairO c_bit c_lag c_lagSum c_row c_aside c_eight c_rows c_bytes c_scales c_dealt c_heardRow c_made c_backs c_comes) H1 := hP
  replace hD : va_D A (w_X12_would h0 h_row h_kept h_isKept h_aside h_eight h_rows h_scales h_dealt h_bytes h_heardRow h_made h_comes h_backs h_fresh cy (0 : Int32) c_nodeS c_nodeD c_pairE c_pairO c_bit c_lag c_lagSum c_row c_aside c_eight c_rows c_bytes c_scales c_dealt c_heardRow c_made c_backs c_comes) := hD
  clear hPc hDc hFc hP1 hk1 hz1 hvm ht; clear t; clear H locs; obtain ⟨H, hH⟩ : ∃ H, H = H1 := ⟨_, rfl⟩; obtain ⟨locs, hlo⟩ : ∃ L, L = locs1 := ⟨_, rfl⟩; subst hH; subst hlo
  refine W.widen (k := 0) (n := 0) (Nat.le_refl 0) (Nat.le_refl 0) ?_
  refine lv_if_eq (tgt := 32) hx hb dX12_would_14 (by decide) (fun c2 => ?_) (fun c2 => ?_)
  · replace hw := hw.1 c2; clear c2
    refine lv_ldc (v := -2147483648) hx hb hown (hts _ (List.mem_cons_of_mem _ mw_908)) dX12_would_32 ?_
    subst hQe
    exact W.iret (v := (-2147483648 : Int32)) hx hb hr (fun t ht hW => ⟨⟨(-2147483648 : Int32), ((0 : Int32), c_nodeS, c_nodeD, c_pairE, c_pairO, c_bit, c_lag, c_lagSum, c_row, c_aside, c_eight, c_rows, c_bytes, c_scales, c_dealt, c_heardRow, c_made, c_backs, c_comes), rfl, hw, by rw [ht]; exact hP, va_K.moved hW.alike hK, hD⟩, hS.F ht⟩) hS.2.2 dX12_would_34
  · replace hw := hw.2 c2; clear c2
    refine lv_aload_n hx hb dX12_would_17 rfl (lv_at hl 0 rfl) ?_
    refine va_get (D := (dC, dI)) (ci := 12) (v := .ref h_row) (C := RX12) (T := TX12) (N := 22) hx hb hts inX12 hown hK hP 0 rfl rfl 1 (by decide) (hts _ (List.mem_cons_of_mem _ mw_169)) (fun _ h9 => h9) rfl dX12_would_18 ?_
    refine lv_bipush (v := 25) hx hb dX12_would_21 (by decide) ?_
    refine xiald (k := 25) hx hb hK hP 1 0 rfl rfl (vpL 25 13385 rfl) (by decide) dX12_would_23 ?_
    refine lv_iload_n hx hb dX12_would_24 rfl (lv_at hl 1 rfl) ?_
    refine lv_iadd hx hb dX12_would_25 ?_
    refine lv_sipush (v := 10000) hx hb dX12_would_26 (by decide) ?_
    refine lv_icmp_le (tgt := 35) hx hb dX12_would_29 (by decide) (fun c4 => ?_) (fun c4 => ?_)
    · replace hw := hw.1 c4; clear c4
      refine lv_aload_n hx hb dX12_would_35 rfl (lv_at hl 0 rfl) ?_
      refine va_get (D := (dC, dI)) (ci := 12) (v := .ref h_row) (C := RX12) (T := TX12) (N := 22) hx hb hts inX12 hown hK hP 0 rfl rfl 1 (by decide) (hts _ (List.mem_cons_of_mem _ mw_169)) (fun _ h9 => h9) rfl dX12_would_36 ?_
      refine lv_iconst (v := 0) hx hb dX12_would_39 (by decide) ?_
      refine lv_aload_n hx hb dX12_would_40 rfl (lv_at hl 0 rfl) ?_
      refine va_get (D := (dC, dI)) (ci := 12) (v := .ref h_aside) (C := RX12) (T := TX12) (N := 22) hx hb hts inX12 hown hK hP 0 rfl rfl 4 (by decide) (hts _ (List.mem_cons_of_mem _ mw_173)) (fun _ h9 => h9) rfl dX12_would_41 ?_
      refine lv_iconst (v := 0) hx hb dX12_would_44 (by decide) ?_
      have hPc := pSub (ws' := (w_X12_copy h_row h_aside cy 13385 13385 c_row c_aside)) hP [1, 2] rfl
      have hDc := dSub (ws' := (w_X12_copy h_row h_aside cy 13385 13385 c_row c_aside)) hD [1, 2] (by decide) rfl
      have hFc := va_free (wc := (w_X12_copy h_row h_aside cy 13385 13385 c_row c_aside)) hD hS hA [1, 2] rfl
      refine va_callv (va_runS (As := [.ref h_row, .int (0 : Int32), .ref h_aside, .int (0 : Int32)]) (rest := []) ⟨hx, hb, hml, hown, hts⟩ (c_X12_copy l dC dI cy h_row h_aside 13385 13385 H.size (0 : Int32) (0 : Int32) c_row c_aside _ hw) (va_cwS 4 hts (goodS mw_887 mw_885 mw_886 mw_5) rfl rfl rfl (by decide +kernel) ⟨Nat.le_of_ble_eq_true rfl, Nat.le_of_ble_eq_true rfl⟩) ⟨PX_blind, PX_pre hPc hK hDc hG⟩ rfl rfl hl.1 rfl (lv_room (Nat.le_of_ble_eq_true rfl)) dX12_would_45 ⟨Nat.zero_le _, Nat.zero_le _⟩) hS (fun q _ h => hFc q h) hFc ?_; clear hw hS; intro f5 t H1 locs1 ht hvm hw hB hz1 hk1 hS
      obtain ⟨hP1, -, -⟩ := hB
      rw [ht] at hP1
      replace hP := jC0 hP hD [1, 2] [0, 3, 4, 5, 6, 7, 8, 9, 10, 11] rfl hk1 hP1 (w_X12_would h0 h_row h_kept h_isKept h_aside h_eight h_rows h_scales h_dealt h_bytes h_heardRow h_made h_comes h_backs h_fresh cy (0 : Int32) c_nodeS c_nodeD c_pairE c_pairO c_bit c_lag c_lagSum c_row f5 c_eight c_rows c_bytes c_scales c_dealt c_heardRow c_made c_backs c_comes) rfl rfl rfl 12 rfl (by decide +kernel); clear hD; obtain ⟨hP, hD⟩ := hP
      replace hP : va_P (dC, dI) vwCl (w_X12_would h0 h_row h_kept h_isKept h_aside h_eight h_rows h_scales h_dealt h_bytes h_heardRow h_made h_comes h_backs h_fresh cy (0 : Int32) c_nodeS c_nodeD c_pairE c_pairO c_bit c_lag c_lagSum c_row f5 c_eight c_rows c_bytes c_scales c_dealt c_heardRow c_made c_backs c_comes) H1 := hP
      replace hD : va_D A (w_X12_would h0 h_row h_kept h_isKept h_aside h_eight h_rows h_scales h_dealt h_bytes h_heardRow h_made h_comes h_backs h_fresh cy (0 : Int32) c_nodeS c_nodeD c_pairE c_pairO c_bit c_lag c_lagSum c_row f5 c_eight c_rows c_bytes c_scales c_dealt c_heardRow c_made c_backs c_comes) := hD
      clear hPc hDc hFc hP1 hk1 hz1 hvm ht; clear t; clear H locs; obtain ⟨H, hH⟩ : ∃ H, H = H1 := ⟨_, rfl⟩; obtain ⟨locs, hlo⟩ : ∃ L, L = locs1 := ⟨_, rfl⟩; subst hH; subst hlo
      refine W.widen (k := 0) (n := 0) (Nat.le_refl 0) (Nat.le_refl 0) ?_
      refine lv_iconst (v := 0) hx hb dX12_would_48 (by decide) ?_
      refine lv_istore_n (lv' := [(3, .int (0 : Int32)), (0, .ref h0), (1, .int v1), (2, .int v2)]) hx hb dX12_would_49 rfl hl (by decide) rfl ?_; clear hl; clear ls; intro ls hl
      obtain ⟨x6, e_x6⟩ : ∃ y : Int32, y = (0 : Int32) := ⟨_, rfl⟩
      replace hw := hw x6 e_x6
      replace hl : lv_has ls 4 [(3, .int x6), (0, .ref h0), (1, .int v1), (2, .int v2)] := by rw [e_x6]; exact hl
      clear e_x6
      replace hl := lv_sub (l' := [(3, .int x6), (0, .ref h0), (1, .int v1), (2, .int v2)]) hl [0, 1, 2, 3] rfl
      revert hl; revert hS; revert hD; revert hP; revert ls; revert locs; revert H
      revert hw; revert c_comes; revert c_backs; revert c_made; revert c_heardRow; revert c_dealt; revert c_scales; revert c_bytes; revert c_rows; revert c_eight; revert c_row; revert c_lagSum; revert c_lag; revert c_bit; revert c_pairO; revert c_pairE; revert c_nodeD; revert c_nodeS; revert x6
      refine Lz18_gr ?_; intro g7 ih8 x9 x10 x11 x12 x13 x14 x15 x16 f17 f18 f19 f20 f21 f22 f23 f24 f25 f26 hw
      intro H locs ls hP hD hS hl
      refine lv_iload_n hx hb dX12_would_50 rfl (lv_at hl 0 rfl) ?_
      refine lv_iload_n hx hb dX12_would_51 rfl (lv_at hl 2 rfl) ?_
      refine lv_icmp_ge (tgt := 65) hx hb dX12_would_52 (by decide) (fun c27 => ?_) (fun c27 => ?_)
      · replace hw := hw.1 c27; clear c27
        clear ih8
        refine lv_aload_n hx hb dX12_would_65 rfl (lv_at hl 1 rfl) ?_
        refine lv_iload_n hx hb dX12_would_66 rfl (lv_at hl 3 rfl) ?_
        have hPc := pSub (ws' := (w_X12_tells h0 h_row h_kept h_isKept h_aside h_eight h_rows h_scales h_dealt h_bytes h_heardRow h_made h_comes h_backs h_fresh cy (0 : Int32) x10 x11 x12 x13 x14 x15 x16 f17)) hP [0, 1] rfl
        have hDc := dSub (ws' := (w_X12_tells h0 h_row h_kept h_isKept h_aside h_eight h_rows h_scales h_dealt h_bytes h_heardRow h_made h_comes h_backs h_fresh cy (0 : Int32) x10 x11 x12 x13 x14 x15 x16 f17)) hD [0, 1] (by decide) rfl
        have hFc := va_free (wc := (w_X12_tells h0 h_row h_kept h_isKept h_aside h_eight h_rows h_scales h_dealt h_bytes h_heardRow h_made h_comes h_backs h_fresh cy (0 : Int32) x10 x11 x12 x13 x14 x15 x16 f17)) hD hS hA [0, 1] rfl
        refine va_calli (va_runV (As := [.int v2]) (rest := []) ⟨hx, hb, hml, hown, hts⟩ (c_X12_tells l dC dI cy h0 h_row h_kept h_isKept h_aside h_eight h_rows h_scales h_dealt h_bytes h_heardRow h_made h_comes h_backs h_fresh H.size v2 (0 : Int32) x10 x11 x12 x13 x14 x15 x16 f17 _ hw) (cwV 1 hts (goodV mw_1215 mw_1212 mw_1213 mw_1214 mw_5) rfl rfl rfl (by decide +kernel) ⟨Nat.le_of_ble_eq_true rfl, Nat.le_of_ble_eq_true rfl⟩) ⟨PX_blind, va_recv hK hPc (ci := 12) (q0 := 0) rfl rfl, PX_pre hPc hK hDc hG⟩ rfl rfl hl.1 rfl (lv_room (Nat.le_of_ble_eq_true rfl)) dX12_would_67 ⟨Nat.zero_le _, Nat.zero_le _⟩) hS (fun q _ h => hFc q h) hFc ?_; clear hw hS; intro r28 _ t H1 locs1 ht hvm hw hB hz1 hk1 hS
        obtain ⟨hP1, -, -⟩ := hB
        rw [ht] at hP1
        replace hP := jC0 hP hD [0, 1] [2, 3, 4, 5, 6, 7, 8, 9, 10, 11] rfl hk1 hP1 (w_X12_would h0 h_row h_kept h_isKept h_aside h_eight h_rows h_scales h_dealt h_bytes h_heardRow h_made h_comes h_backs h_fresh cy (0 : Int32) x10 x11 x12 x13 x14 x15 x16 f17 f5 f18 f19 f20 f21 f22 f23 f24 f25 f26) rfl rfl rfl 12 rfl (by decide +kernel); clear hD; obtain ⟨hP, hD⟩ := hP
        replace hP : va_P (dC, dI) vwCl (w_X12_would h0 h_row h_kept h_isKept h_aside h_eight h_rows h_scales h_dealt h_bytes h_heardRow h_made h_comes h_backs h_fresh cy (0 : Int32) x10 x11 x12 x13 x14 x15 x16 f17 f5 f18 f19 f20 f21 f22 f23 f24 f25 f26) H1 := hP
        replace hD : va_D A (w_X12_would h0 h_row h_kept h_isKept h_aside h_eight h_rows h_scales h_dealt h_bytes h_heardRow h_made h_comes h_backs h_fresh cy (0 : Int32) x10 x11 x12 x13 x14 x15 x16 f17 f5 f18 f19 f20 f21 f22 f23 f24 f25 f26) := hD
        clear hPc hDc hFc hP1 hk1 hz1 hvm ht; clear t; clear H locs; obtain ⟨H, hH⟩ : ∃ H, H = H1 := ⟨_, rfl⟩; obtain ⟨locs, hlo⟩ : ∃ L, L = locs1 := ⟨_, rfl⟩; subst hH; subst hlo
        refine W.widen (k := 0) (n := 0) (Nat.le_refl 0) (Nat.le_refl 0) ?_
        refine lv_istore_n (lv' := [(3, .int r28), (0, .ref h0), (1, .int v1), (2, .int v2)]) hx hb dX12_would_70 rfl hl (by decide) rfl ?_; clear hl; clear ls; intro ls hl
        refine lv_aload_n hx hb dX12_would_71 rfl (lv_at hl 1 rfl) ?_
        refine va_get (D := (dC, dI)) (ci := 12) (v := .ref h_aside) (C := RX12) (T := TX12) (N := 22) hx hb hts inX12 hown hK hP 0 rfl rfl 4 (by decide) (hts _ (List.mem_cons_of_mem _ mw_173)) (fun _ h9 => h9) rfl dX12_would_72 ?_
        refine lv_iconst (v := 0) hx hb dX12_would_75 (by decide) ?_
        refine lv_aload_n hx hb dX12_would_76 rfl (lv_at hl 1 rfl) ?_
        refine va_get (D := (dC, dI)) (ci := 12) (v := .ref h_row) (C := RX12) (T := TX12) (N := 22) hx hb hts inX12 hown hK hP 0 rfl rfl 1 (by decide) (hts _ (List.mem_cons_of_mem _ mw_169)) (fun _ h9 => h9) rfl dX12_would_77 ?_
        refine lv_iconst (v := 0) hx hb dX12_would_80 (by decide) ?_
        have hPc := pSub (ws' := (w_X12_copy h_aside h_row cy 13385 13385 f5 f17)) hP [2, 1] rfl
        have hDc := dSub (ws' := (w_X12_copy h_aside h_row cy 13385 13385 f5 f17)) hD [2, 1] (by decide) rfl
        have hFc := va_free (wc := (w_X12_copy h_aside h_row cy 13385 13385 f5 f17)) hD hS hA [2, 1] rfl
        refine va_callv (va_runS (As := [.ref h_aside, .int (0 : Int32), .ref h_row, .int (0 : Int32)]) (rest := []) ⟨hx, hb, hml, hown, hts⟩ (c_X12_copy l dC dI cy h_aside h_row 13385 13385 H.size (0 : Int32) (0 : Int32) f5 f17 _ hw) (va_cwS 4 hts (goodS mw_887 mw_885 mw_886 mw_5) rfl rfl rfl (by decide +kernel) ⟨Nat.le_of_ble_eq_true rfl, Nat.le_of_ble_eq_true rfl⟩) ⟨PX_blind, PX_pre hPc hK hDc hG⟩ rfl rfl hl.1 rfl (lv_room (Nat.le_of_ble_eq_true rfl)) dX12_would_81 ⟨Nat.zero_le _, Nat.zero_le _⟩) hS (fun q _ h => hFc q h) hFc ?_; clear hw hS; intro f29 t H1 locs1 ht hvm hw hB hz1 hk1 hS
        obtain ⟨hP1, -, -⟩ := hB
        rw [ht] at hP1
        replace hP := jC0 hP hD [2, 1] [0, 3, 4, 5, 6, 7, 8, 9, 10, 11] rfl hk1 hP1 (w_X12_would h0 h_row h_kept h_isKept h_aside h_eight h_rows h_scales h_dealt h_bytes h_heardRow h_made h_comes h_backs h_fresh cy (0 : Int32) x10 x11 x12 x13 x14 x15 x16 f29 f5 f18 f19 f20 f21 f22 f23 f24 f25 f26) rfl rfl rfl 12 rfl (by decide +kernel); clear hD; obtain ⟨hP, hD⟩ := hP
        replace hP : va_P (dC, dI) vwCl (w_X12_would h0 h_row h_kept h_isKept h_aside h_eight h_rows h_scales h_dealt h_bytes h_heardRow h_made h_comes h_backs h_fresh cy (0 : Int32) x10 x11 x12 x13 x14 x15 x16 f29 f5 f18 f19 f20 f21 f22 f23 f24 f25 f26) H1 := hP
        replace hD : va_D A (w_X12_would h0 h_row h_kept h_isKept h_aside h_eight h_rows h_scales h_dealt h_bytes h_heardRow h_made h_comes h_backs h_fresh cy (0 : Int32) x10 x11 x12 x13 x14 x15 x16 f29 f5 f18 f19 f20 f21 f22 f23 f24 f25 f26) := hD
        clear hPc hDc hFc hP1 hk1 hz1 hvm ht; clear t; clear H locs; obtain ⟨H, hH⟩ : ∃ H, H = H1 := ⟨_, rfl⟩; obtain ⟨locs, hlo⟩ : ∃ L, L = locs1 := ⟨_, rfl⟩; subst hH; subst hlo
        refine W.widen (k := 0) (n := 0) (Nat.le_refl 0) (Nat.le_refl 0) ?_
        refine lv_iload_n hx hb dX12_would_84 rfl (lv_at hl 0 rfl) ?_
        subst hQe
        exact W.iret (v := r28) hx hb hr (fun t ht hW => ⟨⟨r28, ((0 : Int32), x10, x11, x12, x13, x14, x15, x16, f29, f5, f18, f19, f20, f21, f22, f23, f24, f25, f26), rfl, hw, by rw [ht]; exact hP, va_K.moved hW.alike hK, hD⟩, hS.F ht⟩) hS.2.2 dX12_would_85
      · replace hw := hw.2 c27; clear c27
        refine lv_aload_n hx hb dX12_would_55 rfl (lv_at hl 1 rfl) ?_
        have hPc := pSub (ws' := (w_X12_slot h0 h_row h_kept h_isKept h_aside h_eight h_rows h_scales h_dealt h_bytes h_heardRow h_made h_comes h_backs h_fresh cy (0 : Int32) x10 x11 x12 x13 x14 x15 x16 f17 f18 f19 f20 f21 f22 f23 f24 f25 f26)) hP [0, 1, 3, 4, 5, 6, 7, 8, 9, 10, 11] rfl
        have hDc := dSub (ws' := (w_X12_slot h0 h_row h_kept h_isKept h_aside h_eight h_rows h_scales h_dealt h_bytes h_heardRow h_made h_comes h_backs h_fresh cy (0 : Int32) x10 x11 x12 x13 x14 x15 x16 f17 f18 f19 f20 f21 f22 f23 f24 f25 f26)) hD [0, 1, 3, 4, 5, 6, 7, 8, 9, 10, 11] (by decide) rfl
        have hFc := va_free (wc := (w_X12_slot h0 h_row h_kept h_isKept h_aside h_eight h_rows h_scales h_dealt h_bytes h_heardRow h_made h_comes h_backs h_fresh cy (0 : Int32) x10 x11 x12 x13 x14 x15 x16 f17 f18 f19 f20 f21 f22 f23 f24 f25 f26)) hD hS hA [0, 1, 3, 4, 5, 6, 7, 8, 9, 10, 11] rfl
        refine va_callv (va_runV (As := []) (rest := []) ⟨hx, hb, hml, hown, hts⟩ (c_X12_slot l dC dI cy h0 h_row h_kept h_isKept h_aside h_eight h_rows h_scales h_dealt h_bytes h_heardRow h_made h_comes h_backs h_fresh H.size (0 : Int32) x10 x11 x12 x13 x14 x15 x16 f17 f18 f19 f20 f21 f22 f23 f24 f25 f26 _ hw) (cwV 0 hts (goodV mw_596 mw_593 mw_594 mw_595 mw_5) rfl rfl rfl (by decide +kernel) ⟨Nat.le_of_ble_eq_true rfl, Nat.le_of_ble_eq_true rfl⟩) ⟨PX_blind, va_recv hK hPc (ci := 12) (q0 := 0) rfl rfl, PX_pre hPc hK hDc hG⟩ rfl rfl hl.1 rfl (lv_room (Nat.le_of_ble_eq_true rfl)) dX12_would_56 ⟨Nat.zero_le _, Nat.zero_le _⟩) hS (fun q _ h => hFc q h) hFc ?_; clear hw hS; intro u t H1 locs1 ht hvm hw hB hz1 hk1 hS
        obtain ⟨x30, x31, x32, x33, x34, x35, x36, f37, f38, f39, f40, f41, f42, f43, f44, f45, f46⟩ := u
        try dsimp only at hw
        obtain ⟨hP1, -, -⟩ := hB
        rw [ht] at hP1
        replace hP := jC0 hP hD [0, 1, 3, 4, 5, 6, 7, 8, 9, 10, 11] [2] rfl hk1 hP1 (w_X12_would h0 h_row h_kept h_isKept h_aside h_eight h_rows h_scales h_dealt h_bytes h_heardRow h_made h_comes h_backs h_fresh cy (0 : Int32) x30 x31 x32 x33 x34 x35 x36 f37 f5 f38 f39 f40 f41 f42 f43 f44 f45 f46) rfl rfl rfl 12 rfl (by decide +kernel); clear hD; obtain ⟨hP, hD⟩ := hP
        replace hP : va_P (dC, dI) vwCl (w_X12_would h0 h_row h_kept h_isKept h_aside h_eight h_rows h_scales h_dealt h_bytes h_heardRow h_made h_comes h_backs h_fresh cy (0 : Int32) x30 x31 x32 x33 x34 x35 x36 f37 f5 f38 f39 f40 f41 f42 f43 f44 f45 f46) H1 := hP
        replace hD : va_D A (w_X12_would h0 h_row h_kept h_isKept h_aside h_eight h_rows h_scales h_dealt h_bytes h_heardRow h_made h_comes h_backs h_fresh cy (0 : Int32) x30 x31 x32 x33 x34 x35 x36 f37 f5 f38 f39 f40 f41 f42 f43 f44 f45 f46) := hD
        clear hPc hDc hFc hP1 hk1 hz1 hvm ht; clear t; clear H locs; obtain ⟨H, hH⟩ : ∃ H, H = H1 := ⟨_, rfl⟩; obtain ⟨locs, hlo⟩ : ∃ L, L = locs1 := ⟨_, rfl⟩; subst hH; subst hlo
        refine W.widen (k := 0) (n := 0) (Nat.le_refl 0) (Nat.le_refl 0) ?_
        refine lv_iinc (v := x9 + 1) (lv' := [(3, .int (x9 + 1)), (0, .ref h0), (1, .int v1), (2, .int v2)]) hx hb dX12_would_59 hl (k := 0) rfl rfl (by decide) rfl ?_; clear hl; clear ls; intro ls hl
        refine lv_goto (tgt := 50) hx hb dX12_would_62 (by decide) ?_
        exact ih8 (x9 + 1) x30 x31 x32 x33 x34 x35 x36 f37 f38 f39 f40 f41 f42 f43 f44 f45 f46 hw H locs ls hP hD hS (lv_sub hl [0, 1, 2, 3] rfl)
    · replace hw := hw.2 c4; clear c4
      refine lv_ldc (v := -2147483648) hx hb hown (hts _ (List.mem_cons_of_mem _ mw_908)) dX12_would_32 ?_
      subst hQe
      exact W.iret (v := (-2147483648 : Int32)) hx hb hr (fun t ht hW => ⟨⟨(-2147483648 : Int32), ((0 : Int32), c_nodeS, c_nodeD, c_pairE, c_pairO, c_bit, c_lag, c_lagSum, c_row, c_aside, c_eight, c_rows, c_bytes, c_scales, c_dealt, c_heardRow, c_made, c_backs, c_comes), rfl, hw, by rw [ht]; exact hP, va_K.moved hW.alike hK, hD⟩, hS.F ht⟩) hS.2.2 dX12_would_34
set_option maxHeartbeats 4000000 in
set_option maxRecDepth 100000 in
theorem c_X12_count (l : Launch) (dC : Nat → ClassId) (dI : Nat → Nat → Nat) (cy : Nat → ClassId) (h0 h_row h_kept h_isKept h_aside h_eight h_rows h_scales h_dealt h_bytes h_heardRow h_made h_comes h_backs h_fresh : Nat) (sz : Nat) (v1 : Int32) (c_thrown : Int32) (c_nodeS : Int32) (c_nodeD : Int32) (c_pairE : Int32) (c_pairO : Int32) (c_bit : Int32) (c_lag : Int32) (c_lagSum : Int32) (c_row : Nat → Int32) (post : Int32 → Int32 → Prop) (hw : wp_X12_count v1 c_thrown c_row post) : Met l yX12_count wsX12_count ({ frames := 2, cells := 0, slots := 0, locals := 46 }) (PX dC dI cy [.ref h0, .int v1] sz (w_X12_count h0 h_row h_kept h_isKept h_aside h_eight h_rows h_scales h_dealt h_bytes h_heardRow h_made h_comes h_backs h_fresh cy c_thrown c_nodeS c_nodeD c_pairE c_pairO c_bit c_lag c_lagSum c_row)) (va_Qi (fun (r : Int32) (u : Int32) => post r u) (QX dC dI cy (va_A (w_X12_count h0 h_row h_kept h_isKept h_aside h_eight h_rows h_scales h_dealt h_bytes h_heardRow h_made h_comes h_backs h_fresh cy c_thrown c_nodeS c_nodeD c_pairE c_pairO c_bit c_lag c_lagSum c_row) sz) (fun (u : Int32) => w_X12_count h0 h_row h_kept h_isKept h_aside h_eight h_rows h_scales h_dealt h_bytes h_heardRow h_made h_comes h_backs h_fresh cy u c_nodeS c_nodeD c_pairE c_pairO c_bit c_lag c_lagSum c_row)) (va_A (w_X12_count h0 h_row h_kept h_isKept h_aside h_eight h_rows h_scales h_dealt h_bytes h_heardRow h_made h_comes h_backs h_fresh cy c_thrown c_nodeS c_nodeD c_pairE c_pairO c_bit c_lag c_lagSum c_row) sz)) 0 0 (va_A (w_X12_count h0 h_row h_kept h_isKept h_aside h_eight h_rows h_scales h_dealt h_bytes h_heardRow h_made h_comes h_backs h_fresh cy c_thrown c_nodeS c_nodeD c_pairE c_pairO c_bit c_lag c_lagSum c_row) sz) := by
  refine Met.ofW (cc := cX12_count) (maxL := 2) (ret := (some .int)) (by decide) rfl ?_
  intro p e s m args below meth c s₁ B hml hv
  obtain ⟨rfl, hsz, hP, hK, hD0, hG⟩ := hv
  have hx := B.exec
  have hb := B.bytes
  have hr := B.returns
  have hts := atoms_spec (ws := wsX12_count) B.pre
  have hown : s.vm.findClass RX12 = some m.cls := findClass_of_methodNamed B.named
  have hlocks := B.notSynchronized
  subst hsz
  have hD := hD0.self (sz := s.heap.size)
  generalize hAe : va_A (w_X12_count h0 h_row h_kept h_isKept h_aside h_eight h_rows h_scales h_dealt h_bytes h_heardRow h_made h_comes h_backs h_fresh cy c_thrown c_nodeS c_nodeD c_pairE c_pairO c_bit c_lag c_lagSum c_row) s.heap.size = A at hD ⊢
  have hA : ∀ q : Nat, s.heap.size ≤ q → A q := fun q h => by rw [← hAe]; exact Or.inr h
  have hS : va_S A s.heap s.heap [] := va_S.rf
  have hl := lv_entry ([.ref h0, .int v1]) (n := 2) (Nat.le_of_ble_eq_true rfl)
  rw [lg_entry_eq]
  generalize (lg_sl ([.ref h0, .int v1]) ++ List.replicate (2 - (lg_sl ([.ref h0, .int v1])).length) Slot.unset).toArray = ls at hl ⊢
  replace hl : lv_has ls 2 [(0, .ref h0), (1, .int v1)] := hl
  have inX12 : ∀ w ∈ u_ws RX12 TX12 22, w ∈ wsX12_count := fun w h => List.mem_cons_of_mem _ (inlX12 w h)
  clear hAe hD0 B
  unfold wp_X12_count at hw
  generalize hQe : MQ below _ _ s _ _ _ = Q0
  generalize ([.ref h0, .int v1] : List Value).toArray = av at *
  obtain ⟨H, hH⟩ : ∃ H, H = s.heap := ⟨_, rfl⟩
  obtain ⟨locs, hlo⟩ : ∃ L : List Loc, L = [] := ⟨_, rfl⟩
  replace hP : va_P (dC, dI) vwCl (w_X12_count h0 h_row h_kept h_isKept h_aside h_eight h_rows h_scales h_dealt h_bytes h_heardRow h_made h_comes h_backs h_fresh cy c_thrown c_nodeS c_nodeD c_pairE c_pairO c_bit c_lag c_lagSum c_row) H := by rw [hH]; exact hP
  replace hS : va_S A s.heap H locs := by rw [hH, hlo]; exact hS
  suffices hgo : W p l e ({ frames := 2, cells := 0, slots := 0, locals := 46 }) s m av below meth c H locs 0 0 Q0 (F0 m 0 ls []) by rw [hH, hlo] at hgo; exact hgo
  clear hH hlo
  refine lv_aload_n hx hb dX12_count_0 rfl (lv_at hl 0 rfl) ?_
  refine lv_iconst (v := 0) hx hb dX12_count_1 (by decide) ?_
  refine va_put (D := (dC, dI)) (ci := 12) (v := .int (0 : Int32)) (ty := .int) (C := RX12) (T := TX12) (N := 22) hx hb hts inX12 tyX12 tyX12_ok nmX12 hown hK hP hD hS 0 rfl rfl 0 (by decide) (hts _ (List.mem_cons_of_mem _ mw_200)) (fun _ h9 => h9) rfl (by decide +kernel) rfl rfl (Nat.le_of_ble_eq_true rfl) dX12_count_2 ?_; clear hP hD hS; clear H locs; intro H locs hP hD hS
  replace hP : va_P (dC, dI) vwCl (w_X12_count h0 h_row h_kept h_isKept h_aside h_eight h_rows h_scales h_dealt h_bytes h_heardRow h_made h_comes h_backs h_fresh cy (0 : Int32) c_nodeS c_nodeD c_pairE c_pairO c_bit c_lag c_lagSum c_row) H := hP
  replace hD : va_D A (w_X12_count h0 h_row h_kept h_isKept h_aside h_eight h_rows h_scales h_dealt h_bytes h_heardRow h_made h_comes h_backs h_fresh cy (0 : Int32) c_nodeS c_nodeD c_pairE c_pairO c_bit c_lag c_lagSum c_row) := hD
  refine lv_aload_n hx hb dX12_count_5 rfl (lv_at hl 0 rfl) ?_
  refine lv_iload_n hx hb dX12_count_6 rfl (lv_at hl 1 rfl) ?_
  have hPc := pSub (ws' := (w_X12_tells h0 h_row h_kept h_isKept h_aside h_eight h_rows h_scales h_dealt h_bytes h_heardRow h_made h_comes h_backs h_fresh cy (0 : Int32) c_nodeS c_nodeD c_pairE c_pairO c_bit c_lag c_lagSum c_row)) hP [0, 1] rfl
  have hDc := dSub (ws' := (w_X12_tells h0 h_row h_kept h_isKept h_aside h_eight h_rows h_scales h_dealt h_bytes h_heardRow h_made h_comes h_backs h_fresh cy (0 : Int32) c_nodeS c_nodeD c_pairE c_pairO c_bit c_lag c_lagSum c_row)) hD [0, 1] (by decide) rfl
  have hFc := va_free (wc := (w_X12_tells h0 h_row h_kept h_isKept h_aside h_eight h_rows h_scales h_dealt h_bytes h_heardRow h_made h_comes h_backs h_fresh cy (0 : Int32) c_nodeS c_nodeD c_pairE c_pairO c_bit c_lag c_lagSum c_row)) hD hS hA [0, 1] rfl
  refine va_calli (va_runV (As := [.int v1]) (rest := []) ⟨hx, hb, hml, hown, hts⟩ (c_X12_tells l dC dI cy h0 h_row h_kept h_isKept h_aside h_eight h_rows h_scales h_dealt h_bytes h_heardRow h_made h_comes h_backs h_fresh H.size v1 (0 : Int32) c_nodeS c_nodeD c_pairE c_pairO c_bit c_lag c_lagSum c_row _ hw) (cwV 1 hts (goodV mw_1215 mw_1212 mw_1213 mw_1214 mw_5) rfl rfl rfl (by decide +kernel) ⟨Nat.le_of_ble_eq_true rfl, Nat.le_of_ble_eq_true rfl⟩) ⟨PX_blind, va_recv hK hPc (ci := 12) (q0 := 0) rfl rfl, PX_pre hPc hK hDc hG⟩ rfl rfl hl.1 rfl (lv_room (Nat.le_of_ble_eq_true rfl)) dX12_count_7 ⟨Nat.zero_le _, Nat.zero_le _⟩) hS (fun q _ h => hFc q h) hFc ?_; clear hw hS; intro r1 _ t H1 locs1 ht hvm hw hB hz1 hk1 hS
  obtain ⟨hP1, -, -⟩ := hB
  rw [ht] at hP1
  replace hP := jC0 hP hD [0, 1] [] rfl hk1 hP1 (w_X12_count h0 h_row h_kept h_isKept h_aside h_eight h_rows h_scales h_dealt h_bytes h_heardRow h_made h_comes h_backs h_fresh cy (0 : Int32) c_nodeS c_nodeD c_pairE c_pairO c_bit c_lag c_lagSum c_row) rfl rfl rfl 2 rfl (by decide +kernel); clear hD; obtain ⟨hP, hD⟩ := hP
  replace hP : va_P (dC, dI) vwCl (w_X12_count h0 h_row h_kept h_isKept h_aside h_eight h_rows h_scales h_dealt h_bytes h_heardRow h_made h_comes h_backs h_fresh cy (0 : Int32) c_nodeS c_nodeD c_pairE c_pairO c_bit c_lag c_lagSum c_row) H1 := hP
  replace hD : va_D A (w_X12_count h0 h_row h_kept h_isKept h_aside h_eight h_rows h_scales h_dealt h_bytes h_heardRow h_made h_comes h_backs h_fresh cy (0 : Int32) c_nodeS c_nodeD c_pairE c_pairO c_bit c_lag c_lagSum c_row) := hD
  clear hPc hDc hFc hP1 hk1 hz1 hvm ht; clear t; clear H locs; obtain ⟨H, hH⟩ : ∃ H, H = H1 := ⟨_, rfl⟩; obtain ⟨locs, hlo⟩ : ∃ L, L = locs1 := ⟨_, rfl⟩; subst hH; subst hlo
  refine W.widen (k := 0) (n := 0) (Nat.le_refl 0) (Nat.le_refl 0) ?_
  subst hQe
  exact W.iret (v := r1) hx hb hr (fun t ht hW => ⟨⟨r1, (0 : Int32), rfl, hw, by rw [ht]; exact hP, va_K.moved hW.alike hK, hD⟩, hS.F ht⟩) hS.2.2 dX12_count_10
