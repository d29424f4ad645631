set_option maxHeartbeats 4000000 in
set_option maxRecDepth 100000 in
theorem c_X12_check (l : Launch) (dC : Nat → ClassId) (dI : Nat → Nat → Nat) (cy : Nat → ClassId) (h0 h_row h_kept h_isKept h_aside h_eight h_rows h_scales h_dealt h_bytes h_heardRow h_made h_comes h_backs h_fresh : Nat) (sz : Nat) (v1 : Int32) (c_thrown : Int32) (c_nodeS : Int32) (c_nodeD : Int32) (c_pairE : Int32) (c_pairO : Int32) (c_bit : Int32) (c_lag : Int32) (c_lagSum : Int32) (c_bytes : Nat → Int32) (post : Int32 → Prop) (hw : wp_X12_check v1 c_bytes post) : Met l yX12_check wsX12_check ({ frames := 0, cells := 0, slots := 0, locals := 0 }) (PX dC dI cy [.ref h0, .int v1] sz (w_X12_check h0 h_row h_kept h_isKept h_aside h_eight h_rows h_scales h_dealt h_bytes h_heardRow h_made h_comes h_backs h_fresh cy c_thrown c_nodeS c_nodeD c_pairE c_pairO c_bit c_lag c_lagSum c_bytes)) (va_Qi (fun (r : Int32) (u : Unit) => post r) (QX dC dI cy (va_A (w_X12_check h0 h_row h_kept h_isKept h_aside h_eight h_rows h_scales h_dealt h_bytes h_heardRow h_made h_comes h_backs h_fresh cy c_thrown c_nodeS c_nodeD c_pairE c_pairO c_bit c_lag c_lagSum c_bytes) sz) (fun (u : Unit) => w_X12_check h0 h_row h_kept h_isKept h_aside h_eight h_rows h_scales h_dealt h_bytes h_heardRow h_made h_comes h_backs h_fresh cy c_thrown c_nodeS c_nodeD c_pairE c_pairO c_bit c_lag c_lagSum c_bytes)) (va_A (w_X12_check h0 h_row h_kept h_isKept h_aside h_eight h_rows h_scales h_dealt h_bytes h_heardRow h_made h_comes h_backs h_fresh cy c_thrown c_nodeS c_nodeD c_pairE c_pairO c_bit c_lag c_lagSum c_bytes) sz)) 0 0 (va_A (w_X12_check h0 h_row h_kept h_isKept h_aside h_eight h_rows h_scales h_dealt h_bytes h_heardRow h_made h_comes h_backs h_fresh cy c_thrown c_nodeS c_nodeD c_pairE c_pairO c_bit c_lag c_lagSum c_bytes) sz) := by
  refine Met.ofW (cc := cX12_check) (maxL := 6) (ret := (some .int)) (by decide) rfl ?_
  intro p e s m args below meth c s₁ B hml hv
  obtain ⟨rfl, hsz, hP, hK, hD0, hG⟩ := hv
  have hx := B.exec
  have hb := B.bytes
  have hr := B.returns
  have hts := atoms_spec (ws := wsX12_check) B.pre
  have hown : s.vm.findClass RX12 = some m.cls := findClass_of_methodNamed B.named
  have hlocks := B.notSynchronized
  subst hsz
  have hD := hD0.self (sz := s.heap.size)
  generalize hAe : va_A (w_X12_check h0 h_row h_kept h_isKept h_aside h_eight h_rows h_scales h_dealt h_bytes h_heardRow h_made h_comes h_backs h_fresh cy c_thrown c_nodeS c_nodeD c_pairE c_pairO c_bit c_lag c_lagSum c_bytes) s.heap.size = A at hD ⊢
  have hA : ∀ q : Nat, s.heap.size ≤ q → A q := fun q h => by rw [← hAe]; exact Or.inr h
  have hS : va_S A s.heap s.heap [] := va_S.rf
  have hl := lv_entry ([.ref h0, .int v1]) (n := 6) (Nat.le_of_ble_eq_true rfl)
  rw [lg_entry_eq]
  generalize (lg_sl ([.ref h0, .int v1]) ++ List.replicate (6 - (lg_sl ([.ref h0, .int v1])).length) Slot.unset).toArray = ls at hl ⊢
  replace hl : lv_has ls 6 [(0, .ref h0), (1, .int v1)] := hl
  have inX12 : ∀ w ∈ u_ws RX12 TX12 22, w ∈ wsX12_check := fun w h => List.mem_cons_of_mem _ (inlX12 w h)
  clear hAe hD0 B
  unfold wp_X12_check at hw
  generalize hQe : MQ below _ _ s _ _ _ = Q0
  generalize ([.ref h0, .int v1] : List Value).toArray = av at *
  obtain ⟨H, hH⟩ : ∃ H, H = s.heap := ⟨_, rfl⟩
  obtain ⟨locs, hlo⟩ : ∃ L : List Loc, L = [] := ⟨_, rfl⟩
  replace hP : va_P (dC, dI) vwCl (w_X12_check h0 h_row h_kept h_isKept h_aside h_eight h_rows h_scales h_dealt h_bytes h_heardRow h_made h_comes h_backs h_fresh cy c_thrown c_nodeS c_nodeD c_pairE c_pairO c_bit c_lag c_lagSum c_bytes) H := by rw [hH]; exact hP
  replace hS : va_S A s.heap H locs := by rw [hH, hlo]; exact hS
  suffices hgo : W p l e ({ frames := 0, cells := 0, slots := 0, locals := 0 }) s m av below meth c H locs 0 0 Q0 (F0 m 0 ls []) by rw [hH, hlo] at hgo; exact hgo
  clear hH hlo
  refine lv_bipush (v := 15) hx hb dX12_check_0 (by decide) ?_
  refine lv_istore_n (lv' := [(2, .int (15 : Int32)), (0, .ref h0), (1, .int v1)]) hx hb dX12_check_2 rfl hl (by decide) rfl ?_; clear hl; clear ls; intro ls hl
  refine lv_iconst (v := 1) hx hb dX12_check_3 (by decide) ?_
  refine lv_istore_n (lv' := [(3, .int (1 : Int32)), (2, .int (15 : Int32)), (0, .ref h0), (1, .int v1)]) hx hb dX12_check_4 rfl hl (by decide) rfl ?_; clear hl; clear ls; intro ls hl
  obtain ⟨x1, e_x1⟩ : ∃ y : Int32, y = (1 : Int32) := ⟨_, rfl⟩
  replace hw := hw x1 e_x1
  replace hl : lv_has ls 6 [(3, .int x1), (2, .int (15 : Int32)), (0, .ref h0), (1, .int v1)] := by rw [e_x1]; exact hl
  clear e_x1
  obtain ⟨x2, e_x2⟩ : ∃ y : Int32, y = (15 : Int32) := ⟨_, rfl⟩
  replace hw := hw x2 e_x2
  replace hl : lv_has ls 6 [(3, .int x1), (2, .int x2), (0, .ref h0), (1, .int v1)] := by rw [e_x2]; exact hl
  clear e_x2
  replace hl := lv_sub (l' := [(3, .int x1), (2, .int x2), (0, .ref h0), (1, .int v1)]) hl [0, 1, 2, 3] rfl
  revert hl; revert hS; revert hD; revert hP; revert ls; revert locs; revert H
  revert hw; revert x2; revert x1
  refine Lz2_gr ?_; intro g3 ih4 x5 x6 hw
  intro H locs ls hP hD hS hl
  refine lv_iload_n hx hb dX12_check_5 rfl (lv_at hl 0 rfl) ?_
  refine lv_iload_n hx hb dX12_check_6 rfl (lv_at hl 3 rfl) ?_
  refine lv_icmp_ge (tgt := 83) hx hb dX12_check_7 (by decide) (fun c7 => ?_) (fun c7 => ?_)
  · replace hw := hw.1 c7; clear c7
    clear ih4
    refine lv_iload_n hx hb dX12_check_83 rfl (lv_at hl 1 rfl) ?_
    subst hQe
    exact W.iret (v := x6) hx hb hr (fun t ht hW => ⟨⟨x6, (), rfl, hw, by rw [ht]; exact hP, va_K.moved hW.alike hK, hD⟩, hS.F ht⟩) hS.2.2 dX12_check_84
  · replace hw := hw.2 c7; clear c7
    refine lv_bipush (v := 7) hx hb dX12_check_10 (by decide) ?_
    refine lv_istore (lv' := [(4, .int (7 : Int32)), (3, .int x5), (2, .int x6), (0, .ref h0), (1, .int v1)]) hx hb dX12_check_12 hl (by decide) rfl ?_; clear hl; clear ls; intro ls hl
    obtain ⟨x8, e_x8⟩ : ∃ y : Int32, y = (7 : Int32) := ⟨_, rfl⟩
    replace hw := hw x8 e_x8
    replace hl : lv_has ls 6 [(4, .int x8), (3, .int x5), (2, .int x6), (0, .ref h0), (1, .int v1)] := by rw [e_x8]; exact hl
    clear e_x8
    replace hl := lv_sub (l' := [(4, .int x8), (3, .int x5), (2, .int x6), (0, .ref h0), (1, .int v1)]) hl [0, 1, 2, 3, 4] rfl
    revert hl; revert hS; revert hD; revert hP; revert ls; revert locs; revert H
    revert hw; revert x6; revert x8
    refine Lz2_gr ?_; intro g9 ih10 x11 x12 hw
    intro H locs ls hP hD hS hl
    refine lv_iload hx hb dX12_check_14 (lv_at hl 0 rfl) ?_
    refine jn0 (Gg := ∀ (H : Heap) (locs : List Loc) (ls : Array Slot), va_P (dC, dI) vwCl (w_X12_check h0 h_row h_kept h_isKept h_aside h_eight h_rows h_scales h_dealt h_bytes h_heardRow h_made h_comes h_backs h_fresh cy c_thrown c_nodeS c_nodeD c_pairE c_pairO c_bit c_lag c_lagSum c_bytes) H → va_D A (w_X12_check h0 h_row h_kept h_isKept h_aside h_eight h_rows h_scales h_dealt h_bytes h_heardRow h_made h_comes h_backs h_fresh cy c_thrown c_nodeS c_nodeD c_pairE c_pairO c_bit c_lag c_lagSum c_bytes) → va_S A s.heap H locs → lv_has ls 6 [(0, .ref h0), (1, .int v1), (2, .int x12), (3, .int x5)] → W p l e { frames := 0, cells := 0, slots := 0, locals := 0 } s m av below meth c H locs 0 0 Q0 (F0 m 77 ls [])) hw ?_ ?_ <;> clear hw
    · clear hP hD hS hl; clear H locs ls; intro  hw H locs ls hP hD hS hl
      clear ih10
      refine lv_iinc (v := x5 + 1) (lv' := [(3, .int (x5 + 1)), (0, .ref h0), (1, .int v1), (2, .int x12)]) hx hb dX12_check_77 hl (k := 3) rfl rfl (by decide) rfl ?_; clear hl; clear ls; intro ls hl
      refine lv_goto (tgt := 5) hx hb dX12_check_80 (by decide) ?_
      exact ih4 (x5 + 1) x12 hw H locs ls hP hD hS (lv_sub hl [0, 3, 1, 2] rfl)
    · intro j14 hw
      refine lv_if_lt (tgt := 77) hx hb dX12_check_16 (by decide) (fun c15 => ?_) (fun c15 => ?_)
      · replace hw := hw.1 c15; clear c15
        exact j14 hw H locs ls hP hD hS (lv_sub hl [3, 4, 2, 1] rfl)
      · replace hw := hw.2 c15; clear c15
        refine lv_iload_n hx hb dX12_check_19 rfl (lv_at hl 1 rfl) ?_
        refine lv_iconst (v := 3) hx hb dX12_check_20 (by decide) ?_
        refine lv_icmp_eq (tgt := 77) hx hb dX12_check_21 (by decide) (fun c16 => ?_) (fun c16 => ?_)
        · replace hw := hw.1 c16; clear c16
          exact j14 hw H locs ls hP hD hS (lv_sub hl [3, 4, 2, 1] rfl)
        · replace hw := hw.2 c16; clear c16
          refine lv_iload_n hx hb dX12_check_24 rfl (lv_at hl 2 rfl) ?_
          refine lv_bipush (v := 7) hx hb dX12_check_25 (by decide) ?_
          refine lv_ishr hx hb dX12_check_27 ?_
          refine lv_iconst (v := 1) hx hb dX12_check_28 (by decide) ?_
          refine lv_iand hx hb dX12_check_29 ?_
          refine lv_aload_n hx hb dX12_check_30 rfl (lv_at hl 3 rfl) ?_
          refine va_get (D := (dC, dI)) (ci := 12) (v := .ref h_bytes) (C := RX12) (T := TX12) (N := 22) hx hb hts inX12 hown hK hP 0 rfl rfl 13 (by decide) (hts _ (List.mem_cons_of_mem _ mw_178)) (fun _ h9 => h9) rfl dX12_check_31 ?_
          refine lv_iload_n hx hb dX12_check_34 rfl (lv_at hl 1 rfl) ?_
          obtain ⟨h17, hw⟩ := hw
          refine xiald (k := x5.toNatClampNeg) hx hb hK hP 1 0 rfl rfl h17 rfl dX12_check_35 ?_
          refine lv_iload hx hb dX12_check_36 (lv_at hl 0 rfl) ?_
          refine lv_ishr hx hb dX12_check_38 ?_
          refine lv_iconst (v := 1) hx hb dX12_check_39 (by decide) ?_
          refine lv_iand hx hb dX12_check_40 ?_
          refine jn1 (Gg := fun (x18 : Int32) => ∀ (H : Heap) (locs : List Loc) (ls : Array Slot), va_P (dC, dI) vwCl (w_X12_check h0 h_row h_kept h_isKept h_aside h_eight h_rows h_scales h_dealt h_bytes h_heardRow h_made h_comes h_backs h_fresh cy c_thrown c_nodeS c_nodeD c_pairE c_pairO c_bit c_lag c_lagSum c_bytes) H → va_D A (w_X12_check h0 h_row h_kept h_isKept h_aside h_eight h_rows h_scales h_dealt h_bytes h_heardRow h_made h_comes h_backs h_fresh cy c_thrown c_nodeS c_nodeD c_pairE c_pairO c_bit c_lag c_lagSum c_bytes) → va_S A s.heap H locs → lv_has ls 6 [(0, .ref h0), (1, .int v1), (2, .int x12), (3, .int x5), (4, .int x11)] → W p l e { frames := 0, cells := 0, slots := 0, locals := 0 } s m av below meth c H locs 0 0 Q0 (F0 m 49 ls [.int x18])) hw ?_ ?_ <;> clear hw
          · clear hP hD hS hl; clear H locs ls; intro x18 hw H locs ls hP hD hS hl
            refine lv_istore (lv' := [(5, .int x18), (0, .ref h0), (1, .int v1), (2, .int x12), (3, .int x5), (4, .int x11)]) hx hb dX12_check_49 hl (by decide) rfl ?_; clear hl; clear ls; intro ls hl
            refine lv_iconst (v := 2) hx hb dX12_check_51 (by decide) ?_
            refine lv_iload_n hx hb dX12_check_52 rfl (lv_at hl 3 rfl) ?_
            refine lv_imul hx hb dX12_check_53 ?_
            refine lv_iload hx hb dX12_check_54 (lv_at hl 0 rfl) ?_
            refine jn1 (Gg := fun (x21 : Int32) => ∀ (H : Heap) (locs : List Loc) (ls : Array Slot), va_P (dC, dI) vwCl (w_X12_check h0 h_row h_kept h_isKept h_aside h_eight h_rows h_scales h_dealt h_bytes h_heardRow h_made h_comes h_backs h_fresh cy c_thrown c_nodeS c_nodeD c_pairE c_pairO c_bit c_lag c_lagSum c_bytes) H → va_D A (w_X12_check h0 h_row h_kept h_isKept h_aside h_eight h_rows h_scales h_dealt h_bytes h_heardRow h_made h_comes h_backs h_fresh cy c_thrown c_nodeS c_nodeD c_pairE c_pairO c_bit c_lag c_lagSum c_bytes) → va_S A s.heap H locs → lv_has ls 6 [(0, .ref h0), (1, .int v1), (3, .int x5), (4, .int x11)] → W p l e { frames := 0, cells := 0, slots := 0, locals := 0 } s m av below meth c H locs 0 0 Q0 (F0 m 65 ls [.int x21, .int ((2 : Int32) * x12)])) hw ?_ ?_ <;> clear hw
            · clear hP hD hS hl; clear H locs ls; intro x21 hw H locs ls hP hD hS hl
              refine lv_ixor hx hb dX12_check_65 ?_
              refine lv_sipush (v := 255) hx hb dX12_check_66 (by decide) ?_
              refine lv_iand hx hb dX12_check_69 ?_
              refine lv_topi (fun x24 e_x24 => ?_)
              replace hw := hw x24 e_x24
              clear e_x24
              refine lv_istore_n (lv' := [(2, .int x24), (0, .ref h0), (1, .int v1), (3, .int x5), (4, .int x11)]) hx hb dX12_check_70 rfl hl (by decide) rfl ?_; clear hl; clear ls; intro ls hl
              refine lv_iinc (v := x11 + (-1)) (lv' := [(4, .int (x11 + (-1))), (2, .int x24), (0, .ref h0), (1, .int v1), (3, .int x5)]) hx hb dX12_check_71 hl (k := 4) rfl rfl (by decide) rfl ?_; clear hl; clear ls; intro ls hl
              refine lv_goto (tgt := 14) hx hb dX12_check_74 (by decide) ?_
              exact ih10 (x11 + (-1)) x24 hw H locs ls hP hD hS (lv_sub hl [0, 4, 1, 2, 3] rfl)
            · intro j23 hw
              refine lv_if_eq (tgt := 64) hx hb dX12_check_56 (by decide) (fun c25 => ?_) (fun c25 => ?_)
              · replace hw := hw.1 c25; clear c25
                refine lv_iconst (v := 0) hx hb dX12_check_64 (by decide) ?_
                exact j23 (0 : Int32) hw H locs ls hP hD hS (lv_sub hl [1, 2, 4, 5] rfl)
              · replace hw := hw.2 c25; clear c25
                refine lv_bipush (v := 29) hx hb dX12_check_59 (by decide) ?_
                refine lv_goto (tgt := 65) hx hb dX12_check_61 (by decide) ?_
                exact j23 (29 : Int32) hw H locs ls hP hD hS (lv_sub hl [1, 2, 4, 5] rfl)
          · intro j20 hw
            refine lv_icmp_eq (tgt := 48) hx hb dX12_check_41 (by decide) (fun c26 => ?_) (fun c26 => ?_)
            · replace hw := hw.1 c26; clear c26
              refine lv_iconst (v := 0) hx hb dX12_check_48 (by decide) ?_
              exact j20 (0 : Int32) hw H locs ls hP hD hS (lv_sub hl [3, 4, 2, 1, 0] rfl)
            · replace hw := hw.2 c26; clear c26
              refine lv_iconst (v := 1) hx hb dX12_check_44 (by decide) ?_
              refine lv_goto (tgt := 49) hx hb dX12_check_45 (by decide) ?_
              exact j20 (1 : Int32) hw H locs ls hP hD hS (lv_sub hl [3, 4, 2, 1, 0] rfl)
set_option maxHeartbeats 4000000 in
set_option maxRecDepth 100000 in
theorem c_X12_layCode (l : Launch) (dC : Nat → ClassId) (dI : Nat → Nat → Nat) (cy : Nat → ClassId) (h0 h_row h_kept h_isKept h_aside h_eight h_rows h_scales h_dealt h_bytes h_heardRow h_made h_comes h_backs h_fresh : Nat) (sz : Nat) (v1 : Int32) (c_thrown : Int32) (c_nodeS : Int32) (c_nodeD : Int32) (c_pairE : Int32) (c_pairO : Int32) (c_bit : Int32) (c_lag : Int32) (c_lagSum : Int32) (c_bytes : Nat → Int32) (c_row : Nat → Int32) (c_scales : Nat → Int32) (c_dealt : Nat → Int32) (post : Int32 → (Nat → Int32) → (Nat → Int32) → (Nat → Int32) → (Nat → Int32) → Prop) (hw : wp_X12_layCode v1 c_bit c_bytes c_row c_scales c_dealt post) : Met l yX12_layCode wsX12_layCode ({ frames := 2, cells := 0, slots := 0, locals := 52 }) (PX dC dI cy [.ref h0, .int v1] sz (w_X12_layCode h0 h_row h_kept h_isKept h_aside h_eight h_rows h_scales h_dealt h_bytes h_heardRow h_made h_comes h_backs h_fresh cy c_thrown c_nodeS c_nodeD c_pairE c_pairO c_bit c_lag c_lagSum c_bytes c_row c_scales c_dealt)) (va_Qv (fun (u : Int32 × (Nat → Int32) × (Nat → Int32) × (Nat → Int32) × (Nat → Int32)) => post u.1 u.2.1 u.2.2.1 u.2.2.2.1 u.2.2.2.2) (QX dC dI cy (va_A (w_X12_layCode h0 h_row h_kept h_isKept h_aside h_eight h_rows h_scales h_dealt h_bytes h_heardRow h_made h_comes h_backs h_fresh cy c_thrown c_nodeS c_nodeD c_pairE c_pairO c_bit c_lag c_lagSum c_bytes c_row c_scales c_dealt) sz) (fun (u : Int32 × (Nat → Int32) × (Nat → Int32) × (Nat → Int32) × (Nat → Int32)) => w_X12_layCode h0 h_row h_kept h_isKept h_aside h_eight h_rows h_scales h_dealt h_bytes h_heardRow h_made h_comes h_backs h_fresh cy c_thrown c_nodeS c_nodeD c_pairE c_pairO u.1 c_lag c_lagSum u.2.1 u.2.2.1 u.2.2.2.1 u.2.2.2.2)) (va_A (w_X12_layCode h0 h_row h_kept h_isKept h_aside h_eight h_rows h_scales h_dealt h_bytes h_heardRow h_made h_comes h_backs h_fresh cy c_thrown c_nodeS c_nodeD c_pairE c_pairO c_bit c_lag c_lagSum c_bytes c_row c_scales c_dealt) sz)) 0 0 (va_A (w_X12_layCode h0 h_row h_kept h_isKept h_aside h_eight h_rows h_scales h_dealt h_bytes h_heardRow h_made h_comes h_backs h_fresh cy c_thrown c_nodeS c_nodeD c_pairE c_pairO c_bit c_lag c_lagSum c_bytes c_row c_scales c_dealt) sz) := by
  refine Met.ofW (cc := cX12_layCode) (maxL := 4) (ret := none) (by decide) rfl ?_
  intro p e s m args below meth c s₁ B hml hv
  obtain ⟨rfl, hsz, hP, hK, hD0, hG⟩ := hv
  have hx := B.exec
  have hb := B.bytes
  have hr := B.returns
  have hts := atoms_spec (ws := wsX12_layCode) B.pre
  have hown : s.vm.findClass RX12 = some m.cls := findClass_of_methodNamed B.named
  have hlocks := B.notSynchronized
  subst hsz
  have hD := hD0.self (sz := s.heap.size)
  generalize hAe : va_A (w_X12_layCode h0 h_row h_kept h_isKept h_aside h_eight h_rows h_scales h_dealt h_bytes h_heardRow h_made h_comes h_backs h_fresh cy c_thrown c_nodeS c_nodeD c_pairE c_pairO c_bit c_lag c_lagSum c_bytes c_row c_scales c_dealt) s.heap.size = A at hD ⊢
  have hA : ∀ q : Nat, s.heap.size ≤ q → A q := fun q h => by rw [← hAe]; exact Or.inr h
  have hS : va_S A s.heap s.heap [] := va_S.rf
  have hl := lv_entry ([.ref h0, .int v1]) (n := 4) (Nat.le_of_ble_eq_true rfl)
  rw [lg_entry_eq]
  generalize (lg_sl ([.ref h0, .int v1]) ++ List.replicate (4 - (lg_sl ([.ref h0, .int v1])).length) Slot.unset).toArray = ls at hl ⊢
  replace hl : lv_has ls 4 [(0, .ref h0), (1, .int v1)] := hl
  have inX12 : ∀ w ∈ u_ws RX12 TX12 22, w ∈ wsX12_layCode := fun w h => List.mem_cons_of_mem _ (inlX12 w h)
  clear hAe hD0 B
  unfold wp_X12_layCode at hw
  generalize hQe : MQ below _ _ s _ _ _ = Q0
  generalize ([.ref h0, .int v1] : List Value).toArray = av at *
  obtain ⟨H, hH⟩ : ∃ H, H = s.heap := ⟨_, rfl⟩
  obtain ⟨locs, hlo⟩ : ∃ L : List Loc, L = [] := ⟨_, rfl⟩
  replace hP : va_P (dC, dI) vwCl (w_X12_layCode h0 h_row h_kept h_isKept h_aside h_eight h_rows h_scales h_dealt h_bytes h_heardRow h_made h_comes h_backs h_fresh cy c_thrown c_nodeS c_nodeD c_pairE c_pairO c_bit c_lag c_lagSum c_bytes c_row c_scales c_dealt) H := by rw [hH]; exact hP
  replace hS : va_S A s.heap H locs := by rw [hH, hlo]; exact hS
  suffices hgo : W p l e ({ frames := 2, cells := 0, slots := 0, locals := 52 }) s m av below meth c H locs 0 0 Q0 (F0 m 0 ls []) by rw [hH, hlo] at hgo; exact hgo
  clear hH hlo
  refine lv_iconst (v := 0) hx hb dX12_layCode_0 (by decide) ?_
  refine lv_istore_n (lv' := [(2, .int (0 : Int32)), (0, .ref h0), (1, .int v1)]) hx hb dX12_layCode_1 rfl hl (by decide) rfl ?_; clear hl; clear ls; intro ls hl
  obtain ⟨x1, e_x1⟩ : ∃ y : Int32, y = (0 : Int32) := ⟨_, rfl⟩
  replace hw := hw x1 e_x1
  replace hl : lv_has ls 4 [(2, .int x1), (0, .ref h0), (1, .int v1)] := by rw [e_x1]; exact hl
  clear e_x1
  replace hl := lv_sub (l' := [(2, .int x1), (0, .ref h0), (1, .int v1)]) hl [0, 1, 2] rfl
  revert hl; revert hS; revert hD; revert hP; revert ls; revert locs; revert H
  revert hw; revert c_bytes; revert x1
  refine Lz2_gr ?_; intro g2 ih3 x4 f5 hw
  intro H locs ls hP hD hS hl
  refine lv_iload_n hx hb dX12_layCode_2 rfl (lv_at hl 0 rfl) ?_
  refine lv_sipush (v := 160) hx hb dX12_layCode_3 (by decide) ?_
  refine lv_icmp_ge (tgt := 22) hx hb dX12_layCode_6 (by decide) (fun c6 => ?_) (fun c6 => ?_)
  · replace hw := hw.1 c6; clear c6
    clear ih3
    refine lv_aload_n hx hb dX12_layCode_22 rfl (lv_at hl 1 rfl) ?_
    refine va_get (D := (dC, dI)) (ci := 12) (v := .ref h_bytes) (C := RX12) (T := TX12) (N := 22) hx hb hts inX12 hown hK hP 0 rfl rfl 13 (by decide) (hts _ (List.mem_cons_of_mem _ mw_178)) (fun _ h9 => h9) rfl dX12_layCode_23 ?_
    refine lv_iconst (v := 0) hx hb dX12_layCode_26 (by decide) ?_
    refine lv_sipush (v := 156) hx hb dX12_layCode_27 (by decide) ?_
    refine xiast (k := 0) hx hb hK hP hD hS 1 0 rfl rfl (vpL 0 160 rfl) (by decide) dX12_layCode_30 ?_; clear hP hD hS; clear H locs; intro f8 e_f8 H locs hP hD hS
    replace hw := hw f8 e_f8
    clear e_f8
    replace hP : va_P (dC, dI) vwCl (w_X12_layCode h0 h_row h_kept h_isKept h_aside h_eight h_rows h_scales h_dealt h_bytes h_heardRow h_made h_comes h_backs h_fresh cy c_thrown c_nodeS c_nodeD c_pairE c_pairO c_bit c_lag c_lagSum f8 c_row c_scales c_dealt) H := hP
    replace hD : va_D A (w_X12_layCode h0 h_row h_kept h_isKept h_aside h_eight h_rows h_scales h_dealt h_bytes h_heardRow h_made h_comes h_backs h_fresh cy c_thrown c_nodeS c_nodeD c_pairE c_pairO c_bit c_lag c_lagSum f8 c_row c_scales c_dealt) := hD
    refine lv_aload_n hx hb dX12_layCode_31 rfl (lv_at hl 1 rfl) ?_
    refine va_get (D := (dC, dI)) (ci := 12) (v := .ref h_bytes) (C := RX12) (T := TX12) (N := 22) hx hb hts inX12 hown hK hP 0 rfl rfl 13 (by decide) (hts _ (List.mem_cons_of_mem _ mw_178)) (fun _ h9 => h9) rfl dX12_layCode_32 ?_
    refine lv_iconst (v := 1) hx hb dX12_layCode_35 (by decide) ?_
    refine lv_sipush (v := 128) hx hb dX12_layCode_36 (by decide) ?_
    refine lv_aload_n hx hb dX12_layCode_39 rfl (lv_at hl 1 rfl) ?_
    refine va_get (D := (dC, dI)) (ci := 12) (v := .ref h_row) (C := RX12) (T := TX12) (N := 22) hx hb hts inX12 hown hK hP 0 rfl rfl 1 (by decide) (hts _ (List.mem_cons_of_mem _ mw_169)) (fun _ h9 => h9) rfl dX12_layCode_40 ?_
    refine lv_bipush (v := 8) hx hb dX12_layCode_43 (by decide) ?_
    refine xiald (k := 8) hx hb hK hP 2 0 rfl rfl (vpL 8 13385 rfl) (by decide) dX12_layCode_45 ?_
    refine lv_imul hx hb dX12_layCode_46 ?_
    refine lv_bipush (v := 64) hx hb dX12_layCode_47 (by decide) ?_
    refine lv_aload_n hx hb dX12_layCode_49 rfl (lv_at hl 1 rfl) ?_
    refine va_get (D := (dC, dI)) (ci := 12) (v := .ref h_row) (C := RX12) (T := TX12) (N := 22) hx hb hts inX12 hown hK hP 0 rfl rfl 1 (by decide) (hts _ (List.mem_cons_of_mem _ mw_169)) (fun _ h9 => h9) rfl dX12_layCode_50 ?_
    refine lv_bipush (v := 9) hx hb dX12_layCode_53 (by decide) ?_
    refine xiald (k := 9) hx hb hK hP 2 0 rfl rfl (vpL 9 13385 rfl) (by decide) dX12_layCode_55 ?_
    refine lv_imul hx hb dX12_layCode_56 ?_
    refine lv_iadd hx hb dX12_layCode_57 ?_
    refine lv_iload_n hx hb dX12_layCode_58 rfl (lv_at hl 2 rfl) ?_
    refine lv_bipush (v := 64) hx hb dX12_layCode_59 (by decide) ?_
    refine lv_irem hx hb dX12_layCode_61 (by decide) ?_
    refine lv_topi (fun x11 e_x11 => ?_)
    replace hw := hw x11 e_x11
    clear e_x11
    refine lv_iadd hx hb dX12_layCode_62 ?_
    refine xiast (k := 1) hx hb hK hP hD hS 1 0 rfl rfl (vpL 1 160 rfl) (by decide) dX12_layCode_63 ?_; clear hP hD hS; clear H locs; intro f13 e_f13 H locs hP hD hS
    replace hw := hw f13 e_f13
    clear e_f13
    replace hP : va_P (dC, dI) vwCl (w_X12_layCode h0 h_row h_kept h_isKept h_aside h_eight h_rows h_scales h_dealt h_bytes h_heardRow h_made h_comes h_backs h_fresh cy c_thrown c_nodeS c_nodeD c_pairE c_pairO c_bit c_lag c_lagSum f13 c_row c_scales c_dealt) H := hP
    replace hD : va_D A (w_X12_layCode h0 h_row h_kept h_isKept h_aside h_eight h_rows h_scales h_dealt h_bytes h_heardRow h_made h_comes h_backs h_fresh cy c_thrown c_nodeS c_nodeD c_pairE c_pairO c_bit c_lag c_lagSum f13 c_row c_scales c_dealt) := hD
    refine lv_aload_n hx hb dX12_layCode_64 rfl (lv_at hl 1 rfl) ?_
    refine va_get (D := (dC, dI)) (ci := 12) (v := .ref h_bytes) (C := RX12) (T := TX12) (N := 22) hx hb hts inX12 hown hK hP 0 rfl rfl 13 (by decide) (hts _ (List.mem_cons_of_mem _ mw_178)) (fun _ h9 => h9) rfl dX12_layCode_65 ?_
    refine lv_iconst (v := 2) hx hb dX12_layCode_68 (by decide) ?_
    refine lv_aload_n hx hb dX12_layCode_69 rfl (lv_at hl 1 rfl) ?_
    refine va_get (D := (dC, dI)) (ci := 12) (v := .ref h_row) (C := RX12) (T := TX12) (N := 22) hx hb hts inX12 hown hK hP 0 rfl rfl 1 (by decide) (hts _ (List.mem_cons_of_mem _ mw_169)) (fun _ h9 => h9) rfl dX12_layCode_70 ?_
    refine lv_bipush (v := 43) hx hb dX12_layCode_73 (by decide) ?_
    refine xiald (k := 43) hx hb hK hP 2 0 rfl rfl (vpL 43 13385 rfl) (by decide) dX12_layCode_75 ?_
    refine xiast (k := 2) hx hb hK hP hD hS 1 0 rfl rfl (vpL 2 160 rfl) (by decide) dX12_layCode_76 ?_; clear hP hD hS; clear H locs; intro f16 e_f16 H locs hP hD hS
    replace hw := hw f16 e_f16
    clear e_f16
    replace hP : va_P (dC, dI) vwCl (w_X12_layCode h0 h_row h_kept h_isKept h_aside h_eight h_rows h_scales h_dealt h_bytes h_heardRow h_made h_comes h_backs h_fresh cy c_thrown c_nodeS c_nodeD c_pairE c_pairO c_bit c_lag c_lagSum f16 c_row c_scales c_dealt) H := hP
    replace hD : va_D A (w_X12_layCode h0 h_row h_kept h_isKept h_aside h_eight h_rows h_scales h_dealt h_bytes h_heardRow h_made h_comes h_backs h_fresh cy c_thrown c_nodeS c_nodeD c_pairE c_pairO c_bit c_lag c_lagSum f16 c_row c_scales c_dealt) := hD
    refine lv_aload_n hx hb dX12_layCode_77 rfl (lv_at hl 1 rfl) ?_
    refine va_get (D := (dC, dI)) (ci := 12) (v := .ref h_bytes) (C := RX12) (T := TX12) (N := 22) hx hb hts inX12 hown hK hP 0 rfl rfl 13 (by decide) (hts _ (List.mem_cons_of_mem _ mw_178)) (fun _ h9 => h9) rfl dX12_layCode_78 ?_
    refine lv_iconst (v := 4) hx hb dX12_layCode_81 (by decide) ?_
    refine lv_aload_n hx hb dX12_layCode_82 rfl (lv_at hl 1 rfl) ?_
    refine va_get (D := (dC, dI)) (ci := 12) (v := .ref h_row) (C := RX12) (T := TX12) (N := 22) hx hb hts inX12 hown hK hP 0 rfl rfl 1 (by decide) (hts _ (List.mem_cons_of_mem _ mw_169)) (fun _ h9 => h9) rfl dX12_layCode_83 ?_
    refine lv_sipush (v := 653) hx hb dX12_layCode_86 (by decide) ?_
    refine xiald (k := 653) hx hb hK hP 2 0 rfl rfl (vpL 653 13385 rfl) (by decide) dX12_layCode_89 ?_
    refine xiast (k := 4) hx hb hK hP hD hS 1 0 rfl rfl (vpL 4 160 rfl) (by decide) dX12_layCode_90 ?_; clear hP hD hS; clear H locs; intro f19 e_f19 H locs hP hD hS
    replace hw := hw f19 e_f19
    clear e_f19
    replace hP : va_P (dC, dI) vwCl (w_X12_layCode h0 h_row h_kept h_isKept h_aside h_eight h_rows h_scales h_dealt h_bytes h_heardRow h_made h_comes h_backs h_fresh cy c_thrown c_nodeS c_nodeD c_pairE c_pairO c_bit c_lag c_lagSum f19 c_row c_scales c_dealt) H := hP
    replace hD : va_D A (w_X12_layCode h0 h_row h_kept h_isKept h_aside h_eight h_rows h_scales h_dealt h_bytes h_heardRow h_made h_comes h_backs h_fresh cy c_thrown c_nodeS c_nodeD c_pairE c_pairO c_bit c_lag c_lagSum f19 c_row c_scales c_dealt) := hD
    refine lv_aload_n hx hb dX12_layCode_91 rfl (lv_at hl 1 rfl) ?_
    refine lv_bipush (v := 40) hx hb dX12_layCode_92 (by decide) ?_
    refine va_put (D := (dC, dI)) (ci := 12) (v := .int (40 : Int32)) (ty := .int) (C := RX12) (T := TX12) (N := 22) hx hb hts inX12 tyX12 tyX12_ok nmX12 hown hK hP hD hS 0 rfl rfl 14 (by decide) (hts _ (List.mem_cons_of_mem _ mw_656)) (fun _ h9 => h9) rfl (by decide +kernel) rfl rfl (Nat.le_of_ble_eq_true rfl) dX12_layCode_94 ?_; clear hP hD hS; clear H locs; intro H locs hP hD hS
    replace hP : va_P (dC, dI) vwCl (w_X12_layCode h0 h_row h_kept h_isKept h_aside h_eight h_rows h_scales h_dealt h_bytes h_heardRow h_made h_comes h_backs h_fresh cy c_thrown c_nodeS c_nodeD c_pairE c_pairO (40 : Int32) c_lag c_lagSum f19 c_row c_scales c_dealt) H := hP
    replace hD : va_D A (w_X12_layCode h0 h_row h_kept h_isKept h_aside h_eight h_rows h_scales h_dealt h_bytes h_heardRow h_made h_comes h_backs h_fresh cy c_thrown c_nodeS c_nodeD c_pairE c_pairO (40 : Int32) c_lag c_lagSum f19 c_row c_scales c_dealt) := hD
    refine lv_iconst (v := 0) hx hb dX12_layCode_97 (by decide) ?_
    refine lv_istore_n (lv' := [(2, .int (0 : Int32)), (0, .ref h0), (1, .int v1)]) hx hb dX12_layCode_98 rfl hl (by decide) rfl ?_; clear hl; clear ls; intro ls hl
    obtain ⟨x20, e_x20⟩ : ∃ y : Int32, y = (0 : Int32) := ⟨_, rfl⟩
    replace hw := hw x20 e_x20
    replace hl : lv_has ls 4 [(2, .int x20), (0, .ref h0), (1, .int v1)] := by rw [e_x20]; exact hl
    clear e_x20
    obtain ⟨x21, e_x21⟩ : ∃ y : Int32, y = (40 : Int32) := ⟨_, rfl⟩
    replace hw := hw x21 e_x21
    replace hP : va_P (dC, dI) vwCl (w_X12_layCode h0 h_row h_kept h_isKept h_aside h_eight h_rows h_scales h_dealt h_bytes h_heardRow h_made h_comes h_backs h_fresh cy c_thrown c_nodeS c_nodeD c_pairE c_pairO x21 c_lag c_lagSum f19 c_row c_scales c_dealt) H ∧ va_D A (w_X12_layCode h0 h_row h_kept h_isKept h_aside h_eight h_rows h_scales h_dealt h_bytes h_heardRow h_made h_comes h_backs h_fresh cy c_thrown c_nodeS c_nodeD c_pairE c_pairO x21 c_lag c_lagSum f19 c_row c_scales c_dealt) := (by rw [e_x21]; exact ⟨hP, hD⟩); clear hD; obtain ⟨hP, hD⟩ := hP
    clear e_x21
    replace hl := lv_sub (l' := [(2, .int x20), (0, .ref h0)]) hl [0, 1] rfl
    revert hl; revert hS; revert hD; revert hP; revert ls; revert locs; revert H
    revert hw; revert c_scales; revert f19; revert x21; revert x20
    refine Lz4_gr ?_; intro g22 ih23 x24 x25 f26 f27 hw
    intro H locs ls hP hD hS hl
    refine lv_iload_n hx hb dX12_layCode_99 rfl (lv_at hl 0 rfl) ?_
    refine lv_bipush (v := 16) hx hb dX12_layCode_100 (by decide) ?_
    refine lv_icmp_ge (tgt := 138) hx hb dX12_layCode_102 (by decide) (fun c28 => ?_) (fun c28 => ?_)
    · replace hw := hw.1 c28; clear c28
      clear ih23
      refine lv_aload_n hx hb dX12_layCode_138 rfl (lv_at hl 1 rfl) ?_
      refine lv_aload_n hx hb dX12_layCode_139 rfl (lv_at hl 1 rfl) ?_
      refine va_get (D := (dC, dI)) (ci := 12) (v := .ref h_row) (C := RX12) (T := TX12) (N := 22) hx hb hts inX12 hown hK hP 0 rfl rfl 1 (by decide) (hts _ (List.mem_cons_of_mem _ mw_169)) (fun _ h9 => h9) rfl dX12_layCode_140 ?_
      refine lv_bipush (v := 43) hx hb dX12_layCode_143 (by decide) ?_
      refine xiald (k := 43) hx hb hK hP 2 0 rfl rfl (vpL 43 13385 rfl) (by decide) dX12_layCode_145 ?_
      refine lv_aload_n hx hb dX12_layCode_146 rfl (lv_at hl 1 rfl) ?_
      refine va_get (D := (dC, dI)) (ci := 12) (v := .ref h_row) (C := RX12) (T := TX12) (N := 22) hx hb hts inX12 hown hK hP 0 rfl rfl 1 (by decide) (hts _ (List.mem_cons_of_mem _ mw_169)) (fun _ h9 => h9) rfl dX12_layCode_147 ?_
      refine lv_bipush (v := 8) hx hb dX12_layCode_150 (by decide) ?_
      refine xiald (k := 8) hx hb hK hP 2 0 rfl rfl (vpL 8 13385 rfl) (by decide) dX12_layCode_152 ?_
      have hPc := pSub (ws' := (w_X12_deal h0 h_row h_kept h_isKept h_aside h_eight h_rows h_scales h_dealt h_bytes h_heardRow h_made h_comes h_backs h_fresh cy c_thrown c_nodeS c_nodeD c_pairE c_pairO x25 c_lag c_lagSum c_dealt f27 c_row)) hP [0, 4, 3, 2] rfl
      have hDc := dSub (ws' := (w_X12_deal h0 h_row h_kept h_isKept h_aside h_eight h_rows h_scales h_dealt h_bytes h_heardRow h_made h_comes h_backs h_fresh cy c_thrown c_nodeS c_nodeD c_pairE c_pairO x25 c_lag c_lagSum c_dealt f27 c_row)) hD [0, 4, 3, 2] (by decide) rfl
      have hFc := va_free (wc := (w_X12_deal h0 h_row h_kept h_isKept h_aside h_eight h_rows h_scales h_dealt h_bytes h_heardRow h_made h_comes h_backs h_fresh cy c_thrown c_nodeS c_nodeD c_pairE c_pairO x25 c_lag c_lagSum c_dealt f27 c_row)) hD hS hA [0, 4, 3, 2] rfl
      refine va_callv (va_runV (As := [.int (c_row 43), .int (c_row 8)]) (rest := []) ⟨hx, hb, hml, hown, hts⟩ (c_X12_deal l dC dI cy h0 h_row h_kept h_isKept h_aside h_eight h_rows h_scales h_dealt h_bytes h_heardRow h_made h_comes h_backs h_fresh H.size (c_row 43) (c_row 8) c_thrown c_nodeS c_nodeD c_pairE c_pairO x25 c_lag c_lagSum c_dealt f27 c_row _ hw) (cwV 2 hts (goodV mw_664 mw_661 mw_662 mw_663 mw_5) rfl rfl rfl (by decide +kernel) ⟨Nat.le_of_ble_eq_true rfl, Nat.le_of_ble_eq_true rfl⟩) ⟨PX_blind, va_recv hK hPc (ci := 12) (q0 := 0) rfl rfl, PX_pre hPc hK hDc hG⟩ rfl rfl hl.1 rfl (lv_room (Nat.le_of_ble_eq_true rfl)) dX12_layCode_153 ⟨Nat.zero_le _, Nat.zero_le _⟩) hS (fun q _ h => hFc q h) hFc ?_; clear hw hS; intro f31 t H1 locs1 ht hvm hw hB hz1 hk1 hS
      obtain ⟨hP1, -, -⟩ := hB
      rw [ht] at hP1
      replace hP := jC0 hP hD [0, 4, 3, 2] [1] rfl hk1 hP1 (w_X12_layCode h0 h_row h_kept h_isKept h_aside h_eight h_rows h_scales h_dealt h_bytes h_heardRow h_made h_comes h_backs h_fresh cy c_thrown c_nodeS c_nodeD c_pairE c_pairO x25 c_lag c_lagSum f26 c_row f27 f31) rfl rfl rfl 5 rfl (by decide +kernel); clear hD; obtain ⟨hP, hD⟩ := hP
      replace hP : va_P (dC, dI) vwCl (w_X12_layCode h0 h_row h_kept h_isKept h_aside h_eight h_rows h_scales h_dealt h_bytes h_heardRow h_made h_comes h_backs h_fresh cy c_thrown c_nodeS c_nodeD c_pairE c_pairO x25 c_lag c_lagSum f26 c_row f27 f31) H1 := hP
      replace hD : va_D A (w_X12_layCode h0 h_row h_kept h_isKept h_aside h_eight h_rows h_scales h_dealt h_bytes h_heardRow h_made h_comes h_backs h_fresh cy c_thrown c_nodeS c_nodeD c_pairE c_pairO x25 c_lag c_lagSum f26 c_row f27 f31) := hD
      clear hPc hDc hFc hP1 hk1 hz1 hvm ht; clear t; clear H locs; obtain ⟨H, hH⟩ : ∃ H, H = H1 := ⟨_, rfl⟩; obtain ⟨locs, hlo⟩ : ∃ L, L = locs1 := ⟨_, rfl⟩; subst hH; subst hlo
      refine W.widen (k := 0) (n := 0) (Nat.le_refl 0) (Nat.le_refl 0) ?_
      refine lv_iconst (v := 0) hx hb dX12_layCode_156 (by decide) ?_
      refine lv_istore_n (lv' := [(2, .int (0 : Int32)), (0, .ref h0)]) hx hb dX12_layCode_157 rfl hl (by decide) rfl ?_; clear hl; clear ls; intro ls hl
      obtain ⟨x32, e_x32⟩ : ∃ y : Int32, y = (0 : Int32) := ⟨_, rfl⟩
      replace hw := hw x32 e_x32
      replace hl : lv_has ls 4 [(2, .int x32), (0, .ref h0)] := by rw [e_x32]; exact hl
      clear e_x32
      replace hl := lv_sub (l' := [(2, .int x32), (0, .ref h0)]) hl [0, 1] rfl
      revert hl; revert hS; revert hD; revert hP; revert ls; revert locs; revert H
      revert hw; revert c_row; revert x32
      refine Lz2_gr ?_; intro g33 ih34 x35 f36 hw
      intro H locs ls hP hD hS hl
      refine lv_iload_n hx hb dX12_layCode_158 rfl (lv_at hl 0 rfl) ?_
      refine lv_bipush (v := 16) hx hb dX12_layCode_159 (by decide) ?_
      refine lv_icmp_ge (tgt := 186) hx hb dX12_layCode_161 (by decide) (fun c37 => ?_) (fun c37 => ?_)
      · replace hw := hw.1 c37; clear c37
        clear ih34
        refine lv_iconst (v := 0) hx hb dX12_layCode_186 (by decide) ?_
        refine lv_istore_n (lv' := [(2, .int (0 : Int32)), (0, .ref h0)]) hx hb dX12_layCode_187 rfl hl (by decide) rfl ?_; clear hl; clear ls; intro ls hl
        obtain ⟨x38, e_x38⟩ : ∃ y : Int32, y = (0 : Int32) := ⟨_, rfl⟩
        replace hw := hw x38 e_x38
        replace hl : lv_has ls 4 [(2, .int x38), (0, .ref h0)] := by rw [e_x38]; exact hl
        clear e_x38
        replace hl := lv_sub (l' := [(2, .int x38), (0, .ref h0)]) hl [0, 1] rfl
        revert hl; revert hS; revert hD; revert hP; revert ls; revert locs; revert H
        revert hw; revert f26; revert x25; revert x38
        refine Lz3_gr ?_; intro g39 ih40 x41 x42 f43 hw
        intro H locs ls hP hD hS hl
        refine lv_iload_n hx hb dX12_layCode_188 rfl (lv_at hl 0 rfl) ?_
        refine lv_iconst (v := 4) hx hb dX12_layCode_189 (by decide) ?_
        refine lv_icmp_ge (tgt := 261) hx hb dX12_layCode_190 (by decide) (fun c44 => ?_) (fun c44 => ?_)
        · replace hw := hw.1 c44; clear c44
          clear ih40
          refine lv_aload_n hx hb dX12_layCode_261 rfl (lv_at hl 1 rfl) ?_
          refine va_get (D := (dC, dI)) (ci := 12) (v := .int x42) (C := RX12) (T := TX12) (N := 22) hx hb hts inX12 hown hK hP 0 rfl rfl 14 (by decide) (hts _ (List.mem_cons_of_mem _ mw_656)) (fun _ h9 => h9) rfl dX12_layCode_262 ?_
          refine lv_bipush (v := 7) hx hb dX12_layCode_265 (by decide) ?_
          refine lv_iadd hx hb dX12_layCode_267 ?_
          refine lv_bipush (v := 8) hx hb dX12_layCode_268 (by decide) ?_
          refine lv_idiv hx hb dX12_layCode_270 (by decide) ?_
          refine lv_topi (fun x45 e_x45 => ?_)
          replace hw := hw x45 e_x45
          clear e_x45
          refine lv_istore_n (lv' := [(2, .int x45), (0, .ref h0)]) hx hb dX12_layCode_271 rfl hl (by decide) rfl ?_; clear hl; clear ls; intro ls hl
          refine lv_aload_n hx hb dX12_layCode_272 rfl (lv_at hl 1 rfl) ?_
          refine va_get (D := (dC, dI)) (ci := 12) (v := .ref h_bytes) (C := RX12) (T := TX12) (N := 22) hx hb hts inX12 hown hK hP 0 rfl rfl 13 (by decide) (hts _ (List.mem_cons_of_mem _ mw_178)) (fun _ h9 => h9) rfl dX12_layCode_273 ?_
          refine lv_iconst (v := 3) hx hb dX12_layCode_276 (by decide) ?_
          refine lv_aload_n hx hb dX12_layCode_277 rfl (lv_at hl 1 rfl) ?_
          refine lv_iload_n hx hb dX12_layCode_278 rfl (lv_at hl 0 rfl) ?_
          have hPc := pSub (ws' := (w_X12_check h0 h_row h_kept h_isKept h_aside h_eight h_rows h_scales h_dealt h_bytes h_heardRow h_made h_comes h_backs h_fresh cy c_thrown c_nodeS c_nodeD c_pairE c_pairO x42 c_lag c_lagSum f43)) hP [0, 1] rfl
          have hDc := dSub (ws' := (w_X12_check h0 h_row h_kept h_isKept h_aside h_eight h_rows h_scales h_dealt h_bytes h_heardRow h_made h_comes h_backs h_fresh cy c_thrown c_nodeS c_nodeD c_pairE c_pairO x42 c_lag c_lagSum f43)) hD [0, 1] (by decide) rfl
          have hFc := va_free (wc := (w_X12_check h0 h_row h_kept h_isKept h_aside h_eight h_rows h_scales h_dealt h_bytes h_heardRow h_made h_comes h_backs h_fresh cy c_thrown c_nodeS c_nodeD c_pairE c_pairO x42 c_lag c_lagSum f43)) hD hS hA [0, 1] rfl
          refine va_calli (va_runV (As := [.int x45]) (rest := [.int (3 : Int32), .ref h_bytes]) ⟨hx, hb, hml, hown, hts⟩ (c_X12_check l dC dI cy h0 h_row h_kept h_isKept h_aside h_eight h_rows h_scales h_dealt h_bytes h_heardRow h_made h_comes h_backs h_fresh H.size x45 c_thrown c_nodeS c_nodeD c_pairE c_pairO x42 c_lag c_lagSum f43 _ hw) (cwV 1 hts (goodV mw_678 mw_675 mw_676 mw_677 mw_5) rfl rfl rfl (by decide +kernel) ⟨Nat.le_of_ble_eq_true rfl, Nat.le_of_ble_eq_true rfl⟩) ⟨PX_blind, va_recv hK hPc (ci := 12) (q0 := 0) rfl rfl, PX_pre hPc hK hDc hG⟩ rfl rfl hl.1 rfl (lv_room (Nat.le_of_ble_eq_true rfl)) dX12_layCode_279 ⟨Nat.zero_le _, Nat.zero_le _⟩) hS (fun q _ h => hFc q h) hFc ?_; clear hw hS; intro r46 _ t H1 locs1 ht hvm hw hB hz1 hk1 hS
          obtain ⟨hP1, -, -⟩ := hB
          rw [ht] at hP1
          replace hP := jC0 hP hD [0, 1] [2, 3, 4] rfl hk1 hP1 (w_X12_layCode h0 h_row h_kept h_isKept h_aside h_eight h_rows h_scales h_dealt h_bytes h_heardRow h_made h_comes h_backs h_fresh cy c_thrown c_nodeS c_nodeD c_pairE c_pairO x42 c_lag c_lagSum f43 f36 f27 f31) rfl rfl rfl 5 rfl (by decide +kernel); clear hD; obtain ⟨hP, hD⟩ := hP
          replace hP : va_P (dC, dI) vwCl (w_X12_layCode h0 h_row h_kept h_isKept h_aside h_eight h_rows h_scales h_dealt h_bytes h_heardRow h_made h_comes h_backs h_fresh cy c_thrown c_nodeS c_nodeD c_pairE c_pairO x42 c_lag c_lagSum f43 f36 f27 f31) H1 := hP
          replace hD : va_D A (w_X12_layCode h0 h_row h_kept h_isKept h_aside h_eight h_rows h_scales h_dealt h_bytes h_heardRow h_made h_comes h_backs h_fresh cy c_thrown c_nodeS c_nodeD c_pairE c_pairO x42 c_lag c_lagSum f43 f36 f27 f31) := hD
          clear hPc hDc hFc hP1 hk1 hz1 hvm ht; clear t; clear H locs; obtain ⟨H, hH⟩ : ∃ H, H = H1 := ⟨_, rfl⟩; obtain ⟨locs, hlo⟩ : ∃ L, L = locs1 := ⟨_, rfl⟩; subst hH; subst hlo
          refine W.widen (k := 0) (n := 0) (Nat.le_refl 0) (Nat.le_refl 0) ?_
          refine xiast (k := 3) hx hb hK hP hD hS 1 0 rfl rfl (vpL 3 160 rfl) (by decide) dX12_layCode_282 ?_; clear hP hD hS; clear H locs; intro f48 e_f48 H locs hP hD hS
          replace hw := hw f48 e_f48
          clear e_f48
          replace hP : va_P (dC, dI) vwCl (w_X12_layCode h0 h_row h_kept h_isKept h_aside h_eight h_rows h_scales h_dealt h_bytes h_heardRow h_made h_comes h_backs h_fresh cy c_thrown c_nodeS c_nodeD c_pairE c_pairO x42 c_lag c_lagSum f48 f36 f27 f31) H := hP
          replace hD : va_D A (w_X12_layCode h0 h_row h_kept h_isKept h_aside h_eight h_rows h_scales h_dealt h_bytes h_heardRow h_made h_comes h_backs h_fresh cy c_thrown c_nodeS c_nodeD c_pairE c_pairO x42 c_lag c_lagSum f48 f36 f27 f31) := hD
          refine lv_aload_n hx hb dX12_layCode_283 rfl (lv_at hl 1 rfl) ?_
          refine va_get (D := (dC, dI)) (ci := 12) (v := .ref h_row) (C := RX12) (T := TX12) (N := 22) hx hb hts inX12 hown hK hP 0 rfl rfl 1 (by decide) (hts _ (List.mem_cons_of_mem _ mw_169)) (fun _ h9 => h9) rfl dX12_layCode_284 ?_
          refine lv_sipush (v := 654) hx hb dX12_layCode_287 (by decide) ?_
          refine lv_iload_n hx hb dX12_layCode_290 rfl (lv_at hl 0 rfl) ?_
          refine xiast (k := 654) hx hb hK hP hD hS 2 0 rfl rfl (vpL 654 13385 rfl) (by decide) dX12_layCode_291 ?_; clear hP hD hS; clear H locs; intro f50 e_f50 H locs hP hD hS
          replace hw := hw f50 e_f50
          clear e_f50
          replace hP : va_P (dC, dI) vwCl (w_X12_layCode h0 h_row h_kept h_isKept h_aside h_eight h_rows h_scales h_dealt h_bytes h_heardRow h_made h_comes h_backs h_fresh cy c_thrown c_nodeS c_nodeD c_pairE c_pairO x42 c_lag c_lagSum f48 f50 f27 f31) H := hP
          replace hD : va_D A (w_X12_layCode h0 h_row h_kept h_isKept h_aside h_eight h_rows h_scales h_dealt h_bytes h_heardRow h_made h_comes h_backs h_fresh cy c_thrown c_nodeS c_nodeD c_pairE c_pairO x42 c_lag c_lagSum f48 f50 f27 f31) := hD
          refine lv_iconst (v := 0) hx hb dX12_layCode_292 (by decide) ?_
          refine lv_istore_n (lv' := [(3, .int (0 : Int32)), (2, .int x45), (0, .ref h0)]) hx hb dX12_layCode_293 rfl hl (by decide) rfl ?_; clear hl; clear ls; intro ls hl
          obtain ⟨x51, e_x51⟩ : ∃ y : Int32, y = (0 : Int32) := ⟨_, rfl⟩
          replace hw := hw x51 e_x51
          replace hl : lv_has ls 4 [(3, .int x51), (2, .int x45), (0, .ref h0)] := by rw [e_x51]; exact hl
          clear e_x51
          replace hl := lv_sub (l' := [(3, .int x51), (2, .int x45), (0, .ref h0)]) hl [0, 1, 2] rfl
          revert hl; revert hS; revert hD; revert hP; revert ls; revert locs; revert H
          revert hw; revert f50; revert x51
          refine Lz2_gr ?_; intro g52 ih53 x54 f55 hw
          intro H locs ls hP hD hS hl
          refine lv_iload_n hx hb dX12_layCode_294 rfl (lv_at hl 0 rfl) ?_
          refine lv_bipush (v := 80) hx hb dX12_layCode_295 (by decide) ?_
          refine lv_icmp_ge (tgt := 331) hx hb dX12_layCode_297 (by decide) (fun c56 => ?_) (fun c56 => ?_)
          · replace hw := hw.1 c56; clear c56
            clear ih53
            subst hQe
            exact W.vret hx hb hr (fun t ht hW => ⟨⟨(x42, f48, f55, f27, f31), rfl, hw, by rw [ht]; exact hP, va_K.moved hW.alike hK, hD⟩, hS.F ht⟩) hS.2.2 dX12_layCode_331
          · replace hw := hw.2 c56; clear c56
            refine lv_aload_n hx hb dX12_layCode_300 rfl (lv_at hl 2 rfl) ?_
            refine va_get (D := (dC, dI)) (ci := 12) (v := .ref h_row) (C := RX12) (T := TX12) (N := 22) hx hb hts inX12 hown hK hP 0 rfl rfl 1 (by decide) (hts _ (List.mem_cons_of_mem _ mw_169)) (fun _ h9 => h9) rfl dX12_layCode_301 ?_
            refine lv_sipush (v := 655) hx hb dX12_layCode_304 (by decide) ?_
            refine lv_iload_n hx hb dX12_layCode_307 rfl (lv_at hl 0 rfl) ?_
            refine lv_iadd hx hb dX12_layCode_308 ?_
            refine lv_iload_n hx hb dX12_layCode_309 rfl (lv_at hl 0 rfl) ?_
            refine lv_iload_n hx hb dX12_layCode_310 rfl (lv_at hl 1 rfl) ?_
            refine jn1 (Gg := fun (x57 : Int32) => ∀ (H : Heap) (locs : List Loc) (ls : Array Slot), va_P (dC, dI) vwCl (w_X12_layCode h0 h_row h_kept h_isKept h_aside h_eight h_rows h_scales h_dealt h_bytes h_heardRow h_made h_comes h_backs h_fresh cy c_thrown c_nodeS c_nodeD c_pairE c_pairO x42 c_lag c_lagSum f48 f55 f27 f31) H → va_D A (w_X12_layCode h0 h_row h_kept h_isKept h_aside h_eight h_rows h_scales h_dealt h_bytes h_heardRow h_made h_comes h_backs h_fresh cy c_thrown c_nodeS c_nodeD c_pairE c_pairO x42 c_lag c_lagSum f48 f55 f27 f31) → va_S A s.heap H locs → lv_has ls 4 [(0, .ref h0), (2, .int x45), (3, .int x54)] → W p l e { frames := 2, cells := 0, slots := 0, locals := 52 } s m av below meth c H locs 0 0 Q0 (F0 m 324 ls [.int x57, .int ((655 : Int32) + x54), .ref h_row])) hw ?_ ?_ <;> clear hw
            · clear hP hD hS hl; clear H locs ls; intro x57 hw H locs ls hP hD hS hl
              obtain ⟨h60, hw⟩ := hw
              refine xiast (k := ((655 : Int32) + x54).toNatClampNeg) hx hb hK hP hD hS 2 0 rfl rfl h60 rfl dX12_layCode_324 ?_; clear hP hD hS; clear H locs; intro f61 e_f61 H locs hP hD hS
              replace hw := hw f61 e_f61
              clear e_f61
              replace hP : va_P (dC, dI) vwCl (w_X12_layCode h0 h_row h_kept h_isKept h_aside h_eight h_rows h_scales h_dealt h_bytes h_heardRow h_made h_comes h_backs h_fresh cy c_thrown c_nodeS c_nodeD c_pairE c_pairO x42 c_lag c_lagSum f48 f61 f27 f31) H := hP
              replace hD : va_D A (w_X12_layCode h0 h_row h_kept h_isKept h_aside h_eight h_rows h_scales h_dealt h_bytes h_heardRow h_made h_comes h_backs h_fresh cy c_thrown c_nodeS c_nodeD c_pairE c_pairO x42 c_lag c_lagSum f48 f61 f27 f31) := hD
              refine lv_iinc (v := x54 + 1) (lv' := [(3, .int (x54 + 1)), (0, .ref h0), (2, .int x45)]) hx hb dX12_layCode_325 hl (k := 2) rfl rfl (by decide) rfl ?_; clear hl; clear ls; intro ls hl
              refine lv_goto (tgt := 294) hx hb dX12_layCode_328 (by decide) ?_
              exact ih53 (x54 + 1) f61 hw H locs ls hP hD hS (lv_sub hl [0, 2, 1] rfl)
            · intro j59 hw
              refine lv_icmp_ge (tgt := 323) hx hb dX12_layCode_311 (by decide) (fun c62 => ?_) (fun c62 => ?_)
              · replace hw := hw.1 c62; clear c62
                refine lv_iconst (v := 0) hx hb dX12_layCode_323 (by decide) ?_
                exact j59 (0 : Int32) hw H locs ls hP hD hS (lv_sub hl [2, 1, 0] rfl)
              · replace hw := hw.2 c62; clear c62
                refine lv_aload_n hx hb dX12_layCode_314 rfl (lv_at hl 2 rfl) ?_
                refine va_get (D := (dC, dI)) (ci := 12) (v := .ref h_bytes) (C := RX12) (T := TX12) (N := 22) hx hb hts inX12 hown hK hP 0 rfl rfl 13 (by decide) (hts _ (List.mem_cons_of_mem _ mw_178)) (fun _ h9 => h9) rfl dX12_layCode_315 ?_
                refine lv_iload_n hx hb dX12_layCode_318 rfl (lv_at hl 0 rfl) ?_
                obtain ⟨h63, hw⟩ := hw
                refine xiald (k := x54.toNatClampNeg) hx hb hK hP 1 0 rfl rfl h63 rfl dX12_layCode_319 ?_
                refine lv_goto (tgt := 324) hx hb dX12_layCode_320 (by decide) ?_
                exact j59 (f48 x54.toNatClampNeg) hw H locs ls hP hD hS (lv_sub hl [2, 1, 0] rfl)
        · replace hw := hw.2 c44; clear c44
          refine lv_iconst (v := 0) hx hb dX12_layCode_193 (by decide) ?_
          refine lv_istore_n (lv' := [(3, .int (0 : Int32)), (2, .int x41), (0, .ref h0)]) hx hb dX12_layCode_194 rfl hl (by decide) rfl ?_; clear hl; clear ls; intro ls hl
          obtain ⟨x64, e_x64⟩ : ∃ y : Int32, y = (0 : Int32) := ⟨_, rfl⟩
          replace hw := hw x64 e_x64
          replace hl : lv_has ls 4 [(3, .int x64), (2, .int x41), (0, .ref h0)] := by rw [e_x64]; exact hl
          clear e_x64
          replace hl := lv_sub (l' := [(3, .int x64), (2, .int x41), (0, .ref h0)]) hl [0, 1, 2] rfl
          revert hl; revert hS; revert hD; revert hP; revert ls; revert locs; revert H
          revert hw; revert f43; revert x42; revert x64
          refine Lz3_gr ?_; intro g65 ih66 x67 x68 f69 hw
          intro H locs ls hP hD hS hl
          refine lv_iload_n hx hb dX12_layCode_195 rfl (lv_at hl 0 rfl) ?_
          refine lv_bipush (v := 16) hx hb dX12_layCode_196 (by decide) ?_
          refine lv_icmp_ge (tgt := 255) hx hb dX12_layCode_198 (by decide) (fun c70 => ?_) (fun c70 => ?_)
          · replace hw := hw.1 c70; clear c70
            clear ih66
            refine lv_iinc (v := x41 + 1) (lv' := [(2, .int (x41 + 1)), (3, .int x67), (0, .ref h0)]) hx hb dX12_layCode_255 hl (k := 1) rfl rfl (by decide) rfl ?_; clear hl; clear ls; intro ls hl
            refine lv_goto (tgt := 188) hx hb dX12_layCode_258 (by decide) ?_
            exact ih40 (x41 + 1) x68 f69 hw H locs ls hP hD hS (lv_sub hl [0, 2] rfl)
          · replace hw := hw.2 c70; clear c70
            refine lv_aload_n hx hb dX12_layCode_201 rfl (lv_at hl 2 rfl) ?_
            refine va_get (D := (dC, dI)) (ci := 12) (v := .ref h_dealt) (C := RX12) (T := TX12) (N := 22) hx hb hts inX12 hown hK hP 0 rfl rfl 12 (by decide) (hts _ (List.mem_cons_of_mem _ mw_177)) (fun _ h9 => h9) rfl dX12_layCode_202 ?_
            refine lv_iload_n hx hb dX12_layCode_205 rfl (lv_at hl 0 rfl) ?_
            obtain ⟨h71, hw⟩ := hw
            refine xiald (k := x67.toNatClampNeg) hx hb hK hP 4 0 rfl rfl h71 rfl dX12_layCode_206 ?_
            refine jn2 (Gg := fun (x72 : Int32) (f73 : (Nat → Int32)) => ∀ (H : Heap) (locs : List Loc) (ls : Array Slot), va_P (dC, dI) vwCl (w_X12_layCode h0 h_row h_kept h_isKept h_aside h_eight h_rows h_scales h_dealt h_bytes h_heardRow h_made h_comes h_backs h_fresh cy c_thrown c_nodeS c_nodeD c_pairE c_pairO x72 c_lag c_lagSum f73 f36 f27 f31) H → va_D A (w_X12_layCode h0 h_row h_kept h_isKept h_aside h_eight h_rows h_scales h_dealt h_bytes h_heardRow h_made h_comes h_backs h_fresh cy c_thrown c_nodeS c_nodeD c_pairE c_pairO x72 c_lag c_lagSum f73 f36 f27 f31) → va_S A s.heap H locs → lv_has ls 4 [(0, .ref h0), (2, .int x41), (3, .int x67)] → W p l e { frames := 2, cells := 0, slots := 0, locals := 52 } s m av below meth c H locs 0 0 Q0 (F0 m 249 ls [])) hw ?_ ?_ <;> clear hw
            · clear hP hD hS hl; clear H locs ls; intro x72 f73 hw H locs ls hP hD hS hl
              refine lv_iinc (v := x67 + 1) (lv' := [(3, .int (x67 + 1)), (0, .ref h0), (2, .int x41)]) hx hb dX12_layCode_249 hl (k := 2) rfl rfl (by decide) rfl ?_; clear hl; clear ls; intro ls hl
              refine lv_goto (tgt := 195) hx hb dX12_layCode_252 (by decide) ?_
              exact ih66 (x67 + 1) x72 f73 hw H locs ls hP hD hS (lv_sub hl [0, 2, 1] rfl)
            · intro j75 hw
              refine lv_if_le (tgt := 249) hx hb dX12_layCode_207 (by decide) (fun c76 => ?_) (fun c76 => ?_)
              · replace hw := hw.1 c76; clear c76
                exact j75 x68 f69 hw H locs ls hP hD hS (lv_sub hl [2, 1, 0] rfl)
              · replace hw := hw.2 c76; clear c76
                refine lv_aload_n hx hb dX12_layCode_210 rfl (lv_at hl 2 rfl) ?_
                refine lv_aload_n hx hb dX12_layCode_211 rfl (lv_at hl 2 rfl) ?_
                refine va_get (D := (dC, dI)) (ci := 12) (v := .ref h_row) (C := RX12) (T := TX12) (N := 22) hx hb hts inX12 hown hK hP 0 rfl rfl 1 (by decide) (hts _ (List.mem_cons_of_mem _ mw_169)) (fun _ h9 => h9) rfl dX12_layCode_212 ?_
                refine lv_sipush (v := 557) hx hb dX12_layCode_215 (by decide) ?_
                refine lv_iconst (v := 4) hx hb dX12_layCode_218 (by decide) ?_
                refine lv_iload_n hx hb dX12_layCode_219 rfl (lv_at hl 0 rfl) ?_
                refine lv_imul hx hb dX12_layCode_220 ?_
                refine lv_iadd hx hb dX12_layCode_221 ?_
                refine lv_iload_n hx hb dX12_layCode_222 rfl (lv_at hl 1 rfl) ?_
                refine lv_iadd hx hb dX12_layCode_223 ?_
                obtain ⟨h77, hw⟩ := hw
                refine xiald (k := (((557 : Int32) + ((4 : Int32) * x67)) + x41).toNatClampNeg) hx hb hK hP 2 0 rfl rfl h77 rfl dX12_layCode_224 ?_
                refine lv_aload_n hx hb dX12_layCode_225 rfl (lv_at hl 2 rfl) ?_
                refine va_get (D := (dC, dI)) (ci := 12) (v := .ref h_scales) (C := RX12) (T := TX12) (N := 22) hx hb hts inX12 hown hK hP 0 rfl rfl 11 (by decide) (hts _ (List.mem_cons_of_mem _ mw_176)) (fun _ h9 => h9) rfl dX12_layCode_226 ?_
                refine lv_iload_n hx hb dX12_layCode_229 rfl (lv_at hl 0 rfl) ?_
                obtain ⟨h78, hw⟩ := hw
                refine xiald (k := x67.toNatClampNeg) hx hb hK hP 3 0 rfl rfl h78 rfl dX12_layCode_230 ?_
                refine lv_aload_n hx hb dX12_layCode_231 rfl (lv_at hl 2 rfl) ?_
                refine va_get (D := (dC, dI)) (ci := 12) (v := .ref h_dealt) (C := RX12) (T := TX12) (N := 22) hx hb hts inX12 hown hK hP 0 rfl rfl 12 (by decide) (hts _ (List.mem_cons_of_mem _ mw_177)) (fun _ h9 => h9) rfl dX12_layCode_232 ?_
                refine lv_iload_n hx hb dX12_layCode_235 rfl (lv_at hl 0 rfl) ?_
                obtain ⟨h79, hw⟩ := hw
                refine xiald (k := x67.toNatClampNeg) hx hb hK hP 4 0 rfl rfl h79 rfl dX12_layCode_236 ?_
                have hPc := pSub (ws' := (w_X12_quant cy)) hP [] rfl
                have hDc := dSub (ws' := (w_X12_quant cy)) hD [] (by decide) rfl
                have hFc := va_free (wc := (w_X12_quant cy)) hD hS hA [] rfl
                refine va_calli (va_runS (As := [.int (f36 (((557 : Int32) + ((4 : Int32) * x67)) + x41).toNatClampNeg), .int (f27 x67.toNatClampNeg), .int (f31 x67.toNatClampNeg)]) (rest := [.ref h0]) ⟨hx, hb, hml, hown, hts⟩ (c_X12_quant l dC dI cy  H.size (f36 (((557 : Int32) + ((4 : Int32) * x67)) + x41).toNatClampNeg) (f27 x67.toNatClampNeg) (f31 x67.toNatClampNeg) _ hw) (va_cwS 3 hts (goodS mw_671 mw_669 mw_670 mw_5) rfl rfl rfl (by decide +kernel) ⟨Nat.le_of_ble_eq_true rfl, Nat.le_of_ble_eq_true rfl⟩) ⟨PX_blind, PX_pre hPc hK hDc hG⟩ rfl rfl hl.1 rfl (lv_room (Nat.le_of_ble_eq_true rfl)) dX12_layCode_237 ⟨Nat.zero_le _, Nat.zero_le _⟩) hS (fun q _ h => hFc q h) hFc ?_; clear hw hS; intro r80 _ t H1 locs1 ht hvm hw hB hz1 hk1 hS
                obtain ⟨hP1, -, -⟩ := hB
                rw [ht] at hP1
                replace hP := jC0 hP hD [] [0, 1, 2, 3, 4] rfl hk1 hP1 (w_X12_layCode h0 h_row h_kept h_isKept h_aside h_eight h_rows h_scales h_dealt h_bytes h_heardRow h_made h_comes h_backs h_fresh cy c_thrown c_nodeS c_nodeD c_pairE c_pairO x68 c_lag c_lagSum f69 f36 f27 f31) rfl rfl rfl 5 rfl (by decide +kernel); clear hD; obtain ⟨hP, hD⟩ := hP
                replace hP : va_P (dC, dI) vwCl (w_X12_layCode h0 h_row h_kept h_isKept h_aside h_eight h_rows h_scales h_dealt h_bytes h_heardRow h_made h_comes h_backs h_fresh cy c_thrown c_nodeS c_nodeD c_pairE c_pairO x68 c_lag c_lagSum f69 f36 f27 f31) H1 := hP
                replace hD : va_D A (w_X12_layCode h0 h_row h_kept h_isKept h_aside h_eight h_rows h_scales h_dealt h_bytes h_heardRow h_made h_comes h_backs h_fresh cy c_thrown c_nodeS c_nodeD c_pairE c_pairO x68 c_lag c_lagSum f69 f36 f27 f31) := hD
                clear hPc hDc hFc hP1 hk1 hz1 hvm ht; clear t; clear H locs; obtain ⟨H, hH⟩ : ∃ H, H = H1 := ⟨_, rfl⟩; obtain ⟨locs, hlo⟩ : ∃ L, L = locs1 := ⟨_, rfl⟩; subst hH; subst hlo
                refine W.widen (k := 0) (n := 0) (Nat.le_refl 0) (Nat.le_refl 0) ?_
                refine lv_aload_n hx hb dX12_layCode_240 rfl (lv_at hl 2 rfl) ?_
                refine va_get (D := (dC, dI)) (ci := 12) (v := .ref h_dealt) (C := RX12) (T := TX12) (N := 22) hx hb hts inX12 hown hK hP 0 rfl rfl 12 (by decide) (hts _ (List.mem_cons_of_mem _ mw_177)) (fun _ h9 => h9) rfl dX12_layCode_241 ?_
                refine lv_iload_n hx hb dX12_layCode_244 rfl (lv_at hl 0 rfl) ?_
                obtain ⟨h81, hw⟩ := hw
                refine xiald (k := x67.toNatClampNeg) hx hb hK hP 4 0 rfl rfl h81 rfl dX12_layCode_245 ?_
                have hPc := pSub (ws' := (w_X12_putBits h0 h_row h_kept h_isKept h_aside h_eight h_rows h_scales h_dealt h_bytes h_heardRow h_made h_comes h_backs h_fresh cy c_thrown c_nodeS c_nodeD c_pairE c_pairO x68 c_lag c_lagSum f69)) hP [0, 1] rfl
                have hDc := dSub (ws' := (w_X12_putBits h0 h_row h_kept h_isKept h_aside h_eight h_rows h_scales h_dealt h_bytes h_heardRow h_made h_comes h_backs h_fresh cy c_thrown c_nodeS c_nodeD c_pairE c_pairO x68 c_lag c_lagSum f69)) hD [0, 1] (by decide) rfl
                have hFc := va_free (wc := (w_X12_putBits h0 h_row h_kept h_isKept h_aside h_eight h_rows h_scales h_dealt h_bytes h_heardRow h_made h_comes h_backs h_fresh cy c_thrown c_nodeS c_nodeD c_pairE c_pairO x68 c_lag c_lagSum f69)) hD hS hA [0, 1] rfl
                refine va_callv (va_runV (As := [.int r80, .int (f31 x67.toNatClampNeg)]) (rest := []) ⟨hx, hb, hml, hown, hts⟩ (c_X12_putBits l dC dI cy h0 h_row h_kept h_isKept h_aside h_eight h_rows h_scales h_dealt h_bytes h_heardRow h_made h_comes h_backs h_fresh H.size r80 (f31 x67.toNatClampNeg) c_thrown c_nodeS c_nodeD c_pairE c_pairO x68 c_lag c_lagSum f69 _ hw) (cwV 2 hts (goodV mw_660 mw_657 mw_658 mw_659 mw_5) rfl rfl rfl (by decide +kernel) ⟨Nat.le_of_ble_eq_true rfl, Nat.le_of_ble_eq_true rfl⟩) ⟨PX_blind, va_recv hK hPc (ci := 12) (q0 := 0) rfl rfl, PX_pre hPc hK hDc hG⟩ rfl rfl hl.1 rfl (lv_room (Nat.le_of_ble_eq_true rfl)) dX12_layCode_246 ⟨Nat.zero_le _, Nat.zero_le _⟩) hS (fun q _ h => hFc q h) hFc ?_; clear hw hS; intro u t H1 locs1 ht hvm hw hB hz1 hk1 hS
                obtain ⟨x82, f83⟩ := u
                try dsimp only at hw
                obtain ⟨hP1, -, -⟩ := hB
                rw [ht] at hP1
                replace hP := jC0 hP hD [0, 1] [2, 3, 4] rfl hk1 hP1 (w_X12_layCode h0 h_row h_kept h_isKept h_aside h_eight h_rows h_scales h_dealt h_bytes h_heardRow h_made h_comes h_backs h_fresh cy c_thrown c_nodeS c_nodeD c_pairE c_pairO x82 c_lag c_lagSum f83 f36 f27 f31) rfl rfl rfl 5 rfl (by decide +kernel); clear hD; obtain ⟨hP, hD⟩ := hP
                replace hP : va_P (dC, dI) vwCl (w_X12_layCode h0 h_row h_kept h_isKept h_aside h_eight h_rows h_scales h_dealt h_bytes h_heardRow h_made h_comes h_backs h_fresh cy c_thrown c_nodeS c_nodeD c_pairE c_pairO x82 c_lag c_lagSum f83 f36 f27 f31) H1 := hP
                replace hD : va_D A (w_X12_layCode h0 h_row h_kept h_isKept h_aside h_eight h_rows h_scales h_dealt h_bytes h_heardRow h_made h_comes h_backs h_fresh cy c_thrown c_nodeS c_nodeD c_pairE c_pairO x82 c_lag c_lagSum f83 f36 f27 f31) := hD
                clear hPc hDc hFc hP1 hk1 hz1 hvm ht; clear t; clear H locs; obtain ⟨H, hH⟩ : ∃ H, H = H1 := ⟨_, rfl⟩; obtain ⟨locs, hlo⟩ : ∃ L, L = locs1 := ⟨_, rfl⟩; subst hH; subst hlo
                refine W.widen (k := 0) (n := 0) (Nat.le_refl 0) (Nat.le_refl 0) ?_
                exact j75 x82 f83 hw H locs ls hP hD hS (lv_sub hl [2, 1, 0] rfl)
      · replace hw := hw.2 c37; clear c37
        refine lv_aload_n hx hb dX12_layCode_164 rfl (lv_at hl 1 rfl) ?_
        refine va_get (D := (dC, dI)) (ci := 12) (v := .ref h_row) (C := RX12) (T := TX12) (N := 22) hx hb hts inX12 hown hK hP 0 rfl rfl 1 (by decide) (hts _ (List.mem_cons_of_mem _ mw_169)) (fun _ h9 => h9) rfl dX12_layCode_165 ?_
        refine lv_sipush (v := 637) hx hb dX12_layCode_168 (by decide) ?_
        refine lv_iload_n hx hb dX12_layCode_171 rfl (lv_at hl 0 rfl) ?_
        refine lv_iadd hx hb dX12_layCode_172 ?_
        refine lv_aload_n hx hb dX12_layCode_173 rfl (lv_at hl 1 rfl) ?_
        refine va_get (D := (dC, dI)) (ci := 12) (v := .ref h_dealt) (C := RX12) (T := TX12) (N := 22) hx hb hts inX12 hown hK hP 0 rfl rfl 12 (by decide) (hts _ (List.mem_cons_of_mem _ mw_177)) (fun _ h9 => h9) rfl dX12_layCode_174 ?_
        refine lv_iload_n hx hb dX12_layCode_177 rfl (lv_at hl 0 rfl) ?_
        obtain ⟨h84, hw⟩ := hw
        refine xiald (k := x35.toNatClampNeg) hx hb hK hP 4 0 rfl rfl h84 rfl dX12_layCode_178 ?_
        obtain ⟨h85, hw⟩ := hw
        refine xiast (k := ((637 : Int32) + x35).toNatClampNeg) hx hb hK hP hD hS 2 0 rfl rfl h85 rfl dX12_layCode_179 ?_; clear hP hD hS; clear H locs; intro f86 e_f86 H locs hP hD hS
        replace hw := hw f86 e_f86
        clear e_f86
        replace hP : va_P (dC, dI) vwCl (w_X12_layCode h0 h_row h_kept h_isKept h_aside h_eight h_rows h_scales h_dealt h_bytes h_heardRow h_made h_comes h_backs h_fresh cy c_thrown c_nodeS c_nodeD c_pairE c_pairO x25 c_lag c_lagSum f26 f86 f27 f31) H := hP
        replace hD : va_D A (w_X12_layCode h0 h_row h_kept h_isKept h_aside h_eight h_rows h_scales h_dealt h_bytes h_heardRow h_made h_comes h_backs h_fresh cy c_thrown c_nodeS c_nodeD c_pairE c_pairO x25 c_lag c_lagSum f26 f86 f27 f31) := hD
        refine lv_iinc (v := x35 + 1) (lv' := [(2, .int (x35 + 1)), (0, .ref h0)]) hx hb dX12_layCode_180 hl (k := 0) rfl rfl (by decide) rfl ?_; clear hl; clear ls; intro ls hl
        refine lv_goto (tgt := 158) hx hb dX12_layCode_183 (by decide) ?_
        exact ih34 (x35 + 1) f86 hw H locs ls hP hD hS (lv_sub hl [0, 1] rfl)
    · replace hw := hw.2 c28; clear c28
      refine lv_aload_n hx hb dX12_layCode_105 rfl (lv_at hl 1 rfl) ?_
      refine va_get (D := (dC, dI)) (ci := 12) (v := .ref h_scales) (C := RX12) (T := TX12) (N := 22) hx hb hts inX12 hown hK hP 0 rfl rfl 11 (by decide) (hts _ (List.mem_cons_of_mem _ mw_176)) (fun _ h9 => h9) rfl dX12_layCode_106 ?_
      refine lv_iload_n hx hb dX12_layCode_109 rfl (lv_at hl 0 rfl) ?_
      refine lv_aload_n hx hb dX12_layCode_110 rfl (lv_at hl 1 rfl) ?_
      refine va_get (D := (dC, dI)) (ci := 12) (v := .ref h_row) (C := RX12) (T := TX12) (N := 22) hx hb hts inX12 hown hK hP 0 rfl rfl 1 (by decide) (hts _ (List.mem_cons_of_mem _ mw_169)) (fun _ h9 => h9) rfl dX12_layCode_111 ?_
      refine lv_sipush (v := 621) hx hb dX12_layCode_114 (by decide) ?_
      refine lv_iload_n hx hb dX12_layCode_117 rfl (lv_at hl 0 rfl) ?_
      refine lv_iadd hx hb dX12_layCode_118 ?_
      obtain ⟨h87, hw⟩ := hw
      refine xiald (k := ((621 : Int32) + x24).toNatClampNeg) hx hb hK hP 2 0 rfl rfl h87 rfl dX12_layCode_119 ?_
      obtain ⟨h88, hw⟩ := hw
      refine xiast (k := x24.toNatClampNeg) hx hb hK hP hD hS 3 0 rfl rfl h88 rfl dX12_layCode_120 ?_; clear hP hD hS; clear H locs; intro f89 e_f89 H locs hP hD hS
      replace hw := hw f89 e_f89
      clear e_f89
      replace hP : va_P (dC, dI) vwCl (w_X12_layCode h0 h_row h_kept h_isKept h_aside h_eight h_rows h_scales h_dealt h_bytes h_heardRow h_made h_comes h_backs h_fresh cy c_thrown c_nodeS c_nodeD c_pairE c_pairO x25 c_lag c_lagSum f26 c_row f89 c_dealt) H := hP
      replace hD : va_D A (w_X12_layCode h0 h_row h_kept h_isKept h_aside h_eight h_rows h_scales h_dealt h_bytes h_heardRow h_made h_comes h_backs h_fresh cy c_thrown c_nodeS c_nodeD c_pairE c_pairO x25 c_lag c_lagSum f26 c_row f89 c_dealt) := hD
      refine lv_aload_n hx hb dX12_layCode_121 rfl (lv_at hl 1 rfl) ?_
      refine lv_aload_n hx hb dX12_layCode_122 rfl (lv_at hl 1 rfl) ?_
      refine va_get (D := (dC, dI)) (ci := 12) (v := .ref h_scales) (C := RX12) (T := TX12) (N := 22) hx hb hts inX12 hown hK hP 0 rfl rfl 11 (by decide) (hts _ (List.mem_cons_of_mem _ mw_176)) (fun _ h9 => h9) rfl dX12_layCode_123 ?_
      refine lv_iload_n hx hb dX12_layCode_126 rfl (lv_at hl 0 rfl) ?_
      obtain ⟨h90, hw⟩ := hw
      refine xiald (k := x24.toNatClampNeg) hx hb hK hP 3 0 rfl rfl h90 rfl dX12_layCode_127 ?_
      refine lv_iconst (v := 4) hx hb dX12_layCode_128 (by decide) ?_
      have hPc := pSub (ws' := (w_X12_putBits h0 h_row h_kept h_isKept h_aside h_eight h_rows h_scales h_dealt h_bytes h_heardRow h_made h_comes h_backs h_fresh cy c_thrown c_nodeS c_nodeD c_pairE c_pairO x25 c_lag c_lagSum f26)) hP [0, 1] rfl
      have hDc := dSub (ws' := (w_X12_putBits h0 h_row h_kept h_isKept h_aside h_eight h_rows h_scales h_dealt h_bytes h_heardRow h_made h_comes h_backs h_fresh cy c_thrown c_nodeS c_nodeD c_pairE c_pairO x25 c_lag c_lagSum f26)) hD [0, 1] (by decide) rfl
      have hFc := va_free (wc := (w_X12_putBits h0 h_row h_kept h_isKept h_aside h_eight h_rows h_scales h_dealt h_bytes h_heardRow h_made h_comes h_backs h_fresh cy c_thrown c_nodeS c_nodeD c_pairE c_pairO x25 c_lag c_lagSum f26)) hD hS hA [0, 1] rfl
      refine va_callv (va_runV (As := [.int (f89 x24.toNatClampNeg), .int (4 : Int32)]) (rest := []) ⟨hx, hb, hml, hown, hts⟩ (c_X12_putBits l dC dI cy h0 h_row h_kept h_isKept h_aside h_eight h_rows h_scales h_dealt h_bytes h_heardRow h_made h_comes h_backs h_fresh H.size (f89 x24.toNatClampNeg) (4 : Int32) c_thrown c_nodeS c_nodeD c_pairE c_pairO x25 c_lag c_lagSum f26 _ hw) (cwV 2 hts (goodV mw_660 mw_657 mw_658 mw_659 mw_5) rfl rfl rfl (by decide +kernel) ⟨Nat.le_of_ble_eq_true rfl, Nat.le_of_ble_eq_true rfl⟩) ⟨PX_blind, va_recv hK hPc (ci := 12) (q0 := 0) rfl rfl, PX_pre hPc hK hDc hG⟩ rfl rfl hl.1 rfl (lv_room (Nat.le_of_ble_eq_true rfl)) dX12_layCode_129 ⟨Nat.zero_le _, Nat.zero_le _⟩) hS (fun q _ h => hFc q h) hFc ?_; clear hw hS; intro u t H1 locs1 ht hvm hw hB hz1 hk1 hS
      obtain ⟨x91, f92⟩ := u
      try dsimp only at hw
      obtain ⟨hP1, -, -⟩ := hB
      rw [ht] at hP1
      replace hP := jC0 hP hD [0, 1] [2, 3, 4] rfl hk1 hP1 (w_X12_layCode h0 h_row h_kept h_isKept h_aside h_eight h_rows h_scales h_dealt h_bytes h_heardRow h_made h_comes h_backs h_fresh cy c_thrown c_nodeS c_nodeD c_pairE c_pairO x91 c_lag c_lagSum f92 c_row f89 c_dealt) rfl rfl rfl 5 rfl (by decide +kernel); clear hD; obtain ⟨hP, hD⟩ := hP
      replace hP : va_P (dC, dI) vwCl (w_X12_layCode h0 h_row h_kept h_isKept h_aside h_eight h_rows h_scales h_dealt h_bytes h_heardRow h_made h_comes h_backs h_fresh cy c_thrown c_nodeS c_nodeD c_pairE c_pairO x91 c_lag c_lagSum f92 c_row f89 c_dealt) H1 := hP
      replace hD : va_D A (w_X12_layCode h0 h_row h_kept h_isKept h_aside h_eight h_rows h_scales h_dealt h_bytes h_heardRow h_made h_comes h_backs h_fresh cy c_thrown c_nodeS c_nodeD c_pairE c_pairO x91 c_lag c_lagSum f92 c_row f89 c_dealt) := hD
      clear hPc hDc hFc hP1 hk1 hz1 hvm ht; clear t; clear H locs; obtain ⟨H, hH⟩ : ∃ H, H = H1 := ⟨_, rfl⟩; obtain ⟨locs, hlo⟩ : ∃ L, L = locs1 := ⟨_, rfl⟩; subst hH; subst hlo
      refine W.widen (k := 0) (n := 0) (Nat.le_refl 0) (Nat.le_refl 0) ?_
      refine lv_iinc (v := x24 + 1) (lv' := [(2, .int (x24 + 1)), (0, .ref h0)]) hx hb dX12_layCode_132 hl (k := 0) rfl rfl (by decide) rfl ?_; clear hl; clear ls; intro ls hl
      refine lv_goto (tgt := 99) hx hb dX12_layCode_135 (by decide) ?_
      exact ih23 (x24 + 1) x91 f92 f89 hw H locs ls hP hD hS (lv_sub hl [0, 1] rfl)
  · replace hw := hw.2 c6; clear c6
    refine lv_aload_n hx hb dX12_layCode_9 rfl (lv_at hl 1 rfl) ?_
    refine va_get (D := (dC, dI)) (ci := 12) (v := .ref h_bytes) (C := RX12) (T := TX12) (N := 22) hx hb hts inX12 hown hK hP 0 rfl rfl 13 (by decide) (hts _ (List.mem_cons_of_mem _ mw_178)) (fun _ h9 => h9) rfl dX12_layCode_10 ?_
    refine lv_iload_n hx hb dX12_layCode_13 rfl (lv_at hl 0 rfl) ?_
    refine lv_iconst (v := 0) hx hb dX12_layCode_14 (by decide) ?_
    obtain ⟨h93, hw⟩ := hw
    refine xiast (k := x4.toNatClampNeg) hx hb hK hP hD hS 1 0 rfl rfl h93 rfl dX12_layCode_15 ?_; clear hP hD hS; clear H locs; intro f94 e_f94 H locs hP hD hS
    replace hw := hw f94 e_f94
    clear e_f94
    replace hP : va_P (dC, dI) vwCl (w_X12_layCode h0 h_row h_kept h_isKept h_aside h_eight h_rows h_scales h_dealt h_bytes h_heardRow h_made h_comes h_backs h_fresh cy c_thrown c_nodeS c_nodeD c_pairE c_pairO c_bit c_lag c_lagSum f94 c_row c_scales c_dealt) H := hP
    replace hD : va_D A (w_X12_layCode h0 h_row h_kept h_isKept h_aside h_eight h_rows h_scales h_dealt h_bytes h_heardRow h_made h_comes h_backs h_fresh cy c_thrown c_nodeS c_nodeD c_pairE c_pairO c_bit c_lag c_lagSum f94 c_row c_scales c_dealt) := hD
    refine lv_iinc (v := x4 + 1) (lv' := [(2, .int (x4 + 1)), (0, .ref h0), (1, .int v1)]) hx hb dX12_layCode_16 hl (k := 0) rfl rfl (by decide) rfl ?_; clear hl; clear ls; intro ls hl
    refine lv_goto (tgt := 2) hx hb dX12_layCode_19 (by decide) ?_
    exact ih3 (x4 + 1) f94 hw H locs ls hP hD hS (lv_sub hl [0, 1, 2] rfl)
set_option maxHeartbeats 4000000 in
set_option maxRecDepth 100000 in
theorem c_X12_lineAt (l : Launch) (dC : Nat → ClassId) (dI : Nat → Nat → Nat) (cy : Nat → ClassId) (sz : Nat) (v0 : Int32) (post : Int32 → Prop) (hw : wp_X12_lineAt v0 post) : Met l yX12_lineAt wsX12_lineAt ({ frames := 0, cells := 0, slots := 0, locals := 0 }) (PX dC dI cy [.int v0] sz (w_X12_lineAt cy)) (va_Qi (fun (r : Int32) (u : Unit) => post r) (QX dC dI cy (va_A (w_X12_lineAt cy) sz) (fun (u : Unit) => w_X12_lineAt cy)) (va_A (w_X12_lineAt cy) sz)) 0 0 (va_A (w_X12_lineAt cy) sz) := by
  refine Met.ofW (cc := cX12_lineAt) (maxL := 1) (ret := (some .int)) (by decide) rfl ?_
  intro p e s m args below meth c s₁ B hml hv
  obtain ⟨rfl, hsz, hP, hK, hD0, hG⟩ := hv
  have hx := B.exec
  have hb := B.bytes
  have hr := B.returns
  have hts := atoms_spec (ws := wsX12_lineAt) B.pre
  have hown : s.vm.findClass RX12 = some m.cls := findClass_of_methodNamed B.named
  have hlocks := B.notSynchronized
  subst hsz
  have hD := hD0.self (sz := s.heap.size)
  generalize hAe : va_A (w_X12_lineAt cy) s.heap.size = A at hD ⊢
  have hA : ∀ q : Nat, s.heap.size ≤ q → A q := fun q h => by rw [← hAe]; exact Or.inr h
  have hS : va_S A s.heap s.heap [] := va_S.rf
  have hl := lv_entry ([.int v0]) (n := 1) (Nat.le_of_ble_eq_true rfl)
  rw [lg_entry_eq]
  generalize (lg_sl ([.int v0]) ++ List.replicate (1 - (lg_sl ([.int v0])).length) Slot.unset).toArray = ls at hl ⊢
  replace hl : lv_has ls 1 [(0, .int v0)] := hl
  clear hAe hD0 B
  unfold wp_X12_lineAt at hw
  generalize hQe : MQ below _ _ s _ _ _ = Q0
  generalize ([.int v0] : List Value).toArray = av at *
  obtain ⟨H, hH⟩ : ∃ H, H = s.heap := ⟨_, rfl⟩
  obtain ⟨locs, hlo⟩ : ∃ L : List Loc, L = [] := ⟨_, rfl⟩
  replace hP : va_P (dC, dI) vwCl (w_X12_lineAt cy) H := by rw [hH]; exact hP
  replace hS : va_S A s.heap H locs := by rw [hH, hlo]; exact hS
  suffices hgo : W p l e ({ frames := 0, cells := 0, slots := 0, locals := 0 }) s m av below meth c H locs 0 0 Q0 (F0 m 0 ls []) by rw [hH, hlo] at hgo; exact hgo
  clear hH hlo
  refine lv_sipush (v := 735) hx hb dX12_lineAt_0 (by decide) ?_
  refine lv_sipush (v := 170) hx hb dX12_lineAt_3 (by decide) ?_
  refine lv_iload_n hx hb dX12_lineAt_6 rfl (lv_at hl 0 rfl) ?_
  refine lv_imul hx hb dX12_lineAt_7 ?_
  refine lv_iadd hx hb dX12_lineAt_8 ?_
  subst hQe
  exact W.iret (v := (735 : Int32) + ((170 : Int32) * v0)) hx hb hr (fun t ht hW => ⟨⟨((735 : Int32) + ((170 : Int32) * v0)), (), rfl, hw, by rw [ht]; exact hP, va_K.moved hW.alike hK, hD⟩, hS.F ht⟩) hS.2.2 dX12_lineAt_9
set_option maxHeartbeats 4000000 in
set_option maxRecDepth 100000 in
theorem c_X12_packetAt (l : Launch) (dC : Nat → ClassId) (dI : Nat → Nat → Nat) (cy : Nat → ClassId) (sz : Nat) (v0 : Int32) (post : Int32 → Prop) (hw : wp_X12_packetAt v0 post) : Met l yX12_packetAt wsX12_packetAt ({ frames := 0, cells := 0, slots := 0, locals := 0 }) (PX dC dI cy [.int v0] sz (w_X12_packetAt cy)) (va_Qi (fun (r : Int32) (u : Unit) => post r) (QX dC dI cy (va_A (w_X12_packetAt cy) sz) (fun (u : Unit) => w_X12_packetAt cy)) (va_A (w_X12_packetAt cy) sz)) 0 0 (va_A (w_X12_packetAt cy) sz) := by
  refine Met.ofW (cc := cX12_packetAt) (maxL := 1) (ret := (some .int)) (by decide) rfl ?_
  intro p e s m args below meth c s₁ B hml hv
  obtain ⟨rfl, hsz, hP, hK, hD0, hG⟩ := hv
  have hx := B.exec
  have hb := B.bytes
  have hr := B.returns
  have hts := atoms_spec (ws := wsX12_packetAt) B.pre
  have hown : s.vm.findClass RX12 = some m.cls := findClass_of_methodNamed B.named
  have hlocks := B.notSynchronized
  subst hsz
  have hD := hD0.self (sz := s.heap.size)
  generalize hAe : va_A (w_X12_packetAt cy) s.heap.size = A at hD ⊢
  have hA : ∀ q : Nat, s.heap.size ≤ q → A q := fun q h => by rw [← hAe]; exact Or.inr h
  have hS : va_S A s.heap s.heap [] := va_S.rf
  have hl := lv_entry ([.int v0]) (n := 1) (Nat.le_of_ble_eq_true rfl)
  rw [lg_entry_eq]
  generalize (lg_sl ([.int v0]) ++ List.replicate (1 - (lg_sl ([.int v0])).length) Slot.unset).toArray = ls at hl ⊢
  replace hl : lv_has ls 1 [(0, .int v0)] := hl
  clear hAe hD0 B
  unfold wp_X12_packetAt at hw
  generalize hQe : MQ below _ _ s _ _ _ = Q0
  generalize ([.int v0] : List Value).toArray = av at *
  obtain ⟨H, hH⟩ : ∃ H, H = s.heap := ⟨_, rfl⟩
  obtain ⟨locs, hlo⟩ : ∃ L : List Loc, L = [] := ⟨_, rfl⟩
  replace hP : va_P (dC, dI) vwCl (w_X12_packetAt cy) H := by rw [hH]; exact hP
  replace hS : va_S A s.heap H locs := by rw [hH, hlo]; exact hS
  suffices hgo : W p l e ({ frames := 0, cells := 0, slots := 0, locals := 0 }) s m av below meth c H locs 0 0 Q0 (F0 m 0 ls []) by rw [hH, hlo] at hgo; exact hgo
  clear hH hlo
  refine lv_sipush (v := 3385) hx hb dX12_packetAt_0 (by decide) ?_
  refine lv_iconst (v := 4) hx hb dX12_packetAt_3 (by decide) ?_
  refine lv_iload_n hx hb dX12_packetAt_4 rfl (lv_at hl 0 rfl) ?_
  refine lv_imul hx hb dX12_packetAt_5 ?_
  refine lv_iadd hx hb dX12_packetAt_6 ?_
  subst hQe
  exact W.iret (v := (3385 : Int32) + ((4 : Int32) * v0)) hx hb hr (fun t ht hW => ⟨⟨((3385 : Int32) + ((4 : Int32) * v0)), (), rfl, hw, by rw [ht]; exact hP, va_K.moved hW.alike hK, hD⟩, hS.F ht⟩) hS.2.2 dX12_packetAt_7
set_option maxHeartbeats 4000000 in
set_option maxRecDepth 100000 in
theorem c_X12_steers (l : Launch) (dC : Nat → ClassId) (dI : Nat → Nat → Nat) (cy : Nat → ClassId) (h0 h_row h_kept h_isKept h_aside h_eight h_rows h_scales h_dealt h_bytes h_heardRow h_made h_comes h_backs h_fresh : Nat) (sz : Nat) (c_thrown : Int32) (c_nodeS : Int32) (c_nodeD : Int32) (c_pairE : Int32) (c_pairO : Int32) (c_bit : Int32) (c_lag : Int32) (c_lagSum : Int32) (c_row : Nat → Int32) (post : (Nat → Int32) → Prop) (hw : wp_X12_steers c_row post) : Met l yX12_steers wsX12_steers ({ frames := 1, cells := 0, slots := 0, locals := 25 }) (PX dC dI cy [.ref h0] sz (w_X12_steers h0 h_row h_kept h_isKept h_aside h_eight h_rows h_scales h_dealt h_bytes h_heardRow h_made h_comes h_backs h_fresh cy c_thrown c_nodeS c_nodeD c_pairE c_pairO c_bit c_lag c_lagSum c_row)) (va_Qv (fun (u : (Nat → Int32)) => post u) (QX dC dI cy (va_A (w_X12_steers h0 h_row h_kept h_isKept h_aside h_eight h_rows h_scales h_dealt h_bytes h_heardRow h_made h_comes h_backs h_fresh cy c_thrown c_nodeS c_nodeD c_pairE c_pairO c_bit c_lag c_lagSum c_row) sz) (fun (u : (Nat → Int32)) => w_X12_steers h0 h_row h_kept h_isKept h_aside h_eight h_rows h_scales h_dealt h_bytes h_heardRow h_made h_comes h_backs h_fresh cy c_thrown c_nodeS c_nodeD c_pairE c_pairO c_bit c_lag c_lagSum u)) (va_A (w_X12_steers h0 h_row h_kept h_isKept h_aside h_eight h_rows h_scales h_dealt h_bytes h_heardRow h_made h_comes h_backs h_fresh cy c_thrown c_nodeS c_nodeD c_pairE c_pairO c_bit c_lag c_lagSum c_row) sz)) 0 0 (va_A (w_X12_steers h0 h_row h_kept h_isKept h_aside h_eight h_rows h_scales h_dealt h_bytes h_heardRow h_made h_comes h_backs h_fresh cy c_thrown c_nodeS c_nodeD c_pairE c_pairO c_bit c_lag c_lagSum c_row) sz) := by
  refine Met.ofW (cc := cX12_steers) (maxL := 2) (ret := none) (by decide) rfl ?_
  intro p e s m args below meth c s₁ B hml hv
  obtain ⟨rfl, hsz, hP, hK, hD0, hG⟩ := hv
  have hx := B.exec
  have hb := B.bytes
  have hr := B.returns
  have hts := atoms_spec (ws := wsX12_steers) B.pre
  have hown : s.vm.findClass RX12 = some m.cls := findClass_of_methodNamed B.named
  have hlocks := B.notSynchronized
  subst hsz
  have hD := hD0.self (sz := s.heap.size)
  generalize hAe : va_A (w_X12_steers h0 h_row h_kept h_isKept h_aside h_eight h_rows h_scales h_dealt h_bytes h_heardRow h_made h_comes h_backs h_fresh cy c_thrown c_nodeS c_nodeD c_pairE c_pairO c_bit c_lag c_lagSum c_row) s.heap.size = A at hD ⊢
  have hA : ∀ q : Nat, s.heap.size ≤ q → A q := fun q h => by rw [← hAe]; exact Or.inr h
  have hS : va_S A s.heap s.heap [] := va_S.rf
  have hl := lv_entry ([.ref h0]) (n := 2) (Nat.le_of_ble_eq_true rfl)
  rw [lg_entry_eq]
  generalize (lg_sl ([.ref h0]) ++ List.replicate (2 - (lg_sl ([.ref h0])).length) Slot.unset).toArray = ls at hl ⊢
  replace hl : lv_has ls 2 [(0, .ref h0)] := hl
  have inX12 : ∀ w ∈ u_ws RX12 TX12 22, w ∈ wsX12_steers := fun w h => List.mem_cons_of_mem _ (inlX12 w h)
  clear hAe hD0 B
  unfold wp_X12_steers at hw
  generalize hQe : MQ below _ _ s _ _ _ = Q0
  generalize ([.ref h0] : List Value).toArray = av at *
  obtain ⟨H, hH⟩ : ∃ H, H = s.heap := ⟨_, rfl⟩
  obtain ⟨locs, hlo⟩ : ∃ L : List Loc, L = [] := ⟨_, rfl⟩
  replace hP : va_P (dC, dI) vwCl (w_X12_steers h0 h_row h_kept h_isKept h_aside h_eight h_rows h_scales h_dealt h_bytes h_heardRow h_made h_comes h_backs h_fresh cy c_thrown c_nodeS c_nodeD c_pairE c_pairO c_bit c_lag c_lagSum c_row) H := by rw [hH]; exact hP
  replace hS : va_S A s.heap H locs := by rw [hH, hlo]; exact hS
  suffices hgo : W p l e ({ frames := 1, cells := 0, slots := 0, locals := 25 }) s m av below meth c H locs 0 0 Q0 (F0 m 0 ls []) by rw [hH, hlo] at hgo; exact hgo
  clear hH hlo
  refine lv_aload_n hx hb dX12_steers_0 rfl (lv_at hl 0 rfl) ?_
  refine va_get (D := (dC, dI)) (ci := 12) (v := .ref h_row) (C := RX12) (T := TX12) (N := 22) hx hb hts inX12 hown hK hP 0 rfl rfl 1 (by decide) (hts _ (List.mem_cons_of_mem _ mw_169)) (fun _ h9 => h9) rfl dX12_steers_1 ?_
  refine lv_bipush (v := 15) hx hb dX12_steers_4 (by decide) ?_
  refine xiald (k := 15) hx hb hK hP 1 0 rfl rfl (vpL 15 13385 rfl) (by decide) dX12_steers_6 ?_
  refine lv_iconst (v := 1) hx hb dX12_steers_7 (by decide) ?_
  refine jn1 (Gg := fun (f2 : (Nat → Int32)) => ∀ (H : Heap) (locs : List Loc) (ls : Array Slot), va_P (dC, dI) vwCl (w_X12_steers h0 h_row h_kept h_isKept h_aside h_eight h_rows h_scales h_dealt h_bytes h_heardRow h_made h_comes h_backs h_fresh cy c_thrown c_nodeS c_nodeD c_pairE c_pairO c_bit c_lag c_lagSum f2) H → va_D A (w_X12_steers h0 h_row h_kept h_isKept h_aside h_eight h_rows h_scales h_dealt h_bytes h_heardRow h_made h_comes h_backs h_fresh cy c_thrown c_nodeS c_nodeD c_pairE c_pairO c_bit c_lag c_lagSum f2) → va_S A s.heap H locs → lv_has ls 2 [(0, .ref h0)] → W p l e { frames := 1, cells := 0, slots := 0, locals := 25 } s m av below meth c H locs 0 0 Q0 (F0 m 74 ls [])) hw ?_ ?_ <;> clear hw
  · clear hP hD hS hl; clear H locs ls; intro f2 hw H locs ls hP hD hS hl
    refine lv_aload_n hx hb dX12_steers_74 rfl (lv_at hl 0 rfl) ?_
    refine va_get (D := (dC, dI)) (ci := 12) (v := .ref h_row) (C := RX12) (T := TX12) (N := 22) hx hb hts inX12 hown hK hP 0 rfl rfl 1 (by decide) (hts _ (List.mem_cons_of_mem _ mw_169)) (fun _ h9 => h9) rfl dX12_steers_75 ?_
    refine lv_bipush (v := 50) hx hb dX12_steers_78 (by decide) ?_
    refine lv_iconst (v := 0) hx hb dX12_steers_80 (by decide) ?_
    refine xiast (k := 50) hx hb hK hP hD hS 1 0 rfl rfl (vpL 50 13385 rfl) (by decide) dX12_steers_81 ?_; clear hP hD hS; clear H locs; intro f6 e_f6 H locs hP hD hS
    replace hw := hw f6 e_f6
    clear e_f6
    replace hP : va_P (dC, dI) vwCl (w_X12_steers h0 h_row h_kept h_isKept h_aside h_eight h_rows h_scales h_dealt h_bytes h_heardRow h_made h_comes h_backs h_fresh cy c_thrown c_nodeS c_nodeD c_pairE c_pairO c_bit c_lag c_lagSum f6) H := hP
    replace hD : va_D A (w_X12_steers h0 h_row h_kept h_isKept h_aside h_eight h_rows h_scales h_dealt h_bytes h_heardRow h_made h_comes h_backs h_fresh cy c_thrown c_nodeS c_nodeD c_pairE c_pairO c_bit c_lag c_lagSum f6) := hD
    subst hQe
    exact W.vret hx hb hr (fun t ht hW => ⟨⟨f6, rfl, hw, by rw [ht]; exact hP, va_K.moved hW.alike hK, hD⟩, hS.F ht⟩) hS.2.2 dX12_steers_82
  · intro j4 hw
    refine lv_icmp_ne (tgt := 74) hx hb dX12_steers_8 (by decide) (fun c7 => ?_) (fun c7 => ?_)
    · replace hw := hw.2 c7; clear c7
      exact j4 c_row hw H locs ls hP hD hS (lv_sub hl [0] rfl)
    · replace hw := hw.1 c7; clear c7
      refine lv_aload_n hx hb dX12_steers_11 rfl (lv_at hl 0 rfl) ?_
      refine va_get (D := (dC, dI)) (ci := 12) (v := .ref h_row) (C := RX12) (T := TX12) (N := 22) hx hb hts inX12 hown hK hP 0 rfl rfl 1 (by decide) (hts _ (List.mem_cons_of_mem _ mw_169)) (fun _ h9 => h9) rfl dX12_steers_12 ?_
      refine lv_bipush (v := 43) hx hb dX12_steers_15 (by decide) ?_
      refine xiald (k := 43) hx hb hK hP 1 0 rfl rfl (vpL 43 13385 rfl) (by decide) dX12_steers_17 ?_
      refine lv_topi (fun x9 e_x9 => ?_)
      replace hw := hw x9 e_x9
      clear e_x9
      refine lv_istore_n (lv' := [(1, .int x9), (0, .ref h0)]) hx hb dX12_steers_18 rfl hl (by decide) rfl ?_; clear hl; clear ls; intro ls hl
      refine lv_aload_n hx hb dX12_steers_19 rfl (lv_at hl 1 rfl) ?_
      refine va_get (D := (dC, dI)) (ci := 12) (v := .ref h_row) (C := RX12) (T := TX12) (N := 22) hx hb hts inX12 hown hK hP 0 rfl rfl 1 (by decide) (hts _ (List.mem_cons_of_mem _ mw_169)) (fun _ h9 => h9) rfl dX12_steers_20 ?_
      refine lv_bipush (v := 43) hx hb dX12_steers_23 (by decide) ?_
      refine lv_aload_n hx hb dX12_steers_25 rfl (lv_at hl 1 rfl) ?_
      refine va_get (D := (dC, dI)) (ci := 12) (v := .ref h_row) (C := RX12) (T := TX12) (N := 22) hx hb hts inX12 hown hK hP 0 rfl rfl 1 (by decide) (hts _ (List.mem_cons_of_mem _ mw_169)) (fun _ h9 => h9) rfl dX12_steers_26 ?_
      refine lv_bipush (v := 50) hx hb dX12_steers_29 (by decide) ?_
      refine xiald (k := 50) hx hb hK hP 1 0 rfl rfl (vpL 50 13385 rfl) (by decide) dX12_steers_31 ?_
      refine jn1 (Gg := fun (x11 : Int32) => ∀ (H : Heap) (locs : List Loc) (ls : Array Slot), va_P (dC, dI) vwCl (w_X12_steers h0 h_row h_kept h_isKept h_aside h_eight h_rows h_scales h_dealt h_bytes h_heardRow h_made h_comes h_backs h_fresh cy c_thrown c_nodeS c_nodeD c_pairE c_pairO c_bit c_lag c_lagSum c_row) H → va_D A (w_X12_steers h0 h_row h_kept h_isKept h_aside h_eight h_rows h_scales h_dealt h_bytes h_heardRow h_made h_comes h_backs h_fresh cy c_thrown c_nodeS c_nodeD c_pairE c_pairO c_bit c_lag c_lagSum c_row) → va_S A s.heap H locs → lv_has ls 2 [(0, .ref h0)] → W p l e { frames := 1, cells := 0, slots := 0, locals := 25 } s m av below meth c H locs 0 0 Q0 (F0 m 73 ls [.int x11, .int (43 : Int32), .ref h_row])) hw ?_ ?_ <;> clear hw
      · clear hP hD hS hl; clear H locs ls; intro x11 hw H locs ls hP hD hS hl
        refine xiast (k := 43) hx hb hK hP hD hS 1 0 rfl rfl (vpL 43 13385 rfl) (by decide) dX12_steers_73 ?_; clear hP hD hS; clear H locs; intro f15 e_f15 H locs hP hD hS
        replace hw := hw f15 e_f15
        clear e_f15
        replace hP : va_P (dC, dI) vwCl (w_X12_steers h0 h_row h_kept h_isKept h_aside h_eight h_rows h_scales h_dealt h_bytes h_heardRow h_made h_comes h_backs h_fresh cy c_thrown c_nodeS c_nodeD c_pairE c_pairO c_bit c_lag c_lagSum f15) H := hP
        replace hD : va_D A (w_X12_steers h0 h_row h_kept h_isKept h_aside h_eight h_rows h_scales h_dealt h_bytes h_heardRow h_made h_comes h_backs h_fresh cy c_thrown c_nodeS c_nodeD c_pairE c_pairO c_bit c_lag c_lagSum f15) := hD
        exact j4 f15 hw H locs ls hP hD hS (lv_sub hl [0] rfl)
      · intro j13 hw
        refine lv_if_le (tgt := 53) hx hb dX12_steers_32 (by decide) (fun c16 => ?_) (fun c16 => ?_)
        · replace hw := hw.1 c16; clear c16
          refine lv_iload_n hx hb dX12_steers_53 rfl (lv_at hl 0 rfl) ?_
          refine lv_i2l (v := x9.toInt64) hx hb dX12_steers_54 rfl ?_
          refine lv_ldc2 (v := 2) hx hb hown (hts _ (List.mem_cons_of_mem _ mw_201)) dX12_steers_55 ?_
          refine lv_ladd hx hb dX12_steers_58 ?_
          refine lv_ldc2 (v := 2) hx hb hown (hts _ (List.mem_cons_of_mem _ mw_201)) dX12_steers_59 ?_
          refine lv_aload_n hx hb dX12_steers_62 rfl (lv_at hl 1 rfl) ?_
          refine va_get (D := (dC, dI)) (ci := 12) (v := .ref h_row) (C := RX12) (T := TX12) (N := 22) hx hb hts inX12 hown hK hP 0 rfl rfl 1 (by decide) (hts _ (List.mem_cons_of_mem _ mw_169)) (fun _ h9 => h9) rfl dX12_steers_63 ?_
          refine lv_bipush (v := 7) hx hb dX12_steers_66 (by decide) ?_
          refine xiald (k := 7) hx hb hK hP 1 0 rfl rfl (vpL 7 13385 rfl) (by decide) dX12_steers_68 ?_
          refine lv_i2l (v := (c_row 7).toInt64) hx hb dX12_steers_69 rfl ?_
          have hPc := pSub (ws' := (w_X12_nearest cy)) hP [] rfl
          have hDc := dSub (ws' := (w_X12_nearest cy)) hD [] (by decide) rfl
          have hFc := va_free (wc := (w_X12_nearest cy)) hD hS hA [] rfl
          refine va_calli (va_runS (As := [.long ((x9.toInt64) + (2 : Int64)), .long (2 : Int64), .long ((c_row 7).toInt64)]) (rest := [.int (43 : Int32), .ref h_row]) ⟨hx, hb, hml, hown, hts⟩ (c_X12_nearest l dC dI cy  H.size ((x9.toInt64) + (2 : Int64)) (2 : Int64) ((c_row 7).toInt64) _ hw) (va_cwS 3 hts (goodS mw_616 mw_614 mw_615 mw_5) rfl rfl rfl (by decide +kernel) ⟨Nat.le_of_ble_eq_true rfl, Nat.le_of_ble_eq_true rfl⟩) ⟨PX_blind, PX_pre hPc hK hDc hG⟩ rfl rfl hl.1 rfl (lv_room (Nat.le_of_ble_eq_true rfl)) dX12_steers_70 ⟨Nat.zero_le _, Nat.zero_le _⟩) hS (fun q _ h => hFc q h) hFc ?_; clear hw hS; intro r18 _ t H1 locs1 ht hvm hw hB hz1 hk1 hS
          obtain ⟨hP1, -, -⟩ := hB
          rw [ht] at hP1
          replace hP := jC0 hP hD [] [0, 1] rfl hk1 hP1 (w_X12_steers h0 h_row h_kept h_isKept h_aside h_eight h_rows h_scales h_dealt h_bytes h_heardRow h_made h_comes h_backs h_fresh cy c_thrown c_nodeS c_nodeD c_pairE c_pairO c_bit c_lag c_lagSum c_row) rfl rfl rfl 2 rfl (by decide +kernel); clear hD; obtain ⟨hP, hD⟩ := hP
          replace hP : va_P (dC, dI) vwCl (w_X12_steers h0 h_row h_kept h_isKept h_aside h_eight h_rows h_scales h_dealt h_bytes h_heardRow h_made h_comes h_backs h_fresh cy c_thrown c_nodeS c_nodeD c_pairE c_pairO c_bit c_lag c_lagSum c_row) H1 := hP
          replace hD : va_D A (w_X12_steers h0 h_row h_kept h_isKept h_aside h_eight h_rows h_scales h_dealt h_bytes h_heardRow h_made h_comes h_backs h_fresh cy c_thrown c_nodeS c_nodeD c_pairE c_pairO c_bit c_lag c_lagSum c_row) := hD
          clear hPc hDc hFc hP1 hk1 hz1 hvm ht; clear t; clear H locs; obtain ⟨H, hH⟩ : ∃ H, H = H1 := ⟨_, rfl⟩; obtain ⟨locs, hlo⟩ : ∃ L, L = locs1 := ⟨_, rfl⟩; subst hH; subst hlo
          refine W.widen (k := 0) (n := 0) (Nat.le_refl 0) (Nat.le_refl 0) ?_
          exact j13 r18 hw H locs ls hP hD hS (lv_sub hl [1] rfl)
        · replace hw := hw.2 c16; clear c16
          refine lv_iconst (v := 3) hx hb dX12_steers_35 (by decide) ?_
          refine lv_iload_n hx hb dX12_steers_36 rfl (lv_at hl 0 rfl) ?_
          refine lv_imul hx hb dX12_steers_37 ?_
          refine lv_iconst (v := 4) hx hb dX12_steers_38 (by decide) ?_
          refine lv_idiv hx hb dX12_steers_39 (by decide) ?_
          refine lv_topi (fun x19 e_x19 => ?_)
          replace hw := hw x19 e_x19
          clear e_x19
          refine lv_i2l (v := x19.toInt64) hx hb dX12_steers_40 rfl ?_
          refine lv_ldc2 (v := 2) hx hb hown (hts _ (List.mem_cons_of_mem _ mw_201)) dX12_steers_41 ?_
          refine lv_ldc2 (v := 128) hx hb hown (hts _ (List.mem_cons_of_mem _ mw_223)) dX12_steers_44 ?_
          have hPc := pSub (ws' := (w_X12_nearest cy)) hP [] rfl
          have hDc := dSub (ws' := (w_X12_nearest cy)) hD [] (by decide) rfl
          have hFc := va_free (wc := (w_X12_nearest cy)) hD hS hA [] rfl
          refine va_calli (va_runS (As := [.long (x19.toInt64), .long (2 : Int64), .long (128 : Int64)]) (rest := [.int (43 : Int32), .ref h_row]) ⟨hx, hb, hml, hown, hts⟩ (c_X12_nearest l dC dI cy  H.size (x19.toInt64) (2 : Int64) (128 : Int64) _ hw) (va_cwS 3 hts (goodS mw_616 mw_614 mw_615 mw_5) rfl rfl rfl (by decide +kernel) ⟨Nat.le_of_ble_eq_true rfl, Nat.le_of_ble_eq_true rfl⟩) ⟨PX_blind, PX_pre hPc hK hDc hG⟩ rfl rfl hl.1 rfl (lv_room (Nat.le_of_ble_eq_true rfl)) dX12_steers_47 ⟨Nat.zero_le _, Nat.zero_le _⟩) hS (fun q _ h => hFc q h) hFc ?_; clear hw hS; intro r20 _ t H1 locs1 ht hvm hw hB hz1 hk1 hS
          obtain ⟨hP1, -, -⟩ := hB
          rw [ht] at hP1
          replace hP := jC0 hP hD [] [0, 1] rfl hk1 hP1 (w_X12_steers h0 h_row h_kept h_isKept h_aside h_eight h_rows h_scales h_dealt h_bytes h_heardRow h_made h_comes h_backs h_fresh cy c_thrown c_nodeS c_nodeD c_pairE c_pairO c_bit c_lag c_lagSum c_row) rfl rfl rfl 2 rfl (by decide +kernel); clear hD; obtain ⟨hP, hD⟩ := hP
          replace hP : va_P (dC, dI) vwCl (w_X12_steers h0 h_row h_kept h_isKept h_aside h_eight h_rows h_scales h_dealt h_bytes h_heardRow h_made h_comes h_backs h_fresh cy c_thrown c_nodeS c_nodeD c_pairE c_pairO c_bit c_lag c_lagSum c_row) H1 := hP
          replace hD : va_D A (w_X12_steers h0 h_row h_kept h_isKept h_aside h_eight h_rows h_scales h_dealt h_bytes h_heardRow h_made h_comes h_backs h_fresh cy c_thrown c_nodeS c_nodeD c_pairE c_pairO c_bit c_lag c_lagSum c_row) := hD
          clear hPc hDc hFc hP1 hk1 hz1 hvm ht; clear t; clear H locs; obtain ⟨H, hH⟩ : ∃ H, H = H1 := ⟨_, rfl⟩; obtain ⟨locs, hlo⟩ : ∃ L, L = locs1 := ⟨_, rfl⟩; subst hH; subst hlo
          refine W.widen (k := 0) (n := 0) (Nat.le_refl 0) (Nat.le_refl 0) ?_
          refine lv_goto (tgt := 73) hx hb dX12_steers_50 (by decide) ?_
          exact j13 r20 hw H locs ls hP hD hS (lv_sub hl [1] rfl)
set_option maxHeartbeats 4000000 in
set_option maxRecDepth 100000 in
theorem c_X12_codeFrame (l : Launch) (dC : Nat → ClassId) (dI : Nat → Nat → Nat) (cy : Nat → ClassId) (h0 h_row h_kept h_isKept h_aside h_eight h_rows h_scales h_dealt h_bytes h_heardRow h_made h_comes h_backs h_fresh : Nat) (sz : Nat) (v1 : Int32) (c_thrown : Int32) (c_nodeS : Int32) (c_nodeD : Int32) (c_pairE : Int32) (c_pairO : Int32) (c_bit : Int32) (c_lag : Int32) (c_lagSum : Int32) (c_row : Nat → Int32) (c_eight : Nat → Int32) (c_rows : Nat → Int32) (c_bytes : Nat → Int32) (c_scales : Nat → Int32) (c_dealt : Nat → Int32) (post : Int32 → Int32 → Int32 → (Nat → Int32) → (Nat → Int32) → (Nat → Int32) → (Nat → Int32) → (Nat → Int32) → (Nat → Int32) → Prop) (hw : wp_X12_codeFrame v1 c_nodeS c_nodeD c_bit c_row c_eight c_rows c_bytes c_scales c_dealt post) : Met l yX12_codeFrame wsX12_codeFrame ({ frames := 4, cells := 0, slots := 0, locals := 96 }) (PX dC dI cy [.ref h0, .int v1] sz (w_X12_codeFrame h0 h_row h_kept h_isKept h_aside h_eight h_rows h_scales h_dealt h_bytes h_heardRow h_made h_comes h_backs h_fresh cy c_thrown c_nodeS c_nodeD c_pairE c_pairO c_bit c_lag c_lagSum c_row c_eight c_rows c_bytes c_scales c_dealt)) (va_Qv (fun (u : Int32 × Int32 × Int32 × (Nat → Int32) × (Nat → Int32) × (Nat → Int32) × (Nat → Int32) × (Nat → Int32) × (Nat → Int32)) => post u.1 u.2.1 u.2.2.1 u.2.2.2.1 u.2.2.2.2.1 u.2.2.2.2.2.1 u.2.2.2.2.2.2.1 u.2.2.2.2.2.2.2.1 u.2.2.2.2.2.2.2.2) (QX dC dI cy (va_A (w_X12_codeFrame h0 h_row h_kept h_isKept h_aside h_eight h_rows h_scales h_dealt h_bytes h_heardRow h_made h_comes h_backs h_fresh cy c_thrown c_nodeS c_nodeD c_pairE c_pairO c_bit c_lag c_lagSum c_row c_eight c_rows c_bytes c_scales c_dealt) sz) (fun (u : Int32 × Int32 × Int32 × (Nat → Int32) × (Nat → Int32) × (Nat → Int32) × (Nat → Int32) × (Nat → Int32) × (Nat → Int32)) => w_X12_codeFrame h0 h_row h_kept h_isKept h_aside h_eight h_rows h_scales h_dealt h_bytes h_heardRow h_made h_comes h_backs h_fresh cy c_thrown u.1 u.2.1 c_pairE c_pairO u.2.2.1 c_lag c_lagSum u.2.2.2.1 u.2.2.2.2.1 u.2.2.2.2.2.1 u.2.2.2.2.2.2.1 u.2.2.2.2.2.2.2.1 u.2.2.2.2.2.2.2.2)) (va_A (w_X12_codeFrame h0 h_row h_kept h_isKept h_aside h_eight h_rows h_scales h_dealt h_bytes h_heardRow h_made h_comes h_backs h_fresh cy c_thrown c_nodeS c_nodeD c_pairE c_pairO c_bit c_lag c_lagSum c_row c_eight c_rows c_bytes c_scales c_dealt) sz)) 0 0 (va_A (w_X12_codeFrame h0 h_row h_kept h_isKept h_aside h_eight h_rows h_scales h_dealt h_bytes h_heardRow h_made h_comes h_backs h_fresh cy c_thrown c_nodeS c_nodeD c_pairE c_pairO c_bit c_lag c_lagSum c_row c_eight c_rows c_bytes c_scales c_dealt) sz) := by
  refine Met.ofW (cc := cX12_codeFrame) (maxL := 4) (ret := none) (by decide) rfl ?_
  intro p e s m args below meth c s₁ B hml hv
  obtain ⟨rfl, hsz, hP, hK, hD0, hG⟩ := hv
  have hx := B.exec
  have hb := B.bytes
  have hr := B.returns
  have hts := atoms_spec (ws := wsX12_codeFrame) B.pre
  have hown : s.vm.findClass RX12 = some m.cls := findClass_of_methodNamed B.named
  have hlocks := B.notSynchronized
  subst hsz
  have hD := hD0.self (sz := s.heap.size)
  generalize hAe : va_A (w_X12_codeFrame h0 h_row h_kept h_isKept h_aside h_eight h_rows h_scales h_dealt h_bytes h_heardRow h_made h_comes h_backs h_fresh cy c_thrown c_nodeS c_nodeD c_pairE c_pairO c_bit c_lag c_lagSum c_row c_eight c_rows c_bytes c_scales c_dealt) s.heap.size = A at hD ⊢
  have hA : ∀ q : Nat, s.heap.size ≤ q → A q := fun q h => by rw [← hAe]; exact Or.inr h
  have hS : va_S A s.heap s.heap [] := va_S.rf
  have hl := lv_entry ([.ref h0, .int v1]) (n := 4) (Nat.le_of_ble_eq_true rfl)
  rw [lg_entry_eq]
  generalize (lg_sl ([.ref h0, .int v1]) ++ List.replicate (4 - (lg_sl ([.ref h0, .int v1])).length) Slot.unset).toArray = ls at hl ⊢
  replace hl : lv_has ls 4 [(0, .ref h0), (1, .int v1)] := hl
  have inX12 : ∀ w ∈ u_ws RX12 TX12 22, w ∈ wsX12_codeFrame := fun w h => List.mem_cons_of_mem _ (inlX12 w h)
  clear hAe hD0 B
  unfold wp_X12_codeFrame at hw
  generalize hQe : MQ below _ _ s _ _ _ = Q0
  generalize ([.ref h0, .int v1] : List Value).toArray = av at *
  obtain ⟨H, hH⟩ : ∃ H, H = s.heap := ⟨_, rfl⟩
  obtain ⟨locs, hlo⟩ : ∃ L : List Loc, L = [] := ⟨_, rfl⟩
  replace hP : va_P (dC, dI) vwCl (w_X12_codeFrame h0 h_row h_kept h_isKept h_aside h_eight h_rows h_scales h_dealt h_bytes h_heardRow h_made h_comes h_backs h_fresh cy c_thrown c_nodeS c_nodeD c_pairE c_pairO c_bit c_lag c_lagSum c_row c_eight c_rows c_bytes c_scales c_dealt) H := by rw [hH]; exact hP
  replace hS : va_S A s.heap H locs := by rw [hH, hlo]; exact hS
  suffices hgo : W p l e ({ frames := 4, cells := 0, slots := 0, locals := 96 }) s m av below meth c H locs 0 0 Q0 (F0 m 0 ls []) by rw [hH, hlo] at hgo; exact hgo
  clear hH hlo
  refine lv_aload_n hx hb dX12_codeFrame_0 rfl (lv_at hl 0 rfl) ?_
  refine lv_iload_n hx hb dX12_codeFrame_1 rfl (lv_at hl 1 rfl) ?_
  have hPc := pSub (ws' := (w_X12_splitFrame h0 h_row h_kept h_isKept h_aside h_eight h_rows h_scales h_dealt h_bytes h_heardRow h_made h_comes h_backs h_fresh cy c_thrown c_nodeS c_nodeD c_pairE c_pairO c_bit c_lag c_lagSum c_row c_eight c_rows)) hP [0, 1, 2, 3] rfl
  have hDc := dSub (ws' := (w_X12_splitFrame h0 h_row h_kept h_isKept h_aside h_eight h_rows h_scales h_dealt h_bytes h_heardRow h_made h_comes h_backs h_fresh cy c_thrown c_nodeS c_nodeD c_pairE c_pairO c_bit c_lag c_lagSum c_row c_eight c_rows)) hD [0, 1, 2, 3] (by decide) rfl
  have hFc := va_free (wc := (w_X12_splitFrame h0 h_row h_kept h_isKept h_aside h_eight h_rows h_scales h_dealt h_bytes h_heardRow h_made h_comes h_backs h_fresh cy c_thrown c_nodeS c_nodeD c_pairE c_pairO c_bit c_lag c_lagSum c_row c_eight c_rows)) hD hS hA [0, 1, 2, 3] rfl
  refine va_callv (va_runV (As := [.int v1]) (rest := []) ⟨hx, hb, hml, hown, hts⟩ (c_X12_splitFrame l dC dI cy h0 h_row h_kept h_isKept h_aside h_eight h_rows h_scales h_dealt h_bytes h_heardRow h_made h_comes h_backs h_fresh H.size v1 c_thrown c_nodeS c_nodeD c_pairE c_pairO c_bit c_lag c_lagSum c_row c_eight c_rows _ hw) (cwV 1 hts (goodV mw_604 mw_601 mw_602 mw_603 mw_5) rfl rfl rfl (by decide +kernel) ⟨Nat.le_of_ble_eq_true rfl, Nat.le_of_ble_eq_true rfl⟩) ⟨PX_blind, va_recv hK hPc (ci := 12) (q0 := 0) rfl rfl, PX_pre hPc hK hDc hG⟩ rfl rfl hl.1 rfl (lv_room (Nat.le_of_ble_eq_true rfl)) dX12_codeFrame_2 ⟨Nat.zero_le _, Nat.zero_le _⟩) hS (fun q _ h => hFc q h) hFc ?_; clear hw hS; intro u t H1 locs1 ht hvm hw hB hz1 hk1 hS
  obtain ⟨x1, x2, f3, f4, f5⟩ := u
  try dsimp only at hw
  obtain ⟨hP1, -, -⟩ := hB
  rw [ht] at hP1
  replace hP := jC0 hP hD [0, 1, 2, 3] [4, 5, 6] rfl hk1 hP1 (w_X12_codeFrame h0 h_row h_kept h_isKept h_aside h_eight h_rows h_scales h_dealt h_bytes h_heardRow h_made h_comes h_backs h_fresh cy c_thrown x1 x2 c_pairE c_pairO c_bit c_lag c_lagSum f3 f4 f5 c_bytes c_scales c_dealt) rfl rfl rfl 7 rfl (by decide +kernel); clear hD; obtain ⟨hP, hD⟩ := hP
  replace hP : va_P (dC, dI) vwCl (w_X12_codeFrame h0 h_row h_kept h_isKept h_aside h_eight h_rows h_scales h_dealt h_bytes h_heardRow h_made h_comes h_backs h_fresh cy c_thrown x1 x2 c_pairE c_pairO c_bit c_lag c_lagSum f3 f4 f5 c_bytes c_scales c_dealt) H1 := hP
  replace hD : va_D A (w_X12_codeFrame h0 h_row h_kept h_isKept h_aside h_eight h_rows h_scales h_dealt h_bytes h_heardRow h_made h_comes h_backs h_fresh cy c_thrown x1 x2 c_pairE c_pairO c_bit c_lag c_lagSum f3 f4 f5 c_bytes c_scales c_dealt) := hD
  clear hPc hDc hFc hP1 hk1 hz1 hvm ht; clear t; clear H locs; obtain ⟨H, hH⟩ : ∃ H, H = H1 := ⟨_, rfl⟩; obtain ⟨locs, hlo⟩ : ∃ L, L = locs1 := ⟨_, rfl⟩; subst hH; subst hlo
  refine W.widen (k := 0) (n := 0) (Nat.le_refl 0) (Nat.le_refl 0) ?_
  refine lv_aload_n hx hb dX12_codeFrame_5 rfl (lv_at hl 0 rfl) ?_
  have hPc := pSub (ws' := (w_X12_layCoded h0 h_row h_kept h_isKept h_aside h_eight h_rows h_scales h_dealt h_bytes h_heardRow h_made h_comes h_backs h_fresh cy c_thrown x1 x2 c_pairE c_pairO c_bit c_lag c_lagSum f3)) hP [0, 1] rfl
  have hDc := dSub (ws' := (w_X12_layCoded h0 h_row h_kept h_isKept h_aside h_eight h_rows h_scales h_dealt h_bytes h_heardRow h_made h_comes h_backs h_fresh cy c_thrown x1 x2 c_pairE c_pairO c_bit c_lag c_lagSum f3)) hD [0, 1] (by decide) rfl
  have hFc := va_free (wc := (w_X12_layCoded h0 h_row h_kept h_isKept h_aside h_eight h_rows h_scales h_dealt h_bytes h_heardRow h_made h_comes h_backs h_fresh cy c_thrown x1 x2 c_pairE c_pairO c_bit c_lag c_lagSum f3)) hD hS hA [0, 1] rfl
  refine va_callv (va_runV (As := []) (rest := []) ⟨hx, hb, hml, hown, hts⟩ (c_X12_layCoded l dC dI cy h0 h_row h_kept h_isKept h_aside h_eight h_rows h_scales h_dealt h_bytes h_heardRow h_made h_comes h_backs h_fresh H.size c_thrown x1 x2 c_pairE c_pairO c_bit c_lag c_lagSum f3 _ hw) (cwV 0 hts (goodV mw_637 mw_634 mw_635 mw_636 mw_5) rfl rfl rfl (by decide +kernel) ⟨Nat.le_of_ble_eq_true rfl, Nat.le_of_ble_eq_true rfl⟩) ⟨PX_blind, va_recv hK hPc (ci := 12) (q0 := 0) rfl rfl, PX_pre hPc hK hDc hG⟩ rfl rfl hl.1 rfl (lv_room (Nat.le_of_ble_eq_true rfl)) dX12_codeFrame_6 ⟨Nat.zero_le _, Nat.zero_le _⟩) hS (fun q _ h => hFc q h) hFc ?_; clear hw hS; intro f6 t H1 locs1 ht hvm hw hB hz1 hk1 hS
  obtain ⟨hP1, -, -⟩ := hB
  rw [ht] at hP1
  replace hP := jC0 hP hD [0, 1] [2, 3, 4, 5, 6] rfl hk1 hP1 (w_X12_codeFrame h0 h_row h_kept h_isKept h_aside h_eight h_rows h_scales h_dealt h_bytes h_heardRow h_made h_comes h_backs h_fresh cy c_thrown x1 x2 c_pairE c_pairO c_bit c_lag c_lagSum f6 f4 f5 c_bytes c_scales c_dealt) rfl rfl rfl 7 rfl (by decide +kernel); clear hD; obtain ⟨hP, hD⟩ := hP
  replace hP : va_P (dC, dI) vwCl (w_X12_codeFrame h0 h_row h_kept h_isKept h_aside h_eight h_rows h_scales h_dealt h_bytes h_heardRow h_made h_comes h_backs h_fresh cy c_thrown x1 x2 c_pairE c_pairO c_bit c_lag c_lagSum f6 f4 f5 c_bytes c_scales c_dealt) H1 := hP
  replace hD : va_D A (w_X12_codeFrame h0 h_row h_kept h_isKept h_aside h_eight h_rows h_scales h_dealt h_bytes h_heardRow h_made h_comes h_backs h_fresh cy c_thrown x1 x2 c_pairE c_pairO c_bit c_lag c_lagSum f6 f4 f5 c_bytes c_scales c_dealt) := hD
  clear hPc hDc hFc hP1 hk1 hz1 hvm ht; clear t; clear H locs; obtain ⟨H, hH⟩ : ∃ H, H = H1 := ⟨_, rfl⟩; obtain ⟨locs, hlo⟩ : ∃ L, L = locs1 := ⟨_, rfl⟩; subst hH; subst hlo
  refine W.widen (k := 0) (n := 0) (Nat.le_refl 0) (Nat.le_refl 0) ?_
  refine lv_aload_n hx hb dX12_codeFrame_9 rfl (lv_at hl 0 rfl) ?_
  refine lv_iload_n hx hb dX12_codeFrame_10 rfl (lv_at hl 1 rfl) ?_
  have hPc := pSub (ws' := (w_X12_layCode h0 h_row h_kept h_isKept h_aside h_eight h_rows h_scales h_dealt h_bytes h_heardRow h_made h_comes h_backs h_fresh cy c_thrown x1 x2 c_pairE c_pairO c_bit c_lag c_lagSum c_bytes f6 c_scales c_dealt)) hP [0, 4, 1, 5, 6] rfl
  have hDc := dSub (ws' := (w_X12_layCode h0 h_row h_kept h_isKept h_aside h_eight h_rows h_scales h_dealt h_bytes h_heardRow h_made h_comes h_backs h_fresh cy c_thrown x1 x2 c_pairE c_pairO c_bit c_lag c_lagSum c_bytes f6 c_scales c_dealt)) hD [0, 4, 1, 5, 6] (by decide) rfl
  have hFc := va_free (wc := (w_X12_layCode h0 h_row h_kept h_isKept h_aside h_eight h_rows h_scales h_dealt h_bytes h_heardRow h_made h_comes h_backs h_fresh cy c_thrown x1 x2 c_pairE c_pairO c_bit c_lag c_lagSum c_bytes f6 c_scales c_dealt)) hD hS hA [0, 4, 1, 5, 6] rfl
  refine va_callv (va_runV (As := [.int v1]) (rest := []) ⟨hx, hb, hml, hown, hts⟩ (c_X12_layCode l dC dI cy h0 h_row h_kept h_isKept h_aside h_eight h_rows h_scales h_dealt h_bytes h_heardRow h_made h_comes h_backs h_fresh H.size v1 c_thrown x1 x2 c_pairE c_pairO c_bit c_lag c_lagSum c_bytes f6 c_scales c_dealt _ hw) (cwV 1 hts (goodV mw_655 mw_652 mw_653 mw_654 mw_5) rfl rfl rfl (by decide +kernel) ⟨Nat.le_of_ble_eq_true rfl, Nat.le_of_ble_eq_true rfl⟩) ⟨PX_blind, va_recv hK hPc (ci := 12) (q0 := 0) rfl rfl, PX_pre hPc hK hDc hG⟩ rfl rfl hl.1 rfl (lv_room (Nat.le_of_ble_eq_true rfl)) dX12_codeFrame_11 ⟨Nat.zero_le _, Nat.zero_le _⟩) hS (fun q _ h => hFc q h) hFc ?_; clear hw hS; intro u t H1 locs1 ht hvm hw hB hz1 hk1 hS
  obtain ⟨x7, f8, f9, f10, f11⟩ := u
  try dsimp only at hw
  obtain ⟨hP1, -, -⟩ := hB
  rw [ht] at hP1
  replace hP := jC0 hP hD [0, 4, 1, 5, 6] [2, 3] rfl hk1 hP1 (w_X12_codeFrame h0 h_row h_kept h_isKept h_aside h_eight h_rows h_scales h_dealt h_bytes h_heardRow h_made h_comes h_backs h_fresh cy c_thrown x1 x2 c_pairE c_pairO x7 c_lag c_lagSum f9 f4 f5 f8 f10 f11) rfl rfl rfl 7 rfl (by decide +kernel); clear hD; obtain ⟨hP, hD⟩ := hP
  replace hP : va_P (dC, dI) vwCl (w_X12_codeFrame h0 h_row h_kept h_isKept h_aside h_eight h_rows h_scales h_dealt h_bytes h_heardRow h_made h_comes h_backs h_fresh cy c_thrown x1 x2 c_pairE c_pairO x7 c_lag c_lagSum f9 f4 f5 f8 f10 f11) H1 := hP
  replace hD : va_D A (w_X12_codeFrame h0 h_row h_kept h_isKept h_aside h_eight h_rows h_scales h_dealt h_bytes h_heardRow h_made h_comes h_backs h_fresh cy c_thrown x1 x2 c_pairE c_pairO x7 c_lag c_lagSum f9 f4 f5 f8 f10 f11) := hD
  clear hPc hDc hFc hP1 hk1 hz1 hvm ht; clear t; clear H locs; obtain ⟨H, hH⟩ : ∃ H, H = H1 := ⟨_, rfl⟩; obtain ⟨locs, hlo⟩ : ∃ L, L = locs1 := ⟨_, rfl⟩; subst hH; subst hlo
  refine W.widen (k := 0) (n := 0) (Nat.le_refl 0) (Nat.le_refl 0) ?_
  refine lv_aload_n hx hb dX12_codeFrame_14 rfl (lv_at hl 0 rfl) ?_
  refine va_get (D := (dC, dI)) (ci := 12) (v := .ref h_row) (C := RX12) (T := TX12) (N := 22) hx hb hts inX12 hown hK hP 0 rfl rfl 1 (by decide) (hts _ (List.mem_cons_of_mem _ mw_169)) (fun _ h9 => h9) rfl dX12_codeFrame_15 ?_
  refine lv_bipush (v := 51) hx hb dX12_codeFrame_18 (by decide) ?_
  refine xiald (k := 51) hx hb hK hP 1 0 rfl rfl (vpL 51 13385 rfl) (by decide) dX12_codeFrame_20 ?_
  have hPc := pSub (ws' := (w_X12_lineAt cy)) hP [] rfl
  have hDc := dSub (ws' := (w_X12_lineAt cy)) hD [] (by decide) rfl
  have hFc := va_free (wc := (w_X12_lineAt cy)) hD hS hA [] rfl
  refine va_calli (va_runS (As := [.int (f9 51)]) (rest := []) ⟨hx, hb, hml, hown, hts⟩ (c_X12_lineAt l dC dI cy  H.size (f9 51) _ hw) (va_cwS 1 hts (goodS mw_681 mw_679 mw_680 mw_5) rfl rfl rfl (by decide +kernel) ⟨Nat.le_of_ble_eq_true rfl, Nat.le_of_ble_eq_true rfl⟩) ⟨PX_blind, PX_pre hPc hK hDc hG⟩ rfl rfl hl.1 rfl (lv_room (Nat.le_of_ble_eq_true rfl)) dX12_codeFrame_21 ⟨Nat.zero_le _, Nat.zero_le _⟩) hS (fun q _ h => hFc q h) hFc ?_; clear hw hS; intro r13 _ t H1 locs1 ht hvm hw hB hz1 hk1 hS
  obtain ⟨hP1, -, -⟩ := hB
  rw [ht] at hP1
  replace hP := jC0 hP hD [] [0, 1, 2, 3, 4, 5, 6] rfl hk1 hP1 (w_X12_codeFrame h0 h_row h_kept h_isKept h_aside h_eight h_rows h_scales h_dealt h_bytes h_heardRow h_made h_comes h_backs h_fresh cy c_thrown x1 x2 c_pairE c_pairO x7 c_lag c_lagSum f9 f4 f5 f8 f10 f11) rfl rfl rfl 7 rfl (by decide +kernel); clear hD; obtain ⟨hP, hD⟩ := hP
  replace hP : va_P (dC, dI) vwCl (w_X12_codeFrame h0 h_row h_kept h_isKept h_aside h_eight h_rows h_scales h_dealt h_bytes h_heardRow h_made h_comes h_backs h_fresh cy c_thrown x1 x2 c_pairE c_pairO x7 c_lag c_lagSum f9 f4 f5 f8 f10 f11) H1 := hP
  replace hD : va_D A (w_X12_codeFrame h0 h_row h_kept h_isKept h_aside h_eight h_rows h_scales h_dealt h_bytes h_heardRow h_made h_comes h_backs h_fresh cy c_thrown x1 x2 c_pairE c_pairO x7 c_lag c_lagSum f9 f4 f5 f8 f10 f11) := hD
  clear hPc hDc hFc hP1 hk1 hz1 hvm ht; clear t; clear H locs; obtain ⟨H, hH⟩ : ∃ H, H = H1 := ⟨_, rfl⟩; obtain ⟨locs, hlo⟩ : ∃ L, L = locs1 := ⟨_, rfl⟩; subst hH; subst hlo
  refine W.widen (k := 0) (n := 0) (Nat.le_refl 0) (Nat.le_refl 0) ?_
  refine lv_istore_n (lv' := [(2, .int r13), (0, .ref h0), (1, .int v1)]) hx hb dX12_codeFrame_24 rfl hl (by decide) rfl ?_; clear hl; clear ls; intro ls hl
  refine lv_aload_n hx hb dX12_codeFrame_25 rfl (lv_at hl 1 rfl) ?_
  refine va_get (D := (dC, dI)) (ci := 12) (v := .ref h_row) (C := RX12) (T := TX12) (N := 22) hx hb hts inX12 hown hK hP 0 rfl rfl 1 (by decide) (hts _ (List.mem_cons_of_mem _ mw_169)) (fun _ h9 => h9) rfl dX12_codeFrame_26 ?_
  refine lv_iload_n hx hb dX12_codeFrame_29 rfl (lv_at hl 0 rfl) ?_
  refine lv_iconst (v := 0) hx hb dX12_codeFrame_30 (by decide) ?_
  refine lv_iadd hx hb dX12_codeFrame_31 ?_
  refine lv_iload_n hx hb dX12_codeFrame_32 rfl (lv_at hl 2 rfl) ?_
  obtain ⟨h14, hw⟩ := hw
  refine xiast (k := (r13 + (0 : Int32)).toNatClampNeg) hx hb hK hP hD hS 1 0 rfl rfl h14 rfl dX12_codeFrame_33 ?_; clear hP hD hS; clear H locs; intro f15 e_f15 H locs hP hD hS
  replace hw := hw f15 e_f15
  clear e_f15
  replace hP : va_P (dC, dI) vwCl (w_X12_codeFrame h0 h_row h_kept h_isKept h_aside h_eight h_rows h_scales h_dealt h_bytes h_heardRow h_made h_comes h_backs h_fresh cy c_thrown x1 x2 c_pairE c_pairO x7 c_lag c_lagSum f15 f4 f5 f8 f10 f11) H := hP
  replace hD : va_D A (w_X12_codeFrame h0 h_row h_kept h_isKept h_aside h_eight h_rows h_scales h_dealt h_bytes h_heardRow h_made h_comes h_backs h_fresh cy c_thrown x1 x2 c_pairE c_pairO x7 c_lag c_lagSum f15 f4 f5 f8 f10 f11) := hD
  refine lv_aload_n hx hb dX12_codeFrame_34 rfl (lv_at hl 1 rfl) ?_
  refine va_get (D := (dC, dI)) (ci := 12) (v := .ref h_row) (C := RX12) (T := TX12) (N := 22) hx hb hts inX12 hown hK hP 0 rfl rfl 1 (by decide) (hts _ (List.mem_cons_of_mem _ mw_169)) (fun _ h9 => h9) rfl dX12_codeFrame_35 ?_
  refine lv_iload_n hx hb dX12_codeFrame_38 rfl (lv_at hl 0 rfl) ?_
  refine lv_iconst (v := 1) hx hb dX12_codeFrame_39 (by decide) ?_
  refine lv_iadd hx hb dX12_codeFrame_40 ?_
  refine lv_aload_n hx hb dX12_codeFrame_41 rfl (lv_at hl 1 rfl) ?_
  refine va_get (D := (dC, dI)) (ci := 12) (v := .ref h_row) (C := RX12) (T := TX12) (N := 22) hx hb hts inX12 hown hK hP 0 rfl rfl 1 (by decide) (hts _ (List.mem_cons_of_mem _ mw_169)) (fun _ h9 => h9) rfl dX12_codeFrame_42 ?_
  refine lv_sipush (v := 654) hx hb dX12_codeFrame_45 (by decide) ?_
  refine xiald (k := 654) hx hb hK hP 1 0 rfl rfl (vpL 654 13385 rfl) (by decide) dX12_codeFrame_48 ?_
  obtain ⟨h17, hw⟩ := hw
  refine xiast (k := (r13 + (1 : Int32)).toNatClampNeg) hx hb hK hP hD hS 1 0 rfl rfl h17 rfl dX12_codeFrame_49 ?_; clear hP hD hS; clear H locs; intro f18 e_f18 H locs hP hD hS
  replace hw := hw f18 e_f18
  clear e_f18
  replace hP : va_P (dC, dI) vwCl (w_X12_codeFrame h0 h_row h_kept h_isKept h_aside h_eight h_rows h_scales h_dealt h_bytes h_heardRow h_made h_comes h_backs h_fresh cy c_thrown x1 x2 c_pairE c_pairO x7 c_lag c_lagSum f18 f4 f5 f8 f10 f11) H := hP
  replace hD : va_D A (w_X12_codeFrame h0 h_row h_kept h_isKept h_aside h_eight h_rows h_scales h_dealt h_bytes h_heardRow h_made h_comes h_backs h_fresh cy c_thrown x1 x2 c_pairE c_pairO x7 c_lag c_lagSum f18 f4 f5 f8 f10 f11) := hD
  refine lv_aload_n hx hb dX12_codeFrame_50 rfl (lv_at hl 1 rfl) ?_
  refine va_get (D := (dC, dI)) (ci := 12) (v := .ref h_row) (C := RX12) (T := TX12) (N := 22) hx hb hts inX12 hown hK hP 0 rfl rfl 1 (by decide) (hts _ (List.mem_cons_of_mem _ mw_169)) (fun _ h9 => h9) rfl dX12_codeFrame_51 ?_
  refine lv_iload_n hx hb dX12_codeFrame_54 rfl (lv_at hl 0 rfl) ?_
  refine lv_iconst (v := 2) hx hb dX12_codeFrame_55 (by decide) ?_
  refine lv_iadd hx hb dX12_codeFrame_56 ?_
  refine lv_aload_n hx hb dX12_codeFrame_57 rfl (lv_at hl 1 rfl) ?_
  refine va_get (D := (dC, dI)) (ci := 12) (v := .ref h_row) (C := RX12) (T := TX12) (N := 22) hx hb hts inX12 hown hK hP 0 rfl rfl 1 (by decide) (hts _ (List.mem_cons_of_mem _ mw_169)) (fun _ h9 => h9) rfl dX12_codeFrame_58 ?_
  refine lv_bipush (v := 14) hx hb dX12_codeFrame_61 (by decide) ?_
  refine xiald (k := 14) hx hb hK hP 1 0 rfl rfl (vpL 14 13385 rfl) (by decide) dX12_codeFrame_63 ?_
  obtain ⟨h20, hw⟩ := hw
  refine xiast (k := (r13 + (2 : Int32)).toNatClampNeg) hx hb hK hP hD hS 1 0 rfl rfl h20 rfl dX12_codeFrame_64 ?_; clear hP hD hS; clear H locs; intro f21 e_f21 H locs hP hD hS
  replace hw := hw f21 e_f21
  clear e_f21
  replace hP : va_P (dC, dI) vwCl (w_X12_codeFrame h0 h_row h_kept h_isKept h_aside h_eight h_rows h_scales h_dealt h_bytes h_heardRow h_made h_comes h_backs h_fresh cy c_thrown x1 x2 c_pairE c_pairO x7 c_lag c_lagSum f21 f4 f5 f8 f10 f11) H := hP
  replace hD : va_D A (w_X12_codeFrame h0 h_row h_kept h_isKept h_aside h_eight h_rows h_scales h_dealt h_bytes h_heardRow h_made h_comes h_backs h_fresh cy c_thrown x1 x2 c_pairE c_pairO x7 c_lag c_lagSum f21 f4 f5 f8 f10 f11) := hD
  refine lv_aload_n hx hb dX12_codeFrame_65 rfl (lv_at hl 1 rfl) ?_
  refine va_get (D := (dC, dI)) (ci := 12) (v := .ref h_row) (C := RX12) (T := TX12) (N := 22) hx hb hts inX12 hown hK hP 0 rfl rfl 1 (by decide) (hts _ (List.mem_cons_of_mem _ mw_169)) (fun _ h9 => h9) rfl dX12_codeFrame_66 ?_
  refine lv_iload_n hx hb dX12_codeFrame_69 rfl (lv_at hl 0 rfl) ?_
  refine lv_iconst (v := 3) hx hb dX12_codeFrame_70 (by decide) ?_
  refine lv_iadd hx hb dX12_codeFrame_71 ?_
  refine lv_iconst (v := 0) hx hb dX12_codeFrame_72 (by decide) ?_
  obtain ⟨h22, hw⟩ := hw
  refine xiast (k := (r13 + (3 : Int32)).toNatClampNeg) hx hb hK hP hD hS 1 0 rfl rfl h22 rfl dX12_codeFrame_73 ?_; clear hP hD hS; clear H locs; intro f23 e_f23 H locs hP hD hS
  replace hw := hw f23 e_f23
  clear e_f23
  replace hP : va_P (dC, dI) vwCl (w_X12_codeFrame h0 h_row h_kept h_isKept h_aside h_eight h_rows h_scales h_dealt h_bytes h_heardRow h_made h_comes h_backs h_fresh cy c_thrown x1 x2 c_pairE c_pairO x7 c_lag c_lagSum f23 f4 f5 f8 f10 f11) H := hP
  replace hD : va_D A (w_X12_codeFrame h0 h_row h_kept h_isKept h_aside h_eight h_rows h_scales h_dealt h_bytes h_heardRow h_made h_comes h_backs h_fresh cy c_thrown x1 x2 c_pairE c_pairO x7 c_lag c_lagSum f23 f4 f5 f8 f10 f11) := hD
  refine lv_iconst (v := 0) hx hb dX12_codeFrame_74 (by decide) ?_
  refine lv_istore_n (lv' := [(3, .int (0 : Int32)), (2, .int r13), (0, .ref h0), (1, .int v1)]) hx hb dX12_codeFrame_75 rfl hl (by decide) rfl ?_; clear hl; clear ls; intro ls hl
  obtain ⟨x24, e_x24⟩ : ∃ y : Int32, y = (0 : Int32) := ⟨_, rfl⟩
  replace hw := hw x24 e_x24
  replace hl : lv_has ls 4 [(3, .int x24), (2, .int r13), (0, .ref h0), (1, .int v1)] := by rw [e_x24]; exact hl
  clear e_x24
  replace hl := lv_sub (l' := [(3, .int x24), (2, .int r13), (0, .ref h0), (1, .int v1)]) hl [0, 1, 2, 3] rfl
  revert hl; revert hS; revert hD; revert hP; revert ls; revert locs; revert H
  revert hw; revert f23; revert x24
  refine Lz2_gr ?_; intro g25 ih26 x27 f28 hw
  intro H locs ls hP hD hS hl
  refine lv_iload_n hx hb dX12_codeFrame_76 rfl (lv_at hl 0 rfl) ?_
  refine lv_bipush (v := 80) hx hb dX12_codeFrame_77 (by decide) ?_
  refine lv_icmp_ge (tgt := 129) hx hb dX12_codeFrame_79 (by decide) (fun c29 => ?_) (fun c29 => ?_)
  · replace hw := hw.1 c29; clear c29
    clear ih26
    refine lv_aload_n hx hb dX12_codeFrame_129 rfl (lv_at hl 2 rfl) ?_
    refine va_get (D := (dC, dI)) (ci := 12) (v := .ref h_row) (C := RX12) (T := TX12) (N := 22) hx hb hts inX12 hown hK hP 0 rfl rfl 1 (by decide) (hts _ (List.mem_cons_of_mem _ mw_169)) (fun _ h9 => h9) rfl dX12_codeFrame_130 ?_
    refine lv_bipush (v := 51) hx hb dX12_codeFrame_133 (by decide) ?_
    refine lv_dup2_11 hx hb dX12_codeFrame_135 rfl rfl ?_
    refine xiald (k := 51) hx hb hK hP 1 0 rfl rfl (vpL 51 13385 rfl) (by decide) dX12_codeFrame_136 ?_
    refine lv_iconst (v := 1) hx hb dX12_codeFrame_137 (by decide) ?_
    refine lv_iadd hx hb dX12_codeFrame_138 ?_
    refine xiast (k := 51) hx hb hK hP hD hS 1 0 rfl rfl (vpL 51 13385 rfl) (by decide) dX12_codeFrame_139 ?_; clear hP hD hS; clear H locs; intro f32 e_f32 H locs hP hD hS
    replace hw := hw f32 e_f32
    clear e_f32
    replace hP : va_P (dC, dI) vwCl (w_X12_codeFrame h0 h_row h_kept h_isKept h_aside h_eight h_rows h_scales h_dealt h_bytes h_heardRow h_made h_comes h_backs h_fresh cy c_thrown x1 x2 c_pairE c_pairO x7 c_lag c_lagSum f32 f4 f5 f8 f10 f11) H := hP
    replace hD : va_D A (w_X12_codeFrame h0 h_row h_kept h_isKept h_aside h_eight h_rows h_scales h_dealt h_bytes h_heardRow h_made h_comes h_backs h_fresh cy c_thrown x1 x2 c_pairE c_pairO x7 c_lag c_lagSum f32 f4 f5 f8 f10 f11) := hD
    refine lv_aload_n hx hb dX12_codeFrame_140 rfl (lv_at hl 2 rfl) ?_
    refine va_get (D := (dC, dI)) (ci := 12) (v := .ref h_row) (C := RX12) (T := TX12) (N := 22) hx hb hts inX12 hown hK hP 0 rfl rfl 1 (by decide) (hts _ (List.mem_cons_of_mem _ mw_169)) (fun _ h9 => h9) rfl dX12_codeFrame_141 ?_
    refine lv_iload_n hx hb dX12_codeFrame_144 rfl (lv_at hl 3 rfl) ?_
    have hPc := pSub (ws' := (w_X12_packetAt cy)) hP [] rfl
    have hDc := dSub (ws' := (w_X12_packetAt cy)) hD [] (by decide) rfl
    have hFc := va_free (wc := (w_X12_packetAt cy)) hD hS hA [] rfl
    refine va_calli (va_runS (As := [.int v1]) (rest := [.ref h_row]) ⟨hx, hb, hml, hown, hts⟩ (c_X12_packetAt l dC dI cy  H.size v1 _ hw) (va_cwS 1 hts (goodS mw_684 mw_682 mw_683 mw_5) rfl rfl rfl (by decide +kernel) ⟨Nat.le_of_ble_eq_true rfl, Nat.le_of_ble_eq_true rfl⟩) ⟨PX_blind, PX_pre hPc hK hDc hG⟩ rfl rfl hl.1 rfl (lv_room (Nat.le_of_ble_eq_true rfl)) dX12_codeFrame_145 ⟨Nat.zero_le _, Nat.zero_le _⟩) hS (fun q _ h => hFc q h) hFc ?_; clear hw hS; intro r33 _ t H1 locs1 ht hvm hw hB hz1 hk1 hS
    obtain ⟨hP1, -, -⟩ := hB
    rw [ht] at hP1
    replace hP := jC0 hP hD [] [0, 1, 2, 3, 4, 5, 6] rfl hk1 hP1 (w_X12_codeFrame h0 h_row h_kept h_isKept h_aside h_eight h_rows h_scales h_dealt h_bytes h_heardRow h_made h_comes h_backs h_fresh cy c_thrown x1 x2 c_pairE c_pairO x7 c_lag c_lagSum f32 f4 f5 f8 f10 f11) rfl rfl rfl 7 rfl (by decide +kernel); clear hD; obtain ⟨hP, hD⟩ := hP
    replace hP : va_P (dC, dI) vwCl (w_X12_codeFrame h0 h_row h_kept h_isKept h_aside h_eight h_rows h_scales h_dealt h_bytes h_heardRow h_made h_comes h_backs h_fresh cy c_thrown x1 x2 c_pairE c_pairO x7 c_lag c_lagSum f32 f4 f5 f8 f10 f11) H1 := hP
    replace hD : va_D A (w_X12_codeFrame h0 h_row h_kept h_isKept h_aside h_eight h_rows h_scales h_dealt h_bytes h_heardRow h_made h_comes h_backs h_fresh cy c_thrown x1 x2 c_pairE c_pairO x7 c_lag c_lagSum f32 f4 f5 f8 f10 f11) := hD
    clear hPc hDc hFc hP1 hk1 hz1 hvm ht; clear t; clear H locs; obtain ⟨H, hH⟩ : ∃ H, H = H1 := ⟨_, rfl⟩; obtain ⟨locs, hlo⟩ : ∃ L, L = locs1 := ⟨_, rfl⟩; subst hH; subst hlo
    refine W.widen (k := 0) (n := 0) (Nat.le_refl 0) (Nat.le_refl 0) ?_
    refine lv_iconst (v := 0) hx hb dX12_codeFrame_148 (by decide) ?_
    refine lv_iadd hx hb dX12_codeFrame_149 ?_
    refine lv_iconst (v := 1) hx hb dX12_codeFrame_150 (by decide) ?_
    obtain ⟨h34, hw⟩ := hw
    refine xiast (k := (r33 + (0 : Int32)).toNatClampNeg) hx hb hK hP hD hS 1 0 rfl rfl h34 rfl dX12_codeFrame_151 ?_; clear hP hD hS; clear H locs; intro f35 e_f35 H locs hP hD hS
    replace hw := hw f35 e_f35
    clear e_f35
    replace hP : va_P (dC, dI) vwCl (w_X12_codeFrame h0 h_row h_kept h_isKept h_aside h_eight h_rows h_scales h_dealt h_bytes h_heardRow h_made h_comes h_backs h_fresh cy c_thrown x1 x2 c_pairE c_pairO x7 c_lag c_lagSum f35 f4 f5 f8 f10 f11) H := hP
    replace hD : va_D A (w_X12_codeFrame h0 h_row h_kept h_isKept h_aside h_eight h_rows h_scales h_dealt h_bytes h_heardRow h_made h_comes h_backs h_fresh cy c_thrown x1 x2 c_pairE c_pairO x7 c_lag c_lagSum f35 f4 f5 f8 f10 f11) := hD
    refine lv_aload_n hx hb dX12_codeFrame_152 rfl (lv_at hl 2 rfl) ?_
    refine va_get (D := (dC, dI)) (ci := 12) (v := .ref h_row) (C := RX12) (T := TX12) (N := 22) hx hb hts inX12 hown hK hP 0 rfl rfl 1 (by decide) (hts _ (List.mem_cons_of_mem _ mw_169)) (fun _ h9 => h9) rfl dX12_codeFrame_153 ?_
    refine lv_iload_n hx hb dX12_codeFrame_156 rfl (lv_at hl 3 rfl) ?_
    have hPc := pSub (ws' := (w_X12_packetAt cy)) hP [] rfl
    have hDc := dSub (ws' := (w_X12_packetAt cy)) hD [] (by decide) rfl
    have hFc := va_free (wc := (w_X12_packetAt cy)) hD hS hA [] rfl
    refine va_calli (va_runS (As := [.int v1]) (rest := [.ref h_row]) ⟨hx, hb, hml, hown, hts⟩ (c_X12_packetAt l dC dI cy  H.size v1 _ hw) (va_cwS 1 hts (goodS mw_684 mw_682 mw_683 mw_5) rfl rfl rfl (by decide +kernel) ⟨Nat.le_of_ble_eq_true rfl, Nat.le_of_ble_eq_true rfl⟩) ⟨PX_blind, PX_pre hPc hK hDc hG⟩ rfl rfl hl.1 rfl (lv_room (Nat.le_of_ble_eq_true rfl)) dX12_codeFrame_157 ⟨Nat.zero_le _, Nat.zero_le _⟩) hS (fun q _ h => hFc q h) hFc ?_; clear hw hS; intro r36 _ t H1 locs1 ht hvm hw hB hz1 hk1 hS
    obtain ⟨hP1, -, -⟩ := hB
    rw [ht] at hP1
    replace hP := jC0 hP hD [] [0, 1, 2, 3, 4, 5, 6] rfl hk1 hP1 (w_X12_codeFrame h0 h_row h_kept h_isKept h_aside h_eight h_rows h_scales h_dealt h_bytes h_heardRow h_made h_comes h_backs h_fresh cy c_thrown x1 x2 c_pairE c_pairO x7 c_lag c_lagSum f35 f4 f5 f8 f10 f11) rfl rfl rfl 7 rfl (by decide +kernel); clear hD; obtain ⟨hP, hD⟩ := hP
    replace hP : va_P (dC, dI) vwCl (w_X12_codeFrame h0 h_row h_kept h_isKept h_aside h_eight h_rows h_scales h_dealt h_bytes h_heardRow h_made h_comes h_backs h_fresh cy c_thrown x1 x2 c_pairE c_pairO x7 c_lag c_lagSum f35 f4 f5 f8 f10 f11) H1 := hP
    replace hD : va_D A (w_X12_codeFrame h0 h_row h_kept h_isKept h_aside h_eight h_rows h_scales h_dealt h_bytes h_heardRow h_made h_comes h_backs h_fresh cy c_thrown x1 x2 c_pairE c_pairO x7 c_lag c_lagSum f35 f4 f5 f8 f10 f11) := hD
    clear hPc hDc hFc hP1 hk1 hz1 hvm ht; clear t; clear H locs; obtain ⟨H, hH⟩ : ∃ H, H = H1 := ⟨_, rfl⟩; obtain ⟨locs, hlo⟩ : ∃ L, L = locs1 := ⟨_, rfl⟩; subst hH; subst hlo
    refine W.widen (k := 0) (n := 0) (Nat.le_refl 0) (Nat.le_refl 0) ?_
    refine lv_iconst (v := 3) hx hb dX12_codeFrame_160 (by decide) ?_
    refine lv_iadd hx hb dX12_codeFrame_161 ?_
    refine lv_iconst (v := -1) hx hb dX12_codeFrame_162 (by decide) ?_
    obtain ⟨h37, hw⟩ := hw
    refine xiast (k := (r36 + (3 : Int32)).toNatClampNeg) hx hb hK hP hD hS 1 0 rfl rfl h37 rfl dX12_codeFrame_163 ?_; clear hP hD hS; clear H locs; intro f38 e_f38 H locs hP hD hS
    replace hw := hw f38 e_f38
    clear e_f38
    replace hP : va_P (dC, dI) vwCl (w_X12_codeFrame h0 h_row h_kept h_isKept h_aside h_eight h_rows h_scales h_dealt h_bytes h_heardRow h_made h_comes h_backs h_fresh cy c_thrown x1 x2 c_pairE c_pairO x7 c_lag c_lagSum f38 f4 f5 f8 f10 f11) H := hP
    replace hD : va_D A (w_X12_codeFrame h0 h_row h_kept h_isKept h_aside h_eight h_rows h_scales h_dealt h_bytes h_heardRow h_made h_comes h_backs h_fresh cy c_thrown x1 x2 c_pairE c_pairO x7 c_lag c_lagSum f38 f4 f5 f8 f10 f11) := hD
    refine lv_aload_n hx hb dX12_codeFrame_164 rfl (lv_at hl 2 rfl) ?_
    refine va_get (D := (dC, dI)) (ci := 12) (v := .ref h_row) (C := RX12) (T := TX12) (N := 22) hx hb hts inX12 hown hK hP 0 rfl rfl 1 (by decide) (hts _ (List.mem_cons_of_mem _ mw_169)) (fun _ h9 => h9) rfl dX12_codeFrame_165 ?_
    refine lv_bipush (v := 26) hx hb dX12_codeFrame_168 (by decide) ?_
    refine lv_dup2_11 hx hb dX12_codeFrame_170 rfl rfl ?_
    refine xiald (k := 26) hx hb hK hP 1 0 rfl rfl (vpL 26 13385 rfl) (by decide) dX12_codeFrame_171 ?_
    refine lv_iconst (v := 1) hx hb dX12_codeFrame_172 (by decide) ?_
    refine lv_iadd hx hb dX12_codeFrame_173 ?_
    refine xiast (k := 26) hx hb hK hP hD hS 1 0 rfl rfl (vpL 26 13385 rfl) (by decide) dX12_codeFrame_174 ?_; clear hP hD hS; clear H locs; intro f41 e_f41 H locs hP hD hS
    replace hw := hw f41 e_f41
    clear e_f41
    replace hP : va_P (dC, dI) vwCl (w_X12_codeFrame h0 h_row h_kept h_isKept h_aside h_eight h_rows h_scales h_dealt h_bytes h_heardRow h_made h_comes h_backs h_fresh cy c_thrown x1 x2 c_pairE c_pairO x7 c_lag c_lagSum f41 f4 f5 f8 f10 f11) H := hP
    replace hD : va_D A (w_X12_codeFrame h0 h_row h_kept h_isKept h_aside h_eight h_rows h_scales h_dealt h_bytes h_heardRow h_made h_comes h_backs h_fresh cy c_thrown x1 x2 c_pairE c_pairO x7 c_lag c_lagSum f41 f4 f5 f8 f10 f11) := hD
    refine lv_aload_n hx hb dX12_codeFrame_175 rfl (lv_at hl 2 rfl) ?_
    refine va_get (D := (dC, dI)) (ci := 12) (v := .ref h_row) (C := RX12) (T := TX12) (N := 22) hx hb hts inX12 hown hK hP 0 rfl rfl 1 (by decide) (hts _ (List.mem_cons_of_mem _ mw_169)) (fun _ h9 => h9) rfl dX12_codeFrame_176 ?_
    refine lv_bipush (v := 42) hx hb dX12_codeFrame_179 (by decide) ?_
    refine lv_dup2_11 hx hb dX12_codeFrame_181 rfl rfl ?_
    refine xiald (k := 42) hx hb hK hP 1 0 rfl rfl (vpL 42 13385 rfl) (by decide) dX12_codeFrame_182 ?_
    refine lv_aload_n hx hb dX12_codeFrame_183 rfl (lv_at hl 2 rfl) ?_
    refine va_get (D := (dC, dI)) (ci := 12) (v := .ref h_row) (C := RX12) (T := TX12) (N := 22) hx hb hts inX12 hown hK hP 0 rfl rfl 1 (by decide) (hts _ (List.mem_cons_of_mem _ mw_169)) (fun _ h9 => h9) rfl dX12_codeFrame_184 ?_
    refine lv_sipush (v := 654) hx hb dX12_codeFrame_187 (by decide) ?_
    refine xiald (k := 654) hx hb hK hP 1 0 rfl rfl (vpL 654 13385 rfl) (by decide) dX12_codeFrame_190 ?_
    refine lv_iadd hx hb dX12_codeFrame_191 ?_
    refine xiast (k := 42) hx hb hK hP hD hS 1 0 rfl rfl (vpL 42 13385 rfl) (by decide) dX12_codeFrame_192 ?_; clear hP hD hS; clear H locs; intro f45 e_f45 H locs hP hD hS
    replace hw := hw f45 e_f45
    clear e_f45
    replace hP : va_P (dC, dI) vwCl (w_X12_codeFrame h0 h_row h_kept h_isKept h_aside h_eight h_rows h_scales h_dealt h_bytes h_heardRow h_made h_comes h_backs h_fresh cy c_thrown x1 x2 c_pairE c_pairO x7 c_lag c_lagSum f45 f4 f5 f8 f10 f11) H := hP
    replace hD : va_D A (w_X12_codeFrame h0 h_row h_kept h_isKept h_aside h_eight h_rows h_scales h_dealt h_bytes h_heardRow h_made h_comes h_backs h_fresh cy c_thrown x1 x2 c_pairE c_pairO x7 c_lag c_lagSum f45 f4 f5 f8 f10 f11) := hD
    refine lv_iload_n hx hb dX12_codeFrame_193 rfl (lv_at hl 3 rfl) ?_
    refine lv_bipush (v := 8) hx hb dX12_codeFrame_194 (by decide) ?_
    refine lv_irem hx hb dX12_codeFrame_196 (by decide) ?_
    refine lv_topi (fun x46 e_x46 => ?_)
    replace hw := hw x46 e_x46
    clear e_x46
    refine lv_bipush (v := 7) hx hb dX12_codeFrame_197 (by decide) ?_
    refine lv_icmp_ne (tgt := 206) hx hb dX12_codeFrame_199 (by decide) (fun c47 => ?_) (fun c47 => ?_)
    · replace hw := hw.2 c47; clear c47
      subst hQe
      exact W.vret hx hb hr (fun t ht hW => ⟨⟨(x1, x2, x7, f45, f4, f5, f8, f10, f11), rfl, hw, by rw [ht]; exact hP, va_K.moved hW.alike hK, hD⟩, hS.F ht⟩) hS.2.2 dX12_codeFrame_206
    · replace hw := hw.1 c47; clear c47
      refine lv_aload_n hx hb dX12_codeFrame_202 rfl (lv_at hl 2 rfl) ?_
      have hPc := pSub (ws' := (w_X12_steers h0 h_row h_kept h_isKept h_aside h_eight h_rows h_scales h_dealt h_bytes h_heardRow h_made h_comes h_backs h_fresh cy c_thrown x1 x2 c_pairE c_pairO x7 c_lag c_lagSum f45)) hP [0, 1] rfl
      have hDc := dSub (ws' := (w_X12_steers h0 h_row h_kept h_isKept h_aside h_eight h_rows h_scales h_dealt h_bytes h_heardRow h_made h_comes h_backs h_fresh cy c_thrown x1 x2 c_pairE c_pairO x7 c_lag c_lagSum f45)) hD [0, 1] (by decide) rfl
      have hFc := va_free (wc := (w_X12_steers h0 h_row h_kept h_isKept h_aside h_eight h_rows h_scales h_dealt h_bytes h_heardRow h_made h_comes h_backs h_fresh cy c_thrown x1 x2 c_pairE c_pairO x7 c_lag c_lagSum f45)) hD hS hA [0, 1] rfl
      refine va_callv (va_runV (As := []) (rest := []) ⟨hx, hb, hml, hown, hts⟩ (c_X12_steers l dC dI cy h0 h_row h_kept h_isKept h_aside h_eight h_rows h_scales h_dealt h_bytes h_heardRow h_made h_comes h_backs h_fresh H.size c_thrown x1 x2 c_pairE c_pairO x7 c_lag c_lagSum f45 _ hw) (cwV 0 hts (goodV mw_688 mw_685 mw_686 mw_687 mw_5) rfl rfl rfl (by decide +kernel) ⟨Nat.le_of_ble_eq_true rfl, Nat.le_of_ble_eq_true rfl⟩) ⟨PX_blind, va_recv hK hPc (ci := 12) (q0 := 0) rfl rfl, PX_pre hPc hK hDc hG⟩ rfl rfl hl.1 rfl (lv_room (Nat.le_of_ble_eq_true rfl)) dX12_codeFrame_203 ⟨Nat.zero_le _, Nat.zero_le _⟩) hS (fun q _ h => hFc q h) hFc ?_; clear hw hS; intro f48 t H1 locs1 ht hvm hw hB hz1 hk1 hS
      obtain ⟨hP1, -, -⟩ := hB
      rw [ht] at hP1
      replace hP := jC0 hP hD [0, 1] [2, 3, 4, 5, 6] rfl hk1 hP1 (w_X12_codeFrame h0 h_row h_kept h_isKept h_aside h_eight h_rows h_scales h_dealt h_bytes h_heardRow h_made h_comes h_backs h_fresh cy c_thrown x1 x2 c_pairE c_pairO x7 c_lag c_lagSum f48 f4 f5 f8 f10 f11) rfl rfl rfl 7 rfl (by decide +kernel); clear hD; obtain ⟨hP, hD⟩ := hP
      replace hP : va_P (dC, dI) vwCl (w_X12_codeFrame h0 h_row h_kept h_isKept h_aside h_eight h_rows h_scales h_dealt h_bytes h_heardRow h_made h_comes h_backs h_fresh cy c_thrown x1 x2 c_pairE c_pairO x7 c_lag c_lagSum f48 f4 f5 f8 f10 f11) H1 := hP
      replace hD : va_D A (w_X12_codeFrame h0 h_row h_kept h_isKept h_aside h_eight h_rows h_scales h_dealt h_bytes h_heardRow h_made h_comes h_backs h_fresh cy c_thrown x1 x2 c_pairE c_pairO x7 c_lag c_lagSum f48 f4 f5 f8 f10 f11) := hD
      clear hPc hDc hFc hP1 hk1 hz1 hvm ht; clear t; clear H locs; obtain ⟨H, hH⟩ : ∃ H, H = H1 := ⟨_, rfl⟩; obtain ⟨locs, hlo⟩ : ∃ L, L = locs1 := ⟨_, rfl⟩; subst hH; subst hlo
      refine W.widen (k := 0) (n := 0) (Nat.le_refl 0) (Nat.le_refl 0) ?_
      subst hQe
      exact W.vret hx hb hr (fun t ht hW => ⟨⟨(x1, x2, x7, f48, f4, f5, f8, f10, f11), rfl, hw, by rw [ht]; exact hP, va_K.moved hW.alike hK, hD⟩, hS.F ht⟩) hS.2.2 dX12_codeFrame_206
  · replace hw := hw.2 c29; clear c29
    refine lv_aload_n hx hb dX12_codeFrame_82 rfl (lv_at hl 2 rfl) ?_
    refine va_get (D := (dC, dI)) (ci := 12) (v := .ref h_row) (C := RX12) (T := TX12) (N := 22) hx hb hts inX12 hown hK hP 0 rfl rfl 1 (by decide) (hts _ (List.mem_cons_of_mem _ mw_169)) (fun _ h9 => h9) rfl dX12_codeFrame_83 ?_
    refine lv_iload_n hx hb dX12_codeFrame_86 rfl (lv_at hl 1 rfl) ?_
    refine lv_iconst (v := 4) hx hb dX12_codeFrame_87 (by decide) ?_
    refine lv_iadd hx hb dX12_codeFrame_88 ?_
    refine lv_iload_n hx hb dX12_codeFrame_89 rfl (lv_at hl 0 rfl) ?_
    refine lv_iadd hx hb dX12_codeFrame_90 ?_
    refine lv_aload_n hx hb dX12_codeFrame_91 rfl (lv_at hl 2 rfl) ?_
    refine va_get (D := (dC, dI)) (ci := 12) (v := .ref h_row) (C := RX12) (T := TX12) (N := 22) hx hb hts inX12 hown hK hP 0 rfl rfl 1 (by decide) (hts _ (List.mem_cons_of_mem _ mw_169)) (fun _ h9 => h9) rfl dX12_codeFrame_92 ?_
    refine lv_sipush (v := 655) hx hb dX12_codeFrame_95 (by decide) ?_
    refine lv_iload_n hx hb dX12_codeFrame_98 rfl (lv_at hl 0 rfl) ?_
    refine lv_iadd hx hb dX12_codeFrame_99 ?_
    obtain ⟨h49, hw⟩ := hw
    refine xiald (k := ((655 : Int32) + x27).toNatClampNeg) hx hb hK hP 1 0 rfl rfl h49 rfl dX12_codeFrame_100 ?_
    obtain ⟨h50, hw⟩ := hw
    refine xiast (k := ((r13 + (4 : Int32)) + x27).toNatClampNeg) hx hb hK hP hD hS 1 0 rfl rfl h50 rfl dX12_codeFrame_101 ?_; clear hP hD hS; clear H locs; intro f51 e_f51 H locs hP hD hS
    replace hw := hw f51 e_f51
    clear e_f51
    replace hP : va_P (dC, dI) vwCl (w_X12_codeFrame h0 h_row h_kept h_isKept h_aside h_eight h_rows h_scales h_dealt h_bytes h_heardRow h_made h_comes h_backs h_fresh cy c_thrown x1 x2 c_pairE c_pairO x7 c_lag c_lagSum f51 f4 f5 f8 f10 f11) H := hP
    replace hD : va_D A (w_X12_codeFrame h0 h_row h_kept h_isKept h_aside h_eight h_rows h_scales h_dealt h_bytes h_heardRow h_made h_comes h_backs h_fresh cy c_thrown x1 x2 c_pairE c_pairO x7 c_lag c_lagSum f51 f4 f5 f8 f10 f11) := hD
    refine lv_aload_n hx hb dX12_codeFrame_102 rfl (lv_at hl 2 rfl) ?_
    refine va_get (D := (dC, dI)) (ci := 12) (v := .ref h_row) (C := RX12) (T := TX12) (N := 22) hx hb hts inX12 hown hK hP 0 rfl rfl 1 (by decide) (hts _ (List.mem_cons_of_mem _ mw_169)) (fun _ h9 => h9) rfl dX12_codeFrame_103 ?_
    refine lv_iload_n hx hb dX12_codeFrame_106 rfl (lv_at hl 1 rfl) ?_
    refine lv_bipush (v := 84) hx hb dX12_codeFrame_107 (by decide) ?_
    refine lv_iadd hx hb dX12_codeFrame_109 ?_
    refine lv_iload_n hx hb dX12_codeFrame_110 rfl (lv_at hl 0 rfl) ?_
    refine lv_iadd hx hb dX12_codeFrame_111 ?_
    refine lv_aload_n hx hb dX12_codeFrame_112 rfl (lv_at hl 2 rfl) ?_
    refine va_get (D := (dC, dI)) (ci := 12) (v := .ref h_row) (C := RX12) (T := TX12) (N := 22) hx hb hts inX12 hown hK hP 0 rfl rfl 1 (by decide) (hts _ (List.mem_cons_of_mem _ mw_169)) (fun _ h9 => h9) rfl dX12_codeFrame_113 ?_
    refine lv_sipush (v := 655) hx hb dX12_codeFrame_116 (by decide) ?_
    refine lv_iload_n hx hb dX12_codeFrame_119 rfl (lv_at hl 0 rfl) ?_
    refine lv_iadd hx hb dX12_codeFrame_120 ?_
    obtain ⟨h52, hw⟩ := hw
    refine xiald (k := ((655 : Int32) + x27).toNatClampNeg) hx hb hK hP 1 0 rfl rfl h52 rfl dX12_codeFrame_121 ?_
    obtain ⟨h53, hw⟩ := hw
    refine xiast (k := ((r13 + (84 : Int32)) + x27).toNatClampNeg) hx hb hK hP hD hS 1 0 rfl rfl h53 rfl dX12_codeFrame_122 ?_; clear hP hD hS; clear H locs; intro f54 e_f54 H locs hP hD hS
    replace hw := hw f54 e_f54
    clear e_f54
    replace hP : va_P (dC, dI) vwCl (w_X12_codeFrame h0 h_row h_kept h_isKept h_aside h_eight h_rows h_scales h_dealt h_bytes h_heardRow h_made h_comes h_backs h_fresh cy c_thrown x1 x2 c_pairE c_pairO x7 c_lag c_lagSum f54 f4 f5 f8 f10 f11) H := hP
    replace hD : va_D A (w_X12_codeFrame h0 h_row h_kept h_isKept h_aside h_eight h_rows h_scales h_dealt h_bytes h_heardRow h_made h_comes h_backs h_fresh cy c_thrown x1 x2 c_pairE c_pairO x7 c_lag c_lagSum f54 f4 f5 f8 f10 f11) := hD
    refine lv_iinc (v := x27 + 1) (lv' := [(3, .int (x27 + 1)), (2, .int r13), (0, .ref h0), (1, .int v1)]) hx hb dX12_codeFrame_123 hl (k := 0) rfl rfl (by decide) rfl ?_; clear hl; clear ls; intro ls hl
    refine lv_goto (tgt := 76) hx hb dX12_codeFrame_126 (by decide) ?_
    exact ih26 (x27 + 1) f54 hw H locs ls hP hD hS (lv_sub hl [0, 1, 2, 3] rfl)
set_option maxHeartbeats 4000000 in
set_option maxRecDepth 100000 in
theorem c_X12_dropFirst (l : Launch) (dC : Nat → ClassId) (dI : Nat → Nat → Nat) (cy : Nat → ClassId) (h0 h_row h_kept h_isKept h_aside h_eight h_rows h_scales h_dealt h_bytes h_heardRow h_made h_comes h_backs h_fresh : Nat) (sz : Nat) (c_thrown : Int32) (c_nodeS : Int32) (c_nodeD : Int32) (c_pairE : Int32) (c_pairO : Int32) (c_bit : Int32) (c_lag : Int32) (c_lagSum : Int32) (c_row : Nat → Int32) (post : (Nat → Int32) → Prop) (hw : wp_X12_dropFirst c_row post) : Met l yX12_dropFirst wsX12_dropFirst ({ frames := 1, cells := 0, slots := 0, locals := 20 }) (PX dC dI cy [.ref h0] sz (w_X12_dropFirst h0 h_row h_kept h_isKept h_aside h_eight h_rows h_scales h_dealt h_bytes h_heardRow h_made h_comes h_backs h_fresh cy c_thrown c_nodeS c_nodeD c_pairE c_pairO c_bit c_lag c_lagSum c_row)) (va_Qv (fun (u : (Nat → Int32)) => post u) (QX dC dI cy (va_A (w_X12_dropFirst h0 h_row h_kept h_isKept h_aside h_eight h_rows h_scales h_dealt h_bytes h_heardRow h_made h_comes h_backs h_fresh cy c_thrown c_nodeS c_nodeD c_pairE c_pairO c_bit c_lag c_lagSum c_row) sz) (fun (u : (Nat → Int32)) => w_X12_dropFirst h0 h_row h_kept h_isKept h_aside h_eight h_rows h_scales h_dealt h_bytes h_heardRow h_made h_comes h_backs h_fresh cy c_thrown c_nodeS c_nodeD c_pairE c_pairO c_bit c_lag c_lagSum u)) (va_A (w_X12_dropFirst h0 h_row h_kept h_isKept h_aside h_eight h_rows h_scales h_dealt h_bytes h_heardRow h_made h_comes h_backs h_fresh cy c_thrown c_nodeS c_nodeD c_pairE c_pairO c_bit c_lag c_lagSum c_row) sz)) 0 0 (va_A (w_X12_dropFirst h0 h_row h_kept h_isKept h_aside h_eight h_rows h_scales h_dealt h_bytes h_heardRow h_made h_comes h_backs h_fresh cy c_thrown c_nodeS c_nodeD c_pairE c_pairO c_bit c_lag c_lagSum c_row) sz) := by
  refine Met.ofW (cc := cX12_dropFirst) (maxL := 2) (ret := none) (by decide) rfl ?_
  intro p e s m args below meth c s₁ B hml hv
  obtain ⟨rfl, hsz, hP, hK, hD0, hG⟩ := hv
  have hx := B.exec
  have hb := B.bytes
  have hr := B.returns
  have hts := atoms_spec (ws := wsX12_dropFirst) B.pre
  have hown : s.vm.findClass RX12 = some m.cls := findClass_of_methodNamed B.named
  have hlocks := B.notSynchronized
  subst hsz
  have hD := hD0.self (sz := s.heap.size)
  generalize hAe : va_A (w_X12_dropFirst h0 h_row h_kept h_isKept h_aside h_eight h_rows h_scales h_dealt h_bytes h_heardRow h_made h_comes h_backs h_fresh cy c_thrown c_nodeS c_nodeD c_pairE c_pairO c_bit c_lag c_lagSum c_row) s.heap.size = A at hD ⊢
  have hA : ∀ q : Nat, s.heap.size ≤ q → A q := fun q h => by rw [← hAe]; exact Or.inr h
  have hS : va_S A s.heap s.heap [] := va_S.rf
  have hl := lv_entry ([.ref h0]) (n := 2) (Nat.le_of_ble_eq_true rfl)
  rw [lg_entry_eq]
  generalize (lg_sl ([.ref h0]) ++ List.replicate (2 - (lg_sl ([.ref h0])).length) Slot.unset).toArray = ls at hl ⊢
  replace hl : lv_has ls 2 [(0, .ref h0)] := hl
  have inX12 : ∀ w ∈ u_ws RX12 TX12 22, w ∈ wsX12_dropFirst := fun w h => List.mem_cons_of_mem _ (inlX12 w h)
  clear hAe hD0 B
  unfold wp_X12_dropFirst at hw
  generalize hQe : MQ below _ _ s _ _ _ = Q0
  generalize ([.ref h0] : List Value).toArray = av at *
  obtain ⟨H, hH⟩ : ∃ H, H = s.heap := ⟨_, rfl⟩
  obtain ⟨locs, hlo⟩ : ∃ L : List Loc, L = [] := ⟨_, rfl⟩
  replace hP : va_P (dC, dI) vwCl (w_X12_dropFirst h0 h_row h_kept h_isKept h_aside h_eight h_rows h_scales h_dealt h_bytes h_heardRow h_made h_comes h_backs h_fresh cy c_thrown c_nodeS c_nodeD c_pairE c_pairO c_bit c_lag c_lagSum c_row) H := by rw [hH]; exact hP
  replace hS : va_S A s.heap H locs := by rw [hH, hlo]; exact hS
  suffices hgo : W p l e ({ frames := 1, cells := 0, slots := 0, locals := 20 }) s m av below meth c H locs 0 0 Q0 (F0 m 0 ls []) by rw [hH, hlo] at hgo; exact hgo
  clear hH hlo
  refine lv_aload_n hx hb dX12_dropFirst_0 rfl (lv_at hl 0 rfl) ?_
  refine va_get (D := (dC, dI)) (ci := 12) (v := .ref h_row) (C := RX12) (T := TX12) (N := 22) hx hb hts inX12 hown hK hP 0 rfl rfl 1 (by decide) (hts _ (List.mem_cons_of_mem _ mw_169)) (fun _ h9 => h9) rfl dX12_dropFirst_1 ?_
  refine lv_bipush (v := 51) hx hb dX12_dropFirst_4 (by decide) ?_
  refine lv_dup2_11 hx hb dX12_dropFirst_6 rfl rfl ?_
  refine xiald (k := 51) hx hb hK hP 1 0 rfl rfl (vpL 51 13385 rfl) (by decide) dX12_dropFirst_7 ?_
  refine lv_iconst (v := 1) hx hb dX12_dropFirst_8 (by decide) ?_
  refine lv_isub hx hb dX12_dropFirst_9 ?_
  refine xiast (k := 51) hx hb hK hP hD hS 1 0 rfl rfl (vpL 51 13385 rfl) (by decide) dX12_dropFirst_10 ?_; clear hP hD hS; clear H locs; intro f3 e_f3 H locs hP hD hS
  replace hw := hw f3 e_f3
  clear e_f3
  replace hP : va_P (dC, dI) vwCl (w_X12_dropFirst h0 h_row h_kept h_isKept h_aside h_eight h_rows h_scales h_dealt h_bytes h_heardRow h_made h_comes h_backs h_fresh cy c_thrown c_nodeS c_nodeD c_pairE c_pairO c_bit c_lag c_lagSum f3) H := hP
  replace hD : va_D A (w_X12_dropFirst h0 h_row h_kept h_isKept h_aside h_eight h_rows h_scales h_dealt h_bytes h_heardRow h_made h_comes h_backs h_fresh cy c_thrown c_nodeS c_nodeD c_pairE c_pairO c_bit c_lag c_lagSum f3) := hD
  refine lv_sipush (v := 735) hx hb dX12_dropFirst_11 (by decide) ?_
  refine lv_istore_n (lv' := [(1, .int (735 : Int32)), (0, .ref h0)]) hx hb dX12_dropFirst_14 rfl hl (by decide) rfl ?_; clear hl; clear ls; intro ls hl
  obtain ⟨x4, e_x4⟩ : ∃ y : Int32, y = (735 : Int32) := ⟨_, rfl⟩
  replace hw := hw x4 e_x4
  replace hl : lv_has ls 2 [(1, .int x4), (0, .ref h0)] := by rw [e_x4]; exact hl
  clear e_x4
  replace hl := lv_sub (l' := [(1, .int x4), (0, .ref h0)]) hl [0, 1] rfl
  revert hl; revert hS; revert hD; revert hP; revert ls; revert locs; revert H
  revert hw; revert f3; revert x4
  refine Lz2_gr ?_; intro g5 ih6 x7 f8 hw
  intro H locs ls hP hD hS hl
  refine lv_iload_n hx hb dX12_dropFirst_15 rfl (lv_at hl 0 rfl) ?_
  refine lv_aload_n hx hb dX12_dropFirst_16 rfl (lv_at hl 1 rfl) ?_
  refine va_get (D := (dC, dI)) (ci := 12) (v := .ref h_row) (C := RX12) (T := TX12) (N := 22) hx hb hts inX12 hown hK hP 0 rfl rfl 1 (by decide) (hts _ (List.mem_cons_of_mem _ mw_169)) (fun _ h9 => h9) rfl dX12_dropFirst_17 ?_
  refine lv_bipush (v := 51) hx hb dX12_dropFirst_20 (by decide) ?_
  refine xiald (k := 51) hx hb hK hP 1 0 rfl rfl (vpL 51 13385 rfl) (by decide) dX12_dropFirst_22 ?_
  have hPc := pSub (ws' := (w_X12_lineAt cy)) hP [] rfl
  have hDc := dSub (ws' := (w_X12_lineAt cy)) hD [] (by decide) rfl
  have hFc := va_free (wc := (w_X12_lineAt cy)) hD hS hA [] rfl
  refine va_calli (va_runS (As := [.int (f8 51)]) (rest := [.int x7]) ⟨hx, hb, hml, hown, hts⟩ (c_X12_lineAt l dC dI cy  H.size (f8 51) _ hw) (va_cwS 1 hts (goodS mw_681 mw_679 mw_680 mw_5) rfl rfl rfl (by decide +kernel) ⟨Nat.le_of_ble_eq_true rfl, Nat.le_of_ble_eq_true rfl⟩) ⟨PX_blind, PX_pre hPc hK hDc hG⟩ rfl rfl hl.1 rfl (lv_room (Nat.le_of_ble_eq_true rfl)) dX12_dropFirst_23 ⟨Nat.zero_le _, Nat.zero_le _⟩) hS (fun q _ h => hFc q h) hFc ?_; clear hw hS; intro r10 _ t H1 locs1 ht hvm hw hB hz1 hk1 hS
  obtain ⟨hP1, -, -⟩ := hB
  rw [ht] at hP1
  replace hP := jC0 hP hD [] [0, 1] rfl hk1 hP1 (w_X12_dropFirst h0 h_row h_kept h_isKept h_aside h_eight h_rows h_scales h_dealt h_bytes h_heardRow h_made h_comes h_backs h_fresh cy c_thrown c_nodeS c_nodeD c_pairE c_pairO c_bit c_lag c_lagSum f8) rfl rfl rfl 2 rfl (by decide +kernel); clear hD; obtain ⟨hP, hD⟩ := hP
  replace hP : va_P (dC, dI) vwCl (w_X12_dropFirst h0 h_row h_kept h_isKept h_aside h_eight h_rows h_scales h_dealt h_bytes h_heardRow h_made h_comes h_backs h_fresh cy c_thrown c_nodeS c_nodeD c_pairE c_pairO c_bit c_lag c_lagSum f8) H1 := hP
  replace hD : va_D A (w_X12_dropFirst h0 h_row h_kept h_isKept h_aside h_eight h_rows h_scales h_dealt h_bytes h_heardRow h_made h_comes h_backs h_fresh cy c_thrown c_nodeS c_nodeD c_pairE c_pairO c_bit c_lag c_lagSum f8) := hD
  clear hPc hDc hFc hP1 hk1 hz1 hvm ht; clear t; clear H locs; obtain ⟨H, hH⟩ : ∃ H, H = H1 := ⟨_, rfl⟩; obtain ⟨locs, hlo⟩ : ∃ L, L = locs1 := ⟨_, rfl⟩; subst hH; subst hlo
  refine W.widen (k := 0) (n := 0) (Nat.le_refl 0) (Nat.le_refl 0) ?_
  refine lv_icmp_ge (tgt := 51) hx hb dX12_dropFirst_26 (by decide) (fun c11 => ?_) (fun c11 => ?_)
  · replace hw := hw.1 c11; clear c11
    clear ih6
    subst hQe
    exact W.vret hx hb hr (fun t ht hW => ⟨⟨f8, rfl, hw, by rw [ht]; exact hP, va_K.moved hW.alike hK, hD⟩, hS.F ht⟩) hS.2.2 dX12_dropFirst_51
  · replace hw := hw.2 c11; clear c11
    refine lv_aload_n hx hb dX12_dropFirst_29 rfl (lv_at hl 1 rfl) ?_
    refine va_get (D := (dC, dI)) (ci := 12) (v := .ref h_row) (C := RX12) (T := TX12) (N := 22) hx hb hts inX12 hown hK hP 0 rfl rfl 1 (by decide) (hts _ (List.mem_cons_of_mem _ mw_169)) (fun _ h9 => h9) rfl dX12_dropFirst_30 ?_
    refine lv_iload_n hx hb dX12_dropFirst_33 rfl (lv_at hl 0 rfl) ?_
    refine lv_aload_n hx hb dX12_dropFirst_34 rfl (lv_at hl 1 rfl) ?_
    refine va_get (D := (dC, dI)) (ci := 12) (v := .ref h_row) (C := RX12) (T := TX12) (N := 22) hx hb hts inX12 hown hK hP 0 rfl rfl 1 (by decide) (hts _ (List.mem_cons_of_mem _ mw_169)) (fun _ h9 => h9) rfl dX12_dropFirst_35 ?_
    refine lv_iload_n hx hb dX12_dropFirst_38 rfl (lv_at hl 0 rfl) ?_
    refine lv_sipush (v := 170) hx hb dX12_dropFirst_39 (by decide) ?_
    refine lv_iadd hx hb dX12_dropFirst_42 ?_
    obtain ⟨h12, hw⟩ := hw
    refine xiald (k := (x7 + (170 : Int32)).toNatClampNeg) hx hb hK hP 1 0 rfl rfl h12 rfl dX12_dropFirst_43 ?_
    obtain ⟨h13, hw⟩ := hw
    refine xiast (k := x7.toNatClampNeg) hx hb hK hP hD hS 1 0 rfl rfl h13 rfl dX12_dropFirst_44 ?_; clear hP hD hS; clear H locs; intro f14 e_f14 H locs hP hD hS
    replace hw := hw f14 e_f14
    clear e_f14
    replace hP : va_P (dC, dI) vwCl (w_X12_dropFirst h0 h_row h_kept h_isKept h_aside h_eight h_rows h_scales h_dealt h_bytes h_heardRow h_made h_comes h_backs h_fresh cy c_thrown c_nodeS c_nodeD c_pairE c_pairO c_bit c_lag c_lagSum f14) H := hP
    replace hD : va_D A (w_X12_dropFirst h0 h_row h_kept h_isKept h_aside h_eight h_rows h_scales h_dealt h_bytes h_heardRow h_made h_comes h_backs h_fresh cy c_thrown c_nodeS c_nodeD c_pairE c_pairO c_bit c_lag c_lagSum f14) := hD
    refine lv_iinc (v := x7 + 1) (lv' := [(1, .int (x7 + 1)), (0, .ref h0)]) hx hb dX12_dropFirst_45 hl (k := 0) rfl rfl (by decide) rfl ?_; clear hl; clear ls; intro ls hl
    refine lv_goto (tgt := 15) hx hb dX12_dropFirst_48 (by decide) ?_
    exact ih6 (x7 + 1) f14 hw H locs ls hP hD hS (lv_sub hl [0, 1] rfl)
set_option maxHeartbeats 4000000 in
set_option maxRecDepth 100000 in
theorem c_X12_givesUp (l : Launch) (dC : Nat → ClassId) (dI : Nat → Nat → Nat) (cy : Nat → ClassId) (h0 h_row h_kept h_isKept h_aside h_eight h_rows h_scales h_dealt h_bytes h_heardRow h_made h_comes h_backs h_fresh : Nat) (sz : Nat) (v1 : Int32) (c_thrown : Int32) (c_nodeS : Int32) (c_nodeD : Int32) (c_pairE : Int32) (c_pairO : Int32) (c_bit : Int32) (c_lag : Int32) (c_lagSum : Int32) (c_row : Nat → Int32) (post : (Nat → Int32) → Prop) (hw : wp_X12_givesUp v1 c_row post) : Met l yX12_givesUp wsX12_givesUp ({ frames := 1, cells := 0, slots := 0, locals := 20 }) (PX dC dI cy [.ref h0, .int v1] sz (w_X12_givesUp h0 h_row h_kept h_isKept h_aside h_eight h_rows h_scales h_dealt h_bytes h_heardRow h_made h_comes h_backs h_fresh cy c_thrown c_nodeS c_nodeD c_pairE c_pairO c_bit c_lag c_lagSum c_row)) (va_Qv (fun (u : (Nat → Int32)) => post u) (QX dC dI cy (va_A (w_X12_givesUp h0 h_row h_kept h_isKept h_aside h_eight h_rows h_scales h_dealt h_bytes h_heardRow h_made h_comes h_backs h_fresh cy c_thrown c_nodeS c_nodeD c_pairE c_pairO c_bit c_lag c_lagSum c_row) sz) (fun (u : (Nat → Int32)) => w_X12_givesUp h0 h_row h_kept h_isKept h_aside h_eight h_rows h_scales h_dealt h_bytes h_heardRow h_made h_comes h_backs h_fresh cy c_thrown c_nodeS c_nodeD c_pairE c_pairO c_bit c_lag c_lagSum u)) (va_A (w_X12_givesUp h0 h_row h_kept h_isKept h_aside h_eight h_rows h_scales h_dealt h_bytes h_heardRow h_made h_comes h_backs h_fresh cy c_thrown c_nodeS c_nodeD c_pairE c_pairO c_bit c_lag c_lagSum c_row) sz)) 0 0 (va_A (w_X12_givesUp h0 h_row h_kept h_isKept h_aside h_eight h_rows h_scales h_dealt h_bytes h_heardRow h_made h_comes h_backs h_fresh cy c_thrown c_nodeS c_nodeD c_pairE c_pairO c_bit c_lag c_lagSum c_row) sz) := by
  refine Met.ofW (cc := cX12_givesUp) (maxL := 2) (ret := none) (by decide) rfl ?_
  intro p e s m args below meth c s₁ B hml hv
  obtain ⟨rfl, hsz, hP, hK, hD0, hG⟩ := hv
  have hx := B.exec
  have hb := B.bytes
  have hr := B.returns
  have hts := atoms_spec (ws := wsX12_givesUp) B.pre
  have hown : s.vm.findClass RX12 = some m.cls := findClass_of_methodNamed B.named
  have hlocks := B.notSynchronized
  subst hsz
  have hD := hD0.self (sz := s.heap.size)
  generalize hAe : va_A (w_X12_givesUp h0 h_row h_kept h_isKept h_aside h_eight h_rows h_scales h_dealt h_bytes h_heardRow h_made h_comes h_backs h_fresh cy c_thrown c_nodeS c_nodeD c_pairE c_pairO c_bit c_lag c_lagSum c_row) s.heap.size = A at hD ⊢
  have hA : ∀ q : Nat, s.heap.size ≤ q → A q := fun q h => by rw [← hAe]; exact Or.inr h
  have hS : va_S A s.heap s.heap [] := va_S.rf
  have hl := lv_entry ([.ref h0, .int v1]) (n := 2) (Nat.le_of_ble_eq_true rfl)
  rw [lg_entry_eq]
  generalize (lg_sl ([.ref h0, .int v1]) ++ List.replicate (2 - (lg_sl ([.ref h0, .int v1])).length) Slot.unset).toArray = ls at hl ⊢
  replace hl : lv_has ls 2 [(0, .ref h0), (1, .int v1)] := hl
  have inX12 : ∀ w ∈ u_ws RX12 TX12 22, w ∈ wsX12_givesUp := fun w h => List.mem_cons_of_mem _ (inlX12 w h)
  clear hAe hD0 B
  unfold wp_X12_givesUp at hw
  generalize hQe : MQ below _ _ s _ _ _ = Q0
  generalize ([.ref h0, .int v1] : List Value).toArray = av at *
  obtain ⟨H, hH⟩ : ∃ H, H = s.heap := ⟨_, rfl⟩
  obtain ⟨locs, hlo⟩ : ∃ L : List Loc, L = [] := ⟨_, rfl⟩
  replace hP : va_P (dC, dI) vwCl (w_X12_givesUp h0 h_row h_kept h_isKept h_aside h_eight h_rows h_scales h_dealt h_bytes h_heardRow h_made h_comes h_backs h_fresh cy c_thrown c_nodeS c_nodeD c_pairE c_pairO c_bit c_lag c_lagSum c_row) H := by rw [hH]; exact hP
  replace hS : va_S A s.heap H locs := by rw [hH, hlo]; exact hS
  suffices hgo : W p l e ({ frames := 1, cells := 0, slots := 0, locals := 20 }) s m av below meth c H locs 0 0 Q0 (F0 m 0 ls []) by rw [hH, hlo] at hgo; exact hgo
  clear hH hlo
  refine lv_aload_n hx hb dX12_givesUp_0 rfl (lv_at hl 0 rfl) ?_
  refine va_get (D := (dC, dI)) (ci := 12) (v := .ref h_row) (C := RX12) (T := TX12) (N := 22) hx hb hts inX12 hown hK hP 0 rfl rfl 1 (by decide) (hts _ (List.mem_cons_of_mem _ mw_169)) (fun _ h9 => h9) rfl dX12_givesUp_1 ?_
  refine lv_iload_n hx hb dX12_givesUp_4 rfl (lv_at hl 1 rfl) ?_
  have hPc := pSub (ws' := (w_X12_packetAt cy)) hP [] rfl
  have hDc := dSub (ws' := (w_X12_packetAt cy)) hD [] (by decide) rfl
  have hFc := va_free (wc := (w_X12_packetAt cy)) hD hS hA [] rfl
  refine va_calli (va_runS (As := [.int v1]) (rest := [.ref h_row]) ⟨hx, hb, hml, hown, hts⟩ (c_X12_packetAt l dC dI cy  H.size v1 _ hw) (va_cwS 1 hts (goodS mw_684 mw_682 mw_683 mw_5) rfl rfl rfl (by decide +kernel) ⟨Nat.le_of_ble_eq_true rfl, Nat.le_of_ble_eq_true rfl⟩) ⟨PX_blind, PX_pre hPc hK hDc hG⟩ rfl rfl hl.1 rfl (lv_room (Nat.le_of_ble_eq_true rfl)) dX12_givesUp_5 ⟨Nat.zero_le _, Nat.zero_le _⟩) hS (fun q _ h => hFc q h) hFc ?_; clear hw hS; intro r1 _ t H1 locs1 ht hvm hw hB hz1 hk1 hS
  obtain ⟨hP1, -, -⟩ := hB
  rw [ht] at hP1
  replace hP := jC0 hP hD [] [0, 1] rfl hk1 hP1 (w_X12_givesUp h0 h_row h_kept h_isKept h_aside h_eight h_rows h_scales h_dealt h_bytes h_heardRow h_made h_comes h_backs h_fresh cy c_thrown c_nodeS c_nodeD c_pairE c_pairO c_bit c_lag c_lagSum c_row) rfl rfl rfl 2 rfl (by decide +kernel); clear hD; obtain ⟨hP, hD⟩ := hP
  replace hP : va_P (dC, dI) vwCl (w_X12_givesUp h0 h_row h_kept h_isKept h_aside h_eight h_rows h_scales h_dealt h_bytes h_heardRow h_made h_comes h_backs h_fresh cy c_thrown c_nodeS c_nodeD c_pairE c_pairO c_bit c_lag c_lagSum c_row) H1 := hP
  replace hD : va_D A (w_X12_givesUp h0 h_row h_kept h_isKept h_aside h_eight h_rows h_scales h_dealt h_bytes h_heardRow h_made h_comes h_backs h_fresh cy c_thrown c_nodeS c_nodeD c_pairE c_pairO c_bit c_lag c_lagSum c_row) := hD
  clear hPc hDc hFc hP1 hk1 hz1 hvm ht; clear t; clear H locs; obtain ⟨H, hH⟩ : ∃ H, H = H1 := ⟨_, rfl⟩; obtain ⟨locs, hlo⟩ : ∃ L, L = locs1 := ⟨_, rfl⟩; subst hH; subst hlo
  refine W.widen (k := 0) (n := 0) (Nat.le_refl 0) (Nat.le_refl 0) ?_
  refine lv_iconst (v := 0) hx hb dX12_givesUp_8 (by decide) ?_
  refine lv_iadd hx hb dX12_givesUp_9 ?_
  refine lv_iconst (v := 3) hx hb dX12_givesUp_10 (by decide) ?_
  obtain ⟨h2, hw⟩ := hw
  refine xiast (k := (r1 + (0 : Int32)).toNatClampNeg) hx hb hK hP hD hS 1 0 rfl rfl h2 rfl dX12_givesUp_11 ?_; clear hP hD hS; clear H locs; intro f3 e_f3 H locs hP hD hS
  replace hw := hw f3 e_f3
  clear e_f3
  replace hP : va_P (dC, dI) vwCl (w_X12_givesUp h0 h_row h_kept h_isKept h_aside h_eight h_rows h_scales h_dealt h_bytes h_heardRow h_made h_comes h_backs h_fresh cy c_thrown c_nodeS c_nodeD c_pairE c_pairO c_bit c_lag c_lagSum f3) H := hP
  replace hD : va_D A (w_X12_givesUp h0 h_row h_kept h_isKept h_aside h_eight h_rows h_scales h_dealt h_bytes h_heardRow h_made h_comes h_backs h_fresh cy c_thrown c_nodeS c_nodeD c_pairE c_pairO c_bit c_lag c_lagSum f3) := hD
  refine lv_aload_n hx hb dX12_givesUp_12 rfl (lv_at hl 0 rfl) ?_
  refine va_get (D := (dC, dI)) (ci := 12) (v := .ref h_row) (C := RX12) (T := TX12) (N := 22) hx hb hts inX12 hown hK hP 0 rfl rfl 1 (by decide) (hts _ (List.mem_cons_of_mem _ mw_169)) (fun _ h9 => h9) rfl dX12_givesUp_13 ?_
  refine lv_bipush (v := 29) hx hb dX12_givesUp_16 (by decide) ?_
  refine lv_dup2_11 hx hb dX12_givesUp_18 rfl rfl ?_
  refine xiald (k := 29) hx hb hK hP 1 0 rfl rfl (vpL 29 13385 rfl) (by decide) dX12_givesUp_19 ?_
  refine lv_iconst (v := 1) hx hb dX12_givesUp_20 (by decide) ?_
  refine lv_iadd hx hb dX12_givesUp_21 ?_
  refine xiast (k := 29) hx hb hK hP hD hS 1 0 rfl rfl (vpL 29 13385 rfl) (by decide) dX12_givesUp_22 ?_; clear hP hD hS; clear H locs; intro f6 e_f6 H locs hP hD hS
  replace hw := hw f6 e_f6
  clear e_f6
  replace hP : va_P (dC, dI) vwCl (w_X12_givesUp h0 h_row h_kept h_isKept h_aside h_eight h_rows h_scales h_dealt h_bytes h_heardRow h_made h_comes h_backs h_fresh cy c_thrown c_nodeS c_nodeD c_pairE c_pairO c_bit c_lag c_lagSum f6) H := hP
  replace hD : va_D A (w_X12_givesUp h0 h_row h_kept h_isKept h_aside h_eight h_rows h_scales h_dealt h_bytes h_heardRow h_made h_comes h_backs h_fresh cy c_thrown c_nodeS c_nodeD c_pairE c_pairO c_bit c_lag c_lagSum f6) := hD
  subst hQe
  exact W.vret hx hb hr (fun t ht hW => ⟨⟨f6, rfl, hw, by rw [ht]; exact hP, va_K.moved hW.alike hK, hD⟩, hS.F ht⟩) hS.2.2 dX12_givesUp_23
set_option maxHeartbeats 4000000 in
set_option maxRecDepth 100000 in
theorem c_X12_piecesOf (l : Launch) (dC : Nat → ClassId) (dI : Nat → Nat → Nat) (cy : Nat → ClassId) (sz : Nat) (v0 : Int32) (v1 : Int32) (post : Int32 → Prop) (hw : wp_X12_piecesOf v0 v1 post) : Met l yX12_piecesOf wsX12_piecesOf ({ frames := 0, cells := 0, slots := 0, locals := 0 }) (PX dC dI cy [.int v0, .int v1] sz (w_X12_piecesOf cy)) (va_Qi (fun (r : Int32) (u : Unit) => post r) (QX dC dI cy (va_A (w_X12_piecesOf cy) sz) (fun (u : Unit) => w_X12_piecesOf cy)) (va_A (w_X12_piecesOf cy) sz)) 0 0 (va_A (w_X12_piecesOf cy) sz) := by
  refine Met.ofW (cc := cX12_piecesOf) (maxL := 2) (ret := (some .int)) (by decide) rfl ?_
  intro p e s m args below meth c s₁ B hml hv
  obtain ⟨rfl, hsz, hP, hK, hD0, hG⟩ := hv
  have hx := B.exec
  have hb := B.bytes
  have hr := B.returns
  have hts := atoms_spec (ws := wsX12_piecesOf) B.pre
  have hown : s.vm.findClass RX12 = some m.cls := findClass_of_methodNamed B.named
  have hlocks := B.notSynchronized
  subst hsz
  have hD := hD0.self (sz := s.heap.size)
  generalize hAe : va_A (w_X12_piecesOf cy) s.heap.size = A at hD ⊢
  have hA : ∀ q : Nat, s.heap.size ≤ q → A q := fun q h => by rw [← hAe]; exact Or.inr h
  have hS : va_S A s.heap s.heap [] := va_S.rf
  have hl := lv_entry ([.int v0, .int v1]) (n := 2) (Nat.le_of_ble_eq_true rfl)
  rw [lg_entry_eq]
  generalize (lg_sl ([.int v0, .int v1]) ++ List.replicate (2 - (lg_sl ([.int v0, .int v1])).length) Slot.unset).toArray = ls at hl ⊢
  replace hl : lv_has ls 2 [(0, .int v0), (1, .int v1)] := hl
  clear hAe hD0 B
  unfold wp_X12_piecesOf at hw
  generalize hQe : MQ below _ _ s _ _ _ = Q0
  generalize ([.int v0, .int v1] : List Value).toArray = av at *
  obtain ⟨H, hH⟩ : ∃ H, H = s.heap := ⟨_, rfl⟩
  obtain ⟨locs, hlo⟩ : ∃ L : List Loc, L = [] := ⟨_, rfl⟩
  replace hP : va_P (dC, dI) vwCl (w_X12_piecesOf cy) H := by rw [hH]; exact hP
  replace hS : va_S A s.heap H locs := by rw [hH, hlo]; exact hS
  suffices hgo : W p l e ({ frames := 0, cells := 0, slots := 0, locals := 0 }) s m av below meth c H locs 0 0 Q0 (F0 m 0 ls []) by rw [hH, hlo] at hgo; exact hgo
  clear hH hlo
  refine lv_iload_n hx hb dX12_piecesOf_0 rfl (lv_at hl 0 rfl) ?_
  refine lv_iload_n hx hb dX12_piecesOf_1 rfl (lv_at hl 1 rfl) ?_
  refine lv_iadd hx hb dX12_piecesOf_2 ?_
  refine lv_iconst (v := 1) hx hb dX12_piecesOf_3 (by decide) ?_
  refine lv_isub hx hb dX12_piecesOf_4 ?_
  refine lv_iload_n hx hb dX12_piecesOf_5 rfl (lv_at hl 1 rfl) ?_
  obtain ⟨h1, hw⟩ := hw
  refine lv_idiv hx hb dX12_piecesOf_6 h1 ?_
  refine lv_topi (fun x2 e_x2 => ?_)
  replace hw := hw x2 e_x2
  clear e_x2
  subst hQe
  exact W.iret (v := x2) hx hb hr (fun t ht hW => ⟨⟨x2, (), rfl, hw, by rw [ht]; exact hP, va_K.moved hW.alike hK, hD⟩, hS.F ht⟩) hS.2.2 dX12_piecesOf_7
set_option maxHeartbeats 4000000 in
set_option maxRecDepth 100000 in
theorem c_X12_level (l : Launch) (dC : Nat → ClassId) (dI : Nat → Nat → Nat) (cy : Nat → ClassId) (h0 h_row h_kept h_isKept h_aside h_eight h_rows h_scales h_dealt h_bytes h_heardRow h_made h_comes h_backs h_fresh : Nat) (sz : Nat) (c_thrown : Int32) (c_nodeS : Int32) (c_nodeD : Int32) (c_pairE : Int32) (c_pairO : Int32) (c_bit : Int32) (c_lag : Int32) (c_lagSum : Int32) (c_row : Nat → Int32) (post : Int32 → Prop) (hw : wp_X12_level c_row post) : Met l yX12_level wsX12_level ({ frames := 0, cells := 0, slots := 0, locals := 0 }) (PX dC dI cy [.ref h0] sz (w_X12_level h0 h_row h_kept h_isKept h_aside h_eight h_rows h_scales h_dealt h_bytes h_heardRow h_made h_comes h_backs h_fresh cy c_thrown c_nodeS c_nodeD c_pairE c_pairO c_bit c_lag c_lagSum c_row)) (va_Qi (fun (r : Int32) (u : Unit) => post r) (QX dC dI cy (va_A (w_X12_level h0 h_row h_kept h_isKept h_aside h_eight h_rows h_scales h_dealt h_bytes h_heardRow h_made h_comes h_backs h_fresh cy c_thrown c_nodeS c_nodeD c_pairE c_pairO c_bit c_lag c_lagSum c_row) sz) (fun (u : Unit) => w_X12_level h0 h_row h_kept h_isKept h_aside h_eight h_rows h_scales h_dealt h_bytes h_heardRow h_made h_comes h_backs h_fresh cy c_thrown c_nodeS c_nodeD c_pairE c_pairO c_bit c_lag c_lagSum c_row)) (va_A (w_X12_level h0 h_row h_kept h_isKept h_aside h_eight h_rows h_scales h_dealt h_bytes h_heardRow h_made h_comes h_backs h_fresh cy c_thrown c_nodeS c_nodeD c_pairE c_pairO c_bit c_lag c_lagSum c_row) sz)) 0 0 (va_A (w_X12_level h0 h_row h_kept h_isKept h_aside h_eight h_rows h_scales h_dealt h_bytes h_heardRow h_made h_comes h_backs h_fresh cy c_thrown c_nodeS c_nodeD c_pairE c_pairO c_bit c_lag c_lagSum c_row) sz) := by
  refine Met.ofW (cc := cX12_level) (maxL := 3) (ret := (some .int)) (by decide) rfl ?_
  intro p e s m args below meth c s₁ B hml hv
  obtain ⟨rfl, hsz, hP, hK, hD0, hG⟩ := hv
  have hx := B.exec
  have hb := B.bytes
  have hr := B.returns
  have hts := atoms_spec (ws := wsX12_level) B.pre
  have hown : s.vm.findClass RX12 = some m.cls := findClass_of_methodNamed B.named
  have hlocks := B.notSynchronized
  subst hsz
  have hD := hD0.self (sz := s.heap.size)
  generalize hAe : va_A (w_X12_level h0 h_row h_kept h_isKept h_aside h_eight h_rows h_scales h_dealt h_bytes h_heardRow h_made h_comes h_backs h_fresh cy c_thrown c_nodeS c_nodeD c_pairE c_pairO c_bit c_lag c_lagSum c_row) s.heap.size = A at hD ⊢
  have hA : ∀ q : Nat, s.heap.size ≤ q → A q := fun q h => by rw [← hAe]; exact Or.inr h
  have hS : va_S A s.heap s.heap [] := va_S.rf
  have hl := lv_entry ([.ref h0]) (n := 3) (Nat.le_of_ble_eq_true rfl)
  rw [lg_entry_eq]
  generalize (lg_sl ([.ref h0]) ++ List.replicate (3 - (lg_sl ([.ref h0])).length) Slot.unset).toArray = ls at hl ⊢
  replace hl : lv_has ls 3 [(0, .ref h0)] := hl
  have inX12 : ∀ w ∈ u_ws RX12 TX12 22, w ∈ wsX12_level := fun w h => List.mem_cons_of_mem _ (inlX12 w h)
  clear hAe hD0 B
  unfold wp_X12_level at hw
  generalize hQe : MQ below _ _ s _ _ _ = Q0
  generalize ([.ref h0] : List Value).toArray = av at *
  obtain ⟨H, hH⟩ : ∃ H, H = s.heap := ⟨_, rfl⟩
  obtain ⟨locs, hlo⟩ : ∃ L : List Loc, L = [] := ⟨_, rfl⟩
  replace hP : va_P (dC, dI) vwCl (w_X12_level h0 h_row h_kept h_isKept h_aside h_eight h_rows h_scales h_dealt h_bytes h_heardRow h_made h_comes h_backs h_fresh cy c_thrown c_nodeS c_nodeD c_pairE c_pairO c_bit c_lag c_lagSum c_row) H := by rw [hH]; exact hP
  replace hS : va_S A s.heap H locs := by rw [hH, hlo]; exact hS
  suffices hgo : W p l e ({ frames := 0, cells := 0, slots := 0, locals := 0 }) s m av below meth c H locs 0 0 Q0 (F0 m 0 ls []) by rw [hH, hlo] at hgo; exact hgo
  clear hH hlo
  refine lv_iconst (v := 0) hx hb dX12_level_0 (by decide) ?_
  refine lv_istore_n (lv' := [(1, .int (0 : Int32)), (0, .ref h0)]) hx hb dX12_level_1 rfl hl (by decide) rfl ?_; clear hl; clear ls; intro ls hl
  refine lv_iconst (v := 0) hx hb dX12_level_2 (by decide) ?_
  refine lv_istore_n (lv' := [(2, .int (0 : Int32)), (1, .int (0 : Int32)), (0, .ref h0)]) hx hb dX12_level_3 rfl hl (by decide) rfl ?_; clear hl; clear ls; intro ls hl
  obtain ⟨x1, e_x1⟩ : ∃ y : Int32, y = (0 : Int32) := ⟨_, rfl⟩
  replace hw := hw x1 e_x1
  replace hl : lv_has ls 3 [(2, .int x1), (1, .int (0 : Int32)), (0, .ref h0)] := by rw [e_x1]; exact hl
  clear e_x1
  obtain ⟨x2, e_x2⟩ : ∃ y : Int32, y = (0 : Int32) := ⟨_, rfl⟩
  replace hw := hw x2 e_x2
  replace hl : lv_has ls 3 [(2, .int x1), (1, .int x2), (0, .ref h0)] := by rw [e_x2]; exact hl
  clear e_x2
  replace hl := lv_sub (l' := [(2, .int x1), (1, .int x2), (0, .ref h0)]) hl [0, 1, 2] rfl
  revert hl; revert hS; revert hD; revert hP; revert ls; revert locs; revert H
  revert hw; revert x2; revert x1
  refine Lz2_gr ?_; intro g3 ih4 x5 x6 hw
  intro H locs ls hP hD hS hl
  refine lv_iload_n hx hb dX12_level_4 rfl (lv_at hl 0 rfl) ?_
  refine lv_bipush (v := 14) hx hb dX12_level_5 (by decide) ?_
  refine lv_icmp_ge (tgt := 47) hx hb dX12_level_7 (by decide) (fun c7 => ?_) (fun c7 => ?_)
  · replace hw := hw.1 c7; clear c7
    clear ih4
    refine lv_iload_n hx hb dX12_level_47 rfl (lv_at hl 1 rfl) ?_
    subst hQe
    exact W.iret (v := x6) hx hb hr (fun t ht hW => ⟨⟨x6, (), rfl, hw, by rw [ht]; exact hP, va_K.moved hW.alike hK, hD⟩, hS.F ht⟩) hS.2.2 dX12_level_48
  · replace hw := hw.2 c7; clear c7
    refine lv_iload_n hx hb dX12_level_10 rfl (lv_at hl 1 rfl) ?_
    refine lv_aload_n hx hb dX12_level_11 rfl (lv_at hl 2 rfl) ?_
    refine va_get (D := (dC, dI)) (ci := 12) (v := .ref h_row) (C := RX12) (T := TX12) (N := 22) hx hb hts inX12 hown hK hP 0 rfl rfl 1 (by decide) (hts _ (List.mem_cons_of_mem _ mw_169)) (fun _ h9 => h9) rfl dX12_level_12 ?_
    refine lv_sipush (v := 2095) hx hb dX12_level_15 (by decide) ?_
    refine lv_bipush (v := 83) hx hb dX12_level_18 (by decide) ?_
    refine lv_iload_n hx hb dX12_level_20 rfl (lv_at hl 0 rfl) ?_
    refine lv_imul hx hb dX12_level_21 ?_
    refine lv_iadd hx hb dX12_level_22 ?_
    obtain ⟨h8, hw⟩ := hw
    refine xiald (k := ((2095 : Int32) + ((83 : Int32) * x5)).toNatClampNeg) hx hb hK hP 1 0 rfl rfl h8 rfl dX12_level_23 ?_
    refine lv_aload_n hx hb dX12_level_24 rfl (lv_at hl 2 rfl) ?_
    refine va_get (D := (dC, dI)) (ci := 12) (v := .ref h_row) (C := RX12) (T := TX12) (N := 22) hx hb hts inX12 hown hK hP 0 rfl rfl 1 (by decide) (hts _ (List.mem_cons_of_mem _ mw_169)) (fun _ h9 => h9) rfl dX12_level_25 ?_
    refine lv_bipush (v := 30) hx hb dX12_level_28 (by decide) ?_
    refine xiald (k := 30) hx hb hK hP 1 0 rfl rfl (vpL 30 13385 rfl) (by decide) dX12_level_30 ?_
    refine jn1 (Gg := fun (x10 : Int32) => ∀ (H : Heap) (locs : List Loc) (ls : Array Slot), va_P (dC, dI) vwCl (w_X12_level h0 h_row h_kept h_isKept h_aside h_eight h_rows h_scales h_dealt h_bytes h_heardRow h_made h_comes h_backs h_fresh cy c_thrown c_nodeS c_nodeD c_pairE c_pairO c_bit c_lag c_lagSum c_row) H → va_D A (w_X12_level h0 h_row h_kept h_isKept h_aside h_eight h_rows h_scales h_dealt h_bytes h_heardRow h_made h_comes h_backs h_fresh cy c_thrown c_nodeS c_nodeD c_pairE c_pairO c_bit c_lag c_lagSum c_row) → va_S A s.heap H locs → lv_has ls 3 [(0, .ref h0), (2, .int x5)] → W p l e { frames := 0, cells := 0, slots := 0, locals := 0 } s m av below meth c H locs 0 0 Q0 (F0 m 39 ls [.int x10, .int x6])) hw ?_ ?_ <;> clear hw
    · clear hP hD hS hl; clear H locs ls; intro x10 hw H locs ls hP hD hS hl
      refine lv_iadd hx hb dX12_level_39 ?_
      refine lv_topi (fun x13 e_x13 => ?_)
      replace hw := hw x13 e_x13
      clear e_x13
      refine lv_istore_n (lv' := [(1, .int x13), (0, .ref h0), (2, .int x5)]) hx hb dX12_level_40 rfl hl (by decide) rfl ?_; clear hl; clear ls; intro ls hl
      refine lv_iinc (v := x5 + 1) (lv' := [(2, .int (x5 + 1)), (1, .int x13), (0, .ref h0)]) hx hb dX12_level_41 hl (k := 2) rfl rfl (by decide) rfl ?_; clear hl; clear ls; intro ls hl
      refine lv_goto (tgt := 4) hx hb dX12_level_44 (by decide) ?_
      exact ih4 (x5 + 1) x13 hw H locs ls hP hD hS (lv_sub hl [0, 1, 2] rfl)
    · intro j12 hw
      refine lv_icmp_le (tgt := 38) hx hb dX12_level_31 (by decide) (fun c14 => ?_) (fun c14 => ?_)
      · replace hw := hw.1 c14; clear c14
        refine lv_iconst (v := 0) hx hb dX12_level_38 (by decide) ?_
        exact j12 (0 : Int32) hw H locs ls hP hD hS (lv_sub hl [2, 0] rfl)
      · replace hw := hw.2 c14; clear c14
        refine lv_iconst (v := 1) hx hb dX12_level_34 (by decide) ?_
        refine lv_goto (tgt := 39) hx hb dX12_level_35 (by decide) ?_
        exact j12 (1 : Int32) hw H locs ls hP hD hS (lv_sub hl [2, 0] rfl)
set_option maxHeartbeats 4000000 in
set_option maxRecDepth 100000 in
theorem c_X12_damages (l : Launch) (dC : Nat → ClassId) (dI : Nat → Nat → Nat) (cy : Nat → ClassId) (h0 h_row h_kept h_isKept h_aside h_eight h_rows h_scales h_dealt h_bytes h_heardRow h_made h_comes h_backs h_fresh : Nat) (sz : Nat) (v1 : Int32) (v2 : Int32) (v3 : Int32) (c_thrown : Int32) (c_nodeS : Int32) (c_nodeD : Int32) (c_pairE : Int32) (c_pairO : Int32) (c_bit : Int32) (c_lag : Int32) (c_lagSum : Int32) (c_row : Nat → Int32) (post : (Nat → Int32) → Prop) (hw : wp_X12_damages v1 v2 v3 c_row post) : Met l yX12_damages wsX12_damages ({ frames := 1, cells := 0, slots := 0, locals := 20 }) (PX dC dI cy [.ref h0, .int v1, .int v2, .int v3] sz (w_X12_damages h0 h_row h_kept h_isKept h_aside h_eight h_rows h_scales h_dealt h_bytes h_heardRow h_made h_comes h_backs h_fresh cy c_thrown c_nodeS c_nodeD c_pairE c_pairO c_bit c_lag c_lagSum c_row)) (va_Qv (fun (u : (Nat → Int32)) => post u) (QX dC dI cy (va_A (w_X12_damages h0 h_row h_kept h_isKept h_aside h_eight h_rows h_scales h_dealt h_bytes h_heardRow h_made h_comes h_backs h_fresh cy c_thrown c_nodeS c_nodeD c_pairE c_pairO c_bit c_lag c_lagSum c_row) sz) (fun (u : (Nat → Int32)) => w_X12_damages h0 h_row h_kept h_isKept h_aside h_eight h_rows h_scales h_dealt h_bytes h_heardRow h_made h_comes h_backs h_fresh cy c_thrown c_nodeS c_nodeD c_pairE c_pairO c_bit c_lag c_lagSum u)) (va_A (w_X12_damages h0 h_row h_kept h_isKept h_aside h_eight h_rows h_scales h_dealt h_bytes h_heardRow h_made h_comes h_backs h_fresh cy c_thrown c_nodeS c_nodeD c_pairE c_pairO c_bit c_lag c_lagSum c_row) sz)) 0 0 (va_A (w_X12_damages h0 h_row h_kept h_isKept h_aside h_eight h_rows h_scales h_dealt h_bytes h_heardRow h_made h_comes h_backs h_fresh cy c_thrown c_nodeS c_nodeD c_pairE c_pairO c_bit c_lag c_lagSum c_row) sz) := by
  refine Met.ofW (cc := cX12_damages) (maxL := 5) (ret := none) (by decide) rfl ?_
  intro p e s m args below meth c s₁ B hml hv
  obtain ⟨rfl, hsz, hP, hK, hD0, hG⟩ := hv
  have hx := B.exec
  have hb := B.bytes
  have hr := B.returns
  have hts := atoms_spec (ws := wsX12_damages) B.pre
  have hown : s.vm.findClass RX12 = some m.cls := findClass_of_methodNamed B.named
  have hlocks := B.notSynchronized
  subst hsz
  have hD := hD0.self (sz := s.heap.size)
  generalize hAe : va_A (w_X12_damages h0 h_row h_kept h_isKept h_aside h_eight h_rows h_scales h_dealt h_bytes h_heardRow h_made h_comes h_backs h_fresh cy c_thrown c_nodeS c_nodeD c_pairE c_pairO c_bit c_lag c_lagSum c_row) s.heap.size = A at hD ⊢
  have hA : ∀ q : Nat, s.heap.size ≤ q → A q := fun q h => by rw [← hAe]; exact Or.inr h
  have hS : va_S A s.heap s.heap [] := va_S.rf
  have hl := lv_entry ([.ref h0, .int v1, .int v2, .int v3]) (n := 5) (Nat.le_of_ble_eq_true rfl)
  rw [lg_entry_eq]
  generalize (lg_sl ([.ref h0, .int v1, .int v2, .int v3]) ++ List.replicate (5 - (lg_sl ([.ref h0, .int v1, .int v2, .int v3])).length) Slot.unset).toArray = ls at hl ⊢
  replace hl : lv_has ls 5 [(0, .ref h0), (1, .int v1), (2, .int v2), (3, .int v3)] := hl
  have inX12 : ∀ w ∈ u_ws RX12 TX12 22, w ∈ wsX12_damages := fun w h => List.mem_cons_of_mem _ (inlX12 w h)
  clear hAe hD0 B
  unfold wp_X12_damages at hw
  generalize hQe : MQ below _ _ s _ _ _ = Q0
  generalize ([.ref h0, .int v1, .int v2, .int v3] : List Value).toArray = av at *
  obtain ⟨H, hH⟩ : ∃ H, H = s.heap := ⟨_, rfl⟩
  obtain ⟨locs, hlo⟩ : ∃ L : List Loc, L = [] := ⟨_, rfl⟩
  replace hP : va_P (dC, dI) vwCl (w_X12_damages h0 h_row h_kept h_isKept h_aside h_eight h_rows h_scales h_dealt h_bytes h_heardRow h_made h_comes h_backs h_fresh cy c_thrown c_nodeS c_nodeD c_pairE c_pairO c_bit c_lag c_lagSum c_row) H := by rw [hH]; exact hP
  replace hS : va_S A s.heap H locs := by rw [hH, hlo]; exact hS
  suffices hgo : W p l e ({ frames := 1, cells := 0, slots := 0, locals := 20 }) s m av below meth c H locs 0 0 Q0 (F0 m 0 ls []) by rw [hH, hlo] at hgo; exact hgo
  clear hH hlo
  refine lv_aload_n hx hb dX12_damages_0 rfl (lv_at hl 0 rfl) ?_
  refine va_get (D := (dC, dI)) (ci := 12) (v := .ref h_row) (C := RX12) (T := TX12) (N := 22) hx hb hts inX12 hown hK hP 0 rfl rfl 1 (by decide) (hts _ (List.mem_cons_of_mem _ mw_169)) (fun _ h9 => h9) rfl dX12_damages_1 ?_
  refine lv_bipush (v := 16) hx hb dX12_damages_4 (by decide) ?_
  refine xiald (k := 16) hx hb hK hP 1 0 rfl rfl (vpL 16 13385 rfl) (by decide) dX12_damages_6 ?_
  refine lv_if_eq (tgt := 28) hx hb dX12_damages_7 (by decide) (fun c2 => ?_) (fun c2 => ?_)
  · replace hw := hw.1 c2; clear c2
    subst hQe
    exact W.vret hx hb hr (fun t ht hW => ⟨⟨c_row, rfl, hw, by rw [ht]; exact hP, va_K.moved hW.alike hK, hD⟩, hS.F ht⟩) hS.2.2 dX12_damages_28
  · replace hw := hw.2 c2; clear c2
    refine lv_aload_n hx hb dX12_damages_10 rfl (lv_at hl 0 rfl) ?_
    have hPc := pSub (ws' := (w_X12_draw h0 h_row h_kept h_isKept h_aside h_eight h_rows h_scales h_dealt h_bytes h_heardRow h_made h_comes h_backs h_fresh cy c_thrown c_nodeS c_nodeD c_pairE c_pairO c_bit c_lag c_lagSum c_row)) hP [0, 1] rfl
    have hDc := dSub (ws' := (w_X12_draw h0 h_row h_kept h_isKept h_aside h_eight h_rows h_scales h_dealt h_bytes h_heardRow h_made h_comes h_backs h_fresh cy c_thrown c_nodeS c_nodeD c_pairE c_pairO c_bit c_lag c_lagSum c_row)) hD [0, 1] (by decide) rfl
    have hFc := va_free (wc := (w_X12_draw h0 h_row h_kept h_isKept h_aside h_eight h_rows h_scales h_dealt h_bytes h_heardRow h_made h_comes h_backs h_fresh cy c_thrown c_nodeS c_nodeD c_pairE c_pairO c_bit c_lag c_lagSum c_row)) hD hS hA [0, 1] rfl
    refine va_calli (va_runV (As := []) (rest := []) ⟨hx, hb, hml, hown, hts⟩ (c_X12_draw l dC dI cy h0 h_row h_kept h_isKept h_aside h_eight h_rows h_scales h_dealt h_bytes h_heardRow h_made h_comes h_backs h_fresh H.size c_thrown c_nodeS c_nodeD c_pairE c_pairO c_bit c_lag c_lagSum c_row _ hw) (cwV 0 hts (goodV mw_704 mw_701 mw_702 mw_703 mw_5) rfl rfl rfl (by decide +kernel) ⟨Nat.le_of_ble_eq_true rfl, Nat.le_of_ble_eq_true rfl⟩) ⟨PX_blind, va_recv hK hPc (ci := 12) (q0 := 0) rfl rfl, PX_pre hPc hK hDc hG⟩ rfl rfl hl.1 rfl (lv_room (Nat.le_of_ble_eq_true rfl)) dX12_damages_11 ⟨Nat.zero_le _, Nat.zero_le _⟩) hS (fun q _ h => hFc q h) hFc ?_; clear hw hS; intro r4 f3 t H1 locs1 ht hvm hw hB hz1 hk1 hS
    obtain ⟨hP1, -, -⟩ := hB
    rw [ht] at hP1
    replace hP := jC0 hP hD [0, 1] [] rfl hk1 hP1 (w_X12_damages h0 h_row h_kept h_isKept h_aside h_eight h_rows h_scales h_dealt h_bytes h_heardRow h_made h_comes h_backs h_fresh cy c_thrown c_nodeS c_nodeD c_pairE c_pairO c_bit c_lag c_lagSum f3) rfl rfl rfl 2 rfl (by decide +kernel); clear hD; obtain ⟨hP, hD⟩ := hP
    replace hP : va_P (dC, dI) vwCl (w_X12_damages h0 h_row h_kept h_isKept h_aside h_eight h_rows h_scales h_dealt h_bytes h_heardRow h_made h_comes h_backs h_fresh cy c_thrown c_nodeS c_nodeD c_pairE c_pairO c_bit c_lag c_lagSum f3) H1 := hP
    replace hD : va_D A (w_X12_damages h0 h_row h_kept h_isKept h_aside h_eight h_rows h_scales h_dealt h_bytes h_heardRow h_made h_comes h_backs h_fresh cy c_thrown c_nodeS c_nodeD c_pairE c_pairO c_bit c_lag c_lagSum f3) := hD
    clear hPc hDc hFc hP1 hk1 hz1 hvm ht; clear t; clear H locs; obtain ⟨H, hH⟩ : ∃ H, H = H1 := ⟨_, rfl⟩; obtain ⟨locs, hlo⟩ : ∃ L, L = locs1 := ⟨_, rfl⟩; subst hH; subst hlo
    refine W.widen (k := 0) (n := 0) (Nat.le_refl 0) (Nat.le_refl 0) ?_
    refine lv_sipush (v := 1000) hx hb dX12_damages_14 (by decide) ?_
    refine lv_irem hx hb dX12_damages_17 (by decide) ?_
    refine lv_topi (fun x5 e_x5 => ?_)
    replace hw := hw x5 e_x5
    clear e_x5
    refine lv_aload_n hx hb dX12_damages_18 rfl (lv_at hl 0 rfl) ?_
    refine va_get (D := (dC, dI)) (ci := 12) (v := .ref h_row) (C := RX12) (T := TX12) (N := 22) hx hb hts inX12 hown hK hP 0 rfl rfl 1 (by decide) (hts _ (List.mem_cons_of_mem _ mw_169)) (fun _ h9 => h9) rfl dX12_damages_19 ?_
    refine lv_bipush (v := 16) hx hb dX12_damages_22 (by decide) ?_
    refine xiald (k := 16) hx hb hK hP 1 0 rfl rfl (vpL 16 13385 rfl) (by decide) dX12_damages_24 ?_
    refine lv_icmp_lt (tgt := 29) hx hb dX12_damages_25 (by decide) (fun c7 => ?_) (fun c7 => ?_)
    · replace hw := hw.1 c7; clear c7
      refine lv_aload_n hx hb dX12_damages_29 rfl (lv_at hl 0 rfl) ?_
      refine va_get (D := (dC, dI)) (ci := 12) (v := .ref h_row) (C := RX12) (T := TX12) (N := 22) hx hb hts inX12 hown hK hP 0 rfl rfl 1 (by decide) (hts _ (List.mem_cons_of_mem _ mw_169)) (fun _ h9 => h9) rfl dX12_damages_30 ?_
      refine lv_bipush (v := 45) hx hb dX12_damages_33 (by decide) ?_
      refine lv_dup2_11 hx hb dX12_damages_35 rfl rfl ?_
      refine xiald (k := 45) hx hb hK hP 1 0 rfl rfl (vpL 45 13385 rfl) (by decide) dX12_damages_36 ?_
      refine lv_iconst (v := 1) hx hb dX12_damages_37 (by decide) ?_
      refine lv_iadd hx hb dX12_damages_38 ?_
      refine xiast (k := 45) hx hb hK hP hD hS 1 0 rfl rfl (vpL 45 13385 rfl) (by decide) dX12_damages_39 ?_; clear hP hD hS; clear H locs; intro f10 e_f10 H locs hP hD hS
      replace hw := hw f10 e_f10
      clear e_f10
      replace hP : va_P (dC, dI) vwCl (w_X12_damages h0 h_row h_kept h_isKept h_aside h_eight h_rows h_scales h_dealt h_bytes h_heardRow h_made h_comes h_backs h_fresh cy c_thrown c_nodeS c_nodeD c_pairE c_pairO c_bit c_lag c_lagSum f10) H := hP
      replace hD : va_D A (w_X12_damages h0 h_row h_kept h_isKept h_aside h_eight h_rows h_scales h_dealt h_bytes h_heardRow h_made h_comes h_backs h_fresh cy c_thrown c_nodeS c_nodeD c_pairE c_pairO c_bit c_lag c_lagSum f10) := hD
      refine lv_aload_n hx hb dX12_damages_40 rfl (lv_at hl 0 rfl) ?_
      have hPc := pSub (ws' := (w_X12_draw h0 h_row h_kept h_isKept h_aside h_eight h_rows h_scales h_dealt h_bytes h_heardRow h_made h_comes h_backs h_fresh cy c_thrown c_nodeS c_nodeD c_pairE c_pairO c_bit c_lag c_lagSum f10)) hP [0, 1] rfl
      have hDc := dSub (ws' := (w_X12_draw h0 h_row h_kept h_isKept h_aside h_eight h_rows h_scales h_dealt h_bytes h_heardRow h_made h_comes h_backs h_fresh cy c_thrown c_nodeS c_nodeD c_pairE c_pairO c_bit c_lag c_lagSum f10)) hD [0, 1] (by decide) rfl
      have hFc := va_free (wc := (w_X12_draw h0 h_row h_kept h_isKept h_aside h_eight h_rows h_scales h_dealt h_bytes h_heardRow h_made h_comes h_backs h_fresh cy c_thrown c_nodeS c_nodeD c_pairE c_pairO c_bit c_lag c_lagSum f10)) hD hS hA [0, 1] rfl
      refine va_calli (va_runV (As := []) (rest := []) ⟨hx, hb, hml, hown, hts⟩ (c_X12_draw l dC dI cy h0 h_row h_kept h_isKept h_aside h_eight h_rows h_scales h_dealt h_bytes h_heardRow h_made h_comes h_backs h_fresh H.size c_thrown c_nodeS c_nodeD c_pairE c_pairO c_bit c_lag c_lagSum f10 _ hw) (cwV 0 hts (goodV mw_704 mw_701 mw_702 mw_703 mw_5) rfl rfl rfl (by decide +kernel) ⟨Nat.le_of_ble_eq_true rfl, Nat.le_of_ble_eq_true rfl⟩) ⟨PX_blind, va_recv hK hPc (ci := 12) (q0 := 0) rfl rfl, PX_pre hPc hK hDc hG⟩ rfl rfl hl.1 rfl (lv_room (Nat.le_of_ble_eq_true rfl)) dX12_damages_41 ⟨Nat.zero_le _, Nat.zero_le _⟩) hS (fun q _ h => hFc q h) hFc ?_; clear hw hS; intro r12 f11 t H1 locs1 ht hvm hw hB hz1 hk1 hS
      obtain ⟨hP1, -, -⟩ := hB
      rw [ht] at hP1
      replace hP := jC0 hP hD [0, 1] [] rfl hk1 hP1 (w_X12_damages h0 h_row h_kept h_isKept h_aside h_eight h_rows h_scales h_dealt h_bytes h_heardRow h_made h_comes h_backs h_fresh cy c_thrown c_nodeS c_nodeD c_pairE c_pairO c_bit c_lag c_lagSum f11) rfl rfl rfl 2 rfl (by decide +kernel); clear hD; obtain ⟨hP, hD⟩ := hP
      replace hP : va_P (dC, dI) vwCl (w_X12_damages h0 h_row h_kept h_isKept h_aside h_eight h_rows h_scales h_dealt h_bytes h_heardRow h_made h_comes h_backs h_fresh cy c_thrown c_nodeS c_nodeD c_pairE c_pairO c_bit c_lag c_lagSum f11) H1 := hP
      replace hD : va_D A (w_X12_damages h0 h_row h_kept h_isKept h_aside h_eight h_rows h_scales h_dealt h_bytes h_heardRow h_made h_comes h_backs h_fresh cy c_thrown c_nodeS c_nodeD c_pairE c_pairO c_bit c_lag c_lagSum f11) := hD
      clear hPc hDc hFc hP1 hk1 hz1 hvm ht; clear t; clear H locs; obtain ⟨H, hH⟩ : ∃ H, H = H1 := ⟨_, rfl⟩; obtain ⟨locs, hlo⟩ : ∃ L, L = locs1 := ⟨_, rfl⟩; subst hH; subst hlo
      refine W.widen (k := 0) (n := 0) (Nat.le_refl 0) (Nat.le_refl 0) ?_
      refine lv_bipush (v := 8) hx hb dX12_damages_44 (by decide) ?_
      refine lv_iload_n hx hb dX12_damages_46 rfl (lv_at hl 3 rfl) ?_
      refine lv_imul hx hb dX12_damages_47 ?_
      obtain ⟨h13, hw⟩ := hw
      refine lv_irem hx hb dX12_damages_48 h13 ?_
      refine lv_topi (fun x14 e_x14 => ?_)
      replace hw := hw x14 e_x14
      clear e_x14
      refine lv_istore (lv' := [(4, .int x14), (0, .ref h0), (1, .int v1), (2, .int v2), (3, .int v3)]) hx hb dX12_damages_49 hl (by decide) rfl ?_; clear hl; clear ls; intro ls hl
      refine lv_aload_n hx hb dX12_damages_51 rfl (lv_at hl 1 rfl) ?_
      refine va_get (D := (dC, dI)) (ci := 12) (v := .ref h_row) (C := RX12) (T := TX12) (N := 22) hx hb hts inX12 hown hK hP 0 rfl rfl 1 (by decide) (hts _ (List.mem_cons_of_mem _ mw_169)) (fun _ h9 => h9) rfl dX12_damages_52 ?_
      refine lv_iload_n hx hb dX12_damages_55 rfl (lv_at hl 2 rfl) ?_
      refine lv_bipush (v := 84) hx hb dX12_damages_56 (by decide) ?_
      refine lv_iadd hx hb dX12_damages_58 ?_
      refine lv_iload_n hx hb dX12_damages_59 rfl (lv_at hl 3 rfl) ?_
      refine lv_iadd hx hb dX12_damages_60 ?_
      refine lv_iload hx hb dX12_damages_61 (lv_at hl 0 rfl) ?_
      refine lv_bipush (v := 8) hx hb dX12_damages_63 (by decide) ?_
      refine lv_idiv hx hb dX12_damages_65 (by decide) ?_
      refine lv_topi (fun x15 e_x15 => ?_)
      replace hw := hw x15 e_x15
      clear e_x15
      refine lv_iadd hx hb dX12_damages_66 ?_
      refine lv_topi (fun x16 e_x16 => ?_)
      replace hw := hw x16 e_x16
      clear e_x16
      refine lv_dup2_11 hx hb dX12_damages_67 rfl rfl ?_
      obtain ⟨h17, hw⟩ := hw
      refine xiald (k := x16.toNatClampNeg) hx hb hK hP 1 0 rfl rfl h17 rfl dX12_damages_68 ?_
      refine lv_iconst (v := 1) hx hb dX12_damages_69 (by decide) ?_
      refine lv_bipush (v := 7) hx hb dX12_damages_70 (by decide) ?_
      refine lv_iload hx hb dX12_damages_72 (lv_at hl 0 rfl) ?_
      refine lv_bipush (v := 8) hx hb dX12_damages_74 (by decide) ?_
      refine lv_irem hx hb dX12_damages_76 (by decide) ?_
      refine lv_topi (fun x18 e_x18 => ?_)
      replace hw := hw x18 e_x18
      clear e_x18
      refine lv_isub hx hb dX12_damages_77 ?_
      refine lv_ishl hx hb dX12_damages_78 ?_
      refine lv_ixor hx hb dX12_damages_79 ?_
      obtain ⟨h19, hw⟩ := hw
      refine xiast (k := x16.toNatClampNeg) hx hb hK hP hD hS 1 0 rfl rfl h19 rfl dX12_damages_80 ?_; clear hP hD hS; clear H locs; intro f20 e_f20 H locs hP hD hS
      replace hw := hw f20 e_f20
      clear e_f20
      replace hP : va_P (dC, dI) vwCl (w_X12_damages h0 h_row h_kept h_isKept h_aside h_eight h_rows h_scales h_dealt h_bytes h_heardRow h_made h_comes h_backs h_fresh cy c_thrown c_nodeS c_nodeD c_pairE c_pairO c_bit c_lag c_lagSum f20) H := hP
      replace hD : va_D A (w_X12_damages h0 h_row h_kept h_isKept h_aside h_eight h_rows h_scales h_dealt h_bytes h_heardRow h_made h_comes h_backs h_fresh cy c_thrown c_nodeS c_nodeD c_pairE c_pairO c_bit c_lag c_lagSum f20) := hD
      subst hQe
      exact W.vret hx hb hr (fun t ht hW => ⟨⟨f20, rfl, hw, by rw [ht]; exact hP, va_K.moved hW.alike hK, hD⟩, hS.F ht⟩) hS.2.2 dX12_damages_81
    · replace hw := hw.2 c7; clear c7
      subst hQe
      exact W.vret hx hb hr (fun t ht hW => ⟨⟨f3, rfl, hw, by rw [ht]; exact hP, va_K.moved hW.alike hK, hD⟩, hS.F ht⟩) hS.2.2 dX12_damages_28
set_option maxHeartbeats 4000000 in
set_option maxRecDepth 100000 in
theorem c_X12_stores (l : Launch) (dC : Nat → ClassId) (dI : Nat → Nat → Nat) (cy : Nat → ClassId) (h0 h_row h_kept h_isKept h_aside h_eight h_rows h_scales h_dealt h_bytes h_heardRow h_made h_comes h_backs h_fresh : Nat) (sz : Nat) (v1 : Int32) (v2 : Int32) (c_thrown : Int32) (c_nodeS : Int32) (c_nodeD : Int32) (c_pairE : Int32) (c_pairO : Int32) (c_bit : Int32) (c_lag : Int32) (c_lagSum : Int32) (c_row : Nat → Int32) (c_bytes : Nat → Int32) (post : (Nat → Int32) → Prop) (hw : wp_X12_stores v1 v2 c_row c_bytes post) : Met l yX12_stores wsX12_stores ({ frames := 0, cells := 0, slots := 0, locals := 0 }) (PX dC dI cy [.ref h0, .int v1, .int v2] sz (w_X12_stores h0 h_row h_kept h_isKept h_aside h_eight h_rows h_scales h_dealt h_bytes h_heardRow h_made h_comes h_backs h_fresh cy c_thrown c_nodeS c_nodeD c_pairE c_pairO c_bit c_lag c_lagSum c_row c_bytes)) (va_Qv (fun (u : (Nat → Int32)) => post u) (QX dC dI cy (va_A (w_X12_stores h0 h_row h_kept h_isKept h_aside h_eight h_rows h_scales h_dealt h_bytes h_heardRow h_made h_comes h_backs h_fresh cy c_thrown c_nodeS c_nodeD c_pairE c_pairO c_bit c_lag c_lagSum c_row c_bytes) sz) (fun (u : (Nat → Int32)) => w_X12_stores h0 h_row h_kept h_isKept h_aside h_eight h_rows h_scales h_dealt h_bytes h_heardRow h_made h_comes h_backs h_fresh cy c_thrown c_nodeS c_nodeD c_pairE c_pairO c_bit c_lag c_lagSum u c_bytes)) (va_A (w_X12_stores h0 h_row h_kept h_isKept h_aside h_eight h_rows h_scales h_dealt h_bytes h_heardRow h_made h_comes h_backs h_fresh cy c_thrown c_nodeS c_nodeD c_pairE c_pairO c_bit c_lag c_lagSum c_row c_bytes) sz)) 0 0 (va_A (w_X12_stores h0 h_row h_kept h_isKept h_aside h_eight h_rows h_scales h_dealt h_bytes h_heardRow h_made h_comes h_backs h_fresh cy c_thrown c_nodeS c_nodeD c_pairE c_pairO c_bit c_lag c_lagSum c_row c_bytes) sz) := by
  refine Met.ofW (cc := cX12_stores) (maxL := 6) (ret := none) (by decide) rfl ?_
  intro p e s m args below meth c s₁ B hml hv
  obtain ⟨rfl, hsz, hP, hK, hD0, hG⟩ := hv
  have hx := B.exec
  have hb := B.bytes
  have hr := B.returns
  have hts := atoms_spec (ws := wsX12_stores) B.pre
  have hown : s.vm.findClass RX12 = some m.cls := findClass_of_methodNamed B.named
  have hlocks := B.notSynchronized
  subst hsz
  have hD := hD0.self (sz := s.heap.size)
  generalize hAe : va_A (w_X12_stores h0 h_row h_kept h_isKept h_aside h_eight h_rows h_scales h_dealt h_bytes h_heardRow h_made h_comes h_backs h_fresh cy c_thrown c_nodeS c_nodeD c_pairE c_pairO c_bit c_lag c_lagSum c_row c_bytes) s.heap.size = A at hD ⊢
  have hA : ∀ q : Nat, s.heap.size ≤ q → A q := fun q h => by rw [← hAe]; exact Or.inr h
  have hS : va_S A s.heap s.heap [] := va_S.rf
  have hl := lv_entry ([.ref h0, .int v1, .int v2]) (n := 6) (Nat.le_of_ble_eq_true rfl)
  rw [lg_entry_eq]
  generalize (lg_sl ([.ref h0, .int v1, .int v2]) ++ List.replicate (6 - (lg_sl ([.ref h0, .int v1, .int v2])).length) Slot.unset).toArray = ls at hl ⊢
  replace hl : lv_has ls 6 [(0, .ref h0), (1, .int v1), (2, .int v2)] := hl
  have inX12 : ∀ w ∈ u_ws RX12 TX12 22, w ∈ wsX12_stores := fun w h => List.mem_cons_of_mem _ (inlX12 w h)
  clear hAe hD0 B
  unfold wp_X12_stores at hw
  generalize hQe : MQ below _ _ s _ _ _ = Q0
  generalize ([.ref h0, .int v1, .int v2] : List Value).toArray = av at *
  obtain ⟨H, hH⟩ : ∃ H, H = s.heap := ⟨_, rfl⟩
  obtain ⟨locs, hlo⟩ : ∃ L : List Loc, L = [] := ⟨_, rfl⟩
  replace hP : va_P (dC, dI) vwCl (w_X12_stores h0 h_row h_kept h_isKept h_aside h_eight h_rows h_scales h_dealt h_bytes h_heardRow h_made h_comes h_backs h_fresh cy c_thrown c_nodeS c_nodeD c_pairE c_pairO c_bit c_lag c_lagSum c_row c_bytes) H := by rw [hH]; exact hP
  replace hS : va_S A s.heap H locs := by rw [hH, hlo]; exact hS
  suffices hgo : W p l e ({ frames := 0, cells := 0, slots := 0, locals := 0 }) s m av below meth c H locs 0 0 Q0 (F0 m 0 ls []) by rw [hH, hlo] at hgo; exact hgo
  clear hH hlo
  refine lv_iconst (v := 0) hx hb dX12_stores_0 (by decide) ?_
  refine lv_istore_n (lv' := [(3, .int (0 : Int32)), (0, .ref h0), (1, .int v1), (2, .int v2)]) hx hb dX12_stores_1 rfl hl (by decide) rfl ?_; clear hl; clear ls; intro ls hl
  obtain ⟨x1, e_x1⟩ : ∃ y : Int32, y = (0 : Int32) := ⟨_, rfl⟩
  replace hw := hw x1 e_x1
  replace hl : lv_has ls 6 [(3, .int x1), (0, .ref h0), (1, .int v1), (2, .int v2)] := by rw [e_x1]; exact hl
  clear e_x1
  replace hl := lv_sub (l' := [(3, .int x1), (0, .ref h0), (1, .int v1), (2, .int v2)]) hl [0, 1, 2, 3] rfl
  revert hl; revert hS; revert hD; revert hP; revert ls; revert locs; revert H
  revert hw; revert x1
  refine Lz1_gr ?_; intro g2 ih3 x4 hw
  intro H locs ls hP hD hS hl
  refine lv_aload_n hx hb dX12_stores_2 rfl (lv_at hl 1 rfl) ?_
  refine va_get (D := (dC, dI)) (ci := 12) (v := .ref h_row) (C := RX12) (T := TX12) (N := 22) hx hb hts inX12 hown hK hP 0 rfl rfl 1 (by decide) (hts _ (List.mem_cons_of_mem _ mw_169)) (fun _ h9 => h9) rfl dX12_stores_3 ?_
  refine lv_sipush (v := 2095) hx hb dX12_stores_6 (by decide) ?_
  refine lv_bipush (v := 83) hx hb dX12_stores_9 (by decide) ?_
  refine lv_iload_n hx hb dX12_stores_11 rfl (lv_at hl 0 rfl) ?_
  refine lv_imul hx hb dX12_stores_12 ?_
  refine lv_iadd hx hb dX12_stores_13 ?_
  obtain ⟨h5, hw⟩ := hw
  refine xiald (k := ((2095 : Int32) + ((83 : Int32) * x4)).toNatClampNeg) hx hb hK hP 1 0 rfl rfl h5 rfl dX12_stores_14 ?_
  refine lv_aload_n hx hb dX12_stores_15 rfl (lv_at hl 1 rfl) ?_
  refine va_get (D := (dC, dI)) (ci := 12) (v := .ref h_row) (C := RX12) (T := TX12) (N := 22) hx hb hts inX12 hown hK hP 0 rfl rfl 1 (by decide) (hts _ (List.mem_cons_of_mem _ mw_169)) (fun _ h9 => h9) rfl dX12_stores_16 ?_
  refine lv_bipush (v := 30) hx hb dX12_stores_19 (by decide) ?_
  refine xiald (k := 30) hx hb hK hP 1 0 rfl rfl (vpL 30 13385 rfl) (by decide) dX12_stores_21 ?_
  refine lv_icmp_le (tgt := 31) hx hb dX12_stores_22 (by decide) (fun c7 => ?_) (fun c7 => ?_)
  · replace hw := hw.1 c7; clear c7
    clear ih3
    refine lv_sipush (v := 2095) hx hb dX12_stores_31 (by decide) ?_
    refine lv_bipush (v := 83) hx hb dX12_stores_34 (by decide) ?_
    refine lv_iload_n hx hb dX12_stores_36 rfl (lv_at hl 0 rfl) ?_
    refine lv_imul hx hb dX12_stores_37 ?_
    refine lv_iadd hx hb dX12_stores_38 ?_
    refine lv_topi (fun x8 e_x8 => ?_)
    replace hw := hw x8 e_x8
    clear e_x8
    refine lv_istore (lv' := [(4, .int x8), (3, .int x4), (0, .ref h0), (1, .int v1), (2, .int v2)]) hx hb dX12_stores_39 hl (by decide) rfl ?_; clear hl; clear ls; intro ls hl
    refine lv_aload_n hx hb dX12_stores_41 rfl (lv_at hl 2 rfl) ?_
    refine va_get (D := (dC, dI)) (ci := 12) (v := .ref h_row) (C := RX12) (T := TX12) (N := 22) hx hb hts inX12 hown hK hP 0 rfl rfl 1 (by decide) (hts _ (List.mem_cons_of_mem _ mw_169)) (fun _ h9 => h9) rfl dX12_stores_42 ?_
    refine lv_iload hx hb dX12_stores_45 (lv_at hl 0 rfl) ?_
    refine lv_iload_n hx hb dX12_stores_47 rfl (lv_at hl 3 rfl) ?_
    refine lv_iconst (v := 1) hx hb dX12_stores_48 (by decide) ?_
    refine lv_iadd hx hb dX12_stores_49 ?_
    obtain ⟨h9, hw⟩ := hw
    refine xiast (k := x8.toNatClampNeg) hx hb hK hP hD hS 1 0 rfl rfl h9 rfl dX12_stores_50 ?_; clear hP hD hS; clear H locs; intro f10 e_f10 H locs hP hD hS
    replace hw := hw f10 e_f10
    clear e_f10
    replace hP : va_P (dC, dI) vwCl (w_X12_stores h0 h_row h_kept h_isKept h_aside h_eight h_rows h_scales h_dealt h_bytes h_heardRow h_made h_comes h_backs h_fresh cy c_thrown c_nodeS c_nodeD c_pairE c_pairO c_bit c_lag c_lagSum f10 c_bytes) H := hP
    replace hD : va_D A (w_X12_stores h0 h_row h_kept h_isKept h_aside h_eight h_rows h_scales h_dealt h_bytes h_heardRow h_made h_comes h_backs h_fresh cy c_thrown c_nodeS c_nodeD c_pairE c_pairO c_bit c_lag c_lagSum f10 c_bytes) := hD
    refine lv_aload_n hx hb dX12_stores_51 rfl (lv_at hl 2 rfl) ?_
    refine va_get (D := (dC, dI)) (ci := 12) (v := .ref h_row) (C := RX12) (T := TX12) (N := 22) hx hb hts inX12 hown hK hP 0 rfl rfl 1 (by decide) (hts _ (List.mem_cons_of_mem _ mw_169)) (fun _ h9 => h9) rfl dX12_stores_52 ?_
    refine lv_iload hx hb dX12_stores_55 (lv_at hl 0 rfl) ?_
    refine lv_iconst (v := 1) hx hb dX12_stores_57 (by decide) ?_
    refine lv_iadd hx hb dX12_stores_58 ?_
    refine lv_iload_n hx hb dX12_stores_59 rfl (lv_at hl 4 rfl) ?_
    obtain ⟨h11, hw⟩ := hw
    refine xiast (k := (x8 + (1 : Int32)).toNatClampNeg) hx hb hK hP hD hS 1 0 rfl rfl h11 rfl dX12_stores_60 ?_; clear hP hD hS; clear H locs; intro f12 e_f12 H locs hP hD hS
    replace hw := hw f12 e_f12
    clear e_f12
    replace hP : va_P (dC, dI) vwCl (w_X12_stores h0 h_row h_kept h_isKept h_aside h_eight h_rows h_scales h_dealt h_bytes h_heardRow h_made h_comes h_backs h_fresh cy c_thrown c_nodeS c_nodeD c_pairE c_pairO c_bit c_lag c_lagSum f12 c_bytes) H := hP
    replace hD : va_D A (w_X12_stores h0 h_row h_kept h_isKept h_aside h_eight h_rows h_scales h_dealt h_bytes h_heardRow h_made h_comes h_backs h_fresh cy c_thrown c_nodeS c_nodeD c_pairE c_pairO c_bit c_lag c_lagSum f12 c_bytes) := hD
    refine lv_iconst (v := 0) hx hb dX12_stores_61 (by decide) ?_
    refine lv_istore (lv' := [(5, .int (0 : Int32)), (4, .int x8), (3, .int x4), (0, .ref h0), (1, .int v1), (2, .int v2)]) hx hb dX12_stores_62 hl (by decide) rfl ?_; clear hl; clear ls; intro ls hl
    obtain ⟨x13, e_x13⟩ : ∃ y : Int32, y = (0 : Int32) := ⟨_, rfl⟩
    replace hw := hw x13 e_x13
    replace hl : lv_has ls 6 [(5, .int x13), (4, .int x8), (3, .int x4), (0, .ref h0), (1, .int v1), (2, .int v2)] := by rw [e_x13]; exact hl
    clear e_x13
    replace hl := lv_sub (l' := [(5, .int x13), (4, .int x8), (0, .ref h0)]) hl [0, 1, 3] rfl
    revert hl; revert hS; revert hD; revert hP; revert ls; revert locs; revert H
    revert hw; revert f12; revert x13
    refine Lz2_gr ?_; intro g14 ih15 x16 f17 hw
    intro H locs ls hP hD hS hl
    refine lv_iload hx hb dX12_stores_64 (lv_at hl 0 rfl) ?_
    refine lv_bipush (v := 80) hx hb dX12_stores_66 (by decide) ?_
    refine lv_icmp_ge (tgt := 96) hx hb dX12_stores_68 (by decide) (fun c18 => ?_) (fun c18 => ?_)
    · replace hw := hw.1 c18; clear c18
      clear ih15
      subst hQe
      exact W.vret hx hb hr (fun t ht hW => ⟨⟨f17, rfl, hw, by rw [ht]; exact hP, va_K.moved hW.alike hK, hD⟩, hS.F ht⟩) hS.2.2 dX12_stores_96
    · replace hw := hw.2 c18; clear c18
      refine lv_aload_n hx hb dX12_stores_71 rfl (lv_at hl 2 rfl) ?_
      refine va_get (D := (dC, dI)) (ci := 12) (v := .ref h_row) (C := RX12) (T := TX12) (N := 22) hx hb hts inX12 hown hK hP 0 rfl rfl 1 (by decide) (hts _ (List.mem_cons_of_mem _ mw_169)) (fun _ h9 => h9) rfl dX12_stores_72 ?_
      refine lv_iload hx hb dX12_stores_75 (lv_at hl 1 rfl) ?_
      refine lv_iconst (v := 2) hx hb dX12_stores_77 (by decide) ?_
      refine lv_iadd hx hb dX12_stores_78 ?_
      refine lv_iload hx hb dX12_stores_79 (lv_at hl 0 rfl) ?_
      refine lv_iadd hx hb dX12_stores_81 ?_
      refine lv_aload_n hx hb dX12_stores_82 rfl (lv_at hl 2 rfl) ?_
      refine va_get (D := (dC, dI)) (ci := 12) (v := .ref h_bytes) (C := RX12) (T := TX12) (N := 22) hx hb hts inX12 hown hK hP 0 rfl rfl 13 (by decide) (hts _ (List.mem_cons_of_mem _ mw_178)) (fun _ h9 => h9) rfl dX12_stores_83 ?_
      refine lv_iload hx hb dX12_stores_86 (lv_at hl 0 rfl) ?_
      obtain ⟨h19, hw⟩ := hw
      refine xiald (k := x16.toNatClampNeg) hx hb hK hP 2 0 rfl rfl h19 rfl dX12_stores_88 ?_
      obtain ⟨h20, hw⟩ := hw
      refine xiast (k := ((x8 + (2 : Int32)) + x16).toNatClampNeg) hx hb hK hP hD hS 1 0 rfl rfl h20 rfl dX12_stores_89 ?_; clear hP hD hS; clear H locs; intro f21 e_f21 H locs hP hD hS
      replace hw := hw f21 e_f21
      clear e_f21
      replace hP : va_P (dC, dI) vwCl (w_X12_stores h0 h_row h_kept h_isKept h_aside h_eight h_rows h_scales h_dealt h_bytes h_heardRow h_made h_comes h_backs h_fresh cy c_thrown c_nodeS c_nodeD c_pairE c_pairO c_bit c_lag c_lagSum f21 c_bytes) H := hP
      replace hD : va_D A (w_X12_stores h0 h_row h_kept h_isKept h_aside h_eight h_rows h_scales h_dealt h_bytes h_heardRow h_made h_comes h_backs h_fresh cy c_thrown c_nodeS c_nodeD c_pairE c_pairO c_bit c_lag c_lagSum f21 c_bytes) := hD
      refine lv_iinc (v := x16 + 1) (lv' := [(5, .int (x16 + 1)), (4, .int x8), (0, .ref h0)]) hx hb dX12_stores_90 hl (k := 0) rfl rfl (by decide) rfl ?_; clear hl; clear ls; intro ls hl
      refine lv_goto (tgt := 64) hx hb dX12_stores_93 (by decide) ?_
      exact ih15 (x16 + 1) f21 hw H locs ls hP hD hS (lv_sub hl [0, 1, 2] rfl)
  · replace hw := hw.2 c7; clear c7
    refine lv_iinc (v := x4 + 1) (lv' := [(3, .int (x4 + 1)), (0, .ref h0), (1, .int v1), (2, .int v2)]) hx hb dX12_stores_25 hl (k := 0) rfl rfl (by decide) rfl ?_; clear hl; clear ls; intro ls hl
    refine lv_goto (tgt := 2) hx hb dX12_stores_28 (by decide) ?_
    exact ih3 (x4 + 1) hw H locs ls hP hD hS (lv_sub hl [0, 1, 2, 3] rfl)
set_option maxHeartbeats 4000000 in
set_option maxRecDepth 100000 in
theorem c_X12_looks (l : Launch) (dC : Nat → ClassId) (dI : Nat → Nat → Nat) (cy : Nat → ClassId) (h0 h_row h_kept h_isKept h_aside h_eight h_rows h_scales h_dealt h_bytes h_heardRow h_made h_comes h_backs h_fresh : Nat) (sz : Nat) (v1 : Int32) (v2 : Int32) (c_thrown : Int32) (c_nodeS : Int32) (c_nodeD : Int32) (c_pairE : Int32) (c_pairO : Int32) (c_bit : Int32) (c_lag : Int32) (c_lagSum : Int32) (c_row : Nat → Int32) (c_bytes : Nat → Int32) (post : (Nat → Int32) → (Nat → Int32) → Prop) (hw : wp_X12_looks v1 v2 c_row c_bytes post) : Met l yX12_looks wsX12_looks ({ frames := 2, cells := 0, slots := 0, locals := 41 }) (PX dC dI cy [.ref h0, .int v1, .int v2] sz (w_X12_looks h0 h_row h_kept h_isKept h_aside h_eight h_rows h_scales h_dealt h_bytes h_heardRow h_made h_comes h_backs h_fresh cy c_thrown c_nodeS c_nodeD c_pairE c_pairO c_bit c_lag c_lagSum c_row c_bytes)) (va_Qv (fun (u : (Nat → Int32) × (Nat → Int32)) => post u.1 u.2) (QX dC dI cy (va_A (w_X12_looks h0 h_row h_kept h_isKept h_aside h_eight h_rows h_scales h_dealt h_bytes h_heardRow h_made h_comes h_backs h_fresh cy c_thrown c_nodeS c_nodeD c_pairE c_pairO c_bit c_lag c_lagSum c_row c_bytes) sz) (fun (u : (Nat → Int32) × (Nat → Int32)) => w_X12_looks h0 h_row h_kept h_isKept h_aside h_eight h_rows h_scales h_dealt h_bytes h_heardRow h_made h_comes h_backs h_fresh cy c_thrown c_nodeS c_nodeD c_pairE c_pairO c_bit c_lag c_lagSum u.1 u.2)) (va_A (w_X12_looks h0 h_row h_kept h_isKept h_aside h_eight h_rows h_scales h_dealt h_bytes h_heardRow h_made h_comes h_backs h_fresh cy c_thrown c_nodeS c_nodeD c_pairE c_pairO c_bit c_lag c_lagSum c_row c_bytes) sz)) 0 0 (va_A (w_X12_looks h0 h_row h_kept h_isKept h_aside h_eight h_rows h_scales h_dealt h_bytes h_heardRow h_made h_comes h_backs h_fresh cy c_thrown c_nodeS c_nodeD c_pairE c_pairO c_bit c_lag c_lagSum c_row c_bytes) sz) := by
  refine Met.ofW (cc := cX12_looks) (maxL := 5) (ret := none) (by decide) rfl ?_
  intro p e s m args below meth c s₁ B hml hv
  obtain ⟨rfl, hsz, hP, hK, hD0, hG⟩ := hv
  have hx := B.exec
  have hb := B.bytes
  have hr := B.returns
  have hts := atoms_spec (ws := wsX12_looks) B.pre
  have hown : s.vm.findClass RX12 = some m.cls := findClass_of_methodNamed B.named
  have hlocks := B.notSynchronized
  subst hsz
  have hD := hD0.self (sz := s.heap.size)
  generalize hAe : va_A (w_X12_looks h0 h_row h_kept h_isKept h_aside h_eight h_rows h_scales h_dealt h_bytes h_heardRow h_made h_comes h_backs h_fresh cy c_thrown c_nodeS c_nodeD c_pairE c_pairO c_bit c_lag c_lagSum c_row c_bytes) s.heap.size = A at hD ⊢
  have hA : ∀ q : Nat, s.heap.size ≤ q → A q := fun q h => by rw [← hAe]; exact Or.inr h
  have hS : va_S A s.heap s.heap [] := va_S.rf
  have hl := lv_entry ([.ref h0, .int v1, .int v2]) (n := 5) (Nat.le_of_ble_eq_true rfl)
  rw [lg_entry_eq]
  generalize (lg_sl ([.ref h0, .int v1, .int v2]) ++ List.replicate (5 - (lg_sl ([.ref h0, .int v1, .int v2])).length) Slot.unset).toArray = ls at hl ⊢
  replace hl : lv_has ls 5 [(0, .ref h0), (1, .int v1), (2, .int v2)] := hl
  have inX12 : ∀ w ∈ u_ws RX12 TX12 22, w ∈ wsX12_looks := fun w h => List.mem_cons_of_mem _ (inlX12 w h)
  clear hAe hD0 B
  unfold wp_X12_looks at hw
  generalize hQe : MQ below _ _ s _ _ _ = Q0
  generalize ([.ref h0, .int v1, .int v2] : List Value).toArray = av at *
  obtain ⟨H, hH⟩ : ∃ H, H = s.heap := ⟨_, rfl⟩
  obtain ⟨locs, hlo⟩ : ∃ L : List Loc, L = [] := ⟨_, rfl⟩
  replace hP : va_P (dC, dI) vwCl (w_X12_looks h0 h_row h_kept h_isKept h_aside h_eight h_rows h_scales h_dealt h_bytes h_heardRow h_made h_comes h_backs h_fresh cy c_thrown c_nodeS c_nodeD c_pairE c_pairO c_bit c_lag c_lagSum c_row c_bytes) H := by rw [hH]; exact hP
  replace hS : va_S A s.heap H locs := by rw [hH, hlo]; exact hS
  suffices hgo : W p l e ({ frames := 2, cells := 0, slots := 0, locals := 41 }) s m av below meth c H locs 0 0 Q0 (F0 m 0 ls []) by rw [hH, hlo] at hgo; exact hgo
  clear hH hlo
  refine lv_aload_n hx hb dX12_looks_0 rfl (lv_at hl 0 rfl) ?_
  refine va_get (D := (dC, dI)) (ci := 12) (v := .ref h_row) (C := RX12) (T := TX12) (N := 22) hx hb hts inX12 hown hK hP 0 rfl rfl 1 (by decide) (hts _ (List.mem_cons_of_mem _ mw_169)) (fun _ h9 => h9) rfl dX12_looks_1 ?_
  refine lv_iload_n hx hb dX12_looks_4 rfl (lv_at hl 1 rfl) ?_
  refine lv_iconst (v := 1) hx hb dX12_looks_5 (by decide) ?_
  refine lv_iadd hx hb dX12_looks_6 ?_
  obtain ⟨h1, hw⟩ := hw
  refine xiald (k := (v1 + (1 : Int32)).toNatClampNeg) hx hb hK hP 1 0 rfl rfl h1 rfl dX12_looks_7 ?_
  refine lv_topi (fun x2 e_x2 => ?_)
  replace hw := hw x2 e_x2
  clear e_x2
  refine lv_istore_n (lv' := [(3, .int x2), (0, .ref h0), (1, .int v1), (2, .int v2)]) hx hb dX12_looks_8 rfl hl (by decide) rfl ?_; clear hl; clear ls; intro ls hl
  refine lv_iconst (v := 0) hx hb dX12_looks_9 (by decide) ?_
  refine lv_istore (lv' := [(4, .int (0 : Int32)), (3, .int x2), (0, .ref h0), (1, .int v1), (2, .int v2)]) hx hb dX12_looks_10 hl (by decide) rfl ?_; clear hl; clear ls; intro ls hl
  obtain ⟨x3, e_x3⟩ : ∃ y : Int32, y = (0 : Int32) := ⟨_, rfl⟩
  replace hw := hw x3 e_x3
  replace hl : lv_has ls 5 [(4, .int x3), (3, .int x2), (0, .ref h0), (1, .int v1), (2, .int v2)] := by rw [e_x3]; exact hl
  clear e_x3
  replace hl := lv_sub (l' := [(4, .int x3), (3, .int x2), (0, .ref h0), (1, .int v1), (2, .int v2)]) hl [0, 1, 2, 3, 4] rfl
  revert hl; revert hS; revert hD; revert hP; revert ls; revert locs; revert H
  revert hw; revert c_bytes; revert x3
  refine Lz2_gr ?_; intro g4 ih5 x6 f7 hw
  intro H locs ls hP hD hS hl
  refine lv_iload hx hb dX12_looks_12 (lv_at hl 0 rfl) ?_
  refine lv_bipush (v := 80) hx hb dX12_looks_14 (by decide) ?_
  refine lv_icmp_ge (tgt := 44) hx hb dX12_looks_16 (by decide) (fun c8 => ?_) (fun c8 => ?_)
  · replace hw := hw.1 c8; clear c8
    clear ih5
    refine lv_aload_n hx hb dX12_looks_44 rfl (lv_at hl 2 rfl) ?_
    refine va_get (D := (dC, dI)) (ci := 12) (v := .ref h_bytes) (C := RX12) (T := TX12) (N := 22) hx hb hts inX12 hown hK hP 0 rfl rfl 13 (by decide) (hts _ (List.mem_cons_of_mem _ mw_178)) (fun _ h9 => h9) rfl dX12_looks_45 ?_
    refine lv_iconst (v := 0) hx hb dX12_looks_48 (by decide) ?_
    refine xiald (k := 0) hx hb hK hP 2 0 rfl rfl (vpL 0 160 rfl) (by decide) dX12_looks_49 ?_
    refine lv_sipush (v := 156) hx hb dX12_looks_50 (by decide) ?_
    refine jn0 (Gg := ∀ (H : Heap) (locs : List Loc) (ls : Array Slot), va_P (dC, dI) vwCl (w_X12_looks h0 h_row h_kept h_isKept h_aside h_eight h_rows h_scales h_dealt h_bytes h_heardRow h_made h_comes h_backs h_fresh cy c_thrown c_nodeS c_nodeD c_pairE c_pairO c_bit c_lag c_lagSum c_row f7) H → va_D A (w_X12_looks h0 h_row h_kept h_isKept h_aside h_eight h_rows h_scales h_dealt h_bytes h_heardRow h_made h_comes h_backs h_fresh cy c_thrown c_nodeS c_nodeD c_pairE c_pairO c_bit c_lag c_lagSum c_row f7) → va_S A s.heap H locs → lv_has ls 5 [(0, .ref h0), (1, .int v1)] → W p l e { frames := 2, cells := 0, slots := 0, locals := 41 } s m av below meth c H locs 0 0 Q0 (F0 m 70 ls [])) hw ?_ ?_ <;> clear hw
    · clear hP hD hS hl; clear H locs ls; intro  hw H locs ls hP hD hS hl
      refine lv_aload_n hx hb dX12_looks_70 rfl (lv_at hl 0 rfl) ?_
      refine va_get (D := (dC, dI)) (ci := 12) (v := .ref h_row) (C := RX12) (T := TX12) (N := 22) hx hb hts inX12 hown hK hP 0 rfl rfl 1 (by decide) (hts _ (List.mem_cons_of_mem _ mw_169)) (fun _ h9 => h9) rfl dX12_looks_71 ?_
      refine lv_bipush (v := 46) hx hb dX12_looks_74 (by decide) ?_
      refine lv_dup2_11 hx hb dX12_looks_76 rfl rfl ?_
      refine xiald (k := 46) hx hb hK hP 1 0 rfl rfl (vpL 46 13385 rfl) (by decide) dX12_looks_77 ?_
      refine lv_iconst (v := 1) hx hb dX12_looks_78 (by decide) ?_
      refine lv_iadd hx hb dX12_looks_79 ?_
      refine xiast (k := 46) hx hb hK hP hD hS 1 0 rfl rfl (vpL 46 13385 rfl) (by decide) dX12_looks_80 ?_; clear hP hD hS; clear H locs; intro f14 e_f14 H locs hP hD hS
      replace hw := hw f14 e_f14
      clear e_f14
      replace hP : va_P (dC, dI) vwCl (w_X12_looks h0 h_row h_kept h_isKept h_aside h_eight h_rows h_scales h_dealt h_bytes h_heardRow h_made h_comes h_backs h_fresh cy c_thrown c_nodeS c_nodeD c_pairE c_pairO c_bit c_lag c_lagSum f14 f7) H := hP
      replace hD : va_D A (w_X12_looks h0 h_row h_kept h_isKept h_aside h_eight h_rows h_scales h_dealt h_bytes h_heardRow h_made h_comes h_backs h_fresh cy c_thrown c_nodeS c_nodeD c_pairE c_pairO c_bit c_lag c_lagSum f14 f7) := hD
      refine lv_aload_n hx hb dX12_looks_81 rfl (lv_at hl 0 rfl) ?_
      refine va_get (D := (dC, dI)) (ci := 12) (v := .ref h_row) (C := RX12) (T := TX12) (N := 22) hx hb hts inX12 hown hK hP 0 rfl rfl 1 (by decide) (hts _ (List.mem_cons_of_mem _ mw_169)) (fun _ h9 => h9) rfl dX12_looks_82 ?_
      refine lv_iload_n hx hb dX12_looks_85 rfl (lv_at hl 1 rfl) ?_
      refine lv_iconst (v := 3) hx hb dX12_looks_86 (by decide) ?_
      refine lv_iadd hx hb dX12_looks_87 ?_
      refine lv_iconst (v := 0) hx hb dX12_looks_88 (by decide) ?_
      obtain ⟨h15, hw⟩ := hw
      refine xiast (k := (v1 + (3 : Int32)).toNatClampNeg) hx hb hK hP hD hS 1 0 rfl rfl h15 rfl dX12_looks_89 ?_; clear hP hD hS; clear H locs; intro f16 e_f16 H locs hP hD hS
      replace hw := hw f16 e_f16
      clear e_f16
      replace hP : va_P (dC, dI) vwCl (w_X12_looks h0 h_row h_kept h_isKept h_aside h_eight h_rows h_scales h_dealt h_bytes h_heardRow h_made h_comes h_backs h_fresh cy c_thrown c_nodeS c_nodeD c_pairE c_pairO c_bit c_lag c_lagSum f16 f7) H := hP
      replace hD : va_D A (w_X12_looks h0 h_row h_kept h_isKept h_aside h_eight h_rows h_scales h_dealt h_bytes h_heardRow h_made h_comes h_backs h_fresh cy c_thrown c_nodeS c_nodeD c_pairE c_pairO c_bit c_lag c_lagSum f16 f7) := hD
      refine lv_iconst (v := 0) hx hb dX12_looks_90 (by decide) ?_
      refine lv_istore (lv' := [(4, .int (0 : Int32)), (0, .ref h0), (1, .int v1)]) hx hb dX12_looks_91 hl (by decide) rfl ?_; clear hl; clear ls; intro ls hl
      obtain ⟨x17, e_x17⟩ : ∃ y : Int32, y = (0 : Int32) := ⟨_, rfl⟩
      replace hw := hw x17 e_x17
      replace hl : lv_has ls 5 [(4, .int x17), (0, .ref h0), (1, .int v1)] := by rw [e_x17]; exact hl
      clear e_x17
      replace hl := lv_sub (l' := [(4, .int x17), (0, .ref h0), (1, .int v1)]) hl [0, 1, 2] rfl
      revert hl; revert hS; revert hD; revert hP; revert ls; revert locs; revert H
      revert hw; revert f16; revert x17
      refine Lz2_gr ?_; intro g18 ih19 x20 f21 hw
      intro H locs ls hP hD hS hl
      refine lv_iload hx hb dX12_looks_93 (lv_at hl 0 rfl) ?_
      refine lv_bipush (v := 80) hx hb dX12_looks_95 (by decide) ?_
      refine lv_icmp_ge (tgt := 129) hx hb dX12_looks_97 (by decide) (fun c22 => ?_) (fun c22 => ?_)
      · replace hw := hw.1 c22; clear c22
        clear ih19
        subst hQe
        exact W.vret hx hb hr (fun t ht hW => ⟨⟨(f21, f7), rfl, hw, by rw [ht]; exact hP, va_K.moved hW.alike hK, hD⟩, hS.F ht⟩) hS.2.2 dX12_looks_129
      · replace hw := hw.2 c22; clear c22
        refine lv_aload_n hx hb dX12_looks_100 rfl (lv_at hl 1 rfl) ?_
        refine va_get (D := (dC, dI)) (ci := 12) (v := .ref h_row) (C := RX12) (T := TX12) (N := 22) hx hb hts inX12 hown hK hP 0 rfl rfl 1 (by decide) (hts _ (List.mem_cons_of_mem _ mw_169)) (fun _ h9 => h9) rfl dX12_looks_101 ?_
        refine lv_iload_n hx hb dX12_looks_104 rfl (lv_at hl 2 rfl) ?_
        refine lv_bipush (v := 84) hx hb dX12_looks_105 (by decide) ?_
        refine lv_iadd hx hb dX12_looks_107 ?_
        refine lv_iload hx hb dX12_looks_108 (lv_at hl 0 rfl) ?_
        refine lv_iadd hx hb dX12_looks_110 ?_
        refine lv_aload_n hx hb dX12_looks_111 rfl (lv_at hl 1 rfl) ?_
        refine va_get (D := (dC, dI)) (ci := 12) (v := .ref h_row) (C := RX12) (T := TX12) (N := 22) hx hb hts inX12 hown hK hP 0 rfl rfl 1 (by decide) (hts _ (List.mem_cons_of_mem _ mw_169)) (fun _ h9 => h9) rfl dX12_looks_112 ?_
        refine lv_iload_n hx hb dX12_looks_115 rfl (lv_at hl 2 rfl) ?_
        refine lv_iconst (v := 4) hx hb dX12_looks_116 (by decide) ?_
        refine lv_iadd hx hb dX12_looks_117 ?_
        refine lv_iload hx hb dX12_looks_118 (lv_at hl 0 rfl) ?_
        refine lv_iadd hx hb dX12_looks_120 ?_
        obtain ⟨h23, hw⟩ := hw
        refine xiald (k := ((v1 + (4 : Int32)) + x20).toNatClampNeg) hx hb hK hP 1 0 rfl rfl h23 rfl dX12_looks_121 ?_
        obtain ⟨h24, hw⟩ := hw
        refine xiast (k := ((v1 + (84 : Int32)) + x20).toNatClampNeg) hx hb hK hP hD hS 1 0 rfl rfl h24 rfl dX12_looks_122 ?_; clear hP hD hS; clear H locs; intro f25 e_f25 H locs hP hD hS
        replace hw := hw f25 e_f25
        clear e_f25
        replace hP : va_P (dC, dI) vwCl (w_X12_looks h0 h_row h_kept h_isKept h_aside h_eight h_rows h_scales h_dealt h_bytes h_heardRow h_made h_comes h_backs h_fresh cy c_thrown c_nodeS c_nodeD c_pairE c_pairO c_bit c_lag c_lagSum f25 f7) H := hP
        replace hD : va_D A (w_X12_looks h0 h_row h_kept h_isKept h_aside h_eight h_rows h_scales h_dealt h_bytes h_heardRow h_made h_comes h_backs h_fresh cy c_thrown c_nodeS c_nodeD c_pairE c_pairO c_bit c_lag c_lagSum f25 f7) := hD
        refine lv_iinc (v := x20 + 1) (lv' := [(4, .int (x20 + 1)), (0, .ref h0), (1, .int v1)]) hx hb dX12_looks_123 hl (k := 0) rfl rfl (by decide) rfl ?_; clear hl; clear ls; intro ls hl
        refine lv_goto (tgt := 93) hx hb dX12_looks_126 (by decide) ?_
        exact ih19 (x20 + 1) f25 hw H locs ls hP hD hS (lv_sub hl [0, 1, 2] rfl)
    · intro j11 hw
      refine lv_icmp_ne (tgt := 70) hx hb dX12_looks_53 (by decide) (fun c26 => ?_) (fun c26 => ?_)
      · replace hw := hw.2 c26; clear c26
        exact j11 hw H locs ls hP hD hS (lv_sub hl [2, 3] rfl)
      · replace hw := hw.1 c26; clear c26
        refine lv_aload_n hx hb dX12_looks_56 rfl (lv_at hl 2 rfl) ?_
        refine va_get (D := (dC, dI)) (ci := 12) (v := .ref h_bytes) (C := RX12) (T := TX12) (N := 22) hx hb hts inX12 hown hK hP 0 rfl rfl 13 (by decide) (hts _ (List.mem_cons_of_mem _ mw_178)) (fun _ h9 => h9) rfl dX12_looks_57 ?_
        refine lv_iconst (v := 3) hx hb dX12_looks_60 (by decide) ?_
        refine xiald (k := 3) hx hb hK hP 2 0 rfl rfl (vpL 3 160 rfl) (by decide) dX12_looks_61 ?_
        refine lv_aload_n hx hb dX12_looks_62 rfl (lv_at hl 2 rfl) ?_
        refine lv_iload_n hx hb dX12_looks_63 rfl (lv_at hl 1 rfl) ?_
        have hPc := pSub (ws' := (w_X12_check h0 h_row h_kept h_isKept h_aside h_eight h_rows h_scales h_dealt h_bytes h_heardRow h_made h_comes h_backs h_fresh cy c_thrown c_nodeS c_nodeD c_pairE c_pairO c_bit c_lag c_lagSum f7)) hP [0, 2] rfl
        have hDc := dSub (ws' := (w_X12_check h0 h_row h_kept h_isKept h_aside h_eight h_rows h_scales h_dealt h_bytes h_heardRow h_made h_comes h_backs h_fresh cy c_thrown c_nodeS c_nodeD c_pairE c_pairO c_bit c_lag c_lagSum f7)) hD [0, 2] (by decide) rfl
        have hFc := va_free (wc := (w_X12_check h0 h_row h_kept h_isKept h_aside h_eight h_rows h_scales h_dealt h_bytes h_heardRow h_made h_comes h_backs h_fresh cy c_thrown c_nodeS c_nodeD c_pairE c_pairO c_bit c_lag c_lagSum f7)) hD hS hA [0, 2] rfl
        refine va_calli (va_runV (As := [.int x2]) (rest := [.int (f7 3)]) ⟨hx, hb, hml, hown, hts⟩ (c_X12_check l dC dI cy h0 h_row h_kept h_isKept h_aside h_eight h_rows h_scales h_dealt h_bytes h_heardRow h_made h_comes h_backs h_fresh H.size x2 c_thrown c_nodeS c_nodeD c_pairE c_pairO c_bit c_lag c_lagSum f7 _ hw) (cwV 1 hts (goodV mw_678 mw_675 mw_676 mw_677 mw_5) rfl rfl rfl (by decide +kernel) ⟨Nat.le_of_ble_eq_true rfl, Nat.le_of_ble_eq_true rfl⟩) ⟨PX_blind, va_recv hK hPc (ci := 12) (q0 := 0) rfl rfl, PX_pre hPc hK hDc hG⟩ rfl rfl hl.1 rfl (lv_room (Nat.le_of_ble_eq_true rfl)) dX12_looks_64 ⟨Nat.zero_le _, Nat.zero_le _⟩) hS (fun q _ h => hFc q h) hFc ?_; clear hw hS; intro r28 _ t H1 locs1 ht hvm hw hB hz1 hk1 hS
        obtain ⟨hP1, -, -⟩ := hB
        rw [ht] at hP1
        replace hP := jC0 hP hD [0, 2] [1] rfl hk1 hP1 (w_X12_looks h0 h_row h_kept h_isKept h_aside h_eight h_rows h_scales h_dealt h_bytes h_heardRow h_made h_comes h_backs h_fresh cy c_thrown c_nodeS c_nodeD c_pairE c_pairO c_bit c_lag c_lagSum c_row f7) rfl rfl rfl 3 rfl (by decide +kernel); clear hD; obtain ⟨hP, hD⟩ := hP
        replace hP : va_P (dC, dI) vwCl (w_X12_looks h0 h_row h_kept h_isKept h_aside h_eight h_rows h_scales h_dealt h_bytes h_heardRow h_made h_comes h_backs h_fresh cy c_thrown c_nodeS c_nodeD c_pairE c_pairO c_bit c_lag c_lagSum c_row f7) H1 := hP
        replace hD : va_D A (w_X12_looks h0 h_row h_kept h_isKept h_aside h_eight h_rows h_scales h_dealt h_bytes h_heardRow h_made h_comes h_backs h_fresh cy c_thrown c_nodeS c_nodeD c_pairE c_pairO c_bit c_lag c_lagSum c_row f7) := hD
        clear hPc hDc hFc hP1 hk1 hz1 hvm ht; clear t; clear H locs; obtain ⟨H, hH⟩ : ∃ H, H = H1 := ⟨_, rfl⟩; obtain ⟨locs, hlo⟩ : ∃ L, L = locs1 := ⟨_, rfl⟩; subst hH; subst hlo
        refine W.widen (k := 0) (n := 0) (Nat.le_refl 0) (Nat.le_refl 0) ?_
        refine lv_icmp_eq (tgt := 130) hx hb dX12_looks_67 (by decide) (fun c29 => ?_) (fun c29 => ?_)
        · replace hw := hw.1 c29; clear c29
          refine lv_iload_n hx hb dX12_looks_130 rfl (lv_at hl 4 rfl) ?_
          refine lv_aload_n hx hb dX12_looks_131 rfl (lv_at hl 2 rfl) ?_
          refine va_get (D := (dC, dI)) (ci := 12) (v := .ref h_row) (C := RX12) (T := TX12) (N := 22) hx hb hts inX12 hown hK hP 0 rfl rfl 1 (by decide) (hts _ (List.mem_cons_of_mem _ mw_169)) (fun _ h9 => h9) rfl dX12_looks_132 ?_
          refine lv_bipush (v := 30) hx hb dX12_looks_135 (by decide) ?_
          refine xiald (k := 30) hx hb hK hP 1 0 rfl rfl (vpL 30 13385 rfl) (by decide) dX12_looks_137 ?_
          refine jn1 (Gg := fun (x31 : Int32) => ∀ (H : Heap) (locs : List Loc) (ls : Array Slot), va_P (dC, dI) vwCl (w_X12_looks h0 h_row h_kept h_isKept h_aside h_eight h_rows h_scales h_dealt h_bytes h_heardRow h_made h_comes h_backs h_fresh cy c_thrown c_nodeS c_nodeD c_pairE c_pairO c_bit c_lag c_lagSum c_row f7) H → va_D A (w_X12_looks h0 h_row h_kept h_isKept h_aside h_eight h_rows h_scales h_dealt h_bytes h_heardRow h_made h_comes h_backs h_fresh cy c_thrown c_nodeS c_nodeD c_pairE c_pairO c_bit c_lag c_lagSum c_row f7) → va_S A s.heap H locs → lv_has ls 5 [(0, .ref h0), (2, .int v2), (3, .int x2)] → W p l e { frames := 2, cells := 0, slots := 0, locals := 41 } s m av below meth c H locs 0 0 Q0 (F0 m 146 ls [.int x31])) hw ?_ ?_ <;> clear hw
          · clear hP hD hS hl; clear H locs ls; intro x31 hw H locs ls hP hD hS hl
            refine lv_istore (lv' := [(4, .int x31), (0, .ref h0), (2, .int v2), (3, .int x2)]) hx hb dX12_looks_146 hl (by decide) rfl ?_; clear hl; clear ls; intro ls hl
            refine lv_iload hx hb dX12_looks_148 (lv_at hl 0 rfl) ?_
            refine jn1 (Gg := fun (f34 : (Nat → Int32)) => ∀ (H : Heap) (locs : List Loc) (ls : Array Slot), va_P (dC, dI) vwCl (w_X12_looks h0 h_row h_kept h_isKept h_aside h_eight h_rows h_scales h_dealt h_bytes h_heardRow h_made h_comes h_backs h_fresh cy c_thrown c_nodeS c_nodeD c_pairE c_pairO c_bit c_lag c_lagSum f34 f7) H → va_D A (w_X12_looks h0 h_row h_kept h_isKept h_aside h_eight h_rows h_scales h_dealt h_bytes h_heardRow h_made h_comes h_backs h_fresh cy c_thrown c_nodeS c_nodeD c_pairE c_pairO c_bit c_lag c_lagSum f34 f7) → va_S A s.heap H locs → lv_has ls 5 [(0, .ref h0)] → W p l e { frames := 2, cells := 0, slots := 0, locals := 41 } s m av below meth c H locs 0 0 Q0 (F0 m 257 ls [])) hw ?_ ?_ <;> clear hw
            · clear hP hD hS hl; clear H locs ls; intro f34 hw H locs ls hP hD hS hl
              refine lv_aload_n hx hb dX12_looks_257 rfl (lv_at hl 0 rfl) ?_
              have hPc := pSub (ws' := (w_X12_dropFirst h0 h_row h_kept h_isKept h_aside h_eight h_rows h_scales h_dealt h_bytes h_heardRow h_made h_comes h_backs h_fresh cy c_thrown c_nodeS c_nodeD c_pairE c_pairO c_bit c_lag c_lagSum f34)) hP [0, 1] rfl
              have hDc := dSub (ws' := (w_X12_dropFirst h0 h_row h_kept h_isKept h_aside h_eight h_rows h_scales h_dealt h_bytes h_heardRow h_made h_comes h_backs h_fresh cy c_thrown c_nodeS c_nodeD c_pairE c_pairO c_bit c_lag c_lagSum f34)) hD [0, 1] (by decide) rfl
              have hFc := va_free (wc := (w_X12_dropFirst h0 h_row h_kept h_isKept h_aside h_eight h_rows h_scales h_dealt h_bytes h_heardRow h_made h_comes h_backs h_fresh cy c_thrown c_nodeS c_nodeD c_pairE c_pairO c_bit c_lag c_lagSum f34)) hD hS hA [0, 1] rfl
              refine va_callv (va_runV (As := []) (rest := []) ⟨hx, hb, hml, hown, hts⟩ (c_X12_dropFirst l dC dI cy h0 h_row h_kept h_isKept h_aside h_eight h_rows h_scales h_dealt h_bytes h_heardRow h_made h_comes h_backs h_fresh H.size c_thrown c_nodeS c_nodeD c_pairE c_pairO c_bit c_lag c_lagSum f34 _ hw) (cwV 0 hts (goodV mw_696 mw_693 mw_694 mw_695 mw_5) rfl rfl rfl (by decide +kernel) ⟨Nat.le_of_ble_eq_true rfl, Nat.le_of_ble_eq_true rfl⟩) ⟨PX_blind, va_recv hK hPc (ci := 12) (q0 := 0) rfl rfl, PX_pre hPc hK hDc hG⟩ rfl rfl hl.1 rfl (lv_room (Nat.le_of_ble_eq_true rfl)) dX12_looks_258 ⟨Nat.zero_le _, Nat.zero_le _⟩) hS (fun q _ h => hFc q h) hFc ?_; clear hw hS; intro f37 t H1 locs1 ht hvm hw hB hz1 hk1 hS
              obtain ⟨hP1, -, -⟩ := hB
              rw [ht] at hP1
              replace hP := jC0 hP hD [0, 1] [2] rfl hk1 hP1 (w_X12_looks h0 h_row h_kept h_isKept h_aside h_eight h_rows h_scales h_dealt h_bytes h_heardRow h_made h_comes h_backs h_fresh cy c_thrown c_nodeS c_nodeD c_pairE c_pairO c_bit c_lag c_lagSum f37 f7) rfl rfl rfl 3 rfl (by decide +kernel); clear hD; obtain ⟨hP, hD⟩ := hP
              replace hP : va_P (dC, dI) vwCl (w_X12_looks h0 h_row h_kept h_isKept h_aside h_eight h_rows h_scales h_dealt h_bytes h_heardRow h_made h_comes h_backs h_fresh cy c_thrown c_nodeS c_nodeD c_pairE c_pairO c_bit c_lag c_lagSum f37 f7) H1 := hP
              replace hD : va_D A (w_X12_looks h0 h_row h_kept h_isKept h_aside h_eight h_rows h_scales h_dealt h_bytes h_heardRow h_made h_comes h_backs h_fresh cy c_thrown c_nodeS c_nodeD c_pairE c_pairO c_bit c_lag c_lagSum f37 f7) := hD
              clear hPc hDc hFc hP1 hk1 hz1 hvm ht; clear t; clear H locs; obtain ⟨H, hH⟩ : ∃ H, H = H1 := ⟨_, rfl⟩; obtain ⟨locs, hlo⟩ : ∃ L, L = locs1 := ⟨_, rfl⟩; subst hH; subst hlo
              refine W.widen (k := 0) (n := 0) (Nat.le_refl 0) (Nat.le_refl 0) ?_
              subst hQe
              exact W.vret hx hb hr (fun t ht hW => ⟨⟨(f37, f7), rfl, hw, by rw [ht]; exact hP, va_K.moved hW.alike hK, hD⟩, hS.F ht⟩) hS.2.2 dX12_looks_261
            · intro j36 hw
              refine jn0 (Gg := ∀ (H : Heap) (locs : List Loc) (ls : Array Slot), va_P (dC, dI) vwCl (w_X12_looks h0 h_row h_kept h_isKept h_aside h_eight h_rows h_scales h_dealt h_bytes h_heardRow h_made h_comes h_backs h_fresh cy c_thrown c_nodeS c_nodeD c_pairE c_pairO c_bit c_lag c_lagSum c_row f7) H → va_D A (w_X12_looks h0 h_row h_kept h_isKept h_aside h_eight h_rows h_scales h_dealt h_bytes h_heardRow h_made h_comes h_backs h_fresh cy c_thrown c_nodeS c_nodeD c_pairE c_pairO c_bit c_lag c_lagSum c_row f7) → va_S A s.heap H locs → lv_has ls 5 [(0, .ref h0), (2, .int v2), (3, .int x2), (4, .int x31)] → W p l e { frames := 2, cells := 0, slots := 0, locals := 41 } s m av below meth c H locs 0 0 Q0 (F0 m 170 ls [])) hw ?_ ?_ <;> clear hw
              · clear hP hD hS hl; clear H locs ls; intro  hw H locs ls hP hD hS hl
                refine lv_aload_n hx hb dX12_looks_170 rfl (lv_at hl 0 rfl) ?_
                refine va_get (D := (dC, dI)) (ci := 12) (v := .ref h_row) (C := RX12) (T := TX12) (N := 22) hx hb hts inX12 hown hK hP 0 rfl rfl 1 (by decide) (hts _ (List.mem_cons_of_mem _ mw_169)) (fun _ h9 => h9) rfl dX12_looks_171 ?_
                refine lv_iload_n hx hb dX12_looks_174 rfl (lv_at hl 1 rfl) ?_
                have hPc := pSub (ws' := (w_X12_packetAt cy)) hP [] rfl
                have hDc := dSub (ws' := (w_X12_packetAt cy)) hD [] (by decide) rfl
                have hFc := va_free (wc := (w_X12_packetAt cy)) hD hS hA [] rfl
                refine va_calli (va_runS (As := [.int v2]) (rest := [.ref h_row]) ⟨hx, hb, hml, hown, hts⟩ (c_X12_packetAt l dC dI cy  H.size v2 _ hw) (va_cwS 1 hts (goodS mw_684 mw_682 mw_683 mw_5) rfl rfl rfl (by decide +kernel) ⟨Nat.le_of_ble_eq_true rfl, Nat.le_of_ble_eq_true rfl⟩) ⟨PX_blind, PX_pre hPc hK hDc hG⟩ rfl rfl hl.1 rfl (lv_room (Nat.le_of_ble_eq_true rfl)) dX12_looks_175 ⟨Nat.zero_le _, Nat.zero_le _⟩) hS (fun q _ h => hFc q h) hFc ?_; clear hw hS; intro r40 _ t H1 locs1 ht hvm hw hB hz1 hk1 hS
                obtain ⟨hP1, -, -⟩ := hB
                rw [ht] at hP1
                replace hP := jC0 hP hD [] [0, 1, 2] rfl hk1 hP1 (w_X12_looks h0 h_row h_kept h_isKept h_aside h_eight h_rows h_scales h_dealt h_bytes h_heardRow h_made h_comes h_backs h_fresh cy c_thrown c_nodeS c_nodeD c_pairE c_pairO c_bit c_lag c_lagSum c_row f7) rfl rfl rfl 3 rfl (by decide +kernel); clear hD; obtain ⟨hP, hD⟩ := hP
                replace hP : va_P (dC, dI) vwCl (w_X12_looks h0 h_row h_kept h_isKept h_aside h_eight h_rows h_scales h_dealt h_bytes h_heardRow h_made h_comes h_backs h_fresh cy c_thrown c_nodeS c_nodeD c_pairE c_pairO c_bit c_lag c_lagSum c_row f7) H1 := hP
                replace hD : va_D A (w_X12_looks h0 h_row h_kept h_isKept h_aside h_eight h_rows h_scales h_dealt h_bytes h_heardRow h_made h_comes h_backs h_fresh cy c_thrown c_nodeS c_nodeD c_pairE c_pairO c_bit c_lag c_lagSum c_row f7) := hD
                clear hPc hDc hFc hP1 hk1 hz1 hvm ht; clear t; clear H locs; obtain ⟨H, hH⟩ : ∃ H, H = H1 := ⟨_, rfl⟩; obtain ⟨locs, hlo⟩ : ∃ L, L = locs1 := ⟨_, rfl⟩; subst hH; subst hlo
                refine W.widen (k := 0) (n := 0) (Nat.le_refl 0) (Nat.le_refl 0) ?_
                refine lv_iconst (v := 0) hx hb dX12_looks_178 (by decide) ?_
                refine lv_iadd hx hb dX12_looks_179 ?_
                refine lv_iconst (v := 2) hx hb dX12_looks_180 (by decide) ?_
                obtain ⟨h41, hw⟩ := hw
                refine xiast (k := (r40 + (0 : Int32)).toNatClampNeg) hx hb hK hP hD hS 1 0 rfl rfl h41 rfl dX12_looks_181 ?_; clear hP hD hS; clear H locs; intro f42 e_f42 H locs hP hD hS
                replace hw := hw f42 e_f42
                clear e_f42
                replace hP : va_P (dC, dI) vwCl (w_X12_looks h0 h_row h_kept h_isKept h_aside h_eight h_rows h_scales h_dealt h_bytes h_heardRow h_made h_comes h_backs h_fresh cy c_thrown c_nodeS c_nodeD c_pairE c_pairO c_bit c_lag c_lagSum f42 f7) H := hP
                replace hD : va_D A (w_X12_looks h0 h_row h_kept h_isKept h_aside h_eight h_rows h_scales h_dealt h_bytes h_heardRow h_made h_comes h_backs h_fresh cy c_thrown c_nodeS c_nodeD c_pairE c_pairO c_bit c_lag c_lagSum f42 f7) := hD
                refine lv_aload_n hx hb dX12_looks_182 rfl (lv_at hl 0 rfl) ?_
                refine va_get (D := (dC, dI)) (ci := 12) (v := .ref h_row) (C := RX12) (T := TX12) (N := 22) hx hb hts inX12 hown hK hP 0 rfl rfl 1 (by decide) (hts _ (List.mem_cons_of_mem _ mw_169)) (fun _ h9 => h9) rfl dX12_looks_183 ?_
                refine lv_iload_n hx hb dX12_looks_186 rfl (lv_at hl 1 rfl) ?_
                have hPc := pSub (ws' := (w_X12_packetAt cy)) hP [] rfl
                have hDc := dSub (ws' := (w_X12_packetAt cy)) hD [] (by decide) rfl
                have hFc := va_free (wc := (w_X12_packetAt cy)) hD hS hA [] rfl
                refine va_calli (va_runS (As := [.int v2]) (rest := [.ref h_row]) ⟨hx, hb, hml, hown, hts⟩ (c_X12_packetAt l dC dI cy  H.size v2 _ hw) (va_cwS 1 hts (goodS mw_684 mw_682 mw_683 mw_5) rfl rfl rfl (by decide +kernel) ⟨Nat.le_of_ble_eq_true rfl, Nat.le_of_ble_eq_true rfl⟩) ⟨PX_blind, PX_pre hPc hK hDc hG⟩ rfl rfl hl.1 rfl (lv_room (Nat.le_of_ble_eq_true rfl)) dX12_looks_187 ⟨Nat.zero_le _, Nat.zero_le _⟩) hS (fun q _ h => hFc q h) hFc ?_; clear hw hS; intro r43 _ t H1 locs1 ht hvm hw hB hz1 hk1 hS
                obtain ⟨hP1, -, -⟩ := hB
                rw [ht] at hP1
                replace hP := jC0 hP hD [] [0, 1, 2] rfl hk1 hP1 (w_X12_looks h0 h_row h_kept h_isKept h_aside h_eight h_rows h_scales h_dealt h_bytes h_heardRow h_made h_comes h_backs h_fresh cy c_thrown c_nodeS c_nodeD c_pairE c_pairO c_bit c_lag c_lagSum f42 f7) rfl rfl rfl 3 rfl (by decide +kernel); clear hD; obtain ⟨hP, hD⟩ := hP
                replace hP : va_P (dC, dI) vwCl (w_X12_looks h0 h_row h_kept h_isKept h_aside h_eight h_rows h_scales h_dealt h_bytes h_heardRow h_made h_comes h_backs h_fresh cy c_thrown c_nodeS c_nodeD c_pairE c_pairO c_bit c_lag c_lagSum f42 f7) H1 := hP
                replace hD : va_D A (w_X12_looks h0 h_row h_kept h_isKept h_aside h_eight h_rows h_scales h_dealt h_bytes h_heardRow h_made h_comes h_backs h_fresh cy c_thrown c_nodeS c_nodeD c_pairE c_pairO c_bit c_lag c_lagSum f42 f7) := hD
                clear hPc hDc hFc hP1 hk1 hz1 hvm ht; clear t; clear H locs; obtain ⟨H, hH⟩ : ∃ H, H = H1 := ⟨_, rfl⟩; obtain ⟨locs, hlo⟩ : ∃ L, L = locs1 := ⟨_, rfl⟩; subst hH; subst hlo
                refine W.widen (k := 0) (n := 0) (Nat.le_refl 0) (Nat.le_refl 0) ?_
                refine lv_iconst (v := 3) hx hb dX12_looks_190 (by decide) ?_
                refine lv_iadd hx hb dX12_looks_191 ?_
                refine lv_aload_n hx hb dX12_looks_192 rfl (lv_at hl 0 rfl) ?_
                refine va_get (D := (dC, dI)) (ci := 12) (v := .ref h_row) (C := RX12) (T := TX12) (N := 22) hx hb hts inX12 hown hK hP 0 rfl rfl 1 (by decide) (hts _ (List.mem_cons_of_mem _ mw_169)) (fun _ h9 => h9) rfl dX12_looks_193 ?_
                refine lv_bipush (v := 25) hx hb dX12_looks_196 (by decide) ?_
                refine xiald (k := 25) hx hb hK hP 1 0 rfl rfl (vpL 25 13385 rfl) (by decide) dX12_looks_198 ?_
                obtain ⟨h45, hw⟩ := hw
                refine xiast (k := (r43 + (3 : Int32)).toNatClampNeg) hx hb hK hP hD hS 1 0 rfl rfl h45 rfl dX12_looks_199 ?_; clear hP hD hS; clear H locs; intro f46 e_f46 H locs hP hD hS
                replace hw := hw f46 e_f46
                clear e_f46
                replace hP : va_P (dC, dI) vwCl (w_X12_looks h0 h_row h_kept h_isKept h_aside h_eight h_rows h_scales h_dealt h_bytes h_heardRow h_made h_comes h_backs h_fresh cy c_thrown c_nodeS c_nodeD c_pairE c_pairO c_bit c_lag c_lagSum f46 f7) H := hP
                replace hD : va_D A (w_X12_looks h0 h_row h_kept h_isKept h_aside h_eight h_rows h_scales h_dealt h_bytes h_heardRow h_made h_comes h_backs h_fresh cy c_thrown c_nodeS c_nodeD c_pairE c_pairO c_bit c_lag c_lagSum f46 f7) := hD
                refine lv_aload_n hx hb dX12_looks_200 rfl (lv_at hl 0 rfl) ?_
                refine va_get (D := (dC, dI)) (ci := 12) (v := .ref h_row) (C := RX12) (T := TX12) (N := 22) hx hb hts inX12 hown hK hP 0 rfl rfl 1 (by decide) (hts _ (List.mem_cons_of_mem _ mw_169)) (fun _ h9 => h9) rfl dX12_looks_201 ?_
                refine lv_bipush (v := 28) hx hb dX12_looks_204 (by decide) ?_
                refine lv_dup2_11 hx hb dX12_looks_206 rfl rfl ?_
                refine xiald (k := 28) hx hb hK hP 1 0 rfl rfl (vpL 28 13385 rfl) (by decide) dX12_looks_207 ?_
                refine lv_iconst (v := 1) hx hb dX12_looks_208 (by decide) ?_
                refine lv_iadd hx hb dX12_looks_209 ?_
                refine xiast (k := 28) hx hb hK hP hD hS 1 0 rfl rfl (vpL 28 13385 rfl) (by decide) dX12_looks_210 ?_; clear hP hD hS; clear H locs; intro f49 e_f49 H locs hP hD hS
                replace hw := hw f49 e_f49
                clear e_f49
                replace hP : va_P (dC, dI) vwCl (w_X12_looks h0 h_row h_kept h_isKept h_aside h_eight h_rows h_scales h_dealt h_bytes h_heardRow h_made h_comes h_backs h_fresh cy c_thrown c_nodeS c_nodeD c_pairE c_pairO c_bit c_lag c_lagSum f49 f7) H := hP
                replace hD : va_D A (w_X12_looks h0 h_row h_kept h_isKept h_aside h_eight h_rows h_scales h_dealt h_bytes h_heardRow h_made h_comes h_backs h_fresh cy c_thrown c_nodeS c_nodeD c_pairE c_pairO c_bit c_lag c_lagSum f49 f7) := hD
                refine lv_aload_n hx hb dX12_looks_211 rfl (lv_at hl 0 rfl) ?_
                refine va_get (D := (dC, dI)) (ci := 12) (v := .ref h_row) (C := RX12) (T := TX12) (N := 22) hx hb hts inX12 hown hK hP 0 rfl rfl 1 (by decide) (hts _ (List.mem_cons_of_mem _ mw_169)) (fun _ h9 => h9) rfl dX12_looks_212 ?_
                refine lv_sipush (v := 3369) hx hb dX12_looks_215 (by decide) ?_
                refine lv_aload_n hx hb dX12_looks_218 rfl (lv_at hl 0 rfl) ?_
                refine va_get (D := (dC, dI)) (ci := 12) (v := .ref h_row) (C := RX12) (T := TX12) (N := 22) hx hb hts inX12 hown hK hP 0 rfl rfl 1 (by decide) (hts _ (List.mem_cons_of_mem _ mw_169)) (fun _ h9 => h9) rfl dX12_looks_219 ?_
                refine lv_bipush (v := 25) hx hb dX12_looks_222 (by decide) ?_
                refine xiald (k := 25) hx hb hK hP 1 0 rfl rfl (vpL 25 13385 rfl) (by decide) dX12_looks_224 ?_
                refine lv_i2l (v := (f49 25).toInt64) hx hb dX12_looks_225 rfl ?_
                refine lv_ldc2 (v := 4) hx hb hown (hts _ (List.mem_cons_of_mem _ mw_719)) dX12_looks_226 ?_
                refine lv_iload_n hx hb dX12_looks_229 rfl (lv_at hl 1 rfl) ?_
                refine lv_i2l (v := v2.toInt64) hx hb dX12_looks_230 rfl ?_
                refine lv_lmul hx hb dX12_looks_231 ?_
                refine lv_lsub hx hb dX12_looks_232 ?_
                refine lv_lconst (v := 0) hx hb dX12_looks_233 (by decide) ?_
                refine lv_ldc2 (v := 15) hx hb hown (hts _ (List.mem_cons_of_mem _ mw_720)) dX12_looks_234 ?_
                have hPc := pSub (ws' := (w_X12_nearest cy)) hP [] rfl
                have hDc := dSub (ws' := (w_X12_nearest cy)) hD [] (by decide) rfl
                have hFc := va_free (wc := (w_X12_nearest cy)) hD hS hA [] rfl
                refine va_calli (va_runS (As := [.long (((f49 25).toInt64) - ((4 : Int64) * (v2.toInt64))), .long (0 : Int64), .long (15 : Int64)]) (rest := [.int (3369 : Int32), .ref h_row]) ⟨hx, hb, hml, hown, hts⟩ (c_X12_nearest l dC dI cy  H.size (((f49 25).toInt64) - ((4 : Int64) * (v2.toInt64))) (0 : Int64) (15 : Int64) _ hw) (va_cwS 3 hts (goodS mw_616 mw_614 mw_615 mw_5) rfl rfl rfl (by decide +kernel) ⟨Nat.le_of_ble_eq_true rfl, Nat.le_of_ble_eq_true rfl⟩) ⟨PX_blind, PX_pre hPc hK hDc hG⟩ rfl rfl hl.1 rfl (lv_room (Nat.le_of_ble_eq_true rfl)) dX12_looks_237 ⟨Nat.zero_le _, Nat.zero_le _⟩) hS (fun q _ h => hFc q h) hFc ?_; clear hw hS; intro r51 _ t H1 locs1 ht hvm hw hB hz1 hk1 hS
                obtain ⟨hP1, -, -⟩ := hB
                rw [ht] at hP1
                replace hP := jC0 hP hD [] [0, 1, 2] rfl hk1 hP1 (w_X12_looks h0 h_row h_kept h_isKept h_aside h_eight h_rows h_scales h_dealt h_bytes h_heardRow h_made h_comes h_backs h_fresh cy c_thrown c_nodeS c_nodeD c_pairE c_pairO c_bit c_lag c_lagSum f49 f7) rfl rfl rfl 3 rfl (by decide +kernel); clear hD; obtain ⟨hP, hD⟩ := hP
                replace hP : va_P (dC, dI) vwCl (w_X12_looks h0 h_row h_kept h_isKept h_aside h_eight h_rows h_scales h_dealt h_bytes h_heardRow h_made h_comes h_backs h_fresh cy c_thrown c_nodeS c_nodeD c_pairE c_pairO c_bit c_lag c_lagSum f49 f7) H1 := hP
                replace hD : va_D A (w_X12_looks h0 h_row h_kept h_isKept h_aside h_eight h_rows h_scales h_dealt h_bytes h_heardRow h_made h_comes h_backs h_fresh cy c_thrown c_nodeS c_nodeD c_pairE c_pairO c_bit c_lag c_lagSum f49 f7) := hD
                clear hPc hDc hFc hP1 hk1 hz1 hvm ht; clear t; clear H locs; obtain ⟨H, hH⟩ : ∃ H, H = H1 := ⟨_, rfl⟩; obtain ⟨locs, hlo⟩ : ∃ L, L = locs1 := ⟨_, rfl⟩; subst hH; subst hlo
                refine W.widen (k := 0) (n := 0) (Nat.le_refl 0) (Nat.le_refl 0) ?_
                refine lv_iadd hx hb dX12_looks_240 ?_
                refine lv_topi (fun x52 e_x52 => ?_)
                replace hw := hw x52 e_x52
                clear e_x52
                refine lv_dup2_11 hx hb dX12_looks_241 rfl rfl ?_
                obtain ⟨h53, hw⟩ := hw
                refine xiald (k := x52.toNatClampNeg) hx hb hK hP 1 0 rfl rfl h53 rfl dX12_looks_242 ?_
                refine lv_iconst (v := 1) hx hb dX12_looks_243 (by decide) ?_
                refine lv_iadd hx hb dX12_looks_244 ?_
                obtain ⟨h54, hw⟩ := hw
                refine xiast (k := x52.toNatClampNeg) hx hb hK hP hD hS 1 0 rfl rfl h54 rfl dX12_looks_245 ?_; clear hP hD hS; clear H locs; intro f55 e_f55 H locs hP hD hS
                replace hw := hw f55 e_f55
                clear e_f55
                replace hP : va_P (dC, dI) vwCl (w_X12_looks h0 h_row h_kept h_isKept h_aside h_eight h_rows h_scales h_dealt h_bytes h_heardRow h_made h_comes h_backs h_fresh cy c_thrown c_nodeS c_nodeD c_pairE c_pairO c_bit c_lag c_lagSum f55 f7) H := hP
                replace hD : va_D A (w_X12_looks h0 h_row h_kept h_isKept h_aside h_eight h_rows h_scales h_dealt h_bytes h_heardRow h_made h_comes h_backs h_fresh cy c_thrown c_nodeS c_nodeD c_pairE c_pairO c_bit c_lag c_lagSum f55 f7) := hD
                refine lv_iload hx hb dX12_looks_246 (lv_at hl 3 rfl) ?_
                refine lv_if_ne (tgt := 257) hx hb dX12_looks_248 (by decide) (fun c56 => ?_) (fun c56 => ?_)
                · replace hw := hw.2 c56; clear c56
                  exact j36 f55 hw H locs ls hP hD hS (lv_sub hl [0] rfl)
                · replace hw := hw.1 c56; clear c56
                  refine lv_aload_n hx hb dX12_looks_251 rfl (lv_at hl 0 rfl) ?_
                  refine lv_iload_n hx hb dX12_looks_252 rfl (lv_at hl 1 rfl) ?_
                  refine lv_iload_n hx hb dX12_looks_253 rfl (lv_at hl 2 rfl) ?_
                  have hPc := pSub (ws' := (w_X12_stores h0 h_row h_kept h_isKept h_aside h_eight h_rows h_scales h_dealt h_bytes h_heardRow h_made h_comes h_backs h_fresh cy c_thrown c_nodeS c_nodeD c_pairE c_pairO c_bit c_lag c_lagSum f55 f7)) hP [0, 1, 2] rfl
                  have hDc := dSub (ws' := (w_X12_stores h0 h_row h_kept h_isKept h_aside h_eight h_rows h_scales h_dealt h_bytes h_heardRow h_made h_comes h_backs h_fresh cy c_thrown c_nodeS c_nodeD c_pairE c_pairO c_bit c_lag c_lagSum f55 f7)) hD [0, 1, 2] (by decide) rfl
                  have hFc := va_free (wc := (w_X12_stores h0 h_row h_kept h_isKept h_aside h_eight h_rows h_scales h_dealt h_bytes h_heardRow h_made h_comes h_backs h_fresh cy c_thrown c_nodeS c_nodeD c_pairE c_pairO c_bit c_lag c_lagSum f55 f7)) hD hS hA [0, 1, 2] rfl
                  refine va_callv (va_runV (As := [.int v2, .int x2]) (rest := []) ⟨hx, hb, hml, hown, hts⟩ (c_X12_stores l dC dI cy h0 h_row h_kept h_isKept h_aside h_eight h_rows h_scales h_dealt h_bytes h_heardRow h_made h_comes h_backs h_fresh H.size v2 x2 c_thrown c_nodeS c_nodeD c_pairE c_pairO c_bit c_lag c_lagSum f55 f7 _ hw) (cwV 2 hts (goodV mw_728 mw_725 mw_726 mw_727 mw_5) rfl rfl rfl (by decide +kernel) ⟨Nat.le_of_ble_eq_true rfl, Nat.le_of_ble_eq_true rfl⟩) ⟨PX_blind, va_recv hK hPc (ci := 12) (q0 := 0) rfl rfl, PX_pre hPc hK hDc hG⟩ rfl rfl hl.1 rfl (lv_room (Nat.le_of_ble_eq_true rfl)) dX12_looks_254 ⟨Nat.zero_le _, Nat.zero_le _⟩) hS (fun q _ h => hFc q h) hFc ?_; clear hw hS; intro f57 t H1 locs1 ht hvm hw hB hz1 hk1 hS
                  obtain ⟨hP1, -, -⟩ := hB
                  rw [ht] at hP1
                  replace hP := jC0 hP hD [0, 1, 2] [] rfl hk1 hP1 (w_X12_looks h0 h_row h_kept h_isKept h_aside h_eight h_rows h_scales h_dealt h_bytes h_heardRow h_made h_comes h_backs h_fresh cy c_thrown c_nodeS c_nodeD c_pairE c_pairO c_bit c_lag c_lagSum f57 f7) rfl rfl rfl 3 rfl (by decide +kernel); clear hD; obtain ⟨hP, hD⟩ := hP
                  replace hP : va_P (dC, dI) vwCl (w_X12_looks h0 h_row h_kept h_isKept h_aside h_eight h_rows h_scales h_dealt h_bytes h_heardRow h_made h_comes h_backs h_fresh cy c_thrown c_nodeS c_nodeD c_pairE c_pairO c_bit c_lag c_lagSum f57 f7) H1 := hP
                  replace hD : va_D A (w_X12_looks h0 h_row h_kept h_isKept h_aside h_eight h_rows h_scales h_dealt h_bytes h_heardRow h_made h_comes h_backs h_fresh cy c_thrown c_nodeS c_nodeD c_pairE c_pairO c_bit c_lag c_lagSum f57 f7) := hD
                  clear hPc hDc hFc hP1 hk1 hz1 hvm ht; clear t; clear H locs; obtain ⟨H, hH⟩ : ∃ H, H = H1 := ⟨_, rfl⟩; obtain ⟨locs, hlo⟩ : ∃ L, L = locs1 := ⟨_, rfl⟩; subst hH; subst hlo
                  refine W.widen (k := 0) (n := 0) (Nat.le_refl 0) (Nat.le_refl 0) ?_
                  exact j36 f57 hw H locs ls hP hD hS (lv_sub hl [0] rfl)
              · intro j39 hw
                refine lv_if_ne (tgt := 170) hx hb dX12_looks_150 (by decide) (fun c58 => ?_) (fun c58 => ?_)
                · replace hw := hw.2 c58; clear c58
                  exact j39 hw H locs ls hP hD hS (lv_sub hl [1, 2, 3, 0] rfl)
                · replace hw := hw.1 c58; clear c58
                  refine lv_aload_n hx hb dX12_looks_153 rfl (lv_at hl 1 rfl) ?_
                  have hPc := pSub (ws' := (w_X12_level h0 h_row h_kept h_isKept h_aside h_eight h_rows h_scales h_dealt h_bytes h_heardRow h_made h_comes h_backs h_fresh cy c_thrown c_nodeS c_nodeD c_pairE c_pairO c_bit c_lag c_lagSum c_row)) hP [0, 1] rfl
                  have hDc := dSub (ws' := (w_X12_level h0 h_row h_kept h_isKept h_aside h_eight h_rows h_scales h_dealt h_bytes h_heardRow h_made h_comes h_backs h_fresh cy c_thrown c_nodeS c_nodeD c_pairE c_pairO c_bit c_lag c_lagSum c_row)) hD [0, 1] (by decide) rfl
                  have hFc := va_free (wc := (w_X12_level h0 h_row h_kept h_isKept h_aside h_eight h_rows h_scales h_dealt h_bytes h_heardRow h_made h_comes h_backs h_fresh cy c_thrown c_nodeS c_nodeD c_pairE c_pairO c_bit c_lag c_lagSum c_row)) hD hS hA [0, 1] rfl
                  refine va_calli (va_runV (As := []) (rest := []) ⟨hx, hb, hml, hown, hts⟩ (c_X12_level l dC dI cy h0 h_row h_kept h_isKept h_aside h_eight h_rows h_scales h_dealt h_bytes h_heardRow h_made h_comes h_backs h_fresh H.size c_thrown c_nodeS c_nodeD c_pairE c_pairO c_bit c_lag c_lagSum c_row _ hw) (cwV 0 hts (goodV mw_724 mw_721 mw_722 mw_723 mw_5) rfl rfl rfl (by decide +kernel) ⟨Nat.le_of_ble_eq_true rfl, Nat.le_of_ble_eq_true rfl⟩) ⟨PX_blind, va_recv hK hPc (ci := 12) (q0 := 0) rfl rfl, PX_pre hPc hK hDc hG⟩ rfl rfl hl.1 rfl (lv_room (Nat.le_of_ble_eq_true rfl)) dX12_looks_154 ⟨Nat.zero_le _, Nat.zero_le _⟩) hS (fun q _ h => hFc q h) hFc ?_; clear hw hS; intro r59 _ t H1 locs1 ht hvm hw hB hz1 hk1 hS
                  obtain ⟨hP1, -, -⟩ := hB
                  rw [ht] at hP1
                  replace hP := jC0 hP hD [0, 1] [2] rfl hk1 hP1 (w_X12_looks h0 h_row h_kept h_isKept h_aside h_eight h_rows h_scales h_dealt h_bytes h_heardRow h_made h_comes h_backs h_fresh cy c_thrown c_nodeS c_nodeD c_pairE c_pairO c_bit c_lag c_lagSum c_row f7) rfl rfl rfl 3 rfl (by decide +kernel); clear hD; obtain ⟨hP, hD⟩ := hP
                  replace hP : va_P (dC, dI) vwCl (w_X12_looks h0 h_row h_kept h_isKept h_aside h_eight h_rows h_scales h_dealt h_bytes h_heardRow h_made h_comes h_backs h_fresh cy c_thrown c_nodeS c_nodeD c_pairE c_pairO c_bit c_lag c_lagSum c_row f7) H1 := hP
                  replace hD : va_D A (w_X12_looks h0 h_row h_kept h_isKept h_aside h_eight h_rows h_scales h_dealt h_bytes h_heardRow h_made h_comes h_backs h_fresh cy c_thrown c_nodeS c_nodeD c_pairE c_pairO c_bit c_lag c_lagSum c_row f7) := hD
                  clear hPc hDc hFc hP1 hk1 hz1 hvm ht; clear t; clear H locs; obtain ⟨H, hH⟩ : ∃ H, H = H1 := ⟨_, rfl⟩; obtain ⟨locs, hlo⟩ : ∃ L, L = locs1 := ⟨_, rfl⟩; subst hH; subst hlo
                  refine W.widen (k := 0) (n := 0) (Nat.le_refl 0) (Nat.le_refl 0) ?_
                  refine lv_bipush (v := 12) hx hb dX12_looks_157 (by decide) ?_
                  refine lv_icmp_ne (tgt := 170) hx hb dX12_looks_159 (by decide) (fun c60 => ?_) (fun c60 => ?_)
                  · replace hw := hw.2 c60; clear c60
                    exact j39 hw H locs ls hP hD hS (lv_sub hl [1, 2, 3, 0] rfl)
                  · replace hw := hw.1 c60; clear c60
                    refine lv_aload_n hx hb dX12_looks_162 rfl (lv_at hl 1 rfl) ?_
                    refine lv_iload_n hx hb dX12_looks_163 rfl (lv_at hl 2 rfl) ?_
                    have hPc := pSub (ws' := (w_X12_givesUp h0 h_row h_kept h_isKept h_aside h_eight h_rows h_scales h_dealt h_bytes h_heardRow h_made h_comes h_backs h_fresh cy c_thrown c_nodeS c_nodeD c_pairE c_pairO c_bit c_lag c_lagSum c_row)) hP [0, 1] rfl
                    have hDc := dSub (ws' := (w_X12_givesUp h0 h_row h_kept h_isKept h_aside h_eight h_rows h_scales h_dealt h_bytes h_heardRow h_made h_comes h_backs h_fresh cy c_thrown c_nodeS c_nodeD c_pairE c_pairO c_bit c_lag c_lagSum c_row)) hD [0, 1] (by decide) rfl
                    have hFc := va_free (wc := (w_X12_givesUp h0 h_row h_kept h_isKept h_aside h_eight h_rows h_scales h_dealt h_bytes h_heardRow h_made h_comes h_backs h_fresh cy c_thrown c_nodeS c_nodeD c_pairE c_pairO c_bit c_lag c_lagSum c_row)) hD hS hA [0, 1] rfl
                    refine va_callv (va_runV (As := [.int v2]) (rest := []) ⟨hx, hb, hml, hown, hts⟩ (c_X12_givesUp l dC dI cy h0 h_row h_kept h_isKept h_aside h_eight h_rows h_scales h_dealt h_bytes h_heardRow h_made h_comes h_backs h_fresh H.size v2 c_thrown c_nodeS c_nodeD c_pairE c_pairO c_bit c_lag c_lagSum c_row _ hw) (cwV 1 hts (goodV mw_692 mw_689 mw_690 mw_691 mw_5) rfl rfl rfl (by decide +kernel) ⟨Nat.le_of_ble_eq_true rfl, Nat.le_of_ble_eq_true rfl⟩) ⟨PX_blind, va_recv hK hPc (ci := 12) (q0 := 0) rfl rfl, PX_pre hPc hK hDc hG⟩ rfl rfl hl.1 rfl (lv_room (Nat.le_of_ble_eq_true rfl)) dX12_looks_164 ⟨Nat.zero_le _, Nat.zero_le _⟩) hS (fun q _ h => hFc q h) hFc ?_; clear hw hS; intro f61 t H1 locs1 ht hvm hw hB hz1 hk1 hS
                    obtain ⟨hP1, -, -⟩ := hB
                    rw [ht] at hP1
                    replace hP := jC0 hP hD [0, 1] [2] rfl hk1 hP1 (w_X12_looks h0 h_row h_kept h_isKept h_aside h_eight h_rows h_scales h_dealt h_bytes h_heardRow h_made h_comes h_backs h_fresh cy c_thrown c_nodeS c_nodeD c_pairE c_pairO c_bit c_lag c_lagSum f61 f7) rfl rfl rfl 3 rfl (by decide +kernel); clear hD; obtain ⟨hP, hD⟩ := hP
                    replace hP : va_P (dC, dI) vwCl (w_X12_looks h0 h_row h_kept h_isKept h_aside h_eight h_rows h_scales h_dealt h_bytes h_heardRow h_made h_comes h_backs h_fresh cy c_thrown c_nodeS c_nodeD c_pairE c_pairO c_bit c_lag c_lagSum f61 f7) H1 := hP
                    replace hD : va_D A (w_X12_looks h0 h_row h_kept h_isKept h_aside h_eight h_rows h_scales h_dealt h_bytes h_heardRow h_made h_comes h_backs h_fresh cy c_thrown c_nodeS c_nodeD c_pairE c_pairO c_bit c_lag c_lagSum f61 f7) := hD
                    clear hPc hDc hFc hP1 hk1 hz1 hvm ht; clear t; clear H locs; obtain ⟨H, hH⟩ : ∃ H, H = H1 := ⟨_, rfl⟩; obtain ⟨locs, hlo⟩ : ∃ L, L = locs1 := ⟨_, rfl⟩; subst hH; subst hlo
                    refine W.widen (k := 0) (n := 0) (Nat.le_refl 0) (Nat.le_refl 0) ?_
                    refine lv_goto (tgt := 257) hx hb dX12_looks_167 (by decide) ?_
                    exact j36 f61 hw H locs ls hP hD hS (lv_sub hl [1] rfl)
          · intro j33 hw
            refine lv_icmp_ge (tgt := 145) hx hb dX12_looks_138 (by decide) (fun c62 => ?_) (fun c62 => ?_)
            · replace hw := hw.1 c62; clear c62
              refine lv_iconst (v := 0) hx hb dX12_looks_145 (by decide) ?_
              exact j33 (0 : Int32) hw H locs ls hP hD hS (lv_sub hl [2, 4, 1] rfl)
            · replace hw := hw.2 c62; clear c62
              refine lv_iconst (v := 1) hx hb dX12_looks_141 (by decide) ?_
              refine lv_goto (tgt := 146) hx hb dX12_looks_142 (by decide) ?_
              exact j33 (1 : Int32) hw H locs ls hP hD hS (lv_sub hl [2, 4, 1] rfl)
        · replace hw := hw.2 c29; clear c29
          exact j11 hw H locs ls hP hD hS (lv_sub hl [2, 3] rfl)
  · replace hw := hw.2 c8; clear c8
    refine lv_aload_n hx hb dX12_looks_19 rfl (lv_at hl 2 rfl) ?_
    refine va_get (D := (dC, dI)) (ci := 12) (v := .ref h_bytes) (C := RX12) (T := TX12) (N := 22) hx hb hts inX12 hown hK hP 0 rfl rfl 13 (by decide) (hts _ (List.mem_cons_of_mem _ mw_178)) (fun _ h9 => h9) rfl dX12_looks_20 ?_
    refine lv_iload hx hb dX12_looks_23 (lv_at hl 0 rfl) ?_
    refine lv_aload_n hx hb dX12_looks_25 rfl (lv_at hl 2 rfl) ?_
    refine va_get (D := (dC, dI)) (ci := 12) (v := .ref h_row) (C := RX12) (T := TX12) (N := 22) hx hb hts inX12 hown hK hP 0 rfl rfl 1 (by decide) (hts _ (List.mem_cons_of_mem _ mw_169)) (fun _ h9 => h9) rfl dX12_looks_26 ?_
    refine lv_iload_n hx hb dX12_looks_29 rfl (lv_at hl 3 rfl) ?_
    refine lv_bipush (v := 84) hx hb dX12_looks_30 (by decide) ?_
    refine lv_iadd hx hb dX12_looks_32 ?_
    refine lv_iload hx hb dX12_looks_33 (lv_at hl 0 rfl) ?_
    refine lv_iadd hx hb dX12_looks_35 ?_
    obtain ⟨h63, hw⟩ := hw
    refine xiald (k := ((v1 + (84 : Int32)) + x6).toNatClampNeg) hx hb hK hP 1 0 rfl rfl h63 rfl dX12_looks_36 ?_
    obtain ⟨h64, hw⟩ := hw
    refine xiast (k := x6.toNatClampNeg) hx hb hK hP hD hS 2 0 rfl rfl h64 rfl dX12_looks_37 ?_; clear hP hD hS; clear H locs; intro f65 e_f65 H locs hP hD hS
    replace hw := hw f65 e_f65
    clear e_f65
    replace hP : va_P (dC, dI) vwCl (w_X12_looks h0 h_row h_kept h_isKept h_aside h_eight h_rows h_scales h_dealt h_bytes h_heardRow h_made h_comes h_backs h_fresh cy c_thrown c_nodeS c_nodeD c_pairE c_pairO c_bit c_lag c_lagSum c_row f65) H := hP
    replace hD : va_D A (w_X12_looks h0 h_row h_kept h_isKept h_aside h_eight h_rows h_scales h_dealt h_bytes h_heardRow h_made h_comes h_backs h_fresh cy c_thrown c_nodeS c_nodeD c_pairE c_pairO c_bit c_lag c_lagSum c_row f65) := hD
    refine lv_iinc (v := x6 + 1) (lv' := [(4, .int (x6 + 1)), (3, .int x2), (0, .ref h0), (1, .int v1), (2, .int v2)]) hx hb dX12_looks_38 hl (k := 0) rfl rfl (by decide) rfl ?_; clear hl; clear ls; intro ls hl
    refine lv_goto (tgt := 12) hx hb dX12_looks_41 (by decide) ?_
    exact ih5 (x6 + 1) f65 hw H locs ls hP hD hS (lv_sub hl [0, 1, 2, 3, 4] rfl)
set_option maxHeartbeats 4000000 in
set_option maxRecDepth 100000 in
theorem c_X12_sends (l : Launch) (dC : Nat → ClassId) (dI : Nat → Nat → Nat) (cy : Nat → ClassId) (h0 h_row h_kept h_isKept h_aside h_eight h_rows h_scales h_dealt h_bytes h_heardRow h_made h_comes h_backs h_fresh : Nat) (sz : Nat) (c_thrown : Int32) (c_nodeS : Int32) (c_nodeD : Int32) (c_pairE : Int32) (c_pairO : Int32) (c_bit : Int32) (c_lag : Int32) (c_lagSum : Int32) (c_row : Nat → Int32) (c_bytes : Nat → Int32) (post : (Nat → Int32) → (Nat → Int32) → Prop) (hw : wp_X12_sends c_row c_bytes post) : Met l yX12_sends wsX12_sends ({ frames := 3, cells := 0, slots := 0, locals := 65 }) (PX dC dI cy [.ref h0] sz (w_X12_sends h0 h_row h_kept h_isKept h_aside h_eight h_rows h_scales h_dealt h_bytes h_heardRow h_made h_comes h_backs h_fresh cy c_thrown c_nodeS c_nodeD c_pairE c_pairO c_bit c_lag c_lagSum c_row c_bytes)) (va_Qv (fun (u : (Nat → Int32) × (Nat → Int32)) => post u.1 u.2) (QX dC dI cy (va_A (w_X12_sends h0 h_row h_kept h_isKept h_aside h_eight h_rows h_scales h_dealt h_bytes h_heardRow h_made h_comes h_backs h_fresh cy c_thrown c_nodeS c_nodeD c_pairE c_pairO c_bit c_lag c_lagSum c_row c_bytes) sz) (fun (u : (Nat → Int32) × (Nat → Int32)) => w_X12_sends h0 h_row h_kept h_isKept h_aside h_eight h_rows h_scales h_dealt h_bytes h_heardRow h_made h_comes h_backs h_fresh cy c_thrown c_nodeS c_nodeD c_pairE c_pairO c_bit c_lag c_lagSum u.1 u.2)) (va_A (w_X12_sends h0 h_row h_kept h_isKept h_aside h_eight h_rows h_scales h_dealt h_bytes h_heardRow h_made h_comes h_backs h_fresh cy c_thrown c_nodeS c_nodeD c_pairE c_pairO c_bit c_lag c_lagSum c_row c_bytes) sz)) 0 0 (va_A (w_X12_sends h0 h_row h_kept h_isKept h_aside h_eight h_rows h_scales h_dealt h_bytes h_heardRow h_made h_comes h_backs h_fresh cy c_thrown c_nodeS c_nodeD c_pairE c_pairO c_bit c_lag c_lagSum c_row c_bytes) sz) := by
  refine Met.ofW (cc := cX12_sends) (maxL := 5) (ret := none) (by decide) rfl ?_
  intro p e s m args below meth c s₁ B hml hv
  obtain ⟨rfl, hsz, hP, hK, hD0, hG⟩ := hv
  have hx := B.exec
  have hb := B.bytes
  have hr := B.returns
  have hts := atoms_spec (ws := wsX12_sends) B.pre
  have hown : s.vm.findClass RX12 = some m.cls := findClass_of_methodNamed B.named
  have hlocks := B.notSynchronized
  subst hsz
  have hD := hD0.self (sz := s.heap.size)
  generalize hAe : va_A (w_X12_sends h0 h_row h_kept h_isKept h_aside h_eight h_rows h_scales h_dealt h_bytes h_heardRow h_made h_comes h_backs h_fresh cy c_thrown c_nodeS c_nodeD c_pairE c_pairO c_bit c_lag c_lagSum c_row c_bytes) s.heap.size = A at hD ⊢
  have hA : ∀ q : Nat, s.heap.size ≤ q → A q := fun q h => by rw [← hAe]; exact Or.inr h
  have hS : va_S A s.heap s.heap [] := va_S.rf
  have hl := lv_entry ([.ref h0]) (n := 5) (Nat.le_of_ble_eq_true rfl)
  rw [lg_entry_eq]
  generalize (lg_sl ([.ref h0]) ++ List.replicate (5 - (lg_sl ([.ref h0])).length) Slot.unset).toArray = ls at hl ⊢
  replace hl : lv_has ls 5 [(0, .ref h0)] := hl
  have inX12 : ∀ w ∈ u_ws RX12 TX12 22, w ∈ wsX12_sends := fun w h => List.mem_cons_of_mem _ (inlX12 w h)
  clear hAe hD0 B
  unfold wp_X12_sends at hw
  generalize hQe : MQ below _ _ s _ _ _ = Q0
  generalize ([.ref h0] : List Value).toArray = av at *
  obtain ⟨H, hH⟩ : ∃ H, H = s.heap := ⟨_, rfl⟩
  obtain ⟨locs, hlo⟩ : ∃ L : List Loc, L = [] := ⟨_, rfl⟩
  replace hP : va_P (dC, dI) vwCl (w_X12_sends h0 h_row h_kept h_isKept h_aside h_eight h_rows h_scales h_dealt h_bytes h_heardRow h_made h_comes h_backs h_fresh cy c_thrown c_nodeS c_nodeD c_pairE c_pairO c_bit c_lag c_lagSum c_row c_bytes) H := by rw [hH]; exact hP
  replace hS : va_S A s.heap H locs := by rw [hH, hlo]; exact hS
  suffices hgo : W p l e ({ frames := 3, cells := 0, slots := 0, locals := 65 }) s m av below meth c H locs 0 0 Q0 (F0 m 0 ls []) by rw [hH, hlo] at hgo; exact hgo
  clear hH hlo
  refine lv_aload_n hx hb dX12_sends_0 rfl (lv_at hl 0 rfl) ?_
  refine va_get (D := (dC, dI)) (ci := 12) (v := .ref h_row) (C := RX12) (T := TX12) (N := 22) hx hb hts inX12 hown hK hP 0 rfl rfl 1 (by decide) (hts _ (List.mem_cons_of_mem _ mw_169)) (fun _ h9 => h9) rfl dX12_sends_1 ?_
  refine lv_bipush (v := 51) hx hb dX12_sends_4 (by decide) ?_
  refine xiald (k := 51) hx hb hK hP 1 0 rfl rfl (vpL 51 13385 rfl) (by decide) dX12_sends_6 ?_
  refine lv_if_ne (tgt := 22) hx hb dX12_sends_7 (by decide) (fun c2 => ?_) (fun c2 => ?_)
  · replace hw := hw.2 c2; clear c2
    refine lv_iconst (v := 0) hx hb dX12_sends_22 (by decide) ?_
    have hPc := pSub (ws' := (w_X12_lineAt cy)) hP [] rfl
    have hDc := dSub (ws' := (w_X12_lineAt cy)) hD [] (by decide) rfl
    have hFc := va_free (wc := (w_X12_lineAt cy)) hD hS hA [] rfl
    refine va_calli (va_runS (As := [.int (0 : Int32)]) (rest := []) ⟨hx, hb, hml, hown, hts⟩ (c_X12_lineAt l dC dI cy  H.size (0 : Int32) _ hw) (va_cwS 1 hts (goodS mw_681 mw_679 mw_680 mw_5) rfl rfl rfl (by decide +kernel) ⟨Nat.le_of_ble_eq_true rfl, Nat.le_of_ble_eq_true rfl⟩) ⟨PX_blind, PX_pre hPc hK hDc hG⟩ rfl rfl hl.1 rfl (lv_room (Nat.le_of_ble_eq_true rfl)) dX12_sends_23 ⟨Nat.zero_le _, Nat.zero_le _⟩) hS (fun q _ h => hFc q h) hFc ?_; clear hw hS; intro r3 _ t H1 locs1 ht hvm hw hB hz1 hk1 hS
    obtain ⟨hP1, -, -⟩ := hB
    rw [ht] at hP1
    replace hP := jC0 hP hD [] [0, 1, 2] rfl hk1 hP1 (w_X12_sends h0 h_row h_kept h_isKept h_aside h_eight h_rows h_scales h_dealt h_bytes h_heardRow h_made h_comes h_backs h_fresh cy c_thrown c_nodeS c_nodeD c_pairE c_pairO c_bit c_lag c_lagSum c_row c_bytes) rfl rfl rfl 3 rfl (by decide +kernel); clear hD; obtain ⟨hP, hD⟩ := hP
    replace hP : va_P (dC, dI) vwCl (w_X12_sends h0 h_row h_kept h_isKept h_aside h_eight h_rows h_scales h_dealt h_bytes h_heardRow h_made h_comes h_backs h_fresh cy c_thrown c_nodeS c_nodeD c_pairE c_pairO c_bit c_lag c_lagSum c_row c_bytes) H1 := hP
    replace hD : va_D A (w_X12_sends h0 h_row h_kept h_isKept h_aside h_eight h_rows h_scales h_dealt h_bytes h_heardRow h_made h_comes h_backs h_fresh cy c_thrown c_nodeS c_nodeD c_pairE c_pairO c_bit c_lag c_lagSum c_row c_bytes) := hD
    clear hPc hDc hFc hP1 hk1 hz1 hvm ht; clear t; clear H locs; obtain ⟨H, hH⟩ : ∃ H, H = H1 := ⟨_, rfl⟩; obtain ⟨locs, hlo⟩ : ∃ L, L = locs1 := ⟨_, rfl⟩; subst hH; subst hlo
    refine W.widen (k := 0) (n := 0) (Nat.le_refl 0) (Nat.le_refl 0) ?_
    refine lv_istore_n (lv' := [(1, .int r3), (0, .ref h0)]) hx hb dX12_sends_26 rfl hl (by decide) rfl ?_; clear hl; clear ls; intro ls hl
    refine lv_aload_n hx hb dX12_sends_27 rfl (lv_at hl 1 rfl) ?_
    refine va_get (D := (dC, dI)) (ci := 12) (v := .ref h_row) (C := RX12) (T := TX12) (N := 22) hx hb hts inX12 hown hK hP 0 rfl rfl 1 (by decide) (hts _ (List.mem_cons_of_mem _ mw_169)) (fun _ h9 => h9) rfl dX12_sends_28 ?_
    refine lv_iload_n hx hb dX12_sends_31 rfl (lv_at hl 0 rfl) ?_
    refine lv_iconst (v := 0) hx hb dX12_sends_32 (by decide) ?_
    refine lv_iadd hx hb dX12_sends_33 ?_
    obtain ⟨h4, hw⟩ := hw
    refine xiald (k := (r3 + (0 : Int32)).toNatClampNeg) hx hb hK hP 1 0 rfl rfl h4 rfl dX12_sends_34 ?_
    refine lv_topi (fun x5 e_x5 => ?_)
    replace hw := hw x5 e_x5
    clear e_x5
    refine lv_istore_n (lv' := [(2, .int x5), (1, .int r3), (0, .ref h0)]) hx hb dX12_sends_35 rfl hl (by decide) rfl ?_; clear hl; clear ls; intro ls hl
    refine lv_aload_n hx hb dX12_sends_36 rfl (lv_at hl 2 rfl) ?_
    refine va_get (D := (dC, dI)) (ci := 12) (v := .ref h_row) (C := RX12) (T := TX12) (N := 22) hx hb hts inX12 hown hK hP 0 rfl rfl 1 (by decide) (hts _ (List.mem_cons_of_mem _ mw_169)) (fun _ h9 => h9) rfl dX12_sends_37 ?_
    refine lv_bipush (v := 27) hx hb dX12_sends_40 (by decide) ?_
    refine lv_dup2_11 hx hb dX12_sends_42 rfl rfl ?_
    refine xiald (k := 27) hx hb hK hP 1 0 rfl rfl (vpL 27 13385 rfl) (by decide) dX12_sends_43 ?_
    refine lv_iconst (v := 1) hx hb dX12_sends_44 (by decide) ?_
    refine lv_iadd hx hb dX12_sends_45 ?_
    refine xiast (k := 27) hx hb hK hP hD hS 1 0 rfl rfl (vpL 27 13385 rfl) (by decide) dX12_sends_46 ?_; clear hP hD hS; clear H locs; intro f8 e_f8 H locs hP hD hS
    replace hw := hw f8 e_f8
    clear e_f8
    replace hP : va_P (dC, dI) vwCl (w_X12_sends h0 h_row h_kept h_isKept h_aside h_eight h_rows h_scales h_dealt h_bytes h_heardRow h_made h_comes h_backs h_fresh cy c_thrown c_nodeS c_nodeD c_pairE c_pairO c_bit c_lag c_lagSum f8 c_bytes) H := hP
    replace hD : va_D A (w_X12_sends h0 h_row h_kept h_isKept h_aside h_eight h_rows h_scales h_dealt h_bytes h_heardRow h_made h_comes h_backs h_fresh cy c_thrown c_nodeS c_nodeD c_pairE c_pairO c_bit c_lag c_lagSum f8 c_bytes) := hD
    refine lv_aload_n hx hb dX12_sends_47 rfl (lv_at hl 2 rfl) ?_
    refine va_get (D := (dC, dI)) (ci := 12) (v := .ref h_row) (C := RX12) (T := TX12) (N := 22) hx hb hts inX12 hown hK hP 0 rfl rfl 1 (by decide) (hts _ (List.mem_cons_of_mem _ mw_169)) (fun _ h9 => h9) rfl dX12_sends_48 ?_
    refine lv_iload_n hx hb dX12_sends_51 rfl (lv_at hl 0 rfl) ?_
    have hPc := pSub (ws' := (w_X12_packetAt cy)) hP [] rfl
    have hDc := dSub (ws' := (w_X12_packetAt cy)) hD [] (by decide) rfl
    have hFc := va_free (wc := (w_X12_packetAt cy)) hD hS hA [] rfl
    refine va_calli (va_runS (As := [.int x5]) (rest := [.ref h_row]) ⟨hx, hb, hml, hown, hts⟩ (c_X12_packetAt l dC dI cy  H.size x5 _ hw) (va_cwS 1 hts (goodS mw_684 mw_682 mw_683 mw_5) rfl rfl rfl (by decide +kernel) ⟨Nat.le_of_ble_eq_true rfl, Nat.le_of_ble_eq_true rfl⟩) ⟨PX_blind, PX_pre hPc hK hDc hG⟩ rfl rfl hl.1 rfl (lv_room (Nat.le_of_ble_eq_true rfl)) dX12_sends_52 ⟨Nat.zero_le _, Nat.zero_le _⟩) hS (fun q _ h => hFc q h) hFc ?_; clear hw hS; intro r9 _ t H1 locs1 ht hvm hw hB hz1 hk1 hS
    obtain ⟨hP1, -, -⟩ := hB
    rw [ht] at hP1
    replace hP := jC0 hP hD [] [0, 1, 2] rfl hk1 hP1 (w_X12_sends h0 h_row h_kept h_isKept h_aside h_eight h_rows h_scales h_dealt h_bytes h_heardRow h_made h_comes h_backs h_fresh cy c_thrown c_nodeS c_nodeD c_pairE c_pairO c_bit c_lag c_lagSum f8 c_bytes) rfl rfl rfl 3 rfl (by decide +kernel); clear hD; obtain ⟨hP, hD⟩ := hP
    replace hP : va_P (dC, dI) vwCl (w_X12_sends h0 h_row h_kept h_isKept h_aside h_eight h_rows h_scales h_dealt h_bytes h_heardRow h_made h_comes h_backs h_fresh cy c_thrown c_nodeS c_nodeD c_pairE c_pairO c_bit c_lag c_lagSum f8 c_bytes) H1 := hP
    replace hD : va_D A (w_X12_sends h0 h_row h_kept h_isKept h_aside h_eight h_rows h_scales h_dealt h_bytes h_heardRow h_made h_comes h_backs h_fresh cy c_thrown c_nodeS c_nodeD c_pairE c_pairO c_bit c_lag c_lagSum f8 c_bytes) := hD
    clear hPc hDc hFc hP1 hk1 hz1 hvm ht; clear t; clear H locs; obtain ⟨H, hH⟩ : ∃ H, H = H1 := ⟨_, rfl⟩; obtain ⟨locs, hlo⟩ : ∃ L, L = locs1 := ⟨_, rfl⟩; subst hH; subst hlo
    refine W.widen (k := 0) (n := 0) (Nat.le_refl 0) (Nat.le_refl 0) ?_
    refine lv_iconst (v := 1) hx hb dX12_sends_55 (by decide) ?_
    refine lv_iadd hx hb dX12_sends_56 ?_
    refine lv_topi (fun x10 e_x10 => ?_)
    replace hw := hw x10 e_x10
    clear e_x10
    refine lv_dup2_11 hx hb dX12_sends_57 rfl rfl ?_
    obtain ⟨h11, hw⟩ := hw
    refine xiald (k := x10.toNatClampNeg) hx hb hK hP 1 0 rfl rfl h11 rfl dX12_sends_58 ?_
    refine lv_iconst (v := 1) hx hb dX12_sends_59 (by decide) ?_
    refine lv_iadd hx hb dX12_sends_60 ?_
    obtain ⟨h12, hw⟩ := hw
    refine xiast (k := x10.toNatClampNeg) hx hb hK hP hD hS 1 0 rfl rfl h12 rfl dX12_sends_61 ?_; clear hP hD hS; clear H locs; intro f13 e_f13 H locs hP hD hS
    replace hw := hw f13 e_f13
    clear e_f13
    replace hP : va_P (dC, dI) vwCl (w_X12_sends h0 h_row h_kept h_isKept h_aside h_eight h_rows h_scales h_dealt h_bytes h_heardRow h_made h_comes h_backs h_fresh cy c_thrown c_nodeS c_nodeD c_pairE c_pairO c_bit c_lag c_lagSum f13 c_bytes) H := hP
    replace hD : va_D A (w_X12_sends h0 h_row h_kept h_isKept h_aside h_eight h_rows h_scales h_dealt h_bytes h_heardRow h_made h_comes h_backs h_fresh cy c_thrown c_nodeS c_nodeD c_pairE c_pairO c_bit c_lag c_lagSum f13 c_bytes) := hD
    refine lv_aload_n hx hb dX12_sends_62 rfl (lv_at hl 2 rfl) ?_
    refine va_get (D := (dC, dI)) (ci := 12) (v := .ref h_row) (C := RX12) (T := TX12) (N := 22) hx hb hts inX12 hown hK hP 0 rfl rfl 1 (by decide) (hts _ (List.mem_cons_of_mem _ mw_169)) (fun _ h9 => h9) rfl dX12_sends_63 ?_
    refine lv_bipush (v := 48) hx hb dX12_sends_66 (by decide) ?_
    refine xiald (k := 48) hx hb hK hP 1 0 rfl rfl (vpL 48 13385 rfl) (by decide) dX12_sends_68 ?_
    refine lv_if_le (tgt := 84) hx hb dX12_sends_69 (by decide) (fun c15 => ?_) (fun c15 => ?_)
    · replace hw := hw.1 c15; clear c15
      refine lv_aload_n hx hb dX12_sends_84 rfl (lv_at hl 2 rfl) ?_
      have hPc := pSub (ws' := (w_X12_draw h0 h_row h_kept h_isKept h_aside h_eight h_rows h_scales h_dealt h_bytes h_heardRow h_made h_comes h_backs h_fresh cy c_thrown c_nodeS c_nodeD c_pairE c_pairO c_bit c_lag c_lagSum f13)) hP [0, 1] rfl
      have hDc := dSub (ws' := (w_X12_draw h0 h_row h_kept h_isKept h_aside h_eight h_rows h_scales h_dealt h_bytes h_heardRow h_made h_comes h_backs h_fresh cy c_thrown c_nodeS c_nodeD c_pairE c_pairO c_bit c_lag c_lagSum f13)) hD [0, 1] (by decide) rfl
      have hFc := va_free (wc := (w_X12_draw h0 h_row h_kept h_isKept h_aside h_eight h_rows h_scales h_dealt h_bytes h_heardRow h_made h_comes h_backs h_fresh cy c_thrown c_nodeS c_nodeD c_pairE c_pairO c_bit c_lag c_lagSum f13)) hD hS hA [0, 1] rfl
      refine va_calli (va_runV (As := []) (rest := []) ⟨hx, hb, hml, hown, hts⟩ (c_X12_draw l dC dI cy h0 h_row h_kept h_isKept h_aside h_eight h_rows h_scales h_dealt h_bytes h_heardRow h_made h_comes h_backs h_fresh H.size c_thrown c_nodeS c_nodeD c_pairE c_pairO c_bit c_lag c_lagSum f13 _ hw) (cwV 0 hts (goodV mw_704 mw_701 mw_702 mw_703 mw_5) rfl rfl rfl (by decide +kernel) ⟨Nat.le_of_ble_eq_true rfl, Nat.le_of_ble_eq_true rfl⟩) ⟨PX_blind, va_recv hK hPc (ci := 12) (q0 := 0) rfl rfl, PX_pre hPc hK hDc hG⟩ rfl rfl hl.1 rfl (lv_room (Nat.le_of_ble_eq_true rfl)) dX12_sends_85 ⟨Nat.zero_le _, Nat.zero_le _⟩) hS (fun q _ h => hFc q h) hFc ?_; clear hw hS; intro r17 f16 t H1 locs1 ht hvm hw hB hz1 hk1 hS
      obtain ⟨hP1, -, -⟩ := hB
      rw [ht] at hP1
      replace hP := jC0 hP hD [0, 1] [2] rfl hk1 hP1 (w_X12_sends h0 h_row h_kept h_isKept h_aside h_eight h_rows h_scales h_dealt h_bytes h_heardRow h_made h_comes h_backs h_fresh cy c_thrown c_nodeS c_nodeD c_pairE c_pairO c_bit c_lag c_lagSum f16 c_bytes) rfl rfl rfl 3 rfl (by decide +kernel); clear hD; obtain ⟨hP, hD⟩ := hP
      replace hP : va_P (dC, dI) vwCl (w_X12_sends h0 h_row h_kept h_isKept h_aside h_eight h_rows h_scales h_dealt h_bytes h_heardRow h_made h_comes h_backs h_fresh cy c_thrown c_nodeS c_nodeD c_pairE c_pairO c_bit c_lag c_lagSum f16 c_bytes) H1 := hP
      replace hD : va_D A (w_X12_sends h0 h_row h_kept h_isKept h_aside h_eight h_rows h_scales h_dealt h_bytes h_heardRow h_made h_comes h_backs h_fresh cy c_thrown c_nodeS c_nodeD c_pairE c_pairO c_bit c_lag c_lagSum f16 c_bytes) := hD
      clear hPc hDc hFc hP1 hk1 hz1 hvm ht; clear t; clear H locs; obtain ⟨H, hH⟩ : ∃ H, H = H1 := ⟨_, rfl⟩; obtain ⟨locs, hlo⟩ : ∃ L, L = locs1 := ⟨_, rfl⟩; subst hH; subst hlo
      refine W.widen (k := 0) (n := 0) (Nat.le_refl 0) (Nat.le_refl 0) ?_
      refine lv_bipush (v := 100) hx hb dX12_sends_88 (by decide) ?_
      refine lv_irem hx hb dX12_sends_90 (by decide) ?_
      refine lv_topi (fun x18 e_x18 => ?_)
      replace hw := hw x18 e_x18
      clear e_x18
      refine lv_aload_n hx hb dX12_sends_91 rfl (lv_at hl 2 rfl) ?_
      refine va_get (D := (dC, dI)) (ci := 12) (v := .ref h_row) (C := RX12) (T := TX12) (N := 22) hx hb hts inX12 hown hK hP 0 rfl rfl 1 (by decide) (hts _ (List.mem_cons_of_mem _ mw_169)) (fun _ h9 => h9) rfl dX12_sends_92 ?_
      refine lv_bipush (v := 11) hx hb dX12_sends_95 (by decide) ?_
      refine xiald (k := 11) hx hb hK hP 1 0 rfl rfl (vpL 11 13385 rfl) (by decide) dX12_sends_97 ?_
      refine lv_icmp_ge (tgt := 102) hx hb dX12_sends_98 (by decide) (fun c20 => ?_) (fun c20 => ?_)
      · replace hw := hw.1 c20; clear c20
        refine lv_aload_n hx hb dX12_sends_102 rfl (lv_at hl 2 rfl) ?_
        refine va_get (D := (dC, dI)) (ci := 12) (v := .ref h_row) (C := RX12) (T := TX12) (N := 22) hx hb hts inX12 hown hK hP 0 rfl rfl 1 (by decide) (hts _ (List.mem_cons_of_mem _ mw_169)) (fun _ h9 => h9) rfl dX12_sends_103 ?_
        refine lv_bipush (v := 44) hx hb dX12_sends_106 (by decide) ?_
        refine lv_dup2_11 hx hb dX12_sends_108 rfl rfl ?_
        refine xiald (k := 44) hx hb hK hP 1 0 rfl rfl (vpL 44 13385 rfl) (by decide) dX12_sends_109 ?_
        refine lv_iconst (v := 1) hx hb dX12_sends_110 (by decide) ?_
        refine lv_iadd hx hb dX12_sends_111 ?_
        refine xiast (k := 44) hx hb hK hP hD hS 1 0 rfl rfl (vpL 44 13385 rfl) (by decide) dX12_sends_112 ?_; clear hP hD hS; clear H locs; intro f23 e_f23 H locs hP hD hS
        replace hw := hw f23 e_f23
        clear e_f23
        replace hP : va_P (dC, dI) vwCl (w_X12_sends h0 h_row h_kept h_isKept h_aside h_eight h_rows h_scales h_dealt h_bytes h_heardRow h_made h_comes h_backs h_fresh cy c_thrown c_nodeS c_nodeD c_pairE c_pairO c_bit c_lag c_lagSum f23 c_bytes) H := hP
        replace hD : va_D A (w_X12_sends h0 h_row h_kept h_isKept h_aside h_eight h_rows h_scales h_dealt h_bytes h_heardRow h_made h_comes h_backs h_fresh cy c_thrown c_nodeS c_nodeD c_pairE c_pairO c_bit c_lag c_lagSum f23 c_bytes) := hD
        refine lv_aload_n hx hb dX12_sends_113 rfl (lv_at hl 2 rfl) ?_
        refine va_get (D := (dC, dI)) (ci := 12) (v := .ref h_row) (C := RX12) (T := TX12) (N := 22) hx hb hts inX12 hown hK hP 0 rfl rfl 1 (by decide) (hts _ (List.mem_cons_of_mem _ mw_169)) (fun _ h9 => h9) rfl dX12_sends_114 ?_
        refine lv_iload_n hx hb dX12_sends_117 rfl (lv_at hl 1 rfl) ?_
        refine lv_iconst (v := 3) hx hb dX12_sends_118 (by decide) ?_
        refine lv_iadd hx hb dX12_sends_119 ?_
        obtain ⟨h24, hw⟩ := hw
        refine xiald (k := (r3 + (3 : Int32)).toNatClampNeg) hx hb hK hP 1 0 rfl rfl h24 rfl dX12_sends_120 ?_
        refine lv_aload_n hx hb dX12_sends_121 rfl (lv_at hl 2 rfl) ?_
        refine va_get (D := (dC, dI)) (ci := 12) (v := .ref h_row) (C := RX12) (T := TX12) (N := 22) hx hb hts inX12 hown hK hP 0 rfl rfl 1 (by decide) (hts _ (List.mem_cons_of_mem _ mw_169)) (fun _ h9 => h9) rfl dX12_sends_122 ?_
        refine lv_iload_n hx hb dX12_sends_125 rfl (lv_at hl 1 rfl) ?_
        refine lv_iconst (v := 2) hx hb dX12_sends_126 (by decide) ?_
        refine lv_iadd hx hb dX12_sends_127 ?_
        obtain ⟨h25, hw⟩ := hw
        refine xiald (k := (r3 + (2 : Int32)).toNatClampNeg) hx hb hK hP 1 0 rfl rfl h25 rfl dX12_sends_128 ?_
        refine lv_imul hx hb dX12_sends_129 ?_
        refine lv_topi (fun x26 e_x26 => ?_)
        replace hw := hw x26 e_x26
        clear e_x26
        refine lv_istore_n (lv' := [(3, .int x26), (2, .int x5), (1, .int r3), (0, .ref h0)]) hx hb dX12_sends_130 rfl hl (by decide) rfl ?_; clear hl; clear ls; intro ls hl
        refine lv_aload_n hx hb dX12_sends_131 rfl (lv_at hl 3 rfl) ?_
        refine va_get (D := (dC, dI)) (ci := 12) (v := .ref h_row) (C := RX12) (T := TX12) (N := 22) hx hb hts inX12 hown hK hP 0 rfl rfl 1 (by decide) (hts _ (List.mem_cons_of_mem _ mw_169)) (fun _ h9 => h9) rfl dX12_sends_132 ?_
        refine lv_iload_n hx hb dX12_sends_135 rfl (lv_at hl 2 rfl) ?_
        refine lv_iconst (v := 1) hx hb dX12_sends_136 (by decide) ?_
        refine lv_iadd hx hb dX12_sends_137 ?_
        obtain ⟨h27, hw⟩ := hw
        refine xiald (k := (r3 + (1 : Int32)).toNatClampNeg) hx hb hK hP 1 0 rfl rfl h27 rfl dX12_sends_138 ?_
        refine lv_iload_n hx hb dX12_sends_139 rfl (lv_at hl 0 rfl) ?_
        refine lv_isub hx hb dX12_sends_140 ?_
        refine lv_topi (fun x28 e_x28 => ?_)
        replace hw := hw x28 e_x28
        clear e_x28
        refine lv_istore (lv' := [(4, .int x28), (3, .int x26), (2, .int x5), (1, .int r3), (0, .ref h0)]) hx hb dX12_sends_141 hl (by decide) rfl ?_; clear hl; clear ls; intro ls hl
        refine lv_aload_n hx hb dX12_sends_143 rfl (lv_at hl 4 rfl) ?_
        refine lv_iload_n hx hb dX12_sends_144 rfl (lv_at hl 3 rfl) ?_
        refine lv_iload_n hx hb dX12_sends_145 rfl (lv_at hl 1 rfl) ?_
        refine lv_iload hx hb dX12_sends_146 (lv_at hl 0 rfl) ?_
        refine lv_aload_n hx hb dX12_sends_148 rfl (lv_at hl 4 rfl) ?_
        refine va_get (D := (dC, dI)) (ci := 12) (v := .ref h_row) (C := RX12) (T := TX12) (N := 22) hx hb hts inX12 hown hK hP 0 rfl rfl 1 (by decide) (hts _ (List.mem_cons_of_mem _ mw_169)) (fun _ h9 => h9) rfl dX12_sends_149 ?_
        refine lv_iload_n hx hb dX12_sends_152 rfl (lv_at hl 3 rfl) ?_
        refine lv_iconst (v := 2) hx hb dX12_sends_153 (by decide) ?_
        refine lv_iadd hx hb dX12_sends_154 ?_
        obtain ⟨h29, hw⟩ := hw
        refine xiald (k := (r3 + (2 : Int32)).toNatClampNeg) hx hb hK hP 1 0 rfl rfl h29 rfl dX12_sends_155 ?_
        refine jn1 (Gg := fun (x30 : Int32) => ∀ (H : Heap) (locs : List Loc) (ls : Array Slot), va_P (dC, dI) vwCl (w_X12_sends h0 h_row h_kept h_isKept h_aside h_eight h_rows h_scales h_dealt h_bytes h_heardRow h_made h_comes h_backs h_fresh cy c_thrown c_nodeS c_nodeD c_pairE c_pairO c_bit c_lag c_lagSum f23 c_bytes) H → va_D A (w_X12_sends h0 h_row h_kept h_isKept h_aside h_eight h_rows h_scales h_dealt h_bytes h_heardRow h_made h_comes h_backs h_fresh cy c_thrown c_nodeS c_nodeD c_pairE c_pairO c_bit c_lag c_lagSum f23 c_bytes) → va_S A s.heap H locs → lv_has ls 5 [(0, .ref h0), (1, .int r3), (2, .int x5)] → W p l e { frames := 3, cells := 0, slots := 0, locals := 65 } s m av below meth c H locs 0 0 Q0 (F0 m 172 ls [.int x30, .int x26, .int r3, .ref h0])) hw ?_ ?_ <;> clear hw
        · clear hP hD hS hl; clear H locs ls; intro x30 hw H locs ls hP hD hS hl
          have hPc := pSub (ws' := (w_X12_damages h0 h_row h_kept h_isKept h_aside h_eight h_rows h_scales h_dealt h_bytes h_heardRow h_made h_comes h_backs h_fresh cy c_thrown c_nodeS c_nodeD c_pairE c_pairO c_bit c_lag c_lagSum f23)) hP [0, 1] rfl
          have hDc := dSub (ws' := (w_X12_damages h0 h_row h_kept h_isKept h_aside h_eight h_rows h_scales h_dealt h_bytes h_heardRow h_made h_comes h_backs h_fresh cy c_thrown c_nodeS c_nodeD c_pairE c_pairO c_bit c_lag c_lagSum f23)) hD [0, 1] (by decide) rfl
          have hFc := va_free (wc := (w_X12_damages h0 h_row h_kept h_isKept h_aside h_eight h_rows h_scales h_dealt h_bytes h_heardRow h_made h_comes h_backs h_fresh cy c_thrown c_nodeS c_nodeD c_pairE c_pairO c_bit c_lag c_lagSum f23)) hD hS hA [0, 1] rfl
          refine va_callv (va_runV (As := [.int r3, .int x26, .int x30]) (rest := []) ⟨hx, hb, hml, hown, hts⟩ (c_X12_damages l dC dI cy h0 h_row h_kept h_isKept h_aside h_eight h_rows h_scales h_dealt h_bytes h_heardRow h_made h_comes h_backs h_fresh H.size r3 x26 x30 c_thrown c_nodeS c_nodeD c_pairE c_pairO c_bit c_lag c_lagSum f23 _ hw) (cwV 3 hts (goodV mw_711 mw_708 mw_709 mw_710 mw_5) rfl rfl rfl (by decide +kernel) ⟨Nat.le_of_ble_eq_true rfl, Nat.le_of_ble_eq_true rfl⟩) ⟨PX_blind, va_recv hK hPc (ci := 12) (q0 := 0) rfl rfl, PX_pre hPc hK hDc hG⟩ rfl rfl hl.1 rfl (lv_room (Nat.le_of_ble_eq_true rfl)) dX12_sends_172 ⟨Nat.zero_le _, Nat.zero_le _⟩) hS (fun q _ h => hFc q h) hFc ?_; clear hw hS; intro f33 t H1 locs1 ht hvm hw hB hz1 hk1 hS
          obtain ⟨hP1, -, -⟩ := hB
          rw [ht] at hP1
          replace hP := jC0 hP hD [0, 1] [2] rfl hk1 hP1 (w_X12_sends h0 h_row h_kept h_isKept h_aside h_eight h_rows h_scales h_dealt h_bytes h_heardRow h_made h_comes h_backs h_fresh cy c_thrown c_nodeS c_nodeD c_pairE c_pairO c_bit c_lag c_lagSum f33 c_bytes) rfl rfl rfl 3 rfl (by decide +kernel); clear hD; obtain ⟨hP, hD⟩ := hP
          replace hP : va_P (dC, dI) vwCl (w_X12_sends h0 h_row h_kept h_isKept h_aside h_eight h_rows h_scales h_dealt h_bytes h_heardRow h_made h_comes h_backs h_fresh cy c_thrown c_nodeS c_nodeD c_pairE c_pairO c_bit c_lag c_lagSum f33 c_bytes) H1 := hP
          replace hD : va_D A (w_X12_sends h0 h_row h_kept h_isKept h_aside h_eight h_rows h_scales h_dealt h_bytes h_heardRow h_made h_comes h_backs h_fresh cy c_thrown c_nodeS c_nodeD c_pairE c_pairO c_bit c_lag c_lagSum f33 c_bytes) := hD
          clear hPc hDc hFc hP1 hk1 hz1 hvm ht; clear t; clear H locs; obtain ⟨H, hH⟩ : ∃ H, H = H1 := ⟨_, rfl⟩; obtain ⟨locs, hlo⟩ : ∃ L, L = locs1 := ⟨_, rfl⟩; subst hH; subst hlo
          refine W.widen (k := 0) (n := 0) (Nat.le_refl 0) (Nat.le_refl 0) ?_
          refine lv_aload_n hx hb dX12_sends_175 rfl (lv_at hl 0 rfl) ?_
          refine va_get (D := (dC, dI)) (ci := 12) (v := .ref h_row) (C := RX12) (T := TX12) (N := 22) hx hb hts inX12 hown hK hP 0 rfl rfl 1 (by decide) (hts _ (List.mem_cons_of_mem _ mw_169)) (fun _ h9 => h9) rfl dX12_sends_176 ?_
          refine lv_iload_n hx hb dX12_sends_179 rfl (lv_at hl 1 rfl) ?_
          refine lv_iconst (v := 3) hx hb dX12_sends_180 (by decide) ?_
          refine lv_iadd hx hb dX12_sends_181 ?_
          refine lv_topi (fun x34 e_x34 => ?_)
          replace hw := hw x34 e_x34
          clear e_x34
          refine lv_dup2_11 hx hb dX12_sends_182 rfl rfl ?_
          obtain ⟨h35, hw⟩ := hw
          refine xiald (k := x34.toNatClampNeg) hx hb hK hP 1 0 rfl rfl h35 rfl dX12_sends_183 ?_
          refine lv_iconst (v := 1) hx hb dX12_sends_184 (by decide) ?_
          refine lv_iadd hx hb dX12_sends_185 ?_
          obtain ⟨h36, hw⟩ := hw
          refine xiast (k := x34.toNatClampNeg) hx hb hK hP hD hS 1 0 rfl rfl h36 rfl dX12_sends_186 ?_; clear hP hD hS; clear H locs; intro f37 e_f37 H locs hP hD hS
          replace hw := hw f37 e_f37
          clear e_f37
          replace hP : va_P (dC, dI) vwCl (w_X12_sends h0 h_row h_kept h_isKept h_aside h_eight h_rows h_scales h_dealt h_bytes h_heardRow h_made h_comes h_backs h_fresh cy c_thrown c_nodeS c_nodeD c_pairE c_pairO c_bit c_lag c_lagSum f37 c_bytes) H := hP
          replace hD : va_D A (w_X12_sends h0 h_row h_kept h_isKept h_aside h_eight h_rows h_scales h_dealt h_bytes h_heardRow h_made h_comes h_backs h_fresh cy c_thrown c_nodeS c_nodeD c_pairE c_pairO c_bit c_lag c_lagSum f37 c_bytes) := hD
          refine lv_aload_n hx hb dX12_sends_187 rfl (lv_at hl 0 rfl) ?_
          refine va_get (D := (dC, dI)) (ci := 12) (v := .ref h_row) (C := RX12) (T := TX12) (N := 22) hx hb hts inX12 hown hK hP 0 rfl rfl 1 (by decide) (hts _ (List.mem_cons_of_mem _ mw_169)) (fun _ h9 => h9) rfl dX12_sends_188 ?_
          refine lv_iload_n hx hb dX12_sends_191 rfl (lv_at hl 1 rfl) ?_
          refine lv_iconst (v := 3) hx hb dX12_sends_192 (by decide) ?_
          refine lv_iadd hx hb dX12_sends_193 ?_
          obtain ⟨h38, hw⟩ := hw
          refine xiald (k := (r3 + (3 : Int32)).toNatClampNeg) hx hb hK hP 1 0 rfl rfl h38 rfl dX12_sends_194 ?_
          refine lv_aload_n hx hb dX12_sends_195 rfl (lv_at hl 0 rfl) ?_
          refine va_get (D := (dC, dI)) (ci := 12) (v := .ref h_row) (C := RX12) (T := TX12) (N := 22) hx hb hts inX12 hown hK hP 0 rfl rfl 1 (by decide) (hts _ (List.mem_cons_of_mem _ mw_169)) (fun _ h9 => h9) rfl dX12_sends_196 ?_
          refine lv_iload_n hx hb dX12_sends_199 rfl (lv_at hl 1 rfl) ?_
          refine lv_iconst (v := 1) hx hb dX12_sends_200 (by decide) ?_
          refine lv_iadd hx hb dX12_sends_201 ?_
          obtain ⟨h39, hw⟩ := hw
          refine xiald (k := (r3 + (1 : Int32)).toNatClampNeg) hx hb hK hP 1 0 rfl rfl h39 rfl dX12_sends_202 ?_
          refine lv_aload_n hx hb dX12_sends_203 rfl (lv_at hl 0 rfl) ?_
          refine va_get (D := (dC, dI)) (ci := 12) (v := .ref h_row) (C := RX12) (T := TX12) (N := 22) hx hb hts inX12 hown hK hP 0 rfl rfl 1 (by decide) (hts _ (List.mem_cons_of_mem _ mw_169)) (fun _ h9 => h9) rfl dX12_sends_204 ?_
          refine lv_iload_n hx hb dX12_sends_207 rfl (lv_at hl 1 rfl) ?_
          refine lv_iconst (v := 2) hx hb dX12_sends_208 (by decide) ?_
          refine lv_iadd hx hb dX12_sends_209 ?_
          obtain ⟨h40, hw⟩ := hw
          refine xiald (k := (r3 + (2 : Int32)).toNatClampNeg) hx hb hK hP 1 0 rfl rfl h40 rfl dX12_sends_210 ?_
          have hPc := pSub (ws' := (w_X12_piecesOf cy)) hP [] rfl
          have hDc := dSub (ws' := (w_X12_piecesOf cy)) hD [] (by decide) rfl
          have hFc := va_free (wc := (w_X12_piecesOf cy)) hD hS hA [] rfl
          refine va_calli (va_runS (As := [.int (f37 (r3 + (1 : Int32)).toNatClampNeg), .int (f37 (r3 + (2 : Int32)).toNatClampNeg)]) (rest := [.int (f37 (r3 + (3 : Int32)).toNatClampNeg)]) ⟨hx, hb, hml, hown, hts⟩ (c_X12_piecesOf l dC dI cy  H.size (f37 (r3 + (1 : Int32)).toNatClampNeg) (f37 (r3 + (2 : Int32)).toNatClampNeg) _ hw) (va_cwS 2 hts (goodS mw_714 mw_712 mw_713 mw_5) rfl rfl rfl (by decide +kernel) ⟨Nat.le_of_ble_eq_true rfl, Nat.le_of_ble_eq_true rfl⟩) ⟨PX_blind, PX_pre hPc hK hDc hG⟩ rfl rfl hl.1 rfl (lv_room (Nat.le_of_ble_eq_true rfl)) dX12_sends_211 ⟨Nat.zero_le _, Nat.zero_le _⟩) hS (fun q _ h => hFc q h) hFc ?_; clear hw hS; intro r41 _ t H1 locs1 ht hvm hw hB hz1 hk1 hS
          obtain ⟨hP1, -, -⟩ := hB
          rw [ht] at hP1
          replace hP := jC0 hP hD [] [0, 1, 2] rfl hk1 hP1 (w_X12_sends h0 h_row h_kept h_isKept h_aside h_eight h_rows h_scales h_dealt h_bytes h_heardRow h_made h_comes h_backs h_fresh cy c_thrown c_nodeS c_nodeD c_pairE c_pairO c_bit c_lag c_lagSum f37 c_bytes) rfl rfl rfl 3 rfl (by decide +kernel); clear hD; obtain ⟨hP, hD⟩ := hP
          replace hP : va_P (dC, dI) vwCl (w_X12_sends h0 h_row h_kept h_isKept h_aside h_eight h_rows h_scales h_dealt h_bytes h_heardRow h_made h_comes h_backs h_fresh cy c_thrown c_nodeS c_nodeD c_pairE c_pairO c_bit c_lag c_lagSum f37 c_bytes) H1 := hP
          replace hD : va_D A (w_X12_sends h0 h_row h_kept h_isKept h_aside h_eight h_rows h_scales h_dealt h_bytes h_heardRow h_made h_comes h_backs h_fresh cy c_thrown c_nodeS c_nodeD c_pairE c_pairO c_bit c_lag c_lagSum f37 c_bytes) := hD
          clear hPc hDc hFc hP1 hk1 hz1 hvm ht; clear t; clear H locs; obtain ⟨H, hH⟩ : ∃ H, H = H1 := ⟨_, rfl⟩; obtain ⟨locs, hlo⟩ : ∃ L, L = locs1 := ⟨_, rfl⟩; subst hH; subst hlo
          refine W.widen (k := 0) (n := 0) (Nat.le_refl 0) (Nat.le_refl 0) ?_
          refine lv_icmp_ne (tgt := 223) hx hb dX12_sends_214 (by decide) (fun c42 => ?_) (fun c42 => ?_)
          · replace hw := hw.2 c42; clear c42
            subst hQe
            exact W.vret hx hb hr (fun t ht hW => ⟨⟨(f37, c_bytes), rfl, hw, by rw [ht]; exact hP, va_K.moved hW.alike hK, hD⟩, hS.F ht⟩) hS.2.2 dX12_sends_223
          · replace hw := hw.1 c42; clear c42
            refine lv_aload_n hx hb dX12_sends_217 rfl (lv_at hl 0 rfl) ?_
            refine lv_iload_n hx hb dX12_sends_218 rfl (lv_at hl 1 rfl) ?_
            refine lv_iload_n hx hb dX12_sends_219 rfl (lv_at hl 2 rfl) ?_
            have hPc := pSub (ws' := (w_X12_looks h0 h_row h_kept h_isKept h_aside h_eight h_rows h_scales h_dealt h_bytes h_heardRow h_made h_comes h_backs h_fresh cy c_thrown c_nodeS c_nodeD c_pairE c_pairO c_bit c_lag c_lagSum f37 c_bytes)) hP [0, 1, 2] rfl
            have hDc := dSub (ws' := (w_X12_looks h0 h_row h_kept h_isKept h_aside h_eight h_rows h_scales h_dealt h_bytes h_heardRow h_made h_comes h_backs h_fresh cy c_thrown c_nodeS c_nodeD c_pairE c_pairO c_bit c_lag c_lagSum f37 c_bytes)) hD [0, 1, 2] (by decide) rfl
            have hFc := va_free (wc := (w_X12_looks h0 h_row h_kept h_isKept h_aside h_eight h_rows h_scales h_dealt h_bytes h_heardRow h_made h_comes h_backs h_fresh cy c_thrown c_nodeS c_nodeD c_pairE c_pairO c_bit c_lag c_lagSum f37 c_bytes)) hD hS hA [0, 1, 2] rfl
            refine va_callv (va_runV (As := [.int r3, .int x5]) (rest := []) ⟨hx, hb, hml, hown, hts⟩ (c_X12_looks l dC dI cy h0 h_row h_kept h_isKept h_aside h_eight h_rows h_scales h_dealt h_bytes h_heardRow h_made h_comes h_backs h_fresh H.size r3 x5 c_thrown c_nodeS c_nodeD c_pairE c_pairO c_bit c_lag c_lagSum f37 c_bytes _ hw) (cwV 2 hts (goodV mw_718 mw_715 mw_716 mw_717 mw_5) rfl rfl rfl (by decide +kernel) ⟨Nat.le_of_ble_eq_true rfl, Nat.le_of_ble_eq_true rfl⟩) ⟨PX_blind, va_recv hK hPc (ci := 12) (q0 := 0) rfl rfl, PX_pre hPc hK hDc hG⟩ rfl rfl hl.1 rfl (lv_room (Nat.le_of_ble_eq_true rfl)) dX12_sends_220 ⟨Nat.zero_le _, Nat.zero_le _⟩) hS (fun q _ h => hFc q h) hFc ?_; clear hw hS; intro u t H1 locs1 ht hvm hw hB hz1 hk1 hS
            obtain ⟨f43, f44⟩ := u
            obtain ⟨hP1, -, -⟩ := hB
            rw [ht] at hP1
            replace hP := jC0 hP hD [0, 1, 2] [] rfl hk1 hP1 (w_X12_sends h0 h_row h_kept h_isKept h_aside h_eight h_rows h_scales h_dealt h_bytes h_heardRow h_made h_comes h_backs h_fresh cy c_thrown c_nodeS c_nodeD c_pairE c_pairO c_bit c_lag c_lagSum f43 f44) rfl rfl rfl 3 rfl (by decide +kernel); clear hD; obtain ⟨hP, hD⟩ := hP
            replace hP : va_P (dC, dI) vwCl (w_X12_sends h0 h_row h_kept h_isKept h_aside h_eight h_rows h_scales h_dealt h_bytes h_heardRow h_made h_comes h_backs h_fresh cy c_thrown c_nodeS c_nodeD c_pairE c_pairO c_bit c_lag c_lagSum f43 f44) H1 := hP
            replace hD : va_D A (w_X12_sends h0 h_row h_kept h_isKept h_aside h_eight h_rows h_scales h_dealt h_bytes h_heardRow h_made h_comes h_backs h_fresh cy c_thrown c_nodeS c_nodeD c_pairE c_pairO c_bit c_lag c_lagSum f43 f44) := hD
            clear hPc hDc hFc hP1 hk1 hz1 hvm ht; clear t; clear H locs; obtain ⟨H, hH⟩ : ∃ H, H = H1 := ⟨_, rfl⟩; obtain ⟨locs, hlo⟩ : ∃ L, L = locs1 := ⟨_, rfl⟩; subst hH; subst hlo
            refine W.widen (k := 0) (n := 0) (Nat.le_refl 0) (Nat.le_refl 0) ?_
            subst hQe
            exact W.vret hx hb hr (fun t ht hW => ⟨⟨(f43, f44), rfl, hw, by rw [ht]; exact hP, va_K.moved hW.alike hK, hD⟩, hS.F ht⟩) hS.2.2 dX12_sends_223
        · intro j32 hw
          refine lv_icmp_ge (tgt := 164) hx hb dX12_sends_156 (by decide) (fun c45 => ?_) (fun c45 => ?_)
          · replace hw := hw.1 c45; clear c45
            refine lv_aload_n hx hb dX12_sends_164 rfl (lv_at hl 4 rfl) ?_
            refine va_get (D := (dC, dI)) (ci := 12) (v := .ref h_row) (C := RX12) (T := TX12) (N := 22) hx hb hts inX12 hown hK hP 0 rfl rfl 1 (by decide) (hts _ (List.mem_cons_of_mem _ mw_169)) (fun _ h9 => h9) rfl dX12_sends_165 ?_
            refine lv_iload_n hx hb dX12_sends_168 rfl (lv_at hl 3 rfl) ?_
            refine lv_iconst (v := 2) hx hb dX12_sends_169 (by decide) ?_
            refine lv_iadd hx hb dX12_sends_170 ?_
            obtain ⟨h46, hw⟩ := hw
            refine xiald (k := (r3 + (2 : Int32)).toNatClampNeg) hx hb hK hP 1 0 rfl rfl h46 rfl dX12_sends_171 ?_
            exact j32 (f23 (r3 + (2 : Int32)).toNatClampNeg) hw H locs ls hP hD hS (lv_sub hl [4, 3, 2] rfl)
          · replace hw := hw.2 c45; clear c45
            refine lv_iload hx hb dX12_sends_159 (lv_at hl 0 rfl) ?_
            refine lv_goto (tgt := 172) hx hb dX12_sends_161 (by decide) ?_
            exact j32 x28 hw H locs ls hP hD hS (lv_sub hl [4, 3, 2] rfl)
      · replace hw := hw.2 c20; clear c20
        subst hQe
        exact W.vret hx hb hr (fun t ht hW => ⟨⟨(f16, c_bytes), rfl, hw, by rw [ht]; exact hP, va_K.moved hW.alike hK, hD⟩, hS.F ht⟩) hS.2.2 dX12_sends_101
    · replace hw := hw.2 c15; clear c15
      refine lv_aload_n hx hb dX12_sends_72 rfl (lv_at hl 2 rfl) ?_
      refine va_get (D := (dC, dI)) (ci := 12) (v := .ref h_row) (C := RX12) (T := TX12) (N := 22) hx hb hts inX12 hown hK hP 0 rfl rfl 1 (by decide) (hts _ (List.mem_cons_of_mem _ mw_169)) (fun _ h9 => h9) rfl dX12_sends_73 ?_
      refine lv_bipush (v := 48) hx hb dX12_sends_76 (by decide) ?_
      refine lv_dup2_11 hx hb dX12_sends_78 rfl rfl ?_
      refine xiald (k := 48) hx hb hK hP 1 0 rfl rfl (vpL 48 13385 rfl) (by decide) dX12_sends_79 ?_
      refine lv_iconst (v := 1) hx hb dX12_sends_80 (by decide) ?_
      refine lv_isub hx hb dX12_sends_81 ?_
      refine xiast (k := 48) hx hb hK hP hD hS 1 0 rfl rfl (vpL 48 13385 rfl) (by decide) dX12_sends_82 ?_; clear hP hD hS; clear H locs; intro f49 e_f49 H locs hP hD hS
      replace hw := hw f49 e_f49
      clear e_f49
      replace hP : va_P (dC, dI) vwCl (w_X12_sends h0 h_row h_kept h_isKept h_aside h_eight h_rows h_scales h_dealt h_bytes h_heardRow h_made h_comes h_backs h_fresh cy c_thrown c_nodeS c_nodeD c_pairE c_pairO c_bit c_lag c_lagSum f49 c_bytes) H := hP
      replace hD : va_D A (w_X12_sends h0 h_row h_kept h_isKept h_aside h_eight h_rows h_scales h_dealt h_bytes h_heardRow h_made h_comes h_backs h_fresh cy c_thrown c_nodeS c_nodeD c_pairE c_pairO c_bit c_lag c_lagSum f49 c_bytes) := hD
      subst hQe
      exact W.vret hx hb hr (fun t ht hW => ⟨⟨(f49, c_bytes), rfl, hw, by rw [ht]; exact hP, va_K.moved hW.alike hK, hD⟩, hS.F ht⟩) hS.2.2 dX12_sends_83
  · replace hw := hw.1 c2; clear c2
    refine lv_aload_n hx hb dX12_sends_10 rfl (lv_at hl 0 rfl) ?_
    refine va_get (D := (dC, dI)) (ci := 12) (v := .ref h_row) (C := RX12) (T := TX12) (N := 22) hx hb hts inX12 hown hK hP 0 rfl rfl 1 (by decide) (hts _ (List.mem_cons_of_mem _ mw_169)) (fun _ h9 => h9) rfl dX12_sends_11 ?_
    refine lv_bipush (v := 47) hx hb dX12_sends_14 (by decide) ?_
    refine lv_dup2_11 hx hb dX12_sends_16 rfl rfl ?_
    refine xiald (k := 47) hx hb hK hP 1 0 rfl rfl (vpL 47 13385 rfl) (by decide) dX12_sends_17 ?_
    refine lv_iconst (v := 1) hx hb dX12_sends_18 (by decide) ?_
    refine lv_iadd hx hb dX12_sends_19 ?_
    refine xiast (k := 47) hx hb hK hP hD hS 1 0 rfl rfl (vpL 47 13385 rfl) (by decide) dX12_sends_20 ?_; clear hP hD hS; clear H locs; intro f52 e_f52 H locs hP hD hS
    replace hw := hw f52 e_f52
    clear e_f52
    replace hP : va_P (dC, dI) vwCl (w_X12_sends h0 h_row h_kept h_isKept h_aside h_eight h_rows h_scales h_dealt h_bytes h_heardRow h_made h_comes h_backs h_fresh cy c_thrown c_nodeS c_nodeD c_pairE c_pairO c_bit c_lag c_lagSum f52 c_bytes) H := hP
    replace hD : va_D A (w_X12_sends h0 h_row h_kept h_isKept h_aside h_eight h_rows h_scales h_dealt h_bytes h_heardRow h_made h_comes h_backs h_fresh cy c_thrown c_nodeS c_nodeD c_pairE c_pairO c_bit c_lag c_lagSum f52 c_bytes) := hD
    subst hQe
    exact W.vret hx hb hr (fun t ht hW => ⟨⟨(f52, c_bytes), rfl, hw, by rw [ht]; exact hP, va_K.moved hW.alike hK, hD⟩, hS.F ht⟩) hS.2.2 dX12_sends_21
set_option maxHeartbeats 4000000 in
set_option maxRecDepth 100000 in
theorem c_X12_layHeard (l : Launch) (dC : Nat → ClassId) (dI : Nat → Nat → Nat) (cy : Nat → ClassId) (h0 h_row h_kept h_isKept h_aside h_eight h_rows h_scales h_dealt h_bytes h_heardRow h_made h_comes h_backs h_fresh : Nat) (sz : Nat) (v1 : Int32) (c_thrown : Int32) (c_nodeS : Int32) (c_nodeD : Int32) (c_pairE : Int32) (c_pairO : Int32) (c_bit : Int32) (c_lag : Int32) (c_lagSum : Int32) (c_row : Nat → Int32) (c_heardRow : Nat → Int32) (post : (Nat → Int32) → Prop) (hw : wp_X12_layHeard v1 c_row c_heardRow post) : Met l yX12_layHeard wsX12_layHeard ({ frames := 0, cells := 0, slots := 0, locals := 0 }) (PX dC dI cy [.ref h0, .int v1] sz (w_X12_layHeard h0 h_row h_kept h_isKept h_aside h_eight h_rows h_scales h_dealt h_bytes h_heardRow h_made h_comes h_backs h_fresh cy c_thrown c_nodeS c_nodeD c_pairE c_pairO c_bit c_lag c_lagSum c_row c_heardRow)) (va_Qv (fun (u : (Nat → Int32)) => post u) (QX dC dI cy (va_A (w_X12_layHeard h0 h_row h_kept h_isKept h_aside h_eight h_rows h_scales h_dealt h_bytes h_heardRow h_made h_comes h_backs h_fresh cy c_thrown c_nodeS c_nodeD c_pairE c_pairO c_bit c_lag c_lagSum c_row c_heardRow) sz) (fun (u : (Nat → Int32)) => w_X12_layHeard h0 h_row h_kept h_isKept h_aside h_eight h_rows h_scales h_dealt h_bytes h_heardRow h_made h_comes h_backs h_fresh cy c_thrown c_nodeS c_nodeD c_pairE c_pairO c_bit c_lag c_lagSum c_row u)) (va_A (w_X12_layHeard h0 h_row h_kept h_isKept h_aside h_eight h_rows h_scales h_dealt h_bytes h_heardRow h_made h_comes h_backs h_fresh cy c_thrown c_nodeS c_nodeD c_pairE c_pairO c_bit c_lag c_lagSum c_row c_heardRow) sz)) 0 0 (va_A (w_X12_layHeard h0 h_row h_kept h_isKept h_aside h_eight h_rows h_scales h_dealt h_bytes h_heardRow h_made h_comes h_backs h_fresh cy c_thrown c_nodeS c_nodeD c_pairE c_pairO c_bit c_lag c_lagSum c_row c_heardRow) sz) := by
  refine Met.ofW (cc := cX12_layHeard) (maxL := 3) (ret := none) (by decide) rfl ?_
  intro p e s m args below meth c s₁ B hml hv
  obtain ⟨rfl, hsz, hP, hK, hD0, hG⟩ := hv
  have hx := B.exec
  have hb := B.bytes
  have hr := B.returns
  have hts := atoms_spec (ws := wsX12_layHeard) B.pre
  have hown : s.vm.findClass RX12 = some m.cls := findClass_of_methodNamed B.named
  have hlocks := B.notSynchronized
  subst hsz
  have hD := hD0.self (sz := s.heap.size)
  generalize hAe : va_A (w_X12_layHeard h0 h_row h_kept h_isKept h_aside h_eight h_rows h_scales h_dealt h_bytes h_heardRow h_made h_comes h_backs h_fresh cy c_thrown c_nodeS c_nodeD c_pairE c_pairO c_bit c_lag c_lagSum c_row c_heardRow) s.heap.size = A at hD ⊢
  have hA : ∀ q : Nat, s.heap.size ≤ q → A q := fun q h => by rw [← hAe]; exact Or.inr h
  have hS : va_S A s.heap s.heap [] := va_S.rf
  have hl := lv_entry ([.ref h0, .int v1]) (n := 3) (Nat.le_of_ble_eq_true rfl)
  rw [lg_entry_eq]
  generalize (lg_sl ([.ref h0, .int v1]) ++ List.replicate (3 - (lg_sl ([.ref h0, .int v1])).length) Slot.unset).toArray = ls at hl ⊢
  replace hl : lv_has ls 3 [(0, .ref h0), (1, .int v1)] := hl
  have inX12 : ∀ w ∈ u_ws RX12 TX12 22, w ∈ wsX12_layHeard := fun w h => List.mem_cons_of_mem _ (inlX12 w h)
  clear hAe hD0 B
  unfold wp_X12_layHeard at hw
  generalize hQe : MQ below _ _ s _ _ _ = Q0
  generalize ([.ref h0, .int v1] : List Value).toArray = av at *
  obtain ⟨H, hH⟩ : ∃ H, H = s.heap := ⟨_, rfl⟩
  obtain ⟨locs, hlo⟩ : ∃ L : List Loc, L = [] := ⟨_, rfl⟩
  replace hP : va_P (dC, dI) vwCl (w_X12_layHeard h0 h_row h_kept h_isKept h_aside h_eight h_rows h_scales h_dealt h_bytes h_heardRow h_made h_comes h_backs h_fresh cy c_thrown c_nodeS c_nodeD c_pairE c_pairO c_bit c_lag c_lagSum c_row c_heardRow) H := by rw [hH]; exact hP
  replace hS : va_S A s.heap H locs := by rw [hH, hlo]; exact hS
  suffices hgo : W p l e ({ frames := 0, cells := 0, slots := 0, locals := 0 }) s m av below meth c H locs 0 0 Q0 (F0 m 0 ls []) by rw [hH, hlo] at hgo; exact hgo
  clear hH hlo
  refine lv_iconst (v := 0) hx hb dX12_layHeard_0 (by decide) ?_
  refine lv_istore_n (lv' := [(2, .int (0 : Int32)), (0, .ref h0), (1, .int v1)]) hx hb dX12_layHeard_1 rfl hl (by decide) rfl ?_; clear hl; clear ls; intro ls hl
  obtain ⟨x1, e_x1⟩ : ∃ y : Int32, y = (0 : Int32) := ⟨_, rfl⟩
  replace hw := hw x1 e_x1
  replace hl : lv_has ls 3 [(2, .int x1), (0, .ref h0), (1, .int v1)] := by rw [e_x1]; exact hl
  clear e_x1
  replace hl := lv_sub (l' := [(2, .int x1), (0, .ref h0), (1, .int v1)]) hl [0, 1, 2] rfl
  revert hl; revert hS; revert hD; revert hP; revert ls; revert locs; revert H
  revert hw; revert c_heardRow; revert x1
  refine Lz2_gr ?_; intro g2 ih3 x4 f5 hw
  intro H locs ls hP hD hS hl
  refine lv_iload_n hx hb dX12_layHeard_2 rfl (lv_at hl 0 rfl) ?_
  refine lv_sipush (v := 192) hx hb dX12_layHeard_3 (by decide) ?_
  refine lv_icmp_ge (tgt := 36) hx hb dX12_layHeard_6 (by decide) (fun c6 => ?_) (fun c6 => ?_)
  · replace hw := hw.1 c6; clear c6
    clear ih3
    subst hQe
    exact W.vret hx hb hr (fun t ht hW => ⟨⟨f5, rfl, hw, by rw [ht]; exact hP, va_K.moved hW.alike hK, hD⟩, hS.F ht⟩) hS.2.2 dX12_layHeard_36
  · replace hw := hw.2 c6; clear c6
    refine lv_aload_n hx hb dX12_layHeard_9 rfl (lv_at hl 1 rfl) ?_
    refine va_get (D := (dC, dI)) (ci := 12) (v := .ref h_heardRow) (C := RX12) (T := TX12) (N := 22) hx hb hts inX12 hown hK hP 0 rfl rfl 15 (by decide) (hts _ (List.mem_cons_of_mem _ mw_179)) (fun _ h9 => h9) rfl dX12_layHeard_10 ?_
    refine lv_iload_n hx hb dX12_layHeard_13 rfl (lv_at hl 0 rfl) ?_
    refine lv_aload_n hx hb dX12_layHeard_14 rfl (lv_at hl 1 rfl) ?_
    refine va_get (D := (dC, dI)) (ci := 12) (v := .ref h_row) (C := RX12) (T := TX12) (N := 22) hx hb hts inX12 hown hK hP 0 rfl rfl 1 (by decide) (hts _ (List.mem_cons_of_mem _ mw_169)) (fun _ h9 => h9) rfl dX12_layHeard_15 ?_
    refine lv_bipush (v := 109) hx hb dX12_layHeard_18 (by decide) ?_
    refine lv_sipush (v := 192) hx hb dX12_layHeard_20 (by decide) ?_
    refine lv_iload_n hx hb dX12_layHeard_23 rfl (lv_at hl 2 rfl) ?_
    refine lv_imul hx hb dX12_layHeard_24 ?_
    refine lv_iadd hx hb dX12_layHeard_25 ?_
    refine lv_iload_n hx hb dX12_layHeard_26 rfl (lv_at hl 0 rfl) ?_
    refine lv_iadd hx hb dX12_layHeard_27 ?_
    obtain ⟨h7, hw⟩ := hw
    refine xiald (k := (((109 : Int32) + ((192 : Int32) * v1)) + x4).toNatClampNeg) hx hb hK hP 1 0 rfl rfl h7 rfl dX12_layHeard_28 ?_
    obtain ⟨h8, hw⟩ := hw
    refine xiast (k := x4.toNatClampNeg) hx hb hK hP hD hS 2 0 rfl rfl h8 rfl dX12_layHeard_29 ?_; clear hP hD hS; clear H locs; intro f9 e_f9 H locs hP hD hS
    replace hw := hw f9 e_f9
    clear e_f9
    replace hP : va_P (dC, dI) vwCl (w_X12_layHeard h0 h_row h_kept h_isKept h_aside h_eight h_rows h_scales h_dealt h_bytes h_heardRow h_made h_comes h_backs h_fresh cy c_thrown c_nodeS c_nodeD c_pairE c_pairO c_bit c_lag c_lagSum c_row f9) H := hP
    replace hD : va_D A (w_X12_layHeard h0 h_row h_kept h_isKept h_aside h_eight h_rows h_scales h_dealt h_bytes h_heardRow h_made h_comes h_backs h_fresh cy c_thrown c_nodeS c_nodeD c_pairE c_pairO c_bit c_lag c_lagSum c_row f9) := hD
    refine lv_iinc (v := x4 + 1) (lv' := [(2, .int (x4 + 1)), (0, .ref h0), (1, .int v1)]) hx hb dX12_layHeard_30 hl (k := 0) rfl rfl (by decide) rfl ?_; clear hl; clear ls; intro ls hl
    refine lv_goto (tgt := 2) hx hb dX12_layHeard_33 (by decide) ?_
    exact ih3 (x4 + 1) f9 hw H locs ls hP hD hS (lv_sub hl [0, 1, 2] rfl)
set_option maxHeartbeats 4000000 in
set_option maxRecDepth 100000 in
theorem c_X12_findLag (l : Launch) (dC : Nat → ClassId) (dI : Nat → Nat → Nat) (cy : Nat → ClassId) (h0 h_row h_kept h_isKept h_aside h_eight h_rows h_scales h_dealt h_bytes h_heardRow h_made h_comes h_backs h_fresh : Nat) (sz : Nat) (c_thrown : Int32) (c_nodeS : Int32) (c_nodeD : Int32) (c_pairE : Int32) (c_pairO : Int32) (c_bit : Int32) (c_lag : Int32) (c_lagSum : Int32) (c_heardRow : Nat → Int32) (post : Int32 → Int32 → Prop) (hw : wp_X12_findLag c_lag c_lagSum c_heardRow post) : Met l yX12_findLag wsX12_findLag ({ frames := 1, cells := 0, slots := 0, locals := 20 }) (PX dC dI cy [.ref h0] sz (w_X12_findLag h0 h_row h_kept h_isKept h_aside h_eight h_rows h_scales h_dealt h_bytes h_heardRow h_made h_comes h_backs h_fresh cy c_thrown c_nodeS c_nodeD c_pairE c_pairO c_bit c_lag c_lagSum c_heardRow)) (va_Qv (fun (u : Int32 × Int32) => post u.1 u.2) (QX dC dI cy (va_A (w_X12_findLag h0 h_row h_kept h_isKept h_aside h_eight h_rows h_scales h_dealt h_bytes h_heardRow h_made h_comes h_backs h_fresh cy c_thrown c_nodeS c_nodeD c_pairE c_pairO c_bit c_lag c_lagSum c_heardRow) sz) (fun (u : Int32 × Int32) => w_X12_findLag h0 h_row h_kept h_isKept h_aside h_eight h_rows h_scales h_dealt h_bytes h_heardRow h_made h_comes h_backs h_fresh cy c_thrown c_nodeS c_nodeD c_pairE c_pairO c_bit u.1 u.2 c_heardRow)) (va_A (w_X12_findLag h0 h_row h_kept h_isKept h_aside h_eight h_rows h_scales h_dealt h_bytes h_heardRow h_made h_comes h_backs h_fresh cy c_thrown c_nodeS c_nodeD c_pairE c_pairO c_bit c_lag c_lagSum c_heardRow) sz)) 0 0 (va_A (w_X12_findLag h0 h_row h_kept h_isKept h_aside h_eight h_rows h_scales h_dealt h_bytes h_heardRow h_made h_comes h_backs h_fresh cy c_thrown c_nodeS c_nodeD c_pairE c_pairO c_bit c_lag c_lagSum c_heardRow) sz) := by
  refine Met.ofW (cc := cX12_findLag) (maxL := 4) (ret := none) (by decide) rfl ?_
  intro p e s m args below meth c s₁ B hml hv
  obtain ⟨rfl, hsz, hP, hK, hD0, hG⟩ := hv
  have hx := B.exec
  have hb := B.bytes
  have hr := B.returns
  have hts := atoms_spec (ws := wsX12_findLag) B.pre
  have hown : s.vm.findClass RX12 = some m.cls := findClass_of_methodNamed B.named
  have hlocks := B.notSynchronized
  subst hsz
  have hD := hD0.self (sz := s.heap.size)
  generalize hAe : va_A (w_X12_findLag h0 h_row h_kept h_isKept h_aside h_eight h_rows h_scales h_dealt h_bytes h_heardRow h_made h_comes h_backs h_fresh cy c_thrown c_nodeS c_nodeD c_pairE c_pairO c_bit c_lag c_lagSum c_heardRow) s.heap.size = A at hD ⊢
  have hA : ∀ q : Nat, s.heap.size ≤ q → A q := fun q h => by rw [← hAe]; exact Or.inr h
  have hS : va_S A s.heap s.heap [] := va_S.rf
  have hl := lv_entry ([.ref h0]) (n := 4) (Nat.le_of_ble_eq_true rfl)
  rw [lg_entry_eq]
  generalize (lg_sl ([.ref h0]) ++ List.replicate (4 - (lg_sl ([.ref h0])).length) Slot.unset).toArray = ls at hl ⊢
  replace hl : lv_has ls 4 [(0, .ref h0)] := hl
  have inX12 : ∀ w ∈ u_ws RX12 TX12 22, w ∈ wsX12_findLag := fun w h => List.mem_cons_of_mem _ (inlX12 w h)
  clear hAe hD0 B
  unfold wp_X12_findLag at hw
  generalize hQe : MQ below _ _ s _ _ _ = Q0
  generalize ([.ref h0] : List Value).toArray = av at *
  obtain ⟨H, hH⟩ : ∃ H, H = s.heap := ⟨_, rfl⟩
  obtain ⟨locs, hlo⟩ : ∃ L : List Loc, L = [] := ⟨_, rfl⟩
  replace hP : va_P (dC, dI) vwCl (w_X12_findLag h0 h_row h_kept h_isKept h_aside h_eight h_rows h_scales h_dealt h_bytes h_heardRow h_made h_comes h_backs h_fresh cy c_thrown c_nodeS c_nodeD c_pairE c_pairO c_bit c_lag c_lagSum c_heardRow) H := by rw [hH]; exact hP
  replace hS : va_S A s.heap H locs := by rw [hH, hlo]; exact hS
  suffices hgo : W p l e ({ frames := 1, cells := 0, slots := 0, locals := 20 }) s m av below meth c H locs 0 0 Q0 (F0 m 0 ls []) by rw [hH, hlo] at hgo; exact hgo
  clear hH hlo
  refine lv_aload_n hx hb dX12_findLag_0 rfl (lv_at hl 0 rfl) ?_
  refine lv_iconst (v := 0) hx hb dX12_findLag_1 (by decide) ?_
  refine va_put (D := (dC, dI)) (ci := 12) (v := .int (0 : Int32)) (ty := .int) (C := RX12) (T := TX12) (N := 22) hx hb hts inX12 tyX12 tyX12_ok nmX12 hown hK hP hD hS 0 rfl rfl 16 (by decide) (hts _ (List.mem_cons_of_mem _ mw_745)) (fun _ h9 => h9) rfl (by decide +kernel) rfl rfl (Nat.le_of_ble_eq_true rfl) dX12_findLag_2 ?_; clear hP hD hS; clear H locs; intro H locs hP hD hS
  replace hP : va_P (dC, dI) vwCl (w_X12_findLag h0 h_row h_kept h_isKept h_aside h_eight h_rows h_scales h_dealt h_bytes h_heardRow h_made h_comes h_backs h_fresh cy c_thrown c_nodeS c_nodeD c_pairE c_pairO c_bit (0 : Int32) c_lagSum c_heardRow) H := hP
  replace hD : va_D A (w_X12_findLag h0 h_row h_kept h_isKept h_aside h_eight h_rows h_scales h_dealt h_bytes h_heardRow h_made h_comes h_backs h_fresh cy c_thrown c_nodeS c_nodeD c_pairE c_pairO c_bit (0 : Int32) c_lagSum c_heardRow) := hD
  refine lv_bipush (v := 16) hx hb dX12_findLag_5 (by decide) ?_
  refine lv_istore_n (lv' := [(1, .int (16 : Int32)), (0, .ref h0)]) hx hb dX12_findLag_7 rfl hl (by decide) rfl ?_; clear hl; clear ls; intro ls hl
  obtain ⟨x1, e_x1⟩ : ∃ y : Int32, y = (16 : Int32) := ⟨_, rfl⟩
  replace hw := hw x1 e_x1
  replace hl : lv_has ls 4 [(1, .int x1), (0, .ref h0)] := by rw [e_x1]; exact hl
  clear e_x1
  obtain ⟨x2, e_x2⟩ : ∃ y : Int32, y = (0 : Int32) := ⟨_, rfl⟩
  replace hw := hw x2 e_x2
  replace hP : va_P (dC, dI) vwCl (w_X12_findLag h0 h_row h_kept h_isKept h_aside h_eight h_rows h_scales h_dealt h_bytes h_heardRow h_made h_comes h_backs h_fresh cy c_thrown c_nodeS c_nodeD c_pairE c_pairO c_bit x2 c_lagSum c_heardRow) H ∧ va_D A (w_X12_findLag h0 h_row h_kept h_isKept h_aside h_eight h_rows h_scales h_dealt h_bytes h_heardRow h_made h_comes h_backs h_fresh cy c_thrown c_nodeS c_nodeD c_pairE c_pairO c_bit x2 c_lagSum c_heardRow) := (by rw [e_x2]; exact ⟨hP, hD⟩); clear hD; obtain ⟨hP, hD⟩ := hP
  clear e_x2
  replace hl := lv_sub (l' := [(1, .int x1), (0, .ref h0)]) hl [0, 1] rfl
  revert hl; revert hS; revert hD; revert hP; revert ls; revert locs; revert H
  revert hw; revert c_lagSum; revert x2; revert x1
  refine Lz3_gr ?_; intro g3 ih4 x5 x6 x7 hw
  intro H locs ls hP hD hS hl
  refine lv_iload_n hx hb dX12_findLag_8 rfl (lv_at hl 0 rfl) ?_
  refine lv_bipush (v := 120) hx hb dX12_findLag_9 (by decide) ?_
  refine lv_icmp_gt (tgt := 85) hx hb dX12_findLag_11 (by decide) (fun c8 => ?_) (fun c8 => ?_)
  · replace hw := hw.1 c8; clear c8
    clear ih4
    subst hQe
    exact W.vret hx hb hr (fun t ht hW => ⟨⟨(x6, x7), rfl, hw, by rw [ht]; exact hP, va_K.moved hW.alike hK, hD⟩, hS.F ht⟩) hS.2.2 dX12_findLag_85
  · replace hw := hw.2 c8; clear c8
    refine lv_iconst (v := 0) hx hb dX12_findLag_14 (by decide) ?_
    refine lv_istore_n (lv' := [(2, .int (0 : Int32)), (1, .int x5), (0, .ref h0)]) hx hb dX12_findLag_15 rfl hl (by decide) rfl ?_; clear hl; clear ls; intro ls hl
    refine lv_sipush (v := 160) hx hb dX12_findLag_16 (by decide) ?_
    refine lv_istore_n (lv' := [(3, .int (160 : Int32)), (2, .int (0 : Int32)), (1, .int x5), (0, .ref h0)]) hx hb dX12_findLag_19 rfl hl (by decide) rfl ?_; clear hl; clear ls; intro ls hl
    obtain ⟨x9, e_x9⟩ : ∃ y : Int32, y = (160 : Int32) := ⟨_, rfl⟩
    replace hw := hw x9 e_x9
    replace hl : lv_has ls 4 [(3, .int x9), (2, .int (0 : Int32)), (1, .int x5), (0, .ref h0)] := by rw [e_x9]; exact hl
    clear e_x9
    obtain ⟨x10, e_x10⟩ : ∃ y : Int32, y = (0 : Int32) := ⟨_, rfl⟩
    replace hw := hw x10 e_x10
    replace hl : lv_has ls 4 [(3, .int x9), (2, .int x10), (1, .int x5), (0, .ref h0)] := by rw [e_x10]; exact hl
    clear e_x10
    replace hl := lv_sub (l' := [(3, .int x9), (2, .int x10), (1, .int x5), (0, .ref h0)]) hl [0, 1, 2, 3] rfl
    revert hl; revert hS; revert hD; revert hP; revert ls; revert locs; revert H
    revert hw; revert x10; revert x9
    refine Lz2_gr ?_; intro g11 ih12 x13 x14 hw
    intro H locs ls hP hD hS hl
    refine lv_iload_n hx hb dX12_findLag_20 rfl (lv_at hl 0 rfl) ?_
    refine lv_sipush (v := 192) hx hb dX12_findLag_21 (by decide) ?_
    refine lv_icmp_ge (tgt := 54) hx hb dX12_findLag_24 (by decide) (fun c15 => ?_) (fun c15 => ?_)
    · replace hw := hw.1 c15; clear c15
      clear ih12
      refine lv_aload_n hx hb dX12_findLag_54 rfl (lv_at hl 3 rfl) ?_
      refine va_get (D := (dC, dI)) (ci := 12) (v := .int x6) (C := RX12) (T := TX12) (N := 22) hx hb hts inX12 hown hK hP 0 rfl rfl 16 (by decide) (hts _ (List.mem_cons_of_mem _ mw_745)) (fun _ h9 => h9) rfl dX12_findLag_55 ?_
      refine jn2 (Gg := fun (x16 : Int32) (x17 : Int32) => ∀ (H : Heap) (locs : List Loc) (ls : Array Slot), va_P (dC, dI) vwCl (w_X12_findLag h0 h_row h_kept h_isKept h_aside h_eight h_rows h_scales h_dealt h_bytes h_heardRow h_made h_comes h_backs h_fresh cy c_thrown c_nodeS c_nodeD c_pairE c_pairO c_bit x16 x17 c_heardRow) H → va_D A (w_X12_findLag h0 h_row h_kept h_isKept h_aside h_eight h_rows h_scales h_dealt h_bytes h_heardRow h_made h_comes h_backs h_fresh cy c_thrown c_nodeS c_nodeD c_pairE c_pairO c_bit x16 x17 c_heardRow) → va_S A s.heap H locs → lv_has ls 4 [(0, .ref h0), (1, .int x5)] → W p l e { frames := 1, cells := 0, slots := 0, locals := 20 } s m av below meth c H locs 0 0 Q0 (F0 m 79 ls [])) hw ?_ ?_ <;> clear hw
      · clear hP hD hS hl; clear H locs ls; intro x16 x17 hw H locs ls hP hD hS hl
        refine lv_iinc (v := x5 + 1) (lv' := [(1, .int (x5 + 1)), (0, .ref h0)]) hx hb dX12_findLag_79 hl (k := 1) rfl rfl (by decide) rfl ?_; clear hl; clear ls; intro ls hl
        refine lv_goto (tgt := 8) hx hb dX12_findLag_82 (by decide) ?_
        exact ih4 (x5 + 1) x16 x17 hw H locs ls hP hD hS (lv_sub hl [0, 1] rfl)
      · intro j19 hw
        refine jn0 (Gg := ∀ (H : Heap) (locs : List Loc) (ls : Array Slot), va_P (dC, dI) vwCl (w_X12_findLag h0 h_row h_kept h_isKept h_aside h_eight h_rows h_scales h_dealt h_bytes h_heardRow h_made h_comes h_backs h_fresh cy c_thrown c_nodeS c_nodeD c_pairE c_pairO c_bit x6 x7 c_heardRow) H → va_D A (w_X12_findLag h0 h_row h_kept h_isKept h_aside h_eight h_rows h_scales h_dealt h_bytes h_heardRow h_made h_comes h_backs h_fresh cy c_thrown c_nodeS c_nodeD c_pairE c_pairO c_bit x6 x7 c_heardRow) → va_S A s.heap H locs → lv_has ls 4 [(0, .ref h0), (1, .int x5), (2, .int x14)] → W p l e { frames := 1, cells := 0, slots := 0, locals := 20 } s m av below meth c H locs 0 0 Q0 (F0 m 69 ls [])) hw ?_ ?_ <;> clear hw
        · clear hP hD hS hl; clear H locs ls; intro  hw H locs ls hP hD hS hl
          refine lv_aload_n hx hb dX12_findLag_69 rfl (lv_at hl 0 rfl) ?_
          refine lv_iload_n hx hb dX12_findLag_70 rfl (lv_at hl 1 rfl) ?_
          refine va_put (D := (dC, dI)) (ci := 12) (v := .int x5) (ty := .int) (C := RX12) (T := TX12) (N := 22) hx hb hts inX12 tyX12 tyX12_ok nmX12 hown hK hP hD hS 0 rfl rfl 16 (by decide) (hts _ (List.mem_cons_of_mem _ mw_745)) (fun _ h9 => h9) rfl (by decide +kernel) rfl rfl (Nat.le_of_ble_eq_true rfl) dX12_findLag_71 ?_; clear hP hD hS; clear H locs; intro H locs hP hD hS
          replace hP : va_P (dC, dI) vwCl (w_X12_findLag h0 h_row h_kept h_isKept h_aside h_eight h_rows h_scales h_dealt h_bytes h_heardRow h_made h_comes h_backs h_fresh cy c_thrown c_nodeS c_nodeD c_pairE c_pairO c_bit x5 x7 c_heardRow) H := hP
          replace hD : va_D A (w_X12_findLag h0 h_row h_kept h_isKept h_aside h_eight h_rows h_scales h_dealt h_bytes h_heardRow h_made h_comes h_backs h_fresh cy c_thrown c_nodeS c_nodeD c_pairE c_pairO c_bit x5 x7 c_heardRow) := hD
          refine lv_aload_n hx hb dX12_findLag_74 rfl (lv_at hl 0 rfl) ?_
          refine lv_iload_n hx hb dX12_findLag_75 rfl (lv_at hl 2 rfl) ?_
          refine va_put (D := (dC, dI)) (ci := 12) (v := .int x14) (ty := .int) (C := RX12) (T := TX12) (N := 22) hx hb hts inX12 tyX12 tyX12_ok nmX12 hown hK hP hD hS 0 rfl rfl 17 (by decide) (hts _ (List.mem_cons_of_mem _ mw_754)) (fun _ h9 => h9) rfl (by decide +kernel) rfl rfl (Nat.le_of_ble_eq_true rfl) dX12_findLag_76 ?_; clear hP hD hS; clear H locs; intro H locs hP hD hS
          replace hP : va_P (dC, dI) vwCl (w_X12_findLag h0 h_row h_kept h_isKept h_aside h_eight h_rows h_scales h_dealt h_bytes h_heardRow h_made h_comes h_backs h_fresh cy c_thrown c_nodeS c_nodeD c_pairE c_pairO c_bit x5 x14 c_heardRow) H := hP
          replace hD : va_D A (w_X12_findLag h0 h_row h_kept h_isKept h_aside h_eight h_rows h_scales h_dealt h_bytes h_heardRow h_made h_comes h_backs h_fresh cy c_thrown c_nodeS c_nodeD c_pairE c_pairO c_bit x5 x14 c_heardRow) := hD
          exact j19 x5 x14 hw H locs ls hP hD hS (lv_sub hl [0, 1] rfl)
        · intro j21 hw
          refine lv_if_eq (tgt := 69) hx hb dX12_findLag_58 (by decide) (fun c22 => ?_) (fun c22 => ?_)
          · replace hw := hw.1 c22; clear c22
            exact j21 hw H locs ls hP hD hS (lv_sub hl [3, 2, 1] rfl)
          · replace hw := hw.2 c22; clear c22
            refine lv_iload_n hx hb dX12_findLag_61 rfl (lv_at hl 1 rfl) ?_
            refine lv_aload_n hx hb dX12_findLag_62 rfl (lv_at hl 3 rfl) ?_
            refine va_get (D := (dC, dI)) (ci := 12) (v := .int x7) (C := RX12) (T := TX12) (N := 22) hx hb hts inX12 hown hK hP 0 rfl rfl 17 (by decide) (hts _ (List.mem_cons_of_mem _ mw_754)) (fun _ h9 => h9) rfl dX12_findLag_63 ?_
            refine lv_icmp_ge (tgt := 79) hx hb dX12_findLag_66 (by decide) (fun c23 => ?_) (fun c23 => ?_)
            · replace hw := hw.1 c23; clear c23
              exact j19 x6 x7 hw H locs ls hP hD hS (lv_sub hl [3, 2] rfl)
            · replace hw := hw.2 c23; clear c23
              exact j21 hw H locs ls hP hD hS (lv_sub hl [3, 2, 1] rfl)
    · replace hw := hw.2 c15; clear c15
      refine lv_iload_n hx hb dX12_findLag_27 rfl (lv_at hl 1 rfl) ?_
      refine lv_aload_n hx hb dX12_findLag_28 rfl (lv_at hl 3 rfl) ?_
      refine va_get (D := (dC, dI)) (ci := 12) (v := .ref h_heardRow) (C := RX12) (T := TX12) (N := 22) hx hb hts inX12 hown hK hP 0 rfl rfl 15 (by decide) (hts _ (List.mem_cons_of_mem _ mw_179)) (fun _ h9 => h9) rfl dX12_findLag_29 ?_
      refine lv_iload_n hx hb dX12_findLag_32 rfl (lv_at hl 0 rfl) ?_
      obtain ⟨h24, hw⟩ := hw
      refine xiald (k := x13.toNatClampNeg) hx hb hK hP 1 0 rfl rfl h24 rfl dX12_findLag_33 ?_
      refine lv_aload_n hx hb dX12_findLag_34 rfl (lv_at hl 3 rfl) ?_
      refine va_get (D := (dC, dI)) (ci := 12) (v := .ref h_heardRow) (C := RX12) (T := TX12) (N := 22) hx hb hts inX12 hown hK hP 0 rfl rfl 15 (by decide) (hts _ (List.mem_cons_of_mem _ mw_179)) (fun _ h9 => h9) rfl dX12_findLag_35 ?_
      refine lv_iload_n hx hb dX12_findLag_38 rfl (lv_at hl 0 rfl) ?_
      refine lv_iload_n hx hb dX12_findLag_39 rfl (lv_at hl 2 rfl) ?_
      refine lv_isub hx hb dX12_findLag_40 ?_
      obtain ⟨h25, hw⟩ := hw
      refine xiald (k := (x13 - x5).toNatClampNeg) hx hb hK hP 1 0 rfl rfl h25 rfl dX12_findLag_41 ?_
      refine lv_isub hx hb dX12_findLag_42 ?_
      have hPc := pSub (ws' := (w_X12_size cy)) hP [] rfl
      have hDc := dSub (ws' := (w_X12_size cy)) hD [] (by decide) rfl
      have hFc := va_free (wc := (w_X12_size cy)) hD hS hA [] rfl
      refine va_calli (va_runS (As := [.int ((c_heardRow x13.toNatClampNeg) - (c_heardRow (x13 - x5).toNatClampNeg))]) (rest := [.int x14]) ⟨hx, hb, hml, hown, hts⟩ (c_X12_size l dC dI cy  H.size ((c_heardRow x13.toNatClampNeg) - (c_heardRow (x13 - x5).toNatClampNeg)) _ hw) (va_cwS 1 hts (goodS mw_647 mw_645 mw_646 mw_5) rfl rfl rfl (by decide +kernel) ⟨Nat.le_of_ble_eq_true rfl, Nat.le_of_ble_eq_true rfl⟩) ⟨PX_blind, PX_pre hPc hK hDc hG⟩ rfl rfl hl.1 rfl (lv_room (Nat.le_of_ble_eq_true rfl)) dX12_findLag_43 ⟨Nat.zero_le _, Nat.zero_le _⟩) hS (fun q _ h => hFc q h) hFc ?_; clear hw hS; intro r26 _ t H1 locs1 ht hvm hw hB hz1 hk1 hS
      obtain ⟨hP1, -, -⟩ := hB
      rw [ht] at hP1
      replace hP := jC0 hP hD [] [0, 1] rfl hk1 hP1 (w_X12_findLag h0 h_row h_kept h_isKept h_aside h_eight h_rows h_scales h_dealt h_bytes h_heardRow h_made h_comes h_backs h_fresh cy c_thrown c_nodeS c_nodeD c_pairE c_pairO c_bit x6 x7 c_heardRow) rfl rfl rfl 2 rfl (by decide +kernel); clear hD; obtain ⟨hP, hD⟩ := hP
      replace hP : va_P (dC, dI) vwCl (w_X12_findLag h0 h_row h_kept h_isKept h_aside h_eight h_rows h_scales h_dealt h_bytes h_heardRow h_made h_comes h_backs h_fresh cy c_thrown c_nodeS c_nodeD c_pairE c_pairO c_bit x6 x7 c_heardRow) H1 := hP
      replace hD : va_D A (w_X12_findLag h0 h_row h_kept h_isKept h_aside h_eight h_rows h_scales h_dealt h_bytes h_heardRow h_made h_comes h_backs h_fresh cy c_thrown c_nodeS c_nodeD c_pairE c_pairO c_bit x6 x7 c_heardRow) := hD
      clear hPc hDc hFc hP1 hk1 hz1 hvm ht; clear t; clear H locs; obtain ⟨H, hH⟩ : ∃ H, H = H1 := ⟨_, rfl⟩; obtain ⟨locs, hlo⟩ : ∃ L, L = locs1 := ⟨_, rfl⟩; subst hH; subst hlo
      refine W.widen (k := 0) (n := 0) (Nat.le_refl 0) (Nat.le_refl 0) ?_
      refine lv_iadd hx hb dX12_findLag_46 ?_
      refine lv_topi (fun x27 e_x27 => ?_)
      replace hw := hw x27 e_x27
      clear e_x27
      refine lv_istore_n (lv' := [(2, .int x27), (3, .int x13), (1, .int x5), (0, .ref h0)]) hx hb dX12_findLag_47 rfl hl (by decide) rfl ?_; clear hl; clear ls; intro ls hl
      refine lv_iinc (v := x13 + 1) (lv' := [(3, .int (x13 + 1)), (2, .int x27), (1, .int x5), (0, .ref h0)]) hx hb dX12_findLag_48 hl (k := 1) rfl rfl (by decide) rfl ?_; clear hl; clear ls; intro ls hl
      refine lv_goto (tgt := 20) hx hb dX12_findLag_51 (by decide) ?_
      exact ih12 (x13 + 1) x27 hw H locs ls hP hD hS (lv_sub hl [0, 1, 2, 3] rfl)
set_option maxHeartbeats 4000000 in
set_option maxRecDepth 100000 in
theorem c_X12_fade (l : Launch) (dC : Nat → ClassId) (dI : Nat → Nat → Nat) (cy : Nat → ClassId) (h0 h_row h_kept h_isKept h_aside h_eight h_rows h_scales h_dealt h_bytes h_heardRow h_made h_comes h_backs h_fresh : Nat) (sz : Nat) (c_thrown : Int32) (c_nodeS : Int32) (c_nodeD : Int32) (c_pairE : Int32) (c_pairO : Int32) (c_bit : Int32) (c_lag : Int32) (c_lagSum : Int32) (c_row : Nat → Int32) (post : Int32 → Prop) (hw : wp_X12_fade c_row post) : Met l yX12_fade wsX12_fade ({ frames := 0, cells := 0, slots := 0, locals := 0 }) (PX dC dI cy [.ref h0] sz (w_X12_fade h0 h_row h_kept h_isKept h_aside h_eight h_rows h_scales h_dealt h_bytes h_heardRow h_made h_comes h_backs h_fresh cy c_thrown c_nodeS c_nodeD c_pairE c_pairO c_bit c_lag c_lagSum c_row)) (va_Qi (fun (r : Int32) (u : Unit) => post r) (QX dC dI cy (va_A (w_X12_fade h0 h_row h_kept h_isKept h_aside h_eight h_rows h_scales h_dealt h_bytes h_heardRow h_made h_comes h_backs h_fresh cy c_thrown c_nodeS c_nodeD c_pairE c_pairO c_bit c_lag c_lagSum c_row) sz) (fun (u : Unit) => w_X12_fade h0 h_row h_kept h_isKept h_aside h_eight h_rows h_scales h_dealt h_bytes h_heardRow h_made h_comes h_backs h_fresh cy c_thrown c_nodeS c_nodeD c_pairE c_pairO c_bit c_lag c_lagSum c_row)) (va_A (w_X12_fade h0 h_row h_kept h_isKept h_aside h_eight h_rows h_scales h_dealt h_bytes h_heardRow h_made h_comes h_backs h_fresh cy c_thrown c_nodeS c_nodeD c_pairE c_pairO c_bit c_lag c_lagSum c_row) sz)) 0 0 (va_A (w_X12_fade h0 h_row h_kept h_isKept h_aside h_eight h_rows h_scales h_dealt h_bytes h_heardRow h_made h_comes h_backs h_fresh cy c_thrown c_nodeS c_nodeD c_pairE c_pairO c_bit c_lag c_lagSum c_row) sz) := by
  refine Met.ofW (cc := cX12_fade) (maxL := 1) (ret := (some .int)) (by decide) rfl ?_
  intro p e s m args below meth c s₁ B hml hv
  obtain ⟨rfl, hsz, hP, hK, hD0, hG⟩ := hv
  have hx := B.exec
  have hb := B.bytes
  have hr := B.returns
  have hts := atoms_spec (ws := wsX12_fade) B.pre
  have hown : s.vm.findClass RX12 = some m.cls := findClass_of_methodNamed B.named
  have hlocks := B.notSynchronized
  subst hsz
  have hD := hD0.self (sz := s.heap.size)
  generalize hAe : va_A (w_X12_fade h0 h_row h_kept h_isKept h_aside h_eight h_rows h_scales h_dealt h_bytes h_heardRow h_made h_comes h_backs h_fresh cy c_thrown c_nodeS c_nodeD c_pairE c_pairO c_bit c_lag c_lagSum c_row) s.heap.size = A at hD ⊢
  have hA : ∀ q : Nat, s.heap.size ≤ q → A q := fun q h => by rw [← hAe]; exact Or.inr h
  have hS : va_S A s.heap s.heap [] := va_S.rf
  have hl := lv_entry ([.ref h0]) (n := 1) (Nat.le_of_ble_eq_true rfl)
  rw [lg_entry_eq]
  generalize (lg_sl ([.ref h0]) ++ List.replicate (1 - (lg_sl ([.ref h0])).length) Slot.unset).toArray = ls at hl ⊢
  replace hl : lv_has ls 1 [(0, .ref h0)] := hl
  have inX12 : ∀ w ∈ u_ws RX12 TX12 22, w ∈ wsX12_fade := fun w h => List.mem_cons_of_mem _ (inlX12 w h)
  clear hAe hD0 B
  unfold wp_X12_fade at hw
  generalize hQe : MQ below _ _ s _ _ _ = Q0
  generalize ([.ref h0] : List Value).toArray = av at *
  obtain ⟨H, hH⟩ : ∃ H, H = s.heap := ⟨_, rfl⟩
  obtain ⟨locs, hlo⟩ : ∃ L : List Loc, L = [] := ⟨_, rfl⟩
  replace hP : va_P (dC, dI) vwCl (w_X12_fade h0 h_row h_kept h_isKept h_aside h_eight h_rows h_scales h_dealt h_bytes h_heardRow h_made h_comes h_backs h_fresh cy c_thrown c_nodeS c_nodeD c_pairE c_pairO c_bit c_lag c_lagSum c_row) H := by rw [hH]; exact hP
  replace hS : va_S A s.heap H locs := by rw [hH, hlo]; exact hS
  suffices hgo : W p l e ({ frames := 0, cells := 0, slots := 0, locals := 0 }) s m av below meth c H locs 0 0 Q0 (F0 m 0 ls []) by rw [hH, hlo] at hgo; exact hgo
  clear hH hlo
  refine lv_aload_n hx hb dX12_fade_0 rfl (lv_at hl 0 rfl) ?_
  refine va_get (D := (dC, dI)) (ci := 12) (v := .ref h_row) (C := RX12) (T := TX12) (N := 22) hx hb hts inX12 hown hK hP 0 rfl rfl 1 (by decide) (hts _ (List.mem_cons_of_mem _ mw_169)) (fun _ h9 => h9) rfl dX12_fade_1 ?_
  refine lv_bipush (v := 38) hx hb dX12_fade_4 (by decide) ?_
  refine xiald (k := 38) hx hb hK hP 1 0 rfl rfl (vpL 38 13385 rfl) (by decide) dX12_fade_6 ?_
  refine lv_bipush (v := 8) hx hb dX12_fade_7 (by decide) ?_
  refine lv_icmp_le (tgt := 16) hx hb dX12_fade_9 (by decide) (fun c2 => ?_) (fun c2 => ?_)
  · replace hw := hw.1 c2; clear c2
    refine lv_bipush (v := 8) hx hb dX12_fade_16 (by decide) ?_
    refine lv_aload_n hx hb dX12_fade_18 rfl (lv_at hl 0 rfl) ?_
    refine va_get (D := (dC, dI)) (ci := 12) (v := .ref h_row) (C := RX12) (T := TX12) (N := 22) hx hb hts inX12 hown hK hP 0 rfl rfl 1 (by decide) (hts _ (List.mem_cons_of_mem _ mw_169)) (fun _ h9 => h9) rfl dX12_fade_19 ?_
    refine lv_bipush (v := 38) hx hb dX12_fade_22 (by decide) ?_
    refine xiald (k := 38) hx hb hK hP 1 0 rfl rfl (vpL 38 13385 rfl) (by decide) dX12_fade_24 ?_
    refine lv_isub hx hb dX12_fade_25 ?_
    subst hQe
    exact W.iret (v := (8 : Int32) - (c_row 38)) hx hb hr (fun t ht hW => ⟨⟨((8 : Int32) - (c_row 38)), (), rfl, hw, by rw [ht]; exact hP, va_K.moved hW.alike hK, hD⟩, hS.F ht⟩) hS.2.2 dX12_fade_26
  · replace hw := hw.2 c2; clear c2
    refine lv_iconst (v := 0) hx hb dX12_fade_12 (by decide) ?_
    refine lv_goto (tgt := 26) hx hb dX12_fade_13 (by decide) ?_
    subst hQe
    exact W.iret (v := (0 : Int32)) hx hb hr (fun t ht hW => ⟨⟨(0 : Int32), (), rfl, hw, by rw [ht]; exact hP, va_K.moved hW.alike hK, hD⟩, hS.F ht⟩) hS.2.2 dX12_fade_26
set_option maxHeartbeats 4000000 in
set_option maxRecDepth 100000 in
theorem c_X12_layMade (l : Launch) (dC : Nat → ClassId) (dI : Nat → Nat → Nat) (cy : Nat → ClassId) (h0 h_row h_kept h_isKept h_aside h_eight h_rows h_scales h_dealt h_bytes h_heardRow h_made h_comes h_backs h_fresh : Nat) (sz : Nat) (c_thrown : Int32) (c_nodeS : Int32) (c_nodeD : Int32) (c_pairE : Int32) (c_pairO : Int32) (c_bit : Int32) (c_lag : Int32) (c_lagSum : Int32) (c_row : Nat → Int32) (c_heardRow : Nat → Int32) (c_made : Nat → Int32) (post : Int32 → Int32 → (Nat → Int32) → (Nat → Int32) → Prop) (hw : wp_X12_layMade c_lag c_lagSum c_row c_heardRow c_made post) : Met l yX12_layMade wsX12_layMade ({ frames := 2, cells := 0, slots := 0, locals := 43 }) (PX dC dI cy [.ref h0] sz (w_X12_layMade h0 h_row h_kept h_isKept h_aside h_eight h_rows h_scales h_dealt h_bytes h_heardRow h_made h_comes h_backs h_fresh cy c_thrown c_nodeS c_nodeD c_pairE c_pairO c_bit c_lag c_lagSum c_row c_heardRow c_made)) (va_Qv (fun (u : Int32 × Int32 × (Nat → Int32) × (Nat → Int32)) => post u.1 u.2.1 u.2.2.1 u.2.2.2) (QX dC dI cy (va_A (w_X12_layMade h0 h_row h_kept h_isKept h_aside h_eight h_rows h_scales h_dealt h_bytes h_heardRow h_made h_comes h_backs h_fresh cy c_thrown c_nodeS c_nodeD c_pairE c_pairO c_bit c_lag c_lagSum c_row c_heardRow c_made) sz) (fun (u : Int32 × Int32 × (Nat → Int32) × (Nat → Int32)) => w_X12_layMade h0 h_row h_kept h_isKept h_aside h_eight h_rows h_scales h_dealt h_bytes h_heardRow h_made h_comes h_backs h_fresh cy c_thrown c_nodeS c_nodeD c_pairE c_pairO c_bit u.1 u.2.1 c_row u.2.2.1 u.2.2.2)) (va_A (w_X12_layMade h0 h_row h_kept h_isKept h_aside h_eight h_rows h_scales h_dealt h_bytes h_heardRow h_made h_comes h_backs h_fresh cy c_thrown c_nodeS c_nodeD c_pairE c_pairO c_bit c_lag c_lagSum c_row c_heardRow c_made) sz)) 0 0 (va_A (w_X12_layMade h0 h_row h_kept h_isKept h_aside h_eight h_rows h_scales h_dealt h_bytes h_heardRow h_made h_comes h_backs h_fresh cy c_thrown c_nodeS c_nodeD c_pairE c_pairO c_bit c_lag c_lagSum c_row c_heardRow c_made) sz) := by
  refine Met.ofW (cc := cX12_layMade) (maxL := 3) (ret := none) (by decide) rfl ?_
  intro p e s m args below meth c s₁ B hml hv
  obtain ⟨rfl, hsz, hP, hK, hD0, hG⟩ := hv
  have hx := B.exec
  have hb := B.bytes
  have hr := B.returns
  have hts := atoms_spec (ws := wsX12_layMade) B.pre
  have hown : s.vm.findClass RX12 = some m.cls := findClass_of_methodNamed B.named
  have hlocks := B.notSynchronized
  subst hsz
  have hD := hD0.self (sz := s.heap.size)
  generalize hAe : va_A (w_X12_layMade h0 h_row h_kept h_isKept h_aside h_eight h_rows h_scales h_dealt h_bytes h_heardRow h_made h_comes h_backs h_fresh cy c_thrown c_nodeS c_nodeD c_pairE c_pairO c_bit c_lag c_lagSum c_row c_heardRow c_made) s.heap.size = A at hD ⊢
  have hA : ∀ q : Nat, s.heap.size ≤ q → A q := fun q h => by rw [← hAe]; exact Or.inr h
  have hS : va_S A s.heap s.heap [] := va_S.rf
  have hl := lv_entry ([.ref h0]) (n := 3) (Nat.le_of_ble_eq_true rfl)
  rw [lg_entry_eq]
  generalize (lg_sl ([.ref h0]) ++ List.replicate (3 - (lg_sl ([.ref h0])).length) Slot.unset).toArray = ls at hl ⊢
  replace hl : lv_has ls 3 [(0, .ref h0)] := hl
  have inX12 : ∀ w ∈ u_ws RX12 TX12 22, w ∈ wsX12_layMade := fun w h => List.mem_cons_of_mem _ (inlX12 w h)
  clear hAe hD0 B
  unfold wp_X12_layMade at hw
  generalize hQe : MQ below _ _ s _ _ _ = Q0
  generalize ([.ref h0] : List Value).toArray = av at *
  obtain ⟨H, hH⟩ : ∃ H, H = s.heap := ⟨_, rfl⟩
  obtain ⟨locs, hlo⟩ : ∃ L : List Loc, L = [] := ⟨_, rfl⟩
  replace hP : va_P (dC, dI) vwCl (w_X12_layMade h0 h_row h_kept h_isKept h_aside h_eight h_rows h_scales h_dealt h_bytes h_heardRow h_made h_comes h_backs h_fresh cy c_thrown c_nodeS c_nodeD c_pairE c_pairO c_bit c_lag c_lagSum c_row c_heardRow c_made) H := by rw [hH]; exact hP
  replace hS : va_S A s.heap H locs := by rw [hH, hlo]; exact hS
  suffices hgo : W p l e ({ frames := 2, cells := 0, slots := 0, locals := 43 }) s m av below meth c H locs 0 0 Q0 (F0 m 0 ls []) by rw [hH, hlo] at hgo; exact hgo
  clear hH hlo
  refine lv_iconst (v := 0) hx hb dX12_layMade_0 (by decide) ?_
  refine lv_istore_n (lv' := [(1, .int (0 : Int32)), (0, .ref h0)]) hx hb dX12_layMade_1 rfl hl (by decide) rfl ?_; clear hl; clear ls; intro ls hl
  obtain ⟨x1, e_x1⟩ : ∃ y : Int32, y = (0 : Int32) := ⟨_, rfl⟩
  replace hw := hw x1 e_x1
  replace hl : lv_has ls 3 [(1, .int x1), (0, .ref h0)] := by rw [e_x1]; exact hl
  clear e_x1
  replace hl := lv_sub (l' := [(1, .int x1), (0, .ref h0)]) hl [0, 1] rfl
  revert hl; revert hS; revert hD; revert hP; revert ls; revert locs; revert H
  revert hw; revert c_made; revert c_heardRow; revert c_lagSum; revert c_lag; revert x1
  refine Lz5_gr ?_; intro g2 ih3 x4 x5 x6 f7 f8 hw
  intro H locs ls hP hD hS hl
  refine lv_iload_n hx hb dX12_layMade_2 rfl (lv_at hl 0 rfl) ?_
  refine lv_iconst (v := 2) hx hb dX12_layMade_3 (by decide) ?_
  refine lv_icmp_ge (tgt := 89) hx hb dX12_layMade_4 (by decide) (fun c9 => ?_) (fun c9 => ?_)
  · replace hw := hw.1 c9; clear c9
    clear ih3
    subst hQe
    exact W.vret hx hb hr (fun t ht hW => ⟨⟨(x5, x6, f7, f8), rfl, hw, by rw [ht]; exact hP, va_K.moved hW.alike hK, hD⟩, hS.F ht⟩) hS.2.2 dX12_layMade_89
  · replace hw := hw.2 c9; clear c9
    refine lv_aload_n hx hb dX12_layMade_7 rfl (lv_at hl 1 rfl) ?_
    refine lv_iload_n hx hb dX12_layMade_8 rfl (lv_at hl 0 rfl) ?_
    have hPc := pSub (ws' := (w_X12_layHeard h0 h_row h_kept h_isKept h_aside h_eight h_rows h_scales h_dealt h_bytes h_heardRow h_made h_comes h_backs h_fresh cy c_thrown c_nodeS c_nodeD c_pairE c_pairO c_bit x5 x6 c_row f7)) hP [0, 1, 2] rfl
    have hDc := dSub (ws' := (w_X12_layHeard h0 h_row h_kept h_isKept h_aside h_eight h_rows h_scales h_dealt h_bytes h_heardRow h_made h_comes h_backs h_fresh cy c_thrown c_nodeS c_nodeD c_pairE c_pairO c_bit x5 x6 c_row f7)) hD [0, 1, 2] (by decide) rfl
    have hFc := va_free (wc := (w_X12_layHeard h0 h_row h_kept h_isKept h_aside h_eight h_rows h_scales h_dealt h_bytes h_heardRow h_made h_comes h_backs h_fresh cy c_thrown c_nodeS c_nodeD c_pairE c_pairO c_bit x5 x6 c_row f7)) hD hS hA [0, 1, 2] rfl
    refine va_callv (va_runV (As := [.int x4]) (rest := []) ⟨hx, hb, hml, hown, hts⟩ (c_X12_layHeard l dC dI cy h0 h_row h_kept h_isKept h_aside h_eight h_rows h_scales h_dealt h_bytes h_heardRow h_made h_comes h_backs h_fresh H.size x4 c_thrown c_nodeS c_nodeD c_pairE c_pairO c_bit x5 x6 c_row f7 _ hw) (cwV 1 hts (goodV mw_749 mw_746 mw_747 mw_748 mw_5) rfl rfl rfl (by decide +kernel) ⟨Nat.le_of_ble_eq_true rfl, Nat.le_of_ble_eq_true rfl⟩) ⟨PX_blind, va_recv hK hPc (ci := 12) (q0 := 0) rfl rfl, PX_pre hPc hK hDc hG⟩ rfl rfl hl.1 rfl (lv_room (Nat.le_of_ble_eq_true rfl)) dX12_layMade_9 ⟨Nat.zero_le _, Nat.zero_le _⟩) hS (fun q _ h => hFc q h) hFc ?_; clear hw hS; intro f10 t H1 locs1 ht hvm hw hB hz1 hk1 hS
    obtain ⟨hP1, -, -⟩ := hB
    rw [ht] at hP1
    replace hP := jC0 hP hD [0, 1, 2] [3] rfl hk1 hP1 (w_X12_layMade h0 h_row h_kept h_isKept h_aside h_eight h_rows h_scales h_dealt h_bytes h_heardRow h_made h_comes h_backs h_fresh cy c_thrown c_nodeS c_nodeD c_pairE c_pairO c_bit x5 x6 c_row f10 f8) rfl rfl rfl 4 rfl (by decide +kernel); clear hD; obtain ⟨hP, hD⟩ := hP
    replace hP : va_P (dC, dI) vwCl (w_X12_layMade h0 h_row h_kept h_isKept h_aside h_eight h_rows h_scales h_dealt h_bytes h_heardRow h_made h_comes h_backs h_fresh cy c_thrown c_nodeS c_nodeD c_pairE c_pairO c_bit x5 x6 c_row f10 f8) H1 := hP
    replace hD : va_D A (w_X12_layMade h0 h_row h_kept h_isKept h_aside h_eight h_rows h_scales h_dealt h_bytes h_heardRow h_made h_comes h_backs h_fresh cy c_thrown c_nodeS c_nodeD c_pairE c_pairO c_bit x5 x6 c_row f10 f8) := hD
    clear hPc hDc hFc hP1 hk1 hz1 hvm ht; clear t; clear H locs; obtain ⟨H, hH⟩ : ∃ H, H = H1 := ⟨_, rfl⟩; obtain ⟨locs, hlo⟩ : ∃ L, L = locs1 := ⟨_, rfl⟩; subst hH; subst hlo
    refine W.widen (k := 0) (n := 0) (Nat.le_refl 0) (Nat.le_refl 0) ?_
    refine lv_aload_n hx hb dX12_layMade_12 rfl (lv_at hl 1 rfl) ?_
    have hPc := pSub (ws' := (w_X12_findLag h0 h_row h_kept h_isKept h_aside h_eight h_rows h_scales h_dealt h_bytes h_heardRow h_made h_comes h_backs h_fresh cy c_thrown c_nodeS c_nodeD c_pairE c_pairO c_bit x5 x6 f10)) hP [0, 2] rfl
    have hDc := dSub (ws' := (w_X12_findLag h0 h_row h_kept h_isKept h_aside h_eight h_rows h_scales h_dealt h_bytes h_heardRow h_made h_comes h_backs h_fresh cy c_thrown c_nodeS c_nodeD c_pairE c_pairO c_bit x5 x6 f10)) hD [0, 2] (by decide) rfl
    have hFc := va_free (wc := (w_X12_findLag h0 h_row h_kept h_isKept h_aside h_eight h_rows h_scales h_dealt h_bytes h_heardRow h_made h_comes h_backs h_fresh cy c_thrown c_nodeS c_nodeD c_pairE c_pairO c_bit x5 x6 f10)) hD hS hA [0, 2] rfl
    refine va_callv (va_runV (As := []) (rest := []) ⟨hx, hb, hml, hown, hts⟩ (c_X12_findLag l dC dI cy h0 h_row h_kept h_isKept h_aside h_eight h_rows h_scales h_dealt h_bytes h_heardRow h_made h_comes h_backs h_fresh H.size c_thrown c_nodeS c_nodeD c_pairE c_pairO c_bit x5 x6 f10 _ hw) (cwV 0 hts (goodV mw_753 mw_750 mw_751 mw_752 mw_5) rfl rfl rfl (by decide +kernel) ⟨Nat.le_of_ble_eq_true rfl, Nat.le_of_ble_eq_true rfl⟩) ⟨PX_blind, va_recv hK hPc (ci := 12) (q0 := 0) rfl rfl, PX_pre hPc hK hDc hG⟩ rfl rfl hl.1 rfl (lv_room (Nat.le_of_ble_eq_true rfl)) dX12_layMade_13 ⟨Nat.zero_le _, Nat.zero_le _⟩) hS (fun q _ h => hFc q h) hFc ?_; clear hw hS; intro u t H1 locs1 ht hvm hw hB hz1 hk1 hS
    obtain ⟨x11, x12⟩ := u
    try dsimp only at hw
    obtain ⟨hP1, -, -⟩ := hB
    rw [ht] at hP1
    replace hP := jC0 hP hD [0, 2] [1, 3] rfl hk1 hP1 (w_X12_layMade h0 h_row h_kept h_isKept h_aside h_eight h_rows h_scales h_dealt h_bytes h_heardRow h_made h_comes h_backs h_fresh cy c_thrown c_nodeS c_nodeD c_pairE c_pairO c_bit x11 x12 c_row f10 f8) rfl rfl rfl 4 rfl (by decide +kernel); clear hD; obtain ⟨hP, hD⟩ := hP
    replace hP : va_P (dC, dI) vwCl (w_X12_layMade h0 h_row h_kept h_isKept h_aside h_eight h_rows h_scales h_dealt h_bytes h_heardRow h_made h_comes h_backs h_fresh cy c_thrown c_nodeS c_nodeD c_pairE c_pairO c_bit x11 x12 c_row f10 f8) H1 := hP
    replace hD : va_D A (w_X12_layMade h0 h_row h_kept h_isKept h_aside h_eight h_rows h_scales h_dealt h_bytes h_heardRow h_made h_comes h_backs h_fresh cy c_thrown c_nodeS c_nodeD c_pairE c_pairO c_bit x11 x12 c_row f10 f8) := hD
    clear hPc hDc hFc hP1 hk1 hz1 hvm ht; clear t; clear H locs; obtain ⟨H, hH⟩ : ∃ H, H = H1 := ⟨_, rfl⟩; obtain ⟨locs, hlo⟩ : ∃ L, L = locs1 := ⟨_, rfl⟩; subst hH; subst hlo
    refine W.widen (k := 0) (n := 0) (Nat.le_refl 0) (Nat.le_refl 0) ?_
    refine lv_iconst (v := 0) hx hb dX12_layMade_16 (by decide) ?_
    refine lv_istore_n (lv' := [(2, .int (0 : Int32)), (1, .int x4), (0, .ref h0)]) hx hb dX12_layMade_17 rfl hl (by decide) rfl ?_; clear hl; clear ls; intro ls hl
    obtain ⟨x13, e_x13⟩ : ∃ y : Int32, y = (0 : Int32) := ⟨_, rfl⟩
    replace hw := hw x13 e_x13
    replace hl : lv_has ls 3 [(2, .int x13), (1, .int x4), (0, .ref h0)] := by rw [e_x13]; exact hl
    clear e_x13
    replace hl := lv_sub (l' := [(2, .int x13), (1, .int x4), (0, .ref h0)]) hl [0, 1, 2] rfl
    revert hl; revert hS; revert hD; revert hP; revert ls; revert locs; revert H
    revert hw; revert f8; revert f10; revert x13
    refine Lz3_gr ?_; intro g14 ih15 x16 f17 f18 hw
    intro H locs ls hP hD hS hl
    refine lv_iload_n hx hb dX12_layMade_18 rfl (lv_at hl 0 rfl) ?_
    refine lv_bipush (v := 32) hx hb dX12_layMade_19 (by decide) ?_
    refine lv_icmp_ge (tgt := 83) hx hb dX12_layMade_21 (by decide) (fun c19 => ?_) (fun c19 => ?_)
    · replace hw := hw.1 c19; clear c19
      clear ih15
      refine lv_iinc (v := x4 + 1) (lv' := [(1, .int (x4 + 1)), (2, .int x16), (0, .ref h0)]) hx hb dX12_layMade_83 hl (k := 1) rfl rfl (by decide) rfl ?_; clear hl; clear ls; intro ls hl
      refine lv_goto (tgt := 2) hx hb dX12_layMade_86 (by decide) ?_
      exact ih3 (x4 + 1) x11 x12 f17 f18 hw H locs ls hP hD hS (lv_sub hl [0, 2] rfl)
    · replace hw := hw.2 c19; clear c19
      refine lv_aload_n hx hb dX12_layMade_24 rfl (lv_at hl 2 rfl) ?_
      refine va_get (D := (dC, dI)) (ci := 12) (v := .ref h_heardRow) (C := RX12) (T := TX12) (N := 22) hx hb hts inX12 hown hK hP 0 rfl rfl 15 (by decide) (hts _ (List.mem_cons_of_mem _ mw_179)) (fun _ h9 => h9) rfl dX12_layMade_25 ?_
      refine lv_sipush (v := 192) hx hb dX12_layMade_28 (by decide) ?_
      refine lv_iload_n hx hb dX12_layMade_31 rfl (lv_at hl 0 rfl) ?_
      refine lv_iadd hx hb dX12_layMade_32 ?_
      refine lv_aload_n hx hb dX12_layMade_33 rfl (lv_at hl 2 rfl) ?_
      refine va_get (D := (dC, dI)) (ci := 12) (v := .ref h_heardRow) (C := RX12) (T := TX12) (N := 22) hx hb hts inX12 hown hK hP 0 rfl rfl 15 (by decide) (hts _ (List.mem_cons_of_mem _ mw_179)) (fun _ h9 => h9) rfl dX12_layMade_34 ?_
      refine lv_sipush (v := 192) hx hb dX12_layMade_37 (by decide) ?_
      refine lv_iload_n hx hb dX12_layMade_40 rfl (lv_at hl 0 rfl) ?_
      refine lv_iadd hx hb dX12_layMade_41 ?_
      refine lv_aload_n hx hb dX12_layMade_42 rfl (lv_at hl 2 rfl) ?_
      refine va_get (D := (dC, dI)) (ci := 12) (v := .int x11) (C := RX12) (T := TX12) (N := 22) hx hb hts inX12 hown hK hP 0 rfl rfl 16 (by decide) (hts _ (List.mem_cons_of_mem _ mw_745)) (fun _ h9 => h9) rfl dX12_layMade_43 ?_
      refine lv_isub hx hb dX12_layMade_46 ?_
      obtain ⟨h20, hw⟩ := hw
      refine xiald (k := (((192 : Int32) + x16) - x11).toNatClampNeg) hx hb hK hP 2 0 rfl rfl h20 rfl dX12_layMade_47 ?_
      obtain ⟨h21, hw⟩ := hw
      refine xiast (k := ((192 : Int32) + x16).toNatClampNeg) hx hb hK hP hD hS 2 0 rfl rfl h21 rfl dX12_layMade_48 ?_; clear hP hD hS; clear H locs; intro f22 e_f22 H locs hP hD hS
      replace hw := hw f22 e_f22
      clear e_f22
      replace hP : va_P (dC, dI) vwCl (w_X12_layMade h0 h_row h_kept h_isKept h_aside h_eight h_rows h_scales h_dealt h_bytes h_heardRow h_made h_comes h_backs h_fresh cy c_thrown c_nodeS c_nodeD c_pairE c_pairO c_bit x11 x12 c_row f22 f18) H := hP
      replace hD : va_D A (w_X12_layMade h0 h_row h_kept h_isKept h_aside h_eight h_rows h_scales h_dealt h_bytes h_heardRow h_made h_comes h_backs h_fresh cy c_thrown c_nodeS c_nodeD c_pairE c_pairO c_bit x11 x12 c_row f22 f18) := hD
      refine lv_aload_n hx hb dX12_layMade_49 rfl (lv_at hl 2 rfl) ?_
      refine va_get (D := (dC, dI)) (ci := 12) (v := .ref h_made) (C := RX12) (T := TX12) (N := 22) hx hb hts inX12 hown hK hP 0 rfl rfl 18 (by decide) (hts _ (List.mem_cons_of_mem _ mw_180)) (fun _ h9 => h9) rfl dX12_layMade_50 ?_
      refine lv_bipush (v := 32) hx hb dX12_layMade_53 (by decide) ?_
      refine lv_iload_n hx hb dX12_layMade_55 rfl (lv_at hl 1 rfl) ?_
      refine lv_imul hx hb dX12_layMade_56 ?_
      refine lv_iload_n hx hb dX12_layMade_57 rfl (lv_at hl 0 rfl) ?_
      refine lv_iadd hx hb dX12_layMade_58 ?_
      refine lv_aload_n hx hb dX12_layMade_59 rfl (lv_at hl 2 rfl) ?_
      refine va_get (D := (dC, dI)) (ci := 12) (v := .ref h_heardRow) (C := RX12) (T := TX12) (N := 22) hx hb hts inX12 hown hK hP 0 rfl rfl 15 (by decide) (hts _ (List.mem_cons_of_mem _ mw_179)) (fun _ h9 => h9) rfl dX12_layMade_60 ?_
      refine lv_sipush (v := 192) hx hb dX12_layMade_63 (by decide) ?_
      refine lv_iload_n hx hb dX12_layMade_66 rfl (lv_at hl 0 rfl) ?_
      refine lv_iadd hx hb dX12_layMade_67 ?_
      obtain ⟨h23, hw⟩ := hw
      refine xiald (k := ((192 : Int32) + x16).toNatClampNeg) hx hb hK hP 2 0 rfl rfl h23 rfl dX12_layMade_68 ?_
      refine lv_aload_n hx hb dX12_layMade_69 rfl (lv_at hl 2 rfl) ?_
      have hPc := pSub (ws' := (w_X12_fade h0 h_row h_kept h_isKept h_aside h_eight h_rows h_scales h_dealt h_bytes h_heardRow h_made h_comes h_backs h_fresh cy c_thrown c_nodeS c_nodeD c_pairE c_pairO c_bit x11 x12 c_row)) hP [0, 1] rfl
      have hDc := dSub (ws' := (w_X12_fade h0 h_row h_kept h_isKept h_aside h_eight h_rows h_scales h_dealt h_bytes h_heardRow h_made h_comes h_backs h_fresh cy c_thrown c_nodeS c_nodeD c_pairE c_pairO c_bit x11 x12 c_row)) hD [0, 1] (by decide) rfl
      have hFc := va_free (wc := (w_X12_fade h0 h_row h_kept h_isKept h_aside h_eight h_rows h_scales h_dealt h_bytes h_heardRow h_made h_comes h_backs h_fresh cy c_thrown c_nodeS c_nodeD c_pairE c_pairO c_bit x11 x12 c_row)) hD hS hA [0, 1] rfl
      refine va_calli (va_runV (As := []) (rest := [.int (f22 ((192 : Int32) + x16).toNatClampNeg), .int (((32 : Int32) * x4) + x16), .ref h_made]) ⟨hx, hb, hml, hown, hts⟩ (c_X12_fade l dC dI cy h0 h_row h_kept h_isKept h_aside h_eight h_rows h_scales h_dealt h_bytes h_heardRow h_made h_comes h_backs h_fresh H.size c_thrown c_nodeS c_nodeD c_pairE c_pairO c_bit x11 x12 c_row _ hw) (cwV 0 hts (goodV mw_740 mw_737 mw_738 mw_739 mw_5) rfl rfl rfl (by decide +kernel) ⟨Nat.le_of_ble_eq_true rfl, Nat.le_of_ble_eq_true rfl⟩) ⟨PX_blind, va_recv hK hPc (ci := 12) (q0 := 0) rfl rfl, PX_pre hPc hK hDc hG⟩ rfl rfl hl.1 rfl (lv_room (Nat.le_of_ble_eq_true rfl)) dX12_layMade_70 ⟨Nat.zero_le _, Nat.zero_le _⟩) hS (fun q _ h => hFc q h) hFc ?_; clear hw hS; intro r24 _ t H1 locs1 ht hvm hw hB hz1 hk1 hS
      obtain ⟨hP1, -, -⟩ := hB
      rw [ht] at hP1
      replace hP := jC0 hP hD [0, 1] [2, 3] rfl hk1 hP1 (w_X12_layMade h0 h_row h_kept h_isKept h_aside h_eight h_rows h_scales h_dealt h_bytes h_heardRow h_made h_comes h_backs h_fresh cy c_thrown c_nodeS c_nodeD c_pairE c_pairO c_bit x11 x12 c_row f22 f18) rfl rfl rfl 4 rfl (by decide +kernel); clear hD; obtain ⟨hP, hD⟩ := hP
      replace hP : va_P (dC, dI) vwCl (w_X12_layMade h0 h_row h_kept h_isKept h_aside h_eight h_rows h_scales h_dealt h_bytes h_heardRow h_made h_comes h_backs h_fresh cy c_thrown c_nodeS c_nodeD c_pairE c_pairO c_bit x11 x12 c_row f22 f18) H1 := hP
      replace hD : va_D A (w_X12_layMade h0 h_row h_kept h_isKept h_aside h_eight h_rows h_scales h_dealt h_bytes h_heardRow h_made h_comes h_backs h_fresh cy c_thrown c_nodeS c_nodeD c_pairE c_pairO c_bit x11 x12 c_row f22 f18) := hD
      clear hPc hDc hFc hP1 hk1 hz1 hvm ht; clear t; clear H locs; obtain ⟨H, hH⟩ : ∃ H, H = H1 := ⟨_, rfl⟩; obtain ⟨locs, hlo⟩ : ∃ L, L = locs1 := ⟨_, rfl⟩; subst hH; subst hlo
      refine W.widen (k := 0) (n := 0) (Nat.le_refl 0) (Nat.le_refl 0) ?_
      refine lv_imul hx hb dX12_layMade_73 ?_
      refine lv_iconst (v := 3) hx hb dX12_layMade_74 (by decide) ?_
      refine lv_ishr hx hb dX12_layMade_75 ?_
      obtain ⟨h25, hw⟩ := hw
      refine xiast (k := (((32 : Int32) * x4) + x16).toNatClampNeg) hx hb hK hP hD hS 3 0 rfl rfl h25 rfl dX12_layMade_76 ?_; clear hP hD hS; clear H locs; intro f26 e_f26 H locs hP hD hS
      replace hw := hw f26 e_f26
      clear e_f26
      replace hP : va_P (dC, dI) vwCl (w_X12_layMade h0 h_row h_kept h_isKept h_aside h_eight h_rows h_scales h_dealt h_bytes h_heardRow h_made h_comes h_backs h_fresh cy c_thrown c_nodeS c_nodeD c_pairE c_pairO c_bit x11 x12 c_row f22 f26) H := hP
      replace hD : va_D A (w_X12_layMade h0 h_row h_kept h_isKept h_aside h_eight h_rows h_scales h_dealt h_bytes h_heardRow h_made h_comes h_backs h_fresh cy c_thrown c_nodeS c_nodeD c_pairE c_pairO c_bit x11 x12 c_row f22 f26) := hD
      refine lv_iinc (v := x16 + 1) (lv' := [(2, .int (x16 + 1)), (1, .int x4), (0, .ref h0)]) hx hb dX12_layMade_77 hl (k := 0) rfl rfl (by decide) rfl ?_; clear hl; clear ls; intro ls hl
      refine lv_goto (tgt := 18) hx hb dX12_layMade_80 (by decide) ?_
      exact ih15 (x16 + 1) f22 f26 hw H locs ls hP hD hS (lv_sub hl [0, 1, 2] rfl)
set_option maxHeartbeats 4000000 in
set_option maxRecDepth 100000 in
theorem c_X12_keepsHeard (l : Launch) (dC : Nat → ClassId) (dI : Nat → Nat → Nat) (cy : Nat → ClassId) (h0 h_row h_kept h_isKept h_aside h_eight h_rows h_scales h_dealt h_bytes h_heardRow h_made h_comes h_backs h_fresh : Nat) (sz : Nat) (c_thrown : Int32) (c_nodeS : Int32) (c_nodeD : Int32) (c_pairE : Int32) (c_pairO : Int32) (c_bit : Int32) (c_lag : Int32) (c_lagSum : Int32) (c_row : Nat → Int32) (c_comes : Nat → Int32) (post : (Nat → Int32) → Prop) (hw : wp_X12_keepsHeard c_row c_comes post) : Met l yX12_keepsHeard wsX12_keepsHeard ({ frames := 0, cells := 0, slots := 0, locals := 0 }) (PX dC dI cy [.ref h0] sz (w_X12_keepsHeard h0 h_row h_kept h_isKept h_aside h_eight h_rows h_scales h_dealt h_bytes h_heardRow h_made h_comes h_backs h_fresh cy c_thrown c_nodeS c_nodeD c_pairE c_pairO c_bit c_lag c_lagSum c_row c_comes)) (va_Qv (fun (u : (Nat → Int32)) => post u) (QX dC dI cy (va_A (w_X12_keepsHeard h0 h_row h_kept h_isKept h_aside h_eight h_rows h_scales h_dealt h_bytes h_heardRow h_made h_comes h_backs h_fresh cy c_thrown c_nodeS c_nodeD c_pairE c_pairO c_bit c_lag c_lagSum c_row c_comes) sz) (fun (u : (Nat → Int32)) => w_X12_keepsHeard h0 h_row h_kept h_isKept h_aside h_eight h_rows h_scales h_dealt h_bytes h_heardRow h_made h_comes h_backs h_fresh cy c_thrown c_nodeS c_nodeD c_pairE c_pairO c_bit c_lag c_lagSum u c_comes)) (va_A (w_X12_keepsHeard h0 h_row h_kept h_isKept h_aside h_eight h_rows h_scales h_dealt h_bytes h_heardRow h_made h_comes h_backs h_fresh cy c_thrown c_nodeS c_nodeD c_pairE c_pairO c_bit c_lag c_lagSum c_row c_comes) sz)) 0 0 (va_A (w_X12_keepsHeard h0 h_row h_kept h_isKept h_aside h_eight h_rows h_scales h_dealt h_bytes h_heardRow h_made h_comes h_backs h_fresh cy c_thrown c_nodeS c_nodeD c_pairE c_pairO c_bit c_lag c_lagSum c_row c_comes) sz) := by
  refine Met.ofW (cc := cX12_keepsHeard) (maxL := 4) (ret := none) (by decide) rfl ?_
  intro p e s m args below meth c s₁ B hml hv
  obtain ⟨rfl, hsz, hP, hK, hD0, hG⟩ := hv
  have hx := B.exec
  have hb := B.bytes
  have hr := B.returns
  have hts := atoms_spec (ws := wsX12_keepsHeard) B.pre
  have hown : s.vm.findClass RX12 = some m.cls := findClass_of_methodNamed B.named
  have hlocks := B.notSynchronized
  subst hsz
  have hD := hD0.self (sz := s.heap.size)
  generalize hAe : va_A (w_X12_keepsHeard h0 h_row h_kept h_isKept h_aside h_eight h_rows h_scales h_dealt h_bytes h_heardRow h_made h_comes h_backs h_fresh cy c_thrown c_nodeS c_nodeD c_pairE c_pairO c_bit c_lag c_lagSum c_row c_comes) s.heap.size = A at hD ⊢
  have hA : ∀ q : Nat, s.heap.size ≤ q → A q := fun q h => by rw [← hAe]; exact Or.inr h
  have hS : va_S A s.heap s.heap [] := va_S.rf
  have hl := lv_entry ([.ref h0]) (n := 4) (Nat.le_of_ble_eq_true rfl)
  rw [lg_entry_eq]
  generalize (lg_sl ([.ref h0]) ++ List.replicate (4 - (lg_sl ([.ref h0])).length) Slot.unset).toArray = ls at hl ⊢
  replace hl : lv_has ls 4 [(0, .ref h0)] := hl
  have inX12 : ∀ w ∈ u_ws RX12 TX12 22, w ∈ wsX12_keepsHeard := fun w h => List.mem_cons_of_mem _ (inlX12 w h)
  clear hAe hD0 B
  unfold wp_X12_keepsHeard at hw
  generalize hQe : MQ below _ _ s _ _ _ = Q0
  generalize ([.ref h0] : List Value).toArray = av at *
  obtain ⟨H, hH⟩ : ∃ H, H = s.heap := ⟨_, rfl⟩
  obtain ⟨locs, hlo⟩ : ∃ L : List Loc, L = [] := ⟨_, rfl⟩
  replace hP : va_P (dC, dI) vwCl (w_X12_keepsHeard h0 h_row h_kept h_isKept h_aside h_eight h_rows h_scales h_dealt h_bytes h_heardRow h_made h_comes h_backs h_fresh cy c_thrown c_nodeS c_nodeD c_pairE c_pairO c_bit c_lag c_lagSum c_row c_comes) H := by rw [hH]; exact hP
  replace hS : va_S A s.heap H locs := by rw [hH, hlo]; exact hS
  suffices hgo : W p l e ({ frames := 0, cells := 0, slots := 0, locals := 0 }) s m av below meth c H locs 0 0 Q0 (F0 m 0 ls []) by rw [hH, hlo] at hgo; exact hgo
  clear hH hlo
  refine lv_iconst (v := 0) hx hb dX12_keepsHeard_0 (by decide) ?_
  refine lv_istore_n (lv' := [(1, .int (0 : Int32)), (0, .ref h0)]) hx hb dX12_keepsHeard_1 rfl hl (by decide) rfl ?_; clear hl; clear ls; intro ls hl
  obtain ⟨x1, e_x1⟩ : ∃ y : Int32, y = (0 : Int32) := ⟨_, rfl⟩
  replace hw := hw x1 e_x1
  replace hl : lv_has ls 4 [(1, .int x1), (0, .ref h0)] := by rw [e_x1]; exact hl
  clear e_x1
  replace hl := lv_sub (l' := [(1, .int x1), (0, .ref h0)]) hl [0, 1] rfl
  revert hl; revert hS; revert hD; revert hP; revert ls; revert locs; revert H
  revert hw; revert c_row; revert x1
  refine Lz2_gr ?_; intro g2 ih3 x4 f5 hw
  intro H locs ls hP hD hS hl
  refine lv_iload_n hx hb dX12_keepsHeard_2 rfl (lv_at hl 0 rfl) ?_
  refine lv_iconst (v := 2) hx hb dX12_keepsHeard_3 (by decide) ?_
  refine lv_icmp_ge (tgt := 96) hx hb dX12_keepsHeard_4 (by decide) (fun c6 => ?_) (fun c6 => ?_)
  · replace hw := hw.1 c6; clear c6
    clear ih3
    subst hQe
    exact W.vret hx hb hr (fun t ht hW => ⟨⟨f5, rfl, hw, by rw [ht]; exact hP, va_K.moved hW.alike hK, hD⟩, hS.F ht⟩) hS.2.2 dX12_keepsHeard_96
  · replace hw := hw.2 c6; clear c6
    refine lv_bipush (v := 109) hx hb dX12_keepsHeard_7 (by decide) ?_
    refine lv_sipush (v := 192) hx hb dX12_keepsHeard_9 (by decide) ?_
    refine lv_iload_n hx hb dX12_keepsHeard_12 rfl (lv_at hl 0 rfl) ?_
    refine lv_imul hx hb dX12_keepsHeard_13 ?_
    refine lv_iadd hx hb dX12_keepsHeard_14 ?_
    refine lv_topi (fun x7 e_x7 => ?_)
    replace hw := hw x7 e_x7
    clear e_x7
    refine lv_istore_n (lv' := [(2, .int x7), (1, .int x4), (0, .ref h0)]) hx hb dX12_keepsHeard_15 rfl hl (by decide) rfl ?_; clear hl; clear ls; intro ls hl
    refine lv_iconst (v := 0) hx hb dX12_keepsHeard_16 (by decide) ?_
    refine lv_istore_n (lv' := [(3, .int (0 : Int32)), (2, .int x7), (1, .int x4), (0, .ref h0)]) hx hb dX12_keepsHeard_17 rfl hl (by decide) rfl ?_; clear hl; clear ls; intro ls hl
    obtain ⟨x8, e_x8⟩ : ∃ y : Int32, y = (0 : Int32) := ⟨_, rfl⟩
    replace hw := hw x8 e_x8
    replace hl : lv_has ls 4 [(3, .int x8), (2, .int x7), (1, .int x4), (0, .ref h0)] := by rw [e_x8]; exact hl
    clear e_x8
    replace hl := lv_sub (l' := [(3, .int x8), (2, .int x7), (1, .int x4), (0, .ref h0)]) hl [0, 1, 2, 3] rfl
    revert hl; revert hS; revert hD; revert hP; revert ls; revert locs; revert H
    revert hw; revert f5; revert x8
    refine Lz2_gr ?_; intro g9 ih10 x11 f12 hw
    intro H locs ls hP hD hS hl
    refine lv_iload_n hx hb dX12_keepsHeard_18 rfl (lv_at hl 0 rfl) ?_
    refine lv_sipush (v := 160) hx hb dX12_keepsHeard_19 (by decide) ?_
    refine lv_icmp_ge (tgt := 50) hx hb dX12_keepsHeard_22 (by decide) (fun c13 => ?_) (fun c13 => ?_)
    · replace hw := hw.1 c13; clear c13
      clear ih10
      refine lv_iconst (v := 0) hx hb dX12_keepsHeard_50 (by decide) ?_
      refine lv_istore_n (lv' := [(3, .int (0 : Int32)), (2, .int x7), (1, .int x4), (0, .ref h0)]) hx hb dX12_keepsHeard_51 rfl hl (by decide) rfl ?_; clear hl; clear ls; intro ls hl
      obtain ⟨x14, e_x14⟩ : ∃ y : Int32, y = (0 : Int32) := ⟨_, rfl⟩
      replace hw := hw x14 e_x14
      replace hl : lv_has ls 4 [(3, .int x14), (2, .int x7), (1, .int x4), (0, .ref h0)] := by rw [e_x14]; exact hl
      clear e_x14
      replace hl := lv_sub (l' := [(3, .int x14), (2, .int x7), (1, .int x4), (0, .ref h0)]) hl [0, 1, 2, 3] rfl
      revert hl; revert hS; revert hD; revert hP; revert ls; revert locs; revert H
      revert hw; revert f12; revert x14
      refine Lz2_gr ?_; intro g15 ih16 x17 f18 hw
      intro H locs ls hP hD hS hl
      refine lv_iload_n hx hb dX12_keepsHeard_52 rfl (lv_at hl 0 rfl) ?_
      refine lv_bipush (v := 32) hx hb dX12_keepsHeard_53 (by decide) ?_
      refine lv_icmp_ge (tgt := 90) hx hb dX12_keepsHeard_55 (by decide) (fun c19 => ?_) (fun c19 => ?_)
      · replace hw := hw.1 c19; clear c19
        clear ih16
        refine lv_iinc (v := x4 + 1) (lv' := [(1, .int (x4 + 1)), (3, .int x17), (2, .int x7), (0, .ref h0)]) hx hb dX12_keepsHeard_90 hl (k := 2) rfl rfl (by decide) rfl ?_; clear hl; clear ls; intro ls hl
        refine lv_goto (tgt := 2) hx hb dX12_keepsHeard_93 (by decide) ?_
        exact ih3 (x4 + 1) f18 hw H locs ls hP hD hS (lv_sub hl [0, 3] rfl)
      · replace hw := hw.2 c19; clear c19
        refine lv_aload_n hx hb dX12_keepsHeard_58 rfl (lv_at hl 3 rfl) ?_
        refine va_get (D := (dC, dI)) (ci := 12) (v := .ref h_row) (C := RX12) (T := TX12) (N := 22) hx hb hts inX12 hown hK hP 0 rfl rfl 1 (by decide) (hts _ (List.mem_cons_of_mem _ mw_169)) (fun _ h9 => h9) rfl dX12_keepsHeard_59 ?_
        refine lv_iload_n hx hb dX12_keepsHeard_62 rfl (lv_at hl 1 rfl) ?_
        refine lv_sipush (v := 192) hx hb dX12_keepsHeard_63 (by decide) ?_
        refine lv_iadd hx hb dX12_keepsHeard_66 ?_
        refine lv_bipush (v := 32) hx hb dX12_keepsHeard_67 (by decide) ?_
        refine lv_isub hx hb dX12_keepsHeard_69 ?_
        refine lv_iload_n hx hb dX12_keepsHeard_70 rfl (lv_at hl 0 rfl) ?_
        refine lv_iadd hx hb dX12_keepsHeard_71 ?_
        refine lv_aload_n hx hb dX12_keepsHeard_72 rfl (lv_at hl 3 rfl) ?_
        refine va_get (D := (dC, dI)) (ci := 12) (v := .ref h_comes) (C := RX12) (T := TX12) (N := 22) hx hb hts inX12 hown hK hP 0 rfl rfl 19 (by decide) (hts _ (List.mem_cons_of_mem _ mw_181)) (fun _ h9 => h9) rfl dX12_keepsHeard_73 ?_
        refine lv_bipush (v := 32) hx hb dX12_keepsHeard_76 (by decide) ?_
        refine lv_iload_n hx hb dX12_keepsHeard_78 rfl (lv_at hl 2 rfl) ?_
        refine lv_imul hx hb dX12_keepsHeard_79 ?_
        refine lv_iload_n hx hb dX12_keepsHeard_80 rfl (lv_at hl 0 rfl) ?_
        refine lv_iadd hx hb dX12_keepsHeard_81 ?_
        obtain ⟨h20, hw⟩ := hw
        refine xiald (k := (((32 : Int32) * x4) + x17).toNatClampNeg) hx hb hK hP 2 0 rfl rfl h20 rfl dX12_keepsHeard_82 ?_
        obtain ⟨h21, hw⟩ := hw
        refine xiast (k := (((x7 + (192 : Int32)) - (32 : Int32)) + x17).toNatClampNeg) hx hb hK hP hD hS 1 0 rfl rfl h21 rfl dX12_keepsHeard_83 ?_; clear hP hD hS; clear H locs; intro f22 e_f22 H locs hP hD hS
        replace hw := hw f22 e_f22
        clear e_f22
        replace hP : va_P (dC, dI) vwCl (w_X12_keepsHeard h0 h_row h_kept h_isKept h_aside h_eight h_rows h_scales h_dealt h_bytes h_heardRow h_made h_comes h_backs h_fresh cy c_thrown c_nodeS c_nodeD c_pairE c_pairO c_bit c_lag c_lagSum f22 c_comes) H := hP
        replace hD : va_D A (w_X12_keepsHeard h0 h_row h_kept h_isKept h_aside h_eight h_rows h_scales h_dealt h_bytes h_heardRow h_made h_comes h_backs h_fresh cy c_thrown c_nodeS c_nodeD c_pairE c_pairO c_bit c_lag c_lagSum f22 c_comes) := hD
        refine lv_iinc (v := x17 + 1) (lv' := [(3, .int (x17 + 1)), (2, .int x7), (1, .int x4), (0, .ref h0)]) hx hb dX12_keepsHeard_84 hl (k := 0) rfl rfl (by decide) rfl ?_; clear hl; clear ls; intro ls hl
        refine lv_goto (tgt := 52) hx hb dX12_keepsHeard_87 (by decide) ?_
        exact ih16 (x17 + 1) f22 hw H locs ls hP hD hS (lv_sub hl [0, 1, 2, 3] rfl)
    · replace hw := hw.2 c13; clear c13
      refine lv_aload_n hx hb dX12_keepsHeard_25 rfl (lv_at hl 3 rfl) ?_
      refine va_get (D := (dC, dI)) (ci := 12) (v := .ref h_row) (C := RX12) (T := TX12) (N := 22) hx hb hts inX12 hown hK hP 0 rfl rfl 1 (by decide) (hts _ (List.mem_cons_of_mem _ mw_169)) (fun _ h9 => h9) rfl dX12_keepsHeard_26 ?_
      refine lv_iload_n hx hb dX12_keepsHeard_29 rfl (lv_at hl 1 rfl) ?_
      refine lv_iload_n hx hb dX12_keepsHeard_30 rfl (lv_at hl 0 rfl) ?_
      refine lv_iadd hx hb dX12_keepsHeard_31 ?_
      refine lv_aload_n hx hb dX12_keepsHeard_32 rfl (lv_at hl 3 rfl) ?_
      refine va_get (D := (dC, dI)) (ci := 12) (v := .ref h_row) (C := RX12) (T := TX12) (N := 22) hx hb hts inX12 hown hK hP 0 rfl rfl 1 (by decide) (hts _ (List.mem_cons_of_mem _ mw_169)) (fun _ h9 => h9) rfl dX12_keepsHeard_33 ?_
      refine lv_iload_n hx hb dX12_keepsHeard_36 rfl (lv_at hl 1 rfl) ?_
      refine lv_iload_n hx hb dX12_keepsHeard_37 rfl (lv_at hl 0 rfl) ?_
      refine lv_iadd hx hb dX12_keepsHeard_38 ?_
      refine lv_bipush (v := 32) hx hb dX12_keepsHeard_39 (by decide) ?_
      refine lv_iadd hx hb dX12_keepsHeard_41 ?_
      obtain ⟨h23, hw⟩ := hw
      refine xiald (k := ((x7 + x11) + (32 : Int32)).toNatClampNeg) hx hb hK hP 1 0 rfl rfl h23 rfl dX12_keepsHeard_42 ?_
      obtain ⟨h24, hw⟩ := hw
      refine xiast (k := (x7 + x11).toNatClampNeg) hx hb hK hP hD hS 1 0 rfl rfl h24 rfl dX12_keepsHeard_43 ?_; clear hP hD hS; clear H locs; intro f25 e_f25 H locs hP hD hS
      replace hw := hw f25 e_f25
      clear e_f25
      replace hP : va_P (dC, dI) vwCl (w_X12_keepsHeard h0 h_row h_kept h_isKept h_aside h_eight h_rows h_scales h_dealt h_bytes h_heardRow h_made h_comes h_backs h_fresh cy c_thrown c_nodeS c_nodeD c_pairE c_pairO c_bit c_lag c_lagSum f25 c_comes) H := hP
      replace hD : va_D A (w_X12_keepsHeard h0 h_row h_kept h_isKept h_aside h_eight h_rows h_scales h_dealt h_bytes h_heardRow h_made h_comes h_backs h_fresh cy c_thrown c_nodeS c_nodeD c_pairE c_pairO c_bit c_lag c_lagSum f25 c_comes) := hD
      refine lv_iinc (v := x11 + 1) (lv' := [(3, .int (x11 + 1)), (2, .int x7), (1, .int x4), (0, .ref h0)]) hx hb dX12_keepsHeard_44 hl (k := 0) rfl rfl (by decide) rfl ?_; clear hl; clear ls; intro ls hl
      refine lv_goto (tgt := 18) hx hb dX12_keepsHeard_47 (by decide) ?_
      exact ih10 (x11 + 1) f25 hw H locs ls hP hD hS (lv_sub hl [0, 1, 2, 3] rfl)
set_option maxHeartbeats 4000000 in
set_option maxRecDepth 100000 in
theorem c_X12_hears (l : Launch) (dC : Nat → ClassId) (dI : Nat → Nat → Nat) (cy : Nat → ClassId) (h0 h_row h_kept h_isKept h_aside h_eight h_rows h_scales h_dealt h_bytes h_heardRow h_made h_comes h_backs h_fresh : Nat) (sz : Nat) (v1 : Int32) (c_thrown : Int32) (c_nodeS : Int32) (c_nodeD : Int32) (c_pairE : Int32) (c_pairO : Int32) (c_bit : Int32) (c_lag : Int32) (c_lagSum : Int32) (c_bytes : Nat → Int32) (c_scales : Nat → Int32) (c_dealt : Nat → Int32) (c_row : Nat → Int32) (c_backs : Nat → Int32) (c_eight : Nat → Int32) (c_rows : Nat → Int32) (c_comes : Nat → Int32) (post : Int32 → Int32 → Int32 → (Nat → Int32) → (Nat → Int32) → (Nat → Int32) → (Nat → Int32) → (Nat → Int32) → (Nat → Int32) → (Nat → Int32) → Prop) (hw : wp_X12_hears v1 c_pairE c_pairO c_bit c_bytes c_scales c_dealt c_row c_backs c_eight c_rows c_comes post) : Met l yX12_hears wsX12_hears ({ frames := 3, cells := 0, slots := 0, locals := 72 }) (PX dC dI cy [.ref h0, .int v1] sz (w_X12_hears h0 h_row h_kept h_isKept h_aside h_eight h_rows h_scales h_dealt h_bytes h_heardRow h_made h_comes h_backs h_fresh cy c_thrown c_nodeS c_nodeD c_pairE c_pairO c_bit c_lag c_lagSum c_bytes c_scales c_dealt c_row c_backs c_eight c_rows c_comes)) (va_Qv (fun (u : Int32 × Int32 × Int32 × (Nat → Int32) × (Nat → Int32) × (Nat → Int32) × (Nat → Int32) × (Nat → Int32) × (Nat → Int32) × (Nat → Int32)) => post u.1 u.2.1 u.2.2.1 u.2.2.2.1 u.2.2.2.2.1 u.2.2.2.2.2.1 u.2.2.2.2.2.2.1 u.2.2.2.2.2.2.2.1 u.2.2.2.2.2.2.2.2.1 u.2.2.2.2.2.2.2.2.2) (QX dC dI cy (va_A (w_X12_hears h0 h_row h_kept h_isKept h_aside h_eight h_rows h_scales h_dealt h_bytes h_heardRow h_made h_comes h_backs h_fresh cy c_thrown c_nodeS c_nodeD c_pairE c_pairO c_bit c_lag c_lagSum c_bytes c_scales c_dealt c_row c_backs c_eight c_rows c_comes) sz) (fun (u : Int32 × Int32 × Int32 × (Nat → Int32) × (Nat → Int32) × (Nat → Int32) × (Nat → Int32) × (Nat → Int32) × (Nat → Int32) × (Nat → Int32)) => w_X12_hears h0 h_row h_kept h_isKept h_aside h_eight h_rows h_scales h_dealt h_bytes h_heardRow h_made h_comes h_backs h_fresh cy c_thrown c_nodeS c_nodeD u.1 u.2.1 u.2.2.1 c_lag c_lagSum c_bytes u.2.2.2.1 u.2.2.2.2.1 u.2.2.2.2.2.1 u.2.2.2.2.2.2.1 u.2.2.2.2.2.2.2.1 u.2.2.2.2.2.2.2.2.1 u.2.2.2.2.2.2.2.2.2)) (va_A (w_X12_hears h0 h_row h_kept h_isKept h_aside h_eight h_rows h_scales h_dealt h_bytes h_heardRow h_made h_comes h_backs h_fresh cy c_thrown c_nodeS c_nodeD c_pairE c_pairO c_bit c_lag c_lagSum c_bytes c_scales c_dealt c_row c_backs c_eight c_rows c_comes) sz)) 0 0 (va_A (w_X12_hears h0 h_row h_kept h_isKept h_aside h_eight h_rows h_scales h_dealt h_bytes h_heardRow h_made h_comes h_backs h_fresh cy c_thrown c_nodeS c_nodeD c_pairE c_pairO c_bit c_lag c_lagSum c_bytes c_scales c_dealt c_row c_backs c_eight c_rows c_comes) sz) := by
  refine Met.ofW (cc := cX12_hears) (maxL := 8) (ret := none) (by decide) rfl ?_
  intro p e s m args below meth c s₁ B hml hv
  obtain ⟨rfl, hsz, hP, hK, hD0, hG⟩ := hv
  have hx := B.exec
  have hb := B.bytes
  have hr := B.returns
  have hts := atoms_spec (ws := wsX12_hears) B.pre
  have hown : s.vm.findClass RX12 = some m.cls := findClass_of_methodNamed B.named
  have hlocks := B.notSynchronized
  subst hsz
  have hD := hD0.self (sz := s.heap.size)
  generalize hAe : va_A (w_X12_hears h0 h_row h_kept h_isKept h_aside h_eight h_rows h_scales h_dealt h_bytes h_heardRow h_made h_comes h_backs h_fresh cy c_thrown c_nodeS c_nodeD c_pairE c_pairO c_bit c_lag c_lagSum c_bytes c_scales c_dealt c_row c_backs c_eight c_rows c_comes) s.heap.size = A at hD ⊢
  have hA : ∀ q : Nat, s.heap.size ≤ q → A q := fun q h => by rw [← hAe]; exact Or.inr h
  have hS : va_S A s.heap s.heap [] := va_S.rf
  have hl := lv_entry ([.ref h0, .int v1]) (n := 8) (Nat.le_of_ble_eq_true rfl)
  rw [lg_entry_eq]
  generalize (lg_sl ([.ref h0, .int v1]) ++ List.replicate (8 - (lg_sl ([.ref h0, .int v1])).length) Slot.unset).toArray = ls at hl ⊢
  replace hl : lv_has ls 8 [(0, .ref h0), (1, .int v1)] := hl
  have inX12 : ∀ w ∈ u_ws RX12 TX12 22, w ∈ wsX12_hears := fun w h => List.mem_cons_of_mem _ (inlX12 w h)
  clear hAe hD0 B
  unfold wp_X12_hears at hw
  generalize hQe : MQ below _ _ s _ _ _ = Q0
  generalize ([.ref h0, .int v1] : List Value).toArray = av at *
  obtain ⟨H, hH⟩ : ∃ H, H = s.heap := ⟨_, rfl⟩
  obtain ⟨locs, hlo⟩ : ∃ L : List Loc, L = [] := ⟨_, rfl⟩
  replace hP : va_P (dC, dI) vwCl (w_X12_hears h0 h_row h_kept h_isKept h_aside h_eight h_rows h_scales h_dealt h_bytes h_heardRow h_made h_comes h_backs h_fresh cy c_thrown c_nodeS c_nodeD c_pairE c_pairO c_bit c_lag c_lagSum c_bytes c_scales c_dealt c_row c_backs c_eight c_rows c_comes) H := by rw [hH]; exact hP
  replace hS : va_S A s.heap H locs := by rw [hH, hlo]; exact hS
  suffices hgo : W p l e ({ frames := 3, cells := 0, slots := 0, locals := 72 }) s m av below meth c H locs 0 0 Q0 (F0 m 0 ls []) by rw [hH, hlo] at hgo; exact hgo
  clear hH hlo
  refine lv_bipush (v := 8) hx hb dX12_hears_0 (by decide) ?_
  refine lv_iload_n hx hb dX12_hears_2 rfl (lv_at hl 1 rfl) ?_
  refine lv_imul hx hb dX12_hears_3 ?_
  refine lv_topi (fun x1 e_x1 => ?_)
  replace hw := hw x1 e_x1
  clear e_x1
  refine lv_istore_n (lv' := [(2, .int x1), (0, .ref h0), (1, .int v1)]) hx hb dX12_hears_4 rfl hl (by decide) rfl ?_; clear hl; clear ls; intro ls hl
  refine lv_aload_n hx hb dX12_hears_5 rfl (lv_at hl 1 rfl) ?_
  refine lv_bipush (v := 40) hx hb dX12_hears_6 (by decide) ?_
  refine va_put (D := (dC, dI)) (ci := 12) (v := .int (40 : Int32)) (ty := .int) (C := RX12) (T := TX12) (N := 22) hx hb hts inX12 tyX12 tyX12_ok nmX12 hown hK hP hD hS 0 rfl rfl 14 (by decide) (hts _ (List.mem_cons_of_mem _ mw_656)) (fun _ h9 => h9) rfl (by decide +kernel) rfl rfl (Nat.le_of_ble_eq_true rfl) dX12_hears_8 ?_; clear hP hD hS; clear H locs; intro H locs hP hD hS
  replace hP : va_P (dC, dI) vwCl (w_X12_hears h0 h_row h_kept h_isKept h_aside h_eight h_rows h_scales h_dealt h_bytes h_heardRow h_made h_comes h_backs h_fresh cy c_thrown c_nodeS c_nodeD c_pairE c_pairO (40 : Int32) c_lag c_lagSum c_bytes c_scales c_dealt c_row c_backs c_eight c_rows c_comes) H := hP
  replace hD : va_D A (w_X12_hears h0 h_row h_kept h_isKept h_aside h_eight h_rows h_scales h_dealt h_bytes h_heardRow h_made h_comes h_backs h_fresh cy c_thrown c_nodeS c_nodeD c_pairE c_pairO (40 : Int32) c_lag c_lagSum c_bytes c_scales c_dealt c_row c_backs c_eight c_rows c_comes) := hD
  refine lv_iconst (v := 0) hx hb dX12_hears_11 (by decide) ?_
  refine lv_istore_n (lv' := [(3, .int (0 : Int32)), (2, .int x1), (0, .ref h0), (1, .int v1)]) hx hb dX12_hears_12 rfl hl (by decide) rfl ?_; clear hl; clear ls; intro ls hl
  obtain ⟨x2, e_x2⟩ : ∃ y : Int32, y = (0 : Int32) := ⟨_, rfl⟩
  replace hw := hw x2 e_x2
  replace hl : lv_has ls 8 [(3, .int x2), (2, .int x1), (0, .ref h0), (1, .int v1)] := by rw [e_x2]; exact hl
  clear e_x2
  obtain ⟨x3, e_x3⟩ : ∃ y : Int32, y = (40 : Int32) := ⟨_, rfl⟩
  replace hw := hw x3 e_x3
  replace hP : va_P (dC, dI) vwCl (w_X12_hears h0 h_row h_kept h_isKept h_aside h_eight h_rows h_scales h_dealt h_bytes h_heardRow h_made h_comes h_backs h_fresh cy c_thrown c_nodeS c_nodeD c_pairE c_pairO x3 c_lag c_lagSum c_bytes c_scales c_dealt c_row c_backs c_eight c_rows c_comes) H ∧ va_D A (w_X12_hears h0 h_row h_kept h_isKept h_aside h_eight h_rows h_scales h_dealt h_bytes h_heardRow h_made h_comes h_backs h_fresh cy c_thrown c_nodeS c_nodeD c_pairE c_pairO x3 c_lag c_lagSum c_bytes c_scales c_dealt c_row c_backs c_eight c_rows c_comes) := (by rw [e_x3]; exact ⟨hP, hD⟩); clear hD; obtain ⟨hP, hD⟩ := hP
  clear e_x3
  replace hl := lv_sub (l' := [(3, .int x2), (2, .int x1), (0, .ref h0)]) hl [0, 1, 2] rfl
  revert hl; revert hS; revert hD; revert hP; revert ls; revert locs; revert H
  revert hw; revert c_scales; revert x3; revert x2
  refine Lz3_gr ?_; intro g4 ih5 x6 x7 f8 hw
  intro H locs ls hP hD hS hl
  refine lv_iload_n hx hb dX12_hears_13 rfl (lv_at hl 0 rfl) ?_
  refine lv_bipush (v := 16) hx hb dX12_hears_14 (by decide) ?_
  refine lv_icmp_ge (tgt := 37) hx hb dX12_hears_16 (by decide) (fun c9 => ?_) (fun c9 => ?_)
  · replace hw := hw.1 c9; clear c9
    clear ih5
    refine lv_aload_n hx hb dX12_hears_37 rfl (lv_at hl 2 rfl) ?_
    refine lv_aload_n hx hb dX12_hears_38 rfl (lv_at hl 2 rfl) ?_
    refine va_get (D := (dC, dI)) (ci := 12) (v := .ref h_bytes) (C := RX12) (T := TX12) (N := 22) hx hb hts inX12 hown hK hP 0 rfl rfl 13 (by decide) (hts _ (List.mem_cons_of_mem _ mw_178)) (fun _ h9 => h9) rfl dX12_hears_39 ?_
    refine lv_iconst (v := 2) hx hb dX12_hears_42 (by decide) ?_
    refine xiald (k := 2) hx hb hK hP 1 0 rfl rfl (vpL 2 160 rfl) (by decide) dX12_hears_43 ?_
    refine lv_aload_n hx hb dX12_hears_44 rfl (lv_at hl 2 rfl) ?_
    refine va_get (D := (dC, dI)) (ci := 12) (v := .ref h_bytes) (C := RX12) (T := TX12) (N := 22) hx hb hts inX12 hown hK hP 0 rfl rfl 13 (by decide) (hts _ (List.mem_cons_of_mem _ mw_178)) (fun _ h9 => h9) rfl dX12_hears_45 ?_
    refine lv_iconst (v := 1) hx hb dX12_hears_48 (by decide) ?_
    refine xiald (k := 1) hx hb hK hP 1 0 rfl rfl (vpL 1 160 rfl) (by decide) dX12_hears_49 ?_
    refine lv_bipush (v := 7) hx hb dX12_hears_50 (by decide) ?_
    refine lv_ishr hx hb dX12_hears_52 ?_
    have hPc := pSub (ws' := (w_X12_deal h0 h_row h_kept h_isKept h_aside h_eight h_rows h_scales h_dealt h_bytes h_heardRow h_made h_comes h_backs h_fresh cy c_thrown c_nodeS c_nodeD c_pairE c_pairO x7 c_lag c_lagSum c_dealt f8 c_row)) hP [0, 3, 2, 4] rfl
    have hDc := dSub (ws' := (w_X12_deal h0 h_row h_kept h_isKept h_aside h_eight h_rows h_scales h_dealt h_bytes h_heardRow h_made h_comes h_backs h_fresh cy c_thrown c_nodeS c_nodeD c_pairE c_pairO x7 c_lag c_lagSum c_dealt f8 c_row)) hD [0, 3, 2, 4] (by decide) rfl
    have hFc := va_free (wc := (w_X12_deal h0 h_row h_kept h_isKept h_aside h_eight h_rows h_scales h_dealt h_bytes h_heardRow h_made h_comes h_backs h_fresh cy c_thrown c_nodeS c_nodeD c_pairE c_pairO x7 c_lag c_lagSum c_dealt f8 c_row)) hD hS hA [0, 3, 2, 4] rfl
    refine va_callv (va_runV (As := [.int (c_bytes 2), .int ((c_bytes 1) >>> ((7 : Int32) &&& 31))]) (rest := []) ⟨hx, hb, hml, hown, hts⟩ (c_X12_deal l dC dI cy h0 h_row h_kept h_isKept h_aside h_eight h_rows h_scales h_dealt h_bytes h_heardRow h_made h_comes h_backs h_fresh H.size (c_bytes 2) ((c_bytes 1) >>> ((7 : Int32) &&& 31)) c_thrown c_nodeS c_nodeD c_pairE c_pairO x7 c_lag c_lagSum c_dealt f8 c_row _ hw) (cwV 2 hts (goodV mw_664 mw_661 mw_662 mw_663 mw_5) rfl rfl rfl (by decide +kernel) ⟨Nat.le_of_ble_eq_true rfl, Nat.le_of_ble_eq_true rfl⟩) ⟨PX_blind, va_recv hK hPc (ci := 12) (q0 := 0) rfl rfl, PX_pre hPc hK hDc hG⟩ rfl rfl hl.1 rfl (lv_room (Nat.le_of_ble_eq_true rfl)) dX12_hears_53 ⟨Nat.zero_le _, Nat.zero_le _⟩) hS (fun q _ h => hFc q h) hFc ?_; clear hw hS; intro f12 t H1 locs1 ht hvm hw hB hz1 hk1 hS
    obtain ⟨hP1, -, -⟩ := hB
    rw [ht] at hP1
    replace hP := jC0 hP hD [0, 3, 2, 4] [1, 5, 6, 7, 8] rfl hk1 hP1 (w_X12_hears h0 h_row h_kept h_isKept h_aside h_eight h_rows h_scales h_dealt h_bytes h_heardRow h_made h_comes h_backs h_fresh cy c_thrown c_nodeS c_nodeD c_pairE c_pairO x7 c_lag c_lagSum c_bytes f8 f12 c_row c_backs c_eight c_rows c_comes) rfl rfl rfl 9 rfl (by decide +kernel); clear hD; obtain ⟨hP, hD⟩ := hP
    replace hP : va_P (dC, dI) vwCl (w_X12_hears h0 h_row h_kept h_isKept h_aside h_eight h_rows h_scales h_dealt h_bytes h_heardRow h_made h_comes h_backs h_fresh cy c_thrown c_nodeS c_nodeD c_pairE c_pairO x7 c_lag c_lagSum c_bytes f8 f12 c_row c_backs c_eight c_rows c_comes) H1 := hP
    replace hD : va_D A (w_X12_hears h0 h_row h_kept h_isKept h_aside h_eight h_rows h_scales h_dealt h_bytes h_heardRow h_made h_comes h_backs h_fresh cy c_thrown c_nodeS c_nodeD c_pairE c_pairO x7 c_lag c_lagSum c_bytes f8 f12 c_row c_backs c_eight c_rows c_comes) := hD
    clear hPc hDc hFc hP1 hk1 hz1 hvm ht; clear t; clear H locs; obtain ⟨H, hH⟩ : ∃ H, H = H1 := ⟨_, rfl⟩; obtain ⟨locs, hlo⟩ : ∃ L, L = locs1 := ⟨_, rfl⟩; subst hH; subst hlo
    refine W.widen (k := 0) (n := 0) (Nat.le_refl 0) (Nat.le_refl 0) ?_
    refine lv_iconst (v := 0) hx hb dX12_hears_56 (by decide) ?_
    refine lv_istore_n (lv' := [(3, .int (0 : Int32)), (2, .int x1), (0, .ref h0)]) hx hb dX12_hears_57 rfl hl (by decide) rfl ?_; clear hl; clear ls; intro ls hl
    obtain ⟨x13, e_x13⟩ : ∃ y : Int32, y = (0 : Int32) := ⟨_, rfl⟩
    replace hw := hw x13 e_x13
    replace hl : lv_has ls 8 [(3, .int x13), (2, .int x1), (0, .ref h0)] := by rw [e_x13]; exact hl
    clear e_x13
    replace hl := lv_sub (l' := [(3, .int x13), (2, .int x1), (0, .ref h0)]) hl [0, 1, 2] rfl
    revert hl; revert hS; revert hD; revert hP; revert ls; revert locs; revert H
    revert hw; revert c_backs; revert x7; revert x13
    refine Lz3_gr ?_; intro g14 ih15 x16 x17 f18 hw
    intro H locs ls hP hD hS hl
    refine lv_iload_n hx hb dX12_hears_58 rfl (lv_at hl 0 rfl) ?_
    refine lv_iconst (v := 4) hx hb dX12_hears_59 (by decide) ?_
    refine lv_icmp_ge (tgt := 139) hx hb dX12_hears_60 (by decide) (fun c19 => ?_) (fun c19 => ?_)
    · replace hw := hw.1 c19; clear c19
      clear ih15
      refine lv_iconst (v := 0) hx hb dX12_hears_139 (by decide) ?_
      refine lv_istore_n (lv' := [(3, .int (0 : Int32)), (2, .int x1), (0, .ref h0)]) hx hb dX12_hears_140 rfl hl (by decide) rfl ?_; clear hl; clear ls; intro ls hl
      obtain ⟨x20, e_x20⟩ : ∃ y : Int32, y = (0 : Int32) := ⟨_, rfl⟩
      replace hw := hw x20 e_x20
      replace hl : lv_has ls 8 [(3, .int x20), (2, .int x1), (0, .ref h0)] := by rw [e_x20]; exact hl
      clear e_x20
      replace hl := lv_sub (l' := [(3, .int x20), (0, .ref h0)]) hl [0, 2] rfl
      revert hl; revert hS; revert hD; revert hP; revert ls; revert locs; revert H
      revert hw; revert f18; revert x20
      refine Lz2_gr ?_; intro g21 ih22 x23 f24 hw
      intro H locs ls hP hD hS hl
      refine lv_iload_n hx hb dX12_hears_141 rfl (lv_at hl 0 rfl) ?_
      refine lv_bipush (v := 8) hx hb dX12_hears_142 (by decide) ?_
      refine lv_icmp_ge (tgt := 252) hx hb dX12_hears_144 (by decide) (fun c25 => ?_) (fun c25 => ?_)
      · replace hw := hw.1 c25; clear c25
        clear ih22
        refine lv_iconst (v := 0) hx hb dX12_hears_252 (by decide) ?_
        refine lv_istore_n (lv' := [(3, .int (0 : Int32)), (0, .ref h0)]) hx hb dX12_hears_253 rfl hl (by decide) rfl ?_; clear hl; clear ls; intro ls hl
        obtain ⟨x26, e_x26⟩ : ∃ y : Int32, y = (0 : Int32) := ⟨_, rfl⟩
        replace hw := hw x26 e_x26
        replace hl : lv_has ls 8 [(3, .int x26), (0, .ref h0)] := by rw [e_x26]; exact hl
        clear e_x26
        replace hl := lv_sub (l' := [(3, .int x26), (0, .ref h0)]) hl [0, 1] rfl
        revert hl; revert hS; revert hD; revert hP; revert ls; revert locs; revert H
        revert hw; revert c_comes; revert c_rows; revert c_eight; revert c_row; revert c_pairO; revert c_pairE; revert x26
        refine Lz7_gr ?_; intro g27 ih28 x29 x30 x31 f32 f33 f34 f35 hw
        intro H locs ls hP hD hS hl
        refine lv_iload_n hx hb dX12_hears_254 rfl (lv_at hl 0 rfl) ?_
        refine lv_iconst (v := 2) hx hb dX12_hears_255 (by decide) ?_
        refine lv_icmp_ge (tgt := 382) hx hb dX12_hears_256 (by decide) (fun c36 => ?_) (fun c36 => ?_)
        · replace hw := hw.1 c36; clear c36
          clear ih28
          subst hQe
          exact W.vret hx hb hr (fun t ht hW => ⟨⟨(x30, x31, x17, f8, f12, f32, f24, f33, f34, f35), rfl, hw, by rw [ht]; exact hP, va_K.moved hW.alike hK, hD⟩, hS.F ht⟩) hS.2.2 dX12_hears_382
        · replace hw := hw.2 c36; clear c36
          refine lv_iconst (v := 0) hx hb dX12_hears_259 (by decide) ?_
          refine lv_istore (lv' := [(4, .int (0 : Int32)), (3, .int x29), (0, .ref h0)]) hx hb dX12_hears_260 hl (by decide) rfl ?_; clear hl; clear ls; intro ls hl
          obtain ⟨x37, e_x37⟩ : ∃ y : Int32, y = (0 : Int32) := ⟨_, rfl⟩
          replace hw := hw x37 e_x37
          replace hl : lv_has ls 8 [(4, .int x37), (3, .int x29), (0, .ref h0)] := by rw [e_x37]; exact hl
          clear e_x37
          replace hl := lv_sub (l' := [(4, .int x37), (3, .int x29), (0, .ref h0)]) hl [0, 1, 2] rfl
          revert hl; revert hS; revert hD; revert hP; revert ls; revert locs; revert H
          revert hw; revert f35; revert f34; revert f33; revert f32; revert x31; revert x30; revert x37
          refine Lz7_gr ?_; intro g38 ih39 x40 x41 x42 f43 f44 f45 f46 hw
          intro H locs ls hP hD hS hl
          refine lv_iload hx hb dX12_hears_262 (lv_at hl 0 rfl) ?_
          refine lv_iconst (v := 4) hx hb dX12_hears_264 (by decide) ?_
          refine lv_icmp_ge (tgt := 376) hx hb dX12_hears_265 (by decide) (fun c47 => ?_) (fun c47 => ?_)
          · replace hw := hw.1 c47; clear c47
            clear ih39
            refine lv_iinc (v := x29 + 1) (lv' := [(3, .int (x29 + 1)), (4, .int x40), (0, .ref h0)]) hx hb dX12_hears_376 hl (k := 1) rfl rfl (by decide) rfl ?_; clear hl; clear ls; intro ls hl
            refine lv_goto (tgt := 254) hx hb dX12_hears_379 (by decide) ?_
            exact ih28 (x29 + 1) x41 x42 f43 f44 f45 f46 hw H locs ls hP hD hS (lv_sub hl [0, 2] rfl)
          · replace hw := hw.2 c47; clear c47
            refine lv_iconst (v := 0) hx hb dX12_hears_268 (by decide) ?_
            refine lv_istore (lv' := [(5, .int (0 : Int32)), (4, .int x40), (3, .int x29), (0, .ref h0)]) hx hb dX12_hears_269 hl (by decide) rfl ?_; clear hl; clear ls; intro ls hl
            obtain ⟨x48, e_x48⟩ : ∃ y : Int32, y = (0 : Int32) := ⟨_, rfl⟩
            replace hw := hw x48 e_x48
            replace hl : lv_has ls 8 [(5, .int x48), (4, .int x40), (3, .int x29), (0, .ref h0)] := by rw [e_x48]; exact hl
            clear e_x48
            replace hl := lv_sub (l' := [(5, .int x48), (4, .int x40), (3, .int x29), (0, .ref h0)]) hl [0, 1, 2, 3] rfl
            revert hl; revert hS; revert hD; revert hP; revert ls; revert locs; revert H
            revert hw; revert f44; revert x48
            refine Lz2_gr ?_; intro g49 ih50 x51 f52 hw
            intro H locs ls hP hD hS hl
            refine lv_iload hx hb dX12_hears_271 (lv_at hl 0 rfl) ?_
            refine lv_bipush (v := 8) hx hb dX12_hears_273 (by decide) ?_
            refine lv_icmp_ge (tgt := 304) hx hb dX12_hears_275 (by decide) (fun c53 => ?_) (fun c53 => ?_)
            · replace hw := hw.1 c53; clear c53
              clear ih50
              refine lv_aload_n hx hb dX12_hears_304 rfl (lv_at hl 3 rfl) ?_
              refine lv_aload_n hx hb dX12_hears_305 rfl (lv_at hl 3 rfl) ?_
              refine va_get (D := (dC, dI)) (ci := 12) (v := .ref h_row) (C := RX12) (T := TX12) (N := 22) hx hb hts inX12 hown hK hP 0 rfl rfl 1 (by decide) (hts _ (List.mem_cons_of_mem _ mw_169)) (fun _ h9 => h9) rfl dX12_hears_306 ?_
              refine lv_bipush (v := 81) hx hb dX12_hears_309 (by decide) ?_
              refine lv_bipush (v := 14) hx hb dX12_hears_311 (by decide) ?_
              refine lv_iload_n hx hb dX12_hears_313 rfl (lv_at hl 2 rfl) ?_
              refine lv_imul hx hb dX12_hears_314 ?_
              refine lv_iadd hx hb dX12_hears_315 ?_
              have hPc := pSub (ws' := (w_X12_joinBlock h0 h_row h_kept h_isKept h_aside h_eight h_rows h_scales h_dealt h_bytes h_heardRow h_made h_comes h_backs h_fresh h_row cy 13385 c_thrown c_nodeS c_nodeD x41 x42 x17 c_lag c_lagSum f52 f43 f45)) hP [0, 6, 4, 7] rfl
              have hDc := dSub (ws' := (w_X12_joinBlock h0 h_row h_kept h_isKept h_aside h_eight h_rows h_scales h_dealt h_bytes h_heardRow h_made h_comes h_backs h_fresh h_row cy 13385 c_thrown c_nodeS c_nodeD x41 x42 x17 c_lag c_lagSum f52 f43 f45)) hD [0, 6, 4, 7] (by decide) rfl
              have hFc := va_free (wc := (w_X12_joinBlock h0 h_row h_kept h_isKept h_aside h_eight h_rows h_scales h_dealt h_bytes h_heardRow h_made h_comes h_backs h_fresh h_row cy 13385 c_thrown c_nodeS c_nodeD x41 x42 x17 c_lag c_lagSum f52 f43 f45)) hD hS hA [0, 6, 4, 7] rfl
              refine va_callv (va_runV (As := [.ref h_row, .int ((81 : Int32) + ((14 : Int32) * x29))]) (rest := []) ⟨hx, hb, hml, hown, hts⟩ (c_X12_joinBlock l dC dI cy h0 h_row h_kept h_isKept h_aside h_eight h_rows h_scales h_dealt h_bytes h_heardRow h_made h_comes h_backs h_fresh h_row 13385 H.size ((81 : Int32) + ((14 : Int32) * x29)) c_thrown c_nodeS c_nodeD x41 x42 x17 c_lag c_lagSum f52 f43 f45 _ hw) (cwV 2 hts (goodV mw_769 mw_766 mw_767 mw_768 mw_5) rfl rfl rfl (by decide +kernel) ⟨Nat.le_of_ble_eq_true rfl, Nat.le_of_ble_eq_true rfl⟩) ⟨PX_blind, va_recv hK hPc (ci := 12) (q0 := 0) rfl rfl, PX_pre hPc hK hDc hG⟩ rfl rfl hl.1 rfl (lv_room (Nat.le_of_ble_eq_true rfl)) dX12_hears_316 ⟨Nat.zero_le _, Nat.zero_le _⟩) hS (fun q _ h => hFc q h) hFc ?_; clear hw hS; intro u t H1 locs1 ht hvm hw hB hz1 hk1 hS
              obtain ⟨x54, x55, f56, f57, f58⟩ := u
              try dsimp only at hw
              obtain ⟨hP1, -, -⟩ := hB
              rw [ht] at hP1
              replace hP := jC0 hP hD [0, 6, 4, 7] [1, 2, 3, 5, 8] rfl hk1 hP1 (w_X12_hears h0 h_row h_kept h_isKept h_aside h_eight h_rows h_scales h_dealt h_bytes h_heardRow h_made h_comes h_backs h_fresh cy c_thrown c_nodeS c_nodeD x54 x55 x17 c_lag c_lagSum c_bytes f8 f12 f57 f24 f56 f58 f46) rfl rfl rfl 9 rfl (by decide +kernel); clear hD; obtain ⟨hP, hD⟩ := hP
              replace hP : va_P (dC, dI) vwCl (w_X12_hears h0 h_row h_kept h_isKept h_aside h_eight h_rows h_scales h_dealt h_bytes h_heardRow h_made h_comes h_backs h_fresh cy c_thrown c_nodeS c_nodeD x54 x55 x17 c_lag c_lagSum c_bytes f8 f12 f57 f24 f56 f58 f46) H1 := hP
              replace hD : va_D A (w_X12_hears h0 h_row h_kept h_isKept h_aside h_eight h_rows h_scales h_dealt h_bytes h_heardRow h_made h_comes h_backs h_fresh cy c_thrown c_nodeS c_nodeD x54 x55 x17 c_lag c_lagSum c_bytes f8 f12 f57 f24 f56 f58 f46) := hD
              clear hPc hDc hFc hP1 hk1 hz1 hvm ht; clear t; clear H locs; obtain ⟨H, hH⟩ : ∃ H, H = H1 := ⟨_, rfl⟩; obtain ⟨locs, hlo⟩ : ∃ L, L = locs1 := ⟨_, rfl⟩; subst hH; subst hlo
              refine W.widen (k := 0) (n := 0) (Nat.le_refl 0) (Nat.le_refl 0) ?_
              refine lv_iconst (v := 0) hx hb dX12_hears_319 (by decide) ?_
              refine lv_istore (lv' := [(5, .int (0 : Int32)), (4, .int x40), (3, .int x29), (0, .ref h0)]) hx hb dX12_hears_320 hl (by decide) rfl ?_; clear hl; clear ls; intro ls hl
              obtain ⟨x59, e_x59⟩ : ∃ y : Int32, y = (0 : Int32) := ⟨_, rfl⟩
              replace hw := hw x59 e_x59
              replace hl : lv_has ls 8 [(5, .int x59), (4, .int x40), (3, .int x29), (0, .ref h0)] := by rw [e_x59]; exact hl
              clear e_x59
              replace hl := lv_sub (l' := [(5, .int x59), (4, .int x40), (3, .int x29), (0, .ref h0)]) hl [0, 1, 2, 3] rfl
              revert hl; revert hS; revert hD; revert hP; revert ls; revert locs; revert H
              revert hw; revert f46; revert x59
              refine Lz2_gr ?_; intro g60 ih61 x62 f63 hw
              intro H locs ls hP hD hS hl
              refine lv_iload hx hb dX12_hears_322 (lv_at hl 0 rfl) ?_
              refine lv_bipush (v := 8) hx hb dX12_hears_324 (by decide) ?_
              refine lv_icmp_ge (tgt := 370) hx hb dX12_hears_326 (by decide) (fun c64 => ?_) (fun c64 => ?_)
              · replace hw := hw.1 c64; clear c64
                clear ih61
                refine lv_iinc (v := x40 + 1) (lv' := [(4, .int (x40 + 1)), (5, .int x62), (3, .int x29), (0, .ref h0)]) hx hb dX12_hears_370 hl (k := 1) rfl rfl (by decide) rfl ?_; clear hl; clear ls; intro ls hl
                refine lv_goto (tgt := 262) hx hb dX12_hears_373 (by decide) ?_
                exact ih39 (x40 + 1) x54 x55 f57 f56 f58 f63 hw H locs ls hP hD hS (lv_sub hl [0, 2, 3] rfl)
              · replace hw := hw.2 c64; clear c64
                refine lv_aload_n hx hb dX12_hears_329 rfl (lv_at hl 3 rfl) ?_
                refine va_get (D := (dC, dI)) (ci := 12) (v := .ref h_comes) (C := RX12) (T := TX12) (N := 22) hx hb hts inX12 hown hK hP 0 rfl rfl 19 (by decide) (hts _ (List.mem_cons_of_mem _ mw_181)) (fun _ h9 => h9) rfl dX12_hears_330 ?_
                refine lv_bipush (v := 32) hx hb dX12_hears_333 (by decide) ?_
                refine lv_iload_n hx hb dX12_hears_335 rfl (lv_at hl 2 rfl) ?_
                refine lv_imul hx hb dX12_hears_336 ?_
                refine lv_bipush (v := 8) hx hb dX12_hears_337 (by decide) ?_
                refine lv_iload hx hb dX12_hears_339 (lv_at hl 1 rfl) ?_
                refine lv_imul hx hb dX12_hears_341 ?_
                refine lv_iadd hx hb dX12_hears_342 ?_
                refine lv_iload hx hb dX12_hears_343 (lv_at hl 0 rfl) ?_
                refine lv_iadd hx hb dX12_hears_345 ?_
                refine lv_aload_n hx hb dX12_hears_346 rfl (lv_at hl 3 rfl) ?_
                refine va_get (D := (dC, dI)) (ci := 12) (v := .ref h_eight) (C := RX12) (T := TX12) (N := 22) hx hb hts inX12 hown hK hP 0 rfl rfl 9 (by decide) (hts _ (List.mem_cons_of_mem _ mw_174)) (fun _ h9 => h9) rfl dX12_hears_347 ?_
                refine lv_iload hx hb dX12_hears_350 (lv_at hl 0 rfl) ?_
                obtain ⟨h65, hw⟩ := hw
                refine xiald (k := x62.toNatClampNeg) hx hb hK hP 6 0 rfl rfl h65 rfl dX12_hears_352 ?_
                refine lv_i2l (v := (f56 x62.toNatClampNeg).toInt64) hx hb dX12_hears_353 rfl ?_
                refine lv_ldc2 (v := -2048) hx hb hown (hts _ (List.mem_cons_of_mem _ mw_612)) dX12_hears_354 ?_
                refine lv_ldc2 (v := 2047) hx hb hown (hts _ (List.mem_cons_of_mem _ mw_613)) dX12_hears_357 ?_
                have hPc := pSub (ws' := (w_X12_nearest cy)) hP [] rfl
                have hDc := dSub (ws' := (w_X12_nearest cy)) hD [] (by decide) rfl
                have hFc := va_free (wc := (w_X12_nearest cy)) hD hS hA [] rfl
                refine va_calli (va_runS (As := [.long ((f56 x62.toNatClampNeg).toInt64), .long (-2048 : Int64), .long (2047 : Int64)]) (rest := [.int ((((32 : Int32) * x29) + ((8 : Int32) * x40)) + x62), .ref h_comes]) ⟨hx, hb, hml, hown, hts⟩ (c_X12_nearest l dC dI cy  H.size ((f56 x62.toNatClampNeg).toInt64) (-2048 : Int64) (2047 : Int64) _ hw) (va_cwS 3 hts (goodS mw_616 mw_614 mw_615 mw_5) rfl rfl rfl (by decide +kernel) ⟨Nat.le_of_ble_eq_true rfl, Nat.le_of_ble_eq_true rfl⟩) ⟨PX_blind, PX_pre hPc hK hDc hG⟩ rfl rfl hl.1 rfl (lv_room (Nat.le_of_ble_eq_true rfl)) dX12_hears_360 ⟨Nat.zero_le _, Nat.zero_le _⟩) hS (fun q _ h => hFc q h) hFc ?_; clear hw hS; intro r66 _ t H1 locs1 ht hvm hw hB hz1 hk1 hS
                obtain ⟨hP1, -, -⟩ := hB
                rw [ht] at hP1
                replace hP := jC0 hP hD [] [0, 1, 2, 3, 4, 5, 6, 7, 8] rfl hk1 hP1 (w_X12_hears h0 h_row h_kept h_isKept h_aside h_eight h_rows h_scales h_dealt h_bytes h_heardRow h_made h_comes h_backs h_fresh cy c_thrown c_nodeS c_nodeD x54 x55 x17 c_lag c_lagSum c_bytes f8 f12 f57 f24 f56 f58 f63) rfl rfl rfl 9 rfl (by decide +kernel); clear hD; obtain ⟨hP, hD⟩ := hP
                replace hP : va_P (dC, dI) vwCl (w_X12_hears h0 h_row h_kept h_isKept h_aside h_eight h_rows h_scales h_dealt h_bytes h_heardRow h_made h_comes h_backs h_fresh cy c_thrown c_nodeS c_nodeD x54 x55 x17 c_lag c_lagSum c_bytes f8 f12 f57 f24 f56 f58 f63) H1 := hP
                replace hD : va_D A (w_X12_hears h0 h_row h_kept h_isKept h_aside h_eight h_rows h_scales h_dealt h_bytes h_heardRow h_made h_comes h_backs h_fresh cy c_thrown c_nodeS c_nodeD x54 x55 x17 c_lag c_lagSum c_bytes f8 f12 f57 f24 f56 f58 f63) := hD
                clear hPc hDc hFc hP1 hk1 hz1 hvm ht; clear t; clear H locs; obtain ⟨H, hH⟩ : ∃ H, H = H1 := ⟨_, rfl⟩; obtain ⟨locs, hlo⟩ : ∃ L, L = locs1 := ⟨_, rfl⟩; subst hH; subst hlo
                refine W.widen (k := 0) (n := 0) (Nat.le_refl 0) (Nat.le_refl 0) ?_
                obtain ⟨h67, hw⟩ := hw
                refine xiast (k := ((((32 : Int32) * x29) + ((8 : Int32) * x40)) + x62).toNatClampNeg) hx hb hK hP hD hS 8 0 rfl rfl h67 rfl dX12_hears_363 ?_; clear hP hD hS; clear H locs; intro f68 e_f68 H locs hP hD hS
                replace hw := hw f68 e_f68
                clear e_f68
                replace hP : va_P (dC, dI) vwCl (w_X12_hears h0 h_row h_kept h_isKept h_aside h_eight h_rows h_scales h_dealt h_bytes h_heardRow h_made h_comes h_backs h_fresh cy c_thrown c_nodeS c_nodeD x54 x55 x17 c_lag c_lagSum c_bytes f8 f12 f57 f24 f56 f58 f68) H := hP
                replace hD : va_D A (w_X12_hears h0 h_row h_kept h_isKept h_aside h_eight h_rows h_scales h_dealt h_bytes h_heardRow h_made h_comes h_backs h_fresh cy c_thrown c_nodeS c_nodeD x54 x55 x17 c_lag c_lagSum c_bytes f8 f12 f57 f24 f56 f58 f68) := hD
                refine lv_iinc (v := x62 + 1) (lv' := [(5, .int (x62 + 1)), (4, .int x40), (3, .int x29), (0, .ref h0)]) hx hb dX12_hears_364 hl (k := 0) rfl rfl (by decide) rfl ?_; clear hl; clear ls; intro ls hl
                refine lv_goto (tgt := 322) hx hb dX12_hears_367 (by decide) ?_
                exact ih61 (x62 + 1) f68 hw H locs ls hP hD hS (lv_sub hl [0, 1, 2, 3] rfl)
            · replace hw := hw.2 c53; clear c53
              refine lv_aload_n hx hb dX12_hears_278 rfl (lv_at hl 3 rfl) ?_
              refine va_get (D := (dC, dI)) (ci := 12) (v := .ref h_eight) (C := RX12) (T := TX12) (N := 22) hx hb hts inX12 hown hK hP 0 rfl rfl 9 (by decide) (hts _ (List.mem_cons_of_mem _ mw_174)) (fun _ h9 => h9) rfl dX12_hears_279 ?_
              refine lv_iload hx hb dX12_hears_282 (lv_at hl 0 rfl) ?_
              refine lv_aload_n hx hb dX12_hears_284 rfl (lv_at hl 3 rfl) ?_
              refine va_get (D := (dC, dI)) (ci := 12) (v := .ref h_backs) (C := RX12) (T := TX12) (N := 22) hx hb hts inX12 hown hK hP 0 rfl rfl 20 (by decide) (hts _ (List.mem_cons_of_mem _ mw_182)) (fun _ h9 => h9) rfl dX12_hears_285 ?_
              refine lv_iload_n hx hb dX12_hears_288 rfl (lv_at hl 2 rfl) ?_
              refine lv_iload hx hb dX12_hears_289 (lv_at hl 0 rfl) ?_
              refine lv_iload hx hb dX12_hears_291 (lv_at hl 1 rfl) ?_
              have hPc := pSub (ws' := (w_X12_bandAt cy)) hP [] rfl
              have hDc := dSub (ws' := (w_X12_bandAt cy)) hD [] (by decide) rfl
              have hFc := va_free (wc := (w_X12_bandAt cy)) hD hS hA [] rfl
              refine va_calli (va_runS (As := [.int x29, .int x51, .int x40]) (rest := [.ref h_backs, .int x51, .ref h_eight]) ⟨hx, hb, hml, hown, hts⟩ (c_X12_bandAt l dC dI cy  H.size x29 x51 x40 _ hw) (va_cwS 3 hts (goodS mw_633 mw_631 mw_632 mw_5) rfl rfl rfl (by decide +kernel) ⟨Nat.le_of_ble_eq_true rfl, Nat.le_of_ble_eq_true rfl⟩) ⟨PX_blind, PX_pre hPc hK hDc hG⟩ rfl rfl hl.1 rfl (lv_room (Nat.le_of_ble_eq_true rfl)) dX12_hears_293 ⟨Nat.zero_le _, Nat.zero_le _⟩) hS (fun q _ h => hFc q h) hFc ?_; clear hw hS; intro r69 _ t H1 locs1 ht hvm hw hB hz1 hk1 hS
              obtain ⟨hP1, -, -⟩ := hB
              rw [ht] at hP1
              replace hP := jC0 hP hD [] [0, 1, 2, 3, 4, 5, 6, 7, 8] rfl hk1 hP1 (w_X12_hears h0 h_row h_kept h_isKept h_aside h_eight h_rows h_scales h_dealt h_bytes h_heardRow h_made h_comes h_backs h_fresh cy c_thrown c_nodeS c_nodeD x41 x42 x17 c_lag c_lagSum c_bytes f8 f12 f43 f24 f52 f45 f46) rfl rfl rfl 9 rfl (by decide +kernel); clear hD; obtain ⟨hP, hD⟩ := hP
              replace hP : va_P (dC, dI) vwCl (w_X12_hears h0 h_row h_kept h_isKept h_aside h_eight h_rows h_scales h_dealt h_bytes h_heardRow h_made h_comes h_backs h_fresh cy c_thrown c_nodeS c_nodeD x41 x42 x17 c_lag c_lagSum c_bytes f8 f12 f43 f24 f52 f45 f46) H1 := hP
              replace hD : va_D A (w_X12_hears h0 h_row h_kept h_isKept h_aside h_eight h_rows h_scales h_dealt h_bytes h_heardRow h_made h_comes h_backs h_fresh cy c_thrown c_nodeS c_nodeD x41 x42 x17 c_lag c_lagSum c_bytes f8 f12 f43 f24 f52 f45 f46) := hD
              clear hPc hDc hFc hP1 hk1 hz1 hvm ht; clear t; clear H locs; obtain ⟨H, hH⟩ : ∃ H, H = H1 := ⟨_, rfl⟩; obtain ⟨locs, hlo⟩ : ∃ L, L = locs1 := ⟨_, rfl⟩; subst hH; subst hlo
              refine W.widen (k := 0) (n := 0) (Nat.le_refl 0) (Nat.le_refl 0) ?_
              obtain ⟨h70, hw⟩ := hw
              refine xiald (k := r69.toNatClampNeg) hx hb hK hP 5 0 rfl rfl h70 rfl dX12_hears_296 ?_
              obtain ⟨h71, hw⟩ := hw
              refine xiast (k := x51.toNatClampNeg) hx hb hK hP hD hS 6 0 rfl rfl h71 rfl dX12_hears_297 ?_; clear hP hD hS; clear H locs; intro f72 e_f72 H locs hP hD hS
              replace hw := hw f72 e_f72
              clear e_f72
              replace hP : va_P (dC, dI) vwCl (w_X12_hears h0 h_row h_kept h_isKept h_aside h_eight h_rows h_scales h_dealt h_bytes h_heardRow h_made h_comes h_backs h_fresh cy c_thrown c_nodeS c_nodeD x41 x42 x17 c_lag c_lagSum c_bytes f8 f12 f43 f24 f72 f45 f46) H := hP
              replace hD : va_D A (w_X12_hears h0 h_row h_kept h_isKept h_aside h_eight h_rows h_scales h_dealt h_bytes h_heardRow h_made h_comes h_backs h_fresh cy c_thrown c_nodeS c_nodeD x41 x42 x17 c_lag c_lagSum c_bytes f8 f12 f43 f24 f72 f45 f46) := hD
              refine lv_iinc (v := x51 + 1) (lv' := [(5, .int (x51 + 1)), (4, .int x40), (3, .int x29), (0, .ref h0)]) hx hb dX12_hears_298 hl (k := 0) rfl rfl (by decide) rfl ?_; clear hl; clear ls; intro ls hl
              refine lv_goto (tgt := 271) hx hb dX12_hears_301 (by decide) ?_
              exact ih50 (x51 + 1) f72 hw H locs ls hP hD hS (lv_sub hl [0, 1, 2, 3] rfl)
      · replace hw := hw.2 c25; clear c25
        refine lv_iconst (v := 0) hx hb dX12_hears_147 (by decide) ?_
        refine lv_istore (lv' := [(4, .int (0 : Int32)), (3, .int x23), (0, .ref h0)]) hx hb dX12_hears_148 hl (by decide) rfl ?_; clear hl; clear ls; intro ls hl
        obtain ⟨x73, e_x73⟩ : ∃ y : Int32, y = (0 : Int32) := ⟨_, rfl⟩
        replace hw := hw x73 e_x73
        replace hl : lv_has ls 8 [(4, .int x73), (3, .int x23), (0, .ref h0)] := by rw [e_x73]; exact hl
        clear e_x73
        replace hl := lv_sub (l' := [(4, .int x73), (3, .int x23), (0, .ref h0)]) hl [0, 1, 2] rfl
        revert hl; revert hS; revert hD; revert hP; revert ls; revert locs; revert H
        revert hw; revert f24; revert x73
        refine Lz2_gr ?_; intro g74 ih75 x76 f77 hw
        intro H locs ls hP hD hS hl
        refine lv_iload hx hb dX12_hears_150 (lv_at hl 0 rfl) ?_
        refine lv_iconst (v := 4) hx hb dX12_hears_152 (by decide) ?_
        refine jn0 (Gg := ∀ (H : Heap) (locs : List Loc) (ls : Array Slot), va_P (dC, dI) vwCl (w_X12_hears h0 h_row h_kept h_isKept h_aside h_eight h_rows h_scales h_dealt h_bytes h_heardRow h_made h_comes h_backs h_fresh cy c_thrown c_nodeS c_nodeD c_pairE c_pairO x17 c_lag c_lagSum c_bytes f8 f12 c_row f77 c_eight c_rows c_comes) H → va_D A (w_X12_hears h0 h_row h_kept h_isKept h_aside h_eight h_rows h_scales h_dealt h_bytes h_heardRow h_made h_comes h_backs h_fresh cy c_thrown c_nodeS c_nodeD c_pairE c_pairO x17 c_lag c_lagSum c_bytes f8 f12 c_row f77 c_eight c_rows c_comes) → va_S A s.heap H locs → lv_has ls 8 [(0, .ref h0), (3, .int x23)] → W p l e { frames := 3, cells := 0, slots := 0, locals := 72 } s m av below meth c H locs 0 0 Q0 (F0 m 246 ls [])) hw ?_ ?_ <;> clear hw
        · clear hP hD hS hl; clear H locs ls; intro  hw H locs ls hP hD hS hl
          clear ih75
          refine lv_iinc (v := x23 + 1) (lv' := [(3, .int (x23 + 1)), (0, .ref h0)]) hx hb dX12_hears_246 hl (k := 1) rfl rfl (by decide) rfl ?_; clear hl; clear ls; intro ls hl
          refine lv_goto (tgt := 141) hx hb dX12_hears_249 (by decide) ?_
          exact ih22 (x23 + 1) f77 hw H locs ls hP hD hS (lv_sub hl [0, 1] rfl)
        · intro j79 hw
          refine lv_icmp_ge (tgt := 246) hx hb dX12_hears_153 (by decide) (fun c80 => ?_) (fun c80 => ?_)
          · replace hw := hw.1 c80; clear c80
            exact j79 hw H locs ls hP hD hS (lv_sub hl [2, 1] rfl)
          · replace hw := hw.2 c80; clear c80
            refine lv_aload_n hx hb dX12_hears_156 rfl (lv_at hl 2 rfl) ?_
            refine va_get (D := (dC, dI)) (ci := 12) (v := .ref h_bytes) (C := RX12) (T := TX12) (N := 22) hx hb hts inX12 hown hK hP 0 rfl rfl 13 (by decide) (hts _ (List.mem_cons_of_mem _ mw_178)) (fun _ h9 => h9) rfl dX12_hears_157 ?_
            refine lv_iconst (v := 4) hx hb dX12_hears_160 (by decide) ?_
            refine xiald (k := 4) hx hb hK hP 1 0 rfl rfl (vpL 4 160 rfl) (by decide) dX12_hears_161 ?_
            refine lv_iload_n hx hb dX12_hears_162 rfl (lv_at hl 1 rfl) ?_
            refine lv_ishr hx hb dX12_hears_163 ?_
            refine lv_iconst (v := 1) hx hb dX12_hears_164 (by decide) ?_
            refine lv_iand hx hb dX12_hears_165 ?_
            refine lv_iconst (v := 1) hx hb dX12_hears_166 (by decide) ?_
            refine lv_icmp_ne (tgt := 246) hx hb dX12_hears_167 (by decide) (fun c82 => ?_) (fun c82 => ?_)
            · replace hw := hw.2 c82; clear c82
              exact j79 hw H locs ls hP hD hS (lv_sub hl [2, 1] rfl)
            · replace hw := hw.1 c82; clear c82
              refine lv_aload_n hx hb dX12_hears_170 rfl (lv_at hl 2 rfl) ?_
              refine va_get (D := (dC, dI)) (ci := 12) (v := .ref h_backs) (C := RX12) (T := TX12) (N := 22) hx hb hts inX12 hown hK hP 0 rfl rfl 20 (by decide) (hts _ (List.mem_cons_of_mem _ mw_182)) (fun _ h9 => h9) rfl dX12_hears_171 ?_
              refine lv_iconst (v := 0) hx hb dX12_hears_174 (by decide) ?_
              refine lv_iload_n hx hb dX12_hears_175 rfl (lv_at hl 1 rfl) ?_
              refine lv_iload hx hb dX12_hears_176 (lv_at hl 0 rfl) ?_
              have hPc := pSub (ws' := (w_X12_bandAt cy)) hP [] rfl
              have hDc := dSub (ws' := (w_X12_bandAt cy)) hD [] (by decide) rfl
              have hFc := va_free (wc := (w_X12_bandAt cy)) hD hS hA [] rfl
              refine va_calli (va_runS (As := [.int (0 : Int32), .int x23, .int x76]) (rest := [.ref h_backs]) ⟨hx, hb, hml, hown, hts⟩ (c_X12_bandAt l dC dI cy  H.size (0 : Int32) x23 x76 _ hw) (va_cwS 3 hts (goodS mw_633 mw_631 mw_632 mw_5) rfl rfl rfl (by decide +kernel) ⟨Nat.le_of_ble_eq_true rfl, Nat.le_of_ble_eq_true rfl⟩) ⟨PX_blind, PX_pre hPc hK hDc hG⟩ rfl rfl hl.1 rfl (lv_room (Nat.le_of_ble_eq_true rfl)) dX12_hears_178 ⟨Nat.zero_le _, Nat.zero_le _⟩) hS (fun q _ h => hFc q h) hFc ?_; clear hw hS; intro r83 _ t H1 locs1 ht hvm hw hB hz1 hk1 hS
              obtain ⟨hP1, -, -⟩ := hB
              rw [ht] at hP1
              replace hP := jC0 hP hD [] [0, 1, 2, 3, 4, 5, 6, 7, 8] rfl hk1 hP1 (w_X12_hears h0 h_row h_kept h_isKept h_aside h_eight h_rows h_scales h_dealt h_bytes h_heardRow h_made h_comes h_backs h_fresh cy c_thrown c_nodeS c_nodeD c_pairE c_pairO x17 c_lag c_lagSum c_bytes f8 f12 c_row f77 c_eight c_rows c_comes) rfl rfl rfl 9 rfl (by decide +kernel); clear hD; obtain ⟨hP, hD⟩ := hP
              replace hP : va_P (dC, dI) vwCl (w_X12_hears h0 h_row h_kept h_isKept h_aside h_eight h_rows h_scales h_dealt h_bytes h_heardRow h_made h_comes h_backs h_fresh cy c_thrown c_nodeS c_nodeD c_pairE c_pairO x17 c_lag c_lagSum c_bytes f8 f12 c_row f77 c_eight c_rows c_comes) H1 := hP
              replace hD : va_D A (w_X12_hears h0 h_row h_kept h_isKept h_aside h_eight h_rows h_scales h_dealt h_bytes h_heardRow h_made h_comes h_backs h_fresh cy c_thrown c_nodeS c_nodeD c_pairE c_pairO x17 c_lag c_lagSum c_bytes f8 f12 c_row f77 c_eight c_rows c_comes) := hD
              clear hPc hDc hFc hP1 hk1 hz1 hvm ht; clear t; clear H locs; obtain ⟨H, hH⟩ : ∃ H, H = H1 := ⟨_, rfl⟩; obtain ⟨locs, hlo⟩ : ∃ L, L = locs1 := ⟨_, rfl⟩; subst hH; subst hlo
              refine W.widen (k := 0) (n := 0) (Nat.le_refl 0) (Nat.le_refl 0) ?_
              obtain ⟨h84, hw⟩ := hw
              refine xiald (k := r83.toNatClampNeg) hx hb hK hP 5 0 rfl rfl h84 rfl dX12_hears_181 ?_
              refine lv_topi (fun x85 e_x85 => ?_)
              replace hw := hw x85 e_x85
              clear e_x85
              refine lv_istore (lv' := [(5, .int x85), (4, .int x76), (3, .int x23), (0, .ref h0)]) hx hb dX12_hears_182 hl (by decide) rfl ?_; clear hl; clear ls; intro ls hl
              refine lv_aload_n hx hb dX12_hears_184 rfl (lv_at hl 3 rfl) ?_
              refine va_get (D := (dC, dI)) (ci := 12) (v := .ref h_backs) (C := RX12) (T := TX12) (N := 22) hx hb hts inX12 hown hK hP 0 rfl rfl 20 (by decide) (hts _ (List.mem_cons_of_mem _ mw_182)) (fun _ h9 => h9) rfl dX12_hears_185 ?_
              refine lv_iconst (v := 1) hx hb dX12_hears_188 (by decide) ?_
              refine lv_iload_n hx hb dX12_hears_189 rfl (lv_at hl 2 rfl) ?_
              refine lv_iload hx hb dX12_hears_190 (lv_at hl 1 rfl) ?_
              have hPc := pSub (ws' := (w_X12_bandAt cy)) hP [] rfl
              have hDc := dSub (ws' := (w_X12_bandAt cy)) hD [] (by decide) rfl
              have hFc := va_free (wc := (w_X12_bandAt cy)) hD hS hA [] rfl
              refine va_calli (va_runS (As := [.int (1 : Int32), .int x23, .int x76]) (rest := [.ref h_backs]) ⟨hx, hb, hml, hown, hts⟩ (c_X12_bandAt l dC dI cy  H.size (1 : Int32) x23 x76 _ hw) (va_cwS 3 hts (goodS mw_633 mw_631 mw_632 mw_5) rfl rfl rfl (by decide +kernel) ⟨Nat.le_of_ble_eq_true rfl, Nat.le_of_ble_eq_true rfl⟩) ⟨PX_blind, PX_pre hPc hK hDc hG⟩ rfl rfl hl.1 rfl (lv_room (Nat.le_of_ble_eq_true rfl)) dX12_hears_192 ⟨Nat.zero_le _, Nat.zero_le _⟩) hS (fun q _ h => hFc q h) hFc ?_; clear hw hS; intro r86 _ t H1 locs1 ht hvm hw hB hz1 hk1 hS
              obtain ⟨hP1, -, -⟩ := hB
              rw [ht] at hP1
              replace hP := jC0 hP hD [] [0, 1, 2, 3, 4, 5, 6, 7, 8] rfl hk1 hP1 (w_X12_hears h0 h_row h_kept h_isKept h_aside h_eight h_rows h_scales h_dealt h_bytes h_heardRow h_made h_comes h_backs h_fresh cy c_thrown c_nodeS c_nodeD c_pairE c_pairO x17 c_lag c_lagSum c_bytes f8 f12 c_row f77 c_eight c_rows c_comes) rfl rfl rfl 9 rfl (by decide +kernel); clear hD; obtain ⟨hP, hD⟩ := hP
              replace hP : va_P (dC, dI) vwCl (w_X12_hears h0 h_row h_kept h_isKept h_aside h_eight h_rows h_scales h_dealt h_bytes h_heardRow h_made h_comes h_backs h_fresh cy c_thrown c_nodeS c_nodeD c_pairE c_pairO x17 c_lag c_lagSum c_bytes f8 f12 c_row f77 c_eight c_rows c_comes) H1 := hP
              replace hD : va_D A (w_X12_hears h0 h_row h_kept h_isKept h_aside h_eight h_rows h_scales h_dealt h_bytes h_heardRow h_made h_comes h_backs h_fresh cy c_thrown c_nodeS c_nodeD c_pairE c_pairO x17 c_lag c_lagSum c_bytes f8 f12 c_row f77 c_eight c_rows c_comes) := hD
              clear hPc hDc hFc hP1 hk1 hz1 hvm ht; clear t; clear H locs; obtain ⟨H, hH⟩ : ∃ H, H = H1 := ⟨_, rfl⟩; obtain ⟨locs, hlo⟩ : ∃ L, L = locs1 := ⟨_, rfl⟩; subst hH; subst hlo
              refine W.widen (k := 0) (n := 0) (Nat.le_refl 0) (Nat.le_refl 0) ?_
              obtain ⟨h87, hw⟩ := hw
              refine xiald (k := r86.toNatClampNeg) hx hb hK hP 5 0 rfl rfl h87 rfl dX12_hears_195 ?_
              refine lv_topi (fun x88 e_x88 => ?_)
              replace hw := hw x88 e_x88
              clear e_x88
              refine lv_istore (lv' := [(6, .int x88), (5, .int x85), (4, .int x76), (3, .int x23), (0, .ref h0)]) hx hb dX12_hears_196 hl (by decide) rfl ?_; clear hl; clear ls; intro ls hl
              refine lv_iload hx hb dX12_hears_198 (lv_at hl 1 rfl) ?_
              refine lv_iload hx hb dX12_hears_200 (lv_at hl 0 rfl) ?_
              refine lv_iconst (v := 1) hx hb dX12_hears_202 (by decide) ?_
              refine lv_iadd hx hb dX12_hears_203 ?_
              refine lv_iconst (v := 1) hx hb dX12_hears_204 (by decide) ?_
              refine lv_ishr hx hb dX12_hears_205 ?_
              refine lv_iadd hx hb dX12_hears_206 ?_
              refine lv_topi (fun x89 e_x89 => ?_)
              replace hw := hw x89 e_x89
              clear e_x89
              refine lv_istore (lv' := [(7, .int x89), (6, .int x88), (5, .int x85), (4, .int x76), (3, .int x23), (0, .ref h0)]) hx hb dX12_hears_207 hl (by decide) rfl ?_; clear hl; clear ls; intro ls hl
              refine lv_aload_n hx hb dX12_hears_209 rfl (lv_at hl 5 rfl) ?_
              refine va_get (D := (dC, dI)) (ci := 12) (v := .ref h_backs) (C := RX12) (T := TX12) (N := 22) hx hb hts inX12 hown hK hP 0 rfl rfl 20 (by decide) (hts _ (List.mem_cons_of_mem _ mw_182)) (fun _ h9 => h9) rfl dX12_hears_210 ?_
              refine lv_iconst (v := 0) hx hb dX12_hears_213 (by decide) ?_
              refine lv_iload_n hx hb dX12_hears_214 rfl (lv_at hl 4 rfl) ?_
              refine lv_iload hx hb dX12_hears_215 (lv_at hl 3 rfl) ?_
              have hPc := pSub (ws' := (w_X12_bandAt cy)) hP [] rfl
              have hDc := dSub (ws' := (w_X12_bandAt cy)) hD [] (by decide) rfl
              have hFc := va_free (wc := (w_X12_bandAt cy)) hD hS hA [] rfl
              refine va_calli (va_runS (As := [.int (0 : Int32), .int x23, .int x76]) (rest := [.ref h_backs]) ⟨hx, hb, hml, hown, hts⟩ (c_X12_bandAt l dC dI cy  H.size (0 : Int32) x23 x76 _ hw) (va_cwS 3 hts (goodS mw_633 mw_631 mw_632 mw_5) rfl rfl rfl (by decide +kernel) ⟨Nat.le_of_ble_eq_true rfl, Nat.le_of_ble_eq_true rfl⟩) ⟨PX_blind, PX_pre hPc hK hDc hG⟩ rfl rfl hl.1 rfl (lv_room (Nat.le_of_ble_eq_true rfl)) dX12_hears_217 ⟨Nat.zero_le _, Nat.zero_le _⟩) hS (fun q _ h => hFc q h) hFc ?_; clear hw hS; intro r90 _ t H1 locs1 ht hvm hw hB hz1 hk1 hS
              obtain ⟨hP1, -, -⟩ := hB
              rw [ht] at hP1
              replace hP := jC0 hP hD [] [0, 1, 2, 3, 4, 5, 6, 7, 8] rfl hk1 hP1 (w_X12_hears h0 h_row h_kept h_isKept h_aside h_eight h_rows h_scales h_dealt h_bytes h_heardRow h_made h_comes h_backs h_fresh cy c_thrown c_nodeS c_nodeD c_pairE c_pairO x17 c_lag c_lagSum c_bytes f8 f12 c_row f77 c_eight c_rows c_comes) rfl rfl rfl 9 rfl (by decide +kernel); clear hD; obtain ⟨hP, hD⟩ := hP
              replace hP : va_P (dC, dI) vwCl (w_X12_hears h0 h_row h_kept h_isKept h_aside h_eight h_rows h_scales h_dealt h_bytes h_heardRow h_made h_comes h_backs h_fresh cy c_thrown c_nodeS c_nodeD c_pairE c_pairO x17 c_lag c_lagSum c_bytes f8 f12 c_row f77 c_eight c_rows c_comes) H1 := hP
              replace hD : va_D A (w_X12_hears h0 h_row h_kept h_isKept h_aside h_eight h_rows h_scales h_dealt h_bytes h_heardRow h_made h_comes h_backs h_fresh cy c_thrown c_nodeS c_nodeD c_pairE c_pairO x17 c_lag c_lagSum c_bytes f8 f12 c_row f77 c_eight c_rows c_comes) := hD
              clear hPc hDc hFc hP1 hk1 hz1 hvm ht; clear t; clear H locs; obtain ⟨H, hH⟩ : ∃ H, H = H1 := ⟨_, rfl⟩; obtain ⟨locs, hlo⟩ : ∃ L, L = locs1 := ⟨_, rfl⟩; subst hH; subst hlo
              refine W.widen (k := 0) (n := 0) (Nat.le_refl 0) (Nat.le_refl 0) ?_
              refine lv_iload hx hb dX12_hears_220 (lv_at hl 0 rfl) ?_
              obtain ⟨h91, hw⟩ := hw
              refine xiast (k := r90.toNatClampNeg) hx hb hK hP hD hS 5 0 rfl rfl h91 rfl dX12_hears_222 ?_; clear hP hD hS; clear H locs; intro f92 e_f92 H locs hP hD hS
              replace hw := hw f92 e_f92
              clear e_f92
              replace hP : va_P (dC, dI) vwCl (w_X12_hears h0 h_row h_kept h_isKept h_aside h_eight h_rows h_scales h_dealt h_bytes h_heardRow h_made h_comes h_backs h_fresh cy c_thrown c_nodeS c_nodeD c_pairE c_pairO x17 c_lag c_lagSum c_bytes f8 f12 c_row f92 c_eight c_rows c_comes) H := hP
              replace hD : va_D A (w_X12_hears h0 h_row h_kept h_isKept h_aside h_eight h_rows h_scales h_dealt h_bytes h_heardRow h_made h_comes h_backs h_fresh cy c_thrown c_nodeS c_nodeD c_pairE c_pairO x17 c_lag c_lagSum c_bytes f8 f12 c_row f92 c_eight c_rows c_comes) := hD
              refine lv_aload_n hx hb dX12_hears_223 rfl (lv_at hl 5 rfl) ?_
              refine va_get (D := (dC, dI)) (ci := 12) (v := .ref h_backs) (C := RX12) (T := TX12) (N := 22) hx hb hts inX12 hown hK hP 0 rfl rfl 20 (by decide) (hts _ (List.mem_cons_of_mem _ mw_182)) (fun _ h9 => h9) rfl dX12_hears_224 ?_
              refine lv_iconst (v := 1) hx hb dX12_hears_227 (by decide) ?_
              refine lv_iload_n hx hb dX12_hears_228 rfl (lv_at hl 4 rfl) ?_
              refine lv_iload hx hb dX12_hears_229 (lv_at hl 3 rfl) ?_
              have hPc := pSub (ws' := (w_X12_bandAt cy)) hP [] rfl
              have hDc := dSub (ws' := (w_X12_bandAt cy)) hD [] (by decide) rfl
              have hFc := va_free (wc := (w_X12_bandAt cy)) hD hS hA [] rfl
              refine va_calli (va_runS (As := [.int (1 : Int32), .int x23, .int x76]) (rest := [.ref h_backs]) ⟨hx, hb, hml, hown, hts⟩ (c_X12_bandAt l dC dI cy  H.size (1 : Int32) x23 x76 _ hw) (va_cwS 3 hts (goodS mw_633 mw_631 mw_632 mw_5) rfl rfl rfl (by decide +kernel) ⟨Nat.le_of_ble_eq_true rfl, Nat.le_of_ble_eq_true rfl⟩) ⟨PX_blind, PX_pre hPc hK hDc hG⟩ rfl rfl hl.1 rfl (lv_room (Nat.le_of_ble_eq_true rfl)) dX12_hears_231 ⟨Nat.zero_le _, Nat.zero_le _⟩) hS (fun q _ h => hFc q h) hFc ?_; clear hw hS; intro r93 _ t H1 locs1 ht hvm hw hB hz1 hk1 hS
              obtain ⟨hP1, -, -⟩ := hB
              rw [ht] at hP1
              replace hP := jC0 hP hD [] [0, 1, 2, 3, 4, 5, 6, 7, 8] rfl hk1 hP1 (w_X12_hears h0 h_row h_kept h_isKept h_aside h_eight h_rows h_scales h_dealt h_bytes h_heardRow h_made h_comes h_backs h_fresh cy c_thrown c_nodeS c_nodeD c_pairE c_pairO x17 c_lag c_lagSum c_bytes f8 f12 c_row f92 c_eight c_rows c_comes) rfl rfl rfl 9 rfl (by decide +kernel); clear hD; obtain ⟨hP, hD⟩ := hP
              replace hP : va_P (dC, dI) vwCl (w_X12_hears h0 h_row h_kept h_isKept h_aside h_eight h_rows h_scales h_dealt h_bytes h_heardRow h_made h_comes h_backs h_fresh cy c_thrown c_nodeS c_nodeD c_pairE c_pairO x17 c_lag c_lagSum c_bytes f8 f12 c_row f92 c_eight c_rows c_comes) H1 := hP
              replace hD : va_D A (w_X12_hears h0 h_row h_kept h_isKept h_aside h_eight h_rows h_scales h_dealt h_bytes h_heardRow h_made h_comes h_backs h_fresh cy c_thrown c_nodeS c_nodeD c_pairE c_pairO x17 c_lag c_lagSum c_bytes f8 f12 c_row f92 c_eight c_rows c_comes) := hD
              clear hPc hDc hFc hP1 hk1 hz1 hvm ht; clear t; clear H locs; obtain ⟨H, hH⟩ : ∃ H, H = H1 := ⟨_, rfl⟩; obtain ⟨locs, hlo⟩ : ∃ L, L = locs1 := ⟨_, rfl⟩; subst hH; subst hlo
              refine W.widen (k := 0) (n := 0) (Nat.le_refl 0) (Nat.le_refl 0) ?_
              refine lv_iload hx hb dX12_hears_234 (lv_at hl 0 rfl) ?_
              refine lv_iload hx hb dX12_hears_236 (lv_at hl 1 rfl) ?_
              refine lv_isub hx hb dX12_hears_238 ?_
              obtain ⟨h94, hw⟩ := hw
              refine xiast (k := r93.toNatClampNeg) hx hb hK hP hD hS 5 0 rfl rfl h94 rfl dX12_hears_239 ?_; clear hP hD hS; clear H locs; intro f95 e_f95 H locs hP hD hS
              replace hw := hw f95 e_f95
              clear e_f95
              replace hP : va_P (dC, dI) vwCl (w_X12_hears h0 h_row h_kept h_isKept h_aside h_eight h_rows h_scales h_dealt h_bytes h_heardRow h_made h_comes h_backs h_fresh cy c_thrown c_nodeS c_nodeD c_pairE c_pairO x17 c_lag c_lagSum c_bytes f8 f12 c_row f95 c_eight c_rows c_comes) H := hP
              replace hD : va_D A (w_X12_hears h0 h_row h_kept h_isKept h_aside h_eight h_rows h_scales h_dealt h_bytes h_heardRow h_made h_comes h_backs h_fresh cy c_thrown c_nodeS c_nodeD c_pairE c_pairO x17 c_lag c_lagSum c_bytes f8 f12 c_row f95 c_eight c_rows c_comes) := hD
              refine lv_iinc (v := x76 + 1) (lv' := [(4, .int (x76 + 1)), (7, .int x89), (6, .int x88), (5, .int x85), (3, .int x23), (0, .ref h0)]) hx hb dX12_hears_240 hl (k := 3) rfl rfl (by decide) rfl ?_; clear hl; clear ls; intro ls hl
              refine lv_goto (tgt := 150) hx hb dX12_hears_243 (by decide) ?_
              exact ih75 (x76 + 1) f95 hw H locs ls hP hD hS (lv_sub hl [0, 4, 5] rfl)
    · replace hw := hw.2 c19; clear c19
      refine lv_iconst (v := 0) hx hb dX12_hears_63 (by decide) ?_
      refine lv_istore (lv' := [(4, .int (0 : Int32)), (3, .int x16), (2, .int x1), (0, .ref h0)]) hx hb dX12_hears_64 hl (by decide) rfl ?_; clear hl; clear ls; intro ls hl
      obtain ⟨x96, e_x96⟩ : ∃ y : Int32, y = (0 : Int32) := ⟨_, rfl⟩
      replace hw := hw x96 e_x96
      replace hl : lv_has ls 8 [(4, .int x96), (3, .int x16), (2, .int x1), (0, .ref h0)] := by rw [e_x96]; exact hl
      clear e_x96
      replace hl := lv_sub (l' := [(4, .int x96), (3, .int x16), (2, .int x1), (0, .ref h0)]) hl [0, 1, 2, 3] rfl
      revert hl; revert hS; revert hD; revert hP; revert ls; revert locs; revert H
      revert hw; revert f18; revert x17; revert x96
      refine Lz3_gr ?_; intro g97 ih98 x99 x100 f101 hw
      intro H locs ls hP hD hS hl
      refine lv_iload hx hb dX12_hears_66 (lv_at hl 0 rfl) ?_
      refine lv_bipush (v := 16) hx hb dX12_hears_68 (by decide) ?_
      refine lv_icmp_ge (tgt := 133) hx hb dX12_hears_70 (by decide) (fun c102 => ?_) (fun c102 => ?_)
      · replace hw := hw.1 c102; clear c102
        clear ih98
        refine lv_iinc (v := x16 + 1) (lv' := [(3, .int (x16 + 1)), (4, .int x99), (2, .int x1), (0, .ref h0)]) hx hb dX12_hears_133 hl (k := 1) rfl rfl (by decide) rfl ?_; clear hl; clear ls; intro ls hl
        refine lv_goto (tgt := 58) hx hb dX12_hears_136 (by decide) ?_
        exact ih15 (x16 + 1) x100 f101 hw H locs ls hP hD hS (lv_sub hl [0, 2, 3] rfl)
      · replace hw := hw.2 c102; clear c102
        refine lv_aload_n hx hb dX12_hears_73 rfl (lv_at hl 3 rfl) ?_
        refine va_get (D := (dC, dI)) (ci := 12) (v := .ref h_backs) (C := RX12) (T := TX12) (N := 22) hx hb hts inX12 hown hK hP 0 rfl rfl 20 (by decide) (hts _ (List.mem_cons_of_mem _ mw_182)) (fun _ h9 => h9) rfl dX12_hears_74 ?_
        refine lv_iconst (v := 4) hx hb dX12_hears_77 (by decide) ?_
        refine lv_iload hx hb dX12_hears_78 (lv_at hl 0 rfl) ?_
        refine lv_imul hx hb dX12_hears_80 ?_
        refine lv_iload_n hx hb dX12_hears_81 rfl (lv_at hl 1 rfl) ?_
        refine lv_iadd hx hb dX12_hears_82 ?_
        refine lv_aload_n hx hb dX12_hears_83 rfl (lv_at hl 3 rfl) ?_
        refine va_get (D := (dC, dI)) (ci := 12) (v := .ref h_dealt) (C := RX12) (T := TX12) (N := 22) hx hb hts inX12 hown hK hP 0 rfl rfl 12 (by decide) (hts _ (List.mem_cons_of_mem _ mw_177)) (fun _ h9 => h9) rfl dX12_hears_84 ?_
        refine lv_iload hx hb dX12_hears_87 (lv_at hl 0 rfl) ?_
        obtain ⟨h103, hw⟩ := hw
        refine xiald (k := x99.toNatClampNeg) hx hb hK hP 3 0 rfl rfl h103 rfl dX12_hears_89 ?_
        refine jn2 (Gg := fun (x104 : Int32) (x105 : Int32) => ∀ (H : Heap) (locs : List Loc) (ls : Array Slot), va_P (dC, dI) vwCl (w_X12_hears h0 h_row h_kept h_isKept h_aside h_eight h_rows h_scales h_dealt h_bytes h_heardRow h_made h_comes h_backs h_fresh cy c_thrown c_nodeS c_nodeD c_pairE c_pairO x105 c_lag c_lagSum c_bytes f8 f12 c_row f101 c_eight c_rows c_comes) H → va_D A (w_X12_hears h0 h_row h_kept h_isKept h_aside h_eight h_rows h_scales h_dealt h_bytes h_heardRow h_made h_comes h_backs h_fresh cy c_thrown c_nodeS c_nodeD c_pairE c_pairO x105 c_lag c_lagSum c_bytes f8 f12 c_row f101 c_eight c_rows c_comes) → va_S A s.heap H locs → lv_has ls 8 [(0, .ref h0), (2, .int x1), (3, .int x16), (4, .int x99)] → W p l e { frames := 3, cells := 0, slots := 0, locals := 72 } s m av below meth c H locs 0 0 Q0 (F0 m 126 ls [.int x104, .int (((4 : Int32) * x99) + x16), .ref h_backs])) hw ?_ ?_ <;> clear hw
        · clear hP hD hS hl; clear H locs ls; intro x104 x105 hw H locs ls hP hD hS hl
          obtain ⟨h108, hw⟩ := hw
          refine xiast (k := (((4 : Int32) * x99) + x16).toNatClampNeg) hx hb hK hP hD hS 5 0 rfl rfl h108 rfl dX12_hears_126 ?_; clear hP hD hS; clear H locs; intro f109 e_f109 H locs hP hD hS
          replace hw := hw f109 e_f109
          clear e_f109
          replace hP : va_P (dC, dI) vwCl (w_X12_hears h0 h_row h_kept h_isKept h_aside h_eight h_rows h_scales h_dealt h_bytes h_heardRow h_made h_comes h_backs h_fresh cy c_thrown c_nodeS c_nodeD c_pairE c_pairO x105 c_lag c_lagSum c_bytes f8 f12 c_row f109 c_eight c_rows c_comes) H := hP
          replace hD : va_D A (w_X12_hears h0 h_row h_kept h_isKept h_aside h_eight h_rows h_scales h_dealt h_bytes h_heardRow h_made h_comes h_backs h_fresh cy c_thrown c_nodeS c_nodeD c_pairE c_pairO x105 c_lag c_lagSum c_bytes f8 f12 c_row f109 c_eight c_rows c_comes) := hD
          refine lv_iinc (v := x99 + 1) (lv' := [(4, .int (x99 + 1)), (0, .ref h0), (2, .int x1), (3, .int x16)]) hx hb dX12_hears_127 hl (k := 3) rfl rfl (by decide) rfl ?_; clear hl; clear ls; intro ls hl
          refine lv_goto (tgt := 66) hx hb dX12_hears_130 (by decide) ?_
          exact ih98 (x99 + 1) x105 f109 hw H locs ls hP hD hS (lv_sub hl [0, 3, 2, 1] rfl)
        · intro j107 hw
          refine lv_if_ne (tgt := 97) hx hb dX12_hears_90 (by decide) (fun c110 => ?_) (fun c110 => ?_)
          · replace hw := hw.2 c110; clear c110
            refine lv_aload_n hx hb dX12_hears_97 rfl (lv_at hl 3 rfl) ?_
            refine lv_aload_n hx hb dX12_hears_98 rfl (lv_at hl 3 rfl) ?_
            refine va_get (D := (dC, dI)) (ci := 12) (v := .ref h_dealt) (C := RX12) (T := TX12) (N := 22) hx hb hts inX12 hown hK hP 0 rfl rfl 12 (by decide) (hts _ (List.mem_cons_of_mem _ mw_177)) (fun _ h9 => h9) rfl dX12_hears_99 ?_
            refine lv_iload hx hb dX12_hears_102 (lv_at hl 0 rfl) ?_
            obtain ⟨h111, hw⟩ := hw
            refine xiald (k := x99.toNatClampNeg) hx hb hK hP 3 0 rfl rfl h111 rfl dX12_hears_104 ?_
            refine lv_iload_n hx hb dX12_hears_105 rfl (lv_at hl 2 rfl) ?_
            have hPc := pSub (ws' := (w_X12_getBits h0 h_row h_kept h_isKept h_aside h_eight h_rows h_scales h_dealt h_bytes h_heardRow h_made h_comes h_backs h_fresh cy c_thrown c_nodeS c_nodeD c_pairE c_pairO x100 c_lag c_lagSum c_bytes)) hP [0, 1] rfl
            have hDc := dSub (ws' := (w_X12_getBits h0 h_row h_kept h_isKept h_aside h_eight h_rows h_scales h_dealt h_bytes h_heardRow h_made h_comes h_backs h_fresh cy c_thrown c_nodeS c_nodeD c_pairE c_pairO x100 c_lag c_lagSum c_bytes)) hD [0, 1] (by decide) rfl
            have hFc := va_free (wc := (w_X12_getBits h0 h_row h_kept h_isKept h_aside h_eight h_rows h_scales h_dealt h_bytes h_heardRow h_made h_comes h_backs h_fresh cy c_thrown c_nodeS c_nodeD c_pairE c_pairO x100 c_lag c_lagSum c_bytes)) hD hS hA [0, 1] rfl
            refine va_calli (va_runV (As := [.int (f12 x99.toNatClampNeg), .int x1]) (rest := [.int (((4 : Int32) * x99) + x16), .ref h_backs]) ⟨hx, hb, hml, hown, hts⟩ (c_X12_getBits l dC dI cy h0 h_row h_kept h_isKept h_aside h_eight h_rows h_scales h_dealt h_bytes h_heardRow h_made h_comes h_backs h_fresh H.size (f12 x99.toNatClampNeg) x1 c_thrown c_nodeS c_nodeD c_pairE c_pairO x100 c_lag c_lagSum c_bytes _ hw) (cwV 2 hts (goodV mw_762 mw_759 mw_760 mw_761 mw_5) rfl rfl rfl (by decide +kernel) ⟨Nat.le_of_ble_eq_true rfl, Nat.le_of_ble_eq_true rfl⟩) ⟨PX_blind, va_recv hK hPc (ci := 12) (q0 := 0) rfl rfl, PX_pre hPc hK hDc hG⟩ rfl rfl hl.1 rfl (lv_room (Nat.le_of_ble_eq_true rfl)) dX12_hears_106 ⟨Nat.zero_le _, Nat.zero_le _⟩) hS (fun q _ h => hFc q h) hFc ?_; clear hw hS; intro r113 x112 t H1 locs1 ht hvm hw hB hz1 hk1 hS
            obtain ⟨hP1, -, -⟩ := hB
            rw [ht] at hP1
            replace hP := jC0 hP hD [0, 1] [2, 3, 4, 5, 6, 7, 8] rfl hk1 hP1 (w_X12_hears h0 h_row h_kept h_isKept h_aside h_eight h_rows h_scales h_dealt h_bytes h_heardRow h_made h_comes h_backs h_fresh cy c_thrown c_nodeS c_nodeD c_pairE c_pairO x112 c_lag c_lagSum c_bytes f8 f12 c_row f101 c_eight c_rows c_comes) rfl rfl rfl 9 rfl (by decide +kernel); clear hD; obtain ⟨hP, hD⟩ := hP
            replace hP : va_P (dC, dI) vwCl (w_X12_hears h0 h_row h_kept h_isKept h_aside h_eight h_rows h_scales h_dealt h_bytes h_heardRow h_made h_comes h_backs h_fresh cy c_thrown c_nodeS c_nodeD c_pairE c_pairO x112 c_lag c_lagSum c_bytes f8 f12 c_row f101 c_eight c_rows c_comes) H1 := hP
            replace hD : va_D A (w_X12_hears h0 h_row h_kept h_isKept h_aside h_eight h_rows h_scales h_dealt h_bytes h_heardRow h_made h_comes h_backs h_fresh cy c_thrown c_nodeS c_nodeD c_pairE c_pairO x112 c_lag c_lagSum c_bytes f8 f12 c_row f101 c_eight c_rows c_comes) := hD
            clear hPc hDc hFc hP1 hk1 hz1 hvm ht; clear t; clear H locs; obtain ⟨H, hH⟩ : ∃ H, H = H1 := ⟨_, rfl⟩; obtain ⟨locs, hlo⟩ : ∃ L, L = locs1 := ⟨_, rfl⟩; subst hH; subst hlo
            refine W.widen (k := 0) (n := 0) (Nat.le_refl 0) (Nat.le_refl 0) ?_
            refine lv_aload_n hx hb dX12_hears_109 rfl (lv_at hl 3 rfl) ?_
            refine va_get (D := (dC, dI)) (ci := 12) (v := .ref h_scales) (C := RX12) (T := TX12) (N := 22) hx hb hts inX12 hown hK hP 0 rfl rfl 11 (by decide) (hts _ (List.mem_cons_of_mem _ mw_176)) (fun _ h9 => h9) rfl dX12_hears_110 ?_
            refine lv_iload hx hb dX12_hears_113 (lv_at hl 0 rfl) ?_
            obtain ⟨h114, hw⟩ := hw
            refine xiald (k := x99.toNatClampNeg) hx hb hK hP 2 0 rfl rfl h114 rfl dX12_hears_115 ?_
            refine lv_aload_n hx hb dX12_hears_116 rfl (lv_at hl 3 rfl) ?_
            refine va_get (D := (dC, dI)) (ci := 12) (v := .ref h_dealt) (C := RX12) (T := TX12) (N := 22) hx hb hts inX12 hown hK hP 0 rfl rfl 12 (by decide) (hts _ (List.mem_cons_of_mem _ mw_177)) (fun _ h9 => h9) rfl dX12_hears_117 ?_
            refine lv_iload hx hb dX12_hears_120 (lv_at hl 0 rfl) ?_
            obtain ⟨h115, hw⟩ := hw
            refine xiald (k := x99.toNatClampNeg) hx hb hK hP 3 0 rfl rfl h115 rfl dX12_hears_122 ?_
            have hPc := pSub (ws' := (w_X12_unquant cy)) hP [] rfl
            have hDc := dSub (ws' := (w_X12_unquant cy)) hD [] (by decide) rfl
            have hFc := va_free (wc := (w_X12_unquant cy)) hD hS hA [] rfl
            refine va_calli (va_runS (As := [.int r113, .int (f8 x99.toNatClampNeg), .int (f12 x99.toNatClampNeg)]) (rest := [.int (((4 : Int32) * x99) + x16), .ref h_backs]) ⟨hx, hb, hml, hown, hts⟩ (c_X12_unquant l dC dI cy  H.size r113 (f8 x99.toNatClampNeg) (f12 x99.toNatClampNeg) _ hw) (va_cwS 3 hts (goodS mw_765 mw_763 mw_764 mw_5) rfl rfl rfl (by decide +kernel) ⟨Nat.le_of_ble_eq_true rfl, Nat.le_of_ble_eq_true rfl⟩) ⟨PX_blind, PX_pre hPc hK hDc hG⟩ rfl rfl hl.1 rfl (lv_room (Nat.le_of_ble_eq_true rfl)) dX12_hears_123 ⟨Nat.zero_le _, Nat.zero_le _⟩) hS (fun q _ h => hFc q h) hFc ?_; clear hw hS; intro r116 _ t H1 locs1 ht hvm hw hB hz1 hk1 hS
            obtain ⟨hP1, -, -⟩ := hB
            rw [ht] at hP1
            replace hP := jC0 hP hD [] [0, 1, 2, 3, 4, 5, 6, 7, 8] rfl hk1 hP1 (w_X12_hears h0 h_row h_kept h_isKept h_aside h_eight h_rows h_scales h_dealt h_bytes h_heardRow h_made h_comes h_backs h_fresh cy c_thrown c_nodeS c_nodeD c_pairE c_pairO x112 c_lag c_lagSum c_bytes f8 f12 c_row f101 c_eight c_rows c_comes) rfl rfl rfl 9 rfl (by decide +kernel); clear hD; obtain ⟨hP, hD⟩ := hP
            replace hP : va_P (dC, dI) vwCl (w_X12_hears h0 h_row h_kept h_isKept h_aside h_eight h_rows h_scales h_dealt h_bytes h_heardRow h_made h_comes h_backs h_fresh cy c_thrown c_nodeS c_nodeD c_pairE c_pairO x112 c_lag c_lagSum c_bytes f8 f12 c_row f101 c_eight c_rows c_comes) H1 := hP
            replace hD : va_D A (w_X12_hears h0 h_row h_kept h_isKept h_aside h_eight h_rows h_scales h_dealt h_bytes h_heardRow h_made h_comes h_backs h_fresh cy c_thrown c_nodeS c_nodeD c_pairE c_pairO x112 c_lag c_lagSum c_bytes f8 f12 c_row f101 c_eight c_rows c_comes) := hD
            clear hPc hDc hFc hP1 hk1 hz1 hvm ht; clear t; clear H locs; obtain ⟨H, hH⟩ : ∃ H, H = H1 := ⟨_, rfl⟩; obtain ⟨locs, hlo⟩ : ∃ L, L = locs1 := ⟨_, rfl⟩; subst hH; subst hlo
            refine W.widen (k := 0) (n := 0) (Nat.le_refl 0) (Nat.le_refl 0) ?_
            exact j107 r116 x112 hw H locs ls hP hD hS (lv_sub hl [3, 2, 1, 0] rfl)
          · replace hw := hw.1 c110; clear c110
            refine lv_iconst (v := 0) hx hb dX12_hears_93 (by decide) ?_
            refine lv_goto (tgt := 126) hx hb dX12_hears_94 (by decide) ?_
            exact j107 (0 : Int32) x100 hw H locs ls hP hD hS (lv_sub hl [3, 2, 1, 0] rfl)
  · replace hw := hw.2 c9; clear c9
    refine lv_aload_n hx hb dX12_hears_19 rfl (lv_at hl 2 rfl) ?_
    refine va_get (D := (dC, dI)) (ci := 12) (v := .ref h_scales) (C := RX12) (T := TX12) (N := 22) hx hb hts inX12 hown hK hP 0 rfl rfl 11 (by decide) (hts _ (List.mem_cons_of_mem _ mw_176)) (fun _ h9 => h9) rfl dX12_hears_20 ?_
    refine lv_iload_n hx hb dX12_hears_23 rfl (lv_at hl 0 rfl) ?_
    refine lv_aload_n hx hb dX12_hears_24 rfl (lv_at hl 2 rfl) ?_
    refine lv_iconst (v := 4) hx hb dX12_hears_25 (by decide) ?_
    refine lv_iload_n hx hb dX12_hears_26 rfl (lv_at hl 1 rfl) ?_
    have hPc := pSub (ws' := (w_X12_getBits h0 h_row h_kept h_isKept h_aside h_eight h_rows h_scales h_dealt h_bytes h_heardRow h_made h_comes h_backs h_fresh cy c_thrown c_nodeS c_nodeD c_pairE c_pairO x7 c_lag c_lagSum c_bytes)) hP [0, 1] rfl
    have hDc := dSub (ws' := (w_X12_getBits h0 h_row h_kept h_isKept h_aside h_eight h_rows h_scales h_dealt h_bytes h_heardRow h_made h_comes h_backs h_fresh cy c_thrown c_nodeS c_nodeD c_pairE c_pairO x7 c_lag c_lagSum c_bytes)) hD [0, 1] (by decide) rfl
    have hFc := va_free (wc := (w_X12_getBits h0 h_row h_kept h_isKept h_aside h_eight h_rows h_scales h_dealt h_bytes h_heardRow h_made h_comes h_backs h_fresh cy c_thrown c_nodeS c_nodeD c_pairE c_pairO x7 c_lag c_lagSum c_bytes)) hD hS hA [0, 1] rfl
    refine va_calli (va_runV (As := [.int (4 : Int32), .int x1]) (rest := [.int x6, .ref h_scales]) ⟨hx, hb, hml, hown, hts⟩ (c_X12_getBits l dC dI cy h0 h_row h_kept h_isKept h_aside h_eight h_rows h_scales h_dealt h_bytes h_heardRow h_made h_comes h_backs h_fresh H.size (4 : Int32) x1 c_thrown c_nodeS c_nodeD c_pairE c_pairO x7 c_lag c_lagSum c_bytes _ hw) (cwV 2 hts (goodV mw_762 mw_759 mw_760 mw_761 mw_5) rfl rfl rfl (by decide +kernel) ⟨Nat.le_of_ble_eq_true rfl, Nat.le_of_ble_eq_true rfl⟩) ⟨PX_blind, va_recv hK hPc (ci := 12) (q0 := 0) rfl rfl, PX_pre hPc hK hDc hG⟩ rfl rfl hl.1 rfl (lv_room (Nat.le_of_ble_eq_true rfl)) dX12_hears_27 ⟨Nat.zero_le _, Nat.zero_le _⟩) hS (fun q _ h => hFc q h) hFc ?_; clear hw hS; intro r118 x117 t H1 locs1 ht hvm hw hB hz1 hk1 hS
    obtain ⟨hP1, -, -⟩ := hB
    rw [ht] at hP1
    replace hP := jC0 hP hD [0, 1] [2, 3, 4, 5, 6, 7, 8] rfl hk1 hP1 (w_X12_hears h0 h_row h_kept h_isKept h_aside h_eight h_rows h_scales h_dealt h_bytes h_heardRow h_made h_comes h_backs h_fresh cy c_thrown c_nodeS c_nodeD c_pairE c_pairO x117 c_lag c_lagSum c_bytes f8 c_dealt c_row c_backs c_eight c_rows c_comes) rfl rfl rfl 9 rfl (by decide +kernel); clear hD; obtain ⟨hP, hD⟩ := hP
    replace hP : va_P (dC, dI) vwCl (w_X12_hears h0 h_row h_kept h_isKept h_aside h_eight h_rows h_scales h_dealt h_bytes h_heardRow h_made h_comes h_backs h_fresh cy c_thrown c_nodeS c_nodeD c_pairE c_pairO x117 c_lag c_lagSum c_bytes f8 c_dealt c_row c_backs c_eight c_rows c_comes) H1 := hP
    replace hD : va_D A (w_X12_hears h0 h_row h_kept h_isKept h_aside h_eight h_rows h_scales h_dealt h_bytes h_heardRow h_made h_comes h_backs h_fresh cy c_thrown c_nodeS c_nodeD c_pairE c_pairO x117 c_lag c_lagSum c_bytes f8 c_dealt c_row c_backs c_eight c_rows c_comes) := hD
    clear hPc hDc hFc hP1 hk1 hz1 hvm ht; clear t; clear H locs; obtain ⟨H, hH⟩ : ∃ H, H = H1 := ⟨_, rfl⟩; obtain ⟨locs, hlo⟩ : ∃ L, L = locs1 := ⟨_, rfl⟩; subst hH; subst hlo
    refine W.widen (k := 0) (n := 0) (Nat.le_refl 0) (Nat.le_refl 0) ?_
    obtain ⟨h119, hw⟩ := hw
    refine xiast (k := x6.toNatClampNeg) hx hb hK hP hD hS 2 0 rfl rfl h119 rfl dX12_hears_30 ?_; clear hP hD hS; clear H locs; intro f120 e_f120 H locs hP hD hS
    replace hw := hw f120 e_f120
    clear e_f120
    replace hP : va_P (dC, dI) vwCl (w_X12_hears h0 h_row h_kept h_isKept h_aside h_eight h_rows h_scales h_dealt h_bytes h_heardRow h_made h_comes h_backs h_fresh cy c_thrown c_nodeS c_nodeD c_pairE c_pairO x117 c_lag c_lagSum c_bytes f120 c_dealt c_row c_backs c_eight c_rows c_comes) H := hP
    replace hD : va_D A (w_X12_hears h0 h_row h_kept h_isKept h_aside h_eight h_rows h_scales h_dealt h_bytes h_heardRow h_made h_comes h_backs h_fresh cy c_thrown c_nodeS c_nodeD c_pairE c_pairO x117 c_lag c_lagSum c_bytes f120 c_dealt c_row c_backs c_eight c_rows c_comes) := hD
    refine lv_iinc (v := x6 + 1) (lv' := [(3, .int (x6 + 1)), (2, .int x1), (0, .ref h0)]) hx hb dX12_hears_31 hl (k := 0) rfl rfl (by decide) rfl ?_; clear hl; clear ls; intro ls hl
    refine lv_goto (tgt := 13) hx hb dX12_hears_34 (by decide) ?_
    exact ih5 (x6 + 1) x117 f120 hw H locs ls hP hD hS (lv_sub hl [0, 1, 2] rfl)
set_option maxHeartbeats 4000000 in
set_option maxRecDepth 100000 in
theorem c_X12_blends (l : Launch) (dC : Nat → ClassId) (dI : Nat → Nat → Nat) (cy : Nat → ClassId) (h0 h_row h_kept h_isKept h_aside h_eight h_rows h_scales h_dealt h_bytes h_heardRow h_made h_comes h_backs h_fresh : Nat) (sz : Nat) (c_thrown : Int32) (c_nodeS : Int32) (c_nodeD : Int32) (c_pairE : Int32) (c_pairO : Int32) (c_bit : Int32) (c_lag : Int32) (c_lagSum : Int32) (c_made : Nat → Int32) (c_comes : Nat → Int32) (post : (Nat → Int32) → Prop) (hw : wp_X12_blends c_made c_comes post) : Met l yX12_blends wsX12_blends ({ frames := 0, cells := 0, slots := 0, locals := 0 }) (PX dC dI cy [.ref h0] sz (w_X12_blends h0 h_row h_kept h_isKept h_aside h_eight h_rows h_scales h_dealt h_bytes h_heardRow h_made h_comes h_backs h_fresh cy c_thrown c_nodeS c_nodeD c_pairE c_pairO c_bit c_lag c_lagSum c_made c_comes)) (va_Qv (fun (u : (Nat → Int32)) => post u) (QX dC dI cy (va_A (w_X12_blends h0 h_row h_kept h_isKept h_aside h_eight h_rows h_scales h_dealt h_bytes h_heardRow h_made h_comes h_backs h_fresh cy c_thrown c_nodeS c_nodeD c_pairE c_pairO c_bit c_lag c_lagSum c_made c_comes) sz) (fun (u : (Nat → Int32)) => w_X12_blends h0 h_row h_kept h_isKept h_aside h_eight h_rows h_scales h_dealt h_bytes h_heardRow h_made h_comes h_backs h_fresh cy c_thrown c_nodeS c_nodeD c_pairE c_pairO c_bit c_lag c_lagSum c_made u)) (va_A (w_X12_blends h0 h_row h_kept h_isKept h_aside h_eight h_rows h_scales h_dealt h_bytes h_heardRow h_made h_comes h_backs h_fresh cy c_thrown c_nodeS c_nodeD c_pairE c_pairO c_bit c_lag c_lagSum c_made c_comes) sz)) 0 0 (va_A (w_X12_blends h0 h_row h_kept h_isKept h_aside h_eight h_rows h_scales h_dealt h_bytes h_heardRow h_made h_comes h_backs h_fresh cy c_thrown c_nodeS c_nodeD c_pairE c_pairO c_bit c_lag c_lagSum c_made c_comes) sz) := by
  refine Met.ofW (cc := cX12_blends) (maxL := 3) (ret := none) (by decide) rfl ?_
  intro p e s m args below meth c s₁ B hml hv
  obtain ⟨rfl, hsz, hP, hK, hD0, hG⟩ := hv
  have hx := B.exec
  have hb := B.bytes
  have hr := B.returns
  have hts := atoms_spec (ws := wsX12_blends) B.pre
  have hown : s.vm.findClass RX12 = some m.cls := findClass_of_methodNamed B.named
  have hlocks := B.notSynchronized
  subst hsz
  have hD := hD0.self (sz := s.heap.size)
  generalize hAe : va_A (w_X12_blends h0 h_row h_kept h_isKept h_aside h_eight h_rows h_scales h_dealt h_bytes h_heardRow h_made h_comes h_backs h_fresh cy c_thrown c_nodeS c_nodeD c_pairE c_pairO c_bit c_lag c_lagSum c_made c_comes) s.heap.size = A at hD ⊢
  have hA : ∀ q : Nat, s.heap.size ≤ q → A q := fun q h => by rw [← hAe]; exact Or.inr h
  have hS : va_S A s.heap s.heap [] := va_S.rf
  have hl := lv_entry ([.ref h0]) (n := 3) (Nat.le_of_ble_eq_true rfl)
  rw [lg_entry_eq]
  generalize (lg_sl ([.ref h0]) ++ List.replicate (3 - (lg_sl ([.ref h0])).length) Slot.unset).toArray = ls at hl ⊢
  replace hl : lv_has ls 3 [(0, .ref h0)] := hl
  have inX12 : ∀ w ∈ u_ws RX12 TX12 22, w ∈ wsX12_blends := fun w h => List.mem_cons_of_mem _ (inlX12 w h)
  clear hAe hD0 B
  unfold wp_X12_blends at hw
  generalize hQe : MQ below _ _ s _ _ _ = Q0
  generalize ([.ref h0] : List Value).toArray = av at *
  obtain ⟨H, hH⟩ : ∃ H, H = s.heap := ⟨_, rfl⟩
  obtain ⟨locs, hlo⟩ : ∃ L : List Loc, L = [] := ⟨_, rfl⟩
  replace hP : va_P (dC, dI) vwCl (w_X12_blends h0 h_row h_kept h_isKept h_aside h_eight h_rows h_scales h_dealt h_bytes h_heardRow h_made h_comes h_backs h_fresh cy c_thrown c_nodeS c_nodeD c_pairE c_pairO c_bit c_lag c_lagSum c_made c_comes) H := by rw [hH]; exact hP
  replace hS : va_S A s.heap H locs := by rw [hH, hlo]; exact hS
  suffices hgo : W p l e ({ frames := 0, cells := 0, slots := 0, locals := 0 }) s m av below meth c H locs 0 0 Q0 (F0 m 0 ls []) by rw [hH, hlo] at hgo; exact hgo
  clear hH hlo
  refine lv_iconst (v := 0) hx hb dX12_blends_0 (by decide) ?_
  refine lv_istore_n (lv' := [(1, .int (0 : Int32)), (0, .ref h0)]) hx hb dX12_blends_1 rfl hl (by decide) rfl ?_; clear hl; clear ls; intro ls hl
  obtain ⟨x1, e_x1⟩ : ∃ y : Int32, y = (0 : Int32) := ⟨_, rfl⟩
  replace hw := hw x1 e_x1
  replace hl : lv_has ls 3 [(1, .int x1), (0, .ref h0)] := by rw [e_x1]; exact hl
  clear e_x1
  replace hl := lv_sub (l' := [(1, .int x1), (0, .ref h0)]) hl [0, 1] rfl
  revert hl; revert hS; revert hD; revert hP; revert ls; revert locs; revert H
  revert hw; revert c_comes; revert x1
  refine Lz2_gr ?_; intro g2 ih3 x4 f5 hw
  intro H locs ls hP hD hS hl
  refine lv_iload_n hx hb dX12_blends_2 rfl (lv_at hl 0 rfl) ?_
  refine lv_iconst (v := 2) hx hb dX12_blends_3 (by decide) ?_
  refine lv_icmp_ge (tgt := 70) hx hb dX12_blends_4 (by decide) (fun c6 => ?_) (fun c6 => ?_)
  · replace hw := hw.1 c6; clear c6
    clear ih3
    subst hQe
    exact W.vret hx hb hr (fun t ht hW => ⟨⟨f5, rfl, hw, by rw [ht]; exact hP, va_K.moved hW.alike hK, hD⟩, hS.F ht⟩) hS.2.2 dX12_blends_70
  · replace hw := hw.2 c6; clear c6
    refine lv_iconst (v := 0) hx hb dX12_blends_7 (by decide) ?_
    refine lv_istore_n (lv' := [(2, .int (0 : Int32)), (1, .int x4), (0, .ref h0)]) hx hb dX12_blends_8 rfl hl (by decide) rfl ?_; clear hl; clear ls; intro ls hl
    obtain ⟨x7, e_x7⟩ : ∃ y : Int32, y = (0 : Int32) := ⟨_, rfl⟩
    replace hw := hw x7 e_x7
    replace hl : lv_has ls 3 [(2, .int x7), (1, .int x4), (0, .ref h0)] := by rw [e_x7]; exact hl
    clear e_x7
    replace hl := lv_sub (l' := [(2, .int x7), (1, .int x4), (0, .ref h0)]) hl [0, 1, 2] rfl
    revert hl; revert hS; revert hD; revert hP; revert ls; revert locs; revert H
    revert hw; revert f5; revert x7
    refine Lz2_gr ?_; intro g8 ih9 x10 f11 hw
    intro H locs ls hP hD hS hl
    refine lv_iload_n hx hb dX12_blends_9 rfl (lv_at hl 0 rfl) ?_
    refine lv_bipush (v := 8) hx hb dX12_blends_10 (by decide) ?_
    refine lv_icmp_ge (tgt := 64) hx hb dX12_blends_12 (by decide) (fun c12 => ?_) (fun c12 => ?_)
    · replace hw := hw.1 c12; clear c12
      clear ih9
      refine lv_iinc (v := x4 + 1) (lv' := [(1, .int (x4 + 1)), (2, .int x10), (0, .ref h0)]) hx hb dX12_blends_64 hl (k := 1) rfl rfl (by decide) rfl ?_; clear hl; clear ls; intro ls hl
      refine lv_goto (tgt := 2) hx hb dX12_blends_67 (by decide) ?_
      exact ih3 (x4 + 1) f11 hw H locs ls hP hD hS (lv_sub hl [0, 2] rfl)
    · replace hw := hw.2 c12; clear c12
      refine lv_aload_n hx hb dX12_blends_15 rfl (lv_at hl 2 rfl) ?_
      refine va_get (D := (dC, dI)) (ci := 12) (v := .ref h_comes) (C := RX12) (T := TX12) (N := 22) hx hb hts inX12 hown hK hP 0 rfl rfl 19 (by decide) (hts _ (List.mem_cons_of_mem _ mw_181)) (fun _ h9 => h9) rfl dX12_blends_16 ?_
      refine lv_bipush (v := 32) hx hb dX12_blends_19 (by decide) ?_
      refine lv_iload_n hx hb dX12_blends_21 rfl (lv_at hl 1 rfl) ?_
      refine lv_imul hx hb dX12_blends_22 ?_
      refine lv_iload_n hx hb dX12_blends_23 rfl (lv_at hl 0 rfl) ?_
      refine lv_iadd hx hb dX12_blends_24 ?_
      refine lv_bipush (v := 8) hx hb dX12_blends_25 (by decide) ?_
      refine lv_iload_n hx hb dX12_blends_27 rfl (lv_at hl 0 rfl) ?_
      refine lv_isub hx hb dX12_blends_28 ?_
      refine lv_aload_n hx hb dX12_blends_29 rfl (lv_at hl 2 rfl) ?_
      refine va_get (D := (dC, dI)) (ci := 12) (v := .ref h_made) (C := RX12) (T := TX12) (N := 22) hx hb hts inX12 hown hK hP 0 rfl rfl 18 (by decide) (hts _ (List.mem_cons_of_mem _ mw_180)) (fun _ h9 => h9) rfl dX12_blends_30 ?_
      refine lv_bipush (v := 32) hx hb dX12_blends_33 (by decide) ?_
      refine lv_iload_n hx hb dX12_blends_35 rfl (lv_at hl 1 rfl) ?_
      refine lv_imul hx hb dX12_blends_36 ?_
      refine lv_iload_n hx hb dX12_blends_37 rfl (lv_at hl 0 rfl) ?_
      refine lv_iadd hx hb dX12_blends_38 ?_
      obtain ⟨h13, hw⟩ := hw
      refine xiald (k := (((32 : Int32) * x4) + x10).toNatClampNeg) hx hb hK hP 1 0 rfl rfl h13 rfl dX12_blends_39 ?_
      refine lv_imul hx hb dX12_blends_40 ?_
      refine lv_iload_n hx hb dX12_blends_41 rfl (lv_at hl 0 rfl) ?_
      refine lv_aload_n hx hb dX12_blends_42 rfl (lv_at hl 2 rfl) ?_
      refine va_get (D := (dC, dI)) (ci := 12) (v := .ref h_comes) (C := RX12) (T := TX12) (N := 22) hx hb hts inX12 hown hK hP 0 rfl rfl 19 (by decide) (hts _ (List.mem_cons_of_mem _ mw_181)) (fun _ h9 => h9) rfl dX12_blends_43 ?_
      refine lv_bipush (v := 32) hx hb dX12_blends_46 (by decide) ?_
      refine lv_iload_n hx hb dX12_blends_48 rfl (lv_at hl 1 rfl) ?_
      refine lv_imul hx hb dX12_blends_49 ?_
      refine lv_iload_n hx hb dX12_blends_50 rfl (lv_at hl 0 rfl) ?_
      refine lv_iadd hx hb dX12_blends_51 ?_
      obtain ⟨h14, hw⟩ := hw
      refine xiald (k := (((32 : Int32) * x4) + x10).toNatClampNeg) hx hb hK hP 2 0 rfl rfl h14 rfl dX12_blends_52 ?_
      refine lv_imul hx hb dX12_blends_53 ?_
      refine lv_iadd hx hb dX12_blends_54 ?_
      refine lv_iconst (v := 3) hx hb dX12_blends_55 (by decide) ?_
      refine lv_ishr hx hb dX12_blends_56 ?_
      obtain ⟨h15, hw⟩ := hw
      refine xiast (k := (((32 : Int32) * x4) + x10).toNatClampNeg) hx hb hK hP hD hS 2 0 rfl rfl h15 rfl dX12_blends_57 ?_; clear hP hD hS; clear H locs; intro f16 e_f16 H locs hP hD hS
      replace hw := hw f16 e_f16
      clear e_f16
      replace hP : va_P (dC, dI) vwCl (w_X12_blends h0 h_row h_kept h_isKept h_aside h_eight h_rows h_scales h_dealt h_bytes h_heardRow h_made h_comes h_backs h_fresh cy c_thrown c_nodeS c_nodeD c_pairE c_pairO c_bit c_lag c_lagSum c_made f16) H := hP
      replace hD : va_D A (w_X12_blends h0 h_row h_kept h_isKept h_aside h_eight h_rows h_scales h_dealt h_bytes h_heardRow h_made h_comes h_backs h_fresh cy c_thrown c_nodeS c_nodeD c_pairE c_pairO c_bit c_lag c_lagSum c_made f16) := hD
      refine lv_iinc (v := x10 + 1) (lv' := [(2, .int (x10 + 1)), (1, .int x4), (0, .ref h0)]) hx hb dX12_blends_58 hl (k := 0) rfl rfl (by decide) rfl ?_; clear hl; clear ls; intro ls hl
      refine lv_goto (tgt := 9) hx hb dX12_blends_61 (by decide) ?_
      exact ih9 (x10 + 1) f16 hw H locs ls hP hD hS (lv_sub hl [0, 1, 2] rfl)
set_option maxHeartbeats 4000000 in
set_option maxRecDepth 100000 in
theorem c_X12_storeOf (l : Launch) (dC : Nat → ClassId) (dI : Nat → Nat → Nat) (cy : Nat → ClassId) (h0 h_row h_kept h_isKept h_aside h_eight h_rows h_scales h_dealt h_bytes h_heardRow h_made h_comes h_backs h_fresh : Nat) (sz : Nat) (v1 : Int32) (c_thrown : Int32) (c_nodeS : Int32) (c_nodeD : Int32) (c_pairE : Int32) (c_pairO : Int32) (c_bit : Int32) (c_lag : Int32) (c_lagSum : Int32) (c_row : Nat → Int32) (post : Int32 → Prop) (hw : wp_X12_storeOf v1 c_row post) : Met l yX12_storeOf wsX12_storeOf ({ frames := 0, cells := 0, slots := 0, locals := 0 }) (PX dC dI cy [.ref h0, .int v1] sz (w_X12_storeOf h0 h_row h_kept h_isKept h_aside h_eight h_rows h_scales h_dealt h_bytes h_heardRow h_made h_comes h_backs h_fresh cy c_thrown c_nodeS c_nodeD c_pairE c_pairO c_bit c_lag c_lagSum c_row)) (va_Qi (fun (r : Int32) (u : Unit) => post r) (QX dC dI cy (va_A (w_X12_storeOf h0 h_row h_kept h_isKept h_aside h_eight h_rows h_scales h_dealt h_bytes h_heardRow h_made h_comes h_backs h_fresh cy c_thrown c_nodeS c_nodeD c_pairE c_pairO c_bit c_lag c_lagSum c_row) sz) (fun (u : Unit) => w_X12_storeOf h0 h_row h_kept h_isKept h_aside h_eight h_rows h_scales h_dealt h_bytes h_heardRow h_made h_comes h_backs h_fresh cy c_thrown c_nodeS c_nodeD c_pairE c_pairO c_bit c_lag c_lagSum c_row)) (va_A (w_X12_storeOf h0 h_row h_kept h_isKept h_aside h_eight h_rows h_scales h_dealt h_bytes h_heardRow h_made h_comes h_backs h_fresh cy c_thrown c_nodeS c_nodeD c_pairE c_pairO c_bit c_lag c_lagSum c_row) sz)) 0 0 (va_A (w_X12_storeOf h0 h_row h_kept h_isKept h_aside h_eight h_rows h_scales h_dealt h_bytes h_heardRow h_made h_comes h_backs h_fresh cy c_thrown c_nodeS c_nodeD c_pairE c_pairO c_bit c_lag c_lagSum c_row) sz) := by
  refine Met.ofW (cc := cX12_storeOf) (maxL := 4) (ret := (some .int)) (by decide) rfl ?_
  intro p e s m args below meth c s₁ B hml hv
  obtain ⟨rfl, hsz, hP, hK, hD0, hG⟩ := hv
  have hx := B.exec
  have hb := B.bytes
  have hr := B.returns
  have hts := atoms_spec (ws := wsX12_storeOf) B.pre
  have hown : s.vm.findClass RX12 = some m.cls := findClass_of_methodNamed B.named
  have hlocks := B.notSynchronized
  subst hsz
  have hD := hD0.self (sz := s.heap.size)
  generalize hAe : va_A (w_X12_storeOf h0 h_row h_kept h_isKept h_aside h_eight h_rows h_scales h_dealt h_bytes h_heardRow h_made h_comes h_backs h_fresh cy c_thrown c_nodeS c_nodeD c_pairE c_pairO c_bit c_lag c_lagSum c_row) s.heap.size = A at hD ⊢
  have hA : ∀ q : Nat, s.heap.size ≤ q → A q := fun q h => by rw [← hAe]; exact Or.inr h
  have hS : va_S A s.heap s.heap [] := va_S.rf
  have hl := lv_entry ([.ref h0, .int v1]) (n := 4) (Nat.le_of_ble_eq_true rfl)
  rw [lg_entry_eq]
  generalize (lg_sl ([.ref h0, .int v1]) ++ List.replicate (4 - (lg_sl ([.ref h0, .int v1])).length) Slot.unset).toArray = ls at hl ⊢
  replace hl : lv_has ls 4 [(0, .ref h0), (1, .int v1)] := hl
  have inX12 : ∀ w ∈ u_ws RX12 TX12 22, w ∈ wsX12_storeOf := fun w h => List.mem_cons_of_mem _ (inlX12 w h)
  clear hAe hD0 B
  unfold wp_X12_storeOf at hw
  generalize hQe : MQ below _ _ s _ _ _ = Q0
  generalize ([.ref h0, .int v1] : List Value).toArray = av at *
  obtain ⟨H, hH⟩ : ∃ H, H = s.heap := ⟨_, rfl⟩
  obtain ⟨locs, hlo⟩ : ∃ L : List Loc, L = [] := ⟨_, rfl⟩
  replace hP : va_P (dC, dI) vwCl (w_X12_storeOf h0 h_row h_kept h_isKept h_aside h_eight h_rows h_scales h_dealt h_bytes h_heardRow h_made h_comes h_backs h_fresh cy c_thrown c_nodeS c_nodeD c_pairE c_pairO c_bit c_lag c_lagSum c_row) H := by rw [hH]; exact hP
  replace hS : va_S A s.heap H locs := by rw [hH, hlo]; exact hS
  suffices hgo : W p l e ({ frames := 0, cells := 0, slots := 0, locals := 0 }) s m av below meth c H locs 0 0 Q0 (F0 m 0 ls []) by rw [hH, hlo] at hgo; exact hgo
  clear hH hlo
  refine lv_iconst (v := -1) hx hb dX12_storeOf_0 (by decide) ?_
  refine lv_istore_n (lv' := [(2, .int (-1 : Int32)), (0, .ref h0), (1, .int v1)]) hx hb dX12_storeOf_1 rfl hl (by decide) rfl ?_; clear hl; clear ls; intro ls hl
  refine lv_iconst (v := 0) hx hb dX12_storeOf_2 (by decide) ?_
  refine lv_istore_n (lv' := [(3, .int (0 : Int32)), (2, .int (-1 : Int32)), (0, .ref h0), (1, .int v1)]) hx hb dX12_storeOf_3 rfl hl (by decide) rfl ?_; clear hl; clear ls; intro ls hl
  obtain ⟨x1, e_x1⟩ : ∃ y : Int32, y = (0 : Int32) := ⟨_, rfl⟩
  replace hw := hw x1 e_x1
  replace hl : lv_has ls 4 [(3, .int x1), (2, .int (-1 : Int32)), (0, .ref h0), (1, .int v1)] := by rw [e_x1]; exact hl
  clear e_x1
  obtain ⟨x2, e_x2⟩ : ∃ y : Int32, y = (-1 : Int32) := ⟨_, rfl⟩
  replace hw := hw x2 e_x2
  replace hl : lv_has ls 4 [(3, .int x1), (2, .int x2), (0, .ref h0), (1, .int v1)] := by rw [e_x2]; exact hl
  clear e_x2
  replace hl := lv_sub (l' := [(3, .int x1), (2, .int x2), (0, .ref h0), (1, .int v1)]) hl [0, 1, 2, 3] rfl
  revert hl; revert hS; revert hD; revert hP; revert ls; revert locs; revert H
  revert hw; revert x2; revert x1
  refine Lz2_gr ?_; intro g3 ih4 x5 x6 hw
  intro H locs ls hP hD hS hl
  refine lv_iload_n hx hb dX12_storeOf_4 rfl (lv_at hl 0 rfl) ?_
  refine lv_bipush (v := 14) hx hb dX12_storeOf_5 (by decide) ?_
  refine lv_icmp_ge (tgt := 48) hx hb dX12_storeOf_7 (by decide) (fun c7 => ?_) (fun c7 => ?_)
  · replace hw := hw.1 c7; clear c7
    clear ih4
    refine lv_iload_n hx hb dX12_storeOf_48 rfl (lv_at hl 1 rfl) ?_
    subst hQe
    exact W.iret (v := x6) hx hb hr (fun t ht hW => ⟨⟨x6, (), rfl, hw, by rw [ht]; exact hP, va_K.moved hW.alike hK, hD⟩, hS.F ht⟩) hS.2.2 dX12_storeOf_49
  · replace hw := hw.2 c7; clear c7
    refine lv_aload_n hx hb dX12_storeOf_10 rfl (lv_at hl 2 rfl) ?_
    refine va_get (D := (dC, dI)) (ci := 12) (v := .ref h_row) (C := RX12) (T := TX12) (N := 22) hx hb hts inX12 hown hK hP 0 rfl rfl 1 (by decide) (hts _ (List.mem_cons_of_mem _ mw_169)) (fun _ h9 => h9) rfl dX12_storeOf_11 ?_
    refine lv_sipush (v := 2095) hx hb dX12_storeOf_14 (by decide) ?_
    refine lv_bipush (v := 83) hx hb dX12_storeOf_17 (by decide) ?_
    refine lv_iload_n hx hb dX12_storeOf_19 rfl (lv_at hl 0 rfl) ?_
    refine lv_imul hx hb dX12_storeOf_20 ?_
    refine lv_iadd hx hb dX12_storeOf_21 ?_
    obtain ⟨h8, hw⟩ := hw
    refine xiald (k := ((2095 : Int32) + ((83 : Int32) * x5)).toNatClampNeg) hx hb hK hP 1 0 rfl rfl h8 rfl dX12_storeOf_22 ?_
    refine lv_iload_n hx hb dX12_storeOf_23 rfl (lv_at hl 3 rfl) ?_
    refine lv_iconst (v := 1) hx hb dX12_storeOf_24 (by decide) ?_
    refine lv_iadd hx hb dX12_storeOf_25 ?_
    refine jn1 (Gg := fun (x9 : Int32) => ∀ (H : Heap) (locs : List Loc) (ls : Array Slot), va_P (dC, dI) vwCl (w_X12_storeOf h0 h_row h_kept h_isKept h_aside h_eight h_rows h_scales h_dealt h_bytes h_heardRow h_made h_comes h_backs h_fresh cy c_thrown c_nodeS c_nodeD c_pairE c_pairO c_bit c_lag c_lagSum c_row) H → va_D A (w_X12_storeOf h0 h_row h_kept h_isKept h_aside h_eight h_rows h_scales h_dealt h_bytes h_heardRow h_made h_comes h_backs h_fresh cy c_thrown c_nodeS c_nodeD c_pairE c_pairO c_bit c_lag c_lagSum c_row) → va_S A s.heap H locs → lv_has ls 4 [(0, .ref h0), (1, .int v1), (3, .int x5)] → W p l e { frames := 0, cells := 0, slots := 0, locals := 0 } s m av below meth c H locs 0 0 Q0 (F0 m 41 ls [.int x9])) hw ?_ ?_ <;> clear hw
    · clear hP hD hS hl; clear H locs ls; intro x9 hw H locs ls hP hD hS hl
      refine lv_istore_n (lv' := [(2, .int x9), (0, .ref h0), (1, .int v1), (3, .int x5)]) hx hb dX12_storeOf_41 rfl hl (by decide) rfl ?_; clear hl; clear ls; intro ls hl
      refine lv_iinc (v := x5 + 1) (lv' := [(3, .int (x5 + 1)), (2, .int x9), (0, .ref h0), (1, .int v1)]) hx hb dX12_storeOf_42 hl (k := 3) rfl rfl (by decide) rfl ?_; clear hl; clear ls; intro ls hl
      refine lv_goto (tgt := 4) hx hb dX12_storeOf_45 (by decide) ?_
      exact ih4 (x5 + 1) x9 hw H locs ls hP hD hS (lv_sub hl [0, 1, 2, 3] rfl)
    · intro j11 hw
      refine lv_icmp_ne (tgt := 40) hx hb dX12_storeOf_26 (by decide) (fun c12 => ?_) (fun c12 => ?_)
      · replace hw := hw.2 c12; clear c12
        refine lv_iload_n hx hb dX12_storeOf_40 rfl (lv_at hl 1 rfl) ?_
        exact j11 x6 hw H locs ls hP hD hS (lv_sub hl [2, 3, 0] rfl)
      · replace hw := hw.1 c12; clear c12
        refine lv_sipush (v := 2095) hx hb dX12_storeOf_29 (by decide) ?_
        refine lv_bipush (v := 83) hx hb dX12_storeOf_32 (by decide) ?_
        refine lv_iload_n hx hb dX12_storeOf_34 rfl (lv_at hl 0 rfl) ?_
        refine lv_imul hx hb dX12_storeOf_35 ?_
        refine lv_iadd hx hb dX12_storeOf_36 ?_
        refine lv_goto (tgt := 41) hx hb dX12_storeOf_37 (by decide) ?_
        exact j11 ((2095 : Int32) + ((83 : Int32) * x5)) hw H locs ls hP hD hS (lv_sub hl [2, 3, 0] rfl)
set_option maxHeartbeats 4000000 in
set_option maxRecDepth 100000 in
theorem c_X12_tellsPlayed (l : Launch) (dC : Nat → ClassId) (dI : Nat → Nat → Nat) (cy : Nat → ClassId) (h0 h_row h_kept h_isKept h_aside h_eight h_rows h_scales h_dealt h_bytes h_heardRow h_made h_comes h_backs h_fresh : Nat) (sz : Nat) (v1 : Int32) (v2 : Int32) (v3 : Int32) (v4 : Int32) (v5 : Int32) (c_thrown : Int32) (c_nodeS : Int32) (c_nodeD : Int32) (c_pairE : Int32) (c_pairO : Int32) (c_bit : Int32) (c_lag : Int32) (c_lagSum : Int32) (c_row : Nat → Int32) (post : (Nat → Int32) → Prop) (hw : wp_X12_tellsPlayed v1 v2 v3 v4 v5 c_row post) : Met l yX12_tellsPlayed wsX12_tellsPlayed ({ frames := 0, cells := 0, slots := 0, locals := 0 }) (PX dC dI cy [.ref h0, .int v1, .int v2, .int v3, .int v4, .int v5] sz (w_X12_tellsPlayed h0 h_row h_kept h_isKept h_aside h_eight h_rows h_scales h_dealt h_bytes h_heardRow h_made h_comes h_backs h_fresh cy c_thrown c_nodeS c_nodeD c_pairE c_pairO c_bit c_lag c_lagSum c_row)) (va_Qv (fun (u : (Nat → Int32)) => post u) (QX dC dI cy (va_A (w_X12_tellsPlayed h0 h_row h_kept h_isKept h_aside h_eight h_rows h_scales h_dealt h_bytes h_heardRow h_made h_comes h_backs h_fresh cy c_thrown c_nodeS c_nodeD c_pairE c_pairO c_bit c_lag c_lagSum c_row) sz) (fun (u : (Nat → Int32)) => w_X12_tellsPlayed h0 h_row h_kept h_isKept h_aside h_eight h_rows h_scales h_dealt h_bytes h_heardRow h_made h_comes h_backs h_fresh cy c_thrown c_nodeS c_nodeD c_pairE c_pairO c_bit c_lag c_lagSum u)) (va_A (w_X12_tellsPlayed h0 h_row h_kept h_isKept h_aside h_eight h_rows h_scales h_dealt h_bytes h_heardRow h_made h_comes h_backs h_fresh cy c_thrown c_nodeS c_nodeD c_pairE c_pairO c_bit c_lag c_lagSum c_row) sz)) 0 0 (va_A (w_X12_tellsPlayed h0 h_row h_kept h_isKept h_aside h_eight h_rows h_scales h_dealt h_bytes h_heardRow h_made h_comes h_backs h_fresh cy c_thrown c_nodeS c_nodeD c_pairE c_pairO c_bit c_lag c_lagSum c_row) sz) := by
  refine Met.ofW (cc := cX12_tellsPlayed) (maxL := 7) (ret := none) (by decide) rfl ?_
  intro p e s m args below meth c s₁ B hml hv
  obtain ⟨rfl, hsz, hP, hK, hD0, hG⟩ := hv
  have hx := B.exec
  have hb := B.bytes
  have hr := B.returns
  have hts := atoms_spec (ws := wsX12_tellsPlayed) B.pre
  have hown : s.vm.findClass RX12 = some m.cls := findClass_of_methodNamed B.named
  have hlocks := B.notSynchronized
  subst hsz
  have hD := hD0.self (sz := s.heap.size)
  generalize hAe : va_A (w_X12_tellsPlayed h0 h_row h_kept h_isKept h_aside h_eight h_rows h_scales h_dealt h_bytes h_heardRow h_made h_comes h_backs h_fresh cy c_thrown c_nodeS c_nodeD c_pairE c_pairO c_bit c_lag c_lagSum c_row) s.heap.size = A at hD ⊢
  have hA : ∀ q : Nat, s.heap.size ≤ q → A q := fun q h => by rw [← hAe]; exact Or.inr h
  have hS : va_S A s.heap s.heap [] := va_S.rf
  have hl := lv_entry ([.ref h0, .int v1, .int v2, .int v3, .int v4, .int v5]) (n := 7) (Nat.le_of_ble_eq_true rfl)
  rw [lg_entry_eq]
  generalize (lg_sl ([.ref h0, .int v1, .int v2, .int v3, .int v4, .int v5]) ++ List.replicate (7 - (lg_sl ([.ref h0, .int v1, .int v2, .int v3, .int v4, .int v5])).length) Slot.unset).toArray = ls at hl ⊢
  replace hl : lv_has ls 7 [(0, .ref h0), (1, .int v1), (2, .int v2), (3, .int v3), (4, .int v4), (5, .int v5)] := hl
  have inX12 : ∀ w ∈ u_ws RX12 TX12 22, w ∈ wsX12_tellsPlayed := fun w h => List.mem_cons_of_mem _ (inlX12 w h)
  clear hAe hD0 B
  unfold wp_X12_tellsPlayed at hw
  generalize hQe : MQ below _ _ s _ _ _ = Q0
  generalize ([.ref h0, .int v1, .int v2, .int v3, .int v4, .int v5] : List Value).toArray = av at *
  obtain ⟨H, hH⟩ : ∃ H, H = s.heap := ⟨_, rfl⟩
  obtain ⟨locs, hlo⟩ : ∃ L : List Loc, L = [] := ⟨_, rfl⟩
  replace hP : va_P (dC, dI) vwCl (w_X12_tellsPlayed h0 h_row h_kept h_isKept h_aside h_eight h_rows h_scales h_dealt h_bytes h_heardRow h_made h_comes h_backs h_fresh cy c_thrown c_nodeS c_nodeD c_pairE c_pairO c_bit c_lag c_lagSum c_row) H := by rw [hH]; exact hP
  replace hS : va_S A s.heap H locs := by rw [hH, hlo]; exact hS
  suffices hgo : W p l e ({ frames := 0, cells := 0, slots := 0, locals := 0 }) s m av below meth c H locs 0 0 Q0 (F0 m 0 ls []) by rw [hH, hlo] at hgo; exact hgo
  clear hH hlo
  refine lv_aload_n hx hb dX12_tellsPlayed_0 rfl (lv_at hl 0 rfl) ?_
  refine va_get (D := (dC, dI)) (ci := 12) (v := .ref h_row) (C := RX12) (T := TX12) (N := 22) hx hb hts inX12 hown hK hP 0 rfl rfl 1 (by decide) (hts _ (List.mem_cons_of_mem _ mw_169)) (fun _ h9 => h9) rfl dX12_tellsPlayed_1 ?_
  refine lv_bipush (v := 52) hx hb dX12_tellsPlayed_4 (by decide) ?_
  refine xiald (k := 52) hx hb hK hP 1 0 rfl rfl (vpL 52 13385 rfl) (by decide) dX12_tellsPlayed_6 ?_
  refine lv_bipush (v := 16) hx hb dX12_tellsPlayed_7 (by decide) ?_
  refine jn1 (Gg := fun (f2 : (Nat → Int32)) => ∀ (H : Heap) (locs : List Loc) (ls : Array Slot), va_P (dC, dI) vwCl (w_X12_tellsPlayed h0 h_row h_kept h_isKept h_aside h_eight h_rows h_scales h_dealt h_bytes h_heardRow h_made h_comes h_backs h_fresh cy c_thrown c_nodeS c_nodeD c_pairE c_pairO c_bit c_lag c_lagSum f2) H → va_D A (w_X12_tellsPlayed h0 h_row h_kept h_isKept h_aside h_eight h_rows h_scales h_dealt h_bytes h_heardRow h_made h_comes h_backs h_fresh cy c_thrown c_nodeS c_nodeD c_pairE c_pairO c_bit c_lag c_lagSum f2) → va_S A s.heap H locs → lv_has ls 7 [(0, .ref h0), (1, .int v1), (2, .int v2), (3, .int v3), (4, .int v4), (5, .int v5)] → W p l e { frames := 0, cells := 0, slots := 0, locals := 0 } s m av below meth c H locs 0 0 Q0 (F0 m 70 ls [])) hw ?_ ?_ <;> clear hw
  · clear hP hD hS hl; clear H locs ls; intro f2 hw H locs ls hP hD hS hl
    refine lv_sipush (v := 3257) hx hb dX12_tellsPlayed_70 (by decide) ?_
    refine lv_bipush (v := 7) hx hb dX12_tellsPlayed_73 (by decide) ?_
    refine lv_aload_n hx hb dX12_tellsPlayed_75 rfl (lv_at hl 0 rfl) ?_
    refine va_get (D := (dC, dI)) (ci := 12) (v := .ref h_row) (C := RX12) (T := TX12) (N := 22) hx hb hts inX12 hown hK hP 0 rfl rfl 1 (by decide) (hts _ (List.mem_cons_of_mem _ mw_169)) (fun _ h9 => h9) rfl dX12_tellsPlayed_76 ?_
    refine lv_bipush (v := 52) hx hb dX12_tellsPlayed_79 (by decide) ?_
    refine xiald (k := 52) hx hb hK hP 1 0 rfl rfl (vpL 52 13385 rfl) (by decide) dX12_tellsPlayed_81 ?_
    refine lv_imul hx hb dX12_tellsPlayed_82 ?_
    refine lv_iadd hx hb dX12_tellsPlayed_83 ?_
    refine lv_topi (fun x6 e_x6 => ?_)
    replace hw := hw x6 e_x6
    clear e_x6
    refine lv_istore (lv' := [(6, .int x6), (0, .ref h0), (1, .int v1), (2, .int v2), (3, .int v3), (4, .int v4), (5, .int v5)]) hx hb dX12_tellsPlayed_84 hl (by decide) rfl ?_; clear hl; clear ls; intro ls hl
    refine lv_aload_n hx hb dX12_tellsPlayed_86 rfl (lv_at hl 1 rfl) ?_
    refine va_get (D := (dC, dI)) (ci := 12) (v := .ref h_row) (C := RX12) (T := TX12) (N := 22) hx hb hts inX12 hown hK hP 0 rfl rfl 1 (by decide) (hts _ (List.mem_cons_of_mem _ mw_169)) (fun _ h9 => h9) rfl dX12_tellsPlayed_87 ?_
    refine lv_iload hx hb dX12_tellsPlayed_90 (lv_at hl 0 rfl) ?_
    refine lv_iload_n hx hb dX12_tellsPlayed_92 rfl (lv_at hl 2 rfl) ?_
    obtain ⟨h7, hw⟩ := hw
    refine xiast (k := x6.toNatClampNeg) hx hb hK hP hD hS 1 0 rfl rfl h7 rfl dX12_tellsPlayed_93 ?_; clear hP hD hS; clear H locs; intro f8 e_f8 H locs hP hD hS
    replace hw := hw f8 e_f8
    clear e_f8
    replace hP : va_P (dC, dI) vwCl (w_X12_tellsPlayed h0 h_row h_kept h_isKept h_aside h_eight h_rows h_scales h_dealt h_bytes h_heardRow h_made h_comes h_backs h_fresh cy c_thrown c_nodeS c_nodeD c_pairE c_pairO c_bit c_lag c_lagSum f8) H := hP
    replace hD : va_D A (w_X12_tellsPlayed h0 h_row h_kept h_isKept h_aside h_eight h_rows h_scales h_dealt h_bytes h_heardRow h_made h_comes h_backs h_fresh cy c_thrown c_nodeS c_nodeD c_pairE c_pairO c_bit c_lag c_lagSum f8) := hD
    refine lv_aload_n hx hb dX12_tellsPlayed_94 rfl (lv_at hl 1 rfl) ?_
    refine va_get (D := (dC, dI)) (ci := 12) (v := .ref h_row) (C := RX12) (T := TX12) (N := 22) hx hb hts inX12 hown hK hP 0 rfl rfl 1 (by decide) (hts _ (List.mem_cons_of_mem _ mw_169)) (fun _ h9 => h9) rfl dX12_tellsPlayed_95 ?_
    refine lv_iload hx hb dX12_tellsPlayed_98 (lv_at hl 0 rfl) ?_
    refine lv_iconst (v := 1) hx hb dX12_tellsPlayed_100 (by decide) ?_
    refine lv_iadd hx hb dX12_tellsPlayed_101 ?_
    refine lv_iload_n hx hb dX12_tellsPlayed_102 rfl (lv_at hl 3 rfl) ?_
    obtain ⟨h9, hw⟩ := hw
    refine xiast (k := (x6 + (1 : Int32)).toNatClampNeg) hx hb hK hP hD hS 1 0 rfl rfl h9 rfl dX12_tellsPlayed_103 ?_; clear hP hD hS; clear H locs; intro f10 e_f10 H locs hP hD hS
    replace hw := hw f10 e_f10
    clear e_f10
    replace hP : va_P (dC, dI) vwCl (w_X12_tellsPlayed h0 h_row h_kept h_isKept h_aside h_eight h_rows h_scales h_dealt h_bytes h_heardRow h_made h_comes h_backs h_fresh cy c_thrown c_nodeS c_nodeD c_pairE c_pairO c_bit c_lag c_lagSum f10) H := hP
    replace hD : va_D A (w_X12_tellsPlayed h0 h_row h_kept h_isKept h_aside h_eight h_rows h_scales h_dealt h_bytes h_heardRow h_made h_comes h_backs h_fresh cy c_thrown c_nodeS c_nodeD c_pairE c_pairO c_bit c_lag c_lagSum f10) := hD
    refine lv_aload_n hx hb dX12_tellsPlayed_104 rfl (lv_at hl 1 rfl) ?_
    refine va_get (D := (dC, dI)) (ci := 12) (v := .ref h_row) (C := RX12) (T := TX12) (N := 22) hx hb hts inX12 hown hK hP 0 rfl rfl 1 (by decide) (hts _ (List.mem_cons_of_mem _ mw_169)) (fun _ h9 => h9) rfl dX12_tellsPlayed_105 ?_
    refine lv_iload hx hb dX12_tellsPlayed_108 (lv_at hl 0 rfl) ?_
    refine lv_iconst (v := 2) hx hb dX12_tellsPlayed_110 (by decide) ?_
    refine lv_iadd hx hb dX12_tellsPlayed_111 ?_
    refine lv_iload_n hx hb dX12_tellsPlayed_112 rfl (lv_at hl 4 rfl) ?_
    obtain ⟨h11, hw⟩ := hw
    refine xiast (k := (x6 + (2 : Int32)).toNatClampNeg) hx hb hK hP hD hS 1 0 rfl rfl h11 rfl dX12_tellsPlayed_113 ?_; clear hP hD hS; clear H locs; intro f12 e_f12 H locs hP hD hS
    replace hw := hw f12 e_f12
    clear e_f12
    replace hP : va_P (dC, dI) vwCl (w_X12_tellsPlayed h0 h_row h_kept h_isKept h_aside h_eight h_rows h_scales h_dealt h_bytes h_heardRow h_made h_comes h_backs h_fresh cy c_thrown c_nodeS c_nodeD c_pairE c_pairO c_bit c_lag c_lagSum f12) H := hP
    replace hD : va_D A (w_X12_tellsPlayed h0 h_row h_kept h_isKept h_aside h_eight h_rows h_scales h_dealt h_bytes h_heardRow h_made h_comes h_backs h_fresh cy c_thrown c_nodeS c_nodeD c_pairE c_pairO c_bit c_lag c_lagSum f12) := hD
    refine lv_aload_n hx hb dX12_tellsPlayed_114 rfl (lv_at hl 1 rfl) ?_
    refine va_get (D := (dC, dI)) (ci := 12) (v := .ref h_row) (C := RX12) (T := TX12) (N := 22) hx hb hts inX12 hown hK hP 0 rfl rfl 1 (by decide) (hts _ (List.mem_cons_of_mem _ mw_169)) (fun _ h9 => h9) rfl dX12_tellsPlayed_115 ?_
    refine lv_iload hx hb dX12_tellsPlayed_118 (lv_at hl 0 rfl) ?_
    refine lv_iconst (v := 3) hx hb dX12_tellsPlayed_120 (by decide) ?_
    refine lv_iadd hx hb dX12_tellsPlayed_121 ?_
    refine lv_aload_n hx hb dX12_tellsPlayed_122 rfl (lv_at hl 1 rfl) ?_
    refine va_get (D := (dC, dI)) (ci := 12) (v := .ref h_row) (C := RX12) (T := TX12) (N := 22) hx hb hts inX12 hown hK hP 0 rfl rfl 1 (by decide) (hts _ (List.mem_cons_of_mem _ mw_169)) (fun _ h9 => h9) rfl dX12_tellsPlayed_123 ?_
    refine lv_bipush (v := 33) hx hb dX12_tellsPlayed_126 (by decide) ?_
    refine xiald (k := 33) hx hb hK hP 1 0 rfl rfl (vpL 33 13385 rfl) (by decide) dX12_tellsPlayed_128 ?_
    obtain ⟨h14, hw⟩ := hw
    refine xiast (k := (x6 + (3 : Int32)).toNatClampNeg) hx hb hK hP hD hS 1 0 rfl rfl h14 rfl dX12_tellsPlayed_129 ?_; clear hP hD hS; clear H locs; intro f15 e_f15 H locs hP hD hS
    replace hw := hw f15 e_f15
    clear e_f15
    replace hP : va_P (dC, dI) vwCl (w_X12_tellsPlayed h0 h_row h_kept h_isKept h_aside h_eight h_rows h_scales h_dealt h_bytes h_heardRow h_made h_comes h_backs h_fresh cy c_thrown c_nodeS c_nodeD c_pairE c_pairO c_bit c_lag c_lagSum f15) H := hP
    replace hD : va_D A (w_X12_tellsPlayed h0 h_row h_kept h_isKept h_aside h_eight h_rows h_scales h_dealt h_bytes h_heardRow h_made h_comes h_backs h_fresh cy c_thrown c_nodeS c_nodeD c_pairE c_pairO c_bit c_lag c_lagSum f15) := hD
    refine lv_aload_n hx hb dX12_tellsPlayed_130 rfl (lv_at hl 1 rfl) ?_
    refine va_get (D := (dC, dI)) (ci := 12) (v := .ref h_row) (C := RX12) (T := TX12) (N := 22) hx hb hts inX12 hown hK hP 0 rfl rfl 1 (by decide) (hts _ (List.mem_cons_of_mem _ mw_169)) (fun _ h9 => h9) rfl dX12_tellsPlayed_131 ?_
    refine lv_iload hx hb dX12_tellsPlayed_134 (lv_at hl 0 rfl) ?_
    refine lv_iconst (v := 4) hx hb dX12_tellsPlayed_136 (by decide) ?_
    refine lv_iadd hx hb dX12_tellsPlayed_137 ?_
    refine lv_iload hx hb dX12_tellsPlayed_138 (lv_at hl 5 rfl) ?_
    obtain ⟨h16, hw⟩ := hw
    refine xiast (k := (x6 + (4 : Int32)).toNatClampNeg) hx hb hK hP hD hS 1 0 rfl rfl h16 rfl dX12_tellsPlayed_140 ?_; clear hP hD hS; clear H locs; intro f17 e_f17 H locs hP hD hS
    replace hw := hw f17 e_f17
    clear e_f17
    replace hP : va_P (dC, dI) vwCl (w_X12_tellsPlayed h0 h_row h_kept h_isKept h_aside h_eight h_rows h_scales h_dealt h_bytes h_heardRow h_made h_comes h_backs h_fresh cy c_thrown c_nodeS c_nodeD c_pairE c_pairO c_bit c_lag c_lagSum f17) H := hP
    replace hD : va_D A (w_X12_tellsPlayed h0 h_row h_kept h_isKept h_aside h_eight h_rows h_scales h_dealt h_bytes h_heardRow h_made h_comes h_backs h_fresh cy c_thrown c_nodeS c_nodeD c_pairE c_pairO c_bit c_lag c_lagSum f17) := hD
    refine lv_aload_n hx hb dX12_tellsPlayed_141 rfl (lv_at hl 1 rfl) ?_
    refine va_get (D := (dC, dI)) (ci := 12) (v := .ref h_row) (C := RX12) (T := TX12) (N := 22) hx hb hts inX12 hown hK hP 0 rfl rfl 1 (by decide) (hts _ (List.mem_cons_of_mem _ mw_169)) (fun _ h9 => h9) rfl dX12_tellsPlayed_142 ?_
    refine lv_iload hx hb dX12_tellsPlayed_145 (lv_at hl 0 rfl) ?_
    refine lv_iconst (v := 5) hx hb dX12_tellsPlayed_147 (by decide) ?_
    refine lv_iadd hx hb dX12_tellsPlayed_148 ?_
    refine lv_iload hx hb dX12_tellsPlayed_149 (lv_at hl 6 rfl) ?_
    obtain ⟨h18, hw⟩ := hw
    refine xiast (k := (x6 + (5 : Int32)).toNatClampNeg) hx hb hK hP hD hS 1 0 rfl rfl h18 rfl dX12_tellsPlayed_151 ?_; clear hP hD hS; clear H locs; intro f19 e_f19 H locs hP hD hS
    replace hw := hw f19 e_f19
    clear e_f19
    replace hP : va_P (dC, dI) vwCl (w_X12_tellsPlayed h0 h_row h_kept h_isKept h_aside h_eight h_rows h_scales h_dealt h_bytes h_heardRow h_made h_comes h_backs h_fresh cy c_thrown c_nodeS c_nodeD c_pairE c_pairO c_bit c_lag c_lagSum f19) H := hP
    replace hD : va_D A (w_X12_tellsPlayed h0 h_row h_kept h_isKept h_aside h_eight h_rows h_scales h_dealt h_bytes h_heardRow h_made h_comes h_backs h_fresh cy c_thrown c_nodeS c_nodeD c_pairE c_pairO c_bit c_lag c_lagSum f19) := hD
    refine lv_aload_n hx hb dX12_tellsPlayed_152 rfl (lv_at hl 1 rfl) ?_
    refine va_get (D := (dC, dI)) (ci := 12) (v := .ref h_row) (C := RX12) (T := TX12) (N := 22) hx hb hts inX12 hown hK hP 0 rfl rfl 1 (by decide) (hts _ (List.mem_cons_of_mem _ mw_169)) (fun _ h9 => h9) rfl dX12_tellsPlayed_153 ?_
    refine lv_iload hx hb dX12_tellsPlayed_156 (lv_at hl 0 rfl) ?_
    refine lv_bipush (v := 6) hx hb dX12_tellsPlayed_158 (by decide) ?_
    refine lv_iadd hx hb dX12_tellsPlayed_160 ?_
    refine lv_aload_n hx hb dX12_tellsPlayed_161 rfl (lv_at hl 1 rfl) ?_
    refine va_get (D := (dC, dI)) (ci := 12) (v := .ref h_row) (C := RX12) (T := TX12) (N := 22) hx hb hts inX12 hown hK hP 0 rfl rfl 1 (by decide) (hts _ (List.mem_cons_of_mem _ mw_169)) (fun _ h9 => h9) rfl dX12_tellsPlayed_162 ?_
    refine lv_bipush (v := 25) hx hb dX12_tellsPlayed_165 (by decide) ?_
    refine xiald (k := 25) hx hb hK hP 1 0 rfl rfl (vpL 25 13385 rfl) (by decide) dX12_tellsPlayed_167 ?_
    obtain ⟨h21, hw⟩ := hw
    refine xiast (k := (x6 + (6 : Int32)).toNatClampNeg) hx hb hK hP hD hS 1 0 rfl rfl h21 rfl dX12_tellsPlayed_168 ?_; clear hP hD hS; clear H locs; intro f22 e_f22 H locs hP hD hS
    replace hw := hw f22 e_f22
    clear e_f22
    replace hP : va_P (dC, dI) vwCl (w_X12_tellsPlayed h0 h_row h_kept h_isKept h_aside h_eight h_rows h_scales h_dealt h_bytes h_heardRow h_made h_comes h_backs h_fresh cy c_thrown c_nodeS c_nodeD c_pairE c_pairO c_bit c_lag c_lagSum f22) H := hP
    replace hD : va_D A (w_X12_tellsPlayed h0 h_row h_kept h_isKept h_aside h_eight h_rows h_scales h_dealt h_bytes h_heardRow h_made h_comes h_backs h_fresh cy c_thrown c_nodeS c_nodeD c_pairE c_pairO c_bit c_lag c_lagSum f22) := hD
    refine lv_aload_n hx hb dX12_tellsPlayed_169 rfl (lv_at hl 1 rfl) ?_
    refine va_get (D := (dC, dI)) (ci := 12) (v := .ref h_row) (C := RX12) (T := TX12) (N := 22) hx hb hts inX12 hown hK hP 0 rfl rfl 1 (by decide) (hts _ (List.mem_cons_of_mem _ mw_169)) (fun _ h9 => h9) rfl dX12_tellsPlayed_170 ?_
    refine lv_bipush (v := 52) hx hb dX12_tellsPlayed_173 (by decide) ?_
    refine lv_dup2_11 hx hb dX12_tellsPlayed_175 rfl rfl ?_
    refine xiald (k := 52) hx hb hK hP 1 0 rfl rfl (vpL 52 13385 rfl) (by decide) dX12_tellsPlayed_176 ?_
    refine lv_iconst (v := 1) hx hb dX12_tellsPlayed_177 (by decide) ?_
    refine lv_iadd hx hb dX12_tellsPlayed_178 ?_
    refine xiast (k := 52) hx hb hK hP hD hS 1 0 rfl rfl (vpL 52 13385 rfl) (by decide) dX12_tellsPlayed_179 ?_; clear hP hD hS; clear H locs; intro f25 e_f25 H locs hP hD hS
    replace hw := hw f25 e_f25
    clear e_f25
    replace hP : va_P (dC, dI) vwCl (w_X12_tellsPlayed h0 h_row h_kept h_isKept h_aside h_eight h_rows h_scales h_dealt h_bytes h_heardRow h_made h_comes h_backs h_fresh cy c_thrown c_nodeS c_nodeD c_pairE c_pairO c_bit c_lag c_lagSum f25) H := hP
    replace hD : va_D A (w_X12_tellsPlayed h0 h_row h_kept h_isKept h_aside h_eight h_rows h_scales h_dealt h_bytes h_heardRow h_made h_comes h_backs h_fresh cy c_thrown c_nodeS c_nodeD c_pairE c_pairO c_bit c_lag c_lagSum f25) := hD
    subst hQe
    exact W.vret hx hb hr (fun t ht hW => ⟨⟨f25, rfl, hw, by rw [ht]; exact hP, va_K.moved hW.alike hK, hD⟩, hS.F ht⟩) hS.2.2 dX12_tellsPlayed_180
  · intro j4 hw
    refine lv_icmp_ne (tgt := 70) hx hb dX12_tellsPlayed_9 (by decide) (fun c26 => ?_) (fun c26 => ?_)
    · replace hw := hw.2 c26; clear c26
      exact j4 c_row hw H locs ls hP hD hS (lv_sub hl [0, 1, 2, 3, 4, 5] rfl)
    · replace hw := hw.1 c26; clear c26
      refine lv_aload_n hx hb dX12_tellsPlayed_12 rfl (lv_at hl 0 rfl) ?_
      refine va_get (D := (dC, dI)) (ci := 12) (v := .ref h_row) (C := RX12) (T := TX12) (N := 22) hx hb hts inX12 hown hK hP 0 rfl rfl 1 (by decide) (hts _ (List.mem_cons_of_mem _ mw_169)) (fun _ h9 => h9) rfl dX12_tellsPlayed_13 ?_
      refine lv_bipush (v := 52) hx hb dX12_tellsPlayed_16 (by decide) ?_
      refine lv_dup2_11 hx hb dX12_tellsPlayed_18 rfl rfl ?_
      refine xiald (k := 52) hx hb hK hP 1 0 rfl rfl (vpL 52 13385 rfl) (by decide) dX12_tellsPlayed_19 ?_
      refine lv_iconst (v := 1) hx hb dX12_tellsPlayed_20 (by decide) ?_
      refine lv_isub hx hb dX12_tellsPlayed_21 ?_
      refine xiast (k := 52) hx hb hK hP hD hS 1 0 rfl rfl (vpL 52 13385 rfl) (by decide) dX12_tellsPlayed_22 ?_; clear hP hD hS; clear H locs; intro f29 e_f29 H locs hP hD hS
      replace hw := hw f29 e_f29
      clear e_f29
      replace hP : va_P (dC, dI) vwCl (w_X12_tellsPlayed h0 h_row h_kept h_isKept h_aside h_eight h_rows h_scales h_dealt h_bytes h_heardRow h_made h_comes h_backs h_fresh cy c_thrown c_nodeS c_nodeD c_pairE c_pairO c_bit c_lag c_lagSum f29) H := hP
      replace hD : va_D A (w_X12_tellsPlayed h0 h_row h_kept h_isKept h_aside h_eight h_rows h_scales h_dealt h_bytes h_heardRow h_made h_comes h_backs h_fresh cy c_thrown c_nodeS c_nodeD c_pairE c_pairO c_bit c_lag c_lagSum f29) := hD
      refine lv_sipush (v := 3257) hx hb dX12_tellsPlayed_23 (by decide) ?_
      refine lv_istore (lv' := [(6, .int (3257 : Int32)), (0, .ref h0), (1, .int v1), (2, .int v2), (3, .int v3), (4, .int v4), (5, .int v5)]) hx hb dX12_tellsPlayed_26 hl (by decide) rfl ?_; clear hl; clear ls; intro ls hl
      obtain ⟨x30, e_x30⟩ : ∃ y : Int32, y = (3257 : Int32) := ⟨_, rfl⟩
      replace hw := hw x30 e_x30
      replace hl : lv_has ls 7 [(6, .int x30), (0, .ref h0), (1, .int v1), (2, .int v2), (3, .int v3), (4, .int v4), (5, .int v5)] := by rw [e_x30]; exact hl
      clear e_x30
      replace hl := lv_sub (l' := [(6, .int x30), (0, .ref h0), (1, .int v1), (2, .int v2), (3, .int v3), (4, .int v4), (5, .int v5)]) hl [0, 1, 2, 3, 4, 5, 6] rfl
      revert hl; revert hS; revert hD; revert hP; revert ls; revert locs; revert H
      revert hw; revert f29; revert x30
      refine Lz2_gr ?_; intro g31 ih32 x33 f34 hw
      intro H locs ls hP hD hS hl
      refine lv_iload hx hb dX12_tellsPlayed_28 (lv_at hl 0 rfl) ?_
      refine lv_sipush (v := 3257) hx hb dX12_tellsPlayed_30 (by decide) ?_
      refine lv_bipush (v := 7) hx hb dX12_tellsPlayed_33 (by decide) ?_
      refine lv_aload_n hx hb dX12_tellsPlayed_35 rfl (lv_at hl 1 rfl) ?_
      refine va_get (D := (dC, dI)) (ci := 12) (v := .ref h_row) (C := RX12) (T := TX12) (N := 22) hx hb hts inX12 hown hK hP 0 rfl rfl 1 (by decide) (hts _ (List.mem_cons_of_mem _ mw_169)) (fun _ h9 => h9) rfl dX12_tellsPlayed_36 ?_
      refine lv_bipush (v := 52) hx hb dX12_tellsPlayed_39 (by decide) ?_
      refine xiald (k := 52) hx hb hK hP 1 0 rfl rfl (vpL 52 13385 rfl) (by decide) dX12_tellsPlayed_41 ?_
      refine lv_imul hx hb dX12_tellsPlayed_42 ?_
      refine lv_iadd hx hb dX12_tellsPlayed_43 ?_
      refine lv_icmp_ge (tgt := 70) hx hb dX12_tellsPlayed_44 (by decide) (fun c36 => ?_) (fun c36 => ?_)
      · replace hw := hw.1 c36; clear c36
        exact j4 f34 hw H locs ls hP hD hS (lv_sub hl [1, 2, 3, 4, 5, 6] rfl)
      · replace hw := hw.2 c36; clear c36
        refine lv_aload_n hx hb dX12_tellsPlayed_47 rfl (lv_at hl 1 rfl) ?_
        refine va_get (D := (dC, dI)) (ci := 12) (v := .ref h_row) (C := RX12) (T := TX12) (N := 22) hx hb hts inX12 hown hK hP 0 rfl rfl 1 (by decide) (hts _ (List.mem_cons_of_mem _ mw_169)) (fun _ h9 => h9) rfl dX12_tellsPlayed_48 ?_
        refine lv_iload hx hb dX12_tellsPlayed_51 (lv_at hl 0 rfl) ?_
        refine lv_aload_n hx hb dX12_tellsPlayed_53 rfl (lv_at hl 1 rfl) ?_
        refine va_get (D := (dC, dI)) (ci := 12) (v := .ref h_row) (C := RX12) (T := TX12) (N := 22) hx hb hts inX12 hown hK hP 0 rfl rfl 1 (by decide) (hts _ (List.mem_cons_of_mem _ mw_169)) (fun _ h9 => h9) rfl dX12_tellsPlayed_54 ?_
        refine lv_iload hx hb dX12_tellsPlayed_57 (lv_at hl 0 rfl) ?_
        refine lv_bipush (v := 7) hx hb dX12_tellsPlayed_59 (by decide) ?_
        refine lv_iadd hx hb dX12_tellsPlayed_61 ?_
        obtain ⟨h37, hw⟩ := hw
        refine xiald (k := (x33 + (7 : Int32)).toNatClampNeg) hx hb hK hP 1 0 rfl rfl h37 rfl dX12_tellsPlayed_62 ?_
        obtain ⟨h38, hw⟩ := hw
        refine xiast (k := x33.toNatClampNeg) hx hb hK hP hD hS 1 0 rfl rfl h38 rfl dX12_tellsPlayed_63 ?_; clear hP hD hS; clear H locs; intro f39 e_f39 H locs hP hD hS
        replace hw := hw f39 e_f39
        clear e_f39
        replace hP : va_P (dC, dI) vwCl (w_X12_tellsPlayed h0 h_row h_kept h_isKept h_aside h_eight h_rows h_scales h_dealt h_bytes h_heardRow h_made h_comes h_backs h_fresh cy c_thrown c_nodeS c_nodeD c_pairE c_pairO c_bit c_lag c_lagSum f39) H := hP
        replace hD : va_D A (w_X12_tellsPlayed h0 h_row h_kept h_isKept h_aside h_eight h_rows h_scales h_dealt h_bytes h_heardRow h_made h_comes h_backs h_fresh cy c_thrown c_nodeS c_nodeD c_pairE c_pairO c_bit c_lag c_lagSum f39) := hD
        refine lv_iinc (v := x33 + 1) (lv' := [(6, .int (x33 + 1)), (0, .ref h0), (1, .int v1), (2, .int v2), (3, .int v3), (4, .int v4), (5, .int v5)]) hx hb dX12_tellsPlayed_64 hl (k := 0) rfl rfl (by decide) rfl ?_; clear hl; clear ls; intro ls hl
        refine lv_goto (tgt := 28) hx hb dX12_tellsPlayed_67 (by decide) ?_
        exact ih32 (x33 + 1) f39 hw H locs ls hP hD hS (lv_sub hl [0, 1, 2, 3, 4, 5, 6] rfl)
set_option maxHeartbeats 4000000 in
set_option maxRecDepth 100000 in
theorem c_X12_trims (l : Launch) (dC : Nat → ClassId) (dI : Nat → Nat → Nat) (cy : Nat → ClassId) (h0 h_row h_kept h_isKept h_aside h_eight h_rows h_scales h_dealt h_bytes h_heardRow h_made h_comes h_backs h_fresh : Nat) (sz : Nat) (c_thrown : Int32) (c_nodeS : Int32) (c_nodeD : Int32) (c_pairE : Int32) (c_pairO : Int32) (c_bit : Int32) (c_lag : Int32) (c_lagSum : Int32) (c_row : Nat → Int32) (post : (Nat → Int32) → Prop) (hw : wp_X12_trims c_row post) : Met l yX12_trims wsX12_trims ({ frames := 1, cells := 0, slots := 0, locals := 25 }) (PX dC dI cy [.ref h0] sz (w_X12_trims h0 h_row h_kept h_isKept h_aside h_eight h_rows h_scales h_dealt h_bytes h_heardRow h_made h_comes h_backs h_fresh cy c_thrown c_nodeS c_nodeD c_pairE c_pairO c_bit c_lag c_lagSum c_row)) (va_Qv (fun (u : (Nat → Int32)) => post u) (QX dC dI cy (va_A (w_X12_trims h0 h_row h_kept h_isKept h_aside h_eight h_rows h_scales h_dealt h_bytes h_heardRow h_made h_comes h_backs h_fresh cy c_thrown c_nodeS c_nodeD c_pairE c_pairO c_bit c_lag c_lagSum c_row) sz) (fun (u : (Nat → Int32)) => w_X12_trims h0 h_row h_kept h_isKept h_aside h_eight h_rows h_scales h_dealt h_bytes h_heardRow h_made h_comes h_backs h_fresh cy c_thrown c_nodeS c_nodeD c_pairE c_pairO c_bit c_lag c_lagSum u)) (va_A (w_X12_trims h0 h_row h_kept h_isKept h_aside h_eight h_rows h_scales h_dealt h_bytes h_heardRow h_made h_comes h_backs h_fresh cy c_thrown c_nodeS c_nodeD c_pairE c_pairO c_bit c_lag c_lagSum c_row) sz)) 0 0 (va_A (w_X12_trims h0 h_row h_kept h_isKept h_aside h_eight h_rows h_scales h_dealt h_bytes h_heardRow h_made h_comes h_backs h_fresh cy c_thrown c_nodeS c_nodeD c_pairE c_pairO c_bit c_lag c_lagSum c_row) sz) := by
  refine Met.ofW (cc := cX12_trims) (maxL := 2) (ret := none) (by decide) rfl ?_
  intro p e s m args below meth c s₁ B hml hv
  obtain ⟨rfl, hsz, hP, hK, hD0, hG⟩ := hv
  have hx := B.exec
  have hb := B.bytes
  have hr := B.returns
  have hts := atoms_spec (ws := wsX12_trims) B.pre
  have hown : s.vm.findClass RX12 = some m.cls := findClass_of_methodNamed B.named
  have hlocks := B.notSynchronized
  subst hsz
  have hD := hD0.self (sz := s.heap.size)
  generalize hAe : va_A (w_X12_trims h0 h_row h_kept h_isKept h_aside h_eight h_rows h_scales h_dealt h_bytes h_heardRow h_made h_comes h_backs h_fresh cy c_thrown c_nodeS c_nodeD c_pairE c_pairO c_bit c_lag c_lagSum c_row) s.heap.size = A at hD ⊢
  have hA : ∀ q : Nat, s.heap.size ≤ q → A q := fun q h => by rw [← hAe]; exact Or.inr h
  have hS : va_S A s.heap s.heap [] := va_S.rf
  have hl := lv_entry ([.ref h0]) (n := 2) (Nat.le_of_ble_eq_true rfl)
  rw [lg_entry_eq]
  generalize (lg_sl ([.ref h0]) ++ List.replicate (2 - (lg_sl ([.ref h0])).length) Slot.unset).toArray = ls at hl ⊢
  replace hl : lv_has ls 2 [(0, .ref h0)] := hl
  have inX12 : ∀ w ∈ u_ws RX12 TX12 22, w ∈ wsX12_trims := fun w h => List.mem_cons_of_mem _ (inlX12 w h)
  clear hAe hD0 B
  unfold wp_X12_trims at hw
  generalize hQe : MQ below _ _ s _ _ _ = Q0
  generalize ([.ref h0] : List Value).toArray = av at *
  obtain ⟨H, hH⟩ : ∃ H, H = s.heap := ⟨_, rfl⟩
  obtain ⟨locs, hlo⟩ : ∃ L : List Loc, L = [] := ⟨_, rfl⟩
  replace hP : va_P (dC, dI) vwCl (w_X12_trims h0 h_row h_kept h_isKept h_aside h_eight h_rows h_scales h_dealt h_bytes h_heardRow h_made h_comes h_backs h_fresh cy c_thrown c_nodeS c_nodeD c_pairE c_pairO c_bit c_lag c_lagSum c_row) H := by rw [hH]; exact hP
  replace hS : va_S A s.heap H locs := by rw [hH, hlo]; exact hS
  suffices hgo : W p l e ({ frames := 1, cells := 0, slots := 0, locals := 25 }) s m av below meth c H locs 0 0 Q0 (F0 m 0 ls []) by rw [hH, hlo] at hgo; exact hgo
  clear hH hlo
  refine lv_aload_n hx hb dX12_trims_0 rfl (lv_at hl 0 rfl) ?_
  refine va_get (D := (dC, dI)) (ci := 12) (v := .ref h_row) (C := RX12) (T := TX12) (N := 22) hx hb hts inX12 hown hK hP 0 rfl rfl 1 (by decide) (hts _ (List.mem_cons_of_mem _ mw_169)) (fun _ h9 => h9) rfl dX12_trims_1 ?_
  refine lv_bipush (v := 35) hx hb dX12_trims_4 (by decide) ?_
  refine xiald (k := 35) hx hb hK hP 1 0 rfl rfl (vpL 35 13385 rfl) (by decide) dX12_trims_6 ?_
  refine lv_bipush (v := 8) hx hb dX12_trims_7 (by decide) ?_
  refine lv_aload_n hx hb dX12_trims_9 rfl (lv_at hl 0 rfl) ?_
  refine va_get (D := (dC, dI)) (ci := 12) (v := .ref h_row) (C := RX12) (T := TX12) (N := 22) hx hb hts inX12 hown hK hP 0 rfl rfl 1 (by decide) (hts _ (List.mem_cons_of_mem _ mw_169)) (fun _ h9 => h9) rfl dX12_trims_10 ?_
  refine lv_bipush (v := 13) hx hb dX12_trims_13 (by decide) ?_
  refine xiald (k := 13) hx hb hK hP 1 0 rfl rfl (vpL 13 13385 rfl) (by decide) dX12_trims_15 ?_
  refine lv_imul hx hb dX12_trims_16 ?_
  refine lv_isub hx hb dX12_trims_17 ?_
  refine lv_topi (fun x3 e_x3 => ?_)
  replace hw := hw x3 e_x3
  clear e_x3
  refine lv_istore_n (lv' := [(1, .int x3), (0, .ref h0)]) hx hb dX12_trims_18 rfl hl (by decide) rfl ?_; clear hl; clear ls; intro ls hl
  refine lv_aload_n hx hb dX12_trims_19 rfl (lv_at hl 1 rfl) ?_
  refine va_get (D := (dC, dI)) (ci := 12) (v := .ref h_row) (C := RX12) (T := TX12) (N := 22) hx hb hts inX12 hown hK hP 0 rfl rfl 1 (by decide) (hts _ (List.mem_cons_of_mem _ mw_169)) (fun _ h9 => h9) rfl dX12_trims_20 ?_
  refine lv_bipush (v := 34) hx hb dX12_trims_23 (by decide) ?_
  refine lv_aload_n hx hb dX12_trims_25 rfl (lv_at hl 1 rfl) ?_
  refine va_get (D := (dC, dI)) (ci := 12) (v := .ref h_row) (C := RX12) (T := TX12) (N := 22) hx hb hts inX12 hown hK hP 0 rfl rfl 1 (by decide) (hts _ (List.mem_cons_of_mem _ mw_169)) (fun _ h9 => h9) rfl dX12_trims_26 ?_
  refine lv_bipush (v := 34) hx hb dX12_trims_29 (by decide) ?_
  refine xiald (k := 34) hx hb hK hP 1 0 rfl rfl (vpL 34 13385 rfl) (by decide) dX12_trims_31 ?_
  refine lv_iload_n hx hb dX12_trims_32 rfl (lv_at hl 0 rfl) ?_
  refine lv_iadd hx hb dX12_trims_33 ?_
  refine lv_i2l (v := ((c_row 34) + x3).toInt64) hx hb dX12_trims_34 rfl ?_
  refine lv_ldc2 (v := -1600) hx hb hown (hts _ (List.mem_cons_of_mem _ mw_796)) dX12_trims_35 ?_
  refine lv_ldc2 (v := 1600) hx hb hown (hts _ (List.mem_cons_of_mem _ mw_797)) dX12_trims_38 ?_
  have hPc := pSub (ws' := (w_X12_nearest cy)) hP [] rfl
  have hDc := dSub (ws' := (w_X12_nearest cy)) hD [] (by decide) rfl
  have hFc := va_free (wc := (w_X12_nearest cy)) hD hS hA [] rfl
  refine va_calli (va_runS (As := [.long (((c_row 34) + x3).toInt64), .long (-1600 : Int64), .long (1600 : Int64)]) (rest := [.int (34 : Int32), .ref h_row]) ⟨hx, hb, hml, hown, hts⟩ (c_X12_nearest l dC dI cy  H.size (((c_row 34) + x3).toInt64) (-1600 : Int64) (1600 : Int64) _ hw) (va_cwS 3 hts (goodS mw_616 mw_614 mw_615 mw_5) rfl rfl rfl (by decide +kernel) ⟨Nat.le_of_ble_eq_true rfl, Nat.le_of_ble_eq_true rfl⟩) ⟨PX_blind, PX_pre hPc hK hDc hG⟩ rfl rfl hl.1 rfl (lv_room (Nat.le_of_ble_eq_true rfl)) dX12_trims_41 ⟨Nat.zero_le _, Nat.zero_le _⟩) hS (fun q _ h => hFc q h) hFc ?_; clear hw hS; intro r5 _ t H1 locs1 ht hvm hw hB hz1 hk1 hS
  obtain ⟨hP1, -, -⟩ := hB
  rw [ht] at hP1
  replace hP := jC0 hP hD [] [0, 1] rfl hk1 hP1 (w_X12_trims h0 h_row h_kept h_isKept h_aside h_eight h_rows h_scales h_dealt h_bytes h_heardRow h_made h_comes h_backs h_fresh cy c_thrown c_nodeS c_nodeD c_pairE c_pairO c_bit c_lag c_lagSum c_row) rfl rfl rfl 2 rfl (by decide +kernel); clear hD; obtain ⟨hP, hD⟩ := hP
  replace hP : va_P (dC, dI) vwCl (w_X12_trims h0 h_row h_kept h_isKept h_aside h_eight h_rows h_scales h_dealt h_bytes h_heardRow h_made h_comes h_backs h_fresh cy c_thrown c_nodeS c_nodeD c_pairE c_pairO c_bit c_lag c_lagSum c_row) H1 := hP
  replace hD : va_D A (w_X12_trims h0 h_row h_kept h_isKept h_aside h_eight h_rows h_scales h_dealt h_bytes h_heardRow h_made h_comes h_backs h_fresh cy c_thrown c_nodeS c_nodeD c_pairE c_pairO c_bit c_lag c_lagSum c_row) := hD
  clear hPc hDc hFc hP1 hk1 hz1 hvm ht; clear t; clear H locs; obtain ⟨H, hH⟩ : ∃ H, H = H1 := ⟨_, rfl⟩; obtain ⟨locs, hlo⟩ : ∃ L, L = locs1 := ⟨_, rfl⟩; subst hH; subst hlo
  refine W.widen (k := 0) (n := 0) (Nat.le_refl 0) (Nat.le_refl 0) ?_
  refine xiast (k := 34) hx hb hK hP hD hS 1 0 rfl rfl (vpL 34 13385 rfl) (by decide) dX12_trims_44 ?_; clear hP hD hS; clear H locs; intro f7 e_f7 H locs hP hD hS
  replace hw := hw f7 e_f7
  clear e_f7
  replace hP : va_P (dC, dI) vwCl (w_X12_trims h0 h_row h_kept h_isKept h_aside h_eight h_rows h_scales h_dealt h_bytes h_heardRow h_made h_comes h_backs h_fresh cy c_thrown c_nodeS c_nodeD c_pairE c_pairO c_bit c_lag c_lagSum f7) H := hP
  replace hD : va_D A (w_X12_trims h0 h_row h_kept h_isKept h_aside h_eight h_rows h_scales h_dealt h_bytes h_heardRow h_made h_comes h_backs h_fresh cy c_thrown c_nodeS c_nodeD c_pairE c_pairO c_bit c_lag c_lagSum f7) := hD
  refine lv_aload_n hx hb dX12_trims_45 rfl (lv_at hl 1 rfl) ?_
  refine va_get (D := (dC, dI)) (ci := 12) (v := .ref h_row) (C := RX12) (T := TX12) (N := 22) hx hb hts inX12 hown hK hP 0 rfl rfl 1 (by decide) (hts _ (List.mem_cons_of_mem _ mw_169)) (fun _ h9 => h9) rfl dX12_trims_46 ?_
  refine lv_bipush (v := 33) hx hb dX12_trims_49 (by decide) ?_
  refine lv_iconst (v := 4) hx hb dX12_trims_51 (by decide) ?_
  refine lv_iload_n hx hb dX12_trims_52 rfl (lv_at hl 0 rfl) ?_
  refine lv_imul hx hb dX12_trims_53 ?_
  refine lv_aload_n hx hb dX12_trims_54 rfl (lv_at hl 1 rfl) ?_
  refine va_get (D := (dC, dI)) (ci := 12) (v := .ref h_row) (C := RX12) (T := TX12) (N := 22) hx hb hts inX12 hown hK hP 0 rfl rfl 1 (by decide) (hts _ (List.mem_cons_of_mem _ mw_169)) (fun _ h9 => h9) rfl dX12_trims_55 ?_
  refine lv_bipush (v := 34) hx hb dX12_trims_58 (by decide) ?_
  refine xiald (k := 34) hx hb hK hP 1 0 rfl rfl (vpL 34 13385 rfl) (by decide) dX12_trims_60 ?_
  refine lv_iadd hx hb dX12_trims_61 ?_
  refine lv_iconst (v := 3) hx hb dX12_trims_62 (by decide) ?_
  refine lv_ishr hx hb dX12_trims_63 ?_
  refine lv_i2l (v := ((((4 : Int32) * x3) + (f7 34)) >>> ((3 : Int32) &&& 31)).toInt64) hx hb dX12_trims_64 rfl ?_
  refine lv_ldc2 (v := -100) hx hb hown (hts _ (List.mem_cons_of_mem _ mw_798)) dX12_trims_65 ?_
  refine lv_ldc2 (v := 100) hx hb hown (hts _ (List.mem_cons_of_mem _ mw_225)) dX12_trims_68 ?_
  have hPc := pSub (ws' := (w_X12_nearest cy)) hP [] rfl
  have hDc := dSub (ws' := (w_X12_nearest cy)) hD [] (by decide) rfl
  have hFc := va_free (wc := (w_X12_nearest cy)) hD hS hA [] rfl
  refine va_calli (va_runS (As := [.long (((((4 : Int32) * x3) + (f7 34)) >>> ((3 : Int32) &&& 31)).toInt64), .long (-100 : Int64), .long (100 : Int64)]) (rest := [.int (33 : Int32), .ref h_row]) ⟨hx, hb, hml, hown, hts⟩ (c_X12_nearest l dC dI cy  H.size (((((4 : Int32) * x3) + (f7 34)) >>> ((3 : Int32) &&& 31)).toInt64) (-100 : Int64) (100 : Int64) _ hw) (va_cwS 3 hts (goodS mw_616 mw_614 mw_615 mw_5) rfl rfl rfl (by decide +kernel) ⟨Nat.le_of_ble_eq_true rfl, Nat.le_of_ble_eq_true rfl⟩) ⟨PX_blind, PX_pre hPc hK hDc hG⟩ rfl rfl hl.1 rfl (lv_room (Nat.le_of_ble_eq_true rfl)) dX12_trims_71 ⟨Nat.zero_le _, Nat.zero_le _⟩) hS (fun q _ h => hFc q h) hFc ?_; clear hw hS; intro r9 _ t H1 locs1 ht hvm hw hB hz1 hk1 hS
  obtain ⟨hP1, -, -⟩ := hB
  rw [ht] at hP1
  replace hP := jC0 hP hD [] [0, 1] rfl hk1 hP1 (w_X12_trims h0 h_row h_kept h_isKept h_aside h_eight h_rows h_scales h_dealt h_bytes h_heardRow h_made h_comes h_backs h_fresh cy c_thrown c_nodeS c_nodeD c_pairE c_pairO c_bit c_lag c_lagSum f7) rfl rfl rfl 2 rfl (by decide +kernel); clear hD; obtain ⟨hP, hD⟩ := hP
  replace hP : va_P (dC, dI) vwCl (w_X12_trims h0 h_row h_kept h_isKept h_aside h_eight h_rows h_scales h_dealt h_bytes h_heardRow h_made h_comes h_backs h_fresh cy c_thrown c_nodeS c_nodeD c_pairE c_pairO c_bit c_lag c_lagSum f7) H1 := hP
  replace hD : va_D A (w_X12_trims h0 h_row h_kept h_isKept h_aside h_eight h_rows h_scales h_dealt h_bytes h_heardRow h_made h_comes h_backs h_fresh cy c_thrown c_nodeS c_nodeD c_pairE c_pairO c_bit c_lag c_lagSum f7) := hD
  clear hPc hDc hFc hP1 hk1 hz1 hvm ht; clear t; clear H locs; obtain ⟨H, hH⟩ : ∃ H, H = H1 := ⟨_, rfl⟩; obtain ⟨locs, hlo⟩ : ∃ L, L = locs1 := ⟨_, rfl⟩; subst hH; subst hlo
  refine W.widen (k := 0) (n := 0) (Nat.le_refl 0) (Nat.le_refl 0) ?_
  refine xiast (k := 33) hx hb hK hP hD hS 1 0 rfl rfl (vpL 33 13385 rfl) (by decide) dX12_trims_74 ?_; clear hP hD hS; clear H locs; intro f11 e_f11 H locs hP hD hS
  replace hw := hw f11 e_f11
  clear e_f11
  replace hP : va_P (dC, dI) vwCl (w_X12_trims h0 h_row h_kept h_isKept h_aside h_eight h_rows h_scales h_dealt h_bytes h_heardRow h_made h_comes h_backs h_fresh cy c_thrown c_nodeS c_nodeD c_pairE c_pairO c_bit c_lag c_lagSum f11) H := hP
  replace hD : va_D A (w_X12_trims h0 h_row h_kept h_isKept h_aside h_eight h_rows h_scales h_dealt h_bytes h_heardRow h_made h_comes h_backs h_fresh cy c_thrown c_nodeS c_nodeD c_pairE c_pairO c_bit c_lag c_lagSum f11) := hD
  refine lv_aload_n hx hb dX12_trims_75 rfl (lv_at hl 1 rfl) ?_
  refine va_get (D := (dC, dI)) (ci := 12) (v := .ref h_row) (C := RX12) (T := TX12) (N := 22) hx hb hts inX12 hown hK hP 0 rfl rfl 1 (by decide) (hts _ (List.mem_cons_of_mem _ mw_169)) (fun _ h9 => h9) rfl dX12_trims_76 ?_
  refine lv_bipush (v := 35) hx hb dX12_trims_79 (by decide) ?_
  refine lv_iconst (v := 0) hx hb dX12_trims_81 (by decide) ?_
  refine xiast (k := 35) hx hb hK hP hD hS 1 0 rfl rfl (vpL 35 13385 rfl) (by decide) dX12_trims_82 ?_; clear hP hD hS; clear H locs; intro f13 e_f13 H locs hP hD hS
  replace hw := hw f13 e_f13
  clear e_f13
  replace hP : va_P (dC, dI) vwCl (w_X12_trims h0 h_row h_kept h_isKept h_aside h_eight h_rows h_scales h_dealt h_bytes h_heardRow h_made h_comes h_backs h_fresh cy c_thrown c_nodeS c_nodeD c_pairE c_pairO c_bit c_lag c_lagSum f13) H := hP
  replace hD : va_D A (w_X12_trims h0 h_row h_kept h_isKept h_aside h_eight h_rows h_scales h_dealt h_bytes h_heardRow h_made h_comes h_backs h_fresh cy c_thrown c_nodeS c_nodeD c_pairE c_pairO c_bit c_lag c_lagSum f13) := hD
  subst hQe
  exact W.vret hx hb hr (fun t ht hW => ⟨⟨f13, rfl, hw, by rw [ht]; exact hP, va_K.moved hW.alike hK, hD⟩, hS.F ht⟩) hS.2.2 dX12_trims_83
set_option maxHeartbeats 4000000 in
set_option maxRecDepth 100000 in
theorem c_X12_plays (l : Launch) (dC : Nat → ClassId) (dI : Nat → Nat → Nat) (cy : Nat → ClassId) (h0 h_row h_kept h_isKept h_aside h_eight h_rows h_scales h_dealt h_bytes h_heardRow h_made h_comes h_backs h_fresh : Nat) (sz : Nat) (c_thrown : Int32) (c_nodeS : Int32) (c_nodeD : Int32) (c_pairE : Int32) (c_pairO : Int32) (c_bit : Int32) (c_lag : Int32) (c_lagSum : Int32) (c_row : Nat → Int32) (c_heardRow : Nat → Int32) (c_made : Nat → Int32) (c_bytes : Nat → Int32) (c_scales : Nat → Int32) (c_dealt : Nat → Int32) (c_backs : Nat → Int32) (c_eight : Nat → Int32) (c_rows : Nat → Int32) (c_comes : Nat → Int32) (post : Int32 → Int32 → Int32 → Int32 → Int32 → (Nat → Int32) → (Nat → Int32) → (Nat → Int32) → (Nat → Int32) → (Nat → Int32) → (Nat → Int32) → (Nat → Int32) → (Nat → Int32) → (Nat → Int32) → (Nat → Int32) → Prop) (hw : wp_X12_plays c_pairE c_pairO c_bit c_lag c_lagSum c_row c_heardRow c_made c_bytes c_scales c_dealt c_backs c_eight c_rows c_comes post) : Met l yX12_plays wsX12_plays ({ frames := 4, cells := 0, slots := 0, locals := 99 }) (PX dC dI cy [.ref h0] sz (w_X12_plays h0 h_row h_kept h_isKept h_aside h_eight h_rows h_scales h_dealt h_bytes h_heardRow h_made h_comes h_backs h_fresh cy c_thrown c_nodeS c_nodeD c_pairE c_pairO c_bit c_lag c_lagSum c_row c_heardRow c_made c_bytes c_scales c_dealt c_backs c_eight c_rows c_comes)) (va_Qv (fun (u : Int32 × Int32 × Int32 × Int32 × Int32 × (Nat → Int32) × (Nat → Int32) × (Nat → Int32) × (Nat → Int32) × (Nat → Int32) × (Nat → Int32) × (Nat → Int32) × (Nat → Int32) × (Nat → Int32) × (Nat → Int32)) => post u.1 u.2.1 u.2.2.1 u.2.2.2.1 u.2.2.2.2.1 u.2.2.2.2.2.1 u.2.2.2.2.2.2.1 u.2.2.2.2.2.2.2.1 u.2.2.2.2.2.2.2.2.1 u.2.2.2.2.2.2.2.2.2.1 u.2.2.2.2.2.2.2.2.2.2.1 u.2.2.2.2.2.2.2.2.2.2.2.1 u.2.2.2.2.2.2.2.2.2.2.2.2.1 u.2.2.2.2.2.2.2.2.2.2.2.2.2.1 u.2.2.2.2.2.2.2.2.2.2.2.2.2.2) (QX dC dI cy (va_A (w_X12_plays h0 h_row h_kept h_isKept h_aside h_eight h_rows h_scales h_dealt h_bytes h_heardRow h_made h_comes h_backs h_fresh cy c_thrown c_nodeS c_nodeD c_pairE c_pairO c_bit c_lag c_lagSum c_row c_heardRow c_made c_bytes c_scales c_dealt c_backs c_eight c_rows c_comes) sz) (fun (u : Int32 × Int32 × Int32 × Int32 × Int32 × (Nat → Int32) × (Nat → Int32) × (Nat → Int32) × (Nat → Int32) × (Nat → Int32) × (Nat → Int32) × (Nat → Int32) × (Nat → Int32) × (Nat → Int32) × (Nat → Int32)) => w_X12_plays h0 h_row h_kept h_isKept h_aside h_eight h_rows h_scales h_dealt h_bytes h_heardRow h_made h_comes h_backs h_fresh cy c_thrown c_nodeS c_nodeD u.1 u.2.1 u.2.2.1 u.2.2.2.1 u.2.2.2.2.1 u.2.2.2.2.2.1 u.2.2.2.2.2.2.1 u.2.2.2.2.2.2.2.1 u.2.2.2.2.2.2.2.2.1 u.2.2.2.2.2.2.2.2.2.1 u.2.2.2.2.2.2.2.2.2.2.1 u.2.2.2.2.2.2.2.2.2.2.2.1 u.2.2.2.2.2.2.2.2.2.2.2.2.1 u.2.2.2.2.2.2.2.2.2.2.2.2.2.1 u.2.2.2.2.2.2.2.2.2.2.2.2.2.2)) (va_A (w_X12_plays h0 h_row h_kept h_isKept h_aside h_eight h_rows h_scales h_dealt h_bytes h_heardRow h_made h_comes h_backs h_fresh cy c_thrown c_nodeS c_nodeD c_pairE c_pairO c_bit c_lag c_lagSum c_row c_heardRow c_made c_bytes c_scales c_dealt c_backs c_eight c_rows c_comes) sz)) 0 0 (va_A (w_X12_plays h0 h_row h_kept h_isKept h_aside h_eight h_rows h_scales h_dealt h_bytes h_heardRow h_made h_comes h_backs h_fresh cy c_thrown c_nodeS c_nodeD c_pairE c_pairO c_bit c_lag c_lagSum c_row c_heardRow c_made c_bytes c_scales c_dealt c_backs c_eight c_rows c_comes) sz) := by
  refine Met.ofW (cc := cX12_plays) (maxL := 9) (ret := none) (by decide) rfl ?_
  intro p e s m args below meth c s₁ B hml hv
  obtain ⟨rfl, hsz, hP, hK, hD0, hG⟩ := hv
  have hx := B.exec
  have hb := B.bytes
  have hr := B.returns
  have hts := atoms_spec (ws := wsX12_plays) B.pre
  have hown : s.vm.findClass RX12 = some m.cls := findClass_of_methodNamed B.named
  have hlocks := B.notSynchronized
  subst hsz
  have hD := hD0.self (sz := s.heap.size)
  generalize hAe : va_A (w_X12_plays h0 h_row h_kept h_isKept h_aside h_eight h_rows h_scales h_dealt h_bytes h_heardRow h_made h_comes h_backs h_fresh cy c_thrown c_nodeS c_nodeD c_pairE c_pairO c_bit c_lag c_lagSum c_row c_heardRow c_made c_bytes c_scales c_dealt c_backs c_eight c_rows c_comes) s.heap.size = A at hD ⊢
  have hA : ∀ q : Nat, s.heap.size ≤ q → A q := fun q h => by rw [← hAe]; exact Or.inr h
  have hS : va_S A s.heap s.heap [] := va_S.rf
  have hl := lv_entry ([.ref h0]) (n := 9) (Nat.le_of_ble_eq_true rfl)
  rw [lg_entry_eq]
  generalize (lg_sl ([.ref h0]) ++ List.replicate (9 - (lg_sl ([.ref h0])).length) Slot.unset).toArray = ls at hl ⊢
  replace hl : lv_has ls 9 [(0, .ref h0)] := hl
  have inX12 : ∀ w ∈ u_ws RX12 TX12 22, w ∈ wsX12_plays := fun w h => List.mem_cons_of_mem _ (inlX12 w h)
  clear hAe hD0 B
  unfold wp_X12_plays at hw
  generalize hQe : MQ below _ _ s _ _ _ = Q0
  generalize ([.ref h0] : List Value).toArray = av at *
  obtain ⟨H, hH⟩ : ∃ H, H = s.heap := ⟨_, rfl⟩
  obtain ⟨locs, hlo⟩ : ∃ L : List Loc, L = [] := ⟨_, rfl⟩
  replace hP : va_P (dC, dI) vwCl (w_X12_plays h0 h_row h_kept h_isKept h_aside h_eight h_rows h_scales h_dealt h_bytes h_heardRow h_made h_comes h_backs h_fresh cy c_thrown c_nodeS c_nodeD c_pairE c_pairO c_bit c_lag c_lagSum c_row c_heardRow c_made c_bytes c_scales c_dealt c_backs c_eight c_rows c_comes) H := by rw [hH]; exact hP
  replace hS : va_S A s.heap H locs := by rw [hH, hlo]; exact hS
  suffices hgo : W p l e ({ frames := 4, cells := 0, slots := 0, locals := 99 }) s m av below meth c H locs 0 0 Q0 (F0 m 0 ls []) by rw [hH, hlo] at hgo; exact hgo
  clear hH hlo
  refine lv_aload_n hx hb dX12_plays_0 rfl (lv_at hl 0 rfl) ?_
  refine va_get (D := (dC, dI)) (ci := 12) (v := .ref h_row) (C := RX12) (T := TX12) (N := 22) hx hb hts inX12 hown hK hP 0 rfl rfl 1 (by decide) (hts _ (List.mem_cons_of_mem _ mw_169)) (fun _ h9 => h9) rfl dX12_plays_1 ?_
  refine lv_bipush (v := 30) hx hb dX12_plays_4 (by decide) ?_
  refine xiald (k := 30) hx hb hK hP 1 0 rfl rfl (vpL 30 13385 rfl) (by decide) dX12_plays_6 ?_
  refine lv_topi (fun x2 e_x2 => ?_)
  replace hw := hw x2 e_x2
  clear e_x2
  refine lv_istore_n (lv' := [(1, .int x2), (0, .ref h0)]) hx hb dX12_plays_7 rfl hl (by decide) rfl ?_; clear hl; clear ls; intro ls hl
  refine lv_aload_n hx hb dX12_plays_8 rfl (lv_at hl 1 rfl) ?_
  have hPc := pSub (ws' := (w_X12_level h0 h_row h_kept h_isKept h_aside h_eight h_rows h_scales h_dealt h_bytes h_heardRow h_made h_comes h_backs h_fresh cy c_thrown c_nodeS c_nodeD c_pairE c_pairO c_bit c_lag c_lagSum c_row)) hP [0, 1] rfl
  have hDc := dSub (ws' := (w_X12_level h0 h_row h_kept h_isKept h_aside h_eight h_rows h_scales h_dealt h_bytes h_heardRow h_made h_comes h_backs h_fresh cy c_thrown c_nodeS c_nodeD c_pairE c_pairO c_bit c_lag c_lagSum c_row)) hD [0, 1] (by decide) rfl
  have hFc := va_free (wc := (w_X12_level h0 h_row h_kept h_isKept h_aside h_eight h_rows h_scales h_dealt h_bytes h_heardRow h_made h_comes h_backs h_fresh cy c_thrown c_nodeS c_nodeD c_pairE c_pairO c_bit c_lag c_lagSum c_row)) hD hS hA [0, 1] rfl
  refine va_calli (va_runV (As := []) (rest := []) ⟨hx, hb, hml, hown, hts⟩ (c_X12_level l dC dI cy h0 h_row h_kept h_isKept h_aside h_eight h_rows h_scales h_dealt h_bytes h_heardRow h_made h_comes h_backs h_fresh H.size c_thrown c_nodeS c_nodeD c_pairE c_pairO c_bit c_lag c_lagSum c_row _ hw) (cwV 0 hts (goodV mw_724 mw_721 mw_722 mw_723 mw_5) rfl rfl rfl (by decide +kernel) ⟨Nat.le_of_ble_eq_true rfl, Nat.le_of_ble_eq_true rfl⟩) ⟨PX_blind, va_recv hK hPc (ci := 12) (q0 := 0) rfl rfl, PX_pre hPc hK hDc hG⟩ rfl rfl hl.1 rfl (lv_room (Nat.le_of_ble_eq_true rfl)) dX12_plays_9 ⟨Nat.zero_le _, Nat.zero_le _⟩) hS (fun q _ h => hFc q h) hFc ?_; clear hw hS; intro r3 _ t H1 locs1 ht hvm hw hB hz1 hk1 hS
  obtain ⟨hP1, -, -⟩ := hB
  rw [ht] at hP1
  replace hP := jC0 hP hD [0, 1] [2, 3, 4, 5, 6, 7, 8, 9, 10] rfl hk1 hP1 (w_X12_plays h0 h_row h_kept h_isKept h_aside h_eight h_rows h_scales h_dealt h_bytes h_heardRow h_made h_comes h_backs h_fresh cy c_thrown c_nodeS c_nodeD c_pairE c_pairO c_bit c_lag c_lagSum c_row c_heardRow c_made c_bytes c_scales c_dealt c_backs c_eight c_rows c_comes) rfl rfl rfl 11 rfl (by decide +kernel); clear hD; obtain ⟨hP, hD⟩ := hP
  replace hP : va_P (dC, dI) vwCl (w_X12_plays h0 h_row h_kept h_isKept h_aside h_eight h_rows h_scales h_dealt h_bytes h_heardRow h_made h_comes h_backs h_fresh cy c_thrown c_nodeS c_nodeD c_pairE c_pairO c_bit c_lag c_lagSum c_row c_heardRow c_made c_bytes c_scales c_dealt c_backs c_eight c_rows c_comes) H1 := hP
  replace hD : va_D A (w_X12_plays h0 h_row h_kept h_isKept h_aside h_eight h_rows h_scales h_dealt h_bytes h_heardRow h_made h_comes h_backs h_fresh cy c_thrown c_nodeS c_nodeD c_pairE c_pairO c_bit c_lag c_lagSum c_row c_heardRow c_made c_bytes c_scales c_dealt c_backs c_eight c_rows c_comes) := hD
  clear hPc hDc hFc hP1 hk1 hz1 hvm ht; clear t; clear H locs; obtain ⟨H, hH⟩ : ∃ H, H = H1 := ⟨_, rfl⟩; obtain ⟨locs, hlo⟩ : ∃ L, L = locs1 := ⟨_, rfl⟩; subst hH; subst hlo
  refine W.widen (k := 0) (n := 0) (Nat.le_refl 0) (Nat.le_refl 0) ?_
  refine lv_istore_n (lv' := [(2, .int r3), (1, .int x2), (0, .ref h0)]) hx hb dX12_plays_12 rfl hl (by decide) rfl ?_; clear hl; clear ls; intro ls hl
  refine lv_aload_n hx hb dX12_plays_13 rfl (lv_at hl 2 rfl) ?_
  refine va_get (D := (dC, dI)) (ci := 12) (v := .ref h_row) (C := RX12) (T := TX12) (N := 22) hx hb hts inX12 hown hK hP 0 rfl rfl 1 (by decide) (hts _ (List.mem_cons_of_mem _ mw_169)) (fun _ h9 => h9) rfl dX12_plays_14 ?_
  refine lv_bipush (v := 35) hx hb dX12_plays_17 (by decide) ?_
  refine lv_dup2_11 hx hb dX12_plays_19 rfl rfl ?_
  refine xiald (k := 35) hx hb hK hP 1 0 rfl rfl (vpL 35 13385 rfl) (by decide) dX12_plays_20 ?_
  refine lv_iload_n hx hb dX12_plays_21 rfl (lv_at hl 0 rfl) ?_
  refine lv_iadd hx hb dX12_plays_22 ?_
  refine xiast (k := 35) hx hb hK hP hD hS 1 0 rfl rfl (vpL 35 13385 rfl) (by decide) dX12_plays_23 ?_; clear hP hD hS; clear H locs; intro f6 e_f6 H locs hP hD hS
  replace hw := hw f6 e_f6
  clear e_f6
  replace hP : va_P (dC, dI) vwCl (w_X12_plays h0 h_row h_kept h_isKept h_aside h_eight h_rows h_scales h_dealt h_bytes h_heardRow h_made h_comes h_backs h_fresh cy c_thrown c_nodeS c_nodeD c_pairE c_pairO c_bit c_lag c_lagSum f6 c_heardRow c_made c_bytes c_scales c_dealt c_backs c_eight c_rows c_comes) H := hP
  replace hD : va_D A (w_X12_plays h0 h_row h_kept h_isKept h_aside h_eight h_rows h_scales h_dealt h_bytes h_heardRow h_made h_comes h_backs h_fresh cy c_thrown c_nodeS c_nodeD c_pairE c_pairO c_bit c_lag c_lagSum f6 c_heardRow c_made c_bytes c_scales c_dealt c_backs c_eight c_rows c_comes) := hD
  refine lv_aload_n hx hb dX12_plays_24 rfl (lv_at hl 2 rfl) ?_
  refine lv_iload_n hx hb dX12_plays_25 rfl (lv_at hl 1 rfl) ?_
  have hPc := pSub (ws' := (w_X12_storeOf h0 h_row h_kept h_isKept h_aside h_eight h_rows h_scales h_dealt h_bytes h_heardRow h_made h_comes h_backs h_fresh cy c_thrown c_nodeS c_nodeD c_pairE c_pairO c_bit c_lag c_lagSum f6)) hP [0, 1] rfl
  have hDc := dSub (ws' := (w_X12_storeOf h0 h_row h_kept h_isKept h_aside h_eight h_rows h_scales h_dealt h_bytes h_heardRow h_made h_comes h_backs h_fresh cy c_thrown c_nodeS c_nodeD c_pairE c_pairO c_bit c_lag c_lagSum f6)) hD [0, 1] (by decide) rfl
  have hFc := va_free (wc := (w_X12_storeOf h0 h_row h_kept h_isKept h_aside h_eight h_rows h_scales h_dealt h_bytes h_heardRow h_made h_comes h_backs h_fresh cy c_thrown c_nodeS c_nodeD c_pairE c_pairO c_bit c_lag c_lagSum f6)) hD hS hA [0, 1] rfl
  refine va_calli (va_runV (As := [.int x2]) (rest := []) ⟨hx, hb, hml, hown, hts⟩ (c_X12_storeOf l dC dI cy h0 h_row h_kept h_isKept h_aside h_eight h_rows h_scales h_dealt h_bytes h_heardRow h_made h_comes h_backs h_fresh H.size x2 c_thrown c_nodeS c_nodeD c_pairE c_pairO c_bit c_lag c_lagSum f6 _ hw) (cwV 1 hts (goodV mw_736 mw_733 mw_734 mw_735 mw_5) rfl rfl rfl (by decide +kernel) ⟨Nat.le_of_ble_eq_true rfl, Nat.le_of_ble_eq_true rfl⟩) ⟨PX_blind, va_recv hK hPc (ci := 12) (q0 := 0) rfl rfl, PX_pre hPc hK hDc hG⟩ rfl rfl hl.1 rfl (lv_room (Nat.le_of_ble_eq_true rfl)) dX12_plays_26 ⟨Nat.zero_le _, Nat.zero_le _⟩) hS (fun q _ h => hFc q h) hFc ?_; clear hw hS; intro r7 _ t H1 locs1 ht hvm hw hB hz1 hk1 hS
  obtain ⟨hP1, -, -⟩ := hB
  rw [ht] at hP1
  replace hP := jC0 hP hD [0, 1] [2, 3, 4, 5, 6, 7, 8, 9, 10] rfl hk1 hP1 (w_X12_plays h0 h_row h_kept h_isKept h_aside h_eight h_rows h_scales h_dealt h_bytes h_heardRow h_made h_comes h_backs h_fresh cy c_thrown c_nodeS c_nodeD c_pairE c_pairO c_bit c_lag c_lagSum f6 c_heardRow c_made c_bytes c_scales c_dealt c_backs c_eight c_rows c_comes) rfl rfl rfl 11 rfl (by decide +kernel); clear hD; obtain ⟨hP, hD⟩ := hP
  replace hP : va_P (dC, dI) vwCl (w_X12_plays h0 h_row h_kept h_isKept h_aside h_eight h_rows h_scales h_dealt h_bytes h_heardRow h_made h_comes h_backs h_fresh cy c_thrown c_nodeS c_nodeD c_pairE c_pairO c_bit c_lag c_lagSum f6 c_heardRow c_made c_bytes c_scales c_dealt c_backs c_eight c_rows c_comes) H1 := hP
  replace hD : va_D A (w_X12_plays h0 h_row h_kept h_isKept h_aside h_eight h_rows h_scales h_dealt h_bytes h_heardRow h_made h_comes h_backs h_fresh cy c_thrown c_nodeS c_nodeD c_pairE c_pairO c_bit c_lag c_lagSum f6 c_heardRow c_made c_bytes c_scales c_dealt c_backs c_eight c_rows c_comes) := hD
  clear hPc hDc hFc hP1 hk1 hz1 hvm ht; clear t; clear H locs; obtain ⟨H, hH⟩ : ∃ H, H = H1 := ⟨_, rfl⟩; obtain ⟨locs, hlo⟩ : ∃ L, L = locs1 := ⟨_, rfl⟩; subst hH; subst hlo
  refine W.widen (k := 0) (n := 0) (Nat.le_refl 0) (Nat.le_refl 0) ?_
  refine lv_istore_n (lv' := [(3, .int r7), (2, .int r3), (1, .int x2), (0, .ref h0)]) hx hb dX12_plays_29 rfl hl (by decide) rfl ?_; clear hl; clear ls; intro ls hl
  refine lv_iload_n hx hb dX12_plays_30 rfl (lv_at hl 0 rfl) ?_
  refine lv_iconst (v := -1) hx hb dX12_plays_31 (by decide) ?_
  refine jn1 (Gg := fun (x8 : Int32) => ∀ (H : Heap) (locs : List Loc) (ls : Array Slot), va_P (dC, dI) vwCl (w_X12_plays h0 h_row h_kept h_isKept h_aside h_eight h_rows h_scales h_dealt h_bytes h_heardRow h_made h_comes h_backs h_fresh cy c_thrown c_nodeS c_nodeD c_pairE c_pairO c_bit c_lag c_lagSum f6 c_heardRow c_made c_bytes c_scales c_dealt c_backs c_eight c_rows c_comes) H → va_D A (w_X12_plays h0 h_row h_kept h_isKept h_aside h_eight h_rows h_scales h_dealt h_bytes h_heardRow h_made h_comes h_backs h_fresh cy c_thrown c_nodeS c_nodeD c_pairE c_pairO c_bit c_lag c_lagSum f6 c_heardRow c_made c_bytes c_scales c_dealt c_backs c_eight c_rows c_comes) → va_S A s.heap H locs → lv_has ls 9 [(0, .ref h0), (1, .int x2), (2, .int r3), (3, .int r7)] → W p l e { frames := 4, cells := 0, slots := 0, locals := 99 } s m av below meth c H locs 0 0 Q0 (F0 m 40 ls [.int x8])) hw ?_ ?_ <;> clear hw
  · clear hP hD hS hl; clear H locs ls; intro x8 hw H locs ls hP hD hS hl
    refine lv_istore (lv' := [(4, .int x8), (0, .ref h0), (1, .int x2), (2, .int r3), (3, .int r7)]) hx hb dX12_plays_40 hl (by decide) rfl ?_; clear hl; clear ls; intro ls hl
    refine lv_iload hx hb dX12_plays_42 (lv_at hl 0 rfl) ?_
    refine jn1 (Gg := fun (x11 : Int32) => ∀ (H : Heap) (locs : List Loc) (ls : Array Slot), va_P (dC, dI) vwCl (w_X12_plays h0 h_row h_kept h_isKept h_aside h_eight h_rows h_scales h_dealt h_bytes h_heardRow h_made h_comes h_backs h_fresh cy c_thrown c_nodeS c_nodeD c_pairE c_pairO c_bit c_lag c_lagSum f6 c_heardRow c_made c_bytes c_scales c_dealt c_backs c_eight c_rows c_comes) H → va_D A (w_X12_plays h0 h_row h_kept h_isKept h_aside h_eight h_rows h_scales h_dealt h_bytes h_heardRow h_made h_comes h_backs h_fresh cy c_thrown c_nodeS c_nodeD c_pairE c_pairO c_bit c_lag c_lagSum f6 c_heardRow c_made c_bytes c_scales c_dealt c_backs c_eight c_rows c_comes) → va_S A s.heap H locs → lv_has ls 9 [(0, .ref h0), (1, .int x2), (2, .int r3), (3, .int r7), (4, .int x8)] → W p l e { frames := 4, cells := 0, slots := 0, locals := 99 } s m av below meth c H locs 0 0 Q0 (F0 m 56 ls [.int x11])) hw ?_ ?_ <;> clear hw
    · clear hP hD hS hl; clear H locs ls; intro x11 hw H locs ls hP hD hS hl
      refine lv_istore (lv' := [(5, .int x11), (0, .ref h0), (1, .int x2), (2, .int r3), (3, .int r7), (4, .int x8)]) hx hb dX12_plays_56 hl (by decide) rfl ?_; clear hl; clear ls; intro ls hl
      refine lv_iload hx hb dX12_plays_58 (lv_at hl 5 rfl) ?_
      refine jn4 (Gg := fun (x14 : Int32) (x15 : Int32) (f16 : (Nat → Int32)) (f17 : (Nat → Int32)) => ∀ (H : Heap) (locs : List Loc) (ls : Array Slot), va_P (dC, dI) vwCl (w_X12_plays h0 h_row h_kept h_isKept h_aside h_eight h_rows h_scales h_dealt h_bytes h_heardRow h_made h_comes h_backs h_fresh cy c_thrown c_nodeS c_nodeD c_pairE c_pairO c_bit x14 x15 f6 f16 f17 c_bytes c_scales c_dealt c_backs c_eight c_rows c_comes) H → va_D A (w_X12_plays h0 h_row h_kept h_isKept h_aside h_eight h_rows h_scales h_dealt h_bytes h_heardRow h_made h_comes h_backs h_fresh cy c_thrown c_nodeS c_nodeD c_pairE c_pairO c_bit x14 x15 f6 f16 f17 c_bytes c_scales c_dealt c_backs c_eight c_rows c_comes) → va_S A s.heap H locs → lv_has ls 9 [(0, .ref h0), (1, .int x2), (2, .int r3), (3, .int r7), (4, .int x8), (5, .int x11)] → W p l e { frames := 4, cells := 0, slots := 0, locals := 99 } s m av below meth c H locs 0 0 Q0 (F0 m 77 ls [])) hw ?_ ?_ <;> clear hw
      · clear hP hD hS hl; clear H locs ls; intro x14 x15 f16 f17 hw H locs ls hP hD hS hl
        refine lv_iload hx hb dX12_plays_77 (lv_at hl 4 rfl) ?_
        refine jn11 (Gg := fun (x20 : Int32) (x21 : Int32) (x22 : Int32) (f23 : (Nat → Int32)) (f24 : (Nat → Int32)) (f25 : (Nat → Int32)) (f26 : (Nat → Int32)) (f27 : (Nat → Int32)) (f28 : (Nat → Int32)) (f29 : (Nat → Int32)) (f30 : (Nat → Int32)) => ∀ (H : Heap) (locs : List Loc) (ls : Array Slot), va_P (dC, dI) vwCl (w_X12_plays h0 h_row h_kept h_isKept h_aside h_eight h_rows h_scales h_dealt h_bytes h_heardRow h_made h_comes h_backs h_fresh cy c_thrown c_nodeS c_nodeD x20 x21 x22 x14 x15 f23 f16 f17 f24 f25 f26 f27 f28 f29 f30) H → va_D A (w_X12_plays h0 h_row h_kept h_isKept h_aside h_eight h_rows h_scales h_dealt h_bytes h_heardRow h_made h_comes h_backs h_fresh cy c_thrown c_nodeS c_nodeD x20 x21 x22 x14 x15 f23 f16 f17 f24 f25 f26 f27 f28 f29 f30) → va_S A s.heap H locs → lv_has ls 9 [(0, .ref h0), (1, .int x2), (2, .int r3), (4, .int x8), (5, .int x11)] → W p l e { frames := 4, cells := 0, slots := 0, locals := 99 } s m av below meth c H locs 0 0 Q0 (F0 m 257 ls [])) hw ?_ ?_ <;> clear hw
        · clear hP hD hS hl; clear H locs ls; intro x20 x21 x22 f23 f24 f25 f26 f27 f28 f29 f30 hw H locs ls hP hD hS hl
          refine lv_aload_n hx hb dX12_plays_257 rfl (lv_at hl 0 rfl) ?_
          have hPc := pSub (ws' := (w_X12_keepsHeard h0 h_row h_kept h_isKept h_aside h_eight h_rows h_scales h_dealt h_bytes h_heardRow h_made h_comes h_backs h_fresh cy c_thrown c_nodeS c_nodeD x20 x21 x22 x14 x15 f23 f30)) hP [0, 1, 10] rfl
          have hDc := dSub (ws' := (w_X12_keepsHeard h0 h_row h_kept h_isKept h_aside h_eight h_rows h_scales h_dealt h_bytes h_heardRow h_made h_comes h_backs h_fresh cy c_thrown c_nodeS c_nodeD x20 x21 x22 x14 x15 f23 f30)) hD [0, 1, 10] (by decide) rfl
          have hFc := va_free (wc := (w_X12_keepsHeard h0 h_row h_kept h_isKept h_aside h_eight h_rows h_scales h_dealt h_bytes h_heardRow h_made h_comes h_backs h_fresh cy c_thrown c_nodeS c_nodeD x20 x21 x22 x14 x15 f23 f30)) hD hS hA [0, 1, 10] rfl
          refine va_callv (va_runV (As := []) (rest := []) ⟨hx, hb, hml, hown, hts⟩ (c_X12_keepsHeard l dC dI cy h0 h_row h_kept h_isKept h_aside h_eight h_rows h_scales h_dealt h_bytes h_heardRow h_made h_comes h_backs h_fresh H.size c_thrown c_nodeS c_nodeD x20 x21 x22 x14 x15 f23 f30 _ hw) (cwV 0 hts (goodV mw_787 mw_784 mw_785 mw_786 mw_5) rfl rfl rfl (by decide +kernel) ⟨Nat.le_of_ble_eq_true rfl, Nat.le_of_ble_eq_true rfl⟩) ⟨PX_blind, va_recv hK hPc (ci := 12) (q0 := 0) rfl rfl, PX_pre hPc hK hDc hG⟩ rfl rfl hl.1 rfl (lv_room (Nat.le_of_ble_eq_true rfl)) dX12_plays_258 ⟨Nat.zero_le _, Nat.zero_le _⟩) hS (fun q _ h => hFc q h) hFc ?_; clear hw hS; intro f33 t H1 locs1 ht hvm hw hB hz1 hk1 hS
          obtain ⟨hP1, -, -⟩ := hB
          rw [ht] at hP1
          replace hP := jC0 hP hD [0, 1, 10] [2, 3, 4, 5, 6, 7, 8, 9] rfl hk1 hP1 (w_X12_plays h0 h_row h_kept h_isKept h_aside h_eight h_rows h_scales h_dealt h_bytes h_heardRow h_made h_comes h_backs h_fresh cy c_thrown c_nodeS c_nodeD x20 x21 x22 x14 x15 f33 f16 f17 f24 f25 f26 f27 f28 f29 f30) rfl rfl rfl 11 rfl (by decide +kernel); clear hD; obtain ⟨hP, hD⟩ := hP
          replace hP : va_P (dC, dI) vwCl (w_X12_plays h0 h_row h_kept h_isKept h_aside h_eight h_rows h_scales h_dealt h_bytes h_heardRow h_made h_comes h_backs h_fresh cy c_thrown c_nodeS c_nodeD x20 x21 x22 x14 x15 f33 f16 f17 f24 f25 f26 f27 f28 f29 f30) H1 := hP
          replace hD : va_D A (w_X12_plays h0 h_row h_kept h_isKept h_aside h_eight h_rows h_scales h_dealt h_bytes h_heardRow h_made h_comes h_backs h_fresh cy c_thrown c_nodeS c_nodeD x20 x21 x22 x14 x15 f33 f16 f17 f24 f25 f26 f27 f28 f29 f30) := hD
          clear hPc hDc hFc hP1 hk1 hz1 hvm ht; clear t; clear H locs; obtain ⟨H, hH⟩ : ∃ H, H = H1 := ⟨_, rfl⟩; obtain ⟨locs, hlo⟩ : ∃ L, L = locs1 := ⟨_, rfl⟩; subst hH; subst hlo
          refine W.widen (k := 0) (n := 0) (Nat.le_refl 0) (Nat.le_refl 0) ?_
          refine lv_iconst (v := 0) hx hb dX12_plays_261 (by decide) ?_
          refine lv_istore (lv' := [(6, .int (0 : Int32)), (0, .ref h0), (1, .int x2), (2, .int r3), (4, .int x8), (5, .int x11)]) hx hb dX12_plays_262 hl (by decide) rfl ?_; clear hl; clear ls; intro ls hl
          refine lv_iconst (v := 0) hx hb dX12_plays_264 (by decide) ?_
          refine lv_istore (lv' := [(7, .int (0 : Int32)), (6, .int (0 : Int32)), (0, .ref h0), (1, .int x2), (2, .int r3), (4, .int x8), (5, .int x11)]) hx hb dX12_plays_265 hl (by decide) rfl ?_; clear hl; clear ls; intro ls hl
          obtain ⟨x34, e_x34⟩ : ∃ y : Int32, y = (0 : Int32) := ⟨_, rfl⟩
          replace hw := hw x34 e_x34
          replace hl : lv_has ls 9 [(7, .int x34), (6, .int (0 : Int32)), (0, .ref h0), (1, .int x2), (2, .int r3), (4, .int x8), (5, .int x11)] := by rw [e_x34]; exact hl
          clear e_x34
          obtain ⟨x35, e_x35⟩ : ∃ y : Int32, y = (0 : Int32) := ⟨_, rfl⟩
          replace hw := hw x35 e_x35
          replace hl : lv_has ls 9 [(7, .int x34), (6, .int x35), (0, .ref h0), (1, .int x2), (2, .int r3), (4, .int x8), (5, .int x11)] := by rw [e_x35]; exact hl
          clear e_x35
          replace hl := lv_sub (l' := [(7, .int x34), (6, .int x35), (0, .ref h0), (1, .int x2), (2, .int r3), (4, .int x8), (5, .int x11)]) hl [0, 1, 2, 3, 4, 5, 6] rfl
          revert hl; revert hS; revert hD; revert hP; revert ls; revert locs; revert H
          revert hw; revert f33; revert x35; revert x34
          refine Lz3_gr ?_; intro g36 ih37 x38 x39 f40 hw
          intro H locs ls hP hD hS hl
          refine lv_iload hx hb dX12_plays_267 (lv_at hl 0 rfl) ?_
          refine lv_bipush (v := 64) hx hb dX12_plays_269 (by decide) ?_
          refine lv_icmp_ge (tgt := 355) hx hb dX12_plays_271 (by decide) (fun c41 => ?_) (fun c41 => ?_)
          · replace hw := hw.1 c41; clear c41
            clear ih37
            refine lv_aload_n hx hb dX12_plays_355 rfl (lv_at hl 2 rfl) ?_
            refine va_get (D := (dC, dI)) (ci := 12) (v := .ref h_row) (C := RX12) (T := TX12) (N := 22) hx hb hts inX12 hown hK hP 0 rfl rfl 1 (by decide) (hts _ (List.mem_cons_of_mem _ mw_169)) (fun _ h9 => h9) rfl dX12_plays_356 ?_
            refine lv_bipush (v := 40) hx hb dX12_plays_359 (by decide) ?_
            refine lv_dup2_11 hx hb dX12_plays_361 rfl rfl ?_
            refine xiald (k := 40) hx hb hK hP 1 0 rfl rfl (vpL 40 13385 rfl) (by decide) dX12_plays_362 ?_
            refine lv_iload hx hb dX12_plays_363 (lv_at hl 5 rfl) ?_
            refine jn1 (Gg := fun (x43 : Int32) => ∀ (H : Heap) (locs : List Loc) (ls : Array Slot), va_P (dC, dI) vwCl (w_X12_plays h0 h_row h_kept h_isKept h_aside h_eight h_rows h_scales h_dealt h_bytes h_heardRow h_made h_comes h_backs h_fresh cy c_thrown c_nodeS c_nodeD x20 x21 x22 x14 x15 f40 f16 f17 f24 f25 f26 f27 f28 f29 f30) H → va_D A (w_X12_plays h0 h_row h_kept h_isKept h_aside h_eight h_rows h_scales h_dealt h_bytes h_heardRow h_made h_comes h_backs h_fresh cy c_thrown c_nodeS c_nodeD x20 x21 x22 x14 x15 f40 f16 f17 f24 f25 f26 f27 f28 f29 f30) → va_S A s.heap H locs → lv_has ls 9 [(0, .ref h0), (1, .int x2), (2, .int r3), (4, .int x8), (5, .int x11), (6, .int x39)] → W p l e { frames := 4, cells := 0, slots := 0, locals := 99 } s m av below meth c H locs 0 0 Q0 (F0 m 374 ls [.int x43, .int (f40 40), .int (40 : Int32), .ref h_row])) hw ?_ ?_ <;> clear hw
            · clear hP hD hS hl; clear H locs ls; intro x43 hw H locs ls hP hD hS hl
              refine lv_iadd hx hb dX12_plays_374 ?_
              refine xiast (k := 40) hx hb hK hP hD hS 1 0 rfl rfl (vpL 40 13385 rfl) (by decide) dX12_plays_375 ?_; clear hP hD hS; clear H locs; intro f47 e_f47 H locs hP hD hS
              replace hw := hw f47 e_f47
              clear e_f47
              replace hP : va_P (dC, dI) vwCl (w_X12_plays h0 h_row h_kept h_isKept h_aside h_eight h_rows h_scales h_dealt h_bytes h_heardRow h_made h_comes h_backs h_fresh cy c_thrown c_nodeS c_nodeD x20 x21 x22 x14 x15 f47 f16 f17 f24 f25 f26 f27 f28 f29 f30) H := hP
              replace hD : va_D A (w_X12_plays h0 h_row h_kept h_isKept h_aside h_eight h_rows h_scales h_dealt h_bytes h_heardRow h_made h_comes h_backs h_fresh cy c_thrown c_nodeS c_nodeD x20 x21 x22 x14 x15 f47 f16 f17 f24 f25 f26 f27 f28 f29 f30) := hD
              refine lv_iload_n hx hb dX12_plays_376 rfl (lv_at hl 1 rfl) ?_
              refine lv_sipush (v := 2500) hx hb dX12_plays_377 (by decide) ?_
              refine jn1 (Gg := fun (f48 : (Nat → Int32)) => ∀ (H : Heap) (locs : List Loc) (ls : Array Slot), va_P (dC, dI) vwCl (w_X12_plays h0 h_row h_kept h_isKept h_aside h_eight h_rows h_scales h_dealt h_bytes h_heardRow h_made h_comes h_backs h_fresh cy c_thrown c_nodeS c_nodeD x20 x21 x22 x14 x15 f48 f16 f17 f24 f25 f26 f27 f28 f29 f30) H → va_D A (w_X12_plays h0 h_row h_kept h_isKept h_aside h_eight h_rows h_scales h_dealt h_bytes h_heardRow h_made h_comes h_backs h_fresh cy c_thrown c_nodeS c_nodeD x20 x21 x22 x14 x15 f48 f16 f17 f24 f25 f26 f27 f28 f29 f30) → va_S A s.heap H locs → lv_has ls 9 [(0, .ref h0), (1, .int x2), (2, .int r3), (4, .int x8), (5, .int x11), (6, .int x39)] → W p l e { frames := 4, cells := 0, slots := 0, locals := 99 } s m av below meth c H locs 0 0 Q0 (F0 m 404 ls [])) hw ?_ ?_ <;> clear hw
              · clear hP hD hS hl; clear H locs ls; intro f48 hw H locs ls hP hD hS hl
                refine lv_aload_n hx hb dX12_plays_404 rfl (lv_at hl 0 rfl) ?_
                refine lv_iload_n hx hb dX12_plays_405 rfl (lv_at hl 1 rfl) ?_
                refine lv_iload hx hb dX12_plays_406 (lv_at hl 3 rfl) ?_
                refine jn1 (Gg := fun (x51 : Int32) => ∀ (H : Heap) (locs : List Loc) (ls : Array Slot), va_P (dC, dI) vwCl (w_X12_plays h0 h_row h_kept h_isKept h_aside h_eight h_rows h_scales h_dealt h_bytes h_heardRow h_made h_comes h_backs h_fresh cy c_thrown c_nodeS c_nodeD x20 x21 x22 x14 x15 f48 f16 f17 f24 f25 f26 f27 f28 f29 f30) H → va_D A (w_X12_plays h0 h_row h_kept h_isKept h_aside h_eight h_rows h_scales h_dealt h_bytes h_heardRow h_made h_comes h_backs h_fresh cy c_thrown c_nodeS c_nodeD x20 x21 x22 x14 x15 f48 f16 f17 f24 f25 f26 f27 f28 f29 f30) → va_S A s.heap H locs → lv_has ls 9 [(0, .ref h0), (2, .int r3), (5, .int x11), (6, .int x39)] → W p l e { frames := 4, cells := 0, slots := 0, locals := 99 } s m av below meth c H locs 0 0 Q0 (F0 m 416 ls [.int x51, .int x2, .ref h0])) hw ?_ ?_ <;> clear hw
                · clear hP hD hS hl; clear H locs ls; intro x51 hw H locs ls hP hD hS hl
                  refine lv_iload_n hx hb dX12_plays_416 rfl (lv_at hl 1 rfl) ?_
                  refine lv_iload hx hb dX12_plays_417 (lv_at hl 3 rfl) ?_
                  refine lv_iload hx hb dX12_plays_419 (lv_at hl 2 rfl) ?_
                  have hPc := pSub (ws' := (w_X12_tellsPlayed h0 h_row h_kept h_isKept h_aside h_eight h_rows h_scales h_dealt h_bytes h_heardRow h_made h_comes h_backs h_fresh cy c_thrown c_nodeS c_nodeD x20 x21 x22 x14 x15 f48)) hP [0, 1] rfl
                  have hDc := dSub (ws' := (w_X12_tellsPlayed h0 h_row h_kept h_isKept h_aside h_eight h_rows h_scales h_dealt h_bytes h_heardRow h_made h_comes h_backs h_fresh cy c_thrown c_nodeS c_nodeD x20 x21 x22 x14 x15 f48)) hD [0, 1] (by decide) rfl
                  have hFc := va_free (wc := (w_X12_tellsPlayed h0 h_row h_kept h_isKept h_aside h_eight h_rows h_scales h_dealt h_bytes h_heardRow h_made h_comes h_backs h_fresh cy c_thrown c_nodeS c_nodeD x20 x21 x22 x14 x15 f48)) hD hS hA [0, 1] rfl
                  refine va_callv (va_runV (As := [.int x2, .int x51, .int r3, .int x39, .int x11]) (rest := []) ⟨hx, hb, hml, hown, hts⟩ (c_X12_tellsPlayed l dC dI cy h0 h_row h_kept h_isKept h_aside h_eight h_rows h_scales h_dealt h_bytes h_heardRow h_made h_comes h_backs h_fresh H.size x2 x51 r3 x39 x11 c_thrown c_nodeS c_nodeD x20 x21 x22 x14 x15 f48 _ hw) (cwV 5 hts (goodV mw_791 mw_788 mw_789 mw_790 mw_5) rfl rfl rfl (by decide +kernel) ⟨Nat.le_of_ble_eq_true rfl, Nat.le_of_ble_eq_true rfl⟩) ⟨PX_blind, va_recv hK hPc (ci := 12) (q0 := 0) rfl rfl, PX_pre hPc hK hDc hG⟩ rfl rfl hl.1 rfl (lv_room (Nat.le_of_ble_eq_true rfl)) dX12_plays_421 ⟨Nat.zero_le _, Nat.zero_le _⟩) hS (fun q _ h => hFc q h) hFc ?_; clear hw hS; intro f54 t H1 locs1 ht hvm hw hB hz1 hk1 hS
                  obtain ⟨hP1, -, -⟩ := hB
                  rw [ht] at hP1
                  replace hP := jC0 hP hD [0, 1] [2, 3, 4, 5, 6, 7, 8, 9, 10] rfl hk1 hP1 (w_X12_plays h0 h_row h_kept h_isKept h_aside h_eight h_rows h_scales h_dealt h_bytes h_heardRow h_made h_comes h_backs h_fresh cy c_thrown c_nodeS c_nodeD x20 x21 x22 x14 x15 f54 f16 f17 f24 f25 f26 f27 f28 f29 f30) rfl rfl rfl 11 rfl (by decide +kernel); clear hD; obtain ⟨hP, hD⟩ := hP
                  replace hP : va_P (dC, dI) vwCl (w_X12_plays h0 h_row h_kept h_isKept h_aside h_eight h_rows h_scales h_dealt h_bytes h_heardRow h_made h_comes h_backs h_fresh cy c_thrown c_nodeS c_nodeD x20 x21 x22 x14 x15 f54 f16 f17 f24 f25 f26 f27 f28 f29 f30) H1 := hP
                  replace hD : va_D A (w_X12_plays h0 h_row h_kept h_isKept h_aside h_eight h_rows h_scales h_dealt h_bytes h_heardRow h_made h_comes h_backs h_fresh cy c_thrown c_nodeS c_nodeD x20 x21 x22 x14 x15 f54 f16 f17 f24 f25 f26 f27 f28 f29 f30) := hD
                  clear hPc hDc hFc hP1 hk1 hz1 hvm ht; clear t; clear H locs; obtain ⟨H, hH⟩ : ∃ H, H = H1 := ⟨_, rfl⟩; obtain ⟨locs, hlo⟩ : ∃ L, L = locs1 := ⟨_, rfl⟩; subst hH; subst hlo
                  refine W.widen (k := 0) (n := 0) (Nat.le_refl 0) (Nat.le_refl 0) ?_
                  refine lv_aload_n hx hb dX12_plays_424 rfl (lv_at hl 0 rfl) ?_
                  refine va_get (D := (dC, dI)) (ci := 12) (v := .ref h_row) (C := RX12) (T := TX12) (N := 22) hx hb hts inX12 hown hK hP 0 rfl rfl 1 (by decide) (hts _ (List.mem_cons_of_mem _ mw_169)) (fun _ h9 => h9) rfl dX12_plays_425 ?_
                  refine lv_bipush (v := 30) hx hb dX12_plays_428 (by decide) ?_
                  refine lv_dup2_11 hx hb dX12_plays_430 rfl rfl ?_
                  refine xiald (k := 30) hx hb hK hP 1 0 rfl rfl (vpL 30 13385 rfl) (by decide) dX12_plays_431 ?_
                  refine lv_iconst (v := 1) hx hb dX12_plays_432 (by decide) ?_
                  refine lv_iadd hx hb dX12_plays_433 ?_
                  refine xiast (k := 30) hx hb hK hP hD hS 1 0 rfl rfl (vpL 30 13385 rfl) (by decide) dX12_plays_434 ?_; clear hP hD hS; clear H locs; intro f57 e_f57 H locs hP hD hS
                  replace hw := hw f57 e_f57
                  clear e_f57
                  replace hP : va_P (dC, dI) vwCl (w_X12_plays h0 h_row h_kept h_isKept h_aside h_eight h_rows h_scales h_dealt h_bytes h_heardRow h_made h_comes h_backs h_fresh cy c_thrown c_nodeS c_nodeD x20 x21 x22 x14 x15 f57 f16 f17 f24 f25 f26 f27 f28 f29 f30) H := hP
                  replace hD : va_D A (w_X12_plays h0 h_row h_kept h_isKept h_aside h_eight h_rows h_scales h_dealt h_bytes h_heardRow h_made h_comes h_backs h_fresh cy c_thrown c_nodeS c_nodeD x20 x21 x22 x14 x15 f57 f16 f17 f24 f25 f26 f27 f28 f29 f30) := hD
                  refine lv_aload_n hx hb dX12_plays_435 rfl (lv_at hl 0 rfl) ?_
                  refine va_get (D := (dC, dI)) (ci := 12) (v := .ref h_row) (C := RX12) (T := TX12) (N := 22) hx hb hts inX12 hown hK hP 0 rfl rfl 1 (by decide) (hts _ (List.mem_cons_of_mem _ mw_169)) (fun _ h9 => h9) rfl dX12_plays_436 ?_
                  refine lv_bipush (v := 30) hx hb dX12_plays_439 (by decide) ?_
                  refine xiald (k := 30) hx hb hK hP 1 0 rfl rfl (vpL 30 13385 rfl) (by decide) dX12_plays_441 ?_
                  refine lv_bipush (v := 8) hx hb dX12_plays_442 (by decide) ?_
                  refine lv_irem hx hb dX12_plays_444 (by decide) ?_
                  refine lv_topi (fun x59 e_x59 => ?_)
                  replace hw := hw x59 e_x59
                  clear e_x59
                  refine lv_if_ne (tgt := 452) hx hb dX12_plays_445 (by decide) (fun c60 => ?_) (fun c60 => ?_)
                  · replace hw := hw.2 c60; clear c60
                    subst hQe
                    exact W.vret hx hb hr (fun t ht hW => ⟨⟨(x20, x21, x22, x14, x15, f57, f16, f17, f24, f25, f26, f27, f28, f29, f30), rfl, hw, by rw [ht]; exact hP, va_K.moved hW.alike hK, hD⟩, hS.F ht⟩) hS.2.2 dX12_plays_452
                  · replace hw := hw.1 c60; clear c60
                    refine lv_aload_n hx hb dX12_plays_448 rfl (lv_at hl 0 rfl) ?_
                    have hPc := pSub (ws' := (w_X12_trims h0 h_row h_kept h_isKept h_aside h_eight h_rows h_scales h_dealt h_bytes h_heardRow h_made h_comes h_backs h_fresh cy c_thrown c_nodeS c_nodeD x20 x21 x22 x14 x15 f57)) hP [0, 1] rfl
                    have hDc := dSub (ws' := (w_X12_trims h0 h_row h_kept h_isKept h_aside h_eight h_rows h_scales h_dealt h_bytes h_heardRow h_made h_comes h_backs h_fresh cy c_thrown c_nodeS c_nodeD x20 x21 x22 x14 x15 f57)) hD [0, 1] (by decide) rfl
                    have hFc := va_free (wc := (w_X12_trims h0 h_row h_kept h_isKept h_aside h_eight h_rows h_scales h_dealt h_bytes h_heardRow h_made h_comes h_backs h_fresh cy c_thrown c_nodeS c_nodeD x20 x21 x22 x14 x15 f57)) hD hS hA [0, 1] rfl
                    refine va_callv (va_runV (As := []) (rest := []) ⟨hx, hb, hml, hown, hts⟩ (c_X12_trims l dC dI cy h0 h_row h_kept h_isKept h_aside h_eight h_rows h_scales h_dealt h_bytes h_heardRow h_made h_comes h_backs h_fresh H.size c_thrown c_nodeS c_nodeD x20 x21 x22 x14 x15 f57 _ hw) (cwV 0 hts (goodV mw_795 mw_792 mw_793 mw_794 mw_5) rfl rfl rfl (by decide +kernel) ⟨Nat.le_of_ble_eq_true rfl, Nat.le_of_ble_eq_true rfl⟩) ⟨PX_blind, va_recv hK hPc (ci := 12) (q0 := 0) rfl rfl, PX_pre hPc hK hDc hG⟩ rfl rfl hl.1 rfl (lv_room (Nat.le_of_ble_eq_true rfl)) dX12_plays_449 ⟨Nat.zero_le _, Nat.zero_le _⟩) hS (fun q _ h => hFc q h) hFc ?_; clear hw hS; intro f61 t H1 locs1 ht hvm hw hB hz1 hk1 hS
                    obtain ⟨hP1, -, -⟩ := hB
                    rw [ht] at hP1
                    replace hP := jC0 hP hD [0, 1] [2, 3, 4, 5, 6, 7, 8, 9, 10] rfl hk1 hP1 (w_X12_plays h0 h_row h_kept h_isKept h_aside h_eight h_rows h_scales h_dealt h_bytes h_heardRow h_made h_comes h_backs h_fresh cy c_thrown c_nodeS c_nodeD x20 x21 x22 x14 x15 f61 f16 f17 f24 f25 f26 f27 f28 f29 f30) rfl rfl rfl 11 rfl (by decide +kernel); clear hD; obtain ⟨hP, hD⟩ := hP
                    replace hP : va_P (dC, dI) vwCl (w_X12_plays h0 h_row h_kept h_isKept h_aside h_eight h_rows h_scales h_dealt h_bytes h_heardRow h_made h_comes h_backs h_fresh cy c_thrown c_nodeS c_nodeD x20 x21 x22 x14 x15 f61 f16 f17 f24 f25 f26 f27 f28 f29 f30) H1 := hP
                    replace hD : va_D A (w_X12_plays h0 h_row h_kept h_isKept h_aside h_eight h_rows h_scales h_dealt h_bytes h_heardRow h_made h_comes h_backs h_fresh cy c_thrown c_nodeS c_nodeD x20 x21 x22 x14 x15 f61 f16 f17 f24 f25 f26 f27 f28 f29 f30) := hD
                    clear hPc hDc hFc hP1 hk1 hz1 hvm ht; clear t; clear H locs; obtain ⟨H, hH⟩ : ∃ H, H = H1 := ⟨_, rfl⟩; obtain ⟨locs, hlo⟩ : ∃ L, L = locs1 := ⟨_, rfl⟩; subst hH; subst hlo
                    refine W.widen (k := 0) (n := 0) (Nat.le_refl 0) (Nat.le_refl 0) ?_
                    subst hQe
                    exact W.vret hx hb hr (fun t ht hW => ⟨⟨(x20, x21, x22, x14, x15, f61, f16, f17, f24, f25, f26, f27, f28, f29, f30), rfl, hw, by rw [ht]; exact hP, va_K.moved hW.alike hK, hD⟩, hS.F ht⟩) hS.2.2 dX12_plays_452
                · intro j53 hw
                  refine lv_if_eq (tgt := 415) hx hb dX12_plays_408 (by decide) (fun c62 => ?_) (fun c62 => ?_)
                  · replace hw := hw.1 c62; clear c62
                    refine lv_iconst (v := 2) hx hb dX12_plays_415 (by decide) ?_
                    exact j53 (2 : Int32) hw H locs ls hP hD hS (lv_sub hl [0, 2, 4, 5] rfl)
                  · replace hw := hw.2 c62; clear c62
                    refine lv_iconst (v := 1) hx hb dX12_plays_411 (by decide) ?_
                    refine lv_goto (tgt := 416) hx hb dX12_plays_412 (by decide) ?_
                    exact j53 (1 : Int32) hw H locs ls hP hD hS (lv_sub hl [0, 2, 4, 5] rfl)
              · intro j50 hw
                refine lv_icmp_ge (tgt := 404) hx hb dX12_plays_380 (by decide) (fun c63 => ?_) (fun c63 => ?_)
                · replace hw := hw.1 c63; clear c63
                  exact j50 f47 hw H locs ls hP hD hS (lv_sub hl [0, 1, 2, 3, 4, 5] rfl)
                · replace hw := hw.2 c63; clear c63
                  refine lv_aload_n hx hb dX12_plays_383 rfl (lv_at hl 0 rfl) ?_
                  refine va_get (D := (dC, dI)) (ci := 12) (v := .ref h_row) (C := RX12) (T := TX12) (N := 22) hx hb hts inX12 hown hK hP 0 rfl rfl 1 (by decide) (hts _ (List.mem_cons_of_mem _ mw_169)) (fun _ h9 => h9) rfl dX12_plays_384 ?_
                  refine lv_iload_n hx hb dX12_plays_387 rfl (lv_at hl 1 rfl) ?_
                  have hPc := pSub (ws' := (w_X12_packetAt cy)) hP [] rfl
                  have hDc := dSub (ws' := (w_X12_packetAt cy)) hD [] (by decide) rfl
                  have hFc := va_free (wc := (w_X12_packetAt cy)) hD hS hA [] rfl
                  refine va_calli (va_runS (As := [.int x2]) (rest := [.ref h_row]) ⟨hx, hb, hml, hown, hts⟩ (c_X12_packetAt l dC dI cy  H.size x2 _ hw) (va_cwS 1 hts (goodS mw_684 mw_682 mw_683 mw_5) rfl rfl rfl (by decide +kernel) ⟨Nat.le_of_ble_eq_true rfl, Nat.le_of_ble_eq_true rfl⟩) ⟨PX_blind, PX_pre hPc hK hDc hG⟩ rfl rfl hl.1 rfl (lv_room (Nat.le_of_ble_eq_true rfl)) dX12_plays_388 ⟨Nat.zero_le _, Nat.zero_le _⟩) hS (fun q _ h => hFc q h) hFc ?_; clear hw hS; intro r64 _ t H1 locs1 ht hvm hw hB hz1 hk1 hS
                  obtain ⟨hP1, -, -⟩ := hB
                  rw [ht] at hP1
                  replace hP := jC0 hP hD [] [0, 1, 2, 3, 4, 5, 6, 7, 8, 9, 10] rfl hk1 hP1 (w_X12_plays h0 h_row h_kept h_isKept h_aside h_eight h_rows h_scales h_dealt h_bytes h_heardRow h_made h_comes h_backs h_fresh cy c_thrown c_nodeS c_nodeD x20 x21 x22 x14 x15 f47 f16 f17 f24 f25 f26 f27 f28 f29 f30) rfl rfl rfl 11 rfl (by decide +kernel); clear hD; obtain ⟨hP, hD⟩ := hP
                  replace hP : va_P (dC, dI) vwCl (w_X12_plays h0 h_row h_kept h_isKept h_aside h_eight h_rows h_scales h_dealt h_bytes h_heardRow h_made h_comes h_backs h_fresh cy c_thrown c_nodeS c_nodeD x20 x21 x22 x14 x15 f47 f16 f17 f24 f25 f26 f27 f28 f29 f30) H1 := hP
                  replace hD : va_D A (w_X12_plays h0 h_row h_kept h_isKept h_aside h_eight h_rows h_scales h_dealt h_bytes h_heardRow h_made h_comes h_backs h_fresh cy c_thrown c_nodeS c_nodeD x20 x21 x22 x14 x15 f47 f16 f17 f24 f25 f26 f27 f28 f29 f30) := hD
                  clear hPc hDc hFc hP1 hk1 hz1 hvm ht; clear t; clear H locs; obtain ⟨H, hH⟩ : ∃ H, H = H1 := ⟨_, rfl⟩; obtain ⟨locs, hlo⟩ : ∃ L, L = locs1 := ⟨_, rfl⟩; subst hH; subst hlo
                  refine W.widen (k := 0) (n := 0) (Nat.le_refl 0) (Nat.le_refl 0) ?_
                  refine lv_iconst (v := 2) hx hb dX12_plays_391 (by decide) ?_
                  refine lv_iadd hx hb dX12_plays_392 ?_
                  refine lv_iload hx hb dX12_plays_393 (lv_at hl 3 rfl) ?_
                  refine jn1 (Gg := fun (x65 : Int32) => ∀ (H : Heap) (locs : List Loc) (ls : Array Slot), va_P (dC, dI) vwCl (w_X12_plays h0 h_row h_kept h_isKept h_aside h_eight h_rows h_scales h_dealt h_bytes h_heardRow h_made h_comes h_backs h_fresh cy c_thrown c_nodeS c_nodeD x20 x21 x22 x14 x15 f47 f16 f17 f24 f25 f26 f27 f28 f29 f30) H → va_D A (w_X12_plays h0 h_row h_kept h_isKept h_aside h_eight h_rows h_scales h_dealt h_bytes h_heardRow h_made h_comes h_backs h_fresh cy c_thrown c_nodeS c_nodeD x20 x21 x22 x14 x15 f47 f16 f17 f24 f25 f26 f27 f28 f29 f30) → va_S A s.heap H locs → lv_has ls 9 [(0, .ref h0), (1, .int x2), (2, .int r3), (4, .int x8), (5, .int x11), (6, .int x39)] → W p l e { frames := 4, cells := 0, slots := 0, locals := 99 } s m av below meth c H locs 0 0 Q0 (F0 m 403 ls [.int x65, .int (r64 + (2 : Int32)), .ref h_row])) hw ?_ ?_ <;> clear hw
                  · clear hP hD hS hl; clear H locs ls; intro x65 hw H locs ls hP hD hS hl
                    obtain ⟨h68, hw⟩ := hw
                    refine xiast (k := (r64 + (2 : Int32)).toNatClampNeg) hx hb hK hP hD hS 1 0 rfl rfl h68 rfl dX12_plays_403 ?_; clear hP hD hS; clear H locs; intro f69 e_f69 H locs hP hD hS
                    replace hw := hw f69 e_f69
                    clear e_f69
                    replace hP : va_P (dC, dI) vwCl (w_X12_plays h0 h_row h_kept h_isKept h_aside h_eight h_rows h_scales h_dealt h_bytes h_heardRow h_made h_comes h_backs h_fresh cy c_thrown c_nodeS c_nodeD x20 x21 x22 x14 x15 f69 f16 f17 f24 f25 f26 f27 f28 f29 f30) H := hP
                    replace hD : va_D A (w_X12_plays h0 h_row h_kept h_isKept h_aside h_eight h_rows h_scales h_dealt h_bytes h_heardRow h_made h_comes h_backs h_fresh cy c_thrown c_nodeS c_nodeD x20 x21 x22 x14 x15 f69 f16 f17 f24 f25 f26 f27 f28 f29 f30) := hD
                    exact j50 f69 hw H locs ls hP hD hS (lv_sub hl [0, 1, 2, 3, 4, 5] rfl)
                  · intro j67 hw
                    refine lv_if_eq (tgt := 402) hx hb dX12_plays_395 (by decide) (fun c70 => ?_) (fun c70 => ?_)
                    · replace hw := hw.1 c70; clear c70
                      refine lv_iconst (v := 2) hx hb dX12_plays_402 (by decide) ?_
                      exact j67 (2 : Int32) hw H locs ls hP hD hS (lv_sub hl [0, 1, 2, 3, 4, 5] rfl)
                    · replace hw := hw.2 c70; clear c70
                      refine lv_iconst (v := 1) hx hb dX12_plays_398 (by decide) ?_
                      refine lv_goto (tgt := 403) hx hb dX12_plays_399 (by decide) ?_
                      exact j67 (1 : Int32) hw H locs ls hP hD hS (lv_sub hl [0, 1, 2, 3, 4, 5] rfl)
            · intro j45 hw
              refine lv_if_eq (tgt := 373) hx hb dX12_plays_365 (by decide) (fun c71 => ?_) (fun c71 => ?_)
              · replace hw := hw.1 c71; clear c71
                refine lv_iconst (v := 0) hx hb dX12_plays_373 (by decide) ?_
                exact j45 (0 : Int32) hw H locs ls hP hD hS (lv_sub hl [2, 3, 4, 5, 6, 1] rfl)
              · replace hw := hw.2 c71; clear c71
                refine lv_iload hx hb dX12_plays_368 (lv_at hl 1 rfl) ?_
                refine lv_goto (tgt := 374) hx hb dX12_plays_370 (by decide) ?_
                exact j45 x39 hw H locs ls hP hD hS (lv_sub hl [2, 3, 4, 5, 6, 1] rfl)
          · replace hw := hw.2 c41; clear c41
            refine lv_aload_n hx hb dX12_plays_274 rfl (lv_at hl 2 rfl) ?_
            refine va_get (D := (dC, dI)) (ci := 12) (v := .ref h_comes) (C := RX12) (T := TX12) (N := 22) hx hb hts inX12 hown hK hP 0 rfl rfl 19 (by decide) (hts _ (List.mem_cons_of_mem _ mw_181)) (fun _ h9 => h9) rfl dX12_plays_275 ?_
            refine lv_iload hx hb dX12_plays_278 (lv_at hl 0 rfl) ?_
            obtain ⟨h72, hw⟩ := hw
            refine xiald (k := x38.toNatClampNeg) hx hb hK hP 10 0 rfl rfl h72 rfl dX12_plays_280 ?_
            refine lv_aload_n hx hb dX12_plays_281 rfl (lv_at hl 2 rfl) ?_
            refine lv_iload hx hb dX12_plays_282 (lv_at hl 0 rfl) ?_
            refine lv_bipush (v := 32) hx hb dX12_plays_284 (by decide) ?_
            refine lv_idiv hx hb dX12_plays_286 (by decide) ?_
            refine lv_topi (fun x73 e_x73 => ?_)
            replace hw := hw x73 e_x73
            clear e_x73
            refine lv_bipush (v := 32) hx hb dX12_plays_287 (by decide) ?_
            refine lv_iload_n hx hb dX12_plays_289 rfl (lv_at hl 3 rfl) ?_
            refine lv_imul hx hb dX12_plays_290 ?_
            refine lv_iload hx hb dX12_plays_291 (lv_at hl 0 rfl) ?_
            refine lv_bipush (v := 32) hx hb dX12_plays_293 (by decide) ?_
            refine lv_irem hx hb dX12_plays_295 (by decide) ?_
            refine lv_topi (fun x74 e_x74 => ?_)
            replace hw := hw x74 e_x74
            clear e_x74
            refine lv_iadd hx hb dX12_plays_296 ?_
            have hPc := pSub (ws' := (w_X12_sample h0 h_row h_kept h_isKept h_aside h_eight h_rows h_scales h_dealt h_bytes h_heardRow h_made h_comes h_backs h_fresh cy c_thrown c_nodeS c_nodeD x20 x21 x22 x14 x15 f40)) hP [0, 1] rfl
            have hDc := dSub (ws' := (w_X12_sample h0 h_row h_kept h_isKept h_aside h_eight h_rows h_scales h_dealt h_bytes h_heardRow h_made h_comes h_backs h_fresh cy c_thrown c_nodeS c_nodeD x20 x21 x22 x14 x15 f40)) hD [0, 1] (by decide) rfl
            have hFc := va_free (wc := (w_X12_sample h0 h_row h_kept h_isKept h_aside h_eight h_rows h_scales h_dealt h_bytes h_heardRow h_made h_comes h_backs h_fresh cy c_thrown c_nodeS c_nodeD x20 x21 x22 x14 x15 f40)) hD hS hA [0, 1] rfl
            refine va_calli (va_runV (As := [.int x73, .int (((32 : Int32) * x2) + x74)]) (rest := [.int (f30 x38.toNatClampNeg)]) ⟨hx, hb, hml, hown, hts⟩ (c_X12_sample l dC dI cy h0 h_row h_kept h_isKept h_aside h_eight h_rows h_scales h_dealt h_bytes h_heardRow h_made h_comes h_backs h_fresh H.size x73 (((32 : Int32) * x2) + x74) c_thrown c_nodeS c_nodeD x20 x21 x22 x14 x15 f40 _ hw) (cwV 2 hts (goodV mw_608 mw_605 mw_606 mw_607 mw_5) rfl rfl rfl (by decide +kernel) ⟨Nat.le_of_ble_eq_true rfl, Nat.le_of_ble_eq_true rfl⟩) ⟨PX_blind, va_recv hK hPc (ci := 12) (q0 := 0) rfl rfl, PX_pre hPc hK hDc hG⟩ rfl rfl hl.1 rfl (lv_room (Nat.le_of_ble_eq_true rfl)) dX12_plays_297 ⟨Nat.zero_le _, Nat.zero_le _⟩) hS (fun q _ h => hFc q h) hFc ?_; clear hw hS; intro r75 _ t H1 locs1 ht hvm hw hB hz1 hk1 hS
            obtain ⟨hP1, -, -⟩ := hB
            rw [ht] at hP1
            replace hP := jC0 hP hD [0, 1] [2, 3, 4, 5, 6, 7, 8, 9, 10] rfl hk1 hP1 (w_X12_plays h0 h_row h_kept h_isKept h_aside h_eight h_rows h_scales h_dealt h_bytes h_heardRow h_made h_comes h_backs h_fresh cy c_thrown c_nodeS c_nodeD x20 x21 x22 x14 x15 f40 f16 f17 f24 f25 f26 f27 f28 f29 f30) rfl rfl rfl 11 rfl (by decide +kernel); clear hD; obtain ⟨hP, hD⟩ := hP
            replace hP : va_P (dC, dI) vwCl (w_X12_plays h0 h_row h_kept h_isKept h_aside h_eight h_rows h_scales h_dealt h_bytes h_heardRow h_made h_comes h_backs h_fresh cy c_thrown c_nodeS c_nodeD x20 x21 x22 x14 x15 f40 f16 f17 f24 f25 f26 f27 f28 f29 f30) H1 := hP
            replace hD : va_D A (w_X12_plays h0 h_row h_kept h_isKept h_aside h_eight h_rows h_scales h_dealt h_bytes h_heardRow h_made h_comes h_backs h_fresh cy c_thrown c_nodeS c_nodeD x20 x21 x22 x14 x15 f40 f16 f17 f24 f25 f26 f27 f28 f29 f30) := hD
            clear hPc hDc hFc hP1 hk1 hz1 hvm ht; clear t; clear H locs; obtain ⟨H, hH⟩ : ∃ H, H = H1 := ⟨_, rfl⟩; obtain ⟨locs, hlo⟩ : ∃ L, L = locs1 := ⟨_, rfl⟩; subst hH; subst hlo
            refine W.widen (k := 0) (n := 0) (Nat.le_refl 0) (Nat.le_refl 0) ?_
            refine lv_isub hx hb dX12_plays_300 ?_
            have hPc := pSub (ws' := (w_X12_size cy)) hP [] rfl
            have hDc := dSub (ws' := (w_X12_size cy)) hD [] (by decide) rfl
            have hFc := va_free (wc := (w_X12_size cy)) hD hS hA [] rfl
            refine va_calli (va_runS (As := [.int ((f30 x38.toNatClampNeg) - r75)]) (rest := []) ⟨hx, hb, hml, hown, hts⟩ (c_X12_size l dC dI cy  H.size ((f30 x38.toNatClampNeg) - r75) _ hw) (va_cwS 1 hts (goodS mw_647 mw_645 mw_646 mw_5) rfl rfl rfl (by decide +kernel) ⟨Nat.le_of_ble_eq_true rfl, Nat.le_of_ble_eq_true rfl⟩) ⟨PX_blind, PX_pre hPc hK hDc hG⟩ rfl rfl hl.1 rfl (lv_room (Nat.le_of_ble_eq_true rfl)) dX12_plays_301 ⟨Nat.zero_le _, Nat.zero_le _⟩) hS (fun q _ h => hFc q h) hFc ?_; clear hw hS; intro r76 _ t H1 locs1 ht hvm hw hB hz1 hk1 hS
            obtain ⟨hP1, -, -⟩ := hB
            rw [ht] at hP1
            replace hP := jC0 hP hD [] [0, 1, 2, 3, 4, 5, 6, 7, 8, 9, 10] rfl hk1 hP1 (w_X12_plays h0 h_row h_kept h_isKept h_aside h_eight h_rows h_scales h_dealt h_bytes h_heardRow h_made h_comes h_backs h_fresh cy c_thrown c_nodeS c_nodeD x20 x21 x22 x14 x15 f40 f16 f17 f24 f25 f26 f27 f28 f29 f30) rfl rfl rfl 11 rfl (by decide +kernel); clear hD; obtain ⟨hP, hD⟩ := hP
            replace hP : va_P (dC, dI) vwCl (w_X12_plays h0 h_row h_kept h_isKept h_aside h_eight h_rows h_scales h_dealt h_bytes h_heardRow h_made h_comes h_backs h_fresh cy c_thrown c_nodeS c_nodeD x20 x21 x22 x14 x15 f40 f16 f17 f24 f25 f26 f27 f28 f29 f30) H1 := hP
            replace hD : va_D A (w_X12_plays h0 h_row h_kept h_isKept h_aside h_eight h_rows h_scales h_dealt h_bytes h_heardRow h_made h_comes h_backs h_fresh cy c_thrown c_nodeS c_nodeD x20 x21 x22 x14 x15 f40 f16 f17 f24 f25 f26 f27 f28 f29 f30) := hD
            clear hPc hDc hFc hP1 hk1 hz1 hvm ht; clear t; clear H locs; obtain ⟨H, hH⟩ : ∃ H, H = H1 := ⟨_, rfl⟩; obtain ⟨locs, hlo⟩ : ∃ L, L = locs1 := ⟨_, rfl⟩; subst hH; subst hlo
            refine W.widen (k := 0) (n := 0) (Nat.le_refl 0) (Nat.le_refl 0) ?_
            refine lv_istore (lv' := [(8, .int r76), (7, .int x38), (6, .int x39), (0, .ref h0), (1, .int x2), (2, .int r3), (4, .int x8), (5, .int x11)]) hx hb dX12_plays_304 hl (by decide) rfl ?_; clear hl; clear ls; intro ls hl
            refine lv_iload hx hb dX12_plays_306 (lv_at hl 2 rfl) ?_
            refine lv_iload hx hb dX12_plays_308 (lv_at hl 0 rfl) ?_
            refine lv_iadd hx hb dX12_plays_310 ?_
            refine lv_topi (fun x77 e_x77 => ?_)
            replace hw := hw x77 e_x77
            clear e_x77
            refine lv_istore (lv' := [(6, .int x77), (8, .int r76), (7, .int x38), (0, .ref h0), (1, .int x2), (2, .int r3), (4, .int x8), (5, .int x11)]) hx hb dX12_plays_311 hl (by decide) rfl ?_; clear hl; clear ls; intro ls hl
            refine lv_aload_n hx hb dX12_plays_313 rfl (lv_at hl 3 rfl) ?_
            refine va_get (D := (dC, dI)) (ci := 12) (v := .ref h_row) (C := RX12) (T := TX12) (N := 22) hx hb hts inX12 hown hK hP 0 rfl rfl 1 (by decide) (hts _ (List.mem_cons_of_mem _ mw_169)) (fun _ h9 => h9) rfl dX12_plays_314 ?_
            refine lv_bipush (v := 41) hx hb dX12_plays_317 (by decide) ?_
            refine lv_iload hx hb dX12_plays_319 (lv_at hl 6 rfl) ?_
            refine jn1 (Gg := fun (x78 : Int32) => ∀ (H : Heap) (locs : List Loc) (ls : Array Slot), va_P (dC, dI) vwCl (w_X12_plays h0 h_row h_kept h_isKept h_aside h_eight h_rows h_scales h_dealt h_bytes h_heardRow h_made h_comes h_backs h_fresh cy c_thrown c_nodeS c_nodeD x20 x21 x22 x14 x15 f40 f16 f17 f24 f25 f26 f27 f28 f29 f30) H → va_D A (w_X12_plays h0 h_row h_kept h_isKept h_aside h_eight h_rows h_scales h_dealt h_bytes h_heardRow h_made h_comes h_backs h_fresh cy c_thrown c_nodeS c_nodeD x20 x21 x22 x14 x15 f40 f16 f17 f24 f25 f26 f27 f28 f29 f30) → va_S A s.heap H locs → lv_has ls 9 [(0, .ref h0), (1, .int x2), (2, .int r3), (4, .int x8), (5, .int x11), (6, .int x77), (7, .int x38)] → W p l e { frames := 4, cells := 0, slots := 0, locals := 99 } s m av below meth c H locs 0 0 Q0 (F0 m 348 ls [.int x78, .int (41 : Int32), .ref h_row])) hw ?_ ?_ <;> clear hw
            · clear hP hD hS hl; clear H locs ls; intro x78 hw H locs ls hP hD hS hl
              refine xiast (k := 41) hx hb hK hP hD hS 1 0 rfl rfl (vpL 41 13385 rfl) (by decide) dX12_plays_348 ?_; clear hP hD hS; clear H locs; intro f82 e_f82 H locs hP hD hS
              replace hw := hw f82 e_f82
              clear e_f82
              replace hP : va_P (dC, dI) vwCl (w_X12_plays h0 h_row h_kept h_isKept h_aside h_eight h_rows h_scales h_dealt h_bytes h_heardRow h_made h_comes h_backs h_fresh cy c_thrown c_nodeS c_nodeD x20 x21 x22 x14 x15 f82 f16 f17 f24 f25 f26 f27 f28 f29 f30) H := hP
              replace hD : va_D A (w_X12_plays h0 h_row h_kept h_isKept h_aside h_eight h_rows h_scales h_dealt h_bytes h_heardRow h_made h_comes h_backs h_fresh cy c_thrown c_nodeS c_nodeD x20 x21 x22 x14 x15 f82 f16 f17 f24 f25 f26 f27 f28 f29 f30) := hD
              refine lv_iinc (v := x38 + 1) (lv' := [(7, .int (x38 + 1)), (0, .ref h0), (1, .int x2), (2, .int r3), (4, .int x8), (5, .int x11), (6, .int x77)]) hx hb dX12_plays_349 hl (k := 6) rfl rfl (by decide) rfl ?_; clear hl; clear ls; intro ls hl
              refine lv_goto (tgt := 267) hx hb dX12_plays_352 (by decide) ?_
              exact ih37 (x38 + 1) x77 f82 hw H locs ls hP hD hS (lv_sub hl [0, 6, 1, 2, 3, 4, 5] rfl)
            · intro j80 hw
              refine jn0 (Gg := ∀ (H : Heap) (locs : List Loc) (ls : Array Slot), va_P (dC, dI) vwCl (w_X12_plays h0 h_row h_kept h_isKept h_aside h_eight h_rows h_scales h_dealt h_bytes h_heardRow h_made h_comes h_backs h_fresh cy c_thrown c_nodeS c_nodeD x20 x21 x22 x14 x15 f40 f16 f17 f24 f25 f26 f27 f28 f29 f30) H → va_D A (w_X12_plays h0 h_row h_kept h_isKept h_aside h_eight h_rows h_scales h_dealt h_bytes h_heardRow h_made h_comes h_backs h_fresh cy c_thrown c_nodeS c_nodeD x20 x21 x22 x14 x15 f40 f16 f17 f24 f25 f26 f27 f28 f29 f30) → va_S A s.heap H locs → lv_has ls 9 [(0, .ref h0), (1, .int x2), (2, .int r3), (4, .int x8), (5, .int x11), (6, .int x77), (7, .int x38)] → W p l e { frames := 4, cells := 0, slots := 0, locals := 99 } s m av below meth c H locs 0 0 Q0 (F0 m 341 ls [.int (41 : Int32), .ref h_row])) hw ?_ ?_ <;> clear hw
              · clear hP hD hS hl; clear H locs ls; intro  hw H locs ls hP hD hS hl
                refine lv_aload_n hx hb dX12_plays_341 rfl (lv_at hl 0 rfl) ?_
                refine va_get (D := (dC, dI)) (ci := 12) (v := .ref h_row) (C := RX12) (T := TX12) (N := 22) hx hb hts inX12 hown hK hP 0 rfl rfl 1 (by decide) (hts _ (List.mem_cons_of_mem _ mw_169)) (fun _ h9 => h9) rfl dX12_plays_342 ?_
                refine lv_bipush (v := 41) hx hb dX12_plays_345 (by decide) ?_
                refine xiald (k := 41) hx hb hK hP 1 0 rfl rfl (vpL 41 13385 rfl) (by decide) dX12_plays_347 ?_
                exact j80 (f40 41) hw H locs ls hP hD hS (lv_sub hl [0, 1, 2, 3, 4, 5, 6] rfl)
              · intro j84 hw
                refine lv_if_eq (tgt := 341) hx hb dX12_plays_321 (by decide) (fun c86 => ?_) (fun c86 => ?_)
                · replace hw := hw.1 c86; clear c86
                  exact j84 hw H locs ls hP hD hS (lv_sub hl [3, 4, 5, 6, 7, 0, 2] rfl)
                · replace hw := hw.2 c86; clear c86
                  refine lv_iload hx hb dX12_plays_324 (lv_at hl 1 rfl) ?_
                  refine lv_aload_n hx hb dX12_plays_326 rfl (lv_at hl 3 rfl) ?_
                  refine va_get (D := (dC, dI)) (ci := 12) (v := .ref h_row) (C := RX12) (T := TX12) (N := 22) hx hb hts inX12 hown hK hP 0 rfl rfl 1 (by decide) (hts _ (List.mem_cons_of_mem _ mw_169)) (fun _ h9 => h9) rfl dX12_plays_327 ?_
                  refine lv_bipush (v := 41) hx hb dX12_plays_330 (by decide) ?_
                  refine xiald (k := 41) hx hb hK hP 1 0 rfl rfl (vpL 41 13385 rfl) (by decide) dX12_plays_332 ?_
                  refine lv_icmp_le (tgt := 341) hx hb dX12_plays_333 (by decide) (fun c88 => ?_) (fun c88 => ?_)
                  · replace hw := hw.1 c88; clear c88
                    exact j84 hw H locs ls hP hD hS (lv_sub hl [3, 4, 5, 6, 7, 0, 2] rfl)
                  · replace hw := hw.2 c88; clear c88
                    refine lv_iload hx hb dX12_plays_336 (lv_at hl 1 rfl) ?_
                    refine lv_goto (tgt := 348) hx hb dX12_plays_338 (by decide) ?_
                    exact j80 r76 hw H locs ls hP hD hS (lv_sub hl [3, 4, 5, 6, 7, 0, 2] rfl)
        · intro j32 hw
          refine lv_if_eq (tgt := 164) hx hb dX12_plays_79 (by decide) (fun c89 => ?_) (fun c89 => ?_)
          · replace hw := hw.1 c89; clear c89
            refine lv_iconst (v := 0) hx hb dX12_plays_164 (by decide) ?_
            refine lv_istore (lv' := [(6, .int (0 : Int32)), (0, .ref h0), (1, .int x2), (2, .int r3), (3, .int r7), (4, .int x8), (5, .int x11)]) hx hb dX12_plays_165 hl (by decide) rfl ?_; clear hl; clear ls; intro ls hl
            obtain ⟨x90, e_x90⟩ : ∃ y : Int32, y = (0 : Int32) := ⟨_, rfl⟩
            replace hw := hw x90 e_x90
            replace hl : lv_has ls 9 [(6, .int x90), (0, .ref h0), (1, .int x2), (2, .int r3), (3, .int r7), (4, .int x8), (5, .int x11)] := by rw [e_x90]; exact hl
            clear e_x90
            replace hl := lv_sub (l' := [(6, .int x90), (0, .ref h0), (1, .int x2), (2, .int r3), (4, .int x8), (5, .int x11)]) hl [0, 1, 2, 3, 5, 6] rfl
            revert hl; revert hS; revert hD; revert hP; revert ls; revert locs; revert H
            revert hw; revert c_comes; revert x90
            refine Lz2_gr ?_; intro g91 ih92 x93 f94 hw
            intro H locs ls hP hD hS hl
            refine lv_iload hx hb dX12_plays_167 (lv_at hl 0 rfl) ?_
            refine lv_bipush (v := 64) hx hb dX12_plays_169 (by decide) ?_
            refine lv_icmp_ge (tgt := 194) hx hb dX12_plays_171 (by decide) (fun c95 => ?_) (fun c95 => ?_)
            · replace hw := hw.1 c95; clear c95
              clear ih92
              refine lv_aload_n hx hb dX12_plays_194 rfl (lv_at hl 1 rfl) ?_
              refine va_get (D := (dC, dI)) (ci := 12) (v := .ref h_row) (C := RX12) (T := TX12) (N := 22) hx hb hts inX12 hown hK hP 0 rfl rfl 1 (by decide) (hts _ (List.mem_cons_of_mem _ mw_169)) (fun _ h9 => h9) rfl dX12_plays_195 ?_
              refine lv_bipush (v := 38) hx hb dX12_plays_198 (by decide) ?_
              refine lv_dup2_11 hx hb dX12_plays_200 rfl rfl ?_
              refine xiald (k := 38) hx hb hK hP 1 0 rfl rfl (vpL 38 13385 rfl) (by decide) dX12_plays_201 ?_
              refine lv_iconst (v := 1) hx hb dX12_plays_202 (by decide) ?_
              refine lv_iadd hx hb dX12_plays_203 ?_
              refine xiast (k := 38) hx hb hK hP hD hS 1 0 rfl rfl (vpL 38 13385 rfl) (by decide) dX12_plays_204 ?_; clear hP hD hS; clear H locs; intro f98 e_f98 H locs hP hD hS
              replace hw := hw f98 e_f98
              clear e_f98
              replace hP : va_P (dC, dI) vwCl (w_X12_plays h0 h_row h_kept h_isKept h_aside h_eight h_rows h_scales h_dealt h_bytes h_heardRow h_made h_comes h_backs h_fresh cy c_thrown c_nodeS c_nodeD c_pairE c_pairO c_bit x14 x15 f98 f16 f17 c_bytes c_scales c_dealt c_backs c_eight c_rows f94) H := hP
              replace hD : va_D A (w_X12_plays h0 h_row h_kept h_isKept h_aside h_eight h_rows h_scales h_dealt h_bytes h_heardRow h_made h_comes h_backs h_fresh cy c_thrown c_nodeS c_nodeD c_pairE c_pairO c_bit x14 x15 f98 f16 f17 c_bytes c_scales c_dealt c_backs c_eight c_rows f94) := hD
              refine lv_aload_n hx hb dX12_plays_205 rfl (lv_at hl 1 rfl) ?_
              refine va_get (D := (dC, dI)) (ci := 12) (v := .ref h_row) (C := RX12) (T := TX12) (N := 22) hx hb hts inX12 hown hK hP 0 rfl rfl 1 (by decide) (hts _ (List.mem_cons_of_mem _ mw_169)) (fun _ h9 => h9) rfl dX12_plays_206 ?_
              refine lv_bipush (v := 37) hx hb dX12_plays_209 (by decide) ?_
              refine lv_dup2_11 hx hb dX12_plays_211 rfl rfl ?_
              refine xiald (k := 37) hx hb hK hP 1 0 rfl rfl (vpL 37 13385 rfl) (by decide) dX12_plays_212 ?_
              refine lv_iconst (v := 1) hx hb dX12_plays_213 (by decide) ?_
              refine lv_iadd hx hb dX12_plays_214 ?_
              refine xiast (k := 37) hx hb hK hP hD hS 1 0 rfl rfl (vpL 37 13385 rfl) (by decide) dX12_plays_215 ?_; clear hP hD hS; clear H locs; intro f101 e_f101 H locs hP hD hS
              replace hw := hw f101 e_f101
              clear e_f101
              replace hP : va_P (dC, dI) vwCl (w_X12_plays h0 h_row h_kept h_isKept h_aside h_eight h_rows h_scales h_dealt h_bytes h_heardRow h_made h_comes h_backs h_fresh cy c_thrown c_nodeS c_nodeD c_pairE c_pairO c_bit x14 x15 f101 f16 f17 c_bytes c_scales c_dealt c_backs c_eight c_rows f94) H := hP
              replace hD : va_D A (w_X12_plays h0 h_row h_kept h_isKept h_aside h_eight h_rows h_scales h_dealt h_bytes h_heardRow h_made h_comes h_backs h_fresh cy c_thrown c_nodeS c_nodeD c_pairE c_pairO c_bit x14 x15 f101 f16 f17 c_bytes c_scales c_dealt c_backs c_eight c_rows f94) := hD
              refine lv_aload_n hx hb dX12_plays_216 rfl (lv_at hl 1 rfl) ?_
              refine va_get (D := (dC, dI)) (ci := 12) (v := .ref h_row) (C := RX12) (T := TX12) (N := 22) hx hb hts inX12 hown hK hP 0 rfl rfl 1 (by decide) (hts _ (List.mem_cons_of_mem _ mw_169)) (fun _ h9 => h9) rfl dX12_plays_217 ?_
              refine lv_bipush (v := 39) hx hb dX12_plays_220 (by decide) ?_
              refine lv_aload_n hx hb dX12_plays_222 rfl (lv_at hl 1 rfl) ?_
              refine va_get (D := (dC, dI)) (ci := 12) (v := .ref h_row) (C := RX12) (T := TX12) (N := 22) hx hb hts inX12 hown hK hP 0 rfl rfl 1 (by decide) (hts _ (List.mem_cons_of_mem _ mw_169)) (fun _ h9 => h9) rfl dX12_plays_223 ?_
              refine lv_bipush (v := 38) hx hb dX12_plays_226 (by decide) ?_
              refine xiald (k := 38) hx hb hK hP 1 0 rfl rfl (vpL 38 13385 rfl) (by decide) dX12_plays_228 ?_
              refine lv_aload_n hx hb dX12_plays_229 rfl (lv_at hl 1 rfl) ?_
              refine va_get (D := (dC, dI)) (ci := 12) (v := .ref h_row) (C := RX12) (T := TX12) (N := 22) hx hb hts inX12 hown hK hP 0 rfl rfl 1 (by decide) (hts _ (List.mem_cons_of_mem _ mw_169)) (fun _ h9 => h9) rfl dX12_plays_230 ?_
              refine lv_bipush (v := 39) hx hb dX12_plays_233 (by decide) ?_
              refine xiald (k := 39) hx hb hK hP 1 0 rfl rfl (vpL 39 13385 rfl) (by decide) dX12_plays_235 ?_
              refine jn1 (Gg := fun (x104 : Int32) => ∀ (H : Heap) (locs : List Loc) (ls : Array Slot), va_P (dC, dI) vwCl (w_X12_plays h0 h_row h_kept h_isKept h_aside h_eight h_rows h_scales h_dealt h_bytes h_heardRow h_made h_comes h_backs h_fresh cy c_thrown c_nodeS c_nodeD c_pairE c_pairO c_bit x14 x15 f101 f16 f17 c_bytes c_scales c_dealt c_backs c_eight c_rows f94) H → va_D A (w_X12_plays h0 h_row h_kept h_isKept h_aside h_eight h_rows h_scales h_dealt h_bytes h_heardRow h_made h_comes h_backs h_fresh cy c_thrown c_nodeS c_nodeD c_pairE c_pairO c_bit x14 x15 f101 f16 f17 c_bytes c_scales c_dealt c_backs c_eight c_rows f94) → va_S A s.heap H locs → lv_has ls 9 [(0, .ref h0), (1, .int x2), (2, .int r3), (4, .int x8), (5, .int x11)] → W p l e { frames := 4, cells := 0, slots := 0, locals := 99 } s m av below meth c H locs 0 0 Q0 (F0 m 256 ls [.int x104, .int (39 : Int32), .ref h_row])) hw ?_ ?_ <;> clear hw
              · clear hP hD hS hl; clear H locs ls; intro x104 hw H locs ls hP hD hS hl
                refine xiast (k := 39) hx hb hK hP hD hS 1 0 rfl rfl (vpL 39 13385 rfl) (by decide) dX12_plays_256 ?_; clear hP hD hS; clear H locs; intro f108 e_f108 H locs hP hD hS
                replace hw := hw f108 e_f108
                clear e_f108
                replace hP : va_P (dC, dI) vwCl (w_X12_plays h0 h_row h_kept h_isKept h_aside h_eight h_rows h_scales h_dealt h_bytes h_heardRow h_made h_comes h_backs h_fresh cy c_thrown c_nodeS c_nodeD c_pairE c_pairO c_bit x14 x15 f108 f16 f17 c_bytes c_scales c_dealt c_backs c_eight c_rows f94) H := hP
                replace hD : va_D A (w_X12_plays h0 h_row h_kept h_isKept h_aside h_eight h_rows h_scales h_dealt h_bytes h_heardRow h_made h_comes h_backs h_fresh cy c_thrown c_nodeS c_nodeD c_pairE c_pairO c_bit x14 x15 f108 f16 f17 c_bytes c_scales c_dealt c_backs c_eight c_rows f94) := hD
                exact j32 c_pairE c_pairO c_bit f108 c_bytes c_scales c_dealt c_backs c_eight c_rows f94 hw H locs ls hP hD hS (lv_sub hl [0, 1, 2, 3, 4] rfl)
              · intro j106 hw
                refine lv_icmp_le (tgt := 249) hx hb dX12_plays_236 (by decide) (fun c109 => ?_) (fun c109 => ?_)
                · replace hw := hw.1 c109; clear c109
                  refine lv_aload_n hx hb dX12_plays_249 rfl (lv_at hl 1 rfl) ?_
                  refine va_get (D := (dC, dI)) (ci := 12) (v := .ref h_row) (C := RX12) (T := TX12) (N := 22) hx hb hts inX12 hown hK hP 0 rfl rfl 1 (by decide) (hts _ (List.mem_cons_of_mem _ mw_169)) (fun _ h9 => h9) rfl dX12_plays_250 ?_
                  refine lv_bipush (v := 39) hx hb dX12_plays_253 (by decide) ?_
                  refine xiald (k := 39) hx hb hK hP 1 0 rfl rfl (vpL 39 13385 rfl) (by decide) dX12_plays_255 ?_
                  exact j106 (f101 39) hw H locs ls hP hD hS (lv_sub hl [1, 2, 3, 4, 5] rfl)
                · replace hw := hw.2 c109; clear c109
                  refine lv_aload_n hx hb dX12_plays_239 rfl (lv_at hl 1 rfl) ?_
                  refine va_get (D := (dC, dI)) (ci := 12) (v := .ref h_row) (C := RX12) (T := TX12) (N := 22) hx hb hts inX12 hown hK hP 0 rfl rfl 1 (by decide) (hts _ (List.mem_cons_of_mem _ mw_169)) (fun _ h9 => h9) rfl dX12_plays_240 ?_
                  refine lv_bipush (v := 38) hx hb dX12_plays_243 (by decide) ?_
                  refine xiald (k := 38) hx hb hK hP 1 0 rfl rfl (vpL 38 13385 rfl) (by decide) dX12_plays_245 ?_
                  refine lv_goto (tgt := 256) hx hb dX12_plays_246 (by decide) ?_
                  exact j106 (f101 38) hw H locs ls hP hD hS (lv_sub hl [1, 2, 3, 4, 5] rfl)
            · replace hw := hw.2 c95; clear c95
              refine lv_aload_n hx hb dX12_plays_174 rfl (lv_at hl 1 rfl) ?_
              refine va_get (D := (dC, dI)) (ci := 12) (v := .ref h_comes) (C := RX12) (T := TX12) (N := 22) hx hb hts inX12 hown hK hP 0 rfl rfl 19 (by decide) (hts _ (List.mem_cons_of_mem _ mw_181)) (fun _ h9 => h9) rfl dX12_plays_175 ?_
              refine lv_iload hx hb dX12_plays_178 (lv_at hl 0 rfl) ?_
              refine lv_aload_n hx hb dX12_plays_180 rfl (lv_at hl 1 rfl) ?_
              refine va_get (D := (dC, dI)) (ci := 12) (v := .ref h_made) (C := RX12) (T := TX12) (N := 22) hx hb hts inX12 hown hK hP 0 rfl rfl 18 (by decide) (hts _ (List.mem_cons_of_mem _ mw_180)) (fun _ h9 => h9) rfl dX12_plays_181 ?_
              refine lv_iload hx hb dX12_plays_184 (lv_at hl 0 rfl) ?_
              obtain ⟨h112, hw⟩ := hw
              refine xiald (k := x93.toNatClampNeg) hx hb hK hP 3 0 rfl rfl h112 rfl dX12_plays_186 ?_
              obtain ⟨h113, hw⟩ := hw
              refine xiast (k := x93.toNatClampNeg) hx hb hK hP hD hS 10 0 rfl rfl h113 rfl dX12_plays_187 ?_; clear hP hD hS; clear H locs; intro f114 e_f114 H locs hP hD hS
              replace hw := hw f114 e_f114
              clear e_f114
              replace hP : va_P (dC, dI) vwCl (w_X12_plays h0 h_row h_kept h_isKept h_aside h_eight h_rows h_scales h_dealt h_bytes h_heardRow h_made h_comes h_backs h_fresh cy c_thrown c_nodeS c_nodeD c_pairE c_pairO c_bit x14 x15 f6 f16 f17 c_bytes c_scales c_dealt c_backs c_eight c_rows f114) H := hP
              replace hD : va_D A (w_X12_plays h0 h_row h_kept h_isKept h_aside h_eight h_rows h_scales h_dealt h_bytes h_heardRow h_made h_comes h_backs h_fresh cy c_thrown c_nodeS c_nodeD c_pairE c_pairO c_bit x14 x15 f6 f16 f17 c_bytes c_scales c_dealt c_backs c_eight c_rows f114) := hD
              refine lv_iinc (v := x93 + 1) (lv' := [(6, .int (x93 + 1)), (0, .ref h0), (1, .int x2), (2, .int r3), (4, .int x8), (5, .int x11)]) hx hb dX12_plays_188 hl (k := 0) rfl rfl (by decide) rfl ?_; clear hl; clear ls; intro ls hl
              refine lv_goto (tgt := 167) hx hb dX12_plays_191 (by decide) ?_
              exact ih92 (x93 + 1) f114 hw H locs ls hP hD hS (lv_sub hl [0, 1, 2, 3, 4, 5] rfl)
          · replace hw := hw.2 c89; clear c89
            refine lv_iconst (v := 0) hx hb dX12_plays_82 (by decide) ?_
            refine lv_istore (lv' := [(6, .int (0 : Int32)), (0, .ref h0), (1, .int x2), (2, .int r3), (3, .int r7), (4, .int x8), (5, .int x11)]) hx hb dX12_plays_83 hl (by decide) rfl ?_; clear hl; clear ls; intro ls hl
            obtain ⟨x115, e_x115⟩ : ∃ y : Int32, y = (0 : Int32) := ⟨_, rfl⟩
            replace hw := hw x115 e_x115
            replace hl : lv_has ls 9 [(6, .int x115), (0, .ref h0), (1, .int x2), (2, .int r3), (3, .int r7), (4, .int x8), (5, .int x11)] := by rw [e_x115]; exact hl
            clear e_x115
            replace hl := lv_sub (l' := [(6, .int x115), (0, .ref h0), (1, .int x2), (2, .int r3), (3, .int r7), (4, .int x8), (5, .int x11)]) hl [0, 1, 2, 3, 4, 5, 6] rfl
            revert hl; revert hS; revert hD; revert hP; revert ls; revert locs; revert H
            revert hw; revert c_bytes; revert x115
            refine Lz2_gr ?_; intro g116 ih117 x118 f119 hw
            intro H locs ls hP hD hS hl
            refine lv_iload hx hb dX12_plays_85 (lv_at hl 0 rfl) ?_
            refine lv_bipush (v := 80) hx hb dX12_plays_87 (by decide) ?_
            refine lv_icmp_ge (tgt := 116) hx hb dX12_plays_89 (by decide) (fun c120 => ?_) (fun c120 => ?_)
            · replace hw := hw.1 c120; clear c120
              clear ih117
              refine lv_aload_n hx hb dX12_plays_116 rfl (lv_at hl 1 rfl) ?_
              refine lv_aload_n hx hb dX12_plays_117 rfl (lv_at hl 1 rfl) ?_
              refine va_get (D := (dC, dI)) (ci := 12) (v := .ref h_row) (C := RX12) (T := TX12) (N := 22) hx hb hts inX12 hown hK hP 0 rfl rfl 1 (by decide) (hts _ (List.mem_cons_of_mem _ mw_169)) (fun _ h9 => h9) rfl dX12_plays_118 ?_
              refine lv_iload_n hx hb dX12_plays_121 rfl (lv_at hl 4 rfl) ?_
              refine lv_iconst (v := 1) hx hb dX12_plays_122 (by decide) ?_
              refine lv_iadd hx hb dX12_plays_123 ?_
              obtain ⟨h121, hw⟩ := hw
              refine xiald (k := (r7 + (1 : Int32)).toNatClampNeg) hx hb hK hP 1 0 rfl rfl h121 rfl dX12_plays_124 ?_
              have hPc := pSub (ws' := (w_X12_hears h0 h_row h_kept h_isKept h_aside h_eight h_rows h_scales h_dealt h_bytes h_heardRow h_made h_comes h_backs h_fresh cy c_thrown c_nodeS c_nodeD c_pairE c_pairO c_bit x14 x15 f119 c_scales c_dealt f6 c_backs c_eight c_rows c_comes)) hP [0, 4, 5, 6, 1, 7, 8, 9, 10] rfl
              have hDc := dSub (ws' := (w_X12_hears h0 h_row h_kept h_isKept h_aside h_eight h_rows h_scales h_dealt h_bytes h_heardRow h_made h_comes h_backs h_fresh cy c_thrown c_nodeS c_nodeD c_pairE c_pairO c_bit x14 x15 f119 c_scales c_dealt f6 c_backs c_eight c_rows c_comes)) hD [0, 4, 5, 6, 1, 7, 8, 9, 10] (by decide) rfl
              have hFc := va_free (wc := (w_X12_hears h0 h_row h_kept h_isKept h_aside h_eight h_rows h_scales h_dealt h_bytes h_heardRow h_made h_comes h_backs h_fresh cy c_thrown c_nodeS c_nodeD c_pairE c_pairO c_bit x14 x15 f119 c_scales c_dealt f6 c_backs c_eight c_rows c_comes)) hD hS hA [0, 4, 5, 6, 1, 7, 8, 9, 10] rfl
              refine va_callv (va_runV (As := [.int (f6 (r7 + (1 : Int32)).toNatClampNeg)]) (rest := []) ⟨hx, hb, hml, hown, hts⟩ (c_X12_hears l dC dI cy h0 h_row h_kept h_isKept h_aside h_eight h_rows h_scales h_dealt h_bytes h_heardRow h_made h_comes h_backs h_fresh H.size (f6 (r7 + (1 : Int32)).toNatClampNeg) c_thrown c_nodeS c_nodeD c_pairE c_pairO c_bit x14 x15 f119 c_scales c_dealt f6 c_backs c_eight c_rows c_comes _ hw) (cwV 1 hts (goodV mw_758 mw_755 mw_756 mw_757 mw_5) rfl rfl rfl (by decide +kernel) ⟨Nat.le_of_ble_eq_true rfl, Nat.le_of_ble_eq_true rfl⟩) ⟨PX_blind, va_recv hK hPc (ci := 12) (q0 := 0) rfl rfl, PX_pre hPc hK hDc hG⟩ rfl rfl hl.1 rfl (lv_room (Nat.le_of_ble_eq_true rfl)) dX12_plays_125 ⟨Nat.zero_le _, Nat.zero_le _⟩) hS (fun q _ h => hFc q h) hFc ?_; clear hw hS; intro u t H1 locs1 ht hvm hw hB hz1 hk1 hS
              obtain ⟨x122, x123, x124, f125, f126, f127, f128, f129, f130, f131⟩ := u
              try dsimp only at hw
              obtain ⟨hP1, -, -⟩ := hB
              rw [ht] at hP1
              replace hP := jC0 hP hD [0, 4, 5, 6, 1, 7, 8, 9, 10] [2, 3] rfl hk1 hP1 (w_X12_plays h0 h_row h_kept h_isKept h_aside h_eight h_rows h_scales h_dealt h_bytes h_heardRow h_made h_comes h_backs h_fresh cy c_thrown c_nodeS c_nodeD x122 x123 x124 x14 x15 f127 f16 f17 f119 f125 f126 f128 f129 f130 f131) rfl rfl rfl 11 rfl (by decide +kernel); clear hD; obtain ⟨hP, hD⟩ := hP
              replace hP : va_P (dC, dI) vwCl (w_X12_plays h0 h_row h_kept h_isKept h_aside h_eight h_rows h_scales h_dealt h_bytes h_heardRow h_made h_comes h_backs h_fresh cy c_thrown c_nodeS c_nodeD x122 x123 x124 x14 x15 f127 f16 f17 f119 f125 f126 f128 f129 f130 f131) H1 := hP
              replace hD : va_D A (w_X12_plays h0 h_row h_kept h_isKept h_aside h_eight h_rows h_scales h_dealt h_bytes h_heardRow h_made h_comes h_backs h_fresh cy c_thrown c_nodeS c_nodeD x122 x123 x124 x14 x15 f127 f16 f17 f119 f125 f126 f128 f129 f130 f131) := hD
              clear hPc hDc hFc hP1 hk1 hz1 hvm ht; clear t; clear H locs; obtain ⟨H, hH⟩ : ∃ H, H = H1 := ⟨_, rfl⟩; obtain ⟨locs, hlo⟩ : ∃ L, L = locs1 := ⟨_, rfl⟩; subst hH; subst hlo
              refine W.widen (k := 0) (n := 0) (Nat.le_refl 0) (Nat.le_refl 0) ?_
              refine lv_aload_n hx hb dX12_plays_128 rfl (lv_at hl 1 rfl) ?_
              refine va_get (D := (dC, dI)) (ci := 12) (v := .ref h_row) (C := RX12) (T := TX12) (N := 22) hx hb hts inX12 hown hK hP 0 rfl rfl 1 (by decide) (hts _ (List.mem_cons_of_mem _ mw_169)) (fun _ h9 => h9) rfl dX12_plays_129 ?_
              refine lv_bipush (v := 38) hx hb dX12_plays_132 (by decide) ?_
              refine xiald (k := 38) hx hb hK hP 1 0 rfl rfl (vpL 38 13385 rfl) (by decide) dX12_plays_134 ?_
              refine jn1 (Gg := fun (f133 : (Nat → Int32)) => ∀ (H : Heap) (locs : List Loc) (ls : Array Slot), va_P (dC, dI) vwCl (w_X12_plays h0 h_row h_kept h_isKept h_aside h_eight h_rows h_scales h_dealt h_bytes h_heardRow h_made h_comes h_backs h_fresh cy c_thrown c_nodeS c_nodeD x122 x123 x124 x14 x15 f127 f16 f17 f119 f125 f126 f128 f129 f130 f133) H → va_D A (w_X12_plays h0 h_row h_kept h_isKept h_aside h_eight h_rows h_scales h_dealt h_bytes h_heardRow h_made h_comes h_backs h_fresh cy c_thrown c_nodeS c_nodeD x122 x123 x124 x14 x15 f127 f16 f17 f119 f125 f126 f128 f129 f130 f133) → va_S A s.heap H locs → lv_has ls 9 [(0, .ref h0), (1, .int x2), (2, .int r3), (4, .int x8), (5, .int x11)] → W p l e { frames := 4, cells := 0, slots := 0, locals := 99 } s m av below meth c H locs 0 0 Q0 (F0 m 142 ls [])) hw ?_ ?_ <;> clear hw
              · clear hP hD hS hl; clear H locs ls; intro f133 hw H locs ls hP hD hS hl
                refine lv_aload_n hx hb dX12_plays_142 rfl (lv_at hl 0 rfl) ?_
                refine va_get (D := (dC, dI)) (ci := 12) (v := .ref h_row) (C := RX12) (T := TX12) (N := 22) hx hb hts inX12 hown hK hP 0 rfl rfl 1 (by decide) (hts _ (List.mem_cons_of_mem _ mw_169)) (fun _ h9 => h9) rfl dX12_plays_143 ?_
                refine lv_bipush (v := 38) hx hb dX12_plays_146 (by decide) ?_
                refine lv_iconst (v := 0) hx hb dX12_plays_148 (by decide) ?_
                refine xiast (k := 38) hx hb hK hP hD hS 1 0 rfl rfl (vpL 38 13385 rfl) (by decide) dX12_plays_149 ?_; clear hP hD hS; clear H locs; intro f137 e_f137 H locs hP hD hS
                replace hw := hw f137 e_f137
                clear e_f137
                replace hP : va_P (dC, dI) vwCl (w_X12_plays h0 h_row h_kept h_isKept h_aside h_eight h_rows h_scales h_dealt h_bytes h_heardRow h_made h_comes h_backs h_fresh cy c_thrown c_nodeS c_nodeD x122 x123 x124 x14 x15 f137 f16 f17 f119 f125 f126 f128 f129 f130 f133) H := hP
                replace hD : va_D A (w_X12_plays h0 h_row h_kept h_isKept h_aside h_eight h_rows h_scales h_dealt h_bytes h_heardRow h_made h_comes h_backs h_fresh cy c_thrown c_nodeS c_nodeD x122 x123 x124 x14 x15 f137 f16 f17 f119 f125 f126 f128 f129 f130 f133) := hD
                refine lv_aload_n hx hb dX12_plays_150 rfl (lv_at hl 0 rfl) ?_
                refine va_get (D := (dC, dI)) (ci := 12) (v := .ref h_row) (C := RX12) (T := TX12) (N := 22) hx hb hts inX12 hown hK hP 0 rfl rfl 1 (by decide) (hts _ (List.mem_cons_of_mem _ mw_169)) (fun _ h9 => h9) rfl dX12_plays_151 ?_
                refine lv_bipush (v := 36) hx hb dX12_plays_154 (by decide) ?_
                refine lv_dup2_11 hx hb dX12_plays_156 rfl rfl ?_
                refine xiald (k := 36) hx hb hK hP 1 0 rfl rfl (vpL 36 13385 rfl) (by decide) dX12_plays_157 ?_
                refine lv_iconst (v := 1) hx hb dX12_plays_158 (by decide) ?_
                refine lv_iadd hx hb dX12_plays_159 ?_
                refine xiast (k := 36) hx hb hK hP hD hS 1 0 rfl rfl (vpL 36 13385 rfl) (by decide) dX12_plays_160 ?_; clear hP hD hS; clear H locs; intro f140 e_f140 H locs hP hD hS
                replace hw := hw f140 e_f140
                clear e_f140
                replace hP : va_P (dC, dI) vwCl (w_X12_plays h0 h_row h_kept h_isKept h_aside h_eight h_rows h_scales h_dealt h_bytes h_heardRow h_made h_comes h_backs h_fresh cy c_thrown c_nodeS c_nodeD x122 x123 x124 x14 x15 f140 f16 f17 f119 f125 f126 f128 f129 f130 f133) H := hP
                replace hD : va_D A (w_X12_plays h0 h_row h_kept h_isKept h_aside h_eight h_rows h_scales h_dealt h_bytes h_heardRow h_made h_comes h_backs h_fresh cy c_thrown c_nodeS c_nodeD x122 x123 x124 x14 x15 f140 f16 f17 f119 f125 f126 f128 f129 f130 f133) := hD
                refine lv_goto (tgt := 257) hx hb dX12_plays_161 (by decide) ?_
                exact j32 x122 x123 x124 f140 f119 f125 f126 f128 f129 f130 f133 hw H locs ls hP hD hS (lv_sub hl [0, 1, 2, 3, 4] rfl)
              · intro j135 hw
                refine lv_if_le (tgt := 142) hx hb dX12_plays_135 (by decide) (fun c141 => ?_) (fun c141 => ?_)
                · replace hw := hw.1 c141; clear c141
                  exact j135 f131 hw H locs ls hP hD hS (lv_sub hl [1, 2, 3, 5, 6] rfl)
                · replace hw := hw.2 c141; clear c141
                  refine lv_aload_n hx hb dX12_plays_138 rfl (lv_at hl 1 rfl) ?_
                  have hPc := pSub (ws' := (w_X12_blends h0 h_row h_kept h_isKept h_aside h_eight h_rows h_scales h_dealt h_bytes h_heardRow h_made h_comes h_backs h_fresh cy c_thrown c_nodeS c_nodeD x122 x123 x124 x14 x15 f17 f131)) hP [0, 3, 10] rfl
                  have hDc := dSub (ws' := (w_X12_blends h0 h_row h_kept h_isKept h_aside h_eight h_rows h_scales h_dealt h_bytes h_heardRow h_made h_comes h_backs h_fresh cy c_thrown c_nodeS c_nodeD x122 x123 x124 x14 x15 f17 f131)) hD [0, 3, 10] (by decide) rfl
                  have hFc := va_free (wc := (w_X12_blends h0 h_row h_kept h_isKept h_aside h_eight h_rows h_scales h_dealt h_bytes h_heardRow h_made h_comes h_backs h_fresh cy c_thrown c_nodeS c_nodeD x122 x123 x124 x14 x15 f17 f131)) hD hS hA [0, 3, 10] rfl
                  refine va_callv (va_runV (As := []) (rest := []) ⟨hx, hb, hml, hown, hts⟩ (c_X12_blends l dC dI cy h0 h_row h_kept h_isKept h_aside h_eight h_rows h_scales h_dealt h_bytes h_heardRow h_made h_comes h_backs h_fresh H.size c_thrown c_nodeS c_nodeD x122 x123 x124 x14 x15 f17 f131 _ hw) (cwV 0 hts (goodV mw_783 mw_780 mw_781 mw_782 mw_5) rfl rfl rfl (by decide +kernel) ⟨Nat.le_of_ble_eq_true rfl, Nat.le_of_ble_eq_true rfl⟩) ⟨PX_blind, va_recv hK hPc (ci := 12) (q0 := 0) rfl rfl, PX_pre hPc hK hDc hG⟩ rfl rfl hl.1 rfl (lv_room (Nat.le_of_ble_eq_true rfl)) dX12_plays_139 ⟨Nat.zero_le _, Nat.zero_le _⟩) hS (fun q _ h => hFc q h) hFc ?_; clear hw hS; intro f142 t H1 locs1 ht hvm hw hB hz1 hk1 hS
                  obtain ⟨hP1, -, -⟩ := hB
                  rw [ht] at hP1
                  replace hP := jC0 hP hD [0, 3, 10] [1, 2, 4, 5, 6, 7, 8, 9] rfl hk1 hP1 (w_X12_plays h0 h_row h_kept h_isKept h_aside h_eight h_rows h_scales h_dealt h_bytes h_heardRow h_made h_comes h_backs h_fresh cy c_thrown c_nodeS c_nodeD x122 x123 x124 x14 x15 f127 f16 f17 f119 f125 f126 f128 f129 f130 f142) rfl rfl rfl 11 rfl (by decide +kernel); clear hD; obtain ⟨hP, hD⟩ := hP
                  replace hP : va_P (dC, dI) vwCl (w_X12_plays h0 h_row h_kept h_isKept h_aside h_eight h_rows h_scales h_dealt h_bytes h_heardRow h_made h_comes h_backs h_fresh cy c_thrown c_nodeS c_nodeD x122 x123 x124 x14 x15 f127 f16 f17 f119 f125 f126 f128 f129 f130 f142) H1 := hP
                  replace hD : va_D A (w_X12_plays h0 h_row h_kept h_isKept h_aside h_eight h_rows h_scales h_dealt h_bytes h_heardRow h_made h_comes h_backs h_fresh cy c_thrown c_nodeS c_nodeD x122 x123 x124 x14 x15 f127 f16 f17 f119 f125 f126 f128 f129 f130 f142) := hD
                  clear hPc hDc hFc hP1 hk1 hz1 hvm ht; clear t; clear H locs; obtain ⟨H, hH⟩ : ∃ H, H = H1 := ⟨_, rfl⟩; obtain ⟨locs, hlo⟩ : ∃ L, L = locs1 := ⟨_, rfl⟩; subst hH; subst hlo
                  refine W.widen (k := 0) (n := 0) (Nat.le_refl 0) (Nat.le_refl 0) ?_
                  exact j135 f142 hw H locs ls hP hD hS (lv_sub hl [1, 2, 3, 5, 6] rfl)
            · replace hw := hw.2 c120; clear c120
              refine lv_aload_n hx hb dX12_plays_92 rfl (lv_at hl 1 rfl) ?_
              refine va_get (D := (dC, dI)) (ci := 12) (v := .ref h_bytes) (C := RX12) (T := TX12) (N := 22) hx hb hts inX12 hown hK hP 0 rfl rfl 13 (by decide) (hts _ (List.mem_cons_of_mem _ mw_178)) (fun _ h9 => h9) rfl dX12_plays_93 ?_
              refine lv_iload hx hb dX12_plays_96 (lv_at hl 0 rfl) ?_
              refine lv_aload_n hx hb dX12_plays_98 rfl (lv_at hl 1 rfl) ?_
              refine va_get (D := (dC, dI)) (ci := 12) (v := .ref h_row) (C := RX12) (T := TX12) (N := 22) hx hb hts inX12 hown hK hP 0 rfl rfl 1 (by decide) (hts _ (List.mem_cons_of_mem _ mw_169)) (fun _ h9 => h9) rfl dX12_plays_99 ?_
              refine lv_iload_n hx hb dX12_plays_102 rfl (lv_at hl 4 rfl) ?_
              refine lv_iconst (v := 2) hx hb dX12_plays_103 (by decide) ?_
              refine lv_iadd hx hb dX12_plays_104 ?_
              refine lv_iload hx hb dX12_plays_105 (lv_at hl 0 rfl) ?_
              refine lv_iadd hx hb dX12_plays_107 ?_
              obtain ⟨h143, hw⟩ := hw
              refine xiald (k := ((r7 + (2 : Int32)) + x118).toNatClampNeg) hx hb hK hP 1 0 rfl rfl h143 rfl dX12_plays_108 ?_
              obtain ⟨h144, hw⟩ := hw
              refine xiast (k := x118.toNatClampNeg) hx hb hK hP hD hS 4 0 rfl rfl h144 rfl dX12_plays_109 ?_; clear hP hD hS; clear H locs; intro f145 e_f145 H locs hP hD hS
              replace hw := hw f145 e_f145
              clear e_f145
              replace hP : va_P (dC, dI) vwCl (w_X12_plays h0 h_row h_kept h_isKept h_aside h_eight h_rows h_scales h_dealt h_bytes h_heardRow h_made h_comes h_backs h_fresh cy c_thrown c_nodeS c_nodeD c_pairE c_pairO c_bit x14 x15 f6 f16 f17 f145 c_scales c_dealt c_backs c_eight c_rows c_comes) H := hP
              replace hD : va_D A (w_X12_plays h0 h_row h_kept h_isKept h_aside h_eight h_rows h_scales h_dealt h_bytes h_heardRow h_made h_comes h_backs h_fresh cy c_thrown c_nodeS c_nodeD c_pairE c_pairO c_bit x14 x15 f6 f16 f17 f145 c_scales c_dealt c_backs c_eight c_rows c_comes) := hD
              refine lv_iinc (v := x118 + 1) (lv' := [(6, .int (x118 + 1)), (0, .ref h0), (1, .int x2), (2, .int r3), (3, .int r7), (4, .int x8), (5, .int x11)]) hx hb dX12_plays_110 hl (k := 0) rfl rfl (by decide) rfl ?_; clear hl; clear ls; intro ls hl
              refine lv_goto (tgt := 85) hx hb dX12_plays_113 (by decide) ?_
              exact ih117 (x118 + 1) f145 hw H locs ls hP hD hS (lv_sub hl [0, 1, 2, 3, 4, 5, 6] rfl)
      · intro j19 hw
        refine jn0 (Gg := ∀ (H : Heap) (locs : List Loc) (ls : Array Slot), va_P (dC, dI) vwCl (w_X12_plays h0 h_row h_kept h_isKept h_aside h_eight h_rows h_scales h_dealt h_bytes h_heardRow h_made h_comes h_backs h_fresh cy c_thrown c_nodeS c_nodeD c_pairE c_pairO c_bit c_lag c_lagSum f6 c_heardRow c_made c_bytes c_scales c_dealt c_backs c_eight c_rows c_comes) H → va_D A (w_X12_plays h0 h_row h_kept h_isKept h_aside h_eight h_rows h_scales h_dealt h_bytes h_heardRow h_made h_comes h_backs h_fresh cy c_thrown c_nodeS c_nodeD c_pairE c_pairO c_bit c_lag c_lagSum f6 c_heardRow c_made c_bytes c_scales c_dealt c_backs c_eight c_rows c_comes) → va_S A s.heap H locs → lv_has ls 9 [(0, .ref h0), (1, .int x2), (2, .int r3), (3, .int r7), (4, .int x8), (5, .int x11)] → W p l e { frames := 4, cells := 0, slots := 0, locals := 99 } s m av below meth c H locs 0 0 Q0 (F0 m 73 ls [])) hw ?_ ?_ <;> clear hw
        · clear hP hD hS hl; clear H locs ls; intro  hw H locs ls hP hD hS hl
          refine lv_aload_n hx hb dX12_plays_73 rfl (lv_at hl 0 rfl) ?_
          have hPc := pSub (ws' := (w_X12_layMade h0 h_row h_kept h_isKept h_aside h_eight h_rows h_scales h_dealt h_bytes h_heardRow h_made h_comes h_backs h_fresh cy c_thrown c_nodeS c_nodeD c_pairE c_pairO c_bit c_lag c_lagSum f6 c_heardRow c_made)) hP [0, 1, 2, 3] rfl
          have hDc := dSub (ws' := (w_X12_layMade h0 h_row h_kept h_isKept h_aside h_eight h_rows h_scales h_dealt h_bytes h_heardRow h_made h_comes h_backs h_fresh cy c_thrown c_nodeS c_nodeD c_pairE c_pairO c_bit c_lag c_lagSum f6 c_heardRow c_made)) hD [0, 1, 2, 3] (by decide) rfl
          have hFc := va_free (wc := (w_X12_layMade h0 h_row h_kept h_isKept h_aside h_eight h_rows h_scales h_dealt h_bytes h_heardRow h_made h_comes h_backs h_fresh cy c_thrown c_nodeS c_nodeD c_pairE c_pairO c_bit c_lag c_lagSum f6 c_heardRow c_made)) hD hS hA [0, 1, 2, 3] rfl
          refine va_callv (va_runV (As := []) (rest := []) ⟨hx, hb, hml, hown, hts⟩ (c_X12_layMade l dC dI cy h0 h_row h_kept h_isKept h_aside h_eight h_rows h_scales h_dealt h_bytes h_heardRow h_made h_comes h_backs h_fresh H.size c_thrown c_nodeS c_nodeD c_pairE c_pairO c_bit c_lag c_lagSum f6 c_heardRow c_made _ hw) (cwV 0 hts (goodV mw_744 mw_741 mw_742 mw_743 mw_5) rfl rfl rfl (by decide +kernel) ⟨Nat.le_of_ble_eq_true rfl, Nat.le_of_ble_eq_true rfl⟩) ⟨PX_blind, va_recv hK hPc (ci := 12) (q0 := 0) rfl rfl, PX_pre hPc hK hDc hG⟩ rfl rfl hl.1 rfl (lv_room (Nat.le_of_ble_eq_true rfl)) dX12_plays_74 ⟨Nat.zero_le _, Nat.zero_le _⟩) hS (fun q _ h => hFc q h) hFc ?_; clear hw hS; intro u t H1 locs1 ht hvm hw hB hz1 hk1 hS
          obtain ⟨x148, x149, f150, f151⟩ := u
          try dsimp only at hw
          obtain ⟨hP1, -, -⟩ := hB
          rw [ht] at hP1
          replace hP := jC0 hP hD [0, 1, 2, 3] [4, 5, 6, 7, 8, 9, 10] rfl hk1 hP1 (w_X12_plays h0 h_row h_kept h_isKept h_aside h_eight h_rows h_scales h_dealt h_bytes h_heardRow h_made h_comes h_backs h_fresh cy c_thrown c_nodeS c_nodeD c_pairE c_pairO c_bit x148 x149 f6 f150 f151 c_bytes c_scales c_dealt c_backs c_eight c_rows c_comes) rfl rfl rfl 11 rfl (by decide +kernel); clear hD; obtain ⟨hP, hD⟩ := hP
          replace hP : va_P (dC, dI) vwCl (w_X12_plays h0 h_row h_kept h_isKept h_aside h_eight h_rows h_scales h_dealt h_bytes h_heardRow h_made h_comes h_backs h_fresh cy c_thrown c_nodeS c_nodeD c_pairE c_pairO c_bit x148 x149 f6 f150 f151 c_bytes c_scales c_dealt c_backs c_eight c_rows c_comes) H1 := hP
          replace hD : va_D A (w_X12_plays h0 h_row h_kept h_isKept h_aside h_eight h_rows h_scales h_dealt h_bytes h_heardRow h_made h_comes h_backs h_fresh cy c_thrown c_nodeS c_nodeD c_pairE c_pairO c_bit x148 x149 f6 f150 f151 c_bytes c_scales c_dealt c_backs c_eight c_rows c_comes) := hD
          clear hPc hDc hFc hP1 hk1 hz1 hvm ht; clear t; clear H locs; obtain ⟨H, hH⟩ : ∃ H, H = H1 := ⟨_, rfl⟩; obtain ⟨locs, hlo⟩ : ∃ L, L = locs1 := ⟨_, rfl⟩; subst hH; subst hlo
          refine W.widen (k := 0) (n := 0) (Nat.le_refl 0) (Nat.le_refl 0) ?_
          exact j19 x148 x149 f150 f151 hw H locs ls hP hD hS (lv_sub hl [0, 1, 2, 3, 4, 5] rfl)
        · intro j147 hw
          refine lv_if_eq (tgt := 73) hx hb dX12_plays_60 (by decide) (fun c152 => ?_) (fun c152 => ?_)
          · replace hw := hw.1 c152; clear c152
            exact j147 hw H locs ls hP hD hS (lv_sub hl [1, 2, 3, 4, 5, 0] rfl)
          · replace hw := hw.2 c152; clear c152
            refine lv_aload_n hx hb dX12_plays_63 rfl (lv_at hl 1 rfl) ?_
            refine va_get (D := (dC, dI)) (ci := 12) (v := .ref h_row) (C := RX12) (T := TX12) (N := 22) hx hb hts inX12 hown hK hP 0 rfl rfl 1 (by decide) (hts _ (List.mem_cons_of_mem _ mw_169)) (fun _ h9 => h9) rfl dX12_plays_64 ?_
            refine lv_bipush (v := 38) hx hb dX12_plays_67 (by decide) ?_
            refine xiald (k := 38) hx hb hK hP 1 0 rfl rfl (vpL 38 13385 rfl) (by decide) dX12_plays_69 ?_
            refine lv_if_le (tgt := 77) hx hb dX12_plays_70 (by decide) (fun c154 => ?_) (fun c154 => ?_)
            · replace hw := hw.1 c154; clear c154
              exact j19 c_lag c_lagSum c_heardRow c_made hw H locs ls hP hD hS (lv_sub hl [1, 2, 3, 4, 5, 0] rfl)
            · replace hw := hw.2 c154; clear c154
              exact j147 hw H locs ls hP hD hS (lv_sub hl [1, 2, 3, 4, 5, 0] rfl)
    · intro j13 hw
      refine lv_if_eq (tgt := 52) hx hb dX12_plays_44 (by decide) (fun c155 => ?_) (fun c155 => ?_)
      · replace hw := hw.1 c155; clear c155
        refine lv_aload_n hx hb dX12_plays_52 rfl (lv_at hl 1 rfl) ?_
        have hPc := pSub (ws' := (w_X12_fade h0 h_row h_kept h_isKept h_aside h_eight h_rows h_scales h_dealt h_bytes h_heardRow h_made h_comes h_backs h_fresh cy c_thrown c_nodeS c_nodeD c_pairE c_pairO c_bit c_lag c_lagSum f6)) hP [0, 1] rfl
        have hDc := dSub (ws' := (w_X12_fade h0 h_row h_kept h_isKept h_aside h_eight h_rows h_scales h_dealt h_bytes h_heardRow h_made h_comes h_backs h_fresh cy c_thrown c_nodeS c_nodeD c_pairE c_pairO c_bit c_lag c_lagSum f6)) hD [0, 1] (by decide) rfl
        have hFc := va_free (wc := (w_X12_fade h0 h_row h_kept h_isKept h_aside h_eight h_rows h_scales h_dealt h_bytes h_heardRow h_made h_comes h_backs h_fresh cy c_thrown c_nodeS c_nodeD c_pairE c_pairO c_bit c_lag c_lagSum f6)) hD hS hA [0, 1] rfl
        refine va_calli (va_runV (As := []) (rest := []) ⟨hx, hb, hml, hown, hts⟩ (c_X12_fade l dC dI cy h0 h_row h_kept h_isKept h_aside h_eight h_rows h_scales h_dealt h_bytes h_heardRow h_made h_comes h_backs h_fresh H.size c_thrown c_nodeS c_nodeD c_pairE c_pairO c_bit c_lag c_lagSum f6 _ hw) (cwV 0 hts (goodV mw_740 mw_737 mw_738 mw_739 mw_5) rfl rfl rfl (by decide +kernel) ⟨Nat.le_of_ble_eq_true rfl, Nat.le_of_ble_eq_true rfl⟩) ⟨PX_blind, va_recv hK hPc (ci := 12) (q0 := 0) rfl rfl, PX_pre hPc hK hDc hG⟩ rfl rfl hl.1 rfl (lv_room (Nat.le_of_ble_eq_true rfl)) dX12_plays_53 ⟨Nat.zero_le _, Nat.zero_le _⟩) hS (fun q _ h => hFc q h) hFc ?_; clear hw hS; intro r156 _ t H1 locs1 ht hvm hw hB hz1 hk1 hS
        obtain ⟨hP1, -, -⟩ := hB
        rw [ht] at hP1
        replace hP := jC0 hP hD [0, 1] [2, 3, 4, 5, 6, 7, 8, 9, 10] rfl hk1 hP1 (w_X12_plays h0 h_row h_kept h_isKept h_aside h_eight h_rows h_scales h_dealt h_bytes h_heardRow h_made h_comes h_backs h_fresh cy c_thrown c_nodeS c_nodeD c_pairE c_pairO c_bit c_lag c_lagSum f6 c_heardRow c_made c_bytes c_scales c_dealt c_backs c_eight c_rows c_comes) rfl rfl rfl 11 rfl (by decide +kernel); clear hD; obtain ⟨hP, hD⟩ := hP
        replace hP : va_P (dC, dI) vwCl (w_X12_plays h0 h_row h_kept h_isKept h_aside h_eight h_rows h_scales h_dealt h_bytes h_heardRow h_made h_comes h_backs h_fresh cy c_thrown c_nodeS c_nodeD c_pairE c_pairO c_bit c_lag c_lagSum f6 c_heardRow c_made c_bytes c_scales c_dealt c_backs c_eight c_rows c_comes) H1 := hP
        replace hD : va_D A (w_X12_plays h0 h_row h_kept h_isKept h_aside h_eight h_rows h_scales h_dealt h_bytes h_heardRow h_made h_comes h_backs h_fresh cy c_thrown c_nodeS c_nodeD c_pairE c_pairO c_bit c_lag c_lagSum f6 c_heardRow c_made c_bytes c_scales c_dealt c_backs c_eight c_rows c_comes) := hD
        clear hPc hDc hFc hP1 hk1 hz1 hvm ht; clear t; clear H locs; obtain ⟨H, hH⟩ : ∃ H, H = H1 := ⟨_, rfl⟩; obtain ⟨locs, hlo⟩ : ∃ L, L = locs1 := ⟨_, rfl⟩; subst hH; subst hlo
        refine W.widen (k := 0) (n := 0) (Nat.le_refl 0) (Nat.le_refl 0) ?_
        exact j13 r156 hw H locs ls hP hD hS (lv_sub hl [1, 2, 3, 4, 0] rfl)
      · replace hw := hw.2 c155; clear c155
        refine lv_bipush (v := 8) hx hb dX12_plays_47 (by decide) ?_
        refine lv_goto (tgt := 56) hx hb dX12_plays_49 (by decide) ?_
        exact j13 (8 : Int32) hw H locs ls hP hD hS (lv_sub hl [1, 2, 3, 4, 0] rfl)
  · intro j10 hw
    refine lv_icmp_eq (tgt := 39) hx hb dX12_plays_32 (by decide) (fun c157 => ?_) (fun c157 => ?_)
    · replace hw := hw.1 c157; clear c157
      refine lv_iconst (v := 0) hx hb dX12_plays_39 (by decide) ?_
      exact j10 (0 : Int32) hw H locs ls hP hD hS (lv_sub hl [3, 2, 1, 0] rfl)
    · replace hw := hw.2 c157; clear c157
      refine lv_iconst (v := 1) hx hb dX12_plays_35 (by decide) ?_
      refine lv_goto (tgt := 40) hx hb dX12_plays_36 (by decide) ?_
      exact j10 (1 : Int32) hw H locs ls hP hD hS (lv_sub hl [3, 2, 1, 0] rfl)
