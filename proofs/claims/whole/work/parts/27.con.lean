set_option maxHeartbeats 4000000 in
set_option maxRecDepth 100000 in
theorem c_X12_slot (l : Launch) (dC : Nat → ClassId) (dI : Nat → Nat → Nat) (cy : Nat → ClassId) (h0 h_row h_kept h_isKept h_aside h_eight h_rows h_scales h_dealt h_bytes h_heardRow h_made h_comes h_backs h_fresh : Nat) (sz : Nat) (c_thrown : Int32) (c_nodeS : Int32) (c_nodeD : Int32) (c_pairE : Int32) (c_pairO : Int32) (c_bit : Int32) (c_lag : Int32) (c_lagSum : Int32) (c_row : Nat → Int32) (c_eight : Nat → Int32) (c_rows : Nat → Int32) (c_bytes : Nat → Int32) (c_scales : Nat → Int32) (c_dealt : Nat → Int32) (c_heardRow : Nat → Int32) (c_made : Nat → Int32) (c_backs : Nat → Int32) (c_comes : Nat → Int32) (post : Int32 → Int32 → Int32 → Int32 → Int32 → Int32 → Int32 → (Nat → Int32) → (Nat → Int32) → (Nat → Int32) → (Nat → Int32) → (Nat → Int32) → (Nat → Int32) → (Nat → Int32) → (Nat → Int32) → (Nat → Int32) → (Nat → Int32) → Prop) (hw : wp_X12_slot c_nodeS c_nodeD c_pairE c_pairO c_bit c_lag c_lagSum c_row c_eight c_rows c_bytes c_scales c_dealt c_heardRow c_made c_backs c_comes post) : Met l yX12_slot wsX12_slot ({ frames := 5, cells := 0, slots := 0, locals := 127 }) (PX dC dI cy [.ref h0] sz (w_X12_slot h0 h_row h_kept h_isKept h_aside h_eight h_rows h_scales h_dealt h_bytes h_heardRow h_made h_comes h_backs h_fresh cy c_thrown c_nodeS c_nodeD c_pairE c_pairO c_bit c_lag c_lagSum c_row c_eight c_rows c_bytes c_scales c_dealt c_heardRow c_made c_backs c_comes)) (va_Qv (fun (u : Int32 × Int32 × Int32 × Int32 × Int32 × Int32 × Int32 × (Nat → Int32) × (Nat → Int32) × (Nat → Int32) × (Nat → Int32) × (Nat → Int32) × (Nat → Int32) × (Nat → Int32) × (Nat → Int32) × (Nat → Int32) × (Nat → Int32)) => post u.1 u.2.1 u.2.2.1 u.2.2.2.1 u.2.2.2.2.1 u.2.2.2.2.2.1 u.2.2.2.2.2.2.1 u.2.2.2.2.2.2.2.1 u.2.2.2.2.2.2.2.2.1 u.2.2.2.2.2.2.2.2.2.1 u.2.2.2.2.2.2.2.2.2.2.1 u.2.2.2.2.2.2.2.2.2.2.2.1 u.2.2.2.2.2.2.2.2.2.2.2.2.1 u.2.2.2.2.2.2.2.2.2.2.2.2.2.1 u.2.2.2.2.2.2.2.2.2.2.2.2.2.2.1 u.2.2.2.2.2.2.2.2.2.2.2.2.2.2.2.1 u.2.2.2.2.2.2.2.2.2.2.2.2.2.2.2.2) (QX dC dI cy (va_A (w_X12_slot h0 h_row h_kept h_isKept h_aside h_eight h_rows h_scales h_dealt h_bytes h_heardRow h_made h_comes h_backs h_fresh cy c_thrown c_nodeS c_nodeD c_pairE c_pairO c_bit c_lag c_lagSum c_row c_eight c_rows c_bytes c_scales c_dealt c_heardRow c_made c_backs c_comes) sz) (fun (u : Int32 × Int32 × Int32 × Int32 × Int32 × Int32 × Int32 × (Nat → Int32) × (Nat → Int32) × (Nat → Int32) × (Nat → Int32) × (Nat → Int32) × (Nat → Int32) × (Nat → Int32) × (Nat → Int32) × (Nat → Int32) × (Nat → Int32)) => w_X12_slot h0 h_row h_kept h_isKept h_aside h_eight h_rows h_scales h_dealt h_bytes h_heardRow h_made h_comes h_backs h_fresh cy c_thrown u.1 u.2.1 u.2.2.1 u.2.2.2.1 u.2.2.2.2.1 u.2.2.2.2.2.1 u.2.2.2.2.2.2.1 u.2.2.2.2.2.2.2.1 u.2.2.2.2.2.2.2.2.1 u.2.2.2.2.2.2.2.2.2.1 u.2.2.2.2.2.2.2.2.2.2.1 u.2.2.2.2.2.2.2.2.2.2.2.1 u.2.2.2.2.2.2.2.2.2.2.2.2.1 u.2.2.2.2.2.2.2.2.2.2.2.2.2.1 u.2.2.2.2.2.2.2.2.2.2.2.2.2.2.1 u.2.2.2.2.2.2.2.2.2.2.2.2.2.2.2.1 u.2.2.2.2.2.2.2.2.2.2.2.2.2.2.2.2)) (va_A (w_X12_slot h0 h_row h_kept h_isKept h_aside h_eight h_rows h_scales h_dealt h_bytes h_heardRow h_made h_comes h_backs h_fresh cy c_thrown c_nodeS c_nodeD c_pairE c_pairO c_bit c_lag c_lagSum c_row c_eight c_rows c_bytes c_scales c_dealt c_heardRow c_made c_backs c_comes) sz)) 0 0 (va_A (w_X12_slot h0 h_row h_kept h_isKept h_aside h_eight h_rows h_scales h_dealt h_bytes h_heardRow h_made h_comes h_backs h_fresh cy c_thrown c_nodeS c_nodeD c_pairE c_pairO c_bit c_lag c_lagSum c_row c_eight c_rows c_bytes c_scales c_dealt c_heardRow c_made c_backs c_comes) sz) := by
  refine Met.ofW (cc := cX12_slot) (maxL := 2) (ret := none) (by decide) rfl ?_
  intro p e s m args below meth c s₁ B hml hv
  obtain ⟨rfl, hsz, hP, hK, hD0, hG⟩ := hv
  have hx := B.exec
  have hb := B.bytes
  have hr := B.returns
  have hts := atoms_spec (ws := wsX12_slot) B.pre
  have hown : s.vm.findClass RX12 = some m.cls := findClass_of_methodNamed B.named
  have hlocks := B.notSynchronized
  subst hsz
  have hD := hD0.self (sz := s.heap.size)
  generalize hAe : va_A (w_X12_slot h0 h_row h_kept h_isKept h_aside h_eight h_rows h_scales h_dealt h_bytes h_heardRow h_made h_comes h_backs h_fresh cy c_thrown c_nodeS c_nodeD c_pairE c_pairO c_bit c_lag c_lagSum c_row c_eight c_rows c_bytes c_scales c_dealt c_heardRow c_made c_backs c_comes) s.heap.size = A at hD ⊢
  have hA : ∀ q : Nat, s.heap.size ≤ q → A q := fun q h => by rw [← hAe]; exact Or.inr h
  have hS : va_S A s.heap s.heap [] := va_S.rf
  have hl := lv_entry ([.ref h0]) (n := 2) (Nat.le_of_ble_eq_true rfl)
  rw [lg_entry_eq]
  generalize (lg_sl ([.ref h0]) ++ List.replicate (2 - (lg_sl ([.ref h0])).length) Slot.unset).toArray = ls at hl ⊢
  replace hl : lv_has ls 2 [(0, .ref h0)] := hl
  have inX12 : ∀ w ∈ u_ws RX12 TX12 22, w ∈ wsX12_slot := fun w h => List.mem_cons_of_mem _ (inlX12 w h)
  clear hAe hD0 B
  unfold wp_X12_slot at hw
  generalize hQe : MQ below _ _ s _ _ _ = Q0
  generalize ([.ref h0] : List Value).toArray = av at *
  obtain ⟨H, hH⟩ : ∃ H, H = s.heap := ⟨_, rfl⟩
  obtain ⟨locs, hlo⟩ : ∃ L : List Loc, L = [] := ⟨_, rfl⟩
  replace hP : va_P (dC, dI) vwCl (w_X12_slot h0 h_row h_kept h_isKept h_aside h_eight h_rows h_scales h_dealt h_bytes h_heardRow h_made h_comes h_backs h_fresh cy c_thrown c_nodeS c_nodeD c_pairE c_pairO c_bit c_lag c_lagSum c_row c_eight c_rows c_bytes c_scales c_dealt c_heardRow c_made c_backs c_comes) H := by rw [hH]; exact hP
  replace hS : va_S A s.heap H locs := by rw [hH, hlo]; exact hS
  suffices hgo : W p l e ({ frames := 5, cells := 0, slots := 0, locals := 127 }) s m av below meth c H locs 0 0 Q0 (F0 m 0 ls []) by rw [hH, hlo] at hgo; exact hgo
  clear hH hlo
  refine lv_aload_n hx hb dX12_slot_0 rfl (lv_at hl 0 rfl) ?_
  refine va_get (D := (dC, dI)) (ci := 12) (v := .ref h_row) (C := RX12) (T := TX12) (N := 22) hx hb hts inX12 hown hK hP 0 rfl rfl 1 (by decide) (hts _ (List.mem_cons_of_mem _ mw_169)) (fun _ h9 => h9) rfl dX12_slot_1 ?_
  refine lv_bipush (v := 25) hx hb dX12_slot_4 (by decide) ?_
  refine xiald (k := 25) hx hb hK hP 1 0 rfl rfl (vpL 25 13385 rfl) (by decide) dX12_slot_6 ?_
  refine lv_topi (fun x2 e_x2 => ?_)
  replace hw := hw x2 e_x2
  clear e_x2
  refine lv_istore_n (lv' := [(1, .int x2), (0, .ref h0)]) hx hb dX12_slot_7 rfl hl (by decide) rfl ?_; clear hl; clear ls; intro ls hl
  refine lv_iload_n hx hb dX12_slot_8 rfl (lv_at hl 0 rfl) ?_
  refine lv_iconst (v := 4) hx hb dX12_slot_9 (by decide) ?_
  refine lv_irem hx hb dX12_slot_10 (by decide) ?_
  refine lv_topi (fun x3 e_x3 => ?_)
  replace hw := hw x3 e_x3
  clear e_x3
  refine jn9 (Gg := fun (x4 : Int32) (x5 : Int32) (x6 : Int32) (f7 : (Nat → Int32)) (f8 : (Nat → Int32)) (f9 : (Nat → Int32)) (f10 : (Nat → Int32)) (f11 : (Nat → Int32)) (f12 : (Nat → Int32)) => ∀ (H : Heap) (locs : List Loc) (ls : Array Slot), va_P (dC, dI) vwCl (w_X12_slot h0 h_row h_kept h_isKept h_aside h_eight h_rows h_scales h_dealt h_bytes h_heardRow h_made h_comes h_backs h_fresh cy c_thrown x4 x5 c_pairE c_pairO x6 c_lag c_lagSum f7 f8 f9 f10 f11 f12 c_heardRow c_made c_backs c_comes) H → va_D A (w_X12_slot h0 h_row h_kept h_isKept h_aside h_eight h_rows h_scales h_dealt h_bytes h_heardRow h_made h_comes h_backs h_fresh cy c_thrown x4 x5 c_pairE c_pairO x6 c_lag c_lagSum f7 f8 f9 f10 f11 f12 c_heardRow c_made c_backs c_comes) → va_S A s.heap H locs → lv_has ls 2 [(0, .ref h0), (1, .int x2)] → W p l e { frames := 5, cells := 0, slots := 0, locals := 127 } s m av below meth c H locs 0 0 Q0 (F0 m 21 ls [])) hw ?_ ?_ <;> clear hw
  · clear hP hD hS hl; clear H locs ls; intro x4 x5 x6 f7 f8 f9 f10 f11 f12 hw H locs ls hP hD hS hl
    replace hl := lv_sub (l' := [(0, .ref h0), (1, .int x2)]) hl [0, 1] rfl
    revert hl; revert hS; revert hD; revert hP; revert ls; revert locs; revert H
    revert hw; revert f7
    refine Lz1_gr ?_; intro g15 ih16 f17 hw
    intro H locs ls hP hD hS hl
    refine lv_aload_n hx hb dX12_slot_21 rfl (lv_at hl 0 rfl) ?_
    refine va_get (D := (dC, dI)) (ci := 12) (v := .ref h_row) (C := RX12) (T := TX12) (N := 22) hx hb hts inX12 hown hK hP 0 rfl rfl 1 (by decide) (hts _ (List.mem_cons_of_mem _ mw_169)) (fun _ h9 => h9) rfl dX12_slot_22 ?_
    refine lv_bipush (v := 51) hx hb dX12_slot_25 (by decide) ?_
    refine xiald (k := 51) hx hb hK hP 1 0 rfl rfl (vpL 51 13385 rfl) (by decide) dX12_slot_27 ?_
    refine jn0 (Gg := ∀ (H : Heap) (locs : List Loc) (ls : Array Slot), va_P (dC, dI) vwCl (w_X12_slot h0 h_row h_kept h_isKept h_aside h_eight h_rows h_scales h_dealt h_bytes h_heardRow h_made h_comes h_backs h_fresh cy c_thrown x4 x5 c_pairE c_pairO x6 c_lag c_lagSum f17 f8 f9 f10 f11 f12 c_heardRow c_made c_backs c_comes) H → va_D A (w_X12_slot h0 h_row h_kept h_isKept h_aside h_eight h_rows h_scales h_dealt h_bytes h_heardRow h_made h_comes h_backs h_fresh cy c_thrown x4 x5 c_pairE c_pairO x6 c_lag c_lagSum f17 f8 f9 f10 f11 f12 c_heardRow c_made c_backs c_comes) → va_S A s.heap H locs → lv_has ls 2 [(0, .ref h0)] → W p l e { frames := 5, cells := 0, slots := 0, locals := 127 } s m av below meth c H locs 0 0 Q0 (F0 m 89 ls [])) hw ?_ ?_ <;> clear hw
    · clear hP hD hS hl; clear H locs ls; intro  hw H locs ls hP hD hS hl
      clear ih16
      refine lv_aload_n hx hb dX12_slot_89 rfl (lv_at hl 0 rfl) ?_
      have hPc := pSub (ws' := (w_X12_sends h0 h_row h_kept h_isKept h_aside h_eight h_rows h_scales h_dealt h_bytes h_heardRow h_made h_comes h_backs h_fresh cy c_thrown x4 x5 c_pairE c_pairO x6 c_lag c_lagSum f17 f10)) hP [0, 1, 4] rfl
      have hDc := dSub (ws' := (w_X12_sends h0 h_row h_kept h_isKept h_aside h_eight h_rows h_scales h_dealt h_bytes h_heardRow h_made h_comes h_backs h_fresh cy c_thrown x4 x5 c_pairE c_pairO x6 c_lag c_lagSum f17 f10)) hD [0, 1, 4] (by decide) rfl
      have hFc := va_free (wc := (w_X12_sends h0 h_row h_kept h_isKept h_aside h_eight h_rows h_scales h_dealt h_bytes h_heardRow h_made h_comes h_backs h_fresh cy c_thrown x4 x5 c_pairE c_pairO x6 c_lag c_lagSum f17 f10)) hD hS hA [0, 1, 4] rfl
      refine va_callv (va_runV (As := []) (rest := []) ⟨hx, hb, hml, hown, hts⟩ (c_X12_sends l dC dI cy h0 h_row h_kept h_isKept h_aside h_eight h_rows h_scales h_dealt h_bytes h_heardRow h_made h_comes h_backs h_fresh H.size c_thrown x4 x5 c_pairE c_pairO x6 c_lag c_lagSum f17 f10 _ hw) (cwV 0 hts (goodV mw_700 mw_697 mw_698 mw_699 mw_5) rfl rfl rfl (by decide +kernel) ⟨Nat.le_of_ble_eq_true rfl, Nat.le_of_ble_eq_true rfl⟩) ⟨PX_blind, va_recv hK hPc (ci := 12) (q0 := 0) rfl rfl, PX_pre hPc hK hDc hG⟩ rfl rfl hl.1 rfl (lv_room (Nat.le_of_ble_eq_true rfl)) dX12_slot_90 ⟨Nat.zero_le _, Nat.zero_le _⟩) hS (fun q _ h => hFc q h) hFc ?_; clear hw hS; intro u t H1 locs1 ht hvm hw hB hz1 hk1 hS
      obtain ⟨f21, f22⟩ := u
      try dsimp only at hw
      obtain ⟨hP1, -, -⟩ := hB
      rw [ht] at hP1
      replace hP := jC0 hP hD [0, 1, 4] [2, 3, 5, 6, 7, 8, 9, 10] rfl hk1 hP1 (w_X12_slot h0 h_row h_kept h_isKept h_aside h_eight h_rows h_scales h_dealt h_bytes h_heardRow h_made h_comes h_backs h_fresh cy c_thrown x4 x5 c_pairE c_pairO x6 c_lag c_lagSum f21 f8 f9 f22 f11 f12 c_heardRow c_made c_backs c_comes) rfl rfl rfl 11 rfl (by decide +kernel); clear hD; obtain ⟨hP, hD⟩ := hP
      replace hP : va_P (dC, dI) vwCl (w_X12_slot h0 h_row h_kept h_isKept h_aside h_eight h_rows h_scales h_dealt h_bytes h_heardRow h_made h_comes h_backs h_fresh cy c_thrown x4 x5 c_pairE c_pairO x6 c_lag c_lagSum f21 f8 f9 f22 f11 f12 c_heardRow c_made c_backs c_comes) H1 := hP
      replace hD : va_D A (w_X12_slot h0 h_row h_kept h_isKept h_aside h_eight h_rows h_scales h_dealt h_bytes h_heardRow h_made h_comes h_backs h_fresh cy c_thrown x4 x5 c_pairE c_pairO x6 c_lag c_lagSum f21 f8 f9 f22 f11 f12 c_heardRow c_made c_backs c_comes) := hD
      clear hPc hDc hFc hP1 hk1 hz1 hvm ht; clear t; clear H locs; obtain ⟨H, hH⟩ : ∃ H, H = H1 := ⟨_, rfl⟩; obtain ⟨locs, hlo⟩ : ∃ L, L = locs1 := ⟨_, rfl⟩; subst hH; subst hlo
      refine W.widen (k := 0) (n := 0) (Nat.le_refl 0) (Nat.le_refl 0) ?_
      refine lv_aload_n hx hb dX12_slot_93 rfl (lv_at hl 0 rfl) ?_
      refine va_get (D := (dC, dI)) (ci := 12) (v := .ref h_row) (C := RX12) (T := TX12) (N := 22) hx hb hts inX12 hown hK hP 0 rfl rfl 1 (by decide) (hts _ (List.mem_cons_of_mem _ mw_169)) (fun _ h9 => h9) rfl dX12_slot_94 ?_
      refine lv_bipush (v := 31) hx hb dX12_slot_97 (by decide) ?_
      refine xiald (k := 31) hx hb hK hP 1 0 rfl rfl (vpL 31 13385 rfl) (by decide) dX12_slot_99 ?_
      refine jn1 (Gg := fun (f24 : (Nat → Int32)) => ∀ (H : Heap) (locs : List Loc) (ls : Array Slot), va_P (dC, dI) vwCl (w_X12_slot h0 h_row h_kept h_isKept h_aside h_eight h_rows h_scales h_dealt h_bytes h_heardRow h_made h_comes h_backs h_fresh cy c_thrown x4 x5 c_pairE c_pairO x6 c_lag c_lagSum f24 f8 f9 f22 f11 f12 c_heardRow c_made c_backs c_comes) H → va_D A (w_X12_slot h0 h_row h_kept h_isKept h_aside h_eight h_rows h_scales h_dealt h_bytes h_heardRow h_made h_comes h_backs h_fresh cy c_thrown x4 x5 c_pairE c_pairO x6 c_lag c_lagSum f24 f8 f9 f22 f11 f12 c_heardRow c_made c_backs c_comes) → va_S A s.heap H locs → lv_has ls 2 [(0, .ref h0)] → W p l e { frames := 5, cells := 0, slots := 0, locals := 127 } s m av below meth c H locs 0 0 Q0 (F0 m 125 ls [])) hw ?_ ?_ <;> clear hw
      · clear hP hD hS hl; clear H locs ls; intro f24 hw H locs ls hP hD hS hl
        refine lv_aload_n hx hb dX12_slot_125 rfl (lv_at hl 0 rfl) ?_
        refine va_get (D := (dC, dI)) (ci := 12) (v := .ref h_row) (C := RX12) (T := TX12) (N := 22) hx hb hts inX12 hown hK hP 0 rfl rfl 1 (by decide) (hts _ (List.mem_cons_of_mem _ mw_169)) (fun _ h9 => h9) rfl dX12_slot_126 ?_
        refine lv_bipush (v := 31) hx hb dX12_slot_129 (by decide) ?_
        refine xiald (k := 31) hx hb hK hP 1 0 rfl rfl (vpL 31 13385 rfl) (by decide) dX12_slot_131 ?_
        refine lv_iconst (v := 1) hx hb dX12_slot_132 (by decide) ?_
        refine jn15 (Gg := fun (x28 : Int32) (x29 : Int32) (x30 : Int32) (x31 : Int32) (x32 : Int32) (f33 : (Nat → Int32)) (f34 : (Nat → Int32)) (f35 : (Nat → Int32)) (f36 : (Nat → Int32)) (f37 : (Nat → Int32)) (f38 : (Nat → Int32)) (f39 : (Nat → Int32)) (f40 : (Nat → Int32)) (f41 : (Nat → Int32)) (f42 : (Nat → Int32)) => ∀ (H : Heap) (locs : List Loc) (ls : Array Slot), va_P (dC, dI) vwCl (w_X12_slot h0 h_row h_kept h_isKept h_aside h_eight h_rows h_scales h_dealt h_bytes h_heardRow h_made h_comes h_backs h_fresh cy c_thrown x4 x5 x28 x29 x30 x31 x32 f33 f34 f35 f36 f37 f38 f39 f40 f41 f42) H → va_D A (w_X12_slot h0 h_row h_kept h_isKept h_aside h_eight h_rows h_scales h_dealt h_bytes h_heardRow h_made h_comes h_backs h_fresh cy c_thrown x4 x5 x28 x29 x30 x31 x32 f33 f34 f35 f36 f37 f38 f39 f40 f41 f42) → va_S A s.heap H locs → lv_has ls 2 [(0, .ref h0)] → W p l e { frames := 5, cells := 0, slots := 0, locals := 127 } s m av below meth c H locs 0 0 Q0 (F0 m 198 ls [])) hw ?_ ?_ <;> clear hw
        · clear hP hD hS hl; clear H locs ls; intro x28 x29 x30 x31 x32 f33 f34 f35 f36 f37 f38 f39 f40 f41 f42 hw H locs ls hP hD hS hl
          refine lv_aload_n hx hb dX12_slot_198 rfl (lv_at hl 0 rfl) ?_
          refine va_get (D := (dC, dI)) (ci := 12) (v := .ref h_row) (C := RX12) (T := TX12) (N := 22) hx hb hts inX12 hown hK hP 0 rfl rfl 1 (by decide) (hts _ (List.mem_cons_of_mem _ mw_169)) (fun _ h9 => h9) rfl dX12_slot_199 ?_
          refine lv_bipush (v := 25) hx hb dX12_slot_202 (by decide) ?_
          refine lv_dup2_11 hx hb dX12_slot_204 rfl rfl ?_
          refine xiald (k := 25) hx hb hK hP 1 0 rfl rfl (vpL 25 13385 rfl) (by decide) dX12_slot_205 ?_
          refine lv_iconst (v := 1) hx hb dX12_slot_206 (by decide) ?_
          refine lv_iadd hx hb dX12_slot_207 ?_
          refine xiast (k := 25) hx hb hK hP hD hS 1 0 rfl rfl (vpL 25 13385 rfl) (by decide) dX12_slot_208 ?_; clear hP hD hS; clear H locs; intro f47 e_f47 H locs hP hD hS
          replace hw := hw f47 e_f47
          clear e_f47
          replace hP : va_P (dC, dI) vwCl (w_X12_slot h0 h_row h_kept h_isKept h_aside h_eight h_rows h_scales h_dealt h_bytes h_heardRow h_made h_comes h_backs h_fresh cy c_thrown x4 x5 x28 x29 x30 x31 x32 f47 f34 f35 f36 f37 f38 f39 f40 f41 f42) H := hP
          replace hD : va_D A (w_X12_slot h0 h_row h_kept h_isKept h_aside h_eight h_rows h_scales h_dealt h_bytes h_heardRow h_made h_comes h_backs h_fresh cy c_thrown x4 x5 x28 x29 x30 x31 x32 f47 f34 f35 f36 f37 f38 f39 f40 f41 f42) := hD
          subst hQe
          exact W.vret hx hb hr (fun t ht hW => ⟨⟨(x4, x5, x28, x29, x30, x31, x32, f47, f34, f35, f36, f37, f38, f39, f40, f41, f42), rfl, hw, by rw [ht]; exact hP, va_K.moved hW.alike hK, hD⟩, hS.F ht⟩) hS.2.2 dX12_slot_209
        · intro j44 hw
          refine lv_icmp_ne (tgt := 198) hx hb dX12_slot_133 (by decide) (fun c48 => ?_) (fun c48 => ?_)
          · replace hw := hw.2 c48; clear c48
            exact j44 c_pairE c_pairO x6 c_lag c_lagSum f24 f8 f9 f22 f11 f12 c_heardRow c_made c_backs c_comes hw H locs ls hP hD hS (lv_sub hl [0] rfl)
          · replace hw := hw.1 c48; clear c48
            refine lv_aload_n hx hb dX12_slot_136 rfl (lv_at hl 0 rfl) ?_
            refine va_get (D := (dC, dI)) (ci := 12) (v := .ref h_row) (C := RX12) (T := TX12) (N := 22) hx hb hts inX12 hown hK hP 0 rfl rfl 1 (by decide) (hts _ (List.mem_cons_of_mem _ mw_169)) (fun _ h9 => h9) rfl dX12_slot_137 ?_
            refine lv_bipush (v := 32) hx hb dX12_slot_140 (by decide) ?_
            refine lv_dup2_11 hx hb dX12_slot_142 rfl rfl ?_
            refine xiald (k := 32) hx hb hK hP 1 0 rfl rfl (vpL 32 13385 rfl) (by decide) dX12_slot_143 ?_
            refine lv_sipush (v := 1000) hx hb dX12_slot_144 (by decide) ?_
            refine lv_aload_n hx hb dX12_slot_147 rfl (lv_at hl 0 rfl) ?_
            refine va_get (D := (dC, dI)) (ci := 12) (v := .ref h_row) (C := RX12) (T := TX12) (N := 22) hx hb hts inX12 hown hK hP 0 rfl rfl 1 (by decide) (hts _ (List.mem_cons_of_mem _ mw_169)) (fun _ h9 => h9) rfl dX12_slot_148 ?_
            refine lv_bipush (v := 12) hx hb dX12_slot_151 (by decide) ?_
            refine xiald (k := 12) hx hb hK hP 1 0 rfl rfl (vpL 12 13385 rfl) (by decide) dX12_slot_153 ?_
            refine lv_iadd hx hb dX12_slot_154 ?_
            refine lv_aload_n hx hb dX12_slot_155 rfl (lv_at hl 0 rfl) ?_
            refine va_get (D := (dC, dI)) (ci := 12) (v := .ref h_row) (C := RX12) (T := TX12) (N := 22) hx hb hts inX12 hown hK hP 0 rfl rfl 1 (by decide) (hts _ (List.mem_cons_of_mem _ mw_169)) (fun _ h9 => h9) rfl dX12_slot_156 ?_
            refine lv_bipush (v := 33) hx hb dX12_slot_159 (by decide) ?_
            refine xiald (k := 33) hx hb hK hP 1 0 rfl rfl (vpL 33 13385 rfl) (by decide) dX12_slot_161 ?_
            refine lv_iadd hx hb dX12_slot_162 ?_
            refine lv_iadd hx hb dX12_slot_163 ?_
            refine xiast (k := 32) hx hb hK hP hD hS 1 0 rfl rfl (vpL 32 13385 rfl) (by decide) dX12_slot_164 ?_; clear hP hD hS; clear H locs; intro f53 e_f53 H locs hP hD hS
            replace hw := hw f53 e_f53
            clear e_f53
            replace hP : va_P (dC, dI) vwCl (w_X12_slot h0 h_row h_kept h_isKept h_aside h_eight h_rows h_scales h_dealt h_bytes h_heardRow h_made h_comes h_backs h_fresh cy c_thrown x4 x5 c_pairE c_pairO x6 c_lag c_lagSum f53 f8 f9 f22 f11 f12 c_heardRow c_made c_backs c_comes) H := hP
            replace hD : va_D A (w_X12_slot h0 h_row h_kept h_isKept h_aside h_eight h_rows h_scales h_dealt h_bytes h_heardRow h_made h_comes h_backs h_fresh cy c_thrown x4 x5 c_pairE c_pairO x6 c_lag c_lagSum f53 f8 f9 f22 f11 f12 c_heardRow c_made c_backs c_comes) := hD
            replace hl := lv_sub (l' := [(0, .ref h0)]) hl [0] rfl
            revert hl; revert hS; revert hD; revert hP; revert ls; revert locs; revert H
            revert hw; revert c_comes; revert c_backs; revert c_made; revert c_heardRow; revert f12; revert f11; revert f22; revert f9; revert f8; revert f53; revert c_lagSum; revert c_lag; revert x6; revert c_pairO; revert c_pairE
            refine Lz15_gr ?_; intro g54 ih55 x56 x57 x58 x59 x60 f61 f62 f63 f64 f65 f66 f67 f68 f69 f70 hw
            intro H locs ls hP hD hS hl
            refine lv_aload_n hx hb dX12_slot_165 rfl (lv_at hl 0 rfl) ?_
            refine va_get (D := (dC, dI)) (ci := 12) (v := .ref h_row) (C := RX12) (T := TX12) (N := 22) hx hb hts inX12 hown hK hP 0 rfl rfl 1 (by decide) (hts _ (List.mem_cons_of_mem _ mw_169)) (fun _ h9 => h9) rfl dX12_slot_166 ?_
            refine lv_bipush (v := 32) hx hb dX12_slot_169 (by decide) ?_
            refine xiald (k := 32) hx hb hK hP 1 0 rfl rfl (vpL 32 13385 rfl) (by decide) dX12_slot_171 ?_
            refine lv_sipush (v := 4000) hx hb dX12_slot_172 (by decide) ?_
            refine lv_icmp_lt (tgt := 198) hx hb dX12_slot_175 (by decide) (fun c72 => ?_) (fun c72 => ?_)
            · replace hw := hw.1 c72; clear c72
              exact j44 x56 x57 x58 x59 x60 f61 f62 f63 f64 f65 f66 f67 f68 f69 f70 hw H locs ls hP hD hS (lv_sub hl [0] rfl)
            · replace hw := hw.2 c72; clear c72
              refine lv_aload_n hx hb dX12_slot_178 rfl (lv_at hl 0 rfl) ?_
              refine va_get (D := (dC, dI)) (ci := 12) (v := .ref h_row) (C := RX12) (T := TX12) (N := 22) hx hb hts inX12 hown hK hP 0 rfl rfl 1 (by decide) (hts _ (List.mem_cons_of_mem _ mw_169)) (fun _ h9 => h9) rfl dX12_slot_179 ?_
              refine lv_bipush (v := 32) hx hb dX12_slot_182 (by decide) ?_
              refine lv_dup2_11 hx hb dX12_slot_184 rfl rfl ?_
              refine xiald (k := 32) hx hb hK hP 1 0 rfl rfl (vpL 32 13385 rfl) (by decide) dX12_slot_185 ?_
              refine lv_sipush (v := 4000) hx hb dX12_slot_186 (by decide) ?_
              refine lv_isub hx hb dX12_slot_189 ?_
              refine xiast (k := 32) hx hb hK hP hD hS 1 0 rfl rfl (vpL 32 13385 rfl) (by decide) dX12_slot_190 ?_; clear hP hD hS; clear H locs; intro f75 e_f75 H locs hP hD hS
              replace hw := hw f75 e_f75
              clear e_f75
              replace hP : va_P (dC, dI) vwCl (w_X12_slot h0 h_row h_kept h_isKept h_aside h_eight h_rows h_scales h_dealt h_bytes h_heardRow h_made h_comes h_backs h_fresh cy c_thrown x4 x5 x56 x57 x58 x59 x60 f75 f62 f63 f64 f65 f66 f67 f68 f69 f70) H := hP
              replace hD : va_D A (w_X12_slot h0 h_row h_kept h_isKept h_aside h_eight h_rows h_scales h_dealt h_bytes h_heardRow h_made h_comes h_backs h_fresh cy c_thrown x4 x5 x56 x57 x58 x59 x60 f75 f62 f63 f64 f65 f66 f67 f68 f69 f70) := hD
              refine lv_aload_n hx hb dX12_slot_191 rfl (lv_at hl 0 rfl) ?_
              have hPc := pSub (ws' := (w_X12_plays h0 h_row h_kept h_isKept h_aside h_eight h_rows h_scales h_dealt h_bytes h_heardRow h_made h_comes h_backs h_fresh cy c_thrown x4 x5 x56 x57 x58 x59 x60 f75 f67 f68 f64 f65 f66 f69 f62 f63 f70)) hP [0, 1, 7, 8, 4, 5, 6, 9, 2, 3, 10] rfl
              have hDc := dSub (ws' := (w_X12_plays h0 h_row h_kept h_isKept h_aside h_eight h_rows h_scales h_dealt h_bytes h_heardRow h_made h_comes h_backs h_fresh cy c_thrown x4 x5 x56 x57 x58 x59 x60 f75 f67 f68 f64 f65 f66 f69 f62 f63 f70)) hD [0, 1, 7, 8, 4, 5, 6, 9, 2, 3, 10] (by decide) rfl
              have hFc := va_free (wc := (w_X12_plays h0 h_row h_kept h_isKept h_aside h_eight h_rows h_scales h_dealt h_bytes h_heardRow h_made h_comes h_backs h_fresh cy c_thrown x4 x5 x56 x57 x58 x59 x60 f75 f67 f68 f64 f65 f66 f69 f62 f63 f70)) hD hS hA [0, 1, 7, 8, 4, 5, 6, 9, 2, 3, 10] rfl
              refine va_callv (va_runV (As := []) (rest := []) ⟨hx, hb, hml, hown, hts⟩ (c_X12_plays l dC dI cy h0 h_row h_kept h_isKept h_aside h_eight h_rows h_scales h_dealt h_bytes h_heardRow h_made h_comes h_backs h_fresh H.size c_thrown x4 x5 x56 x57 x58 x59 x60 f75 f67 f68 f64 f65 f66 f69 f62 f63 f70 _ hw) (cwV 0 hts (goodV mw_732 mw_729 mw_730 mw_731 mw_5) rfl rfl rfl (by decide +kernel) ⟨Nat.le_of_ble_eq_true rfl, Nat.le_of_ble_eq_true rfl⟩) ⟨PX_blind, va_recv hK hPc (ci := 12) (q0 := 0) rfl rfl, PX_pre hPc hK hDc hG⟩ rfl rfl hl.1 rfl (lv_room (Nat.le_of_ble_eq_true rfl)) dX12_slot_192 ⟨Nat.zero_le _, Nat.zero_le _⟩) hS (fun q _ h => hFc q h) hFc ?_; clear hw hS; intro u t H1 locs1 ht hvm hw hB hz1 hk1 hS
              obtain ⟨x76, x77, x78, x79, x80, f81, f82, f83, f84, f85, f86, f87, f88, f89, f90⟩ := u
              try dsimp only at hw
              obtain ⟨hP1, -, -⟩ := hB
              rw [ht] at hP1
              replace hP := jC0 hP hD [0, 1, 7, 8, 4, 5, 6, 9, 2, 3, 10] [] rfl hk1 hP1 (w_X12_slot h0 h_row h_kept h_isKept h_aside h_eight h_rows h_scales h_dealt h_bytes h_heardRow h_made h_comes h_backs h_fresh cy c_thrown x4 x5 x76 x77 x78 x79 x80 f81 f88 f89 f84 f85 f86 f82 f83 f87 f90) rfl rfl rfl 11 rfl (by decide +kernel); clear hD; obtain ⟨hP, hD⟩ := hP
              replace hP : va_P (dC, dI) vwCl (w_X12_slot h0 h_row h_kept h_isKept h_aside h_eight h_rows h_scales h_dealt h_bytes h_heardRow h_made h_comes h_backs h_fresh cy c_thrown x4 x5 x76 x77 x78 x79 x80 f81 f88 f89 f84 f85 f86 f82 f83 f87 f90) H1 := hP
              replace hD : va_D A (w_X12_slot h0 h_row h_kept h_isKept h_aside h_eight h_rows h_scales h_dealt h_bytes h_heardRow h_made h_comes h_backs h_fresh cy c_thrown x4 x5 x76 x77 x78 x79 x80 f81 f88 f89 f84 f85 f86 f82 f83 f87 f90) := hD
              clear hPc hDc hFc hP1 hk1 hz1 hvm ht; clear t; clear H locs; obtain ⟨H, hH⟩ : ∃ H, H = H1 := ⟨_, rfl⟩; obtain ⟨locs, hlo⟩ : ∃ L, L = locs1 := ⟨_, rfl⟩; subst hH; subst hlo
              refine W.widen (k := 0) (n := 0) (Nat.le_refl 0) (Nat.le_refl 0) ?_
              refine lv_goto (tgt := 165) hx hb dX12_slot_195 (by decide) ?_
              exact ih55 x76 x77 x78 x79 x80 f81 f88 f89 f84 f85 f86 f82 f83 f87 f90 hw H locs ls hP hD hS (lv_sub hl [0] rfl)
      · intro j26 hw
        refine lv_if_ne (tgt := 125) hx hb dX12_slot_100 (by decide) (fun c91 => ?_) (fun c91 => ?_)
        · replace hw := hw.2 c91; clear c91
          exact j26 f21 hw H locs ls hP hD hS (lv_sub hl [0] rfl)
        · replace hw := hw.1 c91; clear c91
          refine lv_aload_n hx hb dX12_slot_103 rfl (lv_at hl 0 rfl) ?_
          have hPc := pSub (ws' := (w_X12_level h0 h_row h_kept h_isKept h_aside h_eight h_rows h_scales h_dealt h_bytes h_heardRow h_made h_comes h_backs h_fresh cy c_thrown x4 x5 c_pairE c_pairO x6 c_lag c_lagSum f21)) hP [0, 1] rfl
          have hDc := dSub (ws' := (w_X12_level h0 h_row h_kept h_isKept h_aside h_eight h_rows h_scales h_dealt h_bytes h_heardRow h_made h_comes h_backs h_fresh cy c_thrown x4 x5 c_pairE c_pairO x6 c_lag c_lagSum f21)) hD [0, 1] (by decide) rfl
          have hFc := va_free (wc := (w_X12_level h0 h_row h_kept h_isKept h_aside h_eight h_rows h_scales h_dealt h_bytes h_heardRow h_made h_comes h_backs h_fresh cy c_thrown x4 x5 c_pairE c_pairO x6 c_lag c_lagSum f21)) hD hS hA [0, 1] rfl
          refine va_calli (va_runV (As := []) (rest := []) ⟨hx, hb, hml, hown, hts⟩ (c_X12_level l dC dI cy h0 h_row h_kept h_isKept h_aside h_eight h_rows h_scales h_dealt h_bytes h_heardRow h_made h_comes h_backs h_fresh H.size c_thrown x4 x5 c_pairE c_pairO x6 c_lag c_lagSum f21 _ hw) (cwV 0 hts (goodV mw_724 mw_721 mw_722 mw_723 mw_5) rfl rfl rfl (by decide +kernel) ⟨Nat.le_of_ble_eq_true rfl, Nat.le_of_ble_eq_true rfl⟩) ⟨PX_blind, va_recv hK hPc (ci := 12) (q0 := 0) rfl rfl, PX_pre hPc hK hDc hG⟩ rfl rfl hl.1 rfl (lv_room (Nat.le_of_ble_eq_true rfl)) dX12_slot_104 ⟨Nat.zero_le _, Nat.zero_le _⟩) hS (fun q _ h => hFc q h) hFc ?_; clear hw hS; intro r92 _ t H1 locs1 ht hvm hw hB hz1 hk1 hS
          obtain ⟨hP1, -, -⟩ := hB
          rw [ht] at hP1
          replace hP := jC0 hP hD [0, 1] [2, 3, 4, 5, 6, 7, 8, 9, 10] rfl hk1 hP1 (w_X12_slot h0 h_row h_kept h_isKept h_aside h_eight h_rows h_scales h_dealt h_bytes h_heardRow h_made h_comes h_backs h_fresh cy c_thrown x4 x5 c_pairE c_pairO x6 c_lag c_lagSum f21 f8 f9 f22 f11 f12 c_heardRow c_made c_backs c_comes) rfl rfl rfl 11 rfl (by decide +kernel); clear hD; obtain ⟨hP, hD⟩ := hP
          replace hP : va_P (dC, dI) vwCl (w_X12_slot h0 h_row h_kept h_isKept h_aside h_eight h_rows h_scales h_dealt h_bytes h_heardRow h_made h_comes h_backs h_fresh cy c_thrown x4 x5 c_pairE c_pairO x6 c_lag c_lagSum f21 f8 f9 f22 f11 f12 c_heardRow c_made c_backs c_comes) H1 := hP
          replace hD : va_D A (w_X12_slot h0 h_row h_kept h_isKept h_aside h_eight h_rows h_scales h_dealt h_bytes h_heardRow h_made h_comes h_backs h_fresh cy c_thrown x4 x5 c_pairE c_pairO x6 c_lag c_lagSum f21 f8 f9 f22 f11 f12 c_heardRow c_made c_backs c_comes) := hD
          clear hPc hDc hFc hP1 hk1 hz1 hvm ht; clear t; clear H locs; obtain ⟨H, hH⟩ : ∃ H, H = H1 := ⟨_, rfl⟩; obtain ⟨locs, hlo⟩ : ∃ L, L = locs1 := ⟨_, rfl⟩; subst hH; subst hlo
          refine W.widen (k := 0) (n := 0) (Nat.le_refl 0) (Nat.le_refl 0) ?_
          refine lv_aload_n hx hb dX12_slot_107 rfl (lv_at hl 0 rfl) ?_
          refine va_get (D := (dC, dI)) (ci := 12) (v := .ref h_row) (C := RX12) (T := TX12) (N := 22) hx hb hts inX12 hown hK hP 0 rfl rfl 1 (by decide) (hts _ (List.mem_cons_of_mem _ mw_169)) (fun _ h9 => h9) rfl dX12_slot_108 ?_
          refine lv_bipush (v := 13) hx hb dX12_slot_111 (by decide) ?_
          refine xiald (k := 13) hx hb hK hP 1 0 rfl rfl (vpL 13 13385 rfl) (by decide) dX12_slot_113 ?_
          refine lv_icmp_lt (tgt := 125) hx hb dX12_slot_114 (by decide) (fun c94 => ?_) (fun c94 => ?_)
          · replace hw := hw.1 c94; clear c94
            exact j26 f21 hw H locs ls hP hD hS (lv_sub hl [0] rfl)
          · replace hw := hw.2 c94; clear c94
            refine lv_aload_n hx hb dX12_slot_117 rfl (lv_at hl 0 rfl) ?_
            refine va_get (D := (dC, dI)) (ci := 12) (v := .ref h_row) (C := RX12) (T := TX12) (N := 22) hx hb hts inX12 hown hK hP 0 rfl rfl 1 (by decide) (hts _ (List.mem_cons_of_mem _ mw_169)) (fun _ h9 => h9) rfl dX12_slot_118 ?_
            refine lv_bipush (v := 31) hx hb dX12_slot_121 (by decide) ?_
            refine lv_iconst (v := 1) hx hb dX12_slot_123 (by decide) ?_
            refine xiast (k := 31) hx hb hK hP hD hS 1 0 rfl rfl (vpL 31 13385 rfl) (by decide) dX12_slot_124 ?_; clear hP hD hS; clear H locs; intro f96 e_f96 H locs hP hD hS
            replace hw := hw f96 e_f96
            clear e_f96
            replace hP : va_P (dC, dI) vwCl (w_X12_slot h0 h_row h_kept h_isKept h_aside h_eight h_rows h_scales h_dealt h_bytes h_heardRow h_made h_comes h_backs h_fresh cy c_thrown x4 x5 c_pairE c_pairO x6 c_lag c_lagSum f96 f8 f9 f22 f11 f12 c_heardRow c_made c_backs c_comes) H := hP
            replace hD : va_D A (w_X12_slot h0 h_row h_kept h_isKept h_aside h_eight h_rows h_scales h_dealt h_bytes h_heardRow h_made h_comes h_backs h_fresh cy c_thrown x4 x5 c_pairE c_pairO x6 c_lag c_lagSum f96 f8 f9 f22 f11 f12 c_heardRow c_made c_backs c_comes) := hD
            exact j26 f96 hw H locs ls hP hD hS (lv_sub hl [0] rfl)
    · intro j20 hw
      refine lv_if_le (tgt := 89) hx hb dX12_slot_28 (by decide) (fun c97 => ?_) (fun c97 => ?_)
      · replace hw := hw.1 c97; clear c97
        exact j20 hw H locs ls hP hD hS (lv_sub hl [0] rfl)
      · replace hw := hw.2 c97; clear c97
        refine lv_iconst (v := 4) hx hb dX12_slot_31 (by decide) ?_
        refine lv_aload_n hx hb dX12_slot_32 rfl (lv_at hl 0 rfl) ?_
        refine va_get (D := (dC, dI)) (ci := 12) (v := .ref h_row) (C := RX12) (T := TX12) (N := 22) hx hb hts inX12 hown hK hP 0 rfl rfl 1 (by decide) (hts _ (List.mem_cons_of_mem _ mw_169)) (fun _ h9 => h9) rfl dX12_slot_33 ?_
        refine lv_iconst (v := 0) hx hb dX12_slot_36 (by decide) ?_
        have hPc := pSub (ws' := (w_X12_lineAt cy)) hP [] rfl
        have hDc := dSub (ws' := (w_X12_lineAt cy)) hD [] (by decide) rfl
        have hFc := va_free (wc := (w_X12_lineAt cy)) hD hS hA [] rfl
        refine va_calli (va_runS (As := [.int (0 : Int32)]) (rest := [.ref h_row, .int (4 : Int32)]) ⟨hx, hb, hml, hown, hts⟩ (c_X12_lineAt l dC dI cy  H.size (0 : Int32) _ hw) (va_cwS 1 hts (goodS mw_681 mw_679 mw_680 mw_5) rfl rfl rfl (by decide +kernel) ⟨Nat.le_of_ble_eq_true rfl, Nat.le_of_ble_eq_true rfl⟩) ⟨PX_blind, PX_pre hPc hK hDc hG⟩ rfl rfl hl.1 rfl (lv_room (Nat.le_of_ble_eq_true rfl)) dX12_slot_37 ⟨Nat.zero_le _, Nat.zero_le _⟩) hS (fun q _ h => hFc q h) hFc ?_; clear hw hS; intro r98 _ t H1 locs1 ht hvm hw hB hz1 hk1 hS
        obtain ⟨hP1, -, -⟩ := hB
        rw [ht] at hP1
        replace hP := jC0 hP hD [] [0, 1, 2, 3, 4, 5, 6, 7, 8, 9, 10] rfl hk1 hP1 (w_X12_slot h0 h_row h_kept h_isKept h_aside h_eight h_rows h_scales h_dealt h_bytes h_heardRow h_made h_comes h_backs h_fresh cy c_thrown x4 x5 c_pairE c_pairO x6 c_lag c_lagSum f17 f8 f9 f10 f11 f12 c_heardRow c_made c_backs c_comes) rfl rfl rfl 11 rfl (by decide +kernel); clear hD; obtain ⟨hP, hD⟩ := hP
        replace hP : va_P (dC, dI) vwCl (w_X12_slot h0 h_row h_kept h_isKept h_aside h_eight h_rows h_scales h_dealt h_bytes h_heardRow h_made h_comes h_backs h_fresh cy c_thrown x4 x5 c_pairE c_pairO x6 c_lag c_lagSum f17 f8 f9 f10 f11 f12 c_heardRow c_made c_backs c_comes) H1 := hP
        replace hD : va_D A (w_X12_slot h0 h_row h_kept h_isKept h_aside h_eight h_rows h_scales h_dealt h_bytes h_heardRow h_made h_comes h_backs h_fresh cy c_thrown x4 x5 c_pairE c_pairO x6 c_lag c_lagSum f17 f8 f9 f10 f11 f12 c_heardRow c_made c_backs c_comes) := hD
        clear hPc hDc hFc hP1 hk1 hz1 hvm ht; clear t; clear H locs; obtain ⟨H, hH⟩ : ∃ H, H = H1 := ⟨_, rfl⟩; obtain ⟨locs, hlo⟩ : ∃ L, L = locs1 := ⟨_, rfl⟩; subst hH; subst hlo
        refine W.widen (k := 0) (n := 0) (Nat.le_refl 0) (Nat.le_refl 0) ?_
        refine lv_iconst (v := 0) hx hb dX12_slot_40 (by decide) ?_
        refine lv_iadd hx hb dX12_slot_41 ?_
        obtain ⟨h99, hw⟩ := hw
        refine xiald (k := (r98 + (0 : Int32)).toNatClampNeg) hx hb hK hP 1 0 rfl rfl h99 rfl dX12_slot_42 ?_
        refine lv_imul hx hb dX12_slot_43 ?_
        refine lv_aload_n hx hb dX12_slot_44 rfl (lv_at hl 0 rfl) ?_
        refine va_get (D := (dC, dI)) (ci := 12) (v := .ref h_row) (C := RX12) (T := TX12) (N := 22) hx hb hts inX12 hown hK hP 0 rfl rfl 1 (by decide) (hts _ (List.mem_cons_of_mem _ mw_169)) (fun _ h9 => h9) rfl dX12_slot_45 ?_
        refine lv_bipush (v := 10) hx hb dX12_slot_48 (by decide) ?_
        refine xiald (k := 10) hx hb hK hP 1 0 rfl rfl (vpL 10 13385 rfl) (by decide) dX12_slot_50 ?_
        refine lv_iadd hx hb dX12_slot_51 ?_
        refine lv_iload_n hx hb dX12_slot_52 rfl (lv_at hl 1 rfl) ?_
        refine lv_icmp_gt (tgt := 89) hx hb dX12_slot_53 (by decide) (fun c101 => ?_) (fun c101 => ?_)
        · replace hw := hw.1 c101; clear c101
          exact j20 hw H locs ls hP hD hS (lv_sub hl [0] rfl)
        · replace hw := hw.2 c101; clear c101
          refine lv_aload_n hx hb dX12_slot_56 rfl (lv_at hl 0 rfl) ?_
          refine lv_aload_n hx hb dX12_slot_57 rfl (lv_at hl 0 rfl) ?_
          refine va_get (D := (dC, dI)) (ci := 12) (v := .ref h_row) (C := RX12) (T := TX12) (N := 22) hx hb hts inX12 hown hK hP 0 rfl rfl 1 (by decide) (hts _ (List.mem_cons_of_mem _ mw_169)) (fun _ h9 => h9) rfl dX12_slot_58 ?_
          refine lv_iconst (v := 0) hx hb dX12_slot_61 (by decide) ?_
          have hPc := pSub (ws' := (w_X12_lineAt cy)) hP [] rfl
          have hDc := dSub (ws' := (w_X12_lineAt cy)) hD [] (by decide) rfl
          have hFc := va_free (wc := (w_X12_lineAt cy)) hD hS hA [] rfl
          refine va_calli (va_runS (As := [.int (0 : Int32)]) (rest := [.ref h_row, .ref h0]) ⟨hx, hb, hml, hown, hts⟩ (c_X12_lineAt l dC dI cy  H.size (0 : Int32) _ hw) (va_cwS 1 hts (goodS mw_681 mw_679 mw_680 mw_5) rfl rfl rfl (by decide +kernel) ⟨Nat.le_of_ble_eq_true rfl, Nat.le_of_ble_eq_true rfl⟩) ⟨PX_blind, PX_pre hPc hK hDc hG⟩ rfl rfl hl.1 rfl (lv_room (Nat.le_of_ble_eq_true rfl)) dX12_slot_62 ⟨Nat.zero_le _, Nat.zero_le _⟩) hS (fun q _ h => hFc q h) hFc ?_; clear hw hS; intro r102 _ t H1 locs1 ht hvm hw hB hz1 hk1 hS
          obtain ⟨hP1, -, -⟩ := hB
          rw [ht] at hP1
          replace hP := jC0 hP hD [] [0, 1, 2, 3, 4, 5, 6, 7, 8, 9, 10] rfl hk1 hP1 (w_X12_slot h0 h_row h_kept h_isKept h_aside h_eight h_rows h_scales h_dealt h_bytes h_heardRow h_made h_comes h_backs h_fresh cy c_thrown x4 x5 c_pairE c_pairO x6 c_lag c_lagSum f17 f8 f9 f10 f11 f12 c_heardRow c_made c_backs c_comes) rfl rfl rfl 11 rfl (by decide +kernel); clear hD; obtain ⟨hP, hD⟩ := hP
          replace hP : va_P (dC, dI) vwCl (w_X12_slot h0 h_row h_kept h_isKept h_aside h_eight h_rows h_scales h_dealt h_bytes h_heardRow h_made h_comes h_backs h_fresh cy c_thrown x4 x5 c_pairE c_pairO x6 c_lag c_lagSum f17 f8 f9 f10 f11 f12 c_heardRow c_made c_backs c_comes) H1 := hP
          replace hD : va_D A (w_X12_slot h0 h_row h_kept h_isKept h_aside h_eight h_rows h_scales h_dealt h_bytes h_heardRow h_made h_comes h_backs h_fresh cy c_thrown x4 x5 c_pairE c_pairO x6 c_lag c_lagSum f17 f8 f9 f10 f11 f12 c_heardRow c_made c_backs c_comes) := hD
          clear hPc hDc hFc hP1 hk1 hz1 hvm ht; clear t; clear H locs; obtain ⟨H, hH⟩ : ∃ H, H = H1 := ⟨_, rfl⟩; obtain ⟨locs, hlo⟩ : ∃ L, L = locs1 := ⟨_, rfl⟩; subst hH; subst hlo
          refine W.widen (k := 0) (n := 0) (Nat.le_refl 0) (Nat.le_refl 0) ?_
          refine lv_iconst (v := 0) hx hb dX12_slot_65 (by decide) ?_
          refine lv_iadd hx hb dX12_slot_66 ?_
          obtain ⟨h103, hw⟩ := hw
          refine xiald (k := (r102 + (0 : Int32)).toNatClampNeg) hx hb hK hP 1 0 rfl rfl h103 rfl dX12_slot_67 ?_
          have hPc := pSub (ws' := (w_X12_givesUp h0 h_row h_kept h_isKept h_aside h_eight h_rows h_scales h_dealt h_bytes h_heardRow h_made h_comes h_backs h_fresh cy c_thrown x4 x5 c_pairE c_pairO x6 c_lag c_lagSum f17)) hP [0, 1] rfl
          have hDc := dSub (ws' := (w_X12_givesUp h0 h_row h_kept h_isKept h_aside h_eight h_rows h_scales h_dealt h_bytes h_heardRow h_made h_comes h_backs h_fresh cy c_thrown x4 x5 c_pairE c_pairO x6 c_lag c_lagSum f17)) hD [0, 1] (by decide) rfl
          have hFc := va_free (wc := (w_X12_givesUp h0 h_row h_kept h_isKept h_aside h_eight h_rows h_scales h_dealt h_bytes h_heardRow h_made h_comes h_backs h_fresh cy c_thrown x4 x5 c_pairE c_pairO x6 c_lag c_lagSum f17)) hD hS hA [0, 1] rfl
          refine va_callv (va_runV (As := [.int (f17 (r102 + (0 : Int32)).toNatClampNeg)]) (rest := []) ⟨hx, hb, hml, hown, hts⟩ (c_X12_givesUp l dC dI cy h0 h_row h_kept h_isKept h_aside h_eight h_rows h_scales h_dealt h_bytes h_heardRow h_made h_comes h_backs h_fresh H.size (f17 (r102 + (0 : Int32)).toNatClampNeg) c_thrown x4 x5 c_pairE c_pairO x6 c_lag c_lagSum f17 _ hw) (cwV 1 hts (goodV mw_692 mw_689 mw_690 mw_691 mw_5) rfl rfl rfl (by decide +kernel) ⟨Nat.le_of_ble_eq_true rfl, Nat.le_of_ble_eq_true rfl⟩) ⟨PX_blind, va_recv hK hPc (ci := 12) (q0 := 0) rfl rfl, PX_pre hPc hK hDc hG⟩ rfl rfl hl.1 rfl (lv_room (Nat.le_of_ble_eq_true rfl)) dX12_slot_68 ⟨Nat.zero_le _, Nat.zero_le _⟩) hS (fun q _ h => hFc q h) hFc ?_; clear hw hS; intro f104 t H1 locs1 ht hvm hw hB hz1 hk1 hS
          obtain ⟨hP1, -, -⟩ := hB
          rw [ht] at hP1
          replace hP := jC0 hP hD [0, 1] [2, 3, 4, 5, 6, 7, 8, 9, 10] rfl hk1 hP1 (w_X12_slot h0 h_row h_kept h_isKept h_aside h_eight h_rows h_scales h_dealt h_bytes h_heardRow h_made h_comes h_backs h_fresh cy c_thrown x4 x5 c_pairE c_pairO x6 c_lag c_lagSum f104 f8 f9 f10 f11 f12 c_heardRow c_made c_backs c_comes) rfl rfl rfl 11 rfl (by decide +kernel); clear hD; obtain ⟨hP, hD⟩ := hP
          replace hP : va_P (dC, dI) vwCl (w_X12_slot h0 h_row h_kept h_isKept h_aside h_eight h_rows h_scales h_dealt h_bytes h_heardRow h_made h_comes h_backs h_fresh cy c_thrown x4 x5 c_pairE c_pairO x6 c_lag c_lagSum f104 f8 f9 f10 f11 f12 c_heardRow c_made c_backs c_comes) H1 := hP
          replace hD : va_D A (w_X12_slot h0 h_row h_kept h_isKept h_aside h_eight h_rows h_scales h_dealt h_bytes h_heardRow h_made h_comes h_backs h_fresh cy c_thrown x4 x5 c_pairE c_pairO x6 c_lag c_lagSum f104 f8 f9 f10 f11 f12 c_heardRow c_made c_backs c_comes) := hD
          clear hPc hDc hFc hP1 hk1 hz1 hvm ht; clear t; clear H locs; obtain ⟨H, hH⟩ : ∃ H, H = H1 := ⟨_, rfl⟩; obtain ⟨locs, hlo⟩ : ∃ L, L = locs1 := ⟨_, rfl⟩; subst hH; subst hlo
          refine W.widen (k := 0) (n := 0) (Nat.le_refl 0) (Nat.le_refl 0) ?_
          refine lv_aload_n hx hb dX12_slot_71 rfl (lv_at hl 0 rfl) ?_
          refine va_get (D := (dC, dI)) (ci := 12) (v := .ref h_row) (C := RX12) (T := TX12) (N := 22) hx hb hts inX12 hown hK hP 0 rfl rfl 1 (by decide) (hts _ (List.mem_cons_of_mem _ mw_169)) (fun _ h9 => h9) rfl dX12_slot_72 ?_
          refine lv_bipush (v := 50) hx hb dX12_slot_75 (by decide) ?_
          refine lv_dup2_11 hx hb dX12_slot_77 rfl rfl ?_
          refine xiald (k := 50) hx hb hK hP 1 0 rfl rfl (vpL 50 13385 rfl) (by decide) dX12_slot_78 ?_
          refine lv_iconst (v := 1) hx hb dX12_slot_79 (by decide) ?_
          refine lv_iadd hx hb dX12_slot_80 ?_
          refine xiast (k := 50) hx hb hK hP hD hS 1 0 rfl rfl (vpL 50 13385 rfl) (by decide) dX12_slot_81 ?_; clear hP hD hS; clear H locs; intro f107 e_f107 H locs hP hD hS
          replace hw := hw f107 e_f107
          clear e_f107
          replace hP : va_P (dC, dI) vwCl (w_X12_slot h0 h_row h_kept h_isKept h_aside h_eight h_rows h_scales h_dealt h_bytes h_heardRow h_made h_comes h_backs h_fresh cy c_thrown x4 x5 c_pairE c_pairO x6 c_lag c_lagSum f107 f8 f9 f10 f11 f12 c_heardRow c_made c_backs c_comes) H := hP
          replace hD : va_D A (w_X12_slot h0 h_row h_kept h_isKept h_aside h_eight h_rows h_scales h_dealt h_bytes h_heardRow h_made h_comes h_backs h_fresh cy c_thrown x4 x5 c_pairE c_pairO x6 c_lag c_lagSum f107 f8 f9 f10 f11 f12 c_heardRow c_made c_backs c_comes) := hD
          refine lv_aload_n hx hb dX12_slot_82 rfl (lv_at hl 0 rfl) ?_
          have hPc := pSub (ws' := (w_X12_dropFirst h0 h_row h_kept h_isKept h_aside h_eight h_rows h_scales h_dealt h_bytes h_heardRow h_made h_comes h_backs h_fresh cy c_thrown x4 x5 c_pairE c_pairO x6 c_lag c_lagSum f107)) hP [0, 1] rfl
          have hDc := dSub (ws' := (w_X12_dropFirst h0 h_row h_kept h_isKept h_aside h_eight h_rows h_scales h_dealt h_bytes h_heardRow h_made h_comes h_backs h_fresh cy c_thrown x4 x5 c_pairE c_pairO x6 c_lag c_lagSum f107)) hD [0, 1] (by decide) rfl
          have hFc := va_free (wc := (w_X12_dropFirst h0 h_row h_kept h_isKept h_aside h_eight h_rows h_scales h_dealt h_bytes h_heardRow h_made h_comes h_backs h_fresh cy c_thrown x4 x5 c_pairE c_pairO x6 c_lag c_lagSum f107)) hD hS hA [0, 1] rfl
          refine va_callv (va_runV (As := []) (rest := []) ⟨hx, hb, hml, hown, hts⟩ (c_X12_dropFirst l dC dI cy h0 h_row h_kept h_isKept h_aside h_eight h_rows h_scales h_dealt h_bytes h_heardRow h_made h_comes h_backs h_fresh H.size c_thrown x4 x5 c_pairE c_pairO x6 c_lag c_lagSum f107 _ hw) (cwV 0 hts (goodV mw_696 mw_693 mw_694 mw_695 mw_5) rfl rfl rfl (by decide +kernel) ⟨Nat.le_of_ble_eq_true rfl, Nat.le_of_ble_eq_true rfl⟩) ⟨PX_blind, va_recv hK hPc (ci := 12) (q0 := 0) rfl rfl, PX_pre hPc hK hDc hG⟩ rfl rfl hl.1 rfl (lv_room (Nat.le_of_ble_eq_true rfl)) dX12_slot_83 ⟨Nat.zero_le _, Nat.zero_le _⟩) hS (fun q _ h => hFc q h) hFc ?_; clear hw hS; intro f108 t H1 locs1 ht hvm hw hB hz1 hk1 hS
          obtain ⟨hP1, -, -⟩ := hB
          rw [ht] at hP1
          replace hP := jC0 hP hD [0, 1] [2, 3, 4, 5, 6, 7, 8, 9, 10] rfl hk1 hP1 (w_X12_slot h0 h_row h_kept h_isKept h_aside h_eight h_rows h_scales h_dealt h_bytes h_heardRow h_made h_comes h_backs h_fresh cy c_thrown x4 x5 c_pairE c_pairO x6 c_lag c_lagSum f108 f8 f9 f10 f11 f12 c_heardRow c_made c_backs c_comes) rfl rfl rfl 11 rfl (by decide +kernel); clear hD; obtain ⟨hP, hD⟩ := hP
          replace hP : va_P (dC, dI) vwCl (w_X12_slot h0 h_row h_kept h_isKept h_aside h_eight h_rows h_scales h_dealt h_bytes h_heardRow h_made h_comes h_backs h_fresh cy c_thrown x4 x5 c_pairE c_pairO x6 c_lag c_lagSum f108 f8 f9 f10 f11 f12 c_heardRow c_made c_backs c_comes) H1 := hP
          replace hD : va_D A (w_X12_slot h0 h_row h_kept h_isKept h_aside h_eight h_rows h_scales h_dealt h_bytes h_heardRow h_made h_comes h_backs h_fresh cy c_thrown x4 x5 c_pairE c_pairO x6 c_lag c_lagSum f108 f8 f9 f10 f11 f12 c_heardRow c_made c_backs c_comes) := hD
          clear hPc hDc hFc hP1 hk1 hz1 hvm ht; clear t; clear H locs; obtain ⟨H, hH⟩ : ∃ H, H = H1 := ⟨_, rfl⟩; obtain ⟨locs, hlo⟩ : ∃ L, L = locs1 := ⟨_, rfl⟩; subst hH; subst hlo
          refine W.widen (k := 0) (n := 0) (Nat.le_refl 0) (Nat.le_refl 0) ?_
          refine lv_goto (tgt := 21) hx hb dX12_slot_86 (by decide) ?_
          exact ih16 f108 hw H locs ls hP hD hS (lv_sub hl [0, 1] rfl)
  · intro j14 hw
    refine lv_if_ne (tgt := 21) hx hb dX12_slot_11 (by decide) (fun c109 => ?_) (fun c109 => ?_)
    · replace hw := hw.2 c109; clear c109
      exact j14 c_nodeS c_nodeD c_bit c_row c_eight c_rows c_bytes c_scales c_dealt hw H locs ls hP hD hS (lv_sub hl [1, 0] rfl)
    · replace hw := hw.1 c109; clear c109
      refine lv_aload_n hx hb dX12_slot_14 rfl (lv_at hl 1 rfl) ?_
      refine lv_iload_n hx hb dX12_slot_15 rfl (lv_at hl 0 rfl) ?_
      refine lv_iconst (v := 4) hx hb dX12_slot_16 (by decide) ?_
      refine lv_idiv hx hb dX12_slot_17 (by decide) ?_
      refine lv_topi (fun x110 e_x110 => ?_)
      replace hw := hw x110 e_x110
      clear e_x110
      have hPc := pSub (ws' := (w_X12_codeFrame h0 h_row h_kept h_isKept h_aside h_eight h_rows h_scales h_dealt h_bytes h_heardRow h_made h_comes h_backs h_fresh cy c_thrown c_nodeS c_nodeD c_pairE c_pairO c_bit c_lag c_lagSum c_row c_eight c_rows c_bytes c_scales c_dealt)) hP [0, 1, 2, 3, 4, 5, 6] rfl
      have hDc := dSub (ws' := (w_X12_codeFrame h0 h_row h_kept h_isKept h_aside h_eight h_rows h_scales h_dealt h_bytes h_heardRow h_made h_comes h_backs h_fresh cy c_thrown c_nodeS c_nodeD c_pairE c_pairO c_bit c_lag c_lagSum c_row c_eight c_rows c_bytes c_scales c_dealt)) hD [0, 1, 2, 3, 4, 5, 6] (by decide) rfl
      have hFc := va_free (wc := (w_X12_codeFrame h0 h_row h_kept h_isKept h_aside h_eight h_rows h_scales h_dealt h_bytes h_heardRow h_made h_comes h_backs h_fresh cy c_thrown c_nodeS c_nodeD c_pairE c_pairO c_bit c_lag c_lagSum c_row c_eight c_rows c_bytes c_scales c_dealt)) hD hS hA [0, 1, 2, 3, 4, 5, 6] rfl
      refine va_callv (va_runV (As := [.int x110]) (rest := []) ⟨hx, hb, hml, hown, hts⟩ (c_X12_codeFrame l dC dI cy h0 h_row h_kept h_isKept h_aside h_eight h_rows h_scales h_dealt h_bytes h_heardRow h_made h_comes h_backs h_fresh H.size x110 c_thrown c_nodeS c_nodeD c_pairE c_pairO c_bit c_lag c_lagSum c_row c_eight c_rows c_bytes c_scales c_dealt _ hw) (cwV 1 hts (goodV mw_600 mw_597 mw_598 mw_599 mw_5) rfl rfl rfl (by decide +kernel) ⟨Nat.le_of_ble_eq_true rfl, Nat.le_of_ble_eq_true rfl⟩) ⟨PX_blind, va_recv hK hPc (ci := 12) (q0 := 0) rfl rfl, PX_pre hPc hK hDc hG⟩ rfl rfl hl.1 rfl (lv_room (Nat.le_of_ble_eq_true rfl)) dX12_slot_18 ⟨Nat.zero_le _, Nat.zero_le _⟩) hS (fun q _ h => hFc q h) hFc ?_; clear hw hS; intro u t H1 locs1 ht hvm hw hB hz1 hk1 hS
      obtain ⟨x111, x112, x113, f114, f115, f116, f117, f118, f119⟩ := u
      try dsimp only at hw
      obtain ⟨hP1, -, -⟩ := hB
      rw [ht] at hP1
      replace hP := jC0 hP hD [0, 1, 2, 3, 4, 5, 6] [7, 8, 9, 10] rfl hk1 hP1 (w_X12_slot h0 h_row h_kept h_isKept h_aside h_eight h_rows h_scales h_dealt h_bytes h_heardRow h_made h_comes h_backs h_fresh cy c_thrown x111 x112 c_pairE c_pairO x113 c_lag c_lagSum f114 f115 f116 f117 f118 f119 c_heardRow c_made c_backs c_comes) rfl rfl rfl 11 rfl (by decide +kernel); clear hD; obtain ⟨hP, hD⟩ := hP
      replace hP : va_P (dC, dI) vwCl (w_X12_slot h0 h_row h_kept h_isKept h_aside h_eight h_rows h_scales h_dealt h_bytes h_heardRow h_made h_comes h_backs h_fresh cy c_thrown x111 x112 c_pairE c_pairO x113 c_lag c_lagSum f114 f115 f116 f117 f118 f119 c_heardRow c_made c_backs c_comes) H1 := hP
      replace hD : va_D A (w_X12_slot h0 h_row h_kept h_isKept h_aside h_eight h_rows h_scales h_dealt h_bytes h_heardRow h_made h_comes h_backs h_fresh cy c_thrown x111 x112 c_pairE c_pairO x113 c_lag c_lagSum f114 f115 f116 f117 f118 f119 c_heardRow c_made c_backs c_comes) := hD
      clear hPc hDc hFc hP1 hk1 hz1 hvm ht; clear t; clear H locs; obtain ⟨H, hH⟩ : ∃ H, H = H1 := ⟨_, rfl⟩; obtain ⟨locs, hlo⟩ : ∃ L, L = locs1 := ⟨_, rfl⟩; subst hH; subst hlo
      refine W.widen (k := 0) (n := 0) (Nat.le_refl 0) (Nat.le_refl 0) ?_
      exact j14 x111 x112 x113 f114 f115 f116 f117 f118 f119 hw H locs ls hP hD hS (lv_sub hl [1, 0] rfl)
set_option maxHeartbeats 4000000 in
set_option maxRecDepth 100000 in
theorem c_X12_played (l : Launch) (dC : Nat → ClassId) (dI : Nat → Nat → Nat) (cy : Nat → ClassId) (h0 h_row h_kept h_isKept h_aside h_eight h_rows h_scales h_dealt h_bytes h_heardRow h_made h_comes h_backs h_fresh : Nat) (sz : Nat) (c_thrown : Int32) (c_nodeS : Int32) (c_nodeD : Int32) (c_pairE : Int32) (c_pairO : Int32) (c_bit : Int32) (c_lag : Int32) (c_lagSum : Int32) (c_row : Nat → Int32) (post : Int32 → Prop) (hw : wp_X12_played c_row post) : Met l yX12_played wsX12_played ({ frames := 0, cells := 0, slots := 0, locals := 0 }) (PX dC dI cy [.ref h0] sz (w_X12_played h0 h_row h_kept h_isKept h_aside h_eight h_rows h_scales h_dealt h_bytes h_heardRow h_made h_comes h_backs h_fresh cy c_thrown c_nodeS c_nodeD c_pairE c_pairO c_bit c_lag c_lagSum c_row)) (va_Qi (fun (r : Int32) (u : Unit) => post r) (QX dC dI cy (va_A (w_X12_played h0 h_row h_kept h_isKept h_aside h_eight h_rows h_scales h_dealt h_bytes h_heardRow h_made h_comes h_backs h_fresh cy c_thrown c_nodeS c_nodeD c_pairE c_pairO c_bit c_lag c_lagSum c_row) sz) (fun (u : Unit) => w_X12_played h0 h_row h_kept h_isKept h_aside h_eight h_rows h_scales h_dealt h_bytes h_heardRow h_made h_comes h_backs h_fresh cy c_thrown c_nodeS c_nodeD c_pairE c_pairO c_bit c_lag c_lagSum c_row)) (va_A (w_X12_played h0 h_row h_kept h_isKept h_aside h_eight h_rows h_scales h_dealt h_bytes h_heardRow h_made h_comes h_backs h_fresh cy c_thrown c_nodeS c_nodeD c_pairE c_pairO c_bit c_lag c_lagSum c_row) sz)) 0 0 (va_A (w_X12_played h0 h_row h_kept h_isKept h_aside h_eight h_rows h_scales h_dealt h_bytes h_heardRow h_made h_comes h_backs h_fresh cy c_thrown c_nodeS c_nodeD c_pairE c_pairO c_bit c_lag c_lagSum c_row) sz) := by
  refine Met.ofW (cc := cX12_played) (maxL := 1) (ret := (some .int)) (by decide) rfl ?_
  intro p e s m args below meth c s₁ B hml hv
  obtain ⟨rfl, hsz, hP, hK, hD0, hG⟩ := hv
  have hx := B.exec
  have hb := B.bytes
  have hr := B.returns
  have hts := atoms_spec (ws := wsX12_played) B.pre
  have hown : s.vm.findClass RX12 = some m.cls := findClass_of_methodNamed B.named
  have hlocks := B.notSynchronized
  subst hsz
  have hD := hD0.self (sz := s.heap.size)
  generalize hAe : va_A (w_X12_played h0 h_row h_kept h_isKept h_aside h_eight h_rows h_scales h_dealt h_bytes h_heardRow h_made h_comes h_backs h_fresh cy c_thrown c_nodeS c_nodeD c_pairE c_pairO c_bit c_lag c_lagSum c_row) s.heap.size = A at hD ⊢
  have hA : ∀ q : Nat, s.heap.size ≤ q → A q := fun q h => by rw [← hAe]; exact Or.inr h
  have hS : va_S A s.heap s.heap [] := va_S.rf
  have hl := lv_entry ([.ref h0]) (n := 1) (Nat.le_of_ble_eq_true rfl)
  rw [lg_entry_eq]
  generalize (lg_sl ([.ref h0]) ++ List.replicate (1 - (lg_sl ([.ref h0])).length) Slot.unset).toArray = ls at hl ⊢
  replace hl : lv_has ls 1 [(0, .ref h0)] := hl
  have inX12 : ∀ w ∈ u_ws RX12 TX12 22, w ∈ wsX12_played := fun w h => List.mem_cons_of_mem _ (inlX12 w h)
  clear hAe hD0 B
  unfold wp_X12_played at hw
  generalize hQe : MQ below _ _ s _ _ _ = Q0
  generalize ([.ref h0] : List Value).toArray = av at *
  obtain ⟨H, hH⟩ : ∃ H, H = s.heap := ⟨_, rfl⟩
  obtain ⟨locs, hlo⟩ : ∃ L : List Loc, L = [] := ⟨_, rfl⟩
  replace hP : va_P (dC, dI) vwCl (w_X12_played h0 h_row h_kept h_isKept h_aside h_eight h_rows h_scales h_dealt h_bytes h_heardRow h_made h_comes h_backs h_fresh cy c_thrown c_nodeS c_nodeD c_pairE c_pairO c_bit c_lag c_lagSum c_row) H := by rw [hH]; exact hP
  replace hS : va_S A s.heap H locs := by rw [hH, hlo]; exact hS
  suffices hgo : W p l e ({ frames := 0, cells := 0, slots := 0, locals := 0 }) s m av below meth c H locs 0 0 Q0 (F0 m 0 ls []) by rw [hH, hlo] at hgo; exact hgo
  clear hH hlo
  refine lv_aload_n hx hb dX12_played_0 rfl (lv_at hl 0 rfl) ?_
  refine va_get (D := (dC, dI)) (ci := 12) (v := .ref h_row) (C := RX12) (T := TX12) (N := 22) hx hb hts inX12 hown hK hP 0 rfl rfl 1 (by decide) (hts _ (List.mem_cons_of_mem _ mw_169)) (fun _ h9 => h9) rfl dX12_played_1 ?_
  refine lv_bipush (v := 36) hx hb dX12_played_4 (by decide) ?_
  refine xiald (k := 36) hx hb hK hP 1 0 rfl rfl (vpL 36 13385 rfl) (by decide) dX12_played_6 ?_
  refine lv_aload_n hx hb dX12_played_7 rfl (lv_at hl 0 rfl) ?_
  refine va_get (D := (dC, dI)) (ci := 12) (v := .ref h_row) (C := RX12) (T := TX12) (N := 22) hx hb hts inX12 hown hK hP 0 rfl rfl 1 (by decide) (hts _ (List.mem_cons_of_mem _ mw_169)) (fun _ h9 => h9) rfl dX12_played_8 ?_
  refine lv_bipush (v := 37) hx hb dX12_played_11 (by decide) ?_
  refine xiald (k := 37) hx hb hK hP 1 0 rfl rfl (vpL 37 13385 rfl) (by decide) dX12_played_13 ?_
  refine lv_iadd hx hb dX12_played_14 ?_
  subst hQe
  exact W.iret (v := (c_row 36) + (c_row 37)) hx hb hr (fun t ht hW => ⟨⟨((c_row 36) + (c_row 37)), (), rfl, hw, by rw [ht]; exact hP, va_K.moved hW.alike hK, hD⟩, hS.F ht⟩) hS.2.2 dX12_played_15
set_option maxHeartbeats 4000000 in
set_option maxRecDepth 100000 in
theorem c_X12_run (l : Launch) (dC : Nat → ClassId) (dI : Nat → Nat → Nat) (cy : Nat → ClassId) (h0 h_row h_kept h_isKept h_aside h_eight h_rows h_scales h_dealt h_bytes h_heardRow h_made h_comes h_backs h_fresh : Nat) (sz : Nat) (v1 : Int32) (c_thrown : Int32) (c_nodeS : Int32) (c_nodeD : Int32) (c_pairE : Int32) (c_pairO : Int32) (c_bit : Int32) (c_lag : Int32) (c_lagSum : Int32) (c_row : Nat → Int32) (c_eight : Nat → Int32) (c_rows : Nat → Int32) (c_bytes : Nat → Int32) (c_scales : Nat → Int32) (c_dealt : Nat → Int32) (c_heardRow : Nat → Int32) (c_made : Nat → Int32) (c_backs : Nat → Int32) (c_comes : Nat → Int32) (post : Int32 → Int32 → Int32 → Int32 → Int32 → Int32 → Int32 → Int32 → Int32 → (Nat → Int32) → (Nat → Int32) → (Nat → Int32) → (Nat → Int32) → (Nat → Int32) → (Nat → Int32) → (Nat → Int32) → (Nat → Int32) → (Nat → Int32) → (Nat → Int32) → Prop) (hw : wp_X12_run v1 c_thrown c_nodeS c_nodeD c_pairE c_pairO c_bit c_lag c_lagSum c_row c_eight c_rows c_bytes c_scales c_dealt c_heardRow c_made c_backs c_comes post) : Met l yX12_run wsX12_run ({ frames := 6, cells := 0, slots := 0, locals := 148 }) (PX dC dI cy [.ref h0, .int v1] sz (w_X12_run h0 h_row h_kept h_isKept h_aside h_eight h_rows h_scales h_dealt h_bytes h_heardRow h_made h_comes h_backs h_fresh cy c_thrown c_nodeS c_nodeD c_pairE c_pairO c_bit c_lag c_lagSum c_row c_eight c_rows c_bytes c_scales c_dealt c_heardRow c_made c_backs c_comes)) (va_Qi (fun (r : Int32) (u : Int32 × Int32 × Int32 × Int32 × Int32 × Int32 × Int32 × Int32 × (Nat → Int32) × (Nat → Int32) × (Nat → Int32) × (Nat → Int32) × (Nat → Int32) × (Nat → Int32) × (Nat → Int32) × (Nat → Int32) × (Nat → Int32) × (Nat → Int32)) => post r u.1 u.2.1 u.2.2.1 u.2.2.2.1 u.2.2.2.2.1 u.2.2.2.2.2.1 u.2.2.2.2.2.2.1 u.2.2.2.2.2.2.2.1 u.2.2.2.2.2.2.2.2.1 u.2.2.2.2.2.2.2.2.2.1 u.2.2.2.2.2.2.2.2.2.2.1 u.2.2.2.2.2.2.2.2.2.2.2.1 u.2.2.2.2.2.2.2.2.2.2.2.2.1 u.2.2.2.2.2.2.2.2.2.2.2.2.2.1 u.2.2.2.2.2.2.2.2.2.2.2.2.2.2.1 u.2.2.2.2.2.2.2.2.2.2.2.2.2.2.2.1 u.2.2.2.2.2.2.2.2.2.2.2.2.2.2.2.2.1 u.2.2.2.2.2.2.2.2.2.2.2.2.2.2.2.2.2) (QX dC dI cy (va_A (w_X12_run h0 h_row h_kept h_isKept h_aside h_eight h_rows h_scales h_dealt h_bytes h_heardRow h_made h_comes h_backs h_fresh cy c_thrown c_nodeS c_nodeD c_pairE c_pairO c_bit c_lag c_lagSum c_row c_eight c_rows c_bytes c_scales c_dealt c_heardRow c_made c_backs c_comes) sz) (fun (u : Int32 × Int32 × Int32 × Int32 × Int32 × Int32 × Int32 × Int32 × (Nat → Int32) × (Nat → Int32) × (Nat → Int32) × (Nat → Int32) × (Nat → Int32) × (Nat → Int32) × (Nat → Int32) × (Nat → Int32) × (Nat → Int32) × (Nat → Int32)) => w_X12_run h0 h_row h_kept h_isKept h_aside h_eight h_rows h_scales h_dealt h_bytes h_heardRow h_made h_comes h_backs h_fresh cy u.1 u.2.1 u.2.2.1 u.2.2.2.1 u.2.2.2.2.1 u.2.2.2.2.2.1 u.2.2.2.2.2.2.1 u.2.2.2.2.2.2.2.1 u.2.2.2.2.2.2.2.2.1 u.2.2.2.2.2.2.2.2.2.1 u.2.2.2.2.2.2.2.2.2.2.1 u.2.2.2.2.2.2.2.2.2.2.2.1 u.2.2.2.2.2.2.2.2.2.2.2.2.1 u.2.2.2.2.2.2.2.2.2.2.2.2.2.1 u.2.2.2.2.2.2.2.2.2.2.2.2.2.2.1 u.2.2.2.2.2.2.2.2.2.2.2.2.2.2.2.1 u.2.2.2.2.2.2.2.2.2.2.2.2.2.2.2.2.1 u.2.2.2.2.2.2.2.2.2.2.2.2.2.2.2.2.2)) (va_A (w_X12_run h0 h_row h_kept h_isKept h_aside h_eight h_rows h_scales h_dealt h_bytes h_heardRow h_made h_comes h_backs h_fresh cy c_thrown c_nodeS c_nodeD c_pairE c_pairO c_bit c_lag c_lagSum c_row c_eight c_rows c_bytes c_scales c_dealt c_heardRow c_made c_backs c_comes) sz)) 0 0 (va_A (w_X12_run h0 h_row h_kept h_isKept h_aside h_eight h_rows h_scales h_dealt h_bytes h_heardRow h_made h_comes h_backs h_fresh cy c_thrown c_nodeS c_nodeD c_pairE c_pairO c_bit c_lag c_lagSum c_row c_eight c_rows c_bytes c_scales c_dealt c_heardRow c_made c_backs c_comes) sz) := by
  refine Met.ofW (cc := cX12_run) (maxL := 4) (ret := (some .int)) (by decide) rfl ?_
  intro p e s m args below meth c s₁ B hml hv
  obtain ⟨rfl, hsz, hP, hK, hD0, hG⟩ := hv
  have hx := B.exec
  have hb := B.bytes
  have hr := B.returns
  have hts := atoms_spec (ws := wsX12_run) B.pre
  have hown : s.vm.findClass RX12 = some m.cls := findClass_of_methodNamed B.named
  have hlocks := B.notSynchronized
  subst hsz
  have hD := hD0.self (sz := s.heap.size)
  generalize hAe : va_A (w_X12_run h0 h_row h_kept h_isKept h_aside h_eight h_rows h_scales h_dealt h_bytes h_heardRow h_made h_comes h_backs h_fresh cy c_thrown c_nodeS c_nodeD c_pairE c_pairO c_bit c_lag c_lagSum c_row c_eight c_rows c_bytes c_scales c_dealt c_heardRow c_made c_backs c_comes) s.heap.size = A at hD ⊢
  have hA : ∀ q : Nat, s.heap.size ≤ q → A q := fun q h => by rw [← hAe]; exact Or.inr h
  have hS : va_S A s.heap s.heap [] := va_S.rf
  have hl := lv_entry ([.ref h0, .int v1]) (n := 4) (Nat.le_of_ble_eq_true rfl)
  rw [lg_entry_eq]
  generalize (lg_sl ([.ref h0, .int v1]) ++ List.replicate (4 - (lg_sl ([.ref h0, .int v1])).length) Slot.unset).toArray = ls at hl ⊢
  replace hl : lv_has ls 4 [(0, .ref h0), (1, .int v1)] := hl
  have inX12 : ∀ w ∈ u_ws RX12 TX12 22, w ∈ wsX12_run := fun w h => List.mem_cons_of_mem _ (inlX12 w h)
  clear hAe hD0 B
  unfold wp_X12_run at hw
  generalize hQe : MQ below _ _ s _ _ _ = Q0
  generalize ([.ref h0, .int v1] : List Value).toArray = av at *
  obtain ⟨H, hH⟩ : ∃ H, H = s.heap := ⟨_, rfl⟩
  obtain ⟨locs, hlo⟩ : ∃ L : List Loc, L = [] := ⟨_, rfl⟩
  replace hP : va_P (dC, dI) vwCl (w_X12_run h0 h_row h_kept h_isKept h_aside h_eight h_rows h_scales h_dealt h_bytes h_heardRow h_made h_comes h_backs h_fresh cy c_thrown c_nodeS c_nodeD c_pairE c_pairO c_bit c_lag c_lagSum c_row c_eight c_rows c_bytes c_scales c_dealt c_heardRow c_made c_backs c_comes) H := by rw [hH]; exact hP
  replace hS : va_S A s.heap H locs := by rw [hH, hlo]; exact hS
  suffices hgo : W p l e ({ frames := 6, cells := 0, slots := 0, locals := 148 }) s m av below meth c H locs 0 0 Q0 (F0 m 0 ls []) by rw [hH, hlo] at hgo; exact hgo
  clear hH hlo
  refine lv_aload_n hx hb dX12_run_0 rfl (lv_at hl 0 rfl) ?_
  refine lv_iconst (v := 0) hx hb dX12_run_1 (by decide) ?_
  refine va_put (D := (dC, dI)) (ci := 12) (v := .int (0 : Int32)) (ty := .int) (C := RX12) (T := TX12) (N := 22) hx hb hts inX12 tyX12 tyX12_ok nmX12 hown hK hP hD hS 0 rfl rfl 0 (by decide) (hts _ (List.mem_cons_of_mem _ mw_200)) (fun _ h9 => h9) rfl (by decide +kernel) rfl rfl (Nat.le_of_ble_eq_true rfl) dX12_run_2 ?_; clear hP hD hS; clear H locs; intro H locs hP hD hS
  replace hP : va_P (dC, dI) vwCl (w_X12_run h0 h_row h_kept h_isKept h_aside h_eight h_rows h_scales h_dealt h_bytes h_heardRow h_made h_comes h_backs h_fresh cy (0 : Int32) c_nodeS c_nodeD c_pairE c_pairO c_bit c_lag c_lagSum c_row c_eight c_rows c_bytes c_scales c_dealt c_heardRow c_made c_backs c_comes) H := hP
  replace hD : va_D A (w_X12_run h0 h_row h_kept h_isKept h_aside h_eight h_rows h_scales h_dealt h_bytes h_heardRow h_made h_comes h_backs h_fresh cy (0 : Int32) c_nodeS c_nodeD c_pairE c_pairO c_bit c_lag c_lagSum c_row c_eight c_rows c_bytes c_scales c_dealt c_heardRow c_made c_backs c_comes) := hD
  refine lv_iload_n hx hb dX12_run_5 rfl (lv_at hl 1 rfl) ?_
  refine lv_i2l (v := v1.toInt64) hx hb dX12_run_6 rfl ?_
  refine lv_lconst (v := 1) hx hb dX12_run_7 (by decide) ?_
  refine lv_ldc2 (v := 400) hx hb hown (hts _ (List.mem_cons_of_mem _ mw_588)) dX12_run_8 ?_
  have hPc := pSub (ws' := (w_X12_in cy)) hP [] rfl
  have hDc := dSub (ws' := (w_X12_in cy)) hD [] (by decide) rfl
  have hFc := va_free (wc := (w_X12_in cy)) hD hS hA [] rfl
  refine va_calli (va_runS (As := [.long (v1.toInt64), .long (1 : Int64), .long (400 : Int64)]) (rest := []) ⟨hx, hb, hml, hown, hts⟩ (c_X12_in l dC dI cy  H.size (v1.toInt64) (1 : Int64) (400 : Int64) _ hw) (va_cwS 3 hts (goodS mw_207 mw_205 mw_206 mw_5) rfl rfl rfl (by decide +kernel) ⟨Nat.le_of_ble_eq_true rfl, Nat.le_of_ble_eq_true rfl⟩) ⟨PX_blind, PX_pre hPc hK hDc hG⟩ rfl rfl hl.1 rfl (lv_room (Nat.le_of_ble_eq_true rfl)) dX12_run_11 ⟨Nat.zero_le _, Nat.zero_le _⟩) hS (fun q _ h => hFc q h) hFc ?_; clear hw hS; intro r1 _ t H1 locs1 ht hvm hw hB hz1 hk1 hS
  obtain ⟨hP1, -, -⟩ := hB
  rw [ht] at hP1
  replace hP := jC0 hP hD [] [0, 1, 2, 3, 4, 5, 6, 7, 8, 9, 10] rfl hk1 hP1 (w_X12_run h0 h_row h_kept h_isKept h_aside h_eight h_rows h_scales h_dealt h_bytes h_heardRow h_made h_comes h_backs h_fresh cy (0 : Int32) c_nodeS c_nodeD c_pairE c_pairO c_bit c_lag c_lagSum c_row c_eight c_rows c_bytes c_scales c_dealt c_heardRow c_made c_backs c_comes) rfl rfl rfl 11 rfl (by decide +kernel); clear hD; obtain ⟨hP, hD⟩ := hP
  replace hP : va_P (dC, dI) vwCl (w_X12_run h0 h_row h_kept h_isKept h_aside h_eight h_rows h_scales h_dealt h_bytes h_heardRow h_made h_comes h_backs h_fresh cy (0 : Int32) c_nodeS c_nodeD c_pairE c_pairO c_bit c_lag c_lagSum c_row c_eight c_rows c_bytes c_scales c_dealt c_heardRow c_made c_backs c_comes) H1 := hP
  replace hD : va_D A (w_X12_run h0 h_row h_kept h_isKept h_aside h_eight h_rows h_scales h_dealt h_bytes h_heardRow h_made h_comes h_backs h_fresh cy (0 : Int32) c_nodeS c_nodeD c_pairE c_pairO c_bit c_lag c_lagSum c_row c_eight c_rows c_bytes c_scales c_dealt c_heardRow c_made c_backs c_comes) := hD
  clear hPc hDc hFc hP1 hk1 hz1 hvm ht; clear t; clear H locs; obtain ⟨H, hH⟩ : ∃ H, H = H1 := ⟨_, rfl⟩; obtain ⟨locs, hlo⟩ : ∃ L, L = locs1 := ⟨_, rfl⟩; subst hH; subst hlo
  refine W.widen (k := 0) (n := 0) (Nat.le_refl 0) (Nat.le_refl 0) ?_
  refine lv_if_eq (tgt := 32) hx hb dX12_run_14 (by decide) (fun c2 => ?_) (fun c2 => ?_)
  · replace hw := hw.1 c2; clear c2
    refine lv_iconst (v := -1) hx hb dX12_run_32 (by decide) ?_
    subst hQe
    exact W.iret (v := (-1 : Int32)) hx hb hr (fun t ht hW => ⟨⟨(-1 : Int32), ((0 : Int32), c_nodeS, c_nodeD, c_pairE, c_pairO, c_bit, c_lag, c_lagSum, c_row, c_eight, c_rows, c_bytes, c_scales, c_dealt, c_heardRow, c_made, c_backs, c_comes), rfl, hw, by rw [ht]; exact hP, va_K.moved hW.alike hK, hD⟩, hS.F ht⟩) hS.2.2 dX12_run_33
  · replace hw := hw.2 c2; clear c2
    refine lv_aload_n hx hb dX12_run_17 rfl (lv_at hl 0 rfl) ?_
    refine va_get (D := (dC, dI)) (ci := 12) (v := .ref h_row) (C := RX12) (T := TX12) (N := 22) hx hb hts inX12 hown hK hP 0 rfl rfl 1 (by decide) (hts _ (List.mem_cons_of_mem _ mw_169)) (fun _ h9 => h9) rfl dX12_run_18 ?_
    refine lv_bipush (v := 25) hx hb dX12_run_21 (by decide) ?_
    refine xiald (k := 25) hx hb hK hP 1 0 rfl rfl (vpL 25 13385 rfl) (by decide) dX12_run_23 ?_
    refine lv_iload_n hx hb dX12_run_24 rfl (lv_at hl 1 rfl) ?_
    refine lv_iadd hx hb dX12_run_25 ?_
    refine lv_sipush (v := 10000) hx hb dX12_run_26 (by decide) ?_
    refine lv_icmp_le (tgt := 34) hx hb dX12_run_29 (by decide) (fun c4 => ?_) (fun c4 => ?_)
    · replace hw := hw.1 c4; clear c4
      refine lv_aload_n hx hb dX12_run_34 rfl (lv_at hl 0 rfl) ?_
      have hPc := pSub (ws' := (w_X12_played h0 h_row h_kept h_isKept h_aside h_eight h_rows h_scales h_dealt h_bytes h_heardRow h_made h_comes h_backs h_fresh cy (0 : Int32) c_nodeS c_nodeD c_pairE c_pairO c_bit c_lag c_lagSum c_row)) hP [0, 1] rfl
      have hDc := dSub (ws' := (w_X12_played h0 h_row h_kept h_isKept h_aside h_eight h_rows h_scales h_dealt h_bytes h_heardRow h_made h_comes h_backs h_fresh cy (0 : Int32) c_nodeS c_nodeD c_pairE c_pairO c_bit c_lag c_lagSum c_row)) hD [0, 1] (by decide) rfl
      have hFc := va_free (wc := (w_X12_played h0 h_row h_kept h_isKept h_aside h_eight h_rows h_scales h_dealt h_bytes h_heardRow h_made h_comes h_backs h_fresh cy (0 : Int32) c_nodeS c_nodeD c_pairE c_pairO c_bit c_lag c_lagSum c_row)) hD hS hA [0, 1] rfl
      refine va_calli (va_runV (As := []) (rest := []) ⟨hx, hb, hml, hown, hts⟩ (c_X12_played l dC dI cy h0 h_row h_kept h_isKept h_aside h_eight h_rows h_scales h_dealt h_bytes h_heardRow h_made h_comes h_backs h_fresh H.size (0 : Int32) c_nodeS c_nodeD c_pairE c_pairO c_bit c_lag c_lagSum c_row _ hw) (cwV 0 hts (goodV mw_592 mw_589 mw_590 mw_591 mw_5) rfl rfl rfl (by decide +kernel) ⟨Nat.le_of_ble_eq_true rfl, Nat.le_of_ble_eq_true rfl⟩) ⟨PX_blind, va_recv hK hPc (ci := 12) (q0 := 0) rfl rfl, PX_pre hPc hK hDc hG⟩ rfl rfl hl.1 rfl (lv_room (Nat.le_of_ble_eq_true rfl)) dX12_run_35 ⟨Nat.zero_le _, Nat.zero_le _⟩) hS (fun q _ h => hFc q h) hFc ?_; clear hw hS; intro r5 _ t H1 locs1 ht hvm hw hB hz1 hk1 hS
      obtain ⟨hP1, -, -⟩ := hB
      rw [ht] at hP1
      replace hP := jC0 hP hD [0, 1] [2, 3, 4, 5, 6, 7, 8, 9, 10] rfl hk1 hP1 (w_X12_run h0 h_row h_kept h_isKept h_aside h_eight h_rows h_scales h_dealt h_bytes h_heardRow h_made h_comes h_backs h_fresh cy (0 : Int32) c_nodeS c_nodeD c_pairE c_pairO c_bit c_lag c_lagSum c_row c_eight c_rows c_bytes c_scales c_dealt c_heardRow c_made c_backs c_comes) rfl rfl rfl 11 rfl (by decide +kernel); clear hD; obtain ⟨hP, hD⟩ := hP
      replace hP : va_P (dC, dI) vwCl (w_X12_run h0 h_row h_kept h_isKept h_aside h_eight h_rows h_scales h_dealt h_bytes h_heardRow h_made h_comes h_backs h_fresh cy (0 : Int32) c_nodeS c_nodeD c_pairE c_pairO c_bit c_lag c_lagSum c_row c_eight c_rows c_bytes c_scales c_dealt c_heardRow c_made c_backs c_comes) H1 := hP
      replace hD : va_D A (w_X12_run h0 h_row h_kept h_isKept h_aside h_eight h_rows h_scales h_dealt h_bytes h_heardRow h_made h_comes h_backs h_fresh cy (0 : Int32) c_nodeS c_nodeD c_pairE c_pairO c_bit c_lag c_lagSum c_row c_eight c_rows c_bytes c_scales c_dealt c_heardRow c_made c_backs c_comes) := hD
      clear hPc hDc hFc hP1 hk1 hz1 hvm ht; clear t; clear H locs; obtain ⟨H, hH⟩ : ∃ H, H = H1 := ⟨_, rfl⟩; obtain ⟨locs, hlo⟩ : ∃ L, L = locs1 := ⟨_, rfl⟩; subst hH; subst hlo
      refine W.widen (k := 0) (n := 0) (Nat.le_refl 0) (Nat.le_refl 0) ?_
      refine lv_istore_n (lv' := [(2, .int r5), (0, .ref h0), (1, .int v1)]) hx hb dX12_run_38 rfl hl (by decide) rfl ?_; clear hl; clear ls; intro ls hl
      refine lv_iconst (v := 0) hx hb dX12_run_39 (by decide) ?_
      refine lv_istore_n (lv' := [(3, .int (0 : Int32)), (2, .int r5), (0, .ref h0), (1, .int v1)]) hx hb dX12_run_40 rfl hl (by decide) rfl ?_; clear hl; clear ls; intro ls hl
      obtain ⟨x6, e_x6⟩ : ∃ y : Int32, y = (0 : Int32) := ⟨_, rfl⟩
      replace hw := hw x6 e_x6
      replace hl : lv_has ls 4 [(3, .int x6), (2, .int r5), (0, .ref h0), (1, .int v1)] := by rw [e_x6]; exact hl
      clear e_x6
      replace hl := lv_sub (l' := [(3, .int x6), (2, .int r5), (0, .ref h0), (1, .int v1)]) hl [0, 1, 2, 3] rfl
      revert hl; revert hS; revert hD; revert hP; revert ls; revert locs; revert H
      revert hw; revert c_comes; revert c_backs; revert c_made; revert c_heardRow; revert c_dealt; revert c_scales; revert c_bytes; revert c_rows; revert c_eight; revert c_row; revert c_lagSum; revert c_lag; revert c_bit; revert c_pairO; revert c_pairE; revert c_nodeD; revert c_nodeS; revert x6
      refine Lz18_gr ?_; intro g7 ih8 x9 x10 x11 x12 x13 x14 x15 x16 f17 f18 f19 f20 f21 f22 f23 f24 f25 f26 hw
      intro H locs ls hP hD hS hl
      refine lv_iload_n hx hb dX12_run_41 rfl (lv_at hl 0 rfl) ?_
      refine lv_iload_n hx hb dX12_run_42 rfl (lv_at hl 3 rfl) ?_
      refine lv_icmp_ge (tgt := 56) hx hb dX12_run_43 (by decide) (fun c27 => ?_) (fun c27 => ?_)
      · replace hw := hw.1 c27; clear c27
        clear ih8
        refine lv_aload_n hx hb dX12_run_56 rfl (lv_at hl 2 rfl) ?_
        have hPc := pSub (ws' := (w_X12_played h0 h_row h_kept h_isKept h_aside h_eight h_rows h_scales h_dealt h_bytes h_heardRow h_made h_comes h_backs h_fresh cy (0 : Int32) x10 x11 x12 x13 x14 x15 x16 f17)) hP [0, 1] rfl
        have hDc := dSub (ws' := (w_X12_played h0 h_row h_kept h_isKept h_aside h_eight h_rows h_scales h_dealt h_bytes h_heardRow h_made h_comes h_backs h_fresh cy (0 : Int32) x10 x11 x12 x13 x14 x15 x16 f17)) hD [0, 1] (by decide) rfl
        have hFc := va_free (wc := (w_X12_played h0 h_row h_kept h_isKept h_aside h_eight h_rows h_scales h_dealt h_bytes h_heardRow h_made h_comes h_backs h_fresh cy (0 : Int32) x10 x11 x12 x13 x14 x15 x16 f17)) hD hS hA [0, 1] rfl
        refine va_calli (va_runV (As := []) (rest := []) ⟨hx, hb, hml, hown, hts⟩ (c_X12_played l dC dI cy h0 h_row h_kept h_isKept h_aside h_eight h_rows h_scales h_dealt h_bytes h_heardRow h_made h_comes h_backs h_fresh H.size (0 : Int32) x10 x11 x12 x13 x14 x15 x16 f17 _ hw) (cwV 0 hts (goodV mw_592 mw_589 mw_590 mw_591 mw_5) rfl rfl rfl (by decide +kernel) ⟨Nat.le_of_ble_eq_true rfl, Nat.le_of_ble_eq_true rfl⟩) ⟨PX_blind, va_recv hK hPc (ci := 12) (q0 := 0) rfl rfl, PX_pre hPc hK hDc hG⟩ rfl rfl hl.1 rfl (lv_room (Nat.le_of_ble_eq_true rfl)) dX12_run_57 ⟨Nat.zero_le _, Nat.zero_le _⟩) hS (fun q _ h => hFc q h) hFc ?_; clear hw hS; intro r28 _ t H1 locs1 ht hvm hw hB hz1 hk1 hS
        obtain ⟨hP1, -, -⟩ := hB
        rw [ht] at hP1
        replace hP := jC0 hP hD [0, 1] [2, 3, 4, 5, 6, 7, 8, 9, 10] rfl hk1 hP1 (w_X12_run h0 h_row h_kept h_isKept h_aside h_eight h_rows h_scales h_dealt h_bytes h_heardRow h_made h_comes h_backs h_fresh cy (0 : Int32) x10 x11 x12 x13 x14 x15 x16 f17 f18 f19 f20 f21 f22 f23 f24 f25 f26) rfl rfl rfl 11 rfl (by decide +kernel); clear hD; obtain ⟨hP, hD⟩ := hP
        replace hP : va_P (dC, dI) vwCl (w_X12_run h0 h_row h_kept h_isKept h_aside h_eight h_rows h_scales h_dealt h_bytes h_heardRow h_made h_comes h_backs h_fresh cy (0 : Int32) x10 x11 x12 x13 x14 x15 x16 f17 f18 f19 f20 f21 f22 f23 f24 f25 f26) H1 := hP
        replace hD : va_D A (w_X12_run h0 h_row h_kept h_isKept h_aside h_eight h_rows h_scales h_dealt h_bytes h_heardRow h_made h_comes h_backs h_fresh cy (0 : Int32) x10 x11 x12 x13 x14 x15 x16 f17 f18 f19 f20 f21 f22 f23 f24 f25 f26) := hD
        clear hPc hDc hFc hP1 hk1 hz1 hvm ht; clear t; clear H locs; obtain ⟨H, hH⟩ : ∃ H, H = H1 := ⟨_, rfl⟩; obtain ⟨locs, hlo⟩ : ∃ L, L = locs1 := ⟨_, rfl⟩; subst hH; subst hlo
        refine W.widen (k := 0) (n := 0) (Nat.le_refl 0) (Nat.le_refl 0) ?_
        refine lv_iload_n hx hb dX12_run_60 rfl (lv_at hl 1 rfl) ?_
        refine lv_isub hx hb dX12_run_61 ?_
        subst hQe
        exact W.iret (v := r28 - r5) hx hb hr (fun t ht hW => ⟨⟨(r28 - r5), ((0 : Int32), x10, x11, x12, x13, x14, x15, x16, f17, f18, f19, f20, f21, f22, f23, f24, f25, f26), rfl, hw, by rw [ht]; exact hP, va_K.moved hW.alike hK, hD⟩, hS.F ht⟩) hS.2.2 dX12_run_62
      · replace hw := hw.2 c27; clear c27
        refine lv_aload_n hx hb dX12_run_46 rfl (lv_at hl 2 rfl) ?_
        have hPc := pSub (ws' := (w_X12_slot h0 h_row h_kept h_isKept h_aside h_eight h_rows h_scales h_dealt h_bytes h_heardRow h_made h_comes h_backs h_fresh cy (0 : Int32) x10 x11 x12 x13 x14 x15 x16 f17 f18 f19 f20 f21 f22 f23 f24 f25 f26)) hP [0, 1, 2, 3, 4, 5, 6, 7, 8, 9, 10] rfl
        have hDc := dSub (ws' := (w_X12_slot h0 h_row h_kept h_isKept h_aside h_eight h_rows h_scales h_dealt h_bytes h_heardRow h_made h_comes h_backs h_fresh cy (0 : Int32) x10 x11 x12 x13 x14 x15 x16 f17 f18 f19 f20 f21 f22 f23 f24 f25 f26)) hD [0, 1, 2, 3, 4, 5, 6, 7, 8, 9, 10] (by decide) rfl
        have hFc := va_free (wc := (w_X12_slot h0 h_row h_kept h_isKept h_aside h_eight h_rows h_scales h_dealt h_bytes h_heardRow h_made h_comes h_backs h_fresh cy (0 : Int32) x10 x11 x12 x13 x14 x15 x16 f17 f18 f19 f20 f21 f22 f23 f24 f25 f26)) hD hS hA [0, 1, 2, 3, 4, 5, 6, 7, 8, 9, 10] rfl
        refine va_callv (va_runV (As := []) (rest := []) ⟨hx, hb, hml, hown, hts⟩ (c_X12_slot l dC dI cy h0 h_row h_kept h_isKept h_aside h_eight h_rows h_scales h_dealt h_bytes h_heardRow h_made h_comes h_backs h_fresh H.size (0 : Int32) x10 x11 x12 x13 x14 x15 x16 f17 f18 f19 f20 f21 f22 f23 f24 f25 f26 _ hw) (cwV 0 hts (goodV mw_596 mw_593 mw_594 mw_595 mw_5) rfl rfl rfl (by decide +kernel) ⟨Nat.le_of_ble_eq_true rfl, Nat.le_of_ble_eq_true rfl⟩) ⟨PX_blind, va_recv hK hPc (ci := 12) (q0 := 0) rfl rfl, PX_pre hPc hK hDc hG⟩ rfl rfl hl.1 rfl (lv_room (Nat.le_of_ble_eq_true rfl)) dX12_run_47 ⟨Nat.zero_le _, Nat.zero_le _⟩) hS (fun q _ h => hFc q h) hFc ?_; clear hw hS; intro u t H1 locs1 ht hvm hw hB hz1 hk1 hS
        obtain ⟨x29, x30, x31, x32, x33, x34, x35, f36, f37, f38, f39, f40, f41, f42, f43, f44, f45⟩ := u
        try dsimp only at hw
        obtain ⟨hP1, -, -⟩ := hB
        rw [ht] at hP1
        replace hP := jC0 hP hD [0, 1, 2, 3, 4, 5, 6, 7, 8, 9, 10] [] rfl hk1 hP1 (w_X12_run h0 h_row h_kept h_isKept h_aside h_eight h_rows h_scales h_dealt h_bytes h_heardRow h_made h_comes h_backs h_fresh cy (0 : Int32) x29 x30 x31 x32 x33 x34 x35 f36 f37 f38 f39 f40 f41 f42 f43 f44 f45) rfl rfl rfl 11 rfl (by decide +kernel); clear hD; obtain ⟨hP, hD⟩ := hP
        replace hP : va_P (dC, dI) vwCl (w_X12_run h0 h_row h_kept h_isKept h_aside h_eight h_rows h_scales h_dealt h_bytes h_heardRow h_made h_comes h_backs h_fresh cy (0 : Int32) x29 x30 x31 x32 x33 x34 x35 f36 f37 f38 f39 f40 f41 f42 f43 f44 f45) H1 := hP
        replace hD : va_D A (w_X12_run h0 h_row h_kept h_isKept h_aside h_eight h_rows h_scales h_dealt h_bytes h_heardRow h_made h_comes h_backs h_fresh cy (0 : Int32) x29 x30 x31 x32 x33 x34 x35 f36 f37 f38 f39 f40 f41 f42 f43 f44 f45) := hD
        clear hPc hDc hFc hP1 hk1 hz1 hvm ht; clear t; clear H locs; obtain ⟨H, hH⟩ : ∃ H, H = H1 := ⟨_, rfl⟩; obtain ⟨locs, hlo⟩ : ∃ L, L = locs1 := ⟨_, rfl⟩; subst hH; subst hlo
        refine W.widen (k := 0) (n := 0) (Nat.le_refl 0) (Nat.le_refl 0) ?_
        refine lv_iinc (v := x9 + 1) (lv' := [(3, .int (x9 + 1)), (2, .int r5), (0, .ref h0), (1, .int v1)]) hx hb dX12_run_50 hl (k := 0) rfl rfl (by decide) rfl ?_; clear hl; clear ls; intro ls hl
        refine lv_goto (tgt := 41) hx hb dX12_run_53 (by decide) ?_
        exact ih8 (x9 + 1) x29 x30 x31 x32 x33 x34 x35 f36 f37 f38 f39 f40 f41 f42 f43 f44 f45 hw H locs ls hP hD hS (lv_sub hl [0, 1, 2, 3] rfl)
    · replace hw := hw.2 c4; clear c4
      refine lv_iconst (v := -1) hx hb dX12_run_32 (by decide) ?_
      subst hQe
      exact W.iret (v := (-1 : Int32)) hx hb hr (fun t ht hW => ⟨⟨(-1 : Int32), ((0 : Int32), c_nodeS, c_nodeD, c_pairE, c_pairO, c_bit, c_lag, c_lagSum, c_row, c_eight, c_rows, c_bytes, c_scales, c_dealt, c_heardRow, c_made, c_backs, c_comes), rfl, hw, by rw [ht]; exact hP, va_K.moved hW.alike hK, hD⟩, hS.F ht⟩) hS.2.2 dX12_run_33
set_option maxHeartbeats 4000000 in
set_option maxRecDepth 100000 in
theorem c_X12_isCoded (l : Launch) (dC : Nat → ClassId) (dI : Nat → Nat → Nat) (cy : Nat → ClassId) (h0 h_row h_kept h_isKept h_aside h_eight h_rows h_scales h_dealt h_bytes h_heardRow h_made h_comes h_backs h_fresh : Nat) (sz : Nat) (c_thrown : Int32) (c_nodeS : Int32) (c_nodeD : Int32) (c_pairE : Int32) (c_pairO : Int32) (c_bit : Int32) (c_lag : Int32) (c_lagSum : Int32) (c_row : Nat → Int32) (post : Int32 → Prop) (hw : wp_X12_isCoded c_row post) : Met l yX12_isCoded wsX12_isCoded ({ frames := 0, cells := 0, slots := 0, locals := 0 }) (PX dC dI cy [.ref h0] sz (w_X12_isCoded h0 h_row h_kept h_isKept h_aside h_eight h_rows h_scales h_dealt h_bytes h_heardRow h_made h_comes h_backs h_fresh cy c_thrown c_nodeS c_nodeD c_pairE c_pairO c_bit c_lag c_lagSum c_row)) (va_Qi (fun (r : Int32) (u : Unit) => post r) (QX dC dI cy (va_A (w_X12_isCoded h0 h_row h_kept h_isKept h_aside h_eight h_rows h_scales h_dealt h_bytes h_heardRow h_made h_comes h_backs h_fresh cy c_thrown c_nodeS c_nodeD c_pairE c_pairO c_bit c_lag c_lagSum c_row) sz) (fun (u : Unit) => w_X12_isCoded h0 h_row h_kept h_isKept h_aside h_eight h_rows h_scales h_dealt h_bytes h_heardRow h_made h_comes h_backs h_fresh cy c_thrown c_nodeS c_nodeD c_pairE c_pairO c_bit c_lag c_lagSum c_row)) (va_A (w_X12_isCoded h0 h_row h_kept h_isKept h_aside h_eight h_rows h_scales h_dealt h_bytes h_heardRow h_made h_comes h_backs h_fresh cy c_thrown c_nodeS c_nodeD c_pairE c_pairO c_bit c_lag c_lagSum c_row) sz)) 0 0 (va_A (w_X12_isCoded h0 h_row h_kept h_isKept h_aside h_eight h_rows h_scales h_dealt h_bytes h_heardRow h_made h_comes h_backs h_fresh cy c_thrown c_nodeS c_nodeD c_pairE c_pairO c_bit c_lag c_lagSum c_row) sz) := by
  refine Met.ofW (cc := cX12_isCoded) (maxL := 1) (ret := (some .boolean)) (by decide) rfl ?_
  intro p e s m args below meth c s₁ B hml hv
  obtain ⟨rfl, hsz, hP, hK, hD0, hG⟩ := hv
  have hx := B.exec
  have hb := B.bytes
  have hr := B.returns
  have hts := atoms_spec (ws := wsX12_isCoded) B.pre
  have hown : s.vm.findClass RX12 = some m.cls := findClass_of_methodNamed B.named
  have hlocks := B.notSynchronized
  subst hsz
  have hD := hD0.self (sz := s.heap.size)
  generalize hAe : va_A (w_X12_isCoded h0 h_row h_kept h_isKept h_aside h_eight h_rows h_scales h_dealt h_bytes h_heardRow h_made h_comes h_backs h_fresh cy c_thrown c_nodeS c_nodeD c_pairE c_pairO c_bit c_lag c_lagSum c_row) s.heap.size = A at hD ⊢
  have hA : ∀ q : Nat, s.heap.size ≤ q → A q := fun q h => by rw [← hAe]; exact Or.inr h
  have hS : va_S A s.heap s.heap [] := va_S.rf
  have hl := lv_entry ([.ref h0]) (n := 1) (Nat.le_of_ble_eq_true rfl)
  rw [lg_entry_eq]
  generalize (lg_sl ([.ref h0]) ++ List.replicate (1 - (lg_sl ([.ref h0])).length) Slot.unset).toArray = ls at hl ⊢
  replace hl : lv_has ls 1 [(0, .ref h0)] := hl
  have inX12 : ∀ w ∈ u_ws RX12 TX12 22, w ∈ wsX12_isCoded := fun w h => List.mem_cons_of_mem _ (inlX12 w h)
  clear hAe hD0 B
  unfold wp_X12_isCoded at hw
  generalize hQe : MQ below _ _ s _ _ _ = Q0
  generalize ([.ref h0] : List Value).toArray = av at *
  obtain ⟨H, hH⟩ : ∃ H, H = s.heap := ⟨_, rfl⟩
  obtain ⟨locs, hlo⟩ : ∃ L : List Loc, L = [] := ⟨_, rfl⟩
  replace hP : va_P (dC, dI) vwCl (w_X12_isCoded h0 h_row h_kept h_isKept h_aside h_eight h_rows h_scales h_dealt h_bytes h_heardRow h_made h_comes h_backs h_fresh cy c_thrown c_nodeS c_nodeD c_pairE c_pairO c_bit c_lag c_lagSum c_row) H := by rw [hH]; exact hP
  replace hS : va_S A s.heap H locs := by rw [hH, hlo]; exact hS
  suffices hgo : W p l e ({ frames := 0, cells := 0, slots := 0, locals := 0 }) s m av below meth c H locs 0 0 Q0 (F0 m 0 ls []) by rw [hH, hlo] at hgo; exact hgo
  clear hH hlo
  refine lv_aload_n hx hb dX12_isCoded_0 rfl (lv_at hl 0 rfl) ?_
  refine va_get (D := (dC, dI)) (ci := 12) (v := .ref h_row) (C := RX12) (T := TX12) (N := 22) hx hb hts inX12 hown hK hP 0 rfl rfl 1 (by decide) (hts _ (List.mem_cons_of_mem _ mw_169)) (fun _ h9 => h9) rfl dX12_isCoded_1 ?_
  refine lv_bipush (v := 26) hx hb dX12_isCoded_4 (by decide) ?_
  refine xiald (k := 26) hx hb hK hP 1 0 rfl rfl (vpL 26 13385 rfl) (by decide) dX12_isCoded_6 ?_
  refine lv_if_le (tgt := 14) hx hb dX12_isCoded_7 (by decide) (fun c2 => ?_) (fun c2 => ?_)
  · replace hw := hw.1 c2; clear c2
    refine lv_iconst (v := 0) hx hb dX12_isCoded_14 (by decide) ?_
    subst hQe
    exact W.zret (v := (0 : Int32)) hx hb hr isB_0 (fun t ht hW => ⟨⟨(0 : Int32), (), rfl, hw, by rw [ht]; exact hP, va_K.moved hW.alike hK, hD⟩, hS.F ht⟩) hS.2.2 dX12_isCoded_15
  · replace hw := hw.2 c2; clear c2
    refine lv_iconst (v := 1) hx hb dX12_isCoded_10 (by decide) ?_
    refine lv_goto (tgt := 15) hx hb dX12_isCoded_11 (by decide) ?_
    subst hQe
    exact W.zret (v := (1 : Int32)) hx hb hr isB_1 (fun t ht hW => ⟨⟨(1 : Int32), (), rfl, hw, by rw [ht]; exact hP, va_K.moved hW.alike hK, hD⟩, hS.F ht⟩) hS.2.2 dX12_isCoded_15
set_option maxHeartbeats 4000000 in
set_option maxRecDepth 100000 in
theorem c_X12_isBand (l : Launch) (dC : Nat → ClassId) (dI : Nat → Nat → Nat) (cy : Nat → ClassId) (sz : Nat) (v0 : Int32) (v1 : Int32) (post : Int32 → Prop) (hw : wp_X12_isBand v0 v1 post) : Met l yX12_isBand wsX12_isBand ({ frames := 1, cells := 0, slots := 0, locals := 25 }) (PX dC dI cy [.int v0, .int v1] sz (w_X12_isBand cy)) (va_Qi (fun (r : Int32) (u : Unit) => post r) (QX dC dI cy (va_A (w_X12_isBand cy) sz) (fun (u : Unit) => w_X12_isBand cy)) (va_A (w_X12_isBand cy) sz)) 0 0 (va_A (w_X12_isBand cy) sz) := by
  refine Met.ofW (cc := cX12_isBand) (maxL := 2) (ret := (some .boolean)) (by decide) rfl ?_
  intro p e s m args below meth c s₁ B hml hv
  obtain ⟨rfl, hsz, hP, hK, hD0, hG⟩ := hv
  have hx := B.exec
  have hb := B.bytes
  have hr := B.returns
  have hts := atoms_spec (ws := wsX12_isBand) B.pre
  have hown : s.vm.findClass RX12 = some m.cls := findClass_of_methodNamed B.named
  have hlocks := B.notSynchronized
  subst hsz
  have hD := hD0.self (sz := s.heap.size)
  generalize hAe : va_A (w_X12_isBand cy) s.heap.size = A at hD ⊢
  have hA : ∀ q : Nat, s.heap.size ≤ q → A q := fun q h => by rw [← hAe]; exact Or.inr h
  have hS : va_S A s.heap s.heap [] := va_S.rf
  have hl := lv_entry ([.int v0, .int v1]) (n := 2) (Nat.le_of_ble_eq_true rfl)
  rw [lg_entry_eq]
  generalize (lg_sl ([.int v0, .int v1]) ++ List.replicate (2 - (lg_sl ([.int v0, .int v1])).length) Slot.unset).toArray = ls at hl ⊢
  replace hl : lv_has ls 2 [(0, .int v0), (1, .int v1)] := hl
  clear hAe hD0 B
  unfold wp_X12_isBand at hw
  generalize hQe : MQ below _ _ s _ _ _ = Q0
  generalize ([.int v0, .int v1] : List Value).toArray = av at *
  obtain ⟨H, hH⟩ : ∃ H, H = s.heap := ⟨_, rfl⟩
  obtain ⟨locs, hlo⟩ : ∃ L : List Loc, L = [] := ⟨_, rfl⟩
  replace hP : va_P (dC, dI) vwCl (w_X12_isBand cy) H := by rw [hH]; exact hP
  replace hS : va_S A s.heap H locs := by rw [hH, hlo]; exact hS
  suffices hgo : W p l e ({ frames := 1, cells := 0, slots := 0, locals := 25 }) s m av below meth c H locs 0 0 Q0 (F0 m 0 ls []) by rw [hH, hlo] at hgo; exact hgo
  clear hH hlo
  refine lv_iload_n hx hb dX12_isBand_0 rfl (lv_at hl 0 rfl) ?_
  refine lv_i2l (v := v0.toInt64) hx hb dX12_isBand_1 rfl ?_
  refine lv_lconst (v := 0) hx hb dX12_isBand_2 (by decide) ?_
  refine lv_lconst (v := 1) hx hb dX12_isBand_3 (by decide) ?_
  have hPc := pSub (ws' := (w_X12_in cy)) hP [] rfl
  have hDc := dSub (ws' := (w_X12_in cy)) hD [] (by decide) rfl
  have hFc := va_free (wc := (w_X12_in cy)) hD hS hA [] rfl
  refine va_calli (va_runS (As := [.long (v0.toInt64), .long (0 : Int64), .long (1 : Int64)]) (rest := []) ⟨hx, hb, hml, hown, hts⟩ (c_X12_in l dC dI cy  H.size (v0.toInt64) (0 : Int64) (1 : Int64) _ hw) (va_cwS 3 hts (goodS mw_207 mw_205 mw_206 mw_5) rfl rfl rfl (by decide +kernel) ⟨Nat.le_of_ble_eq_true rfl, Nat.le_of_ble_eq_true rfl⟩) ⟨PX_blind, PX_pre hPc hK hDc hG⟩ rfl rfl hl.1 rfl (lv_room (Nat.le_of_ble_eq_true rfl)) dX12_isBand_4 ⟨Nat.zero_le _, Nat.zero_le _⟩) hS (fun q _ h => hFc q h) hFc ?_; clear hw hS; intro r1 _ t H1 locs1 ht hvm hw hB hz1 hk1 hS
  obtain ⟨hP1, -, -⟩ := hB
  rw [ht] at hP1
  replace hP := jC0 hP hD [] [] rfl hk1 hP1 (w_X12_isBand cy) rfl rfl rfl 0 rfl (by decide +kernel); clear hD; obtain ⟨hP, hD⟩ := hP
  replace hP : va_P (dC, dI) vwCl (w_X12_isBand cy) H1 := hP
  replace hD : va_D A (w_X12_isBand cy) := hD
  clear hPc hDc hFc hP1 hk1 hz1 hvm ht; clear t; clear H locs; obtain ⟨H, hH⟩ : ∃ H, H = H1 := ⟨_, rfl⟩; obtain ⟨locs, hlo⟩ : ∃ L, L = locs1 := ⟨_, rfl⟩; subst hH; subst hlo
  refine W.widen (k := 0) (n := 0) (Nat.le_refl 0) (Nat.le_refl 0) ?_
  refine lv_if_eq (tgt := 26) hx hb dX12_isBand_7 (by decide) (fun c2 => ?_) (fun c2 => ?_)
  · replace hw := hw.1 c2; clear c2
    refine lv_iconst (v := 0) hx hb dX12_isBand_26 (by decide) ?_
    subst hQe
    exact W.zret (v := (0 : Int32)) hx hb hr isB_0 (fun t ht hW => ⟨⟨(0 : Int32), (), rfl, hw, by rw [ht]; exact hP, va_K.moved hW.alike hK, hD⟩, hS.F ht⟩) hS.2.2 dX12_isBand_27
  · replace hw := hw.2 c2; clear c2
    refine lv_iload_n hx hb dX12_isBand_10 rfl (lv_at hl 1 rfl) ?_
    refine lv_i2l (v := v1.toInt64) hx hb dX12_isBand_11 rfl ?_
    refine lv_lconst (v := 0) hx hb dX12_isBand_12 (by decide) ?_
    refine lv_ldc2 (v := 7) hx hb hown (hts _ (List.mem_cons_of_mem _ mw_240)) dX12_isBand_13 ?_
    have hPc := pSub (ws' := (w_X12_in cy)) hP [] rfl
    have hDc := dSub (ws' := (w_X12_in cy)) hD [] (by decide) rfl
    have hFc := va_free (wc := (w_X12_in cy)) hD hS hA [] rfl
    refine va_calli (va_runS (As := [.long (v1.toInt64), .long (0 : Int64), .long (7 : Int64)]) (rest := []) ⟨hx, hb, hml, hown, hts⟩ (c_X12_in l dC dI cy  H.size (v1.toInt64) (0 : Int64) (7 : Int64) _ hw) (va_cwS 3 hts (goodS mw_207 mw_205 mw_206 mw_5) rfl rfl rfl (by decide +kernel) ⟨Nat.le_of_ble_eq_true rfl, Nat.le_of_ble_eq_true rfl⟩) ⟨PX_blind, PX_pre hPc hK hDc hG⟩ rfl rfl hl.1 rfl (lv_room (Nat.le_of_ble_eq_true rfl)) dX12_isBand_16 ⟨Nat.zero_le _, Nat.zero_le _⟩) hS (fun q _ h => hFc q h) hFc ?_; clear hw hS; intro r3 _ t H1 locs1 ht hvm hw hB hz1 hk1 hS
    obtain ⟨hP1, -, -⟩ := hB
    rw [ht] at hP1
    replace hP := jC0 hP hD [] [] rfl hk1 hP1 (w_X12_isBand cy) rfl rfl rfl 0 rfl (by decide +kernel); clear hD; obtain ⟨hP, hD⟩ := hP
    replace hP : va_P (dC, dI) vwCl (w_X12_isBand cy) H1 := hP
    replace hD : va_D A (w_X12_isBand cy) := hD
    clear hPc hDc hFc hP1 hk1 hz1 hvm ht; clear t; clear H locs; obtain ⟨H, hH⟩ : ∃ H, H = H1 := ⟨_, rfl⟩; obtain ⟨locs, hlo⟩ : ∃ L, L = locs1 := ⟨_, rfl⟩; subst hH; subst hlo
    refine W.widen (k := 0) (n := 0) (Nat.le_refl 0) (Nat.le_refl 0) ?_
    refine lv_if_eq (tgt := 26) hx hb dX12_isBand_19 (by decide) (fun c4 => ?_) (fun c4 => ?_)
    · replace hw := hw.1 c4; clear c4
      refine lv_iconst (v := 0) hx hb dX12_isBand_26 (by decide) ?_
      subst hQe
      exact W.zret (v := (0 : Int32)) hx hb hr isB_0 (fun t ht hW => ⟨⟨(0 : Int32), (), rfl, hw, by rw [ht]; exact hP, va_K.moved hW.alike hK, hD⟩, hS.F ht⟩) hS.2.2 dX12_isBand_27
    · replace hw := hw.2 c4; clear c4
      refine lv_iconst (v := 1) hx hb dX12_isBand_22 (by decide) ?_
      refine lv_goto (tgt := 27) hx hb dX12_isBand_23 (by decide) ?_
      subst hQe
      exact W.zret (v := (1 : Int32)) hx hb hr isB_1 (fun t ht hW => ⟨⟨(1 : Int32), (), rfl, hw, by rw [ht]; exact hP, va_K.moved hW.alike hK, hD⟩, hS.F ht⟩) hS.2.2 dX12_isBand_27
set_option maxHeartbeats 4000000 in
set_option maxRecDepth 100000 in
theorem c_X12_band (l : Launch) (dC : Nat → ClassId) (dI : Nat → Nat → Nat) (cy : Nat → ClassId) (h0 h_row h_kept h_isKept h_aside h_eight h_rows h_scales h_dealt h_bytes h_heardRow h_made h_comes h_backs h_fresh : Nat) (sz : Nat) (v1 : Int32) (v2 : Int32) (v3 : Int32) (v4 : Int32) (c_thrown : Int32) (c_nodeS : Int32) (c_nodeD : Int32) (c_pairE : Int32) (c_pairO : Int32) (c_bit : Int32) (c_lag : Int32) (c_lagSum : Int32) (c_row : Nat → Int32) (post : Int32 → Int32 → Prop) (hw : wp_X12_band v1 v2 v3 v4 c_thrown c_row post) : Met l yX12_band wsX12_band ({ frames := 2, cells := 0, slots := 0, locals := 49 }) (PX dC dI cy [.ref h0, .int v1, .int v2, .int v3, .int v4] sz (w_X12_band h0 h_row h_kept h_isKept h_aside h_eight h_rows h_scales h_dealt h_bytes h_heardRow h_made h_comes h_backs h_fresh cy c_thrown c_nodeS c_nodeD c_pairE c_pairO c_bit c_lag c_lagSum c_row)) (va_Qi (fun (r : Int32) (u : Int32) => post r u) (QX dC dI cy (va_A (w_X12_band h0 h_row h_kept h_isKept h_aside h_eight h_rows h_scales h_dealt h_bytes h_heardRow h_made h_comes h_backs h_fresh cy c_thrown c_nodeS c_nodeD c_pairE c_pairO c_bit c_lag c_lagSum c_row) sz) (fun (u : Int32) => w_X12_band h0 h_row h_kept h_isKept h_aside h_eight h_rows h_scales h_dealt h_bytes h_heardRow h_made h_comes h_backs h_fresh cy u c_nodeS c_nodeD c_pairE c_pairO c_bit c_lag c_lagSum c_row)) (va_A (w_X12_band h0 h_row h_kept h_isKept h_aside h_eight h_rows h_scales h_dealt h_bytes h_heardRow h_made h_comes h_backs h_fresh cy c_thrown c_nodeS c_nodeD c_pairE c_pairO c_bit c_lag c_lagSum c_row) sz)) 0 0 (va_A (w_X12_band h0 h_row h_kept h_isKept h_aside h_eight h_rows h_scales h_dealt h_bytes h_heardRow h_made h_comes h_backs h_fresh cy c_thrown c_nodeS c_nodeD c_pairE c_pairO c_bit c_lag c_lagSum c_row) sz) := by
  refine Met.ofW (cc := cX12_band) (maxL := 11) (ret := (some .int)) (by decide) rfl ?_
  intro p e s m args below meth c s₁ B hml hv
  obtain ⟨rfl, hsz, hP, hK, hD0, hG⟩ := hv
  have hx := B.exec
  have hb := B.bytes
  have hr := B.returns
  have hts := atoms_spec (ws := wsX12_band) B.pre
  have hown : s.vm.findClass RX12 = some m.cls := findClass_of_methodNamed B.named
  have hlocks := B.notSynchronized
  subst hsz
  have hD := hD0.self (sz := s.heap.size)
  generalize hAe : va_A (w_X12_band h0 h_row h_kept h_isKept h_aside h_eight h_rows h_scales h_dealt h_bytes h_heardRow h_made h_comes h_backs h_fresh cy c_thrown c_nodeS c_nodeD c_pairE c_pairO c_bit c_lag c_lagSum c_row) s.heap.size = A at hD ⊢
  have hA : ∀ q : Nat, s.heap.size ≤ q → A q := fun q h => by rw [← hAe]; exact Or.inr h
  have hS : va_S A s.heap s.heap [] := va_S.rf
  have hl := lv_entry ([.ref h0, .int v1, .int v2, .int v3, .int v4]) (n := 11) (Nat.le_of_ble_eq_true rfl)
  rw [lg_entry_eq]
  generalize (lg_sl ([.ref h0, .int v1, .int v2, .int v3, .int v4]) ++ List.replicate (11 - (lg_sl ([.ref h0, .int v1, .int v2, .int v3, .int v4])).length) Slot.unset).toArray = ls at hl ⊢
  replace hl : lv_has ls 11 [(0, .ref h0), (1, .int v1), (2, .int v2), (3, .int v3), (4, .int v4)] := hl
  have inX12 : ∀ w ∈ u_ws RX12 TX12 22, w ∈ wsX12_band := fun w h => List.mem_cons_of_mem _ (inlX12 w h)
  clear hAe hD0 B
  unfold wp_X12_band at hw
  generalize hQe : MQ below _ _ s _ _ _ = Q0
  generalize ([.ref h0, .int v1, .int v2, .int v3, .int v4] : List Value).toArray = av at *
  obtain ⟨H, hH⟩ : ∃ H, H = s.heap := ⟨_, rfl⟩
  obtain ⟨locs, hlo⟩ : ∃ L : List Loc, L = [] := ⟨_, rfl⟩
  replace hP : va_P (dC, dI) vwCl (w_X12_band h0 h_row h_kept h_isKept h_aside h_eight h_rows h_scales h_dealt h_bytes h_heardRow h_made h_comes h_backs h_fresh cy c_thrown c_nodeS c_nodeD c_pairE c_pairO c_bit c_lag c_lagSum c_row) H := by rw [hH]; exact hP
  replace hS : va_S A s.heap H locs := by rw [hH, hlo]; exact hS
  suffices hgo : W p l e ({ frames := 2, cells := 0, slots := 0, locals := 49 }) s m av below meth c H locs 0 0 Q0 (F0 m 0 ls []) by rw [hH, hlo] at hgo; exact hgo
  clear hH hlo
  refine lv_aload_n hx hb dX12_band_0 rfl (lv_at hl 0 rfl) ?_
  refine lv_iconst (v := 0) hx hb dX12_band_1 (by decide) ?_
  refine va_put (D := (dC, dI)) (ci := 12) (v := .int (0 : Int32)) (ty := .int) (C := RX12) (T := TX12) (N := 22) hx hb hts inX12 tyX12 tyX12_ok nmX12 hown hK hP hD hS 0 rfl rfl 0 (by decide) (hts _ (List.mem_cons_of_mem _ mw_200)) (fun _ h9 => h9) rfl (by decide +kernel) rfl rfl (Nat.le_of_ble_eq_true rfl) dX12_band_2 ?_; clear hP hD hS; clear H locs; intro H locs hP hD hS
  replace hP : va_P (dC, dI) vwCl (w_X12_band h0 h_row h_kept h_isKept h_aside h_eight h_rows h_scales h_dealt h_bytes h_heardRow h_made h_comes h_backs h_fresh cy (0 : Int32) c_nodeS c_nodeD c_pairE c_pairO c_bit c_lag c_lagSum c_row) H := hP
  replace hD : va_D A (w_X12_band h0 h_row h_kept h_isKept h_aside h_eight h_rows h_scales h_dealt h_bytes h_heardRow h_made h_comes h_backs h_fresh cy (0 : Int32) c_nodeS c_nodeD c_pairE c_pairO c_bit c_lag c_lagSum c_row) := hD
  refine lv_aload_n hx hb dX12_band_5 rfl (lv_at hl 0 rfl) ?_
  have hPc := pSub (ws' := (w_X12_isCoded h0 h_row h_kept h_isKept h_aside h_eight h_rows h_scales h_dealt h_bytes h_heardRow h_made h_comes h_backs h_fresh cy (0 : Int32) c_nodeS c_nodeD c_pairE c_pairO c_bit c_lag c_lagSum c_row)) hP [0, 1] rfl
  have hDc := dSub (ws' := (w_X12_isCoded h0 h_row h_kept h_isKept h_aside h_eight h_rows h_scales h_dealt h_bytes h_heardRow h_made h_comes h_backs h_fresh cy (0 : Int32) c_nodeS c_nodeD c_pairE c_pairO c_bit c_lag c_lagSum c_row)) hD [0, 1] (by decide) rfl
  have hFc := va_free (wc := (w_X12_isCoded h0 h_row h_kept h_isKept h_aside h_eight h_rows h_scales h_dealt h_bytes h_heardRow h_made h_comes h_backs h_fresh cy (0 : Int32) c_nodeS c_nodeD c_pairE c_pairO c_bit c_lag c_lagSum c_row)) hD hS hA [0, 1] rfl
  refine va_calli (va_runV (As := []) (rest := []) ⟨hx, hb, hml, hown, hts⟩ (c_X12_isCoded l dC dI cy h0 h_row h_kept h_isKept h_aside h_eight h_rows h_scales h_dealt h_bytes h_heardRow h_made h_comes h_backs h_fresh H.size (0 : Int32) c_nodeS c_nodeD c_pairE c_pairO c_bit c_lag c_lagSum c_row _ hw) (cwV 0 hts (goodV mw_935 mw_932 mw_933 mw_934 mw_5) rfl rfl rfl (by decide +kernel) ⟨Nat.le_of_ble_eq_true rfl, Nat.le_of_ble_eq_true rfl⟩) ⟨PX_blind, va_recv hK hPc (ci := 12) (q0 := 0) rfl rfl, PX_pre hPc hK hDc hG⟩ rfl rfl hl.1 rfl (lv_room (Nat.le_of_ble_eq_true rfl)) dX12_band_6 ⟨Nat.zero_le _, Nat.zero_le _⟩) hS (fun q _ h => hFc q h) hFc ?_; clear hw hS; intro r1 _ t H1 locs1 ht hvm hw hB hz1 hk1 hS
  obtain ⟨hP1, -, -⟩ := hB
  rw [ht] at hP1
  replace hP := jC0 hP hD [0, 1] [] rfl hk1 hP1 (w_X12_band h0 h_row h_kept h_isKept h_aside h_eight h_rows h_scales h_dealt h_bytes h_heardRow h_made h_comes h_backs h_fresh cy (0 : Int32) c_nodeS c_nodeD c_pairE c_pairO c_bit c_lag c_lagSum c_row) rfl rfl rfl 2 rfl (by decide +kernel); clear hD; obtain ⟨hP, hD⟩ := hP
  replace hP : va_P (dC, dI) vwCl (w_X12_band h0 h_row h_kept h_isKept h_aside h_eight h_rows h_scales h_dealt h_bytes h_heardRow h_made h_comes h_backs h_fresh cy (0 : Int32) c_nodeS c_nodeD c_pairE c_pairO c_bit c_lag c_lagSum c_row) H1 := hP
  replace hD : va_D A (w_X12_band h0 h_row h_kept h_isKept h_aside h_eight h_rows h_scales h_dealt h_bytes h_heardRow h_made h_comes h_backs h_fresh cy (0 : Int32) c_nodeS c_nodeD c_pairE c_pairO c_bit c_lag c_lagSum c_row) := hD
  clear hPc hDc hFc hP1 hk1 hz1 hvm ht; clear t; clear H locs; obtain ⟨H, hH⟩ : ∃ H, H = H1 := ⟨_, rfl⟩; obtain ⟨locs, hlo⟩ : ∃ L, L = locs1 := ⟨_, rfl⟩; subst hH; subst hlo
  refine W.widen (k := 0) (n := 0) (Nat.le_refl 0) (Nat.le_refl 0) ?_
  refine lv_if_eq (tgt := 45) hx hb dX12_band_9 (by decide) (fun c2 => ?_) (fun c2 => ?_)
  · replace hw := hw.1 c2; clear c2
    refine lv_ldc (v := -2147483648) hx hb hown (hts _ (List.mem_cons_of_mem _ mw_908)) dX12_band_45 ?_
    subst hQe
    exact W.iret (v := (-2147483648 : Int32)) hx hb hr (fun t ht hW => ⟨⟨(-2147483648 : Int32), (0 : Int32), rfl, hw, by rw [ht]; exact hP, va_K.moved hW.alike hK, hD⟩, hS.F ht⟩) hS.2.2 dX12_band_47
  · replace hw := hw.2 c2; clear c2
    refine lv_iload_n hx hb dX12_band_12 rfl (lv_at hl 1 rfl) ?_
    refine lv_iload_n hx hb dX12_band_13 rfl (lv_at hl 2 rfl) ?_
    have hPc := pSub (ws' := (w_X12_isBand cy)) hP [] rfl
    have hDc := dSub (ws' := (w_X12_isBand cy)) hD [] (by decide) rfl
    have hFc := va_free (wc := (w_X12_isBand cy)) hD hS hA [] rfl
    refine va_calli (va_runS (As := [.int v1, .int v2]) (rest := []) ⟨hx, hb, hml, hown, hts⟩ (c_X12_isBand l dC dI cy  H.size v1 v2 _ hw) (va_cwS 2 hts (goodS mw_938 mw_936 mw_937 mw_5) rfl rfl rfl (by decide +kernel) ⟨Nat.le_of_ble_eq_true rfl, Nat.le_of_ble_eq_true rfl⟩) ⟨PX_blind, PX_pre hPc hK hDc hG⟩ rfl rfl hl.1 rfl (lv_room (Nat.le_of_ble_eq_true rfl)) dX12_band_14 ⟨Nat.zero_le _, Nat.zero_le _⟩) hS (fun q _ h => hFc q h) hFc ?_; clear hw hS; intro r3 _ t H1 locs1 ht hvm hw hB hz1 hk1 hS
    obtain ⟨hP1, -, -⟩ := hB
    rw [ht] at hP1
    replace hP := jC0 hP hD [] [0, 1] rfl hk1 hP1 (w_X12_band h0 h_row h_kept h_isKept h_aside h_eight h_rows h_scales h_dealt h_bytes h_heardRow h_made h_comes h_backs h_fresh cy (0 : Int32) c_nodeS c_nodeD c_pairE c_pairO c_bit c_lag c_lagSum c_row) rfl rfl rfl 2 rfl (by decide +kernel); clear hD; obtain ⟨hP, hD⟩ := hP
    replace hP : va_P (dC, dI) vwCl (w_X12_band h0 h_row h_kept h_isKept h_aside h_eight h_rows h_scales h_dealt h_bytes h_heardRow h_made h_comes h_backs h_fresh cy (0 : Int32) c_nodeS c_nodeD c_pairE c_pairO c_bit c_lag c_lagSum c_row) H1 := hP
    replace hD : va_D A (w_X12_band h0 h_row h_kept h_isKept h_aside h_eight h_rows h_scales h_dealt h_bytes h_heardRow h_made h_comes h_backs h_fresh cy (0 : Int32) c_nodeS c_nodeD c_pairE c_pairO c_bit c_lag c_lagSum c_row) := hD
    clear hPc hDc hFc hP1 hk1 hz1 hvm ht; clear t; clear H locs; obtain ⟨H, hH⟩ : ∃ H, H = H1 := ⟨_, rfl⟩; obtain ⟨locs, hlo⟩ : ∃ L, L = locs1 := ⟨_, rfl⟩; subst hH; subst hlo
    refine W.widen (k := 0) (n := 0) (Nat.le_refl 0) (Nat.le_refl 0) ?_
    refine lv_if_eq (tgt := 45) hx hb dX12_band_17 (by decide) (fun c4 => ?_) (fun c4 => ?_)
    · replace hw := hw.1 c4; clear c4
      refine lv_ldc (v := -2147483648) hx hb hown (hts _ (List.mem_cons_of_mem _ mw_908)) dX12_band_45 ?_
      subst hQe
      exact W.iret (v := (-2147483648 : Int32)) hx hb hr (fun t ht hW => ⟨⟨(-2147483648 : Int32), (0 : Int32), rfl, hw, by rw [ht]; exact hP, va_K.moved hW.alike hK, hD⟩, hS.F ht⟩) hS.2.2 dX12_band_47
    · replace hw := hw.2 c4; clear c4
      refine lv_iload_n hx hb dX12_band_20 rfl (lv_at hl 3 rfl) ?_
      refine lv_i2l (v := v3.toInt64) hx hb dX12_band_21 rfl ?_
      refine lv_lconst (v := 0) hx hb dX12_band_22 (by decide) ?_
      refine lv_ldc2 (v := 3) hx hb hown (hts _ (List.mem_cons_of_mem _ mw_931)) dX12_band_23 ?_
      have hPc := pSub (ws' := (w_X12_in cy)) hP [] rfl
      have hDc := dSub (ws' := (w_X12_in cy)) hD [] (by decide) rfl
      have hFc := va_free (wc := (w_X12_in cy)) hD hS hA [] rfl
      refine va_calli (va_runS (As := [.long (v3.toInt64), .long (0 : Int64), .long (3 : Int64)]) (rest := []) ⟨hx, hb, hml, hown, hts⟩ (c_X12_in l dC dI cy  H.size (v3.toInt64) (0 : Int64) (3 : Int64) _ hw) (va_cwS 3 hts (goodS mw_207 mw_205 mw_206 mw_5) rfl rfl rfl (by decide +kernel) ⟨Nat.le_of_ble_eq_true rfl, Nat.le_of_ble_eq_true rfl⟩) ⟨PX_blind, PX_pre hPc hK hDc hG⟩ rfl rfl hl.1 rfl (lv_room (Nat.le_of_ble_eq_true rfl)) dX12_band_26 ⟨Nat.zero_le _, Nat.zero_le _⟩) hS (fun q _ h => hFc q h) hFc ?_; clear hw hS; intro r5 _ t H1 locs1 ht hvm hw hB hz1 hk1 hS
      obtain ⟨hP1, -, -⟩ := hB
      rw [ht] at hP1
      replace hP := jC0 hP hD [] [0, 1] rfl hk1 hP1 (w_X12_band h0 h_row h_kept h_isKept h_aside h_eight h_rows h_scales h_dealt h_bytes h_heardRow h_made h_comes h_backs h_fresh cy (0 : Int32) c_nodeS c_nodeD c_pairE c_pairO c_bit c_lag c_lagSum c_row) rfl rfl rfl 2 rfl (by decide +kernel); clear hD; obtain ⟨hP, hD⟩ := hP
      replace hP : va_P (dC, dI) vwCl (w_X12_band h0 h_row h_kept h_isKept h_aside h_eight h_rows h_scales h_dealt h_bytes h_heardRow h_made h_comes h_backs h_fresh cy (0 : Int32) c_nodeS c_nodeD c_pairE c_pairO c_bit c_lag c_lagSum c_row) H1 := hP
      replace hD : va_D A (w_X12_band h0 h_row h_kept h_isKept h_aside h_eight h_rows h_scales h_dealt h_bytes h_heardRow h_made h_comes h_backs h_fresh cy (0 : Int32) c_nodeS c_nodeD c_pairE c_pairO c_bit c_lag c_lagSum c_row) := hD
      clear hPc hDc hFc hP1 hk1 hz1 hvm ht; clear t; clear H locs; obtain ⟨H, hH⟩ : ∃ H, H = H1 := ⟨_, rfl⟩; obtain ⟨locs, hlo⟩ : ∃ L, L = locs1 := ⟨_, rfl⟩; subst hH; subst hlo
      refine W.widen (k := 0) (n := 0) (Nat.le_refl 0) (Nat.le_refl 0) ?_
      refine lv_if_eq (tgt := 45) hx hb dX12_band_29 (by decide) (fun c6 => ?_) (fun c6 => ?_)
      · replace hw := hw.1 c6; clear c6
        refine lv_ldc (v := -2147483648) hx hb hown (hts _ (List.mem_cons_of_mem _ mw_908)) dX12_band_45 ?_
        subst hQe
        exact W.iret (v := (-2147483648 : Int32)) hx hb hr (fun t ht hW => ⟨⟨(-2147483648 : Int32), (0 : Int32), rfl, hw, by rw [ht]; exact hP, va_K.moved hW.alike hK, hD⟩, hS.F ht⟩) hS.2.2 dX12_band_47
      · replace hw := hw.2 c6; clear c6
        refine lv_iload hx hb dX12_band_32 (lv_at hl 4 rfl) ?_
        refine lv_i2l (v := v4.toInt64) hx hb dX12_band_34 rfl ?_
        refine lv_lconst (v := 0) hx hb dX12_band_35 (by decide) ?_
        refine lv_ldc2 (v := 3) hx hb hown (hts _ (List.mem_cons_of_mem _ mw_931)) dX12_band_36 ?_
        have hPc := pSub (ws' := (w_X12_in cy)) hP [] rfl
        have hDc := dSub (ws' := (w_X12_in cy)) hD [] (by decide) rfl
        have hFc := va_free (wc := (w_X12_in cy)) hD hS hA [] rfl
        refine va_calli (va_runS (As := [.long (v4.toInt64), .long (0 : Int64), .long (3 : Int64)]) (rest := []) ⟨hx, hb, hml, hown, hts⟩ (c_X12_in l dC dI cy  H.size (v4.toInt64) (0 : Int64) (3 : Int64) _ hw) (va_cwS 3 hts (goodS mw_207 mw_205 mw_206 mw_5) rfl rfl rfl (by decide +kernel) ⟨Nat.le_of_ble_eq_true rfl, Nat.le_of_ble_eq_true rfl⟩) ⟨PX_blind, PX_pre hPc hK hDc hG⟩ rfl rfl hl.1 rfl (lv_room (Nat.le_of_ble_eq_true rfl)) dX12_band_39 ⟨Nat.zero_le _, Nat.zero_le _⟩) hS (fun q _ h => hFc q h) hFc ?_; clear hw hS; intro r7 _ t H1 locs1 ht hvm hw hB hz1 hk1 hS
        obtain ⟨hP1, -, -⟩ := hB
        rw [ht] at hP1
        replace hP := jC0 hP hD [] [0, 1] rfl hk1 hP1 (w_X12_band h0 h_row h_kept h_isKept h_aside h_eight h_rows h_scales h_dealt h_bytes h_heardRow h_made h_comes h_backs h_fresh cy (0 : Int32) c_nodeS c_nodeD c_pairE c_pairO c_bit c_lag c_lagSum c_row) rfl rfl rfl 2 rfl (by decide +kernel); clear hD; obtain ⟨hP, hD⟩ := hP
        replace hP : va_P (dC, dI) vwCl (w_X12_band h0 h_row h_kept h_isKept h_aside h_eight h_rows h_scales h_dealt h_bytes h_heardRow h_made h_comes h_backs h_fresh cy (0 : Int32) c_nodeS c_nodeD c_pairE c_pairO c_bit c_lag c_lagSum c_row) H1 := hP
        replace hD : va_D A (w_X12_band h0 h_row h_kept h_isKept h_aside h_eight h_rows h_scales h_dealt h_bytes h_heardRow h_made h_comes h_backs h_fresh cy (0 : Int32) c_nodeS c_nodeD c_pairE c_pairO c_bit c_lag c_lagSum c_row) := hD
        clear hPc hDc hFc hP1 hk1 hz1 hvm ht; clear t; clear H locs; obtain ⟨H, hH⟩ : ∃ H, H = H1 := ⟨_, rfl⟩; obtain ⟨locs, hlo⟩ : ∃ L, L = locs1 := ⟨_, rfl⟩; subst hH; subst hlo
        refine W.widen (k := 0) (n := 0) (Nat.le_refl 0) (Nat.le_refl 0) ?_
        refine lv_if_ne (tgt := 48) hx hb dX12_band_42 (by decide) (fun c8 => ?_) (fun c8 => ?_)
        · replace hw := hw.2 c8; clear c8
          refine lv_iload_n hx hb dX12_band_48 rfl (lv_at hl 1 rfl) ?_
          refine lv_iload_n hx hb dX12_band_49 rfl (lv_at hl 2 rfl) ?_
          refine lv_iload_n hx hb dX12_band_50 rfl (lv_at hl 3 rfl) ?_
          have hPc := pSub (ws' := (w_X12_bandAt cy)) hP [] rfl
          have hDc := dSub (ws' := (w_X12_bandAt cy)) hD [] (by decide) rfl
          have hFc := va_free (wc := (w_X12_bandAt cy)) hD hS hA [] rfl
          refine va_calli (va_runS (As := [.int v1, .int v2, .int v3]) (rest := []) ⟨hx, hb, hml, hown, hts⟩ (c_X12_bandAt l dC dI cy  H.size v1 v2 v3 _ hw) (va_cwS 3 hts (goodS mw_633 mw_631 mw_632 mw_5) rfl rfl rfl (by decide +kernel) ⟨Nat.le_of_ble_eq_true rfl, Nat.le_of_ble_eq_true rfl⟩) ⟨PX_blind, PX_pre hPc hK hDc hG⟩ rfl rfl hl.1 rfl (lv_room (Nat.le_of_ble_eq_true rfl)) dX12_band_51 ⟨Nat.zero_le _, Nat.zero_le _⟩) hS (fun q _ h => hFc q h) hFc ?_; clear hw hS; intro r9 _ t H1 locs1 ht hvm hw hB hz1 hk1 hS
          obtain ⟨hP1, -, -⟩ := hB
          rw [ht] at hP1
          replace hP := jC0 hP hD [] [0, 1] rfl hk1 hP1 (w_X12_band h0 h_row h_kept h_isKept h_aside h_eight h_rows h_scales h_dealt h_bytes h_heardRow h_made h_comes h_backs h_fresh cy (0 : Int32) c_nodeS c_nodeD c_pairE c_pairO c_bit c_lag c_lagSum c_row) rfl rfl rfl 2 rfl (by decide +kernel); clear hD; obtain ⟨hP, hD⟩ := hP
          replace hP : va_P (dC, dI) vwCl (w_X12_band h0 h_row h_kept h_isKept h_aside h_eight h_rows h_scales h_dealt h_bytes h_heardRow h_made h_comes h_backs h_fresh cy (0 : Int32) c_nodeS c_nodeD c_pairE c_pairO c_bit c_lag c_lagSum c_row) H1 := hP
          replace hD : va_D A (w_X12_band h0 h_row h_kept h_isKept h_aside h_eight h_rows h_scales h_dealt h_bytes h_heardRow h_made h_comes h_backs h_fresh cy (0 : Int32) c_nodeS c_nodeD c_pairE c_pairO c_bit c_lag c_lagSum c_row) := hD
          clear hPc hDc hFc hP1 hk1 hz1 hvm ht; clear t; clear H locs; obtain ⟨H, hH⟩ : ∃ H, H = H1 := ⟨_, rfl⟩; obtain ⟨locs, hlo⟩ : ∃ L, L = locs1 := ⟨_, rfl⟩; subst hH; subst hlo
          refine W.widen (k := 0) (n := 0) (Nat.le_refl 0) (Nat.le_refl 0) ?_
          refine lv_istore (lv' := [(5, .int r9), (0, .ref h0), (1, .int v1), (2, .int v2), (3, .int v3), (4, .int v4)]) hx hb dX12_band_54 hl (by decide) rfl ?_; clear hl; clear ls; intro ls hl
          refine lv_bipush (v := 8) hx hb dX12_band_56 (by decide) ?_
          refine lv_iload_n hx hb dX12_band_58 rfl (lv_at hl 2 rfl) ?_
          refine lv_imul hx hb dX12_band_59 ?_
          refine lv_iload_n hx hb dX12_band_60 rfl (lv_at hl 3 rfl) ?_
          refine lv_iadd hx hb dX12_band_61 ?_
          refine lv_topi (fun x10 e_x10 => ?_)
          replace hw := hw x10 e_x10
          clear e_x10
          refine lv_istore (lv' := [(6, .int x10), (5, .int r9), (0, .ref h0), (1, .int v1), (2, .int v2), (3, .int v3), (4, .int v4)]) hx hb dX12_band_62 hl (by decide) rfl ?_; clear hl; clear ls; intro ls hl
          refine lv_aload_n hx hb dX12_band_64 rfl (lv_at hl 2 rfl) ?_
          refine va_get (D := (dC, dI)) (ci := 12) (v := .ref h_row) (C := RX12) (T := TX12) (N := 22) hx hb hts inX12 hown hK hP 0 rfl rfl 1 (by decide) (hts _ (List.mem_cons_of_mem _ mw_169)) (fun _ h9 => h9) rfl dX12_band_65 ?_
          refine lv_sipush (v := 637) hx hb dX12_band_68 (by decide) ?_
          refine lv_iload hx hb dX12_band_71 (lv_at hl 0 rfl) ?_
          refine lv_iadd hx hb dX12_band_73 ?_
          obtain ⟨h11, hw⟩ := hw
          refine xiald (k := ((637 : Int32) + x10).toNatClampNeg) hx hb hK hP 1 0 rfl rfl h11 rfl dX12_band_74 ?_
          refine lv_topi (fun x12 e_x12 => ?_)
          replace hw := hw x12 e_x12
          clear e_x12
          refine lv_istore (lv' := [(7, .int x12), (6, .int x10), (5, .int r9), (0, .ref h0), (1, .int v1), (2, .int v2), (3, .int v3), (4, .int v4)]) hx hb dX12_band_75 hl (by decide) rfl ?_; clear hl; clear ls; intro ls hl
          refine lv_aload_n hx hb dX12_band_77 rfl (lv_at hl 3 rfl) ?_
          refine va_get (D := (dC, dI)) (ci := 12) (v := .ref h_row) (C := RX12) (T := TX12) (N := 22) hx hb hts inX12 hown hK hP 0 rfl rfl 1 (by decide) (hts _ (List.mem_cons_of_mem _ mw_169)) (fun _ h9 => h9) rfl dX12_band_78 ?_
          refine lv_sipush (v := 621) hx hb dX12_band_81 (by decide) ?_
          refine lv_iload hx hb dX12_band_84 (lv_at hl 1 rfl) ?_
          refine lv_iadd hx hb dX12_band_86 ?_
          obtain ⟨h13, hw⟩ := hw
          refine xiald (k := ((621 : Int32) + x10).toNatClampNeg) hx hb hK hP 1 0 rfl rfl h13 rfl dX12_band_87 ?_
          refine lv_topi (fun x14 e_x14 => ?_)
          replace hw := hw x14 e_x14
          clear e_x14
          refine lv_istore (lv' := [(8, .int x14), (7, .int x12), (6, .int x10), (5, .int r9), (0, .ref h0), (1, .int v1), (2, .int v2), (3, .int v3), (4, .int v4)]) hx hb dX12_band_88 hl (by decide) rfl ?_; clear hl; clear ls; intro ls hl
          refine lv_aload_n hx hb dX12_band_90 rfl (lv_at hl 4 rfl) ?_
          refine va_get (D := (dC, dI)) (ci := 12) (v := .ref h_row) (C := RX12) (T := TX12) (N := 22) hx hb hts inX12 hown hK hP 0 rfl rfl 1 (by decide) (hts _ (List.mem_cons_of_mem _ mw_169)) (fun _ h9 => h9) rfl dX12_band_91 ?_
          refine lv_sipush (v := 557) hx hb dX12_band_94 (by decide) ?_
          refine lv_iload hx hb dX12_band_97 (lv_at hl 3 rfl) ?_
          refine lv_iadd hx hb dX12_band_99 ?_
          obtain ⟨h15, hw⟩ := hw
          refine xiald (k := ((557 : Int32) + r9).toNatClampNeg) hx hb hK hP 1 0 rfl rfl h15 rfl dX12_band_100 ?_
          refine lv_topi (fun x16 e_x16 => ?_)
          replace hw := hw x16 e_x16
          clear e_x16
          refine lv_istore (lv' := [(9, .int x16), (8, .int x14), (7, .int x12), (6, .int x10), (5, .int r9), (0, .ref h0), (1, .int v1), (2, .int v2), (3, .int v3), (4, .int v4)]) hx hb dX12_band_101 hl (by decide) rfl ?_; clear hl; clear ls; intro ls hl
          refine lv_iload hx hb dX12_band_103 (lv_at hl 2 rfl) ?_
          refine jn1 (Gg := fun (x17 : Int32) => ∀ (H : Heap) (locs : List Loc) (ls : Array Slot), va_P (dC, dI) vwCl (w_X12_band h0 h_row h_kept h_isKept h_aside h_eight h_rows h_scales h_dealt h_bytes h_heardRow h_made h_comes h_backs h_fresh cy (0 : Int32) c_nodeS c_nodeD c_pairE c_pairO c_bit c_lag c_lagSum c_row) H → va_D A (w_X12_band h0 h_row h_kept h_isKept h_aside h_eight h_rows h_scales h_dealt h_bytes h_heardRow h_made h_comes h_backs h_fresh cy (0 : Int32) c_nodeS c_nodeD c_pairE c_pairO c_bit c_lag c_lagSum c_row) → va_S A s.heap H locs → lv_has ls 11 [(0, .ref h0), (4, .int v4), (5, .int r9), (7, .int x12), (8, .int x14), (9, .int x16)] → W p l e { frames := 2, cells := 0, slots := 0, locals := 49 } s m av below meth c H locs 0 0 Q0 (F0 m 121 ls [.int x17])) hw ?_ ?_ <;> clear hw
          · clear hP hD hS hl; clear H locs ls; intro x17 hw H locs ls hP hD hS hl
            refine lv_istore (lv' := [(10, .int x17), (0, .ref h0), (4, .int v4), (5, .int r9), (7, .int x12), (8, .int x14), (9, .int x16)]) hx hb dX12_band_121 hl (by decide) rfl ?_; clear hl; clear ls; intro ls hl
            refine lv_iload hx hb dX12_band_123 (lv_at hl 2 rfl) ?_
            refine lv_if_ne (tgt := 142) hx hb dX12_band_125 (by decide) (fun c20 => ?_) (fun c20 => ?_)
            · replace hw := hw.2 c20; clear c20
              refine lv_iload hx hb dX12_band_142 (lv_at hl 2 rfl) ?_
              refine lv_iconst (v := 1) hx hb dX12_band_144 (by decide) ?_
              refine lv_icmp_ne (tgt := 153) hx hb dX12_band_145 (by decide) (fun c21 => ?_) (fun c21 => ?_)
              · replace hw := hw.2 c21; clear c21
                refine lv_iload hx hb dX12_band_153 (lv_at hl 2 rfl) ?_
                refine lv_iconst (v := 2) hx hb dX12_band_155 (by decide) ?_
                refine lv_icmp_ne (tgt := 164) hx hb dX12_band_156 (by decide) (fun c22 => ?_) (fun c22 => ?_)
                · replace hw := hw.2 c22; clear c22
                  refine lv_iload hx hb dX12_band_164 (lv_at hl 0 rfl) ?_
                  refine lv_iload hx hb dX12_band_166 (lv_at hl 5 rfl) ?_
                  refine lv_iload hx hb dX12_band_168 (lv_at hl 4 rfl) ?_
                  have hPc := pSub (ws' := (w_X12_unquant cy)) hP [] rfl
                  have hDc := dSub (ws' := (w_X12_unquant cy)) hD [] (by decide) rfl
                  have hFc := va_free (wc := (w_X12_unquant cy)) hD hS hA [] rfl
                  refine va_calli (va_runS (As := [.int x17, .int x14, .int x12]) (rest := []) ⟨hx, hb, hml, hown, hts⟩ (c_X12_unquant l dC dI cy  H.size x17 x14 x12 _ hw) (va_cwS 3 hts (goodS mw_765 mw_763 mw_764 mw_5) rfl rfl rfl (by decide +kernel) ⟨Nat.le_of_ble_eq_true rfl, Nat.le_of_ble_eq_true rfl⟩) ⟨PX_blind, PX_pre hPc hK hDc hG⟩ rfl rfl hl.1 rfl (lv_room (Nat.le_of_ble_eq_true rfl)) dX12_band_170 ⟨Nat.zero_le _, Nat.zero_le _⟩) hS (fun q _ h => hFc q h) hFc ?_; clear hw hS; intro r23 _ t H1 locs1 ht hvm hw hB hz1 hk1 hS
                  obtain ⟨hP1, -, -⟩ := hB
                  rw [ht] at hP1
                  replace hP := jC0 hP hD [] [0, 1] rfl hk1 hP1 (w_X12_band h0 h_row h_kept h_isKept h_aside h_eight h_rows h_scales h_dealt h_bytes h_heardRow h_made h_comes h_backs h_fresh cy (0 : Int32) c_nodeS c_nodeD c_pairE c_pairO c_bit c_lag c_lagSum c_row) rfl rfl rfl 2 rfl (by decide +kernel); clear hD; obtain ⟨hP, hD⟩ := hP
                  replace hP : va_P (dC, dI) vwCl (w_X12_band h0 h_row h_kept h_isKept h_aside h_eight h_rows h_scales h_dealt h_bytes h_heardRow h_made h_comes h_backs h_fresh cy (0 : Int32) c_nodeS c_nodeD c_pairE c_pairO c_bit c_lag c_lagSum c_row) H1 := hP
                  replace hD : va_D A (w_X12_band h0 h_row h_kept h_isKept h_aside h_eight h_rows h_scales h_dealt h_bytes h_heardRow h_made h_comes h_backs h_fresh cy (0 : Int32) c_nodeS c_nodeD c_pairE c_pairO c_bit c_lag c_lagSum c_row) := hD
                  clear hPc hDc hFc hP1 hk1 hz1 hvm ht; clear t; clear H locs; obtain ⟨H, hH⟩ : ∃ H, H = H1 := ⟨_, rfl⟩; obtain ⟨locs, hlo⟩ : ∃ L, L = locs1 := ⟨_, rfl⟩; subst hH; subst hlo
                  refine W.widen (k := 0) (n := 0) (Nat.le_refl 0) (Nat.le_refl 0) ?_
                  subst hQe
                  exact W.iret (v := r23) hx hb hr (fun t ht hW => ⟨⟨r23, (0 : Int32), rfl, hw, by rw [ht]; exact hP, va_K.moved hW.alike hK, hD⟩, hS.F ht⟩) hS.2.2 dX12_band_173
                · replace hw := hw.1 c22; clear c22
                  refine lv_iload hx hb dX12_band_159 (lv_at hl 0 rfl) ?_
                  refine lv_goto (tgt := 173) hx hb dX12_band_161 (by decide) ?_
                  subst hQe
                  exact W.iret (v := x17) hx hb hr (fun t ht hW => ⟨⟨x17, (0 : Int32), rfl, hw, by rw [ht]; exact hP, va_K.moved hW.alike hK, hD⟩, hS.F ht⟩) hS.2.2 dX12_band_173
              · replace hw := hw.1 c21; clear c21
                refine lv_iload hx hb dX12_band_148 (lv_at hl 6 rfl) ?_
                refine lv_goto (tgt := 173) hx hb dX12_band_150 (by decide) ?_
                subst hQe
                exact W.iret (v := x16) hx hb hr (fun t ht hW => ⟨⟨x16, (0 : Int32), rfl, hw, by rw [ht]; exact hP, va_K.moved hW.alike hK, hD⟩, hS.F ht⟩) hS.2.2 dX12_band_173
            · replace hw := hw.1 c20; clear c20
              refine lv_aload_n hx hb dX12_band_128 rfl (lv_at hl 1 rfl) ?_
              refine va_get (D := (dC, dI)) (ci := 12) (v := .ref h_row) (C := RX12) (T := TX12) (N := 22) hx hb hts inX12 hown hK hP 0 rfl rfl 1 (by decide) (hts _ (List.mem_cons_of_mem _ mw_169)) (fun _ h9 => h9) rfl dX12_band_129 ?_
              refine lv_sipush (v := 493) hx hb dX12_band_132 (by decide) ?_
              refine lv_iload hx hb dX12_band_135 (lv_at hl 3 rfl) ?_
              refine lv_iadd hx hb dX12_band_137 ?_
              obtain ⟨h24, hw⟩ := hw
              refine xiald (k := ((493 : Int32) + r9).toNatClampNeg) hx hb hK hP 1 0 rfl rfl h24 rfl dX12_band_138 ?_
              refine lv_goto (tgt := 173) hx hb dX12_band_139 (by decide) ?_
              subst hQe
              exact W.iret (v := c_row ((493 : Int32) + r9).toNatClampNeg) hx hb hr (fun t ht hW => ⟨⟨(c_row ((493 : Int32) + r9).toNatClampNeg), (0 : Int32), rfl, hw, by rw [ht]; exact hP, va_K.moved hW.alike hK, hD⟩, hS.F ht⟩) hS.2.2 dX12_band_173
          · intro j19 hw
            refine lv_if_ne (tgt := 112) hx hb dX12_band_105 (by decide) (fun c25 => ?_) (fun c25 => ?_)
            · replace hw := hw.2 c25; clear c25
              refine lv_iload hx hb dX12_band_112 (lv_at hl 0 rfl) ?_
              refine lv_iload hx hb dX12_band_114 (lv_at hl 1 rfl) ?_
              refine lv_iload hx hb dX12_band_116 (lv_at hl 2 rfl) ?_
              have hPc := pSub (ws' := (w_X12_quant cy)) hP [] rfl
              have hDc := dSub (ws' := (w_X12_quant cy)) hD [] (by decide) rfl
              have hFc := va_free (wc := (w_X12_quant cy)) hD hS hA [] rfl
              refine va_calli (va_runS (As := [.int x16, .int x14, .int x12]) (rest := []) ⟨hx, hb, hml, hown, hts⟩ (c_X12_quant l dC dI cy  H.size x16 x14 x12 _ hw) (va_cwS 3 hts (goodS mw_671 mw_669 mw_670 mw_5) rfl rfl rfl (by decide +kernel) ⟨Nat.le_of_ble_eq_true rfl, Nat.le_of_ble_eq_true rfl⟩) ⟨PX_blind, PX_pre hPc hK hDc hG⟩ rfl rfl hl.1 rfl (lv_room (Nat.le_of_ble_eq_true rfl)) dX12_band_118 ⟨Nat.zero_le _, Nat.zero_le _⟩) hS (fun q _ h => hFc q h) hFc ?_; clear hw hS; intro r26 _ t H1 locs1 ht hvm hw hB hz1 hk1 hS
              obtain ⟨hP1, -, -⟩ := hB
              rw [ht] at hP1
              replace hP := jC0 hP hD [] [0, 1] rfl hk1 hP1 (w_X12_band h0 h_row h_kept h_isKept h_aside h_eight h_rows h_scales h_dealt h_bytes h_heardRow h_made h_comes h_backs h_fresh cy (0 : Int32) c_nodeS c_nodeD c_pairE c_pairO c_bit c_lag c_lagSum c_row) rfl rfl rfl 2 rfl (by decide +kernel); clear hD; obtain ⟨hP, hD⟩ := hP
              replace hP : va_P (dC, dI) vwCl (w_X12_band h0 h_row h_kept h_isKept h_aside h_eight h_rows h_scales h_dealt h_bytes h_heardRow h_made h_comes h_backs h_fresh cy (0 : Int32) c_nodeS c_nodeD c_pairE c_pairO c_bit c_lag c_lagSum c_row) H1 := hP
              replace hD : va_D A (w_X12_band h0 h_row h_kept h_isKept h_aside h_eight h_rows h_scales h_dealt h_bytes h_heardRow h_made h_comes h_backs h_fresh cy (0 : Int32) c_nodeS c_nodeD c_pairE c_pairO c_bit c_lag c_lagSum c_row) := hD
              clear hPc hDc hFc hP1 hk1 hz1 hvm ht; clear t; clear H locs; obtain ⟨H, hH⟩ : ∃ H, H = H1 := ⟨_, rfl⟩; obtain ⟨locs, hlo⟩ : ∃ L, L = locs1 := ⟨_, rfl⟩; subst hH; subst hlo
              refine W.widen (k := 0) (n := 0) (Nat.le_refl 0) (Nat.le_refl 0) ?_
              exact j19 r26 hw H locs ls hP hD hS (lv_sub hl [5, 9, 4, 2, 1, 0] rfl)
            · replace hw := hw.1 c25; clear c25
              refine lv_iconst (v := -1) hx hb dX12_band_108 (by decide) ?_
              refine lv_goto (tgt := 121) hx hb dX12_band_109 (by decide) ?_
              exact j19 (-1 : Int32) hw H locs ls hP hD hS (lv_sub hl [5, 9, 4, 2, 1, 0] rfl)
        · replace hw := hw.1 c8; clear c8
          refine lv_ldc (v := -2147483648) hx hb hown (hts _ (List.mem_cons_of_mem _ mw_908)) dX12_band_45 ?_
          subst hQe
          exact W.iret (v := (-2147483648 : Int32)) hx hb hr (fun t ht hW => ⟨⟨(-2147483648 : Int32), (0 : Int32), rfl, hw, by rw [ht]; exact hP, va_K.moved hW.alike hK, hD⟩, hS.F ht⟩) hS.2.2 dX12_band_47
set_option maxHeartbeats 4000000 in
set_option maxRecDepth 100000 in
theorem c_X12_takeScales (l : Launch) (dC : Nat → ClassId) (dI : Nat → Nat → Nat) (cy : Nat → ClassId) (h0 h_row h_kept h_isKept h_aside h_eight h_rows h_scales h_dealt h_bytes h_heardRow h_made h_comes h_backs h_fresh : Nat) (sz : Nat) (c_thrown : Int32) (c_nodeS : Int32) (c_nodeD : Int32) (c_pairE : Int32) (c_pairO : Int32) (c_bit : Int32) (c_lag : Int32) (c_lagSum : Int32) (c_row : Nat → Int32) (c_scales : Nat → Int32) (post : (Nat → Int32) → Prop) (hw : wp_X12_takeScales c_row c_scales post) : Met l yX12_takeScales wsX12_takeScales ({ frames := 0, cells := 0, slots := 0, locals := 0 }) (PX dC dI cy [.ref h0] sz (w_X12_takeScales h0 h_row h_kept h_isKept h_aside h_eight h_rows h_scales h_dealt h_bytes h_heardRow h_made h_comes h_backs h_fresh cy c_thrown c_nodeS c_nodeD c_pairE c_pairO c_bit c_lag c_lagSum c_row c_scales)) (va_Qv (fun (u : (Nat → Int32)) => post u) (QX dC dI cy (va_A (w_X12_takeScales h0 h_row h_kept h_isKept h_aside h_eight h_rows h_scales h_dealt h_bytes h_heardRow h_made h_comes h_backs h_fresh cy c_thrown c_nodeS c_nodeD c_pairE c_pairO c_bit c_lag c_lagSum c_row c_scales) sz) (fun (u : (Nat → Int32)) => w_X12_takeScales h0 h_row h_kept h_isKept h_aside h_eight h_rows h_scales h_dealt h_bytes h_heardRow h_made h_comes h_backs h_fresh cy c_thrown c_nodeS c_nodeD c_pairE c_pairO c_bit c_lag c_lagSum c_row u)) (va_A (w_X12_takeScales h0 h_row h_kept h_isKept h_aside h_eight h_rows h_scales h_dealt h_bytes h_heardRow h_made h_comes h_backs h_fresh cy c_thrown c_nodeS c_nodeD c_pairE c_pairO c_bit c_lag c_lagSum c_row c_scales) sz)) 0 0 (va_A (w_X12_takeScales h0 h_row h_kept h_isKept h_aside h_eight h_rows h_scales h_dealt h_bytes h_heardRow h_made h_comes h_backs h_fresh cy c_thrown c_nodeS c_nodeD c_pairE c_pairO c_bit c_lag c_lagSum c_row c_scales) sz) := by
  refine Met.ofW (cc := cX12_takeScales) (maxL := 2) (ret := none) (by decide) rfl ?_
  intro p e s m args below meth c s₁ B hml hv
  obtain ⟨rfl, hsz, hP, hK, hD0, hG⟩ := hv
  have hx := B.exec
  have hb := B.bytes
  have hr := B.returns
  have hts := atoms_spec (ws := wsX12_takeScales) B.pre
  have hown : s.vm.findClass RX12 = some m.cls := findClass_of_methodNamed B.named
  have hlocks := B.notSynchronized
  subst hsz
  have hD := hD0.self (sz := s.heap.size)
  generalize hAe : va_A (w_X12_takeScales h0 h_row h_kept h_isKept h_aside h_eight h_rows h_scales h_dealt h_bytes h_heardRow h_made h_comes h_backs h_fresh cy c_thrown c_nodeS c_nodeD c_pairE c_pairO c_bit c_lag c_lagSum c_row c_scales) s.heap.size = A at hD ⊢
  have hA : ∀ q : Nat, s.heap.size ≤ q → A q := fun q h => by rw [← hAe]; exact Or.inr h
  have hS : va_S A s.heap s.heap [] := va_S.rf
  have hl := lv_entry ([.ref h0]) (n := 2) (Nat.le_of_ble_eq_true rfl)
  rw [lg_entry_eq]
  generalize (lg_sl ([.ref h0]) ++ List.replicate (2 - (lg_sl ([.ref h0])).length) Slot.unset).toArray = ls at hl ⊢
  replace hl : lv_has ls 2 [(0, .ref h0)] := hl
  have inX12 : ∀ w ∈ u_ws RX12 TX12 22, w ∈ wsX12_takeScales := fun w h => List.mem_cons_of_mem _ (inlX12 w h)
  clear hAe hD0 B
  unfold wp_X12_takeScales at hw
  generalize hQe : MQ below _ _ s _ _ _ = Q0
  generalize ([.ref h0] : List Value).toArray = av at *
  obtain ⟨H, hH⟩ : ∃ H, H = s.heap := ⟨_, rfl⟩
  obtain ⟨locs, hlo⟩ : ∃ L : List Loc, L = [] := ⟨_, rfl⟩
  replace hP : va_P (dC, dI) vwCl (w_X12_takeScales h0 h_row h_kept h_isKept h_aside h_eight h_rows h_scales h_dealt h_bytes h_heardRow h_made h_comes h_backs h_fresh cy c_thrown c_nodeS c_nodeD c_pairE c_pairO c_bit c_lag c_lagSum c_row c_scales) H := by rw [hH]; exact hP
  replace hS : va_S A s.heap H locs := by rw [hH, hlo]; exact hS
  suffices hgo : W p l e ({ frames := 0, cells := 0, slots := 0, locals := 0 }) s m av below meth c H locs 0 0 Q0 (F0 m 0 ls []) by rw [hH, hlo] at hgo; exact hgo
  clear hH hlo
  refine lv_iconst (v := 0) hx hb dX12_takeScales_0 (by decide) ?_
  refine lv_istore_n (lv' := [(1, .int (0 : Int32)), (0, .ref h0)]) hx hb dX12_takeScales_1 rfl hl (by decide) rfl ?_; clear hl; clear ls; intro ls hl
  obtain ⟨x1, e_x1⟩ : ∃ y : Int32, y = (0 : Int32) := ⟨_, rfl⟩
  replace hw := hw x1 e_x1
  replace hl : lv_has ls 2 [(1, .int x1), (0, .ref h0)] := by rw [e_x1]; exact hl
  clear e_x1
  replace hl := lv_sub (l' := [(1, .int x1), (0, .ref h0)]) hl [0, 1] rfl
  revert hl; revert hS; revert hD; revert hP; revert ls; revert locs; revert H
  revert hw; revert c_scales; revert x1
  refine Lz2_gr ?_; intro g2 ih3 x4 f5 hw
  intro H locs ls hP hD hS hl
  refine lv_iload_n hx hb dX12_takeScales_2 rfl (lv_at hl 0 rfl) ?_
  refine lv_bipush (v := 16) hx hb dX12_takeScales_3 (by decide) ?_
  refine lv_icmp_ge (tgt := 30) hx hb dX12_takeScales_5 (by decide) (fun c6 => ?_) (fun c6 => ?_)
  · replace hw := hw.1 c6; clear c6
    clear ih3
    subst hQe
    exact W.vret hx hb hr (fun t ht hW => ⟨⟨f5, rfl, hw, by rw [ht]; exact hP, va_K.moved hW.alike hK, hD⟩, hS.F ht⟩) hS.2.2 dX12_takeScales_30
  · replace hw := hw.2 c6; clear c6
    refine lv_aload_n hx hb dX12_takeScales_8 rfl (lv_at hl 1 rfl) ?_
    refine va_get (D := (dC, dI)) (ci := 12) (v := .ref h_scales) (C := RX12) (T := TX12) (N := 22) hx hb hts inX12 hown hK hP 0 rfl rfl 11 (by decide) (hts _ (List.mem_cons_of_mem _ mw_176)) (fun _ h9 => h9) rfl dX12_takeScales_9 ?_
    refine lv_iload_n hx hb dX12_takeScales_12 rfl (lv_at hl 0 rfl) ?_
    refine lv_aload_n hx hb dX12_takeScales_13 rfl (lv_at hl 1 rfl) ?_
    refine va_get (D := (dC, dI)) (ci := 12) (v := .ref h_row) (C := RX12) (T := TX12) (N := 22) hx hb hts inX12 hown hK hP 0 rfl rfl 1 (by decide) (hts _ (List.mem_cons_of_mem _ mw_169)) (fun _ h9 => h9) rfl dX12_takeScales_14 ?_
    refine lv_sipush (v := 621) hx hb dX12_takeScales_17 (by decide) ?_
    refine lv_iload_n hx hb dX12_takeScales_20 rfl (lv_at hl 0 rfl) ?_
    refine lv_iadd hx hb dX12_takeScales_21 ?_
    obtain ⟨h7, hw⟩ := hw
    refine xiald (k := ((621 : Int32) + x4).toNatClampNeg) hx hb hK hP 1 0 rfl rfl h7 rfl dX12_takeScales_22 ?_
    obtain ⟨h8, hw⟩ := hw
    refine xiast (k := x4.toNatClampNeg) hx hb hK hP hD hS 2 0 rfl rfl h8 rfl dX12_takeScales_23 ?_; clear hP hD hS; clear H locs; intro f9 e_f9 H locs hP hD hS
    replace hw := hw f9 e_f9
    clear e_f9
    replace hP : va_P (dC, dI) vwCl (w_X12_takeScales h0 h_row h_kept h_isKept h_aside h_eight h_rows h_scales h_dealt h_bytes h_heardRow h_made h_comes h_backs h_fresh cy c_thrown c_nodeS c_nodeD c_pairE c_pairO c_bit c_lag c_lagSum c_row f9) H := hP
    replace hD : va_D A (w_X12_takeScales h0 h_row h_kept h_isKept h_aside h_eight h_rows h_scales h_dealt h_bytes h_heardRow h_made h_comes h_backs h_fresh cy c_thrown c_nodeS c_nodeD c_pairE c_pairO c_bit c_lag c_lagSum c_row f9) := hD
    refine lv_iinc (v := x4 + 1) (lv' := [(1, .int (x4 + 1)), (0, .ref h0)]) hx hb dX12_takeScales_24 hl (k := 0) rfl rfl (by decide) rfl ?_; clear hl; clear ls; intro ls hl
    refine lv_goto (tgt := 2) hx hb dX12_takeScales_27 (by decide) ?_
    exact ih3 (x4 + 1) f9 hw H locs ls hP hD hS (lv_sub hl [0, 1] rfl)
set_option maxHeartbeats 4000000 in
set_option maxRecDepth 100000 in
theorem c_X12_methodCoded (l : Launch) (dC : Nat → ClassId) (dI : Nat → Nat → Nat) (cy : Nat → ClassId) (h0 h_row h_kept h_isKept h_aside h_eight h_rows h_scales h_dealt h_bytes h_heardRow h_made h_comes h_backs h_fresh : Nat) (sz : Nat) (c_thrown : Int32) (c_nodeS : Int32) (c_nodeD : Int32) (c_pairE : Int32) (c_pairO : Int32) (c_bit : Int32) (c_lag : Int32) (c_lagSum : Int32) (c_row : Nat → Int32) (post : Int32 → Prop) (hw : wp_X12_methodCoded c_row post) : Met l yX12_methodCoded wsX12_methodCoded ({ frames := 0, cells := 0, slots := 0, locals := 0 }) (PX dC dI cy [.ref h0] sz (w_X12_methodCoded h0 h_row h_kept h_isKept h_aside h_eight h_rows h_scales h_dealt h_bytes h_heardRow h_made h_comes h_backs h_fresh cy c_thrown c_nodeS c_nodeD c_pairE c_pairO c_bit c_lag c_lagSum c_row)) (va_Qi (fun (r : Int32) (u : Unit) => post r) (QX dC dI cy (va_A (w_X12_methodCoded h0 h_row h_kept h_isKept h_aside h_eight h_rows h_scales h_dealt h_bytes h_heardRow h_made h_comes h_backs h_fresh cy c_thrown c_nodeS c_nodeD c_pairE c_pairO c_bit c_lag c_lagSum c_row) sz) (fun (u : Unit) => w_X12_methodCoded h0 h_row h_kept h_isKept h_aside h_eight h_rows h_scales h_dealt h_bytes h_heardRow h_made h_comes h_backs h_fresh cy c_thrown c_nodeS c_nodeD c_pairE c_pairO c_bit c_lag c_lagSum c_row)) (va_A (w_X12_methodCoded h0 h_row h_kept h_isKept h_aside h_eight h_rows h_scales h_dealt h_bytes h_heardRow h_made h_comes h_backs h_fresh cy c_thrown c_nodeS c_nodeD c_pairE c_pairO c_bit c_lag c_lagSum c_row) sz)) 0 0 (va_A (w_X12_methodCoded h0 h_row h_kept h_isKept h_aside h_eight h_rows h_scales h_dealt h_bytes h_heardRow h_made h_comes h_backs h_fresh cy c_thrown c_nodeS c_nodeD c_pairE c_pairO c_bit c_lag c_lagSum c_row) sz) := by
  refine Met.ofW (cc := cX12_methodCoded) (maxL := 1) (ret := (some .int)) (by decide) rfl ?_
  intro p e s m args below meth c s₁ B hml hv
  obtain ⟨rfl, hsz, hP, hK, hD0, hG⟩ := hv
  have hx := B.exec
  have hb := B.bytes
  have hr := B.returns
  have hts := atoms_spec (ws := wsX12_methodCoded) B.pre
  have hown : s.vm.findClass RX12 = some m.cls := findClass_of_methodNamed B.named
  have hlocks := B.notSynchronized
  subst hsz
  have hD := hD0.self (sz := s.heap.size)
  generalize hAe : va_A (w_X12_methodCoded h0 h_row h_kept h_isKept h_aside h_eight h_rows h_scales h_dealt h_bytes h_heardRow h_made h_comes h_backs h_fresh cy c_thrown c_nodeS c_nodeD c_pairE c_pairO c_bit c_lag c_lagSum c_row) s.heap.size = A at hD ⊢
  have hA : ∀ q : Nat, s.heap.size ≤ q → A q := fun q h => by rw [← hAe]; exact Or.inr h
  have hS : va_S A s.heap s.heap [] := va_S.rf
  have hl := lv_entry ([.ref h0]) (n := 1) (Nat.le_of_ble_eq_true rfl)
  rw [lg_entry_eq]
  generalize (lg_sl ([.ref h0]) ++ List.replicate (1 - (lg_sl ([.ref h0])).length) Slot.unset).toArray = ls at hl ⊢
  replace hl : lv_has ls 1 [(0, .ref h0)] := hl
  have inX12 : ∀ w ∈ u_ws RX12 TX12 22, w ∈ wsX12_methodCoded := fun w h => List.mem_cons_of_mem _ (inlX12 w h)
  clear hAe hD0 B
  unfold wp_X12_methodCoded at hw
  generalize hQe : MQ below _ _ s _ _ _ = Q0
  generalize ([.ref h0] : List Value).toArray = av at *
  obtain ⟨H, hH⟩ : ∃ H, H = s.heap := ⟨_, rfl⟩
  obtain ⟨locs, hlo⟩ : ∃ L : List Loc, L = [] := ⟨_, rfl⟩
  replace hP : va_P (dC, dI) vwCl (w_X12_methodCoded h0 h_row h_kept h_isKept h_aside h_eight h_rows h_scales h_dealt h_bytes h_heardRow h_made h_comes h_backs h_fresh cy c_thrown c_nodeS c_nodeD c_pairE c_pairO c_bit c_lag c_lagSum c_row) H := by rw [hH]; exact hP
  replace hS : va_S A s.heap H locs := by rw [hH, hlo]; exact hS
  suffices hgo : W p l e ({ frames := 0, cells := 0, slots := 0, locals := 0 }) s m av below meth c H locs 0 0 Q0 (F0 m 0 ls []) by rw [hH, hlo] at hgo; exact hgo
  clear hH hlo
  refine lv_aload_n hx hb dX12_methodCoded_0 rfl (lv_at hl 0 rfl) ?_
  refine va_get (D := (dC, dI)) (ci := 12) (v := .ref h_row) (C := RX12) (T := TX12) (N := 22) hx hb hts inX12 hown hK hP 0 rfl rfl 1 (by decide) (hts _ (List.mem_cons_of_mem _ mw_169)) (fun _ h9 => h9) rfl dX12_methodCoded_1 ?_
  refine lv_sipush (v := 656) hx hb dX12_methodCoded_4 (by decide) ?_
  refine xiald (k := 656) hx hb hK hP 1 0 rfl rfl (vpL 656 13385 rfl) (by decide) dX12_methodCoded_7 ?_
  refine lv_bipush (v := 7) hx hb dX12_methodCoded_8 (by decide) ?_
  refine lv_ishr hx hb dX12_methodCoded_10 ?_
  subst hQe
  exact W.iret (v := (c_row 656) >>> ((7 : Int32) &&& 31)) hx hb hr (fun t ht hW => ⟨⟨((c_row 656) >>> ((7 : Int32) &&& 31)), (), rfl, hw, by rw [ht]; exact hP, va_K.moved hW.alike hK, hD⟩, hS.F ht⟩) hS.2.2 dX12_methodCoded_11
set_option maxHeartbeats 4000000 in
set_option maxRecDepth 100000 in
theorem c_X12_dealt (l : Launch) (dC : Nat → ClassId) (dI : Nat → Nat → Nat) (cy : Nat → ClassId) (h0 h_row h_kept h_isKept h_aside h_eight h_rows h_scales h_dealt h_bytes h_heardRow h_made h_comes h_backs h_fresh : Nat) (sz : Nat) (v1 : Int32) (v2 : Int32) (v3 : Int32) (c_thrown : Int32) (c_nodeS : Int32) (c_nodeD : Int32) (c_pairE : Int32) (c_pairO : Int32) (c_bit : Int32) (c_lag : Int32) (c_lagSum : Int32) (c_row : Nat → Int32) (c_scales : Nat → Int32) (post : Int32 → Int32 → (Nat → Int32) → Prop) (hw : wp_X12_dealt v1 v2 v3 c_thrown c_row c_scales post) : Met l yX12_dealt wsX12_dealt ({ frames := 2, cells := 0, slots := 0, locals := 46 }) (PX dC dI cy [.ref h0, .int v1, .int v2, .int v3] sz (w_X12_dealt h0 h_row h_kept h_isKept h_aside h_eight h_rows h_scales h_dealt h_bytes h_heardRow h_made h_comes h_backs h_fresh cy c_thrown c_nodeS c_nodeD c_pairE c_pairO c_bit c_lag c_lagSum c_row c_scales)) (va_Qi (fun (r : Int32) (u : Int32 × (Nat → Int32)) => post r u.1 u.2) (QX dC dI cy (va_A (w_X12_dealt h0 h_row h_kept h_isKept h_aside h_eight h_rows h_scales h_dealt h_bytes h_heardRow h_made h_comes h_backs h_fresh cy c_thrown c_nodeS c_nodeD c_pairE c_pairO c_bit c_lag c_lagSum c_row c_scales) sz) (fun (u : Int32 × (Nat → Int32)) => w_X12_dealt h0 h_row h_kept h_isKept h_aside h_eight h_rows h_scales h_dealt h_bytes h_heardRow h_made h_comes h_backs h_fresh cy u.1 c_nodeS c_nodeD c_pairE c_pairO c_bit c_lag c_lagSum c_row u.2)) (va_A (w_X12_dealt h0 h_row h_kept h_isKept h_aside h_eight h_rows h_scales h_dealt h_bytes h_heardRow h_made h_comes h_backs h_fresh cy c_thrown c_nodeS c_nodeD c_pairE c_pairO c_bit c_lag c_lagSum c_row c_scales) sz)) 0 0 (va_A (w_X12_dealt h0 h_row h_kept h_isKept h_aside h_eight h_rows h_scales h_dealt h_bytes h_heardRow h_made h_comes h_backs h_fresh cy c_thrown c_nodeS c_nodeD c_pairE c_pairO c_bit c_lag c_lagSum c_row c_scales) sz) := by
  refine Met.ofW (cc := cX12_dealt) (maxL := 5) (ret := (some .int)) (by decide) rfl ?_
  intro p e s m args below meth c s₁ B hml hv
  obtain ⟨rfl, hsz, hP, hK, hD0, hG⟩ := hv
  have hx := B.exec
  have hb := B.bytes
  have hr := B.returns
  have hts := atoms_spec (ws := wsX12_dealt) B.pre
  have hown : s.vm.findClass RX12 = some m.cls := findClass_of_methodNamed B.named
  have hlocks := B.notSynchronized
  subst hsz
  have hD := hD0.self (sz := s.heap.size)
  generalize hAe : va_A (w_X12_dealt h0 h_row h_kept h_isKept h_aside h_eight h_rows h_scales h_dealt h_bytes h_heardRow h_made h_comes h_backs h_fresh cy c_thrown c_nodeS c_nodeD c_pairE c_pairO c_bit c_lag c_lagSum c_row c_scales) s.heap.size = A at hD ⊢
  have hA : ∀ q : Nat, s.heap.size ≤ q → A q := fun q h => by rw [← hAe]; exact Or.inr h
  have hS : va_S A s.heap s.heap [] := va_S.rf
  have hl := lv_entry ([.ref h0, .int v1, .int v2, .int v3]) (n := 5) (Nat.le_of_ble_eq_true rfl)
  rw [lg_entry_eq]
  generalize (lg_sl ([.ref h0, .int v1, .int v2, .int v3]) ++ List.replicate (5 - (lg_sl ([.ref h0, .int v1, .int v2, .int v3])).length) Slot.unset).toArray = ls at hl ⊢
  replace hl : lv_has ls 5 [(0, .ref h0), (1, .int v1), (2, .int v2), (3, .int v3)] := hl
  have inX12 : ∀ w ∈ u_ws RX12 TX12 22, w ∈ wsX12_dealt := fun w h => List.mem_cons_of_mem _ (inlX12 w h)
  clear hAe hD0 B
  unfold wp_X12_dealt at hw
  generalize hQe : MQ below _ _ s _ _ _ = Q0
  generalize ([.ref h0, .int v1, .int v2, .int v3] : List Value).toArray = av at *
  obtain ⟨H, hH⟩ : ∃ H, H = s.heap := ⟨_, rfl⟩
  obtain ⟨locs, hlo⟩ : ∃ L : List Loc, L = [] := ⟨_, rfl⟩
  replace hP : va_P (dC, dI) vwCl (w_X12_dealt h0 h_row h_kept h_isKept h_aside h_eight h_rows h_scales h_dealt h_bytes h_heardRow h_made h_comes h_backs h_fresh cy c_thrown c_nodeS c_nodeD c_pairE c_pairO c_bit c_lag c_lagSum c_row c_scales) H := by rw [hH]; exact hP
  replace hS : va_S A s.heap H locs := by rw [hH, hlo]; exact hS
  suffices hgo : W p l e ({ frames := 2, cells := 0, slots := 0, locals := 46 }) s m av below meth c H locs 0 0 Q0 (F0 m 0 ls []) by rw [hH, hlo] at hgo; exact hgo
  clear hH hlo
  refine lv_aload_n hx hb dX12_dealt_0 rfl (lv_at hl 0 rfl) ?_
  refine lv_iconst (v := 0) hx hb dX12_dealt_1 (by decide) ?_
  refine va_put (D := (dC, dI)) (ci := 12) (v := .int (0 : Int32)) (ty := .int) (C := RX12) (T := TX12) (N := 22) hx hb hts inX12 tyX12 tyX12_ok nmX12 hown hK hP hD hS 0 rfl rfl 0 (by decide) (hts _ (List.mem_cons_of_mem _ mw_200)) (fun _ h9 => h9) rfl (by decide +kernel) rfl rfl (Nat.le_of_ble_eq_true rfl) dX12_dealt_2 ?_; clear hP hD hS; clear H locs; intro H locs hP hD hS
  replace hP : va_P (dC, dI) vwCl (w_X12_dealt h0 h_row h_kept h_isKept h_aside h_eight h_rows h_scales h_dealt h_bytes h_heardRow h_made h_comes h_backs h_fresh cy (0 : Int32) c_nodeS c_nodeD c_pairE c_pairO c_bit c_lag c_lagSum c_row c_scales) H := hP
  replace hD : va_D A (w_X12_dealt h0 h_row h_kept h_isKept h_aside h_eight h_rows h_scales h_dealt h_bytes h_heardRow h_made h_comes h_backs h_fresh cy (0 : Int32) c_nodeS c_nodeD c_pairE c_pairO c_bit c_lag c_lagSum c_row c_scales) := hD
  refine lv_aload_n hx hb dX12_dealt_5 rfl (lv_at hl 0 rfl) ?_
  have hPc := pSub (ws' := (w_X12_isCoded h0 h_row h_kept h_isKept h_aside h_eight h_rows h_scales h_dealt h_bytes h_heardRow h_made h_comes h_backs h_fresh cy (0 : Int32) c_nodeS c_nodeD c_pairE c_pairO c_bit c_lag c_lagSum c_row)) hP [0, 1] rfl
  have hDc := dSub (ws' := (w_X12_isCoded h0 h_row h_kept h_isKept h_aside h_eight h_rows h_scales h_dealt h_bytes h_heardRow h_made h_comes h_backs h_fresh cy (0 : Int32) c_nodeS c_nodeD c_pairE c_pairO c_bit c_lag c_lagSum c_row)) hD [0, 1] (by decide) rfl
  have hFc := va_free (wc := (w_X12_isCoded h0 h_row h_kept h_isKept h_aside h_eight h_rows h_scales h_dealt h_bytes h_heardRow h_made h_comes h_backs h_fresh cy (0 : Int32) c_nodeS c_nodeD c_pairE c_pairO c_bit c_lag c_lagSum c_row)) hD hS hA [0, 1] rfl
  refine va_calli (va_runV (As := []) (rest := []) ⟨hx, hb, hml, hown, hts⟩ (c_X12_isCoded l dC dI cy h0 h_row h_kept h_isKept h_aside h_eight h_rows h_scales h_dealt h_bytes h_heardRow h_made h_comes h_backs h_fresh H.size (0 : Int32) c_nodeS c_nodeD c_pairE c_pairO c_bit c_lag c_lagSum c_row _ hw) (cwV 0 hts (goodV mw_935 mw_932 mw_933 mw_934 mw_5) rfl rfl rfl (by decide +kernel) ⟨Nat.le_of_ble_eq_true rfl, Nat.le_of_ble_eq_true rfl⟩) ⟨PX_blind, va_recv hK hPc (ci := 12) (q0 := 0) rfl rfl, PX_pre hPc hK hDc hG⟩ rfl rfl hl.1 rfl (lv_room (Nat.le_of_ble_eq_true rfl)) dX12_dealt_6 ⟨Nat.zero_le _, Nat.zero_le _⟩) hS (fun q _ h => hFc q h) hFc ?_; clear hw hS; intro r1 _ t H1 locs1 ht hvm hw hB hz1 hk1 hS
  obtain ⟨hP1, -, -⟩ := hB
  rw [ht] at hP1
  replace hP := jC0 hP hD [0, 1] [2] rfl hk1 hP1 (w_X12_dealt h0 h_row h_kept h_isKept h_aside h_eight h_rows h_scales h_dealt h_bytes h_heardRow h_made h_comes h_backs h_fresh cy (0 : Int32) c_nodeS c_nodeD c_pairE c_pairO c_bit c_lag c_lagSum c_row c_scales) rfl rfl rfl 3 rfl (by decide +kernel); clear hD; obtain ⟨hP, hD⟩ := hP
  replace hP : va_P (dC, dI) vwCl (w_X12_dealt h0 h_row h_kept h_isKept h_aside h_eight h_rows h_scales h_dealt h_bytes h_heardRow h_made h_comes h_backs h_fresh cy (0 : Int32) c_nodeS c_nodeD c_pairE c_pairO c_bit c_lag c_lagSum c_row c_scales) H1 := hP
  replace hD : va_D A (w_X12_dealt h0 h_row h_kept h_isKept h_aside h_eight h_rows h_scales h_dealt h_bytes h_heardRow h_made h_comes h_backs h_fresh cy (0 : Int32) c_nodeS c_nodeD c_pairE c_pairO c_bit c_lag c_lagSum c_row c_scales) := hD
  clear hPc hDc hFc hP1 hk1 hz1 hvm ht; clear t; clear H locs; obtain ⟨H, hH⟩ : ∃ H, H = H1 := ⟨_, rfl⟩; obtain ⟨locs, hlo⟩ : ∃ L, L = locs1 := ⟨_, rfl⟩; subst hH; subst hlo
  refine W.widen (k := 0) (n := 0) (Nat.le_refl 0) (Nat.le_refl 0) ?_
  refine lv_if_eq (tgt := 32) hx hb dX12_dealt_9 (by decide) (fun c2 => ?_) (fun c2 => ?_)
  · replace hw := hw.1 c2; clear c2
    refine lv_ldc (v := -2147483648) hx hb hown (hts _ (List.mem_cons_of_mem _ mw_908)) dX12_dealt_32 ?_
    subst hQe
    exact W.iret (v := (-2147483648 : Int32)) hx hb hr (fun t ht hW => ⟨⟨(-2147483648 : Int32), ((0 : Int32), c_scales), rfl, hw, by rw [ht]; exact hP, va_K.moved hW.alike hK, hD⟩, hS.F ht⟩) hS.2.2 dX12_dealt_34
  · replace hw := hw.2 c2; clear c2
    refine lv_iload_n hx hb dX12_dealt_12 rfl (lv_at hl 1 rfl) ?_
    refine lv_iload_n hx hb dX12_dealt_13 rfl (lv_at hl 2 rfl) ?_
    have hPc := pSub (ws' := (w_X12_isBand cy)) hP [] rfl
    have hDc := dSub (ws' := (w_X12_isBand cy)) hD [] (by decide) rfl
    have hFc := va_free (wc := (w_X12_isBand cy)) hD hS hA [] rfl
    refine va_calli (va_runS (As := [.int v1, .int v2]) (rest := []) ⟨hx, hb, hml, hown, hts⟩ (c_X12_isBand l dC dI cy  H.size v1 v2 _ hw) (va_cwS 2 hts (goodS mw_938 mw_936 mw_937 mw_5) rfl rfl rfl (by decide +kernel) ⟨Nat.le_of_ble_eq_true rfl, Nat.le_of_ble_eq_true rfl⟩) ⟨PX_blind, PX_pre hPc hK hDc hG⟩ rfl rfl hl.1 rfl (lv_room (Nat.le_of_ble_eq_true rfl)) dX12_dealt_14 ⟨Nat.zero_le _, Nat.zero_le _⟩) hS (fun q _ h => hFc q h) hFc ?_; clear hw hS; intro r3 _ t H1 locs1 ht hvm hw hB hz1 hk1 hS
    obtain ⟨hP1, -, -⟩ := hB
    rw [ht] at hP1
    replace hP := jC0 hP hD [] [0, 1, 2] rfl hk1 hP1 (w_X12_dealt h0 h_row h_kept h_isKept h_aside h_eight h_rows h_scales h_dealt h_bytes h_heardRow h_made h_comes h_backs h_fresh cy (0 : Int32) c_nodeS c_nodeD c_pairE c_pairO c_bit c_lag c_lagSum c_row c_scales) rfl rfl rfl 3 rfl (by decide +kernel); clear hD; obtain ⟨hP, hD⟩ := hP
    replace hP : va_P (dC, dI) vwCl (w_X12_dealt h0 h_row h_kept h_isKept h_aside h_eight h_rows h_scales h_dealt h_bytes h_heardRow h_made h_comes h_backs h_fresh cy (0 : Int32) c_nodeS c_nodeD c_pairE c_pairO c_bit c_lag c_lagSum c_row c_scales) H1 := hP
    replace hD : va_D A (w_X12_dealt h0 h_row h_kept h_isKept h_aside h_eight h_rows h_scales h_dealt h_bytes h_heardRow h_made h_comes h_backs h_fresh cy (0 : Int32) c_nodeS c_nodeD c_pairE c_pairO c_bit c_lag c_lagSum c_row c_scales) := hD
    clear hPc hDc hFc hP1 hk1 hz1 hvm ht; clear t; clear H locs; obtain ⟨H, hH⟩ : ∃ H, H = H1 := ⟨_, rfl⟩; obtain ⟨locs, hlo⟩ : ∃ L, L = locs1 := ⟨_, rfl⟩; subst hH; subst hlo
    refine W.widen (k := 0) (n := 0) (Nat.le_refl 0) (Nat.le_refl 0) ?_
    refine lv_if_eq (tgt := 32) hx hb dX12_dealt_17 (by decide) (fun c4 => ?_) (fun c4 => ?_)
    · replace hw := hw.1 c4; clear c4
      refine lv_ldc (v := -2147483648) hx hb hown (hts _ (List.mem_cons_of_mem _ mw_908)) dX12_dealt_32 ?_
      subst hQe
      exact W.iret (v := (-2147483648 : Int32)) hx hb hr (fun t ht hW => ⟨⟨(-2147483648 : Int32), ((0 : Int32), c_scales), rfl, hw, by rw [ht]; exact hP, va_K.moved hW.alike hK, hD⟩, hS.F ht⟩) hS.2.2 dX12_dealt_34
    · replace hw := hw.2 c4; clear c4
      refine lv_iload_n hx hb dX12_dealt_20 rfl (lv_at hl 3 rfl) ?_
      refine lv_i2l (v := v3.toInt64) hx hb dX12_dealt_21 rfl ?_
      refine lv_lconst (v := 0) hx hb dX12_dealt_22 (by decide) ?_
      refine lv_ldc2 (v := 3) hx hb hown (hts _ (List.mem_cons_of_mem _ mw_931)) dX12_dealt_23 ?_
      have hPc := pSub (ws' := (w_X12_in cy)) hP [] rfl
      have hDc := dSub (ws' := (w_X12_in cy)) hD [] (by decide) rfl
      have hFc := va_free (wc := (w_X12_in cy)) hD hS hA [] rfl
      refine va_calli (va_runS (As := [.long (v3.toInt64), .long (0 : Int64), .long (3 : Int64)]) (rest := []) ⟨hx, hb, hml, hown, hts⟩ (c_X12_in l dC dI cy  H.size (v3.toInt64) (0 : Int64) (3 : Int64) _ hw) (va_cwS 3 hts (goodS mw_207 mw_205 mw_206 mw_5) rfl rfl rfl (by decide +kernel) ⟨Nat.le_of_ble_eq_true rfl, Nat.le_of_ble_eq_true rfl⟩) ⟨PX_blind, PX_pre hPc hK hDc hG⟩ rfl rfl hl.1 rfl (lv_room (Nat.le_of_ble_eq_true rfl)) dX12_dealt_26 ⟨Nat.zero_le _, Nat.zero_le _⟩) hS (fun q _ h => hFc q h) hFc ?_; clear hw hS; intro r5 _ t H1 locs1 ht hvm hw hB hz1 hk1 hS
      obtain ⟨hP1, -, -⟩ := hB
      rw [ht] at hP1
      replace hP := jC0 hP hD [] [0, 1, 2] rfl hk1 hP1 (w_X12_dealt h0 h_row h_kept h_isKept h_aside h_eight h_rows h_scales h_dealt h_bytes h_heardRow h_made h_comes h_backs h_fresh cy (0 : Int32) c_nodeS c_nodeD c_pairE c_pairO c_bit c_lag c_lagSum c_row c_scales) rfl rfl rfl 3 rfl (by decide +kernel); clear hD; obtain ⟨hP, hD⟩ := hP
      replace hP : va_P (dC, dI) vwCl (w_X12_dealt h0 h_row h_kept h_isKept h_aside h_eight h_rows h_scales h_dealt h_bytes h_heardRow h_made h_comes h_backs h_fresh cy (0 : Int32) c_nodeS c_nodeD c_pairE c_pairO c_bit c_lag c_lagSum c_row c_scales) H1 := hP
      replace hD : va_D A (w_X12_dealt h0 h_row h_kept h_isKept h_aside h_eight h_rows h_scales h_dealt h_bytes h_heardRow h_made h_comes h_backs h_fresh cy (0 : Int32) c_nodeS c_nodeD c_pairE c_pairO c_bit c_lag c_lagSum c_row c_scales) := hD
      clear hPc hDc hFc hP1 hk1 hz1 hvm ht; clear t; clear H locs; obtain ⟨H, hH⟩ : ∃ H, H = H1 := ⟨_, rfl⟩; obtain ⟨locs, hlo⟩ : ∃ L, L = locs1 := ⟨_, rfl⟩; subst hH; subst hlo
      refine W.widen (k := 0) (n := 0) (Nat.le_refl 0) (Nat.le_refl 0) ?_
      refine lv_if_ne (tgt := 35) hx hb dX12_dealt_29 (by decide) (fun c6 => ?_) (fun c6 => ?_)
      · replace hw := hw.2 c6; clear c6
        refine lv_bipush (v := 8) hx hb dX12_dealt_35 (by decide) ?_
        refine lv_iload_n hx hb dX12_dealt_37 rfl (lv_at hl 1 rfl) ?_
        refine lv_imul hx hb dX12_dealt_38 ?_
        refine lv_iload_n hx hb dX12_dealt_39 rfl (lv_at hl 2 rfl) ?_
        refine lv_iadd hx hb dX12_dealt_40 ?_
        refine lv_topi (fun x7 e_x7 => ?_)
        replace hw := hw x7 e_x7
        clear e_x7
        refine lv_istore (lv' := [(4, .int x7), (0, .ref h0), (1, .int v1), (2, .int v2), (3, .int v3)]) hx hb dX12_dealt_41 hl (by decide) rfl ?_; clear hl; clear ls; intro ls hl
        refine lv_aload_n hx hb dX12_dealt_43 rfl (lv_at hl 1 rfl) ?_
        have hPc := pSub (ws' := (w_X12_takeScales h0 h_row h_kept h_isKept h_aside h_eight h_rows h_scales h_dealt h_bytes h_heardRow h_made h_comes h_backs h_fresh cy (0 : Int32) c_nodeS c_nodeD c_pairE c_pairO c_bit c_lag c_lagSum c_row c_scales)) hP [0, 1, 2] rfl
        have hDc := dSub (ws' := (w_X12_takeScales h0 h_row h_kept h_isKept h_aside h_eight h_rows h_scales h_dealt h_bytes h_heardRow h_made h_comes h_backs h_fresh cy (0 : Int32) c_nodeS c_nodeD c_pairE c_pairO c_bit c_lag c_lagSum c_row c_scales)) hD [0, 1, 2] (by decide) rfl
        have hFc := va_free (wc := (w_X12_takeScales h0 h_row h_kept h_isKept h_aside h_eight h_rows h_scales h_dealt h_bytes h_heardRow h_made h_comes h_backs h_fresh cy (0 : Int32) c_nodeS c_nodeD c_pairE c_pairO c_bit c_lag c_lagSum c_row c_scales)) hD hS hA [0, 1, 2] rfl
        refine va_callv (va_runV (As := []) (rest := []) ⟨hx, hb, hml, hown, hts⟩ (c_X12_takeScales l dC dI cy h0 h_row h_kept h_isKept h_aside h_eight h_rows h_scales h_dealt h_bytes h_heardRow h_made h_comes h_backs h_fresh H.size (0 : Int32) c_nodeS c_nodeD c_pairE c_pairO c_bit c_lag c_lagSum c_row c_scales _ hw) (cwV 0 hts (goodV mw_954 mw_951 mw_952 mw_953 mw_5) rfl rfl rfl (by decide +kernel) ⟨Nat.le_of_ble_eq_true rfl, Nat.le_of_ble_eq_true rfl⟩) ⟨PX_blind, va_recv hK hPc (ci := 12) (q0 := 0) rfl rfl, PX_pre hPc hK hDc hG⟩ rfl rfl hl.1 rfl (lv_room (Nat.le_of_ble_eq_true rfl)) dX12_dealt_44 ⟨Nat.zero_le _, Nat.zero_le _⟩) hS (fun q _ h => hFc q h) hFc ?_; clear hw hS; intro f8 t H1 locs1 ht hvm hw hB hz1 hk1 hS
        obtain ⟨hP1, -, -⟩ := hB
        rw [ht] at hP1
        replace hP := jC0 hP hD [0, 1, 2] [] rfl hk1 hP1 (w_X12_dealt h0 h_row h_kept h_isKept h_aside h_eight h_rows h_scales h_dealt h_bytes h_heardRow h_made h_comes h_backs h_fresh cy (0 : Int32) c_nodeS c_nodeD c_pairE c_pairO c_bit c_lag c_lagSum c_row f8) rfl rfl rfl 3 rfl (by decide +kernel); clear hD; obtain ⟨hP, hD⟩ := hP
        replace hP : va_P (dC, dI) vwCl (w_X12_dealt h0 h_row h_kept h_isKept h_aside h_eight h_rows h_scales h_dealt h_bytes h_heardRow h_made h_comes h_backs h_fresh cy (0 : Int32) c_nodeS c_nodeD c_pairE c_pairO c_bit c_lag c_lagSum c_row f8) H1 := hP
        replace hD : va_D A (w_X12_dealt h0 h_row h_kept h_isKept h_aside h_eight h_rows h_scales h_dealt h_bytes h_heardRow h_made h_comes h_backs h_fresh cy (0 : Int32) c_nodeS c_nodeD c_pairE c_pairO c_bit c_lag c_lagSum c_row f8) := hD
        clear hPc hDc hFc hP1 hk1 hz1 hvm ht; clear t; clear H locs; obtain ⟨H, hH⟩ : ∃ H, H = H1 := ⟨_, rfl⟩; obtain ⟨locs, hlo⟩ : ∃ L, L = locs1 := ⟨_, rfl⟩; subst hH; subst hlo
        refine W.widen (k := 0) (n := 0) (Nat.le_refl 0) (Nat.le_refl 0) ?_
        refine lv_iload_n hx hb dX12_dealt_47 rfl (lv_at hl 4 rfl) ?_
        by_cases c9 : v3 = 0
        · replace hw := hw.1 c9
          refine lv_tableIn (tgt := 76) hx hb dX12_dealt_48 (by rw [c9]; decide) (by rw [c9]; decide) (by rw [c9]; rfl) (by decide) ?_
          refine lv_aload_n hx hb dX12_dealt_76 rfl (lv_at hl 1 rfl) ?_
          refine va_get (D := (dC, dI)) (ci := 12) (v := .ref h_scales) (C := RX12) (T := TX12) (N := 22) hx hb hts inX12 hown hK hP 0 rfl rfl 11 (by decide) (hts _ (List.mem_cons_of_mem _ mw_176)) (fun _ h9 => h9) rfl dX12_dealt_77 ?_
          refine lv_iload hx hb dX12_dealt_80 (lv_at hl 0 rfl) ?_
          obtain ⟨h10, hw⟩ := hw
          refine xiald (k := x7.toNatClampNeg) hx hb hK hP 2 0 rfl rfl h10 rfl dX12_dealt_82 ?_
          subst hQe
          exact W.iret (v := f8 x7.toNatClampNeg) hx hb hr (fun t ht hW => ⟨⟨(f8 x7.toNatClampNeg), ((0 : Int32), f8), rfl, hw, by rw [ht]; exact hP, va_K.moved hW.alike hK, hD⟩, hS.F ht⟩) hS.2.2 dX12_dealt_83
        · skip
          by_cases c11 : v3 = 1
          · replace hw := hw.2.1 c11
            refine lv_tableIn (tgt := 84) hx hb dX12_dealt_48 (by rw [c11]; decide) (by rw [c11]; decide) (by rw [c11]; rfl) (by decide) ?_
            refine lv_aload_n hx hb dX12_dealt_84 rfl (lv_at hl 1 rfl) ?_
            refine lv_iload hx hb dX12_dealt_85 (lv_at hl 0 rfl) ?_
            refine lv_aload_n hx hb dX12_dealt_87 rfl (lv_at hl 1 rfl) ?_
            have hPc := pSub (ws' := (w_X12_methodCoded h0 h_row h_kept h_isKept h_aside h_eight h_rows h_scales h_dealt h_bytes h_heardRow h_made h_comes h_backs h_fresh cy (0 : Int32) c_nodeS c_nodeD c_pairE c_pairO c_bit c_lag c_lagSum c_row)) hP [0, 1] rfl
            have hDc := dSub (ws' := (w_X12_methodCoded h0 h_row h_kept h_isKept h_aside h_eight h_rows h_scales h_dealt h_bytes h_heardRow h_made h_comes h_backs h_fresh cy (0 : Int32) c_nodeS c_nodeD c_pairE c_pairO c_bit c_lag c_lagSum c_row)) hD [0, 1] (by decide) rfl
            have hFc := va_free (wc := (w_X12_methodCoded h0 h_row h_kept h_isKept h_aside h_eight h_rows h_scales h_dealt h_bytes h_heardRow h_made h_comes h_backs h_fresh cy (0 : Int32) c_nodeS c_nodeD c_pairE c_pairO c_bit c_lag c_lagSum c_row)) hD hS hA [0, 1] rfl
            refine va_calli (va_runV (As := []) (rest := [.int x7, .ref h0]) ⟨hx, hb, hml, hown, hts⟩ (c_X12_methodCoded l dC dI cy h0 h_row h_kept h_isKept h_aside h_eight h_rows h_scales h_dealt h_bytes h_heardRow h_made h_comes h_backs h_fresh H.size (0 : Int32) c_nodeS c_nodeD c_pairE c_pairO c_bit c_lag c_lagSum c_row _ hw) (cwV 0 hts (goodV mw_958 mw_955 mw_956 mw_957 mw_5) rfl rfl rfl (by decide +kernel) ⟨Nat.le_of_ble_eq_true rfl, Nat.le_of_ble_eq_true rfl⟩) ⟨PX_blind, va_recv hK hPc (ci := 12) (q0 := 0) rfl rfl, PX_pre hPc hK hDc hG⟩ rfl rfl hl.1 rfl (lv_room (Nat.le_of_ble_eq_true rfl)) dX12_dealt_88 ⟨Nat.zero_le _, Nat.zero_le _⟩) hS (fun q _ h => hFc q h) hFc ?_; clear hw hS; intro r12 _ t H1 locs1 ht hvm hw hB hz1 hk1 hS
            obtain ⟨hP1, -, -⟩ := hB
            rw [ht] at hP1
            replace hP := jC0 hP hD [0, 1] [2] rfl hk1 hP1 (w_X12_dealt h0 h_row h_kept h_isKept h_aside h_eight h_rows h_scales h_dealt h_bytes h_heardRow h_made h_comes h_backs h_fresh cy (0 : Int32) c_nodeS c_nodeD c_pairE c_pairO c_bit c_lag c_lagSum c_row f8) rfl rfl rfl 3 rfl (by decide +kernel); clear hD; obtain ⟨hP, hD⟩ := hP
            replace hP : va_P (dC, dI) vwCl (w_X12_dealt h0 h_row h_kept h_isKept h_aside h_eight h_rows h_scales h_dealt h_bytes h_heardRow h_made h_comes h_backs h_fresh cy (0 : Int32) c_nodeS c_nodeD c_pairE c_pairO c_bit c_lag c_lagSum c_row f8) H1 := hP
            replace hD : va_D A (w_X12_dealt h0 h_row h_kept h_isKept h_aside h_eight h_rows h_scales h_dealt h_bytes h_heardRow h_made h_comes h_backs h_fresh cy (0 : Int32) c_nodeS c_nodeD c_pairE c_pairO c_bit c_lag c_lagSum c_row f8) := hD
            clear hPc hDc hFc hP1 hk1 hz1 hvm ht; clear t; clear H locs; obtain ⟨H, hH⟩ : ∃ H, H = H1 := ⟨_, rfl⟩; obtain ⟨locs, hlo⟩ : ∃ L, L = locs1 := ⟨_, rfl⟩; subst hH; subst hlo
            refine W.widen (k := 0) (n := 0) (Nat.le_refl 0) (Nat.le_refl 0) ?_
            have hPc := pSub (ws' := (w_X12_needOf h0 h_row h_kept h_isKept h_aside h_eight h_rows h_scales h_dealt h_bytes h_heardRow h_made h_comes h_backs h_fresh cy (0 : Int32) c_nodeS c_nodeD c_pairE c_pairO c_bit c_lag c_lagSum f8 c_row)) hP [0, 2, 1] rfl
            have hDc := dSub (ws' := (w_X12_needOf h0 h_row h_kept h_isKept h_aside h_eight h_rows h_scales h_dealt h_bytes h_heardRow h_made h_comes h_backs h_fresh cy (0 : Int32) c_nodeS c_nodeD c_pairE c_pairO c_bit c_lag c_lagSum f8 c_row)) hD [0, 2, 1] (by decide) rfl
            have hFc := va_free (wc := (w_X12_needOf h0 h_row h_kept h_isKept h_aside h_eight h_rows h_scales h_dealt h_bytes h_heardRow h_made h_comes h_backs h_fresh cy (0 : Int32) c_nodeS c_nodeD c_pairE c_pairO c_bit c_lag c_lagSum f8 c_row)) hD hS hA [0, 2, 1] rfl
            refine va_calli (va_runV (As := [.int x7, .int r12]) (rest := []) ⟨hx, hb, hml, hown, hts⟩ (c_X12_needOf l dC dI cy h0 h_row h_kept h_isKept h_aside h_eight h_rows h_scales h_dealt h_bytes h_heardRow h_made h_comes h_backs h_fresh H.size x7 r12 (0 : Int32) c_nodeS c_nodeD c_pairE c_pairO c_bit c_lag c_lagSum f8 c_row _ hw) (cwV 2 hts (goodV mw_668 mw_665 mw_666 mw_667 mw_5) rfl rfl rfl (by decide +kernel) ⟨Nat.le_of_ble_eq_true rfl, Nat.le_of_ble_eq_true rfl⟩) ⟨PX_blind, va_recv hK hPc (ci := 12) (q0 := 0) rfl rfl, PX_pre hPc hK hDc hG⟩ rfl rfl hl.1 rfl (lv_room (Nat.le_of_ble_eq_true rfl)) dX12_dealt_91 ⟨Nat.zero_le _, Nat.zero_le _⟩) hS (fun q _ h => hFc q h) hFc ?_; clear hw hS; intro r13 _ t H1 locs1 ht hvm hw hB hz1 hk1 hS
            obtain ⟨hP1, -, -⟩ := hB
            rw [ht] at hP1
            replace hP := jC0 hP hD [0, 2, 1] [] rfl hk1 hP1 (w_X12_dealt h0 h_row h_kept h_isKept h_aside h_eight h_rows h_scales h_dealt h_bytes h_heardRow h_made h_comes h_backs h_fresh cy (0 : Int32) c_nodeS c_nodeD c_pairE c_pairO c_bit c_lag c_lagSum c_row f8) rfl rfl rfl 3 rfl (by decide +kernel); clear hD; obtain ⟨hP, hD⟩ := hP
            replace hP : va_P (dC, dI) vwCl (w_X12_dealt h0 h_row h_kept h_isKept h_aside h_eight h_rows h_scales h_dealt h_bytes h_heardRow h_made h_comes h_backs h_fresh cy (0 : Int32) c_nodeS c_nodeD c_pairE c_pairO c_bit c_lag c_lagSum c_row f8) H1 := hP
            replace hD : va_D A (w_X12_dealt h0 h_row h_kept h_isKept h_aside h_eight h_rows h_scales h_dealt h_bytes h_heardRow h_made h_comes h_backs h_fresh cy (0 : Int32) c_nodeS c_nodeD c_pairE c_pairO c_bit c_lag c_lagSum c_row f8) := hD
            clear hPc hDc hFc hP1 hk1 hz1 hvm ht; clear t; clear H locs; obtain ⟨H, hH⟩ : ∃ H, H = H1 := ⟨_, rfl⟩; obtain ⟨locs, hlo⟩ : ∃ L, L = locs1 := ⟨_, rfl⟩; subst hH; subst hlo
            refine W.widen (k := 0) (n := 0) (Nat.le_refl 0) (Nat.le_refl 0) ?_
            subst hQe
            exact W.iret (v := r13) hx hb hr (fun t ht hW => ⟨⟨r13, ((0 : Int32), f8), rfl, hw, by rw [ht]; exact hP, va_K.moved hW.alike hK, hD⟩, hS.F ht⟩) hS.2.2 dX12_dealt_94
          · skip
            by_cases c14 : v3 = 2
            · replace hw := hw.2.2.1 c14
              refine lv_tableIn (tgt := 95) hx hb dX12_dealt_48 (by rw [c14]; decide) (by rw [c14]; decide) (by rw [c14]; rfl) (by decide) ?_
              refine lv_aload_n hx hb dX12_dealt_95 rfl (lv_at hl 1 rfl) ?_
              refine va_get (D := (dC, dI)) (ci := 12) (v := .ref h_row) (C := RX12) (T := TX12) (N := 22) hx hb hts inX12 hown hK hP 0 rfl rfl 1 (by decide) (hts _ (List.mem_cons_of_mem _ mw_169)) (fun _ h9 => h9) rfl dX12_dealt_96 ?_
              refine lv_sipush (v := 637) hx hb dX12_dealt_99 (by decide) ?_
              refine lv_iload hx hb dX12_dealt_102 (lv_at hl 0 rfl) ?_
              refine lv_iadd hx hb dX12_dealt_104 ?_
              obtain ⟨h15, hw⟩ := hw
              refine xiald (k := ((637 : Int32) + x7).toNatClampNeg) hx hb hK hP 1 0 rfl rfl h15 rfl dX12_dealt_105 ?_
              subst hQe
              exact W.iret (v := c_row ((637 : Int32) + x7).toNatClampNeg) hx hb hr (fun t ht hW => ⟨⟨(c_row ((637 : Int32) + x7).toNatClampNeg), ((0 : Int32), f8), rfl, hw, by rw [ht]; exact hP, va_K.moved hW.alike hK, hD⟩, hS.F ht⟩) hS.2.2 dX12_dealt_106
            · skip
              replace hw := hw.2.2.2 c9 c11 c14
              refine lv_tableOut (tgt := 107) hx hb dX12_dealt_48 (by have e0 := sw_ne (n := 0) c9 (by decide); have e1 := sw_ne (n := 1) c11 (by decide); have e2 := sw_ne (n := 2) c14 (by decide); omega) (by decide) ?_
              refine lv_aload_n hx hb dX12_dealt_107 rfl (lv_at hl 1 rfl) ?_
              refine va_get (D := (dC, dI)) (ci := 12) (v := .ref h_row) (C := RX12) (T := TX12) (N := 22) hx hb hts inX12 hown hK hP 0 rfl rfl 1 (by decide) (hts _ (List.mem_cons_of_mem _ mw_169)) (fun _ h9 => h9) rfl dX12_dealt_108 ?_
              refine lv_sipush (v := 653) hx hb dX12_dealt_111 (by decide) ?_
              refine xiald (k := 653) hx hb hK hP 1 0 rfl rfl (vpL 653 13385 rfl) (by decide) dX12_dealt_114 ?_
              refine lv_iload_n hx hb dX12_dealt_115 rfl (lv_at hl 3 rfl) ?_
              refine lv_ishr hx hb dX12_dealt_116 ?_
              refine lv_iconst (v := 1) hx hb dX12_dealt_117 (by decide) ?_
              refine lv_iand hx hb dX12_dealt_118 ?_
              subst hQe
              exact W.iret (v := ((c_row 653) >>> (v2 &&& 31)) &&& (1 : Int32)) hx hb hr (fun t ht hW => ⟨⟨(((c_row 653) >>> (v2 &&& 31)) &&& (1 : Int32)), ((0 : Int32), f8), rfl, hw, by rw [ht]; exact hP, va_K.moved hW.alike hK, hD⟩, hS.F ht⟩) hS.2.2 dX12_dealt_119
      · replace hw := hw.1 c6; clear c6
        refine lv_ldc (v := -2147483648) hx hb hown (hts _ (List.mem_cons_of_mem _ mw_908)) dX12_dealt_32 ?_
        subst hQe
        exact W.iret (v := (-2147483648 : Int32)) hx hb hr (fun t ht hW => ⟨⟨(-2147483648 : Int32), ((0 : Int32), c_scales), rfl, hw, by rw [ht]; exact hP, va_K.moved hW.alike hK, hD⟩, hS.F ht⟩) hS.2.2 dX12_dealt_34
set_option maxHeartbeats 4000000 in
set_option maxRecDepth 100000 in
theorem c_X12_code (l : Launch) (dC : Nat → ClassId) (dI : Nat → Nat → Nat) (cy : Nat → ClassId) (h0 h_row h_kept h_isKept h_aside h_eight h_rows h_scales h_dealt h_bytes h_heardRow h_made h_comes h_backs h_fresh : Nat) (sz : Nat) (v1 : Int32) (c_thrown : Int32) (c_nodeS : Int32) (c_nodeD : Int32) (c_pairE : Int32) (c_pairO : Int32) (c_bit : Int32) (c_lag : Int32) (c_lagSum : Int32) (c_row : Nat → Int32) (post : Int32 → Int32 → Prop) (hw : wp_X12_code v1 c_thrown c_row post) : Met l yX12_code wsX12_code ({ frames := 1, cells := 0, slots := 0, locals := 25 }) (PX dC dI cy [.ref h0, .int v1] sz (w_X12_code h0 h_row h_kept h_isKept h_aside h_eight h_rows h_scales h_dealt h_bytes h_heardRow h_made h_comes h_backs h_fresh cy c_thrown c_nodeS c_nodeD c_pairE c_pairO c_bit c_lag c_lagSum c_row)) (va_Qi (fun (r : Int32) (u : Int32) => post r u) (QX dC dI cy (va_A (w_X12_code h0 h_row h_kept h_isKept h_aside h_eight h_rows h_scales h_dealt h_bytes h_heardRow h_made h_comes h_backs h_fresh cy c_thrown c_nodeS c_nodeD c_pairE c_pairO c_bit c_lag c_lagSum c_row) sz) (fun (u : Int32) => w_X12_code h0 h_row h_kept h_isKept h_aside h_eight h_rows h_scales h_dealt h_bytes h_heardRow h_made h_comes h_backs h_fresh cy u c_nodeS c_nodeD c_pairE c_pairO c_bit c_lag c_lagSum c_row)) (va_A (w_X12_code h0 h_row h_kept h_isKept h_aside h_eight h_rows h_scales h_dealt h_bytes h_heardRow h_made h_comes h_backs h_fresh cy c_thrown c_nodeS c_nodeD c_pairE c_pairO c_bit c_lag c_lagSum c_row) sz)) 0 0 (va_A (w_X12_code h0 h_row h_kept h_isKept h_aside h_eight h_rows h_scales h_dealt h_bytes h_heardRow h_made h_comes h_backs h_fresh cy c_thrown c_nodeS c_nodeD c_pairE c_pairO c_bit c_lag c_lagSum c_row) sz) := by
  refine Met.ofW (cc := cX12_code) (maxL := 2) (ret := (some .int)) (by decide) rfl ?_
  intro p e s m args below meth c s₁ B hml hv
  obtain ⟨rfl, hsz, hP, hK, hD0, hG⟩ := hv
  have hx := B.exec
  have hb := B.bytes
  have hr := B.returns
  have hts := atoms_spec (ws := wsX12_code) B.pre
  have hown : s.vm.findClass RX12 = some m.cls := findClass_of_methodNamed B.named
  have hlocks := B.notSynchronized
  subst hsz
  have hD := hD0.self (sz := s.heap.size)
  generalize hAe : va_A (w_X12_code h0 h_row h_kept h_isKept h_aside h_eight h_rows h_scales h_dealt h_bytes h_heardRow h_made h_comes h_backs h_fresh cy c_thrown c_nodeS c_nodeD c_pairE c_pairO c_bit c_lag c_lagSum c_row) s.heap.size = A at hD ⊢
  have hA : ∀ q : Nat, s.heap.size ≤ q → A q := fun q h => by rw [← hAe]; exact Or.inr h
  have hS : va_S A s.heap s.heap [] := va_S.rf
  have hl := lv_entry ([.ref h0, .int v1]) (n := 2) (Nat.le_of_ble_eq_true rfl)
  rw [lg_entry_eq]
  generalize (lg_sl ([.ref h0, .int v1]) ++ List.replicate (2 - (lg_sl ([.ref h0, .int v1])).length) Slot.unset).toArray = ls at hl ⊢
  replace hl : lv_has ls 2 [(0, .ref h0), (1, .int v1)] := hl
  have inX12 : ∀ w ∈ u_ws RX12 TX12 22, w ∈ wsX12_code := fun w h => List.mem_cons_of_mem _ (inlX12 w h)
  clear hAe hD0 B
  unfold wp_X12_code at hw
  generalize hQe : MQ below _ _ s _ _ _ = Q0
  generalize ([.ref h0, .int v1] : List Value).toArray = av at *
  obtain ⟨H, hH⟩ : ∃ H, H = s.heap := ⟨_, rfl⟩
  obtain ⟨locs, hlo⟩ : ∃ L : List Loc, L = [] := ⟨_, rfl⟩
  replace hP : va_P (dC, dI) vwCl (w_X12_code h0 h_row h_kept h_isKept h_aside h_eight h_rows h_scales h_dealt h_bytes h_heardRow h_made h_comes h_backs h_fresh cy c_thrown c_nodeS c_nodeD c_pairE c_pairO c_bit c_lag c_lagSum c_row) H := by rw [hH]; exact hP
  replace hS : va_S A s.heap H locs := by rw [hH, hlo]; exact hS
  suffices hgo : W p l e ({ frames := 1, cells := 0, slots := 0, locals := 25 }) s m av below meth c H locs 0 0 Q0 (F0 m 0 ls []) by rw [hH, hlo] at hgo; exact hgo
  clear hH hlo
  refine lv_aload_n hx hb dX12_code_0 rfl (lv_at hl 0 rfl) ?_
  refine lv_iconst (v := 0) hx hb dX12_code_1 (by decide) ?_
  refine va_put (D := (dC, dI)) (ci := 12) (v := .int (0 : Int32)) (ty := .int) (C := RX12) (T := TX12) (N := 22) hx hb hts inX12 tyX12 tyX12_ok nmX12 hown hK hP hD hS 0 rfl rfl 0 (by decide) (hts _ (List.mem_cons_of_mem _ mw_200)) (fun _ h9 => h9) rfl (by decide +kernel) rfl rfl (Nat.le_of_ble_eq_true rfl) dX12_code_2 ?_; clear hP hD hS; clear H locs; intro H locs hP hD hS
  replace hP : va_P (dC, dI) vwCl (w_X12_code h0 h_row h_kept h_isKept h_aside h_eight h_rows h_scales h_dealt h_bytes h_heardRow h_made h_comes h_backs h_fresh cy (0 : Int32) c_nodeS c_nodeD c_pairE c_pairO c_bit c_lag c_lagSum c_row) H := hP
  replace hD : va_D A (w_X12_code h0 h_row h_kept h_isKept h_aside h_eight h_rows h_scales h_dealt h_bytes h_heardRow h_made h_comes h_backs h_fresh cy (0 : Int32) c_nodeS c_nodeD c_pairE c_pairO c_bit c_lag c_lagSum c_row) := hD
  refine lv_aload_n hx hb dX12_code_5 rfl (lv_at hl 0 rfl) ?_
  have hPc := pSub (ws' := (w_X12_isCoded h0 h_row h_kept h_isKept h_aside h_eight h_rows h_scales h_dealt h_bytes h_heardRow h_made h_comes h_backs h_fresh cy (0 : Int32) c_nodeS c_nodeD c_pairE c_pairO c_bit c_lag c_lagSum c_row)) hP [0, 1] rfl
  have hDc := dSub (ws' := (w_X12_isCoded h0 h_row h_kept h_isKept h_aside h_eight h_rows h_scales h_dealt h_bytes h_heardRow h_made h_comes h_backs h_fresh cy (0 : Int32) c_nodeS c_nodeD c_pairE c_pairO c_bit c_lag c_lagSum c_row)) hD [0, 1] (by decide) rfl
  have hFc := va_free (wc := (w_X12_isCoded h0 h_row h_kept h_isKept h_aside h_eight h_rows h_scales h_dealt h_bytes h_heardRow h_made h_comes h_backs h_fresh cy (0 : Int32) c_nodeS c_nodeD c_pairE c_pairO c_bit c_lag c_lagSum c_row)) hD hS hA [0, 1] rfl
  refine va_calli (va_runV (As := []) (rest := []) ⟨hx, hb, hml, hown, hts⟩ (c_X12_isCoded l dC dI cy h0 h_row h_kept h_isKept h_aside h_eight h_rows h_scales h_dealt h_bytes h_heardRow h_made h_comes h_backs h_fresh H.size (0 : Int32) c_nodeS c_nodeD c_pairE c_pairO c_bit c_lag c_lagSum c_row _ hw) (cwV 0 hts (goodV mw_935 mw_932 mw_933 mw_934 mw_5) rfl rfl rfl (by decide +kernel) ⟨Nat.le_of_ble_eq_true rfl, Nat.le_of_ble_eq_true rfl⟩) ⟨PX_blind, va_recv hK hPc (ci := 12) (q0 := 0) rfl rfl, PX_pre hPc hK hDc hG⟩ rfl rfl hl.1 rfl (lv_room (Nat.le_of_ble_eq_true rfl)) dX12_code_6 ⟨Nat.zero_le _, Nat.zero_le _⟩) hS (fun q _ h => hFc q h) hFc ?_; clear hw hS; intro r1 _ t H1 locs1 ht hvm hw hB hz1 hk1 hS
  obtain ⟨hP1, -, -⟩ := hB
  rw [ht] at hP1
  replace hP := jC0 hP hD [0, 1] [] rfl hk1 hP1 (w_X12_code h0 h_row h_kept h_isKept h_aside h_eight h_rows h_scales h_dealt h_bytes h_heardRow h_made h_comes h_backs h_fresh cy (0 : Int32) c_nodeS c_nodeD c_pairE c_pairO c_bit c_lag c_lagSum c_row) rfl rfl rfl 2 rfl (by decide +kernel); clear hD; obtain ⟨hP, hD⟩ := hP
  replace hP : va_P (dC, dI) vwCl (w_X12_code h0 h_row h_kept h_isKept h_aside h_eight h_rows h_scales h_dealt h_bytes h_heardRow h_made h_comes h_backs h_fresh cy (0 : Int32) c_nodeS c_nodeD c_pairE c_pairO c_bit c_lag c_lagSum c_row) H1 := hP
  replace hD : va_D A (w_X12_code h0 h_row h_kept h_isKept h_aside h_eight h_rows h_scales h_dealt h_bytes h_heardRow h_made h_comes h_backs h_fresh cy (0 : Int32) c_nodeS c_nodeD c_pairE c_pairO c_bit c_lag c_lagSum c_row) := hD
  clear hPc hDc hFc hP1 hk1 hz1 hvm ht; clear t; clear H locs; obtain ⟨H, hH⟩ : ∃ H, H = H1 := ⟨_, rfl⟩; obtain ⟨locs, hlo⟩ : ∃ L, L = locs1 := ⟨_, rfl⟩; subst hH; subst hlo
  refine W.widen (k := 0) (n := 0) (Nat.le_refl 0) (Nat.le_refl 0) ?_
  refine lv_if_ne (tgt := 14) hx hb dX12_code_9 (by decide) (fun c2 => ?_) (fun c2 => ?_)
  · replace hw := hw.2 c2; clear c2
    refine lv_iload_n hx hb dX12_code_14 rfl (lv_at hl 1 rfl) ?_
    refine lv_iconst (v := -1) hx hb dX12_code_15 (by decide) ?_
    refine lv_icmp_ne (tgt := 30) hx hb dX12_code_16 (by decide) (fun c3 => ?_) (fun c3 => ?_)
    · replace hw := hw.2 c3; clear c3
      refine lv_iload_n hx hb dX12_code_30 rfl (lv_at hl 1 rfl) ?_
      refine lv_i2l (v := v1.toInt64) hx hb dX12_code_31 rfl ?_
      refine lv_lconst (v := 0) hx hb dX12_code_32 (by decide) ?_
      refine lv_aload_n hx hb dX12_code_33 rfl (lv_at hl 0 rfl) ?_
      refine va_get (D := (dC, dI)) (ci := 12) (v := .ref h_row) (C := RX12) (T := TX12) (N := 22) hx hb hts inX12 hown hK hP 0 rfl rfl 1 (by decide) (hts _ (List.mem_cons_of_mem _ mw_169)) (fun _ h9 => h9) rfl dX12_code_34 ?_
      refine lv_sipush (v := 654) hx hb dX12_code_37 (by decide) ?_
      refine xiald (k := 654) hx hb hK hP 1 0 rfl rfl (vpL 654 13385 rfl) (by decide) dX12_code_40 ?_
      refine lv_i2l (v := (c_row 654).toInt64) hx hb dX12_code_41 rfl ?_
      refine lv_lconst (v := 1) hx hb dX12_code_42 (by decide) ?_
      refine lv_lsub hx hb dX12_code_43 ?_
      have hPc := pSub (ws' := (w_X12_in cy)) hP [] rfl
      have hDc := dSub (ws' := (w_X12_in cy)) hD [] (by decide) rfl
      have hFc := va_free (wc := (w_X12_in cy)) hD hS hA [] rfl
      refine va_calli (va_runS (As := [.long (v1.toInt64), .long (0 : Int64), .long (((c_row 654).toInt64) - (1 : Int64))]) (rest := []) ⟨hx, hb, hml, hown, hts⟩ (c_X12_in l dC dI cy  H.size (v1.toInt64) (0 : Int64) (((c_row 654).toInt64) - (1 : Int64)) _ hw) (va_cwS 3 hts (goodS mw_207 mw_205 mw_206 mw_5) rfl rfl rfl (by decide +kernel) ⟨Nat.le_of_ble_eq_true rfl, Nat.le_of_ble_eq_true rfl⟩) ⟨PX_blind, PX_pre hPc hK hDc hG⟩ rfl rfl hl.1 rfl (lv_room (Nat.le_of_ble_eq_true rfl)) dX12_code_44 ⟨Nat.zero_le _, Nat.zero_le _⟩) hS (fun q _ h => hFc q h) hFc ?_; clear hw hS; intro r5 _ t H1 locs1 ht hvm hw hB hz1 hk1 hS
      obtain ⟨hP1, -, -⟩ := hB
      rw [ht] at hP1
      replace hP := jC0 hP hD [] [0, 1] rfl hk1 hP1 (w_X12_code h0 h_row h_kept h_isKept h_aside h_eight h_rows h_scales h_dealt h_bytes h_heardRow h_made h_comes h_backs h_fresh cy (0 : Int32) c_nodeS c_nodeD c_pairE c_pairO c_bit c_lag c_lagSum c_row) rfl rfl rfl 2 rfl (by decide +kernel); clear hD; obtain ⟨hP, hD⟩ := hP
      replace hP : va_P (dC, dI) vwCl (w_X12_code h0 h_row h_kept h_isKept h_aside h_eight h_rows h_scales h_dealt h_bytes h_heardRow h_made h_comes h_backs h_fresh cy (0 : Int32) c_nodeS c_nodeD c_pairE c_pairO c_bit c_lag c_lagSum c_row) H1 := hP
      replace hD : va_D A (w_X12_code h0 h_row h_kept h_isKept h_aside h_eight h_rows h_scales h_dealt h_bytes h_heardRow h_made h_comes h_backs h_fresh cy (0 : Int32) c_nodeS c_nodeD c_pairE c_pairO c_bit c_lag c_lagSum c_row) := hD
      clear hPc hDc hFc hP1 hk1 hz1 hvm ht; clear t; clear H locs; obtain ⟨H, hH⟩ : ∃ H, H = H1 := ⟨_, rfl⟩; obtain ⟨locs, hlo⟩ : ∃ L, L = locs1 := ⟨_, rfl⟩; subst hH; subst hlo
      refine W.widen (k := 0) (n := 0) (Nat.le_refl 0) (Nat.le_refl 0) ?_
      refine lv_if_eq (tgt := 63) hx hb dX12_code_47 (by decide) (fun c6 => ?_) (fun c6 => ?_)
      · replace hw := hw.1 c6; clear c6
        refine lv_iconst (v := -1) hx hb dX12_code_63 (by decide) ?_
        subst hQe
        exact W.iret (v := (-1 : Int32)) hx hb hr (fun t ht hW => ⟨⟨(-1 : Int32), (0 : Int32), rfl, hw, by rw [ht]; exact hP, va_K.moved hW.alike hK, hD⟩, hS.F ht⟩) hS.2.2 dX12_code_64
      · replace hw := hw.2 c6; clear c6
        refine lv_aload_n hx hb dX12_code_50 rfl (lv_at hl 0 rfl) ?_
        refine va_get (D := (dC, dI)) (ci := 12) (v := .ref h_row) (C := RX12) (T := TX12) (N := 22) hx hb hts inX12 hown hK hP 0 rfl rfl 1 (by decide) (hts _ (List.mem_cons_of_mem _ mw_169)) (fun _ h9 => h9) rfl dX12_code_51 ?_
        refine lv_sipush (v := 655) hx hb dX12_code_54 (by decide) ?_
        refine lv_iload_n hx hb dX12_code_57 rfl (lv_at hl 1 rfl) ?_
        refine lv_iadd hx hb dX12_code_58 ?_
        obtain ⟨h7, hw⟩ := hw
        refine xiald (k := ((655 : Int32) + v1).toNatClampNeg) hx hb hK hP 1 0 rfl rfl h7 rfl dX12_code_59 ?_
        refine lv_goto (tgt := 64) hx hb dX12_code_60 (by decide) ?_
        subst hQe
        exact W.iret (v := c_row ((655 : Int32) + v1).toNatClampNeg) hx hb hr (fun t ht hW => ⟨⟨(c_row ((655 : Int32) + v1).toNatClampNeg), (0 : Int32), rfl, hw, by rw [ht]; exact hP, va_K.moved hW.alike hK, hD⟩, hS.F ht⟩) hS.2.2 dX12_code_64
    · replace hw := hw.1 c3; clear c3
      refine lv_aload_n hx hb dX12_code_19 rfl (lv_at hl 0 rfl) ?_
      refine va_get (D := (dC, dI)) (ci := 12) (v := .ref h_row) (C := RX12) (T := TX12) (N := 22) hx hb hts inX12 hown hK hP 0 rfl rfl 1 (by decide) (hts _ (List.mem_cons_of_mem _ mw_169)) (fun _ h9 => h9) rfl dX12_code_20 ?_
      refine lv_sipush (v := 654) hx hb dX12_code_23 (by decide) ?_
      refine xiald (k := 654) hx hb hK hP 1 0 rfl rfl (vpL 654 13385 rfl) (by decide) dX12_code_26 ?_
      refine lv_goto (tgt := 64) hx hb dX12_code_27 (by decide) ?_
      subst hQe
      exact W.iret (v := c_row 654) hx hb hr (fun t ht hW => ⟨⟨(c_row 654), (0 : Int32), rfl, hw, by rw [ht]; exact hP, va_K.moved hW.alike hK, hD⟩, hS.F ht⟩) hS.2.2 dX12_code_64
  · replace hw := hw.1 c2; clear c2
    refine lv_iconst (v := -1) hx hb dX12_code_12 (by decide) ?_
    subst hQe
    exact W.iret (v := (-1 : Int32)) hx hb hr (fun t ht hW => ⟨⟨(-1 : Int32), (0 : Int32), rfl, hw, by rw [ht]; exact hP, va_K.moved hW.alike hK, hD⟩, hS.F ht⟩) hS.2.2 dX12_code_13
set_option maxHeartbeats 4000000 in
set_option maxRecDepth 100000 in
theorem c_X12_canDeal (l : Launch) (dC : Nat → ClassId) (dI : Nat → Nat → Nat) (cy : Nat → ClassId) (h0 h_row h_kept h_isKept h_aside h_eight h_rows h_scales h_dealt h_bytes h_heardRow h_made h_comes h_backs h_fresh : Nat) (sz : Nat) (v1 : Int32) (v2 : Int32) (c_thrown : Int32) (c_nodeS : Int32) (c_nodeD : Int32) (c_pairE : Int32) (c_pairO : Int32) (c_bit : Int32) (c_lag : Int32) (c_lagSum : Int32) (c_row : Nat → Int32) (post : Int32 → Prop) (hw : wp_X12_canDeal v1 v2 c_row post) : Met l yX12_canDeal wsX12_canDeal ({ frames := 1, cells := 0, slots := 0, locals := 25 }) (PX dC dI cy [.ref h0, .int v1, .int v2] sz (w_X12_canDeal h0 h_row h_kept h_isKept h_aside h_eight h_rows h_scales h_dealt h_bytes h_heardRow h_made h_comes h_backs h_fresh cy c_thrown c_nodeS c_nodeD c_pairE c_pairO c_bit c_lag c_lagSum c_row)) (va_Qi (fun (r : Int32) (u : Unit) => post r) (QX dC dI cy (va_A (w_X12_canDeal h0 h_row h_kept h_isKept h_aside h_eight h_rows h_scales h_dealt h_bytes h_heardRow h_made h_comes h_backs h_fresh cy c_thrown c_nodeS c_nodeD c_pairE c_pairO c_bit c_lag c_lagSum c_row) sz) (fun (u : Unit) => w_X12_canDeal h0 h_row h_kept h_isKept h_aside h_eight h_rows h_scales h_dealt h_bytes h_heardRow h_made h_comes h_backs h_fresh cy c_thrown c_nodeS c_nodeD c_pairE c_pairO c_bit c_lag c_lagSum c_row)) (va_A (w_X12_canDeal h0 h_row h_kept h_isKept h_aside h_eight h_rows h_scales h_dealt h_bytes h_heardRow h_made h_comes h_backs h_fresh cy c_thrown c_nodeS c_nodeD c_pairE c_pairO c_bit c_lag c_lagSum c_row) sz)) 0 0 (va_A (w_X12_canDeal h0 h_row h_kept h_isKept h_aside h_eight h_rows h_scales h_dealt h_bytes h_heardRow h_made h_comes h_backs h_fresh cy c_thrown c_nodeS c_nodeD c_pairE c_pairO c_bit c_lag c_lagSum c_row) sz) := by
  refine Met.ofW (cc := cX12_canDeal) (maxL := 3) (ret := (some .boolean)) (by decide) rfl ?_
  intro p e s m args below meth c s₁ B hml hv
  obtain ⟨rfl, hsz, hP, hK, hD0, hG⟩ := hv
  have hx := B.exec
  have hb := B.bytes
  have hr := B.returns
  have hts := atoms_spec (ws := wsX12_canDeal) B.pre
  have hown : s.vm.findClass RX12 = some m.cls := findClass_of_methodNamed B.named
  have hlocks := B.notSynchronized
  subst hsz
  have hD := hD0.self (sz := s.heap.size)
  generalize hAe : va_A (w_X12_canDeal h0 h_row h_kept h_isKept h_aside h_eight h_rows h_scales h_dealt h_bytes h_heardRow h_made h_comes h_backs h_fresh cy c_thrown c_nodeS c_nodeD c_pairE c_pairO c_bit c_lag c_lagSum c_row) s.heap.size = A at hD ⊢
  have hA : ∀ q : Nat, s.heap.size ≤ q → A q := fun q h => by rw [← hAe]; exact Or.inr h
  have hS : va_S A s.heap s.heap [] := va_S.rf
  have hl := lv_entry ([.ref h0, .int v1, .int v2]) (n := 3) (Nat.le_of_ble_eq_true rfl)
  rw [lg_entry_eq]
  generalize (lg_sl ([.ref h0, .int v1, .int v2]) ++ List.replicate (3 - (lg_sl ([.ref h0, .int v1, .int v2])).length) Slot.unset).toArray = ls at hl ⊢
  replace hl : lv_has ls 3 [(0, .ref h0), (1, .int v1), (2, .int v2)] := hl
  clear hAe hD0 B
  unfold wp_X12_canDeal at hw
  generalize hQe : MQ below _ _ s _ _ _ = Q0
  generalize ([.ref h0, .int v1, .int v2] : List Value).toArray = av at *
  obtain ⟨H, hH⟩ : ∃ H, H = s.heap := ⟨_, rfl⟩
  obtain ⟨locs, hlo⟩ : ∃ L : List Loc, L = [] := ⟨_, rfl⟩
  replace hP : va_P (dC, dI) vwCl (w_X12_canDeal h0 h_row h_kept h_isKept h_aside h_eight h_rows h_scales h_dealt h_bytes h_heardRow h_made h_comes h_backs h_fresh cy c_thrown c_nodeS c_nodeD c_pairE c_pairO c_bit c_lag c_lagSum c_row) H := by rw [hH]; exact hP
  replace hS : va_S A s.heap H locs := by rw [hH, hlo]; exact hS
  suffices hgo : W p l e ({ frames := 1, cells := 0, slots := 0, locals := 25 }) s m av below meth c H locs 0 0 Q0 (F0 m 0 ls []) by rw [hH, hlo] at hgo; exact hgo
  clear hH hlo
  refine lv_aload_n hx hb dX12_canDeal_0 rfl (lv_at hl 0 rfl) ?_
  have hPc := pSub (ws' := (w_X12_isCoded h0 h_row h_kept h_isKept h_aside h_eight h_rows h_scales h_dealt h_bytes h_heardRow h_made h_comes h_backs h_fresh cy c_thrown c_nodeS c_nodeD c_pairE c_pairO c_bit c_lag c_lagSum c_row)) hP [0, 1] rfl
  have hDc := dSub (ws' := (w_X12_isCoded h0 h_row h_kept h_isKept h_aside h_eight h_rows h_scales h_dealt h_bytes h_heardRow h_made h_comes h_backs h_fresh cy c_thrown c_nodeS c_nodeD c_pairE c_pairO c_bit c_lag c_lagSum c_row)) hD [0, 1] (by decide) rfl
  have hFc := va_free (wc := (w_X12_isCoded h0 h_row h_kept h_isKept h_aside h_eight h_rows h_scales h_dealt h_bytes h_heardRow h_made h_comes h_backs h_fresh cy c_thrown c_nodeS c_nodeD c_pairE c_pairO c_bit c_lag c_lagSum c_row)) hD hS hA [0, 1] rfl
  refine va_calli (va_runV (As := []) (rest := []) ⟨hx, hb, hml, hown, hts⟩ (c_X12_isCoded l dC dI cy h0 h_row h_kept h_isKept h_aside h_eight h_rows h_scales h_dealt h_bytes h_heardRow h_made h_comes h_backs h_fresh H.size c_thrown c_nodeS c_nodeD c_pairE c_pairO c_bit c_lag c_lagSum c_row _ hw) (cwV 0 hts (goodV mw_935 mw_932 mw_933 mw_934 mw_5) rfl rfl rfl (by decide +kernel) ⟨Nat.le_of_ble_eq_true rfl, Nat.le_of_ble_eq_true rfl⟩) ⟨PX_blind, va_recv hK hPc (ci := 12) (q0 := 0) rfl rfl, PX_pre hPc hK hDc hG⟩ rfl rfl hl.1 rfl (lv_room (Nat.le_of_ble_eq_true rfl)) dX12_canDeal_1 ⟨Nat.zero_le _, Nat.zero_le _⟩) hS (fun q _ h => hFc q h) hFc ?_; clear hw hS; intro r1 _ t H1 locs1 ht hvm hw hB hz1 hk1 hS
  obtain ⟨hP1, -, -⟩ := hB
  rw [ht] at hP1
  replace hP := jC0 hP hD [0, 1] [] rfl hk1 hP1 (w_X12_canDeal h0 h_row h_kept h_isKept h_aside h_eight h_rows h_scales h_dealt h_bytes h_heardRow h_made h_comes h_backs h_fresh cy c_thrown c_nodeS c_nodeD c_pairE c_pairO c_bit c_lag c_lagSum c_row) rfl rfl rfl 2 rfl (by decide +kernel); clear hD; obtain ⟨hP, hD⟩ := hP
  replace hP : va_P (dC, dI) vwCl (w_X12_canDeal h0 h_row h_kept h_isKept h_aside h_eight h_rows h_scales h_dealt h_bytes h_heardRow h_made h_comes h_backs h_fresh cy c_thrown c_nodeS c_nodeD c_pairE c_pairO c_bit c_lag c_lagSum c_row) H1 := hP
  replace hD : va_D A (w_X12_canDeal h0 h_row h_kept h_isKept h_aside h_eight h_rows h_scales h_dealt h_bytes h_heardRow h_made h_comes h_backs h_fresh cy c_thrown c_nodeS c_nodeD c_pairE c_pairO c_bit c_lag c_lagSum c_row) := hD
  clear hPc hDc hFc hP1 hk1 hz1 hvm ht; clear t; clear H locs; obtain ⟨H, hH⟩ : ∃ H, H = H1 := ⟨_, rfl⟩; obtain ⟨locs, hlo⟩ : ∃ L, L = locs1 := ⟨_, rfl⟩; subst hH; subst hlo
  refine W.widen (k := 0) (n := 0) (Nat.le_refl 0) (Nat.le_refl 0) ?_
  refine lv_if_eq (tgt := 35) hx hb dX12_canDeal_4 (by decide) (fun c2 => ?_) (fun c2 => ?_)
  · replace hw := hw.1 c2; clear c2
    refine lv_iconst (v := 0) hx hb dX12_canDeal_35 (by decide) ?_
    subst hQe
    exact W.zret (v := (0 : Int32)) hx hb hr isB_0 (fun t ht hW => ⟨⟨(0 : Int32), (), rfl, hw, by rw [ht]; exact hP, va_K.moved hW.alike hK, hD⟩, hS.F ht⟩) hS.2.2 dX12_canDeal_36
  · replace hw := hw.2 c2; clear c2
    refine lv_iload_n hx hb dX12_canDeal_7 rfl (lv_at hl 1 rfl) ?_
    refine lv_i2l (v := v1.toInt64) hx hb dX12_canDeal_8 rfl ?_
    refine lv_ldc2 (v := 2) hx hb hown (hts _ (List.mem_cons_of_mem _ mw_201)) dX12_canDeal_9 ?_
    refine lv_ldc2 (v := 128) hx hb hown (hts _ (List.mem_cons_of_mem _ mw_223)) dX12_canDeal_12 ?_
    have hPc := pSub (ws' := (w_X12_in cy)) hP [] rfl
    have hDc := dSub (ws' := (w_X12_in cy)) hD [] (by decide) rfl
    have hFc := va_free (wc := (w_X12_in cy)) hD hS hA [] rfl
    refine va_calli (va_runS (As := [.long (v1.toInt64), .long (2 : Int64), .long (128 : Int64)]) (rest := []) ⟨hx, hb, hml, hown, hts⟩ (c_X12_in l dC dI cy  H.size (v1.toInt64) (2 : Int64) (128 : Int64) _ hw) (va_cwS 3 hts (goodS mw_207 mw_205 mw_206 mw_5) rfl rfl rfl (by decide +kernel) ⟨Nat.le_of_ble_eq_true rfl, Nat.le_of_ble_eq_true rfl⟩) ⟨PX_blind, PX_pre hPc hK hDc hG⟩ rfl rfl hl.1 rfl (lv_room (Nat.le_of_ble_eq_true rfl)) dX12_canDeal_15 ⟨Nat.zero_le _, Nat.zero_le _⟩) hS (fun q _ h => hFc q h) hFc ?_; clear hw hS; intro r3 _ t H1 locs1 ht hvm hw hB hz1 hk1 hS
    obtain ⟨hP1, -, -⟩ := hB
    rw [ht] at hP1
    replace hP := jC0 hP hD [] [0, 1] rfl hk1 hP1 (w_X12_canDeal h0 h_row h_kept h_isKept h_aside h_eight h_rows h_scales h_dealt h_bytes h_heardRow h_made h_comes h_backs h_fresh cy c_thrown c_nodeS c_nodeD c_pairE c_pairO c_bit c_lag c_lagSum c_row) rfl rfl rfl 2 rfl (by decide +kernel); clear hD; obtain ⟨hP, hD⟩ := hP
    replace hP : va_P (dC, dI) vwCl (w_X12_canDeal h0 h_row h_kept h_isKept h_aside h_eight h_rows h_scales h_dealt h_bytes h_heardRow h_made h_comes h_backs h_fresh cy c_thrown c_nodeS c_nodeD c_pairE c_pairO c_bit c_lag c_lagSum c_row) H1 := hP
    replace hD : va_D A (w_X12_canDeal h0 h_row h_kept h_isKept h_aside h_eight h_rows h_scales h_dealt h_bytes h_heardRow h_made h_comes h_backs h_fresh cy c_thrown c_nodeS c_nodeD c_pairE c_pairO c_bit c_lag c_lagSum c_row) := hD
    clear hPc hDc hFc hP1 hk1 hz1 hvm ht; clear t; clear H locs; obtain ⟨H, hH⟩ : ∃ H, H = H1 := ⟨_, rfl⟩; obtain ⟨locs, hlo⟩ : ∃ L, L = locs1 := ⟨_, rfl⟩; subst hH; subst hlo
    refine W.widen (k := 0) (n := 0) (Nat.le_refl 0) (Nat.le_refl 0) ?_
    refine lv_if_eq (tgt := 35) hx hb dX12_canDeal_18 (by decide) (fun c4 => ?_) (fun c4 => ?_)
    · replace hw := hw.1 c4; clear c4
      refine lv_iconst (v := 0) hx hb dX12_canDeal_35 (by decide) ?_
      subst hQe
      exact W.zret (v := (0 : Int32)) hx hb hr isB_0 (fun t ht hW => ⟨⟨(0 : Int32), (), rfl, hw, by rw [ht]; exact hP, va_K.moved hW.alike hK, hD⟩, hS.F ht⟩) hS.2.2 dX12_canDeal_36
    · replace hw := hw.2 c4; clear c4
      refine lv_iload_n hx hb dX12_canDeal_21 rfl (lv_at hl 2 rfl) ?_
      refine lv_i2l (v := v2.toInt64) hx hb dX12_canDeal_22 rfl ?_
      refine lv_lconst (v := 0) hx hb dX12_canDeal_23 (by decide) ?_
      refine lv_lconst (v := 1) hx hb dX12_canDeal_24 (by decide) ?_
      have hPc := pSub (ws' := (w_X12_in cy)) hP [] rfl
      have hDc := dSub (ws' := (w_X12_in cy)) hD [] (by decide) rfl
      have hFc := va_free (wc := (w_X12_in cy)) hD hS hA [] rfl
      refine va_calli (va_runS (As := [.long (v2.toInt64), .long (0 : Int64), .long (1 : Int64)]) (rest := []) ⟨hx, hb, hml, hown, hts⟩ (c_X12_in l dC dI cy  H.size (v2.toInt64) (0 : Int64) (1 : Int64) _ hw) (va_cwS 3 hts (goodS mw_207 mw_205 mw_206 mw_5) rfl rfl rfl (by decide +kernel) ⟨Nat.le_of_ble_eq_true rfl, Nat.le_of_ble_eq_true rfl⟩) ⟨PX_blind, PX_pre hPc hK hDc hG⟩ rfl rfl hl.1 rfl (lv_room (Nat.le_of_ble_eq_true rfl)) dX12_canDeal_25 ⟨Nat.zero_le _, Nat.zero_le _⟩) hS (fun q _ h => hFc q h) hFc ?_; clear hw hS; intro r5 _ t H1 locs1 ht hvm hw hB hz1 hk1 hS
      obtain ⟨hP1, -, -⟩ := hB
      rw [ht] at hP1
      replace hP := jC0 hP hD [] [0, 1] rfl hk1 hP1 (w_X12_canDeal h0 h_row h_kept h_isKept h_aside h_eight h_rows h_scales h_dealt h_bytes h_heardRow h_made h_comes h_backs h_fresh cy c_thrown c_nodeS c_nodeD c_pairE c_pairO c_bit c_lag c_lagSum c_row) rfl rfl rfl 2 rfl (by decide +kernel); clear hD; obtain ⟨hP, hD⟩ := hP
      replace hP : va_P (dC, dI) vwCl (w_X12_canDeal h0 h_row h_kept h_isKept h_aside h_eight h_rows h_scales h_dealt h_bytes h_heardRow h_made h_comes h_backs h_fresh cy c_thrown c_nodeS c_nodeD c_pairE c_pairO c_bit c_lag c_lagSum c_row) H1 := hP
      replace hD : va_D A (w_X12_canDeal h0 h_row h_kept h_isKept h_aside h_eight h_rows h_scales h_dealt h_bytes h_heardRow h_made h_comes h_backs h_fresh cy c_thrown c_nodeS c_nodeD c_pairE c_pairO c_bit c_lag c_lagSum c_row) := hD
      clear hPc hDc hFc hP1 hk1 hz1 hvm ht; clear t; clear H locs; obtain ⟨H, hH⟩ : ∃ H, H = H1 := ⟨_, rfl⟩; obtain ⟨locs, hlo⟩ : ∃ L, L = locs1 := ⟨_, rfl⟩; subst hH; subst hlo
      refine W.widen (k := 0) (n := 0) (Nat.le_refl 0) (Nat.le_refl 0) ?_
      refine lv_if_eq (tgt := 35) hx hb dX12_canDeal_28 (by decide) (fun c6 => ?_) (fun c6 => ?_)
      · replace hw := hw.1 c6; clear c6
        refine lv_iconst (v := 0) hx hb dX12_canDeal_35 (by decide) ?_
        subst hQe
        exact W.zret (v := (0 : Int32)) hx hb hr isB_0 (fun t ht hW => ⟨⟨(0 : Int32), (), rfl, hw, by rw [ht]; exact hP, va_K.moved hW.alike hK, hD⟩, hS.F ht⟩) hS.2.2 dX12_canDeal_36
      · replace hw := hw.2 c6; clear c6
        refine lv_iconst (v := 1) hx hb dX12_canDeal_31 (by decide) ?_
        refine lv_goto (tgt := 36) hx hb dX12_canDeal_32 (by decide) ?_
        subst hQe
        exact W.zret (v := (1 : Int32)) hx hb hr isB_1 (fun t ht hW => ⟨⟨(1 : Int32), (), rfl, hw, by rw [ht]; exact hP, va_K.moved hW.alike hK, hD⟩, hS.F ht⟩) hS.2.2 dX12_canDeal_36
set_option maxHeartbeats 4000000 in
set_option maxRecDepth 100000 in
theorem c_X12_dealtBy (l : Launch) (dC : Nat → ClassId) (dI : Nat → Nat → Nat) (cy : Nat → ClassId) (h0 h_row h_kept h_isKept h_aside h_eight h_rows h_scales h_dealt h_bytes h_heardRow h_made h_comes h_backs h_fresh : Nat) (sz : Nat) (v1 : Int32) (v2 : Int32) (v3 : Int32) (v4 : Int32) (c_thrown : Int32) (c_nodeS : Int32) (c_nodeD : Int32) (c_pairE : Int32) (c_pairO : Int32) (c_bit : Int32) (c_lag : Int32) (c_lagSum : Int32) (c_row : Nat → Int32) (c_scales : Nat → Int32) (c_dealt : Nat → Int32) (post : Int32 → Int32 → (Nat → Int32) → (Nat → Int32) → Prop) (hw : wp_X12_dealtBy v1 v2 v3 v4 c_thrown c_row c_scales c_dealt post) : Met l yX12_dealtBy wsX12_dealtBy ({ frames := 2, cells := 0, slots := 0, locals := 52 }) (PX dC dI cy [.ref h0, .int v1, .int v2, .int v3, .int v4] sz (w_X12_dealtBy h0 h_row h_kept h_isKept h_aside h_eight h_rows h_scales h_dealt h_bytes h_heardRow h_made h_comes h_backs h_fresh cy c_thrown c_nodeS c_nodeD c_pairE c_pairO c_bit c_lag c_lagSum c_row c_scales c_dealt)) (va_Qi (fun (r : Int32) (u : Int32 × (Nat → Int32) × (Nat → Int32)) => post r u.1 u.2.1 u.2.2) (QX dC dI cy (va_A (w_X12_dealtBy h0 h_row h_kept h_isKept h_aside h_eight h_rows h_scales h_dealt h_bytes h_heardRow h_made h_comes h_backs h_fresh cy c_thrown c_nodeS c_nodeD c_pairE c_pairO c_bit c_lag c_lagSum c_row c_scales c_dealt) sz) (fun (u : Int32 × (Nat → Int32) × (Nat → Int32)) => w_X12_dealtBy h0 h_row h_kept h_isKept h_aside h_eight h_rows h_scales h_dealt h_bytes h_heardRow h_made h_comes h_backs h_fresh cy u.1 c_nodeS c_nodeD c_pairE c_pairO c_bit c_lag c_lagSum c_row u.2.1 u.2.2)) (va_A (w_X12_dealtBy h0 h_row h_kept h_isKept h_aside h_eight h_rows h_scales h_dealt h_bytes h_heardRow h_made h_comes h_backs h_fresh cy c_thrown c_nodeS c_nodeD c_pairE c_pairO c_bit c_lag c_lagSum c_row c_scales c_dealt) sz)) 0 0 (va_A (w_X12_dealtBy h0 h_row h_kept h_isKept h_aside h_eight h_rows h_scales h_dealt h_bytes h_heardRow h_made h_comes h_backs h_fresh cy c_thrown c_nodeS c_nodeD c_pairE c_pairO c_bit c_lag c_lagSum c_row c_scales c_dealt) sz) := by
  refine Met.ofW (cc := cX12_dealtBy) (maxL := 5) (ret := (some .int)) (by decide) rfl ?_
  intro p e s m args below meth c s₁ B hml hv
  obtain ⟨rfl, hsz, hP, hK, hD0, hG⟩ := hv
  have hx := B.exec
  have hb := B.bytes
  have hr := B.returns
  have hts := atoms_spec (ws := wsX12_dealtBy) B.pre
  have hown : s.vm.findClass RX12 = some m.cls := findClass_of_methodNamed B.named
  have hlocks := B.notSynchronized
  subst hsz
  have hD := hD0.self (sz := s.heap.size)
  generalize hAe : va_A (w_X12_dealtBy h0 h_row h_kept h_isKept h_aside h_eight h_rows h_scales h_dealt h_bytes h_heardRow h_made h_comes h_backs h_fresh cy c_thrown c_nodeS c_nodeD c_pairE c_pairO c_bit c_lag c_lagSum c_row c_scales c_dealt) s.heap.size = A at hD ⊢
  have hA : ∀ q : Nat, s.heap.size ≤ q → A q := fun q h => by rw [← hAe]; exact Or.inr h
  have hS : va_S A s.heap s.heap [] := va_S.rf
  have hl := lv_entry ([.ref h0, .int v1, .int v2, .int v3, .int v4]) (n := 5) (Nat.le_of_ble_eq_true rfl)
  rw [lg_entry_eq]
  generalize (lg_sl ([.ref h0, .int v1, .int v2, .int v3, .int v4]) ++ List.replicate (5 - (lg_sl ([.ref h0, .int v1, .int v2, .int v3, .int v4])).length) Slot.unset).toArray = ls at hl ⊢
  replace hl : lv_has ls 5 [(0, .ref h0), (1, .int v1), (2, .int v2), (3, .int v3), (4, .int v4)] := hl
  have inX12 : ∀ w ∈ u_ws RX12 TX12 22, w ∈ wsX12_dealtBy := fun w h => List.mem_cons_of_mem _ (inlX12 w h)
  clear hAe hD0 B
  unfold wp_X12_dealtBy at hw
  generalize hQe : MQ below _ _ s _ _ _ = Q0
  generalize ([.ref h0, .int v1, .int v2, .int v3, .int v4] : List Value).toArray = av at *
  obtain ⟨H, hH⟩ : ∃ H, H = s.heap := ⟨_, rfl⟩
  obtain ⟨locs, hlo⟩ : ∃ L : List Loc, L = [] := ⟨_, rfl⟩
  replace hP : va_P (dC, dI) vwCl (w_X12_dealtBy h0 h_row h_kept h_isKept h_aside h_eight h_rows h_scales h_dealt h_bytes h_heardRow h_made h_comes h_backs h_fresh cy c_thrown c_nodeS c_nodeD c_pairE c_pairO c_bit c_lag c_lagSum c_row c_scales c_dealt) H := by rw [hH]; exact hP
  replace hS : va_S A s.heap H locs := by rw [hH, hlo]; exact hS
  suffices hgo : W p l e ({ frames := 2, cells := 0, slots := 0, locals := 52 }) s m av below meth c H locs 0 0 Q0 (F0 m 0 ls []) by rw [hH, hlo] at hgo; exact hgo
  clear hH hlo
  refine lv_aload_n hx hb dX12_dealtBy_0 rfl (lv_at hl 0 rfl) ?_
  refine lv_iconst (v := 0) hx hb dX12_dealtBy_1 (by decide) ?_
  refine va_put (D := (dC, dI)) (ci := 12) (v := .int (0 : Int32)) (ty := .int) (C := RX12) (T := TX12) (N := 22) hx hb hts inX12 tyX12 tyX12_ok nmX12 hown hK hP hD hS 0 rfl rfl 0 (by decide) (hts _ (List.mem_cons_of_mem _ mw_200)) (fun _ h9 => h9) rfl (by decide +kernel) rfl rfl (Nat.le_of_ble_eq_true rfl) dX12_dealtBy_2 ?_; clear hP hD hS; clear H locs; intro H locs hP hD hS
  replace hP : va_P (dC, dI) vwCl (w_X12_dealtBy h0 h_row h_kept h_isKept h_aside h_eight h_rows h_scales h_dealt h_bytes h_heardRow h_made h_comes h_backs h_fresh cy (0 : Int32) c_nodeS c_nodeD c_pairE c_pairO c_bit c_lag c_lagSum c_row c_scales c_dealt) H := hP
  replace hD : va_D A (w_X12_dealtBy h0 h_row h_kept h_isKept h_aside h_eight h_rows h_scales h_dealt h_bytes h_heardRow h_made h_comes h_backs h_fresh cy (0 : Int32) c_nodeS c_nodeD c_pairE c_pairO c_bit c_lag c_lagSum c_row c_scales c_dealt) := hD
  refine lv_aload_n hx hb dX12_dealtBy_5 rfl (lv_at hl 0 rfl) ?_
  refine lv_iload_n hx hb dX12_dealtBy_6 rfl (lv_at hl 1 rfl) ?_
  refine lv_iload_n hx hb dX12_dealtBy_7 rfl (lv_at hl 2 rfl) ?_
  have hPc := pSub (ws' := (w_X12_canDeal h0 h_row h_kept h_isKept h_aside h_eight h_rows h_scales h_dealt h_bytes h_heardRow h_made h_comes h_backs h_fresh cy (0 : Int32) c_nodeS c_nodeD c_pairE c_pairO c_bit c_lag c_lagSum c_row)) hP [0, 1] rfl
  have hDc := dSub (ws' := (w_X12_canDeal h0 h_row h_kept h_isKept h_aside h_eight h_rows h_scales h_dealt h_bytes h_heardRow h_made h_comes h_backs h_fresh cy (0 : Int32) c_nodeS c_nodeD c_pairE c_pairO c_bit c_lag c_lagSum c_row)) hD [0, 1] (by decide) rfl
  have hFc := va_free (wc := (w_X12_canDeal h0 h_row h_kept h_isKept h_aside h_eight h_rows h_scales h_dealt h_bytes h_heardRow h_made h_comes h_backs h_fresh cy (0 : Int32) c_nodeS c_nodeD c_pairE c_pairO c_bit c_lag c_lagSum c_row)) hD hS hA [0, 1] rfl
  refine va_calli (va_runV (As := [.int v1, .int v2]) (rest := []) ⟨hx, hb, hml, hown, hts⟩ (c_X12_canDeal l dC dI cy h0 h_row h_kept h_isKept h_aside h_eight h_rows h_scales h_dealt h_bytes h_heardRow h_made h_comes h_backs h_fresh H.size v1 v2 (0 : Int32) c_nodeS c_nodeD c_pairE c_pairO c_bit c_lag c_lagSum c_row _ hw) (cwV 2 hts (goodV mw_987 mw_984 mw_985 mw_986 mw_5) rfl rfl rfl (by decide +kernel) ⟨Nat.le_of_ble_eq_true rfl, Nat.le_of_ble_eq_true rfl⟩) ⟨PX_blind, va_recv hK hPc (ci := 12) (q0 := 0) rfl rfl, PX_pre hPc hK hDc hG⟩ rfl rfl hl.1 rfl (lv_room (Nat.le_of_ble_eq_true rfl)) dX12_dealtBy_8 ⟨Nat.zero_le _, Nat.zero_le _⟩) hS (fun q _ h => hFc q h) hFc ?_; clear hw hS; intro r1 _ t H1 locs1 ht hvm hw hB hz1 hk1 hS
  obtain ⟨hP1, -, -⟩ := hB
  rw [ht] at hP1
  replace hP := jC0 hP hD [0, 1] [2, 3] rfl hk1 hP1 (w_X12_dealtBy h0 h_row h_kept h_isKept h_aside h_eight h_rows h_scales h_dealt h_bytes h_heardRow h_made h_comes h_backs h_fresh cy (0 : Int32) c_nodeS c_nodeD c_pairE c_pairO c_bit c_lag c_lagSum c_row c_scales c_dealt) rfl rfl rfl 4 rfl (by decide +kernel); clear hD; obtain ⟨hP, hD⟩ := hP
  replace hP : va_P (dC, dI) vwCl (w_X12_dealtBy h0 h_row h_kept h_isKept h_aside h_eight h_rows h_scales h_dealt h_bytes h_heardRow h_made h_comes h_backs h_fresh cy (0 : Int32) c_nodeS c_nodeD c_pairE c_pairO c_bit c_lag c_lagSum c_row c_scales c_dealt) H1 := hP
  replace hD : va_D A (w_X12_dealtBy h0 h_row h_kept h_isKept h_aside h_eight h_rows h_scales h_dealt h_bytes h_heardRow h_made h_comes h_backs h_fresh cy (0 : Int32) c_nodeS c_nodeD c_pairE c_pairO c_bit c_lag c_lagSum c_row c_scales c_dealt) := hD
  clear hPc hDc hFc hP1 hk1 hz1 hvm ht; clear t; clear H locs; obtain ⟨H, hH⟩ : ∃ H, H = H1 := ⟨_, rfl⟩; obtain ⟨locs, hlo⟩ : ∃ L, L = locs1 := ⟨_, rfl⟩; subst hH; subst hlo
  refine W.widen (k := 0) (n := 0) (Nat.le_refl 0) (Nat.le_refl 0) ?_
  refine lv_if_eq (tgt := 23) hx hb dX12_dealtBy_11 (by decide) (fun c2 => ?_) (fun c2 => ?_)
  · replace hw := hw.1 c2; clear c2
    refine lv_iconst (v := -1) hx hb dX12_dealtBy_23 (by decide) ?_
    subst hQe
    exact W.iret (v := (-1 : Int32)) hx hb hr (fun t ht hW => ⟨⟨(-1 : Int32), ((0 : Int32), c_scales, c_dealt), rfl, hw, by rw [ht]; exact hP, va_K.moved hW.alike hK, hD⟩, hS.F ht⟩) hS.2.2 dX12_dealtBy_24
  · replace hw := hw.2 c2; clear c2
    refine lv_iload_n hx hb dX12_dealtBy_14 rfl (lv_at hl 3 rfl) ?_
    refine lv_iload hx hb dX12_dealtBy_15 (lv_at hl 4 rfl) ?_
    have hPc := pSub (ws' := (w_X12_isBand cy)) hP [] rfl
    have hDc := dSub (ws' := (w_X12_isBand cy)) hD [] (by decide) rfl
    have hFc := va_free (wc := (w_X12_isBand cy)) hD hS hA [] rfl
    refine va_calli (va_runS (As := [.int v3, .int v4]) (rest := []) ⟨hx, hb, hml, hown, hts⟩ (c_X12_isBand l dC dI cy  H.size v3 v4 _ hw) (va_cwS 2 hts (goodS mw_938 mw_936 mw_937 mw_5) rfl rfl rfl (by decide +kernel) ⟨Nat.le_of_ble_eq_true rfl, Nat.le_of_ble_eq_true rfl⟩) ⟨PX_blind, PX_pre hPc hK hDc hG⟩ rfl rfl hl.1 rfl (lv_room (Nat.le_of_ble_eq_true rfl)) dX12_dealtBy_17 ⟨Nat.zero_le _, Nat.zero_le _⟩) hS (fun q _ h => hFc q h) hFc ?_; clear hw hS; intro r3 _ t H1 locs1 ht hvm hw hB hz1 hk1 hS
    obtain ⟨hP1, -, -⟩ := hB
    rw [ht] at hP1
    replace hP := jC0 hP hD [] [0, 1, 2, 3] rfl hk1 hP1 (w_X12_dealtBy h0 h_row h_kept h_isKept h_aside h_eight h_rows h_scales h_dealt h_bytes h_heardRow h_made h_comes h_backs h_fresh cy (0 : Int32) c_nodeS c_nodeD c_pairE c_pairO c_bit c_lag c_lagSum c_row c_scales c_dealt) rfl rfl rfl 4 rfl (by decide +kernel); clear hD; obtain ⟨hP, hD⟩ := hP
    replace hP : va_P (dC, dI) vwCl (w_X12_dealtBy h0 h_row h_kept h_isKept h_aside h_eight h_rows h_scales h_dealt h_bytes h_heardRow h_made h_comes h_backs h_fresh cy (0 : Int32) c_nodeS c_nodeD c_pairE c_pairO c_bit c_lag c_lagSum c_row c_scales c_dealt) H1 := hP
    replace hD : va_D A (w_X12_dealtBy h0 h_row h_kept h_isKept h_aside h_eight h_rows h_scales h_dealt h_bytes h_heardRow h_made h_comes h_backs h_fresh cy (0 : Int32) c_nodeS c_nodeD c_pairE c_pairO c_bit c_lag c_lagSum c_row c_scales c_dealt) := hD
    clear hPc hDc hFc hP1 hk1 hz1 hvm ht; clear t; clear H locs; obtain ⟨H, hH⟩ : ∃ H, H = H1 := ⟨_, rfl⟩; obtain ⟨locs, hlo⟩ : ∃ L, L = locs1 := ⟨_, rfl⟩; subst hH; subst hlo
    refine W.widen (k := 0) (n := 0) (Nat.le_refl 0) (Nat.le_refl 0) ?_
    refine lv_if_ne (tgt := 25) hx hb dX12_dealtBy_20 (by decide) (fun c4 => ?_) (fun c4 => ?_)
    · replace hw := hw.2 c4; clear c4
      refine lv_aload_n hx hb dX12_dealtBy_25 rfl (lv_at hl 0 rfl) ?_
      have hPc := pSub (ws' := (w_X12_takeScales h0 h_row h_kept h_isKept h_aside h_eight h_rows h_scales h_dealt h_bytes h_heardRow h_made h_comes h_backs h_fresh cy (0 : Int32) c_nodeS c_nodeD c_pairE c_pairO c_bit c_lag c_lagSum c_row c_scales)) hP [0, 1, 2] rfl
      have hDc := dSub (ws' := (w_X12_takeScales h0 h_row h_kept h_isKept h_aside h_eight h_rows h_scales h_dealt h_bytes h_heardRow h_made h_comes h_backs h_fresh cy (0 : Int32) c_nodeS c_nodeD c_pairE c_pairO c_bit c_lag c_lagSum c_row c_scales)) hD [0, 1, 2] (by decide) rfl
      have hFc := va_free (wc := (w_X12_takeScales h0 h_row h_kept h_isKept h_aside h_eight h_rows h_scales h_dealt h_bytes h_heardRow h_made h_comes h_backs h_fresh cy (0 : Int32) c_nodeS c_nodeD c_pairE c_pairO c_bit c_lag c_lagSum c_row c_scales)) hD hS hA [0, 1, 2] rfl
      refine va_callv (va_runV (As := []) (rest := []) ⟨hx, hb, hml, hown, hts⟩ (c_X12_takeScales l dC dI cy h0 h_row h_kept h_isKept h_aside h_eight h_rows h_scales h_dealt h_bytes h_heardRow h_made h_comes h_backs h_fresh H.size (0 : Int32) c_nodeS c_nodeD c_pairE c_pairO c_bit c_lag c_lagSum c_row c_scales _ hw) (cwV 0 hts (goodV mw_954 mw_951 mw_952 mw_953 mw_5) rfl rfl rfl (by decide +kernel) ⟨Nat.le_of_ble_eq_true rfl, Nat.le_of_ble_eq_true rfl⟩) ⟨PX_blind, va_recv hK hPc (ci := 12) (q0 := 0) rfl rfl, PX_pre hPc hK hDc hG⟩ rfl rfl hl.1 rfl (lv_room (Nat.le_of_ble_eq_true rfl)) dX12_dealtBy_26 ⟨Nat.zero_le _, Nat.zero_le _⟩) hS (fun q _ h => hFc q h) hFc ?_; clear hw hS; intro f5 t H1 locs1 ht hvm hw hB hz1 hk1 hS
      obtain ⟨hP1, -, -⟩ := hB
      rw [ht] at hP1
      replace hP := jC0 hP hD [0, 1, 2] [3] rfl hk1 hP1 (w_X12_dealtBy h0 h_row h_kept h_isKept h_aside h_eight h_rows h_scales h_dealt h_bytes h_heardRow h_made h_comes h_backs h_fresh cy (0 : Int32) c_nodeS c_nodeD c_pairE c_pairO c_bit c_lag c_lagSum c_row f5 c_dealt) rfl rfl rfl 4 rfl (by decide +kernel); clear hD; obtain ⟨hP, hD⟩ := hP
      replace hP : va_P (dC, dI) vwCl (w_X12_dealtBy h0 h_row h_kept h_isKept h_aside h_eight h_rows h_scales h_dealt h_bytes h_heardRow h_made h_comes h_backs h_fresh cy (0 : Int32) c_nodeS c_nodeD c_pairE c_pairO c_bit c_lag c_lagSum c_row f5 c_dealt) H1 := hP
      replace hD : va_D A (w_X12_dealtBy h0 h_row h_kept h_isKept h_aside h_eight h_rows h_scales h_dealt h_bytes h_heardRow h_made h_comes h_backs h_fresh cy (0 : Int32) c_nodeS c_nodeD c_pairE c_pairO c_bit c_lag c_lagSum c_row f5 c_dealt) := hD
      clear hPc hDc hFc hP1 hk1 hz1 hvm ht; clear t; clear H locs; obtain ⟨H, hH⟩ : ∃ H, H = H1 := ⟨_, rfl⟩; obtain ⟨locs, hlo⟩ : ∃ L, L = locs1 := ⟨_, rfl⟩; subst hH; subst hlo
      refine W.widen (k := 0) (n := 0) (Nat.le_refl 0) (Nat.le_refl 0) ?_
      refine lv_aload_n hx hb dX12_dealtBy_29 rfl (lv_at hl 0 rfl) ?_
      refine lv_iload_n hx hb dX12_dealtBy_30 rfl (lv_at hl 1 rfl) ?_
      refine lv_iload_n hx hb dX12_dealtBy_31 rfl (lv_at hl 2 rfl) ?_
      have hPc := pSub (ws' := (w_X12_deal h0 h_row h_kept h_isKept h_aside h_eight h_rows h_scales h_dealt h_bytes h_heardRow h_made h_comes h_backs h_fresh cy (0 : Int32) c_nodeS c_nodeD c_pairE c_pairO c_bit c_lag c_lagSum c_dealt f5 c_row)) hP [0, 3, 2, 1] rfl
      have hDc := dSub (ws' := (w_X12_deal h0 h_row h_kept h_isKept h_aside h_eight h_rows h_scales h_dealt h_bytes h_heardRow h_made h_comes h_backs h_fresh cy (0 : Int32) c_nodeS c_nodeD c_pairE c_pairO c_bit c_lag c_lagSum c_dealt f5 c_row)) hD [0, 3, 2, 1] (by decide) rfl
      have hFc := va_free (wc := (w_X12_deal h0 h_row h_kept h_isKept h_aside h_eight h_rows h_scales h_dealt h_bytes h_heardRow h_made h_comes h_backs h_fresh cy (0 : Int32) c_nodeS c_nodeD c_pairE c_pairO c_bit c_lag c_lagSum c_dealt f5 c_row)) hD hS hA [0, 3, 2, 1] rfl
      refine va_callv (va_runV (As := [.int v1, .int v2]) (rest := []) ⟨hx, hb, hml, hown, hts⟩ (c_X12_deal l dC dI cy h0 h_row h_kept h_isKept h_aside h_eight h_rows h_scales h_dealt h_bytes h_heardRow h_made h_comes h_backs h_fresh H.size v1 v2 (0 : Int32) c_nodeS c_nodeD c_pairE c_pairO c_bit c_lag c_lagSum c_dealt f5 c_row _ hw) (cwV 2 hts (goodV mw_664 mw_661 mw_662 mw_663 mw_5) rfl rfl rfl (by decide +kernel) ⟨Nat.le_of_ble_eq_true rfl, Nat.le_of_ble_eq_true rfl⟩) ⟨PX_blind, va_recv hK hPc (ci := 12) (q0 := 0) rfl rfl, PX_pre hPc hK hDc hG⟩ rfl rfl hl.1 rfl (lv_room (Nat.le_of_ble_eq_true rfl)) dX12_dealtBy_32 ⟨Nat.zero_le _, Nat.zero_le _⟩) hS (fun q _ h => hFc q h) hFc ?_; clear hw hS; intro f6 t H1 locs1 ht hvm hw hB hz1 hk1 hS
      obtain ⟨hP1, -, -⟩ := hB
      rw [ht] at hP1
      replace hP := jC0 hP hD [0, 3, 2, 1] [] rfl hk1 hP1 (w_X12_dealtBy h0 h_row h_kept h_isKept h_aside h_eight h_rows h_scales h_dealt h_bytes h_heardRow h_made h_comes h_backs h_fresh cy (0 : Int32) c_nodeS c_nodeD c_pairE c_pairO c_bit c_lag c_lagSum c_row f5 f6) rfl rfl rfl 4 rfl (by decide +kernel); clear hD; obtain ⟨hP, hD⟩ := hP
      replace hP : va_P (dC, dI) vwCl (w_X12_dealtBy h0 h_row h_kept h_isKept h_aside h_eight h_rows h_scales h_dealt h_bytes h_heardRow h_made h_comes h_backs h_fresh cy (0 : Int32) c_nodeS c_nodeD c_pairE c_pairO c_bit c_lag c_lagSum c_row f5 f6) H1 := hP
      replace hD : va_D A (w_X12_dealtBy h0 h_row h_kept h_isKept h_aside h_eight h_rows h_scales h_dealt h_bytes h_heardRow h_made h_comes h_backs h_fresh cy (0 : Int32) c_nodeS c_nodeD c_pairE c_pairO c_bit c_lag c_lagSum c_row f5 f6) := hD
      clear hPc hDc hFc hP1 hk1 hz1 hvm ht; clear t; clear H locs; obtain ⟨H, hH⟩ : ∃ H, H = H1 := ⟨_, rfl⟩; obtain ⟨locs, hlo⟩ : ∃ L, L = locs1 := ⟨_, rfl⟩; subst hH; subst hlo
      refine W.widen (k := 0) (n := 0) (Nat.le_refl 0) (Nat.le_refl 0) ?_
      refine lv_aload_n hx hb dX12_dealtBy_35 rfl (lv_at hl 0 rfl) ?_
      refine va_get (D := (dC, dI)) (ci := 12) (v := .ref h_dealt) (C := RX12) (T := TX12) (N := 22) hx hb hts inX12 hown hK hP 0 rfl rfl 12 (by decide) (hts _ (List.mem_cons_of_mem _ mw_177)) (fun _ h9 => h9) rfl dX12_dealtBy_36 ?_
      refine lv_bipush (v := 8) hx hb dX12_dealtBy_39 (by decide) ?_
      refine lv_iload_n hx hb dX12_dealtBy_41 rfl (lv_at hl 3 rfl) ?_
      refine lv_imul hx hb dX12_dealtBy_42 ?_
      refine lv_iload hx hb dX12_dealtBy_43 (lv_at hl 4 rfl) ?_
      refine lv_iadd hx hb dX12_dealtBy_45 ?_
      obtain ⟨h7, hw⟩ := hw
      refine xiald (k := (((8 : Int32) * v3) + v4).toNatClampNeg) hx hb hK hP 3 0 rfl rfl h7 rfl dX12_dealtBy_46 ?_
      subst hQe
      exact W.iret (v := f6 (((8 : Int32) * v3) + v4).toNatClampNeg) hx hb hr (fun t ht hW => ⟨⟨(f6 (((8 : Int32) * v3) + v4).toNatClampNeg), ((0 : Int32), f5, f6), rfl, hw, by rw [ht]; exact hP, va_K.moved hW.alike hK, hD⟩, hS.F ht⟩) hS.2.2 dX12_dealtBy_47
    · replace hw := hw.1 c4; clear c4
      refine lv_iconst (v := -1) hx hb dX12_dealtBy_23 (by decide) ?_
      subst hQe
      exact W.iret (v := (-1 : Int32)) hx hb hr (fun t ht hW => ⟨⟨(-1 : Int32), ((0 : Int32), c_scales, c_dealt), rfl, hw, by rw [ht]; exact hP, va_K.moved hW.alike hK, hD⟩, hS.F ht⟩) hS.2.2 dX12_dealtBy_24
set_option maxHeartbeats 4000000 in
set_option maxRecDepth 100000 in
theorem c_X12_costOf (l : Launch) (dC : Nat → ClassId) (dI : Nat → Nat → Nat) (cy : Nat → ClassId) (h0 h_row h_kept h_isKept h_aside h_eight h_rows h_scales h_dealt h_bytes h_heardRow h_made h_comes h_backs h_fresh : Nat) (sz : Nat) (v1 : Int32) (v2 : Int32) (c_thrown : Int32) (c_nodeS : Int32) (c_nodeD : Int32) (c_pairE : Int32) (c_pairO : Int32) (c_bit : Int32) (c_lag : Int32) (c_lagSum : Int32) (c_row : Nat → Int32) (c_scales : Nat → Int32) (c_dealt : Nat → Int32) (post : Int32 → (Nat → Int32) → (Nat → Int32) → Prop) (hw : wp_X12_costOf v1 v2 c_row c_scales c_dealt post) : Met l yX12_costOf wsX12_costOf ({ frames := 2, cells := 0, slots := 0, locals := 52 }) (PX dC dI cy [.ref h0, .int v1, .int v2] sz (w_X12_costOf h0 h_row h_kept h_isKept h_aside h_eight h_rows h_scales h_dealt h_bytes h_heardRow h_made h_comes h_backs h_fresh cy c_thrown c_nodeS c_nodeD c_pairE c_pairO c_bit c_lag c_lagSum c_row c_scales c_dealt)) (va_Qi (fun (r : Int32) (u : (Nat → Int32) × (Nat → Int32)) => post r u.1 u.2) (QX dC dI cy (va_A (w_X12_costOf h0 h_row h_kept h_isKept h_aside h_eight h_rows h_scales h_dealt h_bytes h_heardRow h_made h_comes h_backs h_fresh cy c_thrown c_nodeS c_nodeD c_pairE c_pairO c_bit c_lag c_lagSum c_row c_scales c_dealt) sz) (fun (u : (Nat → Int32) × (Nat → Int32)) => w_X12_costOf h0 h_row h_kept h_isKept h_aside h_eight h_rows h_scales h_dealt h_bytes h_heardRow h_made h_comes h_backs h_fresh cy c_thrown c_nodeS c_nodeD c_pairE c_pairO c_bit c_lag c_lagSum c_row u.1 u.2)) (va_A (w_X12_costOf h0 h_row h_kept h_isKept h_aside h_eight h_rows h_scales h_dealt h_bytes h_heardRow h_made h_comes h_backs h_fresh cy c_thrown c_nodeS c_nodeD c_pairE c_pairO c_bit c_lag c_lagSum c_row c_scales c_dealt) sz)) 0 0 (va_A (w_X12_costOf h0 h_row h_kept h_isKept h_aside h_eight h_rows h_scales h_dealt h_bytes h_heardRow h_made h_comes h_backs h_fresh cy c_thrown c_nodeS c_nodeD c_pairE c_pairO c_bit c_lag c_lagSum c_row c_scales c_dealt) sz) := by
  refine Met.ofW (cc := cX12_costOf) (maxL := 8) (ret := (some .int)) (by decide) rfl ?_
  intro p e s m args below meth c s₁ B hml hv
  obtain ⟨rfl, hsz, hP, hK, hD0, hG⟩ := hv
  have hx := B.exec
  have hb := B.bytes
  have hr := B.returns
  have hts := atoms_spec (ws := wsX12_costOf) B.pre
  have hown : s.vm.findClass RX12 = some m.cls := findClass_of_methodNamed B.named
  have hlocks := B.notSynchronized
  subst hsz
  have hD := hD0.self (sz := s.heap.size)
  generalize hAe : va_A (w_X12_costOf h0 h_row h_kept h_isKept h_aside h_eight h_rows h_scales h_dealt h_bytes h_heardRow h_made h_comes h_backs h_fresh cy c_thrown c_nodeS c_nodeD c_pairE c_pairO c_bit c_lag c_lagSum c_row c_scales c_dealt) s.heap.size = A at hD ⊢
  have hA : ∀ q : Nat, s.heap.size ≤ q → A q := fun q h => by rw [← hAe]; exact Or.inr h
  have hS : va_S A s.heap s.heap [] := va_S.rf
  have hl := lv_entry ([.ref h0, .int v1, .int v2]) (n := 8) (Nat.le_of_ble_eq_true rfl)
  rw [lg_entry_eq]
  generalize (lg_sl ([.ref h0, .int v1, .int v2]) ++ List.replicate (8 - (lg_sl ([.ref h0, .int v1, .int v2])).length) Slot.unset).toArray = ls at hl ⊢
  replace hl : lv_has ls 8 [(0, .ref h0), (1, .int v1), (2, .int v2)] := hl
  have inX12 : ∀ w ∈ u_ws RX12 TX12 22, w ∈ wsX12_costOf := fun w h => List.mem_cons_of_mem _ (inlX12 w h)
  clear hAe hD0 B
  unfold wp_X12_costOf at hw
  generalize hQe : MQ below _ _ s _ _ _ = Q0
  generalize ([.ref h0, .int v1, .int v2] : List Value).toArray = av at *
  obtain ⟨H, hH⟩ : ∃ H, H = s.heap := ⟨_, rfl⟩
  obtain ⟨locs, hlo⟩ : ∃ L : List Loc, L = [] := ⟨_, rfl⟩
  replace hP : va_P (dC, dI) vwCl (w_X12_costOf h0 h_row h_kept h_isKept h_aside h_eight h_rows h_scales h_dealt h_bytes h_heardRow h_made h_comes h_backs h_fresh cy c_thrown c_nodeS c_nodeD c_pairE c_pairO c_bit c_lag c_lagSum c_row c_scales c_dealt) H := by rw [hH]; exact hP
  replace hS : va_S A s.heap H locs := by rw [hH, hlo]; exact hS
  suffices hgo : W p l e ({ frames := 2, cells := 0, slots := 0, locals := 52 }) s m av below meth c H locs 0 0 Q0 (F0 m 0 ls []) by rw [hH, hlo] at hgo; exact hgo
  clear hH hlo
  refine lv_aload_n hx hb dX12_costOf_0 rfl (lv_at hl 0 rfl) ?_
  have hPc := pSub (ws' := (w_X12_takeScales h0 h_row h_kept h_isKept h_aside h_eight h_rows h_scales h_dealt h_bytes h_heardRow h_made h_comes h_backs h_fresh cy c_thrown c_nodeS c_nodeD c_pairE c_pairO c_bit c_lag c_lagSum c_row c_scales)) hP [0, 1, 2] rfl
  have hDc := dSub (ws' := (w_X12_takeScales h0 h_row h_kept h_isKept h_aside h_eight h_rows h_scales h_dealt h_bytes h_heardRow h_made h_comes h_backs h_fresh cy c_thrown c_nodeS c_nodeD c_pairE c_pairO c_bit c_lag c_lagSum c_row c_scales)) hD [0, 1, 2] (by decide) rfl
  have hFc := va_free (wc := (w_X12_takeScales h0 h_row h_kept h_isKept h_aside h_eight h_rows h_scales h_dealt h_bytes h_heardRow h_made h_comes h_backs h_fresh cy c_thrown c_nodeS c_nodeD c_pairE c_pairO c_bit c_lag c_lagSum c_row c_scales)) hD hS hA [0, 1, 2] rfl
  refine va_callv (va_runV (As := []) (rest := []) ⟨hx, hb, hml, hown, hts⟩ (c_X12_takeScales l dC dI cy h0 h_row h_kept h_isKept h_aside h_eight h_rows h_scales h_dealt h_bytes h_heardRow h_made h_comes h_backs h_fresh H.size c_thrown c_nodeS c_nodeD c_pairE c_pairO c_bit c_lag c_lagSum c_row c_scales _ hw) (cwV 0 hts (goodV mw_954 mw_951 mw_952 mw_953 mw_5) rfl rfl rfl (by decide +kernel) ⟨Nat.le_of_ble_eq_true rfl, Nat.le_of_ble_eq_true rfl⟩) ⟨PX_blind, va_recv hK hPc (ci := 12) (q0 := 0) rfl rfl, PX_pre hPc hK hDc hG⟩ rfl rfl hl.1 rfl (lv_room (Nat.le_of_ble_eq_true rfl)) dX12_costOf_1 ⟨Nat.zero_le _, Nat.zero_le _⟩) hS (fun q _ h => hFc q h) hFc ?_; clear hw hS; intro f1 t H1 locs1 ht hvm hw hB hz1 hk1 hS
  obtain ⟨hP1, -, -⟩ := hB
  rw [ht] at hP1
  replace hP := jC0 hP hD [0, 1, 2] [3] rfl hk1 hP1 (w_X12_costOf h0 h_row h_kept h_isKept h_aside h_eight h_rows h_scales h_dealt h_bytes h_heardRow h_made h_comes h_backs h_fresh cy c_thrown c_nodeS c_nodeD c_pairE c_pairO c_bit c_lag c_lagSum c_row f1 c_dealt) rfl rfl rfl 4 rfl (by decide +kernel); clear hD; obtain ⟨hP, hD⟩ := hP
  replace hP : va_P (dC, dI) vwCl (w_X12_costOf h0 h_row h_kept h_isKept h_aside h_eight h_rows h_scales h_dealt h_bytes h_heardRow h_made h_comes h_backs h_fresh cy c_thrown c_nodeS c_nodeD c_pairE c_pairO c_bit c_lag c_lagSum c_row f1 c_dealt) H1 := hP
  replace hD : va_D A (w_X12_costOf h0 h_row h_kept h_isKept h_aside h_eight h_rows h_scales h_dealt h_bytes h_heardRow h_made h_comes h_backs h_fresh cy c_thrown c_nodeS c_nodeD c_pairE c_pairO c_bit c_lag c_lagSum c_row f1 c_dealt) := hD
  clear hPc hDc hFc hP1 hk1 hz1 hvm ht; clear t; clear H locs; obtain ⟨H, hH⟩ : ∃ H, H = H1 := ⟨_, rfl⟩; obtain ⟨locs, hlo⟩ : ∃ L, L = locs1 := ⟨_, rfl⟩; subst hH; subst hlo
  refine W.widen (k := 0) (n := 0) (Nat.le_refl 0) (Nat.le_refl 0) ?_
  refine lv_aload_n hx hb dX12_costOf_4 rfl (lv_at hl 0 rfl) ?_
  refine lv_iload_n hx hb dX12_costOf_5 rfl (lv_at hl 1 rfl) ?_
  refine lv_iload_n hx hb dX12_costOf_6 rfl (lv_at hl 2 rfl) ?_
  have hPc := pSub (ws' := (w_X12_deal h0 h_row h_kept h_isKept h_aside h_eight h_rows h_scales h_dealt h_bytes h_heardRow h_made h_comes h_backs h_fresh cy c_thrown c_nodeS c_nodeD c_pairE c_pairO c_bit c_lag c_lagSum c_dealt f1 c_row)) hP [0, 3, 2, 1] rfl
  have hDc := dSub (ws' := (w_X12_deal h0 h_row h_kept h_isKept h_aside h_eight h_rows h_scales h_dealt h_bytes h_heardRow h_made h_comes h_backs h_fresh cy c_thrown c_nodeS c_nodeD c_pairE c_pairO c_bit c_lag c_lagSum c_dealt f1 c_row)) hD [0, 3, 2, 1] (by decide) rfl
  have hFc := va_free (wc := (w_X12_deal h0 h_row h_kept h_isKept h_aside h_eight h_rows h_scales h_dealt h_bytes h_heardRow h_made h_comes h_backs h_fresh cy c_thrown c_nodeS c_nodeD c_pairE c_pairO c_bit c_lag c_lagSum c_dealt f1 c_row)) hD hS hA [0, 3, 2, 1] rfl
  refine va_callv (va_runV (As := [.int v1, .int v2]) (rest := []) ⟨hx, hb, hml, hown, hts⟩ (c_X12_deal l dC dI cy h0 h_row h_kept h_isKept h_aside h_eight h_rows h_scales h_dealt h_bytes h_heardRow h_made h_comes h_backs h_fresh H.size v1 v2 c_thrown c_nodeS c_nodeD c_pairE c_pairO c_bit c_lag c_lagSum c_dealt f1 c_row _ hw) (cwV 2 hts (goodV mw_664 mw_661 mw_662 mw_663 mw_5) rfl rfl rfl (by decide +kernel) ⟨Nat.le_of_ble_eq_true rfl, Nat.le_of_ble_eq_true rfl⟩) ⟨PX_blind, va_recv hK hPc (ci := 12) (q0 := 0) rfl rfl, PX_pre hPc hK hDc hG⟩ rfl rfl hl.1 rfl (lv_room (Nat.le_of_ble_eq_true rfl)) dX12_costOf_7 ⟨Nat.zero_le _, Nat.zero_le _⟩) hS (fun q _ h => hFc q h) hFc ?_; clear hw hS; intro f2 t H1 locs1 ht hvm hw hB hz1 hk1 hS
  obtain ⟨hP1, -, -⟩ := hB
  rw [ht] at hP1
  replace hP := jC0 hP hD [0, 3, 2, 1] [] rfl hk1 hP1 (w_X12_costOf h0 h_row h_kept h_isKept h_aside h_eight h_rows h_scales h_dealt h_bytes h_heardRow h_made h_comes h_backs h_fresh cy c_thrown c_nodeS c_nodeD c_pairE c_pairO c_bit c_lag c_lagSum c_row f1 f2) rfl rfl rfl 4 rfl (by decide +kernel); clear hD; obtain ⟨hP, hD⟩ := hP
  replace hP : va_P (dC, dI) vwCl (w_X12_costOf h0 h_row h_kept h_isKept h_aside h_eight h_rows h_scales h_dealt h_bytes h_heardRow h_made h_comes h_backs h_fresh cy c_thrown c_nodeS c_nodeD c_pairE c_pairO c_bit c_lag c_lagSum c_row f1 f2) H1 := hP
  replace hD : va_D A (w_X12_costOf h0 h_row h_kept h_isKept h_aside h_eight h_rows h_scales h_dealt h_bytes h_heardRow h_made h_comes h_backs h_fresh cy c_thrown c_nodeS c_nodeD c_pairE c_pairO c_bit c_lag c_lagSum c_row f1 f2) := hD
  clear hPc hDc hFc hP1 hk1 hz1 hvm ht; clear t; clear H locs; obtain ⟨H, hH⟩ : ∃ H, H = H1 := ⟨_, rfl⟩; obtain ⟨locs, hlo⟩ : ∃ L, L = locs1 := ⟨_, rfl⟩; subst hH; subst hlo
  refine W.widen (k := 0) (n := 0) (Nat.le_refl 0) (Nat.le_refl 0) ?_
  refine lv_iconst (v := 0) hx hb dX12_costOf_10 (by decide) ?_
  refine lv_istore_n (lv' := [(3, .int (0 : Int32)), (0, .ref h0), (1, .int v1), (2, .int v2)]) hx hb dX12_costOf_11 rfl hl (by decide) rfl ?_; clear hl; clear ls; intro ls hl
  refine lv_iconst (v := 0) hx hb dX12_costOf_12 (by decide) ?_
  refine lv_istore (lv' := [(4, .int (0 : Int32)), (3, .int (0 : Int32)), (0, .ref h0), (1, .int v1), (2, .int v2)]) hx hb dX12_costOf_13 hl (by decide) rfl ?_; clear hl; clear ls; intro ls hl
  obtain ⟨x3, e_x3⟩ : ∃ y : Int32, y = (0 : Int32) := ⟨_, rfl⟩
  replace hw := hw x3 e_x3
  replace hl : lv_has ls 8 [(4, .int x3), (3, .int (0 : Int32)), (0, .ref h0), (1, .int v1), (2, .int v2)] := by rw [e_x3]; exact hl
  clear e_x3
  obtain ⟨x4, e_x4⟩ : ∃ y : Int32, y = (0 : Int32) := ⟨_, rfl⟩
  replace hw := hw x4 e_x4
  replace hl : lv_has ls 8 [(4, .int x3), (3, .int x4), (0, .ref h0), (1, .int v1), (2, .int v2)] := by rw [e_x4]; exact hl
  clear e_x4
  replace hl := lv_sub (l' := [(4, .int x3), (3, .int x4), (0, .ref h0)]) hl [0, 1, 2] rfl
  revert hl; revert hS; revert hD; revert hP; revert ls; revert locs; revert H
  revert hw; revert x4; revert x3
  refine Lz2_gr ?_; intro g5 ih6 x7 x8 hw
  intro H locs ls hP hD hS hl
  refine lv_iload hx hb dX12_costOf_15 (lv_at hl 0 rfl) ?_
  refine lv_bipush (v := 16) hx hb dX12_costOf_17 (by decide) ?_
  refine lv_icmp_ge (tgt := 114) hx hb dX12_costOf_19 (by decide) (fun c9 => ?_) (fun c9 => ?_)
  · replace hw := hw.1 c9; clear c9
    clear ih6
    refine lv_iload_n hx hb dX12_costOf_114 rfl (lv_at hl 1 rfl) ?_
    subst hQe
    exact W.iret (v := x8) hx hb hr (fun t ht hW => ⟨⟨x8, (f1, f2), rfl, hw, by rw [ht]; exact hP, va_K.moved hW.alike hK, hD⟩, hS.F ht⟩) hS.2.2 dX12_costOf_115
  · replace hw := hw.2 c9; clear c9
    refine lv_iconst (v := 0) hx hb dX12_costOf_22 (by decide) ?_
    refine lv_istore (lv' := [(5, .int (0 : Int32)), (4, .int x7), (3, .int x8), (0, .ref h0)]) hx hb dX12_costOf_23 hl (by decide) rfl ?_; clear hl; clear ls; intro ls hl
    obtain ⟨x10, e_x10⟩ : ∃ y : Int32, y = (0 : Int32) := ⟨_, rfl⟩
    replace hw := hw x10 e_x10
    replace hl : lv_has ls 8 [(5, .int x10), (4, .int x7), (3, .int x8), (0, .ref h0)] := by rw [e_x10]; exact hl
    clear e_x10
    replace hl := lv_sub (l' := [(5, .int x10), (4, .int x7), (3, .int x8), (0, .ref h0)]) hl [0, 1, 2, 3] rfl
    revert hl; revert hS; revert hD; revert hP; revert ls; revert locs; revert H
    revert hw; revert x8; revert x10
    refine Lz2_gr ?_; intro g11 ih12 x13 x14 hw
    intro H locs ls hP hD hS hl
    refine lv_iload hx hb dX12_costOf_25 (lv_at hl 0 rfl) ?_
    refine lv_iconst (v := 4) hx hb dX12_costOf_27 (by decide) ?_
    refine lv_icmp_ge (tgt := 108) hx hb dX12_costOf_28 (by decide) (fun c15 => ?_) (fun c15 => ?_)
    · replace hw := hw.1 c15; clear c15
      clear ih12
      refine lv_iinc (v := x7 + 1) (lv' := [(4, .int (x7 + 1)), (5, .int x13), (3, .int x14), (0, .ref h0)]) hx hb dX12_costOf_108 hl (k := 1) rfl rfl (by decide) rfl ?_; clear hl; clear ls; intro ls hl
      refine lv_goto (tgt := 15) hx hb dX12_costOf_111 (by decide) ?_
      exact ih6 (x7 + 1) x14 hw H locs ls hP hD hS (lv_sub hl [0, 2, 3] rfl)
    · replace hw := hw.2 c15; clear c15
      refine lv_aload_n hx hb dX12_costOf_31 rfl (lv_at hl 3 rfl) ?_
      refine va_get (D := (dC, dI)) (ci := 12) (v := .ref h_row) (C := RX12) (T := TX12) (N := 22) hx hb hts inX12 hown hK hP 0 rfl rfl 1 (by decide) (hts _ (List.mem_cons_of_mem _ mw_169)) (fun _ h9 => h9) rfl dX12_costOf_32 ?_
      refine lv_sipush (v := 557) hx hb dX12_costOf_35 (by decide) ?_
      refine lv_iconst (v := 4) hx hb dX12_costOf_38 (by decide) ?_
      refine lv_iload hx hb dX12_costOf_39 (lv_at hl 1 rfl) ?_
      refine lv_imul hx hb dX12_costOf_41 ?_
      refine lv_iadd hx hb dX12_costOf_42 ?_
      refine lv_iload hx hb dX12_costOf_43 (lv_at hl 0 rfl) ?_
      refine lv_iadd hx hb dX12_costOf_45 ?_
      obtain ⟨h16, hw⟩ := hw
      refine xiald (k := (((557 : Int32) + ((4 : Int32) * x7)) + x13).toNatClampNeg) hx hb hK hP 1 0 rfl rfl h16 rfl dX12_costOf_46 ?_
      refine lv_topi (fun x17 e_x17 => ?_)
      replace hw := hw x17 e_x17
      clear e_x17
      refine lv_istore (lv' := [(6, .int x17), (5, .int x13), (4, .int x7), (3, .int x14), (0, .ref h0)]) hx hb dX12_costOf_47 hl (by decide) rfl ?_; clear hl; clear ls; intro ls hl
      refine lv_aload_n hx hb dX12_costOf_49 rfl (lv_at hl 4 rfl) ?_
      refine va_get (D := (dC, dI)) (ci := 12) (v := .ref h_dealt) (C := RX12) (T := TX12) (N := 22) hx hb hts inX12 hown hK hP 0 rfl rfl 12 (by decide) (hts _ (List.mem_cons_of_mem _ mw_177)) (fun _ h9 => h9) rfl dX12_costOf_50 ?_
      refine lv_iload hx hb dX12_costOf_53 (lv_at hl 2 rfl) ?_
      obtain ⟨h18, hw⟩ := hw
      refine xiald (k := x7.toNatClampNeg) hx hb hK hP 3 0 rfl rfl h18 rfl dX12_costOf_55 ?_
      refine lv_topi (fun x19 e_x19 => ?_)
      replace hw := hw x19 e_x19
      clear e_x19
      refine lv_istore (lv' := [(7, .int x19), (6, .int x17), (5, .int x13), (4, .int x7), (3, .int x14), (0, .ref h0)]) hx hb dX12_costOf_56 hl (by decide) rfl ?_; clear hl; clear ls; intro ls hl
      refine lv_iload_n hx hb dX12_costOf_58 rfl (lv_at hl 4 rfl) ?_
      refine lv_iload hx hb dX12_costOf_59 (lv_at hl 1 rfl) ?_
      refine lv_iload hx hb dX12_costOf_61 (lv_at hl 0 rfl) ?_
      refine jn1 (Gg := fun (x20 : Int32) => ∀ (H : Heap) (locs : List Loc) (ls : Array Slot), va_P (dC, dI) vwCl (w_X12_costOf h0 h_row h_kept h_isKept h_aside h_eight h_rows h_scales h_dealt h_bytes h_heardRow h_made h_comes h_backs h_fresh cy c_thrown c_nodeS c_nodeD c_pairE c_pairO c_bit c_lag c_lagSum c_row f1 f2) H → va_D A (w_X12_costOf h0 h_row h_kept h_isKept h_aside h_eight h_rows h_scales h_dealt h_bytes h_heardRow h_made h_comes h_backs h_fresh cy c_thrown c_nodeS c_nodeD c_pairE c_pairO c_bit c_lag c_lagSum c_row f1 f2) → va_S A s.heap H locs → lv_has ls 8 [(0, .ref h0), (4, .int x7), (5, .int x13)] → W p l e { frames := 2, cells := 0, slots := 0, locals := 52 } s m av below meth c H locs 0 0 Q0 (F0 m 96 ls [.int x20, .int x17, .int x14])) hw ?_ ?_ <;> clear hw
      · clear hP hD hS hl; clear H locs ls; intro x20 hw H locs ls hP hD hS hl
        refine lv_isub hx hb dX12_costOf_96 ?_
        have hPc := pSub (ws' := (w_X12_size cy)) hP [] rfl
        have hDc := dSub (ws' := (w_X12_size cy)) hD [] (by decide) rfl
        have hFc := va_free (wc := (w_X12_size cy)) hD hS hA [] rfl
        refine va_calli (va_runS (As := [.int (x17 - x20)]) (rest := [.int x14]) ⟨hx, hb, hml, hown, hts⟩ (c_X12_size l dC dI cy  H.size (x17 - x20) _ hw) (va_cwS 1 hts (goodS mw_647 mw_645 mw_646 mw_5) rfl rfl rfl (by decide +kernel) ⟨Nat.le_of_ble_eq_true rfl, Nat.le_of_ble_eq_true rfl⟩) ⟨PX_blind, PX_pre hPc hK hDc hG⟩ rfl rfl hl.1 rfl (lv_room (Nat.le_of_ble_eq_true rfl)) dX12_costOf_97 ⟨Nat.zero_le _, Nat.zero_le _⟩) hS (fun q _ h => hFc q h) hFc ?_; clear hw hS; intro r23 _ t H1 locs1 ht hvm hw hB hz1 hk1 hS
        obtain ⟨hP1, -, -⟩ := hB
        rw [ht] at hP1
        replace hP := jC0 hP hD [] [0, 1, 2, 3] rfl hk1 hP1 (w_X12_costOf h0 h_row h_kept h_isKept h_aside h_eight h_rows h_scales h_dealt h_bytes h_heardRow h_made h_comes h_backs h_fresh cy c_thrown c_nodeS c_nodeD c_pairE c_pairO c_bit c_lag c_lagSum c_row f1 f2) rfl rfl rfl 4 rfl (by decide +kernel); clear hD; obtain ⟨hP, hD⟩ := hP
        replace hP : va_P (dC, dI) vwCl (w_X12_costOf h0 h_row h_kept h_isKept h_aside h_eight h_rows h_scales h_dealt h_bytes h_heardRow h_made h_comes h_backs h_fresh cy c_thrown c_nodeS c_nodeD c_pairE c_pairO c_bit c_lag c_lagSum c_row f1 f2) H1 := hP
        replace hD : va_D A (w_X12_costOf h0 h_row h_kept h_isKept h_aside h_eight h_rows h_scales h_dealt h_bytes h_heardRow h_made h_comes h_backs h_fresh cy c_thrown c_nodeS c_nodeD c_pairE c_pairO c_bit c_lag c_lagSum c_row f1 f2) := hD
        clear hPc hDc hFc hP1 hk1 hz1 hvm ht; clear t; clear H locs; obtain ⟨H, hH⟩ : ∃ H, H = H1 := ⟨_, rfl⟩; obtain ⟨locs, hlo⟩ : ∃ L, L = locs1 := ⟨_, rfl⟩; subst hH; subst hlo
        refine W.widen (k := 0) (n := 0) (Nat.le_refl 0) (Nat.le_refl 0) ?_
        refine lv_iadd hx hb dX12_costOf_100 ?_
        refine lv_topi (fun x24 e_x24 => ?_)
        replace hw := hw x24 e_x24
        clear e_x24
        refine lv_istore_n (lv' := [(3, .int x24), (0, .ref h0), (4, .int x7), (5, .int x13)]) hx hb dX12_costOf_101 rfl hl (by decide) rfl ?_; clear hl; clear ls; intro ls hl
        refine lv_iinc (v := x13 + 1) (lv' := [(5, .int (x13 + 1)), (3, .int x24), (0, .ref h0), (4, .int x7)]) hx hb dX12_costOf_102 hl (k := 3) rfl rfl (by decide) rfl ?_; clear hl; clear ls; intro ls hl
        refine lv_goto (tgt := 25) hx hb dX12_costOf_105 (by decide) ?_
        exact ih12 (x13 + 1) x24 hw H locs ls hP hD hS (lv_sub hl [0, 3, 1, 2] rfl)
      · intro j22 hw
        refine lv_if_ne (tgt := 70) hx hb dX12_costOf_63 (by decide) (fun c25 => ?_) (fun c25 => ?_)
        · replace hw := hw.2 c25; clear c25
          refine lv_iload hx hb dX12_costOf_70 (lv_at hl 1 rfl) ?_
          refine lv_aload_n hx hb dX12_costOf_72 rfl (lv_at hl 5 rfl) ?_
          refine va_get (D := (dC, dI)) (ci := 12) (v := .ref h_scales) (C := RX12) (T := TX12) (N := 22) hx hb hts inX12 hown hK hP 0 rfl rfl 11 (by decide) (hts _ (List.mem_cons_of_mem _ mw_176)) (fun _ h9 => h9) rfl dX12_costOf_73 ?_
          refine lv_iload hx hb dX12_costOf_76 (lv_at hl 3 rfl) ?_
          obtain ⟨h26, hw⟩ := hw
          refine xiald (k := x7.toNatClampNeg) hx hb hK hP 2 0 rfl rfl h26 rfl dX12_costOf_78 ?_
          refine lv_iload hx hb dX12_costOf_79 (lv_at hl 0 rfl) ?_
          have hPc := pSub (ws' := (w_X12_quant cy)) hP [] rfl
          have hDc := dSub (ws' := (w_X12_quant cy)) hD [] (by decide) rfl
          have hFc := va_free (wc := (w_X12_quant cy)) hD hS hA [] rfl
          refine va_calli (va_runS (As := [.int x17, .int (f1 x7.toNatClampNeg), .int x19]) (rest := [.int x17, .int x14]) ⟨hx, hb, hml, hown, hts⟩ (c_X12_quant l dC dI cy  H.size x17 (f1 x7.toNatClampNeg) x19 _ hw) (va_cwS 3 hts (goodS mw_671 mw_669 mw_670 mw_5) rfl rfl rfl (by decide +kernel) ⟨Nat.le_of_ble_eq_true rfl, Nat.le_of_ble_eq_true rfl⟩) ⟨PX_blind, PX_pre hPc hK hDc hG⟩ rfl rfl hl.1 rfl (lv_room (Nat.le_of_ble_eq_true rfl)) dX12_costOf_81 ⟨Nat.zero_le _, Nat.zero_le _⟩) hS (fun q _ h => hFc q h) hFc ?_; clear hw hS; intro r27 _ t H1 locs1 ht hvm hw hB hz1 hk1 hS
          obtain ⟨hP1, -, -⟩ := hB
          rw [ht] at hP1
          replace hP := jC0 hP hD [] [0, 1, 2, 3] rfl hk1 hP1 (w_X12_costOf h0 h_row h_kept h_isKept h_aside h_eight h_rows h_scales h_dealt h_bytes h_heardRow h_made h_comes h_backs h_fresh cy c_thrown c_nodeS c_nodeD c_pairE c_pairO c_bit c_lag c_lagSum c_row f1 f2) rfl rfl rfl 4 rfl (by decide +kernel); clear hD; obtain ⟨hP, hD⟩ := hP
          replace hP : va_P (dC, dI) vwCl (w_X12_costOf h0 h_row h_kept h_isKept h_aside h_eight h_rows h_scales h_dealt h_bytes h_heardRow h_made h_comes h_backs h_fresh cy c_thrown c_nodeS c_nodeD c_pairE c_pairO c_bit c_lag c_lagSum c_row f1 f2) H1 := hP
          replace hD : va_D A (w_X12_costOf h0 h_row h_kept h_isKept h_aside h_eight h_rows h_scales h_dealt h_bytes h_heardRow h_made h_comes h_backs h_fresh cy c_thrown c_nodeS c_nodeD c_pairE c_pairO c_bit c_lag c_lagSum c_row f1 f2) := hD
          clear hPc hDc hFc hP1 hk1 hz1 hvm ht; clear t; clear H locs; obtain ⟨H, hH⟩ : ∃ H, H = H1 := ⟨_, rfl⟩; obtain ⟨locs, hlo⟩ : ∃ L, L = locs1 := ⟨_, rfl⟩; subst hH; subst hlo
          refine W.widen (k := 0) (n := 0) (Nat.le_refl 0) (Nat.le_refl 0) ?_
          refine lv_aload_n hx hb dX12_costOf_84 rfl (lv_at hl 5 rfl) ?_
          refine va_get (D := (dC, dI)) (ci := 12) (v := .ref h_scales) (C := RX12) (T := TX12) (N := 22) hx hb hts inX12 hown hK hP 0 rfl rfl 11 (by decide) (hts _ (List.mem_cons_of_mem _ mw_176)) (fun _ h9 => h9) rfl dX12_costOf_85 ?_
          refine lv_iload hx hb dX12_costOf_88 (lv_at hl 3 rfl) ?_
          obtain ⟨h28, hw⟩ := hw
          refine xiald (k := x7.toNatClampNeg) hx hb hK hP 2 0 rfl rfl h28 rfl dX12_costOf_90 ?_
          refine lv_iload hx hb dX12_costOf_91 (lv_at hl 0 rfl) ?_
          have hPc := pSub (ws' := (w_X12_unquant cy)) hP [] rfl
          have hDc := dSub (ws' := (w_X12_unquant cy)) hD [] (by decide) rfl
          have hFc := va_free (wc := (w_X12_unquant cy)) hD hS hA [] rfl
          refine va_calli (va_runS (As := [.int r27, .int (f1 x7.toNatClampNeg), .int x19]) (rest := [.int x17, .int x14]) ⟨hx, hb, hml, hown, hts⟩ (c_X12_unquant l dC dI cy  H.size r27 (f1 x7.toNatClampNeg) x19 _ hw) (va_cwS 3 hts (goodS mw_765 mw_763 mw_764 mw_5) rfl rfl rfl (by decide +kernel) ⟨Nat.le_of_ble_eq_true rfl, Nat.le_of_ble_eq_true rfl⟩) ⟨PX_blind, PX_pre hPc hK hDc hG⟩ rfl rfl hl.1 rfl (lv_room (Nat.le_of_ble_eq_true rfl)) dX12_costOf_93 ⟨Nat.zero_le _, Nat.zero_le _⟩) hS (fun q _ h => hFc q h) hFc ?_; clear hw hS; intro r29 _ t H1 locs1 ht hvm hw hB hz1 hk1 hS
          obtain ⟨hP1, -, -⟩ := hB
          rw [ht] at hP1
          replace hP := jC0 hP hD [] [0, 1, 2, 3] rfl hk1 hP1 (w_X12_costOf h0 h_row h_kept h_isKept h_aside h_eight h_rows h_scales h_dealt h_bytes h_heardRow h_made h_comes h_backs h_fresh cy c_thrown c_nodeS c_nodeD c_pairE c_pairO c_bit c_lag c_lagSum c_row f1 f2) rfl rfl rfl 4 rfl (by decide +kernel); clear hD; obtain ⟨hP, hD⟩ := hP
          replace hP : va_P (dC, dI) vwCl (w_X12_costOf h0 h_row h_kept h_isKept h_aside h_eight h_rows h_scales h_dealt h_bytes h_heardRow h_made h_comes h_backs h_fresh cy c_thrown c_nodeS c_nodeD c_pairE c_pairO c_bit c_lag c_lagSum c_row f1 f2) H1 := hP
          replace hD : va_D A (w_X12_costOf h0 h_row h_kept h_isKept h_aside h_eight h_rows h_scales h_dealt h_bytes h_heardRow h_made h_comes h_backs h_fresh cy c_thrown c_nodeS c_nodeD c_pairE c_pairO c_bit c_lag c_lagSum c_row f1 f2) := hD
          clear hPc hDc hFc hP1 hk1 hz1 hvm ht; clear t; clear H locs; obtain ⟨H, hH⟩ : ∃ H, H = H1 := ⟨_, rfl⟩; obtain ⟨locs, hlo⟩ : ∃ L, L = locs1 := ⟨_, rfl⟩; subst hH; subst hlo
          refine W.widen (k := 0) (n := 0) (Nat.le_refl 0) (Nat.le_refl 0) ?_
          exact j22 r29 hw H locs ls hP hD hS (lv_sub hl [5, 3, 2] rfl)
        · replace hw := hw.1 c25; clear c25
          refine lv_iconst (v := 0) hx hb dX12_costOf_66 (by decide) ?_
          refine lv_goto (tgt := 96) hx hb dX12_costOf_67 (by decide) ?_
          exact j22 (0 : Int32) hw H locs ls hP hD hS (lv_sub hl [5, 3, 2] rfl)
set_option maxHeartbeats 4000000 in
set_option maxRecDepth 100000 in
theorem c_X12_cost (l : Launch) (dC : Nat → ClassId) (dI : Nat → Nat → Nat) (cy : Nat → ClassId) (h0 h_row h_kept h_isKept h_aside h_eight h_rows h_scales h_dealt h_bytes h_heardRow h_made h_comes h_backs h_fresh : Nat) (sz : Nat) (v1 : Int32) (v2 : Int32) (c_thrown : Int32) (c_nodeS : Int32) (c_nodeD : Int32) (c_pairE : Int32) (c_pairO : Int32) (c_bit : Int32) (c_lag : Int32) (c_lagSum : Int32) (c_row : Nat → Int32) (c_scales : Nat → Int32) (c_dealt : Nat → Int32) (post : Int32 → Int32 → (Nat → Int32) → (Nat → Int32) → Prop) (hw : wp_X12_cost v1 v2 c_thrown c_row c_scales c_dealt post) : Met l yX12_cost wsX12_cost ({ frames := 3, cells := 0, slots := 0, locals := 79 }) (PX dC dI cy [.ref h0, .int v1, .int v2] sz (w_X12_cost h0 h_row h_kept h_isKept h_aside h_eight h_rows h_scales h_dealt h_bytes h_heardRow h_made h_comes h_backs h_fresh cy c_thrown c_nodeS c_nodeD c_pairE c_pairO c_bit c_lag c_lagSum c_row c_scales c_dealt)) (va_Qi (fun (r : Int32) (u : Int32 × (Nat → Int32) × (Nat → Int32)) => post r u.1 u.2.1 u.2.2) (QX dC dI cy (va_A (w_X12_cost h0 h_row h_kept h_isKept h_aside h_eight h_rows h_scales h_dealt h_bytes h_heardRow h_made h_comes h_backs h_fresh cy c_thrown c_nodeS c_nodeD c_pairE c_pairO c_bit c_lag c_lagSum c_row c_scales c_dealt) sz) (fun (u : Int32 × (Nat → Int32) × (Nat → Int32)) => w_X12_cost h0 h_row h_kept h_isKept h_aside h_eight h_rows h_scales h_dealt h_bytes h_heardRow h_made h_comes h_backs h_fresh cy u.1 c_nodeS c_nodeD c_pairE c_pairO c_bit c_lag c_lagSum c_row u.2.1 u.2.2)) (va_A (w_X12_cost h0 h_row h_kept h_isKept h_aside h_eight h_rows h_scales h_dealt h_bytes h_heardRow h_made h_comes h_backs h_fresh cy c_thrown c_nodeS c_nodeD c_pairE c_pairO c_bit c_lag c_lagSum c_row c_scales c_dealt) sz)) 0 0 (va_A (w_X12_cost h0 h_row h_kept h_isKept h_aside h_eight h_rows h_scales h_dealt h_bytes h_heardRow h_made h_comes h_backs h_fresh cy c_thrown c_nodeS c_nodeD c_pairE c_pairO c_bit c_lag c_lagSum c_row c_scales c_dealt) sz) := by
  refine Met.ofW (cc := cX12_cost) (maxL := 3) (ret := (some .int)) (by decide) rfl ?_
  intro p e s m args below meth c s₁ B hml hv
  obtain ⟨rfl, hsz, hP, hK, hD0, hG⟩ := hv
  have hx := B.exec
  have hb := B.bytes
  have hr := B.returns
  have hts := atoms_spec (ws := wsX12_cost) B.pre
  have hown : s.vm.findClass RX12 = some m.cls := findClass_of_methodNamed B.named
  have hlocks := B.notSynchronized
  subst hsz
  have hD := hD0.self (sz := s.heap.size)
  generalize hAe : va_A (w_X12_cost h0 h_row h_kept h_isKept h_aside h_eight h_rows h_scales h_dealt h_bytes h_heardRow h_made h_comes h_backs h_fresh cy c_thrown c_nodeS c_nodeD c_pairE c_pairO c_bit c_lag c_lagSum c_row c_scales c_dealt) s.heap.size = A at hD ⊢
  have hA : ∀ q : Nat, s.heap.size ≤ q → A q := fun q h => by rw [← hAe]; exact Or.inr h
  have hS : va_S A s.heap s.heap [] := va_S.rf
  have hl := lv_entry ([.ref h0, .int v1, .int v2]) (n := 3) (Nat.le_of_ble_eq_true rfl)
  rw [lg_entry_eq]
  generalize (lg_sl ([.ref h0, .int v1, .int v2]) ++ List.replicate (3 - (lg_sl ([.ref h0, .int v1, .int v2])).length) Slot.unset).toArray = ls at hl ⊢
  replace hl : lv_has ls 3 [(0, .ref h0), (1, .int v1), (2, .int v2)] := hl
  have inX12 : ∀ w ∈ u_ws RX12 TX12 22, w ∈ wsX12_cost := fun w h => List.mem_cons_of_mem _ (inlX12 w h)
  clear hAe hD0 B
  unfold wp_X12_cost at hw
  generalize hQe : MQ below _ _ s _ _ _ = Q0
  generalize ([.ref h0, .int v1, .int v2] : List Value).toArray = av at *
  obtain ⟨H, hH⟩ : ∃ H, H = s.heap := ⟨_, rfl⟩
  obtain ⟨locs, hlo⟩ : ∃ L : List Loc, L = [] := ⟨_, rfl⟩
  replace hP : va_P (dC, dI) vwCl (w_X12_cost h0 h_row h_kept h_isKept h_aside h_eight h_rows h_scales h_dealt h_bytes h_heardRow h_made h_comes h_backs h_fresh cy c_thrown c_nodeS c_nodeD c_pairE c_pairO c_bit c_lag c_lagSum c_row c_scales c_dealt) H := by rw [hH]; exact hP
  replace hS : va_S A s.heap H locs := by rw [hH, hlo]; exact hS
  suffices hgo : W p l e ({ frames := 3, cells := 0, slots := 0, locals := 79 }) s m av below meth c H locs 0 0 Q0 (F0 m 0 ls []) by rw [hH, hlo] at hgo; exact hgo
  clear hH hlo
  refine lv_aload_n hx hb dX12_cost_0 rfl (lv_at hl 0 rfl) ?_
  refine lv_iconst (v := 0) hx hb dX12_cost_1 (by decide) ?_
  refine va_put (D := (dC, dI)) (ci := 12) (v := .int (0 : Int32)) (ty := .int) (C := RX12) (T := TX12) (N := 22) hx hb hts inX12 tyX12 tyX12_ok nmX12 hown hK hP hD hS 0 rfl rfl 0 (by decide) (hts _ (List.mem_cons_of_mem _ mw_200)) (fun _ h9 => h9) rfl (by decide +kernel) rfl rfl (Nat.le_of_ble_eq_true rfl) dX12_cost_2 ?_; clear hP hD hS; clear H locs; intro H locs hP hD hS
  replace hP : va_P (dC, dI) vwCl (w_X12_cost h0 h_row h_kept h_isKept h_aside h_eight h_rows h_scales h_dealt h_bytes h_heardRow h_made h_comes h_backs h_fresh cy (0 : Int32) c_nodeS c_nodeD c_pairE c_pairO c_bit c_lag c_lagSum c_row c_scales c_dealt) H := hP
  replace hD : va_D A (w_X12_cost h0 h_row h_kept h_isKept h_aside h_eight h_rows h_scales h_dealt h_bytes h_heardRow h_made h_comes h_backs h_fresh cy (0 : Int32) c_nodeS c_nodeD c_pairE c_pairO c_bit c_lag c_lagSum c_row c_scales c_dealt) := hD
  refine lv_aload_n hx hb dX12_cost_5 rfl (lv_at hl 0 rfl) ?_
  refine lv_iload_n hx hb dX12_cost_6 rfl (lv_at hl 1 rfl) ?_
  refine lv_iload_n hx hb dX12_cost_7 rfl (lv_at hl 2 rfl) ?_
  have hPc := pSub (ws' := (w_X12_canDeal h0 h_row h_kept h_isKept h_aside h_eight h_rows h_scales h_dealt h_bytes h_heardRow h_made h_comes h_backs h_fresh cy (0 : Int32) c_nodeS c_nodeD c_pairE c_pairO c_bit c_lag c_lagSum c_row)) hP [0, 1] rfl
  have hDc := dSub (ws' := (w_X12_canDeal h0 h_row h_kept h_isKept h_aside h_eight h_rows h_scales h_dealt h_bytes h_heardRow h_made h_comes h_backs h_fresh cy (0 : Int32) c_nodeS c_nodeD c_pairE c_pairO c_bit c_lag c_lagSum c_row)) hD [0, 1] (by decide) rfl
  have hFc := va_free (wc := (w_X12_canDeal h0 h_row h_kept h_isKept h_aside h_eight h_rows h_scales h_dealt h_bytes h_heardRow h_made h_comes h_backs h_fresh cy (0 : Int32) c_nodeS c_nodeD c_pairE c_pairO c_bit c_lag c_lagSum c_row)) hD hS hA [0, 1] rfl
  refine va_calli (va_runV (As := [.int v1, .int v2]) (rest := []) ⟨hx, hb, hml, hown, hts⟩ (c_X12_canDeal l dC dI cy h0 h_row h_kept h_isKept h_aside h_eight h_rows h_scales h_dealt h_bytes h_heardRow h_made h_comes h_backs h_fresh H.size v1 v2 (0 : Int32) c_nodeS c_nodeD c_pairE c_pairO c_bit c_lag c_lagSum c_row _ hw) (cwV 2 hts (goodV mw_987 mw_984 mw_985 mw_986 mw_5) rfl rfl rfl (by decide +kernel) ⟨Nat.le_of_ble_eq_true rfl, Nat.le_of_ble_eq_true rfl⟩) ⟨PX_blind, va_recv hK hPc (ci := 12) (q0 := 0) rfl rfl, PX_pre hPc hK hDc hG⟩ rfl rfl hl.1 rfl (lv_room (Nat.le_of_ble_eq_true rfl)) dX12_cost_8 ⟨Nat.zero_le _, Nat.zero_le _⟩) hS (fun q _ h => hFc q h) hFc ?_; clear hw hS; intro r1 _ t H1 locs1 ht hvm hw hB hz1 hk1 hS
  obtain ⟨hP1, -, -⟩ := hB
  rw [ht] at hP1
  replace hP := jC0 hP hD [0, 1] [2, 3] rfl hk1 hP1 (w_X12_cost h0 h_row h_kept h_isKept h_aside h_eight h_rows h_scales h_dealt h_bytes h_heardRow h_made h_comes h_backs h_fresh cy (0 : Int32) c_nodeS c_nodeD c_pairE c_pairO c_bit c_lag c_lagSum c_row c_scales c_dealt) rfl rfl rfl 4 rfl (by decide +kernel); clear hD; obtain ⟨hP, hD⟩ := hP
  replace hP : va_P (dC, dI) vwCl (w_X12_cost h0 h_row h_kept h_isKept h_aside h_eight h_rows h_scales h_dealt h_bytes h_heardRow h_made h_comes h_backs h_fresh cy (0 : Int32) c_nodeS c_nodeD c_pairE c_pairO c_bit c_lag c_lagSum c_row c_scales c_dealt) H1 := hP
  replace hD : va_D A (w_X12_cost h0 h_row h_kept h_isKept h_aside h_eight h_rows h_scales h_dealt h_bytes h_heardRow h_made h_comes h_backs h_fresh cy (0 : Int32) c_nodeS c_nodeD c_pairE c_pairO c_bit c_lag c_lagSum c_row c_scales c_dealt) := hD
  clear hPc hDc hFc hP1 hk1 hz1 hvm ht; clear t; clear H locs; obtain ⟨H, hH⟩ : ∃ H, H = H1 := ⟨_, rfl⟩; obtain ⟨locs, hlo⟩ : ∃ L, L = locs1 := ⟨_, rfl⟩; subst hH; subst hlo
  refine W.widen (k := 0) (n := 0) (Nat.le_refl 0) (Nat.le_refl 0) ?_
  refine lv_if_eq (tgt := 23) hx hb dX12_cost_11 (by decide) (fun c2 => ?_) (fun c2 => ?_)
  · replace hw := hw.1 c2; clear c2
    refine lv_iconst (v := -1) hx hb dX12_cost_23 (by decide) ?_
    subst hQe
    exact W.iret (v := (-1 : Int32)) hx hb hr (fun t ht hW => ⟨⟨(-1 : Int32), ((0 : Int32), c_scales, c_dealt), rfl, hw, by rw [ht]; exact hP, va_K.moved hW.alike hK, hD⟩, hS.F ht⟩) hS.2.2 dX12_cost_24
  · replace hw := hw.2 c2; clear c2
    refine lv_aload_n hx hb dX12_cost_14 rfl (lv_at hl 0 rfl) ?_
    refine lv_iload_n hx hb dX12_cost_15 rfl (lv_at hl 1 rfl) ?_
    refine lv_iload_n hx hb dX12_cost_16 rfl (lv_at hl 2 rfl) ?_
    have hPc := pSub (ws' := (w_X12_costOf h0 h_row h_kept h_isKept h_aside h_eight h_rows h_scales h_dealt h_bytes h_heardRow h_made h_comes h_backs h_fresh cy (0 : Int32) c_nodeS c_nodeD c_pairE c_pairO c_bit c_lag c_lagSum c_row c_scales c_dealt)) hP [0, 1, 2, 3] rfl
    have hDc := dSub (ws' := (w_X12_costOf h0 h_row h_kept h_isKept h_aside h_eight h_rows h_scales h_dealt h_bytes h_heardRow h_made h_comes h_backs h_fresh cy (0 : Int32) c_nodeS c_nodeD c_pairE c_pairO c_bit c_lag c_lagSum c_row c_scales c_dealt)) hD [0, 1, 2, 3] (by decide) rfl
    have hFc := va_free (wc := (w_X12_costOf h0 h_row h_kept h_isKept h_aside h_eight h_rows h_scales h_dealt h_bytes h_heardRow h_made h_comes h_backs h_fresh cy (0 : Int32) c_nodeS c_nodeD c_pairE c_pairO c_bit c_lag c_lagSum c_row c_scales c_dealt)) hD hS hA [0, 1, 2, 3] rfl
    refine va_calli (va_runV (As := [.int v1, .int v2]) (rest := []) ⟨hx, hb, hml, hown, hts⟩ (c_X12_costOf l dC dI cy h0 h_row h_kept h_isKept h_aside h_eight h_rows h_scales h_dealt h_bytes h_heardRow h_made h_comes h_backs h_fresh H.size v1 v2 (0 : Int32) c_nodeS c_nodeD c_pairE c_pairO c_bit c_lag c_lagSum c_row c_scales c_dealt _ hw) (cwV 2 hts (goodV mw_1008 mw_1005 mw_1006 mw_1007 mw_5) rfl rfl rfl (by decide +kernel) ⟨Nat.le_of_ble_eq_true rfl, Nat.le_of_ble_eq_true rfl⟩) ⟨PX_blind, va_recv hK hPc (ci := 12) (q0 := 0) rfl rfl, PX_pre hPc hK hDc hG⟩ rfl rfl hl.1 rfl (lv_room (Nat.le_of_ble_eq_true rfl)) dX12_cost_17 ⟨Nat.zero_le _, Nat.zero_le _⟩) hS (fun q _ h => hFc q h) hFc ?_; clear hw hS; intro r5 u t H1 locs1 ht hvm hw hB hz1 hk1 hS
    obtain ⟨f3, f4⟩ := u
    obtain ⟨hP1, -, -⟩ := hB
    rw [ht] at hP1
    replace hP := jC0 hP hD [0, 1, 2, 3] [] rfl hk1 hP1 (w_X12_cost h0 h_row h_kept h_isKept h_aside h_eight h_rows h_scales h_dealt h_bytes h_heardRow h_made h_comes h_backs h_fresh cy (0 : Int32) c_nodeS c_nodeD c_pairE c_pairO c_bit c_lag c_lagSum c_row f3 f4) rfl rfl rfl 4 rfl (by decide +kernel); clear hD; obtain ⟨hP, hD⟩ := hP
    replace hP : va_P (dC, dI) vwCl (w_X12_cost h0 h_row h_kept h_isKept h_aside h_eight h_rows h_scales h_dealt h_bytes h_heardRow h_made h_comes h_backs h_fresh cy (0 : Int32) c_nodeS c_nodeD c_pairE c_pairO c_bit c_lag c_lagSum c_row f3 f4) H1 := hP
    replace hD : va_D A (w_X12_cost h0 h_row h_kept h_isKept h_aside h_eight h_rows h_scales h_dealt h_bytes h_heardRow h_made h_comes h_backs h_fresh cy (0 : Int32) c_nodeS c_nodeD c_pairE c_pairO c_bit c_lag c_lagSum c_row f3 f4) := hD
    clear hPc hDc hFc hP1 hk1 hz1 hvm ht; clear t; clear H locs; obtain ⟨H, hH⟩ : ∃ H, H = H1 := ⟨_, rfl⟩; obtain ⟨locs, hlo⟩ : ∃ L, L = locs1 := ⟨_, rfl⟩; subst hH; subst hlo
    refine W.widen (k := 0) (n := 0) (Nat.le_refl 0) (Nat.le_refl 0) ?_
    refine lv_goto (tgt := 24) hx hb dX12_cost_20 (by decide) ?_
    subst hQe
    exact W.iret (v := r5) hx hb hr (fun t ht hW => ⟨⟨r5, ((0 : Int32), f3, f4), rfl, hw, by rw [ht]; exact hP, va_K.moved hW.alike hK, hD⟩, hS.F ht⟩) hS.2.2 dX12_cost_24
set_option maxHeartbeats 4000000 in
set_option maxRecDepth 100000 in
theorem c_X12_differs (l : Launch) (dC : Nat → ClassId) (dI : Nat → Nat → Nat) (cy : Nat → ClassId) (h0 h_row h_kept h_isKept h_aside h_eight h_rows h_scales h_dealt h_bytes h_heardRow h_made h_comes h_backs h_fresh : Nat) (sz : Nat) (v1 : Int32) (c_thrown : Int32) (c_nodeS : Int32) (c_nodeD : Int32) (c_pairE : Int32) (c_pairO : Int32) (c_bit : Int32) (c_lag : Int32) (c_lagSum : Int32) (c_row : Nat → Int32) (c_dealt : Nat → Int32) (c_backs : Nat → Int32) (post : Int32 → (Nat → Int32) → Prop) (hw : wp_X12_differs v1 c_row c_dealt c_backs post) : Met l yX12_differs wsX12_differs ({ frames := 2, cells := 0, slots := 0, locals := 49 }) (PX dC dI cy [.ref h0, .int v1] sz (w_X12_differs h0 h_row h_kept h_isKept h_aside h_eight h_rows h_scales h_dealt h_bytes h_heardRow h_made h_comes h_backs h_fresh cy c_thrown c_nodeS c_nodeD c_pairE c_pairO c_bit c_lag c_lagSum c_row c_dealt c_backs)) (va_Qi (fun (r : Int32) (u : (Nat → Int32)) => post r u) (QX dC dI cy (va_A (w_X12_differs h0 h_row h_kept h_isKept h_aside h_eight h_rows h_scales h_dealt h_bytes h_heardRow h_made h_comes h_backs h_fresh cy c_thrown c_nodeS c_nodeD c_pairE c_pairO c_bit c_lag c_lagSum c_row c_dealt c_backs) sz) (fun (u : (Nat → Int32)) => w_X12_differs h0 h_row h_kept h_isKept h_aside h_eight h_rows h_scales h_dealt h_bytes h_heardRow h_made h_comes h_backs h_fresh cy c_thrown c_nodeS c_nodeD c_pairE c_pairO c_bit c_lag c_lagSum c_row c_dealt u)) (va_A (w_X12_differs h0 h_row h_kept h_isKept h_aside h_eight h_rows h_scales h_dealt h_bytes h_heardRow h_made h_comes h_backs h_fresh cy c_thrown c_nodeS c_nodeD c_pairE c_pairO c_bit c_lag c_lagSum c_row c_dealt c_backs) sz)) 0 0 (va_A (w_X12_differs h0 h_row h_kept h_isKept h_aside h_eight h_rows h_scales h_dealt h_bytes h_heardRow h_made h_comes h_backs h_fresh cy c_thrown c_nodeS c_nodeD c_pairE c_pairO c_bit c_lag c_lagSum c_row c_dealt c_backs) sz) := by
  refine Met.ofW (cc := cX12_differs) (maxL := 14) (ret := (some .int)) (by decide) rfl ?_
  intro p e s m args below meth c s₁ B hml hv
  obtain ⟨rfl, hsz, hP, hK, hD0, hG⟩ := hv
  have hx := B.exec
  have hb := B.bytes
  have hr := B.returns
  have hts := atoms_spec (ws := wsX12_differs) B.pre
  have hown : s.vm.findClass RX12 = some m.cls := findClass_of_methodNamed B.named
  have hlocks := B.notSynchronized
  subst hsz
  have hD := hD0.self (sz := s.heap.size)
  generalize hAe : va_A (w_X12_differs h0 h_row h_kept h_isKept h_aside h_eight h_rows h_scales h_dealt h_bytes h_heardRow h_made h_comes h_backs h_fresh cy c_thrown c_nodeS c_nodeD c_pairE c_pairO c_bit c_lag c_lagSum c_row c_dealt c_backs) s.heap.size = A at hD ⊢
  have hA : ∀ q : Nat, s.heap.size ≤ q → A q := fun q h => by rw [← hAe]; exact Or.inr h
  have hS : va_S A s.heap s.heap [] := va_S.rf
  have hl := lv_entry ([.ref h0, .int v1]) (n := 14) (Nat.le_of_ble_eq_true rfl)
  rw [lg_entry_eq]
  generalize (lg_sl ([.ref h0, .int v1]) ++ List.replicate (14 - (lg_sl ([.ref h0, .int v1])).length) Slot.unset).toArray = ls at hl ⊢
  replace hl : lv_has ls 14 [(0, .ref h0), (1, .int v1)] := hl
  have inX12 : ∀ w ∈ u_ws RX12 TX12 22, w ∈ wsX12_differs := fun w h => List.mem_cons_of_mem _ (inlX12 w h)
  clear hAe hD0 B
  unfold wp_X12_differs at hw
  generalize hQe : MQ below _ _ s _ _ _ = Q0
  generalize ([.ref h0, .int v1] : List Value).toArray = av at *
  obtain ⟨H, hH⟩ : ∃ H, H = s.heap := ⟨_, rfl⟩
  obtain ⟨locs, hlo⟩ : ∃ L : List Loc, L = [] := ⟨_, rfl⟩
  replace hP : va_P (dC, dI) vwCl (w_X12_differs h0 h_row h_kept h_isKept h_aside h_eight h_rows h_scales h_dealt h_bytes h_heardRow h_made h_comes h_backs h_fresh cy c_thrown c_nodeS c_nodeD c_pairE c_pairO c_bit c_lag c_lagSum c_row c_dealt c_backs) H := by rw [hH]; exact hP
  replace hS : va_S A s.heap H locs := by rw [hH, hlo]; exact hS
  suffices hgo : W p l e ({ frames := 2, cells := 0, slots := 0, locals := 49 }) s m av below meth c H locs 0 0 Q0 (F0 m 0 ls []) by rw [hH, hlo] at hgo; exact hgo
  clear hH hlo
  refine lv_iconst (v := 0) hx hb dX12_differs_0 (by decide) ?_
  refine lv_istore_n (lv' := [(2, .int (0 : Int32)), (0, .ref h0), (1, .int v1)]) hx hb dX12_differs_1 rfl hl (by decide) rfl ?_; clear hl; clear ls; intro ls hl
  refine lv_iconst (v := 0) hx hb dX12_differs_2 (by decide) ?_
  refine lv_istore_n (lv' := [(3, .int (0 : Int32)), (2, .int (0 : Int32)), (0, .ref h0), (1, .int v1)]) hx hb dX12_differs_3 rfl hl (by decide) rfl ?_; clear hl; clear ls; intro ls hl
  refine lv_iconst (v := 0) hx hb dX12_differs_4 (by decide) ?_
  refine lv_istore (lv' := [(4, .int (0 : Int32)), (3, .int (0 : Int32)), (2, .int (0 : Int32)), (0, .ref h0), (1, .int v1)]) hx hb dX12_differs_5 hl (by decide) rfl ?_; clear hl; clear ls; intro ls hl
  obtain ⟨x1, e_x1⟩ : ∃ y : Int32, y = (0 : Int32) := ⟨_, rfl⟩
  replace hw := hw x1 e_x1
  replace hl : lv_has ls 14 [(4, .int x1), (3, .int (0 : Int32)), (2, .int (0 : Int32)), (0, .ref h0), (1, .int v1)] := by rw [e_x1]; exact hl
  clear e_x1
  replace hl := lv_sub (l' := [(4, .int x1), (3, .int (0 : Int32)), (2, .int (0 : Int32)), (0, .ref h0), (1, .int v1)]) hl [0, 1, 2, 3, 4] rfl
  revert hl; revert hS; revert hD; revert hP; revert ls; revert locs; revert H
  revert hw; revert c_backs; revert x1
  refine Lz2_gr ?_; intro g2 ih3 x4 f5 hw
  intro H locs ls hP hD hS hl
  refine lv_iload hx hb dX12_differs_7 (lv_at hl 0 rfl) ?_
  refine lv_bipush (v := 64) hx hb dX12_differs_9 (by decide) ?_
  refine lv_icmp_ge (tgt := 87) hx hb dX12_differs_11 (by decide) (fun c6 => ?_) (fun c6 => ?_)
  · replace hw := hw.1 c6; clear c6
    clear ih3
    refine lv_iconst (v := 0) hx hb dX12_differs_87 (by decide) ?_
    refine lv_istore (lv' := [(4, .int (0 : Int32)), (3, .int (0 : Int32)), (2, .int (0 : Int32)), (0, .ref h0), (1, .int v1)]) hx hb dX12_differs_88 hl (by decide) rfl ?_; clear hl; clear ls; intro ls hl
    obtain ⟨x7, e_x7⟩ : ∃ y : Int32, y = (0 : Int32) := ⟨_, rfl⟩
    replace hw := hw x7 e_x7
    replace hl : lv_has ls 14 [(4, .int x7), (3, .int (0 : Int32)), (2, .int (0 : Int32)), (0, .ref h0), (1, .int v1)] := by rw [e_x7]; exact hl
    clear e_x7
    obtain ⟨x8, e_x8⟩ : ∃ y : Int32, y = (0 : Int32) := ⟨_, rfl⟩
    replace hw := hw x8 e_x8
    replace hl : lv_has ls 14 [(4, .int x7), (3, .int x8), (2, .int (0 : Int32)), (0, .ref h0), (1, .int v1)] := by rw [e_x8]; exact hl
    clear e_x8
    obtain ⟨x9, e_x9⟩ : ∃ y : Int32, y = (0 : Int32) := ⟨_, rfl⟩
    replace hw := hw x9 e_x9
    replace hl : lv_has ls 14 [(4, .int x7), (3, .int x8), (2, .int x9), (0, .ref h0), (1, .int v1)] := by rw [e_x9]; exact hl
    clear e_x9
    replace hl := lv_sub (l' := [(4, .int x7), (3, .int x8), (2, .int x9), (0, .ref h0), (1, .int v1)]) hl [0, 1, 2, 3, 4] rfl
    revert hl; revert hS; revert hD; revert hP; revert ls; revert locs; revert H
    revert hw; revert x9; revert x8; revert x7
    refine Lz3_gr ?_; intro g10 ih11 x12 x13 x14 hw
    intro H locs ls hP hD hS hl
    refine lv_iload hx hb dX12_differs_90 (lv_at hl 0 rfl) ?_
    refine lv_bipush (v := 8) hx hb dX12_differs_92 (by decide) ?_
    refine lv_icmp_ge (tgt := 286) hx hb dX12_differs_94 (by decide) (fun c15 => ?_) (fun c15 => ?_)
    · replace hw := hw.1 c15; clear c15
      clear ih11
      refine lv_iload_n hx hb dX12_differs_286 rfl (lv_at hl 4 rfl) ?_
      refine lv_if_eq (tgt := 294) hx hb dX12_differs_287 (by decide) (fun c16 => ?_) (fun c16 => ?_)
      · replace hw := hw.1 c16; clear c16
        refine lv_iload_n hx hb dX12_differs_294 rfl (lv_at hl 2 rfl) ?_
        subst hQe
        exact W.iret (v := x14) hx hb hr (fun t ht hW => ⟨⟨x14, f5, rfl, hw, by rw [ht]; exact hP, va_K.moved hW.alike hK, hD⟩, hS.F ht⟩) hS.2.2 dX12_differs_295
      · replace hw := hw.2 c16; clear c16
        refine lv_iload_n hx hb dX12_differs_290 rfl (lv_at hl 1 rfl) ?_
        refine lv_goto (tgt := 295) hx hb dX12_differs_291 (by decide) ?_
        subst hQe
        exact W.iret (v := x13) hx hb hr (fun t ht hW => ⟨⟨x13, f5, rfl, hw, by rw [ht]; exact hP, va_K.moved hW.alike hK, hD⟩, hS.F ht⟩) hS.2.2 dX12_differs_295
    · replace hw := hw.2 c15; clear c15
      refine lv_iconst (v := 0) hx hb dX12_differs_97 (by decide) ?_
      refine lv_istore (lv' := [(5, .int (0 : Int32)), (4, .int x12), (3, .int x13), (2, .int x14), (0, .ref h0), (1, .int v1)]) hx hb dX12_differs_98 hl (by decide) rfl ?_; clear hl; clear ls; intro ls hl
      obtain ⟨x17, e_x17⟩ : ∃ y : Int32, y = (0 : Int32) := ⟨_, rfl⟩
      replace hw := hw x17 e_x17
      replace hl : lv_has ls 14 [(5, .int x17), (4, .int x12), (3, .int x13), (2, .int x14), (0, .ref h0), (1, .int v1)] := by rw [e_x17]; exact hl
      clear e_x17
      replace hl := lv_sub (l' := [(5, .int x17), (4, .int x12), (3, .int x13), (2, .int x14), (0, .ref h0), (1, .int v1)]) hl [0, 1, 2, 3, 4, 5] rfl
      revert hl; revert hS; revert hD; revert hP; revert ls; revert locs; revert H
      revert hw; revert x14; revert x13; revert x17
      refine Lz3_gr ?_; intro g18 ih19 x20 x21 x22 hw
      intro H locs ls hP hD hS hl
      refine lv_iload hx hb dX12_differs_100 (lv_at hl 0 rfl) ?_
      refine lv_iconst (v := 4) hx hb dX12_differs_102 (by decide) ?_
      refine lv_icmp_ge (tgt := 280) hx hb dX12_differs_103 (by decide) (fun c23 => ?_) (fun c23 => ?_)
      · replace hw := hw.1 c23; clear c23
        clear ih19
        refine lv_iinc (v := x12 + 1) (lv' := [(4, .int (x12 + 1)), (5, .int x20), (3, .int x21), (2, .int x22), (0, .ref h0), (1, .int v1)]) hx hb dX12_differs_280 hl (k := 1) rfl rfl (by decide) rfl ?_; clear hl; clear ls; intro ls hl
        refine lv_goto (tgt := 90) hx hb dX12_differs_283 (by decide) ?_
        exact ih11 (x12 + 1) x21 x22 hw H locs ls hP hD hS (lv_sub hl [0, 2, 3, 4, 5] rfl)
      · replace hw := hw.2 c23; clear c23
        refine lv_iconst (v := 0) hx hb dX12_differs_106 (by decide) ?_
        refine lv_iload hx hb dX12_differs_107 (lv_at hl 1 rfl) ?_
        refine lv_iload hx hb dX12_differs_109 (lv_at hl 0 rfl) ?_
        have hPc := pSub (ws' := (w_X12_bandAt cy)) hP [] rfl
        have hDc := dSub (ws' := (w_X12_bandAt cy)) hD [] (by decide) rfl
        have hFc := va_free (wc := (w_X12_bandAt cy)) hD hS hA [] rfl
        refine va_calli (va_runS (As := [.int (0 : Int32), .int x12, .int x20]) (rest := []) ⟨hx, hb, hml, hown, hts⟩ (c_X12_bandAt l dC dI cy  H.size (0 : Int32) x12 x20 _ hw) (va_cwS 3 hts (goodS mw_633 mw_631 mw_632 mw_5) rfl rfl rfl (by decide +kernel) ⟨Nat.le_of_ble_eq_true rfl, Nat.le_of_ble_eq_true rfl⟩) ⟨PX_blind, PX_pre hPc hK hDc hG⟩ rfl rfl hl.1 rfl (lv_room (Nat.le_of_ble_eq_true rfl)) dX12_differs_111 ⟨Nat.zero_le _, Nat.zero_le _⟩) hS (fun q _ h => hFc q h) hFc ?_; clear hw hS; intro r24 _ t H1 locs1 ht hvm hw hB hz1 hk1 hS
        obtain ⟨hP1, -, -⟩ := hB
        rw [ht] at hP1
        replace hP := jC0 hP hD [] [0, 1, 2, 3] rfl hk1 hP1 (w_X12_differs h0 h_row h_kept h_isKept h_aside h_eight h_rows h_scales h_dealt h_bytes h_heardRow h_made h_comes h_backs h_fresh cy c_thrown c_nodeS c_nodeD c_pairE c_pairO c_bit c_lag c_lagSum c_row c_dealt f5) rfl rfl rfl 4 rfl (by decide +kernel); clear hD; obtain ⟨hP, hD⟩ := hP
        replace hP : va_P (dC, dI) vwCl (w_X12_differs h0 h_row h_kept h_isKept h_aside h_eight h_rows h_scales h_dealt h_bytes h_heardRow h_made h_comes h_backs h_fresh cy c_thrown c_nodeS c_nodeD c_pairE c_pairO c_bit c_lag c_lagSum c_row c_dealt f5) H1 := hP
        replace hD : va_D A (w_X12_differs h0 h_row h_kept h_isKept h_aside h_eight h_rows h_scales h_dealt h_bytes h_heardRow h_made h_comes h_backs h_fresh cy c_thrown c_nodeS c_nodeD c_pairE c_pairO c_bit c_lag c_lagSum c_row c_dealt f5) := hD
        clear hPc hDc hFc hP1 hk1 hz1 hvm ht; clear t; clear H locs; obtain ⟨H, hH⟩ : ∃ H, H = H1 := ⟨_, rfl⟩; obtain ⟨locs, hlo⟩ : ∃ L, L = locs1 := ⟨_, rfl⟩; subst hH; subst hlo
        refine W.widen (k := 0) (n := 0) (Nat.le_refl 0) (Nat.le_refl 0) ?_
        refine lv_istore (lv' := [(6, .int r24), (5, .int x20), (4, .int x12), (3, .int x21), (2, .int x22), (0, .ref h0), (1, .int v1)]) hx hb dX12_differs_114 hl (by decide) rfl ?_; clear hl; clear ls; intro ls hl
        refine lv_iconst (v := 1) hx hb dX12_differs_116 (by decide) ?_
        refine lv_iload hx hb dX12_differs_117 (lv_at hl 2 rfl) ?_
        refine lv_iload hx hb dX12_differs_119 (lv_at hl 1 rfl) ?_
        have hPc := pSub (ws' := (w_X12_bandAt cy)) hP [] rfl
        have hDc := dSub (ws' := (w_X12_bandAt cy)) hD [] (by decide) rfl
        have hFc := va_free (wc := (w_X12_bandAt cy)) hD hS hA [] rfl
        refine va_calli (va_runS (As := [.int (1 : Int32), .int x12, .int x20]) (rest := []) ⟨hx, hb, hml, hown, hts⟩ (c_X12_bandAt l dC dI cy  H.size (1 : Int32) x12 x20 _ hw) (va_cwS 3 hts (goodS mw_633 mw_631 mw_632 mw_5) rfl rfl rfl (by decide +kernel) ⟨Nat.le_of_ble_eq_true rfl, Nat.le_of_ble_eq_true rfl⟩) ⟨PX_blind, PX_pre hPc hK hDc hG⟩ rfl rfl hl.1 rfl (lv_room (Nat.le_of_ble_eq_true rfl)) dX12_differs_121 ⟨Nat.zero_le _, Nat.zero_le _⟩) hS (fun q _ h => hFc q h) hFc ?_; clear hw hS; intro r25 _ t H1 locs1 ht hvm hw hB hz1 hk1 hS
        obtain ⟨hP1, -, -⟩ := hB
        rw [ht] at hP1
        replace hP := jC0 hP hD [] [0, 1, 2, 3] rfl hk1 hP1 (w_X12_differs h0 h_row h_kept h_isKept h_aside h_eight h_rows h_scales h_dealt h_bytes h_heardRow h_made h_comes h_backs h_fresh cy c_thrown c_nodeS c_nodeD c_pairE c_pairO c_bit c_lag c_lagSum c_row c_dealt f5) rfl rfl rfl 4 rfl (by decide +kernel); clear hD; obtain ⟨hP, hD⟩ := hP
        replace hP : va_P (dC, dI) vwCl (w_X12_differs h0 h_row h_kept h_isKept h_aside h_eight h_rows h_scales h_dealt h_bytes h_heardRow h_made h_comes h_backs h_fresh cy c_thrown c_nodeS c_nodeD c_pairE c_pairO c_bit c_lag c_lagSum c_row c_dealt f5) H1 := hP
        replace hD : va_D A (w_X12_differs h0 h_row h_kept h_isKept h_aside h_eight h_rows h_scales h_dealt h_bytes h_heardRow h_made h_comes h_backs h_fresh cy c_thrown c_nodeS c_nodeD c_pairE c_pairO c_bit c_lag c_lagSum c_row c_dealt f5) := hD
        clear hPc hDc hFc hP1 hk1 hz1 hvm ht; clear t; clear H locs; obtain ⟨H, hH⟩ : ∃ H, H = H1 := ⟨_, rfl⟩; obtain ⟨locs, hlo⟩ : ∃ L, L = locs1 := ⟨_, rfl⟩; subst hH; subst hlo
        refine W.widen (k := 0) (n := 0) (Nat.le_refl 0) (Nat.le_refl 0) ?_
        refine lv_istore (lv' := [(7, .int r25), (6, .int r24), (5, .int x20), (4, .int x12), (3, .int x21), (2, .int x22), (0, .ref h0), (1, .int v1)]) hx hb dX12_differs_124 hl (by decide) rfl ?_; clear hl; clear ls; intro ls hl
        refine lv_aload_n hx hb dX12_differs_126 rfl (lv_at hl 6 rfl) ?_
        refine va_get (D := (dC, dI)) (ci := 12) (v := .ref h_backs) (C := RX12) (T := TX12) (N := 22) hx hb hts inX12 hown hK hP 0 rfl rfl 20 (by decide) (hts _ (List.mem_cons_of_mem _ mw_182)) (fun _ h9 => h9) rfl dX12_differs_127 ?_
        refine lv_iload hx hb dX12_differs_130 (lv_at hl 1 rfl) ?_
        obtain ⟨h26, hw⟩ := hw
        refine xiald (k := r24.toNatClampNeg) hx hb hK hP 3 0 rfl rfl h26 rfl dX12_differs_132 ?_
        refine lv_topi (fun x27 e_x27 => ?_)
        replace hw := hw x27 e_x27
        clear e_x27
        refine lv_istore (lv' := [(8, .int x27), (7, .int r25), (6, .int r24), (5, .int x20), (4, .int x12), (3, .int x21), (2, .int x22), (0, .ref h0), (1, .int v1)]) hx hb dX12_differs_133 hl (by decide) rfl ?_; clear hl; clear ls; intro ls hl
        refine lv_aload_n hx hb dX12_differs_135 rfl (lv_at hl 7 rfl) ?_
        refine va_get (D := (dC, dI)) (ci := 12) (v := .ref h_backs) (C := RX12) (T := TX12) (N := 22) hx hb hts inX12 hown hK hP 0 rfl rfl 20 (by decide) (hts _ (List.mem_cons_of_mem _ mw_182)) (fun _ h9 => h9) rfl dX12_differs_136 ?_
        refine lv_iload hx hb dX12_differs_139 (lv_at hl 1 rfl) ?_
        obtain ⟨h28, hw⟩ := hw
        refine xiald (k := r25.toNatClampNeg) hx hb hK hP 3 0 rfl rfl h28 rfl dX12_differs_141 ?_
        refine lv_topi (fun x29 e_x29 => ?_)
        replace hw := hw x29 e_x29
        clear e_x29
        refine lv_istore (lv' := [(9, .int x29), (8, .int x27), (7, .int r25), (6, .int r24), (5, .int x20), (4, .int x12), (3, .int x21), (2, .int x22), (0, .ref h0), (1, .int v1)]) hx hb dX12_differs_142 hl (by decide) rfl ?_; clear hl; clear ls; intro ls hl
        refine lv_aload_n hx hb dX12_differs_144 rfl (lv_at hl 8 rfl) ?_
        refine va_get (D := (dC, dI)) (ci := 12) (v := .ref h_row) (C := RX12) (T := TX12) (N := 22) hx hb hts inX12 hown hK hP 0 rfl rfl 1 (by decide) (hts _ (List.mem_cons_of_mem _ mw_169)) (fun _ h9 => h9) rfl dX12_differs_145 ?_
        refine lv_sipush (v := 653) hx hb dX12_differs_148 (by decide) ?_
        refine xiald (k := 653) hx hb hK hP 1 0 rfl rfl (vpL 653 13385 rfl) (by decide) dX12_differs_151 ?_
        refine lv_iload hx hb dX12_differs_152 (lv_at hl 5 rfl) ?_
        refine lv_ishr hx hb dX12_differs_154 ?_
        refine lv_iconst (v := 1) hx hb dX12_differs_155 (by decide) ?_
        refine lv_iand hx hb dX12_differs_156 ?_
        refine lv_iconst (v := 1) hx hb dX12_differs_157 (by decide) ?_
        refine jn1 (Gg := fun (x31 : Int32) => ∀ (H : Heap) (locs : List Loc) (ls : Array Slot), va_P (dC, dI) vwCl (w_X12_differs h0 h_row h_kept h_isKept h_aside h_eight h_rows h_scales h_dealt h_bytes h_heardRow h_made h_comes h_backs h_fresh cy c_thrown c_nodeS c_nodeD c_pairE c_pairO c_bit c_lag c_lagSum c_row c_dealt f5) H → va_D A (w_X12_differs h0 h_row h_kept h_isKept h_aside h_eight h_rows h_scales h_dealt h_bytes h_heardRow h_made h_comes h_backs h_fresh cy c_thrown c_nodeS c_nodeD c_pairE c_pairO c_bit c_lag c_lagSum c_row c_dealt f5) → va_S A s.heap H locs → lv_has ls 14 [(0, .ref h0), (1, .int v1), (2, .int x22), (3, .int x21), (4, .int x12), (5, .int x20), (6, .int r24), (7, .int r25), (8, .int x27), (9, .int x29)] → W p l e { frames := 2, cells := 0, slots := 0, locals := 49 } s m av below meth c H locs 0 0 Q0 (F0 m 166 ls [.int x31])) hw ?_ ?_ <;> clear hw
        · clear hP hD hS hl; clear H locs ls; intro x31 hw H locs ls hP hD hS hl
          refine lv_istore (lv' := [(10, .int x31), (0, .ref h0), (1, .int v1), (2, .int x22), (3, .int x21), (4, .int x12), (5, .int x20), (6, .int r24), (7, .int r25), (8, .int x27), (9, .int x29)]) hx hb dX12_differs_166 hl (by decide) rfl ?_; clear hl; clear ls; intro ls hl
          refine lv_iload hx hb dX12_differs_168 (lv_at hl 0 rfl) ?_
          refine jn1 (Gg := fun (x34 : Int32) => ∀ (H : Heap) (locs : List Loc) (ls : Array Slot), va_P (dC, dI) vwCl (w_X12_differs h0 h_row h_kept h_isKept h_aside h_eight h_rows h_scales h_dealt h_bytes h_heardRow h_made h_comes h_backs h_fresh cy c_thrown c_nodeS c_nodeD c_pairE c_pairO c_bit c_lag c_lagSum c_row c_dealt f5) H → va_D A (w_X12_differs h0 h_row h_kept h_isKept h_aside h_eight h_rows h_scales h_dealt h_bytes h_heardRow h_made h_comes h_backs h_fresh cy c_thrown c_nodeS c_nodeD c_pairE c_pairO c_bit c_lag c_lagSum c_row c_dealt f5) → va_S A s.heap H locs → lv_has ls 14 [(0, .ref h0), (1, .int v1), (2, .int x22), (3, .int x21), (4, .int x12), (5, .int x20), (6, .int r24), (7, .int r25), (9, .int x29), (10, .int x31)] → W p l e { frames := 2, cells := 0, slots := 0, locals := 49 } s m av below meth c H locs 0 0 Q0 (F0 m 187 ls [.int x34])) hw ?_ ?_ <;> clear hw
          · clear hP hD hS hl; clear H locs ls; intro x34 hw H locs ls hP hD hS hl
            refine lv_istore (lv' := [(11, .int x34), (0, .ref h0), (1, .int v1), (2, .int x22), (3, .int x21), (4, .int x12), (5, .int x20), (6, .int r24), (7, .int r25), (9, .int x29), (10, .int x31)]) hx hb dX12_differs_187 hl (by decide) rfl ?_; clear hl; clear ls; intro ls hl
            refine lv_aload_n hx hb dX12_differs_189 rfl (lv_at hl 1 rfl) ?_
            refine va_get (D := (dC, dI)) (ci := 12) (v := .ref h_row) (C := RX12) (T := TX12) (N := 22) hx hb hts inX12 hown hK hP 0 rfl rfl 1 (by decide) (hts _ (List.mem_cons_of_mem _ mw_169)) (fun _ h9 => h9) rfl dX12_differs_190 ?_
            refine lv_sipush (v := 493) hx hb dX12_differs_193 (by decide) ?_
            refine lv_iload hx hb dX12_differs_196 (lv_at hl 7 rfl) ?_
            refine lv_iadd hx hb dX12_differs_198 ?_
            obtain ⟨h37, hw⟩ := hw
            refine xiald (k := ((493 : Int32) + r24).toNatClampNeg) hx hb hK hP 1 0 rfl rfl h37 rfl dX12_differs_199 ?_
            refine lv_iload hx hb dX12_differs_200 (lv_at hl 0 rfl) ?_
            refine lv_isub hx hb dX12_differs_202 ?_
            have hPc := pSub (ws' := (w_X12_size cy)) hP [] rfl
            have hDc := dSub (ws' := (w_X12_size cy)) hD [] (by decide) rfl
            have hFc := va_free (wc := (w_X12_size cy)) hD hS hA [] rfl
            refine va_calli (va_runS (As := [.int ((c_row ((493 : Int32) + r24).toNatClampNeg) - x34)]) (rest := []) ⟨hx, hb, hml, hown, hts⟩ (c_X12_size l dC dI cy  H.size ((c_row ((493 : Int32) + r24).toNatClampNeg) - x34) _ hw) (va_cwS 1 hts (goodS mw_647 mw_645 mw_646 mw_5) rfl rfl rfl (by decide +kernel) ⟨Nat.le_of_ble_eq_true rfl, Nat.le_of_ble_eq_true rfl⟩) ⟨PX_blind, PX_pre hPc hK hDc hG⟩ rfl rfl hl.1 rfl (lv_room (Nat.le_of_ble_eq_true rfl)) dX12_differs_203 ⟨Nat.zero_le _, Nat.zero_le _⟩) hS (fun q _ h => hFc q h) hFc ?_; clear hw hS; intro r38 _ t H1 locs1 ht hvm hw hB hz1 hk1 hS
            obtain ⟨hP1, -, -⟩ := hB
            rw [ht] at hP1
            replace hP := jC0 hP hD [] [0, 1, 2, 3] rfl hk1 hP1 (w_X12_differs h0 h_row h_kept h_isKept h_aside h_eight h_rows h_scales h_dealt h_bytes h_heardRow h_made h_comes h_backs h_fresh cy c_thrown c_nodeS c_nodeD c_pairE c_pairO c_bit c_lag c_lagSum c_row c_dealt f5) rfl rfl rfl 4 rfl (by decide +kernel); clear hD; obtain ⟨hP, hD⟩ := hP
            replace hP : va_P (dC, dI) vwCl (w_X12_differs h0 h_row h_kept h_isKept h_aside h_eight h_rows h_scales h_dealt h_bytes h_heardRow h_made h_comes h_backs h_fresh cy c_thrown c_nodeS c_nodeD c_pairE c_pairO c_bit c_lag c_lagSum c_row c_dealt f5) H1 := hP
            replace hD : va_D A (w_X12_differs h0 h_row h_kept h_isKept h_aside h_eight h_rows h_scales h_dealt h_bytes h_heardRow h_made h_comes h_backs h_fresh cy c_thrown c_nodeS c_nodeD c_pairE c_pairO c_bit c_lag c_lagSum c_row c_dealt f5) := hD
            clear hPc hDc hFc hP1 hk1 hz1 hvm ht; clear t; clear H locs; obtain ⟨H, hH⟩ : ∃ H, H = H1 := ⟨_, rfl⟩; obtain ⟨locs, hlo⟩ : ∃ L, L = locs1 := ⟨_, rfl⟩; subst hH; subst hlo
            refine W.widen (k := 0) (n := 0) (Nat.le_refl 0) (Nat.le_refl 0) ?_
            refine lv_istore (lv' := [(12, .int r38), (11, .int x34), (0, .ref h0), (1, .int v1), (2, .int x22), (3, .int x21), (4, .int x12), (5, .int x20), (6, .int r24), (7, .int r25), (9, .int x29), (10, .int x31)]) hx hb dX12_differs_206 hl (by decide) rfl ?_; clear hl; clear ls; intro ls hl
            refine lv_aload_n hx hb dX12_differs_208 rfl (lv_at hl 2 rfl) ?_
            refine va_get (D := (dC, dI)) (ci := 12) (v := .ref h_row) (C := RX12) (T := TX12) (N := 22) hx hb hts inX12 hown hK hP 0 rfl rfl 1 (by decide) (hts _ (List.mem_cons_of_mem _ mw_169)) (fun _ h9 => h9) rfl dX12_differs_209 ?_
            refine lv_sipush (v := 493) hx hb dX12_differs_212 (by decide) ?_
            refine lv_iload hx hb dX12_differs_215 (lv_at hl 9 rfl) ?_
            refine lv_iadd hx hb dX12_differs_217 ?_
            obtain ⟨h39, hw⟩ := hw
            refine xiald (k := ((493 : Int32) + r25).toNatClampNeg) hx hb hK hP 1 0 rfl rfl h39 rfl dX12_differs_218 ?_
            refine lv_iload hx hb dX12_differs_219 (lv_at hl 11 rfl) ?_
            refine jn1 (Gg := fun (x40 : Int32) => ∀ (H : Heap) (locs : List Loc) (ls : Array Slot), va_P (dC, dI) vwCl (w_X12_differs h0 h_row h_kept h_isKept h_aside h_eight h_rows h_scales h_dealt h_bytes h_heardRow h_made h_comes h_backs h_fresh cy c_thrown c_nodeS c_nodeD c_pairE c_pairO c_bit c_lag c_lagSum c_row c_dealt f5) H → va_D A (w_X12_differs h0 h_row h_kept h_isKept h_aside h_eight h_rows h_scales h_dealt h_bytes h_heardRow h_made h_comes h_backs h_fresh cy c_thrown c_nodeS c_nodeD c_pairE c_pairO c_bit c_lag c_lagSum c_row c_dealt f5) → va_S A s.heap H locs → lv_has ls 14 [(0, .ref h0), (1, .int v1), (2, .int x22), (3, .int x21), (4, .int x12), (5, .int x20), (12, .int r38)] → W p l e { frames := 2, cells := 0, slots := 0, locals := 49 } s m av below meth c H locs 0 0 Q0 (F0 m 234 ls [.int x40, .int (c_row ((493 : Int32) + r25).toNatClampNeg)])) hw ?_ ?_ <;> clear hw
            · clear hP hD hS hl; clear H locs ls; intro x40 hw H locs ls hP hD hS hl
              refine lv_isub hx hb dX12_differs_234 ?_
              have hPc := pSub (ws' := (w_X12_size cy)) hP [] rfl
              have hDc := dSub (ws' := (w_X12_size cy)) hD [] (by decide) rfl
              have hFc := va_free (wc := (w_X12_size cy)) hD hS hA [] rfl
              refine va_calli (va_runS (As := [.int ((c_row ((493 : Int32) + r25).toNatClampNeg) - x40)]) (rest := []) ⟨hx, hb, hml, hown, hts⟩ (c_X12_size l dC dI cy  H.size ((c_row ((493 : Int32) + r25).toNatClampNeg) - x40) _ hw) (va_cwS 1 hts (goodS mw_647 mw_645 mw_646 mw_5) rfl rfl rfl (by decide +kernel) ⟨Nat.le_of_ble_eq_true rfl, Nat.le_of_ble_eq_true rfl⟩) ⟨PX_blind, PX_pre hPc hK hDc hG⟩ rfl rfl hl.1 rfl (lv_room (Nat.le_of_ble_eq_true rfl)) dX12_differs_235 ⟨Nat.zero_le _, Nat.zero_le _⟩) hS (fun q _ h => hFc q h) hFc ?_; clear hw hS; intro r43 _ t H1 locs1 ht hvm hw hB hz1 hk1 hS
              obtain ⟨hP1, -, -⟩ := hB
              rw [ht] at hP1
              replace hP := jC0 hP hD [] [0, 1, 2, 3] rfl hk1 hP1 (w_X12_differs h0 h_row h_kept h_isKept h_aside h_eight h_rows h_scales h_dealt h_bytes h_heardRow h_made h_comes h_backs h_fresh cy c_thrown c_nodeS c_nodeD c_pairE c_pairO c_bit c_lag c_lagSum c_row c_dealt f5) rfl rfl rfl 4 rfl (by decide +kernel); clear hD; obtain ⟨hP, hD⟩ := hP
              replace hP : va_P (dC, dI) vwCl (w_X12_differs h0 h_row h_kept h_isKept h_aside h_eight h_rows h_scales h_dealt h_bytes h_heardRow h_made h_comes h_backs h_fresh cy c_thrown c_nodeS c_nodeD c_pairE c_pairO c_bit c_lag c_lagSum c_row c_dealt f5) H1 := hP
              replace hD : va_D A (w_X12_differs h0 h_row h_kept h_isKept h_aside h_eight h_rows h_scales h_dealt h_bytes h_heardRow h_made h_comes h_backs h_fresh cy c_thrown c_nodeS c_nodeD c_pairE c_pairO c_bit c_lag c_lagSum c_row c_dealt f5) := hD
              clear hPc hDc hFc hP1 hk1 hz1 hvm ht; clear t; clear H locs; obtain ⟨H, hH⟩ : ∃ H, H = H1 := ⟨_, rfl⟩; obtain ⟨locs, hlo⟩ : ∃ L, L = locs1 := ⟨_, rfl⟩; subst hH; subst hlo
              refine W.widen (k := 0) (n := 0) (Nat.le_refl 0) (Nat.le_refl 0) ?_
              refine lv_istore (lv' := [(13, .int r43), (0, .ref h0), (1, .int v1), (2, .int x22), (3, .int x21), (4, .int x12), (5, .int x20), (12, .int r38)]) hx hb dX12_differs_238 hl (by decide) rfl ?_; clear hl; clear ls; intro ls hl
              refine lv_iload_n hx hb dX12_differs_240 rfl (lv_at hl 3 rfl) ?_
              refine lv_iload hx hb dX12_differs_241 (lv_at hl 7 rfl) ?_
              refine lv_iload hx hb dX12_differs_243 (lv_at hl 0 rfl) ?_
              refine lv_iadd hx hb dX12_differs_245 ?_
              refine lv_iadd hx hb dX12_differs_246 ?_
              refine lv_topi (fun x44 e_x44 => ?_)
              replace hw := hw x44 e_x44
              clear e_x44
              refine lv_istore_n (lv' := [(2, .int x44), (13, .int r43), (0, .ref h0), (1, .int v1), (3, .int x21), (4, .int x12), (5, .int x20), (12, .int r38)]) hx hb dX12_differs_247 rfl hl (by decide) rfl ?_; clear hl; clear ls; intro ls hl
              refine lv_iload hx hb dX12_differs_248 (lv_at hl 7 rfl) ?_
              refine lv_iload_n hx hb dX12_differs_250 rfl (lv_at hl 4 rfl) ?_
              refine jn1 (Gg := fun (x45 : Int32) => ∀ (H : Heap) (locs : List Loc) (ls : Array Slot), va_P (dC, dI) vwCl (w_X12_differs h0 h_row h_kept h_isKept h_aside h_eight h_rows h_scales h_dealt h_bytes h_heardRow h_made h_comes h_backs h_fresh cy c_thrown c_nodeS c_nodeD c_pairE c_pairO c_bit c_lag c_lagSum c_row c_dealt f5) H → va_D A (w_X12_differs h0 h_row h_kept h_isKept h_aside h_eight h_rows h_scales h_dealt h_bytes h_heardRow h_made h_comes h_backs h_fresh cy c_thrown c_nodeS c_nodeD c_pairE c_pairO c_bit c_lag c_lagSum c_row c_dealt f5) → va_S A s.heap H locs → lv_has ls 14 [(0, .ref h0), (1, .int v1), (2, .int x44), (4, .int x12), (5, .int x20), (13, .int r43)] → W p l e { frames := 2, cells := 0, slots := 0, locals := 49 } s m av below meth c H locs 0 0 Q0 (F0 m 260 ls [.int x45])) hw ?_ ?_ <;> clear hw
              · clear hP hD hS hl; clear H locs ls; intro x45 hw H locs ls hP hD hS hl
                refine lv_istore_n (lv' := [(3, .int x45), (0, .ref h0), (1, .int v1), (2, .int x44), (4, .int x12), (5, .int x20), (13, .int r43)]) hx hb dX12_differs_260 rfl hl (by decide) rfl ?_; clear hl; clear ls; intro ls hl
                refine lv_iload hx hb dX12_differs_261 (lv_at hl 6 rfl) ?_
                refine lv_iload_n hx hb dX12_differs_263 rfl (lv_at hl 0 rfl) ?_
                refine jn1 (Gg := fun (x48 : Int32) => ∀ (H : Heap) (locs : List Loc) (ls : Array Slot), va_P (dC, dI) vwCl (w_X12_differs h0 h_row h_kept h_isKept h_aside h_eight h_rows h_scales h_dealt h_bytes h_heardRow h_made h_comes h_backs h_fresh cy c_thrown c_nodeS c_nodeD c_pairE c_pairO c_bit c_lag c_lagSum c_row c_dealt f5) H → va_D A (w_X12_differs h0 h_row h_kept h_isKept h_aside h_eight h_rows h_scales h_dealt h_bytes h_heardRow h_made h_comes h_backs h_fresh cy c_thrown c_nodeS c_nodeD c_pairE c_pairO c_bit c_lag c_lagSum c_row c_dealt f5) → va_S A s.heap H locs → lv_has ls 14 [(0, .ref h0), (1, .int v1), (2, .int x44), (4, .int x12), (5, .int x20)] → W p l e { frames := 2, cells := 0, slots := 0, locals := 49 } s m av below meth c H locs 0 0 Q0 (F0 m 273 ls [.int x48])) hw ?_ ?_ <;> clear hw
                · clear hP hD hS hl; clear H locs ls; intro x48 hw H locs ls hP hD hS hl
                  refine lv_istore_n (lv' := [(3, .int x48), (0, .ref h0), (1, .int v1), (2, .int x44), (4, .int x12), (5, .int x20)]) hx hb dX12_differs_273 rfl hl (by decide) rfl ?_; clear hl; clear ls; intro ls hl
                  refine lv_iinc (v := x20 + 1) (lv' := [(5, .int (x20 + 1)), (3, .int x48), (0, .ref h0), (1, .int v1), (2, .int x44), (4, .int x12)]) hx hb dX12_differs_274 hl (k := 5) rfl rfl (by decide) rfl ?_; clear hl; clear ls; intro ls hl
                  refine lv_goto (tgt := 100) hx hb dX12_differs_277 (by decide) ?_
                  exact ih19 (x20 + 1) x48 x44 hw H locs ls hP hD hS (lv_sub hl [0, 5, 1, 4, 2, 3] rfl)
                · intro j50 hw
                  refine lv_icmp_le (tgt := 272) hx hb dX12_differs_264 (by decide) (fun c51 => ?_) (fun c51 => ?_)
                  · replace hw := hw.1 c51; clear c51
                    refine lv_iload_n hx hb dX12_differs_272 rfl (lv_at hl 0 rfl) ?_
                    exact j50 x45 hw H locs ls hP hD hS (lv_sub hl [1, 2, 3, 4, 5] rfl)
                  · replace hw := hw.2 c51; clear c51
                    refine lv_iload hx hb dX12_differs_267 (lv_at hl 6 rfl) ?_
                    refine lv_goto (tgt := 273) hx hb dX12_differs_269 (by decide) ?_
                    exact j50 r43 hw H locs ls hP hD hS (lv_sub hl [1, 2, 3, 4, 5] rfl)
              · intro j47 hw
                refine lv_icmp_le (tgt := 259) hx hb dX12_differs_251 (by decide) (fun c52 => ?_) (fun c52 => ?_)
                · replace hw := hw.1 c52; clear c52
                  refine lv_iload_n hx hb dX12_differs_259 rfl (lv_at hl 4 rfl) ?_
                  exact j47 x21 hw H locs ls hP hD hS (lv_sub hl [2, 3, 0, 5, 6, 1] rfl)
                · replace hw := hw.2 c52; clear c52
                  refine lv_iload hx hb dX12_differs_254 (lv_at hl 7 rfl) ?_
                  refine lv_goto (tgt := 260) hx hb dX12_differs_256 (by decide) ?_
                  exact j47 r38 hw H locs ls hP hD hS (lv_sub hl [2, 3, 0, 5, 6, 1] rfl)
            · intro j42 hw
              refine lv_if_eq (tgt := 232) hx hb dX12_differs_221 (by decide) (fun c53 => ?_) (fun c53 => ?_)
              · replace hw := hw.1 c53; clear c53
                refine lv_iload hx hb dX12_differs_232 (lv_at hl 10 rfl) ?_
                exact j42 x29 hw H locs ls hP hD hS (lv_sub hl [2, 3, 4, 5, 6, 7, 0] rfl)
              · replace hw := hw.2 c53; clear c53
                refine lv_iload hx hb dX12_differs_224 (lv_at hl 1 rfl) ?_
                refine lv_iload hx hb dX12_differs_226 (lv_at hl 10 rfl) ?_
                refine lv_isub hx hb dX12_differs_228 ?_
                refine lv_goto (tgt := 234) hx hb dX12_differs_229 (by decide) ?_
                exact j42 (x34 - x29) hw H locs ls hP hD hS (lv_sub hl [2, 3, 4, 5, 6, 7, 0] rfl)
          · intro j36 hw
            refine lv_if_eq (tgt := 185) hx hb dX12_differs_170 (by decide) (fun c54 => ?_) (fun c54 => ?_)
            · replace hw := hw.1 c54; clear c54
              refine lv_iload hx hb dX12_differs_185 (lv_at hl 9 rfl) ?_
              exact j36 x27 hw H locs ls hP hD hS (lv_sub hl [1, 2, 3, 4, 5, 6, 7, 8, 10, 0] rfl)
            · replace hw := hw.2 c54; clear c54
              refine lv_iload hx hb dX12_differs_173 (lv_at hl 9 rfl) ?_
              refine lv_iload hx hb dX12_differs_175 (lv_at hl 10 rfl) ?_
              refine lv_iconst (v := 1) hx hb dX12_differs_177 (by decide) ?_
              refine lv_iadd hx hb dX12_differs_178 ?_
              refine lv_iconst (v := 1) hx hb dX12_differs_179 (by decide) ?_
              refine lv_ishr hx hb dX12_differs_180 ?_
              refine lv_iadd hx hb dX12_differs_181 ?_
              refine lv_goto (tgt := 187) hx hb dX12_differs_182 (by decide) ?_
              exact j36 (x27 + ((x29 + (1 : Int32)) >>> ((1 : Int32) &&& 31))) hw H locs ls hP hD hS (lv_sub hl [1, 2, 3, 4, 5, 6, 7, 8, 10, 0] rfl)
        · intro j33 hw
          refine lv_icmp_ne (tgt := 165) hx hb dX12_differs_158 (by decide) (fun c55 => ?_) (fun c55 => ?_)
          · replace hw := hw.2 c55; clear c55
            refine lv_iconst (v := 0) hx hb dX12_differs_165 (by decide) ?_
            exact j33 (0 : Int32) hw H locs ls hP hD hS (lv_sub hl [8, 9, 7, 6, 5, 4, 3, 2, 1, 0] rfl)
          · replace hw := hw.1 c55; clear c55
            refine lv_iconst (v := 1) hx hb dX12_differs_161 (by decide) ?_
            refine lv_goto (tgt := 166) hx hb dX12_differs_162 (by decide) ?_
            exact j33 (1 : Int32) hw H locs ls hP hD hS (lv_sub hl [8, 9, 7, 6, 5, 4, 3, 2, 1, 0] rfl)
  · replace hw := hw.2 c6; clear c6
    refine lv_aload_n hx hb dX12_differs_14 rfl (lv_at hl 3 rfl) ?_
    refine va_get (D := (dC, dI)) (ci := 12) (v := .ref h_row) (C := RX12) (T := TX12) (N := 22) hx hb hts inX12 hown hK hP 0 rfl rfl 1 (by decide) (hts _ (List.mem_cons_of_mem _ mw_169)) (fun _ h9 => h9) rfl dX12_differs_15 ?_
    refine lv_sipush (v := 621) hx hb dX12_differs_18 (by decide) ?_
    refine lv_iload hx hb dX12_differs_21 (lv_at hl 0 rfl) ?_
    refine lv_iconst (v := 4) hx hb dX12_differs_23 (by decide) ?_
    refine lv_idiv hx hb dX12_differs_24 (by decide) ?_
    refine lv_topi (fun x56 e_x56 => ?_)
    replace hw := hw x56 e_x56
    clear e_x56
    refine lv_iadd hx hb dX12_differs_25 ?_
    obtain ⟨h57, hw⟩ := hw
    refine xiald (k := ((621 : Int32) + x56).toNatClampNeg) hx hb hK hP 1 0 rfl rfl h57 rfl dX12_differs_26 ?_
    refine lv_topi (fun x58 e_x58 => ?_)
    replace hw := hw x58 e_x58
    clear e_x58
    refine lv_istore (lv' := [(5, .int x58), (4, .int x4), (3, .int (0 : Int32)), (2, .int (0 : Int32)), (0, .ref h0), (1, .int v1)]) hx hb dX12_differs_27 hl (by decide) rfl ?_; clear hl; clear ls; intro ls hl
    refine lv_aload_n hx hb dX12_differs_29 rfl (lv_at hl 4 rfl) ?_
    refine va_get (D := (dC, dI)) (ci := 12) (v := .ref h_dealt) (C := RX12) (T := TX12) (N := 22) hx hb hts inX12 hown hK hP 0 rfl rfl 12 (by decide) (hts _ (List.mem_cons_of_mem _ mw_177)) (fun _ h9 => h9) rfl dX12_differs_30 ?_
    refine lv_iload hx hb dX12_differs_33 (lv_at hl 1 rfl) ?_
    refine lv_iconst (v := 4) hx hb dX12_differs_35 (by decide) ?_
    refine lv_idiv hx hb dX12_differs_36 (by decide) ?_
    refine lv_topi (fun x59 e_x59 => ?_)
    replace hw := hw x59 e_x59
    clear e_x59
    obtain ⟨h60, hw⟩ := hw
    refine xiald (k := x59.toNatClampNeg) hx hb hK hP 2 0 rfl rfl h60 rfl dX12_differs_37 ?_
    refine lv_topi (fun x61 e_x61 => ?_)
    replace hw := hw x61 e_x61
    clear e_x61
    refine lv_istore (lv' := [(6, .int x61), (5, .int x58), (4, .int x4), (3, .int (0 : Int32)), (2, .int (0 : Int32)), (0, .ref h0), (1, .int v1)]) hx hb dX12_differs_38 hl (by decide) rfl ?_; clear hl; clear ls; intro ls hl
    refine lv_aload_n hx hb dX12_differs_40 rfl (lv_at hl 5 rfl) ?_
    refine va_get (D := (dC, dI)) (ci := 12) (v := .ref h_backs) (C := RX12) (T := TX12) (N := 22) hx hb hts inX12 hown hK hP 0 rfl rfl 20 (by decide) (hts _ (List.mem_cons_of_mem _ mw_182)) (fun _ h9 => h9) rfl dX12_differs_41 ?_
    refine lv_iload hx hb dX12_differs_44 (lv_at hl 2 rfl) ?_
    refine lv_iload hx hb dX12_differs_46 (lv_at hl 0 rfl) ?_
    refine jn1 (Gg := fun (x62 : Int32) => ∀ (H : Heap) (locs : List Loc) (ls : Array Slot), va_P (dC, dI) vwCl (w_X12_differs h0 h_row h_kept h_isKept h_aside h_eight h_rows h_scales h_dealt h_bytes h_heardRow h_made h_comes h_backs h_fresh cy c_thrown c_nodeS c_nodeD c_pairE c_pairO c_bit c_lag c_lagSum c_row c_dealt f5) H → va_D A (w_X12_differs h0 h_row h_kept h_isKept h_aside h_eight h_rows h_scales h_dealt h_bytes h_heardRow h_made h_comes h_backs h_fresh cy c_thrown c_nodeS c_nodeD c_pairE c_pairO c_bit c_lag c_lagSum c_row c_dealt f5) → va_S A s.heap H locs → lv_has ls 14 [(0, .ref h0), (1, .int v1), (2, .int (0 : Int32)), (3, .int (0 : Int32)), (4, .int x4)] → W p l e { frames := 2, cells := 0, slots := 0, locals := 49 } s m av below meth c H locs 0 0 Q0 (F0 m 80 ls [.int x62, .int x4, .ref h_backs])) hw ?_ ?_ <;> clear hw
    · clear hP hD hS hl; clear H locs ls; intro x62 hw H locs ls hP hD hS hl
      obtain ⟨h65, hw⟩ := hw
      refine xiast (k := x4.toNatClampNeg) hx hb hK hP hD hS 3 0 rfl rfl h65 rfl dX12_differs_80 ?_; clear hP hD hS; clear H locs; intro f66 e_f66 H locs hP hD hS
      replace hw := hw f66 e_f66
      clear e_f66
      replace hP : va_P (dC, dI) vwCl (w_X12_differs h0 h_row h_kept h_isKept h_aside h_eight h_rows h_scales h_dealt h_bytes h_heardRow h_made h_comes h_backs h_fresh cy c_thrown c_nodeS c_nodeD c_pairE c_pairO c_bit c_lag c_lagSum c_row c_dealt f66) H := hP
      replace hD : va_D A (w_X12_differs h0 h_row h_kept h_isKept h_aside h_eight h_rows h_scales h_dealt h_bytes h_heardRow h_made h_comes h_backs h_fresh cy c_thrown c_nodeS c_nodeD c_pairE c_pairO c_bit c_lag c_lagSum c_row c_dealt f66) := hD
      refine lv_iinc (v := x4 + 1) (lv' := [(4, .int (x4 + 1)), (0, .ref h0), (1, .int v1), (2, .int (0 : Int32)), (3, .int (0 : Int32))]) hx hb dX12_differs_81 hl (k := 4) rfl rfl (by decide) rfl ?_; clear hl; clear ls; intro ls hl
      refine lv_goto (tgt := 7) hx hb dX12_differs_84 (by decide) ?_
      exact ih3 (x4 + 1) f66 hw H locs ls hP hD hS (lv_sub hl [0, 4, 3, 1, 2] rfl)
    · intro j64 hw
      refine lv_if_ne (tgt := 55) hx hb dX12_differs_48 (by decide) (fun c67 => ?_) (fun c67 => ?_)
      · replace hw := hw.2 c67; clear c67
        refine lv_aload_n hx hb dX12_differs_55 rfl (lv_at hl 5 rfl) ?_
        refine va_get (D := (dC, dI)) (ci := 12) (v := .ref h_row) (C := RX12) (T := TX12) (N := 22) hx hb hts inX12 hown hK hP 0 rfl rfl 1 (by decide) (hts _ (List.mem_cons_of_mem _ mw_169)) (fun _ h9 => h9) rfl dX12_differs_56 ?_
        refine lv_sipush (v := 557) hx hb dX12_differs_59 (by decide) ?_
        refine lv_iload hx hb dX12_differs_62 (lv_at hl 2 rfl) ?_
        refine lv_iadd hx hb dX12_differs_64 ?_
        obtain ⟨h68, hw⟩ := hw
        refine xiald (k := ((557 : Int32) + x4).toNatClampNeg) hx hb hK hP 1 0 rfl rfl h68 rfl dX12_differs_65 ?_
        refine lv_iload hx hb dX12_differs_66 (lv_at hl 1 rfl) ?_
        refine lv_iload hx hb dX12_differs_68 (lv_at hl 0 rfl) ?_
        have hPc := pSub (ws' := (w_X12_quant cy)) hP [] rfl
        have hDc := dSub (ws' := (w_X12_quant cy)) hD [] (by decide) rfl
        have hFc := va_free (wc := (w_X12_quant cy)) hD hS hA [] rfl
        refine va_calli (va_runS (As := [.int (c_row ((557 : Int32) + x4).toNatClampNeg), .int x58, .int x61]) (rest := [.int x4, .ref h_backs]) ⟨hx, hb, hml, hown, hts⟩ (c_X12_quant l dC dI cy  H.size (c_row ((557 : Int32) + x4).toNatClampNeg) x58 x61 _ hw) (va_cwS 3 hts (goodS mw_671 mw_669 mw_670 mw_5) rfl rfl rfl (by decide +kernel) ⟨Nat.le_of_ble_eq_true rfl, Nat.le_of_ble_eq_true rfl⟩) ⟨PX_blind, PX_pre hPc hK hDc hG⟩ rfl rfl hl.1 rfl (lv_room (Nat.le_of_ble_eq_true rfl)) dX12_differs_70 ⟨Nat.zero_le _, Nat.zero_le _⟩) hS (fun q _ h => hFc q h) hFc ?_; clear hw hS; intro r69 _ t H1 locs1 ht hvm hw hB hz1 hk1 hS
        obtain ⟨hP1, -, -⟩ := hB
        rw [ht] at hP1
        replace hP := jC0 hP hD [] [0, 1, 2, 3] rfl hk1 hP1 (w_X12_differs h0 h_row h_kept h_isKept h_aside h_eight h_rows h_scales h_dealt h_bytes h_heardRow h_made h_comes h_backs h_fresh cy c_thrown c_nodeS c_nodeD c_pairE c_pairO c_bit c_lag c_lagSum c_row c_dealt f5) rfl rfl rfl 4 rfl (by decide +kernel); clear hD; obtain ⟨hP, hD⟩ := hP
        replace hP : va_P (dC, dI) vwCl (w_X12_differs h0 h_row h_kept h_isKept h_aside h_eight h_rows h_scales h_dealt h_bytes h_heardRow h_made h_comes h_backs h_fresh cy c_thrown c_nodeS c_nodeD c_pairE c_pairO c_bit c_lag c_lagSum c_row c_dealt f5) H1 := hP
        replace hD : va_D A (w_X12_differs h0 h_row h_kept h_isKept h_aside h_eight h_rows h_scales h_dealt h_bytes h_heardRow h_made h_comes h_backs h_fresh cy c_thrown c_nodeS c_nodeD c_pairE c_pairO c_bit c_lag c_lagSum c_row c_dealt f5) := hD
        clear hPc hDc hFc hP1 hk1 hz1 hvm ht; clear t; clear H locs; obtain ⟨H, hH⟩ : ∃ H, H = H1 := ⟨_, rfl⟩; obtain ⟨locs, hlo⟩ : ∃ L, L = locs1 := ⟨_, rfl⟩; subst hH; subst hlo
        refine W.widen (k := 0) (n := 0) (Nat.le_refl 0) (Nat.le_refl 0) ?_
        refine lv_iload hx hb dX12_differs_73 (lv_at hl 1 rfl) ?_
        refine lv_iload hx hb dX12_differs_75 (lv_at hl 0 rfl) ?_
        have hPc := pSub (ws' := (w_X12_unquant cy)) hP [] rfl
        have hDc := dSub (ws' := (w_X12_unquant cy)) hD [] (by decide) rfl
        have hFc := va_free (wc := (w_X12_unquant cy)) hD hS hA [] rfl
        refine va_calli (va_runS (As := [.int r69, .int x58, .int x61]) (rest := [.int x4, .ref h_backs]) ⟨hx, hb, hml, hown, hts⟩ (c_X12_unquant l dC dI cy  H.size r69 x58 x61 _ hw) (va_cwS 3 hts (goodS mw_765 mw_763 mw_764 mw_5) rfl rfl rfl (by decide +kernel) ⟨Nat.le_of_ble_eq_true rfl, Nat.le_of_ble_eq_true rfl⟩) ⟨PX_blind, PX_pre hPc hK hDc hG⟩ rfl rfl hl.1 rfl (lv_room (Nat.le_of_ble_eq_true rfl)) dX12_differs_77 ⟨Nat.zero_le _, Nat.zero_le _⟩) hS (fun q _ h => hFc q h) hFc ?_; clear hw hS; intro r70 _ t H1 locs1 ht hvm hw hB hz1 hk1 hS
        obtain ⟨hP1, -, -⟩ := hB
        rw [ht] at hP1
        replace hP := jC0 hP hD [] [0, 1, 2, 3] rfl hk1 hP1 (w_X12_differs h0 h_row h_kept h_isKept h_aside h_eight h_rows h_scales h_dealt h_bytes h_heardRow h_made h_comes h_backs h_fresh cy c_thrown c_nodeS c_nodeD c_pairE c_pairO c_bit c_lag c_lagSum c_row c_dealt f5) rfl rfl rfl 4 rfl (by decide +kernel); clear hD; obtain ⟨hP, hD⟩ := hP
        replace hP : va_P (dC, dI) vwCl (w_X12_differs h0 h_row h_kept h_isKept h_aside h_eight h_rows h_scales h_dealt h_bytes h_heardRow h_made h_comes h_backs h_fresh cy c_thrown c_nodeS c_nodeD c_pairE c_pairO c_bit c_lag c_lagSum c_row c_dealt f5) H1 := hP
        replace hD : va_D A (w_X12_differs h0 h_row h_kept h_isKept h_aside h_eight h_rows h_scales h_dealt h_bytes h_heardRow h_made h_comes h_backs h_fresh cy c_thrown c_nodeS c_nodeD c_pairE c_pairO c_bit c_lag c_lagSum c_row c_dealt f5) := hD
        clear hPc hDc hFc hP1 hk1 hz1 hvm ht; clear t; clear H locs; obtain ⟨H, hH⟩ : ∃ H, H = H1 := ⟨_, rfl⟩; obtain ⟨locs, hlo⟩ : ∃ L, L = locs1 := ⟨_, rfl⟩; subst hH; subst hlo
        refine W.widen (k := 0) (n := 0) (Nat.le_refl 0) (Nat.le_refl 0) ?_
        exact j64 r70 hw H locs ls hP hD hS (lv_sub hl [5, 6, 4, 3, 2] rfl)
      · replace hw := hw.1 c67; clear c67
        refine lv_iconst (v := 0) hx hb dX12_differs_51 (by decide) ?_
        refine lv_goto (tgt := 80) hx hb dX12_differs_52 (by decide) ?_
        exact j64 (0 : Int32) hw H locs ls hP hD hS (lv_sub hl [5, 6, 4, 3, 2] rfl)
set_option maxHeartbeats 4000000 in
set_option maxRecDepth 100000 in
theorem c_X12_coded (l : Launch) (dC : Nat → ClassId) (dI : Nat → Nat → Nat) (cy : Nat → ClassId) (h0 h_row h_kept h_isKept h_aside h_eight h_rows h_scales h_dealt h_bytes h_heardRow h_made h_comes h_backs h_fresh : Nat) (sz : Nat) (v1 : Int32) (v2 : Int32) (v3 : Int32) (v4 : Int32) (c_thrown : Int32) (c_nodeS : Int32) (c_nodeD : Int32) (c_pairE : Int32) (c_pairO : Int32) (c_bit : Int32) (c_lag : Int32) (c_lagSum : Int32) (c_row : Nat → Int32) (c_aside : Nat → Int32) (c_scales : Nat → Int32) (c_dealt : Nat → Int32) (c_backs : Nat → Int32) (post : Int32 → Int32 → (Nat → Int32) → (Nat → Int32) → (Nat → Int32) → (Nat → Int32) → (Nat → Int32) → Prop) (hw : wp_X12_coded v1 v2 v3 v4 c_thrown c_row c_aside c_scales c_dealt c_backs post) : Met l yX12_coded wsX12_coded ({ frames := 3, cells := 0, slots := 0, locals := 82 }) (PX dC dI cy [.ref h0, .int v1, .int v2, .int v3, .int v4] sz (w_X12_coded h0 h_row h_kept h_isKept h_aside h_eight h_rows h_scales h_dealt h_bytes h_heardRow h_made h_comes h_backs h_fresh cy c_thrown c_nodeS c_nodeD c_pairE c_pairO c_bit c_lag c_lagSum c_row c_aside c_scales c_dealt c_backs)) (va_Qi (fun (r : Int32) (u : Int32 × (Nat → Int32) × (Nat → Int32) × (Nat → Int32) × (Nat → Int32) × (Nat → Int32)) => post r u.1 u.2.1 u.2.2.1 u.2.2.2.1 u.2.2.2.2.1 u.2.2.2.2.2) (QX dC dI cy (va_A (w_X12_coded h0 h_row h_kept h_isKept h_aside h_eight h_rows h_scales h_dealt h_bytes h_heardRow h_made h_comes h_backs h_fresh cy c_thrown c_nodeS c_nodeD c_pairE c_pairO c_bit c_lag c_lagSum c_row c_aside c_scales c_dealt c_backs) sz) (fun (u : Int32 × (Nat → Int32) × (Nat → Int32) × (Nat → Int32) × (Nat → Int32) × (Nat → Int32)) => w_X12_coded h0 h_row h_kept h_isKept h_aside h_eight h_rows h_scales h_dealt h_bytes h_heardRow h_made h_comes h_backs h_fresh cy u.1 c_nodeS c_nodeD c_pairE c_pairO c_bit c_lag c_lagSum u.2.1 u.2.2.1 u.2.2.2.1 u.2.2.2.2.1 u.2.2.2.2.2)) (va_A (w_X12_coded h0 h_row h_kept h_isKept h_aside h_eight h_rows h_scales h_dealt h_bytes h_heardRow h_made h_comes h_backs h_fresh cy c_thrown c_nodeS c_nodeD c_pairE c_pairO c_bit c_lag c_lagSum c_row c_aside c_scales c_dealt c_backs) sz)) 0 0 (va_A (w_X12_coded h0 h_row h_kept h_isKept h_aside h_eight h_rows h_scales h_dealt h_bytes h_heardRow h_made h_comes h_backs h_fresh cy c_thrown c_nodeS c_nodeD c_pairE c_pairO c_bit c_lag c_lagSum c_row c_aside c_scales c_dealt c_backs) sz) := by
  refine Met.ofW (cc := cX12_coded) (maxL := 7) (ret := (some .int)) (by decide) rfl ?_
  intro p e s m args below meth c s₁ B hml hv
  obtain ⟨rfl, hsz, hP, hK, hD0, hG⟩ := hv
  have hx := B.exec
  have hb := B.bytes
  have hr := B.returns
  have hts := atoms_spec (ws := wsX12_coded) B.pre
  have hown : s.vm.findClass RX12 = some m.cls := findClass_of_methodNamed B.named
  have hlocks := B.notSynchronized
  subst hsz
  have hD := hD0.self (sz := s.heap.size)
  generalize hAe : va_A (w_X12_coded h0 h_row h_kept h_isKept h_aside h_eight h_rows h_scales h_dealt h_bytes h_heardRow h_made h_comes h_backs h_fresh cy c_thrown c_nodeS c_nodeD c_pairE c_pairO c_bit c_lag c_lagSum c_row c_aside c_scales c_dealt c_backs) s.heap.size = A at hD ⊢
  have hA : ∀ q : Nat, s.heap.size ≤ q → A q := fun q h => by rw [← hAe]; exact Or.inr h
  have hS : va_S A s.heap s.heap [] := va_S.rf
  have hl := lv_entry ([.ref h0, .int v1, .int v2, .int v3, .int v4]) (n := 7) (Nat.le_of_ble_eq_true rfl)
  rw [lg_entry_eq]
  generalize (lg_sl ([.ref h0, .int v1, .int v2, .int v3, .int v4]) ++ List.replicate (7 - (lg_sl ([.ref h0, .int v1, .int v2, .int v3, .int v4])).length) Slot.unset).toArray = ls at hl ⊢
  replace hl : lv_has ls 7 [(0, .ref h0), (1, .int v1), (2, .int v2), (3, .int v3), (4, .int v4)] := hl
  have inX12 : ∀ w ∈ u_ws RX12 TX12 22, w ∈ wsX12_coded := fun w h => List.mem_cons_of_mem _ (inlX12 w h)
  clear hAe hD0 B
  unfold wp_X12_coded at hw
  generalize hQe : MQ below _ _ s _ _ _ = Q0
  generalize ([.ref h0, .int v1, .int v2, .int v3, .int v4] : List Value).toArray = av at *
  obtain ⟨H, hH⟩ : ∃ H, H = s.heap := ⟨_, rfl⟩
  obtain ⟨locs, hlo⟩ : ∃ L : List Loc, L = [] := ⟨_, rfl⟩
  replace hP : va_P (dC, dI) vwCl (w_X12_coded h0 h_row h_kept h_isKept h_aside h_eight h_rows h_scales h_dealt h_bytes h_heardRow h_made h_comes h_backs h_fresh cy c_thrown c_nodeS c_nodeD c_pairE c_pairO c_bit c_lag c_lagSum c_row c_aside c_scales c_dealt c_backs) H := by rw [hH]; exact hP
  replace hS : va_S A s.heap H locs := by rw [hH, hlo]; exact hS
  suffices hgo : W p l e ({ frames := 3, cells := 0, slots := 0, locals := 82 }) s m av below meth c H locs 0 0 Q0 (F0 m 0 ls []) by rw [hH, hlo] at hgo; exact hgo
  clear hH hlo
  refine lv_aload_n hx hb dX12_coded_0 rfl (lv_at hl 0 rfl) ?_
  refine lv_iconst (v := 0) hx hb dX12_coded_1 (by decide) ?_
  refine va_put (D := (dC, dI)) (ci := 12) (v := .int (0 : Int32)) (ty := .int) (C := RX12) (T := TX12) (N := 22) hx hb hts inX12 tyX12 tyX12_ok nmX12 hown hK hP hD hS 0 rfl rfl 0 (by decide) (hts _ (List.mem_cons_of_mem _ mw_200)) (fun _ h9 => h9) rfl (by decide +kernel) rfl rfl (Nat.le_of_ble_eq_true rfl) dX12_coded_2 ?_; clear hP hD hS; clear H locs; intro H locs hP hD hS
  replace hP : va_P (dC, dI) vwCl (w_X12_coded h0 h_row h_kept h_isKept h_aside h_eight h_rows h_scales h_dealt h_bytes h_heardRow h_made h_comes h_backs h_fresh cy (0 : Int32) c_nodeS c_nodeD c_pairE c_pairO c_bit c_lag c_lagSum c_row c_aside c_scales c_dealt c_backs) H := hP
  replace hD : va_D A (w_X12_coded h0 h_row h_kept h_isKept h_aside h_eight h_rows h_scales h_dealt h_bytes h_heardRow h_made h_comes h_backs h_fresh cy (0 : Int32) c_nodeS c_nodeD c_pairE c_pairO c_bit c_lag c_lagSum c_row c_aside c_scales c_dealt c_backs) := hD
  refine lv_aload_n hx hb dX12_coded_5 rfl (lv_at hl 0 rfl) ?_
  refine lv_iload_n hx hb dX12_coded_6 rfl (lv_at hl 1 rfl) ?_
  refine lv_iload_n hx hb dX12_coded_7 rfl (lv_at hl 2 rfl) ?_
  have hPc := pSub (ws' := (w_X12_canDeal h0 h_row h_kept h_isKept h_aside h_eight h_rows h_scales h_dealt h_bytes h_heardRow h_made h_comes h_backs h_fresh cy (0 : Int32) c_nodeS c_nodeD c_pairE c_pairO c_bit c_lag c_lagSum c_row)) hP [0, 1] rfl
  have hDc := dSub (ws' := (w_X12_canDeal h0 h_row h_kept h_isKept h_aside h_eight h_rows h_scales h_dealt h_bytes h_heardRow h_made h_comes h_backs h_fresh cy (0 : Int32) c_nodeS c_nodeD c_pairE c_pairO c_bit c_lag c_lagSum c_row)) hD [0, 1] (by decide) rfl
  have hFc := va_free (wc := (w_X12_canDeal h0 h_row h_kept h_isKept h_aside h_eight h_rows h_scales h_dealt h_bytes h_heardRow h_made h_comes h_backs h_fresh cy (0 : Int32) c_nodeS c_nodeD c_pairE c_pairO c_bit c_lag c_lagSum c_row)) hD hS hA [0, 1] rfl
  refine va_calli (va_runV (As := [.int v1, .int v2]) (rest := []) ⟨hx, hb, hml, hown, hts⟩ (c_X12_canDeal l dC dI cy h0 h_row h_kept h_isKept h_aside h_eight h_rows h_scales h_dealt h_bytes h_heardRow h_made h_comes h_backs h_fresh H.size v1 v2 (0 : Int32) c_nodeS c_nodeD c_pairE c_pairO c_bit c_lag c_lagSum c_row _ hw) (cwV 2 hts (goodV mw_987 mw_984 mw_985 mw_986 mw_5) rfl rfl rfl (by decide +kernel) ⟨Nat.le_of_ble_eq_true rfl, Nat.le_of_ble_eq_true rfl⟩) ⟨PX_blind, va_recv hK hPc (ci := 12) (q0 := 0) rfl rfl, PX_pre hPc hK hDc hG⟩ rfl rfl hl.1 rfl (lv_room (Nat.le_of_ble_eq_true rfl)) dX12_coded_8 ⟨Nat.zero_le _, Nat.zero_le _⟩) hS (fun q _ h => hFc q h) hFc ?_; clear hw hS; intro r1 _ t H1 locs1 ht hvm hw hB hz1 hk1 hS
  obtain ⟨hP1, -, -⟩ := hB
  rw [ht] at hP1
  replace hP := jC0 hP hD [0, 1] [2, 3, 4, 5] rfl hk1 hP1 (w_X12_coded h0 h_row h_kept h_isKept h_aside h_eight h_rows h_scales h_dealt h_bytes h_heardRow h_made h_comes h_backs h_fresh cy (0 : Int32) c_nodeS c_nodeD c_pairE c_pairO c_bit c_lag c_lagSum c_row c_aside c_scales c_dealt c_backs) rfl rfl rfl 6 rfl (by decide +kernel); clear hD; obtain ⟨hP, hD⟩ := hP
  replace hP : va_P (dC, dI) vwCl (w_X12_coded h0 h_row h_kept h_isKept h_aside h_eight h_rows h_scales h_dealt h_bytes h_heardRow h_made h_comes h_backs h_fresh cy (0 : Int32) c_nodeS c_nodeD c_pairE c_pairO c_bit c_lag c_lagSum c_row c_aside c_scales c_dealt c_backs) H1 := hP
  replace hD : va_D A (w_X12_coded h0 h_row h_kept h_isKept h_aside h_eight h_rows h_scales h_dealt h_bytes h_heardRow h_made h_comes h_backs h_fresh cy (0 : Int32) c_nodeS c_nodeD c_pairE c_pairO c_bit c_lag c_lagSum c_row c_aside c_scales c_dealt c_backs) := hD
  clear hPc hDc hFc hP1 hk1 hz1 hvm ht; clear t; clear H locs; obtain ⟨H, hH⟩ : ∃ H, H = H1 := ⟨_, rfl⟩; obtain ⟨locs, hlo⟩ : ∃ L, L = locs1 := ⟨_, rfl⟩; subst hH; subst hlo
  refine W.widen (k := 0) (n := 0) (Nat.le_refl 0) (Nat.le_refl 0) ?_
  refine lv_if_eq (tgt := 37) hx hb dX12_coded_11 (by decide) (fun c2 => ?_) (fun c2 => ?_)
  · replace hw := hw.1 c2; clear c2
    refine lv_iconst (v := -1) hx hb dX12_coded_37 (by decide) ?_
    subst hQe
    exact W.iret (v := (-1 : Int32)) hx hb hr (fun t ht hW => ⟨⟨(-1 : Int32), ((0 : Int32), c_row, c_aside, c_scales, c_dealt, c_backs), rfl, hw, by rw [ht]; exact hP, va_K.moved hW.alike hK, hD⟩, hS.F ht⟩) hS.2.2 dX12_coded_38
  · replace hw := hw.2 c2; clear c2
    refine lv_iload_n hx hb dX12_coded_14 rfl (lv_at hl 3 rfl) ?_
    refine lv_i2l (v := v3.toInt64) hx hb dX12_coded_15 rfl ?_
    refine lv_lconst (v := 0) hx hb dX12_coded_16 (by decide) ?_
    refine lv_lconst (v := 1) hx hb dX12_coded_17 (by decide) ?_
    have hPc := pSub (ws' := (w_X12_in cy)) hP [] rfl
    have hDc := dSub (ws' := (w_X12_in cy)) hD [] (by decide) rfl
    have hFc := va_free (wc := (w_X12_in cy)) hD hS hA [] rfl
    refine va_calli (va_runS (As := [.long (v3.toInt64), .long (0 : Int64), .long (1 : Int64)]) (rest := []) ⟨hx, hb, hml, hown, hts⟩ (c_X12_in l dC dI cy  H.size (v3.toInt64) (0 : Int64) (1 : Int64) _ hw) (va_cwS 3 hts (goodS mw_207 mw_205 mw_206 mw_5) rfl rfl rfl (by decide +kernel) ⟨Nat.le_of_ble_eq_true rfl, Nat.le_of_ble_eq_true rfl⟩) ⟨PX_blind, PX_pre hPc hK hDc hG⟩ rfl rfl hl.1 rfl (lv_room (Nat.le_of_ble_eq_true rfl)) dX12_coded_18 ⟨Nat.zero_le _, Nat.zero_le _⟩) hS (fun q _ h => hFc q h) hFc ?_; clear hw hS; intro r3 _ t H1 locs1 ht hvm hw hB hz1 hk1 hS
    obtain ⟨hP1, -, -⟩ := hB
    rw [ht] at hP1
    replace hP := jC0 hP hD [] [0, 1, 2, 3, 4, 5] rfl hk1 hP1 (w_X12_coded h0 h_row h_kept h_isKept h_aside h_eight h_rows h_scales h_dealt h_bytes h_heardRow h_made h_comes h_backs h_fresh cy (0 : Int32) c_nodeS c_nodeD c_pairE c_pairO c_bit c_lag c_lagSum c_row c_aside c_scales c_dealt c_backs) rfl rfl rfl 6 rfl (by decide +kernel); clear hD; obtain ⟨hP, hD⟩ := hP
    replace hP : va_P (dC, dI) vwCl (w_X12_coded h0 h_row h_kept h_isKept h_aside h_eight h_rows h_scales h_dealt h_bytes h_heardRow h_made h_comes h_backs h_fresh cy (0 : Int32) c_nodeS c_nodeD c_pairE c_pairO c_bit c_lag c_lagSum c_row c_aside c_scales c_dealt c_backs) H1 := hP
    replace hD : va_D A (w_X12_coded h0 h_row h_kept h_isKept h_aside h_eight h_rows h_scales h_dealt h_bytes h_heardRow h_made h_comes h_backs h_fresh cy (0 : Int32) c_nodeS c_nodeD c_pairE c_pairO c_bit c_lag c_lagSum c_row c_aside c_scales c_dealt c_backs) := hD
    clear hPc hDc hFc hP1 hk1 hz1 hvm ht; clear t; clear H locs; obtain ⟨H, hH⟩ : ∃ H, H = H1 := ⟨_, rfl⟩; obtain ⟨locs, hlo⟩ : ∃ L, L = locs1 := ⟨_, rfl⟩; subst hH; subst hlo
    refine W.widen (k := 0) (n := 0) (Nat.le_refl 0) (Nat.le_refl 0) ?_
    refine lv_if_eq (tgt := 37) hx hb dX12_coded_21 (by decide) (fun c4 => ?_) (fun c4 => ?_)
    · replace hw := hw.1 c4; clear c4
      refine lv_iconst (v := -1) hx hb dX12_coded_37 (by decide) ?_
      subst hQe
      exact W.iret (v := (-1 : Int32)) hx hb hr (fun t ht hW => ⟨⟨(-1 : Int32), ((0 : Int32), c_row, c_aside, c_scales, c_dealt, c_backs), rfl, hw, by rw [ht]; exact hP, va_K.moved hW.alike hK, hD⟩, hS.F ht⟩) hS.2.2 dX12_coded_38
    · replace hw := hw.2 c4; clear c4
      refine lv_iload hx hb dX12_coded_24 (lv_at hl 4 rfl) ?_
      refine lv_i2l (v := v4.toInt64) hx hb dX12_coded_26 rfl ?_
      refine lv_lconst (v := 0) hx hb dX12_coded_27 (by decide) ?_
      refine lv_ldc2 (v := 3) hx hb hown (hts _ (List.mem_cons_of_mem _ mw_931)) dX12_coded_28 ?_
      have hPc := pSub (ws' := (w_X12_in cy)) hP [] rfl
      have hDc := dSub (ws' := (w_X12_in cy)) hD [] (by decide) rfl
      have hFc := va_free (wc := (w_X12_in cy)) hD hS hA [] rfl
      refine va_calli (va_runS (As := [.long (v4.toInt64), .long (0 : Int64), .long (3 : Int64)]) (rest := []) ⟨hx, hb, hml, hown, hts⟩ (c_X12_in l dC dI cy  H.size (v4.toInt64) (0 : Int64) (3 : Int64) _ hw) (va_cwS 3 hts (goodS mw_207 mw_205 mw_206 mw_5) rfl rfl rfl (by decide +kernel) ⟨Nat.le_of_ble_eq_true rfl, Nat.le_of_ble_eq_true rfl⟩) ⟨PX_blind, PX_pre hPc hK hDc hG⟩ rfl rfl hl.1 rfl (lv_room (Nat.le_of_ble_eq_true rfl)) dX12_coded_31 ⟨Nat.zero_le _, Nat.zero_le _⟩) hS (fun q _ h => hFc q h) hFc ?_; clear hw hS; intro r5 _ t H1 locs1 ht hvm hw hB hz1 hk1 hS
      obtain ⟨hP1, -, -⟩ := hB
      rw [ht] at hP1
      replace hP := jC0 hP hD [] [0, 1, 2, 3, 4, 5] rfl hk1 hP1 (w_X12_coded h0 h_row h_kept h_isKept h_aside h_eight h_rows h_scales h_dealt h_bytes h_heardRow h_made h_comes h_backs h_fresh cy (0 : Int32) c_nodeS c_nodeD c_pairE c_pairO c_bit c_lag c_lagSum c_row c_aside c_scales c_dealt c_backs) rfl rfl rfl 6 rfl (by decide +kernel); clear hD; obtain ⟨hP, hD⟩ := hP
      replace hP : va_P (dC, dI) vwCl (w_X12_coded h0 h_row h_kept h_isKept h_aside h_eight h_rows h_scales h_dealt h_bytes h_heardRow h_made h_comes h_backs h_fresh cy (0 : Int32) c_nodeS c_nodeD c_pairE c_pairO c_bit c_lag c_lagSum c_row c_aside c_scales c_dealt c_backs) H1 := hP
      replace hD : va_D A (w_X12_coded h0 h_row h_kept h_isKept h_aside h_eight h_rows h_scales h_dealt h_bytes h_heardRow h_made h_comes h_backs h_fresh cy (0 : Int32) c_nodeS c_nodeD c_pairE c_pairO c_bit c_lag c_lagSum c_row c_aside c_scales c_dealt c_backs) := hD
      clear hPc hDc hFc hP1 hk1 hz1 hvm ht; clear t; clear H locs; obtain ⟨H, hH⟩ : ∃ H, H = H1 := ⟨_, rfl⟩; obtain ⟨locs, hlo⟩ : ∃ L, L = locs1 := ⟨_, rfl⟩; subst hH; subst hlo
      refine W.widen (k := 0) (n := 0) (Nat.le_refl 0) (Nat.le_refl 0) ?_
      refine lv_if_ne (tgt := 39) hx hb dX12_coded_34 (by decide) (fun c6 => ?_) (fun c6 => ?_)
      · replace hw := hw.2 c6; clear c6
        refine lv_aload_n hx hb dX12_coded_39 rfl (lv_at hl 0 rfl) ?_
        refine va_get (D := (dC, dI)) (ci := 12) (v := .ref h_row) (C := RX12) (T := TX12) (N := 22) hx hb hts inX12 hown hK hP 0 rfl rfl 1 (by decide) (hts _ (List.mem_cons_of_mem _ mw_169)) (fun _ h9 => h9) rfl dX12_coded_40 ?_
        refine lv_iconst (v := 0) hx hb dX12_coded_43 (by decide) ?_
        refine lv_aload_n hx hb dX12_coded_44 rfl (lv_at hl 0 rfl) ?_
        refine va_get (D := (dC, dI)) (ci := 12) (v := .ref h_aside) (C := RX12) (T := TX12) (N := 22) hx hb hts inX12 hown hK hP 0 rfl rfl 4 (by decide) (hts _ (List.mem_cons_of_mem _ mw_173)) (fun _ h9 => h9) rfl dX12_coded_45 ?_
        refine lv_iconst (v := 0) hx hb dX12_coded_48 (by decide) ?_
        have hPc := pSub (ws' := (w_X12_copy h_row h_aside cy 13385 13385 c_row c_aside)) hP [1, 2] rfl
        have hDc := dSub (ws' := (w_X12_copy h_row h_aside cy 13385 13385 c_row c_aside)) hD [1, 2] (by decide) rfl
        have hFc := va_free (wc := (w_X12_copy h_row h_aside cy 13385 13385 c_row c_aside)) hD hS hA [1, 2] rfl
        refine va_callv (va_runS (As := [.ref h_row, .int (0 : Int32), .ref h_aside, .int (0 : Int32)]) (rest := []) ⟨hx, hb, hml, hown, hts⟩ (c_X12_copy l dC dI cy h_row h_aside 13385 13385 H.size (0 : Int32) (0 : Int32) c_row c_aside _ hw) (va_cwS 4 hts (goodS mw_887 mw_885 mw_886 mw_5) rfl rfl rfl (by decide +kernel) ⟨Nat.le_of_ble_eq_true rfl, Nat.le_of_ble_eq_true rfl⟩) ⟨PX_blind, PX_pre hPc hK hDc hG⟩ rfl rfl hl.1 rfl (lv_room (Nat.le_of_ble_eq_true rfl)) dX12_coded_49 ⟨Nat.zero_le _, Nat.zero_le _⟩) hS (fun q _ h => hFc q h) hFc ?_; clear hw hS; intro f7 t H1 locs1 ht hvm hw hB hz1 hk1 hS
        obtain ⟨hP1, -, -⟩ := hB
        rw [ht] at hP1
        replace hP := jC0 hP hD [1, 2] [0, 3, 4, 5] rfl hk1 hP1 (w_X12_coded h0 h_row h_kept h_isKept h_aside h_eight h_rows h_scales h_dealt h_bytes h_heardRow h_made h_comes h_backs h_fresh cy (0 : Int32) c_nodeS c_nodeD c_pairE c_pairO c_bit c_lag c_lagSum c_row f7 c_scales c_dealt c_backs) rfl rfl rfl 6 rfl (by decide +kernel); clear hD; obtain ⟨hP, hD⟩ := hP
        replace hP : va_P (dC, dI) vwCl (w_X12_coded h0 h_row h_kept h_isKept h_aside h_eight h_rows h_scales h_dealt h_bytes h_heardRow h_made h_comes h_backs h_fresh cy (0 : Int32) c_nodeS c_nodeD c_pairE c_pairO c_bit c_lag c_lagSum c_row f7 c_scales c_dealt c_backs) H1 := hP
        replace hD : va_D A (w_X12_coded h0 h_row h_kept h_isKept h_aside h_eight h_rows h_scales h_dealt h_bytes h_heardRow h_made h_comes h_backs h_fresh cy (0 : Int32) c_nodeS c_nodeD c_pairE c_pairO c_bit c_lag c_lagSum c_row f7 c_scales c_dealt c_backs) := hD
        clear hPc hDc hFc hP1 hk1 hz1 hvm ht; clear t; clear H locs; obtain ⟨H, hH⟩ : ∃ H, H = H1 := ⟨_, rfl⟩; obtain ⟨locs, hlo⟩ : ∃ L, L = locs1 := ⟨_, rfl⟩; subst hH; subst hlo
        refine W.widen (k := 0) (n := 0) (Nat.le_refl 0) (Nat.le_refl 0) ?_
        refine lv_aload_n hx hb dX12_coded_52 rfl (lv_at hl 0 rfl) ?_
        refine va_get (D := (dC, dI)) (ci := 12) (v := .ref h_row) (C := RX12) (T := TX12) (N := 22) hx hb hts inX12 hown hK hP 0 rfl rfl 1 (by decide) (hts _ (List.mem_cons_of_mem _ mw_169)) (fun _ h9 => h9) rfl dX12_coded_53 ?_
        refine lv_bipush (v := 9) hx hb dX12_coded_56 (by decide) ?_
        refine lv_iload_n hx hb dX12_coded_58 rfl (lv_at hl 3 rfl) ?_
        refine xiast (k := 9) hx hb hK hP hD hS 1 0 rfl rfl (vpL 9 13385 rfl) (by decide) dX12_coded_59 ?_; clear hP hD hS; clear H locs; intro f9 e_f9 H locs hP hD hS
        replace hw := hw f9 e_f9
        clear e_f9
        replace hP : va_P (dC, dI) vwCl (w_X12_coded h0 h_row h_kept h_isKept h_aside h_eight h_rows h_scales h_dealt h_bytes h_heardRow h_made h_comes h_backs h_fresh cy (0 : Int32) c_nodeS c_nodeD c_pairE c_pairO c_bit c_lag c_lagSum f9 f7 c_scales c_dealt c_backs) H := hP
        replace hD : va_D A (w_X12_coded h0 h_row h_kept h_isKept h_aside h_eight h_rows h_scales h_dealt h_bytes h_heardRow h_made h_comes h_backs h_fresh cy (0 : Int32) c_nodeS c_nodeD c_pairE c_pairO c_bit c_lag c_lagSum f9 f7 c_scales c_dealt c_backs) := hD
        refine lv_aload_n hx hb dX12_coded_60 rfl (lv_at hl 0 rfl) ?_
        have hPc := pSub (ws' := (w_X12_layCoded h0 h_row h_kept h_isKept h_aside h_eight h_rows h_scales h_dealt h_bytes h_heardRow h_made h_comes h_backs h_fresh cy (0 : Int32) c_nodeS c_nodeD c_pairE c_pairO c_bit c_lag c_lagSum f9)) hP [0, 1] rfl
        have hDc := dSub (ws' := (w_X12_layCoded h0 h_row h_kept h_isKept h_aside h_eight h_rows h_scales h_dealt h_bytes h_heardRow h_made h_comes h_backs h_fresh cy (0 : Int32) c_nodeS c_nodeD c_pairE c_pairO c_bit c_lag c_lagSum f9)) hD [0, 1] (by decide) rfl
        have hFc := va_free (wc := (w_X12_layCoded h0 h_row h_kept h_isKept h_aside h_eight h_rows h_scales h_dealt h_bytes h_heardRow h_made h_comes h_backs h_fresh cy (0 : Int32) c_nodeS c_nodeD c_pairE c_pairO c_bit c_lag c_lagSum f9)) hD hS hA [0, 1] rfl
        refine va_callv (va_runV (As := []) (rest := []) ⟨hx, hb, hml, hown, hts⟩ (c_X12_layCoded l dC dI cy h0 h_row h_kept h_isKept h_aside h_eight h_rows h_scales h_dealt h_bytes h_heardRow h_made h_comes h_backs h_fresh H.size (0 : Int32) c_nodeS c_nodeD c_pairE c_pairO c_bit c_lag c_lagSum f9 _ hw) (cwV 0 hts (goodV mw_637 mw_634 mw_635 mw_636 mw_5) rfl rfl rfl (by decide +kernel) ⟨Nat.le_of_ble_eq_true rfl, Nat.le_of_ble_eq_true rfl⟩) ⟨PX_blind, va_recv hK hPc (ci := 12) (q0 := 0) rfl rfl, PX_pre hPc hK hDc hG⟩ rfl rfl hl.1 rfl (lv_room (Nat.le_of_ble_eq_true rfl)) dX12_coded_61 ⟨Nat.zero_le _, Nat.zero_le _⟩) hS (fun q _ h => hFc q h) hFc ?_; clear hw hS; intro f10 t H1 locs1 ht hvm hw hB hz1 hk1 hS
        obtain ⟨hP1, -, -⟩ := hB
        rw [ht] at hP1
        replace hP := jC0 hP hD [0, 1] [2, 3, 4, 5] rfl hk1 hP1 (w_X12_coded h0 h_row h_kept h_isKept h_aside h_eight h_rows h_scales h_dealt h_bytes h_heardRow h_made h_comes h_backs h_fresh cy (0 : Int32) c_nodeS c_nodeD c_pairE c_pairO c_bit c_lag c_lagSum f10 f7 c_scales c_dealt c_backs) rfl rfl rfl 6 rfl (by decide +kernel); clear hD; obtain ⟨hP, hD⟩ := hP
        replace hP : va_P (dC, dI) vwCl (w_X12_coded h0 h_row h_kept h_isKept h_aside h_eight h_rows h_scales h_dealt h_bytes h_heardRow h_made h_comes h_backs h_fresh cy (0 : Int32) c_nodeS c_nodeD c_pairE c_pairO c_bit c_lag c_lagSum f10 f7 c_scales c_dealt c_backs) H1 := hP
        replace hD : va_D A (w_X12_coded h0 h_row h_kept h_isKept h_aside h_eight h_rows h_scales h_dealt h_bytes h_heardRow h_made h_comes h_backs h_fresh cy (0 : Int32) c_nodeS c_nodeD c_pairE c_pairO c_bit c_lag c_lagSum f10 f7 c_scales c_dealt c_backs) := hD
        clear hPc hDc hFc hP1 hk1 hz1 hvm ht; clear t; clear H locs; obtain ⟨H, hH⟩ : ∃ H, H = H1 := ⟨_, rfl⟩; obtain ⟨locs, hlo⟩ : ∃ L, L = locs1 := ⟨_, rfl⟩; subst hH; subst hlo
        refine W.widen (k := 0) (n := 0) (Nat.le_refl 0) (Nat.le_refl 0) ?_
        refine lv_aload_n hx hb dX12_coded_64 rfl (lv_at hl 0 rfl) ?_
        have hPc := pSub (ws' := (w_X12_takeScales h0 h_row h_kept h_isKept h_aside h_eight h_rows h_scales h_dealt h_bytes h_heardRow h_made h_comes h_backs h_fresh cy (0 : Int32) c_nodeS c_nodeD c_pairE c_pairO c_bit c_lag c_lagSum f10 c_scales)) hP [0, 1, 3] rfl
        have hDc := dSub (ws' := (w_X12_takeScales h0 h_row h_kept h_isKept h_aside h_eight h_rows h_scales h_dealt h_bytes h_heardRow h_made h_comes h_backs h_fresh cy (0 : Int32) c_nodeS c_nodeD c_pairE c_pairO c_bit c_lag c_lagSum f10 c_scales)) hD [0, 1, 3] (by decide) rfl
        have hFc := va_free (wc := (w_X12_takeScales h0 h_row h_kept h_isKept h_aside h_eight h_rows h_scales h_dealt h_bytes h_heardRow h_made h_comes h_backs h_fresh cy (0 : Int32) c_nodeS c_nodeD c_pairE c_pairO c_bit c_lag c_lagSum f10 c_scales)) hD hS hA [0, 1, 3] rfl
        refine va_callv (va_runV (As := []) (rest := []) ⟨hx, hb, hml, hown, hts⟩ (c_X12_takeScales l dC dI cy h0 h_row h_kept h_isKept h_aside h_eight h_rows h_scales h_dealt h_bytes h_heardRow h_made h_comes h_backs h_fresh H.size (0 : Int32) c_nodeS c_nodeD c_pairE c_pairO c_bit c_lag c_lagSum f10 c_scales _ hw) (cwV 0 hts (goodV mw_954 mw_951 mw_952 mw_953 mw_5) rfl rfl rfl (by decide +kernel) ⟨Nat.le_of_ble_eq_true rfl, Nat.le_of_ble_eq_true rfl⟩) ⟨PX_blind, va_recv hK hPc (ci := 12) (q0 := 0) rfl rfl, PX_pre hPc hK hDc hG⟩ rfl rfl hl.1 rfl (lv_room (Nat.le_of_ble_eq_true rfl)) dX12_coded_65 ⟨Nat.zero_le _, Nat.zero_le _⟩) hS (fun q _ h => hFc q h) hFc ?_; clear hw hS; intro f11 t H1 locs1 ht hvm hw hB hz1 hk1 hS
        obtain ⟨hP1, -, -⟩ := hB
        rw [ht] at hP1
        replace hP := jC0 hP hD [0, 1, 3] [2, 4, 5] rfl hk1 hP1 (w_X12_coded h0 h_row h_kept h_isKept h_aside h_eight h_rows h_scales h_dealt h_bytes h_heardRow h_made h_comes h_backs h_fresh cy (0 : Int32) c_nodeS c_nodeD c_pairE c_pairO c_bit c_lag c_lagSum f10 f7 f11 c_dealt c_backs) rfl rfl rfl 6 rfl (by decide +kernel); clear hD; obtain ⟨hP, hD⟩ := hP
        replace hP : va_P (dC, dI) vwCl (w_X12_coded h0 h_row h_kept h_isKept h_aside h_eight h_rows h_scales h_dealt h_bytes h_heardRow h_made h_comes h_backs h_fresh cy (0 : Int32) c_nodeS c_nodeD c_pairE c_pairO c_bit c_lag c_lagSum f10 f7 f11 c_dealt c_backs) H1 := hP
        replace hD : va_D A (w_X12_coded h0 h_row h_kept h_isKept h_aside h_eight h_rows h_scales h_dealt h_bytes h_heardRow h_made h_comes h_backs h_fresh cy (0 : Int32) c_nodeS c_nodeD c_pairE c_pairO c_bit c_lag c_lagSum f10 f7 f11 c_dealt c_backs) := hD
        clear hPc hDc hFc hP1 hk1 hz1 hvm ht; clear t; clear H locs; obtain ⟨H, hH⟩ : ∃ H, H = H1 := ⟨_, rfl⟩; obtain ⟨locs, hlo⟩ : ∃ L, L = locs1 := ⟨_, rfl⟩; subst hH; subst hlo
        refine W.widen (k := 0) (n := 0) (Nat.le_refl 0) (Nat.le_refl 0) ?_
        refine lv_aload_n hx hb dX12_coded_68 rfl (lv_at hl 0 rfl) ?_
        refine lv_iload_n hx hb dX12_coded_69 rfl (lv_at hl 1 rfl) ?_
        refine lv_iload_n hx hb dX12_coded_70 rfl (lv_at hl 2 rfl) ?_
        have hPc := pSub (ws' := (w_X12_deal h0 h_row h_kept h_isKept h_aside h_eight h_rows h_scales h_dealt h_bytes h_heardRow h_made h_comes h_backs h_fresh cy (0 : Int32) c_nodeS c_nodeD c_pairE c_pairO c_bit c_lag c_lagSum c_dealt f11 f10)) hP [0, 4, 3, 1] rfl
        have hDc := dSub (ws' := (w_X12_deal h0 h_row h_kept h_isKept h_aside h_eight h_rows h_scales h_dealt h_bytes h_heardRow h_made h_comes h_backs h_fresh cy (0 : Int32) c_nodeS c_nodeD c_pairE c_pairO c_bit c_lag c_lagSum c_dealt f11 f10)) hD [0, 4, 3, 1] (by decide) rfl
        have hFc := va_free (wc := (w_X12_deal h0 h_row h_kept h_isKept h_aside h_eight h_rows h_scales h_dealt h_bytes h_heardRow h_made h_comes h_backs h_fresh cy (0 : Int32) c_nodeS c_nodeD c_pairE c_pairO c_bit c_lag c_lagSum c_dealt f11 f10)) hD hS hA [0, 4, 3, 1] rfl
        refine va_callv (va_runV (As := [.int v1, .int v2]) (rest := []) ⟨hx, hb, hml, hown, hts⟩ (c_X12_deal l dC dI cy h0 h_row h_kept h_isKept h_aside h_eight h_rows h_scales h_dealt h_bytes h_heardRow h_made h_comes h_backs h_fresh H.size v1 v2 (0 : Int32) c_nodeS c_nodeD c_pairE c_pairO c_bit c_lag c_lagSum c_dealt f11 f10 _ hw) (cwV 2 hts (goodV mw_664 mw_661 mw_662 mw_663 mw_5) rfl rfl rfl (by decide +kernel) ⟨Nat.le_of_ble_eq_true rfl, Nat.le_of_ble_eq_true rfl⟩) ⟨PX_blind, va_recv hK hPc (ci := 12) (q0 := 0) rfl rfl, PX_pre hPc hK hDc hG⟩ rfl rfl hl.1 rfl (lv_room (Nat.le_of_ble_eq_true rfl)) dX12_coded_71 ⟨Nat.zero_le _, Nat.zero_le _⟩) hS (fun q _ h => hFc q h) hFc ?_; clear hw hS; intro f12 t H1 locs1 ht hvm hw hB hz1 hk1 hS
        obtain ⟨hP1, -, -⟩ := hB
        rw [ht] at hP1
        replace hP := jC0 hP hD [0, 4, 3, 1] [2, 5] rfl hk1 hP1 (w_X12_coded h0 h_row h_kept h_isKept h_aside h_eight h_rows h_scales h_dealt h_bytes h_heardRow h_made h_comes h_backs h_fresh cy (0 : Int32) c_nodeS c_nodeD c_pairE c_pairO c_bit c_lag c_lagSum f10 f7 f11 f12 c_backs) rfl rfl rfl 6 rfl (by decide +kernel); clear hD; obtain ⟨hP, hD⟩ := hP
        replace hP : va_P (dC, dI) vwCl (w_X12_coded h0 h_row h_kept h_isKept h_aside h_eight h_rows h_scales h_dealt h_bytes h_heardRow h_made h_comes h_backs h_fresh cy (0 : Int32) c_nodeS c_nodeD c_pairE c_pairO c_bit c_lag c_lagSum f10 f7 f11 f12 c_backs) H1 := hP
        replace hD : va_D A (w_X12_coded h0 h_row h_kept h_isKept h_aside h_eight h_rows h_scales h_dealt h_bytes h_heardRow h_made h_comes h_backs h_fresh cy (0 : Int32) c_nodeS c_nodeD c_pairE c_pairO c_bit c_lag c_lagSum f10 f7 f11 f12 c_backs) := hD
        clear hPc hDc hFc hP1 hk1 hz1 hvm ht; clear t; clear H locs; obtain ⟨H, hH⟩ : ∃ H, H = H1 := ⟨_, rfl⟩; obtain ⟨locs, hlo⟩ : ∃ L, L = locs1 := ⟨_, rfl⟩; subst hH; subst hlo
        refine W.widen (k := 0) (n := 0) (Nat.le_refl 0) (Nat.le_refl 0) ?_
        refine lv_iconst (v := 0) hx hb dX12_coded_74 (by decide) ?_
        refine lv_istore (lv' := [(5, .int (0 : Int32)), (0, .ref h0), (1, .int v1), (2, .int v2), (3, .int v3), (4, .int v4)]) hx hb dX12_coded_75 hl (by decide) rfl ?_; clear hl; clear ls; intro ls hl
        refine lv_iconst (v := 0) hx hb dX12_coded_77 (by decide) ?_
        refine lv_istore (lv' := [(6, .int (0 : Int32)), (5, .int (0 : Int32)), (0, .ref h0), (1, .int v1), (2, .int v2), (3, .int v3), (4, .int v4)]) hx hb dX12_coded_78 hl (by decide) rfl ?_; clear hl; clear ls; intro ls hl
        obtain ⟨x13, e_x13⟩ : ∃ y : Int32, y = (0 : Int32) := ⟨_, rfl⟩
        replace hw := hw x13 e_x13
        replace hl : lv_has ls 7 [(6, .int x13), (5, .int (0 : Int32)), (0, .ref h0), (1, .int v1), (2, .int v2), (3, .int v3), (4, .int v4)] := by rw [e_x13]; exact hl
        clear e_x13
        obtain ⟨x14, e_x14⟩ : ∃ y : Int32, y = (0 : Int32) := ⟨_, rfl⟩
        replace hw := hw x14 e_x14
        replace hl : lv_has ls 7 [(6, .int x13), (5, .int x14), (0, .ref h0), (1, .int v1), (2, .int v2), (3, .int v3), (4, .int v4)] := by rw [e_x14]; exact hl
        clear e_x14
        replace hl := lv_sub (l' := [(6, .int x13), (5, .int x14), (0, .ref h0), (4, .int v4)]) hl [0, 1, 2, 6] rfl
        revert hl; revert hS; revert hD; revert hP; revert ls; revert locs; revert H
        revert hw; revert x14; revert x13
        refine Lz2_gr ?_; intro g15 ih16 x17 x18 hw
        intro H locs ls hP hD hS hl
        refine lv_iload hx hb dX12_coded_80 (lv_at hl 0 rfl) ?_
        refine lv_bipush (v := 16) hx hb dX12_coded_82 (by decide) ?_
        refine lv_icmp_ge (tgt := 105) hx hb dX12_coded_84 (by decide) (fun c19 => ?_) (fun c19 => ?_)
        · replace hw := hw.1 c19; clear c19
          clear ih16
          refine lv_iload hx hb dX12_coded_105 (lv_at hl 3 rfl) ?_
          refine jn2 (Gg := fun (x20 : Int32) (f21 : (Nat → Int32)) => ∀ (H : Heap) (locs : List Loc) (ls : Array Slot), va_P (dC, dI) vwCl (w_X12_coded h0 h_row h_kept h_isKept h_aside h_eight h_rows h_scales h_dealt h_bytes h_heardRow h_made h_comes h_backs h_fresh cy (0 : Int32) c_nodeS c_nodeD c_pairE c_pairO c_bit c_lag c_lagSum f10 f7 f11 f12 f21) H → va_D A (w_X12_coded h0 h_row h_kept h_isKept h_aside h_eight h_rows h_scales h_dealt h_bytes h_heardRow h_made h_comes h_backs h_fresh cy (0 : Int32) c_nodeS c_nodeD c_pairE c_pairO c_bit c_lag c_lagSum f10 f7 f11 f12 f21) → va_S A s.heap H locs → lv_has ls 7 [(0, .ref h0)] → W p l e { frames := 3, cells := 0, slots := 0, locals := 82 } s m av below meth c H locs 0 0 Q0 (F0 m 158 ls [.int x20])) hw ?_ ?_ <;> clear hw
          · clear hP hD hS hl; clear H locs ls; intro x20 f21 hw H locs ls hP hD hS hl
            refine lv_istore (lv' := [(6, .int x20), (0, .ref h0)]) hx hb dX12_coded_158 hl (by decide) rfl ?_; clear hl; clear ls; intro ls hl
            refine lv_aload_n hx hb dX12_coded_160 rfl (lv_at hl 1 rfl) ?_
            refine va_get (D := (dC, dI)) (ci := 12) (v := .ref h_aside) (C := RX12) (T := TX12) (N := 22) hx hb hts inX12 hown hK hP 0 rfl rfl 4 (by decide) (hts _ (List.mem_cons_of_mem _ mw_173)) (fun _ h9 => h9) rfl dX12_coded_161 ?_
            refine lv_iconst (v := 0) hx hb dX12_coded_164 (by decide) ?_
            refine lv_aload_n hx hb dX12_coded_165 rfl (lv_at hl 1 rfl) ?_
            refine va_get (D := (dC, dI)) (ci := 12) (v := .ref h_row) (C := RX12) (T := TX12) (N := 22) hx hb hts inX12 hown hK hP 0 rfl rfl 1 (by decide) (hts _ (List.mem_cons_of_mem _ mw_169)) (fun _ h9 => h9) rfl dX12_coded_166 ?_
            refine lv_iconst (v := 0) hx hb dX12_coded_169 (by decide) ?_
            have hPc := pSub (ws' := (w_X12_copy h_aside h_row cy 13385 13385 f7 f10)) hP [2, 1] rfl
            have hDc := dSub (ws' := (w_X12_copy h_aside h_row cy 13385 13385 f7 f10)) hD [2, 1] (by decide) rfl
            have hFc := va_free (wc := (w_X12_copy h_aside h_row cy 13385 13385 f7 f10)) hD hS hA [2, 1] rfl
            refine va_callv (va_runS (As := [.ref h_aside, .int (0 : Int32), .ref h_row, .int (0 : Int32)]) (rest := []) ⟨hx, hb, hml, hown, hts⟩ (c_X12_copy l dC dI cy h_aside h_row 13385 13385 H.size (0 : Int32) (0 : Int32) f7 f10 _ hw) (va_cwS 4 hts (goodS mw_887 mw_885 mw_886 mw_5) rfl rfl rfl (by decide +kernel) ⟨Nat.le_of_ble_eq_true rfl, Nat.le_of_ble_eq_true rfl⟩) ⟨PX_blind, PX_pre hPc hK hDc hG⟩ rfl rfl hl.1 rfl (lv_room (Nat.le_of_ble_eq_true rfl)) dX12_coded_170 ⟨Nat.zero_le _, Nat.zero_le _⟩) hS (fun q _ h => hFc q h) hFc ?_; clear hw hS; intro f24 t H1 locs1 ht hvm hw hB hz1 hk1 hS
            obtain ⟨hP1, -, -⟩ := hB
            rw [ht] at hP1
            replace hP := jC0 hP hD [2, 1] [0, 3, 4, 5] rfl hk1 hP1 (w_X12_coded h0 h_row h_kept h_isKept h_aside h_eight h_rows h_scales h_dealt h_bytes h_heardRow h_made h_comes h_backs h_fresh cy (0 : Int32) c_nodeS c_nodeD c_pairE c_pairO c_bit c_lag c_lagSum f24 f7 f11 f12 f21) rfl rfl rfl 6 rfl (by decide +kernel); clear hD; obtain ⟨hP, hD⟩ := hP
            replace hP : va_P (dC, dI) vwCl (w_X12_coded h0 h_row h_kept h_isKept h_aside h_eight h_rows h_scales h_dealt h_bytes h_heardRow h_made h_comes h_backs h_fresh cy (0 : Int32) c_nodeS c_nodeD c_pairE c_pairO c_bit c_lag c_lagSum f24 f7 f11 f12 f21) H1 := hP
            replace hD : va_D A (w_X12_coded h0 h_row h_kept h_isKept h_aside h_eight h_rows h_scales h_dealt h_bytes h_heardRow h_made h_comes h_backs h_fresh cy (0 : Int32) c_nodeS c_nodeD c_pairE c_pairO c_bit c_lag c_lagSum f24 f7 f11 f12 f21) := hD
            clear hPc hDc hFc hP1 hk1 hz1 hvm ht; clear t; clear H locs; obtain ⟨H, hH⟩ : ∃ H, H = H1 := ⟨_, rfl⟩; obtain ⟨locs, hlo⟩ : ∃ L, L = locs1 := ⟨_, rfl⟩; subst hH; subst hlo
            refine W.widen (k := 0) (n := 0) (Nat.le_refl 0) (Nat.le_refl 0) ?_
            refine lv_iload hx hb dX12_coded_173 (lv_at hl 0 rfl) ?_
            subst hQe
            exact W.iret (v := x20) hx hb hr (fun t ht hW => ⟨⟨x20, ((0 : Int32), f24, f7, f11, f12, f21), rfl, hw, by rw [ht]; exact hP, va_K.moved hW.alike hK, hD⟩, hS.F ht⟩) hS.2.2 dX12_coded_175
          · intro j23 hw
            refine lv_if_ne (tgt := 126) hx hb dX12_coded_107 (by decide) (fun c25 => ?_) (fun c25 => ?_)
            · replace hw := hw.2 c25; clear c25
              refine lv_iload hx hb dX12_coded_126 (lv_at hl 3 rfl) ?_
              refine lv_iconst (v := 1) hx hb dX12_coded_128 (by decide) ?_
              refine lv_icmp_ne (tgt := 143) hx hb dX12_coded_129 (by decide) (fun c26 => ?_) (fun c26 => ?_)
              · replace hw := hw.2 c26; clear c26
                refine lv_aload_n hx hb dX12_coded_143 rfl (lv_at hl 2 rfl) ?_
                refine lv_iload hx hb dX12_coded_144 (lv_at hl 3 rfl) ?_
                refine lv_iconst (v := 3) hx hb dX12_coded_146 (by decide) ?_
                refine jn1 (Gg := fun (x27 : Int32) => ∀ (H : Heap) (locs : List Loc) (ls : Array Slot), va_P (dC, dI) vwCl (w_X12_coded h0 h_row h_kept h_isKept h_aside h_eight h_rows h_scales h_dealt h_bytes h_heardRow h_made h_comes h_backs h_fresh cy (0 : Int32) c_nodeS c_nodeD c_pairE c_pairO c_bit c_lag c_lagSum f10 f7 f11 f12 c_backs) H → va_D A (w_X12_coded h0 h_row h_kept h_isKept h_aside h_eight h_rows h_scales h_dealt h_bytes h_heardRow h_made h_comes h_backs h_fresh cy (0 : Int32) c_nodeS c_nodeD c_pairE c_pairO c_bit c_lag c_lagSum f10 f7 f11 f12 c_backs) → va_S A s.heap H locs → lv_has ls 7 [(0, .ref h0)] → W p l e { frames := 3, cells := 0, slots := 0, locals := 82 } s m av below meth c H locs 0 0 Q0 (F0 m 155 ls [.int x27, .ref h0])) hw ?_ ?_ <;> clear hw
                · clear hP hD hS hl; clear H locs ls; intro x27 hw H locs ls hP hD hS hl
                  have hPc := pSub (ws' := (w_X12_differs h0 h_row h_kept h_isKept h_aside h_eight h_rows h_scales h_dealt h_bytes h_heardRow h_made h_comes h_backs h_fresh cy (0 : Int32) c_nodeS c_nodeD c_pairE c_pairO c_bit c_lag c_lagSum f10 f12 c_backs)) hP [0, 1, 4, 5] rfl
                  have hDc := dSub (ws' := (w_X12_differs h0 h_row h_kept h_isKept h_aside h_eight h_rows h_scales h_dealt h_bytes h_heardRow h_made h_comes h_backs h_fresh cy (0 : Int32) c_nodeS c_nodeD c_pairE c_pairO c_bit c_lag c_lagSum f10 f12 c_backs)) hD [0, 1, 4, 5] (by decide) rfl
                  have hFc := va_free (wc := (w_X12_differs h0 h_row h_kept h_isKept h_aside h_eight h_rows h_scales h_dealt h_bytes h_heardRow h_made h_comes h_backs h_fresh cy (0 : Int32) c_nodeS c_nodeD c_pairE c_pairO c_bit c_lag c_lagSum f10 f12 c_backs)) hD hS hA [0, 1, 4, 5] rfl
                  refine va_calli (va_runV (As := [.int x27]) (rest := []) ⟨hx, hb, hml, hown, hts⟩ (c_X12_differs l dC dI cy h0 h_row h_kept h_isKept h_aside h_eight h_rows h_scales h_dealt h_bytes h_heardRow h_made h_comes h_backs h_fresh H.size x27 (0 : Int32) c_nodeS c_nodeD c_pairE c_pairO c_bit c_lag c_lagSum f10 f12 c_backs _ hw) (cwV 1 hts (goodV mw_1040 mw_1037 mw_1038 mw_1039 mw_5) rfl rfl rfl (by decide +kernel) ⟨Nat.le_of_ble_eq_true rfl, Nat.le_of_ble_eq_true rfl⟩) ⟨PX_blind, va_recv hK hPc (ci := 12) (q0 := 0) rfl rfl, PX_pre hPc hK hDc hG⟩ rfl rfl hl.1 rfl (lv_room (Nat.le_of_ble_eq_true rfl)) dX12_coded_155 ⟨Nat.zero_le _, Nat.zero_le _⟩) hS (fun q _ h => hFc q h) hFc ?_; clear hw hS; intro r31 f30 t H1 locs1 ht hvm hw hB hz1 hk1 hS
                  obtain ⟨hP1, -, -⟩ := hB
                  rw [ht] at hP1
                  replace hP := jC0 hP hD [0, 1, 4, 5] [2, 3] rfl hk1 hP1 (w_X12_coded h0 h_row h_kept h_isKept h_aside h_eight h_rows h_scales h_dealt h_bytes h_heardRow h_made h_comes h_backs h_fresh cy (0 : Int32) c_nodeS c_nodeD c_pairE c_pairO c_bit c_lag c_lagSum f10 f7 f11 f12 f30) rfl rfl rfl 6 rfl (by decide +kernel); clear hD; obtain ⟨hP, hD⟩ := hP
                  replace hP : va_P (dC, dI) vwCl (w_X12_coded h0 h_row h_kept h_isKept h_aside h_eight h_rows h_scales h_dealt h_bytes h_heardRow h_made h_comes h_backs h_fresh cy (0 : Int32) c_nodeS c_nodeD c_pairE c_pairO c_bit c_lag c_lagSum f10 f7 f11 f12 f30) H1 := hP
                  replace hD : va_D A (w_X12_coded h0 h_row h_kept h_isKept h_aside h_eight h_rows h_scales h_dealt h_bytes h_heardRow h_made h_comes h_backs h_fresh cy (0 : Int32) c_nodeS c_nodeD c_pairE c_pairO c_bit c_lag c_lagSum f10 f7 f11 f12 f30) := hD
                  clear hPc hDc hFc hP1 hk1 hz1 hvm ht; clear t; clear H locs; obtain ⟨H, hH⟩ : ∃ H, H = H1 := ⟨_, rfl⟩; obtain ⟨locs, hlo⟩ : ∃ L, L = locs1 := ⟨_, rfl⟩; subst hH; subst hlo
                  refine W.widen (k := 0) (n := 0) (Nat.le_refl 0) (Nat.le_refl 0) ?_
                  exact j23 r31 f30 hw H locs ls hP hD hS (lv_sub hl [0] rfl)
                · intro j29 hw
                  refine lv_icmp_ne (tgt := 154) hx hb dX12_coded_147 (by decide) (fun c32 => ?_) (fun c32 => ?_)
                  · replace hw := hw.2 c32; clear c32
                    refine lv_iconst (v := 0) hx hb dX12_coded_154 (by decide) ?_
                    exact j29 (0 : Int32) hw H locs ls hP hD hS (lv_sub hl [2] rfl)
                  · replace hw := hw.1 c32; clear c32
                    refine lv_iconst (v := 1) hx hb dX12_coded_150 (by decide) ?_
                    refine lv_goto (tgt := 155) hx hb dX12_coded_151 (by decide) ?_
                    exact j29 (1 : Int32) hw H locs ls hP hD hS (lv_sub hl [2] rfl)
              · replace hw := hw.1 c26; clear c26
                refine lv_aload_n hx hb dX12_coded_132 rfl (lv_at hl 2 rfl) ?_
                refine va_get (D := (dC, dI)) (ci := 12) (v := .ref h_row) (C := RX12) (T := TX12) (N := 22) hx hb hts inX12 hown hK hP 0 rfl rfl 1 (by decide) (hts _ (List.mem_cons_of_mem _ mw_169)) (fun _ h9 => h9) rfl dX12_coded_133 ?_
                refine lv_sipush (v := 653) hx hb dX12_coded_136 (by decide) ?_
                refine xiald (k := 653) hx hb hK hP 1 0 rfl rfl (vpL 653 13385 rfl) (by decide) dX12_coded_139 ?_
                refine lv_goto (tgt := 158) hx hb dX12_coded_140 (by decide) ?_
                exact j23 (f10 653) c_backs hw H locs ls hP hD hS (lv_sub hl [2] rfl)
            · replace hw := hw.1 c25; clear c25
              refine lv_bipush (v := 104) hx hb dX12_coded_110 (by decide) ?_
              refine lv_iconst (v := 4) hx hb dX12_coded_112 (by decide) ?_
              refine lv_iload hx hb dX12_coded_113 (lv_at hl 1 rfl) ?_
              refine lv_imul hx hb dX12_coded_115 ?_
              refine lv_iadd hx hb dX12_coded_116 ?_
              refine lv_bipush (v := 7) hx hb dX12_coded_117 (by decide) ?_
              refine lv_iadd hx hb dX12_coded_119 ?_
              refine lv_bipush (v := 8) hx hb dX12_coded_120 (by decide) ?_
              refine lv_idiv hx hb dX12_coded_122 (by decide) ?_
              refine lv_topi (fun x34 e_x34 => ?_)
              replace hw := hw x34 e_x34
              clear e_x34
              refine lv_goto (tgt := 158) hx hb dX12_coded_123 (by decide) ?_
              exact j23 x34 c_backs hw H locs ls hP hD hS (lv_sub hl [2] rfl)
        · replace hw := hw.2 c19; clear c19
          refine lv_iload hx hb dX12_coded_87 (lv_at hl 1 rfl) ?_
          refine lv_aload_n hx hb dX12_coded_89 rfl (lv_at hl 2 rfl) ?_
          refine va_get (D := (dC, dI)) (ci := 12) (v := .ref h_dealt) (C := RX12) (T := TX12) (N := 22) hx hb hts inX12 hown hK hP 0 rfl rfl 12 (by decide) (hts _ (List.mem_cons_of_mem _ mw_177)) (fun _ h9 => h9) rfl dX12_coded_90 ?_
          refine lv_iload hx hb dX12_coded_93 (lv_at hl 0 rfl) ?_
          obtain ⟨h35, hw⟩ := hw
          refine xiald (k := x17.toNatClampNeg) hx hb hK hP 4 0 rfl rfl h35 rfl dX12_coded_95 ?_
          refine lv_iadd hx hb dX12_coded_96 ?_
          refine lv_topi (fun x36 e_x36 => ?_)
          replace hw := hw x36 e_x36
          clear e_x36
          refine lv_istore (lv' := [(5, .int x36), (6, .int x17), (0, .ref h0), (4, .int v4)]) hx hb dX12_coded_97 hl (by decide) rfl ?_; clear hl; clear ls; intro ls hl
          refine lv_iinc (v := x17 + 1) (lv' := [(6, .int (x17 + 1)), (5, .int x36), (0, .ref h0), (4, .int v4)]) hx hb dX12_coded_99 hl (k := 1) rfl rfl (by decide) rfl ?_; clear hl; clear ls; intro ls hl
          refine lv_goto (tgt := 80) hx hb dX12_coded_102 (by decide) ?_
          exact ih16 (x17 + 1) x36 hw H locs ls hP hD hS (lv_sub hl [0, 1, 2, 3] rfl)
      · replace hw := hw.1 c6; clear c6
        refine lv_iconst (v := -1) hx hb dX12_coded_37 (by decide) ?_
        subst hQe
        exact W.iret (v := (-1 : Int32)) hx hb hr (fun t ht hW => ⟨⟨(-1 : Int32), ((0 : Int32), c_row, c_aside, c_scales, c_dealt, c_backs), rfl, hw, by rw [ht]; exact hP, va_K.moved hW.alike hK, hD⟩, hS.F ht⟩) hS.2.2 dX12_coded_38
set_option maxHeartbeats 4000000 in
set_option maxRecDepth 100000 in
theorem c_X12_worst (l : Launch) (dC : Nat → ClassId) (dI : Nat → Nat → Nat) (cy : Nat → ClassId) (h0 h_row h_kept h_isKept h_aside h_eight h_rows h_scales h_dealt h_bytes h_heardRow h_made h_comes h_backs h_fresh : Nat) (sz : Nat) (v1 : Int32) (v2 : Int32) (v3 : Int32) (c_thrown : Int32) (c_nodeS : Int32) (c_nodeD : Int32) (c_pairE : Int32) (c_pairO : Int32) (c_bit : Int32) (c_lag : Int32) (c_lagSum : Int32) (c_row : Nat → Int32) (c_scales : Nat → Int32) (c_dealt : Nat → Int32) (post : Int32 → Int32 → (Nat → Int32) → (Nat → Int32) → Prop) (hw : wp_X12_worst v1 v2 v3 c_thrown c_row c_scales c_dealt post) : Met l yX12_worst wsX12_worst ({ frames := 2, cells := 0, slots := 0, locals := 52 }) (PX dC dI cy [.ref h0, .int v1, .int v2, .int v3] sz (w_X12_worst h0 h_row h_kept h_isKept h_aside h_eight h_rows h_scales h_dealt h_bytes h_heardRow h_made h_comes h_backs h_fresh cy c_thrown c_nodeS c_nodeD c_pairE c_pairO c_bit c_lag c_lagSum c_row c_scales c_dealt)) (va_Qi (fun (r : Int32) (u : Int32 × (Nat → Int32) × (Nat → Int32)) => post r u.1 u.2.1 u.2.2) (QX dC dI cy (va_A (w_X12_worst h0 h_row h_kept h_isKept h_aside h_eight h_rows h_scales h_dealt h_bytes h_heardRow h_made h_comes h_backs h_fresh cy c_thrown c_nodeS c_nodeD c_pairE c_pairO c_bit c_lag c_lagSum c_row c_scales c_dealt) sz) (fun (u : Int32 × (Nat → Int32) × (Nat → Int32)) => w_X12_worst h0 h_row h_kept h_isKept h_aside h_eight h_rows h_scales h_dealt h_bytes h_heardRow h_made h_comes h_backs h_fresh cy u.1 c_nodeS c_nodeD c_pairE c_pairO c_bit c_lag c_lagSum c_row u.2.1 u.2.2)) (va_A (w_X12_worst h0 h_row h_kept h_isKept h_aside h_eight h_rows h_scales h_dealt h_bytes h_heardRow h_made h_comes h_backs h_fresh cy c_thrown c_nodeS c_nodeD c_pairE c_pairO c_bit c_lag c_lagSum c_row c_scales c_dealt) sz)) 0 0 (va_A (w_X12_worst h0 h_row h_kept h_isKept h_aside h_eight h_rows h_scales h_dealt h_bytes h_heardRow h_made h_comes h_backs h_fresh cy c_thrown c_nodeS c_nodeD c_pairE c_pairO c_bit c_lag c_lagSum c_row c_scales c_dealt) sz) := by
  refine Met.ofW (cc := cX12_worst) (maxL := 11) (ret := (some .int)) (by decide) rfl ?_
  intro p e s m args below meth c s₁ B hml hv
  obtain ⟨rfl, hsz, hP, hK, hD0, hG⟩ := hv
  have hx := B.exec
  have hb := B.bytes
  have hr := B.returns
  have hts := atoms_spec (ws := wsX12_worst) B.pre
  have hown : s.vm.findClass RX12 = some m.cls := findClass_of_methodNamed B.named
  have hlocks := B.notSynchronized
  subst hsz
  have hD := hD0.self (sz := s.heap.size)
  generalize hAe : va_A (w_X12_worst h0 h_row h_kept h_isKept h_aside h_eight h_rows h_scales h_dealt h_bytes h_heardRow h_made h_comes h_backs h_fresh cy c_thrown c_nodeS c_nodeD c_pairE c_pairO c_bit c_lag c_lagSum c_row c_scales c_dealt) s.heap.size = A at hD ⊢
  have hA : ∀ q : Nat, s.heap.size ≤ q → A q := fun q h => by rw [← hAe]; exact Or.inr h
  have hS : va_S A s.heap s.heap [] := va_S.rf
  have hl := lv_entry ([.ref h0, .int v1, .int v2, .int v3]) (n := 11) (Nat.le_of_ble_eq_true rfl)
  rw [lg_entry_eq]
  generalize (lg_sl ([.ref h0, .int v1, .int v2, .int v3]) ++ List.replicate (11 - (lg_sl ([.ref h0, .int v1, .int v2, .int v3])).length) Slot.unset).toArray = ls at hl ⊢
  replace hl : lv_has ls 11 [(0, .ref h0), (1, .int v1), (2, .int v2), (3, .int v3)] := hl
  have inX12 : ∀ w ∈ u_ws RX12 TX12 22, w ∈ wsX12_worst := fun w h => List.mem_cons_of_mem _ (inlX12 w h)
  clear hAe hD0 B
  unfold wp_X12_worst at hw
  generalize hQe : MQ below _ _ s _ _ _ = Q0
  generalize ([.ref h0, .int v1, .int v2, .int v3] : List Value).toArray = av at *
  obtain ⟨H, hH⟩ : ∃ H, H = s.heap := ⟨_, rfl⟩
  obtain ⟨locs, hlo⟩ : ∃ L : List Loc, L = [] := ⟨_, rfl⟩
  replace hP : va_P (dC, dI) vwCl (w_X12_worst h0 h_row h_kept h_isKept h_aside h_eight h_rows h_scales h_dealt h_bytes h_heardRow h_made h_comes h_backs h_fresh cy c_thrown c_nodeS c_nodeD c_pairE c_pairO c_bit c_lag c_lagSum c_row c_scales c_dealt) H := by rw [hH]; exact hP
  replace hS : va_S A s.heap H locs := by rw [hH, hlo]; exact hS
  suffices hgo : W p l e ({ frames := 2, cells := 0, slots := 0, locals := 52 }) s m av below meth c H locs 0 0 Q0 (F0 m 0 ls []) by rw [hH, hlo] at hgo; exact hgo
  clear hH hlo
  refine lv_aload_n hx hb dX12_worst_0 rfl (lv_at hl 0 rfl) ?_
  refine lv_iconst (v := 0) hx hb dX12_worst_1 (by decide) ?_
  refine va_put (D := (dC, dI)) (ci := 12) (v := .int (0 : Int32)) (ty := .int) (C := RX12) (T := TX12) (N := 22) hx hb hts inX12 tyX12 tyX12_ok nmX12 hown hK hP hD hS 0 rfl rfl 0 (by decide) (hts _ (List.mem_cons_of_mem _ mw_200)) (fun _ h9 => h9) rfl (by decide +kernel) rfl rfl (Nat.le_of_ble_eq_true rfl) dX12_worst_2 ?_; clear hP hD hS; clear H locs; intro H locs hP hD hS
  replace hP : va_P (dC, dI) vwCl (w_X12_worst h0 h_row h_kept h_isKept h_aside h_eight h_rows h_scales h_dealt h_bytes h_heardRow h_made h_comes h_backs h_fresh cy (0 : Int32) c_nodeS c_nodeD c_pairE c_pairO c_bit c_lag c_lagSum c_row c_scales c_dealt) H := hP
  replace hD : va_D A (w_X12_worst h0 h_row h_kept h_isKept h_aside h_eight h_rows h_scales h_dealt h_bytes h_heardRow h_made h_comes h_backs h_fresh cy (0 : Int32) c_nodeS c_nodeD c_pairE c_pairO c_bit c_lag c_lagSum c_row c_scales c_dealt) := hD
  refine lv_aload_n hx hb dX12_worst_5 rfl (lv_at hl 0 rfl) ?_
  refine lv_iload_n hx hb dX12_worst_6 rfl (lv_at hl 1 rfl) ?_
  refine lv_iload_n hx hb dX12_worst_7 rfl (lv_at hl 2 rfl) ?_
  have hPc := pSub (ws' := (w_X12_canDeal h0 h_row h_kept h_isKept h_aside h_eight h_rows h_scales h_dealt h_bytes h_heardRow h_made h_comes h_backs h_fresh cy (0 : Int32) c_nodeS c_nodeD c_pairE c_pairO c_bit c_lag c_lagSum c_row)) hP [0, 1] rfl
  have hDc := dSub (ws' := (w_X12_canDeal h0 h_row h_kept h_isKept h_aside h_eight h_rows h_scales h_dealt h_bytes h_heardRow h_made h_comes h_backs h_fresh cy (0 : Int32) c_nodeS c_nodeD c_pairE c_pairO c_bit c_lag c_lagSum c_row)) hD [0, 1] (by decide) rfl
  have hFc := va_free (wc := (w_X12_canDeal h0 h_row h_kept h_isKept h_aside h_eight h_rows h_scales h_dealt h_bytes h_heardRow h_made h_comes h_backs h_fresh cy (0 : Int32) c_nodeS c_nodeD c_pairE c_pairO c_bit c_lag c_lagSum c_row)) hD hS hA [0, 1] rfl
  refine va_calli (va_runV (As := [.int v1, .int v2]) (rest := []) ⟨hx, hb, hml, hown, hts⟩ (c_X12_canDeal l dC dI cy h0 h_row h_kept h_isKept h_aside h_eight h_rows h_scales h_dealt h_bytes h_heardRow h_made h_comes h_backs h_fresh H.size v1 v2 (0 : Int32) c_nodeS c_nodeD c_pairE c_pairO c_bit c_lag c_lagSum c_row _ hw) (cwV 2 hts (goodV mw_987 mw_984 mw_985 mw_986 mw_5) rfl rfl rfl (by decide +kernel) ⟨Nat.le_of_ble_eq_true rfl, Nat.le_of_ble_eq_true rfl⟩) ⟨PX_blind, va_recv hK hPc (ci := 12) (q0 := 0) rfl rfl, PX_pre hPc hK hDc hG⟩ rfl rfl hl.1 rfl (lv_room (Nat.le_of_ble_eq_true rfl)) dX12_worst_8 ⟨Nat.zero_le _, Nat.zero_le _⟩) hS (fun q _ h => hFc q h) hFc ?_; clear hw hS; intro r1 _ t H1 locs1 ht hvm hw hB hz1 hk1 hS
  obtain ⟨hP1, -, -⟩ := hB
  rw [ht] at hP1
  replace hP := jC0 hP hD [0, 1] [2, 3] rfl hk1 hP1 (w_X12_worst h0 h_row h_kept h_isKept h_aside h_eight h_rows h_scales h_dealt h_bytes h_heardRow h_made h_comes h_backs h_fresh cy (0 : Int32) c_nodeS c_nodeD c_pairE c_pairO c_bit c_lag c_lagSum c_row c_scales c_dealt) rfl rfl rfl 4 rfl (by decide +kernel); clear hD; obtain ⟨hP, hD⟩ := hP
  replace hP : va_P (dC, dI) vwCl (w_X12_worst h0 h_row h_kept h_isKept h_aside h_eight h_rows h_scales h_dealt h_bytes h_heardRow h_made h_comes h_backs h_fresh cy (0 : Int32) c_nodeS c_nodeD c_pairE c_pairO c_bit c_lag c_lagSum c_row c_scales c_dealt) H1 := hP
  replace hD : va_D A (w_X12_worst h0 h_row h_kept h_isKept h_aside h_eight h_rows h_scales h_dealt h_bytes h_heardRow h_made h_comes h_backs h_fresh cy (0 : Int32) c_nodeS c_nodeD c_pairE c_pairO c_bit c_lag c_lagSum c_row c_scales c_dealt) := hD
  clear hPc hDc hFc hP1 hk1 hz1 hvm ht; clear t; clear H locs; obtain ⟨H, hH⟩ : ∃ H, H = H1 := ⟨_, rfl⟩; obtain ⟨locs, hlo⟩ : ∃ L, L = locs1 := ⟨_, rfl⟩; subst hH; subst hlo
  refine W.widen (k := 0) (n := 0) (Nat.le_refl 0) (Nat.le_refl 0) ?_
  refine lv_if_eq (tgt := 24) hx hb dX12_worst_11 (by decide) (fun c2 => ?_) (fun c2 => ?_)
  · replace hw := hw.1 c2; clear c2
    refine lv_iconst (v := -1) hx hb dX12_worst_24 (by decide) ?_
    subst hQe
    exact W.iret (v := (-1 : Int32)) hx hb hr (fun t ht hW => ⟨⟨(-1 : Int32), ((0 : Int32), c_scales, c_dealt), rfl, hw, by rw [ht]; exact hP, va_K.moved hW.alike hK, hD⟩, hS.F ht⟩) hS.2.2 dX12_worst_25
  · replace hw := hw.2 c2; clear c2
    refine lv_iload_n hx hb dX12_worst_14 rfl (lv_at hl 3 rfl) ?_
    refine lv_i2l (v := v3.toInt64) hx hb dX12_worst_15 rfl ?_
    refine lv_lconst (v := 0) hx hb dX12_worst_16 (by decide) ?_
    refine lv_lconst (v := 1) hx hb dX12_worst_17 (by decide) ?_
    have hPc := pSub (ws' := (w_X12_in cy)) hP [] rfl
    have hDc := dSub (ws' := (w_X12_in cy)) hD [] (by decide) rfl
    have hFc := va_free (wc := (w_X12_in cy)) hD hS hA [] rfl
    refine va_calli (va_runS (As := [.long (v3.toInt64), .long (0 : Int64), .long (1 : Int64)]) (rest := []) ⟨hx, hb, hml, hown, hts⟩ (c_X12_in l dC dI cy  H.size (v3.toInt64) (0 : Int64) (1 : Int64) _ hw) (va_cwS 3 hts (goodS mw_207 mw_205 mw_206 mw_5) rfl rfl rfl (by decide +kernel) ⟨Nat.le_of_ble_eq_true rfl, Nat.le_of_ble_eq_true rfl⟩) ⟨PX_blind, PX_pre hPc hK hDc hG⟩ rfl rfl hl.1 rfl (lv_room (Nat.le_of_ble_eq_true rfl)) dX12_worst_18 ⟨Nat.zero_le _, Nat.zero_le _⟩) hS (fun q _ h => hFc q h) hFc ?_; clear hw hS; intro r3 _ t H1 locs1 ht hvm hw hB hz1 hk1 hS
    obtain ⟨hP1, -, -⟩ := hB
    rw [ht] at hP1
    replace hP := jC0 hP hD [] [0, 1, 2, 3] rfl hk1 hP1 (w_X12_worst h0 h_row h_kept h_isKept h_aside h_eight h_rows h_scales h_dealt h_bytes h_heardRow h_made h_comes h_backs h_fresh cy (0 : Int32) c_nodeS c_nodeD c_pairE c_pairO c_bit c_lag c_lagSum c_row c_scales c_dealt) rfl rfl rfl 4 rfl (by decide +kernel); clear hD; obtain ⟨hP, hD⟩ := hP
    replace hP : va_P (dC, dI) vwCl (w_X12_worst h0 h_row h_kept h_isKept h_aside h_eight h_rows h_scales h_dealt h_bytes h_heardRow h_made h_comes h_backs h_fresh cy (0 : Int32) c_nodeS c_nodeD c_pairE c_pairO c_bit c_lag c_lagSum c_row c_scales c_dealt) H1 := hP
    replace hD : va_D A (w_X12_worst h0 h_row h_kept h_isKept h_aside h_eight h_rows h_scales h_dealt h_bytes h_heardRow h_made h_comes h_backs h_fresh cy (0 : Int32) c_nodeS c_nodeD c_pairE c_pairO c_bit c_lag c_lagSum c_row c_scales c_dealt) := hD
    clear hPc hDc hFc hP1 hk1 hz1 hvm ht; clear t; clear H locs; obtain ⟨H, hH⟩ : ∃ H, H = H1 := ⟨_, rfl⟩; obtain ⟨locs, hlo⟩ : ∃ L, L = locs1 := ⟨_, rfl⟩; subst hH; subst hlo
    refine W.widen (k := 0) (n := 0) (Nat.le_refl 0) (Nat.le_refl 0) ?_
    refine lv_if_ne (tgt := 26) hx hb dX12_worst_21 (by decide) (fun c4 => ?_) (fun c4 => ?_)
    · replace hw := hw.2 c4; clear c4
      refine lv_aload_n hx hb dX12_worst_26 rfl (lv_at hl 0 rfl) ?_
      have hPc := pSub (ws' := (w_X12_takeScales h0 h_row h_kept h_isKept h_aside h_eight h_rows h_scales h_dealt h_bytes h_heardRow h_made h_comes h_backs h_fresh cy (0 : Int32) c_nodeS c_nodeD c_pairE c_pairO c_bit c_lag c_lagSum c_row c_scales)) hP [0, 1, 2] rfl
      have hDc := dSub (ws' := (w_X12_takeScales h0 h_row h_kept h_isKept h_aside h_eight h_rows h_scales h_dealt h_bytes h_heardRow h_made h_comes h_backs h_fresh cy (0 : Int32) c_nodeS c_nodeD c_pairE c_pairO c_bit c_lag c_lagSum c_row c_scales)) hD [0, 1, 2] (by decide) rfl
      have hFc := va_free (wc := (w_X12_takeScales h0 h_row h_kept h_isKept h_aside h_eight h_rows h_scales h_dealt h_bytes h_heardRow h_made h_comes h_backs h_fresh cy (0 : Int32) c_nodeS c_nodeD c_pairE c_pairO c_bit c_lag c_lagSum c_row c_scales)) hD hS hA [0, 1, 2] rfl
      refine va_callv (va_runV (As := []) (rest := []) ⟨hx, hb, hml, hown, hts⟩ (c_X12_takeScales l dC dI cy h0 h_row h_kept h_isKept h_aside h_eight h_rows h_scales h_dealt h_bytes h_heardRow h_made h_comes h_backs h_fresh H.size (0 : Int32) c_nodeS c_nodeD c_pairE c_pairO c_bit c_lag c_lagSum c_row c_scales _ hw) (cwV 0 hts (goodV mw_954 mw_951 mw_952 mw_953 mw_5) rfl rfl rfl (by decide +kernel) ⟨Nat.le_of_ble_eq_true rfl, Nat.le_of_ble_eq_true rfl⟩) ⟨PX_blind, va_recv hK hPc (ci := 12) (q0 := 0) rfl rfl, PX_pre hPc hK hDc hG⟩ rfl rfl hl.1 rfl (lv_room (Nat.le_of_ble_eq_true rfl)) dX12_worst_27 ⟨Nat.zero_le _, Nat.zero_le _⟩) hS (fun q _ h => hFc q h) hFc ?_; clear hw hS; intro f5 t H1 locs1 ht hvm hw hB hz1 hk1 hS
      obtain ⟨hP1, -, -⟩ := hB
      rw [ht] at hP1
      replace hP := jC0 hP hD [0, 1, 2] [3] rfl hk1 hP1 (w_X12_worst h0 h_row h_kept h_isKept h_aside h_eight h_rows h_scales h_dealt h_bytes h_heardRow h_made h_comes h_backs h_fresh cy (0 : Int32) c_nodeS c_nodeD c_pairE c_pairO c_bit c_lag c_lagSum c_row f5 c_dealt) rfl rfl rfl 4 rfl (by decide +kernel); clear hD; obtain ⟨hP, hD⟩ := hP
      replace hP : va_P (dC, dI) vwCl (w_X12_worst h0 h_row h_kept h_isKept h_aside h_eight h_rows h_scales h_dealt h_bytes h_heardRow h_made h_comes h_backs h_fresh cy (0 : Int32) c_nodeS c_nodeD c_pairE c_pairO c_bit c_lag c_lagSum c_row f5 c_dealt) H1 := hP
      replace hD : va_D A (w_X12_worst h0 h_row h_kept h_isKept h_aside h_eight h_rows h_scales h_dealt h_bytes h_heardRow h_made h_comes h_backs h_fresh cy (0 : Int32) c_nodeS c_nodeD c_pairE c_pairO c_bit c_lag c_lagSum c_row f5 c_dealt) := hD
      clear hPc hDc hFc hP1 hk1 hz1 hvm ht; clear t; clear H locs; obtain ⟨H, hH⟩ : ∃ H, H = H1 := ⟨_, rfl⟩; obtain ⟨locs, hlo⟩ : ∃ L, L = locs1 := ⟨_, rfl⟩; subst hH; subst hlo
      refine W.widen (k := 0) (n := 0) (Nat.le_refl 0) (Nat.le_refl 0) ?_
      refine lv_aload_n hx hb dX12_worst_30 rfl (lv_at hl 0 rfl) ?_
      refine lv_iload_n hx hb dX12_worst_31 rfl (lv_at hl 1 rfl) ?_
      refine lv_iload_n hx hb dX12_worst_32 rfl (lv_at hl 2 rfl) ?_
      have hPc := pSub (ws' := (w_X12_deal h0 h_row h_kept h_isKept h_aside h_eight h_rows h_scales h_dealt h_bytes h_heardRow h_made h_comes h_backs h_fresh cy (0 : Int32) c_nodeS c_nodeD c_pairE c_pairO c_bit c_lag c_lagSum c_dealt f5 c_row)) hP [0, 3, 2, 1] rfl
      have hDc := dSub (ws' := (w_X12_deal h0 h_row h_kept h_isKept h_aside h_eight h_rows h_scales h_dealt h_bytes h_heardRow h_made h_comes h_backs h_fresh cy (0 : Int32) c_nodeS c_nodeD c_pairE c_pairO c_bit c_lag c_lagSum c_dealt f5 c_row)) hD [0, 3, 2, 1] (by decide) rfl
      have hFc := va_free (wc := (w_X12_deal h0 h_row h_kept h_isKept h_aside h_eight h_rows h_scales h_dealt h_bytes h_heardRow h_made h_comes h_backs h_fresh cy (0 : Int32) c_nodeS c_nodeD c_pairE c_pairO c_bit c_lag c_lagSum c_dealt f5 c_row)) hD hS hA [0, 3, 2, 1] rfl
      refine va_callv (va_runV (As := [.int v1, .int v2]) (rest := []) ⟨hx, hb, hml, hown, hts⟩ (c_X12_deal l dC dI cy h0 h_row h_kept h_isKept h_aside h_eight h_rows h_scales h_dealt h_bytes h_heardRow h_made h_comes h_backs h_fresh H.size v1 v2 (0 : Int32) c_nodeS c_nodeD c_pairE c_pairO c_bit c_lag c_lagSum c_dealt f5 c_row _ hw) (cwV 2 hts (goodV mw_664 mw_661 mw_662 mw_663 mw_5) rfl rfl rfl (by decide +kernel) ⟨Nat.le_of_ble_eq_true rfl, Nat.le_of_ble_eq_true rfl⟩) ⟨PX_blind, va_recv hK hPc (ci := 12) (q0 := 0) rfl rfl, PX_pre hPc hK hDc hG⟩ rfl rfl hl.1 rfl (lv_room (Nat.le_of_ble_eq_true rfl)) dX12_worst_33 ⟨Nat.zero_le _, Nat.zero_le _⟩) hS (fun q _ h => hFc q h) hFc ?_; clear hw hS; intro f6 t H1 locs1 ht hvm hw hB hz1 hk1 hS
      obtain ⟨hP1, -, -⟩ := hB
      rw [ht] at hP1
      replace hP := jC0 hP hD [0, 3, 2, 1] [] rfl hk1 hP1 (w_X12_worst h0 h_row h_kept h_isKept h_aside h_eight h_rows h_scales h_dealt h_bytes h_heardRow h_made h_comes h_backs h_fresh cy (0 : Int32) c_nodeS c_nodeD c_pairE c_pairO c_bit c_lag c_lagSum c_row f5 f6) rfl rfl rfl 4 rfl (by decide +kernel); clear hD; obtain ⟨hP, hD⟩ := hP
      replace hP : va_P (dC, dI) vwCl (w_X12_worst h0 h_row h_kept h_isKept h_aside h_eight h_rows h_scales h_dealt h_bytes h_heardRow h_made h_comes h_backs h_fresh cy (0 : Int32) c_nodeS c_nodeD c_pairE c_pairO c_bit c_lag c_lagSum c_row f5 f6) H1 := hP
      replace hD : va_D A (w_X12_worst h0 h_row h_kept h_isKept h_aside h_eight h_rows h_scales h_dealt h_bytes h_heardRow h_made h_comes h_backs h_fresh cy (0 : Int32) c_nodeS c_nodeD c_pairE c_pairO c_bit c_lag c_lagSum c_row f5 f6) := hD
      clear hPc hDc hFc hP1 hk1 hz1 hvm ht; clear t; clear H locs; obtain ⟨H, hH⟩ : ∃ H, H = H1 := ⟨_, rfl⟩; obtain ⟨locs, hlo⟩ : ∃ L, L = locs1 := ⟨_, rfl⟩; subst hH; subst hlo
      refine W.widen (k := 0) (n := 0) (Nat.le_refl 0) (Nat.le_refl 0) ?_
      refine lv_iconst (v := -1) hx hb dX12_worst_36 (by decide) ?_
      refine lv_istore (lv' := [(4, .int (-1 : Int32)), (0, .ref h0), (1, .int v1), (2, .int v2), (3, .int v3)]) hx hb dX12_worst_37 hl (by decide) rfl ?_; clear hl; clear ls; intro ls hl
      refine lv_iconst (v := -1) hx hb dX12_worst_39 (by decide) ?_
      refine lv_istore (lv' := [(5, .int (-1 : Int32)), (4, .int (-1 : Int32)), (0, .ref h0), (1, .int v1), (2, .int v2), (3, .int v3)]) hx hb dX12_worst_40 hl (by decide) rfl ?_; clear hl; clear ls; intro ls hl
      refine lv_iconst (v := 0) hx hb dX12_worst_42 (by decide) ?_
      refine lv_istore (lv' := [(6, .int (0 : Int32)), (5, .int (-1 : Int32)), (4, .int (-1 : Int32)), (0, .ref h0), (1, .int v1), (2, .int v2), (3, .int v3)]) hx hb dX12_worst_43 hl (by decide) rfl ?_; clear hl; clear ls; intro ls hl
      obtain ⟨x7, e_x7⟩ : ∃ y : Int32, y = (0 : Int32) := ⟨_, rfl⟩
      replace hw := hw x7 e_x7
      replace hl : lv_has ls 11 [(6, .int x7), (5, .int (-1 : Int32)), (4, .int (-1 : Int32)), (0, .ref h0), (1, .int v1), (2, .int v2), (3, .int v3)] := by rw [e_x7]; exact hl
      clear e_x7
      obtain ⟨x8, e_x8⟩ : ∃ y : Int32, y = (-1 : Int32) := ⟨_, rfl⟩
      replace hw := hw x8 e_x8
      replace hl : lv_has ls 11 [(6, .int x7), (5, .int x8), (4, .int (-1 : Int32)), (0, .ref h0), (1, .int v1), (2, .int v2), (3, .int v3)] := by rw [e_x8]; exact hl
      clear e_x8
      obtain ⟨x9, e_x9⟩ : ∃ y : Int32, y = (-1 : Int32) := ⟨_, rfl⟩
      replace hw := hw x9 e_x9
      replace hl : lv_has ls 11 [(6, .int x7), (5, .int x8), (4, .int x9), (0, .ref h0), (1, .int v1), (2, .int v2), (3, .int v3)] := by rw [e_x9]; exact hl
      clear e_x9
      replace hl := lv_sub (l' := [(6, .int x7), (5, .int x8), (4, .int x9), (0, .ref h0), (3, .int v3)]) hl [0, 1, 2, 3, 6] rfl
      revert hl; revert hS; revert hD; revert hP; revert ls; revert locs; revert H
      revert hw; revert x9; revert x8; revert x7
      refine Lz3_gr ?_; intro g10 ih11 x12 x13 x14 hw
      intro H locs ls hP hD hS hl
      refine lv_iload hx hb dX12_worst_45 (lv_at hl 0 rfl) ?_
      refine lv_bipush (v := 16) hx hb dX12_worst_47 (by decide) ?_
      refine lv_icmp_ge (tgt := 181) hx hb dX12_worst_49 (by decide) (fun c15 => ?_) (fun c15 => ?_)
      · replace hw := hw.1 c15; clear c15
        clear ih11
        refine lv_iload_n hx hb dX12_worst_181 rfl (lv_at hl 4 rfl) ?_
        refine lv_if_ne (tgt := 190) hx hb dX12_worst_182 (by decide) (fun c16 => ?_) (fun c16 => ?_)
        · replace hw := hw.2 c16; clear c16
          refine lv_iload hx hb dX12_worst_190 (lv_at hl 1 rfl) ?_
          subst hQe
          exact W.iret (v := x13) hx hb hr (fun t ht hW => ⟨⟨x13, ((0 : Int32), f5, f6), rfl, hw, by rw [ht]; exact hP, va_K.moved hW.alike hK, hD⟩, hS.F ht⟩) hS.2.2 dX12_worst_192
        · replace hw := hw.1 c16; clear c16
          refine lv_iload hx hb dX12_worst_185 (lv_at hl 2 rfl) ?_
          refine lv_goto (tgt := 192) hx hb dX12_worst_187 (by decide) ?_
          subst hQe
          exact W.iret (v := x14) hx hb hr (fun t ht hW => ⟨⟨x14, ((0 : Int32), f5, f6), rfl, hw, by rw [ht]; exact hP, va_K.moved hW.alike hK, hD⟩, hS.F ht⟩) hS.2.2 dX12_worst_192
      · replace hw := hw.2 c15; clear c15
        refine lv_iconst (v := 0) hx hb dX12_worst_52 (by decide) ?_
        refine lv_istore (lv' := [(7, .int (0 : Int32)), (6, .int x12), (5, .int x13), (4, .int x14), (0, .ref h0), (3, .int v3)]) hx hb dX12_worst_53 hl (by decide) rfl ?_; clear hl; clear ls; intro ls hl
        refine lv_iconst (v := 0) hx hb dX12_worst_55 (by decide) ?_
        refine lv_istore (lv' := [(8, .int (0 : Int32)), (7, .int (0 : Int32)), (6, .int x12), (5, .int x13), (4, .int x14), (0, .ref h0), (3, .int v3)]) hx hb dX12_worst_56 hl (by decide) rfl ?_; clear hl; clear ls; intro ls hl
        obtain ⟨x17, e_x17⟩ : ∃ y : Int32, y = (0 : Int32) := ⟨_, rfl⟩
        replace hw := hw x17 e_x17
        replace hl : lv_has ls 11 [(8, .int x17), (7, .int (0 : Int32)), (6, .int x12), (5, .int x13), (4, .int x14), (0, .ref h0), (3, .int v3)] := by rw [e_x17]; exact hl
        clear e_x17
        obtain ⟨x18, e_x18⟩ : ∃ y : Int32, y = (0 : Int32) := ⟨_, rfl⟩
        replace hw := hw x18 e_x18
        replace hl : lv_has ls 11 [(8, .int x17), (7, .int x18), (6, .int x12), (5, .int x13), (4, .int x14), (0, .ref h0), (3, .int v3)] := by rw [e_x18]; exact hl
        clear e_x18
        replace hl := lv_sub (l' := [(8, .int x17), (7, .int x18), (6, .int x12), (5, .int x13), (4, .int x14), (0, .ref h0), (3, .int v3)]) hl [0, 1, 2, 3, 4, 5, 6] rfl
        revert hl; revert hS; revert hD; revert hP; revert ls; revert locs; revert H
        revert hw; revert x18; revert x17
        refine Lz2_gr ?_; intro g19 ih20 x21 x22 hw
        intro H locs ls hP hD hS hl
        refine lv_iload hx hb dX12_worst_58 (lv_at hl 0 rfl) ?_
        refine lv_iconst (v := 4) hx hb dX12_worst_60 (by decide) ?_
        refine lv_icmp_ge (tgt := 143) hx hb dX12_worst_61 (by decide) (fun c23 => ?_) (fun c23 => ?_)
        · replace hw := hw.1 c23; clear c23
          clear ih20
          refine lv_iload hx hb dX12_worst_143 (lv_at hl 1 rfl) ?_
          refine lv_iload hx hb dX12_worst_145 (lv_at hl 3 rfl) ?_
          refine jn1 (Gg := fun (x24 : Int32) => ∀ (H : Heap) (locs : List Loc) (ls : Array Slot), va_P (dC, dI) vwCl (w_X12_worst h0 h_row h_kept h_isKept h_aside h_eight h_rows h_scales h_dealt h_bytes h_heardRow h_made h_comes h_backs h_fresh cy (0 : Int32) c_nodeS c_nodeD c_pairE c_pairO c_bit c_lag c_lagSum c_row f5 f6) H → va_D A (w_X12_worst h0 h_row h_kept h_isKept h_aside h_eight h_rows h_scales h_dealt h_bytes h_heardRow h_made h_comes h_backs h_fresh cy (0 : Int32) c_nodeS c_nodeD c_pairE c_pairO c_bit c_lag c_lagSum c_row f5 f6) → va_S A s.heap H locs → lv_has ls 11 [(0, .ref h0), (3, .int v3), (5, .int x13), (6, .int x12), (7, .int x22)] → W p l e { frames := 2, cells := 0, slots := 0, locals := 52 } s m av below meth c H locs 0 0 Q0 (F0 m 157 ls [.int x24])) hw ?_ ?_ <;> clear hw
          · clear hP hD hS hl; clear H locs ls; intro x24 hw H locs ls hP hD hS hl
            refine lv_istore (lv' := [(4, .int x24), (0, .ref h0), (3, .int v3), (5, .int x13), (6, .int x12), (7, .int x22)]) hx hb dX12_worst_157 hl (by decide) rfl ?_; clear hl; clear ls; intro ls hl
            refine lv_iload hx hb dX12_worst_159 (lv_at hl 5 rfl) ?_
            refine lv_iload hx hb dX12_worst_161 (lv_at hl 3 rfl) ?_
            refine jn1 (Gg := fun (x27 : Int32) => ∀ (H : Heap) (locs : List Loc) (ls : Array Slot), va_P (dC, dI) vwCl (w_X12_worst h0 h_row h_kept h_isKept h_aside h_eight h_rows h_scales h_dealt h_bytes h_heardRow h_made h_comes h_backs h_fresh cy (0 : Int32) c_nodeS c_nodeD c_pairE c_pairO c_bit c_lag c_lagSum c_row f5 f6) H → va_D A (w_X12_worst h0 h_row h_kept h_isKept h_aside h_eight h_rows h_scales h_dealt h_bytes h_heardRow h_made h_comes h_backs h_fresh cy (0 : Int32) c_nodeS c_nodeD c_pairE c_pairO c_bit c_lag c_lagSum c_row f5 f6) → va_S A s.heap H locs → lv_has ls 11 [(0, .ref h0), (3, .int v3), (4, .int x24), (6, .int x12)] → W p l e { frames := 2, cells := 0, slots := 0, locals := 52 } s m av below meth c H locs 0 0 Q0 (F0 m 173 ls [.int x27])) hw ?_ ?_ <;> clear hw
            · clear hP hD hS hl; clear H locs ls; intro x27 hw H locs ls hP hD hS hl
              refine lv_istore (lv' := [(5, .int x27), (0, .ref h0), (3, .int v3), (4, .int x24), (6, .int x12)]) hx hb dX12_worst_173 hl (by decide) rfl ?_; clear hl; clear ls; intro ls hl
              refine lv_iinc (v := x12 + 1) (lv' := [(6, .int (x12 + 1)), (5, .int x27), (0, .ref h0), (3, .int v3), (4, .int x24)]) hx hb dX12_worst_175 hl (k := 4) rfl rfl (by decide) rfl ?_; clear hl; clear ls; intro ls hl
              refine lv_goto (tgt := 45) hx hb dX12_worst_178 (by decide) ?_
              exact ih11 (x12 + 1) x27 x24 hw H locs ls hP hD hS (lv_sub hl [0, 1, 4, 2, 3] rfl)
            · intro j29 hw
              refine lv_icmp_le (tgt := 171) hx hb dX12_worst_163 (by decide) (fun c30 => ?_) (fun c30 => ?_)
              · replace hw := hw.1 c30; clear c30
                refine lv_iload hx hb dX12_worst_171 (lv_at hl 3 rfl) ?_
                exact j29 x13 hw H locs ls hP hD hS (lv_sub hl [1, 2, 0, 4] rfl)
              · replace hw := hw.2 c30; clear c30
                refine lv_iload hx hb dX12_worst_166 (lv_at hl 5 rfl) ?_
                refine lv_goto (tgt := 173) hx hb dX12_worst_168 (by decide) ?_
                exact j29 x22 hw H locs ls hP hD hS (lv_sub hl [1, 2, 0, 4] rfl)
          · intro j26 hw
            refine lv_icmp_le (tgt := 155) hx hb dX12_worst_147 (by decide) (fun c31 => ?_) (fun c31 => ?_)
            · replace hw := hw.1 c31; clear c31
              refine lv_iload hx hb dX12_worst_155 (lv_at hl 4 rfl) ?_
              exact j26 x14 hw H locs ls hP hD hS (lv_sub hl [5, 6, 3, 2, 1] rfl)
            · replace hw := hw.2 c31; clear c31
              refine lv_iload hx hb dX12_worst_150 (lv_at hl 2 rfl) ?_
              refine lv_goto (tgt := 157) hx hb dX12_worst_152 (by decide) ?_
              exact j26 x12 hw H locs ls hP hD hS (lv_sub hl [5, 6, 3, 2, 1] rfl)
        · replace hw := hw.2 c23; clear c23
          refine lv_aload_n hx hb dX12_worst_64 rfl (lv_at hl 5 rfl) ?_
          refine va_get (D := (dC, dI)) (ci := 12) (v := .ref h_row) (C := RX12) (T := TX12) (N := 22) hx hb hts inX12 hown hK hP 0 rfl rfl 1 (by decide) (hts _ (List.mem_cons_of_mem _ mw_169)) (fun _ h9 => h9) rfl dX12_worst_65 ?_
          refine lv_sipush (v := 557) hx hb dX12_worst_68 (by decide) ?_
          refine lv_iconst (v := 4) hx hb dX12_worst_71 (by decide) ?_
          refine lv_iload hx hb dX12_worst_72 (lv_at hl 2 rfl) ?_
          refine lv_imul hx hb dX12_worst_74 ?_
          refine lv_iadd hx hb dX12_worst_75 ?_
          refine lv_iload hx hb dX12_worst_76 (lv_at hl 0 rfl) ?_
          refine lv_iadd hx hb dX12_worst_78 ?_
          obtain ⟨h32, hw⟩ := hw
          refine xiald (k := (((557 : Int32) + ((4 : Int32) * x12)) + x21).toNatClampNeg) hx hb hK hP 1 0 rfl rfl h32 rfl dX12_worst_79 ?_
          refine lv_topi (fun x33 e_x33 => ?_)
          replace hw := hw x33 e_x33
          clear e_x33
          refine lv_istore (lv' := [(9, .int x33), (8, .int x21), (7, .int x22), (6, .int x12), (5, .int x13), (4, .int x14), (0, .ref h0), (3, .int v3)]) hx hb dX12_worst_80 hl (by decide) rfl ?_; clear hl; clear ls; intro ls hl
          refine lv_aload_n hx hb dX12_worst_82 rfl (lv_at hl 6 rfl) ?_
          refine va_get (D := (dC, dI)) (ci := 12) (v := .ref h_dealt) (C := RX12) (T := TX12) (N := 22) hx hb hts inX12 hown hK hP 0 rfl rfl 12 (by decide) (hts _ (List.mem_cons_of_mem _ mw_177)) (fun _ h9 => h9) rfl dX12_worst_83 ?_
          refine lv_iload hx hb dX12_worst_86 (lv_at hl 3 rfl) ?_
          obtain ⟨h34, hw⟩ := hw
          refine xiald (k := x12.toNatClampNeg) hx hb hK hP 3 0 rfl rfl h34 rfl dX12_worst_88 ?_
          refine lv_topi (fun x35 e_x35 => ?_)
          replace hw := hw x35 e_x35
          clear e_x35
          refine lv_istore (lv' := [(10, .int x35), (9, .int x33), (8, .int x21), (7, .int x22), (6, .int x12), (5, .int x13), (4, .int x14), (0, .ref h0), (3, .int v3)]) hx hb dX12_worst_89 hl (by decide) rfl ?_; clear hl; clear ls; intro ls hl
          refine lv_iload hx hb dX12_worst_91 (lv_at hl 3 rfl) ?_
          refine lv_iload hx hb dX12_worst_93 (lv_at hl 1 rfl) ?_
          refine lv_iload hx hb dX12_worst_95 (lv_at hl 0 rfl) ?_
          refine jn1 (Gg := fun (x36 : Int32) => ∀ (H : Heap) (locs : List Loc) (ls : Array Slot), va_P (dC, dI) vwCl (w_X12_worst h0 h_row h_kept h_isKept h_aside h_eight h_rows h_scales h_dealt h_bytes h_heardRow h_made h_comes h_backs h_fresh cy (0 : Int32) c_nodeS c_nodeD c_pairE c_pairO c_bit c_lag c_lagSum c_row f5 f6) H → va_D A (w_X12_worst h0 h_row h_kept h_isKept h_aside h_eight h_rows h_scales h_dealt h_bytes h_heardRow h_made h_comes h_backs h_fresh cy (0 : Int32) c_nodeS c_nodeD c_pairE c_pairO c_bit c_lag c_lagSum c_row f5 f6) → va_S A s.heap H locs → lv_has ls 11 [(0, .ref h0), (3, .int v3), (4, .int x14), (5, .int x13), (6, .int x12), (8, .int x21)] → W p l e { frames := 2, cells := 0, slots := 0, locals := 52 } s m av below meth c H locs 0 0 Q0 (F0 m 130 ls [.int x36, .int x33, .int x22])) hw ?_ ?_ <;> clear hw
          · clear hP hD hS hl; clear H locs ls; intro x36 hw H locs ls hP hD hS hl
            refine lv_isub hx hb dX12_worst_130 ?_
            have hPc := pSub (ws' := (w_X12_size cy)) hP [] rfl
            have hDc := dSub (ws' := (w_X12_size cy)) hD [] (by decide) rfl
            have hFc := va_free (wc := (w_X12_size cy)) hD hS hA [] rfl
            refine va_calli (va_runS (As := [.int (x33 - x36)]) (rest := [.int x22]) ⟨hx, hb, hml, hown, hts⟩ (c_X12_size l dC dI cy  H.size (x33 - x36) _ hw) (va_cwS 1 hts (goodS mw_647 mw_645 mw_646 mw_5) rfl rfl rfl (by decide +kernel) ⟨Nat.le_of_ble_eq_true rfl, Nat.le_of_ble_eq_true rfl⟩) ⟨PX_blind, PX_pre hPc hK hDc hG⟩ rfl rfl hl.1 rfl (lv_room (Nat.le_of_ble_eq_true rfl)) dX12_worst_131 ⟨Nat.zero_le _, Nat.zero_le _⟩) hS (fun q _ h => hFc q h) hFc ?_; clear hw hS; intro r39 _ t H1 locs1 ht hvm hw hB hz1 hk1 hS
            obtain ⟨hP1, -, -⟩ := hB
            rw [ht] at hP1
            replace hP := jC0 hP hD [] [0, 1, 2, 3] rfl hk1 hP1 (w_X12_worst h0 h_row h_kept h_isKept h_aside h_eight h_rows h_scales h_dealt h_bytes h_heardRow h_made h_comes h_backs h_fresh cy (0 : Int32) c_nodeS c_nodeD c_pairE c_pairO c_bit c_lag c_lagSum c_row f5 f6) rfl rfl rfl 4 rfl (by decide +kernel); clear hD; obtain ⟨hP, hD⟩ := hP
            replace hP : va_P (dC, dI) vwCl (w_X12_worst h0 h_row h_kept h_isKept h_aside h_eight h_rows h_scales h_dealt h_bytes h_heardRow h_made h_comes h_backs h_fresh cy (0 : Int32) c_nodeS c_nodeD c_pairE c_pairO c_bit c_lag c_lagSum c_row f5 f6) H1 := hP
            replace hD : va_D A (w_X12_worst h0 h_row h_kept h_isKept h_aside h_eight h_rows h_scales h_dealt h_bytes h_heardRow h_made h_comes h_backs h_fresh cy (0 : Int32) c_nodeS c_nodeD c_pairE c_pairO c_bit c_lag c_lagSum c_row f5 f6) := hD
            clear hPc hDc hFc hP1 hk1 hz1 hvm ht; clear t; clear H locs; obtain ⟨H, hH⟩ : ∃ H, H = H1 := ⟨_, rfl⟩; obtain ⟨locs, hlo⟩ : ∃ L, L = locs1 := ⟨_, rfl⟩; subst hH; subst hlo
            refine W.widen (k := 0) (n := 0) (Nat.le_refl 0) (Nat.le_refl 0) ?_
            refine lv_iadd hx hb dX12_worst_134 ?_
            refine lv_topi (fun x40 e_x40 => ?_)
            replace hw := hw x40 e_x40
            clear e_x40
            refine lv_istore (lv' := [(7, .int x40), (0, .ref h0), (3, .int v3), (4, .int x14), (5, .int x13), (6, .int x12), (8, .int x21)]) hx hb dX12_worst_135 hl (by decide) rfl ?_; clear hl; clear ls; intro ls hl
            refine lv_iinc (v := x21 + 1) (lv' := [(8, .int (x21 + 1)), (7, .int x40), (0, .ref h0), (3, .int v3), (4, .int x14), (5, .int x13), (6, .int x12)]) hx hb dX12_worst_137 hl (k := 6) rfl rfl (by decide) rfl ?_; clear hl; clear ls; intro ls hl
            refine lv_goto (tgt := 58) hx hb dX12_worst_140 (by decide) ?_
            exact ih20 (x21 + 1) x40 hw H locs ls hP hD hS (lv_sub hl [0, 1, 6, 5, 4, 2, 3] rfl)
          · intro j38 hw
            refine lv_if_ne (tgt := 104) hx hb dX12_worst_97 (by decide) (fun c41 => ?_) (fun c41 => ?_)
            · replace hw := hw.2 c41; clear c41
              refine lv_iload hx hb dX12_worst_104 (lv_at hl 1 rfl) ?_
              refine lv_aload_n hx hb dX12_worst_106 rfl (lv_at hl 7 rfl) ?_
              refine va_get (D := (dC, dI)) (ci := 12) (v := .ref h_scales) (C := RX12) (T := TX12) (N := 22) hx hb hts inX12 hown hK hP 0 rfl rfl 11 (by decide) (hts _ (List.mem_cons_of_mem _ mw_176)) (fun _ h9 => h9) rfl dX12_worst_107 ?_
              refine lv_iload hx hb dX12_worst_110 (lv_at hl 4 rfl) ?_
              obtain ⟨h42, hw⟩ := hw
              refine xiald (k := x12.toNatClampNeg) hx hb hK hP 2 0 rfl rfl h42 rfl dX12_worst_112 ?_
              refine lv_iload hx hb dX12_worst_113 (lv_at hl 0 rfl) ?_
              have hPc := pSub (ws' := (w_X12_quant cy)) hP [] rfl
              have hDc := dSub (ws' := (w_X12_quant cy)) hD [] (by decide) rfl
              have hFc := va_free (wc := (w_X12_quant cy)) hD hS hA [] rfl
              refine va_calli (va_runS (As := [.int x33, .int (f5 x12.toNatClampNeg), .int x35]) (rest := [.int x33, .int x22]) ⟨hx, hb, hml, hown, hts⟩ (c_X12_quant l dC dI cy  H.size x33 (f5 x12.toNatClampNeg) x35 _ hw) (va_cwS 3 hts (goodS mw_671 mw_669 mw_670 mw_5) rfl rfl rfl (by decide +kernel) ⟨Nat.le_of_ble_eq_true rfl, Nat.le_of_ble_eq_true rfl⟩) ⟨PX_blind, PX_pre hPc hK hDc hG⟩ rfl rfl hl.1 rfl (lv_room (Nat.le_of_ble_eq_true rfl)) dX12_worst_115 ⟨Nat.zero_le _, Nat.zero_le _⟩) hS (fun q _ h => hFc q h) hFc ?_; clear hw hS; intro r43 _ t H1 locs1 ht hvm hw hB hz1 hk1 hS
              obtain ⟨hP1, -, -⟩ := hB
              rw [ht] at hP1
              replace hP := jC0 hP hD [] [0, 1, 2, 3] rfl hk1 hP1 (w_X12_worst h0 h_row h_kept h_isKept h_aside h_eight h_rows h_scales h_dealt h_bytes h_heardRow h_made h_comes h_backs h_fresh cy (0 : Int32) c_nodeS c_nodeD c_pairE c_pairO c_bit c_lag c_lagSum c_row f5 f6) rfl rfl rfl 4 rfl (by decide +kernel); clear hD; obtain ⟨hP, hD⟩ := hP
              replace hP : va_P (dC, dI) vwCl (w_X12_worst h0 h_row h_kept h_isKept h_aside h_eight h_rows h_scales h_dealt h_bytes h_heardRow h_made h_comes h_backs h_fresh cy (0 : Int32) c_nodeS c_nodeD c_pairE c_pairO c_bit c_lag c_lagSum c_row f5 f6) H1 := hP
              replace hD : va_D A (w_X12_worst h0 h_row h_kept h_isKept h_aside h_eight h_rows h_scales h_dealt h_bytes h_heardRow h_made h_comes h_backs h_fresh cy (0 : Int32) c_nodeS c_nodeD c_pairE c_pairO c_bit c_lag c_lagSum c_row f5 f6) := hD
              clear hPc hDc hFc hP1 hk1 hz1 hvm ht; clear t; clear H locs; obtain ⟨H, hH⟩ : ∃ H, H = H1 := ⟨_, rfl⟩; obtain ⟨locs, hlo⟩ : ∃ L, L = locs1 := ⟨_, rfl⟩; subst hH; subst hlo
              refine W.widen (k := 0) (n := 0) (Nat.le_refl 0) (Nat.le_refl 0) ?_
              refine lv_aload_n hx hb dX12_worst_118 rfl (lv_at hl 7 rfl) ?_
              refine va_get (D := (dC, dI)) (ci := 12) (v := .ref h_scales) (C := RX12) (T := TX12) (N := 22) hx hb hts inX12 hown hK hP 0 rfl rfl 11 (by decide) (hts _ (List.mem_cons_of_mem _ mw_176)) (fun _ h9 => h9) rfl dX12_worst_119 ?_
              refine lv_iload hx hb dX12_worst_122 (lv_at hl 4 rfl) ?_
              obtain ⟨h44, hw⟩ := hw
              refine xiald (k := x12.toNatClampNeg) hx hb hK hP 2 0 rfl rfl h44 rfl dX12_worst_124 ?_
              refine lv_iload hx hb dX12_worst_125 (lv_at hl 0 rfl) ?_
              have hPc := pSub (ws' := (w_X12_unquant cy)) hP [] rfl
              have hDc := dSub (ws' := (w_X12_unquant cy)) hD [] (by decide) rfl
              have hFc := va_free (wc := (w_X12_unquant cy)) hD hS hA [] rfl
              refine va_calli (va_runS (As := [.int r43, .int (f5 x12.toNatClampNeg), .int x35]) (rest := [.int x33, .int x22]) ⟨hx, hb, hml, hown, hts⟩ (c_X12_unquant l dC dI cy  H.size r43 (f5 x12.toNatClampNeg) x35 _ hw) (va_cwS 3 hts (goodS mw_765 mw_763 mw_764 mw_5) rfl rfl rfl (by decide +kernel) ⟨Nat.le_of_ble_eq_true rfl, Nat.le_of_ble_eq_true rfl⟩) ⟨PX_blind, PX_pre hPc hK hDc hG⟩ rfl rfl hl.1 rfl (lv_room (Nat.le_of_ble_eq_true rfl)) dX12_worst_127 ⟨Nat.zero_le _, Nat.zero_le _⟩) hS (fun q _ h => hFc q h) hFc ?_; clear hw hS; intro r45 _ t H1 locs1 ht hvm hw hB hz1 hk1 hS
              obtain ⟨hP1, -, -⟩ := hB
              rw [ht] at hP1
              replace hP := jC0 hP hD [] [0, 1, 2, 3] rfl hk1 hP1 (w_X12_worst h0 h_row h_kept h_isKept h_aside h_eight h_rows h_scales h_dealt h_bytes h_heardRow h_made h_comes h_backs h_fresh cy (0 : Int32) c_nodeS c_nodeD c_pairE c_pairO c_bit c_lag c_lagSum c_row f5 f6) rfl rfl rfl 4 rfl (by decide +kernel); clear hD; obtain ⟨hP, hD⟩ := hP
              replace hP : va_P (dC, dI) vwCl (w_X12_worst h0 h_row h_kept h_isKept h_aside h_eight h_rows h_scales h_dealt h_bytes h_heardRow h_made h_comes h_backs h_fresh cy (0 : Int32) c_nodeS c_nodeD c_pairE c_pairO c_bit c_lag c_lagSum c_row f5 f6) H1 := hP
              replace hD : va_D A (w_X12_worst h0 h_row h_kept h_isKept h_aside h_eight h_rows h_scales h_dealt h_bytes h_heardRow h_made h_comes h_backs h_fresh cy (0 : Int32) c_nodeS c_nodeD c_pairE c_pairO c_bit c_lag c_lagSum c_row f5 f6) := hD
              clear hPc hDc hFc hP1 hk1 hz1 hvm ht; clear t; clear H locs; obtain ⟨H, hH⟩ : ∃ H, H = H1 := ⟨_, rfl⟩; obtain ⟨locs, hlo⟩ : ∃ L, L = locs1 := ⟨_, rfl⟩; subst hH; subst hlo
              refine W.widen (k := 0) (n := 0) (Nat.le_refl 0) (Nat.le_refl 0) ?_
              exact j38 r45 hw H locs ls hP hD hS (lv_sub hl [7, 8, 6, 5, 4, 2] rfl)
            · replace hw := hw.1 c41; clear c41
              refine lv_iconst (v := 0) hx hb dX12_worst_100 (by decide) ?_
              refine lv_goto (tgt := 130) hx hb dX12_worst_101 (by decide) ?_
              exact j38 (0 : Int32) hw H locs ls hP hD hS (lv_sub hl [7, 8, 6, 5, 4, 2] rfl)
    · replace hw := hw.1 c4; clear c4
      refine lv_iconst (v := -1) hx hb dX12_worst_24 (by decide) ?_
      subst hQe
      exact W.iret (v := (-1 : Int32)) hx hb hr (fun t ht hW => ⟨⟨(-1 : Int32), ((0 : Int32), c_scales, c_dealt), rfl, hw, by rw [ht]; exact hP, va_K.moved hW.alike hK, hD⟩, hS.F ht⟩) hS.2.2 dX12_worst_25
set_option maxHeartbeats 4000000 in
set_option maxRecDepth 100000 in
theorem c_X12_least (l : Launch) (dC : Nat → ClassId) (dI : Nat → Nat → Nat) (cy : Nat → ClassId) (h0 h_row h_kept h_isKept h_aside h_eight h_rows h_scales h_dealt h_bytes h_heardRow h_made h_comes h_backs h_fresh : Nat) (sz : Nat) (v1 : Int32) (v2 : Int32) (c_thrown : Int32) (c_nodeS : Int32) (c_nodeD : Int32) (c_pairE : Int32) (c_pairO : Int32) (c_bit : Int32) (c_lag : Int32) (c_lagSum : Int32) (c_row : Nat → Int32) (c_scales : Nat → Int32) (c_dealt : Nat → Int32) (post : Int32 → Int32 → (Nat → Int32) → (Nat → Int32) → Prop) (hw : wp_X12_least v1 v2 c_thrown c_row c_scales c_dealt post) : Met l yX12_least wsX12_least ({ frames := 3, cells := 0, slots := 0, locals := 79 }) (PX dC dI cy [.ref h0, .int v1, .int v2] sz (w_X12_least h0 h_row h_kept h_isKept h_aside h_eight h_rows h_scales h_dealt h_bytes h_heardRow h_made h_comes h_backs h_fresh cy c_thrown c_nodeS c_nodeD c_pairE c_pairO c_bit c_lag c_lagSum c_row c_scales c_dealt)) (va_Qi (fun (r : Int32) (u : Int32 × (Nat → Int32) × (Nat → Int32)) => post r u.1 u.2.1 u.2.2) (QX dC dI cy (va_A (w_X12_least h0 h_row h_kept h_isKept h_aside h_eight h_rows h_scales h_dealt h_bytes h_heardRow h_made h_comes h_backs h_fresh cy c_thrown c_nodeS c_nodeD c_pairE c_pairO c_bit c_lag c_lagSum c_row c_scales c_dealt) sz) (fun (u : Int32 × (Nat → Int32) × (Nat → Int32)) => w_X12_least h0 h_row h_kept h_isKept h_aside h_eight h_rows h_scales h_dealt h_bytes h_heardRow h_made h_comes h_backs h_fresh cy u.1 c_nodeS c_nodeD c_pairE c_pairO c_bit c_lag c_lagSum c_row u.2.1 u.2.2)) (va_A (w_X12_least h0 h_row h_kept h_isKept h_aside h_eight h_rows h_scales h_dealt h_bytes h_heardRow h_made h_comes h_backs h_fresh cy c_thrown c_nodeS c_nodeD c_pairE c_pairO c_bit c_lag c_lagSum c_row c_scales c_dealt) sz)) 0 0 (va_A (w_X12_least h0 h_row h_kept h_isKept h_aside h_eight h_rows h_scales h_dealt h_bytes h_heardRow h_made h_comes h_backs h_fresh cy c_thrown c_nodeS c_nodeD c_pairE c_pairO c_bit c_lag c_lagSum c_row c_scales c_dealt) sz) := by
  refine Met.ofW (cc := cX12_least) (maxL := 4) (ret := (some .int)) (by decide) rfl ?_
  intro p e s m args below meth c s₁ B hml hv
  obtain ⟨rfl, hsz, hP, hK, hD0, hG⟩ := hv
  have hx := B.exec
  have hb := B.bytes
  have hr := B.returns
  have hts := atoms_spec (ws := wsX12_least) B.pre
  have hown : s.vm.findClass RX12 = some m.cls := findClass_of_methodNamed B.named
  have hlocks := B.notSynchronized
  subst hsz
  have hD := hD0.self (sz := s.heap.size)
  generalize hAe : va_A (w_X12_least h0 h_row h_kept h_isKept h_aside h_eight h_rows h_scales h_dealt h_bytes h_heardRow h_made h_comes h_backs h_fresh cy c_thrown c_nodeS c_nodeD c_pairE c_pairO c_bit c_lag c_lagSum c_row c_scales c_dealt) s.heap.size = A at hD ⊢
  have hA : ∀ q : Nat, s.heap.size ≤ q → A q := fun q h => by rw [← hAe]; exact Or.inr h
  have hS : va_S A s.heap s.heap [] := va_S.rf
  have hl := lv_entry ([.ref h0, .int v1, .int v2]) (n := 4) (Nat.le_of_ble_eq_true rfl)
  rw [lg_entry_eq]
  generalize (lg_sl ([.ref h0, .int v1, .int v2]) ++ List.replicate (4 - (lg_sl ([.ref h0, .int v1, .int v2])).length) Slot.unset).toArray = ls at hl ⊢
  replace hl : lv_has ls 4 [(0, .ref h0), (1, .int v1), (2, .int v2)] := hl
  have inX12 : ∀ w ∈ u_ws RX12 TX12 22, w ∈ wsX12_least := fun w h => List.mem_cons_of_mem _ (inlX12 w h)
  clear hAe hD0 B
  unfold wp_X12_least at hw
  generalize hQe : MQ below _ _ s _ _ _ = Q0
  generalize ([.ref h0, .int v1, .int v2] : List Value).toArray = av at *
  obtain ⟨H, hH⟩ : ∃ H, H = s.heap := ⟨_, rfl⟩
  obtain ⟨locs, hlo⟩ : ∃ L : List Loc, L = [] := ⟨_, rfl⟩
  replace hP : va_P (dC, dI) vwCl (w_X12_least h0 h_row h_kept h_isKept h_aside h_eight h_rows h_scales h_dealt h_bytes h_heardRow h_made h_comes h_backs h_fresh cy c_thrown c_nodeS c_nodeD c_pairE c_pairO c_bit c_lag c_lagSum c_row c_scales c_dealt) H := by rw [hH]; exact hP
  replace hS : va_S A s.heap H locs := by rw [hH, hlo]; exact hS
  suffices hgo : W p l e ({ frames := 3, cells := 0, slots := 0, locals := 79 }) s m av below meth c H locs 0 0 Q0 (F0 m 0 ls []) by rw [hH, hlo] at hgo; exact hgo
  clear hH hlo
  refine lv_aload_n hx hb dX12_least_0 rfl (lv_at hl 0 rfl) ?_
  refine lv_iconst (v := 0) hx hb dX12_least_1 (by decide) ?_
  refine va_put (D := (dC, dI)) (ci := 12) (v := .int (0 : Int32)) (ty := .int) (C := RX12) (T := TX12) (N := 22) hx hb hts inX12 tyX12 tyX12_ok nmX12 hown hK hP hD hS 0 rfl rfl 0 (by decide) (hts _ (List.mem_cons_of_mem _ mw_200)) (fun _ h9 => h9) rfl (by decide +kernel) rfl rfl (Nat.le_of_ble_eq_true rfl) dX12_least_2 ?_; clear hP hD hS; clear H locs; intro H locs hP hD hS
  replace hP : va_P (dC, dI) vwCl (w_X12_least h0 h_row h_kept h_isKept h_aside h_eight h_rows h_scales h_dealt h_bytes h_heardRow h_made h_comes h_backs h_fresh cy (0 : Int32) c_nodeS c_nodeD c_pairE c_pairO c_bit c_lag c_lagSum c_row c_scales c_dealt) H := hP
  replace hD : va_D A (w_X12_least h0 h_row h_kept h_isKept h_aside h_eight h_rows h_scales h_dealt h_bytes h_heardRow h_made h_comes h_backs h_fresh cy (0 : Int32) c_nodeS c_nodeD c_pairE c_pairO c_bit c_lag c_lagSum c_row c_scales c_dealt) := hD
  refine lv_aload_n hx hb dX12_least_5 rfl (lv_at hl 0 rfl) ?_
  refine lv_iconst (v := 2) hx hb dX12_least_6 (by decide) ?_
  refine lv_iload_n hx hb dX12_least_7 rfl (lv_at hl 1 rfl) ?_
  have hPc := pSub (ws' := (w_X12_canDeal h0 h_row h_kept h_isKept h_aside h_eight h_rows h_scales h_dealt h_bytes h_heardRow h_made h_comes h_backs h_fresh cy (0 : Int32) c_nodeS c_nodeD c_pairE c_pairO c_bit c_lag c_lagSum c_row)) hP [0, 1] rfl
  have hDc := dSub (ws' := (w_X12_canDeal h0 h_row h_kept h_isKept h_aside h_eight h_rows h_scales h_dealt h_bytes h_heardRow h_made h_comes h_backs h_fresh cy (0 : Int32) c_nodeS c_nodeD c_pairE c_pairO c_bit c_lag c_lagSum c_row)) hD [0, 1] (by decide) rfl
  have hFc := va_free (wc := (w_X12_canDeal h0 h_row h_kept h_isKept h_aside h_eight h_rows h_scales h_dealt h_bytes h_heardRow h_made h_comes h_backs h_fresh cy (0 : Int32) c_nodeS c_nodeD c_pairE c_pairO c_bit c_lag c_lagSum c_row)) hD hS hA [0, 1] rfl
  refine va_calli (va_runV (As := [.int (2 : Int32), .int v1]) (rest := []) ⟨hx, hb, hml, hown, hts⟩ (c_X12_canDeal l dC dI cy h0 h_row h_kept h_isKept h_aside h_eight h_rows h_scales h_dealt h_bytes h_heardRow h_made h_comes h_backs h_fresh H.size (2 : Int32) v1 (0 : Int32) c_nodeS c_nodeD c_pairE c_pairO c_bit c_lag c_lagSum c_row _ hw) (cwV 2 hts (goodV mw_987 mw_984 mw_985 mw_986 mw_5) rfl rfl rfl (by decide +kernel) ⟨Nat.le_of_ble_eq_true rfl, Nat.le_of_ble_eq_true rfl⟩) ⟨PX_blind, va_recv hK hPc (ci := 12) (q0 := 0) rfl rfl, PX_pre hPc hK hDc hG⟩ rfl rfl hl.1 rfl (lv_room (Nat.le_of_ble_eq_true rfl)) dX12_least_8 ⟨Nat.zero_le _, Nat.zero_le _⟩) hS (fun q _ h => hFc q h) hFc ?_; clear hw hS; intro r1 _ t H1 locs1 ht hvm hw hB hz1 hk1 hS
  obtain ⟨hP1, -, -⟩ := hB
  rw [ht] at hP1
  replace hP := jC0 hP hD [0, 1] [2, 3] rfl hk1 hP1 (w_X12_least h0 h_row h_kept h_isKept h_aside h_eight h_rows h_scales h_dealt h_bytes h_heardRow h_made h_comes h_backs h_fresh cy (0 : Int32) c_nodeS c_nodeD c_pairE c_pairO c_bit c_lag c_lagSum c_row c_scales c_dealt) rfl rfl rfl 4 rfl (by decide +kernel); clear hD; obtain ⟨hP, hD⟩ := hP
  replace hP : va_P (dC, dI) vwCl (w_X12_least h0 h_row h_kept h_isKept h_aside h_eight h_rows h_scales h_dealt h_bytes h_heardRow h_made h_comes h_backs h_fresh cy (0 : Int32) c_nodeS c_nodeD c_pairE c_pairO c_bit c_lag c_lagSum c_row c_scales c_dealt) H1 := hP
  replace hD : va_D A (w_X12_least h0 h_row h_kept h_isKept h_aside h_eight h_rows h_scales h_dealt h_bytes h_heardRow h_made h_comes h_backs h_fresh cy (0 : Int32) c_nodeS c_nodeD c_pairE c_pairO c_bit c_lag c_lagSum c_row c_scales c_dealt) := hD
  clear hPc hDc hFc hP1 hk1 hz1 hvm ht; clear t; clear H locs; obtain ⟨H, hH⟩ : ∃ H, H = H1 := ⟨_, rfl⟩; obtain ⟨locs, hlo⟩ : ∃ L, L = locs1 := ⟨_, rfl⟩; subst hH; subst hlo
  refine W.widen (k := 0) (n := 0) (Nat.le_refl 0) (Nat.le_refl 0) ?_
  refine lv_if_ne (tgt := 16) hx hb dX12_least_11 (by decide) (fun c2 => ?_) (fun c2 => ?_)
  · replace hw := hw.2 c2; clear c2
    refine lv_iconst (v := 2) hx hb dX12_least_16 (by decide) ?_
    refine lv_istore_n (lv' := [(3, .int (2 : Int32)), (0, .ref h0), (1, .int v1), (2, .int v2)]) hx hb dX12_least_17 rfl hl (by decide) rfl ?_; clear hl; clear ls; intro ls hl
    obtain ⟨x3, e_x3⟩ : ∃ y : Int32, y = (2 : Int32) := ⟨_, rfl⟩
    replace hw := hw x3 e_x3
    replace hl : lv_has ls 4 [(3, .int x3), (0, .ref h0), (1, .int v1), (2, .int v2)] := by rw [e_x3]; exact hl
    clear e_x3
    replace hl := lv_sub (l' := [(3, .int x3), (0, .ref h0), (1, .int v1), (2, .int v2)]) hl [0, 1, 2, 3] rfl
    revert hl; revert hS; revert hD; revert hP; revert ls; revert locs; revert H
    revert hw; revert c_dealt; revert c_scales; revert x3
    refine Lz3_gr ?_; intro g4 ih5 x6 f7 f8 hw
    intro H locs ls hP hD hS hl
    refine lv_iload_n hx hb dX12_least_18 rfl (lv_at hl 0 rfl) ?_
    refine lv_sipush (v := 128) hx hb dX12_least_19 (by decide) ?_
    refine lv_icmp_gt (tgt := 43) hx hb dX12_least_22 (by decide) (fun c9 => ?_) (fun c9 => ?_)
    · replace hw := hw.1 c9; clear c9
      clear ih5
      refine lv_iconst (v := -1) hx hb dX12_least_43 (by decide) ?_
      subst hQe
      exact W.iret (v := (-1 : Int32)) hx hb hr (fun t ht hW => ⟨⟨(-1 : Int32), ((0 : Int32), f7, f8), rfl, hw, by rw [ht]; exact hP, va_K.moved hW.alike hK, hD⟩, hS.F ht⟩) hS.2.2 dX12_least_44
    · replace hw := hw.2 c9; clear c9
      refine lv_aload_n hx hb dX12_least_25 rfl (lv_at hl 1 rfl) ?_
      refine lv_iload_n hx hb dX12_least_26 rfl (lv_at hl 0 rfl) ?_
      refine lv_iload_n hx hb dX12_least_27 rfl (lv_at hl 2 rfl) ?_
      have hPc := pSub (ws' := (w_X12_costOf h0 h_row h_kept h_isKept h_aside h_eight h_rows h_scales h_dealt h_bytes h_heardRow h_made h_comes h_backs h_fresh cy (0 : Int32) c_nodeS c_nodeD c_pairE c_pairO c_bit c_lag c_lagSum c_row f7 f8)) hP [0, 1, 2, 3] rfl
      have hDc := dSub (ws' := (w_X12_costOf h0 h_row h_kept h_isKept h_aside h_eight h_rows h_scales h_dealt h_bytes h_heardRow h_made h_comes h_backs h_fresh cy (0 : Int32) c_nodeS c_nodeD c_pairE c_pairO c_bit c_lag c_lagSum c_row f7 f8)) hD [0, 1, 2, 3] (by decide) rfl
      have hFc := va_free (wc := (w_X12_costOf h0 h_row h_kept h_isKept h_aside h_eight h_rows h_scales h_dealt h_bytes h_heardRow h_made h_comes h_backs h_fresh cy (0 : Int32) c_nodeS c_nodeD c_pairE c_pairO c_bit c_lag c_lagSum c_row f7 f8)) hD hS hA [0, 1, 2, 3] rfl
      refine va_calli (va_runV (As := [.int x6, .int v1]) (rest := []) ⟨hx, hb, hml, hown, hts⟩ (c_X12_costOf l dC dI cy h0 h_row h_kept h_isKept h_aside h_eight h_rows h_scales h_dealt h_bytes h_heardRow h_made h_comes h_backs h_fresh H.size x6 v1 (0 : Int32) c_nodeS c_nodeD c_pairE c_pairO c_bit c_lag c_lagSum c_row f7 f8 _ hw) (cwV 2 hts (goodV mw_1008 mw_1005 mw_1006 mw_1007 mw_5) rfl rfl rfl (by decide +kernel) ⟨Nat.le_of_ble_eq_true rfl, Nat.le_of_ble_eq_true rfl⟩) ⟨PX_blind, va_recv hK hPc (ci := 12) (q0 := 0) rfl rfl, PX_pre hPc hK hDc hG⟩ rfl rfl hl.1 rfl (lv_room (Nat.le_of_ble_eq_true rfl)) dX12_least_28 ⟨Nat.zero_le _, Nat.zero_le _⟩) hS (fun q _ h => hFc q h) hFc ?_; clear hw hS; intro r12 u t H1 locs1 ht hvm hw hB hz1 hk1 hS
      obtain ⟨f10, f11⟩ := u
      try dsimp only at hw
      obtain ⟨hP1, -, -⟩ := hB
      rw [ht] at hP1
      replace hP := jC0 hP hD [0, 1, 2, 3] [] rfl hk1 hP1 (w_X12_least h0 h_row h_kept h_isKept h_aside h_eight h_rows h_scales h_dealt h_bytes h_heardRow h_made h_comes h_backs h_fresh cy (0 : Int32) c_nodeS c_nodeD c_pairE c_pairO c_bit c_lag c_lagSum c_row f10 f11) rfl rfl rfl 4 rfl (by decide +kernel); clear hD; obtain ⟨hP, hD⟩ := hP
      replace hP : va_P (dC, dI) vwCl (w_X12_least h0 h_row h_kept h_isKept h_aside h_eight h_rows h_scales h_dealt h_bytes h_heardRow h_made h_comes h_backs h_fresh cy (0 : Int32) c_nodeS c_nodeD c_pairE c_pairO c_bit c_lag c_lagSum c_row f10 f11) H1 := hP
      replace hD : va_D A (w_X12_least h0 h_row h_kept h_isKept h_aside h_eight h_rows h_scales h_dealt h_bytes h_heardRow h_made h_comes h_backs h_fresh cy (0 : Int32) c_nodeS c_nodeD c_pairE c_pairO c_bit c_lag c_lagSum c_row f10 f11) := hD
      clear hPc hDc hFc hP1 hk1 hz1 hvm ht; clear t; clear H locs; obtain ⟨H, hH⟩ : ∃ H, H = H1 := ⟨_, rfl⟩; obtain ⟨locs, hlo⟩ : ∃ L, L = locs1 := ⟨_, rfl⟩; subst hH; subst hlo
      refine W.widen (k := 0) (n := 0) (Nat.le_refl 0) (Nat.le_refl 0) ?_
      refine lv_iload_n hx hb dX12_least_31 rfl (lv_at hl 3 rfl) ?_
      refine lv_icmp_gt (tgt := 37) hx hb dX12_least_32 (by decide) (fun c13 => ?_) (fun c13 => ?_)
      · replace hw := hw.1 c13; clear c13
        refine lv_iinc (v := x6 + 1) (lv' := [(3, .int (x6 + 1)), (0, .ref h0), (1, .int v1), (2, .int v2)]) hx hb dX12_least_37 hl (k := 0) rfl rfl (by decide) rfl ?_; clear hl; clear ls; intro ls hl
        refine lv_goto (tgt := 18) hx hb dX12_least_40 (by decide) ?_
        exact ih5 (x6 + 1) f10 f11 hw H locs ls hP hD hS (lv_sub hl [0, 1, 2, 3] rfl)
      · replace hw := hw.2 c13; clear c13
        clear ih5
        refine lv_iload_n hx hb dX12_least_35 rfl (lv_at hl 0 rfl) ?_
        subst hQe
        exact W.iret (v := x6) hx hb hr (fun t ht hW => ⟨⟨x6, ((0 : Int32), f10, f11), rfl, hw, by rw [ht]; exact hP, va_K.moved hW.alike hK, hD⟩, hS.F ht⟩) hS.2.2 dX12_least_36
  · replace hw := hw.1 c2; clear c2
    refine lv_iconst (v := -1) hx hb dX12_least_14 (by decide) ?_
    subst hQe
    exact W.iret (v := (-1 : Int32)) hx hb hr (fun t ht hW => ⟨⟨(-1 : Int32), ((0 : Int32), c_scales, c_dealt), rfl, hw, by rw [ht]; exact hP, va_K.moved hW.alike hK, hD⟩, hS.F ht⟩) hS.2.2 dX12_least_15
set_option maxHeartbeats 4000000 in
set_option maxRecDepth 100000 in
theorem c_X12_paired (l : Launch) (dC : Nat → ClassId) (dI : Nat → Nat → Nat) (cy : Nat → ClassId) (h0 h_row h_kept h_isKept h_aside h_eight h_rows h_scales h_dealt h_bytes h_heardRow h_made h_comes h_backs h_fresh : Nat) (sz : Nat) (v1 : Int32) (v2 : Int32) (c_thrown : Int32) (c_nodeS : Int32) (c_nodeD : Int32) (c_pairE : Int32) (c_pairO : Int32) (c_bit : Int32) (c_lag : Int32) (c_lagSum : Int32) (c_row : Nat → Int32) (post : Int32 → Int32 → Prop) (hw : wp_X12_paired v1 v2 c_thrown c_row post) : Met l yX12_paired wsX12_paired ({ frames := 2, cells := 0, slots := 0, locals := 48 }) (PX dC dI cy [.ref h0, .int v1, .int v2] sz (w_X12_paired h0 h_row h_kept h_isKept h_aside h_eight h_rows h_scales h_dealt h_bytes h_heardRow h_made h_comes h_backs h_fresh cy c_thrown c_nodeS c_nodeD c_pairE c_pairO c_bit c_lag c_lagSum c_row)) (va_Qi (fun (r : Int32) (u : Int32) => post r u) (QX dC dI cy (va_A (w_X12_paired h0 h_row h_kept h_isKept h_aside h_eight h_rows h_scales h_dealt h_bytes h_heardRow h_made h_comes h_backs h_fresh cy c_thrown c_nodeS c_nodeD c_pairE c_pairO c_bit c_lag c_lagSum c_row) sz) (fun (u : Int32) => w_X12_paired h0 h_row h_kept h_isKept h_aside h_eight h_rows h_scales h_dealt h_bytes h_heardRow h_made h_comes h_backs h_fresh cy u c_nodeS c_nodeD c_pairE c_pairO c_bit c_lag c_lagSum c_row)) (va_A (w_X12_paired h0 h_row h_kept h_isKept h_aside h_eight h_rows h_scales h_dealt h_bytes h_heardRow h_made h_comes h_backs h_fresh cy c_thrown c_nodeS c_nodeD c_pairE c_pairO c_bit c_lag c_lagSum c_row) sz)) 0 0 (va_A (w_X12_paired h0 h_row h_kept h_isKept h_aside h_eight h_rows h_scales h_dealt h_bytes h_heardRow h_made h_comes h_backs h_fresh cy c_thrown c_nodeS c_nodeD c_pairE c_pairO c_bit c_lag c_lagSum c_row) sz) := by
  refine Met.ofW (cc := cX12_paired) (maxL := 3) (ret := (some .int)) (by decide) rfl ?_
  intro p e s m args below meth c s₁ B hml hv
  obtain ⟨rfl, hsz, hP, hK, hD0, hG⟩ := hv
  have hx := B.exec
  have hb := B.bytes
  have hr := B.returns
  have hts := atoms_spec (ws := wsX12_paired) B.pre
  have hown : s.vm.findClass RX12 = some m.cls := findClass_of_methodNamed B.named
  have hlocks := B.notSynchronized
  subst hsz
  have hD := hD0.self (sz := s.heap.size)
  generalize hAe : va_A (w_X12_paired h0 h_row h_kept h_isKept h_aside h_eight h_rows h_scales h_dealt h_bytes h_heardRow h_made h_comes h_backs h_fresh cy c_thrown c_nodeS c_nodeD c_pairE c_pairO c_bit c_lag c_lagSum c_row) s.heap.size = A at hD ⊢
  have hA : ∀ q : Nat, s.heap.size ≤ q → A q := fun q h => by rw [← hAe]; exact Or.inr h
  have hS : va_S A s.heap s.heap [] := va_S.rf
  have hl := lv_entry ([.ref h0, .int v1, .int v2]) (n := 3) (Nat.le_of_ble_eq_true rfl)
  rw [lg_entry_eq]
  generalize (lg_sl ([.ref h0, .int v1, .int v2]) ++ List.replicate (3 - (lg_sl ([.ref h0, .int v1, .int v2])).length) Slot.unset).toArray = ls at hl ⊢
  replace hl : lv_has ls 3 [(0, .ref h0), (1, .int v1), (2, .int v2)] := hl
  have inX12 : ∀ w ∈ u_ws RX12 TX12 22, w ∈ wsX12_paired := fun w h => List.mem_cons_of_mem _ (inlX12 w h)
  clear hAe hD0 B
  unfold wp_X12_paired at hw
  generalize hQe : MQ below _ _ s _ _ _ = Q0
  generalize ([.ref h0, .int v1, .int v2] : List Value).toArray = av at *
  obtain ⟨H, hH⟩ : ∃ H, H = s.heap := ⟨_, rfl⟩
  obtain ⟨locs, hlo⟩ : ∃ L : List Loc, L = [] := ⟨_, rfl⟩
  replace hP : va_P (dC, dI) vwCl (w_X12_paired h0 h_row h_kept h_isKept h_aside h_eight h_rows h_scales h_dealt h_bytes h_heardRow h_made h_comes h_backs h_fresh cy c_thrown c_nodeS c_nodeD c_pairE c_pairO c_bit c_lag c_lagSum c_row) H := by rw [hH]; exact hP
  replace hS : va_S A s.heap H locs := by rw [hH, hlo]; exact hS
  suffices hgo : W p l e ({ frames := 2, cells := 0, slots := 0, locals := 48 }) s m av below meth c H locs 0 0 Q0 (F0 m 0 ls []) by rw [hH, hlo] at hgo; exact hgo
  clear hH hlo
  refine lv_aload_n hx hb dX12_paired_0 rfl (lv_at hl 0 rfl) ?_
  refine lv_iconst (v := 0) hx hb dX12_paired_1 (by decide) ?_
  refine va_put (D := (dC, dI)) (ci := 12) (v := .int (0 : Int32)) (ty := .int) (C := RX12) (T := TX12) (N := 22) hx hb hts inX12 tyX12 tyX12_ok nmX12 hown hK hP hD hS 0 rfl rfl 0 (by decide) (hts _ (List.mem_cons_of_mem _ mw_200)) (fun _ h9 => h9) rfl (by decide +kernel) rfl rfl (Nat.le_of_ble_eq_true rfl) dX12_paired_2 ?_; clear hP hD hS; clear H locs; intro H locs hP hD hS
  replace hP : va_P (dC, dI) vwCl (w_X12_paired h0 h_row h_kept h_isKept h_aside h_eight h_rows h_scales h_dealt h_bytes h_heardRow h_made h_comes h_backs h_fresh cy (0 : Int32) c_nodeS c_nodeD c_pairE c_pairO c_bit c_lag c_lagSum c_row) H := hP
  replace hD : va_D A (w_X12_paired h0 h_row h_kept h_isKept h_aside h_eight h_rows h_scales h_dealt h_bytes h_heardRow h_made h_comes h_backs h_fresh cy (0 : Int32) c_nodeS c_nodeD c_pairE c_pairO c_bit c_lag c_lagSum c_row) := hD
  refine lv_aload_n hx hb dX12_paired_5 rfl (lv_at hl 0 rfl) ?_
  have hPc := pSub (ws' := (w_X12_isCoded h0 h_row h_kept h_isKept h_aside h_eight h_rows h_scales h_dealt h_bytes h_heardRow h_made h_comes h_backs h_fresh cy (0 : Int32) c_nodeS c_nodeD c_pairE c_pairO c_bit c_lag c_lagSum c_row)) hP [0, 1] rfl
  have hDc := dSub (ws' := (w_X12_isCoded h0 h_row h_kept h_isKept h_aside h_eight h_rows h_scales h_dealt h_bytes h_heardRow h_made h_comes h_backs h_fresh cy (0 : Int32) c_nodeS c_nodeD c_pairE c_pairO c_bit c_lag c_lagSum c_row)) hD [0, 1] (by decide) rfl
  have hFc := va_free (wc := (w_X12_isCoded h0 h_row h_kept h_isKept h_aside h_eight h_rows h_scales h_dealt h_bytes h_heardRow h_made h_comes h_backs h_fresh cy (0 : Int32) c_nodeS c_nodeD c_pairE c_pairO c_bit c_lag c_lagSum c_row)) hD hS hA [0, 1] rfl
  refine va_calli (va_runV (As := []) (rest := []) ⟨hx, hb, hml, hown, hts⟩ (c_X12_isCoded l dC dI cy h0 h_row h_kept h_isKept h_aside h_eight h_rows h_scales h_dealt h_bytes h_heardRow h_made h_comes h_backs h_fresh H.size (0 : Int32) c_nodeS c_nodeD c_pairE c_pairO c_bit c_lag c_lagSum c_row _ hw) (cwV 0 hts (goodV mw_935 mw_932 mw_933 mw_934 mw_5) rfl rfl rfl (by decide +kernel) ⟨Nat.le_of_ble_eq_true rfl, Nat.le_of_ble_eq_true rfl⟩) ⟨PX_blind, va_recv hK hPc (ci := 12) (q0 := 0) rfl rfl, PX_pre hPc hK hDc hG⟩ rfl rfl hl.1 rfl (lv_room (Nat.le_of_ble_eq_true rfl)) dX12_paired_6 ⟨Nat.zero_le _, Nat.zero_le _⟩) hS (fun q _ h => hFc q h) hFc ?_; clear hw hS; intro r1 _ t H1 locs1 ht hvm hw hB hz1 hk1 hS
  obtain ⟨hP1, -, -⟩ := hB
  rw [ht] at hP1
  replace hP := jC0 hP hD [0, 1] [] rfl hk1 hP1 (w_X12_paired h0 h_row h_kept h_isKept h_aside h_eight h_rows h_scales h_dealt h_bytes h_heardRow h_made h_comes h_backs h_fresh cy (0 : Int32) c_nodeS c_nodeD c_pairE c_pairO c_bit c_lag c_lagSum c_row) rfl rfl rfl 2 rfl (by decide +kernel); clear hD; obtain ⟨hP, hD⟩ := hP
  replace hP : va_P (dC, dI) vwCl (w_X12_paired h0 h_row h_kept h_isKept h_aside h_eight h_rows h_scales h_dealt h_bytes h_heardRow h_made h_comes h_backs h_fresh cy (0 : Int32) c_nodeS c_nodeD c_pairE c_pairO c_bit c_lag c_lagSum c_row) H1 := hP
  replace hD : va_D A (w_X12_paired h0 h_row h_kept h_isKept h_aside h_eight h_rows h_scales h_dealt h_bytes h_heardRow h_made h_comes h_backs h_fresh cy (0 : Int32) c_nodeS c_nodeD c_pairE c_pairO c_bit c_lag c_lagSum c_row) := hD
  clear hPc hDc hFc hP1 hk1 hz1 hvm ht; clear t; clear H locs; obtain ⟨H, hH⟩ : ∃ H, H = H1 := ⟨_, rfl⟩; obtain ⟨locs, hlo⟩ : ∃ L, L = locs1 := ⟨_, rfl⟩; subst hH; subst hlo
  refine W.widen (k := 0) (n := 0) (Nat.le_refl 0) (Nat.le_refl 0) ?_
  refine lv_if_eq (tgt := 52) hx hb dX12_paired_9 (by decide) (fun c2 => ?_) (fun c2 => ?_)
  · replace hw := hw.1 c2; clear c2
    refine lv_iconst (v := -1) hx hb dX12_paired_52 (by decide) ?_
    subst hQe
    exact W.iret (v := (-1 : Int32)) hx hb hr (fun t ht hW => ⟨⟨(-1 : Int32), (0 : Int32), rfl, hw, by rw [ht]; exact hP, va_K.moved hW.alike hK, hD⟩, hS.F ht⟩) hS.2.2 dX12_paired_53
  · replace hw := hw.2 c2; clear c2
    refine lv_iload_n hx hb dX12_paired_12 rfl (lv_at hl 1 rfl) ?_
    refine lv_i2l (v := v1.toInt64) hx hb dX12_paired_13 rfl ?_
    refine lv_lconst (v := 0) hx hb dX12_paired_14 (by decide) ?_
    refine lv_ldc2 (v := 7) hx hb hown (hts _ (List.mem_cons_of_mem _ mw_240)) dX12_paired_15 ?_
    have hPc := pSub (ws' := (w_X12_in cy)) hP [] rfl
    have hDc := dSub (ws' := (w_X12_in cy)) hD [] (by decide) rfl
    have hFc := va_free (wc := (w_X12_in cy)) hD hS hA [] rfl
    refine va_calli (va_runS (As := [.long (v1.toInt64), .long (0 : Int64), .long (7 : Int64)]) (rest := []) ⟨hx, hb, hml, hown, hts⟩ (c_X12_in l dC dI cy  H.size (v1.toInt64) (0 : Int64) (7 : Int64) _ hw) (va_cwS 3 hts (goodS mw_207 mw_205 mw_206 mw_5) rfl rfl rfl (by decide +kernel) ⟨Nat.le_of_ble_eq_true rfl, Nat.le_of_ble_eq_true rfl⟩) ⟨PX_blind, PX_pre hPc hK hDc hG⟩ rfl rfl hl.1 rfl (lv_room (Nat.le_of_ble_eq_true rfl)) dX12_paired_18 ⟨Nat.zero_le _, Nat.zero_le _⟩) hS (fun q _ h => hFc q h) hFc ?_; clear hw hS; intro r3 _ t H1 locs1 ht hvm hw hB hz1 hk1 hS
    obtain ⟨hP1, -, -⟩ := hB
    rw [ht] at hP1
    replace hP := jC0 hP hD [] [0, 1] rfl hk1 hP1 (w_X12_paired h0 h_row h_kept h_isKept h_aside h_eight h_rows h_scales h_dealt h_bytes h_heardRow h_made h_comes h_backs h_fresh cy (0 : Int32) c_nodeS c_nodeD c_pairE c_pairO c_bit c_lag c_lagSum c_row) rfl rfl rfl 2 rfl (by decide +kernel); clear hD; obtain ⟨hP, hD⟩ := hP
    replace hP : va_P (dC, dI) vwCl (w_X12_paired h0 h_row h_kept h_isKept h_aside h_eight h_rows h_scales h_dealt h_bytes h_heardRow h_made h_comes h_backs h_fresh cy (0 : Int32) c_nodeS c_nodeD c_pairE c_pairO c_bit c_lag c_lagSum c_row) H1 := hP
    replace hD : va_D A (w_X12_paired h0 h_row h_kept h_isKept h_aside h_eight h_rows h_scales h_dealt h_bytes h_heardRow h_made h_comes h_backs h_fresh cy (0 : Int32) c_nodeS c_nodeD c_pairE c_pairO c_bit c_lag c_lagSum c_row) := hD
    clear hPc hDc hFc hP1 hk1 hz1 hvm ht; clear t; clear H locs; obtain ⟨H, hH⟩ : ∃ H, H = H1 := ⟨_, rfl⟩; obtain ⟨locs, hlo⟩ : ∃ L, L = locs1 := ⟨_, rfl⟩; subst hH; subst hlo
    refine W.widen (k := 0) (n := 0) (Nat.le_refl 0) (Nat.le_refl 0) ?_
    refine lv_if_eq (tgt := 52) hx hb dX12_paired_21 (by decide) (fun c4 => ?_) (fun c4 => ?_)
    · replace hw := hw.1 c4; clear c4
      refine lv_iconst (v := -1) hx hb dX12_paired_52 (by decide) ?_
      subst hQe
      exact W.iret (v := (-1 : Int32)) hx hb hr (fun t ht hW => ⟨⟨(-1 : Int32), (0 : Int32), rfl, hw, by rw [ht]; exact hP, va_K.moved hW.alike hK, hD⟩, hS.F ht⟩) hS.2.2 dX12_paired_53
    · replace hw := hw.2 c4; clear c4
      refine lv_iload_n hx hb dX12_paired_24 rfl (lv_at hl 2 rfl) ?_
      refine lv_i2l (v := v2.toInt64) hx hb dX12_paired_25 rfl ?_
      refine lv_lconst (v := 0) hx hb dX12_paired_26 (by decide) ?_
      refine lv_lconst (v := 1) hx hb dX12_paired_27 (by decide) ?_
      have hPc := pSub (ws' := (w_X12_in cy)) hP [] rfl
      have hDc := dSub (ws' := (w_X12_in cy)) hD [] (by decide) rfl
      have hFc := va_free (wc := (w_X12_in cy)) hD hS hA [] rfl
      refine va_calli (va_runS (As := [.long (v2.toInt64), .long (0 : Int64), .long (1 : Int64)]) (rest := []) ⟨hx, hb, hml, hown, hts⟩ (c_X12_in l dC dI cy  H.size (v2.toInt64) (0 : Int64) (1 : Int64) _ hw) (va_cwS 3 hts (goodS mw_207 mw_205 mw_206 mw_5) rfl rfl rfl (by decide +kernel) ⟨Nat.le_of_ble_eq_true rfl, Nat.le_of_ble_eq_true rfl⟩) ⟨PX_blind, PX_pre hPc hK hDc hG⟩ rfl rfl hl.1 rfl (lv_room (Nat.le_of_ble_eq_true rfl)) dX12_paired_28 ⟨Nat.zero_le _, Nat.zero_le _⟩) hS (fun q _ h => hFc q h) hFc ?_; clear hw hS; intro r5 _ t H1 locs1 ht hvm hw hB hz1 hk1 hS
      obtain ⟨hP1, -, -⟩ := hB
      rw [ht] at hP1
      replace hP := jC0 hP hD [] [0, 1] rfl hk1 hP1 (w_X12_paired h0 h_row h_kept h_isKept h_aside h_eight h_rows h_scales h_dealt h_bytes h_heardRow h_made h_comes h_backs h_fresh cy (0 : Int32) c_nodeS c_nodeD c_pairE c_pairO c_bit c_lag c_lagSum c_row) rfl rfl rfl 2 rfl (by decide +kernel); clear hD; obtain ⟨hP, hD⟩ := hP
      replace hP : va_P (dC, dI) vwCl (w_X12_paired h0 h_row h_kept h_isKept h_aside h_eight h_rows h_scales h_dealt h_bytes h_heardRow h_made h_comes h_backs h_fresh cy (0 : Int32) c_nodeS c_nodeD c_pairE c_pairO c_bit c_lag c_lagSum c_row) H1 := hP
      replace hD : va_D A (w_X12_paired h0 h_row h_kept h_isKept h_aside h_eight h_rows h_scales h_dealt h_bytes h_heardRow h_made h_comes h_backs h_fresh cy (0 : Int32) c_nodeS c_nodeD c_pairE c_pairO c_bit c_lag c_lagSum c_row) := hD
      clear hPc hDc hFc hP1 hk1 hz1 hvm ht; clear t; clear H locs; obtain ⟨H, hH⟩ : ∃ H, H = H1 := ⟨_, rfl⟩; obtain ⟨locs, hlo⟩ : ∃ L, L = locs1 := ⟨_, rfl⟩; subst hH; subst hlo
      refine W.widen (k := 0) (n := 0) (Nat.le_refl 0) (Nat.le_refl 0) ?_
      refine lv_if_eq (tgt := 52) hx hb dX12_paired_31 (by decide) (fun c6 => ?_) (fun c6 => ?_)
      · replace hw := hw.1 c6; clear c6
        refine lv_iconst (v := -1) hx hb dX12_paired_52 (by decide) ?_
        subst hQe
        exact W.iret (v := (-1 : Int32)) hx hb hr (fun t ht hW => ⟨⟨(-1 : Int32), (0 : Int32), rfl, hw, by rw [ht]; exact hP, va_K.moved hW.alike hK, hD⟩, hS.F ht⟩) hS.2.2 dX12_paired_53
      · replace hw := hw.2 c6; clear c6
        refine lv_aload_n hx hb dX12_paired_34 rfl (lv_at hl 0 rfl) ?_
        refine lv_iload_n hx hb dX12_paired_35 rfl (lv_at hl 1 rfl) ?_
        refine lv_iload_n hx hb dX12_paired_36 rfl (lv_at hl 2 rfl) ?_
        refine lv_iconst (v := 1) hx hb dX12_paired_37 (by decide) ?_
        refine jn1 (Gg := fun (x7 : Int32) => ∀ (H : Heap) (locs : List Loc) (ls : Array Slot), va_P (dC, dI) vwCl (w_X12_paired h0 h_row h_kept h_isKept h_aside h_eight h_rows h_scales h_dealt h_bytes h_heardRow h_made h_comes h_backs h_fresh cy (0 : Int32) c_nodeS c_nodeD c_pairE c_pairO c_bit c_lag c_lagSum c_row) H → va_D A (w_X12_paired h0 h_row h_kept h_isKept h_aside h_eight h_rows h_scales h_dealt h_bytes h_heardRow h_made h_comes h_backs h_fresh cy (0 : Int32) c_nodeS c_nodeD c_pairE c_pairO c_bit c_lag c_lagSum c_row) → va_S A s.heap H locs → lv_has ls 3 [] → W p l e { frames := 2, cells := 0, slots := 0, locals := 48 } s m av below meth c H locs 0 0 Q0 (F0 m 46 ls [.int x7, .int v1, .ref h0])) hw ?_ ?_ <;> clear hw
        · clear hP hD hS hl; clear H locs ls; intro x7 hw H locs ls hP hD hS hl
          have hPc := pSub (ws' := (w_X12_sizes h0 h_row h_kept h_isKept h_aside h_eight h_rows h_scales h_dealt h_bytes h_heardRow h_made h_comes h_backs h_fresh cy (0 : Int32) c_nodeS c_nodeD c_pairE c_pairO c_bit c_lag c_lagSum c_row)) hP [0, 1] rfl
          have hDc := dSub (ws' := (w_X12_sizes h0 h_row h_kept h_isKept h_aside h_eight h_rows h_scales h_dealt h_bytes h_heardRow h_made h_comes h_backs h_fresh cy (0 : Int32) c_nodeS c_nodeD c_pairE c_pairO c_bit c_lag c_lagSum c_row)) hD [0, 1] (by decide) rfl
          have hFc := va_free (wc := (w_X12_sizes h0 h_row h_kept h_isKept h_aside h_eight h_rows h_scales h_dealt h_bytes h_heardRow h_made h_comes h_backs h_fresh cy (0 : Int32) c_nodeS c_nodeD c_pairE c_pairO c_bit c_lag c_lagSum c_row)) hD hS hA [0, 1] rfl
          refine va_calli (va_runV (As := [.int v1, .int x7]) (rest := []) ⟨hx, hb, hml, hown, hts⟩ (c_X12_sizes l dC dI cy h0 h_row h_kept h_isKept h_aside h_eight h_rows h_scales h_dealt h_bytes h_heardRow h_made h_comes h_backs h_fresh H.size v1 x7 (0 : Int32) c_nodeS c_nodeD c_pairE c_pairO c_bit c_lag c_lagSum c_row _ hw) (cwV 2 hts (goodV mw_641 mw_638 mw_639 mw_640 mw_5) rfl rfl rfl (by decide +kernel) ⟨Nat.le_of_ble_eq_true rfl, Nat.le_of_ble_eq_true rfl⟩) ⟨PX_blind, va_recv hK hPc (ci := 12) (q0 := 0) rfl rfl, PX_pre hPc hK hDc hG⟩ rfl rfl hl.1 rfl (lv_room (Nat.le_of_ble_eq_true rfl)) dX12_paired_46 ⟨Nat.zero_le _, Nat.zero_le _⟩) hS (fun q _ h => hFc q h) hFc ?_; clear hw hS; intro r10 _ t H1 locs1 ht hvm hw hB hz1 hk1 hS
          obtain ⟨hP1, -, -⟩ := hB
          rw [ht] at hP1
          replace hP := jC0 hP hD [0, 1] [] rfl hk1 hP1 (w_X12_paired h0 h_row h_kept h_isKept h_aside h_eight h_rows h_scales h_dealt h_bytes h_heardRow h_made h_comes h_backs h_fresh cy (0 : Int32) c_nodeS c_nodeD c_pairE c_pairO c_bit c_lag c_lagSum c_row) rfl rfl rfl 2 rfl (by decide +kernel); clear hD; obtain ⟨hP, hD⟩ := hP
          replace hP : va_P (dC, dI) vwCl (w_X12_paired h0 h_row h_kept h_isKept h_aside h_eight h_rows h_scales h_dealt h_bytes h_heardRow h_made h_comes h_backs h_fresh cy (0 : Int32) c_nodeS c_nodeD c_pairE c_pairO c_bit c_lag c_lagSum c_row) H1 := hP
          replace hD : va_D A (w_X12_paired h0 h_row h_kept h_isKept h_aside h_eight h_rows h_scales h_dealt h_bytes h_heardRow h_made h_comes h_backs h_fresh cy (0 : Int32) c_nodeS c_nodeD c_pairE c_pairO c_bit c_lag c_lagSum c_row) := hD
          clear hPc hDc hFc hP1 hk1 hz1 hvm ht; clear t; clear H locs; obtain ⟨H, hH⟩ : ∃ H, H = H1 := ⟨_, rfl⟩; obtain ⟨locs, hlo⟩ : ∃ L, L = locs1 := ⟨_, rfl⟩; subst hH; subst hlo
          refine W.widen (k := 0) (n := 0) (Nat.le_refl 0) (Nat.le_refl 0) ?_
          refine lv_goto (tgt := 53) hx hb dX12_paired_49 (by decide) ?_
          subst hQe
          exact W.iret (v := r10) hx hb hr (fun t ht hW => ⟨⟨r10, (0 : Int32), rfl, hw, by rw [ht]; exact hP, va_K.moved hW.alike hK, hD⟩, hS.F ht⟩) hS.2.2 dX12_paired_53
        · intro j9 hw
          refine lv_icmp_ne (tgt := 45) hx hb dX12_paired_38 (by decide) (fun c11 => ?_) (fun c11 => ?_)
          · replace hw := hw.2 c11; clear c11
            refine lv_iconst (v := 0) hx hb dX12_paired_45 (by decide) ?_
            exact j9 (0 : Int32) hw H locs ls hP hD hS (lv_sub hl [] rfl)
          · replace hw := hw.1 c11; clear c11
            refine lv_iconst (v := 1) hx hb dX12_paired_41 (by decide) ?_
            refine lv_goto (tgt := 46) hx hb dX12_paired_42 (by decide) ?_
            exact j9 (1 : Int32) hw H locs ls hP hD hS (lv_sub hl [] rfl)
set_option maxHeartbeats 4000000 in
set_option maxRecDepth 100000 in
theorem c_X12_share (l : Launch) (dC : Nat → ClassId) (dI : Nat → Nat → Nat) (cy : Nat → ClassId) (h0 h_row h_kept h_isKept h_aside h_eight h_rows h_scales h_dealt h_bytes h_heardRow h_made h_comes h_backs h_fresh : Nat) (sz : Nat) (v1 : Int32) (c_thrown : Int32) (c_nodeS : Int32) (c_nodeD : Int32) (c_pairE : Int32) (c_pairO : Int32) (c_bit : Int32) (c_lag : Int32) (c_lagSum : Int32) (c_row : Nat → Int32) (post : Int32 → Int32 → Prop) (hw : wp_X12_share v1 c_thrown c_row post) : Met l yX12_share wsX12_share ({ frames := 1, cells := 0, slots := 0, locals := 25 }) (PX dC dI cy [.ref h0, .int v1] sz (w_X12_share h0 h_row h_kept h_isKept h_aside h_eight h_rows h_scales h_dealt h_bytes h_heardRow h_made h_comes h_backs h_fresh cy c_thrown c_nodeS c_nodeD c_pairE c_pairO c_bit c_lag c_lagSum c_row)) (va_Qi (fun (r : Int32) (u : Int32) => post r u) (QX dC dI cy (va_A (w_X12_share h0 h_row h_kept h_isKept h_aside h_eight h_rows h_scales h_dealt h_bytes h_heardRow h_made h_comes h_backs h_fresh cy c_thrown c_nodeS c_nodeD c_pairE c_pairO c_bit c_lag c_lagSum c_row) sz) (fun (u : Int32) => w_X12_share h0 h_row h_kept h_isKept h_aside h_eight h_rows h_scales h_dealt h_bytes h_heardRow h_made h_comes h_backs h_fresh cy u c_nodeS c_nodeD c_pairE c_pairO c_bit c_lag c_lagSum c_row)) (va_A (w_X12_share h0 h_row h_kept h_isKept h_aside h_eight h_rows h_scales h_dealt h_bytes h_heardRow h_made h_comes h_backs h_fresh cy c_thrown c_nodeS c_nodeD c_pairE c_pairO c_bit c_lag c_lagSum c_row) sz)) 0 0 (va_A (w_X12_share h0 h_row h_kept h_isKept h_aside h_eight h_rows h_scales h_dealt h_bytes h_heardRow h_made h_comes h_backs h_fresh cy c_thrown c_nodeS c_nodeD c_pairE c_pairO c_bit c_lag c_lagSum c_row) sz) := by
  refine Met.ofW (cc := cX12_share) (maxL := 4) (ret := (some .int)) (by decide) rfl ?_
  intro p e s m args below meth c s₁ B hml hv
  obtain ⟨rfl, hsz, hP, hK, hD0, hG⟩ := hv
  have hx := B.exec
  have hb := B.bytes
  have hr := B.returns
  have hts := atoms_spec (ws := wsX12_share) B.pre
  have hown : s.vm.findClass RX12 = some m.cls := findClass_of_methodNamed B.named
  have hlocks := B.notSynchronized
  subst hsz
  have hD := hD0.self (sz := s.heap.size)
  generalize hAe : va_A (w_X12_share h0 h_row h_kept h_isKept h_aside h_eight h_rows h_scales h_dealt h_bytes h_heardRow h_made h_comes h_backs h_fresh cy c_thrown c_nodeS c_nodeD c_pairE c_pairO c_bit c_lag c_lagSum c_row) s.heap.size = A at hD ⊢
  have hA : ∀ q : Nat, s.heap.size ≤ q → A q := fun q h => by rw [← hAe]; exact Or.inr h
  have hS : va_S A s.heap s.heap [] := va_S.rf
  have hl := lv_entry ([.ref h0, .int v1]) (n := 4) (Nat.le_of_ble_eq_true rfl)
  rw [lg_entry_eq]
  generalize (lg_sl ([.ref h0, .int v1]) ++ List.replicate (4 - (lg_sl ([.ref h0, .int v1])).length) Slot.unset).toArray = ls at hl ⊢
  replace hl : lv_has ls 4 [(0, .ref h0), (1, .int v1)] := hl
  have inX12 : ∀ w ∈ u_ws RX12 TX12 22, w ∈ wsX12_share := fun w h => List.mem_cons_of_mem _ (inlX12 w h)
  clear hAe hD0 B
  unfold wp_X12_share at hw
  generalize hQe : MQ below _ _ s _ _ _ = Q0
  generalize ([.ref h0, .int v1] : List Value).toArray = av at *
  obtain ⟨H, hH⟩ : ∃ H, H = s.heap := ⟨_, rfl⟩
  obtain ⟨locs, hlo⟩ : ∃ L : List Loc, L = [] := ⟨_, rfl⟩
  replace hP : va_P (dC, dI) vwCl (w_X12_share h0 h_row h_kept h_isKept h_aside h_eight h_rows h_scales h_dealt h_bytes h_heardRow h_made h_comes h_backs h_fresh cy c_thrown c_nodeS c_nodeD c_pairE c_pairO c_bit c_lag c_lagSum c_row) H := by rw [hH]; exact hP
  replace hS : va_S A s.heap H locs := by rw [hH, hlo]; exact hS
  suffices hgo : W p l e ({ frames := 1, cells := 0, slots := 0, locals := 25 }) s m av below meth c H locs 0 0 Q0 (F0 m 0 ls []) by rw [hH, hlo] at hgo; exact hgo
  clear hH hlo
  refine lv_aload_n hx hb dX12_share_0 rfl (lv_at hl 0 rfl) ?_
  refine lv_iconst (v := 0) hx hb dX12_share_1 (by decide) ?_
  refine va_put (D := (dC, dI)) (ci := 12) (v := .int (0 : Int32)) (ty := .int) (C := RX12) (T := TX12) (N := 22) hx hb hts inX12 tyX12 tyX12_ok nmX12 hown hK hP hD hS 0 rfl rfl 0 (by decide) (hts _ (List.mem_cons_of_mem _ mw_200)) (fun _ h9 => h9) rfl (by decide +kernel) rfl rfl (Nat.le_of_ble_eq_true rfl) dX12_share_2 ?_; clear hP hD hS; clear H locs; intro H locs hP hD hS
  replace hP : va_P (dC, dI) vwCl (w_X12_share h0 h_row h_kept h_isKept h_aside h_eight h_rows h_scales h_dealt h_bytes h_heardRow h_made h_comes h_backs h_fresh cy (0 : Int32) c_nodeS c_nodeD c_pairE c_pairO c_bit c_lag c_lagSum c_row) H := hP
  replace hD : va_D A (w_X12_share h0 h_row h_kept h_isKept h_aside h_eight h_rows h_scales h_dealt h_bytes h_heardRow h_made h_comes h_backs h_fresh cy (0 : Int32) c_nodeS c_nodeD c_pairE c_pairO c_bit c_lag c_lagSum c_row) := hD
  refine lv_aload_n hx hb dX12_share_5 rfl (lv_at hl 0 rfl) ?_
  have hPc := pSub (ws' := (w_X12_isCoded h0 h_row h_kept h_isKept h_aside h_eight h_rows h_scales h_dealt h_bytes h_heardRow h_made h_comes h_backs h_fresh cy (0 : Int32) c_nodeS c_nodeD c_pairE c_pairO c_bit c_lag c_lagSum c_row)) hP [0, 1] rfl
  have hDc := dSub (ws' := (w_X12_isCoded h0 h_row h_kept h_isKept h_aside h_eight h_rows h_scales h_dealt h_bytes h_heardRow h_made h_comes h_backs h_fresh cy (0 : Int32) c_nodeS c_nodeD c_pairE c_pairO c_bit c_lag c_lagSum c_row)) hD [0, 1] (by decide) rfl
  have hFc := va_free (wc := (w_X12_isCoded h0 h_row h_kept h_isKept h_aside h_eight h_rows h_scales h_dealt h_bytes h_heardRow h_made h_comes h_backs h_fresh cy (0 : Int32) c_nodeS c_nodeD c_pairE c_pairO c_bit c_lag c_lagSum c_row)) hD hS hA [0, 1] rfl
  refine va_calli (va_runV (As := []) (rest := []) ⟨hx, hb, hml, hown, hts⟩ (c_X12_isCoded l dC dI cy h0 h_row h_kept h_isKept h_aside h_eight h_rows h_scales h_dealt h_bytes h_heardRow h_made h_comes h_backs h_fresh H.size (0 : Int32) c_nodeS c_nodeD c_pairE c_pairO c_bit c_lag c_lagSum c_row _ hw) (cwV 0 hts (goodV mw_935 mw_932 mw_933 mw_934 mw_5) rfl rfl rfl (by decide +kernel) ⟨Nat.le_of_ble_eq_true rfl, Nat.le_of_ble_eq_true rfl⟩) ⟨PX_blind, va_recv hK hPc (ci := 12) (q0 := 0) rfl rfl, PX_pre hPc hK hDc hG⟩ rfl rfl hl.1 rfl (lv_room (Nat.le_of_ble_eq_true rfl)) dX12_share_6 ⟨Nat.zero_le _, Nat.zero_le _⟩) hS (fun q _ h => hFc q h) hFc ?_; clear hw hS; intro r1 _ t H1 locs1 ht hvm hw hB hz1 hk1 hS
  obtain ⟨hP1, -, -⟩ := hB
  rw [ht] at hP1
  replace hP := jC0 hP hD [0, 1] [] rfl hk1 hP1 (w_X12_share h0 h_row h_kept h_isKept h_aside h_eight h_rows h_scales h_dealt h_bytes h_heardRow h_made h_comes h_backs h_fresh cy (0 : Int32) c_nodeS c_nodeD c_pairE c_pairO c_bit c_lag c_lagSum c_row) rfl rfl rfl 2 rfl (by decide +kernel); clear hD; obtain ⟨hP, hD⟩ := hP
  replace hP : va_P (dC, dI) vwCl (w_X12_share h0 h_row h_kept h_isKept h_aside h_eight h_rows h_scales h_dealt h_bytes h_heardRow h_made h_comes h_backs h_fresh cy (0 : Int32) c_nodeS c_nodeD c_pairE c_pairO c_bit c_lag c_lagSum c_row) H1 := hP
  replace hD : va_D A (w_X12_share h0 h_row h_kept h_isKept h_aside h_eight h_rows h_scales h_dealt h_bytes h_heardRow h_made h_comes h_backs h_fresh cy (0 : Int32) c_nodeS c_nodeD c_pairE c_pairO c_bit c_lag c_lagSum c_row) := hD
  clear hPc hDc hFc hP1 hk1 hz1 hvm ht; clear t; clear H locs; obtain ⟨H, hH⟩ : ∃ H, H = H1 := ⟨_, rfl⟩; obtain ⟨locs, hlo⟩ : ∃ L, L = locs1 := ⟨_, rfl⟩; subst hH; subst hlo
  refine W.widen (k := 0) (n := 0) (Nat.le_refl 0) (Nat.le_refl 0) ?_
  refine lv_if_eq (tgt := 24) hx hb dX12_share_9 (by decide) (fun c2 => ?_) (fun c2 => ?_)
  · replace hw := hw.1 c2; clear c2
    refine lv_iconst (v := -1) hx hb dX12_share_24 (by decide) ?_
    subst hQe
    exact W.iret (v := (-1 : Int32)) hx hb hr (fun t ht hW => ⟨⟨(-1 : Int32), (0 : Int32), rfl, hw, by rw [ht]; exact hP, va_K.moved hW.alike hK, hD⟩, hS.F ht⟩) hS.2.2 dX12_share_25
  · replace hw := hw.2 c2; clear c2
    refine lv_iload_n hx hb dX12_share_12 rfl (lv_at hl 1 rfl) ?_
    refine lv_i2l (v := v1.toInt64) hx hb dX12_share_13 rfl ?_
    refine lv_ldc2 (v := -1) hx hb hown (hts _ (List.mem_cons_of_mem _ mw_1067)) dX12_share_14 ?_
    refine lv_lconst (v := 1) hx hb dX12_share_17 (by decide) ?_
    have hPc := pSub (ws' := (w_X12_in cy)) hP [] rfl
    have hDc := dSub (ws' := (w_X12_in cy)) hD [] (by decide) rfl
    have hFc := va_free (wc := (w_X12_in cy)) hD hS hA [] rfl
    refine va_calli (va_runS (As := [.long (v1.toInt64), .long (-1 : Int64), .long (1 : Int64)]) (rest := []) ⟨hx, hb, hml, hown, hts⟩ (c_X12_in l dC dI cy  H.size (v1.toInt64) (-1 : Int64) (1 : Int64) _ hw) (va_cwS 3 hts (goodS mw_207 mw_205 mw_206 mw_5) rfl rfl rfl (by decide +kernel) ⟨Nat.le_of_ble_eq_true rfl, Nat.le_of_ble_eq_true rfl⟩) ⟨PX_blind, PX_pre hPc hK hDc hG⟩ rfl rfl hl.1 rfl (lv_room (Nat.le_of_ble_eq_true rfl)) dX12_share_18 ⟨Nat.zero_le _, Nat.zero_le _⟩) hS (fun q _ h => hFc q h) hFc ?_; clear hw hS; intro r3 _ t H1 locs1 ht hvm hw hB hz1 hk1 hS
    obtain ⟨hP1, -, -⟩ := hB
    rw [ht] at hP1
    replace hP := jC0 hP hD [] [0, 1] rfl hk1 hP1 (w_X12_share h0 h_row h_kept h_isKept h_aside h_eight h_rows h_scales h_dealt h_bytes h_heardRow h_made h_comes h_backs h_fresh cy (0 : Int32) c_nodeS c_nodeD c_pairE c_pairO c_bit c_lag c_lagSum c_row) rfl rfl rfl 2 rfl (by decide +kernel); clear hD; obtain ⟨hP, hD⟩ := hP
    replace hP : va_P (dC, dI) vwCl (w_X12_share h0 h_row h_kept h_isKept h_aside h_eight h_rows h_scales h_dealt h_bytes h_heardRow h_made h_comes h_backs h_fresh cy (0 : Int32) c_nodeS c_nodeD c_pairE c_pairO c_bit c_lag c_lagSum c_row) H1 := hP
    replace hD : va_D A (w_X12_share h0 h_row h_kept h_isKept h_aside h_eight h_rows h_scales h_dealt h_bytes h_heardRow h_made h_comes h_backs h_fresh cy (0 : Int32) c_nodeS c_nodeD c_pairE c_pairO c_bit c_lag c_lagSum c_row) := hD
    clear hPc hDc hFc hP1 hk1 hz1 hvm ht; clear t; clear H locs; obtain ⟨H, hH⟩ : ∃ H, H = H1 := ⟨_, rfl⟩; obtain ⟨locs, hlo⟩ : ∃ L, L = locs1 := ⟨_, rfl⟩; subst hH; subst hlo
    refine W.widen (k := 0) (n := 0) (Nat.le_refl 0) (Nat.le_refl 0) ?_
    refine lv_if_ne (tgt := 26) hx hb dX12_share_21 (by decide) (fun c4 => ?_) (fun c4 => ?_)
    · replace hw := hw.2 c4; clear c4
      refine lv_iconst (v := 0) hx hb dX12_share_26 (by decide) ?_
      refine lv_istore_n (lv' := [(2, .int (0 : Int32)), (0, .ref h0), (1, .int v1)]) hx hb dX12_share_27 rfl hl (by decide) rfl ?_; clear hl; clear ls; intro ls hl
      refine lv_iconst (v := 0) hx hb dX12_share_28 (by decide) ?_
      refine lv_istore_n (lv' := [(3, .int (0 : Int32)), (2, .int (0 : Int32)), (0, .ref h0), (1, .int v1)]) hx hb dX12_share_29 rfl hl (by decide) rfl ?_; clear hl; clear ls; intro ls hl
      obtain ⟨x5, e_x5⟩ : ∃ y : Int32, y = (0 : Int32) := ⟨_, rfl⟩
      replace hw := hw x5 e_x5
      replace hl : lv_has ls 4 [(3, .int x5), (2, .int (0 : Int32)), (0, .ref h0), (1, .int v1)] := by rw [e_x5]; exact hl
      clear e_x5
      obtain ⟨x6, e_x6⟩ : ∃ y : Int32, y = (0 : Int32) := ⟨_, rfl⟩
      replace hw := hw x6 e_x6
      replace hl : lv_has ls 4 [(3, .int x5), (2, .int x6), (0, .ref h0), (1, .int v1)] := by rw [e_x6]; exact hl
      clear e_x6
      replace hl := lv_sub (l' := [(3, .int x5), (2, .int x6), (0, .ref h0), (1, .int v1)]) hl [0, 1, 2, 3] rfl
      revert hl; revert hS; revert hD; revert hP; revert ls; revert locs; revert H
      revert hw; revert x6; revert x5
      refine Lz2_gr ?_; intro g7 ih8 x9 x10 hw
      intro H locs ls hP hD hS hl
      refine lv_iload_n hx hb dX12_share_30 rfl (lv_at hl 0 rfl) ?_
      refine lv_bipush (v := 16) hx hb dX12_share_31 (by decide) ?_
      refine lv_icmp_ge (tgt := 72) hx hb dX12_share_33 (by decide) (fun c11 => ?_) (fun c11 => ?_)
      · replace hw := hw.1 c11; clear c11
        clear ih8
        refine lv_iload_n hx hb dX12_share_72 rfl (lv_at hl 1 rfl) ?_
        subst hQe
        exact W.iret (v := x10) hx hb hr (fun t ht hW => ⟨⟨x10, (0 : Int32), rfl, hw, by rw [ht]; exact hP, va_K.moved hW.alike hK, hD⟩, hS.F ht⟩) hS.2.2 dX12_share_73
      · replace hw := hw.2 c11; clear c11
        refine lv_iload_n hx hb dX12_share_36 rfl (lv_at hl 1 rfl) ?_
        refine lv_iload_n hx hb dX12_share_37 rfl (lv_at hl 3 rfl) ?_
        refine lv_iconst (v := -1) hx hb dX12_share_38 (by decide) ?_
        refine jn1 (Gg := fun (x12 : Int32) => ∀ (H : Heap) (locs : List Loc) (ls : Array Slot), va_P (dC, dI) vwCl (w_X12_share h0 h_row h_kept h_isKept h_aside h_eight h_rows h_scales h_dealt h_bytes h_heardRow h_made h_comes h_backs h_fresh cy (0 : Int32) c_nodeS c_nodeD c_pairE c_pairO c_bit c_lag c_lagSum c_row) H → va_D A (w_X12_share h0 h_row h_kept h_isKept h_aside h_eight h_rows h_scales h_dealt h_bytes h_heardRow h_made h_comes h_backs h_fresh cy (0 : Int32) c_nodeS c_nodeD c_pairE c_pairO c_bit c_lag c_lagSum c_row) → va_S A s.heap H locs → lv_has ls 4 [(0, .ref h0), (1, .int v1), (3, .int x9)] → W p l e { frames := 1, cells := 0, slots := 0, locals := 25 } s m av below meth c H locs 0 0 Q0 (F0 m 64 ls [.int x12, .int x10])) hw ?_ ?_ <;> clear hw
        · clear hP hD hS hl; clear H locs ls; intro x12 hw H locs ls hP hD hS hl
          refine lv_iadd hx hb dX12_share_64 ?_
          refine lv_topi (fun x15 e_x15 => ?_)
          replace hw := hw x15 e_x15
          clear e_x15
          refine lv_istore_n (lv' := [(2, .int x15), (0, .ref h0), (1, .int v1), (3, .int x9)]) hx hb dX12_share_65 rfl hl (by decide) rfl ?_; clear hl; clear ls; intro ls hl
          refine lv_iinc (v := x9 + 1) (lv' := [(3, .int (x9 + 1)), (2, .int x15), (0, .ref h0), (1, .int v1)]) hx hb dX12_share_66 hl (k := 3) rfl rfl (by decide) rfl ?_; clear hl; clear ls; intro ls hl
          refine lv_goto (tgt := 30) hx hb dX12_share_69 (by decide) ?_
          exact ih8 (x9 + 1) x15 hw H locs ls hP hD hS (lv_sub hl [0, 1, 2, 3] rfl)
        · intro j14 hw
          refine jn0 (Gg := ∀ (H : Heap) (locs : List Loc) (ls : Array Slot), va_P (dC, dI) vwCl (w_X12_share h0 h_row h_kept h_isKept h_aside h_eight h_rows h_scales h_dealt h_bytes h_heardRow h_made h_comes h_backs h_fresh cy (0 : Int32) c_nodeS c_nodeD c_pairE c_pairO c_bit c_lag c_lagSum c_row) H → va_D A (w_X12_share h0 h_row h_kept h_isKept h_aside h_eight h_rows h_scales h_dealt h_bytes h_heardRow h_made h_comes h_backs h_fresh cy (0 : Int32) c_nodeS c_nodeD c_pairE c_pairO c_bit c_lag c_lagSum c_row) → va_S A s.heap H locs → lv_has ls 4 [(0, .ref h0), (1, .int v1), (3, .int x9)] → W p l e { frames := 1, cells := 0, slots := 0, locals := 25 } s m av below meth c H locs 0 0 Q0 (F0 m 50 ls [.int x10])) hw ?_ ?_ <;> clear hw
          · clear hP hD hS hl; clear H locs ls; intro  hw H locs ls hP hD hS hl
            refine lv_aload_n hx hb dX12_share_50 rfl (lv_at hl 0 rfl) ?_
            refine va_get (D := (dC, dI)) (ci := 12) (v := .ref h_row) (C := RX12) (T := TX12) (N := 22) hx hb hts inX12 hown hK hP 0 rfl rfl 1 (by decide) (hts _ (List.mem_cons_of_mem _ mw_169)) (fun _ h9 => h9) rfl dX12_share_51 ?_
            refine lv_sipush (v := 637) hx hb dX12_share_54 (by decide) ?_
            refine lv_iload_n hx hb dX12_share_57 rfl (lv_at hl 2 rfl) ?_
            refine lv_iadd hx hb dX12_share_58 ?_
            obtain ⟨h18, hw⟩ := hw
            refine xiald (k := ((637 : Int32) + x9).toNatClampNeg) hx hb hK hP 1 0 rfl rfl h18 rfl dX12_share_59 ?_
            refine lv_goto (tgt := 64) hx hb dX12_share_60 (by decide) ?_
            exact j14 (c_row ((637 : Int32) + x9).toNatClampNeg) hw H locs ls hP hD hS (lv_sub hl [0, 1, 2] rfl)
          · intro j17 hw
            refine lv_icmp_eq (tgt := 50) hx hb dX12_share_39 (by decide) (fun c19 => ?_) (fun c19 => ?_)
            · replace hw := hw.1 c19; clear c19
              exact j17 hw H locs ls hP hD hS (lv_sub hl [2, 3, 0] rfl)
            · replace hw := hw.2 c19; clear c19
              refine lv_iload_n hx hb dX12_share_42 rfl (lv_at hl 0 rfl) ?_
              refine lv_bipush (v := 8) hx hb dX12_share_43 (by decide) ?_
              refine lv_idiv hx hb dX12_share_45 (by decide) ?_
              refine lv_topi (fun x20 e_x20 => ?_)
              replace hw := hw x20 e_x20
              clear e_x20
              refine lv_iload_n hx hb dX12_share_46 rfl (lv_at hl 3 rfl) ?_
              refine lv_icmp_ne (tgt := 63) hx hb dX12_share_47 (by decide) (fun c21 => ?_) (fun c21 => ?_)
              · replace hw := hw.2 c21; clear c21
                refine lv_iconst (v := 0) hx hb dX12_share_63 (by decide) ?_
                exact j14 (0 : Int32) hw H locs ls hP hD hS (lv_sub hl [2, 3, 0] rfl)
              · replace hw := hw.1 c21; clear c21
                exact j17 hw H locs ls hP hD hS (lv_sub hl [2, 3, 0] rfl)
    · replace hw := hw.1 c4; clear c4
      refine lv_iconst (v := -1) hx hb dX12_share_24 (by decide) ?_
      subst hQe
      exact W.iret (v := (-1 : Int32)) hx hb hr (fun t ht hW => ⟨⟨(-1 : Int32), (0 : Int32), rfl, hw, by rw [ht]; exact hP, va_K.moved hW.alike hK, hD⟩, hS.F ht⟩) hS.2.2 dX12_share_25
set_option maxHeartbeats 4000000 in
set_option maxRecDepth 100000 in
theorem c_X12_damaged (l : Launch) (dC : Nat → ClassId) (dI : Nat → Nat → Nat) (cy : Nat → ClassId) (h0 h_row h_kept h_isKept h_aside h_eight h_rows h_scales h_dealt h_bytes h_heardRow h_made h_comes h_backs h_fresh : Nat) (sz : Nat) (v1 : Int32) (v2 : Int32) (c_thrown : Int32) (c_nodeS : Int32) (c_nodeD : Int32) (c_pairE : Int32) (c_pairO : Int32) (c_bit : Int32) (c_lag : Int32) (c_lagSum : Int32) (c_row : Nat → Int32) (c_bytes : Nat → Int32) (post : Int32 → Int32 → (Nat → Int32) → Prop) (hw : wp_X12_damaged v1 v2 c_thrown c_row c_bytes post) : Met l yX12_damaged wsX12_damaged ({ frames := 1, cells := 0, slots := 0, locals := 25 }) (PX dC dI cy [.ref h0, .int v1, .int v2] sz (w_X12_damaged h0 h_row h_kept h_isKept h_aside h_eight h_rows h_scales h_dealt h_bytes h_heardRow h_made h_comes h_backs h_fresh cy c_thrown c_nodeS c_nodeD c_pairE c_pairO c_bit c_lag c_lagSum c_row c_bytes)) (va_Qi (fun (r : Int32) (u : Int32 × (Nat → Int32)) => post r u.1 u.2) (QX dC dI cy (va_A (w_X12_damaged h0 h_row h_kept h_isKept h_aside h_eight h_rows h_scales h_dealt h_bytes h_heardRow h_made h_comes h_backs h_fresh cy c_thrown c_nodeS c_nodeD c_pairE c_pairO c_bit c_lag c_lagSum c_row c_bytes) sz) (fun (u : Int32 × (Nat → Int32)) => w_X12_damaged h0 h_row h_kept h_isKept h_aside h_eight h_rows h_scales h_dealt h_bytes h_heardRow h_made h_comes h_backs h_fresh cy u.1 c_nodeS c_nodeD c_pairE c_pairO c_bit c_lag c_lagSum c_row u.2)) (va_A (w_X12_damaged h0 h_row h_kept h_isKept h_aside h_eight h_rows h_scales h_dealt h_bytes h_heardRow h_made h_comes h_backs h_fresh cy c_thrown c_nodeS c_nodeD c_pairE c_pairO c_bit c_lag c_lagSum c_row c_bytes) sz)) 0 0 (va_A (w_X12_damaged h0 h_row h_kept h_isKept h_aside h_eight h_rows h_scales h_dealt h_bytes h_heardRow h_made h_comes h_backs h_fresh cy c_thrown c_nodeS c_nodeD c_pairE c_pairO c_bit c_lag c_lagSum c_row c_bytes) sz) := by
  refine Met.ofW (cc := cX12_damaged) (maxL := 5) (ret := (some .int)) (by decide) rfl ?_
  intro p e s m args below meth c s₁ B hml hv
  obtain ⟨rfl, hsz, hP, hK, hD0, hG⟩ := hv
  have hx := B.exec
  have hb := B.bytes
  have hr := B.returns
  have hts := atoms_spec (ws := wsX12_damaged) B.pre
  have hown : s.vm.findClass RX12 = some m.cls := findClass_of_methodNamed B.named
  have hlocks := B.notSynchronized
  subst hsz
  have hD := hD0.self (sz := s.heap.size)
  generalize hAe : va_A (w_X12_damaged h0 h_row h_kept h_isKept h_aside h_eight h_rows h_scales h_dealt h_bytes h_heardRow h_made h_comes h_backs h_fresh cy c_thrown c_nodeS c_nodeD c_pairE c_pairO c_bit c_lag c_lagSum c_row c_bytes) s.heap.size = A at hD ⊢
  have hA : ∀ q : Nat, s.heap.size ≤ q → A q := fun q h => by rw [← hAe]; exact Or.inr h
  have hS : va_S A s.heap s.heap [] := va_S.rf
  have hl := lv_entry ([.ref h0, .int v1, .int v2]) (n := 5) (Nat.le_of_ble_eq_true rfl)
  rw [lg_entry_eq]
  generalize (lg_sl ([.ref h0, .int v1, .int v2]) ++ List.replicate (5 - (lg_sl ([.ref h0, .int v1, .int v2])).length) Slot.unset).toArray = ls at hl ⊢
  replace hl : lv_has ls 5 [(0, .ref h0), (1, .int v1), (2, .int v2)] := hl
  have inX12 : ∀ w ∈ u_ws RX12 TX12 22, w ∈ wsX12_damaged := fun w h => List.mem_cons_of_mem _ (inlX12 w h)
  clear hAe hD0 B
  unfold wp_X12_damaged at hw
  generalize hQe : MQ below _ _ s _ _ _ = Q0
  generalize ([.ref h0, .int v1, .int v2] : List Value).toArray = av at *
  obtain ⟨H, hH⟩ : ∃ H, H = s.heap := ⟨_, rfl⟩
  obtain ⟨locs, hlo⟩ : ∃ L : List Loc, L = [] := ⟨_, rfl⟩
  replace hP : va_P (dC, dI) vwCl (w_X12_damaged h0 h_row h_kept h_isKept h_aside h_eight h_rows h_scales h_dealt h_bytes h_heardRow h_made h_comes h_backs h_fresh cy c_thrown c_nodeS c_nodeD c_pairE c_pairO c_bit c_lag c_lagSum c_row c_bytes) H := by rw [hH]; exact hP
  replace hS : va_S A s.heap H locs := by rw [hH, hlo]; exact hS
  suffices hgo : W p l e ({ frames := 1, cells := 0, slots := 0, locals := 25 }) s m av below meth c H locs 0 0 Q0 (F0 m 0 ls []) by rw [hH, hlo] at hgo; exact hgo
  clear hH hlo
  refine lv_aload_n hx hb dX12_damaged_0 rfl (lv_at hl 0 rfl) ?_
  refine lv_iconst (v := 0) hx hb dX12_damaged_1 (by decide) ?_
  refine va_put (D := (dC, dI)) (ci := 12) (v := .int (0 : Int32)) (ty := .int) (C := RX12) (T := TX12) (N := 22) hx hb hts inX12 tyX12 tyX12_ok nmX12 hown hK hP hD hS 0 rfl rfl 0 (by decide) (hts _ (List.mem_cons_of_mem _ mw_200)) (fun _ h9 => h9) rfl (by decide +kernel) rfl rfl (Nat.le_of_ble_eq_true rfl) dX12_damaged_2 ?_; clear hP hD hS; clear H locs; intro H locs hP hD hS
  replace hP : va_P (dC, dI) vwCl (w_X12_damaged h0 h_row h_kept h_isKept h_aside h_eight h_rows h_scales h_dealt h_bytes h_heardRow h_made h_comes h_backs h_fresh cy (0 : Int32) c_nodeS c_nodeD c_pairE c_pairO c_bit c_lag c_lagSum c_row c_bytes) H := hP
  replace hD : va_D A (w_X12_damaged h0 h_row h_kept h_isKept h_aside h_eight h_rows h_scales h_dealt h_bytes h_heardRow h_made h_comes h_backs h_fresh cy (0 : Int32) c_nodeS c_nodeD c_pairE c_pairO c_bit c_lag c_lagSum c_row c_bytes) := hD
  refine lv_bipush (v := 8) hx hb dX12_damaged_5 (by decide) ?_
  refine lv_aload_n hx hb dX12_damaged_7 rfl (lv_at hl 0 rfl) ?_
  refine va_get (D := (dC, dI)) (ci := 12) (v := .ref h_row) (C := RX12) (T := TX12) (N := 22) hx hb hts inX12 hown hK hP 0 rfl rfl 1 (by decide) (hts _ (List.mem_cons_of_mem _ mw_169)) (fun _ h9 => h9) rfl dX12_damaged_8 ?_
  refine lv_sipush (v := 654) hx hb dX12_damaged_11 (by decide) ?_
  refine xiald (k := 654) hx hb hK hP 1 0 rfl rfl (vpL 654 13385 rfl) (by decide) dX12_damaged_14 ?_
  refine lv_imul hx hb dX12_damaged_15 ?_
  refine lv_topi (fun x2 e_x2 => ?_)
  replace hw := hw x2 e_x2
  clear e_x2
  refine lv_istore_n (lv' := [(3, .int x2), (0, .ref h0), (1, .int v1), (2, .int v2)]) hx hb dX12_damaged_16 rfl hl (by decide) rfl ?_; clear hl; clear ls; intro ls hl
  refine lv_aload_n hx hb dX12_damaged_17 rfl (lv_at hl 1 rfl) ?_
  have hPc := pSub (ws' := (w_X12_isCoded h0 h_row h_kept h_isKept h_aside h_eight h_rows h_scales h_dealt h_bytes h_heardRow h_made h_comes h_backs h_fresh cy (0 : Int32) c_nodeS c_nodeD c_pairE c_pairO c_bit c_lag c_lagSum c_row)) hP [0, 1] rfl
  have hDc := dSub (ws' := (w_X12_isCoded h0 h_row h_kept h_isKept h_aside h_eight h_rows h_scales h_dealt h_bytes h_heardRow h_made h_comes h_backs h_fresh cy (0 : Int32) c_nodeS c_nodeD c_pairE c_pairO c_bit c_lag c_lagSum c_row)) hD [0, 1] (by decide) rfl
  have hFc := va_free (wc := (w_X12_isCoded h0 h_row h_kept h_isKept h_aside h_eight h_rows h_scales h_dealt h_bytes h_heardRow h_made h_comes h_backs h_fresh cy (0 : Int32) c_nodeS c_nodeD c_pairE c_pairO c_bit c_lag c_lagSum c_row)) hD hS hA [0, 1] rfl
  refine va_calli (va_runV (As := []) (rest := []) ⟨hx, hb, hml, hown, hts⟩ (c_X12_isCoded l dC dI cy h0 h_row h_kept h_isKept h_aside h_eight h_rows h_scales h_dealt h_bytes h_heardRow h_made h_comes h_backs h_fresh H.size (0 : Int32) c_nodeS c_nodeD c_pairE c_pairO c_bit c_lag c_lagSum c_row _ hw) (cwV 0 hts (goodV mw_935 mw_932 mw_933 mw_934 mw_5) rfl rfl rfl (by decide +kernel) ⟨Nat.le_of_ble_eq_true rfl, Nat.le_of_ble_eq_true rfl⟩) ⟨PX_blind, va_recv hK hPc (ci := 12) (q0 := 0) rfl rfl, PX_pre hPc hK hDc hG⟩ rfl rfl hl.1 rfl (lv_room (Nat.le_of_ble_eq_true rfl)) dX12_damaged_18 ⟨Nat.zero_le _, Nat.zero_le _⟩) hS (fun q _ h => hFc q h) hFc ?_; clear hw hS; intro r3 _ t H1 locs1 ht hvm hw hB hz1 hk1 hS
  obtain ⟨hP1, -, -⟩ := hB
  rw [ht] at hP1
  replace hP := jC0 hP hD [0, 1] [2] rfl hk1 hP1 (w_X12_damaged h0 h_row h_kept h_isKept h_aside h_eight h_rows h_scales h_dealt h_bytes h_heardRow h_made h_comes h_backs h_fresh cy (0 : Int32) c_nodeS c_nodeD c_pairE c_pairO c_bit c_lag c_lagSum c_row c_bytes) rfl rfl rfl 3 rfl (by decide +kernel); clear hD; obtain ⟨hP, hD⟩ := hP
  replace hP : va_P (dC, dI) vwCl (w_X12_damaged h0 h_row h_kept h_isKept h_aside h_eight h_rows h_scales h_dealt h_bytes h_heardRow h_made h_comes h_backs h_fresh cy (0 : Int32) c_nodeS c_nodeD c_pairE c_pairO c_bit c_lag c_lagSum c_row c_bytes) H1 := hP
  replace hD : va_D A (w_X12_damaged h0 h_row h_kept h_isKept h_aside h_eight h_rows h_scales h_dealt h_bytes h_heardRow h_made h_comes h_backs h_fresh cy (0 : Int32) c_nodeS c_nodeD c_pairE c_pairO c_bit c_lag c_lagSum c_row c_bytes) := hD
  clear hPc hDc hFc hP1 hk1 hz1 hvm ht; clear t; clear H locs; obtain ⟨H, hH⟩ : ∃ H, H = H1 := ⟨_, rfl⟩; obtain ⟨locs, hlo⟩ : ∃ L, L = locs1 := ⟨_, rfl⟩; subst hH; subst hlo
  refine W.widen (k := 0) (n := 0) (Nat.le_refl 0) (Nat.le_refl 0) ?_
  refine lv_if_eq (tgt := 57) hx hb dX12_damaged_21 (by decide) (fun c4 => ?_) (fun c4 => ?_)
  · replace hw := hw.1 c4; clear c4
    refine lv_iconst (v := -1) hx hb dX12_damaged_57 (by decide) ?_
    subst hQe
    exact W.iret (v := (-1 : Int32)) hx hb hr (fun t ht hW => ⟨⟨(-1 : Int32), ((0 : Int32), c_bytes), rfl, hw, by rw [ht]; exact hP, va_K.moved hW.alike hK, hD⟩, hS.F ht⟩) hS.2.2 dX12_damaged_58
  · replace hw := hw.2 c4; clear c4
    refine lv_iload_n hx hb dX12_damaged_24 rfl (lv_at hl 2 rfl) ?_
    refine lv_i2l (v := v1.toInt64) hx hb dX12_damaged_25 rfl ?_
    refine lv_lconst (v := 0) hx hb dX12_damaged_26 (by decide) ?_
    refine lv_iload_n hx hb dX12_damaged_27 rfl (lv_at hl 0 rfl) ?_
    refine lv_i2l (v := x2.toInt64) hx hb dX12_damaged_28 rfl ?_
    refine lv_lconst (v := 1) hx hb dX12_damaged_29 (by decide) ?_
    refine lv_lsub hx hb dX12_damaged_30 ?_
    have hPc := pSub (ws' := (w_X12_in cy)) hP [] rfl
    have hDc := dSub (ws' := (w_X12_in cy)) hD [] (by decide) rfl
    have hFc := va_free (wc := (w_X12_in cy)) hD hS hA [] rfl
    refine va_calli (va_runS (As := [.long (v1.toInt64), .long (0 : Int64), .long ((x2.toInt64) - (1 : Int64))]) (rest := []) ⟨hx, hb, hml, hown, hts⟩ (c_X12_in l dC dI cy  H.size (v1.toInt64) (0 : Int64) ((x2.toInt64) - (1 : Int64)) _ hw) (va_cwS 3 hts (goodS mw_207 mw_205 mw_206 mw_5) rfl rfl rfl (by decide +kernel) ⟨Nat.le_of_ble_eq_true rfl, Nat.le_of_ble_eq_true rfl⟩) ⟨PX_blind, PX_pre hPc hK hDc hG⟩ rfl rfl hl.1 rfl (lv_room (Nat.le_of_ble_eq_true rfl)) dX12_damaged_31 ⟨Nat.zero_le _, Nat.zero_le _⟩) hS (fun q _ h => hFc q h) hFc ?_; clear hw hS; intro r5 _ t H1 locs1 ht hvm hw hB hz1 hk1 hS
    obtain ⟨hP1, -, -⟩ := hB
    rw [ht] at hP1
    replace hP := jC0 hP hD [] [0, 1, 2] rfl hk1 hP1 (w_X12_damaged h0 h_row h_kept h_isKept h_aside h_eight h_rows h_scales h_dealt h_bytes h_heardRow h_made h_comes h_backs h_fresh cy (0 : Int32) c_nodeS c_nodeD c_pairE c_pairO c_bit c_lag c_lagSum c_row c_bytes) rfl rfl rfl 3 rfl (by decide +kernel); clear hD; obtain ⟨hP, hD⟩ := hP
    replace hP : va_P (dC, dI) vwCl (w_X12_damaged h0 h_row h_kept h_isKept h_aside h_eight h_rows h_scales h_dealt h_bytes h_heardRow h_made h_comes h_backs h_fresh cy (0 : Int32) c_nodeS c_nodeD c_pairE c_pairO c_bit c_lag c_lagSum c_row c_bytes) H1 := hP
    replace hD : va_D A (w_X12_damaged h0 h_row h_kept h_isKept h_aside h_eight h_rows h_scales h_dealt h_bytes h_heardRow h_made h_comes h_backs h_fresh cy (0 : Int32) c_nodeS c_nodeD c_pairE c_pairO c_bit c_lag c_lagSum c_row c_bytes) := hD
    clear hPc hDc hFc hP1 hk1 hz1 hvm ht; clear t; clear H locs; obtain ⟨H, hH⟩ : ∃ H, H = H1 := ⟨_, rfl⟩; obtain ⟨locs, hlo⟩ : ∃ L, L = locs1 := ⟨_, rfl⟩; subst hH; subst hlo
    refine W.widen (k := 0) (n := 0) (Nat.le_refl 0) (Nat.le_refl 0) ?_
    refine lv_if_eq (tgt := 57) hx hb dX12_damaged_34 (by decide) (fun c6 => ?_) (fun c6 => ?_)
    · replace hw := hw.1 c6; clear c6
      refine lv_iconst (v := -1) hx hb dX12_damaged_57 (by decide) ?_
      subst hQe
      exact W.iret (v := (-1 : Int32)) hx hb hr (fun t ht hW => ⟨⟨(-1 : Int32), ((0 : Int32), c_bytes), rfl, hw, by rw [ht]; exact hP, va_K.moved hW.alike hK, hD⟩, hS.F ht⟩) hS.2.2 dX12_damaged_58
    · replace hw := hw.2 c6; clear c6
      refine lv_iload_n hx hb dX12_damaged_37 rfl (lv_at hl 3 rfl) ?_
      refine lv_i2l (v := v2.toInt64) hx hb dX12_damaged_38 rfl ?_
      refine lv_ldc2 (v := -1) hx hb hown (hts _ (List.mem_cons_of_mem _ mw_1067)) dX12_damaged_39 ?_
      refine lv_iload_n hx hb dX12_damaged_42 rfl (lv_at hl 0 rfl) ?_
      refine lv_i2l (v := x2.toInt64) hx hb dX12_damaged_43 rfl ?_
      refine lv_lconst (v := 1) hx hb dX12_damaged_44 (by decide) ?_
      refine lv_lsub hx hb dX12_damaged_45 ?_
      have hPc := pSub (ws' := (w_X12_in cy)) hP [] rfl
      have hDc := dSub (ws' := (w_X12_in cy)) hD [] (by decide) rfl
      have hFc := va_free (wc := (w_X12_in cy)) hD hS hA [] rfl
      refine va_calli (va_runS (As := [.long (v2.toInt64), .long (-1 : Int64), .long ((x2.toInt64) - (1 : Int64))]) (rest := []) ⟨hx, hb, hml, hown, hts⟩ (c_X12_in l dC dI cy  H.size (v2.toInt64) (-1 : Int64) ((x2.toInt64) - (1 : Int64)) _ hw) (va_cwS 3 hts (goodS mw_207 mw_205 mw_206 mw_5) rfl rfl rfl (by decide +kernel) ⟨Nat.le_of_ble_eq_true rfl, Nat.le_of_ble_eq_true rfl⟩) ⟨PX_blind, PX_pre hPc hK hDc hG⟩ rfl rfl hl.1 rfl (lv_room (Nat.le_of_ble_eq_true rfl)) dX12_damaged_46 ⟨Nat.zero_le _, Nat.zero_le _⟩) hS (fun q _ h => hFc q h) hFc ?_; clear hw hS; intro r7 _ t H1 locs1 ht hvm hw hB hz1 hk1 hS
      obtain ⟨hP1, -, -⟩ := hB
      rw [ht] at hP1
      replace hP := jC0 hP hD [] [0, 1, 2] rfl hk1 hP1 (w_X12_damaged h0 h_row h_kept h_isKept h_aside h_eight h_rows h_scales h_dealt h_bytes h_heardRow h_made h_comes h_backs h_fresh cy (0 : Int32) c_nodeS c_nodeD c_pairE c_pairO c_bit c_lag c_lagSum c_row c_bytes) rfl rfl rfl 3 rfl (by decide +kernel); clear hD; obtain ⟨hP, hD⟩ := hP
      replace hP : va_P (dC, dI) vwCl (w_X12_damaged h0 h_row h_kept h_isKept h_aside h_eight h_rows h_scales h_dealt h_bytes h_heardRow h_made h_comes h_backs h_fresh cy (0 : Int32) c_nodeS c_nodeD c_pairE c_pairO c_bit c_lag c_lagSum c_row c_bytes) H1 := hP
      replace hD : va_D A (w_X12_damaged h0 h_row h_kept h_isKept h_aside h_eight h_rows h_scales h_dealt h_bytes h_heardRow h_made h_comes h_backs h_fresh cy (0 : Int32) c_nodeS c_nodeD c_pairE c_pairO c_bit c_lag c_lagSum c_row c_bytes) := hD
      clear hPc hDc hFc hP1 hk1 hz1 hvm ht; clear t; clear H locs; obtain ⟨H, hH⟩ : ∃ H, H = H1 := ⟨_, rfl⟩; obtain ⟨locs, hlo⟩ : ∃ L, L = locs1 := ⟨_, rfl⟩; subst hH; subst hlo
      refine W.widen (k := 0) (n := 0) (Nat.le_refl 0) (Nat.le_refl 0) ?_
      refine lv_if_eq (tgt := 57) hx hb dX12_damaged_49 (by decide) (fun c8 => ?_) (fun c8 => ?_)
      · replace hw := hw.1 c8; clear c8
        refine lv_iconst (v := -1) hx hb dX12_damaged_57 (by decide) ?_
        subst hQe
        exact W.iret (v := (-1 : Int32)) hx hb hr (fun t ht hW => ⟨⟨(-1 : Int32), ((0 : Int32), c_bytes), rfl, hw, by rw [ht]; exact hP, va_K.moved hW.alike hK, hD⟩, hS.F ht⟩) hS.2.2 dX12_damaged_58
      · replace hw := hw.2 c8; clear c8
        refine lv_iload_n hx hb dX12_damaged_52 rfl (lv_at hl 2 rfl) ?_
        refine lv_iload_n hx hb dX12_damaged_53 rfl (lv_at hl 3 rfl) ?_
        refine lv_icmp_ne (tgt := 59) hx hb dX12_damaged_54 (by decide) (fun c9 => ?_) (fun c9 => ?_)
        · replace hw := hw.2 c9; clear c9
          refine lv_iconst (v := 0) hx hb dX12_damaged_59 (by decide) ?_
          refine lv_istore (lv' := [(4, .int (0 : Int32)), (3, .int x2), (0, .ref h0), (1, .int v1), (2, .int v2)]) hx hb dX12_damaged_60 hl (by decide) rfl ?_; clear hl; clear ls; intro ls hl
          obtain ⟨x10, e_x10⟩ : ∃ y : Int32, y = (0 : Int32) := ⟨_, rfl⟩
          replace hw := hw x10 e_x10
          replace hl : lv_has ls 5 [(4, .int x10), (3, .int x2), (0, .ref h0), (1, .int v1), (2, .int v2)] := by rw [e_x10]; exact hl
          clear e_x10
          replace hl := lv_sub (l' := [(4, .int x10), (0, .ref h0), (1, .int v1), (2, .int v2)]) hl [0, 2, 3, 4] rfl
          revert hl; revert hS; revert hD; revert hP; revert ls; revert locs; revert H
          revert hw; revert c_bytes; revert x10
          refine Lz2_gr ?_; intro g11 ih12 x13 f14 hw
          intro H locs ls hP hD hS hl
          refine lv_iload hx hb dX12_damaged_62 (lv_at hl 0 rfl) ?_
          refine lv_bipush (v := 80) hx hb dX12_damaged_64 (by decide) ?_
          refine lv_icmp_ge (tgt := 93) hx hb dX12_damaged_66 (by decide) (fun c15 => ?_) (fun c15 => ?_)
          · replace hw := hw.1 c15; clear c15
            clear ih12
            refine lv_aload_n hx hb dX12_damaged_93 rfl (lv_at hl 1 rfl) ?_
            refine va_get (D := (dC, dI)) (ci := 12) (v := .ref h_bytes) (C := RX12) (T := TX12) (N := 22) hx hb hts inX12 hown hK hP 0 rfl rfl 13 (by decide) (hts _ (List.mem_cons_of_mem _ mw_178)) (fun _ h9 => h9) rfl dX12_damaged_94 ?_
            refine lv_iload_n hx hb dX12_damaged_97 rfl (lv_at hl 2 rfl) ?_
            refine lv_bipush (v := 8) hx hb dX12_damaged_98 (by decide) ?_
            refine lv_idiv hx hb dX12_damaged_100 (by decide) ?_
            refine lv_topi (fun x16 e_x16 => ?_)
            replace hw := hw x16 e_x16
            clear e_x16
            refine lv_dup2_11 hx hb dX12_damaged_101 rfl rfl ?_
            obtain ⟨h17, hw⟩ := hw
            refine xiald (k := x16.toNatClampNeg) hx hb hK hP 2 0 rfl rfl h17 rfl dX12_damaged_102 ?_
            refine lv_iconst (v := 1) hx hb dX12_damaged_103 (by decide) ?_
            refine lv_bipush (v := 7) hx hb dX12_damaged_104 (by decide) ?_
            refine lv_iload_n hx hb dX12_damaged_106 rfl (lv_at hl 2 rfl) ?_
            refine lv_bipush (v := 8) hx hb dX12_damaged_107 (by decide) ?_
            refine lv_irem hx hb dX12_damaged_109 (by decide) ?_
            refine lv_topi (fun x18 e_x18 => ?_)
            replace hw := hw x18 e_x18
            clear e_x18
            refine lv_isub hx hb dX12_damaged_110 ?_
            refine lv_ishl hx hb dX12_damaged_111 ?_
            refine lv_ixor hx hb dX12_damaged_112 ?_
            obtain ⟨h19, hw⟩ := hw
            refine xiast (k := x16.toNatClampNeg) hx hb hK hP hD hS 2 0 rfl rfl h19 rfl dX12_damaged_113 ?_; clear hP hD hS; clear H locs; intro f20 e_f20 H locs hP hD hS
            replace hw := hw f20 e_f20
            clear e_f20
            replace hP : va_P (dC, dI) vwCl (w_X12_damaged h0 h_row h_kept h_isKept h_aside h_eight h_rows h_scales h_dealt h_bytes h_heardRow h_made h_comes h_backs h_fresh cy (0 : Int32) c_nodeS c_nodeD c_pairE c_pairO c_bit c_lag c_lagSum c_row f20) H := hP
            replace hD : va_D A (w_X12_damaged h0 h_row h_kept h_isKept h_aside h_eight h_rows h_scales h_dealt h_bytes h_heardRow h_made h_comes h_backs h_fresh cy (0 : Int32) c_nodeS c_nodeD c_pairE c_pairO c_bit c_lag c_lagSum c_row f20) := hD
            refine lv_iload_n hx hb dX12_damaged_114 rfl (lv_at hl 3 rfl) ?_
            refine lv_iconst (v := -1) hx hb dX12_damaged_115 (by decide) ?_
            refine jn1 (Gg := fun (f21 : (Nat → Int32)) => ∀ (H : Heap) (locs : List Loc) (ls : Array Slot), va_P (dC, dI) vwCl (w_X12_damaged h0 h_row h_kept h_isKept h_aside h_eight h_rows h_scales h_dealt h_bytes h_heardRow h_made h_comes h_backs h_fresh cy (0 : Int32) c_nodeS c_nodeD c_pairE c_pairO c_bit c_lag c_lagSum c_row f21) H → va_D A (w_X12_damaged h0 h_row h_kept h_isKept h_aside h_eight h_rows h_scales h_dealt h_bytes h_heardRow h_made h_comes h_backs h_fresh cy (0 : Int32) c_nodeS c_nodeD c_pairE c_pairO c_bit c_lag c_lagSum c_row f21) → va_S A s.heap H locs → lv_has ls 5 [(0, .ref h0)] → W p l e { frames := 1, cells := 0, slots := 0, locals := 25 } s m av below meth c H locs 0 0 Q0 (F0 m 140 ls [])) hw ?_ ?_ <;> clear hw
            · clear hP hD hS hl; clear H locs ls; intro f21 hw H locs ls hP hD hS hl
              refine lv_aload_n hx hb dX12_damaged_140 rfl (lv_at hl 0 rfl) ?_
              refine va_get (D := (dC, dI)) (ci := 12) (v := .ref h_bytes) (C := RX12) (T := TX12) (N := 22) hx hb hts inX12 hown hK hP 0 rfl rfl 13 (by decide) (hts _ (List.mem_cons_of_mem _ mw_178)) (fun _ h9 => h9) rfl dX12_damaged_141 ?_
              refine lv_iconst (v := 0) hx hb dX12_damaged_144 (by decide) ?_
              refine xiald (k := 0) hx hb hK hP 2 0 rfl rfl (vpL 0 160 rfl) (by decide) dX12_damaged_145 ?_
              refine lv_sipush (v := 156) hx hb dX12_damaged_146 (by decide) ?_
              refine lv_icmp_eq (tgt := 156) hx hb dX12_damaged_149 (by decide) (fun c25 => ?_) (fun c25 => ?_)
              · replace hw := hw.1 c25; clear c25
                refine lv_aload_n hx hb dX12_damaged_156 rfl (lv_at hl 0 rfl) ?_
                refine va_get (D := (dC, dI)) (ci := 12) (v := .ref h_bytes) (C := RX12) (T := TX12) (N := 22) hx hb hts inX12 hown hK hP 0 rfl rfl 13 (by decide) (hts _ (List.mem_cons_of_mem _ mw_178)) (fun _ h9 => h9) rfl dX12_damaged_157 ?_
                refine lv_iconst (v := 3) hx hb dX12_damaged_160 (by decide) ?_
                refine xiald (k := 3) hx hb hK hP 2 0 rfl rfl (vpL 3 160 rfl) (by decide) dX12_damaged_161 ?_
                refine lv_aload_n hx hb dX12_damaged_162 rfl (lv_at hl 0 rfl) ?_
                refine lv_aload_n hx hb dX12_damaged_163 rfl (lv_at hl 0 rfl) ?_
                refine va_get (D := (dC, dI)) (ci := 12) (v := .ref h_row) (C := RX12) (T := TX12) (N := 22) hx hb hts inX12 hown hK hP 0 rfl rfl 1 (by decide) (hts _ (List.mem_cons_of_mem _ mw_169)) (fun _ h9 => h9) rfl dX12_damaged_164 ?_
                refine lv_sipush (v := 654) hx hb dX12_damaged_167 (by decide) ?_
                refine xiald (k := 654) hx hb hK hP 1 0 rfl rfl (vpL 654 13385 rfl) (by decide) dX12_damaged_170 ?_
                have hPc := pSub (ws' := (w_X12_check h0 h_row h_kept h_isKept h_aside h_eight h_rows h_scales h_dealt h_bytes h_heardRow h_made h_comes h_backs h_fresh cy (0 : Int32) c_nodeS c_nodeD c_pairE c_pairO c_bit c_lag c_lagSum f21)) hP [0, 2] rfl
                have hDc := dSub (ws' := (w_X12_check h0 h_row h_kept h_isKept h_aside h_eight h_rows h_scales h_dealt h_bytes h_heardRow h_made h_comes h_backs h_fresh cy (0 : Int32) c_nodeS c_nodeD c_pairE c_pairO c_bit c_lag c_lagSum f21)) hD [0, 2] (by decide) rfl
                have hFc := va_free (wc := (w_X12_check h0 h_row h_kept h_isKept h_aside h_eight h_rows h_scales h_dealt h_bytes h_heardRow h_made h_comes h_backs h_fresh cy (0 : Int32) c_nodeS c_nodeD c_pairE c_pairO c_bit c_lag c_lagSum f21)) hD hS hA [0, 2] rfl
                refine va_calli (va_runV (As := [.int (c_row 654)]) (rest := [.int (f21 3)]) ⟨hx, hb, hml, hown, hts⟩ (c_X12_check l dC dI cy h0 h_row h_kept h_isKept h_aside h_eight h_rows h_scales h_dealt h_bytes h_heardRow h_made h_comes h_backs h_fresh H.size (c_row 654) (0 : Int32) c_nodeS c_nodeD c_pairE c_pairO c_bit c_lag c_lagSum f21 _ hw) (cwV 1 hts (goodV mw_678 mw_675 mw_676 mw_677 mw_5) rfl rfl rfl (by decide +kernel) ⟨Nat.le_of_ble_eq_true rfl, Nat.le_of_ble_eq_true rfl⟩) ⟨PX_blind, va_recv hK hPc (ci := 12) (q0 := 0) rfl rfl, PX_pre hPc hK hDc hG⟩ rfl rfl hl.1 rfl (lv_room (Nat.le_of_ble_eq_true rfl)) dX12_damaged_171 ⟨Nat.zero_le _, Nat.zero_le _⟩) hS (fun q _ h => hFc q h) hFc ?_; clear hw hS; intro r28 _ t H1 locs1 ht hvm hw hB hz1 hk1 hS
                obtain ⟨hP1, -, -⟩ := hB
                rw [ht] at hP1
                replace hP := jC0 hP hD [0, 2] [1] rfl hk1 hP1 (w_X12_damaged h0 h_row h_kept h_isKept h_aside h_eight h_rows h_scales h_dealt h_bytes h_heardRow h_made h_comes h_backs h_fresh cy (0 : Int32) c_nodeS c_nodeD c_pairE c_pairO c_bit c_lag c_lagSum c_row f21) rfl rfl rfl 3 rfl (by decide +kernel); clear hD; obtain ⟨hP, hD⟩ := hP
                replace hP : va_P (dC, dI) vwCl (w_X12_damaged h0 h_row h_kept h_isKept h_aside h_eight h_rows h_scales h_dealt h_bytes h_heardRow h_made h_comes h_backs h_fresh cy (0 : Int32) c_nodeS c_nodeD c_pairE c_pairO c_bit c_lag c_lagSum c_row f21) H1 := hP
                replace hD : va_D A (w_X12_damaged h0 h_row h_kept h_isKept h_aside h_eight h_rows h_scales h_dealt h_bytes h_heardRow h_made h_comes h_backs h_fresh cy (0 : Int32) c_nodeS c_nodeD c_pairE c_pairO c_bit c_lag c_lagSum c_row f21) := hD
                clear hPc hDc hFc hP1 hk1 hz1 hvm ht; clear t; clear H locs; obtain ⟨H, hH⟩ : ∃ H, H = H1 := ⟨_, rfl⟩; obtain ⟨locs, hlo⟩ : ∃ L, L = locs1 := ⟨_, rfl⟩; subst hH; subst hlo
                refine W.widen (k := 0) (n := 0) (Nat.le_refl 0) (Nat.le_refl 0) ?_
                refine lv_icmp_eq (tgt := 181) hx hb dX12_damaged_174 (by decide) (fun c29 => ?_) (fun c29 => ?_)
                · replace hw := hw.1 c29; clear c29
                  refine lv_iconst (v := 2) hx hb dX12_damaged_181 (by decide) ?_
                  subst hQe
                  exact W.iret (v := (2 : Int32)) hx hb hr (fun t ht hW => ⟨⟨(2 : Int32), ((0 : Int32), f21), rfl, hw, by rw [ht]; exact hP, va_K.moved hW.alike hK, hD⟩, hS.F ht⟩) hS.2.2 dX12_damaged_182
                · replace hw := hw.2 c29; clear c29
                  refine lv_iconst (v := 1) hx hb dX12_damaged_177 (by decide) ?_
                  refine lv_goto (tgt := 182) hx hb dX12_damaged_178 (by decide) ?_
                  subst hQe
                  exact W.iret (v := (1 : Int32)) hx hb hr (fun t ht hW => ⟨⟨(1 : Int32), ((0 : Int32), f21), rfl, hw, by rw [ht]; exact hP, va_K.moved hW.alike hK, hD⟩, hS.F ht⟩) hS.2.2 dX12_damaged_182
              · replace hw := hw.2 c25; clear c25
                refine lv_iconst (v := 0) hx hb dX12_damaged_152 (by decide) ?_
                refine lv_goto (tgt := 182) hx hb dX12_damaged_153 (by decide) ?_
                subst hQe
                exact W.iret (v := (0 : Int32)) hx hb hr (fun t ht hW => ⟨⟨(0 : Int32), ((0 : Int32), f21), rfl, hw, by rw [ht]; exact hP, va_K.moved hW.alike hK, hD⟩, hS.F ht⟩) hS.2.2 dX12_damaged_182
            · intro j23 hw
              refine lv_icmp_eq (tgt := 140) hx hb dX12_damaged_116 (by decide) (fun c30 => ?_) (fun c30 => ?_)
              · replace hw := hw.1 c30; clear c30
                exact j23 f20 hw H locs ls hP hD hS (lv_sub hl [1] rfl)
              · replace hw := hw.2 c30; clear c30
                refine lv_aload_n hx hb dX12_damaged_119 rfl (lv_at hl 1 rfl) ?_
                refine va_get (D := (dC, dI)) (ci := 12) (v := .ref h_bytes) (C := RX12) (T := TX12) (N := 22) hx hb hts inX12 hown hK hP 0 rfl rfl 13 (by decide) (hts _ (List.mem_cons_of_mem _ mw_178)) (fun _ h9 => h9) rfl dX12_damaged_120 ?_
                refine lv_iload_n hx hb dX12_damaged_123 rfl (lv_at hl 3 rfl) ?_
                refine lv_bipush (v := 8) hx hb dX12_damaged_124 (by decide) ?_
                refine lv_idiv hx hb dX12_damaged_126 (by decide) ?_
                refine lv_topi (fun x31 e_x31 => ?_)
                replace hw := hw x31 e_x31
                clear e_x31
                refine lv_dup2_11 hx hb dX12_damaged_127 rfl rfl ?_
                obtain ⟨h32, hw⟩ := hw
                refine xiald (k := x31.toNatClampNeg) hx hb hK hP 2 0 rfl rfl h32 rfl dX12_damaged_128 ?_
                refine lv_iconst (v := 1) hx hb dX12_damaged_129 (by decide) ?_
                refine lv_bipush (v := 7) hx hb dX12_damaged_130 (by decide) ?_
                refine lv_iload_n hx hb dX12_damaged_132 rfl (lv_at hl 3 rfl) ?_
                refine lv_bipush (v := 8) hx hb dX12_damaged_133 (by decide) ?_
                refine lv_irem hx hb dX12_damaged_135 (by decide) ?_
                refine lv_topi (fun x33 e_x33 => ?_)
                replace hw := hw x33 e_x33
                clear e_x33
                refine lv_isub hx hb dX12_damaged_136 ?_
                refine lv_ishl hx hb dX12_damaged_137 ?_
                refine lv_ixor hx hb dX12_damaged_138 ?_
                obtain ⟨h34, hw⟩ := hw
                refine xiast (k := x31.toNatClampNeg) hx hb hK hP hD hS 2 0 rfl rfl h34 rfl dX12_damaged_139 ?_; clear hP hD hS; clear H locs; intro f35 e_f35 H locs hP hD hS
                replace hw := hw f35 e_f35
                clear e_f35
                replace hP : va_P (dC, dI) vwCl (w_X12_damaged h0 h_row h_kept h_isKept h_aside h_eight h_rows h_scales h_dealt h_bytes h_heardRow h_made h_comes h_backs h_fresh cy (0 : Int32) c_nodeS c_nodeD c_pairE c_pairO c_bit c_lag c_lagSum c_row f35) H := hP
                replace hD : va_D A (w_X12_damaged h0 h_row h_kept h_isKept h_aside h_eight h_rows h_scales h_dealt h_bytes h_heardRow h_made h_comes h_backs h_fresh cy (0 : Int32) c_nodeS c_nodeD c_pairE c_pairO c_bit c_lag c_lagSum c_row f35) := hD
                exact j23 f35 hw H locs ls hP hD hS (lv_sub hl [1] rfl)
          · replace hw := hw.2 c15; clear c15
            refine lv_aload_n hx hb dX12_damaged_69 rfl (lv_at hl 1 rfl) ?_
            refine va_get (D := (dC, dI)) (ci := 12) (v := .ref h_bytes) (C := RX12) (T := TX12) (N := 22) hx hb hts inX12 hown hK hP 0 rfl rfl 13 (by decide) (hts _ (List.mem_cons_of_mem _ mw_178)) (fun _ h9 => h9) rfl dX12_damaged_70 ?_
            refine lv_iload hx hb dX12_damaged_73 (lv_at hl 0 rfl) ?_
            refine lv_aload_n hx hb dX12_damaged_75 rfl (lv_at hl 1 rfl) ?_
            refine va_get (D := (dC, dI)) (ci := 12) (v := .ref h_row) (C := RX12) (T := TX12) (N := 22) hx hb hts inX12 hown hK hP 0 rfl rfl 1 (by decide) (hts _ (List.mem_cons_of_mem _ mw_169)) (fun _ h9 => h9) rfl dX12_damaged_76 ?_
            refine lv_sipush (v := 655) hx hb dX12_damaged_79 (by decide) ?_
            refine lv_iload hx hb dX12_damaged_82 (lv_at hl 0 rfl) ?_
            refine lv_iadd hx hb dX12_damaged_84 ?_
            obtain ⟨h36, hw⟩ := hw
            refine xiald (k := ((655 : Int32) + x13).toNatClampNeg) hx hb hK hP 1 0 rfl rfl h36 rfl dX12_damaged_85 ?_
            obtain ⟨h37, hw⟩ := hw
            refine xiast (k := x13.toNatClampNeg) hx hb hK hP hD hS 2 0 rfl rfl h37 rfl dX12_damaged_86 ?_; clear hP hD hS; clear H locs; intro f38 e_f38 H locs hP hD hS
            replace hw := hw f38 e_f38
            clear e_f38
            replace hP : va_P (dC, dI) vwCl (w_X12_damaged h0 h_row h_kept h_isKept h_aside h_eight h_rows h_scales h_dealt h_bytes h_heardRow h_made h_comes h_backs h_fresh cy (0 : Int32) c_nodeS c_nodeD c_pairE c_pairO c_bit c_lag c_lagSum c_row f38) H := hP
            replace hD : va_D A (w_X12_damaged h0 h_row h_kept h_isKept h_aside h_eight h_rows h_scales h_dealt h_bytes h_heardRow h_made h_comes h_backs h_fresh cy (0 : Int32) c_nodeS c_nodeD c_pairE c_pairO c_bit c_lag c_lagSum c_row f38) := hD
            refine lv_iinc (v := x13 + 1) (lv' := [(4, .int (x13 + 1)), (0, .ref h0), (1, .int v1), (2, .int v2)]) hx hb dX12_damaged_87 hl (k := 0) rfl rfl (by decide) rfl ?_; clear hl; clear ls; intro ls hl
            refine lv_goto (tgt := 62) hx hb dX12_damaged_90 (by decide) ?_
            exact ih12 (x13 + 1) f38 hw H locs ls hP hD hS (lv_sub hl [0, 1, 2, 3] rfl)
        · replace hw := hw.1 c9; clear c9
          refine lv_iconst (v := -1) hx hb dX12_damaged_57 (by decide) ?_
          subst hQe
          exact W.iret (v := (-1 : Int32)) hx hb hr (fun t ht hW => ⟨⟨(-1 : Int32), ((0 : Int32), c_bytes), rfl, hw, by rw [ht]; exact hP, va_K.moved hW.alike hK, hD⟩, hS.F ht⟩) hS.2.2 dX12_damaged_58
set_option maxHeartbeats 4000000 in
set_option maxRecDepth 100000 in
theorem c_X12_heard (l : Launch) (dC : Nat → ClassId) (dI : Nat → Nat → Nat) (cy : Nat → ClassId) (h0 h_row h_kept h_isKept h_aside h_eight h_rows h_scales h_dealt h_bytes h_heardRow h_made h_comes h_backs h_fresh : Nat) (sz : Nat) (v1 : Int32) (v2 : Int32) (c_thrown : Int32) (c_nodeS : Int32) (c_nodeD : Int32) (c_pairE : Int32) (c_pairO : Int32) (c_bit : Int32) (c_lag : Int32) (c_lagSum : Int32) (c_row : Nat → Int32) (post : Int32 → Int32 → Prop) (hw : wp_X12_heard v1 v2 c_thrown c_row post) : Met l yX12_heard wsX12_heard ({ frames := 1, cells := 0, slots := 0, locals := 25 }) (PX dC dI cy [.ref h0, .int v1, .int v2] sz (w_X12_heard h0 h_row h_kept h_isKept h_aside h_eight h_rows h_scales h_dealt h_bytes h_heardRow h_made h_comes h_backs h_fresh cy c_thrown c_nodeS c_nodeD c_pairE c_pairO c_bit c_lag c_lagSum c_row)) (va_Qi (fun (r : Int32) (u : Int32) => post r u) (QX dC dI cy (va_A (w_X12_heard h0 h_row h_kept h_isKept h_aside h_eight h_rows h_scales h_dealt h_bytes h_heardRow h_made h_comes h_backs h_fresh cy c_thrown c_nodeS c_nodeD c_pairE c_pairO c_bit c_lag c_lagSum c_row) sz) (fun (u : Int32) => w_X12_heard h0 h_row h_kept h_isKept h_aside h_eight h_rows h_scales h_dealt h_bytes h_heardRow h_made h_comes h_backs h_fresh cy u c_nodeS c_nodeD c_pairE c_pairO c_bit c_lag c_lagSum c_row)) (va_A (w_X12_heard h0 h_row h_kept h_isKept h_aside h_eight h_rows h_scales h_dealt h_bytes h_heardRow h_made h_comes h_backs h_fresh cy c_thrown c_nodeS c_nodeD c_pairE c_pairO c_bit c_lag c_lagSum c_row) sz)) 0 0 (va_A (w_X12_heard h0 h_row h_kept h_isKept h_aside h_eight h_rows h_scales h_dealt h_bytes h_heardRow h_made h_comes h_backs h_fresh cy c_thrown c_nodeS c_nodeD c_pairE c_pairO c_bit c_lag c_lagSum c_row) sz) := by
  refine Met.ofW (cc := cX12_heard) (maxL := 3) (ret := (some .int)) (by decide) rfl ?_
  intro p e s m args below meth c s₁ B hml hv
  obtain ⟨rfl, hsz, hP, hK, hD0, hG⟩ := hv
  have hx := B.exec
  have hb := B.bytes
  have hr := B.returns
  have hts := atoms_spec (ws := wsX12_heard) B.pre
  have hown : s.vm.findClass RX12 = some m.cls := findClass_of_methodNamed B.named
  have hlocks := B.notSynchronized
  subst hsz
  have hD := hD0.self (sz := s.heap.size)
  generalize hAe : va_A (w_X12_heard h0 h_row h_kept h_isKept h_aside h_eight h_rows h_scales h_dealt h_bytes h_heardRow h_made h_comes h_backs h_fresh cy c_thrown c_nodeS c_nodeD c_pairE c_pairO c_bit c_lag c_lagSum c_row) s.heap.size = A at hD ⊢
  have hA : ∀ q : Nat, s.heap.size ≤ q → A q := fun q h => by rw [← hAe]; exact Or.inr h
  have hS : va_S A s.heap s.heap [] := va_S.rf
  have hl := lv_entry ([.ref h0, .int v1, .int v2]) (n := 3) (Nat.le_of_ble_eq_true rfl)
  rw [lg_entry_eq]
  generalize (lg_sl ([.ref h0, .int v1, .int v2]) ++ List.replicate (3 - (lg_sl ([.ref h0, .int v1, .int v2])).length) Slot.unset).toArray = ls at hl ⊢
  replace hl : lv_has ls 3 [(0, .ref h0), (1, .int v1), (2, .int v2)] := hl
  have inX12 : ∀ w ∈ u_ws RX12 TX12 22, w ∈ wsX12_heard := fun w h => List.mem_cons_of_mem _ (inlX12 w h)
  clear hAe hD0 B
  unfold wp_X12_heard at hw
  generalize hQe : MQ below _ _ s _ _ _ = Q0
  generalize ([.ref h0, .int v1, .int v2] : List Value).toArray = av at *
  obtain ⟨H, hH⟩ : ∃ H, H = s.heap := ⟨_, rfl⟩
  obtain ⟨locs, hlo⟩ : ∃ L : List Loc, L = [] := ⟨_, rfl⟩
  replace hP : va_P (dC, dI) vwCl (w_X12_heard h0 h_row h_kept h_isKept h_aside h_eight h_rows h_scales h_dealt h_bytes h_heardRow h_made h_comes h_backs h_fresh cy c_thrown c_nodeS c_nodeD c_pairE c_pairO c_bit c_lag c_lagSum c_row) H := by rw [hH]; exact hP
  replace hS : va_S A s.heap H locs := by rw [hH, hlo]; exact hS
  suffices hgo : W p l e ({ frames := 1, cells := 0, slots := 0, locals := 25 }) s m av below meth c H locs 0 0 Q0 (F0 m 0 ls []) by rw [hH, hlo] at hgo; exact hgo
  clear hH hlo
  refine lv_aload_n hx hb dX12_heard_0 rfl (lv_at hl 0 rfl) ?_
  refine lv_iconst (v := 0) hx hb dX12_heard_1 (by decide) ?_
  refine va_put (D := (dC, dI)) (ci := 12) (v := .int (0 : Int32)) (ty := .int) (C := RX12) (T := TX12) (N := 22) hx hb hts inX12 tyX12 tyX12_ok nmX12 hown hK hP hD hS 0 rfl rfl 0 (by decide) (hts _ (List.mem_cons_of_mem _ mw_200)) (fun _ h9 => h9) rfl (by decide +kernel) rfl rfl (Nat.le_of_ble_eq_true rfl) dX12_heard_2 ?_; clear hP hD hS; clear H locs; intro H locs hP hD hS
  replace hP : va_P (dC, dI) vwCl (w_X12_heard h0 h_row h_kept h_isKept h_aside h_eight h_rows h_scales h_dealt h_bytes h_heardRow h_made h_comes h_backs h_fresh cy (0 : Int32) c_nodeS c_nodeD c_pairE c_pairO c_bit c_lag c_lagSum c_row) H := hP
  replace hD : va_D A (w_X12_heard h0 h_row h_kept h_isKept h_aside h_eight h_rows h_scales h_dealt h_bytes h_heardRow h_made h_comes h_backs h_fresh cy (0 : Int32) c_nodeS c_nodeD c_pairE c_pairO c_bit c_lag c_lagSum c_row) := hD
  refine lv_iload_n hx hb dX12_heard_5 rfl (lv_at hl 1 rfl) ?_
  refine lv_i2l (v := v1.toInt64) hx hb dX12_heard_6 rfl ?_
  refine lv_lconst (v := 0) hx hb dX12_heard_7 (by decide) ?_
  refine lv_lconst (v := 1) hx hb dX12_heard_8 (by decide) ?_
  have hPc := pSub (ws' := (w_X12_in cy)) hP [] rfl
  have hDc := dSub (ws' := (w_X12_in cy)) hD [] (by decide) rfl
  have hFc := va_free (wc := (w_X12_in cy)) hD hS hA [] rfl
  refine va_calli (va_runS (As := [.long (v1.toInt64), .long (0 : Int64), .long (1 : Int64)]) (rest := []) ⟨hx, hb, hml, hown, hts⟩ (c_X12_in l dC dI cy  H.size (v1.toInt64) (0 : Int64) (1 : Int64) _ hw) (va_cwS 3 hts (goodS mw_207 mw_205 mw_206 mw_5) rfl rfl rfl (by decide +kernel) ⟨Nat.le_of_ble_eq_true rfl, Nat.le_of_ble_eq_true rfl⟩) ⟨PX_blind, PX_pre hPc hK hDc hG⟩ rfl rfl hl.1 rfl (lv_room (Nat.le_of_ble_eq_true rfl)) dX12_heard_9 ⟨Nat.zero_le _, Nat.zero_le _⟩) hS (fun q _ h => hFc q h) hFc ?_; clear hw hS; intro r1 _ t H1 locs1 ht hvm hw hB hz1 hk1 hS
  obtain ⟨hP1, -, -⟩ := hB
  rw [ht] at hP1
  replace hP := jC0 hP hD [] [0, 1] rfl hk1 hP1 (w_X12_heard h0 h_row h_kept h_isKept h_aside h_eight h_rows h_scales h_dealt h_bytes h_heardRow h_made h_comes h_backs h_fresh cy (0 : Int32) c_nodeS c_nodeD c_pairE c_pairO c_bit c_lag c_lagSum c_row) rfl rfl rfl 2 rfl (by decide +kernel); clear hD; obtain ⟨hP, hD⟩ := hP
  replace hP : va_P (dC, dI) vwCl (w_X12_heard h0 h_row h_kept h_isKept h_aside h_eight h_rows h_scales h_dealt h_bytes h_heardRow h_made h_comes h_backs h_fresh cy (0 : Int32) c_nodeS c_nodeD c_pairE c_pairO c_bit c_lag c_lagSum c_row) H1 := hP
  replace hD : va_D A (w_X12_heard h0 h_row h_kept h_isKept h_aside h_eight h_rows h_scales h_dealt h_bytes h_heardRow h_made h_comes h_backs h_fresh cy (0 : Int32) c_nodeS c_nodeD c_pairE c_pairO c_bit c_lag c_lagSum c_row) := hD
  clear hPc hDc hFc hP1 hk1 hz1 hvm ht; clear t; clear H locs; obtain ⟨H, hH⟩ : ∃ H, H = H1 := ⟨_, rfl⟩; obtain ⟨locs, hlo⟩ : ∃ L, L = locs1 := ⟨_, rfl⟩; subst hH; subst hlo
  refine W.widen (k := 0) (n := 0) (Nat.le_refl 0) (Nat.le_refl 0) ?_
  refine lv_if_eq (tgt := 51) hx hb dX12_heard_12 (by decide) (fun c2 => ?_) (fun c2 => ?_)
  · replace hw := hw.1 c2; clear c2
    refine lv_ldc (v := -2147483648) hx hb hown (hts _ (List.mem_cons_of_mem _ mw_908)) dX12_heard_51 ?_
    subst hQe
    exact W.iret (v := (-2147483648 : Int32)) hx hb hr (fun t ht hW => ⟨⟨(-2147483648 : Int32), (0 : Int32), rfl, hw, by rw [ht]; exact hP, va_K.moved hW.alike hK, hD⟩, hS.F ht⟩) hS.2.2 dX12_heard_53
  · replace hw := hw.2 c2; clear c2
    refine lv_iload_n hx hb dX12_heard_15 rfl (lv_at hl 2 rfl) ?_
    refine lv_i2l (v := v2.toInt64) hx hb dX12_heard_16 rfl ?_
    refine lv_lconst (v := 0) hx hb dX12_heard_17 (by decide) ?_
    refine lv_ldc2 (v := 191) hx hb hown (hts _ (List.mem_cons_of_mem _ mw_1090)) dX12_heard_18 ?_
    have hPc := pSub (ws' := (w_X12_in cy)) hP [] rfl
    have hDc := dSub (ws' := (w_X12_in cy)) hD [] (by decide) rfl
    have hFc := va_free (wc := (w_X12_in cy)) hD hS hA [] rfl
    refine va_calli (va_runS (As := [.long (v2.toInt64), .long (0 : Int64), .long (191 : Int64)]) (rest := []) ⟨hx, hb, hml, hown, hts⟩ (c_X12_in l dC dI cy  H.size (v2.toInt64) (0 : Int64) (191 : Int64) _ hw) (va_cwS 3 hts (goodS mw_207 mw_205 mw_206 mw_5) rfl rfl rfl (by decide +kernel) ⟨Nat.le_of_ble_eq_true rfl, Nat.le_of_ble_eq_true rfl⟩) ⟨PX_blind, PX_pre hPc hK hDc hG⟩ rfl rfl hl.1 rfl (lv_room (Nat.le_of_ble_eq_true rfl)) dX12_heard_21 ⟨Nat.zero_le _, Nat.zero_le _⟩) hS (fun q _ h => hFc q h) hFc ?_; clear hw hS; intro r3 _ t H1 locs1 ht hvm hw hB hz1 hk1 hS
    obtain ⟨hP1, -, -⟩ := hB
    rw [ht] at hP1
    replace hP := jC0 hP hD [] [0, 1] rfl hk1 hP1 (w_X12_heard h0 h_row h_kept h_isKept h_aside h_eight h_rows h_scales h_dealt h_bytes h_heardRow h_made h_comes h_backs h_fresh cy (0 : Int32) c_nodeS c_nodeD c_pairE c_pairO c_bit c_lag c_lagSum c_row) rfl rfl rfl 2 rfl (by decide +kernel); clear hD; obtain ⟨hP, hD⟩ := hP
    replace hP : va_P (dC, dI) vwCl (w_X12_heard h0 h_row h_kept h_isKept h_aside h_eight h_rows h_scales h_dealt h_bytes h_heardRow h_made h_comes h_backs h_fresh cy (0 : Int32) c_nodeS c_nodeD c_pairE c_pairO c_bit c_lag c_lagSum c_row) H1 := hP
    replace hD : va_D A (w_X12_heard h0 h_row h_kept h_isKept h_aside h_eight h_rows h_scales h_dealt h_bytes h_heardRow h_made h_comes h_backs h_fresh cy (0 : Int32) c_nodeS c_nodeD c_pairE c_pairO c_bit c_lag c_lagSum c_row) := hD
    clear hPc hDc hFc hP1 hk1 hz1 hvm ht; clear t; clear H locs; obtain ⟨H, hH⟩ : ∃ H, H = H1 := ⟨_, rfl⟩; obtain ⟨locs, hlo⟩ : ∃ L, L = locs1 := ⟨_, rfl⟩; subst hH; subst hlo
    refine W.widen (k := 0) (n := 0) (Nat.le_refl 0) (Nat.le_refl 0) ?_
    refine lv_if_eq (tgt := 51) hx hb dX12_heard_24 (by decide) (fun c4 => ?_) (fun c4 => ?_)
    · replace hw := hw.1 c4; clear c4
      refine lv_ldc (v := -2147483648) hx hb hown (hts _ (List.mem_cons_of_mem _ mw_908)) dX12_heard_51 ?_
      subst hQe
      exact W.iret (v := (-2147483648 : Int32)) hx hb hr (fun t ht hW => ⟨⟨(-2147483648 : Int32), (0 : Int32), rfl, hw, by rw [ht]; exact hP, va_K.moved hW.alike hK, hD⟩, hS.F ht⟩) hS.2.2 dX12_heard_53
    · replace hw := hw.2 c4; clear c4
      refine lv_aload_n hx hb dX12_heard_27 rfl (lv_at hl 0 rfl) ?_
      refine va_get (D := (dC, dI)) (ci := 12) (v := .ref h_row) (C := RX12) (T := TX12) (N := 22) hx hb hts inX12 hown hK hP 0 rfl rfl 1 (by decide) (hts _ (List.mem_cons_of_mem _ mw_169)) (fun _ h9 => h9) rfl dX12_heard_28 ?_
      refine lv_bipush (v := 109) hx hb dX12_heard_31 (by decide) ?_
      refine lv_sipush (v := 192) hx hb dX12_heard_33 (by decide) ?_
      refine lv_iload_n hx hb dX12_heard_36 rfl (lv_at hl 1 rfl) ?_
      refine lv_imul hx hb dX12_heard_37 ?_
      refine lv_iadd hx hb dX12_heard_38 ?_
      refine lv_sipush (v := 192) hx hb dX12_heard_39 (by decide) ?_
      refine lv_iadd hx hb dX12_heard_42 ?_
      refine lv_iconst (v := 1) hx hb dX12_heard_43 (by decide) ?_
      refine lv_isub hx hb dX12_heard_44 ?_
      refine lv_iload_n hx hb dX12_heard_45 rfl (lv_at hl 2 rfl) ?_
      refine lv_isub hx hb dX12_heard_46 ?_
      obtain ⟨h5, hw⟩ := hw
      refine xiald (k := (((((109 : Int32) + ((192 : Int32) * v1)) + (192 : Int32)) - (1 : Int32)) - v2).toNatClampNeg) hx hb hK hP 1 0 rfl rfl h5 rfl dX12_heard_47 ?_
      refine lv_goto (tgt := 53) hx hb dX12_heard_48 (by decide) ?_
      subst hQe
      exact W.iret (v := c_row (((((109 : Int32) + ((192 : Int32) * v1)) + (192 : Int32)) - (1 : Int32)) - v2).toNatClampNeg) hx hb hr (fun t ht hW => ⟨⟨(c_row (((((109 : Int32) + ((192 : Int32) * v1)) + (192 : Int32)) - (1 : Int32)) - v2).toNatClampNeg), (0 : Int32), rfl, hw, by rw [ht]; exact hP, va_K.moved hW.alike hK, hD⟩, hS.F ht⟩) hS.2.2 dX12_heard_53
set_option maxHeartbeats 4000000 in
set_option maxRecDepth 100000 in
theorem c_X12_spectrum (l : Launch) (dC : Nat → ClassId) (dI : Nat → Nat → Nat) (cy : Nat → ClassId) (h0 h_row h_kept h_isKept h_aside h_eight h_rows h_scales h_dealt h_bytes h_heardRow h_made h_comes h_backs h_fresh : Nat) (sz : Nat) (v1 : Int32) (v2 : Int32) (c_thrown : Int32) (c_nodeS : Int32) (c_nodeD : Int32) (c_pairE : Int32) (c_pairO : Int32) (c_bit : Int32) (c_lag : Int32) (c_lagSum : Int32) (c_fresh : Nat → Int32) (c_row : Nat → Int32) (c_eight : Nat → Int32) (c_rows : Nat → Int32) (post : Int32 → Int32 → Int32 → Int32 → (Nat → Int32) → (Nat → Int32) → (Nat → Int32) → Prop) (hw : wp_X12_spectrum v1 v2 c_thrown c_nodeS c_nodeD c_fresh c_row c_eight c_rows post) : Met l yX12_spectrum wsX12_spectrum ({ frames := 3, cells := 0, slots := 0, locals := 72 }) (PX dC dI cy [.ref h0, .int v1, .int v2] sz (w_X12_spectrum h0 h_row h_kept h_isKept h_aside h_eight h_rows h_scales h_dealt h_bytes h_heardRow h_made h_comes h_backs h_fresh cy c_thrown c_nodeS c_nodeD c_pairE c_pairO c_bit c_lag c_lagSum c_fresh c_row c_eight c_rows)) (va_Qi (fun (r : Int32) (u : Int32 × Int32 × Int32 × (Nat → Int32) × (Nat → Int32) × (Nat → Int32)) => post r u.1 u.2.1 u.2.2.1 u.2.2.2.1 u.2.2.2.2.1 u.2.2.2.2.2) (QX dC dI cy (va_A (w_X12_spectrum h0 h_row h_kept h_isKept h_aside h_eight h_rows h_scales h_dealt h_bytes h_heardRow h_made h_comes h_backs h_fresh cy c_thrown c_nodeS c_nodeD c_pairE c_pairO c_bit c_lag c_lagSum c_fresh c_row c_eight c_rows) sz) (fun (u : Int32 × Int32 × Int32 × (Nat → Int32) × (Nat → Int32) × (Nat → Int32)) => w_X12_spectrum h0 h_row h_kept h_isKept h_aside h_eight h_rows h_scales h_dealt h_bytes h_heardRow h_made h_comes h_backs h_fresh cy u.1 u.2.1 u.2.2.1 c_pairE c_pairO c_bit c_lag c_lagSum u.2.2.2.1 c_row u.2.2.2.2.1 u.2.2.2.2.2)) (va_A (w_X12_spectrum h0 h_row h_kept h_isKept h_aside h_eight h_rows h_scales h_dealt h_bytes h_heardRow h_made h_comes h_backs h_fresh cy c_thrown c_nodeS c_nodeD c_pairE c_pairO c_bit c_lag c_lagSum c_fresh c_row c_eight c_rows) sz)) 0 0 (va_A (w_X12_spectrum h0 h_row h_kept h_isKept h_aside h_eight h_rows h_scales h_dealt h_bytes h_heardRow h_made h_comes h_backs h_fresh cy c_thrown c_nodeS c_nodeD c_pairE c_pairO c_bit c_lag c_lagSum c_fresh c_row c_eight c_rows) sz) := by
  refine Met.ofW (cc := cX12_spectrum) (maxL := 6) (ret := (some .int)) (by decide) rfl ?_
  intro p e s m args below meth c s₁ B hml hv
  obtain ⟨rfl, hsz, hP, hK, hD0, hG⟩ := hv
  have hx := B.exec
  have hb := B.bytes
  have hr := B.returns
  have hts := atoms_spec (ws := wsX12_spectrum) B.pre
  have hown : s.vm.findClass RX12 = some m.cls := findClass_of_methodNamed B.named
  have hlocks := B.notSynchronized
  subst hsz
  have hD := hD0.self (sz := s.heap.size)
  generalize hAe : va_A (w_X12_spectrum h0 h_row h_kept h_isKept h_aside h_eight h_rows h_scales h_dealt h_bytes h_heardRow h_made h_comes h_backs h_fresh cy c_thrown c_nodeS c_nodeD c_pairE c_pairO c_bit c_lag c_lagSum c_fresh c_row c_eight c_rows) s.heap.size = A at hD ⊢
  have hA : ∀ q : Nat, s.heap.size ≤ q → A q := fun q h => by rw [← hAe]; exact Or.inr h
  have hS : va_S A s.heap s.heap [] := va_S.rf
  have hl := lv_entry ([.ref h0, .int v1, .int v2]) (n := 6) (Nat.le_of_ble_eq_true rfl)
  rw [lg_entry_eq]
  generalize (lg_sl ([.ref h0, .int v1, .int v2]) ++ List.replicate (6 - (lg_sl ([.ref h0, .int v1, .int v2])).length) Slot.unset).toArray = ls at hl ⊢
  replace hl : lv_has ls 6 [(0, .ref h0), (1, .int v1), (2, .int v2)] := hl
  have inX12 : ∀ w ∈ u_ws RX12 TX12 22, w ∈ wsX12_spectrum := fun w h => List.mem_cons_of_mem _ (inlX12 w h)
  clear hAe hD0 B
  unfold wp_X12_spectrum at hw
  generalize hQe : MQ below _ _ s _ _ _ = Q0
  generalize ([.ref h0, .int v1, .int v2] : List Value).toArray = av at *
  obtain ⟨H, hH⟩ : ∃ H, H = s.heap := ⟨_, rfl⟩
  obtain ⟨locs, hlo⟩ : ∃ L : List Loc, L = [] := ⟨_, rfl⟩
  replace hP : va_P (dC, dI) vwCl (w_X12_spectrum h0 h_row h_kept h_isKept h_aside h_eight h_rows h_scales h_dealt h_bytes h_heardRow h_made h_comes h_backs h_fresh cy c_thrown c_nodeS c_nodeD c_pairE c_pairO c_bit c_lag c_lagSum c_fresh c_row c_eight c_rows) H := by rw [hH]; exact hP
  replace hS : va_S A s.heap H locs := by rw [hH, hlo]; exact hS
  suffices hgo : W p l e ({ frames := 3, cells := 0, slots := 0, locals := 72 }) s m av below meth c H locs 0 0 Q0 (F0 m 0 ls []) by rw [hH, hlo] at hgo; exact hgo
  clear hH hlo
  refine lv_aload_n hx hb dX12_spectrum_0 rfl (lv_at hl 0 rfl) ?_
  refine lv_iconst (v := 0) hx hb dX12_spectrum_1 (by decide) ?_
  refine va_put (D := (dC, dI)) (ci := 12) (v := .int (0 : Int32)) (ty := .int) (C := RX12) (T := TX12) (N := 22) hx hb hts inX12 tyX12 tyX12_ok nmX12 hown hK hP hD hS 0 rfl rfl 0 (by decide) (hts _ (List.mem_cons_of_mem _ mw_200)) (fun _ h9 => h9) rfl (by decide +kernel) rfl rfl (Nat.le_of_ble_eq_true rfl) dX12_spectrum_2 ?_; clear hP hD hS; clear H locs; intro H locs hP hD hS
  replace hP : va_P (dC, dI) vwCl (w_X12_spectrum h0 h_row h_kept h_isKept h_aside h_eight h_rows h_scales h_dealt h_bytes h_heardRow h_made h_comes h_backs h_fresh cy (0 : Int32) c_nodeS c_nodeD c_pairE c_pairO c_bit c_lag c_lagSum c_fresh c_row c_eight c_rows) H := hP
  replace hD : va_D A (w_X12_spectrum h0 h_row h_kept h_isKept h_aside h_eight h_rows h_scales h_dealt h_bytes h_heardRow h_made h_comes h_backs h_fresh cy (0 : Int32) c_nodeS c_nodeD c_pairE c_pairO c_bit c_lag c_lagSum c_fresh c_row c_eight c_rows) := hD
  refine lv_iload_n hx hb dX12_spectrum_5 rfl (lv_at hl 1 rfl) ?_
  refine lv_iload_n hx hb dX12_spectrum_6 rfl (lv_at hl 2 rfl) ?_
  have hPc := pSub (ws' := (w_X12_isBand cy)) hP [] rfl
  have hDc := dSub (ws' := (w_X12_isBand cy)) hD [] (by decide) rfl
  have hFc := va_free (wc := (w_X12_isBand cy)) hD hS hA [] rfl
  refine va_calli (va_runS (As := [.int v1, .int v2]) (rest := []) ⟨hx, hb, hml, hown, hts⟩ (c_X12_isBand l dC dI cy  H.size v1 v2 _ hw) (va_cwS 2 hts (goodS mw_938 mw_936 mw_937 mw_5) rfl rfl rfl (by decide +kernel) ⟨Nat.le_of_ble_eq_true rfl, Nat.le_of_ble_eq_true rfl⟩) ⟨PX_blind, PX_pre hPc hK hDc hG⟩ rfl rfl hl.1 rfl (lv_room (Nat.le_of_ble_eq_true rfl)) dX12_spectrum_7 ⟨Nat.zero_le _, Nat.zero_le _⟩) hS (fun q _ h => hFc q h) hFc ?_; clear hw hS; intro r1 _ t H1 locs1 ht hvm hw hB hz1 hk1 hS
  obtain ⟨hP1, -, -⟩ := hB
  rw [ht] at hP1
  replace hP := jC0 hP hD [] [0, 1, 2, 3, 4] rfl hk1 hP1 (w_X12_spectrum h0 h_row h_kept h_isKept h_aside h_eight h_rows h_scales h_dealt h_bytes h_heardRow h_made h_comes h_backs h_fresh cy (0 : Int32) c_nodeS c_nodeD c_pairE c_pairO c_bit c_lag c_lagSum c_fresh c_row c_eight c_rows) rfl rfl rfl 5 rfl (by decide +kernel); clear hD; obtain ⟨hP, hD⟩ := hP
  replace hP : va_P (dC, dI) vwCl (w_X12_spectrum h0 h_row h_kept h_isKept h_aside h_eight h_rows h_scales h_dealt h_bytes h_heardRow h_made h_comes h_backs h_fresh cy (0 : Int32) c_nodeS c_nodeD c_pairE c_pairO c_bit c_lag c_lagSum c_fresh c_row c_eight c_rows) H1 := hP
  replace hD : va_D A (w_X12_spectrum h0 h_row h_kept h_isKept h_aside h_eight h_rows h_scales h_dealt h_bytes h_heardRow h_made h_comes h_backs h_fresh cy (0 : Int32) c_nodeS c_nodeD c_pairE c_pairO c_bit c_lag c_lagSum c_fresh c_row c_eight c_rows) := hD
  clear hPc hDc hFc hP1 hk1 hz1 hvm ht; clear t; clear H locs; obtain ⟨H, hH⟩ : ∃ H, H = H1 := ⟨_, rfl⟩; obtain ⟨locs, hlo⟩ : ∃ L, L = locs1 := ⟨_, rfl⟩; subst hH; subst hlo
  refine W.widen (k := 0) (n := 0) (Nat.le_refl 0) (Nat.le_refl 0) ?_
  refine lv_if_ne (tgt := 16) hx hb dX12_spectrum_10 (by decide) (fun c2 => ?_) (fun c2 => ?_)
  · replace hw := hw.2 c2; clear c2
    refine lv_iconst (v := 0) hx hb dX12_spectrum_16 (by decide) ?_
    refine lv_istore_n (lv' := [(3, .int (0 : Int32)), (0, .ref h0), (1, .int v1), (2, .int v2)]) hx hb dX12_spectrum_17 rfl hl (by decide) rfl ?_; clear hl; clear ls; intro ls hl
    obtain ⟨x3, e_x3⟩ : ∃ y : Int32, y = (0 : Int32) := ⟨_, rfl⟩
    replace hw := hw x3 e_x3
    replace hl : lv_has ls 6 [(3, .int x3), (0, .ref h0), (1, .int v1), (2, .int v2)] := by rw [e_x3]; exact hl
    clear e_x3
    replace hl := lv_sub (l' := [(3, .int x3), (0, .ref h0), (1, .int v1), (2, .int v2)]) hl [0, 1, 2, 3] rfl
    revert hl; revert hS; revert hD; revert hP; revert ls; revert locs; revert H
    revert hw; revert c_fresh; revert x3
    refine Lz2_gr ?_; intro g4 ih5 x6 f7 hw
    intro H locs ls hP hD hS hl
    refine lv_iload_n hx hb dX12_spectrum_18 rfl (lv_at hl 0 rfl) ?_
    refine lv_bipush (v := 14) hx hb dX12_spectrum_19 (by decide) ?_
    refine lv_icmp_ge (tgt := 37) hx hb dX12_spectrum_21 (by decide) (fun c8 => ?_) (fun c8 => ?_)
    · replace hw := hw.1 c8; clear c8
      clear ih5
      refine lv_iconst (v := 0) hx hb dX12_spectrum_37 (by decide) ?_
      refine lv_istore_n (lv' := [(3, .int (0 : Int32)), (0, .ref h0), (1, .int v1), (2, .int v2)]) hx hb dX12_spectrum_38 rfl hl (by decide) rfl ?_; clear hl; clear ls; intro ls hl
      refine lv_iconst (v := 0) hx hb dX12_spectrum_39 (by decide) ?_
      refine lv_istore (lv' := [(4, .int (0 : Int32)), (3, .int (0 : Int32)), (0, .ref h0), (1, .int v1), (2, .int v2)]) hx hb dX12_spectrum_40 hl (by decide) rfl ?_; clear hl; clear ls; intro ls hl
      obtain ⟨x9, e_x9⟩ : ∃ y : Int32, y = (0 : Int32) := ⟨_, rfl⟩
      replace hw := hw x9 e_x9
      replace hl : lv_has ls 6 [(4, .int x9), (3, .int (0 : Int32)), (0, .ref h0), (1, .int v1), (2, .int v2)] := by rw [e_x9]; exact hl
      clear e_x9
      obtain ⟨x10, e_x10⟩ : ∃ y : Int32, y = (0 : Int32) := ⟨_, rfl⟩
      replace hw := hw x10 e_x10
      replace hl : lv_has ls 6 [(4, .int x9), (3, .int x10), (0, .ref h0), (1, .int v1), (2, .int v2)] := by rw [e_x10]; exact hl
      clear e_x10
      replace hl := lv_sub (l' := [(4, .int x9), (3, .int x10), (0, .ref h0), (1, .int v1), (2, .int v2)]) hl [0, 1, 2, 3, 4] rfl
      revert hl; revert hS; revert hD; revert hP; revert ls; revert locs; revert H
      revert hw; revert c_rows; revert c_eight; revert f7; revert c_nodeD; revert c_nodeS; revert x10; revert x9
      refine Lz7_gr ?_; intro g11 ih12 x13 x14 x15 x16 f17 f18 f19 hw
      intro H locs ls hP hD hS hl
      refine lv_iload hx hb dX12_spectrum_42 (lv_at hl 0 rfl) ?_
      refine lv_iconst (v := 4) hx hb dX12_spectrum_44 (by decide) ?_
      refine lv_icmp_ge (tgt := 127) hx hb dX12_spectrum_45 (by decide) (fun c20 => ?_) (fun c20 => ?_)
      · replace hw := hw.1 c20; clear c20
        clear ih12
        refine lv_iload_n hx hb dX12_spectrum_127 rfl (lv_at hl 1 rfl) ?_
        subst hQe
        exact W.iret (v := x14) hx hb hr (fun t ht hW => ⟨⟨x14, ((0 : Int32), x15, x16, f17, f18, f19), rfl, hw, by rw [ht]; exact hP, va_K.moved hW.alike hK, hD⟩, hS.F ht⟩) hS.2.2 dX12_spectrum_128
      · replace hw := hw.2 c20; clear c20
        refine lv_iconst (v := 0) hx hb dX12_spectrum_48 (by decide) ?_
        refine lv_istore (lv' := [(5, .int (0 : Int32)), (4, .int x13), (3, .int x14), (0, .ref h0), (1, .int v1), (2, .int v2)]) hx hb dX12_spectrum_49 hl (by decide) rfl ?_; clear hl; clear ls; intro ls hl
        obtain ⟨x21, e_x21⟩ : ∃ y : Int32, y = (0 : Int32) := ⟨_, rfl⟩
        replace hw := hw x21 e_x21
        replace hl : lv_has ls 6 [(5, .int x21), (4, .int x13), (3, .int x14), (0, .ref h0), (1, .int v1), (2, .int v2)] := by rw [e_x21]; exact hl
        clear e_x21
        replace hl := lv_sub (l' := [(5, .int x21), (4, .int x13), (3, .int x14), (0, .ref h0), (1, .int v1), (2, .int v2)]) hl [0, 1, 2, 3, 4, 5] rfl
        revert hl; revert hS; revert hD; revert hP; revert ls; revert locs; revert H
        revert hw; revert f18; revert x21
        refine Lz2_gr ?_; intro g22 ih23 x24 f25 hw
        intro H locs ls hP hD hS hl
        refine lv_iload hx hb dX12_spectrum_51 (lv_at hl 0 rfl) ?_
        refine lv_bipush (v := 8) hx hb dX12_spectrum_53 (by decide) ?_
        refine lv_icmp_ge (tgt := 100) hx hb dX12_spectrum_55 (by decide) (fun c26 => ?_) (fun c26 => ?_)
        · replace hw := hw.1 c26; clear c26
          clear ih23
          refine lv_aload_n hx hb dX12_spectrum_100 rfl (lv_at hl 3 rfl) ?_
          refine lv_aload_n hx hb dX12_spectrum_101 rfl (lv_at hl 3 rfl) ?_
          refine va_get (D := (dC, dI)) (ci := 12) (v := .ref h_fresh) (C := RX12) (T := TX12) (N := 22) hx hb hts inX12 hown hK hP 0 rfl rfl 21 (by decide) (hts _ (List.mem_cons_of_mem _ mw_183)) (fun _ h9 => h9) rfl dX12_spectrum_102 ?_
          refine lv_iconst (v := 0) hx hb dX12_spectrum_105 (by decide) ?_
          have hPc := pSub (ws' := (w_X12_splitBlock h0 h_row h_kept h_isKept h_aside h_eight h_rows h_scales h_dealt h_bytes h_heardRow h_made h_comes h_backs h_fresh h_fresh cy 14 (0 : Int32) x15 x16 c_pairE c_pairO c_bit c_lag c_lagSum f25 f17 f19)) hP [0, 3, 1, 4] rfl
          have hDc := dSub (ws' := (w_X12_splitBlock h0 h_row h_kept h_isKept h_aside h_eight h_rows h_scales h_dealt h_bytes h_heardRow h_made h_comes h_backs h_fresh h_fresh cy 14 (0 : Int32) x15 x16 c_pairE c_pairO c_bit c_lag c_lagSum f25 f17 f19)) hD [0, 3, 1, 4] (by decide) rfl
          have hFc := va_free (wc := (w_X12_splitBlock h0 h_row h_kept h_isKept h_aside h_eight h_rows h_scales h_dealt h_bytes h_heardRow h_made h_comes h_backs h_fresh h_fresh cy 14 (0 : Int32) x15 x16 c_pairE c_pairO c_bit c_lag c_lagSum f25 f17 f19)) hD hS hA [0, 3, 1, 4] rfl
          refine va_callv (va_runV (As := [.ref h_fresh, .int (0 : Int32)]) (rest := []) ⟨hx, hb, hml, hown, hts⟩ (c_X12_splitBlock l dC dI cy h0 h_row h_kept h_isKept h_aside h_eight h_rows h_scales h_dealt h_bytes h_heardRow h_made h_comes h_backs h_fresh h_fresh 14 H.size (0 : Int32) (0 : Int32) x15 x16 c_pairE c_pairO c_bit c_lag c_lagSum f25 f17 f19 _ hw) (cwV 2 hts (goodV mw_620 mw_617 mw_618 mw_619 mw_5) rfl rfl rfl (by decide +kernel) ⟨Nat.le_of_ble_eq_true rfl, Nat.le_of_ble_eq_true rfl⟩) ⟨PX_blind, va_recv hK hPc (ci := 12) (q0 := 0) rfl rfl, PX_pre hPc hK hDc hG⟩ rfl rfl hl.1 rfl (lv_room (Nat.le_of_ble_eq_true rfl)) dX12_spectrum_106 ⟨Nat.zero_le _, Nat.zero_le _⟩) hS (fun q _ h => hFc q h) hFc ?_; clear hw hS; intro u t H1 locs1 ht hvm hw hB hz1 hk1 hS
          obtain ⟨x27, x28, f29, f30, f31⟩ := u
          try dsimp only at hw
          obtain ⟨hP1, -, -⟩ := hB
          rw [ht] at hP1
          replace hP := jC0 hP hD [0, 3, 1, 4] [2] rfl hk1 hP1 (w_X12_spectrum h0 h_row h_kept h_isKept h_aside h_eight h_rows h_scales h_dealt h_bytes h_heardRow h_made h_comes h_backs h_fresh cy (0 : Int32) x27 x28 c_pairE c_pairO c_bit c_lag c_lagSum f30 c_row f29 f31) rfl rfl rfl 5 rfl (by decide +kernel); clear hD; obtain ⟨hP, hD⟩ := hP
          replace hP : va_P (dC, dI) vwCl (w_X12_spectrum h0 h_row h_kept h_isKept h_aside h_eight h_rows h_scales h_dealt h_bytes h_heardRow h_made h_comes h_backs h_fresh cy (0 : Int32) x27 x28 c_pairE c_pairO c_bit c_lag c_lagSum f30 c_row f29 f31) H1 := hP
          replace hD : va_D A (w_X12_spectrum h0 h_row h_kept h_isKept h_aside h_eight h_rows h_scales h_dealt h_bytes h_heardRow h_made h_comes h_backs h_fresh cy (0 : Int32) x27 x28 c_pairE c_pairO c_bit c_lag c_lagSum f30 c_row f29 f31) := hD
          clear hPc hDc hFc hP1 hk1 hz1 hvm ht; clear t; clear H locs; obtain ⟨H, hH⟩ : ∃ H, H = H1 := ⟨_, rfl⟩; obtain ⟨locs, hlo⟩ : ∃ L, L = locs1 := ⟨_, rfl⟩; subst hH; subst hlo
          refine W.widen (k := 0) (n := 0) (Nat.le_refl 0) (Nat.le_refl 0) ?_
          refine lv_iload_n hx hb dX12_spectrum_109 rfl (lv_at hl 2 rfl) ?_
          refine lv_aload_n hx hb dX12_spectrum_110 rfl (lv_at hl 3 rfl) ?_
          refine va_get (D := (dC, dI)) (ci := 12) (v := .ref h_eight) (C := RX12) (T := TX12) (N := 22) hx hb hts inX12 hown hK hP 0 rfl rfl 9 (by decide) (hts _ (List.mem_cons_of_mem _ mw_174)) (fun _ h9 => h9) rfl dX12_spectrum_111 ?_
          refine lv_iload_n hx hb dX12_spectrum_114 rfl (lv_at hl 5 rfl) ?_
          obtain ⟨h32, hw⟩ := hw
          refine xiald (k := v2.toNatClampNeg) hx hb hK hP 3 0 rfl rfl h32 rfl dX12_spectrum_115 ?_
          have hPc := pSub (ws' := (w_X12_size cy)) hP [] rfl
          have hDc := dSub (ws' := (w_X12_size cy)) hD [] (by decide) rfl
          have hFc := va_free (wc := (w_X12_size cy)) hD hS hA [] rfl
          refine va_calli (va_runS (As := [.int (f29 v2.toNatClampNeg)]) (rest := [.int x14]) ⟨hx, hb, hml, hown, hts⟩ (c_X12_size l dC dI cy  H.size (f29 v2.toNatClampNeg) _ hw) (va_cwS 1 hts (goodS mw_647 mw_645 mw_646 mw_5) rfl rfl rfl (by decide +kernel) ⟨Nat.le_of_ble_eq_true rfl, Nat.le_of_ble_eq_true rfl⟩) ⟨PX_blind, PX_pre hPc hK hDc hG⟩ rfl rfl hl.1 rfl (lv_room (Nat.le_of_ble_eq_true rfl)) dX12_spectrum_116 ⟨Nat.zero_le _, Nat.zero_le _⟩) hS (fun q _ h => hFc q h) hFc ?_; clear hw hS; intro r33 _ t H1 locs1 ht hvm hw hB hz1 hk1 hS
          obtain ⟨hP1, -, -⟩ := hB
          rw [ht] at hP1
          replace hP := jC0 hP hD [] [0, 1, 2, 3, 4] rfl hk1 hP1 (w_X12_spectrum h0 h_row h_kept h_isKept h_aside h_eight h_rows h_scales h_dealt h_bytes h_heardRow h_made h_comes h_backs h_fresh cy (0 : Int32) x27 x28 c_pairE c_pairO c_bit c_lag c_lagSum f30 c_row f29 f31) rfl rfl rfl 5 rfl (by decide +kernel); clear hD; obtain ⟨hP, hD⟩ := hP
          replace hP : va_P (dC, dI) vwCl (w_X12_spectrum h0 h_row h_kept h_isKept h_aside h_eight h_rows h_scales h_dealt h_bytes h_heardRow h_made h_comes h_backs h_fresh cy (0 : Int32) x27 x28 c_pairE c_pairO c_bit c_lag c_lagSum f30 c_row f29 f31) H1 := hP
          replace hD : va_D A (w_X12_spectrum h0 h_row h_kept h_isKept h_aside h_eight h_rows h_scales h_dealt h_bytes h_heardRow h_made h_comes h_backs h_fresh cy (0 : Int32) x27 x28 c_pairE c_pairO c_bit c_lag c_lagSum f30 c_row f29 f31) := hD
          clear hPc hDc hFc hP1 hk1 hz1 hvm ht; clear t; clear H locs; obtain ⟨H, hH⟩ : ∃ H, H = H1 := ⟨_, rfl⟩; obtain ⟨locs, hlo⟩ : ∃ L, L = locs1 := ⟨_, rfl⟩; subst hH; subst hlo
          refine W.widen (k := 0) (n := 0) (Nat.le_refl 0) (Nat.le_refl 0) ?_
          refine lv_iadd hx hb dX12_spectrum_119 ?_
          refine lv_topi (fun x34 e_x34 => ?_)
          replace hw := hw x34 e_x34
          clear e_x34
          refine lv_istore_n (lv' := [(3, .int x34), (5, .int x24), (4, .int x13), (0, .ref h0), (1, .int v1), (2, .int v2)]) hx hb dX12_spectrum_120 rfl hl (by decide) rfl ?_; clear hl; clear ls; intro ls hl
          refine lv_iinc (v := x13 + 1) (lv' := [(4, .int (x13 + 1)), (3, .int x34), (5, .int x24), (0, .ref h0), (1, .int v1), (2, .int v2)]) hx hb dX12_spectrum_121 hl (k := 2) rfl rfl (by decide) rfl ?_; clear hl; clear ls; intro ls hl
          refine lv_goto (tgt := 42) hx hb dX12_spectrum_124 (by decide) ?_
          exact ih12 (x13 + 1) x34 x27 x28 f30 f29 f31 hw H locs ls hP hD hS (lv_sub hl [0, 1, 3, 4, 5] rfl)
        · replace hw := hw.2 c26; clear c26
          refine lv_aload_n hx hb dX12_spectrum_58 rfl (lv_at hl 3 rfl) ?_
          refine va_get (D := (dC, dI)) (ci := 12) (v := .ref h_eight) (C := RX12) (T := TX12) (N := 22) hx hb hts inX12 hown hK hP 0 rfl rfl 9 (by decide) (hts _ (List.mem_cons_of_mem _ mw_174)) (fun _ h9 => h9) rfl dX12_spectrum_59 ?_
          refine lv_iload hx hb dX12_spectrum_62 (lv_at hl 0 rfl) ?_
          refine lv_aload_n hx hb dX12_spectrum_64 rfl (lv_at hl 3 rfl) ?_
          refine va_get (D := (dC, dI)) (ci := 12) (v := .ref h_row) (C := RX12) (T := TX12) (N := 22) hx hb hts inX12 hown hK hP 0 rfl rfl 1 (by decide) (hts _ (List.mem_cons_of_mem _ mw_169)) (fun _ h9 => h9) rfl dX12_spectrum_65 ?_
          refine lv_bipush (v := 109) hx hb dX12_spectrum_68 (by decide) ?_
          refine lv_sipush (v := 192) hx hb dX12_spectrum_70 (by decide) ?_
          refine lv_iload_n hx hb dX12_spectrum_73 rfl (lv_at hl 4 rfl) ?_
          refine lv_imul hx hb dX12_spectrum_74 ?_
          refine lv_iadd hx hb dX12_spectrum_75 ?_
          refine lv_sipush (v := 192) hx hb dX12_spectrum_76 (by decide) ?_
          refine lv_iadd hx hb dX12_spectrum_79 ?_
          refine lv_bipush (v := 32) hx hb dX12_spectrum_80 (by decide) ?_
          refine lv_isub hx hb dX12_spectrum_82 ?_
          refine lv_bipush (v := 8) hx hb dX12_spectrum_83 (by decide) ?_
          refine lv_iload hx hb dX12_spectrum_85 (lv_at hl 1 rfl) ?_
          refine lv_imul hx hb dX12_spectrum_87 ?_
          refine lv_iadd hx hb dX12_spectrum_88 ?_
          refine lv_iload hx hb dX12_spectrum_89 (lv_at hl 0 rfl) ?_
          refine lv_iadd hx hb dX12_spectrum_91 ?_
          obtain ⟨h35, hw⟩ := hw
          refine xiald (k := ((((((109 : Int32) + ((192 : Int32) * v1)) + (192 : Int32)) - (32 : Int32)) + ((8 : Int32) * x13)) + x24).toNatClampNeg) hx hb hK hP 2 0 rfl rfl h35 rfl dX12_spectrum_92 ?_
          obtain ⟨h36, hw⟩ := hw
          refine xiast (k := x24.toNatClampNeg) hx hb hK hP hD hS 3 0 rfl rfl h36 rfl dX12_spectrum_93 ?_; clear hP hD hS; clear H locs; intro f37 e_f37 H locs hP hD hS
          replace hw := hw f37 e_f37
          clear e_f37
          replace hP : va_P (dC, dI) vwCl (w_X12_spectrum h0 h_row h_kept h_isKept h_aside h_eight h_rows h_scales h_dealt h_bytes h_heardRow h_made h_comes h_backs h_fresh cy (0 : Int32) x15 x16 c_pairE c_pairO c_bit c_lag c_lagSum f17 c_row f37 f19) H := hP
          replace hD : va_D A (w_X12_spectrum h0 h_row h_kept h_isKept h_aside h_eight h_rows h_scales h_dealt h_bytes h_heardRow h_made h_comes h_backs h_fresh cy (0 : Int32) x15 x16 c_pairE c_pairO c_bit c_lag c_lagSum f17 c_row f37 f19) := hD
          refine lv_iinc (v := x24 + 1) (lv' := [(5, .int (x24 + 1)), (4, .int x13), (3, .int x14), (0, .ref h0), (1, .int v1), (2, .int v2)]) hx hb dX12_spectrum_94 hl (k := 0) rfl rfl (by decide) rfl ?_; clear hl; clear ls; intro ls hl
          refine lv_goto (tgt := 51) hx hb dX12_spectrum_97 (by decide) ?_
          exact ih23 (x24 + 1) f37 hw H locs ls hP hD hS (lv_sub hl [0, 1, 2, 3, 4, 5] rfl)
    · replace hw := hw.2 c8; clear c8
      refine lv_aload_n hx hb dX12_spectrum_24 rfl (lv_at hl 1 rfl) ?_
      refine va_get (D := (dC, dI)) (ci := 12) (v := .ref h_fresh) (C := RX12) (T := TX12) (N := 22) hx hb hts inX12 hown hK hP 0 rfl rfl 21 (by decide) (hts _ (List.mem_cons_of_mem _ mw_183)) (fun _ h9 => h9) rfl dX12_spectrum_25 ?_
      refine lv_iload_n hx hb dX12_spectrum_28 rfl (lv_at hl 0 rfl) ?_
      refine lv_iconst (v := 0) hx hb dX12_spectrum_29 (by decide) ?_
      obtain ⟨h38, hw⟩ := hw
      refine xiast (k := x6.toNatClampNeg) hx hb hK hP hD hS 1 0 rfl rfl h38 rfl dX12_spectrum_30 ?_; clear hP hD hS; clear H locs; intro f39 e_f39 H locs hP hD hS
      replace hw := hw f39 e_f39
      clear e_f39
      replace hP : va_P (dC, dI) vwCl (w_X12_spectrum h0 h_row h_kept h_isKept h_aside h_eight h_rows h_scales h_dealt h_bytes h_heardRow h_made h_comes h_backs h_fresh cy (0 : Int32) c_nodeS c_nodeD c_pairE c_pairO c_bit c_lag c_lagSum f39 c_row c_eight c_rows) H := hP
      replace hD : va_D A (w_X12_spectrum h0 h_row h_kept h_isKept h_aside h_eight h_rows h_scales h_dealt h_bytes h_heardRow h_made h_comes h_backs h_fresh cy (0 : Int32) c_nodeS c_nodeD c_pairE c_pairO c_bit c_lag c_lagSum f39 c_row c_eight c_rows) := hD
      refine lv_iinc (v := x6 + 1) (lv' := [(3, .int (x6 + 1)), (0, .ref h0), (1, .int v1), (2, .int v2)]) hx hb dX12_spectrum_31 hl (k := 0) rfl rfl (by decide) rfl ?_; clear hl; clear ls; intro ls hl
      refine lv_goto (tgt := 18) hx hb dX12_spectrum_34 (by decide) ?_
      exact ih5 (x6 + 1) f39 hw H locs ls hP hD hS (lv_sub hl [0, 1, 2, 3] rfl)
  · replace hw := hw.1 c2; clear c2
    refine lv_ldc (v := -2147483648) hx hb hown (hts _ (List.mem_cons_of_mem _ mw_908)) dX12_spectrum_13 ?_
    subst hQe
    exact W.iret (v := (-2147483648 : Int32)) hx hb hr (fun t ht hW => ⟨⟨(-2147483648 : Int32), ((0 : Int32), c_nodeS, c_nodeD, c_fresh, c_eight, c_rows), rfl, hw, by rw [ht]; exact hP, va_K.moved hW.alike hK, hD⟩, hS.F ht⟩) hS.2.2 dX12_spectrum_15
set_option maxHeartbeats 4000000 in
set_option maxRecDepth 100000 in
theorem c_X12_madeUp (l : Launch) (dC : Nat → ClassId) (dI : Nat → Nat → Nat) (cy : Nat → ClassId) (h0 h_row h_kept h_isKept h_aside h_eight h_rows h_scales h_dealt h_bytes h_heardRow h_made h_comes h_backs h_fresh : Nat) (sz : Nat) (v1 : Int32) (v2 : Int32) (c_thrown : Int32) (c_nodeS : Int32) (c_nodeD : Int32) (c_pairE : Int32) (c_pairO : Int32) (c_bit : Int32) (c_lag : Int32) (c_lagSum : Int32) (c_row : Nat → Int32) (c_heardRow : Nat → Int32) (c_made : Nat → Int32) (post : Int32 → Int32 → Int32 → Int32 → (Nat → Int32) → (Nat → Int32) → Prop) (hw : wp_X12_madeUp v1 v2 c_thrown c_lag c_lagSum c_row c_heardRow c_made post) : Met l yX12_madeUp wsX12_madeUp ({ frames := 3, cells := 0, slots := 0, locals := 65 }) (PX dC dI cy [.ref h0, .int v1, .int v2] sz (w_X12_madeUp h0 h_row h_kept h_isKept h_aside h_eight h_rows h_scales h_dealt h_bytes h_heardRow h_made h_comes h_backs h_fresh cy c_thrown c_nodeS c_nodeD c_pairE c_pairO c_bit c_lag c_lagSum c_row c_heardRow c_made)) (va_Qi (fun (r : Int32) (u : Int32 × Int32 × Int32 × (Nat → Int32) × (Nat → Int32)) => post r u.1 u.2.1 u.2.2.1 u.2.2.2.1 u.2.2.2.2) (QX dC dI cy (va_A (w_X12_madeUp h0 h_row h_kept h_isKept h_aside h_eight h_rows h_scales h_dealt h_bytes h_heardRow h_made h_comes h_backs h_fresh cy c_thrown c_nodeS c_nodeD c_pairE c_pairO c_bit c_lag c_lagSum c_row c_heardRow c_made) sz) (fun (u : Int32 × Int32 × Int32 × (Nat → Int32) × (Nat → Int32)) => w_X12_madeUp h0 h_row h_kept h_isKept h_aside h_eight h_rows h_scales h_dealt h_bytes h_heardRow h_made h_comes h_backs h_fresh cy u.1 c_nodeS c_nodeD c_pairE c_pairO c_bit u.2.1 u.2.2.1 c_row u.2.2.2.1 u.2.2.2.2)) (va_A (w_X12_madeUp h0 h_row h_kept h_isKept h_aside h_eight h_rows h_scales h_dealt h_bytes h_heardRow h_made h_comes h_backs h_fresh cy c_thrown c_nodeS c_nodeD c_pairE c_pairO c_bit c_lag c_lagSum c_row c_heardRow c_made) sz)) 0 0 (va_A (w_X12_madeUp h0 h_row h_kept h_isKept h_aside h_eight h_rows h_scales h_dealt h_bytes h_heardRow h_made h_comes h_backs h_fresh cy c_thrown c_nodeS c_nodeD c_pairE c_pairO c_bit c_lag c_lagSum c_row c_heardRow c_made) sz) := by
  refine Met.ofW (cc := cX12_madeUp) (maxL := 3) (ret := (some .int)) (by decide) rfl ?_
  intro p e s m args below meth c s₁ B hml hv
  obtain ⟨rfl, hsz, hP, hK, hD0, hG⟩ := hv
  have hx := B.exec
  have hb := B.bytes
  have hr := B.returns
  have hts := atoms_spec (ws := wsX12_madeUp) B.pre
  have hown : s.vm.findClass RX12 = some m.cls := findClass_of_methodNamed B.named
  have hlocks := B.notSynchronized
  subst hsz
  have hD := hD0.self (sz := s.heap.size)
  generalize hAe : va_A (w_X12_madeUp h0 h_row h_kept h_isKept h_aside h_eight h_rows h_scales h_dealt h_bytes h_heardRow h_made h_comes h_backs h_fresh cy c_thrown c_nodeS c_nodeD c_pairE c_pairO c_bit c_lag c_lagSum c_row c_heardRow c_made) s.heap.size = A at hD ⊢
  have hA : ∀ q : Nat, s.heap.size ≤ q → A q := fun q h => by rw [← hAe]; exact Or.inr h
  have hS : va_S A s.heap s.heap [] := va_S.rf
  have hl := lv_entry ([.ref h0, .int v1, .int v2]) (n := 3) (Nat.le_of_ble_eq_true rfl)
  rw [lg_entry_eq]
  generalize (lg_sl ([.ref h0, .int v1, .int v2]) ++ List.replicate (3 - (lg_sl ([.ref h0, .int v1, .int v2])).length) Slot.unset).toArray = ls at hl ⊢
  replace hl : lv_has ls 3 [(0, .ref h0), (1, .int v1), (2, .int v2)] := hl
  have inX12 : ∀ w ∈ u_ws RX12 TX12 22, w ∈ wsX12_madeUp := fun w h => List.mem_cons_of_mem _ (inlX12 w h)
  clear hAe hD0 B
  unfold wp_X12_madeUp at hw
  generalize hQe : MQ below _ _ s _ _ _ = Q0
  generalize ([.ref h0, .int v1, .int v2] : List Value).toArray = av at *
  obtain ⟨H, hH⟩ : ∃ H, H = s.heap := ⟨_, rfl⟩
  obtain ⟨locs, hlo⟩ : ∃ L : List Loc, L = [] := ⟨_, rfl⟩
  replace hP : va_P (dC, dI) vwCl (w_X12_madeUp h0 h_row h_kept h_isKept h_aside h_eight h_rows h_scales h_dealt h_bytes h_heardRow h_made h_comes h_backs h_fresh cy c_thrown c_nodeS c_nodeD c_pairE c_pairO c_bit c_lag c_lagSum c_row c_heardRow c_made) H := by rw [hH]; exact hP
  replace hS : va_S A s.heap H locs := by rw [hH, hlo]; exact hS
  suffices hgo : W p l e ({ frames := 3, cells := 0, slots := 0, locals := 65 }) s m av below meth c H locs 0 0 Q0 (F0 m 0 ls []) by rw [hH, hlo] at hgo; exact hgo
  clear hH hlo
  refine lv_aload_n hx hb dX12_madeUp_0 rfl (lv_at hl 0 rfl) ?_
  refine lv_iconst (v := 0) hx hb dX12_madeUp_1 (by decide) ?_
  refine va_put (D := (dC, dI)) (ci := 12) (v := .int (0 : Int32)) (ty := .int) (C := RX12) (T := TX12) (N := 22) hx hb hts inX12 tyX12 tyX12_ok nmX12 hown hK hP hD hS 0 rfl rfl 0 (by decide) (hts _ (List.mem_cons_of_mem _ mw_200)) (fun _ h9 => h9) rfl (by decide +kernel) rfl rfl (Nat.le_of_ble_eq_true rfl) dX12_madeUp_2 ?_; clear hP hD hS; clear H locs; intro H locs hP hD hS
  replace hP : va_P (dC, dI) vwCl (w_X12_madeUp h0 h_row h_kept h_isKept h_aside h_eight h_rows h_scales h_dealt h_bytes h_heardRow h_made h_comes h_backs h_fresh cy (0 : Int32) c_nodeS c_nodeD c_pairE c_pairO c_bit c_lag c_lagSum c_row c_heardRow c_made) H := hP
  replace hD : va_D A (w_X12_madeUp h0 h_row h_kept h_isKept h_aside h_eight h_rows h_scales h_dealt h_bytes h_heardRow h_made h_comes h_backs h_fresh cy (0 : Int32) c_nodeS c_nodeD c_pairE c_pairO c_bit c_lag c_lagSum c_row c_heardRow c_made) := hD
  refine lv_iload_n hx hb dX12_madeUp_5 rfl (lv_at hl 1 rfl) ?_
  refine lv_i2l (v := v1.toInt64) hx hb dX12_madeUp_6 rfl ?_
  refine lv_lconst (v := 0) hx hb dX12_madeUp_7 (by decide) ?_
  refine lv_lconst (v := 1) hx hb dX12_madeUp_8 (by decide) ?_
  have hPc := pSub (ws' := (w_X12_in cy)) hP [] rfl
  have hDc := dSub (ws' := (w_X12_in cy)) hD [] (by decide) rfl
  have hFc := va_free (wc := (w_X12_in cy)) hD hS hA [] rfl
  refine va_calli (va_runS (As := [.long (v1.toInt64), .long (0 : Int64), .long (1 : Int64)]) (rest := []) ⟨hx, hb, hml, hown, hts⟩ (c_X12_in l dC dI cy  H.size (v1.toInt64) (0 : Int64) (1 : Int64) _ hw) (va_cwS 3 hts (goodS mw_207 mw_205 mw_206 mw_5) rfl rfl rfl (by decide +kernel) ⟨Nat.le_of_ble_eq_true rfl, Nat.le_of_ble_eq_true rfl⟩) ⟨PX_blind, PX_pre hPc hK hDc hG⟩ rfl rfl hl.1 rfl (lv_room (Nat.le_of_ble_eq_true rfl)) dX12_madeUp_9 ⟨Nat.zero_le _, Nat.zero_le _⟩) hS (fun q _ h => hFc q h) hFc ?_; clear hw hS; intro r1 _ t H1 locs1 ht hvm hw hB hz1 hk1 hS
  obtain ⟨hP1, -, -⟩ := hB
  rw [ht] at hP1
  replace hP := jC0 hP hD [] [0, 1, 2, 3] rfl hk1 hP1 (w_X12_madeUp h0 h_row h_kept h_isKept h_aside h_eight h_rows h_scales h_dealt h_bytes h_heardRow h_made h_comes h_backs h_fresh cy (0 : Int32) c_nodeS c_nodeD c_pairE c_pairO c_bit c_lag c_lagSum c_row c_heardRow c_made) rfl rfl rfl 4 rfl (by decide +kernel); clear hD; obtain ⟨hP, hD⟩ := hP
  replace hP : va_P (dC, dI) vwCl (w_X12_madeUp h0 h_row h_kept h_isKept h_aside h_eight h_rows h_scales h_dealt h_bytes h_heardRow h_made h_comes h_backs h_fresh cy (0 : Int32) c_nodeS c_nodeD c_pairE c_pairO c_bit c_lag c_lagSum c_row c_heardRow c_made) H1 := hP
  replace hD : va_D A (w_X12_madeUp h0 h_row h_kept h_isKept h_aside h_eight h_rows h_scales h_dealt h_bytes h_heardRow h_made h_comes h_backs h_fresh cy (0 : Int32) c_nodeS c_nodeD c_pairE c_pairO c_bit c_lag c_lagSum c_row c_heardRow c_made) := hD
  clear hPc hDc hFc hP1 hk1 hz1 hvm ht; clear t; clear H locs; obtain ⟨H, hH⟩ : ∃ H, H = H1 := ⟨_, rfl⟩; obtain ⟨locs, hlo⟩ : ∃ L, L = locs1 := ⟨_, rfl⟩; subst hH; subst hlo
  refine W.widen (k := 0) (n := 0) (Nat.le_refl 0) (Nat.le_refl 0) ?_
  refine lv_if_eq (tgt := 27) hx hb dX12_madeUp_12 (by decide) (fun c2 => ?_) (fun c2 => ?_)
  · replace hw := hw.1 c2; clear c2
    refine lv_ldc (v := -2147483648) hx hb hown (hts _ (List.mem_cons_of_mem _ mw_908)) dX12_madeUp_27 ?_
    subst hQe
    exact W.iret (v := (-2147483648 : Int32)) hx hb hr (fun t ht hW => ⟨⟨(-2147483648 : Int32), ((0 : Int32), c_lag, c_lagSum, c_heardRow, c_made), rfl, hw, by rw [ht]; exact hP, va_K.moved hW.alike hK, hD⟩, hS.F ht⟩) hS.2.2 dX12_madeUp_29
  · replace hw := hw.2 c2; clear c2
    refine lv_iload_n hx hb dX12_madeUp_15 rfl (lv_at hl 2 rfl) ?_
    refine lv_i2l (v := v2.toInt64) hx hb dX12_madeUp_16 rfl ?_
    refine lv_lconst (v := 0) hx hb dX12_madeUp_17 (by decide) ?_
    refine lv_ldc2 (v := 33) hx hb hown (hts _ (List.mem_cons_of_mem _ mw_1115)) dX12_madeUp_18 ?_
    have hPc := pSub (ws' := (w_X12_in cy)) hP [] rfl
    have hDc := dSub (ws' := (w_X12_in cy)) hD [] (by decide) rfl
    have hFc := va_free (wc := (w_X12_in cy)) hD hS hA [] rfl
    refine va_calli (va_runS (As := [.long (v2.toInt64), .long (0 : Int64), .long (33 : Int64)]) (rest := []) ⟨hx, hb, hml, hown, hts⟩ (c_X12_in l dC dI cy  H.size (v2.toInt64) (0 : Int64) (33 : Int64) _ hw) (va_cwS 3 hts (goodS mw_207 mw_205 mw_206 mw_5) rfl rfl rfl (by decide +kernel) ⟨Nat.le_of_ble_eq_true rfl, Nat.le_of_ble_eq_true rfl⟩) ⟨PX_blind, PX_pre hPc hK hDc hG⟩ rfl rfl hl.1 rfl (lv_room (Nat.le_of_ble_eq_true rfl)) dX12_madeUp_21 ⟨Nat.zero_le _, Nat.zero_le _⟩) hS (fun q _ h => hFc q h) hFc ?_; clear hw hS; intro r3 _ t H1 locs1 ht hvm hw hB hz1 hk1 hS
    obtain ⟨hP1, -, -⟩ := hB
    rw [ht] at hP1
    replace hP := jC0 hP hD [] [0, 1, 2, 3] rfl hk1 hP1 (w_X12_madeUp h0 h_row h_kept h_isKept h_aside h_eight h_rows h_scales h_dealt h_bytes h_heardRow h_made h_comes h_backs h_fresh cy (0 : Int32) c_nodeS c_nodeD c_pairE c_pairO c_bit c_lag c_lagSum c_row c_heardRow c_made) rfl rfl rfl 4 rfl (by decide +kernel); clear hD; obtain ⟨hP, hD⟩ := hP
    replace hP : va_P (dC, dI) vwCl (w_X12_madeUp h0 h_row h_kept h_isKept h_aside h_eight h_rows h_scales h_dealt h_bytes h_heardRow h_made h_comes h_backs h_fresh cy (0 : Int32) c_nodeS c_nodeD c_pairE c_pairO c_bit c_lag c_lagSum c_row c_heardRow c_made) H1 := hP
    replace hD : va_D A (w_X12_madeUp h0 h_row h_kept h_isKept h_aside h_eight h_rows h_scales h_dealt h_bytes h_heardRow h_made h_comes h_backs h_fresh cy (0 : Int32) c_nodeS c_nodeD c_pairE c_pairO c_bit c_lag c_lagSum c_row c_heardRow c_made) := hD
    clear hPc hDc hFc hP1 hk1 hz1 hvm ht; clear t; clear H locs; obtain ⟨H, hH⟩ : ∃ H, H = H1 := ⟨_, rfl⟩; obtain ⟨locs, hlo⟩ : ∃ L, L = locs1 := ⟨_, rfl⟩; subst hH; subst hlo
    refine W.widen (k := 0) (n := 0) (Nat.le_refl 0) (Nat.le_refl 0) ?_
    refine lv_if_ne (tgt := 30) hx hb dX12_madeUp_24 (by decide) (fun c4 => ?_) (fun c4 => ?_)
    · replace hw := hw.2 c4; clear c4
      refine lv_iload_n hx hb dX12_madeUp_30 rfl (lv_at hl 2 rfl) ?_
      refine lv_iconst (v := 1) hx hb dX12_madeUp_31 (by decide) ?_
      refine lv_icmp_le (tgt := 53) hx hb dX12_madeUp_32 (by decide) (fun c5 => ?_) (fun c5 => ?_)
      · replace hw := hw.1 c5; clear c5
        refine lv_aload_n hx hb dX12_madeUp_53 rfl (lv_at hl 0 rfl) ?_
        refine lv_iload_n hx hb dX12_madeUp_54 rfl (lv_at hl 1 rfl) ?_
        have hPc := pSub (ws' := (w_X12_layHeard h0 h_row h_kept h_isKept h_aside h_eight h_rows h_scales h_dealt h_bytes h_heardRow h_made h_comes h_backs h_fresh cy (0 : Int32) c_nodeS c_nodeD c_pairE c_pairO c_bit c_lag c_lagSum c_row c_heardRow)) hP [0, 1, 2] rfl
        have hDc := dSub (ws' := (w_X12_layHeard h0 h_row h_kept h_isKept h_aside h_eight h_rows h_scales h_dealt h_bytes h_heardRow h_made h_comes h_backs h_fresh cy (0 : Int32) c_nodeS c_nodeD c_pairE c_pairO c_bit c_lag c_lagSum c_row c_heardRow)) hD [0, 1, 2] (by decide) rfl
        have hFc := va_free (wc := (w_X12_layHeard h0 h_row h_kept h_isKept h_aside h_eight h_rows h_scales h_dealt h_bytes h_heardRow h_made h_comes h_backs h_fresh cy (0 : Int32) c_nodeS c_nodeD c_pairE c_pairO c_bit c_lag c_lagSum c_row c_heardRow)) hD hS hA [0, 1, 2] rfl
        refine va_callv (va_runV (As := [.int v1]) (rest := []) ⟨hx, hb, hml, hown, hts⟩ (c_X12_layHeard l dC dI cy h0 h_row h_kept h_isKept h_aside h_eight h_rows h_scales h_dealt h_bytes h_heardRow h_made h_comes h_backs h_fresh H.size v1 (0 : Int32) c_nodeS c_nodeD c_pairE c_pairO c_bit c_lag c_lagSum c_row c_heardRow _ hw) (cwV 1 hts (goodV mw_749 mw_746 mw_747 mw_748 mw_5) rfl rfl rfl (by decide +kernel) ⟨Nat.le_of_ble_eq_true rfl, Nat.le_of_ble_eq_true rfl⟩) ⟨PX_blind, va_recv hK hPc (ci := 12) (q0 := 0) rfl rfl, PX_pre hPc hK hDc hG⟩ rfl rfl hl.1 rfl (lv_room (Nat.le_of_ble_eq_true rfl)) dX12_madeUp_55 ⟨Nat.zero_le _, Nat.zero_le _⟩) hS (fun q _ h => hFc q h) hFc ?_; clear hw hS; intro f6 t H1 locs1 ht hvm hw hB hz1 hk1 hS
        obtain ⟨hP1, -, -⟩ := hB
        rw [ht] at hP1
        replace hP := jC0 hP hD [0, 1, 2] [3] rfl hk1 hP1 (w_X12_madeUp h0 h_row h_kept h_isKept h_aside h_eight h_rows h_scales h_dealt h_bytes h_heardRow h_made h_comes h_backs h_fresh cy (0 : Int32) c_nodeS c_nodeD c_pairE c_pairO c_bit c_lag c_lagSum c_row f6 c_made) rfl rfl rfl 4 rfl (by decide +kernel); clear hD; obtain ⟨hP, hD⟩ := hP
        replace hP : va_P (dC, dI) vwCl (w_X12_madeUp h0 h_row h_kept h_isKept h_aside h_eight h_rows h_scales h_dealt h_bytes h_heardRow h_made h_comes h_backs h_fresh cy (0 : Int32) c_nodeS c_nodeD c_pairE c_pairO c_bit c_lag c_lagSum c_row f6 c_made) H1 := hP
        replace hD : va_D A (w_X12_madeUp h0 h_row h_kept h_isKept h_aside h_eight h_rows h_scales h_dealt h_bytes h_heardRow h_made h_comes h_backs h_fresh cy (0 : Int32) c_nodeS c_nodeD c_pairE c_pairO c_bit c_lag c_lagSum c_row f6 c_made) := hD
        clear hPc hDc hFc hP1 hk1 hz1 hvm ht; clear t; clear H locs; obtain ⟨H, hH⟩ : ∃ H, H = H1 := ⟨_, rfl⟩; obtain ⟨locs, hlo⟩ : ∃ L, L = locs1 := ⟨_, rfl⟩; subst hH; subst hlo
        refine W.widen (k := 0) (n := 0) (Nat.le_refl 0) (Nat.le_refl 0) ?_
        refine lv_aload_n hx hb dX12_madeUp_58 rfl (lv_at hl 0 rfl) ?_
        have hPc := pSub (ws' := (w_X12_findLag h0 h_row h_kept h_isKept h_aside h_eight h_rows h_scales h_dealt h_bytes h_heardRow h_made h_comes h_backs h_fresh cy (0 : Int32) c_nodeS c_nodeD c_pairE c_pairO c_bit c_lag c_lagSum f6)) hP [0, 2] rfl
        have hDc := dSub (ws' := (w_X12_findLag h0 h_row h_kept h_isKept h_aside h_eight h_rows h_scales h_dealt h_bytes h_heardRow h_made h_comes h_backs h_fresh cy (0 : Int32) c_nodeS c_nodeD c_pairE c_pairO c_bit c_lag c_lagSum f6)) hD [0, 2] (by decide) rfl
        have hFc := va_free (wc := (w_X12_findLag h0 h_row h_kept h_isKept h_aside h_eight h_rows h_scales h_dealt h_bytes h_heardRow h_made h_comes h_backs h_fresh cy (0 : Int32) c_nodeS c_nodeD c_pairE c_pairO c_bit c_lag c_lagSum f6)) hD hS hA [0, 2] rfl
        refine va_callv (va_runV (As := []) (rest := []) ⟨hx, hb, hml, hown, hts⟩ (c_X12_findLag l dC dI cy h0 h_row h_kept h_isKept h_aside h_eight h_rows h_scales h_dealt h_bytes h_heardRow h_made h_comes h_backs h_fresh H.size (0 : Int32) c_nodeS c_nodeD c_pairE c_pairO c_bit c_lag c_lagSum f6 _ hw) (cwV 0 hts (goodV mw_753 mw_750 mw_751 mw_752 mw_5) rfl rfl rfl (by decide +kernel) ⟨Nat.le_of_ble_eq_true rfl, Nat.le_of_ble_eq_true rfl⟩) ⟨PX_blind, va_recv hK hPc (ci := 12) (q0 := 0) rfl rfl, PX_pre hPc hK hDc hG⟩ rfl rfl hl.1 rfl (lv_room (Nat.le_of_ble_eq_true rfl)) dX12_madeUp_59 ⟨Nat.zero_le _, Nat.zero_le _⟩) hS (fun q _ h => hFc q h) hFc ?_; clear hw hS; intro u t H1 locs1 ht hvm hw hB hz1 hk1 hS
        obtain ⟨x7, x8⟩ := u
        obtain ⟨hP1, -, -⟩ := hB
        rw [ht] at hP1
        replace hP := jC0 hP hD [0, 2] [1, 3] rfl hk1 hP1 (w_X12_madeUp h0 h_row h_kept h_isKept h_aside h_eight h_rows h_scales h_dealt h_bytes h_heardRow h_made h_comes h_backs h_fresh cy (0 : Int32) c_nodeS c_nodeD c_pairE c_pairO c_bit x7 x8 c_row f6 c_made) rfl rfl rfl 4 rfl (by decide +kernel); clear hD; obtain ⟨hP, hD⟩ := hP
        replace hP : va_P (dC, dI) vwCl (w_X12_madeUp h0 h_row h_kept h_isKept h_aside h_eight h_rows h_scales h_dealt h_bytes h_heardRow h_made h_comes h_backs h_fresh cy (0 : Int32) c_nodeS c_nodeD c_pairE c_pairO c_bit x7 x8 c_row f6 c_made) H1 := hP
        replace hD : va_D A (w_X12_madeUp h0 h_row h_kept h_isKept h_aside h_eight h_rows h_scales h_dealt h_bytes h_heardRow h_made h_comes h_backs h_fresh cy (0 : Int32) c_nodeS c_nodeD c_pairE c_pairO c_bit x7 x8 c_row f6 c_made) := hD
        clear hPc hDc hFc hP1 hk1 hz1 hvm ht; clear t; clear H locs; obtain ⟨H, hH⟩ : ∃ H, H = H1 := ⟨_, rfl⟩; obtain ⟨locs, hlo⟩ : ∃ L, L = locs1 := ⟨_, rfl⟩; subst hH; subst hlo
        refine W.widen (k := 0) (n := 0) (Nat.le_refl 0) (Nat.le_refl 0) ?_
        refine lv_iload_n hx hb dX12_madeUp_62 rfl (lv_at hl 2 rfl) ?_
        refine lv_if_ne (tgt := 73) hx hb dX12_madeUp_63 (by decide) (fun c9 => ?_) (fun c9 => ?_)
        · replace hw := hw.2 c9; clear c9
          refine lv_aload_n hx hb dX12_madeUp_73 rfl (lv_at hl 0 rfl) ?_
          refine va_get (D := (dC, dI)) (ci := 12) (v := .int x8) (C := RX12) (T := TX12) (N := 22) hx hb hts inX12 hown hK hP 0 rfl rfl 17 (by decide) (hts _ (List.mem_cons_of_mem _ mw_754)) (fun _ h9 => h9) rfl dX12_madeUp_74 ?_
          subst hQe
          exact W.iret (v := x8) hx hb hr (fun t ht hW => ⟨⟨x8, ((0 : Int32), x7, x8, f6, c_made), rfl, hw, by rw [ht]; exact hP, va_K.moved hW.alike hK, hD⟩, hS.F ht⟩) hS.2.2 dX12_madeUp_77
        · replace hw := hw.1 c9; clear c9
          refine lv_aload_n hx hb dX12_madeUp_66 rfl (lv_at hl 0 rfl) ?_
          refine va_get (D := (dC, dI)) (ci := 12) (v := .int x7) (C := RX12) (T := TX12) (N := 22) hx hb hts inX12 hown hK hP 0 rfl rfl 16 (by decide) (hts _ (List.mem_cons_of_mem _ mw_745)) (fun _ h9 => h9) rfl dX12_madeUp_67 ?_
          refine lv_goto (tgt := 77) hx hb dX12_madeUp_70 (by decide) ?_
          subst hQe
          exact W.iret (v := x7) hx hb hr (fun t ht hW => ⟨⟨x7, ((0 : Int32), x7, x8, f6, c_made), rfl, hw, by rw [ht]; exact hP, va_K.moved hW.alike hK, hD⟩, hS.F ht⟩) hS.2.2 dX12_madeUp_77
      · replace hw := hw.2 c5; clear c5
        refine lv_aload_n hx hb dX12_madeUp_35 rfl (lv_at hl 0 rfl) ?_
        have hPc := pSub (ws' := (w_X12_layMade h0 h_row h_kept h_isKept h_aside h_eight h_rows h_scales h_dealt h_bytes h_heardRow h_made h_comes h_backs h_fresh cy (0 : Int32) c_nodeS c_nodeD c_pairE c_pairO c_bit c_lag c_lagSum c_row c_heardRow c_made)) hP [0, 1, 2, 3] rfl
        have hDc := dSub (ws' := (w_X12_layMade h0 h_row h_kept h_isKept h_aside h_eight h_rows h_scales h_dealt h_bytes h_heardRow h_made h_comes h_backs h_fresh cy (0 : Int32) c_nodeS c_nodeD c_pairE c_pairO c_bit c_lag c_lagSum c_row c_heardRow c_made)) hD [0, 1, 2, 3] (by decide) rfl
        have hFc := va_free (wc := (w_X12_layMade h0 h_row h_kept h_isKept h_aside h_eight h_rows h_scales h_dealt h_bytes h_heardRow h_made h_comes h_backs h_fresh cy (0 : Int32) c_nodeS c_nodeD c_pairE c_pairO c_bit c_lag c_lagSum c_row c_heardRow c_made)) hD hS hA [0, 1, 2, 3] rfl
        refine va_callv (va_runV (As := []) (rest := []) ⟨hx, hb, hml, hown, hts⟩ (c_X12_layMade l dC dI cy h0 h_row h_kept h_isKept h_aside h_eight h_rows h_scales h_dealt h_bytes h_heardRow h_made h_comes h_backs h_fresh H.size (0 : Int32) c_nodeS c_nodeD c_pairE c_pairO c_bit c_lag c_lagSum c_row c_heardRow c_made _ hw) (cwV 0 hts (goodV mw_744 mw_741 mw_742 mw_743 mw_5) rfl rfl rfl (by decide +kernel) ⟨Nat.le_of_ble_eq_true rfl, Nat.le_of_ble_eq_true rfl⟩) ⟨PX_blind, va_recv hK hPc (ci := 12) (q0 := 0) rfl rfl, PX_pre hPc hK hDc hG⟩ rfl rfl hl.1 rfl (lv_room (Nat.le_of_ble_eq_true rfl)) dX12_madeUp_36 ⟨Nat.zero_le _, Nat.zero_le _⟩) hS (fun q _ h => hFc q h) hFc ?_; clear hw hS; intro u t H1 locs1 ht hvm hw hB hz1 hk1 hS
        obtain ⟨x10, x11, f12, f13⟩ := u
        obtain ⟨hP1, -, -⟩ := hB
        rw [ht] at hP1
        replace hP := jC0 hP hD [0, 1, 2, 3] [] rfl hk1 hP1 (w_X12_madeUp h0 h_row h_kept h_isKept h_aside h_eight h_rows h_scales h_dealt h_bytes h_heardRow h_made h_comes h_backs h_fresh cy (0 : Int32) c_nodeS c_nodeD c_pairE c_pairO c_bit x10 x11 c_row f12 f13) rfl rfl rfl 4 rfl (by decide +kernel); clear hD; obtain ⟨hP, hD⟩ := hP
        replace hP : va_P (dC, dI) vwCl (w_X12_madeUp h0 h_row h_kept h_isKept h_aside h_eight h_rows h_scales h_dealt h_bytes h_heardRow h_made h_comes h_backs h_fresh cy (0 : Int32) c_nodeS c_nodeD c_pairE c_pairO c_bit x10 x11 c_row f12 f13) H1 := hP
        replace hD : va_D A (w_X12_madeUp h0 h_row h_kept h_isKept h_aside h_eight h_rows h_scales h_dealt h_bytes h_heardRow h_made h_comes h_backs h_fresh cy (0 : Int32) c_nodeS c_nodeD c_pairE c_pairO c_bit x10 x11 c_row f12 f13) := hD
        clear hPc hDc hFc hP1 hk1 hz1 hvm ht; clear t; clear H locs; obtain ⟨H, hH⟩ : ∃ H, H = H1 := ⟨_, rfl⟩; obtain ⟨locs, hlo⟩ : ∃ L, L = locs1 := ⟨_, rfl⟩; subst hH; subst hlo
        refine W.widen (k := 0) (n := 0) (Nat.le_refl 0) (Nat.le_refl 0) ?_
        refine lv_aload_n hx hb dX12_madeUp_39 rfl (lv_at hl 0 rfl) ?_
        refine va_get (D := (dC, dI)) (ci := 12) (v := .ref h_made) (C := RX12) (T := TX12) (N := 22) hx hb hts inX12 hown hK hP 0 rfl rfl 18 (by decide) (hts _ (List.mem_cons_of_mem _ mw_180)) (fun _ h9 => h9) rfl dX12_madeUp_40 ?_
        refine lv_bipush (v := 32) hx hb dX12_madeUp_43 (by decide) ?_
        refine lv_iload_n hx hb dX12_madeUp_45 rfl (lv_at hl 1 rfl) ?_
        refine lv_imul hx hb dX12_madeUp_46 ?_
        refine lv_iload_n hx hb dX12_madeUp_47 rfl (lv_at hl 2 rfl) ?_
        refine lv_iadd hx hb dX12_madeUp_48 ?_
        refine lv_iconst (v := 2) hx hb dX12_madeUp_49 (by decide) ?_
        refine lv_isub hx hb dX12_madeUp_50 ?_
        obtain ⟨h14, hw⟩ := hw
        refine xiald (k := ((((32 : Int32) * v1) + v2) - (2 : Int32)).toNatClampNeg) hx hb hK hP 3 0 rfl rfl h14 rfl dX12_madeUp_51 ?_
        subst hQe
        exact W.iret (v := f13 ((((32 : Int32) * v1) + v2) - (2 : Int32)).toNatClampNeg) hx hb hr (fun t ht hW => ⟨⟨(f13 ((((32 : Int32) * v1) + v2) - (2 : Int32)).toNatClampNeg), ((0 : Int32), x10, x11, f12, f13), rfl, hw, by rw [ht]; exact hP, va_K.moved hW.alike hK, hD⟩, hS.F ht⟩) hS.2.2 dX12_madeUp_52
    · replace hw := hw.1 c4; clear c4
      refine lv_ldc (v := -2147483648) hx hb hown (hts _ (List.mem_cons_of_mem _ mw_908)) dX12_madeUp_27 ?_
      subst hQe
      exact W.iret (v := (-2147483648 : Int32)) hx hb hr (fun t ht hW => ⟨⟨(-2147483648 : Int32), ((0 : Int32), c_lag, c_lagSum, c_heardRow, c_made), rfl, hw, by rw [ht]; exact hP, va_K.moved hW.alike hK, hD⟩, hS.F ht⟩) hS.2.2 dX12_madeUp_29
set_option maxHeartbeats 4000000 in
set_option maxRecDepth 100000 in
theorem c_X12_line (l : Launch) (dC : Nat → ClassId) (dI : Nat → Nat → Nat) (cy : Nat → ClassId) (h0 h_row h_kept h_isKept h_aside h_eight h_rows h_scales h_dealt h_bytes h_heardRow h_made h_comes h_backs h_fresh : Nat) (sz : Nat) (v1 : Int32) (v2 : Int32) (c_thrown : Int32) (c_nodeS : Int32) (c_nodeD : Int32) (c_pairE : Int32) (c_pairO : Int32) (c_bit : Int32) (c_lag : Int32) (c_lagSum : Int32) (c_row : Nat → Int32) (post : Int32 → Int32 → Prop) (hw : wp_X12_line v1 v2 c_thrown c_row post) : Met l yX12_line wsX12_line ({ frames := 1, cells := 0, slots := 0, locals := 25 }) (PX dC dI cy [.ref h0, .int v1, .int v2] sz (w_X12_line h0 h_row h_kept h_isKept h_aside h_eight h_rows h_scales h_dealt h_bytes h_heardRow h_made h_comes h_backs h_fresh cy c_thrown c_nodeS c_nodeD c_pairE c_pairO c_bit c_lag c_lagSum c_row)) (va_Qi (fun (r : Int32) (u : Int32) => post r u) (QX dC dI cy (va_A (w_X12_line h0 h_row h_kept h_isKept h_aside h_eight h_rows h_scales h_dealt h_bytes h_heardRow h_made h_comes h_backs h_fresh cy c_thrown c_nodeS c_nodeD c_pairE c_pairO c_bit c_lag c_lagSum c_row) sz) (fun (u : Int32) => w_X12_line h0 h_row h_kept h_isKept h_aside h_eight h_rows h_scales h_dealt h_bytes h_heardRow h_made h_comes h_backs h_fresh cy u c_nodeS c_nodeD c_pairE c_pairO c_bit c_lag c_lagSum c_row)) (va_A (w_X12_line h0 h_row h_kept h_isKept h_aside h_eight h_rows h_scales h_dealt h_bytes h_heardRow h_made h_comes h_backs h_fresh cy c_thrown c_nodeS c_nodeD c_pairE c_pairO c_bit c_lag c_lagSum c_row) sz)) 0 0 (va_A (w_X12_line h0 h_row h_kept h_isKept h_aside h_eight h_rows h_scales h_dealt h_bytes h_heardRow h_made h_comes h_backs h_fresh cy c_thrown c_nodeS c_nodeD c_pairE c_pairO c_bit c_lag c_lagSum c_row) sz) := by
  refine Met.ofW (cc := cX12_line) (maxL := 4) (ret := (some .int)) (by decide) rfl ?_
  intro p e s m args below meth c s₁ B hml hv
  obtain ⟨rfl, hsz, hP, hK, hD0, hG⟩ := hv
  have hx := B.exec
  have hb := B.bytes
  have hr := B.returns
  have hts := atoms_spec (ws := wsX12_line) B.pre
  have hown : s.vm.findClass RX12 = some m.cls := findClass_of_methodNamed B.named
  have hlocks := B.notSynchronized
  subst hsz
  have hD := hD0.self (sz := s.heap.size)
  generalize hAe : va_A (w_X12_line h0 h_row h_kept h_isKept h_aside h_eight h_rows h_scales h_dealt h_bytes h_heardRow h_made h_comes h_backs h_fresh cy c_thrown c_nodeS c_nodeD c_pairE c_pairO c_bit c_lag c_lagSum c_row) s.heap.size = A at hD ⊢
  have hA : ∀ q : Nat, s.heap.size ≤ q → A q := fun q h => by rw [← hAe]; exact Or.inr h
  have hS : va_S A s.heap s.heap [] := va_S.rf
  have hl := lv_entry ([.ref h0, .int v1, .int v2]) (n := 4) (Nat.le_of_ble_eq_true rfl)
  rw [lg_entry_eq]
  generalize (lg_sl ([.ref h0, .int v1, .int v2]) ++ List.replicate (4 - (lg_sl ([.ref h0, .int v1, .int v2])).length) Slot.unset).toArray = ls at hl ⊢
  replace hl : lv_has ls 4 [(0, .ref h0), (1, .int v1), (2, .int v2)] := hl
  have inX12 : ∀ w ∈ u_ws RX12 TX12 22, w ∈ wsX12_line := fun w h => List.mem_cons_of_mem _ (inlX12 w h)
  clear hAe hD0 B
  unfold wp_X12_line at hw
  generalize hQe : MQ below _ _ s _ _ _ = Q0
  generalize ([.ref h0, .int v1, .int v2] : List Value).toArray = av at *
  obtain ⟨H, hH⟩ : ∃ H, H = s.heap := ⟨_, rfl⟩
  obtain ⟨locs, hlo⟩ : ∃ L : List Loc, L = [] := ⟨_, rfl⟩
  replace hP : va_P (dC, dI) vwCl (w_X12_line h0 h_row h_kept h_isKept h_aside h_eight h_rows h_scales h_dealt h_bytes h_heardRow h_made h_comes h_backs h_fresh cy c_thrown c_nodeS c_nodeD c_pairE c_pairO c_bit c_lag c_lagSum c_row) H := by rw [hH]; exact hP
  replace hS : va_S A s.heap H locs := by rw [hH, hlo]; exact hS
  suffices hgo : W p l e ({ frames := 1, cells := 0, slots := 0, locals := 25 }) s m av below meth c H locs 0 0 Q0 (F0 m 0 ls []) by rw [hH, hlo] at hgo; exact hgo
  clear hH hlo
  refine lv_aload_n hx hb dX12_line_0 rfl (lv_at hl 0 rfl) ?_
  refine lv_iconst (v := 0) hx hb dX12_line_1 (by decide) ?_
  refine va_put (D := (dC, dI)) (ci := 12) (v := .int (0 : Int32)) (ty := .int) (C := RX12) (T := TX12) (N := 22) hx hb hts inX12 tyX12 tyX12_ok nmX12 hown hK hP hD hS 0 rfl rfl 0 (by decide) (hts _ (List.mem_cons_of_mem _ mw_200)) (fun _ h9 => h9) rfl (by decide +kernel) rfl rfl (Nat.le_of_ble_eq_true rfl) dX12_line_2 ?_; clear hP hD hS; clear H locs; intro H locs hP hD hS
  replace hP : va_P (dC, dI) vwCl (w_X12_line h0 h_row h_kept h_isKept h_aside h_eight h_rows h_scales h_dealt h_bytes h_heardRow h_made h_comes h_backs h_fresh cy (0 : Int32) c_nodeS c_nodeD c_pairE c_pairO c_bit c_lag c_lagSum c_row) H := hP
  replace hD : va_D A (w_X12_line h0 h_row h_kept h_isKept h_aside h_eight h_rows h_scales h_dealt h_bytes h_heardRow h_made h_comes h_backs h_fresh cy (0 : Int32) c_nodeS c_nodeD c_pairE c_pairO c_bit c_lag c_lagSum c_row) := hD
  refine lv_iload_n hx hb dX12_line_5 rfl (lv_at hl 1 rfl) ?_
  refine lv_i2l (v := v1.toInt64) hx hb dX12_line_6 rfl ?_
  refine lv_lconst (v := 0) hx hb dX12_line_7 (by decide) ?_
  refine lv_aload_n hx hb dX12_line_8 rfl (lv_at hl 0 rfl) ?_
  refine va_get (D := (dC, dI)) (ci := 12) (v := .ref h_row) (C := RX12) (T := TX12) (N := 22) hx hb hts inX12 hown hK hP 0 rfl rfl 1 (by decide) (hts _ (List.mem_cons_of_mem _ mw_169)) (fun _ h9 => h9) rfl dX12_line_9 ?_
  refine lv_bipush (v := 51) hx hb dX12_line_12 (by decide) ?_
  refine xiald (k := 51) hx hb hK hP 1 0 rfl rfl (vpL 51 13385 rfl) (by decide) dX12_line_14 ?_
  refine lv_i2l (v := (c_row 51).toInt64) hx hb dX12_line_15 rfl ?_
  refine lv_lconst (v := 1) hx hb dX12_line_16 (by decide) ?_
  refine lv_lsub hx hb dX12_line_17 ?_
  have hPc := pSub (ws' := (w_X12_in cy)) hP [] rfl
  have hDc := dSub (ws' := (w_X12_in cy)) hD [] (by decide) rfl
  have hFc := va_free (wc := (w_X12_in cy)) hD hS hA [] rfl
  refine va_calli (va_runS (As := [.long (v1.toInt64), .long (0 : Int64), .long (((c_row 51).toInt64) - (1 : Int64))]) (rest := []) ⟨hx, hb, hml, hown, hts⟩ (c_X12_in l dC dI cy  H.size (v1.toInt64) (0 : Int64) (((c_row 51).toInt64) - (1 : Int64)) _ hw) (va_cwS 3 hts (goodS mw_207 mw_205 mw_206 mw_5) rfl rfl rfl (by decide +kernel) ⟨Nat.le_of_ble_eq_true rfl, Nat.le_of_ble_eq_true rfl⟩) ⟨PX_blind, PX_pre hPc hK hDc hG⟩ rfl rfl hl.1 rfl (lv_room (Nat.le_of_ble_eq_true rfl)) dX12_line_18 ⟨Nat.zero_le _, Nat.zero_le _⟩) hS (fun q _ h => hFc q h) hFc ?_; clear hw hS; intro r2 _ t H1 locs1 ht hvm hw hB hz1 hk1 hS
  obtain ⟨hP1, -, -⟩ := hB
  rw [ht] at hP1
  replace hP := jC0 hP hD [] [0, 1] rfl hk1 hP1 (w_X12_line h0 h_row h_kept h_isKept h_aside h_eight h_rows h_scales h_dealt h_bytes h_heardRow h_made h_comes h_backs h_fresh cy (0 : Int32) c_nodeS c_nodeD c_pairE c_pairO c_bit c_lag c_lagSum c_row) rfl rfl rfl 2 rfl (by decide +kernel); clear hD; obtain ⟨hP, hD⟩ := hP
  replace hP : va_P (dC, dI) vwCl (w_X12_line h0 h_row h_kept h_isKept h_aside h_eight h_rows h_scales h_dealt h_bytes h_heardRow h_made h_comes h_backs h_fresh cy (0 : Int32) c_nodeS c_nodeD c_pairE c_pairO c_bit c_lag c_lagSum c_row) H1 := hP
  replace hD : va_D A (w_X12_line h0 h_row h_kept h_isKept h_aside h_eight h_rows h_scales h_dealt h_bytes h_heardRow h_made h_comes h_backs h_fresh cy (0 : Int32) c_nodeS c_nodeD c_pairE c_pairO c_bit c_lag c_lagSum c_row) := hD
  clear hPc hDc hFc hP1 hk1 hz1 hvm ht; clear t; clear H locs; obtain ⟨H, hH⟩ : ∃ H, H = H1 := ⟨_, rfl⟩; obtain ⟨locs, hlo⟩ : ∃ L, L = locs1 := ⟨_, rfl⟩; subst hH; subst hlo
  refine W.widen (k := 0) (n := 0) (Nat.le_refl 0) (Nat.le_refl 0) ?_
  refine lv_if_ne (tgt := 26) hx hb dX12_line_21 (by decide) (fun c3 => ?_) (fun c3 => ?_)
  · replace hw := hw.2 c3; clear c3
    refine lv_iload_n hx hb dX12_line_26 rfl (lv_at hl 1 rfl) ?_
    have hPc := pSub (ws' := (w_X12_lineAt cy)) hP [] rfl
    have hDc := dSub (ws' := (w_X12_lineAt cy)) hD [] (by decide) rfl
    have hFc := va_free (wc := (w_X12_lineAt cy)) hD hS hA [] rfl
    refine va_calli (va_runS (As := [.int v1]) (rest := []) ⟨hx, hb, hml, hown, hts⟩ (c_X12_lineAt l dC dI cy  H.size v1 _ hw) (va_cwS 1 hts (goodS mw_681 mw_679 mw_680 mw_5) rfl rfl rfl (by decide +kernel) ⟨Nat.le_of_ble_eq_true rfl, Nat.le_of_ble_eq_true rfl⟩) ⟨PX_blind, PX_pre hPc hK hDc hG⟩ rfl rfl hl.1 rfl (lv_room (Nat.le_of_ble_eq_true rfl)) dX12_line_27 ⟨Nat.zero_le _, Nat.zero_le _⟩) hS (fun q _ h => hFc q h) hFc ?_; clear hw hS; intro r4 _ t H1 locs1 ht hvm hw hB hz1 hk1 hS
    obtain ⟨hP1, -, -⟩ := hB
    rw [ht] at hP1
    replace hP := jC0 hP hD [] [0, 1] rfl hk1 hP1 (w_X12_line h0 h_row h_kept h_isKept h_aside h_eight h_rows h_scales h_dealt h_bytes h_heardRow h_made h_comes h_backs h_fresh cy (0 : Int32) c_nodeS c_nodeD c_pairE c_pairO c_bit c_lag c_lagSum c_row) rfl rfl rfl 2 rfl (by decide +kernel); clear hD; obtain ⟨hP, hD⟩ := hP
    replace hP : va_P (dC, dI) vwCl (w_X12_line h0 h_row h_kept h_isKept h_aside h_eight h_rows h_scales h_dealt h_bytes h_heardRow h_made h_comes h_backs h_fresh cy (0 : Int32) c_nodeS c_nodeD c_pairE c_pairO c_bit c_lag c_lagSum c_row) H1 := hP
    replace hD : va_D A (w_X12_line h0 h_row h_kept h_isKept h_aside h_eight h_rows h_scales h_dealt h_bytes h_heardRow h_made h_comes h_backs h_fresh cy (0 : Int32) c_nodeS c_nodeD c_pairE c_pairO c_bit c_lag c_lagSum c_row) := hD
    clear hPc hDc hFc hP1 hk1 hz1 hvm ht; clear t; clear H locs; obtain ⟨H, hH⟩ : ∃ H, H = H1 := ⟨_, rfl⟩; obtain ⟨locs, hlo⟩ : ∃ L, L = locs1 := ⟨_, rfl⟩; subst hH; subst hlo
    refine W.widen (k := 0) (n := 0) (Nat.le_refl 0) (Nat.le_refl 0) ?_
    refine lv_istore_n (lv' := [(3, .int r4), (0, .ref h0), (1, .int v1), (2, .int v2)]) hx hb dX12_line_30 rfl hl (by decide) rfl ?_; clear hl; clear ls; intro ls hl
    refine lv_iload_n hx hb dX12_line_31 rfl (lv_at hl 3 rfl) ?_
    by_cases c5 : v2 = 0
    · replace hw := hw.1 c5
      refine lv_tableIn (tgt := 68) hx hb dX12_line_32 (by rw [c5]; decide) (by rw [c5]; decide) (by rw [c5]; rfl) (by decide) ?_
      refine lv_aload_n hx hb dX12_line_68 rfl (lv_at hl 1 rfl) ?_
      refine va_get (D := (dC, dI)) (ci := 12) (v := .ref h_row) (C := RX12) (T := TX12) (N := 22) hx hb hts inX12 hown hK hP 0 rfl rfl 1 (by decide) (hts _ (List.mem_cons_of_mem _ mw_169)) (fun _ h9 => h9) rfl dX12_line_69 ?_
      refine lv_iload_n hx hb dX12_line_72 rfl (lv_at hl 0 rfl) ?_
      refine lv_iconst (v := 0) hx hb dX12_line_73 (by decide) ?_
      refine lv_iadd hx hb dX12_line_74 ?_
      obtain ⟨h6, hw⟩ := hw
      refine xiald (k := (r4 + (0 : Int32)).toNatClampNeg) hx hb hK hP 1 0 rfl rfl h6 rfl dX12_line_75 ?_
      subst hQe
      exact W.iret (v := c_row (r4 + (0 : Int32)).toNatClampNeg) hx hb hr (fun t ht hW => ⟨⟨(c_row (r4 + (0 : Int32)).toNatClampNeg), (0 : Int32), rfl, hw, by rw [ht]; exact hP, va_K.moved hW.alike hK, hD⟩, hS.F ht⟩) hS.2.2 dX12_line_76
    · skip
      by_cases c7 : v2 = 1
      · replace hw := hw.2.1 c7
        refine lv_tableIn (tgt := 77) hx hb dX12_line_32 (by rw [c7]; decide) (by rw [c7]; decide) (by rw [c7]; rfl) (by decide) ?_
        refine lv_aload_n hx hb dX12_line_77 rfl (lv_at hl 1 rfl) ?_
        refine va_get (D := (dC, dI)) (ci := 12) (v := .ref h_row) (C := RX12) (T := TX12) (N := 22) hx hb hts inX12 hown hK hP 0 rfl rfl 1 (by decide) (hts _ (List.mem_cons_of_mem _ mw_169)) (fun _ h9 => h9) rfl dX12_line_78 ?_
        refine lv_aload_n hx hb dX12_line_81 rfl (lv_at hl 1 rfl) ?_
        refine va_get (D := (dC, dI)) (ci := 12) (v := .ref h_row) (C := RX12) (T := TX12) (N := 22) hx hb hts inX12 hown hK hP 0 rfl rfl 1 (by decide) (hts _ (List.mem_cons_of_mem _ mw_169)) (fun _ h9 => h9) rfl dX12_line_82 ?_
        refine lv_iload_n hx hb dX12_line_85 rfl (lv_at hl 0 rfl) ?_
        refine lv_iconst (v := 0) hx hb dX12_line_86 (by decide) ?_
        refine lv_iadd hx hb dX12_line_87 ?_
        obtain ⟨h8, hw⟩ := hw
        refine xiald (k := (r4 + (0 : Int32)).toNatClampNeg) hx hb hK hP 1 0 rfl rfl h8 rfl dX12_line_88 ?_
        have hPc := pSub (ws' := (w_X12_packetAt cy)) hP [] rfl
        have hDc := dSub (ws' := (w_X12_packetAt cy)) hD [] (by decide) rfl
        have hFc := va_free (wc := (w_X12_packetAt cy)) hD hS hA [] rfl
        refine va_calli (va_runS (As := [.int (c_row (r4 + (0 : Int32)).toNatClampNeg)]) (rest := [.ref h_row]) ⟨hx, hb, hml, hown, hts⟩ (c_X12_packetAt l dC dI cy  H.size (c_row (r4 + (0 : Int32)).toNatClampNeg) _ hw) (va_cwS 1 hts (goodS mw_684 mw_682 mw_683 mw_5) rfl rfl rfl (by decide +kernel) ⟨Nat.le_of_ble_eq_true rfl, Nat.le_of_ble_eq_true rfl⟩) ⟨PX_blind, PX_pre hPc hK hDc hG⟩ rfl rfl hl.1 rfl (lv_room (Nat.le_of_ble_eq_true rfl)) dX12_line_89 ⟨Nat.zero_le _, Nat.zero_le _⟩) hS (fun q _ h => hFc q h) hFc ?_; clear hw hS; intro r9 _ t H1 locs1 ht hvm hw hB hz1 hk1 hS
        obtain ⟨hP1, -, -⟩ := hB
        rw [ht] at hP1
        replace hP := jC0 hP hD [] [0, 1] rfl hk1 hP1 (w_X12_line h0 h_row h_kept h_isKept h_aside h_eight h_rows h_scales h_dealt h_bytes h_heardRow h_made h_comes h_backs h_fresh cy (0 : Int32) c_nodeS c_nodeD c_pairE c_pairO c_bit c_lag c_lagSum c_row) rfl rfl rfl 2 rfl (by decide +kernel); clear hD; obtain ⟨hP, hD⟩ := hP
        replace hP : va_P (dC, dI) vwCl (w_X12_line h0 h_row h_kept h_isKept h_aside h_eight h_rows h_scales h_dealt h_bytes h_heardRow h_made h_comes h_backs h_fresh cy (0 : Int32) c_nodeS c_nodeD c_pairE c_pairO c_bit c_lag c_lagSum c_row) H1 := hP
        replace hD : va_D A (w_X12_line h0 h_row h_kept h_isKept h_aside h_eight h_rows h_scales h_dealt h_bytes h_heardRow h_made h_comes h_backs h_fresh cy (0 : Int32) c_nodeS c_nodeD c_pairE c_pairO c_bit c_lag c_lagSum c_row) := hD
        clear hPc hDc hFc hP1 hk1 hz1 hvm ht; clear t; clear H locs; obtain ⟨H, hH⟩ : ∃ H, H = H1 := ⟨_, rfl⟩; obtain ⟨locs, hlo⟩ : ∃ L, L = locs1 := ⟨_, rfl⟩; subst hH; subst hlo
        refine W.widen (k := 0) (n := 0) (Nat.le_refl 0) (Nat.le_refl 0) ?_
        refine lv_iconst (v := 1) hx hb dX12_line_92 (by decide) ?_
        refine lv_iadd hx hb dX12_line_93 ?_
        obtain ⟨h10, hw⟩ := hw
        refine xiald (k := (r9 + (1 : Int32)).toNatClampNeg) hx hb hK hP 1 0 rfl rfl h10 rfl dX12_line_94 ?_
        subst hQe
        exact W.iret (v := c_row (r9 + (1 : Int32)).toNatClampNeg) hx hb hr (fun t ht hW => ⟨⟨(c_row (r9 + (1 : Int32)).toNatClampNeg), (0 : Int32), rfl, hw, by rw [ht]; exact hP, va_K.moved hW.alike hK, hD⟩, hS.F ht⟩) hS.2.2 dX12_line_95
      · skip
        by_cases c11 : v2 = 2
        · replace hw := hw.2.2.1 c11
          refine lv_tableIn (tgt := 96) hx hb dX12_line_32 (by rw [c11]; decide) (by rw [c11]; decide) (by rw [c11]; rfl) (by decide) ?_
          refine lv_iconst (v := 4) hx hb dX12_line_96 (by decide) ?_
          refine lv_aload_n hx hb dX12_line_97 rfl (lv_at hl 1 rfl) ?_
          refine va_get (D := (dC, dI)) (ci := 12) (v := .ref h_row) (C := RX12) (T := TX12) (N := 22) hx hb hts inX12 hown hK hP 0 rfl rfl 1 (by decide) (hts _ (List.mem_cons_of_mem _ mw_169)) (fun _ h9 => h9) rfl dX12_line_98 ?_
          refine lv_iload_n hx hb dX12_line_101 rfl (lv_at hl 0 rfl) ?_
          refine lv_iconst (v := 0) hx hb dX12_line_102 (by decide) ?_
          refine lv_iadd hx hb dX12_line_103 ?_
          obtain ⟨h12, hw⟩ := hw
          refine xiald (k := (r4 + (0 : Int32)).toNatClampNeg) hx hb hK hP 1 0 rfl rfl h12 rfl dX12_line_104 ?_
          refine lv_imul hx hb dX12_line_105 ?_
          refine lv_aload_n hx hb dX12_line_106 rfl (lv_at hl 1 rfl) ?_
          refine va_get (D := (dC, dI)) (ci := 12) (v := .ref h_row) (C := RX12) (T := TX12) (N := 22) hx hb hts inX12 hown hK hP 0 rfl rfl 1 (by decide) (hts _ (List.mem_cons_of_mem _ mw_169)) (fun _ h9 => h9) rfl dX12_line_107 ?_
          refine lv_bipush (v := 10) hx hb dX12_line_110 (by decide) ?_
          refine xiald (k := 10) hx hb hK hP 1 0 rfl rfl (vpL 10 13385 rfl) (by decide) dX12_line_112 ?_
          refine lv_iadd hx hb dX12_line_113 ?_
          subst hQe
          exact W.iret (v := ((4 : Int32) * (c_row (r4 + (0 : Int32)).toNatClampNeg)) + (c_row 10)) hx hb hr (fun t ht hW => ⟨⟨(((4 : Int32) * (c_row (r4 + (0 : Int32)).toNatClampNeg)) + (c_row 10)), (0 : Int32), rfl, hw, by rw [ht]; exact hP, va_K.moved hW.alike hK, hD⟩, hS.F ht⟩) hS.2.2 dX12_line_114
        · skip
          by_cases c14 : v2 = 3
          · replace hw := hw.2.2.2.1 c14
            refine lv_tableIn (tgt := 115) hx hb dX12_line_32 (by rw [c14]; decide) (by rw [c14]; decide) (by rw [c14]; rfl) (by decide) ?_
            refine lv_aload_n hx hb dX12_line_115 rfl (lv_at hl 1 rfl) ?_
            refine va_get (D := (dC, dI)) (ci := 12) (v := .ref h_row) (C := RX12) (T := TX12) (N := 22) hx hb hts inX12 hown hK hP 0 rfl rfl 1 (by decide) (hts _ (List.mem_cons_of_mem _ mw_169)) (fun _ h9 => h9) rfl dX12_line_116 ?_
            refine lv_iload_n hx hb dX12_line_119 rfl (lv_at hl 0 rfl) ?_
            refine lv_iconst (v := 1) hx hb dX12_line_120 (by decide) ?_
            refine lv_iadd hx hb dX12_line_121 ?_
            obtain ⟨h15, hw⟩ := hw
            refine xiald (k := (r4 + (1 : Int32)).toNatClampNeg) hx hb hK hP 1 0 rfl rfl h15 rfl dX12_line_122 ?_
            refine lv_aload_n hx hb dX12_line_123 rfl (lv_at hl 1 rfl) ?_
            refine va_get (D := (dC, dI)) (ci := 12) (v := .ref h_row) (C := RX12) (T := TX12) (N := 22) hx hb hts inX12 hown hK hP 0 rfl rfl 1 (by decide) (hts _ (List.mem_cons_of_mem _ mw_169)) (fun _ h9 => h9) rfl dX12_line_124 ?_
            refine lv_iload_n hx hb dX12_line_127 rfl (lv_at hl 0 rfl) ?_
            refine lv_iconst (v := 2) hx hb dX12_line_128 (by decide) ?_
            refine lv_iadd hx hb dX12_line_129 ?_
            obtain ⟨h16, hw⟩ := hw
            refine xiald (k := (r4 + (2 : Int32)).toNatClampNeg) hx hb hK hP 1 0 rfl rfl h16 rfl dX12_line_130 ?_
            have hPc := pSub (ws' := (w_X12_piecesOf cy)) hP [] rfl
            have hDc := dSub (ws' := (w_X12_piecesOf cy)) hD [] (by decide) rfl
            have hFc := va_free (wc := (w_X12_piecesOf cy)) hD hS hA [] rfl
            refine va_calli (va_runS (As := [.int (c_row (r4 + (1 : Int32)).toNatClampNeg), .int (c_row (r4 + (2 : Int32)).toNatClampNeg)]) (rest := []) ⟨hx, hb, hml, hown, hts⟩ (c_X12_piecesOf l dC dI cy  H.size (c_row (r4 + (1 : Int32)).toNatClampNeg) (c_row (r4 + (2 : Int32)).toNatClampNeg) _ hw) (va_cwS 2 hts (goodS mw_714 mw_712 mw_713 mw_5) rfl rfl rfl (by decide +kernel) ⟨Nat.le_of_ble_eq_true rfl, Nat.le_of_ble_eq_true rfl⟩) ⟨PX_blind, PX_pre hPc hK hDc hG⟩ rfl rfl hl.1 rfl (lv_room (Nat.le_of_ble_eq_true rfl)) dX12_line_131 ⟨Nat.zero_le _, Nat.zero_le _⟩) hS (fun q _ h => hFc q h) hFc ?_; clear hw hS; intro r17 _ t H1 locs1 ht hvm hw hB hz1 hk1 hS
            obtain ⟨hP1, -, -⟩ := hB
            rw [ht] at hP1
            replace hP := jC0 hP hD [] [0, 1] rfl hk1 hP1 (w_X12_line h0 h_row h_kept h_isKept h_aside h_eight h_rows h_scales h_dealt h_bytes h_heardRow h_made h_comes h_backs h_fresh cy (0 : Int32) c_nodeS c_nodeD c_pairE c_pairO c_bit c_lag c_lagSum c_row) rfl rfl rfl 2 rfl (by decide +kernel); clear hD; obtain ⟨hP, hD⟩ := hP
            replace hP : va_P (dC, dI) vwCl (w_X12_line h0 h_row h_kept h_isKept h_aside h_eight h_rows h_scales h_dealt h_bytes h_heardRow h_made h_comes h_backs h_fresh cy (0 : Int32) c_nodeS c_nodeD c_pairE c_pairO c_bit c_lag c_lagSum c_row) H1 := hP
            replace hD : va_D A (w_X12_line h0 h_row h_kept h_isKept h_aside h_eight h_rows h_scales h_dealt h_bytes h_heardRow h_made h_comes h_backs h_fresh cy (0 : Int32) c_nodeS c_nodeD c_pairE c_pairO c_bit c_lag c_lagSum c_row) := hD
            clear hPc hDc hFc hP1 hk1 hz1 hvm ht; clear t; clear H locs; obtain ⟨H, hH⟩ : ∃ H, H = H1 := ⟨_, rfl⟩; obtain ⟨locs, hlo⟩ : ∃ L, L = locs1 := ⟨_, rfl⟩; subst hH; subst hlo
            refine W.widen (k := 0) (n := 0) (Nat.le_refl 0) (Nat.le_refl 0) ?_
            subst hQe
            exact W.iret (v := r17) hx hb hr (fun t ht hW => ⟨⟨r17, (0 : Int32), rfl, hw, by rw [ht]; exact hP, va_K.moved hW.alike hK, hD⟩, hS.F ht⟩) hS.2.2 dX12_line_134
          · skip
            by_cases c18 : v2 = 4
            · replace hw := hw.2.2.2.2.1 c18
              refine lv_tableIn (tgt := 135) hx hb dX12_line_32 (by rw [c18]; decide) (by rw [c18]; decide) (by rw [c18]; rfl) (by decide) ?_
              refine lv_aload_n hx hb dX12_line_135 rfl (lv_at hl 1 rfl) ?_
              refine va_get (D := (dC, dI)) (ci := 12) (v := .ref h_row) (C := RX12) (T := TX12) (N := 22) hx hb hts inX12 hown hK hP 0 rfl rfl 1 (by decide) (hts _ (List.mem_cons_of_mem _ mw_169)) (fun _ h9 => h9) rfl dX12_line_136 ?_
              refine lv_iload_n hx hb dX12_line_139 rfl (lv_at hl 0 rfl) ?_
              refine lv_iconst (v := 3) hx hb dX12_line_140 (by decide) ?_
              refine lv_iadd hx hb dX12_line_141 ?_
              obtain ⟨h19, hw⟩ := hw
              refine xiald (k := (r4 + (3 : Int32)).toNatClampNeg) hx hb hK hP 1 0 rfl rfl h19 rfl dX12_line_142 ?_
              subst hQe
              exact W.iret (v := c_row (r4 + (3 : Int32)).toNatClampNeg) hx hb hr (fun t ht hW => ⟨⟨(c_row (r4 + (3 : Int32)).toNatClampNeg), (0 : Int32), rfl, hw, by rw [ht]; exact hP, va_K.moved hW.alike hK, hD⟩, hS.F ht⟩) hS.2.2 dX12_line_143
            · skip
              replace hw := hw.2.2.2.2.2 c5 c7 c11 c14 c18
              refine lv_tableOut (tgt := 144) hx hb dX12_line_32 (by have e0 := sw_ne (n := 0) c5 (by decide); have e1 := sw_ne (n := 1) c7 (by decide); have e2 := sw_ne (n := 2) c11 (by decide); have e3 := sw_ne (n := 3) c14 (by decide); have e4 := sw_ne (n := 4) c18 (by decide); omega) (by decide) ?_
              refine lv_iconst (v := -1) hx hb dX12_line_144 (by decide) ?_
              subst hQe
              exact W.iret (v := (-1 : Int32)) hx hb hr (fun t ht hW => ⟨⟨(-1 : Int32), (0 : Int32), rfl, hw, by rw [ht]; exact hP, va_K.moved hW.alike hK, hD⟩, hS.F ht⟩) hS.2.2 dX12_line_145
  · replace hw := hw.1 c3; clear c3
    refine lv_iconst (v := -1) hx hb dX12_line_24 (by decide) ?_
    subst hQe
    exact W.iret (v := (-1 : Int32)) hx hb hr (fun t ht hW => ⟨⟨(-1 : Int32), (0 : Int32), rfl, hw, by rw [ht]; exact hP, va_K.moved hW.alike hK, hD⟩, hS.F ht⟩) hS.2.2 dX12_line_25
set_option maxHeartbeats 4000000 in
set_option maxRecDepth 100000 in
theorem c_X12_packet (l : Launch) (dC : Nat → ClassId) (dI : Nat → Nat → Nat) (cy : Nat → ClassId) (h0 h_row h_kept h_isKept h_aside h_eight h_rows h_scales h_dealt h_bytes h_heardRow h_made h_comes h_backs h_fresh : Nat) (sz : Nat) (v1 : Int32) (v2 : Int32) (c_thrown : Int32) (c_nodeS : Int32) (c_nodeD : Int32) (c_pairE : Int32) (c_pairO : Int32) (c_bit : Int32) (c_lag : Int32) (c_lagSum : Int32) (c_row : Nat → Int32) (post : Int32 → Int32 → Prop) (hw : wp_X12_packet v1 v2 c_thrown c_row post) : Met l yX12_packet wsX12_packet ({ frames := 1, cells := 0, slots := 0, locals := 25 }) (PX dC dI cy [.ref h0, .int v1, .int v2] sz (w_X12_packet h0 h_row h_kept h_isKept h_aside h_eight h_rows h_scales h_dealt h_bytes h_heardRow h_made h_comes h_backs h_fresh cy c_thrown c_nodeS c_nodeD c_pairE c_pairO c_bit c_lag c_lagSum c_row)) (va_Qi (fun (r : Int32) (u : Int32) => post r u) (QX dC dI cy (va_A (w_X12_packet h0 h_row h_kept h_isKept h_aside h_eight h_rows h_scales h_dealt h_bytes h_heardRow h_made h_comes h_backs h_fresh cy c_thrown c_nodeS c_nodeD c_pairE c_pairO c_bit c_lag c_lagSum c_row) sz) (fun (u : Int32) => w_X12_packet h0 h_row h_kept h_isKept h_aside h_eight h_rows h_scales h_dealt h_bytes h_heardRow h_made h_comes h_backs h_fresh cy u c_nodeS c_nodeD c_pairE c_pairO c_bit c_lag c_lagSum c_row)) (va_A (w_X12_packet h0 h_row h_kept h_isKept h_aside h_eight h_rows h_scales h_dealt h_bytes h_heardRow h_made h_comes h_backs h_fresh cy c_thrown c_nodeS c_nodeD c_pairE c_pairO c_bit c_lag c_lagSum c_row) sz)) 0 0 (va_A (w_X12_packet h0 h_row h_kept h_isKept h_aside h_eight h_rows h_scales h_dealt h_bytes h_heardRow h_made h_comes h_backs h_fresh cy c_thrown c_nodeS c_nodeD c_pairE c_pairO c_bit c_lag c_lagSum c_row) sz) := by
  refine Met.ofW (cc := cX12_packet) (maxL := 4) (ret := (some .int)) (by decide) rfl ?_
  intro p e s m args below meth c s₁ B hml hv
  obtain ⟨rfl, hsz, hP, hK, hD0, hG⟩ := hv
  have hx := B.exec
  have hb := B.bytes
  have hr := B.returns
  have hts := atoms_spec (ws := wsX12_packet) B.pre
  have hown : s.vm.findClass RX12 = some m.cls := findClass_of_methodNamed B.named
  have hlocks := B.notSynchronized
  subst hsz
  have hD := hD0.self (sz := s.heap.size)
  generalize hAe : va_A (w_X12_packet h0 h_row h_kept h_isKept h_aside h_eight h_rows h_scales h_dealt h_bytes h_heardRow h_made h_comes h_backs h_fresh cy c_thrown c_nodeS c_nodeD c_pairE c_pairO c_bit c_lag c_lagSum c_row) s.heap.size = A at hD ⊢
  have hA : ∀ q : Nat, s.heap.size ≤ q → A q := fun q h => by rw [← hAe]; exact Or.inr h
  have hS : va_S A s.heap s.heap [] := va_S.rf
  have hl := lv_entry ([.ref h0, .int v1, .int v2]) (n := 4) (Nat.le_of_ble_eq_true rfl)
  rw [lg_entry_eq]
  generalize (lg_sl ([.ref h0, .int v1, .int v2]) ++ List.replicate (4 - (lg_sl ([.ref h0, .int v1, .int v2])).length) Slot.unset).toArray = ls at hl ⊢
  replace hl : lv_has ls 4 [(0, .ref h0), (1, .int v1), (2, .int v2)] := hl
  have inX12 : ∀ w ∈ u_ws RX12 TX12 22, w ∈ wsX12_packet := fun w h => List.mem_cons_of_mem _ (inlX12 w h)
  clear hAe hD0 B
  unfold wp_X12_packet at hw
  generalize hQe : MQ below _ _ s _ _ _ = Q0
  generalize ([.ref h0, .int v1, .int v2] : List Value).toArray = av at *
  obtain ⟨H, hH⟩ : ∃ H, H = s.heap := ⟨_, rfl⟩
  obtain ⟨locs, hlo⟩ : ∃ L : List Loc, L = [] := ⟨_, rfl⟩
  replace hP : va_P (dC, dI) vwCl (w_X12_packet h0 h_row h_kept h_isKept h_aside h_eight h_rows h_scales h_dealt h_bytes h_heardRow h_made h_comes h_backs h_fresh cy c_thrown c_nodeS c_nodeD c_pairE c_pairO c_bit c_lag c_lagSum c_row) H := by rw [hH]; exact hP
  replace hS : va_S A s.heap H locs := by rw [hH, hlo]; exact hS
  suffices hgo : W p l e ({ frames := 1, cells := 0, slots := 0, locals := 25 }) s m av below meth c H locs 0 0 Q0 (F0 m 0 ls []) by rw [hH, hlo] at hgo; exact hgo
  clear hH hlo
  refine lv_aload_n hx hb dX12_packet_0 rfl (lv_at hl 0 rfl) ?_
  refine lv_iconst (v := 0) hx hb dX12_packet_1 (by decide) ?_
  refine va_put (D := (dC, dI)) (ci := 12) (v := .int (0 : Int32)) (ty := .int) (C := RX12) (T := TX12) (N := 22) hx hb hts inX12 tyX12 tyX12_ok nmX12 hown hK hP hD hS 0 rfl rfl 0 (by decide) (hts _ (List.mem_cons_of_mem _ mw_200)) (fun _ h9 => h9) rfl (by decide +kernel) rfl rfl (Nat.le_of_ble_eq_true rfl) dX12_packet_2 ?_; clear hP hD hS; clear H locs; intro H locs hP hD hS
  replace hP : va_P (dC, dI) vwCl (w_X12_packet h0 h_row h_kept h_isKept h_aside h_eight h_rows h_scales h_dealt h_bytes h_heardRow h_made h_comes h_backs h_fresh cy (0 : Int32) c_nodeS c_nodeD c_pairE c_pairO c_bit c_lag c_lagSum c_row) H := hP
  replace hD : va_D A (w_X12_packet h0 h_row h_kept h_isKept h_aside h_eight h_rows h_scales h_dealt h_bytes h_heardRow h_made h_comes h_backs h_fresh cy (0 : Int32) c_nodeS c_nodeD c_pairE c_pairO c_bit c_lag c_lagSum c_row) := hD
  refine lv_iload_n hx hb dX12_packet_5 rfl (lv_at hl 1 rfl) ?_
  refine lv_i2l (v := v1.toInt64) hx hb dX12_packet_6 rfl ?_
  refine lv_lconst (v := 0) hx hb dX12_packet_7 (by decide) ?_
  refine lv_ldc2 (v := 2499) hx hb hown (hts _ (List.mem_cons_of_mem _ mw_1156)) dX12_packet_8 ?_
  have hPc := pSub (ws' := (w_X12_in cy)) hP [] rfl
  have hDc := dSub (ws' := (w_X12_in cy)) hD [] (by decide) rfl
  have hFc := va_free (wc := (w_X12_in cy)) hD hS hA [] rfl
  refine va_calli (va_runS (As := [.long (v1.toInt64), .long (0 : Int64), .long (2499 : Int64)]) (rest := []) ⟨hx, hb, hml, hown, hts⟩ (c_X12_in l dC dI cy  H.size (v1.toInt64) (0 : Int64) (2499 : Int64) _ hw) (va_cwS 3 hts (goodS mw_207 mw_205 mw_206 mw_5) rfl rfl rfl (by decide +kernel) ⟨Nat.le_of_ble_eq_true rfl, Nat.le_of_ble_eq_true rfl⟩) ⟨PX_blind, PX_pre hPc hK hDc hG⟩ rfl rfl hl.1 rfl (lv_room (Nat.le_of_ble_eq_true rfl)) dX12_packet_11 ⟨Nat.zero_le _, Nat.zero_le _⟩) hS (fun q _ h => hFc q h) hFc ?_; clear hw hS; intro r1 _ t H1 locs1 ht hvm hw hB hz1 hk1 hS
  obtain ⟨hP1, -, -⟩ := hB
  rw [ht] at hP1
  replace hP := jC0 hP hD [] [0, 1] rfl hk1 hP1 (w_X12_packet h0 h_row h_kept h_isKept h_aside h_eight h_rows h_scales h_dealt h_bytes h_heardRow h_made h_comes h_backs h_fresh cy (0 : Int32) c_nodeS c_nodeD c_pairE c_pairO c_bit c_lag c_lagSum c_row) rfl rfl rfl 2 rfl (by decide +kernel); clear hD; obtain ⟨hP, hD⟩ := hP
  replace hP : va_P (dC, dI) vwCl (w_X12_packet h0 h_row h_kept h_isKept h_aside h_eight h_rows h_scales h_dealt h_bytes h_heardRow h_made h_comes h_backs h_fresh cy (0 : Int32) c_nodeS c_nodeD c_pairE c_pairO c_bit c_lag c_lagSum c_row) H1 := hP
  replace hD : va_D A (w_X12_packet h0 h_row h_kept h_isKept h_aside h_eight h_rows h_scales h_dealt h_bytes h_heardRow h_made h_comes h_backs h_fresh cy (0 : Int32) c_nodeS c_nodeD c_pairE c_pairO c_bit c_lag c_lagSum c_row) := hD
  clear hPc hDc hFc hP1 hk1 hz1 hvm ht; clear t; clear H locs; obtain ⟨H, hH⟩ : ∃ H, H = H1 := ⟨_, rfl⟩; obtain ⟨locs, hlo⟩ : ∃ L, L = locs1 := ⟨_, rfl⟩; subst hH; subst hlo
  refine W.widen (k := 0) (n := 0) (Nat.le_refl 0) (Nat.le_refl 0) ?_
  refine lv_if_eq (tgt := 29) hx hb dX12_packet_14 (by decide) (fun c2 => ?_) (fun c2 => ?_)
  · replace hw := hw.1 c2; clear c2
    refine lv_iconst (v := -1) hx hb dX12_packet_29 (by decide) ?_
    subst hQe
    exact W.iret (v := (-1 : Int32)) hx hb hr (fun t ht hW => ⟨⟨(-1 : Int32), (0 : Int32), rfl, hw, by rw [ht]; exact hP, va_K.moved hW.alike hK, hD⟩, hS.F ht⟩) hS.2.2 dX12_packet_30
  · replace hw := hw.2 c2; clear c2
    refine lv_iload_n hx hb dX12_packet_17 rfl (lv_at hl 2 rfl) ?_
    refine lv_i2l (v := v2.toInt64) hx hb dX12_packet_18 rfl ?_
    refine lv_lconst (v := 0) hx hb dX12_packet_19 (by decide) ?_
    refine lv_ldc2 (v := 3) hx hb hown (hts _ (List.mem_cons_of_mem _ mw_931)) dX12_packet_20 ?_
    have hPc := pSub (ws' := (w_X12_in cy)) hP [] rfl
    have hDc := dSub (ws' := (w_X12_in cy)) hD [] (by decide) rfl
    have hFc := va_free (wc := (w_X12_in cy)) hD hS hA [] rfl
    refine va_calli (va_runS (As := [.long (v2.toInt64), .long (0 : Int64), .long (3 : Int64)]) (rest := []) ⟨hx, hb, hml, hown, hts⟩ (c_X12_in l dC dI cy  H.size (v2.toInt64) (0 : Int64) (3 : Int64) _ hw) (va_cwS 3 hts (goodS mw_207 mw_205 mw_206 mw_5) rfl rfl rfl (by decide +kernel) ⟨Nat.le_of_ble_eq_true rfl, Nat.le_of_ble_eq_true rfl⟩) ⟨PX_blind, PX_pre hPc hK hDc hG⟩ rfl rfl hl.1 rfl (lv_room (Nat.le_of_ble_eq_true rfl)) dX12_packet_23 ⟨Nat.zero_le _, Nat.zero_le _⟩) hS (fun q _ h => hFc q h) hFc ?_; clear hw hS; intro r3 _ t H1 locs1 ht hvm hw hB hz1 hk1 hS
    obtain ⟨hP1, -, -⟩ := hB
    rw [ht] at hP1
    replace hP := jC0 hP hD [] [0, 1] rfl hk1 hP1 (w_X12_packet h0 h_row h_kept h_isKept h_aside h_eight h_rows h_scales h_dealt h_bytes h_heardRow h_made h_comes h_backs h_fresh cy (0 : Int32) c_nodeS c_nodeD c_pairE c_pairO c_bit c_lag c_lagSum c_row) rfl rfl rfl 2 rfl (by decide +kernel); clear hD; obtain ⟨hP, hD⟩ := hP
    replace hP : va_P (dC, dI) vwCl (w_X12_packet h0 h_row h_kept h_isKept h_aside h_eight h_rows h_scales h_dealt h_bytes h_heardRow h_made h_comes h_backs h_fresh cy (0 : Int32) c_nodeS c_nodeD c_pairE c_pairO c_bit c_lag c_lagSum c_row) H1 := hP
    replace hD : va_D A (w_X12_packet h0 h_row h_kept h_isKept h_aside h_eight h_rows h_scales h_dealt h_bytes h_heardRow h_made h_comes h_backs h_fresh cy (0 : Int32) c_nodeS c_nodeD c_pairE c_pairO c_bit c_lag c_lagSum c_row) := hD
    clear hPc hDc hFc hP1 hk1 hz1 hvm ht; clear t; clear H locs; obtain ⟨H, hH⟩ : ∃ H, H = H1 := ⟨_, rfl⟩; obtain ⟨locs, hlo⟩ : ∃ L, L = locs1 := ⟨_, rfl⟩; subst hH; subst hlo
    refine W.widen (k := 0) (n := 0) (Nat.le_refl 0) (Nat.le_refl 0) ?_
    refine lv_if_ne (tgt := 31) hx hb dX12_packet_26 (by decide) (fun c4 => ?_) (fun c4 => ?_)
    · replace hw := hw.2 c4; clear c4
      refine lv_iload_n hx hb dX12_packet_31 rfl (lv_at hl 1 rfl) ?_
      have hPc := pSub (ws' := (w_X12_packetAt cy)) hP [] rfl
      have hDc := dSub (ws' := (w_X12_packetAt cy)) hD [] (by decide) rfl
      have hFc := va_free (wc := (w_X12_packetAt cy)) hD hS hA [] rfl
      refine va_calli (va_runS (As := [.int v1]) (rest := []) ⟨hx, hb, hml, hown, hts⟩ (c_X12_packetAt l dC dI cy  H.size v1 _ hw) (va_cwS 1 hts (goodS mw_684 mw_682 mw_683 mw_5) rfl rfl rfl (by decide +kernel) ⟨Nat.le_of_ble_eq_true rfl, Nat.le_of_ble_eq_true rfl⟩) ⟨PX_blind, PX_pre hPc hK hDc hG⟩ rfl rfl hl.1 rfl (lv_room (Nat.le_of_ble_eq_true rfl)) dX12_packet_32 ⟨Nat.zero_le _, Nat.zero_le _⟩) hS (fun q _ h => hFc q h) hFc ?_; clear hw hS; intro r5 _ t H1 locs1 ht hvm hw hB hz1 hk1 hS
      obtain ⟨hP1, -, -⟩ := hB
      rw [ht] at hP1
      replace hP := jC0 hP hD [] [0, 1] rfl hk1 hP1 (w_X12_packet h0 h_row h_kept h_isKept h_aside h_eight h_rows h_scales h_dealt h_bytes h_heardRow h_made h_comes h_backs h_fresh cy (0 : Int32) c_nodeS c_nodeD c_pairE c_pairO c_bit c_lag c_lagSum c_row) rfl rfl rfl 2 rfl (by decide +kernel); clear hD; obtain ⟨hP, hD⟩ := hP
      replace hP : va_P (dC, dI) vwCl (w_X12_packet h0 h_row h_kept h_isKept h_aside h_eight h_rows h_scales h_dealt h_bytes h_heardRow h_made h_comes h_backs h_fresh cy (0 : Int32) c_nodeS c_nodeD c_pairE c_pairO c_bit c_lag c_lagSum c_row) H1 := hP
      replace hD : va_D A (w_X12_packet h0 h_row h_kept h_isKept h_aside h_eight h_rows h_scales h_dealt h_bytes h_heardRow h_made h_comes h_backs h_fresh cy (0 : Int32) c_nodeS c_nodeD c_pairE c_pairO c_bit c_lag c_lagSum c_row) := hD
      clear hPc hDc hFc hP1 hk1 hz1 hvm ht; clear t; clear H locs; obtain ⟨H, hH⟩ : ∃ H, H = H1 := ⟨_, rfl⟩; obtain ⟨locs, hlo⟩ : ∃ L, L = locs1 := ⟨_, rfl⟩; subst hH; subst hlo
      refine W.widen (k := 0) (n := 0) (Nat.le_refl 0) (Nat.le_refl 0) ?_
      refine lv_istore_n (lv' := [(3, .int r5), (0, .ref h0), (1, .int v1), (2, .int v2)]) hx hb dX12_packet_35 rfl hl (by decide) rfl ?_; clear hl; clear ls; intro ls hl
      refine lv_iload_n hx hb dX12_packet_36 rfl (lv_at hl 3 rfl) ?_
      refine lv_iconst (v := 3) hx hb dX12_packet_37 (by decide) ?_
      refine lv_icmp_ne (tgt := 57) hx hb dX12_packet_38 (by decide) (fun c6 => ?_) (fun c6 => ?_)
      · replace hw := hw.2 c6; clear c6
        refine lv_aload_n hx hb dX12_packet_57 rfl (lv_at hl 1 rfl) ?_
        refine va_get (D := (dC, dI)) (ci := 12) (v := .ref h_row) (C := RX12) (T := TX12) (N := 22) hx hb hts inX12 hown hK hP 0 rfl rfl 1 (by decide) (hts _ (List.mem_cons_of_mem _ mw_169)) (fun _ h9 => h9) rfl dX12_packet_58 ?_
        refine lv_iload_n hx hb dX12_packet_61 rfl (lv_at hl 0 rfl) ?_
        refine lv_iload_n hx hb dX12_packet_62 rfl (lv_at hl 3 rfl) ?_
        refine lv_iadd hx hb dX12_packet_63 ?_
        obtain ⟨h7, hw⟩ := hw
        refine xiald (k := (r5 + v2).toNatClampNeg) hx hb hK hP 1 0 rfl rfl h7 rfl dX12_packet_64 ?_
        subst hQe
        exact W.iret (v := c_row (r5 + v2).toNatClampNeg) hx hb hr (fun t ht hW => ⟨⟨(c_row (r5 + v2).toNatClampNeg), (0 : Int32), rfl, hw, by rw [ht]; exact hP, va_K.moved hW.alike hK, hD⟩, hS.F ht⟩) hS.2.2 dX12_packet_65
      · replace hw := hw.1 c6; clear c6
        refine lv_aload_n hx hb dX12_packet_41 rfl (lv_at hl 1 rfl) ?_
        refine va_get (D := (dC, dI)) (ci := 12) (v := .ref h_row) (C := RX12) (T := TX12) (N := 22) hx hb hts inX12 hown hK hP 0 rfl rfl 1 (by decide) (hts _ (List.mem_cons_of_mem _ mw_169)) (fun _ h9 => h9) rfl dX12_packet_42 ?_
        refine lv_iload_n hx hb dX12_packet_45 rfl (lv_at hl 0 rfl) ?_
        refine lv_iconst (v := 0) hx hb dX12_packet_46 (by decide) ?_
        refine lv_iadd hx hb dX12_packet_47 ?_
        obtain ⟨h8, hw⟩ := hw
        refine xiald (k := (r5 + (0 : Int32)).toNatClampNeg) hx hb hK hP 1 0 rfl rfl h8 rfl dX12_packet_48 ?_
        refine lv_iconst (v := 2) hx hb dX12_packet_49 (by decide) ?_
        refine lv_icmp_eq (tgt := 57) hx hb dX12_packet_50 (by decide) (fun c9 => ?_) (fun c9 => ?_)
        · replace hw := hw.1 c9; clear c9
          refine lv_aload_n hx hb dX12_packet_57 rfl (lv_at hl 1 rfl) ?_
          refine va_get (D := (dC, dI)) (ci := 12) (v := .ref h_row) (C := RX12) (T := TX12) (N := 22) hx hb hts inX12 hown hK hP 0 rfl rfl 1 (by decide) (hts _ (List.mem_cons_of_mem _ mw_169)) (fun _ h9 => h9) rfl dX12_packet_58 ?_
          refine lv_iload_n hx hb dX12_packet_61 rfl (lv_at hl 0 rfl) ?_
          refine lv_iload_n hx hb dX12_packet_62 rfl (lv_at hl 3 rfl) ?_
          refine lv_iadd hx hb dX12_packet_63 ?_
          obtain ⟨h10, hw⟩ := hw
          refine xiald (k := (r5 + v2).toNatClampNeg) hx hb hK hP 1 0 rfl rfl h10 rfl dX12_packet_64 ?_
          subst hQe
          exact W.iret (v := c_row (r5 + v2).toNatClampNeg) hx hb hr (fun t ht hW => ⟨⟨(c_row (r5 + v2).toNatClampNeg), (0 : Int32), rfl, hw, by rw [ht]; exact hP, va_K.moved hW.alike hK, hD⟩, hS.F ht⟩) hS.2.2 dX12_packet_65
        · replace hw := hw.2 c9; clear c9
          refine lv_iconst (v := -1) hx hb dX12_packet_53 (by decide) ?_
          refine lv_goto (tgt := 65) hx hb dX12_packet_54 (by decide) ?_
          subst hQe
          exact W.iret (v := (-1 : Int32)) hx hb hr (fun t ht hW => ⟨⟨(-1 : Int32), (0 : Int32), rfl, hw, by rw [ht]; exact hP, va_K.moved hW.alike hK, hD⟩, hS.F ht⟩) hS.2.2 dX12_packet_65
    · replace hw := hw.1 c4; clear c4
      refine lv_iconst (v := -1) hx hb dX12_packet_29 (by decide) ?_
      subst hQe
      exact W.iret (v := (-1 : Int32)) hx hb hr (fun t ht hW => ⟨⟨(-1 : Int32), (0 : Int32), rfl, hw, by rw [ht]; exact hP, va_K.moved hW.alike hK, hD⟩, hS.F ht⟩) hS.2.2 dX12_packet_30
set_option maxHeartbeats 4000000 in
set_option maxRecDepth 100000 in
theorem c_X12_played_ (l : Launch) (dC : Nat → ClassId) (dI : Nat → Nat → Nat) (cy : Nat → ClassId) (h0 h_row h_kept h_isKept h_aside h_eight h_rows h_scales h_dealt h_bytes h_heardRow h_made h_comes h_backs h_fresh : Nat) (sz : Nat) (v1 : Int32) (v2 : Int32) (c_thrown : Int32) (c_nodeS : Int32) (c_nodeD : Int32) (c_pairE : Int32) (c_pairO : Int32) (c_bit : Int32) (c_lag : Int32) (c_lagSum : Int32) (c_row : Nat → Int32) (post : Int32 → Int32 → Prop) (hw : wp_X12_played_ v1 v2 c_thrown c_row post) : Met l yX12_played_ wsX12_played_ ({ frames := 1, cells := 0, slots := 0, locals := 25 }) (PX dC dI cy [.ref h0, .int v1, .int v2] sz (w_X12_played_ h0 h_row h_kept h_isKept h_aside h_eight h_rows h_scales h_dealt h_bytes h_heardRow h_made h_comes h_backs h_fresh cy c_thrown c_nodeS c_nodeD c_pairE c_pairO c_bit c_lag c_lagSum c_row)) (va_Qi (fun (r : Int32) (u : Int32) => post r u) (QX dC dI cy (va_A (w_X12_played_ h0 h_row h_kept h_isKept h_aside h_eight h_rows h_scales h_dealt h_bytes h_heardRow h_made h_comes h_backs h_fresh cy c_thrown c_nodeS c_nodeD c_pairE c_pairO c_bit c_lag c_lagSum c_row) sz) (fun (u : Int32) => w_X12_played_ h0 h_row h_kept h_isKept h_aside h_eight h_rows h_scales h_dealt h_bytes h_heardRow h_made h_comes h_backs h_fresh cy u c_nodeS c_nodeD c_pairE c_pairO c_bit c_lag c_lagSum c_row)) (va_A (w_X12_played_ h0 h_row h_kept h_isKept h_aside h_eight h_rows h_scales h_dealt h_bytes h_heardRow h_made h_comes h_backs h_fresh cy c_thrown c_nodeS c_nodeD c_pairE c_pairO c_bit c_lag c_lagSum c_row) sz)) 0 0 (va_A (w_X12_played_ h0 h_row h_kept h_isKept h_aside h_eight h_rows h_scales h_dealt h_bytes h_heardRow h_made h_comes h_backs h_fresh cy c_thrown c_nodeS c_nodeD c_pairE c_pairO c_bit c_lag c_lagSum c_row) sz) := by
  refine Met.ofW (cc := cX12_played_) (maxL := 3) (ret := (some .int)) (by decide) rfl ?_
  intro p e s m args below meth c s₁ B hml hv
  obtain ⟨rfl, hsz, hP, hK, hD0, hG⟩ := hv
  have hx := B.exec
  have hb := B.bytes
  have hr := B.returns
  have hts := atoms_spec (ws := wsX12_played_) B.pre
  have hown : s.vm.findClass RX12 = some m.cls := findClass_of_methodNamed B.named
  have hlocks := B.notSynchronized
  subst hsz
  have hD := hD0.self (sz := s.heap.size)
  generalize hAe : va_A (w_X12_played_ h0 h_row h_kept h_isKept h_aside h_eight h_rows h_scales h_dealt h_bytes h_heardRow h_made h_comes h_backs h_fresh cy c_thrown c_nodeS c_nodeD c_pairE c_pairO c_bit c_lag c_lagSum c_row) s.heap.size = A at hD ⊢
  have hA : ∀ q : Nat, s.heap.size ≤ q → A q := fun q h => by rw [← hAe]; exact Or.inr h
  have hS : va_S A s.heap s.heap [] := va_S.rf
  have hl := lv_entry ([.ref h0, .int v1, .int v2]) (n := 3) (Nat.le_of_ble_eq_true rfl)
  rw [lg_entry_eq]
  generalize (lg_sl ([.ref h0, .int v1, .int v2]) ++ List.replicate (3 - (lg_sl ([.ref h0, .int v1, .int v2])).length) Slot.unset).toArray = ls at hl ⊢
  replace hl : lv_has ls 3 [(0, .ref h0), (1, .int v1), (2, .int v2)] := hl
  have inX12 : ∀ w ∈ u_ws RX12 TX12 22, w ∈ wsX12_played_ := fun w h => List.mem_cons_of_mem _ (inlX12 w h)
  clear hAe hD0 B
  unfold wp_X12_played_ at hw
  generalize hQe : MQ below _ _ s _ _ _ = Q0
  generalize ([.ref h0, .int v1, .int v2] : List Value).toArray = av at *
  obtain ⟨H, hH⟩ : ∃ H, H = s.heap := ⟨_, rfl⟩
  obtain ⟨locs, hlo⟩ : ∃ L : List Loc, L = [] := ⟨_, rfl⟩
  replace hP : va_P (dC, dI) vwCl (w_X12_played_ h0 h_row h_kept h_isKept h_aside h_eight h_rows h_scales h_dealt h_bytes h_heardRow h_made h_comes h_backs h_fresh cy c_thrown c_nodeS c_nodeD c_pairE c_pairO c_bit c_lag c_lagSum c_row) H := by rw [hH]; exact hP
  replace hS : va_S A s.heap H locs := by rw [hH, hlo]; exact hS
  suffices hgo : W p l e ({ frames := 1, cells := 0, slots := 0, locals := 25 }) s m av below meth c H locs 0 0 Q0 (F0 m 0 ls []) by rw [hH, hlo] at hgo; exact hgo
  clear hH hlo
  refine lv_aload_n hx hb dX12_played__0 rfl (lv_at hl 0 rfl) ?_
  refine lv_iconst (v := 0) hx hb dX12_played__1 (by decide) ?_
  refine va_put (D := (dC, dI)) (ci := 12) (v := .int (0 : Int32)) (ty := .int) (C := RX12) (T := TX12) (N := 22) hx hb hts inX12 tyX12 tyX12_ok nmX12 hown hK hP hD hS 0 rfl rfl 0 (by decide) (hts _ (List.mem_cons_of_mem _ mw_200)) (fun _ h9 => h9) rfl (by decide +kernel) rfl rfl (Nat.le_of_ble_eq_true rfl) dX12_played__2 ?_; clear hP hD hS; clear H locs; intro H locs hP hD hS
  replace hP : va_P (dC, dI) vwCl (w_X12_played_ h0 h_row h_kept h_isKept h_aside h_eight h_rows h_scales h_dealt h_bytes h_heardRow h_made h_comes h_backs h_fresh cy (0 : Int32) c_nodeS c_nodeD c_pairE c_pairO c_bit c_lag c_lagSum c_row) H := hP
  replace hD : va_D A (w_X12_played_ h0 h_row h_kept h_isKept h_aside h_eight h_rows h_scales h_dealt h_bytes h_heardRow h_made h_comes h_backs h_fresh cy (0 : Int32) c_nodeS c_nodeD c_pairE c_pairO c_bit c_lag c_lagSum c_row) := hD
  refine lv_iload_n hx hb dX12_played__5 rfl (lv_at hl 1 rfl) ?_
  refine lv_i2l (v := v1.toInt64) hx hb dX12_played__6 rfl ?_
  refine lv_lconst (v := 0) hx hb dX12_played__7 (by decide) ?_
  refine lv_aload_n hx hb dX12_played__8 rfl (lv_at hl 0 rfl) ?_
  refine va_get (D := (dC, dI)) (ci := 12) (v := .ref h_row) (C := RX12) (T := TX12) (N := 22) hx hb hts inX12 hown hK hP 0 rfl rfl 1 (by decide) (hts _ (List.mem_cons_of_mem _ mw_169)) (fun _ h9 => h9) rfl dX12_played__9 ?_
  refine lv_bipush (v := 52) hx hb dX12_played__12 (by decide) ?_
  refine xiald (k := 52) hx hb hK hP 1 0 rfl rfl (vpL 52 13385 rfl) (by decide) dX12_played__14 ?_
  refine lv_i2l (v := (c_row 52).toInt64) hx hb dX12_played__15 rfl ?_
  refine lv_lconst (v := 1) hx hb dX12_played__16 (by decide) ?_
  refine lv_lsub hx hb dX12_played__17 ?_
  have hPc := pSub (ws' := (w_X12_in cy)) hP [] rfl
  have hDc := dSub (ws' := (w_X12_in cy)) hD [] (by decide) rfl
  have hFc := va_free (wc := (w_X12_in cy)) hD hS hA [] rfl
  refine va_calli (va_runS (As := [.long (v1.toInt64), .long (0 : Int64), .long (((c_row 52).toInt64) - (1 : Int64))]) (rest := []) ⟨hx, hb, hml, hown, hts⟩ (c_X12_in l dC dI cy  H.size (v1.toInt64) (0 : Int64) (((c_row 52).toInt64) - (1 : Int64)) _ hw) (va_cwS 3 hts (goodS mw_207 mw_205 mw_206 mw_5) rfl rfl rfl (by decide +kernel) ⟨Nat.le_of_ble_eq_true rfl, Nat.le_of_ble_eq_true rfl⟩) ⟨PX_blind, PX_pre hPc hK hDc hG⟩ rfl rfl hl.1 rfl (lv_room (Nat.le_of_ble_eq_true rfl)) dX12_played__18 ⟨Nat.zero_le _, Nat.zero_le _⟩) hS (fun q _ h => hFc q h) hFc ?_; clear hw hS; intro r2 _ t H1 locs1 ht hvm hw hB hz1 hk1 hS
  obtain ⟨hP1, -, -⟩ := hB
  rw [ht] at hP1
  replace hP := jC0 hP hD [] [0, 1] rfl hk1 hP1 (w_X12_played_ h0 h_row h_kept h_isKept h_aside h_eight h_rows h_scales h_dealt h_bytes h_heardRow h_made h_comes h_backs h_fresh cy (0 : Int32) c_nodeS c_nodeD c_pairE c_pairO c_bit c_lag c_lagSum c_row) rfl rfl rfl 2 rfl (by decide +kernel); clear hD; obtain ⟨hP, hD⟩ := hP
  replace hP : va_P (dC, dI) vwCl (w_X12_played_ h0 h_row h_kept h_isKept h_aside h_eight h_rows h_scales h_dealt h_bytes h_heardRow h_made h_comes h_backs h_fresh cy (0 : Int32) c_nodeS c_nodeD c_pairE c_pairO c_bit c_lag c_lagSum c_row) H1 := hP
  replace hD : va_D A (w_X12_played_ h0 h_row h_kept h_isKept h_aside h_eight h_rows h_scales h_dealt h_bytes h_heardRow h_made h_comes h_backs h_fresh cy (0 : Int32) c_nodeS c_nodeD c_pairE c_pairO c_bit c_lag c_lagSum c_row) := hD
  clear hPc hDc hFc hP1 hk1 hz1 hvm ht; clear t; clear H locs; obtain ⟨H, hH⟩ : ∃ H, H = H1 := ⟨_, rfl⟩; obtain ⟨locs, hlo⟩ : ∃ L, L = locs1 := ⟨_, rfl⟩; subst hH; subst hlo
  refine W.widen (k := 0) (n := 0) (Nat.le_refl 0) (Nat.le_refl 0) ?_
  refine lv_if_eq (tgt := 64) hx hb dX12_played__21 (by decide) (fun c3 => ?_) (fun c3 => ?_)
  · replace hw := hw.1 c3; clear c3
    refine lv_ldc (v := -2147483648) hx hb hown (hts _ (List.mem_cons_of_mem _ mw_908)) dX12_played__64 ?_
    subst hQe
    exact W.iret (v := (-2147483648 : Int32)) hx hb hr (fun t ht hW => ⟨⟨(-2147483648 : Int32), (0 : Int32), rfl, hw, by rw [ht]; exact hP, va_K.moved hW.alike hK, hD⟩, hS.F ht⟩) hS.2.2 dX12_played__66
  · replace hw := hw.2 c3; clear c3
    refine lv_iload_n hx hb dX12_played__24 rfl (lv_at hl 2 rfl) ?_
    refine lv_i2l (v := v2.toInt64) hx hb dX12_played__25 rfl ?_
    refine lv_lconst (v := 0) hx hb dX12_played__26 (by decide) ?_
    refine lv_ldc2 (v := 6) hx hb hown (hts _ (List.mem_cons_of_mem _ mw_228)) dX12_played__27 ?_
    have hPc := pSub (ws' := (w_X12_in cy)) hP [] rfl
    have hDc := dSub (ws' := (w_X12_in cy)) hD [] (by decide) rfl
    have hFc := va_free (wc := (w_X12_in cy)) hD hS hA [] rfl
    refine va_calli (va_runS (As := [.long (v2.toInt64), .long (0 : Int64), .long (6 : Int64)]) (rest := []) ⟨hx, hb, hml, hown, hts⟩ (c_X12_in l dC dI cy  H.size (v2.toInt64) (0 : Int64) (6 : Int64) _ hw) (va_cwS 3 hts (goodS mw_207 mw_205 mw_206 mw_5) rfl rfl rfl (by decide +kernel) ⟨Nat.le_of_ble_eq_true rfl, Nat.le_of_ble_eq_true rfl⟩) ⟨PX_blind, PX_pre hPc hK hDc hG⟩ rfl rfl hl.1 rfl (lv_room (Nat.le_of_ble_eq_true rfl)) dX12_played__30 ⟨Nat.zero_le _, Nat.zero_le _⟩) hS (fun q _ h => hFc q h) hFc ?_; clear hw hS; intro r4 _ t H1 locs1 ht hvm hw hB hz1 hk1 hS
    obtain ⟨hP1, -, -⟩ := hB
    rw [ht] at hP1
    replace hP := jC0 hP hD [] [0, 1] rfl hk1 hP1 (w_X12_played_ h0 h_row h_kept h_isKept h_aside h_eight h_rows h_scales h_dealt h_bytes h_heardRow h_made h_comes h_backs h_fresh cy (0 : Int32) c_nodeS c_nodeD c_pairE c_pairO c_bit c_lag c_lagSum c_row) rfl rfl rfl 2 rfl (by decide +kernel); clear hD; obtain ⟨hP, hD⟩ := hP
    replace hP : va_P (dC, dI) vwCl (w_X12_played_ h0 h_row h_kept h_isKept h_aside h_eight h_rows h_scales h_dealt h_bytes h_heardRow h_made h_comes h_backs h_fresh cy (0 : Int32) c_nodeS c_nodeD c_pairE c_pairO c_bit c_lag c_lagSum c_row) H1 := hP
    replace hD : va_D A (w_X12_played_ h0 h_row h_kept h_isKept h_aside h_eight h_rows h_scales h_dealt h_bytes h_heardRow h_made h_comes h_backs h_fresh cy (0 : Int32) c_nodeS c_nodeD c_pairE c_pairO c_bit c_lag c_lagSum c_row) := hD
    clear hPc hDc hFc hP1 hk1 hz1 hvm ht; clear t; clear H locs; obtain ⟨H, hH⟩ : ∃ H, H = H1 := ⟨_, rfl⟩; obtain ⟨locs, hlo⟩ : ∃ L, L = locs1 := ⟨_, rfl⟩; subst hH; subst hlo
    refine W.widen (k := 0) (n := 0) (Nat.le_refl 0) (Nat.le_refl 0) ?_
    refine lv_if_eq (tgt := 64) hx hb dX12_played__33 (by decide) (fun c5 => ?_) (fun c5 => ?_)
    · replace hw := hw.1 c5; clear c5
      refine lv_ldc (v := -2147483648) hx hb hown (hts _ (List.mem_cons_of_mem _ mw_908)) dX12_played__64 ?_
      subst hQe
      exact W.iret (v := (-2147483648 : Int32)) hx hb hr (fun t ht hW => ⟨⟨(-2147483648 : Int32), (0 : Int32), rfl, hw, by rw [ht]; exact hP, va_K.moved hW.alike hK, hD⟩, hS.F ht⟩) hS.2.2 dX12_played__66
    · replace hw := hw.2 c5; clear c5
      refine lv_aload_n hx hb dX12_played__36 rfl (lv_at hl 0 rfl) ?_
      refine va_get (D := (dC, dI)) (ci := 12) (v := .ref h_row) (C := RX12) (T := TX12) (N := 22) hx hb hts inX12 hown hK hP 0 rfl rfl 1 (by decide) (hts _ (List.mem_cons_of_mem _ mw_169)) (fun _ h9 => h9) rfl dX12_played__37 ?_
      refine lv_sipush (v := 3257) hx hb dX12_played__40 (by decide) ?_
      refine lv_bipush (v := 7) hx hb dX12_played__43 (by decide) ?_
      refine lv_aload_n hx hb dX12_played__45 rfl (lv_at hl 0 rfl) ?_
      refine va_get (D := (dC, dI)) (ci := 12) (v := .ref h_row) (C := RX12) (T := TX12) (N := 22) hx hb hts inX12 hown hK hP 0 rfl rfl 1 (by decide) (hts _ (List.mem_cons_of_mem _ mw_169)) (fun _ h9 => h9) rfl dX12_played__46 ?_
      refine lv_bipush (v := 52) hx hb dX12_played__49 (by decide) ?_
      refine xiald (k := 52) hx hb hK hP 1 0 rfl rfl (vpL 52 13385 rfl) (by decide) dX12_played__51 ?_
      refine lv_iconst (v := 1) hx hb dX12_played__52 (by decide) ?_
      refine lv_isub hx hb dX12_played__53 ?_
      refine lv_iload_n hx hb dX12_played__54 rfl (lv_at hl 1 rfl) ?_
      refine lv_isub hx hb dX12_played__55 ?_
      refine lv_imul hx hb dX12_played__56 ?_
      refine lv_iadd hx hb dX12_played__57 ?_
      refine lv_iload_n hx hb dX12_played__58 rfl (lv_at hl 2 rfl) ?_
      refine lv_iadd hx hb dX12_played__59 ?_
      obtain ⟨h7, hw⟩ := hw
      refine xiald (k := (((3257 : Int32) + ((7 : Int32) * (((c_row 52) - (1 : Int32)) - v1))) + v2).toNatClampNeg) hx hb hK hP 1 0 rfl rfl h7 rfl dX12_played__60 ?_
      refine lv_goto (tgt := 66) hx hb dX12_played__61 (by decide) ?_
      subst hQe
      exact W.iret (v := c_row (((3257 : Int32) + ((7 : Int32) * (((c_row 52) - (1 : Int32)) - v1))) + v2).toNatClampNeg) hx hb hr (fun t ht hW => ⟨⟨(c_row (((3257 : Int32) + ((7 : Int32) * (((c_row 52) - (1 : Int32)) - v1))) + v2).toNatClampNeg), (0 : Int32), rfl, hw, by rw [ht]; exact hP, va_K.moved hW.alike hK, hD⟩, hS.F ht⟩) hS.2.2 dX12_played__66
