set_option maxHeartbeats 4000000 in
set_option maxRecDepth 100000 in
theorem c_X11_packet (l : Launch) (dC : Nat → ClassId) (dI : Nat → Nat → Nat) (cy : Nat → ClassId) (h0 h_now h_kept h_paper h_spoilt h_prism h_recent h_bandsOfBlock h_now_numbers h_now_book h_now_buffer h_now_coder h_now_sender h_now_player h_now_book_records h_now_book_delays : Nat) (sz : Nat) (v1 : Int32) (v2 : Int32) (c_later : Option Nat) (c_now_book_records : Nat → Int32) (post : Int32 → Prop) (hw : wp_X11_packet v1 v2 c_now_book_records post) : Met l yX11_packet wsX11_packet ({ frames := 1, cells := 0, slots := 0, locals := 22 }) (PX dC dI cy [.ref h0, .int v1, .int v2] sz (w_X11_packet h0 h_now h_kept h_paper h_spoilt h_prism h_recent h_bandsOfBlock h_now_numbers h_now_book h_now_buffer h_now_coder h_now_sender h_now_player h_now_book_records h_now_book_delays cy c_later c_now_book_records)) (va_Qi (fun (r : Int32) (u : Unit) => post r) (QX dC dI cy (va_A (w_X11_packet h0 h_now h_kept h_paper h_spoilt h_prism h_recent h_bandsOfBlock h_now_numbers h_now_book h_now_buffer h_now_coder h_now_sender h_now_player h_now_book_records h_now_book_delays cy c_later c_now_book_records) sz) (fun (u : Unit) => w_X11_packet h0 h_now h_kept h_paper h_spoilt h_prism h_recent h_bandsOfBlock h_now_numbers h_now_book h_now_buffer h_now_coder h_now_sender h_now_player h_now_book_records h_now_book_delays cy c_later c_now_book_records)) (va_A (w_X11_packet h0 h_now h_kept h_paper h_spoilt h_prism h_recent h_bandsOfBlock h_now_numbers h_now_book h_now_buffer h_now_coder h_now_sender h_now_player h_now_book_records h_now_book_delays cy c_later c_now_book_records) sz)) 0 0 (va_A (w_X11_packet h0 h_now h_kept h_paper h_spoilt h_prism h_recent h_bandsOfBlock h_now_numbers h_now_book h_now_buffer h_now_coder h_now_sender h_now_player h_now_book_records h_now_book_delays cy c_later c_now_book_records) sz) := by
  refine Met.ofW (cc := cX11_packet) (maxL := 3) (ret := (some .int)) (by decide) rfl ?_
  intro p e s m args below meth c s₁ B hml hv
  obtain ⟨rfl, hsz, hP, hK, hD0, hG⟩ := hv
  have hx := B.exec
  have hb := B.bytes
  have hr := B.returns
  have hts := atoms_spec (ws := wsX11_packet) B.pre
  have hown : s.vm.findClass RX11 = some m.cls := findClass_of_methodNamed B.named
  have hlocks := B.notSynchronized
  subst hsz
  have hD := hD0.self (sz := s.heap.size)
  generalize hAe : va_A (w_X11_packet h0 h_now h_kept h_paper h_spoilt h_prism h_recent h_bandsOfBlock h_now_numbers h_now_book h_now_buffer h_now_coder h_now_sender h_now_player h_now_book_records h_now_book_delays cy c_later c_now_book_records) s.heap.size = A at hD ⊢
  have hA : ∀ q : Nat, s.heap.size ≤ q → A q := fun q h => by rw [← hAe]; exact Or.inr h
  have hS : va_S A s.heap s.heap [] := va_S.rf
  have hl := lv_entry ([.ref h0, .int v1, .int v2]) (n := 3) (Nat.le_of_ble_eq_true rfl)
  rw [lg_entry_eq]
  generalize (lg_sl ([.ref h0, .int v1, .int v2]) ++ List.replicate (3 - (lg_sl ([.ref h0, .int v1, .int v2])).length) Slot.unset).toArray = ls at hl ⊢
  replace hl : lv_has ls 3 [(0, .ref h0), (1, .int v1), (2, .int v2)] := hl
  have inX10 : ∀ w ∈ u_ws RX10 TX10 6, w ∈ wsX11_packet := fun w h => List.mem_cons_of_mem _ (inlX10 w h)
  have inX11 : ∀ w ∈ u_ws RX11 TX11 8, w ∈ wsX11_packet := fun w h => List.mem_cons_of_mem _ (inlX11 w h)
  clear hAe hD0 B
  unfold wp_X11_packet at hw
  generalize hQe : MQ below _ _ s _ _ _ = Q0
  generalize ([.ref h0, .int v1, .int v2] : List Value).toArray = av at *
  obtain ⟨H, hH⟩ : ∃ H, H = s.heap := ⟨_, rfl⟩
  obtain ⟨locs, hlo⟩ : ∃ L : List Loc, L = [] := ⟨_, rfl⟩
  replace hP : va_P (dC, dI) vwCl (w_X11_packet h0 h_now h_kept h_paper h_spoilt h_prism h_recent h_bandsOfBlock h_now_numbers h_now_book h_now_buffer h_now_coder h_now_sender h_now_player h_now_book_records h_now_book_delays cy c_later c_now_book_records) H := by rw [hH]; exact hP
  replace hS : va_S A s.heap H locs := by rw [hH, hlo]; exact hS
  suffices hgo : W p l e ({ frames := 1, cells := 0, slots := 0, locals := 22 }) s m av below meth c H locs 0 0 Q0 (F0 m 0 ls []) by rw [hH, hlo] at hgo; exact hgo
  clear hH hlo
  refine lv_iload_n hx hb dX11_packet_0 rfl (lv_at hl 1 rfl) ?_
  refine lv_iconst (v := 0) hx hb dX11_packet_1 (by decide) ?_
  refine lv_sipush (v := 2499) hx hb dX11_packet_2 (by decide) ?_
  have hPc := pSub (ws' := (w_X11_within cy)) hP [] rfl
  have hDc := dSub (ws' := (w_X11_within cy)) hD [] (by decide) rfl
  have hFc := va_free (wc := (w_X11_within cy)) hD hS hA [] rfl
  refine va_calli (va_runS (As := [.int v1, .int (0 : Int32), .int (2499 : Int32)]) (rest := []) ⟨hx, hb, hml, hown, hts⟩ (c_X11_within l dC dI cy  H.size v1 (0 : Int32) (2499 : Int32) _ hw) (va_cwS 3 hts (goodS mw_195 mw_193 mw_194 mw_2) rfl rfl rfl (by decide +kernel) ⟨Nat.le_of_ble_eq_true rfl, Nat.le_of_ble_eq_true rfl⟩) ⟨PX_blind, PX_pre hPc hK hDc hG⟩ rfl rfl hl.1 rfl (lv_room (Nat.le_of_ble_eq_true rfl)) dX11_packet_5 ⟨Nat.zero_le _, Nat.zero_le _⟩) hS (fun q _ h => hFc q h) hFc ?_; clear hw hS; intro r1 _ t H1 locs1 ht hvm hw hB hz1 hk1 hS
  obtain ⟨hP1, -, -⟩ := hB
  rw [ht] at hP1
  replace hP := jC0 hP hD [] [0, 1, 2, 3] rfl hk1 hP1 (w_X11_packet h0 h_now h_kept h_paper h_spoilt h_prism h_recent h_bandsOfBlock h_now_numbers h_now_book h_now_buffer h_now_coder h_now_sender h_now_player h_now_book_records h_now_book_delays cy c_later c_now_book_records) rfl rfl rfl 4 rfl (by decide +kernel); clear hD; obtain ⟨hP, hD⟩ := hP
  replace hP : va_P (dC, dI) vwCl (w_X11_packet h0 h_now h_kept h_paper h_spoilt h_prism h_recent h_bandsOfBlock h_now_numbers h_now_book h_now_buffer h_now_coder h_now_sender h_now_player h_now_book_records h_now_book_delays cy c_later c_now_book_records) H1 := hP
  replace hD : va_D A (w_X11_packet h0 h_now h_kept h_paper h_spoilt h_prism h_recent h_bandsOfBlock h_now_numbers h_now_book h_now_buffer h_now_coder h_now_sender h_now_player h_now_book_records h_now_book_delays cy c_later c_now_book_records) := hD
  clear hPc hDc hFc hP1 hk1 hz1 hvm ht; clear t; clear H locs; obtain ⟨H, hH⟩ : ∃ H, H = H1 := ⟨_, rfl⟩; obtain ⟨locs, hlo⟩ : ∃ L, L = locs1 := ⟨_, rfl⟩; subst hH; subst hlo
  refine W.widen (k := 0) (n := 0) (Nat.le_refl 0) (Nat.le_refl 0) ?_
  refine lv_if_ne (tgt := 13) hx hb dX11_packet_8 (by decide) (fun c2 => ?_) (fun c2 => ?_)
  · replace hw := hw.2 c2; clear c2
    refine lv_iload_n hx hb dX11_packet_13 rfl (lv_at hl 2 rfl) ?_
    by_cases c3 : v2 = 0
    · replace hw := hw.1 c3
      refine lv_tableIn (tgt := 44) hx hb dX11_packet_14 (by rw [c3]; decide) (by rw [c3]; decide) (by rw [c3]; rfl) (by decide) ?_
      refine lv_aload_n hx hb dX11_packet_44 rfl (lv_at hl 0 rfl) ?_
      refine va_get (D := (dC, dI)) (ci := 11) (v := .ref h_now) (C := RX11) (T := TX11) (N := 8) hx hb hts inX11 hown hK hP 0 rfl rfl 0 (by decide) (hts _ (List.mem_cons_of_mem _ mw_15)) (fun _ h9 => h9) rfl dX11_packet_45 ?_
      refine va_get (D := (dC, dI)) (ci := 10) (v := .ref h_now_book) (C := RX10) (T := TX10) (N := 6) hx hb hts inX10 hown hK hP 1 rfl rfl 1 (by decide) (hts _ (List.mem_cons_of_mem _ mw_1135)) (fun _ h9 => h9) rfl dX11_packet_48 ?_
      refine lv_iload_n hx hb dX11_packet_51 rfl (lv_at hl 1 rfl) ?_
      have hPc := pSub (ws' := (w_X0_status h_now_book h_now_book_records h_now_book_delays cy c_now_book_records)) hP [2, 3] rfl
      have hDc := dSub (ws' := (w_X0_status h_now_book h_now_book_records h_now_book_delays cy c_now_book_records)) hD [2, 3] (by decide) rfl
      have hFc := va_free (wc := (w_X0_status h_now_book h_now_book_records h_now_book_delays cy c_now_book_records)) hD hS hA [2, 3] rfl
      refine va_calli (va_runV (As := [.int v1]) (rest := []) ⟨hx, hb, hml, hown, hts⟩ (c_X0_status l dC dI cy h_now_book h_now_book_records h_now_book_delays H.size v1 c_now_book_records _ hw) (cwV 1 hts (goodV mw_1139 mw_1136 mw_1137 mw_1138 mw_40) rfl rfl rfl (by decide +kernel) ⟨Nat.le_of_ble_eq_true rfl, Nat.le_of_ble_eq_true rfl⟩) ⟨PX_blind, va_recv hK hPc (ci := 0) (q0 := 0) rfl rfl, PX_pre hPc hK hDc hG⟩ rfl rfl hl.1 rfl (lv_room (Nat.le_of_ble_eq_true rfl)) dX11_packet_52 ⟨Nat.zero_le _, Nat.zero_le _⟩) hS (fun q _ h => hFc q h) hFc ?_; clear hw hS; intro r4 _ t H1 locs1 ht hvm hw hB hz1 hk1 hS
      obtain ⟨hP1, -, -⟩ := hB
      rw [ht] at hP1
      replace hP := jC0 hP hD [2, 3] [0, 1] rfl hk1 hP1 (w_X11_packet h0 h_now h_kept h_paper h_spoilt h_prism h_recent h_bandsOfBlock h_now_numbers h_now_book h_now_buffer h_now_coder h_now_sender h_now_player h_now_book_records h_now_book_delays cy c_later c_now_book_records) rfl rfl rfl 4 rfl (by decide +kernel); clear hD; obtain ⟨hP, hD⟩ := hP
      replace hP : va_P (dC, dI) vwCl (w_X11_packet h0 h_now h_kept h_paper h_spoilt h_prism h_recent h_bandsOfBlock h_now_numbers h_now_book h_now_buffer h_now_coder h_now_sender h_now_player h_now_book_records h_now_book_delays cy c_later c_now_book_records) H1 := hP
      replace hD : va_D A (w_X11_packet h0 h_now h_kept h_paper h_spoilt h_prism h_recent h_bandsOfBlock h_now_numbers h_now_book h_now_buffer h_now_coder h_now_sender h_now_player h_now_book_records h_now_book_delays cy c_later c_now_book_records) := hD
      clear hPc hDc hFc hP1 hk1 hz1 hvm ht; clear t; clear H locs; obtain ⟨H, hH⟩ : ∃ H, H = H1 := ⟨_, rfl⟩; obtain ⟨locs, hlo⟩ : ∃ L, L = locs1 := ⟨_, rfl⟩; subst hH; subst hlo
      refine W.widen (k := 0) (n := 0) (Nat.le_refl 0) (Nat.le_refl 0) ?_
      subst hQe
      exact W.iret (v := r4) hx hb hr (fun t ht hW => ⟨⟨r4, (), rfl, hw, by rw [ht]; exact hP, va_K.moved hW.alike hK, hD⟩, hS.F ht⟩) hS.2.2 dX11_packet_55
    · skip
      by_cases c5 : v2 = 1
      · replace hw := hw.2.1 c5
        refine lv_tableIn (tgt := 56) hx hb dX11_packet_14 (by rw [c5]; decide) (by rw [c5]; decide) (by rw [c5]; rfl) (by decide) ?_
        refine lv_aload_n hx hb dX11_packet_56 rfl (lv_at hl 0 rfl) ?_
        refine va_get (D := (dC, dI)) (ci := 11) (v := .ref h_now) (C := RX11) (T := TX11) (N := 8) hx hb hts inX11 hown hK hP 0 rfl rfl 0 (by decide) (hts _ (List.mem_cons_of_mem _ mw_15)) (fun _ h9 => h9) rfl dX11_packet_57 ?_
        refine va_get (D := (dC, dI)) (ci := 10) (v := .ref h_now_book) (C := RX10) (T := TX10) (N := 6) hx hb hts inX10 hown hK hP 1 rfl rfl 1 (by decide) (hts _ (List.mem_cons_of_mem _ mw_1135)) (fun _ h9 => h9) rfl dX11_packet_60 ?_
        refine lv_iload_n hx hb dX11_packet_63 rfl (lv_at hl 1 rfl) ?_
        have hPc := pSub (ws' := (w_X0_sentPieces h_now_book h_now_book_records h_now_book_delays cy c_now_book_records)) hP [2, 3] rfl
        have hDc := dSub (ws' := (w_X0_sentPieces h_now_book h_now_book_records h_now_book_delays cy c_now_book_records)) hD [2, 3] (by decide) rfl
        have hFc := va_free (wc := (w_X0_sentPieces h_now_book h_now_book_records h_now_book_delays cy c_now_book_records)) hD hS hA [2, 3] rfl
        refine va_calli (va_runV (As := [.int v1]) (rest := []) ⟨hx, hb, hml, hown, hts⟩ (c_X0_sentPieces l dC dI cy h_now_book h_now_book_records h_now_book_delays H.size v1 c_now_book_records _ hw) (cwV 1 hts (goodV mw_1143 mw_1140 mw_1141 mw_1142 mw_40) rfl rfl rfl (by decide +kernel) ⟨Nat.le_of_ble_eq_true rfl, Nat.le_of_ble_eq_true rfl⟩) ⟨PX_blind, va_recv hK hPc (ci := 0) (q0 := 0) rfl rfl, PX_pre hPc hK hDc hG⟩ rfl rfl hl.1 rfl (lv_room (Nat.le_of_ble_eq_true rfl)) dX11_packet_64 ⟨Nat.zero_le _, Nat.zero_le _⟩) hS (fun q _ h => hFc q h) hFc ?_; clear hw hS; intro r6 _ t H1 locs1 ht hvm hw hB hz1 hk1 hS
        obtain ⟨hP1, -, -⟩ := hB
        rw [ht] at hP1
        replace hP := jC0 hP hD [2, 3] [0, 1] rfl hk1 hP1 (w_X11_packet h0 h_now h_kept h_paper h_spoilt h_prism h_recent h_bandsOfBlock h_now_numbers h_now_book h_now_buffer h_now_coder h_now_sender h_now_player h_now_book_records h_now_book_delays cy c_later c_now_book_records) rfl rfl rfl 4 rfl (by decide +kernel); clear hD; obtain ⟨hP, hD⟩ := hP
        replace hP : va_P (dC, dI) vwCl (w_X11_packet h0 h_now h_kept h_paper h_spoilt h_prism h_recent h_bandsOfBlock h_now_numbers h_now_book h_now_buffer h_now_coder h_now_sender h_now_player h_now_book_records h_now_book_delays cy c_later c_now_book_records) H1 := hP
        replace hD : va_D A (w_X11_packet h0 h_now h_kept h_paper h_spoilt h_prism h_recent h_bandsOfBlock h_now_numbers h_now_book h_now_buffer h_now_coder h_now_sender h_now_player h_now_book_records h_now_book_delays cy c_later c_now_book_records) := hD
        clear hPc hDc hFc hP1 hk1 hz1 hvm ht; clear t; clear H locs; obtain ⟨H, hH⟩ : ∃ H, H = H1 := ⟨_, rfl⟩; obtain ⟨locs, hlo⟩ : ∃ L, L = locs1 := ⟨_, rfl⟩; subst hH; subst hlo
        refine W.widen (k := 0) (n := 0) (Nat.le_refl 0) (Nat.le_refl 0) ?_
        subst hQe
        exact W.iret (v := r6) hx hb hr (fun t ht hW => ⟨⟨r6, (), rfl, hw, by rw [ht]; exact hP, va_K.moved hW.alike hK, hD⟩, hS.F ht⟩) hS.2.2 dX11_packet_67
      · skip
        by_cases c7 : v2 = 2
        · replace hw := hw.2.2.1 c7
          refine lv_tableIn (tgt := 68) hx hb dX11_packet_14 (by rw [c7]; decide) (by rw [c7]; decide) (by rw [c7]; rfl) (by decide) ?_
          refine lv_aload_n hx hb dX11_packet_68 rfl (lv_at hl 0 rfl) ?_
          refine va_get (D := (dC, dI)) (ci := 11) (v := .ref h_now) (C := RX11) (T := TX11) (N := 8) hx hb hts inX11 hown hK hP 0 rfl rfl 0 (by decide) (hts _ (List.mem_cons_of_mem _ mw_15)) (fun _ h9 => h9) rfl dX11_packet_69 ?_
          refine va_get (D := (dC, dI)) (ci := 10) (v := .ref h_now_book) (C := RX10) (T := TX10) (N := 6) hx hb hts inX10 hown hK hP 1 rfl rfl 1 (by decide) (hts _ (List.mem_cons_of_mem _ mw_1135)) (fun _ h9 => h9) rfl dX11_packet_72 ?_
          refine lv_iload_n hx hb dX11_packet_75 rfl (lv_at hl 1 rfl) ?_
          have hPc := pSub (ws' := (w_X0_howHeard h_now_book h_now_book_records h_now_book_delays cy c_now_book_records)) hP [2, 3] rfl
          have hDc := dSub (ws' := (w_X0_howHeard h_now_book h_now_book_records h_now_book_delays cy c_now_book_records)) hD [2, 3] (by decide) rfl
          have hFc := va_free (wc := (w_X0_howHeard h_now_book h_now_book_records h_now_book_delays cy c_now_book_records)) hD hS hA [2, 3] rfl
          refine va_calli (va_runV (As := [.int v1]) (rest := []) ⟨hx, hb, hml, hown, hts⟩ (c_X0_howHeard l dC dI cy h_now_book h_now_book_records h_now_book_delays H.size v1 c_now_book_records _ hw) (cwV 1 hts (goodV mw_1147 mw_1144 mw_1145 mw_1146 mw_40) rfl rfl rfl (by decide +kernel) ⟨Nat.le_of_ble_eq_true rfl, Nat.le_of_ble_eq_true rfl⟩) ⟨PX_blind, va_recv hK hPc (ci := 0) (q0 := 0) rfl rfl, PX_pre hPc hK hDc hG⟩ rfl rfl hl.1 rfl (lv_room (Nat.le_of_ble_eq_true rfl)) dX11_packet_76 ⟨Nat.zero_le _, Nat.zero_le _⟩) hS (fun q _ h => hFc q h) hFc ?_; clear hw hS; intro r8 _ t H1 locs1 ht hvm hw hB hz1 hk1 hS
          obtain ⟨hP1, -, -⟩ := hB
          rw [ht] at hP1
          replace hP := jC0 hP hD [2, 3] [0, 1] rfl hk1 hP1 (w_X11_packet h0 h_now h_kept h_paper h_spoilt h_prism h_recent h_bandsOfBlock h_now_numbers h_now_book h_now_buffer h_now_coder h_now_sender h_now_player h_now_book_records h_now_book_delays cy c_later c_now_book_records) rfl rfl rfl 4 rfl (by decide +kernel); clear hD; obtain ⟨hP, hD⟩ := hP
          replace hP : va_P (dC, dI) vwCl (w_X11_packet h0 h_now h_kept h_paper h_spoilt h_prism h_recent h_bandsOfBlock h_now_numbers h_now_book h_now_buffer h_now_coder h_now_sender h_now_player h_now_book_records h_now_book_delays cy c_later c_now_book_records) H1 := hP
          replace hD : va_D A (w_X11_packet h0 h_now h_kept h_paper h_spoilt h_prism h_recent h_bandsOfBlock h_now_numbers h_now_book h_now_buffer h_now_coder h_now_sender h_now_player h_now_book_records h_now_book_delays cy c_later c_now_book_records) := hD
          clear hPc hDc hFc hP1 hk1 hz1 hvm ht; clear t; clear H locs; obtain ⟨H, hH⟩ : ∃ H, H = H1 := ⟨_, rfl⟩; obtain ⟨locs, hlo⟩ : ∃ L, L = locs1 := ⟨_, rfl⟩; subst hH; subst hlo
          refine W.widen (k := 0) (n := 0) (Nat.le_refl 0) (Nat.le_refl 0) ?_
          subst hQe
          exact W.iret (v := r8) hx hb hr (fun t ht hW => ⟨⟨r8, (), rfl, hw, by rw [ht]; exact hP, va_K.moved hW.alike hK, hD⟩, hS.F ht⟩) hS.2.2 dX11_packet_79
        · skip
          by_cases c9 : v2 = 3
          · replace hw := hw.2.2.2.1 c9
            refine lv_tableIn (tgt := 80) hx hb dX11_packet_14 (by rw [c9]; decide) (by rw [c9]; decide) (by rw [c9]; rfl) (by decide) ?_
            refine lv_aload_n hx hb dX11_packet_80 rfl (lv_at hl 0 rfl) ?_
            refine va_get (D := (dC, dI)) (ci := 11) (v := .ref h_now) (C := RX11) (T := TX11) (N := 8) hx hb hts inX11 hown hK hP 0 rfl rfl 0 (by decide) (hts _ (List.mem_cons_of_mem _ mw_15)) (fun _ h9 => h9) rfl dX11_packet_81 ?_
            refine va_get (D := (dC, dI)) (ci := 10) (v := .ref h_now_book) (C := RX10) (T := TX10) (N := 6) hx hb hts inX10 hown hK hP 1 rfl rfl 1 (by decide) (hts _ (List.mem_cons_of_mem _ mw_1135)) (fun _ h9 => h9) rfl dX11_packet_84 ?_
            refine lv_iload_n hx hb dX11_packet_87 rfl (lv_at hl 1 rfl) ?_
            have hPc := pSub (ws' := (w_X0_arrivalSlot h_now_book h_now_book_records h_now_book_delays cy c_now_book_records)) hP [2, 3] rfl
            have hDc := dSub (ws' := (w_X0_arrivalSlot h_now_book h_now_book_records h_now_book_delays cy c_now_book_records)) hD [2, 3] (by decide) rfl
            have hFc := va_free (wc := (w_X0_arrivalSlot h_now_book h_now_book_records h_now_book_delays cy c_now_book_records)) hD hS hA [2, 3] rfl
            refine va_calli (va_runV (As := [.int v1]) (rest := []) ⟨hx, hb, hml, hown, hts⟩ (c_X0_arrivalSlot l dC dI cy h_now_book h_now_book_records h_now_book_delays H.size v1 c_now_book_records _ hw) (cwV 1 hts (goodV mw_1151 mw_1148 mw_1149 mw_1150 mw_40) rfl rfl rfl (by decide +kernel) ⟨Nat.le_of_ble_eq_true rfl, Nat.le_of_ble_eq_true rfl⟩) ⟨PX_blind, va_recv hK hPc (ci := 0) (q0 := 0) rfl rfl, PX_pre hPc hK hDc hG⟩ rfl rfl hl.1 rfl (lv_room (Nat.le_of_ble_eq_true rfl)) dX11_packet_88 ⟨Nat.zero_le _, Nat.zero_le _⟩) hS (fun q _ h => hFc q h) hFc ?_; clear hw hS; intro r10 _ t H1 locs1 ht hvm hw hB hz1 hk1 hS
            obtain ⟨hP1, -, -⟩ := hB
            rw [ht] at hP1
            replace hP := jC0 hP hD [2, 3] [0, 1] rfl hk1 hP1 (w_X11_packet h0 h_now h_kept h_paper h_spoilt h_prism h_recent h_bandsOfBlock h_now_numbers h_now_book h_now_buffer h_now_coder h_now_sender h_now_player h_now_book_records h_now_book_delays cy c_later c_now_book_records) rfl rfl rfl 4 rfl (by decide +kernel); clear hD; obtain ⟨hP, hD⟩ := hP
            replace hP : va_P (dC, dI) vwCl (w_X11_packet h0 h_now h_kept h_paper h_spoilt h_prism h_recent h_bandsOfBlock h_now_numbers h_now_book h_now_buffer h_now_coder h_now_sender h_now_player h_now_book_records h_now_book_delays cy c_later c_now_book_records) H1 := hP
            replace hD : va_D A (w_X11_packet h0 h_now h_kept h_paper h_spoilt h_prism h_recent h_bandsOfBlock h_now_numbers h_now_book h_now_buffer h_now_coder h_now_sender h_now_player h_now_book_records h_now_book_delays cy c_later c_now_book_records) := hD
            clear hPc hDc hFc hP1 hk1 hz1 hvm ht; clear t; clear H locs; obtain ⟨H, hH⟩ : ∃ H, H = H1 := ⟨_, rfl⟩; obtain ⟨locs, hlo⟩ : ∃ L, L = locs1 := ⟨_, rfl⟩; subst hH; subst hlo
            refine W.widen (k := 0) (n := 0) (Nat.le_refl 0) (Nat.le_refl 0) ?_
            subst hQe
            exact W.iret (v := r10) hx hb hr (fun t ht hW => ⟨⟨r10, (), rfl, hw, by rw [ht]; exact hP, va_K.moved hW.alike hK, hD⟩, hS.F ht⟩) hS.2.2 dX11_packet_91
          · skip
            replace hw := hw.2.2.2.2 c3 c5 c7 c9
            refine lv_tableOut (tgt := 92) hx hb dX11_packet_14 (by have e0 := sw_ne (n := 0) c3 (by decide); have e1 := sw_ne (n := 1) c5 (by decide); have e2 := sw_ne (n := 2) c7 (by decide); have e3 := sw_ne (n := 3) c9 (by decide); omega) (by decide) ?_
            refine lv_iconst (v := -1) hx hb dX11_packet_92 (by decide) ?_
            subst hQe
            exact W.iret (v := (-1 : Int32)) hx hb hr (fun t ht hW => ⟨⟨(-1 : Int32), (), rfl, hw, by rw [ht]; exact hP, va_K.moved hW.alike hK, hD⟩, hS.F ht⟩) hS.2.2 dX11_packet_93
  · replace hw := hw.1 c2; clear c2
    refine lv_iconst (v := -1) hx hb dX11_packet_11 (by decide) ?_
    subst hQe
    exact W.iret (v := (-1 : Int32)) hx hb hr (fun t ht hW => ⟨⟨(-1 : Int32), (), rfl, hw, by rw [ht]; exact hP, va_K.moved hW.alike hK, hD⟩, hS.F ht⟩) hS.2.2 dX11_packet_12
set_option maxHeartbeats 4000000 in
set_option maxRecDepth 100000 in
theorem c_X11_played (l : Launch) (dC : Nat → ClassId) (dI : Nat → Nat → Nat) (cy : Nat → ClassId) (h0 h_now h_kept h_paper h_spoilt h_prism h_recent h_bandsOfBlock h_now_numbers h_now_book h_now_buffer h_now_coder h_now_sender h_now_player h_now_player_ears h_now_player_frame h_now_player_records : Nat) (sz : Nat) (v1 : Int32) (v2 : Int32) (c_later : Option Nat) (c_now_numbers : Nat → Int32) (c_now_player_records : Nat → Int32) (post : Int32 → Prop) (hw : wp_X11_played v1 v2 c_now_numbers c_now_player_records post) : Met l yX11_played wsX11_played ({ frames := 3, cells := 0, slots := 0, locals := 64 }) (PX dC dI cy [.ref h0, .int v1, .int v2] sz (w_X11_played h0 h_now h_kept h_paper h_spoilt h_prism h_recent h_bandsOfBlock h_now_numbers h_now_book h_now_buffer h_now_coder h_now_sender h_now_player h_now_player_ears h_now_player_frame h_now_player_records cy c_later c_now_numbers c_now_player_records)) (va_Qi (fun (r : Int32) (u : Unit) => post r) (QX dC dI cy (va_A (w_X11_played h0 h_now h_kept h_paper h_spoilt h_prism h_recent h_bandsOfBlock h_now_numbers h_now_book h_now_buffer h_now_coder h_now_sender h_now_player h_now_player_ears h_now_player_frame h_now_player_records cy c_later c_now_numbers c_now_player_records) sz) (fun (u : Unit) => w_X11_played h0 h_now h_kept h_paper h_spoilt h_prism h_recent h_bandsOfBlock h_now_numbers h_now_book h_now_buffer h_now_coder h_now_sender h_now_player h_now_player_ears h_now_player_frame h_now_player_records cy c_later c_now_numbers c_now_player_records)) (va_A (w_X11_played h0 h_now h_kept h_paper h_spoilt h_prism h_recent h_bandsOfBlock h_now_numbers h_now_book h_now_buffer h_now_coder h_now_sender h_now_player h_now_player_ears h_now_player_frame h_now_player_records cy c_later c_now_numbers c_now_player_records) sz)) 0 0 (va_A (w_X11_played h0 h_now h_kept h_paper h_spoilt h_prism h_recent h_bandsOfBlock h_now_numbers h_now_book h_now_buffer h_now_coder h_now_sender h_now_player h_now_player_ears h_now_player_frame h_now_player_records cy c_later c_now_numbers c_now_player_records) sz) := by
  refine Met.ofW (cc := cX11_played) (maxL := 3) (ret := (some .int)) (by decide) rfl ?_
  intro p e s m args below meth c s₁ B hml hv
  obtain ⟨rfl, hsz, hP, hK, hD0, hG⟩ := hv
  have hx := B.exec
  have hb := B.bytes
  have hr := B.returns
  have hts := atoms_spec (ws := wsX11_played) B.pre
  have hown : s.vm.findClass RX11 = some m.cls := findClass_of_methodNamed B.named
  have hlocks := B.notSynchronized
  subst hsz
  have hD := hD0.self (sz := s.heap.size)
  generalize hAe : va_A (w_X11_played h0 h_now h_kept h_paper h_spoilt h_prism h_recent h_bandsOfBlock h_now_numbers h_now_book h_now_buffer h_now_coder h_now_sender h_now_player h_now_player_ears h_now_player_frame h_now_player_records cy c_later c_now_numbers c_now_player_records) s.heap.size = A at hD ⊢
  have hA : ∀ q : Nat, s.heap.size ≤ q → A q := fun q h => by rw [← hAe]; exact Or.inr h
  have hS : va_S A s.heap s.heap [] := va_S.rf
  have hl := lv_entry ([.ref h0, .int v1, .int v2]) (n := 3) (Nat.le_of_ble_eq_true rfl)
  rw [lg_entry_eq]
  generalize (lg_sl ([.ref h0, .int v1, .int v2]) ++ List.replicate (3 - (lg_sl ([.ref h0, .int v1, .int v2])).length) Slot.unset).toArray = ls at hl ⊢
  replace hl : lv_has ls 3 [(0, .ref h0), (1, .int v1), (2, .int v2)] := hl
  have inX10 : ∀ w ∈ u_ws RX10 TX10 6, w ∈ wsX11_played := fun w h => List.mem_cons_of_mem _ (inlX10 w h)
  have inX11 : ∀ w ∈ u_ws RX11 TX11 8, w ∈ wsX11_played := fun w h => List.mem_cons_of_mem _ (inlX11 w h)
  clear hAe hD0 B
  unfold wp_X11_played at hw
  generalize hQe : MQ below _ _ s _ _ _ = Q0
  generalize ([.ref h0, .int v1, .int v2] : List Value).toArray = av at *
  obtain ⟨H, hH⟩ : ∃ H, H = s.heap := ⟨_, rfl⟩
  obtain ⟨locs, hlo⟩ : ∃ L : List Loc, L = [] := ⟨_, rfl⟩
  replace hP : va_P (dC, dI) vwCl (w_X11_played h0 h_now h_kept h_paper h_spoilt h_prism h_recent h_bandsOfBlock h_now_numbers h_now_book h_now_buffer h_now_coder h_now_sender h_now_player h_now_player_ears h_now_player_frame h_now_player_records cy c_later c_now_numbers c_now_player_records) H := by rw [hH]; exact hP
  replace hS : va_S A s.heap H locs := by rw [hH, hlo]; exact hS
  suffices hgo : W p l e ({ frames := 3, cells := 0, slots := 0, locals := 64 }) s m av below meth c H locs 0 0 Q0 (F0 m 0 ls []) by rw [hH, hlo] at hgo; exact hgo
  clear hH hlo
  refine lv_iload_n hx hb dX11_played_0 rfl (lv_at hl 1 rfl) ?_
  refine lv_iconst (v := 0) hx hb dX11_played_1 (by decide) ?_
  refine lv_aload_n hx hb dX11_played_2 rfl (lv_at hl 0 rfl) ?_
  refine va_get (D := (dC, dI)) (ci := 11) (v := .ref h_now) (C := RX11) (T := TX11) (N := 8) hx hb hts inX11 hown hK hP 0 rfl rfl 0 (by decide) (hts _ (List.mem_cons_of_mem _ mw_15)) (fun _ h9 => h9) rfl dX11_played_3 ?_
  refine va_get (D := (dC, dI)) (ci := 10) (v := .ref h_now_player) (C := RX10) (T := TX10) (N := 6) hx hb hts inX10 hown hK hP 1 rfl rfl 5 (by decide) (hts _ (List.mem_cons_of_mem _ mw_1083)) (fun _ h9 => h9) rfl dX11_played_6 ?_
  have hPc := pSub (ws' := (w_X6_toldFrames h_now_player h_now_numbers h_now_book h_now_buffer h_now_player_ears h_now_player_frame h_now_player_records cy c_now_numbers)) hP [2, 3] rfl
  have hDc := dSub (ws' := (w_X6_toldFrames h_now_player h_now_numbers h_now_book h_now_buffer h_now_player_ears h_now_player_frame h_now_player_records cy c_now_numbers)) hD [2, 3] (by decide) rfl
  have hFc := va_free (wc := (w_X6_toldFrames h_now_player h_now_numbers h_now_book h_now_buffer h_now_player_ears h_now_player_frame h_now_player_records cy c_now_numbers)) hD hS hA [2, 3] rfl
  refine va_calli (va_runV (As := []) (rest := [.int (0 : Int32), .int v1]) ⟨hx, hb, hml, hown, hts⟩ (c_X6_toldFrames l dC dI cy h_now_player h_now_numbers h_now_book h_now_buffer h_now_player_ears h_now_player_frame h_now_player_records H.size c_now_numbers _ hw) (cwV 0 hts (goodV mw_1164 mw_1161 mw_1162 mw_1163 mw_56) rfl rfl rfl (by decide +kernel) ⟨Nat.le_of_ble_eq_true rfl, Nat.le_of_ble_eq_true rfl⟩) ⟨PX_blind, va_recv hK hPc (ci := 6) (q0 := 0) rfl rfl, PX_pre hPc hK hDc hG⟩ rfl rfl hl.1 rfl (lv_room (Nat.le_of_ble_eq_true rfl)) dX11_played_9 ⟨Nat.zero_le _, Nat.zero_le _⟩) hS (fun q _ h => hFc q h) hFc ?_; clear hw hS; intro r1 _ t H1 locs1 ht hvm hw hB hz1 hk1 hS
  obtain ⟨hP1, -, -⟩ := hB
  rw [ht] at hP1
  replace hP := jC0 hP hD [2, 3] [0, 1, 4] rfl hk1 hP1 (w_X11_played h0 h_now h_kept h_paper h_spoilt h_prism h_recent h_bandsOfBlock h_now_numbers h_now_book h_now_buffer h_now_coder h_now_sender h_now_player h_now_player_ears h_now_player_frame h_now_player_records cy c_later c_now_numbers c_now_player_records) rfl rfl rfl 5 rfl (by decide +kernel); clear hD; obtain ⟨hP, hD⟩ := hP
  replace hP : va_P (dC, dI) vwCl (w_X11_played h0 h_now h_kept h_paper h_spoilt h_prism h_recent h_bandsOfBlock h_now_numbers h_now_book h_now_buffer h_now_coder h_now_sender h_now_player h_now_player_ears h_now_player_frame h_now_player_records cy c_later c_now_numbers c_now_player_records) H1 := hP
  replace hD : va_D A (w_X11_played h0 h_now h_kept h_paper h_spoilt h_prism h_recent h_bandsOfBlock h_now_numbers h_now_book h_now_buffer h_now_coder h_now_sender h_now_player h_now_player_ears h_now_player_frame h_now_player_records cy c_later c_now_numbers c_now_player_records) := hD
  clear hPc hDc hFc hP1 hk1 hz1 hvm ht; clear t; clear H locs; obtain ⟨H, hH⟩ : ∃ H, H = H1 := ⟨_, rfl⟩; obtain ⟨locs, hlo⟩ : ∃ L, L = locs1 := ⟨_, rfl⟩; subst hH; subst hlo
  refine W.widen (k := 0) (n := 0) (Nat.le_refl 0) (Nat.le_refl 0) ?_
  refine lv_iconst (v := 1) hx hb dX11_played_12 (by decide) ?_
  refine lv_isub hx hb dX11_played_13 ?_
  have hPc := pSub (ws' := (w_X11_within cy)) hP [] rfl
  have hDc := dSub (ws' := (w_X11_within cy)) hD [] (by decide) rfl
  have hFc := va_free (wc := (w_X11_within cy)) hD hS hA [] rfl
  refine va_calli (va_runS (As := [.int v1, .int (0 : Int32), .int (r1 - (1 : Int32))]) (rest := []) ⟨hx, hb, hml, hown, hts⟩ (c_X11_within l dC dI cy  H.size v1 (0 : Int32) (r1 - (1 : Int32)) _ hw) (va_cwS 3 hts (goodS mw_195 mw_193 mw_194 mw_2) rfl rfl rfl (by decide +kernel) ⟨Nat.le_of_ble_eq_true rfl, Nat.le_of_ble_eq_true rfl⟩) ⟨PX_blind, PX_pre hPc hK hDc hG⟩ rfl rfl hl.1 rfl (lv_room (Nat.le_of_ble_eq_true rfl)) dX11_played_14 ⟨Nat.zero_le _, Nat.zero_le _⟩) hS (fun q _ h => hFc q h) hFc ?_; clear hw hS; intro r2 _ t H1 locs1 ht hvm hw hB hz1 hk1 hS
  obtain ⟨hP1, -, -⟩ := hB
  rw [ht] at hP1
  replace hP := jC0 hP hD [] [0, 1, 2, 3, 4] rfl hk1 hP1 (w_X11_played h0 h_now h_kept h_paper h_spoilt h_prism h_recent h_bandsOfBlock h_now_numbers h_now_book h_now_buffer h_now_coder h_now_sender h_now_player h_now_player_ears h_now_player_frame h_now_player_records cy c_later c_now_numbers c_now_player_records) rfl rfl rfl 5 rfl (by decide +kernel); clear hD; obtain ⟨hP, hD⟩ := hP
  replace hP : va_P (dC, dI) vwCl (w_X11_played h0 h_now h_kept h_paper h_spoilt h_prism h_recent h_bandsOfBlock h_now_numbers h_now_book h_now_buffer h_now_coder h_now_sender h_now_player h_now_player_ears h_now_player_frame h_now_player_records cy c_later c_now_numbers c_now_player_records) H1 := hP
  replace hD : va_D A (w_X11_played h0 h_now h_kept h_paper h_spoilt h_prism h_recent h_bandsOfBlock h_now_numbers h_now_book h_now_buffer h_now_coder h_now_sender h_now_player h_now_player_ears h_now_player_frame h_now_player_records cy c_later c_now_numbers c_now_player_records) := hD
  clear hPc hDc hFc hP1 hk1 hz1 hvm ht; clear t; clear H locs; obtain ⟨H, hH⟩ : ∃ H, H = H1 := ⟨_, rfl⟩; obtain ⟨locs, hlo⟩ : ∃ L, L = locs1 := ⟨_, rfl⟩; subst hH; subst hlo
  refine W.widen (k := 0) (n := 0) (Nat.le_refl 0) (Nat.le_refl 0) ?_
  refine lv_if_ne (tgt := 23) hx hb dX11_played_17 (by decide) (fun c3 => ?_) (fun c3 => ?_)
  · replace hw := hw.2 c3; clear c3
    refine lv_iload_n hx hb dX11_played_23 rfl (lv_at hl 2 rfl) ?_
    refine lv_if_ne (tgt := 42) hx hb dX11_played_24 (by decide) (fun c4 => ?_) (fun c4 => ?_)
    · replace hw := hw.2 c4; clear c4
      refine lv_iload_n hx hb dX11_played_42 rfl (lv_at hl 2 rfl) ?_
      refine lv_iconst (v := 1) hx hb dX11_played_43 (by decide) ?_
      refine lv_bipush (v := 6) hx hb dX11_played_44 (by decide) ?_
      have hPc := pSub (ws' := (w_X11_within cy)) hP [] rfl
      have hDc := dSub (ws' := (w_X11_within cy)) hD [] (by decide) rfl
      have hFc := va_free (wc := (w_X11_within cy)) hD hS hA [] rfl
      refine va_calli (va_runS (As := [.int v2, .int (1 : Int32), .int (6 : Int32)]) (rest := []) ⟨hx, hb, hml, hown, hts⟩ (c_X11_within l dC dI cy  H.size v2 (1 : Int32) (6 : Int32) _ hw) (va_cwS 3 hts (goodS mw_195 mw_193 mw_194 mw_2) rfl rfl rfl (by decide +kernel) ⟨Nat.le_of_ble_eq_true rfl, Nat.le_of_ble_eq_true rfl⟩) ⟨PX_blind, PX_pre hPc hK hDc hG⟩ rfl rfl hl.1 rfl (lv_room (Nat.le_of_ble_eq_true rfl)) dX11_played_46 ⟨Nat.zero_le _, Nat.zero_le _⟩) hS (fun q _ h => hFc q h) hFc ?_; clear hw hS; intro r5 _ t H1 locs1 ht hvm hw hB hz1 hk1 hS
      obtain ⟨hP1, -, -⟩ := hB
      rw [ht] at hP1
      replace hP := jC0 hP hD [] [0, 1, 2, 3, 4] rfl hk1 hP1 (w_X11_played h0 h_now h_kept h_paper h_spoilt h_prism h_recent h_bandsOfBlock h_now_numbers h_now_book h_now_buffer h_now_coder h_now_sender h_now_player h_now_player_ears h_now_player_frame h_now_player_records cy c_later c_now_numbers c_now_player_records) rfl rfl rfl 5 rfl (by decide +kernel); clear hD; obtain ⟨hP, hD⟩ := hP
      replace hP : va_P (dC, dI) vwCl (w_X11_played h0 h_now h_kept h_paper h_spoilt h_prism h_recent h_bandsOfBlock h_now_numbers h_now_book h_now_buffer h_now_coder h_now_sender h_now_player h_now_player_ears h_now_player_frame h_now_player_records cy c_later c_now_numbers c_now_player_records) H1 := hP
      replace hD : va_D A (w_X11_played h0 h_now h_kept h_paper h_spoilt h_prism h_recent h_bandsOfBlock h_now_numbers h_now_book h_now_buffer h_now_coder h_now_sender h_now_player h_now_player_ears h_now_player_frame h_now_player_records cy c_later c_now_numbers c_now_player_records) := hD
      clear hPc hDc hFc hP1 hk1 hz1 hvm ht; clear t; clear H locs; obtain ⟨H, hH⟩ : ∃ H, H = H1 := ⟨_, rfl⟩; obtain ⟨locs, hlo⟩ : ∃ L, L = locs1 := ⟨_, rfl⟩; subst hH; subst hlo
      refine W.widen (k := 0) (n := 0) (Nat.le_refl 0) (Nat.le_refl 0) ?_
      refine lv_if_eq (tgt := 67) hx hb dX11_played_49 (by decide) (fun c6 => ?_) (fun c6 => ?_)
      · replace hw := hw.1 c6; clear c6
        refine lv_ldc (v := -2147483648) hx hb hown (hts _ (List.mem_cons_of_mem _ mw_901)) dX11_played_67 ?_
        subst hQe
        exact W.iret (v := (-2147483648 : Int32)) hx hb hr (fun t ht hW => ⟨⟨(-2147483648 : Int32), (), rfl, hw, by rw [ht]; exact hP, va_K.moved hW.alike hK, hD⟩, hS.F ht⟩) hS.2.2 dX11_played_69
      · replace hw := hw.2 c6; clear c6
        refine lv_aload_n hx hb dX11_played_52 rfl (lv_at hl 0 rfl) ?_
        refine va_get (D := (dC, dI)) (ci := 11) (v := .ref h_now) (C := RX11) (T := TX11) (N := 8) hx hb hts inX11 hown hK hP 0 rfl rfl 0 (by decide) (hts _ (List.mem_cons_of_mem _ mw_15)) (fun _ h9 => h9) rfl dX11_played_53 ?_
        refine va_get (D := (dC, dI)) (ci := 10) (v := .ref h_now_player) (C := RX10) (T := TX10) (N := 6) hx hb hts inX10 hown hK hP 1 rfl rfl 5 (by decide) (hts _ (List.mem_cons_of_mem _ mw_1083)) (fun _ h9 => h9) rfl dX11_played_56 ?_
        refine lv_iload_n hx hb dX11_played_59 rfl (lv_at hl 1 rfl) ?_
        refine lv_iload_n hx hb dX11_played_60 rfl (lv_at hl 2 rfl) ?_
        have hPc := pSub (ws' := (w_X6_recordOf h_now_player h_now_numbers h_now_book h_now_buffer h_now_player_ears h_now_player_frame h_now_player_records cy c_now_numbers c_now_player_records)) hP [2, 3, 4] rfl
        have hDc := dSub (ws' := (w_X6_recordOf h_now_player h_now_numbers h_now_book h_now_buffer h_now_player_ears h_now_player_frame h_now_player_records cy c_now_numbers c_now_player_records)) hD [2, 3, 4] (by decide) rfl
        have hFc := va_free (wc := (w_X6_recordOf h_now_player h_now_numbers h_now_book h_now_buffer h_now_player_ears h_now_player_frame h_now_player_records cy c_now_numbers c_now_player_records)) hD hS hA [2, 3, 4] rfl
        refine va_calli (va_runV (As := [.int v1, .int v2]) (rest := []) ⟨hx, hb, hml, hown, hts⟩ (c_X6_recordOf l dC dI cy h_now_player h_now_numbers h_now_book h_now_buffer h_now_player_ears h_now_player_frame h_now_player_records H.size v1 v2 c_now_numbers c_now_player_records _ hw) (cwV 2 hts (goodV mw_1169 mw_1166 mw_1167 mw_1168 mw_56) rfl rfl rfl (by decide +kernel) ⟨Nat.le_of_ble_eq_true rfl, Nat.le_of_ble_eq_true rfl⟩) ⟨PX_blind, va_recv hK hPc (ci := 6) (q0 := 0) rfl rfl, PX_pre hPc hK hDc hG⟩ rfl rfl hl.1 rfl (lv_room (Nat.le_of_ble_eq_true rfl)) dX11_played_61 ⟨Nat.zero_le _, Nat.zero_le _⟩) hS (fun q _ h => hFc q h) hFc ?_; clear hw hS; intro r7 _ t H1 locs1 ht hvm hw hB hz1 hk1 hS
        obtain ⟨hP1, -, -⟩ := hB
        rw [ht] at hP1
        replace hP := jC0 hP hD [2, 3, 4] [0, 1] rfl hk1 hP1 (w_X11_played h0 h_now h_kept h_paper h_spoilt h_prism h_recent h_bandsOfBlock h_now_numbers h_now_book h_now_buffer h_now_coder h_now_sender h_now_player h_now_player_ears h_now_player_frame h_now_player_records cy c_later c_now_numbers c_now_player_records) rfl rfl rfl 5 rfl (by decide +kernel); clear hD; obtain ⟨hP, hD⟩ := hP
        replace hP : va_P (dC, dI) vwCl (w_X11_played h0 h_now h_kept h_paper h_spoilt h_prism h_recent h_bandsOfBlock h_now_numbers h_now_book h_now_buffer h_now_coder h_now_sender h_now_player h_now_player_ears h_now_player_frame h_now_player_records cy c_later c_now_numbers c_now_player_records) H1 := hP
        replace hD : va_D A (w_X11_played h0 h_now h_kept h_paper h_spoilt h_prism h_recent h_bandsOfBlock h_now_numbers h_now_book h_now_buffer h_now_coder h_now_sender h_now_player h_now_player_ears h_now_player_frame h_now_player_records cy c_later c_now_numbers c_now_player_records) := hD
        clear hPc hDc hFc hP1 hk1 hz1 hvm ht; clear t; clear H locs; obtain ⟨H, hH⟩ : ∃ H, H = H1 := ⟨_, rfl⟩; obtain ⟨locs, hlo⟩ : ∃ L, L = locs1 := ⟨_, rfl⟩; subst hH; subst hlo
        refine W.widen (k := 0) (n := 0) (Nat.le_refl 0) (Nat.le_refl 0) ?_
        refine lv_goto (tgt := 69) hx hb dX11_played_64 (by decide) ?_
        subst hQe
        exact W.iret (v := r7) hx hb hr (fun t ht hW => ⟨⟨r7, (), rfl, hw, by rw [ht]; exact hP, va_K.moved hW.alike hK, hD⟩, hS.F ht⟩) hS.2.2 dX11_played_69
    · replace hw := hw.1 c4; clear c4
      refine lv_aload_n hx hb dX11_played_27 rfl (lv_at hl 0 rfl) ?_
      refine va_get (D := (dC, dI)) (ci := 11) (v := .ref h_now) (C := RX11) (T := TX11) (N := 8) hx hb hts inX11 hown hK hP 0 rfl rfl 0 (by decide) (hts _ (List.mem_cons_of_mem _ mw_15)) (fun _ h9 => h9) rfl dX11_played_28 ?_
      refine va_get (D := (dC, dI)) (ci := 10) (v := .ref h_now_numbers) (C := RX10) (T := TX10) (N := 6) hx hb hts inX10 hown hK hP 1 rfl rfl 0 (by decide) (hts _ (List.mem_cons_of_mem _ mw_192)) (fun _ h9 => h9) rfl dX11_played_31 ?_
      refine lv_bipush (v := 7) hx hb dX11_played_34 (by decide) ?_
      refine xiald (k := 7) hx hb hK hP 3 0 rfl rfl (vpL 7 54 rfl) (by decide) dX11_played_36 ?_
      refine lv_iconst (v := 1) hx hb dX11_played_37 (by decide) ?_
      refine lv_isub hx hb dX11_played_38 ?_
      refine lv_iload_n hx hb dX11_played_39 rfl (lv_at hl 1 rfl) ?_
      refine lv_isub hx hb dX11_played_40 ?_
      subst hQe
      exact W.iret (v := ((c_now_numbers 7) - (1 : Int32)) - v1) hx hb hr (fun t ht hW => ⟨⟨(((c_now_numbers 7) - (1 : Int32)) - v1), (), rfl, hw, by rw [ht]; exact hP, va_K.moved hW.alike hK, hD⟩, hS.F ht⟩) hS.2.2 dX11_played_41
  · replace hw := hw.1 c3; clear c3
    refine lv_ldc (v := -2147483648) hx hb hown (hts _ (List.mem_cons_of_mem _ mw_901)) dX11_played_20 ?_
    subst hQe
    exact W.iret (v := (-2147483648 : Int32)) hx hb hr (fun t ht hW => ⟨⟨(-2147483648 : Int32), (), rfl, hw, by rw [ht]; exact hP, va_K.moved hW.alike hK, hD⟩, hS.F ht⟩) hS.2.2 dX11_played_22
set_option maxHeartbeats 4000000 in
set_option maxRecDepth 100000 in
theorem c_X11_late (l : Launch) (dC : Nat → ClassId) (dI : Nat → Nat → Nat) (cy : Nat → ClassId) (h0 h_now h_kept h_paper h_spoilt h_prism h_recent h_bandsOfBlock h_now_numbers h_now_book h_now_buffer h_now_coder h_now_sender h_now_player h_now_player_ears h_now_player_frame h_now_player_records : Nat) (sz : Nat) (v1 : Int32) (c_later : Option Nat) (c_now_numbers : Nat → Int32) (c_now_player_records : Nat → Int32) (post : Int32 → Prop) (hw : wp_X11_late v1 c_now_numbers c_now_player_records post) : Met l yX11_late wsX11_late ({ frames := 4, cells := 0, slots := 0, locals := 85 }) (PX dC dI cy [.ref h0, .int v1] sz (w_X11_late h0 h_now h_kept h_paper h_spoilt h_prism h_recent h_bandsOfBlock h_now_numbers h_now_book h_now_buffer h_now_coder h_now_sender h_now_player h_now_player_ears h_now_player_frame h_now_player_records cy c_later c_now_numbers c_now_player_records)) (va_Qi (fun (r : Int32) (u : Unit) => post r) (QX dC dI cy (va_A (w_X11_late h0 h_now h_kept h_paper h_spoilt h_prism h_recent h_bandsOfBlock h_now_numbers h_now_book h_now_buffer h_now_coder h_now_sender h_now_player h_now_player_ears h_now_player_frame h_now_player_records cy c_later c_now_numbers c_now_player_records) sz) (fun (u : Unit) => w_X11_late h0 h_now h_kept h_paper h_spoilt h_prism h_recent h_bandsOfBlock h_now_numbers h_now_book h_now_buffer h_now_coder h_now_sender h_now_player h_now_player_ears h_now_player_frame h_now_player_records cy c_later c_now_numbers c_now_player_records)) (va_A (w_X11_late h0 h_now h_kept h_paper h_spoilt h_prism h_recent h_bandsOfBlock h_now_numbers h_now_book h_now_buffer h_now_coder h_now_sender h_now_player h_now_player_ears h_now_player_frame h_now_player_records cy c_later c_now_numbers c_now_player_records) sz)) 0 0 (va_A (w_X11_late h0 h_now h_kept h_paper h_spoilt h_prism h_recent h_bandsOfBlock h_now_numbers h_now_book h_now_buffer h_now_coder h_now_sender h_now_player h_now_player_ears h_now_player_frame h_now_player_records cy c_later c_now_numbers c_now_player_records) sz) := by
  refine Met.ofW (cc := cX11_late) (maxL := 9) (ret := (some .int)) (by decide) rfl ?_
  intro p e s m args below meth c s₁ B hml hv
  obtain ⟨rfl, hsz, hP, hK, hD0, hG⟩ := hv
  have hx := B.exec
  have hb := B.bytes
  have hr := B.returns
  have hts := atoms_spec (ws := wsX11_late) B.pre
  have hown : s.vm.findClass RX11 = some m.cls := findClass_of_methodNamed B.named
  have hlocks := B.notSynchronized
  subst hsz
  have hD := hD0.self (sz := s.heap.size)
  generalize hAe : va_A (w_X11_late h0 h_now h_kept h_paper h_spoilt h_prism h_recent h_bandsOfBlock h_now_numbers h_now_book h_now_buffer h_now_coder h_now_sender h_now_player h_now_player_ears h_now_player_frame h_now_player_records cy c_later c_now_numbers c_now_player_records) s.heap.size = A at hD ⊢
  have hA : ∀ q : Nat, s.heap.size ≤ q → A q := fun q h => by rw [← hAe]; exact Or.inr h
  have hS : va_S A s.heap s.heap [] := va_S.rf
  have hl := lv_entry ([.ref h0, .int v1]) (n := 9) (Nat.le_of_ble_eq_true rfl)
  rw [lg_entry_eq]
  generalize (lg_sl ([.ref h0, .int v1]) ++ List.replicate (9 - (lg_sl ([.ref h0, .int v1])).length) Slot.unset).toArray = ls at hl ⊢
  replace hl : lv_has ls 9 [(0, .ref h0), (1, .int v1)] := hl
  have inX10 : ∀ w ∈ u_ws RX10 TX10 6, w ∈ wsX11_late := fun w h => List.mem_cons_of_mem _ (inlX10 w h)
  have inX11 : ∀ w ∈ u_ws RX11 TX11 8, w ∈ wsX11_late := fun w h => List.mem_cons_of_mem _ (inlX11 w h)
  clear hAe hD0 B
  unfold wp_X11_late at hw
  generalize hQe : MQ below _ _ s _ _ _ = Q0
  generalize ([.ref h0, .int v1] : List Value).toArray = av at *
  obtain ⟨H, hH⟩ : ∃ H, H = s.heap := ⟨_, rfl⟩
  obtain ⟨locs, hlo⟩ : ∃ L : List Loc, L = [] := ⟨_, rfl⟩
  replace hP : va_P (dC, dI) vwCl (w_X11_late h0 h_now h_kept h_paper h_spoilt h_prism h_recent h_bandsOfBlock h_now_numbers h_now_book h_now_buffer h_now_coder h_now_sender h_now_player h_now_player_ears h_now_player_frame h_now_player_records cy c_later c_now_numbers c_now_player_records) H := by rw [hH]; exact hP
  replace hS : va_S A s.heap H locs := by rw [hH, hlo]; exact hS
  suffices hgo : W p l e ({ frames := 4, cells := 0, slots := 0, locals := 85 }) s m av below meth c H locs 0 0 Q0 (F0 m 0 ls []) by rw [hH, hlo] at hgo; exact hgo
  clear hH hlo
  refine lv_aload_n hx hb dX11_late_0 rfl (lv_at hl 0 rfl) ?_
  refine va_get (D := (dC, dI)) (ci := 11) (v := .ref h_now) (C := RX11) (T := TX11) (N := 8) hx hb hts inX11 hown hK hP 0 rfl rfl 0 (by decide) (hts _ (List.mem_cons_of_mem _ mw_15)) (fun _ h9 => h9) rfl dX11_late_1 ?_
  refine va_get (D := (dC, dI)) (ci := 10) (v := .ref h_now_player) (C := RX10) (T := TX10) (N := 6) hx hb hts inX10 hown hK hP 1 rfl rfl 5 (by decide) (hts _ (List.mem_cons_of_mem _ mw_1083)) (fun _ h9 => h9) rfl dX11_late_4 ?_
  have hPc := pSub (ws' := (w_X6_toldFrames h_now_player h_now_numbers h_now_book h_now_buffer h_now_player_ears h_now_player_frame h_now_player_records cy c_now_numbers)) hP [2, 3] rfl
  have hDc := dSub (ws' := (w_X6_toldFrames h_now_player h_now_numbers h_now_book h_now_buffer h_now_player_ears h_now_player_frame h_now_player_records cy c_now_numbers)) hD [2, 3] (by decide) rfl
  have hFc := va_free (wc := (w_X6_toldFrames h_now_player h_now_numbers h_now_book h_now_buffer h_now_player_ears h_now_player_frame h_now_player_records cy c_now_numbers)) hD hS hA [2, 3] rfl
  refine va_calli (va_runV (As := []) (rest := []) ⟨hx, hb, hml, hown, hts⟩ (c_X6_toldFrames l dC dI cy h_now_player h_now_numbers h_now_book h_now_buffer h_now_player_ears h_now_player_frame h_now_player_records H.size c_now_numbers _ hw) (cwV 0 hts (goodV mw_1164 mw_1161 mw_1162 mw_1163 mw_56) rfl rfl rfl (by decide +kernel) ⟨Nat.le_of_ble_eq_true rfl, Nat.le_of_ble_eq_true rfl⟩) ⟨PX_blind, va_recv hK hPc (ci := 6) (q0 := 0) rfl rfl, PX_pre hPc hK hDc hG⟩ rfl rfl hl.1 rfl (lv_room (Nat.le_of_ble_eq_true rfl)) dX11_late_7 ⟨Nat.zero_le _, Nat.zero_le _⟩) hS (fun q _ h => hFc q h) hFc ?_; clear hw hS; intro r1 _ t H1 locs1 ht hvm hw hB hz1 hk1 hS
  obtain ⟨hP1, -, -⟩ := hB
  rw [ht] at hP1
  replace hP := jC0 hP hD [2, 3] [0, 1, 4] rfl hk1 hP1 (w_X11_late h0 h_now h_kept h_paper h_spoilt h_prism h_recent h_bandsOfBlock h_now_numbers h_now_book h_now_buffer h_now_coder h_now_sender h_now_player h_now_player_ears h_now_player_frame h_now_player_records cy c_later c_now_numbers c_now_player_records) rfl rfl rfl 5 rfl (by decide +kernel); clear hD; obtain ⟨hP, hD⟩ := hP
  replace hP : va_P (dC, dI) vwCl (w_X11_late h0 h_now h_kept h_paper h_spoilt h_prism h_recent h_bandsOfBlock h_now_numbers h_now_book h_now_buffer h_now_coder h_now_sender h_now_player h_now_player_ears h_now_player_frame h_now_player_records cy c_later c_now_numbers c_now_player_records) H1 := hP
  replace hD : va_D A (w_X11_late h0 h_now h_kept h_paper h_spoilt h_prism h_recent h_bandsOfBlock h_now_numbers h_now_book h_now_buffer h_now_coder h_now_sender h_now_player h_now_player_ears h_now_player_frame h_now_player_records cy c_later c_now_numbers c_now_player_records) := hD
  clear hPc hDc hFc hP1 hk1 hz1 hvm ht; clear t; clear H locs; obtain ⟨H, hH⟩ : ∃ H, H = H1 := ⟨_, rfl⟩; obtain ⟨locs, hlo⟩ : ∃ L, L = locs1 := ⟨_, rfl⟩; subst hH; subst hlo
  refine W.widen (k := 0) (n := 0) (Nat.le_refl 0) (Nat.le_refl 0) ?_
  refine lv_istore_n (lv' := [(2, .int r1), (0, .ref h0), (1, .int v1)]) hx hb dX11_late_10 rfl hl (by decide) rfl ?_; clear hl; clear ls; intro ls hl
  refine lv_iload_n hx hb dX11_late_11 rfl (lv_at hl 0 rfl) ?_
  refine lv_if_ne (tgt := 18) hx hb dX11_late_12 (by decide) (fun c2 => ?_) (fun c2 => ?_)
  · replace hw := hw.2 c2; clear c2
    refine lv_aload_n hx hb dX11_late_18 rfl (lv_at hl 1 rfl) ?_
    refine va_get (D := (dC, dI)) (ci := 11) (v := .ref h_now) (C := RX11) (T := TX11) (N := 8) hx hb hts inX11 hown hK hP 0 rfl rfl 0 (by decide) (hts _ (List.mem_cons_of_mem _ mw_15)) (fun _ h9 => h9) rfl dX11_late_19 ?_
    refine va_get (D := (dC, dI)) (ci := 10) (v := .ref h_now_player) (C := RX10) (T := TX10) (N := 6) hx hb hts inX10 hown hK hP 1 rfl rfl 5 (by decide) (hts _ (List.mem_cons_of_mem _ mw_1083)) (fun _ h9 => h9) rfl dX11_late_22 ?_
    refine lv_iconst (v := 0) hx hb dX11_late_25 (by decide) ?_
    have hPc := pSub (ws' := (w_X6_lateness h_now_player h_now_numbers h_now_book h_now_buffer h_now_player_ears h_now_player_frame h_now_player_records cy c_now_numbers c_now_player_records)) hP [2, 3, 4] rfl
    have hDc := dSub (ws' := (w_X6_lateness h_now_player h_now_numbers h_now_book h_now_buffer h_now_player_ears h_now_player_frame h_now_player_records cy c_now_numbers c_now_player_records)) hD [2, 3, 4] (by decide) rfl
    have hFc := va_free (wc := (w_X6_lateness h_now_player h_now_numbers h_now_book h_now_buffer h_now_player_ears h_now_player_frame h_now_player_records cy c_now_numbers c_now_player_records)) hD hS hA [2, 3, 4] rfl
    refine va_calli (va_runV (As := [.int (0 : Int32)]) (rest := []) ⟨hx, hb, hml, hown, hts⟩ (c_X6_lateness l dC dI cy h_now_player h_now_numbers h_now_book h_now_buffer h_now_player_ears h_now_player_frame h_now_player_records H.size (0 : Int32) c_now_numbers c_now_player_records _ hw) (cwV 1 hts (goodV mw_1182 mw_1179 mw_1180 mw_1181 mw_56) rfl rfl rfl (by decide +kernel) ⟨Nat.le_of_ble_eq_true rfl, Nat.le_of_ble_eq_true rfl⟩) ⟨PX_blind, va_recv hK hPc (ci := 6) (q0 := 0) rfl rfl, PX_pre hPc hK hDc hG⟩ rfl rfl hl.1 rfl (lv_room (Nat.le_of_ble_eq_true rfl)) dX11_late_26 ⟨Nat.zero_le _, Nat.zero_le _⟩) hS (fun q _ h => hFc q h) hFc ?_; clear hw hS; intro r3 _ t H1 locs1 ht hvm hw hB hz1 hk1 hS
    obtain ⟨hP1, -, -⟩ := hB
    rw [ht] at hP1
    replace hP := jC0 hP hD [2, 3, 4] [0, 1] rfl hk1 hP1 (w_X11_late h0 h_now h_kept h_paper h_spoilt h_prism h_recent h_bandsOfBlock h_now_numbers h_now_book h_now_buffer h_now_coder h_now_sender h_now_player h_now_player_ears h_now_player_frame h_now_player_records cy c_later c_now_numbers c_now_player_records) rfl rfl rfl 5 rfl (by decide +kernel); clear hD; obtain ⟨hP, hD⟩ := hP
    replace hP : va_P (dC, dI) vwCl (w_X11_late h0 h_now h_kept h_paper h_spoilt h_prism h_recent h_bandsOfBlock h_now_numbers h_now_book h_now_buffer h_now_coder h_now_sender h_now_player h_now_player_ears h_now_player_frame h_now_player_records cy c_later c_now_numbers c_now_player_records) H1 := hP
    replace hD : va_D A (w_X11_late h0 h_now h_kept h_paper h_spoilt h_prism h_recent h_bandsOfBlock h_now_numbers h_now_book h_now_buffer h_now_coder h_now_sender h_now_player h_now_player_ears h_now_player_frame h_now_player_records cy c_later c_now_numbers c_now_player_records) := hD
    clear hPc hDc hFc hP1 hk1 hz1 hvm ht; clear t; clear H locs; obtain ⟨H, hH⟩ : ∃ H, H = H1 := ⟨_, rfl⟩; obtain ⟨locs, hlo⟩ : ∃ L, L = locs1 := ⟨_, rfl⟩; subst hH; subst hlo
    refine W.widen (k := 0) (n := 0) (Nat.le_refl 0) (Nat.le_refl 0) ?_
    refine lv_istore_n (lv' := [(3, .int r3), (2, .int r1), (0, .ref h0), (1, .int v1)]) hx hb dX11_late_29 rfl hl (by decide) rfl ?_; clear hl; clear ls; intro ls hl
    refine lv_iload_n hx hb dX11_late_30 rfl (lv_at hl 0 rfl) ?_
    refine lv_istore (lv' := [(4, .int r3), (3, .int r3), (2, .int r1), (0, .ref h0), (1, .int v1)]) hx hb dX11_late_31 hl (by decide) rfl ?_; clear hl; clear ls; intro ls hl
    refine lv_iconst (v := 0) hx hb dX11_late_33 (by decide) ?_
    refine lv_istore (lv' := [(5, .int (0 : Int32)), (4, .int r3), (3, .int r3), (2, .int r1), (0, .ref h0), (1, .int v1)]) hx hb dX11_late_34 hl (by decide) rfl ?_; clear hl; clear ls; intro ls hl
    refine lv_iconst (v := 0) hx hb dX11_late_36 (by decide) ?_
    refine lv_istore (lv' := [(6, .int (0 : Int32)), (5, .int (0 : Int32)), (4, .int r3), (3, .int r3), (2, .int r1), (0, .ref h0), (1, .int v1)]) hx hb dX11_late_37 hl (by decide) rfl ?_; clear hl; clear ls; intro ls hl
    refine lv_iconst (v := 0) hx hb dX11_late_39 (by decide) ?_
    refine lv_istore (lv' := [(7, .int (0 : Int32)), (6, .int (0 : Int32)), (5, .int (0 : Int32)), (4, .int r3), (3, .int r3), (2, .int r1), (0, .ref h0), (1, .int v1)]) hx hb dX11_late_40 hl (by decide) rfl ?_; clear hl; clear ls; intro ls hl
    obtain ⟨x4, e_x4⟩ : ∃ y : Int32, y = (0 : Int32) := ⟨_, rfl⟩
    replace hw := hw x4 e_x4
    replace hl : lv_has ls 9 [(7, .int x4), (6, .int (0 : Int32)), (5, .int (0 : Int32)), (4, .int r3), (3, .int r3), (2, .int r1), (0, .ref h0), (1, .int v1)] := by rw [e_x4]; exact hl
    clear e_x4
    obtain ⟨x5, e_x5⟩ : ∃ y : Int32, y = (0 : Int32) := ⟨_, rfl⟩
    replace hw := hw x5 e_x5
    replace hl : lv_has ls 9 [(7, .int x4), (6, .int x5), (5, .int (0 : Int32)), (4, .int r3), (3, .int r3), (2, .int r1), (0, .ref h0), (1, .int v1)] := by rw [e_x5]; exact hl
    clear e_x5
    obtain ⟨x6, e_x6⟩ : ∃ y : Int32, y = (0 : Int32) := ⟨_, rfl⟩
    replace hw := hw x6 e_x6
    replace hl : lv_has ls 9 [(7, .int x4), (6, .int x5), (5, .int x6), (4, .int r3), (3, .int r3), (2, .int r1), (0, .ref h0), (1, .int v1)] := by rw [e_x6]; exact hl
    clear e_x6
    obtain ⟨x7, e_x7⟩ : ∃ y : Int32, y = r3 := ⟨_, rfl⟩
    replace hw := hw x7 e_x7
    replace hl : lv_has ls 9 [(7, .int x4), (6, .int x5), (5, .int x6), (4, .int x7), (3, .int r3), (2, .int r1), (0, .ref h0), (1, .int v1)] := by rw [e_x7]; exact hl
    clear e_x7
    obtain ⟨x8, e_x8⟩ : ∃ y : Int32, y = r3 := ⟨_, rfl⟩
    replace hw := hw x8 e_x8
    replace hl : lv_has ls 9 [(7, .int x4), (6, .int x5), (5, .int x6), (4, .int x7), (3, .int x8), (2, .int r1), (0, .ref h0), (1, .int v1)] := by rw [e_x8]; exact hl
    clear e_x8
    replace hl := lv_sub (l' := [(7, .int x4), (6, .int x5), (5, .int x6), (4, .int x7), (3, .int x8), (2, .int r1), (0, .ref h0), (1, .int v1)]) hl [0, 1, 2, 3, 4, 5, 6, 7] rfl
    revert hl; revert hS; revert hD; revert hP; revert ls; revert locs; revert H
    revert hw; revert x8; revert x7; revert x6; revert x5; revert x4
    refine Lz5_gr ?_; intro g9 ih10 x11 x12 x13 x14 x15 hw
    intro H locs ls hP hD hS hl
    refine lv_iload hx hb dX11_late_42 (lv_at hl 0 rfl) ?_
    refine lv_iload_n hx hb dX11_late_44 rfl (lv_at hl 5 rfl) ?_
    refine lv_icmp_ge (tgt := 145) hx hb dX11_late_45 (by decide) (fun c16 => ?_) (fun c16 => ?_)
    · replace hw := hw.1 c16; clear c16
      clear ih10
      refine lv_iload_n hx hb dX11_late_145 rfl (lv_at hl 7 rfl) ?_
      by_cases c17 : v1 = 0
      · replace hw := hw.1 c17
        refine lv_tableIn (tgt := 176) hx hb dX11_late_146 (by rw [c17]; decide) (by rw [c17]; decide) (by rw [c17]; rfl) (by decide) ?_
        refine lv_iload_n hx hb dX11_late_176 rfl (lv_at hl 4 rfl) ?_
        subst hQe
        exact W.iret (v := x15) hx hb hr (fun t ht hW => ⟨⟨x15, (), rfl, hw, by rw [ht]; exact hP, va_K.moved hW.alike hK, hD⟩, hS.F ht⟩) hS.2.2 dX11_late_177
      · skip
        by_cases c18 : v1 = 1
        · replace hw := hw.2.1 c18
          refine lv_tableIn (tgt := 178) hx hb dX11_late_146 (by rw [c18]; decide) (by rw [c18]; decide) (by rw [c18]; rfl) (by decide) ?_
          refine lv_iload hx hb dX11_late_178 (lv_at hl 3 rfl) ?_
          subst hQe
          exact W.iret (v := x14) hx hb hr (fun t ht hW => ⟨⟨x14, (), rfl, hw, by rw [ht]; exact hP, va_K.moved hW.alike hK, hD⟩, hS.F ht⟩) hS.2.2 dX11_late_180
        · skip
          by_cases c19 : v1 = 2
          · replace hw := hw.2.2.1 c19
            refine lv_tableIn (tgt := 181) hx hb dX11_late_146 (by rw [c19]; decide) (by rw [c19]; decide) (by rw [c19]; rfl) (by decide) ?_
            refine lv_iload hx hb dX11_late_181 (lv_at hl 2 rfl) ?_
            subst hQe
            exact W.iret (v := x13) hx hb hr (fun t ht hW => ⟨⟨x13, (), rfl, hw, by rw [ht]; exact hP, va_K.moved hW.alike hK, hD⟩, hS.F ht⟩) hS.2.2 dX11_late_183
          · skip
            by_cases c20 : v1 = 3
            · replace hw := hw.2.2.2.1 c20
              refine lv_tableIn (tgt := 184) hx hb dX11_late_146 (by rw [c20]; decide) (by rw [c20]; decide) (by rw [c20]; rfl) (by decide) ?_
              refine lv_iload hx hb dX11_late_184 (lv_at hl 1 rfl) ?_
              subst hQe
              exact W.iret (v := x12) hx hb hr (fun t ht hW => ⟨⟨x12, (), rfl, hw, by rw [ht]; exact hP, va_K.moved hW.alike hK, hD⟩, hS.F ht⟩) hS.2.2 dX11_late_186
            · skip
              replace hw := hw.2.2.2.2 c17 c18 c19 c20
              refine lv_tableOut (tgt := 187) hx hb dX11_late_146 (by have e0 := sw_ne (n := 0) c17 (by decide); have e1 := sw_ne (n := 1) c18 (by decide); have e2 := sw_ne (n := 2) c19 (by decide); have e3 := sw_ne (n := 3) c20 (by decide); omega) (by decide) ?_
              refine lv_ldc (v := -2147483648) hx hb hown (hts _ (List.mem_cons_of_mem _ mw_901)) dX11_late_187 ?_
              subst hQe
              exact W.iret (v := (-2147483648 : Int32)) hx hb hr (fun t ht hW => ⟨⟨(-2147483648 : Int32), (), rfl, hw, by rw [ht]; exact hP, va_K.moved hW.alike hK, hD⟩, hS.F ht⟩) hS.2.2 dX11_late_189
    · replace hw := hw.2 c16; clear c16
      refine lv_aload_n hx hb dX11_late_48 rfl (lv_at hl 6 rfl) ?_
      refine va_get (D := (dC, dI)) (ci := 11) (v := .ref h_now) (C := RX11) (T := TX11) (N := 8) hx hb hts inX11 hown hK hP 0 rfl rfl 0 (by decide) (hts _ (List.mem_cons_of_mem _ mw_15)) (fun _ h9 => h9) rfl dX11_late_49 ?_
      refine va_get (D := (dC, dI)) (ci := 10) (v := .ref h_now_player) (C := RX10) (T := TX10) (N := 6) hx hb hts inX10 hown hK hP 1 rfl rfl 5 (by decide) (hts _ (List.mem_cons_of_mem _ mw_1083)) (fun _ h9 => h9) rfl dX11_late_52 ?_
      refine lv_iload hx hb dX11_late_55 (lv_at hl 0 rfl) ?_
      have hPc := pSub (ws' := (w_X6_lateness h_now_player h_now_numbers h_now_book h_now_buffer h_now_player_ears h_now_player_frame h_now_player_records cy c_now_numbers c_now_player_records)) hP [2, 3, 4] rfl
      have hDc := dSub (ws' := (w_X6_lateness h_now_player h_now_numbers h_now_book h_now_buffer h_now_player_ears h_now_player_frame h_now_player_records cy c_now_numbers c_now_player_records)) hD [2, 3, 4] (by decide) rfl
      have hFc := va_free (wc := (w_X6_lateness h_now_player h_now_numbers h_now_book h_now_buffer h_now_player_ears h_now_player_frame h_now_player_records cy c_now_numbers c_now_player_records)) hD hS hA [2, 3, 4] rfl
      refine va_calli (va_runV (As := [.int x11]) (rest := []) ⟨hx, hb, hml, hown, hts⟩ (c_X6_lateness l dC dI cy h_now_player h_now_numbers h_now_book h_now_buffer h_now_player_ears h_now_player_frame h_now_player_records H.size x11 c_now_numbers c_now_player_records _ hw) (cwV 1 hts (goodV mw_1182 mw_1179 mw_1180 mw_1181 mw_56) rfl rfl rfl (by decide +kernel) ⟨Nat.le_of_ble_eq_true rfl, Nat.le_of_ble_eq_true rfl⟩) ⟨PX_blind, va_recv hK hPc (ci := 6) (q0 := 0) rfl rfl, PX_pre hPc hK hDc hG⟩ rfl rfl hl.1 rfl (lv_room (Nat.le_of_ble_eq_true rfl)) dX11_late_57 ⟨Nat.zero_le _, Nat.zero_le _⟩) hS (fun q _ h => hFc q h) hFc ?_; clear hw hS; intro r21 _ t H1 locs1 ht hvm hw hB hz1 hk1 hS
      obtain ⟨hP1, -, -⟩ := hB
      rw [ht] at hP1
      replace hP := jC0 hP hD [2, 3, 4] [0, 1] rfl hk1 hP1 (w_X11_late h0 h_now h_kept h_paper h_spoilt h_prism h_recent h_bandsOfBlock h_now_numbers h_now_book h_now_buffer h_now_coder h_now_sender h_now_player h_now_player_ears h_now_player_frame h_now_player_records cy c_later c_now_numbers c_now_player_records) rfl rfl rfl 5 rfl (by decide +kernel); clear hD; obtain ⟨hP, hD⟩ := hP
      replace hP : va_P (dC, dI) vwCl (w_X11_late h0 h_now h_kept h_paper h_spoilt h_prism h_recent h_bandsOfBlock h_now_numbers h_now_book h_now_buffer h_now_coder h_now_sender h_now_player h_now_player_ears h_now_player_frame h_now_player_records cy c_later c_now_numbers c_now_player_records) H1 := hP
      replace hD : va_D A (w_X11_late h0 h_now h_kept h_paper h_spoilt h_prism h_recent h_bandsOfBlock h_now_numbers h_now_book h_now_buffer h_now_coder h_now_sender h_now_player h_now_player_ears h_now_player_frame h_now_player_records cy c_later c_now_numbers c_now_player_records) := hD
      clear hPc hDc hFc hP1 hk1 hz1 hvm ht; clear t; clear H locs; obtain ⟨H, hH⟩ : ∃ H, H = H1 := ⟨_, rfl⟩; obtain ⟨locs, hlo⟩ : ∃ L, L = locs1 := ⟨_, rfl⟩; subst hH; subst hlo
      refine W.widen (k := 0) (n := 0) (Nat.le_refl 0) (Nat.le_refl 0) ?_
      refine lv_istore (lv' := [(8, .int r21), (7, .int x11), (6, .int x12), (5, .int x13), (4, .int x14), (3, .int x15), (2, .int r1), (0, .ref h0), (1, .int v1)]) hx hb dX11_late_60 hl (by decide) rfl ?_; clear hl; clear ls; intro ls hl
      refine lv_iload_n hx hb dX11_late_62 rfl (lv_at hl 5 rfl) ?_
      refine lv_iload hx hb dX11_late_63 (lv_at hl 0 rfl) ?_
      refine va_mmin hx hb (by rw [hml]; exact hl.1.symm) hown (hts _ (List.mem_cons_of_mem _ mw_1178)) (hts _ (List.mem_cons_of_mem _ mw_345)) (hts _ (List.mem_cons_of_mem _ mw_76)) (hts _ (List.mem_cons_of_mem _ mw_346)) (Nat.le_of_ble_eq_true rfl) (Nat.le_of_ble_eq_true rfl) (Nat.zero_le _) (Nat.zero_le _) dX11_late_65 ?_
      refine lv_topi (fun x22 e_x22 => ?_)
      replace hw := hw x22 e_x22
      clear e_x22
      refine lv_istore_n (lv' := [(3, .int x22), (8, .int r21), (7, .int x11), (6, .int x12), (5, .int x13), (4, .int x14), (2, .int r1), (0, .ref h0), (1, .int v1)]) hx hb dX11_late_68 rfl hl (by decide) rfl ?_; clear hl; clear ls; intro ls hl
      refine lv_iload hx hb dX11_late_69 (lv_at hl 5 rfl) ?_
      refine lv_iload hx hb dX11_late_71 (lv_at hl 1 rfl) ?_
      refine va_mmax hx hb (by rw [hml]; exact hl.1.symm) hown (hts _ (List.mem_cons_of_mem _ mw_269)) (hts _ (List.mem_cons_of_mem _ mw_75)) (hts _ (List.mem_cons_of_mem _ mw_76)) (hts _ (List.mem_cons_of_mem _ mw_77)) (Nat.le_of_ble_eq_true rfl) (Nat.le_of_ble_eq_true rfl) (Nat.zero_le _) (Nat.zero_le _) dX11_late_73 ?_
      refine lv_topi (fun x23 e_x23 => ?_)
      replace hw := hw x23 e_x23
      clear e_x23
      refine lv_istore (lv' := [(4, .int x23), (3, .int x22), (8, .int r21), (7, .int x11), (6, .int x12), (5, .int x13), (2, .int r1), (0, .ref h0), (1, .int v1)]) hx hb dX11_late_76 hl (by decide) rfl ?_; clear hl; clear ls; intro ls hl
      refine lv_iload hx hb dX11_late_78 (lv_at hl 5 rfl) ?_
      refine lv_iload hx hb dX11_late_80 (lv_at hl 3 rfl) ?_
      refine jn1 (Gg := fun (x24 : Int32) => ∀ (H : Heap) (locs : List Loc) (ls : Array Slot), va_P (dC, dI) vwCl (w_X11_late h0 h_now h_kept h_paper h_spoilt h_prism h_recent h_bandsOfBlock h_now_numbers h_now_book h_now_buffer h_now_coder h_now_sender h_now_player h_now_player_ears h_now_player_frame h_now_player_records cy c_later c_now_numbers c_now_player_records) H → va_D A (w_X11_late h0 h_now h_kept h_paper h_spoilt h_prism h_recent h_bandsOfBlock h_now_numbers h_now_book h_now_buffer h_now_coder h_now_sender h_now_player h_now_player_ears h_now_player_frame h_now_player_records cy c_later c_now_numbers c_now_player_records) → va_S A s.heap H locs → lv_has ls 9 [(0, .ref h0), (1, .int v1), (2, .int r1), (3, .int x22), (4, .int x23), (6, .int x12), (7, .int x11)] → W p l e { frames := 4, cells := 0, slots := 0, locals := 85 } s m av below meth c H locs 0 0 Q0 (F0 m 109 ls [.int x24, .int x13])) hw ?_ ?_ <;> clear hw
      · clear hP hD hS hl; clear H locs ls; intro x24 hw H locs ls hP hD hS hl
        refine lv_iadd hx hb dX11_late_109 ?_
        refine lv_topi (fun x27 e_x27 => ?_)
        replace hw := hw x27 e_x27
        clear e_x27
        refine lv_istore (lv' := [(5, .int x27), (0, .ref h0), (1, .int v1), (2, .int r1), (3, .int x22), (4, .int x23), (6, .int x12), (7, .int x11)]) hx hb dX11_late_110 hl (by decide) rfl ?_; clear hl; clear ls; intro ls hl
        refine lv_iload hx hb dX11_late_112 (lv_at hl 6 rfl) ?_
        refine lv_aload_n hx hb dX11_late_114 rfl (lv_at hl 1 rfl) ?_
        refine va_get (D := (dC, dI)) (ci := 11) (v := .ref h_now) (C := RX11) (T := TX11) (N := 8) hx hb hts inX11 hown hK hP 0 rfl rfl 0 (by decide) (hts _ (List.mem_cons_of_mem _ mw_15)) (fun _ h9 => h9) rfl dX11_late_115 ?_
        refine va_get (D := (dC, dI)) (ci := 10) (v := .ref h_now_player) (C := RX10) (T := TX10) (N := 6) hx hb hts inX10 hown hK hP 1 rfl rfl 5 (by decide) (hts _ (List.mem_cons_of_mem _ mw_1083)) (fun _ h9 => h9) rfl dX11_late_118 ?_
        refine lv_iload hx hb dX11_late_121 (lv_at hl 7 rfl) ?_
        refine lv_iconst (v := 1) hx hb dX11_late_123 (by decide) ?_
        have hPc := pSub (ws' := (w_X6_recordOf h_now_player h_now_numbers h_now_book h_now_buffer h_now_player_ears h_now_player_frame h_now_player_records cy c_now_numbers c_now_player_records)) hP [2, 3, 4] rfl
        have hDc := dSub (ws' := (w_X6_recordOf h_now_player h_now_numbers h_now_book h_now_buffer h_now_player_ears h_now_player_frame h_now_player_records cy c_now_numbers c_now_player_records)) hD [2, 3, 4] (by decide) rfl
        have hFc := va_free (wc := (w_X6_recordOf h_now_player h_now_numbers h_now_book h_now_buffer h_now_player_ears h_now_player_frame h_now_player_records cy c_now_numbers c_now_player_records)) hD hS hA [2, 3, 4] rfl
        refine va_calli (va_runV (As := [.int x11, .int (1 : Int32)]) (rest := [.int x12]) ⟨hx, hb, hml, hown, hts⟩ (c_X6_recordOf l dC dI cy h_now_player h_now_numbers h_now_book h_now_buffer h_now_player_ears h_now_player_frame h_now_player_records H.size x11 (1 : Int32) c_now_numbers c_now_player_records _ hw) (cwV 2 hts (goodV mw_1169 mw_1166 mw_1167 mw_1168 mw_56) rfl rfl rfl (by decide +kernel) ⟨Nat.le_of_ble_eq_true rfl, Nat.le_of_ble_eq_true rfl⟩) ⟨PX_blind, va_recv hK hPc (ci := 6) (q0 := 0) rfl rfl, PX_pre hPc hK hDc hG⟩ rfl rfl hl.1 rfl (lv_room (Nat.le_of_ble_eq_true rfl)) dX11_late_124 ⟨Nat.zero_le _, Nat.zero_le _⟩) hS (fun q _ h => hFc q h) hFc ?_; clear hw hS; intro r28 _ t H1 locs1 ht hvm hw hB hz1 hk1 hS
        obtain ⟨hP1, -, -⟩ := hB
        rw [ht] at hP1
        replace hP := jC0 hP hD [2, 3, 4] [0, 1] rfl hk1 hP1 (w_X11_late h0 h_now h_kept h_paper h_spoilt h_prism h_recent h_bandsOfBlock h_now_numbers h_now_book h_now_buffer h_now_coder h_now_sender h_now_player h_now_player_ears h_now_player_frame h_now_player_records cy c_later c_now_numbers c_now_player_records) rfl rfl rfl 5 rfl (by decide +kernel); clear hD; obtain ⟨hP, hD⟩ := hP
        replace hP : va_P (dC, dI) vwCl (w_X11_late h0 h_now h_kept h_paper h_spoilt h_prism h_recent h_bandsOfBlock h_now_numbers h_now_book h_now_buffer h_now_coder h_now_sender h_now_player h_now_player_ears h_now_player_frame h_now_player_records cy c_later c_now_numbers c_now_player_records) H1 := hP
        replace hD : va_D A (w_X11_late h0 h_now h_kept h_paper h_spoilt h_prism h_recent h_bandsOfBlock h_now_numbers h_now_book h_now_buffer h_now_coder h_now_sender h_now_player h_now_player_ears h_now_player_frame h_now_player_records cy c_later c_now_numbers c_now_player_records) := hD
        clear hPc hDc hFc hP1 hk1 hz1 hvm ht; clear t; clear H locs; obtain ⟨H, hH⟩ : ∃ H, H = H1 := ⟨_, rfl⟩; obtain ⟨locs, hlo⟩ : ∃ L, L = locs1 := ⟨_, rfl⟩; subst hH; subst hlo
        refine W.widen (k := 0) (n := 0) (Nat.le_refl 0) (Nat.le_refl 0) ?_
        refine lv_iconst (v := 2) hx hb dX11_late_127 (by decide) ?_
        refine jn1 (Gg := fun (x29 : Int32) => ∀ (H : Heap) (locs : List Loc) (ls : Array Slot), va_P (dC, dI) vwCl (w_X11_late h0 h_now h_kept h_paper h_spoilt h_prism h_recent h_bandsOfBlock h_now_numbers h_now_book h_now_buffer h_now_coder h_now_sender h_now_player h_now_player_ears h_now_player_frame h_now_player_records cy c_later c_now_numbers c_now_player_records) H → va_D A (w_X11_late h0 h_now h_kept h_paper h_spoilt h_prism h_recent h_bandsOfBlock h_now_numbers h_now_book h_now_buffer h_now_coder h_now_sender h_now_player h_now_player_ears h_now_player_frame h_now_player_records cy c_later c_now_numbers c_now_player_records) → va_S A s.heap H locs → lv_has ls 9 [(0, .ref h0), (1, .int v1), (2, .int r1), (3, .int x22), (4, .int x23), (5, .int x27), (7, .int x11)] → W p l e { frames := 4, cells := 0, slots := 0, locals := 85 } s m av below meth c H locs 0 0 Q0 (F0 m 136 ls [.int x29, .int x12])) hw ?_ ?_ <;> clear hw
        · clear hP hD hS hl; clear H locs ls; intro x29 hw H locs ls hP hD hS hl
          refine lv_iadd hx hb dX11_late_136 ?_
          refine lv_topi (fun x32 e_x32 => ?_)
          replace hw := hw x32 e_x32
          clear e_x32
          refine lv_istore (lv' := [(6, .int x32), (0, .ref h0), (1, .int v1), (2, .int r1), (3, .int x22), (4, .int x23), (5, .int x27), (7, .int x11)]) hx hb dX11_late_137 hl (by decide) rfl ?_; clear hl; clear ls; intro ls hl
          refine lv_iinc (v := x11 + 1) (lv' := [(7, .int (x11 + 1)), (6, .int x32), (0, .ref h0), (1, .int v1), (2, .int r1), (3, .int x22), (4, .int x23), (5, .int x27)]) hx hb dX11_late_139 hl (k := 7) rfl rfl (by decide) rfl ?_; clear hl; clear ls; intro ls hl
          refine lv_goto (tgt := 42) hx hb dX11_late_142 (by decide) ?_
          exact ih10 (x11 + 1) x32 x27 x23 x22 hw H locs ls hP hD hS (lv_sub hl [0, 1, 7, 6, 5, 4, 2, 3] rfl)
        · intro j31 hw
          refine lv_icmp_ne (tgt := 135) hx hb dX11_late_128 (by decide) (fun c33 => ?_) (fun c33 => ?_)
          · replace hw := hw.2 c33; clear c33
            refine lv_iconst (v := 0) hx hb dX11_late_135 (by decide) ?_
            exact j31 (0 : Int32) hw H locs ls hP hD hS (lv_sub hl [1, 2, 3, 4, 5, 0, 7] rfl)
          · replace hw := hw.1 c33; clear c33
            refine lv_iconst (v := 1) hx hb dX11_late_131 (by decide) ?_
            refine lv_goto (tgt := 136) hx hb dX11_late_132 (by decide) ?_
            exact j31 (1 : Int32) hw H locs ls hP hD hS (lv_sub hl [1, 2, 3, 4, 5, 0, 7] rfl)
      · intro j26 hw
        refine lv_if_ne (tgt := 89) hx hb dX11_late_82 (by decide) (fun c34 => ?_) (fun c34 => ?_)
        · replace hw := hw.2 c34; clear c34
          refine lv_iload hx hb dX11_late_89 (lv_at hl 2 rfl) ?_
          refine lv_aload_n hx hb dX11_late_91 rfl (lv_at hl 7 rfl) ?_
          refine va_get (D := (dC, dI)) (ci := 11) (v := .ref h_now) (C := RX11) (T := TX11) (N := 8) hx hb hts inX11 hown hK hP 0 rfl rfl 0 (by decide) (hts _ (List.mem_cons_of_mem _ mw_15)) (fun _ h9 => h9) rfl dX11_late_92 ?_
          refine va_get (D := (dC, dI)) (ci := 10) (v := .ref h_now_player) (C := RX10) (T := TX10) (N := 6) hx hb hts inX10 hown hK hP 1 rfl rfl 5 (by decide) (hts _ (List.mem_cons_of_mem _ mw_1083)) (fun _ h9 => h9) rfl dX11_late_95 ?_
          refine lv_iload hx hb dX11_late_98 (lv_at hl 3 rfl) ?_
          refine lv_iconst (v := 1) hx hb dX11_late_100 (by decide) ?_
          refine lv_isub hx hb dX11_late_101 ?_
          have hPc := pSub (ws' := (w_X6_lateness h_now_player h_now_numbers h_now_book h_now_buffer h_now_player_ears h_now_player_frame h_now_player_records cy c_now_numbers c_now_player_records)) hP [2, 3, 4] rfl
          have hDc := dSub (ws' := (w_X6_lateness h_now_player h_now_numbers h_now_book h_now_buffer h_now_player_ears h_now_player_frame h_now_player_records cy c_now_numbers c_now_player_records)) hD [2, 3, 4] (by decide) rfl
          have hFc := va_free (wc := (w_X6_lateness h_now_player h_now_numbers h_now_book h_now_buffer h_now_player_ears h_now_player_frame h_now_player_records cy c_now_numbers c_now_player_records)) hD hS hA [2, 3, 4] rfl
          refine va_calli (va_runV (As := [.int (x11 - (1 : Int32))]) (rest := [.int r21, .int x13]) ⟨hx, hb, hml, hown, hts⟩ (c_X6_lateness l dC dI cy h_now_player h_now_numbers h_now_book h_now_buffer h_now_player_ears h_now_player_frame h_now_player_records H.size (x11 - (1 : Int32)) c_now_numbers c_now_player_records _ hw) (cwV 1 hts (goodV mw_1182 mw_1179 mw_1180 mw_1181 mw_56) rfl rfl rfl (by decide +kernel) ⟨Nat.le_of_ble_eq_true rfl, Nat.le_of_ble_eq_true rfl⟩) ⟨PX_blind, va_recv hK hPc (ci := 6) (q0 := 0) rfl rfl, PX_pre hPc hK hDc hG⟩ rfl rfl hl.1 rfl (lv_room (Nat.le_of_ble_eq_true rfl)) dX11_late_102 ⟨Nat.zero_le _, Nat.zero_le _⟩) hS (fun q _ h => hFc q h) hFc ?_; clear hw hS; intro r35 _ t H1 locs1 ht hvm hw hB hz1 hk1 hS
          obtain ⟨hP1, -, -⟩ := hB
          rw [ht] at hP1
          replace hP := jC0 hP hD [2, 3, 4] [0, 1] rfl hk1 hP1 (w_X11_late h0 h_now h_kept h_paper h_spoilt h_prism h_recent h_bandsOfBlock h_now_numbers h_now_book h_now_buffer h_now_coder h_now_sender h_now_player h_now_player_ears h_now_player_frame h_now_player_records cy c_later c_now_numbers c_now_player_records) rfl rfl rfl 5 rfl (by decide +kernel); clear hD; obtain ⟨hP, hD⟩ := hP
          replace hP : va_P (dC, dI) vwCl (w_X11_late h0 h_now h_kept h_paper h_spoilt h_prism h_recent h_bandsOfBlock h_now_numbers h_now_book h_now_buffer h_now_coder h_now_sender h_now_player h_now_player_ears h_now_player_frame h_now_player_records cy c_later c_now_numbers c_now_player_records) H1 := hP
          replace hD : va_D A (w_X11_late h0 h_now h_kept h_paper h_spoilt h_prism h_recent h_bandsOfBlock h_now_numbers h_now_book h_now_buffer h_now_coder h_now_sender h_now_player h_now_player_ears h_now_player_frame h_now_player_records cy c_later c_now_numbers c_now_player_records) := hD
          clear hPc hDc hFc hP1 hk1 hz1 hvm ht; clear t; clear H locs; obtain ⟨H, hH⟩ : ∃ H, H = H1 := ⟨_, rfl⟩; obtain ⟨locs, hlo⟩ : ∃ L, L = locs1 := ⟨_, rfl⟩; subst hH; subst hlo
          refine W.widen (k := 0) (n := 0) (Nat.le_refl 0) (Nat.le_refl 0) ?_
          refine lv_isub hx hb dX11_late_105 ?_
          refine va_mabs hx hb (by rw [hml]; exact hl.1.symm) hown (hts _ (List.mem_cons_of_mem _ mw_1095)) (hts _ (List.mem_cons_of_mem _ mw_296)) (hts _ (List.mem_cons_of_mem _ mw_76)) (hts _ (List.mem_cons_of_mem _ mw_297)) (Nat.le_of_ble_eq_true rfl) (Nat.le_of_ble_eq_true rfl) (Nat.zero_le _) (Nat.zero_le _) dX11_late_106 ?_
          refine lv_topi (fun x36 e_x36 => ?_)
          replace hw := hw x36 e_x36
          clear e_x36
          exact j26 x36 hw H locs ls hP hD hS (lv_sub hl [7, 8, 6, 1, 0, 4, 3] rfl)
        · replace hw := hw.1 c34; clear c34
          refine lv_iconst (v := 0) hx hb dX11_late_85 (by decide) ?_
          refine lv_goto (tgt := 109) hx hb dX11_late_86 (by decide) ?_
          exact j26 (0 : Int32) hw H locs ls hP hD hS (lv_sub hl [7, 8, 6, 1, 0, 4, 3] rfl)
  · replace hw := hw.1 c2; clear c2
    refine lv_ldc (v := -2147483648) hx hb hown (hts _ (List.mem_cons_of_mem _ mw_901)) dX11_late_15 ?_
    subst hQe
    exact W.iret (v := (-2147483648 : Int32)) hx hb hr (fun t ht hW => ⟨⟨(-2147483648 : Int32), (), rfl, hw, by rw [ht]; exact hP, va_K.moved hW.alike hK, hD⟩, hS.F ht⟩) hS.2.2 dX11_late_17
set_option maxHeartbeats 4000000 in
set_option maxRecDepth 100000 in
theorem c_X11_delays (l : Launch) (dC : Nat → ClassId) (dI : Nat → Nat → Nat) (cy : Nat → ClassId) (h0 h_now h_kept h_paper h_spoilt h_prism h_recent h_bandsOfBlock h_now_numbers h_now_book h_now_buffer h_now_coder h_now_sender h_now_player h_now_book_records h_now_book_delays : Nat) (sz : Nat) (v1 : Int32) (v2 : Int32) (c_later : Option Nat) (c_now_book_delays : Nat → Int32) (post : Int32 → Prop) (hw : wp_X11_delays v1 v2 c_now_book_delays post) : Met l yX11_delays wsX11_delays ({ frames := 1, cells := 0, slots := 0, locals := 23 }) (PX dC dI cy [.ref h0, .int v1, .int v2] sz (w_X11_delays h0 h_now h_kept h_paper h_spoilt h_prism h_recent h_bandsOfBlock h_now_numbers h_now_book h_now_buffer h_now_coder h_now_sender h_now_player h_now_book_records h_now_book_delays cy c_later c_now_book_delays)) (va_Qi (fun (r : Int32) (u : Unit) => post r) (QX dC dI cy (va_A (w_X11_delays h0 h_now h_kept h_paper h_spoilt h_prism h_recent h_bandsOfBlock h_now_numbers h_now_book h_now_buffer h_now_coder h_now_sender h_now_player h_now_book_records h_now_book_delays cy c_later c_now_book_delays) sz) (fun (u : Unit) => w_X11_delays h0 h_now h_kept h_paper h_spoilt h_prism h_recent h_bandsOfBlock h_now_numbers h_now_book h_now_buffer h_now_coder h_now_sender h_now_player h_now_book_records h_now_book_delays cy c_later c_now_book_delays)) (va_A (w_X11_delays h0 h_now h_kept h_paper h_spoilt h_prism h_recent h_bandsOfBlock h_now_numbers h_now_book h_now_buffer h_now_coder h_now_sender h_now_player h_now_book_records h_now_book_delays cy c_later c_now_book_delays) sz)) 0 0 (va_A (w_X11_delays h0 h_now h_kept h_paper h_spoilt h_prism h_recent h_bandsOfBlock h_now_numbers h_now_book h_now_buffer h_now_coder h_now_sender h_now_player h_now_book_records h_now_book_delays cy c_later c_now_book_delays) sz) := by
  refine Met.ofW (cc := cX11_delays) (maxL := 3) (ret := (some .int)) (by decide) rfl ?_
  intro p e s m args below meth c s₁ B hml hv
  obtain ⟨rfl, hsz, hP, hK, hD0, hG⟩ := hv
  have hx := B.exec
  have hb := B.bytes
  have hr := B.returns
  have hts := atoms_spec (ws := wsX11_delays) B.pre
  have hown : s.vm.findClass RX11 = some m.cls := findClass_of_methodNamed B.named
  have hlocks := B.notSynchronized
  subst hsz
  have hD := hD0.self (sz := s.heap.size)
  generalize hAe : va_A (w_X11_delays h0 h_now h_kept h_paper h_spoilt h_prism h_recent h_bandsOfBlock h_now_numbers h_now_book h_now_buffer h_now_coder h_now_sender h_now_player h_now_book_records h_now_book_delays cy c_later c_now_book_delays) s.heap.size = A at hD ⊢
  have hA : ∀ q : Nat, s.heap.size ≤ q → A q := fun q h => by rw [← hAe]; exact Or.inr h
  have hS : va_S A s.heap s.heap [] := va_S.rf
  have hl := lv_entry ([.ref h0, .int v1, .int v2]) (n := 3) (Nat.le_of_ble_eq_true rfl)
  rw [lg_entry_eq]
  generalize (lg_sl ([.ref h0, .int v1, .int v2]) ++ List.replicate (3 - (lg_sl ([.ref h0, .int v1, .int v2])).length) Slot.unset).toArray = ls at hl ⊢
  replace hl : lv_has ls 3 [(0, .ref h0), (1, .int v1), (2, .int v2)] := hl
  have inX0 : ∀ w ∈ u_ws RX0 TX0 2, w ∈ wsX11_delays := fun w h => List.mem_cons_of_mem _ (inlX0 w h)
  have inX10 : ∀ w ∈ u_ws RX10 TX10 6, w ∈ wsX11_delays := fun w h => List.mem_cons_of_mem _ (inlX10 w h)
  have inX11 : ∀ w ∈ u_ws RX11 TX11 8, w ∈ wsX11_delays := fun w h => List.mem_cons_of_mem _ (inlX11 w h)
  clear hAe hD0 B
  unfold wp_X11_delays at hw
  generalize hQe : MQ below _ _ s _ _ _ = Q0
  generalize ([.ref h0, .int v1, .int v2] : List Value).toArray = av at *
  obtain ⟨H, hH⟩ : ∃ H, H = s.heap := ⟨_, rfl⟩
  obtain ⟨locs, hlo⟩ : ∃ L : List Loc, L = [] := ⟨_, rfl⟩
  replace hP : va_P (dC, dI) vwCl (w_X11_delays h0 h_now h_kept h_paper h_spoilt h_prism h_recent h_bandsOfBlock h_now_numbers h_now_book h_now_buffer h_now_coder h_now_sender h_now_player h_now_book_records h_now_book_delays cy c_later c_now_book_delays) H := by rw [hH]; exact hP
  replace hS : va_S A s.heap H locs := by rw [hH, hlo]; exact hS
  suffices hgo : W p l e ({ frames := 1, cells := 0, slots := 0, locals := 23 }) s m av below meth c H locs 0 0 Q0 (F0 m 0 ls []) by rw [hH, hlo] at hgo; exact hgo
  clear hH hlo
  refine lv_iload_n hx hb dX11_delays_0 rfl (lv_at hl 1 rfl) ?_
  refine lv_iconst (v := 0) hx hb dX11_delays_1 (by decide) ?_
  refine lv_bipush (v := 15) hx hb dX11_delays_2 (by decide) ?_
  have hPc := pSub (ws' := (w_X11_within cy)) hP [] rfl
  have hDc := dSub (ws' := (w_X11_within cy)) hD [] (by decide) rfl
  have hFc := va_free (wc := (w_X11_within cy)) hD hS hA [] rfl
  refine va_calli (va_runS (As := [.int v1, .int (0 : Int32), .int (15 : Int32)]) (rest := []) ⟨hx, hb, hml, hown, hts⟩ (c_X11_within l dC dI cy  H.size v1 (0 : Int32) (15 : Int32) _ hw) (va_cwS 3 hts (goodS mw_195 mw_193 mw_194 mw_2) rfl rfl rfl (by decide +kernel) ⟨Nat.le_of_ble_eq_true rfl, Nat.le_of_ble_eq_true rfl⟩) ⟨PX_blind, PX_pre hPc hK hDc hG⟩ rfl rfl hl.1 rfl (lv_room (Nat.le_of_ble_eq_true rfl)) dX11_delays_4 ⟨Nat.zero_le _, Nat.zero_le _⟩) hS (fun q _ h => hFc q h) hFc ?_; clear hw hS; intro r1 _ t H1 locs1 ht hvm hw hB hz1 hk1 hS
  obtain ⟨hP1, -, -⟩ := hB
  rw [ht] at hP1
  replace hP := jC0 hP hD [] [0, 1, 2, 3] rfl hk1 hP1 (w_X11_delays h0 h_now h_kept h_paper h_spoilt h_prism h_recent h_bandsOfBlock h_now_numbers h_now_book h_now_buffer h_now_coder h_now_sender h_now_player h_now_book_records h_now_book_delays cy c_later c_now_book_delays) rfl rfl rfl 4 rfl (by decide +kernel); clear hD; obtain ⟨hP, hD⟩ := hP
  replace hP : va_P (dC, dI) vwCl (w_X11_delays h0 h_now h_kept h_paper h_spoilt h_prism h_recent h_bandsOfBlock h_now_numbers h_now_book h_now_buffer h_now_coder h_now_sender h_now_player h_now_book_records h_now_book_delays cy c_later c_now_book_delays) H1 := hP
  replace hD : va_D A (w_X11_delays h0 h_now h_kept h_paper h_spoilt h_prism h_recent h_bandsOfBlock h_now_numbers h_now_book h_now_buffer h_now_coder h_now_sender h_now_player h_now_book_records h_now_book_delays cy c_later c_now_book_delays) := hD
  clear hPc hDc hFc hP1 hk1 hz1 hvm ht; clear t; clear H locs; obtain ⟨H, hH⟩ : ∃ H, H = H1 := ⟨_, rfl⟩; obtain ⟨locs, hlo⟩ : ∃ L, L = locs1 := ⟨_, rfl⟩; subst hH; subst hlo
  refine W.widen (k := 0) (n := 0) (Nat.le_refl 0) (Nat.le_refl 0) ?_
  refine lv_if_eq (tgt := 19) hx hb dX11_delays_7 (by decide) (fun c2 => ?_) (fun c2 => ?_)
  · replace hw := hw.1 c2; clear c2
    refine lv_iconst (v := -1) hx hb dX11_delays_19 (by decide) ?_
    subst hQe
    exact W.iret (v := (-1 : Int32)) hx hb hr (fun t ht hW => ⟨⟨(-1 : Int32), (), rfl, hw, by rw [ht]; exact hP, va_K.moved hW.alike hK, hD⟩, hS.F ht⟩) hS.2.2 dX11_delays_20
  · replace hw := hw.2 c2; clear c2
    refine lv_iload_n hx hb dX11_delays_10 rfl (lv_at hl 2 rfl) ?_
    refine lv_iconst (v := 0) hx hb dX11_delays_11 (by decide) ?_
    refine lv_iconst (v := 1) hx hb dX11_delays_12 (by decide) ?_
    have hPc := pSub (ws' := (w_X11_within cy)) hP [] rfl
    have hDc := dSub (ws' := (w_X11_within cy)) hD [] (by decide) rfl
    have hFc := va_free (wc := (w_X11_within cy)) hD hS hA [] rfl
    refine va_calli (va_runS (As := [.int v2, .int (0 : Int32), .int (1 : Int32)]) (rest := []) ⟨hx, hb, hml, hown, hts⟩ (c_X11_within l dC dI cy  H.size v2 (0 : Int32) (1 : Int32) _ hw) (va_cwS 3 hts (goodS mw_195 mw_193 mw_194 mw_2) rfl rfl rfl (by decide +kernel) ⟨Nat.le_of_ble_eq_true rfl, Nat.le_of_ble_eq_true rfl⟩) ⟨PX_blind, PX_pre hPc hK hDc hG⟩ rfl rfl hl.1 rfl (lv_room (Nat.le_of_ble_eq_true rfl)) dX11_delays_13 ⟨Nat.zero_le _, Nat.zero_le _⟩) hS (fun q _ h => hFc q h) hFc ?_; clear hw hS; intro r3 _ t H1 locs1 ht hvm hw hB hz1 hk1 hS
    obtain ⟨hP1, -, -⟩ := hB
    rw [ht] at hP1
    replace hP := jC0 hP hD [] [0, 1, 2, 3] rfl hk1 hP1 (w_X11_delays h0 h_now h_kept h_paper h_spoilt h_prism h_recent h_bandsOfBlock h_now_numbers h_now_book h_now_buffer h_now_coder h_now_sender h_now_player h_now_book_records h_now_book_delays cy c_later c_now_book_delays) rfl rfl rfl 4 rfl (by decide +kernel); clear hD; obtain ⟨hP, hD⟩ := hP
    replace hP : va_P (dC, dI) vwCl (w_X11_delays h0 h_now h_kept h_paper h_spoilt h_prism h_recent h_bandsOfBlock h_now_numbers h_now_book h_now_buffer h_now_coder h_now_sender h_now_player h_now_book_records h_now_book_delays cy c_later c_now_book_delays) H1 := hP
    replace hD : va_D A (w_X11_delays h0 h_now h_kept h_paper h_spoilt h_prism h_recent h_bandsOfBlock h_now_numbers h_now_book h_now_buffer h_now_coder h_now_sender h_now_player h_now_book_records h_now_book_delays cy c_later c_now_book_delays) := hD
    clear hPc hDc hFc hP1 hk1 hz1 hvm ht; clear t; clear H locs; obtain ⟨H, hH⟩ : ∃ H, H = H1 := ⟨_, rfl⟩; obtain ⟨locs, hlo⟩ : ∃ L, L = locs1 := ⟨_, rfl⟩; subst hH; subst hlo
    refine W.widen (k := 0) (n := 0) (Nat.le_refl 0) (Nat.le_refl 0) ?_
    refine lv_if_ne (tgt := 21) hx hb dX11_delays_16 (by decide) (fun c4 => ?_) (fun c4 => ?_)
    · replace hw := hw.2 c4; clear c4
      refine lv_iload_n hx hb dX11_delays_21 rfl (lv_at hl 2 rfl) ?_
      refine lv_if_ne (tgt := 40) hx hb dX11_delays_22 (by decide) (fun c5 => ?_) (fun c5 => ?_)
      · replace hw := hw.2 c5; clear c5
        refine lv_aload_n hx hb dX11_delays_40 rfl (lv_at hl 0 rfl) ?_
        refine va_get (D := (dC, dI)) (ci := 11) (v := .ref h_now) (C := RX11) (T := TX11) (N := 8) hx hb hts inX11 hown hK hP 0 rfl rfl 0 (by decide) (hts _ (List.mem_cons_of_mem _ mw_15)) (fun _ h9 => h9) rfl dX11_delays_41 ?_
        refine va_get (D := (dC, dI)) (ci := 10) (v := .ref h_now_book) (C := RX10) (T := TX10) (N := 6) hx hb hts inX10 hown hK hP 1 rfl rfl 1 (by decide) (hts _ (List.mem_cons_of_mem _ mw_1135)) (fun _ h9 => h9) rfl dX11_delays_44 ?_
        refine lv_iload_n hx hb dX11_delays_47 rfl (lv_at hl 1 rfl) ?_
        have hPc := pSub (ws' := (w_X0_delaysAbove h_now_book h_now_book_records h_now_book_delays cy c_now_book_delays)) hP [2, 3] rfl
        have hDc := dSub (ws' := (w_X0_delaysAbove h_now_book h_now_book_records h_now_book_delays cy c_now_book_delays)) hD [2, 3] (by decide) rfl
        have hFc := va_free (wc := (w_X0_delaysAbove h_now_book h_now_book_records h_now_book_delays cy c_now_book_delays)) hD hS hA [2, 3] rfl
        refine va_calli (va_runV (As := [.int v1]) (rest := []) ⟨hx, hb, hml, hown, hts⟩ (c_X0_delaysAbove l dC dI cy h_now_book h_now_book_records h_now_book_delays H.size v1 c_now_book_delays _ hw) (cwV 1 hts (goodV mw_1196 mw_1193 mw_1194 mw_1195 mw_40) rfl rfl rfl (by decide +kernel) ⟨Nat.le_of_ble_eq_true rfl, Nat.le_of_ble_eq_true rfl⟩) ⟨PX_blind, va_recv hK hPc (ci := 0) (q0 := 0) rfl rfl, PX_pre hPc hK hDc hG⟩ rfl rfl hl.1 rfl (lv_room (Nat.le_of_ble_eq_true rfl)) dX11_delays_48 ⟨Nat.zero_le _, Nat.zero_le _⟩) hS (fun q _ h => hFc q h) hFc ?_; clear hw hS; intro r6 _ t H1 locs1 ht hvm hw hB hz1 hk1 hS
        obtain ⟨hP1, -, -⟩ := hB
        rw [ht] at hP1
        replace hP := jC0 hP hD [2, 3] [0, 1] rfl hk1 hP1 (w_X11_delays h0 h_now h_kept h_paper h_spoilt h_prism h_recent h_bandsOfBlock h_now_numbers h_now_book h_now_buffer h_now_coder h_now_sender h_now_player h_now_book_records h_now_book_delays cy c_later c_now_book_delays) rfl rfl rfl 4 rfl (by decide +kernel); clear hD; obtain ⟨hP, hD⟩ := hP
        replace hP : va_P (dC, dI) vwCl (w_X11_delays h0 h_now h_kept h_paper h_spoilt h_prism h_recent h_bandsOfBlock h_now_numbers h_now_book h_now_buffer h_now_coder h_now_sender h_now_player h_now_book_records h_now_book_delays cy c_later c_now_book_delays) H1 := hP
        replace hD : va_D A (w_X11_delays h0 h_now h_kept h_paper h_spoilt h_prism h_recent h_bandsOfBlock h_now_numbers h_now_book h_now_buffer h_now_coder h_now_sender h_now_player h_now_book_records h_now_book_delays cy c_later c_now_book_delays) := hD
        clear hPc hDc hFc hP1 hk1 hz1 hvm ht; clear t; clear H locs; obtain ⟨H, hH⟩ : ∃ H, H = H1 := ⟨_, rfl⟩; obtain ⟨locs, hlo⟩ : ∃ L, L = locs1 := ⟨_, rfl⟩; subst hH; subst hlo
        refine W.widen (k := 0) (n := 0) (Nat.le_refl 0) (Nat.le_refl 0) ?_
        subst hQe
        exact W.iret (v := r6) hx hb hr (fun t ht hW => ⟨⟨r6, (), rfl, hw, by rw [ht]; exact hP, va_K.moved hW.alike hK, hD⟩, hS.F ht⟩) hS.2.2 dX11_delays_51
      · replace hw := hw.1 c5; clear c5
        refine lv_aload_n hx hb dX11_delays_25 rfl (lv_at hl 0 rfl) ?_
        refine va_get (D := (dC, dI)) (ci := 11) (v := .ref h_now) (C := RX11) (T := TX11) (N := 8) hx hb hts inX11 hown hK hP 0 rfl rfl 0 (by decide) (hts _ (List.mem_cons_of_mem _ mw_15)) (fun _ h9 => h9) rfl dX11_delays_26 ?_
        refine va_get (D := (dC, dI)) (ci := 10) (v := .ref h_now_book) (C := RX10) (T := TX10) (N := 6) hx hb hts inX10 hown hK hP 1 rfl rfl 1 (by decide) (hts _ (List.mem_cons_of_mem _ mw_1135)) (fun _ h9 => h9) rfl dX11_delays_29 ?_
        refine va_get (D := (dC, dI)) (ci := 0) (v := .ref h_now_book_delays) (C := RX0) (T := TX0) (N := 2) hx hb hts inX0 hown hK hP 2 rfl rfl 1 (by decide) (hts _ (List.mem_cons_of_mem _ mw_1192)) (fun _ h9 => h9) rfl dX11_delays_32 ?_
        refine lv_iload_n hx hb dX11_delays_35 rfl (lv_at hl 1 rfl) ?_
        obtain ⟨h7, hw⟩ := hw
        refine xiald (k := v1.toNatClampNeg) hx hb hK hP 3 0 rfl rfl h7 rfl dX11_delays_36 ?_
        refine lv_goto (tgt := 51) hx hb dX11_delays_37 (by decide) ?_
        subst hQe
        exact W.iret (v := c_now_book_delays v1.toNatClampNeg) hx hb hr (fun t ht hW => ⟨⟨(c_now_book_delays v1.toNatClampNeg), (), rfl, hw, by rw [ht]; exact hP, va_K.moved hW.alike hK, hD⟩, hS.F ht⟩) hS.2.2 dX11_delays_51
    · replace hw := hw.1 c4; clear c4
      refine lv_iconst (v := -1) hx hb dX11_delays_19 (by decide) ?_
      subst hQe
      exact W.iret (v := (-1 : Int32)) hx hb hr (fun t ht hW => ⟨⟨(-1 : Int32), (), rfl, hw, by rw [ht]; exact hP, va_K.moved hW.alike hK, hD⟩, hS.F ht⟩) hS.2.2 dX11_delays_20
set_option maxHeartbeats 4000000 in
set_option maxRecDepth 100000 in
theorem c_X11_isCount (l : Launch) (dC : Nat → ClassId) (dI : Nat → Nat → Nat) (cy : Nat → ClassId) (sz : Nat) (v0 : Int32) (post : Int32 → Prop) (hw : wp_X11_isCount v0 post) : Met l yX11_isCount wsX11_isCount ({ frames := 1, cells := 0, slots := 0, locals := 22 }) (PX dC dI cy [.int v0] sz (w_X11_isCount cy)) (va_Qi (fun (r : Int32) (u : Unit) => post r) (QX dC dI cy (va_A (w_X11_isCount cy) sz) (fun (u : Unit) => w_X11_isCount cy)) (va_A (w_X11_isCount cy) sz)) 0 0 (va_A (w_X11_isCount cy) sz) := by
  refine Met.ofW (cc := cX11_isCount) (maxL := 1) (ret := (some .boolean)) (by decide) rfl ?_
  intro p e s m args below meth c s₁ B hml hv
  obtain ⟨rfl, hsz, hP, hK, hD0, hG⟩ := hv
  have hx := B.exec
  have hb := B.bytes
  have hr := B.returns
  have hts := atoms_spec (ws := wsX11_isCount) B.pre
  have hown : s.vm.findClass RX11 = some m.cls := findClass_of_methodNamed B.named
  have hlocks := B.notSynchronized
  subst hsz
  have hD := hD0.self (sz := s.heap.size)
  generalize hAe : va_A (w_X11_isCount cy) s.heap.size = A at hD ⊢
  have hA : ∀ q : Nat, s.heap.size ≤ q → A q := fun q h => by rw [← hAe]; exact Or.inr h
  have hS : va_S A s.heap s.heap [] := va_S.rf
  have hl := lv_entry ([.int v0]) (n := 1) (Nat.le_of_ble_eq_true rfl)
  rw [lg_entry_eq]
  generalize (lg_sl ([.int v0]) ++ List.replicate (1 - (lg_sl ([.int v0])).length) Slot.unset).toArray = ls at hl ⊢
  replace hl : lv_has ls 1 [(0, .int v0)] := hl
  clear hAe hD0 B
  unfold wp_X11_isCount at hw
  generalize hQe : MQ below _ _ s _ _ _ = Q0
  generalize ([.int v0] : List Value).toArray = av at *
  obtain ⟨H, hH⟩ : ∃ H, H = s.heap := ⟨_, rfl⟩
  obtain ⟨locs, hlo⟩ : ∃ L : List Loc, L = [] := ⟨_, rfl⟩
  replace hP : va_P (dC, dI) vwCl (w_X11_isCount cy) H := by rw [hH]; exact hP
  replace hS : va_S A s.heap H locs := by rw [hH, hlo]; exact hS
  suffices hgo : W p l e ({ frames := 1, cells := 0, slots := 0, locals := 22 }) s m av below meth c H locs 0 0 Q0 (F0 m 0 ls []) by rw [hH, hlo] at hgo; exact hgo
  clear hH hlo
  refine lv_iload_n hx hb dX11_isCount_0 rfl (lv_at hl 0 rfl) ?_
  refine lv_iconst (v := 0) hx hb dX11_isCount_1 (by decide) ?_
  refine lv_bipush (v := 36) hx hb dX11_isCount_2 (by decide) ?_
  have hPc := pSub (ws' := (w_X11_within cy)) hP [] rfl
  have hDc := dSub (ws' := (w_X11_within cy)) hD [] (by decide) rfl
  have hFc := va_free (wc := (w_X11_within cy)) hD hS hA [] rfl
  refine va_calli (va_runS (As := [.int v0, .int (0 : Int32), .int (36 : Int32)]) (rest := []) ⟨hx, hb, hml, hown, hts⟩ (c_X11_within l dC dI cy  H.size v0 (0 : Int32) (36 : Int32) _ hw) (va_cwS 3 hts (goodS mw_195 mw_193 mw_194 mw_2) rfl rfl rfl (by decide +kernel) ⟨Nat.le_of_ble_eq_true rfl, Nat.le_of_ble_eq_true rfl⟩) ⟨PX_blind, PX_pre hPc hK hDc hG⟩ rfl rfl hl.1 rfl (lv_room (Nat.le_of_ble_eq_true rfl)) dX11_isCount_4 ⟨Nat.zero_le _, Nat.zero_le _⟩) hS (fun q _ h => hFc q h) hFc ?_; clear hw hS; intro r1 _ t H1 locs1 ht hvm hw hB hz1 hk1 hS
  obtain ⟨hP1, -, -⟩ := hB
  rw [ht] at hP1
  replace hP := jC0 hP hD [] [] rfl hk1 hP1 (w_X11_isCount cy) rfl rfl rfl 0 rfl (by decide +kernel); clear hD; obtain ⟨hP, hD⟩ := hP
  replace hP : va_P (dC, dI) vwCl (w_X11_isCount cy) H1 := hP
  replace hD : va_D A (w_X11_isCount cy) := hD
  clear hPc hDc hFc hP1 hk1 hz1 hvm ht; clear t; clear H locs; obtain ⟨H, hH⟩ : ∃ H, H = H1 := ⟨_, rfl⟩; obtain ⟨locs, hlo⟩ : ∃ L, L = locs1 := ⟨_, rfl⟩; subst hH; subst hlo
  refine W.widen (k := 0) (n := 0) (Nat.le_refl 0) (Nat.le_refl 0) ?_
  refine lv_if_ne (tgt := 21) hx hb dX11_isCount_7 (by decide) (fun c2 => ?_) (fun c2 => ?_)
  · replace hw := hw.2 c2; clear c2
    refine lv_iconst (v := 1) hx hb dX11_isCount_21 (by decide) ?_
    refine lv_goto (tgt := 26) hx hb dX11_isCount_22 (by decide) ?_
    subst hQe
    exact W.zret (v := (1 : Int32)) hx hb hr isB_1 (fun t ht hW => ⟨⟨(1 : Int32), (), rfl, hw, by rw [ht]; exact hP, va_K.moved hW.alike hK, hD⟩, hS.F ht⟩) hS.2.2 dX11_isCount_26
  · replace hw := hw.1 c2; clear c2
    refine lv_iload_n hx hb dX11_isCount_10 rfl (lv_at hl 0 rfl) ?_
    refine lv_bipush (v := 40) hx hb dX11_isCount_11 (by decide) ?_
    refine lv_bipush (v := 47) hx hb dX11_isCount_13 (by decide) ?_
    have hPc := pSub (ws' := (w_X11_within cy)) hP [] rfl
    have hDc := dSub (ws' := (w_X11_within cy)) hD [] (by decide) rfl
    have hFc := va_free (wc := (w_X11_within cy)) hD hS hA [] rfl
    refine va_calli (va_runS (As := [.int v0, .int (40 : Int32), .int (47 : Int32)]) (rest := []) ⟨hx, hb, hml, hown, hts⟩ (c_X11_within l dC dI cy  H.size v0 (40 : Int32) (47 : Int32) _ hw) (va_cwS 3 hts (goodS mw_195 mw_193 mw_194 mw_2) rfl rfl rfl (by decide +kernel) ⟨Nat.le_of_ble_eq_true rfl, Nat.le_of_ble_eq_true rfl⟩) ⟨PX_blind, PX_pre hPc hK hDc hG⟩ rfl rfl hl.1 rfl (lv_room (Nat.le_of_ble_eq_true rfl)) dX11_isCount_15 ⟨Nat.zero_le _, Nat.zero_le _⟩) hS (fun q _ h => hFc q h) hFc ?_; clear hw hS; intro r3 _ t H1 locs1 ht hvm hw hB hz1 hk1 hS
    obtain ⟨hP1, -, -⟩ := hB
    rw [ht] at hP1
    replace hP := jC0 hP hD [] [] rfl hk1 hP1 (w_X11_isCount cy) rfl rfl rfl 0 rfl (by decide +kernel); clear hD; obtain ⟨hP, hD⟩ := hP
    replace hP : va_P (dC, dI) vwCl (w_X11_isCount cy) H1 := hP
    replace hD : va_D A (w_X11_isCount cy) := hD
    clear hPc hDc hFc hP1 hk1 hz1 hvm ht; clear t; clear H locs; obtain ⟨H, hH⟩ : ∃ H, H = H1 := ⟨_, rfl⟩; obtain ⟨locs, hlo⟩ : ∃ L, L = locs1 := ⟨_, rfl⟩; subst hH; subst hlo
    refine W.widen (k := 0) (n := 0) (Nat.le_refl 0) (Nat.le_refl 0) ?_
    refine lv_if_eq (tgt := 25) hx hb dX11_isCount_18 (by decide) (fun c4 => ?_) (fun c4 => ?_)
    · replace hw := hw.1 c4; clear c4
      refine lv_iconst (v := 0) hx hb dX11_isCount_25 (by decide) ?_
      subst hQe
      exact W.zret (v := (0 : Int32)) hx hb hr isB_0 (fun t ht hW => ⟨⟨(0 : Int32), (), rfl, hw, by rw [ht]; exact hP, va_K.moved hW.alike hK, hD⟩, hS.F ht⟩) hS.2.2 dX11_isCount_26
    · replace hw := hw.2 c4; clear c4
      refine lv_iconst (v := 1) hx hb dX11_isCount_21 (by decide) ?_
      refine lv_goto (tgt := 26) hx hb dX11_isCount_22 (by decide) ?_
      subst hQe
      exact W.zret (v := (1 : Int32)) hx hb hr isB_1 (fun t ht hW => ⟨⟨(1 : Int32), (), rfl, hw, by rw [ht]; exact hP, va_K.moved hW.alike hK, hD⟩, hS.F ht⟩) hS.2.2 dX11_isCount_26
set_option maxHeartbeats 4000000 in
set_option maxRecDepth 100000 in
theorem c_X11_count (l : Launch) (dC : Nat → ClassId) (dI : Nat → Nat → Nat) (cy : Nat → ClassId) (h0 h_now h_kept h_paper h_spoilt h_prism h_recent h_bandsOfBlock h_now_numbers h_now_book h_now_buffer h_now_coder h_now_sender h_now_player : Nat) (sz : Nat) (v1 : Int32) (c_later : Option Nat) (c_now_numbers : Nat → Int32) (post : Int32 → Prop) (hw : wp_X11_count v1 c_now_numbers post) : Met l yX11_count wsX11_count ({ frames := 2, cells := 0, slots := 0, locals := 42 }) (PX dC dI cy [.ref h0, .int v1] sz (w_X11_count h0 h_now h_kept h_paper h_spoilt h_prism h_recent h_bandsOfBlock h_now_numbers h_now_book h_now_buffer h_now_coder h_now_sender h_now_player cy c_later c_now_numbers)) (va_Qi (fun (r : Int32) (u : Unit) => post r) (QX dC dI cy (va_A (w_X11_count h0 h_now h_kept h_paper h_spoilt h_prism h_recent h_bandsOfBlock h_now_numbers h_now_book h_now_buffer h_now_coder h_now_sender h_now_player cy c_later c_now_numbers) sz) (fun (u : Unit) => w_X11_count h0 h_now h_kept h_paper h_spoilt h_prism h_recent h_bandsOfBlock h_now_numbers h_now_book h_now_buffer h_now_coder h_now_sender h_now_player cy c_later c_now_numbers)) (va_A (w_X11_count h0 h_now h_kept h_paper h_spoilt h_prism h_recent h_bandsOfBlock h_now_numbers h_now_book h_now_buffer h_now_coder h_now_sender h_now_player cy c_later c_now_numbers) sz)) 0 0 (va_A (w_X11_count h0 h_now h_kept h_paper h_spoilt h_prism h_recent h_bandsOfBlock h_now_numbers h_now_book h_now_buffer h_now_coder h_now_sender h_now_player cy c_later c_now_numbers) sz) := by
  refine Met.ofW (cc := cX11_count) (maxL := 2) (ret := (some .int)) (by decide) rfl ?_
  intro p e s m args below meth c s₁ B hml hv
  obtain ⟨rfl, hsz, hP, hK, hD0, hG⟩ := hv
  have hx := B.exec
  have hb := B.bytes
  have hr := B.returns
  have hts := atoms_spec (ws := wsX11_count) B.pre
  have hown : s.vm.findClass RX11 = some m.cls := findClass_of_methodNamed B.named
  have hlocks := B.notSynchronized
  subst hsz
  have hD := hD0.self (sz := s.heap.size)
  generalize hAe : va_A (w_X11_count h0 h_now h_kept h_paper h_spoilt h_prism h_recent h_bandsOfBlock h_now_numbers h_now_book h_now_buffer h_now_coder h_now_sender h_now_player cy c_later c_now_numbers) s.heap.size = A at hD ⊢
  have hA : ∀ q : Nat, s.heap.size ≤ q → A q := fun q h => by rw [← hAe]; exact Or.inr h
  have hS : va_S A s.heap s.heap [] := va_S.rf
  have hl := lv_entry ([.ref h0, .int v1]) (n := 2) (Nat.le_of_ble_eq_true rfl)
  rw [lg_entry_eq]
  generalize (lg_sl ([.ref h0, .int v1]) ++ List.replicate (2 - (lg_sl ([.ref h0, .int v1])).length) Slot.unset).toArray = ls at hl ⊢
  replace hl : lv_has ls 2 [(0, .ref h0), (1, .int v1)] := hl
  have inX10 : ∀ w ∈ u_ws RX10 TX10 6, w ∈ wsX11_count := fun w h => List.mem_cons_of_mem _ (inlX10 w h)
  have inX11 : ∀ w ∈ u_ws RX11 TX11 8, w ∈ wsX11_count := fun w h => List.mem_cons_of_mem _ (inlX11 w h)
  clear hAe hD0 B
  unfold wp_X11_count at hw
  generalize hQe : MQ below _ _ s _ _ _ = Q0
  generalize ([.ref h0, .int v1] : List Value).toArray = av at *
  obtain ⟨H, hH⟩ : ∃ H, H = s.heap := ⟨_, rfl⟩
  obtain ⟨locs, hlo⟩ : ∃ L : List Loc, L = [] := ⟨_, rfl⟩
  replace hP : va_P (dC, dI) vwCl (w_X11_count h0 h_now h_kept h_paper h_spoilt h_prism h_recent h_bandsOfBlock h_now_numbers h_now_book h_now_buffer h_now_coder h_now_sender h_now_player cy c_later c_now_numbers) H := by rw [hH]; exact hP
  replace hS : va_S A s.heap H locs := by rw [hH, hlo]; exact hS
  suffices hgo : W p l e ({ frames := 2, cells := 0, slots := 0, locals := 42 }) s m av below meth c H locs 0 0 Q0 (F0 m 0 ls []) by rw [hH, hlo] at hgo; exact hgo
  clear hH hlo
  refine lv_iload_n hx hb dX11_count_0 rfl (lv_at hl 1 rfl) ?_
  have hPc := pSub (ws' := (w_X11_isCount cy)) hP [] rfl
  have hDc := dSub (ws' := (w_X11_isCount cy)) hD [] (by decide) rfl
  have hFc := va_free (wc := (w_X11_isCount cy)) hD hS hA [] rfl
  refine va_calli (va_runS (As := [.int v1]) (rest := []) ⟨hx, hb, hml, hown, hts⟩ (c_X11_isCount l dC dI cy  H.size v1 _ hw) (va_cwS 1 hts (goodS mw_1207 mw_1205 mw_1206 mw_2) rfl rfl rfl (by decide +kernel) ⟨Nat.le_of_ble_eq_true rfl, Nat.le_of_ble_eq_true rfl⟩) ⟨PX_blind, PX_pre hPc hK hDc hG⟩ rfl rfl hl.1 rfl (lv_room (Nat.le_of_ble_eq_true rfl)) dX11_count_1 ⟨Nat.zero_le _, Nat.zero_le _⟩) hS (fun q _ h => hFc q h) hFc ?_; clear hw hS; intro r1 _ t H1 locs1 ht hvm hw hB hz1 hk1 hS
  obtain ⟨hP1, -, -⟩ := hB
  rw [ht] at hP1
  replace hP := jC0 hP hD [] [0, 1, 2] rfl hk1 hP1 (w_X11_count h0 h_now h_kept h_paper h_spoilt h_prism h_recent h_bandsOfBlock h_now_numbers h_now_book h_now_buffer h_now_coder h_now_sender h_now_player cy c_later c_now_numbers) rfl rfl rfl 3 rfl (by decide +kernel); clear hD; obtain ⟨hP, hD⟩ := hP
  replace hP : va_P (dC, dI) vwCl (w_X11_count h0 h_now h_kept h_paper h_spoilt h_prism h_recent h_bandsOfBlock h_now_numbers h_now_book h_now_buffer h_now_coder h_now_sender h_now_player cy c_later c_now_numbers) H1 := hP
  replace hD : va_D A (w_X11_count h0 h_now h_kept h_paper h_spoilt h_prism h_recent h_bandsOfBlock h_now_numbers h_now_book h_now_buffer h_now_coder h_now_sender h_now_player cy c_later c_now_numbers) := hD
  clear hPc hDc hFc hP1 hk1 hz1 hvm ht; clear t; clear H locs; obtain ⟨H, hH⟩ : ∃ H, H = H1 := ⟨_, rfl⟩; obtain ⟨locs, hlo⟩ : ∃ L, L = locs1 := ⟨_, rfl⟩; subst hH; subst hlo
  refine W.widen (k := 0) (n := 0) (Nat.le_refl 0) (Nat.le_refl 0) ?_
  refine lv_if_eq (tgt := 19) hx hb dX11_count_4 (by decide) (fun c2 => ?_) (fun c2 => ?_)
  · replace hw := hw.1 c2; clear c2
    refine lv_ldc (v := -2147483648) hx hb hown (hts _ (List.mem_cons_of_mem _ mw_901)) dX11_count_19 ?_
    subst hQe
    exact W.iret (v := (-2147483648 : Int32)) hx hb hr (fun t ht hW => ⟨⟨(-2147483648 : Int32), (), rfl, hw, by rw [ht]; exact hP, va_K.moved hW.alike hK, hD⟩, hS.F ht⟩) hS.2.2 dX11_count_21
  · replace hw := hw.2 c2; clear c2
    refine lv_aload_n hx hb dX11_count_7 rfl (lv_at hl 0 rfl) ?_
    refine va_get (D := (dC, dI)) (ci := 11) (v := .ref h_now) (C := RX11) (T := TX11) (N := 8) hx hb hts inX11 hown hK hP 0 rfl rfl 0 (by decide) (hts _ (List.mem_cons_of_mem _ mw_15)) (fun _ h9 => h9) rfl dX11_count_8 ?_
    refine va_get (D := (dC, dI)) (ci := 10) (v := .ref h_now_numbers) (C := RX10) (T := TX10) (N := 6) hx hb hts inX10 hown hK hP 1 rfl rfl 0 (by decide) (hts _ (List.mem_cons_of_mem _ mw_192)) (fun _ h9 => h9) rfl dX11_count_11 ?_
    refine lv_iload_n hx hb dX11_count_14 rfl (lv_at hl 1 rfl) ?_
    obtain ⟨h3, hw⟩ := hw
    refine xiald (k := v1.toNatClampNeg) hx hb hK hP 2 0 rfl rfl h3 rfl dX11_count_15 ?_
    refine lv_goto (tgt := 21) hx hb dX11_count_16 (by decide) ?_
    subst hQe
    exact W.iret (v := c_now_numbers v1.toNatClampNeg) hx hb hr (fun t ht hW => ⟨⟨(c_now_numbers v1.toNatClampNeg), (), rfl, hw, by rw [ht]; exact hP, va_K.moved hW.alike hK, hD⟩, hS.F ht⟩) hS.2.2 dX11_count_21
set_option maxHeartbeats 4000000 in
set_option maxRecDepth 100000 in
theorem c_X12_in (l : Launch) (dC : Nat → ClassId) (dI : Nat → Nat → Nat) (cy : Nat → ClassId) (sz : Nat) (v0 : Int64) (v2 : Int64) (v4 : Int64) (post : Int32 → Prop) (hw : wp_X12_in v0 v2 v4 post) : Met l yX12_in wsX12_in ({ frames := 0, cells := 0, slots := 0, locals := 0 }) (PX dC dI cy [.long v0, .long v2, .long v4] sz (w_X12_in cy)) (va_Qi (fun (r : Int32) (u : Unit) => post r) (QX dC dI cy (va_A (w_X12_in cy) sz) (fun (u : Unit) => w_X12_in cy)) (va_A (w_X12_in cy) sz)) 0 0 (va_A (w_X12_in cy) sz) := by
  refine Met.ofW (cc := cX12_in) (maxL := 6) (ret := (some .boolean)) (by decide) rfl ?_
  intro p e s m args below meth c s₁ B hml hv
  obtain ⟨rfl, hsz, hP, hK, hD0, hG⟩ := hv
  have hx := B.exec
  have hb := B.bytes
  have hr := B.returns
  have hts := atoms_spec (ws := wsX12_in) B.pre
  have hown : s.vm.findClass RX12 = some m.cls := findClass_of_methodNamed B.named
  have hlocks := B.notSynchronized
  subst hsz
  have hD := hD0.self (sz := s.heap.size)
  generalize hAe : va_A (w_X12_in cy) s.heap.size = A at hD ⊢
  have hA : ∀ q : Nat, s.heap.size ≤ q → A q := fun q h => by rw [← hAe]; exact Or.inr h
  have hS : va_S A s.heap s.heap [] := va_S.rf
  have hl := lv_entry ([.long v0, .long v2, .long v4]) (n := 6) (Nat.le_of_ble_eq_true rfl)
  rw [lg_entry_eq]
  generalize (lg_sl ([.long v0, .long v2, .long v4]) ++ List.replicate (6 - (lg_sl ([.long v0, .long v2, .long v4])).length) Slot.unset).toArray = ls at hl ⊢
  replace hl : lv_has ls 6 [(0, .long v0), (2, .long v2), (4, .long v4)] := hl
  clear hAe hD0 B
  unfold wp_X12_in at hw
  generalize hQe : MQ below _ _ s _ _ _ = Q0
  generalize ([.long v0, .long v2, .long v4] : List Value).toArray = av at *
  obtain ⟨H, hH⟩ : ∃ H, H = s.heap := ⟨_, rfl⟩
  obtain ⟨locs, hlo⟩ : ∃ L : List Loc, L = [] := ⟨_, rfl⟩
  replace hP : va_P (dC, dI) vwCl (w_X12_in cy) H := by rw [hH]; exact hP
  replace hS : va_S A s.heap H locs := by rw [hH, hlo]; exact hS
  suffices hgo : W p l e ({ frames := 0, cells := 0, slots := 0, locals := 0 }) s m av below meth c H locs 0 0 Q0 (F0 m 0 ls []) by rw [hH, hlo] at hgo; exact hgo
  clear hH hlo
  refine lv_lload_n hx hb dX12_in_0 rfl (lv_at hl 0 rfl) ?_
  refine lv_lload_n hx hb dX12_in_1 rfl (lv_at hl 1 rfl) ?_
  refine W.lcmp hx hb dX12_in_2 ?_
  refine lv_if_lt (tgt := 17) hx hb dX12_in_3 (by decide) (fun c1 => ?_) (fun c1 => ?_)
  · replace hw := hw.1 ((lg_cmp_lt _ _).mp c1); clear c1
    refine lv_iconst (v := 0) hx hb dX12_in_17 (by decide) ?_
    subst hQe
    exact W.zret (v := (0 : Int32)) hx hb hr isB_0 (fun t ht hW => ⟨⟨(0 : Int32), (), rfl, hw, by rw [ht]; exact hP, va_K.moved hW.alike hK, hD⟩, hS.F ht⟩) hS.2.2 dX12_in_18
  · replace hw := hw.2 (fun q => c1 ((lg_cmp_lt _ _).mpr q)); clear c1
    refine lv_lload_n hx hb dX12_in_6 rfl (lv_at hl 0 rfl) ?_
    refine lv_lload hx hb dX12_in_7 (lv_at hl 2 rfl) ?_
    refine W.lcmp hx hb dX12_in_9 ?_
    refine lv_if_gt (tgt := 17) hx hb dX12_in_10 (by decide) (fun c2 => ?_) (fun c2 => ?_)
    · replace hw := hw.1 ((lg_cmp_gt _ _).mp c2); clear c2
      refine lv_iconst (v := 0) hx hb dX12_in_17 (by decide) ?_
      subst hQe
      exact W.zret (v := (0 : Int32)) hx hb hr isB_0 (fun t ht hW => ⟨⟨(0 : Int32), (), rfl, hw, by rw [ht]; exact hP, va_K.moved hW.alike hK, hD⟩, hS.F ht⟩) hS.2.2 dX12_in_18
    · replace hw := hw.2 (fun q => c2 ((lg_cmp_gt _ _).mpr q)); clear c2
      refine lv_iconst (v := 1) hx hb dX12_in_13 (by decide) ?_
      refine lv_goto (tgt := 18) hx hb dX12_in_14 (by decide) ?_
      subst hQe
      exact W.zret (v := (1 : Int32)) hx hb hr isB_1 (fun t ht hW => ⟨⟨(1 : Int32), (), rfl, hw, by rw [ht]; exact hP, va_K.moved hW.alike hK, hD⟩, hS.F ht⟩) hS.2.2 dX12_in_18
set_option maxHeartbeats 4000000 in
set_option maxRecDepth 100000 in
theorem c_X12_nearest (l : Launch) (dC : Nat → ClassId) (dI : Nat → Nat → Nat) (cy : Nat → ClassId) (sz : Nat) (v0 : Int64) (v2 : Int64) (v4 : Int64) (post : Int32 → Prop) (hw : wp_X12_nearest v0 v2 v4 post) : Met l yX12_nearest wsX12_nearest ({ frames := 0, cells := 0, slots := 0, locals := 0 }) (PX dC dI cy [.long v0, .long v2, .long v4] sz (w_X12_nearest cy)) (va_Qi (fun (r : Int32) (u : Unit) => post r) (QX dC dI cy (va_A (w_X12_nearest cy) sz) (fun (u : Unit) => w_X12_nearest cy)) (va_A (w_X12_nearest cy) sz)) 0 0 (va_A (w_X12_nearest cy) sz) := by
  refine Met.ofW (cc := cX12_nearest) (maxL := 6) (ret := (some .int)) (by decide) rfl ?_
  intro p e s m args below meth c s₁ B hml hv
  obtain ⟨rfl, hsz, hP, hK, hD0, hG⟩ := hv
  have hx := B.exec
  have hb := B.bytes
  have hr := B.returns
  have hts := atoms_spec (ws := wsX12_nearest) B.pre
  have hown : s.vm.findClass RX12 = some m.cls := findClass_of_methodNamed B.named
  have hlocks := B.notSynchronized
  subst hsz
  have hD := hD0.self (sz := s.heap.size)
  generalize hAe : va_A (w_X12_nearest cy) s.heap.size = A at hD ⊢
  have hA : ∀ q : Nat, s.heap.size ≤ q → A q := fun q h => by rw [← hAe]; exact Or.inr h
  have hS : va_S A s.heap s.heap [] := va_S.rf
  have hl := lv_entry ([.long v0, .long v2, .long v4]) (n := 6) (Nat.le_of_ble_eq_true rfl)
  rw [lg_entry_eq]
  generalize (lg_sl ([.long v0, .long v2, .long v4]) ++ List.replicate (6 - (lg_sl ([.long v0, .long v2, .long v4])).length) Slot.unset).toArray = ls at hl ⊢
  replace hl : lv_has ls 6 [(0, .long v0), (2, .long v2), (4, .long v4)] := hl
  clear hAe hD0 B
  unfold wp_X12_nearest at hw
  generalize hQe : MQ below _ _ s _ _ _ = Q0
  generalize ([.long v0, .long v2, .long v4] : List Value).toArray = av at *
  obtain ⟨H, hH⟩ : ∃ H, H = s.heap := ⟨_, rfl⟩
  obtain ⟨locs, hlo⟩ : ∃ L : List Loc, L = [] := ⟨_, rfl⟩
  replace hP : va_P (dC, dI) vwCl (w_X12_nearest cy) H := by rw [hH]; exact hP
  replace hS : va_S A s.heap H locs := by rw [hH, hlo]; exact hS
  suffices hgo : W p l e ({ frames := 0, cells := 0, slots := 0, locals := 0 }) s m av below meth c H locs 0 0 Q0 (F0 m 0 ls []) by rw [hH, hlo] at hgo; exact hgo
  clear hH hlo
  refine lv_lload_n hx hb dX12_nearest_0 rfl (lv_at hl 0 rfl) ?_
  refine lv_lload_n hx hb dX12_nearest_1 rfl (lv_at hl 1 rfl) ?_
  refine W.lcmp hx hb dX12_nearest_2 ?_
  refine lv_if_ge (tgt := 10) hx hb dX12_nearest_3 (by decide) (fun c1 => ?_) (fun c1 => ?_)
  · replace hw := hw.1 ((lg_cmp_ge _ _).mp c1); clear c1
    refine lv_lload_n hx hb dX12_nearest_10 rfl (lv_at hl 0 rfl) ?_
    refine lv_lload hx hb dX12_nearest_11 (lv_at hl 2 rfl) ?_
    refine W.lcmp hx hb dX12_nearest_13 ?_
    refine lv_if_le (tgt := 22) hx hb dX12_nearest_14 (by decide) (fun c2 => ?_) (fun c2 => ?_)
    · replace hw := hw.1 ((lg_cmp_le _ _).mp c2); clear c2
      refine lv_lload_n hx hb dX12_nearest_22 rfl (lv_at hl 0 rfl) ?_
      refine lv_l2i (v := v0.toInt32) hx hb dX12_nearest_23 rfl ?_
      subst hQe
      exact W.iret (v := v0.toInt32) hx hb hr (fun t ht hW => ⟨⟨(v0.toInt32), (), rfl, hw, by rw [ht]; exact hP, va_K.moved hW.alike hK, hD⟩, hS.F ht⟩) hS.2.2 dX12_nearest_24
    · replace hw := hw.2 (fun q => c2 ((lg_cmp_le _ _).mpr q)); clear c2
      refine lv_lload hx hb dX12_nearest_17 (lv_at hl 2 rfl) ?_
      refine lv_goto (tgt := 23) hx hb dX12_nearest_19 (by decide) ?_
      refine lv_l2i (v := v4.toInt32) hx hb dX12_nearest_23 rfl ?_
      subst hQe
      exact W.iret (v := v4.toInt32) hx hb hr (fun t ht hW => ⟨⟨(v4.toInt32), (), rfl, hw, by rw [ht]; exact hP, va_K.moved hW.alike hK, hD⟩, hS.F ht⟩) hS.2.2 dX12_nearest_24
  · replace hw := hw.2 (fun q => c1 ((lg_cmp_ge _ _).mpr q)); clear c1
    refine lv_lload_n hx hb dX12_nearest_6 rfl (lv_at hl 1 rfl) ?_
    refine lv_goto (tgt := 23) hx hb dX12_nearest_7 (by decide) ?_
    refine lv_l2i (v := v2.toInt32) hx hb dX12_nearest_23 rfl ?_
    subst hQe
    exact W.iret (v := v2.toInt32) hx hb hr (fun t ht hW => ⟨⟨(v2.toInt32), (), rfl, hw, by rw [ht]; exact hP, va_K.moved hW.alike hK, hD⟩, hS.F ht⟩) hS.2.2 dX12_nearest_24
set_option maxHeartbeats 4000000 in
set_option maxRecDepth 100000 in
theorem c_X12_size (l : Launch) (dC : Nat → ClassId) (dI : Nat → Nat → Nat) (cy : Nat → ClassId) (sz : Nat) (v0 : Int32) (post : Int32 → Prop) (hw : wp_X12_size v0 post) : Met l yX12_size wsX12_size ({ frames := 0, cells := 0, slots := 0, locals := 0 }) (PX dC dI cy [.int v0] sz (w_X12_size cy)) (va_Qi (fun (r : Int32) (u : Unit) => post r) (QX dC dI cy (va_A (w_X12_size cy) sz) (fun (u : Unit) => w_X12_size cy)) (va_A (w_X12_size cy) sz)) 0 0 (va_A (w_X12_size cy) sz) := by
  refine Met.ofW (cc := cX12_size) (maxL := 1) (ret := (some .int)) (by decide) rfl ?_
  intro p e s m args below meth c s₁ B hml hv
  obtain ⟨rfl, hsz, hP, hK, hD0, hG⟩ := hv
  have hx := B.exec
  have hb := B.bytes
  have hr := B.returns
  have hts := atoms_spec (ws := wsX12_size) B.pre
  have hown : s.vm.findClass RX12 = some m.cls := findClass_of_methodNamed B.named
  have hlocks := B.notSynchronized
  subst hsz
  have hD := hD0.self (sz := s.heap.size)
  generalize hAe : va_A (w_X12_size cy) s.heap.size = A at hD ⊢
  have hA : ∀ q : Nat, s.heap.size ≤ q → A q := fun q h => by rw [← hAe]; exact Or.inr h
  have hS : va_S A s.heap s.heap [] := va_S.rf
  have hl := lv_entry ([.int v0]) (n := 1) (Nat.le_of_ble_eq_true rfl)
  rw [lg_entry_eq]
  generalize (lg_sl ([.int v0]) ++ List.replicate (1 - (lg_sl ([.int v0])).length) Slot.unset).toArray = ls at hl ⊢
  replace hl : lv_has ls 1 [(0, .int v0)] := hl
  clear hAe hD0 B
  unfold wp_X12_size at hw
  generalize hQe : MQ below _ _ s _ _ _ = Q0
  generalize ([.int v0] : List Value).toArray = av at *
  obtain ⟨H, hH⟩ : ∃ H, H = s.heap := ⟨_, rfl⟩
  obtain ⟨locs, hlo⟩ : ∃ L : List Loc, L = [] := ⟨_, rfl⟩
  replace hP : va_P (dC, dI) vwCl (w_X12_size cy) H := by rw [hH]; exact hP
  replace hS : va_S A s.heap H locs := by rw [hH, hlo]; exact hS
  suffices hgo : W p l e ({ frames := 0, cells := 0, slots := 0, locals := 0 }) s m av below meth c H locs 0 0 Q0 (F0 m 0 ls []) by rw [hH, hlo] at hgo; exact hgo
  clear hH hlo
  refine lv_iload_n hx hb dX12_size_0 rfl (lv_at hl 0 rfl) ?_
  refine lv_if_ge (tgt := 9) hx hb dX12_size_1 (by decide) (fun c1 => ?_) (fun c1 => ?_)
  · replace hw := hw.1 c1; clear c1
    refine lv_iload_n hx hb dX12_size_9 rfl (lv_at hl 0 rfl) ?_
    subst hQe
    exact W.iret (v := v0) hx hb hr (fun t ht hW => ⟨⟨v0, (), rfl, hw, by rw [ht]; exact hP, va_K.moved hW.alike hK, hD⟩, hS.F ht⟩) hS.2.2 dX12_size_10
  · replace hw := hw.2 c1; clear c1
    refine lv_iload_n hx hb dX12_size_4 rfl (lv_at hl 0 rfl) ?_
    refine lv_ineg hx hb dX12_size_5 ?_
    refine lv_goto (tgt := 10) hx hb dX12_size_6 (by decide) ?_
    subst hQe
    exact W.iret (v := -v0) hx hb hr (fun t ht hW => ⟨⟨(-v0), (), rfl, hw, by rw [ht]; exact hP, va_K.moved hW.alike hK, hD⟩, hS.F ht⟩) hS.2.2 dX12_size_10
set_option maxHeartbeats 4000000 in
set_option maxRecDepth 100000 in
theorem c_X12_down (l : Launch) (dC : Nat → ClassId) (dI : Nat → Nat → Nat) (cy : Nat → ClassId) (sz : Nat) (v0 : Int64) (v2 : Int64) (post : Int64 → Prop) (hw : wp_X12_down v0 v2 post) : Met l yX12_down wsX12_down ({ frames := 0, cells := 0, slots := 0, locals := 0 }) (PX dC dI cy [.long v0, .long v2] sz (w_X12_down cy)) (va_Ql (fun (r : Int64) (u : Unit) => post r) (QX dC dI cy (va_A (w_X12_down cy) sz) (fun (u : Unit) => w_X12_down cy)) (va_A (w_X12_down cy) sz)) 0 0 (va_A (w_X12_down cy) sz) := by
  refine Met.ofW (cc := cX12_down) (maxL := 6) (ret := (some .long)) (by decide) rfl ?_
  intro p e s m args below meth c s₁ B hml hv
  obtain ⟨rfl, hsz, hP, hK, hD0, hG⟩ := hv
  have hx := B.exec
  have hb := B.bytes
  have hr := B.returns
  have hts := atoms_spec (ws := wsX12_down) B.pre
  have hown : s.vm.findClass RX12 = some m.cls := findClass_of_methodNamed B.named
  have hlocks := B.notSynchronized
  subst hsz
  have hD := hD0.self (sz := s.heap.size)
  generalize hAe : va_A (w_X12_down cy) s.heap.size = A at hD ⊢
  have hA : ∀ q : Nat, s.heap.size ≤ q → A q := fun q h => by rw [← hAe]; exact Or.inr h
  have hS : va_S A s.heap s.heap [] := va_S.rf
  have hl := lv_entry ([.long v0, .long v2]) (n := 6) (Nat.le_of_ble_eq_true rfl)
  rw [lg_entry_eq]
  generalize (lg_sl ([.long v0, .long v2]) ++ List.replicate (6 - (lg_sl ([.long v0, .long v2])).length) Slot.unset).toArray = ls at hl ⊢
  replace hl : lv_has ls 6 [(0, .long v0), (2, .long v2)] := hl
  clear hAe hD0 B
  unfold wp_X12_down at hw
  generalize hQe : MQ below _ _ s _ _ _ = Q0
  generalize ([.long v0, .long v2] : List Value).toArray = av at *
  obtain ⟨H, hH⟩ : ∃ H, H = s.heap := ⟨_, rfl⟩
  obtain ⟨locs, hlo⟩ : ∃ L : List Loc, L = [] := ⟨_, rfl⟩
  replace hP : va_P (dC, dI) vwCl (w_X12_down cy) H := by rw [hH]; exact hP
  replace hS : va_S A s.heap H locs := by rw [hH, hlo]; exact hS
  suffices hgo : W p l e ({ frames := 0, cells := 0, slots := 0, locals := 0 }) s m av below meth c H locs 0 0 Q0 (F0 m 0 ls []) by rw [hH, hlo] at hgo; exact hgo
  clear hH hlo
  refine lv_lload_n hx hb dX12_down_0 rfl (lv_at hl 0 rfl) ?_
  refine lv_lload_n hx hb dX12_down_1 rfl (lv_at hl 1 rfl) ?_
  obtain ⟨h1, hw⟩ := hw
  refine lv_ldiv hx hb dX12_down_2 h1 ?_
  refine lv_topl (fun x2 e_x2 => ?_)
  replace hw := hw x2 e_x2
  clear e_x2
  refine lv_lstore (lv' := [(4, .long x2), (0, .long v0), (2, .long v2)]) hx hb dX12_down_3 hl (by decide) rfl ?_; clear hl; clear ls; intro ls hl
  refine lv_lload_n hx hb dX12_down_5 rfl (lv_at hl 1 rfl) ?_
  refine lv_lload_n hx hb dX12_down_6 rfl (lv_at hl 2 rfl) ?_
  obtain ⟨h3, hw⟩ := hw
  refine lv_lrem hx hb dX12_down_7 h3 ?_
  refine lv_topl (fun x4 e_x4 => ?_)
  replace hw := hw x4 e_x4
  clear e_x4
  refine lv_lconst (v := 0) hx hb dX12_down_8 (by decide) ?_
  refine W.lcmp hx hb dX12_down_9 ?_
  refine lv_if_ge (tgt := 20) hx hb dX12_down_10 (by decide) (fun c5 => ?_) (fun c5 => ?_)
  · replace hw := hw.1 ((lg_cmp_ge _ _).mp c5); clear c5
    refine lv_lload hx hb dX12_down_20 (lv_at hl 0 rfl) ?_
    subst hQe
    exact W.lret (v := x2) hx hb hr (fun t ht hW => ⟨⟨x2, (), rfl, hw, by rw [ht]; exact hP, va_K.moved hW.alike hK, hD⟩, hS.F ht⟩) hS.2.2 dX12_down_22
  · replace hw := hw.2 (fun q => c5 ((lg_cmp_ge _ _).mpr q)); clear c5
    refine lv_lload hx hb dX12_down_13 (lv_at hl 0 rfl) ?_
    refine lv_lconst (v := 1) hx hb dX12_down_15 (by decide) ?_
    refine lv_lsub hx hb dX12_down_16 ?_
    refine lv_goto (tgt := 22) hx hb dX12_down_17 (by decide) ?_
    subst hQe
    exact W.lret (v := x2 - (1 : Int64)) hx hb hr (fun t ht hW => ⟨⟨(x2 - (1 : Int64)), (), rfl, hw, by rw [ht]; exact hP, va_K.moved hW.alike hK, hD⟩, hS.F ht⟩) hS.2.2 dX12_down_22
set_option maxHeartbeats 4000000 in
set_option maxRecDepth 100000 in
theorem c_X12_copy (l : Launch) (dC : Nat → ClassId) (dI : Nat → Nat → Nat) (cy : Nat → ClassId) (k0 k2 : Nat) (n_p0 n_p2 : Nat) (sz : Nat) (v1 : Int32) (v3 : Int32) (p0 : Nat → Int32) (p2 : Nat → Int32) (post : (Nat → Int32) → Prop) (hw : wp_X12_copy n_p0 n_p2 v1 v3 p0 p2 post) : Met l yX12_copy wsX12_copy ({ frames := 0, cells := 0, slots := 0, locals := 0 }) (PX dC dI cy [.ref k0, .int v1, .ref k2, .int v3] sz (w_X12_copy k0 k2 cy n_p0 n_p2 p0 p2)) (va_Qv (fun (u : (Nat → Int32)) => post u) (QX dC dI cy (va_A (w_X12_copy k0 k2 cy n_p0 n_p2 p0 p2) sz) (fun (u : (Nat → Int32)) => w_X12_copy k0 k2 cy n_p0 n_p2 p0 u)) (va_A (w_X12_copy k0 k2 cy n_p0 n_p2 p0 p2) sz)) 0 0 (va_A (w_X12_copy k0 k2 cy n_p0 n_p2 p0 p2) sz) := by
  refine Met.ofW (cc := cX12_copy) (maxL := 5) (ret := none) (by decide) rfl ?_
  intro p e s m args below meth c s₁ B hml hv
  obtain ⟨rfl, hsz, hP, hK, hD0, hG⟩ := hv
  have hx := B.exec
  have hb := B.bytes
  have hr := B.returns
  have hts := atoms_spec (ws := wsX12_copy) B.pre
  have hown : s.vm.findClass RX12 = some m.cls := findClass_of_methodNamed B.named
  have hlocks := B.notSynchronized
  subst hsz
  have hD := hD0.self (sz := s.heap.size)
  generalize hAe : va_A (w_X12_copy k0 k2 cy n_p0 n_p2 p0 p2) s.heap.size = A at hD ⊢
  have hA : ∀ q : Nat, s.heap.size ≤ q → A q := fun q h => by rw [← hAe]; exact Or.inr h
  have hS : va_S A s.heap s.heap [] := va_S.rf
  have hl := lv_entry ([.ref k0, .int v1, .ref k2, .int v3]) (n := 5) (Nat.le_of_ble_eq_true rfl)
  rw [lg_entry_eq]
  generalize (lg_sl ([.ref k0, .int v1, .ref k2, .int v3]) ++ List.replicate (5 - (lg_sl ([.ref k0, .int v1, .ref k2, .int v3])).length) Slot.unset).toArray = ls at hl ⊢
  replace hl : lv_has ls 5 [(0, .ref k0), (1, .int v1), (2, .ref k2), (3, .int v3)] := hl
  clear hAe hD0 B
  unfold wp_X12_copy at hw
  generalize hQe : MQ below _ _ s _ _ _ = Q0
  generalize ([.ref k0, .int v1, .ref k2, .int v3] : List Value).toArray = av at *
  obtain ⟨H, hH⟩ : ∃ H, H = s.heap := ⟨_, rfl⟩
  obtain ⟨locs, hlo⟩ : ∃ L : List Loc, L = [] := ⟨_, rfl⟩
  replace hP : va_P (dC, dI) vwCl (w_X12_copy k0 k2 cy n_p0 n_p2 p0 p2) H := by rw [hH]; exact hP
  replace hS : va_S A s.heap H locs := by rw [hH, hlo]; exact hS
  suffices hgo : W p l e ({ frames := 0, cells := 0, slots := 0, locals := 0 }) s m av below meth c H locs 0 0 Q0 (F0 m 0 ls []) by rw [hH, hlo] at hgo; exact hgo
  clear hH hlo
  refine lv_iconst (v := 0) hx hb dX12_copy_0 (by decide) ?_
  refine lv_istore (lv' := [(4, .int (0 : Int32)), (0, .ref k0), (1, .int v1), (2, .ref k2), (3, .int v3)]) hx hb dX12_copy_1 hl (by decide) rfl ?_; clear hl; clear ls; intro ls hl
  obtain ⟨x1, e_x1⟩ : ∃ y : Int32, y = (0 : Int32) := ⟨_, rfl⟩
  replace hw := hw x1 e_x1
  replace hl : lv_has ls 5 [(4, .int x1), (0, .ref k0), (1, .int v1), (2, .ref k2), (3, .int v3)] := by rw [e_x1]; exact hl
  clear e_x1
  replace hl := lv_sub (l' := [(4, .int x1), (0, .ref k0), (1, .int v1), (2, .ref k2), (3, .int v3)]) hl [0, 1, 2, 3, 4] rfl
  revert hl; revert hS; revert hD; revert hP; revert ls; revert locs; revert H
  revert hw; revert p2; revert x1
  refine Lz2_gr ?_; intro g2 ih3 x4 f5 hw
  intro H locs ls hP hD hS hl
  refine lv_iload hx hb dX12_copy_3 (lv_at hl 0 rfl) ?_
  refine lv_sipush (v := 13385) hx hb dX12_copy_5 (by decide) ?_
  refine lv_icmp_ge (tgt := 29) hx hb dX12_copy_8 (by decide) (fun c6 => ?_) (fun c6 => ?_)
  · replace hw := hw.1 c6; clear c6
    clear ih3
    subst hQe
    exact W.vret hx hb hr (fun t ht hW => ⟨⟨f5, rfl, hw, by rw [ht]; exact hP, va_K.moved hW.alike hK, hD⟩, hS.F ht⟩) hS.2.2 dX12_copy_29
  · replace hw := hw.2 c6; clear c6
    refine lv_aload_n hx hb dX12_copy_11 rfl (lv_at hl 3 rfl) ?_
    refine lv_iload_n hx hb dX12_copy_12 rfl (lv_at hl 4 rfl) ?_
    refine lv_iload hx hb dX12_copy_13 (lv_at hl 0 rfl) ?_
    refine lv_iadd hx hb dX12_copy_15 ?_
    refine lv_aload_n hx hb dX12_copy_16 rfl (lv_at hl 1 rfl) ?_
    refine lv_iload_n hx hb dX12_copy_17 rfl (lv_at hl 2 rfl) ?_
    refine lv_iload hx hb dX12_copy_18 (lv_at hl 0 rfl) ?_
    refine lv_iadd hx hb dX12_copy_20 ?_
    obtain ⟨h7, hw⟩ := hw
    refine xiald (k := (v1 + x4).toNatClampNeg) hx hb hK hP 0 0 rfl rfl h7 rfl dX12_copy_21 ?_
    obtain ⟨h8, hw⟩ := hw
    refine xiast (k := (v3 + x4).toNatClampNeg) hx hb hK hP hD hS 1 0 rfl rfl h8 rfl dX12_copy_22 ?_; clear hP hD hS; clear H locs; intro f9 e_f9 H locs hP hD hS
    replace hw := hw f9 e_f9
    clear e_f9
    replace hP : va_P (dC, dI) vwCl (w_X12_copy k0 k2 cy n_p0 n_p2 p0 f9) H := hP
    replace hD : va_D A (w_X12_copy k0 k2 cy n_p0 n_p2 p0 f9) := hD
    refine lv_iinc (v := x4 + 1) (lv' := [(4, .int (x4 + 1)), (0, .ref k0), (1, .int v1), (2, .ref k2), (3, .int v3)]) hx hb dX12_copy_23 hl (k := 0) rfl rfl (by decide) rfl ?_; clear hl; clear ls; intro ls hl
    refine lv_goto (tgt := 3) hx hb dX12_copy_26 (by decide) ?_
    exact ih3 (x4 + 1) f9 hw H locs ls hP hD hS (lv_sub hl [0, 1, 2, 3, 4] rfl)
set_option maxHeartbeats 4000000 in
set_option maxRecDepth 100000 in
theorem c_X12_begin (l : Launch) (dC : Nat → ClassId) (dI : Nat → Nat → Nat) (cy : Nat → ClassId) (h0 h_row h_kept h_isKept h_aside h_eight h_rows h_scales h_dealt h_bytes h_heardRow h_made h_comes h_backs h_fresh : Nat) (sz : Nat) (c_thrown : Int32) (c_nodeS : Int32) (c_nodeD : Int32) (c_pairE : Int32) (c_pairO : Int32) (c_bit : Int32) (c_lag : Int32) (c_lagSum : Int32) (c_row : Nat → Int32) (post : (Nat → Int32) → Prop) (hw : wp_X12_begin c_row post) : Met l yX12_begin wsX12_begin ({ frames := 0, cells := 0, slots := 0, locals := 0 }) (PX dC dI cy [.ref h0] sz (w_X12_begin h0 h_row h_kept h_isKept h_aside h_eight h_rows h_scales h_dealt h_bytes h_heardRow h_made h_comes h_backs h_fresh cy c_thrown c_nodeS c_nodeD c_pairE c_pairO c_bit c_lag c_lagSum c_row)) (va_Qv (fun (u : (Nat → Int32)) => post u) (QX dC dI cy (va_A (w_X12_begin h0 h_row h_kept h_isKept h_aside h_eight h_rows h_scales h_dealt h_bytes h_heardRow h_made h_comes h_backs h_fresh cy c_thrown c_nodeS c_nodeD c_pairE c_pairO c_bit c_lag c_lagSum c_row) sz) (fun (u : (Nat → Int32)) => w_X12_begin h0 h_row h_kept h_isKept h_aside h_eight h_rows h_scales h_dealt h_bytes h_heardRow h_made h_comes h_backs h_fresh cy c_thrown c_nodeS c_nodeD c_pairE c_pairO c_bit c_lag c_lagSum u)) (va_A (w_X12_begin h0 h_row h_kept h_isKept h_aside h_eight h_rows h_scales h_dealt h_bytes h_heardRow h_made h_comes h_backs h_fresh cy c_thrown c_nodeS c_nodeD c_pairE c_pairO c_bit c_lag c_lagSum c_row) sz)) 0 0 (va_A (w_X12_begin h0 h_row h_kept h_isKept h_aside h_eight h_rows h_scales h_dealt h_bytes h_heardRow h_made h_comes h_backs h_fresh cy c_thrown c_nodeS c_nodeD c_pairE c_pairO c_bit c_lag c_lagSum c_row) sz) := by
  refine Met.ofW (cc := cX12_begin) (maxL := 2) (ret := none) (by decide) rfl ?_
  intro p e s m args below meth c s₁ B hml hv
  obtain ⟨rfl, hsz, hP, hK, hD0, hG⟩ := hv
  have hx := B.exec
  have hb := B.bytes
  have hr := B.returns
  have hts := atoms_spec (ws := wsX12_begin) B.pre
  have hown : s.vm.findClass RX12 = some m.cls := findClass_of_methodNamed B.named
  have hlocks := B.notSynchronized
  subst hsz
  have hD := hD0.self (sz := s.heap.size)
  generalize hAe : va_A (w_X12_begin h0 h_row h_kept h_isKept h_aside h_eight h_rows h_scales h_dealt h_bytes h_heardRow h_made h_comes h_backs h_fresh cy c_thrown c_nodeS c_nodeD c_pairE c_pairO c_bit c_lag c_lagSum c_row) s.heap.size = A at hD ⊢
  have hA : ∀ q : Nat, s.heap.size ≤ q → A q := fun q h => by rw [← hAe]; exact Or.inr h
  have hS : va_S A s.heap s.heap [] := va_S.rf
  have hl := lv_entry ([.ref h0]) (n := 2) (Nat.le_of_ble_eq_true rfl)
  rw [lg_entry_eq]
  generalize (lg_sl ([.ref h0]) ++ List.replicate (2 - (lg_sl ([.ref h0])).length) Slot.unset).toArray = ls at hl ⊢
  replace hl : lv_has ls 2 [(0, .ref h0)] := hl
  have inX12 : ∀ w ∈ u_ws RX12 TX12 22, w ∈ wsX12_begin := fun w h => List.mem_cons_of_mem _ (inlX12 w h)
  clear hAe hD0 B
  unfold wp_X12_begin at hw
  generalize hQe : MQ below _ _ s _ _ _ = Q0
  generalize ([.ref h0] : List Value).toArray = av at *
  obtain ⟨H, hH⟩ : ∃ H, H = s.heap := ⟨_, rfl⟩
  obtain ⟨locs, hlo⟩ : ∃ L : List Loc, L = [] := ⟨_, rfl⟩
  replace hP : va_P (dC, dI) vwCl (w_X12_begin h0 h_row h_kept h_isKept h_aside h_eight h_rows h_scales h_dealt h_bytes h_heardRow h_made h_comes h_backs h_fresh cy c_thrown c_nodeS c_nodeD c_pairE c_pairO c_bit c_lag c_lagSum c_row) H := by rw [hH]; exact hP
  replace hS : va_S A s.heap H locs := by rw [hH, hlo]; exact hS
  suffices hgo : W p l e ({ frames := 0, cells := 0, slots := 0, locals := 0 }) s m av below meth c H locs 0 0 Q0 (F0 m 0 ls []) by rw [hH, hlo] at hgo; exact hgo
  clear hH hlo
  refine lv_bipush (v := 25) hx hb dX12_begin_0 (by decide) ?_
  refine lv_istore_n (lv' := [(1, .int (25 : Int32)), (0, .ref h0)]) hx hb dX12_begin_2 rfl hl (by decide) rfl ?_; clear hl; clear ls; intro ls hl
  obtain ⟨x1, e_x1⟩ : ∃ y : Int32, y = (25 : Int32) := ⟨_, rfl⟩
  replace hw := hw x1 e_x1
  replace hl : lv_has ls 2 [(1, .int x1), (0, .ref h0)] := by rw [e_x1]; exact hl
  clear e_x1
  replace hl := lv_sub (l' := [(1, .int x1), (0, .ref h0)]) hl [0, 1] rfl
  revert hl; revert hS; revert hD; revert hP; revert ls; revert locs; revert H
  revert hw; revert c_row; revert x1
  refine Lz2_gr ?_; intro g2 ih3 x4 f5 hw
  intro H locs ls hP hD hS hl
  refine lv_iload_n hx hb dX12_begin_3 rfl (lv_at hl 0 rfl) ?_
  refine lv_sipush (v := 13385) hx hb dX12_begin_4 (by decide) ?_
  refine lv_icmp_ge (tgt := 23) hx hb dX12_begin_7 (by decide) (fun c6 => ?_) (fun c6 => ?_)
  · replace hw := hw.1 c6; clear c6
    clear ih3
    refine lv_aload_n hx hb dX12_begin_23 rfl (lv_at hl 1 rfl) ?_
    refine va_get (D := (dC, dI)) (ci := 12) (v := .ref h_row) (C := RX12) (T := TX12) (N := 22) hx hb hts inX12 hown hK hP 0 rfl rfl 1 (by decide) (hts _ (List.mem_cons_of_mem _ mw_169)) (fun _ h9 => h9) rfl dX12_begin_24 ?_
    refine lv_bipush (v := 49) hx hb dX12_begin_27 (by decide) ?_
    refine lv_aload_n hx hb dX12_begin_29 rfl (lv_at hl 1 rfl) ?_
    refine va_get (D := (dC, dI)) (ci := 12) (v := .ref h_row) (C := RX12) (T := TX12) (N := 22) hx hb hts inX12 hown hK hP 0 rfl rfl 1 (by decide) (hts _ (List.mem_cons_of_mem _ mw_169)) (fun _ h9 => h9) rfl dX12_begin_30 ?_
    refine lv_bipush (v := 6) hx hb dX12_begin_33 (by decide) ?_
    refine xiald (k := 6) hx hb hK hP 1 0 rfl rfl (vpL 6 13385 rfl) (by decide) dX12_begin_35 ?_
    refine xiast (k := 49) hx hb hK hP hD hS 1 0 rfl rfl (vpL 49 13385 rfl) (by decide) dX12_begin_36 ?_; clear hP hD hS; clear H locs; intro f9 e_f9 H locs hP hD hS
    replace hw := hw f9 e_f9
    clear e_f9
    replace hP : va_P (dC, dI) vwCl (w_X12_begin h0 h_row h_kept h_isKept h_aside h_eight h_rows h_scales h_dealt h_bytes h_heardRow h_made h_comes h_backs h_fresh cy c_thrown c_nodeS c_nodeD c_pairE c_pairO c_bit c_lag c_lagSum f9) H := hP
    replace hD : va_D A (w_X12_begin h0 h_row h_kept h_isKept h_aside h_eight h_rows h_scales h_dealt h_bytes h_heardRow h_made h_comes h_backs h_fresh cy c_thrown c_nodeS c_nodeD c_pairE c_pairO c_bit c_lag c_lagSum f9) := hD
    refine lv_aload_n hx hb dX12_begin_37 rfl (lv_at hl 1 rfl) ?_
    refine va_get (D := (dC, dI)) (ci := 12) (v := .ref h_row) (C := RX12) (T := TX12) (N := 22) hx hb hts inX12 hown hK hP 0 rfl rfl 1 (by decide) (hts _ (List.mem_cons_of_mem _ mw_169)) (fun _ h9 => h9) rfl dX12_begin_38 ?_
    refine lv_bipush (v := 43) hx hb dX12_begin_41 (by decide) ?_
    refine lv_aload_n hx hb dX12_begin_43 rfl (lv_at hl 1 rfl) ?_
    refine va_get (D := (dC, dI)) (ci := 12) (v := .ref h_row) (C := RX12) (T := TX12) (N := 22) hx hb hts inX12 hown hK hP 0 rfl rfl 1 (by decide) (hts _ (List.mem_cons_of_mem _ mw_169)) (fun _ h9 => h9) rfl dX12_begin_44 ?_
    refine lv_bipush (v := 7) hx hb dX12_begin_47 (by decide) ?_
    refine xiald (k := 7) hx hb hK hP 1 0 rfl rfl (vpL 7 13385 rfl) (by decide) dX12_begin_49 ?_
    refine xiast (k := 43) hx hb hK hP hD hS 1 0 rfl rfl (vpL 43 13385 rfl) (by decide) dX12_begin_50 ?_; clear hP hD hS; clear H locs; intro f12 e_f12 H locs hP hD hS
    replace hw := hw f12 e_f12
    clear e_f12
    replace hP : va_P (dC, dI) vwCl (w_X12_begin h0 h_row h_kept h_isKept h_aside h_eight h_rows h_scales h_dealt h_bytes h_heardRow h_made h_comes h_backs h_fresh cy c_thrown c_nodeS c_nodeD c_pairE c_pairO c_bit c_lag c_lagSum f12) H := hP
    replace hD : va_D A (w_X12_begin h0 h_row h_kept h_isKept h_aside h_eight h_rows h_scales h_dealt h_bytes h_heardRow h_made h_comes h_backs h_fresh cy c_thrown c_nodeS c_nodeD c_pairE c_pairO c_bit c_lag c_lagSum f12) := hD
    subst hQe
    exact W.vret hx hb hr (fun t ht hW => ⟨⟨f12, rfl, hw, by rw [ht]; exact hP, va_K.moved hW.alike hK, hD⟩, hS.F ht⟩) hS.2.2 dX12_begin_51
  · replace hw := hw.2 c6; clear c6
    refine lv_aload_n hx hb dX12_begin_10 rfl (lv_at hl 1 rfl) ?_
    refine va_get (D := (dC, dI)) (ci := 12) (v := .ref h_row) (C := RX12) (T := TX12) (N := 22) hx hb hts inX12 hown hK hP 0 rfl rfl 1 (by decide) (hts _ (List.mem_cons_of_mem _ mw_169)) (fun _ h9 => h9) rfl dX12_begin_11 ?_
    refine lv_iload_n hx hb dX12_begin_14 rfl (lv_at hl 0 rfl) ?_
    refine lv_iconst (v := 0) hx hb dX12_begin_15 (by decide) ?_
    obtain ⟨h13, hw⟩ := hw
    refine xiast (k := x4.toNatClampNeg) hx hb hK hP hD hS 1 0 rfl rfl h13 rfl dX12_begin_16 ?_; clear hP hD hS; clear H locs; intro f14 e_f14 H locs hP hD hS
    replace hw := hw f14 e_f14
    clear e_f14
    replace hP : va_P (dC, dI) vwCl (w_X12_begin h0 h_row h_kept h_isKept h_aside h_eight h_rows h_scales h_dealt h_bytes h_heardRow h_made h_comes h_backs h_fresh cy c_thrown c_nodeS c_nodeD c_pairE c_pairO c_bit c_lag c_lagSum f14) H := hP
    replace hD : va_D A (w_X12_begin h0 h_row h_kept h_isKept h_aside h_eight h_rows h_scales h_dealt h_bytes h_heardRow h_made h_comes h_backs h_fresh cy c_thrown c_nodeS c_nodeD c_pairE c_pairO c_bit c_lag c_lagSum f14) := hD
    refine lv_iinc (v := x4 + 1) (lv' := [(1, .int (x4 + 1)), (0, .ref h0)]) hx hb dX12_begin_17 hl (k := 0) rfl rfl (by decide) rfl ?_; clear hl; clear ls; intro ls hl
    refine lv_goto (tgt := 3) hx hb dX12_begin_20 (by decide) ?_
    exact ih3 (x4 + 1) f14 hw H locs ls hP hD hS (lv_sub hl [0, 1] rfl)
set_option maxHeartbeats 4000000 in
set_option maxRecDepth 100000 in
theorem c_X12_draw (l : Launch) (dC : Nat → ClassId) (dI : Nat → Nat → Nat) (cy : Nat → ClassId) (h0 h_row h_kept h_isKept h_aside h_eight h_rows h_scales h_dealt h_bytes h_heardRow h_made h_comes h_backs h_fresh : Nat) (sz : Nat) (c_thrown : Int32) (c_nodeS : Int32) (c_nodeD : Int32) (c_pairE : Int32) (c_pairO : Int32) (c_bit : Int32) (c_lag : Int32) (c_lagSum : Int32) (c_row : Nat → Int32) (post : Int32 → (Nat → Int32) → Prop) (hw : wp_X12_draw c_row post) : Met l yX12_draw wsX12_draw ({ frames := 0, cells := 0, slots := 0, locals := 0 }) (PX dC dI cy [.ref h0] sz (w_X12_draw h0 h_row h_kept h_isKept h_aside h_eight h_rows h_scales h_dealt h_bytes h_heardRow h_made h_comes h_backs h_fresh cy c_thrown c_nodeS c_nodeD c_pairE c_pairO c_bit c_lag c_lagSum c_row)) (va_Qi (fun (r : Int32) (u : (Nat → Int32)) => post r u) (QX dC dI cy (va_A (w_X12_draw h0 h_row h_kept h_isKept h_aside h_eight h_rows h_scales h_dealt h_bytes h_heardRow h_made h_comes h_backs h_fresh cy c_thrown c_nodeS c_nodeD c_pairE c_pairO c_bit c_lag c_lagSum c_row) sz) (fun (u : (Nat → Int32)) => w_X12_draw h0 h_row h_kept h_isKept h_aside h_eight h_rows h_scales h_dealt h_bytes h_heardRow h_made h_comes h_backs h_fresh cy c_thrown c_nodeS c_nodeD c_pairE c_pairO c_bit c_lag c_lagSum u)) (va_A (w_X12_draw h0 h_row h_kept h_isKept h_aside h_eight h_rows h_scales h_dealt h_bytes h_heardRow h_made h_comes h_backs h_fresh cy c_thrown c_nodeS c_nodeD c_pairE c_pairO c_bit c_lag c_lagSum c_row) sz)) 0 0 (va_A (w_X12_draw h0 h_row h_kept h_isKept h_aside h_eight h_rows h_scales h_dealt h_bytes h_heardRow h_made h_comes h_backs h_fresh cy c_thrown c_nodeS c_nodeD c_pairE c_pairO c_bit c_lag c_lagSum c_row) sz) := by
  refine Met.ofW (cc := cX12_draw) (maxL := 1) (ret := (some .int)) (by decide) rfl ?_
  intro p e s m args below meth c s₁ B hml hv
  obtain ⟨rfl, hsz, hP, hK, hD0, hG⟩ := hv
  have hx := B.exec
  have hb := B.bytes
  have hr := B.returns
  have hts := atoms_spec (ws := wsX12_draw) B.pre
  have hown : s.vm.findClass RX12 = some m.cls := findClass_of_methodNamed B.named
  have hlocks := B.notSynchronized
  subst hsz
  have hD := hD0.self (sz := s.heap.size)
  generalize hAe : va_A (w_X12_draw h0 h_row h_kept h_isKept h_aside h_eight h_rows h_scales h_dealt h_bytes h_heardRow h_made h_comes h_backs h_fresh cy c_thrown c_nodeS c_nodeD c_pairE c_pairO c_bit c_lag c_lagSum c_row) s.heap.size = A at hD ⊢
  have hA : ∀ q : Nat, s.heap.size ≤ q → A q := fun q h => by rw [← hAe]; exact Or.inr h
  have hS : va_S A s.heap s.heap [] := va_S.rf
  have hl := lv_entry ([.ref h0]) (n := 1) (Nat.le_of_ble_eq_true rfl)
  rw [lg_entry_eq]
  generalize (lg_sl ([.ref h0]) ++ List.replicate (1 - (lg_sl ([.ref h0])).length) Slot.unset).toArray = ls at hl ⊢
  replace hl : lv_has ls 1 [(0, .ref h0)] := hl
  have inX12 : ∀ w ∈ u_ws RX12 TX12 22, w ∈ wsX12_draw := fun w h => List.mem_cons_of_mem _ (inlX12 w h)
  clear hAe hD0 B
  unfold wp_X12_draw at hw
  generalize hQe : MQ below _ _ s _ _ _ = Q0
  generalize ([.ref h0] : List Value).toArray = av at *
  obtain ⟨H, hH⟩ : ∃ H, H = s.heap := ⟨_, rfl⟩
  obtain ⟨locs, hlo⟩ : ∃ L : List Loc, L = [] := ⟨_, rfl⟩
  replace hP : va_P (dC, dI) vwCl (w_X12_draw h0 h_row h_kept h_isKept h_aside h_eight h_rows h_scales h_dealt h_bytes h_heardRow h_made h_comes h_backs h_fresh cy c_thrown c_nodeS c_nodeD c_pairE c_pairO c_bit c_lag c_lagSum c_row) H := by rw [hH]; exact hP
  replace hS : va_S A s.heap H locs := by rw [hH, hlo]; exact hS
  suffices hgo : W p l e ({ frames := 0, cells := 0, slots := 0, locals := 0 }) s m av below meth c H locs 0 0 Q0 (F0 m 0 ls []) by rw [hH, hlo] at hgo; exact hgo
  clear hH hlo
  refine lv_aload_n hx hb dX12_draw_0 rfl (lv_at hl 0 rfl) ?_
  refine va_get (D := (dC, dI)) (ci := 12) (v := .ref h_row) (C := RX12) (T := TX12) (N := 22) hx hb hts inX12 hown hK hP 0 rfl rfl 1 (by decide) (hts _ (List.mem_cons_of_mem _ mw_169)) (fun _ h9 => h9) rfl dX12_draw_1 ?_
  refine lv_bipush (v := 49) hx hb dX12_draw_4 (by decide) ?_
  refine lv_aload_n hx hb dX12_draw_6 rfl (lv_at hl 0 rfl) ?_
  refine va_get (D := (dC, dI)) (ci := 12) (v := .ref h_row) (C := RX12) (T := TX12) (N := 22) hx hb hts inX12 hown hK hP 0 rfl rfl 1 (by decide) (hts _ (List.mem_cons_of_mem _ mw_169)) (fun _ h9 => h9) rfl dX12_draw_7 ?_
  refine lv_bipush (v := 49) hx hb dX12_draw_10 (by decide) ?_
  refine xiald (k := 49) hx hb hK hP 1 0 rfl rfl (vpL 49 13385 rfl) (by decide) dX12_draw_12 ?_
  refine lv_i2l (v := (c_row 49).toInt64) hx hb dX12_draw_13 rfl ?_
  refine lv_ldc2 (v := 1103) hx hb hown (hts _ (List.mem_cons_of_mem _ mw_705)) dX12_draw_14 ?_
  refine lv_lmul hx hb dX12_draw_17 ?_
  refine lv_ldc2 (v := 12345) hx hb hown (hts _ (List.mem_cons_of_mem _ mw_706)) dX12_draw_18 ?_
  refine lv_ladd hx hb dX12_draw_21 ?_
  refine lv_ldc2 (v := 1000003) hx hb hown (hts _ (List.mem_cons_of_mem _ mw_707)) dX12_draw_22 ?_
  refine lv_lrem hx hb dX12_draw_25 (by decide) ?_
  refine lv_topl (fun x2 e_x2 => ?_)
  replace hw := hw x2 e_x2
  clear e_x2
  refine lv_l2i (v := x2.toInt32) hx hb dX12_draw_26 rfl ?_
  refine xiast (k := 49) hx hb hK hP hD hS 1 0 rfl rfl (vpL 49 13385 rfl) (by decide) dX12_draw_27 ?_; clear hP hD hS; clear H locs; intro f4 e_f4 H locs hP hD hS
  replace hw := hw f4 e_f4
  clear e_f4
  replace hP : va_P (dC, dI) vwCl (w_X12_draw h0 h_row h_kept h_isKept h_aside h_eight h_rows h_scales h_dealt h_bytes h_heardRow h_made h_comes h_backs h_fresh cy c_thrown c_nodeS c_nodeD c_pairE c_pairO c_bit c_lag c_lagSum f4) H := hP
  replace hD : va_D A (w_X12_draw h0 h_row h_kept h_isKept h_aside h_eight h_rows h_scales h_dealt h_bytes h_heardRow h_made h_comes h_backs h_fresh cy c_thrown c_nodeS c_nodeD c_pairE c_pairO c_bit c_lag c_lagSum f4) := hD
  refine lv_aload_n hx hb dX12_draw_28 rfl (lv_at hl 0 rfl) ?_
  refine va_get (D := (dC, dI)) (ci := 12) (v := .ref h_row) (C := RX12) (T := TX12) (N := 22) hx hb hts inX12 hown hK hP 0 rfl rfl 1 (by decide) (hts _ (List.mem_cons_of_mem _ mw_169)) (fun _ h9 => h9) rfl dX12_draw_29 ?_
  refine lv_bipush (v := 49) hx hb dX12_draw_32 (by decide) ?_
  refine xiald (k := 49) hx hb hK hP 1 0 rfl rfl (vpL 49 13385 rfl) (by decide) dX12_draw_34 ?_
  refine lv_bipush (v := 16) hx hb dX12_draw_35 (by decide) ?_
  refine lv_idiv hx hb dX12_draw_37 (by decide) ?_
  refine lv_topi (fun x6 e_x6 => ?_)
  replace hw := hw x6 e_x6
  clear e_x6
  subst hQe
  exact W.iret (v := x6) hx hb hr (fun t ht hW => ⟨⟨x6, f4, rfl, hw, by rw [ht]; exact hP, va_K.moved hW.alike hK, hD⟩, hS.F ht⟩) hS.2.2 dX12_draw_38
set_option maxHeartbeats 4000000 in
set_option maxRecDepth 100000 in
theorem c_X12_keep (l : Launch) (dC : Nat → ClassId) (dI : Nat → Nat → Nat) (cy : Nat → ClassId) (h0 h_row h_kept h_isKept h_aside h_eight h_rows h_scales h_dealt h_bytes h_heardRow h_made h_comes h_backs h_fresh : Nat) (sz : Nat) (v1 : Int32) (c_thrown : Int32) (c_nodeS : Int32) (c_nodeD : Int32) (c_pairE : Int32) (c_pairO : Int32) (c_bit : Int32) (c_lag : Int32) (c_lagSum : Int32) (c_row : Nat → Int32) (c_kept : Nat → Int32) (c_isKept : Nat → Int32) (post : Int32 → Int32 → (Nat → Int32) → (Nat → Int32) → Prop) (hw : wp_X12_keep v1 c_thrown c_row c_kept c_isKept post) : Met l yX12_keep wsX12_keep ({ frames := 1, cells := 0, slots := 0, locals := 25 }) (PX dC dI cy [.ref h0, .int v1] sz (w_X12_keep h0 h_row h_kept h_isKept h_aside h_eight h_rows h_scales h_dealt h_bytes h_heardRow h_made h_comes h_backs h_fresh cy c_thrown c_nodeS c_nodeD c_pairE c_pairO c_bit c_lag c_lagSum c_row c_kept c_isKept)) (va_Qi (fun (r : Int32) (u : Int32 × (Nat → Int32) × (Nat → Int32)) => post r u.1 u.2.1 u.2.2) (QX dC dI cy (va_A (w_X12_keep h0 h_row h_kept h_isKept h_aside h_eight h_rows h_scales h_dealt h_bytes h_heardRow h_made h_comes h_backs h_fresh cy c_thrown c_nodeS c_nodeD c_pairE c_pairO c_bit c_lag c_lagSum c_row c_kept c_isKept) sz) (fun (u : Int32 × (Nat → Int32) × (Nat → Int32)) => w_X12_keep h0 h_row h_kept h_isKept h_aside h_eight h_rows h_scales h_dealt h_bytes h_heardRow h_made h_comes h_backs h_fresh cy u.1 c_nodeS c_nodeD c_pairE c_pairO c_bit c_lag c_lagSum c_row u.2.1 u.2.2)) (va_A (w_X12_keep h0 h_row h_kept h_isKept h_aside h_eight h_rows h_scales h_dealt h_bytes h_heardRow h_made h_comes h_backs h_fresh cy c_thrown c_nodeS c_nodeD c_pairE c_pairO c_bit c_lag c_lagSum c_row c_kept c_isKept) sz)) 0 0 (va_A (w_X12_keep h0 h_row h_kept h_isKept h_aside h_eight h_rows h_scales h_dealt h_bytes h_heardRow h_made h_comes h_backs h_fresh cy c_thrown c_nodeS c_nodeD c_pairE c_pairO c_bit c_lag c_lagSum c_row c_kept c_isKept) sz) := by
  refine Met.ofW (cc := cX12_keep) (maxL := 2) (ret := (some .boolean)) (by decide) rfl ?_
  intro p e s m args below meth c s₁ B hml hv
  obtain ⟨rfl, hsz, hP, hK, hD0, hG⟩ := hv
  have hx := B.exec
  have hb := B.bytes
  have hr := B.returns
  have hts := atoms_spec (ws := wsX12_keep) B.pre
  have hown : s.vm.findClass RX12 = some m.cls := findClass_of_methodNamed B.named
  have hlocks := B.notSynchronized
  subst hsz
  have hD := hD0.self (sz := s.heap.size)
  generalize hAe : va_A (w_X12_keep h0 h_row h_kept h_isKept h_aside h_eight h_rows h_scales h_dealt h_bytes h_heardRow h_made h_comes h_backs h_fresh cy c_thrown c_nodeS c_nodeD c_pairE c_pairO c_bit c_lag c_lagSum c_row c_kept c_isKept) s.heap.size = A at hD ⊢
  have hA : ∀ q : Nat, s.heap.size ≤ q → A q := fun q h => by rw [← hAe]; exact Or.inr h
  have hS : va_S A s.heap s.heap [] := va_S.rf
  have hl := lv_entry ([.ref h0, .int v1]) (n := 2) (Nat.le_of_ble_eq_true rfl)
  rw [lg_entry_eq]
  generalize (lg_sl ([.ref h0, .int v1]) ++ List.replicate (2 - (lg_sl ([.ref h0, .int v1])).length) Slot.unset).toArray = ls at hl ⊢
  replace hl : lv_has ls 2 [(0, .ref h0), (1, .int v1)] := hl
  have inX12 : ∀ w ∈ u_ws RX12 TX12 22, w ∈ wsX12_keep := fun w h => List.mem_cons_of_mem _ (inlX12 w h)
  clear hAe hD0 B
  unfold wp_X12_keep at hw
  generalize hQe : MQ below _ _ s _ _ _ = Q0
  generalize ([.ref h0, .int v1] : List Value).toArray = av at *
  obtain ⟨H, hH⟩ : ∃ H, H = s.heap := ⟨_, rfl⟩
  obtain ⟨locs, hlo⟩ : ∃ L : List Loc, L = [] := ⟨_, rfl⟩
  replace hP : va_P (dC, dI) vwCl (w_X12_keep h0 h_row h_kept h_isKept h_aside h_eight h_rows h_scales h_dealt h_bytes h_heardRow h_made h_comes h_backs h_fresh cy c_thrown c_nodeS c_nodeD c_pairE c_pairO c_bit c_lag c_lagSum c_row c_kept c_isKept) H := by rw [hH]; exact hP
  replace hS : va_S A s.heap H locs := by rw [hH, hlo]; exact hS
  suffices hgo : W p l e ({ frames := 1, cells := 0, slots := 0, locals := 25 }) s m av below meth c H locs 0 0 Q0 (F0 m 0 ls []) by rw [hH, hlo] at hgo; exact hgo
  clear hH hlo
  refine lv_aload_n hx hb dX12_keep_0 rfl (lv_at hl 0 rfl) ?_
  refine lv_iconst (v := 0) hx hb dX12_keep_1 (by decide) ?_
  refine va_put (D := (dC, dI)) (ci := 12) (v := .int (0 : Int32)) (ty := .int) (C := RX12) (T := TX12) (N := 22) hx hb hts inX12 tyX12 tyX12_ok nmX12 hown hK hP hD hS 0 rfl rfl 0 (by decide) (hts _ (List.mem_cons_of_mem _ mw_200)) (fun _ h9 => h9) rfl (by decide +kernel) rfl rfl (Nat.le_of_ble_eq_true rfl) dX12_keep_2 ?_; clear hP hD hS; clear H locs; intro H locs hP hD hS
  replace hP : va_P (dC, dI) vwCl (w_X12_keep h0 h_row h_kept h_isKept h_aside h_eight h_rows h_scales h_dealt h_bytes h_heardRow h_made h_comes h_backs h_fresh cy (0 : Int32) c_nodeS c_nodeD c_pairE c_pairO c_bit c_lag c_lagSum c_row c_kept c_isKept) H := hP
  replace hD : va_D A (w_X12_keep h0 h_row h_kept h_isKept h_aside h_eight h_rows h_scales h_dealt h_bytes h_heardRow h_made h_comes h_backs h_fresh cy (0 : Int32) c_nodeS c_nodeD c_pairE c_pairO c_bit c_lag c_lagSum c_row c_kept c_isKept) := hD
  refine lv_iload_n hx hb dX12_keep_5 rfl (lv_at hl 1 rfl) ?_
  refine lv_i2l (v := v1.toInt64) hx hb dX12_keep_6 rfl ?_
  refine lv_lconst (v := 0) hx hb dX12_keep_7 (by decide) ?_
  refine lv_lconst (v := 1) hx hb dX12_keep_8 (by decide) ?_
  have hPc := pSub (ws' := (w_X12_in cy)) hP [] rfl
  have hDc := dSub (ws' := (w_X12_in cy)) hD [] (by decide) rfl
  have hFc := va_free (wc := (w_X12_in cy)) hD hS hA [] rfl
  refine va_calli (va_runS (As := [.long (v1.toInt64), .long (0 : Int64), .long (1 : Int64)]) (rest := []) ⟨hx, hb, hml, hown, hts⟩ (c_X12_in l dC dI cy  H.size (v1.toInt64) (0 : Int64) (1 : Int64) _ hw) (va_cwS 3 hts (goodS mw_207 mw_205 mw_206 mw_5) rfl rfl rfl (by decide +kernel) ⟨Nat.le_of_ble_eq_true rfl, Nat.le_of_ble_eq_true rfl⟩) ⟨PX_blind, PX_pre hPc hK hDc hG⟩ rfl rfl hl.1 rfl (lv_room (Nat.le_of_ble_eq_true rfl)) dX12_keep_9 ⟨Nat.zero_le _, Nat.zero_le _⟩) hS (fun q _ h => hFc q h) hFc ?_; clear hw hS; intro r1 _ t H1 locs1 ht hvm hw hB hz1 hk1 hS
  obtain ⟨hP1, -, -⟩ := hB
  rw [ht] at hP1
  replace hP := jC0 hP hD [] [0, 1, 2, 3] rfl hk1 hP1 (w_X12_keep h0 h_row h_kept h_isKept h_aside h_eight h_rows h_scales h_dealt h_bytes h_heardRow h_made h_comes h_backs h_fresh cy (0 : Int32) c_nodeS c_nodeD c_pairE c_pairO c_bit c_lag c_lagSum c_row c_kept c_isKept) rfl rfl rfl 4 rfl (by decide +kernel); clear hD; obtain ⟨hP, hD⟩ := hP
  replace hP : va_P (dC, dI) vwCl (w_X12_keep h0 h_row h_kept h_isKept h_aside h_eight h_rows h_scales h_dealt h_bytes h_heardRow h_made h_comes h_backs h_fresh cy (0 : Int32) c_nodeS c_nodeD c_pairE c_pairO c_bit c_lag c_lagSum c_row c_kept c_isKept) H1 := hP
  replace hD : va_D A (w_X12_keep h0 h_row h_kept h_isKept h_aside h_eight h_rows h_scales h_dealt h_bytes h_heardRow h_made h_comes h_backs h_fresh cy (0 : Int32) c_nodeS c_nodeD c_pairE c_pairO c_bit c_lag c_lagSum c_row c_kept c_isKept) := hD
  clear hPc hDc hFc hP1 hk1 hz1 hvm ht; clear t; clear H locs; obtain ⟨H, hH⟩ : ∃ H, H = H1 := ⟨_, rfl⟩; obtain ⟨locs, hlo⟩ : ∃ L, L = locs1 := ⟨_, rfl⟩; subst hH; subst hlo
  refine W.widen (k := 0) (n := 0) (Nat.le_refl 0) (Nat.le_refl 0) ?_
  refine lv_if_ne (tgt := 17) hx hb dX12_keep_12 (by decide) (fun c2 => ?_) (fun c2 => ?_)
  · replace hw := hw.2 c2; clear c2
    refine lv_aload_n hx hb dX12_keep_17 rfl (lv_at hl 0 rfl) ?_
    refine va_get (D := (dC, dI)) (ci := 12) (v := .ref h_row) (C := RX12) (T := TX12) (N := 22) hx hb hts inX12 hown hK hP 0 rfl rfl 1 (by decide) (hts _ (List.mem_cons_of_mem _ mw_169)) (fun _ h9 => h9) rfl dX12_keep_18 ?_
    refine lv_iconst (v := 0) hx hb dX12_keep_21 (by decide) ?_
    refine lv_aload_n hx hb dX12_keep_22 rfl (lv_at hl 0 rfl) ?_
    refine va_get (D := (dC, dI)) (ci := 12) (v := .ref h_kept) (C := RX12) (T := TX12) (N := 22) hx hb hts inX12 hown hK hP 0 rfl rfl 2 (by decide) (hts _ (List.mem_cons_of_mem _ mw_170)) (fun _ h9 => h9) rfl dX12_keep_23 ?_
    refine lv_sipush (v := 13385) hx hb dX12_keep_26 (by decide) ?_
    refine lv_iload_n hx hb dX12_keep_29 rfl (lv_at hl 1 rfl) ?_
    refine lv_imul hx hb dX12_keep_30 ?_
    have hPc := pSub (ws' := (w_X12_copy h_row h_kept cy 13385 26770 c_row c_kept)) hP [1, 2] rfl
    have hDc := dSub (ws' := (w_X12_copy h_row h_kept cy 13385 26770 c_row c_kept)) hD [1, 2] (by decide) rfl
    have hFc := va_free (wc := (w_X12_copy h_row h_kept cy 13385 26770 c_row c_kept)) hD hS hA [1, 2] rfl
    refine va_callv (va_runS (As := [.ref h_row, .int (0 : Int32), .ref h_kept, .int ((13385 : Int32) * v1)]) (rest := []) ⟨hx, hb, hml, hown, hts⟩ (c_X12_copy l dC dI cy h_row h_kept 13385 26770 H.size (0 : Int32) ((13385 : Int32) * v1) c_row c_kept _ hw) (va_cwS 4 hts (goodS mw_887 mw_885 mw_886 mw_5) rfl rfl rfl (by decide +kernel) ⟨Nat.le_of_ble_eq_true rfl, Nat.le_of_ble_eq_true rfl⟩) ⟨PX_blind, PX_pre hPc hK hDc hG⟩ rfl rfl hl.1 rfl (lv_room (Nat.le_of_ble_eq_true rfl)) dX12_keep_31 ⟨Nat.zero_le _, Nat.zero_le _⟩) hS (fun q _ h => hFc q h) hFc ?_; clear hw hS; intro f3 t H1 locs1 ht hvm hw hB hz1 hk1 hS
    obtain ⟨hP1, -, -⟩ := hB
    rw [ht] at hP1
    replace hP := jC0 hP hD [1, 2] [0, 3] rfl hk1 hP1 (w_X12_keep h0 h_row h_kept h_isKept h_aside h_eight h_rows h_scales h_dealt h_bytes h_heardRow h_made h_comes h_backs h_fresh cy (0 : Int32) c_nodeS c_nodeD c_pairE c_pairO c_bit c_lag c_lagSum c_row f3 c_isKept) rfl rfl rfl 4 rfl (by decide +kernel); clear hD; obtain ⟨hP, hD⟩ := hP
    replace hP : va_P (dC, dI) vwCl (w_X12_keep h0 h_row h_kept h_isKept h_aside h_eight h_rows h_scales h_dealt h_bytes h_heardRow h_made h_comes h_backs h_fresh cy (0 : Int32) c_nodeS c_nodeD c_pairE c_pairO c_bit c_lag c_lagSum c_row f3 c_isKept) H1 := hP
    replace hD : va_D A (w_X12_keep h0 h_row h_kept h_isKept h_aside h_eight h_rows h_scales h_dealt h_bytes h_heardRow h_made h_comes h_backs h_fresh cy (0 : Int32) c_nodeS c_nodeD c_pairE c_pairO c_bit c_lag c_lagSum c_row f3 c_isKept) := hD
    clear hPc hDc hFc hP1 hk1 hz1 hvm ht; clear t; clear H locs; obtain ⟨H, hH⟩ : ∃ H, H = H1 := ⟨_, rfl⟩; obtain ⟨locs, hlo⟩ : ∃ L, L = locs1 := ⟨_, rfl⟩; subst hH; subst hlo
    refine W.widen (k := 0) (n := 0) (Nat.le_refl 0) (Nat.le_refl 0) ?_
    refine lv_aload_n hx hb dX12_keep_34 rfl (lv_at hl 0 rfl) ?_
    refine va_get (D := (dC, dI)) (ci := 12) (v := .ref h_isKept) (C := RX12) (T := TX12) (N := 22) hx hb hts inX12 hown hK hP 0 rfl rfl 3 (by decide) (hts _ (List.mem_cons_of_mem _ mw_172)) (fun _ h9 => h9) rfl dX12_keep_35 ?_
    refine lv_iload_n hx hb dX12_keep_38 rfl (lv_at hl 1 rfl) ?_
    refine lv_iconst (v := 1) hx hb dX12_keep_39 (by decide) ?_
    obtain ⟨h4, hw⟩ := hw
    refine xzast (k := v1.toNatClampNeg) hx hb hK hP hD hS 3 1 rfl rfl h4 rfl dX12_keep_40 ?_; clear hP hD hS; clear H locs; intro f5 e_f5 H locs hP hD hS
    replace hw := hw f5 e_f5
    clear e_f5
    replace hP : va_P (dC, dI) vwCl (w_X12_keep h0 h_row h_kept h_isKept h_aside h_eight h_rows h_scales h_dealt h_bytes h_heardRow h_made h_comes h_backs h_fresh cy (0 : Int32) c_nodeS c_nodeD c_pairE c_pairO c_bit c_lag c_lagSum c_row f3 f5) H := hP
    replace hD : va_D A (w_X12_keep h0 h_row h_kept h_isKept h_aside h_eight h_rows h_scales h_dealt h_bytes h_heardRow h_made h_comes h_backs h_fresh cy (0 : Int32) c_nodeS c_nodeD c_pairE c_pairO c_bit c_lag c_lagSum c_row f3 f5) := hD
    refine lv_iconst (v := 1) hx hb dX12_keep_41 (by decide) ?_
    subst hQe
    exact W.zret (v := (1 : Int32)) hx hb hr isB_1 (fun t ht hW => ⟨⟨(1 : Int32), ((0 : Int32), f3, f5), rfl, hw, by rw [ht]; exact hP, va_K.moved hW.alike hK, hD⟩, hS.F ht⟩) hS.2.2 dX12_keep_42
  · replace hw := hw.1 c2; clear c2
    refine lv_iconst (v := 0) hx hb dX12_keep_15 (by decide) ?_
    subst hQe
    exact W.zret (v := (0 : Int32)) hx hb hr isB_0 (fun t ht hW => ⟨⟨(0 : Int32), ((0 : Int32), c_kept, c_isKept), rfl, hw, by rw [ht]; exact hP, va_K.moved hW.alike hK, hD⟩, hS.F ht⟩) hS.2.2 dX12_keep_16
set_option maxHeartbeats 4000000 in
set_option maxRecDepth 100000 in
theorem c_X12_again (l : Launch) (dC : Nat → ClassId) (dI : Nat → Nat → Nat) (cy : Nat → ClassId) (h0 h_row h_kept h_isKept h_aside h_eight h_rows h_scales h_dealt h_bytes h_heardRow h_made h_comes h_backs h_fresh : Nat) (sz : Nat) (v1 : Int32) (c_thrown : Int32) (c_nodeS : Int32) (c_nodeD : Int32) (c_pairE : Int32) (c_pairO : Int32) (c_bit : Int32) (c_lag : Int32) (c_lagSum : Int32) (c_isKept : Nat → Int32) (c_kept : Nat → Int32) (c_row : Nat → Int32) (post : Int32 → Int32 → (Nat → Int32) → Prop) (hw : wp_X12_again v1 c_thrown c_isKept c_kept c_row post) : Met l yX12_again wsX12_again ({ frames := 1, cells := 0, slots := 0, locals := 25 }) (PX dC dI cy [.ref h0, .int v1] sz (w_X12_again h0 h_row h_kept h_isKept h_aside h_eight h_rows h_scales h_dealt h_bytes h_heardRow h_made h_comes h_backs h_fresh cy c_thrown c_nodeS c_nodeD c_pairE c_pairO c_bit c_lag c_lagSum c_isKept c_kept c_row)) (va_Qi (fun (r : Int32) (u : Int32 × (Nat → Int32)) => post r u.1 u.2) (QX dC dI cy (va_A (w_X12_again h0 h_row h_kept h_isKept h_aside h_eight h_rows h_scales h_dealt h_bytes h_heardRow h_made h_comes h_backs h_fresh cy c_thrown c_nodeS c_nodeD c_pairE c_pairO c_bit c_lag c_lagSum c_isKept c_kept c_row) sz) (fun (u : Int32 × (Nat → Int32)) => w_X12_again h0 h_row h_kept h_isKept h_aside h_eight h_rows h_scales h_dealt h_bytes h_heardRow h_made h_comes h_backs h_fresh cy u.1 c_nodeS c_nodeD c_pairE c_pairO c_bit c_lag c_lagSum c_isKept c_kept u.2)) (va_A (w_X12_again h0 h_row h_kept h_isKept h_aside h_eight h_rows h_scales h_dealt h_bytes h_heardRow h_made h_comes h_backs h_fresh cy c_thrown c_nodeS c_nodeD c_pairE c_pairO c_bit c_lag c_lagSum c_isKept c_kept c_row) sz)) 0 0 (va_A (w_X12_again h0 h_row h_kept h_isKept h_aside h_eight h_rows h_scales h_dealt h_bytes h_heardRow h_made h_comes h_backs h_fresh cy c_thrown c_nodeS c_nodeD c_pairE c_pairO c_bit c_lag c_lagSum c_isKept c_kept c_row) sz) := by
  refine Met.ofW (cc := cX12_again) (maxL := 2) (ret := (some .boolean)) (by decide) rfl ?_
  intro p e s m args below meth c s₁ B hml hv
  obtain ⟨rfl, hsz, hP, hK, hD0, hG⟩ := hv
  have hx := B.exec
  have hb := B.bytes
  have hr := B.returns
  have hts := atoms_spec (ws := wsX12_again) B.pre
  have hown : s.vm.findClass RX12 = some m.cls := findClass_of_methodNamed B.named
  have hlocks := B.notSynchronized
  subst hsz
  have hD := hD0.self (sz := s.heap.size)
  generalize hAe : va_A (w_X12_again h0 h_row h_kept h_isKept h_aside h_eight h_rows h_scales h_dealt h_bytes h_heardRow h_made h_comes h_backs h_fresh cy c_thrown c_nodeS c_nodeD c_pairE c_pairO c_bit c_lag c_lagSum c_isKept c_kept c_row) s.heap.size = A at hD ⊢
  have hA : ∀ q : Nat, s.heap.size ≤ q → A q := fun q h => by rw [← hAe]; exact Or.inr h
  have hS : va_S A s.heap s.heap [] := va_S.rf
  have hl := lv_entry ([.ref h0, .int v1]) (n := 2) (Nat.le_of_ble_eq_true rfl)
  rw [lg_entry_eq]
  generalize (lg_sl ([.ref h0, .int v1]) ++ List.replicate (2 - (lg_sl ([.ref h0, .int v1])).length) Slot.unset).toArray = ls at hl ⊢
  replace hl : lv_has ls 2 [(0, .ref h0), (1, .int v1)] := hl
  have inX12 : ∀ w ∈ u_ws RX12 TX12 22, w ∈ wsX12_again := fun w h => List.mem_cons_of_mem _ (inlX12 w h)
  clear hAe hD0 B
  unfold wp_X12_again at hw
  generalize hQe : MQ below _ _ s _ _ _ = Q0
  generalize ([.ref h0, .int v1] : List Value).toArray = av at *
  obtain ⟨H, hH⟩ : ∃ H, H = s.heap := ⟨_, rfl⟩
  obtain ⟨locs, hlo⟩ : ∃ L : List Loc, L = [] := ⟨_, rfl⟩
  replace hP : va_P (dC, dI) vwCl (w_X12_again h0 h_row h_kept h_isKept h_aside h_eight h_rows h_scales h_dealt h_bytes h_heardRow h_made h_comes h_backs h_fresh cy c_thrown c_nodeS c_nodeD c_pairE c_pairO c_bit c_lag c_lagSum c_isKept c_kept c_row) H := by rw [hH]; exact hP
  replace hS : va_S A s.heap H locs := by rw [hH, hlo]; exact hS
  suffices hgo : W p l e ({ frames := 1, cells := 0, slots := 0, locals := 25 }) s m av below meth c H locs 0 0 Q0 (F0 m 0 ls []) by rw [hH, hlo] at hgo; exact hgo
  clear hH hlo
  refine lv_aload_n hx hb dX12_again_0 rfl (lv_at hl 0 rfl) ?_
  refine lv_iconst (v := 0) hx hb dX12_again_1 (by decide) ?_
  refine va_put (D := (dC, dI)) (ci := 12) (v := .int (0 : Int32)) (ty := .int) (C := RX12) (T := TX12) (N := 22) hx hb hts inX12 tyX12 tyX12_ok nmX12 hown hK hP hD hS 0 rfl rfl 0 (by decide) (hts _ (List.mem_cons_of_mem _ mw_200)) (fun _ h9 => h9) rfl (by decide +kernel) rfl rfl (Nat.le_of_ble_eq_true rfl) dX12_again_2 ?_; clear hP hD hS; clear H locs; intro H locs hP hD hS
  replace hP : va_P (dC, dI) vwCl (w_X12_again h0 h_row h_kept h_isKept h_aside h_eight h_rows h_scales h_dealt h_bytes h_heardRow h_made h_comes h_backs h_fresh cy (0 : Int32) c_nodeS c_nodeD c_pairE c_pairO c_bit c_lag c_lagSum c_isKept c_kept c_row) H := hP
  replace hD : va_D A (w_X12_again h0 h_row h_kept h_isKept h_aside h_eight h_rows h_scales h_dealt h_bytes h_heardRow h_made h_comes h_backs h_fresh cy (0 : Int32) c_nodeS c_nodeD c_pairE c_pairO c_bit c_lag c_lagSum c_isKept c_kept c_row) := hD
  refine lv_iload_n hx hb dX12_again_5 rfl (lv_at hl 1 rfl) ?_
  refine lv_i2l (v := v1.toInt64) hx hb dX12_again_6 rfl ?_
  refine lv_lconst (v := 0) hx hb dX12_again_7 (by decide) ?_
  refine lv_lconst (v := 1) hx hb dX12_again_8 (by decide) ?_
  have hPc := pSub (ws' := (w_X12_in cy)) hP [] rfl
  have hDc := dSub (ws' := (w_X12_in cy)) hD [] (by decide) rfl
  have hFc := va_free (wc := (w_X12_in cy)) hD hS hA [] rfl
  refine va_calli (va_runS (As := [.long (v1.toInt64), .long (0 : Int64), .long (1 : Int64)]) (rest := []) ⟨hx, hb, hml, hown, hts⟩ (c_X12_in l dC dI cy  H.size (v1.toInt64) (0 : Int64) (1 : Int64) _ hw) (va_cwS 3 hts (goodS mw_207 mw_205 mw_206 mw_5) rfl rfl rfl (by decide +kernel) ⟨Nat.le_of_ble_eq_true rfl, Nat.le_of_ble_eq_true rfl⟩) ⟨PX_blind, PX_pre hPc hK hDc hG⟩ rfl rfl hl.1 rfl (lv_room (Nat.le_of_ble_eq_true rfl)) dX12_again_9 ⟨Nat.zero_le _, Nat.zero_le _⟩) hS (fun q _ h => hFc q h) hFc ?_; clear hw hS; intro r1 _ t H1 locs1 ht hvm hw hB hz1 hk1 hS
  obtain ⟨hP1, -, -⟩ := hB
  rw [ht] at hP1
  replace hP := jC0 hP hD [] [0, 1, 2, 3] rfl hk1 hP1 (w_X12_again h0 h_row h_kept h_isKept h_aside h_eight h_rows h_scales h_dealt h_bytes h_heardRow h_made h_comes h_backs h_fresh cy (0 : Int32) c_nodeS c_nodeD c_pairE c_pairO c_bit c_lag c_lagSum c_isKept c_kept c_row) rfl rfl rfl 4 rfl (by decide +kernel); clear hD; obtain ⟨hP, hD⟩ := hP
  replace hP : va_P (dC, dI) vwCl (w_X12_again h0 h_row h_kept h_isKept h_aside h_eight h_rows h_scales h_dealt h_bytes h_heardRow h_made h_comes h_backs h_fresh cy (0 : Int32) c_nodeS c_nodeD c_pairE c_pairO c_bit c_lag c_lagSum c_isKept c_kept c_row) H1 := hP
  replace hD : va_D A (w_X12_again h0 h_row h_kept h_isKept h_aside h_eight h_rows h_scales h_dealt h_bytes h_heardRow h_made h_comes h_backs h_fresh cy (0 : Int32) c_nodeS c_nodeD c_pairE c_pairO c_bit c_lag c_lagSum c_isKept c_kept c_row) := hD
  clear hPc hDc hFc hP1 hk1 hz1 hvm ht; clear t; clear H locs; obtain ⟨H, hH⟩ : ∃ H, H = H1 := ⟨_, rfl⟩; obtain ⟨locs, hlo⟩ : ∃ L, L = locs1 := ⟨_, rfl⟩; subst hH; subst hlo
  refine W.widen (k := 0) (n := 0) (Nat.le_refl 0) (Nat.le_refl 0) ?_
  refine lv_if_eq (tgt := 24) hx hb dX12_again_12 (by decide) (fun c2 => ?_) (fun c2 => ?_)
  · replace hw := hw.1 c2; clear c2
    refine lv_iconst (v := 0) hx hb dX12_again_24 (by decide) ?_
    subst hQe
    exact W.zret (v := (0 : Int32)) hx hb hr isB_0 (fun t ht hW => ⟨⟨(0 : Int32), ((0 : Int32), c_row), rfl, hw, by rw [ht]; exact hP, va_K.moved hW.alike hK, hD⟩, hS.F ht⟩) hS.2.2 dX12_again_25
  · replace hw := hw.2 c2; clear c2
    refine lv_aload_n hx hb dX12_again_15 rfl (lv_at hl 0 rfl) ?_
    refine va_get (D := (dC, dI)) (ci := 12) (v := .ref h_isKept) (C := RX12) (T := TX12) (N := 22) hx hb hts inX12 hown hK hP 0 rfl rfl 3 (by decide) (hts _ (List.mem_cons_of_mem _ mw_172)) (fun _ h9 => h9) rfl dX12_again_16 ?_
    refine lv_iload_n hx hb dX12_again_19 rfl (lv_at hl 1 rfl) ?_
    obtain ⟨h3, hw⟩ := hw
    refine xzald (k := v1.toNatClampNeg) hx hb hK hP 1 1 rfl rfl h3 rfl dX12_again_20 ?_
    refine lv_if_ne (tgt := 26) hx hb dX12_again_21 (by decide) (fun c4 => ?_) (fun c4 => ?_)
    · replace hw := hw.2 c4; clear c4
      refine lv_aload_n hx hb dX12_again_26 rfl (lv_at hl 0 rfl) ?_
      refine va_get (D := (dC, dI)) (ci := 12) (v := .ref h_kept) (C := RX12) (T := TX12) (N := 22) hx hb hts inX12 hown hK hP 0 rfl rfl 2 (by decide) (hts _ (List.mem_cons_of_mem _ mw_170)) (fun _ h9 => h9) rfl dX12_again_27 ?_
      refine lv_sipush (v := 13385) hx hb dX12_again_30 (by decide) ?_
      refine lv_iload_n hx hb dX12_again_33 rfl (lv_at hl 1 rfl) ?_
      refine lv_imul hx hb dX12_again_34 ?_
      refine lv_aload_n hx hb dX12_again_35 rfl (lv_at hl 0 rfl) ?_
      refine va_get (D := (dC, dI)) (ci := 12) (v := .ref h_row) (C := RX12) (T := TX12) (N := 22) hx hb hts inX12 hown hK hP 0 rfl rfl 1 (by decide) (hts _ (List.mem_cons_of_mem _ mw_169)) (fun _ h9 => h9) rfl dX12_again_36 ?_
      refine lv_iconst (v := 0) hx hb dX12_again_39 (by decide) ?_
      have hPc := pSub (ws' := (w_X12_copy h_kept h_row cy 26770 13385 c_kept c_row)) hP [2, 3] rfl
      have hDc := dSub (ws' := (w_X12_copy h_kept h_row cy 26770 13385 c_kept c_row)) hD [2, 3] (by decide) rfl
      have hFc := va_free (wc := (w_X12_copy h_kept h_row cy 26770 13385 c_kept c_row)) hD hS hA [2, 3] rfl
      refine va_callv (va_runS (As := [.ref h_kept, .int ((13385 : Int32) * v1), .ref h_row, .int (0 : Int32)]) (rest := []) ⟨hx, hb, hml, hown, hts⟩ (c_X12_copy l dC dI cy h_kept h_row 26770 13385 H.size ((13385 : Int32) * v1) (0 : Int32) c_kept c_row _ hw) (va_cwS 4 hts (goodS mw_887 mw_885 mw_886 mw_5) rfl rfl rfl (by decide +kernel) ⟨Nat.le_of_ble_eq_true rfl, Nat.le_of_ble_eq_true rfl⟩) ⟨PX_blind, PX_pre hPc hK hDc hG⟩ rfl rfl hl.1 rfl (lv_room (Nat.le_of_ble_eq_true rfl)) dX12_again_40 ⟨Nat.zero_le _, Nat.zero_le _⟩) hS (fun q _ h => hFc q h) hFc ?_; clear hw hS; intro f5 t H1 locs1 ht hvm hw hB hz1 hk1 hS
      obtain ⟨hP1, -, -⟩ := hB
      rw [ht] at hP1
      replace hP := jC0 hP hD [2, 3] [0, 1] rfl hk1 hP1 (w_X12_again h0 h_row h_kept h_isKept h_aside h_eight h_rows h_scales h_dealt h_bytes h_heardRow h_made h_comes h_backs h_fresh cy (0 : Int32) c_nodeS c_nodeD c_pairE c_pairO c_bit c_lag c_lagSum c_isKept c_kept f5) rfl rfl rfl 4 rfl (by decide +kernel); clear hD; obtain ⟨hP, hD⟩ := hP
      replace hP : va_P (dC, dI) vwCl (w_X12_again h0 h_row h_kept h_isKept h_aside h_eight h_rows h_scales h_dealt h_bytes h_heardRow h_made h_comes h_backs h_fresh cy (0 : Int32) c_nodeS c_nodeD c_pairE c_pairO c_bit c_lag c_lagSum c_isKept c_kept f5) H1 := hP
      replace hD : va_D A (w_X12_again h0 h_row h_kept h_isKept h_aside h_eight h_rows h_scales h_dealt h_bytes h_heardRow h_made h_comes h_backs h_fresh cy (0 : Int32) c_nodeS c_nodeD c_pairE c_pairO c_bit c_lag c_lagSum c_isKept c_kept f5) := hD
      clear hPc hDc hFc hP1 hk1 hz1 hvm ht; clear t; clear H locs; obtain ⟨H, hH⟩ : ∃ H, H = H1 := ⟨_, rfl⟩; obtain ⟨locs, hlo⟩ : ∃ L, L = locs1 := ⟨_, rfl⟩; subst hH; subst hlo
      refine W.widen (k := 0) (n := 0) (Nat.le_refl 0) (Nat.le_refl 0) ?_
      refine lv_iconst (v := 1) hx hb dX12_again_43 (by decide) ?_
      subst hQe
      exact W.zret (v := (1 : Int32)) hx hb hr isB_1 (fun t ht hW => ⟨⟨(1 : Int32), ((0 : Int32), f5), rfl, hw, by rw [ht]; exact hP, va_K.moved hW.alike hK, hD⟩, hS.F ht⟩) hS.2.2 dX12_again_44
    · replace hw := hw.1 c4; clear c4
      refine lv_iconst (v := 0) hx hb dX12_again_24 (by decide) ?_
      subst hQe
      exact W.zret (v := (0 : Int32)) hx hb hr isB_0 (fun t ht hW => ⟨⟨(0 : Int32), ((0 : Int32), c_row), rfl, hw, by rw [ht]; exact hP, va_K.moved hW.alike hK, hD⟩, hS.F ht⟩) hS.2.2 dX12_again_25
set_option maxHeartbeats 4000000 in
set_option maxRecDepth 100000 in
theorem c_X12_tone (l : Launch) (dC : Nat → ClassId) (dI : Nat → Nat → Nat) (cy : Nat → ClassId) (h0 h_row h_kept h_isKept h_aside h_eight h_rows h_scales h_dealt h_bytes h_heardRow h_made h_comes h_backs h_fresh : Nat) (sz : Nat) (v1 : Int32) (v2 : Int32) (v3 : Int32) (v4 : Int32) (c_thrown : Int32) (c_nodeS : Int32) (c_nodeD : Int32) (c_pairE : Int32) (c_pairO : Int32) (c_bit : Int32) (c_lag : Int32) (c_lagSum : Int32) (c_row : Nat → Int32) (post : Int32 → Int32 → (Nat → Int32) → Prop) (hw : wp_X12_tone v1 v2 v3 v4 c_thrown c_row post) : Met l yX12_tone wsX12_tone ({ frames := 1, cells := 0, slots := 0, locals := 25 }) (PX dC dI cy [.ref h0, .int v1, .int v2, .int v3, .int v4] sz (w_X12_tone h0 h_row h_kept h_isKept h_aside h_eight h_rows h_scales h_dealt h_bytes h_heardRow h_made h_comes h_backs h_fresh cy c_thrown c_nodeS c_nodeD c_pairE c_pairO c_bit c_lag c_lagSum c_row)) (va_Qi (fun (r : Int32) (u : Int32 × (Nat → Int32)) => post r u.1 u.2) (QX dC dI cy (va_A (w_X12_tone h0 h_row h_kept h_isKept h_aside h_eight h_rows h_scales h_dealt h_bytes h_heardRow h_made h_comes h_backs h_fresh cy c_thrown c_nodeS c_nodeD c_pairE c_pairO c_bit c_lag c_lagSum c_row) sz) (fun (u : Int32 × (Nat → Int32)) => w_X12_tone h0 h_row h_kept h_isKept h_aside h_eight h_rows h_scales h_dealt h_bytes h_heardRow h_made h_comes h_backs h_fresh cy u.1 c_nodeS c_nodeD c_pairE c_pairO c_bit c_lag c_lagSum u.2)) (va_A (w_X12_tone h0 h_row h_kept h_isKept h_aside h_eight h_rows h_scales h_dealt h_bytes h_heardRow h_made h_comes h_backs h_fresh cy c_thrown c_nodeS c_nodeD c_pairE c_pairO c_bit c_lag c_lagSum c_row) sz)) 0 0 (va_A (w_X12_tone h0 h_row h_kept h_isKept h_aside h_eight h_rows h_scales h_dealt h_bytes h_heardRow h_made h_comes h_backs h_fresh cy c_thrown c_nodeS c_nodeD c_pairE c_pairO c_bit c_lag c_lagSum c_row) sz) := by
  refine Met.ofW (cc := cX12_tone) (maxL := 5) (ret := (some .boolean)) (by decide) rfl ?_
  intro p e s m args below meth c s₁ B hml hv
  obtain ⟨rfl, hsz, hP, hK, hD0, hG⟩ := hv
  have hx := B.exec
  have hb := B.bytes
  have hr := B.returns
  have hts := atoms_spec (ws := wsX12_tone) B.pre
  have hown : s.vm.findClass RX12 = some m.cls := findClass_of_methodNamed B.named
  have hlocks := B.notSynchronized
  subst hsz
  have hD := hD0.self (sz := s.heap.size)
  generalize hAe : va_A (w_X12_tone h0 h_row h_kept h_isKept h_aside h_eight h_rows h_scales h_dealt h_bytes h_heardRow h_made h_comes h_backs h_fresh cy c_thrown c_nodeS c_nodeD c_pairE c_pairO c_bit c_lag c_lagSum c_row) s.heap.size = A at hD ⊢
  have hA : ∀ q : Nat, s.heap.size ≤ q → A q := fun q h => by rw [← hAe]; exact Or.inr h
  have hS : va_S A s.heap s.heap [] := va_S.rf
  have hl := lv_entry ([.ref h0, .int v1, .int v2, .int v3, .int v4]) (n := 5) (Nat.le_of_ble_eq_true rfl)
  rw [lg_entry_eq]
  generalize (lg_sl ([.ref h0, .int v1, .int v2, .int v3, .int v4]) ++ List.replicate (5 - (lg_sl ([.ref h0, .int v1, .int v2, .int v3, .int v4])).length) Slot.unset).toArray = ls at hl ⊢
  replace hl : lv_has ls 5 [(0, .ref h0), (1, .int v1), (2, .int v2), (3, .int v3), (4, .int v4)] := hl
  have inX12 : ∀ w ∈ u_ws RX12 TX12 22, w ∈ wsX12_tone := fun w h => List.mem_cons_of_mem _ (inlX12 w h)
  clear hAe hD0 B
  unfold wp_X12_tone at hw
  generalize hQe : MQ below _ _ s _ _ _ = Q0
  generalize ([.ref h0, .int v1, .int v2, .int v3, .int v4] : List Value).toArray = av at *
  obtain ⟨H, hH⟩ : ∃ H, H = s.heap := ⟨_, rfl⟩
  obtain ⟨locs, hlo⟩ : ∃ L : List Loc, L = [] := ⟨_, rfl⟩
  replace hP : va_P (dC, dI) vwCl (w_X12_tone h0 h_row h_kept h_isKept h_aside h_eight h_rows h_scales h_dealt h_bytes h_heardRow h_made h_comes h_backs h_fresh cy c_thrown c_nodeS c_nodeD c_pairE c_pairO c_bit c_lag c_lagSum c_row) H := by rw [hH]; exact hP
  replace hS : va_S A s.heap H locs := by rw [hH, hlo]; exact hS
  suffices hgo : W p l e ({ frames := 1, cells := 0, slots := 0, locals := 25 }) s m av below meth c H locs 0 0 Q0 (F0 m 0 ls []) by rw [hH, hlo] at hgo; exact hgo
  clear hH hlo
  refine lv_aload_n hx hb dX12_tone_0 rfl (lv_at hl 0 rfl) ?_
  refine lv_iconst (v := 0) hx hb dX12_tone_1 (by decide) ?_
  refine va_put (D := (dC, dI)) (ci := 12) (v := .int (0 : Int32)) (ty := .int) (C := RX12) (T := TX12) (N := 22) hx hb hts inX12 tyX12 tyX12_ok nmX12 hown hK hP hD hS 0 rfl rfl 0 (by decide) (hts _ (List.mem_cons_of_mem _ mw_200)) (fun _ h9 => h9) rfl (by decide +kernel) rfl rfl (Nat.le_of_ble_eq_true rfl) dX12_tone_2 ?_; clear hP hD hS; clear H locs; intro H locs hP hD hS
  replace hP : va_P (dC, dI) vwCl (w_X12_tone h0 h_row h_kept h_isKept h_aside h_eight h_rows h_scales h_dealt h_bytes h_heardRow h_made h_comes h_backs h_fresh cy (0 : Int32) c_nodeS c_nodeD c_pairE c_pairO c_bit c_lag c_lagSum c_row) H := hP
  replace hD : va_D A (w_X12_tone h0 h_row h_kept h_isKept h_aside h_eight h_rows h_scales h_dealt h_bytes h_heardRow h_made h_comes h_backs h_fresh cy (0 : Int32) c_nodeS c_nodeD c_pairE c_pairO c_bit c_lag c_lagSum c_row) := hD
  refine lv_iload_n hx hb dX12_tone_5 rfl (lv_at hl 1 rfl) ?_
  refine lv_i2l (v := v1.toInt64) hx hb dX12_tone_6 rfl ?_
  refine lv_lconst (v := 0) hx hb dX12_tone_7 (by decide) ?_
  refine lv_lconst (v := 1) hx hb dX12_tone_8 (by decide) ?_
  have hPc := pSub (ws' := (w_X12_in cy)) hP [] rfl
  have hDc := dSub (ws' := (w_X12_in cy)) hD [] (by decide) rfl
  have hFc := va_free (wc := (w_X12_in cy)) hD hS hA [] rfl
  refine va_calli (va_runS (As := [.long (v1.toInt64), .long (0 : Int64), .long (1 : Int64)]) (rest := []) ⟨hx, hb, hml, hown, hts⟩ (c_X12_in l dC dI cy  H.size (v1.toInt64) (0 : Int64) (1 : Int64) _ hw) (va_cwS 3 hts (goodS mw_207 mw_205 mw_206 mw_5) rfl rfl rfl (by decide +kernel) ⟨Nat.le_of_ble_eq_true rfl, Nat.le_of_ble_eq_true rfl⟩) ⟨PX_blind, PX_pre hPc hK hDc hG⟩ rfl rfl hl.1 rfl (lv_room (Nat.le_of_ble_eq_true rfl)) dX12_tone_9 ⟨Nat.zero_le _, Nat.zero_le _⟩) hS (fun q _ h => hFc q h) hFc ?_; clear hw hS; intro r1 _ t H1 locs1 ht hvm hw hB hz1 hk1 hS
  obtain ⟨hP1, -, -⟩ := hB
  rw [ht] at hP1
  replace hP := jC0 hP hD [] [0, 1] rfl hk1 hP1 (w_X12_tone h0 h_row h_kept h_isKept h_aside h_eight h_rows h_scales h_dealt h_bytes h_heardRow h_made h_comes h_backs h_fresh cy (0 : Int32) c_nodeS c_nodeD c_pairE c_pairO c_bit c_lag c_lagSum c_row) rfl rfl rfl 2 rfl (by decide +kernel); clear hD; obtain ⟨hP, hD⟩ := hP
  replace hP : va_P (dC, dI) vwCl (w_X12_tone h0 h_row h_kept h_isKept h_aside h_eight h_rows h_scales h_dealt h_bytes h_heardRow h_made h_comes h_backs h_fresh cy (0 : Int32) c_nodeS c_nodeD c_pairE c_pairO c_bit c_lag c_lagSum c_row) H1 := hP
  replace hD : va_D A (w_X12_tone h0 h_row h_kept h_isKept h_aside h_eight h_rows h_scales h_dealt h_bytes h_heardRow h_made h_comes h_backs h_fresh cy (0 : Int32) c_nodeS c_nodeD c_pairE c_pairO c_bit c_lag c_lagSum c_row) := hD
  clear hPc hDc hFc hP1 hk1 hz1 hvm ht; clear t; clear H locs; obtain ⟨H, hH⟩ : ∃ H, H = H1 := ⟨_, rfl⟩; obtain ⟨locs, hlo⟩ : ∃ L, L = locs1 := ⟨_, rfl⟩; subst hH; subst hlo
  refine W.widen (k := 0) (n := 0) (Nat.le_refl 0) (Nat.le_refl 0) ?_
  refine lv_if_eq (tgt := 54) hx hb dX12_tone_12 (by decide) (fun c2 => ?_) (fun c2 => ?_)
  · replace hw := hw.1 c2; clear c2
    refine lv_iconst (v := 0) hx hb dX12_tone_54 (by decide) ?_
    subst hQe
    exact W.zret (v := (0 : Int32)) hx hb hr isB_0 (fun t ht hW => ⟨⟨(0 : Int32), ((0 : Int32), c_row), rfl, hw, by rw [ht]; exact hP, va_K.moved hW.alike hK, hD⟩, hS.F ht⟩) hS.2.2 dX12_tone_55
  · replace hw := hw.2 c2; clear c2
    refine lv_iload_n hx hb dX12_tone_15 rfl (lv_at hl 2 rfl) ?_
    refine lv_i2l (v := v2.toInt64) hx hb dX12_tone_16 rfl ?_
    refine lv_ldc2 (v := 2) hx hb hown (hts _ (List.mem_cons_of_mem _ mw_201)) dX12_tone_17 ?_
    refine lv_ldc2 (v := 200) hx hb hown (hts _ (List.mem_cons_of_mem _ mw_202)) dX12_tone_20 ?_
    have hPc := pSub (ws' := (w_X12_in cy)) hP [] rfl
    have hDc := dSub (ws' := (w_X12_in cy)) hD [] (by decide) rfl
    have hFc := va_free (wc := (w_X12_in cy)) hD hS hA [] rfl
    refine va_calli (va_runS (As := [.long (v2.toInt64), .long (2 : Int64), .long (200 : Int64)]) (rest := []) ⟨hx, hb, hml, hown, hts⟩ (c_X12_in l dC dI cy  H.size (v2.toInt64) (2 : Int64) (200 : Int64) _ hw) (va_cwS 3 hts (goodS mw_207 mw_205 mw_206 mw_5) rfl rfl rfl (by decide +kernel) ⟨Nat.le_of_ble_eq_true rfl, Nat.le_of_ble_eq_true rfl⟩) ⟨PX_blind, PX_pre hPc hK hDc hG⟩ rfl rfl hl.1 rfl (lv_room (Nat.le_of_ble_eq_true rfl)) dX12_tone_23 ⟨Nat.zero_le _, Nat.zero_le _⟩) hS (fun q _ h => hFc q h) hFc ?_; clear hw hS; intro r3 _ t H1 locs1 ht hvm hw hB hz1 hk1 hS
    obtain ⟨hP1, -, -⟩ := hB
    rw [ht] at hP1
    replace hP := jC0 hP hD [] [0, 1] rfl hk1 hP1 (w_X12_tone h0 h_row h_kept h_isKept h_aside h_eight h_rows h_scales h_dealt h_bytes h_heardRow h_made h_comes h_backs h_fresh cy (0 : Int32) c_nodeS c_nodeD c_pairE c_pairO c_bit c_lag c_lagSum c_row) rfl rfl rfl 2 rfl (by decide +kernel); clear hD; obtain ⟨hP, hD⟩ := hP
    replace hP : va_P (dC, dI) vwCl (w_X12_tone h0 h_row h_kept h_isKept h_aside h_eight h_rows h_scales h_dealt h_bytes h_heardRow h_made h_comes h_backs h_fresh cy (0 : Int32) c_nodeS c_nodeD c_pairE c_pairO c_bit c_lag c_lagSum c_row) H1 := hP
    replace hD : va_D A (w_X12_tone h0 h_row h_kept h_isKept h_aside h_eight h_rows h_scales h_dealt h_bytes h_heardRow h_made h_comes h_backs h_fresh cy (0 : Int32) c_nodeS c_nodeD c_pairE c_pairO c_bit c_lag c_lagSum c_row) := hD
    clear hPc hDc hFc hP1 hk1 hz1 hvm ht; clear t; clear H locs; obtain ⟨H, hH⟩ : ∃ H, H = H1 := ⟨_, rfl⟩; obtain ⟨locs, hlo⟩ : ∃ L, L = locs1 := ⟨_, rfl⟩; subst hH; subst hlo
    refine W.widen (k := 0) (n := 0) (Nat.le_refl 0) (Nat.le_refl 0) ?_
    refine lv_if_eq (tgt := 54) hx hb dX12_tone_26 (by decide) (fun c4 => ?_) (fun c4 => ?_)
    · replace hw := hw.1 c4; clear c4
      refine lv_iconst (v := 0) hx hb dX12_tone_54 (by decide) ?_
      subst hQe
      exact W.zret (v := (0 : Int32)) hx hb hr isB_0 (fun t ht hW => ⟨⟨(0 : Int32), ((0 : Int32), c_row), rfl, hw, by rw [ht]; exact hP, va_K.moved hW.alike hK, hD⟩, hS.F ht⟩) hS.2.2 dX12_tone_55
    · replace hw := hw.2 c4; clear c4
      refine lv_iload_n hx hb dX12_tone_29 rfl (lv_at hl 3 rfl) ?_
      refine lv_i2l (v := v3.toInt64) hx hb dX12_tone_30 rfl ?_
      refine lv_lconst (v := 0) hx hb dX12_tone_31 (by decide) ?_
      refine lv_ldc2 (v := 2000) hx hb hown (hts _ (List.mem_cons_of_mem _ mw_203)) dX12_tone_32 ?_
      have hPc := pSub (ws' := (w_X12_in cy)) hP [] rfl
      have hDc := dSub (ws' := (w_X12_in cy)) hD [] (by decide) rfl
      have hFc := va_free (wc := (w_X12_in cy)) hD hS hA [] rfl
      refine va_calli (va_runS (As := [.long (v3.toInt64), .long (0 : Int64), .long (2000 : Int64)]) (rest := []) ⟨hx, hb, hml, hown, hts⟩ (c_X12_in l dC dI cy  H.size (v3.toInt64) (0 : Int64) (2000 : Int64) _ hw) (va_cwS 3 hts (goodS mw_207 mw_205 mw_206 mw_5) rfl rfl rfl (by decide +kernel) ⟨Nat.le_of_ble_eq_true rfl, Nat.le_of_ble_eq_true rfl⟩) ⟨PX_blind, PX_pre hPc hK hDc hG⟩ rfl rfl hl.1 rfl (lv_room (Nat.le_of_ble_eq_true rfl)) dX12_tone_35 ⟨Nat.zero_le _, Nat.zero_le _⟩) hS (fun q _ h => hFc q h) hFc ?_; clear hw hS; intro r5 _ t H1 locs1 ht hvm hw hB hz1 hk1 hS
      obtain ⟨hP1, -, -⟩ := hB
      rw [ht] at hP1
      replace hP := jC0 hP hD [] [0, 1] rfl hk1 hP1 (w_X12_tone h0 h_row h_kept h_isKept h_aside h_eight h_rows h_scales h_dealt h_bytes h_heardRow h_made h_comes h_backs h_fresh cy (0 : Int32) c_nodeS c_nodeD c_pairE c_pairO c_bit c_lag c_lagSum c_row) rfl rfl rfl 2 rfl (by decide +kernel); clear hD; obtain ⟨hP, hD⟩ := hP
      replace hP : va_P (dC, dI) vwCl (w_X12_tone h0 h_row h_kept h_isKept h_aside h_eight h_rows h_scales h_dealt h_bytes h_heardRow h_made h_comes h_backs h_fresh cy (0 : Int32) c_nodeS c_nodeD c_pairE c_pairO c_bit c_lag c_lagSum c_row) H1 := hP
      replace hD : va_D A (w_X12_tone h0 h_row h_kept h_isKept h_aside h_eight h_rows h_scales h_dealt h_bytes h_heardRow h_made h_comes h_backs h_fresh cy (0 : Int32) c_nodeS c_nodeD c_pairE c_pairO c_bit c_lag c_lagSum c_row) := hD
      clear hPc hDc hFc hP1 hk1 hz1 hvm ht; clear t; clear H locs; obtain ⟨H, hH⟩ : ∃ H, H = H1 := ⟨_, rfl⟩; obtain ⟨locs, hlo⟩ : ∃ L, L = locs1 := ⟨_, rfl⟩; subst hH; subst hlo
      refine W.widen (k := 0) (n := 0) (Nat.le_refl 0) (Nat.le_refl 0) ?_
      refine lv_if_eq (tgt := 54) hx hb dX12_tone_38 (by decide) (fun c6 => ?_) (fun c6 => ?_)
      · replace hw := hw.1 c6; clear c6
        refine lv_iconst (v := 0) hx hb dX12_tone_54 (by decide) ?_
        subst hQe
        exact W.zret (v := (0 : Int32)) hx hb hr isB_0 (fun t ht hW => ⟨⟨(0 : Int32), ((0 : Int32), c_row), rfl, hw, by rw [ht]; exact hP, va_K.moved hW.alike hK, hD⟩, hS.F ht⟩) hS.2.2 dX12_tone_55
      · replace hw := hw.2 c6; clear c6
        refine lv_iload hx hb dX12_tone_41 (lv_at hl 4 rfl) ?_
        refine lv_i2l (v := v4.toInt64) hx hb dX12_tone_43 rfl ?_
        refine lv_lconst (v := 0) hx hb dX12_tone_44 (by decide) ?_
        refine lv_ldc2 (v := 500) hx hb hown (hts _ (List.mem_cons_of_mem _ mw_204)) dX12_tone_45 ?_
        have hPc := pSub (ws' := (w_X12_in cy)) hP [] rfl
        have hDc := dSub (ws' := (w_X12_in cy)) hD [] (by decide) rfl
        have hFc := va_free (wc := (w_X12_in cy)) hD hS hA [] rfl
        refine va_calli (va_runS (As := [.long (v4.toInt64), .long (0 : Int64), .long (500 : Int64)]) (rest := []) ⟨hx, hb, hml, hown, hts⟩ (c_X12_in l dC dI cy  H.size (v4.toInt64) (0 : Int64) (500 : Int64) _ hw) (va_cwS 3 hts (goodS mw_207 mw_205 mw_206 mw_5) rfl rfl rfl (by decide +kernel) ⟨Nat.le_of_ble_eq_true rfl, Nat.le_of_ble_eq_true rfl⟩) ⟨PX_blind, PX_pre hPc hK hDc hG⟩ rfl rfl hl.1 rfl (lv_room (Nat.le_of_ble_eq_true rfl)) dX12_tone_48 ⟨Nat.zero_le _, Nat.zero_le _⟩) hS (fun q _ h => hFc q h) hFc ?_; clear hw hS; intro r7 _ t H1 locs1 ht hvm hw hB hz1 hk1 hS
        obtain ⟨hP1, -, -⟩ := hB
        rw [ht] at hP1
        replace hP := jC0 hP hD [] [0, 1] rfl hk1 hP1 (w_X12_tone h0 h_row h_kept h_isKept h_aside h_eight h_rows h_scales h_dealt h_bytes h_heardRow h_made h_comes h_backs h_fresh cy (0 : Int32) c_nodeS c_nodeD c_pairE c_pairO c_bit c_lag c_lagSum c_row) rfl rfl rfl 2 rfl (by decide +kernel); clear hD; obtain ⟨hP, hD⟩ := hP
        replace hP : va_P (dC, dI) vwCl (w_X12_tone h0 h_row h_kept h_isKept h_aside h_eight h_rows h_scales h_dealt h_bytes h_heardRow h_made h_comes h_backs h_fresh cy (0 : Int32) c_nodeS c_nodeD c_pairE c_pairO c_bit c_lag c_lagSum c_row) H1 := hP
        replace hD : va_D A (w_X12_tone h0 h_row h_kept h_isKept h_aside h_eight h_rows h_scales h_dealt h_bytes h_heardRow h_made h_comes h_backs h_fresh cy (0 : Int32) c_nodeS c_nodeD c_pairE c_pairO c_bit c_lag c_lagSum c_row) := hD
        clear hPc hDc hFc hP1 hk1 hz1 hvm ht; clear t; clear H locs; obtain ⟨H, hH⟩ : ∃ H, H = H1 := ⟨_, rfl⟩; obtain ⟨locs, hlo⟩ : ∃ L, L = locs1 := ⟨_, rfl⟩; subst hH; subst hlo
        refine W.widen (k := 0) (n := 0) (Nat.le_refl 0) (Nat.le_refl 0) ?_
        refine lv_if_ne (tgt := 56) hx hb dX12_tone_51 (by decide) (fun c8 => ?_) (fun c8 => ?_)
        · replace hw := hw.2 c8; clear c8
          refine lv_aload_n hx hb dX12_tone_56 rfl (lv_at hl 0 rfl) ?_
          refine va_get (D := (dC, dI)) (ci := 12) (v := .ref h_row) (C := RX12) (T := TX12) (N := 22) hx hb hts inX12 hown hK hP 0 rfl rfl 1 (by decide) (hts _ (List.mem_cons_of_mem _ mw_169)) (fun _ h9 => h9) rfl dX12_tone_57 ?_
          refine lv_iconst (v := 0) hx hb dX12_tone_60 (by decide) ?_
          refine lv_iload_n hx hb dX12_tone_61 rfl (lv_at hl 1 rfl) ?_
          refine lv_iadd hx hb dX12_tone_62 ?_
          refine lv_iload_n hx hb dX12_tone_63 rfl (lv_at hl 2 rfl) ?_
          obtain ⟨h9, hw⟩ := hw
          refine xiast (k := ((0 : Int32) + v1).toNatClampNeg) hx hb hK hP hD hS 1 0 rfl rfl h9 rfl dX12_tone_64 ?_; clear hP hD hS; clear H locs; intro f10 e_f10 H locs hP hD hS
          replace hw := hw f10 e_f10
          clear e_f10
          replace hP : va_P (dC, dI) vwCl (w_X12_tone h0 h_row h_kept h_isKept h_aside h_eight h_rows h_scales h_dealt h_bytes h_heardRow h_made h_comes h_backs h_fresh cy (0 : Int32) c_nodeS c_nodeD c_pairE c_pairO c_bit c_lag c_lagSum f10) H := hP
          replace hD : va_D A (w_X12_tone h0 h_row h_kept h_isKept h_aside h_eight h_rows h_scales h_dealt h_bytes h_heardRow h_made h_comes h_backs h_fresh cy (0 : Int32) c_nodeS c_nodeD c_pairE c_pairO c_bit c_lag c_lagSum f10) := hD
          refine lv_aload_n hx hb dX12_tone_65 rfl (lv_at hl 0 rfl) ?_
          refine va_get (D := (dC, dI)) (ci := 12) (v := .ref h_row) (C := RX12) (T := TX12) (N := 22) hx hb hts inX12 hown hK hP 0 rfl rfl 1 (by decide) (hts _ (List.mem_cons_of_mem _ mw_169)) (fun _ h9 => h9) rfl dX12_tone_66 ?_
          refine lv_iconst (v := 2) hx hb dX12_tone_69 (by decide) ?_
          refine lv_iload_n hx hb dX12_tone_70 rfl (lv_at hl 1 rfl) ?_
          refine lv_iadd hx hb dX12_tone_71 ?_
          refine lv_iload_n hx hb dX12_tone_72 rfl (lv_at hl 3 rfl) ?_
          obtain ⟨h11, hw⟩ := hw
          refine xiast (k := ((2 : Int32) + v1).toNatClampNeg) hx hb hK hP hD hS 1 0 rfl rfl h11 rfl dX12_tone_73 ?_; clear hP hD hS; clear H locs; intro f12 e_f12 H locs hP hD hS
          replace hw := hw f12 e_f12
          clear e_f12
          replace hP : va_P (dC, dI) vwCl (w_X12_tone h0 h_row h_kept h_isKept h_aside h_eight h_rows h_scales h_dealt h_bytes h_heardRow h_made h_comes h_backs h_fresh cy (0 : Int32) c_nodeS c_nodeD c_pairE c_pairO c_bit c_lag c_lagSum f12) H := hP
          replace hD : va_D A (w_X12_tone h0 h_row h_kept h_isKept h_aside h_eight h_rows h_scales h_dealt h_bytes h_heardRow h_made h_comes h_backs h_fresh cy (0 : Int32) c_nodeS c_nodeD c_pairE c_pairO c_bit c_lag c_lagSum f12) := hD
          refine lv_aload_n hx hb dX12_tone_74 rfl (lv_at hl 0 rfl) ?_
          refine va_get (D := (dC, dI)) (ci := 12) (v := .ref h_row) (C := RX12) (T := TX12) (N := 22) hx hb hts inX12 hown hK hP 0 rfl rfl 1 (by decide) (hts _ (List.mem_cons_of_mem _ mw_169)) (fun _ h9 => h9) rfl dX12_tone_75 ?_
          refine lv_iconst (v := 4) hx hb dX12_tone_78 (by decide) ?_
          refine lv_iload_n hx hb dX12_tone_79 rfl (lv_at hl 1 rfl) ?_
          refine lv_iadd hx hb dX12_tone_80 ?_
          refine lv_iload hx hb dX12_tone_81 (lv_at hl 4 rfl) ?_
          obtain ⟨h13, hw⟩ := hw
          refine xiast (k := ((4 : Int32) + v1).toNatClampNeg) hx hb hK hP hD hS 1 0 rfl rfl h13 rfl dX12_tone_83 ?_; clear hP hD hS; clear H locs; intro f14 e_f14 H locs hP hD hS
          replace hw := hw f14 e_f14
          clear e_f14
          replace hP : va_P (dC, dI) vwCl (w_X12_tone h0 h_row h_kept h_isKept h_aside h_eight h_rows h_scales h_dealt h_bytes h_heardRow h_made h_comes h_backs h_fresh cy (0 : Int32) c_nodeS c_nodeD c_pairE c_pairO c_bit c_lag c_lagSum f14) H := hP
          replace hD : va_D A (w_X12_tone h0 h_row h_kept h_isKept h_aside h_eight h_rows h_scales h_dealt h_bytes h_heardRow h_made h_comes h_backs h_fresh cy (0 : Int32) c_nodeS c_nodeD c_pairE c_pairO c_bit c_lag c_lagSum f14) := hD
          refine lv_iconst (v := 1) hx hb dX12_tone_84 (by decide) ?_
          subst hQe
          exact W.zret (v := (1 : Int32)) hx hb hr isB_1 (fun t ht hW => ⟨⟨(1 : Int32), ((0 : Int32), f14), rfl, hw, by rw [ht]; exact hP, va_K.moved hW.alike hK, hD⟩, hS.F ht⟩) hS.2.2 dX12_tone_85
        · replace hw := hw.1 c8; clear c8
          refine lv_iconst (v := 0) hx hb dX12_tone_54 (by decide) ?_
          subst hQe
          exact W.zret (v := (0 : Int32)) hx hb hr isB_0 (fun t ht hW => ⟨⟨(0 : Int32), ((0 : Int32), c_row), rfl, hw, by rw [ht]; exact hP, va_K.moved hW.alike hK, hD⟩, hS.F ht⟩) hS.2.2 dX12_tone_55
set_option maxHeartbeats 4000000 in
set_option maxRecDepth 100000 in
theorem c_X12_isSet (l : Launch) (dC : Nat → ClassId) (dI : Nat → Nat → Nat) (cy : Nat → ClassId) (sz : Nat) (v0 : Int32) (v1 : Int32) (post : Int32 → Prop) (hw : wp_X12_isSet v0 v1 post) : Met l yX12_isSet wsX12_isSet ({ frames := 1, cells := 0, slots := 0, locals := 25 }) (PX dC dI cy [.int v0, .int v1] sz (w_X12_isSet cy)) (va_Qi (fun (r : Int32) (u : Unit) => post r) (QX dC dI cy (va_A (w_X12_isSet cy) sz) (fun (u : Unit) => w_X12_isSet cy)) (va_A (w_X12_isSet cy) sz)) 0 0 (va_A (w_X12_isSet cy) sz) := by
  refine Met.ofW (cc := cX12_isSet) (maxL := 2) (ret := (some .boolean)) (by decide) rfl ?_
  intro p e s m args below meth c s₁ B hml hv
  obtain ⟨rfl, hsz, hP, hK, hD0, hG⟩ := hv
  have hx := B.exec
  have hb := B.bytes
  have hr := B.returns
  have hts := atoms_spec (ws := wsX12_isSet) B.pre
  have hown : s.vm.findClass RX12 = some m.cls := findClass_of_methodNamed B.named
  have hlocks := B.notSynchronized
  subst hsz
  have hD := hD0.self (sz := s.heap.size)
  generalize hAe : va_A (w_X12_isSet cy) s.heap.size = A at hD ⊢
  have hA : ∀ q : Nat, s.heap.size ≤ q → A q := fun q h => by rw [← hAe]; exact Or.inr h
  have hS : va_S A s.heap s.heap [] := va_S.rf
  have hl := lv_entry ([.int v0, .int v1]) (n := 2) (Nat.le_of_ble_eq_true rfl)
  rw [lg_entry_eq]
  generalize (lg_sl ([.int v0, .int v1]) ++ List.replicate (2 - (lg_sl ([.int v0, .int v1])).length) Slot.unset).toArray = ls at hl ⊢
  replace hl : lv_has ls 2 [(0, .int v0), (1, .int v1)] := hl
  clear hAe hD0 B
  unfold wp_X12_isSet at hw
  generalize hQe : MQ below _ _ s _ _ _ = Q0
  generalize ([.int v0, .int v1] : List Value).toArray = av at *
  obtain ⟨H, hH⟩ : ∃ H, H = s.heap := ⟨_, rfl⟩
  obtain ⟨locs, hlo⟩ : ∃ L : List Loc, L = [] := ⟨_, rfl⟩
  replace hP : va_P (dC, dI) vwCl (w_X12_isSet cy) H := by rw [hH]; exact hP
  replace hS : va_S A s.heap H locs := by rw [hH, hlo]; exact hS
  suffices hgo : W p l e ({ frames := 1, cells := 0, slots := 0, locals := 25 }) s m av below meth c H locs 0 0 Q0 (F0 m 0 ls []) by rw [hH, hlo] at hgo; exact hgo
  clear hH hlo
  refine lv_iload_n hx hb dX12_isSet_0 rfl (lv_at hl 0 rfl) ?_
  by_cases c1 : v0 = 0
  · replace hw := hw.1 c1
    refine lv_tableIn (tgt := 60) hx hb dX12_isSet_1 (by rw [c1]; decide) (by rw [c1]; decide) (by rw [c1]; rfl) (by decide) ?_
    refine lv_iload_n hx hb dX12_isSet_60 rfl (lv_at hl 1 rfl) ?_
    refine lv_i2l (v := v1.toInt64) hx hb dX12_isSet_61 rfl ?_
    refine lv_lconst (v := 0) hx hb dX12_isSet_62 (by decide) ?_
    refine lv_ldc2 (v := 999999) hx hb hown (hts _ (List.mem_cons_of_mem _ mw_222)) dX12_isSet_63 ?_
    have hPc := pSub (ws' := (w_X12_in cy)) hP [] rfl
    have hDc := dSub (ws' := (w_X12_in cy)) hD [] (by decide) rfl
    have hFc := va_free (wc := (w_X12_in cy)) hD hS hA [] rfl
    refine va_calli (va_runS (As := [.long (v1.toInt64), .long (0 : Int64), .long (999999 : Int64)]) (rest := []) ⟨hx, hb, hml, hown, hts⟩ (c_X12_in l dC dI cy  H.size (v1.toInt64) (0 : Int64) (999999 : Int64) _ hw) (va_cwS 3 hts (goodS mw_207 mw_205 mw_206 mw_5) rfl rfl rfl (by decide +kernel) ⟨Nat.le_of_ble_eq_true rfl, Nat.le_of_ble_eq_true rfl⟩) ⟨PX_blind, PX_pre hPc hK hDc hG⟩ rfl rfl hl.1 rfl (lv_room (Nat.le_of_ble_eq_true rfl)) dX12_isSet_66 ⟨Nat.zero_le _, Nat.zero_le _⟩) hS (fun q _ h => hFc q h) hFc ?_; clear hw hS; intro r2 _ t H1 locs1 ht hvm hw hB hz1 hk1 hS
    obtain ⟨hP1, -, -⟩ := hB
    rw [ht] at hP1
    replace hP := jC0 hP hD [] [] rfl hk1 hP1 (w_X12_isSet cy) rfl rfl rfl 0 rfl (by decide +kernel); clear hD; obtain ⟨hP, hD⟩ := hP
    replace hP : va_P (dC, dI) vwCl (w_X12_isSet cy) H1 := hP
    replace hD : va_D A (w_X12_isSet cy) := hD
    clear hPc hDc hFc hP1 hk1 hz1 hvm ht; clear t; clear H locs; obtain ⟨H, hH⟩ : ∃ H, H = H1 := ⟨_, rfl⟩; obtain ⟨locs, hlo⟩ : ∃ L, L = locs1 := ⟨_, rfl⟩; subst hH; subst hlo
    refine W.widen (k := 0) (n := 0) (Nat.le_refl 0) (Nat.le_refl 0) ?_
    obtain ⟨h3, hw⟩ := hw
    subst hQe
    exact W.zret (v := r2) hx hb hr h3 (fun t ht hW => ⟨⟨r2, (), rfl, hw, by rw [ht]; exact hP, va_K.moved hW.alike hK, hD⟩, hS.F ht⟩) hS.2.2 dX12_isSet_69
  · skip
    by_cases c4 : v0 = 1
    · replace hw := hw.2.1 c4
      refine lv_tableIn (tgt := 70) hx hb dX12_isSet_1 (by rw [c4]; decide) (by rw [c4]; decide) (by rw [c4]; rfl) (by decide) ?_
      refine lv_iload_n hx hb dX12_isSet_70 rfl (lv_at hl 1 rfl) ?_
      refine lv_i2l (v := v1.toInt64) hx hb dX12_isSet_71 rfl ?_
      refine lv_ldc2 (v := 2) hx hb hown (hts _ (List.mem_cons_of_mem _ mw_201)) dX12_isSet_72 ?_
      refine lv_ldc2 (v := 128) hx hb hown (hts _ (List.mem_cons_of_mem _ mw_223)) dX12_isSet_75 ?_
      have hPc := pSub (ws' := (w_X12_in cy)) hP [] rfl
      have hDc := dSub (ws' := (w_X12_in cy)) hD [] (by decide) rfl
      have hFc := va_free (wc := (w_X12_in cy)) hD hS hA [] rfl
      refine va_calli (va_runS (As := [.long (v1.toInt64), .long (2 : Int64), .long (128 : Int64)]) (rest := []) ⟨hx, hb, hml, hown, hts⟩ (c_X12_in l dC dI cy  H.size (v1.toInt64) (2 : Int64) (128 : Int64) _ hw) (va_cwS 3 hts (goodS mw_207 mw_205 mw_206 mw_5) rfl rfl rfl (by decide +kernel) ⟨Nat.le_of_ble_eq_true rfl, Nat.le_of_ble_eq_true rfl⟩) ⟨PX_blind, PX_pre hPc hK hDc hG⟩ rfl rfl hl.1 rfl (lv_room (Nat.le_of_ble_eq_true rfl)) dX12_isSet_78 ⟨Nat.zero_le _, Nat.zero_le _⟩) hS (fun q _ h => hFc q h) hFc ?_; clear hw hS; intro r5 _ t H1 locs1 ht hvm hw hB hz1 hk1 hS
      obtain ⟨hP1, -, -⟩ := hB
      rw [ht] at hP1
      replace hP := jC0 hP hD [] [] rfl hk1 hP1 (w_X12_isSet cy) rfl rfl rfl 0 rfl (by decide +kernel); clear hD; obtain ⟨hP, hD⟩ := hP
      replace hP : va_P (dC, dI) vwCl (w_X12_isSet cy) H1 := hP
      replace hD : va_D A (w_X12_isSet cy) := hD
      clear hPc hDc hFc hP1 hk1 hz1 hvm ht; clear t; clear H locs; obtain ⟨H, hH⟩ : ∃ H, H = H1 := ⟨_, rfl⟩; obtain ⟨locs, hlo⟩ : ∃ L, L = locs1 := ⟨_, rfl⟩; subst hH; subst hlo
      refine W.widen (k := 0) (n := 0) (Nat.le_refl 0) (Nat.le_refl 0) ?_
      obtain ⟨h6, hw⟩ := hw
      subst hQe
      exact W.zret (v := r5) hx hb hr h6 (fun t ht hW => ⟨⟨r5, (), rfl, hw, by rw [ht]; exact hP, va_K.moved hW.alike hK, hD⟩, hS.F ht⟩) hS.2.2 dX12_isSet_81
    · skip
      by_cases c7 : v0 = 2
      · replace hw := hw.2.2.1 c7
        refine lv_tableIn (tgt := 82) hx hb dX12_isSet_1 (by rw [c7]; decide) (by rw [c7]; decide) (by rw [c7]; rfl) (by decide) ?_
        refine lv_iload_n hx hb dX12_isSet_82 rfl (lv_at hl 1 rfl) ?_
        refine lv_i2l (v := v1.toInt64) hx hb dX12_isSet_83 rfl ?_
        refine lv_lconst (v := 0) hx hb dX12_isSet_84 (by decide) ?_
        refine lv_lconst (v := 1) hx hb dX12_isSet_85 (by decide) ?_
        have hPc := pSub (ws' := (w_X12_in cy)) hP [] rfl
        have hDc := dSub (ws' := (w_X12_in cy)) hD [] (by decide) rfl
        have hFc := va_free (wc := (w_X12_in cy)) hD hS hA [] rfl
        refine va_calli (va_runS (As := [.long (v1.toInt64), .long (0 : Int64), .long (1 : Int64)]) (rest := []) ⟨hx, hb, hml, hown, hts⟩ (c_X12_in l dC dI cy  H.size (v1.toInt64) (0 : Int64) (1 : Int64) _ hw) (va_cwS 3 hts (goodS mw_207 mw_205 mw_206 mw_5) rfl rfl rfl (by decide +kernel) ⟨Nat.le_of_ble_eq_true rfl, Nat.le_of_ble_eq_true rfl⟩) ⟨PX_blind, PX_pre hPc hK hDc hG⟩ rfl rfl hl.1 rfl (lv_room (Nat.le_of_ble_eq_true rfl)) dX12_isSet_86 ⟨Nat.zero_le _, Nat.zero_le _⟩) hS (fun q _ h => hFc q h) hFc ?_; clear hw hS; intro r8 _ t H1 locs1 ht hvm hw hB hz1 hk1 hS
        obtain ⟨hP1, -, -⟩ := hB
        rw [ht] at hP1
        replace hP := jC0 hP hD [] [] rfl hk1 hP1 (w_X12_isSet cy) rfl rfl rfl 0 rfl (by decide +kernel); clear hD; obtain ⟨hP, hD⟩ := hP
        replace hP : va_P (dC, dI) vwCl (w_X12_isSet cy) H1 := hP
        replace hD : va_D A (w_X12_isSet cy) := hD
        clear hPc hDc hFc hP1 hk1 hz1 hvm ht; clear t; clear H locs; obtain ⟨H, hH⟩ : ∃ H, H = H1 := ⟨_, rfl⟩; obtain ⟨locs, hlo⟩ : ∃ L, L = locs1 := ⟨_, rfl⟩; subst hH; subst hlo
        refine W.widen (k := 0) (n := 0) (Nat.le_refl 0) (Nat.le_refl 0) ?_
        obtain ⟨h9, hw⟩ := hw
        subst hQe
        exact W.zret (v := r8) hx hb hr h9 (fun t ht hW => ⟨⟨r8, (), rfl, hw, by rw [ht]; exact hP, va_K.moved hW.alike hK, hD⟩, hS.F ht⟩) hS.2.2 dX12_isSet_89
      · skip
        by_cases c10 : v0 = 3
        · replace hw := hw.2.2.2.1 c10
          refine lv_tableIn (tgt := 82) hx hb dX12_isSet_1 (by rw [c10]; decide) (by rw [c10]; decide) (by rw [c10]; rfl) (by decide) ?_
          refine lv_iload_n hx hb dX12_isSet_82 rfl (lv_at hl 1 rfl) ?_
          refine lv_i2l (v := v1.toInt64) hx hb dX12_isSet_83 rfl ?_
          refine lv_lconst (v := 0) hx hb dX12_isSet_84 (by decide) ?_
          refine lv_lconst (v := 1) hx hb dX12_isSet_85 (by decide) ?_
          have hPc := pSub (ws' := (w_X12_in cy)) hP [] rfl
          have hDc := dSub (ws' := (w_X12_in cy)) hD [] (by decide) rfl
          have hFc := va_free (wc := (w_X12_in cy)) hD hS hA [] rfl
          refine va_calli (va_runS (As := [.long (v1.toInt64), .long (0 : Int64), .long (1 : Int64)]) (rest := []) ⟨hx, hb, hml, hown, hts⟩ (c_X12_in l dC dI cy  H.size (v1.toInt64) (0 : Int64) (1 : Int64) _ hw) (va_cwS 3 hts (goodS mw_207 mw_205 mw_206 mw_5) rfl rfl rfl (by decide +kernel) ⟨Nat.le_of_ble_eq_true rfl, Nat.le_of_ble_eq_true rfl⟩) ⟨PX_blind, PX_pre hPc hK hDc hG⟩ rfl rfl hl.1 rfl (lv_room (Nat.le_of_ble_eq_true rfl)) dX12_isSet_86 ⟨Nat.zero_le _, Nat.zero_le _⟩) hS (fun q _ h => hFc q h) hFc ?_; clear hw hS; intro r11 _ t H1 locs1 ht hvm hw hB hz1 hk1 hS
          obtain ⟨hP1, -, -⟩ := hB
          rw [ht] at hP1
          replace hP := jC0 hP hD [] [] rfl hk1 hP1 (w_X12_isSet cy) rfl rfl rfl 0 rfl (by decide +kernel); clear hD; obtain ⟨hP, hD⟩ := hP
          replace hP : va_P (dC, dI) vwCl (w_X12_isSet cy) H1 := hP
          replace hD : va_D A (w_X12_isSet cy) := hD
          clear hPc hDc hFc hP1 hk1 hz1 hvm ht; clear t; clear H locs; obtain ⟨H, hH⟩ : ∃ H, H = H1 := ⟨_, rfl⟩; obtain ⟨locs, hlo⟩ : ∃ L, L = locs1 := ⟨_, rfl⟩; subst hH; subst hlo
          refine W.widen (k := 0) (n := 0) (Nat.le_refl 0) (Nat.le_refl 0) ?_
          obtain ⟨h12, hw⟩ := hw
          subst hQe
          exact W.zret (v := r11) hx hb hr h12 (fun t ht hW => ⟨⟨r11, (), rfl, hw, by rw [ht]; exact hP, va_K.moved hW.alike hK, hD⟩, hS.F ht⟩) hS.2.2 dX12_isSet_89
        · skip
          by_cases c13 : v0 = 4
          · replace hw := hw.2.2.2.2.1 c13
            refine lv_tableIn (tgt := 90) hx hb dX12_isSet_1 (by rw [c13]; decide) (by rw [c13]; decide) (by rw [c13]; rfl) (by decide) ?_
            refine lv_iload_n hx hb dX12_isSet_90 rfl (lv_at hl 1 rfl) ?_
            refine lv_i2l (v := v1.toInt64) hx hb dX12_isSet_91 rfl ?_
            refine lv_lconst (v := 1) hx hb dX12_isSet_92 (by decide) ?_
            refine lv_ldc2 (v := 16) hx hb hown (hts _ (List.mem_cons_of_mem _ mw_224)) dX12_isSet_93 ?_
            have hPc := pSub (ws' := (w_X12_in cy)) hP [] rfl
            have hDc := dSub (ws' := (w_X12_in cy)) hD [] (by decide) rfl
            have hFc := va_free (wc := (w_X12_in cy)) hD hS hA [] rfl
            refine va_calli (va_runS (As := [.long (v1.toInt64), .long (1 : Int64), .long (16 : Int64)]) (rest := []) ⟨hx, hb, hml, hown, hts⟩ (c_X12_in l dC dI cy  H.size (v1.toInt64) (1 : Int64) (16 : Int64) _ hw) (va_cwS 3 hts (goodS mw_207 mw_205 mw_206 mw_5) rfl rfl rfl (by decide +kernel) ⟨Nat.le_of_ble_eq_true rfl, Nat.le_of_ble_eq_true rfl⟩) ⟨PX_blind, PX_pre hPc hK hDc hG⟩ rfl rfl hl.1 rfl (lv_room (Nat.le_of_ble_eq_true rfl)) dX12_isSet_96 ⟨Nat.zero_le _, Nat.zero_le _⟩) hS (fun q _ h => hFc q h) hFc ?_; clear hw hS; intro r14 _ t H1 locs1 ht hvm hw hB hz1 hk1 hS
            obtain ⟨hP1, -, -⟩ := hB
            rw [ht] at hP1
            replace hP := jC0 hP hD [] [] rfl hk1 hP1 (w_X12_isSet cy) rfl rfl rfl 0 rfl (by decide +kernel); clear hD; obtain ⟨hP, hD⟩ := hP
            replace hP : va_P (dC, dI) vwCl (w_X12_isSet cy) H1 := hP
            replace hD : va_D A (w_X12_isSet cy) := hD
            clear hPc hDc hFc hP1 hk1 hz1 hvm ht; clear t; clear H locs; obtain ⟨H, hH⟩ : ∃ H, H = H1 := ⟨_, rfl⟩; obtain ⟨locs, hlo⟩ : ∃ L, L = locs1 := ⟨_, rfl⟩; subst hH; subst hlo
            refine W.widen (k := 0) (n := 0) (Nat.le_refl 0) (Nat.le_refl 0) ?_
            obtain ⟨h15, hw⟩ := hw
            subst hQe
            exact W.zret (v := r14) hx hb hr h15 (fun t ht hW => ⟨⟨r14, (), rfl, hw, by rw [ht]; exact hP, va_K.moved hW.alike hK, hD⟩, hS.F ht⟩) hS.2.2 dX12_isSet_99
          · skip
            by_cases c16 : v0 = 5
            · replace hw := hw.2.2.2.2.2.1 c16
              refine lv_tableIn (tgt := 100) hx hb dX12_isSet_1 (by rw [c16]; decide) (by rw [c16]; decide) (by rw [c16]; rfl) (by decide) ?_
              refine lv_iload_n hx hb dX12_isSet_100 rfl (lv_at hl 1 rfl) ?_
              refine lv_i2l (v := v1.toInt64) hx hb dX12_isSet_101 rfl ?_
              refine lv_lconst (v := 0) hx hb dX12_isSet_102 (by decide) ?_
              refine lv_ldc2 (v := 100) hx hb hown (hts _ (List.mem_cons_of_mem _ mw_225)) dX12_isSet_103 ?_
              have hPc := pSub (ws' := (w_X12_in cy)) hP [] rfl
              have hDc := dSub (ws' := (w_X12_in cy)) hD [] (by decide) rfl
              have hFc := va_free (wc := (w_X12_in cy)) hD hS hA [] rfl
              refine va_calli (va_runS (As := [.long (v1.toInt64), .long (0 : Int64), .long (100 : Int64)]) (rest := []) ⟨hx, hb, hml, hown, hts⟩ (c_X12_in l dC dI cy  H.size (v1.toInt64) (0 : Int64) (100 : Int64) _ hw) (va_cwS 3 hts (goodS mw_207 mw_205 mw_206 mw_5) rfl rfl rfl (by decide +kernel) ⟨Nat.le_of_ble_eq_true rfl, Nat.le_of_ble_eq_true rfl⟩) ⟨PX_blind, PX_pre hPc hK hDc hG⟩ rfl rfl hl.1 rfl (lv_room (Nat.le_of_ble_eq_true rfl)) dX12_isSet_106 ⟨Nat.zero_le _, Nat.zero_le _⟩) hS (fun q _ h => hFc q h) hFc ?_; clear hw hS; intro r17 _ t H1 locs1 ht hvm hw hB hz1 hk1 hS
              obtain ⟨hP1, -, -⟩ := hB
              rw [ht] at hP1
              replace hP := jC0 hP hD [] [] rfl hk1 hP1 (w_X12_isSet cy) rfl rfl rfl 0 rfl (by decide +kernel); clear hD; obtain ⟨hP, hD⟩ := hP
              replace hP : va_P (dC, dI) vwCl (w_X12_isSet cy) H1 := hP
              replace hD : va_D A (w_X12_isSet cy) := hD
              clear hPc hDc hFc hP1 hk1 hz1 hvm ht; clear t; clear H locs; obtain ⟨H, hH⟩ : ∃ H, H = H1 := ⟨_, rfl⟩; obtain ⟨locs, hlo⟩ : ∃ L, L = locs1 := ⟨_, rfl⟩; subst hH; subst hlo
              refine W.widen (k := 0) (n := 0) (Nat.le_refl 0) (Nat.le_refl 0) ?_
              obtain ⟨h18, hw⟩ := hw
              subst hQe
              exact W.zret (v := r17) hx hb hr h18 (fun t ht hW => ⟨⟨r17, (), rfl, hw, by rw [ht]; exact hP, va_K.moved hW.alike hK, hD⟩, hS.F ht⟩) hS.2.2 dX12_isSet_109
            · skip
              by_cases c19 : v0 = 6
              · replace hw := hw.2.2.2.2.2.2.1 c19
                refine lv_tableIn (tgt := 110) hx hb dX12_isSet_1 (by rw [c19]; decide) (by rw [c19]; decide) (by rw [c19]; rfl) (by decide) ?_
                refine lv_iload_n hx hb dX12_isSet_110 rfl (lv_at hl 1 rfl) ?_
                refine lv_i2l (v := v1.toInt64) hx hb dX12_isSet_111 rfl ?_
                refine lv_ldc2 (v := -50) hx hb hown (hts _ (List.mem_cons_of_mem _ mw_226)) dX12_isSet_112 ?_
                refine lv_ldc2 (v := 50) hx hb hown (hts _ (List.mem_cons_of_mem _ mw_227)) dX12_isSet_115 ?_
                have hPc := pSub (ws' := (w_X12_in cy)) hP [] rfl
                have hDc := dSub (ws' := (w_X12_in cy)) hD [] (by decide) rfl
                have hFc := va_free (wc := (w_X12_in cy)) hD hS hA [] rfl
                refine va_calli (va_runS (As := [.long (v1.toInt64), .long (-50 : Int64), .long (50 : Int64)]) (rest := []) ⟨hx, hb, hml, hown, hts⟩ (c_X12_in l dC dI cy  H.size (v1.toInt64) (-50 : Int64) (50 : Int64) _ hw) (va_cwS 3 hts (goodS mw_207 mw_205 mw_206 mw_5) rfl rfl rfl (by decide +kernel) ⟨Nat.le_of_ble_eq_true rfl, Nat.le_of_ble_eq_true rfl⟩) ⟨PX_blind, PX_pre hPc hK hDc hG⟩ rfl rfl hl.1 rfl (lv_room (Nat.le_of_ble_eq_true rfl)) dX12_isSet_118 ⟨Nat.zero_le _, Nat.zero_le _⟩) hS (fun q _ h => hFc q h) hFc ?_; clear hw hS; intro r20 _ t H1 locs1 ht hvm hw hB hz1 hk1 hS
                obtain ⟨hP1, -, -⟩ := hB
                rw [ht] at hP1
                replace hP := jC0 hP hD [] [] rfl hk1 hP1 (w_X12_isSet cy) rfl rfl rfl 0 rfl (by decide +kernel); clear hD; obtain ⟨hP, hD⟩ := hP
                replace hP : va_P (dC, dI) vwCl (w_X12_isSet cy) H1 := hP
                replace hD : va_D A (w_X12_isSet cy) := hD
                clear hPc hDc hFc hP1 hk1 hz1 hvm ht; clear t; clear H locs; obtain ⟨H, hH⟩ : ∃ H, H = H1 := ⟨_, rfl⟩; obtain ⟨locs, hlo⟩ : ∃ L, L = locs1 := ⟨_, rfl⟩; subst hH; subst hlo
                refine W.widen (k := 0) (n := 0) (Nat.le_refl 0) (Nat.le_refl 0) ?_
                obtain ⟨h21, hw⟩ := hw
                subst hQe
                exact W.zret (v := r20) hx hb hr h21 (fun t ht hW => ⟨⟨r20, (), rfl, hw, by rw [ht]; exact hP, va_K.moved hW.alike hK, hD⟩, hS.F ht⟩) hS.2.2 dX12_isSet_121
              · skip
                by_cases c22 : v0 = 7
                · replace hw := hw.2.2.2.2.2.2.2.1 c22
                  refine lv_tableIn (tgt := 122) hx hb dX12_isSet_1 (by rw [c22]; decide) (by rw [c22]; decide) (by rw [c22]; rfl) (by decide) ?_
                  refine lv_iload_n hx hb dX12_isSet_122 rfl (lv_at hl 1 rfl) ?_
                  refine lv_i2l (v := v1.toInt64) hx hb dX12_isSet_123 rfl ?_
                  refine lv_lconst (v := 1) hx hb dX12_isSet_124 (by decide) ?_
                  refine lv_ldc2 (v := 6) hx hb hown (hts _ (List.mem_cons_of_mem _ mw_228)) dX12_isSet_125 ?_
                  have hPc := pSub (ws' := (w_X12_in cy)) hP [] rfl
                  have hDc := dSub (ws' := (w_X12_in cy)) hD [] (by decide) rfl
                  have hFc := va_free (wc := (w_X12_in cy)) hD hS hA [] rfl
                  refine va_calli (va_runS (As := [.long (v1.toInt64), .long (1 : Int64), .long (6 : Int64)]) (rest := []) ⟨hx, hb, hml, hown, hts⟩ (c_X12_in l dC dI cy  H.size (v1.toInt64) (1 : Int64) (6 : Int64) _ hw) (va_cwS 3 hts (goodS mw_207 mw_205 mw_206 mw_5) rfl rfl rfl (by decide +kernel) ⟨Nat.le_of_ble_eq_true rfl, Nat.le_of_ble_eq_true rfl⟩) ⟨PX_blind, PX_pre hPc hK hDc hG⟩ rfl rfl hl.1 rfl (lv_room (Nat.le_of_ble_eq_true rfl)) dX12_isSet_128 ⟨Nat.zero_le _, Nat.zero_le _⟩) hS (fun q _ h => hFc q h) hFc ?_; clear hw hS; intro r23 _ t H1 locs1 ht hvm hw hB hz1 hk1 hS
                  obtain ⟨hP1, -, -⟩ := hB
                  rw [ht] at hP1
                  replace hP := jC0 hP hD [] [] rfl hk1 hP1 (w_X12_isSet cy) rfl rfl rfl 0 rfl (by decide +kernel); clear hD; obtain ⟨hP, hD⟩ := hP
                  replace hP : va_P (dC, dI) vwCl (w_X12_isSet cy) H1 := hP
                  replace hD : va_D A (w_X12_isSet cy) := hD
                  clear hPc hDc hFc hP1 hk1 hz1 hvm ht; clear t; clear H locs; obtain ⟨H, hH⟩ : ∃ H, H = H1 := ⟨_, rfl⟩; obtain ⟨locs, hlo⟩ : ∃ L, L = locs1 := ⟨_, rfl⟩; subst hH; subst hlo
                  refine W.widen (k := 0) (n := 0) (Nat.le_refl 0) (Nat.le_refl 0) ?_
                  obtain ⟨h24, hw⟩ := hw
                  subst hQe
                  exact W.zret (v := r23) hx hb hr h24 (fun t ht hW => ⟨⟨r23, (), rfl, hw, by rw [ht]; exact hP, va_K.moved hW.alike hK, hD⟩, hS.F ht⟩) hS.2.2 dX12_isSet_131
                · skip
                  by_cases c25 : v0 = 8
                  · replace hw := hw.2.2.2.2.2.2.2.2.1 c25
                    refine lv_tableIn (tgt := 132) hx hb dX12_isSet_1 (by rw [c25]; decide) (by rw [c25]; decide) (by rw [c25]; rfl) (by decide) ?_
                    refine lv_iload_n hx hb dX12_isSet_132 rfl (lv_at hl 1 rfl) ?_
                    refine lv_i2l (v := v1.toInt64) hx hb dX12_isSet_133 rfl ?_
                    refine lv_ldc2 (v := 10) hx hb hown (hts _ (List.mem_cons_of_mem _ mw_229)) dX12_isSet_134 ?_
                    refine lv_ldc2 (v := 80) hx hb hown (hts _ (List.mem_cons_of_mem _ mw_230)) dX12_isSet_137 ?_
                    have hPc := pSub (ws' := (w_X12_in cy)) hP [] rfl
                    have hDc := dSub (ws' := (w_X12_in cy)) hD [] (by decide) rfl
                    have hFc := va_free (wc := (w_X12_in cy)) hD hS hA [] rfl
                    refine va_calli (va_runS (As := [.long (v1.toInt64), .long (10 : Int64), .long (80 : Int64)]) (rest := []) ⟨hx, hb, hml, hown, hts⟩ (c_X12_in l dC dI cy  H.size (v1.toInt64) (10 : Int64) (80 : Int64) _ hw) (va_cwS 3 hts (goodS mw_207 mw_205 mw_206 mw_5) rfl rfl rfl (by decide +kernel) ⟨Nat.le_of_ble_eq_true rfl, Nat.le_of_ble_eq_true rfl⟩) ⟨PX_blind, PX_pre hPc hK hDc hG⟩ rfl rfl hl.1 rfl (lv_room (Nat.le_of_ble_eq_true rfl)) dX12_isSet_140 ⟨Nat.zero_le _, Nat.zero_le _⟩) hS (fun q _ h => hFc q h) hFc ?_; clear hw hS; intro r26 _ t H1 locs1 ht hvm hw hB hz1 hk1 hS
                    obtain ⟨hP1, -, -⟩ := hB
                    rw [ht] at hP1
                    replace hP := jC0 hP hD [] [] rfl hk1 hP1 (w_X12_isSet cy) rfl rfl rfl 0 rfl (by decide +kernel); clear hD; obtain ⟨hP, hD⟩ := hP
                    replace hP : va_P (dC, dI) vwCl (w_X12_isSet cy) H1 := hP
                    replace hD : va_D A (w_X12_isSet cy) := hD
                    clear hPc hDc hFc hP1 hk1 hz1 hvm ht; clear t; clear H locs; obtain ⟨H, hH⟩ : ∃ H, H = H1 := ⟨_, rfl⟩; obtain ⟨locs, hlo⟩ : ∃ L, L = locs1 := ⟨_, rfl⟩; subst hH; subst hlo
                    refine W.widen (k := 0) (n := 0) (Nat.le_refl 0) (Nat.le_refl 0) ?_
                    obtain ⟨h27, hw⟩ := hw
                    subst hQe
                    exact W.zret (v := r26) hx hb hr h27 (fun t ht hW => ⟨⟨r26, (), rfl, hw, by rw [ht]; exact hP, va_K.moved hW.alike hK, hD⟩, hS.F ht⟩) hS.2.2 dX12_isSet_143
                  · skip
                    by_cases c28 : v0 = 9
                    · replace hw := hw.2.2.2.2.2.2.2.2.2.1 c28
                      refine lv_tableIn (tgt := 82) hx hb dX12_isSet_1 (by rw [c28]; decide) (by rw [c28]; decide) (by rw [c28]; rfl) (by decide) ?_
                      refine lv_iload_n hx hb dX12_isSet_82 rfl (lv_at hl 1 rfl) ?_
                      refine lv_i2l (v := v1.toInt64) hx hb dX12_isSet_83 rfl ?_
                      refine lv_lconst (v := 0) hx hb dX12_isSet_84 (by decide) ?_
                      refine lv_lconst (v := 1) hx hb dX12_isSet_85 (by decide) ?_
                      have hPc := pSub (ws' := (w_X12_in cy)) hP [] rfl
                      have hDc := dSub (ws' := (w_X12_in cy)) hD [] (by decide) rfl
                      have hFc := va_free (wc := (w_X12_in cy)) hD hS hA [] rfl
                      refine va_calli (va_runS (As := [.long (v1.toInt64), .long (0 : Int64), .long (1 : Int64)]) (rest := []) ⟨hx, hb, hml, hown, hts⟩ (c_X12_in l dC dI cy  H.size (v1.toInt64) (0 : Int64) (1 : Int64) _ hw) (va_cwS 3 hts (goodS mw_207 mw_205 mw_206 mw_5) rfl rfl rfl (by decide +kernel) ⟨Nat.le_of_ble_eq_true rfl, Nat.le_of_ble_eq_true rfl⟩) ⟨PX_blind, PX_pre hPc hK hDc hG⟩ rfl rfl hl.1 rfl (lv_room (Nat.le_of_ble_eq_true rfl)) dX12_isSet_86 ⟨Nat.zero_le _, Nat.zero_le _⟩) hS (fun q _ h => hFc q h) hFc ?_; clear hw hS; intro r29 _ t H1 locs1 ht hvm hw hB hz1 hk1 hS
                      obtain ⟨hP1, -, -⟩ := hB
                      rw [ht] at hP1
                      replace hP := jC0 hP hD [] [] rfl hk1 hP1 (w_X12_isSet cy) rfl rfl rfl 0 rfl (by decide +kernel); clear hD; obtain ⟨hP, hD⟩ := hP
                      replace hP : va_P (dC, dI) vwCl (w_X12_isSet cy) H1 := hP
                      replace hD : va_D A (w_X12_isSet cy) := hD
                      clear hPc hDc hFc hP1 hk1 hz1 hvm ht; clear t; clear H locs; obtain ⟨H, hH⟩ : ∃ H, H = H1 := ⟨_, rfl⟩; obtain ⟨locs, hlo⟩ : ∃ L, L = locs1 := ⟨_, rfl⟩; subst hH; subst hlo
                      refine W.widen (k := 0) (n := 0) (Nat.le_refl 0) (Nat.le_refl 0) ?_
                      obtain ⟨h30, hw⟩ := hw
                      subst hQe
                      exact W.zret (v := r29) hx hb hr h30 (fun t ht hW => ⟨⟨r29, (), rfl, hw, by rw [ht]; exact hP, va_K.moved hW.alike hK, hD⟩, hS.F ht⟩) hS.2.2 dX12_isSet_89
                    · skip
                      by_cases c31 : v0 = 10
                      · replace hw := hw.2.2.2.2.2.2.2.2.2.2.1 c31
                        refine lv_tableIn (tgt := 144) hx hb dX12_isSet_1 (by rw [c31]; decide) (by rw [c31]; decide) (by rw [c31]; rfl) (by decide) ?_
                        refine lv_iload_n hx hb dX12_isSet_144 rfl (lv_at hl 1 rfl) ?_
                        refine lv_i2l (v := v1.toInt64) hx hb dX12_isSet_145 rfl ?_
                        refine lv_lconst (v := 0) hx hb dX12_isSet_146 (by decide) ?_
                        refine lv_ldc2 (v := 1000) hx hb hown (hts _ (List.mem_cons_of_mem _ mw_231)) dX12_isSet_147 ?_
                        have hPc := pSub (ws' := (w_X12_in cy)) hP [] rfl
                        have hDc := dSub (ws' := (w_X12_in cy)) hD [] (by decide) rfl
                        have hFc := va_free (wc := (w_X12_in cy)) hD hS hA [] rfl
                        refine va_calli (va_runS (As := [.long (v1.toInt64), .long (0 : Int64), .long (1000 : Int64)]) (rest := []) ⟨hx, hb, hml, hown, hts⟩ (c_X12_in l dC dI cy  H.size (v1.toInt64) (0 : Int64) (1000 : Int64) _ hw) (va_cwS 3 hts (goodS mw_207 mw_205 mw_206 mw_5) rfl rfl rfl (by decide +kernel) ⟨Nat.le_of_ble_eq_true rfl, Nat.le_of_ble_eq_true rfl⟩) ⟨PX_blind, PX_pre hPc hK hDc hG⟩ rfl rfl hl.1 rfl (lv_room (Nat.le_of_ble_eq_true rfl)) dX12_isSet_150 ⟨Nat.zero_le _, Nat.zero_le _⟩) hS (fun q _ h => hFc q h) hFc ?_; clear hw hS; intro r32 _ t H1 locs1 ht hvm hw hB hz1 hk1 hS
                        obtain ⟨hP1, -, -⟩ := hB
                        rw [ht] at hP1
                        replace hP := jC0 hP hD [] [] rfl hk1 hP1 (w_X12_isSet cy) rfl rfl rfl 0 rfl (by decide +kernel); clear hD; obtain ⟨hP, hD⟩ := hP
                        replace hP : va_P (dC, dI) vwCl (w_X12_isSet cy) H1 := hP
                        replace hD : va_D A (w_X12_isSet cy) := hD
                        clear hPc hDc hFc hP1 hk1 hz1 hvm ht; clear t; clear H locs; obtain ⟨H, hH⟩ : ∃ H, H = H1 := ⟨_, rfl⟩; obtain ⟨locs, hlo⟩ : ∃ L, L = locs1 := ⟨_, rfl⟩; subst hH; subst hlo
                        refine W.widen (k := 0) (n := 0) (Nat.le_refl 0) (Nat.le_refl 0) ?_
                        obtain ⟨h33, hw⟩ := hw
                        subst hQe
                        exact W.zret (v := r32) hx hb hr h33 (fun t ht hW => ⟨⟨r32, (), rfl, hw, by rw [ht]; exact hP, va_K.moved hW.alike hK, hD⟩, hS.F ht⟩) hS.2.2 dX12_isSet_153
                      · skip
                        replace hw := hw.2.2.2.2.2.2.2.2.2.2.2 c1 c4 c7 c10 c13 c16 c19 c22 c25 c28 c31
                        refine lv_tableOut (tgt := 154) hx hb dX12_isSet_1 (by have e0 := sw_ne (n := 0) c1 (by decide); have e1 := sw_ne (n := 1) c4 (by decide); have e2 := sw_ne (n := 2) c7 (by decide); have e3 := sw_ne (n := 3) c10 (by decide); have e4 := sw_ne (n := 4) c13 (by decide); have e5 := sw_ne (n := 5) c16 (by decide); have e6 := sw_ne (n := 6) c19 (by decide); have e7 := sw_ne (n := 7) c22 (by decide); have e8 := sw_ne (n := 8) c25 (by decide); have e9 := sw_ne (n := 9) c28 (by decide); have e10 := sw_ne (n := 10) c31 (by decide); omega) (by decide) ?_
                        refine lv_iconst (v := 0) hx hb dX12_isSet_154 (by decide) ?_
                        subst hQe
                        exact W.zret (v := (0 : Int32)) hx hb hr isB_0 (fun t ht hW => ⟨⟨(0 : Int32), (), rfl, hw, by rw [ht]; exact hP, va_K.moved hW.alike hK, hD⟩, hS.F ht⟩) hS.2.2 dX12_isSet_155
set_option maxHeartbeats 4000000 in
set_option maxRecDepth 100000 in
theorem c_X12_sets (l : Launch) (dC : Nat → ClassId) (dI : Nat → Nat → Nat) (cy : Nat → ClassId) (h0 h_row h_kept h_isKept h_aside h_eight h_rows h_scales h_dealt h_bytes h_heardRow h_made h_comes h_backs h_fresh : Nat) (sz : Nat) (v1 : Int32) (v2 : Int32) (c_thrown : Int32) (c_nodeS : Int32) (c_nodeD : Int32) (c_pairE : Int32) (c_pairO : Int32) (c_bit : Int32) (c_lag : Int32) (c_lagSum : Int32) (c_row : Nat → Int32) (post : Int32 → Int32 → (Nat → Int32) → Prop) (hw : wp_X12_sets v1 v2 c_thrown c_row post) : Met l yX12_sets wsX12_sets ({ frames := 2, cells := 0, slots := 0, locals := 46 }) (PX dC dI cy [.ref h0, .int v1, .int v2] sz (w_X12_sets h0 h_row h_kept h_isKept h_aside h_eight h_rows h_scales h_dealt h_bytes h_heardRow h_made h_comes h_backs h_fresh cy c_thrown c_nodeS c_nodeD c_pairE c_pairO c_bit c_lag c_lagSum c_row)) (va_Qi (fun (r : Int32) (u : Int32 × (Nat → Int32)) => post r u.1 u.2) (QX dC dI cy (va_A (w_X12_sets h0 h_row h_kept h_isKept h_aside h_eight h_rows h_scales h_dealt h_bytes h_heardRow h_made h_comes h_backs h_fresh cy c_thrown c_nodeS c_nodeD c_pairE c_pairO c_bit c_lag c_lagSum c_row) sz) (fun (u : Int32 × (Nat → Int32)) => w_X12_sets h0 h_row h_kept h_isKept h_aside h_eight h_rows h_scales h_dealt h_bytes h_heardRow h_made h_comes h_backs h_fresh cy u.1 c_nodeS c_nodeD c_pairE c_pairO c_bit c_lag c_lagSum u.2)) (va_A (w_X12_sets h0 h_row h_kept h_isKept h_aside h_eight h_rows h_scales h_dealt h_bytes h_heardRow h_made h_comes h_backs h_fresh cy c_thrown c_nodeS c_nodeD c_pairE c_pairO c_bit c_lag c_lagSum c_row) sz)) 0 0 (va_A (w_X12_sets h0 h_row h_kept h_isKept h_aside h_eight h_rows h_scales h_dealt h_bytes h_heardRow h_made h_comes h_backs h_fresh cy c_thrown c_nodeS c_nodeD c_pairE c_pairO c_bit c_lag c_lagSum c_row) sz) := by
  refine Met.ofW (cc := cX12_sets) (maxL := 3) (ret := (some .boolean)) (by decide) rfl ?_
  intro p e s m args below meth c s₁ B hml hv
  obtain ⟨rfl, hsz, hP, hK, hD0, hG⟩ := hv
  have hx := B.exec
  have hb := B.bytes
  have hr := B.returns
  have hts := atoms_spec (ws := wsX12_sets) B.pre
  have hown : s.vm.findClass RX12 = some m.cls := findClass_of_methodNamed B.named
  have hlocks := B.notSynchronized
  subst hsz
  have hD := hD0.self (sz := s.heap.size)
  generalize hAe : va_A (w_X12_sets h0 h_row h_kept h_isKept h_aside h_eight h_rows h_scales h_dealt h_bytes h_heardRow h_made h_comes h_backs h_fresh cy c_thrown c_nodeS c_nodeD c_pairE c_pairO c_bit c_lag c_lagSum c_row) s.heap.size = A at hD ⊢
  have hA : ∀ q : Nat, s.heap.size ≤ q → A q := fun q h => by rw [← hAe]; exact Or.inr h
  have hS : va_S A s.heap s.heap [] := va_S.rf
  have hl := lv_entry ([.ref h0, .int v1, .int v2]) (n := 3) (Nat.le_of_ble_eq_true rfl)
  rw [lg_entry_eq]
  generalize (lg_sl ([.ref h0, .int v1, .int v2]) ++ List.replicate (3 - (lg_sl ([.ref h0, .int v1, .int v2])).length) Slot.unset).toArray = ls at hl ⊢
  replace hl : lv_has ls 3 [(0, .ref h0), (1, .int v1), (2, .int v2)] := hl
  have inX12 : ∀ w ∈ u_ws RX12 TX12 22, w ∈ wsX12_sets := fun w h => List.mem_cons_of_mem _ (inlX12 w h)
  clear hAe hD0 B
  unfold wp_X12_sets at hw
  generalize hQe : MQ below _ _ s _ _ _ = Q0
  generalize ([.ref h0, .int v1, .int v2] : List Value).toArray = av at *
  obtain ⟨H, hH⟩ : ∃ H, H = s.heap := ⟨_, rfl⟩
  obtain ⟨locs, hlo⟩ : ∃ L : List Loc, L = [] := ⟨_, rfl⟩
  replace hP : va_P (dC, dI) vwCl (w_X12_sets h0 h_row h_kept h_isKept h_aside h_eight h_rows h_scales h_dealt h_bytes h_heardRow h_made h_comes h_backs h_fresh cy c_thrown c_nodeS c_nodeD c_pairE c_pairO c_bit c_lag c_lagSum c_row) H := by rw [hH]; exact hP
  replace hS : va_S A s.heap H locs := by rw [hH, hlo]; exact hS
  suffices hgo : W p l e ({ frames := 2, cells := 0, slots := 0, locals := 46 }) s m av below meth c H locs 0 0 Q0 (F0 m 0 ls []) by rw [hH, hlo] at hgo; exact hgo
  clear hH hlo
  refine lv_aload_n hx hb dX12_sets_0 rfl (lv_at hl 0 rfl) ?_
  refine lv_iconst (v := 0) hx hb dX12_sets_1 (by decide) ?_
  refine va_put (D := (dC, dI)) (ci := 12) (v := .int (0 : Int32)) (ty := .int) (C := RX12) (T := TX12) (N := 22) hx hb hts inX12 tyX12 tyX12_ok nmX12 hown hK hP hD hS 0 rfl rfl 0 (by decide) (hts _ (List.mem_cons_of_mem _ mw_200)) (fun _ h9 => h9) rfl (by decide +kernel) rfl rfl (Nat.le_of_ble_eq_true rfl) dX12_sets_2 ?_; clear hP hD hS; clear H locs; intro H locs hP hD hS
  replace hP : va_P (dC, dI) vwCl (w_X12_sets h0 h_row h_kept h_isKept h_aside h_eight h_rows h_scales h_dealt h_bytes h_heardRow h_made h_comes h_backs h_fresh cy (0 : Int32) c_nodeS c_nodeD c_pairE c_pairO c_bit c_lag c_lagSum c_row) H := hP
  replace hD : va_D A (w_X12_sets h0 h_row h_kept h_isKept h_aside h_eight h_rows h_scales h_dealt h_bytes h_heardRow h_made h_comes h_backs h_fresh cy (0 : Int32) c_nodeS c_nodeD c_pairE c_pairO c_bit c_lag c_lagSum c_row) := hD
  refine lv_iload_n hx hb dX12_sets_5 rfl (lv_at hl 1 rfl) ?_
  refine lv_iload_n hx hb dX12_sets_6 rfl (lv_at hl 2 rfl) ?_
  have hPc := pSub (ws' := (w_X12_isSet cy)) hP [] rfl
  have hDc := dSub (ws' := (w_X12_isSet cy)) hD [] (by decide) rfl
  have hFc := va_free (wc := (w_X12_isSet cy)) hD hS hA [] rfl
  refine va_calli (va_runS (As := [.int v1, .int v2]) (rest := []) ⟨hx, hb, hml, hown, hts⟩ (c_X12_isSet l dC dI cy  H.size v1 v2 _ hw) (va_cwS 2 hts (goodS mw_221 mw_219 mw_220 mw_5) rfl rfl rfl (by decide +kernel) ⟨Nat.le_of_ble_eq_true rfl, Nat.le_of_ble_eq_true rfl⟩) ⟨PX_blind, PX_pre hPc hK hDc hG⟩ rfl rfl hl.1 rfl (lv_room (Nat.le_of_ble_eq_true rfl)) dX12_sets_7 ⟨Nat.zero_le _, Nat.zero_le _⟩) hS (fun q _ h => hFc q h) hFc ?_; clear hw hS; intro r1 _ t H1 locs1 ht hvm hw hB hz1 hk1 hS
  obtain ⟨hP1, -, -⟩ := hB
  rw [ht] at hP1
  replace hP := jC0 hP hD [] [0, 1] rfl hk1 hP1 (w_X12_sets h0 h_row h_kept h_isKept h_aside h_eight h_rows h_scales h_dealt h_bytes h_heardRow h_made h_comes h_backs h_fresh cy (0 : Int32) c_nodeS c_nodeD c_pairE c_pairO c_bit c_lag c_lagSum c_row) rfl rfl rfl 2 rfl (by decide +kernel); clear hD; obtain ⟨hP, hD⟩ := hP
  replace hP : va_P (dC, dI) vwCl (w_X12_sets h0 h_row h_kept h_isKept h_aside h_eight h_rows h_scales h_dealt h_bytes h_heardRow h_made h_comes h_backs h_fresh cy (0 : Int32) c_nodeS c_nodeD c_pairE c_pairO c_bit c_lag c_lagSum c_row) H1 := hP
  replace hD : va_D A (w_X12_sets h0 h_row h_kept h_isKept h_aside h_eight h_rows h_scales h_dealt h_bytes h_heardRow h_made h_comes h_backs h_fresh cy (0 : Int32) c_nodeS c_nodeD c_pairE c_pairO c_bit c_lag c_lagSum c_row) := hD
  clear hPc hDc hFc hP1 hk1 hz1 hvm ht; clear t; clear H locs; obtain ⟨H, hH⟩ : ∃ H, H = H1 := ⟨_, rfl⟩; obtain ⟨locs, hlo⟩ : ∃ L, L = locs1 := ⟨_, rfl⟩; subst hH; subst hlo
  refine W.widen (k := 0) (n := 0) (Nat.le_refl 0) (Nat.le_refl 0) ?_
  refine lv_if_ne (tgt := 15) hx hb dX12_sets_10 (by decide) (fun c2 => ?_) (fun c2 => ?_)
  · replace hw := hw.2 c2; clear c2
    refine lv_aload_n hx hb dX12_sets_15 rfl (lv_at hl 0 rfl) ?_
    refine va_get (D := (dC, dI)) (ci := 12) (v := .ref h_row) (C := RX12) (T := TX12) (N := 22) hx hb hts inX12 hown hK hP 0 rfl rfl 1 (by decide) (hts _ (List.mem_cons_of_mem _ mw_169)) (fun _ h9 => h9) rfl dX12_sets_16 ?_
    refine lv_bipush (v := 6) hx hb dX12_sets_19 (by decide) ?_
    refine lv_iload_n hx hb dX12_sets_21 rfl (lv_at hl 1 rfl) ?_
    refine lv_iadd hx hb dX12_sets_22 ?_
    refine lv_iload_n hx hb dX12_sets_23 rfl (lv_at hl 2 rfl) ?_
    obtain ⟨h3, hw⟩ := hw
    refine xiast (k := ((6 : Int32) + v1).toNatClampNeg) hx hb hK hP hD hS 1 0 rfl rfl h3 rfl dX12_sets_24 ?_; clear hP hD hS; clear H locs; intro f4 e_f4 H locs hP hD hS
    replace hw := hw f4 e_f4
    clear e_f4
    replace hP : va_P (dC, dI) vwCl (w_X12_sets h0 h_row h_kept h_isKept h_aside h_eight h_rows h_scales h_dealt h_bytes h_heardRow h_made h_comes h_backs h_fresh cy (0 : Int32) c_nodeS c_nodeD c_pairE c_pairO c_bit c_lag c_lagSum f4) H := hP
    replace hD : va_D A (w_X12_sets h0 h_row h_kept h_isKept h_aside h_eight h_rows h_scales h_dealt h_bytes h_heardRow h_made h_comes h_backs h_fresh cy (0 : Int32) c_nodeS c_nodeD c_pairE c_pairO c_bit c_lag c_lagSum f4) := hD
    refine lv_iload_n hx hb dX12_sets_25 rfl (lv_at hl 1 rfl) ?_
    refine jn1 (Gg := fun (f5 : (Nat → Int32)) => ∀ (H : Heap) (locs : List Loc) (ls : Array Slot), va_P (dC, dI) vwCl (w_X12_sets h0 h_row h_kept h_isKept h_aside h_eight h_rows h_scales h_dealt h_bytes h_heardRow h_made h_comes h_backs h_fresh cy (0 : Int32) c_nodeS c_nodeD c_pairE c_pairO c_bit c_lag c_lagSum f5) H → va_D A (w_X12_sets h0 h_row h_kept h_isKept h_aside h_eight h_rows h_scales h_dealt h_bytes h_heardRow h_made h_comes h_backs h_fresh cy (0 : Int32) c_nodeS c_nodeD c_pairE c_pairO c_bit c_lag c_lagSum f5) → va_S A s.heap H locs → lv_has ls 3 [(0, .ref h0), (1, .int v1), (2, .int v2)] → W p l e { frames := 2, cells := 0, slots := 0, locals := 46 } s m av below meth c H locs 0 0 Q0 (F0 m 37 ls [])) hw ?_ ?_ <;> clear hw
    · clear hP hD hS hl; clear H locs ls; intro f5 hw H locs ls hP hD hS hl
      refine lv_iload_n hx hb dX12_sets_37 rfl (lv_at hl 1 rfl) ?_
      refine lv_iconst (v := 1) hx hb dX12_sets_38 (by decide) ?_
      refine jn0 (Gg := ∀ (H : Heap) (locs : List Loc) (ls : Array Slot), va_P (dC, dI) vwCl (w_X12_sets h0 h_row h_kept h_isKept h_aside h_eight h_rows h_scales h_dealt h_bytes h_heardRow h_made h_comes h_backs h_fresh cy (0 : Int32) c_nodeS c_nodeD c_pairE c_pairO c_bit c_lag c_lagSum f5) H → va_D A (w_X12_sets h0 h_row h_kept h_isKept h_aside h_eight h_rows h_scales h_dealt h_bytes h_heardRow h_made h_comes h_backs h_fresh cy (0 : Int32) c_nodeS c_nodeD c_pairE c_pairO c_bit c_lag c_lagSum f5) → va_S A s.heap H locs → lv_has ls 3 [(0, .ref h0)] → W p l e { frames := 2, cells := 0, slots := 0, locals := 46 } s m av below meth c H locs 0 0 Q0 (F0 m 52 ls [])) hw ?_ ?_ <;> clear hw
      · clear hP hD hS hl; clear H locs ls; intro  hw H locs ls hP hD hS hl
        refine lv_aload_n hx hb dX12_sets_52 rfl (lv_at hl 0 rfl) ?_
        refine va_get (D := (dC, dI)) (ci := 12) (v := .ref h_row) (C := RX12) (T := TX12) (N := 22) hx hb hts inX12 hown hK hP 0 rfl rfl 1 (by decide) (hts _ (List.mem_cons_of_mem _ mw_169)) (fun _ h9 => h9) rfl dX12_sets_53 ?_
        refine lv_bipush (v := 43) hx hb dX12_sets_56 (by decide) ?_
        refine lv_aload_n hx hb dX12_sets_58 rfl (lv_at hl 0 rfl) ?_
        refine va_get (D := (dC, dI)) (ci := 12) (v := .ref h_row) (C := RX12) (T := TX12) (N := 22) hx hb hts inX12 hown hK hP 0 rfl rfl 1 (by decide) (hts _ (List.mem_cons_of_mem _ mw_169)) (fun _ h9 => h9) rfl dX12_sets_59 ?_
        refine lv_bipush (v := 7) hx hb dX12_sets_62 (by decide) ?_
        refine xiald (k := 7) hx hb hK hP 1 0 rfl rfl (vpL 7 13385 rfl) (by decide) dX12_sets_64 ?_
        refine xiast (k := 43) hx hb hK hP hD hS 1 0 rfl rfl (vpL 43 13385 rfl) (by decide) dX12_sets_65 ?_; clear hP hD hS; clear H locs; intro f12 e_f12 H locs hP hD hS
        replace hw := hw f12 e_f12
        clear e_f12
        replace hP : va_P (dC, dI) vwCl (w_X12_sets h0 h_row h_kept h_isKept h_aside h_eight h_rows h_scales h_dealt h_bytes h_heardRow h_made h_comes h_backs h_fresh cy (0 : Int32) c_nodeS c_nodeD c_pairE c_pairO c_bit c_lag c_lagSum f12) H := hP
        replace hD : va_D A (w_X12_sets h0 h_row h_kept h_isKept h_aside h_eight h_rows h_scales h_dealt h_bytes h_heardRow h_made h_comes h_backs h_fresh cy (0 : Int32) c_nodeS c_nodeD c_pairE c_pairO c_bit c_lag c_lagSum f12) := hD
        refine lv_iconst (v := 1) hx hb dX12_sets_66 (by decide) ?_
        subst hQe
        exact W.zret (v := (1 : Int32)) hx hb hr isB_1 (fun t ht hW => ⟨⟨(1 : Int32), ((0 : Int32), f12), rfl, hw, by rw [ht]; exact hP, va_K.moved hW.alike hK, hD⟩, hS.F ht⟩) hS.2.2 dX12_sets_67
      · intro j9 hw
        refine lv_icmp_eq (tgt := 52) hx hb dX12_sets_39 (by decide) (fun c13 => ?_) (fun c13 => ?_)
        · replace hw := hw.1 c13; clear c13
          exact j9 hw H locs ls hP hD hS (lv_sub hl [0] rfl)
        · replace hw := hw.2 c13; clear c13
          refine lv_iload_n hx hb dX12_sets_42 rfl (lv_at hl 1 rfl) ?_
          refine lv_bipush (v := 9) hx hb dX12_sets_43 (by decide) ?_
          refine lv_icmp_ne (tgt := 66) hx hb dX12_sets_45 (by decide) (fun c14 => ?_) (fun c14 => ?_)
          · replace hw := hw.2 c14; clear c14
            refine lv_iconst (v := 1) hx hb dX12_sets_66 (by decide) ?_
            subst hQe
            exact W.zret (v := (1 : Int32)) hx hb hr isB_1 (fun t ht hW => ⟨⟨(1 : Int32), ((0 : Int32), f5), rfl, hw, by rw [ht]; exact hP, va_K.moved hW.alike hK, hD⟩, hS.F ht⟩) hS.2.2 dX12_sets_67
          · replace hw := hw.1 c14; clear c14
            refine lv_iload_n hx hb dX12_sets_48 rfl (lv_at hl 2 rfl) ?_
            refine lv_if_ne (tgt := 66) hx hb dX12_sets_49 (by decide) (fun c15 => ?_) (fun c15 => ?_)
            · replace hw := hw.2 c15; clear c15
              refine lv_iconst (v := 1) hx hb dX12_sets_66 (by decide) ?_
              subst hQe
              exact W.zret (v := (1 : Int32)) hx hb hr isB_1 (fun t ht hW => ⟨⟨(1 : Int32), ((0 : Int32), f5), rfl, hw, by rw [ht]; exact hP, va_K.moved hW.alike hK, hD⟩, hS.F ht⟩) hS.2.2 dX12_sets_67
            · replace hw := hw.1 c15; clear c15
              exact j9 hw H locs ls hP hD hS (lv_sub hl [0] rfl)
    · intro j7 hw
      refine lv_if_ne (tgt := 37) hx hb dX12_sets_26 (by decide) (fun c16 => ?_) (fun c16 => ?_)
      · replace hw := hw.2 c16; clear c16
        exact j7 f4 hw H locs ls hP hD hS (lv_sub hl [0, 1, 2] rfl)
      · replace hw := hw.1 c16; clear c16
        refine lv_aload_n hx hb dX12_sets_29 rfl (lv_at hl 0 rfl) ?_
        refine va_get (D := (dC, dI)) (ci := 12) (v := .ref h_row) (C := RX12) (T := TX12) (N := 22) hx hb hts inX12 hown hK hP 0 rfl rfl 1 (by decide) (hts _ (List.mem_cons_of_mem _ mw_169)) (fun _ h9 => h9) rfl dX12_sets_30 ?_
        refine lv_bipush (v := 49) hx hb dX12_sets_33 (by decide) ?_
        refine lv_iload_n hx hb dX12_sets_35 rfl (lv_at hl 2 rfl) ?_
        refine xiast (k := 49) hx hb hK hP hD hS 1 0 rfl rfl (vpL 49 13385 rfl) (by decide) dX12_sets_36 ?_; clear hP hD hS; clear H locs; intro f18 e_f18 H locs hP hD hS
        replace hw := hw f18 e_f18
        clear e_f18
        replace hP : va_P (dC, dI) vwCl (w_X12_sets h0 h_row h_kept h_isKept h_aside h_eight h_rows h_scales h_dealt h_bytes h_heardRow h_made h_comes h_backs h_fresh cy (0 : Int32) c_nodeS c_nodeD c_pairE c_pairO c_bit c_lag c_lagSum f18) H := hP
        replace hD : va_D A (w_X12_sets h0 h_row h_kept h_isKept h_aside h_eight h_rows h_scales h_dealt h_bytes h_heardRow h_made h_comes h_backs h_fresh cy (0 : Int32) c_nodeS c_nodeD c_pairE c_pairO c_bit c_lag c_lagSum f18) := hD
        exact j7 f18 hw H locs ls hP hD hS (lv_sub hl [0, 1, 2] rfl)
  · replace hw := hw.1 c2; clear c2
    refine lv_iconst (v := 0) hx hb dX12_sets_13 (by decide) ?_
    subst hQe
    exact W.zret (v := (0 : Int32)) hx hb hr isB_0 (fun t ht hW => ⟨⟨(0 : Int32), ((0 : Int32), c_row), rfl, hw, by rw [ht]; exact hP, va_K.moved hW.alike hK, hD⟩, hS.F ht⟩) hS.2.2 dX12_sets_14
set_option maxHeartbeats 4000000 in
set_option maxRecDepth 100000 in
theorem c_X12_loud (l : Launch) (dC : Nat → ClassId) (dI : Nat → Nat → Nat) (cy : Nat → ClassId) (h0 h_row h_kept h_isKept h_aside h_eight h_rows h_scales h_dealt h_bytes h_heardRow h_made h_comes h_backs h_fresh : Nat) (sz : Nat) (v1 : Int32) (v2 : Int32) (c_thrown : Int32) (c_nodeS : Int32) (c_nodeD : Int32) (c_pairE : Int32) (c_pairO : Int32) (c_bit : Int32) (c_lag : Int32) (c_lagSum : Int32) (c_row : Nat → Int32) (post : Int32 → Int32 → (Nat → Int32) → Prop) (hw : wp_X12_loud v1 v2 c_thrown c_row post) : Met l yX12_loud wsX12_loud ({ frames := 1, cells := 0, slots := 0, locals := 25 }) (PX dC dI cy [.ref h0, .int v1, .int v2] sz (w_X12_loud h0 h_row h_kept h_isKept h_aside h_eight h_rows h_scales h_dealt h_bytes h_heardRow h_made h_comes h_backs h_fresh cy c_thrown c_nodeS c_nodeD c_pairE c_pairO c_bit c_lag c_lagSum c_row)) (va_Qi (fun (r : Int32) (u : Int32 × (Nat → Int32)) => post r u.1 u.2) (QX dC dI cy (va_A (w_X12_loud h0 h_row h_kept h_isKept h_aside h_eight h_rows h_scales h_dealt h_bytes h_heardRow h_made h_comes h_backs h_fresh cy c_thrown c_nodeS c_nodeD c_pairE c_pairO c_bit c_lag c_lagSum c_row) sz) (fun (u : Int32 × (Nat → Int32)) => w_X12_loud h0 h_row h_kept h_isKept h_aside h_eight h_rows h_scales h_dealt h_bytes h_heardRow h_made h_comes h_backs h_fresh cy u.1 c_nodeS c_nodeD c_pairE c_pairO c_bit c_lag c_lagSum u.2)) (va_A (w_X12_loud h0 h_row h_kept h_isKept h_aside h_eight h_rows h_scales h_dealt h_bytes h_heardRow h_made h_comes h_backs h_fresh cy c_thrown c_nodeS c_nodeD c_pairE c_pairO c_bit c_lag c_lagSum c_row) sz)) 0 0 (va_A (w_X12_loud h0 h_row h_kept h_isKept h_aside h_eight h_rows h_scales h_dealt h_bytes h_heardRow h_made h_comes h_backs h_fresh cy c_thrown c_nodeS c_nodeD c_pairE c_pairO c_bit c_lag c_lagSum c_row) sz) := by
  refine Met.ofW (cc := cX12_loud) (maxL := 3) (ret := (some .boolean)) (by decide) rfl ?_
  intro p e s m args below meth c s₁ B hml hv
  obtain ⟨rfl, hsz, hP, hK, hD0, hG⟩ := hv
  have hx := B.exec
  have hb := B.bytes
  have hr := B.returns
  have hts := atoms_spec (ws := wsX12_loud) B.pre
  have hown : s.vm.findClass RX12 = some m.cls := findClass_of_methodNamed B.named
  have hlocks := B.notSynchronized
  subst hsz
  have hD := hD0.self (sz := s.heap.size)
  generalize hAe : va_A (w_X12_loud h0 h_row h_kept h_isKept h_aside h_eight h_rows h_scales h_dealt h_bytes h_heardRow h_made h_comes h_backs h_fresh cy c_thrown c_nodeS c_nodeD c_pairE c_pairO c_bit c_lag c_lagSum c_row) s.heap.size = A at hD ⊢
  have hA : ∀ q : Nat, s.heap.size ≤ q → A q := fun q h => by rw [← hAe]; exact Or.inr h
  have hS : va_S A s.heap s.heap [] := va_S.rf
  have hl := lv_entry ([.ref h0, .int v1, .int v2]) (n := 3) (Nat.le_of_ble_eq_true rfl)
  rw [lg_entry_eq]
  generalize (lg_sl ([.ref h0, .int v1, .int v2]) ++ List.replicate (3 - (lg_sl ([.ref h0, .int v1, .int v2])).length) Slot.unset).toArray = ls at hl ⊢
  replace hl : lv_has ls 3 [(0, .ref h0), (1, .int v1), (2, .int v2)] := hl
  have inX12 : ∀ w ∈ u_ws RX12 TX12 22, w ∈ wsX12_loud := fun w h => List.mem_cons_of_mem _ (inlX12 w h)
  clear hAe hD0 B
  unfold wp_X12_loud at hw
  generalize hQe : MQ below _ _ s _ _ _ = Q0
  generalize ([.ref h0, .int v1, .int v2] : List Value).toArray = av at *
  obtain ⟨H, hH⟩ : ∃ H, H = s.heap := ⟨_, rfl⟩
  obtain ⟨locs, hlo⟩ : ∃ L : List Loc, L = [] := ⟨_, rfl⟩
  replace hP : va_P (dC, dI) vwCl (w_X12_loud h0 h_row h_kept h_isKept h_aside h_eight h_rows h_scales h_dealt h_bytes h_heardRow h_made h_comes h_backs h_fresh cy c_thrown c_nodeS c_nodeD c_pairE c_pairO c_bit c_lag c_lagSum c_row) H := by rw [hH]; exact hP
  replace hS : va_S A s.heap H locs := by rw [hH, hlo]; exact hS
  suffices hgo : W p l e ({ frames := 1, cells := 0, slots := 0, locals := 25 }) s m av below meth c H locs 0 0 Q0 (F0 m 0 ls []) by rw [hH, hlo] at hgo; exact hgo
  clear hH hlo
  refine lv_aload_n hx hb dX12_loud_0 rfl (lv_at hl 0 rfl) ?_
  refine lv_iconst (v := 0) hx hb dX12_loud_1 (by decide) ?_
  refine va_put (D := (dC, dI)) (ci := 12) (v := .int (0 : Int32)) (ty := .int) (C := RX12) (T := TX12) (N := 22) hx hb hts inX12 tyX12 tyX12_ok nmX12 hown hK hP hD hS 0 rfl rfl 0 (by decide) (hts _ (List.mem_cons_of_mem _ mw_200)) (fun _ h9 => h9) rfl (by decide +kernel) rfl rfl (Nat.le_of_ble_eq_true rfl) dX12_loud_2 ?_; clear hP hD hS; clear H locs; intro H locs hP hD hS
  replace hP : va_P (dC, dI) vwCl (w_X12_loud h0 h_row h_kept h_isKept h_aside h_eight h_rows h_scales h_dealt h_bytes h_heardRow h_made h_comes h_backs h_fresh cy (0 : Int32) c_nodeS c_nodeD c_pairE c_pairO c_bit c_lag c_lagSum c_row) H := hP
  replace hD : va_D A (w_X12_loud h0 h_row h_kept h_isKept h_aside h_eight h_rows h_scales h_dealt h_bytes h_heardRow h_made h_comes h_backs h_fresh cy (0 : Int32) c_nodeS c_nodeD c_pairE c_pairO c_bit c_lag c_lagSum c_row) := hD
  refine lv_iload_n hx hb dX12_loud_5 rfl (lv_at hl 1 rfl) ?_
  refine lv_i2l (v := v1.toInt64) hx hb dX12_loud_6 rfl ?_
  refine lv_lconst (v := 0) hx hb dX12_loud_7 (by decide) ?_
  refine lv_ldc2 (v := 7) hx hb hown (hts _ (List.mem_cons_of_mem _ mw_240)) dX12_loud_8 ?_
  have hPc := pSub (ws' := (w_X12_in cy)) hP [] rfl
  have hDc := dSub (ws' := (w_X12_in cy)) hD [] (by decide) rfl
  have hFc := va_free (wc := (w_X12_in cy)) hD hS hA [] rfl
  refine va_calli (va_runS (As := [.long (v1.toInt64), .long (0 : Int64), .long (7 : Int64)]) (rest := []) ⟨hx, hb, hml, hown, hts⟩ (c_X12_in l dC dI cy  H.size (v1.toInt64) (0 : Int64) (7 : Int64) _ hw) (va_cwS 3 hts (goodS mw_207 mw_205 mw_206 mw_5) rfl rfl rfl (by decide +kernel) ⟨Nat.le_of_ble_eq_true rfl, Nat.le_of_ble_eq_true rfl⟩) ⟨PX_blind, PX_pre hPc hK hDc hG⟩ rfl rfl hl.1 rfl (lv_room (Nat.le_of_ble_eq_true rfl)) dX12_loud_11 ⟨Nat.zero_le _, Nat.zero_le _⟩) hS (fun q _ h => hFc q h) hFc ?_; clear hw hS; intro r1 _ t H1 locs1 ht hvm hw hB hz1 hk1 hS
  obtain ⟨hP1, -, -⟩ := hB
  rw [ht] at hP1
  replace hP := jC0 hP hD [] [0, 1] rfl hk1 hP1 (w_X12_loud h0 h_row h_kept h_isKept h_aside h_eight h_rows h_scales h_dealt h_bytes h_heardRow h_made h_comes h_backs h_fresh cy (0 : Int32) c_nodeS c_nodeD c_pairE c_pairO c_bit c_lag c_lagSum c_row) rfl rfl rfl 2 rfl (by decide +kernel); clear hD; obtain ⟨hP, hD⟩ := hP
  replace hP : va_P (dC, dI) vwCl (w_X12_loud h0 h_row h_kept h_isKept h_aside h_eight h_rows h_scales h_dealt h_bytes h_heardRow h_made h_comes h_backs h_fresh cy (0 : Int32) c_nodeS c_nodeD c_pairE c_pairO c_bit c_lag c_lagSum c_row) H1 := hP
  replace hD : va_D A (w_X12_loud h0 h_row h_kept h_isKept h_aside h_eight h_rows h_scales h_dealt h_bytes h_heardRow h_made h_comes h_backs h_fresh cy (0 : Int32) c_nodeS c_nodeD c_pairE c_pairO c_bit c_lag c_lagSum c_row) := hD
  clear hPc hDc hFc hP1 hk1 hz1 hvm ht; clear t; clear H locs; obtain ⟨H, hH⟩ : ∃ H, H = H1 := ⟨_, rfl⟩; obtain ⟨locs, hlo⟩ : ∃ L, L = locs1 := ⟨_, rfl⟩; subst hH; subst hlo
  refine W.widen (k := 0) (n := 0) (Nat.le_refl 0) (Nat.le_refl 0) ?_
  refine lv_if_eq (tgt := 31) hx hb dX12_loud_14 (by decide) (fun c2 => ?_) (fun c2 => ?_)
  · replace hw := hw.1 c2; clear c2
    refine lv_iconst (v := 0) hx hb dX12_loud_31 (by decide) ?_
    subst hQe
    exact W.zret (v := (0 : Int32)) hx hb hr isB_0 (fun t ht hW => ⟨⟨(0 : Int32), ((0 : Int32), c_row), rfl, hw, by rw [ht]; exact hP, va_K.moved hW.alike hK, hD⟩, hS.F ht⟩) hS.2.2 dX12_loud_32
  · replace hw := hw.2 c2; clear c2
    refine lv_iload_n hx hb dX12_loud_17 rfl (lv_at hl 2 rfl) ?_
    refine lv_i2l (v := v2.toInt64) hx hb dX12_loud_18 rfl ?_
    refine lv_ldc2 (v := -4) hx hb hown (hts _ (List.mem_cons_of_mem _ mw_241)) dX12_loud_19 ?_
    refine lv_ldc2 (v := 8) hx hb hown (hts _ (List.mem_cons_of_mem _ mw_242)) dX12_loud_22 ?_
    have hPc := pSub (ws' := (w_X12_in cy)) hP [] rfl
    have hDc := dSub (ws' := (w_X12_in cy)) hD [] (by decide) rfl
    have hFc := va_free (wc := (w_X12_in cy)) hD hS hA [] rfl
    refine va_calli (va_runS (As := [.long (v2.toInt64), .long (-4 : Int64), .long (8 : Int64)]) (rest := []) ⟨hx, hb, hml, hown, hts⟩ (c_X12_in l dC dI cy  H.size (v2.toInt64) (-4 : Int64) (8 : Int64) _ hw) (va_cwS 3 hts (goodS mw_207 mw_205 mw_206 mw_5) rfl rfl rfl (by decide +kernel) ⟨Nat.le_of_ble_eq_true rfl, Nat.le_of_ble_eq_true rfl⟩) ⟨PX_blind, PX_pre hPc hK hDc hG⟩ rfl rfl hl.1 rfl (lv_room (Nat.le_of_ble_eq_true rfl)) dX12_loud_25 ⟨Nat.zero_le _, Nat.zero_le _⟩) hS (fun q _ h => hFc q h) hFc ?_; clear hw hS; intro r3 _ t H1 locs1 ht hvm hw hB hz1 hk1 hS
    obtain ⟨hP1, -, -⟩ := hB
    rw [ht] at hP1
    replace hP := jC0 hP hD [] [0, 1] rfl hk1 hP1 (w_X12_loud h0 h_row h_kept h_isKept h_aside h_eight h_rows h_scales h_dealt h_bytes h_heardRow h_made h_comes h_backs h_fresh cy (0 : Int32) c_nodeS c_nodeD c_pairE c_pairO c_bit c_lag c_lagSum c_row) rfl rfl rfl 2 rfl (by decide +kernel); clear hD; obtain ⟨hP, hD⟩ := hP
    replace hP : va_P (dC, dI) vwCl (w_X12_loud h0 h_row h_kept h_isKept h_aside h_eight h_rows h_scales h_dealt h_bytes h_heardRow h_made h_comes h_backs h_fresh cy (0 : Int32) c_nodeS c_nodeD c_pairE c_pairO c_bit c_lag c_lagSum c_row) H1 := hP
    replace hD : va_D A (w_X12_loud h0 h_row h_kept h_isKept h_aside h_eight h_rows h_scales h_dealt h_bytes h_heardRow h_made h_comes h_backs h_fresh cy (0 : Int32) c_nodeS c_nodeD c_pairE c_pairO c_bit c_lag c_lagSum c_row) := hD
    clear hPc hDc hFc hP1 hk1 hz1 hvm ht; clear t; clear H locs; obtain ⟨H, hH⟩ : ∃ H, H = H1 := ⟨_, rfl⟩; obtain ⟨locs, hlo⟩ : ∃ L, L = locs1 := ⟨_, rfl⟩; subst hH; subst hlo
    refine W.widen (k := 0) (n := 0) (Nat.le_refl 0) (Nat.le_refl 0) ?_
    refine lv_if_ne (tgt := 33) hx hb dX12_loud_28 (by decide) (fun c4 => ?_) (fun c4 => ?_)
    · replace hw := hw.2 c4; clear c4
      refine lv_aload_n hx hb dX12_loud_33 rfl (lv_at hl 0 rfl) ?_
      refine va_get (D := (dC, dI)) (ci := 12) (v := .ref h_row) (C := RX12) (T := TX12) (N := 22) hx hb hts inX12 hown hK hP 0 rfl rfl 1 (by decide) (hts _ (List.mem_cons_of_mem _ mw_169)) (fun _ h9 => h9) rfl dX12_loud_34 ?_
      refine lv_bipush (v := 17) hx hb dX12_loud_37 (by decide) ?_
      refine lv_iload_n hx hb dX12_loud_39 rfl (lv_at hl 1 rfl) ?_
      refine lv_iadd hx hb dX12_loud_40 ?_
      refine lv_iload_n hx hb dX12_loud_41 rfl (lv_at hl 2 rfl) ?_
      obtain ⟨h5, hw⟩ := hw
      refine xiast (k := ((17 : Int32) + v1).toNatClampNeg) hx hb hK hP hD hS 1 0 rfl rfl h5 rfl dX12_loud_42 ?_; clear hP hD hS; clear H locs; intro f6 e_f6 H locs hP hD hS
      replace hw := hw f6 e_f6
      clear e_f6
      replace hP : va_P (dC, dI) vwCl (w_X12_loud h0 h_row h_kept h_isKept h_aside h_eight h_rows h_scales h_dealt h_bytes h_heardRow h_made h_comes h_backs h_fresh cy (0 : Int32) c_nodeS c_nodeD c_pairE c_pairO c_bit c_lag c_lagSum f6) H := hP
      replace hD : va_D A (w_X12_loud h0 h_row h_kept h_isKept h_aside h_eight h_rows h_scales h_dealt h_bytes h_heardRow h_made h_comes h_backs h_fresh cy (0 : Int32) c_nodeS c_nodeD c_pairE c_pairO c_bit c_lag c_lagSum f6) := hD
      refine lv_iconst (v := 1) hx hb dX12_loud_43 (by decide) ?_
      subst hQe
      exact W.zret (v := (1 : Int32)) hx hb hr isB_1 (fun t ht hW => ⟨⟨(1 : Int32), ((0 : Int32), f6), rfl, hw, by rw [ht]; exact hP, va_K.moved hW.alike hK, hD⟩, hS.F ht⟩) hS.2.2 dX12_loud_44
    · replace hw := hw.1 c4; clear c4
      refine lv_iconst (v := 0) hx hb dX12_loud_31 (by decide) ?_
      subst hQe
      exact W.zret (v := (0 : Int32)) hx hb hr isB_0 (fun t ht hW => ⟨⟨(0 : Int32), ((0 : Int32), c_row), rfl, hw, by rw [ht]; exact hP, va_K.moved hW.alike hK, hD⟩, hS.F ht⟩) hS.2.2 dX12_loud_32
set_option maxHeartbeats 4000000 in
set_option maxRecDepth 100000 in
theorem c_X12_burst (l : Launch) (dC : Nat → ClassId) (dI : Nat → Nat → Nat) (cy : Nat → ClassId) (h0 h_row h_kept h_isKept h_aside h_eight h_rows h_scales h_dealt h_bytes h_heardRow h_made h_comes h_backs h_fresh : Nat) (sz : Nat) (v1 : Int32) (c_thrown : Int32) (c_nodeS : Int32) (c_nodeD : Int32) (c_pairE : Int32) (c_pairO : Int32) (c_bit : Int32) (c_lag : Int32) (c_lagSum : Int32) (c_row : Nat → Int32) (post : Int32 → Int32 → (Nat → Int32) → Prop) (hw : wp_X12_burst v1 c_thrown c_row post) : Met l yX12_burst wsX12_burst ({ frames := 1, cells := 0, slots := 0, locals := 25 }) (PX dC dI cy [.ref h0, .int v1] sz (w_X12_burst h0 h_row h_kept h_isKept h_aside h_eight h_rows h_scales h_dealt h_bytes h_heardRow h_made h_comes h_backs h_fresh cy c_thrown c_nodeS c_nodeD c_pairE c_pairO c_bit c_lag c_lagSum c_row)) (va_Qi (fun (r : Int32) (u : Int32 × (Nat → Int32)) => post r u.1 u.2) (QX dC dI cy (va_A (w_X12_burst h0 h_row h_kept h_isKept h_aside h_eight h_rows h_scales h_dealt h_bytes h_heardRow h_made h_comes h_backs h_fresh cy c_thrown c_nodeS c_nodeD c_pairE c_pairO c_bit c_lag c_lagSum c_row) sz) (fun (u : Int32 × (Nat → Int32)) => w_X12_burst h0 h_row h_kept h_isKept h_aside h_eight h_rows h_scales h_dealt h_bytes h_heardRow h_made h_comes h_backs h_fresh cy u.1 c_nodeS c_nodeD c_pairE c_pairO c_bit c_lag c_lagSum u.2)) (va_A (w_X12_burst h0 h_row h_kept h_isKept h_aside h_eight h_rows h_scales h_dealt h_bytes h_heardRow h_made h_comes h_backs h_fresh cy c_thrown c_nodeS c_nodeD c_pairE c_pairO c_bit c_lag c_lagSum c_row) sz)) 0 0 (va_A (w_X12_burst h0 h_row h_kept h_isKept h_aside h_eight h_rows h_scales h_dealt h_bytes h_heardRow h_made h_comes h_backs h_fresh cy c_thrown c_nodeS c_nodeD c_pairE c_pairO c_bit c_lag c_lagSum c_row) sz) := by
  refine Met.ofW (cc := cX12_burst) (maxL := 3) (ret := (some .int)) (by decide) rfl ?_
  intro p e s m args below meth c s₁ B hml hv
  obtain ⟨rfl, hsz, hP, hK, hD0, hG⟩ := hv
  have hx := B.exec
  have hb := B.bytes
  have hr := B.returns
  have hts := atoms_spec (ws := wsX12_burst) B.pre
  have hown : s.vm.findClass RX12 = some m.cls := findClass_of_methodNamed B.named
  have hlocks := B.notSynchronized
  subst hsz
  have hD := hD0.self (sz := s.heap.size)
  generalize hAe : va_A (w_X12_burst h0 h_row h_kept h_isKept h_aside h_eight h_rows h_scales h_dealt h_bytes h_heardRow h_made h_comes h_backs h_fresh cy c_thrown c_nodeS c_nodeD c_pairE c_pairO c_bit c_lag c_lagSum c_row) s.heap.size = A at hD ⊢
  have hA : ∀ q : Nat, s.heap.size ≤ q → A q := fun q h => by rw [← hAe]; exact Or.inr h
  have hS : va_S A s.heap s.heap [] := va_S.rf
  have hl := lv_entry ([.ref h0, .int v1]) (n := 3) (Nat.le_of_ble_eq_true rfl)
  rw [lg_entry_eq]
  generalize (lg_sl ([.ref h0, .int v1]) ++ List.replicate (3 - (lg_sl ([.ref h0, .int v1])).length) Slot.unset).toArray = ls at hl ⊢
  replace hl : lv_has ls 3 [(0, .ref h0), (1, .int v1)] := hl
  have inX12 : ∀ w ∈ u_ws RX12 TX12 22, w ∈ wsX12_burst := fun w h => List.mem_cons_of_mem _ (inlX12 w h)
  clear hAe hD0 B
  unfold wp_X12_burst at hw
  generalize hQe : MQ below _ _ s _ _ _ = Q0
  generalize ([.ref h0, .int v1] : List Value).toArray = av at *
  obtain ⟨H, hH⟩ : ∃ H, H = s.heap := ⟨_, rfl⟩
  obtain ⟨locs, hlo⟩ : ∃ L : List Loc, L = [] := ⟨_, rfl⟩
  replace hP : va_P (dC, dI) vwCl (w_X12_burst h0 h_row h_kept h_isKept h_aside h_eight h_rows h_scales h_dealt h_bytes h_heardRow h_made h_comes h_backs h_fresh cy c_thrown c_nodeS c_nodeD c_pairE c_pairO c_bit c_lag c_lagSum c_row) H := by rw [hH]; exact hP
  replace hS : va_S A s.heap H locs := by rw [hH, hlo]; exact hS
  suffices hgo : W p l e ({ frames := 1, cells := 0, slots := 0, locals := 25 }) s m av below meth c H locs 0 0 Q0 (F0 m 0 ls []) by rw [hH, hlo] at hgo; exact hgo
  clear hH hlo
  refine lv_aload_n hx hb dX12_burst_0 rfl (lv_at hl 0 rfl) ?_
  refine lv_iconst (v := 0) hx hb dX12_burst_1 (by decide) ?_
  refine va_put (D := (dC, dI)) (ci := 12) (v := .int (0 : Int32)) (ty := .int) (C := RX12) (T := TX12) (N := 22) hx hb hts inX12 tyX12 tyX12_ok nmX12 hown hK hP hD hS 0 rfl rfl 0 (by decide) (hts _ (List.mem_cons_of_mem _ mw_200)) (fun _ h9 => h9) rfl (by decide +kernel) rfl rfl (Nat.le_of_ble_eq_true rfl) dX12_burst_2 ?_; clear hP hD hS; clear H locs; intro H locs hP hD hS
  replace hP : va_P (dC, dI) vwCl (w_X12_burst h0 h_row h_kept h_isKept h_aside h_eight h_rows h_scales h_dealt h_bytes h_heardRow h_made h_comes h_backs h_fresh cy (0 : Int32) c_nodeS c_nodeD c_pairE c_pairO c_bit c_lag c_lagSum c_row) H := hP
  replace hD : va_D A (w_X12_burst h0 h_row h_kept h_isKept h_aside h_eight h_rows h_scales h_dealt h_bytes h_heardRow h_made h_comes h_backs h_fresh cy (0 : Int32) c_nodeS c_nodeD c_pairE c_pairO c_bit c_lag c_lagSum c_row) := hD
  refine lv_iload_n hx hb dX12_burst_5 rfl (lv_at hl 1 rfl) ?_
  refine lv_i2l (v := v1.toInt64) hx hb dX12_burst_6 rfl ?_
  refine lv_lconst (v := 0) hx hb dX12_burst_7 (by decide) ?_
  refine lv_ldc2 (v := 99) hx hb hown (hts _ (List.mem_cons_of_mem _ mw_251)) dX12_burst_8 ?_
  have hPc := pSub (ws' := (w_X12_in cy)) hP [] rfl
  have hDc := dSub (ws' := (w_X12_in cy)) hD [] (by decide) rfl
  have hFc := va_free (wc := (w_X12_in cy)) hD hS hA [] rfl
  refine va_calli (va_runS (As := [.long (v1.toInt64), .long (0 : Int64), .long (99 : Int64)]) (rest := []) ⟨hx, hb, hml, hown, hts⟩ (c_X12_in l dC dI cy  H.size (v1.toInt64) (0 : Int64) (99 : Int64) _ hw) (va_cwS 3 hts (goodS mw_207 mw_205 mw_206 mw_5) rfl rfl rfl (by decide +kernel) ⟨Nat.le_of_ble_eq_true rfl, Nat.le_of_ble_eq_true rfl⟩) ⟨PX_blind, PX_pre hPc hK hDc hG⟩ rfl rfl hl.1 rfl (lv_room (Nat.le_of_ble_eq_true rfl)) dX12_burst_11 ⟨Nat.zero_le _, Nat.zero_le _⟩) hS (fun q _ h => hFc q h) hFc ?_; clear hw hS; intro r1 _ t H1 locs1 ht hvm hw hB hz1 hk1 hS
  obtain ⟨hP1, -, -⟩ := hB
  rw [ht] at hP1
  replace hP := jC0 hP hD [] [0, 1] rfl hk1 hP1 (w_X12_burst h0 h_row h_kept h_isKept h_aside h_eight h_rows h_scales h_dealt h_bytes h_heardRow h_made h_comes h_backs h_fresh cy (0 : Int32) c_nodeS c_nodeD c_pairE c_pairO c_bit c_lag c_lagSum c_row) rfl rfl rfl 2 rfl (by decide +kernel); clear hD; obtain ⟨hP, hD⟩ := hP
  replace hP : va_P (dC, dI) vwCl (w_X12_burst h0 h_row h_kept h_isKept h_aside h_eight h_rows h_scales h_dealt h_bytes h_heardRow h_made h_comes h_backs h_fresh cy (0 : Int32) c_nodeS c_nodeD c_pairE c_pairO c_bit c_lag c_lagSum c_row) H1 := hP
  replace hD : va_D A (w_X12_burst h0 h_row h_kept h_isKept h_aside h_eight h_rows h_scales h_dealt h_bytes h_heardRow h_made h_comes h_backs h_fresh cy (0 : Int32) c_nodeS c_nodeD c_pairE c_pairO c_bit c_lag c_lagSum c_row) := hD
  clear hPc hDc hFc hP1 hk1 hz1 hvm ht; clear t; clear H locs; obtain ⟨H, hH⟩ : ∃ H, H = H1 := ⟨_, rfl⟩; obtain ⟨locs, hlo⟩ : ∃ L, L = locs1 := ⟨_, rfl⟩; subst hH; subst hlo
  refine W.widen (k := 0) (n := 0) (Nat.le_refl 0) (Nat.le_refl 0) ?_
  refine lv_if_ne (tgt := 19) hx hb dX12_burst_14 (by decide) (fun c2 => ?_) (fun c2 => ?_)
  · replace hw := hw.2 c2; clear c2
    refine lv_aload_n hx hb dX12_burst_19 rfl (lv_at hl 0 rfl) ?_
    refine va_get (D := (dC, dI)) (ci := 12) (v := .ref h_row) (C := RX12) (T := TX12) (N := 22) hx hb hts inX12 hown hK hP 0 rfl rfl 1 (by decide) (hts _ (List.mem_cons_of_mem _ mw_169)) (fun _ h9 => h9) rfl dX12_burst_20 ?_
    refine lv_bipush (v := 48) hx hb dX12_burst_23 (by decide) ?_
    refine xiald (k := 48) hx hb hK hP 1 0 rfl rfl (vpL 48 13385 rfl) (by decide) dX12_burst_25 ?_
    refine lv_topi (fun x4 e_x4 => ?_)
    replace hw := hw x4 e_x4
    clear e_x4
    refine lv_istore_n (lv' := [(2, .int x4), (0, .ref h0), (1, .int v1)]) hx hb dX12_burst_26 rfl hl (by decide) rfl ?_; clear hl; clear ls; intro ls hl
    refine lv_aload_n hx hb dX12_burst_27 rfl (lv_at hl 1 rfl) ?_
    refine va_get (D := (dC, dI)) (ci := 12) (v := .ref h_row) (C := RX12) (T := TX12) (N := 22) hx hb hts inX12 hown hK hP 0 rfl rfl 1 (by decide) (hts _ (List.mem_cons_of_mem _ mw_169)) (fun _ h9 => h9) rfl dX12_burst_28 ?_
    refine lv_bipush (v := 48) hx hb dX12_burst_31 (by decide) ?_
    refine lv_iload_n hx hb dX12_burst_33 rfl (lv_at hl 2 rfl) ?_
    refine xiast (k := 48) hx hb hK hP hD hS 1 0 rfl rfl (vpL 48 13385 rfl) (by decide) dX12_burst_34 ?_; clear hP hD hS; clear H locs; intro f6 e_f6 H locs hP hD hS
    replace hw := hw f6 e_f6
    clear e_f6
    replace hP : va_P (dC, dI) vwCl (w_X12_burst h0 h_row h_kept h_isKept h_aside h_eight h_rows h_scales h_dealt h_bytes h_heardRow h_made h_comes h_backs h_fresh cy (0 : Int32) c_nodeS c_nodeD c_pairE c_pairO c_bit c_lag c_lagSum f6) H := hP
    replace hD : va_D A (w_X12_burst h0 h_row h_kept h_isKept h_aside h_eight h_rows h_scales h_dealt h_bytes h_heardRow h_made h_comes h_backs h_fresh cy (0 : Int32) c_nodeS c_nodeD c_pairE c_pairO c_bit c_lag c_lagSum f6) := hD
    refine lv_iload_n hx hb dX12_burst_35 rfl (lv_at hl 0 rfl) ?_
    subst hQe
    exact W.iret (v := x4) hx hb hr (fun t ht hW => ⟨⟨x4, ((0 : Int32), f6), rfl, hw, by rw [ht]; exact hP, va_K.moved hW.alike hK, hD⟩, hS.F ht⟩) hS.2.2 dX12_burst_36
  · replace hw := hw.1 c2; clear c2
    refine lv_iconst (v := -1) hx hb dX12_burst_17 (by decide) ?_
    subst hQe
    exact W.iret (v := (-1 : Int32)) hx hb hr (fun t ht hW => ⟨⟨(-1 : Int32), ((0 : Int32), c_row), rfl, hw, by rw [ht]; exact hP, va_K.moved hW.alike hK, hD⟩, hS.F ht⟩) hS.2.2 dX12_burst_18
set_option maxHeartbeats 4000000 in
set_option maxRecDepth 100000 in
theorem c_X12_restart (l : Launch) (dC : Nat → ClassId) (dI : Nat → Nat → Nat) (cy : Nat → ClassId) (h0 h_row h_kept h_isKept h_aside h_eight h_rows h_scales h_dealt h_bytes h_heardRow h_made h_comes h_backs h_fresh : Nat) (sz : Nat) (c_thrown : Int32) (c_nodeS : Int32) (c_nodeD : Int32) (c_pairE : Int32) (c_pairO : Int32) (c_bit : Int32) (c_lag : Int32) (c_lagSum : Int32) (c_row : Nat → Int32) (post : Int32 → Int32 → (Nat → Int32) → Prop) (hw : wp_X12_restart c_thrown c_row post) : Met l yX12_restart wsX12_restart ({ frames := 1, cells := 0, slots := 0, locals := 21 }) (PX dC dI cy [.ref h0] sz (w_X12_restart h0 h_row h_kept h_isKept h_aside h_eight h_rows h_scales h_dealt h_bytes h_heardRow h_made h_comes h_backs h_fresh cy c_thrown c_nodeS c_nodeD c_pairE c_pairO c_bit c_lag c_lagSum c_row)) (va_Qi (fun (r : Int32) (u : Int32 × (Nat → Int32)) => post r u.1 u.2) (QX dC dI cy (va_A (w_X12_restart h0 h_row h_kept h_isKept h_aside h_eight h_rows h_scales h_dealt h_bytes h_heardRow h_made h_comes h_backs h_fresh cy c_thrown c_nodeS c_nodeD c_pairE c_pairO c_bit c_lag c_lagSum c_row) sz) (fun (u : Int32 × (Nat → Int32)) => w_X12_restart h0 h_row h_kept h_isKept h_aside h_eight h_rows h_scales h_dealt h_bytes h_heardRow h_made h_comes h_backs h_fresh cy u.1 c_nodeS c_nodeD c_pairE c_pairO c_bit c_lag c_lagSum u.2)) (va_A (w_X12_restart h0 h_row h_kept h_isKept h_aside h_eight h_rows h_scales h_dealt h_bytes h_heardRow h_made h_comes h_backs h_fresh cy c_thrown c_nodeS c_nodeD c_pairE c_pairO c_bit c_lag c_lagSum c_row) sz)) 0 0 (va_A (w_X12_restart h0 h_row h_kept h_isKept h_aside h_eight h_rows h_scales h_dealt h_bytes h_heardRow h_made h_comes h_backs h_fresh cy c_thrown c_nodeS c_nodeD c_pairE c_pairO c_bit c_lag c_lagSum c_row) sz) := by
  refine Met.ofW (cc := cX12_restart) (maxL := 2) (ret := (some .int)) (by decide) rfl ?_
  intro p e s m args below meth c s₁ B hml hv
  obtain ⟨rfl, hsz, hP, hK, hD0, hG⟩ := hv
  have hx := B.exec
  have hb := B.bytes
  have hr := B.returns
  have hts := atoms_spec (ws := wsX12_restart) B.pre
  have hown : s.vm.findClass RX12 = some m.cls := findClass_of_methodNamed B.named
  have hlocks := B.notSynchronized
  subst hsz
  have hD := hD0.self (sz := s.heap.size)
  generalize hAe : va_A (w_X12_restart h0 h_row h_kept h_isKept h_aside h_eight h_rows h_scales h_dealt h_bytes h_heardRow h_made h_comes h_backs h_fresh cy c_thrown c_nodeS c_nodeD c_pairE c_pairO c_bit c_lag c_lagSum c_row) s.heap.size = A at hD ⊢
  have hA : ∀ q : Nat, s.heap.size ≤ q → A q := fun q h => by rw [← hAe]; exact Or.inr h
  have hS : va_S A s.heap s.heap [] := va_S.rf
  have hl := lv_entry ([.ref h0]) (n := 2) (Nat.le_of_ble_eq_true rfl)
  rw [lg_entry_eq]
  generalize (lg_sl ([.ref h0]) ++ List.replicate (2 - (lg_sl ([.ref h0])).length) Slot.unset).toArray = ls at hl ⊢
  replace hl : lv_has ls 2 [(0, .ref h0)] := hl
  have inX12 : ∀ w ∈ u_ws RX12 TX12 22, w ∈ wsX12_restart := fun w h => List.mem_cons_of_mem _ (inlX12 w h)
  clear hAe hD0 B
  unfold wp_X12_restart at hw
  generalize hQe : MQ below _ _ s _ _ _ = Q0
  generalize ([.ref h0] : List Value).toArray = av at *
  obtain ⟨H, hH⟩ : ∃ H, H = s.heap := ⟨_, rfl⟩
  obtain ⟨locs, hlo⟩ : ∃ L : List Loc, L = [] := ⟨_, rfl⟩
  replace hP : va_P (dC, dI) vwCl (w_X12_restart h0 h_row h_kept h_isKept h_aside h_eight h_rows h_scales h_dealt h_bytes h_heardRow h_made h_comes h_backs h_fresh cy c_thrown c_nodeS c_nodeD c_pairE c_pairO c_bit c_lag c_lagSum c_row) H := by rw [hH]; exact hP
  replace hS : va_S A s.heap H locs := by rw [hH, hlo]; exact hS
  suffices hgo : W p l e ({ frames := 1, cells := 0, slots := 0, locals := 21 }) s m av below meth c H locs 0 0 Q0 (F0 m 0 ls []) by rw [hH, hlo] at hgo; exact hgo
  clear hH hlo
  refine lv_aload_n hx hb dX12_restart_0 rfl (lv_at hl 0 rfl) ?_
  refine lv_iconst (v := 0) hx hb dX12_restart_1 (by decide) ?_
  refine va_put (D := (dC, dI)) (ci := 12) (v := .int (0 : Int32)) (ty := .int) (C := RX12) (T := TX12) (N := 22) hx hb hts inX12 tyX12 tyX12_ok nmX12 hown hK hP hD hS 0 rfl rfl 0 (by decide) (hts _ (List.mem_cons_of_mem _ mw_200)) (fun _ h9 => h9) rfl (by decide +kernel) rfl rfl (Nat.le_of_ble_eq_true rfl) dX12_restart_2 ?_; clear hP hD hS; clear H locs; intro H locs hP hD hS
  replace hP : va_P (dC, dI) vwCl (w_X12_restart h0 h_row h_kept h_isKept h_aside h_eight h_rows h_scales h_dealt h_bytes h_heardRow h_made h_comes h_backs h_fresh cy (0 : Int32) c_nodeS c_nodeD c_pairE c_pairO c_bit c_lag c_lagSum c_row) H := hP
  replace hD : va_D A (w_X12_restart h0 h_row h_kept h_isKept h_aside h_eight h_rows h_scales h_dealt h_bytes h_heardRow h_made h_comes h_backs h_fresh cy (0 : Int32) c_nodeS c_nodeD c_pairE c_pairO c_bit c_lag c_lagSum c_row) := hD
  refine lv_aload_n hx hb dX12_restart_5 rfl (lv_at hl 0 rfl) ?_
  refine va_get (D := (dC, dI)) (ci := 12) (v := .ref h_row) (C := RX12) (T := TX12) (N := 22) hx hb hts inX12 hown hK hP 0 rfl rfl 1 (by decide) (hts _ (List.mem_cons_of_mem _ mw_169)) (fun _ h9 => h9) rfl dX12_restart_6 ?_
  refine lv_bipush (v := 25) hx hb dX12_restart_9 (by decide) ?_
  refine xiald (k := 25) hx hb hK hP 1 0 rfl rfl (vpL 25 13385 rfl) (by decide) dX12_restart_11 ?_
  refine lv_topi (fun x2 e_x2 => ?_)
  replace hw := hw x2 e_x2
  clear e_x2
  refine lv_istore_n (lv' := [(1, .int x2), (0, .ref h0)]) hx hb dX12_restart_12 rfl hl (by decide) rfl ?_; clear hl; clear ls; intro ls hl
  refine lv_aload_n hx hb dX12_restart_13 rfl (lv_at hl 1 rfl) ?_
  have hPc := pSub (ws' := (w_X12_begin h0 h_row h_kept h_isKept h_aside h_eight h_rows h_scales h_dealt h_bytes h_heardRow h_made h_comes h_backs h_fresh cy (0 : Int32) c_nodeS c_nodeD c_pairE c_pairO c_bit c_lag c_lagSum c_row)) hP [0, 1] rfl
  have hDc := dSub (ws' := (w_X12_begin h0 h_row h_kept h_isKept h_aside h_eight h_rows h_scales h_dealt h_bytes h_heardRow h_made h_comes h_backs h_fresh cy (0 : Int32) c_nodeS c_nodeD c_pairE c_pairO c_bit c_lag c_lagSum c_row)) hD [0, 1] (by decide) rfl
  have hFc := va_free (wc := (w_X12_begin h0 h_row h_kept h_isKept h_aside h_eight h_rows h_scales h_dealt h_bytes h_heardRow h_made h_comes h_backs h_fresh cy (0 : Int32) c_nodeS c_nodeD c_pairE c_pairO c_bit c_lag c_lagSum c_row)) hD hS hA [0, 1] rfl
  refine va_callv (va_runV (As := []) (rest := []) ⟨hx, hb, hml, hown, hts⟩ (c_X12_begin l dC dI cy h0 h_row h_kept h_isKept h_aside h_eight h_rows h_scales h_dealt h_bytes h_heardRow h_made h_comes h_backs h_fresh H.size (0 : Int32) c_nodeS c_nodeD c_pairE c_pairO c_bit c_lag c_lagSum c_row _ hw) (cwV 0 hts (goodV mw_187 mw_184 mw_185 mw_186 mw_5) rfl rfl rfl (by decide +kernel) ⟨Nat.le_of_ble_eq_true rfl, Nat.le_of_ble_eq_true rfl⟩) ⟨PX_blind, va_recv hK hPc (ci := 12) (q0 := 0) rfl rfl, PX_pre hPc hK hDc hG⟩ rfl rfl hl.1 rfl (lv_room (Nat.le_of_ble_eq_true rfl)) dX12_restart_14 ⟨Nat.zero_le _, Nat.zero_le _⟩) hS (fun q _ h => hFc q h) hFc ?_; clear hw hS; intro f3 t H1 locs1 ht hvm hw hB hz1 hk1 hS
  obtain ⟨hP1, -, -⟩ := hB
  rw [ht] at hP1
  replace hP := jC0 hP hD [0, 1] [] rfl hk1 hP1 (w_X12_restart h0 h_row h_kept h_isKept h_aside h_eight h_rows h_scales h_dealt h_bytes h_heardRow h_made h_comes h_backs h_fresh cy (0 : Int32) c_nodeS c_nodeD c_pairE c_pairO c_bit c_lag c_lagSum f3) rfl rfl rfl 2 rfl (by decide +kernel); clear hD; obtain ⟨hP, hD⟩ := hP
  replace hP : va_P (dC, dI) vwCl (w_X12_restart h0 h_row h_kept h_isKept h_aside h_eight h_rows h_scales h_dealt h_bytes h_heardRow h_made h_comes h_backs h_fresh cy (0 : Int32) c_nodeS c_nodeD c_pairE c_pairO c_bit c_lag c_lagSum f3) H1 := hP
  replace hD : va_D A (w_X12_restart h0 h_row h_kept h_isKept h_aside h_eight h_rows h_scales h_dealt h_bytes h_heardRow h_made h_comes h_backs h_fresh cy (0 : Int32) c_nodeS c_nodeD c_pairE c_pairO c_bit c_lag c_lagSum f3) := hD
  clear hPc hDc hFc hP1 hk1 hz1 hvm ht; clear t; clear H locs; obtain ⟨H, hH⟩ : ∃ H, H = H1 := ⟨_, rfl⟩; obtain ⟨locs, hlo⟩ : ∃ L, L = locs1 := ⟨_, rfl⟩; subst hH; subst hlo
  refine W.widen (k := 0) (n := 0) (Nat.le_refl 0) (Nat.le_refl 0) ?_
  refine lv_iload_n hx hb dX12_restart_17 rfl (lv_at hl 0 rfl) ?_
  subst hQe
  exact W.iret (v := x2) hx hb hr (fun t ht hW => ⟨⟨x2, ((0 : Int32), f3), rfl, hw, by rw [ht]; exact hP, va_K.moved hW.alike hK, hD⟩, hS.F ht⟩) hS.2.2 dX12_restart_18
set_option maxHeartbeats 4000000 in
set_option maxRecDepth 100000 in
theorem c_X12_sample (l : Launch) (dC : Nat → ClassId) (dI : Nat → Nat → Nat) (cy : Nat → ClassId) (h0 h_row h_kept h_isKept h_aside h_eight h_rows h_scales h_dealt h_bytes h_heardRow h_made h_comes h_backs h_fresh : Nat) (sz : Nat) (v1 : Int32) (v2 : Int32) (c_thrown : Int32) (c_nodeS : Int32) (c_nodeD : Int32) (c_pairE : Int32) (c_pairO : Int32) (c_bit : Int32) (c_lag : Int32) (c_lagSum : Int32) (c_row : Nat → Int32) (post : Int32 → Prop) (hw : wp_X12_sample v1 v2 c_row post) : Met l yX12_sample wsX12_sample ({ frames := 1, cells := 0, slots := 0, locals := 25 }) (PX dC dI cy [.ref h0, .int v1, .int v2] sz (w_X12_sample h0 h_row h_kept h_isKept h_aside h_eight h_rows h_scales h_dealt h_bytes h_heardRow h_made h_comes h_backs h_fresh cy c_thrown c_nodeS c_nodeD c_pairE c_pairO c_bit c_lag c_lagSum c_row)) (va_Qi (fun (r : Int32) (u : Unit) => post r) (QX dC dI cy (va_A (w_X12_sample h0 h_row h_kept h_isKept h_aside h_eight h_rows h_scales h_dealt h_bytes h_heardRow h_made h_comes h_backs h_fresh cy c_thrown c_nodeS c_nodeD c_pairE c_pairO c_bit c_lag c_lagSum c_row) sz) (fun (u : Unit) => w_X12_sample h0 h_row h_kept h_isKept h_aside h_eight h_rows h_scales h_dealt h_bytes h_heardRow h_made h_comes h_backs h_fresh cy c_thrown c_nodeS c_nodeD c_pairE c_pairO c_bit c_lag c_lagSum c_row)) (va_A (w_X12_sample h0 h_row h_kept h_isKept h_aside h_eight h_rows h_scales h_dealt h_bytes h_heardRow h_made h_comes h_backs h_fresh cy c_thrown c_nodeS c_nodeD c_pairE c_pairO c_bit c_lag c_lagSum c_row) sz)) 0 0 (va_A (w_X12_sample h0 h_row h_kept h_isKept h_aside h_eight h_rows h_scales h_dealt h_bytes h_heardRow h_made h_comes h_backs h_fresh cy c_thrown c_nodeS c_nodeD c_pairE c_pairO c_bit c_lag c_lagSum c_row) sz) := by
  refine Met.ofW (cc := cX12_sample) (maxL := 9) (ret := (some .int)) (by decide) rfl ?_
  intro p e s m args below meth c s₁ B hml hv
  obtain ⟨rfl, hsz, hP, hK, hD0, hG⟩ := hv
  have hx := B.exec
  have hb := B.bytes
  have hr := B.returns
  have hts := atoms_spec (ws := wsX12_sample) B.pre
  have hown : s.vm.findClass RX12 = some m.cls := findClass_of_methodNamed B.named
  have hlocks := B.notSynchronized
  subst hsz
  have hD := hD0.self (sz := s.heap.size)
  generalize hAe : va_A (w_X12_sample h0 h_row h_kept h_isKept h_aside h_eight h_rows h_scales h_dealt h_bytes h_heardRow h_made h_comes h_backs h_fresh cy c_thrown c_nodeS c_nodeD c_pairE c_pairO c_bit c_lag c_lagSum c_row) s.heap.size = A at hD ⊢
  have hA : ∀ q : Nat, s.heap.size ≤ q → A q := fun q h => by rw [← hAe]; exact Or.inr h
  have hS : va_S A s.heap s.heap [] := va_S.rf
  have hl := lv_entry ([.ref h0, .int v1, .int v2]) (n := 9) (Nat.le_of_ble_eq_true rfl)
  rw [lg_entry_eq]
  generalize (lg_sl ([.ref h0, .int v1, .int v2]) ++ List.replicate (9 - (lg_sl ([.ref h0, .int v1, .int v2])).length) Slot.unset).toArray = ls at hl ⊢
  replace hl : lv_has ls 9 [(0, .ref h0), (1, .int v1), (2, .int v2)] := hl
  have inX12 : ∀ w ∈ u_ws RX12 TX12 22, w ∈ wsX12_sample := fun w h => List.mem_cons_of_mem _ (inlX12 w h)
  clear hAe hD0 B
  unfold wp_X12_sample at hw
  generalize hQe : MQ below _ _ s _ _ _ = Q0
  generalize ([.ref h0, .int v1, .int v2] : List Value).toArray = av at *
  obtain ⟨H, hH⟩ : ∃ H, H = s.heap := ⟨_, rfl⟩
  obtain ⟨locs, hlo⟩ : ∃ L : List Loc, L = [] := ⟨_, rfl⟩
  replace hP : va_P (dC, dI) vwCl (w_X12_sample h0 h_row h_kept h_isKept h_aside h_eight h_rows h_scales h_dealt h_bytes h_heardRow h_made h_comes h_backs h_fresh cy c_thrown c_nodeS c_nodeD c_pairE c_pairO c_bit c_lag c_lagSum c_row) H := by rw [hH]; exact hP
  replace hS : va_S A s.heap H locs := by rw [hH, hlo]; exact hS
  suffices hgo : W p l e ({ frames := 1, cells := 0, slots := 0, locals := 25 }) s m av below meth c H locs 0 0 Q0 (F0 m 0 ls []) by rw [hH, hlo] at hgo; exact hgo
  clear hH hlo
  refine lv_aload_n hx hb dX12_sample_0 rfl (lv_at hl 0 rfl) ?_
  refine va_get (D := (dC, dI)) (ci := 12) (v := .ref h_row) (C := RX12) (T := TX12) (N := 22) hx hb hts inX12 hown hK hP 0 rfl rfl 1 (by decide) (hts _ (List.mem_cons_of_mem _ mw_169)) (fun _ h9 => h9) rfl dX12_sample_1 ?_
  refine lv_iconst (v := 0) hx hb dX12_sample_4 (by decide) ?_
  refine lv_iload_n hx hb dX12_sample_5 rfl (lv_at hl 1 rfl) ?_
  refine lv_iadd hx hb dX12_sample_6 ?_
  obtain ⟨h1, hw⟩ := hw
  refine xiald (k := ((0 : Int32) + v1).toNatClampNeg) hx hb hK hP 1 0 rfl rfl h1 rfl dX12_sample_7 ?_
  refine lv_topi (fun x2 e_x2 => ?_)
  replace hw := hw x2 e_x2
  clear e_x2
  refine lv_istore_n (lv' := [(3, .int x2), (0, .ref h0), (1, .int v1), (2, .int v2)]) hx hb dX12_sample_8 rfl hl (by decide) rfl ?_; clear hl; clear ls; intro ls hl
  refine lv_aload_n hx hb dX12_sample_9 rfl (lv_at hl 1 rfl) ?_
  refine va_get (D := (dC, dI)) (ci := 12) (v := .ref h_row) (C := RX12) (T := TX12) (N := 22) hx hb hts inX12 hown hK hP 0 rfl rfl 1 (by decide) (hts _ (List.mem_cons_of_mem _ mw_169)) (fun _ h9 => h9) rfl dX12_sample_10 ?_
  refine lv_iconst (v := 2) hx hb dX12_sample_13 (by decide) ?_
  refine lv_iload_n hx hb dX12_sample_14 rfl (lv_at hl 2 rfl) ?_
  refine lv_iadd hx hb dX12_sample_15 ?_
  obtain ⟨h3, hw⟩ := hw
  refine xiald (k := ((2 : Int32) + v1).toNatClampNeg) hx hb hK hP 1 0 rfl rfl h3 rfl dX12_sample_16 ?_
  refine lv_topi (fun x4 e_x4 => ?_)
  replace hw := hw x4 e_x4
  clear e_x4
  refine lv_istore (lv' := [(4, .int x4), (3, .int x2), (0, .ref h0), (1, .int v1), (2, .int v2)]) hx hb dX12_sample_17 hl (by decide) rfl ?_; clear hl; clear ls; intro ls hl
  refine lv_aload_n hx hb dX12_sample_19 rfl (lv_at hl 2 rfl) ?_
  refine va_get (D := (dC, dI)) (ci := 12) (v := .ref h_row) (C := RX12) (T := TX12) (N := 22) hx hb hts inX12 hown hK hP 0 rfl rfl 1 (by decide) (hts _ (List.mem_cons_of_mem _ mw_169)) (fun _ h9 => h9) rfl dX12_sample_20 ?_
  refine lv_iconst (v := 4) hx hb dX12_sample_23 (by decide) ?_
  refine lv_iload_n hx hb dX12_sample_24 rfl (lv_at hl 3 rfl) ?_
  refine lv_iadd hx hb dX12_sample_25 ?_
  obtain ⟨h5, hw⟩ := hw
  refine xiald (k := ((4 : Int32) + v1).toNatClampNeg) hx hb hK hP 1 0 rfl rfl h5 rfl dX12_sample_26 ?_
  refine lv_topi (fun x6 e_x6 => ?_)
  replace hw := hw x6 e_x6
  clear e_x6
  refine lv_istore (lv' := [(5, .int x6), (4, .int x4), (3, .int x2), (0, .ref h0), (1, .int v1), (2, .int v2)]) hx hb dX12_sample_27 hl (by decide) rfl ?_; clear hl; clear ls; intro ls hl
  refine lv_iload_n hx hb dX12_sample_29 rfl (lv_at hl 5 rfl) ?_
  refine lv_iload_n hx hb dX12_sample_30 rfl (lv_at hl 2 rfl) ?_
  obtain ⟨h7, hw⟩ := hw
  refine lv_irem hx hb dX12_sample_31 h7 ?_
  refine lv_topi (fun x8 e_x8 => ?_)
  replace hw := hw x8 e_x8
  clear e_x8
  refine lv_istore (lv' := [(6, .int x8), (5, .int x6), (4, .int x4), (3, .int x2), (0, .ref h0), (1, .int v1), (2, .int v2)]) hx hb dX12_sample_32 hl (by decide) rfl ?_; clear hl; clear ls; intro ls hl
  refine lv_iconst (v := 2) hx hb dX12_sample_34 (by decide) ?_
  refine lv_iload hx hb dX12_sample_35 (lv_at hl 0 rfl) ?_
  refine lv_imul hx hb dX12_sample_37 ?_
  refine lv_iload_n hx hb dX12_sample_38 rfl (lv_at hl 3 rfl) ?_
  refine jn1 (Gg := fun (x9 : Int32) => ∀ (H : Heap) (locs : List Loc) (ls : Array Slot), va_P (dC, dI) vwCl (w_X12_sample h0 h_row h_kept h_isKept h_aside h_eight h_rows h_scales h_dealt h_bytes h_heardRow h_made h_comes h_backs h_fresh cy c_thrown c_nodeS c_nodeD c_pairE c_pairO c_bit c_lag c_lagSum c_row) H → va_D A (w_X12_sample h0 h_row h_kept h_isKept h_aside h_eight h_rows h_scales h_dealt h_bytes h_heardRow h_made h_comes h_backs h_fresh cy c_thrown c_nodeS c_nodeD c_pairE c_pairO c_bit c_lag c_lagSum c_row) → va_S A s.heap H locs → lv_has ls 9 [(0, .ref h0), (1, .int v1), (2, .int v2), (5, .int x6)] → W p l e { frames := 1, cells := 0, slots := 0, locals := 25 } s m av below meth c H locs 0 0 Q0 (F0 m 71 ls [.int x9])) hw ?_ ?_ <;> clear hw
  · clear hP hD hS hl; clear H locs ls; intro x9 hw H locs ls hP hD hS hl
    refine lv_istore (lv' := [(7, .int x9), (0, .ref h0), (1, .int v1), (2, .int v2), (5, .int x6)]) hx hb dX12_sample_71 hl (by decide) rfl ?_; clear hl; clear ls; intro ls hl
    refine lv_iload hx hb dX12_sample_73 (lv_at hl 4 rfl) ?_
    refine jn1 (Gg := fun (x12 : Int32) => ∀ (H : Heap) (locs : List Loc) (ls : Array Slot), va_P (dC, dI) vwCl (w_X12_sample h0 h_row h_kept h_isKept h_aside h_eight h_rows h_scales h_dealt h_bytes h_heardRow h_made h_comes h_backs h_fresh cy c_thrown c_nodeS c_nodeD c_pairE c_pairO c_bit c_lag c_lagSum c_row) H → va_D A (w_X12_sample h0 h_row h_kept h_isKept h_aside h_eight h_rows h_scales h_dealt h_bytes h_heardRow h_made h_comes h_backs h_fresh cy c_thrown c_nodeS c_nodeD c_pairE c_pairO c_bit c_lag c_lagSum c_row) → va_S A s.heap H locs → lv_has ls 9 [(7, .int x12)] → W p l e { frames := 1, cells := 0, slots := 0, locals := 25 } s m av below meth c H locs 0 0 Q0 (F0 m 124 ls [])) hw ?_ ?_ <;> clear hw
    · clear hP hD hS hl; clear H locs ls; intro x12 hw H locs ls hP hD hS hl
      refine lv_iload hx hb dX12_sample_124 (lv_at hl 0 rfl) ?_
      refine lv_i2l (v := x12.toInt64) hx hb dX12_sample_126 rfl ?_
      refine lv_ldc2 (v := -2048) hx hb hown (hts _ (List.mem_cons_of_mem _ mw_612)) dX12_sample_127 ?_
      refine lv_ldc2 (v := 2047) hx hb hown (hts _ (List.mem_cons_of_mem _ mw_613)) dX12_sample_130 ?_
      have hPc := pSub (ws' := (w_X12_nearest cy)) hP [] rfl
      have hDc := dSub (ws' := (w_X12_nearest cy)) hD [] (by decide) rfl
      have hFc := va_free (wc := (w_X12_nearest cy)) hD hS hA [] rfl
      refine va_calli (va_runS (As := [.long (x12.toInt64), .long (-2048 : Int64), .long (2047 : Int64)]) (rest := []) ⟨hx, hb, hml, hown, hts⟩ (c_X12_nearest l dC dI cy  H.size (x12.toInt64) (-2048 : Int64) (2047 : Int64) _ hw) (va_cwS 3 hts (goodS mw_616 mw_614 mw_615 mw_5) rfl rfl rfl (by decide +kernel) ⟨Nat.le_of_ble_eq_true rfl, Nat.le_of_ble_eq_true rfl⟩) ⟨PX_blind, PX_pre hPc hK hDc hG⟩ rfl rfl hl.1 rfl (lv_room (Nat.le_of_ble_eq_true rfl)) dX12_sample_133 ⟨Nat.zero_le _, Nat.zero_le _⟩) hS (fun q _ h => hFc q h) hFc ?_; clear hw hS; intro r15 _ t H1 locs1 ht hvm hw hB hz1 hk1 hS
      obtain ⟨hP1, -, -⟩ := hB
      rw [ht] at hP1
      replace hP := jC0 hP hD [] [0, 1] rfl hk1 hP1 (w_X12_sample h0 h_row h_kept h_isKept h_aside h_eight h_rows h_scales h_dealt h_bytes h_heardRow h_made h_comes h_backs h_fresh cy c_thrown c_nodeS c_nodeD c_pairE c_pairO c_bit c_lag c_lagSum c_row) rfl rfl rfl 2 rfl (by decide +kernel); clear hD; obtain ⟨hP, hD⟩ := hP
      replace hP : va_P (dC, dI) vwCl (w_X12_sample h0 h_row h_kept h_isKept h_aside h_eight h_rows h_scales h_dealt h_bytes h_heardRow h_made h_comes h_backs h_fresh cy c_thrown c_nodeS c_nodeD c_pairE c_pairO c_bit c_lag c_lagSum c_row) H1 := hP
      replace hD : va_D A (w_X12_sample h0 h_row h_kept h_isKept h_aside h_eight h_rows h_scales h_dealt h_bytes h_heardRow h_made h_comes h_backs h_fresh cy c_thrown c_nodeS c_nodeD c_pairE c_pairO c_bit c_lag c_lagSum c_row) := hD
      clear hPc hDc hFc hP1 hk1 hz1 hvm ht; clear t; clear H locs; obtain ⟨H, hH⟩ : ∃ H, H = H1 := ⟨_, rfl⟩; obtain ⟨locs, hlo⟩ : ∃ L, L = locs1 := ⟨_, rfl⟩; subst hH; subst hlo
      refine W.widen (k := 0) (n := 0) (Nat.le_refl 0) (Nat.le_refl 0) ?_
      subst hQe
      exact W.iret (v := r15) hx hb hr (fun t ht hW => ⟨⟨r15, (), rfl, hw, by rw [ht]; exact hP, va_K.moved hW.alike hK, hD⟩, hS.F ht⟩) hS.2.2 dX12_sample_136
    · intro j14 hw
      refine lv_if_le (tgt := 124) hx hb dX12_sample_75 (by decide) (fun c16 => ?_) (fun c16 => ?_)
      · replace hw := hw.1 c16; clear c16
        exact j14 x9 hw H locs ls hP hD hS (lv_sub hl [0] rfl)
      · replace hw := hw.2 c16; clear c16
        refine lv_ldc2 (v := 7919) hx hb hown (hts _ (List.mem_cons_of_mem _ mw_609)) dX12_sample_78 ?_
        refine lv_iload_n hx hb dX12_sample_81 rfl (lv_at hl 3 rfl) ?_
        refine lv_i2l (v := v2.toInt64) hx hb dX12_sample_82 rfl ?_
        refine lv_lmul hx hb dX12_sample_83 ?_
        refine lv_ldc2 (v := 104729) hx hb hown (hts _ (List.mem_cons_of_mem _ mw_610)) dX12_sample_84 ?_
        refine lv_iload_n hx hb dX12_sample_87 rfl (lv_at hl 2 rfl) ?_
        refine lv_i2l (v := v1.toInt64) hx hb dX12_sample_88 rfl ?_
        refine lv_lmul hx hb dX12_sample_89 ?_
        refine lv_ladd hx hb dX12_sample_90 ?_
        refine lv_aload_n hx hb dX12_sample_91 rfl (lv_at hl 1 rfl) ?_
        refine va_get (D := (dC, dI)) (ci := 12) (v := .ref h_row) (C := RX12) (T := TX12) (N := 22) hx hb hts inX12 hown hK hP 0 rfl rfl 1 (by decide) (hts _ (List.mem_cons_of_mem _ mw_169)) (fun _ h9 => h9) rfl dX12_sample_92 ?_
        refine lv_bipush (v := 6) hx hb dX12_sample_95 (by decide) ?_
        refine xiald (k := 6) hx hb hK hP 1 0 rfl rfl (vpL 6 13385 rfl) (by decide) dX12_sample_97 ?_
        refine lv_i2l (v := (c_row 6).toInt64) hx hb dX12_sample_98 rfl ?_
        refine lv_ladd hx hb dX12_sample_99 ?_
        refine lv_ldc2 (v := 10007) hx hb hown (hts _ (List.mem_cons_of_mem _ mw_611)) dX12_sample_100 ?_
        refine lv_lrem hx hb dX12_sample_103 (by decide) ?_
        refine lv_topl (fun x18 e_x18 => ?_)
        replace hw := hw x18 e_x18
        clear e_x18
        refine lv_l2i (v := x18.toInt32) hx hb dX12_sample_104 rfl ?_
        refine lv_topi (fun x19 e_x19 => ?_)
        replace hw := hw x19 e_x19
        clear e_x19
        refine lv_istore (lv' := [(8, .int x19), (7, .int x9), (0, .ref h0), (1, .int v1), (2, .int v2), (5, .int x6)]) hx hb dX12_sample_105 hl (by decide) rfl ?_; clear hl; clear ls; intro ls hl
        refine lv_iload hx hb dX12_sample_107 (lv_at hl 1 rfl) ?_
        refine lv_iload hx hb dX12_sample_109 (lv_at hl 0 rfl) ?_
        refine lv_iconst (v := 2) hx hb dX12_sample_111 (by decide) ?_
        refine lv_iload hx hb dX12_sample_112 (lv_at hl 5 rfl) ?_
        refine lv_imul hx hb dX12_sample_114 ?_
        refine lv_iconst (v := 1) hx hb dX12_sample_115 (by decide) ?_
        refine lv_iadd hx hb dX12_sample_116 ?_
        obtain ⟨h20, hw⟩ := hw
        refine lv_irem hx hb dX12_sample_117 h20 ?_
        refine lv_topi (fun x21 e_x21 => ?_)
        replace hw := hw x21 e_x21
        clear e_x21
        refine lv_iload hx hb dX12_sample_118 (lv_at hl 5 rfl) ?_
        refine lv_isub hx hb dX12_sample_120 ?_
        refine lv_iadd hx hb dX12_sample_121 ?_
        refine lv_topi (fun x22 e_x22 => ?_)
        replace hw := hw x22 e_x22
        clear e_x22
        refine lv_istore (lv' := [(7, .int x22), (8, .int x19), (0, .ref h0), (1, .int v1), (2, .int v2), (5, .int x6)]) hx hb dX12_sample_122 hl (by decide) rfl ?_; clear hl; clear ls; intro ls hl
        exact j14 x22 hw H locs ls hP hD hS (lv_sub hl [0] rfl)
  · intro j11 hw
    refine lv_icmp_ge (tgt := 57) hx hb dX12_sample_39 (by decide) (fun c23 => ?_) (fun c23 => ?_)
    · replace hw := hw.1 c23; clear c23
      refine lv_iconst (v := 3) hx hb dX12_sample_57 (by decide) ?_
      refine lv_iload hx hb dX12_sample_58 (lv_at hl 2 rfl) ?_
      refine lv_imul hx hb dX12_sample_60 ?_
      refine lv_iconst (v := 4) hx hb dX12_sample_61 (by decide) ?_
      refine lv_iload hx hb dX12_sample_62 (lv_at hl 2 rfl) ?_
      refine lv_imul hx hb dX12_sample_64 ?_
      refine lv_iload hx hb dX12_sample_65 (lv_at hl 0 rfl) ?_
      refine lv_imul hx hb dX12_sample_67 ?_
      refine lv_iload_n hx hb dX12_sample_68 rfl (lv_at hl 3 rfl) ?_
      obtain ⟨h24, hw⟩ := hw
      refine lv_idiv hx hb dX12_sample_69 h24 ?_
      refine lv_topi (fun x25 e_x25 => ?_)
      replace hw := hw x25 e_x25
      clear e_x25
      refine lv_isub hx hb dX12_sample_70 ?_
      exact j11 (((3 : Int32) * x4) - x25) hw H locs ls hP hD hS (lv_sub hl [4, 5, 6, 1] rfl)
    · replace hw := hw.2 c23; clear c23
      refine lv_iconst (v := 4) hx hb dX12_sample_42 (by decide) ?_
      refine lv_iload hx hb dX12_sample_43 (lv_at hl 2 rfl) ?_
      refine lv_imul hx hb dX12_sample_45 ?_
      refine lv_iload hx hb dX12_sample_46 (lv_at hl 0 rfl) ?_
      refine lv_imul hx hb dX12_sample_48 ?_
      refine lv_iload_n hx hb dX12_sample_49 rfl (lv_at hl 3 rfl) ?_
      obtain ⟨h26, hw⟩ := hw
      refine lv_idiv hx hb dX12_sample_50 h26 ?_
      refine lv_topi (fun x27 e_x27 => ?_)
      replace hw := hw x27 e_x27
      clear e_x27
      refine lv_iload hx hb dX12_sample_51 (lv_at hl 2 rfl) ?_
      refine lv_isub hx hb dX12_sample_53 ?_
      refine lv_goto (tgt := 71) hx hb dX12_sample_54 (by decide) ?_
      exact j11 (x27 - x4) hw H locs ls hP hD hS (lv_sub hl [4, 5, 6, 1] rfl)
set_option maxHeartbeats 4000000 in
set_option maxRecDepth 100000 in
theorem c_X12_source (l : Launch) (dC : Nat → ClassId) (dI : Nat → Nat → Nat) (cy : Nat → ClassId) (h0 h_row h_kept h_isKept h_aside h_eight h_rows h_scales h_dealt h_bytes h_heardRow h_made h_comes h_backs h_fresh : Nat) (sz : Nat) (v1 : Int32) (v2 : Int32) (c_thrown : Int32) (c_nodeS : Int32) (c_nodeD : Int32) (c_pairE : Int32) (c_pairO : Int32) (c_bit : Int32) (c_lag : Int32) (c_lagSum : Int32) (c_row : Nat → Int32) (post : Int32 → Int32 → Prop) (hw : wp_X12_source v1 v2 c_thrown c_row post) : Met l yX12_source wsX12_source ({ frames := 2, cells := 0, slots := 0, locals := 53 }) (PX dC dI cy [.ref h0, .int v1, .int v2] sz (w_X12_source h0 h_row h_kept h_isKept h_aside h_eight h_rows h_scales h_dealt h_bytes h_heardRow h_made h_comes h_backs h_fresh cy c_thrown c_nodeS c_nodeD c_pairE c_pairO c_bit c_lag c_lagSum c_row)) (va_Qi (fun (r : Int32) (u : Int32) => post r u) (QX dC dI cy (va_A (w_X12_source h0 h_row h_kept h_isKept h_aside h_eight h_rows h_scales h_dealt h_bytes h_heardRow h_made h_comes h_backs h_fresh cy c_thrown c_nodeS c_nodeD c_pairE c_pairO c_bit c_lag c_lagSum c_row) sz) (fun (u : Int32) => w_X12_source h0 h_row h_kept h_isKept h_aside h_eight h_rows h_scales h_dealt h_bytes h_heardRow h_made h_comes h_backs h_fresh cy u c_nodeS c_nodeD c_pairE c_pairO c_bit c_lag c_lagSum c_row)) (va_A (w_X12_source h0 h_row h_kept h_isKept h_aside h_eight h_rows h_scales h_dealt h_bytes h_heardRow h_made h_comes h_backs h_fresh cy c_thrown c_nodeS c_nodeD c_pairE c_pairO c_bit c_lag c_lagSum c_row) sz)) 0 0 (va_A (w_X12_source h0 h_row h_kept h_isKept h_aside h_eight h_rows h_scales h_dealt h_bytes h_heardRow h_made h_comes h_backs h_fresh cy c_thrown c_nodeS c_nodeD c_pairE c_pairO c_bit c_lag c_lagSum c_row) sz) := by
  refine Met.ofW (cc := cX12_source) (maxL := 3) (ret := (some .int)) (by decide) rfl ?_
  intro p e s m args below meth c s₁ B hml hv
  obtain ⟨rfl, hsz, hP, hK, hD0, hG⟩ := hv
  have hx := B.exec
  have hb := B.bytes
  have hr := B.returns
  have hts := atoms_spec (ws := wsX12_source) B.pre
  have hown : s.vm.findClass RX12 = some m.cls := findClass_of_methodNamed B.named
  have hlocks := B.notSynchronized
  subst hsz
  have hD := hD0.self (sz := s.heap.size)
  generalize hAe : va_A (w_X12_source h0 h_row h_kept h_isKept h_aside h_eight h_rows h_scales h_dealt h_bytes h_heardRow h_made h_comes h_backs h_fresh cy c_thrown c_nodeS c_nodeD c_pairE c_pairO c_bit c_lag c_lagSum c_row) s.heap.size = A at hD ⊢
  have hA : ∀ q : Nat, s.heap.size ≤ q → A q := fun q h => by rw [← hAe]; exact Or.inr h
  have hS : va_S A s.heap s.heap [] := va_S.rf
  have hl := lv_entry ([.ref h0, .int v1, .int v2]) (n := 3) (Nat.le_of_ble_eq_true rfl)
  rw [lg_entry_eq]
  generalize (lg_sl ([.ref h0, .int v1, .int v2]) ++ List.replicate (3 - (lg_sl ([.ref h0, .int v1, .int v2])).length) Slot.unset).toArray = ls at hl ⊢
  replace hl : lv_has ls 3 [(0, .ref h0), (1, .int v1), (2, .int v2)] := hl
  have inX12 : ∀ w ∈ u_ws RX12 TX12 22, w ∈ wsX12_source := fun w h => List.mem_cons_of_mem _ (inlX12 w h)
  clear hAe hD0 B
  unfold wp_X12_source at hw
  generalize hQe : MQ below _ _ s _ _ _ = Q0
  generalize ([.ref h0, .int v1, .int v2] : List Value).toArray = av at *
  obtain ⟨H, hH⟩ : ∃ H, H = s.heap := ⟨_, rfl⟩
  obtain ⟨locs, hlo⟩ : ∃ L : List Loc, L = [] := ⟨_, rfl⟩
  replace hP : va_P (dC, dI) vwCl (w_X12_source h0 h_row h_kept h_isKept h_aside h_eight h_rows h_scales h_dealt h_bytes h_heardRow h_made h_comes h_backs h_fresh cy c_thrown c_nodeS c_nodeD c_pairE c_pairO c_bit c_lag c_lagSum c_row) H := by rw [hH]; exact hP
  replace hS : va_S A s.heap H locs := by rw [hH, hlo]; exact hS
  suffices hgo : W p l e ({ frames := 2, cells := 0, slots := 0, locals := 53 }) s m av below meth c H locs 0 0 Q0 (F0 m 0 ls []) by rw [hH, hlo] at hgo; exact hgo
  clear hH hlo
  refine lv_aload_n hx hb dX12_source_0 rfl (lv_at hl 0 rfl) ?_
  refine lv_iconst (v := 0) hx hb dX12_source_1 (by decide) ?_
  refine va_put (D := (dC, dI)) (ci := 12) (v := .int (0 : Int32)) (ty := .int) (C := RX12) (T := TX12) (N := 22) hx hb hts inX12 tyX12 tyX12_ok nmX12 hown hK hP hD hS 0 rfl rfl 0 (by decide) (hts _ (List.mem_cons_of_mem _ mw_200)) (fun _ h9 => h9) rfl (by decide +kernel) rfl rfl (Nat.le_of_ble_eq_true rfl) dX12_source_2 ?_; clear hP hD hS; clear H locs; intro H locs hP hD hS
  replace hP : va_P (dC, dI) vwCl (w_X12_source h0 h_row h_kept h_isKept h_aside h_eight h_rows h_scales h_dealt h_bytes h_heardRow h_made h_comes h_backs h_fresh cy (0 : Int32) c_nodeS c_nodeD c_pairE c_pairO c_bit c_lag c_lagSum c_row) H := hP
  replace hD : va_D A (w_X12_source h0 h_row h_kept h_isKept h_aside h_eight h_rows h_scales h_dealt h_bytes h_heardRow h_made h_comes h_backs h_fresh cy (0 : Int32) c_nodeS c_nodeD c_pairE c_pairO c_bit c_lag c_lagSum c_row) := hD
  refine lv_iload_n hx hb dX12_source_5 rfl (lv_at hl 1 rfl) ?_
  refine lv_i2l (v := v1.toInt64) hx hb dX12_source_6 rfl ?_
  refine lv_lconst (v := 0) hx hb dX12_source_7 (by decide) ?_
  refine lv_lconst (v := 1) hx hb dX12_source_8 (by decide) ?_
  have hPc := pSub (ws' := (w_X12_in cy)) hP [] rfl
  have hDc := dSub (ws' := (w_X12_in cy)) hD [] (by decide) rfl
  have hFc := va_free (wc := (w_X12_in cy)) hD hS hA [] rfl
  refine va_calli (va_runS (As := [.long (v1.toInt64), .long (0 : Int64), .long (1 : Int64)]) (rest := []) ⟨hx, hb, hml, hown, hts⟩ (c_X12_in l dC dI cy  H.size (v1.toInt64) (0 : Int64) (1 : Int64) _ hw) (va_cwS 3 hts (goodS mw_207 mw_205 mw_206 mw_5) rfl rfl rfl (by decide +kernel) ⟨Nat.le_of_ble_eq_true rfl, Nat.le_of_ble_eq_true rfl⟩) ⟨PX_blind, PX_pre hPc hK hDc hG⟩ rfl rfl hl.1 rfl (lv_room (Nat.le_of_ble_eq_true rfl)) dX12_source_9 ⟨Nat.zero_le _, Nat.zero_le _⟩) hS (fun q _ h => hFc q h) hFc ?_; clear hw hS; intro r1 _ t H1 locs1 ht hvm hw hB hz1 hk1 hS
  obtain ⟨hP1, -, -⟩ := hB
  rw [ht] at hP1
  replace hP := jC0 hP hD [] [0, 1] rfl hk1 hP1 (w_X12_source h0 h_row h_kept h_isKept h_aside h_eight h_rows h_scales h_dealt h_bytes h_heardRow h_made h_comes h_backs h_fresh cy (0 : Int32) c_nodeS c_nodeD c_pairE c_pairO c_bit c_lag c_lagSum c_row) rfl rfl rfl 2 rfl (by decide +kernel); clear hD; obtain ⟨hP, hD⟩ := hP
  replace hP : va_P (dC, dI) vwCl (w_X12_source h0 h_row h_kept h_isKept h_aside h_eight h_rows h_scales h_dealt h_bytes h_heardRow h_made h_comes h_backs h_fresh cy (0 : Int32) c_nodeS c_nodeD c_pairE c_pairO c_bit c_lag c_lagSum c_row) H1 := hP
  replace hD : va_D A (w_X12_source h0 h_row h_kept h_isKept h_aside h_eight h_rows h_scales h_dealt h_bytes h_heardRow h_made h_comes h_backs h_fresh cy (0 : Int32) c_nodeS c_nodeD c_pairE c_pairO c_bit c_lag c_lagSum c_row) := hD
  clear hPc hDc hFc hP1 hk1 hz1 hvm ht; clear t; clear H locs; obtain ⟨H, hH⟩ : ∃ H, H = H1 := ⟨_, rfl⟩; obtain ⟨locs, hlo⟩ : ∃ L, L = locs1 := ⟨_, rfl⟩; subst hH; subst hlo
  refine W.widen (k := 0) (n := 0) (Nat.le_refl 0) (Nat.le_refl 0) ?_
  refine lv_if_eq (tgt := 36) hx hb dX12_source_12 (by decide) (fun c2 => ?_) (fun c2 => ?_)
  · replace hw := hw.1 c2; clear c2
    refine lv_ldc (v := -2147483648) hx hb hown (hts _ (List.mem_cons_of_mem _ mw_908)) dX12_source_36 ?_
    subst hQe
    exact W.iret (v := (-2147483648 : Int32)) hx hb hr (fun t ht hW => ⟨⟨(-2147483648 : Int32), (0 : Int32), rfl, hw, by rw [ht]; exact hP, va_K.moved hW.alike hK, hD⟩, hS.F ht⟩) hS.2.2 dX12_source_38
  · replace hw := hw.2 c2; clear c2
    refine lv_iload_n hx hb dX12_source_15 rfl (lv_at hl 2 rfl) ?_
    refine lv_i2l (v := v2.toInt64) hx hb dX12_source_16 rfl ?_
    refine lv_lconst (v := 0) hx hb dX12_source_17 (by decide) ?_
    refine lv_ldc2 (v := 99999) hx hb hown (hts _ (List.mem_cons_of_mem _ mw_907)) dX12_source_18 ?_
    have hPc := pSub (ws' := (w_X12_in cy)) hP [] rfl
    have hDc := dSub (ws' := (w_X12_in cy)) hD [] (by decide) rfl
    have hFc := va_free (wc := (w_X12_in cy)) hD hS hA [] rfl
    refine va_calli (va_runS (As := [.long (v2.toInt64), .long (0 : Int64), .long (99999 : Int64)]) (rest := []) ⟨hx, hb, hml, hown, hts⟩ (c_X12_in l dC dI cy  H.size (v2.toInt64) (0 : Int64) (99999 : Int64) _ hw) (va_cwS 3 hts (goodS mw_207 mw_205 mw_206 mw_5) rfl rfl rfl (by decide +kernel) ⟨Nat.le_of_ble_eq_true rfl, Nat.le_of_ble_eq_true rfl⟩) ⟨PX_blind, PX_pre hPc hK hDc hG⟩ rfl rfl hl.1 rfl (lv_room (Nat.le_of_ble_eq_true rfl)) dX12_source_21 ⟨Nat.zero_le _, Nat.zero_le _⟩) hS (fun q _ h => hFc q h) hFc ?_; clear hw hS; intro r3 _ t H1 locs1 ht hvm hw hB hz1 hk1 hS
    obtain ⟨hP1, -, -⟩ := hB
    rw [ht] at hP1
    replace hP := jC0 hP hD [] [0, 1] rfl hk1 hP1 (w_X12_source h0 h_row h_kept h_isKept h_aside h_eight h_rows h_scales h_dealt h_bytes h_heardRow h_made h_comes h_backs h_fresh cy (0 : Int32) c_nodeS c_nodeD c_pairE c_pairO c_bit c_lag c_lagSum c_row) rfl rfl rfl 2 rfl (by decide +kernel); clear hD; obtain ⟨hP, hD⟩ := hP
    replace hP : va_P (dC, dI) vwCl (w_X12_source h0 h_row h_kept h_isKept h_aside h_eight h_rows h_scales h_dealt h_bytes h_heardRow h_made h_comes h_backs h_fresh cy (0 : Int32) c_nodeS c_nodeD c_pairE c_pairO c_bit c_lag c_lagSum c_row) H1 := hP
    replace hD : va_D A (w_X12_source h0 h_row h_kept h_isKept h_aside h_eight h_rows h_scales h_dealt h_bytes h_heardRow h_made h_comes h_backs h_fresh cy (0 : Int32) c_nodeS c_nodeD c_pairE c_pairO c_bit c_lag c_lagSum c_row) := hD
    clear hPc hDc hFc hP1 hk1 hz1 hvm ht; clear t; clear H locs; obtain ⟨H, hH⟩ : ∃ H, H = H1 := ⟨_, rfl⟩; obtain ⟨locs, hlo⟩ : ∃ L, L = locs1 := ⟨_, rfl⟩; subst hH; subst hlo
    refine W.widen (k := 0) (n := 0) (Nat.le_refl 0) (Nat.le_refl 0) ?_
    refine lv_if_eq (tgt := 36) hx hb dX12_source_24 (by decide) (fun c4 => ?_) (fun c4 => ?_)
    · replace hw := hw.1 c4; clear c4
      refine lv_ldc (v := -2147483648) hx hb hown (hts _ (List.mem_cons_of_mem _ mw_908)) dX12_source_36 ?_
      subst hQe
      exact W.iret (v := (-2147483648 : Int32)) hx hb hr (fun t ht hW => ⟨⟨(-2147483648 : Int32), (0 : Int32), rfl, hw, by rw [ht]; exact hP, va_K.moved hW.alike hK, hD⟩, hS.F ht⟩) hS.2.2 dX12_source_38
    · replace hw := hw.2 c4; clear c4
      refine lv_aload_n hx hb dX12_source_27 rfl (lv_at hl 0 rfl) ?_
      refine lv_iload_n hx hb dX12_source_28 rfl (lv_at hl 1 rfl) ?_
      refine lv_iload_n hx hb dX12_source_29 rfl (lv_at hl 2 rfl) ?_
      have hPc := pSub (ws' := (w_X12_sample h0 h_row h_kept h_isKept h_aside h_eight h_rows h_scales h_dealt h_bytes h_heardRow h_made h_comes h_backs h_fresh cy (0 : Int32) c_nodeS c_nodeD c_pairE c_pairO c_bit c_lag c_lagSum c_row)) hP [0, 1] rfl
      have hDc := dSub (ws' := (w_X12_sample h0 h_row h_kept h_isKept h_aside h_eight h_rows h_scales h_dealt h_bytes h_heardRow h_made h_comes h_backs h_fresh cy (0 : Int32) c_nodeS c_nodeD c_pairE c_pairO c_bit c_lag c_lagSum c_row)) hD [0, 1] (by decide) rfl
      have hFc := va_free (wc := (w_X12_sample h0 h_row h_kept h_isKept h_aside h_eight h_rows h_scales h_dealt h_bytes h_heardRow h_made h_comes h_backs h_fresh cy (0 : Int32) c_nodeS c_nodeD c_pairE c_pairO c_bit c_lag c_lagSum c_row)) hD hS hA [0, 1] rfl
      refine va_calli (va_runV (As := [.int v1, .int v2]) (rest := []) ⟨hx, hb, hml, hown, hts⟩ (c_X12_sample l dC dI cy h0 h_row h_kept h_isKept h_aside h_eight h_rows h_scales h_dealt h_bytes h_heardRow h_made h_comes h_backs h_fresh H.size v1 v2 (0 : Int32) c_nodeS c_nodeD c_pairE c_pairO c_bit c_lag c_lagSum c_row _ hw) (cwV 2 hts (goodV mw_608 mw_605 mw_606 mw_607 mw_5) rfl rfl rfl (by decide +kernel) ⟨Nat.le_of_ble_eq_true rfl, Nat.le_of_ble_eq_true rfl⟩) ⟨PX_blind, va_recv hK hPc (ci := 12) (q0 := 0) rfl rfl, PX_pre hPc hK hDc hG⟩ rfl rfl hl.1 rfl (lv_room (Nat.le_of_ble_eq_true rfl)) dX12_source_30 ⟨Nat.zero_le _, Nat.zero_le _⟩) hS (fun q _ h => hFc q h) hFc ?_; clear hw hS; intro r5 _ t H1 locs1 ht hvm hw hB hz1 hk1 hS
      obtain ⟨hP1, -, -⟩ := hB
      rw [ht] at hP1
      replace hP := jC0 hP hD [0, 1] [] rfl hk1 hP1 (w_X12_source h0 h_row h_kept h_isKept h_aside h_eight h_rows h_scales h_dealt h_bytes h_heardRow h_made h_comes h_backs h_fresh cy (0 : Int32) c_nodeS c_nodeD c_pairE c_pairO c_bit c_lag c_lagSum c_row) rfl rfl rfl 2 rfl (by decide +kernel); clear hD; obtain ⟨hP, hD⟩ := hP
      replace hP : va_P (dC, dI) vwCl (w_X12_source h0 h_row h_kept h_isKept h_aside h_eight h_rows h_scales h_dealt h_bytes h_heardRow h_made h_comes h_backs h_fresh cy (0 : Int32) c_nodeS c_nodeD c_pairE c_pairO c_bit c_lag c_lagSum c_row) H1 := hP
      replace hD : va_D A (w_X12_source h0 h_row h_kept h_isKept h_aside h_eight h_rows h_scales h_dealt h_bytes h_heardRow h_made h_comes h_backs h_fresh cy (0 : Int32) c_nodeS c_nodeD c_pairE c_pairO c_bit c_lag c_lagSum c_row) := hD
      clear hPc hDc hFc hP1 hk1 hz1 hvm ht; clear t; clear H locs; obtain ⟨H, hH⟩ : ∃ H, H = H1 := ⟨_, rfl⟩; obtain ⟨locs, hlo⟩ : ∃ L, L = locs1 := ⟨_, rfl⟩; subst hH; subst hlo
      refine W.widen (k := 0) (n := 0) (Nat.le_refl 0) (Nat.le_refl 0) ?_
      refine lv_goto (tgt := 38) hx hb dX12_source_33 (by decide) ?_
      subst hQe
      exact W.iret (v := r5) hx hb hr (fun t ht hW => ⟨⟨r5, (0 : Int32), rfl, hw, by rw [ht]; exact hP, va_K.moved hW.alike hK, hD⟩, hS.F ht⟩) hS.2.2 dX12_source_38
set_option maxHeartbeats 4000000 in
set_option maxRecDepth 100000 in
theorem c_X12_splitPair (l : Launch) (dC : Nat → ClassId) (dI : Nat → Nat → Nat) (cy : Nat → ClassId) (h0 h_row h_kept h_isKept h_aside h_eight h_rows h_scales h_dealt h_bytes h_heardRow h_made h_comes h_backs h_fresh k1 : Nat) (n_p1 : Nat) (sz : Nat) (v2 : Int32) (v3 : Int32) (v4 : Int32) (c_thrown : Int32) (c_nodeS : Int32) (c_nodeD : Int32) (c_pairE : Int32) (c_pairO : Int32) (c_bit : Int32) (c_lag : Int32) (c_lagSum : Int32) (p1 : Nat → Int32) (post : Int32 → Int32 → (Nat → Int32) → Prop) (hw : wp_X12_splitPair n_p1 v2 v3 v4 c_nodeS c_nodeD p1 post) : Met l yX12_splitPair wsX12_splitPair ({ frames := 0, cells := 0, slots := 0, locals := 0 }) (PX dC dI cy [.ref h0, .ref k1, .int v2, .int v3, .int v4] sz (w_X12_splitPair h0 h_row h_kept h_isKept h_aside h_eight h_rows h_scales h_dealt h_bytes h_heardRow h_made h_comes h_backs h_fresh k1 cy n_p1 c_thrown c_nodeS c_nodeD c_pairE c_pairO c_bit c_lag c_lagSum p1)) (va_Qv (fun (u : Int32 × Int32 × (Nat → Int32)) => post u.1 u.2.1 u.2.2) (QX dC dI cy (va_A (w_X12_splitPair h0 h_row h_kept h_isKept h_aside h_eight h_rows h_scales h_dealt h_bytes h_heardRow h_made h_comes h_backs h_fresh k1 cy n_p1 c_thrown c_nodeS c_nodeD c_pairE c_pairO c_bit c_lag c_lagSum p1) sz) (fun (u : Int32 × Int32 × (Nat → Int32)) => w_X12_splitPair h0 h_row h_kept h_isKept h_aside h_eight h_rows h_scales h_dealt h_bytes h_heardRow h_made h_comes h_backs h_fresh k1 cy n_p1 c_thrown u.1 u.2.1 c_pairE c_pairO c_bit c_lag c_lagSum u.2.2)) (va_A (w_X12_splitPair h0 h_row h_kept h_isKept h_aside h_eight h_rows h_scales h_dealt h_bytes h_heardRow h_made h_comes h_backs h_fresh k1 cy n_p1 c_thrown c_nodeS c_nodeD c_pairE c_pairO c_bit c_lag c_lagSum p1) sz)) 0 0 (va_A (w_X12_splitPair h0 h_row h_kept h_isKept h_aside h_eight h_rows h_scales h_dealt h_bytes h_heardRow h_made h_comes h_backs h_fresh k1 cy n_p1 c_thrown c_nodeS c_nodeD c_pairE c_pairO c_bit c_lag c_lagSum p1) sz) := by
  refine Met.ofW (cc := cX12_splitPair) (maxL := 5) (ret := none) (by decide) rfl ?_
  intro p e s m args below meth c s₁ B hml hv
  obtain ⟨rfl, hsz, hP, hK, hD0, hG⟩ := hv
  have hx := B.exec
  have hb := B.bytes
  have hr := B.returns
  have hts := atoms_spec (ws := wsX12_splitPair) B.pre
  have hown : s.vm.findClass RX12 = some m.cls := findClass_of_methodNamed B.named
  have hlocks := B.notSynchronized
  subst hsz
  have hD := hD0.self (sz := s.heap.size)
  generalize hAe : va_A (w_X12_splitPair h0 h_row h_kept h_isKept h_aside h_eight h_rows h_scales h_dealt h_bytes h_heardRow h_made h_comes h_backs h_fresh k1 cy n_p1 c_thrown c_nodeS c_nodeD c_pairE c_pairO c_bit c_lag c_lagSum p1) s.heap.size = A at hD ⊢
  have hA : ∀ q : Nat, s.heap.size ≤ q → A q := fun q h => by rw [← hAe]; exact Or.inr h
  have hS : va_S A s.heap s.heap [] := va_S.rf
  have hl := lv_entry ([.ref h0, .ref k1, .int v2, .int v3, .int v4]) (n := 5) (Nat.le_of_ble_eq_true rfl)
  rw [lg_entry_eq]
  generalize (lg_sl ([.ref h0, .ref k1, .int v2, .int v3, .int v4]) ++ List.replicate (5 - (lg_sl ([.ref h0, .ref k1, .int v2, .int v3, .int v4])).length) Slot.unset).toArray = ls at hl ⊢
  replace hl : lv_has ls 5 [(0, .ref h0), (1, .ref k1), (2, .int v2), (3, .int v3), (4, .int v4)] := hl
  have inX12 : ∀ w ∈ u_ws RX12 TX12 22, w ∈ wsX12_splitPair := fun w h => List.mem_cons_of_mem _ (inlX12 w h)
  clear hAe hD0 B
  unfold wp_X12_splitPair at hw
  generalize hQe : MQ below _ _ s _ _ _ = Q0
  generalize ([.ref h0, .ref k1, .int v2, .int v3, .int v4] : List Value).toArray = av at *
  obtain ⟨H, hH⟩ : ∃ H, H = s.heap := ⟨_, rfl⟩
  obtain ⟨locs, hlo⟩ : ∃ L : List Loc, L = [] := ⟨_, rfl⟩
  replace hP : va_P (dC, dI) vwCl (w_X12_splitPair h0 h_row h_kept h_isKept h_aside h_eight h_rows h_scales h_dealt h_bytes h_heardRow h_made h_comes h_backs h_fresh k1 cy n_p1 c_thrown c_nodeS c_nodeD c_pairE c_pairO c_bit c_lag c_lagSum p1) H := by rw [hH]; exact hP
  replace hS : va_S A s.heap H locs := by rw [hH, hlo]; exact hS
  suffices hgo : W p l e ({ frames := 0, cells := 0, slots := 0, locals := 0 }) s m av below meth c H locs 0 0 Q0 (F0 m 0 ls []) by rw [hH, hlo] at hgo; exact hgo
  clear hH hlo
  refine lv_aload_n hx hb dX12_splitPair_0 rfl (lv_at hl 0 rfl) ?_
  refine lv_iload_n hx hb dX12_splitPair_1 rfl (lv_at hl 3 rfl) ?_
  refine lv_aload_n hx hb dX12_splitPair_2 rfl (lv_at hl 1 rfl) ?_
  refine lv_iload_n hx hb dX12_splitPair_3 rfl (lv_at hl 2 rfl) ?_
  obtain ⟨h1, hw⟩ := hw
  refine xiald (k := v2.toNatClampNeg) hx hb hK hP 1 0 rfl rfl h1 rfl dX12_splitPair_4 ?_
  refine lv_iload hx hb dX12_splitPair_5 (lv_at hl 4 rfl) ?_
  refine lv_iadd hx hb dX12_splitPair_7 ?_
  refine lv_iconst (v := 1) hx hb dX12_splitPair_8 (by decide) ?_
  refine lv_ishr hx hb dX12_splitPair_9 ?_
  refine lv_isub hx hb dX12_splitPair_10 ?_
  refine lv_topi (fun x2 e_x2 => ?_)
  replace hw := hw x2 e_x2
  clear e_x2
  refine va_put (D := (dC, dI)) (ci := 12) (v := .int x2) (ty := .int) (C := RX12) (T := TX12) (N := 22) hx hb hts inX12 tyX12 tyX12_ok nmX12 hown hK hP hD hS 0 rfl rfl 6 (by decide) (hts _ (List.mem_cons_of_mem _ mw_626)) (fun _ h9 => h9) rfl (by decide +kernel) rfl rfl (Nat.le_of_ble_eq_true rfl) dX12_splitPair_11 ?_; clear hP hD hS; clear H locs; intro H locs hP hD hS
  replace hP : va_P (dC, dI) vwCl (w_X12_splitPair h0 h_row h_kept h_isKept h_aside h_eight h_rows h_scales h_dealt h_bytes h_heardRow h_made h_comes h_backs h_fresh k1 cy n_p1 c_thrown c_nodeS x2 c_pairE c_pairO c_bit c_lag c_lagSum p1) H := hP
  replace hD : va_D A (w_X12_splitPair h0 h_row h_kept h_isKept h_aside h_eight h_rows h_scales h_dealt h_bytes h_heardRow h_made h_comes h_backs h_fresh k1 cy n_p1 c_thrown c_nodeS x2 c_pairE c_pairO c_bit c_lag c_lagSum p1) := hD
  refine lv_aload_n hx hb dX12_splitPair_14 rfl (lv_at hl 0 rfl) ?_
  refine lv_iload hx hb dX12_splitPair_15 (lv_at hl 4 rfl) ?_
  refine lv_aload_n hx hb dX12_splitPair_17 rfl (lv_at hl 1 rfl) ?_
  refine lv_iload_n hx hb dX12_splitPair_18 rfl (lv_at hl 2 rfl) ?_
  refine lv_iconst (v := 1) hx hb dX12_splitPair_19 (by decide) ?_
  refine lv_iadd hx hb dX12_splitPair_20 ?_
  obtain ⟨h3, hw⟩ := hw
  refine xiald (k := (v2 + (1 : Int32)).toNatClampNeg) hx hb hK hP 1 0 rfl rfl h3 rfl dX12_splitPair_21 ?_
  refine lv_aload_n hx hb dX12_splitPair_22 rfl (lv_at hl 0 rfl) ?_
  refine va_get (D := (dC, dI)) (ci := 12) (v := .int x2) (C := RX12) (T := TX12) (N := 22) hx hb hts inX12 hown hK hP 0 rfl rfl 6 (by decide) (hts _ (List.mem_cons_of_mem _ mw_626)) (fun _ h9 => h9) rfl dX12_splitPair_23 ?_
  refine lv_iadd hx hb dX12_splitPair_26 ?_
  refine lv_iconst (v := 2) hx hb dX12_splitPair_27 (by decide) ?_
  refine lv_ishr hx hb dX12_splitPair_28 ?_
  refine lv_iadd hx hb dX12_splitPair_29 ?_
  refine lv_topi (fun x4 e_x4 => ?_)
  replace hw := hw x4 e_x4
  clear e_x4
  refine va_put (D := (dC, dI)) (ci := 12) (v := .int x4) (ty := .int) (C := RX12) (T := TX12) (N := 22) hx hb hts inX12 tyX12 tyX12_ok nmX12 hown hK hP hD hS 0 rfl rfl 5 (by decide) (hts _ (List.mem_cons_of_mem _ mw_625)) (fun _ h9 => h9) rfl (by decide +kernel) rfl rfl (Nat.le_of_ble_eq_true rfl) dX12_splitPair_30 ?_; clear hP hD hS; clear H locs; intro H locs hP hD hS
  replace hP : va_P (dC, dI) vwCl (w_X12_splitPair h0 h_row h_kept h_isKept h_aside h_eight h_rows h_scales h_dealt h_bytes h_heardRow h_made h_comes h_backs h_fresh k1 cy n_p1 c_thrown x4 x2 c_pairE c_pairO c_bit c_lag c_lagSum p1) H := hP
  replace hD : va_D A (w_X12_splitPair h0 h_row h_kept h_isKept h_aside h_eight h_rows h_scales h_dealt h_bytes h_heardRow h_made h_comes h_backs h_fresh k1 cy n_p1 c_thrown x4 x2 c_pairE c_pairO c_bit c_lag c_lagSum p1) := hD
  refine lv_aload_n hx hb dX12_splitPair_33 rfl (lv_at hl 1 rfl) ?_
  refine lv_iload_n hx hb dX12_splitPair_34 rfl (lv_at hl 2 rfl) ?_
  refine lv_iload hx hb dX12_splitPair_35 (lv_at hl 4 rfl) ?_
  obtain ⟨h5, hw⟩ := hw
  refine xiast (k := v2.toNatClampNeg) hx hb hK hP hD hS 1 0 rfl rfl h5 rfl dX12_splitPair_37 ?_; clear hP hD hS; clear H locs; intro f6 e_f6 H locs hP hD hS
  replace hw := hw f6 e_f6
  clear e_f6
  replace hP : va_P (dC, dI) vwCl (w_X12_splitPair h0 h_row h_kept h_isKept h_aside h_eight h_rows h_scales h_dealt h_bytes h_heardRow h_made h_comes h_backs h_fresh k1 cy n_p1 c_thrown x4 x2 c_pairE c_pairO c_bit c_lag c_lagSum f6) H := hP
  replace hD : va_D A (w_X12_splitPair h0 h_row h_kept h_isKept h_aside h_eight h_rows h_scales h_dealt h_bytes h_heardRow h_made h_comes h_backs h_fresh k1 cy n_p1 c_thrown x4 x2 c_pairE c_pairO c_bit c_lag c_lagSum f6) := hD
  refine lv_aload_n hx hb dX12_splitPair_38 rfl (lv_at hl 1 rfl) ?_
  refine lv_iload_n hx hb dX12_splitPair_39 rfl (lv_at hl 2 rfl) ?_
  refine lv_iconst (v := 1) hx hb dX12_splitPair_40 (by decide) ?_
  refine lv_iadd hx hb dX12_splitPair_41 ?_
  refine lv_aload_n hx hb dX12_splitPair_42 rfl (lv_at hl 0 rfl) ?_
  refine va_get (D := (dC, dI)) (ci := 12) (v := .int x2) (C := RX12) (T := TX12) (N := 22) hx hb hts inX12 hown hK hP 0 rfl rfl 6 (by decide) (hts _ (List.mem_cons_of_mem _ mw_626)) (fun _ h9 => h9) rfl dX12_splitPair_43 ?_
  obtain ⟨h7, hw⟩ := hw
  refine xiast (k := (v2 + (1 : Int32)).toNatClampNeg) hx hb hK hP hD hS 1 0 rfl rfl h7 rfl dX12_splitPair_46 ?_; clear hP hD hS; clear H locs; intro f8 e_f8 H locs hP hD hS
  replace hw := hw f8 e_f8
  clear e_f8
  replace hP : va_P (dC, dI) vwCl (w_X12_splitPair h0 h_row h_kept h_isKept h_aside h_eight h_rows h_scales h_dealt h_bytes h_heardRow h_made h_comes h_backs h_fresh k1 cy n_p1 c_thrown x4 x2 c_pairE c_pairO c_bit c_lag c_lagSum f8) H := hP
  replace hD : va_D A (w_X12_splitPair h0 h_row h_kept h_isKept h_aside h_eight h_rows h_scales h_dealt h_bytes h_heardRow h_made h_comes h_backs h_fresh k1 cy n_p1 c_thrown x4 x2 c_pairE c_pairO c_bit c_lag c_lagSum f8) := hD
  subst hQe
  exact W.vret hx hb hr (fun t ht hW => ⟨⟨(x4, x2, f8), rfl, hw, by rw [ht]; exact hP, va_K.moved hW.alike hK, hD⟩, hS.F ht⟩) hS.2.2 dX12_splitPair_47
set_option maxHeartbeats 4000000 in
set_option maxRecDepth 100000 in
theorem c_X12_joinPair (l : Launch) (dC : Nat → ClassId) (dI : Nat → Nat → Nat) (cy : Nat → ClassId) (h0 h_row h_kept h_isKept h_aside h_eight h_rows h_scales h_dealt h_bytes h_heardRow h_made h_comes h_backs h_fresh k1 : Nat) (n_p1 : Nat) (sz : Nat) (v2 : Int32) (v3 : Int32) (v4 : Int32) (c_thrown : Int32) (c_nodeS : Int32) (c_nodeD : Int32) (c_pairE : Int32) (c_pairO : Int32) (c_bit : Int32) (c_lag : Int32) (c_lagSum : Int32) (p1 : Nat → Int32) (post : Int32 → Int32 → (Nat → Int32) → Prop) (hw : wp_X12_joinPair n_p1 v2 v3 v4 c_pairE c_pairO p1 post) : Met l yX12_joinPair wsX12_joinPair ({ frames := 0, cells := 0, slots := 0, locals := 0 }) (PX dC dI cy [.ref h0, .ref k1, .int v2, .int v3, .int v4] sz (w_X12_joinPair h0 h_row h_kept h_isKept h_aside h_eight h_rows h_scales h_dealt h_bytes h_heardRow h_made h_comes h_backs h_fresh k1 cy n_p1 c_thrown c_nodeS c_nodeD c_pairE c_pairO c_bit c_lag c_lagSum p1)) (va_Qv (fun (u : Int32 × Int32 × (Nat → Int32)) => post u.1 u.2.1 u.2.2) (QX dC dI cy (va_A (w_X12_joinPair h0 h_row h_kept h_isKept h_aside h_eight h_rows h_scales h_dealt h_bytes h_heardRow h_made h_comes h_backs h_fresh k1 cy n_p1 c_thrown c_nodeS c_nodeD c_pairE c_pairO c_bit c_lag c_lagSum p1) sz) (fun (u : Int32 × Int32 × (Nat → Int32)) => w_X12_joinPair h0 h_row h_kept h_isKept h_aside h_eight h_rows h_scales h_dealt h_bytes h_heardRow h_made h_comes h_backs h_fresh k1 cy n_p1 c_thrown c_nodeS c_nodeD u.1 u.2.1 c_bit c_lag c_lagSum u.2.2)) (va_A (w_X12_joinPair h0 h_row h_kept h_isKept h_aside h_eight h_rows h_scales h_dealt h_bytes h_heardRow h_made h_comes h_backs h_fresh k1 cy n_p1 c_thrown c_nodeS c_nodeD c_pairE c_pairO c_bit c_lag c_lagSum p1) sz)) 0 0 (va_A (w_X12_joinPair h0 h_row h_kept h_isKept h_aside h_eight h_rows h_scales h_dealt h_bytes h_heardRow h_made h_comes h_backs h_fresh k1 cy n_p1 c_thrown c_nodeS c_nodeD c_pairE c_pairO c_bit c_lag c_lagSum p1) sz) := by
  refine Met.ofW (cc := cX12_joinPair) (maxL := 5) (ret := none) (by decide) rfl ?_
  intro p e s m args below meth c s₁ B hml hv
  obtain ⟨rfl, hsz, hP, hK, hD0, hG⟩ := hv
  have hx := B.exec
  have hb := B.bytes
  have hr := B.returns
  have hts := atoms_spec (ws := wsX12_joinPair) B.pre
  have hown : s.vm.findClass RX12 = some m.cls := findClass_of_methodNamed B.named
  have hlocks := B.notSynchronized
  subst hsz
  have hD := hD0.self (sz := s.heap.size)
  generalize hAe : va_A (w_X12_joinPair h0 h_row h_kept h_isKept h_aside h_eight h_rows h_scales h_dealt h_bytes h_heardRow h_made h_comes h_backs h_fresh k1 cy n_p1 c_thrown c_nodeS c_nodeD c_pairE c_pairO c_bit c_lag c_lagSum p1) s.heap.size = A at hD ⊢
  have hA : ∀ q : Nat, s.heap.size ≤ q → A q := fun q h => by rw [← hAe]; exact Or.inr h
  have hS : va_S A s.heap s.heap [] := va_S.rf
  have hl := lv_entry ([.ref h0, .ref k1, .int v2, .int v3, .int v4]) (n := 5) (Nat.le_of_ble_eq_true rfl)
  rw [lg_entry_eq]
  generalize (lg_sl ([.ref h0, .ref k1, .int v2, .int v3, .int v4]) ++ List.replicate (5 - (lg_sl ([.ref h0, .ref k1, .int v2, .int v3, .int v4])).length) Slot.unset).toArray = ls at hl ⊢
  replace hl : lv_has ls 5 [(0, .ref h0), (1, .ref k1), (2, .int v2), (3, .int v3), (4, .int v4)] := hl
  have inX12 : ∀ w ∈ u_ws RX12 TX12 22, w ∈ wsX12_joinPair := fun w h => List.mem_cons_of_mem _ (inlX12 w h)
  clear hAe hD0 B
  unfold wp_X12_joinPair at hw
  generalize hQe : MQ below _ _ s _ _ _ = Q0
  generalize ([.ref h0, .ref k1, .int v2, .int v3, .int v4] : List Value).toArray = av at *
  obtain ⟨H, hH⟩ : ∃ H, H = s.heap := ⟨_, rfl⟩
  obtain ⟨locs, hlo⟩ : ∃ L : List Loc, L = [] := ⟨_, rfl⟩
  replace hP : va_P (dC, dI) vwCl (w_X12_joinPair h0 h_row h_kept h_isKept h_aside h_eight h_rows h_scales h_dealt h_bytes h_heardRow h_made h_comes h_backs h_fresh k1 cy n_p1 c_thrown c_nodeS c_nodeD c_pairE c_pairO c_bit c_lag c_lagSum p1) H := by rw [hH]; exact hP
  replace hS : va_S A s.heap H locs := by rw [hH, hlo]; exact hS
  suffices hgo : W p l e ({ frames := 0, cells := 0, slots := 0, locals := 0 }) s m av below meth c H locs 0 0 Q0 (F0 m 0 ls []) by rw [hH, hlo] at hgo; exact hgo
  clear hH hlo
  refine lv_aload_n hx hb dX12_joinPair_0 rfl (lv_at hl 0 rfl) ?_
  refine lv_iload_n hx hb dX12_joinPair_1 rfl (lv_at hl 3 rfl) ?_
  refine lv_aload_n hx hb dX12_joinPair_2 rfl (lv_at hl 1 rfl) ?_
  refine lv_iload_n hx hb dX12_joinPair_3 rfl (lv_at hl 2 rfl) ?_
  refine lv_iconst (v := 1) hx hb dX12_joinPair_4 (by decide) ?_
  refine lv_iadd hx hb dX12_joinPair_5 ?_
  obtain ⟨h1, hw⟩ := hw
  refine xiald (k := (v2 + (1 : Int32)).toNatClampNeg) hx hb hK hP 1 0 rfl rfl h1 rfl dX12_joinPair_6 ?_
  refine lv_iload hx hb dX12_joinPair_7 (lv_at hl 4 rfl) ?_
  refine lv_iadd hx hb dX12_joinPair_9 ?_
  refine lv_iconst (v := 2) hx hb dX12_joinPair_10 (by decide) ?_
  refine lv_ishr hx hb dX12_joinPair_11 ?_
  refine lv_isub hx hb dX12_joinPair_12 ?_
  refine lv_topi (fun x2 e_x2 => ?_)
  replace hw := hw x2 e_x2
  clear e_x2
  refine va_put (D := (dC, dI)) (ci := 12) (v := .int x2) (ty := .int) (C := RX12) (T := TX12) (N := 22) hx hb hts inX12 tyX12 tyX12_ok nmX12 hown hK hP hD hS 0 rfl rfl 8 (by decide) (hts _ (List.mem_cons_of_mem _ mw_775)) (fun _ h9 => h9) rfl (by decide +kernel) rfl rfl (Nat.le_of_ble_eq_true rfl) dX12_joinPair_13 ?_; clear hP hD hS; clear H locs; intro H locs hP hD hS
  replace hP : va_P (dC, dI) vwCl (w_X12_joinPair h0 h_row h_kept h_isKept h_aside h_eight h_rows h_scales h_dealt h_bytes h_heardRow h_made h_comes h_backs h_fresh k1 cy n_p1 c_thrown c_nodeS c_nodeD c_pairE x2 c_bit c_lag c_lagSum p1) H := hP
  replace hD : va_D A (w_X12_joinPair h0 h_row h_kept h_isKept h_aside h_eight h_rows h_scales h_dealt h_bytes h_heardRow h_made h_comes h_backs h_fresh k1 cy n_p1 c_thrown c_nodeS c_nodeD c_pairE x2 c_bit c_lag c_lagSum p1) := hD
  refine lv_aload_n hx hb dX12_joinPair_16 rfl (lv_at hl 0 rfl) ?_
  refine lv_iload hx hb dX12_joinPair_17 (lv_at hl 4 rfl) ?_
  refine lv_aload_n hx hb dX12_joinPair_19 rfl (lv_at hl 1 rfl) ?_
  refine lv_iload_n hx hb dX12_joinPair_20 rfl (lv_at hl 2 rfl) ?_
  obtain ⟨h3, hw⟩ := hw
  refine xiald (k := v2.toNatClampNeg) hx hb hK hP 1 0 rfl rfl h3 rfl dX12_joinPair_21 ?_
  refine lv_aload_n hx hb dX12_joinPair_22 rfl (lv_at hl 0 rfl) ?_
  refine va_get (D := (dC, dI)) (ci := 12) (v := .int x2) (C := RX12) (T := TX12) (N := 22) hx hb hts inX12 hown hK hP 0 rfl rfl 8 (by decide) (hts _ (List.mem_cons_of_mem _ mw_775)) (fun _ h9 => h9) rfl dX12_joinPair_23 ?_
  refine lv_iadd hx hb dX12_joinPair_26 ?_
  refine lv_iconst (v := 1) hx hb dX12_joinPair_27 (by decide) ?_
  refine lv_ishr hx hb dX12_joinPair_28 ?_
  refine lv_iadd hx hb dX12_joinPair_29 ?_
  refine lv_topi (fun x4 e_x4 => ?_)
  replace hw := hw x4 e_x4
  clear e_x4
  refine va_put (D := (dC, dI)) (ci := 12) (v := .int x4) (ty := .int) (C := RX12) (T := TX12) (N := 22) hx hb hts inX12 tyX12 tyX12_ok nmX12 hown hK hP hD hS 0 rfl rfl 7 (by decide) (hts _ (List.mem_cons_of_mem _ mw_774)) (fun _ h9 => h9) rfl (by decide +kernel) rfl rfl (Nat.le_of_ble_eq_true rfl) dX12_joinPair_30 ?_; clear hP hD hS; clear H locs; intro H locs hP hD hS
  replace hP : va_P (dC, dI) vwCl (w_X12_joinPair h0 h_row h_kept h_isKept h_aside h_eight h_rows h_scales h_dealt h_bytes h_heardRow h_made h_comes h_backs h_fresh k1 cy n_p1 c_thrown c_nodeS c_nodeD x4 x2 c_bit c_lag c_lagSum p1) H := hP
  replace hD : va_D A (w_X12_joinPair h0 h_row h_kept h_isKept h_aside h_eight h_rows h_scales h_dealt h_bytes h_heardRow h_made h_comes h_backs h_fresh k1 cy n_p1 c_thrown c_nodeS c_nodeD x4 x2 c_bit c_lag c_lagSum p1) := hD
  refine lv_aload_n hx hb dX12_joinPair_33 rfl (lv_at hl 1 rfl) ?_
  refine lv_iload_n hx hb dX12_joinPair_34 rfl (lv_at hl 2 rfl) ?_
  refine lv_aload_n hx hb dX12_joinPair_35 rfl (lv_at hl 0 rfl) ?_
  refine va_get (D := (dC, dI)) (ci := 12) (v := .int x2) (C := RX12) (T := TX12) (N := 22) hx hb hts inX12 hown hK hP 0 rfl rfl 8 (by decide) (hts _ (List.mem_cons_of_mem _ mw_775)) (fun _ h9 => h9) rfl dX12_joinPair_36 ?_
  obtain ⟨h5, hw⟩ := hw
  refine xiast (k := v2.toNatClampNeg) hx hb hK hP hD hS 1 0 rfl rfl h5 rfl dX12_joinPair_39 ?_; clear hP hD hS; clear H locs; intro f6 e_f6 H locs hP hD hS
  replace hw := hw f6 e_f6
  clear e_f6
  replace hP : va_P (dC, dI) vwCl (w_X12_joinPair h0 h_row h_kept h_isKept h_aside h_eight h_rows h_scales h_dealt h_bytes h_heardRow h_made h_comes h_backs h_fresh k1 cy n_p1 c_thrown c_nodeS c_nodeD x4 x2 c_bit c_lag c_lagSum f6) H := hP
  replace hD : va_D A (w_X12_joinPair h0 h_row h_kept h_isKept h_aside h_eight h_rows h_scales h_dealt h_bytes h_heardRow h_made h_comes h_backs h_fresh k1 cy n_p1 c_thrown c_nodeS c_nodeD x4 x2 c_bit c_lag c_lagSum f6) := hD
  refine lv_aload_n hx hb dX12_joinPair_40 rfl (lv_at hl 1 rfl) ?_
  refine lv_iload_n hx hb dX12_joinPair_41 rfl (lv_at hl 2 rfl) ?_
  refine lv_iconst (v := 1) hx hb dX12_joinPair_42 (by decide) ?_
  refine lv_iadd hx hb dX12_joinPair_43 ?_
  refine lv_iload hx hb dX12_joinPair_44 (lv_at hl 4 rfl) ?_
  obtain ⟨h7, hw⟩ := hw
  refine xiast (k := (v2 + (1 : Int32)).toNatClampNeg) hx hb hK hP hD hS 1 0 rfl rfl h7 rfl dX12_joinPair_46 ?_; clear hP hD hS; clear H locs; intro f8 e_f8 H locs hP hD hS
  replace hw := hw f8 e_f8
  clear e_f8
  replace hP : va_P (dC, dI) vwCl (w_X12_joinPair h0 h_row h_kept h_isKept h_aside h_eight h_rows h_scales h_dealt h_bytes h_heardRow h_made h_comes h_backs h_fresh k1 cy n_p1 c_thrown c_nodeS c_nodeD x4 x2 c_bit c_lag c_lagSum f8) H := hP
  replace hD : va_D A (w_X12_joinPair h0 h_row h_kept h_isKept h_aside h_eight h_rows h_scales h_dealt h_bytes h_heardRow h_made h_comes h_backs h_fresh k1 cy n_p1 c_thrown c_nodeS c_nodeD x4 x2 c_bit c_lag c_lagSum f8) := hD
  subst hQe
  exact W.vret hx hb hr (fun t ht hW => ⟨⟨(x4, x2, f8), rfl, hw, by rw [ht]; exact hP, va_K.moved hW.alike hK, hD⟩, hS.F ht⟩) hS.2.2 dX12_joinPair_47
set_option maxHeartbeats 4000000 in
set_option maxRecDepth 100000 in
theorem c_X12_splitRow (l : Launch) (dC : Nat → ClassId) (dI : Nat → Nat → Nat) (cy : Nat → ClassId) (h0 h_row h_kept h_isKept h_aside h_eight h_rows h_scales h_dealt h_bytes h_heardRow h_made h_comes h_backs h_fresh k1 : Nat) (n_p1 : Nat) (sz : Nat) (v2 : Int32) (v3 : Int32) (v4 : Int32) (c_thrown : Int32) (c_nodeS : Int32) (c_nodeD : Int32) (c_pairE : Int32) (c_pairO : Int32) (c_bit : Int32) (c_lag : Int32) (c_lagSum : Int32) (c_eight : Nat → Int32) (p1 : Nat → Int32) (c_rows : Nat → Int32) (post : Int32 → Int32 → (Nat → Int32) → (Nat → Int32) → (Nat → Int32) → Prop) (hw : wp_X12_splitRow n_p1 v2 v3 v4 c_nodeS c_nodeD c_eight p1 c_rows post) : Met l yX12_splitRow wsX12_splitRow ({ frames := 1, cells := 0, slots := 0, locals := 24 }) (PX dC dI cy [.ref h0, .ref k1, .int v2, .int v3, .int v4] sz (w_X12_splitRow h0 h_row h_kept h_isKept h_aside h_eight h_rows h_scales h_dealt h_bytes h_heardRow h_made h_comes h_backs h_fresh k1 cy n_p1 c_thrown c_nodeS c_nodeD c_pairE c_pairO c_bit c_lag c_lagSum c_eight p1 c_rows)) (va_Qv (fun (u : Int32 × Int32 × (Nat → Int32) × (Nat → Int32) × (Nat → Int32)) => post u.1 u.2.1 u.2.2.1 u.2.2.2.1 u.2.2.2.2) (QX dC dI cy (va_A (w_X12_splitRow h0 h_row h_kept h_isKept h_aside h_eight h_rows h_scales h_dealt h_bytes h_heardRow h_made h_comes h_backs h_fresh k1 cy n_p1 c_thrown c_nodeS c_nodeD c_pairE c_pairO c_bit c_lag c_lagSum c_eight p1 c_rows) sz) (fun (u : Int32 × Int32 × (Nat → Int32) × (Nat → Int32) × (Nat → Int32)) => w_X12_splitRow h0 h_row h_kept h_isKept h_aside h_eight h_rows h_scales h_dealt h_bytes h_heardRow h_made h_comes h_backs h_fresh k1 cy n_p1 c_thrown u.1 u.2.1 c_pairE c_pairO c_bit c_lag c_lagSum u.2.2.1 u.2.2.2.1 u.2.2.2.2)) (va_A (w_X12_splitRow h0 h_row h_kept h_isKept h_aside h_eight h_rows h_scales h_dealt h_bytes h_heardRow h_made h_comes h_backs h_fresh k1 cy n_p1 c_thrown c_nodeS c_nodeD c_pairE c_pairO c_bit c_lag c_lagSum c_eight p1 c_rows) sz)) 0 0 (va_A (w_X12_splitRow h0 h_row h_kept h_isKept h_aside h_eight h_rows h_scales h_dealt h_bytes h_heardRow h_made h_comes h_backs h_fresh k1 cy n_p1 c_thrown c_nodeS c_nodeD c_pairE c_pairO c_bit c_lag c_lagSum c_eight p1 c_rows) sz) := by
  refine Met.ofW (cc := cX12_splitRow) (maxL := 6) (ret := none) (by decide) rfl ?_
  intro p e s m args below meth c s₁ B hml hv
  obtain ⟨rfl, hsz, hP, hK, hD0, hG⟩ := hv
  have hx := B.exec
  have hb := B.bytes
  have hr := B.returns
  have hts := atoms_spec (ws := wsX12_splitRow) B.pre
  have hown : s.vm.findClass RX12 = some m.cls := findClass_of_methodNamed B.named
  have hlocks := B.notSynchronized
  subst hsz
  have hD := hD0.self (sz := s.heap.size)
  generalize hAe : va_A (w_X12_splitRow h0 h_row h_kept h_isKept h_aside h_eight h_rows h_scales h_dealt h_bytes h_heardRow h_made h_comes h_backs h_fresh k1 cy n_p1 c_thrown c_nodeS c_nodeD c_pairE c_pairO c_bit c_lag c_lagSum c_eight p1 c_rows) s.heap.size = A at hD ⊢
  have hA : ∀ q : Nat, s.heap.size ≤ q → A q := fun q h => by rw [← hAe]; exact Or.inr h
  have hS : va_S A s.heap s.heap [] := va_S.rf
  have hl := lv_entry ([.ref h0, .ref k1, .int v2, .int v3, .int v4]) (n := 6) (Nat.le_of_ble_eq_true rfl)
  rw [lg_entry_eq]
  generalize (lg_sl ([.ref h0, .ref k1, .int v2, .int v3, .int v4]) ++ List.replicate (6 - (lg_sl ([.ref h0, .ref k1, .int v2, .int v3, .int v4])).length) Slot.unset).toArray = ls at hl ⊢
  replace hl : lv_has ls 6 [(0, .ref h0), (1, .ref k1), (2, .int v2), (3, .int v3), (4, .int v4)] := hl
  have inX12 : ∀ w ∈ u_ws RX12 TX12 22, w ∈ wsX12_splitRow := fun w h => List.mem_cons_of_mem _ (inlX12 w h)
  clear hAe hD0 B
  unfold wp_X12_splitRow at hw
  generalize hQe : MQ below _ _ s _ _ _ = Q0
  generalize ([.ref h0, .ref k1, .int v2, .int v3, .int v4] : List Value).toArray = av at *
  obtain ⟨H, hH⟩ : ∃ H, H = s.heap := ⟨_, rfl⟩
  obtain ⟨locs, hlo⟩ : ∃ L : List Loc, L = [] := ⟨_, rfl⟩
  replace hP : va_P (dC, dI) vwCl (w_X12_splitRow h0 h_row h_kept h_isKept h_aside h_eight h_rows h_scales h_dealt h_bytes h_heardRow h_made h_comes h_backs h_fresh k1 cy n_p1 c_thrown c_nodeS c_nodeD c_pairE c_pairO c_bit c_lag c_lagSum c_eight p1 c_rows) H := by rw [hH]; exact hP
  replace hS : va_S A s.heap H locs := by rw [hH, hlo]; exact hS
  suffices hgo : W p l e ({ frames := 1, cells := 0, slots := 0, locals := 24 }) s m av below meth c H locs 0 0 Q0 (F0 m 0 ls []) by rw [hH, hlo] at hgo; exact hgo
  clear hH hlo
  refine lv_iconst (v := 0) hx hb dX12_splitRow_0 (by decide) ?_
  refine lv_istore (lv' := [(5, .int (0 : Int32)), (0, .ref h0), (1, .ref k1), (2, .int v2), (3, .int v3), (4, .int v4)]) hx hb dX12_splitRow_1 hl (by decide) rfl ?_; clear hl; clear ls; intro ls hl
  obtain ⟨x1, e_x1⟩ : ∃ y : Int32, y = (0 : Int32) := ⟨_, rfl⟩
  replace hw := hw x1 e_x1
  replace hl : lv_has ls 6 [(5, .int x1), (0, .ref h0), (1, .ref k1), (2, .int v2), (3, .int v3), (4, .int v4)] := by rw [e_x1]; exact hl
  clear e_x1
  replace hl := lv_sub (l' := [(5, .int x1), (0, .ref h0), (1, .ref k1), (2, .int v2), (3, .int v3), (4, .int v4)]) hl [0, 1, 2, 3, 4, 5] rfl
  revert hl; revert hS; revert hD; revert hP; revert ls; revert locs; revert H
  revert hw; revert c_rows; revert p1; revert c_nodeD; revert c_nodeS; revert x1
  refine Lz5_gr ?_; intro g2 ih3 x4 x5 x6 f7 f8 hw
  intro H locs ls hP hD hS hl
  refine lv_iload hx hb dX12_splitRow_3 (lv_at hl 0 rfl) ?_
  refine lv_iload hx hb dX12_splitRow_5 (lv_at hl 5 rfl) ?_
  refine lv_iconst (v := 2) hx hb dX12_splitRow_7 (by decide) ?_
  refine lv_idiv hx hb dX12_splitRow_8 (by decide) ?_
  refine lv_topi (fun x9 e_x9 => ?_)
  replace hw := hw x9 e_x9
  clear e_x9
  refine lv_icmp_ge (tgt := 79) hx hb dX12_splitRow_9 (by decide) (fun c10 => ?_) (fun c10 => ?_)
  · replace hw := hw.1 c10; clear c10
    clear ih3
    refine lv_iload_n hx hb dX12_splitRow_79 rfl (lv_at hl 4 rfl) ?_
    refine lv_istore (lv' := [(5, .int v3), (0, .ref h0), (1, .ref k1), (2, .int v2), (3, .int v3), (4, .int v4)]) hx hb dX12_splitRow_80 hl (by decide) rfl ?_; clear hl; clear ls; intro ls hl
    obtain ⟨x11, e_x11⟩ : ∃ y : Int32, y = v3 := ⟨_, rfl⟩
    replace hw := hw x11 e_x11
    replace hl : lv_has ls 6 [(5, .int x11), (0, .ref h0), (1, .ref k1), (2, .int v2), (3, .int v3), (4, .int v4)] := by rw [e_x11]; exact hl
    clear e_x11
    replace hl := lv_sub (l' := [(5, .int x11), (0, .ref h0), (3, .int v3), (4, .int v4)]) hl [0, 1, 4, 5] rfl
    revert hl; revert hS; revert hD; revert hP; revert ls; revert locs; revert H
    revert hw; revert c_eight; revert x11
    refine Lz2_gr ?_; intro g12 ih13 x14 f15 hw
    intro H locs ls hP hD hS hl
    refine lv_iload hx hb dX12_splitRow_82 (lv_at hl 0 rfl) ?_
    refine lv_iload_n hx hb dX12_splitRow_84 rfl (lv_at hl 2 rfl) ?_
    refine lv_iload hx hb dX12_splitRow_85 (lv_at hl 3 rfl) ?_
    refine lv_iadd hx hb dX12_splitRow_87 ?_
    refine lv_icmp_ge (tgt := 111) hx hb dX12_splitRow_88 (by decide) (fun c16 => ?_) (fun c16 => ?_)
    · replace hw := hw.1 c16; clear c16
      clear ih13
      subst hQe
      exact W.vret hx hb hr (fun t ht hW => ⟨⟨(x5, x6, f15, f7, f8), rfl, hw, by rw [ht]; exact hP, va_K.moved hW.alike hK, hD⟩, hS.F ht⟩) hS.2.2 dX12_splitRow_111
    · replace hw := hw.2 c16; clear c16
      refine lv_aload_n hx hb dX12_splitRow_91 rfl (lv_at hl 1 rfl) ?_
      refine va_get (D := (dC, dI)) (ci := 12) (v := .ref h_eight) (C := RX12) (T := TX12) (N := 22) hx hb hts inX12 hown hK hP 0 rfl rfl 9 (by decide) (hts _ (List.mem_cons_of_mem _ mw_174)) (fun _ h9 => h9) rfl dX12_splitRow_92 ?_
      refine lv_iload hx hb dX12_splitRow_95 (lv_at hl 0 rfl) ?_
      refine lv_aload_n hx hb dX12_splitRow_97 rfl (lv_at hl 1 rfl) ?_
      refine va_get (D := (dC, dI)) (ci := 12) (v := .ref h_rows) (C := RX12) (T := TX12) (N := 22) hx hb hts inX12 hown hK hP 0 rfl rfl 10 (by decide) (hts _ (List.mem_cons_of_mem _ mw_175)) (fun _ h9 => h9) rfl dX12_splitRow_98 ?_
      refine lv_iload hx hb dX12_splitRow_101 (lv_at hl 0 rfl) ?_
      obtain ⟨h17, hw⟩ := hw
      refine xiald (k := x14.toNatClampNeg) hx hb hK hP 3 0 rfl rfl h17 rfl dX12_splitRow_103 ?_
      obtain ⟨h18, hw⟩ := hw
      refine xiast (k := x14.toNatClampNeg) hx hb hK hP hD hS 1 0 rfl rfl h18 rfl dX12_splitRow_104 ?_; clear hP hD hS; clear H locs; intro f19 e_f19 H locs hP hD hS
      replace hw := hw f19 e_f19
      clear e_f19
      replace hP : va_P (dC, dI) vwCl (w_X12_splitRow h0 h_row h_kept h_isKept h_aside h_eight h_rows h_scales h_dealt h_bytes h_heardRow h_made h_comes h_backs h_fresh k1 cy n_p1 c_thrown x5 x6 c_pairE c_pairO c_bit c_lag c_lagSum f19 f7 f8) H := hP
      replace hD : va_D A (w_X12_splitRow h0 h_row h_kept h_isKept h_aside h_eight h_rows h_scales h_dealt h_bytes h_heardRow h_made h_comes h_backs h_fresh k1 cy n_p1 c_thrown x5 x6 c_pairE c_pairO c_bit c_lag c_lagSum f19 f7 f8) := hD
      refine lv_iinc (v := x14 + 1) (lv' := [(5, .int (x14 + 1)), (0, .ref h0), (3, .int v3), (4, .int v4)]) hx hb dX12_splitRow_105 hl (k := 0) rfl rfl (by decide) rfl ?_; clear hl; clear ls; intro ls hl
      refine lv_goto (tgt := 82) hx hb dX12_splitRow_108 (by decide) ?_
      exact ih13 (x14 + 1) f19 hw H locs ls hP hD hS (lv_sub hl [0, 1, 2, 3] rfl)
  · replace hw := hw.2 c10; clear c10
    refine lv_aload_n hx hb dX12_splitRow_12 rfl (lv_at hl 1 rfl) ?_
    refine lv_aload_n hx hb dX12_splitRow_13 rfl (lv_at hl 2 rfl) ?_
    refine lv_iload_n hx hb dX12_splitRow_14 rfl (lv_at hl 3 rfl) ?_
    refine lv_aload_n hx hb dX12_splitRow_15 rfl (lv_at hl 1 rfl) ?_
    refine va_get (D := (dC, dI)) (ci := 12) (v := .ref h_eight) (C := RX12) (T := TX12) (N := 22) hx hb hts inX12 hown hK hP 0 rfl rfl 9 (by decide) (hts _ (List.mem_cons_of_mem _ mw_174)) (fun _ h9 => h9) rfl dX12_splitRow_16 ?_
    refine lv_iload_n hx hb dX12_splitRow_19 rfl (lv_at hl 4 rfl) ?_
    refine lv_iconst (v := 2) hx hb dX12_splitRow_20 (by decide) ?_
    refine lv_iload hx hb dX12_splitRow_21 (lv_at hl 0 rfl) ?_
    refine lv_imul hx hb dX12_splitRow_23 ?_
    refine lv_iadd hx hb dX12_splitRow_24 ?_
    obtain ⟨h20, hw⟩ := hw
    refine xiald (k := (v3 + ((2 : Int32) * x4)).toNatClampNeg) hx hb hK hP 1 0 rfl rfl h20 rfl dX12_splitRow_25 ?_
    refine lv_aload_n hx hb dX12_splitRow_26 rfl (lv_at hl 1 rfl) ?_
    refine va_get (D := (dC, dI)) (ci := 12) (v := .ref h_eight) (C := RX12) (T := TX12) (N := 22) hx hb hts inX12 hown hK hP 0 rfl rfl 9 (by decide) (hts _ (List.mem_cons_of_mem _ mw_174)) (fun _ h9 => h9) rfl dX12_splitRow_27 ?_
    refine lv_iload_n hx hb dX12_splitRow_30 rfl (lv_at hl 4 rfl) ?_
    refine lv_iconst (v := 2) hx hb dX12_splitRow_31 (by decide) ?_
    refine lv_iload hx hb dX12_splitRow_32 (lv_at hl 0 rfl) ?_
    refine lv_imul hx hb dX12_splitRow_34 ?_
    refine lv_iadd hx hb dX12_splitRow_35 ?_
    refine lv_iconst (v := 1) hx hb dX12_splitRow_36 (by decide) ?_
    refine lv_iadd hx hb dX12_splitRow_37 ?_
    obtain ⟨h21, hw⟩ := hw
    refine xiald (k := ((v3 + ((2 : Int32) * x4)) + (1 : Int32)).toNatClampNeg) hx hb hK hP 1 0 rfl rfl h21 rfl dX12_splitRow_38 ?_
    have hPc := pSub (ws' := (w_X12_splitPair h0 h_row h_kept h_isKept h_aside h_eight h_rows h_scales h_dealt h_bytes h_heardRow h_made h_comes h_backs h_fresh k1 cy n_p1 c_thrown x5 x6 c_pairE c_pairO c_bit c_lag c_lagSum f7)) hP [0, 2] rfl
    have hDc := dSub (ws' := (w_X12_splitPair h0 h_row h_kept h_isKept h_aside h_eight h_rows h_scales h_dealt h_bytes h_heardRow h_made h_comes h_backs h_fresh k1 cy n_p1 c_thrown x5 x6 c_pairE c_pairO c_bit c_lag c_lagSum f7)) hD [0, 2] (by decide) rfl
    have hFc := va_free (wc := (w_X12_splitPair h0 h_row h_kept h_isKept h_aside h_eight h_rows h_scales h_dealt h_bytes h_heardRow h_made h_comes h_backs h_fresh k1 cy n_p1 c_thrown x5 x6 c_pairE c_pairO c_bit c_lag c_lagSum f7)) hD hS hA [0, 2] rfl
    refine va_callv (va_runV (As := [.ref k1, .int v2, .int (c_eight (v3 + ((2 : Int32) * x4)).toNatClampNeg), .int (c_eight ((v3 + ((2 : Int32) * x4)) + (1 : Int32)).toNatClampNeg)]) (rest := []) ⟨hx, hb, hml, hown, hts⟩ (c_X12_splitPair l dC dI cy h0 h_row h_kept h_isKept h_aside h_eight h_rows h_scales h_dealt h_bytes h_heardRow h_made h_comes h_backs h_fresh k1 n_p1 H.size v2 (c_eight (v3 + ((2 : Int32) * x4)).toNatClampNeg) (c_eight ((v3 + ((2 : Int32) * x4)) + (1 : Int32)).toNatClampNeg) c_thrown x5 x6 c_pairE c_pairO c_bit c_lag c_lagSum f7 _ hw) (cwV 4 hts (goodV mw_630 mw_627 mw_628 mw_629 mw_5) rfl rfl rfl (by decide +kernel) ⟨Nat.le_of_ble_eq_true rfl, Nat.le_of_ble_eq_true rfl⟩) ⟨PX_blind, va_recv hK hPc (ci := 12) (q0 := 0) rfl rfl, PX_pre hPc hK hDc hG⟩ rfl rfl hl.1 rfl (lv_room (Nat.le_of_ble_eq_true rfl)) dX12_splitRow_39 ⟨Nat.zero_le _, Nat.zero_le _⟩) hS (fun q _ h => hFc q h) hFc ?_; clear hw hS; intro u t H1 locs1 ht hvm hw hB hz1 hk1 hS
    obtain ⟨x22, x23, f24⟩ := u
    try dsimp only at hw
    obtain ⟨hP1, -, -⟩ := hB
    rw [ht] at hP1
    replace hP := jC0 hP hD [0, 2] [1, 3] rfl hk1 hP1 (w_X12_splitRow h0 h_row h_kept h_isKept h_aside h_eight h_rows h_scales h_dealt h_bytes h_heardRow h_made h_comes h_backs h_fresh k1 cy n_p1 c_thrown x22 x23 c_pairE c_pairO c_bit c_lag c_lagSum c_eight f24 f8) rfl rfl rfl 4 rfl (by decide +kernel); clear hD; obtain ⟨hP, hD⟩ := hP
    replace hP : va_P (dC, dI) vwCl (w_X12_splitRow h0 h_row h_kept h_isKept h_aside h_eight h_rows h_scales h_dealt h_bytes h_heardRow h_made h_comes h_backs h_fresh k1 cy n_p1 c_thrown x22 x23 c_pairE c_pairO c_bit c_lag c_lagSum c_eight f24 f8) H1 := hP
    replace hD : va_D A (w_X12_splitRow h0 h_row h_kept h_isKept h_aside h_eight h_rows h_scales h_dealt h_bytes h_heardRow h_made h_comes h_backs h_fresh k1 cy n_p1 c_thrown x22 x23 c_pairE c_pairO c_bit c_lag c_lagSum c_eight f24 f8) := hD
    clear hPc hDc hFc hP1 hk1 hz1 hvm ht; clear t; clear H locs; obtain ⟨H, hH⟩ : ∃ H, H = H1 := ⟨_, rfl⟩; obtain ⟨locs, hlo⟩ : ∃ L, L = locs1 := ⟨_, rfl⟩; subst hH; subst hlo
    refine W.widen (k := 0) (n := 0) (Nat.le_refl 0) (Nat.le_refl 0) ?_
    refine lv_aload_n hx hb dX12_splitRow_42 rfl (lv_at hl 1 rfl) ?_
    refine va_get (D := (dC, dI)) (ci := 12) (v := .ref h_rows) (C := RX12) (T := TX12) (N := 22) hx hb hts inX12 hown hK hP 0 rfl rfl 10 (by decide) (hts _ (List.mem_cons_of_mem _ mw_175)) (fun _ h9 => h9) rfl dX12_splitRow_43 ?_
    refine lv_iload_n hx hb dX12_splitRow_46 rfl (lv_at hl 4 rfl) ?_
    refine lv_iload hx hb dX12_splitRow_47 (lv_at hl 0 rfl) ?_
    refine lv_iadd hx hb dX12_splitRow_49 ?_
    refine lv_aload_n hx hb dX12_splitRow_50 rfl (lv_at hl 1 rfl) ?_
    refine va_get (D := (dC, dI)) (ci := 12) (v := .int x22) (C := RX12) (T := TX12) (N := 22) hx hb hts inX12 hown hK hP 0 rfl rfl 5 (by decide) (hts _ (List.mem_cons_of_mem _ mw_625)) (fun _ h9 => h9) rfl dX12_splitRow_51 ?_
    obtain ⟨h25, hw⟩ := hw
    refine xiast (k := (v3 + x4).toNatClampNeg) hx hb hK hP hD hS 3 0 rfl rfl h25 rfl dX12_splitRow_54 ?_; clear hP hD hS; clear H locs; intro f26 e_f26 H locs hP hD hS
    replace hw := hw f26 e_f26
    clear e_f26
    replace hP : va_P (dC, dI) vwCl (w_X12_splitRow h0 h_row h_kept h_isKept h_aside h_eight h_rows h_scales h_dealt h_bytes h_heardRow h_made h_comes h_backs h_fresh k1 cy n_p1 c_thrown x22 x23 c_pairE c_pairO c_bit c_lag c_lagSum c_eight f24 f26) H := hP
    replace hD : va_D A (w_X12_splitRow h0 h_row h_kept h_isKept h_aside h_eight h_rows h_scales h_dealt h_bytes h_heardRow h_made h_comes h_backs h_fresh k1 cy n_p1 c_thrown x22 x23 c_pairE c_pairO c_bit c_lag c_lagSum c_eight f24 f26) := hD
    refine lv_aload_n hx hb dX12_splitRow_55 rfl (lv_at hl 1 rfl) ?_
    refine va_get (D := (dC, dI)) (ci := 12) (v := .ref h_rows) (C := RX12) (T := TX12) (N := 22) hx hb hts inX12 hown hK hP 0 rfl rfl 10 (by decide) (hts _ (List.mem_cons_of_mem _ mw_175)) (fun _ h9 => h9) rfl dX12_splitRow_56 ?_
    refine lv_iload_n hx hb dX12_splitRow_59 rfl (lv_at hl 4 rfl) ?_
    refine lv_iload hx hb dX12_splitRow_60 (lv_at hl 5 rfl) ?_
    refine lv_iconst (v := 2) hx hb dX12_splitRow_62 (by decide) ?_
    refine lv_idiv hx hb dX12_splitRow_63 (by decide) ?_
    refine lv_topi (fun x27 e_x27 => ?_)
    replace hw := hw x27 e_x27
    clear e_x27
    refine lv_iadd hx hb dX12_splitRow_64 ?_
    refine lv_iload hx hb dX12_splitRow_65 (lv_at hl 0 rfl) ?_
    refine lv_iadd hx hb dX12_splitRow_67 ?_
    refine lv_aload_n hx hb dX12_splitRow_68 rfl (lv_at hl 1 rfl) ?_
    refine va_get (D := (dC, dI)) (ci := 12) (v := .int x23) (C := RX12) (T := TX12) (N := 22) hx hb hts inX12 hown hK hP 0 rfl rfl 6 (by decide) (hts _ (List.mem_cons_of_mem _ mw_626)) (fun _ h9 => h9) rfl dX12_splitRow_69 ?_
    obtain ⟨h28, hw⟩ := hw
    refine xiast (k := ((v3 + x27) + x4).toNatClampNeg) hx hb hK hP hD hS 3 0 rfl rfl h28 rfl dX12_splitRow_72 ?_; clear hP hD hS; clear H locs; intro f29 e_f29 H locs hP hD hS
    replace hw := hw f29 e_f29
    clear e_f29
    replace hP : va_P (dC, dI) vwCl (w_X12_splitRow h0 h_row h_kept h_isKept h_aside h_eight h_rows h_scales h_dealt h_bytes h_heardRow h_made h_comes h_backs h_fresh k1 cy n_p1 c_thrown x22 x23 c_pairE c_pairO c_bit c_lag c_lagSum c_eight f24 f29) H := hP
    replace hD : va_D A (w_X12_splitRow h0 h_row h_kept h_isKept h_aside h_eight h_rows h_scales h_dealt h_bytes h_heardRow h_made h_comes h_backs h_fresh k1 cy n_p1 c_thrown x22 x23 c_pairE c_pairO c_bit c_lag c_lagSum c_eight f24 f29) := hD
    refine lv_iinc (v := x4 + 1) (lv' := [(5, .int (x4 + 1)), (0, .ref h0), (1, .ref k1), (2, .int v2), (3, .int v3), (4, .int v4)]) hx hb dX12_splitRow_73 hl (k := 0) rfl rfl (by decide) rfl ?_; clear hl; clear ls; intro ls hl
    refine lv_goto (tgt := 3) hx hb dX12_splitRow_76 (by decide) ?_
    exact ih3 (x4 + 1) x22 x23 f24 f29 hw H locs ls hP hD hS (lv_sub hl [0, 1, 2, 3, 4, 5] rfl)
set_option maxHeartbeats 4000000 in
set_option maxRecDepth 100000 in
theorem c_X12_joinRow (l : Launch) (dC : Nat → ClassId) (dI : Nat → Nat → Nat) (cy : Nat → ClassId) (h0 h_row h_kept h_isKept h_aside h_eight h_rows h_scales h_dealt h_bytes h_heardRow h_made h_comes h_backs h_fresh k1 : Nat) (n_p1 : Nat) (sz : Nat) (v2 : Int32) (v3 : Int32) (v4 : Int32) (c_thrown : Int32) (c_nodeS : Int32) (c_nodeD : Int32) (c_pairE : Int32) (c_pairO : Int32) (c_bit : Int32) (c_lag : Int32) (c_lagSum : Int32) (c_eight : Nat → Int32) (p1 : Nat → Int32) (c_rows : Nat → Int32) (post : Int32 → Int32 → (Nat → Int32) → (Nat → Int32) → (Nat → Int32) → Prop) (hw : wp_X12_joinRow n_p1 v2 v3 v4 c_pairE c_pairO c_eight p1 c_rows post) : Met l yX12_joinRow wsX12_joinRow ({ frames := 1, cells := 0, slots := 0, locals := 24 }) (PX dC dI cy [.ref h0, .ref k1, .int v2, .int v3, .int v4] sz (w_X12_joinRow h0 h_row h_kept h_isKept h_aside h_eight h_rows h_scales h_dealt h_bytes h_heardRow h_made h_comes h_backs h_fresh k1 cy n_p1 c_thrown c_nodeS c_nodeD c_pairE c_pairO c_bit c_lag c_lagSum c_eight p1 c_rows)) (va_Qv (fun (u : Int32 × Int32 × (Nat → Int32) × (Nat → Int32) × (Nat → Int32)) => post u.1 u.2.1 u.2.2.1 u.2.2.2.1 u.2.2.2.2) (QX dC dI cy (va_A (w_X12_joinRow h0 h_row h_kept h_isKept h_aside h_eight h_rows h_scales h_dealt h_bytes h_heardRow h_made h_comes h_backs h_fresh k1 cy n_p1 c_thrown c_nodeS c_nodeD c_pairE c_pairO c_bit c_lag c_lagSum c_eight p1 c_rows) sz) (fun (u : Int32 × Int32 × (Nat → Int32) × (Nat → Int32) × (Nat → Int32)) => w_X12_joinRow h0 h_row h_kept h_isKept h_aside h_eight h_rows h_scales h_dealt h_bytes h_heardRow h_made h_comes h_backs h_fresh k1 cy n_p1 c_thrown c_nodeS c_nodeD u.1 u.2.1 c_bit c_lag c_lagSum u.2.2.1 u.2.2.2.1 u.2.2.2.2)) (va_A (w_X12_joinRow h0 h_row h_kept h_isKept h_aside h_eight h_rows h_scales h_dealt h_bytes h_heardRow h_made h_comes h_backs h_fresh k1 cy n_p1 c_thrown c_nodeS c_nodeD c_pairE c_pairO c_bit c_lag c_lagSum c_eight p1 c_rows) sz)) 0 0 (va_A (w_X12_joinRow h0 h_row h_kept h_isKept h_aside h_eight h_rows h_scales h_dealt h_bytes h_heardRow h_made h_comes h_backs h_fresh k1 cy n_p1 c_thrown c_nodeS c_nodeD c_pairE c_pairO c_bit c_lag c_lagSum c_eight p1 c_rows) sz) := by
  refine Met.ofW (cc := cX12_joinRow) (maxL := 6) (ret := none) (by decide) rfl ?_
  intro p e s m args below meth c s₁ B hml hv
  obtain ⟨rfl, hsz, hP, hK, hD0, hG⟩ := hv
  have hx := B.exec
  have hb := B.bytes
  have hr := B.returns
  have hts := atoms_spec (ws := wsX12_joinRow) B.pre
  have hown : s.vm.findClass RX12 = some m.cls := findClass_of_methodNamed B.named
  have hlocks := B.notSynchronized
  subst hsz
  have hD := hD0.self (sz := s.heap.size)
  generalize hAe : va_A (w_X12_joinRow h0 h_row h_kept h_isKept h_aside h_eight h_rows h_scales h_dealt h_bytes h_heardRow h_made h_comes h_backs h_fresh k1 cy n_p1 c_thrown c_nodeS c_nodeD c_pairE c_pairO c_bit c_lag c_lagSum c_eight p1 c_rows) s.heap.size = A at hD ⊢
  have hA : ∀ q : Nat, s.heap.size ≤ q → A q := fun q h => by rw [← hAe]; exact Or.inr h
  have hS : va_S A s.heap s.heap [] := va_S.rf
  have hl := lv_entry ([.ref h0, .ref k1, .int v2, .int v3, .int v4]) (n := 6) (Nat.le_of_ble_eq_true rfl)
  rw [lg_entry_eq]
  generalize (lg_sl ([.ref h0, .ref k1, .int v2, .int v3, .int v4]) ++ List.replicate (6 - (lg_sl ([.ref h0, .ref k1, .int v2, .int v3, .int v4])).length) Slot.unset).toArray = ls at hl ⊢
  replace hl : lv_has ls 6 [(0, .ref h0), (1, .ref k1), (2, .int v2), (3, .int v3), (4, .int v4)] := hl
  have inX12 : ∀ w ∈ u_ws RX12 TX12 22, w ∈ wsX12_joinRow := fun w h => List.mem_cons_of_mem _ (inlX12 w h)
  clear hAe hD0 B
  unfold wp_X12_joinRow at hw
  generalize hQe : MQ below _ _ s _ _ _ = Q0
  generalize ([.ref h0, .ref k1, .int v2, .int v3, .int v4] : List Value).toArray = av at *
  obtain ⟨H, hH⟩ : ∃ H, H = s.heap := ⟨_, rfl⟩
  obtain ⟨locs, hlo⟩ : ∃ L : List Loc, L = [] := ⟨_, rfl⟩
  replace hP : va_P (dC, dI) vwCl (w_X12_joinRow h0 h_row h_kept h_isKept h_aside h_eight h_rows h_scales h_dealt h_bytes h_heardRow h_made h_comes h_backs h_fresh k1 cy n_p1 c_thrown c_nodeS c_nodeD c_pairE c_pairO c_bit c_lag c_lagSum c_eight p1 c_rows) H := by rw [hH]; exact hP
  replace hS : va_S A s.heap H locs := by rw [hH, hlo]; exact hS
  suffices hgo : W p l e ({ frames := 1, cells := 0, slots := 0, locals := 24 }) s m av below meth c H locs 0 0 Q0 (F0 m 0 ls []) by rw [hH, hlo] at hgo; exact hgo
  clear hH hlo
  refine lv_iconst (v := 0) hx hb dX12_joinRow_0 (by decide) ?_
  refine lv_istore (lv' := [(5, .int (0 : Int32)), (0, .ref h0), (1, .ref k1), (2, .int v2), (3, .int v3), (4, .int v4)]) hx hb dX12_joinRow_1 hl (by decide) rfl ?_; clear hl; clear ls; intro ls hl
  obtain ⟨x1, e_x1⟩ : ∃ y : Int32, y = (0 : Int32) := ⟨_, rfl⟩
  replace hw := hw x1 e_x1
  replace hl : lv_has ls 6 [(5, .int x1), (0, .ref h0), (1, .ref k1), (2, .int v2), (3, .int v3), (4, .int v4)] := by rw [e_x1]; exact hl
  clear e_x1
  replace hl := lv_sub (l' := [(5, .int x1), (0, .ref h0), (1, .ref k1), (2, .int v2), (3, .int v3), (4, .int v4)]) hl [0, 1, 2, 3, 4, 5] rfl
  revert hl; revert hS; revert hD; revert hP; revert ls; revert locs; revert H
  revert hw; revert c_rows; revert p1; revert c_pairO; revert c_pairE; revert x1
  refine Lz5_gr ?_; intro g2 ih3 x4 x5 x6 f7 f8 hw
  intro H locs ls hP hD hS hl
  refine lv_iload hx hb dX12_joinRow_3 (lv_at hl 0 rfl) ?_
  refine lv_iload hx hb dX12_joinRow_5 (lv_at hl 5 rfl) ?_
  refine lv_iconst (v := 2) hx hb dX12_joinRow_7 (by decide) ?_
  refine lv_idiv hx hb dX12_joinRow_8 (by decide) ?_
  refine lv_topi (fun x9 e_x9 => ?_)
  replace hw := hw x9 e_x9
  clear e_x9
  refine lv_icmp_ge (tgt := 79) hx hb dX12_joinRow_9 (by decide) (fun c10 => ?_) (fun c10 => ?_)
  · replace hw := hw.1 c10; clear c10
    clear ih3
    refine lv_iload_n hx hb dX12_joinRow_79 rfl (lv_at hl 4 rfl) ?_
    refine lv_istore (lv' := [(5, .int v3), (0, .ref h0), (1, .ref k1), (2, .int v2), (3, .int v3), (4, .int v4)]) hx hb dX12_joinRow_80 hl (by decide) rfl ?_; clear hl; clear ls; intro ls hl
    obtain ⟨x11, e_x11⟩ : ∃ y : Int32, y = v3 := ⟨_, rfl⟩
    replace hw := hw x11 e_x11
    replace hl : lv_has ls 6 [(5, .int x11), (0, .ref h0), (1, .ref k1), (2, .int v2), (3, .int v3), (4, .int v4)] := by rw [e_x11]; exact hl
    clear e_x11
    replace hl := lv_sub (l' := [(5, .int x11), (0, .ref h0), (3, .int v3), (4, .int v4)]) hl [0, 1, 4, 5] rfl
    revert hl; revert hS; revert hD; revert hP; revert ls; revert locs; revert H
    revert hw; revert c_eight; revert x11
    refine Lz2_gr ?_; intro g12 ih13 x14 f15 hw
    intro H locs ls hP hD hS hl
    refine lv_iload hx hb dX12_joinRow_82 (lv_at hl 0 rfl) ?_
    refine lv_iload_n hx hb dX12_joinRow_84 rfl (lv_at hl 2 rfl) ?_
    refine lv_iload hx hb dX12_joinRow_85 (lv_at hl 3 rfl) ?_
    refine lv_iadd hx hb dX12_joinRow_87 ?_
    refine lv_icmp_ge (tgt := 111) hx hb dX12_joinRow_88 (by decide) (fun c16 => ?_) (fun c16 => ?_)
    · replace hw := hw.1 c16; clear c16
      clear ih13
      subst hQe
      exact W.vret hx hb hr (fun t ht hW => ⟨⟨(x5, x6, f15, f7, f8), rfl, hw, by rw [ht]; exact hP, va_K.moved hW.alike hK, hD⟩, hS.F ht⟩) hS.2.2 dX12_joinRow_111
    · replace hw := hw.2 c16; clear c16
      refine lv_aload_n hx hb dX12_joinRow_91 rfl (lv_at hl 1 rfl) ?_
      refine va_get (D := (dC, dI)) (ci := 12) (v := .ref h_eight) (C := RX12) (T := TX12) (N := 22) hx hb hts inX12 hown hK hP 0 rfl rfl 9 (by decide) (hts _ (List.mem_cons_of_mem _ mw_174)) (fun _ h9 => h9) rfl dX12_joinRow_92 ?_
      refine lv_iload hx hb dX12_joinRow_95 (lv_at hl 0 rfl) ?_
      refine lv_aload_n hx hb dX12_joinRow_97 rfl (lv_at hl 1 rfl) ?_
      refine va_get (D := (dC, dI)) (ci := 12) (v := .ref h_rows) (C := RX12) (T := TX12) (N := 22) hx hb hts inX12 hown hK hP 0 rfl rfl 10 (by decide) (hts _ (List.mem_cons_of_mem _ mw_175)) (fun _ h9 => h9) rfl dX12_joinRow_98 ?_
      refine lv_iload hx hb dX12_joinRow_101 (lv_at hl 0 rfl) ?_
      obtain ⟨h17, hw⟩ := hw
      refine xiald (k := x14.toNatClampNeg) hx hb hK hP 3 0 rfl rfl h17 rfl dX12_joinRow_103 ?_
      obtain ⟨h18, hw⟩ := hw
      refine xiast (k := x14.toNatClampNeg) hx hb hK hP hD hS 1 0 rfl rfl h18 rfl dX12_joinRow_104 ?_; clear hP hD hS; clear H locs; intro f19 e_f19 H locs hP hD hS
      replace hw := hw f19 e_f19
      clear e_f19
      replace hP : va_P (dC, dI) vwCl (w_X12_joinRow h0 h_row h_kept h_isKept h_aside h_eight h_rows h_scales h_dealt h_bytes h_heardRow h_made h_comes h_backs h_fresh k1 cy n_p1 c_thrown c_nodeS c_nodeD x5 x6 c_bit c_lag c_lagSum f19 f7 f8) H := hP
      replace hD : va_D A (w_X12_joinRow h0 h_row h_kept h_isKept h_aside h_eight h_rows h_scales h_dealt h_bytes h_heardRow h_made h_comes h_backs h_fresh k1 cy n_p1 c_thrown c_nodeS c_nodeD x5 x6 c_bit c_lag c_lagSum f19 f7 f8) := hD
      refine lv_iinc (v := x14 + 1) (lv' := [(5, .int (x14 + 1)), (0, .ref h0), (3, .int v3), (4, .int v4)]) hx hb dX12_joinRow_105 hl (k := 0) rfl rfl (by decide) rfl ?_; clear hl; clear ls; intro ls hl
      refine lv_goto (tgt := 82) hx hb dX12_joinRow_108 (by decide) ?_
      exact ih13 (x14 + 1) f19 hw H locs ls hP hD hS (lv_sub hl [0, 1, 2, 3] rfl)
  · replace hw := hw.2 c10; clear c10
    refine lv_aload_n hx hb dX12_joinRow_12 rfl (lv_at hl 1 rfl) ?_
    refine lv_aload_n hx hb dX12_joinRow_13 rfl (lv_at hl 2 rfl) ?_
    refine lv_iload_n hx hb dX12_joinRow_14 rfl (lv_at hl 3 rfl) ?_
    refine lv_aload_n hx hb dX12_joinRow_15 rfl (lv_at hl 1 rfl) ?_
    refine va_get (D := (dC, dI)) (ci := 12) (v := .ref h_eight) (C := RX12) (T := TX12) (N := 22) hx hb hts inX12 hown hK hP 0 rfl rfl 9 (by decide) (hts _ (List.mem_cons_of_mem _ mw_174)) (fun _ h9 => h9) rfl dX12_joinRow_16 ?_
    refine lv_iload_n hx hb dX12_joinRow_19 rfl (lv_at hl 4 rfl) ?_
    refine lv_iload hx hb dX12_joinRow_20 (lv_at hl 0 rfl) ?_
    refine lv_iadd hx hb dX12_joinRow_22 ?_
    obtain ⟨h20, hw⟩ := hw
    refine xiald (k := (v3 + x4).toNatClampNeg) hx hb hK hP 1 0 rfl rfl h20 rfl dX12_joinRow_23 ?_
    refine lv_aload_n hx hb dX12_joinRow_24 rfl (lv_at hl 1 rfl) ?_
    refine va_get (D := (dC, dI)) (ci := 12) (v := .ref h_eight) (C := RX12) (T := TX12) (N := 22) hx hb hts inX12 hown hK hP 0 rfl rfl 9 (by decide) (hts _ (List.mem_cons_of_mem _ mw_174)) (fun _ h9 => h9) rfl dX12_joinRow_25 ?_
    refine lv_iload_n hx hb dX12_joinRow_28 rfl (lv_at hl 4 rfl) ?_
    refine lv_iload hx hb dX12_joinRow_29 (lv_at hl 5 rfl) ?_
    refine lv_iconst (v := 2) hx hb dX12_joinRow_31 (by decide) ?_
    refine lv_idiv hx hb dX12_joinRow_32 (by decide) ?_
    refine lv_topi (fun x21 e_x21 => ?_)
    replace hw := hw x21 e_x21
    clear e_x21
    refine lv_iadd hx hb dX12_joinRow_33 ?_
    refine lv_iload hx hb dX12_joinRow_34 (lv_at hl 0 rfl) ?_
    refine lv_iadd hx hb dX12_joinRow_36 ?_
    obtain ⟨h22, hw⟩ := hw
    refine xiald (k := ((v3 + x21) + x4).toNatClampNeg) hx hb hK hP 1 0 rfl rfl h22 rfl dX12_joinRow_37 ?_
    have hPc := pSub (ws' := (w_X12_joinPair h0 h_row h_kept h_isKept h_aside h_eight h_rows h_scales h_dealt h_bytes h_heardRow h_made h_comes h_backs h_fresh k1 cy n_p1 c_thrown c_nodeS c_nodeD x5 x6 c_bit c_lag c_lagSum f7)) hP [0, 2] rfl
    have hDc := dSub (ws' := (w_X12_joinPair h0 h_row h_kept h_isKept h_aside h_eight h_rows h_scales h_dealt h_bytes h_heardRow h_made h_comes h_backs h_fresh k1 cy n_p1 c_thrown c_nodeS c_nodeD x5 x6 c_bit c_lag c_lagSum f7)) hD [0, 2] (by decide) rfl
    have hFc := va_free (wc := (w_X12_joinPair h0 h_row h_kept h_isKept h_aside h_eight h_rows h_scales h_dealt h_bytes h_heardRow h_made h_comes h_backs h_fresh k1 cy n_p1 c_thrown c_nodeS c_nodeD x5 x6 c_bit c_lag c_lagSum f7)) hD hS hA [0, 2] rfl
    refine va_callv (va_runV (As := [.ref k1, .int v2, .int (c_eight (v3 + x4).toNatClampNeg), .int (c_eight ((v3 + x21) + x4).toNatClampNeg)]) (rest := []) ⟨hx, hb, hml, hown, hts⟩ (c_X12_joinPair l dC dI cy h0 h_row h_kept h_isKept h_aside h_eight h_rows h_scales h_dealt h_bytes h_heardRow h_made h_comes h_backs h_fresh k1 n_p1 H.size v2 (c_eight (v3 + x4).toNatClampNeg) (c_eight ((v3 + x21) + x4).toNatClampNeg) c_thrown c_nodeS c_nodeD x5 x6 c_bit c_lag c_lagSum f7 _ hw) (cwV 4 hts (goodV mw_779 mw_776 mw_777 mw_778 mw_5) rfl rfl rfl (by decide +kernel) ⟨Nat.le_of_ble_eq_true rfl, Nat.le_of_ble_eq_true rfl⟩) ⟨PX_blind, va_recv hK hPc (ci := 12) (q0 := 0) rfl rfl, PX_pre hPc hK hDc hG⟩ rfl rfl hl.1 rfl (lv_room (Nat.le_of_ble_eq_true rfl)) dX12_joinRow_38 ⟨Nat.zero_le _, Nat.zero_le _⟩) hS (fun q _ h => hFc q h) hFc ?_; clear hw hS; intro u t H1 locs1 ht hvm hw hB hz1 hk1 hS
    obtain ⟨x23, x24, f25⟩ := u
    try dsimp only at hw
    obtain ⟨hP1, -, -⟩ := hB
    rw [ht] at hP1
    replace hP := jC0 hP hD [0, 2] [1, 3] rfl hk1 hP1 (w_X12_joinRow h0 h_row h_kept h_isKept h_aside h_eight h_rows h_scales h_dealt h_bytes h_heardRow h_made h_comes h_backs h_fresh k1 cy n_p1 c_thrown c_nodeS c_nodeD x23 x24 c_bit c_lag c_lagSum c_eight f25 f8) rfl rfl rfl 4 rfl (by decide +kernel); clear hD; obtain ⟨hP, hD⟩ := hP
    replace hP : va_P (dC, dI) vwCl (w_X12_joinRow h0 h_row h_kept h_isKept h_aside h_eight h_rows h_scales h_dealt h_bytes h_heardRow h_made h_comes h_backs h_fresh k1 cy n_p1 c_thrown c_nodeS c_nodeD x23 x24 c_bit c_lag c_lagSum c_eight f25 f8) H1 := hP
    replace hD : va_D A (w_X12_joinRow h0 h_row h_kept h_isKept h_aside h_eight h_rows h_scales h_dealt h_bytes h_heardRow h_made h_comes h_backs h_fresh k1 cy n_p1 c_thrown c_nodeS c_nodeD x23 x24 c_bit c_lag c_lagSum c_eight f25 f8) := hD
    clear hPc hDc hFc hP1 hk1 hz1 hvm ht; clear t; clear H locs; obtain ⟨H, hH⟩ : ∃ H, H = H1 := ⟨_, rfl⟩; obtain ⟨locs, hlo⟩ : ∃ L, L = locs1 := ⟨_, rfl⟩; subst hH; subst hlo
    refine W.widen (k := 0) (n := 0) (Nat.le_refl 0) (Nat.le_refl 0) ?_
    refine lv_aload_n hx hb dX12_joinRow_41 rfl (lv_at hl 1 rfl) ?_
    refine va_get (D := (dC, dI)) (ci := 12) (v := .ref h_rows) (C := RX12) (T := TX12) (N := 22) hx hb hts inX12 hown hK hP 0 rfl rfl 10 (by decide) (hts _ (List.mem_cons_of_mem _ mw_175)) (fun _ h9 => h9) rfl dX12_joinRow_42 ?_
    refine lv_iload_n hx hb dX12_joinRow_45 rfl (lv_at hl 4 rfl) ?_
    refine lv_iconst (v := 2) hx hb dX12_joinRow_46 (by decide) ?_
    refine lv_iload hx hb dX12_joinRow_47 (lv_at hl 0 rfl) ?_
    refine lv_imul hx hb dX12_joinRow_49 ?_
    refine lv_iadd hx hb dX12_joinRow_50 ?_
    refine lv_aload_n hx hb dX12_joinRow_51 rfl (lv_at hl 1 rfl) ?_
    refine va_get (D := (dC, dI)) (ci := 12) (v := .int x23) (C := RX12) (T := TX12) (N := 22) hx hb hts inX12 hown hK hP 0 rfl rfl 7 (by decide) (hts _ (List.mem_cons_of_mem _ mw_774)) (fun _ h9 => h9) rfl dX12_joinRow_52 ?_
    obtain ⟨h26, hw⟩ := hw
    refine xiast (k := (v3 + ((2 : Int32) * x4)).toNatClampNeg) hx hb hK hP hD hS 3 0 rfl rfl h26 rfl dX12_joinRow_55 ?_; clear hP hD hS; clear H locs; intro f27 e_f27 H locs hP hD hS
    replace hw := hw f27 e_f27
    clear e_f27
    replace hP : va_P (dC, dI) vwCl (w_X12_joinRow h0 h_row h_kept h_isKept h_aside h_eight h_rows h_scales h_dealt h_bytes h_heardRow h_made h_comes h_backs h_fresh k1 cy n_p1 c_thrown c_nodeS c_nodeD x23 x24 c_bit c_lag c_lagSum c_eight f25 f27) H := hP
    replace hD : va_D A (w_X12_joinRow h0 h_row h_kept h_isKept h_aside h_eight h_rows h_scales h_dealt h_bytes h_heardRow h_made h_comes h_backs h_fresh k1 cy n_p1 c_thrown c_nodeS c_nodeD x23 x24 c_bit c_lag c_lagSum c_eight f25 f27) := hD
    refine lv_aload_n hx hb dX12_joinRow_56 rfl (lv_at hl 1 rfl) ?_
    refine va_get (D := (dC, dI)) (ci := 12) (v := .ref h_rows) (C := RX12) (T := TX12) (N := 22) hx hb hts inX12 hown hK hP 0 rfl rfl 10 (by decide) (hts _ (List.mem_cons_of_mem _ mw_175)) (fun _ h9 => h9) rfl dX12_joinRow_57 ?_
    refine lv_iload_n hx hb dX12_joinRow_60 rfl (lv_at hl 4 rfl) ?_
    refine lv_iconst (v := 2) hx hb dX12_joinRow_61 (by decide) ?_
    refine lv_iload hx hb dX12_joinRow_62 (lv_at hl 0 rfl) ?_
    refine lv_imul hx hb dX12_joinRow_64 ?_
    refine lv_iadd hx hb dX12_joinRow_65 ?_
    refine lv_iconst (v := 1) hx hb dX12_joinRow_66 (by decide) ?_
    refine lv_iadd hx hb dX12_joinRow_67 ?_
    refine lv_aload_n hx hb dX12_joinRow_68 rfl (lv_at hl 1 rfl) ?_
    refine va_get (D := (dC, dI)) (ci := 12) (v := .int x24) (C := RX12) (T := TX12) (N := 22) hx hb hts inX12 hown hK hP 0 rfl rfl 8 (by decide) (hts _ (List.mem_cons_of_mem _ mw_775)) (fun _ h9 => h9) rfl dX12_joinRow_69 ?_
    obtain ⟨h28, hw⟩ := hw
    refine xiast (k := ((v3 + ((2 : Int32) * x4)) + (1 : Int32)).toNatClampNeg) hx hb hK hP hD hS 3 0 rfl rfl h28 rfl dX12_joinRow_72 ?_; clear hP hD hS; clear H locs; intro f29 e_f29 H locs hP hD hS
    replace hw := hw f29 e_f29
    clear e_f29
    replace hP : va_P (dC, dI) vwCl (w_X12_joinRow h0 h_row h_kept h_isKept h_aside h_eight h_rows h_scales h_dealt h_bytes h_heardRow h_made h_comes h_backs h_fresh k1 cy n_p1 c_thrown c_nodeS c_nodeD x23 x24 c_bit c_lag c_lagSum c_eight f25 f29) H := hP
    replace hD : va_D A (w_X12_joinRow h0 h_row h_kept h_isKept h_aside h_eight h_rows h_scales h_dealt h_bytes h_heardRow h_made h_comes h_backs h_fresh k1 cy n_p1 c_thrown c_nodeS c_nodeD x23 x24 c_bit c_lag c_lagSum c_eight f25 f29) := hD
    refine lv_iinc (v := x4 + 1) (lv' := [(5, .int (x4 + 1)), (0, .ref h0), (1, .ref k1), (2, .int v2), (3, .int v3), (4, .int v4)]) hx hb dX12_joinRow_73 hl (k := 0) rfl rfl (by decide) rfl ?_; clear hl; clear ls; intro ls hl
    refine lv_goto (tgt := 3) hx hb dX12_joinRow_76 (by decide) ?_
    exact ih3 (x4 + 1) x23 x24 f25 f29 hw H locs ls hP hD hS (lv_sub hl [0, 1, 2, 3, 4, 5] rfl)
set_option maxHeartbeats 4000000 in
set_option maxRecDepth 100000 in
theorem c_X12_splitBlock (l : Launch) (dC : Nat → ClassId) (dI : Nat → Nat → Nat) (cy : Nat → ClassId) (h0 h_row h_kept h_isKept h_aside h_eight h_rows h_scales h_dealt h_bytes h_heardRow h_made h_comes h_backs h_fresh k1 : Nat) (n_p1 : Nat) (sz : Nat) (v2 : Int32) (c_thrown : Int32) (c_nodeS : Int32) (c_nodeD : Int32) (c_pairE : Int32) (c_pairO : Int32) (c_bit : Int32) (c_lag : Int32) (c_lagSum : Int32) (c_eight : Nat → Int32) (p1 : Nat → Int32) (c_rows : Nat → Int32) (post : Int32 → Int32 → (Nat → Int32) → (Nat → Int32) → (Nat → Int32) → Prop) (hw : wp_X12_splitBlock n_p1 v2 c_nodeS c_nodeD c_eight p1 c_rows post) : Met l yX12_splitBlock wsX12_splitBlock ({ frames := 2, cells := 0, slots := 0, locals := 49 }) (PX dC dI cy [.ref h0, .ref k1, .int v2] sz (w_X12_splitBlock h0 h_row h_kept h_isKept h_aside h_eight h_rows h_scales h_dealt h_bytes h_heardRow h_made h_comes h_backs h_fresh k1 cy n_p1 c_thrown c_nodeS c_nodeD c_pairE c_pairO c_bit c_lag c_lagSum c_eight p1 c_rows)) (va_Qv (fun (u : Int32 × Int32 × (Nat → Int32) × (Nat → Int32) × (Nat → Int32)) => post u.1 u.2.1 u.2.2.1 u.2.2.2.1 u.2.2.2.2) (QX dC dI cy (va_A (w_X12_splitBlock h0 h_row h_kept h_isKept h_aside h_eight h_rows h_scales h_dealt h_bytes h_heardRow h_made h_comes h_backs h_fresh k1 cy n_p1 c_thrown c_nodeS c_nodeD c_pairE c_pairO c_bit c_lag c_lagSum c_eight p1 c_rows) sz) (fun (u : Int32 × Int32 × (Nat → Int32) × (Nat → Int32) × (Nat → Int32)) => w_X12_splitBlock h0 h_row h_kept h_isKept h_aside h_eight h_rows h_scales h_dealt h_bytes h_heardRow h_made h_comes h_backs h_fresh k1 cy n_p1 c_thrown u.1 u.2.1 c_pairE c_pairO c_bit c_lag c_lagSum u.2.2.1 u.2.2.2.1 u.2.2.2.2)) (va_A (w_X12_splitBlock h0 h_row h_kept h_isKept h_aside h_eight h_rows h_scales h_dealt h_bytes h_heardRow h_made h_comes h_backs h_fresh k1 cy n_p1 c_thrown c_nodeS c_nodeD c_pairE c_pairO c_bit c_lag c_lagSum c_eight p1 c_rows) sz)) 0 0 (va_A (w_X12_splitBlock h0 h_row h_kept h_isKept h_aside h_eight h_rows h_scales h_dealt h_bytes h_heardRow h_made h_comes h_backs h_fresh k1 cy n_p1 c_thrown c_nodeS c_nodeD c_pairE c_pairO c_bit c_lag c_lagSum c_eight p1 c_rows) sz) := by
  refine Met.ofW (cc := cX12_splitBlock) (maxL := 4) (ret := none) (by decide) rfl ?_
  intro p e s m args below meth c s₁ B hml hv
  obtain ⟨rfl, hsz, hP, hK, hD0, hG⟩ := hv
  have hx := B.exec
  have hb := B.bytes
  have hr := B.returns
  have hts := atoms_spec (ws := wsX12_splitBlock) B.pre
  have hown : s.vm.findClass RX12 = some m.cls := findClass_of_methodNamed B.named
  have hlocks := B.notSynchronized
  subst hsz
  have hD := hD0.self (sz := s.heap.size)
  generalize hAe : va_A (w_X12_splitBlock h0 h_row h_kept h_isKept h_aside h_eight h_rows h_scales h_dealt h_bytes h_heardRow h_made h_comes h_backs h_fresh k1 cy n_p1 c_thrown c_nodeS c_nodeD c_pairE c_pairO c_bit c_lag c_lagSum c_eight p1 c_rows) s.heap.size = A at hD ⊢
  have hA : ∀ q : Nat, s.heap.size ≤ q → A q := fun q h => by rw [← hAe]; exact Or.inr h
  have hS : va_S A s.heap s.heap [] := va_S.rf
  have hl := lv_entry ([.ref h0, .ref k1, .int v2]) (n := 4) (Nat.le_of_ble_eq_true rfl)
  rw [lg_entry_eq]
  generalize (lg_sl ([.ref h0, .ref k1, .int v2]) ++ List.replicate (4 - (lg_sl ([.ref h0, .ref k1, .int v2])).length) Slot.unset).toArray = ls at hl ⊢
  replace hl : lv_has ls 4 [(0, .ref h0), (1, .ref k1), (2, .int v2)] := hl
  clear hAe hD0 B
  unfold wp_X12_splitBlock at hw
  generalize hQe : MQ below _ _ s _ _ _ = Q0
  generalize ([.ref h0, .ref k1, .int v2] : List Value).toArray = av at *
  obtain ⟨H, hH⟩ : ∃ H, H = s.heap := ⟨_, rfl⟩
  obtain ⟨locs, hlo⟩ : ∃ L : List Loc, L = [] := ⟨_, rfl⟩
  replace hP : va_P (dC, dI) vwCl (w_X12_splitBlock h0 h_row h_kept h_isKept h_aside h_eight h_rows h_scales h_dealt h_bytes h_heardRow h_made h_comes h_backs h_fresh k1 cy n_p1 c_thrown c_nodeS c_nodeD c_pairE c_pairO c_bit c_lag c_lagSum c_eight p1 c_rows) H := by rw [hH]; exact hP
  replace hS : va_S A s.heap H locs := by rw [hH, hlo]; exact hS
  suffices hgo : W p l e ({ frames := 2, cells := 0, slots := 0, locals := 49 }) s m av below meth c H locs 0 0 Q0 (F0 m 0 ls []) by rw [hH, hlo] at hgo; exact hgo
  clear hH hlo
  refine lv_aload_n hx hb dX12_splitBlock_0 rfl (lv_at hl 0 rfl) ?_
  refine lv_aload_n hx hb dX12_splitBlock_1 rfl (lv_at hl 1 rfl) ?_
  refine lv_iload_n hx hb dX12_splitBlock_2 rfl (lv_at hl 2 rfl) ?_
  refine lv_iconst (v := 0) hx hb dX12_splitBlock_3 (by decide) ?_
  refine lv_bipush (v := 8) hx hb dX12_splitBlock_4 (by decide) ?_
  have hPc := pSub (ws' := (w_X12_splitRow h0 h_row h_kept h_isKept h_aside h_eight h_rows h_scales h_dealt h_bytes h_heardRow h_made h_comes h_backs h_fresh k1 cy n_p1 c_thrown c_nodeS c_nodeD c_pairE c_pairO c_bit c_lag c_lagSum c_eight p1 c_rows)) hP [0, 1, 2, 3] rfl
  have hDc := dSub (ws' := (w_X12_splitRow h0 h_row h_kept h_isKept h_aside h_eight h_rows h_scales h_dealt h_bytes h_heardRow h_made h_comes h_backs h_fresh k1 cy n_p1 c_thrown c_nodeS c_nodeD c_pairE c_pairO c_bit c_lag c_lagSum c_eight p1 c_rows)) hD [0, 1, 2, 3] (by decide) rfl
  have hFc := va_free (wc := (w_X12_splitRow h0 h_row h_kept h_isKept h_aside h_eight h_rows h_scales h_dealt h_bytes h_heardRow h_made h_comes h_backs h_fresh k1 cy n_p1 c_thrown c_nodeS c_nodeD c_pairE c_pairO c_bit c_lag c_lagSum c_eight p1 c_rows)) hD hS hA [0, 1, 2, 3] rfl
  refine va_callv (va_runV (As := [.ref k1, .int v2, .int (0 : Int32), .int (8 : Int32)]) (rest := []) ⟨hx, hb, hml, hown, hts⟩ (c_X12_splitRow l dC dI cy h0 h_row h_kept h_isKept h_aside h_eight h_rows h_scales h_dealt h_bytes h_heardRow h_made h_comes h_backs h_fresh k1 n_p1 H.size v2 (0 : Int32) (8 : Int32) c_thrown c_nodeS c_nodeD c_pairE c_pairO c_bit c_lag c_lagSum c_eight p1 c_rows _ hw) (cwV 4 hts (goodV mw_624 mw_621 mw_622 mw_623 mw_5) rfl rfl rfl (by decide +kernel) ⟨Nat.le_of_ble_eq_true rfl, Nat.le_of_ble_eq_true rfl⟩) ⟨PX_blind, va_recv hK hPc (ci := 12) (q0 := 0) rfl rfl, PX_pre hPc hK hDc hG⟩ rfl rfl hl.1 rfl (lv_room (Nat.le_of_ble_eq_true rfl)) dX12_splitBlock_6 ⟨Nat.zero_le _, Nat.zero_le _⟩) hS (fun q _ h => hFc q h) hFc ?_; clear hw hS; intro u t H1 locs1 ht hvm hw hB hz1 hk1 hS
  obtain ⟨x1, x2, f3, f4, f5⟩ := u
  try dsimp only at hw
  obtain ⟨hP1, -, -⟩ := hB
  rw [ht] at hP1
  replace hP := jC0 hP hD [0, 1, 2, 3] [] rfl hk1 hP1 (w_X12_splitBlock h0 h_row h_kept h_isKept h_aside h_eight h_rows h_scales h_dealt h_bytes h_heardRow h_made h_comes h_backs h_fresh k1 cy n_p1 c_thrown x1 x2 c_pairE c_pairO c_bit c_lag c_lagSum f3 f4 f5) rfl rfl rfl 4 rfl (by decide +kernel); clear hD; obtain ⟨hP, hD⟩ := hP
  replace hP : va_P (dC, dI) vwCl (w_X12_splitBlock h0 h_row h_kept h_isKept h_aside h_eight h_rows h_scales h_dealt h_bytes h_heardRow h_made h_comes h_backs h_fresh k1 cy n_p1 c_thrown x1 x2 c_pairE c_pairO c_bit c_lag c_lagSum f3 f4 f5) H1 := hP
  replace hD : va_D A (w_X12_splitBlock h0 h_row h_kept h_isKept h_aside h_eight h_rows h_scales h_dealt h_bytes h_heardRow h_made h_comes h_backs h_fresh k1 cy n_p1 c_thrown x1 x2 c_pairE c_pairO c_bit c_lag c_lagSum f3 f4 f5) := hD
  clear hPc hDc hFc hP1 hk1 hz1 hvm ht; clear t; clear H locs; obtain ⟨H, hH⟩ : ∃ H, H = H1 := ⟨_, rfl⟩; obtain ⟨locs, hlo⟩ : ∃ L, L = locs1 := ⟨_, rfl⟩; subst hH; subst hlo
  refine W.widen (k := 0) (n := 0) (Nat.le_refl 0) (Nat.le_refl 0) ?_
  refine lv_aload_n hx hb dX12_splitBlock_9 rfl (lv_at hl 0 rfl) ?_
  refine lv_aload_n hx hb dX12_splitBlock_10 rfl (lv_at hl 1 rfl) ?_
  refine lv_iload_n hx hb dX12_splitBlock_11 rfl (lv_at hl 2 rfl) ?_
  refine lv_iconst (v := 2) hx hb dX12_splitBlock_12 (by decide) ?_
  refine lv_iadd hx hb dX12_splitBlock_13 ?_
  refine lv_iconst (v := 0) hx hb dX12_splitBlock_14 (by decide) ?_
  refine lv_iconst (v := 4) hx hb dX12_splitBlock_15 (by decide) ?_
  have hPc := pSub (ws' := (w_X12_splitRow h0 h_row h_kept h_isKept h_aside h_eight h_rows h_scales h_dealt h_bytes h_heardRow h_made h_comes h_backs h_fresh k1 cy n_p1 c_thrown x1 x2 c_pairE c_pairO c_bit c_lag c_lagSum f3 f4 f5)) hP [0, 1, 2, 3] rfl
  have hDc := dSub (ws' := (w_X12_splitRow h0 h_row h_kept h_isKept h_aside h_eight h_rows h_scales h_dealt h_bytes h_heardRow h_made h_comes h_backs h_fresh k1 cy n_p1 c_thrown x1 x2 c_pairE c_pairO c_bit c_lag c_lagSum f3 f4 f5)) hD [0, 1, 2, 3] (by decide) rfl
  have hFc := va_free (wc := (w_X12_splitRow h0 h_row h_kept h_isKept h_aside h_eight h_rows h_scales h_dealt h_bytes h_heardRow h_made h_comes h_backs h_fresh k1 cy n_p1 c_thrown x1 x2 c_pairE c_pairO c_bit c_lag c_lagSum f3 f4 f5)) hD hS hA [0, 1, 2, 3] rfl
  refine va_callv (va_runV (As := [.ref k1, .int (v2 + (2 : Int32)), .int (0 : Int32), .int (4 : Int32)]) (rest := []) ⟨hx, hb, hml, hown, hts⟩ (c_X12_splitRow l dC dI cy h0 h_row h_kept h_isKept h_aside h_eight h_rows h_scales h_dealt h_bytes h_heardRow h_made h_comes h_backs h_fresh k1 n_p1 H.size (v2 + (2 : Int32)) (0 : Int32) (4 : Int32) c_thrown x1 x2 c_pairE c_pairO c_bit c_lag c_lagSum f3 f4 f5 _ hw) (cwV 4 hts (goodV mw_624 mw_621 mw_622 mw_623 mw_5) rfl rfl rfl (by decide +kernel) ⟨Nat.le_of_ble_eq_true rfl, Nat.le_of_ble_eq_true rfl⟩) ⟨PX_blind, va_recv hK hPc (ci := 12) (q0 := 0) rfl rfl, PX_pre hPc hK hDc hG⟩ rfl rfl hl.1 rfl (lv_room (Nat.le_of_ble_eq_true rfl)) dX12_splitBlock_16 ⟨Nat.zero_le _, Nat.zero_le _⟩) hS (fun q _ h => hFc q h) hFc ?_; clear hw hS; intro u t H1 locs1 ht hvm hw hB hz1 hk1 hS
  obtain ⟨x6, x7, f8, f9, f10⟩ := u
  try dsimp only at hw
  obtain ⟨hP1, -, -⟩ := hB
  rw [ht] at hP1
  replace hP := jC0 hP hD [0, 1, 2, 3] [] rfl hk1 hP1 (w_X12_splitBlock h0 h_row h_kept h_isKept h_aside h_eight h_rows h_scales h_dealt h_bytes h_heardRow h_made h_comes h_backs h_fresh k1 cy n_p1 c_thrown x6 x7 c_pairE c_pairO c_bit c_lag c_lagSum f8 f9 f10) rfl rfl rfl 4 rfl (by decide +kernel); clear hD; obtain ⟨hP, hD⟩ := hP
  replace hP : va_P (dC, dI) vwCl (w_X12_splitBlock h0 h_row h_kept h_isKept h_aside h_eight h_rows h_scales h_dealt h_bytes h_heardRow h_made h_comes h_backs h_fresh k1 cy n_p1 c_thrown x6 x7 c_pairE c_pairO c_bit c_lag c_lagSum f8 f9 f10) H1 := hP
  replace hD : va_D A (w_X12_splitBlock h0 h_row h_kept h_isKept h_aside h_eight h_rows h_scales h_dealt h_bytes h_heardRow h_made h_comes h_backs h_fresh k1 cy n_p1 c_thrown x6 x7 c_pairE c_pairO c_bit c_lag c_lagSum f8 f9 f10) := hD
  clear hPc hDc hFc hP1 hk1 hz1 hvm ht; clear t; clear H locs; obtain ⟨H, hH⟩ : ∃ H, H = H1 := ⟨_, rfl⟩; obtain ⟨locs, hlo⟩ : ∃ L, L = locs1 := ⟨_, rfl⟩; subst hH; subst hlo
  refine W.widen (k := 0) (n := 0) (Nat.le_refl 0) (Nat.le_refl 0) ?_
  refine lv_aload_n hx hb dX12_splitBlock_19 rfl (lv_at hl 0 rfl) ?_
  refine lv_aload_n hx hb dX12_splitBlock_20 rfl (lv_at hl 1 rfl) ?_
  refine lv_iload_n hx hb dX12_splitBlock_21 rfl (lv_at hl 2 rfl) ?_
  refine lv_iconst (v := 4) hx hb dX12_splitBlock_22 (by decide) ?_
  refine lv_iadd hx hb dX12_splitBlock_23 ?_
  refine lv_iconst (v := 4) hx hb dX12_splitBlock_24 (by decide) ?_
  refine lv_iconst (v := 4) hx hb dX12_splitBlock_25 (by decide) ?_
  have hPc := pSub (ws' := (w_X12_splitRow h0 h_row h_kept h_isKept h_aside h_eight h_rows h_scales h_dealt h_bytes h_heardRow h_made h_comes h_backs h_fresh k1 cy n_p1 c_thrown x6 x7 c_pairE c_pairO c_bit c_lag c_lagSum f8 f9 f10)) hP [0, 1, 2, 3] rfl
  have hDc := dSub (ws' := (w_X12_splitRow h0 h_row h_kept h_isKept h_aside h_eight h_rows h_scales h_dealt h_bytes h_heardRow h_made h_comes h_backs h_fresh k1 cy n_p1 c_thrown x6 x7 c_pairE c_pairO c_bit c_lag c_lagSum f8 f9 f10)) hD [0, 1, 2, 3] (by decide) rfl
  have hFc := va_free (wc := (w_X12_splitRow h0 h_row h_kept h_isKept h_aside h_eight h_rows h_scales h_dealt h_bytes h_heardRow h_made h_comes h_backs h_fresh k1 cy n_p1 c_thrown x6 x7 c_pairE c_pairO c_bit c_lag c_lagSum f8 f9 f10)) hD hS hA [0, 1, 2, 3] rfl
  refine va_callv (va_runV (As := [.ref k1, .int (v2 + (4 : Int32)), .int (4 : Int32), .int (4 : Int32)]) (rest := []) ⟨hx, hb, hml, hown, hts⟩ (c_X12_splitRow l dC dI cy h0 h_row h_kept h_isKept h_aside h_eight h_rows h_scales h_dealt h_bytes h_heardRow h_made h_comes h_backs h_fresh k1 n_p1 H.size (v2 + (4 : Int32)) (4 : Int32) (4 : Int32) c_thrown x6 x7 c_pairE c_pairO c_bit c_lag c_lagSum f8 f9 f10 _ hw) (cwV 4 hts (goodV mw_624 mw_621 mw_622 mw_623 mw_5) rfl rfl rfl (by decide +kernel) ⟨Nat.le_of_ble_eq_true rfl, Nat.le_of_ble_eq_true rfl⟩) ⟨PX_blind, va_recv hK hPc (ci := 12) (q0 := 0) rfl rfl, PX_pre hPc hK hDc hG⟩ rfl rfl hl.1 rfl (lv_room (Nat.le_of_ble_eq_true rfl)) dX12_splitBlock_26 ⟨Nat.zero_le _, Nat.zero_le _⟩) hS (fun q _ h => hFc q h) hFc ?_; clear hw hS; intro u t H1 locs1 ht hvm hw hB hz1 hk1 hS
  obtain ⟨x11, x12, f13, f14, f15⟩ := u
  try dsimp only at hw
  obtain ⟨hP1, -, -⟩ := hB
  rw [ht] at hP1
  replace hP := jC0 hP hD [0, 1, 2, 3] [] rfl hk1 hP1 (w_X12_splitBlock h0 h_row h_kept h_isKept h_aside h_eight h_rows h_scales h_dealt h_bytes h_heardRow h_made h_comes h_backs h_fresh k1 cy n_p1 c_thrown x11 x12 c_pairE c_pairO c_bit c_lag c_lagSum f13 f14 f15) rfl rfl rfl 4 rfl (by decide +kernel); clear hD; obtain ⟨hP, hD⟩ := hP
  replace hP : va_P (dC, dI) vwCl (w_X12_splitBlock h0 h_row h_kept h_isKept h_aside h_eight h_rows h_scales h_dealt h_bytes h_heardRow h_made h_comes h_backs h_fresh k1 cy n_p1 c_thrown x11 x12 c_pairE c_pairO c_bit c_lag c_lagSum f13 f14 f15) H1 := hP
  replace hD : va_D A (w_X12_splitBlock h0 h_row h_kept h_isKept h_aside h_eight h_rows h_scales h_dealt h_bytes h_heardRow h_made h_comes h_backs h_fresh k1 cy n_p1 c_thrown x11 x12 c_pairE c_pairO c_bit c_lag c_lagSum f13 f14 f15) := hD
  clear hPc hDc hFc hP1 hk1 hz1 hvm ht; clear t; clear H locs; obtain ⟨H, hH⟩ : ∃ H, H = H1 := ⟨_, rfl⟩; obtain ⟨locs, hlo⟩ : ∃ L, L = locs1 := ⟨_, rfl⟩; subst hH; subst hlo
  refine W.widen (k := 0) (n := 0) (Nat.le_refl 0) (Nat.le_refl 0) ?_
  refine lv_iconst (v := 0) hx hb dX12_splitBlock_29 (by decide) ?_
  refine lv_istore_n (lv' := [(3, .int (0 : Int32)), (0, .ref h0), (1, .ref k1), (2, .int v2)]) hx hb dX12_splitBlock_30 rfl hl (by decide) rfl ?_; clear hl; clear ls; intro ls hl
  obtain ⟨x16, e_x16⟩ : ∃ y : Int32, y = (0 : Int32) := ⟨_, rfl⟩
  replace hw := hw x16 e_x16
  replace hl : lv_has ls 4 [(3, .int x16), (0, .ref h0), (1, .ref k1), (2, .int v2)] := by rw [e_x16]; exact hl
  clear e_x16
  replace hl := lv_sub (l' := [(3, .int x16), (0, .ref h0), (1, .ref k1), (2, .int v2)]) hl [0, 1, 2, 3] rfl
  revert hl; revert hS; revert hD; revert hP; revert ls; revert locs; revert H
  revert hw; revert f15; revert f14; revert f13; revert x12; revert x11; revert x16
  refine Lz6_gr ?_; intro g17 ih18 x19 x20 x21 f22 f23 f24 hw
  intro H locs ls hP hD hS hl
  refine lv_iload_n hx hb dX12_splitBlock_31 rfl (lv_at hl 0 rfl) ?_
  refine lv_iconst (v := 4) hx hb dX12_splitBlock_32 (by decide) ?_
  refine lv_icmp_ge (tgt := 59) hx hb dX12_splitBlock_33 (by decide) (fun c25 => ?_) (fun c25 => ?_)
  · replace hw := hw.1 c25; clear c25
    clear ih18
    subst hQe
    exact W.vret hx hb hr (fun t ht hW => ⟨⟨(x20, x21, f22, f23, f24), rfl, hw, by rw [ht]; exact hP, va_K.moved hW.alike hK, hD⟩, hS.F ht⟩) hS.2.2 dX12_splitBlock_59
  · replace hw := hw.2 c25; clear c25
    refine lv_aload_n hx hb dX12_splitBlock_36 rfl (lv_at hl 1 rfl) ?_
    refine lv_aload_n hx hb dX12_splitBlock_37 rfl (lv_at hl 2 rfl) ?_
    refine lv_iload_n hx hb dX12_splitBlock_38 rfl (lv_at hl 3 rfl) ?_
    refine lv_bipush (v := 6) hx hb dX12_splitBlock_39 (by decide) ?_
    refine lv_iadd hx hb dX12_splitBlock_41 ?_
    refine lv_iconst (v := 2) hx hb dX12_splitBlock_42 (by decide) ?_
    refine lv_iload_n hx hb dX12_splitBlock_43 rfl (lv_at hl 0 rfl) ?_
    refine lv_imul hx hb dX12_splitBlock_44 ?_
    refine lv_iadd hx hb dX12_splitBlock_45 ?_
    refine lv_iconst (v := 2) hx hb dX12_splitBlock_46 (by decide) ?_
    refine lv_iload_n hx hb dX12_splitBlock_47 rfl (lv_at hl 0 rfl) ?_
    refine lv_imul hx hb dX12_splitBlock_48 ?_
    refine lv_iconst (v := 2) hx hb dX12_splitBlock_49 (by decide) ?_
    have hPc := pSub (ws' := (w_X12_splitRow h0 h_row h_kept h_isKept h_aside h_eight h_rows h_scales h_dealt h_bytes h_heardRow h_made h_comes h_backs h_fresh k1 cy n_p1 c_thrown x20 x21 c_pairE c_pairO c_bit c_lag c_lagSum f22 f23 f24)) hP [0, 1, 2, 3] rfl
    have hDc := dSub (ws' := (w_X12_splitRow h0 h_row h_kept h_isKept h_aside h_eight h_rows h_scales h_dealt h_bytes h_heardRow h_made h_comes h_backs h_fresh k1 cy n_p1 c_thrown x20 x21 c_pairE c_pairO c_bit c_lag c_lagSum f22 f23 f24)) hD [0, 1, 2, 3] (by decide) rfl
    have hFc := va_free (wc := (w_X12_splitRow h0 h_row h_kept h_isKept h_aside h_eight h_rows h_scales h_dealt h_bytes h_heardRow h_made h_comes h_backs h_fresh k1 cy n_p1 c_thrown x20 x21 c_pairE c_pairO c_bit c_lag c_lagSum f22 f23 f24)) hD hS hA [0, 1, 2, 3] rfl
    refine va_callv (va_runV (As := [.ref k1, .int ((v2 + (6 : Int32)) + ((2 : Int32) * x19)), .int ((2 : Int32) * x19), .int (2 : Int32)]) (rest := []) ⟨hx, hb, hml, hown, hts⟩ (c_X12_splitRow l dC dI cy h0 h_row h_kept h_isKept h_aside h_eight h_rows h_scales h_dealt h_bytes h_heardRow h_made h_comes h_backs h_fresh k1 n_p1 H.size ((v2 + (6 : Int32)) + ((2 : Int32) * x19)) ((2 : Int32) * x19) (2 : Int32) c_thrown x20 x21 c_pairE c_pairO c_bit c_lag c_lagSum f22 f23 f24 _ hw) (cwV 4 hts (goodV mw_624 mw_621 mw_622 mw_623 mw_5) rfl rfl rfl (by decide +kernel) ⟨Nat.le_of_ble_eq_true rfl, Nat.le_of_ble_eq_true rfl⟩) ⟨PX_blind, va_recv hK hPc (ci := 12) (q0 := 0) rfl rfl, PX_pre hPc hK hDc hG⟩ rfl rfl hl.1 rfl (lv_room (Nat.le_of_ble_eq_true rfl)) dX12_splitBlock_50 ⟨Nat.zero_le _, Nat.zero_le _⟩) hS (fun q _ h => hFc q h) hFc ?_; clear hw hS; intro u t H1 locs1 ht hvm hw hB hz1 hk1 hS
    obtain ⟨x26, x27, f28, f29, f30⟩ := u
    try dsimp only at hw
    obtain ⟨hP1, -, -⟩ := hB
    rw [ht] at hP1
    replace hP := jC0 hP hD [0, 1, 2, 3] [] rfl hk1 hP1 (w_X12_splitBlock h0 h_row h_kept h_isKept h_aside h_eight h_rows h_scales h_dealt h_bytes h_heardRow h_made h_comes h_backs h_fresh k1 cy n_p1 c_thrown x26 x27 c_pairE c_pairO c_bit c_lag c_lagSum f28 f29 f30) rfl rfl rfl 4 rfl (by decide +kernel); clear hD; obtain ⟨hP, hD⟩ := hP
    replace hP : va_P (dC, dI) vwCl (w_X12_splitBlock h0 h_row h_kept h_isKept h_aside h_eight h_rows h_scales h_dealt h_bytes h_heardRow h_made h_comes h_backs h_fresh k1 cy n_p1 c_thrown x26 x27 c_pairE c_pairO c_bit c_lag c_lagSum f28 f29 f30) H1 := hP
    replace hD : va_D A (w_X12_splitBlock h0 h_row h_kept h_isKept h_aside h_eight h_rows h_scales h_dealt h_bytes h_heardRow h_made h_comes h_backs h_fresh k1 cy n_p1 c_thrown x26 x27 c_pairE c_pairO c_bit c_lag c_lagSum f28 f29 f30) := hD
    clear hPc hDc hFc hP1 hk1 hz1 hvm ht; clear t; clear H locs; obtain ⟨H, hH⟩ : ∃ H, H = H1 := ⟨_, rfl⟩; obtain ⟨locs, hlo⟩ : ∃ L, L = locs1 := ⟨_, rfl⟩; subst hH; subst hlo
    refine W.widen (k := 0) (n := 0) (Nat.le_refl 0) (Nat.le_refl 0) ?_
    refine lv_iinc (v := x19 + 1) (lv' := [(3, .int (x19 + 1)), (0, .ref h0), (1, .ref k1), (2, .int v2)]) hx hb dX12_splitBlock_53 hl (k := 0) rfl rfl (by decide) rfl ?_; clear hl; clear ls; intro ls hl
    refine lv_goto (tgt := 31) hx hb dX12_splitBlock_56 (by decide) ?_
    exact ih18 (x19 + 1) x26 x27 f28 f29 f30 hw H locs ls hP hD hS (lv_sub hl [0, 1, 2, 3] rfl)
set_option maxHeartbeats 4000000 in
set_option maxRecDepth 100000 in
theorem c_X12_joinBlock (l : Launch) (dC : Nat → ClassId) (dI : Nat → Nat → Nat) (cy : Nat → ClassId) (h0 h_row h_kept h_isKept h_aside h_eight h_rows h_scales h_dealt h_bytes h_heardRow h_made h_comes h_backs h_fresh k1 : Nat) (n_p1 : Nat) (sz : Nat) (v2 : Int32) (c_thrown : Int32) (c_nodeS : Int32) (c_nodeD : Int32) (c_pairE : Int32) (c_pairO : Int32) (c_bit : Int32) (c_lag : Int32) (c_lagSum : Int32) (c_eight : Nat → Int32) (p1 : Nat → Int32) (c_rows : Nat → Int32) (post : Int32 → Int32 → (Nat → Int32) → (Nat → Int32) → (Nat → Int32) → Prop) (hw : wp_X12_joinBlock n_p1 v2 c_pairE c_pairO c_eight p1 c_rows post) : Met l yX12_joinBlock wsX12_joinBlock ({ frames := 2, cells := 0, slots := 0, locals := 49 }) (PX dC dI cy [.ref h0, .ref k1, .int v2] sz (w_X12_joinBlock h0 h_row h_kept h_isKept h_aside h_eight h_rows h_scales h_dealt h_bytes h_heardRow h_made h_comes h_backs h_fresh k1 cy n_p1 c_thrown c_nodeS c_nodeD c_pairE c_pairO c_bit c_lag c_lagSum c_eight p1 c_rows)) (va_Qv (fun (u : Int32 × Int32 × (Nat → Int32) × (Nat → Int32) × (Nat → Int32)) => post u.1 u.2.1 u.2.2.1 u.2.2.2.1 u.2.2.2.2) (QX dC dI cy (va_A (w_X12_joinBlock h0 h_row h_kept h_isKept h_aside h_eight h_rows h_scales h_dealt h_bytes h_heardRow h_made h_comes h_backs h_fresh k1 cy n_p1 c_thrown c_nodeS c_nodeD c_pairE c_pairO c_bit c_lag c_lagSum c_eight p1 c_rows) sz) (fun (u : Int32 × Int32 × (Nat → Int32) × (Nat → Int32) × (Nat → Int32)) => w_X12_joinBlock h0 h_row h_kept h_isKept h_aside h_eight h_rows h_scales h_dealt h_bytes h_heardRow h_made h_comes h_backs h_fresh k1 cy n_p1 c_thrown c_nodeS c_nodeD u.1 u.2.1 c_bit c_lag c_lagSum u.2.2.1 u.2.2.2.1 u.2.2.2.2)) (va_A (w_X12_joinBlock h0 h_row h_kept h_isKept h_aside h_eight h_rows h_scales h_dealt h_bytes h_heardRow h_made h_comes h_backs h_fresh k1 cy n_p1 c_thrown c_nodeS c_nodeD c_pairE c_pairO c_bit c_lag c_lagSum c_eight p1 c_rows) sz)) 0 0 (va_A (w_X12_joinBlock h0 h_row h_kept h_isKept h_aside h_eight h_rows h_scales h_dealt h_bytes h_heardRow h_made h_comes h_backs h_fresh k1 cy n_p1 c_thrown c_nodeS c_nodeD c_pairE c_pairO c_bit c_lag c_lagSum c_eight p1 c_rows) sz) := by
  refine Met.ofW (cc := cX12_joinBlock) (maxL := 4) (ret := none) (by decide) rfl ?_
  intro p e s m args below meth c s₁ B hml hv
  obtain ⟨rfl, hsz, hP, hK, hD0, hG⟩ := hv
  have hx := B.exec
  have hb := B.bytes
  have hr := B.returns
  have hts := atoms_spec (ws := wsX12_joinBlock) B.pre
  have hown : s.vm.findClass RX12 = some m.cls := findClass_of_methodNamed B.named
  have hlocks := B.notSynchronized
  subst hsz
  have hD := hD0.self (sz := s.heap.size)
  generalize hAe : va_A (w_X12_joinBlock h0 h_row h_kept h_isKept h_aside h_eight h_rows h_scales h_dealt h_bytes h_heardRow h_made h_comes h_backs h_fresh k1 cy n_p1 c_thrown c_nodeS c_nodeD c_pairE c_pairO c_bit c_lag c_lagSum c_eight p1 c_rows) s.heap.size = A at hD ⊢
  have hA : ∀ q : Nat, s.heap.size ≤ q → A q := fun q h => by rw [← hAe]; exact Or.inr h
  have hS : va_S A s.heap s.heap [] := va_S.rf
  have hl := lv_entry ([.ref h0, .ref k1, .int v2]) (n := 4) (Nat.le_of_ble_eq_true rfl)
  rw [lg_entry_eq]
  generalize (lg_sl ([.ref h0, .ref k1, .int v2]) ++ List.replicate (4 - (lg_sl ([.ref h0, .ref k1, .int v2])).length) Slot.unset).toArray = ls at hl ⊢
  replace hl : lv_has ls 4 [(0, .ref h0), (1, .ref k1), (2, .int v2)] := hl
  clear hAe hD0 B
  unfold wp_X12_joinBlock at hw
  generalize hQe : MQ below _ _ s _ _ _ = Q0
  generalize ([.ref h0, .ref k1, .int v2] : List Value).toArray = av at *
  obtain ⟨H, hH⟩ : ∃ H, H = s.heap := ⟨_, rfl⟩
  obtain ⟨locs, hlo⟩ : ∃ L : List Loc, L = [] := ⟨_, rfl⟩
  replace hP : va_P (dC, dI) vwCl (w_X12_joinBlock h0 h_row h_kept h_isKept h_aside h_eight h_rows h_scales h_dealt h_bytes h_heardRow h_made h_comes h_backs h_fresh k1 cy n_p1 c_thrown c_nodeS c_nodeD c_pairE c_pairO c_bit c_lag c_lagSum c_eight p1 c_rows) H := by rw [hH]; exact hP
  replace hS : va_S A s.heap H locs := by rw [hH, hlo]; exact hS
  suffices hgo : W p l e ({ frames := 2, cells := 0, slots := 0, locals := 49 }) s m av below meth c H locs 0 0 Q0 (F0 m 0 ls []) by rw [hH, hlo] at hgo; exact hgo
  clear hH hlo
  refine lv_iconst (v := 0) hx hb dX12_joinBlock_0 (by decide) ?_
  refine lv_istore_n (lv' := [(3, .int (0 : Int32)), (0, .ref h0), (1, .ref k1), (2, .int v2)]) hx hb dX12_joinBlock_1 rfl hl (by decide) rfl ?_; clear hl; clear ls; intro ls hl
  obtain ⟨x1, e_x1⟩ : ∃ y : Int32, y = (0 : Int32) := ⟨_, rfl⟩
  replace hw := hw x1 e_x1
  replace hl : lv_has ls 4 [(3, .int x1), (0, .ref h0), (1, .ref k1), (2, .int v2)] := by rw [e_x1]; exact hl
  clear e_x1
  replace hl := lv_sub (l' := [(3, .int x1), (0, .ref h0), (1, .ref k1), (2, .int v2)]) hl [0, 1, 2, 3] rfl
  revert hl; revert hS; revert hD; revert hP; revert ls; revert locs; revert H
  revert hw; revert c_rows; revert p1; revert c_eight; revert c_pairO; revert c_pairE; revert x1
  refine Lz6_gr ?_; intro g2 ih3 x4 x5 x6 f7 f8 f9 hw
  intro H locs ls hP hD hS hl
  refine lv_iload_n hx hb dX12_joinBlock_2 rfl (lv_at hl 0 rfl) ?_
  refine lv_iconst (v := 4) hx hb dX12_joinBlock_3 (by decide) ?_
  refine lv_icmp_ge (tgt := 30) hx hb dX12_joinBlock_4 (by decide) (fun c10 => ?_) (fun c10 => ?_)
  · replace hw := hw.1 c10; clear c10
    clear ih3
    refine lv_aload_n hx hb dX12_joinBlock_30 rfl (lv_at hl 1 rfl) ?_
    refine lv_aload_n hx hb dX12_joinBlock_31 rfl (lv_at hl 2 rfl) ?_
    refine lv_iload_n hx hb dX12_joinBlock_32 rfl (lv_at hl 3 rfl) ?_
    refine lv_iconst (v := 2) hx hb dX12_joinBlock_33 (by decide) ?_
    refine lv_iadd hx hb dX12_joinBlock_34 ?_
    refine lv_iconst (v := 0) hx hb dX12_joinBlock_35 (by decide) ?_
    refine lv_iconst (v := 4) hx hb dX12_joinBlock_36 (by decide) ?_
    have hPc := pSub (ws' := (w_X12_joinRow h0 h_row h_kept h_isKept h_aside h_eight h_rows h_scales h_dealt h_bytes h_heardRow h_made h_comes h_backs h_fresh k1 cy n_p1 c_thrown c_nodeS c_nodeD x5 x6 c_bit c_lag c_lagSum f7 f8 f9)) hP [0, 1, 2, 3] rfl
    have hDc := dSub (ws' := (w_X12_joinRow h0 h_row h_kept h_isKept h_aside h_eight h_rows h_scales h_dealt h_bytes h_heardRow h_made h_comes h_backs h_fresh k1 cy n_p1 c_thrown c_nodeS c_nodeD x5 x6 c_bit c_lag c_lagSum f7 f8 f9)) hD [0, 1, 2, 3] (by decide) rfl
    have hFc := va_free (wc := (w_X12_joinRow h0 h_row h_kept h_isKept h_aside h_eight h_rows h_scales h_dealt h_bytes h_heardRow h_made h_comes h_backs h_fresh k1 cy n_p1 c_thrown c_nodeS c_nodeD x5 x6 c_bit c_lag c_lagSum f7 f8 f9)) hD hS hA [0, 1, 2, 3] rfl
    refine va_callv (va_runV (As := [.ref k1, .int (v2 + (2 : Int32)), .int (0 : Int32), .int (4 : Int32)]) (rest := []) ⟨hx, hb, hml, hown, hts⟩ (c_X12_joinRow l dC dI cy h0 h_row h_kept h_isKept h_aside h_eight h_rows h_scales h_dealt h_bytes h_heardRow h_made h_comes h_backs h_fresh k1 n_p1 H.size (v2 + (2 : Int32)) (0 : Int32) (4 : Int32) c_thrown c_nodeS c_nodeD x5 x6 c_bit c_lag c_lagSum f7 f8 f9 _ hw) (cwV 4 hts (goodV mw_773 mw_770 mw_771 mw_772 mw_5) rfl rfl rfl (by decide +kernel) ⟨Nat.le_of_ble_eq_true rfl, Nat.le_of_ble_eq_true rfl⟩) ⟨PX_blind, va_recv hK hPc (ci := 12) (q0 := 0) rfl rfl, PX_pre hPc hK hDc hG⟩ rfl rfl hl.1 rfl (lv_room (Nat.le_of_ble_eq_true rfl)) dX12_joinBlock_37 ⟨Nat.zero_le _, Nat.zero_le _⟩) hS (fun q _ h => hFc q h) hFc ?_; clear hw hS; intro u t H1 locs1 ht hvm hw hB hz1 hk1 hS
    obtain ⟨x11, x12, f13, f14, f15⟩ := u
    try dsimp only at hw
    obtain ⟨hP1, -, -⟩ := hB
    rw [ht] at hP1
    replace hP := jC0 hP hD [0, 1, 2, 3] [] rfl hk1 hP1 (w_X12_joinBlock h0 h_row h_kept h_isKept h_aside h_eight h_rows h_scales h_dealt h_bytes h_heardRow h_made h_comes h_backs h_fresh k1 cy n_p1 c_thrown c_nodeS c_nodeD x11 x12 c_bit c_lag c_lagSum f13 f14 f15) rfl rfl rfl 4 rfl (by decide +kernel); clear hD; obtain ⟨hP, hD⟩ := hP
    replace hP : va_P (dC, dI) vwCl (w_X12_joinBlock h0 h_row h_kept h_isKept h_aside h_eight h_rows h_scales h_dealt h_bytes h_heardRow h_made h_comes h_backs h_fresh k1 cy n_p1 c_thrown c_nodeS c_nodeD x11 x12 c_bit c_lag c_lagSum f13 f14 f15) H1 := hP
    replace hD : va_D A (w_X12_joinBlock h0 h_row h_kept h_isKept h_aside h_eight h_rows h_scales h_dealt h_bytes h_heardRow h_made h_comes h_backs h_fresh k1 cy n_p1 c_thrown c_nodeS c_nodeD x11 x12 c_bit c_lag c_lagSum f13 f14 f15) := hD
    clear hPc hDc hFc hP1 hk1 hz1 hvm ht; clear t; clear H locs; obtain ⟨H, hH⟩ : ∃ H, H = H1 := ⟨_, rfl⟩; obtain ⟨locs, hlo⟩ : ∃ L, L = locs1 := ⟨_, rfl⟩; subst hH; subst hlo
    refine W.widen (k := 0) (n := 0) (Nat.le_refl 0) (Nat.le_refl 0) ?_
    refine lv_aload_n hx hb dX12_joinBlock_40 rfl (lv_at hl 1 rfl) ?_
    refine lv_aload_n hx hb dX12_joinBlock_41 rfl (lv_at hl 2 rfl) ?_
    refine lv_iload_n hx hb dX12_joinBlock_42 rfl (lv_at hl 3 rfl) ?_
    refine lv_iconst (v := 4) hx hb dX12_joinBlock_43 (by decide) ?_
    refine lv_iadd hx hb dX12_joinBlock_44 ?_
    refine lv_iconst (v := 4) hx hb dX12_joinBlock_45 (by decide) ?_
    refine lv_iconst (v := 4) hx hb dX12_joinBlock_46 (by decide) ?_
    have hPc := pSub (ws' := (w_X12_joinRow h0 h_row h_kept h_isKept h_aside h_eight h_rows h_scales h_dealt h_bytes h_heardRow h_made h_comes h_backs h_fresh k1 cy n_p1 c_thrown c_nodeS c_nodeD x11 x12 c_bit c_lag c_lagSum f13 f14 f15)) hP [0, 1, 2, 3] rfl
    have hDc := dSub (ws' := (w_X12_joinRow h0 h_row h_kept h_isKept h_aside h_eight h_rows h_scales h_dealt h_bytes h_heardRow h_made h_comes h_backs h_fresh k1 cy n_p1 c_thrown c_nodeS c_nodeD x11 x12 c_bit c_lag c_lagSum f13 f14 f15)) hD [0, 1, 2, 3] (by decide) rfl
    have hFc := va_free (wc := (w_X12_joinRow h0 h_row h_kept h_isKept h_aside h_eight h_rows h_scales h_dealt h_bytes h_heardRow h_made h_comes h_backs h_fresh k1 cy n_p1 c_thrown c_nodeS c_nodeD x11 x12 c_bit c_lag c_lagSum f13 f14 f15)) hD hS hA [0, 1, 2, 3] rfl
    refine va_callv (va_runV (As := [.ref k1, .int (v2 + (4 : Int32)), .int (4 : Int32), .int (4 : Int32)]) (rest := []) ⟨hx, hb, hml, hown, hts⟩ (c_X12_joinRow l dC dI cy h0 h_row h_kept h_isKept h_aside h_eight h_rows h_scales h_dealt h_bytes h_heardRow h_made h_comes h_backs h_fresh k1 n_p1 H.size (v2 + (4 : Int32)) (4 : Int32) (4 : Int32) c_thrown c_nodeS c_nodeD x11 x12 c_bit c_lag c_lagSum f13 f14 f15 _ hw) (cwV 4 hts (goodV mw_773 mw_770 mw_771 mw_772 mw_5) rfl rfl rfl (by decide +kernel) ⟨Nat.le_of_ble_eq_true rfl, Nat.le_of_ble_eq_true rfl⟩) ⟨PX_blind, va_recv hK hPc (ci := 12) (q0 := 0) rfl rfl, PX_pre hPc hK hDc hG⟩ rfl rfl hl.1 rfl (lv_room (Nat.le_of_ble_eq_true rfl)) dX12_joinBlock_47 ⟨Nat.zero_le _, Nat.zero_le _⟩) hS (fun q _ h => hFc q h) hFc ?_; clear hw hS; intro u t H1 locs1 ht hvm hw hB hz1 hk1 hS
    obtain ⟨x16, x17, f18, f19, f20⟩ := u
    try dsimp only at hw
    obtain ⟨hP1, -, -⟩ := hB
    rw [ht] at hP1
    replace hP := jC0 hP hD [0, 1, 2, 3] [] rfl hk1 hP1 (w_X12_joinBlock h0 h_row h_kept h_isKept h_aside h_eight h_rows h_scales h_dealt h_bytes h_heardRow h_made h_comes h_backs h_fresh k1 cy n_p1 c_thrown c_nodeS c_nodeD x16 x17 c_bit c_lag c_lagSum f18 f19 f20) rfl rfl rfl 4 rfl (by decide +kernel); clear hD; obtain ⟨hP, hD⟩ := hP
    replace hP : va_P (dC, dI) vwCl (w_X12_joinBlock h0 h_row h_kept h_isKept h_aside h_eight h_rows h_scales h_dealt h_bytes h_heardRow h_made h_comes h_backs h_fresh k1 cy n_p1 c_thrown c_nodeS c_nodeD x16 x17 c_bit c_lag c_lagSum f18 f19 f20) H1 := hP
    replace hD : va_D A (w_X12_joinBlock h0 h_row h_kept h_isKept h_aside h_eight h_rows h_scales h_dealt h_bytes h_heardRow h_made h_comes h_backs h_fresh k1 cy n_p1 c_thrown c_nodeS c_nodeD x16 x17 c_bit c_lag c_lagSum f18 f19 f20) := hD
    clear hPc hDc hFc hP1 hk1 hz1 hvm ht; clear t; clear H locs; obtain ⟨H, hH⟩ : ∃ H, H = H1 := ⟨_, rfl⟩; obtain ⟨locs, hlo⟩ : ∃ L, L = locs1 := ⟨_, rfl⟩; subst hH; subst hlo
    refine W.widen (k := 0) (n := 0) (Nat.le_refl 0) (Nat.le_refl 0) ?_
    refine lv_aload_n hx hb dX12_joinBlock_50 rfl (lv_at hl 1 rfl) ?_
    refine lv_aload_n hx hb dX12_joinBlock_51 rfl (lv_at hl 2 rfl) ?_
    refine lv_iload_n hx hb dX12_joinBlock_52 rfl (lv_at hl 3 rfl) ?_
    refine lv_iconst (v := 0) hx hb dX12_joinBlock_53 (by decide) ?_
    refine lv_bipush (v := 8) hx hb dX12_joinBlock_54 (by decide) ?_
    have hPc := pSub (ws' := (w_X12_joinRow h0 h_row h_kept h_isKept h_aside h_eight h_rows h_scales h_dealt h_bytes h_heardRow h_made h_comes h_backs h_fresh k1 cy n_p1 c_thrown c_nodeS c_nodeD x16 x17 c_bit c_lag c_lagSum f18 f19 f20)) hP [0, 1, 2, 3] rfl
    have hDc := dSub (ws' := (w_X12_joinRow h0 h_row h_kept h_isKept h_aside h_eight h_rows h_scales h_dealt h_bytes h_heardRow h_made h_comes h_backs h_fresh k1 cy n_p1 c_thrown c_nodeS c_nodeD x16 x17 c_bit c_lag c_lagSum f18 f19 f20)) hD [0, 1, 2, 3] (by decide) rfl
    have hFc := va_free (wc := (w_X12_joinRow h0 h_row h_kept h_isKept h_aside h_eight h_rows h_scales h_dealt h_bytes h_heardRow h_made h_comes h_backs h_fresh k1 cy n_p1 c_thrown c_nodeS c_nodeD x16 x17 c_bit c_lag c_lagSum f18 f19 f20)) hD hS hA [0, 1, 2, 3] rfl
    refine va_callv (va_runV (As := [.ref k1, .int v2, .int (0 : Int32), .int (8 : Int32)]) (rest := []) ⟨hx, hb, hml, hown, hts⟩ (c_X12_joinRow l dC dI cy h0 h_row h_kept h_isKept h_aside h_eight h_rows h_scales h_dealt h_bytes h_heardRow h_made h_comes h_backs h_fresh k1 n_p1 H.size v2 (0 : Int32) (8 : Int32) c_thrown c_nodeS c_nodeD x16 x17 c_bit c_lag c_lagSum f18 f19 f20 _ hw) (cwV 4 hts (goodV mw_773 mw_770 mw_771 mw_772 mw_5) rfl rfl rfl (by decide +kernel) ⟨Nat.le_of_ble_eq_true rfl, Nat.le_of_ble_eq_true rfl⟩) ⟨PX_blind, va_recv hK hPc (ci := 12) (q0 := 0) rfl rfl, PX_pre hPc hK hDc hG⟩ rfl rfl hl.1 rfl (lv_room (Nat.le_of_ble_eq_true rfl)) dX12_joinBlock_56 ⟨Nat.zero_le _, Nat.zero_le _⟩) hS (fun q _ h => hFc q h) hFc ?_; clear hw hS; intro u t H1 locs1 ht hvm hw hB hz1 hk1 hS
    obtain ⟨x21, x22, f23, f24, f25⟩ := u
    try dsimp only at hw
    obtain ⟨hP1, -, -⟩ := hB
    rw [ht] at hP1
    replace hP := jC0 hP hD [0, 1, 2, 3] [] rfl hk1 hP1 (w_X12_joinBlock h0 h_row h_kept h_isKept h_aside h_eight h_rows h_scales h_dealt h_bytes h_heardRow h_made h_comes h_backs h_fresh k1 cy n_p1 c_thrown c_nodeS c_nodeD x21 x22 c_bit c_lag c_lagSum f23 f24 f25) rfl rfl rfl 4 rfl (by decide +kernel); clear hD; obtain ⟨hP, hD⟩ := hP
    replace hP : va_P (dC, dI) vwCl (w_X12_joinBlock h0 h_row h_kept h_isKept h_aside h_eight h_rows h_scales h_dealt h_bytes h_heardRow h_made h_comes h_backs h_fresh k1 cy n_p1 c_thrown c_nodeS c_nodeD x21 x22 c_bit c_lag c_lagSum f23 f24 f25) H1 := hP
    replace hD : va_D A (w_X12_joinBlock h0 h_row h_kept h_isKept h_aside h_eight h_rows h_scales h_dealt h_bytes h_heardRow h_made h_comes h_backs h_fresh k1 cy n_p1 c_thrown c_nodeS c_nodeD x21 x22 c_bit c_lag c_lagSum f23 f24 f25) := hD
    clear hPc hDc hFc hP1 hk1 hz1 hvm ht; clear t; clear H locs; obtain ⟨H, hH⟩ : ∃ H, H = H1 := ⟨_, rfl⟩; obtain ⟨locs, hlo⟩ : ∃ L, L = locs1 := ⟨_, rfl⟩; subst hH; subst hlo
    refine W.widen (k := 0) (n := 0) (Nat.le_refl 0) (Nat.le_refl 0) ?_
    subst hQe
    exact W.vret hx hb hr (fun t ht hW => ⟨⟨(x21, x22, f23, f24, f25), rfl, hw, by rw [ht]; exact hP, va_K.moved hW.alike hK, hD⟩, hS.F ht⟩) hS.2.2 dX12_joinBlock_59
  · replace hw := hw.2 c10; clear c10
    refine lv_aload_n hx hb dX12_joinBlock_7 rfl (lv_at hl 1 rfl) ?_
    refine lv_aload_n hx hb dX12_joinBlock_8 rfl (lv_at hl 2 rfl) ?_
    refine lv_iload_n hx hb dX12_joinBlock_9 rfl (lv_at hl 3 rfl) ?_
    refine lv_bipush (v := 6) hx hb dX12_joinBlock_10 (by decide) ?_
    refine lv_iadd hx hb dX12_joinBlock_12 ?_
    refine lv_iconst (v := 2) hx hb dX12_joinBlock_13 (by decide) ?_
    refine lv_iload_n hx hb dX12_joinBlock_14 rfl (lv_at hl 0 rfl) ?_
    refine lv_imul hx hb dX12_joinBlock_15 ?_
    refine lv_iadd hx hb dX12_joinBlock_16 ?_
    refine lv_iconst (v := 2) hx hb dX12_joinBlock_17 (by decide) ?_
    refine lv_iload_n hx hb dX12_joinBlock_18 rfl (lv_at hl 0 rfl) ?_
    refine lv_imul hx hb dX12_joinBlock_19 ?_
    refine lv_iconst (v := 2) hx hb dX12_joinBlock_20 (by decide) ?_
    have hPc := pSub (ws' := (w_X12_joinRow h0 h_row h_kept h_isKept h_aside h_eight h_rows h_scales h_dealt h_bytes h_heardRow h_made h_comes h_backs h_fresh k1 cy n_p1 c_thrown c_nodeS c_nodeD x5 x6 c_bit c_lag c_lagSum f7 f8 f9)) hP [0, 1, 2, 3] rfl
    have hDc := dSub (ws' := (w_X12_joinRow h0 h_row h_kept h_isKept h_aside h_eight h_rows h_scales h_dealt h_bytes h_heardRow h_made h_comes h_backs h_fresh k1 cy n_p1 c_thrown c_nodeS c_nodeD x5 x6 c_bit c_lag c_lagSum f7 f8 f9)) hD [0, 1, 2, 3] (by decide) rfl
    have hFc := va_free (wc := (w_X12_joinRow h0 h_row h_kept h_isKept h_aside h_eight h_rows h_scales h_dealt h_bytes h_heardRow h_made h_comes h_backs h_fresh k1 cy n_p1 c_thrown c_nodeS c_nodeD x5 x6 c_bit c_lag c_lagSum f7 f8 f9)) hD hS hA [0, 1, 2, 3] rfl
    refine va_callv (va_runV (As := [.ref k1, .int ((v2 + (6 : Int32)) + ((2 : Int32) * x4)), .int ((2 : Int32) * x4), .int (2 : Int32)]) (rest := []) ⟨hx, hb, hml, hown, hts⟩ (c_X12_joinRow l dC dI cy h0 h_row h_kept h_isKept h_aside h_eight h_rows h_scales h_dealt h_bytes h_heardRow h_made h_comes h_backs h_fresh k1 n_p1 H.size ((v2 + (6 : Int32)) + ((2 : Int32) * x4)) ((2 : Int32) * x4) (2 : Int32) c_thrown c_nodeS c_nodeD x5 x6 c_bit c_lag c_lagSum f7 f8 f9 _ hw) (cwV 4 hts (goodV mw_773 mw_770 mw_771 mw_772 mw_5) rfl rfl rfl (by decide +kernel) ⟨Nat.le_of_ble_eq_true rfl, Nat.le_of_ble_eq_true rfl⟩) ⟨PX_blind, va_recv hK hPc (ci := 12) (q0 := 0) rfl rfl, PX_pre hPc hK hDc hG⟩ rfl rfl hl.1 rfl (lv_room (Nat.le_of_ble_eq_true rfl)) dX12_joinBlock_21 ⟨Nat.zero_le _, Nat.zero_le _⟩) hS (fun q _ h => hFc q h) hFc ?_; clear hw hS; intro u t H1 locs1 ht hvm hw hB hz1 hk1 hS
    obtain ⟨x26, x27, f28, f29, f30⟩ := u
    try dsimp only at hw
    obtain ⟨hP1, -, -⟩ := hB
    rw [ht] at hP1
    replace hP := jC0 hP hD [0, 1, 2, 3] [] rfl hk1 hP1 (w_X12_joinBlock h0 h_row h_kept h_isKept h_aside h_eight h_rows h_scales h_dealt h_bytes h_heardRow h_made h_comes h_backs h_fresh k1 cy n_p1 c_thrown c_nodeS c_nodeD x26 x27 c_bit c_lag c_lagSum f28 f29 f30) rfl rfl rfl 4 rfl (by decide +kernel); clear hD; obtain ⟨hP, hD⟩ := hP
    replace hP : va_P (dC, dI) vwCl (w_X12_joinBlock h0 h_row h_kept h_isKept h_aside h_eight h_rows h_scales h_dealt h_bytes h_heardRow h_made h_comes h_backs h_fresh k1 cy n_p1 c_thrown c_nodeS c_nodeD x26 x27 c_bit c_lag c_lagSum f28 f29 f30) H1 := hP
    replace hD : va_D A (w_X12_joinBlock h0 h_row h_kept h_isKept h_aside h_eight h_rows h_scales h_dealt h_bytes h_heardRow h_made h_comes h_backs h_fresh k1 cy n_p1 c_thrown c_nodeS c_nodeD x26 x27 c_bit c_lag c_lagSum f28 f29 f30) := hD
    clear hPc hDc hFc hP1 hk1 hz1 hvm ht; clear t; clear H locs; obtain ⟨H, hH⟩ : ∃ H, H = H1 := ⟨_, rfl⟩; obtain ⟨locs, hlo⟩ : ∃ L, L = locs1 := ⟨_, rfl⟩; subst hH; subst hlo
    refine W.widen (k := 0) (n := 0) (Nat.le_refl 0) (Nat.le_refl 0) ?_
    refine lv_iinc (v := x4 + 1) (lv' := [(3, .int (x4 + 1)), (0, .ref h0), (1, .ref k1), (2, .int v2)]) hx hb dX12_joinBlock_24 hl (k := 0) rfl rfl (by decide) rfl ?_; clear hl; clear ls; intro ls hl
    refine lv_goto (tgt := 2) hx hb dX12_joinBlock_27 (by decide) ?_
    exact ih3 (x4 + 1) x26 x27 f28 f29 f30 hw H locs ls hP hD hS (lv_sub hl [0, 1, 2, 3] rfl)
set_option maxHeartbeats 4000000 in
set_option maxRecDepth 100000 in
theorem c_X12_bandAt (l : Launch) (dC : Nat → ClassId) (dI : Nat → Nat → Nat) (cy : Nat → ClassId) (sz : Nat) (v0 : Int32) (v1 : Int32) (v2 : Int32) (post : Int32 → Prop) (hw : wp_X12_bandAt v0 v1 v2 post) : Met l yX12_bandAt wsX12_bandAt ({ frames := 0, cells := 0, slots := 0, locals := 0 }) (PX dC dI cy [.int v0, .int v1, .int v2] sz (w_X12_bandAt cy)) (va_Qi (fun (r : Int32) (u : Unit) => post r) (QX dC dI cy (va_A (w_X12_bandAt cy) sz) (fun (u : Unit) => w_X12_bandAt cy)) (va_A (w_X12_bandAt cy) sz)) 0 0 (va_A (w_X12_bandAt cy) sz) := by
  refine Met.ofW (cc := cX12_bandAt) (maxL := 3) (ret := (some .int)) (by decide) rfl ?_
  intro p e s m args below meth c s₁ B hml hv
  obtain ⟨rfl, hsz, hP, hK, hD0, hG⟩ := hv
  have hx := B.exec
  have hb := B.bytes
  have hr := B.returns
  have hts := atoms_spec (ws := wsX12_bandAt) B.pre
  have hown : s.vm.findClass RX12 = some m.cls := findClass_of_methodNamed B.named
  have hlocks := B.notSynchronized
  subst hsz
  have hD := hD0.self (sz := s.heap.size)
  generalize hAe : va_A (w_X12_bandAt cy) s.heap.size = A at hD ⊢
  have hA : ∀ q : Nat, s.heap.size ≤ q → A q := fun q h => by rw [← hAe]; exact Or.inr h
  have hS : va_S A s.heap s.heap [] := va_S.rf
  have hl := lv_entry ([.int v0, .int v1, .int v2]) (n := 3) (Nat.le_of_ble_eq_true rfl)
  rw [lg_entry_eq]
  generalize (lg_sl ([.int v0, .int v1, .int v2]) ++ List.replicate (3 - (lg_sl ([.int v0, .int v1, .int v2])).length) Slot.unset).toArray = ls at hl ⊢
  replace hl : lv_has ls 3 [(0, .int v0), (1, .int v1), (2, .int v2)] := hl
  clear hAe hD0 B
  unfold wp_X12_bandAt at hw
  generalize hQe : MQ below _ _ s _ _ _ = Q0
  generalize ([.int v0, .int v1, .int v2] : List Value).toArray = av at *
  obtain ⟨H, hH⟩ : ∃ H, H = s.heap := ⟨_, rfl⟩
  obtain ⟨locs, hlo⟩ : ∃ L : List Loc, L = [] := ⟨_, rfl⟩
  replace hP : va_P (dC, dI) vwCl (w_X12_bandAt cy) H := by rw [hH]; exact hP
  replace hS : va_S A s.heap H locs := by rw [hH, hlo]; exact hS
  suffices hgo : W p l e ({ frames := 0, cells := 0, slots := 0, locals := 0 }) s m av below meth c H locs 0 0 Q0 (F0 m 0 ls []) by rw [hH, hlo] at hgo; exact hgo
  clear hH hlo
  refine lv_bipush (v := 32) hx hb dX12_bandAt_0 (by decide) ?_
  refine lv_iload_n hx hb dX12_bandAt_2 rfl (lv_at hl 0 rfl) ?_
  refine lv_imul hx hb dX12_bandAt_3 ?_
  refine lv_iconst (v := 4) hx hb dX12_bandAt_4 (by decide) ?_
  refine lv_iload_n hx hb dX12_bandAt_5 rfl (lv_at hl 1 rfl) ?_
  refine lv_imul hx hb dX12_bandAt_6 ?_
  refine lv_iadd hx hb dX12_bandAt_7 ?_
  refine lv_iload_n hx hb dX12_bandAt_8 rfl (lv_at hl 2 rfl) ?_
  refine lv_iadd hx hb dX12_bandAt_9 ?_
  subst hQe
  exact W.iret (v := (((32 : Int32) * v0) + ((4 : Int32) * v1)) + v2) hx hb hr (fun t ht hW => ⟨⟨((((32 : Int32) * v0) + ((4 : Int32) * v1)) + v2), (), rfl, hw, by rw [ht]; exact hP, va_K.moved hW.alike hK, hD⟩, hS.F ht⟩) hS.2.2 dX12_bandAt_10
set_option maxHeartbeats 4000000 in
set_option maxRecDepth 100000 in
theorem c_X12_splitFrame (l : Launch) (dC : Nat → ClassId) (dI : Nat → Nat → Nat) (cy : Nat → ClassId) (h0 h_row h_kept h_isKept h_aside h_eight h_rows h_scales h_dealt h_bytes h_heardRow h_made h_comes h_backs h_fresh : Nat) (sz : Nat) (v1 : Int32) (c_thrown : Int32) (c_nodeS : Int32) (c_nodeD : Int32) (c_pairE : Int32) (c_pairO : Int32) (c_bit : Int32) (c_lag : Int32) (c_lagSum : Int32) (c_row : Nat → Int32) (c_eight : Nat → Int32) (c_rows : Nat → Int32) (post : Int32 → Int32 → (Nat → Int32) → (Nat → Int32) → (Nat → Int32) → Prop) (hw : wp_X12_splitFrame v1 c_nodeS c_nodeD c_row c_eight c_rows post) : Met l yX12_splitFrame wsX12_splitFrame ({ frames := 3, cells := 0, slots := 0, locals := 72 }) (PX dC dI cy [.ref h0, .int v1] sz (w_X12_splitFrame h0 h_row h_kept h_isKept h_aside h_eight h_rows h_scales h_dealt h_bytes h_heardRow h_made h_comes h_backs h_fresh cy c_thrown c_nodeS c_nodeD c_pairE c_pairO c_bit c_lag c_lagSum c_row c_eight c_rows)) (va_Qv (fun (u : Int32 × Int32 × (Nat → Int32) × (Nat → Int32) × (Nat → Int32)) => post u.1 u.2.1 u.2.2.1 u.2.2.2.1 u.2.2.2.2) (QX dC dI cy (va_A (w_X12_splitFrame h0 h_row h_kept h_isKept h_aside h_eight h_rows h_scales h_dealt h_bytes h_heardRow h_made h_comes h_backs h_fresh cy c_thrown c_nodeS c_nodeD c_pairE c_pairO c_bit c_lag c_lagSum c_row c_eight c_rows) sz) (fun (u : Int32 × Int32 × (Nat → Int32) × (Nat → Int32) × (Nat → Int32)) => w_X12_splitFrame h0 h_row h_kept h_isKept h_aside h_eight h_rows h_scales h_dealt h_bytes h_heardRow h_made h_comes h_backs h_fresh cy c_thrown u.1 u.2.1 c_pairE c_pairO c_bit c_lag c_lagSum u.2.2.1 u.2.2.2.1 u.2.2.2.2)) (va_A (w_X12_splitFrame h0 h_row h_kept h_isKept h_aside h_eight h_rows h_scales h_dealt h_bytes h_heardRow h_made h_comes h_backs h_fresh cy c_thrown c_nodeS c_nodeD c_pairE c_pairO c_bit c_lag c_lagSum c_row c_eight c_rows) sz)) 0 0 (va_A (w_X12_splitFrame h0 h_row h_kept h_isKept h_aside h_eight h_rows h_scales h_dealt h_bytes h_heardRow h_made h_comes h_backs h_fresh cy c_thrown c_nodeS c_nodeD c_pairE c_pairO c_bit c_lag c_lagSum c_row c_eight c_rows) sz) := by
  refine Met.ofW (cc := cX12_splitFrame) (maxL := 5) (ret := none) (by decide) rfl ?_
  intro p e s m args below meth c s₁ B hml hv
  obtain ⟨rfl, hsz, hP, hK, hD0, hG⟩ := hv
  have hx := B.exec
  have hb := B.bytes
  have hr := B.returns
  have hts := atoms_spec (ws := wsX12_splitFrame) B.pre
  have hown : s.vm.findClass RX12 = some m.cls := findClass_of_methodNamed B.named
  have hlocks := B.notSynchronized
  subst hsz
  have hD := hD0.self (sz := s.heap.size)
  generalize hAe : va_A (w_X12_splitFrame h0 h_row h_kept h_isKept h_aside h_eight h_rows h_scales h_dealt h_bytes h_heardRow h_made h_comes h_backs h_fresh cy c_thrown c_nodeS c_nodeD c_pairE c_pairO c_bit c_lag c_lagSum c_row c_eight c_rows) s.heap.size = A at hD ⊢
  have hA : ∀ q : Nat, s.heap.size ≤ q → A q := fun q h => by rw [← hAe]; exact Or.inr h
  have hS : va_S A s.heap s.heap [] := va_S.rf
  have hl := lv_entry ([.ref h0, .int v1]) (n := 5) (Nat.le_of_ble_eq_true rfl)
  rw [lg_entry_eq]
  generalize (lg_sl ([.ref h0, .int v1]) ++ List.replicate (5 - (lg_sl ([.ref h0, .int v1])).length) Slot.unset).toArray = ls at hl ⊢
  replace hl : lv_has ls 5 [(0, .ref h0), (1, .int v1)] := hl
  have inX12 : ∀ w ∈ u_ws RX12 TX12 22, w ∈ wsX12_splitFrame := fun w h => List.mem_cons_of_mem _ (inlX12 w h)
  clear hAe hD0 B
  unfold wp_X12_splitFrame at hw
  generalize hQe : MQ below _ _ s _ _ _ = Q0
  generalize ([.ref h0, .int v1] : List Value).toArray = av at *
  obtain ⟨H, hH⟩ : ∃ H, H = s.heap := ⟨_, rfl⟩
  obtain ⟨locs, hlo⟩ : ∃ L : List Loc, L = [] := ⟨_, rfl⟩
  replace hP : va_P (dC, dI) vwCl (w_X12_splitFrame h0 h_row h_kept h_isKept h_aside h_eight h_rows h_scales h_dealt h_bytes h_heardRow h_made h_comes h_backs h_fresh cy c_thrown c_nodeS c_nodeD c_pairE c_pairO c_bit c_lag c_lagSum c_row c_eight c_rows) H := by rw [hH]; exact hP
  replace hS : va_S A s.heap H locs := by rw [hH, hlo]; exact hS
  suffices hgo : W p l e ({ frames := 3, cells := 0, slots := 0, locals := 72 }) s m av below meth c H locs 0 0 Q0 (F0 m 0 ls []) by rw [hH, hlo] at hgo; exact hgo
  clear hH hlo
  refine lv_iconst (v := 0) hx hb dX12_splitFrame_0 (by decide) ?_
  refine lv_istore_n (lv' := [(2, .int (0 : Int32)), (0, .ref h0), (1, .int v1)]) hx hb dX12_splitFrame_1 rfl hl (by decide) rfl ?_; clear hl; clear ls; intro ls hl
  obtain ⟨x1, e_x1⟩ : ∃ y : Int32, y = (0 : Int32) := ⟨_, rfl⟩
  replace hw := hw x1 e_x1
  replace hl : lv_has ls 5 [(2, .int x1), (0, .ref h0), (1, .int v1)] := by rw [e_x1]; exact hl
  clear e_x1
  replace hl := lv_sub (l' := [(2, .int x1), (0, .ref h0), (1, .int v1)]) hl [0, 1, 2] rfl
  revert hl; revert hS; revert hD; revert hP; revert ls; revert locs; revert H
  revert hw; revert c_rows; revert c_eight; revert c_row; revert c_nodeD; revert c_nodeS; revert x1
  refine Lz6_gr ?_; intro g2 ih3 x4 x5 x6 f7 f8 f9 hw
  intro H locs ls hP hD hS hl
  refine lv_iload_n hx hb dX12_splitFrame_2 rfl (lv_at hl 0 rfl) ?_
  refine lv_iconst (v := 2) hx hb dX12_splitFrame_3 (by decide) ?_
  refine lv_icmp_ge (tgt := 120) hx hb dX12_splitFrame_4 (by decide) (fun c10 => ?_) (fun c10 => ?_)
  · replace hw := hw.1 c10; clear c10
    clear ih3
    subst hQe
    exact W.vret hx hb hr (fun t ht hW => ⟨⟨(x5, x6, f7, f8, f9), rfl, hw, by rw [ht]; exact hP, va_K.moved hW.alike hK, hD⟩, hS.F ht⟩) hS.2.2 dX12_splitFrame_120
  · replace hw := hw.2 c10; clear c10
    refine lv_iconst (v := 0) hx hb dX12_splitFrame_7 (by decide) ?_
    refine lv_istore_n (lv' := [(3, .int (0 : Int32)), (2, .int x4), (0, .ref h0), (1, .int v1)]) hx hb dX12_splitFrame_8 rfl hl (by decide) rfl ?_; clear hl; clear ls; intro ls hl
    obtain ⟨x11, e_x11⟩ : ∃ y : Int32, y = (0 : Int32) := ⟨_, rfl⟩
    replace hw := hw x11 e_x11
    replace hl : lv_has ls 5 [(3, .int x11), (2, .int x4), (0, .ref h0), (1, .int v1)] := by rw [e_x11]; exact hl
    clear e_x11
    replace hl := lv_sub (l' := [(3, .int x11), (2, .int x4), (0, .ref h0), (1, .int v1)]) hl [0, 1, 2, 3] rfl
    revert hl; revert hS; revert hD; revert hP; revert ls; revert locs; revert H
    revert hw; revert f9; revert f8; revert f7; revert x6; revert x5; revert x11
    refine Lz6_gr ?_; intro g12 ih13 x14 x15 x16 f17 f18 f19 hw
    intro H locs ls hP hD hS hl
    refine lv_iload_n hx hb dX12_splitFrame_9 rfl (lv_at hl 0 rfl) ?_
    refine lv_iconst (v := 4) hx hb dX12_splitFrame_10 (by decide) ?_
    refine lv_icmp_ge (tgt := 114) hx hb dX12_splitFrame_11 (by decide) (fun c20 => ?_) (fun c20 => ?_)
    · replace hw := hw.1 c20; clear c20
      clear ih13
      refine lv_iinc (v := x4 + 1) (lv' := [(2, .int (x4 + 1)), (3, .int x14), (0, .ref h0), (1, .int v1)]) hx hb dX12_splitFrame_114 hl (k := 1) rfl rfl (by decide) rfl ?_; clear hl; clear ls; intro ls hl
      refine lv_goto (tgt := 2) hx hb dX12_splitFrame_117 (by decide) ?_
      exact ih3 (x4 + 1) x15 x16 f17 f18 f19 hw H locs ls hP hD hS (lv_sub hl [0, 2, 3] rfl)
    · replace hw := hw.2 c20; clear c20
      refine lv_iconst (v := 0) hx hb dX12_splitFrame_14 (by decide) ?_
      refine lv_istore (lv' := [(4, .int (0 : Int32)), (3, .int x14), (2, .int x4), (0, .ref h0), (1, .int v1)]) hx hb dX12_splitFrame_15 hl (by decide) rfl ?_; clear hl; clear ls; intro ls hl
      obtain ⟨x21, e_x21⟩ : ∃ y : Int32, y = (0 : Int32) := ⟨_, rfl⟩
      replace hw := hw x21 e_x21
      replace hl : lv_has ls 5 [(4, .int x21), (3, .int x14), (2, .int x4), (0, .ref h0), (1, .int v1)] := by rw [e_x21]; exact hl
      clear e_x21
      replace hl := lv_sub (l' := [(4, .int x21), (3, .int x14), (2, .int x4), (0, .ref h0), (1, .int v1)]) hl [0, 1, 2, 3, 4] rfl
      revert hl; revert hS; revert hD; revert hP; revert ls; revert locs; revert H
      revert hw; revert f18; revert x21
      refine Lz2_gr ?_; intro g22 ih23 x24 f25 hw
      intro H locs ls hP hD hS hl
      refine lv_iload hx hb dX12_splitFrame_17 (lv_at hl 0 rfl) ?_
      refine lv_bipush (v := 8) hx hb dX12_splitFrame_19 (by decide) ?_
      refine lv_icmp_ge (tgt := 54) hx hb dX12_splitFrame_21 (by decide) (fun c26 => ?_) (fun c26 => ?_)
      · replace hw := hw.1 c26; clear c26
        clear ih23
        refine lv_aload_n hx hb dX12_splitFrame_54 rfl (lv_at hl 3 rfl) ?_
        refine lv_aload_n hx hb dX12_splitFrame_55 rfl (lv_at hl 3 rfl) ?_
        refine va_get (D := (dC, dI)) (ci := 12) (v := .ref h_row) (C := RX12) (T := TX12) (N := 22) hx hb hts inX12 hown hK hP 0 rfl rfl 1 (by decide) (hts _ (List.mem_cons_of_mem _ mw_169)) (fun _ h9 => h9) rfl dX12_splitFrame_56 ?_
        refine lv_bipush (v := 53) hx hb dX12_splitFrame_59 (by decide) ?_
        refine lv_bipush (v := 14) hx hb dX12_splitFrame_61 (by decide) ?_
        refine lv_iload_n hx hb dX12_splitFrame_63 rfl (lv_at hl 2 rfl) ?_
        refine lv_imul hx hb dX12_splitFrame_64 ?_
        refine lv_iadd hx hb dX12_splitFrame_65 ?_
        have hPc := pSub (ws' := (w_X12_splitBlock h0 h_row h_kept h_isKept h_aside h_eight h_rows h_scales h_dealt h_bytes h_heardRow h_made h_comes h_backs h_fresh h_row cy 13385 c_thrown x15 x16 c_pairE c_pairO c_bit c_lag c_lagSum f25 f17 f19)) hP [0, 2, 1, 3] rfl
        have hDc := dSub (ws' := (w_X12_splitBlock h0 h_row h_kept h_isKept h_aside h_eight h_rows h_scales h_dealt h_bytes h_heardRow h_made h_comes h_backs h_fresh h_row cy 13385 c_thrown x15 x16 c_pairE c_pairO c_bit c_lag c_lagSum f25 f17 f19)) hD [0, 2, 1, 3] (by decide) rfl
        have hFc := va_free (wc := (w_X12_splitBlock h0 h_row h_kept h_isKept h_aside h_eight h_rows h_scales h_dealt h_bytes h_heardRow h_made h_comes h_backs h_fresh h_row cy 13385 c_thrown x15 x16 c_pairE c_pairO c_bit c_lag c_lagSum f25 f17 f19)) hD hS hA [0, 2, 1, 3] rfl
        refine va_callv (va_runV (As := [.ref h_row, .int ((53 : Int32) + ((14 : Int32) * x4))]) (rest := []) ⟨hx, hb, hml, hown, hts⟩ (c_X12_splitBlock l dC dI cy h0 h_row h_kept h_isKept h_aside h_eight h_rows h_scales h_dealt h_bytes h_heardRow h_made h_comes h_backs h_fresh h_row 13385 H.size ((53 : Int32) + ((14 : Int32) * x4)) c_thrown x15 x16 c_pairE c_pairO c_bit c_lag c_lagSum f25 f17 f19 _ hw) (cwV 2 hts (goodV mw_620 mw_617 mw_618 mw_619 mw_5) rfl rfl rfl (by decide +kernel) ⟨Nat.le_of_ble_eq_true rfl, Nat.le_of_ble_eq_true rfl⟩) ⟨PX_blind, va_recv hK hPc (ci := 12) (q0 := 0) rfl rfl, PX_pre hPc hK hDc hG⟩ rfl rfl hl.1 rfl (lv_room (Nat.le_of_ble_eq_true rfl)) dX12_splitFrame_66 ⟨Nat.zero_le _, Nat.zero_le _⟩) hS (fun q _ h => hFc q h) hFc ?_; clear hw hS; intro u t H1 locs1 ht hvm hw hB hz1 hk1 hS
        obtain ⟨x27, x28, f29, f30, f31⟩ := u
        try dsimp only at hw
        obtain ⟨hP1, -, -⟩ := hB
        rw [ht] at hP1
        replace hP := jC0 hP hD [0, 2, 1, 3] [] rfl hk1 hP1 (w_X12_splitFrame h0 h_row h_kept h_isKept h_aside h_eight h_rows h_scales h_dealt h_bytes h_heardRow h_made h_comes h_backs h_fresh cy c_thrown x27 x28 c_pairE c_pairO c_bit c_lag c_lagSum f30 f29 f31) rfl rfl rfl 4 rfl (by decide +kernel); clear hD; obtain ⟨hP, hD⟩ := hP
        replace hP : va_P (dC, dI) vwCl (w_X12_splitFrame h0 h_row h_kept h_isKept h_aside h_eight h_rows h_scales h_dealt h_bytes h_heardRow h_made h_comes h_backs h_fresh cy c_thrown x27 x28 c_pairE c_pairO c_bit c_lag c_lagSum f30 f29 f31) H1 := hP
        replace hD : va_D A (w_X12_splitFrame h0 h_row h_kept h_isKept h_aside h_eight h_rows h_scales h_dealt h_bytes h_heardRow h_made h_comes h_backs h_fresh cy c_thrown x27 x28 c_pairE c_pairO c_bit c_lag c_lagSum f30 f29 f31) := hD
        clear hPc hDc hFc hP1 hk1 hz1 hvm ht; clear t; clear H locs; obtain ⟨H, hH⟩ : ∃ H, H = H1 := ⟨_, rfl⟩; obtain ⟨locs, hlo⟩ : ∃ L, L = locs1 := ⟨_, rfl⟩; subst hH; subst hlo
        refine W.widen (k := 0) (n := 0) (Nat.le_refl 0) (Nat.le_refl 0) ?_
        refine lv_iconst (v := 0) hx hb dX12_splitFrame_69 (by decide) ?_
        refine lv_istore (lv' := [(4, .int (0 : Int32)), (3, .int x14), (2, .int x4), (0, .ref h0), (1, .int v1)]) hx hb dX12_splitFrame_70 hl (by decide) rfl ?_; clear hl; clear ls; intro ls hl
        obtain ⟨x32, e_x32⟩ : ∃ y : Int32, y = (0 : Int32) := ⟨_, rfl⟩
        replace hw := hw x32 e_x32
        replace hl : lv_has ls 5 [(4, .int x32), (3, .int x14), (2, .int x4), (0, .ref h0), (1, .int v1)] := by rw [e_x32]; exact hl
        clear e_x32
        replace hl := lv_sub (l' := [(4, .int x32), (3, .int x14), (2, .int x4), (0, .ref h0), (1, .int v1)]) hl [0, 1, 2, 3, 4] rfl
        revert hl; revert hS; revert hD; revert hP; revert ls; revert locs; revert H
        revert hw; revert f30; revert x32
        refine Lz2_gr ?_; intro g33 ih34 x35 f36 hw
        intro H locs ls hP hD hS hl
        refine lv_iload hx hb dX12_splitFrame_72 (lv_at hl 0 rfl) ?_
        refine lv_bipush (v := 8) hx hb dX12_splitFrame_74 (by decide) ?_
        refine lv_icmp_ge (tgt := 108) hx hb dX12_splitFrame_76 (by decide) (fun c37 => ?_) (fun c37 => ?_)
        · replace hw := hw.1 c37; clear c37
          clear ih34
          refine lv_iinc (v := x14 + 1) (lv' := [(3, .int (x14 + 1)), (4, .int x35), (2, .int x4), (0, .ref h0), (1, .int v1)]) hx hb dX12_splitFrame_108 hl (k := 1) rfl rfl (by decide) rfl ?_; clear hl; clear ls; intro ls hl
          refine lv_goto (tgt := 9) hx hb dX12_splitFrame_111 (by decide) ?_
          exact ih13 (x14 + 1) x27 x28 f36 f29 f31 hw H locs ls hP hD hS (lv_sub hl [0, 2, 3, 4] rfl)
        · replace hw := hw.2 c37; clear c37
          refine lv_aload_n hx hb dX12_splitFrame_79 rfl (lv_at hl 3 rfl) ?_
          refine va_get (D := (dC, dI)) (ci := 12) (v := .ref h_row) (C := RX12) (T := TX12) (N := 22) hx hb hts inX12 hown hK hP 0 rfl rfl 1 (by decide) (hts _ (List.mem_cons_of_mem _ mw_169)) (fun _ h9 => h9) rfl dX12_splitFrame_80 ?_
          refine lv_sipush (v := 493) hx hb dX12_splitFrame_83 (by decide) ?_
          refine lv_iload_n hx hb dX12_splitFrame_86 rfl (lv_at hl 2 rfl) ?_
          refine lv_iload hx hb dX12_splitFrame_87 (lv_at hl 0 rfl) ?_
          refine lv_iload_n hx hb dX12_splitFrame_89 rfl (lv_at hl 1 rfl) ?_
          have hPc := pSub (ws' := (w_X12_bandAt cy)) hP [] rfl
          have hDc := dSub (ws' := (w_X12_bandAt cy)) hD [] (by decide) rfl
          have hFc := va_free (wc := (w_X12_bandAt cy)) hD hS hA [] rfl
          refine va_calli (va_runS (As := [.int x4, .int x35, .int x14]) (rest := [.int (493 : Int32), .ref h_row]) ⟨hx, hb, hml, hown, hts⟩ (c_X12_bandAt l dC dI cy  H.size x4 x35 x14 _ hw) (va_cwS 3 hts (goodS mw_633 mw_631 mw_632 mw_5) rfl rfl rfl (by decide +kernel) ⟨Nat.le_of_ble_eq_true rfl, Nat.le_of_ble_eq_true rfl⟩) ⟨PX_blind, PX_pre hPc hK hDc hG⟩ rfl rfl hl.1 rfl (lv_room (Nat.le_of_ble_eq_true rfl)) dX12_splitFrame_90 ⟨Nat.zero_le _, Nat.zero_le _⟩) hS (fun q _ h => hFc q h) hFc ?_; clear hw hS; intro r38 _ t H1 locs1 ht hvm hw hB hz1 hk1 hS
          obtain ⟨hP1, -, -⟩ := hB
          rw [ht] at hP1
          replace hP := jC0 hP hD [] [0, 1, 2, 3] rfl hk1 hP1 (w_X12_splitFrame h0 h_row h_kept h_isKept h_aside h_eight h_rows h_scales h_dealt h_bytes h_heardRow h_made h_comes h_backs h_fresh cy c_thrown x27 x28 c_pairE c_pairO c_bit c_lag c_lagSum f36 f29 f31) rfl rfl rfl 4 rfl (by decide +kernel); clear hD; obtain ⟨hP, hD⟩ := hP
          replace hP : va_P (dC, dI) vwCl (w_X12_splitFrame h0 h_row h_kept h_isKept h_aside h_eight h_rows h_scales h_dealt h_bytes h_heardRow h_made h_comes h_backs h_fresh cy c_thrown x27 x28 c_pairE c_pairO c_bit c_lag c_lagSum f36 f29 f31) H1 := hP
          replace hD : va_D A (w_X12_splitFrame h0 h_row h_kept h_isKept h_aside h_eight h_rows h_scales h_dealt h_bytes h_heardRow h_made h_comes h_backs h_fresh cy c_thrown x27 x28 c_pairE c_pairO c_bit c_lag c_lagSum f36 f29 f31) := hD
          clear hPc hDc hFc hP1 hk1 hz1 hvm ht; clear t; clear H locs; obtain ⟨H, hH⟩ : ∃ H, H = H1 := ⟨_, rfl⟩; obtain ⟨locs, hlo⟩ : ∃ L, L = locs1 := ⟨_, rfl⟩; subst hH; subst hlo
          refine W.widen (k := 0) (n := 0) (Nat.le_refl 0) (Nat.le_refl 0) ?_
          refine lv_iadd hx hb dX12_splitFrame_93 ?_
          refine lv_aload_n hx hb dX12_splitFrame_94 rfl (lv_at hl 3 rfl) ?_
          refine va_get (D := (dC, dI)) (ci := 12) (v := .ref h_eight) (C := RX12) (T := TX12) (N := 22) hx hb hts inX12 hown hK hP 0 rfl rfl 9 (by decide) (hts _ (List.mem_cons_of_mem _ mw_174)) (fun _ h9 => h9) rfl dX12_splitFrame_95 ?_
          refine lv_iload hx hb dX12_splitFrame_98 (lv_at hl 0 rfl) ?_
          obtain ⟨h39, hw⟩ := hw
          refine xiald (k := x35.toNatClampNeg) hx hb hK hP 2 0 rfl rfl h39 rfl dX12_splitFrame_100 ?_
          obtain ⟨h40, hw⟩ := hw
          refine xiast (k := ((493 : Int32) + r38).toNatClampNeg) hx hb hK hP hD hS 1 0 rfl rfl h40 rfl dX12_splitFrame_101 ?_; clear hP hD hS; clear H locs; intro f41 e_f41 H locs hP hD hS
          replace hw := hw f41 e_f41
          clear e_f41
          replace hP : va_P (dC, dI) vwCl (w_X12_splitFrame h0 h_row h_kept h_isKept h_aside h_eight h_rows h_scales h_dealt h_bytes h_heardRow h_made h_comes h_backs h_fresh cy c_thrown x27 x28 c_pairE c_pairO c_bit c_lag c_lagSum f41 f29 f31) H := hP
          replace hD : va_D A (w_X12_splitFrame h0 h_row h_kept h_isKept h_aside h_eight h_rows h_scales h_dealt h_bytes h_heardRow h_made h_comes h_backs h_fresh cy c_thrown x27 x28 c_pairE c_pairO c_bit c_lag c_lagSum f41 f29 f31) := hD
          refine lv_iinc (v := x35 + 1) (lv' := [(4, .int (x35 + 1)), (3, .int x14), (2, .int x4), (0, .ref h0), (1, .int v1)]) hx hb dX12_splitFrame_102 hl (k := 0) rfl rfl (by decide) rfl ?_; clear hl; clear ls; intro ls hl
          refine lv_goto (tgt := 72) hx hb dX12_splitFrame_105 (by decide) ?_
          exact ih34 (x35 + 1) f41 hw H locs ls hP hD hS (lv_sub hl [0, 1, 2, 3, 4] rfl)
      · replace hw := hw.2 c26; clear c26
        refine lv_aload_n hx hb dX12_splitFrame_24 rfl (lv_at hl 3 rfl) ?_
        refine va_get (D := (dC, dI)) (ci := 12) (v := .ref h_eight) (C := RX12) (T := TX12) (N := 22) hx hb hts inX12 hown hK hP 0 rfl rfl 9 (by decide) (hts _ (List.mem_cons_of_mem _ mw_174)) (fun _ h9 => h9) rfl dX12_splitFrame_25 ?_
        refine lv_iload hx hb dX12_splitFrame_28 (lv_at hl 0 rfl) ?_
        refine lv_aload_n hx hb dX12_splitFrame_30 rfl (lv_at hl 3 rfl) ?_
        refine lv_iload_n hx hb dX12_splitFrame_31 rfl (lv_at hl 2 rfl) ?_
        refine lv_bipush (v := 32) hx hb dX12_splitFrame_32 (by decide) ?_
        refine lv_iload_n hx hb dX12_splitFrame_34 rfl (lv_at hl 4 rfl) ?_
        refine lv_imul hx hb dX12_splitFrame_35 ?_
        refine lv_bipush (v := 8) hx hb dX12_splitFrame_36 (by decide) ?_
        refine lv_iload_n hx hb dX12_splitFrame_38 rfl (lv_at hl 1 rfl) ?_
        refine lv_imul hx hb dX12_splitFrame_39 ?_
        refine lv_iadd hx hb dX12_splitFrame_40 ?_
        refine lv_iload hx hb dX12_splitFrame_41 (lv_at hl 0 rfl) ?_
        refine lv_iadd hx hb dX12_splitFrame_43 ?_
        have hPc := pSub (ws' := (w_X12_sample h0 h_row h_kept h_isKept h_aside h_eight h_rows h_scales h_dealt h_bytes h_heardRow h_made h_comes h_backs h_fresh cy c_thrown x15 x16 c_pairE c_pairO c_bit c_lag c_lagSum f17)) hP [0, 1] rfl
        have hDc := dSub (ws' := (w_X12_sample h0 h_row h_kept h_isKept h_aside h_eight h_rows h_scales h_dealt h_bytes h_heardRow h_made h_comes h_backs h_fresh cy c_thrown x15 x16 c_pairE c_pairO c_bit c_lag c_lagSum f17)) hD [0, 1] (by decide) rfl
        have hFc := va_free (wc := (w_X12_sample h0 h_row h_kept h_isKept h_aside h_eight h_rows h_scales h_dealt h_bytes h_heardRow h_made h_comes h_backs h_fresh cy c_thrown x15 x16 c_pairE c_pairO c_bit c_lag c_lagSum f17)) hD hS hA [0, 1] rfl
        refine va_calli (va_runV (As := [.int x4, .int ((((32 : Int32) * v1) + ((8 : Int32) * x14)) + x24)]) (rest := [.int x24, .ref h_eight]) ⟨hx, hb, hml, hown, hts⟩ (c_X12_sample l dC dI cy h0 h_row h_kept h_isKept h_aside h_eight h_rows h_scales h_dealt h_bytes h_heardRow h_made h_comes h_backs h_fresh H.size x4 ((((32 : Int32) * v1) + ((8 : Int32) * x14)) + x24) c_thrown x15 x16 c_pairE c_pairO c_bit c_lag c_lagSum f17 _ hw) (cwV 2 hts (goodV mw_608 mw_605 mw_606 mw_607 mw_5) rfl rfl rfl (by decide +kernel) ⟨Nat.le_of_ble_eq_true rfl, Nat.le_of_ble_eq_true rfl⟩) ⟨PX_blind, va_recv hK hPc (ci := 12) (q0 := 0) rfl rfl, PX_pre hPc hK hDc hG⟩ rfl rfl hl.1 rfl (lv_room (Nat.le_of_ble_eq_true rfl)) dX12_splitFrame_44 ⟨Nat.zero_le _, Nat.zero_le _⟩) hS (fun q _ h => hFc q h) hFc ?_; clear hw hS; intro r42 _ t H1 locs1 ht hvm hw hB hz1 hk1 hS
        obtain ⟨hP1, -, -⟩ := hB
        rw [ht] at hP1
        replace hP := jC0 hP hD [0, 1] [2, 3] rfl hk1 hP1 (w_X12_splitFrame h0 h_row h_kept h_isKept h_aside h_eight h_rows h_scales h_dealt h_bytes h_heardRow h_made h_comes h_backs h_fresh cy c_thrown x15 x16 c_pairE c_pairO c_bit c_lag c_lagSum f17 f25 f19) rfl rfl rfl 4 rfl (by decide +kernel); clear hD; obtain ⟨hP, hD⟩ := hP
        replace hP : va_P (dC, dI) vwCl (w_X12_splitFrame h0 h_row h_kept h_isKept h_aside h_eight h_rows h_scales h_dealt h_bytes h_heardRow h_made h_comes h_backs h_fresh cy c_thrown x15 x16 c_pairE c_pairO c_bit c_lag c_lagSum f17 f25 f19) H1 := hP
        replace hD : va_D A (w_X12_splitFrame h0 h_row h_kept h_isKept h_aside h_eight h_rows h_scales h_dealt h_bytes h_heardRow h_made h_comes h_backs h_fresh cy c_thrown x15 x16 c_pairE c_pairO c_bit c_lag c_lagSum f17 f25 f19) := hD
        clear hPc hDc hFc hP1 hk1 hz1 hvm ht; clear t; clear H locs; obtain ⟨H, hH⟩ : ∃ H, H = H1 := ⟨_, rfl⟩; obtain ⟨locs, hlo⟩ : ∃ L, L = locs1 := ⟨_, rfl⟩; subst hH; subst hlo
        refine W.widen (k := 0) (n := 0) (Nat.le_refl 0) (Nat.le_refl 0) ?_
        obtain ⟨h43, hw⟩ := hw
        refine xiast (k := x24.toNatClampNeg) hx hb hK hP hD hS 2 0 rfl rfl h43 rfl dX12_splitFrame_47 ?_; clear hP hD hS; clear H locs; intro f44 e_f44 H locs hP hD hS
        replace hw := hw f44 e_f44
        clear e_f44
        replace hP : va_P (dC, dI) vwCl (w_X12_splitFrame h0 h_row h_kept h_isKept h_aside h_eight h_rows h_scales h_dealt h_bytes h_heardRow h_made h_comes h_backs h_fresh cy c_thrown x15 x16 c_pairE c_pairO c_bit c_lag c_lagSum f17 f44 f19) H := hP
        replace hD : va_D A (w_X12_splitFrame h0 h_row h_kept h_isKept h_aside h_eight h_rows h_scales h_dealt h_bytes h_heardRow h_made h_comes h_backs h_fresh cy c_thrown x15 x16 c_pairE c_pairO c_bit c_lag c_lagSum f17 f44 f19) := hD
        refine lv_iinc (v := x24 + 1) (lv' := [(4, .int (x24 + 1)), (3, .int x14), (2, .int x4), (0, .ref h0), (1, .int v1)]) hx hb dX12_splitFrame_48 hl (k := 0) rfl rfl (by decide) rfl ?_; clear hl; clear ls; intro ls hl
        refine lv_goto (tgt := 17) hx hb dX12_splitFrame_51 (by decide) ?_
        exact ih23 (x24 + 1) f44 hw H locs ls hP hD hS (lv_sub hl [0, 1, 2, 3, 4] rfl)
set_option maxHeartbeats 4000000 in
set_option maxRecDepth 100000 in
theorem c_X12_middle (l : Launch) (dC : Nat → ClassId) (dI : Nat → Nat → Nat) (cy : Nat → ClassId) (sz : Nat) (v0 : Int32) (v1 : Int32) (post : Int32 → Prop) (hw : wp_X12_middle v0 v1 post) : Met l yX12_middle wsX12_middle ({ frames := 0, cells := 0, slots := 0, locals := 0 }) (PX dC dI cy [.int v0, .int v1] sz (w_X12_middle cy)) (va_Qi (fun (r : Int32) (u : Unit) => post r) (QX dC dI cy (va_A (w_X12_middle cy) sz) (fun (u : Unit) => w_X12_middle cy)) (va_A (w_X12_middle cy) sz)) 0 0 (va_A (w_X12_middle cy) sz) := by
  refine Met.ofW (cc := cX12_middle) (maxL := 2) (ret := (some .int)) (by decide) rfl ?_
  intro p e s m args below meth c s₁ B hml hv
  obtain ⟨rfl, hsz, hP, hK, hD0, hG⟩ := hv
  have hx := B.exec
  have hb := B.bytes
  have hr := B.returns
  have hts := atoms_spec (ws := wsX12_middle) B.pre
  have hown : s.vm.findClass RX12 = some m.cls := findClass_of_methodNamed B.named
  have hlocks := B.notSynchronized
  subst hsz
  have hD := hD0.self (sz := s.heap.size)
  generalize hAe : va_A (w_X12_middle cy) s.heap.size = A at hD ⊢
  have hA : ∀ q : Nat, s.heap.size ≤ q → A q := fun q h => by rw [← hAe]; exact Or.inr h
  have hS : va_S A s.heap s.heap [] := va_S.rf
  have hl := lv_entry ([.int v0, .int v1]) (n := 2) (Nat.le_of_ble_eq_true rfl)
  rw [lg_entry_eq]
  generalize (lg_sl ([.int v0, .int v1]) ++ List.replicate (2 - (lg_sl ([.int v0, .int v1])).length) Slot.unset).toArray = ls at hl ⊢
  replace hl : lv_has ls 2 [(0, .int v0), (1, .int v1)] := hl
  clear hAe hD0 B
  unfold wp_X12_middle at hw
  generalize hQe : MQ below _ _ s _ _ _ = Q0
  generalize ([.int v0, .int v1] : List Value).toArray = av at *
  obtain ⟨H, hH⟩ : ∃ H, H = s.heap := ⟨_, rfl⟩
  obtain ⟨locs, hlo⟩ : ∃ L : List Loc, L = [] := ⟨_, rfl⟩
  replace hP : va_P (dC, dI) vwCl (w_X12_middle cy) H := by rw [hH]; exact hP
  replace hS : va_S A s.heap H locs := by rw [hH, hlo]; exact hS
  suffices hgo : W p l e ({ frames := 0, cells := 0, slots := 0, locals := 0 }) s m av below meth c H locs 0 0 Q0 (F0 m 0 ls []) by rw [hH, hlo] at hgo; exact hgo
  clear hH hlo
  refine lv_iload_n hx hb dX12_middle_0 rfl (lv_at hl 0 rfl) ?_
  refine lv_iload_n hx hb dX12_middle_1 rfl (lv_at hl 1 rfl) ?_
  refine lv_iadd hx hb dX12_middle_2 ?_
  refine lv_iconst (v := 1) hx hb dX12_middle_3 (by decide) ?_
  refine lv_ishr hx hb dX12_middle_4 ?_
  subst hQe
  exact W.iret (v := (v0 + v1) >>> ((1 : Int32) &&& 31)) hx hb hr (fun t ht hW => ⟨⟨((v0 + v1) >>> ((1 : Int32) &&& 31)), (), rfl, hw, by rw [ht]; exact hP, va_K.moved hW.alike hK, hD⟩, hS.F ht⟩) hS.2.2 dX12_middle_5
set_option maxHeartbeats 4000000 in
set_option maxRecDepth 100000 in
theorem c_X12_sizes (l : Launch) (dC : Nat → ClassId) (dI : Nat → Nat → Nat) (cy : Nat → ClassId) (h0 h_row h_kept h_isKept h_aside h_eight h_rows h_scales h_dealt h_bytes h_heardRow h_made h_comes h_backs h_fresh : Nat) (sz : Nat) (v1 : Int32) (v2 : Int32) (c_thrown : Int32) (c_nodeS : Int32) (c_nodeD : Int32) (c_pairE : Int32) (c_pairO : Int32) (c_bit : Int32) (c_lag : Int32) (c_lagSum : Int32) (c_row : Nat → Int32) (post : Int32 → Prop) (hw : wp_X12_sizes v1 v2 c_row post) : Met l yX12_sizes wsX12_sizes ({ frames := 1, cells := 0, slots := 0, locals := 22 }) (PX dC dI cy [.ref h0, .int v1, .int v2] sz (w_X12_sizes h0 h_row h_kept h_isKept h_aside h_eight h_rows h_scales h_dealt h_bytes h_heardRow h_made h_comes h_backs h_fresh cy c_thrown c_nodeS c_nodeD c_pairE c_pairO c_bit c_lag c_lagSum c_row)) (va_Qi (fun (r : Int32) (u : Unit) => post r) (QX dC dI cy (va_A (w_X12_sizes h0 h_row h_kept h_isKept h_aside h_eight h_rows h_scales h_dealt h_bytes h_heardRow h_made h_comes h_backs h_fresh cy c_thrown c_nodeS c_nodeD c_pairE c_pairO c_bit c_lag c_lagSum c_row) sz) (fun (u : Unit) => w_X12_sizes h0 h_row h_kept h_isKept h_aside h_eight h_rows h_scales h_dealt h_bytes h_heardRow h_made h_comes h_backs h_fresh cy c_thrown c_nodeS c_nodeD c_pairE c_pairO c_bit c_lag c_lagSum c_row)) (va_A (w_X12_sizes h0 h_row h_kept h_isKept h_aside h_eight h_rows h_scales h_dealt h_bytes h_heardRow h_made h_comes h_backs h_fresh cy c_thrown c_nodeS c_nodeD c_pairE c_pairO c_bit c_lag c_lagSum c_row) sz)) 0 0 (va_A (w_X12_sizes h0 h_row h_kept h_isKept h_aside h_eight h_rows h_scales h_dealt h_bytes h_heardRow h_made h_comes h_backs h_fresh cy c_thrown c_nodeS c_nodeD c_pairE c_pairO c_bit c_lag c_lagSum c_row) sz) := by
  refine Met.ofW (cc := cX12_sizes) (maxL := 7) (ret := (some .int)) (by decide) rfl ?_
  intro p e s m args below meth c s₁ B hml hv
  obtain ⟨rfl, hsz, hP, hK, hD0, hG⟩ := hv
  have hx := B.exec
  have hb := B.bytes
  have hr := B.returns
  have hts := atoms_spec (ws := wsX12_sizes) B.pre
  have hown : s.vm.findClass RX12 = some m.cls := findClass_of_methodNamed B.named
  have hlocks := B.notSynchronized
  subst hsz
  have hD := hD0.self (sz := s.heap.size)
  generalize hAe : va_A (w_X12_sizes h0 h_row h_kept h_isKept h_aside h_eight h_rows h_scales h_dealt h_bytes h_heardRow h_made h_comes h_backs h_fresh cy c_thrown c_nodeS c_nodeD c_pairE c_pairO c_bit c_lag c_lagSum c_row) s.heap.size = A at hD ⊢
  have hA : ∀ q : Nat, s.heap.size ≤ q → A q := fun q h => by rw [← hAe]; exact Or.inr h
  have hS : va_S A s.heap s.heap [] := va_S.rf
  have hl := lv_entry ([.ref h0, .int v1, .int v2]) (n := 7) (Nat.le_of_ble_eq_true rfl)
  rw [lg_entry_eq]
  generalize (lg_sl ([.ref h0, .int v1, .int v2]) ++ List.replicate (7 - (lg_sl ([.ref h0, .int v1, .int v2])).length) Slot.unset).toArray = ls at hl ⊢
  replace hl : lv_has ls 7 [(0, .ref h0), (1, .int v1), (2, .int v2)] := hl
  have inX12 : ∀ w ∈ u_ws RX12 TX12 22, w ∈ wsX12_sizes := fun w h => List.mem_cons_of_mem _ (inlX12 w h)
  clear hAe hD0 B
  unfold wp_X12_sizes at hw
  generalize hQe : MQ below _ _ s _ _ _ = Q0
  generalize ([.ref h0, .int v1, .int v2] : List Value).toArray = av at *
  obtain ⟨H, hH⟩ : ∃ H, H = s.heap := ⟨_, rfl⟩
  obtain ⟨locs, hlo⟩ : ∃ L : List Loc, L = [] := ⟨_, rfl⟩
  replace hP : va_P (dC, dI) vwCl (w_X12_sizes h0 h_row h_kept h_isKept h_aside h_eight h_rows h_scales h_dealt h_bytes h_heardRow h_made h_comes h_backs h_fresh cy c_thrown c_nodeS c_nodeD c_pairE c_pairO c_bit c_lag c_lagSum c_row) H := by rw [hH]; exact hP
  replace hS : va_S A s.heap H locs := by rw [hH, hlo]; exact hS
  suffices hgo : W p l e ({ frames := 1, cells := 0, slots := 0, locals := 22 }) s m av below meth c H locs 0 0 Q0 (F0 m 0 ls []) by rw [hH, hlo] at hgo; exact hgo
  clear hH hlo
  refine lv_iconst (v := 0) hx hb dX12_sizes_0 (by decide) ?_
  refine lv_istore_n (lv' := [(3, .int (0 : Int32)), (0, .ref h0), (1, .int v1), (2, .int v2)]) hx hb dX12_sizes_1 rfl hl (by decide) rfl ?_; clear hl; clear ls; intro ls hl
  refine lv_iconst (v := 0) hx hb dX12_sizes_2 (by decide) ?_
  refine lv_istore (lv' := [(4, .int (0 : Int32)), (3, .int (0 : Int32)), (0, .ref h0), (1, .int v1), (2, .int v2)]) hx hb dX12_sizes_3 hl (by decide) rfl ?_; clear hl; clear ls; intro ls hl
  obtain ⟨x1, e_x1⟩ : ∃ y : Int32, y = (0 : Int32) := ⟨_, rfl⟩
  replace hw := hw x1 e_x1
  replace hl : lv_has ls 7 [(4, .int x1), (3, .int (0 : Int32)), (0, .ref h0), (1, .int v1), (2, .int v2)] := by rw [e_x1]; exact hl
  clear e_x1
  obtain ⟨x2, e_x2⟩ : ∃ y : Int32, y = (0 : Int32) := ⟨_, rfl⟩
  replace hw := hw x2 e_x2
  replace hl : lv_has ls 7 [(4, .int x1), (3, .int x2), (0, .ref h0), (1, .int v1), (2, .int v2)] := by rw [e_x2]; exact hl
  clear e_x2
  replace hl := lv_sub (l' := [(4, .int x1), (3, .int x2), (0, .ref h0), (1, .int v1), (2, .int v2)]) hl [0, 1, 2, 3, 4] rfl
  revert hl; revert hS; revert hD; revert hP; revert ls; revert locs; revert H
  revert hw; revert x2; revert x1
  refine Lz2_gr ?_; intro g3 ih4 x5 x6 hw
  intro H locs ls hP hD hS hl
  refine lv_iload hx hb dX12_sizes_5 (lv_at hl 0 rfl) ?_
  refine lv_iconst (v := 4) hx hb dX12_sizes_7 (by decide) ?_
  refine lv_icmp_ge (tgt := 93) hx hb dX12_sizes_8 (by decide) (fun c7 => ?_) (fun c7 => ?_)
  · replace hw := hw.1 c7; clear c7
    clear ih4
    refine lv_iload_n hx hb dX12_sizes_93 rfl (lv_at hl 1 rfl) ?_
    subst hQe
    exact W.iret (v := x6) hx hb hr (fun t ht hW => ⟨⟨x6, (), rfl, hw, by rw [ht]; exact hP, va_K.moved hW.alike hK, hD⟩, hS.F ht⟩) hS.2.2 dX12_sizes_94
  · replace hw := hw.2 c7; clear c7
    refine lv_aload_n hx hb dX12_sizes_11 rfl (lv_at hl 2 rfl) ?_
    refine va_get (D := (dC, dI)) (ci := 12) (v := .ref h_row) (C := RX12) (T := TX12) (N := 22) hx hb hts inX12 hown hK hP 0 rfl rfl 1 (by decide) (hts _ (List.mem_cons_of_mem _ mw_169)) (fun _ h9 => h9) rfl dX12_sizes_12 ?_
    refine lv_sipush (v := 493) hx hb dX12_sizes_15 (by decide) ?_
    refine lv_iconst (v := 0) hx hb dX12_sizes_18 (by decide) ?_
    refine lv_iload_n hx hb dX12_sizes_19 rfl (lv_at hl 3 rfl) ?_
    refine lv_iload hx hb dX12_sizes_20 (lv_at hl 0 rfl) ?_
    have hPc := pSub (ws' := (w_X12_bandAt cy)) hP [] rfl
    have hDc := dSub (ws' := (w_X12_bandAt cy)) hD [] (by decide) rfl
    have hFc := va_free (wc := (w_X12_bandAt cy)) hD hS hA [] rfl
    refine va_calli (va_runS (As := [.int (0 : Int32), .int v1, .int x5]) (rest := [.int (493 : Int32), .ref h_row]) ⟨hx, hb, hml, hown, hts⟩ (c_X12_bandAt l dC dI cy  H.size (0 : Int32) v1 x5 _ hw) (va_cwS 3 hts (goodS mw_633 mw_631 mw_632 mw_5) rfl rfl rfl (by decide +kernel) ⟨Nat.le_of_ble_eq_true rfl, Nat.le_of_ble_eq_true rfl⟩) ⟨PX_blind, PX_pre hPc hK hDc hG⟩ rfl rfl hl.1 rfl (lv_room (Nat.le_of_ble_eq_true rfl)) dX12_sizes_22 ⟨Nat.zero_le _, Nat.zero_le _⟩) hS (fun q _ h => hFc q h) hFc ?_; clear hw hS; intro r8 _ t H1 locs1 ht hvm hw hB hz1 hk1 hS
    obtain ⟨hP1, -, -⟩ := hB
    rw [ht] at hP1
    replace hP := jC0 hP hD [] [0, 1] rfl hk1 hP1 (w_X12_sizes h0 h_row h_kept h_isKept h_aside h_eight h_rows h_scales h_dealt h_bytes h_heardRow h_made h_comes h_backs h_fresh cy c_thrown c_nodeS c_nodeD c_pairE c_pairO c_bit c_lag c_lagSum c_row) rfl rfl rfl 2 rfl (by decide +kernel); clear hD; obtain ⟨hP, hD⟩ := hP
    replace hP : va_P (dC, dI) vwCl (w_X12_sizes h0 h_row h_kept h_isKept h_aside h_eight h_rows h_scales h_dealt h_bytes h_heardRow h_made h_comes h_backs h_fresh cy c_thrown c_nodeS c_nodeD c_pairE c_pairO c_bit c_lag c_lagSum c_row) H1 := hP
    replace hD : va_D A (w_X12_sizes h0 h_row h_kept h_isKept h_aside h_eight h_rows h_scales h_dealt h_bytes h_heardRow h_made h_comes h_backs h_fresh cy c_thrown c_nodeS c_nodeD c_pairE c_pairO c_bit c_lag c_lagSum c_row) := hD
    clear hPc hDc hFc hP1 hk1 hz1 hvm ht; clear t; clear H locs; obtain ⟨H, hH⟩ : ∃ H, H = H1 := ⟨_, rfl⟩; obtain ⟨locs, hlo⟩ : ∃ L, L = locs1 := ⟨_, rfl⟩; subst hH; subst hlo
    refine W.widen (k := 0) (n := 0) (Nat.le_refl 0) (Nat.le_refl 0) ?_
    refine lv_iadd hx hb dX12_sizes_25 ?_
    obtain ⟨h9, hw⟩ := hw
    refine xiald (k := ((493 : Int32) + r8).toNatClampNeg) hx hb hK hP 1 0 rfl rfl h9 rfl dX12_sizes_26 ?_
    refine lv_topi (fun x10 e_x10 => ?_)
    replace hw := hw x10 e_x10
    clear e_x10
    refine lv_istore (lv' := [(5, .int x10), (4, .int x5), (3, .int x6), (0, .ref h0), (1, .int v1), (2, .int v2)]) hx hb dX12_sizes_27 hl (by decide) rfl ?_; clear hl; clear ls; intro ls hl
    refine lv_aload_n hx hb dX12_sizes_29 rfl (lv_at hl 3 rfl) ?_
    refine va_get (D := (dC, dI)) (ci := 12) (v := .ref h_row) (C := RX12) (T := TX12) (N := 22) hx hb hts inX12 hown hK hP 0 rfl rfl 1 (by decide) (hts _ (List.mem_cons_of_mem _ mw_169)) (fun _ h9 => h9) rfl dX12_sizes_30 ?_
    refine lv_sipush (v := 493) hx hb dX12_sizes_33 (by decide) ?_
    refine lv_iconst (v := 1) hx hb dX12_sizes_36 (by decide) ?_
    refine lv_iload_n hx hb dX12_sizes_37 rfl (lv_at hl 4 rfl) ?_
    refine lv_iload hx hb dX12_sizes_38 (lv_at hl 1 rfl) ?_
    have hPc := pSub (ws' := (w_X12_bandAt cy)) hP [] rfl
    have hDc := dSub (ws' := (w_X12_bandAt cy)) hD [] (by decide) rfl
    have hFc := va_free (wc := (w_X12_bandAt cy)) hD hS hA [] rfl
    refine va_calli (va_runS (As := [.int (1 : Int32), .int v1, .int x5]) (rest := [.int (493 : Int32), .ref h_row]) ⟨hx, hb, hml, hown, hts⟩ (c_X12_bandAt l dC dI cy  H.size (1 : Int32) v1 x5 _ hw) (va_cwS 3 hts (goodS mw_633 mw_631 mw_632 mw_5) rfl rfl rfl (by decide +kernel) ⟨Nat.le_of_ble_eq_true rfl, Nat.le_of_ble_eq_true rfl⟩) ⟨PX_blind, PX_pre hPc hK hDc hG⟩ rfl rfl hl.1 rfl (lv_room (Nat.le_of_ble_eq_true rfl)) dX12_sizes_40 ⟨Nat.zero_le _, Nat.zero_le _⟩) hS (fun q _ h => hFc q h) hFc ?_; clear hw hS; intro r11 _ t H1 locs1 ht hvm hw hB hz1 hk1 hS
    obtain ⟨hP1, -, -⟩ := hB
    rw [ht] at hP1
    replace hP := jC0 hP hD [] [0, 1] rfl hk1 hP1 (w_X12_sizes h0 h_row h_kept h_isKept h_aside h_eight h_rows h_scales h_dealt h_bytes h_heardRow h_made h_comes h_backs h_fresh cy c_thrown c_nodeS c_nodeD c_pairE c_pairO c_bit c_lag c_lagSum c_row) rfl rfl rfl 2 rfl (by decide +kernel); clear hD; obtain ⟨hP, hD⟩ := hP
    replace hP : va_P (dC, dI) vwCl (w_X12_sizes h0 h_row h_kept h_isKept h_aside h_eight h_rows h_scales h_dealt h_bytes h_heardRow h_made h_comes h_backs h_fresh cy c_thrown c_nodeS c_nodeD c_pairE c_pairO c_bit c_lag c_lagSum c_row) H1 := hP
    replace hD : va_D A (w_X12_sizes h0 h_row h_kept h_isKept h_aside h_eight h_rows h_scales h_dealt h_bytes h_heardRow h_made h_comes h_backs h_fresh cy c_thrown c_nodeS c_nodeD c_pairE c_pairO c_bit c_lag c_lagSum c_row) := hD
    clear hPc hDc hFc hP1 hk1 hz1 hvm ht; clear t; clear H locs; obtain ⟨H, hH⟩ : ∃ H, H = H1 := ⟨_, rfl⟩; obtain ⟨locs, hlo⟩ : ∃ L, L = locs1 := ⟨_, rfl⟩; subst hH; subst hlo
    refine W.widen (k := 0) (n := 0) (Nat.le_refl 0) (Nat.le_refl 0) ?_
    refine lv_iadd hx hb dX12_sizes_43 ?_
    obtain ⟨h12, hw⟩ := hw
    refine xiald (k := ((493 : Int32) + r11).toNatClampNeg) hx hb hK hP 1 0 rfl rfl h12 rfl dX12_sizes_44 ?_
    refine lv_topi (fun x13 e_x13 => ?_)
    replace hw := hw x13 e_x13
    clear e_x13
    refine lv_istore (lv' := [(6, .int x13), (5, .int x10), (4, .int x5), (3, .int x6), (0, .ref h0), (1, .int v1), (2, .int v2)]) hx hb dX12_sizes_45 hl (by decide) rfl ?_; clear hl; clear ls; intro ls hl
    refine lv_iload_n hx hb dX12_sizes_47 rfl (lv_at hl 3 rfl) ?_
    refine lv_iload_n hx hb dX12_sizes_48 rfl (lv_at hl 6 rfl) ?_
    refine jn1 (Gg := fun (x14 : Int32) => ∀ (H : Heap) (locs : List Loc) (ls : Array Slot), va_P (dC, dI) vwCl (w_X12_sizes h0 h_row h_kept h_isKept h_aside h_eight h_rows h_scales h_dealt h_bytes h_heardRow h_made h_comes h_backs h_fresh cy c_thrown c_nodeS c_nodeD c_pairE c_pairO c_bit c_lag c_lagSum c_row) H → va_D A (w_X12_sizes h0 h_row h_kept h_isKept h_aside h_eight h_rows h_scales h_dealt h_bytes h_heardRow h_made h_comes h_backs h_fresh cy c_thrown c_nodeS c_nodeD c_pairE c_pairO c_bit c_lag c_lagSum c_row) → va_S A s.heap H locs → lv_has ls 7 [(0, .ref h0), (1, .int v1), (2, .int v2), (4, .int x5)] → W p l e { frames := 1, cells := 0, slots := 0, locals := 22 } s m av below meth c H locs 0 0 Q0 (F0 m 85 ls [.int x14, .int x6])) hw ?_ ?_ <;> clear hw
    · clear hP hD hS hl; clear H locs ls; intro x14 hw H locs ls hP hD hS hl
      refine lv_iadd hx hb dX12_sizes_85 ?_
      refine lv_topi (fun x17 e_x17 => ?_)
      replace hw := hw x17 e_x17
      clear e_x17
      refine lv_istore_n (lv' := [(3, .int x17), (0, .ref h0), (1, .int v1), (2, .int v2), (4, .int x5)]) hx hb dX12_sizes_86 rfl hl (by decide) rfl ?_; clear hl; clear ls; intro ls hl
      refine lv_iinc (v := x5 + 1) (lv' := [(4, .int (x5 + 1)), (3, .int x17), (0, .ref h0), (1, .int v1), (2, .int v2)]) hx hb dX12_sizes_87 hl (k := 4) rfl rfl (by decide) rfl ?_; clear hl; clear ls; intro ls hl
      refine lv_goto (tgt := 5) hx hb dX12_sizes_90 (by decide) ?_
      exact ih4 (x5 + 1) x17 hw H locs ls hP hD hS (lv_sub hl [0, 1, 2, 3, 4] rfl)
    · intro j16 hw
      refine lv_if_eq (tgt := 74) hx hb dX12_sizes_49 (by decide) (fun c18 => ?_) (fun c18 => ?_)
      · replace hw := hw.1 c18; clear c18
        refine lv_iload hx hb dX12_sizes_74 (lv_at hl 1 rfl) ?_
        have hPc := pSub (ws' := (w_X12_size cy)) hP [] rfl
        have hDc := dSub (ws' := (w_X12_size cy)) hD [] (by decide) rfl
        have hFc := va_free (wc := (w_X12_size cy)) hD hS hA [] rfl
        refine va_calli (va_runS (As := [.int x10]) (rest := [.int x6]) ⟨hx, hb, hml, hown, hts⟩ (c_X12_size l dC dI cy  H.size x10 _ hw) (va_cwS 1 hts (goodS mw_647 mw_645 mw_646 mw_5) rfl rfl rfl (by decide +kernel) ⟨Nat.le_of_ble_eq_true rfl, Nat.le_of_ble_eq_true rfl⟩) ⟨PX_blind, PX_pre hPc hK hDc hG⟩ rfl rfl hl.1 rfl (lv_room (Nat.le_of_ble_eq_true rfl)) dX12_sizes_76 ⟨Nat.zero_le _, Nat.zero_le _⟩) hS (fun q _ h => hFc q h) hFc ?_; clear hw hS; intro r19 _ t H1 locs1 ht hvm hw hB hz1 hk1 hS
        obtain ⟨hP1, -, -⟩ := hB
        rw [ht] at hP1
        replace hP := jC0 hP hD [] [0, 1] rfl hk1 hP1 (w_X12_sizes h0 h_row h_kept h_isKept h_aside h_eight h_rows h_scales h_dealt h_bytes h_heardRow h_made h_comes h_backs h_fresh cy c_thrown c_nodeS c_nodeD c_pairE c_pairO c_bit c_lag c_lagSum c_row) rfl rfl rfl 2 rfl (by decide +kernel); clear hD; obtain ⟨hP, hD⟩ := hP
        replace hP : va_P (dC, dI) vwCl (w_X12_sizes h0 h_row h_kept h_isKept h_aside h_eight h_rows h_scales h_dealt h_bytes h_heardRow h_made h_comes h_backs h_fresh cy c_thrown c_nodeS c_nodeD c_pairE c_pairO c_bit c_lag c_lagSum c_row) H1 := hP
        replace hD : va_D A (w_X12_sizes h0 h_row h_kept h_isKept h_aside h_eight h_rows h_scales h_dealt h_bytes h_heardRow h_made h_comes h_backs h_fresh cy c_thrown c_nodeS c_nodeD c_pairE c_pairO c_bit c_lag c_lagSum c_row) := hD
        clear hPc hDc hFc hP1 hk1 hz1 hvm ht; clear t; clear H locs; obtain ⟨H, hH⟩ : ∃ H, H = H1 := ⟨_, rfl⟩; obtain ⟨locs, hlo⟩ : ∃ L, L = locs1 := ⟨_, rfl⟩; subst hH; subst hlo
        refine W.widen (k := 0) (n := 0) (Nat.le_refl 0) (Nat.le_refl 0) ?_
        refine lv_iload hx hb dX12_sizes_79 (lv_at hl 0 rfl) ?_
        have hPc := pSub (ws' := (w_X12_size cy)) hP [] rfl
        have hDc := dSub (ws' := (w_X12_size cy)) hD [] (by decide) rfl
        have hFc := va_free (wc := (w_X12_size cy)) hD hS hA [] rfl
        refine va_calli (va_runS (As := [.int x13]) (rest := [.int r19, .int x6]) ⟨hx, hb, hml, hown, hts⟩ (c_X12_size l dC dI cy  H.size x13 _ hw) (va_cwS 1 hts (goodS mw_647 mw_645 mw_646 mw_5) rfl rfl rfl (by decide +kernel) ⟨Nat.le_of_ble_eq_true rfl, Nat.le_of_ble_eq_true rfl⟩) ⟨PX_blind, PX_pre hPc hK hDc hG⟩ rfl rfl hl.1 rfl (lv_room (Nat.le_of_ble_eq_true rfl)) dX12_sizes_81 ⟨Nat.zero_le _, Nat.zero_le _⟩) hS (fun q _ h => hFc q h) hFc ?_; clear hw hS; intro r20 _ t H1 locs1 ht hvm hw hB hz1 hk1 hS
        obtain ⟨hP1, -, -⟩ := hB
        rw [ht] at hP1
        replace hP := jC0 hP hD [] [0, 1] rfl hk1 hP1 (w_X12_sizes h0 h_row h_kept h_isKept h_aside h_eight h_rows h_scales h_dealt h_bytes h_heardRow h_made h_comes h_backs h_fresh cy c_thrown c_nodeS c_nodeD c_pairE c_pairO c_bit c_lag c_lagSum c_row) rfl rfl rfl 2 rfl (by decide +kernel); clear hD; obtain ⟨hP, hD⟩ := hP
        replace hP : va_P (dC, dI) vwCl (w_X12_sizes h0 h_row h_kept h_isKept h_aside h_eight h_rows h_scales h_dealt h_bytes h_heardRow h_made h_comes h_backs h_fresh cy c_thrown c_nodeS c_nodeD c_pairE c_pairO c_bit c_lag c_lagSum c_row) H1 := hP
        replace hD : va_D A (w_X12_sizes h0 h_row h_kept h_isKept h_aside h_eight h_rows h_scales h_dealt h_bytes h_heardRow h_made h_comes h_backs h_fresh cy c_thrown c_nodeS c_nodeD c_pairE c_pairO c_bit c_lag c_lagSum c_row) := hD
        clear hPc hDc hFc hP1 hk1 hz1 hvm ht; clear t; clear H locs; obtain ⟨H, hH⟩ : ∃ H, H = H1 := ⟨_, rfl⟩; obtain ⟨locs, hlo⟩ : ∃ L, L = locs1 := ⟨_, rfl⟩; subst hH; subst hlo
        refine W.widen (k := 0) (n := 0) (Nat.le_refl 0) (Nat.le_refl 0) ?_
        refine lv_iadd hx hb dX12_sizes_84 ?_
        exact j16 (r19 + r20) hw H locs ls hP hD hS (lv_sub hl [4, 5, 6, 2] rfl)
      · replace hw := hw.2 c18; clear c18
        refine lv_iload hx hb dX12_sizes_52 (lv_at hl 1 rfl) ?_
        refine lv_iload hx hb dX12_sizes_54 (lv_at hl 0 rfl) ?_
        have hPc := pSub (ws' := (w_X12_middle cy)) hP [] rfl
        have hDc := dSub (ws' := (w_X12_middle cy)) hD [] (by decide) rfl
        have hFc := va_free (wc := (w_X12_middle cy)) hD hS hA [] rfl
        refine va_calli (va_runS (As := [.int x10, .int x13]) (rest := [.int x6]) ⟨hx, hb, hml, hown, hts⟩ (c_X12_middle l dC dI cy  H.size x10 x13 _ hw) (va_cwS 2 hts (goodS mw_644 mw_642 mw_643 mw_5) rfl rfl rfl (by decide +kernel) ⟨Nat.le_of_ble_eq_true rfl, Nat.le_of_ble_eq_true rfl⟩) ⟨PX_blind, PX_pre hPc hK hDc hG⟩ rfl rfl hl.1 rfl (lv_room (Nat.le_of_ble_eq_true rfl)) dX12_sizes_56 ⟨Nat.zero_le _, Nat.zero_le _⟩) hS (fun q _ h => hFc q h) hFc ?_; clear hw hS; intro r21 _ t H1 locs1 ht hvm hw hB hz1 hk1 hS
        obtain ⟨hP1, -, -⟩ := hB
        rw [ht] at hP1
        replace hP := jC0 hP hD [] [0, 1] rfl hk1 hP1 (w_X12_sizes h0 h_row h_kept h_isKept h_aside h_eight h_rows h_scales h_dealt h_bytes h_heardRow h_made h_comes h_backs h_fresh cy c_thrown c_nodeS c_nodeD c_pairE c_pairO c_bit c_lag c_lagSum c_row) rfl rfl rfl 2 rfl (by decide +kernel); clear hD; obtain ⟨hP, hD⟩ := hP
        replace hP : va_P (dC, dI) vwCl (w_X12_sizes h0 h_row h_kept h_isKept h_aside h_eight h_rows h_scales h_dealt h_bytes h_heardRow h_made h_comes h_backs h_fresh cy c_thrown c_nodeS c_nodeD c_pairE c_pairO c_bit c_lag c_lagSum c_row) H1 := hP
        replace hD : va_D A (w_X12_sizes h0 h_row h_kept h_isKept h_aside h_eight h_rows h_scales h_dealt h_bytes h_heardRow h_made h_comes h_backs h_fresh cy c_thrown c_nodeS c_nodeD c_pairE c_pairO c_bit c_lag c_lagSum c_row) := hD
        clear hPc hDc hFc hP1 hk1 hz1 hvm ht; clear t; clear H locs; obtain ⟨H, hH⟩ : ∃ H, H = H1 := ⟨_, rfl⟩; obtain ⟨locs, hlo⟩ : ∃ L, L = locs1 := ⟨_, rfl⟩; subst hH; subst hlo
        refine W.widen (k := 0) (n := 0) (Nat.le_refl 0) (Nat.le_refl 0) ?_
        have hPc := pSub (ws' := (w_X12_size cy)) hP [] rfl
        have hDc := dSub (ws' := (w_X12_size cy)) hD [] (by decide) rfl
        have hFc := va_free (wc := (w_X12_size cy)) hD hS hA [] rfl
        refine va_calli (va_runS (As := [.int r21]) (rest := [.int x6]) ⟨hx, hb, hml, hown, hts⟩ (c_X12_size l dC dI cy  H.size r21 _ hw) (va_cwS 1 hts (goodS mw_647 mw_645 mw_646 mw_5) rfl rfl rfl (by decide +kernel) ⟨Nat.le_of_ble_eq_true rfl, Nat.le_of_ble_eq_true rfl⟩) ⟨PX_blind, PX_pre hPc hK hDc hG⟩ rfl rfl hl.1 rfl (lv_room (Nat.le_of_ble_eq_true rfl)) dX12_sizes_59 ⟨Nat.zero_le _, Nat.zero_le _⟩) hS (fun q _ h => hFc q h) hFc ?_; clear hw hS; intro r22 _ t H1 locs1 ht hvm hw hB hz1 hk1 hS
        obtain ⟨hP1, -, -⟩ := hB
        rw [ht] at hP1
        replace hP := jC0 hP hD [] [0, 1] rfl hk1 hP1 (w_X12_sizes h0 h_row h_kept h_isKept h_aside h_eight h_rows h_scales h_dealt h_bytes h_heardRow h_made h_comes h_backs h_fresh cy c_thrown c_nodeS c_nodeD c_pairE c_pairO c_bit c_lag c_lagSum c_row) rfl rfl rfl 2 rfl (by decide +kernel); clear hD; obtain ⟨hP, hD⟩ := hP
        replace hP : va_P (dC, dI) vwCl (w_X12_sizes h0 h_row h_kept h_isKept h_aside h_eight h_rows h_scales h_dealt h_bytes h_heardRow h_made h_comes h_backs h_fresh cy c_thrown c_nodeS c_nodeD c_pairE c_pairO c_bit c_lag c_lagSum c_row) H1 := hP
        replace hD : va_D A (w_X12_sizes h0 h_row h_kept h_isKept h_aside h_eight h_rows h_scales h_dealt h_bytes h_heardRow h_made h_comes h_backs h_fresh cy c_thrown c_nodeS c_nodeD c_pairE c_pairO c_bit c_lag c_lagSum c_row) := hD
        clear hPc hDc hFc hP1 hk1 hz1 hvm ht; clear t; clear H locs; obtain ⟨H, hH⟩ : ∃ H, H = H1 := ⟨_, rfl⟩; obtain ⟨locs, hlo⟩ : ∃ L, L = locs1 := ⟨_, rfl⟩; subst hH; subst hlo
        refine W.widen (k := 0) (n := 0) (Nat.le_refl 0) (Nat.le_refl 0) ?_
        refine lv_iload hx hb dX12_sizes_62 (lv_at hl 1 rfl) ?_
        refine lv_iload hx hb dX12_sizes_64 (lv_at hl 0 rfl) ?_
        refine lv_isub hx hb dX12_sizes_66 ?_
        have hPc := pSub (ws' := (w_X12_size cy)) hP [] rfl
        have hDc := dSub (ws' := (w_X12_size cy)) hD [] (by decide) rfl
        have hFc := va_free (wc := (w_X12_size cy)) hD hS hA [] rfl
        refine va_calli (va_runS (As := [.int (x10 - x13)]) (rest := [.int r22, .int x6]) ⟨hx, hb, hml, hown, hts⟩ (c_X12_size l dC dI cy  H.size (x10 - x13) _ hw) (va_cwS 1 hts (goodS mw_647 mw_645 mw_646 mw_5) rfl rfl rfl (by decide +kernel) ⟨Nat.le_of_ble_eq_true rfl, Nat.le_of_ble_eq_true rfl⟩) ⟨PX_blind, PX_pre hPc hK hDc hG⟩ rfl rfl hl.1 rfl (lv_room (Nat.le_of_ble_eq_true rfl)) dX12_sizes_67 ⟨Nat.zero_le _, Nat.zero_le _⟩) hS (fun q _ h => hFc q h) hFc ?_; clear hw hS; intro r23 _ t H1 locs1 ht hvm hw hB hz1 hk1 hS
        obtain ⟨hP1, -, -⟩ := hB
        rw [ht] at hP1
        replace hP := jC0 hP hD [] [0, 1] rfl hk1 hP1 (w_X12_sizes h0 h_row h_kept h_isKept h_aside h_eight h_rows h_scales h_dealt h_bytes h_heardRow h_made h_comes h_backs h_fresh cy c_thrown c_nodeS c_nodeD c_pairE c_pairO c_bit c_lag c_lagSum c_row) rfl rfl rfl 2 rfl (by decide +kernel); clear hD; obtain ⟨hP, hD⟩ := hP
        replace hP : va_P (dC, dI) vwCl (w_X12_sizes h0 h_row h_kept h_isKept h_aside h_eight h_rows h_scales h_dealt h_bytes h_heardRow h_made h_comes h_backs h_fresh cy c_thrown c_nodeS c_nodeD c_pairE c_pairO c_bit c_lag c_lagSum c_row) H1 := hP
        replace hD : va_D A (w_X12_sizes h0 h_row h_kept h_isKept h_aside h_eight h_rows h_scales h_dealt h_bytes h_heardRow h_made h_comes h_backs h_fresh cy c_thrown c_nodeS c_nodeD c_pairE c_pairO c_bit c_lag c_lagSum c_row) := hD
        clear hPc hDc hFc hP1 hk1 hz1 hvm ht; clear t; clear H locs; obtain ⟨H, hH⟩ : ∃ H, H = H1 := ⟨_, rfl⟩; obtain ⟨locs, hlo⟩ : ∃ L, L = locs1 := ⟨_, rfl⟩; subst hH; subst hlo
        refine W.widen (k := 0) (n := 0) (Nat.le_refl 0) (Nat.le_refl 0) ?_
        refine lv_iadd hx hb dX12_sizes_70 ?_
        refine lv_goto (tgt := 85) hx hb dX12_sizes_71 (by decide) ?_
        exact j16 (r22 + r23) hw H locs ls hP hD hS (lv_sub hl [4, 5, 6, 2] rfl)
set_option maxHeartbeats 4000000 in
set_option maxRecDepth 100000 in
theorem c_X12_scaleOf (l : Launch) (dC : Nat → ClassId) (dI : Nat → Nat → Nat) (cy : Nat → ClassId) (h0 h_row h_kept h_isKept h_aside h_eight h_rows h_scales h_dealt h_bytes h_heardRow h_made h_comes h_backs h_fresh : Nat) (sz : Nat) (v1 : Int32) (c_thrown : Int32) (c_nodeS : Int32) (c_nodeD : Int32) (c_pairE : Int32) (c_pairO : Int32) (c_bit : Int32) (c_lag : Int32) (c_lagSum : Int32) (c_row : Nat → Int32) (post : Int32 → Prop) (hw : wp_X12_scaleOf v1 c_row post) : Met l yX12_scaleOf wsX12_scaleOf ({ frames := 1, cells := 0, slots := 0, locals := 20 }) (PX dC dI cy [.ref h0, .int v1] sz (w_X12_scaleOf h0 h_row h_kept h_isKept h_aside h_eight h_rows h_scales h_dealt h_bytes h_heardRow h_made h_comes h_backs h_fresh cy c_thrown c_nodeS c_nodeD c_pairE c_pairO c_bit c_lag c_lagSum c_row)) (va_Qi (fun (r : Int32) (u : Unit) => post r) (QX dC dI cy (va_A (w_X12_scaleOf h0 h_row h_kept h_isKept h_aside h_eight h_rows h_scales h_dealt h_bytes h_heardRow h_made h_comes h_backs h_fresh cy c_thrown c_nodeS c_nodeD c_pairE c_pairO c_bit c_lag c_lagSum c_row) sz) (fun (u : Unit) => w_X12_scaleOf h0 h_row h_kept h_isKept h_aside h_eight h_rows h_scales h_dealt h_bytes h_heardRow h_made h_comes h_backs h_fresh cy c_thrown c_nodeS c_nodeD c_pairE c_pairO c_bit c_lag c_lagSum c_row)) (va_A (w_X12_scaleOf h0 h_row h_kept h_isKept h_aside h_eight h_rows h_scales h_dealt h_bytes h_heardRow h_made h_comes h_backs h_fresh cy c_thrown c_nodeS c_nodeD c_pairE c_pairO c_bit c_lag c_lagSum c_row) sz)) 0 0 (va_A (w_X12_scaleOf h0 h_row h_kept h_isKept h_aside h_eight h_rows h_scales h_dealt h_bytes h_heardRow h_made h_comes h_backs h_fresh cy c_thrown c_nodeS c_nodeD c_pairE c_pairO c_bit c_lag c_lagSum c_row) sz) := by
  refine Met.ofW (cc := cX12_scaleOf) (maxL := 5) (ret := (some .int)) (by decide) rfl ?_
  intro p e s m args below meth c s₁ B hml hv
  obtain ⟨rfl, hsz, hP, hK, hD0, hG⟩ := hv
  have hx := B.exec
  have hb := B.bytes
  have hr := B.returns
  have hts := atoms_spec (ws := wsX12_scaleOf) B.pre
  have hown : s.vm.findClass RX12 = some m.cls := findClass_of_methodNamed B.named
  have hlocks := B.notSynchronized
  subst hsz
  have hD := hD0.self (sz := s.heap.size)
  generalize hAe : va_A (w_X12_scaleOf h0 h_row h_kept h_isKept h_aside h_eight h_rows h_scales h_dealt h_bytes h_heardRow h_made h_comes h_backs h_fresh cy c_thrown c_nodeS c_nodeD c_pairE c_pairO c_bit c_lag c_lagSum c_row) s.heap.size = A at hD ⊢
  have hA : ∀ q : Nat, s.heap.size ≤ q → A q := fun q h => by rw [← hAe]; exact Or.inr h
  have hS : va_S A s.heap s.heap [] := va_S.rf
  have hl := lv_entry ([.ref h0, .int v1]) (n := 5) (Nat.le_of_ble_eq_true rfl)
  rw [lg_entry_eq]
  generalize (lg_sl ([.ref h0, .int v1]) ++ List.replicate (5 - (lg_sl ([.ref h0, .int v1])).length) Slot.unset).toArray = ls at hl ⊢
  replace hl : lv_has ls 5 [(0, .ref h0), (1, .int v1)] := hl
  have inX12 : ∀ w ∈ u_ws RX12 TX12 22, w ∈ wsX12_scaleOf := fun w h => List.mem_cons_of_mem _ (inlX12 w h)
  clear hAe hD0 B
  unfold wp_X12_scaleOf at hw
  generalize hQe : MQ below _ _ s _ _ _ = Q0
  generalize ([.ref h0, .int v1] : List Value).toArray = av at *
  obtain ⟨H, hH⟩ : ∃ H, H = s.heap := ⟨_, rfl⟩
  obtain ⟨locs, hlo⟩ : ∃ L : List Loc, L = [] := ⟨_, rfl⟩
  replace hP : va_P (dC, dI) vwCl (w_X12_scaleOf h0 h_row h_kept h_isKept h_aside h_eight h_rows h_scales h_dealt h_bytes h_heardRow h_made h_comes h_backs h_fresh cy c_thrown c_nodeS c_nodeD c_pairE c_pairO c_bit c_lag c_lagSum c_row) H := by rw [hH]; exact hP
  replace hS : va_S A s.heap H locs := by rw [hH, hlo]; exact hS
  suffices hgo : W p l e ({ frames := 1, cells := 0, slots := 0, locals := 20 }) s m av below meth c H locs 0 0 Q0 (F0 m 0 ls []) by rw [hH, hlo] at hgo; exact hgo
  clear hH hlo
  refine lv_iconst (v := 0) hx hb dX12_scaleOf_0 (by decide) ?_
  refine lv_istore_n (lv' := [(2, .int (0 : Int32)), (0, .ref h0), (1, .int v1)]) hx hb dX12_scaleOf_1 rfl hl (by decide) rfl ?_; clear hl; clear ls; intro ls hl
  obtain ⟨x1, e_x1⟩ : ∃ y : Int32, y = (0 : Int32) := ⟨_, rfl⟩
  replace hw := hw x1 e_x1
  replace hl : lv_has ls 5 [(2, .int x1), (0, .ref h0), (1, .int v1)] := by rw [e_x1]; exact hl
  clear e_x1
  replace hl := lv_sub (l' := [(2, .int x1), (0, .ref h0), (1, .int v1)]) hl [0, 1, 2] rfl
  revert hl; revert hS; revert hD; revert hP; revert ls; revert locs; revert H
  revert hw; revert x1
  refine Lz1_gr ?_; intro g2 ih3 x4 hw
  intro H locs ls hP hD hS hl
  refine lv_iload_n hx hb dX12_scaleOf_2 rfl (lv_at hl 0 rfl) ?_
  refine lv_bipush (v := 15) hx hb dX12_scaleOf_3 (by decide) ?_
  refine lv_icmp_ge (tgt := 71) hx hb dX12_scaleOf_5 (by decide) (fun c5 => ?_) (fun c5 => ?_)
  · replace hw := hw.1 c5; clear c5
    clear ih3
    refine lv_bipush (v := 15) hx hb dX12_scaleOf_71 (by decide) ?_
    subst hQe
    exact W.iret (v := (15 : Int32)) hx hb hr (fun t ht hW => ⟨⟨(15 : Int32), (), rfl, hw, by rw [ht]; exact hP, va_K.moved hW.alike hK, hD⟩, hS.F ht⟩) hS.2.2 dX12_scaleOf_73
  · replace hw := hw.2 c5; clear c5
    refine lv_iconst (v := 1) hx hb dX12_scaleOf_8 (by decide) ?_
    refine lv_istore_n (lv' := [(3, .int (1 : Int32)), (2, .int x4), (0, .ref h0), (1, .int v1)]) hx hb dX12_scaleOf_9 rfl hl (by decide) rfl ?_; clear hl; clear ls; intro ls hl
    refine lv_iconst (v := 0) hx hb dX12_scaleOf_10 (by decide) ?_
    refine lv_istore (lv' := [(4, .int (0 : Int32)), (3, .int (1 : Int32)), (2, .int x4), (0, .ref h0), (1, .int v1)]) hx hb dX12_scaleOf_11 hl (by decide) rfl ?_; clear hl; clear ls; intro ls hl
    obtain ⟨x6, e_x6⟩ : ∃ y : Int32, y = (0 : Int32) := ⟨_, rfl⟩
    replace hw := hw x6 e_x6
    replace hl : lv_has ls 5 [(4, .int x6), (3, .int (1 : Int32)), (2, .int x4), (0, .ref h0), (1, .int v1)] := by rw [e_x6]; exact hl
    clear e_x6
    obtain ⟨x7, e_x7⟩ : ∃ y : Int32, y = (1 : Int32) := ⟨_, rfl⟩
    replace hw := hw x7 e_x7
    replace hl : lv_has ls 5 [(4, .int x6), (3, .int x7), (2, .int x4), (0, .ref h0), (1, .int v1)] := by rw [e_x7]; exact hl
    clear e_x7
    replace hl := lv_sub (l' := [(4, .int x6), (3, .int x7), (2, .int x4), (0, .ref h0), (1, .int v1)]) hl [0, 1, 2, 3, 4] rfl
    revert hl; revert hS; revert hD; revert hP; revert ls; revert locs; revert H
    revert hw; revert x7; revert x6
    refine Lz2_gr ?_; intro g8 ih9 x10 x11 hw
    intro H locs ls hP hD hS hl
    refine lv_iload hx hb dX12_scaleOf_13 (lv_at hl 0 rfl) ?_
    refine lv_iconst (v := 4) hx hb dX12_scaleOf_15 (by decide) ?_
    refine lv_icmp_ge (tgt := 59) hx hb dX12_scaleOf_16 (by decide) (fun c12 => ?_) (fun c12 => ?_)
    · replace hw := hw.1 c12; clear c12
      clear ih9
      refine lv_iload_n hx hb dX12_scaleOf_59 rfl (lv_at hl 1 rfl) ?_
      refine lv_if_eq (tgt := 65) hx hb dX12_scaleOf_60 (by decide) (fun c13 => ?_) (fun c13 => ?_)
      · replace hw := hw.1 c13; clear c13
        refine lv_iinc (v := x4 + 1) (lv' := [(2, .int (x4 + 1)), (4, .int x10), (3, .int x11), (0, .ref h0), (1, .int v1)]) hx hb dX12_scaleOf_65 hl (k := 2) rfl rfl (by decide) rfl ?_; clear hl; clear ls; intro ls hl
        refine lv_goto (tgt := 2) hx hb dX12_scaleOf_68 (by decide) ?_
        exact ih3 (x4 + 1) hw H locs ls hP hD hS (lv_sub hl [0, 3, 4] rfl)
      · replace hw := hw.2 c13; clear c13
        clear ih3
        refine lv_iload_n hx hb dX12_scaleOf_63 rfl (lv_at hl 2 rfl) ?_
        subst hQe
        exact W.iret (v := x4) hx hb hr (fun t ht hW => ⟨⟨x4, (), rfl, hw, by rw [ht]; exact hP, va_K.moved hW.alike hK, hD⟩, hS.F ht⟩) hS.2.2 dX12_scaleOf_64
    · replace hw := hw.2 c12; clear c12
      refine lv_iload_n hx hb dX12_scaleOf_19 rfl (lv_at hl 1 rfl) ?_
      refine jn1 (Gg := fun (x14 : Int32) => ∀ (H : Heap) (locs : List Loc) (ls : Array Slot), va_P (dC, dI) vwCl (w_X12_scaleOf h0 h_row h_kept h_isKept h_aside h_eight h_rows h_scales h_dealt h_bytes h_heardRow h_made h_comes h_backs h_fresh cy c_thrown c_nodeS c_nodeD c_pairE c_pairO c_bit c_lag c_lagSum c_row) H → va_D A (w_X12_scaleOf h0 h_row h_kept h_isKept h_aside h_eight h_rows h_scales h_dealt h_bytes h_heardRow h_made h_comes h_backs h_fresh cy c_thrown c_nodeS c_nodeD c_pairE c_pairO c_bit c_lag c_lagSum c_row) → va_S A s.heap H locs → lv_has ls 5 [(0, .ref h0), (1, .int v1), (2, .int x4), (4, .int x10)] → W p l e { frames := 1, cells := 0, slots := 0, locals := 20 } s m av below meth c H locs 0 0 Q0 (F0 m 52 ls [.int x14])) hw ?_ ?_ <;> clear hw
      · clear hP hD hS hl; clear H locs ls; intro x14 hw H locs ls hP hD hS hl
        refine lv_istore_n (lv' := [(3, .int x14), (0, .ref h0), (1, .int v1), (2, .int x4), (4, .int x10)]) hx hb dX12_scaleOf_52 rfl hl (by decide) rfl ?_; clear hl; clear ls; intro ls hl
        refine lv_iinc (v := x10 + 1) (lv' := [(4, .int (x10 + 1)), (3, .int x14), (0, .ref h0), (1, .int v1), (2, .int x4)]) hx hb dX12_scaleOf_53 hl (k := 4) rfl rfl (by decide) rfl ?_; clear hl; clear ls; intro ls hl
        refine lv_goto (tgt := 13) hx hb dX12_scaleOf_56 (by decide) ?_
        exact ih9 (x10 + 1) x14 hw H locs ls hP hD hS (lv_sub hl [0, 1, 4, 2, 3] rfl)
      · intro j16 hw
        refine jn0 (Gg := ∀ (H : Heap) (locs : List Loc) (ls : Array Slot), va_P (dC, dI) vwCl (w_X12_scaleOf h0 h_row h_kept h_isKept h_aside h_eight h_rows h_scales h_dealt h_bytes h_heardRow h_made h_comes h_backs h_fresh cy c_thrown c_nodeS c_nodeD c_pairE c_pairO c_bit c_lag c_lagSum c_row) H → va_D A (w_X12_scaleOf h0 h_row h_kept h_isKept h_aside h_eight h_rows h_scales h_dealt h_bytes h_heardRow h_made h_comes h_backs h_fresh cy c_thrown c_nodeS c_nodeD c_pairE c_pairO c_bit c_lag c_lagSum c_row) → va_S A s.heap H locs → lv_has ls 5 [(0, .ref h0), (1, .int v1), (2, .int x4), (4, .int x10)] → W p l e { frames := 1, cells := 0, slots := 0, locals := 20 } s m av below meth c H locs 0 0 Q0 (F0 m 51 ls [])) hw ?_ ?_ <;> clear hw
        · clear hP hD hS hl; clear H locs ls; intro  hw H locs ls hP hD hS hl
          refine lv_iconst (v := 0) hx hb dX12_scaleOf_51 (by decide) ?_
          exact j16 (0 : Int32) hw H locs ls hP hD hS (lv_sub hl [0, 1, 2, 3] rfl)
        · intro j18 hw
          refine lv_if_eq (tgt := 51) hx hb dX12_scaleOf_20 (by decide) (fun c19 => ?_) (fun c19 => ?_)
          · replace hw := hw.1 c19; clear c19
            exact j18 hw H locs ls hP hD hS (lv_sub hl [3, 4, 2, 0] rfl)
          · replace hw := hw.2 c19; clear c19
            refine lv_aload_n hx hb dX12_scaleOf_23 rfl (lv_at hl 3 rfl) ?_
            refine va_get (D := (dC, dI)) (ci := 12) (v := .ref h_row) (C := RX12) (T := TX12) (N := 22) hx hb hts inX12 hown hK hP 0 rfl rfl 1 (by decide) (hts _ (List.mem_cons_of_mem _ mw_169)) (fun _ h9 => h9) rfl dX12_scaleOf_24 ?_
            refine lv_sipush (v := 557) hx hb dX12_scaleOf_27 (by decide) ?_
            refine lv_iconst (v := 4) hx hb dX12_scaleOf_30 (by decide) ?_
            refine lv_iload_n hx hb dX12_scaleOf_31 rfl (lv_at hl 4 rfl) ?_
            refine lv_imul hx hb dX12_scaleOf_32 ?_
            refine lv_iadd hx hb dX12_scaleOf_33 ?_
            refine lv_iload hx hb dX12_scaleOf_34 (lv_at hl 0 rfl) ?_
            refine lv_iadd hx hb dX12_scaleOf_36 ?_
            obtain ⟨h20, hw⟩ := hw
            refine xiald (k := (((557 : Int32) + ((4 : Int32) * v1)) + x10).toNatClampNeg) hx hb hK hP 1 0 rfl rfl h20 rfl dX12_scaleOf_37 ?_
            have hPc := pSub (ws' := (w_X12_size cy)) hP [] rfl
            have hDc := dSub (ws' := (w_X12_size cy)) hD [] (by decide) rfl
            have hFc := va_free (wc := (w_X12_size cy)) hD hS hA [] rfl
            refine va_calli (va_runS (As := [.int (c_row (((557 : Int32) + ((4 : Int32) * v1)) + x10).toNatClampNeg)]) (rest := []) ⟨hx, hb, hml, hown, hts⟩ (c_X12_size l dC dI cy  H.size (c_row (((557 : Int32) + ((4 : Int32) * v1)) + x10).toNatClampNeg) _ hw) (va_cwS 1 hts (goodS mw_647 mw_645 mw_646 mw_5) rfl rfl rfl (by decide +kernel) ⟨Nat.le_of_ble_eq_true rfl, Nat.le_of_ble_eq_true rfl⟩) ⟨PX_blind, PX_pre hPc hK hDc hG⟩ rfl rfl hl.1 rfl (lv_room (Nat.le_of_ble_eq_true rfl)) dX12_scaleOf_38 ⟨Nat.zero_le _, Nat.zero_le _⟩) hS (fun q _ h => hFc q h) hFc ?_; clear hw hS; intro r21 _ t H1 locs1 ht hvm hw hB hz1 hk1 hS
            obtain ⟨hP1, -, -⟩ := hB
            rw [ht] at hP1
            replace hP := jC0 hP hD [] [0, 1] rfl hk1 hP1 (w_X12_scaleOf h0 h_row h_kept h_isKept h_aside h_eight h_rows h_scales h_dealt h_bytes h_heardRow h_made h_comes h_backs h_fresh cy c_thrown c_nodeS c_nodeD c_pairE c_pairO c_bit c_lag c_lagSum c_row) rfl rfl rfl 2 rfl (by decide +kernel); clear hD; obtain ⟨hP, hD⟩ := hP
            replace hP : va_P (dC, dI) vwCl (w_X12_scaleOf h0 h_row h_kept h_isKept h_aside h_eight h_rows h_scales h_dealt h_bytes h_heardRow h_made h_comes h_backs h_fresh cy c_thrown c_nodeS c_nodeD c_pairE c_pairO c_bit c_lag c_lagSum c_row) H1 := hP
            replace hD : va_D A (w_X12_scaleOf h0 h_row h_kept h_isKept h_aside h_eight h_rows h_scales h_dealt h_bytes h_heardRow h_made h_comes h_backs h_fresh cy c_thrown c_nodeS c_nodeD c_pairE c_pairO c_bit c_lag c_lagSum c_row) := hD
            clear hPc hDc hFc hP1 hk1 hz1 hvm ht; clear t; clear H locs; obtain ⟨H, hH⟩ : ∃ H, H = H1 := ⟨_, rfl⟩; obtain ⟨locs, hlo⟩ : ∃ L, L = locs1 := ⟨_, rfl⟩; subst hH; subst hlo
            refine W.widen (k := 0) (n := 0) (Nat.le_refl 0) (Nat.le_refl 0) ?_
            refine lv_iconst (v := 1) hx hb dX12_scaleOf_41 (by decide) ?_
            refine lv_iload_n hx hb dX12_scaleOf_42 rfl (lv_at hl 2 rfl) ?_
            refine lv_ishl hx hb dX12_scaleOf_43 ?_
            refine lv_icmp_ge (tgt := 51) hx hb dX12_scaleOf_44 (by decide) (fun c22 => ?_) (fun c22 => ?_)
            · replace hw := hw.1 c22; clear c22
              exact j18 hw H locs ls hP hD hS (lv_sub hl [3, 4, 2, 0] rfl)
            · replace hw := hw.2 c22; clear c22
              refine lv_iconst (v := 1) hx hb dX12_scaleOf_47 (by decide) ?_
              refine lv_goto (tgt := 52) hx hb dX12_scaleOf_48 (by decide) ?_
              exact j16 (1 : Int32) hw H locs ls hP hD hS (lv_sub hl [3, 4, 2, 0] rfl)
set_option maxHeartbeats 4000000 in
set_option maxRecDepth 100000 in
theorem c_X12_layCoded (l : Launch) (dC : Nat → ClassId) (dI : Nat → Nat → Nat) (cy : Nat → ClassId) (h0 h_row h_kept h_isKept h_aside h_eight h_rows h_scales h_dealt h_bytes h_heardRow h_made h_comes h_backs h_fresh : Nat) (sz : Nat) (c_thrown : Int32) (c_nodeS : Int32) (c_nodeD : Int32) (c_pairE : Int32) (c_pairO : Int32) (c_bit : Int32) (c_lag : Int32) (c_lagSum : Int32) (c_row : Nat → Int32) (post : (Nat → Int32) → Prop) (hw : wp_X12_layCoded c_row post) : Met l yX12_layCoded wsX12_layCoded ({ frames := 2, cells := 0, slots := 0, locals := 48 }) (PX dC dI cy [.ref h0] sz (w_X12_layCoded h0 h_row h_kept h_isKept h_aside h_eight h_rows h_scales h_dealt h_bytes h_heardRow h_made h_comes h_backs h_fresh cy c_thrown c_nodeS c_nodeD c_pairE c_pairO c_bit c_lag c_lagSum c_row)) (va_Qv (fun (u : (Nat → Int32)) => post u) (QX dC dI cy (va_A (w_X12_layCoded h0 h_row h_kept h_isKept h_aside h_eight h_rows h_scales h_dealt h_bytes h_heardRow h_made h_comes h_backs h_fresh cy c_thrown c_nodeS c_nodeD c_pairE c_pairO c_bit c_lag c_lagSum c_row) sz) (fun (u : (Nat → Int32)) => w_X12_layCoded h0 h_row h_kept h_isKept h_aside h_eight h_rows h_scales h_dealt h_bytes h_heardRow h_made h_comes h_backs h_fresh cy c_thrown c_nodeS c_nodeD c_pairE c_pairO c_bit c_lag c_lagSum u)) (va_A (w_X12_layCoded h0 h_row h_kept h_isKept h_aside h_eight h_rows h_scales h_dealt h_bytes h_heardRow h_made h_comes h_backs h_fresh cy c_thrown c_nodeS c_nodeD c_pairE c_pairO c_bit c_lag c_lagSum c_row) sz)) 0 0 (va_A (w_X12_layCoded h0 h_row h_kept h_isKept h_aside h_eight h_rows h_scales h_dealt h_bytes h_heardRow h_made h_comes h_backs h_fresh cy c_thrown c_nodeS c_nodeD c_pairE c_pairO c_bit c_lag c_lagSum c_row) sz) := by
  refine Met.ofW (cc := cX12_layCoded) (maxL := 6) (ret := none) (by decide) rfl ?_
  intro p e s m args below meth c s₁ B hml hv
  obtain ⟨rfl, hsz, hP, hK, hD0, hG⟩ := hv
  have hx := B.exec
  have hb := B.bytes
  have hr := B.returns
  have hts := atoms_spec (ws := wsX12_layCoded) B.pre
  have hown : s.vm.findClass RX12 = some m.cls := findClass_of_methodNamed B.named
  have hlocks := B.notSynchronized
  subst hsz
  have hD := hD0.self (sz := s.heap.size)
  generalize hAe : va_A (w_X12_layCoded h0 h_row h_kept h_isKept h_aside h_eight h_rows h_scales h_dealt h_bytes h_heardRow h_made h_comes h_backs h_fresh cy c_thrown c_nodeS c_nodeD c_pairE c_pairO c_bit c_lag c_lagSum c_row) s.heap.size = A at hD ⊢
  have hA : ∀ q : Nat, s.heap.size ≤ q → A q := fun q h => by rw [← hAe]; exact Or.inr h
  have hS : va_S A s.heap s.heap [] := va_S.rf
  have hl := lv_entry ([.ref h0]) (n := 6) (Nat.le_of_ble_eq_true rfl)
  rw [lg_entry_eq]
  generalize (lg_sl ([.ref h0]) ++ List.replicate (6 - (lg_sl ([.ref h0])).length) Slot.unset).toArray = ls at hl ⊢
  replace hl : lv_has ls 6 [(0, .ref h0)] := hl
  have inX12 : ∀ w ∈ u_ws RX12 TX12 22, w ∈ wsX12_layCoded := fun w h => List.mem_cons_of_mem _ (inlX12 w h)
  clear hAe hD0 B
  unfold wp_X12_layCoded at hw
  generalize hQe : MQ below _ _ s _ _ _ = Q0
  generalize ([.ref h0] : List Value).toArray = av at *
  obtain ⟨H, hH⟩ : ∃ H, H = s.heap := ⟨_, rfl⟩
  obtain ⟨locs, hlo⟩ : ∃ L : List Loc, L = [] := ⟨_, rfl⟩
  replace hP : va_P (dC, dI) vwCl (w_X12_layCoded h0 h_row h_kept h_isKept h_aside h_eight h_rows h_scales h_dealt h_bytes h_heardRow h_made h_comes h_backs h_fresh cy c_thrown c_nodeS c_nodeD c_pairE c_pairO c_bit c_lag c_lagSum c_row) H := by rw [hH]; exact hP
  replace hS : va_S A s.heap H locs := by rw [hH, hlo]; exact hS
  suffices hgo : W p l e ({ frames := 2, cells := 0, slots := 0, locals := 48 }) s m av below meth c H locs 0 0 Q0 (F0 m 0 ls []) by rw [hH, hlo] at hgo; exact hgo
  clear hH hlo
  refine lv_aload_n hx hb dX12_layCoded_0 rfl (lv_at hl 0 rfl) ?_
  refine va_get (D := (dC, dI)) (ci := 12) (v := .ref h_row) (C := RX12) (T := TX12) (N := 22) hx hb hts inX12 hown hK hP 0 rfl rfl 1 (by decide) (hts _ (List.mem_cons_of_mem _ mw_169)) (fun _ h9 => h9) rfl dX12_layCoded_1 ?_
  refine lv_sipush (v := 653) hx hb dX12_layCoded_4 (by decide) ?_
  refine lv_iconst (v := 0) hx hb dX12_layCoded_7 (by decide) ?_
  refine xiast (k := 653) hx hb hK hP hD hS 1 0 rfl rfl (vpL 653 13385 rfl) (by decide) dX12_layCoded_8 ?_; clear hP hD hS; clear H locs; intro f2 e_f2 H locs hP hD hS
  replace hw := hw f2 e_f2
  clear e_f2
  replace hP : va_P (dC, dI) vwCl (w_X12_layCoded h0 h_row h_kept h_isKept h_aside h_eight h_rows h_scales h_dealt h_bytes h_heardRow h_made h_comes h_backs h_fresh cy c_thrown c_nodeS c_nodeD c_pairE c_pairO c_bit c_lag c_lagSum f2) H := hP
  replace hD : va_D A (w_X12_layCoded h0 h_row h_kept h_isKept h_aside h_eight h_rows h_scales h_dealt h_bytes h_heardRow h_made h_comes h_backs h_fresh cy c_thrown c_nodeS c_nodeD c_pairE c_pairO c_bit c_lag c_lagSum f2) := hD
  refine lv_iconst (v := 0) hx hb dX12_layCoded_9 (by decide) ?_
  refine lv_istore_n (lv' := [(1, .int (0 : Int32)), (0, .ref h0)]) hx hb dX12_layCoded_10 rfl hl (by decide) rfl ?_; clear hl; clear ls; intro ls hl
  obtain ⟨x3, e_x3⟩ : ∃ y : Int32, y = (0 : Int32) := ⟨_, rfl⟩
  replace hw := hw x3 e_x3
  replace hl : lv_has ls 6 [(1, .int x3), (0, .ref h0)] := by rw [e_x3]; exact hl
  clear e_x3
  replace hl := lv_sub (l' := [(1, .int x3), (0, .ref h0)]) hl [0, 1] rfl
  revert hl; revert hS; revert hD; revert hP; revert ls; revert locs; revert H
  revert hw; revert f2; revert x3
  refine Lz2_gr ?_; intro g4 ih5 x6 f7 hw
  intro H locs ls hP hD hS hl
  refine lv_iload_n hx hb dX12_layCoded_11 rfl (lv_at hl 0 rfl) ?_
  refine lv_bipush (v := 8) hx hb dX12_layCoded_12 (by decide) ?_
  refine lv_icmp_ge (tgt := 190) hx hb dX12_layCoded_14 (by decide) (fun c8 => ?_) (fun c8 => ?_)
  · replace hw := hw.1 c8; clear c8
    clear ih5
    refine lv_iconst (v := 0) hx hb dX12_layCoded_190 (by decide) ?_
    refine lv_istore_n (lv' := [(1, .int (0 : Int32)), (0, .ref h0)]) hx hb dX12_layCoded_191 rfl hl (by decide) rfl ?_; clear hl; clear ls; intro ls hl
    obtain ⟨x9, e_x9⟩ : ∃ y : Int32, y = (0 : Int32) := ⟨_, rfl⟩
    replace hw := hw x9 e_x9
    replace hl : lv_has ls 6 [(1, .int x9), (0, .ref h0)] := by rw [e_x9]; exact hl
    clear e_x9
    replace hl := lv_sub (l' := [(1, .int x9), (0, .ref h0)]) hl [0, 1] rfl
    revert hl; revert hS; revert hD; revert hP; revert ls; revert locs; revert H
    revert hw; revert f7; revert x9
    refine Lz2_gr ?_; intro g10 ih11 x12 f13 hw
    intro H locs ls hP hD hS hl
    refine lv_iload_n hx hb dX12_layCoded_192 rfl (lv_at hl 0 rfl) ?_
    refine lv_bipush (v := 16) hx hb dX12_layCoded_193 (by decide) ?_
    refine lv_icmp_ge (tgt := 219) hx hb dX12_layCoded_195 (by decide) (fun c14 => ?_) (fun c14 => ?_)
    · replace hw := hw.1 c14; clear c14
      clear ih11
      subst hQe
      exact W.vret hx hb hr (fun t ht hW => ⟨⟨f13, rfl, hw, by rw [ht]; exact hP, va_K.moved hW.alike hK, hD⟩, hS.F ht⟩) hS.2.2 dX12_layCoded_219
    · replace hw := hw.2 c14; clear c14
      refine lv_aload_n hx hb dX12_layCoded_198 rfl (lv_at hl 1 rfl) ?_
      refine va_get (D := (dC, dI)) (ci := 12) (v := .ref h_row) (C := RX12) (T := TX12) (N := 22) hx hb hts inX12 hown hK hP 0 rfl rfl 1 (by decide) (hts _ (List.mem_cons_of_mem _ mw_169)) (fun _ h9 => h9) rfl dX12_layCoded_199 ?_
      refine lv_sipush (v := 621) hx hb dX12_layCoded_202 (by decide) ?_
      refine lv_iload_n hx hb dX12_layCoded_205 rfl (lv_at hl 0 rfl) ?_
      refine lv_iadd hx hb dX12_layCoded_206 ?_
      refine lv_aload_n hx hb dX12_layCoded_207 rfl (lv_at hl 1 rfl) ?_
      refine lv_iload_n hx hb dX12_layCoded_208 rfl (lv_at hl 0 rfl) ?_
      have hPc := pSub (ws' := (w_X12_scaleOf h0 h_row h_kept h_isKept h_aside h_eight h_rows h_scales h_dealt h_bytes h_heardRow h_made h_comes h_backs h_fresh cy c_thrown c_nodeS c_nodeD c_pairE c_pairO c_bit c_lag c_lagSum f13)) hP [0, 1] rfl
      have hDc := dSub (ws' := (w_X12_scaleOf h0 h_row h_kept h_isKept h_aside h_eight h_rows h_scales h_dealt h_bytes h_heardRow h_made h_comes h_backs h_fresh cy c_thrown c_nodeS c_nodeD c_pairE c_pairO c_bit c_lag c_lagSum f13)) hD [0, 1] (by decide) rfl
      have hFc := va_free (wc := (w_X12_scaleOf h0 h_row h_kept h_isKept h_aside h_eight h_rows h_scales h_dealt h_bytes h_heardRow h_made h_comes h_backs h_fresh cy c_thrown c_nodeS c_nodeD c_pairE c_pairO c_bit c_lag c_lagSum f13)) hD hS hA [0, 1] rfl
      refine va_calli (va_runV (As := [.int x12]) (rest := [.int ((621 : Int32) + x12), .ref h_row]) ⟨hx, hb, hml, hown, hts⟩ (c_X12_scaleOf l dC dI cy h0 h_row h_kept h_isKept h_aside h_eight h_rows h_scales h_dealt h_bytes h_heardRow h_made h_comes h_backs h_fresh H.size x12 c_thrown c_nodeS c_nodeD c_pairE c_pairO c_bit c_lag c_lagSum f13 _ hw) (cwV 1 hts (goodV mw_651 mw_648 mw_649 mw_650 mw_5) rfl rfl rfl (by decide +kernel) ⟨Nat.le_of_ble_eq_true rfl, Nat.le_of_ble_eq_true rfl⟩) ⟨PX_blind, va_recv hK hPc (ci := 12) (q0 := 0) rfl rfl, PX_pre hPc hK hDc hG⟩ rfl rfl hl.1 rfl (lv_room (Nat.le_of_ble_eq_true rfl)) dX12_layCoded_209 ⟨Nat.zero_le _, Nat.zero_le _⟩) hS (fun q _ h => hFc q h) hFc ?_; clear hw hS; intro r15 _ t H1 locs1 ht hvm hw hB hz1 hk1 hS
      obtain ⟨hP1, -, -⟩ := hB
      rw [ht] at hP1
      replace hP := jC0 hP hD [0, 1] [] rfl hk1 hP1 (w_X12_layCoded h0 h_row h_kept h_isKept h_aside h_eight h_rows h_scales h_dealt h_bytes h_heardRow h_made h_comes h_backs h_fresh cy c_thrown c_nodeS c_nodeD c_pairE c_pairO c_bit c_lag c_lagSum f13) rfl rfl rfl 2 rfl (by decide +kernel); clear hD; obtain ⟨hP, hD⟩ := hP
      replace hP : va_P (dC, dI) vwCl (w_X12_layCoded h0 h_row h_kept h_isKept h_aside h_eight h_rows h_scales h_dealt h_bytes h_heardRow h_made h_comes h_backs h_fresh cy c_thrown c_nodeS c_nodeD c_pairE c_pairO c_bit c_lag c_lagSum f13) H1 := hP
      replace hD : va_D A (w_X12_layCoded h0 h_row h_kept h_isKept h_aside h_eight h_rows h_scales h_dealt h_bytes h_heardRow h_made h_comes h_backs h_fresh cy c_thrown c_nodeS c_nodeD c_pairE c_pairO c_bit c_lag c_lagSum f13) := hD
      clear hPc hDc hFc hP1 hk1 hz1 hvm ht; clear t; clear H locs; obtain ⟨H, hH⟩ : ∃ H, H = H1 := ⟨_, rfl⟩; obtain ⟨locs, hlo⟩ : ∃ L, L = locs1 := ⟨_, rfl⟩; subst hH; subst hlo
      refine W.widen (k := 0) (n := 0) (Nat.le_refl 0) (Nat.le_refl 0) ?_
      obtain ⟨h16, hw⟩ := hw
      refine xiast (k := ((621 : Int32) + x12).toNatClampNeg) hx hb hK hP hD hS 1 0 rfl rfl h16 rfl dX12_layCoded_212 ?_; clear hP hD hS; clear H locs; intro f17 e_f17 H locs hP hD hS
      replace hw := hw f17 e_f17
      clear e_f17
      replace hP : va_P (dC, dI) vwCl (w_X12_layCoded h0 h_row h_kept h_isKept h_aside h_eight h_rows h_scales h_dealt h_bytes h_heardRow h_made h_comes h_backs h_fresh cy c_thrown c_nodeS c_nodeD c_pairE c_pairO c_bit c_lag c_lagSum f17) H := hP
      replace hD : va_D A (w_X12_layCoded h0 h_row h_kept h_isKept h_aside h_eight h_rows h_scales h_dealt h_bytes h_heardRow h_made h_comes h_backs h_fresh cy c_thrown c_nodeS c_nodeD c_pairE c_pairO c_bit c_lag c_lagSum f17) := hD
      refine lv_iinc (v := x12 + 1) (lv' := [(1, .int (x12 + 1)), (0, .ref h0)]) hx hb dX12_layCoded_213 hl (k := 0) rfl rfl (by decide) rfl ?_; clear hl; clear ls; intro ls hl
      refine lv_goto (tgt := 192) hx hb dX12_layCoded_216 (by decide) ?_
      exact ih11 (x12 + 1) f17 hw H locs ls hP hD hS (lv_sub hl [0, 1] rfl)
  · replace hw := hw.2 c8; clear c8
    refine lv_iload_n hx hb dX12_layCoded_17 rfl (lv_at hl 0 rfl) ?_
    refine lv_bipush (v := 7) hx hb dX12_layCoded_18 (by decide) ?_
    refine jn1 (Gg := fun (x18 : Int32) => ∀ (H : Heap) (locs : List Loc) (ls : Array Slot), va_P (dC, dI) vwCl (w_X12_layCoded h0 h_row h_kept h_isKept h_aside h_eight h_rows h_scales h_dealt h_bytes h_heardRow h_made h_comes h_backs h_fresh cy c_thrown c_nodeS c_nodeD c_pairE c_pairO c_bit c_lag c_lagSum f7) H → va_D A (w_X12_layCoded h0 h_row h_kept h_isKept h_aside h_eight h_rows h_scales h_dealt h_bytes h_heardRow h_made h_comes h_backs h_fresh cy c_thrown c_nodeS c_nodeD c_pairE c_pairO c_bit c_lag c_lagSum f7) → va_S A s.heap H locs → lv_has ls 6 [(0, .ref h0), (1, .int x6)] → W p l e { frames := 2, cells := 0, slots := 0, locals := 48 } s m av below meth c H locs 0 0 Q0 (F0 m 54 ls [.int x18])) hw ?_ ?_ <;> clear hw
    · clear hP hD hS hl; clear H locs ls; intro x18 hw H locs ls hP hD hS hl
      refine lv_istore_n (lv' := [(2, .int x18), (0, .ref h0), (1, .int x6)]) hx hb dX12_layCoded_54 rfl hl (by decide) rfl ?_; clear hl; clear ls; intro ls hl
      refine lv_aload_n hx hb dX12_layCoded_55 rfl (lv_at hl 1 rfl) ?_
      refine va_get (D := (dC, dI)) (ci := 12) (v := .ref h_row) (C := RX12) (T := TX12) (N := 22) hx hb hts inX12 hown hK hP 0 rfl rfl 1 (by decide) (hts _ (List.mem_cons_of_mem _ mw_169)) (fun _ h9 => h9) rfl dX12_layCoded_56 ?_
      refine lv_sipush (v := 653) hx hb dX12_layCoded_59 (by decide) ?_
      refine lv_dup2_11 hx hb dX12_layCoded_62 rfl rfl ?_
      refine xiald (k := 653) hx hb hK hP 1 0 rfl rfl (vpL 653 13385 rfl) (by decide) dX12_layCoded_63 ?_
      refine lv_iload_n hx hb dX12_layCoded_64 rfl (lv_at hl 0 rfl) ?_
      refine jn1 (Gg := fun (x22 : Int32) => ∀ (H : Heap) (locs : List Loc) (ls : Array Slot), va_P (dC, dI) vwCl (w_X12_layCoded h0 h_row h_kept h_isKept h_aside h_eight h_rows h_scales h_dealt h_bytes h_heardRow h_made h_comes h_backs h_fresh cy c_thrown c_nodeS c_nodeD c_pairE c_pairO c_bit c_lag c_lagSum f7) H → va_D A (w_X12_layCoded h0 h_row h_kept h_isKept h_aside h_eight h_rows h_scales h_dealt h_bytes h_heardRow h_made h_comes h_backs h_fresh cy c_thrown c_nodeS c_nodeD c_pairE c_pairO c_bit c_lag c_lagSum f7) → va_S A s.heap H locs → lv_has ls 6 [(0, .ref h0), (1, .int x6), (2, .int x18)] → W p l e { frames := 2, cells := 0, slots := 0, locals := 48 } s m av below meth c H locs 0 0 Q0 (F0 m 75 ls [.int x22, .int (f7 653), .int (653 : Int32), .ref h_row])) hw ?_ ?_ <;> clear hw
      · clear hP hD hS hl; clear H locs ls; intro x22 hw H locs ls hP hD hS hl
        refine lv_ior hx hb dX12_layCoded_75 ?_
        refine xiast (k := 653) hx hb hK hP hD hS 1 0 rfl rfl (vpL 653 13385 rfl) (by decide) dX12_layCoded_76 ?_; clear hP hD hS; clear H locs; intro f26 e_f26 H locs hP hD hS
        replace hw := hw f26 e_f26
        clear e_f26
        replace hP : va_P (dC, dI) vwCl (w_X12_layCoded h0 h_row h_kept h_isKept h_aside h_eight h_rows h_scales h_dealt h_bytes h_heardRow h_made h_comes h_backs h_fresh cy c_thrown c_nodeS c_nodeD c_pairE c_pairO c_bit c_lag c_lagSum f26) H := hP
        replace hD : va_D A (w_X12_layCoded h0 h_row h_kept h_isKept h_aside h_eight h_rows h_scales h_dealt h_bytes h_heardRow h_made h_comes h_backs h_fresh cy c_thrown c_nodeS c_nodeD c_pairE c_pairO c_bit c_lag c_lagSum f26) := hD
        refine lv_iconst (v := 0) hx hb dX12_layCoded_77 (by decide) ?_
        refine lv_istore_n (lv' := [(3, .int (0 : Int32)), (0, .ref h0), (1, .int x6), (2, .int x18)]) hx hb dX12_layCoded_78 rfl hl (by decide) rfl ?_; clear hl; clear ls; intro ls hl
        obtain ⟨x27, e_x27⟩ : ∃ y : Int32, y = (0 : Int32) := ⟨_, rfl⟩
        replace hw := hw x27 e_x27
        replace hl : lv_has ls 6 [(3, .int x27), (0, .ref h0), (1, .int x6), (2, .int x18)] := by rw [e_x27]; exact hl
        clear e_x27
        replace hl := lv_sub (l' := [(3, .int x27), (0, .ref h0), (1, .int x6), (2, .int x18)]) hl [0, 1, 2, 3] rfl
        revert hl; revert hS; revert hD; revert hP; revert ls; revert locs; revert H
        revert hw; revert f26; revert x27
        refine Lz2_gr ?_; intro g28 ih29 x30 f31 hw
        intro H locs ls hP hD hS hl
        refine lv_iload_n hx hb dX12_layCoded_79 rfl (lv_at hl 0 rfl) ?_
        refine lv_iconst (v := 4) hx hb dX12_layCoded_80 (by decide) ?_
        refine lv_icmp_ge (tgt := 184) hx hb dX12_layCoded_81 (by decide) (fun c32 => ?_) (fun c32 => ?_)
        · replace hw := hw.1 c32; clear c32
          clear ih29
          refine lv_iinc (v := x6 + 1) (lv' := [(1, .int (x6 + 1)), (3, .int x30), (0, .ref h0), (2, .int x18)]) hx hb dX12_layCoded_184 hl (k := 2) rfl rfl (by decide) rfl ?_; clear hl; clear ls; intro ls hl
          refine lv_goto (tgt := 11) hx hb dX12_layCoded_187 (by decide) ?_
          exact ih5 (x6 + 1) f31 hw H locs ls hP hD hS (lv_sub hl [0, 2] rfl)
        · replace hw := hw.2 c32; clear c32
          refine lv_aload_n hx hb dX12_layCoded_84 rfl (lv_at hl 1 rfl) ?_
          refine va_get (D := (dC, dI)) (ci := 12) (v := .ref h_row) (C := RX12) (T := TX12) (N := 22) hx hb hts inX12 hown hK hP 0 rfl rfl 1 (by decide) (hts _ (List.mem_cons_of_mem _ mw_169)) (fun _ h9 => h9) rfl dX12_layCoded_85 ?_
          refine lv_sipush (v := 493) hx hb dX12_layCoded_88 (by decide) ?_
          refine lv_iconst (v := 0) hx hb dX12_layCoded_91 (by decide) ?_
          refine lv_iload_n hx hb dX12_layCoded_92 rfl (lv_at hl 2 rfl) ?_
          refine lv_iload_n hx hb dX12_layCoded_93 rfl (lv_at hl 0 rfl) ?_
          have hPc := pSub (ws' := (w_X12_bandAt cy)) hP [] rfl
          have hDc := dSub (ws' := (w_X12_bandAt cy)) hD [] (by decide) rfl
          have hFc := va_free (wc := (w_X12_bandAt cy)) hD hS hA [] rfl
          refine va_calli (va_runS (As := [.int (0 : Int32), .int x6, .int x30]) (rest := [.int (493 : Int32), .ref h_row]) ⟨hx, hb, hml, hown, hts⟩ (c_X12_bandAt l dC dI cy  H.size (0 : Int32) x6 x30 _ hw) (va_cwS 3 hts (goodS mw_633 mw_631 mw_632 mw_5) rfl rfl rfl (by decide +kernel) ⟨Nat.le_of_ble_eq_true rfl, Nat.le_of_ble_eq_true rfl⟩) ⟨PX_blind, PX_pre hPc hK hDc hG⟩ rfl rfl hl.1 rfl (lv_room (Nat.le_of_ble_eq_true rfl)) dX12_layCoded_94 ⟨Nat.zero_le _, Nat.zero_le _⟩) hS (fun q _ h => hFc q h) hFc ?_; clear hw hS; intro r33 _ t H1 locs1 ht hvm hw hB hz1 hk1 hS
          obtain ⟨hP1, -, -⟩ := hB
          rw [ht] at hP1
          replace hP := jC0 hP hD [] [0, 1] rfl hk1 hP1 (w_X12_layCoded h0 h_row h_kept h_isKept h_aside h_eight h_rows h_scales h_dealt h_bytes h_heardRow h_made h_comes h_backs h_fresh cy c_thrown c_nodeS c_nodeD c_pairE c_pairO c_bit c_lag c_lagSum f31) rfl rfl rfl 2 rfl (by decide +kernel); clear hD; obtain ⟨hP, hD⟩ := hP
          replace hP : va_P (dC, dI) vwCl (w_X12_layCoded h0 h_row h_kept h_isKept h_aside h_eight h_rows h_scales h_dealt h_bytes h_heardRow h_made h_comes h_backs h_fresh cy c_thrown c_nodeS c_nodeD c_pairE c_pairO c_bit c_lag c_lagSum f31) H1 := hP
          replace hD : va_D A (w_X12_layCoded h0 h_row h_kept h_isKept h_aside h_eight h_rows h_scales h_dealt h_bytes h_heardRow h_made h_comes h_backs h_fresh cy c_thrown c_nodeS c_nodeD c_pairE c_pairO c_bit c_lag c_lagSum f31) := hD
          clear hPc hDc hFc hP1 hk1 hz1 hvm ht; clear t; clear H locs; obtain ⟨H, hH⟩ : ∃ H, H = H1 := ⟨_, rfl⟩; obtain ⟨locs, hlo⟩ : ∃ L, L = locs1 := ⟨_, rfl⟩; subst hH; subst hlo
          refine W.widen (k := 0) (n := 0) (Nat.le_refl 0) (Nat.le_refl 0) ?_
          refine lv_iadd hx hb dX12_layCoded_97 ?_
          obtain ⟨h34, hw⟩ := hw
          refine xiald (k := ((493 : Int32) + r33).toNatClampNeg) hx hb hK hP 1 0 rfl rfl h34 rfl dX12_layCoded_98 ?_
          refine lv_topi (fun x35 e_x35 => ?_)
          replace hw := hw x35 e_x35
          clear e_x35
          refine lv_istore (lv' := [(4, .int x35), (3, .int x30), (0, .ref h0), (1, .int x6), (2, .int x18)]) hx hb dX12_layCoded_99 hl (by decide) rfl ?_; clear hl; clear ls; intro ls hl
          refine lv_aload_n hx hb dX12_layCoded_101 rfl (lv_at hl 2 rfl) ?_
          refine va_get (D := (dC, dI)) (ci := 12) (v := .ref h_row) (C := RX12) (T := TX12) (N := 22) hx hb hts inX12 hown hK hP 0 rfl rfl 1 (by decide) (hts _ (List.mem_cons_of_mem _ mw_169)) (fun _ h9 => h9) rfl dX12_layCoded_102 ?_
          refine lv_sipush (v := 493) hx hb dX12_layCoded_105 (by decide) ?_
          refine lv_iconst (v := 1) hx hb dX12_layCoded_108 (by decide) ?_
          refine lv_iload_n hx hb dX12_layCoded_109 rfl (lv_at hl 3 rfl) ?_
          refine lv_iload_n hx hb dX12_layCoded_110 rfl (lv_at hl 1 rfl) ?_
          have hPc := pSub (ws' := (w_X12_bandAt cy)) hP [] rfl
          have hDc := dSub (ws' := (w_X12_bandAt cy)) hD [] (by decide) rfl
          have hFc := va_free (wc := (w_X12_bandAt cy)) hD hS hA [] rfl
          refine va_calli (va_runS (As := [.int (1 : Int32), .int x6, .int x30]) (rest := [.int (493 : Int32), .ref h_row]) ⟨hx, hb, hml, hown, hts⟩ (c_X12_bandAt l dC dI cy  H.size (1 : Int32) x6 x30 _ hw) (va_cwS 3 hts (goodS mw_633 mw_631 mw_632 mw_5) rfl rfl rfl (by decide +kernel) ⟨Nat.le_of_ble_eq_true rfl, Nat.le_of_ble_eq_true rfl⟩) ⟨PX_blind, PX_pre hPc hK hDc hG⟩ rfl rfl hl.1 rfl (lv_room (Nat.le_of_ble_eq_true rfl)) dX12_layCoded_111 ⟨Nat.zero_le _, Nat.zero_le _⟩) hS (fun q _ h => hFc q h) hFc ?_; clear hw hS; intro r36 _ t H1 locs1 ht hvm hw hB hz1 hk1 hS
          obtain ⟨hP1, -, -⟩ := hB
          rw [ht] at hP1
          replace hP := jC0 hP hD [] [0, 1] rfl hk1 hP1 (w_X12_layCoded h0 h_row h_kept h_isKept h_aside h_eight h_rows h_scales h_dealt h_bytes h_heardRow h_made h_comes h_backs h_fresh cy c_thrown c_nodeS c_nodeD c_pairE c_pairO c_bit c_lag c_lagSum f31) rfl rfl rfl 2 rfl (by decide +kernel); clear hD; obtain ⟨hP, hD⟩ := hP
          replace hP : va_P (dC, dI) vwCl (w_X12_layCoded h0 h_row h_kept h_isKept h_aside h_eight h_rows h_scales h_dealt h_bytes h_heardRow h_made h_comes h_backs h_fresh cy c_thrown c_nodeS c_nodeD c_pairE c_pairO c_bit c_lag c_lagSum f31) H1 := hP
          replace hD : va_D A (w_X12_layCoded h0 h_row h_kept h_isKept h_aside h_eight h_rows h_scales h_dealt h_bytes h_heardRow h_made h_comes h_backs h_fresh cy c_thrown c_nodeS c_nodeD c_pairE c_pairO c_bit c_lag c_lagSum f31) := hD
          clear hPc hDc hFc hP1 hk1 hz1 hvm ht; clear t; clear H locs; obtain ⟨H, hH⟩ : ∃ H, H = H1 := ⟨_, rfl⟩; obtain ⟨locs, hlo⟩ : ∃ L, L = locs1 := ⟨_, rfl⟩; subst hH; subst hlo
          refine W.widen (k := 0) (n := 0) (Nat.le_refl 0) (Nat.le_refl 0) ?_
          refine lv_iadd hx hb dX12_layCoded_114 ?_
          obtain ⟨h37, hw⟩ := hw
          refine xiald (k := ((493 : Int32) + r36).toNatClampNeg) hx hb hK hP 1 0 rfl rfl h37 rfl dX12_layCoded_115 ?_
          refine lv_topi (fun x38 e_x38 => ?_)
          replace hw := hw x38 e_x38
          clear e_x38
          refine lv_istore (lv' := [(5, .int x38), (4, .int x35), (3, .int x30), (0, .ref h0), (1, .int x6), (2, .int x18)]) hx hb dX12_layCoded_116 hl (by decide) rfl ?_; clear hl; clear ls; intro ls hl
          refine lv_aload_n hx hb dX12_layCoded_118 rfl (lv_at hl 3 rfl) ?_
          refine va_get (D := (dC, dI)) (ci := 12) (v := .ref h_row) (C := RX12) (T := TX12) (N := 22) hx hb hts inX12 hown hK hP 0 rfl rfl 1 (by decide) (hts _ (List.mem_cons_of_mem _ mw_169)) (fun _ h9 => h9) rfl dX12_layCoded_119 ?_
          refine lv_sipush (v := 557) hx hb dX12_layCoded_122 (by decide) ?_
          refine lv_iconst (v := 0) hx hb dX12_layCoded_125 (by decide) ?_
          refine lv_iload_n hx hb dX12_layCoded_126 rfl (lv_at hl 4 rfl) ?_
          refine lv_iload_n hx hb dX12_layCoded_127 rfl (lv_at hl 2 rfl) ?_
          have hPc := pSub (ws' := (w_X12_bandAt cy)) hP [] rfl
          have hDc := dSub (ws' := (w_X12_bandAt cy)) hD [] (by decide) rfl
          have hFc := va_free (wc := (w_X12_bandAt cy)) hD hS hA [] rfl
          refine va_calli (va_runS (As := [.int (0 : Int32), .int x6, .int x30]) (rest := [.int (557 : Int32), .ref h_row]) ⟨hx, hb, hml, hown, hts⟩ (c_X12_bandAt l dC dI cy  H.size (0 : Int32) x6 x30 _ hw) (va_cwS 3 hts (goodS mw_633 mw_631 mw_632 mw_5) rfl rfl rfl (by decide +kernel) ⟨Nat.le_of_ble_eq_true rfl, Nat.le_of_ble_eq_true rfl⟩) ⟨PX_blind, PX_pre hPc hK hDc hG⟩ rfl rfl hl.1 rfl (lv_room (Nat.le_of_ble_eq_true rfl)) dX12_layCoded_128 ⟨Nat.zero_le _, Nat.zero_le _⟩) hS (fun q _ h => hFc q h) hFc ?_; clear hw hS; intro r39 _ t H1 locs1 ht hvm hw hB hz1 hk1 hS
          obtain ⟨hP1, -, -⟩ := hB
          rw [ht] at hP1
          replace hP := jC0 hP hD [] [0, 1] rfl hk1 hP1 (w_X12_layCoded h0 h_row h_kept h_isKept h_aside h_eight h_rows h_scales h_dealt h_bytes h_heardRow h_made h_comes h_backs h_fresh cy c_thrown c_nodeS c_nodeD c_pairE c_pairO c_bit c_lag c_lagSum f31) rfl rfl rfl 2 rfl (by decide +kernel); clear hD; obtain ⟨hP, hD⟩ := hP
          replace hP : va_P (dC, dI) vwCl (w_X12_layCoded h0 h_row h_kept h_isKept h_aside h_eight h_rows h_scales h_dealt h_bytes h_heardRow h_made h_comes h_backs h_fresh cy c_thrown c_nodeS c_nodeD c_pairE c_pairO c_bit c_lag c_lagSum f31) H1 := hP
          replace hD : va_D A (w_X12_layCoded h0 h_row h_kept h_isKept h_aside h_eight h_rows h_scales h_dealt h_bytes h_heardRow h_made h_comes h_backs h_fresh cy c_thrown c_nodeS c_nodeD c_pairE c_pairO c_bit c_lag c_lagSum f31) := hD
          clear hPc hDc hFc hP1 hk1 hz1 hvm ht; clear t; clear H locs; obtain ⟨H, hH⟩ : ∃ H, H = H1 := ⟨_, rfl⟩; obtain ⟨locs, hlo⟩ : ∃ L, L = locs1 := ⟨_, rfl⟩; subst hH; subst hlo
          refine W.widen (k := 0) (n := 0) (Nat.le_refl 0) (Nat.le_refl 0) ?_
          refine lv_iadd hx hb dX12_layCoded_131 ?_
          refine lv_iload_n hx hb dX12_layCoded_132 rfl (lv_at hl 5 rfl) ?_
          refine jn1 (Gg := fun (x40 : Int32) => ∀ (H : Heap) (locs : List Loc) (ls : Array Slot), va_P (dC, dI) vwCl (w_X12_layCoded h0 h_row h_kept h_isKept h_aside h_eight h_rows h_scales h_dealt h_bytes h_heardRow h_made h_comes h_backs h_fresh cy c_thrown c_nodeS c_nodeD c_pairE c_pairO c_bit c_lag c_lagSum f31) H → va_D A (w_X12_layCoded h0 h_row h_kept h_isKept h_aside h_eight h_rows h_scales h_dealt h_bytes h_heardRow h_made h_comes h_backs h_fresh cy c_thrown c_nodeS c_nodeD c_pairE c_pairO c_bit c_lag c_lagSum f31) → va_S A s.heap H locs → lv_has ls 6 [(0, .ref h0), (1, .int x6), (2, .int x18), (3, .int x30), (4, .int x35), (5, .int x38)] → W p l e { frames := 2, cells := 0, slots := 0, locals := 48 } s m av below meth c H locs 0 0 Q0 (F0 m 148 ls [.int x40, .int ((557 : Int32) + r39), .ref h_row])) hw ?_ ?_ <;> clear hw
          · clear hP hD hS hl; clear H locs ls; intro x40 hw H locs ls hP hD hS hl
            obtain ⟨h43, hw⟩ := hw
            refine xiast (k := ((557 : Int32) + r39).toNatClampNeg) hx hb hK hP hD hS 1 0 rfl rfl h43 rfl dX12_layCoded_148 ?_; clear hP hD hS; clear H locs; intro f44 e_f44 H locs hP hD hS
            replace hw := hw f44 e_f44
            clear e_f44
            replace hP : va_P (dC, dI) vwCl (w_X12_layCoded h0 h_row h_kept h_isKept h_aside h_eight h_rows h_scales h_dealt h_bytes h_heardRow h_made h_comes h_backs h_fresh cy c_thrown c_nodeS c_nodeD c_pairE c_pairO c_bit c_lag c_lagSum f44) H := hP
            replace hD : va_D A (w_X12_layCoded h0 h_row h_kept h_isKept h_aside h_eight h_rows h_scales h_dealt h_bytes h_heardRow h_made h_comes h_backs h_fresh cy c_thrown c_nodeS c_nodeD c_pairE c_pairO c_bit c_lag c_lagSum f44) := hD
            refine lv_aload_n hx hb dX12_layCoded_149 rfl (lv_at hl 0 rfl) ?_
            refine va_get (D := (dC, dI)) (ci := 12) (v := .ref h_row) (C := RX12) (T := TX12) (N := 22) hx hb hts inX12 hown hK hP 0 rfl rfl 1 (by decide) (hts _ (List.mem_cons_of_mem _ mw_169)) (fun _ h9 => h9) rfl dX12_layCoded_150 ?_
            refine lv_sipush (v := 557) hx hb dX12_layCoded_153 (by decide) ?_
            refine lv_iconst (v := 1) hx hb dX12_layCoded_156 (by decide) ?_
            refine lv_iload_n hx hb dX12_layCoded_157 rfl (lv_at hl 1 rfl) ?_
            refine lv_iload_n hx hb dX12_layCoded_158 rfl (lv_at hl 3 rfl) ?_
            have hPc := pSub (ws' := (w_X12_bandAt cy)) hP [] rfl
            have hDc := dSub (ws' := (w_X12_bandAt cy)) hD [] (by decide) rfl
            have hFc := va_free (wc := (w_X12_bandAt cy)) hD hS hA [] rfl
            refine va_calli (va_runS (As := [.int (1 : Int32), .int x6, .int x30]) (rest := [.int (557 : Int32), .ref h_row]) ⟨hx, hb, hml, hown, hts⟩ (c_X12_bandAt l dC dI cy  H.size (1 : Int32) x6 x30 _ hw) (va_cwS 3 hts (goodS mw_633 mw_631 mw_632 mw_5) rfl rfl rfl (by decide +kernel) ⟨Nat.le_of_ble_eq_true rfl, Nat.le_of_ble_eq_true rfl⟩) ⟨PX_blind, PX_pre hPc hK hDc hG⟩ rfl rfl hl.1 rfl (lv_room (Nat.le_of_ble_eq_true rfl)) dX12_layCoded_159 ⟨Nat.zero_le _, Nat.zero_le _⟩) hS (fun q _ h => hFc q h) hFc ?_; clear hw hS; intro r45 _ t H1 locs1 ht hvm hw hB hz1 hk1 hS
            obtain ⟨hP1, -, -⟩ := hB
            rw [ht] at hP1
            replace hP := jC0 hP hD [] [0, 1] rfl hk1 hP1 (w_X12_layCoded h0 h_row h_kept h_isKept h_aside h_eight h_rows h_scales h_dealt h_bytes h_heardRow h_made h_comes h_backs h_fresh cy c_thrown c_nodeS c_nodeD c_pairE c_pairO c_bit c_lag c_lagSum f44) rfl rfl rfl 2 rfl (by decide +kernel); clear hD; obtain ⟨hP, hD⟩ := hP
            replace hP : va_P (dC, dI) vwCl (w_X12_layCoded h0 h_row h_kept h_isKept h_aside h_eight h_rows h_scales h_dealt h_bytes h_heardRow h_made h_comes h_backs h_fresh cy c_thrown c_nodeS c_nodeD c_pairE c_pairO c_bit c_lag c_lagSum f44) H1 := hP
            replace hD : va_D A (w_X12_layCoded h0 h_row h_kept h_isKept h_aside h_eight h_rows h_scales h_dealt h_bytes h_heardRow h_made h_comes h_backs h_fresh cy c_thrown c_nodeS c_nodeD c_pairE c_pairO c_bit c_lag c_lagSum f44) := hD
            clear hPc hDc hFc hP1 hk1 hz1 hvm ht; clear t; clear H locs; obtain ⟨H, hH⟩ : ∃ H, H = H1 := ⟨_, rfl⟩; obtain ⟨locs, hlo⟩ : ∃ L, L = locs1 := ⟨_, rfl⟩; subst hH; subst hlo
            refine W.widen (k := 0) (n := 0) (Nat.le_refl 0) (Nat.le_refl 0) ?_
            refine lv_iadd hx hb dX12_layCoded_162 ?_
            refine lv_iload_n hx hb dX12_layCoded_163 rfl (lv_at hl 2 rfl) ?_
            refine jn1 (Gg := fun (x46 : Int32) => ∀ (H : Heap) (locs : List Loc) (ls : Array Slot), va_P (dC, dI) vwCl (w_X12_layCoded h0 h_row h_kept h_isKept h_aside h_eight h_rows h_scales h_dealt h_bytes h_heardRow h_made h_comes h_backs h_fresh cy c_thrown c_nodeS c_nodeD c_pairE c_pairO c_bit c_lag c_lagSum f44) H → va_D A (w_X12_layCoded h0 h_row h_kept h_isKept h_aside h_eight h_rows h_scales h_dealt h_bytes h_heardRow h_made h_comes h_backs h_fresh cy c_thrown c_nodeS c_nodeD c_pairE c_pairO c_bit c_lag c_lagSum f44) → va_S A s.heap H locs → lv_has ls 6 [(0, .ref h0), (1, .int x6), (2, .int x18), (3, .int x30)] → W p l e { frames := 2, cells := 0, slots := 0, locals := 48 } s m av below meth c H locs 0 0 Q0 (F0 m 177 ls [.int x46, .int ((557 : Int32) + r45), .ref h_row])) hw ?_ ?_ <;> clear hw
            · clear hP hD hS hl; clear H locs ls; intro x46 hw H locs ls hP hD hS hl
              obtain ⟨h49, hw⟩ := hw
              refine xiast (k := ((557 : Int32) + r45).toNatClampNeg) hx hb hK hP hD hS 1 0 rfl rfl h49 rfl dX12_layCoded_177 ?_; clear hP hD hS; clear H locs; intro f50 e_f50 H locs hP hD hS
              replace hw := hw f50 e_f50
              clear e_f50
              replace hP : va_P (dC, dI) vwCl (w_X12_layCoded h0 h_row h_kept h_isKept h_aside h_eight h_rows h_scales h_dealt h_bytes h_heardRow h_made h_comes h_backs h_fresh cy c_thrown c_nodeS c_nodeD c_pairE c_pairO c_bit c_lag c_lagSum f50) H := hP
              replace hD : va_D A (w_X12_layCoded h0 h_row h_kept h_isKept h_aside h_eight h_rows h_scales h_dealt h_bytes h_heardRow h_made h_comes h_backs h_fresh cy c_thrown c_nodeS c_nodeD c_pairE c_pairO c_bit c_lag c_lagSum f50) := hD
              refine lv_iinc (v := x30 + 1) (lv' := [(3, .int (x30 + 1)), (0, .ref h0), (1, .int x6), (2, .int x18)]) hx hb dX12_layCoded_178 hl (k := 3) rfl rfl (by decide) rfl ?_; clear hl; clear ls; intro ls hl
              refine lv_goto (tgt := 79) hx hb dX12_layCoded_181 (by decide) ?_
              exact ih29 (x30 + 1) f50 hw H locs ls hP hD hS (lv_sub hl [0, 1, 2, 3] rfl)
            · intro j48 hw
              refine lv_if_eq (tgt := 175) hx hb dX12_layCoded_164 (by decide) (fun c51 => ?_) (fun c51 => ?_)
              · replace hw := hw.1 c51; clear c51
                refine lv_iload hx hb dX12_layCoded_175 (lv_at hl 5 rfl) ?_
                exact j48 x38 hw H locs ls hP hD hS (lv_sub hl [0, 1, 2, 3] rfl)
              · replace hw := hw.2 c51; clear c51
                refine lv_iload hx hb dX12_layCoded_167 (lv_at hl 4 rfl) ?_
                refine lv_iload hx hb dX12_layCoded_169 (lv_at hl 5 rfl) ?_
                refine lv_isub hx hb dX12_layCoded_171 ?_
                refine lv_goto (tgt := 177) hx hb dX12_layCoded_172 (by decide) ?_
                exact j48 (x35 - x38) hw H locs ls hP hD hS (lv_sub hl [0, 1, 2, 3] rfl)
          · intro j42 hw
            refine lv_if_eq (tgt := 146) hx hb dX12_layCoded_133 (by decide) (fun c52 => ?_) (fun c52 => ?_)
            · replace hw := hw.1 c52; clear c52
              refine lv_iload hx hb dX12_layCoded_146 (lv_at hl 1 rfl) ?_
              exact j42 x35 hw H locs ls hP hD hS (lv_sub hl [3, 4, 5, 2, 1, 0] rfl)
            · replace hw := hw.2 c52; clear c52
              refine lv_iload hx hb dX12_layCoded_136 (lv_at hl 1 rfl) ?_
              refine lv_iload hx hb dX12_layCoded_138 (lv_at hl 0 rfl) ?_
              have hPc := pSub (ws' := (w_X12_middle cy)) hP [] rfl
              have hDc := dSub (ws' := (w_X12_middle cy)) hD [] (by decide) rfl
              have hFc := va_free (wc := (w_X12_middle cy)) hD hS hA [] rfl
              refine va_calli (va_runS (As := [.int x35, .int x38]) (rest := [.int ((557 : Int32) + r39), .ref h_row]) ⟨hx, hb, hml, hown, hts⟩ (c_X12_middle l dC dI cy  H.size x35 x38 _ hw) (va_cwS 2 hts (goodS mw_644 mw_642 mw_643 mw_5) rfl rfl rfl (by decide +kernel) ⟨Nat.le_of_ble_eq_true rfl, Nat.le_of_ble_eq_true rfl⟩) ⟨PX_blind, PX_pre hPc hK hDc hG⟩ rfl rfl hl.1 rfl (lv_room (Nat.le_of_ble_eq_true rfl)) dX12_layCoded_140 ⟨Nat.zero_le _, Nat.zero_le _⟩) hS (fun q _ h => hFc q h) hFc ?_; clear hw hS; intro r53 _ t H1 locs1 ht hvm hw hB hz1 hk1 hS
              obtain ⟨hP1, -, -⟩ := hB
              rw [ht] at hP1
              replace hP := jC0 hP hD [] [0, 1] rfl hk1 hP1 (w_X12_layCoded h0 h_row h_kept h_isKept h_aside h_eight h_rows h_scales h_dealt h_bytes h_heardRow h_made h_comes h_backs h_fresh cy c_thrown c_nodeS c_nodeD c_pairE c_pairO c_bit c_lag c_lagSum f31) rfl rfl rfl 2 rfl (by decide +kernel); clear hD; obtain ⟨hP, hD⟩ := hP
              replace hP : va_P (dC, dI) vwCl (w_X12_layCoded h0 h_row h_kept h_isKept h_aside h_eight h_rows h_scales h_dealt h_bytes h_heardRow h_made h_comes h_backs h_fresh cy c_thrown c_nodeS c_nodeD c_pairE c_pairO c_bit c_lag c_lagSum f31) H1 := hP
              replace hD : va_D A (w_X12_layCoded h0 h_row h_kept h_isKept h_aside h_eight h_rows h_scales h_dealt h_bytes h_heardRow h_made h_comes h_backs h_fresh cy c_thrown c_nodeS c_nodeD c_pairE c_pairO c_bit c_lag c_lagSum f31) := hD
              clear hPc hDc hFc hP1 hk1 hz1 hvm ht; clear t; clear H locs; obtain ⟨H, hH⟩ : ∃ H, H = H1 := ⟨_, rfl⟩; obtain ⟨locs, hlo⟩ : ∃ L, L = locs1 := ⟨_, rfl⟩; subst hH; subst hlo
              refine W.widen (k := 0) (n := 0) (Nat.le_refl 0) (Nat.le_refl 0) ?_
              refine lv_goto (tgt := 148) hx hb dX12_layCoded_143 (by decide) ?_
              exact j42 r53 hw H locs ls hP hD hS (lv_sub hl [3, 4, 5, 2, 1, 0] rfl)
      · intro j24 hw
        refine lv_if_eq (tgt := 74) hx hb dX12_layCoded_65 (by decide) (fun c54 => ?_) (fun c54 => ?_)
        · replace hw := hw.1 c54; clear c54
          refine lv_iconst (v := 0) hx hb dX12_layCoded_74 (by decide) ?_
          exact j24 (0 : Int32) hw H locs ls hP hD hS (lv_sub hl [1, 2, 0] rfl)
        · replace hw := hw.2 c54; clear c54
          refine lv_iconst (v := 1) hx hb dX12_layCoded_68 (by decide) ?_
          refine lv_iload_n hx hb dX12_layCoded_69 rfl (lv_at hl 2 rfl) ?_
          refine lv_ishl hx hb dX12_layCoded_70 ?_
          refine lv_goto (tgt := 75) hx hb dX12_layCoded_71 (by decide) ?_
          exact j24 ((1 : Int32) <<< (x6 &&& 31)) hw H locs ls hP hD hS (lv_sub hl [1, 2, 0] rfl)
    · intro j20 hw
      refine jn0 (Gg := ∀ (H : Heap) (locs : List Loc) (ls : Array Slot), va_P (dC, dI) vwCl (w_X12_layCoded h0 h_row h_kept h_isKept h_aside h_eight h_rows h_scales h_dealt h_bytes h_heardRow h_made h_comes h_backs h_fresh cy c_thrown c_nodeS c_nodeD c_pairE c_pairO c_bit c_lag c_lagSum f7) H → va_D A (w_X12_layCoded h0 h_row h_kept h_isKept h_aside h_eight h_rows h_scales h_dealt h_bytes h_heardRow h_made h_comes h_backs h_fresh cy c_thrown c_nodeS c_nodeD c_pairE c_pairO c_bit c_lag c_lagSum f7) → va_S A s.heap H locs → lv_has ls 6 [(0, .ref h0), (1, .int x6)] → W p l e { frames := 2, cells := 0, slots := 0, locals := 48 } s m av below meth c H locs 0 0 Q0 (F0 m 53 ls [])) hw ?_ ?_ <;> clear hw
      · clear hP hD hS hl; clear H locs ls; intro  hw H locs ls hP hD hS hl
        refine lv_iconst (v := 0) hx hb dX12_layCoded_53 (by decide) ?_
        exact j20 (0 : Int32) hw H locs ls hP hD hS (lv_sub hl [0, 1] rfl)
      · intro j56 hw
        refine lv_icmp_ge (tgt := 53) hx hb dX12_layCoded_20 (by decide) (fun c57 => ?_) (fun c57 => ?_)
        · replace hw := hw.1 c57; clear c57
          exact j56 hw H locs ls hP hD hS (lv_sub hl [1, 0] rfl)
        · replace hw := hw.2 c57; clear c57
          refine lv_aload_n hx hb dX12_layCoded_23 rfl (lv_at hl 1 rfl) ?_
          refine va_get (D := (dC, dI)) (ci := 12) (v := .ref h_row) (C := RX12) (T := TX12) (N := 22) hx hb hts inX12 hown hK hP 0 rfl rfl 1 (by decide) (hts _ (List.mem_cons_of_mem _ mw_169)) (fun _ h9 => h9) rfl dX12_layCoded_24 ?_
          refine lv_bipush (v := 9) hx hb dX12_layCoded_27 (by decide) ?_
          refine xiald (k := 9) hx hb hK hP 1 0 rfl rfl (vpL 9 13385 rfl) (by decide) dX12_layCoded_29 ?_
          refine lv_iconst (v := 1) hx hb dX12_layCoded_30 (by decide) ?_
          refine lv_icmp_ne (tgt := 53) hx hb dX12_layCoded_31 (by decide) (fun c59 => ?_) (fun c59 => ?_)
          · replace hw := hw.2 c59; clear c59
            exact j56 hw H locs ls hP hD hS (lv_sub hl [1, 0] rfl)
          · replace hw := hw.1 c59; clear c59
            refine lv_aload_n hx hb dX12_layCoded_34 rfl (lv_at hl 1 rfl) ?_
            refine lv_iload_n hx hb dX12_layCoded_35 rfl (lv_at hl 0 rfl) ?_
            refine lv_iconst (v := 1) hx hb dX12_layCoded_36 (by decide) ?_
            have hPc := pSub (ws' := (w_X12_sizes h0 h_row h_kept h_isKept h_aside h_eight h_rows h_scales h_dealt h_bytes h_heardRow h_made h_comes h_backs h_fresh cy c_thrown c_nodeS c_nodeD c_pairE c_pairO c_bit c_lag c_lagSum f7)) hP [0, 1] rfl
            have hDc := dSub (ws' := (w_X12_sizes h0 h_row h_kept h_isKept h_aside h_eight h_rows h_scales h_dealt h_bytes h_heardRow h_made h_comes h_backs h_fresh cy c_thrown c_nodeS c_nodeD c_pairE c_pairO c_bit c_lag c_lagSum f7)) hD [0, 1] (by decide) rfl
            have hFc := va_free (wc := (w_X12_sizes h0 h_row h_kept h_isKept h_aside h_eight h_rows h_scales h_dealt h_bytes h_heardRow h_made h_comes h_backs h_fresh cy c_thrown c_nodeS c_nodeD c_pairE c_pairO c_bit c_lag c_lagSum f7)) hD hS hA [0, 1] rfl
            refine va_calli (va_runV (As := [.int x6, .int (1 : Int32)]) (rest := []) ⟨hx, hb, hml, hown, hts⟩ (c_X12_sizes l dC dI cy h0 h_row h_kept h_isKept h_aside h_eight h_rows h_scales h_dealt h_bytes h_heardRow h_made h_comes h_backs h_fresh H.size x6 (1 : Int32) c_thrown c_nodeS c_nodeD c_pairE c_pairO c_bit c_lag c_lagSum f7 _ hw) (cwV 2 hts (goodV mw_641 mw_638 mw_639 mw_640 mw_5) rfl rfl rfl (by decide +kernel) ⟨Nat.le_of_ble_eq_true rfl, Nat.le_of_ble_eq_true rfl⟩) ⟨PX_blind, va_recv hK hPc (ci := 12) (q0 := 0) rfl rfl, PX_pre hPc hK hDc hG⟩ rfl rfl hl.1 rfl (lv_room (Nat.le_of_ble_eq_true rfl)) dX12_layCoded_37 ⟨Nat.zero_le _, Nat.zero_le _⟩) hS (fun q _ h => hFc q h) hFc ?_; clear hw hS; intro r60 _ t H1 locs1 ht hvm hw hB hz1 hk1 hS
            obtain ⟨hP1, -, -⟩ := hB
            rw [ht] at hP1
            replace hP := jC0 hP hD [0, 1] [] rfl hk1 hP1 (w_X12_layCoded h0 h_row h_kept h_isKept h_aside h_eight h_rows h_scales h_dealt h_bytes h_heardRow h_made h_comes h_backs h_fresh cy c_thrown c_nodeS c_nodeD c_pairE c_pairO c_bit c_lag c_lagSum f7) rfl rfl rfl 2 rfl (by decide +kernel); clear hD; obtain ⟨hP, hD⟩ := hP
            replace hP : va_P (dC, dI) vwCl (w_X12_layCoded h0 h_row h_kept h_isKept h_aside h_eight h_rows h_scales h_dealt h_bytes h_heardRow h_made h_comes h_backs h_fresh cy c_thrown c_nodeS c_nodeD c_pairE c_pairO c_bit c_lag c_lagSum f7) H1 := hP
            replace hD : va_D A (w_X12_layCoded h0 h_row h_kept h_isKept h_aside h_eight h_rows h_scales h_dealt h_bytes h_heardRow h_made h_comes h_backs h_fresh cy c_thrown c_nodeS c_nodeD c_pairE c_pairO c_bit c_lag c_lagSum f7) := hD
            clear hPc hDc hFc hP1 hk1 hz1 hvm ht; clear t; clear H locs; obtain ⟨H, hH⟩ : ∃ H, H = H1 := ⟨_, rfl⟩; obtain ⟨locs, hlo⟩ : ∃ L, L = locs1 := ⟨_, rfl⟩; subst hH; subst hlo
            refine W.widen (k := 0) (n := 0) (Nat.le_refl 0) (Nat.le_refl 0) ?_
            refine lv_aload_n hx hb dX12_layCoded_40 rfl (lv_at hl 1 rfl) ?_
            refine lv_iload_n hx hb dX12_layCoded_41 rfl (lv_at hl 0 rfl) ?_
            refine lv_iconst (v := 0) hx hb dX12_layCoded_42 (by decide) ?_
            have hPc := pSub (ws' := (w_X12_sizes h0 h_row h_kept h_isKept h_aside h_eight h_rows h_scales h_dealt h_bytes h_heardRow h_made h_comes h_backs h_fresh cy c_thrown c_nodeS c_nodeD c_pairE c_pairO c_bit c_lag c_lagSum f7)) hP [0, 1] rfl
            have hDc := dSub (ws' := (w_X12_sizes h0 h_row h_kept h_isKept h_aside h_eight h_rows h_scales h_dealt h_bytes h_heardRow h_made h_comes h_backs h_fresh cy c_thrown c_nodeS c_nodeD c_pairE c_pairO c_bit c_lag c_lagSum f7)) hD [0, 1] (by decide) rfl
            have hFc := va_free (wc := (w_X12_sizes h0 h_row h_kept h_isKept h_aside h_eight h_rows h_scales h_dealt h_bytes h_heardRow h_made h_comes h_backs h_fresh cy c_thrown c_nodeS c_nodeD c_pairE c_pairO c_bit c_lag c_lagSum f7)) hD hS hA [0, 1] rfl
            refine va_calli (va_runV (As := [.int x6, .int (0 : Int32)]) (rest := [.int r60]) ⟨hx, hb, hml, hown, hts⟩ (c_X12_sizes l dC dI cy h0 h_row h_kept h_isKept h_aside h_eight h_rows h_scales h_dealt h_bytes h_heardRow h_made h_comes h_backs h_fresh H.size x6 (0 : Int32) c_thrown c_nodeS c_nodeD c_pairE c_pairO c_bit c_lag c_lagSum f7 _ hw) (cwV 2 hts (goodV mw_641 mw_638 mw_639 mw_640 mw_5) rfl rfl rfl (by decide +kernel) ⟨Nat.le_of_ble_eq_true rfl, Nat.le_of_ble_eq_true rfl⟩) ⟨PX_blind, va_recv hK hPc (ci := 12) (q0 := 0) rfl rfl, PX_pre hPc hK hDc hG⟩ rfl rfl hl.1 rfl (lv_room (Nat.le_of_ble_eq_true rfl)) dX12_layCoded_43 ⟨Nat.zero_le _, Nat.zero_le _⟩) hS (fun q _ h => hFc q h) hFc ?_; clear hw hS; intro r61 _ t H1 locs1 ht hvm hw hB hz1 hk1 hS
            obtain ⟨hP1, -, -⟩ := hB
            rw [ht] at hP1
            replace hP := jC0 hP hD [0, 1] [] rfl hk1 hP1 (w_X12_layCoded h0 h_row h_kept h_isKept h_aside h_eight h_rows h_scales h_dealt h_bytes h_heardRow h_made h_comes h_backs h_fresh cy c_thrown c_nodeS c_nodeD c_pairE c_pairO c_bit c_lag c_lagSum f7) rfl rfl rfl 2 rfl (by decide +kernel); clear hD; obtain ⟨hP, hD⟩ := hP
            replace hP : va_P (dC, dI) vwCl (w_X12_layCoded h0 h_row h_kept h_isKept h_aside h_eight h_rows h_scales h_dealt h_bytes h_heardRow h_made h_comes h_backs h_fresh cy c_thrown c_nodeS c_nodeD c_pairE c_pairO c_bit c_lag c_lagSum f7) H1 := hP
            replace hD : va_D A (w_X12_layCoded h0 h_row h_kept h_isKept h_aside h_eight h_rows h_scales h_dealt h_bytes h_heardRow h_made h_comes h_backs h_fresh cy c_thrown c_nodeS c_nodeD c_pairE c_pairO c_bit c_lag c_lagSum f7) := hD
            clear hPc hDc hFc hP1 hk1 hz1 hvm ht; clear t; clear H locs; obtain ⟨H, hH⟩ : ∃ H, H = H1 := ⟨_, rfl⟩; obtain ⟨locs, hlo⟩ : ∃ L, L = locs1 := ⟨_, rfl⟩; subst hH; subst hlo
            refine W.widen (k := 0) (n := 0) (Nat.le_refl 0) (Nat.le_refl 0) ?_
            refine lv_icmp_ge (tgt := 53) hx hb dX12_layCoded_46 (by decide) (fun c62 => ?_) (fun c62 => ?_)
            · replace hw := hw.1 c62; clear c62
              exact j56 hw H locs ls hP hD hS (lv_sub hl [1, 0] rfl)
            · replace hw := hw.2 c62; clear c62
              refine lv_iconst (v := 1) hx hb dX12_layCoded_49 (by decide) ?_
              refine lv_goto (tgt := 54) hx hb dX12_layCoded_50 (by decide) ?_
              exact j20 (1 : Int32) hw H locs ls hP hD hS (lv_sub hl [1, 0] rfl)
set_option maxHeartbeats 4000000 in
set_option maxRecDepth 100000 in
theorem c_X12_needOf (l : Launch) (dC : Nat → ClassId) (dI : Nat → Nat → Nat) (cy : Nat → ClassId) (h0 h_row h_kept h_isKept h_aside h_eight h_rows h_scales h_dealt h_bytes h_heardRow h_made h_comes h_backs h_fresh : Nat) (sz : Nat) (v1 : Int32) (v2 : Int32) (c_thrown : Int32) (c_nodeS : Int32) (c_nodeD : Int32) (c_pairE : Int32) (c_pairO : Int32) (c_bit : Int32) (c_lag : Int32) (c_lagSum : Int32) (c_scales : Nat → Int32) (c_row : Nat → Int32) (post : Int32 → Prop) (hw : wp_X12_needOf v1 v2 c_scales c_row post) : Met l yX12_needOf wsX12_needOf ({ frames := 0, cells := 0, slots := 0, locals := 0 }) (PX dC dI cy [.ref h0, .int v1, .int v2] sz (w_X12_needOf h0 h_row h_kept h_isKept h_aside h_eight h_rows h_scales h_dealt h_bytes h_heardRow h_made h_comes h_backs h_fresh cy c_thrown c_nodeS c_nodeD c_pairE c_pairO c_bit c_lag c_lagSum c_scales c_row)) (va_Qi (fun (r : Int32) (u : Unit) => post r) (QX dC dI cy (va_A (w_X12_needOf h0 h_row h_kept h_isKept h_aside h_eight h_rows h_scales h_dealt h_bytes h_heardRow h_made h_comes h_backs h_fresh cy c_thrown c_nodeS c_nodeD c_pairE c_pairO c_bit c_lag c_lagSum c_scales c_row) sz) (fun (u : Unit) => w_X12_needOf h0 h_row h_kept h_isKept h_aside h_eight h_rows h_scales h_dealt h_bytes h_heardRow h_made h_comes h_backs h_fresh cy c_thrown c_nodeS c_nodeD c_pairE c_pairO c_bit c_lag c_lagSum c_scales c_row)) (va_A (w_X12_needOf h0 h_row h_kept h_isKept h_aside h_eight h_rows h_scales h_dealt h_bytes h_heardRow h_made h_comes h_backs h_fresh cy c_thrown c_nodeS c_nodeD c_pairE c_pairO c_bit c_lag c_lagSum c_scales c_row) sz)) 0 0 (va_A (w_X12_needOf h0 h_row h_kept h_isKept h_aside h_eight h_rows h_scales h_dealt h_bytes h_heardRow h_made h_comes h_backs h_fresh cy c_thrown c_nodeS c_nodeD c_pairE c_pairO c_bit c_lag c_lagSum c_scales c_row) sz) := by
  refine Met.ofW (cc := cX12_needOf) (maxL := 5) (ret := (some .int)) (by decide) rfl ?_
  intro p e s m args below meth c s₁ B hml hv
  obtain ⟨rfl, hsz, hP, hK, hD0, hG⟩ := hv
  have hx := B.exec
  have hb := B.bytes
  have hr := B.returns
  have hts := atoms_spec (ws := wsX12_needOf) B.pre
  have hown : s.vm.findClass RX12 = some m.cls := findClass_of_methodNamed B.named
  have hlocks := B.notSynchronized
  subst hsz
  have hD := hD0.self (sz := s.heap.size)
  generalize hAe : va_A (w_X12_needOf h0 h_row h_kept h_isKept h_aside h_eight h_rows h_scales h_dealt h_bytes h_heardRow h_made h_comes h_backs h_fresh cy c_thrown c_nodeS c_nodeD c_pairE c_pairO c_bit c_lag c_lagSum c_scales c_row) s.heap.size = A at hD ⊢
  have hA : ∀ q : Nat, s.heap.size ≤ q → A q := fun q h => by rw [← hAe]; exact Or.inr h
  have hS : va_S A s.heap s.heap [] := va_S.rf
  have hl := lv_entry ([.ref h0, .int v1, .int v2]) (n := 5) (Nat.le_of_ble_eq_true rfl)
  rw [lg_entry_eq]
  generalize (lg_sl ([.ref h0, .int v1, .int v2]) ++ List.replicate (5 - (lg_sl ([.ref h0, .int v1, .int v2])).length) Slot.unset).toArray = ls at hl ⊢
  replace hl : lv_has ls 5 [(0, .ref h0), (1, .int v1), (2, .int v2)] := hl
  have inX12 : ∀ w ∈ u_ws RX12 TX12 22, w ∈ wsX12_needOf := fun w h => List.mem_cons_of_mem _ (inlX12 w h)
  clear hAe hD0 B
  unfold wp_X12_needOf at hw
  generalize hQe : MQ below _ _ s _ _ _ = Q0
  generalize ([.ref h0, .int v1, .int v2] : List Value).toArray = av at *
  obtain ⟨H, hH⟩ : ∃ H, H = s.heap := ⟨_, rfl⟩
  obtain ⟨locs, hlo⟩ : ∃ L : List Loc, L = [] := ⟨_, rfl⟩
  replace hP : va_P (dC, dI) vwCl (w_X12_needOf h0 h_row h_kept h_isKept h_aside h_eight h_rows h_scales h_dealt h_bytes h_heardRow h_made h_comes h_backs h_fresh cy c_thrown c_nodeS c_nodeD c_pairE c_pairO c_bit c_lag c_lagSum c_scales c_row) H := by rw [hH]; exact hP
  replace hS : va_S A s.heap H locs := by rw [hH, hlo]; exact hS
  suffices hgo : W p l e ({ frames := 0, cells := 0, slots := 0, locals := 0 }) s m av below meth c H locs 0 0 Q0 (F0 m 0 ls []) by rw [hH, hlo] at hgo; exact hgo
  clear hH hlo
  refine lv_aload_n hx hb dX12_needOf_0 rfl (lv_at hl 0 rfl) ?_
  refine va_get (D := (dC, dI)) (ci := 12) (v := .ref h_scales) (C := RX12) (T := TX12) (N := 22) hx hb hts inX12 hown hK hP 0 rfl rfl 11 (by decide) (hts _ (List.mem_cons_of_mem _ mw_176)) (fun _ h9 => h9) rfl dX12_needOf_1 ?_
  refine lv_iload_n hx hb dX12_needOf_4 rfl (lv_at hl 1 rfl) ?_
  obtain ⟨h1, hw⟩ := hw
  refine xiald (k := v1.toNatClampNeg) hx hb hK hP 1 0 rfl rfl h1 rfl dX12_needOf_5 ?_
  refine lv_topi (fun x2 e_x2 => ?_)
  replace hw := hw x2 e_x2
  clear e_x2
  refine lv_istore_n (lv' := [(3, .int x2), (0, .ref h0), (1, .int v1), (2, .int v2)]) hx hb dX12_needOf_6 rfl hl (by decide) rfl ?_; clear hl; clear ls; intro ls hl
  refine lv_iload_n hx hb dX12_needOf_7 rfl (lv_at hl 0 rfl) ?_
  refine lv_if_eq (tgt := 15) hx hb dX12_needOf_8 (by decide) (fun c3 => ?_) (fun c3 => ?_)
  · replace hw := hw.1 c3; clear c3
    refine lv_iload_n hx hb dX12_needOf_15 rfl (lv_at hl 0 rfl) ?_
    subst hQe
    exact W.iret (v := x2) hx hb hr (fun t ht hW => ⟨⟨x2, (), rfl, hw, by rw [ht]; exact hP, va_K.moved hW.alike hK, hD⟩, hS.F ht⟩) hS.2.2 dX12_needOf_16
  · replace hw := hw.2 c3; clear c3
    refine lv_iload_n hx hb dX12_needOf_11 rfl (lv_at hl 3 rfl) ?_
    refine lv_if_ne (tgt := 17) hx hb dX12_needOf_12 (by decide) (fun c4 => ?_) (fun c4 => ?_)
    · replace hw := hw.2 c4; clear c4
      refine lv_iload_n hx hb dX12_needOf_17 rfl (lv_at hl 0 rfl) ?_
      refine lv_aload_n hx hb dX12_needOf_18 rfl (lv_at hl 1 rfl) ?_
      refine va_get (D := (dC, dI)) (ci := 12) (v := .ref h_row) (C := RX12) (T := TX12) (N := 22) hx hb hts inX12 hown hK hP 0 rfl rfl 1 (by decide) (hts _ (List.mem_cons_of_mem _ mw_169)) (fun _ h9 => h9) rfl dX12_needOf_19 ?_
      refine lv_bipush (v := 17) hx hb dX12_needOf_22 (by decide) ?_
      refine lv_iload_n hx hb dX12_needOf_24 rfl (lv_at hl 2 rfl) ?_
      refine lv_bipush (v := 8) hx hb dX12_needOf_25 (by decide) ?_
      refine lv_irem hx hb dX12_needOf_27 (by decide) ?_
      refine lv_topi (fun x5 e_x5 => ?_)
      replace hw := hw x5 e_x5
      clear e_x5
      refine lv_iadd hx hb dX12_needOf_28 ?_
      obtain ⟨h6, hw⟩ := hw
      refine xiald (k := ((17 : Int32) + x5).toNatClampNeg) hx hb hK hP 2 0 rfl rfl h6 rfl dX12_needOf_29 ?_
      refine lv_isub hx hb dX12_needOf_30 ?_
      refine lv_topi (fun x7 e_x7 => ?_)
      replace hw := hw x7 e_x7
      clear e_x7
      refine lv_istore (lv' := [(4, .int x7), (3, .int x2), (0, .ref h0), (1, .int v1), (2, .int v2)]) hx hb dX12_needOf_31 hl (by decide) rfl ?_; clear hl; clear ls; intro ls hl
      refine lv_iload hx hb dX12_needOf_33 (lv_at hl 0 rfl) ?_
      refine lv_if_le (tgt := 45) hx hb dX12_needOf_35 (by decide) (fun c8 => ?_) (fun c8 => ?_)
      · replace hw := hw.1 c8; clear c8
        refine lv_iload hx hb dX12_needOf_45 (lv_at hl 0 rfl) ?_
        subst hQe
        exact W.iret (v := x7) hx hb hr (fun t ht hW => ⟨⟨x7, (), rfl, hw, by rw [ht]; exact hP, va_K.moved hW.alike hK, hD⟩, hS.F ht⟩) hS.2.2 dX12_needOf_47
      · replace hw := hw.2 c8; clear c8
        refine lv_iload hx hb dX12_needOf_38 (lv_at hl 0 rfl) ?_
        refine lv_iconst (v := 2) hx hb dX12_needOf_40 (by decide) ?_
        refine lv_idiv hx hb dX12_needOf_41 (by decide) ?_
        refine lv_topi (fun x9 e_x9 => ?_)
        replace hw := hw x9 e_x9
        clear e_x9
        refine lv_goto (tgt := 47) hx hb dX12_needOf_42 (by decide) ?_
        subst hQe
        exact W.iret (v := x9) hx hb hr (fun t ht hW => ⟨⟨x9, (), rfl, hw, by rw [ht]; exact hP, va_K.moved hW.alike hK, hD⟩, hS.F ht⟩) hS.2.2 dX12_needOf_47
    · replace hw := hw.1 c4; clear c4
      refine lv_iload_n hx hb dX12_needOf_15 rfl (lv_at hl 0 rfl) ?_
      subst hQe
      exact W.iret (v := x2) hx hb hr (fun t ht hW => ⟨⟨x2, (), rfl, hw, by rw [ht]; exact hP, va_K.moved hW.alike hK, hD⟩, hS.F ht⟩) hS.2.2 dX12_needOf_16
set_option maxHeartbeats 4000000 in
set_option maxRecDepth 100000 in
theorem c_X12_deal (l : Launch) (dC : Nat → ClassId) (dI : Nat → Nat → Nat) (cy : Nat → ClassId) (h0 h_row h_kept h_isKept h_aside h_eight h_rows h_scales h_dealt h_bytes h_heardRow h_made h_comes h_backs h_fresh : Nat) (sz : Nat) (v1 : Int32) (v2 : Int32) (c_thrown : Int32) (c_nodeS : Int32) (c_nodeD : Int32) (c_pairE : Int32) (c_pairO : Int32) (c_bit : Int32) (c_lag : Int32) (c_lagSum : Int32) (c_dealt : Nat → Int32) (c_scales : Nat → Int32) (c_row : Nat → Int32) (post : (Nat → Int32) → Prop) (hw : wp_X12_deal v1 v2 c_dealt c_scales c_row post) : Met l yX12_deal wsX12_deal ({ frames := 1, cells := 0, slots := 0, locals := 24 }) (PX dC dI cy [.ref h0, .int v1, .int v2] sz (w_X12_deal h0 h_row h_kept h_isKept h_aside h_eight h_rows h_scales h_dealt h_bytes h_heardRow h_made h_comes h_backs h_fresh cy c_thrown c_nodeS c_nodeD c_pairE c_pairO c_bit c_lag c_lagSum c_dealt c_scales c_row)) (va_Qv (fun (u : (Nat → Int32)) => post u) (QX dC dI cy (va_A (w_X12_deal h0 h_row h_kept h_isKept h_aside h_eight h_rows h_scales h_dealt h_bytes h_heardRow h_made h_comes h_backs h_fresh cy c_thrown c_nodeS c_nodeD c_pairE c_pairO c_bit c_lag c_lagSum c_dealt c_scales c_row) sz) (fun (u : (Nat → Int32)) => w_X12_deal h0 h_row h_kept h_isKept h_aside h_eight h_rows h_scales h_dealt h_bytes h_heardRow h_made h_comes h_backs h_fresh cy c_thrown c_nodeS c_nodeD c_pairE c_pairO c_bit c_lag c_lagSum u c_scales c_row)) (va_A (w_X12_deal h0 h_row h_kept h_isKept h_aside h_eight h_rows h_scales h_dealt h_bytes h_heardRow h_made h_comes h_backs h_fresh cy c_thrown c_nodeS c_nodeD c_pairE c_pairO c_bit c_lag c_lagSum c_dealt c_scales c_row) sz)) 0 0 (va_A (w_X12_deal h0 h_row h_kept h_isKept h_aside h_eight h_rows h_scales h_dealt h_bytes h_heardRow h_made h_comes h_backs h_fresh cy c_thrown c_nodeS c_nodeD c_pairE c_pairO c_bit c_lag c_lagSum c_dealt c_scales c_row) sz) := by
  refine Met.ofW (cc := cX12_deal) (maxL := 9) (ret := none) (by decide) rfl ?_
  intro p e s m args below meth c s₁ B hml hv
  obtain ⟨rfl, hsz, hP, hK, hD0, hG⟩ := hv
  have hx := B.exec
  have hb := B.bytes
  have hr := B.returns
  have hts := atoms_spec (ws := wsX12_deal) B.pre
  have hown : s.vm.findClass RX12 = some m.cls := findClass_of_methodNamed B.named
  have hlocks := B.notSynchronized
  subst hsz
  have hD := hD0.self (sz := s.heap.size)
  generalize hAe : va_A (w_X12_deal h0 h_row h_kept h_isKept h_aside h_eight h_rows h_scales h_dealt h_bytes h_heardRow h_made h_comes h_backs h_fresh cy c_thrown c_nodeS c_nodeD c_pairE c_pairO c_bit c_lag c_lagSum c_dealt c_scales c_row) s.heap.size = A at hD ⊢
  have hA : ∀ q : Nat, s.heap.size ≤ q → A q := fun q h => by rw [← hAe]; exact Or.inr h
  have hS : va_S A s.heap s.heap [] := va_S.rf
  have hl := lv_entry ([.ref h0, .int v1, .int v2]) (n := 9) (Nat.le_of_ble_eq_true rfl)
  rw [lg_entry_eq]
  generalize (lg_sl ([.ref h0, .int v1, .int v2]) ++ List.replicate (9 - (lg_sl ([.ref h0, .int v1, .int v2])).length) Slot.unset).toArray = ls at hl ⊢
  replace hl : lv_has ls 9 [(0, .ref h0), (1, .int v1), (2, .int v2)] := hl
  have inX12 : ∀ w ∈ u_ws RX12 TX12 22, w ∈ wsX12_deal := fun w h => List.mem_cons_of_mem _ (inlX12 w h)
  clear hAe hD0 B
  unfold wp_X12_deal at hw
  generalize hQe : MQ below _ _ s _ _ _ = Q0
  generalize ([.ref h0, .int v1, .int v2] : List Value).toArray = av at *
  obtain ⟨H, hH⟩ : ∃ H, H = s.heap := ⟨_, rfl⟩
  obtain ⟨locs, hlo⟩ : ∃ L : List Loc, L = [] := ⟨_, rfl⟩
  replace hP : va_P (dC, dI) vwCl (w_X12_deal h0 h_row h_kept h_isKept h_aside h_eight h_rows h_scales h_dealt h_bytes h_heardRow h_made h_comes h_backs h_fresh cy c_thrown c_nodeS c_nodeD c_pairE c_pairO c_bit c_lag c_lagSum c_dealt c_scales c_row) H := by rw [hH]; exact hP
  replace hS : va_S A s.heap H locs := by rw [hH, hlo]; exact hS
  suffices hgo : W p l e ({ frames := 1, cells := 0, slots := 0, locals := 24 }) s m av below meth c H locs 0 0 Q0 (F0 m 0 ls []) by rw [hH, hlo] at hgo; exact hgo
  clear hH hlo
  refine lv_iconst (v := 0) hx hb dX12_deal_0 (by decide) ?_
  refine lv_istore_n (lv' := [(3, .int (0 : Int32)), (0, .ref h0), (1, .int v1), (2, .int v2)]) hx hb dX12_deal_1 rfl hl (by decide) rfl ?_; clear hl; clear ls; intro ls hl
  obtain ⟨x1, e_x1⟩ : ∃ y : Int32, y = (0 : Int32) := ⟨_, rfl⟩
  replace hw := hw x1 e_x1
  replace hl : lv_has ls 9 [(3, .int x1), (0, .ref h0), (1, .int v1), (2, .int v2)] := by rw [e_x1]; exact hl
  clear e_x1
  replace hl := lv_sub (l' := [(3, .int x1), (0, .ref h0), (1, .int v1), (2, .int v2)]) hl [0, 1, 2, 3] rfl
  revert hl; revert hS; revert hD; revert hP; revert ls; revert locs; revert H
  revert hw; revert c_dealt; revert x1
  refine Lz2_gr ?_; intro g2 ih3 x4 f5 hw
  intro H locs ls hP hD hS hl
  refine lv_iload_n hx hb dX12_deal_2 rfl (lv_at hl 0 rfl) ?_
  refine lv_bipush (v := 16) hx hb dX12_deal_3 (by decide) ?_
  refine lv_icmp_ge (tgt := 21) hx hb dX12_deal_5 (by decide) (fun c6 => ?_) (fun c6 => ?_)
  · replace hw := hw.1 c6; clear c6
    clear ih3
    refine lv_iload_n hx hb dX12_deal_21 rfl (lv_at hl 2 rfl) ?_
    refine lv_istore_n (lv' := [(3, .int v1), (0, .ref h0), (1, .int v1), (2, .int v2)]) hx hb dX12_deal_22 rfl hl (by decide) rfl ?_; clear hl; clear ls; intro ls hl
    refine lv_iconst (v := 1) hx hb dX12_deal_23 (by decide) ?_
    refine lv_istore (lv' := [(4, .int (1 : Int32)), (3, .int v1), (0, .ref h0), (1, .int v1), (2, .int v2)]) hx hb dX12_deal_24 hl (by decide) rfl ?_; clear hl; clear ls; intro ls hl
    obtain ⟨x7, e_x7⟩ : ∃ y : Int32, y = (1 : Int32) := ⟨_, rfl⟩
    replace hw := hw x7 e_x7
    replace hl : lv_has ls 9 [(4, .int x7), (3, .int v1), (0, .ref h0), (1, .int v1), (2, .int v2)] := by rw [e_x7]; exact hl
    clear e_x7
    obtain ⟨x8, e_x8⟩ : ∃ y : Int32, y = v1 := ⟨_, rfl⟩
    replace hw := hw x8 e_x8
    replace hl : lv_has ls 9 [(4, .int x7), (3, .int x8), (0, .ref h0), (1, .int v1), (2, .int v2)] := by rw [e_x8]; exact hl
    clear e_x8
    replace hl := lv_sub (l' := [(4, .int x7), (3, .int x8), (0, .ref h0), (2, .int v2)]) hl [0, 1, 2, 4] rfl
    revert hl; revert hS; revert hD; revert hP; revert ls; revert locs; revert H
    revert hw; revert f5; revert x8; revert x7
    refine Lz3_gr ?_; intro g9 ih10 x11 x12 f13 hw
    intro H locs ls hP hD hS hl
    refine lv_iload hx hb dX12_deal_26 (lv_at hl 0 rfl) ?_
    refine lv_if_eq (tgt := 171) hx hb dX12_deal_28 (by decide) (fun c14 => ?_) (fun c14 => ?_)
    · replace hw := hw.1 c14; clear c14
      clear ih10
      subst hQe
      exact W.vret hx hb hr (fun t ht hW => ⟨⟨f13, rfl, hw, by rw [ht]; exact hP, va_K.moved hW.alike hK, hD⟩, hS.F ht⟩) hS.2.2 dX12_deal_171
    · replace hw := hw.2 c14; clear c14
      refine lv_iconst (v := -1) hx hb dX12_deal_31 (by decide) ?_
      refine lv_istore (lv' := [(5, .int (-1 : Int32)), (4, .int x11), (3, .int x12), (0, .ref h0), (2, .int v2)]) hx hb dX12_deal_32 hl (by decide) rfl ?_; clear hl; clear ls; intro ls hl
      refine lv_iconst (v := 0) hx hb dX12_deal_34 (by decide) ?_
      refine lv_istore (lv' := [(6, .int (0 : Int32)), (5, .int (-1 : Int32)), (4, .int x11), (3, .int x12), (0, .ref h0), (2, .int v2)]) hx hb dX12_deal_35 hl (by decide) rfl ?_; clear hl; clear ls; intro ls hl
      refine lv_iconst (v := 0) hx hb dX12_deal_37 (by decide) ?_
      refine lv_istore (lv' := [(7, .int (0 : Int32)), (6, .int (0 : Int32)), (5, .int (-1 : Int32)), (4, .int x11), (3, .int x12), (0, .ref h0), (2, .int v2)]) hx hb dX12_deal_38 hl (by decide) rfl ?_; clear hl; clear ls; intro ls hl
      obtain ⟨x15, e_x15⟩ : ∃ y : Int32, y = (0 : Int32) := ⟨_, rfl⟩
      replace hw := hw x15 e_x15
      replace hl : lv_has ls 9 [(7, .int x15), (6, .int (0 : Int32)), (5, .int (-1 : Int32)), (4, .int x11), (3, .int x12), (0, .ref h0), (2, .int v2)] := by rw [e_x15]; exact hl
      clear e_x15
      obtain ⟨x16, e_x16⟩ : ∃ y : Int32, y = (0 : Int32) := ⟨_, rfl⟩
      replace hw := hw x16 e_x16
      replace hl : lv_has ls 9 [(7, .int x15), (6, .int x16), (5, .int (-1 : Int32)), (4, .int x11), (3, .int x12), (0, .ref h0), (2, .int v2)] := by rw [e_x16]; exact hl
      clear e_x16
      obtain ⟨x17, e_x17⟩ : ∃ y : Int32, y = (-1 : Int32) := ⟨_, rfl⟩
      replace hw := hw x17 e_x17
      replace hl : lv_has ls 9 [(7, .int x15), (6, .int x16), (5, .int x17), (4, .int x11), (3, .int x12), (0, .ref h0), (2, .int v2)] := by rw [e_x17]; exact hl
      clear e_x17
      replace hl := lv_sub (l' := [(7, .int x15), (6, .int x16), (5, .int x17), (3, .int x12), (0, .ref h0), (2, .int v2)]) hl [0, 1, 2, 4, 5, 6] rfl
      revert hl; revert hS; revert hD; revert hP; revert ls; revert locs; revert H
      revert hw; revert x17; revert x16; revert x15
      refine Lz3_gr ?_; intro g18 ih19 x20 x21 x22 hw
      intro H locs ls hP hD hS hl
      refine lv_iload hx hb dX12_deal_40 (lv_at hl 0 rfl) ?_
      refine lv_bipush (v := 16) hx hb dX12_deal_42 (by decide) ?_
      refine lv_icmp_ge (tgt := 116) hx hb dX12_deal_44 (by decide) (fun c23 => ?_) (fun c23 => ?_)
      · replace hw := hw.1 c23; clear c23
        clear ih19
        refine lv_iload hx hb dX12_deal_116 (lv_at hl 2 rfl) ?_
        refine lv_iconst (v := -1) hx hb dX12_deal_118 (by decide) ?_
        refine jn1 (Gg := fun (x24 : Int32) => ∀ (H : Heap) (locs : List Loc) (ls : Array Slot), va_P (dC, dI) vwCl (w_X12_deal h0 h_row h_kept h_isKept h_aside h_eight h_rows h_scales h_dealt h_bytes h_heardRow h_made h_comes h_backs h_fresh cy c_thrown c_nodeS c_nodeD c_pairE c_pairO c_bit c_lag c_lagSum f13 c_scales c_row) H → va_D A (w_X12_deal h0 h_row h_kept h_isKept h_aside h_eight h_rows h_scales h_dealt h_bytes h_heardRow h_made h_comes h_backs h_fresh cy c_thrown c_nodeS c_nodeD c_pairE c_pairO c_bit c_lag c_lagSum f13 c_scales c_row) → va_S A s.heap H locs → lv_has ls 9 [(0, .ref h0), (2, .int v2), (3, .int x12), (5, .int x22)] → W p l e { frames := 1, cells := 0, slots := 0, locals := 24 } s m av below meth c H locs 0 0 Q0 (F0 m 127 ls [.int x24])) hw ?_ ?_ <;> clear hw
        · clear hP hD hS hl; clear H locs ls; intro x24 hw H locs ls hP hD hS hl
          refine lv_istore (lv' := [(4, .int x24), (0, .ref h0), (2, .int v2), (3, .int x12), (5, .int x22)]) hx hb dX12_deal_127 hl (by decide) rfl ?_; clear hl; clear ls; intro ls hl
          refine lv_iload hx hb dX12_deal_129 (lv_at hl 0 rfl) ?_
          refine jn2 (Gg := fun (x27 : Int32) (f28 : (Nat → Int32)) => ∀ (H : Heap) (locs : List Loc) (ls : Array Slot), va_P (dC, dI) vwCl (w_X12_deal h0 h_row h_kept h_isKept h_aside h_eight h_rows h_scales h_dealt h_bytes h_heardRow h_made h_comes h_backs h_fresh cy c_thrown c_nodeS c_nodeD c_pairE c_pairO c_bit c_lag c_lagSum f28 c_scales c_row) H → va_D A (w_X12_deal h0 h_row h_kept h_isKept h_aside h_eight h_rows h_scales h_dealt h_bytes h_heardRow h_made h_comes h_backs h_fresh cy c_thrown c_nodeS c_nodeD c_pairE c_pairO c_bit c_lag c_lagSum f28 c_scales c_row) → va_S A s.heap H locs → lv_has ls 9 [(0, .ref h0), (2, .int v2), (3, .int x27), (4, .int x24)] → W p l e { frames := 1, cells := 0, slots := 0, locals := 24 } s m av below meth c H locs 0 0 Q0 (F0 m 168 ls [])) hw ?_ ?_ <;> clear hw
          · clear hP hD hS hl; clear H locs ls; intro x27 f28 hw H locs ls hP hD hS hl
            refine lv_goto (tgt := 26) hx hb dX12_deal_168 (by decide) ?_
            exact ih10 x24 x27 f28 hw H locs ls hP hD hS (lv_sub hl [3, 2, 0, 1] rfl)
          · intro j30 hw
            refine lv_if_eq (tgt := 168) hx hb dX12_deal_131 (by decide) (fun c31 => ?_) (fun c31 => ?_)
            · replace hw := hw.1 c31; clear c31
              exact j30 x12 f13 hw H locs ls hP hD hS (lv_sub hl [1, 2, 3, 0] rfl)
            · replace hw := hw.2 c31; clear c31
              refine lv_aload_n hx hb dX12_deal_134 rfl (lv_at hl 1 rfl) ?_
              refine va_get (D := (dC, dI)) (ci := 12) (v := .ref h_dealt) (C := RX12) (T := TX12) (N := 22) hx hb hts inX12 hown hK hP 0 rfl rfl 12 (by decide) (hts _ (List.mem_cons_of_mem _ mw_177)) (fun _ h9 => h9) rfl dX12_deal_135 ?_
              refine lv_iload hx hb dX12_deal_138 (lv_at hl 4 rfl) ?_
              obtain ⟨h32, hw⟩ := hw
              refine xiald (k := x22.toNatClampNeg) hx hb hK hP 1 0 rfl rfl h32 rfl dX12_deal_140 ?_
              refine jn1 (Gg := fun (x33 : Int32) => ∀ (H : Heap) (locs : List Loc) (ls : Array Slot), va_P (dC, dI) vwCl (w_X12_deal h0 h_row h_kept h_isKept h_aside h_eight h_rows h_scales h_dealt h_bytes h_heardRow h_made h_comes h_backs h_fresh cy c_thrown c_nodeS c_nodeD c_pairE c_pairO c_bit c_lag c_lagSum f13 c_scales c_row) H → va_D A (w_X12_deal h0 h_row h_kept h_isKept h_aside h_eight h_rows h_scales h_dealt h_bytes h_heardRow h_made h_comes h_backs h_fresh cy c_thrown c_nodeS c_nodeD c_pairE c_pairO c_bit c_lag c_lagSum f13 c_scales c_row) → va_S A s.heap H locs → lv_has ls 9 [(0, .ref h0), (2, .int v2), (3, .int x12), (4, .int x24), (5, .int x22)] → W p l e { frames := 1, cells := 0, slots := 0, locals := 24 } s m av below meth c H locs 0 0 Q0 (F0 m 149 ls [.int x33])) hw ?_ ?_ <;> clear hw
              · clear hP hD hS hl; clear H locs ls; intro x33 hw H locs ls hP hD hS hl
                refine lv_istore (lv' := [(7, .int x33), (0, .ref h0), (2, .int v2), (3, .int x12), (4, .int x24), (5, .int x22)]) hx hb dX12_deal_149 hl (by decide) rfl ?_; clear hl; clear ls; intro ls hl
                refine lv_aload_n hx hb dX12_deal_151 rfl (lv_at hl 1 rfl) ?_
                refine va_get (D := (dC, dI)) (ci := 12) (v := .ref h_dealt) (C := RX12) (T := TX12) (N := 22) hx hb hts inX12 hown hK hP 0 rfl rfl 12 (by decide) (hts _ (List.mem_cons_of_mem _ mw_177)) (fun _ h9 => h9) rfl dX12_deal_152 ?_
                refine lv_iload hx hb dX12_deal_155 (lv_at hl 5 rfl) ?_
                refine lv_dup2_11 hx hb dX12_deal_157 rfl rfl ?_
                obtain ⟨h36, hw⟩ := hw
                refine xiald (k := x22.toNatClampNeg) hx hb hK hP 1 0 rfl rfl h36 rfl dX12_deal_158 ?_
                refine lv_iload hx hb dX12_deal_159 (lv_at hl 0 rfl) ?_
                refine lv_iadd hx hb dX12_deal_161 ?_
                obtain ⟨h37, hw⟩ := hw
                refine xiast (k := x22.toNatClampNeg) hx hb hK hP hD hS 1 0 rfl rfl h37 rfl dX12_deal_162 ?_; clear hP hD hS; clear H locs; intro f38 e_f38 H locs hP hD hS
                replace hw := hw f38 e_f38
                clear e_f38
                replace hP : va_P (dC, dI) vwCl (w_X12_deal h0 h_row h_kept h_isKept h_aside h_eight h_rows h_scales h_dealt h_bytes h_heardRow h_made h_comes h_backs h_fresh cy c_thrown c_nodeS c_nodeD c_pairE c_pairO c_bit c_lag c_lagSum f38 c_scales c_row) H := hP
                replace hD : va_D A (w_X12_deal h0 h_row h_kept h_isKept h_aside h_eight h_rows h_scales h_dealt h_bytes h_heardRow h_made h_comes h_backs h_fresh cy c_thrown c_nodeS c_nodeD c_pairE c_pairO c_bit c_lag c_lagSum f38 c_scales c_row) := hD
                refine lv_iload_n hx hb dX12_deal_163 rfl (lv_at hl 3 rfl) ?_
                refine lv_iload hx hb dX12_deal_164 (lv_at hl 0 rfl) ?_
                refine lv_isub hx hb dX12_deal_166 ?_
                refine lv_topi (fun x39 e_x39 => ?_)
                replace hw := hw x39 e_x39
                clear e_x39
                refine lv_istore_n (lv' := [(3, .int x39), (7, .int x33), (0, .ref h0), (2, .int v2), (4, .int x24), (5, .int x22)]) hx hb dX12_deal_167 rfl hl (by decide) rfl ?_; clear hl; clear ls; intro ls hl
                exact j30 x39 f38 hw H locs ls hP hD hS (lv_sub hl [2, 3, 0, 4] rfl)
              · intro j35 hw
                refine lv_if_ne (tgt := 148) hx hb dX12_deal_141 (by decide) (fun c40 => ?_) (fun c40 => ?_)
                · replace hw := hw.2 c40; clear c40
                  refine lv_iconst (v := 1) hx hb dX12_deal_148 (by decide) ?_
                  exact j35 (1 : Int32) hw H locs ls hP hD hS (lv_sub hl [1, 2, 3, 0, 4] rfl)
                · replace hw := hw.1 c40; clear c40
                  refine lv_iconst (v := 2) hx hb dX12_deal_144 (by decide) ?_
                  refine lv_goto (tgt := 149) hx hb dX12_deal_145 (by decide) ?_
                  exact j35 (2 : Int32) hw H locs ls hP hD hS (lv_sub hl [1, 2, 3, 0, 4] rfl)
        · intro j26 hw
          refine lv_icmp_eq (tgt := 126) hx hb dX12_deal_119 (by decide) (fun c41 => ?_) (fun c41 => ?_)
          · replace hw := hw.1 c41; clear c41
            refine lv_iconst (v := 0) hx hb dX12_deal_126 (by decide) ?_
            exact j26 (0 : Int32) hw H locs ls hP hD hS (lv_sub hl [4, 5, 3, 2] rfl)
          · replace hw := hw.2 c41; clear c41
            refine lv_iconst (v := 1) hx hb dX12_deal_122 (by decide) ?_
            refine lv_goto (tgt := 127) hx hb dX12_deal_123 (by decide) ?_
            exact j26 (1 : Int32) hw H locs ls hP hD hS (lv_sub hl [4, 5, 3, 2] rfl)
      · replace hw := hw.2 c23; clear c23
        refine lv_aload_n hx hb dX12_deal_47 rfl (lv_at hl 4 rfl) ?_
        refine lv_iload hx hb dX12_deal_48 (lv_at hl 0 rfl) ?_
        refine lv_iload_n hx hb dX12_deal_50 rfl (lv_at hl 5 rfl) ?_
        have hPc := pSub (ws' := (w_X12_needOf h0 h_row h_kept h_isKept h_aside h_eight h_rows h_scales h_dealt h_bytes h_heardRow h_made h_comes h_backs h_fresh cy c_thrown c_nodeS c_nodeD c_pairE c_pairO c_bit c_lag c_lagSum c_scales c_row)) hP [0, 2, 3] rfl
        have hDc := dSub (ws' := (w_X12_needOf h0 h_row h_kept h_isKept h_aside h_eight h_rows h_scales h_dealt h_bytes h_heardRow h_made h_comes h_backs h_fresh cy c_thrown c_nodeS c_nodeD c_pairE c_pairO c_bit c_lag c_lagSum c_scales c_row)) hD [0, 2, 3] (by decide) rfl
        have hFc := va_free (wc := (w_X12_needOf h0 h_row h_kept h_isKept h_aside h_eight h_rows h_scales h_dealt h_bytes h_heardRow h_made h_comes h_backs h_fresh cy c_thrown c_nodeS c_nodeD c_pairE c_pairO c_bit c_lag c_lagSum c_scales c_row)) hD hS hA [0, 2, 3] rfl
        refine va_calli (va_runV (As := [.int x20, .int v2]) (rest := []) ⟨hx, hb, hml, hown, hts⟩ (c_X12_needOf l dC dI cy h0 h_row h_kept h_isKept h_aside h_eight h_rows h_scales h_dealt h_bytes h_heardRow h_made h_comes h_backs h_fresh H.size x20 v2 c_thrown c_nodeS c_nodeD c_pairE c_pairO c_bit c_lag c_lagSum c_scales c_row _ hw) (cwV 2 hts (goodV mw_668 mw_665 mw_666 mw_667 mw_5) rfl rfl rfl (by decide +kernel) ⟨Nat.le_of_ble_eq_true rfl, Nat.le_of_ble_eq_true rfl⟩) ⟨PX_blind, va_recv hK hPc (ci := 12) (q0 := 0) rfl rfl, PX_pre hPc hK hDc hG⟩ rfl rfl hl.1 rfl (lv_room (Nat.le_of_ble_eq_true rfl)) dX12_deal_51 ⟨Nat.zero_le _, Nat.zero_le _⟩) hS (fun q _ h => hFc q h) hFc ?_; clear hw hS; intro r42 _ t H1 locs1 ht hvm hw hB hz1 hk1 hS
        obtain ⟨hP1, -, -⟩ := hB
        rw [ht] at hP1
        replace hP := jC0 hP hD [0, 2, 3] [1] rfl hk1 hP1 (w_X12_deal h0 h_row h_kept h_isKept h_aside h_eight h_rows h_scales h_dealt h_bytes h_heardRow h_made h_comes h_backs h_fresh cy c_thrown c_nodeS c_nodeD c_pairE c_pairO c_bit c_lag c_lagSum f13 c_scales c_row) rfl rfl rfl 4 rfl (by decide +kernel); clear hD; obtain ⟨hP, hD⟩ := hP
        replace hP : va_P (dC, dI) vwCl (w_X12_deal h0 h_row h_kept h_isKept h_aside h_eight h_rows h_scales h_dealt h_bytes h_heardRow h_made h_comes h_backs h_fresh cy c_thrown c_nodeS c_nodeD c_pairE c_pairO c_bit c_lag c_lagSum f13 c_scales c_row) H1 := hP
        replace hD : va_D A (w_X12_deal h0 h_row h_kept h_isKept h_aside h_eight h_rows h_scales h_dealt h_bytes h_heardRow h_made h_comes h_backs h_fresh cy c_thrown c_nodeS c_nodeD c_pairE c_pairO c_bit c_lag c_lagSum f13 c_scales c_row) := hD
        clear hPc hDc hFc hP1 hk1 hz1 hvm ht; clear t; clear H locs; obtain ⟨H, hH⟩ : ∃ H, H = H1 := ⟨_, rfl⟩; obtain ⟨locs, hlo⟩ : ∃ L, L = locs1 := ⟨_, rfl⟩; subst hH; subst hlo
        refine W.widen (k := 0) (n := 0) (Nat.le_refl 0) (Nat.le_refl 0) ?_
        refine lv_aload_n hx hb dX12_deal_54 rfl (lv_at hl 4 rfl) ?_
        refine va_get (D := (dC, dI)) (ci := 12) (v := .ref h_dealt) (C := RX12) (T := TX12) (N := 22) hx hb hts inX12 hown hK hP 0 rfl rfl 12 (by decide) (hts _ (List.mem_cons_of_mem _ mw_177)) (fun _ h9 => h9) rfl dX12_deal_55 ?_
        refine lv_iload hx hb dX12_deal_58 (lv_at hl 0 rfl) ?_
        obtain ⟨h43, hw⟩ := hw
        refine xiald (k := x20.toNatClampNeg) hx hb hK hP 1 0 rfl rfl h43 rfl dX12_deal_60 ?_
        refine lv_isub hx hb dX12_deal_61 ?_
        refine lv_topi (fun x44 e_x44 => ?_)
        replace hw := hw x44 e_x44
        clear e_x44
        refine lv_istore (lv' := [(8, .int x44), (7, .int x20), (6, .int x21), (5, .int x22), (3, .int x12), (0, .ref h0), (2, .int v2)]) hx hb dX12_deal_62 hl (by decide) rfl ?_; clear hl; clear ls; intro ls hl
        refine lv_iload hx hb dX12_deal_64 (lv_at hl 0 rfl) ?_
        refine lv_iload hx hb dX12_deal_66 (lv_at hl 2 rfl) ?_
        refine jn2 (Gg := fun (x45 : Int32) (x46 : Int32) => ∀ (H : Heap) (locs : List Loc) (ls : Array Slot), va_P (dC, dI) vwCl (w_X12_deal h0 h_row h_kept h_isKept h_aside h_eight h_rows h_scales h_dealt h_bytes h_heardRow h_made h_comes h_backs h_fresh cy c_thrown c_nodeS c_nodeD c_pairE c_pairO c_bit c_lag c_lagSum f13 c_scales c_row) H → va_D A (w_X12_deal h0 h_row h_kept h_isKept h_aside h_eight h_rows h_scales h_dealt h_bytes h_heardRow h_made h_comes h_backs h_fresh cy c_thrown c_nodeS c_nodeD c_pairE c_pairO c_bit c_lag c_lagSum f13 c_scales c_row) → va_S A s.heap H locs → lv_has ls 9 [(0, .ref h0), (2, .int v2), (3, .int x12), (5, .int x45), (6, .int x46), (7, .int x20)] → W p l e { frames := 1, cells := 0, slots := 0, locals := 24 } s m av below meth c H locs 0 0 Q0 (F0 m 110 ls [])) hw ?_ ?_ <;> clear hw
        · clear hP hD hS hl; clear H locs ls; intro x45 x46 hw H locs ls hP hD hS hl
          refine lv_iinc (v := x20 + 1) (lv' := [(7, .int (x20 + 1)), (0, .ref h0), (2, .int v2), (3, .int x12), (5, .int x45), (6, .int x46)]) hx hb dX12_deal_110 hl (k := 5) rfl rfl (by decide) rfl ?_; clear hl; clear ls; intro ls hl
          refine lv_goto (tgt := 40) hx hb dX12_deal_113 (by decide) ?_
          exact ih19 (x20 + 1) x46 x45 hw H locs ls hP hD hS (lv_sub hl [0, 5, 4, 3, 1, 2] rfl)
        · intro j48 hw
          refine lv_icmp_le (tgt := 110) hx hb dX12_deal_68 (by decide) (fun c49 => ?_) (fun c49 => ?_)
          · replace hw := hw.1 c49; clear c49
            exact j48 x22 x21 hw H locs ls hP hD hS (lv_sub hl [5, 6, 4, 3, 2, 1] rfl)
          · replace hw := hw.2 c49; clear c49
            refine lv_aload_n hx hb dX12_deal_71 rfl (lv_at hl 5 rfl) ?_
            refine va_get (D := (dC, dI)) (ci := 12) (v := .ref h_dealt) (C := RX12) (T := TX12) (N := 22) hx hb hts inX12 hown hK hP 0 rfl rfl 12 (by decide) (hts _ (List.mem_cons_of_mem _ mw_177)) (fun _ h9 => h9) rfl dX12_deal_72 ?_
            refine lv_iload hx hb dX12_deal_75 (lv_at hl 1 rfl) ?_
            obtain ⟨h50, hw⟩ := hw
            refine xiald (k := x20.toNatClampNeg) hx hb hK hP 1 0 rfl rfl h50 rfl dX12_deal_77 ?_
            refine lv_bipush (v := 16) hx hb dX12_deal_78 (by decide) ?_
            refine lv_icmp_ge (tgt := 110) hx hb dX12_deal_80 (by decide) (fun c51 => ?_) (fun c51 => ?_)
            · replace hw := hw.1 c51; clear c51
              exact j48 x22 x21 hw H locs ls hP hD hS (lv_sub hl [5, 6, 4, 3, 2, 1] rfl)
            · replace hw := hw.2 c51; clear c51
              refine lv_iload_n hx hb dX12_deal_83 rfl (lv_at hl 4 rfl) ?_
              refine lv_aload_n hx hb dX12_deal_84 rfl (lv_at hl 5 rfl) ?_
              refine va_get (D := (dC, dI)) (ci := 12) (v := .ref h_dealt) (C := RX12) (T := TX12) (N := 22) hx hb hts inX12 hown hK hP 0 rfl rfl 12 (by decide) (hts _ (List.mem_cons_of_mem _ mw_177)) (fun _ h9 => h9) rfl dX12_deal_85 ?_
              refine lv_iload hx hb dX12_deal_88 (lv_at hl 1 rfl) ?_
              obtain ⟨h52, hw⟩ := hw
              refine xiald (k := x20.toNatClampNeg) hx hb hK hP 1 0 rfl rfl h52 rfl dX12_deal_90 ?_
              refine jn1 (Gg := fun (x53 : Int32) => ∀ (H : Heap) (locs : List Loc) (ls : Array Slot), va_P (dC, dI) vwCl (w_X12_deal h0 h_row h_kept h_isKept h_aside h_eight h_rows h_scales h_dealt h_bytes h_heardRow h_made h_comes h_backs h_fresh cy c_thrown c_nodeS c_nodeD c_pairE c_pairO c_bit c_lag c_lagSum f13 c_scales c_row) H → va_D A (w_X12_deal h0 h_row h_kept h_isKept h_aside h_eight h_rows h_scales h_dealt h_bytes h_heardRow h_made h_comes h_backs h_fresh cy c_thrown c_nodeS c_nodeD c_pairE c_pairO c_bit c_lag c_lagSum f13 c_scales c_row) → va_S A s.heap H locs → lv_has ls 9 [(0, .ref h0), (2, .int v2), (3, .int x12), (5, .int x22), (6, .int x21), (7, .int x20), (8, .int x44)] → W p l e { frames := 1, cells := 0, slots := 0, locals := 24 } s m av below meth c H locs 0 0 Q0 (F0 m 99 ls [.int x53, .int x12])) hw ?_ ?_ <;> clear hw
              · clear hP hD hS hl; clear H locs ls; intro x53 hw H locs ls hP hD hS hl
                refine lv_icmp_lt (tgt := 110) hx hb dX12_deal_99 (by decide) (fun c56 => ?_) (fun c56 => ?_)
                · replace hw := hw.1 c56; clear c56
                  exact j48 x22 x21 hw H locs ls hP hD hS (lv_sub hl [0, 1, 2, 3, 4, 5] rfl)
                · replace hw := hw.2 c56; clear c56
                  refine lv_iload hx hb dX12_deal_102 (lv_at hl 5 rfl) ?_
                  refine lv_istore (lv' := [(5, .int x20), (0, .ref h0), (2, .int v2), (3, .int x12), (6, .int x21), (7, .int x20), (8, .int x44)]) hx hb dX12_deal_104 hl (by decide) rfl ?_; clear hl; clear ls; intro ls hl
                  refine lv_iload hx hb dX12_deal_106 (lv_at hl 6 rfl) ?_
                  refine lv_istore (lv' := [(6, .int x44), (5, .int x20), (0, .ref h0), (2, .int v2), (3, .int x12), (7, .int x20), (8, .int x44)]) hx hb dX12_deal_108 hl (by decide) rfl ?_; clear hl; clear ls; intro ls hl
                  exact j48 x20 x44 hw H locs ls hP hD hS (lv_sub hl [2, 3, 4, 1, 0, 5] rfl)
              · intro j55 hw
                refine lv_if_ne (tgt := 98) hx hb dX12_deal_91 (by decide) (fun c57 => ?_) (fun c57 => ?_)
                · replace hw := hw.2 c57; clear c57
                  refine lv_iconst (v := 1) hx hb dX12_deal_98 (by decide) ?_
                  exact j55 (1 : Int32) hw H locs ls hP hD hS (lv_sub hl [5, 6, 4, 3, 2, 1, 0] rfl)
                · replace hw := hw.1 c57; clear c57
                  refine lv_iconst (v := 2) hx hb dX12_deal_94 (by decide) ?_
                  refine lv_goto (tgt := 99) hx hb dX12_deal_95 (by decide) ?_
                  exact j55 (2 : Int32) hw H locs ls hP hD hS (lv_sub hl [5, 6, 4, 3, 2, 1, 0] rfl)
  · replace hw := hw.2 c6; clear c6
    refine lv_aload_n hx hb dX12_deal_8 rfl (lv_at hl 1 rfl) ?_
    refine va_get (D := (dC, dI)) (ci := 12) (v := .ref h_dealt) (C := RX12) (T := TX12) (N := 22) hx hb hts inX12 hown hK hP 0 rfl rfl 12 (by decide) (hts _ (List.mem_cons_of_mem _ mw_177)) (fun _ h9 => h9) rfl dX12_deal_9 ?_
    refine lv_iload_n hx hb dX12_deal_12 rfl (lv_at hl 0 rfl) ?_
    refine lv_iconst (v := 0) hx hb dX12_deal_13 (by decide) ?_
    obtain ⟨h58, hw⟩ := hw
    refine xiast (k := x4.toNatClampNeg) hx hb hK hP hD hS 1 0 rfl rfl h58 rfl dX12_deal_14 ?_; clear hP hD hS; clear H locs; intro f59 e_f59 H locs hP hD hS
    replace hw := hw f59 e_f59
    clear e_f59
    replace hP : va_P (dC, dI) vwCl (w_X12_deal h0 h_row h_kept h_isKept h_aside h_eight h_rows h_scales h_dealt h_bytes h_heardRow h_made h_comes h_backs h_fresh cy c_thrown c_nodeS c_nodeD c_pairE c_pairO c_bit c_lag c_lagSum f59 c_scales c_row) H := hP
    replace hD : va_D A (w_X12_deal h0 h_row h_kept h_isKept h_aside h_eight h_rows h_scales h_dealt h_bytes h_heardRow h_made h_comes h_backs h_fresh cy c_thrown c_nodeS c_nodeD c_pairE c_pairO c_bit c_lag c_lagSum f59 c_scales c_row) := hD
    refine lv_iinc (v := x4 + 1) (lv' := [(3, .int (x4 + 1)), (0, .ref h0), (1, .int v1), (2, .int v2)]) hx hb dX12_deal_15 hl (k := 0) rfl rfl (by decide) rfl ?_; clear hl; clear ls; intro ls hl
    refine lv_goto (tgt := 2) hx hb dX12_deal_18 (by decide) ?_
    exact ih3 (x4 + 1) f59 hw H locs ls hP hD hS (lv_sub hl [0, 1, 2, 3] rfl)
set_option maxHeartbeats 4000000 in
set_option maxRecDepth 100000 in
theorem c_X12_quant (l : Launch) (dC : Nat → ClassId) (dI : Nat → Nat → Nat) (cy : Nat → ClassId) (sz : Nat) (v0 : Int32) (v1 : Int32) (v2 : Int32) (post : Int32 → Prop) (hw : wp_X12_quant v0 v1 v2 post) : Met l yX12_quant wsX12_quant ({ frames := 1, cells := 0, slots := 0, locals := 25 }) (PX dC dI cy [.int v0, .int v1, .int v2] sz (w_X12_quant cy)) (va_Qi (fun (r : Int32) (u : Unit) => post r) (QX dC dI cy (va_A (w_X12_quant cy) sz) (fun (u : Unit) => w_X12_quant cy)) (va_A (w_X12_quant cy) sz)) 0 0 (va_A (w_X12_quant cy) sz) := by
  refine Met.ofW (cc := cX12_quant) (maxL := 5) (ret := (some .int)) (by decide) rfl ?_
  intro p e s m args below meth c s₁ B hml hv
  obtain ⟨rfl, hsz, hP, hK, hD0, hG⟩ := hv
  have hx := B.exec
  have hb := B.bytes
  have hr := B.returns
  have hts := atoms_spec (ws := wsX12_quant) B.pre
  have hown : s.vm.findClass RX12 = some m.cls := findClass_of_methodNamed B.named
  have hlocks := B.notSynchronized
  subst hsz
  have hD := hD0.self (sz := s.heap.size)
  generalize hAe : va_A (w_X12_quant cy) s.heap.size = A at hD ⊢
  have hA : ∀ q : Nat, s.heap.size ≤ q → A q := fun q h => by rw [← hAe]; exact Or.inr h
  have hS : va_S A s.heap s.heap [] := va_S.rf
  have hl := lv_entry ([.int v0, .int v1, .int v2]) (n := 5) (Nat.le_of_ble_eq_true rfl)
  rw [lg_entry_eq]
  generalize (lg_sl ([.int v0, .int v1, .int v2]) ++ List.replicate (5 - (lg_sl ([.int v0, .int v1, .int v2])).length) Slot.unset).toArray = ls at hl ⊢
  replace hl : lv_has ls 5 [(0, .int v0), (1, .int v1), (2, .int v2)] := hl
  clear hAe hD0 B
  unfold wp_X12_quant at hw
  generalize hQe : MQ below _ _ s _ _ _ = Q0
  generalize ([.int v0, .int v1, .int v2] : List Value).toArray = av at *
  obtain ⟨H, hH⟩ : ∃ H, H = s.heap := ⟨_, rfl⟩
  obtain ⟨locs, hlo⟩ : ∃ L : List Loc, L = [] := ⟨_, rfl⟩
  replace hP : va_P (dC, dI) vwCl (w_X12_quant cy) H := by rw [hH]; exact hP
  replace hS : va_S A s.heap H locs := by rw [hH, hlo]; exact hS
  suffices hgo : W p l e ({ frames := 1, cells := 0, slots := 0, locals := 25 }) s m av below meth c H locs 0 0 Q0 (F0 m 0 ls []) by rw [hH, hlo] at hgo; exact hgo
  clear hH hlo
  refine lv_lconst (v := 1) hx hb dX12_quant_0 (by decide) ?_
  refine lv_iload_n hx hb dX12_quant_1 rfl (lv_at hl 2 rfl) ?_
  refine lv_lshl (v := (1 : Int64) <<< (v2.toInt64 &&& 63)) hx hb dX12_quant_2 rfl ?_
  refine lv_lconst (v := 1) hx hb dX12_quant_3 (by decide) ?_
  refine lv_lsub hx hb dX12_quant_4 ?_
  refine lv_topl (fun x1 e_x1 => ?_)
  replace hw := hw x1 e_x1
  clear e_x1
  refine lv_lstore_n (lv' := [(3, .long x1), (0, .int v0), (1, .int v1), (2, .int v2)]) hx hb dX12_quant_5 rfl hl (by decide) rfl ?_; clear hl; clear ls; intro ls hl
  refine lv_iload_n hx hb dX12_quant_6 rfl (lv_at hl 1 rfl) ?_
  refine lv_i2l (v := v0.toInt64) hx hb dX12_quant_7 rfl ?_
  refine lv_lconst (v := 1) hx hb dX12_quant_8 (by decide) ?_
  refine lv_iload_n hx hb dX12_quant_9 rfl (lv_at hl 2 rfl) ?_
  refine lv_lshl (v := (1 : Int64) <<< (v1.toInt64 &&& 63)) hx hb dX12_quant_10 rfl ?_
  refine lv_ladd hx hb dX12_quant_11 ?_
  refine lv_lload_n hx hb dX12_quant_12 rfl (lv_at hl 0 rfl) ?_
  refine lv_lmul hx hb dX12_quant_13 ?_
  refine lv_lconst (v := 1) hx hb dX12_quant_14 (by decide) ?_
  refine lv_iload_n hx hb dX12_quant_15 rfl (lv_at hl 2 rfl) ?_
  refine lv_iconst (v := 1) hx hb dX12_quant_16 (by decide) ?_
  refine lv_iadd hx hb dX12_quant_17 ?_
  refine lv_lshl (v := (1 : Int64) <<< ((v1 + (1 : Int32)).toInt64 &&& 63)) hx hb dX12_quant_18 rfl ?_
  have hPc := pSub (ws' := (w_X12_down cy)) hP [] rfl
  have hDc := dSub (ws' := (w_X12_down cy)) hD [] (by decide) rfl
  have hFc := va_free (wc := (w_X12_down cy)) hD hS hA [] rfl
  refine va_calll (va_runS (As := [.long (((v0.toInt64) + ((1 : Int64) <<< (v1.toInt64 &&& 63))) * x1), .long ((1 : Int64) <<< ((v1 + (1 : Int32)).toInt64 &&& 63))]) (rest := []) ⟨hx, hb, hml, hown, hts⟩ (c_X12_down l dC dI cy  H.size (((v0.toInt64) + ((1 : Int64) <<< (v1.toInt64 &&& 63))) * x1) ((1 : Int64) <<< ((v1 + (1 : Int32)).toInt64 &&& 63)) _ hw) (va_cwS 2 hts (goodS mw_674 mw_672 mw_673 mw_5) rfl rfl rfl (by decide +kernel) ⟨Nat.le_of_ble_eq_true rfl, Nat.le_of_ble_eq_true rfl⟩) ⟨PX_blind, PX_pre hPc hK hDc hG⟩ rfl rfl hl.1 rfl (lv_room (Nat.le_of_ble_eq_true rfl)) dX12_quant_19 ⟨Nat.zero_le _, Nat.zero_le _⟩) hS (fun q _ h => hFc q h) hFc ?_; clear hw hS; intro r2 _ t H1 locs1 ht hvm hw hB hz1 hk1 hS
  obtain ⟨hP1, -, -⟩ := hB
  rw [ht] at hP1
  replace hP := jC0 hP hD [] [] rfl hk1 hP1 (w_X12_quant cy) rfl rfl rfl 0 rfl (by decide +kernel); clear hD; obtain ⟨hP, hD⟩ := hP
  replace hP : va_P (dC, dI) vwCl (w_X12_quant cy) H1 := hP
  replace hD : va_D A (w_X12_quant cy) := hD
  clear hPc hDc hFc hP1 hk1 hz1 hvm ht; clear t; clear H locs; obtain ⟨H, hH⟩ : ∃ H, H = H1 := ⟨_, rfl⟩; obtain ⟨locs, hlo⟩ : ∃ L, L = locs1 := ⟨_, rfl⟩; subst hH; subst hlo
  refine W.widen (k := 0) (n := 0) (Nat.le_refl 0) (Nat.le_refl 0) ?_
  refine lv_lconst (v := 0) hx hb dX12_quant_22 (by decide) ?_
  refine lv_lload_n hx hb dX12_quant_23 rfl (lv_at hl 0 rfl) ?_
  refine lv_lconst (v := 1) hx hb dX12_quant_24 (by decide) ?_
  refine lv_lsub hx hb dX12_quant_25 ?_
  have hPc := pSub (ws' := (w_X12_nearest cy)) hP [] rfl
  have hDc := dSub (ws' := (w_X12_nearest cy)) hD [] (by decide) rfl
  have hFc := va_free (wc := (w_X12_nearest cy)) hD hS hA [] rfl
  refine va_calli (va_runS (As := [.long r2, .long (0 : Int64), .long (x1 - (1 : Int64))]) (rest := []) ⟨hx, hb, hml, hown, hts⟩ (c_X12_nearest l dC dI cy  H.size r2 (0 : Int64) (x1 - (1 : Int64)) _ hw) (va_cwS 3 hts (goodS mw_616 mw_614 mw_615 mw_5) rfl rfl rfl (by decide +kernel) ⟨Nat.le_of_ble_eq_true rfl, Nat.le_of_ble_eq_true rfl⟩) ⟨PX_blind, PX_pre hPc hK hDc hG⟩ rfl rfl hl.1 rfl (lv_room (Nat.le_of_ble_eq_true rfl)) dX12_quant_26 ⟨Nat.zero_le _, Nat.zero_le _⟩) hS (fun q _ h => hFc q h) hFc ?_; clear hw hS; intro r3 _ t H1 locs1 ht hvm hw hB hz1 hk1 hS
  obtain ⟨hP1, -, -⟩ := hB
  rw [ht] at hP1
  replace hP := jC0 hP hD [] [] rfl hk1 hP1 (w_X12_quant cy) rfl rfl rfl 0 rfl (by decide +kernel); clear hD; obtain ⟨hP, hD⟩ := hP
  replace hP : va_P (dC, dI) vwCl (w_X12_quant cy) H1 := hP
  replace hD : va_D A (w_X12_quant cy) := hD
  clear hPc hDc hFc hP1 hk1 hz1 hvm ht; clear t; clear H locs; obtain ⟨H, hH⟩ : ∃ H, H = H1 := ⟨_, rfl⟩; obtain ⟨locs, hlo⟩ : ∃ L, L = locs1 := ⟨_, rfl⟩; subst hH; subst hlo
  refine W.widen (k := 0) (n := 0) (Nat.le_refl 0) (Nat.le_refl 0) ?_
  subst hQe
  exact W.iret (v := r3) hx hb hr (fun t ht hW => ⟨⟨r3, (), rfl, hw, by rw [ht]; exact hP, va_K.moved hW.alike hK, hD⟩, hS.F ht⟩) hS.2.2 dX12_quant_29
set_option maxHeartbeats 4000000 in
set_option maxRecDepth 100000 in
theorem c_X12_unquant (l : Launch) (dC : Nat → ClassId) (dI : Nat → Nat → Nat) (cy : Nat → ClassId) (sz : Nat) (v0 : Int32) (v1 : Int32) (v2 : Int32) (post : Int32 → Prop) (hw : wp_X12_unquant v0 v1 v2 post) : Met l yX12_unquant wsX12_unquant ({ frames := 1, cells := 0, slots := 0, locals := 25 }) (PX dC dI cy [.int v0, .int v1, .int v2] sz (w_X12_unquant cy)) (va_Qi (fun (r : Int32) (u : Unit) => post r) (QX dC dI cy (va_A (w_X12_unquant cy) sz) (fun (u : Unit) => w_X12_unquant cy)) (va_A (w_X12_unquant cy) sz)) 0 0 (va_A (w_X12_unquant cy) sz) := by
  refine Met.ofW (cc := cX12_unquant) (maxL := 5) (ret := (some .int)) (by decide) rfl ?_
  intro p e s m args below meth c s₁ B hml hv
  obtain ⟨rfl, hsz, hP, hK, hD0, hG⟩ := hv
  have hx := B.exec
  have hb := B.bytes
  have hr := B.returns
  have hts := atoms_spec (ws := wsX12_unquant) B.pre
  have hown : s.vm.findClass RX12 = some m.cls := findClass_of_methodNamed B.named
  have hlocks := B.notSynchronized
  subst hsz
  have hD := hD0.self (sz := s.heap.size)
  generalize hAe : va_A (w_X12_unquant cy) s.heap.size = A at hD ⊢
  have hA : ∀ q : Nat, s.heap.size ≤ q → A q := fun q h => by rw [← hAe]; exact Or.inr h
  have hS : va_S A s.heap s.heap [] := va_S.rf
  have hl := lv_entry ([.int v0, .int v1, .int v2]) (n := 5) (Nat.le_of_ble_eq_true rfl)
  rw [lg_entry_eq]
  generalize (lg_sl ([.int v0, .int v1, .int v2]) ++ List.replicate (5 - (lg_sl ([.int v0, .int v1, .int v2])).length) Slot.unset).toArray = ls at hl ⊢
  replace hl : lv_has ls 5 [(0, .int v0), (1, .int v1), (2, .int v2)] := hl
  clear hAe hD0 B
  unfold wp_X12_unquant at hw
  generalize hQe : MQ below _ _ s _ _ _ = Q0
  generalize ([.int v0, .int v1, .int v2] : List Value).toArray = av at *
  obtain ⟨H, hH⟩ : ∃ H, H = s.heap := ⟨_, rfl⟩
  obtain ⟨locs, hlo⟩ : ∃ L : List Loc, L = [] := ⟨_, rfl⟩
  replace hP : va_P (dC, dI) vwCl (w_X12_unquant cy) H := by rw [hH]; exact hP
  replace hS : va_S A s.heap H locs := by rw [hH, hlo]; exact hS
  suffices hgo : W p l e ({ frames := 1, cells := 0, slots := 0, locals := 25 }) s m av below meth c H locs 0 0 Q0 (F0 m 0 ls []) by rw [hH, hlo] at hgo; exact hgo
  clear hH hlo
  refine lv_iload_n hx hb dX12_unquant_0 rfl (lv_at hl 2 rfl) ?_
  refine lv_if_ne (tgt := 6) hx hb dX12_unquant_1 (by decide) (fun c1 => ?_) (fun c1 => ?_)
  · replace hw := hw.2 c1; clear c1
    refine lv_lconst (v := 1) hx hb dX12_unquant_6 (by decide) ?_
    refine lv_iload_n hx hb dX12_unquant_7 rfl (lv_at hl 2 rfl) ?_
    refine lv_lshl (v := (1 : Int64) <<< (v2.toInt64 &&& 63)) hx hb dX12_unquant_8 rfl ?_
    refine lv_lconst (v := 1) hx hb dX12_unquant_9 (by decide) ?_
    refine lv_lsub hx hb dX12_unquant_10 ?_
    refine lv_topl (fun x2 e_x2 => ?_)
    replace hw := hw x2 e_x2
    clear e_x2
    refine lv_lstore_n (lv' := [(3, .long x2), (0, .int v0), (1, .int v1), (2, .int v2)]) hx hb dX12_unquant_11 rfl hl (by decide) rfl ?_; clear hl; clear ls; intro ls hl
    refine lv_ldc2 (v := 2) hx hb hown (hts _ (List.mem_cons_of_mem _ mw_201)) dX12_unquant_12 ?_
    refine lv_iload_n hx hb dX12_unquant_15 rfl (lv_at hl 1 rfl) ?_
    refine lv_i2l (v := v0.toInt64) hx hb dX12_unquant_16 rfl ?_
    refine lv_lmul hx hb dX12_unquant_17 ?_
    refine lv_lconst (v := 1) hx hb dX12_unquant_18 (by decide) ?_
    refine lv_ladd hx hb dX12_unquant_19 ?_
    refine lv_lconst (v := 1) hx hb dX12_unquant_20 (by decide) ?_
    refine lv_iload_n hx hb dX12_unquant_21 rfl (lv_at hl 2 rfl) ?_
    refine lv_lshl (v := (1 : Int64) <<< (v1.toInt64 &&& 63)) hx hb dX12_unquant_22 rfl ?_
    refine lv_lmul hx hb dX12_unquant_23 ?_
    refine lv_lload_n hx hb dX12_unquant_24 rfl (lv_at hl 0 rfl) ?_
    have hPc := pSub (ws' := (w_X12_down cy)) hP [] rfl
    have hDc := dSub (ws' := (w_X12_down cy)) hD [] (by decide) rfl
    have hFc := va_free (wc := (w_X12_down cy)) hD hS hA [] rfl
    refine va_calll (va_runS (As := [.long ((((2 : Int64) * (v0.toInt64)) + (1 : Int64)) * ((1 : Int64) <<< (v1.toInt64 &&& 63))), .long x2]) (rest := []) ⟨hx, hb, hml, hown, hts⟩ (c_X12_down l dC dI cy  H.size ((((2 : Int64) * (v0.toInt64)) + (1 : Int64)) * ((1 : Int64) <<< (v1.toInt64 &&& 63))) x2 _ hw) (va_cwS 2 hts (goodS mw_674 mw_672 mw_673 mw_5) rfl rfl rfl (by decide +kernel) ⟨Nat.le_of_ble_eq_true rfl, Nat.le_of_ble_eq_true rfl⟩) ⟨PX_blind, PX_pre hPc hK hDc hG⟩ rfl rfl hl.1 rfl (lv_room (Nat.le_of_ble_eq_true rfl)) dX12_unquant_25 ⟨Nat.zero_le _, Nat.zero_le _⟩) hS (fun q _ h => hFc q h) hFc ?_; clear hw hS; intro r3 _ t H1 locs1 ht hvm hw hB hz1 hk1 hS
    obtain ⟨hP1, -, -⟩ := hB
    rw [ht] at hP1
    replace hP := jC0 hP hD [] [] rfl hk1 hP1 (w_X12_unquant cy) rfl rfl rfl 0 rfl (by decide +kernel); clear hD; obtain ⟨hP, hD⟩ := hP
    replace hP : va_P (dC, dI) vwCl (w_X12_unquant cy) H1 := hP
    replace hD : va_D A (w_X12_unquant cy) := hD
    clear hPc hDc hFc hP1 hk1 hz1 hvm ht; clear t; clear H locs; obtain ⟨H, hH⟩ : ∃ H, H = H1 := ⟨_, rfl⟩; obtain ⟨locs, hlo⟩ : ∃ L, L = locs1 := ⟨_, rfl⟩; subst hH; subst hlo
    refine W.widen (k := 0) (n := 0) (Nat.le_refl 0) (Nat.le_refl 0) ?_
    refine lv_lconst (v := 1) hx hb dX12_unquant_28 (by decide) ?_
    refine lv_iload_n hx hb dX12_unquant_29 rfl (lv_at hl 2 rfl) ?_
    refine lv_lshl (v := (1 : Int64) <<< (v1.toInt64 &&& 63)) hx hb dX12_unquant_30 rfl ?_
    refine lv_lsub hx hb dX12_unquant_31 ?_
    refine lv_l2i (v := (r3 - ((1 : Int64) <<< (v1.toInt64 &&& 63))).toInt32) hx hb dX12_unquant_32 rfl ?_
    subst hQe
    exact W.iret (v := (r3 - ((1 : Int64) <<< (v1.toInt64 &&& 63))).toInt32) hx hb hr (fun t ht hW => ⟨⟨((r3 - ((1 : Int64) <<< (v1.toInt64 &&& 63))).toInt32), (), rfl, hw, by rw [ht]; exact hP, va_K.moved hW.alike hK, hD⟩, hS.F ht⟩) hS.2.2 dX12_unquant_33
  · replace hw := hw.1 c1; clear c1
    refine lv_iconst (v := 0) hx hb dX12_unquant_4 (by decide) ?_
    subst hQe
    exact W.iret (v := (0 : Int32)) hx hb hr (fun t ht hW => ⟨⟨(0 : Int32), (), rfl, hw, by rw [ht]; exact hP, va_K.moved hW.alike hK, hD⟩, hS.F ht⟩) hS.2.2 dX12_unquant_5
set_option maxHeartbeats 4000000 in
set_option maxRecDepth 100000 in
theorem c_X12_putBits (l : Launch) (dC : Nat → ClassId) (dI : Nat → Nat → Nat) (cy : Nat → ClassId) (h0 h_row h_kept h_isKept h_aside h_eight h_rows h_scales h_dealt h_bytes h_heardRow h_made h_comes h_backs h_fresh : Nat) (sz : Nat) (v1 : Int32) (v2 : Int32) (c_thrown : Int32) (c_nodeS : Int32) (c_nodeD : Int32) (c_pairE : Int32) (c_pairO : Int32) (c_bit : Int32) (c_lag : Int32) (c_lagSum : Int32) (c_bytes : Nat → Int32) (post : Int32 → (Nat → Int32) → Prop) (hw : wp_X12_putBits v1 v2 c_bit c_bytes post) : Met l yX12_putBits wsX12_putBits ({ frames := 0, cells := 0, slots := 0, locals := 0 }) (PX dC dI cy [.ref h0, .int v1, .int v2] sz (w_X12_putBits h0 h_row h_kept h_isKept h_aside h_eight h_rows h_scales h_dealt h_bytes h_heardRow h_made h_comes h_backs h_fresh cy c_thrown c_nodeS c_nodeD c_pairE c_pairO c_bit c_lag c_lagSum c_bytes)) (va_Qv (fun (u : Int32 × (Nat → Int32)) => post u.1 u.2) (QX dC dI cy (va_A (w_X12_putBits h0 h_row h_kept h_isKept h_aside h_eight h_rows h_scales h_dealt h_bytes h_heardRow h_made h_comes h_backs h_fresh cy c_thrown c_nodeS c_nodeD c_pairE c_pairO c_bit c_lag c_lagSum c_bytes) sz) (fun (u : Int32 × (Nat → Int32)) => w_X12_putBits h0 h_row h_kept h_isKept h_aside h_eight h_rows h_scales h_dealt h_bytes h_heardRow h_made h_comes h_backs h_fresh cy c_thrown c_nodeS c_nodeD c_pairE c_pairO u.1 c_lag c_lagSum u.2)) (va_A (w_X12_putBits h0 h_row h_kept h_isKept h_aside h_eight h_rows h_scales h_dealt h_bytes h_heardRow h_made h_comes h_backs h_fresh cy c_thrown c_nodeS c_nodeD c_pairE c_pairO c_bit c_lag c_lagSum c_bytes) sz)) 0 0 (va_A (w_X12_putBits h0 h_row h_kept h_isKept h_aside h_eight h_rows h_scales h_dealt h_bytes h_heardRow h_made h_comes h_backs h_fresh cy c_thrown c_nodeS c_nodeD c_pairE c_pairO c_bit c_lag c_lagSum c_bytes) sz) := by
  refine Met.ofW (cc := cX12_putBits) (maxL := 4) (ret := none) (by decide) rfl ?_
  intro p e s m args below meth c s₁ B hml hv
  obtain ⟨rfl, hsz, hP, hK, hD0, hG⟩ := hv
  have hx := B.exec
  have hb := B.bytes
  have hr := B.returns
  have hts := atoms_spec (ws := wsX12_putBits) B.pre
  have hown : s.vm.findClass RX12 = some m.cls := findClass_of_methodNamed B.named
  have hlocks := B.notSynchronized
  subst hsz
  have hD := hD0.self (sz := s.heap.size)
  generalize hAe : va_A (w_X12_putBits h0 h_row h_kept h_isKept h_aside h_eight h_rows h_scales h_dealt h_bytes h_heardRow h_made h_comes h_backs h_fresh cy c_thrown c_nodeS c_nodeD c_pairE c_pairO c_bit c_lag c_lagSum c_bytes) s.heap.size = A at hD ⊢
  have hA : ∀ q : Nat, s.heap.size ≤ q → A q := fun q h => by rw [← hAe]; exact Or.inr h
  have hS : va_S A s.heap s.heap [] := va_S.rf
  have hl := lv_entry ([.ref h0, .int v1, .int v2]) (n := 4) (Nat.le_of_ble_eq_true rfl)
  rw [lg_entry_eq]
  generalize (lg_sl ([.ref h0, .int v1, .int v2]) ++ List.replicate (4 - (lg_sl ([.ref h0, .int v1, .int v2])).length) Slot.unset).toArray = ls at hl ⊢
  replace hl : lv_has ls 4 [(0, .ref h0), (1, .int v1), (2, .int v2)] := hl
  have inX12 : ∀ w ∈ u_ws RX12 TX12 22, w ∈ wsX12_putBits := fun w h => List.mem_cons_of_mem _ (inlX12 w h)
  clear hAe hD0 B
  unfold wp_X12_putBits at hw
  generalize hQe : MQ below _ _ s _ _ _ = Q0
  generalize ([.ref h0, .int v1, .int v2] : List Value).toArray = av at *
  obtain ⟨H, hH⟩ : ∃ H, H = s.heap := ⟨_, rfl⟩
  obtain ⟨locs, hlo⟩ : ∃ L : List Loc, L = [] := ⟨_, rfl⟩
  replace hP : va_P (dC, dI) vwCl (w_X12_putBits h0 h_row h_kept h_isKept h_aside h_eight h_rows h_scales h_dealt h_bytes h_heardRow h_made h_comes h_backs h_fresh cy c_thrown c_nodeS c_nodeD c_pairE c_pairO c_bit c_lag c_lagSum c_bytes) H := by rw [hH]; exact hP
  replace hS : va_S A s.heap H locs := by rw [hH, hlo]; exact hS
  suffices hgo : W p l e ({ frames := 0, cells := 0, slots := 0, locals := 0 }) s m av below meth c H locs 0 0 Q0 (F0 m 0 ls []) by rw [hH, hlo] at hgo; exact hgo
  clear hH hlo
  refine lv_iload_n hx hb dX12_putBits_0 rfl (lv_at hl 2 rfl) ?_
  refine lv_iconst (v := 1) hx hb dX12_putBits_1 (by decide) ?_
  refine lv_isub hx hb dX12_putBits_2 ?_
  refine lv_topi (fun x1 e_x1 => ?_)
  replace hw := hw x1 e_x1
  clear e_x1
  refine lv_istore_n (lv' := [(3, .int x1), (0, .ref h0), (1, .int v1), (2, .int v2)]) hx hb dX12_putBits_3 rfl hl (by decide) rfl ?_; clear hl; clear ls; intro ls hl
  replace hl := lv_sub (l' := [(3, .int x1), (0, .ref h0), (1, .int v1)]) hl [0, 1, 2] rfl
  revert hl; revert hS; revert hD; revert hP; revert ls; revert locs; revert H
  revert hw; revert c_bytes; revert c_bit; revert x1
  refine Lz3_gr ?_; intro g2 ih3 x4 x5 f6 hw
  intro H locs ls hP hD hS hl
  refine lv_iload_n hx hb dX12_putBits_4 rfl (lv_at hl 0 rfl) ?_
  refine lv_if_lt (tgt := 55) hx hb dX12_putBits_5 (by decide) (fun c7 => ?_) (fun c7 => ?_)
  · replace hw := hw.1 c7; clear c7
    clear ih3
    subst hQe
    exact W.vret hx hb hr (fun t ht hW => ⟨⟨(x5, f6), rfl, hw, by rw [ht]; exact hP, va_K.moved hW.alike hK, hD⟩, hS.F ht⟩) hS.2.2 dX12_putBits_55
  · replace hw := hw.2 c7; clear c7
    refine lv_aload_n hx hb dX12_putBits_8 rfl (lv_at hl 1 rfl) ?_
    refine va_get (D := (dC, dI)) (ci := 12) (v := .ref h_bytes) (C := RX12) (T := TX12) (N := 22) hx hb hts inX12 hown hK hP 0 rfl rfl 13 (by decide) (hts _ (List.mem_cons_of_mem _ mw_178)) (fun _ h9 => h9) rfl dX12_putBits_9 ?_
    refine lv_aload_n hx hb dX12_putBits_12 rfl (lv_at hl 1 rfl) ?_
    refine va_get (D := (dC, dI)) (ci := 12) (v := .int x5) (C := RX12) (T := TX12) (N := 22) hx hb hts inX12 hown hK hP 0 rfl rfl 14 (by decide) (hts _ (List.mem_cons_of_mem _ mw_656)) (fun _ h9 => h9) rfl dX12_putBits_13 ?_
    refine lv_bipush (v := 8) hx hb dX12_putBits_16 (by decide) ?_
    refine lv_idiv hx hb dX12_putBits_18 (by decide) ?_
    refine lv_topi (fun x8 e_x8 => ?_)
    replace hw := hw x8 e_x8
    clear e_x8
    refine lv_dup2_11 hx hb dX12_putBits_19 rfl rfl ?_
    obtain ⟨h9, hw⟩ := hw
    refine xiald (k := x8.toNatClampNeg) hx hb hK hP 1 0 rfl rfl h9 rfl dX12_putBits_20 ?_
    refine lv_iload_n hx hb dX12_putBits_21 rfl (lv_at hl 2 rfl) ?_
    refine lv_iload_n hx hb dX12_putBits_22 rfl (lv_at hl 0 rfl) ?_
    refine lv_ishr hx hb dX12_putBits_23 ?_
    refine lv_iconst (v := 1) hx hb dX12_putBits_24 (by decide) ?_
    refine lv_iand hx hb dX12_putBits_25 ?_
    refine lv_bipush (v := 7) hx hb dX12_putBits_26 (by decide) ?_
    refine lv_aload_n hx hb dX12_putBits_28 rfl (lv_at hl 1 rfl) ?_
    refine va_get (D := (dC, dI)) (ci := 12) (v := .int x5) (C := RX12) (T := TX12) (N := 22) hx hb hts inX12 hown hK hP 0 rfl rfl 14 (by decide) (hts _ (List.mem_cons_of_mem _ mw_656)) (fun _ h9 => h9) rfl dX12_putBits_29 ?_
    refine lv_bipush (v := 8) hx hb dX12_putBits_32 (by decide) ?_
    refine lv_irem hx hb dX12_putBits_34 (by decide) ?_
    refine lv_topi (fun x10 e_x10 => ?_)
    replace hw := hw x10 e_x10
    clear e_x10
    refine lv_isub hx hb dX12_putBits_35 ?_
    refine lv_ishl hx hb dX12_putBits_36 ?_
    refine lv_ior hx hb dX12_putBits_37 ?_
    obtain ⟨h11, hw⟩ := hw
    refine xiast (k := x8.toNatClampNeg) hx hb hK hP hD hS 1 0 rfl rfl h11 rfl dX12_putBits_38 ?_; clear hP hD hS; clear H locs; intro f12 e_f12 H locs hP hD hS
    replace hw := hw f12 e_f12
    clear e_f12
    replace hP : va_P (dC, dI) vwCl (w_X12_putBits h0 h_row h_kept h_isKept h_aside h_eight h_rows h_scales h_dealt h_bytes h_heardRow h_made h_comes h_backs h_fresh cy c_thrown c_nodeS c_nodeD c_pairE c_pairO x5 c_lag c_lagSum f12) H := hP
    replace hD : va_D A (w_X12_putBits h0 h_row h_kept h_isKept h_aside h_eight h_rows h_scales h_dealt h_bytes h_heardRow h_made h_comes h_backs h_fresh cy c_thrown c_nodeS c_nodeD c_pairE c_pairO x5 c_lag c_lagSum f12) := hD
    refine lv_aload_n hx hb dX12_putBits_39 rfl (lv_at hl 1 rfl) ?_
    refine lv_dup hx hb dX12_putBits_40 rfl ?_
    refine va_get (D := (dC, dI)) (ci := 12) (v := .int x5) (C := RX12) (T := TX12) (N := 22) hx hb hts inX12 hown hK hP 0 rfl rfl 14 (by decide) (hts _ (List.mem_cons_of_mem _ mw_656)) (fun _ h9 => h9) rfl dX12_putBits_41 ?_
    refine lv_iconst (v := 1) hx hb dX12_putBits_44 (by decide) ?_
    refine lv_iadd hx hb dX12_putBits_45 ?_
    refine lv_topi (fun x13 e_x13 => ?_)
    replace hw := hw x13 e_x13
    clear e_x13
    refine va_put (D := (dC, dI)) (ci := 12) (v := .int x13) (ty := .int) (C := RX12) (T := TX12) (N := 22) hx hb hts inX12 tyX12 tyX12_ok nmX12 hown hK hP hD hS 0 rfl rfl 14 (by decide) (hts _ (List.mem_cons_of_mem _ mw_656)) (fun _ h9 => h9) rfl (by decide +kernel) rfl rfl (Nat.le_of_ble_eq_true rfl) dX12_putBits_46 ?_; clear hP hD hS; clear H locs; intro H locs hP hD hS
    replace hP : va_P (dC, dI) vwCl (w_X12_putBits h0 h_row h_kept h_isKept h_aside h_eight h_rows h_scales h_dealt h_bytes h_heardRow h_made h_comes h_backs h_fresh cy c_thrown c_nodeS c_nodeD c_pairE c_pairO x13 c_lag c_lagSum f12) H := hP
    replace hD : va_D A (w_X12_putBits h0 h_row h_kept h_isKept h_aside h_eight h_rows h_scales h_dealt h_bytes h_heardRow h_made h_comes h_backs h_fresh cy c_thrown c_nodeS c_nodeD c_pairE c_pairO x13 c_lag c_lagSum f12) := hD
    refine lv_iinc (v := x4 + (-1)) (lv' := [(3, .int (x4 + (-1))), (0, .ref h0), (1, .int v1)]) hx hb dX12_putBits_49 hl (k := 0) rfl rfl (by decide) rfl ?_; clear hl; clear ls; intro ls hl
    refine lv_goto (tgt := 4) hx hb dX12_putBits_52 (by decide) ?_
    exact ih3 (x4 + (-1)) x13 f12 hw H locs ls hP hD hS (lv_sub hl [0, 1, 2] rfl)
set_option maxHeartbeats 4000000 in
set_option maxRecDepth 100000 in
theorem c_X12_getBits (l : Launch) (dC : Nat → ClassId) (dI : Nat → Nat → Nat) (cy : Nat → ClassId) (h0 h_row h_kept h_isKept h_aside h_eight h_rows h_scales h_dealt h_bytes h_heardRow h_made h_comes h_backs h_fresh : Nat) (sz : Nat) (v1 : Int32) (v2 : Int32) (c_thrown : Int32) (c_nodeS : Int32) (c_nodeD : Int32) (c_pairE : Int32) (c_pairO : Int32) (c_bit : Int32) (c_lag : Int32) (c_lagSum : Int32) (c_bytes : Nat → Int32) (post : Int32 → Int32 → Prop) (hw : wp_X12_getBits v1 v2 c_bit c_bytes post) : Met l yX12_getBits wsX12_getBits ({ frames := 0, cells := 0, slots := 0, locals := 0 }) (PX dC dI cy [.ref h0, .int v1, .int v2] sz (w_X12_getBits h0 h_row h_kept h_isKept h_aside h_eight h_rows h_scales h_dealt h_bytes h_heardRow h_made h_comes h_backs h_fresh cy c_thrown c_nodeS c_nodeD c_pairE c_pairO c_bit c_lag c_lagSum c_bytes)) (va_Qi (fun (r : Int32) (u : Int32) => post r u) (QX dC dI cy (va_A (w_X12_getBits h0 h_row h_kept h_isKept h_aside h_eight h_rows h_scales h_dealt h_bytes h_heardRow h_made h_comes h_backs h_fresh cy c_thrown c_nodeS c_nodeD c_pairE c_pairO c_bit c_lag c_lagSum c_bytes) sz) (fun (u : Int32) => w_X12_getBits h0 h_row h_kept h_isKept h_aside h_eight h_rows h_scales h_dealt h_bytes h_heardRow h_made h_comes h_backs h_fresh cy c_thrown c_nodeS c_nodeD c_pairE c_pairO u c_lag c_lagSum c_bytes)) (va_A (w_X12_getBits h0 h_row h_kept h_isKept h_aside h_eight h_rows h_scales h_dealt h_bytes h_heardRow h_made h_comes h_backs h_fresh cy c_thrown c_nodeS c_nodeD c_pairE c_pairO c_bit c_lag c_lagSum c_bytes) sz)) 0 0 (va_A (w_X12_getBits h0 h_row h_kept h_isKept h_aside h_eight h_rows h_scales h_dealt h_bytes h_heardRow h_made h_comes h_backs h_fresh cy c_thrown c_nodeS c_nodeD c_pairE c_pairO c_bit c_lag c_lagSum c_bytes) sz) := by
  refine Met.ofW (cc := cX12_getBits) (maxL := 5) (ret := (some .int)) (by decide) rfl ?_
  intro p e s m args below meth c s₁ B hml hv
  obtain ⟨rfl, hsz, hP, hK, hD0, hG⟩ := hv
  have hx := B.exec
  have hb := B.bytes
  have hr := B.returns
  have hts := atoms_spec (ws := wsX12_getBits) B.pre
  have hown : s.vm.findClass RX12 = some m.cls := findClass_of_methodNamed B.named
  have hlocks := B.notSynchronized
  subst hsz
  have hD := hD0.self (sz := s.heap.size)
  generalize hAe : va_A (w_X12_getBits h0 h_row h_kept h_isKept h_aside h_eight h_rows h_scales h_dealt h_bytes h_heardRow h_made h_comes h_backs h_fresh cy c_thrown c_nodeS c_nodeD c_pairE c_pairO c_bit c_lag c_lagSum c_bytes) s.heap.size = A at hD ⊢
  have hA : ∀ q : Nat, s.heap.size ≤ q → A q := fun q h => by rw [← hAe]; exact Or.inr h
  have hS : va_S A s.heap s.heap [] := va_S.rf
  have hl := lv_entry ([.ref h0, .int v1, .int v2]) (n := 5) (Nat.le_of_ble_eq_true rfl)
  rw [lg_entry_eq]
  generalize (lg_sl ([.ref h0, .int v1, .int v2]) ++ List.replicate (5 - (lg_sl ([.ref h0, .int v1, .int v2])).length) Slot.unset).toArray = ls at hl ⊢
  replace hl : lv_has ls 5 [(0, .ref h0), (1, .int v1), (2, .int v2)] := hl
  have inX12 : ∀ w ∈ u_ws RX12 TX12 22, w ∈ wsX12_getBits := fun w h => List.mem_cons_of_mem _ (inlX12 w h)
  clear hAe hD0 B
  unfold wp_X12_getBits at hw
  generalize hQe : MQ below _ _ s _ _ _ = Q0
  generalize ([.ref h0, .int v1, .int v2] : List Value).toArray = av at *
  obtain ⟨H, hH⟩ : ∃ H, H = s.heap := ⟨_, rfl⟩
  obtain ⟨locs, hlo⟩ : ∃ L : List Loc, L = [] := ⟨_, rfl⟩
  replace hP : va_P (dC, dI) vwCl (w_X12_getBits h0 h_row h_kept h_isKept h_aside h_eight h_rows h_scales h_dealt h_bytes h_heardRow h_made h_comes h_backs h_fresh cy c_thrown c_nodeS c_nodeD c_pairE c_pairO c_bit c_lag c_lagSum c_bytes) H := by rw [hH]; exact hP
  replace hS : va_S A s.heap H locs := by rw [hH, hlo]; exact hS
  suffices hgo : W p l e ({ frames := 0, cells := 0, slots := 0, locals := 0 }) s m av below meth c H locs 0 0 Q0 (F0 m 0 ls []) by rw [hH, hlo] at hgo; exact hgo
  clear hH hlo
  refine lv_iconst (v := 0) hx hb dX12_getBits_0 (by decide) ?_
  refine lv_istore_n (lv' := [(3, .int (0 : Int32)), (0, .ref h0), (1, .int v1), (2, .int v2)]) hx hb dX12_getBits_1 rfl hl (by decide) rfl ?_; clear hl; clear ls; intro ls hl
  refine lv_iconst (v := 0) hx hb dX12_getBits_2 (by decide) ?_
  refine lv_istore (lv' := [(4, .int (0 : Int32)), (3, .int (0 : Int32)), (0, .ref h0), (1, .int v1), (2, .int v2)]) hx hb dX12_getBits_3 hl (by decide) rfl ?_; clear hl; clear ls; intro ls hl
  obtain ⟨x1, e_x1⟩ : ∃ y : Int32, y = (0 : Int32) := ⟨_, rfl⟩
  replace hw := hw x1 e_x1
  replace hl : lv_has ls 5 [(4, .int x1), (3, .int (0 : Int32)), (0, .ref h0), (1, .int v1), (2, .int v2)] := by rw [e_x1]; exact hl
  clear e_x1
  obtain ⟨x2, e_x2⟩ : ∃ y : Int32, y = (0 : Int32) := ⟨_, rfl⟩
  replace hw := hw x2 e_x2
  replace hl : lv_has ls 5 [(4, .int x1), (3, .int x2), (0, .ref h0), (1, .int v1), (2, .int v2)] := by rw [e_x2]; exact hl
  clear e_x2
  replace hl := lv_sub (l' := [(4, .int x1), (3, .int x2), (0, .ref h0), (1, .int v1), (2, .int v2)]) hl [0, 1, 2, 3, 4] rfl
  revert hl; revert hS; revert hD; revert hP; revert ls; revert locs; revert H
  revert hw; revert c_bit; revert x2; revert x1
  refine Lz3_gr ?_; intro g3 ih4 x5 x6 x7 hw
  intro H locs ls hP hD hS hl
  refine lv_iload hx hb dX12_getBits_5 (lv_at hl 0 rfl) ?_
  refine lv_iload_n hx hb dX12_getBits_7 rfl (lv_at hl 3 rfl) ?_
  refine lv_icmp_ge (tgt := 69) hx hb dX12_getBits_8 (by decide) (fun c8 => ?_) (fun c8 => ?_)
  · replace hw := hw.1 c8; clear c8
    clear ih4
    refine lv_iload_n hx hb dX12_getBits_69 rfl (lv_at hl 1 rfl) ?_
    subst hQe
    exact W.iret (v := x6) hx hb hr (fun t ht hW => ⟨⟨x6, x7, rfl, hw, by rw [ht]; exact hP, va_K.moved hW.alike hK, hD⟩, hS.F ht⟩) hS.2.2 dX12_getBits_70
  · replace hw := hw.2 c8; clear c8
    refine lv_iload_n hx hb dX12_getBits_11 rfl (lv_at hl 1 rfl) ?_
    refine lv_iconst (v := 1) hx hb dX12_getBits_12 (by decide) ?_
    refine lv_ishl hx hb dX12_getBits_13 ?_
    refine lv_aload_n hx hb dX12_getBits_14 rfl (lv_at hl 2 rfl) ?_
    refine va_get (D := (dC, dI)) (ci := 12) (v := .int x7) (C := RX12) (T := TX12) (N := 22) hx hb hts inX12 hown hK hP 0 rfl rfl 14 (by decide) (hts _ (List.mem_cons_of_mem _ mw_656)) (fun _ h9 => h9) rfl dX12_getBits_15 ?_
    refine lv_iload_n hx hb dX12_getBits_18 rfl (lv_at hl 4 rfl) ?_
    refine jn1 (Gg := fun (x9 : Int32) => ∀ (H : Heap) (locs : List Loc) (ls : Array Slot), va_P (dC, dI) vwCl (w_X12_getBits h0 h_row h_kept h_isKept h_aside h_eight h_rows h_scales h_dealt h_bytes h_heardRow h_made h_comes h_backs h_fresh cy c_thrown c_nodeS c_nodeD c_pairE c_pairO x7 c_lag c_lagSum c_bytes) H → va_D A (w_X12_getBits h0 h_row h_kept h_isKept h_aside h_eight h_rows h_scales h_dealt h_bytes h_heardRow h_made h_comes h_backs h_fresh cy c_thrown c_nodeS c_nodeD c_pairE c_pairO x7 c_lag c_lagSum c_bytes) → va_S A s.heap H locs → lv_has ls 5 [(0, .ref h0), (1, .int v1), (2, .int v2), (4, .int x5)] → W p l e { frames := 0, cells := 0, slots := 0, locals := 0 } s m av below meth c H locs 0 0 Q0 (F0 m 51 ls [.int x9, .int (x6 <<< ((1 : Int32) &&& 31))])) hw ?_ ?_ <;> clear hw
    · clear hP hD hS hl; clear H locs ls; intro x9 hw H locs ls hP hD hS hl
      refine lv_ior hx hb dX12_getBits_51 ?_
      refine lv_topi (fun x12 e_x12 => ?_)
      replace hw := hw x12 e_x12
      clear e_x12
      refine lv_istore_n (lv' := [(3, .int x12), (0, .ref h0), (1, .int v1), (2, .int v2), (4, .int x5)]) hx hb dX12_getBits_52 rfl hl (by decide) rfl ?_; clear hl; clear ls; intro ls hl
      refine lv_aload_n hx hb dX12_getBits_53 rfl (lv_at hl 1 rfl) ?_
      refine lv_dup hx hb dX12_getBits_54 rfl ?_
      refine va_get (D := (dC, dI)) (ci := 12) (v := .int x7) (C := RX12) (T := TX12) (N := 22) hx hb hts inX12 hown hK hP 0 rfl rfl 14 (by decide) (hts _ (List.mem_cons_of_mem _ mw_656)) (fun _ h9 => h9) rfl dX12_getBits_55 ?_
      refine lv_iconst (v := 1) hx hb dX12_getBits_58 (by decide) ?_
      refine lv_iadd hx hb dX12_getBits_59 ?_
      refine lv_topi (fun x13 e_x13 => ?_)
      replace hw := hw x13 e_x13
      clear e_x13
      refine va_put (D := (dC, dI)) (ci := 12) (v := .int x13) (ty := .int) (C := RX12) (T := TX12) (N := 22) hx hb hts inX12 tyX12 tyX12_ok nmX12 hown hK hP hD hS 0 rfl rfl 14 (by decide) (hts _ (List.mem_cons_of_mem _ mw_656)) (fun _ h9 => h9) rfl (by decide +kernel) rfl rfl (Nat.le_of_ble_eq_true rfl) dX12_getBits_60 ?_; clear hP hD hS; clear H locs; intro H locs hP hD hS
      replace hP : va_P (dC, dI) vwCl (w_X12_getBits h0 h_row h_kept h_isKept h_aside h_eight h_rows h_scales h_dealt h_bytes h_heardRow h_made h_comes h_backs h_fresh cy c_thrown c_nodeS c_nodeD c_pairE c_pairO x13 c_lag c_lagSum c_bytes) H := hP
      replace hD : va_D A (w_X12_getBits h0 h_row h_kept h_isKept h_aside h_eight h_rows h_scales h_dealt h_bytes h_heardRow h_made h_comes h_backs h_fresh cy c_thrown c_nodeS c_nodeD c_pairE c_pairO x13 c_lag c_lagSum c_bytes) := hD
      refine lv_iinc (v := x5 + 1) (lv' := [(4, .int (x5 + 1)), (3, .int x12), (0, .ref h0), (1, .int v1), (2, .int v2)]) hx hb dX12_getBits_63 hl (k := 4) rfl rfl (by decide) rfl ?_; clear hl; clear ls; intro ls hl
      refine lv_goto (tgt := 5) hx hb dX12_getBits_66 (by decide) ?_
      exact ih4 (x5 + 1) x12 x13 hw H locs ls hP hD hS (lv_sub hl [0, 1, 2, 3, 4] rfl)
    · intro j11 hw
      refine lv_icmp_ge (tgt := 50) hx hb dX12_getBits_19 (by decide) (fun c14 => ?_) (fun c14 => ?_)
      · replace hw := hw.1 c14; clear c14
        refine lv_iconst (v := 0) hx hb dX12_getBits_50 (by decide) ?_
        exact j11 (0 : Int32) hw H locs ls hP hD hS (lv_sub hl [2, 3, 4, 0] rfl)
      · replace hw := hw.2 c14; clear c14
        refine lv_aload_n hx hb dX12_getBits_22 rfl (lv_at hl 2 rfl) ?_
        refine va_get (D := (dC, dI)) (ci := 12) (v := .ref h_bytes) (C := RX12) (T := TX12) (N := 22) hx hb hts inX12 hown hK hP 0 rfl rfl 13 (by decide) (hts _ (List.mem_cons_of_mem _ mw_178)) (fun _ h9 => h9) rfl dX12_getBits_23 ?_
        refine lv_aload_n hx hb dX12_getBits_26 rfl (lv_at hl 2 rfl) ?_
        refine va_get (D := (dC, dI)) (ci := 12) (v := .int x7) (C := RX12) (T := TX12) (N := 22) hx hb hts inX12 hown hK hP 0 rfl rfl 14 (by decide) (hts _ (List.mem_cons_of_mem _ mw_656)) (fun _ h9 => h9) rfl dX12_getBits_27 ?_
        refine lv_bipush (v := 8) hx hb dX12_getBits_30 (by decide) ?_
        refine lv_idiv hx hb dX12_getBits_32 (by decide) ?_
        refine lv_topi (fun x15 e_x15 => ?_)
        replace hw := hw x15 e_x15
        clear e_x15
        obtain ⟨h16, hw⟩ := hw
        refine xiald (k := x15.toNatClampNeg) hx hb hK hP 1 0 rfl rfl h16 rfl dX12_getBits_33 ?_
        refine lv_bipush (v := 7) hx hb dX12_getBits_34 (by decide) ?_
        refine lv_aload_n hx hb dX12_getBits_36 rfl (lv_at hl 2 rfl) ?_
        refine va_get (D := (dC, dI)) (ci := 12) (v := .int x7) (C := RX12) (T := TX12) (N := 22) hx hb hts inX12 hown hK hP 0 rfl rfl 14 (by decide) (hts _ (List.mem_cons_of_mem _ mw_656)) (fun _ h9 => h9) rfl dX12_getBits_37 ?_
        refine lv_bipush (v := 8) hx hb dX12_getBits_40 (by decide) ?_
        refine lv_irem hx hb dX12_getBits_42 (by decide) ?_
        refine lv_topi (fun x17 e_x17 => ?_)
        replace hw := hw x17 e_x17
        clear e_x17
        refine lv_isub hx hb dX12_getBits_43 ?_
        refine lv_ishr hx hb dX12_getBits_44 ?_
        refine lv_iconst (v := 1) hx hb dX12_getBits_45 (by decide) ?_
        refine lv_iand hx hb dX12_getBits_46 ?_
        refine lv_goto (tgt := 51) hx hb dX12_getBits_47 (by decide) ?_
        exact j11 (((c_bytes x15.toNatClampNeg) >>> (((7 : Int32) - x17) &&& 31)) &&& (1 : Int32)) hw H locs ls hP hD hS (lv_sub hl [2, 3, 4, 0] rfl)
