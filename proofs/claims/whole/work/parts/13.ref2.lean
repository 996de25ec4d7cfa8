set_option maxHeartbeats 4000000 in
set_option maxRecDepth 100000 in
theorem mX6_wouldPay_all (l : Launch) (D : va_G) (G : Nat → ClassId) (mo sa be ke te kn ty : Nat) (ik : Bool) (n tn k : Nat) (N Z S P V : Nat → Int32) (F : Nat → Nat → Int32) (po rd al : Int32) (hk : k ≤ 10) (hn : n = 3 ∨ n = 4) (hSO : SOK n k F) (hN1 : NOK n N) (hSM : SMK k F) (hRF : RFD k F) : CT l yX6_wouldPay wsX6_wouldPay 4 94 D G [.ref mo, .int (nI 3)] [(mo, .inr (6, [.ref sa, .ref be, .int (nI kn), .ref ke, .int (zB ik), .ref te, .int (nI ty)])), (sa, .inl (G 0, 117, .inl (enc n N Z tn po rd al k S P V F)))] [(mo, .inr (6, [.ref sa, .ref be, .int (nI kn), .ref ke, .int (zB ik), .ref te, .int (nI ty)])), (sa, .inl (G 0, 117, .inl (enc n N Z tn po rd al k S P V F)))] (some (.int (da n N F (odR F) k))) := by
  refine CT.of (cc := cX6_wouldPay) (maxL := 4) (ret := (some .int)) (by decide) rfl RX6 rfl (Nat.le_of_ble_eq_true rfl) (fun pp ee s mm bl me cc A ls hx hb hr hml hts hown hlk hnm hA hP hK hD hN hS hl => ?_)
  have hl : lv_has ls 4 [(0, .ref mo), (1, .int (nI 3))] := hl
  have hP : va_P D vwCl [(mo, .inr (6, [.ref sa, .ref be, .int (nI kn), .ref ke, .int (zB ik), .ref te, .int (nI ty)])), (sa, .inl (G 0, 117, .inl (enc n N Z tn po rd al k S P V F)))] s.heap := hP
  have inX6 : ∀ w ∈ wsX60, w ∈ wsX6_wouldPay := fun w h => List.mem_cons_of_mem _ (List.mem_append_right _ h)
  have k7 := hts (.fieldLink RX6 7 "SquareStakesModel" "s" "[I") (List.mem_of_getElem? (i := 1) rfl)
  refine lv_iconst (v := nI 0) hx hb dX6_wouldPay_0 (by decide +kernel) ?_
  refine lv_istore_n (lv' := [(2, .int (nI 0)), (0, .ref mo), (1, .int (nI 3))]) hx hb dX6_wouldPay_1 rfl hl (by decide) rfl (fun ls hl => ?_)
  refine lv_iconst (v := nI 0) hx hb dX6_wouldPay_2 (by decide +kernel) ?_
  refine lv_istore_n (lv' := [(3, .int (nI 0)), (2, .int (nI 0)), (0, .ref mo), (1, .int (nI 3))]) hx hb dX6_wouldPay_3 rfl hl (by decide) rfl (fun ls hl => ?_)
  have LP4 : ∀ (nn4 i : Nat), i ≤ k → k < i + nn4  → ∀ (H : Heap) (locs : List Loc), va_P D vwCl [(mo, .inr (6, [.ref sa, .ref be, .int (nI kn), .ref ke, .int (zB ik), .ref te, .int (nI ty)])), (sa, .inl (G 0, 117, .inl (enc n N Z tn po rd al k S P V F)))] H → va_D A [(mo, .inr (6, [.ref sa, .ref be, .int (nI kn), .ref ke, .int (zB ik), .ref te, .int (nI ty)])), (sa, .inl (G 0, 117, .inl (enc n N Z tn po rd al k S P V F)))] → va_S A s.heap H locs → ∀ ls : Array Slot, lv_has ls 4 [(2, .int (da n N F (odR F) i)), (3, .int (nI i)), (0, .ref mo), (1, .int (nI 3))] → W pp l ee (rmA 4 94) s mm ([.ref mo, .int (nI 3)] : List Value).toArray bl me cc H locs 0 0 (MQ bl (Qres (some (.int (da n N F (odR F) k))) D G [(mo, .inr (6, [.ref sa, .ref be, .int (nI kn), .ref ke, .int (zB ik), .ref te, .int (nI ty)])), (sa, .inl (G 0, 117, .inl (enc n N Z tn po rd al k S P V F)))] A) ([.ref mo, .int (nI 3)] : List Value).toArray s 0 0 A) (F0 mm 4 ls []) := by
    intro nn4
    induction nn4 with
    | zero => intro i h1 h2; exact absurd h2 (by omega)
    | succ nn4 ih4 =>
      intro i hki hni  H locs hP hD hS ls hl
      refine lv_iload_n hx hb dX6_wouldPay_4 rfl (lv_at hl 1 rfl) ?_
      refine lv_aload_n hx hb dX6_wouldPay_5 rfl (lv_at hl 2 rfl) ?_
      refine va_get (D := D) (ci := 6) (v := .ref sa) (C := RX6) (T := TX6) (N := 7) hx hb hts inX6 hown hK hP 0 rfl rfl 0 (by decide) k7 (fun _ h9 => h9) rfl dX6_wouldPay_6 ?_
      refine lv_iconst (v := nI 5) hx hb dX6_wouldPay_9 (by decide +kernel) ?_
      refine rIald hx hb hK hP 1 rfl 5 (by omega) (by decide) dX6_wouldPay_10 ?_
      refine rTop (show enc n N Z tn po rd al k S P V F 5 = nI k from rfl) ?_
      refine bGe (tgt := 59) hx hb dX6_wouldPay_11 (by decide) (by omega) (by omega) (fun c1 => ?_) (fun c1 => ?_)
      · obtain rfl : k = i := by omega
        refine lv_iload_n hx hb dX6_wouldPay_59 rfl (lv_at hl 0 rfl) ?_
        exact rIret hx hb hr hlk hP hK hD hS dX6_wouldPay_60
      · refine lv_iload_n hx hb dX6_wouldPay_14 rfl (lv_at hl 0 rfl) ?_
        refine lv_iload_n hx hb dX6_wouldPay_15 rfl (lv_at hl 3 rfl) ?_
        refine lv_iconst (v := nI 3) hx hb dX6_wouldPay_16 (by decide +kernel) ?_
        refine bEq (tgt := 34) hx hb dX6_wouldPay_17 (by decide) (by omega) (by omega) (fun c2 => ?_) (fun c2 => by exfalso; omega)
        refine lv_aload_n hx hb dX6_wouldPay_34 rfl (lv_at hl 2 rfl) ?_
        refine lv_iload_n hx hb dX6_wouldPay_35 rfl (lv_at hl 1 rfl) ?_
        refine cVr (As := [.int (nI i)]) (rest := [.int (da n N F (odR F) i)]) ⟨hx, hb, hml, hown, hts⟩ hP hK hD hS hN hA (mX6_isRight l D G mo sa be ke te kn ty ik n tn k N Z S P V F po rd al i (by first | assumption | omega) (by first | assumption | omega) (by first | assumption | omega) (by first | assumption | omega) (by first | assumption | omega) (by first | assumption | omega)) (cwV 1 hts gX6_wouldPay_X6_isRight rfl rfl rfl (by decide +kernel) ⟨Nat.le_of_ble_eq_true rfl, Nat.le_of_ble_eq_true rfl⟩) [0, 1] rfl (by decide) 0 6 rfl rfl rfl hl.1 rfl (Nat.le_of_ble_eq_true rfl) dX6_wouldPay_36 ⟨Nat.zero_le _, Nat.zero_le _⟩ (fun H locs hP hS => ?_)
        refine zEq (tgt := 50) hx hb dX6_wouldPay_39 (by decide)  (fun c3 => ?_) (fun c3 => ?_)
        · refine lv_iconst (v := nI 0) hx hb dX6_wouldPay_50 (by decide +kernel) ?_
          refine lv_iadd hx hb dX6_wouldPay_51 ?_
          refine rTop (show (da n N F (odR F) i + nI 0) = da n N F (odR F) (i + 1) from by first | rw [da_t (by assumption)] | (rw [da_f (by assumption)]; exact i_add0 _)) ?_
          refine lv_istore_n (lv' := [(2, .int (da n N F (odR F) (i + 1))), (3, .int (nI i)), (0, .ref mo), (1, .int (nI 3))]) hx hb dX6_wouldPay_52 rfl hl (by decide) rfl (fun ls hl => ?_)
          refine lv_iinc (v := nI (i + 1)) (lv' := [(3, .int (nI (i + 1))), (2, .int (da n N F (odR F) (i + 1))), (0, .ref mo), (1, .int (nI 3))]) hx hb dX6_wouldPay_53 hl (k := 1) rfl (nI_inc i) (by decide) rfl (fun ls hl => ?_)
          refine lv_goto (tgt := 4) hx hb dX6_wouldPay_56 (by decide) ?_
          exact ih4 (i + 1) (by omega) (by omega)  _ _ hP hD hS _ (lv_sub hl [1, 0, 2, 3] rfl)
        · refine lv_aload_n hx hb dX6_wouldPay_42 rfl (lv_at hl 2 rfl) ?_
          refine lv_iload_n hx hb dX6_wouldPay_43 rfl (lv_at hl 1 rfl) ?_
          refine cVr (As := [.int (nI i)]) (rest := [.int (da n N F (odR F) i)]) ⟨hx, hb, hml, hown, hts⟩ hP hK hD hS hN hA (mX6_pays l D G mo sa be ke te kn ty ik n tn k N Z S P V F po rd al i (by first | assumption | omega) (by first | assumption | omega) (by first | assumption | omega)) (cwV 1 hts gX6_wouldPay_X6_pays rfl rfl rfl (by decide +kernel) ⟨Nat.le_of_ble_eq_true rfl, Nat.le_of_ble_eq_true rfl⟩) [0, 1] rfl (by decide) 0 6 rfl rfl rfl hl.1 rfl (Nat.le_of_ble_eq_true rfl) dX6_wouldPay_44 ⟨Nat.zero_le _, Nat.zero_le _⟩ (fun H locs hP hS => ?_)
          refine lv_goto (tgt := 51) hx hb dX6_wouldPay_47 (by decide) ?_
          refine lv_iadd hx hb dX6_wouldPay_51 ?_
          refine rTop (show (da n N F (odR F) i + pay F (odR F) i) = da n N F (odR F) (i + 1) from by first | rw [da_t (by assumption)] | (rw [da_f (by assumption)]; exact i_add0 _)) ?_
          refine lv_istore_n (lv' := [(2, .int (da n N F (odR F) (i + 1))), (3, .int (nI i)), (0, .ref mo), (1, .int (nI 3))]) hx hb dX6_wouldPay_52 rfl hl (by decide) rfl (fun ls hl => ?_)
          refine lv_iinc (v := nI (i + 1)) (lv' := [(3, .int (nI (i + 1))), (2, .int (da n N F (odR F) (i + 1))), (0, .ref mo), (1, .int (nI 3))]) hx hb dX6_wouldPay_53 hl (k := 1) rfl (nI_inc i) (by decide) rfl (fun ls hl => ?_)
          refine lv_goto (tgt := 4) hx hb dX6_wouldPay_56 (by decide) ?_
          exact ih4 (i + 1) (by omega) (by omega)  _ _ hP hD hS _ (lv_sub hl [1, 0, 2, 3] rfl)
  exact LP4 (k + 1 - 0) 0 (by omega) (by omega)  _ _ hP hD hS _ (lv_sub hl [1, 0, 2, 3] rfl)

set_option maxHeartbeats 4000000 in
set_option maxRecDepth 100000 in
theorem mX6_wouldPay_r (l : Launch) (D : va_G) (G : Nat → ClassId) (mo sa be ke te kn ty : Nat) (ik : Bool) (n tn k : Nat) (N Z S P V : Nat → Int32) (F : Nat → Nat → Int32) (po rd al : Int32) (r : Nat) (hk : k ≤ 10) (hn : n = 3 ∨ n = 4) (hSO : SOK n k F) (hN1 : NOK n N) (hSM : SMK k F) (hRF : RFD k F) (hr3 : r < 3) : CT l yX6_wouldPay wsX6_wouldPay 4 94 D G [.ref mo, .int (nI r)] [(mo, .inr (6, [.ref sa, .ref be, .int (nI kn), .ref ke, .int (zB ik), .ref te, .int (nI ty)])), (sa, .inl (G 0, 117, .inl (enc n N Z tn po rd al k S P V F)))] [(mo, .inr (6, [.ref sa, .ref be, .int (nI kn), .ref ke, .int (zB ik), .ref te, .int (nI ty)])), (sa, .inl (G 0, 117, .inl (enc n N Z tn po rd al k S P V F)))] (some (.int (du n N F (odR F) (nI r) k))) := by
  refine CT.of (cc := cX6_wouldPay) (maxL := 4) (ret := (some .int)) (by decide) rfl RX6 rfl (Nat.le_of_ble_eq_true rfl) (fun pp ee s mm bl me cc A ls hx hb hr hml hts hown hlk hnm hA hP hK hD hN hS hl => ?_)
  have hl : lv_has ls 4 [(0, .ref mo), (1, .int (nI r))] := hl
  have hP : va_P D vwCl [(mo, .inr (6, [.ref sa, .ref be, .int (nI kn), .ref ke, .int (zB ik), .ref te, .int (nI ty)])), (sa, .inl (G 0, 117, .inl (enc n N Z tn po rd al k S P V F)))] s.heap := hP
  have inX6 : ∀ w ∈ wsX60, w ∈ wsX6_wouldPay := fun w h => List.mem_cons_of_mem _ (List.mem_append_right _ h)
  have k7 := hts (.fieldLink RX6 7 "SquareStakesModel" "s" "[I") (List.mem_of_getElem? (i := 1) rfl)
  refine lv_iconst (v := nI 0) hx hb dX6_wouldPay_0 (by decide +kernel) ?_
  refine lv_istore_n (lv' := [(2, .int (nI 0)), (0, .ref mo), (1, .int (nI r))]) hx hb dX6_wouldPay_1 rfl hl (by decide) rfl (fun ls hl => ?_)
  refine lv_iconst (v := nI 0) hx hb dX6_wouldPay_2 (by decide +kernel) ?_
  refine lv_istore_n (lv' := [(3, .int (nI 0)), (2, .int (nI 0)), (0, .ref mo), (1, .int (nI r))]) hx hb dX6_wouldPay_3 rfl hl (by decide) rfl (fun ls hl => ?_)
  have LP4 : ∀ (nn4 i : Nat), i ≤ k → k < i + nn4  → ∀ (H : Heap) (locs : List Loc), va_P D vwCl [(mo, .inr (6, [.ref sa, .ref be, .int (nI kn), .ref ke, .int (zB ik), .ref te, .int (nI ty)])), (sa, .inl (G 0, 117, .inl (enc n N Z tn po rd al k S P V F)))] H → va_D A [(mo, .inr (6, [.ref sa, .ref be, .int (nI kn), .ref ke, .int (zB ik), .ref te, .int (nI ty)])), (sa, .inl (G 0, 117, .inl (enc n N Z tn po rd al k S P V F)))] → va_S A s.heap H locs → ∀ ls : Array Slot, lv_has ls 4 [(2, .int (du n N F (odR F) (nI r) i)), (3, .int (nI i)), (0, .ref mo), (1, .int (nI r))] → W pp l ee (rmA 4 94) s mm ([.ref mo, .int (nI r)] : List Value).toArray bl me cc H locs 0 0 (MQ bl (Qres (some (.int (du n N F (odR F) (nI r) k))) D G [(mo, .inr (6, [.ref sa, .ref be, .int (nI kn), .ref ke, .int (zB ik), .ref te, .int (nI ty)])), (sa, .inl (G 0, 117, .inl (enc n N Z tn po rd al k S P V F)))] A) ([.ref mo, .int (nI r)] : List Value).toArray s 0 0 A) (F0 mm 4 ls []) := by
    intro nn4
    induction nn4 with
    | zero => intro i h1 h2; exact absurd h2 (by omega)
    | succ nn4 ih4 =>
      intro i hki hni  H locs hP hD hS ls hl
      refine lv_iload_n hx hb dX6_wouldPay_4 rfl (lv_at hl 1 rfl) ?_
      refine lv_aload_n hx hb dX6_wouldPay_5 rfl (lv_at hl 2 rfl) ?_
      refine va_get (D := D) (ci := 6) (v := .ref sa) (C := RX6) (T := TX6) (N := 7) hx hb hts inX6 hown hK hP 0 rfl rfl 0 (by decide) k7 (fun _ h9 => h9) rfl dX6_wouldPay_6 ?_
      refine lv_iconst (v := nI 5) hx hb dX6_wouldPay_9 (by decide +kernel) ?_
      refine rIald hx hb hK hP 1 rfl 5 (by omega) (by decide) dX6_wouldPay_10 ?_
      refine rTop (show enc n N Z tn po rd al k S P V F 5 = nI k from rfl) ?_
      refine bGe (tgt := 59) hx hb dX6_wouldPay_11 (by decide) (by omega) (by omega) (fun c1 => ?_) (fun c1 => ?_)
      · obtain rfl : k = i := by omega
        refine lv_iload_n hx hb dX6_wouldPay_59 rfl (lv_at hl 0 rfl) ?_
        exact rIret hx hb hr hlk hP hK hD hS dX6_wouldPay_60
      · refine lv_iload_n hx hb dX6_wouldPay_14 rfl (lv_at hl 0 rfl) ?_
        refine lv_iload_n hx hb dX6_wouldPay_15 rfl (lv_at hl 3 rfl) ?_
        refine lv_iconst (v := nI 3) hx hb dX6_wouldPay_16 (by decide +kernel) ?_
        refine bEq (tgt := 34) hx hb dX6_wouldPay_17 (by decide) (by omega) (by omega) (fun c2 => by exfalso; omega) (fun c2 => ?_)
        refine lv_aload_n hx hb dX6_wouldPay_20 rfl (lv_at hl 2 rfl) ?_
        refine va_get (D := D) (ci := 6) (v := .ref sa) (C := RX6) (T := TX6) (N := 7) hx hb hts inX6 hown hK hP 0 rfl rfl 0 (by decide) k7 (fun _ h9 => h9) rfl dX6_wouldPay_21 ?_
        refine lv_iload_n hx hb dX6_wouldPay_24 rfl (lv_at hl 1 rfl) ?_
        refine lv_iconst (v := nI 0) hx hb dX6_wouldPay_25 (by decide +kernel) ?_
        refine cSr (As := [.int (nI i), .int (nI 0)]) (rest := [.ref sa, .int (du n N F (odR F) (nI r) i)]) ⟨hx, hb, hml, hown, hts⟩ hP hK hD hS hN hA (mX6_of l D G i 0 ) (cwS 2 hts gX6_wouldPay_X6_of rfl rfl rfl (by decide +kernel) ⟨Nat.le_of_ble_eq_true rfl, Nat.le_of_ble_eq_true rfl⟩) [] rfl (by decide) rfl hl.1 rfl (Nat.le_of_ble_eq_true rfl) dX6_wouldPay_26 ⟨Nat.zero_le _, Nat.zero_le _⟩ (fun H locs hP hS => ?_)
        refine rIald hx hb hK hP 1 rfl (47 + 7 * i + 0) (by omega) (by decide) dX6_wouldPay_29 ?_
        refine rTop (enc_F n N Z tn po rd al k S P V F i 0 (by omega) (by omega)) ?_
        refine lv_iload_n hx hb dX6_wouldPay_30 rfl (lv_at hl 3 rfl) ?_
        refine lv_icmp_ne (tgt := 50) hx hb dX6_wouldPay_31 (by decide)  (fun c3 => ?_) (fun c3 => ?_)
        · refine lv_iconst (v := nI 0) hx hb dX6_wouldPay_50 (by decide +kernel) ?_
          refine lv_iadd hx hb dX6_wouldPay_51 ?_
          refine rTop (show (du n N F (odR F) (nI r) i + nI 0) = du n N F (odR F) (nI r) (i + 1) from by first | rw [du_t (by assumption) (by assumption)] | (rw [du_f (by assumption)]; exact i_add0 _) | (rw [du_f2 (by assumption)]; exact i_add0 _)) ?_
          refine lv_istore_n (lv' := [(2, .int (du n N F (odR F) (nI r) (i + 1))), (3, .int (nI i)), (0, .ref mo), (1, .int (nI r))]) hx hb dX6_wouldPay_52 rfl hl (by decide) rfl (fun ls hl => ?_)
          refine lv_iinc (v := nI (i + 1)) (lv' := [(3, .int (nI (i + 1))), (2, .int (du n N F (odR F) (nI r) (i + 1))), (0, .ref mo), (1, .int (nI r))]) hx hb dX6_wouldPay_53 hl (k := 1) rfl (nI_inc i) (by decide) rfl (fun ls hl => ?_)
          refine lv_goto (tgt := 4) hx hb dX6_wouldPay_56 (by decide) ?_
          exact ih4 (i + 1) (by omega) (by omega)  _ _ hP hD hS _ (lv_sub hl [1, 0, 2, 3] rfl)
        · refine lv_aload_n hx hb dX6_wouldPay_34 rfl (lv_at hl 2 rfl) ?_
          refine lv_iload_n hx hb dX6_wouldPay_35 rfl (lv_at hl 1 rfl) ?_
          refine cVr (As := [.int (nI i)]) (rest := [.int (du n N F (odR F) (nI r) i)]) ⟨hx, hb, hml, hown, hts⟩ hP hK hD hS hN hA (mX6_isRight l D G mo sa be ke te kn ty ik n tn k N Z S P V F po rd al i (by first | assumption | omega) (by first | assumption | omega) (by first | assumption | omega) (by first | assumption | omega) (by first | assumption | omega) (by first | assumption | omega)) (cwV 1 hts gX6_wouldPay_X6_isRight rfl rfl rfl (by decide +kernel) ⟨Nat.le_of_ble_eq_true rfl, Nat.le_of_ble_eq_true rfl⟩) [0, 1] rfl (by decide) 0 6 rfl rfl rfl hl.1 rfl (Nat.le_of_ble_eq_true rfl) dX6_wouldPay_36 ⟨Nat.zero_le _, Nat.zero_le _⟩ (fun H locs hP hS => ?_)
          refine zEq (tgt := 50) hx hb dX6_wouldPay_39 (by decide)  (fun c4 => ?_) (fun c4 => ?_)
          · refine lv_iconst (v := nI 0) hx hb dX6_wouldPay_50 (by decide +kernel) ?_
            refine lv_iadd hx hb dX6_wouldPay_51 ?_
            refine rTop (show (du n N F (odR F) (nI r) i + nI 0) = du n N F (odR F) (nI r) (i + 1) from by first | rw [du_t (by assumption) (by assumption)] | (rw [du_f (by assumption)]; exact i_add0 _) | (rw [du_f2 (by assumption)]; exact i_add0 _)) ?_
            refine lv_istore_n (lv' := [(2, .int (du n N F (odR F) (nI r) (i + 1))), (3, .int (nI i)), (0, .ref mo), (1, .int (nI r))]) hx hb dX6_wouldPay_52 rfl hl (by decide) rfl (fun ls hl => ?_)
            refine lv_iinc (v := nI (i + 1)) (lv' := [(3, .int (nI (i + 1))), (2, .int (du n N F (odR F) (nI r) (i + 1))), (0, .ref mo), (1, .int (nI r))]) hx hb dX6_wouldPay_53 hl (k := 1) rfl (nI_inc i) (by decide) rfl (fun ls hl => ?_)
            refine lv_goto (tgt := 4) hx hb dX6_wouldPay_56 (by decide) ?_
            exact ih4 (i + 1) (by omega) (by omega)  _ _ hP hD hS _ (lv_sub hl [1, 0, 2, 3] rfl)
          · refine lv_aload_n hx hb dX6_wouldPay_42 rfl (lv_at hl 2 rfl) ?_
            refine lv_iload_n hx hb dX6_wouldPay_43 rfl (lv_at hl 1 rfl) ?_
            refine cVr (As := [.int (nI i)]) (rest := [.int (du n N F (odR F) (nI r) i)]) ⟨hx, hb, hml, hown, hts⟩ hP hK hD hS hN hA (mX6_pays l D G mo sa be ke te kn ty ik n tn k N Z S P V F po rd al i (by first | assumption | omega) (by first | assumption | omega) (by first | assumption | omega)) (cwV 1 hts gX6_wouldPay_X6_pays rfl rfl rfl (by decide +kernel) ⟨Nat.le_of_ble_eq_true rfl, Nat.le_of_ble_eq_true rfl⟩) [0, 1] rfl (by decide) 0 6 rfl rfl rfl hl.1 rfl (Nat.le_of_ble_eq_true rfl) dX6_wouldPay_44 ⟨Nat.zero_le _, Nat.zero_le _⟩ (fun H locs hP hS => ?_)
            refine lv_goto (tgt := 51) hx hb dX6_wouldPay_47 (by decide) ?_
            refine lv_iadd hx hb dX6_wouldPay_51 ?_
            refine rTop (show (du n N F (odR F) (nI r) i + pay F (odR F) i) = du n N F (odR F) (nI r) (i + 1) from by first | rw [du_t (by assumption) (by assumption)] | (rw [du_f (by assumption)]; exact i_add0 _) | (rw [du_f2 (by assumption)]; exact i_add0 _)) ?_
            refine lv_istore_n (lv' := [(2, .int (du n N F (odR F) (nI r) (i + 1))), (3, .int (nI i)), (0, .ref mo), (1, .int (nI r))]) hx hb dX6_wouldPay_52 rfl hl (by decide) rfl (fun ls hl => ?_)
            refine lv_iinc (v := nI (i + 1)) (lv' := [(3, .int (nI (i + 1))), (2, .int (du n N F (odR F) (nI r) (i + 1))), (0, .ref mo), (1, .int (nI r))]) hx hb dX6_wouldPay_53 hl (k := 1) rfl (nI_inc i) (by decide) rfl (fun ls hl => ?_)
            refine lv_goto (tgt := 4) hx hb dX6_wouldPay_56 (by decide) ?_
            exact ih4 (i + 1) (by omega) (by omega)  _ _ hP hD hS _ (lv_sub hl [1, 0, 2, 3] rfl)
  exact LP4 (k + 1 - 0) 0 (by omega) (by omega)  _ _ hP hD hS _ (lv_sub hl [1, 0, 2, 3] rfl)

set_option maxHeartbeats 4000000 in
set_option maxRecDepth 100000 in
theorem mX6_gain (l : Launch) (D : va_G) (G : Nat → ClassId) (mo sa be ke te kn ty : Nat) (ik : Bool) (n tn k : Nat) (N Z S P V : Nat → Int32) (F : Nat → Nat → Int32) (po rd al : Int32) (r : Nat) (x : Int32) (hr3 : r < 3) : CT l yX6_gain wsX6_gain 0 0 D G [.ref mo, .int (nI r), .int x] [(mo, .inr (6, [.ref sa, .ref be, .int (nI kn), .ref ke, .int (zB ik), .ref te, .int (nI ty)])), (sa, .inl (G 0, 117, .inl (enc n N Z tn po rd al k S P V F)))] [(mo, .inr (6, [.ref sa, .ref be, .int (nI kn), .ref ke, .int (zB ik), .ref te, .int (nI ty)])), (sa, .inl (G 0, 117, .inl (enc n N Z tn po rd al k S (upd P r (cap (P r + x))) V F)))] none := by
  refine CT.of (cc := cX6_gain) (maxL := 4) (ret := none) (by decide) rfl RX6 rfl (Nat.le_of_ble_eq_true rfl) (fun pp ee s mm bl me cc A ls hx hb hr hml hts hown hlk hnm hA hP hK hD hN hS hl => ?_)
  have hl : lv_has ls 4 [(0, .ref mo), (1, .int (nI r)), (2, .int x)] := hl
  have hP : va_P D vwCl [(mo, .inr (6, [.ref sa, .ref be, .int (nI kn), .ref ke, .int (zB ik), .ref te, .int (nI ty)])), (sa, .inl (G 0, 117, .inl (enc n N Z tn po rd al k S P V F)))] s.heap := hP
  have inX6 : ∀ w ∈ wsX60, w ∈ wsX6_gain := fun w h => List.mem_cons_of_mem _ (List.mem_append_right _ h)
  have k7 := hts (.fieldLink RX6 7 "SquareStakesModel" "s" "[I") (List.mem_of_getElem? (i := 1) rfl)
  have k70 := hts (.constant RX6 70 (999999)) (List.mem_of_getElem? (i := 2) rfl)
  refine lv_aload_n hx hb dX6_gain_0 rfl (lv_at hl 0 rfl) ?_
  refine va_get (D := D) (ci := 6) (v := .ref sa) (C := RX6) (T := TX6) (N := 7) hx hb hts inX6 hown hK hP 0 rfl rfl 0 (by decide) k7 (fun _ h9 => h9) rfl dX6_gain_1 ?_
  refine lv_bipush (v := nI 9) hx hb dX6_gain_4 (by decide +kernel) ?_
  refine lv_iload_n hx hb dX6_gain_6 rfl (lv_at hl 1 rfl) ?_
  refine lv_iadd hx hb dX6_gain_7 ?_
  refine rTop (show nI 9 + nI r = nI (9 + r) from nI_add 9 r) ?_
  refine rIald hx hb hK hP 1 rfl (9 + r) (by omega) (by decide) dX6_gain_8 ?_
  refine rTop (enc_P n N Z tn po rd al k S P V F r (by omega)) ?_
  refine lv_iload_n hx hb dX6_gain_9 rfl (lv_at hl 2 rfl) ?_
  refine lv_iadd hx hb dX6_gain_10 ?_
  refine lv_istore_n (lv' := [(3, .int (P r + x)), (0, .ref mo), (1, .int (nI r)), (2, .int x)]) hx hb dX6_gain_11 rfl hl (by decide) rfl (fun ls hl => ?_)
  refine lv_aload_n hx hb dX6_gain_12 rfl (lv_at hl 1 rfl) ?_
  refine va_get (D := D) (ci := 6) (v := .ref sa) (C := RX6) (T := TX6) (N := 7) hx hb hts inX6 hown hK hP 0 rfl rfl 0 (by decide) k7 (fun _ h9 => h9) rfl dX6_gain_13 ?_
  refine lv_bipush (v := nI 9) hx hb dX6_gain_16 (by decide +kernel) ?_
  refine lv_iload_n hx hb dX6_gain_18 rfl (lv_at hl 2 rfl) ?_
  refine lv_iadd hx hb dX6_gain_19 ?_
  refine rTop (show nI 9 + nI r = nI (9 + r) from nI_add 9 r) ?_
  refine lv_iload_n hx hb dX6_gain_20 rfl (lv_at hl 0 rfl) ?_
  refine lv_ldc hx hb hown k70 dX6_gain_21 ?_
  refine rTop (show (999999 : Int32) = nI 999999 from by decide +kernel) ?_
  refine lv_icmp_le (tgt := 31) hx hb dX6_gain_23 (by decide)  (fun c1 => ?_) (fun c1 => ?_)
  · refine lv_iload_n hx hb dX6_gain_31 rfl (lv_at hl 0 rfl) ?_
    refine rTop (show (P r + x) = cap (P r + x) from by first | exact (cap_lo (by assumption)).symm | exact (cap_hi (by assumption)).symm) ?_
    refine rIast hx hb hK hP hD hS 1 rfl (9 + r) (by omega) (by decide) dX6_gain_32 (fun H locs hP hD hS => ?_)
    obtain ⟨hP, hD⟩ := wI (g := enc n N Z tn po rd al k S (upd P r (cap (P r + x))) V F) hP hD 1 rfl (enc_wP n N Z tn po rd al k S P V F r (by omega) (cap (P r + x)))
    replace hP : va_P D vwCl [(mo, .inr (6, [.ref sa, .ref be, .int (nI kn), .ref ke, .int (zB ik), .ref te, .int (nI ty)])), (sa, .inl (G 0, 117, .inl (enc n N Z tn po rd al k S (upd P r (cap (P r + x))) V F)))] _ := hP
    have hD : va_D A [(mo, .inr (6, [.ref sa, .ref be, .int (nI kn), .ref ke, .int (zB ik), .ref te, .int (nI ty)])), (sa, .inl (G 0, 117, .inl (enc n N Z tn po rd al k S (upd P r (cap (P r + x))) V F)))] := hD
    exact rVret hx hb hr hlk hP hK hD hS dX6_gain_33
  · refine lv_ldc hx hb hown k70 dX6_gain_26 ?_
    refine rTop (show (999999 : Int32) = nI 999999 from by decide +kernel) ?_
    refine lv_goto (tgt := 32) hx hb dX6_gain_28 (by decide) ?_
    refine rTop (show nI 999999 = cap (P r + x) from by first | exact (cap_lo (by assumption)).symm | exact (cap_hi (by assumption)).symm) ?_
    refine rIast hx hb hK hP hD hS 1 rfl (9 + r) (by omega) (by decide) dX6_gain_32 (fun H locs hP hD hS => ?_)
    obtain ⟨hP, hD⟩ := wI (g := enc n N Z tn po rd al k S (upd P r (cap (P r + x))) V F) hP hD 1 rfl (enc_wP n N Z tn po rd al k S P V F r (by omega) (cap (P r + x)))
    replace hP : va_P D vwCl [(mo, .inr (6, [.ref sa, .ref be, .int (nI kn), .ref ke, .int (zB ik), .ref te, .int (nI ty)])), (sa, .inl (G 0, 117, .inl (enc n N Z tn po rd al k S (upd P r (cap (P r + x))) V F)))] _ := hP
    have hD : va_D A [(mo, .inr (6, [.ref sa, .ref be, .int (nI kn), .ref ke, .int (zB ik), .ref te, .int (nI ty)])), (sa, .inl (G 0, 117, .inl (enc n N Z tn po rd al k S (upd P r (cap (P r + x))) V F)))] := hD
    exact rVret hx hb hr hlk hP hK hD hS dX6_gain_33

set_option maxHeartbeats 4000000 in
set_option maxRecDepth 100000 in
theorem mX6_settle (l : Launch) (D : va_G) (G : Nat → ClassId) (mo sa be ke te kn ty : Nat) (ik : Bool) (n tn k : Nat) (N Z S P V : Nat → Int32) (F : Nat → Nat → Int32) (po rd al : Int32) (hk : k ≤ 10) (hn : n = 3 ∨ n = 4) (hSO : SOK n k F) (hN1 : NOK n N) (hSM : SMK k F) (hRF : RFD k F) : CT l yX6_settle wsX6_settle 4 94 D G [.ref mo] [(mo, .inr (6, [.ref sa, .ref be, .int (nI kn), .ref ke, .int (zB ik), .ref te, .int (nI ty)])), (sa, .inl (G 0, 117, .inl (enc n N Z tn po rd al k S P V F)))] [(mo, .inr (6, [.ref sa, .ref be, .int (nI kn), .ref ke, .int (zB ik), .ref te, .int (nI ty)])), (sa, .inl (G 0, 117, .inl (enc n N Z tn ((stl n N F (odR F) P po k).2) rd al 0 S ((stl n N F (odR F) P po k).1) V F)))] none := by
  refine CT.of (cc := cX6_settle) (maxL := 2) (ret := none) (by decide) rfl RX6 rfl (Nat.le_of_ble_eq_true rfl) (fun pp ee s mm bl me cc A ls hx hb hr hml hts hown hlk hnm hA hP hK hD hN hS hl => ?_)
  have hl : lv_has ls 2 [(0, .ref mo)] := hl
  have hP : va_P D vwCl [(mo, .inr (6, [.ref sa, .ref be, .int (nI kn), .ref ke, .int (zB ik), .ref te, .int (nI ty)])), (sa, .inl (G 0, 117, .inl (enc n N Z tn po rd al k S P V F)))] s.heap := hP
  have inX6 : ∀ w ∈ wsX60, w ∈ wsX6_settle := fun w h => List.mem_cons_of_mem _ (List.mem_append_right _ h)
  have k7 := hts (.fieldLink RX6 7 "SquareStakesModel" "s" "[I") (List.mem_of_getElem? (i := 1) rfl)
  refine lv_iconst (v := nI 0) hx hb dX6_settle_0 (by decide +kernel) ?_
  refine lv_istore_n (lv' := [(1, .int (nI 0)), (0, .ref mo)]) hx hb dX6_settle_1 rfl hl (by decide) rfl (fun ls hl => ?_)
  have LP2 : ∀ (nn2 i : Nat), i ≤ k → k < i + nn2  → ∀ (H : Heap) (locs : List Loc), va_P D vwCl [(mo, .inr (6, [.ref sa, .ref be, .int (nI kn), .ref ke, .int (zB ik), .ref te, .int (nI ty)])), (sa, .inl (G 0, 117, .inl (enc n N Z tn ((stl n N F (odR F) P po i).2) rd al k S ((stl n N F (odR F) P po i).1) V F)))] H → va_D A [(mo, .inr (6, [.ref sa, .ref be, .int (nI kn), .ref ke, .int (zB ik), .ref te, .int (nI ty)])), (sa, .inl (G 0, 117, .inl (enc n N Z tn ((stl n N F (odR F) P po i).2) rd al k S ((stl n N F (odR F) P po i).1) V F)))] → va_S A s.heap H locs → ∀ ls : Array Slot, lv_has ls 2 [(1, .int (nI i)), (0, .ref mo)] → W pp l ee (rmA 4 94) s mm ([.ref mo] : List Value).toArray bl me cc H locs 0 0 (MQ bl (Qres none D G [(mo, .inr (6, [.ref sa, .ref be, .int (nI kn), .ref ke, .int (zB ik), .ref te, .int (nI ty)])), (sa, .inl (G 0, 117, .inl (enc n N Z tn ((stl n N F (odR F) P po k).2) rd al 0 S ((stl n N F (odR F) P po k).1) V F)))] A) ([.ref mo] : List Value).toArray s 0 0 A) (F0 mm 2 ls []) := by
    intro nn2
    induction nn2 with
    | zero => intro i h1 h2; exact absurd h2 (by omega)
    | succ nn2 ih2 =>
      intro i hki hni  H locs hP hD hS ls hl
      refine lv_iload_n hx hb dX6_settle_2 rfl (lv_at hl 0 rfl) ?_
      refine lv_aload_n hx hb dX6_settle_3 rfl (lv_at hl 1 rfl) ?_
      refine va_get (D := D) (ci := 6) (v := .ref sa) (C := RX6) (T := TX6) (N := 7) hx hb hts inX6 hown hK hP 0 rfl rfl 0 (by decide) k7 (fun _ h9 => h9) rfl dX6_settle_4 ?_
      refine lv_iconst (v := nI 5) hx hb dX6_settle_7 (by decide +kernel) ?_
      refine rIald hx hb hK hP 1 rfl 5 (by omega) (by decide) dX6_settle_8 ?_
      refine rTop (show enc n N Z tn ((stl n N F (odR F) P po i).2) rd al k S ((stl n N F (odR F) P po i).1) V F 5 = nI k from rfl) ?_
      refine bGe (tgt := 67) hx hb dX6_settle_9 (by decide) (by omega) (by omega) (fun c1 => ?_) (fun c1 => ?_)
      · obtain rfl : k = i := by omega
        refine lv_aload_n hx hb dX6_settle_67 rfl (lv_at hl 1 rfl) ?_
        refine va_get (D := D) (ci := 6) (v := .ref sa) (C := RX6) (T := TX6) (N := 7) hx hb hts inX6 hown hK hP 0 rfl rfl 0 (by decide) k7 (fun _ h9 => h9) rfl dX6_settle_68 ?_
        refine lv_iconst (v := nI 5) hx hb dX6_settle_71 (by decide +kernel) ?_
        refine lv_iconst (v := nI 0) hx hb dX6_settle_72 (by decide +kernel) ?_
        refine rIast hx hb hK hP hD hS 1 rfl 5 (by omega) (by decide) dX6_settle_73 (fun H locs hP hD hS => ?_)
        obtain ⟨hP, hD⟩ := wI (g := enc n N Z tn ((stl n N F (odR F) P po k).2) rd al 0 S ((stl n N F (odR F) P po k).1) V F) hP hD 1 rfl (enc_w5 n N Z tn ((stl n N F (odR F) P po k).2) rd al k S ((stl n N F (odR F) P po k).1) V F 0)
        replace hP : va_P D vwCl [(mo, .inr (6, [.ref sa, .ref be, .int (nI kn), .ref ke, .int (zB ik), .ref te, .int (nI ty)])), (sa, .inl (G 0, 117, .inl (enc n N Z tn ((stl n N F (odR F) P po k).2) rd al 0 S ((stl n N F (odR F) P po k).1) V F)))] _ := hP
        have hD : va_D A [(mo, .inr (6, [.ref sa, .ref be, .int (nI kn), .ref ke, .int (zB ik), .ref te, .int (nI ty)])), (sa, .inl (G 0, 117, .inl (enc n N Z tn ((stl n N F (odR F) P po k).2) rd al 0 S ((stl n N F (odR F) P po k).1) V F)))] := hD
        exact rVret hx hb hr hlk hP hK hD hS dX6_settle_74
      · refine lv_aload_n hx hb dX6_settle_12 rfl (lv_at hl 1 rfl) ?_
        refine lv_iload_n hx hb dX6_settle_13 rfl (lv_at hl 0 rfl) ?_
        refine cVr (As := [.int (nI i)]) (rest := []) ⟨hx, hb, hml, hown, hts⟩ hP hK hD hS hN hA (mX6_isRight l D G mo sa be ke te kn ty ik n tn k N Z S ((stl n N F (odR F) P po i).1) V F ((stl n N F (odR F) P po i).2) rd al i (by first | assumption | omega) (by first | assumption | omega) (by first | assumption | omega) (by first | assumption | omega) (by first | assumption | omega) (by first | assumption | omega)) (cwV 1 hts gX6_settle_X6_isRight rfl rfl rfl (by decide +kernel) ⟨Nat.le_of_ble_eq_true rfl, Nat.le_of_ble_eq_true rfl⟩) [0, 1] rfl (by decide) 0 6 rfl rfl rfl hl.1 rfl (Nat.le_of_ble_eq_true rfl) dX6_settle_14 ⟨Nat.zero_le _, Nat.zero_le _⟩ (fun H locs hP hS => ?_)
        refine zEq (tgt := 42) hx hb dX6_settle_17 (by decide)  (fun c2 => ?_) (fun c2 => ?_)
        · refine lv_aload_n hx hb dX6_settle_42 rfl (lv_at hl 1 rfl) ?_
          refine va_get (D := D) (ci := 6) (v := .ref sa) (C := RX6) (T := TX6) (N := 7) hx hb hts inX6 hown hK hP 0 rfl rfl 0 (by decide) k7 (fun _ h9 => h9) rfl dX6_settle_43 ?_
          refine lv_iconst (v := nI 2) hx hb dX6_settle_46 (by decide +kernel) ?_
          refine lv_dup2_11 hx hb dX6_settle_47 rfl rfl ?_
          refine rIald hx hb hK hP 1 rfl 2 (by omega) (by decide) dX6_settle_48 ?_
          refine rTop (show enc n N Z tn ((stl n N F (odR F) P po i).2) rd al k S ((stl n N F (odR F) P po i).1) V F 2 = (stl n N F (odR F) P po i).2 from rfl) ?_
          refine lv_aload_n hx hb dX6_settle_49 rfl (lv_at hl 1 rfl) ?_
          refine va_get (D := D) (ci := 6) (v := .ref sa) (C := RX6) (T := TX6) (N := 7) hx hb hts inX6 hown hK hP 0 rfl rfl 0 (by decide) k7 (fun _ h9 => h9) rfl dX6_settle_50 ?_
          refine lv_iload_n hx hb dX6_settle_53 rfl (lv_at hl 0 rfl) ?_
          refine lv_iconst (v := nI 3) hx hb dX6_settle_54 (by decide +kernel) ?_
          refine cSr (As := [.int (nI i), .int (nI 3)]) (rest := [.ref sa, .int ((stl n N F (odR F) P po i).2), .int (nI 2), .ref sa]) ⟨hx, hb, hml, hown, hts⟩ hP hK hD hS hN hA (mX6_of l D G i 3 ) (cwS 2 hts gX6_settle_X6_of rfl rfl rfl (by decide +kernel) ⟨Nat.le_of_ble_eq_true rfl, Nat.le_of_ble_eq_true rfl⟩) [] rfl (by decide) rfl hl.1 rfl (Nat.le_of_ble_eq_true rfl) dX6_settle_55 ⟨Nat.zero_le _, Nat.zero_le _⟩ (fun H locs hP hS => ?_)
          refine rIald hx hb hK hP 1 rfl (47 + 7 * i + 3) (by omega) (by decide) dX6_settle_58 ?_
          refine rTop (enc_F n N Z tn ((stl n N F (odR F) P po i).2) rd al k S ((stl n N F (odR F) P po i).1) V F i 3 (by omega) (by omega)) ?_
          refine lv_iadd hx hb dX6_settle_59 ?_
          refine rIast hx hb hK hP hD hS 1 rfl 2 (by omega) (by decide) dX6_settle_60 (fun H locs hP hD hS => ?_)
          obtain ⟨hP, hD⟩ := wI (g := enc n N Z tn ((stl n N F (odR F) P po i).2 + F i 3) rd al k S ((stl n N F (odR F) P po i).1) V F) hP hD 1 rfl (enc_w2 n N Z tn ((stl n N F (odR F) P po i).2) rd al k S ((stl n N F (odR F) P po i).1) V F ((stl n N F (odR F) P po i).2 + F i 3))
          replace hP : va_P D vwCl [(mo, .inr (6, [.ref sa, .ref be, .int (nI kn), .ref ke, .int (zB ik), .ref te, .int (nI ty)])), (sa, .inl (G 0, 117, .inl (enc n N Z tn ((stl n N F (odR F) P po i).2 + F i 3) rd al k S ((stl n N F (odR F) P po i).1) V F)))] _ := hP
          have hD : va_D A [(mo, .inr (6, [.ref sa, .ref be, .int (nI kn), .ref ke, .int (zB ik), .ref te, .int (nI ty)])), (sa, .inl (G 0, 117, .inl (enc n N Z tn ((stl n N F (odR F) P po i).2 + F i 3) rd al k S ((stl n N F (odR F) P po i).1) V F)))] := hD
          refine lv_iinc (v := nI (i + 1)) (lv' := [(1, .int (nI (i + 1))), (0, .ref mo)]) hx hb dX6_settle_61 hl (k := 0) rfl (nI_inc i) (by decide) rfl (fun ls hl => ?_)
          refine lv_goto (tgt := 2) hx hb dX6_settle_64 (by decide) ?_
          obtain ⟨hP, hD⟩ := wI (g := enc n N Z tn ((stl n N F (odR F) P po (i + 1)).2) rd al k S ((stl n N F (odR F) P po (i + 1)).1) V F) hP hD 1 rfl (fun j hj => by first | rw [st_t (by assumption)] | rw [st_f (by assumption)])
          replace hP : va_P D vwCl [(mo, .inr (6, [.ref sa, .ref be, .int (nI kn), .ref ke, .int (zB ik), .ref te, .int (nI ty)])), (sa, .inl (G 0, 117, .inl (enc n N Z tn ((stl n N F (odR F) P po (i + 1)).2) rd al k S ((stl n N F (odR F) P po (i + 1)).1) V F)))] _ := hP
          have hD : va_D A [(mo, .inr (6, [.ref sa, .ref be, .int (nI kn), .ref ke, .int (zB ik), .ref te, .int (nI ty)])), (sa, .inl (G 0, 117, .inl (enc n N Z tn ((stl n N F (odR F) P po (i + 1)).2) rd al k S ((stl n N F (odR F) P po (i + 1)).1) V F)))] := hD
          exact ih2 (i + 1) (by omega) (by omega)  _ _ hP hD hS _ (lv_sub hl [0, 1] rfl)
        · refine lv_aload_n hx hb dX6_settle_20 rfl (lv_at hl 1 rfl) ?_
          refine lv_aload_n hx hb dX6_settle_21 rfl (lv_at hl 1 rfl) ?_
          refine va_get (D := D) (ci := 6) (v := .ref sa) (C := RX6) (T := TX6) (N := 7) hx hb hts inX6 hown hK hP 0 rfl rfl 0 (by decide) k7 (fun _ h9 => h9) rfl dX6_settle_22 ?_
          refine lv_iload_n hx hb dX6_settle_25 rfl (lv_at hl 0 rfl) ?_
          refine lv_iconst (v := nI 0) hx hb dX6_settle_26 (by decide +kernel) ?_
          refine cSr (As := [.int (nI i), .int (nI 0)]) (rest := [.ref sa, .ref mo]) ⟨hx, hb, hml, hown, hts⟩ hP hK hD hS hN hA (mX6_of l D G i 0 ) (cwS 2 hts gX6_settle_X6_of rfl rfl rfl (by decide +kernel) ⟨Nat.le_of_ble_eq_true rfl, Nat.le_of_ble_eq_true rfl⟩) [] rfl (by decide) rfl hl.1 rfl (Nat.le_of_ble_eq_true rfl) dX6_settle_27 ⟨Nat.zero_le _, Nat.zero_le _⟩ (fun H locs hP hS => ?_)
          refine rIald hx hb hK hP 1 rfl (47 + 7 * i + 0) (by omega) (by decide) dX6_settle_30 ?_
          refine rTop (enc_F n N Z tn ((stl n N F (odR F) P po i).2) rd al k S ((stl n N F (odR F) P po i).1) V F i 0 (by omega) (by omega)) ?_
          refine rTop (show F i 0 = nI (rv F i) from (hSO i (by omega)).2.1) ?_
          have hrv := (hSO i (by omega)).2.2
          refine lv_aload_n hx hb dX6_settle_31 rfl (lv_at hl 1 rfl) ?_
          refine lv_iload_n hx hb dX6_settle_32 rfl (lv_at hl 0 rfl) ?_
          refine cVr (As := [.int (nI i)]) (rest := [.int (nI (rv F i)), .ref mo]) ⟨hx, hb, hml, hown, hts⟩ hP hK hD hS hN hA (mX6_pays l D G mo sa be ke te kn ty ik n tn k N Z S ((stl n N F (odR F) P po i).1) V F ((stl n N F (odR F) P po i).2) rd al i (by first | assumption | omega) (by first | assumption | omega) (by first | assumption | omega)) (cwV 1 hts gX6_settle_X6_pays rfl rfl rfl (by decide +kernel) ⟨Nat.le_of_ble_eq_true rfl, Nat.le_of_ble_eq_true rfl⟩) [0, 1] rfl (by decide) 0 6 rfl rfl rfl hl.1 rfl (Nat.le_of_ble_eq_true rfl) dX6_settle_33 ⟨Nat.zero_le _, Nat.zero_le _⟩ (fun H locs hP hS => ?_)
          refine cV (As := [.int (nI (rv F i)), .int (pay F (odR F) i)]) (rest := []) ⟨hx, hb, hml, hown, hts⟩ hP hK hD hS hN hA (mX6_gain l D G mo sa be ke te kn ty ik n tn k N Z S ((stl n N F (odR F) P po i).1) V F ((stl n N F (odR F) P po i).2) rd al (rv F i) (pay F (odR F) i) (by first | assumption | omega)) (cwV 2 hts gX6_settle_X6_gain rfl rfl rfl (by decide +kernel) ⟨Nat.le_of_ble_eq_true rfl, Nat.le_of_ble_eq_true rfl⟩) [0, 1] rfl (by decide) (Eq.trans (b := [mo, sa]) rfl rfl) 0 6 rfl rfl rfl hl.1 rfl (Nat.le_of_ble_eq_true rfl) dX6_settle_36 ⟨Nat.zero_le _, Nat.zero_le _⟩ (fun H locs hP hD hS => ?_)
          have hP : va_P D vwCl [(mo, .inr (6, [.ref sa, .ref be, .int (nI kn), .ref ke, .int (zB ik), .ref te, .int (nI ty)])), (sa, .inl (G 0, 117, .inl (enc n N Z tn ((stl n N F (odR F) P po i).2) rd al k S (upd ((stl n N F (odR F) P po i).1) (rv F i) (cap (((stl n N F (odR F) P po i).1) (rv F i) + (pay F (odR F) i)))) V F)))] H := hP
          have hD : va_D A [(mo, .inr (6, [.ref sa, .ref be, .int (nI kn), .ref ke, .int (zB ik), .ref te, .int (nI ty)])), (sa, .inl (G 0, 117, .inl (enc n N Z tn ((stl n N F (odR F) P po i).2) rd al k S (upd ((stl n N F (odR F) P po i).1) (rv F i) (cap (((stl n N F (odR F) P po i).1) (rv F i) + (pay F (odR F) i)))) V F)))] := hD
          refine lv_goto (tgt := 61) hx hb dX6_settle_39 (by decide) ?_
          refine lv_iinc (v := nI (i + 1)) (lv' := [(1, .int (nI (i + 1))), (0, .ref mo)]) hx hb dX6_settle_61 hl (k := 0) rfl (nI_inc i) (by decide) rfl (fun ls hl => ?_)
          refine lv_goto (tgt := 2) hx hb dX6_settle_64 (by decide) ?_
          obtain ⟨hP, hD⟩ := wI (g := enc n N Z tn ((stl n N F (odR F) P po (i + 1)).2) rd al k S ((stl n N F (odR F) P po (i + 1)).1) V F) hP hD 1 rfl (fun j hj => by first | rw [st_t (by assumption)] | rw [st_f (by assumption)])
          replace hP : va_P D vwCl [(mo, .inr (6, [.ref sa, .ref be, .int (nI kn), .ref ke, .int (zB ik), .ref te, .int (nI ty)])), (sa, .inl (G 0, 117, .inl (enc n N Z tn ((stl n N F (odR F) P po (i + 1)).2) rd al k S ((stl n N F (odR F) P po (i + 1)).1) V F)))] _ := hP
          have hD : va_D A [(mo, .inr (6, [.ref sa, .ref be, .int (nI kn), .ref ke, .int (zB ik), .ref te, .int (nI ty)])), (sa, .inl (G 0, 117, .inl (enc n N Z tn ((stl n N F (odR F) P po (i + 1)).2) rd al k S ((stl n N F (odR F) P po (i + 1)).1) V F)))] := hD
          exact ih2 (i + 1) (by omega) (by omega)  _ _ hP hD hS _ (lv_sub hl [0, 1] rfl)
  obtain ⟨hP, hD⟩ := wI (g := enc n N Z tn ((stl n N F (odR F) P po 0).2) rd al k S ((stl n N F (odR F) P po 0).1) V F) hP hD 1 rfl (fun j hj => rfl)
  replace hP : va_P D vwCl [(mo, .inr (6, [.ref sa, .ref be, .int (nI kn), .ref ke, .int (zB ik), .ref te, .int (nI ty)])), (sa, .inl (G 0, 117, .inl (enc n N Z tn ((stl n N F (odR F) P po 0).2) rd al k S ((stl n N F (odR F) P po 0).1) V F)))] _ := hP
  have hD : va_D A [(mo, .inr (6, [.ref sa, .ref be, .int (nI kn), .ref ke, .int (zB ik), .ref te, .int (nI ty)])), (sa, .inl (G 0, 117, .inl (enc n N Z tn ((stl n N F (odR F) P po 0).2) rd al k S ((stl n N F (odR F) P po 0).1) V F)))] := hD
  exact LP2 (k + 1 - 0) 0 (by omega) (by omega)  _ _ hP hD hS _ (lv_sub hl [0, 1] rfl)

set_option maxHeartbeats 4000000 in
set_option maxRecDepth 100000 in
theorem mX6_table (l : Launch) (D : va_G) (G : Nat → ClassId) (mo sa be ke te kn ty : Nat) (ik : Bool) (n tn k : Nat) (N Z S P V : Nat → Int32) (F : Nat → Nat → Int32) (po rd al : Int32) (hk : k ≤ 10) : CT l yX6_table wsX6_table 1 21 D G [.ref mo] [(mo, .inr (6, [.ref sa, .ref be, .int (nI kn), .ref ke, .int (zB ik), .ref te, .int (nI ty)])), (sa, .inl (G 0, 117, .inl (enc n N Z tn po rd al k S P V F)))] [(mo, .inr (6, [.ref sa, .ref be, .int (nI kn), .ref ke, .int (zB ik), .ref te, .int (nI ty)])), (sa, .inl (G 0, 117, .inl (enc n N Z tn po rd al k S P V F)))] (some (.int (aa F k))) := by
  refine CT.of (cc := cX6_table) (maxL := 3) (ret := (some .int)) (by decide) rfl RX6 rfl (Nat.le_of_ble_eq_true rfl) (fun pp ee s mm bl me cc A ls hx hb hr hml hts hown hlk hnm hA hP hK hD hN hS hl => ?_)
  have hl : lv_has ls 3 [(0, .ref mo)] := hl
  have hP : va_P D vwCl [(mo, .inr (6, [.ref sa, .ref be, .int (nI kn), .ref ke, .int (zB ik), .ref te, .int (nI ty)])), (sa, .inl (G 0, 117, .inl (enc n N Z tn po rd al k S P V F)))] s.heap := hP
  have inX6 : ∀ w ∈ wsX60, w ∈ wsX6_table := fun w h => List.mem_cons_of_mem _ (List.mem_append_right _ h)
  have k7 := hts (.fieldLink RX6 7 "SquareStakesModel" "s" "[I") (List.mem_of_getElem? (i := 1) rfl)
  refine lv_iconst (v := nI 0) hx hb dX6_table_0 (by decide +kernel) ?_
  refine lv_istore_n (lv' := [(1, .int (nI 0)), (0, .ref mo)]) hx hb dX6_table_1 rfl hl (by decide) rfl (fun ls hl => ?_)
  refine lv_iconst (v := nI 0) hx hb dX6_table_2 (by decide +kernel) ?_
  refine lv_istore_n (lv' := [(2, .int (nI 0)), (1, .int (nI 0)), (0, .ref mo)]) hx hb dX6_table_3 rfl hl (by decide) rfl (fun ls hl => ?_)
  have LP4 : ∀ (nn4 i : Nat), i ≤ k → k < i + nn4  → ∀ (H : Heap) (locs : List Loc), va_P D vwCl [(mo, .inr (6, [.ref sa, .ref be, .int (nI kn), .ref ke, .int (zB ik), .ref te, .int (nI ty)])), (sa, .inl (G 0, 117, .inl (enc n N Z tn po rd al k S P V F)))] H → va_D A [(mo, .inr (6, [.ref sa, .ref be, .int (nI kn), .ref ke, .int (zB ik), .ref te, .int (nI ty)])), (sa, .inl (G 0, 117, .inl (enc n N Z tn po rd al k S P V F)))] → va_S A s.heap H locs → ∀ ls : Array Slot, lv_has ls 3 [(1, .int (aa F i)), (2, .int (nI i)), (0, .ref mo)] → W pp l ee (rmA 1 21) s mm ([.ref mo] : List Value).toArray bl me cc H locs 0 0 (MQ bl (Qres (some (.int (aa F k))) D G [(mo, .inr (6, [.ref sa, .ref be, .int (nI kn), .ref ke, .int (zB ik), .ref te, .int (nI ty)])), (sa, .inl (G 0, 117, .inl (enc n N Z tn po rd al k S P V F)))] A) ([.ref mo] : List Value).toArray s 0 0 A) (F0 mm 4 ls []) := by
    intro nn4
    induction nn4 with
    | zero => intro i h1 h2; exact absurd h2 (by omega)
    | succ nn4 ih4 =>
      intro i hki hni  H locs hP hD hS ls hl
      refine lv_iload_n hx hb dX6_table_4 rfl (lv_at hl 1 rfl) ?_
      refine lv_aload_n hx hb dX6_table_5 rfl (lv_at hl 2 rfl) ?_
      refine va_get (D := D) (ci := 6) (v := .ref sa) (C := RX6) (T := TX6) (N := 7) hx hb hts inX6 hown hK hP 0 rfl rfl 0 (by decide) k7 (fun _ h9 => h9) rfl dX6_table_6 ?_
      refine lv_iconst (v := nI 5) hx hb dX6_table_9 (by decide +kernel) ?_
      refine rIald hx hb hK hP 1 rfl 5 (by omega) (by decide) dX6_table_10 ?_
      refine rTop (show enc n N Z tn po rd al k S P V F 5 = nI k from rfl) ?_
      refine bGe (tgt := 33) hx hb dX6_table_11 (by decide) (by omega) (by omega) (fun c1 => ?_) (fun c1 => ?_)
      · obtain rfl : k = i := by omega
        refine lv_iload_n hx hb dX6_table_33 rfl (lv_at hl 0 rfl) ?_
        exact rIret hx hb hr hlk hP hK hD hS dX6_table_34
      · refine lv_iload_n hx hb dX6_table_14 rfl (lv_at hl 0 rfl) ?_
        refine lv_aload_n hx hb dX6_table_15 rfl (lv_at hl 2 rfl) ?_
        refine va_get (D := D) (ci := 6) (v := .ref sa) (C := RX6) (T := TX6) (N := 7) hx hb hts inX6 hown hK hP 0 rfl rfl 0 (by decide) k7 (fun _ h9 => h9) rfl dX6_table_16 ?_
        refine lv_iload_n hx hb dX6_table_19 rfl (lv_at hl 1 rfl) ?_
        refine lv_iconst (v := nI 3) hx hb dX6_table_20 (by decide +kernel) ?_
        refine cSr (As := [.int (nI i), .int (nI 3)]) (rest := [.ref sa, .int (aa F i)]) ⟨hx, hb, hml, hown, hts⟩ hP hK hD hS hN hA (mX6_of l D G i 3 ) (cwS 2 hts gX6_table_X6_of rfl rfl rfl (by decide +kernel) ⟨Nat.le_of_ble_eq_true rfl, Nat.le_of_ble_eq_true rfl⟩) [] rfl (by decide) rfl hl.1 rfl (Nat.le_of_ble_eq_true rfl) dX6_table_21 ⟨Nat.zero_le _, Nat.zero_le _⟩ (fun H locs hP hS => ?_)
        refine rIald hx hb hK hP 1 rfl (47 + 7 * i + 3) (by omega) (by decide) dX6_table_24 ?_
        refine rTop (enc_F n N Z tn po rd al k S P V F i 3 (by omega) (by omega)) ?_
        refine lv_iadd hx hb dX6_table_25 ?_
        refine lv_istore_n (lv' := [(1, .int (aa F i + F i 3)), (2, .int (nI i)), (0, .ref mo)]) hx hb dX6_table_26 rfl hl (by decide) rfl (fun ls hl => ?_)
        refine lv_iinc (v := nI (i + 1)) (lv' := [(2, .int (nI (i + 1))), (1, .int (aa F i + F i 3)), (0, .ref mo)]) hx hb dX6_table_27 hl (k := 1) rfl (nI_inc i) (by decide) rfl (fun ls hl => ?_)
        refine lv_goto (tgt := 4) hx hb dX6_table_30 (by decide) ?_
        exact ih4 (i + 1) (by omega) (by omega)  _ _ hP hD hS _ (lv_sub hl [1, 0, 2] rfl)
  exact LP4 (k + 1 - 0) 0 (by omega) (by omega)  _ _ hP hD hS _ (lv_sub hl [1, 0, 2] rfl)

set_option maxHeartbeats 4000000 in
set_option maxRecDepth 100000 in
theorem mX6_clear (l : Launch) (D : va_G) (G : Nat → ClassId) (mo sa be ke te kn ty : Nat) (ik : Bool) (n tn k : Nat) (N Z S P V : Nat → Int32) (F : Nat → Nat → Int32) (po rd al : Int32) (hk : k ≤ 10) : CT l yX6_clear wsX6_clear 2 43 D G [.ref mo] [(mo, .inr (6, [.ref sa, .ref be, .int (nI kn), .ref ke, .int (zB ik), .ref te, .int (nI ty)])), (sa, .inl (G 0, 117, .inl (enc n N Z tn po rd al k S P V F)))] [(mo, .inr (6, [.ref sa, .ref be, .int (nI kn), .ref ke, .int (zB ik), .ref te, .int (nI ty)])), (sa, .inl (G 0, 117, .inl (enc n N zr tn (po + aa F k) (nI 0) al 0 S P V F)))] none := by
  refine CT.of (cc := cX6_clear) (maxL := 2) (ret := none) (by decide) rfl RX6 rfl (Nat.le_of_ble_eq_true rfl) (fun pp ee s mm bl me cc A ls hx hb hr hml hts hown hlk hnm hA hP hK hD hN hS hl => ?_)
  have hl : lv_has ls 2 [(0, .ref mo)] := hl
  have hP : va_P D vwCl [(mo, .inr (6, [.ref sa, .ref be, .int (nI kn), .ref ke, .int (zB ik), .ref te, .int (nI ty)])), (sa, .inl (G 0, 117, .inl (enc n N Z tn po rd al k S P V F)))] s.heap := hP
  have inX6 : ∀ w ∈ wsX60, w ∈ wsX6_clear := fun w h => List.mem_cons_of_mem _ (List.mem_append_right _ h)
  have k7 := hts (.fieldLink RX6 7 "SquareStakesModel" "s" "[I") (List.mem_of_getElem? (i := 1) rfl)
  refine lv_aload_n hx hb dX6_clear_0 rfl (lv_at hl 0 rfl) ?_
  refine va_get (D := D) (ci := 6) (v := .ref sa) (C := RX6) (T := TX6) (N := 7) hx hb hts inX6 hown hK hP 0 rfl rfl 0 (by decide) k7 (fun _ h9 => h9) rfl dX6_clear_1 ?_
  refine lv_iconst (v := nI 2) hx hb dX6_clear_4 (by decide +kernel) ?_
  refine lv_dup2_11 hx hb dX6_clear_5 rfl rfl ?_
  refine rIald hx hb hK hP 1 rfl 2 (by omega) (by decide) dX6_clear_6 ?_
  refine rTop (show enc n N Z tn po rd al k S P V F 2 = po from rfl) ?_
  refine lv_aload_n hx hb dX6_clear_7 rfl (lv_at hl 0 rfl) ?_
  refine cVr (As := []) (rest := [.int po, .int (nI 2), .ref sa]) ⟨hx, hb, hml, hown, hts⟩ hP hK hD hS hN hA (mX6_table l D G mo sa be ke te kn ty ik n tn k N Z S P V F po rd al (by first | assumption | omega)) (cwV 0 hts gX6_clear_X6_table rfl rfl rfl (by decide +kernel) ⟨Nat.le_of_ble_eq_true rfl, Nat.le_of_ble_eq_true rfl⟩) [0, 1] rfl (by decide) 0 6 rfl rfl rfl hl.1 rfl (Nat.le_of_ble_eq_true rfl) dX6_clear_8 ⟨Nat.zero_le _, Nat.zero_le _⟩ (fun H locs hP hS => ?_)
  refine lv_iadd hx hb dX6_clear_11 ?_
  refine rIast hx hb hK hP hD hS 1 rfl 2 (by omega) (by decide) dX6_clear_12 (fun H locs hP hD hS => ?_)
  obtain ⟨hP, hD⟩ := wI (g := enc n N Z tn (po + aa F k) rd al k S P V F) hP hD 1 rfl (enc_w2 n N Z tn po rd al k S P V F (po + aa F k))
  replace hP : va_P D vwCl [(mo, .inr (6, [.ref sa, .ref be, .int (nI kn), .ref ke, .int (zB ik), .ref te, .int (nI ty)])), (sa, .inl (G 0, 117, .inl (enc n N Z tn (po + aa F k) rd al k S P V F)))] _ := hP
  have hD : va_D A [(mo, .inr (6, [.ref sa, .ref be, .int (nI kn), .ref ke, .int (zB ik), .ref te, .int (nI ty)])), (sa, .inl (G 0, 117, .inl (enc n N Z tn (po + aa F k) rd al k S P V F)))] := hD
  refine lv_aload_n hx hb dX6_clear_13 rfl (lv_at hl 0 rfl) ?_
  refine va_get (D := D) (ci := 6) (v := .ref sa) (C := RX6) (T := TX6) (N := 7) hx hb hts inX6 hown hK hP 0 rfl rfl 0 (by decide) k7 (fun _ h9 => h9) rfl dX6_clear_14 ?_
  refine lv_iconst (v := nI 5) hx hb dX6_clear_17 (by decide +kernel) ?_
  refine lv_iconst (v := nI 0) hx hb dX6_clear_18 (by decide +kernel) ?_
  refine rIast hx hb hK hP hD hS 1 rfl 5 (by omega) (by decide) dX6_clear_19 (fun H locs hP hD hS => ?_)
  obtain ⟨hP, hD⟩ := wI (g := enc n N Z tn (po + aa F k) rd al 0 S P V F) hP hD 1 rfl (enc_w5 n N Z tn (po + aa F k) rd al k S P V F 0)
  replace hP : va_P D vwCl [(mo, .inr (6, [.ref sa, .ref be, .int (nI kn), .ref ke, .int (zB ik), .ref te, .int (nI ty)])), (sa, .inl (G 0, 117, .inl (enc n N Z tn (po + aa F k) rd al 0 S P V F)))] _ := hP
  have hD : va_D A [(mo, .inr (6, [.ref sa, .ref be, .int (nI kn), .ref ke, .int (zB ik), .ref te, .int (nI ty)])), (sa, .inl (G 0, 117, .inl (enc n N Z tn (po + aa F k) rd al 0 S P V F)))] := hD
  refine lv_aload_n hx hb dX6_clear_20 rfl (lv_at hl 0 rfl) ?_
  refine va_get (D := D) (ci := 6) (v := .ref sa) (C := RX6) (T := TX6) (N := 7) hx hb hts inX6 hown hK hP 0 rfl rfl 0 (by decide) k7 (fun _ h9 => h9) rfl dX6_clear_21 ?_
  refine lv_iconst (v := nI 3) hx hb dX6_clear_24 (by decide +kernel) ?_
  refine lv_iconst (v := nI 0) hx hb dX6_clear_25 (by decide +kernel) ?_
  refine rIast hx hb hK hP hD hS 1 rfl 3 (by omega) (by decide) dX6_clear_26 (fun H locs hP hD hS => ?_)
  obtain ⟨hP, hD⟩ := wI (g := enc n N Z tn (po + aa F k) (nI 0) al 0 S P V F) hP hD 1 rfl (enc_w3 n N Z tn (po + aa F k) rd al 0 S P V F (nI 0))
  replace hP : va_P D vwCl [(mo, .inr (6, [.ref sa, .ref be, .int (nI kn), .ref ke, .int (zB ik), .ref te, .int (nI ty)])), (sa, .inl (G 0, 117, .inl (enc n N Z tn (po + aa F k) (nI 0) al 0 S P V F)))] _ := hP
  have hD : va_D A [(mo, .inr (6, [.ref sa, .ref be, .int (nI kn), .ref ke, .int (zB ik), .ref te, .int (nI ty)])), (sa, .inl (G 0, 117, .inl (enc n N Z tn (po + aa F k) (nI 0) al 0 S P V F)))] := hD
  refine lv_iconst (v := nI 0) hx hb dX6_clear_27 (by decide +kernel) ?_
  refine lv_istore_n (lv' := [(1, .int (nI 0)), (0, .ref mo)]) hx hb dX6_clear_28 rfl hl (by decide) rfl (fun ls hl => ?_)
  have LP29 : ∀ (nn29 k_ : Nat), k_ ≤ 16 → 16 < k_ + nn29  → ∀ (H : Heap) (locs : List Loc), va_P D vwCl [(mo, .inr (6, [.ref sa, .ref be, .int (nI kn), .ref ke, .int (zB ik), .ref te, .int (nI ty)])), (sa, .inl (G 0, 117, .inl (enc n N (fst_ zr Z k_) tn (po + aa F k) (nI 0) al 0 S P V F)))] H → va_D A [(mo, .inr (6, [.ref sa, .ref be, .int (nI kn), .ref ke, .int (zB ik), .ref te, .int (nI ty)])), (sa, .inl (G 0, 117, .inl (enc n N (fst_ zr Z k_) tn (po + aa F k) (nI 0) al 0 S P V F)))] → va_S A s.heap H locs → ∀ ls : Array Slot, lv_has ls 2 [(1, .int (nI k_)), (0, .ref mo)] → W pp l ee (rmA 2 43) s mm ([.ref mo] : List Value).toArray bl me cc H locs 0 0 (MQ bl (Qres none D G [(mo, .inr (6, [.ref sa, .ref be, .int (nI kn), .ref ke, .int (zB ik), .ref te, .int (nI ty)])), (sa, .inl (G 0, 117, .inl (enc n N zr tn (po + aa F k) (nI 0) al 0 S P V F)))] A) ([.ref mo] : List Value).toArray s 0 0 A) (F0 mm 29 ls []) := by
    intro nn29
    induction nn29 with
    | zero => intro k_ h1 h2; exact absurd h2 (by omega)
    | succ nn29 ih29 =>
      intro k_ hkk_ hnk_  H locs hP hD hS ls hl
      refine lv_iload_n hx hb dX6_clear_29 rfl (lv_at hl 0 rfl) ?_
      refine lv_bipush (v := nI 16) hx hb dX6_clear_30 (by decide +kernel) ?_
      refine bGe (tgt := 51) hx hb dX6_clear_32 (by decide) (by omega) (by omega) (fun c1 => ?_) (fun c1 => ?_)
      · obtain rfl : 16 = k_ := by omega
        obtain ⟨hP, hD⟩ := wI (g := enc n N zr tn (po + aa F k) (nI 0) al 0 S P V F) hP hD 1 rfl (fun j hj => enc_cZ (fun c hc => fst_all hc) j hj)
        replace hP : va_P D vwCl [(mo, .inr (6, [.ref sa, .ref be, .int (nI kn), .ref ke, .int (zB ik), .ref te, .int (nI ty)])), (sa, .inl (G 0, 117, .inl (enc n N zr tn (po + aa F k) (nI 0) al 0 S P V F)))] _ := hP
        have hD : va_D A [(mo, .inr (6, [.ref sa, .ref be, .int (nI kn), .ref ke, .int (zB ik), .ref te, .int (nI ty)])), (sa, .inl (G 0, 117, .inl (enc n N zr tn (po + aa F k) (nI 0) al 0 S P V F)))] := hD
        exact rVret hx hb hr hlk hP hK hD hS dX6_clear_51
      · refine lv_aload_n hx hb dX6_clear_35 rfl (lv_at hl 1 rfl) ?_
        refine va_get (D := D) (ci := 6) (v := .ref sa) (C := RX6) (T := TX6) (N := 7) hx hb hts inX6 hown hK hP 0 rfl rfl 0 (by decide) k7 (fun _ h9 => h9) rfl dX6_clear_36 ?_
        refine lv_bipush (v := nI 31) hx hb dX6_clear_39 (by decide +kernel) ?_
        refine lv_iload_n hx hb dX6_clear_41 rfl (lv_at hl 0 rfl) ?_
        refine lv_iadd hx hb dX6_clear_42 ?_
        refine rTop (show nI 31 + nI k_ = nI (31 + k_) from nI_add 31 k_) ?_
        refine lv_iconst (v := nI 0) hx hb dX6_clear_43 (by decide +kernel) ?_
        refine rIast hx hb hK hP hD hS 1 rfl (31 + k_) (by omega) (by decide) dX6_clear_44 (fun H locs hP hD hS => ?_)
        obtain ⟨hP, hD⟩ := wI (g := enc n N (upd (fst_ zr Z k_) k_ (nI 0)) tn (po + aa F k) (nI 0) al 0 S P V F) hP hD 1 rfl (enc_wZ n N (fst_ zr Z k_) tn (po + aa F k) (nI 0) al 0 S P V F k_ (by omega) (nI 0))
        replace hP : va_P D vwCl [(mo, .inr (6, [.ref sa, .ref be, .int (nI kn), .ref ke, .int (zB ik), .ref te, .int (nI ty)])), (sa, .inl (G 0, 117, .inl (enc n N (upd (fst_ zr Z k_) k_ (nI 0)) tn (po + aa F k) (nI 0) al 0 S P V F)))] _ := hP
        have hD : va_D A [(mo, .inr (6, [.ref sa, .ref be, .int (nI kn), .ref ke, .int (zB ik), .ref te, .int (nI ty)])), (sa, .inl (G 0, 117, .inl (enc n N (upd (fst_ zr Z k_) k_ (nI 0)) tn (po + aa F k) (nI 0) al 0 S P V F)))] := hD
        refine lv_iinc (v := nI (k_ + 1)) (lv' := [(1, .int (nI (k_ + 1))), (0, .ref mo)]) hx hb dX6_clear_45 hl (k := 0) rfl (nI_inc k_) (by decide) rfl (fun ls hl => ?_)
        refine lv_goto (tgt := 29) hx hb dX6_clear_48 (by decide) ?_
        obtain ⟨hP, hD⟩ := wI (g := enc n N (fst_ zr Z (k_ + 1)) tn (po + aa F k) (nI 0) al 0 S P V F) hP hD 1 rfl (fun j hj => congrFun (congrArg (fun NN => enc n N NN tn (po + aa F k) (nI 0) al 0 S P V F) (show upd (fst_ zr Z k_) k_ (nI 0) = fst_ zr Z (k_ + 1) from funext fun _ => fst_s rfl)) j)
        replace hP : va_P D vwCl [(mo, .inr (6, [.ref sa, .ref be, .int (nI kn), .ref ke, .int (zB ik), .ref te, .int (nI ty)])), (sa, .inl (G 0, 117, .inl (enc n N (fst_ zr Z (k_ + 1)) tn (po + aa F k) (nI 0) al 0 S P V F)))] _ := hP
        have hD : va_D A [(mo, .inr (6, [.ref sa, .ref be, .int (nI kn), .ref ke, .int (zB ik), .ref te, .int (nI ty)])), (sa, .inl (G 0, 117, .inl (enc n N (fst_ zr Z (k_ + 1)) tn (po + aa F k) (nI 0) al 0 S P V F)))] := hD
        exact ih29 (k_ + 1) (by omega) (by omega)  _ _ hP hD hS _ (lv_sub hl [0, 1] rfl)
  obtain ⟨hP, hD⟩ := wI (g := enc n N (fst_ zr Z 0) tn (po + aa F k) (nI 0) al 0 S P V F) hP hD 1 rfl (fun j hj => by rw [fst_0])
  replace hP : va_P D vwCl [(mo, .inr (6, [.ref sa, .ref be, .int (nI kn), .ref ke, .int (zB ik), .ref te, .int (nI ty)])), (sa, .inl (G 0, 117, .inl (enc n N (fst_ zr Z 0) tn (po + aa F k) (nI 0) al 0 S P V F)))] _ := hP
  have hD : va_D A [(mo, .inr (6, [.ref sa, .ref be, .int (nI kn), .ref ke, .int (zB ik), .ref te, .int (nI ty)])), (sa, .inl (G 0, 117, .inl (enc n N (fst_ zr Z 0) tn (po + aa F k) (nI 0) al 0 S P V F)))] := hD
  exact LP29 (16 + 1 - 0) 0 (by omega) (by omega)  _ _ hP hD hS _ (lv_sub hl [0, 1] rfl)

set_option maxHeartbeats 4000000 in
set_option maxRecDepth 100000 in
theorem mX6_nextTurn (l : Launch) (D : va_G) (G : Nat → ClassId) (mo sa be ke te kn ty : Nat) (ik : Bool) (n tn k : Nat) (N Z S P V : Nat → Int32) (F : Nat → Nat → Int32) (po rd al : Int32) (ht : tn < 3) : CT l yX6_nextTurn wsX6_nextTurn 0 0 D G [.ref mo] [(mo, .inr (6, [.ref sa, .ref be, .int (nI kn), .ref ke, .int (zB ik), .ref te, .int (nI ty)])), (sa, .inl (G 0, 117, .inl (enc n N Z tn po rd al k S P V F)))] [(mo, .inr (6, [.ref sa, .ref be, .int (nI kn), .ref ke, .int (zB ik), .ref te, .int (nI ty)])), (sa, .inl (G 0, 117, .inl (enc n N Z (nx tn) po rd al k S P V F)))] none := by
  refine CT.of (cc := cX6_nextTurn) (maxL := 1) (ret := none) (by decide) rfl RX6 rfl (Nat.le_of_ble_eq_true rfl) (fun pp ee s mm bl me cc A ls hx hb hr hml hts hown hlk hnm hA hP hK hD hN hS hl => ?_)
  have hl : lv_has ls 1 [(0, .ref mo)] := hl
  have hP : va_P D vwCl [(mo, .inr (6, [.ref sa, .ref be, .int (nI kn), .ref ke, .int (zB ik), .ref te, .int (nI ty)])), (sa, .inl (G 0, 117, .inl (enc n N Z tn po rd al k S P V F)))] s.heap := hP
  have inX6 : ∀ w ∈ wsX60, w ∈ wsX6_nextTurn := fun w h => List.mem_cons_of_mem _ (List.mem_append_right _ h)
  have k7 := hts (.fieldLink RX6 7 "SquareStakesModel" "s" "[I") (List.mem_of_getElem? (i := 1) rfl)
  refine lv_aload_n hx hb dX6_nextTurn_0 rfl (lv_at hl 0 rfl) ?_
  refine va_get (D := D) (ci := 6) (v := .ref sa) (C := RX6) (T := TX6) (N := 7) hx hb hts inX6 hown hK hP 0 rfl rfl 0 (by decide) k7 (fun _ h9 => h9) rfl dX6_nextTurn_1 ?_
  refine lv_iconst (v := nI 1) hx hb dX6_nextTurn_4 (by decide +kernel) ?_
  refine lv_aload_n hx hb dX6_nextTurn_5 rfl (lv_at hl 0 rfl) ?_
  refine va_get (D := D) (ci := 6) (v := .ref sa) (C := RX6) (T := TX6) (N := 7) hx hb hts inX6 hown hK hP 0 rfl rfl 0 (by decide) k7 (fun _ h9 => h9) rfl dX6_nextTurn_6 ?_
  refine lv_iconst (v := nI 1) hx hb dX6_nextTurn_9 (by decide +kernel) ?_
  refine rIald hx hb hK hP 1 rfl 1 (by omega) (by decide) dX6_nextTurn_10 ?_
  refine rTop (show enc n N Z tn po rd al k S P V F 1 = nI tn from rfl) ?_
  refine lv_iconst (v := nI 1) hx hb dX6_nextTurn_11 (by decide +kernel) ?_
  refine lv_iadd hx hb dX6_nextTurn_12 ?_
  refine rTop (show nI tn + nI 1 = nI (tn + 1) from nI_add tn 1) ?_
  refine lv_iconst (v := nI 3) hx hb dX6_nextTurn_13 (by decide +kernel) ?_
  refine lv_irem hx hb dX6_nextTurn_14 (nI_ne0 (by omega) (by omega)) ?_
  refine rTop (pk_rem (a := tn + 1) (d := 3) (by omega) (by omega) (by omega)) ?_
  refine rTop (show nI ((tn + 1) % 3) = nI (nx tn) from by rw [nx_mod ht]) ?_
  refine rIast hx hb hK hP hD hS 1 rfl 1 (by omega) (by decide) dX6_nextTurn_15 (fun H locs hP hD hS => ?_)
  obtain ⟨hP, hD⟩ := wI (g := enc n N Z (nx tn) po rd al k S P V F) hP hD 1 rfl (enc_w1 n N Z tn po rd al k S P V F (nx tn))
  replace hP : va_P D vwCl [(mo, .inr (6, [.ref sa, .ref be, .int (nI kn), .ref ke, .int (zB ik), .ref te, .int (nI ty)])), (sa, .inl (G 0, 117, .inl (enc n N Z (nx tn) po rd al k S P V F)))] _ := hP
  have hD : va_D A [(mo, .inr (6, [.ref sa, .ref be, .int (nI kn), .ref ke, .int (zB ik), .ref te, .int (nI ty)])), (sa, .inl (G 0, 117, .inl (enc n N Z (nx tn) po rd al k S P V F)))] := hD
  exact rVret hx hb hr hlk hP hK hD hS dX6_nextTurn_16

set_option maxHeartbeats 4000000 in
set_option maxRecDepth 100000 in
theorem mX6_frozen (l : Launch) (D : va_G) (G : Nat → ClassId) (mo sa be ke te kn ty : Nat) (ik : Bool) (n tn k : Nat) (N Z S P V : Nat → Int32) (F : Nat → Nat → Int32) (po rd al : Int32) (hn : n = 3 ∨ n = 4) : CT l yX6_frozen wsX6_frozen 1 20 D G [.ref mo] [(mo, .inr (6, [.ref sa, .ref be, .int (nI kn), .ref ke, .int (zB ik), .ref te, .int (nI ty)])), (sa, .inl (G 0, 117, .inl (enc n N Z tn po rd al k S P V F)))] [(mo, .inr (6, [.ref sa, .ref be, .int (nI kn), .ref ke, .int (zB ik), .ref te, .int (nI ty)])), (sa, .inl (G 0, 117, .inl (enc n N Z tn po rd al k S P V F)))] (some (.int (nI (fz Z (n * n))))) := by
  refine CT.of (cc := cX6_frozen) (maxL := 3) (ret := (some .int)) (by decide) rfl RX6 rfl (Nat.le_of_ble_eq_true rfl) (fun pp ee s mm bl me cc A ls hx hb hr hml hts hown hlk hnm hA hP hK hD hN hS hl => ?_)
  have hl : lv_has ls 3 [(0, .ref mo)] := hl
  have hP : va_P D vwCl [(mo, .inr (6, [.ref sa, .ref be, .int (nI kn), .ref ke, .int (zB ik), .ref te, .int (nI ty)])), (sa, .inl (G 0, 117, .inl (enc n N Z tn po rd al k S P V F)))] s.heap := hP
  have inX6 : ∀ w ∈ wsX60, w ∈ wsX6_frozen := fun w h => List.mem_cons_of_mem _ (List.mem_append_right _ h)
  have k7 := hts (.fieldLink RX6 7 "SquareStakesModel" "s" "[I") (List.mem_of_getElem? (i := 1) rfl)
  have hq9 : n * n < 17 ∧ 0 < n * n := by rcases hn with rfl | rfl <;> decide
  refine lv_iconst (v := nI 0) hx hb dX6_frozen_0 (by decide +kernel) ?_
  refine lv_istore_n (lv' := [(1, .int (nI 0)), (0, .ref mo)]) hx hb dX6_frozen_1 rfl hl (by decide) rfl (fun ls hl => ?_)
  refine lv_iconst (v := nI 0) hx hb dX6_frozen_2 (by decide +kernel) ?_
  refine lv_istore_n (lv' := [(2, .int (nI 0)), (1, .int (nI 0)), (0, .ref mo)]) hx hb dX6_frozen_3 rfl hl (by decide) rfl (fun ls hl => ?_)
  have LP4 : ∀ (nn4 k_ : Nat), k_ ≤ (n * n) → (n * n) < k_ + nn4  → ∀ (H : Heap) (locs : List Loc), va_P D vwCl [(mo, .inr (6, [.ref sa, .ref be, .int (nI kn), .ref ke, .int (zB ik), .ref te, .int (nI ty)])), (sa, .inl (G 0, 117, .inl (enc n N Z tn po rd al k S P V F)))] H → va_D A [(mo, .inr (6, [.ref sa, .ref be, .int (nI kn), .ref ke, .int (zB ik), .ref te, .int (nI ty)])), (sa, .inl (G 0, 117, .inl (enc n N Z tn po rd al k S P V F)))] → va_S A s.heap H locs → ∀ ls : Array Slot, lv_has ls 3 [(1, .int (nI (fz Z k_))), (2, .int (nI k_)), (0, .ref mo)] → W pp l ee (rmA 1 20) s mm ([.ref mo] : List Value).toArray bl me cc H locs 0 0 (MQ bl (Qres (some (.int (nI (fz Z (n * n))))) D G [(mo, .inr (6, [.ref sa, .ref be, .int (nI kn), .ref ke, .int (zB ik), .ref te, .int (nI ty)])), (sa, .inl (G 0, 117, .inl (enc n N Z tn po rd al k S P V F)))] A) ([.ref mo] : List Value).toArray s 0 0 A) (F0 mm 4 ls []) := by
    intro nn4
    induction nn4 with
    | zero => intro k_ h1 h2; exact absurd h2 (by omega)
    | succ nn4 ih4 =>
      intro k_ hkk_ hnk_  H locs hP hD hS ls hl
      refine lv_iload_n hx hb dX6_frozen_4 rfl (lv_at hl 1 rfl) ?_
      refine lv_aload_n hx hb dX6_frozen_5 rfl (lv_at hl 2 rfl) ?_
      refine cVr (As := []) (rest := [.int (nI k_)]) ⟨hx, hb, hml, hown, hts⟩ hP hK hD hS hN hA (mX6_cells l D G mo sa be ke te kn ty ik n tn k N Z S P V F po rd al (by first | assumption | omega)) (cwV 0 hts gX6_frozen_X6_cells rfl rfl rfl (by decide +kernel) ⟨Nat.le_of_ble_eq_true rfl, Nat.le_of_ble_eq_true rfl⟩) [0, 1] rfl (by decide) 0 6 rfl rfl rfl hl.1 rfl (Nat.le_of_ble_eq_true rfl) dX6_frozen_6 ⟨Nat.zero_le _, Nat.zero_le _⟩ (fun H locs hP hS => ?_)
      refine bGe (tgt := 38) hx hb dX6_frozen_9 (by decide) (by omega) (by omega) (fun c1 => ?_) (fun c1 => ?_)
      · obtain rfl : n * n = k_ := by omega
        refine lv_iload_n hx hb dX6_frozen_38 rfl (lv_at hl 0 rfl) ?_
        exact rIret hx hb hr hlk hP hK hD hS dX6_frozen_39
      · refine lv_iload_n hx hb dX6_frozen_12 rfl (lv_at hl 0 rfl) ?_
        refine lv_aload_n hx hb dX6_frozen_13 rfl (lv_at hl 2 rfl) ?_
        refine va_get (D := D) (ci := 6) (v := .ref sa) (C := RX6) (T := TX6) (N := 7) hx hb hts inX6 hown hK hP 0 rfl rfl 0 (by decide) k7 (fun _ h9 => h9) rfl dX6_frozen_14 ?_
        refine lv_bipush (v := nI 31) hx hb dX6_frozen_17 (by decide +kernel) ?_
        refine lv_iload_n hx hb dX6_frozen_19 rfl (lv_at hl 1 rfl) ?_
        refine lv_iadd hx hb dX6_frozen_20 ?_
        refine rTop (show nI 31 + nI k_ = nI (31 + k_) from nI_add 31 k_) ?_
        refine rIald hx hb hK hP 1 rfl (31 + k_) (by omega) (by decide) dX6_frozen_21 ?_
        refine rTop (enc_Z n N Z tn po rd al k S P V F k_ (by omega)) ?_
        refine lv_if_le (tgt := 29) hx hb dX6_frozen_22 (by decide)  (fun c2 => ?_) (fun c2 => ?_)
        · refine lv_iconst (v := nI 0) hx hb dX6_frozen_29 (by decide +kernel) ?_
          refine lv_iadd hx hb dX6_frozen_30 ?_
          refine rTop (show nI (fz Z k_) + nI 0 = nI (fz Z k_ + 0) from nI_add (fz Z k_) 0) ?_
          refine rTop (show nI (fz Z k_ + 0) = nI (fz Z (k_ + 1)) from by first | exact fzO_t (by assumption) | exact fzO_f (by assumption)) ?_
          refine lv_istore_n (lv' := [(1, .int (nI (fz Z (k_ + 1)))), (2, .int (nI k_)), (0, .ref mo)]) hx hb dX6_frozen_31 rfl hl (by decide) rfl (fun ls hl => ?_)
          refine lv_iinc (v := nI (k_ + 1)) (lv' := [(2, .int (nI (k_ + 1))), (1, .int (nI (fz Z (k_ + 1)))), (0, .ref mo)]) hx hb dX6_frozen_32 hl (k := 1) rfl (nI_inc k_) (by decide) rfl (fun ls hl => ?_)
          refine lv_goto (tgt := 4) hx hb dX6_frozen_35 (by decide) ?_
          exact ih4 (k_ + 1) (by omega) (by omega)  _ _ hP hD hS _ (lv_sub hl [1, 0, 2] rfl)
        · refine lv_iconst (v := nI 1) hx hb dX6_frozen_25 (by decide +kernel) ?_
          refine lv_goto (tgt := 30) hx hb dX6_frozen_26 (by decide) ?_
          refine lv_iadd hx hb dX6_frozen_30 ?_
          refine rTop (show nI (fz Z k_) + nI 1 = nI (fz Z k_ + 1) from nI_add (fz Z k_) 1) ?_
          refine rTop (show nI (fz Z k_ + 1) = nI (fz Z (k_ + 1)) from by first | exact fzO_t (by assumption) | exact fzO_f (by assumption)) ?_
          refine lv_istore_n (lv' := [(1, .int (nI (fz Z (k_ + 1)))), (2, .int (nI k_)), (0, .ref mo)]) hx hb dX6_frozen_31 rfl hl (by decide) rfl (fun ls hl => ?_)
          refine lv_iinc (v := nI (k_ + 1)) (lv' := [(2, .int (nI (k_ + 1))), (1, .int (nI (fz Z (k_ + 1)))), (0, .ref mo)]) hx hb dX6_frozen_32 hl (k := 1) rfl (nI_inc k_) (by decide) rfl (fun ls hl => ?_)
          refine lv_goto (tgt := 4) hx hb dX6_frozen_35 (by decide) ?_
          exact ih4 (k_ + 1) (by omega) (by omega)  _ _ hP hD hS _ (lv_sub hl [1, 0, 2] rfl)
  exact LP4 (n * n + 1 - 0) 0 (by omega) (by omega)  _ _ hP hD hS _ (lv_sub hl [1, 0, 2] rfl)

set_option maxHeartbeats 4000000 in
set_option maxRecDepth 100000 in
theorem mX6_spend (l : Launch) (D : va_G) (G : Nat → ClassId) (mo sa be ke te kn ty : Nat) (ik : Bool) (n tn k : Nat) (N Z S P V : Nat → Int32) (F : Nat → Nat → Int32) (po rd al : Int32) (x : Int32) (ht : tn < 3) : CT l yX6_spend wsX6_spend 0 0 D G [.ref mo, .int x] [(mo, .inr (6, [.ref sa, .ref be, .int (nI kn), .ref ke, .int (zB ik), .ref te, .int (nI ty)])), (sa, .inl (G 0, 117, .inl (enc n N Z tn po rd al k S P V F)))] [(mo, .inr (6, [.ref sa, .ref be, .int (nI kn), .ref ke, .int (zB ik), .ref te, .int (nI ty)])), (sa, .inl (G 0, 117, .inl (enc n N Z tn (po + x) rd al k S (upd P tn (P tn - x)) V F)))] none := by
  refine CT.of (cc := cX6_spend) (maxL := 2) (ret := none) (by decide) rfl RX6 rfl (Nat.le_of_ble_eq_true rfl) (fun pp ee s mm bl me cc A ls hx hb hr hml hts hown hlk hnm hA hP hK hD hN hS hl => ?_)
  have hl : lv_has ls 2 [(0, .ref mo), (1, .int x)] := hl
  have hP : va_P D vwCl [(mo, .inr (6, [.ref sa, .ref be, .int (nI kn), .ref ke, .int (zB ik), .ref te, .int (nI ty)])), (sa, .inl (G 0, 117, .inl (enc n N Z tn po rd al k S P V F)))] s.heap := hP
  have inX6 : ∀ w ∈ wsX60, w ∈ wsX6_spend := fun w h => List.mem_cons_of_mem _ (List.mem_append_right _ h)
  have k7 := hts (.fieldLink RX6 7 "SquareStakesModel" "s" "[I") (List.mem_of_getElem? (i := 1) rfl)
  refine lv_aload_n hx hb dX6_spend_0 rfl (lv_at hl 0 rfl) ?_
  refine va_get (D := D) (ci := 6) (v := .ref sa) (C := RX6) (T := TX6) (N := 7) hx hb hts inX6 hown hK hP 0 rfl rfl 0 (by decide) k7 (fun _ h9 => h9) rfl dX6_spend_1 ?_
  refine lv_bipush (v := nI 9) hx hb dX6_spend_4 (by decide +kernel) ?_
  refine lv_aload_n hx hb dX6_spend_6 rfl (lv_at hl 0 rfl) ?_
  refine va_get (D := D) (ci := 6) (v := .ref sa) (C := RX6) (T := TX6) (N := 7) hx hb hts inX6 hown hK hP 0 rfl rfl 0 (by decide) k7 (fun _ h9 => h9) rfl dX6_spend_7 ?_
  refine lv_iconst (v := nI 1) hx hb dX6_spend_10 (by decide +kernel) ?_
  refine rIald hx hb hK hP 1 rfl 1 (by omega) (by decide) dX6_spend_11 ?_
  refine rTop (show enc n N Z tn po rd al k S P V F 1 = nI tn from rfl) ?_
  refine lv_iadd hx hb dX6_spend_12 ?_
  refine rTop (show nI 9 + nI tn = nI (9 + tn) from nI_add 9 tn) ?_
  refine lv_dup2_11 hx hb dX6_spend_13 rfl rfl ?_
  refine rIald hx hb hK hP 1 rfl (9 + tn) (by omega) (by decide) dX6_spend_14 ?_
  refine rTop (enc_P n N Z tn po rd al k S P V F tn (by omega)) ?_
  refine lv_iload_n hx hb dX6_spend_15 rfl (lv_at hl 1 rfl) ?_
  refine lv_isub hx hb dX6_spend_16 ?_
  refine rIast hx hb hK hP hD hS 1 rfl (9 + tn) (by omega) (by decide) dX6_spend_17 (fun H locs hP hD hS => ?_)
  obtain ⟨hP, hD⟩ := wI (g := enc n N Z tn po rd al k S (upd P tn (P tn - x)) V F) hP hD 1 rfl (enc_wP n N Z tn po rd al k S P V F tn (by omega) (P tn - x))
  replace hP : va_P D vwCl [(mo, .inr (6, [.ref sa, .ref be, .int (nI kn), .ref ke, .int (zB ik), .ref te, .int (nI ty)])), (sa, .inl (G 0, 117, .inl (enc n N Z tn po rd al k S (upd P tn (P tn - x)) V F)))] _ := hP
  have hD : va_D A [(mo, .inr (6, [.ref sa, .ref be, .int (nI kn), .ref ke, .int (zB ik), .ref te, .int (nI ty)])), (sa, .inl (G 0, 117, .inl (enc n N Z tn po rd al k S (upd P tn (P tn - x)) V F)))] := hD
  refine lv_aload_n hx hb dX6_spend_18 rfl (lv_at hl 0 rfl) ?_
  refine va_get (D := D) (ci := 6) (v := .ref sa) (C := RX6) (T := TX6) (N := 7) hx hb hts inX6 hown hK hP 0 rfl rfl 0 (by decide) k7 (fun _ h9 => h9) rfl dX6_spend_19 ?_
  refine lv_iconst (v := nI 2) hx hb dX6_spend_22 (by decide +kernel) ?_
  refine lv_dup2_11 hx hb dX6_spend_23 rfl rfl ?_
  refine rIald hx hb hK hP 1 rfl 2 (by omega) (by decide) dX6_spend_24 ?_
  refine rTop (show enc n N Z tn po rd al k S (upd P tn (P tn - x)) V F 2 = po from rfl) ?_
  refine lv_iload_n hx hb dX6_spend_25 rfl (lv_at hl 1 rfl) ?_
  refine lv_iadd hx hb dX6_spend_26 ?_
  refine rIast hx hb hK hP hD hS 1 rfl 2 (by omega) (by decide) dX6_spend_27 (fun H locs hP hD hS => ?_)
  obtain ⟨hP, hD⟩ := wI (g := enc n N Z tn (po + x) rd al k S (upd P tn (P tn - x)) V F) hP hD 1 rfl (enc_w2 n N Z tn po rd al k S (upd P tn (P tn - x)) V F (po + x))
  replace hP : va_P D vwCl [(mo, .inr (6, [.ref sa, .ref be, .int (nI kn), .ref ke, .int (zB ik), .ref te, .int (nI ty)])), (sa, .inl (G 0, 117, .inl (enc n N Z tn (po + x) rd al k S (upd P tn (P tn - x)) V F)))] _ := hP
  have hD : va_D A [(mo, .inr (6, [.ref sa, .ref be, .int (nI kn), .ref ke, .int (zB ik), .ref te, .int (nI ty)])), (sa, .inl (G 0, 117, .inl (enc n N Z tn (po + x) rd al k S (upd P tn (P tn - x)) V F)))] := hD
  exact rVret hx hb hr hlk hP hK hD hS dX6_spend_28

set_option maxHeartbeats 4000000 in
set_option maxRecDepth 100000 in
theorem mX6_know_lt (l : Launch) (D : va_G) (G : Nat → ClassId) (mo sa be ke te kn ty : Nat) (ik : Bool) (n tn k : Nat) (N Z S P V : Nat → Int32) (F : Nat → Nat → Int32) (po rd al : Int32) (B : Nat → Nat → Int32) (hkn : kn < 4) : CT l yX6_know wsX6_know 0 0 D G [.ref mo] [(mo, .inr (6, [.ref sa, .ref be, .int (nI kn), .ref ke, .int (zB ik), .ref te, .int (nI ty)])), (sa, .inl (G 0, 117, .inl (enc n N Z tn po rd al k S P V F))), (be, .inl (G 0, 468, .inl (bf B)))] [(mo, .inr (6, [.ref sa, .ref be, .int (nI (kn + 1)), .ref ke, .int (zB ik), .ref te, .int (nI ty)])), (sa, .inl (G 0, 117, .inl (enc n N Z tn po rd al k S P V F))), (be, .inl (G 0, 468, .inl (bf (uA B kn (enc n N Z tn po rd al k S P V F)))))] none := by
  refine CT.of (cc := cX6_know) (maxL := 2) (ret := none) (by decide) rfl RX6 rfl (Nat.le_of_ble_eq_true rfl) (fun pp ee s mm bl me cc A ls hx hb hr hml hts hown hlk hnm hA hP hK hD hN hS hl => ?_)
  have hl : lv_has ls 2 [(0, .ref mo)] := hl
  have hP : va_P D vwCl [(mo, .inr (6, [.ref sa, .ref be, .int (nI kn), .ref ke, .int (zB ik), .ref te, .int (nI ty)])), (sa, .inl (G 0, 117, .inl (enc n N Z tn po rd al k S P V F))), (be, .inl (G 0, 468, .inl (bf B)))] s.heap := hP
  have inX6 : ∀ w ∈ wsX60, w ∈ wsX6_know := fun w h => List.mem_cons_of_mem _ (List.mem_append_right _ h)
  have k37 := hts (.fieldLink RX6 37 "SquareStakesModel" "known" "I") (List.mem_of_getElem? (i := 1) rfl)
  have k13 := hts (.fieldLink RX6 13 "SquareStakesModel" "before" "[I") (List.mem_of_getElem? (i := 2) rfl)
  have k7 := hts (.fieldLink RX6 7 "SquareStakesModel" "s" "[I") (List.mem_of_getElem? (i := 3) rfl)
  refine lv_aload_n hx hb dX6_know_0 rfl (lv_at hl 0 rfl) ?_
  refine va_get (D := D) (ci := 6) (v := .int (nI kn)) (C := RX6) (T := TX6) (N := 7) hx hb hts inX6 hown hK hP 0 rfl rfl 2 (by decide) k37 (fun _ h9 => h9) rfl dX6_know_1 ?_
  refine lv_iconst (v := nI 4) hx hb dX6_know_4 (by decide +kernel) ?_
  refine bNe (tgt := 48) hx hb dX6_know_5 (by decide) (by omega) (by omega) (fun c1 => ?_) (fun c1 => by exfalso; omega)
  refine lv_iconst (v := nI 0) hx hb dX6_know_48 (by decide +kernel) ?_
  refine lv_istore_n (lv' := [(1, .int (nI 0)), (0, .ref mo)]) hx hb dX6_know_49 rfl hl (by decide) rfl (fun ls hl => ?_)
  have LP50 : ∀ (nn50 k_ : Nat), k_ ≤ 117 → 117 < k_ + nn50  → ∀ (H : Heap) (locs : List Loc), va_P D vwCl [(mo, .inr (6, [.ref sa, .ref be, .int (nI kn), .ref ke, .int (zB ik), .ref te, .int (nI ty)])), (sa, .inl (G 0, 117, .inl (enc n N Z tn po rd al k S P V F))), (be, .inl (G 0, 468, .inl (bfp B kn (enc n N Z tn po rd al k S P V F) k_)))] H → va_D A [(mo, .inr (6, [.ref sa, .ref be, .int (nI kn), .ref ke, .int (zB ik), .ref te, .int (nI ty)])), (sa, .inl (G 0, 117, .inl (enc n N Z tn po rd al k S P V F))), (be, .inl (G 0, 468, .inl (bfp B kn (enc n N Z tn po rd al k S P V F) k_)))] → va_S A s.heap H locs → ∀ ls : Array Slot, lv_has ls 2 [(1, .int (nI k_)), (0, .ref mo)] → W pp l ee (rmA 0 0) s mm ([.ref mo] : List Value).toArray bl me cc H locs 0 0 (MQ bl (Qres none D G [(mo, .inr (6, [.ref sa, .ref be, .int (nI (kn + 1)), .ref ke, .int (zB ik), .ref te, .int (nI ty)])), (sa, .inl (G 0, 117, .inl (enc n N Z tn po rd al k S P V F))), (be, .inl (G 0, 468, .inl (bf (uA B kn (enc n N Z tn po rd al k S P V F)))))] A) ([.ref mo] : List Value).toArray s 0 0 A) (F0 mm 50 ls []) := by
    intro nn50
    induction nn50 with
    | zero => intro k_ h1 h2; exact absurd h2 (by omega)
    | succ nn50 ih50 =>
      intro k_ hkk_ hnk_  H locs hP hD hS ls hl
      refine lv_iload_n hx hb dX6_know_50 rfl (lv_at hl 0 rfl) ?_
      refine lv_bipush (v := nI 117) hx hb dX6_know_51 (by decide +kernel) ?_
      refine bGe (tgt := 82) hx hb dX6_know_53 (by decide) (by omega) (by omega) (fun c2 => ?_) (fun c2 => ?_)
      · obtain rfl : 117 = k_ := by omega
        refine lv_aload_n hx hb dX6_know_82 rfl (lv_at hl 1 rfl) ?_
        refine lv_dup hx hb dX6_know_83 rfl ?_
        refine va_get (D := D) (ci := 6) (v := .int (nI kn)) (C := RX6) (T := TX6) (N := 7) hx hb hts inX6 hown hK hP 0 rfl rfl 2 (by decide) k37 (fun _ h9 => h9) rfl dX6_know_84 ?_
        refine lv_iconst (v := nI 1) hx hb dX6_know_87 (by decide +kernel) ?_
        refine lv_iadd hx hb dX6_know_88 ?_
        refine rTop (show nI kn + nI 1 = nI (kn + 1) from nI_add kn 1) ?_
        refine va_put (D := D) (ci := 6) (v := .int (nI (kn + 1))) (ty := .int) (C := RX6) (T := TX6) (N := 7) hx hb hts inX6 tyX6 tyX6_ok nmX6 hown hK hP hD hS 0 rfl rfl 2 (by decide) k37 (fun _ h9 => h9) rfl (by decide +kernel) rfl rfl (Nat.le_of_ble_eq_true rfl) dX6_know_89 (fun H locs hP hD hS => ?_)
        have hP : va_P D vwCl [(mo, .inr (6, [.ref sa, .ref be, .int (nI (kn + 1)), .ref ke, .int (zB ik), .ref te, .int (nI ty)])), (sa, .inl (G 0, 117, .inl (enc n N Z tn po rd al k S P V F))), (be, .inl (G 0, 468, .inl (bfp B kn (enc n N Z tn po rd al k S P V F) 117)))] H := hP
        have hD : va_D A [(mo, .inr (6, [.ref sa, .ref be, .int (nI (kn + 1)), .ref ke, .int (zB ik), .ref te, .int (nI ty)])), (sa, .inl (G 0, 117, .inl (enc n N Z tn po rd al k S P V F))), (be, .inl (G 0, 468, .inl (bfp B kn (enc n N Z tn po rd al k S P V F) 117)))] := hD
        obtain ⟨hP, hD⟩ := wI (g := bf (uA B kn (enc n N Z tn po rd al k S P V F))) hP hD 2 rfl (fun j hj => bfp_all hj)
        replace hP : va_P D vwCl [(mo, .inr (6, [.ref sa, .ref be, .int (nI (kn + 1)), .ref ke, .int (zB ik), .ref te, .int (nI ty)])), (sa, .inl (G 0, 117, .inl (enc n N Z tn po rd al k S P V F))), (be, .inl (G 0, 468, .inl (bf (uA B kn (enc n N Z tn po rd al k S P V F)))))] _ := hP
        have hD : va_D A [(mo, .inr (6, [.ref sa, .ref be, .int (nI (kn + 1)), .ref ke, .int (zB ik), .ref te, .int (nI ty)])), (sa, .inl (G 0, 117, .inl (enc n N Z tn po rd al k S P V F))), (be, .inl (G 0, 468, .inl (bf (uA B kn (enc n N Z tn po rd al k S P V F)))))] := hD
        exact rVret hx hb hr hlk hP hK hD hS dX6_know_92
      · refine lv_aload_n hx hb dX6_know_56 rfl (lv_at hl 1 rfl) ?_
        refine va_get (D := D) (ci := 6) (v := .ref be) (C := RX6) (T := TX6) (N := 7) hx hb hts inX6 hown hK hP 0 rfl rfl 1 (by decide) k13 (fun _ h9 => h9) rfl dX6_know_57 ?_
        refine lv_bipush (v := nI 117) hx hb dX6_know_60 (by decide +kernel) ?_
        refine lv_aload_n hx hb dX6_know_62 rfl (lv_at hl 1 rfl) ?_
        refine va_get (D := D) (ci := 6) (v := .int (nI kn)) (C := RX6) (T := TX6) (N := 7) hx hb hts inX6 hown hK hP 0 rfl rfl 2 (by decide) k37 (fun _ h9 => h9) rfl dX6_know_63 ?_
        refine lv_imul hx hb dX6_know_66 ?_
        refine rTop (show nI 117 * nI kn = nI (117 * kn) from pk_mul 117 kn) ?_
        refine lv_iload_n hx hb dX6_know_67 rfl (lv_at hl 0 rfl) ?_
        refine lv_iadd hx hb dX6_know_68 ?_
        refine rTop (show nI (117 * kn) + nI k_ = nI (117 * kn + k_) from nI_add (117 * kn) k_) ?_
        refine lv_aload_n hx hb dX6_know_69 rfl (lv_at hl 1 rfl) ?_
        refine va_get (D := D) (ci := 6) (v := .ref sa) (C := RX6) (T := TX6) (N := 7) hx hb hts inX6 hown hK hP 0 rfl rfl 0 (by decide) k7 (fun _ h9 => h9) rfl dX6_know_70 ?_
        refine lv_iload_n hx hb dX6_know_73 rfl (lv_at hl 0 rfl) ?_
        refine rIald hx hb hK hP 1 rfl k_ (by omega) (by decide) dX6_know_74 ?_
        refine rIast hx hb hK hP hD hS 2 rfl (117 * kn + k_) (by omega) (by decide) dX6_know_75 (fun H locs hP hD hS => ?_)
        have hP : va_P D vwCl [(mo, .inr (6, [.ref sa, .ref be, .int (nI kn), .ref ke, .int (zB ik), .ref te, .int (nI ty)])), (sa, .inl (G 0, 117, .inl (enc n N Z tn po rd al k S P V F))), (be, .inl (G 0, 468, .inl (upd (bfp B kn (enc n N Z tn po rd al k S P V F) k_) (117 * kn + k_) (enc n N Z tn po rd al k S P V F k_))))] H := hP
        have hD : va_D A [(mo, .inr (6, [.ref sa, .ref be, .int (nI kn), .ref ke, .int (zB ik), .ref te, .int (nI ty)])), (sa, .inl (G 0, 117, .inl (enc n N Z tn po rd al k S P V F))), (be, .inl (G 0, 468, .inl (upd (bfp B kn (enc n N Z tn po rd al k S P V F) k_) (117 * kn + k_) (enc n N Z tn po rd al k S P V F k_))))] := hD
        refine lv_iinc (v := nI (k_ + 1)) (lv' := [(1, .int (nI (k_ + 1))), (0, .ref mo)]) hx hb dX6_know_76 hl (k := 0) rfl (nI_inc k_) (by decide) rfl (fun ls hl => ?_)
        refine lv_goto (tgt := 50) hx hb dX6_know_79 (by decide) ?_
        obtain ⟨hP, hD⟩ := wI (g := bfp B kn (enc n N Z tn po rd al k S P V F) (k_ + 1)) hP hD 2 rfl (fun j hj => bfp_s (by omega))
        replace hP : va_P D vwCl [(mo, .inr (6, [.ref sa, .ref be, .int (nI kn), .ref ke, .int (zB ik), .ref te, .int (nI ty)])), (sa, .inl (G 0, 117, .inl (enc n N Z tn po rd al k S P V F))), (be, .inl (G 0, 468, .inl (bfp B kn (enc n N Z tn po rd al k S P V F) (k_ + 1))))] _ := hP
        have hD : va_D A [(mo, .inr (6, [.ref sa, .ref be, .int (nI kn), .ref ke, .int (zB ik), .ref te, .int (nI ty)])), (sa, .inl (G 0, 117, .inl (enc n N Z tn po rd al k S P V F))), (be, .inl (G 0, 468, .inl (bfp B kn (enc n N Z tn po rd al k S P V F) (k_ + 1))))] := hD
        exact ih50 (k_ + 1) (by omega) (by omega)  _ _ hP hD hS _ (lv_sub hl [0, 1] rfl)
  obtain ⟨hP, hD⟩ := wI (g := bfp B kn (enc n N Z tn po rd al k S P V F) 0) hP hD 2 rfl (fun j hj => by rw [bfp_0])
  replace hP : va_P D vwCl [(mo, .inr (6, [.ref sa, .ref be, .int (nI kn), .ref ke, .int (zB ik), .ref te, .int (nI ty)])), (sa, .inl (G 0, 117, .inl (enc n N Z tn po rd al k S P V F))), (be, .inl (G 0, 468, .inl (bfp B kn (enc n N Z tn po rd al k S P V F) 0)))] _ := hP
  have hD : va_D A [(mo, .inr (6, [.ref sa, .ref be, .int (nI kn), .ref ke, .int (zB ik), .ref te, .int (nI ty)])), (sa, .inl (G 0, 117, .inl (enc n N Z tn po rd al k S P V F))), (be, .inl (G 0, 468, .inl (bfp B kn (enc n N Z tn po rd al k S P V F) 0)))] := hD
  exact LP50 (117 + 1 - 0) 0 (by omega) (by omega)  _ _ hP hD hS _ (lv_sub hl [0, 1] rfl)

set_option maxHeartbeats 4000000 in
set_option maxRecDepth 100000 in
theorem mX6_know_full (l : Launch) (D : va_G) (G : Nat → ClassId) (mo sa be ke te ty : Nat) (ik : Bool) (n tn k : Nat) (N Z S P V : Nat → Int32) (F : Nat → Nat → Int32) (po rd al : Int32) (B : Nat → Nat → Int32)  : CT l yX6_know wsX6_know 0 0 D G [.ref mo] [(mo, .inr (6, [.ref sa, .ref be, .int (nI 4), .ref ke, .int (zB ik), .ref te, .int (nI ty)])), (sa, .inl (G 0, 117, .inl (enc n N Z tn po rd al k S P V F))), (be, .inl (G 0, 468, .inl (bf B)))] [(mo, .inr (6, [.ref sa, .ref be, .int (nI 4), .ref ke, .int (zB ik), .ref te, .int (nI ty)])), (sa, .inl (G 0, 117, .inl (enc n N Z tn po rd al k S P V F))), (be, .inl (G 0, 468, .inl (bf (uA (shB B) 3 (enc n N Z tn po rd al k S P V F)))))] none := by
  refine CT.of (cc := cX6_know) (maxL := 2) (ret := none) (by decide) rfl RX6 rfl (Nat.le_of_ble_eq_true rfl) (fun pp ee s mm bl me cc A ls hx hb hr hml hts hown hlk hnm hA hP hK hD hN hS hl => ?_)
  have hl : lv_has ls 2 [(0, .ref mo)] := hl
  have hP : va_P D vwCl [(mo, .inr (6, [.ref sa, .ref be, .int (nI 4), .ref ke, .int (zB ik), .ref te, .int (nI ty)])), (sa, .inl (G 0, 117, .inl (enc n N Z tn po rd al k S P V F))), (be, .inl (G 0, 468, .inl (bf B)))] s.heap := hP
  have inX6 : ∀ w ∈ wsX60, w ∈ wsX6_know := fun w h => List.mem_cons_of_mem _ (List.mem_append_right _ h)
  have k37 := hts (.fieldLink RX6 37 "SquareStakesModel" "known" "I") (List.mem_of_getElem? (i := 1) rfl)
  have k13 := hts (.fieldLink RX6 13 "SquareStakesModel" "before" "[I") (List.mem_of_getElem? (i := 2) rfl)
  have k7 := hts (.fieldLink RX6 7 "SquareStakesModel" "s" "[I") (List.mem_of_getElem? (i := 3) rfl)
  refine lv_aload_n hx hb dX6_know_0 rfl (lv_at hl 0 rfl) ?_
  refine va_get (D := D) (ci := 6) (v := .int (nI 4)) (C := RX6) (T := TX6) (N := 7) hx hb hts inX6 hown hK hP 0 rfl rfl 2 (by decide) k37 (fun _ h9 => h9) rfl dX6_know_1 ?_
  refine lv_iconst (v := nI 4) hx hb dX6_know_4 (by decide +kernel) ?_
  refine bNe (tgt := 48) hx hb dX6_know_5 (by decide) (by omega) (by omega) (fun c1 => by exfalso; omega) (fun c1 => ?_)
  refine lv_iconst (v := nI 0) hx hb dX6_know_8 (by decide +kernel) ?_
  refine lv_istore_n (lv' := [(1, .int (nI 0)), (0, .ref mo)]) hx hb dX6_know_9 rfl hl (by decide) rfl (fun ls hl => ?_)
  have LP10 : ∀ (nn10 k_ : Nat), k_ ≤ 351 → 351 < k_ + nn10  → ∀ (H : Heap) (locs : List Loc), va_P D vwCl [(mo, .inr (6, [.ref sa, .ref be, .int (nI 4), .ref ke, .int (zB ik), .ref te, .int (nI ty)])), (sa, .inl (G 0, 117, .inl (enc n N Z tn po rd al k S P V F))), (be, .inl (G 0, 468, .inl (bsh B k_)))] H → va_D A [(mo, .inr (6, [.ref sa, .ref be, .int (nI 4), .ref ke, .int (zB ik), .ref te, .int (nI ty)])), (sa, .inl (G 0, 117, .inl (enc n N Z tn po rd al k S P V F))), (be, .inl (G 0, 468, .inl (bsh B k_)))] → va_S A s.heap H locs → ∀ ls : Array Slot, lv_has ls 2 [(1, .int (nI k_)), (0, .ref mo)] → W pp l ee (rmA 0 0) s mm ([.ref mo] : List Value).toArray bl me cc H locs 0 0 (MQ bl (Qres none D G [(mo, .inr (6, [.ref sa, .ref be, .int (nI 4), .ref ke, .int (zB ik), .ref te, .int (nI ty)])), (sa, .inl (G 0, 117, .inl (enc n N Z tn po rd al k S P V F))), (be, .inl (G 0, 468, .inl (bf (uA (shB B) 3 (enc n N Z tn po rd al k S P V F)))))] A) ([.ref mo] : List Value).toArray s 0 0 A) (F0 mm 10 ls []) := by
    intro nn10
    induction nn10 with
    | zero => intro k_ h1 h2; exact absurd h2 (by omega)
    | succ nn10 ih10 =>
      intro k_ hkk_ hnk_  H locs hP hD hS ls hl
      refine lv_iload_n hx hb dX6_know_10 rfl (lv_at hl 0 rfl) ?_
      refine lv_sipush (v := nI 351) hx hb dX6_know_11 (by decide +kernel) ?_
      refine bGe (tgt := 38) hx hb dX6_know_14 (by decide) (by omega) (by omega) (fun c2 => ?_) (fun c2 => ?_)
      · obtain rfl : 351 = k_ := by omega
        refine lv_aload_n hx hb dX6_know_38 rfl (lv_at hl 1 rfl) ?_
        refine lv_dup hx hb dX6_know_39 rfl ?_
        refine va_get (D := D) (ci := 6) (v := .int (nI 4)) (C := RX6) (T := TX6) (N := 7) hx hb hts inX6 hown hK hP 0 rfl rfl 2 (by decide) k37 (fun _ h9 => h9) rfl dX6_know_40 ?_
        refine lv_iconst (v := nI 1) hx hb dX6_know_43 (by decide +kernel) ?_
        refine lv_isub hx hb dX6_know_44 ?_
        refine rTop (show nI 4 - nI 1 = nI 3 from pk_sub (by omega)) ?_
        refine va_put (D := D) (ci := 6) (v := .int (nI 3)) (ty := .int) (C := RX6) (T := TX6) (N := 7) hx hb hts inX6 tyX6 tyX6_ok nmX6 hown hK hP hD hS 0 rfl rfl 2 (by decide) k37 (fun _ h9 => h9) rfl (by decide +kernel) rfl rfl (Nat.le_of_ble_eq_true rfl) dX6_know_45 (fun H locs hP hD hS => ?_)
        have hP : va_P D vwCl [(mo, .inr (6, [.ref sa, .ref be, .int (nI 3), .ref ke, .int (zB ik), .ref te, .int (nI ty)])), (sa, .inl (G 0, 117, .inl (enc n N Z tn po rd al k S P V F))), (be, .inl (G 0, 468, .inl (bsh B 351)))] H := hP
        have hD : va_D A [(mo, .inr (6, [.ref sa, .ref be, .int (nI 3), .ref ke, .int (zB ik), .ref te, .int (nI ty)])), (sa, .inl (G 0, 117, .inl (enc n N Z tn po rd al k S P V F))), (be, .inl (G 0, 468, .inl (bsh B 351)))] := hD
        refine lv_iconst (v := nI 0) hx hb dX6_know_48 (by decide +kernel) ?_
        refine lv_istore_n (lv' := [(1, .int (nI 0)), (0, .ref mo)]) hx hb dX6_know_49 rfl hl (by decide) rfl (fun ls hl => ?_)
        have LP50 : ∀ (nn50 k_ : Nat), k_ ≤ 117 → 117 < k_ + nn50  → ∀ (H : Heap) (locs : List Loc), va_P D vwCl [(mo, .inr (6, [.ref sa, .ref be, .int (nI 3), .ref ke, .int (zB ik), .ref te, .int (nI ty)])), (sa, .inl (G 0, 117, .inl (enc n N Z tn po rd al k S P V F))), (be, .inl (G 0, 468, .inl (bfp (shB B) 3 (enc n N Z tn po rd al k S P V F) k_)))] H → va_D A [(mo, .inr (6, [.ref sa, .ref be, .int (nI 3), .ref ke, .int (zB ik), .ref te, .int (nI ty)])), (sa, .inl (G 0, 117, .inl (enc n N Z tn po rd al k S P V F))), (be, .inl (G 0, 468, .inl (bfp (shB B) 3 (enc n N Z tn po rd al k S P V F) k_)))] → va_S A s.heap H locs → ∀ ls : Array Slot, lv_has ls 2 [(1, .int (nI k_)), (0, .ref mo)] → W pp l ee (rmA 0 0) s mm ([.ref mo] : List Value).toArray bl me cc H locs 0 0 (MQ bl (Qres none D G [(mo, .inr (6, [.ref sa, .ref be, .int (nI 4), .ref ke, .int (zB ik), .ref te, .int (nI ty)])), (sa, .inl (G 0, 117, .inl (enc n N Z tn po rd al k S P V F))), (be, .inl (G 0, 468, .inl (bf (uA (shB B) 3 (enc n N Z tn po rd al k S P V F)))))] A) ([.ref mo] : List Value).toArray s 0 0 A) (F0 mm 50 ls []) := by
          intro nn50
          induction nn50 with
          | zero => intro k_ h1 h2; exact absurd h2 (by omega)
          | succ nn50 ih50 =>
            intro k_ hkk_ hnk_  H locs hP hD hS ls hl
            refine lv_iload_n hx hb dX6_know_50 rfl (lv_at hl 0 rfl) ?_
            refine lv_bipush (v := nI 117) hx hb dX6_know_51 (by decide +kernel) ?_
            refine bGe (tgt := 82) hx hb dX6_know_53 (by decide) (by omega) (by omega) (fun c3 => ?_) (fun c3 => ?_)
            · obtain rfl : 117 = k_ := by omega
              refine lv_aload_n hx hb dX6_know_82 rfl (lv_at hl 1 rfl) ?_
              refine lv_dup hx hb dX6_know_83 rfl ?_
              refine va_get (D := D) (ci := 6) (v := .int (nI 3)) (C := RX6) (T := TX6) (N := 7) hx hb hts inX6 hown hK hP 0 rfl rfl 2 (by decide) k37 (fun _ h9 => h9) rfl dX6_know_84 ?_
              refine lv_iconst (v := nI 1) hx hb dX6_know_87 (by decide +kernel) ?_
              refine lv_iadd hx hb dX6_know_88 ?_
              refine rTop (show nI 3 + nI 1 = nI 4 from nI_add 3 1) ?_
              refine va_put (D := D) (ci := 6) (v := .int (nI 4)) (ty := .int) (C := RX6) (T := TX6) (N := 7) hx hb hts inX6 tyX6 tyX6_ok nmX6 hown hK hP hD hS 0 rfl rfl 2 (by decide) k37 (fun _ h9 => h9) rfl (by decide +kernel) rfl rfl (Nat.le_of_ble_eq_true rfl) dX6_know_89 (fun H locs hP hD hS => ?_)
              have hP : va_P D vwCl [(mo, .inr (6, [.ref sa, .ref be, .int (nI 4), .ref ke, .int (zB ik), .ref te, .int (nI ty)])), (sa, .inl (G 0, 117, .inl (enc n N Z tn po rd al k S P V F))), (be, .inl (G 0, 468, .inl (bfp (shB B) 3 (enc n N Z tn po rd al k S P V F) 117)))] H := hP
              have hD : va_D A [(mo, .inr (6, [.ref sa, .ref be, .int (nI 4), .ref ke, .int (zB ik), .ref te, .int (nI ty)])), (sa, .inl (G 0, 117, .inl (enc n N Z tn po rd al k S P V F))), (be, .inl (G 0, 468, .inl (bfp (shB B) 3 (enc n N Z tn po rd al k S P V F) 117)))] := hD
              obtain ⟨hP, hD⟩ := wI (g := bf (uA (shB B) 3 (enc n N Z tn po rd al k S P V F))) hP hD 2 rfl (fun j hj => bfp_all hj)
              replace hP : va_P D vwCl [(mo, .inr (6, [.ref sa, .ref be, .int (nI 4), .ref ke, .int (zB ik), .ref te, .int (nI ty)])), (sa, .inl (G 0, 117, .inl (enc n N Z tn po rd al k S P V F))), (be, .inl (G 0, 468, .inl (bf (uA (shB B) 3 (enc n N Z tn po rd al k S P V F)))))] _ := hP
              have hD : va_D A [(mo, .inr (6, [.ref sa, .ref be, .int (nI 4), .ref ke, .int (zB ik), .ref te, .int (nI ty)])), (sa, .inl (G 0, 117, .inl (enc n N Z tn po rd al k S P V F))), (be, .inl (G 0, 468, .inl (bf (uA (shB B) 3 (enc n N Z tn po rd al k S P V F)))))] := hD
              exact rVret hx hb hr hlk hP hK hD hS dX6_know_92
            · refine lv_aload_n hx hb dX6_know_56 rfl (lv_at hl 1 rfl) ?_
              refine va_get (D := D) (ci := 6) (v := .ref be) (C := RX6) (T := TX6) (N := 7) hx hb hts inX6 hown hK hP 0 rfl rfl 1 (by decide) k13 (fun _ h9 => h9) rfl dX6_know_57 ?_
              refine lv_bipush (v := nI 117) hx hb dX6_know_60 (by decide +kernel) ?_
              refine lv_aload_n hx hb dX6_know_62 rfl (lv_at hl 1 rfl) ?_
              refine va_get (D := D) (ci := 6) (v := .int (nI 3)) (C := RX6) (T := TX6) (N := 7) hx hb hts inX6 hown hK hP 0 rfl rfl 2 (by decide) k37 (fun _ h9 => h9) rfl dX6_know_63 ?_
              refine lv_imul hx hb dX6_know_66 ?_
              refine rTop (show nI 117 * nI 3 = nI 351 from pk_mul 117 3) ?_
              refine lv_iload_n hx hb dX6_know_67 rfl (lv_at hl 0 rfl) ?_
              refine lv_iadd hx hb dX6_know_68 ?_
              refine rTop (show nI 351 + nI k_ = nI (351 + k_) from nI_add 351 k_) ?_
              refine lv_aload_n hx hb dX6_know_69 rfl (lv_at hl 1 rfl) ?_
              refine va_get (D := D) (ci := 6) (v := .ref sa) (C := RX6) (T := TX6) (N := 7) hx hb hts inX6 hown hK hP 0 rfl rfl 0 (by decide) k7 (fun _ h9 => h9) rfl dX6_know_70 ?_
              refine lv_iload_n hx hb dX6_know_73 rfl (lv_at hl 0 rfl) ?_
              refine rIald hx hb hK hP 1 rfl k_ (by omega) (by decide) dX6_know_74 ?_
              refine rIast hx hb hK hP hD hS 2 rfl (351 + k_) (by omega) (by decide) dX6_know_75 (fun H locs hP hD hS => ?_)
              have hP : va_P D vwCl [(mo, .inr (6, [.ref sa, .ref be, .int (nI 3), .ref ke, .int (zB ik), .ref te, .int (nI ty)])), (sa, .inl (G 0, 117, .inl (enc n N Z tn po rd al k S P V F))), (be, .inl (G 0, 468, .inl (upd (bfp (shB B) 3 (enc n N Z tn po rd al k S P V F) k_) (351 + k_) (enc n N Z tn po rd al k S P V F k_))))] H := hP
              have hD : va_D A [(mo, .inr (6, [.ref sa, .ref be, .int (nI 3), .ref ke, .int (zB ik), .ref te, .int (nI ty)])), (sa, .inl (G 0, 117, .inl (enc n N Z tn po rd al k S P V F))), (be, .inl (G 0, 468, .inl (upd (bfp (shB B) 3 (enc n N Z tn po rd al k S P V F) k_) (351 + k_) (enc n N Z tn po rd al k S P V F k_))))] := hD
              refine lv_iinc (v := nI (k_ + 1)) (lv' := [(1, .int (nI (k_ + 1))), (0, .ref mo)]) hx hb dX6_know_76 hl (k := 0) rfl (nI_inc k_) (by decide) rfl (fun ls hl => ?_)
              refine lv_goto (tgt := 50) hx hb dX6_know_79 (by decide) ?_
              obtain ⟨hP, hD⟩ := wI (g := bfp (shB B) 3 (enc n N Z tn po rd al k S P V F) (k_ + 1)) hP hD 2 rfl (fun j hj => bfp_s (by omega))
              replace hP : va_P D vwCl [(mo, .inr (6, [.ref sa, .ref be, .int (nI 3), .ref ke, .int (zB ik), .ref te, .int (nI ty)])), (sa, .inl (G 0, 117, .inl (enc n N Z tn po rd al k S P V F))), (be, .inl (G 0, 468, .inl (bfp (shB B) 3 (enc n N Z tn po rd al k S P V F) (k_ + 1))))] _ := hP
              have hD : va_D A [(mo, .inr (6, [.ref sa, .ref be, .int (nI 3), .ref ke, .int (zB ik), .ref te, .int (nI ty)])), (sa, .inl (G 0, 117, .inl (enc n N Z tn po rd al k S P V F))), (be, .inl (G 0, 468, .inl (bfp (shB B) 3 (enc n N Z tn po rd al k S P V F) (k_ + 1))))] := hD
              exact ih50 (k_ + 1) (by omega) (by omega)  _ _ hP hD hS _ (lv_sub hl [0, 1] rfl)
        obtain ⟨hP, hD⟩ := wI (g := bfp (shB B) 3 (enc n N Z tn po rd al k S P V F) 0) hP hD 2 rfl (fun j hj => by rw [bfp_0]; exact bsh_all hj)
        replace hP : va_P D vwCl [(mo, .inr (6, [.ref sa, .ref be, .int (nI 3), .ref ke, .int (zB ik), .ref te, .int (nI ty)])), (sa, .inl (G 0, 117, .inl (enc n N Z tn po rd al k S P V F))), (be, .inl (G 0, 468, .inl (bfp (shB B) 3 (enc n N Z tn po rd al k S P V F) 0)))] _ := hP
        have hD : va_D A [(mo, .inr (6, [.ref sa, .ref be, .int (nI 3), .ref ke, .int (zB ik), .ref te, .int (nI ty)])), (sa, .inl (G 0, 117, .inl (enc n N Z tn po rd al k S P V F))), (be, .inl (G 0, 468, .inl (bfp (shB B) 3 (enc n N Z tn po rd al k S P V F) 0)))] := hD
        exact LP50 (117 + 1 - 0) 0 (by omega) (by omega)  _ _ hP hD hS _ (lv_sub hl [0, 1] rfl)
      · refine lv_aload_n hx hb dX6_know_17 rfl (lv_at hl 1 rfl) ?_
        refine va_get (D := D) (ci := 6) (v := .ref be) (C := RX6) (T := TX6) (N := 7) hx hb hts inX6 hown hK hP 0 rfl rfl 1 (by decide) k13 (fun _ h9 => h9) rfl dX6_know_18 ?_
        refine lv_iload_n hx hb dX6_know_21 rfl (lv_at hl 0 rfl) ?_
        refine lv_aload_n hx hb dX6_know_22 rfl (lv_at hl 1 rfl) ?_
        refine va_get (D := D) (ci := 6) (v := .ref be) (C := RX6) (T := TX6) (N := 7) hx hb hts inX6 hown hK hP 0 rfl rfl 1 (by decide) k13 (fun _ h9 => h9) rfl dX6_know_23 ?_
        refine lv_bipush (v := nI 117) hx hb dX6_know_26 (by decide +kernel) ?_
        refine lv_iload_n hx hb dX6_know_28 rfl (lv_at hl 0 rfl) ?_
        refine lv_iadd hx hb dX6_know_29 ?_
        refine rTop (show nI 117 + nI k_ = nI (117 + k_) from nI_add 117 k_) ?_
        refine rIald hx hb hK hP 2 rfl (117 + k_) (by omega) (by decide) dX6_know_30 ?_
        refine rIast hx hb hK hP hD hS 2 rfl k_ (by omega) (by decide) dX6_know_31 (fun H locs hP hD hS => ?_)
        have hP : va_P D vwCl [(mo, .inr (6, [.ref sa, .ref be, .int (nI 4), .ref ke, .int (zB ik), .ref te, .int (nI ty)])), (sa, .inl (G 0, 117, .inl (enc n N Z tn po rd al k S P V F))), (be, .inl (G 0, 468, .inl (upd (bsh B k_) k_ ((bsh B k_) (117 + k_)))))] H := hP
        have hD : va_D A [(mo, .inr (6, [.ref sa, .ref be, .int (nI 4), .ref ke, .int (zB ik), .ref te, .int (nI ty)])), (sa, .inl (G 0, 117, .inl (enc n N Z tn po rd al k S P V F))), (be, .inl (G 0, 468, .inl (upd (bsh B k_) k_ ((bsh B k_) (117 + k_)))))] := hD
        refine lv_iinc (v := nI (k_ + 1)) (lv' := [(1, .int (nI (k_ + 1))), (0, .ref mo)]) hx hb dX6_know_32 hl (k := 0) rfl (nI_inc k_) (by decide) rfl (fun ls hl => ?_)
        refine lv_goto (tgt := 10) hx hb dX6_know_35 (by decide) ?_
        obtain ⟨hP, hD⟩ := wI (g := bsh B (k_ + 1)) hP hD 2 rfl (fun j hj => bsh_s (by omega))
        replace hP : va_P D vwCl [(mo, .inr (6, [.ref sa, .ref be, .int (nI 4), .ref ke, .int (zB ik), .ref te, .int (nI ty)])), (sa, .inl (G 0, 117, .inl (enc n N Z tn po rd al k S P V F))), (be, .inl (G 0, 468, .inl (bsh B (k_ + 1))))] _ := hP
        have hD : va_D A [(mo, .inr (6, [.ref sa, .ref be, .int (nI 4), .ref ke, .int (zB ik), .ref te, .int (nI ty)])), (sa, .inl (G 0, 117, .inl (enc n N Z tn po rd al k S P V F))), (be, .inl (G 0, 468, .inl (bsh B (k_ + 1))))] := hD
        exact ih10 (k_ + 1) (by omega) (by omega)  _ _ hP hD hS _ (lv_sub hl [0, 1] rfl)
  obtain ⟨hP, hD⟩ := wI (g := bsh B 0) hP hD 2 rfl (fun j hj => by rw [bsh_0])
  replace hP : va_P D vwCl [(mo, .inr (6, [.ref sa, .ref be, .int (nI 4), .ref ke, .int (zB ik), .ref te, .int (nI ty)])), (sa, .inl (G 0, 117, .inl (enc n N Z tn po rd al k S P V F))), (be, .inl (G 0, 468, .inl (bsh B 0)))] _ := hP
  have hD : va_D A [(mo, .inr (6, [.ref sa, .ref be, .int (nI 4), .ref ke, .int (zB ik), .ref te, .int (nI ty)])), (sa, .inl (G 0, 117, .inl (enc n N Z tn po rd al k S P V F))), (be, .inl (G 0, 468, .inl (bsh B 0)))] := hD
  exact LP10 (351 + 1 - 0) 0 (by omega) (by omega)  _ _ hP hD hS _ (lv_sub hl [0, 1] rfl)

set_option maxRecDepth 100000 in
theorem mX6_know (l : Launch) (D : va_G) (G : Nat → ClassId) (mo sa be ke te kn ty : Nat) (ik : Bool) (n tn k : Nat) (N Z S P V : Nat → Int32) (F : Nat → Nat → Int32) (po rd al : Int32) (B : Nat → Nat → Int32) (hkn : kn ≤ 4) : CT l yX6_know wsX6_know 0 0 D G [.ref mo] [(mo, .inr (6, [.ref sa, .ref be, .int (nI kn), .ref ke, .int (zB ik), .ref te, .int (nI ty)])), (sa, .inl (G 0, 117, .inl (enc n N Z tn po rd al k S P V F))), (be, .inl (G 0, 468, .inl (bf B)))] [(mo, .inr (6, [.ref sa, .ref be, .int (nI (mn kn)), .ref ke, .int (zB ik), .ref te, .int (nI ty)])), (sa, .inl (G 0, 117, .inl (enc n N Z tn po rd al k S P V F))), (be, .inl (G 0, 468, .inl (bf (kB B kn (enc n N Z tn po rd al k S P V F)))))] none := by
  by_cases h : kn < 4
  · rw [mn_lt h, kB_lt h]
    exact mX6_know_lt l D G mo sa be ke te kn ty ik n tn k N Z S P V F po rd al B h
  · obtain rfl : 4 = kn := by omega
    rw [mn_4, kB_4]
    exact mX6_know_full l D G mo sa be ke te ty ik n tn k N Z S P V F po rd al B
