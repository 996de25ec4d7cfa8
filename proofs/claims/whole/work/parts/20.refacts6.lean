set_option maxHeartbeats 4000000 in
set_option maxRecDepth 100000 in
theorem mX6_tried (l : Launch) (D : va_G) (G : Nat → ClassId) (mo sa be ke te kn ty : Nat) (ik : Bool) (n tn k : Nat) (N Z S P V : Nat → Int32) (F : Nat → Nat → Int32) (po rd al : Int32) (a b w : Nat) (hk : k ≤ 10) (hn : n = 3 ∨ n = 4) (hSO : SOK n k F) (hN1 : NOK n N) (hSM : SMK k F) (hRF : RFD k F) (haq : a < n * n) (hbq : b < n * n) (hw3 : w < 3) : CT l yX6_tried wsX6_tried 5 117 D G [.ref mo, .int (nI a), .int (nI b), .int (nI w)] [(mo, .inr (6, [.ref sa, .ref be, .int (nI kn), .ref ke, .int (zB ik), .ref te, .int (nI ty)])), (sa, .inl (G 0, 117, .inl (enc n N Z tn po rd al k S P V F)))] [(mo, .inr (6, [.ref sa, .ref be, .int (nI kn), .ref ke, .int (zB ik), .ref te, .int (nI ty)])), (sa, .inl (G 0, 117, .inl (enc n N Z tn po rd al k S P V F)))] (some (.int (tbs n (ex N a b) k F (odR F) (nI w)))) := by
  refine CT.of (cc := cX6_tried) (maxL := 5) (ret := (some .int)) (by decide) rfl RX6 rfl (Nat.le_of_ble_eq_true rfl) (fun pp ee s mm bl me cc A ls hx hb hr hml hts hown hlk hnm hA hP hK hD hN hS hl => ?_)
  have hl : lv_has ls 5 [(0, .ref mo), (1, .int (nI a)), (2, .int (nI b)), (3, .int (nI w))] := hl
  have hP : va_P D vwCl [(mo, .inr (6, [.ref sa, .ref be, .int (nI kn), .ref ke, .int (zB ik), .ref te, .int (nI ty)])), (sa, .inl (G 0, 117, .inl (enc n N Z tn po rd al k S P V F)))] s.heap := hP
  have hq9 : n * n < 17 ∧ 0 < n * n := by rcases hn with rfl | rfl <;> decide
  refine lv_aload_n hx hb dX6_tried_0 rfl (lv_at hl 0 rfl) ?_
  refine lv_iload_n hx hb dX6_tried_1 rfl (lv_at hl 1 rfl) ?_
  refine lv_iload_n hx hb dX6_tried_2 rfl (lv_at hl 2 rfl) ?_
  refine cV (As := [.int (nI a), .int (nI b)]) (rest := []) ⟨hx, hb, hml, hown, hts⟩ hP hK hD hS hN hA (mX6_exchange l D G mo sa be ke te kn ty ik n tn k N Z S P V F po rd al a b (by first | assumption | omega) (by first | assumption | omega)) (cwV 2 hts gX6_tried_X6_exchange rfl rfl rfl (by decide +kernel) ⟨Nat.le_of_ble_eq_true rfl, Nat.le_of_ble_eq_true rfl⟩) [0, 1] rfl (by decide) (Eq.trans (b := [mo, sa]) rfl rfl) 0 6 rfl rfl rfl hl.1 rfl (Nat.le_of_ble_eq_true rfl) dX6_tried_3 ⟨Nat.zero_le _, Nat.zero_le _⟩ (fun H locs hP hD hS => ?_)
  have hP : va_P D vwCl [(mo, .inr (6, [.ref sa, .ref be, .int (nI kn), .ref ke, .int (zB ik), .ref te, .int (nI ty)])), (sa, .inl (G 0, 117, .inl (enc n (ex N a b) Z tn po rd al k S P V F)))] H := hP
  have hD : va_D A [(mo, .inr (6, [.ref sa, .ref be, .int (nI kn), .ref ke, .int (zB ik), .ref te, .int (nI ty)])), (sa, .inl (G 0, 117, .inl (enc n (ex N a b) Z tn po rd al k S P V F)))] := hD
  refine lv_iload_n hx hb dX6_tried_6 rfl (lv_at hl 3 rfl) ?_
  refine iNe (tgt := 17) hx hb dX6_tried_7 (by decide) (by omega) (fun c1 => ?_) (fun c1 => ?_)
  · refine lv_iload_n hx hb dX6_tried_17 rfl (lv_at hl 3 rfl) ?_
    refine lv_iconst (v := nI 1) hx hb dX6_tried_18 (by decide +kernel) ?_
    refine bNe (tgt := 29) hx hb dX6_tried_19 (by decide) (by omega) (by omega) (fun c2 => ?_) (fun c2 => ?_)
    · refine lv_aload_n hx hb dX6_tried_29 rfl (lv_at hl 0 rfl) ?_
      refine lv_iconst (v := nI 3) hx hb dX6_tried_30 (by decide +kernel) ?_
      refine cVr (As := [.int (nI 3)]) (rest := []) ⟨hx, hb, hml, hown, hts⟩ hP hK hD hS hN hA (mX6_wouldPay_all l D G mo sa be ke te kn ty ik n tn k (ex N a b) Z S P V F po rd al (by first | assumption | omega) (by first | assumption | omega) (by first | assumption | omega) (NOK_ex hN1 haq hbq) (by first | assumption | omega) (by first | assumption | omega)) (cwV 1 hts gX6_tried_X6_wouldPay rfl rfl rfl (by decide +kernel) ⟨Nat.le_of_ble_eq_true rfl, Nat.le_of_ble_eq_true rfl⟩) [0, 1] rfl (by decide) 0 6 rfl rfl rfl hl.1 rfl (Nat.le_of_ble_eq_true rfl) dX6_tried_31 ⟨Nat.zero_le _, Nat.zero_le _⟩ (fun H locs hP hS => ?_)
      refine lv_istore (lv' := [(4, .int (da n (ex N a b) F (odR F) k)), (0, .ref mo), (1, .int (nI a)), (2, .int (nI b)), (3, .int (nI w))]) hx hb dX6_tried_34 hl (by decide) rfl (fun ls hl => ?_)
      refine lv_aload_n hx hb dX6_tried_36 rfl (lv_at hl 1 rfl) ?_
      refine lv_iload_n hx hb dX6_tried_37 rfl (lv_at hl 2 rfl) ?_
      refine lv_iload_n hx hb dX6_tried_38 rfl (lv_at hl 3 rfl) ?_
      refine cV (As := [.int (nI a), .int (nI b)]) (rest := []) ⟨hx, hb, hml, hown, hts⟩ hP hK hD hS hN hA (mX6_exchange l D G mo sa be ke te kn ty ik n tn k (ex N a b) Z S P V F po rd al a b (by first | assumption | omega) (by first | assumption | omega)) (cwV 2 hts gX6_tried_X6_exchange rfl rfl rfl (by decide +kernel) ⟨Nat.le_of_ble_eq_true rfl, Nat.le_of_ble_eq_true rfl⟩) [0, 1] rfl (by decide) (Eq.trans (b := [mo, sa]) rfl rfl) 0 6 rfl rfl rfl hl.1 rfl (Nat.le_of_ble_eq_true rfl) dX6_tried_39 ⟨Nat.zero_le _, Nat.zero_le _⟩ (fun H locs hP hD hS => ?_)
      have hP : va_P D vwCl [(mo, .inr (6, [.ref sa, .ref be, .int (nI kn), .ref ke, .int (zB ik), .ref te, .int (nI ty)])), (sa, .inl (G 0, 117, .inl (enc n (ex (ex N a b) a b) Z tn po rd al k S P V F)))] H := hP
      have hD : va_D A [(mo, .inr (6, [.ref sa, .ref be, .int (nI kn), .ref ke, .int (zB ik), .ref te, .int (nI ty)])), (sa, .inl (G 0, 117, .inl (enc n (ex (ex N a b) a b) Z tn po rd al k S P V F)))] := hD
      refine lv_iload hx hb dX6_tried_42 (lv_at hl 0 rfl) ?_
      refine rTop (show da n (ex N a b) F (odR F) k = tbs n (ex N a b) k F (odR F) (nI w) from tbs_2 (by omega)) ?_
      obtain ⟨hP, hD⟩ := wI (g := enc n N Z tn po rd al k S P V F) hP hD 1 rfl (fun j hj => congrFun (congrArg (fun NN => enc n NN Z tn po rd al k S P V F) (show ex (ex N a b) a b = N from ex_exF _ _ _)) j)
      replace hP : va_P D vwCl [(mo, .inr (6, [.ref sa, .ref be, .int (nI kn), .ref ke, .int (zB ik), .ref te, .int (nI ty)])), (sa, .inl (G 0, 117, .inl (enc n N Z tn po rd al k S P V F)))] _ := hP
      have hD : va_D A [(mo, .inr (6, [.ref sa, .ref be, .int (nI kn), .ref ke, .int (zB ik), .ref te, .int (nI ty)])), (sa, .inl (G 0, 117, .inl (enc n N Z tn po rd al k S P V F)))] := hD
      exact rIret hx hb hr hlk hP hK hD hS dX6_tried_44
    · refine lv_aload_n hx hb dX6_tried_22 rfl (lv_at hl 0 rfl) ?_
      refine cVr (As := []) (rest := []) ⟨hx, hb, hml, hown, hts⟩ hP hK hD hS hN hA (mX6_magicLines l D G mo sa be ke te kn ty ik n tn k (ex N a b) Z S P V F po rd al (by first | assumption | omega)) (cwV 0 hts gX6_tried_X6_magicLines rfl rfl rfl (by decide +kernel) ⟨Nat.le_of_ble_eq_true rfl, Nat.le_of_ble_eq_true rfl⟩) [0, 1] rfl (by decide) 0 6 rfl rfl rfl hl.1 rfl (Nat.le_of_ble_eq_true rfl) dX6_tried_23 ⟨Nat.zero_le _, Nat.zero_le _⟩ (fun H locs hP hS => ?_)
      refine lv_goto (tgt := 34) hx hb dX6_tried_26 (by decide) ?_
      refine lv_istore (lv' := [(4, .int (nI (mcn n (ex N a b)))), (0, .ref mo), (1, .int (nI a)), (2, .int (nI b)), (3, .int (nI w))]) hx hb dX6_tried_34 hl (by decide) rfl (fun ls hl => ?_)
      refine lv_aload_n hx hb dX6_tried_36 rfl (lv_at hl 1 rfl) ?_
      refine lv_iload_n hx hb dX6_tried_37 rfl (lv_at hl 2 rfl) ?_
      refine lv_iload_n hx hb dX6_tried_38 rfl (lv_at hl 3 rfl) ?_
      refine cV (As := [.int (nI a), .int (nI b)]) (rest := []) ⟨hx, hb, hml, hown, hts⟩ hP hK hD hS hN hA (mX6_exchange l D G mo sa be ke te kn ty ik n tn k (ex N a b) Z S P V F po rd al a b (by first | assumption | omega) (by first | assumption | omega)) (cwV 2 hts gX6_tried_X6_exchange rfl rfl rfl (by decide +kernel) ⟨Nat.le_of_ble_eq_true rfl, Nat.le_of_ble_eq_true rfl⟩) [0, 1] rfl (by decide) (Eq.trans (b := [mo, sa]) rfl rfl) 0 6 rfl rfl rfl hl.1 rfl (Nat.le_of_ble_eq_true rfl) dX6_tried_39 ⟨Nat.zero_le _, Nat.zero_le _⟩ (fun H locs hP hD hS => ?_)
      have hP : va_P D vwCl [(mo, .inr (6, [.ref sa, .ref be, .int (nI kn), .ref ke, .int (zB ik), .ref te, .int (nI ty)])), (sa, .inl (G 0, 117, .inl (enc n (ex (ex N a b) a b) Z tn po rd al k S P V F)))] H := hP
      have hD : va_D A [(mo, .inr (6, [.ref sa, .ref be, .int (nI kn), .ref ke, .int (zB ik), .ref te, .int (nI ty)])), (sa, .inl (G 0, 117, .inl (enc n (ex (ex N a b) a b) Z tn po rd al k S P V F)))] := hD
      refine lv_iload hx hb dX6_tried_42 (lv_at hl 0 rfl) ?_
      refine rTop (show nI (mcn n (ex N a b)) = tbs n (ex N a b) k F (odR F) (nI w) from tbs_1 (by omega)) ?_
      obtain ⟨hP, hD⟩ := wI (g := enc n N Z tn po rd al k S P V F) hP hD 1 rfl (fun j hj => congrFun (congrArg (fun NN => enc n NN Z tn po rd al k S P V F) (show ex (ex N a b) a b = N from ex_exF _ _ _)) j)
      replace hP : va_P D vwCl [(mo, .inr (6, [.ref sa, .ref be, .int (nI kn), .ref ke, .int (zB ik), .ref te, .int (nI ty)])), (sa, .inl (G 0, 117, .inl (enc n N Z tn po rd al k S P V F)))] _ := hP
      have hD : va_D A [(mo, .inr (6, [.ref sa, .ref be, .int (nI kn), .ref ke, .int (zB ik), .ref te, .int (nI ty)])), (sa, .inl (G 0, 117, .inl (enc n N Z tn po rd al k S P V F)))] := hD
      exact rIret hx hb hr hlk hP hK hD hS dX6_tried_44
  · refine lv_aload_n hx hb dX6_tried_10 rfl (lv_at hl 0 rfl) ?_
    refine cVr (As := []) (rest := []) ⟨hx, hb, hml, hown, hts⟩ hP hK hD hS hN hA (mX6_wayOff l D G mo sa be ke te kn ty ik n tn k (ex N a b) Z S P V F po rd al (by first | assumption | omega)) (cwV 0 hts gX6_tried_X6_wayOff rfl rfl rfl (by decide +kernel) ⟨Nat.le_of_ble_eq_true rfl, Nat.le_of_ble_eq_true rfl⟩) [0, 1] rfl (by decide) 0 6 rfl rfl rfl hl.1 rfl (Nat.le_of_ble_eq_true rfl) dX6_tried_11 ⟨Nat.zero_le _, Nat.zero_le _⟩ (fun H locs hP hS => ?_)
    refine lv_goto (tgt := 34) hx hb dX6_tried_14 (by decide) ?_
    refine lv_istore (lv' := [(4, .int (wof n (ex N a b))), (0, .ref mo), (1, .int (nI a)), (2, .int (nI b)), (3, .int (nI w))]) hx hb dX6_tried_34 hl (by decide) rfl (fun ls hl => ?_)
    refine lv_aload_n hx hb dX6_tried_36 rfl (lv_at hl 1 rfl) ?_
    refine lv_iload_n hx hb dX6_tried_37 rfl (lv_at hl 2 rfl) ?_
    refine lv_iload_n hx hb dX6_tried_38 rfl (lv_at hl 3 rfl) ?_
    refine cV (As := [.int (nI a), .int (nI b)]) (rest := []) ⟨hx, hb, hml, hown, hts⟩ hP hK hD hS hN hA (mX6_exchange l D G mo sa be ke te kn ty ik n tn k (ex N a b) Z S P V F po rd al a b (by first | assumption | omega) (by first | assumption | omega)) (cwV 2 hts gX6_tried_X6_exchange rfl rfl rfl (by decide +kernel) ⟨Nat.le_of_ble_eq_true rfl, Nat.le_of_ble_eq_true rfl⟩) [0, 1] rfl (by decide) (Eq.trans (b := [mo, sa]) rfl rfl) 0 6 rfl rfl rfl hl.1 rfl (Nat.le_of_ble_eq_true rfl) dX6_tried_39 ⟨Nat.zero_le _, Nat.zero_le _⟩ (fun H locs hP hD hS => ?_)
    have hP : va_P D vwCl [(mo, .inr (6, [.ref sa, .ref be, .int (nI kn), .ref ke, .int (zB ik), .ref te, .int (nI ty)])), (sa, .inl (G 0, 117, .inl (enc n (ex (ex N a b) a b) Z tn po rd al k S P V F)))] H := hP
    have hD : va_D A [(mo, .inr (6, [.ref sa, .ref be, .int (nI kn), .ref ke, .int (zB ik), .ref te, .int (nI ty)])), (sa, .inl (G 0, 117, .inl (enc n (ex (ex N a b) a b) Z tn po rd al k S P V F)))] := hD
    refine lv_iload hx hb dX6_tried_42 (lv_at hl 0 rfl) ?_
    refine rTop (show wof n (ex N a b) = tbs n (ex N a b) k F (odR F) (nI w) from tbs_0 (by omega)) ?_
    obtain ⟨hP, hD⟩ := wI (g := enc n N Z tn po rd al k S P V F) hP hD 1 rfl (fun j hj => congrFun (congrArg (fun NN => enc n NN Z tn po rd al k S P V F) (show ex (ex N a b) a b = N from ex_exF _ _ _)) j)
    replace hP : va_P D vwCl [(mo, .inr (6, [.ref sa, .ref be, .int (nI kn), .ref ke, .int (zB ik), .ref te, .int (nI ty)])), (sa, .inl (G 0, 117, .inl (enc n N Z tn po rd al k S P V F)))] _ := hP
    have hD : va_D A [(mo, .inr (6, [.ref sa, .ref be, .int (nI kn), .ref ke, .int (zB ik), .ref te, .int (nI ty)])), (sa, .inl (G 0, 117, .inl (enc n N Z tn po rd al k S P V F)))] := hD
    exact rIret hx hb hr hlk hP hK hD hS dX6_tried_44

set_option maxHeartbeats 4000000 in
set_option maxRecDepth 100000 in
theorem mX6_would (l : Launch) (D : va_G) (G : Nat → ClassId) (mo sa be ke te kn ty : Nat) (ik : Bool) (n tn k : Nat) (N Z S P V : Nat → Int32) (F : Nat → Nat → Int32) (po rd al : Int32) (x y w : Int32) (hk : k ≤ 10) (hn : n = 3 ∨ n = 4) (hSO : SOK n k F) (hN1 : NOK n N) (hSM : SMK k F) (hRF : RFD k F) : CT l yX6_would wsX6_would 6 141 D G [.ref mo, .int x, .int y, .int w] [(mo, .inr (6, [.ref sa, .ref be, .int (nI kn), .ref ke, .int (zB ik), .ref te, .int (nI ty)])), (sa, .inl (G 0, 117, .inl (enc n N Z tn po rd al k S P V F)))] [(mo, .inr (6, [.ref sa, .ref be, .int (nI kn), .ref ke, .int (zB ik), .ref te, .int (nI ty)])), (sa, .inl (G 0, 117, .inl (enc n N Z tn po rd al k S P V F)))] (some (.int (wouldQ n N k F (odR F) x y w))) := by
  refine CT.of (cc := cX6_would) (maxL := 4) (ret := (some .int)) (by decide) rfl RX6 rfl (Nat.le_of_ble_eq_true rfl) (fun pp ee s mm bl me cc A ls hx hb hr hml hts hown hlk hnm hA hP hK hD hN hS hl => ?_)
  have hl : lv_has ls 4 [(0, .ref mo), (1, .int x), (2, .int y), (3, .int w)] := hl
  have hP : va_P D vwCl [(mo, .inr (6, [.ref sa, .ref be, .int (nI kn), .ref ke, .int (zB ik), .ref te, .int (nI ty)])), (sa, .inl (G 0, 117, .inl (enc n N Z tn po rd al k S P V F)))] s.heap := hP
  have hq9 : n * n < 17 ∧ 0 < n * n := by rcases hn with rfl | rfl <;> decide
  refine lv_aload_n hx hb dX6_would_0 rfl (lv_at hl 0 rfl) ?_
  refine lv_iload_n hx hb dX6_would_1 rfl (lv_at hl 1 rfl) ?_
  refine cVr (As := [.int x]) (rest := []) ⟨hx, hb, hml, hown, hts⟩ hP hK hD hS hN hA (mX6_isCell l D G mo sa be ke te kn ty ik n tn k N Z S P V F po rd al x (by first | assumption | omega)) (cwV 1 hts gX6_would_X6_isCell rfl rfl rfl (by decide +kernel) ⟨Nat.le_of_ble_eq_true rfl, Nat.le_of_ble_eq_true rfl⟩) [0, 1] rfl (by decide) 0 6 rfl rfl rfl hl.1 rfl (Nat.le_of_ble_eq_true rfl) dX6_would_2 ⟨Nat.zero_le _, Nat.zero_le _⟩ (fun H locs hP hS => ?_)
  refine zEq (tgt := 16) hx hb dX6_would_5 (by decide)  (fun c1 => ?_) (fun c1 => ?_)
  · refine lv_iconst (v := -1) hx hb dX6_would_16 (by decide +kernel) ?_
    refine rTop (show (-1) = wouldQ n N k F (odR F) x y w from by first | exact wouldQ_f1 (by assumption) | exact wouldQ_f2 (by assumption)) ?_
    exact rIret hx hb hr hlk hP hK hD hS dX6_would_17
  · obtain ⟨xj, hxj, rfl⟩ := inB_ex (by assumption) (by omega)
    refine lv_aload_n hx hb dX6_would_8 rfl (lv_at hl 0 rfl) ?_
    refine lv_iload_n hx hb dX6_would_9 rfl (lv_at hl 2 rfl) ?_
    refine cVr (As := [.int y]) (rest := []) ⟨hx, hb, hml, hown, hts⟩ hP hK hD hS hN hA (mX6_isCell l D G mo sa be ke te kn ty ik n tn k N Z S P V F po rd al y (by first | assumption | omega)) (cwV 1 hts gX6_would_X6_isCell rfl rfl rfl (by decide +kernel) ⟨Nat.le_of_ble_eq_true rfl, Nat.le_of_ble_eq_true rfl⟩) [0, 1] rfl (by decide) 0 6 rfl rfl rfl hl.1 rfl (Nat.le_of_ble_eq_true rfl) dX6_would_10 ⟨Nat.zero_le _, Nat.zero_le _⟩ (fun H locs hP hS => ?_)
    refine zNe (tgt := 18) hx hb dX6_would_13 (by decide)  (fun c2 => ?_) (fun c2 => ?_)
    · obtain ⟨yj, hyj, rfl⟩ := inB_ex (by assumption) (by omega)
      refine lv_iload_n hx hb dX6_would_18 rfl (lv_at hl 3 rfl) ?_
      refine lv_iconst (v := nI 0) hx hb dX6_would_19 (by decide +kernel) ?_
      refine lv_iconst (v := nI 2) hx hb dX6_would_20 (by decide +kernel) ?_
      refine cSr (As := [.int w, .int (nI 0), .int (nI 2)]) (rest := []) ⟨hx, hb, hml, hown, hts⟩ hP hK hD hS hN hA (mX6_in l D G w (nI 0) (nI 2) ) (cwS 3 hts gX6_would_X6_in rfl rfl rfl (by decide +kernel) ⟨Nat.le_of_ble_eq_true rfl, Nat.le_of_ble_eq_true rfl⟩) [] rfl (by decide) rfl hl.1 rfl (Nat.le_of_ble_eq_true rfl) dX6_would_21 ⟨Nat.zero_le _, Nat.zero_le _⟩ (fun H locs hP hS => ?_)
      refine zEq (tgt := 42) hx hb dX6_would_24 (by decide)  (fun c3 => ?_) (fun c3 => ?_)
      · refine lv_bipush (v := -2) hx hb dX6_would_42 (by decide +kernel) ?_
        refine rTop (show (-2) = wouldQ n N k F (odR F) (nI xj) (nI yj) w from by first | exact wouldQ_b1 hxj hyj (by omega) (rg_3.symm.trans (by assumption)) | exact wouldQ_b2 hxj hyj (by omega) (by assumption)) ?_
        exact rIret hx hb hr hlk hP hK hD hS dX6_would_44
      · obtain ⟨wj, hwj, rfl⟩ := inB_ex (rg_3.symm.trans (by assumption)) (by omega)
        refine lv_iload_n hx hb dX6_would_27 rfl (lv_at hl 1 rfl) ?_
        refine lv_iload_n hx hb dX6_would_28 rfl (lv_at hl 2 rfl) ?_
        refine bEq (tgt := 42) hx hb dX6_would_29 (by decide) (by omega) (by omega) (fun c4 => ?_) (fun c4 => ?_)
        · refine lv_bipush (v := -2) hx hb dX6_would_42 (by decide +kernel) ?_
          refine rTop (show (-2) = wouldQ n N k F (odR F) (nI xj) (nI yj) (nI wj) from by first | exact wouldQ_b1 hxj hyj (by omega) (rg_3.symm.trans (by assumption)) | exact wouldQ_b2 hxj hyj (by omega) (by assumption)) ?_
          exact rIret hx hb hr hlk hP hK hD hS dX6_would_44
        · refine lv_aload_n hx hb dX6_would_32 rfl (lv_at hl 0 rfl) ?_
          refine lv_iload_n hx hb dX6_would_33 rfl (lv_at hl 1 rfl) ?_
          refine lv_iload_n hx hb dX6_would_34 rfl (lv_at hl 2 rfl) ?_
          refine lv_iload_n hx hb dX6_would_35 rfl (lv_at hl 3 rfl) ?_
          refine cVr (As := [.int (nI xj), .int (nI yj), .int (nI wj)]) (rest := []) ⟨hx, hb, hml, hown, hts⟩ hP hK hD hS hN hA (mX6_tried l D G mo sa be ke te kn ty ik n tn k N Z S P V F po rd al xj yj wj (by first | assumption | omega) (by first | assumption | omega) (by first | assumption | omega) (by first | assumption | omega) (by first | assumption | omega) (by first | assumption | omega) (by first | assumption | omega) (by first | assumption | omega) (by first | assumption | omega)) (cwV 3 hts gX6_would_X6_tried rfl rfl rfl (by decide +kernel) ⟨Nat.le_of_ble_eq_true rfl, Nat.le_of_ble_eq_true rfl⟩) [0, 1] rfl (by decide) 0 6 rfl rfl rfl hl.1 rfl (Nat.le_of_ble_eq_true rfl) dX6_would_36 ⟨Nat.zero_le _, Nat.zero_le _⟩ (fun H locs hP hS => ?_)
          refine lv_goto (tgt := 44) hx hb dX6_would_39 (by decide) ?_
          refine rTop (show tbs n (ex N xj yj) k F (odR F) (nI wj) = wouldQ n N k F (odR F) (nI xj) (nI yj) (nI wj) from wouldQ_ok2 hxj hyj (by omega) hwj (by assumption)) ?_
          exact rIret hx hb hr hlk hP hK hD hS dX6_would_44
    · refine lv_iconst (v := -1) hx hb dX6_would_16 (by decide +kernel) ?_
      refine rTop (show (-1) = wouldQ n N k F (odR F) (nI xj) y w from by first | exact wouldQ_f1 (by assumption) | exact wouldQ_f2 (by assumption)) ?_
      exact rIret hx hb hr hlk hP hK hD hS dX6_would_17

set_option maxHeartbeats 4000000 in
set_option maxRecDepth 100000 in
theorem mX6_best (l : Launch) (D : va_G) (G : Nat → ClassId) (mo sa be ke te kn ty : Nat) (ik : Bool) (n tn k : Nat) (N Z S P V : Nat → Int32) (F : Nat → Nat → Int32) (po rd al : Int32) (hk : k ≤ 10) (hn : n = 3 ∨ n = 4) (hSO : SOK n k F) (hN1 : NOK n N) (hSM : SMK k F) (hRF : RFD k F) (hZ0 : ZOK Z) : CT l yX6_best wsX6_best 6 141 D G [.ref mo] [(mo, .inr (6, [.ref sa, .ref be, .int (nI kn), .ref ke, .int (zB ik), .ref te, .int (nI ty)])), (sa, .inl (G 0, 117, .inl (enc n N Z tn po rd al k S P V F)))] [(mo, .inr (6, [.ref sa, .ref be, .int (nI kn), .ref ke, .int (zB ik), .ref te, .int (nI ty)])), (sa, .inl (G 0, 117, .inl (enc n N Z tn po rd al k S P V F)))] (some (.int ((bou n N Z (n * n)).1))) := by
  refine CT.of (cc := cX6_best) (maxL := 7) (ret := (some .int)) (by decide) rfl RX6 rfl (Nat.le_of_ble_eq_true rfl) (fun pp ee s mm bl me cc A ls hx hb hr hml hts hown hlk hnm hA hP hK hD hN hS hl => ?_)
  have hl : lv_has ls 7 [(0, .ref mo)] := hl
  have hP : va_P D vwCl [(mo, .inr (6, [.ref sa, .ref be, .int (nI kn), .ref ke, .int (zB ik), .ref te, .int (nI ty)])), (sa, .inl (G 0, 117, .inl (enc n N Z tn po rd al k S P V F)))] s.heap := hP
  have inX6 : ∀ w ∈ wsX60, w ∈ wsX6_best := fun w h => List.mem_cons_of_mem _ (List.mem_append_right _ h)
  have k7 := hts (.fieldLink RX6 7 "SquareStakesModel" "s" "[I") (List.mem_of_getElem? (i := 1) rfl)
  have hq9 : n * n < 17 ∧ 0 < n * n := by rcases hn with rfl | rfl <;> decide
  refine lv_bipush (v := -5) hx hb dX6_best_0 (by decide +kernel) ?_
  refine lv_istore_n (lv' := [(1, .int (-5)), (0, .ref mo)]) hx hb dX6_best_2 rfl hl (by decide) rfl (fun ls hl => ?_)
  refine lv_iconst (v := nI 0) hx hb dX6_best_3 (by decide +kernel) ?_
  refine lv_istore_n (lv' := [(2, .int (nI 0)), (1, .int (-5)), (0, .ref mo)]) hx hb dX6_best_4 rfl hl (by decide) rfl (fun ls hl => ?_)
  refine lv_iconst (v := nI 0) hx hb dX6_best_5 (by decide +kernel) ?_
  refine lv_istore_n (lv' := [(3, .int (nI 0)), (2, .int (nI 0)), (1, .int (-5)), (0, .ref mo)]) hx hb dX6_best_6 rfl hl (by decide) rfl (fun ls hl => ?_)
  have LP7 : ∀ (nn7 a : Nat), a ≤ (n * n) → (n * n) < a + nn7  → ∀ (H : Heap) (locs : List Loc), va_P D vwCl [(mo, .inr (6, [.ref sa, .ref be, .int (nI kn), .ref ke, .int (zB ik), .ref te, .int (nI ty)])), (sa, .inl (G 0, 117, .inl (enc n N Z tn po rd al k S P V F)))] H → va_D A [(mo, .inr (6, [.ref sa, .ref be, .int (nI kn), .ref ke, .int (zB ik), .ref te, .int (nI ty)])), (sa, .inl (G 0, 117, .inl (enc n N Z tn po rd al k S P V F)))] → va_S A s.heap H locs → ∀ ls : Array Slot, lv_has ls 7 [(1, .int ((bou n N Z a).1)), (2, .int ((bou n N Z a).2)), (3, .int (nI a)), (0, .ref mo)] → W pp l ee (rmA 6 141) s mm ([.ref mo] : List Value).toArray bl me cc H locs 0 0 (MQ bl (Qres (some (.int ((bou n N Z (n * n)).1))) D G [(mo, .inr (6, [.ref sa, .ref be, .int (nI kn), .ref ke, .int (zB ik), .ref te, .int (nI ty)])), (sa, .inl (G 0, 117, .inl (enc n N Z tn po rd al k S P V F)))] A) ([.ref mo] : List Value).toArray s 0 0 A) (F0 mm 7 ls []) := by
    intro nn7
    induction nn7 with
    | zero => intro a h1 h2; exact absurd h2 (by omega)
    | succ nn7 ih7 =>
      intro a hka hna  H locs hP hD hS ls hl
      refine lv_iload_n hx hb dX6_best_7 rfl (lv_at hl 2 rfl) ?_
      refine lv_aload_n hx hb dX6_best_8 rfl (lv_at hl 3 rfl) ?_
      refine cVr (As := []) (rest := [.int (nI a)]) ⟨hx, hb, hml, hown, hts⟩ hP hK hD hS hN hA (mX6_cells l D G mo sa be ke te kn ty ik n tn k N Z S P V F po rd al (by first | assumption | omega)) (cwV 0 hts gX6_best_X6_cells rfl rfl rfl (by decide +kernel) ⟨Nat.le_of_ble_eq_true rfl, Nat.le_of_ble_eq_true rfl⟩) [0, 1] rfl (by decide) 0 6 rfl rfl rfl hl.1 rfl (Nat.le_of_ble_eq_true rfl) dX6_best_9 ⟨Nat.zero_le _, Nat.zero_le _⟩ (fun H locs hP hS => ?_)
      refine bGe (tgt := 124) hx hb dX6_best_12 (by decide) (by omega) (by omega) (fun c1 => ?_) (fun c1 => ?_)
      · obtain rfl : n * n = a := by omega
        refine lv_iload_n hx hb dX6_best_124 rfl (lv_at hl 0 rfl) ?_
        exact rIret hx hb hr hlk hP hK hD hS dX6_best_125
      · refine lv_iload_n hx hb dX6_best_15 rfl (lv_at hl 2 rfl) ?_
        refine lv_iconst (v := nI 1) hx hb dX6_best_16 (by decide +kernel) ?_
        refine lv_iadd hx hb dX6_best_17 ?_
        refine rTop (show nI a + nI 1 = nI (a + 1) from nI_add a 1) ?_
        refine lv_istore (lv' := [(4, .int (nI (a + 1))), (1, .int ((bou n N Z a).1)), (2, .int ((bou n N Z a).2)), (3, .int (nI a)), (0, .ref mo)]) hx hb dX6_best_18 hl (by decide) rfl (fun ls hl => ?_)
        have LP20 : ∀ (nn20 d : Nat), d ≤ (n * n - (a + 1)) → (n * n - (a + 1)) < d + nn20  → ∀ (H : Heap) (locs : List Loc), va_P D vwCl [(mo, .inr (6, [.ref sa, .ref be, .int (nI kn), .ref ke, .int (zB ik), .ref te, .int (nI ty)])), (sa, .inl (G 0, 117, .inl (enc n N Z tn po rd al k S P V F)))] H → va_D A [(mo, .inr (6, [.ref sa, .ref be, .int (nI kn), .ref ke, .int (zB ik), .ref te, .int (nI ty)])), (sa, .inl (G 0, 117, .inl (enc n N Z tn po rd al k S P V F)))] → va_S A s.heap H locs → ∀ ls : Array Slot, lv_has ls 7 [(1, .int ((bin n N Z a (bou n N Z a) d).1)), (2, .int ((bin n N Z a (bou n N Z a) d).2)), (4, .int (nI (a + 1 + d))), (3, .int (nI a)), (0, .ref mo)] → W pp l ee (rmA 6 141) s mm ([.ref mo] : List Value).toArray bl me cc H locs 0 0 (MQ bl (Qres (some (.int ((bou n N Z (n * n)).1))) D G [(mo, .inr (6, [.ref sa, .ref be, .int (nI kn), .ref ke, .int (zB ik), .ref te, .int (nI ty)])), (sa, .inl (G 0, 117, .inl (enc n N Z tn po rd al k S P V F)))] A) ([.ref mo] : List Value).toArray s 0 0 A) (F0 mm 20 ls []) := by
          intro nn20
          induction nn20 with
          | zero => intro d h1 h2; exact absurd h2 (by omega)
          | succ nn20 ih20 =>
            intro d hkd hnd  H locs hP hD hS ls hl
            refine lv_iload hx hb dX6_best_20 (lv_at hl 2 rfl) ?_
            refine lv_aload_n hx hb dX6_best_22 rfl (lv_at hl 4 rfl) ?_
            refine cVr (As := []) (rest := [.int (nI (a + 1 + d))]) ⟨hx, hb, hml, hown, hts⟩ hP hK hD hS hN hA (mX6_cells l D G mo sa be ke te kn ty ik n tn k N Z S P V F po rd al (by first | assumption | omega)) (cwV 0 hts gX6_best_X6_cells rfl rfl rfl (by decide +kernel) ⟨Nat.le_of_ble_eq_true rfl, Nat.le_of_ble_eq_true rfl⟩) [0, 1] rfl (by decide) 0 6 rfl rfl rfl hl.1 rfl (Nat.le_of_ble_eq_true rfl) dX6_best_23 ⟨Nat.zero_le _, Nat.zero_le _⟩ (fun H locs hP hS => ?_)
            refine bGe (tgt := 118) hx hb dX6_best_26 (by decide) (by omega) (by omega) (fun c2 => ?_) (fun c2 => ?_)
            · obtain rfl : n * n - (a + 1) = d := by omega
              refine lv_iinc (v := nI (a + 1)) (lv' := [(3, .int (nI (a + 1))), (1, .int ((bin n N Z a (bou n N Z a) (n * n - (a + 1))).1)), (2, .int ((bin n N Z a (bou n N Z a) (n * n - (a + 1))).2)), (4, .int (nI (a + 1 + (n * n - (a + 1))))), (0, .ref mo)]) hx hb dX6_best_118 hl (k := 3) rfl (nI_inc a) (by decide) rfl (fun ls hl => ?_)
              refine lv_goto (tgt := 7) hx hb dX6_best_121 (by decide) ?_
              exact ih7 (a + 1) (by omega) (by omega)  _ _ hP hD hS _ (lv_sub hl [1, 2, 0, 4] rfl)
            · refine lv_aload_n hx hb dX6_best_29 rfl (lv_at hl 4 rfl) ?_
              refine va_get (D := D) (ci := 6) (v := .ref sa) (C := RX6) (T := TX6) (N := 7) hx hb hts inX6 hown hK hP 0 rfl rfl 0 (by decide) k7 (fun _ h9 => h9) rfl dX6_best_30 ?_
              refine lv_bipush (v := nI 31) hx hb dX6_best_33 (by decide +kernel) ?_
              refine lv_iload_n hx hb dX6_best_35 rfl (lv_at hl 3 rfl) ?_
              refine lv_iadd hx hb dX6_best_36 ?_
              refine rTop (show nI 31 + nI a = nI (31 + a) from nI_add 31 a) ?_
              refine rIald hx hb hK hP 1 rfl (31 + a) (by omega) (by decide) dX6_best_37 ?_
              refine rTop (enc_Z n N Z tn po rd al k S P V F a (by omega)) ?_
              refine lv_if_ne (tgt := 112) hx hb dX6_best_38 (by decide)  (fun c3 => ?_) (fun c3 => ?_)
              · have hbs : bin n N Z a (bou n N Z a) (d + 1) = bst n N Z a (a + 1 + d) (bin n N Z a (bou n N Z a) d) := rfl
                rw [show (bin n N Z a (bou n N Z a) d).1 = (bin n N Z a (bou n N Z a) (d + 1)).1 from by rw [hbs]; first | rw [@bst_z1 n N Z a (a + 1 + d) (bin n N Z a (bou n N Z a) d) (ZOK_p hZ0 (by assumption))] | rw [@bst_z2 n N Z a (a + 1 + d) (bin n N Z a (bou n N Z a) d) (ZOK_p hZ0 (by assumption))] | rw [@bst_no n N Z a (a + 1 + d) (bin n N Z a (bou n N Z a) d) (by assumption) (Int32.not_lt.mpr (by assumption))] | rw [@bst_y1 n N Z a (a + 1 + d) (bin n N Z a (bou n N Z a) d) (ZOK_z hZ0 (by assumption)) (ZOK_z hZ0 (by assumption)) (by assumption)] | rw [@bst_y2 n N Z a (a + 1 + d) (bin n N Z a (bou n N Z a) d) (ZOK_z hZ0 (by assumption)) (ZOK_z hZ0 (by assumption)) (Int32.not_le.mp (by assumption))]] at hl
                rw [show (bin n N Z a (bou n N Z a) d).2 = (bin n N Z a (bou n N Z a) (d + 1)).2 from by rw [hbs]; first | rw [@bst_z1 n N Z a (a + 1 + d) (bin n N Z a (bou n N Z a) d) (ZOK_p hZ0 (by assumption))] | rw [@bst_z2 n N Z a (a + 1 + d) (bin n N Z a (bou n N Z a) d) (ZOK_p hZ0 (by assumption))] | rw [@bst_no n N Z a (a + 1 + d) (bin n N Z a (bou n N Z a) d) (by assumption) (Int32.not_lt.mpr (by assumption))] | rw [@bst_y1 n N Z a (a + 1 + d) (bin n N Z a (bou n N Z a) d) (ZOK_z hZ0 (by assumption)) (ZOK_z hZ0 (by assumption)) (by assumption)] | rw [@bst_y2 n N Z a (a + 1 + d) (bin n N Z a (bou n N Z a) d) (ZOK_z hZ0 (by assumption)) (ZOK_z hZ0 (by assumption)) (Int32.not_le.mp (by assumption))]] at hl
                refine lv_iinc (v := nI (a + 1 + d + 1)) (lv' := [(4, .int (nI (a + 1 + d + 1))), (1, .int ((bin n N Z a (bou n N Z a) (d + 1)).1)), (2, .int ((bin n N Z a (bou n N Z a) (d + 1)).2)), (3, .int (nI a)), (0, .ref mo)]) hx hb dX6_best_112 hl (k := 2) rfl (nI_inc (a + 1 + d)) (by decide) rfl (fun ls hl => ?_)
                refine lv_goto (tgt := 20) hx hb dX6_best_115 (by decide) ?_
                exact ih20 (d + 1) (by omega) (by omega)  _ _ hP hD hS _ (lv_sub hl [1, 2, 0, 3, 4] rfl)
              · refine lv_aload_n hx hb dX6_best_41 rfl (lv_at hl 4 rfl) ?_
                refine va_get (D := D) (ci := 6) (v := .ref sa) (C := RX6) (T := TX6) (N := 7) hx hb hts inX6 hown hK hP 0 rfl rfl 0 (by decide) k7 (fun _ h9 => h9) rfl dX6_best_42 ?_
                refine lv_bipush (v := nI 31) hx hb dX6_best_45 (by decide +kernel) ?_
                refine lv_iload hx hb dX6_best_47 (lv_at hl 2 rfl) ?_
                refine lv_iadd hx hb dX6_best_49 ?_
                refine rTop (show nI 31 + nI (a + 1 + d) = nI (31 + (a + 1 + d)) from nI_add 31 (a + 1 + d)) ?_
                refine rIald hx hb hK hP 1 rfl (31 + (a + 1 + d)) (by omega) (by decide) dX6_best_50 ?_
                refine rTop (enc_Z n N Z tn po rd al k S P V F (a + 1 + d) (by omega)) ?_
                refine lv_if_ne (tgt := 112) hx hb dX6_best_51 (by decide)  (fun c4 => ?_) (fun c4 => ?_)
                · have hbs : bin n N Z a (bou n N Z a) (d + 1) = bst n N Z a (a + 1 + d) (bin n N Z a (bou n N Z a) d) := rfl
                  rw [show (bin n N Z a (bou n N Z a) d).1 = (bin n N Z a (bou n N Z a) (d + 1)).1 from by rw [hbs]; first | rw [@bst_z1 n N Z a (a + 1 + d) (bin n N Z a (bou n N Z a) d) (ZOK_p hZ0 (by assumption))] | rw [@bst_z2 n N Z a (a + 1 + d) (bin n N Z a (bou n N Z a) d) (ZOK_p hZ0 (by assumption))] | rw [@bst_no n N Z a (a + 1 + d) (bin n N Z a (bou n N Z a) d) (by assumption) (Int32.not_lt.mpr (by assumption))] | rw [@bst_y1 n N Z a (a + 1 + d) (bin n N Z a (bou n N Z a) d) (ZOK_z hZ0 (by assumption)) (ZOK_z hZ0 (by assumption)) (by assumption)] | rw [@bst_y2 n N Z a (a + 1 + d) (bin n N Z a (bou n N Z a) d) (ZOK_z hZ0 (by assumption)) (ZOK_z hZ0 (by assumption)) (Int32.not_le.mp (by assumption))]] at hl
                  rw [show (bin n N Z a (bou n N Z a) d).2 = (bin n N Z a (bou n N Z a) (d + 1)).2 from by rw [hbs]; first | rw [@bst_z1 n N Z a (a + 1 + d) (bin n N Z a (bou n N Z a) d) (ZOK_p hZ0 (by assumption))] | rw [@bst_z2 n N Z a (a + 1 + d) (bin n N Z a (bou n N Z a) d) (ZOK_p hZ0 (by assumption))] | rw [@bst_no n N Z a (a + 1 + d) (bin n N Z a (bou n N Z a) d) (by assumption) (Int32.not_lt.mpr (by assumption))] | rw [@bst_y1 n N Z a (a + 1 + d) (bin n N Z a (bou n N Z a) d) (ZOK_z hZ0 (by assumption)) (ZOK_z hZ0 (by assumption)) (by assumption)] | rw [@bst_y2 n N Z a (a + 1 + d) (bin n N Z a (bou n N Z a) d) (ZOK_z hZ0 (by assumption)) (ZOK_z hZ0 (by assumption)) (Int32.not_le.mp (by assumption))]] at hl
                  refine lv_iinc (v := nI (a + 1 + d + 1)) (lv' := [(4, .int (nI (a + 1 + d + 1))), (1, .int ((bin n N Z a (bou n N Z a) (d + 1)).1)), (2, .int ((bin n N Z a (bou n N Z a) (d + 1)).2)), (3, .int (nI a)), (0, .ref mo)]) hx hb dX6_best_112 hl (k := 2) rfl (nI_inc (a + 1 + d)) (by decide) rfl (fun ls hl => ?_)
                  refine lv_goto (tgt := 20) hx hb dX6_best_115 (by decide) ?_
                  exact ih20 (d + 1) (by omega) (by omega)  _ _ hP hD hS _ (lv_sub hl [1, 2, 0, 3, 4] rfl)
                · refine lv_aload_n hx hb dX6_best_54 rfl (lv_at hl 4 rfl) ?_
                  refine lv_iload_n hx hb dX6_best_55 rfl (lv_at hl 3 rfl) ?_
                  refine lv_iload hx hb dX6_best_56 (lv_at hl 2 rfl) ?_
                  refine lv_iconst (v := nI 0) hx hb dX6_best_58 (by decide +kernel) ?_
                  refine cVr (As := [.int (nI a), .int (nI (a + 1 + d)), .int (nI 0)]) (rest := []) ⟨hx, hb, hml, hown, hts⟩ hP hK hD hS hN hA (mX6_tried l D G mo sa be ke te kn ty ik n tn k N Z S P V F po rd al a (a + 1 + d) 0 (by first | assumption | omega) (by first | assumption | omega) (by first | assumption | omega) (by first | assumption | omega) (by first | assumption | omega) (by first | assumption | omega) (by first | assumption | omega) (by first | assumption | omega) (by first | assumption | omega)) (cwV 3 hts gX6_best_X6_tried rfl rfl rfl (by decide +kernel) ⟨Nat.le_of_ble_eq_true rfl, Nat.le_of_ble_eq_true rfl⟩) [0, 1] rfl (by decide) 0 6 rfl rfl rfl hl.1 rfl (Nat.le_of_ble_eq_true rfl) dX6_best_59 ⟨Nat.zero_le _, Nat.zero_le _⟩ (fun H locs hP hS => ?_)
                  refine rTop (show tbs n (ex N a (a + 1 + d)) k F (odR F) (nI 0) = wof n (ex N a (a + 1 + d)) from (tbs_0 rfl).symm) ?_
                  refine lv_istore (lv' := [(5, .int (wof n (ex N a (a + 1 + d)))), (1, .int ((bin n N Z a (bou n N Z a) d).1)), (2, .int ((bin n N Z a (bou n N Z a) d).2)), (4, .int (nI (a + 1 + d))), (3, .int (nI a)), (0, .ref mo)]) hx hb dX6_best_62 hl (by decide) rfl (fun ls hl => ?_)
                  refine lv_iload_n hx hb dX6_best_64 rfl (lv_at hl 1 rfl) ?_
                  refine lv_bipush (v := -5) hx hb dX6_best_65 (by decide +kernel) ?_
                  refine lv_icmp_eq (tgt := 76) hx hb dX6_best_67 (by decide)  (fun c5 => ?_) (fun c5 => ?_)
                  · refine lv_iconst (v := nI 1) hx hb dX6_best_76 (by decide +kernel) ?_
                    refine lv_goto (tgt := 81) hx hb dX6_best_77 (by decide) ?_
                    refine lv_istore (lv' := [(6, .int (nI 1)), (5, .int (wof n (ex N a (a + 1 + d)))), (1, .int ((bin n N Z a (bou n N Z a) d).1)), (2, .int ((bin n N Z a (bou n N Z a) d).2)), (4, .int (nI (a + 1 + d))), (3, .int (nI a)), (0, .ref mo)]) hx hb dX6_best_81 hl (by decide) rfl (fun ls hl => ?_)
                    refine lv_iload hx hb dX6_best_83 (lv_at hl 0 rfl) ?_
                    refine iEq (tgt := 98) hx hb dX6_best_85 (by decide) (by omega) (fun c6 => by exfalso; omega) (fun c6 => ?_)
                    refine lv_bipush (v := nI 100) hx hb dX6_best_88 (by decide +kernel) ?_
                    refine lv_iload_n hx hb dX6_best_90 rfl (lv_at hl 5 rfl) ?_
                    refine lv_imul hx hb dX6_best_91 ?_
                    refine rTop (show nI 100 * nI a = nI (100 * a) from pk_mul 100 a) ?_
                    refine lv_iload hx hb dX6_best_92 (lv_at hl 4 rfl) ?_
                    refine lv_iadd hx hb dX6_best_94 ?_
                    refine rTop (show nI (100 * a) + nI (a + 1 + d) = nI (100 * a + (a + 1 + d)) from nI_add (100 * a) (a + 1 + d)) ?_
                    refine lv_goto (tgt := 99) hx hb dX6_best_95 (by decide) ?_
                    refine lv_istore_n (lv' := [(1, .int (nI (100 * a + (a + 1 + d)))), (6, .int (nI 1)), (5, .int (wof n (ex N a (a + 1 + d)))), (2, .int ((bin n N Z a (bou n N Z a) d).2)), (4, .int (nI (a + 1 + d))), (3, .int (nI a)), (0, .ref mo)]) hx hb dX6_best_99 rfl hl (by decide) rfl (fun ls hl => ?_)
                    refine lv_iload hx hb dX6_best_100 (lv_at hl 1 rfl) ?_
                    refine iEq (tgt := 110) hx hb dX6_best_102 (by decide) (by omega) (fun c7 => by exfalso; omega) (fun c7 => ?_)
                    refine lv_iload hx hb dX6_best_105 (lv_at hl 2 rfl) ?_
                    refine lv_goto (tgt := 111) hx hb dX6_best_107 (by decide) ?_
                    refine lv_istore_n (lv' := [(2, .int (wof n (ex N a (a + 1 + d)))), (1, .int (nI (100 * a + (a + 1 + d)))), (6, .int (nI 1)), (5, .int (wof n (ex N a (a + 1 + d)))), (4, .int (nI (a + 1 + d))), (3, .int (nI a)), (0, .ref mo)]) hx hb dX6_best_111 rfl hl (by decide) rfl (fun ls hl => ?_)
                    replace hl : lv_has ls 7 [(2, .int (wof n (ex N a (a + 1 + d)))), (1, .int (nI (100 * a + (a + 1 + d)))), (6, .int (nI 1)), (4, .int (nI (a + 1 + d))), (3, .int (nI a)), (0, .ref mo)] := lv_sub hl [0, 1, 2, 4, 5, 6] rfl
                    replace hl : lv_has ls 7 [(2, .int (wof n (ex N a (a + 1 + d)))), (1, .int (nI (100 * a + (a + 1 + d)))), (4, .int (nI (a + 1 + d))), (3, .int (nI a)), (0, .ref mo)] := lv_sub hl [0, 1, 3, 4, 5] rfl
                    have hbs : bin n N Z a (bou n N Z a) (d + 1) = bst n N Z a (a + 1 + d) (bin n N Z a (bou n N Z a) d) := rfl
                    rw [show nI (100 * a + (a + 1 + d)) = (bin n N Z a (bou n N Z a) (d + 1)).1 from by rw [hbs]; first | rw [@bst_z1 n N Z a (a + 1 + d) (bin n N Z a (bou n N Z a) d) (ZOK_p hZ0 (by assumption))] | rw [@bst_z2 n N Z a (a + 1 + d) (bin n N Z a (bou n N Z a) d) (ZOK_p hZ0 (by assumption))] | rw [@bst_no n N Z a (a + 1 + d) (bin n N Z a (bou n N Z a) d) (by assumption) (Int32.not_lt.mpr (by assumption))] | rw [@bst_y1 n N Z a (a + 1 + d) (bin n N Z a (bou n N Z a) d) (ZOK_z hZ0 (by assumption)) (ZOK_z hZ0 (by assumption)) (by assumption)] | rw [@bst_y2 n N Z a (a + 1 + d) (bin n N Z a (bou n N Z a) d) (ZOK_z hZ0 (by assumption)) (ZOK_z hZ0 (by assumption)) (Int32.not_le.mp (by assumption))]] at hl
                    rw [show wof n (ex N a (a + 1 + d)) = (bin n N Z a (bou n N Z a) (d + 1)).2 from by rw [hbs]; first | rw [@bst_z1 n N Z a (a + 1 + d) (bin n N Z a (bou n N Z a) d) (ZOK_p hZ0 (by assumption))] | rw [@bst_z2 n N Z a (a + 1 + d) (bin n N Z a (bou n N Z a) d) (ZOK_p hZ0 (by assumption))] | rw [@bst_no n N Z a (a + 1 + d) (bin n N Z a (bou n N Z a) d) (by assumption) (Int32.not_lt.mpr (by assumption))] | rw [@bst_y1 n N Z a (a + 1 + d) (bin n N Z a (bou n N Z a) d) (ZOK_z hZ0 (by assumption)) (ZOK_z hZ0 (by assumption)) (by assumption)] | rw [@bst_y2 n N Z a (a + 1 + d) (bin n N Z a (bou n N Z a) d) (ZOK_z hZ0 (by assumption)) (ZOK_z hZ0 (by assumption)) (Int32.not_le.mp (by assumption))]] at hl
                    refine lv_iinc (v := nI (a + 1 + d + 1)) (lv' := [(4, .int (nI (a + 1 + d + 1))), (2, .int ((bin n N Z a (bou n N Z a) (d + 1)).2)), (1, .int ((bin n N Z a (bou n N Z a) (d + 1)).1)), (3, .int (nI a)), (0, .ref mo)]) hx hb dX6_best_112 hl (k := 2) rfl (nI_inc (a + 1 + d)) (by decide) rfl (fun ls hl => ?_)
                    refine lv_goto (tgt := 20) hx hb dX6_best_115 (by decide) ?_
                    exact ih20 (d + 1) (by omega) (by omega)  _ _ hP hD hS _ (lv_sub hl [2, 1, 0, 3, 4] rfl)
                  · refine lv_iload hx hb dX6_best_70 (lv_at hl 0 rfl) ?_
                    refine lv_iload_n hx hb dX6_best_72 rfl (lv_at hl 2 rfl) ?_
                    refine lv_icmp_ge (tgt := 80) hx hb dX6_best_73 (by decide)  (fun c8 => ?_) (fun c8 => ?_)
                    · refine lv_iconst (v := nI 0) hx hb dX6_best_80 (by decide +kernel) ?_
                      refine lv_istore (lv' := [(6, .int (nI 0)), (5, .int (wof n (ex N a (a + 1 + d)))), (1, .int ((bin n N Z a (bou n N Z a) d).1)), (2, .int ((bin n N Z a (bou n N Z a) d).2)), (4, .int (nI (a + 1 + d))), (3, .int (nI a)), (0, .ref mo)]) hx hb dX6_best_81 hl (by decide) rfl (fun ls hl => ?_)
                      refine lv_iload hx hb dX6_best_83 (lv_at hl 0 rfl) ?_
                      refine iEq (tgt := 98) hx hb dX6_best_85 (by decide) (by omega) (fun c9 => ?_) (fun c9 => by exfalso; omega)
                      refine lv_iload_n hx hb dX6_best_98 rfl (lv_at hl 2 rfl) ?_
                      refine lv_istore_n (lv' := [(1, .int ((bin n N Z a (bou n N Z a) d).1)), (6, .int (nI 0)), (5, .int (wof n (ex N a (a + 1 + d)))), (2, .int ((bin n N Z a (bou n N Z a) d).2)), (4, .int (nI (a + 1 + d))), (3, .int (nI a)), (0, .ref mo)]) hx hb dX6_best_99 rfl hl (by decide) rfl (fun ls hl => ?_)
                      refine lv_iload hx hb dX6_best_100 (lv_at hl 1 rfl) ?_
                      refine iEq (tgt := 110) hx hb dX6_best_102 (by decide) (by omega) (fun c10 => ?_) (fun c10 => by exfalso; omega)
                      refine lv_iload_n hx hb dX6_best_110 rfl (lv_at hl 3 rfl) ?_
                      refine lv_istore_n (lv' := [(2, .int ((bin n N Z a (bou n N Z a) d).2)), (1, .int ((bin n N Z a (bou n N Z a) d).1)), (6, .int (nI 0)), (5, .int (wof n (ex N a (a + 1 + d)))), (4, .int (nI (a + 1 + d))), (3, .int (nI a)), (0, .ref mo)]) hx hb dX6_best_111 rfl hl (by decide) rfl (fun ls hl => ?_)
                      replace hl : lv_has ls 7 [(2, .int ((bin n N Z a (bou n N Z a) d).2)), (1, .int ((bin n N Z a (bou n N Z a) d).1)), (6, .int (nI 0)), (4, .int (nI (a + 1 + d))), (3, .int (nI a)), (0, .ref mo)] := lv_sub hl [0, 1, 2, 4, 5, 6] rfl
                      replace hl : lv_has ls 7 [(2, .int ((bin n N Z a (bou n N Z a) d).2)), (1, .int ((bin n N Z a (bou n N Z a) d).1)), (4, .int (nI (a + 1 + d))), (3, .int (nI a)), (0, .ref mo)] := lv_sub hl [0, 1, 3, 4, 5] rfl
                      have hbs : bin n N Z a (bou n N Z a) (d + 1) = bst n N Z a (a + 1 + d) (bin n N Z a (bou n N Z a) d) := rfl
                      rw [show (bin n N Z a (bou n N Z a) d).1 = (bin n N Z a (bou n N Z a) (d + 1)).1 from by rw [hbs]; first | rw [@bst_z1 n N Z a (a + 1 + d) (bin n N Z a (bou n N Z a) d) (ZOK_p hZ0 (by assumption))] | rw [@bst_z2 n N Z a (a + 1 + d) (bin n N Z a (bou n N Z a) d) (ZOK_p hZ0 (by assumption))] | rw [@bst_no n N Z a (a + 1 + d) (bin n N Z a (bou n N Z a) d) (by assumption) (Int32.not_lt.mpr (by assumption))] | rw [@bst_y1 n N Z a (a + 1 + d) (bin n N Z a (bou n N Z a) d) (ZOK_z hZ0 (by assumption)) (ZOK_z hZ0 (by assumption)) (by assumption)] | rw [@bst_y2 n N Z a (a + 1 + d) (bin n N Z a (bou n N Z a) d) (ZOK_z hZ0 (by assumption)) (ZOK_z hZ0 (by assumption)) (Int32.not_le.mp (by assumption))]] at hl
                      rw [show (bin n N Z a (bou n N Z a) d).2 = (bin n N Z a (bou n N Z a) (d + 1)).2 from by rw [hbs]; first | rw [@bst_z1 n N Z a (a + 1 + d) (bin n N Z a (bou n N Z a) d) (ZOK_p hZ0 (by assumption))] | rw [@bst_z2 n N Z a (a + 1 + d) (bin n N Z a (bou n N Z a) d) (ZOK_p hZ0 (by assumption))] | rw [@bst_no n N Z a (a + 1 + d) (bin n N Z a (bou n N Z a) d) (by assumption) (Int32.not_lt.mpr (by assumption))] | rw [@bst_y1 n N Z a (a + 1 + d) (bin n N Z a (bou n N Z a) d) (ZOK_z hZ0 (by assumption)) (ZOK_z hZ0 (by assumption)) (by assumption)] | rw [@bst_y2 n N Z a (a + 1 + d) (bin n N Z a (bou n N Z a) d) (ZOK_z hZ0 (by assumption)) (ZOK_z hZ0 (by assumption)) (Int32.not_le.mp (by assumption))]] at hl
                      refine lv_iinc (v := nI (a + 1 + d + 1)) (lv' := [(4, .int (nI (a + 1 + d + 1))), (2, .int ((bin n N Z a (bou n N Z a) (d + 1)).2)), (1, .int ((bin n N Z a (bou n N Z a) (d + 1)).1)), (3, .int (nI a)), (0, .ref mo)]) hx hb dX6_best_112 hl (k := 2) rfl (nI_inc (a + 1 + d)) (by decide) rfl (fun ls hl => ?_)
                      refine lv_goto (tgt := 20) hx hb dX6_best_115 (by decide) ?_
                      exact ih20 (d + 1) (by omega) (by omega)  _ _ hP hD hS _ (lv_sub hl [2, 1, 0, 3, 4] rfl)
                    · refine lv_iconst (v := nI 1) hx hb dX6_best_76 (by decide +kernel) ?_
                      refine lv_goto (tgt := 81) hx hb dX6_best_77 (by decide) ?_
                      refine lv_istore (lv' := [(6, .int (nI 1)), (5, .int (wof n (ex N a (a + 1 + d)))), (1, .int ((bin n N Z a (bou n N Z a) d).1)), (2, .int ((bin n N Z a (bou n N Z a) d).2)), (4, .int (nI (a + 1 + d))), (3, .int (nI a)), (0, .ref mo)]) hx hb dX6_best_81 hl (by decide) rfl (fun ls hl => ?_)
                      refine lv_iload hx hb dX6_best_83 (lv_at hl 0 rfl) ?_
                      refine iEq (tgt := 98) hx hb dX6_best_85 (by decide) (by omega) (fun c11 => by exfalso; omega) (fun c11 => ?_)
                      refine lv_bipush (v := nI 100) hx hb dX6_best_88 (by decide +kernel) ?_
                      refine lv_iload_n hx hb dX6_best_90 rfl (lv_at hl 5 rfl) ?_
                      refine lv_imul hx hb dX6_best_91 ?_
                      refine rTop (show nI 100 * nI a = nI (100 * a) from pk_mul 100 a) ?_
                      refine lv_iload hx hb dX6_best_92 (lv_at hl 4 rfl) ?_
                      refine lv_iadd hx hb dX6_best_94 ?_
                      refine rTop (show nI (100 * a) + nI (a + 1 + d) = nI (100 * a + (a + 1 + d)) from nI_add (100 * a) (a + 1 + d)) ?_
                      refine lv_goto (tgt := 99) hx hb dX6_best_95 (by decide) ?_
                      refine lv_istore_n (lv' := [(1, .int (nI (100 * a + (a + 1 + d)))), (6, .int (nI 1)), (5, .int (wof n (ex N a (a + 1 + d)))), (2, .int ((bin n N Z a (bou n N Z a) d).2)), (4, .int (nI (a + 1 + d))), (3, .int (nI a)), (0, .ref mo)]) hx hb dX6_best_99 rfl hl (by decide) rfl (fun ls hl => ?_)
                      refine lv_iload hx hb dX6_best_100 (lv_at hl 1 rfl) ?_
                      refine iEq (tgt := 110) hx hb dX6_best_102 (by decide) (by omega) (fun c12 => by exfalso; omega) (fun c12 => ?_)
                      refine lv_iload hx hb dX6_best_105 (lv_at hl 2 rfl) ?_
                      refine lv_goto (tgt := 111) hx hb dX6_best_107 (by decide) ?_
                      refine lv_istore_n (lv' := [(2, .int (wof n (ex N a (a + 1 + d)))), (1, .int (nI (100 * a + (a + 1 + d)))), (6, .int (nI 1)), (5, .int (wof n (ex N a (a + 1 + d)))), (4, .int (nI (a + 1 + d))), (3, .int (nI a)), (0, .ref mo)]) hx hb dX6_best_111 rfl hl (by decide) rfl (fun ls hl => ?_)
                      replace hl : lv_has ls 7 [(2, .int (wof n (ex N a (a + 1 + d)))), (1, .int (nI (100 * a + (a + 1 + d)))), (6, .int (nI 1)), (4, .int (nI (a + 1 + d))), (3, .int (nI a)), (0, .ref mo)] := lv_sub hl [0, 1, 2, 4, 5, 6] rfl
                      replace hl : lv_has ls 7 [(2, .int (wof n (ex N a (a + 1 + d)))), (1, .int (nI (100 * a + (a + 1 + d)))), (4, .int (nI (a + 1 + d))), (3, .int (nI a)), (0, .ref mo)] := lv_sub hl [0, 1, 3, 4, 5] rfl
                      have hbs : bin n N Z a (bou n N Z a) (d + 1) = bst n N Z a (a + 1 + d) (bin n N Z a (bou n N Z a) d) := rfl
                      rw [show nI (100 * a + (a + 1 + d)) = (bin n N Z a (bou n N Z a) (d + 1)).1 from by rw [hbs]; first | rw [@bst_z1 n N Z a (a + 1 + d) (bin n N Z a (bou n N Z a) d) (ZOK_p hZ0 (by assumption))] | rw [@bst_z2 n N Z a (a + 1 + d) (bin n N Z a (bou n N Z a) d) (ZOK_p hZ0 (by assumption))] | rw [@bst_no n N Z a (a + 1 + d) (bin n N Z a (bou n N Z a) d) (by assumption) (Int32.not_lt.mpr (by assumption))] | rw [@bst_y1 n N Z a (a + 1 + d) (bin n N Z a (bou n N Z a) d) (ZOK_z hZ0 (by assumption)) (ZOK_z hZ0 (by assumption)) (by assumption)] | rw [@bst_y2 n N Z a (a + 1 + d) (bin n N Z a (bou n N Z a) d) (ZOK_z hZ0 (by assumption)) (ZOK_z hZ0 (by assumption)) (Int32.not_le.mp (by assumption))]] at hl
                      rw [show wof n (ex N a (a + 1 + d)) = (bin n N Z a (bou n N Z a) (d + 1)).2 from by rw [hbs]; first | rw [@bst_z1 n N Z a (a + 1 + d) (bin n N Z a (bou n N Z a) d) (ZOK_p hZ0 (by assumption))] | rw [@bst_z2 n N Z a (a + 1 + d) (bin n N Z a (bou n N Z a) d) (ZOK_p hZ0 (by assumption))] | rw [@bst_no n N Z a (a + 1 + d) (bin n N Z a (bou n N Z a) d) (by assumption) (Int32.not_lt.mpr (by assumption))] | rw [@bst_y1 n N Z a (a + 1 + d) (bin n N Z a (bou n N Z a) d) (ZOK_z hZ0 (by assumption)) (ZOK_z hZ0 (by assumption)) (by assumption)] | rw [@bst_y2 n N Z a (a + 1 + d) (bin n N Z a (bou n N Z a) d) (ZOK_z hZ0 (by assumption)) (ZOK_z hZ0 (by assumption)) (Int32.not_le.mp (by assumption))]] at hl
                      refine lv_iinc (v := nI (a + 1 + d + 1)) (lv' := [(4, .int (nI (a + 1 + d + 1))), (2, .int ((bin n N Z a (bou n N Z a) (d + 1)).2)), (1, .int ((bin n N Z a (bou n N Z a) (d + 1)).1)), (3, .int (nI a)), (0, .ref mo)]) hx hb dX6_best_112 hl (k := 2) rfl (nI_inc (a + 1 + d)) (by decide) rfl (fun ls hl => ?_)
                      refine lv_goto (tgt := 20) hx hb dX6_best_115 (by decide) ?_
                      exact ih20 (d + 1) (by omega) (by omega)  _ _ hP hD hS _ (lv_sub hl [2, 1, 0, 3, 4] rfl)
        exact LP20 (n * n - (a + 1) + 1 - 0) 0 (by omega) (by omega)  _ _ hP hD hS _ (lv_sub hl [1, 2, 0, 3, 4] rfl)
  exact LP7 (n * n + 1 - 0) 0 (by omega) (by omega)  _ _ hP hD hS _ (lv_sub hl [2, 1, 0, 3] rfl)

set_option maxHeartbeats 4000000 in
set_option maxRecDepth 100000 in
theorem mX6_count (l : Launch) (D : va_G) (G : Nat → ClassId) (mo sa be ke te kn ty : Nat) (ik : Bool) (n tn k : Nat) (N Z S P V : Nat → Int32) (F : Nat → Nat → Int32) (po rd al : Int32) (x : Int32) (hk : k ≤ 10) (hn : n = 3 ∨ n = 4) (ht : tn < 3) (hZ : ∀ c, n * n ≤ c → Z c = nI 0) (hkn : kn ≤ 4) (hty : ty ≤ 60) : CT l yX6_count wsX6_count 4 92 D G [.ref mo, .int x] [(mo, .inr (6, [.ref sa, .ref be, .int (nI kn), .ref ke, .int (zB ik), .ref te, .int (nI ty)])), (sa, .inl (G 0, 117, .inl (enc n N Z tn po rd al k S P V F)))] [(mo, .inr (6, [.ref sa, .ref be, .int (nI kn), .ref ke, .int (zB ik), .ref te, .int (nI ty)])), (sa, .inl (G 0, 117, .inl (enc n N Z tn po rd al k S P V F)))] (some (.int (cntQ n N Z k F tn po rd al S kn ty x))) := by
  refine CT.of (cc := cX6_count) (maxL := 2) (ret := (some .int)) (by decide) rfl RX6 rfl (Nat.le_of_ble_eq_true rfl) (fun pp ee s mm bl me cc A ls hx hb hr hml hts hown hlk hnm hA hP hK hD hN hS hl => ?_)
  have hl : lv_has ls 2 [(0, .ref mo), (1, .int x)] := hl
  have hP : va_P D vwCl [(mo, .inr (6, [.ref sa, .ref be, .int (nI kn), .ref ke, .int (zB ik), .ref te, .int (nI ty)])), (sa, .inl (G 0, 117, .inl (enc n N Z tn po rd al k S P V F)))] s.heap := hP
  have inX6 : ∀ w ∈ wsX60, w ∈ wsX6_count := fun w h => List.mem_cons_of_mem _ (List.mem_append_right _ h)
  have k7 := hts (.fieldLink RX6 7 "SquareStakesModel" "s" "[I") (List.mem_of_getElem? (i := 1) rfl)
  have k37 := hts (.fieldLink RX6 37 "SquareStakesModel" "known" "I") (List.mem_of_getElem? (i := 2) rfl)
  have k90 := hts (.fieldLink RX6 90 "SquareStakesModel" "typed" "I") (List.mem_of_getElem? (i := 3) rfl)
  refine lv_iload_n hx hb dX6_count_0 rfl (lv_at hl 1 rfl) ?_
  by_cases sw1_0 : x = nI 0
  · subst sw1_0
    refine lv_tableIn (off := 79) (tgt := 80) hx hb dX6_count_1 (by decide +kernel) (by decide +kernel) (by decide +kernel) (by decide) ?_
    refine lv_aload_n hx hb dX6_count_80 rfl (lv_at hl 0 rfl) ?_
    refine va_get (D := D) (ci := 6) (v := .ref sa) (C := RX6) (T := TX6) (N := 7) hx hb hts inX6 hown hK hP 0 rfl rfl 0 (by decide) k7 (fun _ h9 => h9) rfl dX6_count_81 ?_
    refine lv_iconst (v := nI 0) hx hb dX6_count_84 (by decide +kernel) ?_
    refine rIald hx hb hK hP 1 rfl 0 (by omega) (by decide) dX6_count_85 ?_
    refine rTop (show enc n N Z tn po rd al k S P V F 0 = nI n from rfl) ?_
    refine rTop (show nI n = cntQ n N Z k F tn po rd al S kn ty (nI 0) from by rw [cntQ, if_pos rfl]) ?_
    exact rIret hx hb hr hlk hP hK hD hS dX6_count_86
  · by_cases sw1_1 : x = nI 1
    · subst sw1_1
      refine lv_tableIn (off := 86) (tgt := 87) hx hb dX6_count_1 (by decide +kernel) (by decide +kernel) (by decide +kernel) (by decide) ?_
      refine lv_aload_n hx hb dX6_count_87 rfl (lv_at hl 0 rfl) ?_
      refine cVr (As := []) (rest := []) ⟨hx, hb, hml, hown, hts⟩ hP hK hD hS hN hA (mX6_magic l D G mo sa be ke te kn ty ik n tn k N Z S P V F po rd al (by first | assumption | omega)) (cwV 0 hts gX6_count_X6_magic rfl rfl rfl (by decide +kernel) ⟨Nat.le_of_ble_eq_true rfl, Nat.le_of_ble_eq_true rfl⟩) [0, 1] rfl (by decide) 0 6 rfl rfl rfl hl.1 rfl (Nat.le_of_ble_eq_true rfl) dX6_count_88 ⟨Nat.zero_le _, Nat.zero_le _⟩ (fun H locs hP hS => ?_)
      refine rTop (show nI (mgN n) = cntQ n N Z k F tn po rd al S kn ty (nI 1) from by rw [cntQ, if_neg (by decide +kernel), if_pos rfl]) ?_
      exact rIret hx hb hr hlk hP hK hD hS dX6_count_91
    · by_cases sw1_2 : x = nI 2
      · subst sw1_2
        refine lv_tableIn (off := 91) (tgt := 92) hx hb dX6_count_1 (by decide +kernel) (by decide +kernel) (by decide +kernel) (by decide) ?_
        refine lv_aload_n hx hb dX6_count_92 rfl (lv_at hl 0 rfl) ?_
        refine cVr (As := []) (rest := []) ⟨hx, hb, hml, hown, hts⟩ hP hK hD hS hN hA (mX6_wayOff l D G mo sa be ke te kn ty ik n tn k N Z S P V F po rd al (by first | assumption | omega)) (cwV 0 hts gX6_count_X6_wayOff rfl rfl rfl (by decide +kernel) ⟨Nat.le_of_ble_eq_true rfl, Nat.le_of_ble_eq_true rfl⟩) [0, 1] rfl (by decide) 0 6 rfl rfl rfl hl.1 rfl (Nat.le_of_ble_eq_true rfl) dX6_count_93 ⟨Nat.zero_le _, Nat.zero_le _⟩ (fun H locs hP hS => ?_)
        refine rTop (show wof n N = cntQ n N Z k F tn po rd al S kn ty (nI 2) from by rw [cntQ, if_neg (by decide +kernel), if_neg (by decide +kernel), if_pos rfl]) ?_
        exact rIret hx hb hr hlk hP hK hD hS dX6_count_96
      · by_cases sw1_3 : x = nI 3
        · subst sw1_3
          refine lv_tableIn (off := 96) (tgt := 97) hx hb dX6_count_1 (by decide +kernel) (by decide +kernel) (by decide +kernel) (by decide) ?_
          refine lv_aload_n hx hb dX6_count_97 rfl (lv_at hl 0 rfl) ?_
          refine cVr (As := []) (rest := []) ⟨hx, hb, hml, hown, hts⟩ hP hK hD hS hN hA (mX6_magicLines l D G mo sa be ke te kn ty ik n tn k N Z S P V F po rd al (by first | assumption | omega)) (cwV 0 hts gX6_count_X6_magicLines rfl rfl rfl (by decide +kernel) ⟨Nat.le_of_ble_eq_true rfl, Nat.le_of_ble_eq_true rfl⟩) [0, 1] rfl (by decide) 0 6 rfl rfl rfl hl.1 rfl (Nat.le_of_ble_eq_true rfl) dX6_count_98 ⟨Nat.zero_le _, Nat.zero_le _⟩ (fun H locs hP hS => ?_)
          refine rTop (show nI (mcn n N) = cntQ n N Z k F tn po rd al S kn ty (nI 3) from by rw [cntQ, if_neg (by decide +kernel), if_neg (by decide +kernel), if_neg (by decide +kernel), if_pos rfl]) ?_
          exact rIret hx hb hr hlk hP hK hD hS dX6_count_101
        · by_cases sw1_4 : x = nI 4
          · subst sw1_4
            refine lv_tableIn (off := 101) (tgt := 102) hx hb dX6_count_1 (by decide +kernel) (by decide +kernel) (by decide +kernel) (by decide) ?_
            refine lv_aload_n hx hb dX6_count_102 rfl (lv_at hl 0 rfl) ?_
            refine va_get (D := D) (ci := 6) (v := .ref sa) (C := RX6) (T := TX6) (N := 7) hx hb hts inX6 hown hK hP 0 rfl rfl 0 (by decide) k7 (fun _ h9 => h9) rfl dX6_count_103 ?_
            refine lv_iconst (v := nI 1) hx hb dX6_count_106 (by decide +kernel) ?_
            refine rIald hx hb hK hP 1 rfl 1 (by omega) (by decide) dX6_count_107 ?_
            refine rTop (show enc n N Z tn po rd al k S P V F 1 = nI tn from rfl) ?_
            refine rTop (show nI tn = cntQ n N Z k F tn po rd al S kn ty (nI 4) from by rw [cntQ, if_neg (by decide +kernel), if_neg (by decide +kernel), if_neg (by decide +kernel), if_neg (by decide +kernel), if_pos rfl]) ?_
            exact rIret hx hb hr hlk hP hK hD hS dX6_count_108
          · by_cases sw1_5 : x = nI 5
            · subst sw1_5
              refine lv_tableIn (off := 108) (tgt := 109) hx hb dX6_count_1 (by decide +kernel) (by decide +kernel) (by decide +kernel) (by decide) ?_
              refine lv_aload_n hx hb dX6_count_109 rfl (lv_at hl 0 rfl) ?_
              refine va_get (D := D) (ci := 6) (v := .ref sa) (C := RX6) (T := TX6) (N := 7) hx hb hts inX6 hown hK hP 0 rfl rfl 0 (by decide) k7 (fun _ h9 => h9) rfl dX6_count_110 ?_
              refine lv_iconst (v := nI 2) hx hb dX6_count_113 (by decide +kernel) ?_
              refine rIald hx hb hK hP 1 rfl 2 (by omega) (by decide) dX6_count_114 ?_
              refine rTop (show enc n N Z tn po rd al k S P V F 2 = po from rfl) ?_
              refine rTop (show po = cntQ n N Z k F tn po rd al S kn ty (nI 5) from by rw [cntQ, if_neg (by decide +kernel), if_neg (by decide +kernel), if_neg (by decide +kernel), if_neg (by decide +kernel), if_neg (by decide +kernel), if_pos rfl]) ?_
              exact rIret hx hb hr hlk hP hK hD hS dX6_count_115
            · by_cases sw1_6 : x = nI 6
              · subst sw1_6
                refine lv_tableIn (off := 115) (tgt := 116) hx hb dX6_count_1 (by decide +kernel) (by decide +kernel) (by decide +kernel) (by decide) ?_
                refine lv_aload_n hx hb dX6_count_116 rfl (lv_at hl 0 rfl) ?_
                refine va_get (D := D) (ci := 6) (v := .ref sa) (C := RX6) (T := TX6) (N := 7) hx hb hts inX6 hown hK hP 0 rfl rfl 0 (by decide) k7 (fun _ h9 => h9) rfl dX6_count_117 ?_
                refine lv_iconst (v := nI 5) hx hb dX6_count_120 (by decide +kernel) ?_
                refine rIald hx hb hK hP 1 rfl 5 (by omega) (by decide) dX6_count_121 ?_
                refine rTop (show enc n N Z tn po rd al k S P V F 5 = nI k from rfl) ?_
                refine rTop (show nI k = cntQ n N Z k F tn po rd al S kn ty (nI 6) from by rw [cntQ, if_neg (by decide +kernel), if_neg (by decide +kernel), if_neg (by decide +kernel), if_neg (by decide +kernel), if_neg (by decide +kernel), if_neg (by decide +kernel), if_pos rfl]) ?_
                exact rIret hx hb hr hlk hP hK hD hS dX6_count_122
              · by_cases sw1_7 : x = nI 7
                · subst sw1_7
                  refine lv_tableIn (off := 122) (tgt := 123) hx hb dX6_count_1 (by decide +kernel) (by decide +kernel) (by decide +kernel) (by decide) ?_
                  refine lv_aload_n hx hb dX6_count_123 rfl (lv_at hl 0 rfl) ?_
                  refine va_get (D := D) (ci := 6) (v := .ref sa) (C := RX6) (T := TX6) (N := 7) hx hb hts inX6 hown hK hP 0 rfl rfl 0 (by decide) k7 (fun _ h9 => h9) rfl dX6_count_124 ?_
                  refine lv_iconst (v := nI 3) hx hb dX6_count_127 (by decide +kernel) ?_
                  refine lv_iload_n hx hb dX6_count_128 rfl (lv_at hl 1 rfl) ?_
                  refine lv_iadd hx hb dX6_count_129 ?_
                  refine rTop (show nI 3 + nI 7 = nI 10 from nI_add 3 7) ?_
                  refine lv_bipush (v := nI 7) hx hb dX6_count_130 (by decide +kernel) ?_
                  refine lv_isub hx hb dX6_count_132 ?_
                  refine rTop (show nI 10 - nI 7 = nI 3 from pk_sub (by omega)) ?_
                  refine rIald hx hb hK hP 1 rfl 3 (by omega) (by decide) dX6_count_133 ?_
                  refine rTop (show enc n N Z tn po rd al k S P V F 3 = rd from rfl) ?_
                  refine rTop (show rd = cntQ n N Z k F tn po rd al S kn ty (nI 7) from by rw [cntQ, if_neg (by decide +kernel), if_neg (by decide +kernel), if_neg (by decide +kernel), if_neg (by decide +kernel), if_neg (by decide +kernel), if_neg (by decide +kernel), if_neg (by decide +kernel), if_pos rfl]) ?_
                  exact rIret hx hb hr hlk hP hK hD hS dX6_count_134
                · by_cases sw1_8 : x = nI 8
                  · subst sw1_8
                    refine lv_tableIn (off := 122) (tgt := 123) hx hb dX6_count_1 (by decide +kernel) (by decide +kernel) (by decide +kernel) (by decide) ?_
                    refine lv_aload_n hx hb dX6_count_123 rfl (lv_at hl 0 rfl) ?_
                    refine va_get (D := D) (ci := 6) (v := .ref sa) (C := RX6) (T := TX6) (N := 7) hx hb hts inX6 hown hK hP 0 rfl rfl 0 (by decide) k7 (fun _ h9 => h9) rfl dX6_count_124 ?_
                    refine lv_iconst (v := nI 3) hx hb dX6_count_127 (by decide +kernel) ?_
                    refine lv_iload_n hx hb dX6_count_128 rfl (lv_at hl 1 rfl) ?_
                    refine lv_iadd hx hb dX6_count_129 ?_
                    refine rTop (show nI 3 + nI 8 = nI 11 from nI_add 3 8) ?_
                    refine lv_bipush (v := nI 7) hx hb dX6_count_130 (by decide +kernel) ?_
                    refine lv_isub hx hb dX6_count_132 ?_
                    refine rTop (show nI 11 - nI 7 = nI 4 from pk_sub (by omega)) ?_
                    refine rIald hx hb hK hP 1 rfl 4 (by omega) (by decide) dX6_count_133 ?_
                    refine rTop (show enc n N Z tn po rd al k S P V F 4 = al from rfl) ?_
                    refine rTop (show al = cntQ n N Z k F tn po rd al S kn ty (nI 8) from by rw [cntQ, if_neg (by decide +kernel), if_neg (by decide +kernel), if_neg (by decide +kernel), if_neg (by decide +kernel), if_neg (by decide +kernel), if_neg (by decide +kernel), if_neg (by decide +kernel), if_neg (by decide +kernel), if_pos rfl]) ?_
                    exact rIret hx hb hr hlk hP hK hD hS dX6_count_134
                  · by_cases sw1_9 : x = nI 9
                    · subst sw1_9
                      refine lv_tableIn (off := 134) (tgt := 135) hx hb dX6_count_1 (by decide +kernel) (by decide +kernel) (by decide +kernel) (by decide) ?_
                      refine lv_aload_n hx hb dX6_count_135 rfl (lv_at hl 0 rfl) ?_
                      refine cVr (As := []) (rest := []) ⟨hx, hb, hml, hown, hts⟩ hP hK hD hS hN hA (mX6_frozen l D G mo sa be ke te kn ty ik n tn k N Z S P V F po rd al (by first | assumption | omega)) (cwV 0 hts gX6_count_X6_frozen rfl rfl rfl (by decide +kernel) ⟨Nat.le_of_ble_eq_true rfl, Nat.le_of_ble_eq_true rfl⟩) [0, 1] rfl (by decide) 0 6 rfl rfl rfl hl.1 rfl (Nat.le_of_ble_eq_true rfl) dX6_count_136 ⟨Nat.zero_le _, Nat.zero_le _⟩ (fun H locs hP hS => ?_)
                      refine rTop (show nI (fz Z (n * n)) = cntQ n N Z k F tn po rd al S kn ty (nI 9) from by rw [fz_16 hn hZ, cntQ, if_neg (by decide +kernel), if_neg (by decide +kernel), if_neg (by decide +kernel), if_neg (by decide +kernel), if_neg (by decide +kernel), if_neg (by decide +kernel), if_neg (by decide +kernel), if_neg (by decide +kernel), if_neg (by decide +kernel), if_pos rfl]) ?_
                      exact rIret hx hb hr hlk hP hK hD hS dX6_count_139
                    · by_cases sw1_10 : x = nI 10
                      · subst sw1_10
                        refine lv_tableIn (off := 139) (tgt := 140) hx hb dX6_count_1 (by decide +kernel) (by decide +kernel) (by decide +kernel) (by decide) ?_
                        refine lv_aload_n hx hb dX6_count_140 rfl (lv_at hl 0 rfl) ?_
                        refine va_get (D := D) (ci := 6) (v := .ref sa) (C := RX6) (T := TX6) (N := 7) hx hb hts inX6 hown hK hP 0 rfl rfl 0 (by decide) k7 (fun _ h9 => h9) rfl dX6_count_141 ?_
                        refine lv_bipush (v := nI 6) hx hb dX6_count_144 (by decide +kernel) ?_
                        refine lv_iload_n hx hb dX6_count_146 rfl (lv_at hl 1 rfl) ?_
                        refine lv_iadd hx hb dX6_count_147 ?_
                        refine rTop (show nI 6 + nI 10 = nI 16 from nI_add 6 10) ?_
                        refine lv_bipush (v := nI 10) hx hb dX6_count_148 (by decide +kernel) ?_
                        refine lv_isub hx hb dX6_count_150 ?_
                        refine rTop (show nI 16 - nI 10 = nI 6 from pk_sub (by omega)) ?_
                        refine rIald hx hb hK hP 1 rfl 6 (by omega) (by decide) dX6_count_151 ?_
                        refine rTop (show enc n N Z tn po rd al k S P V F 6 = S 0 from enc_S n N Z tn po rd al k S P V F 0 (by omega)) ?_
                        refine rTop (show S 0 = cntQ n N Z k F tn po rd al S kn ty (nI 10) from by rw [cntQ, if_neg (by decide +kernel), if_neg (by decide +kernel), if_neg (by decide +kernel), if_neg (by decide +kernel), if_neg (by decide +kernel), if_neg (by decide +kernel), if_neg (by decide +kernel), if_neg (by decide +kernel), if_neg (by decide +kernel), if_neg (by decide +kernel), if_pos rfl]) ?_
                        exact rIret hx hb hr hlk hP hK hD hS dX6_count_152
                      · by_cases sw1_11 : x = nI 11
                        · subst sw1_11
                          refine lv_tableIn (off := 139) (tgt := 140) hx hb dX6_count_1 (by decide +kernel) (by decide +kernel) (by decide +kernel) (by decide) ?_
                          refine lv_aload_n hx hb dX6_count_140 rfl (lv_at hl 0 rfl) ?_
                          refine va_get (D := D) (ci := 6) (v := .ref sa) (C := RX6) (T := TX6) (N := 7) hx hb hts inX6 hown hK hP 0 rfl rfl 0 (by decide) k7 (fun _ h9 => h9) rfl dX6_count_141 ?_
                          refine lv_bipush (v := nI 6) hx hb dX6_count_144 (by decide +kernel) ?_
                          refine lv_iload_n hx hb dX6_count_146 rfl (lv_at hl 1 rfl) ?_
                          refine lv_iadd hx hb dX6_count_147 ?_
                          refine rTop (show nI 6 + nI 11 = nI 17 from nI_add 6 11) ?_
                          refine lv_bipush (v := nI 10) hx hb dX6_count_148 (by decide +kernel) ?_
                          refine lv_isub hx hb dX6_count_150 ?_
                          refine rTop (show nI 17 - nI 10 = nI 7 from pk_sub (by omega)) ?_
                          refine rIald hx hb hK hP 1 rfl 7 (by omega) (by decide) dX6_count_151 ?_
                          refine rTop (show enc n N Z tn po rd al k S P V F 7 = S 1 from enc_S n N Z tn po rd al k S P V F 1 (by omega)) ?_
                          refine rTop (show S 1 = cntQ n N Z k F tn po rd al S kn ty (nI 11) from by rw [cntQ, if_neg (by decide +kernel), if_neg (by decide +kernel), if_neg (by decide +kernel), if_neg (by decide +kernel), if_neg (by decide +kernel), if_neg (by decide +kernel), if_neg (by decide +kernel), if_neg (by decide +kernel), if_neg (by decide +kernel), if_neg (by decide +kernel), if_neg (by decide +kernel), if_pos rfl]) ?_
                          exact rIret hx hb hr hlk hP hK hD hS dX6_count_152
                        · by_cases sw1_12 : x = nI 12
                          · subst sw1_12
                            refine lv_tableIn (off := 139) (tgt := 140) hx hb dX6_count_1 (by decide +kernel) (by decide +kernel) (by decide +kernel) (by decide) ?_
                            refine lv_aload_n hx hb dX6_count_140 rfl (lv_at hl 0 rfl) ?_
                            refine va_get (D := D) (ci := 6) (v := .ref sa) (C := RX6) (T := TX6) (N := 7) hx hb hts inX6 hown hK hP 0 rfl rfl 0 (by decide) k7 (fun _ h9 => h9) rfl dX6_count_141 ?_
                            refine lv_bipush (v := nI 6) hx hb dX6_count_144 (by decide +kernel) ?_
                            refine lv_iload_n hx hb dX6_count_146 rfl (lv_at hl 1 rfl) ?_
                            refine lv_iadd hx hb dX6_count_147 ?_
                            refine rTop (show nI 6 + nI 12 = nI 18 from nI_add 6 12) ?_
                            refine lv_bipush (v := nI 10) hx hb dX6_count_148 (by decide +kernel) ?_
                            refine lv_isub hx hb dX6_count_150 ?_
                            refine rTop (show nI 18 - nI 10 = nI 8 from pk_sub (by omega)) ?_
                            refine rIald hx hb hK hP 1 rfl 8 (by omega) (by decide) dX6_count_151 ?_
                            refine rTop (show enc n N Z tn po rd al k S P V F 8 = S 2 from enc_S n N Z tn po rd al k S P V F 2 (by omega)) ?_
                            refine rTop (show S 2 = cntQ n N Z k F tn po rd al S kn ty (nI 12) from by rw [cntQ, if_neg (by decide +kernel), if_neg (by decide +kernel), if_neg (by decide +kernel), if_neg (by decide +kernel), if_neg (by decide +kernel), if_neg (by decide +kernel), if_neg (by decide +kernel), if_neg (by decide +kernel), if_neg (by decide +kernel), if_neg (by decide +kernel), if_neg (by decide +kernel), if_neg (by decide +kernel), if_pos rfl]) ?_
                            exact rIret hx hb hr hlk hP hK hD hS dX6_count_152
                          · by_cases sw1_13 : x = nI 13
                            · subst sw1_13
                              refine lv_tableIn (off := 152) (tgt := 153) hx hb dX6_count_1 (by decide +kernel) (by decide +kernel) (by decide +kernel) (by decide) ?_
                              refine lv_aload_n hx hb dX6_count_153 rfl (lv_at hl 0 rfl) ?_
                              refine va_get (D := D) (ci := 6) (v := .int (nI kn)) (C := RX6) (T := TX6) (N := 7) hx hb hts inX6 hown hK hP 0 rfl rfl 2 (by decide) k37 (fun _ h9 => h9) rfl dX6_count_154 ?_
                              refine rTop (show nI kn = cntQ n N Z k F tn po rd al S kn ty (nI 13) from by rw [cntQ, if_neg (by decide +kernel), if_neg (by decide +kernel), if_neg (by decide +kernel), if_neg (by decide +kernel), if_neg (by decide +kernel), if_neg (by decide +kernel), if_neg (by decide +kernel), if_neg (by decide +kernel), if_neg (by decide +kernel), if_neg (by decide +kernel), if_neg (by decide +kernel), if_neg (by decide +kernel), if_neg (by decide +kernel), if_pos rfl]) ?_
                              exact rIret hx hb hr hlk hP hK hD hS dX6_count_157
                            · by_cases sw1_14 : x = nI 14
                              · subst sw1_14
                                refine lv_tableIn (off := 157) (tgt := 158) hx hb dX6_count_1 (by decide +kernel) (by decide +kernel) (by decide +kernel) (by decide) ?_
                                refine lv_aload_n hx hb dX6_count_158 rfl (lv_at hl 0 rfl) ?_
                                refine va_get (D := D) (ci := 6) (v := .int (nI ty)) (C := RX6) (T := TX6) (N := 7) hx hb hts inX6 hown hK hP 0 rfl rfl 6 (by decide) k90 (fun _ h9 => h9) rfl dX6_count_159 ?_
                                refine rTop (show nI ty = cntQ n N Z k F tn po rd al S kn ty (nI 14) from by rw [cntQ, if_neg (by decide +kernel), if_neg (by decide +kernel), if_neg (by decide +kernel), if_neg (by decide +kernel), if_neg (by decide +kernel), if_neg (by decide +kernel), if_neg (by decide +kernel), if_neg (by decide +kernel), if_neg (by decide +kernel), if_neg (by decide +kernel), if_neg (by decide +kernel), if_neg (by decide +kernel), if_neg (by decide +kernel), if_neg (by decide +kernel), if_pos rfl]) ?_
                                exact rIret hx hb hr hlk hP hK hD hS dX6_count_162
                              · by_cases sw1_15 : x = nI 15
                                · subst sw1_15
                                  refine lv_tableIn (off := 162) (tgt := 163) hx hb dX6_count_1 (by decide +kernel) (by decide +kernel) (by decide +kernel) (by decide) ?_
                                  refine lv_aload_n hx hb dX6_count_163 rfl (lv_at hl 0 rfl) ?_
                                  refine cVr (As := []) (rest := []) ⟨hx, hb, hml, hown, hts⟩ hP hK hD hS hN hA (mX6_table l D G mo sa be ke te kn ty ik n tn k N Z S P V F po rd al (by first | assumption | omega)) (cwV 0 hts gX6_count_X6_table rfl rfl rfl (by decide +kernel) ⟨Nat.le_of_ble_eq_true rfl, Nat.le_of_ble_eq_true rfl⟩) [0, 1] rfl (by decide) 0 6 rfl rfl rfl hl.1 rfl (Nat.le_of_ble_eq_true rfl) dX6_count_164 ⟨Nat.zero_le _, Nat.zero_le _⟩ (fun H locs hP hS => ?_)
                                  refine rTop (show aa F k = cntQ n N Z k F tn po rd al S kn ty (nI 15) from by rw [cntQ, if_neg (by decide +kernel), if_neg (by decide +kernel), if_neg (by decide +kernel), if_neg (by decide +kernel), if_neg (by decide +kernel), if_neg (by decide +kernel), if_neg (by decide +kernel), if_neg (by decide +kernel), if_neg (by decide +kernel), if_neg (by decide +kernel), if_neg (by decide +kernel), if_neg (by decide +kernel), if_neg (by decide +kernel), if_neg (by decide +kernel), if_neg (by decide +kernel), if_pos rfl]) ?_
                                  exact rIret hx hb hr hlk hP hK hD hS dX6_count_167
                                · refine lv_tableOut (tgt := 168) hx hb dX6_count_1 (by have e0 := lv_neT (a := 0) sw1_0 (by decide +kernel); have e1 := lv_neT (a := 1) sw1_1 (by decide +kernel); have e2 := lv_neT (a := 2) sw1_2 (by decide +kernel); have e3 := lv_neT (a := 3) sw1_3 (by decide +kernel); have e4 := lv_neT (a := 4) sw1_4 (by decide +kernel); have e5 := lv_neT (a := 5) sw1_5 (by decide +kernel); have e6 := lv_neT (a := 6) sw1_6 (by decide +kernel); have e7 := lv_neT (a := 7) sw1_7 (by decide +kernel); have e8 := lv_neT (a := 8) sw1_8 (by decide +kernel); have e9 := lv_neT (a := 9) sw1_9 (by decide +kernel); have e10 := lv_neT (a := 10) sw1_10 (by decide +kernel); have e11 := lv_neT (a := 11) sw1_11 (by decide +kernel); have e12 := lv_neT (a := 12) sw1_12 (by decide +kernel); have e13 := lv_neT (a := 13) sw1_13 (by decide +kernel); have e14 := lv_neT (a := 14) sw1_14 (by decide +kernel); have e15 := lv_neT (a := 15) sw1_15 (by decide +kernel); omega) (by decide) ?_
                                  refine lv_bipush (v := -2) hx hb dX6_count_168 (by decide +kernel) ?_
                                  refine rTop (show (-2) = cntQ n N Z k F tn po rd al S kn ty x from by rw [cntQ, if_neg sw1_0, if_neg sw1_1, if_neg sw1_2, if_neg sw1_3, if_neg sw1_4, if_neg sw1_5, if_neg sw1_6, if_neg sw1_7, if_neg sw1_8, if_neg sw1_9, if_neg sw1_10, if_neg sw1_11, if_neg sw1_12, if_neg sw1_13, if_neg sw1_14, if_neg sw1_15]) ?_
                                  exact rIret hx hb hr hlk hP hK hD hS dX6_count_170

set_option maxHeartbeats 4000000 in
set_option maxRecDepth 100000 in
theorem mX6_bitsOf (l : Launch) (D : va_G) (G : Nat → ClassId) (x : UInt32) (hx0 : vf1 x 1 20) : CT l yX6_bitsOf wsX6_bitsOf 0 0 D G [.float x] [] [] (some (.int (bitsF x))) := by
  refine CT.of (cc := cX6_bitsOf) (maxL := 3) (ret := (some .int)) (by decide) rfl RX6 rfl (Nat.le_of_ble_eq_true rfl) (fun pp ee s mm bl me cc A ls hx hb hr hml hts hown hlk hnm hA hP hK hD hN hS hl => ?_)
  have hl : lv_has ls 3 [(0, .float x)] := hl
  have hP : va_P D vwCl [] s.heap := hP
  have k138 := hts (.constant RX6 138 (8388608)) (List.mem_of_getElem? (i := 2) rfl)
  have k139 := hts (.constantFloat RX6 139 (1258291200)) (List.mem_of_getElem? (i := 3) rfl)
  have k137 := hts (.constantFloat RX6 137 (1056964608)) (List.mem_of_getElem? (i := 1) rfl)
  have hpw := (vf1_nm hx0).2.2.2
  refine lv_bipush (v := nI 127) hx hb dX6_bitsOf_0 (by decide +kernel) ?_
  refine lv_istore_n (lv' := [(1, .int (nI 127)), (0, .float x)]) hx hb dX6_bitsOf_2 rfl hl (by decide) rfl (fun ls hl => ?_)
  refine lv_fload_n hx hb dX6_bitsOf_3 rfl (lv_at hl 1 rfl) ?_
  refine lv_fstore_n (lv' := [(2, .float x), (1, .int (nI 127)), (0, .float x)]) hx hb dX6_bitsOf_4 rfl hl (by decide) rfl (fun ls hl => ?_)
  have LP5 : ∀ (nn5 i : Nat), i ≤ (pw x) → (pw x) < i + nn5  → ∀ (H : Heap) (locs : List Loc), va_P D vwCl [] H → va_D A [] → va_S A s.heap H locs → ∀ ls : Array Slot, lv_has ls 3 [(1, .int (nI (127 + i))), (2, .float (hv x i)), (0, .float x)] → W pp l ee (rmA 0 0) s mm ([.float x] : List Value).toArray bl me cc H locs 0 0 (MQ bl (Qres (some (.int (bitsF x))) D G [] A) ([.float x] : List Value).toArray s 0 0 A) (F0 mm 5 ls []) := by
    intro nn5
    induction nn5 with
    | zero => intro i h1 h2; exact absurd h2 (by omega)
    | succ nn5 ih5 =>
      intro i hki hni  H locs hP hD hS ls hl
      refine lv_fload_n hx hb dX6_bitsOf_5 rfl (lv_at hl 1 rfl) ?_
      refine lv_fconst2 hx hb dX6_bitsOf_6 ?_
      refine lv_fcmp hx hb dX6_bitsOf_7 ?_
      refine lv_if_lt (tgt := 22) hx hb dX6_bitsOf_8 (by decide)  (fun c1 => ?_) (fun c1 => ?_)
      · obtain rfl : i = pw x := (hv_cmp hx0 (by assumption)).mp (by assumption)
        refine lv_iload_n hx hb dX6_bitsOf_22 rfl (lv_at hl 0 rfl) ?_
        refine lv_ldc hx hb hown k138 dX6_bitsOf_23 ?_
        refine rTop (show (8388608 : Int32) = nI 8388608 from by decide +kernel) ?_
        refine lv_imul hx hb dX6_bitsOf_25 ?_
        refine rTop (show nI (127 + (pw x)) * nI 8388608 = nI ((127 + (pw x)) * 8388608) from pk_mul (127 + (pw x)) 8388608) ?_
        refine lv_fload_n hx hb dX6_bitsOf_26 rfl (lv_at hl 1 rfl) ?_
        refine lv_fconst1 hx hb dX6_bitsOf_27 ?_
        refine lv_fsub hx hb dX6_bitsOf_28 ((hv_fr hx0).1) ?_
        refine lv_ldcf hx hb hown k139 dX6_bitsOf_29 ?_
        refine lv_fmul hx hb dX6_bitsOf_31 ((hv_fr hx0).2.1) ?_
        refine lv_f2i hx hb dX6_bitsOf_32 ?_
        refine lv_iadd hx hb dX6_bitsOf_33 ?_
        refine rTop (show (nI ((127 + (pw x)) * 8388608) + FP.f2i (FP.fmul (FP.fsub (hv x (pw x)) FP.fconst1) 1258291200)) = bitsF x from by rw [(hv_fr hx0).2.2, nI_add]; rfl) ?_
        exact rIret hx hb hr hlk hP hK hD hS dX6_bitsOf_34
      · have hlt : i < pw x := Nat.lt_of_le_of_ne (by assumption) (fun z => absurd ((hv_cmp hx0 (by omega)).mpr z) (by assumption))
        refine lv_fload_n hx hb dX6_bitsOf_11 rfl (lv_at hl 1 rfl) ?_
        refine lv_ldcf hx hb hown k137 dX6_bitsOf_12 ?_
        refine lv_fmul hx hb dX6_bitsOf_14 ((hv_s hx0 hlt).2.2) ?_
        refine rTopF (show FP.fmul (hv x i) 1056964608 = hv x (i + 1) from rfl) ?_
        refine lv_fstore_n (lv' := [(2, .float (hv x (i + 1))), (1, .int (nI (127 + i))), (0, .float x)]) hx hb dX6_bitsOf_15 rfl hl (by decide) rfl (fun ls hl => ?_)
        refine lv_iinc (v := nI (127 + i + 1)) (lv' := [(1, .int (nI (127 + i + 1))), (2, .float (hv x (i + 1))), (0, .float x)]) hx hb dX6_bitsOf_16 hl (k := 1) rfl (nI_inc (127 + i)) (by decide) rfl (fun ls hl => ?_)
        refine lv_goto (tgt := 5) hx hb dX6_bitsOf_19 (by decide) ?_
        exact ih5 (i + 1) (by omega) (by omega)  _ _ hP hD hS _ (lv_sub hl [0, 1, 2] rfl)
  exact LP5 (pw x + 1 - 0) 0 (by omega) (by omega)  _ _ hP hD hS _ (lv_sub hl [1, 0, 2] rfl)

set_option maxHeartbeats 4000000 in
set_option maxRecDepth 100000 in
theorem mX6_meanOddsBits (l : Launch) (D : va_G) (G : Nat → ClassId) (mo sa be ke te kn ty : Nat) (ik : Bool) (n tn k : Nat) (N Z S P V : Nat → Int32) (F : Nat → Nat → Int32) (po rd al : Int32) (hk : k ≤ 10) (hRF : RFD k F) : CT l yX6_meanOddsBits wsX6_meanOddsBits 2 42 D G [.ref mo] [(mo, .inr (6, [.ref sa, .ref be, .int (nI kn), .ref ke, .int (zB ik), .ref te, .int (nI ty)])), (sa, .inl (G 0, 117, .inl (enc n N Z tn po rd al k S P V F)))] [(mo, .inr (6, [.ref sa, .ref be, .int (nI kn), .ref ke, .int (zB ik), .ref te, .int (nI ty)])), (sa, .inl (G 0, 117, .inl (enc n N Z tn po rd al k S P V F)))] (some (.int (mob k (odR F)))) := by
  refine CT.of (cc := cX6_meanOddsBits) (maxL := 3) (ret := (some .int)) (by decide) rfl RX6 rfl (Nat.le_of_ble_eq_true rfl) (fun pp ee s mm bl me cc A ls hx hb hr hml hts hown hlk hnm hA hP hK hD hN hS hl => ?_)
  have hl : lv_has ls 3 [(0, .ref mo)] := hl
  have hP : va_P D vwCl [(mo, .inr (6, [.ref sa, .ref be, .int (nI kn), .ref ke, .int (zB ik), .ref te, .int (nI ty)])), (sa, .inl (G 0, 117, .inl (enc n N Z tn po rd al k S P V F)))] s.heap := hP
  have inX6 : ∀ w ∈ wsX60, w ∈ wsX6_meanOddsBits := fun w h => List.mem_cons_of_mem _ (List.mem_append_right _ h)
  have k7 := hts (.fieldLink RX6 7 "SquareStakesModel" "s" "[I") (List.mem_of_getElem? (i := 1) rfl)
  refine lv_fconst0 hx hb dX6_meanOddsBits_0 ?_
  refine lv_fstore_n (lv' := [(1, .float FP.fconst0), (0, .ref mo)]) hx hb dX6_meanOddsBits_1 rfl hl (by decide) rfl (fun ls hl => ?_)
  refine lv_iconst (v := nI 0) hx hb dX6_meanOddsBits_2 (by decide +kernel) ?_
  refine lv_istore_n (lv' := [(2, .int (nI 0)), (1, .float FP.fconst0), (0, .ref mo)]) hx hb dX6_meanOddsBits_3 rfl hl (by decide) rfl (fun ls hl => ?_)
  have LP4 : ∀ (nn4 i : Nat), i ≤ k → k < i + nn4  → ∀ (H : Heap) (locs : List Loc), va_P D vwCl [(mo, .inr (6, [.ref sa, .ref be, .int (nI kn), .ref ke, .int (zB ik), .ref te, .int (nI ty)])), (sa, .inl (G 0, 117, .inl (enc n N Z tn po rd al k S P V F)))] H → va_D A [(mo, .inr (6, [.ref sa, .ref be, .int (nI kn), .ref ke, .int (zB ik), .ref te, .int (nI ty)])), (sa, .inl (G 0, 117, .inl (enc n N Z tn po rd al k S P V F)))] → va_S A s.heap H locs → ∀ ls : Array Slot, lv_has ls 3 [(1, .float (so (odR F) i)), (2, .int (nI i)), (0, .ref mo)] → W pp l ee (rmA 2 42) s mm ([.ref mo] : List Value).toArray bl me cc H locs 0 0 (MQ bl (Qres (some (.int (mob k (odR F)))) D G [(mo, .inr (6, [.ref sa, .ref be, .int (nI kn), .ref ke, .int (zB ik), .ref te, .int (nI ty)])), (sa, .inl (G 0, 117, .inl (enc n N Z tn po rd al k S P V F)))] A) ([.ref mo] : List Value).toArray s 0 0 A) (F0 mm 4 ls []) := by
    intro nn4
    induction nn4 with
    | zero => intro i h1 h2; exact absurd h2 (by omega)
    | succ nn4 ih4 =>
      intro i hki hni  H locs hP hD hS ls hl
      refine lv_iload_n hx hb dX6_meanOddsBits_4 rfl (lv_at hl 1 rfl) ?_
      refine lv_aload_n hx hb dX6_meanOddsBits_5 rfl (lv_at hl 2 rfl) ?_
      refine va_get (D := D) (ci := 6) (v := .ref sa) (C := RX6) (T := TX6) (N := 7) hx hb hts inX6 hown hK hP 0 rfl rfl 0 (by decide) k7 (fun _ h9 => h9) rfl dX6_meanOddsBits_6 ?_
      refine lv_iconst (v := nI 5) hx hb dX6_meanOddsBits_9 (by decide +kernel) ?_
      refine rIald hx hb hK hP 1 rfl 5 (by omega) (by decide) dX6_meanOddsBits_10 ?_
      refine rTop (show enc n N Z tn po rd al k S P V F 5 = nI k from rfl) ?_
      refine bGe (tgt := 28) hx hb dX6_meanOddsBits_11 (by decide) (by omega) (by omega) (fun c1 => ?_) (fun c1 => ?_)
      · obtain rfl : k = i := by omega
        refine lv_aload_n hx hb dX6_meanOddsBits_28 rfl (lv_at hl 2 rfl) ?_
        refine va_get (D := D) (ci := 6) (v := .ref sa) (C := RX6) (T := TX6) (N := 7) hx hb hts inX6 hown hK hP 0 rfl rfl 0 (by decide) k7 (fun _ h9 => h9) rfl dX6_meanOddsBits_29 ?_
        refine lv_iconst (v := nI 5) hx hb dX6_meanOddsBits_32 (by decide +kernel) ?_
        refine rIald hx hb hK hP 1 rfl 5 (by omega) (by decide) dX6_meanOddsBits_33 ?_
        refine rTop (show enc n N Z tn po rd al k S P V F 5 = nI k from rfl) ?_
        refine iNe (tgt := 41) hx hb dX6_meanOddsBits_34 (by decide) (by omega) (fun c2 => ?_) (fun c2 => ?_)
        · refine lv_fload_n hx hb dX6_meanOddsBits_41 rfl (lv_at hl 0 rfl) ?_
          refine lv_aload_n hx hb dX6_meanOddsBits_42 rfl (lv_at hl 2 rfl) ?_
          refine va_get (D := D) (ci := 6) (v := .ref sa) (C := RX6) (T := TX6) (N := 7) hx hb hts inX6 hown hK hP 0 rfl rfl 0 (by decide) k7 (fun _ h9 => h9) rfl dX6_meanOddsBits_43 ?_
          refine lv_iconst (v := nI 5) hx hb dX6_meanOddsBits_46 (by decide +kernel) ?_
          refine rIald hx hb hK hP 1 rfl 5 (by omega) (by decide) dX6_meanOddsBits_47 ?_
          refine rTop (show enc n N Z tn po rd al k S P V F 5 = nI k from rfl) ?_
          refine lv_i2f hx hb dX6_meanOddsBits_48 ?_
          refine lv_fdiv hx hb dX6_meanOddsBits_49 ((so_dv (RFD.ook hRF) (by assumption) hk).2) ?_
          refine cSr (As := [.float (FP.fdiv (so (odR F) k) (FP.i2f (nI k)))]) (rest := []) ⟨hx, hb, hml, hown, hts⟩ hP hK hD hS hN hA (mX6_bitsOf l D G (FP.fdiv (so (odR F) k) (FP.i2f (nI k))) ((so_dv (RFD.ook hRF) (by assumption) hk).1)) (cwS 1 hts gX6_meanOddsBits_X6_bitsOf rfl rfl rfl (by decide +kernel) ⟨Nat.le_of_ble_eq_true rfl, Nat.le_of_ble_eq_true rfl⟩) [] rfl (by decide) rfl hl.1 rfl (Nat.le_of_ble_eq_true rfl) dX6_meanOddsBits_50 ⟨Nat.zero_le _, Nat.zero_le _⟩ (fun H locs hP hS => ?_)
          refine rTop (show bitsF (FP.fdiv (so (odR F) k) (FP.i2f (nI k))) = mob k (odR F) from mob_s (by assumption)) ?_
          exact rIret hx hb hr hlk hP hK hD hS dX6_meanOddsBits_53
        · refine lv_iconst (v := nI 0) hx hb dX6_meanOddsBits_37 (by decide +kernel) ?_
          refine lv_goto (tgt := 53) hx hb dX6_meanOddsBits_38 (by decide) ?_
          refine rTop (show nI 0 = mob k (odR F) from by rw [show k = 0 by omega]; rfl) ?_
          exact rIret hx hb hr hlk hP hK hD hS dX6_meanOddsBits_53
      · refine lv_fload_n hx hb dX6_meanOddsBits_14 rfl (lv_at hl 0 rfl) ?_
        refine lv_aload_n hx hb dX6_meanOddsBits_15 rfl (lv_at hl 2 rfl) ?_
        refine lv_iload_n hx hb dX6_meanOddsBits_16 rfl (lv_at hl 1 rfl) ?_
        refine cVr (As := [.int (nI i)]) (rest := [.float (so (odR F) i)]) ⟨hx, hb, hml, hown, hts⟩ hP hK hD hS hN hA (mX6_oddsOf l D G mo sa be ke te kn ty ik n tn k N Z S P V F po rd al i (by first | assumption | omega) (by first | assumption | omega) (by first | assumption | omega)) (cwV 1 hts gX6_meanOddsBits_X6_oddsOf rfl rfl rfl (by decide +kernel) ⟨Nat.le_of_ble_eq_true rfl, Nat.le_of_ble_eq_true rfl⟩) [0, 1] rfl (by decide) 0 6 rfl rfl rfl hl.1 rfl (Nat.le_of_ble_eq_true rfl) dX6_meanOddsBits_17 ⟨Nat.zero_le _, Nat.zero_le _⟩ (fun H locs hP hS => ?_)
        refine lv_fadd hx hb dX6_meanOddsBits_20 (nan_so (RFD.ook hRF) hk (show i < k by omega)) ?_
        refine rTopF (show FP.fadd (so (odR F) i) (odf (F i 5) (F i 6)) = so (odR F) (i + 1) from rfl) ?_
        refine lv_fstore_n (lv' := [(1, .float (so (odR F) (i + 1))), (2, .int (nI i)), (0, .ref mo)]) hx hb dX6_meanOddsBits_21 rfl hl (by decide) rfl (fun ls hl => ?_)
        refine lv_iinc (v := nI (i + 1)) (lv' := [(2, .int (nI (i + 1))), (1, .float (so (odR F) (i + 1))), (0, .ref mo)]) hx hb dX6_meanOddsBits_22 hl (k := 1) rfl (nI_inc i) (by decide) rfl (fun ls hl => ?_)
        refine lv_goto (tgt := 4) hx hb dX6_meanOddsBits_25 (by decide) ?_
        exact ih4 (i + 1) (by omega) (by omega)  _ _ hP hD hS _ (lv_sub hl [1, 0, 2] rfl)
  exact LP4 (k + 1 - 0) 0 (by omega) (by omega)  _ _ hP hD hS _ (lv_sub hl [1, 0, 2] rfl)
