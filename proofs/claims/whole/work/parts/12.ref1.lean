set_option maxHeartbeats 4000000 in
set_option maxRecDepth 100000 in
theorem mX6_in (l : Launch) (D : va_G) (G : Nat → ClassId) (x lo hi : Int32)  : CT l yX6_in wsX6_in 0 0 D G [.int x, .int lo, .int hi] [] [] (some (.int (zB (rg x lo hi)))) := by
  refine CT.of (cc := cX6_in) (maxL := 3) (ret := (some .boolean)) (by decide) rfl RX6 rfl (Nat.le_of_ble_eq_true rfl) (fun pp ee s mm bl me cc A ls hx hb hr hml hts hown hlk hnm hA hP hK hD hN hS hl => ?_)
  have hl : lv_has ls 3 [(0, .int x), (1, .int lo), (2, .int hi)] := hl
  have hP : va_P D vwCl [] s.heap := hP
  refine lv_iload_n hx hb dX6_in_0 rfl (lv_at hl 0 rfl) ?_
  refine lv_iload_n hx hb dX6_in_1 rfl (lv_at hl 1 rfl) ?_
  refine lv_icmp_lt (tgt := 14) hx hb dX6_in_2 (by decide)  (fun c1 => ?_) (fun c1 => ?_)
  · refine lv_iconst (v := nI 0) hx hb dX6_in_14 (by decide +kernel) ?_
    refine rTop (zB_0 (b := rg x lo hi) (by first | exact rg_t (by assumption) (by assumption) | exact rg_f1 (by assumption) | exact rg_f2 (by assumption))) ?_
    exact rZret hx hb hr hlk hP hK hD hS dX6_in_15
  · refine lv_iload_n hx hb dX6_in_5 rfl (lv_at hl 0 rfl) ?_
    refine lv_iload_n hx hb dX6_in_6 rfl (lv_at hl 2 rfl) ?_
    refine lv_icmp_gt (tgt := 14) hx hb dX6_in_7 (by decide)  (fun c2 => ?_) (fun c2 => ?_)
    · refine lv_iconst (v := nI 0) hx hb dX6_in_14 (by decide +kernel) ?_
      refine rTop (zB_0 (b := rg x lo hi) (by first | exact rg_t (by assumption) (by assumption) | exact rg_f1 (by assumption) | exact rg_f2 (by assumption))) ?_
      exact rZret hx hb hr hlk hP hK hD hS dX6_in_15
    · refine lv_iconst (v := nI 1) hx hb dX6_in_10 (by decide +kernel) ?_
      refine lv_goto (tgt := 15) hx hb dX6_in_11 (by decide) ?_
      refine rTop (zB_1 (b := rg x lo hi) (by first | exact rg_t (by assumption) (by assumption) | exact rg_f1 (by assumption) | exact rg_f2 (by assumption))) ?_
      exact rZret hx hb hr hlk hP hK hD hS dX6_in_15

set_option maxHeartbeats 4000000 in
set_option maxRecDepth 100000 in
theorem mX6_of (l : Launch) (D : va_G) (G : Nat → ClassId) (i b : Nat)  : CT l yX6_of wsX6_of 0 0 D G [.int (nI i), .int (nI b)] [] [] (some (.int (nI (47 + 7 * i + b)))) := by
  refine CT.of (cc := cX6_of) (maxL := 2) (ret := (some .int)) (by decide) rfl RX6 rfl (Nat.le_of_ble_eq_true rfl) (fun pp ee s mm bl me cc A ls hx hb hr hml hts hown hlk hnm hA hP hK hD hN hS hl => ?_)
  have hl : lv_has ls 2 [(0, .int (nI i)), (1, .int (nI b))] := hl
  have hP : va_P D vwCl [] s.heap := hP
  refine lv_bipush (v := nI 47) hx hb dX6_of_0 (by decide +kernel) ?_
  refine lv_bipush (v := nI 7) hx hb dX6_of_2 (by decide +kernel) ?_
  refine lv_iload_n hx hb dX6_of_4 rfl (lv_at hl 0 rfl) ?_
  refine lv_imul hx hb dX6_of_5 ?_
  refine rTop (show nI 7 * nI i = nI (7 * i) from pk_mul 7 i) ?_
  refine lv_iadd hx hb dX6_of_6 ?_
  refine rTop (show nI 47 + nI (7 * i) = nI (47 + 7 * i) from nI_add 47 (7 * i)) ?_
  refine lv_iload_n hx hb dX6_of_7 rfl (lv_at hl 1 rfl) ?_
  refine lv_iadd hx hb dX6_of_8 ?_
  refine rTop (show nI (47 + 7 * i) + nI b = nI (47 + 7 * i + b) from nI_add (47 + 7 * i) b) ?_
  exact rIret hx hb hr hlk hP hK hD hS dX6_of_9

set_option maxHeartbeats 4000000 in
set_option maxRecDepth 100000 in
theorem mX6_order (l : Launch) (D : va_G) (G : Nat → ClassId) (mo sa be ke te kn ty : Nat) (ik : Bool) (n tn k : Nat) (N Z S P V : Nat → Int32) (F : Nat → Nat → Int32) (po rd al : Int32) (v : Nat) (hv : v = 3 ∨ v = 4) : CT l yX6_order wsX6_order 0 0 D G [.ref mo, .int (nI v)] [(mo, .inr (6, [.ref sa, .ref be, .int (nI kn), .ref ke, .int (zB ik), .ref te, .int (nI ty)])), (sa, .inl (G 0, 117, .inl (enc n N Z tn po rd al k S P V F)))] [(mo, .inr (6, [.ref sa, .ref be, .int (nI kn), .ref ke, .int (zB ik), .ref te, .int (nI ty)])), (sa, .inl (G 0, 117, .inl (enc v (fst_ ord N (v * v)) Z tn po rd al k S P V F)))] none := by
  refine CT.of (cc := cX6_order) (maxL := 3) (ret := none) (by decide) rfl RX6 rfl (Nat.le_of_ble_eq_true rfl) (fun pp ee s mm bl me cc A ls hx hb hr hml hts hown hlk hnm hA hP hK hD hN hS hl => ?_)
  have hl : lv_has ls 3 [(0, .ref mo), (1, .int (nI v))] := hl
  have hP : va_P D vwCl [(mo, .inr (6, [.ref sa, .ref be, .int (nI kn), .ref ke, .int (zB ik), .ref te, .int (nI ty)])), (sa, .inl (G 0, 117, .inl (enc n N Z tn po rd al k S P V F)))] s.heap := hP
  have inX6 : ∀ w ∈ wsX60, w ∈ wsX6_order := fun w h => List.mem_cons_of_mem _ (List.mem_append_right _ h)
  have k7 := hts (.fieldLink RX6 7 "SquareStakesModel" "s" "[I") (List.mem_of_getElem? (i := 1) rfl)
  have hv9 : v * v < 17 := by rcases hv with rfl | rfl <;> decide
  refine lv_aload_n hx hb dX6_order_0 rfl (lv_at hl 0 rfl) ?_
  refine va_get (D := D) (ci := 6) (v := .ref sa) (C := RX6) (T := TX6) (N := 7) hx hb hts inX6 hown hK hP 0 rfl rfl 0 (by decide) k7 (fun _ h9 => h9) rfl dX6_order_1 ?_
  refine lv_iconst (v := nI 0) hx hb dX6_order_4 (by decide +kernel) ?_
  refine lv_iload_n hx hb dX6_order_5 rfl (lv_at hl 1 rfl) ?_
  refine rIast hx hb hK hP hD hS 1 rfl 0 (by omega) (by decide) dX6_order_6 (fun H locs hP hD hS => ?_)
  obtain ⟨hP, hD⟩ := wI (g := enc v N Z tn po rd al k S P V F) hP hD 1 rfl (enc_w0 n N Z tn po rd al k S P V F v)
  replace hP : va_P D vwCl [(mo, .inr (6, [.ref sa, .ref be, .int (nI kn), .ref ke, .int (zB ik), .ref te, .int (nI ty)])), (sa, .inl (G 0, 117, .inl (enc v N Z tn po rd al k S P V F)))] _ := hP
  have hD : va_D A [(mo, .inr (6, [.ref sa, .ref be, .int (nI kn), .ref ke, .int (zB ik), .ref te, .int (nI ty)])), (sa, .inl (G 0, 117, .inl (enc v N Z tn po rd al k S P V F)))] := hD
  refine lv_iconst (v := nI 0) hx hb dX6_order_7 (by decide +kernel) ?_
  refine lv_istore_n (lv' := [(2, .int (nI 0)), (0, .ref mo), (1, .int (nI v))]) hx hb dX6_order_8 rfl hl (by decide) rfl (fun ls hl => ?_)
  have LP9 : ∀ (nn9 k_ : Nat), k_ ≤ (v * v) → (v * v) < k_ + nn9  → ∀ (H : Heap) (locs : List Loc), va_P D vwCl [(mo, .inr (6, [.ref sa, .ref be, .int (nI kn), .ref ke, .int (zB ik), .ref te, .int (nI ty)])), (sa, .inl (G 0, 117, .inl (enc v (fst_ ord N k_) Z tn po rd al k S P V F)))] H → va_D A [(mo, .inr (6, [.ref sa, .ref be, .int (nI kn), .ref ke, .int (zB ik), .ref te, .int (nI ty)])), (sa, .inl (G 0, 117, .inl (enc v (fst_ ord N k_) Z tn po rd al k S P V F)))] → va_S A s.heap H locs → ∀ ls : Array Slot, lv_has ls 3 [(2, .int (nI k_)), (0, .ref mo), (1, .int (nI v))] → W pp l ee (rmA 0 0) s mm ([.ref mo, .int (nI v)] : List Value).toArray bl me cc H locs 0 0 (MQ bl (Qres none D G [(mo, .inr (6, [.ref sa, .ref be, .int (nI kn), .ref ke, .int (zB ik), .ref te, .int (nI ty)])), (sa, .inl (G 0, 117, .inl (enc v (fst_ ord N (v * v)) Z tn po rd al k S P V F)))] A) ([.ref mo, .int (nI v)] : List Value).toArray s 0 0 A) (F0 mm 9 ls []) := by
    intro nn9
    induction nn9 with
    | zero => intro k_ h1 h2; exact absurd h2 (by omega)
    | succ nn9 ih9 =>
      intro k_ hkk_ hnk_  H locs hP hD hS ls hl
      refine lv_iload_n hx hb dX6_order_9 rfl (lv_at hl 0 rfl) ?_
      refine lv_iload_n hx hb dX6_order_10 rfl (lv_at hl 2 rfl) ?_
      refine lv_iload_n hx hb dX6_order_11 rfl (lv_at hl 2 rfl) ?_
      refine lv_imul hx hb dX6_order_12 ?_
      refine rTop (show nI v * nI v = nI (v * v) from pk_mul v v) ?_
      refine bGe (tgt := 34) hx hb dX6_order_13 (by decide) (by omega) (by omega) (fun c1 => ?_) (fun c1 => ?_)
      · obtain rfl : v * v = k_ := by omega
        exact rVret hx hb hr hlk hP hK hD hS dX6_order_34
      · refine lv_aload_n hx hb dX6_order_16 rfl (lv_at hl 1 rfl) ?_
        refine va_get (D := D) (ci := 6) (v := .ref sa) (C := RX6) (T := TX6) (N := 7) hx hb hts inX6 hown hK hP 0 rfl rfl 0 (by decide) k7 (fun _ h9 => h9) rfl dX6_order_17 ?_
        refine lv_bipush (v := nI 15) hx hb dX6_order_20 (by decide +kernel) ?_
        refine lv_iload_n hx hb dX6_order_22 rfl (lv_at hl 0 rfl) ?_
        refine lv_iadd hx hb dX6_order_23 ?_
        refine rTop (show nI 15 + nI k_ = nI (15 + k_) from nI_add 15 k_) ?_
        refine lv_iload_n hx hb dX6_order_24 rfl (lv_at hl 0 rfl) ?_
        refine lv_iconst (v := nI 1) hx hb dX6_order_25 (by decide +kernel) ?_
        refine lv_iadd hx hb dX6_order_26 ?_
        refine rTop (show nI k_ + nI 1 = nI (k_ + 1) from nI_add k_ 1) ?_
        refine rIast hx hb hK hP hD hS 1 rfl (15 + k_) (by omega) (by decide) dX6_order_27 (fun H locs hP hD hS => ?_)
        obtain ⟨hP, hD⟩ := wI (g := enc v (upd (fst_ ord N k_) k_ (nI (k_ + 1))) Z tn po rd al k S P V F) hP hD 1 rfl (enc_wN v (fst_ ord N k_) Z tn po rd al k S P V F k_ (by omega) (nI (k_ + 1)))
        replace hP : va_P D vwCl [(mo, .inr (6, [.ref sa, .ref be, .int (nI kn), .ref ke, .int (zB ik), .ref te, .int (nI ty)])), (sa, .inl (G 0, 117, .inl (enc v (upd (fst_ ord N k_) k_ (nI (k_ + 1))) Z tn po rd al k S P V F)))] _ := hP
        have hD : va_D A [(mo, .inr (6, [.ref sa, .ref be, .int (nI kn), .ref ke, .int (zB ik), .ref te, .int (nI ty)])), (sa, .inl (G 0, 117, .inl (enc v (upd (fst_ ord N k_) k_ (nI (k_ + 1))) Z tn po rd al k S P V F)))] := hD
        refine lv_iinc (v := nI (k_ + 1)) (lv' := [(2, .int (nI (k_ + 1))), (0, .ref mo), (1, .int (nI v))]) hx hb dX6_order_28 hl (k := 0) rfl (nI_inc k_) (by decide) rfl (fun ls hl => ?_)
        refine lv_goto (tgt := 9) hx hb dX6_order_31 (by decide) ?_
        obtain ⟨hP, hD⟩ := wI (g := enc v (fst_ ord N (k_ + 1)) Z tn po rd al k S P V F) hP hD 1 rfl (fun j hj => congrFun (congrArg (fun NN => enc v NN Z tn po rd al k S P V F) (show upd (fst_ ord N k_) k_ (nI (k_ + 1)) = fst_ ord N (k_ + 1) from funext fun _ => fst_s rfl)) j)
        replace hP : va_P D vwCl [(mo, .inr (6, [.ref sa, .ref be, .int (nI kn), .ref ke, .int (zB ik), .ref te, .int (nI ty)])), (sa, .inl (G 0, 117, .inl (enc v (fst_ ord N (k_ + 1)) Z tn po rd al k S P V F)))] _ := hP
        have hD : va_D A [(mo, .inr (6, [.ref sa, .ref be, .int (nI kn), .ref ke, .int (zB ik), .ref te, .int (nI ty)])), (sa, .inl (G 0, 117, .inl (enc v (fst_ ord N (k_ + 1)) Z tn po rd al k S P V F)))] := hD
        exact ih9 (k_ + 1) (by omega) (by omega)  _ _ hP hD hS _ (lv_sub hl [0, 1, 2] rfl)
  obtain ⟨hP, hD⟩ := wI (g := enc v (fst_ ord N 0) Z tn po rd al k S P V F) hP hD 1 rfl (fun j hj => by rw [fst_0])
  replace hP : va_P D vwCl [(mo, .inr (6, [.ref sa, .ref be, .int (nI kn), .ref ke, .int (zB ik), .ref te, .int (nI ty)])), (sa, .inl (G 0, 117, .inl (enc v (fst_ ord N 0) Z tn po rd al k S P V F)))] _ := hP
  have hD : va_D A [(mo, .inr (6, [.ref sa, .ref be, .int (nI kn), .ref ke, .int (zB ik), .ref te, .int (nI ty)])), (sa, .inl (G 0, 117, .inl (enc v (fst_ ord N 0) Z tn po rd al k S P V F)))] := hD
  exact LP9 (v * v + 1 - 0) 0 (by omega) (by omega)  _ _ hP hD hS _ (lv_sub hl [0, 1, 2] rfl)

set_option maxHeartbeats 4000000 in
set_option maxRecDepth 100000 in
theorem mX6_cells (l : Launch) (D : va_G) (G : Nat → ClassId) (mo sa be ke te kn ty : Nat) (ik : Bool) (n tn k : Nat) (N Z S P V : Nat → Int32) (F : Nat → Nat → Int32) (po rd al : Int32) (hn : n = 3 ∨ n = 4) : CT l yX6_cells wsX6_cells 0 0 D G [.ref mo] [(mo, .inr (6, [.ref sa, .ref be, .int (nI kn), .ref ke, .int (zB ik), .ref te, .int (nI ty)])), (sa, .inl (G 0, 117, .inl (enc n N Z tn po rd al k S P V F)))] [(mo, .inr (6, [.ref sa, .ref be, .int (nI kn), .ref ke, .int (zB ik), .ref te, .int (nI ty)])), (sa, .inl (G 0, 117, .inl (enc n N Z tn po rd al k S P V F)))] (some (.int (nI (n * n)))) := by
  refine CT.of (cc := cX6_cells) (maxL := 1) (ret := (some .int)) (by decide) rfl RX6 rfl (Nat.le_of_ble_eq_true rfl) (fun pp ee s mm bl me cc A ls hx hb hr hml hts hown hlk hnm hA hP hK hD hN hS hl => ?_)
  have hl : lv_has ls 1 [(0, .ref mo)] := hl
  have hP : va_P D vwCl [(mo, .inr (6, [.ref sa, .ref be, .int (nI kn), .ref ke, .int (zB ik), .ref te, .int (nI ty)])), (sa, .inl (G 0, 117, .inl (enc n N Z tn po rd al k S P V F)))] s.heap := hP
  have inX6 : ∀ w ∈ wsX60, w ∈ wsX6_cells := fun w h => List.mem_cons_of_mem _ (List.mem_append_right _ h)
  have k7 := hts (.fieldLink RX6 7 "SquareStakesModel" "s" "[I") (List.mem_of_getElem? (i := 1) rfl)
  have hn5 : n < 5 := by omega
  refine lv_aload_n hx hb dX6_cells_0 rfl (lv_at hl 0 rfl) ?_
  refine va_get (D := D) (ci := 6) (v := .ref sa) (C := RX6) (T := TX6) (N := 7) hx hb hts inX6 hown hK hP 0 rfl rfl 0 (by decide) k7 (fun _ h9 => h9) rfl dX6_cells_1 ?_
  refine lv_iconst (v := nI 0) hx hb dX6_cells_4 (by decide +kernel) ?_
  refine rIald hx hb hK hP 1 rfl 0 (by omega) (by decide) dX6_cells_5 ?_
  refine rTop (show enc n N Z tn po rd al k S P V F 0 = nI n from rfl) ?_
  refine lv_aload_n hx hb dX6_cells_6 rfl (lv_at hl 0 rfl) ?_
  refine va_get (D := D) (ci := 6) (v := .ref sa) (C := RX6) (T := TX6) (N := 7) hx hb hts inX6 hown hK hP 0 rfl rfl 0 (by decide) k7 (fun _ h9 => h9) rfl dX6_cells_7 ?_
  refine lv_iconst (v := nI 0) hx hb dX6_cells_10 (by decide +kernel) ?_
  refine rIald hx hb hK hP 1 rfl 0 (by omega) (by decide) dX6_cells_11 ?_
  refine rTop (show enc n N Z tn po rd al k S P V F 0 = nI n from rfl) ?_
  refine lv_imul hx hb dX6_cells_12 ?_
  refine rTop (show nI n * nI n = nI (n * n) from pk_mul n n) ?_
  exact rIret hx hb hr hlk hP hK hD hS dX6_cells_13

set_option maxHeartbeats 4000000 in
set_option maxRecDepth 100000 in
theorem mX6_lines (l : Launch) (D : va_G) (G : Nat → ClassId) (mo sa be ke te kn ty : Nat) (ik : Bool) (n tn k : Nat) (N Z S P V : Nat → Int32) (F : Nat → Nat → Int32) (po rd al : Int32) (hn : n = 3 ∨ n = 4) : CT l yX6_lines wsX6_lines 0 0 D G [.ref mo] [(mo, .inr (6, [.ref sa, .ref be, .int (nI kn), .ref ke, .int (zB ik), .ref te, .int (nI ty)])), (sa, .inl (G 0, 117, .inl (enc n N Z tn po rd al k S P V F)))] [(mo, .inr (6, [.ref sa, .ref be, .int (nI kn), .ref ke, .int (zB ik), .ref te, .int (nI ty)])), (sa, .inl (G 0, 117, .inl (enc n N Z tn po rd al k S P V F)))] (some (.int (nI (2 * n + 2)))) := by
  refine CT.of (cc := cX6_lines) (maxL := 1) (ret := (some .int)) (by decide) rfl RX6 rfl (Nat.le_of_ble_eq_true rfl) (fun pp ee s mm bl me cc A ls hx hb hr hml hts hown hlk hnm hA hP hK hD hN hS hl => ?_)
  have hl : lv_has ls 1 [(0, .ref mo)] := hl
  have hP : va_P D vwCl [(mo, .inr (6, [.ref sa, .ref be, .int (nI kn), .ref ke, .int (zB ik), .ref te, .int (nI ty)])), (sa, .inl (G 0, 117, .inl (enc n N Z tn po rd al k S P V F)))] s.heap := hP
  have inX6 : ∀ w ∈ wsX60, w ∈ wsX6_lines := fun w h => List.mem_cons_of_mem _ (List.mem_append_right _ h)
  have k7 := hts (.fieldLink RX6 7 "SquareStakesModel" "s" "[I") (List.mem_of_getElem? (i := 1) rfl)
  refine lv_iconst (v := nI 2) hx hb dX6_lines_0 (by decide +kernel) ?_
  refine lv_aload_n hx hb dX6_lines_1 rfl (lv_at hl 0 rfl) ?_
  refine va_get (D := D) (ci := 6) (v := .ref sa) (C := RX6) (T := TX6) (N := 7) hx hb hts inX6 hown hK hP 0 rfl rfl 0 (by decide) k7 (fun _ h9 => h9) rfl dX6_lines_2 ?_
  refine lv_iconst (v := nI 0) hx hb dX6_lines_5 (by decide +kernel) ?_
  refine rIald hx hb hK hP 1 rfl 0 (by omega) (by decide) dX6_lines_6 ?_
  refine rTop (show enc n N Z tn po rd al k S P V F 0 = nI n from rfl) ?_
  refine lv_imul hx hb dX6_lines_7 ?_
  refine rTop (show nI 2 * nI n = nI (2 * n) from pk_mul 2 n) ?_
  refine lv_iconst (v := nI 2) hx hb dX6_lines_8 (by decide +kernel) ?_
  refine lv_iadd hx hb dX6_lines_9 ?_
  refine rTop (show nI (2 * n) + nI 2 = nI (2 * n + 2) from nI_add (2 * n) 2) ?_
  exact rIret hx hb hr hlk hP hK hD hS dX6_lines_10

set_option maxHeartbeats 4000000 in
set_option maxRecDepth 100000 in
theorem mX6_isCell (l : Launch) (D : va_G) (G : Nat → ClassId) (mo sa be ke te kn ty : Nat) (ik : Bool) (n tn k : Nat) (N Z S P V : Nat → Int32) (F : Nat → Nat → Int32) (po rd al : Int32) (x : Int32) (hn : n = 3 ∨ n = 4) : CT l yX6_isCell wsX6_isCell 1 22 D G [.ref mo, .int x] [(mo, .inr (6, [.ref sa, .ref be, .int (nI kn), .ref ke, .int (zB ik), .ref te, .int (nI ty)])), (sa, .inl (G 0, 117, .inl (enc n N Z tn po rd al k S P V F)))] [(mo, .inr (6, [.ref sa, .ref be, .int (nI kn), .ref ke, .int (zB ik), .ref te, .int (nI ty)])), (sa, .inl (G 0, 117, .inl (enc n N Z tn po rd al k S P V F)))] (some (.int (zB (inB x (n * n))))) := by
  refine CT.of (cc := cX6_isCell) (maxL := 2) (ret := (some .boolean)) (by decide) rfl RX6 rfl (Nat.le_of_ble_eq_true rfl) (fun pp ee s mm bl me cc A ls hx hb hr hml hts hown hlk hnm hA hP hK hD hN hS hl => ?_)
  have hl : lv_has ls 2 [(0, .ref mo), (1, .int x)] := hl
  have hP : va_P D vwCl [(mo, .inr (6, [.ref sa, .ref be, .int (nI kn), .ref ke, .int (zB ik), .ref te, .int (nI ty)])), (sa, .inl (G 0, 117, .inl (enc n N Z tn po rd al k S P V F)))] s.heap := hP
  have hq9 : n * n < 17 ∧ 0 < n * n := by rcases hn with rfl | rfl <;> decide
  refine lv_iload_n hx hb dX6_isCell_0 rfl (lv_at hl 1 rfl) ?_
  refine lv_iconst (v := nI 0) hx hb dX6_isCell_1 (by decide +kernel) ?_
  refine lv_aload_n hx hb dX6_isCell_2 rfl (lv_at hl 0 rfl) ?_
  refine cVr (As := []) (rest := [.int (nI 0), .int x]) ⟨hx, hb, hml, hown, hts⟩ hP hK hD hS hN hA (mX6_cells l D G mo sa be ke te kn ty ik n tn k N Z S P V F po rd al (by first | assumption | omega)) (cwV 0 hts gX6_isCell_X6_cells rfl rfl rfl (by decide +kernel) ⟨Nat.le_of_ble_eq_true rfl, Nat.le_of_ble_eq_true rfl⟩) [0, 1] rfl (by decide) 0 6 rfl rfl rfl hl.1 rfl (Nat.le_of_ble_eq_true rfl) dX6_isCell_3 ⟨Nat.zero_le _, Nat.zero_le _⟩ (fun H locs hP hS => ?_)
  refine lv_iconst (v := nI 1) hx hb dX6_isCell_6 (by decide +kernel) ?_
  refine lv_isub hx hb dX6_isCell_7 ?_
  refine rTop (show nI (n * n) - nI 1 = nI (n * n - 1) from pk_sub (by omega)) ?_
  refine cSr (As := [.int x, .int (nI 0), .int (nI (n * n - 1))]) (rest := []) ⟨hx, hb, hml, hown, hts⟩ hP hK hD hS hN hA (mX6_in l D G x (nI 0) (nI (n * n - 1)) ) (cwS 3 hts gX6_isCell_X6_in rfl rfl rfl (by decide +kernel) ⟨Nat.le_of_ble_eq_true rfl, Nat.le_of_ble_eq_true rfl⟩) [] rfl (by decide) rfl hl.1 rfl (Nat.le_of_ble_eq_true rfl) dX6_isCell_8 ⟨Nat.zero_le _, Nat.zero_le _⟩ (fun H locs hP hS => ?_)
  refine rTop (show zB (rg x (nI 0) (nI (n * n - 1))) = zB (inB x (n * n)) from by rw [rg_inB (by omega) (by omega)]) ?_
  exact rZret hx hb hr hlk hP hK hD hS dX6_isCell_11

set_option maxHeartbeats 4000000 in
set_option maxRecDepth 100000 in
theorem mX6_isLine (l : Launch) (D : va_G) (G : Nat → ClassId) (mo sa be ke te kn ty : Nat) (ik : Bool) (n tn k : Nat) (N Z S P V : Nat → Int32) (F : Nat → Nat → Int32) (po rd al : Int32) (x : Int32) (hn : n = 3 ∨ n = 4) : CT l yX6_isLine wsX6_isLine 1 22 D G [.ref mo, .int x] [(mo, .inr (6, [.ref sa, .ref be, .int (nI kn), .ref ke, .int (zB ik), .ref te, .int (nI ty)])), (sa, .inl (G 0, 117, .inl (enc n N Z tn po rd al k S P V F)))] [(mo, .inr (6, [.ref sa, .ref be, .int (nI kn), .ref ke, .int (zB ik), .ref te, .int (nI ty)])), (sa, .inl (G 0, 117, .inl (enc n N Z tn po rd al k S P V F)))] (some (.int (zB (inB x (2 * n + 2))))) := by
  refine CT.of (cc := cX6_isLine) (maxL := 2) (ret := (some .boolean)) (by decide) rfl RX6 rfl (Nat.le_of_ble_eq_true rfl) (fun pp ee s mm bl me cc A ls hx hb hr hml hts hown hlk hnm hA hP hK hD hN hS hl => ?_)
  have hl : lv_has ls 2 [(0, .ref mo), (1, .int x)] := hl
  have hP : va_P D vwCl [(mo, .inr (6, [.ref sa, .ref be, .int (nI kn), .ref ke, .int (zB ik), .ref te, .int (nI ty)])), (sa, .inl (G 0, 117, .inl (enc n N Z tn po rd al k S P V F)))] s.heap := hP
  refine lv_iload_n hx hb dX6_isLine_0 rfl (lv_at hl 1 rfl) ?_
  refine lv_iconst (v := nI 0) hx hb dX6_isLine_1 (by decide +kernel) ?_
  refine lv_aload_n hx hb dX6_isLine_2 rfl (lv_at hl 0 rfl) ?_
  refine cVr (As := []) (rest := [.int (nI 0), .int x]) ⟨hx, hb, hml, hown, hts⟩ hP hK hD hS hN hA (mX6_lines l D G mo sa be ke te kn ty ik n tn k N Z S P V F po rd al (by first | assumption | omega)) (cwV 0 hts gX6_isLine_X6_lines rfl rfl rfl (by decide +kernel) ⟨Nat.le_of_ble_eq_true rfl, Nat.le_of_ble_eq_true rfl⟩) [0, 1] rfl (by decide) 0 6 rfl rfl rfl hl.1 rfl (Nat.le_of_ble_eq_true rfl) dX6_isLine_3 ⟨Nat.zero_le _, Nat.zero_le _⟩ (fun H locs hP hS => ?_)
  refine lv_iconst (v := nI 1) hx hb dX6_isLine_6 (by decide +kernel) ?_
  refine lv_isub hx hb dX6_isLine_7 ?_
  refine rTop (show nI (2 * n + 2) - nI 1 = nI (2 * n + 2 - 1) from pk_sub (by omega)) ?_
  refine cSr (As := [.int x, .int (nI 0), .int (nI (2 * n + 2 - 1))]) (rest := []) ⟨hx, hb, hml, hown, hts⟩ hP hK hD hS hN hA (mX6_in l D G x (nI 0) (nI (2 * n + 2 - 1)) ) (cwS 3 hts gX6_isLine_X6_in rfl rfl rfl (by decide +kernel) ⟨Nat.le_of_ble_eq_true rfl, Nat.le_of_ble_eq_true rfl⟩) [] rfl (by decide) rfl hl.1 rfl (Nat.le_of_ble_eq_true rfl) dX6_isLine_8 ⟨Nat.zero_le _, Nat.zero_le _⟩ (fun H locs hP hS => ?_)
  refine rTop (show zB (rg x (nI 0) (nI (2 * n + 2 - 1))) = zB (inB x (2 * n + 2)) from by rw [rg_inB (by omega) (by omega)]) ?_
  exact rZret hx hb hr hlk hP hK hD hS dX6_isLine_11

set_option maxHeartbeats 4000000 in
set_option maxRecDepth 100000 in
theorem mX6_isOn (l : Launch) (D : va_G) (G : Nat → ClassId) (mo sa be ke te kn ty : Nat) (ik : Bool) (n tn k : Nat) (N Z S P V : Nat → Int32) (F : Nat → Nat → Int32) (po rd al : Int32) (L q : Nat) (hn : n = 3 ∨ n = 4) (hL : L < 2 * n + 2) (hq : q < n * n) : CT l yX6_isOn wsX6_isOn 0 0 D G [.ref mo, .int (nI L), .int (nI q)] [(mo, .inr (6, [.ref sa, .ref be, .int (nI kn), .ref ke, .int (zB ik), .ref te, .int (nI ty)])), (sa, .inl (G 0, 117, .inl (enc n N Z tn po rd al k S P V F)))] [(mo, .inr (6, [.ref sa, .ref be, .int (nI kn), .ref ke, .int (zB ik), .ref te, .int (nI ty)])), (sa, .inl (G 0, 117, .inl (enc n N Z tn po rd al k S P V F)))] (some (.int (zB (isOn n L q)))) := by
  refine CT.of (cc := cX6_isOn) (maxL := 6) (ret := (some .boolean)) (by decide) rfl RX6 rfl (Nat.le_of_ble_eq_true rfl) (fun pp ee s mm bl me cc A ls hx hb hr hml hts hown hlk hnm hA hP hK hD hN hS hl => ?_)
  have hl : lv_has ls 6 [(0, .ref mo), (1, .int (nI L)), (2, .int (nI q))] := hl
  have hP : va_P D vwCl [(mo, .inr (6, [.ref sa, .ref be, .int (nI kn), .ref ke, .int (zB ik), .ref te, .int (nI ty)])), (sa, .inl (G 0, 117, .inl (enc n N Z tn po rd al k S P V F)))] s.heap := hP
  have inX6 : ∀ w ∈ wsX60, w ∈ wsX6_isOn := fun w h => List.mem_cons_of_mem _ (List.mem_append_right _ h)
  have k7 := hts (.fieldLink RX6 7 "SquareStakesModel" "s" "[I") (List.mem_of_getElem? (i := 1) rfl)
  have hq9 : n * n < 17 ∧ 0 < n * n := by rcases hn with rfl | rfl <;> decide
  have hd1 := Nat.div_le_self q n
  have hd2 := Nat.mod_le q n
  refine lv_aload_n hx hb dX6_isOn_0 rfl (lv_at hl 0 rfl) ?_
  refine va_get (D := D) (ci := 6) (v := .ref sa) (C := RX6) (T := TX6) (N := 7) hx hb hts inX6 hown hK hP 0 rfl rfl 0 (by decide) k7 (fun _ h9 => h9) rfl dX6_isOn_1 ?_
  refine lv_iconst (v := nI 0) hx hb dX6_isOn_4 (by decide +kernel) ?_
  refine rIald hx hb hK hP 1 rfl 0 (by omega) (by decide) dX6_isOn_5 ?_
  refine rTop (show enc n N Z tn po rd al k S P V F 0 = nI n from rfl) ?_
  refine lv_istore_n (lv' := [(3, .int (nI n)), (0, .ref mo), (1, .int (nI L)), (2, .int (nI q))]) hx hb dX6_isOn_6 rfl hl (by decide) rfl (fun ls hl => ?_)
  refine lv_iload_n hx hb dX6_isOn_7 rfl (lv_at hl 3 rfl) ?_
  refine lv_iload_n hx hb dX6_isOn_8 rfl (lv_at hl 0 rfl) ?_
  refine lv_idiv hx hb dX6_isOn_9 (nI_ne0 (by omega) (by omega)) ?_
  refine rTop (pk_div (a := q) (d := n) (by omega) (by omega) (by omega)) ?_
  refine lv_istore (lv' := [(4, .int (nI (q / n))), (3, .int (nI n)), (0, .ref mo), (1, .int (nI L)), (2, .int (nI q))]) hx hb dX6_isOn_10 hl (by decide) rfl (fun ls hl => ?_)
  refine lv_iload_n hx hb dX6_isOn_12 rfl (lv_at hl 4 rfl) ?_
  refine lv_iload_n hx hb dX6_isOn_13 rfl (lv_at hl 1 rfl) ?_
  refine lv_irem hx hb dX6_isOn_14 (nI_ne0 (by omega) (by omega)) ?_
  refine rTop (pk_rem (a := q) (d := n) (by omega) (by omega) (by omega)) ?_
  refine lv_istore (lv' := [(5, .int (nI (q % n))), (4, .int (nI (q / n))), (3, .int (nI n)), (0, .ref mo), (1, .int (nI L)), (2, .int (nI q))]) hx hb dX6_isOn_15 hl (by decide) rfl (fun ls hl => ?_)
  refine lv_iload_n hx hb dX6_isOn_17 rfl (lv_at hl 4 rfl) ?_
  refine lv_iload_n hx hb dX6_isOn_18 rfl (lv_at hl 2 rfl) ?_
  refine bGe (tgt := 36) hx hb dX6_isOn_19 (by decide) (by omega) (by omega) (fun c1 => ?_) (fun c1 => ?_)
  · refine lv_iload_n hx hb dX6_isOn_36 rfl (lv_at hl 4 rfl) ?_
    refine lv_iconst (v := nI 2) hx hb dX6_isOn_37 (by decide +kernel) ?_
    refine lv_iload_n hx hb dX6_isOn_38 rfl (lv_at hl 2 rfl) ?_
    refine lv_imul hx hb dX6_isOn_39 ?_
    refine rTop (show nI 2 * nI n = nI (2 * n) from pk_mul 2 n) ?_
    refine bGe (tgt := 59) hx hb dX6_isOn_40 (by decide) (by omega) (by omega) (fun c2 => ?_) (fun c2 => ?_)
    · refine lv_iload_n hx hb dX6_isOn_59 rfl (lv_at hl 4 rfl) ?_
      refine lv_iconst (v := nI 2) hx hb dX6_isOn_60 (by decide +kernel) ?_
      refine lv_iload_n hx hb dX6_isOn_61 rfl (lv_at hl 2 rfl) ?_
      refine lv_imul hx hb dX6_isOn_62 ?_
      refine rTop (show nI 2 * nI n = nI (2 * n) from pk_mul 2 n) ?_
      refine bNe (tgt := 81) hx hb dX6_isOn_63 (by decide) (by omega) (by omega) (fun c3 => ?_) (fun c3 => ?_)
      · refine lv_iload hx hb dX6_isOn_81 (lv_at hl 1 rfl) ?_
        refine lv_iload hx hb dX6_isOn_83 (lv_at hl 0 rfl) ?_
        refine lv_iadd hx hb dX6_isOn_85 ?_
        refine rTop (show nI (q / n) + nI (q % n) = nI (q / n + q % n) from nI_add (q / n) (q % n)) ?_
        refine lv_iload_n hx hb dX6_isOn_86 rfl (lv_at hl 2 rfl) ?_
        refine lv_iconst (v := nI 1) hx hb dX6_isOn_87 (by decide +kernel) ?_
        refine lv_isub hx hb dX6_isOn_88 ?_
        refine rTop (show nI n - nI 1 = nI (n - 1) from pk_sub (by omega)) ?_
        refine bNe (tgt := 96) hx hb dX6_isOn_89 (by decide) (by omega) (by omega) (fun c4 => ?_) (fun c4 => ?_)
        · refine lv_iconst (v := nI 0) hx hb dX6_isOn_96 (by decide +kernel) ?_
          refine rTop (zB_0 (b := isOn n L q) (by unfold isOn; split <;> first | (exfalso; omega) | exact decide_eq_true (by omega) | exact decide_eq_false (by omega) | (split <;> first | (exfalso; omega) | exact decide_eq_true (by omega) | exact decide_eq_false (by omega) | (split <;> first | (exfalso; omega) | exact decide_eq_true (by omega) | exact decide_eq_false (by omega))))) ?_
          exact rZret hx hb hr hlk hP hK hD hS dX6_isOn_97
        · refine lv_iconst (v := nI 1) hx hb dX6_isOn_92 (by decide +kernel) ?_
          refine lv_goto (tgt := 97) hx hb dX6_isOn_93 (by decide) ?_
          refine rTop (zB_1 (b := isOn n L q) (by unfold isOn; split <;> first | (exfalso; omega) | exact decide_eq_true (by omega) | exact decide_eq_false (by omega) | (split <;> first | (exfalso; omega) | exact decide_eq_true (by omega) | exact decide_eq_false (by omega) | (split <;> first | (exfalso; omega) | exact decide_eq_true (by omega) | exact decide_eq_false (by omega))))) ?_
          exact rZret hx hb hr hlk hP hK hD hS dX6_isOn_97
      · refine lv_iload hx hb dX6_isOn_66 (lv_at hl 1 rfl) ?_
        refine lv_iload hx hb dX6_isOn_68 (lv_at hl 0 rfl) ?_
        refine bNe (tgt := 77) hx hb dX6_isOn_70 (by decide) (by omega) (by omega) (fun c5 => ?_) (fun c5 => ?_)
        · refine lv_iconst (v := nI 0) hx hb dX6_isOn_77 (by decide +kernel) ?_
          refine lv_goto (tgt := 97) hx hb dX6_isOn_78 (by decide) ?_
          refine rTop (zB_0 (b := isOn n L q) (by unfold isOn; split <;> first | (exfalso; omega) | exact decide_eq_true (by omega) | exact decide_eq_false (by omega) | (split <;> first | (exfalso; omega) | exact decide_eq_true (by omega) | exact decide_eq_false (by omega) | (split <;> first | (exfalso; omega) | exact decide_eq_true (by omega) | exact decide_eq_false (by omega))))) ?_
          exact rZret hx hb hr hlk hP hK hD hS dX6_isOn_97
        · refine lv_iconst (v := nI 1) hx hb dX6_isOn_73 (by decide +kernel) ?_
          refine lv_goto (tgt := 97) hx hb dX6_isOn_74 (by decide) ?_
          refine rTop (zB_1 (b := isOn n L q) (by unfold isOn; split <;> first | (exfalso; omega) | exact decide_eq_true (by omega) | exact decide_eq_false (by omega) | (split <;> first | (exfalso; omega) | exact decide_eq_true (by omega) | exact decide_eq_false (by omega) | (split <;> first | (exfalso; omega) | exact decide_eq_true (by omega) | exact decide_eq_false (by omega))))) ?_
          exact rZret hx hb hr hlk hP hK hD hS dX6_isOn_97
    · refine lv_iload hx hb dX6_isOn_43 (lv_at hl 0 rfl) ?_
      refine lv_iload_n hx hb dX6_isOn_45 rfl (lv_at hl 4 rfl) ?_
      refine lv_iload_n hx hb dX6_isOn_46 rfl (lv_at hl 2 rfl) ?_
      refine lv_isub hx hb dX6_isOn_47 ?_
      refine rTop (show nI L - nI n = nI (L - n) from pk_sub (by omega)) ?_
      refine bNe (tgt := 55) hx hb dX6_isOn_48 (by decide) (by omega) (by omega) (fun c6 => ?_) (fun c6 => ?_)
      · refine lv_iconst (v := nI 0) hx hb dX6_isOn_55 (by decide +kernel) ?_
        refine lv_goto (tgt := 97) hx hb dX6_isOn_56 (by decide) ?_
        refine rTop (zB_0 (b := isOn n L q) (by unfold isOn; split <;> first | (exfalso; omega) | exact decide_eq_true (by omega) | exact decide_eq_false (by omega) | (split <;> first | (exfalso; omega) | exact decide_eq_true (by omega) | exact decide_eq_false (by omega) | (split <;> first | (exfalso; omega) | exact decide_eq_true (by omega) | exact decide_eq_false (by omega))))) ?_
        exact rZret hx hb hr hlk hP hK hD hS dX6_isOn_97
      · refine lv_iconst (v := nI 1) hx hb dX6_isOn_51 (by decide +kernel) ?_
        refine lv_goto (tgt := 97) hx hb dX6_isOn_52 (by decide) ?_
        refine rTop (zB_1 (b := isOn n L q) (by unfold isOn; split <;> first | (exfalso; omega) | exact decide_eq_true (by omega) | exact decide_eq_false (by omega) | (split <;> first | (exfalso; omega) | exact decide_eq_true (by omega) | exact decide_eq_false (by omega) | (split <;> first | (exfalso; omega) | exact decide_eq_true (by omega) | exact decide_eq_false (by omega))))) ?_
        exact rZret hx hb hr hlk hP hK hD hS dX6_isOn_97
  · refine lv_iload hx hb dX6_isOn_22 (lv_at hl 1 rfl) ?_
    refine lv_iload_n hx hb dX6_isOn_24 rfl (lv_at hl 4 rfl) ?_
    refine bNe (tgt := 32) hx hb dX6_isOn_25 (by decide) (by omega) (by omega) (fun c7 => ?_) (fun c7 => ?_)
    · refine lv_iconst (v := nI 0) hx hb dX6_isOn_32 (by decide +kernel) ?_
      refine lv_goto (tgt := 97) hx hb dX6_isOn_33 (by decide) ?_
      refine rTop (zB_0 (b := isOn n L q) (by unfold isOn; split <;> first | (exfalso; omega) | exact decide_eq_true (by omega) | exact decide_eq_false (by omega) | (split <;> first | (exfalso; omega) | exact decide_eq_true (by omega) | exact decide_eq_false (by omega) | (split <;> first | (exfalso; omega) | exact decide_eq_true (by omega) | exact decide_eq_false (by omega))))) ?_
      exact rZret hx hb hr hlk hP hK hD hS dX6_isOn_97
    · refine lv_iconst (v := nI 1) hx hb dX6_isOn_28 (by decide +kernel) ?_
      refine lv_goto (tgt := 97) hx hb dX6_isOn_29 (by decide) ?_
      refine rTop (zB_1 (b := isOn n L q) (by unfold isOn; split <;> first | (exfalso; omega) | exact decide_eq_true (by omega) | exact decide_eq_false (by omega) | (split <;> first | (exfalso; omega) | exact decide_eq_true (by omega) | exact decide_eq_false (by omega) | (split <;> first | (exfalso; omega) | exact decide_eq_true (by omega) | exact decide_eq_false (by omega))))) ?_
      exact rZret hx hb hr hlk hP hK hD hS dX6_isOn_97

set_option maxHeartbeats 4000000 in
set_option maxRecDepth 100000 in
theorem mX6_sum (l : Launch) (D : va_G) (G : Nat → ClassId) (mo sa be ke te kn ty : Nat) (ik : Bool) (n tn k : Nat) (N Z S P V : Nat → Int32) (F : Nat → Nat → Int32) (po rd al : Int32) (L : Nat) (hn : n = 3 ∨ n = 4) (hL : L < 2 * n + 2) : CT l yX6_sum wsX6_sum 1 25 D G [.ref mo, .int (nI L)] [(mo, .inr (6, [.ref sa, .ref be, .int (nI kn), .ref ke, .int (zB ik), .ref te, .int (nI ty)])), (sa, .inl (G 0, 117, .inl (enc n N Z tn po rd al k S P V F)))] [(mo, .inr (6, [.ref sa, .ref be, .int (nI kn), .ref ke, .int (zB ik), .ref te, .int (nI ty)])), (sa, .inl (G 0, 117, .inl (enc n N Z tn po rd al k S P V F)))] (some (.int (sL n N L))) := by
  refine CT.of (cc := cX6_sum) (maxL := 4) (ret := (some .int)) (by decide) rfl RX6 rfl (Nat.le_of_ble_eq_true rfl) (fun pp ee s mm bl me cc A ls hx hb hr hml hts hown hlk hnm hA hP hK hD hN hS hl => ?_)
  have hl : lv_has ls 4 [(0, .ref mo), (1, .int (nI L))] := hl
  have hP : va_P D vwCl [(mo, .inr (6, [.ref sa, .ref be, .int (nI kn), .ref ke, .int (zB ik), .ref te, .int (nI ty)])), (sa, .inl (G 0, 117, .inl (enc n N Z tn po rd al k S P V F)))] s.heap := hP
  have inX6 : ∀ w ∈ wsX60, w ∈ wsX6_sum := fun w h => List.mem_cons_of_mem _ (List.mem_append_right _ h)
  have k7 := hts (.fieldLink RX6 7 "SquareStakesModel" "s" "[I") (List.mem_of_getElem? (i := 1) rfl)
  have hq9 : n * n < 17 ∧ 0 < n * n := by rcases hn with rfl | rfl <;> decide
  refine lv_iconst (v := nI 0) hx hb dX6_sum_0 (by decide +kernel) ?_
  refine lv_istore_n (lv' := [(2, .int (nI 0)), (0, .ref mo), (1, .int (nI L))]) hx hb dX6_sum_1 rfl hl (by decide) rfl (fun ls hl => ?_)
  refine lv_iconst (v := nI 0) hx hb dX6_sum_2 (by decide +kernel) ?_
  refine lv_istore_n (lv' := [(3, .int (nI 0)), (2, .int (nI 0)), (0, .ref mo), (1, .int (nI L))]) hx hb dX6_sum_3 rfl hl (by decide) rfl (fun ls hl => ?_)
  have LP4 : ∀ (nn4 k_ : Nat), k_ ≤ (n * n) → (n * n) < k_ + nn4  → ∀ (H : Heap) (locs : List Loc), va_P D vwCl [(mo, .inr (6, [.ref sa, .ref be, .int (nI kn), .ref ke, .int (zB ik), .ref te, .int (nI ty)])), (sa, .inl (G 0, 117, .inl (enc n N Z tn po rd al k S P V F)))] H → va_D A [(mo, .inr (6, [.ref sa, .ref be, .int (nI kn), .ref ke, .int (zB ik), .ref te, .int (nI ty)])), (sa, .inl (G 0, 117, .inl (enc n N Z tn po rd al k S P V F)))] → va_S A s.heap H locs → ∀ ls : Array Slot, lv_has ls 4 [(2, .int (sc n N L k_)), (3, .int (nI k_)), (0, .ref mo), (1, .int (nI L))] → W pp l ee (rmA 1 25) s mm ([.ref mo, .int (nI L)] : List Value).toArray bl me cc H locs 0 0 (MQ bl (Qres (some (.int (sL n N L))) D G [(mo, .inr (6, [.ref sa, .ref be, .int (nI kn), .ref ke, .int (zB ik), .ref te, .int (nI ty)])), (sa, .inl (G 0, 117, .inl (enc n N Z tn po rd al k S P V F)))] A) ([.ref mo, .int (nI L)] : List Value).toArray s 0 0 A) (F0 mm 4 ls []) := by
    intro nn4
    induction nn4 with
    | zero => intro k_ h1 h2; exact absurd h2 (by omega)
    | succ nn4 ih4 =>
      intro k_ hkk_ hnk_  H locs hP hD hS ls hl
      refine lv_iload_n hx hb dX6_sum_4 rfl (lv_at hl 1 rfl) ?_
      refine lv_aload_n hx hb dX6_sum_5 rfl (lv_at hl 2 rfl) ?_
      refine cVr (As := []) (rest := [.int (nI k_)]) ⟨hx, hb, hml, hown, hts⟩ hP hK hD hS hN hA (mX6_cells l D G mo sa be ke te kn ty ik n tn k N Z S P V F po rd al (by first | assumption | omega)) (cwV 0 hts gX6_sum_X6_cells rfl rfl rfl (by decide +kernel) ⟨Nat.le_of_ble_eq_true rfl, Nat.le_of_ble_eq_true rfl⟩) [0, 1] rfl (by decide) 0 6 rfl rfl rfl hl.1 rfl (Nat.le_of_ble_eq_true rfl) dX6_sum_6 ⟨Nat.zero_le _, Nat.zero_le _⟩ (fun H locs hP hS => ?_)
      refine bGe (tgt := 43) hx hb dX6_sum_9 (by decide) (by omega) (by omega) (fun c1 => ?_) (fun c1 => ?_)
      · obtain rfl : n * n = k_ := by omega
        refine lv_iload_n hx hb dX6_sum_43 rfl (lv_at hl 0 rfl) ?_
        refine rTop (show sc n N L (n * n) = sL n N L from sc_all hn N hL) ?_
        exact rIret hx hb hr hlk hP hK hD hS dX6_sum_44
      · refine lv_iload_n hx hb dX6_sum_12 rfl (lv_at hl 0 rfl) ?_
        refine lv_aload_n hx hb dX6_sum_13 rfl (lv_at hl 2 rfl) ?_
        refine lv_iload_n hx hb dX6_sum_14 rfl (lv_at hl 3 rfl) ?_
        refine lv_iload_n hx hb dX6_sum_15 rfl (lv_at hl 1 rfl) ?_
        refine cVr (As := [.int (nI L), .int (nI k_)]) (rest := [.int (sc n N L k_)]) ⟨hx, hb, hml, hown, hts⟩ hP hK hD hS hN hA (mX6_isOn l D G mo sa be ke te kn ty ik n tn k N Z S P V F po rd al L k_ (by first | assumption | omega) (by first | assumption | omega) (by first | assumption | omega)) (cwV 2 hts gX6_sum_X6_isOn rfl rfl rfl (by decide +kernel) ⟨Nat.le_of_ble_eq_true rfl, Nat.le_of_ble_eq_true rfl⟩) [0, 1] rfl (by decide) 0 6 rfl rfl rfl hl.1 rfl (Nat.le_of_ble_eq_true rfl) dX6_sum_16 ⟨Nat.zero_le _, Nat.zero_le _⟩ (fun H locs hP hS => ?_)
        refine zEq (tgt := 34) hx hb dX6_sum_19 (by decide)  (fun c2 => ?_) (fun c2 => ?_)
        · refine lv_iconst (v := nI 0) hx hb dX6_sum_34 (by decide +kernel) ?_
          refine lv_iadd hx hb dX6_sum_35 ?_
          refine rTop (show (sc n N L k_ + nI 0) = sc n N L (k_ + 1) from by first | rw [sc_t (by assumption)] | rw [sc_f (by assumption)]) ?_
          refine lv_istore_n (lv' := [(2, .int (sc n N L (k_ + 1))), (3, .int (nI k_)), (0, .ref mo), (1, .int (nI L))]) hx hb dX6_sum_36 rfl hl (by decide) rfl (fun ls hl => ?_)
          refine lv_iinc (v := nI (k_ + 1)) (lv' := [(3, .int (nI (k_ + 1))), (2, .int (sc n N L (k_ + 1))), (0, .ref mo), (1, .int (nI L))]) hx hb dX6_sum_37 hl (k := 1) rfl (nI_inc k_) (by decide) rfl (fun ls hl => ?_)
          refine lv_goto (tgt := 4) hx hb dX6_sum_40 (by decide) ?_
          exact ih4 (k_ + 1) (by omega) (by omega)  _ _ hP hD hS _ (lv_sub hl [1, 0, 2, 3] rfl)
        · refine lv_aload_n hx hb dX6_sum_22 rfl (lv_at hl 2 rfl) ?_
          refine va_get (D := D) (ci := 6) (v := .ref sa) (C := RX6) (T := TX6) (N := 7) hx hb hts inX6 hown hK hP 0 rfl rfl 0 (by decide) k7 (fun _ h9 => h9) rfl dX6_sum_23 ?_
          refine lv_bipush (v := nI 15) hx hb dX6_sum_26 (by decide +kernel) ?_
          refine lv_iload_n hx hb dX6_sum_28 rfl (lv_at hl 1 rfl) ?_
          refine lv_iadd hx hb dX6_sum_29 ?_
          refine rTop (show nI 15 + nI k_ = nI (15 + k_) from nI_add 15 k_) ?_
          refine rIald hx hb hK hP 1 rfl (15 + k_) (by omega) (by decide) dX6_sum_30 ?_
          refine rTop (enc_N n N Z tn po rd al k S P V F k_ (by omega)) ?_
          refine lv_goto (tgt := 35) hx hb dX6_sum_31 (by decide) ?_
          refine lv_iadd hx hb dX6_sum_35 ?_
          refine rTop (show (sc n N L k_ + N k_) = sc n N L (k_ + 1) from by first | rw [sc_t (by assumption)] | rw [sc_f (by assumption)]) ?_
          refine lv_istore_n (lv' := [(2, .int (sc n N L (k_ + 1))), (3, .int (nI k_)), (0, .ref mo), (1, .int (nI L))]) hx hb dX6_sum_36 rfl hl (by decide) rfl (fun ls hl => ?_)
          refine lv_iinc (v := nI (k_ + 1)) (lv' := [(3, .int (nI (k_ + 1))), (2, .int (sc n N L (k_ + 1))), (0, .ref mo), (1, .int (nI L))]) hx hb dX6_sum_37 hl (k := 1) rfl (nI_inc k_) (by decide) rfl (fun ls hl => ?_)
          refine lv_goto (tgt := 4) hx hb dX6_sum_40 (by decide) ?_
          exact ih4 (k_ + 1) (by omega) (by omega)  _ _ hP hD hS _ (lv_sub hl [1, 0, 2, 3] rfl)
  exact LP4 (n * n + 1 - 0) 0 (by omega) (by omega)  _ _ hP hD hS _ (lv_sub hl [1, 0, 2, 3] rfl)

set_option maxHeartbeats 4000000 in
set_option maxRecDepth 100000 in
theorem mX6_magic (l : Launch) (D : va_G) (G : Nat → ClassId) (mo sa be ke te kn ty : Nat) (ik : Bool) (n tn k : Nat) (N Z S P V : Nat → Int32) (F : Nat → Nat → Int32) (po rd al : Int32) (hn : n = 3 ∨ n = 4) : CT l yX6_magic wsX6_magic 1 20 D G [.ref mo] [(mo, .inr (6, [.ref sa, .ref be, .int (nI kn), .ref ke, .int (zB ik), .ref te, .int (nI ty)])), (sa, .inl (G 0, 117, .inl (enc n N Z tn po rd al k S P V F)))] [(mo, .inr (6, [.ref sa, .ref be, .int (nI kn), .ref ke, .int (zB ik), .ref te, .int (nI ty)])), (sa, .inl (G 0, 117, .inl (enc n N Z tn po rd al k S P V F)))] (some (.int (nI (mgN n)))) := by
  refine CT.of (cc := cX6_magic) (maxL := 1) (ret := (some .int)) (by decide) rfl RX6 rfl (Nat.le_of_ble_eq_true rfl) (fun pp ee s mm bl me cc A ls hx hb hr hml hts hown hlk hnm hA hP hK hD hN hS hl => ?_)
  have hl : lv_has ls 1 [(0, .ref mo)] := hl
  have hP : va_P D vwCl [(mo, .inr (6, [.ref sa, .ref be, .int (nI kn), .ref ke, .int (zB ik), .ref te, .int (nI ty)])), (sa, .inl (G 0, 117, .inl (enc n N Z tn po rd al k S P V F)))] s.heap := hP
  have inX6 : ∀ w ∈ wsX60, w ∈ wsX6_magic := fun w h => List.mem_cons_of_mem _ (List.mem_append_right _ h)
  have k7 := hts (.fieldLink RX6 7 "SquareStakesModel" "s" "[I") (List.mem_of_getElem? (i := 1) rfl)
  have hq : n * (n * n + 1) < 100 := by rcases hn with rfl | rfl <;> decide
  refine lv_aload_n hx hb dX6_magic_0 rfl (lv_at hl 0 rfl) ?_
  refine va_get (D := D) (ci := 6) (v := .ref sa) (C := RX6) (T := TX6) (N := 7) hx hb hts inX6 hown hK hP 0 rfl rfl 0 (by decide) k7 (fun _ h9 => h9) rfl dX6_magic_1 ?_
  refine lv_iconst (v := nI 0) hx hb dX6_magic_4 (by decide +kernel) ?_
  refine rIald hx hb hK hP 1 rfl 0 (by omega) (by decide) dX6_magic_5 ?_
  refine rTop (show enc n N Z tn po rd al k S P V F 0 = nI n from rfl) ?_
  refine lv_aload_n hx hb dX6_magic_6 rfl (lv_at hl 0 rfl) ?_
  refine cVr (As := []) (rest := [.int (nI n)]) ⟨hx, hb, hml, hown, hts⟩ hP hK hD hS hN hA (mX6_cells l D G mo sa be ke te kn ty ik n tn k N Z S P V F po rd al (by first | assumption | omega)) (cwV 0 hts gX6_magic_X6_cells rfl rfl rfl (by decide +kernel) ⟨Nat.le_of_ble_eq_true rfl, Nat.le_of_ble_eq_true rfl⟩) [0, 1] rfl (by decide) 0 6 rfl rfl rfl hl.1 rfl (Nat.le_of_ble_eq_true rfl) dX6_magic_7 ⟨Nat.zero_le _, Nat.zero_le _⟩ (fun H locs hP hS => ?_)
  refine lv_iconst (v := nI 1) hx hb dX6_magic_10 (by decide +kernel) ?_
  refine lv_iadd hx hb dX6_magic_11 ?_
  refine rTop (show nI (n * n) + nI 1 = nI (n * n + 1) from nI_add (n * n) 1) ?_
  refine lv_imul hx hb dX6_magic_12 ?_
  refine rTop (show nI n * nI (n * n + 1) = nI (n * (n * n + 1)) from pk_mul n (n * n + 1)) ?_
  refine lv_iconst (v := nI 2) hx hb dX6_magic_13 (by decide +kernel) ?_
  refine lv_idiv hx hb dX6_magic_14 (nI_ne0 (by omega) (by omega)) ?_
  refine rTop (pk_div (a := n * (n * n + 1)) (d := 2) (by omega) (by omega) (by omega)) ?_
  refine rTop (show nI ((n * (n * n + 1)) / 2) = nI (mgN n) from rfl) ?_
  exact rIret hx hb hr hlk hP hK hD hS dX6_magic_15

set_option maxHeartbeats 4000000 in
set_option maxRecDepth 100000 in
theorem mX6_off (l : Launch) (D : va_G) (G : Nat → ClassId) (mo sa be ke te kn ty : Nat) (ik : Bool) (n tn k : Nat) (N Z S P V : Nat → Int32) (F : Nat → Nat → Int32) (po rd al : Int32) (L : Nat) (hn : n = 3 ∨ n = 4) (hL : L < 2 * n + 2) : CT l yX6_off wsX6_off 2 48 D G [.ref mo, .int (nI L)] [(mo, .inr (6, [.ref sa, .ref be, .int (nI kn), .ref ke, .int (zB ik), .ref te, .int (nI ty)])), (sa, .inl (G 0, 117, .inl (enc n N Z tn po rd al k S P V F)))] [(mo, .inr (6, [.ref sa, .ref be, .int (nI kn), .ref ke, .int (zB ik), .ref te, .int (nI ty)])), (sa, .inl (G 0, 117, .inl (enc n N Z tn po rd al k S P V F)))] (some (.int (dfL n N L))) := by
  refine CT.of (cc := cX6_off) (maxL := 3) (ret := (some .int)) (by decide) rfl RX6 rfl (Nat.le_of_ble_eq_true rfl) (fun pp ee s mm bl me cc A ls hx hb hr hml hts hown hlk hnm hA hP hK hD hN hS hl => ?_)
  have hl : lv_has ls 3 [(0, .ref mo), (1, .int (nI L))] := hl
  have hP : va_P D vwCl [(mo, .inr (6, [.ref sa, .ref be, .int (nI kn), .ref ke, .int (zB ik), .ref te, .int (nI ty)])), (sa, .inl (G 0, 117, .inl (enc n N Z tn po rd al k S P V F)))] s.heap := hP
  refine lv_aload_n hx hb dX6_off_0 rfl (lv_at hl 0 rfl) ?_
  refine lv_iload_n hx hb dX6_off_1 rfl (lv_at hl 1 rfl) ?_
  refine cVr (As := [.int (nI L)]) (rest := []) ⟨hx, hb, hml, hown, hts⟩ hP hK hD hS hN hA (mX6_sum l D G mo sa be ke te kn ty ik n tn k N Z S P V F po rd al L (by first | assumption | omega) (by first | assumption | omega)) (cwV 1 hts gX6_off_X6_sum rfl rfl rfl (by decide +kernel) ⟨Nat.le_of_ble_eq_true rfl, Nat.le_of_ble_eq_true rfl⟩) [0, 1] rfl (by decide) 0 6 rfl rfl rfl hl.1 rfl (Nat.le_of_ble_eq_true rfl) dX6_off_2 ⟨Nat.zero_le _, Nat.zero_le _⟩ (fun H locs hP hS => ?_)
  refine lv_aload_n hx hb dX6_off_5 rfl (lv_at hl 0 rfl) ?_
  refine cVr (As := []) (rest := [.int (sL n N L)]) ⟨hx, hb, hml, hown, hts⟩ hP hK hD hS hN hA (mX6_magic l D G mo sa be ke te kn ty ik n tn k N Z S P V F po rd al (by first | assumption | omega)) (cwV 0 hts gX6_off_X6_magic rfl rfl rfl (by decide +kernel) ⟨Nat.le_of_ble_eq_true rfl, Nat.le_of_ble_eq_true rfl⟩) [0, 1] rfl (by decide) 0 6 rfl rfl rfl hl.1 rfl (Nat.le_of_ble_eq_true rfl) dX6_off_6 ⟨Nat.zero_le _, Nat.zero_le _⟩ (fun H locs hP hS => ?_)
  refine lv_isub hx hb dX6_off_9 ?_
  refine lv_istore_n (lv' := [(2, .int (sL n N L - nI (mgN n))), (0, .ref mo), (1, .int (nI L))]) hx hb dX6_off_10 rfl hl (by decide) rfl (fun ls hl => ?_)
  refine lv_iload_n hx hb dX6_off_11 rfl (lv_at hl 0 rfl) ?_
  refine lv_if_ge (tgt := 20) hx hb dX6_off_12 (by decide)  (fun c1 => ?_) (fun c1 => ?_)
  · refine lv_iload_n hx hb dX6_off_20 rfl (lv_at hl 0 rfl) ?_
    refine rTop (show (sL n N L - nI (mgN n)) = dfL n N L from by first | exact iabs_n (by assumption) | exact iabs_p (by assumption)) ?_
    exact rIret hx hb hr hlk hP hK hD hS dX6_off_21
  · refine lv_iload_n hx hb dX6_off_15 rfl (lv_at hl 0 rfl) ?_
    refine lv_ineg hx hb dX6_off_16 ?_
    refine lv_goto (tgt := 21) hx hb dX6_off_17 (by decide) ?_
    refine rTop (show (-(sL n N L - nI (mgN n))) = dfL n N L from by first | exact iabs_n (by assumption) | exact iabs_p (by assumption)) ?_
    exact rIret hx hb hr hlk hP hK hD hS dX6_off_21

set_option maxHeartbeats 4000000 in
set_option maxRecDepth 100000 in
theorem mX6_wayOff (l : Launch) (D : va_G) (G : Nat → ClassId) (mo sa be ke te kn ty : Nat) (ik : Bool) (n tn k : Nat) (N Z S P V : Nat → Int32) (F : Nat → Nat → Int32) (po rd al : Int32) (hn : n = 3 ∨ n = 4) : CT l yX6_wayOff wsX6_wayOff 3 70 D G [.ref mo] [(mo, .inr (6, [.ref sa, .ref be, .int (nI kn), .ref ke, .int (zB ik), .ref te, .int (nI ty)])), (sa, .inl (G 0, 117, .inl (enc n N Z tn po rd al k S P V F)))] [(mo, .inr (6, [.ref sa, .ref be, .int (nI kn), .ref ke, .int (zB ik), .ref te, .int (nI ty)])), (sa, .inl (G 0, 117, .inl (enc n N Z tn po rd al k S P V F)))] (some (.int (wof n N))) := by
  refine CT.of (cc := cX6_wayOff) (maxL := 3) (ret := (some .int)) (by decide) rfl RX6 rfl (Nat.le_of_ble_eq_true rfl) (fun pp ee s mm bl me cc A ls hx hb hr hml hts hown hlk hnm hA hP hK hD hN hS hl => ?_)
  have hl : lv_has ls 3 [(0, .ref mo)] := hl
  have hP : va_P D vwCl [(mo, .inr (6, [.ref sa, .ref be, .int (nI kn), .ref ke, .int (zB ik), .ref te, .int (nI ty)])), (sa, .inl (G 0, 117, .inl (enc n N Z tn po rd al k S P V F)))] s.heap := hP
  refine lv_iconst (v := nI 0) hx hb dX6_wayOff_0 (by decide +kernel) ?_
  refine lv_istore_n (lv' := [(1, .int (nI 0)), (0, .ref mo)]) hx hb dX6_wayOff_1 rfl hl (by decide) rfl (fun ls hl => ?_)
  refine lv_iconst (v := nI 0) hx hb dX6_wayOff_2 (by decide +kernel) ?_
  refine lv_istore_n (lv' := [(2, .int (nI 0)), (1, .int (nI 0)), (0, .ref mo)]) hx hb dX6_wayOff_3 rfl hl (by decide) rfl (fun ls hl => ?_)
  have LP4 : ∀ (nn4 k_ : Nat), k_ ≤ (2 * n + 2) → (2 * n + 2) < k_ + nn4  → ∀ (H : Heap) (locs : List Loc), va_P D vwCl [(mo, .inr (6, [.ref sa, .ref be, .int (nI kn), .ref ke, .int (zB ik), .ref te, .int (nI ty)])), (sa, .inl (G 0, 117, .inl (enc n N Z tn po rd al k S P V F)))] H → va_D A [(mo, .inr (6, [.ref sa, .ref be, .int (nI kn), .ref ke, .int (zB ik), .ref te, .int (nI ty)])), (sa, .inl (G 0, 117, .inl (enc n N Z tn po rd al k S P V F)))] → va_S A s.heap H locs → ∀ ls : Array Slot, lv_has ls 3 [(1, .int (wo n N k_)), (2, .int (nI k_)), (0, .ref mo)] → W pp l ee (rmA 3 70) s mm ([.ref mo] : List Value).toArray bl me cc H locs 0 0 (MQ bl (Qres (some (.int (wof n N))) D G [(mo, .inr (6, [.ref sa, .ref be, .int (nI kn), .ref ke, .int (zB ik), .ref te, .int (nI ty)])), (sa, .inl (G 0, 117, .inl (enc n N Z tn po rd al k S P V F)))] A) ([.ref mo] : List Value).toArray s 0 0 A) (F0 mm 4 ls []) := by
    intro nn4
    induction nn4 with
    | zero => intro k_ h1 h2; exact absurd h2 (by omega)
    | succ nn4 ih4 =>
      intro k_ hkk_ hnk_  H locs hP hD hS ls hl
      refine lv_iload_n hx hb dX6_wayOff_4 rfl (lv_at hl 1 rfl) ?_
      refine lv_aload_n hx hb dX6_wayOff_5 rfl (lv_at hl 2 rfl) ?_
      refine cVr (As := []) (rest := [.int (nI k_)]) ⟨hx, hb, hml, hown, hts⟩ hP hK hD hS hN hA (mX6_lines l D G mo sa be ke te kn ty ik n tn k N Z S P V F po rd al (by first | assumption | omega)) (cwV 0 hts gX6_wayOff_X6_lines rfl rfl rfl (by decide +kernel) ⟨Nat.le_of_ble_eq_true rfl, Nat.le_of_ble_eq_true rfl⟩) [0, 1] rfl (by decide) 0 6 rfl rfl rfl hl.1 rfl (Nat.le_of_ble_eq_true rfl) dX6_wayOff_6 ⟨Nat.zero_le _, Nat.zero_le _⟩ (fun H locs hP hS => ?_)
      refine bGe (tgt := 26) hx hb dX6_wayOff_9 (by decide) (by omega) (by omega) (fun c1 => ?_) (fun c1 => ?_)
      · obtain rfl : 2 * n + 2 = k_ := by omega
        refine lv_iload_n hx hb dX6_wayOff_26 rfl (lv_at hl 0 rfl) ?_
        refine rTop (show wo n N (2 * n + 2) = wof n N from rfl) ?_
        exact rIret hx hb hr hlk hP hK hD hS dX6_wayOff_27
      · refine lv_iload_n hx hb dX6_wayOff_12 rfl (lv_at hl 0 rfl) ?_
        refine lv_aload_n hx hb dX6_wayOff_13 rfl (lv_at hl 2 rfl) ?_
        refine lv_iload_n hx hb dX6_wayOff_14 rfl (lv_at hl 1 rfl) ?_
        refine cVr (As := [.int (nI k_)]) (rest := [.int (wo n N k_)]) ⟨hx, hb, hml, hown, hts⟩ hP hK hD hS hN hA (mX6_off l D G mo sa be ke te kn ty ik n tn k N Z S P V F po rd al k_ (by first | assumption | omega) (by first | assumption | omega)) (cwV 1 hts gX6_wayOff_X6_off rfl rfl rfl (by decide +kernel) ⟨Nat.le_of_ble_eq_true rfl, Nat.le_of_ble_eq_true rfl⟩) [0, 1] rfl (by decide) 0 6 rfl rfl rfl hl.1 rfl (Nat.le_of_ble_eq_true rfl) dX6_wayOff_15 ⟨Nat.zero_le _, Nat.zero_le _⟩ (fun H locs hP hS => ?_)
        refine lv_iadd hx hb dX6_wayOff_18 ?_
        refine lv_istore_n (lv' := [(1, .int (wo n N k_ + dfL n N k_)), (2, .int (nI k_)), (0, .ref mo)]) hx hb dX6_wayOff_19 rfl hl (by decide) rfl (fun ls hl => ?_)
        refine lv_iinc (v := nI (k_ + 1)) (lv' := [(2, .int (nI (k_ + 1))), (1, .int (wo n N k_ + dfL n N k_)), (0, .ref mo)]) hx hb dX6_wayOff_20 hl (k := 1) rfl (nI_inc k_) (by decide) rfl (fun ls hl => ?_)
        refine lv_goto (tgt := 4) hx hb dX6_wayOff_23 (by decide) ?_
        exact ih4 (k_ + 1) (by omega) (by omega)  _ _ hP hD hS _ (lv_sub hl [1, 0, 2] rfl)
  exact LP4 (2 * n + 2 + 1 - 0) 0 (by omega) (by omega)  _ _ hP hD hS _ (lv_sub hl [1, 0, 2] rfl)

set_option maxHeartbeats 4000000 in
set_option maxRecDepth 100000 in
theorem mX6_magicLines (l : Launch) (D : va_G) (G : Nat → ClassId) (mo sa be ke te kn ty : Nat) (ik : Bool) (n tn k : Nat) (N Z S P V : Nat → Int32) (F : Nat → Nat → Int32) (po rd al : Int32) (hn : n = 3 ∨ n = 4) : CT l yX6_magicLines wsX6_magicLines 3 70 D G [.ref mo] [(mo, .inr (6, [.ref sa, .ref be, .int (nI kn), .ref ke, .int (zB ik), .ref te, .int (nI ty)])), (sa, .inl (G 0, 117, .inl (enc n N Z tn po rd al k S P V F)))] [(mo, .inr (6, [.ref sa, .ref be, .int (nI kn), .ref ke, .int (zB ik), .ref te, .int (nI ty)])), (sa, .inl (G 0, 117, .inl (enc n N Z tn po rd al k S P V F)))] (some (.int (nI (mcn n N)))) := by
  refine CT.of (cc := cX6_magicLines) (maxL := 3) (ret := (some .int)) (by decide) rfl RX6 rfl (Nat.le_of_ble_eq_true rfl) (fun pp ee s mm bl me cc A ls hx hb hr hml hts hown hlk hnm hA hP hK hD hN hS hl => ?_)
  have hl : lv_has ls 3 [(0, .ref mo)] := hl
  have hP : va_P D vwCl [(mo, .inr (6, [.ref sa, .ref be, .int (nI kn), .ref ke, .int (zB ik), .ref te, .int (nI ty)])), (sa, .inl (G 0, 117, .inl (enc n N Z tn po rd al k S P V F)))] s.heap := hP
  refine lv_iconst (v := nI 0) hx hb dX6_magicLines_0 (by decide +kernel) ?_
  refine lv_istore_n (lv' := [(1, .int (nI 0)), (0, .ref mo)]) hx hb dX6_magicLines_1 rfl hl (by decide) rfl (fun ls hl => ?_)
  refine lv_iconst (v := nI 0) hx hb dX6_magicLines_2 (by decide +kernel) ?_
  refine lv_istore_n (lv' := [(2, .int (nI 0)), (1, .int (nI 0)), (0, .ref mo)]) hx hb dX6_magicLines_3 rfl hl (by decide) rfl (fun ls hl => ?_)
  have LP4 : ∀ (nn4 k_ : Nat), k_ ≤ (2 * n + 2) → (2 * n + 2) < k_ + nn4  → ∀ (H : Heap) (locs : List Loc), va_P D vwCl [(mo, .inr (6, [.ref sa, .ref be, .int (nI kn), .ref ke, .int (zB ik), .ref te, .int (nI ty)])), (sa, .inl (G 0, 117, .inl (enc n N Z tn po rd al k S P V F)))] H → va_D A [(mo, .inr (6, [.ref sa, .ref be, .int (nI kn), .ref ke, .int (zB ik), .ref te, .int (nI ty)])), (sa, .inl (G 0, 117, .inl (enc n N Z tn po rd al k S P V F)))] → va_S A s.heap H locs → ∀ ls : Array Slot, lv_has ls 3 [(1, .int (nI (mc n N k_))), (2, .int (nI k_)), (0, .ref mo)] → W pp l ee (rmA 3 70) s mm ([.ref mo] : List Value).toArray bl me cc H locs 0 0 (MQ bl (Qres (some (.int (nI (mcn n N)))) D G [(mo, .inr (6, [.ref sa, .ref be, .int (nI kn), .ref ke, .int (zB ik), .ref te, .int (nI ty)])), (sa, .inl (G 0, 117, .inl (enc n N Z tn po rd al k S P V F)))] A) ([.ref mo] : List Value).toArray s 0 0 A) (F0 mm 4 ls []) := by
    intro nn4
    induction nn4 with
    | zero => intro k_ h1 h2; exact absurd h2 (by omega)
    | succ nn4 ih4 =>
      intro k_ hkk_ hnk_  H locs hP hD hS ls hl
      refine lv_iload_n hx hb dX6_magicLines_4 rfl (lv_at hl 1 rfl) ?_
      refine lv_aload_n hx hb dX6_magicLines_5 rfl (lv_at hl 2 rfl) ?_
      refine cVr (As := []) (rest := [.int (nI k_)]) ⟨hx, hb, hml, hown, hts⟩ hP hK hD hS hN hA (mX6_lines l D G mo sa be ke te kn ty ik n tn k N Z S P V F po rd al (by first | assumption | omega)) (cwV 0 hts gX6_magicLines_X6_lines rfl rfl rfl (by decide +kernel) ⟨Nat.le_of_ble_eq_true rfl, Nat.le_of_ble_eq_true rfl⟩) [0, 1] rfl (by decide) 0 6 rfl rfl rfl hl.1 rfl (Nat.le_of_ble_eq_true rfl) dX6_magicLines_6 ⟨Nat.zero_le _, Nat.zero_le _⟩ (fun H locs hP hS => ?_)
      refine bGe (tgt := 34) hx hb dX6_magicLines_9 (by decide) (by omega) (by omega) (fun c1 => ?_) (fun c1 => ?_)
      · obtain rfl : 2 * n + 2 = k_ := by omega
        refine lv_iload_n hx hb dX6_magicLines_34 rfl (lv_at hl 0 rfl) ?_
        refine rTop (show nI (mc n N (2 * n + 2)) = nI (mcn n N) from rfl) ?_
        exact rIret hx hb hr hlk hP hK hD hS dX6_magicLines_35
      · refine lv_iload_n hx hb dX6_magicLines_12 rfl (lv_at hl 0 rfl) ?_
        refine lv_aload_n hx hb dX6_magicLines_13 rfl (lv_at hl 2 rfl) ?_
        refine lv_iload_n hx hb dX6_magicLines_14 rfl (lv_at hl 1 rfl) ?_
        refine cVr (As := [.int (nI k_)]) (rest := [.int (nI (mc n N k_))]) ⟨hx, hb, hml, hown, hts⟩ hP hK hD hS hN hA (mX6_off l D G mo sa be ke te kn ty ik n tn k N Z S P V F po rd al k_ (by first | assumption | omega) (by first | assumption | omega)) (cwV 1 hts gX6_magicLines_X6_off rfl rfl rfl (by decide +kernel) ⟨Nat.le_of_ble_eq_true rfl, Nat.le_of_ble_eq_true rfl⟩) [0, 1] rfl (by decide) 0 6 rfl rfl rfl hl.1 rfl (Nat.le_of_ble_eq_true rfl) dX6_magicLines_15 ⟨Nat.zero_le _, Nat.zero_le _⟩ (fun H locs hP hS => ?_)
        refine lv_if_ne (tgt := 25) hx hb dX6_magicLines_18 (by decide)  (fun c2 => ?_) (fun c2 => ?_)
        · refine lv_iconst (v := nI 0) hx hb dX6_magicLines_25 (by decide +kernel) ?_
          refine lv_iadd hx hb dX6_magicLines_26 ?_
          refine rTop (show nI (mc n N k_) + nI 0 = nI (mc n N k_ + 0) from nI_add (mc n N k_) 0) ?_
          refine rTop (show nI (mc n N k_ + 0) = nI (mc n N (k_ + 1)) from by first | exact mcO_t (by assumption) | exact mcO_f (by assumption)) ?_
          refine lv_istore_n (lv' := [(1, .int (nI (mc n N (k_ + 1)))), (2, .int (nI k_)), (0, .ref mo)]) hx hb dX6_magicLines_27 rfl hl (by decide) rfl (fun ls hl => ?_)
          refine lv_iinc (v := nI (k_ + 1)) (lv' := [(2, .int (nI (k_ + 1))), (1, .int (nI (mc n N (k_ + 1)))), (0, .ref mo)]) hx hb dX6_magicLines_28 hl (k := 1) rfl (nI_inc k_) (by decide) rfl (fun ls hl => ?_)
          refine lv_goto (tgt := 4) hx hb dX6_magicLines_31 (by decide) ?_
          exact ih4 (k_ + 1) (by omega) (by omega)  _ _ hP hD hS _ (lv_sub hl [1, 0, 2] rfl)
        · refine lv_iconst (v := nI 1) hx hb dX6_magicLines_21 (by decide +kernel) ?_
          refine lv_goto (tgt := 26) hx hb dX6_magicLines_22 (by decide) ?_
          refine lv_iadd hx hb dX6_magicLines_26 ?_
          refine rTop (show nI (mc n N k_) + nI 1 = nI (mc n N k_ + 1) from nI_add (mc n N k_) 1) ?_
          refine rTop (show nI (mc n N k_ + 1) = nI (mc n N (k_ + 1)) from by first | exact mcO_t (by assumption) | exact mcO_f (by assumption)) ?_
          refine lv_istore_n (lv' := [(1, .int (nI (mc n N (k_ + 1)))), (2, .int (nI k_)), (0, .ref mo)]) hx hb dX6_magicLines_27 rfl hl (by decide) rfl (fun ls hl => ?_)
          refine lv_iinc (v := nI (k_ + 1)) (lv' := [(2, .int (nI (k_ + 1))), (1, .int (nI (mc n N (k_ + 1)))), (0, .ref mo)]) hx hb dX6_magicLines_28 hl (k := 1) rfl (nI_inc k_) (by decide) rfl (fun ls hl => ?_)
          refine lv_goto (tgt := 4) hx hb dX6_magicLines_31 (by decide) ?_
          exact ih4 (k_ + 1) (by omega) (by omega)  _ _ hP hD hS _ (lv_sub hl [1, 0, 2] rfl)
  exact LP4 (2 * n + 2 + 1 - 0) 0 (by omega) (by omega)  _ _ hP hD hS _ (lv_sub hl [1, 0, 2] rfl)

set_option maxHeartbeats 4000000 in
set_option maxRecDepth 100000 in
theorem mX6_exchange (l : Launch) (D : va_G) (G : Nat → ClassId) (mo sa be ke te kn ty : Nat) (ik : Bool) (n tn k : Nat) (N Z S P V : Nat → Int32) (F : Nat → Nat → Int32) (po rd al : Int32) (a b : Nat) (ha : a < 16) (hb2 : b < 16) : CT l yX6_exchange wsX6_exchange 0 0 D G [.ref mo, .int (nI a), .int (nI b)] [(mo, .inr (6, [.ref sa, .ref be, .int (nI kn), .ref ke, .int (zB ik), .ref te, .int (nI ty)])), (sa, .inl (G 0, 117, .inl (enc n N Z tn po rd al k S P V F)))] [(mo, .inr (6, [.ref sa, .ref be, .int (nI kn), .ref ke, .int (zB ik), .ref te, .int (nI ty)])), (sa, .inl (G 0, 117, .inl (enc n (ex N a b) Z tn po rd al k S P V F)))] none := by
  refine CT.of (cc := cX6_exchange) (maxL := 4) (ret := none) (by decide) rfl RX6 rfl (Nat.le_of_ble_eq_true rfl) (fun pp ee s mm bl me cc A ls hx hb hr hml hts hown hlk hnm hA hP hK hD hN hS hl => ?_)
  have hl : lv_has ls 4 [(0, .ref mo), (1, .int (nI a)), (2, .int (nI b))] := hl
  have hP : va_P D vwCl [(mo, .inr (6, [.ref sa, .ref be, .int (nI kn), .ref ke, .int (zB ik), .ref te, .int (nI ty)])), (sa, .inl (G 0, 117, .inl (enc n N Z tn po rd al k S P V F)))] s.heap := hP
  have inX6 : ∀ w ∈ wsX60, w ∈ wsX6_exchange := fun w h => List.mem_cons_of_mem _ (List.mem_append_right _ h)
  have k7 := hts (.fieldLink RX6 7 "SquareStakesModel" "s" "[I") (List.mem_of_getElem? (i := 1) rfl)
  refine lv_aload_n hx hb dX6_exchange_0 rfl (lv_at hl 0 rfl) ?_
  refine va_get (D := D) (ci := 6) (v := .ref sa) (C := RX6) (T := TX6) (N := 7) hx hb hts inX6 hown hK hP 0 rfl rfl 0 (by decide) k7 (fun _ h9 => h9) rfl dX6_exchange_1 ?_
  refine lv_bipush (v := nI 15) hx hb dX6_exchange_4 (by decide +kernel) ?_
  refine lv_iload_n hx hb dX6_exchange_6 rfl (lv_at hl 1 rfl) ?_
  refine lv_iadd hx hb dX6_exchange_7 ?_
  refine rTop (show nI 15 + nI a = nI (15 + a) from nI_add 15 a) ?_
  refine rIald hx hb hK hP 1 rfl (15 + a) (by omega) (by decide) dX6_exchange_8 ?_
  refine rTop (enc_N n N Z tn po rd al k S P V F a (by omega)) ?_
  refine lv_istore_n (lv' := [(3, .int (N a)), (0, .ref mo), (1, .int (nI a)), (2, .int (nI b))]) hx hb dX6_exchange_9 rfl hl (by decide) rfl (fun ls hl => ?_)
  refine lv_aload_n hx hb dX6_exchange_10 rfl (lv_at hl 1 rfl) ?_
  refine va_get (D := D) (ci := 6) (v := .ref sa) (C := RX6) (T := TX6) (N := 7) hx hb hts inX6 hown hK hP 0 rfl rfl 0 (by decide) k7 (fun _ h9 => h9) rfl dX6_exchange_11 ?_
  refine lv_bipush (v := nI 15) hx hb dX6_exchange_14 (by decide +kernel) ?_
  refine lv_iload_n hx hb dX6_exchange_16 rfl (lv_at hl 2 rfl) ?_
  refine lv_iadd hx hb dX6_exchange_17 ?_
  refine rTop (show nI 15 + nI a = nI (15 + a) from nI_add 15 a) ?_
  refine lv_aload_n hx hb dX6_exchange_18 rfl (lv_at hl 1 rfl) ?_
  refine va_get (D := D) (ci := 6) (v := .ref sa) (C := RX6) (T := TX6) (N := 7) hx hb hts inX6 hown hK hP 0 rfl rfl 0 (by decide) k7 (fun _ h9 => h9) rfl dX6_exchange_19 ?_
  refine lv_bipush (v := nI 15) hx hb dX6_exchange_22 (by decide +kernel) ?_
  refine lv_iload_n hx hb dX6_exchange_24 rfl (lv_at hl 3 rfl) ?_
  refine lv_iadd hx hb dX6_exchange_25 ?_
  refine rTop (show nI 15 + nI b = nI (15 + b) from nI_add 15 b) ?_
  refine rIald hx hb hK hP 1 rfl (15 + b) (by omega) (by decide) dX6_exchange_26 ?_
  refine rTop (enc_N n N Z tn po rd al k S P V F b (by omega)) ?_
  refine rIast hx hb hK hP hD hS 1 rfl (15 + a) (by omega) (by decide) dX6_exchange_27 (fun H locs hP hD hS => ?_)
  obtain ⟨hP, hD⟩ := wI (g := enc n (upd N a (N b)) Z tn po rd al k S P V F) hP hD 1 rfl (enc_wN n N Z tn po rd al k S P V F a (by omega) (N b))
  replace hP : va_P D vwCl [(mo, .inr (6, [.ref sa, .ref be, .int (nI kn), .ref ke, .int (zB ik), .ref te, .int (nI ty)])), (sa, .inl (G 0, 117, .inl (enc n (upd N a (N b)) Z tn po rd al k S P V F)))] _ := hP
  have hD : va_D A [(mo, .inr (6, [.ref sa, .ref be, .int (nI kn), .ref ke, .int (zB ik), .ref te, .int (nI ty)])), (sa, .inl (G 0, 117, .inl (enc n (upd N a (N b)) Z tn po rd al k S P V F)))] := hD
  refine lv_aload_n hx hb dX6_exchange_28 rfl (lv_at hl 1 rfl) ?_
  refine va_get (D := D) (ci := 6) (v := .ref sa) (C := RX6) (T := TX6) (N := 7) hx hb hts inX6 hown hK hP 0 rfl rfl 0 (by decide) k7 (fun _ h9 => h9) rfl dX6_exchange_29 ?_
  refine lv_bipush (v := nI 15) hx hb dX6_exchange_32 (by decide +kernel) ?_
  refine lv_iload_n hx hb dX6_exchange_34 rfl (lv_at hl 3 rfl) ?_
  refine lv_iadd hx hb dX6_exchange_35 ?_
  refine rTop (show nI 15 + nI b = nI (15 + b) from nI_add 15 b) ?_
  refine lv_iload_n hx hb dX6_exchange_36 rfl (lv_at hl 0 rfl) ?_
  refine rIast hx hb hK hP hD hS 1 rfl (15 + b) (by omega) (by decide) dX6_exchange_37 (fun H locs hP hD hS => ?_)
  obtain ⟨hP, hD⟩ := wI (g := enc n (upd (upd N a (N b)) b (N a)) Z tn po rd al k S P V F) hP hD 1 rfl (enc_wN n (upd N a (N b)) Z tn po rd al k S P V F b (by omega) (N a))
  replace hP : va_P D vwCl [(mo, .inr (6, [.ref sa, .ref be, .int (nI kn), .ref ke, .int (zB ik), .ref te, .int (nI ty)])), (sa, .inl (G 0, 117, .inl (enc n (upd (upd N a (N b)) b (N a)) Z tn po rd al k S P V F)))] _ := hP
  have hD : va_D A [(mo, .inr (6, [.ref sa, .ref be, .int (nI kn), .ref ke, .int (zB ik), .ref te, .int (nI ty)])), (sa, .inl (G 0, 117, .inl (enc n (upd (upd N a (N b)) b (N a)) Z tn po rd al k S P V F)))] := hD
  obtain ⟨hP, hD⟩ := wI (g := enc n (ex N a b) Z tn po rd al k S P V F) hP hD 1 rfl (fun j hj => rfl)
  replace hP : va_P D vwCl [(mo, .inr (6, [.ref sa, .ref be, .int (nI kn), .ref ke, .int (zB ik), .ref te, .int (nI ty)])), (sa, .inl (G 0, 117, .inl (enc n (ex N a b) Z tn po rd al k S P V F)))] _ := hP
  have hD : va_D A [(mo, .inr (6, [.ref sa, .ref be, .int (nI kn), .ref ke, .int (zB ik), .ref te, .int (nI ty)])), (sa, .inl (G 0, 117, .inl (enc n (ex N a b) Z tn po rd al k S P V F)))] := hD
  exact rVret hx hb hr hlk hP hK hD hS dX6_exchange_38

set_option maxHeartbeats 4000000 in
set_option maxRecDepth 100000 in
theorem mX6_oddsOf (l : Launch) (D : va_G) (G : Nat → ClassId) (mo sa be ke te kn ty : Nat) (ik : Bool) (n tn k : Nat) (N Z S P V : Nat → Int32) (F : Nat → Nat → Int32) (po rd al : Int32) (i : Nat) (hk : k ≤ 10) (hik : i < k) (hRF : RFD k F) : CT l yX6_oddsOf wsX6_oddsOf 1 21 D G [.ref mo, .int (nI i)] [(mo, .inr (6, [.ref sa, .ref be, .int (nI kn), .ref ke, .int (zB ik), .ref te, .int (nI ty)])), (sa, .inl (G 0, 117, .inl (enc n N Z tn po rd al k S P V F)))] [(mo, .inr (6, [.ref sa, .ref be, .int (nI kn), .ref ke, .int (zB ik), .ref te, .int (nI ty)])), (sa, .inl (G 0, 117, .inl (enc n N Z tn po rd al k S P V F)))] (some (.float (odf (F i 5) (F i 6)))) := by
  refine CT.of (cc := cX6_oddsOf) (maxL := 2) (ret := (some .float)) (by decide) rfl RX6 rfl (Nat.le_of_ble_eq_true rfl) (fun pp ee s mm bl me cc A ls hx hb hr hml hts hown hlk hnm hA hP hK hD hN hS hl => ?_)
  have hl : lv_has ls 2 [(0, .ref mo), (1, .int (nI i))] := hl
  have hP : va_P D vwCl [(mo, .inr (6, [.ref sa, .ref be, .int (nI kn), .ref ke, .int (zB ik), .ref te, .int (nI ty)])), (sa, .inl (G 0, 117, .inl (enc n N Z tn po rd al k S P V F)))] s.heap := hP
  have inX6 : ∀ w ∈ wsX60, w ∈ wsX6_oddsOf := fun w h => List.mem_cons_of_mem _ (List.mem_append_right _ h)
  have k7 := hts (.fieldLink RX6 7 "SquareStakesModel" "s" "[I") (List.mem_of_getElem? (i := 1) rfl)
  refine lv_fconst1 hx hb dX6_oddsOf_0 ?_
  refine lv_aload_n hx hb dX6_oddsOf_1 rfl (lv_at hl 0 rfl) ?_
  refine va_get (D := D) (ci := 6) (v := .ref sa) (C := RX6) (T := TX6) (N := 7) hx hb hts inX6 hown hK hP 0 rfl rfl 0 (by decide) k7 (fun _ h9 => h9) rfl dX6_oddsOf_2 ?_
  refine lv_iload_n hx hb dX6_oddsOf_5 rfl (lv_at hl 1 rfl) ?_
  refine lv_iconst (v := nI 5) hx hb dX6_oddsOf_6 (by decide +kernel) ?_
  refine cSr (As := [.int (nI i), .int (nI 5)]) (rest := [.ref sa, .float FP.fconst1]) ⟨hx, hb, hml, hown, hts⟩ hP hK hD hS hN hA (mX6_of l D G i 5 ) (cwS 2 hts gX6_oddsOf_X6_of rfl rfl rfl (by decide +kernel) ⟨Nat.le_of_ble_eq_true rfl, Nat.le_of_ble_eq_true rfl⟩) [] rfl (by decide) rfl hl.1 rfl (Nat.le_of_ble_eq_true rfl) dX6_oddsOf_7 ⟨Nat.zero_le _, Nat.zero_le _⟩ (fun H locs hP hS => ?_)
  refine rIald hx hb hK hP 1 rfl (47 + 7 * i + 5) (by omega) (by decide) dX6_oddsOf_10 ?_
  refine rTop (enc_F n N Z tn po rd al k S P V F i 5 (by omega) (by omega)) ?_
  refine lv_i2f hx hb dX6_oddsOf_11 ?_
  refine lv_aload_n hx hb dX6_oddsOf_12 rfl (lv_at hl 0 rfl) ?_
  refine va_get (D := D) (ci := 6) (v := .ref sa) (C := RX6) (T := TX6) (N := 7) hx hb hts inX6 hown hK hP 0 rfl rfl 0 (by decide) k7 (fun _ h9 => h9) rfl dX6_oddsOf_13 ?_
  refine lv_iload_n hx hb dX6_oddsOf_16 rfl (lv_at hl 1 rfl) ?_
  refine lv_bipush (v := nI 6) hx hb dX6_oddsOf_17 (by decide +kernel) ?_
  refine cSr (As := [.int (nI i), .int (nI 6)]) (rest := [.ref sa, .float (FP.i2f (F i 5)), .float FP.fconst1]) ⟨hx, hb, hml, hown, hts⟩ hP hK hD hS hN hA (mX6_of l D G i 6 ) (cwS 2 hts gX6_oddsOf_X6_of rfl rfl rfl (by decide +kernel) ⟨Nat.le_of_ble_eq_true rfl, Nat.le_of_ble_eq_true rfl⟩) [] rfl (by decide) rfl hl.1 rfl (Nat.le_of_ble_eq_true rfl) dX6_oddsOf_19 ⟨Nat.zero_le _, Nat.zero_le _⟩ (fun H locs hP hS => ?_)
  refine rIald hx hb hK hP 1 rfl (47 + 7 * i + 6) (by omega) (by decide) dX6_oddsOf_22 ?_
  refine rTop (enc_F n N Z tn po rd al k S P V F i 6 (by omega) (by omega)) ?_
  refine lv_i2f hx hb dX6_oddsOf_23 ?_
  refine lv_fdiv hx hb dX6_oddsOf_24 ((hRF i hik).1) ?_
  refine lv_fadd hx hb dX6_oddsOf_25 ((hRF i hik).2.1) ?_
  refine rTopF (show FP.fadd FP.fconst1 (FP.fdiv (FP.i2f (F i 5)) (FP.i2f (F i 6))) = odf (F i 5) (F i 6) from rfl) ?_
  exact rFret hx hb hr hlk hP hK hD hS dX6_oddsOf_26

set_option maxHeartbeats 4000000 in
set_option maxRecDepth 100000 in
theorem mX6_pays (l : Launch) (D : va_G) (G : Nat → ClassId) (mo sa be ke te kn ty : Nat) (ik : Bool) (n tn k : Nat) (N Z S P V : Nat → Int32) (F : Nat → Nat → Int32) (po rd al : Int32) (i : Nat) (hk : k ≤ 10) (hik : i < k) (hRF : RFD k F) : CT l yX6_pays wsX6_pays 2 42 D G [.ref mo, .int (nI i)] [(mo, .inr (6, [.ref sa, .ref be, .int (nI kn), .ref ke, .int (zB ik), .ref te, .int (nI ty)])), (sa, .inl (G 0, 117, .inl (enc n N Z tn po rd al k S P V F)))] [(mo, .inr (6, [.ref sa, .ref be, .int (nI kn), .ref ke, .int (zB ik), .ref te, .int (nI ty)])), (sa, .inl (G 0, 117, .inl (enc n N Z tn po rd al k S P V F)))] (some (.int (pay F (odR F) i))) := by
  refine CT.of (cc := cX6_pays) (maxL := 2) (ret := (some .int)) (by decide) rfl RX6 rfl (Nat.le_of_ble_eq_true rfl) (fun pp ee s mm bl me cc A ls hx hb hr hml hts hown hlk hnm hA hP hK hD hN hS hl => ?_)
  have hl : lv_has ls 2 [(0, .ref mo), (1, .int (nI i))] := hl
  have hP : va_P D vwCl [(mo, .inr (6, [.ref sa, .ref be, .int (nI kn), .ref ke, .int (zB ik), .ref te, .int (nI ty)])), (sa, .inl (G 0, 117, .inl (enc n N Z tn po rd al k S P V F)))] s.heap := hP
  have inX6 : ∀ w ∈ wsX60, w ∈ wsX6_pays := fun w h => List.mem_cons_of_mem _ (List.mem_append_right _ h)
  have k7 := hts (.fieldLink RX6 7 "SquareStakesModel" "s" "[I") (List.mem_of_getElem? (i := 1) rfl)
  refine lv_aload_n hx hb dX6_pays_0 rfl (lv_at hl 0 rfl) ?_
  refine va_get (D := D) (ci := 6) (v := .ref sa) (C := RX6) (T := TX6) (N := 7) hx hb hts inX6 hown hK hP 0 rfl rfl 0 (by decide) k7 (fun _ h9 => h9) rfl dX6_pays_1 ?_
  refine lv_iload_n hx hb dX6_pays_4 rfl (lv_at hl 1 rfl) ?_
  refine lv_iconst (v := nI 3) hx hb dX6_pays_5 (by decide +kernel) ?_
  refine cSr (As := [.int (nI i), .int (nI 3)]) (rest := [.ref sa]) ⟨hx, hb, hml, hown, hts⟩ hP hK hD hS hN hA (mX6_of l D G i 3 ) (cwS 2 hts gX6_pays_X6_of rfl rfl rfl (by decide +kernel) ⟨Nat.le_of_ble_eq_true rfl, Nat.le_of_ble_eq_true rfl⟩) [] rfl (by decide) rfl hl.1 rfl (Nat.le_of_ble_eq_true rfl) dX6_pays_6 ⟨Nat.zero_le _, Nat.zero_le _⟩ (fun H locs hP hS => ?_)
  refine rIald hx hb hK hP 1 rfl (47 + 7 * i + 3) (by omega) (by decide) dX6_pays_9 ?_
  refine rTop (enc_F n N Z tn po rd al k S P V F i 3 (by omega) (by omega)) ?_
  refine lv_i2f hx hb dX6_pays_10 ?_
  refine lv_aload_n hx hb dX6_pays_11 rfl (lv_at hl 0 rfl) ?_
  refine lv_iload_n hx hb dX6_pays_12 rfl (lv_at hl 1 rfl) ?_
  refine cVr (As := [.int (nI i)]) (rest := [.float (FP.i2f (F i 3))]) ⟨hx, hb, hml, hown, hts⟩ hP hK hD hS hN hA (mX6_oddsOf l D G mo sa be ke te kn ty ik n tn k N Z S P V F po rd al i (by first | assumption | omega) (by first | assumption | omega) (by first | assumption | omega)) (cwV 1 hts gX6_pays_X6_oddsOf rfl rfl rfl (by decide +kernel) ⟨Nat.le_of_ble_eq_true rfl, Nat.le_of_ble_eq_true rfl⟩) [0, 1] rfl (by decide) 0 6 rfl rfl rfl hl.1 rfl (Nat.le_of_ble_eq_true rfl) dX6_pays_13 ⟨Nat.zero_le _, Nat.zero_le _⟩ (fun H locs hP hS => ?_)
  refine lv_fmul hx hb dX6_pays_16 (nan_pay (hRF i hik).2.2) ?_
  refine lv_f2i hx hb dX6_pays_17 ?_
  refine rTop (show FP.f2i (FP.fmul (FP.i2f (F i 3)) (odf (F i 5) (F i 6))) = pay F (odR F) i from rfl) ?_
  exact rIret hx hb hr hlk hP hK hD hS dX6_pays_18

set_option maxHeartbeats 4000000 in
set_option maxRecDepth 100000 in
theorem mX6_isRight (l : Launch) (D : va_G) (G : Nat → ClassId) (mo sa be ke te kn ty : Nat) (ik : Bool) (n tn k : Nat) (N Z S P V : Nat → Int32) (F : Nat → Nat → Int32) (po rd al : Int32) (i : Nat) (hk : k ≤ 10) (hn : n = 3 ∨ n = 4) (hik : i < k) (hSO : SOK n k F) (hN1 : NOK n N) (hSM : SMK k F) : CT l yX6_isRight wsX6_isRight 3 70 D G [.ref mo, .int (nI i)] [(mo, .inr (6, [.ref sa, .ref be, .int (nI kn), .ref ke, .int (zB ik), .ref te, .int (nI ty)])), (sa, .inl (G 0, 117, .inl (enc n N Z tn po rd al k S P V F)))] [(mo, .inr (6, [.ref sa, .ref be, .int (nI kn), .ref ke, .int (zB ik), .ref te, .int (nI ty)])), (sa, .inl (G 0, 117, .inl (enc n N Z tn po rd al k S P V F)))] (some (.int (zB (rgt n N F i)))) := by
  refine CT.of (cc := cX6_isRight) (maxL := 5) (ret := (some .boolean)) (by decide) rfl RX6 rfl (Nat.le_of_ble_eq_true rfl) (fun pp ee s mm bl me cc A ls hx hb hr hml hts hown hlk hnm hA hP hK hD hN hS hl => ?_)
  have hl : lv_has ls 5 [(0, .ref mo), (1, .int (nI i))] := hl
  have hP : va_P D vwCl [(mo, .inr (6, [.ref sa, .ref be, .int (nI kn), .ref ke, .int (zB ik), .ref te, .int (nI ty)])), (sa, .inl (G 0, 117, .inl (enc n N Z tn po rd al k S P V F)))] s.heap := hP
  have inX6 : ∀ w ∈ wsX60, w ∈ wsX6_isRight := fun w h => List.mem_cons_of_mem _ (List.mem_append_right _ h)
  have k7 := hts (.fieldLink RX6 7 "SquareStakesModel" "s" "[I") (List.mem_of_getElem? (i := 1) rfl)
  obtain ⟨⟨hF1, hF2⟩, -⟩ := hSO i hik
  have hs1 := sL_rng hn hN1 hF2
  have hs2 := hSM i hik
  refine lv_aload_n hx hb dX6_isRight_0 rfl (lv_at hl 0 rfl) ?_
  refine va_get (D := D) (ci := 6) (v := .ref sa) (C := RX6) (T := TX6) (N := 7) hx hb hts inX6 hown hK hP 0 rfl rfl 0 (by decide) k7 (fun _ h9 => h9) rfl dX6_isRight_1 ?_
  refine lv_iload_n hx hb dX6_isRight_4 rfl (lv_at hl 1 rfl) ?_
  refine lv_iconst (v := nI 1) hx hb dX6_isRight_5 (by decide +kernel) ?_
  refine cSr (As := [.int (nI i), .int (nI 1)]) (rest := [.ref sa]) ⟨hx, hb, hml, hown, hts⟩ hP hK hD hS hN hA (mX6_of l D G i 1 ) (cwS 2 hts gX6_isRight_X6_of rfl rfl rfl (by decide +kernel) ⟨Nat.le_of_ble_eq_true rfl, Nat.le_of_ble_eq_true rfl⟩) [] rfl (by decide) rfl hl.1 rfl (Nat.le_of_ble_eq_true rfl) dX6_isRight_6 ⟨Nat.zero_le _, Nat.zero_le _⟩ (fun H locs hP hS => ?_)
  refine rIald hx hb hK hP 1 rfl (47 + 7 * i + 1) (by omega) (by decide) dX6_isRight_9 ?_
  refine rTop (enc_F n N Z tn po rd al k S P V F i 1 (by omega) (by omega)) ?_
  refine rTop (show F i 1 = nI (ln F i) from hF1) ?_
  refine lv_istore_n (lv' := [(2, .int (nI (ln F i))), (0, .ref mo), (1, .int (nI i))]) hx hb dX6_isRight_10 rfl hl (by decide) rfl (fun ls hl => ?_)
  refine lv_aload_n hx hb dX6_isRight_11 rfl (lv_at hl 1 rfl) ?_
  refine va_get (D := D) (ci := 6) (v := .ref sa) (C := RX6) (T := TX6) (N := 7) hx hb hts inX6 hown hK hP 0 rfl rfl 0 (by decide) k7 (fun _ h9 => h9) rfl dX6_isRight_12 ?_
  refine lv_iload_n hx hb dX6_isRight_15 rfl (lv_at hl 2 rfl) ?_
  refine lv_iconst (v := nI 2) hx hb dX6_isRight_16 (by decide +kernel) ?_
  refine cSr (As := [.int (nI i), .int (nI 2)]) (rest := [.ref sa]) ⟨hx, hb, hml, hown, hts⟩ hP hK hD hS hN hA (mX6_of l D G i 2 ) (cwS 2 hts gX6_isRight_X6_of rfl rfl rfl (by decide +kernel) ⟨Nat.le_of_ble_eq_true rfl, Nat.le_of_ble_eq_true rfl⟩) [] rfl (by decide) rfl hl.1 rfl (Nat.le_of_ble_eq_true rfl) dX6_isRight_17 ⟨Nat.zero_le _, Nat.zero_le _⟩ (fun H locs hP hS => ?_)
  refine rIald hx hb hK hP 1 rfl (47 + 7 * i + 2) (by omega) (by decide) dX6_isRight_20 ?_
  refine rTop (enc_F n N Z tn po rd al k S P V F i 2 (by omega) (by omega)) ?_
  refine lv_istore_n (lv' := [(3, .int (F i 2)), (2, .int (nI (ln F i))), (0, .ref mo), (1, .int (nI i))]) hx hb dX6_isRight_21 rfl hl (by decide) rfl (fun ls hl => ?_)
  refine lv_aload_n hx hb dX6_isRight_22 rfl (lv_at hl 2 rfl) ?_
  refine lv_iload_n hx hb dX6_isRight_23 rfl (lv_at hl 1 rfl) ?_
  refine cVr (As := [.int (nI (ln F i))]) (rest := []) ⟨hx, hb, hml, hown, hts⟩ hP hK hD hS hN hA (mX6_sum l D G mo sa be ke te kn ty ik n tn k N Z S P V F po rd al (ln F i) (by first | assumption | omega) (by first | assumption | omega)) (cwV 1 hts gX6_isRight_X6_sum rfl rfl rfl (by decide +kernel) ⟨Nat.le_of_ble_eq_true rfl, Nat.le_of_ble_eq_true rfl⟩) [0, 1] rfl (by decide) 0 6 rfl rfl rfl hl.1 rfl (Nat.le_of_ble_eq_true rfl) dX6_isRight_24 ⟨Nat.zero_le _, Nat.zero_le _⟩ (fun H locs hP hS => ?_)
  refine lv_aload_n hx hb dX6_isRight_27 rfl (lv_at hl 2 rfl) ?_
  refine va_get (D := D) (ci := 6) (v := .ref sa) (C := RX6) (T := TX6) (N := 7) hx hb hts inX6 hown hK hP 0 rfl rfl 0 (by decide) k7 (fun _ h9 => h9) rfl dX6_isRight_28 ?_
  refine lv_iload_n hx hb dX6_isRight_31 rfl (lv_at hl 3 rfl) ?_
  refine lv_iconst (v := nI 4) hx hb dX6_isRight_32 (by decide +kernel) ?_
  refine cSr (As := [.int (nI i), .int (nI 4)]) (rest := [.ref sa, .int (sL n N (ln F i))]) ⟨hx, hb, hml, hown, hts⟩ hP hK hD hS hN hA (mX6_of l D G i 4 ) (cwS 2 hts gX6_isRight_X6_of rfl rfl rfl (by decide +kernel) ⟨Nat.le_of_ble_eq_true rfl, Nat.le_of_ble_eq_true rfl⟩) [] rfl (by decide) rfl hl.1 rfl (Nat.le_of_ble_eq_true rfl) dX6_isRight_33 ⟨Nat.zero_le _, Nat.zero_le _⟩ (fun H locs hP hS => ?_)
  refine rIald hx hb hK hP 1 rfl (47 + 7 * i + 4) (by omega) (by decide) dX6_isRight_36 ?_
  refine rTop (enc_F n N Z tn po rd al k S P V F i 4 (by omega) (by omega)) ?_
  refine lv_isub hx hb dX6_isRight_37 ?_
  refine lv_istore (lv' := [(4, .int (sL n N (ln F i) - F i 4)), (3, .int (F i 2)), (2, .int (nI (ln F i))), (0, .ref mo), (1, .int (nI i))]) hx hb dX6_isRight_38 hl (by decide) rfl (fun ls hl => ?_)
  refine lv_iload_n hx hb dX6_isRight_40 rfl (lv_at hl 1 rfl) ?_
  refine lv_if_ne (tgt := 60) hx hb dX6_isRight_41 (by decide)  (fun c1 => ?_) (fun c1 => ?_)
  · refine lv_iload_n hx hb dX6_isRight_60 rfl (lv_at hl 1 rfl) ?_
    refine lv_iconst (v := nI 1) hx hb dX6_isRight_61 (by decide +kernel) ?_
    refine lv_icmp_ne (tgt := 78) hx hb dX6_isRight_62 (by decide)  (fun c2 => ?_) (fun c2 => ?_)
    · refine lv_iload hx hb dX6_isRight_78 (lv_at hl 0 rfl) ?_
      refine lv_if_ge (tgt := 87) hx hb dX6_isRight_80 (by decide)  (fun c3 => ?_) (fun c3 => ?_)
      · refine lv_iconst (v := nI 0) hx hb dX6_isRight_87 (by decide +kernel) ?_
        refine rTop (zB_0 (b := rgt n N F i) (by first | exact rgt_a (by assumption) (by assumption) | exact rgt_b (by assumption) (by assumption) | exact rgt_c hs1 hs2 (by assumption) (by assumption) (by assumption) | exact rgt_d hs1 hs2 (by assumption) (by assumption) (by assumption) | exact rgt_e hs1 hs2 (by assumption) (by assumption) (by assumption) | exact rgt_f hs1 hs2 (by assumption) (by assumption) (by assumption))) ?_
        exact rZret hx hb hr hlk hP hK hD hS dX6_isRight_88
      · refine lv_iconst (v := nI 1) hx hb dX6_isRight_83 (by decide +kernel) ?_
        refine lv_goto (tgt := 88) hx hb dX6_isRight_84 (by decide) ?_
        refine rTop (zB_1 (b := rgt n N F i) (by first | exact rgt_a (by assumption) (by assumption) | exact rgt_b (by assumption) (by assumption) | exact rgt_c hs1 hs2 (by assumption) (by assumption) (by assumption) | exact rgt_d hs1 hs2 (by assumption) (by assumption) (by assumption) | exact rgt_e hs1 hs2 (by assumption) (by assumption) (by assumption) | exact rgt_f hs1 hs2 (by assumption) (by assumption) (by assumption))) ?_
        exact rZret hx hb hr hlk hP hK hD hS dX6_isRight_88
    · refine lv_iload hx hb dX6_isRight_65 (lv_at hl 0 rfl) ?_
      refine lv_if_le (tgt := 74) hx hb dX6_isRight_67 (by decide)  (fun c4 => ?_) (fun c4 => ?_)
      · refine lv_iconst (v := nI 0) hx hb dX6_isRight_74 (by decide +kernel) ?_
        refine lv_goto (tgt := 88) hx hb dX6_isRight_75 (by decide) ?_
        refine rTop (zB_0 (b := rgt n N F i) (by first | exact rgt_a (by assumption) (by assumption) | exact rgt_b (by assumption) (by assumption) | exact rgt_c hs1 hs2 (by assumption) (by assumption) (by assumption) | exact rgt_d hs1 hs2 (by assumption) (by assumption) (by assumption) | exact rgt_e hs1 hs2 (by assumption) (by assumption) (by assumption) | exact rgt_f hs1 hs2 (by assumption) (by assumption) (by assumption))) ?_
        exact rZret hx hb hr hlk hP hK hD hS dX6_isRight_88
      · refine lv_iconst (v := nI 1) hx hb dX6_isRight_70 (by decide +kernel) ?_
        refine lv_goto (tgt := 88) hx hb dX6_isRight_71 (by decide) ?_
        refine rTop (zB_1 (b := rgt n N F i) (by first | exact rgt_a (by assumption) (by assumption) | exact rgt_b (by assumption) (by assumption) | exact rgt_c hs1 hs2 (by assumption) (by assumption) (by assumption) | exact rgt_d hs1 hs2 (by assumption) (by assumption) (by assumption) | exact rgt_e hs1 hs2 (by assumption) (by assumption) (by assumption) | exact rgt_f hs1 hs2 (by assumption) (by assumption) (by assumption))) ?_
        exact rZret hx hb hr hlk hP hK hD hS dX6_isRight_88
  · refine lv_aload_n hx hb dX6_isRight_44 rfl (lv_at hl 3 rfl) ?_
    refine lv_iload_n hx hb dX6_isRight_45 rfl (lv_at hl 2 rfl) ?_
    refine cVr (As := [.int (nI (ln F i))]) (rest := []) ⟨hx, hb, hml, hown, hts⟩ hP hK hD hS hN hA (mX6_off l D G mo sa be ke te kn ty ik n tn k N Z S P V F po rd al (ln F i) (by first | assumption | omega) (by first | assumption | omega)) (cwV 1 hts gX6_isRight_X6_off rfl rfl rfl (by decide +kernel) ⟨Nat.le_of_ble_eq_true rfl, Nat.le_of_ble_eq_true rfl⟩) [0, 1] rfl (by decide) 0 6 rfl rfl rfl hl.1 rfl (Nat.le_of_ble_eq_true rfl) dX6_isRight_46 ⟨Nat.zero_le _, Nat.zero_le _⟩ (fun H locs hP hS => ?_)
    refine lv_if_ne (tgt := 56) hx hb dX6_isRight_49 (by decide)  (fun c5 => ?_) (fun c5 => ?_)
    · refine lv_iconst (v := nI 0) hx hb dX6_isRight_56 (by decide +kernel) ?_
      refine lv_goto (tgt := 88) hx hb dX6_isRight_57 (by decide) ?_
      refine rTop (zB_0 (b := rgt n N F i) (by first | exact rgt_a (by assumption) (by assumption) | exact rgt_b (by assumption) (by assumption) | exact rgt_c hs1 hs2 (by assumption) (by assumption) (by assumption) | exact rgt_d hs1 hs2 (by assumption) (by assumption) (by assumption) | exact rgt_e hs1 hs2 (by assumption) (by assumption) (by assumption) | exact rgt_f hs1 hs2 (by assumption) (by assumption) (by assumption))) ?_
      exact rZret hx hb hr hlk hP hK hD hS dX6_isRight_88
    · refine lv_iconst (v := nI 1) hx hb dX6_isRight_52 (by decide +kernel) ?_
      refine lv_goto (tgt := 88) hx hb dX6_isRight_53 (by decide) ?_
      refine rTop (zB_1 (b := rgt n N F i) (by first | exact rgt_a (by assumption) (by assumption) | exact rgt_b (by assumption) (by assumption) | exact rgt_c hs1 hs2 (by assumption) (by assumption) (by assumption) | exact rgt_d hs1 hs2 (by assumption) (by assumption) (by assumption) | exact rgt_e hs1 hs2 (by assumption) (by assumption) (by assumption) | exact rgt_f hs1 hs2 (by assumption) (by assumption) (by assumption))) ?_
      exact rZret hx hb hr hlk hP hK hD hS dX6_isRight_88
