set_option maxHeartbeats 4000000 in
set_option maxRecDepth 100000 in
theorem mX1_side (l : Launch) (D : va_G) (G : Nat → ClassId) (ob nu fr n : Nat) (N Z : Nat → Int32) (hn : n = 3 ∨ n = 4) : CT l yX1_side wsX1_side 0 0 D G [.ref ob] [(ob, .inr (1, [.int (nI n), .ref nu, .ref fr])), (nu, .inl (G 0, 16, .inl N)), (fr, .inl (G 0, 16, .inl Z))] [(ob, .inr (1, [.int (nI n), .ref nu, .ref fr])), (nu, .inl (G 0, 16, .inl N)), (fr, .inl (G 0, 16, .inl Z))] (some (.int (nI n))) := by
  refine CT.of (cc := cX1_side) (maxL := 1) (ret := (some .int)) (by decide) rfl RX1 rfl (Nat.le_of_ble_eq_true rfl) (fun pp ee s mm bl me cc A ls hx hb hr hml hts hown hlk hnm hA hP hK hD hN hS hl => ?_)
  have hl : lv_has ls 1 [(0, .ref ob)] := hl
  have hP : va_P D vwCl [(ob, .inr (1, [.int (nI n), .ref nu, .ref fr])), (nu, .inl (G 0, 16, .inl N)), (fr, .inl (G 0, 16, .inl Z))] s.heap := hP
  have inX1 : ∀ w ∈ wsX10, w ∈ wsX1_side := fun w h => List.mem_cons_of_mem _ (List.mem_append_right _ h)
  have k11 := hts (.fieldLink RX1 11 "SquareStakes$Square" "side" "I") (List.mem_of_getElem? (i := 1) rfl)
  refine lv_aload_n hx hb dX1_side_0 rfl (lv_at hl 0 rfl) ?_
  refine va_get (D := D) (ci := 1) (v := .int (nI n)) (C := RX1) (T := TX1) (N := 3) hx hb hts inX1 hown hK hP 0 rfl rfl 0 (by decide) k11 (fun _ h9 => h9) rfl dX1_side_1 ?_
  exact rIret hx hb hr hlk hP hK hD hS dX1_side_4

set_option maxHeartbeats 4000000 in
set_option maxRecDepth 100000 in
theorem mX1_cells (l : Launch) (D : va_G) (G : Nat → ClassId) (ob nu fr n : Nat) (N Z : Nat → Int32) (hn : n = 3 ∨ n = 4) : CT l yX1_cells wsX1_cells 0 0 D G [.ref ob] [(ob, .inr (1, [.int (nI n), .ref nu, .ref fr])), (nu, .inl (G 0, 16, .inl N)), (fr, .inl (G 0, 16, .inl Z))] [(ob, .inr (1, [.int (nI n), .ref nu, .ref fr])), (nu, .inl (G 0, 16, .inl N)), (fr, .inl (G 0, 16, .inl Z))] (some (.int (nI (n * n)))) := by
  refine CT.of (cc := cX1_cells) (maxL := 1) (ret := (some .int)) (by decide) rfl RX1 rfl (Nat.le_of_ble_eq_true rfl) (fun pp ee s mm bl me cc A ls hx hb hr hml hts hown hlk hnm hA hP hK hD hN hS hl => ?_)
  have hl : lv_has ls 1 [(0, .ref ob)] := hl
  have hP : va_P D vwCl [(ob, .inr (1, [.int (nI n), .ref nu, .ref fr])), (nu, .inl (G 0, 16, .inl N)), (fr, .inl (G 0, 16, .inl Z))] s.heap := hP
  have inX1 : ∀ w ∈ wsX10, w ∈ wsX1_cells := fun w h => List.mem_cons_of_mem _ (List.mem_append_right _ h)
  have k11 := hts (.fieldLink RX1 11 "SquareStakes$Square" "side" "I") (List.mem_of_getElem? (i := 1) rfl)
  have hn2 : n < 5 := by omega
  refine lv_aload_n hx hb dX1_cells_0 rfl (lv_at hl 0 rfl) ?_
  refine va_get (D := D) (ci := 1) (v := .int (nI n)) (C := RX1) (T := TX1) (N := 3) hx hb hts inX1 hown hK hP 0 rfl rfl 0 (by decide) k11 (fun _ h9 => h9) rfl dX1_cells_1 ?_
  refine lv_aload_n hx hb dX1_cells_4 rfl (lv_at hl 0 rfl) ?_
  refine va_get (D := D) (ci := 1) (v := .int (nI n)) (C := RX1) (T := TX1) (N := 3) hx hb hts inX1 hown hK hP 0 rfl rfl 0 (by decide) k11 (fun _ h9 => h9) rfl dX1_cells_5 ?_
  refine lv_imul hx hb dX1_cells_8 ?_
  refine rTop (show nI n * nI n = nI (n * n) from pk_mul n n) ?_
  exact rIret hx hb hr hlk hP hK hD hS dX1_cells_9

set_option maxHeartbeats 4000000 in
set_option maxRecDepth 100000 in
theorem mX1_lines (l : Launch) (D : va_G) (G : Nat → ClassId) (ob nu fr n : Nat) (N Z : Nat → Int32) (hn : n = 3 ∨ n = 4) : CT l yX1_lines wsX1_lines 0 0 D G [.ref ob] [(ob, .inr (1, [.int (nI n), .ref nu, .ref fr])), (nu, .inl (G 0, 16, .inl N)), (fr, .inl (G 0, 16, .inl Z))] [(ob, .inr (1, [.int (nI n), .ref nu, .ref fr])), (nu, .inl (G 0, 16, .inl N)), (fr, .inl (G 0, 16, .inl Z))] (some (.int (nI (2 * n + 2)))) := by
  refine CT.of (cc := cX1_lines) (maxL := 1) (ret := (some .int)) (by decide) rfl RX1 rfl (Nat.le_of_ble_eq_true rfl) (fun pp ee s mm bl me cc A ls hx hb hr hml hts hown hlk hnm hA hP hK hD hN hS hl => ?_)
  have hl : lv_has ls 1 [(0, .ref ob)] := hl
  have hP : va_P D vwCl [(ob, .inr (1, [.int (nI n), .ref nu, .ref fr])), (nu, .inl (G 0, 16, .inl N)), (fr, .inl (G 0, 16, .inl Z))] s.heap := hP
  have inX1 : ∀ w ∈ wsX10, w ∈ wsX1_lines := fun w h => List.mem_cons_of_mem _ (List.mem_append_right _ h)
  have k11 := hts (.fieldLink RX1 11 "SquareStakes$Square" "side" "I") (List.mem_of_getElem? (i := 1) rfl)
  refine lv_iconst (v := nI 2) hx hb dX1_lines_0 (by decide +kernel) ?_
  refine lv_aload_n hx hb dX1_lines_1 rfl (lv_at hl 0 rfl) ?_
  refine va_get (D := D) (ci := 1) (v := .int (nI n)) (C := RX1) (T := TX1) (N := 3) hx hb hts inX1 hown hK hP 0 rfl rfl 0 (by decide) k11 (fun _ h9 => h9) rfl dX1_lines_2 ?_
  refine lv_imul hx hb dX1_lines_5 ?_
  refine rTop (show nI 2 * nI n = nI (2 * n) from pk_mul 2 n) ?_
  refine lv_iconst (v := nI 2) hx hb dX1_lines_6 (by decide +kernel) ?_
  refine lv_iadd hx hb dX1_lines_7 ?_
  refine rTop (show nI (2 * n) + nI 2 = nI (2 * n + 2) from nI_add (2 * n) 2) ?_
  exact rIret hx hb hr hlk hP hK hD hS dX1_lines_8

set_option maxHeartbeats 4000000 in
set_option maxRecDepth 100000 in
theorem mX1_magicNumber (l : Launch) (D : va_G) (G : Nat → ClassId) (ob nu fr n : Nat) (N Z : Nat → Int32) (hn : n = 3 ∨ n = 4) : CT l yX1_magicNumber wsX1_magicNumber 0 0 D G [.ref ob] [(ob, .inr (1, [.int (nI n), .ref nu, .ref fr])), (nu, .inl (G 0, 16, .inl N)), (fr, .inl (G 0, 16, .inl Z))] [(ob, .inr (1, [.int (nI n), .ref nu, .ref fr])), (nu, .inl (G 0, 16, .inl N)), (fr, .inl (G 0, 16, .inl Z))] (some (.int (nI (mgN n)))) := by
  refine CT.of (cc := cX1_magicNumber) (maxL := 1) (ret := (some .int)) (by decide) rfl RX1 rfl (Nat.le_of_ble_eq_true rfl) (fun pp ee s mm bl me cc A ls hx hb hr hml hts hown hlk hnm hA hP hK hD hN hS hl => ?_)
  have hl : lv_has ls 1 [(0, .ref ob)] := hl
  have hP : va_P D vwCl [(ob, .inr (1, [.int (nI n), .ref nu, .ref fr])), (nu, .inl (G 0, 16, .inl N)), (fr, .inl (G 0, 16, .inl Z))] s.heap := hP
  have inX1 : ∀ w ∈ wsX10, w ∈ wsX1_magicNumber := fun w h => List.mem_cons_of_mem _ (List.mem_append_right _ h)
  have k11 := hts (.fieldLink RX1 11 "SquareStakes$Square" "side" "I") (List.mem_of_getElem? (i := 1) rfl)
  have hq : n * (n * n + 1) < 100 := by rcases hn with rfl | rfl <;> decide
  refine lv_aload_n hx hb dX1_magicNumber_0 rfl (lv_at hl 0 rfl) ?_
  refine va_get (D := D) (ci := 1) (v := .int (nI n)) (C := RX1) (T := TX1) (N := 3) hx hb hts inX1 hown hK hP 0 rfl rfl 0 (by decide) k11 (fun _ h9 => h9) rfl dX1_magicNumber_1 ?_
  refine lv_aload_n hx hb dX1_magicNumber_4 rfl (lv_at hl 0 rfl) ?_
  refine va_get (D := D) (ci := 1) (v := .int (nI n)) (C := RX1) (T := TX1) (N := 3) hx hb hts inX1 hown hK hP 0 rfl rfl 0 (by decide) k11 (fun _ h9 => h9) rfl dX1_magicNumber_5 ?_
  refine lv_aload_n hx hb dX1_magicNumber_8 rfl (lv_at hl 0 rfl) ?_
  refine va_get (D := D) (ci := 1) (v := .int (nI n)) (C := RX1) (T := TX1) (N := 3) hx hb hts inX1 hown hK hP 0 rfl rfl 0 (by decide) k11 (fun _ h9 => h9) rfl dX1_magicNumber_9 ?_
  refine lv_imul hx hb dX1_magicNumber_12 ?_
  refine rTop (show nI n * nI n = nI (n * n) from pk_mul n n) ?_
  refine lv_iconst (v := nI 1) hx hb dX1_magicNumber_13 (by decide +kernel) ?_
  refine lv_iadd hx hb dX1_magicNumber_14 ?_
  refine rTop (show nI (n * n) + nI 1 = nI (n * n + 1) from nI_add (n * n) 1) ?_
  refine lv_imul hx hb dX1_magicNumber_15 ?_
  refine rTop (show nI n * nI (n * n + 1) = nI (n * (n * n + 1)) from pk_mul n (n * n + 1)) ?_
  refine lv_iconst (v := nI 2) hx hb dX1_magicNumber_16 (by decide +kernel) ?_
  refine lv_idiv hx hb dX1_magicNumber_17 (nI_ne0 (by omega) (by omega)) ?_
  refine rTop (pk_div (a := n * (n * n + 1)) (d := 2) (by omega) (by omega) (by omega)) ?_
  refine rTop (show nI ((n * (n * n + 1)) / 2) = nI (mgN n) from rfl) ?_
  exact rIret hx hb hr hlk hP hK hD hS dX1_magicNumber_18

set_option maxHeartbeats 4000000 in
set_option maxRecDepth 100000 in
theorem mX1_hasCell (l : Launch) (D : va_G) (G : Nat → ClassId) (ob nu fr n : Nat) (N Z : Nat → Int32) (x : Int32) (hn : n = 3 ∨ n = 4) : CT l yX1_hasCell wsX1_hasCell 1 20 D G [.ref ob, .int x] [(ob, .inr (1, [.int (nI n), .ref nu, .ref fr])), (nu, .inl (G 0, 16, .inl N)), (fr, .inl (G 0, 16, .inl Z))] [(ob, .inr (1, [.int (nI n), .ref nu, .ref fr])), (nu, .inl (G 0, 16, .inl N)), (fr, .inl (G 0, 16, .inl Z))] (some (.int (zB (inB x (n * n))))) := by
  refine CT.of (cc := cX1_hasCell) (maxL := 2) (ret := (some .boolean)) (by decide) rfl RX1 rfl (Nat.le_of_ble_eq_true rfl) (fun pp ee s mm bl me cc A ls hx hb hr hml hts hown hlk hnm hA hP hK hD hN hS hl => ?_)
  have hl : lv_has ls 2 [(0, .ref ob), (1, .int x)] := hl
  have hP : va_P D vwCl [(ob, .inr (1, [.int (nI n), .ref nu, .ref fr])), (nu, .inl (G 0, 16, .inl N)), (fr, .inl (G 0, 16, .inl Z))] s.heap := hP
  have hq9 : n * n < 17 ∧ 0 < n * n := by rcases hn with rfl | rfl <;> decide
  refine lv_iload_n hx hb dX1_hasCell_0 rfl (lv_at hl 1 rfl) ?_
  refine lv_if_lt (tgt := 16) hx hb dX1_hasCell_1 (by decide)  (fun c1 => ?_) (fun c1 => ?_)
  · refine lv_iconst (v := nI 0) hx hb dX1_hasCell_16 (by decide +kernel) ?_
    refine rTop (zB_0 (b := inB x (n * n)) (by first | exact inB_of (by assumption) (by assumption) (by omega) | exact inB_neg (by assumption) | exact inB_big (by assumption) (by omega))) ?_
    exact rZret hx hb hr hlk hP hK hD hS dX1_hasCell_17
  · refine lv_iload_n hx hb dX1_hasCell_4 rfl (lv_at hl 1 rfl) ?_
    refine lv_aload_n hx hb dX1_hasCell_5 rfl (lv_at hl 0 rfl) ?_
    refine cVr (As := []) (rest := [.int x]) ⟨hx, hb, hml, hown, hts⟩ hP hK hD hS hN hA (mX1_cells l D G ob nu fr n N Z (by first | assumption | omega)) (cwV 0 hts gX1_hasCell_X1_cells rfl rfl rfl (by decide +kernel) ⟨Nat.le_of_ble_eq_true rfl, Nat.le_of_ble_eq_true rfl⟩) [0, 1, 2] rfl (by decide) 0 1 rfl rfl rfl hl.1 rfl (Nat.le_of_ble_eq_true rfl) dX1_hasCell_6 ⟨Nat.zero_le _, Nat.zero_le _⟩ (fun H locs hP hS => ?_)
    refine lv_icmp_ge (tgt := 16) hx hb dX1_hasCell_9 (by decide)  (fun c2 => ?_) (fun c2 => ?_)
    · refine lv_iconst (v := nI 0) hx hb dX1_hasCell_16 (by decide +kernel) ?_
      refine rTop (zB_0 (b := inB x (n * n)) (by first | exact inB_of (by assumption) (by assumption) (by omega) | exact inB_neg (by assumption) | exact inB_big (by assumption) (by omega))) ?_
      exact rZret hx hb hr hlk hP hK hD hS dX1_hasCell_17
    · refine lv_iconst (v := nI 1) hx hb dX1_hasCell_12 (by decide +kernel) ?_
      refine lv_goto (tgt := 17) hx hb dX1_hasCell_13 (by decide) ?_
      refine rTop (zB_1 (b := inB x (n * n)) (by first | exact inB_of (by assumption) (by assumption) (by omega) | exact inB_neg (by assumption) | exact inB_big (by assumption) (by omega))) ?_
      exact rZret hx hb hr hlk hP hK hD hS dX1_hasCell_17

set_option maxHeartbeats 4000000 in
set_option maxRecDepth 100000 in
theorem mX1_hasLine (l : Launch) (D : va_G) (G : Nat → ClassId) (ob nu fr n : Nat) (N Z : Nat → Int32) (x : Int32) (hn : n = 3 ∨ n = 4) : CT l yX1_hasLine wsX1_hasLine 1 20 D G [.ref ob, .int x] [(ob, .inr (1, [.int (nI n), .ref nu, .ref fr])), (nu, .inl (G 0, 16, .inl N)), (fr, .inl (G 0, 16, .inl Z))] [(ob, .inr (1, [.int (nI n), .ref nu, .ref fr])), (nu, .inl (G 0, 16, .inl N)), (fr, .inl (G 0, 16, .inl Z))] (some (.int (zB (inB x (2 * n + 2))))) := by
  refine CT.of (cc := cX1_hasLine) (maxL := 2) (ret := (some .boolean)) (by decide) rfl RX1 rfl (Nat.le_of_ble_eq_true rfl) (fun pp ee s mm bl me cc A ls hx hb hr hml hts hown hlk hnm hA hP hK hD hN hS hl => ?_)
  have hl : lv_has ls 2 [(0, .ref ob), (1, .int x)] := hl
  have hP : va_P D vwCl [(ob, .inr (1, [.int (nI n), .ref nu, .ref fr])), (nu, .inl (G 0, 16, .inl N)), (fr, .inl (G 0, 16, .inl Z))] s.heap := hP
  refine lv_iload_n hx hb dX1_hasLine_0 rfl (lv_at hl 1 rfl) ?_
  refine lv_if_lt (tgt := 16) hx hb dX1_hasLine_1 (by decide)  (fun c1 => ?_) (fun c1 => ?_)
  · refine lv_iconst (v := nI 0) hx hb dX1_hasLine_16 (by decide +kernel) ?_
    refine rTop (zB_0 (b := inB x (2 * n + 2)) (by first | exact inB_of (by assumption) (by assumption) (by omega) | exact inB_neg (by assumption) | exact inB_big (by assumption) (by omega))) ?_
    exact rZret hx hb hr hlk hP hK hD hS dX1_hasLine_17
  · refine lv_iload_n hx hb dX1_hasLine_4 rfl (lv_at hl 1 rfl) ?_
    refine lv_aload_n hx hb dX1_hasLine_5 rfl (lv_at hl 0 rfl) ?_
    refine cVr (As := []) (rest := [.int x]) ⟨hx, hb, hml, hown, hts⟩ hP hK hD hS hN hA (mX1_lines l D G ob nu fr n N Z (by first | assumption | omega)) (cwV 0 hts gX1_hasLine_X1_lines rfl rfl rfl (by decide +kernel) ⟨Nat.le_of_ble_eq_true rfl, Nat.le_of_ble_eq_true rfl⟩) [0, 1, 2] rfl (by decide) 0 1 rfl rfl rfl hl.1 rfl (Nat.le_of_ble_eq_true rfl) dX1_hasLine_6 ⟨Nat.zero_le _, Nat.zero_le _⟩ (fun H locs hP hS => ?_)
    refine lv_icmp_ge (tgt := 16) hx hb dX1_hasLine_9 (by decide)  (fun c2 => ?_) (fun c2 => ?_)
    · refine lv_iconst (v := nI 0) hx hb dX1_hasLine_16 (by decide +kernel) ?_
      refine rTop (zB_0 (b := inB x (2 * n + 2)) (by first | exact inB_of (by assumption) (by assumption) (by omega) | exact inB_neg (by assumption) | exact inB_big (by assumption) (by omega))) ?_
      exact rZret hx hb hr hlk hP hK hD hS dX1_hasLine_17
    · refine lv_iconst (v := nI 1) hx hb dX1_hasLine_12 (by decide +kernel) ?_
      refine lv_goto (tgt := 17) hx hb dX1_hasLine_13 (by decide) ?_
      refine rTop (zB_1 (b := inB x (2 * n + 2)) (by first | exact inB_of (by assumption) (by assumption) (by omega) | exact inB_neg (by assumption) | exact inB_big (by assumption) (by omega))) ?_
      exact rZret hx hb hr hlk hP hK hD hS dX1_hasLine_17

set_option maxHeartbeats 4000000 in
set_option maxRecDepth 100000 in
theorem mX1_numberAt (l : Launch) (D : va_G) (G : Nat → ClassId) (ob nu fr n : Nat) (N Z : Nat → Int32) (q : Nat) (hn : n = 3 ∨ n = 4) (hq : q < 16) : CT l yX1_numberAt wsX1_numberAt 0 0 D G [.ref ob, .int (nI q)] [(ob, .inr (1, [.int (nI n), .ref nu, .ref fr])), (nu, .inl (G 0, 16, .inl N)), (fr, .inl (G 0, 16, .inl Z))] [(ob, .inr (1, [.int (nI n), .ref nu, .ref fr])), (nu, .inl (G 0, 16, .inl N)), (fr, .inl (G 0, 16, .inl Z))] (some (.int (N q))) := by
  refine CT.of (cc := cX1_numberAt) (maxL := 2) (ret := (some .int)) (by decide) rfl RX1 rfl (Nat.le_of_ble_eq_true rfl) (fun pp ee s mm bl me cc A ls hx hb hr hml hts hown hlk hnm hA hP hK hD hN hS hl => ?_)
  have hl : lv_has ls 2 [(0, .ref ob), (1, .int (nI q))] := hl
  have hP : va_P D vwCl [(ob, .inr (1, [.int (nI n), .ref nu, .ref fr])), (nu, .inl (G 0, 16, .inl N)), (fr, .inl (G 0, 16, .inl Z))] s.heap := hP
  have inX1 : ∀ w ∈ wsX10, w ∈ wsX1_numberAt := fun w h => List.mem_cons_of_mem _ (List.mem_append_right _ h)
  have k15 := hts (.fieldLink RX1 15 "SquareStakes$Square" "numbers" "[I") (List.mem_of_getElem? (i := 1) rfl)
  refine lv_iload_n hx hb dX1_numberAt_0 rfl (lv_at hl 1 rfl) ?_
  refine iLt (tgt := 22) hx hb dX1_numberAt_1 (by decide) (by omega) ?_
  refine lv_iload_n hx hb dX1_numberAt_4 rfl (lv_at hl 1 rfl) ?_
  refine lv_aload_n hx hb dX1_numberAt_5 rfl (lv_at hl 0 rfl) ?_
  refine va_get (D := D) (ci := 1) (v := .ref nu) (C := RX1) (T := TX1) (N := 3) hx hb hts inX1 hown hK hP 0 rfl rfl 1 (by decide) k15 (fun _ h9 => h9) rfl dX1_numberAt_6 ?_
  refine va_alen (v := nI 16) hx hb hK hP 1 0 rfl rfl rfl dX1_numberAt_9 ?_
  refine bGe (tgt := 22) hx hb dX1_numberAt_10 (by decide) (by omega) (by omega) (fun c2 => by exfalso; omega) (fun c2 => ?_)
  refine lv_aload_n hx hb dX1_numberAt_13 rfl (lv_at hl 0 rfl) ?_
  refine va_get (D := D) (ci := 1) (v := .ref nu) (C := RX1) (T := TX1) (N := 3) hx hb hts inX1 hown hK hP 0 rfl rfl 1 (by decide) k15 (fun _ h9 => h9) rfl dX1_numberAt_14 ?_
  refine lv_iload_n hx hb dX1_numberAt_17 rfl (lv_at hl 1 rfl) ?_
  refine rIald hx hb hK hP 1 rfl q (by omega) (by decide) dX1_numberAt_18 ?_
  refine lv_goto (tgt := 23) hx hb dX1_numberAt_19 (by decide) ?_
  exact rIret hx hb hr hlk hP hK hD hS dX1_numberAt_23

set_option maxHeartbeats 4000000 in
set_option maxRecDepth 100000 in
theorem mX1_frozenFor (l : Launch) (D : va_G) (G : Nat → ClassId) (ob nu fr n : Nat) (N Z : Nat → Int32) (q : Nat) (hn : n = 3 ∨ n = 4) (hq : q < 16) : CT l yX1_frozenFor wsX1_frozenFor 0 0 D G [.ref ob, .int (nI q)] [(ob, .inr (1, [.int (nI n), .ref nu, .ref fr])), (nu, .inl (G 0, 16, .inl N)), (fr, .inl (G 0, 16, .inl Z))] [(ob, .inr (1, [.int (nI n), .ref nu, .ref fr])), (nu, .inl (G 0, 16, .inl N)), (fr, .inl (G 0, 16, .inl Z))] (some (.int (Z q))) := by
  refine CT.of (cc := cX1_frozenFor) (maxL := 2) (ret := (some .int)) (by decide) rfl RX1 rfl (Nat.le_of_ble_eq_true rfl) (fun pp ee s mm bl me cc A ls hx hb hr hml hts hown hlk hnm hA hP hK hD hN hS hl => ?_)
  have hl : lv_has ls 2 [(0, .ref ob), (1, .int (nI q))] := hl
  have hP : va_P D vwCl [(ob, .inr (1, [.int (nI n), .ref nu, .ref fr])), (nu, .inl (G 0, 16, .inl N)), (fr, .inl (G 0, 16, .inl Z))] s.heap := hP
  have inX1 : ∀ w ∈ wsX10, w ∈ wsX1_frozenFor := fun w h => List.mem_cons_of_mem _ (List.mem_append_right _ h)
  have k19 := hts (.fieldLink RX1 19 "SquareStakes$Square" "frozen" "[I") (List.mem_of_getElem? (i := 1) rfl)
  refine lv_iload_n hx hb dX1_frozenFor_0 rfl (lv_at hl 1 rfl) ?_
  refine iLt (tgt := 22) hx hb dX1_frozenFor_1 (by decide) (by omega) ?_
  refine lv_iload_n hx hb dX1_frozenFor_4 rfl (lv_at hl 1 rfl) ?_
  refine lv_aload_n hx hb dX1_frozenFor_5 rfl (lv_at hl 0 rfl) ?_
  refine va_get (D := D) (ci := 1) (v := .ref fr) (C := RX1) (T := TX1) (N := 3) hx hb hts inX1 hown hK hP 0 rfl rfl 2 (by decide) k19 (fun _ h9 => h9) rfl dX1_frozenFor_6 ?_
  refine va_alen (v := nI 16) hx hb hK hP 2 0 rfl rfl rfl dX1_frozenFor_9 ?_
  refine bGe (tgt := 22) hx hb dX1_frozenFor_10 (by decide) (by omega) (by omega) (fun c2 => by exfalso; omega) (fun c2 => ?_)
  refine lv_aload_n hx hb dX1_frozenFor_13 rfl (lv_at hl 0 rfl) ?_
  refine va_get (D := D) (ci := 1) (v := .ref fr) (C := RX1) (T := TX1) (N := 3) hx hb hts inX1 hown hK hP 0 rfl rfl 2 (by decide) k19 (fun _ h9 => h9) rfl dX1_frozenFor_14 ?_
  refine lv_iload_n hx hb dX1_frozenFor_17 rfl (lv_at hl 1 rfl) ?_
  refine rIald hx hb hK hP 2 rfl q (by omega) (by decide) dX1_frozenFor_18 ?_
  refine lv_goto (tgt := 23) hx hb dX1_frozenFor_19 (by decide) ?_
  exact rIret hx hb hr hlk hP hK hD hS dX1_frozenFor_23

set_option maxHeartbeats 4000000 in
set_option maxRecDepth 100000 in
theorem mX1_isFrozen (l : Launch) (D : va_G) (G : Nat → ClassId) (ob nu fr n : Nat) (N Z : Nat → Int32) (q : Nat) (hn : n = 3 ∨ n = 4) (hq : q < 16) : CT l yX1_isFrozen wsX1_isFrozen 1 21 D G [.ref ob, .int (nI q)] [(ob, .inr (1, [.int (nI n), .ref nu, .ref fr])), (nu, .inl (G 0, 16, .inl N)), (fr, .inl (G 0, 16, .inl Z))] [(ob, .inr (1, [.int (nI n), .ref nu, .ref fr])), (nu, .inl (G 0, 16, .inl N)), (fr, .inl (G 0, 16, .inl Z))] (some (.int (zB (decide (0 < Z q))))) := by
  refine CT.of (cc := cX1_isFrozen) (maxL := 2) (ret := (some .boolean)) (by decide) rfl RX1 rfl (Nat.le_of_ble_eq_true rfl) (fun pp ee s mm bl me cc A ls hx hb hr hml hts hown hlk hnm hA hP hK hD hN hS hl => ?_)
  have hl : lv_has ls 2 [(0, .ref ob), (1, .int (nI q))] := hl
  have hP : va_P D vwCl [(ob, .inr (1, [.int (nI n), .ref nu, .ref fr])), (nu, .inl (G 0, 16, .inl N)), (fr, .inl (G 0, 16, .inl Z))] s.heap := hP
  refine lv_aload_n hx hb dX1_isFrozen_0 rfl (lv_at hl 0 rfl) ?_
  refine lv_iload_n hx hb dX1_isFrozen_1 rfl (lv_at hl 1 rfl) ?_
  refine cVr (As := [.int (nI q)]) (rest := []) ⟨hx, hb, hml, hown, hts⟩ hP hK hD hS hN hA (mX1_frozenFor l D G ob nu fr n N Z q (by first | assumption | omega) (by first | assumption | omega)) (cwV 1 hts gX1_isFrozen_X1_frozenFor rfl rfl rfl (by decide +kernel) ⟨Nat.le_of_ble_eq_true rfl, Nat.le_of_ble_eq_true rfl⟩) [0, 1, 2] rfl (by decide) 0 1 rfl rfl rfl hl.1 rfl (Nat.le_of_ble_eq_true rfl) dX1_isFrozen_2 ⟨Nat.zero_le _, Nat.zero_le _⟩ (fun H locs hP hS => ?_)
  refine lv_if_le (tgt := 12) hx hb dX1_isFrozen_5 (by decide)  (fun c1 => ?_) (fun c1 => ?_)
  · refine lv_iconst (v := nI 0) hx hb dX1_isFrozen_12 (by decide +kernel) ?_
    refine rTop (zB_0 (b := decide (0 < Z q)) (by first | exact decide_eq_true (Int32.not_le.mp (by assumption)) | exact decide_eq_false (Int32.not_lt.mpr (by assumption)))) ?_
    exact rZret hx hb hr hlk hP hK hD hS dX1_isFrozen_13
  · refine lv_iconst (v := nI 1) hx hb dX1_isFrozen_8 (by decide +kernel) ?_
    refine lv_goto (tgt := 13) hx hb dX1_isFrozen_9 (by decide) ?_
    refine rTop (zB_1 (b := decide (0 < Z q)) (by first | exact decide_eq_true (Int32.not_le.mp (by assumption)) | exact decide_eq_false (Int32.not_lt.mpr (by assumption)))) ?_
    exact rZret hx hb hr hlk hP hK hD hS dX1_isFrozen_13

set_option maxHeartbeats 4000000 in
set_option maxRecDepth 100000 in
theorem mX1_cellOn (l : Launch) (D : va_G) (G : Nat → ClassId) (ob nu fr n : Nat) (N Z : Nat → Int32) (L q : Nat) (hn : n = 3 ∨ n = 4) (hL : L < 2 * n + 2) (hq : q < n) : CT l yX1_cellOn wsX1_cellOn 0 0 D G [.ref ob, .int (nI L), .int (nI q)] [(ob, .inr (1, [.int (nI n), .ref nu, .ref fr])), (nu, .inl (G 0, 16, .inl N)), (fr, .inl (G 0, 16, .inl Z))] [(ob, .inr (1, [.int (nI n), .ref nu, .ref fr])), (nu, .inl (G 0, 16, .inl N)), (fr, .inl (G 0, 16, .inl Z))] (some (.int (nI (cel n L q)))) := by
  refine CT.of (cc := cX1_cellOn) (maxL := 3) (ret := (some .int)) (by decide) rfl RX1 rfl (Nat.le_of_ble_eq_true rfl) (fun pp ee s mm bl me cc A ls hx hb hr hml hts hown hlk hnm hA hP hK hD hN hS hl => ?_)
  have hl : lv_has ls 3 [(0, .ref ob), (1, .int (nI L)), (2, .int (nI q))] := hl
  have hP : va_P D vwCl [(ob, .inr (1, [.int (nI n), .ref nu, .ref fr])), (nu, .inl (G 0, 16, .inl N)), (fr, .inl (G 0, 16, .inl Z))] s.heap := hP
  have inX1 : ∀ w ∈ wsX10, w ∈ wsX1_cellOn := fun w h => List.mem_cons_of_mem _ (List.mem_append_right _ h)
  have k11 := hts (.fieldLink RX1 11 "SquareStakes$Square" "side" "I") (List.mem_of_getElem? (i := 1) rfl)
  have hb1 : L * n < 100 := by rcases hn with rfl | rfl <;> omega
  have hb2 : q * n < 100 := by rcases hn with rfl | rfl <;> omega
  have hb3 : q * (n + 1) < 100 := by rcases hn with rfl | rfl <;> omega
  have hb4 : (q + 1) * (n - 1) < 100 := by rcases hn with rfl | rfl <;> omega
  refine lv_iload_n hx hb dX1_cellOn_0 rfl (lv_at hl 1 rfl) ?_
  refine lv_aload_n hx hb dX1_cellOn_1 rfl (lv_at hl 0 rfl) ?_
  refine va_get (D := D) (ci := 1) (v := .int (nI n)) (C := RX1) (T := TX1) (N := 3) hx hb hts inX1 hown hK hP 0 rfl rfl 0 (by decide) k11 (fun _ h9 => h9) rfl dX1_cellOn_2 ?_
  refine bGe (tgt := 17) hx hb dX1_cellOn_5 (by decide) (by omega) (by omega) (fun c1 => ?_) (fun c1 => ?_)
  · refine lv_iload_n hx hb dX1_cellOn_17 rfl (lv_at hl 1 rfl) ?_
    refine lv_iconst (v := nI 2) hx hb dX1_cellOn_18 (by decide +kernel) ?_
    refine lv_aload_n hx hb dX1_cellOn_19 rfl (lv_at hl 0 rfl) ?_
    refine va_get (D := D) (ci := 1) (v := .int (nI n)) (C := RX1) (T := TX1) (N := 3) hx hb hts inX1 hown hK hP 0 rfl rfl 0 (by decide) k11 (fun _ h9 => h9) rfl dX1_cellOn_20 ?_
    refine lv_imul hx hb dX1_cellOn_23 ?_
    refine rTop (show nI 2 * nI n = nI (2 * n) from pk_mul 2 n) ?_
    refine bGe (tgt := 41) hx hb dX1_cellOn_24 (by decide) (by omega) (by omega) (fun c2 => ?_) (fun c2 => ?_)
    · refine lv_iload_n hx hb dX1_cellOn_41 rfl (lv_at hl 1 rfl) ?_
      refine lv_iconst (v := nI 2) hx hb dX1_cellOn_42 (by decide +kernel) ?_
      refine lv_aload_n hx hb dX1_cellOn_43 rfl (lv_at hl 0 rfl) ?_
      refine va_get (D := D) (ci := 1) (v := .int (nI n)) (C := RX1) (T := TX1) (N := 3) hx hb hts inX1 hown hK hP 0 rfl rfl 0 (by decide) k11 (fun _ h9 => h9) rfl dX1_cellOn_44 ?_
      refine lv_imul hx hb dX1_cellOn_47 ?_
      refine rTop (show nI 2 * nI n = nI (2 * n) from pk_mul 2 n) ?_
      refine bNe (tgt := 60) hx hb dX1_cellOn_48 (by decide) (by omega) (by omega) (fun c3 => ?_) (fun c3 => ?_)
      · refine lv_iload_n hx hb dX1_cellOn_60 rfl (lv_at hl 2 rfl) ?_
        refine lv_iconst (v := nI 1) hx hb dX1_cellOn_61 (by decide +kernel) ?_
        refine lv_iadd hx hb dX1_cellOn_62 ?_
        refine rTop (show nI q + nI 1 = nI (q + 1) from nI_add q 1) ?_
        refine lv_aload_n hx hb dX1_cellOn_63 rfl (lv_at hl 0 rfl) ?_
        refine va_get (D := D) (ci := 1) (v := .int (nI n)) (C := RX1) (T := TX1) (N := 3) hx hb hts inX1 hown hK hP 0 rfl rfl 0 (by decide) k11 (fun _ h9 => h9) rfl dX1_cellOn_64 ?_
        refine lv_iconst (v := nI 1) hx hb dX1_cellOn_67 (by decide +kernel) ?_
        refine lv_isub hx hb dX1_cellOn_68 ?_
        refine rTop (show nI n - nI 1 = nI (n - 1) from pk_sub (by omega)) ?_
        refine lv_imul hx hb dX1_cellOn_69 ?_
        refine rTop (show nI (q + 1) * nI (n - 1) = nI ((q + 1) * (n - 1)) from pk_mul (q + 1) (n - 1)) ?_
        refine rTop (show nI ((q + 1) * (n - 1)) = nI (cel n L q) from by unfold cel; congr 1; split <;> first | rfl | omega | (split <;> first | rfl | omega | (split <;> first | rfl | omega))) ?_
        exact rIret hx hb hr hlk hP hK hD hS dX1_cellOn_70
      · refine lv_iload_n hx hb dX1_cellOn_51 rfl (lv_at hl 2 rfl) ?_
        refine lv_aload_n hx hb dX1_cellOn_52 rfl (lv_at hl 0 rfl) ?_
        refine va_get (D := D) (ci := 1) (v := .int (nI n)) (C := RX1) (T := TX1) (N := 3) hx hb hts inX1 hown hK hP 0 rfl rfl 0 (by decide) k11 (fun _ h9 => h9) rfl dX1_cellOn_53 ?_
        refine lv_iconst (v := nI 1) hx hb dX1_cellOn_56 (by decide +kernel) ?_
        refine lv_iadd hx hb dX1_cellOn_57 ?_
        refine rTop (show nI n + nI 1 = nI (n + 1) from nI_add n 1) ?_
        refine lv_imul hx hb dX1_cellOn_58 ?_
        refine rTop (show nI q * nI (n + 1) = nI (q * (n + 1)) from pk_mul q (n + 1)) ?_
        refine rTop (show nI (q * (n + 1)) = nI (cel n L q) from by unfold cel; congr 1; split <;> first | rfl | omega | (split <;> first | rfl | omega | (split <;> first | rfl | omega))) ?_
        exact rIret hx hb hr hlk hP hK hD hS dX1_cellOn_59
    · refine lv_iload_n hx hb dX1_cellOn_27 rfl (lv_at hl 2 rfl) ?_
      refine lv_aload_n hx hb dX1_cellOn_28 rfl (lv_at hl 0 rfl) ?_
      refine va_get (D := D) (ci := 1) (v := .int (nI n)) (C := RX1) (T := TX1) (N := 3) hx hb hts inX1 hown hK hP 0 rfl rfl 0 (by decide) k11 (fun _ h9 => h9) rfl dX1_cellOn_29 ?_
      refine lv_imul hx hb dX1_cellOn_32 ?_
      refine rTop (show nI q * nI n = nI (q * n) from pk_mul q n) ?_
      refine lv_iload_n hx hb dX1_cellOn_33 rfl (lv_at hl 1 rfl) ?_
      refine lv_iadd hx hb dX1_cellOn_34 ?_
      refine rTop (show nI (q * n) + nI L = nI (q * n + L) from nI_add (q * n) L) ?_
      refine lv_aload_n hx hb dX1_cellOn_35 rfl (lv_at hl 0 rfl) ?_
      refine va_get (D := D) (ci := 1) (v := .int (nI n)) (C := RX1) (T := TX1) (N := 3) hx hb hts inX1 hown hK hP 0 rfl rfl 0 (by decide) k11 (fun _ h9 => h9) rfl dX1_cellOn_36 ?_
      refine lv_isub hx hb dX1_cellOn_39 ?_
      refine rTop (show nI (q * n + L) - nI n = nI (q * n + L - n) from pk_sub (by omega)) ?_
      refine rTop (show nI (q * n + L - n) = nI (cel n L q) from by unfold cel; congr 1; split <;> first | rfl | omega | (split <;> first | rfl | omega | (split <;> first | rfl | omega))) ?_
      exact rIret hx hb hr hlk hP hK hD hS dX1_cellOn_40
  · refine lv_iload_n hx hb dX1_cellOn_8 rfl (lv_at hl 1 rfl) ?_
    refine lv_aload_n hx hb dX1_cellOn_9 rfl (lv_at hl 0 rfl) ?_
    refine va_get (D := D) (ci := 1) (v := .int (nI n)) (C := RX1) (T := TX1) (N := 3) hx hb hts inX1 hown hK hP 0 rfl rfl 0 (by decide) k11 (fun _ h9 => h9) rfl dX1_cellOn_10 ?_
    refine lv_imul hx hb dX1_cellOn_13 ?_
    refine rTop (show nI L * nI n = nI (L * n) from pk_mul L n) ?_
    refine lv_iload_n hx hb dX1_cellOn_14 rfl (lv_at hl 2 rfl) ?_
    refine lv_iadd hx hb dX1_cellOn_15 ?_
    refine rTop (show nI (L * n) + nI q = nI (L * n + q) from nI_add (L * n) q) ?_
    refine rTop (show nI (L * n + q) = nI (cel n L q) from by unfold cel; congr 1; split <;> first | rfl | omega | (split <;> first | rfl | omega | (split <;> first | rfl | omega))) ?_
    exact rIret hx hb hr hlk hP hK hD hS dX1_cellOn_16

set_option maxHeartbeats 4000000 in
set_option maxRecDepth 100000 in
theorem mX1_sumOf (l : Launch) (D : va_G) (G : Nat → ClassId) (ob nu fr n : Nat) (N Z : Nat → Int32) (L : Nat) (hn : n = 3 ∨ n = 4) (hL : L < 2 * n + 2) : CT l yX1_sumOf wsX1_sumOf 1 22 D G [.ref ob, .int (nI L)] [(ob, .inr (1, [.int (nI n), .ref nu, .ref fr])), (nu, .inl (G 0, 16, .inl N)), (fr, .inl (G 0, 16, .inl Z))] [(ob, .inr (1, [.int (nI n), .ref nu, .ref fr])), (nu, .inl (G 0, 16, .inl N)), (fr, .inl (G 0, 16, .inl Z))] (some (.int (sL n N L))) := by
  refine CT.of (cc := cX1_sumOf) (maxL := 4) (ret := (some .int)) (by decide) rfl RX1 rfl (Nat.le_of_ble_eq_true rfl) (fun pp ee s mm bl me cc A ls hx hb hr hml hts hown hlk hnm hA hP hK hD hN hS hl => ?_)
  have hl : lv_has ls 4 [(0, .ref ob), (1, .int (nI L))] := hl
  have hP : va_P D vwCl [(ob, .inr (1, [.int (nI n), .ref nu, .ref fr])), (nu, .inl (G 0, 16, .inl N)), (fr, .inl (G 0, 16, .inl Z))] s.heap := hP
  have inX1 : ∀ w ∈ wsX10, w ∈ wsX1_sumOf := fun w h => List.mem_cons_of_mem _ (List.mem_append_right _ h)
  have k11 := hts (.fieldLink RX1 11 "SquareStakes$Square" "side" "I") (List.mem_of_getElem? (i := 1) rfl)
  refine lv_iconst (v := nI 0) hx hb dX1_sumOf_0 (by decide +kernel) ?_
  refine lv_istore_n (lv' := [(2, .int (nI 0)), (0, .ref ob), (1, .int (nI L))]) hx hb dX1_sumOf_1 rfl hl (by decide) rfl (fun ls hl => ?_)
  refine lv_iconst (v := nI 0) hx hb dX1_sumOf_2 (by decide +kernel) ?_
  refine lv_istore_n (lv' := [(3, .int (nI 0)), (2, .int (nI 0)), (0, .ref ob), (1, .int (nI L))]) hx hb dX1_sumOf_3 rfl hl (by decide) rfl (fun ls hl => ?_)
  have LP4 : ∀ (nn4 k : Nat), k ≤ n → n < k + nn4  → ∀ (H : Heap) (locs : List Loc), va_P D vwCl [(ob, .inr (1, [.int (nI n), .ref nu, .ref fr])), (nu, .inl (G 0, 16, .inl N)), (fr, .inl (G 0, 16, .inl Z))] H → va_D A [(ob, .inr (1, [.int (nI n), .ref nu, .ref fr])), (nu, .inl (G 0, 16, .inl N)), (fr, .inl (G 0, 16, .inl Z))] → va_S A s.heap H locs → ∀ ls : Array Slot, lv_has ls 4 [(2, .int (sm n N L k)), (3, .int (nI k)), (0, .ref ob), (1, .int (nI L))] → W pp l ee (rmA 1 22) s mm ([.ref ob, .int (nI L)] : List Value).toArray bl me cc H locs 0 0 (MQ bl (Qres (some (.int (sL n N L))) D G [(ob, .inr (1, [.int (nI n), .ref nu, .ref fr])), (nu, .inl (G 0, 16, .inl N)), (fr, .inl (G 0, 16, .inl Z))] A) ([.ref ob, .int (nI L)] : List Value).toArray s 0 0 A) (F0 mm 4 ls []) := by
    intro nn4
    induction nn4 with
    | zero => intro k h1 h2; exact absurd h2 (by omega)
    | succ nn4 ih4 =>
      intro k hkk hnk  H locs hP hD hS ls hl
      refine lv_iload_n hx hb dX1_sumOf_4 rfl (lv_at hl 1 rfl) ?_
      refine lv_aload_n hx hb dX1_sumOf_5 rfl (lv_at hl 2 rfl) ?_
      refine va_get (D := D) (ci := 1) (v := .int (nI n)) (C := RX1) (T := TX1) (N := 3) hx hb hts inX1 hown hK hP 0 rfl rfl 0 (by decide) k11 (fun _ h9 => h9) rfl dX1_sumOf_6 ?_
      refine bGe (tgt := 31) hx hb dX1_sumOf_9 (by decide) (by omega) (by omega) (fun c1 => ?_) (fun c1 => ?_)
      · obtain rfl : n = k := by omega
        refine lv_iload_n hx hb dX1_sumOf_31 rfl (lv_at hl 0 rfl) ?_
        refine rTop (show sm n N L n = sL n N L from rfl) ?_
        exact rIret hx hb hr hlk hP hK hD hS dX1_sumOf_32
      · refine lv_iload_n hx hb dX1_sumOf_12 rfl (lv_at hl 0 rfl) ?_
        refine lv_aload_n hx hb dX1_sumOf_13 rfl (lv_at hl 2 rfl) ?_
        refine lv_aload_n hx hb dX1_sumOf_14 rfl (lv_at hl 2 rfl) ?_
        refine lv_iload_n hx hb dX1_sumOf_15 rfl (lv_at hl 3 rfl) ?_
        refine lv_iload_n hx hb dX1_sumOf_16 rfl (lv_at hl 1 rfl) ?_
        have hcel := cel_lt hn hL (show k < n by omega)
        have hq9 : n * n < 17 := by rcases hn with rfl | rfl <;> decide
        refine cVr (As := [.int (nI L), .int (nI k)]) (rest := [.ref ob, .int (sm n N L k)]) ⟨hx, hb, hml, hown, hts⟩ hP hK hD hS hN hA (mX1_cellOn l D G ob nu fr n N Z L k (by first | assumption | omega) (by first | assumption | omega) (by first | assumption | omega)) (cwV 2 hts gX1_sumOf_X1_cellOn rfl rfl rfl (by decide +kernel) ⟨Nat.le_of_ble_eq_true rfl, Nat.le_of_ble_eq_true rfl⟩) [0, 1, 2] rfl (by decide) 0 1 rfl rfl rfl hl.1 rfl (Nat.le_of_ble_eq_true rfl) dX1_sumOf_17 ⟨Nat.zero_le _, Nat.zero_le _⟩ (fun H locs hP hS => ?_)
        refine cVr (As := [.int (nI (cel n L k))]) (rest := [.int (sm n N L k)]) ⟨hx, hb, hml, hown, hts⟩ hP hK hD hS hN hA (mX1_numberAt l D G ob nu fr n N Z (cel n L k) (by first | assumption | omega) (by first | assumption | omega)) (cwV 1 hts gX1_sumOf_X1_numberAt rfl rfl rfl (by decide +kernel) ⟨Nat.le_of_ble_eq_true rfl, Nat.le_of_ble_eq_true rfl⟩) [0, 1, 2] rfl (by decide) 0 1 rfl rfl rfl hl.1 rfl (Nat.le_of_ble_eq_true rfl) dX1_sumOf_20 ⟨Nat.zero_le _, Nat.zero_le _⟩ (fun H locs hP hS => ?_)
        refine lv_iadd hx hb dX1_sumOf_23 ?_
        refine lv_istore_n (lv' := [(2, .int (sm n N L k + N (cel n L k))), (3, .int (nI k)), (0, .ref ob), (1, .int (nI L))]) hx hb dX1_sumOf_24 rfl hl (by decide) rfl (fun ls hl => ?_)
        refine lv_iinc (v := nI (k + 1)) (lv' := [(3, .int (nI (k + 1))), (2, .int (sm n N L k + N (cel n L k))), (0, .ref ob), (1, .int (nI L))]) hx hb dX1_sumOf_25 hl (k := 1) rfl (nI_inc k) (by decide) rfl (fun ls hl => ?_)
        refine lv_goto (tgt := 4) hx hb dX1_sumOf_28 (by decide) ?_
        exact ih4 (k + 1) (by omega) (by omega)  _ _ hP hD hS _ (lv_sub hl [1, 0, 2, 3] rfl)
  exact LP4 (n + 1 - 0) 0 (by omega) (by omega)  _ _ hP hD hS _ (lv_sub hl [1, 0, 2, 3] rfl)

set_option maxHeartbeats 4000000 in
set_option maxRecDepth 100000 in
theorem mX1_passesThrough (l : Launch) (D : va_G) (G : Nat → ClassId) (ob nu fr n : Nat) (N Z : Nat → Int32) (L q : Nat) (hn : n = 3 ∨ n = 4) (hL : L < 2 * n + 2) (hq : q < n * n) : CT l yX1_passesThrough wsX1_passesThrough 1 22 D G [.ref ob, .int (nI L), .int (nI q)] [(ob, .inr (1, [.int (nI n), .ref nu, .ref fr])), (nu, .inl (G 0, 16, .inl N)), (fr, .inl (G 0, 16, .inl Z))] [(ob, .inr (1, [.int (nI n), .ref nu, .ref fr])), (nu, .inl (G 0, 16, .inl N)), (fr, .inl (G 0, 16, .inl Z))] (some (.int (zB (isOn n L q)))) := by
  refine CT.of (cc := cX1_passesThrough) (maxL := 4) (ret := (some .boolean)) (by decide) rfl RX1 rfl (Nat.le_of_ble_eq_true rfl) (fun pp ee s mm bl me cc A ls hx hb hr hml hts hown hlk hnm hA hP hK hD hN hS hl => ?_)
  have hl : lv_has ls 4 [(0, .ref ob), (1, .int (nI L)), (2, .int (nI q))] := hl
  have hP : va_P D vwCl [(ob, .inr (1, [.int (nI n), .ref nu, .ref fr])), (nu, .inl (G 0, 16, .inl N)), (fr, .inl (G 0, 16, .inl Z))] s.heap := hP
  have inX1 : ∀ w ∈ wsX10, w ∈ wsX1_passesThrough := fun w h => List.mem_cons_of_mem _ (List.mem_append_right _ h)
  have k11 := hts (.fieldLink RX1 11 "SquareStakes$Square" "side" "I") (List.mem_of_getElem? (i := 1) rfl)
  refine lv_iconst (v := nI 0) hx hb dX1_passesThrough_0 (by decide +kernel) ?_
  refine lv_istore_n (lv' := [(3, .int (nI 0)), (0, .ref ob), (1, .int (nI L)), (2, .int (nI q))]) hx hb dX1_passesThrough_1 rfl hl (by decide) rfl (fun ls hl => ?_)
  have LP2 : ∀ (nn2 k : Nat), k ≤ n → n < k + nn2 → (onP n L q k = false) → ∀ (H : Heap) (locs : List Loc), va_P D vwCl [(ob, .inr (1, [.int (nI n), .ref nu, .ref fr])), (nu, .inl (G 0, 16, .inl N)), (fr, .inl (G 0, 16, .inl Z))] H → va_D A [(ob, .inr (1, [.int (nI n), .ref nu, .ref fr])), (nu, .inl (G 0, 16, .inl N)), (fr, .inl (G 0, 16, .inl Z))] → va_S A s.heap H locs → ∀ ls : Array Slot, lv_has ls 4 [(3, .int (nI k)), (0, .ref ob), (1, .int (nI L)), (2, .int (nI q))] → W pp l ee (rmA 1 22) s mm ([.ref ob, .int (nI L), .int (nI q)] : List Value).toArray bl me cc H locs 0 0 (MQ bl (Qres (some (.int (zB (isOn n L q)))) D G [(ob, .inr (1, [.int (nI n), .ref nu, .ref fr])), (nu, .inl (G 0, 16, .inl N)), (fr, .inl (G 0, 16, .inl Z))] A) ([.ref ob, .int (nI L), .int (nI q)] : List Value).toArray s 0 0 A) (F0 mm 2 ls []) := by
    intro nn2
    induction nn2 with
    | zero => intro k h1 h2; exact absurd h2 (by omega)
    | succ nn2 ih2 =>
      intro k hkk hnk hI H locs hP hD hS ls hl
      refine lv_iload_n hx hb dX1_passesThrough_2 rfl (lv_at hl 0 rfl) ?_
      refine lv_aload_n hx hb dX1_passesThrough_3 rfl (lv_at hl 1 rfl) ?_
      refine va_get (D := D) (ci := 1) (v := .int (nI n)) (C := RX1) (T := TX1) (N := 3) hx hb hts inX1 hown hK hP 0 rfl rfl 0 (by decide) k11 (fun _ h9 => h9) rfl dX1_passesThrough_4 ?_
      refine bGe (tgt := 28) hx hb dX1_passesThrough_7 (by decide) (by omega) (by omega) (fun c1 => ?_) (fun c1 => ?_)
      · obtain rfl : n = k := by omega
        refine lv_iconst (v := nI 0) hx hb dX1_passesThrough_28 (by decide +kernel) ?_
        refine rTop (zB_0 (b := isOn n L q) (by rw [← onP_is hn hL hq]; first | assumption | exact onP_hit (by assumption) (by assumption))) ?_
        exact rZret hx hb hr hlk hP hK hD hS dX1_passesThrough_29
      · refine lv_aload_n hx hb dX1_passesThrough_10 rfl (lv_at hl 1 rfl) ?_
        refine lv_iload_n hx hb dX1_passesThrough_11 rfl (lv_at hl 2 rfl) ?_
        refine lv_iload_n hx hb dX1_passesThrough_12 rfl (lv_at hl 0 rfl) ?_
        have hcel := cel_lt hn hL (show k < n by omega)
        have hq9 : n * n < 17 := by rcases hn with rfl | rfl <;> decide
        refine cVr (As := [.int (nI L), .int (nI k)]) (rest := []) ⟨hx, hb, hml, hown, hts⟩ hP hK hD hS hN hA (mX1_cellOn l D G ob nu fr n N Z L k (by first | assumption | omega) (by first | assumption | omega) (by first | assumption | omega)) (cwV 2 hts gX1_passesThrough_X1_cellOn rfl rfl rfl (by decide +kernel) ⟨Nat.le_of_ble_eq_true rfl, Nat.le_of_ble_eq_true rfl⟩) [0, 1, 2] rfl (by decide) 0 1 rfl rfl rfl hl.1 rfl (Nat.le_of_ble_eq_true rfl) dX1_passesThrough_13 ⟨Nat.zero_le _, Nat.zero_le _⟩ (fun H locs hP hS => ?_)
        refine lv_iload_n hx hb dX1_passesThrough_16 rfl (lv_at hl 3 rfl) ?_
        refine bNe (tgt := 22) hx hb dX1_passesThrough_17 (by decide) (by omega) (by omega) (fun c2 => ?_) (fun c2 => ?_)
        · refine lv_iinc (v := nI (k + 1)) (lv' := [(3, .int (nI (k + 1))), (0, .ref ob), (1, .int (nI L)), (2, .int (nI q))]) hx hb dX1_passesThrough_22 hl (k := 0) rfl (nI_inc k) (by decide) rfl (fun ls hl => ?_)
          refine lv_goto (tgt := 2) hx hb dX1_passesThrough_25 (by decide) ?_
          exact ih2 (k + 1) (by omega) (by omega) (onP_miss hI (by assumption)) _ _ hP hD hS _ (lv_sub hl [0, 1, 2, 3] rfl)
        · refine lv_iconst (v := nI 1) hx hb dX1_passesThrough_20 (by decide +kernel) ?_
          refine rTop (zB_1 (b := isOn n L q) (by rw [← onP_is hn hL hq]; first | assumption | exact onP_hit (by assumption) (by assumption))) ?_
          exact rZret hx hb hr hlk hP hK hD hS dX1_passesThrough_21
  exact LP2 (n + 1 - 0) 0 (by omega) (by omega) rfl _ _ hP hD hS _ (lv_sub hl [0, 1, 2, 3] rfl)

set_option maxHeartbeats 4000000 in
set_option maxRecDepth 100000 in
theorem mX1_differenceOf (l : Launch) (D : va_G) (G : Nat → ClassId) (ob nu fr n : Nat) (N Z : Nat → Int32) (L : Nat) (hn : n = 3 ∨ n = 4) (hL : L < 2 * n + 2) : CT l yX1_differenceOf wsX1_differenceOf 2 45 D G [.ref ob, .int (nI L)] [(ob, .inr (1, [.int (nI n), .ref nu, .ref fr])), (nu, .inl (G 0, 16, .inl N)), (fr, .inl (G 0, 16, .inl Z))] [(ob, .inr (1, [.int (nI n), .ref nu, .ref fr])), (nu, .inl (G 0, 16, .inl N)), (fr, .inl (G 0, 16, .inl Z))] (some (.int (dfL n N L))) := by
  refine CT.of (cc := cX1_differenceOf) (maxL := 2) (ret := (some .int)) (by decide) rfl RX1 rfl (Nat.le_of_ble_eq_true rfl) (fun pp ee s mm bl me cc A ls hx hb hr hml hts hown hlk hnm hA hP hK hD hN hS hl => ?_)
  have hl : lv_has ls 2 [(0, .ref ob), (1, .int (nI L))] := hl
  have hP : va_P D vwCl [(ob, .inr (1, [.int (nI n), .ref nu, .ref fr])), (nu, .inl (G 0, 16, .inl N)), (fr, .inl (G 0, 16, .inl Z))] s.heap := hP
  have lk62 := hts (.methodLink RX1 62 Lib.Math.abs.name) (List.mem_of_getElem? (i := 1) rfl)
  have st62 := hts (.static Lib.Math.abs.name) (List.mem_of_getElem? (i := 2) rfl)
  have in62 := hts (.initialized "java/lang/Math") (List.mem_of_getElem? (i := 3) rfl)
  have cd62 := hts (.code Lib.Math.abs.name Lib.Math.abs.code 1 (some .int)) (List.mem_of_getElem? (i := 4) rfl)
  refine lv_aload_n hx hb dX1_differenceOf_0 rfl (lv_at hl 0 rfl) ?_
  refine lv_iload_n hx hb dX1_differenceOf_1 rfl (lv_at hl 1 rfl) ?_
  refine cVr (As := [.int (nI L)]) (rest := []) ⟨hx, hb, hml, hown, hts⟩ hP hK hD hS hN hA (mX1_sumOf l D G ob nu fr n N Z L (by first | assumption | omega) (by first | assumption | omega)) (cwV 1 hts gX1_differenceOf_X1_sumOf rfl rfl rfl (by decide +kernel) ⟨Nat.le_of_ble_eq_true rfl, Nat.le_of_ble_eq_true rfl⟩) [0, 1, 2] rfl (by decide) 0 1 rfl rfl rfl hl.1 rfl (Nat.le_of_ble_eq_true rfl) dX1_differenceOf_2 ⟨Nat.zero_le _, Nat.zero_le _⟩ (fun H locs hP hS => ?_)
  refine lv_aload_n hx hb dX1_differenceOf_5 rfl (lv_at hl 0 rfl) ?_
  refine cVr (As := []) (rest := [.int (sL n N L)]) ⟨hx, hb, hml, hown, hts⟩ hP hK hD hS hN hA (mX1_magicNumber l D G ob nu fr n N Z (by first | assumption | omega)) (cwV 0 hts gX1_differenceOf_X1_magicNumber rfl rfl rfl (by decide +kernel) ⟨Nat.le_of_ble_eq_true rfl, Nat.le_of_ble_eq_true rfl⟩) [0, 1, 2] rfl (by decide) 0 1 rfl rfl rfl hl.1 rfl (Nat.le_of_ble_eq_true rfl) dX1_differenceOf_6 ⟨Nat.zero_le _, Nat.zero_le _⟩ (fun H locs hP hS => ?_)
  refine lv_isub hx hb dX1_differenceOf_9 ?_
  refine va_mabs hx hb (hml.trans hl.1.symm) hown lk62 st62 in62 cd62 (by decide) (Nat.le_of_ble_eq_true rfl) (Nat.le_of_ble_eq_true rfl) (Nat.le_of_ble_eq_true rfl) dX1_differenceOf_10 ?_
  refine rTop (show (if 0 ≤ (sL n N L - nI (mgN n)) then (sL n N L - nI (mgN n)) else 0 - (sL n N L - nI (mgN n))) = dfL n N L from rfl) ?_
  exact rIret hx hb hr hlk hP hK hD hS dX1_differenceOf_13

set_option maxHeartbeats 4000000 in
set_option maxRecDepth 100000 in
theorem mX1_isMagicLine (l : Launch) (D : va_G) (G : Nat → ClassId) (ob nu fr n : Nat) (N Z : Nat → Int32) (L : Nat) (hn : n = 3 ∨ n = 4) (hL : L < 2 * n + 2) : CT l yX1_isMagicLine wsX1_isMagicLine 2 45 D G [.ref ob, .int (nI L)] [(ob, .inr (1, [.int (nI n), .ref nu, .ref fr])), (nu, .inl (G 0, 16, .inl N)), (fr, .inl (G 0, 16, .inl Z))] [(ob, .inr (1, [.int (nI n), .ref nu, .ref fr])), (nu, .inl (G 0, 16, .inl N)), (fr, .inl (G 0, 16, .inl Z))] (some (.int (zB (mL n N L)))) := by
  refine CT.of (cc := cX1_isMagicLine) (maxL := 2) (ret := (some .boolean)) (by decide) rfl RX1 rfl (Nat.le_of_ble_eq_true rfl) (fun pp ee s mm bl me cc A ls hx hb hr hml hts hown hlk hnm hA hP hK hD hN hS hl => ?_)
  have hl : lv_has ls 2 [(0, .ref ob), (1, .int (nI L))] := hl
  have hP : va_P D vwCl [(ob, .inr (1, [.int (nI n), .ref nu, .ref fr])), (nu, .inl (G 0, 16, .inl N)), (fr, .inl (G 0, 16, .inl Z))] s.heap := hP
  refine lv_aload_n hx hb dX1_isMagicLine_0 rfl (lv_at hl 0 rfl) ?_
  refine lv_iload_n hx hb dX1_isMagicLine_1 rfl (lv_at hl 1 rfl) ?_
  refine cVr (As := [.int (nI L)]) (rest := []) ⟨hx, hb, hml, hown, hts⟩ hP hK hD hS hN hA (mX1_sumOf l D G ob nu fr n N Z L (by first | assumption | omega) (by first | assumption | omega)) (cwV 1 hts gX1_isMagicLine_X1_sumOf rfl rfl rfl (by decide +kernel) ⟨Nat.le_of_ble_eq_true rfl, Nat.le_of_ble_eq_true rfl⟩) [0, 1, 2] rfl (by decide) 0 1 rfl rfl rfl hl.1 rfl (Nat.le_of_ble_eq_true rfl) dX1_isMagicLine_2 ⟨Nat.zero_le _, Nat.zero_le _⟩ (fun H locs hP hS => ?_)
  refine lv_aload_n hx hb dX1_isMagicLine_5 rfl (lv_at hl 0 rfl) ?_
  refine cVr (As := []) (rest := [.int (sL n N L)]) ⟨hx, hb, hml, hown, hts⟩ hP hK hD hS hN hA (mX1_magicNumber l D G ob nu fr n N Z (by first | assumption | omega)) (cwV 0 hts gX1_isMagicLine_X1_magicNumber rfl rfl rfl (by decide +kernel) ⟨Nat.le_of_ble_eq_true rfl, Nat.le_of_ble_eq_true rfl⟩) [0, 1, 2] rfl (by decide) 0 1 rfl rfl rfl hl.1 rfl (Nat.le_of_ble_eq_true rfl) dX1_isMagicLine_6 ⟨Nat.zero_le _, Nat.zero_le _⟩ (fun H locs hP hS => ?_)
  refine lv_icmp_ne (tgt := 16) hx hb dX1_isMagicLine_9 (by decide)  (fun c1 => ?_) (fun c1 => ?_)
  · refine lv_iconst (v := nI 0) hx hb dX1_isMagicLine_16 (by decide +kernel) ?_
    refine rTop (zB_0 (b := mL n N L) (by first | exact decide_eq_true (by assumption) | exact decide_eq_false (by assumption))) ?_
    exact rZret hx hb hr hlk hP hK hD hS dX1_isMagicLine_17
  · refine lv_iconst (v := nI 1) hx hb dX1_isMagicLine_12 (by decide +kernel) ?_
    refine lv_goto (tgt := 17) hx hb dX1_isMagicLine_13 (by decide) ?_
    refine rTop (zB_1 (b := mL n N L) (by first | exact decide_eq_true (by assumption) | exact decide_eq_false (by assumption))) ?_
    exact rZret hx hb hr hlk hP hK hD hS dX1_isMagicLine_17
