set_option maxHeartbeats 4000000 in
set_option maxRecDepth 100000 in
theorem mX3_takeFrom (l : Launch) (D : va_G) (G : Nat → ClassId) (tb fa od k : Nat) (F : Nat → Nat → Int32) (O : Nat → UInt32) (tbx fax odx kx : Nat) (Fx : Nat → Nat → Int32) (Ox : Nat → UInt32)  : CT l yX3_takeFrom wsX3_takeFrom 1 40 D G [.ref tb, .ref tbx] [(tb, .inr (3, [.int (nI k), .ref fa, .ref od])), (fa, .inl (G 0, 50, .inl (fl F))), (od, .inl (G 1, 10, .inr (.inr (.inl O)))), (tbx, .inr (3, [.int (nI kx), .ref fax, .ref odx])), (fax, .inl (G 0, 50, .inl (fl Fx))), (odx, .inl (G 1, 10, .inr (.inr (.inl Ox))))] [(tb, .inr (3, [.int (nI kx), .ref fa, .ref od])), (fa, .inl (G 0, 50, .inl (fl Fx))), (od, .inl (G 1, 10, .inr (.inr (.inl Ox)))), (tbx, .inr (3, [.int (nI kx), .ref fax, .ref odx])), (fax, .inl (G 0, 50, .inl (fl Fx))), (odx, .inl (G 1, 10, .inr (.inr (.inl Ox))))] none := by
  refine CT.of (cc := cX3_takeFrom) (maxL := 2) (ret := none) (by decide) rfl RX3 rfl (Nat.le_of_ble_eq_true rfl) (fun pp ee s mm bl me cc A ls hx hb hr hml hts hown hlk hnm hA hP hK hD hN hS hl => ?_)
  have hl : lv_has ls 2 [(0, .ref tb), (1, .ref tbx)] := hl
  have hP : va_P D vwCl [(tb, .inr (3, [.int (nI k), .ref fa, .ref od])), (fa, .inl (G 0, 50, .inl (fl F))), (od, .inl (G 1, 10, .inr (.inr (.inl O)))), (tbx, .inr (3, [.int (nI kx), .ref fax, .ref odx])), (fax, .inl (G 0, 50, .inl (fl Fx))), (odx, .inl (G 1, 10, .inr (.inr (.inl Ox))))] s.heap := hP
  have inX3 : ∀ w ∈ wsX30, w ∈ wsX3_takeFrom := fun w h => List.mem_cons_of_mem _ (List.mem_append_right _ h)
  have k7 := hts (.fieldLink RX3 7 "SquareStakes$Table" "size" "I") (List.mem_of_getElem? (i := 1) rfl)
  have k13 := hts (.fieldLink RX3 13 "SquareStakes$Table" "facts" "[I") (List.mem_of_getElem? (i := 2) rfl)
  have lk21 := hts (.methodLink RX3 21 arraycopyName) (List.mem_of_getElem? (i := 3) rfl)
  have na21 := hts (.native arraycopyName) (List.mem_of_getElem? (i := 4) rfl)
  have st21 := hts (.static arraycopyName) (List.mem_of_getElem? (i := 5) rfl)
  have in21 := hts (.initialized "java/lang/System") (List.mem_of_getElem? (i := 6) rfl)
  have k17 := hts (.fieldLink RX3 17 "SquareStakes$Table" "odds" "[F") (List.mem_of_getElem? (i := 7) rfl)
  refine lv_aload_n hx hb dX3_takeFrom_0 rfl (lv_at hl 0 rfl) ?_
  refine lv_aload_n hx hb dX3_takeFrom_1 rfl (lv_at hl 1 rfl) ?_
  refine va_get (D := D) (ci := 3) (v := .int (nI kx)) (C := RX3) (T := TX3) (N := 3) hx hb hts inX3 hown hK hP 3 rfl rfl 0 (by decide) k7 (fun _ h9 => h9) rfl dX3_takeFrom_2 ?_
  refine va_put (D := D) (ci := 3) (v := .int (nI kx)) (ty := .int) (C := RX3) (T := TX3) (N := 3) hx hb hts inX3 tyX3 tyX3_ok nmX3 hown hK hP hD hS 0 rfl rfl 0 (by decide) k7 (fun _ h9 => h9) rfl (by decide +kernel) rfl rfl (Nat.le_of_ble_eq_true rfl) dX3_takeFrom_5 (fun H locs hP hD hS => ?_)
  have hP : va_P D vwCl [(tb, .inr (3, [.int (nI kx), .ref fa, .ref od])), (fa, .inl (G 0, 50, .inl (fl F))), (od, .inl (G 1, 10, .inr (.inr (.inl O)))), (tbx, .inr (3, [.int (nI kx), .ref fax, .ref odx])), (fax, .inl (G 0, 50, .inl (fl Fx))), (odx, .inl (G 1, 10, .inr (.inr (.inl Ox))))] H := hP
  have hD : va_D A [(tb, .inr (3, [.int (nI kx), .ref fa, .ref od])), (fa, .inl (G 0, 50, .inl (fl F))), (od, .inl (G 1, 10, .inr (.inr (.inl O)))), (tbx, .inr (3, [.int (nI kx), .ref fax, .ref odx])), (fax, .inl (G 0, 50, .inl (fl Fx))), (odx, .inl (G 1, 10, .inr (.inr (.inl Ox))))] := hD
  refine lv_aload_n hx hb dX3_takeFrom_8 rfl (lv_at hl 1 rfl) ?_
  refine va_get (D := D) (ci := 3) (v := .ref fax) (C := RX3) (T := TX3) (N := 3) hx hb hts inX3 hown hK hP 3 rfl rfl 1 (by decide) k13 (fun _ h9 => h9) rfl dX3_takeFrom_9 ?_
  refine lv_iconst (v := nI 0) hx hb dX3_takeFrom_12 (by decide +kernel) ?_
  refine lv_aload_n hx hb dX3_takeFrom_13 rfl (lv_at hl 0 rfl) ?_
  refine va_get (D := D) (ci := 3) (v := .ref fa) (C := RX3) (T := TX3) (N := 3) hx hb hts inX3 hown hK hP 0 rfl rfl 1 (by decide) k13 (fun _ h9 => h9) rfl dX3_takeFrom_14 ?_
  refine lv_iconst (v := nI 0) hx hb dX3_takeFrom_17 (by decide +kernel) ?_
  refine lv_bipush (v := nI 50) hx hb dX3_takeFrom_18 (by decide +kernel) ?_
  refine va_copyi hx hb (hml.trans hl.1.symm) hown lk21 na21 st21 in21 hK hP hD hS 4 1 0 0 rfl rfl rfl rfl rfl (by decide) (by decide) (by decide) (by decide) (by decide) (fun _ _ => rfl) (by decide) (Nat.le_of_ble_eq_true rfl) dX3_takeFrom_20 (fun H locs hP hD hS => ?_)
  obtain ⟨hP, hD⟩ := wI (g := fl Fx) hP hD 1 rfl (fun j hj => cpy_all hj)
  replace hP : va_P D vwCl [(tb, .inr (3, [.int (nI kx), .ref fa, .ref od])), (fa, .inl (G 0, 50, .inl (fl Fx))), (od, .inl (G 1, 10, .inr (.inr (.inl O)))), (tbx, .inr (3, [.int (nI kx), .ref fax, .ref odx])), (fax, .inl (G 0, 50, .inl (fl Fx))), (odx, .inl (G 1, 10, .inr (.inr (.inl Ox))))] _ := hP
  have hD : va_D A [(tb, .inr (3, [.int (nI kx), .ref fa, .ref od])), (fa, .inl (G 0, 50, .inl (fl Fx))), (od, .inl (G 1, 10, .inr (.inr (.inl O)))), (tbx, .inr (3, [.int (nI kx), .ref fax, .ref odx])), (fax, .inl (G 0, 50, .inl (fl Fx))), (odx, .inl (G 1, 10, .inr (.inr (.inl Ox))))] := hD
  refine lv_aload_n hx hb dX3_takeFrom_23 rfl (lv_at hl 1 rfl) ?_
  refine va_get (D := D) (ci := 3) (v := .ref odx) (C := RX3) (T := TX3) (N := 3) hx hb hts inX3 hown hK hP 3 rfl rfl 2 (by decide) k17 (fun _ h9 => h9) rfl dX3_takeFrom_24 ?_
  refine lv_iconst (v := nI 0) hx hb dX3_takeFrom_27 (by decide +kernel) ?_
  refine lv_aload_n hx hb dX3_takeFrom_28 rfl (lv_at hl 0 rfl) ?_
  refine va_get (D := D) (ci := 3) (v := .ref od) (C := RX3) (T := TX3) (N := 3) hx hb hts inX3 hown hK hP 0 rfl rfl 2 (by decide) k17 (fun _ h9 => h9) rfl dX3_takeFrom_29 ?_
  refine lv_iconst (v := nI 0) hx hb dX3_takeFrom_32 (by decide +kernel) ?_
  refine lv_bipush (v := nI 10) hx hb dX3_takeFrom_33 (by decide +kernel) ?_
  refine va_copyf hx hb (hml.trans hl.1.symm) hown lk21 na21 st21 in21 hK hP hD hS 5 2 1 1 rfl rfl rfl rfl rfl (by decide) (by decide) (by decide) (by decide) (by decide) (fun _ _ => rfl) (by decide) (Nat.le_of_ble_eq_true rfl) dX3_takeFrom_35 (fun H locs hP hD hS => ?_)
  obtain ⟨hP, hD⟩ := wF (g := Ox) hP hD 2 rfl (fun j hj => cpy_all hj)
  replace hP : va_P D vwCl [(tb, .inr (3, [.int (nI kx), .ref fa, .ref od])), (fa, .inl (G 0, 50, .inl (fl Fx))), (od, .inl (G 1, 10, .inr (.inr (.inl Ox)))), (tbx, .inr (3, [.int (nI kx), .ref fax, .ref odx])), (fax, .inl (G 0, 50, .inl (fl Fx))), (odx, .inl (G 1, 10, .inr (.inr (.inl Ox))))] _ := hP
  have hD : va_D A [(tb, .inr (3, [.int (nI kx), .ref fa, .ref od])), (fa, .inl (G 0, 50, .inl (fl Fx))), (od, .inl (G 1, 10, .inr (.inr (.inl Ox)))), (tbx, .inr (3, [.int (nI kx), .ref fax, .ref odx])), (fax, .inl (G 0, 50, .inl (fl Fx))), (odx, .inl (G 1, 10, .inr (.inr (.inl Ox))))] := hD
  exact rVret hx hb hr hlk hP hK hD hS dX3_takeFrom_38

set_option maxHeartbeats 4000000 in
set_option maxRecDepth 100000 in
theorem mX3_size (l : Launch) (D : va_G) (G : Nat → ClassId) (tb fa od k : Nat) (F : Nat → Nat → Int32) (O : Nat → UInt32) (hk : k ≤ 10) : CT l yX3_size wsX3_size 0 0 D G [.ref tb] [(tb, .inr (3, [.int (nI k), .ref fa, .ref od])), (fa, .inl (G 0, 50, .inl (fl F))), (od, .inl (G 1, 10, .inr (.inr (.inl O))))] [(tb, .inr (3, [.int (nI k), .ref fa, .ref od])), (fa, .inl (G 0, 50, .inl (fl F))), (od, .inl (G 1, 10, .inr (.inr (.inl O))))] (some (.int (nI k))) := by
  refine CT.of (cc := cX3_size) (maxL := 1) (ret := (some .int)) (by decide) rfl RX3 rfl (Nat.le_of_ble_eq_true rfl) (fun pp ee s mm bl me cc A ls hx hb hr hml hts hown hlk hnm hA hP hK hD hN hS hl => ?_)
  have hl : lv_has ls 1 [(0, .ref tb)] := hl
  have hP : va_P D vwCl [(tb, .inr (3, [.int (nI k), .ref fa, .ref od])), (fa, .inl (G 0, 50, .inl (fl F))), (od, .inl (G 1, 10, .inr (.inr (.inl O))))] s.heap := hP
  have inX3 : ∀ w ∈ wsX30, w ∈ wsX3_size := fun w h => List.mem_cons_of_mem _ (List.mem_append_right _ h)
  have k7 := hts (.fieldLink RX3 7 "SquareStakes$Table" "size" "I") (List.mem_of_getElem? (i := 1) rfl)
  refine lv_aload_n hx hb dX3_size_0 rfl (lv_at hl 0 rfl) ?_
  refine va_get (D := D) (ci := 3) (v := .int (nI k)) (C := RX3) (T := TX3) (N := 3) hx hb hts inX3 hown hK hP 0 rfl rfl 0 (by decide) k7 (fun _ h9 => h9) rfl dX3_size_1 ?_
  exact rIret hx hb hr hlk hP hK hD hS dX3_size_4

set_option maxHeartbeats 4000000 in
set_option maxRecDepth 100000 in
theorem mX3_isFull (l : Launch) (D : va_G) (G : Nat → ClassId) (tb fa od k : Nat) (F : Nat → Nat → Int32) (O : Nat → UInt32) (hk : k ≤ 10) : CT l yX3_isFull wsX3_isFull 0 0 D G [.ref tb] [(tb, .inr (3, [.int (nI k), .ref fa, .ref od])), (fa, .inl (G 0, 50, .inl (fl F))), (od, .inl (G 1, 10, .inr (.inr (.inl O))))] [(tb, .inr (3, [.int (nI k), .ref fa, .ref od])), (fa, .inl (G 0, 50, .inl (fl F))), (od, .inl (G 1, 10, .inr (.inr (.inl O))))] (some (.int (zB (decide (10 ≤ k))))) := by
  refine CT.of (cc := cX3_isFull) (maxL := 1) (ret := (some .boolean)) (by decide) rfl RX3 rfl (Nat.le_of_ble_eq_true rfl) (fun pp ee s mm bl me cc A ls hx hb hr hml hts hown hlk hnm hA hP hK hD hN hS hl => ?_)
  have hl : lv_has ls 1 [(0, .ref tb)] := hl
  have hP : va_P D vwCl [(tb, .inr (3, [.int (nI k), .ref fa, .ref od])), (fa, .inl (G 0, 50, .inl (fl F))), (od, .inl (G 1, 10, .inr (.inr (.inl O))))] s.heap := hP
  have inX3 : ∀ w ∈ wsX30, w ∈ wsX3_isFull := fun w h => List.mem_cons_of_mem _ (List.mem_append_right _ h)
  have k7 := hts (.fieldLink RX3 7 "SquareStakes$Table" "size" "I") (List.mem_of_getElem? (i := 1) rfl)
  refine lv_aload_n hx hb dX3_isFull_0 rfl (lv_at hl 0 rfl) ?_
  refine va_get (D := D) (ci := 3) (v := .int (nI k)) (C := RX3) (T := TX3) (N := 3) hx hb hts inX3 hown hK hP 0 rfl rfl 0 (by decide) k7 (fun _ h9 => h9) rfl dX3_isFull_1 ?_
  refine lv_bipush (v := nI 10) hx hb dX3_isFull_4 (by decide +kernel) ?_
  refine bLt (tgt := 13) hx hb dX3_isFull_6 (by decide) (by omega) (by omega) (fun c1 => ?_) (fun c1 => ?_)
  · refine lv_iconst (v := nI 0) hx hb dX3_isFull_13 (by decide +kernel) ?_
    refine rTop (zB_0 (b := decide (10 ≤ k)) (by first | exact decide_eq_true (by assumption) | exact decide_eq_false (by omega))) ?_
    exact rZret hx hb hr hlk hP hK hD hS dX3_isFull_14
  · refine lv_iconst (v := nI 1) hx hb dX3_isFull_9 (by decide +kernel) ?_
    refine lv_goto (tgt := 14) hx hb dX3_isFull_10 (by decide) ?_
    refine rTop (zB_1 (b := decide (10 ≤ k)) (by first | exact decide_eq_true (by assumption) | exact decide_eq_false (by omega))) ?_
    exact rZret hx hb hr hlk hP hK hD hS dX3_isFull_14

set_option maxHeartbeats 4000000 in
set_option maxRecDepth 100000 in
theorem mX3_hasStake (l : Launch) (D : va_G) (G : Nat → ClassId) (tb fa od k : Nat) (F : Nat → Nat → Int32) (O : Nat → UInt32) (x : Int32) (hk : k ≤ 10) : CT l yX3_hasStake wsX3_hasStake 0 0 D G [.ref tb, .int x] [(tb, .inr (3, [.int (nI k), .ref fa, .ref od])), (fa, .inl (G 0, 50, .inl (fl F))), (od, .inl (G 1, 10, .inr (.inr (.inl O))))] [(tb, .inr (3, [.int (nI k), .ref fa, .ref od])), (fa, .inl (G 0, 50, .inl (fl F))), (od, .inl (G 1, 10, .inr (.inr (.inl O))))] (some (.int (zB (inB x k)))) := by
  refine CT.of (cc := cX3_hasStake) (maxL := 2) (ret := (some .boolean)) (by decide) rfl RX3 rfl (Nat.le_of_ble_eq_true rfl) (fun pp ee s mm bl me cc A ls hx hb hr hml hts hown hlk hnm hA hP hK hD hN hS hl => ?_)
  have hl : lv_has ls 2 [(0, .ref tb), (1, .int x)] := hl
  have hP : va_P D vwCl [(tb, .inr (3, [.int (nI k), .ref fa, .ref od])), (fa, .inl (G 0, 50, .inl (fl F))), (od, .inl (G 1, 10, .inr (.inr (.inl O))))] s.heap := hP
  have inX3 : ∀ w ∈ wsX30, w ∈ wsX3_hasStake := fun w h => List.mem_cons_of_mem _ (List.mem_append_right _ h)
  have k7 := hts (.fieldLink RX3 7 "SquareStakes$Table" "size" "I") (List.mem_of_getElem? (i := 1) rfl)
  refine lv_iload_n hx hb dX3_hasStake_0 rfl (lv_at hl 1 rfl) ?_
  refine lv_if_lt (tgt := 16) hx hb dX3_hasStake_1 (by decide)  (fun c1 => ?_) (fun c1 => ?_)
  · refine lv_iconst (v := nI 0) hx hb dX3_hasStake_16 (by decide +kernel) ?_
    refine rTop (zB_0 (b := inB x k) (by first | exact inB_of (by assumption) (by assumption) (by omega) | exact inB_neg (by assumption) | exact inB_big (by assumption) (by omega))) ?_
    exact rZret hx hb hr hlk hP hK hD hS dX3_hasStake_17
  · refine lv_iload_n hx hb dX3_hasStake_4 rfl (lv_at hl 1 rfl) ?_
    refine lv_aload_n hx hb dX3_hasStake_5 rfl (lv_at hl 0 rfl) ?_
    refine va_get (D := D) (ci := 3) (v := .int (nI k)) (C := RX3) (T := TX3) (N := 3) hx hb hts inX3 hown hK hP 0 rfl rfl 0 (by decide) k7 (fun _ h9 => h9) rfl dX3_hasStake_6 ?_
    refine lv_icmp_ge (tgt := 16) hx hb dX3_hasStake_9 (by decide)  (fun c2 => ?_) (fun c2 => ?_)
    · refine lv_iconst (v := nI 0) hx hb dX3_hasStake_16 (by decide +kernel) ?_
      refine rTop (zB_0 (b := inB x k) (by first | exact inB_of (by assumption) (by assumption) (by omega) | exact inB_neg (by assumption) | exact inB_big (by assumption) (by omega))) ?_
      exact rZret hx hb hr hlk hP hK hD hS dX3_hasStake_17
    · refine lv_iconst (v := nI 1) hx hb dX3_hasStake_12 (by decide +kernel) ?_
      refine lv_goto (tgt := 17) hx hb dX3_hasStake_13 (by decide) ?_
      refine rTop (zB_1 (b := inB x k) (by first | exact inB_of (by assumption) (by assumption) (by omega) | exact inB_neg (by assumption) | exact inB_big (by assumption) (by omega))) ?_
      exact rZret hx hb hr hlk hP hK hD hS dX3_hasStake_17

set_option maxHeartbeats 4000000 in
set_option maxRecDepth 100000 in
theorem mX3_clear (l : Launch) (D : va_G) (G : Nat → ClassId) (tb fa od k : Nat) (F : Nat → Nat → Int32) (O : Nat → UInt32) (hk : k ≤ 10) : CT l yX3_clear wsX3_clear 0 0 D G [.ref tb] [(tb, .inr (3, [.int (nI k), .ref fa, .ref od])), (fa, .inl (G 0, 50, .inl (fl F))), (od, .inl (G 1, 10, .inr (.inr (.inl O))))] [(tb, .inr (3, [.int (nI 0), .ref fa, .ref od])), (fa, .inl (G 0, 50, .inl (fl F))), (od, .inl (G 1, 10, .inr (.inr (.inl O))))] none := by
  refine CT.of (cc := cX3_clear) (maxL := 1) (ret := none) (by decide) rfl RX3 rfl (Nat.le_of_ble_eq_true rfl) (fun pp ee s mm bl me cc A ls hx hb hr hml hts hown hlk hnm hA hP hK hD hN hS hl => ?_)
  have hl : lv_has ls 1 [(0, .ref tb)] := hl
  have hP : va_P D vwCl [(tb, .inr (3, [.int (nI k), .ref fa, .ref od])), (fa, .inl (G 0, 50, .inl (fl F))), (od, .inl (G 1, 10, .inr (.inr (.inl O))))] s.heap := hP
  have inX3 : ∀ w ∈ wsX30, w ∈ wsX3_clear := fun w h => List.mem_cons_of_mem _ (List.mem_append_right _ h)
  have k7 := hts (.fieldLink RX3 7 "SquareStakes$Table" "size" "I") (List.mem_of_getElem? (i := 1) rfl)
  refine lv_aload_n hx hb dX3_clear_0 rfl (lv_at hl 0 rfl) ?_
  refine lv_iconst (v := nI 0) hx hb dX3_clear_1 (by decide +kernel) ?_
  refine va_put (D := D) (ci := 3) (v := .int (nI 0)) (ty := .int) (C := RX3) (T := TX3) (N := 3) hx hb hts inX3 tyX3 tyX3_ok nmX3 hown hK hP hD hS 0 rfl rfl 0 (by decide) k7 (fun _ h9 => h9) rfl (by decide +kernel) rfl rfl (Nat.le_of_ble_eq_true rfl) dX3_clear_2 (fun H locs hP hD hS => ?_)
  have hP : va_P D vwCl [(tb, .inr (3, [.int (nI 0), .ref fa, .ref od])), (fa, .inl (G 0, 50, .inl (fl F))), (od, .inl (G 1, 10, .inr (.inr (.inl O))))] H := hP
  have hD : va_D A [(tb, .inr (3, [.int (nI 0), .ref fa, .ref od])), (fa, .inl (G 0, 50, .inl (fl F))), (od, .inl (G 1, 10, .inr (.inr (.inl O))))] := hD
  exact rVret hx hb hr hlk hP hK hD hS dX3_clear_5

set_option maxHeartbeats 4000000 in
set_option maxRecDepth 100000 in
theorem mX3_fact (l : Launch) (D : va_G) (G : Nat → ClassId) (tb fa od k : Nat) (F : Nat → Nat → Int32) (O : Nat → UInt32) (i b : Nat) (hk : k ≤ 10) (hi : i < 10) (hb5 : b < 5) : CT l yX3_fact wsX3_fact 0 0 D G [.ref tb, .int (nI i), .int (nI b)] [(tb, .inr (3, [.int (nI k), .ref fa, .ref od])), (fa, .inl (G 0, 50, .inl (fl F))), (od, .inl (G 1, 10, .inr (.inr (.inl O))))] [(tb, .inr (3, [.int (nI k), .ref fa, .ref od])), (fa, .inl (G 0, 50, .inl (fl F))), (od, .inl (G 1, 10, .inr (.inr (.inl O))))] (some (.int (F i b))) := by
  refine CT.of (cc := cX3_fact) (maxL := 4) (ret := (some .int)) (by decide) rfl RX3 rfl (Nat.le_of_ble_eq_true rfl) (fun pp ee s mm bl me cc A ls hx hb hr hml hts hown hlk hnm hA hP hK hD hN hS hl => ?_)
  have hl : lv_has ls 4 [(0, .ref tb), (1, .int (nI i)), (2, .int (nI b))] := hl
  have hP : va_P D vwCl [(tb, .inr (3, [.int (nI k), .ref fa, .ref od])), (fa, .inl (G 0, 50, .inl (fl F))), (od, .inl (G 1, 10, .inr (.inr (.inl O))))] s.heap := hP
  have inX3 : ∀ w ∈ wsX30, w ∈ wsX3_fact := fun w h => List.mem_cons_of_mem _ (List.mem_append_right _ h)
  have k13 := hts (.fieldLink RX3 13 "SquareStakes$Table" "facts" "[I") (List.mem_of_getElem? (i := 1) rfl)
  refine lv_iload_n hx hb dX3_fact_0 rfl (lv_at hl 1 rfl) ?_
  refine lv_iconst (v := nI 5) hx hb dX3_fact_1 (by decide +kernel) ?_
  refine lv_imul hx hb dX3_fact_2 ?_
  refine rTop (show nI i * nI 5 = nI (i * 5) from pk_mul i 5) ?_
  refine lv_iload_n hx hb dX3_fact_3 rfl (lv_at hl 2 rfl) ?_
  refine lv_iadd hx hb dX3_fact_4 ?_
  refine rTop (show nI (i * 5) + nI b = nI (i * 5 + b) from nI_add (i * 5) b) ?_
  refine lv_istore_n (lv' := [(3, .int (nI (i * 5 + b))), (0, .ref tb), (1, .int (nI i)), (2, .int (nI b))]) hx hb dX3_fact_5 rfl hl (by decide) rfl (fun ls hl => ?_)
  refine lv_iload_n hx hb dX3_fact_6 rfl (lv_at hl 0 rfl) ?_
  refine iLt (tgt := 28) hx hb dX3_fact_7 (by decide) (by omega) ?_
  refine lv_iload_n hx hb dX3_fact_10 rfl (lv_at hl 0 rfl) ?_
  refine lv_aload_n hx hb dX3_fact_11 rfl (lv_at hl 1 rfl) ?_
  refine va_get (D := D) (ci := 3) (v := .ref fa) (C := RX3) (T := TX3) (N := 3) hx hb hts inX3 hown hK hP 0 rfl rfl 1 (by decide) k13 (fun _ h9 => h9) rfl dX3_fact_12 ?_
  refine va_alen (v := nI 50) hx hb hK hP 1 0 rfl rfl rfl dX3_fact_15 ?_
  refine bGe (tgt := 28) hx hb dX3_fact_16 (by decide) (by omega) (by omega) (fun c2 => by exfalso; omega) (fun c2 => ?_)
  refine lv_aload_n hx hb dX3_fact_19 rfl (lv_at hl 1 rfl) ?_
  refine va_get (D := D) (ci := 3) (v := .ref fa) (C := RX3) (T := TX3) (N := 3) hx hb hts inX3 hown hK hP 0 rfl rfl 1 (by decide) k13 (fun _ h9 => h9) rfl dX3_fact_20 ?_
  refine lv_iload_n hx hb dX3_fact_23 rfl (lv_at hl 0 rfl) ?_
  refine rIald hx hb hK hP 1 rfl (i * 5 + b) (by omega) (by decide) dX3_fact_24 ?_
  refine lv_goto (tgt := 29) hx hb dX3_fact_25 (by decide) ?_
  refine rTop (show (fl F) (i * 5 + b) = F i b from fl_at F i b (by omega)) ?_
  exact rIret hx hb hr hlk hP hK hD hS dX3_fact_29

set_option maxHeartbeats 4000000 in
set_option maxRecDepth 100000 in
theorem mX3_putFact (l : Launch) (D : va_G) (G : Nat → ClassId) (tb fa od k : Nat) (F : Nat → Nat → Int32) (O : Nat → UInt32) (i b : Nat) (x : Int32) (hk : k ≤ 10) (hi : i < 10) (hb5 : b < 5) : CT l yX3_putFact wsX3_putFact 0 0 D G [.ref tb, .int (nI i), .int (nI b), .int x] [(tb, .inr (3, [.int (nI k), .ref fa, .ref od])), (fa, .inl (G 0, 50, .inl (fl F))), (od, .inl (G 1, 10, .inr (.inr (.inl O))))] [(tb, .inr (3, [.int (nI k), .ref fa, .ref od])), (fa, .inl (G 0, 50, .inl (fl (updF F i b x)))), (od, .inl (G 1, 10, .inr (.inr (.inl O))))] none := by
  refine CT.of (cc := cX3_putFact) (maxL := 5) (ret := none) (by decide) rfl RX3 rfl (Nat.le_of_ble_eq_true rfl) (fun pp ee s mm bl me cc A ls hx hb hr hml hts hown hlk hnm hA hP hK hD hN hS hl => ?_)
  have hl : lv_has ls 5 [(0, .ref tb), (1, .int (nI i)), (2, .int (nI b)), (3, .int x)] := hl
  have hP : va_P D vwCl [(tb, .inr (3, [.int (nI k), .ref fa, .ref od])), (fa, .inl (G 0, 50, .inl (fl F))), (od, .inl (G 1, 10, .inr (.inr (.inl O))))] s.heap := hP
  have inX3 : ∀ w ∈ wsX30, w ∈ wsX3_putFact := fun w h => List.mem_cons_of_mem _ (List.mem_append_right _ h)
  have k13 := hts (.fieldLink RX3 13 "SquareStakes$Table" "facts" "[I") (List.mem_of_getElem? (i := 1) rfl)
  refine lv_iload_n hx hb dX3_putFact_0 rfl (lv_at hl 1 rfl) ?_
  refine lv_iconst (v := nI 5) hx hb dX3_putFact_1 (by decide +kernel) ?_
  refine lv_imul hx hb dX3_putFact_2 ?_
  refine rTop (show nI i * nI 5 = nI (i * 5) from pk_mul i 5) ?_
  refine lv_iload_n hx hb dX3_putFact_3 rfl (lv_at hl 2 rfl) ?_
  refine lv_iadd hx hb dX3_putFact_4 ?_
  refine rTop (show nI (i * 5) + nI b = nI (i * 5 + b) from nI_add (i * 5) b) ?_
  refine lv_istore (lv' := [(4, .int (nI (i * 5 + b))), (0, .ref tb), (1, .int (nI i)), (2, .int (nI b)), (3, .int x)]) hx hb dX3_putFact_5 hl (by decide) rfl (fun ls hl => ?_)
  refine lv_iload hx hb dX3_putFact_7 (lv_at hl 0 rfl) ?_
  refine iLt (tgt := 30) hx hb dX3_putFact_9 (by decide) (by omega) ?_
  refine lv_iload hx hb dX3_putFact_12 (lv_at hl 0 rfl) ?_
  refine lv_aload_n hx hb dX3_putFact_14 rfl (lv_at hl 1 rfl) ?_
  refine va_get (D := D) (ci := 3) (v := .ref fa) (C := RX3) (T := TX3) (N := 3) hx hb hts inX3 hown hK hP 0 rfl rfl 1 (by decide) k13 (fun _ h9 => h9) rfl dX3_putFact_15 ?_
  refine va_alen (v := nI 50) hx hb hK hP 1 0 rfl rfl rfl dX3_putFact_18 ?_
  refine bGe (tgt := 30) hx hb dX3_putFact_19 (by decide) (by omega) (by omega) (fun c2 => by exfalso; omega) (fun c2 => ?_)
  refine lv_aload_n hx hb dX3_putFact_22 rfl (lv_at hl 1 rfl) ?_
  refine va_get (D := D) (ci := 3) (v := .ref fa) (C := RX3) (T := TX3) (N := 3) hx hb hts inX3 hown hK hP 0 rfl rfl 1 (by decide) k13 (fun _ h9 => h9) rfl dX3_putFact_23 ?_
  refine lv_iload hx hb dX3_putFact_26 (lv_at hl 0 rfl) ?_
  refine lv_iload_n hx hb dX3_putFact_28 rfl (lv_at hl 4 rfl) ?_
  refine rIast hx hb hK hP hD hS 1 rfl (i * 5 + b) (by omega) (by decide) dX3_putFact_29 (fun H locs hP hD hS => ?_)
  have hP : va_P D vwCl [(tb, .inr (3, [.int (nI k), .ref fa, .ref od])), (fa, .inl (G 0, 50, .inl (upd (fl F) (i * 5 + b) x))), (od, .inl (G 1, 10, .inr (.inr (.inl O))))] H := hP
  have hD : va_D A [(tb, .inr (3, [.int (nI k), .ref fa, .ref od])), (fa, .inl (G 0, 50, .inl (upd (fl F) (i * 5 + b) x))), (od, .inl (G 1, 10, .inr (.inr (.inl O))))] := hD
  obtain ⟨hP, hD⟩ := wI (g := fl (updF F i b x)) hP hD 1 rfl (fun j hj => fl_w (by omega))
  replace hP : va_P D vwCl [(tb, .inr (3, [.int (nI k), .ref fa, .ref od])), (fa, .inl (G 0, 50, .inl (fl (updF F i b x)))), (od, .inl (G 1, 10, .inr (.inr (.inl O))))] _ := hP
  have hD : va_D A [(tb, .inr (3, [.int (nI k), .ref fa, .ref od])), (fa, .inl (G 0, 50, .inl (fl (updF F i b x)))), (od, .inl (G 1, 10, .inr (.inr (.inl O))))] := hD
  exact rVret hx hb hr hlk hP hK hD hS dX3_putFact_30

set_option maxHeartbeats 4000000 in
set_option maxRecDepth 100000 in
theorem mX3_oddsOf (l : Launch) (D : va_G) (G : Nat → ClassId) (tb fa od k : Nat) (F : Nat → Nat → Int32) (O : Nat → UInt32) (i : Nat) (hk : k ≤ 10) (hi : i < 10) : CT l yX3_oddsOf wsX3_oddsOf 0 0 D G [.ref tb, .int (nI i)] [(tb, .inr (3, [.int (nI k), .ref fa, .ref od])), (fa, .inl (G 0, 50, .inl (fl F))), (od, .inl (G 1, 10, .inr (.inr (.inl O))))] [(tb, .inr (3, [.int (nI k), .ref fa, .ref od])), (fa, .inl (G 0, 50, .inl (fl F))), (od, .inl (G 1, 10, .inr (.inr (.inl O))))] (some (.float (O i))) := by
  refine CT.of (cc := cX3_oddsOf) (maxL := 2) (ret := (some .float)) (by decide) rfl RX3 rfl (Nat.le_of_ble_eq_true rfl) (fun pp ee s mm bl me cc A ls hx hb hr hml hts hown hlk hnm hA hP hK hD hN hS hl => ?_)
  have hl : lv_has ls 2 [(0, .ref tb), (1, .int (nI i))] := hl
  have hP : va_P D vwCl [(tb, .inr (3, [.int (nI k), .ref fa, .ref od])), (fa, .inl (G 0, 50, .inl (fl F))), (od, .inl (G 1, 10, .inr (.inr (.inl O))))] s.heap := hP
  have inX3 : ∀ w ∈ wsX30, w ∈ wsX3_oddsOf := fun w h => List.mem_cons_of_mem _ (List.mem_append_right _ h)
  have k17 := hts (.fieldLink RX3 17 "SquareStakes$Table" "odds" "[F") (List.mem_of_getElem? (i := 1) rfl)
  refine lv_iload_n hx hb dX3_oddsOf_0 rfl (lv_at hl 1 rfl) ?_
  refine iLt (tgt := 22) hx hb dX3_oddsOf_1 (by decide) (by omega) ?_
  refine lv_iload_n hx hb dX3_oddsOf_4 rfl (lv_at hl 1 rfl) ?_
  refine lv_aload_n hx hb dX3_oddsOf_5 rfl (lv_at hl 0 rfl) ?_
  refine va_get (D := D) (ci := 3) (v := .ref od) (C := RX3) (T := TX3) (N := 3) hx hb hts inX3 hown hK hP 0 rfl rfl 2 (by decide) k17 (fun _ h9 => h9) rfl dX3_oddsOf_6 ?_
  refine va_alen (v := nI 10) hx hb hK hP 2 1 rfl rfl rfl dX3_oddsOf_9 ?_
  refine bGe (tgt := 22) hx hb dX3_oddsOf_10 (by decide) (by omega) (by omega) (fun c2 => by exfalso; omega) (fun c2 => ?_)
  refine lv_aload_n hx hb dX3_oddsOf_13 rfl (lv_at hl 0 rfl) ?_
  refine va_get (D := D) (ci := 3) (v := .ref od) (C := RX3) (T := TX3) (N := 3) hx hb hts inX3 hown hK hP 0 rfl rfl 2 (by decide) k17 (fun _ h9 => h9) rfl dX3_oddsOf_14 ?_
  refine lv_iload_n hx hb dX3_oddsOf_17 rfl (lv_at hl 1 rfl) ?_
  refine rFald hx hb hK hP 2 rfl i (by omega) (by decide) dX3_oddsOf_18 ?_
  refine lv_goto (tgt := 23) hx hb dX3_oddsOf_19 (by decide) ?_
  exact rFret hx hb hr hlk hP hK hD hS dX3_oddsOf_23

set_option maxHeartbeats 4000000 in
set_option maxRecDepth 100000 in
theorem mX3_oddsFor (l : Launch) (D : va_G) (G : Nat → ClassId) (ob nu fr n : Nat) (N Z : Nat → Int32) (L : Nat) (kd : Int32) (hn : n = 3 ∨ n = 4) (hL : L < 2 * n + 2) (hN1 : NOK n N) : CT l yX3_oddsFor wsX3_oddsFor 4 88 D G [.int (nI L), .int kd, .ref ob] [(ob, .inr (1, [.int (nI n), .ref nu, .ref fr])), (nu, .inl (G 0, 16, .inl N)), (fr, .inl (G 0, 16, .inl Z))] [(ob, .inr (1, [.int (nI n), .ref nu, .ref fr])), (nu, .inl (G 0, 16, .inl N)), (fr, .inl (G 0, 16, .inl Z))] (some (.float (odf (ovr n N L kd) (und n kd)))) := by
  refine CT.of (cc := cX3_oddsFor) (maxL := 3) (ret := (some .float)) (by decide) rfl RX3 rfl (Nat.le_of_ble_eq_true rfl) (fun pp ee s mm bl me cc A ls hx hb hr hml hts hown hlk hnm hA hP hK hD hN hS hl => ?_)
  have hl : lv_has ls 3 [(0, .int (nI L)), (1, .int kd), (2, .ref ob)] := hl
  have hP : va_P D vwCl [(ob, .inr (1, [.int (nI n), .ref nu, .ref fr])), (nu, .inl (G 0, 16, .inl N)), (fr, .inl (G 0, 16, .inl Z))] s.heap := hP
  have k37 := hts (.constantFloat RX3 37 (1082130432)) (List.mem_of_getElem? (i := 1) rfl)
  refine lv_iload_n hx hb dX3_oddsFor_0 rfl (lv_at hl 1 rfl) ?_
  refine lv_if_ne (tgt := 16) hx hb dX3_oddsFor_1 (by decide)  (fun c1 => ?_) (fun c1 => ?_)
  · refine lv_fconst1 hx hb dX3_oddsFor_16 ?_
    refine lv_aload_n hx hb dX3_oddsFor_17 rfl (lv_at hl 2 rfl) ?_
    refine cVr (As := []) (rest := [.float FP.fconst1]) ⟨hx, hb, hml, hown, hts⟩ hP hK hD hS hN hA (mX1_magicLines l D G ob nu fr n N Z (by first | assumption | omega)) (cwV 0 hts gX3_oddsFor_X1_magicLines rfl rfl rfl (by decide +kernel) ⟨Nat.le_of_ble_eq_true rfl, Nat.le_of_ble_eq_true rfl⟩) [0, 1, 2] rfl (by decide) 0 1 rfl rfl rfl hl.1 rfl (Nat.le_of_ble_eq_true rfl) dX3_oddsFor_18 ⟨Nat.zero_le _, Nat.zero_le _⟩ (fun H locs hP hS => ?_)
    refine lv_i2f hx hb dX3_oddsFor_21 ?_
    refine lv_aload_n hx hb dX3_oddsFor_22 rfl (lv_at hl 2 rfl) ?_
    refine cVr (As := []) (rest := [.float (FP.i2f (nI (mcn n N))), .float FP.fconst1]) ⟨hx, hb, hml, hown, hts⟩ hP hK hD hS hN hA (mX1_lines l D G ob nu fr n N Z (by first | assumption | omega)) (cwV 0 hts gX3_oddsFor_X1_lines rfl rfl rfl (by decide +kernel) ⟨Nat.le_of_ble_eq_true rfl, Nat.le_of_ble_eq_true rfl⟩) [0, 1, 2] rfl (by decide) 0 1 rfl rfl rfl hl.1 rfl (Nat.le_of_ble_eq_true rfl) dX3_oddsFor_23 ⟨Nat.zero_le _, Nat.zero_le _⟩ (fun H locs hP hS => ?_)
    refine lv_i2f hx hb dX3_oddsFor_26 ?_
    refine lv_fdiv hx hb dX3_oddsFor_27 (nan_od3 hn) ?_
    refine lv_fadd hx hb dX3_oddsFor_28 (nan_od4 hn) ?_
    refine rTopF (show FP.fadd FP.fconst1 (FP.fdiv (FP.i2f (nI (mcn n N))) (FP.i2f (nI (2 * n + 2)))) = odf (ovr n N L kd) (und n kd) from (by rw [ovr, und, if_neg (by assumption), if_neg (by assumption)]; rfl)) ?_
    exact rFret hx hb hr hlk hP hK hD hS dX3_oddsFor_29
  · refine lv_fconst1 hx hb dX3_oddsFor_4 ?_
    refine lv_aload_n hx hb dX3_oddsFor_5 rfl (lv_at hl 2 rfl) ?_
    refine lv_iload_n hx hb dX3_oddsFor_6 rfl (lv_at hl 0 rfl) ?_
    refine cVr (As := [.int (nI L)]) (rest := [.float FP.fconst1]) ⟨hx, hb, hml, hown, hts⟩ hP hK hD hS hN hA (mX1_differenceOf l D G ob nu fr n N Z L (by first | assumption | omega) (by first | assumption | omega)) (cwV 1 hts gX3_oddsFor_X1_differenceOf rfl rfl rfl (by decide +kernel) ⟨Nat.le_of_ble_eq_true rfl, Nat.le_of_ble_eq_true rfl⟩) [0, 1, 2] rfl (by decide) 0 1 rfl rfl rfl hl.1 rfl (Nat.le_of_ble_eq_true rfl) dX3_oddsFor_7 ⟨Nat.zero_le _, Nat.zero_le _⟩ (fun H locs hP hS => ?_)
    refine lv_i2f hx hb dX3_oddsFor_10 ?_
    refine lv_ldcf hx hb hown k37 dX3_oddsFor_11 ?_
    refine lv_fdiv hx hb dX3_oddsFor_13 (nan_od1 hn hN1 hL) ?_
    refine lv_fadd hx hb dX3_oddsFor_14 (nan_od2 hn hN1 hL) ?_
    refine rTopF (show FP.fadd FP.fconst1 (FP.fdiv (FP.i2f (dfL n N L)) 1082130432) = odf (ovr n N L kd) (und n kd) from (by rw [ovr, und, if_pos (by assumption), if_pos (by assumption)]; exact odf_4 _)) ?_
    exact rFret hx hb hr hlk hP hK hD hS dX3_oddsFor_15

set_option maxHeartbeats 4000000 in
set_option maxRecDepth 100000 in
theorem mX3_isRight (l : Launch) (D : va_G) (G : Nat → ClassId) (tb fa od k : Nat) (F : Nat → Nat → Int32) (O : Nat → UInt32) (ob nu fr n : Nat) (N Z : Nat → Int32) (i : Nat) (hk : k ≤ 10) (hn : n = 3 ∨ n = 4) (hik : i < k) (hSO : SOK n k F) : CT l yX3_isRight wsX3_isRight 3 66 D G [.ref tb, .int (nI i), .ref ob] [(tb, .inr (3, [.int (nI k), .ref fa, .ref od])), (fa, .inl (G 0, 50, .inl (fl F))), (od, .inl (G 1, 10, .inr (.inr (.inl O)))), (ob, .inr (1, [.int (nI n), .ref nu, .ref fr])), (nu, .inl (G 0, 16, .inl N)), (fr, .inl (G 0, 16, .inl Z))] [(tb, .inr (3, [.int (nI k), .ref fa, .ref od])), (fa, .inl (G 0, 50, .inl (fl F))), (od, .inl (G 1, 10, .inr (.inr (.inl O)))), (ob, .inr (1, [.int (nI n), .ref nu, .ref fr])), (nu, .inl (G 0, 16, .inl N)), (fr, .inl (G 0, 16, .inl Z))] (some (.int (zB (rgt n N F i)))) := by
  refine CT.of (cc := cX3_isRight) (maxL := 4) (ret := (some .boolean)) (by decide) rfl RX3 rfl (Nat.le_of_ble_eq_true rfl) (fun pp ee s mm bl me cc A ls hx hb hr hml hts hown hlk hnm hA hP hK hD hN hS hl => ?_)
  have hl : lv_has ls 4 [(0, .ref tb), (1, .int (nI i)), (2, .ref ob)] := hl
  have hP : va_P D vwCl [(tb, .inr (3, [.int (nI k), .ref fa, .ref od])), (fa, .inl (G 0, 50, .inl (fl F))), (od, .inl (G 1, 10, .inr (.inr (.inl O)))), (ob, .inr (1, [.int (nI n), .ref nu, .ref fr])), (nu, .inl (G 0, 16, .inl N)), (fr, .inl (G 0, 16, .inl Z))] s.heap := hP
  obtain ⟨⟨hF1, hF2⟩, -⟩ := hSO i hik
  refine lv_aload_n hx hb dX3_isRight_0 rfl (lv_at hl 0 rfl) ?_
  refine lv_iload_n hx hb dX3_isRight_1 rfl (lv_at hl 1 rfl) ?_
  refine lv_iconst (v := nI 1) hx hb dX3_isRight_2 (by decide +kernel) ?_
  refine cVr (As := [.int (nI i), .int (nI 1)]) (rest := []) ⟨hx, hb, hml, hown, hts⟩ hP hK hD hS hN hA (mX3_fact l D G tb fa od k F O i 1 (by first | assumption | omega) (by first | assumption | omega) (by first | assumption | omega)) (cwV 2 hts gX3_isRight_X3_fact rfl rfl rfl (by decide +kernel) ⟨Nat.le_of_ble_eq_true rfl, Nat.le_of_ble_eq_true rfl⟩) [0, 1, 2] rfl (by decide) 0 3 rfl rfl rfl hl.1 rfl (Nat.le_of_ble_eq_true rfl) dX3_isRight_3 ⟨Nat.zero_le _, Nat.zero_le _⟩ (fun H locs hP hS => ?_)
  refine rTop (show F i 1 = nI (ln F i) from hF1) ?_
  refine lv_istore_n (lv' := [(3, .int (nI (ln F i))), (0, .ref tb), (1, .int (nI i)), (2, .ref ob)]) hx hb dX3_isRight_6 rfl hl (by decide) rfl (fun ls hl => ?_)
  refine lv_aload_n hx hb dX3_isRight_7 rfl (lv_at hl 1 rfl) ?_
  refine lv_iload_n hx hb dX3_isRight_8 rfl (lv_at hl 2 rfl) ?_
  refine lv_iconst (v := nI 2) hx hb dX3_isRight_9 (by decide +kernel) ?_
  refine cVr (As := [.int (nI i), .int (nI 2)]) (rest := []) ⟨hx, hb, hml, hown, hts⟩ hP hK hD hS hN hA (mX3_fact l D G tb fa od k F O i 2 (by first | assumption | omega) (by first | assumption | omega) (by first | assumption | omega)) (cwV 2 hts gX3_isRight_X3_fact rfl rfl rfl (by decide +kernel) ⟨Nat.le_of_ble_eq_true rfl, Nat.le_of_ble_eq_true rfl⟩) [0, 1, 2] rfl (by decide) 0 3 rfl rfl rfl hl.1 rfl (Nat.le_of_ble_eq_true rfl) dX3_isRight_10 ⟨Nat.zero_le _, Nat.zero_le _⟩ (fun H locs hP hS => ?_)
  by_cases sw13_0 : F i 2 = nI 0
  · refine rTop sw13_0 ?_
    refine lv_lookup (off := 27) (tgt := 40) hx hb dX3_isRight_13 (by decide) (by decide +kernel) (by decide) ?_
    refine lv_aload_n hx hb dX3_isRight_40 rfl (lv_at hl 3 rfl) ?_
    refine lv_iload_n hx hb dX3_isRight_41 rfl (lv_at hl 0 rfl) ?_
    refine cVr (As := [.int (nI (ln F i))]) (rest := []) ⟨hx, hb, hml, hown, hts⟩ hP hK hD hS hN hA (mX1_isMagicLine l D G ob nu fr n N Z (ln F i) (by first | assumption | omega) (by first | assumption | omega)) (cwV 1 hts gX3_isRight_X1_isMagicLine rfl rfl rfl (by decide +kernel) ⟨Nat.le_of_ble_eq_true rfl, Nat.le_of_ble_eq_true rfl⟩) [3, 4, 5] rfl (by decide) 3 1 rfl rfl rfl hl.1 rfl (Nat.le_of_ble_eq_true rfl) dX3_isRight_42 ⟨Nat.zero_le _, Nat.zero_le _⟩ (fun H locs hP hS => ?_)
    refine rTop (show zB (mL n N (ln F i)) = zB (rgt n N F i) from (by rw [rgt, if_pos sw13_0])) ?_
    exact rZret hx hb hr hlk hP hK hD hS dX3_isRight_45
  · by_cases sw13_1 : F i 2 = nI 1
    · refine rTop sw13_1 ?_
      refine lv_lookup (off := 33) (tgt := 46) hx hb dX3_isRight_13 (by decide) (by decide +kernel) (by decide) ?_
      refine lv_aload_n hx hb dX3_isRight_46 rfl (lv_at hl 3 rfl) ?_
      refine lv_iload_n hx hb dX3_isRight_47 rfl (lv_at hl 0 rfl) ?_
      refine cVr (As := [.int (nI (ln F i))]) (rest := []) ⟨hx, hb, hml, hown, hts⟩ hP hK hD hS hN hA (mX1_sumOf l D G ob nu fr n N Z (ln F i) (by first | assumption | omega) (by first | assumption | omega)) (cwV 1 hts gX3_isRight_X1_sumOf rfl rfl rfl (by decide +kernel) ⟨Nat.le_of_ble_eq_true rfl, Nat.le_of_ble_eq_true rfl⟩) [3, 4, 5] rfl (by decide) 3 1 rfl rfl rfl hl.1 rfl (Nat.le_of_ble_eq_true rfl) dX3_isRight_48 ⟨Nat.zero_le _, Nat.zero_le _⟩ (fun H locs hP hS => ?_)
      refine lv_aload_n hx hb dX3_isRight_51 rfl (lv_at hl 1 rfl) ?_
      refine lv_iload_n hx hb dX3_isRight_52 rfl (lv_at hl 2 rfl) ?_
      refine lv_iconst (v := nI 4) hx hb dX3_isRight_53 (by decide +kernel) ?_
      refine cVr (As := [.int (nI i), .int (nI 4)]) (rest := [.int (sL n N (ln F i))]) ⟨hx, hb, hml, hown, hts⟩ hP hK hD hS hN hA (mX3_fact l D G tb fa od k F O i 4 (by first | assumption | omega) (by first | assumption | omega) (by first | assumption | omega)) (cwV 2 hts gX3_isRight_X3_fact rfl rfl rfl (by decide +kernel) ⟨Nat.le_of_ble_eq_true rfl, Nat.le_of_ble_eq_true rfl⟩) [0, 1, 2] rfl (by decide) 0 3 rfl rfl rfl hl.1 rfl (Nat.le_of_ble_eq_true rfl) dX3_isRight_54 ⟨Nat.zero_le _, Nat.zero_le _⟩ (fun H locs hP hS => ?_)
      refine lv_icmp_le (tgt := 64) hx hb dX3_isRight_57 (by decide)  (fun c1 => ?_) (fun c1 => ?_)
      · refine lv_iconst (v := nI 0) hx hb dX3_isRight_64 (by decide +kernel) ?_
        refine rTop (zB_0 (b := rgt n N F i) (by rw [rgt, if_neg sw13_0, if_pos sw13_1]; first | exact decide_eq_true (Int32.not_le.mp (by assumption)) | exact decide_eq_false (Int32.not_lt.mpr (by assumption)))) ?_
        exact rZret hx hb hr hlk hP hK hD hS dX3_isRight_65
      · refine lv_iconst (v := nI 1) hx hb dX3_isRight_60 (by decide +kernel) ?_
        refine lv_goto (tgt := 65) hx hb dX3_isRight_61 (by decide) ?_
        refine rTop (zB_1 (b := rgt n N F i) (by rw [rgt, if_neg sw13_0, if_pos sw13_1]; first | exact decide_eq_true (Int32.not_le.mp (by assumption)) | exact decide_eq_false (Int32.not_lt.mpr (by assumption)))) ?_
        exact rZret hx hb hr hlk hP hK hD hS dX3_isRight_65
    · refine lv_lookup (off := 53) (tgt := 66) hx hb dX3_isRight_13 (by decide) (by rw [lv_osw sw13_0 (by decide +kernel), lv_osw sw13_1 (by decide +kernel)]; rfl) (by decide) ?_
      refine lv_aload_n hx hb dX3_isRight_66 rfl (lv_at hl 3 rfl) ?_
      refine lv_iload_n hx hb dX3_isRight_67 rfl (lv_at hl 0 rfl) ?_
      refine cVr (As := [.int (nI (ln F i))]) (rest := []) ⟨hx, hb, hml, hown, hts⟩ hP hK hD hS hN hA (mX1_sumOf l D G ob nu fr n N Z (ln F i) (by first | assumption | omega) (by first | assumption | omega)) (cwV 1 hts gX3_isRight_X1_sumOf rfl rfl rfl (by decide +kernel) ⟨Nat.le_of_ble_eq_true rfl, Nat.le_of_ble_eq_true rfl⟩) [3, 4, 5] rfl (by decide) 3 1 rfl rfl rfl hl.1 rfl (Nat.le_of_ble_eq_true rfl) dX3_isRight_68 ⟨Nat.zero_le _, Nat.zero_le _⟩ (fun H locs hP hS => ?_)
      refine lv_aload_n hx hb dX3_isRight_71 rfl (lv_at hl 1 rfl) ?_
      refine lv_iload_n hx hb dX3_isRight_72 rfl (lv_at hl 2 rfl) ?_
      refine lv_iconst (v := nI 4) hx hb dX3_isRight_73 (by decide +kernel) ?_
      refine cVr (As := [.int (nI i), .int (nI 4)]) (rest := [.int (sL n N (ln F i))]) ⟨hx, hb, hml, hown, hts⟩ hP hK hD hS hN hA (mX3_fact l D G tb fa od k F O i 4 (by first | assumption | omega) (by first | assumption | omega) (by first | assumption | omega)) (cwV 2 hts gX3_isRight_X3_fact rfl rfl rfl (by decide +kernel) ⟨Nat.le_of_ble_eq_true rfl, Nat.le_of_ble_eq_true rfl⟩) [0, 1, 2] rfl (by decide) 0 3 rfl rfl rfl hl.1 rfl (Nat.le_of_ble_eq_true rfl) dX3_isRight_74 ⟨Nat.zero_le _, Nat.zero_le _⟩ (fun H locs hP hS => ?_)
      refine lv_icmp_ge (tgt := 84) hx hb dX3_isRight_77 (by decide)  (fun c2 => ?_) (fun c2 => ?_)
      · refine lv_iconst (v := nI 0) hx hb dX3_isRight_84 (by decide +kernel) ?_
        refine rTop (zB_0 (b := rgt n N F i) (by rw [rgt, if_neg sw13_0, if_neg sw13_1]; first | exact decide_eq_true (Int32.not_le.mp (by assumption)) | exact decide_eq_false (Int32.not_lt.mpr (by assumption)))) ?_
        exact rZret hx hb hr hlk hP hK hD hS dX3_isRight_85
      · refine lv_iconst (v := nI 1) hx hb dX3_isRight_80 (by decide +kernel) ?_
        refine lv_goto (tgt := 85) hx hb dX3_isRight_81 (by decide) ?_
        refine rTop (zB_1 (b := rgt n N F i) (by rw [rgt, if_neg sw13_0, if_neg sw13_1]; first | exact decide_eq_true (Int32.not_le.mp (by assumption)) | exact decide_eq_false (Int32.not_lt.mpr (by assumption)))) ?_
        exact rZret hx hb hr hlk hP hK hD hS dX3_isRight_85

set_option maxHeartbeats 4000000 in
set_option maxRecDepth 100000 in
theorem mX3_payout (l : Launch) (D : va_G) (G : Nat → ClassId) (tb fa od k : Nat) (F : Nat → Nat → Int32) (O : Nat → UInt32) (i : Nat) (hk : k ≤ 10) (hik : i < k) (hO : OOK k O) : CT l yX3_payout wsX3_payout 1 23 D G [.ref tb, .int (nI i)] [(tb, .inr (3, [.int (nI k), .ref fa, .ref od])), (fa, .inl (G 0, 50, .inl (fl F))), (od, .inl (G 1, 10, .inr (.inr (.inl O))))] [(tb, .inr (3, [.int (nI k), .ref fa, .ref od])), (fa, .inl (G 0, 50, .inl (fl F))), (od, .inl (G 1, 10, .inr (.inr (.inl O))))] (some (.int (pay F O i))) := by
  refine CT.of (cc := cX3_payout) (maxL := 2) (ret := (some .int)) (by decide) rfl RX3 rfl (Nat.le_of_ble_eq_true rfl) (fun pp ee s mm bl me cc A ls hx hb hr hml hts hown hlk hnm hA hP hK hD hN hS hl => ?_)
  have hl : lv_has ls 2 [(0, .ref tb), (1, .int (nI i))] := hl
  have hP : va_P D vwCl [(tb, .inr (3, [.int (nI k), .ref fa, .ref od])), (fa, .inl (G 0, 50, .inl (fl F))), (od, .inl (G 1, 10, .inr (.inr (.inl O))))] s.heap := hP
  refine lv_aload_n hx hb dX3_payout_0 rfl (lv_at hl 0 rfl) ?_
  refine lv_iload_n hx hb dX3_payout_1 rfl (lv_at hl 1 rfl) ?_
  refine lv_iconst (v := nI 3) hx hb dX3_payout_2 (by decide +kernel) ?_
  refine cVr (As := [.int (nI i), .int (nI 3)]) (rest := []) ⟨hx, hb, hml, hown, hts⟩ hP hK hD hS hN hA (mX3_fact l D G tb fa od k F O i 3 (by first | assumption | omega) (by first | assumption | omega) (by first | assumption | omega)) (cwV 2 hts gX3_payout_X3_fact rfl rfl rfl (by decide +kernel) ⟨Nat.le_of_ble_eq_true rfl, Nat.le_of_ble_eq_true rfl⟩) [0, 1, 2] rfl (by decide) 0 3 rfl rfl rfl hl.1 rfl (Nat.le_of_ble_eq_true rfl) dX3_payout_3 ⟨Nat.zero_le _, Nat.zero_le _⟩ (fun H locs hP hS => ?_)
  refine lv_i2f hx hb dX3_payout_6 ?_
  refine lv_aload_n hx hb dX3_payout_7 rfl (lv_at hl 0 rfl) ?_
  refine lv_iload_n hx hb dX3_payout_8 rfl (lv_at hl 1 rfl) ?_
  refine cVr (As := [.int (nI i)]) (rest := [.float (FP.i2f (F i 3))]) ⟨hx, hb, hml, hown, hts⟩ hP hK hD hS hN hA (mX3_oddsOf l D G tb fa od k F O i (by first | assumption | omega) (by first | assumption | omega)) (cwV 1 hts gX3_payout_X3_oddsOf rfl rfl rfl (by decide +kernel) ⟨Nat.le_of_ble_eq_true rfl, Nat.le_of_ble_eq_true rfl⟩) [0, 1, 2] rfl (by decide) 0 3 rfl rfl rfl hl.1 rfl (Nat.le_of_ble_eq_true rfl) dX3_payout_9 ⟨Nat.zero_le _, Nat.zero_le _⟩ (fun H locs hP hS => ?_)
  refine lv_fmul hx hb dX3_payout_12 (nan_pay (hO i hik)) ?_
  refine lv_f2i hx hb dX3_payout_13 ?_
  refine rTop (show FP.f2i (FP.fmul (FP.i2f (F i 3)) (O i)) = pay F O i from rfl) ?_
  exact rIret hx hb hr hlk hP hK hD hS dX3_payout_14

set_option maxHeartbeats 4000000 in
set_option maxRecDepth 100000 in
theorem mX3_stakesWith (l : Launch) (D : va_G) (G : Nat → ClassId) (tb fa od k : Nat) (F : Nat → Nat → Int32) (O : Nat → UInt32) (b : Nat) (x : Int32) (hk : k ≤ 10) (hb5 : b < 5) : CT l yX3_stakesWith wsX3_stakesWith 1 23 D G [.ref tb, .int (nI b), .int x] [(tb, .inr (3, [.int (nI k), .ref fa, .ref od])), (fa, .inl (G 0, 50, .inl (fl F))), (od, .inl (G 1, 10, .inr (.inr (.inl O))))] [(tb, .inr (3, [.int (nI k), .ref fa, .ref od])), (fa, .inl (G 0, 50, .inl (fl F))), (od, .inl (G 1, 10, .inr (.inr (.inl O))))] (some (.int (nI (cw F b x k)))) := by
  refine CT.of (cc := cX3_stakesWith) (maxL := 5) (ret := (some .int)) (by decide) rfl RX3 rfl (Nat.le_of_ble_eq_true rfl) (fun pp ee s mm bl me cc A ls hx hb hr hml hts hown hlk hnm hA hP hK hD hN hS hl => ?_)
  have hl : lv_has ls 5 [(0, .ref tb), (1, .int (nI b)), (2, .int x)] := hl
  have hP : va_P D vwCl [(tb, .inr (3, [.int (nI k), .ref fa, .ref od])), (fa, .inl (G 0, 50, .inl (fl F))), (od, .inl (G 1, 10, .inr (.inr (.inl O))))] s.heap := hP
  have inX3 : ∀ w ∈ wsX30, w ∈ wsX3_stakesWith := fun w h => List.mem_cons_of_mem _ (List.mem_append_right _ h)
  have k7 := hts (.fieldLink RX3 7 "SquareStakes$Table" "size" "I") (List.mem_of_getElem? (i := 1) rfl)
  refine lv_iconst (v := nI 0) hx hb dX3_stakesWith_0 (by decide +kernel) ?_
  refine lv_istore_n (lv' := [(3, .int (nI 0)), (0, .ref tb), (1, .int (nI b)), (2, .int x)]) hx hb dX3_stakesWith_1 rfl hl (by decide) rfl (fun ls hl => ?_)
  refine lv_iconst (v := nI 0) hx hb dX3_stakesWith_2 (by decide +kernel) ?_
  refine lv_istore (lv' := [(4, .int (nI 0)), (3, .int (nI 0)), (0, .ref tb), (1, .int (nI b)), (2, .int x)]) hx hb dX3_stakesWith_3 hl (by decide) rfl (fun ls hl => ?_)
  have LP5 : ∀ (nn5 i : Nat), i ≤ k → k < i + nn5  → ∀ (H : Heap) (locs : List Loc), va_P D vwCl [(tb, .inr (3, [.int (nI k), .ref fa, .ref od])), (fa, .inl (G 0, 50, .inl (fl F))), (od, .inl (G 1, 10, .inr (.inr (.inl O))))] H → va_D A [(tb, .inr (3, [.int (nI k), .ref fa, .ref od])), (fa, .inl (G 0, 50, .inl (fl F))), (od, .inl (G 1, 10, .inr (.inr (.inl O))))] → va_S A s.heap H locs → ∀ ls : Array Slot, lv_has ls 5 [(3, .int (nI (cw F b x i))), (4, .int (nI i)), (0, .ref tb), (1, .int (nI b)), (2, .int x)] → W pp l ee (rmA 1 23) s mm ([.ref tb, .int (nI b), .int x] : List Value).toArray bl me cc H locs 0 0 (MQ bl (Qres (some (.int (nI (cw F b x k)))) D G [(tb, .inr (3, [.int (nI k), .ref fa, .ref od])), (fa, .inl (G 0, 50, .inl (fl F))), (od, .inl (G 1, 10, .inr (.inr (.inl O))))] A) ([.ref tb, .int (nI b), .int x] : List Value).toArray s 0 0 A) (F0 mm 5 ls []) := by
    intro nn5
    induction nn5 with
    | zero => intro i h1 h2; exact absurd h2 (by omega)
    | succ nn5 ih5 =>
      intro i hki hni  H locs hP hD hS ls hl
      refine lv_iload hx hb dX3_stakesWith_5 (lv_at hl 1 rfl) ?_
      refine lv_aload_n hx hb dX3_stakesWith_7 rfl (lv_at hl 2 rfl) ?_
      refine va_get (D := D) (ci := 3) (v := .int (nI k)) (C := RX3) (T := TX3) (N := 3) hx hb hts inX3 hown hK hP 0 rfl rfl 0 (by decide) k7 (fun _ h9 => h9) rfl dX3_stakesWith_8 ?_
      refine bGe (tgt := 34) hx hb dX3_stakesWith_11 (by decide) (by omega) (by omega) (fun c1 => ?_) (fun c1 => ?_)
      · obtain rfl : k = i := by omega
        refine lv_iload_n hx hb dX3_stakesWith_34 rfl (lv_at hl 0 rfl) ?_
        exact rIret hx hb hr hlk hP hK hD hS dX3_stakesWith_35
      · refine lv_aload_n hx hb dX3_stakesWith_14 rfl (lv_at hl 2 rfl) ?_
        refine lv_iload hx hb dX3_stakesWith_15 (lv_at hl 1 rfl) ?_
        refine lv_iload_n hx hb dX3_stakesWith_17 rfl (lv_at hl 3 rfl) ?_
        refine cVr (As := [.int (nI i), .int (nI b)]) (rest := []) ⟨hx, hb, hml, hown, hts⟩ hP hK hD hS hN hA (mX3_fact l D G tb fa od k F O i b (by first | assumption | omega) (by first | assumption | omega) (by first | assumption | omega)) (cwV 2 hts gX3_stakesWith_X3_fact rfl rfl rfl (by decide +kernel) ⟨Nat.le_of_ble_eq_true rfl, Nat.le_of_ble_eq_true rfl⟩) [0, 1, 2] rfl (by decide) 0 3 rfl rfl rfl hl.1 rfl (Nat.le_of_ble_eq_true rfl) dX3_stakesWith_18 ⟨Nat.zero_le _, Nat.zero_le _⟩ (fun H locs hP hS => ?_)
        refine lv_iload_n hx hb dX3_stakesWith_21 rfl (lv_at hl 4 rfl) ?_
        refine lv_icmp_ne (tgt := 28) hx hb dX3_stakesWith_22 (by decide)  (fun c2 => ?_) (fun c2 => ?_)
        · rw [show nI (cw F b x i) = nI (cw F b x (i + 1)) from by first | rw [cw_t (by assumption)] | rw [cw_f (by assumption)]] at hl
          refine lv_iinc (v := nI (i + 1)) (lv' := [(4, .int (nI (i + 1))), (3, .int (nI (cw F b x (i + 1)))), (0, .ref tb), (1, .int (nI b)), (2, .int x)]) hx hb dX3_stakesWith_28 hl (k := 1) rfl (nI_inc i) (by decide) rfl (fun ls hl => ?_)
          refine lv_goto (tgt := 5) hx hb dX3_stakesWith_31 (by decide) ?_
          exact ih5 (i + 1) (by omega) (by omega)  _ _ hP hD hS _ (lv_sub hl [1, 0, 2, 3, 4] rfl)
        · refine lv_iinc (v := nI (cw F b x i + 1)) (lv' := [(3, .int (nI (cw F b x i + 1))), (4, .int (nI i)), (0, .ref tb), (1, .int (nI b)), (2, .int x)]) hx hb dX3_stakesWith_25 hl (k := 0) rfl (nI_inc (cw F b x i)) (by decide) rfl (fun ls hl => ?_)
          rw [show nI (cw F b x i + 1) = nI (cw F b x (i + 1)) from by first | rw [cw_t (by assumption)] | rw [cw_f (by assumption)]] at hl
          refine lv_iinc (v := nI (i + 1)) (lv' := [(4, .int (nI (i + 1))), (3, .int (nI (cw F b x (i + 1)))), (0, .ref tb), (1, .int (nI b)), (2, .int x)]) hx hb dX3_stakesWith_28 hl (k := 1) rfl (nI_inc i) (by decide) rfl (fun ls hl => ?_)
          refine lv_goto (tgt := 5) hx hb dX3_stakesWith_31 (by decide) ?_
          exact ih5 (i + 1) (by omega) (by omega)  _ _ hP hD hS _ (lv_sub hl [1, 0, 2, 3, 4] rfl)
  exact LP5 (k + 1 - 0) 0 (by omega) (by omega)  _ _ hP hD hS _ (lv_sub hl [1, 0, 2, 3, 4] rfl)

set_option maxHeartbeats 4000000 in
set_option maxRecDepth 100000 in
theorem mX3_amountWith (l : Launch) (D : va_G) (G : Nat → ClassId) (tb fa od k : Nat) (F : Nat → Nat → Int32) (O : Nat → UInt32) (b : Nat) (x : Int32) (hk : k ≤ 10) (hb5 : b < 5) : CT l yX3_amountWith wsX3_amountWith 1 23 D G [.ref tb, .int (nI b), .int x] [(tb, .inr (3, [.int (nI k), .ref fa, .ref od])), (fa, .inl (G 0, 50, .inl (fl F))), (od, .inl (G 1, 10, .inr (.inr (.inl O))))] [(tb, .inr (3, [.int (nI k), .ref fa, .ref od])), (fa, .inl (G 0, 50, .inl (fl F))), (od, .inl (G 1, 10, .inr (.inr (.inl O))))] (some (.int (aw F b x k))) := by
  refine CT.of (cc := cX3_amountWith) (maxL := 5) (ret := (some .int)) (by decide) rfl RX3 rfl (Nat.le_of_ble_eq_true rfl) (fun pp ee s mm bl me cc A ls hx hb hr hml hts hown hlk hnm hA hP hK hD hN hS hl => ?_)
  have hl : lv_has ls 5 [(0, .ref tb), (1, .int (nI b)), (2, .int x)] := hl
  have hP : va_P D vwCl [(tb, .inr (3, [.int (nI k), .ref fa, .ref od])), (fa, .inl (G 0, 50, .inl (fl F))), (od, .inl (G 1, 10, .inr (.inr (.inl O))))] s.heap := hP
  have inX3 : ∀ w ∈ wsX30, w ∈ wsX3_amountWith := fun w h => List.mem_cons_of_mem _ (List.mem_append_right _ h)
  have k7 := hts (.fieldLink RX3 7 "SquareStakes$Table" "size" "I") (List.mem_of_getElem? (i := 1) rfl)
  refine lv_iconst (v := nI 0) hx hb dX3_amountWith_0 (by decide +kernel) ?_
  refine lv_istore_n (lv' := [(3, .int (nI 0)), (0, .ref tb), (1, .int (nI b)), (2, .int x)]) hx hb dX3_amountWith_1 rfl hl (by decide) rfl (fun ls hl => ?_)
  refine lv_iconst (v := nI 0) hx hb dX3_amountWith_2 (by decide +kernel) ?_
  refine lv_istore (lv' := [(4, .int (nI 0)), (3, .int (nI 0)), (0, .ref tb), (1, .int (nI b)), (2, .int x)]) hx hb dX3_amountWith_3 hl (by decide) rfl (fun ls hl => ?_)
  have LP5 : ∀ (nn5 i : Nat), i ≤ k → k < i + nn5  → ∀ (H : Heap) (locs : List Loc), va_P D vwCl [(tb, .inr (3, [.int (nI k), .ref fa, .ref od])), (fa, .inl (G 0, 50, .inl (fl F))), (od, .inl (G 1, 10, .inr (.inr (.inl O))))] H → va_D A [(tb, .inr (3, [.int (nI k), .ref fa, .ref od])), (fa, .inl (G 0, 50, .inl (fl F))), (od, .inl (G 1, 10, .inr (.inr (.inl O))))] → va_S A s.heap H locs → ∀ ls : Array Slot, lv_has ls 5 [(3, .int (aw F b x i)), (4, .int (nI i)), (0, .ref tb), (1, .int (nI b)), (2, .int x)] → W pp l ee (rmA 1 23) s mm ([.ref tb, .int (nI b), .int x] : List Value).toArray bl me cc H locs 0 0 (MQ bl (Qres (some (.int (aw F b x k))) D G [(tb, .inr (3, [.int (nI k), .ref fa, .ref od])), (fa, .inl (G 0, 50, .inl (fl F))), (od, .inl (G 1, 10, .inr (.inr (.inl O))))] A) ([.ref tb, .int (nI b), .int x] : List Value).toArray s 0 0 A) (F0 mm 5 ls []) := by
    intro nn5
    induction nn5 with
    | zero => intro i h1 h2; exact absurd h2 (by omega)
    | succ nn5 ih5 =>
      intro i hki hni  H locs hP hD hS ls hl
      refine lv_iload hx hb dX3_amountWith_5 (lv_at hl 1 rfl) ?_
      refine lv_aload_n hx hb dX3_amountWith_7 rfl (lv_at hl 2 rfl) ?_
      refine va_get (D := D) (ci := 3) (v := .int (nI k)) (C := RX3) (T := TX3) (N := 3) hx hb hts inX3 hown hK hP 0 rfl rfl 0 (by decide) k7 (fun _ h9 => h9) rfl dX3_amountWith_8 ?_
      refine bGe (tgt := 41) hx hb dX3_amountWith_11 (by decide) (by omega) (by omega) (fun c1 => ?_) (fun c1 => ?_)
      · obtain rfl : k = i := by omega
        refine lv_iload_n hx hb dX3_amountWith_41 rfl (lv_at hl 0 rfl) ?_
        exact rIret hx hb hr hlk hP hK hD hS dX3_amountWith_42
      · refine lv_aload_n hx hb dX3_amountWith_14 rfl (lv_at hl 2 rfl) ?_
        refine lv_iload hx hb dX3_amountWith_15 (lv_at hl 1 rfl) ?_
        refine lv_iload_n hx hb dX3_amountWith_17 rfl (lv_at hl 3 rfl) ?_
        refine cVr (As := [.int (nI i), .int (nI b)]) (rest := []) ⟨hx, hb, hml, hown, hts⟩ hP hK hD hS hN hA (mX3_fact l D G tb fa od k F O i b (by first | assumption | omega) (by first | assumption | omega) (by first | assumption | omega)) (cwV 2 hts gX3_amountWith_X3_fact rfl rfl rfl (by decide +kernel) ⟨Nat.le_of_ble_eq_true rfl, Nat.le_of_ble_eq_true rfl⟩) [0, 1, 2] rfl (by decide) 0 3 rfl rfl rfl hl.1 rfl (Nat.le_of_ble_eq_true rfl) dX3_amountWith_18 ⟨Nat.zero_le _, Nat.zero_le _⟩ (fun H locs hP hS => ?_)
        refine lv_iload_n hx hb dX3_amountWith_21 rfl (lv_at hl 4 rfl) ?_
        refine lv_icmp_ne (tgt := 35) hx hb dX3_amountWith_22 (by decide)  (fun c2 => ?_) (fun c2 => ?_)
        · rw [show aw F b x i = aw F b x (i + 1) from by first | rw [aw_t (by assumption)] | rw [aw_f (by assumption)]] at hl
          refine lv_iinc (v := nI (i + 1)) (lv' := [(4, .int (nI (i + 1))), (3, .int (aw F b x (i + 1))), (0, .ref tb), (1, .int (nI b)), (2, .int x)]) hx hb dX3_amountWith_35 hl (k := 1) rfl (nI_inc i) (by decide) rfl (fun ls hl => ?_)
          refine lv_goto (tgt := 5) hx hb dX3_amountWith_38 (by decide) ?_
          exact ih5 (i + 1) (by omega) (by omega)  _ _ hP hD hS _ (lv_sub hl [1, 0, 2, 3, 4] rfl)
        · refine lv_iload_n hx hb dX3_amountWith_25 rfl (lv_at hl 0 rfl) ?_
          refine lv_aload_n hx hb dX3_amountWith_26 rfl (lv_at hl 2 rfl) ?_
          refine lv_iload hx hb dX3_amountWith_27 (lv_at hl 1 rfl) ?_
          refine lv_iconst (v := nI 3) hx hb dX3_amountWith_29 (by decide +kernel) ?_
          refine cVr (As := [.int (nI i), .int (nI 3)]) (rest := [.int (aw F b x i)]) ⟨hx, hb, hml, hown, hts⟩ hP hK hD hS hN hA (mX3_fact l D G tb fa od k F O i 3 (by first | assumption | omega) (by first | assumption | omega) (by first | assumption | omega)) (cwV 2 hts gX3_amountWith_X3_fact rfl rfl rfl (by decide +kernel) ⟨Nat.le_of_ble_eq_true rfl, Nat.le_of_ble_eq_true rfl⟩) [0, 1, 2] rfl (by decide) 0 3 rfl rfl rfl hl.1 rfl (Nat.le_of_ble_eq_true rfl) dX3_amountWith_30 ⟨Nat.zero_le _, Nat.zero_le _⟩ (fun H locs hP hS => ?_)
          refine lv_iadd hx hb dX3_amountWith_33 ?_
          refine lv_istore_n (lv' := [(3, .int (aw F b x i + F i 3)), (4, .int (nI i)), (0, .ref tb), (1, .int (nI b)), (2, .int x)]) hx hb dX3_amountWith_34 rfl hl (by decide) rfl (fun ls hl => ?_)
          rw [show (aw F b x i + F i 3) = aw F b x (i + 1) from by first | rw [aw_t (by assumption)] | rw [aw_f (by assumption)]] at hl
          refine lv_iinc (v := nI (i + 1)) (lv' := [(4, .int (nI (i + 1))), (3, .int (aw F b x (i + 1))), (0, .ref tb), (1, .int (nI b)), (2, .int x)]) hx hb dX3_amountWith_35 hl (k := 1) rfl (nI_inc i) (by decide) rfl (fun ls hl => ?_)
          refine lv_goto (tgt := 5) hx hb dX3_amountWith_38 (by decide) ?_
          exact ih5 (i + 1) (by omega) (by omega)  _ _ hP hD hS _ (lv_sub hl [1, 0, 2, 3, 4] rfl)
  exact LP5 (k + 1 - 0) 0 (by omega) (by omega)  _ _ hP hD hS _ (lv_sub hl [1, 0, 2, 3, 4] rfl)

set_option maxHeartbeats 4000000 in
set_option maxRecDepth 100000 in
theorem mX3_amountOfAll (l : Launch) (D : va_G) (G : Nat → ClassId) (tb fa od k : Nat) (F : Nat → Nat → Int32) (O : Nat → UInt32) (hk : k ≤ 10) : CT l yX3_amountOfAll wsX3_amountOfAll 1 23 D G [.ref tb] [(tb, .inr (3, [.int (nI k), .ref fa, .ref od])), (fa, .inl (G 0, 50, .inl (fl F))), (od, .inl (G 1, 10, .inr (.inr (.inl O))))] [(tb, .inr (3, [.int (nI k), .ref fa, .ref od])), (fa, .inl (G 0, 50, .inl (fl F))), (od, .inl (G 1, 10, .inr (.inr (.inl O))))] (some (.int (aa F k))) := by
  refine CT.of (cc := cX3_amountOfAll) (maxL := 3) (ret := (some .int)) (by decide) rfl RX3 rfl (Nat.le_of_ble_eq_true rfl) (fun pp ee s mm bl me cc A ls hx hb hr hml hts hown hlk hnm hA hP hK hD hN hS hl => ?_)
  have hl : lv_has ls 3 [(0, .ref tb)] := hl
  have hP : va_P D vwCl [(tb, .inr (3, [.int (nI k), .ref fa, .ref od])), (fa, .inl (G 0, 50, .inl (fl F))), (od, .inl (G 1, 10, .inr (.inr (.inl O))))] s.heap := hP
  have inX3 : ∀ w ∈ wsX30, w ∈ wsX3_amountOfAll := fun w h => List.mem_cons_of_mem _ (List.mem_append_right _ h)
  have k7 := hts (.fieldLink RX3 7 "SquareStakes$Table" "size" "I") (List.mem_of_getElem? (i := 1) rfl)
  refine lv_iconst (v := nI 0) hx hb dX3_amountOfAll_0 (by decide +kernel) ?_
  refine lv_istore_n (lv' := [(1, .int (nI 0)), (0, .ref tb)]) hx hb dX3_amountOfAll_1 rfl hl (by decide) rfl (fun ls hl => ?_)
  refine lv_iconst (v := nI 0) hx hb dX3_amountOfAll_2 (by decide +kernel) ?_
  refine lv_istore_n (lv' := [(2, .int (nI 0)), (1, .int (nI 0)), (0, .ref tb)]) hx hb dX3_amountOfAll_3 rfl hl (by decide) rfl (fun ls hl => ?_)
  have LP4 : ∀ (nn4 i : Nat), i ≤ k → k < i + nn4  → ∀ (H : Heap) (locs : List Loc), va_P D vwCl [(tb, .inr (3, [.int (nI k), .ref fa, .ref od])), (fa, .inl (G 0, 50, .inl (fl F))), (od, .inl (G 1, 10, .inr (.inr (.inl O))))] H → va_D A [(tb, .inr (3, [.int (nI k), .ref fa, .ref od])), (fa, .inl (G 0, 50, .inl (fl F))), (od, .inl (G 1, 10, .inr (.inr (.inl O))))] → va_S A s.heap H locs → ∀ ls : Array Slot, lv_has ls 3 [(1, .int (aa F i)), (2, .int (nI i)), (0, .ref tb)] → W pp l ee (rmA 1 23) s mm ([.ref tb] : List Value).toArray bl me cc H locs 0 0 (MQ bl (Qres (some (.int (aa F k))) D G [(tb, .inr (3, [.int (nI k), .ref fa, .ref od])), (fa, .inl (G 0, 50, .inl (fl F))), (od, .inl (G 1, 10, .inr (.inr (.inl O))))] A) ([.ref tb] : List Value).toArray s 0 0 A) (F0 mm 4 ls []) := by
    intro nn4
    induction nn4 with
    | zero => intro i h1 h2; exact absurd h2 (by omega)
    | succ nn4 ih4 =>
      intro i hki hni  H locs hP hD hS ls hl
      refine lv_iload_n hx hb dX3_amountOfAll_4 rfl (lv_at hl 1 rfl) ?_
      refine lv_aload_n hx hb dX3_amountOfAll_5 rfl (lv_at hl 2 rfl) ?_
      refine va_get (D := D) (ci := 3) (v := .int (nI k)) (C := RX3) (T := TX3) (N := 3) hx hb hts inX3 hown hK hP 0 rfl rfl 0 (by decide) k7 (fun _ h9 => h9) rfl dX3_amountOfAll_6 ?_
      refine bGe (tgt := 27) hx hb dX3_amountOfAll_9 (by decide) (by omega) (by omega) (fun c1 => ?_) (fun c1 => ?_)
      · obtain rfl : k = i := by omega
        refine lv_iload_n hx hb dX3_amountOfAll_27 rfl (lv_at hl 0 rfl) ?_
        exact rIret hx hb hr hlk hP hK hD hS dX3_amountOfAll_28
      · refine lv_iload_n hx hb dX3_amountOfAll_12 rfl (lv_at hl 0 rfl) ?_
        refine lv_aload_n hx hb dX3_amountOfAll_13 rfl (lv_at hl 2 rfl) ?_
        refine lv_iload_n hx hb dX3_amountOfAll_14 rfl (lv_at hl 1 rfl) ?_
        refine lv_iconst (v := nI 3) hx hb dX3_amountOfAll_15 (by decide +kernel) ?_
        refine cVr (As := [.int (nI i), .int (nI 3)]) (rest := [.int (aa F i)]) ⟨hx, hb, hml, hown, hts⟩ hP hK hD hS hN hA (mX3_fact l D G tb fa od k F O i 3 (by first | assumption | omega) (by first | assumption | omega) (by first | assumption | omega)) (cwV 2 hts gX3_amountOfAll_X3_fact rfl rfl rfl (by decide +kernel) ⟨Nat.le_of_ble_eq_true rfl, Nat.le_of_ble_eq_true rfl⟩) [0, 1, 2] rfl (by decide) 0 3 rfl rfl rfl hl.1 rfl (Nat.le_of_ble_eq_true rfl) dX3_amountOfAll_16 ⟨Nat.zero_le _, Nat.zero_le _⟩ (fun H locs hP hS => ?_)
        refine lv_iadd hx hb dX3_amountOfAll_19 ?_
        refine lv_istore_n (lv' := [(1, .int (aa F i + F i 3)), (2, .int (nI i)), (0, .ref tb)]) hx hb dX3_amountOfAll_20 rfl hl (by decide) rfl (fun ls hl => ?_)
        refine lv_iinc (v := nI (i + 1)) (lv' := [(2, .int (nI (i + 1))), (1, .int (aa F i + F i 3)), (0, .ref tb)]) hx hb dX3_amountOfAll_21 hl (k := 1) rfl (nI_inc i) (by decide) rfl (fun ls hl => ?_)
        refine lv_goto (tgt := 4) hx hb dX3_amountOfAll_24 (by decide) ?_
        exact ih4 (i + 1) (by omega) (by omega)  _ _ hP hD hS _ (lv_sub hl [1, 0, 2] rfl)
  exact LP4 (k + 1 - 0) 0 (by omega) (by omega)  _ _ hP hD hS _ (lv_sub hl [1, 0, 2] rfl)

set_option maxHeartbeats 4000000 in
set_option maxRecDepth 100000 in
theorem mX3_dueTo (l : Launch) (D : va_G) (G : Nat → ClassId) (tb fa od k : Nat) (F : Nat → Nat → Int32) (O : Nat → UInt32) (ob nu fr n : Nat) (N Z : Nat → Int32) (x : Int32) (hk : k ≤ 10) (hn : n = 3 ∨ n = 4) (hSO : SOK n k F) (hO : OOK k O) : CT l yX3_dueTo wsX3_dueTo 4 89 D G [.ref tb, .int x, .ref ob] [(tb, .inr (3, [.int (nI k), .ref fa, .ref od])), (fa, .inl (G 0, 50, .inl (fl F))), (od, .inl (G 1, 10, .inr (.inr (.inl O)))), (ob, .inr (1, [.int (nI n), .ref nu, .ref fr])), (nu, .inl (G 0, 16, .inl N)), (fr, .inl (G 0, 16, .inl Z))] [(tb, .inr (3, [.int (nI k), .ref fa, .ref od])), (fa, .inl (G 0, 50, .inl (fl F))), (od, .inl (G 1, 10, .inr (.inr (.inl O)))), (ob, .inr (1, [.int (nI n), .ref nu, .ref fr])), (nu, .inl (G 0, 16, .inl N)), (fr, .inl (G 0, 16, .inl Z))] (some (.int (du n N F O x k))) := by
  refine CT.of (cc := cX3_dueTo) (maxL := 5) (ret := (some .int)) (by decide) rfl RX3 rfl (Nat.le_of_ble_eq_true rfl) (fun pp ee s mm bl me cc A ls hx hb hr hml hts hown hlk hnm hA hP hK hD hN hS hl => ?_)
  have hl : lv_has ls 5 [(0, .ref tb), (1, .int x), (2, .ref ob)] := hl
  have hP : va_P D vwCl [(tb, .inr (3, [.int (nI k), .ref fa, .ref od])), (fa, .inl (G 0, 50, .inl (fl F))), (od, .inl (G 1, 10, .inr (.inr (.inl O)))), (ob, .inr (1, [.int (nI n), .ref nu, .ref fr])), (nu, .inl (G 0, 16, .inl N)), (fr, .inl (G 0, 16, .inl Z))] s.heap := hP
  have inX3 : ∀ w ∈ wsX30, w ∈ wsX3_dueTo := fun w h => List.mem_cons_of_mem _ (List.mem_append_left _ (List.mem_append_right _ h))
  have k7 := hts (.fieldLink RX3 7 "SquareStakes$Table" "size" "I") (List.mem_of_getElem? (i := 1) rfl)
  refine lv_iconst (v := nI 0) hx hb dX3_dueTo_0 (by decide +kernel) ?_
  refine lv_istore_n (lv' := [(3, .int (nI 0)), (0, .ref tb), (1, .int x), (2, .ref ob)]) hx hb dX3_dueTo_1 rfl hl (by decide) rfl (fun ls hl => ?_)
  refine lv_iconst (v := nI 0) hx hb dX3_dueTo_2 (by decide +kernel) ?_
  refine lv_istore (lv' := [(4, .int (nI 0)), (3, .int (nI 0)), (0, .ref tb), (1, .int x), (2, .ref ob)]) hx hb dX3_dueTo_3 hl (by decide) rfl (fun ls hl => ?_)
  have LP5 : ∀ (nn5 i : Nat), i ≤ k → k < i + nn5  → ∀ (H : Heap) (locs : List Loc), va_P D vwCl [(tb, .inr (3, [.int (nI k), .ref fa, .ref od])), (fa, .inl (G 0, 50, .inl (fl F))), (od, .inl (G 1, 10, .inr (.inr (.inl O)))), (ob, .inr (1, [.int (nI n), .ref nu, .ref fr])), (nu, .inl (G 0, 16, .inl N)), (fr, .inl (G 0, 16, .inl Z))] H → va_D A [(tb, .inr (3, [.int (nI k), .ref fa, .ref od])), (fa, .inl (G 0, 50, .inl (fl F))), (od, .inl (G 1, 10, .inr (.inr (.inl O)))), (ob, .inr (1, [.int (nI n), .ref nu, .ref fr])), (nu, .inl (G 0, 16, .inl N)), (fr, .inl (G 0, 16, .inl Z))] → va_S A s.heap H locs → ∀ ls : Array Slot, lv_has ls 5 [(3, .int (du n N F O x i)), (4, .int (nI i)), (0, .ref tb), (1, .int x), (2, .ref ob)] → W pp l ee (rmA 4 89) s mm ([.ref tb, .int x, .ref ob] : List Value).toArray bl me cc H locs 0 0 (MQ bl (Qres (some (.int (du n N F O x k))) D G [(tb, .inr (3, [.int (nI k), .ref fa, .ref od])), (fa, .inl (G 0, 50, .inl (fl F))), (od, .inl (G 1, 10, .inr (.inr (.inl O)))), (ob, .inr (1, [.int (nI n), .ref nu, .ref fr])), (nu, .inl (G 0, 16, .inl N)), (fr, .inl (G 0, 16, .inl Z))] A) ([.ref tb, .int x, .ref ob] : List Value).toArray s 0 0 A) (F0 mm 5 ls []) := by
    intro nn5
    induction nn5 with
    | zero => intro i h1 h2; exact absurd h2 (by omega)
    | succ nn5 ih5 =>
      intro i hki hni  H locs hP hD hS ls hl
      refine lv_iload hx hb dX3_dueTo_5 (lv_at hl 1 rfl) ?_
      refine lv_aload_n hx hb dX3_dueTo_7 rfl (lv_at hl 2 rfl) ?_
      refine va_get (D := D) (ci := 3) (v := .int (nI k)) (C := RX3) (T := TX3) (N := 3) hx hb hts inX3 hown hK hP 0 rfl rfl 0 (by decide) k7 (fun _ h9 => h9) rfl dX3_dueTo_8 ?_
      refine bGe (tgt := 50) hx hb dX3_dueTo_11 (by decide) (by omega) (by omega) (fun c1 => ?_) (fun c1 => ?_)
      · obtain rfl : k = i := by omega
        refine lv_iload_n hx hb dX3_dueTo_50 rfl (lv_at hl 0 rfl) ?_
        exact rIret hx hb hr hlk hP hK hD hS dX3_dueTo_51
      · refine lv_aload_n hx hb dX3_dueTo_14 rfl (lv_at hl 2 rfl) ?_
        refine lv_iload hx hb dX3_dueTo_15 (lv_at hl 1 rfl) ?_
        refine lv_iconst (v := nI 0) hx hb dX3_dueTo_17 (by decide +kernel) ?_
        refine cVr (As := [.int (nI i), .int (nI 0)]) (rest := []) ⟨hx, hb, hml, hown, hts⟩ hP hK hD hS hN hA (mX3_fact l D G tb fa od k F O i 0 (by first | assumption | omega) (by first | assumption | omega) (by first | assumption | omega)) (cwV 2 hts gX3_dueTo_X3_fact rfl rfl rfl (by decide +kernel) ⟨Nat.le_of_ble_eq_true rfl, Nat.le_of_ble_eq_true rfl⟩) [0, 1, 2] rfl (by decide) 0 3 rfl rfl rfl hl.1 rfl (Nat.le_of_ble_eq_true rfl) dX3_dueTo_18 ⟨Nat.zero_le _, Nat.zero_le _⟩ (fun H locs hP hS => ?_)
        refine lv_iload_n hx hb dX3_dueTo_21 rfl (lv_at hl 3 rfl) ?_
        refine lv_icmp_ne (tgt := 44) hx hb dX3_dueTo_22 (by decide)  (fun c2 => ?_) (fun c2 => ?_)
        · rw [show du n N F O x i = du n N F O x (i + 1) from by first | rw [du_t (by assumption) (by assumption)] | rw [du_f (by assumption)] | rw [du_f2 (by assumption)]] at hl
          refine lv_iinc (v := nI (i + 1)) (lv' := [(4, .int (nI (i + 1))), (3, .int (du n N F O x (i + 1))), (0, .ref tb), (1, .int x), (2, .ref ob)]) hx hb dX3_dueTo_44 hl (k := 1) rfl (nI_inc i) (by decide) rfl (fun ls hl => ?_)
          refine lv_goto (tgt := 5) hx hb dX3_dueTo_47 (by decide) ?_
          exact ih5 (i + 1) (by omega) (by omega)  _ _ hP hD hS _ (lv_sub hl [1, 0, 2, 3, 4] rfl)
        · refine lv_aload_n hx hb dX3_dueTo_25 rfl (lv_at hl 2 rfl) ?_
          refine lv_iload hx hb dX3_dueTo_26 (lv_at hl 1 rfl) ?_
          refine lv_aload_n hx hb dX3_dueTo_28 rfl (lv_at hl 4 rfl) ?_
          refine cVr (As := [.int (nI i), .ref ob]) (rest := []) ⟨hx, hb, hml, hown, hts⟩ hP hK hD hS hN hA (mX3_isRight l D G tb fa od k F O ob nu fr n N Z i (by first | assumption | omega) (by first | assumption | omega) (by first | assumption | omega) (by first | assumption | omega)) (cwV 2 hts gX3_dueTo_X3_isRight rfl rfl rfl (by decide +kernel) ⟨Nat.le_of_ble_eq_true rfl, Nat.le_of_ble_eq_true rfl⟩) [0, 1, 2, 3, 4, 5] rfl (by decide) 0 3 rfl rfl rfl hl.1 rfl (Nat.le_of_ble_eq_true rfl) dX3_dueTo_29 ⟨Nat.zero_le _, Nat.zero_le _⟩ (fun H locs hP hS => ?_)
          refine zEq (tgt := 44) hx hb dX3_dueTo_32 (by decide)  (fun c3 => ?_) (fun c3 => ?_)
          · rw [show du n N F O x i = du n N F O x (i + 1) from by first | rw [du_t (by assumption) (by assumption)] | rw [du_f (by assumption)] | rw [du_f2 (by assumption)]] at hl
            refine lv_iinc (v := nI (i + 1)) (lv' := [(4, .int (nI (i + 1))), (3, .int (du n N F O x (i + 1))), (0, .ref tb), (1, .int x), (2, .ref ob)]) hx hb dX3_dueTo_44 hl (k := 1) rfl (nI_inc i) (by decide) rfl (fun ls hl => ?_)
            refine lv_goto (tgt := 5) hx hb dX3_dueTo_47 (by decide) ?_
            exact ih5 (i + 1) (by omega) (by omega)  _ _ hP hD hS _ (lv_sub hl [1, 0, 2, 3, 4] rfl)
          · refine lv_iload_n hx hb dX3_dueTo_35 rfl (lv_at hl 0 rfl) ?_
            refine lv_aload_n hx hb dX3_dueTo_36 rfl (lv_at hl 2 rfl) ?_
            refine lv_iload hx hb dX3_dueTo_37 (lv_at hl 1 rfl) ?_
            refine cVr (As := [.int (nI i)]) (rest := [.int (du n N F O x i)]) ⟨hx, hb, hml, hown, hts⟩ hP hK hD hS hN hA (mX3_payout l D G tb fa od k F O i (by first | assumption | omega) (by first | assumption | omega) (by first | assumption | omega)) (cwV 1 hts gX3_dueTo_X3_payout rfl rfl rfl (by decide +kernel) ⟨Nat.le_of_ble_eq_true rfl, Nat.le_of_ble_eq_true rfl⟩) [0, 1, 2] rfl (by decide) 0 3 rfl rfl rfl hl.1 rfl (Nat.le_of_ble_eq_true rfl) dX3_dueTo_39 ⟨Nat.zero_le _, Nat.zero_le _⟩ (fun H locs hP hS => ?_)
            refine lv_iadd hx hb dX3_dueTo_42 ?_
            refine lv_istore_n (lv' := [(3, .int (du n N F O x i + pay F O i)), (4, .int (nI i)), (0, .ref tb), (1, .int x), (2, .ref ob)]) hx hb dX3_dueTo_43 rfl hl (by decide) rfl (fun ls hl => ?_)
            rw [show (du n N F O x i + pay F O i) = du n N F O x (i + 1) from by first | rw [du_t (by assumption) (by assumption)] | rw [du_f (by assumption)] | rw [du_f2 (by assumption)]] at hl
            refine lv_iinc (v := nI (i + 1)) (lv' := [(4, .int (nI (i + 1))), (3, .int (du n N F O x (i + 1))), (0, .ref tb), (1, .int x), (2, .ref ob)]) hx hb dX3_dueTo_44 hl (k := 1) rfl (nI_inc i) (by decide) rfl (fun ls hl => ?_)
            refine lv_goto (tgt := 5) hx hb dX3_dueTo_47 (by decide) ?_
            exact ih5 (i + 1) (by omega) (by omega)  _ _ hP hD hS _ (lv_sub hl [1, 0, 2, 3, 4] rfl)
  exact LP5 (k + 1 - 0) 0 (by omega) (by omega)  _ _ hP hD hS _ (lv_sub hl [1, 0, 2, 3, 4] rfl)

set_option maxHeartbeats 4000000 in
set_option maxRecDepth 100000 in
theorem mX3_dueToAll (l : Launch) (D : va_G) (G : Nat → ClassId) (tb fa od k : Nat) (F : Nat → Nat → Int32) (O : Nat → UInt32) (ob nu fr n : Nat) (N Z : Nat → Int32) (hk : k ≤ 10) (hn : n = 3 ∨ n = 4) (hSO : SOK n k F) (hO : OOK k O) : CT l yX3_dueToAll wsX3_dueToAll 4 89 D G [.ref tb, .ref ob] [(tb, .inr (3, [.int (nI k), .ref fa, .ref od])), (fa, .inl (G 0, 50, .inl (fl F))), (od, .inl (G 1, 10, .inr (.inr (.inl O)))), (ob, .inr (1, [.int (nI n), .ref nu, .ref fr])), (nu, .inl (G 0, 16, .inl N)), (fr, .inl (G 0, 16, .inl Z))] [(tb, .inr (3, [.int (nI k), .ref fa, .ref od])), (fa, .inl (G 0, 50, .inl (fl F))), (od, .inl (G 1, 10, .inr (.inr (.inl O)))), (ob, .inr (1, [.int (nI n), .ref nu, .ref fr])), (nu, .inl (G 0, 16, .inl N)), (fr, .inl (G 0, 16, .inl Z))] (some (.int (da n N F O k))) := by
  refine CT.of (cc := cX3_dueToAll) (maxL := 4) (ret := (some .int)) (by decide) rfl RX3 rfl (Nat.le_of_ble_eq_true rfl) (fun pp ee s mm bl me cc A ls hx hb hr hml hts hown hlk hnm hA hP hK hD hN hS hl => ?_)
  have hl : lv_has ls 4 [(0, .ref tb), (1, .ref ob)] := hl
  have hP : va_P D vwCl [(tb, .inr (3, [.int (nI k), .ref fa, .ref od])), (fa, .inl (G 0, 50, .inl (fl F))), (od, .inl (G 1, 10, .inr (.inr (.inl O)))), (ob, .inr (1, [.int (nI n), .ref nu, .ref fr])), (nu, .inl (G 0, 16, .inl N)), (fr, .inl (G 0, 16, .inl Z))] s.heap := hP
  have inX3 : ∀ w ∈ wsX30, w ∈ wsX3_dueToAll := fun w h => List.mem_cons_of_mem _ (List.mem_append_left _ (List.mem_append_right _ h))
  have k7 := hts (.fieldLink RX3 7 "SquareStakes$Table" "size" "I") (List.mem_of_getElem? (i := 1) rfl)
  refine lv_iconst (v := nI 0) hx hb dX3_dueToAll_0 (by decide +kernel) ?_
  refine lv_istore_n (lv' := [(2, .int (nI 0)), (0, .ref tb), (1, .ref ob)]) hx hb dX3_dueToAll_1 rfl hl (by decide) rfl (fun ls hl => ?_)
  refine lv_iconst (v := nI 0) hx hb dX3_dueToAll_2 (by decide +kernel) ?_
  refine lv_istore_n (lv' := [(3, .int (nI 0)), (2, .int (nI 0)), (0, .ref tb), (1, .ref ob)]) hx hb dX3_dueToAll_3 rfl hl (by decide) rfl (fun ls hl => ?_)
  have LP4 : ∀ (nn4 i : Nat), i ≤ k → k < i + nn4  → ∀ (H : Heap) (locs : List Loc), va_P D vwCl [(tb, .inr (3, [.int (nI k), .ref fa, .ref od])), (fa, .inl (G 0, 50, .inl (fl F))), (od, .inl (G 1, 10, .inr (.inr (.inl O)))), (ob, .inr (1, [.int (nI n), .ref nu, .ref fr])), (nu, .inl (G 0, 16, .inl N)), (fr, .inl (G 0, 16, .inl Z))] H → va_D A [(tb, .inr (3, [.int (nI k), .ref fa, .ref od])), (fa, .inl (G 0, 50, .inl (fl F))), (od, .inl (G 1, 10, .inr (.inr (.inl O)))), (ob, .inr (1, [.int (nI n), .ref nu, .ref fr])), (nu, .inl (G 0, 16, .inl N)), (fr, .inl (G 0, 16, .inl Z))] → va_S A s.heap H locs → ∀ ls : Array Slot, lv_has ls 4 [(2, .int (da n N F O i)), (3, .int (nI i)), (0, .ref tb), (1, .ref ob)] → W pp l ee (rmA 4 89) s mm ([.ref tb, .ref ob] : List Value).toArray bl me cc H locs 0 0 (MQ bl (Qres (some (.int (da n N F O k))) D G [(tb, .inr (3, [.int (nI k), .ref fa, .ref od])), (fa, .inl (G 0, 50, .inl (fl F))), (od, .inl (G 1, 10, .inr (.inr (.inl O)))), (ob, .inr (1, [.int (nI n), .ref nu, .ref fr])), (nu, .inl (G 0, 16, .inl N)), (fr, .inl (G 0, 16, .inl Z))] A) ([.ref tb, .ref ob] : List Value).toArray s 0 0 A) (F0 mm 4 ls []) := by
    intro nn4
    induction nn4 with
    | zero => intro i h1 h2; exact absurd h2 (by omega)
    | succ nn4 ih4 =>
      intro i hki hni  H locs hP hD hS ls hl
      refine lv_iload_n hx hb dX3_dueToAll_4 rfl (lv_at hl 1 rfl) ?_
      refine lv_aload_n hx hb dX3_dueToAll_5 rfl (lv_at hl 2 rfl) ?_
      refine va_get (D := D) (ci := 3) (v := .int (nI k)) (C := RX3) (T := TX3) (N := 3) hx hb hts inX3 hown hK hP 0 rfl rfl 0 (by decide) k7 (fun _ h9 => h9) rfl dX3_dueToAll_6 ?_
      refine bGe (tgt := 35) hx hb dX3_dueToAll_9 (by decide) (by omega) (by omega) (fun c1 => ?_) (fun c1 => ?_)
      · obtain rfl : k = i := by omega
        refine lv_iload_n hx hb dX3_dueToAll_35 rfl (lv_at hl 0 rfl) ?_
        exact rIret hx hb hr hlk hP hK hD hS dX3_dueToAll_36
      · refine lv_aload_n hx hb dX3_dueToAll_12 rfl (lv_at hl 2 rfl) ?_
        refine lv_iload_n hx hb dX3_dueToAll_13 rfl (lv_at hl 1 rfl) ?_
        refine lv_aload_n hx hb dX3_dueToAll_14 rfl (lv_at hl 3 rfl) ?_
        refine cVr (As := [.int (nI i), .ref ob]) (rest := []) ⟨hx, hb, hml, hown, hts⟩ hP hK hD hS hN hA (mX3_isRight l D G tb fa od k F O ob nu fr n N Z i (by first | assumption | omega) (by first | assumption | omega) (by first | assumption | omega) (by first | assumption | omega)) (cwV 2 hts gX3_dueToAll_X3_isRight rfl rfl rfl (by decide +kernel) ⟨Nat.le_of_ble_eq_true rfl, Nat.le_of_ble_eq_true rfl⟩) [0, 1, 2, 3, 4, 5] rfl (by decide) 0 3 rfl rfl rfl hl.1 rfl (Nat.le_of_ble_eq_true rfl) dX3_dueToAll_15 ⟨Nat.zero_le _, Nat.zero_le _⟩ (fun H locs hP hS => ?_)
        refine zEq (tgt := 29) hx hb dX3_dueToAll_18 (by decide)  (fun c2 => ?_) (fun c2 => ?_)
        · rw [show da n N F O i = da n N F O (i + 1) from by first | rw [da_t (by assumption)] | rw [da_f (by assumption)]] at hl
          refine lv_iinc (v := nI (i + 1)) (lv' := [(3, .int (nI (i + 1))), (2, .int (da n N F O (i + 1))), (0, .ref tb), (1, .ref ob)]) hx hb dX3_dueToAll_29 hl (k := 1) rfl (nI_inc i) (by decide) rfl (fun ls hl => ?_)
          refine lv_goto (tgt := 4) hx hb dX3_dueToAll_32 (by decide) ?_
          exact ih4 (i + 1) (by omega) (by omega)  _ _ hP hD hS _ (lv_sub hl [1, 0, 2, 3] rfl)
        · refine lv_iload_n hx hb dX3_dueToAll_21 rfl (lv_at hl 0 rfl) ?_
          refine lv_aload_n hx hb dX3_dueToAll_22 rfl (lv_at hl 2 rfl) ?_
          refine lv_iload_n hx hb dX3_dueToAll_23 rfl (lv_at hl 1 rfl) ?_
          refine cVr (As := [.int (nI i)]) (rest := [.int (da n N F O i)]) ⟨hx, hb, hml, hown, hts⟩ hP hK hD hS hN hA (mX3_payout l D G tb fa od k F O i (by first | assumption | omega) (by first | assumption | omega) (by first | assumption | omega)) (cwV 1 hts gX3_dueToAll_X3_payout rfl rfl rfl (by decide +kernel) ⟨Nat.le_of_ble_eq_true rfl, Nat.le_of_ble_eq_true rfl⟩) [0, 1, 2] rfl (by decide) 0 3 rfl rfl rfl hl.1 rfl (Nat.le_of_ble_eq_true rfl) dX3_dueToAll_24 ⟨Nat.zero_le _, Nat.zero_le _⟩ (fun H locs hP hS => ?_)
          refine lv_iadd hx hb dX3_dueToAll_27 ?_
          refine lv_istore_n (lv' := [(2, .int (da n N F O i + pay F O i)), (3, .int (nI i)), (0, .ref tb), (1, .ref ob)]) hx hb dX3_dueToAll_28 rfl hl (by decide) rfl (fun ls hl => ?_)
          rw [show (da n N F O i + pay F O i) = da n N F O (i + 1) from by first | rw [da_t (by assumption)] | rw [da_f (by assumption)]] at hl
          refine lv_iinc (v := nI (i + 1)) (lv' := [(3, .int (nI (i + 1))), (2, .int (da n N F O (i + 1))), (0, .ref tb), (1, .ref ob)]) hx hb dX3_dueToAll_29 hl (k := 1) rfl (nI_inc i) (by decide) rfl (fun ls hl => ?_)
          refine lv_goto (tgt := 4) hx hb dX3_dueToAll_32 (by decide) ?_
          exact ih4 (i + 1) (by omega) (by omega)  _ _ hP hD hS _ (lv_sub hl [1, 0, 2, 3] rfl)
  exact LP4 (k + 1 - 0) 0 (by omega) (by omega)  _ _ hP hD hS _ (lv_sub hl [1, 0, 2, 3] rfl)

set_option maxHeartbeats 4000000 in
set_option maxRecDepth 100000 in
theorem mX3_sumOfOdds (l : Launch) (D : va_G) (G : Nat → ClassId) (tb fa od k : Nat) (F : Nat → Nat → Int32) (O : Nat → UInt32) (hk : k ≤ 10) (hO : OOK k O) : CT l yX3_sumOfOdds wsX3_sumOfOdds 1 21 D G [.ref tb] [(tb, .inr (3, [.int (nI k), .ref fa, .ref od])), (fa, .inl (G 0, 50, .inl (fl F))), (od, .inl (G 1, 10, .inr (.inr (.inl O))))] [(tb, .inr (3, [.int (nI k), .ref fa, .ref od])), (fa, .inl (G 0, 50, .inl (fl F))), (od, .inl (G 1, 10, .inr (.inr (.inl O))))] (some (.float (so O k))) := by
  refine CT.of (cc := cX3_sumOfOdds) (maxL := 3) (ret := (some .float)) (by decide) rfl RX3 rfl (Nat.le_of_ble_eq_true rfl) (fun pp ee s mm bl me cc A ls hx hb hr hml hts hown hlk hnm hA hP hK hD hN hS hl => ?_)
  have hl : lv_has ls 3 [(0, .ref tb)] := hl
  have hP : va_P D vwCl [(tb, .inr (3, [.int (nI k), .ref fa, .ref od])), (fa, .inl (G 0, 50, .inl (fl F))), (od, .inl (G 1, 10, .inr (.inr (.inl O))))] s.heap := hP
  have inX3 : ∀ w ∈ wsX30, w ∈ wsX3_sumOfOdds := fun w h => List.mem_cons_of_mem _ (List.mem_append_right _ h)
  have k7 := hts (.fieldLink RX3 7 "SquareStakes$Table" "size" "I") (List.mem_of_getElem? (i := 1) rfl)
  refine lv_fconst0 hx hb dX3_sumOfOdds_0 ?_
  refine lv_fstore_n (lv' := [(1, .float FP.fconst0), (0, .ref tb)]) hx hb dX3_sumOfOdds_1 rfl hl (by decide) rfl (fun ls hl => ?_)
  refine lv_iconst (v := nI 0) hx hb dX3_sumOfOdds_2 (by decide +kernel) ?_
  refine lv_istore_n (lv' := [(2, .int (nI 0)), (1, .float FP.fconst0), (0, .ref tb)]) hx hb dX3_sumOfOdds_3 rfl hl (by decide) rfl (fun ls hl => ?_)
  have LP4 : ∀ (nn4 i : Nat), i ≤ k → k < i + nn4  → ∀ (H : Heap) (locs : List Loc), va_P D vwCl [(tb, .inr (3, [.int (nI k), .ref fa, .ref od])), (fa, .inl (G 0, 50, .inl (fl F))), (od, .inl (G 1, 10, .inr (.inr (.inl O))))] H → va_D A [(tb, .inr (3, [.int (nI k), .ref fa, .ref od])), (fa, .inl (G 0, 50, .inl (fl F))), (od, .inl (G 1, 10, .inr (.inr (.inl O))))] → va_S A s.heap H locs → ∀ ls : Array Slot, lv_has ls 3 [(1, .float (so O i)), (2, .int (nI i)), (0, .ref tb)] → W pp l ee (rmA 1 21) s mm ([.ref tb] : List Value).toArray bl me cc H locs 0 0 (MQ bl (Qres (some (.float (so O k))) D G [(tb, .inr (3, [.int (nI k), .ref fa, .ref od])), (fa, .inl (G 0, 50, .inl (fl F))), (od, .inl (G 1, 10, .inr (.inr (.inl O))))] A) ([.ref tb] : List Value).toArray s 0 0 A) (F0 mm 4 ls []) := by
    intro nn4
    induction nn4 with
    | zero => intro i h1 h2; exact absurd h2 (by omega)
    | succ nn4 ih4 =>
      intro i hki hni  H locs hP hD hS ls hl
      refine lv_iload_n hx hb dX3_sumOfOdds_4 rfl (lv_at hl 1 rfl) ?_
      refine lv_aload_n hx hb dX3_sumOfOdds_5 rfl (lv_at hl 2 rfl) ?_
      refine va_get (D := D) (ci := 3) (v := .int (nI k)) (C := RX3) (T := TX3) (N := 3) hx hb hts inX3 hown hK hP 0 rfl rfl 0 (by decide) k7 (fun _ h9 => h9) rfl dX3_sumOfOdds_6 ?_
      refine bGe (tgt := 26) hx hb dX3_sumOfOdds_9 (by decide) (by omega) (by omega) (fun c1 => ?_) (fun c1 => ?_)
      · obtain rfl : k = i := by omega
        refine lv_fload_n hx hb dX3_sumOfOdds_26 rfl (lv_at hl 0 rfl) ?_
        exact rFret hx hb hr hlk hP hK hD hS dX3_sumOfOdds_27
      · refine lv_fload_n hx hb dX3_sumOfOdds_12 rfl (lv_at hl 0 rfl) ?_
        refine lv_aload_n hx hb dX3_sumOfOdds_13 rfl (lv_at hl 2 rfl) ?_
        refine lv_iload_n hx hb dX3_sumOfOdds_14 rfl (lv_at hl 1 rfl) ?_
        refine cVr (As := [.int (nI i)]) (rest := [.float (so O i)]) ⟨hx, hb, hml, hown, hts⟩ hP hK hD hS hN hA (mX3_oddsOf l D G tb fa od k F O i (by first | assumption | omega) (by first | assumption | omega)) (cwV 1 hts gX3_sumOfOdds_X3_oddsOf rfl rfl rfl (by decide +kernel) ⟨Nat.le_of_ble_eq_true rfl, Nat.le_of_ble_eq_true rfl⟩) [0, 1, 2] rfl (by decide) 0 3 rfl rfl rfl hl.1 rfl (Nat.le_of_ble_eq_true rfl) dX3_sumOfOdds_15 ⟨Nat.zero_le _, Nat.zero_le _⟩ (fun H locs hP hS => ?_)
        refine lv_fadd hx hb dX3_sumOfOdds_18 (nan_so hO hk (show i < k by omega)) ?_
        refine lv_fstore_n (lv' := [(1, .float (FP.fadd (so O i) (O i))), (2, .int (nI i)), (0, .ref tb)]) hx hb dX3_sumOfOdds_19 rfl hl (by decide) rfl (fun ls hl => ?_)
        refine lv_iinc (v := nI (i + 1)) (lv' := [(2, .int (nI (i + 1))), (1, .float (FP.fadd (so O i) (O i))), (0, .ref tb)]) hx hb dX3_sumOfOdds_20 hl (k := 1) rfl (nI_inc i) (by decide) rfl (fun ls hl => ?_)
        refine lv_goto (tgt := 4) hx hb dX3_sumOfOdds_23 (by decide) ?_
        exact ih4 (i + 1) (by omega) (by omega)  _ _ hP hD hS _ (lv_sub hl [1, 0, 2] rfl)
  exact LP4 (k + 1 - 0) 0 (by omega) (by omega)  _ _ hP hD hS _ (lv_sub hl [1, 0, 2] rfl)

set_option maxHeartbeats 4000000 in
set_option maxRecDepth 100000 in
theorem mX3_add (l : Launch) (D : va_G) (G : Nat → ClassId) (tb fa od k : Nat) (F : Nat → Nat → Int32) (O : Nat → UInt32) (r L : Nat) (kd am su : Int32) (ov : UInt32) (hk9 : k < 10) : CT l yX3_add wsX3_add 1 24 D G [.ref tb, .int (nI r), .int (nI L), .int kd, .int am, .int su, .float ov] [(tb, .inr (3, [.int (nI k), .ref fa, .ref od])), (fa, .inl (G 0, 50, .inl (fl F))), (od, .inl (G 1, 10, .inr (.inr (.inl O))))] [(tb, .inr (3, [.int (nI (k + 1)), .ref fa, .ref od])), (fa, .inl (G 0, 50, .inl (fl (nwF F k (nI r) (nI L) kd am su)))), (od, .inl (G 1, 10, .inr (.inr (.inl (va_up O k ov)))))] none := by
  refine CT.of (cc := cX3_add) (maxL := 7) (ret := none) (by decide) rfl RX3 rfl (Nat.le_of_ble_eq_true rfl) (fun pp ee s mm bl me cc A ls hx hb hr hml hts hown hlk hnm hA hP hK hD hN hS hl => ?_)
  have hl : lv_has ls 7 [(0, .ref tb), (1, .int (nI r)), (2, .int (nI L)), (3, .int kd), (4, .int am), (5, .int su), (6, .float ov)] := hl
  have hP : va_P D vwCl [(tb, .inr (3, [.int (nI k), .ref fa, .ref od])), (fa, .inl (G 0, 50, .inl (fl F))), (od, .inl (G 1, 10, .inr (.inr (.inl O))))] s.heap := hP
  have inX3 : ∀ w ∈ wsX30, w ∈ wsX3_add := fun w h => List.mem_cons_of_mem _ (List.mem_append_right _ h)
  have k7 := hts (.fieldLink RX3 7 "SquareStakes$Table" "size" "I") (List.mem_of_getElem? (i := 1) rfl)
  have k17 := hts (.fieldLink RX3 17 "SquareStakes$Table" "odds" "[F") (List.mem_of_getElem? (i := 2) rfl)
  refine lv_aload_n hx hb dX3_add_0 rfl (lv_at hl 0 rfl) ?_
  refine va_get (D := D) (ci := 3) (v := .int (nI k)) (C := RX3) (T := TX3) (N := 3) hx hb hts inX3 hown hK hP 0 rfl rfl 0 (by decide) k7 (fun _ h9 => h9) rfl dX3_add_1 ?_
  refine iLt (tgt := 19) hx hb dX3_add_4 (by decide) (by omega) ?_
  refine lv_aload_n hx hb dX3_add_7 rfl (lv_at hl 0 rfl) ?_
  refine va_get (D := D) (ci := 3) (v := .int (nI k)) (C := RX3) (T := TX3) (N := 3) hx hb hts inX3 hown hK hP 0 rfl rfl 0 (by decide) k7 (fun _ h9 => h9) rfl dX3_add_8 ?_
  refine lv_aload_n hx hb dX3_add_11 rfl (lv_at hl 0 rfl) ?_
  refine va_get (D := D) (ci := 3) (v := .ref od) (C := RX3) (T := TX3) (N := 3) hx hb hts inX3 hown hK hP 0 rfl rfl 2 (by decide) k17 (fun _ h9 => h9) rfl dX3_add_12 ?_
  refine va_alen (v := nI 10) hx hb hK hP 2 1 rfl rfl rfl dX3_add_15 ?_
  refine bLt (tgt := 20) hx hb dX3_add_16 (by decide) (by omega) (by omega) (fun c2 => ?_) (fun c2 => by exfalso; omega)
  refine lv_aload_n hx hb dX3_add_20 rfl (lv_at hl 0 rfl) ?_
  refine va_get (D := D) (ci := 3) (v := .ref od) (C := RX3) (T := TX3) (N := 3) hx hb hts inX3 hown hK hP 0 rfl rfl 2 (by decide) k17 (fun _ h9 => h9) rfl dX3_add_21 ?_
  refine lv_aload_n hx hb dX3_add_24 rfl (lv_at hl 0 rfl) ?_
  refine va_get (D := D) (ci := 3) (v := .int (nI k)) (C := RX3) (T := TX3) (N := 3) hx hb hts inX3 hown hK hP 0 rfl rfl 0 (by decide) k7 (fun _ h9 => h9) rfl dX3_add_25 ?_
  refine lv_fload hx hb dX3_add_28 (lv_at hl 6 rfl) ?_
  refine rFast hx hb hK hP hD hS 2 rfl k (by omega) (by decide) dX3_add_30 (fun H locs hP hD hS => ?_)
  have hP : va_P D vwCl [(tb, .inr (3, [.int (nI k), .ref fa, .ref od])), (fa, .inl (G 0, 50, .inl (fl F))), (od, .inl (G 1, 10, .inr (.inr (.inl (va_up O k ov)))))] H := hP
  have hD : va_D A [(tb, .inr (3, [.int (nI k), .ref fa, .ref od])), (fa, .inl (G 0, 50, .inl (fl F))), (od, .inl (G 1, 10, .inr (.inr (.inl (va_up O k ov)))))] := hD
  refine lv_aload_n hx hb dX3_add_31 rfl (lv_at hl 0 rfl) ?_
  refine lv_aload_n hx hb dX3_add_32 rfl (lv_at hl 0 rfl) ?_
  refine va_get (D := D) (ci := 3) (v := .int (nI k)) (C := RX3) (T := TX3) (N := 3) hx hb hts inX3 hown hK hP 0 rfl rfl 0 (by decide) k7 (fun _ h9 => h9) rfl dX3_add_33 ?_
  refine lv_iconst (v := nI 0) hx hb dX3_add_36 (by decide +kernel) ?_
  refine lv_iload_n hx hb dX3_add_37 rfl (lv_at hl 1 rfl) ?_
  refine cV (As := [.int (nI k), .int (nI 0), .int (nI r)]) (rest := []) ⟨hx, hb, hml, hown, hts⟩ hP hK hD hS hN hA (mX3_putFact l D G tb fa od k F (va_up O k ov) k 0 (nI r) (by first | assumption | omega) (by first | assumption | omega) (by first | assumption | omega)) (cwV 3 hts gX3_add_X3_putFact rfl rfl rfl (by decide +kernel) ⟨Nat.le_of_ble_eq_true rfl, Nat.le_of_ble_eq_true rfl⟩) [0, 1, 2] rfl (by decide) rfl 0 3 rfl rfl rfl hl.1 rfl (Nat.le_of_ble_eq_true rfl) dX3_add_38 ⟨Nat.zero_le _, Nat.zero_le _⟩ (fun H locs hP hD hS => ?_)
  have hP : va_P D vwCl [(tb, .inr (3, [.int (nI k), .ref fa, .ref od])), (fa, .inl (G 0, 50, .inl (fl (updF F k 0 (nI r))))), (od, .inl (G 1, 10, .inr (.inr (.inl (va_up O k ov)))))] H := hP
  have hD : va_D A [(tb, .inr (3, [.int (nI k), .ref fa, .ref od])), (fa, .inl (G 0, 50, .inl (fl (updF F k 0 (nI r))))), (od, .inl (G 1, 10, .inr (.inr (.inl (va_up O k ov)))))] := hD
  refine lv_aload_n hx hb dX3_add_41 rfl (lv_at hl 0 rfl) ?_
  refine lv_aload_n hx hb dX3_add_42 rfl (lv_at hl 0 rfl) ?_
  refine va_get (D := D) (ci := 3) (v := .int (nI k)) (C := RX3) (T := TX3) (N := 3) hx hb hts inX3 hown hK hP 0 rfl rfl 0 (by decide) k7 (fun _ h9 => h9) rfl dX3_add_43 ?_
  refine lv_iconst (v := nI 1) hx hb dX3_add_46 (by decide +kernel) ?_
  refine lv_iload_n hx hb dX3_add_47 rfl (lv_at hl 2 rfl) ?_
  refine cV (As := [.int (nI k), .int (nI 1), .int (nI L)]) (rest := []) ⟨hx, hb, hml, hown, hts⟩ hP hK hD hS hN hA (mX3_putFact l D G tb fa od k (updF F k 0 (nI r)) (va_up O k ov) k 1 (nI L) (by first | assumption | omega) (by first | assumption | omega) (by first | assumption | omega)) (cwV 3 hts gX3_add_X3_putFact rfl rfl rfl (by decide +kernel) ⟨Nat.le_of_ble_eq_true rfl, Nat.le_of_ble_eq_true rfl⟩) [0, 1, 2] rfl (by decide) rfl 0 3 rfl rfl rfl hl.1 rfl (Nat.le_of_ble_eq_true rfl) dX3_add_48 ⟨Nat.zero_le _, Nat.zero_le _⟩ (fun H locs hP hD hS => ?_)
  have hP : va_P D vwCl [(tb, .inr (3, [.int (nI k), .ref fa, .ref od])), (fa, .inl (G 0, 50, .inl (fl (updF (updF F k 0 (nI r)) k 1 (nI L))))), (od, .inl (G 1, 10, .inr (.inr (.inl (va_up O k ov)))))] H := hP
  have hD : va_D A [(tb, .inr (3, [.int (nI k), .ref fa, .ref od])), (fa, .inl (G 0, 50, .inl (fl (updF (updF F k 0 (nI r)) k 1 (nI L))))), (od, .inl (G 1, 10, .inr (.inr (.inl (va_up O k ov)))))] := hD
  refine lv_aload_n hx hb dX3_add_51 rfl (lv_at hl 0 rfl) ?_
  refine lv_aload_n hx hb dX3_add_52 rfl (lv_at hl 0 rfl) ?_
  refine va_get (D := D) (ci := 3) (v := .int (nI k)) (C := RX3) (T := TX3) (N := 3) hx hb hts inX3 hown hK hP 0 rfl rfl 0 (by decide) k7 (fun _ h9 => h9) rfl dX3_add_53 ?_
  refine lv_iconst (v := nI 2) hx hb dX3_add_56 (by decide +kernel) ?_
  refine lv_iload_n hx hb dX3_add_57 rfl (lv_at hl 3 rfl) ?_
  refine cV (As := [.int (nI k), .int (nI 2), .int kd]) (rest := []) ⟨hx, hb, hml, hown, hts⟩ hP hK hD hS hN hA (mX3_putFact l D G tb fa od k (updF (updF F k 0 (nI r)) k 1 (nI L)) (va_up O k ov) k 2 kd (by first | assumption | omega) (by first | assumption | omega) (by first | assumption | omega)) (cwV 3 hts gX3_add_X3_putFact rfl rfl rfl (by decide +kernel) ⟨Nat.le_of_ble_eq_true rfl, Nat.le_of_ble_eq_true rfl⟩) [0, 1, 2] rfl (by decide) rfl 0 3 rfl rfl rfl hl.1 rfl (Nat.le_of_ble_eq_true rfl) dX3_add_58 ⟨Nat.zero_le _, Nat.zero_le _⟩ (fun H locs hP hD hS => ?_)
  have hP : va_P D vwCl [(tb, .inr (3, [.int (nI k), .ref fa, .ref od])), (fa, .inl (G 0, 50, .inl (fl (updF (updF (updF F k 0 (nI r)) k 1 (nI L)) k 2 kd)))), (od, .inl (G 1, 10, .inr (.inr (.inl (va_up O k ov)))))] H := hP
  have hD : va_D A [(tb, .inr (3, [.int (nI k), .ref fa, .ref od])), (fa, .inl (G 0, 50, .inl (fl (updF (updF (updF F k 0 (nI r)) k 1 (nI L)) k 2 kd)))), (od, .inl (G 1, 10, .inr (.inr (.inl (va_up O k ov)))))] := hD
  refine lv_aload_n hx hb dX3_add_61 rfl (lv_at hl 0 rfl) ?_
  refine lv_aload_n hx hb dX3_add_62 rfl (lv_at hl 0 rfl) ?_
  refine va_get (D := D) (ci := 3) (v := .int (nI k)) (C := RX3) (T := TX3) (N := 3) hx hb hts inX3 hown hK hP 0 rfl rfl 0 (by decide) k7 (fun _ h9 => h9) rfl dX3_add_63 ?_
  refine lv_iconst (v := nI 3) hx hb dX3_add_66 (by decide +kernel) ?_
  refine lv_iload hx hb dX3_add_67 (lv_at hl 4 rfl) ?_
  refine cV (As := [.int (nI k), .int (nI 3), .int am]) (rest := []) ⟨hx, hb, hml, hown, hts⟩ hP hK hD hS hN hA (mX3_putFact l D G tb fa od k (updF (updF (updF F k 0 (nI r)) k 1 (nI L)) k 2 kd) (va_up O k ov) k 3 am (by first | assumption | omega) (by first | assumption | omega) (by first | assumption | omega)) (cwV 3 hts gX3_add_X3_putFact rfl rfl rfl (by decide +kernel) ⟨Nat.le_of_ble_eq_true rfl, Nat.le_of_ble_eq_true rfl⟩) [0, 1, 2] rfl (by decide) rfl 0 3 rfl rfl rfl hl.1 rfl (Nat.le_of_ble_eq_true rfl) dX3_add_69 ⟨Nat.zero_le _, Nat.zero_le _⟩ (fun H locs hP hD hS => ?_)
  have hP : va_P D vwCl [(tb, .inr (3, [.int (nI k), .ref fa, .ref od])), (fa, .inl (G 0, 50, .inl (fl (updF (updF (updF (updF F k 0 (nI r)) k 1 (nI L)) k 2 kd) k 3 am)))), (od, .inl (G 1, 10, .inr (.inr (.inl (va_up O k ov)))))] H := hP
  have hD : va_D A [(tb, .inr (3, [.int (nI k), .ref fa, .ref od])), (fa, .inl (G 0, 50, .inl (fl (updF (updF (updF (updF F k 0 (nI r)) k 1 (nI L)) k 2 kd) k 3 am)))), (od, .inl (G 1, 10, .inr (.inr (.inl (va_up O k ov)))))] := hD
  refine lv_aload_n hx hb dX3_add_72 rfl (lv_at hl 0 rfl) ?_
  refine lv_aload_n hx hb dX3_add_73 rfl (lv_at hl 0 rfl) ?_
  refine va_get (D := D) (ci := 3) (v := .int (nI k)) (C := RX3) (T := TX3) (N := 3) hx hb hts inX3 hown hK hP 0 rfl rfl 0 (by decide) k7 (fun _ h9 => h9) rfl dX3_add_74 ?_
  refine lv_iconst (v := nI 4) hx hb dX3_add_77 (by decide +kernel) ?_
  refine lv_iload hx hb dX3_add_78 (lv_at hl 5 rfl) ?_
  refine cV (As := [.int (nI k), .int (nI 4), .int su]) (rest := []) ⟨hx, hb, hml, hown, hts⟩ hP hK hD hS hN hA (mX3_putFact l D G tb fa od k (updF (updF (updF (updF F k 0 (nI r)) k 1 (nI L)) k 2 kd) k 3 am) (va_up O k ov) k 4 su (by first | assumption | omega) (by first | assumption | omega) (by first | assumption | omega)) (cwV 3 hts gX3_add_X3_putFact rfl rfl rfl (by decide +kernel) ⟨Nat.le_of_ble_eq_true rfl, Nat.le_of_ble_eq_true rfl⟩) [0, 1, 2] rfl (by decide) rfl 0 3 rfl rfl rfl hl.1 rfl (Nat.le_of_ble_eq_true rfl) dX3_add_80 ⟨Nat.zero_le _, Nat.zero_le _⟩ (fun H locs hP hD hS => ?_)
  have hP : va_P D vwCl [(tb, .inr (3, [.int (nI k), .ref fa, .ref od])), (fa, .inl (G 0, 50, .inl (fl (updF (updF (updF (updF (updF F k 0 (nI r)) k 1 (nI L)) k 2 kd) k 3 am) k 4 su)))), (od, .inl (G 1, 10, .inr (.inr (.inl (va_up O k ov)))))] H := hP
  have hD : va_D A [(tb, .inr (3, [.int (nI k), .ref fa, .ref od])), (fa, .inl (G 0, 50, .inl (fl (updF (updF (updF (updF (updF F k 0 (nI r)) k 1 (nI L)) k 2 kd) k 3 am) k 4 su)))), (od, .inl (G 1, 10, .inr (.inr (.inl (va_up O k ov)))))] := hD
  refine lv_aload_n hx hb dX3_add_83 rfl (lv_at hl 0 rfl) ?_
  refine lv_dup hx hb dX3_add_84 rfl ?_
  refine va_get (D := D) (ci := 3) (v := .int (nI k)) (C := RX3) (T := TX3) (N := 3) hx hb hts inX3 hown hK hP 0 rfl rfl 0 (by decide) k7 (fun _ h9 => h9) rfl dX3_add_85 ?_
  refine lv_iconst (v := nI 1) hx hb dX3_add_88 (by decide +kernel) ?_
  refine lv_iadd hx hb dX3_add_89 ?_
  refine rTop (show nI k + nI 1 = nI (k + 1) from nI_add k 1) ?_
  refine va_put (D := D) (ci := 3) (v := .int (nI (k + 1))) (ty := .int) (C := RX3) (T := TX3) (N := 3) hx hb hts inX3 tyX3 tyX3_ok nmX3 hown hK hP hD hS 0 rfl rfl 0 (by decide) k7 (fun _ h9 => h9) rfl (by decide +kernel) rfl rfl (Nat.le_of_ble_eq_true rfl) dX3_add_90 (fun H locs hP hD hS => ?_)
  have hP : va_P D vwCl [(tb, .inr (3, [.int (nI (k + 1)), .ref fa, .ref od])), (fa, .inl (G 0, 50, .inl (fl (updF (updF (updF (updF (updF F k 0 (nI r)) k 1 (nI L)) k 2 kd) k 3 am) k 4 su)))), (od, .inl (G 1, 10, .inr (.inr (.inl (va_up O k ov)))))] H := hP
  have hD : va_D A [(tb, .inr (3, [.int (nI (k + 1)), .ref fa, .ref od])), (fa, .inl (G 0, 50, .inl (fl (updF (updF (updF (updF (updF F k 0 (nI r)) k 1 (nI L)) k 2 kd) k 3 am) k 4 su)))), (od, .inl (G 1, 10, .inr (.inr (.inl (va_up O k ov)))))] := hD
  obtain ⟨hP, hD⟩ := wI (g := fl (nwF F k (nI r) (nI L) kd am su)) hP hD 1 rfl (fun j hj => rfl)
  replace hP : va_P D vwCl [(tb, .inr (3, [.int (nI (k + 1)), .ref fa, .ref od])), (fa, .inl (G 0, 50, .inl (fl (nwF F k (nI r) (nI L) kd am su)))), (od, .inl (G 1, 10, .inr (.inr (.inl (va_up O k ov)))))] _ := hP
  have hD : va_D A [(tb, .inr (3, [.int (nI (k + 1)), .ref fa, .ref od])), (fa, .inl (G 0, 50, .inl (fl (nwF F k (nI r) (nI L) kd am su)))), (od, .inl (G 1, 10, .inr (.inr (.inl (va_up O k ov)))))] := hD
  exact rVret hx hb hr hlk hP hK hD hS dX3_add_93
