set_option maxHeartbeats 4000000 in
set_option maxRecDepth 100000 in
theorem mX2_turn (l : Launch) (D : va_G) (G : Nat → ClassId) (st pu wo se : Nat) (ob nu fr n : Nat) (N Z : Nat → Int32) (tb fa od k : Nat) (F : Nat → Nat → Int32) (O : Nat → UInt32) (P V S : Nat → Int32) (tn : Nat) (po rd al : Int32)  : CT l yX2_turn wsX2_turn 0 0 D G [.ref st] [(st, .inr (2, [.ref ob, .ref tb, .ref pu, .ref wo, .ref se, .int (nI tn), .int po, .int rd, .int al])), (ob, .inr (1, [.int (nI n), .ref nu, .ref fr])), (nu, .inl (G 0, 16, .inl N)), (fr, .inl (G 0, 16, .inl Z)), (tb, .inr (3, [.int (nI k), .ref fa, .ref od])), (fa, .inl (G 0, 50, .inl (fl F))), (od, .inl (G 1, 10, .inr (.inr (.inl O)))), (pu, .inl (G 0, 3, .inl P)), (wo, .inl (G 0, 3, .inl V)), (se, .inl (G 0, 3, .inl S))] [(st, .inr (2, [.ref ob, .ref tb, .ref pu, .ref wo, .ref se, .int (nI tn), .int po, .int rd, .int al])), (ob, .inr (1, [.int (nI n), .ref nu, .ref fr])), (nu, .inl (G 0, 16, .inl N)), (fr, .inl (G 0, 16, .inl Z)), (tb, .inr (3, [.int (nI k), .ref fa, .ref od])), (fa, .inl (G 0, 50, .inl (fl F))), (od, .inl (G 1, 10, .inr (.inr (.inl O)))), (pu, .inl (G 0, 3, .inl P)), (wo, .inl (G 0, 3, .inl V)), (se, .inl (G 0, 3, .inl S))] (some (.int (nI tn))) := by
  refine CT.of (cc := cX2_turn) (maxL := 1) (ret := (some .int)) (by decide) rfl RX2 rfl (Nat.le_of_ble_eq_true rfl) (fun pp ee s mm bl me cc A ls hx hb hr hml hts hown hlk hnm hA hP hK hD hN hS hl => ?_)
  have hl : lv_has ls 1 [(0, .ref st)] := hl
  have hP : va_P D vwCl [(st, .inr (2, [.ref ob, .ref tb, .ref pu, .ref wo, .ref se, .int (nI tn), .int po, .int rd, .int al])), (ob, .inr (1, [.int (nI n), .ref nu, .ref fr])), (nu, .inl (G 0, 16, .inl N)), (fr, .inl (G 0, 16, .inl Z)), (tb, .inr (3, [.int (nI k), .ref fa, .ref od])), (fa, .inl (G 0, 50, .inl (fl F))), (od, .inl (G 1, 10, .inr (.inr (.inl O)))), (pu, .inl (G 0, 3, .inl P)), (wo, .inl (G 0, 3, .inl V)), (se, .inl (G 0, 3, .inl S))] s.heap := hP
  have inX2 : ∀ w ∈ wsX20, w ∈ wsX2_turn := fun w h => List.mem_cons_of_mem _ (List.mem_append_right _ h)
  have k33 := hts (.fieldLink RX2 33 "SquareStakes$State" "turn" "I") (List.mem_of_getElem? (i := 1) rfl)
  refine lv_aload_n hx hb dX2_turn_0 rfl (lv_at hl 0 rfl) ?_
  refine va_get (D := D) (ci := 2) (v := .int (nI tn)) (C := RX2) (T := TX2) (N := 9) hx hb hts inX2 hown hK hP 0 rfl rfl 5 (by decide) k33 (fun _ h9 => h9) rfl dX2_turn_1 ?_
  exact rIret hx hb hr hlk hP hK hD hS dX2_turn_4

set_option maxHeartbeats 4000000 in
set_option maxRecDepth 100000 in
theorem mX2_pot (l : Launch) (D : va_G) (G : Nat → ClassId) (st pu wo se : Nat) (ob nu fr n : Nat) (N Z : Nat → Int32) (tb fa od k : Nat) (F : Nat → Nat → Int32) (O : Nat → UInt32) (P V S : Nat → Int32) (tn : Nat) (po rd al : Int32)  : CT l yX2_pot wsX2_pot 0 0 D G [.ref st] [(st, .inr (2, [.ref ob, .ref tb, .ref pu, .ref wo, .ref se, .int (nI tn), .int po, .int rd, .int al])), (ob, .inr (1, [.int (nI n), .ref nu, .ref fr])), (nu, .inl (G 0, 16, .inl N)), (fr, .inl (G 0, 16, .inl Z)), (tb, .inr (3, [.int (nI k), .ref fa, .ref od])), (fa, .inl (G 0, 50, .inl (fl F))), (od, .inl (G 1, 10, .inr (.inr (.inl O)))), (pu, .inl (G 0, 3, .inl P)), (wo, .inl (G 0, 3, .inl V)), (se, .inl (G 0, 3, .inl S))] [(st, .inr (2, [.ref ob, .ref tb, .ref pu, .ref wo, .ref se, .int (nI tn), .int po, .int rd, .int al])), (ob, .inr (1, [.int (nI n), .ref nu, .ref fr])), (nu, .inl (G 0, 16, .inl N)), (fr, .inl (G 0, 16, .inl Z)), (tb, .inr (3, [.int (nI k), .ref fa, .ref od])), (fa, .inl (G 0, 50, .inl (fl F))), (od, .inl (G 1, 10, .inr (.inr (.inl O)))), (pu, .inl (G 0, 3, .inl P)), (wo, .inl (G 0, 3, .inl V)), (se, .inl (G 0, 3, .inl S))] (some (.int po)) := by
  refine CT.of (cc := cX2_pot) (maxL := 1) (ret := (some .int)) (by decide) rfl RX2 rfl (Nat.le_of_ble_eq_true rfl) (fun pp ee s mm bl me cc A ls hx hb hr hml hts hown hlk hnm hA hP hK hD hN hS hl => ?_)
  have hl : lv_has ls 1 [(0, .ref st)] := hl
  have hP : va_P D vwCl [(st, .inr (2, [.ref ob, .ref tb, .ref pu, .ref wo, .ref se, .int (nI tn), .int po, .int rd, .int al])), (ob, .inr (1, [.int (nI n), .ref nu, .ref fr])), (nu, .inl (G 0, 16, .inl N)), (fr, .inl (G 0, 16, .inl Z)), (tb, .inr (3, [.int (nI k), .ref fa, .ref od])), (fa, .inl (G 0, 50, .inl (fl F))), (od, .inl (G 1, 10, .inr (.inr (.inl O)))), (pu, .inl (G 0, 3, .inl P)), (wo, .inl (G 0, 3, .inl V)), (se, .inl (G 0, 3, .inl S))] s.heap := hP
  have inX2 : ∀ w ∈ wsX20, w ∈ wsX2_pot := fun w h => List.mem_cons_of_mem _ (List.mem_append_right _ h)
  have k37 := hts (.fieldLink RX2 37 "SquareStakes$State" "pot" "I") (List.mem_of_getElem? (i := 1) rfl)
  refine lv_aload_n hx hb dX2_pot_0 rfl (lv_at hl 0 rfl) ?_
  refine va_get (D := D) (ci := 2) (v := .int po) (C := RX2) (T := TX2) (N := 9) hx hb hts inX2 hown hK hP 0 rfl rfl 6 (by decide) k37 (fun _ h9 => h9) rfl dX2_pot_1 ?_
  exact rIret hx hb hr hlk hP hK hD hS dX2_pot_4

set_option maxHeartbeats 4000000 in
set_option maxRecDepth 100000 in
theorem mX2_roundSwaps (l : Launch) (D : va_G) (G : Nat → ClassId) (st pu wo se : Nat) (ob nu fr n : Nat) (N Z : Nat → Int32) (tb fa od k : Nat) (F : Nat → Nat → Int32) (O : Nat → UInt32) (P V S : Nat → Int32) (tn : Nat) (po rd al : Int32)  : CT l yX2_roundSwaps wsX2_roundSwaps 0 0 D G [.ref st] [(st, .inr (2, [.ref ob, .ref tb, .ref pu, .ref wo, .ref se, .int (nI tn), .int po, .int rd, .int al])), (ob, .inr (1, [.int (nI n), .ref nu, .ref fr])), (nu, .inl (G 0, 16, .inl N)), (fr, .inl (G 0, 16, .inl Z)), (tb, .inr (3, [.int (nI k), .ref fa, .ref od])), (fa, .inl (G 0, 50, .inl (fl F))), (od, .inl (G 1, 10, .inr (.inr (.inl O)))), (pu, .inl (G 0, 3, .inl P)), (wo, .inl (G 0, 3, .inl V)), (se, .inl (G 0, 3, .inl S))] [(st, .inr (2, [.ref ob, .ref tb, .ref pu, .ref wo, .ref se, .int (nI tn), .int po, .int rd, .int al])), (ob, .inr (1, [.int (nI n), .ref nu, .ref fr])), (nu, .inl (G 0, 16, .inl N)), (fr, .inl (G 0, 16, .inl Z)), (tb, .inr (3, [.int (nI k), .ref fa, .ref od])), (fa, .inl (G 0, 50, .inl (fl F))), (od, .inl (G 1, 10, .inr (.inr (.inl O)))), (pu, .inl (G 0, 3, .inl P)), (wo, .inl (G 0, 3, .inl V)), (se, .inl (G 0, 3, .inl S))] (some (.int rd)) := by
  refine CT.of (cc := cX2_roundSwaps) (maxL := 1) (ret := (some .int)) (by decide) rfl RX2 rfl (Nat.le_of_ble_eq_true rfl) (fun pp ee s mm bl me cc A ls hx hb hr hml hts hown hlk hnm hA hP hK hD hN hS hl => ?_)
  have hl : lv_has ls 1 [(0, .ref st)] := hl
  have hP : va_P D vwCl [(st, .inr (2, [.ref ob, .ref tb, .ref pu, .ref wo, .ref se, .int (nI tn), .int po, .int rd, .int al])), (ob, .inr (1, [.int (nI n), .ref nu, .ref fr])), (nu, .inl (G 0, 16, .inl N)), (fr, .inl (G 0, 16, .inl Z)), (tb, .inr (3, [.int (nI k), .ref fa, .ref od])), (fa, .inl (G 0, 50, .inl (fl F))), (od, .inl (G 1, 10, .inr (.inr (.inl O)))), (pu, .inl (G 0, 3, .inl P)), (wo, .inl (G 0, 3, .inl V)), (se, .inl (G 0, 3, .inl S))] s.heap := hP
  have inX2 : ∀ w ∈ wsX20, w ∈ wsX2_roundSwaps := fun w h => List.mem_cons_of_mem _ (List.mem_append_right _ h)
  have k40 := hts (.fieldLink RX2 40 "SquareStakes$State" "roundSwaps" "I") (List.mem_of_getElem? (i := 1) rfl)
  refine lv_aload_n hx hb dX2_roundSwaps_0 rfl (lv_at hl 0 rfl) ?_
  refine va_get (D := D) (ci := 2) (v := .int rd) (C := RX2) (T := TX2) (N := 9) hx hb hts inX2 hown hK hP 0 rfl rfl 7 (by decide) k40 (fun _ h9 => h9) rfl dX2_roundSwaps_1 ?_
  exact rIret hx hb hr hlk hP hK hD hS dX2_roundSwaps_4

set_option maxHeartbeats 4000000 in
set_option maxRecDepth 100000 in
theorem mX2_allSwaps (l : Launch) (D : va_G) (G : Nat → ClassId) (st pu wo se : Nat) (ob nu fr n : Nat) (N Z : Nat → Int32) (tb fa od k : Nat) (F : Nat → Nat → Int32) (O : Nat → UInt32) (P V S : Nat → Int32) (tn : Nat) (po rd al : Int32)  : CT l yX2_allSwaps wsX2_allSwaps 0 0 D G [.ref st] [(st, .inr (2, [.ref ob, .ref tb, .ref pu, .ref wo, .ref se, .int (nI tn), .int po, .int rd, .int al])), (ob, .inr (1, [.int (nI n), .ref nu, .ref fr])), (nu, .inl (G 0, 16, .inl N)), (fr, .inl (G 0, 16, .inl Z)), (tb, .inr (3, [.int (nI k), .ref fa, .ref od])), (fa, .inl (G 0, 50, .inl (fl F))), (od, .inl (G 1, 10, .inr (.inr (.inl O)))), (pu, .inl (G 0, 3, .inl P)), (wo, .inl (G 0, 3, .inl V)), (se, .inl (G 0, 3, .inl S))] [(st, .inr (2, [.ref ob, .ref tb, .ref pu, .ref wo, .ref se, .int (nI tn), .int po, .int rd, .int al])), (ob, .inr (1, [.int (nI n), .ref nu, .ref fr])), (nu, .inl (G 0, 16, .inl N)), (fr, .inl (G 0, 16, .inl Z)), (tb, .inr (3, [.int (nI k), .ref fa, .ref od])), (fa, .inl (G 0, 50, .inl (fl F))), (od, .inl (G 1, 10, .inr (.inr (.inl O)))), (pu, .inl (G 0, 3, .inl P)), (wo, .inl (G 0, 3, .inl V)), (se, .inl (G 0, 3, .inl S))] (some (.int al)) := by
  refine CT.of (cc := cX2_allSwaps) (maxL := 1) (ret := (some .int)) (by decide) rfl RX2 rfl (Nat.le_of_ble_eq_true rfl) (fun pp ee s mm bl me cc A ls hx hb hr hml hts hown hlk hnm hA hP hK hD hN hS hl => ?_)
  have hl : lv_has ls 1 [(0, .ref st)] := hl
  have hP : va_P D vwCl [(st, .inr (2, [.ref ob, .ref tb, .ref pu, .ref wo, .ref se, .int (nI tn), .int po, .int rd, .int al])), (ob, .inr (1, [.int (nI n), .ref nu, .ref fr])), (nu, .inl (G 0, 16, .inl N)), (fr, .inl (G 0, 16, .inl Z)), (tb, .inr (3, [.int (nI k), .ref fa, .ref od])), (fa, .inl (G 0, 50, .inl (fl F))), (od, .inl (G 1, 10, .inr (.inr (.inl O)))), (pu, .inl (G 0, 3, .inl P)), (wo, .inl (G 0, 3, .inl V)), (se, .inl (G 0, 3, .inl S))] s.heap := hP
  have inX2 : ∀ w ∈ wsX20, w ∈ wsX2_allSwaps := fun w h => List.mem_cons_of_mem _ (List.mem_append_right _ h)
  have k43 := hts (.fieldLink RX2 43 "SquareStakes$State" "allSwaps" "I") (List.mem_of_getElem? (i := 1) rfl)
  refine lv_aload_n hx hb dX2_allSwaps_0 rfl (lv_at hl 0 rfl) ?_
  refine va_get (D := D) (ci := 2) (v := .int al) (C := RX2) (T := TX2) (N := 9) hx hb hts inX2 hown hK hP 0 rfl rfl 8 (by decide) k43 (fun _ h9 => h9) rfl dX2_allSwaps_1 ?_
  exact rIret hx hb hr hlk hP hK hD hS dX2_allSwaps_4

set_option maxHeartbeats 4000000 in
set_option maxRecDepth 100000 in
theorem mX2_hasRival (l : Launch) (D : va_G) (G : Nat → ClassId) (x : Int32)  : CT l yX2_hasRival wsX2_hasRival 0 0 D G [.int x] [] [] (some (.int (zB (inB x 3)))) := by
  refine CT.of (cc := cX2_hasRival) (maxL := 1) (ret := (some .boolean)) (by decide) rfl RX2 rfl (Nat.le_of_ble_eq_true rfl) (fun pp ee s mm bl me cc A ls hx hb hr hml hts hown hlk hnm hA hP hK hD hN hS hl => ?_)
  have hl : lv_has ls 1 [(0, .int x)] := hl
  have hP : va_P D vwCl [] s.heap := hP
  refine lv_iload_n hx hb dX2_hasRival_0 rfl (lv_at hl 0 rfl) ?_
  refine lv_if_lt (tgt := 13) hx hb dX2_hasRival_1 (by decide)  (fun c1 => ?_) (fun c1 => ?_)
  · refine lv_iconst (v := nI 0) hx hb dX2_hasRival_13 (by decide +kernel) ?_
    refine rTop (zB_0 (b := inB x 3) (by first | exact inB_of (by assumption) (by assumption) (by omega) | exact inB_neg (by assumption) | exact inB_big (by assumption) (by omega))) ?_
    exact rZret hx hb hr hlk hP hK hD hS dX2_hasRival_14
  · refine lv_iload_n hx hb dX2_hasRival_4 rfl (lv_at hl 0 rfl) ?_
    refine lv_iconst (v := nI 3) hx hb dX2_hasRival_5 (by decide +kernel) ?_
    refine lv_icmp_ge (tgt := 13) hx hb dX2_hasRival_6 (by decide)  (fun c2 => ?_) (fun c2 => ?_)
    · refine lv_iconst (v := nI 0) hx hb dX2_hasRival_13 (by decide +kernel) ?_
      refine rTop (zB_0 (b := inB x 3) (by first | exact inB_of (by assumption) (by assumption) (by omega) | exact inB_neg (by assumption) | exact inB_big (by assumption) (by omega))) ?_
      exact rZret hx hb hr hlk hP hK hD hS dX2_hasRival_14
    · refine lv_iconst (v := nI 1) hx hb dX2_hasRival_9 (by decide +kernel) ?_
      refine lv_goto (tgt := 14) hx hb dX2_hasRival_10 (by decide) ?_
      refine rTop (zB_1 (b := inB x 3) (by first | exact inB_of (by assumption) (by assumption) (by omega) | exact inB_neg (by assumption) | exact inB_big (by assumption) (by omega))) ?_
      exact rZret hx hb hr hlk hP hK hD hS dX2_hasRival_14

set_option maxHeartbeats 4000000 in
set_option maxRecDepth 100000 in
theorem mX2_purseOf (l : Launch) (D : va_G) (G : Nat → ClassId) (st pu wo se : Nat) (ob nu fr n : Nat) (N Z : Nat → Int32) (tb fa od k : Nat) (F : Nat → Nat → Int32) (O : Nat → UInt32) (P V S : Nat → Int32) (tn : Nat) (po rd al : Int32) (r : Nat) (hr3 : r < 3) : CT l yX2_purseOf wsX2_purseOf 0 0 D G [.ref st, .int (nI r)] [(st, .inr (2, [.ref ob, .ref tb, .ref pu, .ref wo, .ref se, .int (nI tn), .int po, .int rd, .int al])), (ob, .inr (1, [.int (nI n), .ref nu, .ref fr])), (nu, .inl (G 0, 16, .inl N)), (fr, .inl (G 0, 16, .inl Z)), (tb, .inr (3, [.int (nI k), .ref fa, .ref od])), (fa, .inl (G 0, 50, .inl (fl F))), (od, .inl (G 1, 10, .inr (.inr (.inl O)))), (pu, .inl (G 0, 3, .inl P)), (wo, .inl (G 0, 3, .inl V)), (se, .inl (G 0, 3, .inl S))] [(st, .inr (2, [.ref ob, .ref tb, .ref pu, .ref wo, .ref se, .int (nI tn), .int po, .int rd, .int al])), (ob, .inr (1, [.int (nI n), .ref nu, .ref fr])), (nu, .inl (G 0, 16, .inl N)), (fr, .inl (G 0, 16, .inl Z)), (tb, .inr (3, [.int (nI k), .ref fa, .ref od])), (fa, .inl (G 0, 50, .inl (fl F))), (od, .inl (G 1, 10, .inr (.inr (.inl O)))), (pu, .inl (G 0, 3, .inl P)), (wo, .inl (G 0, 3, .inl V)), (se, .inl (G 0, 3, .inl S))] (some (.int (P r))) := by
  refine CT.of (cc := cX2_purseOf) (maxL := 2) (ret := (some .int)) (by decide) rfl RX2 rfl (Nat.le_of_ble_eq_true rfl) (fun pp ee s mm bl me cc A ls hx hb hr hml hts hown hlk hnm hA hP hK hD hN hS hl => ?_)
  have hl : lv_has ls 2 [(0, .ref st), (1, .int (nI r))] := hl
  have hP : va_P D vwCl [(st, .inr (2, [.ref ob, .ref tb, .ref pu, .ref wo, .ref se, .int (nI tn), .int po, .int rd, .int al])), (ob, .inr (1, [.int (nI n), .ref nu, .ref fr])), (nu, .inl (G 0, 16, .inl N)), (fr, .inl (G 0, 16, .inl Z)), (tb, .inr (3, [.int (nI k), .ref fa, .ref od])), (fa, .inl (G 0, 50, .inl (fl F))), (od, .inl (G 1, 10, .inr (.inr (.inl O)))), (pu, .inl (G 0, 3, .inl P)), (wo, .inl (G 0, 3, .inl V)), (se, .inl (G 0, 3, .inl S))] s.heap := hP
  have inX2 : ∀ w ∈ wsX20, w ∈ wsX2_purseOf := fun w h => List.mem_cons_of_mem _ (List.mem_append_right _ h)
  have k23 := hts (.fieldLink RX2 23 "SquareStakes$State" "purses" "[I") (List.mem_of_getElem? (i := 1) rfl)
  refine lv_iload_n hx hb dX2_purseOf_0 rfl (lv_at hl 1 rfl) ?_
  refine iLt (tgt := 22) hx hb dX2_purseOf_1 (by decide) (by omega) ?_
  refine lv_iload_n hx hb dX2_purseOf_4 rfl (lv_at hl 1 rfl) ?_
  refine lv_aload_n hx hb dX2_purseOf_5 rfl (lv_at hl 0 rfl) ?_
  refine va_get (D := D) (ci := 2) (v := .ref pu) (C := RX2) (T := TX2) (N := 9) hx hb hts inX2 hown hK hP 0 rfl rfl 2 (by decide) k23 (fun _ h9 => h9) rfl dX2_purseOf_6 ?_
  refine va_alen (v := nI 3) hx hb hK hP 7 0 rfl rfl rfl dX2_purseOf_9 ?_
  refine bGe (tgt := 22) hx hb dX2_purseOf_10 (by decide) (by omega) (by omega) (fun c2 => by exfalso; omega) (fun c2 => ?_)
  refine lv_aload_n hx hb dX2_purseOf_13 rfl (lv_at hl 0 rfl) ?_
  refine va_get (D := D) (ci := 2) (v := .ref pu) (C := RX2) (T := TX2) (N := 9) hx hb hts inX2 hown hK hP 0 rfl rfl 2 (by decide) k23 (fun _ h9 => h9) rfl dX2_purseOf_14 ?_
  refine lv_iload_n hx hb dX2_purseOf_17 rfl (lv_at hl 1 rfl) ?_
  refine rIald hx hb hK hP 7 rfl r (by omega) (by decide) dX2_purseOf_18 ?_
  refine lv_goto (tgt := 23) hx hb dX2_purseOf_19 (by decide) ?_
  exact rIret hx hb hr hlk hP hK hD hS dX2_purseOf_23

set_option maxHeartbeats 4000000 in
set_option maxRecDepth 100000 in
theorem mX2_squaresWonBy (l : Launch) (D : va_G) (G : Nat → ClassId) (st pu wo se : Nat) (ob nu fr n : Nat) (N Z : Nat → Int32) (tb fa od k : Nat) (F : Nat → Nat → Int32) (O : Nat → UInt32) (P V S : Nat → Int32) (tn : Nat) (po rd al : Int32) (r : Nat) (hr3 : r < 3) : CT l yX2_squaresWonBy wsX2_squaresWonBy 0 0 D G [.ref st, .int (nI r)] [(st, .inr (2, [.ref ob, .ref tb, .ref pu, .ref wo, .ref se, .int (nI tn), .int po, .int rd, .int al])), (ob, .inr (1, [.int (nI n), .ref nu, .ref fr])), (nu, .inl (G 0, 16, .inl N)), (fr, .inl (G 0, 16, .inl Z)), (tb, .inr (3, [.int (nI k), .ref fa, .ref od])), (fa, .inl (G 0, 50, .inl (fl F))), (od, .inl (G 1, 10, .inr (.inr (.inl O)))), (pu, .inl (G 0, 3, .inl P)), (wo, .inl (G 0, 3, .inl V)), (se, .inl (G 0, 3, .inl S))] [(st, .inr (2, [.ref ob, .ref tb, .ref pu, .ref wo, .ref se, .int (nI tn), .int po, .int rd, .int al])), (ob, .inr (1, [.int (nI n), .ref nu, .ref fr])), (nu, .inl (G 0, 16, .inl N)), (fr, .inl (G 0, 16, .inl Z)), (tb, .inr (3, [.int (nI k), .ref fa, .ref od])), (fa, .inl (G 0, 50, .inl (fl F))), (od, .inl (G 1, 10, .inr (.inr (.inl O)))), (pu, .inl (G 0, 3, .inl P)), (wo, .inl (G 0, 3, .inl V)), (se, .inl (G 0, 3, .inl S))] (some (.int (V r))) := by
  refine CT.of (cc := cX2_squaresWonBy) (maxL := 2) (ret := (some .int)) (by decide) rfl RX2 rfl (Nat.le_of_ble_eq_true rfl) (fun pp ee s mm bl me cc A ls hx hb hr hml hts hown hlk hnm hA hP hK hD hN hS hl => ?_)
  have hl : lv_has ls 2 [(0, .ref st), (1, .int (nI r))] := hl
  have hP : va_P D vwCl [(st, .inr (2, [.ref ob, .ref tb, .ref pu, .ref wo, .ref se, .int (nI tn), .int po, .int rd, .int al])), (ob, .inr (1, [.int (nI n), .ref nu, .ref fr])), (nu, .inl (G 0, 16, .inl N)), (fr, .inl (G 0, 16, .inl Z)), (tb, .inr (3, [.int (nI k), .ref fa, .ref od])), (fa, .inl (G 0, 50, .inl (fl F))), (od, .inl (G 1, 10, .inr (.inr (.inl O)))), (pu, .inl (G 0, 3, .inl P)), (wo, .inl (G 0, 3, .inl V)), (se, .inl (G 0, 3, .inl S))] s.heap := hP
  have inX2 : ∀ w ∈ wsX20, w ∈ wsX2_squaresWonBy := fun w h => List.mem_cons_of_mem _ (List.mem_append_right _ h)
  have k27 := hts (.fieldLink RX2 27 "SquareStakes$State" "squaresWon" "[I") (List.mem_of_getElem? (i := 1) rfl)
  refine lv_iload_n hx hb dX2_squaresWonBy_0 rfl (lv_at hl 1 rfl) ?_
  refine iLt (tgt := 22) hx hb dX2_squaresWonBy_1 (by decide) (by omega) ?_
  refine lv_iload_n hx hb dX2_squaresWonBy_4 rfl (lv_at hl 1 rfl) ?_
  refine lv_aload_n hx hb dX2_squaresWonBy_5 rfl (lv_at hl 0 rfl) ?_
  refine va_get (D := D) (ci := 2) (v := .ref wo) (C := RX2) (T := TX2) (N := 9) hx hb hts inX2 hown hK hP 0 rfl rfl 3 (by decide) k27 (fun _ h9 => h9) rfl dX2_squaresWonBy_6 ?_
  refine va_alen (v := nI 3) hx hb hK hP 8 0 rfl rfl rfl dX2_squaresWonBy_9 ?_
  refine bGe (tgt := 22) hx hb dX2_squaresWonBy_10 (by decide) (by omega) (by omega) (fun c2 => by exfalso; omega) (fun c2 => ?_)
  refine lv_aload_n hx hb dX2_squaresWonBy_13 rfl (lv_at hl 0 rfl) ?_
  refine va_get (D := D) (ci := 2) (v := .ref wo) (C := RX2) (T := TX2) (N := 9) hx hb hts inX2 hown hK hP 0 rfl rfl 3 (by decide) k27 (fun _ h9 => h9) rfl dX2_squaresWonBy_14 ?_
  refine lv_iload_n hx hb dX2_squaresWonBy_17 rfl (lv_at hl 1 rfl) ?_
  refine rIald hx hb hK hP 8 rfl r (by omega) (by decide) dX2_squaresWonBy_18 ?_
  refine lv_goto (tgt := 23) hx hb dX2_squaresWonBy_19 (by decide) ?_
  exact rIret hx hb hr hlk hP hK hD hS dX2_squaresWonBy_23

set_option maxHeartbeats 4000000 in
set_option maxRecDepth 100000 in
theorem mX2_allowsSetting (l : Launch) (D : va_G) (G : Nat → ClassId) (x y : Int32)  : CT l yX2_allowsSetting wsX2_allowsSetting 0 0 D G [.int x, .int y] [] [] (some (.int (zB (alS x y)))) := by
  refine CT.of (cc := cX2_allowsSetting) (maxL := 3) (ret := (some .boolean)) (by decide) rfl RX2 rfl (Nat.le_of_ble_eq_true rfl) (fun pp ee s mm bl me cc A ls hx hb hr hml hts hown hlk hnm hA hP hK hD hN hS hl => ?_)
  have hl : lv_has ls 3 [(0, .int x), (1, .int y)] := hl
  have hP : va_P D vwCl [] s.heap := hP
  refine lv_iload_n hx hb dX2_allowsSetting_0 rfl (lv_at hl 0 rfl) ?_
  refine lv_if_lt (tgt := 9) hx hb dX2_allowsSetting_1 (by decide)  (fun c1 => ?_) (fun c1 => ?_)
  · refine lv_iconst (v := nI 0) hx hb dX2_allowsSetting_9 (by decide +kernel) ?_
    refine rTop (zB_0 (b := alS x y) (by first | exact alS_t1 (by assumption) (by assumption) (by assumption) (by assumption) (by assumption) | exact alS_t2 (by assumption) (by assumption) (by assumption) (by assumption) (by assumption) | exact alS_f0 (by assumption) | exact alS_f1 (by assumption) | exact alS_f2 (by assumption) (by assumption) | exact alS_f3 (by assumption) (by assumption) | exact alS_f4 (by assumption))) ?_
    exact rZret hx hb hr hlk hP hK hD hS dX2_allowsSetting_10
  · refine lv_iload_n hx hb dX2_allowsSetting_4 rfl (lv_at hl 0 rfl) ?_
    refine lv_iconst (v := nI 3) hx hb dX2_allowsSetting_5 (by decide +kernel) ?_
    refine lv_icmp_lt (tgt := 11) hx hb dX2_allowsSetting_6 (by decide)  (fun c2 => ?_) (fun c2 => ?_)
    · refine lv_iload_n hx hb dX2_allowsSetting_11 rfl (lv_at hl 0 rfl) ?_
      refine lv_if_ne (tgt := 19) hx hb dX2_allowsSetting_12 (by decide)  (fun c3 => ?_) (fun c3 => ?_)
      · refine lv_iconst (v := nI 0) hx hb dX2_allowsSetting_19 (by decide +kernel) ?_
        refine lv_istore_n (lv' := [(2, .int (nI 0)), (0, .int x), (1, .int y)]) hx hb dX2_allowsSetting_20 rfl hl (by decide) rfl (fun ls hl => ?_)
        refine lv_iload_n hx hb dX2_allowsSetting_21 rfl (lv_at hl 2 rfl) ?_
        refine lv_iload_n hx hb dX2_allowsSetting_22 rfl (lv_at hl 0 rfl) ?_
        refine lv_icmp_lt (tgt := 36) hx hb dX2_allowsSetting_23 (by decide)  (fun c4 => ?_) (fun c4 => ?_)
        · refine lv_iconst (v := nI 0) hx hb dX2_allowsSetting_36 (by decide +kernel) ?_
          refine rTop (zB_0 (b := alS x y) (by first | exact alS_t1 (by assumption) (by assumption) (by assumption) (by assumption) (by assumption) | exact alS_t2 (by assumption) (by assumption) (by assumption) (by assumption) (by assumption) | exact alS_f0 (by assumption) | exact alS_f1 (by assumption) | exact alS_f2 (by assumption) (by assumption) | exact alS_f3 (by assumption) (by assumption) | exact alS_f4 (by assumption))) ?_
          exact rZret hx hb hr hlk hP hK hD hS dX2_allowsSetting_37
        · refine lv_iload_n hx hb dX2_allowsSetting_26 rfl (lv_at hl 2 rfl) ?_
          refine lv_bipush (v := nI 9) hx hb dX2_allowsSetting_27 (by decide +kernel) ?_
          refine lv_icmp_gt (tgt := 36) hx hb dX2_allowsSetting_29 (by decide)  (fun c5 => ?_) (fun c5 => ?_)
          · refine lv_iconst (v := nI 0) hx hb dX2_allowsSetting_36 (by decide +kernel) ?_
            refine rTop (zB_0 (b := alS x y) (by first | exact alS_t1 (by assumption) (by assumption) (by assumption) (by assumption) (by assumption) | exact alS_t2 (by assumption) (by assumption) (by assumption) (by assumption) (by assumption) | exact alS_f0 (by assumption) | exact alS_f1 (by assumption) | exact alS_f2 (by assumption) (by assumption) | exact alS_f3 (by assumption) (by assumption) | exact alS_f4 (by assumption))) ?_
            exact rZret hx hb hr hlk hP hK hD hS dX2_allowsSetting_37
          · refine lv_iconst (v := nI 1) hx hb dX2_allowsSetting_32 (by decide +kernel) ?_
            refine lv_goto (tgt := 37) hx hb dX2_allowsSetting_33 (by decide) ?_
            refine rTop (zB_1 (b := alS x y) (by first | exact alS_t1 (by assumption) (by assumption) (by assumption) (by assumption) (by assumption) | exact alS_t2 (by assumption) (by assumption) (by assumption) (by assumption) (by assumption) | exact alS_f0 (by assumption) | exact alS_f1 (by assumption) | exact alS_f2 (by assumption) (by assumption) | exact alS_f3 (by assumption) (by assumption) | exact alS_f4 (by assumption))) ?_
            exact rZret hx hb hr hlk hP hK hD hS dX2_allowsSetting_37
      · refine lv_iconst (v := nI 1) hx hb dX2_allowsSetting_15 (by decide +kernel) ?_
        refine lv_goto (tgt := 20) hx hb dX2_allowsSetting_16 (by decide) ?_
        refine lv_istore_n (lv' := [(2, .int (nI 1)), (0, .int x), (1, .int y)]) hx hb dX2_allowsSetting_20 rfl hl (by decide) rfl (fun ls hl => ?_)
        refine lv_iload_n hx hb dX2_allowsSetting_21 rfl (lv_at hl 2 rfl) ?_
        refine lv_iload_n hx hb dX2_allowsSetting_22 rfl (lv_at hl 0 rfl) ?_
        refine lv_icmp_lt (tgt := 36) hx hb dX2_allowsSetting_23 (by decide)  (fun c6 => ?_) (fun c6 => ?_)
        · refine lv_iconst (v := nI 0) hx hb dX2_allowsSetting_36 (by decide +kernel) ?_
          refine rTop (zB_0 (b := alS x y) (by first | exact alS_t1 (by assumption) (by assumption) (by assumption) (by assumption) (by assumption) | exact alS_t2 (by assumption) (by assumption) (by assumption) (by assumption) (by assumption) | exact alS_f0 (by assumption) | exact alS_f1 (by assumption) | exact alS_f2 (by assumption) (by assumption) | exact alS_f3 (by assumption) (by assumption) | exact alS_f4 (by assumption))) ?_
          exact rZret hx hb hr hlk hP hK hD hS dX2_allowsSetting_37
        · refine lv_iload_n hx hb dX2_allowsSetting_26 rfl (lv_at hl 2 rfl) ?_
          refine lv_bipush (v := nI 9) hx hb dX2_allowsSetting_27 (by decide +kernel) ?_
          refine lv_icmp_gt (tgt := 36) hx hb dX2_allowsSetting_29 (by decide)  (fun c7 => ?_) (fun c7 => ?_)
          · refine lv_iconst (v := nI 0) hx hb dX2_allowsSetting_36 (by decide +kernel) ?_
            refine rTop (zB_0 (b := alS x y) (by first | exact alS_t1 (by assumption) (by assumption) (by assumption) (by assumption) (by assumption) | exact alS_t2 (by assumption) (by assumption) (by assumption) (by assumption) (by assumption) | exact alS_f0 (by assumption) | exact alS_f1 (by assumption) | exact alS_f2 (by assumption) (by assumption) | exact alS_f3 (by assumption) (by assumption) | exact alS_f4 (by assumption))) ?_
            exact rZret hx hb hr hlk hP hK hD hS dX2_allowsSetting_37
          · refine lv_iconst (v := nI 1) hx hb dX2_allowsSetting_32 (by decide +kernel) ?_
            refine lv_goto (tgt := 37) hx hb dX2_allowsSetting_33 (by decide) ?_
            refine rTop (zB_1 (b := alS x y) (by first | exact alS_t1 (by assumption) (by assumption) (by assumption) (by assumption) (by assumption) | exact alS_t2 (by assumption) (by assumption) (by assumption) (by assumption) (by assumption) | exact alS_f0 (by assumption) | exact alS_f1 (by assumption) | exact alS_f2 (by assumption) (by assumption) | exact alS_f3 (by assumption) (by assumption) | exact alS_f4 (by assumption))) ?_
            exact rZret hx hb hr hlk hP hK hD hS dX2_allowsSetting_37
    · refine lv_iconst (v := nI 0) hx hb dX2_allowsSetting_9 (by decide +kernel) ?_
      refine rTop (zB_0 (b := alS x y) (by first | exact alS_t1 (by assumption) (by assumption) (by assumption) (by assumption) (by assumption) | exact alS_t2 (by assumption) (by assumption) (by assumption) (by assumption) (by assumption) | exact alS_f0 (by assumption) | exact alS_f1 (by assumption) | exact alS_f2 (by assumption) (by assumption) | exact alS_f3 (by assumption) (by assumption) | exact alS_f4 (by assumption))) ?_
      exact rZret hx hb hr hlk hP hK hD hS dX2_allowsSetting_10

set_option maxHeartbeats 4000000 in
set_option maxRecDepth 100000 in
theorem mX2_settingOf (l : Launch) (D : va_G) (G : Nat → ClassId) (st pu wo se : Nat) (ob nu fr n : Nat) (N Z : Nat → Int32) (tb fa od k : Nat) (F : Nat → Nat → Int32) (O : Nat → UInt32) (P V S : Nat → Int32) (tn : Nat) (po rd al : Int32) (q : Nat) (hq3 : q < 3) : CT l yX2_settingOf wsX2_settingOf 0 0 D G [.ref st, .int (nI q)] [(st, .inr (2, [.ref ob, .ref tb, .ref pu, .ref wo, .ref se, .int (nI tn), .int po, .int rd, .int al])), (ob, .inr (1, [.int (nI n), .ref nu, .ref fr])), (nu, .inl (G 0, 16, .inl N)), (fr, .inl (G 0, 16, .inl Z)), (tb, .inr (3, [.int (nI k), .ref fa, .ref od])), (fa, .inl (G 0, 50, .inl (fl F))), (od, .inl (G 1, 10, .inr (.inr (.inl O)))), (pu, .inl (G 0, 3, .inl P)), (wo, .inl (G 0, 3, .inl V)), (se, .inl (G 0, 3, .inl S))] [(st, .inr (2, [.ref ob, .ref tb, .ref pu, .ref wo, .ref se, .int (nI tn), .int po, .int rd, .int al])), (ob, .inr (1, [.int (nI n), .ref nu, .ref fr])), (nu, .inl (G 0, 16, .inl N)), (fr, .inl (G 0, 16, .inl Z)), (tb, .inr (3, [.int (nI k), .ref fa, .ref od])), (fa, .inl (G 0, 50, .inl (fl F))), (od, .inl (G 1, 10, .inr (.inr (.inl O)))), (pu, .inl (G 0, 3, .inl P)), (wo, .inl (G 0, 3, .inl V)), (se, .inl (G 0, 3, .inl S))] (some (.int (S q))) := by
  refine CT.of (cc := cX2_settingOf) (maxL := 2) (ret := (some .int)) (by decide) rfl RX2 rfl (Nat.le_of_ble_eq_true rfl) (fun pp ee s mm bl me cc A ls hx hb hr hml hts hown hlk hnm hA hP hK hD hN hS hl => ?_)
  have hl : lv_has ls 2 [(0, .ref st), (1, .int (nI q))] := hl
  have hP : va_P D vwCl [(st, .inr (2, [.ref ob, .ref tb, .ref pu, .ref wo, .ref se, .int (nI tn), .int po, .int rd, .int al])), (ob, .inr (1, [.int (nI n), .ref nu, .ref fr])), (nu, .inl (G 0, 16, .inl N)), (fr, .inl (G 0, 16, .inl Z)), (tb, .inr (3, [.int (nI k), .ref fa, .ref od])), (fa, .inl (G 0, 50, .inl (fl F))), (od, .inl (G 1, 10, .inr (.inr (.inl O)))), (pu, .inl (G 0, 3, .inl P)), (wo, .inl (G 0, 3, .inl V)), (se, .inl (G 0, 3, .inl S))] s.heap := hP
  have inX2 : ∀ w ∈ wsX20, w ∈ wsX2_settingOf := fun w h => List.mem_cons_of_mem _ (List.mem_append_right _ h)
  have k30 := hts (.fieldLink RX2 30 "SquareStakes$State" "settings" "[I") (List.mem_of_getElem? (i := 1) rfl)
  refine lv_iload_n hx hb dX2_settingOf_0 rfl (lv_at hl 1 rfl) ?_
  refine iLt (tgt := 22) hx hb dX2_settingOf_1 (by decide) (by omega) ?_
  refine lv_iload_n hx hb dX2_settingOf_4 rfl (lv_at hl 1 rfl) ?_
  refine lv_aload_n hx hb dX2_settingOf_5 rfl (lv_at hl 0 rfl) ?_
  refine va_get (D := D) (ci := 2) (v := .ref se) (C := RX2) (T := TX2) (N := 9) hx hb hts inX2 hown hK hP 0 rfl rfl 4 (by decide) k30 (fun _ h9 => h9) rfl dX2_settingOf_6 ?_
  refine va_alen (v := nI 3) hx hb hK hP 9 0 rfl rfl rfl dX2_settingOf_9 ?_
  refine bGe (tgt := 22) hx hb dX2_settingOf_10 (by decide) (by omega) (by omega) (fun c2 => by exfalso; omega) (fun c2 => ?_)
  refine lv_aload_n hx hb dX2_settingOf_13 rfl (lv_at hl 0 rfl) ?_
  refine va_get (D := D) (ci := 2) (v := .ref se) (C := RX2) (T := TX2) (N := 9) hx hb hts inX2 hown hK hP 0 rfl rfl 4 (by decide) k30 (fun _ h9 => h9) rfl dX2_settingOf_14 ?_
  refine lv_iload_n hx hb dX2_settingOf_17 rfl (lv_at hl 1 rfl) ?_
  refine rIald hx hb hK hP 9 rfl q (by omega) (by decide) dX2_settingOf_18 ?_
  refine lv_goto (tgt := 23) hx hb dX2_settingOf_19 (by decide) ?_
  exact rIret hx hb hr hlk hP hK hD hS dX2_settingOf_23

set_option maxHeartbeats 4000000 in
set_option maxRecDepth 100000 in
theorem mX2_changeSetting (l : Launch) (D : va_G) (G : Nat → ClassId) (st pu wo se : Nat) (ob nu fr n : Nat) (N Z : Nat → Int32) (tb fa od k : Nat) (F : Nat → Nat → Int32) (O : Nat → UInt32) (P V S : Nat → Int32) (tn : Nat) (po rd al : Int32) (q : Nat) (x : Int32) (hq3 : q < 3) : CT l yX2_changeSetting wsX2_changeSetting 0 0 D G [.ref st, .int (nI q), .int x] [(st, .inr (2, [.ref ob, .ref tb, .ref pu, .ref wo, .ref se, .int (nI tn), .int po, .int rd, .int al])), (ob, .inr (1, [.int (nI n), .ref nu, .ref fr])), (nu, .inl (G 0, 16, .inl N)), (fr, .inl (G 0, 16, .inl Z)), (tb, .inr (3, [.int (nI k), .ref fa, .ref od])), (fa, .inl (G 0, 50, .inl (fl F))), (od, .inl (G 1, 10, .inr (.inr (.inl O)))), (pu, .inl (G 0, 3, .inl P)), (wo, .inl (G 0, 3, .inl V)), (se, .inl (G 0, 3, .inl S))] [(st, .inr (2, [.ref ob, .ref tb, .ref pu, .ref wo, .ref se, .int (nI tn), .int po, .int rd, .int al])), (ob, .inr (1, [.int (nI n), .ref nu, .ref fr])), (nu, .inl (G 0, 16, .inl N)), (fr, .inl (G 0, 16, .inl Z)), (tb, .inr (3, [.int (nI k), .ref fa, .ref od])), (fa, .inl (G 0, 50, .inl (fl F))), (od, .inl (G 1, 10, .inr (.inr (.inl O)))), (pu, .inl (G 0, 3, .inl P)), (wo, .inl (G 0, 3, .inl V)), (se, .inl (G 0, 3, .inl (upd S q x)))] none := by
  refine CT.of (cc := cX2_changeSetting) (maxL := 3) (ret := none) (by decide) rfl RX2 rfl (Nat.le_of_ble_eq_true rfl) (fun pp ee s mm bl me cc A ls hx hb hr hml hts hown hlk hnm hA hP hK hD hN hS hl => ?_)
  have hl : lv_has ls 3 [(0, .ref st), (1, .int (nI q)), (2, .int x)] := hl
  have hP : va_P D vwCl [(st, .inr (2, [.ref ob, .ref tb, .ref pu, .ref wo, .ref se, .int (nI tn), .int po, .int rd, .int al])), (ob, .inr (1, [.int (nI n), .ref nu, .ref fr])), (nu, .inl (G 0, 16, .inl N)), (fr, .inl (G 0, 16, .inl Z)), (tb, .inr (3, [.int (nI k), .ref fa, .ref od])), (fa, .inl (G 0, 50, .inl (fl F))), (od, .inl (G 1, 10, .inr (.inr (.inl O)))), (pu, .inl (G 0, 3, .inl P)), (wo, .inl (G 0, 3, .inl V)), (se, .inl (G 0, 3, .inl S))] s.heap := hP
  have inX2 : ∀ w ∈ wsX20, w ∈ wsX2_changeSetting := fun w h => List.mem_cons_of_mem _ (List.mem_append_right _ h)
  have k30 := hts (.fieldLink RX2 30 "SquareStakes$State" "settings" "[I") (List.mem_of_getElem? (i := 1) rfl)
  refine lv_iload_n hx hb dX2_changeSetting_0 rfl (lv_at hl 1 rfl) ?_
  refine iLt (tgt := 20) hx hb dX2_changeSetting_1 (by decide) (by omega) ?_
  refine lv_iload_n hx hb dX2_changeSetting_4 rfl (lv_at hl 1 rfl) ?_
  refine lv_aload_n hx hb dX2_changeSetting_5 rfl (lv_at hl 0 rfl) ?_
  refine va_get (D := D) (ci := 2) (v := .ref se) (C := RX2) (T := TX2) (N := 9) hx hb hts inX2 hown hK hP 0 rfl rfl 4 (by decide) k30 (fun _ h9 => h9) rfl dX2_changeSetting_6 ?_
  refine va_alen (v := nI 3) hx hb hK hP 9 0 rfl rfl rfl dX2_changeSetting_9 ?_
  refine bGe (tgt := 20) hx hb dX2_changeSetting_10 (by decide) (by omega) (by omega) (fun c2 => by exfalso; omega) (fun c2 => ?_)
  refine lv_aload_n hx hb dX2_changeSetting_13 rfl (lv_at hl 0 rfl) ?_
  refine va_get (D := D) (ci := 2) (v := .ref se) (C := RX2) (T := TX2) (N := 9) hx hb hts inX2 hown hK hP 0 rfl rfl 4 (by decide) k30 (fun _ h9 => h9) rfl dX2_changeSetting_14 ?_
  refine lv_iload_n hx hb dX2_changeSetting_17 rfl (lv_at hl 1 rfl) ?_
  refine lv_iload_n hx hb dX2_changeSetting_18 rfl (lv_at hl 2 rfl) ?_
  refine rIast hx hb hK hP hD hS 9 rfl q (by omega) (by decide) dX2_changeSetting_19 (fun H locs hP hD hS => ?_)
  have hP : va_P D vwCl [(st, .inr (2, [.ref ob, .ref tb, .ref pu, .ref wo, .ref se, .int (nI tn), .int po, .int rd, .int al])), (ob, .inr (1, [.int (nI n), .ref nu, .ref fr])), (nu, .inl (G 0, 16, .inl N)), (fr, .inl (G 0, 16, .inl Z)), (tb, .inr (3, [.int (nI k), .ref fa, .ref od])), (fa, .inl (G 0, 50, .inl (fl F))), (od, .inl (G 1, 10, .inr (.inr (.inl O)))), (pu, .inl (G 0, 3, .inl P)), (wo, .inl (G 0, 3, .inl V)), (se, .inl (G 0, 3, .inl (upd S q x)))] H := hP
  have hD : va_D A [(st, .inr (2, [.ref ob, .ref tb, .ref pu, .ref wo, .ref se, .int (nI tn), .int po, .int rd, .int al])), (ob, .inr (1, [.int (nI n), .ref nu, .ref fr])), (nu, .inl (G 0, 16, .inl N)), (fr, .inl (G 0, 16, .inl Z)), (tb, .inr (3, [.int (nI k), .ref fa, .ref od])), (fa, .inl (G 0, 50, .inl (fl F))), (od, .inl (G 1, 10, .inr (.inr (.inl O)))), (pu, .inl (G 0, 3, .inl P)), (wo, .inl (G 0, 3, .inl V)), (se, .inl (G 0, 3, .inl (upd S q x)))] := hD
  exact rVret hx hb hr hlk hP hK hD hS dX2_changeSetting_20

set_option maxHeartbeats 4000000 in
set_option maxRecDepth 100000 in
theorem mX2_priceOfSwap (l : Launch) (D : va_G) (G : Nat → ClassId) (st pu wo se : Nat) (ob nu fr n : Nat) (N Z : Nat → Int32) (tb fa od k : Nat) (F : Nat → Nat → Int32) (O : Nat → UInt32) (P V S : Nat → Int32) (tn : Nat) (po rd al : Int32)  : CT l yX2_priceOfSwap wsX2_priceOfSwap 1 21 D G [.ref st] [(st, .inr (2, [.ref ob, .ref tb, .ref pu, .ref wo, .ref se, .int (nI tn), .int po, .int rd, .int al])), (ob, .inr (1, [.int (nI n), .ref nu, .ref fr])), (nu, .inl (G 0, 16, .inl N)), (fr, .inl (G 0, 16, .inl Z)), (tb, .inr (3, [.int (nI k), .ref fa, .ref od])), (fa, .inl (G 0, 50, .inl (fl F))), (od, .inl (G 1, 10, .inr (.inr (.inl O)))), (pu, .inl (G 0, 3, .inl P)), (wo, .inl (G 0, 3, .inl V)), (se, .inl (G 0, 3, .inl S))] [(st, .inr (2, [.ref ob, .ref tb, .ref pu, .ref wo, .ref se, .int (nI tn), .int po, .int rd, .int al])), (ob, .inr (1, [.int (nI n), .ref nu, .ref fr])), (nu, .inl (G 0, 16, .inl N)), (fr, .inl (G 0, 16, .inl Z)), (tb, .inr (3, [.int (nI k), .ref fa, .ref od])), (fa, .inl (G 0, 50, .inl (fl F))), (od, .inl (G 1, 10, .inr (.inr (.inl O)))), (pu, .inl (G 0, 3, .inl P)), (wo, .inl (G 0, 3, .inl V)), (se, .inl (G 0, 3, .inl S))] (some (.int (S 1))) := by
  refine CT.of (cc := cX2_priceOfSwap) (maxL := 1) (ret := (some .int)) (by decide) rfl RX2 rfl (Nat.le_of_ble_eq_true rfl) (fun pp ee s mm bl me cc A ls hx hb hr hml hts hown hlk hnm hA hP hK hD hN hS hl => ?_)
  have hl : lv_has ls 1 [(0, .ref st)] := hl
  have hP : va_P D vwCl [(st, .inr (2, [.ref ob, .ref tb, .ref pu, .ref wo, .ref se, .int (nI tn), .int po, .int rd, .int al])), (ob, .inr (1, [.int (nI n), .ref nu, .ref fr])), (nu, .inl (G 0, 16, .inl N)), (fr, .inl (G 0, 16, .inl Z)), (tb, .inr (3, [.int (nI k), .ref fa, .ref od])), (fa, .inl (G 0, 50, .inl (fl F))), (od, .inl (G 1, 10, .inr (.inr (.inl O)))), (pu, .inl (G 0, 3, .inl P)), (wo, .inl (G 0, 3, .inl V)), (se, .inl (G 0, 3, .inl S))] s.heap := hP
  refine lv_aload_n hx hb dX2_priceOfSwap_0 rfl (lv_at hl 0 rfl) ?_
  refine lv_iconst (v := nI 1) hx hb dX2_priceOfSwap_1 (by decide +kernel) ?_
  refine cVr (As := [.int (nI 1)]) (rest := []) ⟨hx, hb, hml, hown, hts⟩ hP hK hD hS hN hA (mX2_settingOf l D G st pu wo se ob nu fr n N Z tb fa od k F O P V S tn po rd al 1 (by first | assumption | omega)) (cwV 1 hts gX2_priceOfSwap_X2_settingOf rfl rfl rfl (by decide +kernel) ⟨Nat.le_of_ble_eq_true rfl, Nat.le_of_ble_eq_true rfl⟩) [0, 1, 2, 3, 4, 5, 6, 7, 8, 9] rfl (by decide) 0 2 rfl rfl rfl hl.1 rfl (Nat.le_of_ble_eq_true rfl) dX2_priceOfSwap_2 ⟨Nat.zero_le _, Nat.zero_le _⟩ (fun H locs hP hS => ?_)
  exact rIret hx hb hr hlk hP hK hD hS dX2_priceOfSwap_5

set_option maxHeartbeats 4000000 in
set_option maxRecDepth 100000 in
theorem mX2_priceOfFreeze (l : Launch) (D : va_G) (G : Nat → ClassId) (st pu wo se : Nat) (ob nu fr n : Nat) (N Z : Nat → Int32) (tb fa od k : Nat) (F : Nat → Nat → Int32) (O : Nat → UInt32) (P V S : Nat → Int32) (tn : Nat) (po rd al : Int32) (x : Int32)  : CT l yX2_priceOfFreeze wsX2_priceOfFreeze 1 21 D G [.ref st, .int x] [(st, .inr (2, [.ref ob, .ref tb, .ref pu, .ref wo, .ref se, .int (nI tn), .int po, .int rd, .int al])), (ob, .inr (1, [.int (nI n), .ref nu, .ref fr])), (nu, .inl (G 0, 16, .inl N)), (fr, .inl (G 0, 16, .inl Z)), (tb, .inr (3, [.int (nI k), .ref fa, .ref od])), (fa, .inl (G 0, 50, .inl (fl F))), (od, .inl (G 1, 10, .inr (.inr (.inl O)))), (pu, .inl (G 0, 3, .inl P)), (wo, .inl (G 0, 3, .inl V)), (se, .inl (G 0, 3, .inl S))] [(st, .inr (2, [.ref ob, .ref tb, .ref pu, .ref wo, .ref se, .int (nI tn), .int po, .int rd, .int al])), (ob, .inr (1, [.int (nI n), .ref nu, .ref fr])), (nu, .inl (G 0, 16, .inl N)), (fr, .inl (G 0, 16, .inl Z)), (tb, .inr (3, [.int (nI k), .ref fa, .ref od])), (fa, .inl (G 0, 50, .inl (fl F))), (od, .inl (G 1, 10, .inr (.inr (.inl O)))), (pu, .inl (G 0, 3, .inl P)), (wo, .inl (G 0, 3, .inl V)), (se, .inl (G 0, 3, .inl S))] (some (.int (x * S 2))) := by
  refine CT.of (cc := cX2_priceOfFreeze) (maxL := 2) (ret := (some .int)) (by decide) rfl RX2 rfl (Nat.le_of_ble_eq_true rfl) (fun pp ee s mm bl me cc A ls hx hb hr hml hts hown hlk hnm hA hP hK hD hN hS hl => ?_)
  have hl : lv_has ls 2 [(0, .ref st), (1, .int x)] := hl
  have hP : va_P D vwCl [(st, .inr (2, [.ref ob, .ref tb, .ref pu, .ref wo, .ref se, .int (nI tn), .int po, .int rd, .int al])), (ob, .inr (1, [.int (nI n), .ref nu, .ref fr])), (nu, .inl (G 0, 16, .inl N)), (fr, .inl (G 0, 16, .inl Z)), (tb, .inr (3, [.int (nI k), .ref fa, .ref od])), (fa, .inl (G 0, 50, .inl (fl F))), (od, .inl (G 1, 10, .inr (.inr (.inl O)))), (pu, .inl (G 0, 3, .inl P)), (wo, .inl (G 0, 3, .inl V)), (se, .inl (G 0, 3, .inl S))] s.heap := hP
  refine lv_iload_n hx hb dX2_priceOfFreeze_0 rfl (lv_at hl 1 rfl) ?_
  refine lv_aload_n hx hb dX2_priceOfFreeze_1 rfl (lv_at hl 0 rfl) ?_
  refine lv_iconst (v := nI 2) hx hb dX2_priceOfFreeze_2 (by decide +kernel) ?_
  refine cVr (As := [.int (nI 2)]) (rest := [.int x]) ⟨hx, hb, hml, hown, hts⟩ hP hK hD hS hN hA (mX2_settingOf l D G st pu wo se ob nu fr n N Z tb fa od k F O P V S tn po rd al 2 (by first | assumption | omega)) (cwV 1 hts gX2_priceOfFreeze_X2_settingOf rfl rfl rfl (by decide +kernel) ⟨Nat.le_of_ble_eq_true rfl, Nat.le_of_ble_eq_true rfl⟩) [0, 1, 2, 3, 4, 5, 6, 7, 8, 9] rfl (by decide) 0 2 rfl rfl rfl hl.1 rfl (Nat.le_of_ble_eq_true rfl) dX2_priceOfFreeze_3 ⟨Nat.zero_le _, Nat.zero_le _⟩ (fun H locs hP hS => ?_)
  refine lv_imul hx hb dX2_priceOfFreeze_6 ?_
  refine rTop (show (x * S 2) = x * S 2 from rfl) ?_
  exact rIret hx hb hr hlk hP hK hD hS dX2_priceOfFreeze_7

set_option maxHeartbeats 4000000 in
set_option maxRecDepth 100000 in
theorem mX2_canPay (l : Launch) (D : va_G) (G : Nat → ClassId) (st pu wo se : Nat) (ob nu fr n : Nat) (N Z : Nat → Int32) (tb fa od k : Nat) (F : Nat → Nat → Int32) (O : Nat → UInt32) (P V S : Nat → Int32) (tn : Nat) (po rd al : Int32) (x : Int32) (ht : tn < 3) : CT l yX2_canPay wsX2_canPay 1 21 D G [.ref st, .int x] [(st, .inr (2, [.ref ob, .ref tb, .ref pu, .ref wo, .ref se, .int (nI tn), .int po, .int rd, .int al])), (ob, .inr (1, [.int (nI n), .ref nu, .ref fr])), (nu, .inl (G 0, 16, .inl N)), (fr, .inl (G 0, 16, .inl Z)), (tb, .inr (3, [.int (nI k), .ref fa, .ref od])), (fa, .inl (G 0, 50, .inl (fl F))), (od, .inl (G 1, 10, .inr (.inr (.inl O)))), (pu, .inl (G 0, 3, .inl P)), (wo, .inl (G 0, 3, .inl V)), (se, .inl (G 0, 3, .inl S))] [(st, .inr (2, [.ref ob, .ref tb, .ref pu, .ref wo, .ref se, .int (nI tn), .int po, .int rd, .int al])), (ob, .inr (1, [.int (nI n), .ref nu, .ref fr])), (nu, .inl (G 0, 16, .inl N)), (fr, .inl (G 0, 16, .inl Z)), (tb, .inr (3, [.int (nI k), .ref fa, .ref od])), (fa, .inl (G 0, 50, .inl (fl F))), (od, .inl (G 1, 10, .inr (.inr (.inl O)))), (pu, .inl (G 0, 3, .inl P)), (wo, .inl (G 0, 3, .inl V)), (se, .inl (G 0, 3, .inl S))] (some (.int (zB (decide (¬ P tn < x))))) := by
  refine CT.of (cc := cX2_canPay) (maxL := 2) (ret := (some .boolean)) (by decide) rfl RX2 rfl (Nat.le_of_ble_eq_true rfl) (fun pp ee s mm bl me cc A ls hx hb hr hml hts hown hlk hnm hA hP hK hD hN hS hl => ?_)
  have hl : lv_has ls 2 [(0, .ref st), (1, .int x)] := hl
  have hP : va_P D vwCl [(st, .inr (2, [.ref ob, .ref tb, .ref pu, .ref wo, .ref se, .int (nI tn), .int po, .int rd, .int al])), (ob, .inr (1, [.int (nI n), .ref nu, .ref fr])), (nu, .inl (G 0, 16, .inl N)), (fr, .inl (G 0, 16, .inl Z)), (tb, .inr (3, [.int (nI k), .ref fa, .ref od])), (fa, .inl (G 0, 50, .inl (fl F))), (od, .inl (G 1, 10, .inr (.inr (.inl O)))), (pu, .inl (G 0, 3, .inl P)), (wo, .inl (G 0, 3, .inl V)), (se, .inl (G 0, 3, .inl S))] s.heap := hP
  have inX2 : ∀ w ∈ wsX20, w ∈ wsX2_canPay := fun w h => List.mem_cons_of_mem _ (List.mem_append_right _ h)
  have k33 := hts (.fieldLink RX2 33 "SquareStakes$State" "turn" "I") (List.mem_of_getElem? (i := 1) rfl)
  refine lv_aload_n hx hb dX2_canPay_0 rfl (lv_at hl 0 rfl) ?_
  refine lv_aload_n hx hb dX2_canPay_1 rfl (lv_at hl 0 rfl) ?_
  refine va_get (D := D) (ci := 2) (v := .int (nI tn)) (C := RX2) (T := TX2) (N := 9) hx hb hts inX2 hown hK hP 0 rfl rfl 5 (by decide) k33 (fun _ h9 => h9) rfl dX2_canPay_2 ?_
  refine cVr (As := [.int (nI tn)]) (rest := []) ⟨hx, hb, hml, hown, hts⟩ hP hK hD hS hN hA (mX2_purseOf l D G st pu wo se ob nu fr n N Z tb fa od k F O P V S tn po rd al tn (by first | assumption | omega)) (cwV 1 hts gX2_canPay_X2_purseOf rfl rfl rfl (by decide +kernel) ⟨Nat.le_of_ble_eq_true rfl, Nat.le_of_ble_eq_true rfl⟩) [0, 1, 2, 3, 4, 5, 6, 7, 8, 9] rfl (by decide) 0 2 rfl rfl rfl hl.1 rfl (Nat.le_of_ble_eq_true rfl) dX2_canPay_5 ⟨Nat.zero_le _, Nat.zero_le _⟩ (fun H locs hP hS => ?_)
  refine lv_iload_n hx hb dX2_canPay_8 rfl (lv_at hl 1 rfl) ?_
  refine lv_icmp_lt (tgt := 16) hx hb dX2_canPay_9 (by decide)  (fun c1 => ?_) (fun c1 => ?_)
  · refine lv_iconst (v := nI 0) hx hb dX2_canPay_16 (by decide +kernel) ?_
    refine rTop (zB_0 (b := decide (¬ P tn < x)) (by first | exact decide_eq_true (by assumption) | exact decide_eq_false (not_not_intro (by assumption)))) ?_
    exact rZret hx hb hr hlk hP hK hD hS dX2_canPay_17
  · refine lv_iconst (v := nI 1) hx hb dX2_canPay_12 (by decide +kernel) ?_
    refine lv_goto (tgt := 17) hx hb dX2_canPay_13 (by decide) ?_
    refine rTop (zB_1 (b := decide (¬ P tn < x)) (by first | exact decide_eq_true (by assumption) | exact decide_eq_false (not_not_intro (by assumption)))) ?_
    exact rZret hx hb hr hlk hP hK hD hS dX2_canPay_17

set_option maxHeartbeats 4000000 in
set_option maxRecDepth 100000 in
theorem mX2_changePurse (l : Launch) (D : va_G) (G : Nat → ClassId) (st pu wo se : Nat) (ob nu fr n : Nat) (N Z : Nat → Int32) (tb fa od k : Nat) (F : Nat → Nat → Int32) (O : Nat → UInt32) (P V S : Nat → Int32) (tn : Nat) (po rd al : Int32) (r : Nat) (x : Int32) (hr3 : r < 3) : CT l yX2_changePurse wsX2_changePurse 1 40 D G [.ref st, .int (nI r), .int x] [(st, .inr (2, [.ref ob, .ref tb, .ref pu, .ref wo, .ref se, .int (nI tn), .int po, .int rd, .int al])), (ob, .inr (1, [.int (nI n), .ref nu, .ref fr])), (nu, .inl (G 0, 16, .inl N)), (fr, .inl (G 0, 16, .inl Z)), (tb, .inr (3, [.int (nI k), .ref fa, .ref od])), (fa, .inl (G 0, 50, .inl (fl F))), (od, .inl (G 1, 10, .inr (.inr (.inl O)))), (pu, .inl (G 0, 3, .inl P)), (wo, .inl (G 0, 3, .inl V)), (se, .inl (G 0, 3, .inl S))] [(st, .inr (2, [.ref ob, .ref tb, .ref pu, .ref wo, .ref se, .int (nI tn), .int po, .int rd, .int al])), (ob, .inr (1, [.int (nI n), .ref nu, .ref fr])), (nu, .inl (G 0, 16, .inl N)), (fr, .inl (G 0, 16, .inl Z)), (tb, .inr (3, [.int (nI k), .ref fa, .ref od])), (fa, .inl (G 0, 50, .inl (fl F))), (od, .inl (G 1, 10, .inr (.inr (.inl O)))), (pu, .inl (G 0, 3, .inl (upd P r (cap (P r + x))))), (wo, .inl (G 0, 3, .inl V)), (se, .inl (G 0, 3, .inl S))] none := by
  refine CT.of (cc := cX2_changePurse) (maxL := 3) (ret := none) (by decide) rfl RX2 rfl (Nat.le_of_ble_eq_true rfl) (fun pp ee s mm bl me cc A ls hx hb hr hml hts hown hlk hnm hA hP hK hD hN hS hl => ?_)
  have hl : lv_has ls 3 [(0, .ref st), (1, .int (nI r)), (2, .int x)] := hl
  have hP : va_P D vwCl [(st, .inr (2, [.ref ob, .ref tb, .ref pu, .ref wo, .ref se, .int (nI tn), .int po, .int rd, .int al])), (ob, .inr (1, [.int (nI n), .ref nu, .ref fr])), (nu, .inl (G 0, 16, .inl N)), (fr, .inl (G 0, 16, .inl Z)), (tb, .inr (3, [.int (nI k), .ref fa, .ref od])), (fa, .inl (G 0, 50, .inl (fl F))), (od, .inl (G 1, 10, .inr (.inr (.inl O)))), (pu, .inl (G 0, 3, .inl P)), (wo, .inl (G 0, 3, .inl V)), (se, .inl (G 0, 3, .inl S))] s.heap := hP
  have inX2 : ∀ w ∈ wsX20, w ∈ wsX2_changePurse := fun w h => List.mem_cons_of_mem _ (List.mem_append_right _ h)
  have k23 := hts (.fieldLink RX2 23 "SquareStakes$State" "purses" "[I") (List.mem_of_getElem? (i := 1) rfl)
  have k66 := hts (.constant RX2 66 (999999)) (List.mem_of_getElem? (i := 2) rfl)
  have lk67 := hts (.methodLink RX2 67 Lib.Math.min.name) (List.mem_of_getElem? (i := 3) rfl)
  have st67 := hts (.static Lib.Math.min.name) (List.mem_of_getElem? (i := 4) rfl)
  have in67 := hts (.initialized "java/lang/Math") (List.mem_of_getElem? (i := 5) rfl)
  have cd67 := hts (.code Lib.Math.min.name Lib.Math.min.code 2 (some .int)) (List.mem_of_getElem? (i := 6) rfl)
  refine lv_iload_n hx hb dX2_changePurse_0 rfl (lv_at hl 1 rfl) ?_
  refine iLt (tgt := 32) hx hb dX2_changePurse_1 (by decide) (by omega) ?_
  refine lv_iload_n hx hb dX2_changePurse_4 rfl (lv_at hl 1 rfl) ?_
  refine lv_aload_n hx hb dX2_changePurse_5 rfl (lv_at hl 0 rfl) ?_
  refine va_get (D := D) (ci := 2) (v := .ref pu) (C := RX2) (T := TX2) (N := 9) hx hb hts inX2 hown hK hP 0 rfl rfl 2 (by decide) k23 (fun _ h9 => h9) rfl dX2_changePurse_6 ?_
  refine va_alen (v := nI 3) hx hb hK hP 7 0 rfl rfl rfl dX2_changePurse_9 ?_
  refine bGe (tgt := 32) hx hb dX2_changePurse_10 (by decide) (by omega) (by omega) (fun c2 => by exfalso; omega) (fun c2 => ?_)
  refine lv_aload_n hx hb dX2_changePurse_13 rfl (lv_at hl 0 rfl) ?_
  refine va_get (D := D) (ci := 2) (v := .ref pu) (C := RX2) (T := TX2) (N := 9) hx hb hts inX2 hown hK hP 0 rfl rfl 2 (by decide) k23 (fun _ h9 => h9) rfl dX2_changePurse_14 ?_
  refine lv_iload_n hx hb dX2_changePurse_17 rfl (lv_at hl 1 rfl) ?_
  refine lv_aload_n hx hb dX2_changePurse_18 rfl (lv_at hl 0 rfl) ?_
  refine va_get (D := D) (ci := 2) (v := .ref pu) (C := RX2) (T := TX2) (N := 9) hx hb hts inX2 hown hK hP 0 rfl rfl 2 (by decide) k23 (fun _ h9 => h9) rfl dX2_changePurse_19 ?_
  refine lv_iload_n hx hb dX2_changePurse_22 rfl (lv_at hl 1 rfl) ?_
  refine rIald hx hb hK hP 7 rfl r (by omega) (by decide) dX2_changePurse_23 ?_
  refine lv_iload_n hx hb dX2_changePurse_24 rfl (lv_at hl 2 rfl) ?_
  refine lv_iadd hx hb dX2_changePurse_25 ?_
  refine lv_ldc hx hb hown k66 dX2_changePurse_26 ?_
  refine rTop (show (999999 : Int32) = nI 999999 from by decide +kernel) ?_
  refine va_mmin hx hb (hml.trans hl.1.symm) hown lk67 st67 in67 cd67 (by decide) (Nat.le_of_ble_eq_true rfl) (Nat.le_of_ble_eq_true rfl) (Nat.le_of_ble_eq_true rfl) dX2_changePurse_28 ?_
  refine rIast hx hb hK hP hD hS 7 rfl r (by omega) (by decide) dX2_changePurse_31 (fun H locs hP hD hS => ?_)
  have hP : va_P D vwCl [(st, .inr (2, [.ref ob, .ref tb, .ref pu, .ref wo, .ref se, .int (nI tn), .int po, .int rd, .int al])), (ob, .inr (1, [.int (nI n), .ref nu, .ref fr])), (nu, .inl (G 0, 16, .inl N)), (fr, .inl (G 0, 16, .inl Z)), (tb, .inr (3, [.int (nI k), .ref fa, .ref od])), (fa, .inl (G 0, 50, .inl (fl F))), (od, .inl (G 1, 10, .inr (.inr (.inl O)))), (pu, .inl (G 0, 3, .inl (upd P r (if nI 999999 < (P r + x) then nI 999999 else (P r + x))))), (wo, .inl (G 0, 3, .inl V)), (se, .inl (G 0, 3, .inl S))] H := hP
  have hD : va_D A [(st, .inr (2, [.ref ob, .ref tb, .ref pu, .ref wo, .ref se, .int (nI tn), .int po, .int rd, .int al])), (ob, .inr (1, [.int (nI n), .ref nu, .ref fr])), (nu, .inl (G 0, 16, .inl N)), (fr, .inl (G 0, 16, .inl Z)), (tb, .inr (3, [.int (nI k), .ref fa, .ref od])), (fa, .inl (G 0, 50, .inl (fl F))), (od, .inl (G 1, 10, .inr (.inr (.inl O)))), (pu, .inl (G 0, 3, .inl (upd P r (if nI 999999 < (P r + x) then nI 999999 else (P r + x))))), (wo, .inl (G 0, 3, .inl V)), (se, .inl (G 0, 3, .inl S))] := hD
  obtain ⟨hP, hD⟩ := wI (g := upd P r (cap (P r + x))) hP hD 7 rfl (fun j hj => rfl)
  replace hP : va_P D vwCl [(st, .inr (2, [.ref ob, .ref tb, .ref pu, .ref wo, .ref se, .int (nI tn), .int po, .int rd, .int al])), (ob, .inr (1, [.int (nI n), .ref nu, .ref fr])), (nu, .inl (G 0, 16, .inl N)), (fr, .inl (G 0, 16, .inl Z)), (tb, .inr (3, [.int (nI k), .ref fa, .ref od])), (fa, .inl (G 0, 50, .inl (fl F))), (od, .inl (G 1, 10, .inr (.inr (.inl O)))), (pu, .inl (G 0, 3, .inl (upd P r (cap (P r + x))))), (wo, .inl (G 0, 3, .inl V)), (se, .inl (G 0, 3, .inl S))] _ := hP
  have hD : va_D A [(st, .inr (2, [.ref ob, .ref tb, .ref pu, .ref wo, .ref se, .int (nI tn), .int po, .int rd, .int al])), (ob, .inr (1, [.int (nI n), .ref nu, .ref fr])), (nu, .inl (G 0, 16, .inl N)), (fr, .inl (G 0, 16, .inl Z)), (tb, .inr (3, [.int (nI k), .ref fa, .ref od])), (fa, .inl (G 0, 50, .inl (fl F))), (od, .inl (G 1, 10, .inr (.inr (.inl O)))), (pu, .inl (G 0, 3, .inl (upd P r (cap (P r + x))))), (wo, .inl (G 0, 3, .inl V)), (se, .inl (G 0, 3, .inl S))] := hD
  exact rVret hx hb hr hlk hP hK hD hS dX2_changePurse_32

set_option maxHeartbeats 4000000 in
set_option maxRecDepth 100000 in
theorem mX2_payIntoPot (l : Launch) (D : va_G) (G : Nat → ClassId) (st pu wo se : Nat) (ob nu fr n : Nat) (N Z : Nat → Int32) (tb fa od k : Nat) (F : Nat → Nat → Int32) (O : Nat → UInt32) (P V S : Nat → Int32) (tn : Nat) (po rd al : Int32) (x : Int32) (ht : tn < 3) : CT l yX2_payIntoPot wsX2_payIntoPot 2 62 D G [.ref st, .int x] [(st, .inr (2, [.ref ob, .ref tb, .ref pu, .ref wo, .ref se, .int (nI tn), .int po, .int rd, .int al])), (ob, .inr (1, [.int (nI n), .ref nu, .ref fr])), (nu, .inl (G 0, 16, .inl N)), (fr, .inl (G 0, 16, .inl Z)), (tb, .inr (3, [.int (nI k), .ref fa, .ref od])), (fa, .inl (G 0, 50, .inl (fl F))), (od, .inl (G 1, 10, .inr (.inr (.inl O)))), (pu, .inl (G 0, 3, .inl P)), (wo, .inl (G 0, 3, .inl V)), (se, .inl (G 0, 3, .inl S))] [(st, .inr (2, [.ref ob, .ref tb, .ref pu, .ref wo, .ref se, .int (nI tn), .int (po + x), .int rd, .int al])), (ob, .inr (1, [.int (nI n), .ref nu, .ref fr])), (nu, .inl (G 0, 16, .inl N)), (fr, .inl (G 0, 16, .inl Z)), (tb, .inr (3, [.int (nI k), .ref fa, .ref od])), (fa, .inl (G 0, 50, .inl (fl F))), (od, .inl (G 1, 10, .inr (.inr (.inl O)))), (pu, .inl (G 0, 3, .inl (upd P tn (cap (P tn + (-x)))))), (wo, .inl (G 0, 3, .inl V)), (se, .inl (G 0, 3, .inl S))] none := by
  refine CT.of (cc := cX2_payIntoPot) (maxL := 2) (ret := none) (by decide) rfl RX2 rfl (Nat.le_of_ble_eq_true rfl) (fun pp ee s mm bl me cc A ls hx hb hr hml hts hown hlk hnm hA hP hK hD hN hS hl => ?_)
  have hl : lv_has ls 2 [(0, .ref st), (1, .int x)] := hl
  have hP : va_P D vwCl [(st, .inr (2, [.ref ob, .ref tb, .ref pu, .ref wo, .ref se, .int (nI tn), .int po, .int rd, .int al])), (ob, .inr (1, [.int (nI n), .ref nu, .ref fr])), (nu, .inl (G 0, 16, .inl N)), (fr, .inl (G 0, 16, .inl Z)), (tb, .inr (3, [.int (nI k), .ref fa, .ref od])), (fa, .inl (G 0, 50, .inl (fl F))), (od, .inl (G 1, 10, .inr (.inr (.inl O)))), (pu, .inl (G 0, 3, .inl P)), (wo, .inl (G 0, 3, .inl V)), (se, .inl (G 0, 3, .inl S))] s.heap := hP
  have inX2 : ∀ w ∈ wsX20, w ∈ wsX2_payIntoPot := fun w h => List.mem_cons_of_mem _ (List.mem_append_right _ h)
  have k33 := hts (.fieldLink RX2 33 "SquareStakes$State" "turn" "I") (List.mem_of_getElem? (i := 1) rfl)
  have k37 := hts (.fieldLink RX2 37 "SquareStakes$State" "pot" "I") (List.mem_of_getElem? (i := 2) rfl)
  refine lv_aload_n hx hb dX2_payIntoPot_0 rfl (lv_at hl 0 rfl) ?_
  refine lv_aload_n hx hb dX2_payIntoPot_1 rfl (lv_at hl 0 rfl) ?_
  refine va_get (D := D) (ci := 2) (v := .int (nI tn)) (C := RX2) (T := TX2) (N := 9) hx hb hts inX2 hown hK hP 0 rfl rfl 5 (by decide) k33 (fun _ h9 => h9) rfl dX2_payIntoPot_2 ?_
  refine lv_iload_n hx hb dX2_payIntoPot_5 rfl (lv_at hl 1 rfl) ?_
  refine lv_ineg hx hb dX2_payIntoPot_6 ?_
  refine cV (As := [.int (nI tn), .int (-x)]) (rest := []) ⟨hx, hb, hml, hown, hts⟩ hP hK hD hS hN hA (mX2_changePurse l D G st pu wo se ob nu fr n N Z tb fa od k F O P V S tn po rd al tn (-x) (by first | assumption | omega)) (cwV 2 hts gX2_payIntoPot_X2_changePurse rfl rfl rfl (by decide +kernel) ⟨Nat.le_of_ble_eq_true rfl, Nat.le_of_ble_eq_true rfl⟩) [0, 1, 2, 3, 4, 5, 6, 7, 8, 9] rfl (by decide) rfl 0 2 rfl rfl rfl hl.1 rfl (Nat.le_of_ble_eq_true rfl) dX2_payIntoPot_7 ⟨Nat.zero_le _, Nat.zero_le _⟩ (fun H locs hP hD hS => ?_)
  have hP : va_P D vwCl [(st, .inr (2, [.ref ob, .ref tb, .ref pu, .ref wo, .ref se, .int (nI tn), .int po, .int rd, .int al])), (ob, .inr (1, [.int (nI n), .ref nu, .ref fr])), (nu, .inl (G 0, 16, .inl N)), (fr, .inl (G 0, 16, .inl Z)), (tb, .inr (3, [.int (nI k), .ref fa, .ref od])), (fa, .inl (G 0, 50, .inl (fl F))), (od, .inl (G 1, 10, .inr (.inr (.inl O)))), (pu, .inl (G 0, 3, .inl (upd P tn (cap (P tn + (-x)))))), (wo, .inl (G 0, 3, .inl V)), (se, .inl (G 0, 3, .inl S))] H := hP
  have hD : va_D A [(st, .inr (2, [.ref ob, .ref tb, .ref pu, .ref wo, .ref se, .int (nI tn), .int po, .int rd, .int al])), (ob, .inr (1, [.int (nI n), .ref nu, .ref fr])), (nu, .inl (G 0, 16, .inl N)), (fr, .inl (G 0, 16, .inl Z)), (tb, .inr (3, [.int (nI k), .ref fa, .ref od])), (fa, .inl (G 0, 50, .inl (fl F))), (od, .inl (G 1, 10, .inr (.inr (.inl O)))), (pu, .inl (G 0, 3, .inl (upd P tn (cap (P tn + (-x)))))), (wo, .inl (G 0, 3, .inl V)), (se, .inl (G 0, 3, .inl S))] := hD
  refine lv_aload_n hx hb dX2_payIntoPot_10 rfl (lv_at hl 0 rfl) ?_
  refine lv_dup hx hb dX2_payIntoPot_11 rfl ?_
  refine va_get (D := D) (ci := 2) (v := .int po) (C := RX2) (T := TX2) (N := 9) hx hb hts inX2 hown hK hP 0 rfl rfl 6 (by decide) k37 (fun _ h9 => h9) rfl dX2_payIntoPot_12 ?_
  refine lv_iload_n hx hb dX2_payIntoPot_15 rfl (lv_at hl 1 rfl) ?_
  refine lv_iadd hx hb dX2_payIntoPot_16 ?_
  refine va_put (D := D) (ci := 2) (v := .int (po + x)) (ty := .int) (C := RX2) (T := TX2) (N := 9) hx hb hts inX2 tyX2 tyX2_ok nmX2 hown hK hP hD hS 0 rfl rfl 6 (by decide) k37 (fun _ h9 => h9) rfl (by decide +kernel) rfl rfl (Nat.le_of_ble_eq_true rfl) dX2_payIntoPot_17 (fun H locs hP hD hS => ?_)
  have hP : va_P D vwCl [(st, .inr (2, [.ref ob, .ref tb, .ref pu, .ref wo, .ref se, .int (nI tn), .int (po + x), .int rd, .int al])), (ob, .inr (1, [.int (nI n), .ref nu, .ref fr])), (nu, .inl (G 0, 16, .inl N)), (fr, .inl (G 0, 16, .inl Z)), (tb, .inr (3, [.int (nI k), .ref fa, .ref od])), (fa, .inl (G 0, 50, .inl (fl F))), (od, .inl (G 1, 10, .inr (.inr (.inl O)))), (pu, .inl (G 0, 3, .inl (upd P tn (cap (P tn + (-x)))))), (wo, .inl (G 0, 3, .inl V)), (se, .inl (G 0, 3, .inl S))] H := hP
  have hD : va_D A [(st, .inr (2, [.ref ob, .ref tb, .ref pu, .ref wo, .ref se, .int (nI tn), .int (po + x), .int rd, .int al])), (ob, .inr (1, [.int (nI n), .ref nu, .ref fr])), (nu, .inl (G 0, 16, .inl N)), (fr, .inl (G 0, 16, .inl Z)), (tb, .inr (3, [.int (nI k), .ref fa, .ref od])), (fa, .inl (G 0, 50, .inl (fl F))), (od, .inl (G 1, 10, .inr (.inr (.inl O)))), (pu, .inl (G 0, 3, .inl (upd P tn (cap (P tn + (-x)))))), (wo, .inl (G 0, 3, .inl V)), (se, .inl (G 0, 3, .inl S))] := hD
  exact rVret hx hb hr hlk hP hK hD hS dX2_payIntoPot_20

set_option maxHeartbeats 4000000 in
set_option maxRecDepth 100000 in
theorem mX2_passTurn (l : Launch) (D : va_G) (G : Nat → ClassId) (st pu wo se : Nat) (ob nu fr n : Nat) (N Z : Nat → Int32) (tb fa od k : Nat) (F : Nat → Nat → Int32) (O : Nat → UInt32) (P V S : Nat → Int32) (tn : Nat) (po rd al : Int32) (ht : tn < 3) : CT l yX2_passTurn wsX2_passTurn 0 0 D G [.ref st] [(st, .inr (2, [.ref ob, .ref tb, .ref pu, .ref wo, .ref se, .int (nI tn), .int po, .int rd, .int al])), (ob, .inr (1, [.int (nI n), .ref nu, .ref fr])), (nu, .inl (G 0, 16, .inl N)), (fr, .inl (G 0, 16, .inl Z)), (tb, .inr (3, [.int (nI k), .ref fa, .ref od])), (fa, .inl (G 0, 50, .inl (fl F))), (od, .inl (G 1, 10, .inr (.inr (.inl O)))), (pu, .inl (G 0, 3, .inl P)), (wo, .inl (G 0, 3, .inl V)), (se, .inl (G 0, 3, .inl S))] [(st, .inr (2, [.ref ob, .ref tb, .ref pu, .ref wo, .ref se, .int (nI (nx tn)), .int po, .int rd, .int al])), (ob, .inr (1, [.int (nI n), .ref nu, .ref fr])), (nu, .inl (G 0, 16, .inl N)), (fr, .inl (G 0, 16, .inl Z)), (tb, .inr (3, [.int (nI k), .ref fa, .ref od])), (fa, .inl (G 0, 50, .inl (fl F))), (od, .inl (G 1, 10, .inr (.inr (.inl O)))), (pu, .inl (G 0, 3, .inl P)), (wo, .inl (G 0, 3, .inl V)), (se, .inl (G 0, 3, .inl S))] none := by
  refine CT.of (cc := cX2_passTurn) (maxL := 1) (ret := none) (by decide) rfl RX2 rfl (Nat.le_of_ble_eq_true rfl) (fun pp ee s mm bl me cc A ls hx hb hr hml hts hown hlk hnm hA hP hK hD hN hS hl => ?_)
  have hl : lv_has ls 1 [(0, .ref st)] := hl
  have hP : va_P D vwCl [(st, .inr (2, [.ref ob, .ref tb, .ref pu, .ref wo, .ref se, .int (nI tn), .int po, .int rd, .int al])), (ob, .inr (1, [.int (nI n), .ref nu, .ref fr])), (nu, .inl (G 0, 16, .inl N)), (fr, .inl (G 0, 16, .inl Z)), (tb, .inr (3, [.int (nI k), .ref fa, .ref od])), (fa, .inl (G 0, 50, .inl (fl F))), (od, .inl (G 1, 10, .inr (.inr (.inl O)))), (pu, .inl (G 0, 3, .inl P)), (wo, .inl (G 0, 3, .inl V)), (se, .inl (G 0, 3, .inl S))] s.heap := hP
  have inX2 : ∀ w ∈ wsX20, w ∈ wsX2_passTurn := fun w h => List.mem_cons_of_mem _ (List.mem_append_right _ h)
  have k33 := hts (.fieldLink RX2 33 "SquareStakes$State" "turn" "I") (List.mem_of_getElem? (i := 1) rfl)
  refine lv_aload_n hx hb dX2_passTurn_0 rfl (lv_at hl 0 rfl) ?_
  refine lv_aload_n hx hb dX2_passTurn_1 rfl (lv_at hl 0 rfl) ?_
  refine va_get (D := D) (ci := 2) (v := .int (nI tn)) (C := RX2) (T := TX2) (N := 9) hx hb hts inX2 hown hK hP 0 rfl rfl 5 (by decide) k33 (fun _ h9 => h9) rfl dX2_passTurn_2 ?_
  refine lv_iconst (v := nI 1) hx hb dX2_passTurn_5 (by decide +kernel) ?_
  refine lv_iadd hx hb dX2_passTurn_6 ?_
  refine rTop (show nI tn + nI 1 = nI (tn + 1) from nI_add tn 1) ?_
  refine lv_iconst (v := nI 3) hx hb dX2_passTurn_7 (by decide +kernel) ?_
  refine bGe (tgt := 20) hx hb dX2_passTurn_8 (by decide) (by omega) (by omega) (fun c1 => ?_) (fun c1 => ?_)
  · refine lv_iconst (v := nI 0) hx hb dX2_passTurn_20 (by decide +kernel) ?_
    refine rTop (show nI 0 = nI (nx tn) from by unfold nx; first | rw [if_pos (by omega)] | rw [if_neg (by omega)]) ?_
    refine va_put (D := D) (ci := 2) (v := .int (nI (nx tn))) (ty := .int) (C := RX2) (T := TX2) (N := 9) hx hb hts inX2 tyX2 tyX2_ok nmX2 hown hK hP hD hS 0 rfl rfl 5 (by decide) k33 (fun _ h9 => h9) rfl (by decide +kernel) rfl rfl (Nat.le_of_ble_eq_true rfl) dX2_passTurn_21 (fun H locs hP hD hS => ?_)
    have hP : va_P D vwCl [(st, .inr (2, [.ref ob, .ref tb, .ref pu, .ref wo, .ref se, .int (nI (nx tn)), .int po, .int rd, .int al])), (ob, .inr (1, [.int (nI n), .ref nu, .ref fr])), (nu, .inl (G 0, 16, .inl N)), (fr, .inl (G 0, 16, .inl Z)), (tb, .inr (3, [.int (nI k), .ref fa, .ref od])), (fa, .inl (G 0, 50, .inl (fl F))), (od, .inl (G 1, 10, .inr (.inr (.inl O)))), (pu, .inl (G 0, 3, .inl P)), (wo, .inl (G 0, 3, .inl V)), (se, .inl (G 0, 3, .inl S))] H := hP
    have hD : va_D A [(st, .inr (2, [.ref ob, .ref tb, .ref pu, .ref wo, .ref se, .int (nI (nx tn)), .int po, .int rd, .int al])), (ob, .inr (1, [.int (nI n), .ref nu, .ref fr])), (nu, .inl (G 0, 16, .inl N)), (fr, .inl (G 0, 16, .inl Z)), (tb, .inr (3, [.int (nI k), .ref fa, .ref od])), (fa, .inl (G 0, 50, .inl (fl F))), (od, .inl (G 1, 10, .inr (.inr (.inl O)))), (pu, .inl (G 0, 3, .inl P)), (wo, .inl (G 0, 3, .inl V)), (se, .inl (G 0, 3, .inl S))] := hD
    exact rVret hx hb hr hlk hP hK hD hS dX2_passTurn_24
  · refine lv_aload_n hx hb dX2_passTurn_11 rfl (lv_at hl 0 rfl) ?_
    refine va_get (D := D) (ci := 2) (v := .int (nI tn)) (C := RX2) (T := TX2) (N := 9) hx hb hts inX2 hown hK hP 0 rfl rfl 5 (by decide) k33 (fun _ h9 => h9) rfl dX2_passTurn_12 ?_
    refine lv_iconst (v := nI 1) hx hb dX2_passTurn_15 (by decide +kernel) ?_
    refine lv_iadd hx hb dX2_passTurn_16 ?_
    refine rTop (show nI tn + nI 1 = nI (tn + 1) from nI_add tn 1) ?_
    refine lv_goto (tgt := 21) hx hb dX2_passTurn_17 (by decide) ?_
    refine rTop (show nI (tn + 1) = nI (nx tn) from by unfold nx; first | rw [if_pos (by omega)] | rw [if_neg (by omega)]) ?_
    refine va_put (D := D) (ci := 2) (v := .int (nI (nx tn))) (ty := .int) (C := RX2) (T := TX2) (N := 9) hx hb hts inX2 tyX2 tyX2_ok nmX2 hown hK hP hD hS 0 rfl rfl 5 (by decide) k33 (fun _ h9 => h9) rfl (by decide +kernel) rfl rfl (Nat.le_of_ble_eq_true rfl) dX2_passTurn_21 (fun H locs hP hD hS => ?_)
    have hP : va_P D vwCl [(st, .inr (2, [.ref ob, .ref tb, .ref pu, .ref wo, .ref se, .int (nI (nx tn)), .int po, .int rd, .int al])), (ob, .inr (1, [.int (nI n), .ref nu, .ref fr])), (nu, .inl (G 0, 16, .inl N)), (fr, .inl (G 0, 16, .inl Z)), (tb, .inr (3, [.int (nI k), .ref fa, .ref od])), (fa, .inl (G 0, 50, .inl (fl F))), (od, .inl (G 1, 10, .inr (.inr (.inl O)))), (pu, .inl (G 0, 3, .inl P)), (wo, .inl (G 0, 3, .inl V)), (se, .inl (G 0, 3, .inl S))] H := hP
    have hD : va_D A [(st, .inr (2, [.ref ob, .ref tb, .ref pu, .ref wo, .ref se, .int (nI (nx tn)), .int po, .int rd, .int al])), (ob, .inr (1, [.int (nI n), .ref nu, .ref fr])), (nu, .inl (G 0, 16, .inl N)), (fr, .inl (G 0, 16, .inl Z)), (tb, .inr (3, [.int (nI k), .ref fa, .ref od])), (fa, .inl (G 0, 50, .inl (fl F))), (od, .inl (G 1, 10, .inr (.inr (.inl O)))), (pu, .inl (G 0, 3, .inl P)), (wo, .inl (G 0, 3, .inl V)), (se, .inl (G 0, 3, .inl S))] := hD
    exact rVret hx hb hr hlk hP hK hD hS dX2_passTurn_24

set_option maxHeartbeats 4000000 in
set_option maxRecDepth 100000 in
theorem mX2_abandonRound (l : Launch) (D : va_G) (G : Nat → ClassId) (st pu wo se : Nat) (ob nu fr n : Nat) (N Z : Nat → Int32) (tb fa od k : Nat) (F : Nat → Nat → Int32) (O : Nat → UInt32) (P V S : Nat → Int32) (tn : Nat) (po rd al : Int32) (hk : k ≤ 10) (hn : n = 3 ∨ n = 4) : CT l yX2_abandonRound wsX2_abandonRound 2 45 D G [.ref st] [(st, .inr (2, [.ref ob, .ref tb, .ref pu, .ref wo, .ref se, .int (nI tn), .int po, .int rd, .int al])), (ob, .inr (1, [.int (nI n), .ref nu, .ref fr])), (nu, .inl (G 0, 16, .inl N)), (fr, .inl (G 0, 16, .inl Z)), (tb, .inr (3, [.int (nI k), .ref fa, .ref od])), (fa, .inl (G 0, 50, .inl (fl F))), (od, .inl (G 1, 10, .inr (.inr (.inl O)))), (pu, .inl (G 0, 3, .inl P)), (wo, .inl (G 0, 3, .inl V)), (se, .inl (G 0, 3, .inl S))] [(st, .inr (2, [.ref ob, .ref tb, .ref pu, .ref wo, .ref se, .int (nI tn), .int (po + aa F k), .int (nI 0), .int al])), (ob, .inr (1, [.int (nI n), .ref nu, .ref fr])), (nu, .inl (G 0, 16, .inl N)), (fr, .inl (G 0, 16, .inl zr)), (tb, .inr (3, [.int (nI 0), .ref fa, .ref od])), (fa, .inl (G 0, 50, .inl (fl F))), (od, .inl (G 1, 10, .inr (.inr (.inl O)))), (pu, .inl (G 0, 3, .inl P)), (wo, .inl (G 0, 3, .inl V)), (se, .inl (G 0, 3, .inl S))] none := by
  refine CT.of (cc := cX2_abandonRound) (maxL := 1) (ret := none) (by decide) rfl RX2 rfl (Nat.le_of_ble_eq_true rfl) (fun pp ee s mm bl me cc A ls hx hb hr hml hts hown hlk hnm hA hP hK hD hN hS hl => ?_)
  have hl : lv_has ls 1 [(0, .ref st)] := hl
  have hP : va_P D vwCl [(st, .inr (2, [.ref ob, .ref tb, .ref pu, .ref wo, .ref se, .int (nI tn), .int po, .int rd, .int al])), (ob, .inr (1, [.int (nI n), .ref nu, .ref fr])), (nu, .inl (G 0, 16, .inl N)), (fr, .inl (G 0, 16, .inl Z)), (tb, .inr (3, [.int (nI k), .ref fa, .ref od])), (fa, .inl (G 0, 50, .inl (fl F))), (od, .inl (G 1, 10, .inr (.inr (.inl O)))), (pu, .inl (G 0, 3, .inl P)), (wo, .inl (G 0, 3, .inl V)), (se, .inl (G 0, 3, .inl S))] s.heap := hP
  have inX2 : ∀ w ∈ wsX20, w ∈ wsX2_abandonRound := fun w h => List.mem_cons_of_mem _ (List.mem_append_left _ (List.mem_append_left _ (List.mem_append_right _ h)))
  have k37 := hts (.fieldLink RX2 37 "SquareStakes$State" "pot" "I") (List.mem_of_getElem? (i := 1) rfl)
  have k19 := hts (.fieldLink RX2 19 "SquareStakes$State" "table" "LSquareStakes$Table;") (List.mem_of_getElem? (i := 2) rfl)
  have k10 := hts (.fieldLink RX2 10 "SquareStakes$State" "square" "LSquareStakes$Square;") (List.mem_of_getElem? (i := 3) rfl)
  have k40 := hts (.fieldLink RX2 40 "SquareStakes$State" "roundSwaps" "I") (List.mem_of_getElem? (i := 4) rfl)
  refine lv_aload_n hx hb dX2_abandonRound_0 rfl (lv_at hl 0 rfl) ?_
  refine lv_dup hx hb dX2_abandonRound_1 rfl ?_
  refine va_get (D := D) (ci := 2) (v := .int po) (C := RX2) (T := TX2) (N := 9) hx hb hts inX2 hown hK hP 0 rfl rfl 6 (by decide) k37 (fun _ h9 => h9) rfl dX2_abandonRound_2 ?_
  refine lv_aload_n hx hb dX2_abandonRound_5 rfl (lv_at hl 0 rfl) ?_
  refine va_get (D := D) (ci := 2) (v := .ref tb) (C := RX2) (T := TX2) (N := 9) hx hb hts inX2 hown hK hP 0 rfl rfl 1 (by decide) k19 (fun _ h9 => h9) rfl dX2_abandonRound_6 ?_
  refine cVr (As := []) (rest := [.int po, .ref st]) ⟨hx, hb, hml, hown, hts⟩ hP hK hD hS hN hA (mX3_amountOfAll l D G tb fa od k F O (by first | assumption | omega)) (cwV 0 hts gX2_abandonRound_X3_amountOfAll rfl rfl rfl (by decide +kernel) ⟨Nat.le_of_ble_eq_true rfl, Nat.le_of_ble_eq_true rfl⟩) [4, 5, 6] rfl (by decide) 4 3 rfl rfl rfl hl.1 rfl (Nat.le_of_ble_eq_true rfl) dX2_abandonRound_9 ⟨Nat.zero_le _, Nat.zero_le _⟩ (fun H locs hP hS => ?_)
  refine lv_iadd hx hb dX2_abandonRound_12 ?_
  refine va_put (D := D) (ci := 2) (v := .int (po + aa F k)) (ty := .int) (C := RX2) (T := TX2) (N := 9) hx hb hts inX2 tyX2 tyX2_ok nmX2 hown hK hP hD hS 0 rfl rfl 6 (by decide) k37 (fun _ h9 => h9) rfl (by decide +kernel) rfl rfl (Nat.le_of_ble_eq_true rfl) dX2_abandonRound_13 (fun H locs hP hD hS => ?_)
  have hP : va_P D vwCl [(st, .inr (2, [.ref ob, .ref tb, .ref pu, .ref wo, .ref se, .int (nI tn), .int (po + aa F k), .int rd, .int al])), (ob, .inr (1, [.int (nI n), .ref nu, .ref fr])), (nu, .inl (G 0, 16, .inl N)), (fr, .inl (G 0, 16, .inl Z)), (tb, .inr (3, [.int (nI k), .ref fa, .ref od])), (fa, .inl (G 0, 50, .inl (fl F))), (od, .inl (G 1, 10, .inr (.inr (.inl O)))), (pu, .inl (G 0, 3, .inl P)), (wo, .inl (G 0, 3, .inl V)), (se, .inl (G 0, 3, .inl S))] H := hP
  have hD : va_D A [(st, .inr (2, [.ref ob, .ref tb, .ref pu, .ref wo, .ref se, .int (nI tn), .int (po + aa F k), .int rd, .int al])), (ob, .inr (1, [.int (nI n), .ref nu, .ref fr])), (nu, .inl (G 0, 16, .inl N)), (fr, .inl (G 0, 16, .inl Z)), (tb, .inr (3, [.int (nI k), .ref fa, .ref od])), (fa, .inl (G 0, 50, .inl (fl F))), (od, .inl (G 1, 10, .inr (.inr (.inl O)))), (pu, .inl (G 0, 3, .inl P)), (wo, .inl (G 0, 3, .inl V)), (se, .inl (G 0, 3, .inl S))] := hD
  refine lv_aload_n hx hb dX2_abandonRound_16 rfl (lv_at hl 0 rfl) ?_
  refine va_get (D := D) (ci := 2) (v := .ref tb) (C := RX2) (T := TX2) (N := 9) hx hb hts inX2 hown hK hP 0 rfl rfl 1 (by decide) k19 (fun _ h9 => h9) rfl dX2_abandonRound_17 ?_
  refine cV (As := []) (rest := []) ⟨hx, hb, hml, hown, hts⟩ hP hK hD hS hN hA (mX3_clear l D G tb fa od k F O (by first | assumption | omega)) (cwV 0 hts gX2_abandonRound_X3_clear rfl rfl rfl (by decide +kernel) ⟨Nat.le_of_ble_eq_true rfl, Nat.le_of_ble_eq_true rfl⟩) [4, 5, 6] rfl (by decide) rfl 4 3 rfl rfl rfl hl.1 rfl (Nat.le_of_ble_eq_true rfl) dX2_abandonRound_20 ⟨Nat.zero_le _, Nat.zero_le _⟩ (fun H locs hP hD hS => ?_)
  have hP : va_P D vwCl [(st, .inr (2, [.ref ob, .ref tb, .ref pu, .ref wo, .ref se, .int (nI tn), .int (po + aa F k), .int rd, .int al])), (ob, .inr (1, [.int (nI n), .ref nu, .ref fr])), (nu, .inl (G 0, 16, .inl N)), (fr, .inl (G 0, 16, .inl Z)), (tb, .inr (3, [.int (nI 0), .ref fa, .ref od])), (fa, .inl (G 0, 50, .inl (fl F))), (od, .inl (G 1, 10, .inr (.inr (.inl O)))), (pu, .inl (G 0, 3, .inl P)), (wo, .inl (G 0, 3, .inl V)), (se, .inl (G 0, 3, .inl S))] H := hP
  have hD : va_D A [(st, .inr (2, [.ref ob, .ref tb, .ref pu, .ref wo, .ref se, .int (nI tn), .int (po + aa F k), .int rd, .int al])), (ob, .inr (1, [.int (nI n), .ref nu, .ref fr])), (nu, .inl (G 0, 16, .inl N)), (fr, .inl (G 0, 16, .inl Z)), (tb, .inr (3, [.int (nI 0), .ref fa, .ref od])), (fa, .inl (G 0, 50, .inl (fl F))), (od, .inl (G 1, 10, .inr (.inr (.inl O)))), (pu, .inl (G 0, 3, .inl P)), (wo, .inl (G 0, 3, .inl V)), (se, .inl (G 0, 3, .inl S))] := hD
  refine lv_aload_n hx hb dX2_abandonRound_23 rfl (lv_at hl 0 rfl) ?_
  refine va_get (D := D) (ci := 2) (v := .ref ob) (C := RX2) (T := TX2) (N := 9) hx hb hts inX2 hown hK hP 0 rfl rfl 0 (by decide) k10 (fun _ h9 => h9) rfl dX2_abandonRound_24 ?_
  refine cV (As := []) (rest := []) ⟨hx, hb, hml, hown, hts⟩ hP hK hD hS hN hA (mX1_thawAll l D G ob nu fr n N Z (by first | assumption | omega)) (cwV 0 hts gX2_abandonRound_X1_thawAll rfl rfl rfl (by decide +kernel) ⟨Nat.le_of_ble_eq_true rfl, Nat.le_of_ble_eq_true rfl⟩) [1, 2, 3] rfl (by decide) rfl 1 1 rfl rfl rfl hl.1 rfl (Nat.le_of_ble_eq_true rfl) dX2_abandonRound_27 ⟨Nat.zero_le _, Nat.zero_le _⟩ (fun H locs hP hD hS => ?_)
  have hP : va_P D vwCl [(st, .inr (2, [.ref ob, .ref tb, .ref pu, .ref wo, .ref se, .int (nI tn), .int (po + aa F k), .int rd, .int al])), (ob, .inr (1, [.int (nI n), .ref nu, .ref fr])), (nu, .inl (G 0, 16, .inl N)), (fr, .inl (G 0, 16, .inl zr)), (tb, .inr (3, [.int (nI 0), .ref fa, .ref od])), (fa, .inl (G 0, 50, .inl (fl F))), (od, .inl (G 1, 10, .inr (.inr (.inl O)))), (pu, .inl (G 0, 3, .inl P)), (wo, .inl (G 0, 3, .inl V)), (se, .inl (G 0, 3, .inl S))] H := hP
  have hD : va_D A [(st, .inr (2, [.ref ob, .ref tb, .ref pu, .ref wo, .ref se, .int (nI tn), .int (po + aa F k), .int rd, .int al])), (ob, .inr (1, [.int (nI n), .ref nu, .ref fr])), (nu, .inl (G 0, 16, .inl N)), (fr, .inl (G 0, 16, .inl zr)), (tb, .inr (3, [.int (nI 0), .ref fa, .ref od])), (fa, .inl (G 0, 50, .inl (fl F))), (od, .inl (G 1, 10, .inr (.inr (.inl O)))), (pu, .inl (G 0, 3, .inl P)), (wo, .inl (G 0, 3, .inl V)), (se, .inl (G 0, 3, .inl S))] := hD
  refine lv_aload_n hx hb dX2_abandonRound_30 rfl (lv_at hl 0 rfl) ?_
  refine lv_iconst (v := nI 0) hx hb dX2_abandonRound_31 (by decide +kernel) ?_
  refine va_put (D := D) (ci := 2) (v := .int (nI 0)) (ty := .int) (C := RX2) (T := TX2) (N := 9) hx hb hts inX2 tyX2 tyX2_ok nmX2 hown hK hP hD hS 0 rfl rfl 7 (by decide) k40 (fun _ h9 => h9) rfl (by decide +kernel) rfl rfl (Nat.le_of_ble_eq_true rfl) dX2_abandonRound_32 (fun H locs hP hD hS => ?_)
  have hP : va_P D vwCl [(st, .inr (2, [.ref ob, .ref tb, .ref pu, .ref wo, .ref se, .int (nI tn), .int (po + aa F k), .int (nI 0), .int al])), (ob, .inr (1, [.int (nI n), .ref nu, .ref fr])), (nu, .inl (G 0, 16, .inl N)), (fr, .inl (G 0, 16, .inl zr)), (tb, .inr (3, [.int (nI 0), .ref fa, .ref od])), (fa, .inl (G 0, 50, .inl (fl F))), (od, .inl (G 1, 10, .inr (.inr (.inl O)))), (pu, .inl (G 0, 3, .inl P)), (wo, .inl (G 0, 3, .inl V)), (se, .inl (G 0, 3, .inl S))] H := hP
  have hD : va_D A [(st, .inr (2, [.ref ob, .ref tb, .ref pu, .ref wo, .ref se, .int (nI tn), .int (po + aa F k), .int (nI 0), .int al])), (ob, .inr (1, [.int (nI n), .ref nu, .ref fr])), (nu, .inl (G 0, 16, .inl N)), (fr, .inl (G 0, 16, .inl zr)), (tb, .inr (3, [.int (nI 0), .ref fa, .ref od])), (fa, .inl (G 0, 50, .inl (fl F))), (od, .inl (G 1, 10, .inr (.inr (.inl O)))), (pu, .inl (G 0, 3, .inl P)), (wo, .inl (G 0, 3, .inl V)), (se, .inl (G 0, 3, .inl S))] := hD
  exact rVret hx hb hr hlk hP hK hD hS dX2_abandonRound_35

set_option maxHeartbeats 4000000 in
set_option maxRecDepth 100000 in
theorem mX2_layStake (l : Launch) (D : va_G) (G : Nat → ClassId) (st pu wo se : Nat) (ob nu fr n : Nat) (N Z : Nat → Int32) (tb fa od k : Nat) (F : Nat → Nat → Int32) (O : Nat → UInt32) (P V S : Nat → Int32) (tn : Nat) (po rd al : Int32) (L : Nat) (kd am : Int32) (ht : tn < 3) (hk9 : k < 10) (hn : n = 3 ∨ n = 4) (hL : L < 2 * n + 2) (hN1 : NOK n N) : CT l yX2_layStake wsX2_layStake 5 110 D G [.ref st, .int (nI L), .int kd, .int am] [(st, .inr (2, [.ref ob, .ref tb, .ref pu, .ref wo, .ref se, .int (nI tn), .int po, .int rd, .int al])), (ob, .inr (1, [.int (nI n), .ref nu, .ref fr])), (nu, .inl (G 0, 16, .inl N)), (fr, .inl (G 0, 16, .inl Z)), (tb, .inr (3, [.int (nI k), .ref fa, .ref od])), (fa, .inl (G 0, 50, .inl (fl F))), (od, .inl (G 1, 10, .inr (.inr (.inl O)))), (pu, .inl (G 0, 3, .inl P)), (wo, .inl (G 0, 3, .inl V)), (se, .inl (G 0, 3, .inl S))] [(st, .inr (2, [.ref ob, .ref tb, .ref pu, .ref wo, .ref se, .int (nI tn), .int po, .int rd, .int al])), (ob, .inr (1, [.int (nI n), .ref nu, .ref fr])), (nu, .inl (G 0, 16, .inl N)), (fr, .inl (G 0, 16, .inl Z)), (tb, .inr (3, [.int (nI (k + 1)), .ref fa, .ref od])), (fa, .inl (G 0, 50, .inl (fl (nwF F k (nI tn) (nI L) kd am (sL n N L))))), (od, .inl (G 1, 10, .inr (.inr (.inl (va_up O k (odf (ovr n N L kd) (und n kd))))))), (pu, .inl (G 0, 3, .inl (upd P tn (cap (P tn + (-am)))))), (wo, .inl (G 0, 3, .inl V)), (se, .inl (G 0, 3, .inl S))] none := by
  refine CT.of (cc := cX2_layStake) (maxL := 4) (ret := none) (by decide) rfl RX2 rfl (Nat.le_of_ble_eq_true rfl) (fun pp ee s mm bl me cc A ls hx hb hr hml hts hown hlk hnm hA hP hK hD hN hS hl => ?_)
  have hl : lv_has ls 4 [(0, .ref st), (1, .int (nI L)), (2, .int kd), (3, .int am)] := hl
  have hP : va_P D vwCl [(st, .inr (2, [.ref ob, .ref tb, .ref pu, .ref wo, .ref se, .int (nI tn), .int po, .int rd, .int al])), (ob, .inr (1, [.int (nI n), .ref nu, .ref fr])), (nu, .inl (G 0, 16, .inl N)), (fr, .inl (G 0, 16, .inl Z)), (tb, .inr (3, [.int (nI k), .ref fa, .ref od])), (fa, .inl (G 0, 50, .inl (fl F))), (od, .inl (G 1, 10, .inr (.inr (.inl O)))), (pu, .inl (G 0, 3, .inl P)), (wo, .inl (G 0, 3, .inl V)), (se, .inl (G 0, 3, .inl S))] s.heap := hP
  have inX2 : ∀ w ∈ wsX20, w ∈ wsX2_layStake := fun w h => List.mem_cons_of_mem _ (List.mem_append_left _ (List.mem_append_left _ (List.mem_append_right _ h)))
  have k33 := hts (.fieldLink RX2 33 "SquareStakes$State" "turn" "I") (List.mem_of_getElem? (i := 1) rfl)
  have k19 := hts (.fieldLink RX2 19 "SquareStakes$State" "table" "LSquareStakes$Table;") (List.mem_of_getElem? (i := 2) rfl)
  have k10 := hts (.fieldLink RX2 10 "SquareStakes$State" "square" "LSquareStakes$Square;") (List.mem_of_getElem? (i := 3) rfl)
  refine lv_aload_n hx hb dX2_layStake_0 rfl (lv_at hl 0 rfl) ?_
  refine lv_aload_n hx hb dX2_layStake_1 rfl (lv_at hl 0 rfl) ?_
  refine va_get (D := D) (ci := 2) (v := .int (nI tn)) (C := RX2) (T := TX2) (N := 9) hx hb hts inX2 hown hK hP 0 rfl rfl 5 (by decide) k33 (fun _ h9 => h9) rfl dX2_layStake_2 ?_
  refine lv_iload_n hx hb dX2_layStake_5 rfl (lv_at hl 3 rfl) ?_
  refine lv_ineg hx hb dX2_layStake_6 ?_
  refine cV (As := [.int (nI tn), .int (-am)]) (rest := []) ⟨hx, hb, hml, hown, hts⟩ hP hK hD hS hN hA (mX2_changePurse l D G st pu wo se ob nu fr n N Z tb fa od k F O P V S tn po rd al tn (-am) (by first | assumption | omega)) (cwV 2 hts gX2_layStake_X2_changePurse rfl rfl rfl (by decide +kernel) ⟨Nat.le_of_ble_eq_true rfl, Nat.le_of_ble_eq_true rfl⟩) [0, 1, 2, 3, 4, 5, 6, 7, 8, 9] rfl (by decide) rfl 0 2 rfl rfl rfl hl.1 rfl (Nat.le_of_ble_eq_true rfl) dX2_layStake_7 ⟨Nat.zero_le _, Nat.zero_le _⟩ (fun H locs hP hD hS => ?_)
  have hP : va_P D vwCl [(st, .inr (2, [.ref ob, .ref tb, .ref pu, .ref wo, .ref se, .int (nI tn), .int po, .int rd, .int al])), (ob, .inr (1, [.int (nI n), .ref nu, .ref fr])), (nu, .inl (G 0, 16, .inl N)), (fr, .inl (G 0, 16, .inl Z)), (tb, .inr (3, [.int (nI k), .ref fa, .ref od])), (fa, .inl (G 0, 50, .inl (fl F))), (od, .inl (G 1, 10, .inr (.inr (.inl O)))), (pu, .inl (G 0, 3, .inl (upd P tn (cap (P tn + (-am)))))), (wo, .inl (G 0, 3, .inl V)), (se, .inl (G 0, 3, .inl S))] H := hP
  have hD : va_D A [(st, .inr (2, [.ref ob, .ref tb, .ref pu, .ref wo, .ref se, .int (nI tn), .int po, .int rd, .int al])), (ob, .inr (1, [.int (nI n), .ref nu, .ref fr])), (nu, .inl (G 0, 16, .inl N)), (fr, .inl (G 0, 16, .inl Z)), (tb, .inr (3, [.int (nI k), .ref fa, .ref od])), (fa, .inl (G 0, 50, .inl (fl F))), (od, .inl (G 1, 10, .inr (.inr (.inl O)))), (pu, .inl (G 0, 3, .inl (upd P tn (cap (P tn + (-am)))))), (wo, .inl (G 0, 3, .inl V)), (se, .inl (G 0, 3, .inl S))] := hD
  refine lv_aload_n hx hb dX2_layStake_10 rfl (lv_at hl 0 rfl) ?_
  refine va_get (D := D) (ci := 2) (v := .ref tb) (C := RX2) (T := TX2) (N := 9) hx hb hts inX2 hown hK hP 0 rfl rfl 1 (by decide) k19 (fun _ h9 => h9) rfl dX2_layStake_11 ?_
  refine lv_aload_n hx hb dX2_layStake_14 rfl (lv_at hl 0 rfl) ?_
  refine va_get (D := D) (ci := 2) (v := .int (nI tn)) (C := RX2) (T := TX2) (N := 9) hx hb hts inX2 hown hK hP 0 rfl rfl 5 (by decide) k33 (fun _ h9 => h9) rfl dX2_layStake_15 ?_
  refine lv_iload_n hx hb dX2_layStake_18 rfl (lv_at hl 1 rfl) ?_
  refine lv_iload_n hx hb dX2_layStake_19 rfl (lv_at hl 2 rfl) ?_
  refine lv_iload_n hx hb dX2_layStake_20 rfl (lv_at hl 3 rfl) ?_
  refine lv_aload_n hx hb dX2_layStake_21 rfl (lv_at hl 0 rfl) ?_
  refine va_get (D := D) (ci := 2) (v := .ref ob) (C := RX2) (T := TX2) (N := 9) hx hb hts inX2 hown hK hP 0 rfl rfl 0 (by decide) k10 (fun _ h9 => h9) rfl dX2_layStake_22 ?_
  refine lv_iload_n hx hb dX2_layStake_25 rfl (lv_at hl 1 rfl) ?_
  refine cVr (As := [.int (nI L)]) (rest := [.int am, .int kd, .int (nI L), .int (nI tn), .ref tb]) ⟨hx, hb, hml, hown, hts⟩ hP hK hD hS hN hA (mX1_sumOf l D G ob nu fr n N Z L (by first | assumption | omega) (by first | assumption | omega)) (cwV 1 hts gX2_layStake_X1_sumOf rfl rfl rfl (by decide +kernel) ⟨Nat.le_of_ble_eq_true rfl, Nat.le_of_ble_eq_true rfl⟩) [1, 2, 3] rfl (by decide) 1 1 rfl rfl rfl hl.1 rfl (Nat.le_of_ble_eq_true rfl) dX2_layStake_26 ⟨Nat.zero_le _, Nat.zero_le _⟩ (fun H locs hP hS => ?_)
  refine lv_iload_n hx hb dX2_layStake_29 rfl (lv_at hl 1 rfl) ?_
  refine lv_iload_n hx hb dX2_layStake_30 rfl (lv_at hl 2 rfl) ?_
  refine lv_aload_n hx hb dX2_layStake_31 rfl (lv_at hl 0 rfl) ?_
  refine va_get (D := D) (ci := 2) (v := .ref ob) (C := RX2) (T := TX2) (N := 9) hx hb hts inX2 hown hK hP 0 rfl rfl 0 (by decide) k10 (fun _ h9 => h9) rfl dX2_layStake_32 ?_
  refine cSr (As := [.int (nI L), .int kd, .ref ob]) (rest := [.int (sL n N L), .int am, .int kd, .int (nI L), .int (nI tn), .ref tb]) ⟨hx, hb, hml, hown, hts⟩ hP hK hD hS hN hA (mX3_oddsFor l D G ob nu fr n N Z L kd (by first | assumption | omega) (by first | assumption | omega) (by first | assumption | omega)) (va_cwS 3 hts gX2_layStake_X3_oddsFor rfl rfl rfl (by decide +kernel) ⟨Nat.le_of_ble_eq_true rfl, Nat.le_of_ble_eq_true rfl⟩) [1, 2, 3] rfl (by decide) rfl hl.1 rfl (Nat.le_of_ble_eq_true rfl) dX2_layStake_35 ⟨Nat.zero_le _, Nat.zero_le _⟩ (fun H locs hP hS => ?_)
  refine cV (As := [.int (nI tn), .int (nI L), .int kd, .int am, .int (sL n N L), .float (odf (ovr n N L kd) (und n kd))]) (rest := []) ⟨hx, hb, hml, hown, hts⟩ hP hK hD hS hN hA (mX3_add l D G tb fa od k F O tn L kd am (sL n N L) (odf (ovr n N L kd) (und n kd)) (by first | assumption | omega)) (cwV 6 hts gX2_layStake_X3_add rfl rfl rfl (by decide +kernel) ⟨Nat.le_of_ble_eq_true rfl, Nat.le_of_ble_eq_true rfl⟩) [4, 5, 6] rfl (by decide) rfl 4 3 rfl rfl rfl hl.1 rfl (Nat.le_of_ble_eq_true rfl) dX2_layStake_38 ⟨Nat.zero_le _, Nat.zero_le _⟩ (fun H locs hP hD hS => ?_)
  have hP : va_P D vwCl [(st, .inr (2, [.ref ob, .ref tb, .ref pu, .ref wo, .ref se, .int (nI tn), .int po, .int rd, .int al])), (ob, .inr (1, [.int (nI n), .ref nu, .ref fr])), (nu, .inl (G 0, 16, .inl N)), (fr, .inl (G 0, 16, .inl Z)), (tb, .inr (3, [.int (nI (k + 1)), .ref fa, .ref od])), (fa, .inl (G 0, 50, .inl (fl (nwF F k (nI tn) (nI L) kd am (sL n N L))))), (od, .inl (G 1, 10, .inr (.inr (.inl (va_up O k (odf (ovr n N L kd) (und n kd))))))), (pu, .inl (G 0, 3, .inl (upd P tn (cap (P tn + (-am)))))), (wo, .inl (G 0, 3, .inl V)), (se, .inl (G 0, 3, .inl S))] H := hP
  have hD : va_D A [(st, .inr (2, [.ref ob, .ref tb, .ref pu, .ref wo, .ref se, .int (nI tn), .int po, .int rd, .int al])), (ob, .inr (1, [.int (nI n), .ref nu, .ref fr])), (nu, .inl (G 0, 16, .inl N)), (fr, .inl (G 0, 16, .inl Z)), (tb, .inr (3, [.int (nI (k + 1)), .ref fa, .ref od])), (fa, .inl (G 0, 50, .inl (fl (nwF F k (nI tn) (nI L) kd am (sL n N L))))), (od, .inl (G 1, 10, .inr (.inr (.inl (va_up O k (odf (ovr n N L kd) (und n kd))))))), (pu, .inl (G 0, 3, .inl (upd P tn (cap (P tn + (-am)))))), (wo, .inl (G 0, 3, .inl V)), (se, .inl (G 0, 3, .inl S))] := hD
  exact rVret hx hb hr hlk hP hK hD hS dX2_layStake_41

set_option maxHeartbeats 4000000 in
set_option maxRecDepth 100000 in
theorem mX2_makeFreeze (l : Launch) (D : va_G) (G : Nat → ClassId) (st pu wo se : Nat) (ob nu fr n : Nat) (N Z : Nat → Int32) (tb fa od k : Nat) (F : Nat → Nat → Int32) (O : Nat → UInt32) (P V S : Nat → Int32) (tn : Nat) (po rd al : Int32) (q : Nat) (x : Int32) (ht : tn < 3) (hn : n = 3 ∨ n = 4) (hq : q < 16) : CT l yX2_makeFreeze wsX2_makeFreeze 3 83 D G [.ref st, .int (nI q), .int x] [(st, .inr (2, [.ref ob, .ref tb, .ref pu, .ref wo, .ref se, .int (nI tn), .int po, .int rd, .int al])), (ob, .inr (1, [.int (nI n), .ref nu, .ref fr])), (nu, .inl (G 0, 16, .inl N)), (fr, .inl (G 0, 16, .inl Z)), (tb, .inr (3, [.int (nI k), .ref fa, .ref od])), (fa, .inl (G 0, 50, .inl (fl F))), (od, .inl (G 1, 10, .inr (.inr (.inl O)))), (pu, .inl (G 0, 3, .inl P)), (wo, .inl (G 0, 3, .inl V)), (se, .inl (G 0, 3, .inl S))] [(st, .inr (2, [.ref ob, .ref tb, .ref pu, .ref wo, .ref se, .int (nI (nx tn)), .int (po + (x * S 2)), .int rd, .int al])), (ob, .inr (1, [.int (nI n), .ref nu, .ref fr])), (nu, .inl (G 0, 16, .inl N)), (fr, .inl (G 0, 16, .inl (upd Z q x))), (tb, .inr (3, [.int (nI k), .ref fa, .ref od])), (fa, .inl (G 0, 50, .inl (fl F))), (od, .inl (G 1, 10, .inr (.inr (.inl O)))), (pu, .inl (G 0, 3, .inl (upd P tn (cap (P tn + (-(x * S 2))))))), (wo, .inl (G 0, 3, .inl V)), (se, .inl (G 0, 3, .inl S))] none := by
  refine CT.of (cc := cX2_makeFreeze) (maxL := 3) (ret := none) (by decide) rfl RX2 rfl (Nat.le_of_ble_eq_true rfl) (fun pp ee s mm bl me cc A ls hx hb hr hml hts hown hlk hnm hA hP hK hD hN hS hl => ?_)
  have hl : lv_has ls 3 [(0, .ref st), (1, .int (nI q)), (2, .int x)] := hl
  have hP : va_P D vwCl [(st, .inr (2, [.ref ob, .ref tb, .ref pu, .ref wo, .ref se, .int (nI tn), .int po, .int rd, .int al])), (ob, .inr (1, [.int (nI n), .ref nu, .ref fr])), (nu, .inl (G 0, 16, .inl N)), (fr, .inl (G 0, 16, .inl Z)), (tb, .inr (3, [.int (nI k), .ref fa, .ref od])), (fa, .inl (G 0, 50, .inl (fl F))), (od, .inl (G 1, 10, .inr (.inr (.inl O)))), (pu, .inl (G 0, 3, .inl P)), (wo, .inl (G 0, 3, .inl V)), (se, .inl (G 0, 3, .inl S))] s.heap := hP
  have inX2 : ∀ w ∈ wsX20, w ∈ wsX2_makeFreeze := fun w h => List.mem_cons_of_mem _ (List.mem_append_left _ (List.mem_append_right _ h))
  have k10 := hts (.fieldLink RX2 10 "SquareStakes$State" "square" "LSquareStakes$Square;") (List.mem_of_getElem? (i := 1) rfl)
  refine lv_aload_n hx hb dX2_makeFreeze_0 rfl (lv_at hl 0 rfl) ?_
  refine lv_aload_n hx hb dX2_makeFreeze_1 rfl (lv_at hl 0 rfl) ?_
  refine lv_iload_n hx hb dX2_makeFreeze_2 rfl (lv_at hl 2 rfl) ?_
  refine cVr (As := [.int x]) (rest := [.ref st]) ⟨hx, hb, hml, hown, hts⟩ hP hK hD hS hN hA (mX2_priceOfFreeze l D G st pu wo se ob nu fr n N Z tb fa od k F O P V S tn po rd al x ) (cwV 1 hts gX2_makeFreeze_X2_priceOfFreeze rfl rfl rfl (by decide +kernel) ⟨Nat.le_of_ble_eq_true rfl, Nat.le_of_ble_eq_true rfl⟩) [0, 1, 2, 3, 4, 5, 6, 7, 8, 9] rfl (by decide) 0 2 rfl rfl rfl hl.1 rfl (Nat.le_of_ble_eq_true rfl) dX2_makeFreeze_3 ⟨Nat.zero_le _, Nat.zero_le _⟩ (fun H locs hP hS => ?_)
  refine cV (As := [.int (x * S 2)]) (rest := []) ⟨hx, hb, hml, hown, hts⟩ hP hK hD hS hN hA (mX2_payIntoPot l D G st pu wo se ob nu fr n N Z tb fa od k F O P V S tn po rd al (x * S 2) (by first | assumption | omega)) (cwV 1 hts gX2_makeFreeze_X2_payIntoPot rfl rfl rfl (by decide +kernel) ⟨Nat.le_of_ble_eq_true rfl, Nat.le_of_ble_eq_true rfl⟩) [0, 1, 2, 3, 4, 5, 6, 7, 8, 9] rfl (by decide) rfl 0 2 rfl rfl rfl hl.1 rfl (Nat.le_of_ble_eq_true rfl) dX2_makeFreeze_6 ⟨Nat.zero_le _, Nat.zero_le _⟩ (fun H locs hP hD hS => ?_)
  have hP : va_P D vwCl [(st, .inr (2, [.ref ob, .ref tb, .ref pu, .ref wo, .ref se, .int (nI tn), .int (po + (x * S 2)), .int rd, .int al])), (ob, .inr (1, [.int (nI n), .ref nu, .ref fr])), (nu, .inl (G 0, 16, .inl N)), (fr, .inl (G 0, 16, .inl Z)), (tb, .inr (3, [.int (nI k), .ref fa, .ref od])), (fa, .inl (G 0, 50, .inl (fl F))), (od, .inl (G 1, 10, .inr (.inr (.inl O)))), (pu, .inl (G 0, 3, .inl (upd P tn (cap (P tn + (-(x * S 2))))))), (wo, .inl (G 0, 3, .inl V)), (se, .inl (G 0, 3, .inl S))] H := hP
  have hD : va_D A [(st, .inr (2, [.ref ob, .ref tb, .ref pu, .ref wo, .ref se, .int (nI tn), .int (po + (x * S 2)), .int rd, .int al])), (ob, .inr (1, [.int (nI n), .ref nu, .ref fr])), (nu, .inl (G 0, 16, .inl N)), (fr, .inl (G 0, 16, .inl Z)), (tb, .inr (3, [.int (nI k), .ref fa, .ref od])), (fa, .inl (G 0, 50, .inl (fl F))), (od, .inl (G 1, 10, .inr (.inr (.inl O)))), (pu, .inl (G 0, 3, .inl (upd P tn (cap (P tn + (-(x * S 2))))))), (wo, .inl (G 0, 3, .inl V)), (se, .inl (G 0, 3, .inl S))] := hD
  refine lv_aload_n hx hb dX2_makeFreeze_9 rfl (lv_at hl 0 rfl) ?_
  refine va_get (D := D) (ci := 2) (v := .ref ob) (C := RX2) (T := TX2) (N := 9) hx hb hts inX2 hown hK hP 0 rfl rfl 0 (by decide) k10 (fun _ h9 => h9) rfl dX2_makeFreeze_10 ?_
  refine lv_iload_n hx hb dX2_makeFreeze_13 rfl (lv_at hl 1 rfl) ?_
  refine lv_iload_n hx hb dX2_makeFreeze_14 rfl (lv_at hl 2 rfl) ?_
  refine cV (As := [.int (nI q), .int x]) (rest := []) ⟨hx, hb, hml, hown, hts⟩ hP hK hD hS hN hA (mX1_freezeFor l D G ob nu fr n N Z q x (by first | assumption | omega) (by first | assumption | omega)) (cwV 2 hts gX2_makeFreeze_X1_freezeFor rfl rfl rfl (by decide +kernel) ⟨Nat.le_of_ble_eq_true rfl, Nat.le_of_ble_eq_true rfl⟩) [1, 2, 3] rfl (by decide) rfl 1 1 rfl rfl rfl hl.1 rfl (Nat.le_of_ble_eq_true rfl) dX2_makeFreeze_15 ⟨Nat.zero_le _, Nat.zero_le _⟩ (fun H locs hP hD hS => ?_)
  have hP : va_P D vwCl [(st, .inr (2, [.ref ob, .ref tb, .ref pu, .ref wo, .ref se, .int (nI tn), .int (po + (x * S 2)), .int rd, .int al])), (ob, .inr (1, [.int (nI n), .ref nu, .ref fr])), (nu, .inl (G 0, 16, .inl N)), (fr, .inl (G 0, 16, .inl (upd Z q x))), (tb, .inr (3, [.int (nI k), .ref fa, .ref od])), (fa, .inl (G 0, 50, .inl (fl F))), (od, .inl (G 1, 10, .inr (.inr (.inl O)))), (pu, .inl (G 0, 3, .inl (upd P tn (cap (P tn + (-(x * S 2))))))), (wo, .inl (G 0, 3, .inl V)), (se, .inl (G 0, 3, .inl S))] H := hP
  have hD : va_D A [(st, .inr (2, [.ref ob, .ref tb, .ref pu, .ref wo, .ref se, .int (nI tn), .int (po + (x * S 2)), .int rd, .int al])), (ob, .inr (1, [.int (nI n), .ref nu, .ref fr])), (nu, .inl (G 0, 16, .inl N)), (fr, .inl (G 0, 16, .inl (upd Z q x))), (tb, .inr (3, [.int (nI k), .ref fa, .ref od])), (fa, .inl (G 0, 50, .inl (fl F))), (od, .inl (G 1, 10, .inr (.inr (.inl O)))), (pu, .inl (G 0, 3, .inl (upd P tn (cap (P tn + (-(x * S 2))))))), (wo, .inl (G 0, 3, .inl V)), (se, .inl (G 0, 3, .inl S))] := hD
  refine lv_aload_n hx hb dX2_makeFreeze_18 rfl (lv_at hl 0 rfl) ?_
  refine cV (As := []) (rest := []) ⟨hx, hb, hml, hown, hts⟩ hP hK hD hS hN hA (mX2_passTurn l D G st pu wo se ob nu fr n N (upd Z q x) tb fa od k F O (upd P tn (cap (P tn + (-(x * S 2))))) V S tn (po + (x * S 2)) rd al (by first | assumption | omega)) (cwV 0 hts gX2_makeFreeze_X2_passTurn rfl rfl rfl (by decide +kernel) ⟨Nat.le_of_ble_eq_true rfl, Nat.le_of_ble_eq_true rfl⟩) [0, 1, 2, 3, 4, 5, 6, 7, 8, 9] rfl (by decide) rfl 0 2 rfl rfl rfl hl.1 rfl (Nat.le_of_ble_eq_true rfl) dX2_makeFreeze_19 ⟨Nat.zero_le _, Nat.zero_le _⟩ (fun H locs hP hD hS => ?_)
  have hP : va_P D vwCl [(st, .inr (2, [.ref ob, .ref tb, .ref pu, .ref wo, .ref se, .int (nI (nx tn)), .int (po + (x * S 2)), .int rd, .int al])), (ob, .inr (1, [.int (nI n), .ref nu, .ref fr])), (nu, .inl (G 0, 16, .inl N)), (fr, .inl (G 0, 16, .inl (upd Z q x))), (tb, .inr (3, [.int (nI k), .ref fa, .ref od])), (fa, .inl (G 0, 50, .inl (fl F))), (od, .inl (G 1, 10, .inr (.inr (.inl O)))), (pu, .inl (G 0, 3, .inl (upd P tn (cap (P tn + (-(x * S 2))))))), (wo, .inl (G 0, 3, .inl V)), (se, .inl (G 0, 3, .inl S))] H := hP
  have hD : va_D A [(st, .inr (2, [.ref ob, .ref tb, .ref pu, .ref wo, .ref se, .int (nI (nx tn)), .int (po + (x * S 2)), .int rd, .int al])), (ob, .inr (1, [.int (nI n), .ref nu, .ref fr])), (nu, .inl (G 0, 16, .inl N)), (fr, .inl (G 0, 16, .inl (upd Z q x))), (tb, .inr (3, [.int (nI k), .ref fa, .ref od])), (fa, .inl (G 0, 50, .inl (fl F))), (od, .inl (G 1, 10, .inr (.inr (.inl O)))), (pu, .inl (G 0, 3, .inl (upd P tn (cap (P tn + (-(x * S 2))))))), (wo, .inl (G 0, 3, .inl V)), (se, .inl (G 0, 3, .inl S))] := hD
  exact rVret hx hb hr hlk hP hK hD hS dX2_makeFreeze_22
