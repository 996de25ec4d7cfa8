set_option maxHeartbeats 4000000 in
set_option maxRecDepth 100000 in
theorem mX1_linesThrough (l : Launch) (D : va_G) (G : Nat → ClassId) (ob nu fr n : Nat) (N Z : Nat → Int32) (q : Nat) (hn : n = 3 ∨ n = 4) (hq : q < n * n) : CT l yX1_linesThrough wsX1_linesThrough 2 45 D G [.ref ob, .int (nI q)] [(ob, .inr (1, [.int (nI n), .ref nu, .ref fr])), (nu, .inl (G 0, 16, .inl N)), (fr, .inl (G 0, 16, .inl Z))] [(ob, .inr (1, [.int (nI n), .ref nu, .ref fr])), (nu, .inl (G 0, 16, .inl N)), (fr, .inl (G 0, 16, .inl Z))] (some (.int (nI (lt_ n q (2 * n + 2))))) := by
  refine CT.of (cc := cX1_linesThrough) (maxL := 4) (ret := (some .int)) (by decide) rfl RX1 rfl (Nat.le_of_ble_eq_true rfl) (fun pp ee s mm bl me cc A ls hx hb hr hml hts hown hlk hnm hA hP hK hD hN hS hl => ?_)
  have hl : lv_has ls 4 [(0, .ref ob), (1, .int (nI q))] := hl
  have hP : va_P D vwCl [(ob, .inr (1, [.int (nI n), .ref nu, .ref fr])), (nu, .inl (G 0, 16, .inl N)), (fr, .inl (G 0, 16, .inl Z))] s.heap := hP
  refine lv_iconst (v := nI 0) hx hb dX1_linesThrough_0 (by decide +kernel) ?_
  refine lv_istore_n (lv' := [(2, .int (nI 0)), (0, .ref ob), (1, .int (nI q))]) hx hb dX1_linesThrough_1 rfl hl (by decide) rfl (fun ls hl => ?_)
  refine lv_iconst (v := nI 0) hx hb dX1_linesThrough_2 (by decide +kernel) ?_
  refine lv_istore_n (lv' := [(3, .int (nI 0)), (2, .int (nI 0)), (0, .ref ob), (1, .int (nI q))]) hx hb dX1_linesThrough_3 rfl hl (by decide) rfl (fun ls hl => ?_)
  have LP4 : ∀ (nn4 k : Nat), k ≤ (2 * n + 2) → (2 * n + 2) < k + nn4  → ∀ (H : Heap) (locs : List Loc), va_P D vwCl [(ob, .inr (1, [.int (nI n), .ref nu, .ref fr])), (nu, .inl (G 0, 16, .inl N)), (fr, .inl (G 0, 16, .inl Z))] H → va_D A [(ob, .inr (1, [.int (nI n), .ref nu, .ref fr])), (nu, .inl (G 0, 16, .inl N)), (fr, .inl (G 0, 16, .inl Z))] → va_S A s.heap H locs → ∀ ls : Array Slot, lv_has ls 4 [(2, .int (nI (lt_ n q k))), (3, .int (nI k)), (0, .ref ob), (1, .int (nI q))] → W pp l ee (rmA 2 45) s mm ([.ref ob, .int (nI q)] : List Value).toArray bl me cc H locs 0 0 (MQ bl (Qres (some (.int (nI (lt_ n q (2 * n + 2))))) D G [(ob, .inr (1, [.int (nI n), .ref nu, .ref fr])), (nu, .inl (G 0, 16, .inl N)), (fr, .inl (G 0, 16, .inl Z))] A) ([.ref ob, .int (nI q)] : List Value).toArray s 0 0 A) (F0 mm 4 ls []) := by
    intro nn4
    induction nn4 with
    | zero => intro k h1 h2; exact absurd h2 (by omega)
    | succ nn4 ih4 =>
      intro k hkk hnk  H locs hP hD hS ls hl
      refine lv_iload_n hx hb dX1_linesThrough_4 rfl (lv_at hl 1 rfl) ?_
      refine lv_aload_n hx hb dX1_linesThrough_5 rfl (lv_at hl 2 rfl) ?_
      refine cVr (As := []) (rest := [.int (nI k)]) ⟨hx, hb, hml, hown, hts⟩ hP hK hD hS hN hA (mX1_lines l D G ob nu fr n N Z (by first | assumption | omega)) (cwV 0 hts gX1_linesThrough_X1_lines rfl rfl rfl (by decide +kernel) ⟨Nat.le_of_ble_eq_true rfl, Nat.le_of_ble_eq_true rfl⟩) [0, 1, 2] rfl (by decide) 0 1 rfl rfl rfl hl.1 rfl (Nat.le_of_ble_eq_true rfl) dX1_linesThrough_6 ⟨Nat.zero_le _, Nat.zero_le _⟩ (fun H locs hP hS => ?_)
      refine bGe (tgt := 30) hx hb dX1_linesThrough_9 (by decide) (by omega) (by omega) (fun c1 => ?_) (fun c1 => ?_)
      · obtain rfl : 2 * n + 2 = k := by omega
        refine lv_iload_n hx hb dX1_linesThrough_30 rfl (lv_at hl 0 rfl) ?_
        exact rIret hx hb hr hlk hP hK hD hS dX1_linesThrough_31
      · refine lv_aload_n hx hb dX1_linesThrough_12 rfl (lv_at hl 2 rfl) ?_
        refine lv_iload_n hx hb dX1_linesThrough_13 rfl (lv_at hl 1 rfl) ?_
        refine lv_iload_n hx hb dX1_linesThrough_14 rfl (lv_at hl 3 rfl) ?_
        refine cVr (As := [.int (nI k), .int (nI q)]) (rest := []) ⟨hx, hb, hml, hown, hts⟩ hP hK hD hS hN hA (mX1_passesThrough l D G ob nu fr n N Z k q (by first | assumption | omega) (by first | assumption | omega) (by first | assumption | omega)) (cwV 2 hts gX1_linesThrough_X1_passesThrough rfl rfl rfl (by decide +kernel) ⟨Nat.le_of_ble_eq_true rfl, Nat.le_of_ble_eq_true rfl⟩) [0, 1, 2] rfl (by decide) 0 1 rfl rfl rfl hl.1 rfl (Nat.le_of_ble_eq_true rfl) dX1_linesThrough_15 ⟨Nat.zero_le _, Nat.zero_le _⟩ (fun H locs hP hS => ?_)
        refine zEq (tgt := 24) hx hb dX1_linesThrough_18 (by decide)  (fun c2 => ?_) (fun c2 => ?_)
        · rw [show nI (lt_ n q k) = nI (lt_ n q (k + 1)) from by first | rw [lt_t (by assumption)] | rw [lt_f (by assumption)]] at hl
          refine lv_iinc (v := nI (k + 1)) (lv' := [(3, .int (nI (k + 1))), (2, .int (nI (lt_ n q (k + 1)))), (0, .ref ob), (1, .int (nI q))]) hx hb dX1_linesThrough_24 hl (k := 1) rfl (nI_inc k) (by decide) rfl (fun ls hl => ?_)
          refine lv_goto (tgt := 4) hx hb dX1_linesThrough_27 (by decide) ?_
          exact ih4 (k + 1) (by omega) (by omega)  _ _ hP hD hS _ (lv_sub hl [1, 0, 2, 3] rfl)
        · refine lv_iinc (v := nI (lt_ n q k + 1)) (lv' := [(2, .int (nI (lt_ n q k + 1))), (3, .int (nI k)), (0, .ref ob), (1, .int (nI q))]) hx hb dX1_linesThrough_21 hl (k := 0) rfl (nI_inc (lt_ n q k)) (by decide) rfl (fun ls hl => ?_)
          rw [show nI (lt_ n q k + 1) = nI (lt_ n q (k + 1)) from by first | rw [lt_t (by assumption)] | rw [lt_f (by assumption)]] at hl
          refine lv_iinc (v := nI (k + 1)) (lv' := [(3, .int (nI (k + 1))), (2, .int (nI (lt_ n q (k + 1)))), (0, .ref ob), (1, .int (nI q))]) hx hb dX1_linesThrough_24 hl (k := 1) rfl (nI_inc k) (by decide) rfl (fun ls hl => ?_)
          refine lv_goto (tgt := 4) hx hb dX1_linesThrough_27 (by decide) ?_
          exact ih4 (k + 1) (by omega) (by omega)  _ _ hP hD hS _ (lv_sub hl [1, 0, 2, 3] rfl)
  exact LP4 (2 * n + 2 + 1 - 0) 0 (by omega) (by omega)  _ _ hP hD hS _ (lv_sub hl [1, 0, 2, 3] rfl)

set_option maxHeartbeats 4000000 in
set_option maxRecDepth 100000 in
theorem mX1_magicLinesThrough (l : Launch) (D : va_G) (G : Nat → ClassId) (ob nu fr n : Nat) (N Z : Nat → Int32) (q : Nat) (hn : n = 3 ∨ n = 4) (hq : q < n * n) : CT l yX1_magicLinesThrough wsX1_magicLinesThrough 3 66 D G [.ref ob, .int (nI q)] [(ob, .inr (1, [.int (nI n), .ref nu, .ref fr])), (nu, .inl (G 0, 16, .inl N)), (fr, .inl (G 0, 16, .inl Z))] [(ob, .inr (1, [.int (nI n), .ref nu, .ref fr])), (nu, .inl (G 0, 16, .inl N)), (fr, .inl (G 0, 16, .inl Z))] (some (.int (nI (ltm n N q (2 * n + 2))))) := by
  refine CT.of (cc := cX1_magicLinesThrough) (maxL := 4) (ret := (some .int)) (by decide) rfl RX1 rfl (Nat.le_of_ble_eq_true rfl) (fun pp ee s mm bl me cc A ls hx hb hr hml hts hown hlk hnm hA hP hK hD hN hS hl => ?_)
  have hl : lv_has ls 4 [(0, .ref ob), (1, .int (nI q))] := hl
  have hP : va_P D vwCl [(ob, .inr (1, [.int (nI n), .ref nu, .ref fr])), (nu, .inl (G 0, 16, .inl N)), (fr, .inl (G 0, 16, .inl Z))] s.heap := hP
  refine lv_iconst (v := nI 0) hx hb dX1_magicLinesThrough_0 (by decide +kernel) ?_
  refine lv_istore_n (lv' := [(2, .int (nI 0)), (0, .ref ob), (1, .int (nI q))]) hx hb dX1_magicLinesThrough_1 rfl hl (by decide) rfl (fun ls hl => ?_)
  refine lv_iconst (v := nI 0) hx hb dX1_magicLinesThrough_2 (by decide +kernel) ?_
  refine lv_istore_n (lv' := [(3, .int (nI 0)), (2, .int (nI 0)), (0, .ref ob), (1, .int (nI q))]) hx hb dX1_magicLinesThrough_3 rfl hl (by decide) rfl (fun ls hl => ?_)
  have LP4 : ∀ (nn4 k : Nat), k ≤ (2 * n + 2) → (2 * n + 2) < k + nn4  → ∀ (H : Heap) (locs : List Loc), va_P D vwCl [(ob, .inr (1, [.int (nI n), .ref nu, .ref fr])), (nu, .inl (G 0, 16, .inl N)), (fr, .inl (G 0, 16, .inl Z))] H → va_D A [(ob, .inr (1, [.int (nI n), .ref nu, .ref fr])), (nu, .inl (G 0, 16, .inl N)), (fr, .inl (G 0, 16, .inl Z))] → va_S A s.heap H locs → ∀ ls : Array Slot, lv_has ls 4 [(2, .int (nI (ltm n N q k))), (3, .int (nI k)), (0, .ref ob), (1, .int (nI q))] → W pp l ee (rmA 3 66) s mm ([.ref ob, .int (nI q)] : List Value).toArray bl me cc H locs 0 0 (MQ bl (Qres (some (.int (nI (ltm n N q (2 * n + 2))))) D G [(ob, .inr (1, [.int (nI n), .ref nu, .ref fr])), (nu, .inl (G 0, 16, .inl N)), (fr, .inl (G 0, 16, .inl Z))] A) ([.ref ob, .int (nI q)] : List Value).toArray s 0 0 A) (F0 mm 4 ls []) := by
    intro nn4
    induction nn4 with
    | zero => intro k h1 h2; exact absurd h2 (by omega)
    | succ nn4 ih4 =>
      intro k hkk hnk  H locs hP hD hS ls hl
      refine lv_iload_n hx hb dX1_magicLinesThrough_4 rfl (lv_at hl 1 rfl) ?_
      refine lv_aload_n hx hb dX1_magicLinesThrough_5 rfl (lv_at hl 2 rfl) ?_
      refine cVr (As := []) (rest := [.int (nI k)]) ⟨hx, hb, hml, hown, hts⟩ hP hK hD hS hN hA (mX1_lines l D G ob nu fr n N Z (by first | assumption | omega)) (cwV 0 hts gX1_magicLinesThrough_X1_lines rfl rfl rfl (by decide +kernel) ⟨Nat.le_of_ble_eq_true rfl, Nat.le_of_ble_eq_true rfl⟩) [0, 1, 2] rfl (by decide) 0 1 rfl rfl rfl hl.1 rfl (Nat.le_of_ble_eq_true rfl) dX1_magicLinesThrough_6 ⟨Nat.zero_le _, Nat.zero_le _⟩ (fun H locs hP hS => ?_)
      refine bGe (tgt := 38) hx hb dX1_magicLinesThrough_9 (by decide) (by omega) (by omega) (fun c1 => ?_) (fun c1 => ?_)
      · obtain rfl : 2 * n + 2 = k := by omega
        refine lv_iload_n hx hb dX1_magicLinesThrough_38 rfl (lv_at hl 0 rfl) ?_
        exact rIret hx hb hr hlk hP hK hD hS dX1_magicLinesThrough_39
      · refine lv_aload_n hx hb dX1_magicLinesThrough_12 rfl (lv_at hl 2 rfl) ?_
        refine lv_iload_n hx hb dX1_magicLinesThrough_13 rfl (lv_at hl 1 rfl) ?_
        refine lv_iload_n hx hb dX1_magicLinesThrough_14 rfl (lv_at hl 3 rfl) ?_
        refine cVr (As := [.int (nI k), .int (nI q)]) (rest := []) ⟨hx, hb, hml, hown, hts⟩ hP hK hD hS hN hA (mX1_passesThrough l D G ob nu fr n N Z k q (by first | assumption | omega) (by first | assumption | omega) (by first | assumption | omega)) (cwV 2 hts gX1_magicLinesThrough_X1_passesThrough rfl rfl rfl (by decide +kernel) ⟨Nat.le_of_ble_eq_true rfl, Nat.le_of_ble_eq_true rfl⟩) [0, 1, 2] rfl (by decide) 0 1 rfl rfl rfl hl.1 rfl (Nat.le_of_ble_eq_true rfl) dX1_magicLinesThrough_15 ⟨Nat.zero_le _, Nat.zero_le _⟩ (fun H locs hP hS => ?_)
        refine zEq (tgt := 32) hx hb dX1_magicLinesThrough_18 (by decide)  (fun c2 => ?_) (fun c2 => ?_)
        · rw [show nI (ltm n N q k) = nI (ltm n N q (k + 1)) from by first | rw [ltm_t (by assumption) (by assumption)] | rw [ltm_f2 (by assumption)] | rw [ltm_f1 (by assumption)]] at hl
          refine lv_iinc (v := nI (k + 1)) (lv' := [(3, .int (nI (k + 1))), (2, .int (nI (ltm n N q (k + 1)))), (0, .ref ob), (1, .int (nI q))]) hx hb dX1_magicLinesThrough_32 hl (k := 1) rfl (nI_inc k) (by decide) rfl (fun ls hl => ?_)
          refine lv_goto (tgt := 4) hx hb dX1_magicLinesThrough_35 (by decide) ?_
          exact ih4 (k + 1) (by omega) (by omega)  _ _ hP hD hS _ (lv_sub hl [1, 0, 2, 3] rfl)
        · refine lv_aload_n hx hb dX1_magicLinesThrough_21 rfl (lv_at hl 2 rfl) ?_
          refine lv_iload_n hx hb dX1_magicLinesThrough_22 rfl (lv_at hl 1 rfl) ?_
          refine cVr (As := [.int (nI k)]) (rest := []) ⟨hx, hb, hml, hown, hts⟩ hP hK hD hS hN hA (mX1_isMagicLine l D G ob nu fr n N Z k (by first | assumption | omega) (by first | assumption | omega)) (cwV 1 hts gX1_magicLinesThrough_X1_isMagicLine rfl rfl rfl (by decide +kernel) ⟨Nat.le_of_ble_eq_true rfl, Nat.le_of_ble_eq_true rfl⟩) [0, 1, 2] rfl (by decide) 0 1 rfl rfl rfl hl.1 rfl (Nat.le_of_ble_eq_true rfl) dX1_magicLinesThrough_23 ⟨Nat.zero_le _, Nat.zero_le _⟩ (fun H locs hP hS => ?_)
          refine zEq (tgt := 32) hx hb dX1_magicLinesThrough_26 (by decide)  (fun c3 => ?_) (fun c3 => ?_)
          · rw [show nI (ltm n N q k) = nI (ltm n N q (k + 1)) from by first | rw [ltm_t (by assumption) (by assumption)] | rw [ltm_f2 (by assumption)] | rw [ltm_f1 (by assumption)]] at hl
            refine lv_iinc (v := nI (k + 1)) (lv' := [(3, .int (nI (k + 1))), (2, .int (nI (ltm n N q (k + 1)))), (0, .ref ob), (1, .int (nI q))]) hx hb dX1_magicLinesThrough_32 hl (k := 1) rfl (nI_inc k) (by decide) rfl (fun ls hl => ?_)
            refine lv_goto (tgt := 4) hx hb dX1_magicLinesThrough_35 (by decide) ?_
            exact ih4 (k + 1) (by omega) (by omega)  _ _ hP hD hS _ (lv_sub hl [1, 0, 2, 3] rfl)
          · refine lv_iinc (v := nI (ltm n N q k + 1)) (lv' := [(2, .int (nI (ltm n N q k + 1))), (3, .int (nI k)), (0, .ref ob), (1, .int (nI q))]) hx hb dX1_magicLinesThrough_29 hl (k := 0) rfl (nI_inc (ltm n N q k)) (by decide) rfl (fun ls hl => ?_)
            rw [show nI (ltm n N q k + 1) = nI (ltm n N q (k + 1)) from by first | rw [ltm_t (by assumption) (by assumption)] | rw [ltm_f2 (by assumption)] | rw [ltm_f1 (by assumption)]] at hl
            refine lv_iinc (v := nI (k + 1)) (lv' := [(3, .int (nI (k + 1))), (2, .int (nI (ltm n N q (k + 1)))), (0, .ref ob), (1, .int (nI q))]) hx hb dX1_magicLinesThrough_32 hl (k := 1) rfl (nI_inc k) (by decide) rfl (fun ls hl => ?_)
            refine lv_goto (tgt := 4) hx hb dX1_magicLinesThrough_35 (by decide) ?_
            exact ih4 (k + 1) (by omega) (by omega)  _ _ hP hD hS _ (lv_sub hl [1, 0, 2, 3] rfl)
  exact LP4 (2 * n + 2 + 1 - 0) 0 (by omega) (by omega)  _ _ hP hD hS _ (lv_sub hl [1, 0, 2, 3] rfl)

set_option maxHeartbeats 4000000 in
set_option maxRecDepth 100000 in
theorem mX1_magicLines (l : Launch) (D : va_G) (G : Nat → ClassId) (ob nu fr n : Nat) (N Z : Nat → Int32) (hn : n = 3 ∨ n = 4) : CT l yX1_magicLines wsX1_magicLines 3 66 D G [.ref ob] [(ob, .inr (1, [.int (nI n), .ref nu, .ref fr])), (nu, .inl (G 0, 16, .inl N)), (fr, .inl (G 0, 16, .inl Z))] [(ob, .inr (1, [.int (nI n), .ref nu, .ref fr])), (nu, .inl (G 0, 16, .inl N)), (fr, .inl (G 0, 16, .inl Z))] (some (.int (nI (mcn n N)))) := by
  refine CT.of (cc := cX1_magicLines) (maxL := 3) (ret := (some .int)) (by decide) rfl RX1 rfl (Nat.le_of_ble_eq_true rfl) (fun pp ee s mm bl me cc A ls hx hb hr hml hts hown hlk hnm hA hP hK hD hN hS hl => ?_)
  have hl : lv_has ls 3 [(0, .ref ob)] := hl
  have hP : va_P D vwCl [(ob, .inr (1, [.int (nI n), .ref nu, .ref fr])), (nu, .inl (G 0, 16, .inl N)), (fr, .inl (G 0, 16, .inl Z))] s.heap := hP
  refine lv_iconst (v := nI 0) hx hb dX1_magicLines_0 (by decide +kernel) ?_
  refine lv_istore_n (lv' := [(1, .int (nI 0)), (0, .ref ob)]) hx hb dX1_magicLines_1 rfl hl (by decide) rfl (fun ls hl => ?_)
  refine lv_iconst (v := nI 0) hx hb dX1_magicLines_2 (by decide +kernel) ?_
  refine lv_istore_n (lv' := [(2, .int (nI 0)), (1, .int (nI 0)), (0, .ref ob)]) hx hb dX1_magicLines_3 rfl hl (by decide) rfl (fun ls hl => ?_)
  have LP4 : ∀ (nn4 k : Nat), k ≤ (2 * n + 2) → (2 * n + 2) < k + nn4  → ∀ (H : Heap) (locs : List Loc), va_P D vwCl [(ob, .inr (1, [.int (nI n), .ref nu, .ref fr])), (nu, .inl (G 0, 16, .inl N)), (fr, .inl (G 0, 16, .inl Z))] H → va_D A [(ob, .inr (1, [.int (nI n), .ref nu, .ref fr])), (nu, .inl (G 0, 16, .inl N)), (fr, .inl (G 0, 16, .inl Z))] → va_S A s.heap H locs → ∀ ls : Array Slot, lv_has ls 3 [(1, .int (nI (mc n N k))), (2, .int (nI k)), (0, .ref ob)] → W pp l ee (rmA 3 66) s mm ([.ref ob] : List Value).toArray bl me cc H locs 0 0 (MQ bl (Qres (some (.int (nI (mcn n N)))) D G [(ob, .inr (1, [.int (nI n), .ref nu, .ref fr])), (nu, .inl (G 0, 16, .inl N)), (fr, .inl (G 0, 16, .inl Z))] A) ([.ref ob] : List Value).toArray s 0 0 A) (F0 mm 4 ls []) := by
    intro nn4
    induction nn4 with
    | zero => intro k h1 h2; exact absurd h2 (by omega)
    | succ nn4 ih4 =>
      intro k hkk hnk  H locs hP hD hS ls hl
      refine lv_iload_n hx hb dX1_magicLines_4 rfl (lv_at hl 1 rfl) ?_
      refine lv_aload_n hx hb dX1_magicLines_5 rfl (lv_at hl 2 rfl) ?_
      refine cVr (As := []) (rest := [.int (nI k)]) ⟨hx, hb, hml, hown, hts⟩ hP hK hD hS hN hA (mX1_lines l D G ob nu fr n N Z (by first | assumption | omega)) (cwV 0 hts gX1_magicLines_X1_lines rfl rfl rfl (by decide +kernel) ⟨Nat.le_of_ble_eq_true rfl, Nat.le_of_ble_eq_true rfl⟩) [0, 1, 2] rfl (by decide) 0 1 rfl rfl rfl hl.1 rfl (Nat.le_of_ble_eq_true rfl) dX1_magicLines_6 ⟨Nat.zero_le _, Nat.zero_le _⟩ (fun H locs hP hS => ?_)
      refine bGe (tgt := 29) hx hb dX1_magicLines_9 (by decide) (by omega) (by omega) (fun c1 => ?_) (fun c1 => ?_)
      · obtain rfl : 2 * n + 2 = k := by omega
        refine lv_iload_n hx hb dX1_magicLines_29 rfl (lv_at hl 0 rfl) ?_
        refine rTop (show nI (mc n N (2 * n + 2)) = nI (mcn n N) from rfl) ?_
        exact rIret hx hb hr hlk hP hK hD hS dX1_magicLines_30
      · refine lv_aload_n hx hb dX1_magicLines_12 rfl (lv_at hl 2 rfl) ?_
        refine lv_iload_n hx hb dX1_magicLines_13 rfl (lv_at hl 1 rfl) ?_
        refine cVr (As := [.int (nI k)]) (rest := []) ⟨hx, hb, hml, hown, hts⟩ hP hK hD hS hN hA (mX1_isMagicLine l D G ob nu fr n N Z k (by first | assumption | omega) (by first | assumption | omega)) (cwV 1 hts gX1_magicLines_X1_isMagicLine rfl rfl rfl (by decide +kernel) ⟨Nat.le_of_ble_eq_true rfl, Nat.le_of_ble_eq_true rfl⟩) [0, 1, 2] rfl (by decide) 0 1 rfl rfl rfl hl.1 rfl (Nat.le_of_ble_eq_true rfl) dX1_magicLines_14 ⟨Nat.zero_le _, Nat.zero_le _⟩ (fun H locs hP hS => ?_)
        refine zEq (tgt := 23) hx hb dX1_magicLines_17 (by decide)  (fun c2 => ?_) (fun c2 => ?_)
        · rw [show nI (mc n N k) = nI (mc n N (k + 1)) from by first | rw [mc_t (by assumption)] | rw [mc_f (by assumption)]] at hl
          refine lv_iinc (v := nI (k + 1)) (lv' := [(2, .int (nI (k + 1))), (1, .int (nI (mc n N (k + 1)))), (0, .ref ob)]) hx hb dX1_magicLines_23 hl (k := 1) rfl (nI_inc k) (by decide) rfl (fun ls hl => ?_)
          refine lv_goto (tgt := 4) hx hb dX1_magicLines_26 (by decide) ?_
          exact ih4 (k + 1) (by omega) (by omega)  _ _ hP hD hS _ (lv_sub hl [1, 0, 2] rfl)
        · refine lv_iinc (v := nI (mc n N k + 1)) (lv' := [(1, .int (nI (mc n N k + 1))), (2, .int (nI k)), (0, .ref ob)]) hx hb dX1_magicLines_20 hl (k := 0) rfl (nI_inc (mc n N k)) (by decide) rfl (fun ls hl => ?_)
          rw [show nI (mc n N k + 1) = nI (mc n N (k + 1)) from by first | rw [mc_t (by assumption)] | rw [mc_f (by assumption)]] at hl
          refine lv_iinc (v := nI (k + 1)) (lv' := [(2, .int (nI (k + 1))), (1, .int (nI (mc n N (k + 1)))), (0, .ref ob)]) hx hb dX1_magicLines_23 hl (k := 1) rfl (nI_inc k) (by decide) rfl (fun ls hl => ?_)
          refine lv_goto (tgt := 4) hx hb dX1_magicLines_26 (by decide) ?_
          exact ih4 (k + 1) (by omega) (by omega)  _ _ hP hD hS _ (lv_sub hl [1, 0, 2] rfl)
  exact LP4 (2 * n + 2 + 1 - 0) 0 (by omega) (by omega)  _ _ hP hD hS _ (lv_sub hl [1, 0, 2] rfl)

set_option maxHeartbeats 4000000 in
set_option maxRecDepth 100000 in
theorem mX1_isMagic (l : Launch) (D : va_G) (G : Nat → ClassId) (ob nu fr n : Nat) (N Z : Nat → Int32) (hn : n = 3 ∨ n = 4) : CT l yX1_isMagic wsX1_isMagic 4 88 D G [.ref ob] [(ob, .inr (1, [.int (nI n), .ref nu, .ref fr])), (nu, .inl (G 0, 16, .inl N)), (fr, .inl (G 0, 16, .inl Z))] [(ob, .inr (1, [.int (nI n), .ref nu, .ref fr])), (nu, .inl (G 0, 16, .inl N)), (fr, .inl (G 0, 16, .inl Z))] (some (.int (zB (decide (mcn n N = 2 * n + 2))))) := by
  refine CT.of (cc := cX1_isMagic) (maxL := 1) (ret := (some .boolean)) (by decide) rfl RX1 rfl (Nat.le_of_ble_eq_true rfl) (fun pp ee s mm bl me cc A ls hx hb hr hml hts hown hlk hnm hA hP hK hD hN hS hl => ?_)
  have hl : lv_has ls 1 [(0, .ref ob)] := hl
  have hP : va_P D vwCl [(ob, .inr (1, [.int (nI n), .ref nu, .ref fr])), (nu, .inl (G 0, 16, .inl N)), (fr, .inl (G 0, 16, .inl Z))] s.heap := hP
  have hm := mc_le n N (2 * n + 2)
  have hm2 : mcn n N ≤ 2 * n + 2 := hm
  refine lv_aload_n hx hb dX1_isMagic_0 rfl (lv_at hl 0 rfl) ?_
  refine cVr (As := []) (rest := []) ⟨hx, hb, hml, hown, hts⟩ hP hK hD hS hN hA (mX1_magicLines l D G ob nu fr n N Z (by first | assumption | omega)) (cwV 0 hts gX1_isMagic_X1_magicLines rfl rfl rfl (by decide +kernel) ⟨Nat.le_of_ble_eq_true rfl, Nat.le_of_ble_eq_true rfl⟩) [0, 1, 2] rfl (by decide) 0 1 rfl rfl rfl hl.1 rfl (Nat.le_of_ble_eq_true rfl) dX1_isMagic_1 ⟨Nat.zero_le _, Nat.zero_le _⟩ (fun H locs hP hS => ?_)
  refine lv_aload_n hx hb dX1_isMagic_4 rfl (lv_at hl 0 rfl) ?_
  refine cVr (As := []) (rest := [.int (nI (mcn n N))]) ⟨hx, hb, hml, hown, hts⟩ hP hK hD hS hN hA (mX1_lines l D G ob nu fr n N Z (by first | assumption | omega)) (cwV 0 hts gX1_isMagic_X1_lines rfl rfl rfl (by decide +kernel) ⟨Nat.le_of_ble_eq_true rfl, Nat.le_of_ble_eq_true rfl⟩) [0, 1, 2] rfl (by decide) 0 1 rfl rfl rfl hl.1 rfl (Nat.le_of_ble_eq_true rfl) dX1_isMagic_5 ⟨Nat.zero_le _, Nat.zero_le _⟩ (fun H locs hP hS => ?_)
  refine bNe (tgt := 15) hx hb dX1_isMagic_8 (by decide) (by omega) (by omega) (fun c1 => ?_) (fun c1 => ?_)
  · refine lv_iconst (v := nI 0) hx hb dX1_isMagic_15 (by decide +kernel) ?_
    refine rTop (zB_0 (b := decide (mcn n N = 2 * n + 2)) (by first | exact decide_eq_true (by assumption) | exact decide_eq_false (by assumption))) ?_
    exact rZret hx hb hr hlk hP hK hD hS dX1_isMagic_16
  · refine lv_iconst (v := nI 1) hx hb dX1_isMagic_11 (by decide +kernel) ?_
    refine lv_goto (tgt := 16) hx hb dX1_isMagic_12 (by decide) ?_
    refine rTop (zB_1 (b := decide (mcn n N = 2 * n + 2)) (by first | exact decide_eq_true (by assumption) | exact decide_eq_false (by assumption))) ?_
    exact rZret hx hb hr hlk hP hK hD hS dX1_isMagic_16

set_option maxHeartbeats 4000000 in
set_option maxRecDepth 100000 in
theorem mX1_wayOff (l : Launch) (D : va_G) (G : Nat → ClassId) (ob nu fr n : Nat) (N Z : Nat → Int32) (hn : n = 3 ∨ n = 4) : CT l yX1_wayOff wsX1_wayOff 3 66 D G [.ref ob] [(ob, .inr (1, [.int (nI n), .ref nu, .ref fr])), (nu, .inl (G 0, 16, .inl N)), (fr, .inl (G 0, 16, .inl Z))] [(ob, .inr (1, [.int (nI n), .ref nu, .ref fr])), (nu, .inl (G 0, 16, .inl N)), (fr, .inl (G 0, 16, .inl Z))] (some (.int (wof n N))) := by
  refine CT.of (cc := cX1_wayOff) (maxL := 3) (ret := (some .int)) (by decide) rfl RX1 rfl (Nat.le_of_ble_eq_true rfl) (fun pp ee s mm bl me cc A ls hx hb hr hml hts hown hlk hnm hA hP hK hD hN hS hl => ?_)
  have hl : lv_has ls 3 [(0, .ref ob)] := hl
  have hP : va_P D vwCl [(ob, .inr (1, [.int (nI n), .ref nu, .ref fr])), (nu, .inl (G 0, 16, .inl N)), (fr, .inl (G 0, 16, .inl Z))] s.heap := hP
  refine lv_iconst (v := nI 0) hx hb dX1_wayOff_0 (by decide +kernel) ?_
  refine lv_istore_n (lv' := [(1, .int (nI 0)), (0, .ref ob)]) hx hb dX1_wayOff_1 rfl hl (by decide) rfl (fun ls hl => ?_)
  refine lv_iconst (v := nI 0) hx hb dX1_wayOff_2 (by decide +kernel) ?_
  refine lv_istore_n (lv' := [(2, .int (nI 0)), (1, .int (nI 0)), (0, .ref ob)]) hx hb dX1_wayOff_3 rfl hl (by decide) rfl (fun ls hl => ?_)
  have LP4 : ∀ (nn4 k : Nat), k ≤ (2 * n + 2) → (2 * n + 2) < k + nn4  → ∀ (H : Heap) (locs : List Loc), va_P D vwCl [(ob, .inr (1, [.int (nI n), .ref nu, .ref fr])), (nu, .inl (G 0, 16, .inl N)), (fr, .inl (G 0, 16, .inl Z))] H → va_D A [(ob, .inr (1, [.int (nI n), .ref nu, .ref fr])), (nu, .inl (G 0, 16, .inl N)), (fr, .inl (G 0, 16, .inl Z))] → va_S A s.heap H locs → ∀ ls : Array Slot, lv_has ls 3 [(1, .int (wo n N k)), (2, .int (nI k)), (0, .ref ob)] → W pp l ee (rmA 3 66) s mm ([.ref ob] : List Value).toArray bl me cc H locs 0 0 (MQ bl (Qres (some (.int (wof n N))) D G [(ob, .inr (1, [.int (nI n), .ref nu, .ref fr])), (nu, .inl (G 0, 16, .inl N)), (fr, .inl (G 0, 16, .inl Z))] A) ([.ref ob] : List Value).toArray s 0 0 A) (F0 mm 4 ls []) := by
    intro nn4
    induction nn4 with
    | zero => intro k h1 h2; exact absurd h2 (by omega)
    | succ nn4 ih4 =>
      intro k hkk hnk  H locs hP hD hS ls hl
      refine lv_iload_n hx hb dX1_wayOff_4 rfl (lv_at hl 1 rfl) ?_
      refine lv_aload_n hx hb dX1_wayOff_5 rfl (lv_at hl 2 rfl) ?_
      refine cVr (As := []) (rest := [.int (nI k)]) ⟨hx, hb, hml, hown, hts⟩ hP hK hD hS hN hA (mX1_lines l D G ob nu fr n N Z (by first | assumption | omega)) (cwV 0 hts gX1_wayOff_X1_lines rfl rfl rfl (by decide +kernel) ⟨Nat.le_of_ble_eq_true rfl, Nat.le_of_ble_eq_true rfl⟩) [0, 1, 2] rfl (by decide) 0 1 rfl rfl rfl hl.1 rfl (Nat.le_of_ble_eq_true rfl) dX1_wayOff_6 ⟨Nat.zero_le _, Nat.zero_le _⟩ (fun H locs hP hS => ?_)
      refine bGe (tgt := 26) hx hb dX1_wayOff_9 (by decide) (by omega) (by omega) (fun c1 => ?_) (fun c1 => ?_)
      · obtain rfl : 2 * n + 2 = k := by omega
        refine lv_iload_n hx hb dX1_wayOff_26 rfl (lv_at hl 0 rfl) ?_
        refine rTop (show wo n N (2 * n + 2) = wof n N from rfl) ?_
        exact rIret hx hb hr hlk hP hK hD hS dX1_wayOff_27
      · refine lv_iload_n hx hb dX1_wayOff_12 rfl (lv_at hl 0 rfl) ?_
        refine lv_aload_n hx hb dX1_wayOff_13 rfl (lv_at hl 2 rfl) ?_
        refine lv_iload_n hx hb dX1_wayOff_14 rfl (lv_at hl 1 rfl) ?_
        refine cVr (As := [.int (nI k)]) (rest := [.int (wo n N k)]) ⟨hx, hb, hml, hown, hts⟩ hP hK hD hS hN hA (mX1_differenceOf l D G ob nu fr n N Z k (by first | assumption | omega) (by first | assumption | omega)) (cwV 1 hts gX1_wayOff_X1_differenceOf rfl rfl rfl (by decide +kernel) ⟨Nat.le_of_ble_eq_true rfl, Nat.le_of_ble_eq_true rfl⟩) [0, 1, 2] rfl (by decide) 0 1 rfl rfl rfl hl.1 rfl (Nat.le_of_ble_eq_true rfl) dX1_wayOff_15 ⟨Nat.zero_le _, Nat.zero_le _⟩ (fun H locs hP hS => ?_)
        refine lv_iadd hx hb dX1_wayOff_18 ?_
        refine lv_istore_n (lv' := [(1, .int (wo n N k + dfL n N k)), (2, .int (nI k)), (0, .ref ob)]) hx hb dX1_wayOff_19 rfl hl (by decide) rfl (fun ls hl => ?_)
        refine lv_iinc (v := nI (k + 1)) (lv' := [(2, .int (nI (k + 1))), (1, .int (wo n N k + dfL n N k)), (0, .ref ob)]) hx hb dX1_wayOff_20 hl (k := 1) rfl (nI_inc k) (by decide) rfl (fun ls hl => ?_)
        refine lv_goto (tgt := 4) hx hb dX1_wayOff_23 (by decide) ?_
        exact ih4 (k + 1) (by omega) (by omega)  _ _ hP hD hS _ (lv_sub hl [1, 0, 2] rfl)
  exact LP4 (2 * n + 2 + 1 - 0) 0 (by omega) (by omega)  _ _ hP hD hS _ (lv_sub hl [1, 0, 2] rfl)

set_option maxHeartbeats 4000000 in
set_option maxRecDepth 100000 in
theorem mX1_exchange (l : Launch) (D : va_G) (G : Nat → ClassId) (ob nu fr n : Nat) (N Z : Nat → Int32) (a b : Nat) (hn : n = 3 ∨ n = 4) (ha : a < 16) (hb2 : b < 16) : CT l yX1_exchange wsX1_exchange 0 0 D G [.ref ob, .int (nI a), .int (nI b)] [(ob, .inr (1, [.int (nI n), .ref nu, .ref fr])), (nu, .inl (G 0, 16, .inl N)), (fr, .inl (G 0, 16, .inl Z))] [(ob, .inr (1, [.int (nI n), .ref nu, .ref fr])), (nu, .inl (G 0, 16, .inl (ex N a b))), (fr, .inl (G 0, 16, .inl Z))] none := by
  refine CT.of (cc := cX1_exchange) (maxL := 4) (ret := none) (by decide) rfl RX1 rfl (Nat.le_of_ble_eq_true rfl) (fun pp ee s mm bl me cc A ls hx hb hr hml hts hown hlk hnm hA hP hK hD hN hS hl => ?_)
  have hl : lv_has ls 4 [(0, .ref ob), (1, .int (nI a)), (2, .int (nI b))] := hl
  have hP : va_P D vwCl [(ob, .inr (1, [.int (nI n), .ref nu, .ref fr])), (nu, .inl (G 0, 16, .inl N)), (fr, .inl (G 0, 16, .inl Z))] s.heap := hP
  have inX1 : ∀ w ∈ wsX10, w ∈ wsX1_exchange := fun w h => List.mem_cons_of_mem _ (List.mem_append_right _ h)
  have k15 := hts (.fieldLink RX1 15 "SquareStakes$Square" "numbers" "[I") (List.mem_of_getElem? (i := 1) rfl)
  refine lv_iload_n hx hb dX1_exchange_0 rfl (lv_at hl 1 rfl) ?_
  refine iLt (tgt := 26) hx hb dX1_exchange_1 (by decide) (by omega) ?_
  refine lv_iload_n hx hb dX1_exchange_4 rfl (lv_at hl 1 rfl) ?_
  refine lv_aload_n hx hb dX1_exchange_5 rfl (lv_at hl 0 rfl) ?_
  refine va_get (D := D) (ci := 1) (v := .ref nu) (C := RX1) (T := TX1) (N := 3) hx hb hts inX1 hown hK hP 0 rfl rfl 1 (by decide) k15 (fun _ h9 => h9) rfl dX1_exchange_6 ?_
  refine va_alen (v := nI 16) hx hb hK hP 1 0 rfl rfl rfl dX1_exchange_9 ?_
  refine bGe (tgt := 26) hx hb dX1_exchange_10 (by decide) (by omega) (by omega) (fun c2 => by exfalso; omega) (fun c2 => ?_)
  refine lv_iload_n hx hb dX1_exchange_13 rfl (lv_at hl 2 rfl) ?_
  refine iLt (tgt := 26) hx hb dX1_exchange_14 (by decide) (by omega) ?_
  refine lv_iload_n hx hb dX1_exchange_17 rfl (lv_at hl 2 rfl) ?_
  refine lv_aload_n hx hb dX1_exchange_18 rfl (lv_at hl 0 rfl) ?_
  refine va_get (D := D) (ci := 1) (v := .ref nu) (C := RX1) (T := TX1) (N := 3) hx hb hts inX1 hown hK hP 0 rfl rfl 1 (by decide) k15 (fun _ h9 => h9) rfl dX1_exchange_19 ?_
  refine va_alen (v := nI 16) hx hb hK hP 1 0 rfl rfl rfl dX1_exchange_22 ?_
  refine bLt (tgt := 27) hx hb dX1_exchange_23 (by decide) (by omega) (by omega) (fun c4 => ?_) (fun c4 => by exfalso; omega)
  refine lv_aload_n hx hb dX1_exchange_27 rfl (lv_at hl 0 rfl) ?_
  refine va_get (D := D) (ci := 1) (v := .ref nu) (C := RX1) (T := TX1) (N := 3) hx hb hts inX1 hown hK hP 0 rfl rfl 1 (by decide) k15 (fun _ h9 => h9) rfl dX1_exchange_28 ?_
  refine lv_iload_n hx hb dX1_exchange_31 rfl (lv_at hl 1 rfl) ?_
  refine rIald hx hb hK hP 1 rfl a (by omega) (by decide) dX1_exchange_32 ?_
  refine lv_istore_n (lv' := [(3, .int (N a)), (0, .ref ob), (1, .int (nI a)), (2, .int (nI b))]) hx hb dX1_exchange_33 rfl hl (by decide) rfl (fun ls hl => ?_)
  refine lv_aload_n hx hb dX1_exchange_34 rfl (lv_at hl 1 rfl) ?_
  refine va_get (D := D) (ci := 1) (v := .ref nu) (C := RX1) (T := TX1) (N := 3) hx hb hts inX1 hown hK hP 0 rfl rfl 1 (by decide) k15 (fun _ h9 => h9) rfl dX1_exchange_35 ?_
  refine lv_iload_n hx hb dX1_exchange_38 rfl (lv_at hl 2 rfl) ?_
  refine lv_aload_n hx hb dX1_exchange_39 rfl (lv_at hl 1 rfl) ?_
  refine va_get (D := D) (ci := 1) (v := .ref nu) (C := RX1) (T := TX1) (N := 3) hx hb hts inX1 hown hK hP 0 rfl rfl 1 (by decide) k15 (fun _ h9 => h9) rfl dX1_exchange_40 ?_
  refine lv_iload_n hx hb dX1_exchange_43 rfl (lv_at hl 3 rfl) ?_
  refine rIald hx hb hK hP 1 rfl b (by omega) (by decide) dX1_exchange_44 ?_
  refine rIast hx hb hK hP hD hS 1 rfl a (by omega) (by decide) dX1_exchange_45 (fun H locs hP hD hS => ?_)
  have hP : va_P D vwCl [(ob, .inr (1, [.int (nI n), .ref nu, .ref fr])), (nu, .inl (G 0, 16, .inl (upd N a (N b)))), (fr, .inl (G 0, 16, .inl Z))] H := hP
  have hD : va_D A [(ob, .inr (1, [.int (nI n), .ref nu, .ref fr])), (nu, .inl (G 0, 16, .inl (upd N a (N b)))), (fr, .inl (G 0, 16, .inl Z))] := hD
  refine lv_aload_n hx hb dX1_exchange_46 rfl (lv_at hl 1 rfl) ?_
  refine va_get (D := D) (ci := 1) (v := .ref nu) (C := RX1) (T := TX1) (N := 3) hx hb hts inX1 hown hK hP 0 rfl rfl 1 (by decide) k15 (fun _ h9 => h9) rfl dX1_exchange_47 ?_
  refine lv_iload_n hx hb dX1_exchange_50 rfl (lv_at hl 3 rfl) ?_
  refine lv_iload_n hx hb dX1_exchange_51 rfl (lv_at hl 0 rfl) ?_
  refine rIast hx hb hK hP hD hS 1 rfl b (by omega) (by decide) dX1_exchange_52 (fun H locs hP hD hS => ?_)
  have hP : va_P D vwCl [(ob, .inr (1, [.int (nI n), .ref nu, .ref fr])), (nu, .inl (G 0, 16, .inl (upd (upd N a (N b)) b (N a)))), (fr, .inl (G 0, 16, .inl Z))] H := hP
  have hD : va_D A [(ob, .inr (1, [.int (nI n), .ref nu, .ref fr])), (nu, .inl (G 0, 16, .inl (upd (upd N a (N b)) b (N a)))), (fr, .inl (G 0, 16, .inl Z))] := hD
  obtain ⟨hP, hD⟩ := wI (g := ex N a b) hP hD 1 rfl (fun j hj => rfl)
  replace hP : va_P D vwCl [(ob, .inr (1, [.int (nI n), .ref nu, .ref fr])), (nu, .inl (G 0, 16, .inl (ex N a b))), (fr, .inl (G 0, 16, .inl Z))] _ := hP
  have hD : va_D A [(ob, .inr (1, [.int (nI n), .ref nu, .ref fr])), (nu, .inl (G 0, 16, .inl (ex N a b))), (fr, .inl (G 0, 16, .inl Z))] := hD
  exact rVret hx hb hr hlk hP hK hD hS dX1_exchange_53

set_option maxHeartbeats 4000000 in
set_option maxRecDepth 100000 in
theorem mX1_wayOffBehind (l : Launch) (D : va_G) (G : Nat → ClassId) (ob nu fr n : Nat) (N Z : Nat → Int32) (a b : Nat) (hn : n = 3 ∨ n = 4) (ha : a < 16) (hb2 : b < 16) : CT l yX1_wayOffBehind wsX1_wayOffBehind 4 88 D G [.ref ob, .int (nI a), .int (nI b)] [(ob, .inr (1, [.int (nI n), .ref nu, .ref fr])), (nu, .inl (G 0, 16, .inl N)), (fr, .inl (G 0, 16, .inl Z))] [(ob, .inr (1, [.int (nI n), .ref nu, .ref fr])), (nu, .inl (G 0, 16, .inl N)), (fr, .inl (G 0, 16, .inl Z))] (some (.int (wof n (ex N a b)))) := by
  refine CT.of (cc := cX1_wayOffBehind) (maxL := 4) (ret := (some .int)) (by decide) rfl RX1 rfl (Nat.le_of_ble_eq_true rfl) (fun pp ee s mm bl me cc A ls hx hb hr hml hts hown hlk hnm hA hP hK hD hN hS hl => ?_)
  have hl : lv_has ls 4 [(0, .ref ob), (1, .int (nI a)), (2, .int (nI b))] := hl
  have hP : va_P D vwCl [(ob, .inr (1, [.int (nI n), .ref nu, .ref fr])), (nu, .inl (G 0, 16, .inl N)), (fr, .inl (G 0, 16, .inl Z))] s.heap := hP
  refine lv_aload_n hx hb dX1_wayOffBehind_0 rfl (lv_at hl 0 rfl) ?_
  refine lv_iload_n hx hb dX1_wayOffBehind_1 rfl (lv_at hl 1 rfl) ?_
  refine lv_iload_n hx hb dX1_wayOffBehind_2 rfl (lv_at hl 2 rfl) ?_
  refine cV (As := [.int (nI a), .int (nI b)]) (rest := []) ⟨hx, hb, hml, hown, hts⟩ hP hK hD hS hN hA (mX1_exchange l D G ob nu fr n N Z a b (by first | assumption | omega) (by first | assumption | omega) (by first | assumption | omega)) (cwV 2 hts gX1_wayOffBehind_X1_exchange rfl rfl rfl (by decide +kernel) ⟨Nat.le_of_ble_eq_true rfl, Nat.le_of_ble_eq_true rfl⟩) [0, 1, 2] rfl (by decide) rfl 0 1 rfl rfl rfl hl.1 rfl (Nat.le_of_ble_eq_true rfl) dX1_wayOffBehind_3 ⟨Nat.zero_le _, Nat.zero_le _⟩ (fun H locs hP hD hS => ?_)
  have hP : va_P D vwCl [(ob, .inr (1, [.int (nI n), .ref nu, .ref fr])), (nu, .inl (G 0, 16, .inl (ex N a b))), (fr, .inl (G 0, 16, .inl Z))] H := hP
  have hD : va_D A [(ob, .inr (1, [.int (nI n), .ref nu, .ref fr])), (nu, .inl (G 0, 16, .inl (ex N a b))), (fr, .inl (G 0, 16, .inl Z))] := hD
  refine lv_aload_n hx hb dX1_wayOffBehind_6 rfl (lv_at hl 0 rfl) ?_
  refine cVr (As := []) (rest := []) ⟨hx, hb, hml, hown, hts⟩ hP hK hD hS hN hA (mX1_wayOff l D G ob nu fr n (ex N a b) Z (by first | assumption | omega)) (cwV 0 hts gX1_wayOffBehind_X1_wayOff rfl rfl rfl (by decide +kernel) ⟨Nat.le_of_ble_eq_true rfl, Nat.le_of_ble_eq_true rfl⟩) [0, 1, 2] rfl (by decide) 0 1 rfl rfl rfl hl.1 rfl (Nat.le_of_ble_eq_true rfl) dX1_wayOffBehind_7 ⟨Nat.zero_le _, Nat.zero_le _⟩ (fun H locs hP hS => ?_)
  refine lv_istore_n (lv' := [(3, .int (wof n (ex N a b))), (0, .ref ob), (1, .int (nI a)), (2, .int (nI b))]) hx hb dX1_wayOffBehind_10 rfl hl (by decide) rfl (fun ls hl => ?_)
  refine lv_aload_n hx hb dX1_wayOffBehind_11 rfl (lv_at hl 1 rfl) ?_
  refine lv_iload_n hx hb dX1_wayOffBehind_12 rfl (lv_at hl 2 rfl) ?_
  refine lv_iload_n hx hb dX1_wayOffBehind_13 rfl (lv_at hl 3 rfl) ?_
  refine cV (As := [.int (nI a), .int (nI b)]) (rest := []) ⟨hx, hb, hml, hown, hts⟩ hP hK hD hS hN hA (mX1_exchange l D G ob nu fr n (ex N a b) Z a b (by first | assumption | omega) (by first | assumption | omega) (by first | assumption | omega)) (cwV 2 hts gX1_wayOffBehind_X1_exchange rfl rfl rfl (by decide +kernel) ⟨Nat.le_of_ble_eq_true rfl, Nat.le_of_ble_eq_true rfl⟩) [0, 1, 2] rfl (by decide) rfl 0 1 rfl rfl rfl hl.1 rfl (Nat.le_of_ble_eq_true rfl) dX1_wayOffBehind_14 ⟨Nat.zero_le _, Nat.zero_le _⟩ (fun H locs hP hD hS => ?_)
  have hP : va_P D vwCl [(ob, .inr (1, [.int (nI n), .ref nu, .ref fr])), (nu, .inl (G 0, 16, .inl (ex (ex N a b) a b))), (fr, .inl (G 0, 16, .inl Z))] H := hP
  have hD : va_D A [(ob, .inr (1, [.int (nI n), .ref nu, .ref fr])), (nu, .inl (G 0, 16, .inl (ex (ex N a b) a b))), (fr, .inl (G 0, 16, .inl Z))] := hD
  refine lv_iload_n hx hb dX1_wayOffBehind_17 rfl (lv_at hl 0 rfl) ?_
  obtain ⟨hP, hD⟩ := wI (g := N) hP hD 1 rfl (fun j hj => ex_ex N a b j)
  replace hP : va_P D vwCl [(ob, .inr (1, [.int (nI n), .ref nu, .ref fr])), (nu, .inl (G 0, 16, .inl N)), (fr, .inl (G 0, 16, .inl Z))] _ := hP
  have hD : va_D A [(ob, .inr (1, [.int (nI n), .ref nu, .ref fr])), (nu, .inl (G 0, 16, .inl N)), (fr, .inl (G 0, 16, .inl Z))] := hD
  exact rIret hx hb hr hlk hP hK hD hS dX1_wayOffBehind_18

set_option maxHeartbeats 4000000 in
set_option maxRecDepth 100000 in
theorem mX1_bestSwap (l : Launch) (D : va_G) (G : Nat → ClassId) (ob nu fr n : Nat) (N Z : Nat → Int32) (hn : n = 3 ∨ n = 4) : CT l yX1_bestSwap wsX1_bestSwap 5 111 D G [.ref ob] [(ob, .inr (1, [.int (nI n), .ref nu, .ref fr])), (nu, .inl (G 0, 16, .inl N)), (fr, .inl (G 0, 16, .inl Z))] [(ob, .inr (1, [.int (nI n), .ref nu, .ref fr])), (nu, .inl (G 0, 16, .inl N)), (fr, .inl (G 0, 16, .inl Z))] (some (.int ((bou n N Z (n * n)).1))) := by
  refine CT.of (cc := cX1_bestSwap) (maxL := 6) (ret := (some .int)) (by decide) rfl RX1 rfl (Nat.le_of_ble_eq_true rfl) (fun pp ee s mm bl me cc A ls hx hb hr hml hts hown hlk hnm hA hP hK hD hN hS hl => ?_)
  have hl : lv_has ls 6 [(0, .ref ob)] := hl
  have hP : va_P D vwCl [(ob, .inr (1, [.int (nI n), .ref nu, .ref fr])), (nu, .inl (G 0, 16, .inl N)), (fr, .inl (G 0, 16, .inl Z))] s.heap := hP
  have hq9 : n * n < 17 ∧ 0 < n * n := by rcases hn with rfl | rfl <;> decide
  refine lv_bipush (v := -5) hx hb dX1_bestSwap_0 (by decide +kernel) ?_
  refine lv_istore_n (lv' := [(1, .int (-5)), (0, .ref ob)]) hx hb dX1_bestSwap_2 rfl hl (by decide) rfl (fun ls hl => ?_)
  refine lv_iconst (v := nI 0) hx hb dX1_bestSwap_3 (by decide +kernel) ?_
  refine lv_istore_n (lv' := [(2, .int (nI 0)), (1, .int (-5)), (0, .ref ob)]) hx hb dX1_bestSwap_4 rfl hl (by decide) rfl (fun ls hl => ?_)
  refine lv_iconst (v := nI 0) hx hb dX1_bestSwap_5 (by decide +kernel) ?_
  refine lv_istore_n (lv' := [(3, .int (nI 0)), (2, .int (nI 0)), (1, .int (-5)), (0, .ref ob)]) hx hb dX1_bestSwap_6 rfl hl (by decide) rfl (fun ls hl => ?_)
  have LP7 : ∀ (nn7 a : Nat), a ≤ (n * n) → (n * n) < a + nn7  → ∀ (H : Heap) (locs : List Loc), va_P D vwCl [(ob, .inr (1, [.int (nI n), .ref nu, .ref fr])), (nu, .inl (G 0, 16, .inl N)), (fr, .inl (G 0, 16, .inl Z))] H → va_D A [(ob, .inr (1, [.int (nI n), .ref nu, .ref fr])), (nu, .inl (G 0, 16, .inl N)), (fr, .inl (G 0, 16, .inl Z))] → va_S A s.heap H locs → ∀ ls : Array Slot, lv_has ls 6 [(1, .int ((bou n N Z a).1)), (2, .int ((bou n N Z a).2)), (3, .int (nI a)), (0, .ref ob)] → W pp l ee (rmA 5 111) s mm ([.ref ob] : List Value).toArray bl me cc H locs 0 0 (MQ bl (Qres (some (.int ((bou n N Z (n * n)).1))) D G [(ob, .inr (1, [.int (nI n), .ref nu, .ref fr])), (nu, .inl (G 0, 16, .inl N)), (fr, .inl (G 0, 16, .inl Z))] A) ([.ref ob] : List Value).toArray s 0 0 A) (F0 mm 7 ls []) := by
    intro nn7
    induction nn7 with
    | zero => intro a h1 h2; exact absurd h2 (by omega)
    | succ nn7 ih7 =>
      intro a hka hna  H locs hP hD hS ls hl
      refine lv_iload_n hx hb dX1_bestSwap_7 rfl (lv_at hl 2 rfl) ?_
      refine lv_aload_n hx hb dX1_bestSwap_8 rfl (lv_at hl 3 rfl) ?_
      refine cVr (As := []) (rest := [.int (nI a)]) ⟨hx, hb, hml, hown, hts⟩ hP hK hD hS hN hA (mX1_cells l D G ob nu fr n N Z (by first | assumption | omega)) (cwV 0 hts gX1_bestSwap_X1_cells rfl rfl rfl (by decide +kernel) ⟨Nat.le_of_ble_eq_true rfl, Nat.le_of_ble_eq_true rfl⟩) [0, 1, 2] rfl (by decide) 0 1 rfl rfl rfl hl.1 rfl (Nat.le_of_ble_eq_true rfl) dX1_bestSwap_9 ⟨Nat.zero_le _, Nat.zero_le _⟩ (fun H locs hP hS => ?_)
      refine bGe (tgt := 93) hx hb dX1_bestSwap_12 (by decide) (by omega) (by omega) (fun c1 => ?_) (fun c1 => ?_)
      · obtain rfl : n * n = a := by omega
        refine lv_iload_n hx hb dX1_bestSwap_93 rfl (lv_at hl 0 rfl) ?_
        exact rIret hx hb hr hlk hP hK hD hS dX1_bestSwap_94
      · refine lv_iload_n hx hb dX1_bestSwap_15 rfl (lv_at hl 2 rfl) ?_
        refine lv_iconst (v := nI 1) hx hb dX1_bestSwap_16 (by decide +kernel) ?_
        refine lv_iadd hx hb dX1_bestSwap_17 ?_
        refine rTop (show nI a + nI 1 = nI (a + 1) from nI_add a 1) ?_
        refine lv_istore (lv' := [(4, .int (nI (a + 1))), (1, .int ((bou n N Z a).1)), (2, .int ((bou n N Z a).2)), (3, .int (nI a)), (0, .ref ob)]) hx hb dX1_bestSwap_18 hl (by decide) rfl (fun ls hl => ?_)
        have LP20 : ∀ (nn20 d : Nat), d ≤ (n * n - (a + 1)) → (n * n - (a + 1)) < d + nn20  → ∀ (H : Heap) (locs : List Loc), va_P D vwCl [(ob, .inr (1, [.int (nI n), .ref nu, .ref fr])), (nu, .inl (G 0, 16, .inl N)), (fr, .inl (G 0, 16, .inl Z))] H → va_D A [(ob, .inr (1, [.int (nI n), .ref nu, .ref fr])), (nu, .inl (G 0, 16, .inl N)), (fr, .inl (G 0, 16, .inl Z))] → va_S A s.heap H locs → ∀ ls : Array Slot, lv_has ls 6 [(1, .int ((bin n N Z a (bou n N Z a) d).1)), (2, .int ((bin n N Z a (bou n N Z a) d).2)), (4, .int (nI (a + 1 + d))), (3, .int (nI a)), (0, .ref ob)] → W pp l ee (rmA 5 111) s mm ([.ref ob] : List Value).toArray bl me cc H locs 0 0 (MQ bl (Qres (some (.int ((bou n N Z (n * n)).1))) D G [(ob, .inr (1, [.int (nI n), .ref nu, .ref fr])), (nu, .inl (G 0, 16, .inl N)), (fr, .inl (G 0, 16, .inl Z))] A) ([.ref ob] : List Value).toArray s 0 0 A) (F0 mm 20 ls []) := by
          intro nn20
          induction nn20 with
          | zero => intro d h1 h2; exact absurd h2 (by omega)
          | succ nn20 ih20 =>
            intro d hkd hnd  H locs hP hD hS ls hl
            refine lv_iload hx hb dX1_bestSwap_20 (lv_at hl 2 rfl) ?_
            refine lv_aload_n hx hb dX1_bestSwap_22 rfl (lv_at hl 4 rfl) ?_
            refine cVr (As := []) (rest := [.int (nI (a + 1 + d))]) ⟨hx, hb, hml, hown, hts⟩ hP hK hD hS hN hA (mX1_cells l D G ob nu fr n N Z (by first | assumption | omega)) (cwV 0 hts gX1_bestSwap_X1_cells rfl rfl rfl (by decide +kernel) ⟨Nat.le_of_ble_eq_true rfl, Nat.le_of_ble_eq_true rfl⟩) [0, 1, 2] rfl (by decide) 0 1 rfl rfl rfl hl.1 rfl (Nat.le_of_ble_eq_true rfl) dX1_bestSwap_23 ⟨Nat.zero_le _, Nat.zero_le _⟩ (fun H locs hP hS => ?_)
            refine bGe (tgt := 87) hx hb dX1_bestSwap_26 (by decide) (by omega) (by omega) (fun c2 => ?_) (fun c2 => ?_)
            · obtain rfl : n * n - (a + 1) = d := by omega
              refine lv_iinc (v := nI (a + 1)) (lv' := [(3, .int (nI (a + 1))), (1, .int ((bin n N Z a (bou n N Z a) (n * n - (a + 1))).1)), (2, .int ((bin n N Z a (bou n N Z a) (n * n - (a + 1))).2)), (4, .int (nI (a + 1 + (n * n - (a + 1))))), (0, .ref ob)]) hx hb dX1_bestSwap_87 hl (k := 3) rfl (nI_inc a) (by decide) rfl (fun ls hl => ?_)
              refine lv_goto (tgt := 7) hx hb dX1_bestSwap_90 (by decide) ?_
              exact ih7 (a + 1) (by omega) (by omega)  _ _ hP hD hS _ (lv_sub hl [1, 2, 0, 4] rfl)
            · refine lv_aload_n hx hb dX1_bestSwap_29 rfl (lv_at hl 4 rfl) ?_
              refine lv_iload_n hx hb dX1_bestSwap_30 rfl (lv_at hl 3 rfl) ?_
              refine cVr (As := [.int (nI a)]) (rest := []) ⟨hx, hb, hml, hown, hts⟩ hP hK hD hS hN hA (mX1_isFrozen l D G ob nu fr n N Z a (by first | assumption | omega) (by first | assumption | omega)) (cwV 1 hts gX1_bestSwap_X1_isFrozen rfl rfl rfl (by decide +kernel) ⟨Nat.le_of_ble_eq_true rfl, Nat.le_of_ble_eq_true rfl⟩) [0, 1, 2] rfl (by decide) 0 1 rfl rfl rfl hl.1 rfl (Nat.le_of_ble_eq_true rfl) dX1_bestSwap_31 ⟨Nat.zero_le _, Nat.zero_le _⟩ (fun H locs hP hS => ?_)
              refine zNe (tgt := 81) hx hb dX1_bestSwap_34 (by decide)  (fun c3 => ?_) (fun c3 => ?_)
              · have hbs : bin n N Z a (bou n N Z a) (d + 1) = bst n N Z a (a + 1 + d) (bin n N Z a (bou n N Z a) d) := rfl
                rw [show (bin n N Z a (bou n N Z a) d).1 = (bin n N Z a (bou n N Z a) (d + 1)).1 from by rw [hbs]; first | rw [@bst_z1 n N Z a (a + 1 + d) (bin n N Z a (bou n N Z a) d) (by assumption)] | rw [@bst_z2 n N Z a (a + 1 + d) (bin n N Z a (bou n N Z a) d) (by assumption)] | rw [@bst_no n N Z a (a + 1 + d) (bin n N Z a (bou n N Z a) d) (by assumption) (Int32.not_lt.mpr (by assumption))] | rw [@bst_y1 n N Z a (a + 1 + d) (bin n N Z a (bou n N Z a) d) (by assumption) (by assumption) (by assumption)] | rw [@bst_y2 n N Z a (a + 1 + d) (bin n N Z a (bou n N Z a) d) (by assumption) (by assumption) (Int32.not_le.mp (by assumption))]] at hl
                rw [show (bin n N Z a (bou n N Z a) d).2 = (bin n N Z a (bou n N Z a) (d + 1)).2 from by rw [hbs]; first | rw [@bst_z1 n N Z a (a + 1 + d) (bin n N Z a (bou n N Z a) d) (by assumption)] | rw [@bst_z2 n N Z a (a + 1 + d) (bin n N Z a (bou n N Z a) d) (by assumption)] | rw [@bst_no n N Z a (a + 1 + d) (bin n N Z a (bou n N Z a) d) (by assumption) (Int32.not_lt.mpr (by assumption))] | rw [@bst_y1 n N Z a (a + 1 + d) (bin n N Z a (bou n N Z a) d) (by assumption) (by assumption) (by assumption)] | rw [@bst_y2 n N Z a (a + 1 + d) (bin n N Z a (bou n N Z a) d) (by assumption) (by assumption) (Int32.not_le.mp (by assumption))]] at hl
                refine lv_iinc (v := nI (a + 1 + d + 1)) (lv' := [(4, .int (nI (a + 1 + d + 1))), (1, .int ((bin n N Z a (bou n N Z a) (d + 1)).1)), (2, .int ((bin n N Z a (bou n N Z a) (d + 1)).2)), (3, .int (nI a)), (0, .ref ob)]) hx hb dX1_bestSwap_81 hl (k := 2) rfl (nI_inc (a + 1 + d)) (by decide) rfl (fun ls hl => ?_)
                refine lv_goto (tgt := 20) hx hb dX1_bestSwap_84 (by decide) ?_
                exact ih20 (d + 1) (by omega) (by omega)  _ _ hP hD hS _ (lv_sub hl [1, 2, 0, 3, 4] rfl)
              · refine lv_aload_n hx hb dX1_bestSwap_37 rfl (lv_at hl 4 rfl) ?_
                refine lv_iload hx hb dX1_bestSwap_38 (lv_at hl 2 rfl) ?_
                refine cVr (As := [.int (nI (a + 1 + d))]) (rest := []) ⟨hx, hb, hml, hown, hts⟩ hP hK hD hS hN hA (mX1_isFrozen l D G ob nu fr n N Z (a + 1 + d) (by first | assumption | omega) (by first | assumption | omega)) (cwV 1 hts gX1_bestSwap_X1_isFrozen rfl rfl rfl (by decide +kernel) ⟨Nat.le_of_ble_eq_true rfl, Nat.le_of_ble_eq_true rfl⟩) [0, 1, 2] rfl (by decide) 0 1 rfl rfl rfl hl.1 rfl (Nat.le_of_ble_eq_true rfl) dX1_bestSwap_40 ⟨Nat.zero_le _, Nat.zero_le _⟩ (fun H locs hP hS => ?_)
                refine zEq (tgt := 49) hx hb dX1_bestSwap_43 (by decide)  (fun c4 => ?_) (fun c4 => ?_)
                · refine lv_aload_n hx hb dX1_bestSwap_49 rfl (lv_at hl 4 rfl) ?_
                  refine lv_iload_n hx hb dX1_bestSwap_50 rfl (lv_at hl 3 rfl) ?_
                  refine lv_iload hx hb dX1_bestSwap_51 (lv_at hl 2 rfl) ?_
                  refine cVr (As := [.int (nI a), .int (nI (a + 1 + d))]) (rest := []) ⟨hx, hb, hml, hown, hts⟩ hP hK hD hS hN hA (mX1_wayOffBehind l D G ob nu fr n N Z a (a + 1 + d) (by first | assumption | omega) (by first | assumption | omega) (by first | assumption | omega)) (cwV 2 hts gX1_bestSwap_X1_wayOffBehind rfl rfl rfl (by decide +kernel) ⟨Nat.le_of_ble_eq_true rfl, Nat.le_of_ble_eq_true rfl⟩) [0, 1, 2] rfl (by decide) 0 1 rfl rfl rfl hl.1 rfl (Nat.le_of_ble_eq_true rfl) dX1_bestSwap_53 ⟨Nat.zero_le _, Nat.zero_le _⟩ (fun H locs hP hS => ?_)
                  refine lv_istore (lv' := [(5, .int (wof n (ex N a (a + 1 + d)))), (1, .int ((bin n N Z a (bou n N Z a) d).1)), (2, .int ((bin n N Z a (bou n N Z a) d).2)), (4, .int (nI (a + 1 + d))), (3, .int (nI a)), (0, .ref ob)]) hx hb dX1_bestSwap_56 hl (by decide) rfl (fun ls hl => ?_)
                  refine lv_iload_n hx hb dX1_bestSwap_58 rfl (lv_at hl 1 rfl) ?_
                  refine lv_bipush (v := -5) hx hb dX1_bestSwap_59 (by decide +kernel) ?_
                  refine lv_icmp_eq (tgt := 70) hx hb dX1_bestSwap_61 (by decide)  (fun c5 => ?_) (fun c5 => ?_)
                  · refine lv_bipush (v := nI 100) hx hb dX1_bestSwap_70 (by decide +kernel) ?_
                    refine lv_iload_n hx hb dX1_bestSwap_72 rfl (lv_at hl 4 rfl) ?_
                    refine lv_imul hx hb dX1_bestSwap_73 ?_
                    refine rTop (show nI 100 * nI a = nI (100 * a) from pk_mul 100 a) ?_
                    refine lv_iload hx hb dX1_bestSwap_74 (lv_at hl 3 rfl) ?_
                    refine lv_iadd hx hb dX1_bestSwap_76 ?_
                    refine rTop (show nI (100 * a) + nI (a + 1 + d) = nI (100 * a + (a + 1 + d)) from nI_add (100 * a) (a + 1 + d)) ?_
                    refine lv_istore_n (lv' := [(1, .int (nI (100 * a + (a + 1 + d)))), (5, .int (wof n (ex N a (a + 1 + d)))), (2, .int ((bin n N Z a (bou n N Z a) d).2)), (4, .int (nI (a + 1 + d))), (3, .int (nI a)), (0, .ref ob)]) hx hb dX1_bestSwap_77 rfl hl (by decide) rfl (fun ls hl => ?_)
                    refine lv_iload hx hb dX1_bestSwap_78 (lv_at hl 1 rfl) ?_
                    refine lv_istore_n (lv' := [(2, .int (wof n (ex N a (a + 1 + d)))), (1, .int (nI (100 * a + (a + 1 + d)))), (5, .int (wof n (ex N a (a + 1 + d)))), (4, .int (nI (a + 1 + d))), (3, .int (nI a)), (0, .ref ob)]) hx hb dX1_bestSwap_80 rfl hl (by decide) rfl (fun ls hl => ?_)
                    replace hl : lv_has ls 6 [(2, .int (wof n (ex N a (a + 1 + d)))), (1, .int (nI (100 * a + (a + 1 + d)))), (4, .int (nI (a + 1 + d))), (3, .int (nI a)), (0, .ref ob)] := lv_sub hl [0, 1, 3, 4, 5] rfl
                    have hbs : bin n N Z a (bou n N Z a) (d + 1) = bst n N Z a (a + 1 + d) (bin n N Z a (bou n N Z a) d) := rfl
                    rw [show nI (100 * a + (a + 1 + d)) = (bin n N Z a (bou n N Z a) (d + 1)).1 from by rw [hbs]; first | rw [@bst_z1 n N Z a (a + 1 + d) (bin n N Z a (bou n N Z a) d) (by assumption)] | rw [@bst_z2 n N Z a (a + 1 + d) (bin n N Z a (bou n N Z a) d) (by assumption)] | rw [@bst_no n N Z a (a + 1 + d) (bin n N Z a (bou n N Z a) d) (by assumption) (Int32.not_lt.mpr (by assumption))] | rw [@bst_y1 n N Z a (a + 1 + d) (bin n N Z a (bou n N Z a) d) (by assumption) (by assumption) (by assumption)] | rw [@bst_y2 n N Z a (a + 1 + d) (bin n N Z a (bou n N Z a) d) (by assumption) (by assumption) (Int32.not_le.mp (by assumption))]] at hl
                    rw [show wof n (ex N a (a + 1 + d)) = (bin n N Z a (bou n N Z a) (d + 1)).2 from by rw [hbs]; first | rw [@bst_z1 n N Z a (a + 1 + d) (bin n N Z a (bou n N Z a) d) (by assumption)] | rw [@bst_z2 n N Z a (a + 1 + d) (bin n N Z a (bou n N Z a) d) (by assumption)] | rw [@bst_no n N Z a (a + 1 + d) (bin n N Z a (bou n N Z a) d) (by assumption) (Int32.not_lt.mpr (by assumption))] | rw [@bst_y1 n N Z a (a + 1 + d) (bin n N Z a (bou n N Z a) d) (by assumption) (by assumption) (by assumption)] | rw [@bst_y2 n N Z a (a + 1 + d) (bin n N Z a (bou n N Z a) d) (by assumption) (by assumption) (Int32.not_le.mp (by assumption))]] at hl
                    refine lv_iinc (v := nI (a + 1 + d + 1)) (lv' := [(4, .int (nI (a + 1 + d + 1))), (2, .int ((bin n N Z a (bou n N Z a) (d + 1)).2)), (1, .int ((bin n N Z a (bou n N Z a) (d + 1)).1)), (3, .int (nI a)), (0, .ref ob)]) hx hb dX1_bestSwap_81 hl (k := 2) rfl (nI_inc (a + 1 + d)) (by decide) rfl (fun ls hl => ?_)
                    refine lv_goto (tgt := 20) hx hb dX1_bestSwap_84 (by decide) ?_
                    exact ih20 (d + 1) (by omega) (by omega)  _ _ hP hD hS _ (lv_sub hl [2, 1, 0, 3, 4] rfl)
                  · refine lv_iload hx hb dX1_bestSwap_64 (lv_at hl 0 rfl) ?_
                    refine lv_iload_n hx hb dX1_bestSwap_66 rfl (lv_at hl 2 rfl) ?_
                    refine lv_icmp_ge (tgt := 81) hx hb dX1_bestSwap_67 (by decide)  (fun c6 => ?_) (fun c6 => ?_)
                    · replace hl : lv_has ls 6 [(1, .int ((bin n N Z a (bou n N Z a) d).1)), (2, .int ((bin n N Z a (bou n N Z a) d).2)), (4, .int (nI (a + 1 + d))), (3, .int (nI a)), (0, .ref ob)] := lv_sub hl [1, 2, 3, 4, 5] rfl
                      have hbs : bin n N Z a (bou n N Z a) (d + 1) = bst n N Z a (a + 1 + d) (bin n N Z a (bou n N Z a) d) := rfl
                      rw [show (bin n N Z a (bou n N Z a) d).1 = (bin n N Z a (bou n N Z a) (d + 1)).1 from by rw [hbs]; first | rw [@bst_z1 n N Z a (a + 1 + d) (bin n N Z a (bou n N Z a) d) (by assumption)] | rw [@bst_z2 n N Z a (a + 1 + d) (bin n N Z a (bou n N Z a) d) (by assumption)] | rw [@bst_no n N Z a (a + 1 + d) (bin n N Z a (bou n N Z a) d) (by assumption) (Int32.not_lt.mpr (by assumption))] | rw [@bst_y1 n N Z a (a + 1 + d) (bin n N Z a (bou n N Z a) d) (by assumption) (by assumption) (by assumption)] | rw [@bst_y2 n N Z a (a + 1 + d) (bin n N Z a (bou n N Z a) d) (by assumption) (by assumption) (Int32.not_le.mp (by assumption))]] at hl
                      rw [show (bin n N Z a (bou n N Z a) d).2 = (bin n N Z a (bou n N Z a) (d + 1)).2 from by rw [hbs]; first | rw [@bst_z1 n N Z a (a + 1 + d) (bin n N Z a (bou n N Z a) d) (by assumption)] | rw [@bst_z2 n N Z a (a + 1 + d) (bin n N Z a (bou n N Z a) d) (by assumption)] | rw [@bst_no n N Z a (a + 1 + d) (bin n N Z a (bou n N Z a) d) (by assumption) (Int32.not_lt.mpr (by assumption))] | rw [@bst_y1 n N Z a (a + 1 + d) (bin n N Z a (bou n N Z a) d) (by assumption) (by assumption) (by assumption)] | rw [@bst_y2 n N Z a (a + 1 + d) (bin n N Z a (bou n N Z a) d) (by assumption) (by assumption) (Int32.not_le.mp (by assumption))]] at hl
                      refine lv_iinc (v := nI (a + 1 + d + 1)) (lv' := [(4, .int (nI (a + 1 + d + 1))), (1, .int ((bin n N Z a (bou n N Z a) (d + 1)).1)), (2, .int ((bin n N Z a (bou n N Z a) (d + 1)).2)), (3, .int (nI a)), (0, .ref ob)]) hx hb dX1_bestSwap_81 hl (k := 2) rfl (nI_inc (a + 1 + d)) (by decide) rfl (fun ls hl => ?_)
                      refine lv_goto (tgt := 20) hx hb dX1_bestSwap_84 (by decide) ?_
                      exact ih20 (d + 1) (by omega) (by omega)  _ _ hP hD hS _ (lv_sub hl [1, 2, 0, 3, 4] rfl)
                    · refine lv_bipush (v := nI 100) hx hb dX1_bestSwap_70 (by decide +kernel) ?_
                      refine lv_iload_n hx hb dX1_bestSwap_72 rfl (lv_at hl 4 rfl) ?_
                      refine lv_imul hx hb dX1_bestSwap_73 ?_
                      refine rTop (show nI 100 * nI a = nI (100 * a) from pk_mul 100 a) ?_
                      refine lv_iload hx hb dX1_bestSwap_74 (lv_at hl 3 rfl) ?_
                      refine lv_iadd hx hb dX1_bestSwap_76 ?_
                      refine rTop (show nI (100 * a) + nI (a + 1 + d) = nI (100 * a + (a + 1 + d)) from nI_add (100 * a) (a + 1 + d)) ?_
                      refine lv_istore_n (lv' := [(1, .int (nI (100 * a + (a + 1 + d)))), (5, .int (wof n (ex N a (a + 1 + d)))), (2, .int ((bin n N Z a (bou n N Z a) d).2)), (4, .int (nI (a + 1 + d))), (3, .int (nI a)), (0, .ref ob)]) hx hb dX1_bestSwap_77 rfl hl (by decide) rfl (fun ls hl => ?_)
                      refine lv_iload hx hb dX1_bestSwap_78 (lv_at hl 1 rfl) ?_
                      refine lv_istore_n (lv' := [(2, .int (wof n (ex N a (a + 1 + d)))), (1, .int (nI (100 * a + (a + 1 + d)))), (5, .int (wof n (ex N a (a + 1 + d)))), (4, .int (nI (a + 1 + d))), (3, .int (nI a)), (0, .ref ob)]) hx hb dX1_bestSwap_80 rfl hl (by decide) rfl (fun ls hl => ?_)
                      replace hl : lv_has ls 6 [(2, .int (wof n (ex N a (a + 1 + d)))), (1, .int (nI (100 * a + (a + 1 + d)))), (4, .int (nI (a + 1 + d))), (3, .int (nI a)), (0, .ref ob)] := lv_sub hl [0, 1, 3, 4, 5] rfl
                      have hbs : bin n N Z a (bou n N Z a) (d + 1) = bst n N Z a (a + 1 + d) (bin n N Z a (bou n N Z a) d) := rfl
                      rw [show nI (100 * a + (a + 1 + d)) = (bin n N Z a (bou n N Z a) (d + 1)).1 from by rw [hbs]; first | rw [@bst_z1 n N Z a (a + 1 + d) (bin n N Z a (bou n N Z a) d) (by assumption)] | rw [@bst_z2 n N Z a (a + 1 + d) (bin n N Z a (bou n N Z a) d) (by assumption)] | rw [@bst_no n N Z a (a + 1 + d) (bin n N Z a (bou n N Z a) d) (by assumption) (Int32.not_lt.mpr (by assumption))] | rw [@bst_y1 n N Z a (a + 1 + d) (bin n N Z a (bou n N Z a) d) (by assumption) (by assumption) (by assumption)] | rw [@bst_y2 n N Z a (a + 1 + d) (bin n N Z a (bou n N Z a) d) (by assumption) (by assumption) (Int32.not_le.mp (by assumption))]] at hl
                      rw [show wof n (ex N a (a + 1 + d)) = (bin n N Z a (bou n N Z a) (d + 1)).2 from by rw [hbs]; first | rw [@bst_z1 n N Z a (a + 1 + d) (bin n N Z a (bou n N Z a) d) (by assumption)] | rw [@bst_z2 n N Z a (a + 1 + d) (bin n N Z a (bou n N Z a) d) (by assumption)] | rw [@bst_no n N Z a (a + 1 + d) (bin n N Z a (bou n N Z a) d) (by assumption) (Int32.not_lt.mpr (by assumption))] | rw [@bst_y1 n N Z a (a + 1 + d) (bin n N Z a (bou n N Z a) d) (by assumption) (by assumption) (by assumption)] | rw [@bst_y2 n N Z a (a + 1 + d) (bin n N Z a (bou n N Z a) d) (by assumption) (by assumption) (Int32.not_le.mp (by assumption))]] at hl
                      refine lv_iinc (v := nI (a + 1 + d + 1)) (lv' := [(4, .int (nI (a + 1 + d + 1))), (2, .int ((bin n N Z a (bou n N Z a) (d + 1)).2)), (1, .int ((bin n N Z a (bou n N Z a) (d + 1)).1)), (3, .int (nI a)), (0, .ref ob)]) hx hb dX1_bestSwap_81 hl (k := 2) rfl (nI_inc (a + 1 + d)) (by decide) rfl (fun ls hl => ?_)
                      refine lv_goto (tgt := 20) hx hb dX1_bestSwap_84 (by decide) ?_
                      exact ih20 (d + 1) (by omega) (by omega)  _ _ hP hD hS _ (lv_sub hl [2, 1, 0, 3, 4] rfl)
                · refine lv_goto (tgt := 81) hx hb dX1_bestSwap_46 (by decide) ?_
                  have hbs : bin n N Z a (bou n N Z a) (d + 1) = bst n N Z a (a + 1 + d) (bin n N Z a (bou n N Z a) d) := rfl
                  rw [show (bin n N Z a (bou n N Z a) d).1 = (bin n N Z a (bou n N Z a) (d + 1)).1 from by rw [hbs]; first | rw [@bst_z1 n N Z a (a + 1 + d) (bin n N Z a (bou n N Z a) d) (by assumption)] | rw [@bst_z2 n N Z a (a + 1 + d) (bin n N Z a (bou n N Z a) d) (by assumption)] | rw [@bst_no n N Z a (a + 1 + d) (bin n N Z a (bou n N Z a) d) (by assumption) (Int32.not_lt.mpr (by assumption))] | rw [@bst_y1 n N Z a (a + 1 + d) (bin n N Z a (bou n N Z a) d) (by assumption) (by assumption) (by assumption)] | rw [@bst_y2 n N Z a (a + 1 + d) (bin n N Z a (bou n N Z a) d) (by assumption) (by assumption) (Int32.not_le.mp (by assumption))]] at hl
                  rw [show (bin n N Z a (bou n N Z a) d).2 = (bin n N Z a (bou n N Z a) (d + 1)).2 from by rw [hbs]; first | rw [@bst_z1 n N Z a (a + 1 + d) (bin n N Z a (bou n N Z a) d) (by assumption)] | rw [@bst_z2 n N Z a (a + 1 + d) (bin n N Z a (bou n N Z a) d) (by assumption)] | rw [@bst_no n N Z a (a + 1 + d) (bin n N Z a (bou n N Z a) d) (by assumption) (Int32.not_lt.mpr (by assumption))] | rw [@bst_y1 n N Z a (a + 1 + d) (bin n N Z a (bou n N Z a) d) (by assumption) (by assumption) (by assumption)] | rw [@bst_y2 n N Z a (a + 1 + d) (bin n N Z a (bou n N Z a) d) (by assumption) (by assumption) (Int32.not_le.mp (by assumption))]] at hl
                  refine lv_iinc (v := nI (a + 1 + d + 1)) (lv' := [(4, .int (nI (a + 1 + d + 1))), (1, .int ((bin n N Z a (bou n N Z a) (d + 1)).1)), (2, .int ((bin n N Z a (bou n N Z a) (d + 1)).2)), (3, .int (nI a)), (0, .ref ob)]) hx hb dX1_bestSwap_81 hl (k := 2) rfl (nI_inc (a + 1 + d)) (by decide) rfl (fun ls hl => ?_)
                  refine lv_goto (tgt := 20) hx hb dX1_bestSwap_84 (by decide) ?_
                  exact ih20 (d + 1) (by omega) (by omega)  _ _ hP hD hS _ (lv_sub hl [1, 2, 0, 3, 4] rfl)
        exact LP20 (n * n - (a + 1) + 1 - 0) 0 (by omega) (by omega)  _ _ hP hD hS _ (lv_sub hl [1, 2, 0, 3, 4] rfl)
  exact LP7 (n * n + 1 - 0) 0 (by omega) (by omega)  _ _ hP hD hS _ (lv_sub hl [2, 1, 0, 3] rfl)

set_option maxHeartbeats 4000000 in
set_option maxRecDepth 100000 in
theorem mX1_layInOrder (l : Launch) (D : va_G) (G : Nat → ClassId) (ob nu fr n : Nat) (N Z : Nat → Int32) (v : Nat) (hn : n = 3 ∨ n = 4) : CT l yX1_layInOrder wsX1_layInOrder 0 0 D G [.ref ob, .int (nI v)] [(ob, .inr (1, [.int (nI n), .ref nu, .ref fr])), (nu, .inl (G 0, 16, .inl N)), (fr, .inl (G 0, 16, .inl Z))] [(ob, .inr (1, [.int (nI v), .ref nu, .ref fr])), (nu, .inl (G 0, 16, .inl ord)), (fr, .inl (G 0, 16, .inl Z))] none := by
  refine CT.of (cc := cX1_layInOrder) (maxL := 3) (ret := none) (by decide) rfl RX1 rfl (Nat.le_of_ble_eq_true rfl) (fun pp ee s mm bl me cc A ls hx hb hr hml hts hown hlk hnm hA hP hK hD hN hS hl => ?_)
  have hl : lv_has ls 3 [(0, .ref ob), (1, .int (nI v))] := hl
  have hP : va_P D vwCl [(ob, .inr (1, [.int (nI n), .ref nu, .ref fr])), (nu, .inl (G 0, 16, .inl N)), (fr, .inl (G 0, 16, .inl Z))] s.heap := hP
  have inX1 : ∀ w ∈ wsX10, w ∈ wsX1_layInOrder := fun w h => List.mem_cons_of_mem _ (List.mem_append_right _ h)
  have k11 := hts (.fieldLink RX1 11 "SquareStakes$Square" "side" "I") (List.mem_of_getElem? (i := 1) rfl)
  have k15 := hts (.fieldLink RX1 15 "SquareStakes$Square" "numbers" "[I") (List.mem_of_getElem? (i := 2) rfl)
  refine lv_aload_n hx hb dX1_layInOrder_0 rfl (lv_at hl 0 rfl) ?_
  refine lv_iload_n hx hb dX1_layInOrder_1 rfl (lv_at hl 1 rfl) ?_
  refine va_put (D := D) (ci := 1) (v := .int (nI v)) (ty := .int) (C := RX1) (T := TX1) (N := 3) hx hb hts inX1 tyX1 tyX1_ok nmX1 hown hK hP hD hS 0 rfl rfl 0 (by decide) k11 (fun _ h9 => h9) rfl (by decide +kernel) rfl rfl (Nat.le_of_ble_eq_true rfl) dX1_layInOrder_2 (fun H locs hP hD hS => ?_)
  have hP : va_P D vwCl [(ob, .inr (1, [.int (nI v), .ref nu, .ref fr])), (nu, .inl (G 0, 16, .inl N)), (fr, .inl (G 0, 16, .inl Z))] H := hP
  have hD : va_D A [(ob, .inr (1, [.int (nI v), .ref nu, .ref fr])), (nu, .inl (G 0, 16, .inl N)), (fr, .inl (G 0, 16, .inl Z))] := hD
  refine lv_iconst (v := nI 0) hx hb dX1_layInOrder_5 (by decide +kernel) ?_
  refine lv_istore_n (lv' := [(2, .int (nI 0)), (0, .ref ob), (1, .int (nI v))]) hx hb dX1_layInOrder_6 rfl hl (by decide) rfl (fun ls hl => ?_)
  have LP7 : ∀ (nn7 k : Nat), k ≤ 16 → 16 < k + nn7  → ∀ (H : Heap) (locs : List Loc), va_P D vwCl [(ob, .inr (1, [.int (nI v), .ref nu, .ref fr])), (nu, .inl (G 0, 16, .inl (fst_ ord N k))), (fr, .inl (G 0, 16, .inl Z))] H → va_D A [(ob, .inr (1, [.int (nI v), .ref nu, .ref fr])), (nu, .inl (G 0, 16, .inl (fst_ ord N k))), (fr, .inl (G 0, 16, .inl Z))] → va_S A s.heap H locs → ∀ ls : Array Slot, lv_has ls 3 [(2, .int (nI k)), (0, .ref ob), (1, .int (nI v))] → W pp l ee (rmA 0 0) s mm ([.ref ob, .int (nI v)] : List Value).toArray bl me cc H locs 0 0 (MQ bl (Qres none D G [(ob, .inr (1, [.int (nI v), .ref nu, .ref fr])), (nu, .inl (G 0, 16, .inl ord)), (fr, .inl (G 0, 16, .inl Z))] A) ([.ref ob, .int (nI v)] : List Value).toArray s 0 0 A) (F0 mm 7 ls []) := by
    intro nn7
    induction nn7 with
    | zero => intro k h1 h2; exact absurd h2 (by omega)
    | succ nn7 ih7 =>
      intro k hkk hnk  H locs hP hD hS ls hl
      refine lv_iload_n hx hb dX1_layInOrder_7 rfl (lv_at hl 0 rfl) ?_
      refine lv_aload_n hx hb dX1_layInOrder_8 rfl (lv_at hl 1 rfl) ?_
      refine va_get (D := D) (ci := 1) (v := .ref nu) (C := RX1) (T := TX1) (N := 3) hx hb hts inX1 hown hK hP 0 rfl rfl 1 (by decide) k15 (fun _ h9 => h9) rfl dX1_layInOrder_9 ?_
      refine va_alen (v := nI 16) hx hb hK hP 1 0 rfl rfl rfl dX1_layInOrder_12 ?_
      refine bGe (tgt := 31) hx hb dX1_layInOrder_13 (by decide) (by omega) (by omega) (fun c1 => ?_) (fun c1 => ?_)
      · obtain rfl : 16 = k := by omega
        obtain ⟨hP, hD⟩ := wI (g := ord) hP hD 1 rfl (fun j hj => fst_all hj)
        replace hP : va_P D vwCl [(ob, .inr (1, [.int (nI v), .ref nu, .ref fr])), (nu, .inl (G 0, 16, .inl ord)), (fr, .inl (G 0, 16, .inl Z))] _ := hP
        have hD : va_D A [(ob, .inr (1, [.int (nI v), .ref nu, .ref fr])), (nu, .inl (G 0, 16, .inl ord)), (fr, .inl (G 0, 16, .inl Z))] := hD
        exact rVret hx hb hr hlk hP hK hD hS dX1_layInOrder_31
      · refine lv_aload_n hx hb dX1_layInOrder_16 rfl (lv_at hl 1 rfl) ?_
        refine va_get (D := D) (ci := 1) (v := .ref nu) (C := RX1) (T := TX1) (N := 3) hx hb hts inX1 hown hK hP 0 rfl rfl 1 (by decide) k15 (fun _ h9 => h9) rfl dX1_layInOrder_17 ?_
        refine lv_iload_n hx hb dX1_layInOrder_20 rfl (lv_at hl 0 rfl) ?_
        refine lv_iload_n hx hb dX1_layInOrder_21 rfl (lv_at hl 0 rfl) ?_
        refine lv_iconst (v := nI 1) hx hb dX1_layInOrder_22 (by decide +kernel) ?_
        refine lv_iadd hx hb dX1_layInOrder_23 ?_
        refine rTop (show nI k + nI 1 = nI (k + 1) from nI_add k 1) ?_
        refine rIast hx hb hK hP hD hS 1 rfl k (by omega) (by decide) dX1_layInOrder_24 (fun H locs hP hD hS => ?_)
        have hP : va_P D vwCl [(ob, .inr (1, [.int (nI v), .ref nu, .ref fr])), (nu, .inl (G 0, 16, .inl (upd (fst_ ord N k) k (nI (k + 1))))), (fr, .inl (G 0, 16, .inl Z))] H := hP
        have hD : va_D A [(ob, .inr (1, [.int (nI v), .ref nu, .ref fr])), (nu, .inl (G 0, 16, .inl (upd (fst_ ord N k) k (nI (k + 1))))), (fr, .inl (G 0, 16, .inl Z))] := hD
        refine lv_iinc (v := nI (k + 1)) (lv' := [(2, .int (nI (k + 1))), (0, .ref ob), (1, .int (nI v))]) hx hb dX1_layInOrder_25 hl (k := 0) rfl (nI_inc k) (by decide) rfl (fun ls hl => ?_)
        refine lv_goto (tgt := 7) hx hb dX1_layInOrder_28 (by decide) ?_
        obtain ⟨hP, hD⟩ := wI (g := fst_ ord N (k + 1)) hP hD 1 rfl (fun j hj => fst_s rfl)
        replace hP : va_P D vwCl [(ob, .inr (1, [.int (nI v), .ref nu, .ref fr])), (nu, .inl (G 0, 16, .inl (fst_ ord N (k + 1)))), (fr, .inl (G 0, 16, .inl Z))] _ := hP
        have hD : va_D A [(ob, .inr (1, [.int (nI v), .ref nu, .ref fr])), (nu, .inl (G 0, 16, .inl (fst_ ord N (k + 1)))), (fr, .inl (G 0, 16, .inl Z))] := hD
        exact ih7 (k + 1) (by omega) (by omega)  _ _ hP hD hS _ (lv_sub hl [0, 1, 2] rfl)
  obtain ⟨hP, hD⟩ := wI (g := fst_ ord N 0) hP hD 1 rfl (fun j hj => by rw [fst_0])
  replace hP : va_P D vwCl [(ob, .inr (1, [.int (nI v), .ref nu, .ref fr])), (nu, .inl (G 0, 16, .inl (fst_ ord N 0))), (fr, .inl (G 0, 16, .inl Z))] _ := hP
  have hD : va_D A [(ob, .inr (1, [.int (nI v), .ref nu, .ref fr])), (nu, .inl (G 0, 16, .inl (fst_ ord N 0))), (fr, .inl (G 0, 16, .inl Z))] := hD
  exact LP7 (16 + 1 - 0) 0 (by omega) (by omega)  _ _ hP hD hS _ (lv_sub hl [0, 1, 2] rfl)

set_option maxHeartbeats 4000000 in
set_option maxRecDepth 100000 in
theorem mX1_shuffle (l : Launch) (D : va_G) (G : Nat → ClassId) (ob nu fr n : Nat) (N Z : Nat → Int32) (sd : Nat) (hn : n = 3 ∨ n = 4) (hsd : sd < 10000) : CT l yX1_shuffle wsX1_shuffle 1 23 D G [.ref ob, .int (nI sd)] [(ob, .inr (1, [.int (nI n), .ref nu, .ref fr])), (nu, .inl (G 0, 16, .inl N)), (fr, .inl (G 0, 16, .inl Z))] [(ob, .inr (1, [.int (nI n), .ref nu, .ref fr])), (nu, .inl (G 0, 16, .inl (shN n sd N (n * n - 1)))), (fr, .inl (G 0, 16, .inl Z))] none := by
  refine CT.of (cc := cX1_shuffle) (maxL := 4) (ret := none) (by decide) rfl RX1 rfl (Nat.le_of_ble_eq_true rfl) (fun pp ee s mm bl me cc A ls hx hb hr hml hts hown hlk hnm hA hP hK hD hN hS hl => ?_)
  have hl : lv_has ls 4 [(0, .ref ob), (1, .int (nI sd))] := hl
  have hP : va_P D vwCl [(ob, .inr (1, [.int (nI n), .ref nu, .ref fr])), (nu, .inl (G 0, 16, .inl N)), (fr, .inl (G 0, 16, .inl Z))] s.heap := hP
  have hq9 : n * n < 17 ∧ 0 < n * n := by rcases hn with rfl | rfl <;> decide
  refine lv_iload_n hx hb dX1_shuffle_0 rfl (lv_at hl 1 rfl) ?_
  refine lv_istore_n (lv' := [(2, .int (nI sd)), (0, .ref ob), (1, .int (nI sd))]) hx hb dX1_shuffle_1 rfl hl (by decide) rfl (fun ls hl => ?_)
  refine lv_aload_n hx hb dX1_shuffle_2 rfl (lv_at hl 1 rfl) ?_
  refine cVr (As := []) (rest := []) ⟨hx, hb, hml, hown, hts⟩ hP hK hD hS hN hA (mX1_cells l D G ob nu fr n N Z (by first | assumption | omega)) (cwV 0 hts gX1_shuffle_X1_cells rfl rfl rfl (by decide +kernel) ⟨Nat.le_of_ble_eq_true rfl, Nat.le_of_ble_eq_true rfl⟩) [0, 1, 2] rfl (by decide) 0 1 rfl rfl rfl hl.1 rfl (Nat.le_of_ble_eq_true rfl) dX1_shuffle_3 ⟨Nat.zero_le _, Nat.zero_le _⟩ (fun H locs hP hS => ?_)
  refine lv_iconst (v := nI 1) hx hb dX1_shuffle_6 (by decide +kernel) ?_
  refine lv_isub hx hb dX1_shuffle_7 ?_
  refine rTop (show nI (n * n) - nI 1 = nI (n * n - 1) from pk_sub (by omega)) ?_
  refine lv_istore_n (lv' := [(3, .int (nI (n * n - 1))), (2, .int (nI sd)), (0, .ref ob), (1, .int (nI sd))]) hx hb dX1_shuffle_8 rfl hl (by decide) rfl (fun ls hl => ?_)
  have LP9 : ∀ (nn9 t : Nat), t ≤ (n * n - 1) → (n * n - 1) < t + nn9  → ∀ (H : Heap) (locs : List Loc), va_P D vwCl [(ob, .inr (1, [.int (nI n), .ref nu, .ref fr])), (nu, .inl (G 0, 16, .inl (shN n sd N t))), (fr, .inl (G 0, 16, .inl Z))] H → va_D A [(ob, .inr (1, [.int (nI n), .ref nu, .ref fr])), (nu, .inl (G 0, 16, .inl (shN n sd N t))), (fr, .inl (G 0, 16, .inl Z))] → va_S A s.heap H locs → ∀ ls : Array Slot, lv_has ls 4 [(2, .int (nI (rl sd t))), (3, .int (nI (n * n - 1 - t))), (0, .ref ob), (1, .int (nI sd))] → W pp l ee (rmA 1 23) s mm ([.ref ob, .int (nI sd)] : List Value).toArray bl me cc H locs 0 0 (MQ bl (Qres none D G [(ob, .inr (1, [.int (nI n), .ref nu, .ref fr])), (nu, .inl (G 0, 16, .inl (shN n sd N (n * n - 1)))), (fr, .inl (G 0, 16, .inl Z))] A) ([.ref ob, .int (nI sd)] : List Value).toArray s 0 0 A) (F0 mm 9 ls []) := by
    intro nn9
    induction nn9 with
    | zero => intro t h1 h2; exact absurd h2 (by omega)
    | succ nn9 ih9 =>
      intro t hkt hnt  H locs hP hD hS ls hl
      refine lv_iload_n hx hb dX1_shuffle_9 rfl (lv_at hl 1 rfl) ?_
      refine lv_iconst (v := nI 1) hx hb dX1_shuffle_10 (by decide +kernel) ?_
      refine bLt (tgt := 44) hx hb dX1_shuffle_11 (by decide) (by omega) (by omega) (fun c1 => ?_) (fun c1 => ?_)
      · obtain rfl : n * n - 1 = t := by omega
        exact rVret hx hb hr hlk hP hK hD hS dX1_shuffle_44
      · have hrl := rl_lt hsd t
        refine lv_sipush (v := nI 421) hx hb dX1_shuffle_14 (by decide +kernel) ?_
        refine lv_iload_n hx hb dX1_shuffle_17 rfl (lv_at hl 0 rfl) ?_
        refine lv_imul hx hb dX1_shuffle_18 ?_
        refine rTop (show nI 421 * nI (rl sd t) = nI (421 * (rl sd t)) from pk_mul 421 (rl sd t)) ?_
        refine lv_sipush (v := nI 1663) hx hb dX1_shuffle_19 (by decide +kernel) ?_
        refine lv_iadd hx hb dX1_shuffle_22 ?_
        refine rTop (show nI (421 * (rl sd t)) + nI 1663 = nI (421 * (rl sd t) + 1663) from nI_add (421 * (rl sd t)) 1663) ?_
        refine lv_sipush (v := nI 10000) hx hb dX1_shuffle_23 (by decide +kernel) ?_
        refine lv_irem hx hb dX1_shuffle_26 (nI_ne0 (by omega) (by omega)) ?_
        refine rTop (pk_rem (a := 421 * (rl sd t) + 1663) (d := 10000) (by omega) (by omega) (by omega)) ?_
        refine rTop (show nI ((421 * (rl sd t) + 1663) % 10000) = nI (rl sd (t + 1)) from rfl) ?_
        have hrl2 := rl_lt hsd (t + 1)
        refine lv_istore_n (lv' := [(2, .int (nI (rl sd (t + 1)))), (3, .int (nI (n * n - 1 - t))), (0, .ref ob), (1, .int (nI sd))]) hx hb dX1_shuffle_27 rfl hl (by decide) rfl (fun ls hl => ?_)
        refine lv_aload_n hx hb dX1_shuffle_28 rfl (lv_at hl 2 rfl) ?_
        refine lv_iload_n hx hb dX1_shuffle_29 rfl (lv_at hl 1 rfl) ?_
        refine lv_iload_n hx hb dX1_shuffle_30 rfl (lv_at hl 0 rfl) ?_
        refine lv_iload_n hx hb dX1_shuffle_31 rfl (lv_at hl 1 rfl) ?_
        refine lv_iconst (v := nI 1) hx hb dX1_shuffle_32 (by decide +kernel) ?_
        refine lv_iadd hx hb dX1_shuffle_33 ?_
        refine rTop (show nI (n * n - 1 - t) + nI 1 = nI (n * n - 1 - t + 1) from nI_add (n * n - 1 - t) 1) ?_
        refine lv_irem hx hb dX1_shuffle_34 (nI_ne0 (by omega) (by omega)) ?_
        refine rTop (pk_rem (a := rl sd (t + 1)) (d := n * n - 1 - t + 1) (by omega) (by omega) (by omega)) ?_
        have hm := Nat.mod_lt (rl sd (t + 1)) (show 0 < n * n - 1 - t + 1 by omega)
        refine cV (As := [.int (nI (n * n - 1 - t)), .int (nI ((rl sd (t + 1)) % (n * n - 1 - t + 1)))]) (rest := []) ⟨hx, hb, hml, hown, hts⟩ hP hK hD hS hN hA (mX1_exchange l D G ob nu fr n (shN n sd N t) Z (n * n - 1 - t) ((rl sd (t + 1)) % (n * n - 1 - t + 1)) (by first | assumption | omega) (by first | assumption | omega) (by first | assumption | omega)) (cwV 2 hts gX1_shuffle_X1_exchange rfl rfl rfl (by decide +kernel) ⟨Nat.le_of_ble_eq_true rfl, Nat.le_of_ble_eq_true rfl⟩) [0, 1, 2] rfl (by decide) rfl 0 1 rfl rfl rfl hl.1 rfl (Nat.le_of_ble_eq_true rfl) dX1_shuffle_35 ⟨Nat.zero_le _, Nat.zero_le _⟩ (fun H locs hP hD hS => ?_)
        have hP : va_P D vwCl [(ob, .inr (1, [.int (nI n), .ref nu, .ref fr])), (nu, .inl (G 0, 16, .inl (ex (shN n sd N t) (n * n - 1 - t) ((rl sd (t + 1)) % (n * n - 1 - t + 1))))), (fr, .inl (G 0, 16, .inl Z))] H := hP
        have hD : va_D A [(ob, .inr (1, [.int (nI n), .ref nu, .ref fr])), (nu, .inl (G 0, 16, .inl (ex (shN n sd N t) (n * n - 1 - t) ((rl sd (t + 1)) % (n * n - 1 - t + 1))))), (fr, .inl (G 0, 16, .inl Z))] := hD
        refine lv_iinc (v := nI (n * n - 1 - t - 1)) (lv' := [(3, .int (nI (n * n - 1 - t - 1))), (2, .int (nI (rl sd (t + 1)))), (0, .ref ob), (1, .int (nI sd))]) hx hb dX1_shuffle_38 hl (k := 1) rfl (nI_dec (by omega)) (by decide) rfl (fun ls hl => ?_)
        rw [show nI (n * n - 1 - t - 1) = nI (n * n - 1 - (t + 1)) from by rw [show n * n - 1 - t - 1 = n * n - 1 - (t + 1) by omega]] at hl
        refine lv_goto (tgt := 9) hx hb dX1_shuffle_41 (by decide) ?_
        replace hP : va_P D vwCl [(ob, .inr (1, [.int (nI n), .ref nu, .ref fr])), (nu, .inl (G 0, 16, .inl (shN n sd N (t + 1)))), (fr, .inl (G 0, 16, .inl Z))] _ := hP
        have hD : va_D A [(ob, .inr (1, [.int (nI n), .ref nu, .ref fr])), (nu, .inl (G 0, 16, .inl (shN n sd N (t + 1)))), (fr, .inl (G 0, 16, .inl Z))] := hD
        exact ih9 (t + 1) (by omega) (by omega)  _ _ hP hD hS _ (lv_sub hl [1, 0, 2, 3] rfl)
  replace hP : va_P D vwCl [(ob, .inr (1, [.int (nI n), .ref nu, .ref fr])), (nu, .inl (G 0, 16, .inl (shN n sd N 0))), (fr, .inl (G 0, 16, .inl Z))] _ := hP
  have hD : va_D A [(ob, .inr (1, [.int (nI n), .ref nu, .ref fr])), (nu, .inl (G 0, 16, .inl (shN n sd N 0))), (fr, .inl (G 0, 16, .inl Z))] := hD
  exact LP9 (n * n - 1 + 1 - 0) 0 (by omega) (by omega)  _ _ hP hD hS _ (lv_sub hl [1, 0, 2, 3] rfl)

set_option maxHeartbeats 4000000 in
set_option maxRecDepth 100000 in
theorem mX1_freezeFor (l : Launch) (D : va_G) (G : Nat → ClassId) (ob nu fr n : Nat) (N Z : Nat → Int32) (q : Nat) (x : Int32) (hn : n = 3 ∨ n = 4) (hq : q < 16) : CT l yX1_freezeFor wsX1_freezeFor 0 0 D G [.ref ob, .int (nI q), .int x] [(ob, .inr (1, [.int (nI n), .ref nu, .ref fr])), (nu, .inl (G 0, 16, .inl N)), (fr, .inl (G 0, 16, .inl Z))] [(ob, .inr (1, [.int (nI n), .ref nu, .ref fr])), (nu, .inl (G 0, 16, .inl N)), (fr, .inl (G 0, 16, .inl (upd Z q x)))] none := by
  refine CT.of (cc := cX1_freezeFor) (maxL := 3) (ret := none) (by decide) rfl RX1 rfl (Nat.le_of_ble_eq_true rfl) (fun pp ee s mm bl me cc A ls hx hb hr hml hts hown hlk hnm hA hP hK hD hN hS hl => ?_)
  have hl : lv_has ls 3 [(0, .ref ob), (1, .int (nI q)), (2, .int x)] := hl
  have hP : va_P D vwCl [(ob, .inr (1, [.int (nI n), .ref nu, .ref fr])), (nu, .inl (G 0, 16, .inl N)), (fr, .inl (G 0, 16, .inl Z))] s.heap := hP
  have inX1 : ∀ w ∈ wsX10, w ∈ wsX1_freezeFor := fun w h => List.mem_cons_of_mem _ (List.mem_append_right _ h)
  have k19 := hts (.fieldLink RX1 19 "SquareStakes$Square" "frozen" "[I") (List.mem_of_getElem? (i := 1) rfl)
  refine lv_iload_n hx hb dX1_freezeFor_0 rfl (lv_at hl 1 rfl) ?_
  refine iLt (tgt := 20) hx hb dX1_freezeFor_1 (by decide) (by omega) ?_
  refine lv_iload_n hx hb dX1_freezeFor_4 rfl (lv_at hl 1 rfl) ?_
  refine lv_aload_n hx hb dX1_freezeFor_5 rfl (lv_at hl 0 rfl) ?_
  refine va_get (D := D) (ci := 1) (v := .ref fr) (C := RX1) (T := TX1) (N := 3) hx hb hts inX1 hown hK hP 0 rfl rfl 2 (by decide) k19 (fun _ h9 => h9) rfl dX1_freezeFor_6 ?_
  refine va_alen (v := nI 16) hx hb hK hP 2 0 rfl rfl rfl dX1_freezeFor_9 ?_
  refine bGe (tgt := 20) hx hb dX1_freezeFor_10 (by decide) (by omega) (by omega) (fun c2 => by exfalso; omega) (fun c2 => ?_)
  refine lv_aload_n hx hb dX1_freezeFor_13 rfl (lv_at hl 0 rfl) ?_
  refine va_get (D := D) (ci := 1) (v := .ref fr) (C := RX1) (T := TX1) (N := 3) hx hb hts inX1 hown hK hP 0 rfl rfl 2 (by decide) k19 (fun _ h9 => h9) rfl dX1_freezeFor_14 ?_
  refine lv_iload_n hx hb dX1_freezeFor_17 rfl (lv_at hl 1 rfl) ?_
  refine lv_iload_n hx hb dX1_freezeFor_18 rfl (lv_at hl 2 rfl) ?_
  refine rIast hx hb hK hP hD hS 2 rfl q (by omega) (by decide) dX1_freezeFor_19 (fun H locs hP hD hS => ?_)
  have hP : va_P D vwCl [(ob, .inr (1, [.int (nI n), .ref nu, .ref fr])), (nu, .inl (G 0, 16, .inl N)), (fr, .inl (G 0, 16, .inl (upd Z q x)))] H := hP
  have hD : va_D A [(ob, .inr (1, [.int (nI n), .ref nu, .ref fr])), (nu, .inl (G 0, 16, .inl N)), (fr, .inl (G 0, 16, .inl (upd Z q x)))] := hD
  exact rVret hx hb hr hlk hP hK hD hS dX1_freezeFor_20

set_option maxHeartbeats 4000000 in
set_option maxRecDepth 100000 in
theorem mX1_thawByOneSwap (l : Launch) (D : va_G) (G : Nat → ClassId) (ob nu fr n : Nat) (N Z : Nat → Int32) (hn : n = 3 ∨ n = 4) : CT l yX1_thawByOneSwap wsX1_thawByOneSwap 0 0 D G [.ref ob] [(ob, .inr (1, [.int (nI n), .ref nu, .ref fr])), (nu, .inl (G 0, 16, .inl N)), (fr, .inl (G 0, 16, .inl Z))] [(ob, .inr (1, [.int (nI n), .ref nu, .ref fr])), (nu, .inl (G 0, 16, .inl N)), (fr, .inl (G 0, 16, .inl (tw Z 16)))] none := by
  refine CT.of (cc := cX1_thawByOneSwap) (maxL := 2) (ret := none) (by decide) rfl RX1 rfl (Nat.le_of_ble_eq_true rfl) (fun pp ee s mm bl me cc A ls hx hb hr hml hts hown hlk hnm hA hP hK hD hN hS hl => ?_)
  have hl : lv_has ls 2 [(0, .ref ob)] := hl
  have hP : va_P D vwCl [(ob, .inr (1, [.int (nI n), .ref nu, .ref fr])), (nu, .inl (G 0, 16, .inl N)), (fr, .inl (G 0, 16, .inl Z))] s.heap := hP
  have inX1 : ∀ w ∈ wsX10, w ∈ wsX1_thawByOneSwap := fun w h => List.mem_cons_of_mem _ (List.mem_append_right _ h)
  have k19 := hts (.fieldLink RX1 19 "SquareStakes$Square" "frozen" "[I") (List.mem_of_getElem? (i := 1) rfl)
  refine lv_iconst (v := nI 0) hx hb dX1_thawByOneSwap_0 (by decide +kernel) ?_
  refine lv_istore_n (lv' := [(1, .int (nI 0)), (0, .ref ob)]) hx hb dX1_thawByOneSwap_1 rfl hl (by decide) rfl (fun ls hl => ?_)
  have LP2 : ∀ (nn2 k : Nat), k ≤ 16 → 16 < k + nn2  → ∀ (H : Heap) (locs : List Loc), va_P D vwCl [(ob, .inr (1, [.int (nI n), .ref nu, .ref fr])), (nu, .inl (G 0, 16, .inl N)), (fr, .inl (G 0, 16, .inl (tw Z k)))] H → va_D A [(ob, .inr (1, [.int (nI n), .ref nu, .ref fr])), (nu, .inl (G 0, 16, .inl N)), (fr, .inl (G 0, 16, .inl (tw Z k)))] → va_S A s.heap H locs → ∀ ls : Array Slot, lv_has ls 2 [(1, .int (nI k)), (0, .ref ob)] → W pp l ee (rmA 0 0) s mm ([.ref ob] : List Value).toArray bl me cc H locs 0 0 (MQ bl (Qres none D G [(ob, .inr (1, [.int (nI n), .ref nu, .ref fr])), (nu, .inl (G 0, 16, .inl N)), (fr, .inl (G 0, 16, .inl (tw Z 16)))] A) ([.ref ob] : List Value).toArray s 0 0 A) (F0 mm 2 ls []) := by
    intro nn2
    induction nn2 with
    | zero => intro k h1 h2; exact absurd h2 (by omega)
    | succ nn2 ih2 =>
      intro k hkk hnk  H locs hP hD hS ls hl
      refine lv_iload_n hx hb dX1_thawByOneSwap_2 rfl (lv_at hl 0 rfl) ?_
      refine lv_aload_n hx hb dX1_thawByOneSwap_3 rfl (lv_at hl 1 rfl) ?_
      refine va_get (D := D) (ci := 1) (v := .ref fr) (C := RX1) (T := TX1) (N := 3) hx hb hts inX1 hown hK hP 0 rfl rfl 2 (by decide) k19 (fun _ h9 => h9) rfl dX1_thawByOneSwap_4 ?_
      refine va_alen (v := nI 16) hx hb hK hP 2 0 rfl rfl rfl dX1_thawByOneSwap_7 ?_
      refine bGe (tgt := 36) hx hb dX1_thawByOneSwap_8 (by decide) (by omega) (by omega) (fun c1 => ?_) (fun c1 => ?_)
      · obtain rfl : 16 = k := by omega
        exact rVret hx hb hr hlk hP hK hD hS dX1_thawByOneSwap_36
      · refine lv_aload_n hx hb dX1_thawByOneSwap_11 rfl (lv_at hl 1 rfl) ?_
        refine va_get (D := D) (ci := 1) (v := .ref fr) (C := RX1) (T := TX1) (N := 3) hx hb hts inX1 hown hK hP 0 rfl rfl 2 (by decide) k19 (fun _ h9 => h9) rfl dX1_thawByOneSwap_12 ?_
        refine lv_iload_n hx hb dX1_thawByOneSwap_15 rfl (lv_at hl 0 rfl) ?_
        refine rIald hx hb hK hP 2 rfl k (by omega) (by decide) dX1_thawByOneSwap_16 ?_
        refine rTop (show (tw Z k) k = Z k from tw_k Z k) ?_
        refine lv_if_le (tgt := 30) hx hb dX1_thawByOneSwap_17 (by decide)  (fun c2 => ?_) (fun c2 => ?_)
        · refine lv_iinc (v := nI (k + 1)) (lv' := [(1, .int (nI (k + 1))), (0, .ref ob)]) hx hb dX1_thawByOneSwap_30 hl (k := 0) rfl (nI_inc k) (by decide) rfl (fun ls hl => ?_)
          refine lv_goto (tgt := 2) hx hb dX1_thawByOneSwap_33 (by decide) ?_
          obtain ⟨hP, hD⟩ := wI (g := tw Z (k + 1)) hP hD 2 rfl (fun j hj => by first | exact tw_n (Int32.not_lt.mpr (by assumption)) | exact tw_s (by rw [tw_k, tw1, if_pos (Int32.not_le.mp (by assumption))]))
          replace hP : va_P D vwCl [(ob, .inr (1, [.int (nI n), .ref nu, .ref fr])), (nu, .inl (G 0, 16, .inl N)), (fr, .inl (G 0, 16, .inl (tw Z (k + 1))))] _ := hP
          have hD : va_D A [(ob, .inr (1, [.int (nI n), .ref nu, .ref fr])), (nu, .inl (G 0, 16, .inl N)), (fr, .inl (G 0, 16, .inl (tw Z (k + 1))))] := hD
          exact ih2 (k + 1) (by omega) (by omega)  _ _ hP hD hS _ (lv_sub hl [0, 1] rfl)
        · refine lv_aload_n hx hb dX1_thawByOneSwap_20 rfl (lv_at hl 1 rfl) ?_
          refine va_get (D := D) (ci := 1) (v := .ref fr) (C := RX1) (T := TX1) (N := 3) hx hb hts inX1 hown hK hP 0 rfl rfl 2 (by decide) k19 (fun _ h9 => h9) rfl dX1_thawByOneSwap_21 ?_
          refine lv_iload_n hx hb dX1_thawByOneSwap_24 rfl (lv_at hl 0 rfl) ?_
          refine lv_dup2_11 hx hb dX1_thawByOneSwap_25 rfl rfl ?_
          refine rIald hx hb hK hP 2 rfl k (by omega) (by decide) dX1_thawByOneSwap_26 ?_
          refine lv_iconst (v := nI 1) hx hb dX1_thawByOneSwap_27 (by decide +kernel) ?_
          refine lv_isub hx hb dX1_thawByOneSwap_28 ?_
          refine rIast hx hb hK hP hD hS 2 rfl k (by omega) (by decide) dX1_thawByOneSwap_29 (fun H locs hP hD hS => ?_)
          have hP : va_P D vwCl [(ob, .inr (1, [.int (nI n), .ref nu, .ref fr])), (nu, .inl (G 0, 16, .inl N)), (fr, .inl (G 0, 16, .inl (upd (tw Z k) k ((tw Z k) k - nI 1))))] H := hP
          have hD : va_D A [(ob, .inr (1, [.int (nI n), .ref nu, .ref fr])), (nu, .inl (G 0, 16, .inl N)), (fr, .inl (G 0, 16, .inl (upd (tw Z k) k ((tw Z k) k - nI 1))))] := hD
          refine lv_iinc (v := nI (k + 1)) (lv' := [(1, .int (nI (k + 1))), (0, .ref ob)]) hx hb dX1_thawByOneSwap_30 hl (k := 0) rfl (nI_inc k) (by decide) rfl (fun ls hl => ?_)
          refine lv_goto (tgt := 2) hx hb dX1_thawByOneSwap_33 (by decide) ?_
          obtain ⟨hP, hD⟩ := wI (g := tw Z (k + 1)) hP hD 2 rfl (fun j hj => by first | exact tw_n (Int32.not_lt.mpr (by assumption)) | exact tw_s (by rw [tw_k, tw1, if_pos (Int32.not_le.mp (by assumption))]))
          replace hP : va_P D vwCl [(ob, .inr (1, [.int (nI n), .ref nu, .ref fr])), (nu, .inl (G 0, 16, .inl N)), (fr, .inl (G 0, 16, .inl (tw Z (k + 1))))] _ := hP
          have hD : va_D A [(ob, .inr (1, [.int (nI n), .ref nu, .ref fr])), (nu, .inl (G 0, 16, .inl N)), (fr, .inl (G 0, 16, .inl (tw Z (k + 1))))] := hD
          exact ih2 (k + 1) (by omega) (by omega)  _ _ hP hD hS _ (lv_sub hl [0, 1] rfl)
  obtain ⟨hP, hD⟩ := wI (g := tw Z 0) hP hD 2 rfl (fun j hj => by rw [tw_0])
  replace hP : va_P D vwCl [(ob, .inr (1, [.int (nI n), .ref nu, .ref fr])), (nu, .inl (G 0, 16, .inl N)), (fr, .inl (G 0, 16, .inl (tw Z 0)))] _ := hP
  have hD : va_D A [(ob, .inr (1, [.int (nI n), .ref nu, .ref fr])), (nu, .inl (G 0, 16, .inl N)), (fr, .inl (G 0, 16, .inl (tw Z 0)))] := hD
  exact LP2 (16 + 1 - 0) 0 (by omega) (by omega)  _ _ hP hD hS _ (lv_sub hl [0, 1] rfl)

set_option maxHeartbeats 4000000 in
set_option maxRecDepth 100000 in
theorem mX1_thawAll (l : Launch) (D : va_G) (G : Nat → ClassId) (ob nu fr n : Nat) (N Z : Nat → Int32) (hn : n = 3 ∨ n = 4) : CT l yX1_thawAll wsX1_thawAll 0 0 D G [.ref ob] [(ob, .inr (1, [.int (nI n), .ref nu, .ref fr])), (nu, .inl (G 0, 16, .inl N)), (fr, .inl (G 0, 16, .inl Z))] [(ob, .inr (1, [.int (nI n), .ref nu, .ref fr])), (nu, .inl (G 0, 16, .inl N)), (fr, .inl (G 0, 16, .inl zr))] none := by
  refine CT.of (cc := cX1_thawAll) (maxL := 2) (ret := none) (by decide) rfl RX1 rfl (Nat.le_of_ble_eq_true rfl) (fun pp ee s mm bl me cc A ls hx hb hr hml hts hown hlk hnm hA hP hK hD hN hS hl => ?_)
  have hl : lv_has ls 2 [(0, .ref ob)] := hl
  have hP : va_P D vwCl [(ob, .inr (1, [.int (nI n), .ref nu, .ref fr])), (nu, .inl (G 0, 16, .inl N)), (fr, .inl (G 0, 16, .inl Z))] s.heap := hP
  have inX1 : ∀ w ∈ wsX10, w ∈ wsX1_thawAll := fun w h => List.mem_cons_of_mem _ (List.mem_append_right _ h)
  have k19 := hts (.fieldLink RX1 19 "SquareStakes$Square" "frozen" "[I") (List.mem_of_getElem? (i := 1) rfl)
  refine lv_iconst (v := nI 0) hx hb dX1_thawAll_0 (by decide +kernel) ?_
  refine lv_istore_n (lv' := [(1, .int (nI 0)), (0, .ref ob)]) hx hb dX1_thawAll_1 rfl hl (by decide) rfl (fun ls hl => ?_)
  have LP2 : ∀ (nn2 k : Nat), k ≤ 16 → 16 < k + nn2  → ∀ (H : Heap) (locs : List Loc), va_P D vwCl [(ob, .inr (1, [.int (nI n), .ref nu, .ref fr])), (nu, .inl (G 0, 16, .inl N)), (fr, .inl (G 0, 16, .inl (fst_ zr Z k)))] H → va_D A [(ob, .inr (1, [.int (nI n), .ref nu, .ref fr])), (nu, .inl (G 0, 16, .inl N)), (fr, .inl (G 0, 16, .inl (fst_ zr Z k)))] → va_S A s.heap H locs → ∀ ls : Array Slot, lv_has ls 2 [(1, .int (nI k)), (0, .ref ob)] → W pp l ee (rmA 0 0) s mm ([.ref ob] : List Value).toArray bl me cc H locs 0 0 (MQ bl (Qres none D G [(ob, .inr (1, [.int (nI n), .ref nu, .ref fr])), (nu, .inl (G 0, 16, .inl N)), (fr, .inl (G 0, 16, .inl zr))] A) ([.ref ob] : List Value).toArray s 0 0 A) (F0 mm 2 ls []) := by
    intro nn2
    induction nn2 with
    | zero => intro k h1 h2; exact absurd h2 (by omega)
    | succ nn2 ih2 =>
      intro k hkk hnk  H locs hP hD hS ls hl
      refine lv_iload_n hx hb dX1_thawAll_2 rfl (lv_at hl 0 rfl) ?_
      refine lv_aload_n hx hb dX1_thawAll_3 rfl (lv_at hl 1 rfl) ?_
      refine va_get (D := D) (ci := 1) (v := .ref fr) (C := RX1) (T := TX1) (N := 3) hx hb hts inX1 hown hK hP 0 rfl rfl 2 (by decide) k19 (fun _ h9 => h9) rfl dX1_thawAll_4 ?_
      refine va_alen (v := nI 16) hx hb hK hP 2 0 rfl rfl rfl dX1_thawAll_7 ?_
      refine bGe (tgt := 24) hx hb dX1_thawAll_8 (by decide) (by omega) (by omega) (fun c1 => ?_) (fun c1 => ?_)
      · obtain rfl : 16 = k := by omega
        obtain ⟨hP, hD⟩ := wI (g := zr) hP hD 2 rfl (fun j hj => fst_all hj)
        replace hP : va_P D vwCl [(ob, .inr (1, [.int (nI n), .ref nu, .ref fr])), (nu, .inl (G 0, 16, .inl N)), (fr, .inl (G 0, 16, .inl zr))] _ := hP
        have hD : va_D A [(ob, .inr (1, [.int (nI n), .ref nu, .ref fr])), (nu, .inl (G 0, 16, .inl N)), (fr, .inl (G 0, 16, .inl zr))] := hD
        exact rVret hx hb hr hlk hP hK hD hS dX1_thawAll_24
      · refine lv_aload_n hx hb dX1_thawAll_11 rfl (lv_at hl 1 rfl) ?_
        refine va_get (D := D) (ci := 1) (v := .ref fr) (C := RX1) (T := TX1) (N := 3) hx hb hts inX1 hown hK hP 0 rfl rfl 2 (by decide) k19 (fun _ h9 => h9) rfl dX1_thawAll_12 ?_
        refine lv_iload_n hx hb dX1_thawAll_15 rfl (lv_at hl 0 rfl) ?_
        refine lv_iconst (v := nI 0) hx hb dX1_thawAll_16 (by decide +kernel) ?_
        refine rIast hx hb hK hP hD hS 2 rfl k (by omega) (by decide) dX1_thawAll_17 (fun H locs hP hD hS => ?_)
        have hP : va_P D vwCl [(ob, .inr (1, [.int (nI n), .ref nu, .ref fr])), (nu, .inl (G 0, 16, .inl N)), (fr, .inl (G 0, 16, .inl (upd (fst_ zr Z k) k (nI 0))))] H := hP
        have hD : va_D A [(ob, .inr (1, [.int (nI n), .ref nu, .ref fr])), (nu, .inl (G 0, 16, .inl N)), (fr, .inl (G 0, 16, .inl (upd (fst_ zr Z k) k (nI 0))))] := hD
        refine lv_iinc (v := nI (k + 1)) (lv' := [(1, .int (nI (k + 1))), (0, .ref ob)]) hx hb dX1_thawAll_18 hl (k := 0) rfl (nI_inc k) (by decide) rfl (fun ls hl => ?_)
        refine lv_goto (tgt := 2) hx hb dX1_thawAll_21 (by decide) ?_
        obtain ⟨hP, hD⟩ := wI (g := fst_ zr Z (k + 1)) hP hD 2 rfl (fun j hj => fst_s rfl)
        replace hP : va_P D vwCl [(ob, .inr (1, [.int (nI n), .ref nu, .ref fr])), (nu, .inl (G 0, 16, .inl N)), (fr, .inl (G 0, 16, .inl (fst_ zr Z (k + 1))))] _ := hP
        have hD : va_D A [(ob, .inr (1, [.int (nI n), .ref nu, .ref fr])), (nu, .inl (G 0, 16, .inl N)), (fr, .inl (G 0, 16, .inl (fst_ zr Z (k + 1))))] := hD
        exact ih2 (k + 1) (by omega) (by omega)  _ _ hP hD hS _ (lv_sub hl [0, 1] rfl)
  obtain ⟨hP, hD⟩ := wI (g := fst_ zr Z 0) hP hD 2 rfl (fun j hj => by rw [fst_0])
  replace hP : va_P D vwCl [(ob, .inr (1, [.int (nI n), .ref nu, .ref fr])), (nu, .inl (G 0, 16, .inl N)), (fr, .inl (G 0, 16, .inl (fst_ zr Z 0)))] _ := hP
  have hD : va_D A [(ob, .inr (1, [.int (nI n), .ref nu, .ref fr])), (nu, .inl (G 0, 16, .inl N)), (fr, .inl (G 0, 16, .inl (fst_ zr Z 0)))] := hD
  exact LP2 (16 + 1 - 0) 0 (by omega) (by omega)  _ _ hP hD hS _ (lv_sub hl [0, 1] rfl)

set_option maxHeartbeats 4000000 in
set_option maxRecDepth 100000 in
theorem mX1_frozenCells (l : Launch) (D : va_G) (G : Nat → ClassId) (ob nu fr n : Nat) (N Z : Nat → Int32) (hn : n = 3 ∨ n = 4) : CT l yX1_frozenCells wsX1_frozenCells 0 0 D G [.ref ob] [(ob, .inr (1, [.int (nI n), .ref nu, .ref fr])), (nu, .inl (G 0, 16, .inl N)), (fr, .inl (G 0, 16, .inl Z))] [(ob, .inr (1, [.int (nI n), .ref nu, .ref fr])), (nu, .inl (G 0, 16, .inl N)), (fr, .inl (G 0, 16, .inl Z))] (some (.int (nI (fz Z 16)))) := by
  refine CT.of (cc := cX1_frozenCells) (maxL := 3) (ret := (some .int)) (by decide) rfl RX1 rfl (Nat.le_of_ble_eq_true rfl) (fun pp ee s mm bl me cc A ls hx hb hr hml hts hown hlk hnm hA hP hK hD hN hS hl => ?_)
  have hl : lv_has ls 3 [(0, .ref ob)] := hl
  have hP : va_P D vwCl [(ob, .inr (1, [.int (nI n), .ref nu, .ref fr])), (nu, .inl (G 0, 16, .inl N)), (fr, .inl (G 0, 16, .inl Z))] s.heap := hP
  have inX1 : ∀ w ∈ wsX10, w ∈ wsX1_frozenCells := fun w h => List.mem_cons_of_mem _ (List.mem_append_right _ h)
  have k19 := hts (.fieldLink RX1 19 "SquareStakes$Square" "frozen" "[I") (List.mem_of_getElem? (i := 1) rfl)
  refine lv_iconst (v := nI 0) hx hb dX1_frozenCells_0 (by decide +kernel) ?_
  refine lv_istore_n (lv' := [(1, .int (nI 0)), (0, .ref ob)]) hx hb dX1_frozenCells_1 rfl hl (by decide) rfl (fun ls hl => ?_)
  refine lv_iconst (v := nI 0) hx hb dX1_frozenCells_2 (by decide +kernel) ?_
  refine lv_istore_n (lv' := [(2, .int (nI 0)), (1, .int (nI 0)), (0, .ref ob)]) hx hb dX1_frozenCells_3 rfl hl (by decide) rfl (fun ls hl => ?_)
  have LP4 : ∀ (nn4 k : Nat), k ≤ 16 → 16 < k + nn4  → ∀ (H : Heap) (locs : List Loc), va_P D vwCl [(ob, .inr (1, [.int (nI n), .ref nu, .ref fr])), (nu, .inl (G 0, 16, .inl N)), (fr, .inl (G 0, 16, .inl Z))] H → va_D A [(ob, .inr (1, [.int (nI n), .ref nu, .ref fr])), (nu, .inl (G 0, 16, .inl N)), (fr, .inl (G 0, 16, .inl Z))] → va_S A s.heap H locs → ∀ ls : Array Slot, lv_has ls 3 [(1, .int (nI (fz Z k))), (2, .int (nI k)), (0, .ref ob)] → W pp l ee (rmA 0 0) s mm ([.ref ob] : List Value).toArray bl me cc H locs 0 0 (MQ bl (Qres (some (.int (nI (fz Z 16)))) D G [(ob, .inr (1, [.int (nI n), .ref nu, .ref fr])), (nu, .inl (G 0, 16, .inl N)), (fr, .inl (G 0, 16, .inl Z))] A) ([.ref ob] : List Value).toArray s 0 0 A) (F0 mm 4 ls []) := by
    intro nn4
    induction nn4 with
    | zero => intro k h1 h2; exact absurd h2 (by omega)
    | succ nn4 ih4 =>
      intro k hkk hnk  H locs hP hD hS ls hl
      refine lv_iload_n hx hb dX1_frozenCells_4 rfl (lv_at hl 1 rfl) ?_
      refine lv_aload_n hx hb dX1_frozenCells_5 rfl (lv_at hl 2 rfl) ?_
      refine va_get (D := D) (ci := 1) (v := .ref fr) (C := RX1) (T := TX1) (N := 3) hx hb hts inX1 hown hK hP 0 rfl rfl 2 (by decide) k19 (fun _ h9 => h9) rfl dX1_frozenCells_6 ?_
      refine va_alen (v := nI 16) hx hb hK hP 2 0 rfl rfl rfl dX1_frozenCells_9 ?_
      refine bGe (tgt := 31) hx hb dX1_frozenCells_10 (by decide) (by omega) (by omega) (fun c1 => ?_) (fun c1 => ?_)
      · obtain rfl : 16 = k := by omega
        refine lv_iload_n hx hb dX1_frozenCells_31 rfl (lv_at hl 0 rfl) ?_
        exact rIret hx hb hr hlk hP hK hD hS dX1_frozenCells_32
      · refine lv_aload_n hx hb dX1_frozenCells_13 rfl (lv_at hl 2 rfl) ?_
        refine va_get (D := D) (ci := 1) (v := .ref fr) (C := RX1) (T := TX1) (N := 3) hx hb hts inX1 hown hK hP 0 rfl rfl 2 (by decide) k19 (fun _ h9 => h9) rfl dX1_frozenCells_14 ?_
        refine lv_iload_n hx hb dX1_frozenCells_17 rfl (lv_at hl 1 rfl) ?_
        refine rIald hx hb hK hP 2 rfl k (by omega) (by decide) dX1_frozenCells_18 ?_
        refine lv_if_le (tgt := 25) hx hb dX1_frozenCells_19 (by decide)  (fun c2 => ?_) (fun c2 => ?_)
        · rw [show nI (fz Z k) = nI (fz Z (k + 1)) from by first | rw [fz_t (Int32.not_le.mp (by assumption))] | rw [fz_f (Int32.not_lt.mpr (by assumption))]] at hl
          refine lv_iinc (v := nI (k + 1)) (lv' := [(2, .int (nI (k + 1))), (1, .int (nI (fz Z (k + 1)))), (0, .ref ob)]) hx hb dX1_frozenCells_25 hl (k := 1) rfl (nI_inc k) (by decide) rfl (fun ls hl => ?_)
          refine lv_goto (tgt := 4) hx hb dX1_frozenCells_28 (by decide) ?_
          exact ih4 (k + 1) (by omega) (by omega)  _ _ hP hD hS _ (lv_sub hl [1, 0, 2] rfl)
        · refine lv_iinc (v := nI (fz Z k + 1)) (lv' := [(1, .int (nI (fz Z k + 1))), (2, .int (nI k)), (0, .ref ob)]) hx hb dX1_frozenCells_22 hl (k := 0) rfl (nI_inc (fz Z k)) (by decide) rfl (fun ls hl => ?_)
          rw [show nI (fz Z k + 1) = nI (fz Z (k + 1)) from by first | rw [fz_t (Int32.not_le.mp (by assumption))] | rw [fz_f (Int32.not_lt.mpr (by assumption))]] at hl
          refine lv_iinc (v := nI (k + 1)) (lv' := [(2, .int (nI (k + 1))), (1, .int (nI (fz Z (k + 1)))), (0, .ref ob)]) hx hb dX1_frozenCells_25 hl (k := 1) rfl (nI_inc k) (by decide) rfl (fun ls hl => ?_)
          refine lv_goto (tgt := 4) hx hb dX1_frozenCells_28 (by decide) ?_
          exact ih4 (k + 1) (by omega) (by omega)  _ _ hP hD hS _ (lv_sub hl [1, 0, 2] rfl)
  exact LP4 (16 + 1 - 0) 0 (by omega) (by omega)  _ _ hP hD hS _ (lv_sub hl [1, 0, 2] rfl)

set_option maxHeartbeats 4000000 in
set_option maxRecDepth 100000 in
theorem mX1_takeFrom (l : Launch) (D : va_G) (G : Nat → ClassId) (ob nu fr n : Nat) (N Z : Nat → Int32) (obx nux frx nx : Nat) (Nx Zx : Nat → Int32)  : CT l yX1_takeFrom wsX1_takeFrom 1 40 D G [.ref ob, .ref obx] [(ob, .inr (1, [.int (nI n), .ref nu, .ref fr])), (nu, .inl (G 0, 16, .inl N)), (fr, .inl (G 0, 16, .inl Z)), (obx, .inr (1, [.int (nI nx), .ref nux, .ref frx])), (nux, .inl (G 0, 16, .inl Nx)), (frx, .inl (G 0, 16, .inl Zx))] [(ob, .inr (1, [.int (nI nx), .ref nu, .ref fr])), (nu, .inl (G 0, 16, .inl Nx)), (fr, .inl (G 0, 16, .inl Zx)), (obx, .inr (1, [.int (nI nx), .ref nux, .ref frx])), (nux, .inl (G 0, 16, .inl Nx)), (frx, .inl (G 0, 16, .inl Zx))] none := by
  refine CT.of (cc := cX1_takeFrom) (maxL := 2) (ret := none) (by decide) rfl RX1 rfl (Nat.le_of_ble_eq_true rfl) (fun pp ee s mm bl me cc A ls hx hb hr hml hts hown hlk hnm hA hP hK hD hN hS hl => ?_)
  have hl : lv_has ls 2 [(0, .ref ob), (1, .ref obx)] := hl
  have hP : va_P D vwCl [(ob, .inr (1, [.int (nI n), .ref nu, .ref fr])), (nu, .inl (G 0, 16, .inl N)), (fr, .inl (G 0, 16, .inl Z)), (obx, .inr (1, [.int (nI nx), .ref nux, .ref frx])), (nux, .inl (G 0, 16, .inl Nx)), (frx, .inl (G 0, 16, .inl Zx))] s.heap := hP
  have inX1 : ∀ w ∈ wsX10, w ∈ wsX1_takeFrom := fun w h => List.mem_cons_of_mem _ (List.mem_append_right _ h)
  have k11 := hts (.fieldLink RX1 11 "SquareStakes$Square" "side" "I") (List.mem_of_getElem? (i := 1) rfl)
  have k15 := hts (.fieldLink RX1 15 "SquareStakes$Square" "numbers" "[I") (List.mem_of_getElem? (i := 2) rfl)
  have lk22 := hts (.methodLink RX1 22 arraycopyName) (List.mem_of_getElem? (i := 3) rfl)
  have na22 := hts (.native arraycopyName) (List.mem_of_getElem? (i := 4) rfl)
  have st22 := hts (.static arraycopyName) (List.mem_of_getElem? (i := 5) rfl)
  have in22 := hts (.initialized "java/lang/System") (List.mem_of_getElem? (i := 6) rfl)
  have k19 := hts (.fieldLink RX1 19 "SquareStakes$Square" "frozen" "[I") (List.mem_of_getElem? (i := 7) rfl)
  refine lv_aload_n hx hb dX1_takeFrom_0 rfl (lv_at hl 0 rfl) ?_
  refine lv_aload_n hx hb dX1_takeFrom_1 rfl (lv_at hl 1 rfl) ?_
  refine va_get (D := D) (ci := 1) (v := .int (nI nx)) (C := RX1) (T := TX1) (N := 3) hx hb hts inX1 hown hK hP 3 rfl rfl 0 (by decide) k11 (fun _ h9 => h9) rfl dX1_takeFrom_2 ?_
  refine va_put (D := D) (ci := 1) (v := .int (nI nx)) (ty := .int) (C := RX1) (T := TX1) (N := 3) hx hb hts inX1 tyX1 tyX1_ok nmX1 hown hK hP hD hS 0 rfl rfl 0 (by decide) k11 (fun _ h9 => h9) rfl (by decide +kernel) rfl rfl (Nat.le_of_ble_eq_true rfl) dX1_takeFrom_5 (fun H locs hP hD hS => ?_)
  have hP : va_P D vwCl [(ob, .inr (1, [.int (nI nx), .ref nu, .ref fr])), (nu, .inl (G 0, 16, .inl N)), (fr, .inl (G 0, 16, .inl Z)), (obx, .inr (1, [.int (nI nx), .ref nux, .ref frx])), (nux, .inl (G 0, 16, .inl Nx)), (frx, .inl (G 0, 16, .inl Zx))] H := hP
  have hD : va_D A [(ob, .inr (1, [.int (nI nx), .ref nu, .ref fr])), (nu, .inl (G 0, 16, .inl N)), (fr, .inl (G 0, 16, .inl Z)), (obx, .inr (1, [.int (nI nx), .ref nux, .ref frx])), (nux, .inl (G 0, 16, .inl Nx)), (frx, .inl (G 0, 16, .inl Zx))] := hD
  refine lv_aload_n hx hb dX1_takeFrom_8 rfl (lv_at hl 1 rfl) ?_
  refine va_get (D := D) (ci := 1) (v := .ref nux) (C := RX1) (T := TX1) (N := 3) hx hb hts inX1 hown hK hP 3 rfl rfl 1 (by decide) k15 (fun _ h9 => h9) rfl dX1_takeFrom_9 ?_
  refine lv_iconst (v := nI 0) hx hb dX1_takeFrom_12 (by decide +kernel) ?_
  refine lv_aload_n hx hb dX1_takeFrom_13 rfl (lv_at hl 0 rfl) ?_
  refine va_get (D := D) (ci := 1) (v := .ref nu) (C := RX1) (T := TX1) (N := 3) hx hb hts inX1 hown hK hP 0 rfl rfl 1 (by decide) k15 (fun _ h9 => h9) rfl dX1_takeFrom_14 ?_
  refine lv_iconst (v := nI 0) hx hb dX1_takeFrom_17 (by decide +kernel) ?_
  refine lv_bipush (v := nI 16) hx hb dX1_takeFrom_18 (by decide +kernel) ?_
  refine va_copyi hx hb (hml.trans hl.1.symm) hown lk22 na22 st22 in22 hK hP hD hS 4 1 0 0 rfl rfl rfl rfl rfl (by decide) (by decide) (by decide) (by decide) (by decide) (fun _ _ => rfl) (by decide) (Nat.le_of_ble_eq_true rfl) dX1_takeFrom_20 (fun H locs hP hD hS => ?_)
  obtain ⟨hP, hD⟩ := wI (g := Nx) hP hD 1 rfl (fun j hj => cpy_all hj)
  replace hP : va_P D vwCl [(ob, .inr (1, [.int (nI nx), .ref nu, .ref fr])), (nu, .inl (G 0, 16, .inl Nx)), (fr, .inl (G 0, 16, .inl Z)), (obx, .inr (1, [.int (nI nx), .ref nux, .ref frx])), (nux, .inl (G 0, 16, .inl Nx)), (frx, .inl (G 0, 16, .inl Zx))] _ := hP
  have hD : va_D A [(ob, .inr (1, [.int (nI nx), .ref nu, .ref fr])), (nu, .inl (G 0, 16, .inl Nx)), (fr, .inl (G 0, 16, .inl Z)), (obx, .inr (1, [.int (nI nx), .ref nux, .ref frx])), (nux, .inl (G 0, 16, .inl Nx)), (frx, .inl (G 0, 16, .inl Zx))] := hD
  refine lv_aload_n hx hb dX1_takeFrom_23 rfl (lv_at hl 1 rfl) ?_
  refine va_get (D := D) (ci := 1) (v := .ref frx) (C := RX1) (T := TX1) (N := 3) hx hb hts inX1 hown hK hP 3 rfl rfl 2 (by decide) k19 (fun _ h9 => h9) rfl dX1_takeFrom_24 ?_
  refine lv_iconst (v := nI 0) hx hb dX1_takeFrom_27 (by decide +kernel) ?_
  refine lv_aload_n hx hb dX1_takeFrom_28 rfl (lv_at hl 0 rfl) ?_
  refine va_get (D := D) (ci := 1) (v := .ref fr) (C := RX1) (T := TX1) (N := 3) hx hb hts inX1 hown hK hP 0 rfl rfl 2 (by decide) k19 (fun _ h9 => h9) rfl dX1_takeFrom_29 ?_
  refine lv_iconst (v := nI 0) hx hb dX1_takeFrom_32 (by decide +kernel) ?_
  refine lv_bipush (v := nI 16) hx hb dX1_takeFrom_33 (by decide +kernel) ?_
  refine va_copyi hx hb (hml.trans hl.1.symm) hown lk22 na22 st22 in22 hK hP hD hS 5 2 0 0 rfl rfl rfl rfl rfl (by decide) (by decide) (by decide) (by decide) (by decide) (fun _ _ => rfl) (by decide) (Nat.le_of_ble_eq_true rfl) dX1_takeFrom_35 (fun H locs hP hD hS => ?_)
  obtain ⟨hP, hD⟩ := wI (g := Zx) hP hD 2 rfl (fun j hj => cpy_all hj)
  replace hP : va_P D vwCl [(ob, .inr (1, [.int (nI nx), .ref nu, .ref fr])), (nu, .inl (G 0, 16, .inl Nx)), (fr, .inl (G 0, 16, .inl Zx)), (obx, .inr (1, [.int (nI nx), .ref nux, .ref frx])), (nux, .inl (G 0, 16, .inl Nx)), (frx, .inl (G 0, 16, .inl Zx))] _ := hP
  have hD : va_D A [(ob, .inr (1, [.int (nI nx), .ref nu, .ref fr])), (nu, .inl (G 0, 16, .inl Nx)), (fr, .inl (G 0, 16, .inl Zx)), (obx, .inr (1, [.int (nI nx), .ref nux, .ref frx])), (nux, .inl (G 0, 16, .inl Nx)), (frx, .inl (G 0, 16, .inl Zx))] := hD
  exact rVret hx hb hr hlk hP hK hD hS dX1_takeFrom_38
