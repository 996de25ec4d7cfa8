set_option maxHeartbeats 4000000 in
set_option maxRecDepth 100000 in
theorem mX6_linesOf_1 (l : Launch) (D : va_G) (G : Nat → ClassId) (mo sa be ke te kn ty : Nat) (ik : Bool) (n tn k : Nat) (N Z S P V : Nat → Int32) (F : Nat → Nat → Int32) (po rd al : Int32) (q : Nat) (hn : n = 3 ∨ n = 4) (hq : q < n * n) : CT l yX6_linesOf wsX6_linesOf 3 70 D G [.ref mo, .int (nI q), .int (nI 1)] [(mo, .inr (6, [.ref sa, .ref be, .int (nI kn), .ref ke, .int (zB ik), .ref te, .int (nI ty)])), (sa, .inl (G 0, 117, .inl (enc n N Z tn po rd al k S P V F)))] [(mo, .inr (6, [.ref sa, .ref be, .int (nI kn), .ref ke, .int (zB ik), .ref te, .int (nI ty)])), (sa, .inl (G 0, 117, .inl (enc n N Z tn po rd al k S P V F)))] (some (.int (nI (ltm n N q (2 * n + 2))))) := by
  refine CT.of (cc := cX6_linesOf) (maxL := 5) (ret := (some .int)) (by decide) rfl RX6 rfl (Nat.le_of_ble_eq_true rfl) (fun pp ee s mm bl me cc A ls hx hb hr hml hts hown hlk hnm hA hP hK hD hN hS hl => ?_)
  have hl : lv_has ls 5 [(0, .ref mo), (1, .int (nI q)), (2, .int (nI 1))] := hl
  have hP : va_P D vwCl [(mo, .inr (6, [.ref sa, .ref be, .int (nI kn), .ref ke, .int (zB ik), .ref te, .int (nI ty)])), (sa, .inl (G 0, 117, .inl (enc n N Z tn po rd al k S P V F)))] s.heap := hP
  have hq9 : n * n < 17 ∧ 0 < n * n := by rcases hn with rfl | rfl <;> decide
  refine lv_iconst (v := nI 0) hx hb dX6_linesOf_0 (by decide +kernel) ?_
  refine lv_istore_n (lv' := [(3, .int (nI 0)), (0, .ref mo), (1, .int (nI q)), (2, .int (nI 1))]) hx hb dX6_linesOf_1 rfl hl (by decide) rfl (fun ls hl => ?_)
  refine lv_iconst (v := nI 0) hx hb dX6_linesOf_2 (by decide +kernel) ?_
  refine lv_istore (lv' := [(4, .int (nI 0)), (3, .int (nI 0)), (0, .ref mo), (1, .int (nI q)), (2, .int (nI 1))]) hx hb dX6_linesOf_3 hl (by decide) rfl (fun ls hl => ?_)
  have LP5 : ∀ (nn5 c_ : Nat), c_ ≤ (2 * n + 2) → (2 * n + 2) < c_ + nn5  → ∀ (H : Heap) (locs : List Loc), va_P D vwCl [(mo, .inr (6, [.ref sa, .ref be, .int (nI kn), .ref ke, .int (zB ik), .ref te, .int (nI ty)])), (sa, .inl (G 0, 117, .inl (enc n N Z tn po rd al k S P V F)))] H → va_D A [(mo, .inr (6, [.ref sa, .ref be, .int (nI kn), .ref ke, .int (zB ik), .ref te, .int (nI ty)])), (sa, .inl (G 0, 117, .inl (enc n N Z tn po rd al k S P V F)))] → va_S A s.heap H locs → ∀ ls : Array Slot, lv_has ls 5 [(3, .int (nI (ltm n N q c_))), (4, .int (nI c_)), (0, .ref mo), (1, .int (nI q)), (2, .int (nI 1))] → W pp l ee (rmA 3 70) s mm ([.ref mo, .int (nI q), .int (nI 1)] : List Value).toArray bl me cc H locs 0 0 (MQ bl (Qres (some (.int (nI (ltm n N q (2 * n + 2))))) D G [(mo, .inr (6, [.ref sa, .ref be, .int (nI kn), .ref ke, .int (zB ik), .ref te, .int (nI ty)])), (sa, .inl (G 0, 117, .inl (enc n N Z tn po rd al k S P V F)))] A) ([.ref mo, .int (nI q), .int (nI 1)] : List Value).toArray s 0 0 A) (F0 mm 5 ls []) := by
    intro nn5
    induction nn5 with
    | zero => intro c_ h1 h2; exact absurd h2 (by omega)
    | succ nn5 ih5 =>
      intro c_ hkc_ hnc_  H locs hP hD hS ls hl
      refine lv_iload hx hb dX6_linesOf_5 (lv_at hl 1 rfl) ?_
      refine lv_aload_n hx hb dX6_linesOf_7 rfl (lv_at hl 2 rfl) ?_
      refine cVr (As := []) (rest := [.int (nI c_)]) ⟨hx, hb, hml, hown, hts⟩ hP hK hD hS hN hA (mX6_lines l D G mo sa be ke te kn ty ik n tn k N Z S P V F po rd al (by first | assumption | omega)) (cwV 0 hts gX6_linesOf_X6_lines rfl rfl rfl (by decide +kernel) ⟨Nat.le_of_ble_eq_true rfl, Nat.le_of_ble_eq_true rfl⟩) [0, 1] rfl (by decide) 0 6 rfl rfl rfl hl.1 rfl (Nat.le_of_ble_eq_true rfl) dX6_linesOf_8 ⟨Nat.zero_le _, Nat.zero_le _⟩ (fun H locs hP hS => ?_)
      refine bGe (tgt := 51) hx hb dX6_linesOf_11 (by decide) (by omega) (by omega) (fun c1 => ?_) (fun c1 => ?_)
      · obtain rfl : 2 * n + 2 = c_ := by omega
        refine lv_iload_n hx hb dX6_linesOf_51 rfl (lv_at hl 0 rfl) ?_
        exact rIret hx hb hr hlk hP hK hD hS dX6_linesOf_52
      · refine lv_iload_n hx hb dX6_linesOf_14 rfl (lv_at hl 0 rfl) ?_
        refine lv_aload_n hx hb dX6_linesOf_15 rfl (lv_at hl 2 rfl) ?_
        refine lv_iload hx hb dX6_linesOf_16 (lv_at hl 1 rfl) ?_
        refine lv_iload_n hx hb dX6_linesOf_18 rfl (lv_at hl 3 rfl) ?_
        refine cVr (As := [.int (nI c_), .int (nI q)]) (rest := [.int (nI (ltm n N q c_))]) ⟨hx, hb, hml, hown, hts⟩ hP hK hD hS hN hA (mX6_isOn l D G mo sa be ke te kn ty ik n tn k N Z S P V F po rd al c_ q (by first | assumption | omega) (by first | assumption | omega) (by first | assumption | omega)) (cwV 2 hts gX6_linesOf_X6_isOn rfl rfl rfl (by decide +kernel) ⟨Nat.le_of_ble_eq_true rfl, Nat.le_of_ble_eq_true rfl⟩) [0, 1] rfl (by decide) 0 6 rfl rfl rfl hl.1 rfl (Nat.le_of_ble_eq_true rfl) dX6_linesOf_19 ⟨Nat.zero_le _, Nat.zero_le _⟩ (fun H locs hP hS => ?_)
        refine zEq (tgt := 42) hx hb dX6_linesOf_22 (by decide)  (fun c2 => ?_) (fun c2 => ?_)
        · refine lv_iconst (v := nI 0) hx hb dX6_linesOf_42 (by decide +kernel) ?_
          refine lv_iadd hx hb dX6_linesOf_43 ?_
          refine rTop (show nI (ltm n N q c_) + nI 0 = nI (ltm n N q c_ + 0) from nI_add (ltm n N q c_) 0) ?_
          refine rTop (show nI (ltm n N q c_ + 0) = nI (ltm n N q (c_ + 1)) from by first | exact ltmO_t (by assumption) (by assumption) | exact ltmO_f1 (by assumption) | exact ltmO_f2 (by assumption)) ?_
          refine lv_istore_n (lv' := [(3, .int (nI (ltm n N q (c_ + 1)))), (4, .int (nI c_)), (0, .ref mo), (1, .int (nI q)), (2, .int (nI 1))]) hx hb dX6_linesOf_44 rfl hl (by decide) rfl (fun ls hl => ?_)
          refine lv_iinc (v := nI (c_ + 1)) (lv' := [(4, .int (nI (c_ + 1))), (3, .int (nI (ltm n N q (c_ + 1)))), (0, .ref mo), (1, .int (nI q)), (2, .int (nI 1))]) hx hb dX6_linesOf_45 hl (k := 1) rfl (nI_inc c_) (by decide) rfl (fun ls hl => ?_)
          refine lv_goto (tgt := 5) hx hb dX6_linesOf_48 (by decide) ?_
          exact ih5 (c_ + 1) (by omega) (by omega)  _ _ hP hD hS _ (lv_sub hl [1, 0, 2, 3, 4] rfl)
        · refine lv_iload_n hx hb dX6_linesOf_25 rfl (lv_at hl 4 rfl) ?_
          refine iEq (tgt := 38) hx hb dX6_linesOf_26 (by decide) (by omega) (fun c3 => by exfalso; omega) (fun c3 => ?_)
          refine lv_aload_n hx hb dX6_linesOf_29 rfl (lv_at hl 2 rfl) ?_
          refine lv_iload hx hb dX6_linesOf_30 (lv_at hl 1 rfl) ?_
          refine cVr (As := [.int (nI c_)]) (rest := [.int (nI (ltm n N q c_))]) ⟨hx, hb, hml, hown, hts⟩ hP hK hD hS hN hA (mX6_off l D G mo sa be ke te kn ty ik n tn k N Z S P V F po rd al c_ (by first | assumption | omega) (by first | assumption | omega)) (cwV 1 hts gX6_linesOf_X6_off rfl rfl rfl (by decide +kernel) ⟨Nat.le_of_ble_eq_true rfl, Nat.le_of_ble_eq_true rfl⟩) [0, 1] rfl (by decide) 0 6 rfl rfl rfl hl.1 rfl (Nat.le_of_ble_eq_true rfl) dX6_linesOf_32 ⟨Nat.zero_le _, Nat.zero_le _⟩ (fun H locs hP hS => ?_)
          refine lv_if_ne (tgt := 42) hx hb dX6_linesOf_35 (by decide)  (fun c4 => ?_) (fun c4 => ?_)
          · refine lv_iconst (v := nI 0) hx hb dX6_linesOf_42 (by decide +kernel) ?_
            refine lv_iadd hx hb dX6_linesOf_43 ?_
            refine rTop (show nI (ltm n N q c_) + nI 0 = nI (ltm n N q c_ + 0) from nI_add (ltm n N q c_) 0) ?_
            refine rTop (show nI (ltm n N q c_ + 0) = nI (ltm n N q (c_ + 1)) from by first | exact ltmO_t (by assumption) (by assumption) | exact ltmO_f1 (by assumption) | exact ltmO_f2 (by assumption)) ?_
            refine lv_istore_n (lv' := [(3, .int (nI (ltm n N q (c_ + 1)))), (4, .int (nI c_)), (0, .ref mo), (1, .int (nI q)), (2, .int (nI 1))]) hx hb dX6_linesOf_44 rfl hl (by decide) rfl (fun ls hl => ?_)
            refine lv_iinc (v := nI (c_ + 1)) (lv' := [(4, .int (nI (c_ + 1))), (3, .int (nI (ltm n N q (c_ + 1)))), (0, .ref mo), (1, .int (nI q)), (2, .int (nI 1))]) hx hb dX6_linesOf_45 hl (k := 1) rfl (nI_inc c_) (by decide) rfl (fun ls hl => ?_)
            refine lv_goto (tgt := 5) hx hb dX6_linesOf_48 (by decide) ?_
            exact ih5 (c_ + 1) (by omega) (by omega)  _ _ hP hD hS _ (lv_sub hl [1, 0, 2, 3, 4] rfl)
          · refine lv_iconst (v := nI 1) hx hb dX6_linesOf_38 (by decide +kernel) ?_
            refine lv_goto (tgt := 43) hx hb dX6_linesOf_39 (by decide) ?_
            refine lv_iadd hx hb dX6_linesOf_43 ?_
            refine rTop (show nI (ltm n N q c_) + nI 1 = nI (ltm n N q c_ + 1) from nI_add (ltm n N q c_) 1) ?_
            refine rTop (show nI (ltm n N q c_ + 1) = nI (ltm n N q (c_ + 1)) from by first | exact ltmO_t (by assumption) (by assumption) | exact ltmO_f1 (by assumption) | exact ltmO_f2 (by assumption)) ?_
            refine lv_istore_n (lv' := [(3, .int (nI (ltm n N q (c_ + 1)))), (4, .int (nI c_)), (0, .ref mo), (1, .int (nI q)), (2, .int (nI 1))]) hx hb dX6_linesOf_44 rfl hl (by decide) rfl (fun ls hl => ?_)
            refine lv_iinc (v := nI (c_ + 1)) (lv' := [(4, .int (nI (c_ + 1))), (3, .int (nI (ltm n N q (c_ + 1)))), (0, .ref mo), (1, .int (nI q)), (2, .int (nI 1))]) hx hb dX6_linesOf_45 hl (k := 1) rfl (nI_inc c_) (by decide) rfl (fun ls hl => ?_)
            refine lv_goto (tgt := 5) hx hb dX6_linesOf_48 (by decide) ?_
            exact ih5 (c_ + 1) (by omega) (by omega)  _ _ hP hD hS _ (lv_sub hl [1, 0, 2, 3, 4] rfl)
  exact LP5 (2 * n + 2 + 1 - 0) 0 (by omega) (by omega)  _ _ hP hD hS _ (lv_sub hl [1, 0, 2, 3, 4] rfl)

set_option maxHeartbeats 4000000 in
set_option maxRecDepth 100000 in
theorem mX6_linesOf_0 (l : Launch) (D : va_G) (G : Nat → ClassId) (mo sa be ke te kn ty : Nat) (ik : Bool) (n tn k : Nat) (N Z S P V : Nat → Int32) (F : Nat → Nat → Int32) (po rd al : Int32) (q : Nat) (hn : n = 3 ∨ n = 4) (hq : q < n * n) : CT l yX6_linesOf wsX6_linesOf 3 70 D G [.ref mo, .int (nI q), .int (nI 0)] [(mo, .inr (6, [.ref sa, .ref be, .int (nI kn), .ref ke, .int (zB ik), .ref te, .int (nI ty)])), (sa, .inl (G 0, 117, .inl (enc n N Z tn po rd al k S P V F)))] [(mo, .inr (6, [.ref sa, .ref be, .int (nI kn), .ref ke, .int (zB ik), .ref te, .int (nI ty)])), (sa, .inl (G 0, 117, .inl (enc n N Z tn po rd al k S P V F)))] (some (.int (nI (lt_ n q (2 * n + 2))))) := by
  refine CT.of (cc := cX6_linesOf) (maxL := 5) (ret := (some .int)) (by decide) rfl RX6 rfl (Nat.le_of_ble_eq_true rfl) (fun pp ee s mm bl me cc A ls hx hb hr hml hts hown hlk hnm hA hP hK hD hN hS hl => ?_)
  have hl : lv_has ls 5 [(0, .ref mo), (1, .int (nI q)), (2, .int (nI 0))] := hl
  have hP : va_P D vwCl [(mo, .inr (6, [.ref sa, .ref be, .int (nI kn), .ref ke, .int (zB ik), .ref te, .int (nI ty)])), (sa, .inl (G 0, 117, .inl (enc n N Z tn po rd al k S P V F)))] s.heap := hP
  have hq9 : n * n < 17 ∧ 0 < n * n := by rcases hn with rfl | rfl <;> decide
  refine lv_iconst (v := nI 0) hx hb dX6_linesOf_0 (by decide +kernel) ?_
  refine lv_istore_n (lv' := [(3, .int (nI 0)), (0, .ref mo), (1, .int (nI q)), (2, .int (nI 0))]) hx hb dX6_linesOf_1 rfl hl (by decide) rfl (fun ls hl => ?_)
  refine lv_iconst (v := nI 0) hx hb dX6_linesOf_2 (by decide +kernel) ?_
  refine lv_istore (lv' := [(4, .int (nI 0)), (3, .int (nI 0)), (0, .ref mo), (1, .int (nI q)), (2, .int (nI 0))]) hx hb dX6_linesOf_3 hl (by decide) rfl (fun ls hl => ?_)
  have LP5 : ∀ (nn5 c_ : Nat), c_ ≤ (2 * n + 2) → (2 * n + 2) < c_ + nn5  → ∀ (H : Heap) (locs : List Loc), va_P D vwCl [(mo, .inr (6, [.ref sa, .ref be, .int (nI kn), .ref ke, .int (zB ik), .ref te, .int (nI ty)])), (sa, .inl (G 0, 117, .inl (enc n N Z tn po rd al k S P V F)))] H → va_D A [(mo, .inr (6, [.ref sa, .ref be, .int (nI kn), .ref ke, .int (zB ik), .ref te, .int (nI ty)])), (sa, .inl (G 0, 117, .inl (enc n N Z tn po rd al k S P V F)))] → va_S A s.heap H locs → ∀ ls : Array Slot, lv_has ls 5 [(3, .int (nI (lt_ n q c_))), (4, .int (nI c_)), (0, .ref mo), (1, .int (nI q)), (2, .int (nI 0))] → W pp l ee (rmA 3 70) s mm ([.ref mo, .int (nI q), .int (nI 0)] : List Value).toArray bl me cc H locs 0 0 (MQ bl (Qres (some (.int (nI (lt_ n q (2 * n + 2))))) D G [(mo, .inr (6, [.ref sa, .ref be, .int (nI kn), .ref ke, .int (zB ik), .ref te, .int (nI ty)])), (sa, .inl (G 0, 117, .inl (enc n N Z tn po rd al k S P V F)))] A) ([.ref mo, .int (nI q), .int (nI 0)] : List Value).toArray s 0 0 A) (F0 mm 5 ls []) := by
    intro nn5
    induction nn5 with
    | zero => intro c_ h1 h2; exact absurd h2 (by omega)
    | succ nn5 ih5 =>
      intro c_ hkc_ hnc_  H locs hP hD hS ls hl
      refine lv_iload hx hb dX6_linesOf_5 (lv_at hl 1 rfl) ?_
      refine lv_aload_n hx hb dX6_linesOf_7 rfl (lv_at hl 2 rfl) ?_
      refine cVr (As := []) (rest := [.int (nI c_)]) ⟨hx, hb, hml, hown, hts⟩ hP hK hD hS hN hA (mX6_lines l D G mo sa be ke te kn ty ik n tn k N Z S P V F po rd al (by first | assumption | omega)) (cwV 0 hts gX6_linesOf_X6_lines rfl rfl rfl (by decide +kernel) ⟨Nat.le_of_ble_eq_true rfl, Nat.le_of_ble_eq_true rfl⟩) [0, 1] rfl (by decide) 0 6 rfl rfl rfl hl.1 rfl (Nat.le_of_ble_eq_true rfl) dX6_linesOf_8 ⟨Nat.zero_le _, Nat.zero_le _⟩ (fun H locs hP hS => ?_)
      refine bGe (tgt := 51) hx hb dX6_linesOf_11 (by decide) (by omega) (by omega) (fun c1 => ?_) (fun c1 => ?_)
      · obtain rfl : 2 * n + 2 = c_ := by omega
        refine lv_iload_n hx hb dX6_linesOf_51 rfl (lv_at hl 0 rfl) ?_
        exact rIret hx hb hr hlk hP hK hD hS dX6_linesOf_52
      · refine lv_iload_n hx hb dX6_linesOf_14 rfl (lv_at hl 0 rfl) ?_
        refine lv_aload_n hx hb dX6_linesOf_15 rfl (lv_at hl 2 rfl) ?_
        refine lv_iload hx hb dX6_linesOf_16 (lv_at hl 1 rfl) ?_
        refine lv_iload_n hx hb dX6_linesOf_18 rfl (lv_at hl 3 rfl) ?_
        refine cVr (As := [.int (nI c_), .int (nI q)]) (rest := [.int (nI (lt_ n q c_))]) ⟨hx, hb, hml, hown, hts⟩ hP hK hD hS hN hA (mX6_isOn l D G mo sa be ke te kn ty ik n tn k N Z S P V F po rd al c_ q (by first | assumption | omega) (by first | assumption | omega) (by first | assumption | omega)) (cwV 2 hts gX6_linesOf_X6_isOn rfl rfl rfl (by decide +kernel) ⟨Nat.le_of_ble_eq_true rfl, Nat.le_of_ble_eq_true rfl⟩) [0, 1] rfl (by decide) 0 6 rfl rfl rfl hl.1 rfl (Nat.le_of_ble_eq_true rfl) dX6_linesOf_19 ⟨Nat.zero_le _, Nat.zero_le _⟩ (fun H locs hP hS => ?_)
        refine zEq (tgt := 42) hx hb dX6_linesOf_22 (by decide)  (fun c2 => ?_) (fun c2 => ?_)
        · refine lv_iconst (v := nI 0) hx hb dX6_linesOf_42 (by decide +kernel) ?_
          refine lv_iadd hx hb dX6_linesOf_43 ?_
          refine rTop (show nI (lt_ n q c_) + nI 0 = nI (lt_ n q c_ + 0) from nI_add (lt_ n q c_) 0) ?_
          refine rTop (show nI (lt_ n q c_ + 0) = nI (lt_ n q (c_ + 1)) from by first | exact ltO_t (by assumption) | exact ltO_f (by assumption)) ?_
          refine lv_istore_n (lv' := [(3, .int (nI (lt_ n q (c_ + 1)))), (4, .int (nI c_)), (0, .ref mo), (1, .int (nI q)), (2, .int (nI 0))]) hx hb dX6_linesOf_44 rfl hl (by decide) rfl (fun ls hl => ?_)
          refine lv_iinc (v := nI (c_ + 1)) (lv' := [(4, .int (nI (c_ + 1))), (3, .int (nI (lt_ n q (c_ + 1)))), (0, .ref mo), (1, .int (nI q)), (2, .int (nI 0))]) hx hb dX6_linesOf_45 hl (k := 1) rfl (nI_inc c_) (by decide) rfl (fun ls hl => ?_)
          refine lv_goto (tgt := 5) hx hb dX6_linesOf_48 (by decide) ?_
          exact ih5 (c_ + 1) (by omega) (by omega)  _ _ hP hD hS _ (lv_sub hl [1, 0, 2, 3, 4] rfl)
        · refine lv_iload_n hx hb dX6_linesOf_25 rfl (lv_at hl 4 rfl) ?_
          refine iEq (tgt := 38) hx hb dX6_linesOf_26 (by decide) (by omega) (fun c3 => ?_) (fun c3 => by exfalso; omega)
          refine lv_iconst (v := nI 1) hx hb dX6_linesOf_38 (by decide +kernel) ?_
          refine lv_goto (tgt := 43) hx hb dX6_linesOf_39 (by decide) ?_
          refine lv_iadd hx hb dX6_linesOf_43 ?_
          refine rTop (show nI (lt_ n q c_) + nI 1 = nI (lt_ n q c_ + 1) from nI_add (lt_ n q c_) 1) ?_
          refine rTop (show nI (lt_ n q c_ + 1) = nI (lt_ n q (c_ + 1)) from by first | exact ltO_t (by assumption) | exact ltO_f (by assumption)) ?_
          refine lv_istore_n (lv' := [(3, .int (nI (lt_ n q (c_ + 1)))), (4, .int (nI c_)), (0, .ref mo), (1, .int (nI q)), (2, .int (nI 0))]) hx hb dX6_linesOf_44 rfl hl (by decide) rfl (fun ls hl => ?_)
          refine lv_iinc (v := nI (c_ + 1)) (lv' := [(4, .int (nI (c_ + 1))), (3, .int (nI (lt_ n q (c_ + 1)))), (0, .ref mo), (1, .int (nI q)), (2, .int (nI 0))]) hx hb dX6_linesOf_45 hl (k := 1) rfl (nI_inc c_) (by decide) rfl (fun ls hl => ?_)
          refine lv_goto (tgt := 5) hx hb dX6_linesOf_48 (by decide) ?_
          exact ih5 (c_ + 1) (by omega) (by omega)  _ _ hP hD hS _ (lv_sub hl [1, 0, 2, 3, 4] rfl)
  exact LP5 (2 * n + 2 + 1 - 0) 0 (by omega) (by omega)  _ _ hP hD hS _ (lv_sub hl [1, 0, 2, 3, 4] rfl)

set_option maxHeartbeats 4000000 in
set_option maxRecDepth 100000 in
theorem mX6_stakesOf_00 (l : Launch) (D : va_G) (G : Nat → ClassId) (mo sa be ke te kn ty : Nat) (ik : Bool) (n tn k : Nat) (N Z S P V : Nat → Int32) (F : Nat → Nat → Int32) (po rd al : Int32) (x : Nat) (hk : k ≤ 10) : CT l yX6_stakesOf wsX6_stakesOf 1 21 D G [.ref mo, .int (nI 0), .int (nI x), .int (nI 0)] [(mo, .inr (6, [.ref sa, .ref be, .int (nI kn), .ref ke, .int (zB ik), .ref te, .int (nI ty)])), (sa, .inl (G 0, 117, .inl (enc n N Z tn po rd al k S P V F)))] [(mo, .inr (6, [.ref sa, .ref be, .int (nI kn), .ref ke, .int (zB ik), .ref te, .int (nI ty)])), (sa, .inl (G 0, 117, .inl (enc n N Z tn po rd al k S P V F)))] (some (.int (nI (cw F 0 (nI x) k)))) := by
  refine CT.of (cc := cX6_stakesOf) (maxL := 6) (ret := (some .int)) (by decide) rfl RX6 rfl (Nat.le_of_ble_eq_true rfl) (fun pp ee s mm bl me cc A ls hx hb hr hml hts hown hlk hnm hA hP hK hD hN hS hl => ?_)
  have hl : lv_has ls 6 [(0, .ref mo), (1, .int (nI 0)), (2, .int (nI x)), (3, .int (nI 0))] := hl
  have hP : va_P D vwCl [(mo, .inr (6, [.ref sa, .ref be, .int (nI kn), .ref ke, .int (zB ik), .ref te, .int (nI ty)])), (sa, .inl (G 0, 117, .inl (enc n N Z tn po rd al k S P V F)))] s.heap := hP
  have inX6 : ∀ w ∈ wsX60, w ∈ wsX6_stakesOf := fun w h => List.mem_cons_of_mem _ (List.mem_append_right _ h)
  have k7 := hts (.fieldLink RX6 7 "SquareStakesModel" "s" "[I") (List.mem_of_getElem? (i := 1) rfl)
  refine lv_iconst (v := nI 0) hx hb dX6_stakesOf_0 (by decide +kernel) ?_
  refine lv_istore (lv' := [(4, .int (nI 0)), (0, .ref mo), (1, .int (nI 0)), (2, .int (nI x)), (3, .int (nI 0))]) hx hb dX6_stakesOf_1 hl (by decide) rfl (fun ls hl => ?_)
  refine lv_iconst (v := nI 0) hx hb dX6_stakesOf_3 (by decide +kernel) ?_
  refine lv_istore (lv' := [(5, .int (nI 0)), (4, .int (nI 0)), (0, .ref mo), (1, .int (nI 0)), (2, .int (nI x)), (3, .int (nI 0))]) hx hb dX6_stakesOf_4 hl (by decide) rfl (fun ls hl => ?_)
  have LP6 : ∀ (nn6 c_ : Nat), c_ ≤ k → k < c_ + nn6  → ∀ (H : Heap) (locs : List Loc), va_P D vwCl [(mo, .inr (6, [.ref sa, .ref be, .int (nI kn), .ref ke, .int (zB ik), .ref te, .int (nI ty)])), (sa, .inl (G 0, 117, .inl (enc n N Z tn po rd al k S P V F)))] H → va_D A [(mo, .inr (6, [.ref sa, .ref be, .int (nI kn), .ref ke, .int (zB ik), .ref te, .int (nI ty)])), (sa, .inl (G 0, 117, .inl (enc n N Z tn po rd al k S P V F)))] → va_S A s.heap H locs → ∀ ls : Array Slot, lv_has ls 6 [(4, .int (nI (cw F 0 (nI x) c_))), (5, .int (nI c_)), (0, .ref mo), (1, .int (nI 0)), (2, .int (nI x)), (3, .int (nI 0))] → W pp l ee (rmA 1 21) s mm ([.ref mo, .int (nI 0), .int (nI x), .int (nI 0)] : List Value).toArray bl me cc H locs 0 0 (MQ bl (Qres (some (.int (nI (cw F 0 (nI x) k)))) D G [(mo, .inr (6, [.ref sa, .ref be, .int (nI kn), .ref ke, .int (zB ik), .ref te, .int (nI ty)])), (sa, .inl (G 0, 117, .inl (enc n N Z tn po rd al k S P V F)))] A) ([.ref mo, .int (nI 0), .int (nI x), .int (nI 0)] : List Value).toArray s 0 0 A) (F0 mm 6 ls []) := by
    intro nn6
    induction nn6 with
    | zero => intro c_ h1 h2; exact absurd h2 (by omega)
    | succ nn6 ih6 =>
      intro c_ hkc_ hnc_  H locs hP hD hS ls hl
      refine lv_iload hx hb dX6_stakesOf_6 (lv_at hl 1 rfl) ?_
      refine lv_aload_n hx hb dX6_stakesOf_8 rfl (lv_at hl 2 rfl) ?_
      refine va_get (D := D) (ci := 6) (v := .ref sa) (C := RX6) (T := TX6) (N := 7) hx hb hts inX6 hown hK hP 0 rfl rfl 0 (by decide) k7 (fun _ h9 => h9) rfl dX6_stakesOf_9 ?_
      refine lv_iconst (v := nI 5) hx hb dX6_stakesOf_12 (by decide +kernel) ?_
      refine rIald hx hb hK hP 1 rfl 5 (by omega) (by decide) dX6_stakesOf_13 ?_
      refine rTop (show enc n N Z tn po rd al k S P V F 5 = nI k from rfl) ?_
      refine bGe (tgt := 66) hx hb dX6_stakesOf_14 (by decide) (by omega) (by omega) (fun c1 => ?_) (fun c1 => ?_)
      · obtain rfl : k = c_ := by omega
        refine lv_iload hx hb dX6_stakesOf_66 (lv_at hl 0 rfl) ?_
        exact rIret hx hb hr hlk hP hK hD hS dX6_stakesOf_68
      · refine lv_iload hx hb dX6_stakesOf_17 (lv_at hl 0 rfl) ?_
        refine lv_aload_n hx hb dX6_stakesOf_19 rfl (lv_at hl 2 rfl) ?_
        refine va_get (D := D) (ci := 6) (v := .ref sa) (C := RX6) (T := TX6) (N := 7) hx hb hts inX6 hown hK hP 0 rfl rfl 0 (by decide) k7 (fun _ h9 => h9) rfl dX6_stakesOf_20 ?_
        refine lv_iload hx hb dX6_stakesOf_23 (lv_at hl 1 rfl) ?_
        refine lv_iload_n hx hb dX6_stakesOf_25 rfl (lv_at hl 3 rfl) ?_
        refine cSr (As := [.int (nI c_), .int (nI 0)]) (rest := [.ref sa, .int (nI (cw F 0 (nI x) c_))]) ⟨hx, hb, hml, hown, hts⟩ hP hK hD hS hN hA (mX6_of l D G c_ 0 ) (cwS 2 hts gX6_stakesOf_X6_of rfl rfl rfl (by decide +kernel) ⟨Nat.le_of_ble_eq_true rfl, Nat.le_of_ble_eq_true rfl⟩) [] rfl (by decide) rfl hl.1 rfl (Nat.le_of_ble_eq_true rfl) dX6_stakesOf_26 ⟨Nat.zero_le _, Nat.zero_le _⟩ (fun H locs hP hS => ?_)
        refine rIald hx hb hK hP 1 rfl (47 + 7 * c_ + 0) (by omega) (by decide) dX6_stakesOf_29 ?_
        refine rTop (enc_F n N Z tn po rd al k S P V F c_ 0 (by omega) (by omega)) ?_
        refine lv_iload_n hx hb dX6_stakesOf_30 rfl (lv_at hl 4 rfl) ?_
        refine lv_icmp_eq (tgt := 38) hx hb dX6_stakesOf_31 (by decide)  (fun c2 => ?_) (fun c2 => ?_)
        · refine lv_iload_n hx hb dX6_stakesOf_38 rfl (lv_at hl 5 rfl) ?_
          refine iEq (tgt := 56) hx hb dX6_stakesOf_39 (by decide) (by omega) (fun c3 => ?_) (fun c3 => by exfalso; omega)
          refine lv_iconst (v := nI 1) hx hb dX6_stakesOf_56 (by decide +kernel) ?_
          refine lv_iadd hx hb dX6_stakesOf_57 ?_
          refine rTop (show nI (cw F 0 (nI x) c_) + nI 1 = nI (cw F 0 (nI x) c_ + 1) from nI_add (cw F 0 (nI x) c_) 1) ?_
          refine rTop (show nI (cw F 0 (nI x) c_ + 1) = nI (cw F 0 (nI x) (c_ + 1)) from by first | exact cwO_t (by assumption) | exact cwO_f (by assumption)) ?_
          refine lv_istore (lv' := [(4, .int (nI (cw F 0 (nI x) (c_ + 1)))), (5, .int (nI c_)), (0, .ref mo), (1, .int (nI 0)), (2, .int (nI x)), (3, .int (nI 0))]) hx hb dX6_stakesOf_58 hl (by decide) rfl (fun ls hl => ?_)
          refine lv_iinc (v := nI (c_ + 1)) (lv' := [(5, .int (nI (c_ + 1))), (4, .int (nI (cw F 0 (nI x) (c_ + 1)))), (0, .ref mo), (1, .int (nI 0)), (2, .int (nI x)), (3, .int (nI 0))]) hx hb dX6_stakesOf_60 hl (k := 1) rfl (nI_inc c_) (by decide) rfl (fun ls hl => ?_)
          refine lv_goto (tgt := 6) hx hb dX6_stakesOf_63 (by decide) ?_
          exact ih6 (c_ + 1) (by omega) (by omega)  _ _ hP hD hS _ (lv_sub hl [1, 0, 2, 3, 4, 5] rfl)
        · refine lv_iconst (v := nI 0) hx hb dX6_stakesOf_34 (by decide +kernel) ?_
          refine lv_goto (tgt := 57) hx hb dX6_stakesOf_35 (by decide) ?_
          refine lv_iadd hx hb dX6_stakesOf_57 ?_
          refine rTop (show nI (cw F 0 (nI x) c_) + nI 0 = nI (cw F 0 (nI x) c_ + 0) from nI_add (cw F 0 (nI x) c_) 0) ?_
          refine rTop (show nI (cw F 0 (nI x) c_ + 0) = nI (cw F 0 (nI x) (c_ + 1)) from by first | exact cwO_t (by assumption) | exact cwO_f (by assumption)) ?_
          refine lv_istore (lv' := [(4, .int (nI (cw F 0 (nI x) (c_ + 1)))), (5, .int (nI c_)), (0, .ref mo), (1, .int (nI 0)), (2, .int (nI x)), (3, .int (nI 0))]) hx hb dX6_stakesOf_58 hl (by decide) rfl (fun ls hl => ?_)
          refine lv_iinc (v := nI (c_ + 1)) (lv' := [(5, .int (nI (c_ + 1))), (4, .int (nI (cw F 0 (nI x) (c_ + 1)))), (0, .ref mo), (1, .int (nI 0)), (2, .int (nI x)), (3, .int (nI 0))]) hx hb dX6_stakesOf_60 hl (k := 1) rfl (nI_inc c_) (by decide) rfl (fun ls hl => ?_)
          refine lv_goto (tgt := 6) hx hb dX6_stakesOf_63 (by decide) ?_
          exact ih6 (c_ + 1) (by omega) (by omega)  _ _ hP hD hS _ (lv_sub hl [1, 0, 2, 3, 4, 5] rfl)
  exact LP6 (k + 1 - 0) 0 (by omega) (by omega)  _ _ hP hD hS _ (lv_sub hl [1, 0, 2, 3, 4, 5] rfl)

set_option maxHeartbeats 4000000 in
set_option maxRecDepth 100000 in
theorem mX6_stakesOf_01 (l : Launch) (D : va_G) (G : Nat → ClassId) (mo sa be ke te kn ty : Nat) (ik : Bool) (n tn k : Nat) (N Z S P V : Nat → Int32) (F : Nat → Nat → Int32) (po rd al : Int32) (x : Nat) (hk : k ≤ 10) : CT l yX6_stakesOf wsX6_stakesOf 1 21 D G [.ref mo, .int (nI 0), .int (nI x), .int (nI 1)] [(mo, .inr (6, [.ref sa, .ref be, .int (nI kn), .ref ke, .int (zB ik), .ref te, .int (nI ty)])), (sa, .inl (G 0, 117, .inl (enc n N Z tn po rd al k S P V F)))] [(mo, .inr (6, [.ref sa, .ref be, .int (nI kn), .ref ke, .int (zB ik), .ref te, .int (nI ty)])), (sa, .inl (G 0, 117, .inl (enc n N Z tn po rd al k S P V F)))] (some (.int (aw F 0 (nI x) k))) := by
  refine CT.of (cc := cX6_stakesOf) (maxL := 6) (ret := (some .int)) (by decide) rfl RX6 rfl (Nat.le_of_ble_eq_true rfl) (fun pp ee s mm bl me cc A ls hx hb hr hml hts hown hlk hnm hA hP hK hD hN hS hl => ?_)
  have hl : lv_has ls 6 [(0, .ref mo), (1, .int (nI 0)), (2, .int (nI x)), (3, .int (nI 1))] := hl
  have hP : va_P D vwCl [(mo, .inr (6, [.ref sa, .ref be, .int (nI kn), .ref ke, .int (zB ik), .ref te, .int (nI ty)])), (sa, .inl (G 0, 117, .inl (enc n N Z tn po rd al k S P V F)))] s.heap := hP
  have inX6 : ∀ w ∈ wsX60, w ∈ wsX6_stakesOf := fun w h => List.mem_cons_of_mem _ (List.mem_append_right _ h)
  have k7 := hts (.fieldLink RX6 7 "SquareStakesModel" "s" "[I") (List.mem_of_getElem? (i := 1) rfl)
  refine lv_iconst (v := nI 0) hx hb dX6_stakesOf_0 (by decide +kernel) ?_
  refine lv_istore (lv' := [(4, .int (nI 0)), (0, .ref mo), (1, .int (nI 0)), (2, .int (nI x)), (3, .int (nI 1))]) hx hb dX6_stakesOf_1 hl (by decide) rfl (fun ls hl => ?_)
  refine lv_iconst (v := nI 0) hx hb dX6_stakesOf_3 (by decide +kernel) ?_
  refine lv_istore (lv' := [(5, .int (nI 0)), (4, .int (nI 0)), (0, .ref mo), (1, .int (nI 0)), (2, .int (nI x)), (3, .int (nI 1))]) hx hb dX6_stakesOf_4 hl (by decide) rfl (fun ls hl => ?_)
  have LP6 : ∀ (nn6 c_ : Nat), c_ ≤ k → k < c_ + nn6  → ∀ (H : Heap) (locs : List Loc), va_P D vwCl [(mo, .inr (6, [.ref sa, .ref be, .int (nI kn), .ref ke, .int (zB ik), .ref te, .int (nI ty)])), (sa, .inl (G 0, 117, .inl (enc n N Z tn po rd al k S P V F)))] H → va_D A [(mo, .inr (6, [.ref sa, .ref be, .int (nI kn), .ref ke, .int (zB ik), .ref te, .int (nI ty)])), (sa, .inl (G 0, 117, .inl (enc n N Z tn po rd al k S P V F)))] → va_S A s.heap H locs → ∀ ls : Array Slot, lv_has ls 6 [(4, .int (aw F 0 (nI x) c_)), (5, .int (nI c_)), (0, .ref mo), (1, .int (nI 0)), (2, .int (nI x)), (3, .int (nI 1))] → W pp l ee (rmA 1 21) s mm ([.ref mo, .int (nI 0), .int (nI x), .int (nI 1)] : List Value).toArray bl me cc H locs 0 0 (MQ bl (Qres (some (.int (aw F 0 (nI x) k))) D G [(mo, .inr (6, [.ref sa, .ref be, .int (nI kn), .ref ke, .int (zB ik), .ref te, .int (nI ty)])), (sa, .inl (G 0, 117, .inl (enc n N Z tn po rd al k S P V F)))] A) ([.ref mo, .int (nI 0), .int (nI x), .int (nI 1)] : List Value).toArray s 0 0 A) (F0 mm 6 ls []) := by
    intro nn6
    induction nn6 with
    | zero => intro c_ h1 h2; exact absurd h2 (by omega)
    | succ nn6 ih6 =>
      intro c_ hkc_ hnc_  H locs hP hD hS ls hl
      refine lv_iload hx hb dX6_stakesOf_6 (lv_at hl 1 rfl) ?_
      refine lv_aload_n hx hb dX6_stakesOf_8 rfl (lv_at hl 2 rfl) ?_
      refine va_get (D := D) (ci := 6) (v := .ref sa) (C := RX6) (T := TX6) (N := 7) hx hb hts inX6 hown hK hP 0 rfl rfl 0 (by decide) k7 (fun _ h9 => h9) rfl dX6_stakesOf_9 ?_
      refine lv_iconst (v := nI 5) hx hb dX6_stakesOf_12 (by decide +kernel) ?_
      refine rIald hx hb hK hP 1 rfl 5 (by omega) (by decide) dX6_stakesOf_13 ?_
      refine rTop (show enc n N Z tn po rd al k S P V F 5 = nI k from rfl) ?_
      refine bGe (tgt := 66) hx hb dX6_stakesOf_14 (by decide) (by omega) (by omega) (fun c1 => ?_) (fun c1 => ?_)
      · obtain rfl : k = c_ := by omega
        refine lv_iload hx hb dX6_stakesOf_66 (lv_at hl 0 rfl) ?_
        exact rIret hx hb hr hlk hP hK hD hS dX6_stakesOf_68
      · refine lv_iload hx hb dX6_stakesOf_17 (lv_at hl 0 rfl) ?_
        refine lv_aload_n hx hb dX6_stakesOf_19 rfl (lv_at hl 2 rfl) ?_
        refine va_get (D := D) (ci := 6) (v := .ref sa) (C := RX6) (T := TX6) (N := 7) hx hb hts inX6 hown hK hP 0 rfl rfl 0 (by decide) k7 (fun _ h9 => h9) rfl dX6_stakesOf_20 ?_
        refine lv_iload hx hb dX6_stakesOf_23 (lv_at hl 1 rfl) ?_
        refine lv_iload_n hx hb dX6_stakesOf_25 rfl (lv_at hl 3 rfl) ?_
        refine cSr (As := [.int (nI c_), .int (nI 0)]) (rest := [.ref sa, .int (aw F 0 (nI x) c_)]) ⟨hx, hb, hml, hown, hts⟩ hP hK hD hS hN hA (mX6_of l D G c_ 0 ) (cwS 2 hts gX6_stakesOf_X6_of rfl rfl rfl (by decide +kernel) ⟨Nat.le_of_ble_eq_true rfl, Nat.le_of_ble_eq_true rfl⟩) [] rfl (by decide) rfl hl.1 rfl (Nat.le_of_ble_eq_true rfl) dX6_stakesOf_26 ⟨Nat.zero_le _, Nat.zero_le _⟩ (fun H locs hP hS => ?_)
        refine rIald hx hb hK hP 1 rfl (47 + 7 * c_ + 0) (by omega) (by decide) dX6_stakesOf_29 ?_
        refine rTop (enc_F n N Z tn po rd al k S P V F c_ 0 (by omega) (by omega)) ?_
        refine lv_iload_n hx hb dX6_stakesOf_30 rfl (lv_at hl 4 rfl) ?_
        refine lv_icmp_eq (tgt := 38) hx hb dX6_stakesOf_31 (by decide)  (fun c2 => ?_) (fun c2 => ?_)
        · refine lv_iload_n hx hb dX6_stakesOf_38 rfl (lv_at hl 5 rfl) ?_
          refine iEq (tgt := 56) hx hb dX6_stakesOf_39 (by decide) (by omega) (fun c3 => by exfalso; omega) (fun c3 => ?_)
          refine lv_aload_n hx hb dX6_stakesOf_42 rfl (lv_at hl 2 rfl) ?_
          refine va_get (D := D) (ci := 6) (v := .ref sa) (C := RX6) (T := TX6) (N := 7) hx hb hts inX6 hown hK hP 0 rfl rfl 0 (by decide) k7 (fun _ h9 => h9) rfl dX6_stakesOf_43 ?_
          refine lv_iload hx hb dX6_stakesOf_46 (lv_at hl 1 rfl) ?_
          refine lv_iconst (v := nI 3) hx hb dX6_stakesOf_48 (by decide +kernel) ?_
          refine cSr (As := [.int (nI c_), .int (nI 3)]) (rest := [.ref sa, .int (aw F 0 (nI x) c_)]) ⟨hx, hb, hml, hown, hts⟩ hP hK hD hS hN hA (mX6_of l D G c_ 3 ) (cwS 2 hts gX6_stakesOf_X6_of rfl rfl rfl (by decide +kernel) ⟨Nat.le_of_ble_eq_true rfl, Nat.le_of_ble_eq_true rfl⟩) [] rfl (by decide) rfl hl.1 rfl (Nat.le_of_ble_eq_true rfl) dX6_stakesOf_49 ⟨Nat.zero_le _, Nat.zero_le _⟩ (fun H locs hP hS => ?_)
          refine rIald hx hb hK hP 1 rfl (47 + 7 * c_ + 3) (by omega) (by decide) dX6_stakesOf_52 ?_
          refine rTop (enc_F n N Z tn po rd al k S P V F c_ 3 (by omega) (by omega)) ?_
          refine lv_goto (tgt := 57) hx hb dX6_stakesOf_53 (by decide) ?_
          refine lv_iadd hx hb dX6_stakesOf_57 ?_
          refine rTop (show (aw F 0 (nI x) c_ + F c_ 3) = aw F 0 (nI x) (c_ + 1) from by first | exact awO_t (by assumption) | exact awO_f (by assumption)) ?_
          refine lv_istore (lv' := [(4, .int (aw F 0 (nI x) (c_ + 1))), (5, .int (nI c_)), (0, .ref mo), (1, .int (nI 0)), (2, .int (nI x)), (3, .int (nI 1))]) hx hb dX6_stakesOf_58 hl (by decide) rfl (fun ls hl => ?_)
          refine lv_iinc (v := nI (c_ + 1)) (lv' := [(5, .int (nI (c_ + 1))), (4, .int (aw F 0 (nI x) (c_ + 1))), (0, .ref mo), (1, .int (nI 0)), (2, .int (nI x)), (3, .int (nI 1))]) hx hb dX6_stakesOf_60 hl (k := 1) rfl (nI_inc c_) (by decide) rfl (fun ls hl => ?_)
          refine lv_goto (tgt := 6) hx hb dX6_stakesOf_63 (by decide) ?_
          exact ih6 (c_ + 1) (by omega) (by omega)  _ _ hP hD hS _ (lv_sub hl [1, 0, 2, 3, 4, 5] rfl)
        · refine lv_iconst (v := nI 0) hx hb dX6_stakesOf_34 (by decide +kernel) ?_
          refine lv_goto (tgt := 57) hx hb dX6_stakesOf_35 (by decide) ?_
          refine lv_iadd hx hb dX6_stakesOf_57 ?_
          refine rTop (show (aw F 0 (nI x) c_ + nI 0) = aw F 0 (nI x) (c_ + 1) from by first | exact awO_t (by assumption) | exact awO_f (by assumption)) ?_
          refine lv_istore (lv' := [(4, .int (aw F 0 (nI x) (c_ + 1))), (5, .int (nI c_)), (0, .ref mo), (1, .int (nI 0)), (2, .int (nI x)), (3, .int (nI 1))]) hx hb dX6_stakesOf_58 hl (by decide) rfl (fun ls hl => ?_)
          refine lv_iinc (v := nI (c_ + 1)) (lv' := [(5, .int (nI (c_ + 1))), (4, .int (aw F 0 (nI x) (c_ + 1))), (0, .ref mo), (1, .int (nI 0)), (2, .int (nI x)), (3, .int (nI 1))]) hx hb dX6_stakesOf_60 hl (k := 1) rfl (nI_inc c_) (by decide) rfl (fun ls hl => ?_)
          refine lv_goto (tgt := 6) hx hb dX6_stakesOf_63 (by decide) ?_
          exact ih6 (c_ + 1) (by omega) (by omega)  _ _ hP hD hS _ (lv_sub hl [1, 0, 2, 3, 4, 5] rfl)
  exact LP6 (k + 1 - 0) 0 (by omega) (by omega)  _ _ hP hD hS _ (lv_sub hl [1, 0, 2, 3, 4, 5] rfl)

set_option maxHeartbeats 4000000 in
set_option maxRecDepth 100000 in
theorem mX6_stakesOf_10 (l : Launch) (D : va_G) (G : Nat → ClassId) (mo sa be ke te kn ty : Nat) (ik : Bool) (n tn k : Nat) (N Z S P V : Nat → Int32) (F : Nat → Nat → Int32) (po rd al : Int32) (x : Nat) (hk : k ≤ 10) : CT l yX6_stakesOf wsX6_stakesOf 1 21 D G [.ref mo, .int (nI 1), .int (nI x), .int (nI 0)] [(mo, .inr (6, [.ref sa, .ref be, .int (nI kn), .ref ke, .int (zB ik), .ref te, .int (nI ty)])), (sa, .inl (G 0, 117, .inl (enc n N Z tn po rd al k S P V F)))] [(mo, .inr (6, [.ref sa, .ref be, .int (nI kn), .ref ke, .int (zB ik), .ref te, .int (nI ty)])), (sa, .inl (G 0, 117, .inl (enc n N Z tn po rd al k S P V F)))] (some (.int (nI (cw F 1 (nI x) k)))) := by
  refine CT.of (cc := cX6_stakesOf) (maxL := 6) (ret := (some .int)) (by decide) rfl RX6 rfl (Nat.le_of_ble_eq_true rfl) (fun pp ee s mm bl me cc A ls hx hb hr hml hts hown hlk hnm hA hP hK hD hN hS hl => ?_)
  have hl : lv_has ls 6 [(0, .ref mo), (1, .int (nI 1)), (2, .int (nI x)), (3, .int (nI 0))] := hl
  have hP : va_P D vwCl [(mo, .inr (6, [.ref sa, .ref be, .int (nI kn), .ref ke, .int (zB ik), .ref te, .int (nI ty)])), (sa, .inl (G 0, 117, .inl (enc n N Z tn po rd al k S P V F)))] s.heap := hP
  have inX6 : ∀ w ∈ wsX60, w ∈ wsX6_stakesOf := fun w h => List.mem_cons_of_mem _ (List.mem_append_right _ h)
  have k7 := hts (.fieldLink RX6 7 "SquareStakesModel" "s" "[I") (List.mem_of_getElem? (i := 1) rfl)
  refine lv_iconst (v := nI 0) hx hb dX6_stakesOf_0 (by decide +kernel) ?_
  refine lv_istore (lv' := [(4, .int (nI 0)), (0, .ref mo), (1, .int (nI 1)), (2, .int (nI x)), (3, .int (nI 0))]) hx hb dX6_stakesOf_1 hl (by decide) rfl (fun ls hl => ?_)
  refine lv_iconst (v := nI 0) hx hb dX6_stakesOf_3 (by decide +kernel) ?_
  refine lv_istore (lv' := [(5, .int (nI 0)), (4, .int (nI 0)), (0, .ref mo), (1, .int (nI 1)), (2, .int (nI x)), (3, .int (nI 0))]) hx hb dX6_stakesOf_4 hl (by decide) rfl (fun ls hl => ?_)
  have LP6 : ∀ (nn6 c_ : Nat), c_ ≤ k → k < c_ + nn6  → ∀ (H : Heap) (locs : List Loc), va_P D vwCl [(mo, .inr (6, [.ref sa, .ref be, .int (nI kn), .ref ke, .int (zB ik), .ref te, .int (nI ty)])), (sa, .inl (G 0, 117, .inl (enc n N Z tn po rd al k S P V F)))] H → va_D A [(mo, .inr (6, [.ref sa, .ref be, .int (nI kn), .ref ke, .int (zB ik), .ref te, .int (nI ty)])), (sa, .inl (G 0, 117, .inl (enc n N Z tn po rd al k S P V F)))] → va_S A s.heap H locs → ∀ ls : Array Slot, lv_has ls 6 [(4, .int (nI (cw F 1 (nI x) c_))), (5, .int (nI c_)), (0, .ref mo), (1, .int (nI 1)), (2, .int (nI x)), (3, .int (nI 0))] → W pp l ee (rmA 1 21) s mm ([.ref mo, .int (nI 1), .int (nI x), .int (nI 0)] : List Value).toArray bl me cc H locs 0 0 (MQ bl (Qres (some (.int (nI (cw F 1 (nI x) k)))) D G [(mo, .inr (6, [.ref sa, .ref be, .int (nI kn), .ref ke, .int (zB ik), .ref te, .int (nI ty)])), (sa, .inl (G 0, 117, .inl (enc n N Z tn po rd al k S P V F)))] A) ([.ref mo, .int (nI 1), .int (nI x), .int (nI 0)] : List Value).toArray s 0 0 A) (F0 mm 6 ls []) := by
    intro nn6
    induction nn6 with
    | zero => intro c_ h1 h2; exact absurd h2 (by omega)
    | succ nn6 ih6 =>
      intro c_ hkc_ hnc_  H locs hP hD hS ls hl
      refine lv_iload hx hb dX6_stakesOf_6 (lv_at hl 1 rfl) ?_
      refine lv_aload_n hx hb dX6_stakesOf_8 rfl (lv_at hl 2 rfl) ?_
      refine va_get (D := D) (ci := 6) (v := .ref sa) (C := RX6) (T := TX6) (N := 7) hx hb hts inX6 hown hK hP 0 rfl rfl 0 (by decide) k7 (fun _ h9 => h9) rfl dX6_stakesOf_9 ?_
      refine lv_iconst (v := nI 5) hx hb dX6_stakesOf_12 (by decide +kernel) ?_
      refine rIald hx hb hK hP 1 rfl 5 (by omega) (by decide) dX6_stakesOf_13 ?_
      refine rTop (show enc n N Z tn po rd al k S P V F 5 = nI k from rfl) ?_
      refine bGe (tgt := 66) hx hb dX6_stakesOf_14 (by decide) (by omega) (by omega) (fun c1 => ?_) (fun c1 => ?_)
      · obtain rfl : k = c_ := by omega
        refine lv_iload hx hb dX6_stakesOf_66 (lv_at hl 0 rfl) ?_
        exact rIret hx hb hr hlk hP hK hD hS dX6_stakesOf_68
      · refine lv_iload hx hb dX6_stakesOf_17 (lv_at hl 0 rfl) ?_
        refine lv_aload_n hx hb dX6_stakesOf_19 rfl (lv_at hl 2 rfl) ?_
        refine va_get (D := D) (ci := 6) (v := .ref sa) (C := RX6) (T := TX6) (N := 7) hx hb hts inX6 hown hK hP 0 rfl rfl 0 (by decide) k7 (fun _ h9 => h9) rfl dX6_stakesOf_20 ?_
        refine lv_iload hx hb dX6_stakesOf_23 (lv_at hl 1 rfl) ?_
        refine lv_iload_n hx hb dX6_stakesOf_25 rfl (lv_at hl 3 rfl) ?_
        refine cSr (As := [.int (nI c_), .int (nI 1)]) (rest := [.ref sa, .int (nI (cw F 1 (nI x) c_))]) ⟨hx, hb, hml, hown, hts⟩ hP hK hD hS hN hA (mX6_of l D G c_ 1 ) (cwS 2 hts gX6_stakesOf_X6_of rfl rfl rfl (by decide +kernel) ⟨Nat.le_of_ble_eq_true rfl, Nat.le_of_ble_eq_true rfl⟩) [] rfl (by decide) rfl hl.1 rfl (Nat.le_of_ble_eq_true rfl) dX6_stakesOf_26 ⟨Nat.zero_le _, Nat.zero_le _⟩ (fun H locs hP hS => ?_)
        refine rIald hx hb hK hP 1 rfl (47 + 7 * c_ + 1) (by omega) (by decide) dX6_stakesOf_29 ?_
        refine rTop (enc_F n N Z tn po rd al k S P V F c_ 1 (by omega) (by omega)) ?_
        refine lv_iload_n hx hb dX6_stakesOf_30 rfl (lv_at hl 4 rfl) ?_
        refine lv_icmp_eq (tgt := 38) hx hb dX6_stakesOf_31 (by decide)  (fun c2 => ?_) (fun c2 => ?_)
        · refine lv_iload_n hx hb dX6_stakesOf_38 rfl (lv_at hl 5 rfl) ?_
          refine iEq (tgt := 56) hx hb dX6_stakesOf_39 (by decide) (by omega) (fun c3 => ?_) (fun c3 => by exfalso; omega)
          refine lv_iconst (v := nI 1) hx hb dX6_stakesOf_56 (by decide +kernel) ?_
          refine lv_iadd hx hb dX6_stakesOf_57 ?_
          refine rTop (show nI (cw F 1 (nI x) c_) + nI 1 = nI (cw F 1 (nI x) c_ + 1) from nI_add (cw F 1 (nI x) c_) 1) ?_
          refine rTop (show nI (cw F 1 (nI x) c_ + 1) = nI (cw F 1 (nI x) (c_ + 1)) from by first | exact cwO_t (by assumption) | exact cwO_f (by assumption)) ?_
          refine lv_istore (lv' := [(4, .int (nI (cw F 1 (nI x) (c_ + 1)))), (5, .int (nI c_)), (0, .ref mo), (1, .int (nI 1)), (2, .int (nI x)), (3, .int (nI 0))]) hx hb dX6_stakesOf_58 hl (by decide) rfl (fun ls hl => ?_)
          refine lv_iinc (v := nI (c_ + 1)) (lv' := [(5, .int (nI (c_ + 1))), (4, .int (nI (cw F 1 (nI x) (c_ + 1)))), (0, .ref mo), (1, .int (nI 1)), (2, .int (nI x)), (3, .int (nI 0))]) hx hb dX6_stakesOf_60 hl (k := 1) rfl (nI_inc c_) (by decide) rfl (fun ls hl => ?_)
          refine lv_goto (tgt := 6) hx hb dX6_stakesOf_63 (by decide) ?_
          exact ih6 (c_ + 1) (by omega) (by omega)  _ _ hP hD hS _ (lv_sub hl [1, 0, 2, 3, 4, 5] rfl)
        · refine lv_iconst (v := nI 0) hx hb dX6_stakesOf_34 (by decide +kernel) ?_
          refine lv_goto (tgt := 57) hx hb dX6_stakesOf_35 (by decide) ?_
          refine lv_iadd hx hb dX6_stakesOf_57 ?_
          refine rTop (show nI (cw F 1 (nI x) c_) + nI 0 = nI (cw F 1 (nI x) c_ + 0) from nI_add (cw F 1 (nI x) c_) 0) ?_
          refine rTop (show nI (cw F 1 (nI x) c_ + 0) = nI (cw F 1 (nI x) (c_ + 1)) from by first | exact cwO_t (by assumption) | exact cwO_f (by assumption)) ?_
          refine lv_istore (lv' := [(4, .int (nI (cw F 1 (nI x) (c_ + 1)))), (5, .int (nI c_)), (0, .ref mo), (1, .int (nI 1)), (2, .int (nI x)), (3, .int (nI 0))]) hx hb dX6_stakesOf_58 hl (by decide) rfl (fun ls hl => ?_)
          refine lv_iinc (v := nI (c_ + 1)) (lv' := [(5, .int (nI (c_ + 1))), (4, .int (nI (cw F 1 (nI x) (c_ + 1)))), (0, .ref mo), (1, .int (nI 1)), (2, .int (nI x)), (3, .int (nI 0))]) hx hb dX6_stakesOf_60 hl (k := 1) rfl (nI_inc c_) (by decide) rfl (fun ls hl => ?_)
          refine lv_goto (tgt := 6) hx hb dX6_stakesOf_63 (by decide) ?_
          exact ih6 (c_ + 1) (by omega) (by omega)  _ _ hP hD hS _ (lv_sub hl [1, 0, 2, 3, 4, 5] rfl)
  exact LP6 (k + 1 - 0) 0 (by omega) (by omega)  _ _ hP hD hS _ (lv_sub hl [1, 0, 2, 3, 4, 5] rfl)

set_option maxHeartbeats 4000000 in
set_option maxRecDepth 100000 in
theorem mX6_stakesOf_11 (l : Launch) (D : va_G) (G : Nat → ClassId) (mo sa be ke te kn ty : Nat) (ik : Bool) (n tn k : Nat) (N Z S P V : Nat → Int32) (F : Nat → Nat → Int32) (po rd al : Int32) (x : Nat) (hk : k ≤ 10) : CT l yX6_stakesOf wsX6_stakesOf 1 21 D G [.ref mo, .int (nI 1), .int (nI x), .int (nI 1)] [(mo, .inr (6, [.ref sa, .ref be, .int (nI kn), .ref ke, .int (zB ik), .ref te, .int (nI ty)])), (sa, .inl (G 0, 117, .inl (enc n N Z tn po rd al k S P V F)))] [(mo, .inr (6, [.ref sa, .ref be, .int (nI kn), .ref ke, .int (zB ik), .ref te, .int (nI ty)])), (sa, .inl (G 0, 117, .inl (enc n N Z tn po rd al k S P V F)))] (some (.int (aw F 1 (nI x) k))) := by
  refine CT.of (cc := cX6_stakesOf) (maxL := 6) (ret := (some .int)) (by decide) rfl RX6 rfl (Nat.le_of_ble_eq_true rfl) (fun pp ee s mm bl me cc A ls hx hb hr hml hts hown hlk hnm hA hP hK hD hN hS hl => ?_)
  have hl : lv_has ls 6 [(0, .ref mo), (1, .int (nI 1)), (2, .int (nI x)), (3, .int (nI 1))] := hl
  have hP : va_P D vwCl [(mo, .inr (6, [.ref sa, .ref be, .int (nI kn), .ref ke, .int (zB ik), .ref te, .int (nI ty)])), (sa, .inl (G 0, 117, .inl (enc n N Z tn po rd al k S P V F)))] s.heap := hP
  have inX6 : ∀ w ∈ wsX60, w ∈ wsX6_stakesOf := fun w h => List.mem_cons_of_mem _ (List.mem_append_right _ h)
  have k7 := hts (.fieldLink RX6 7 "SquareStakesModel" "s" "[I") (List.mem_of_getElem? (i := 1) rfl)
  refine lv_iconst (v := nI 0) hx hb dX6_stakesOf_0 (by decide +kernel) ?_
  refine lv_istore (lv' := [(4, .int (nI 0)), (0, .ref mo), (1, .int (nI 1)), (2, .int (nI x)), (3, .int (nI 1))]) hx hb dX6_stakesOf_1 hl (by decide) rfl (fun ls hl => ?_)
  refine lv_iconst (v := nI 0) hx hb dX6_stakesOf_3 (by decide +kernel) ?_
  refine lv_istore (lv' := [(5, .int (nI 0)), (4, .int (nI 0)), (0, .ref mo), (1, .int (nI 1)), (2, .int (nI x)), (3, .int (nI 1))]) hx hb dX6_stakesOf_4 hl (by decide) rfl (fun ls hl => ?_)
  have LP6 : ∀ (nn6 c_ : Nat), c_ ≤ k → k < c_ + nn6  → ∀ (H : Heap) (locs : List Loc), va_P D vwCl [(mo, .inr (6, [.ref sa, .ref be, .int (nI kn), .ref ke, .int (zB ik), .ref te, .int (nI ty)])), (sa, .inl (G 0, 117, .inl (enc n N Z tn po rd al k S P V F)))] H → va_D A [(mo, .inr (6, [.ref sa, .ref be, .int (nI kn), .ref ke, .int (zB ik), .ref te, .int (nI ty)])), (sa, .inl (G 0, 117, .inl (enc n N Z tn po rd al k S P V F)))] → va_S A s.heap H locs → ∀ ls : Array Slot, lv_has ls 6 [(4, .int (aw F 1 (nI x) c_)), (5, .int (nI c_)), (0, .ref mo), (1, .int (nI 1)), (2, .int (nI x)), (3, .int (nI 1))] → W pp l ee (rmA 1 21) s mm ([.ref mo, .int (nI 1), .int (nI x), .int (nI 1)] : List Value).toArray bl me cc H locs 0 0 (MQ bl (Qres (some (.int (aw F 1 (nI x) k))) D G [(mo, .inr (6, [.ref sa, .ref be, .int (nI kn), .ref ke, .int (zB ik), .ref te, .int (nI ty)])), (sa, .inl (G 0, 117, .inl (enc n N Z tn po rd al k S P V F)))] A) ([.ref mo, .int (nI 1), .int (nI x), .int (nI 1)] : List Value).toArray s 0 0 A) (F0 mm 6 ls []) := by
    intro nn6
    induction nn6 with
    | zero => intro c_ h1 h2; exact absurd h2 (by omega)
    | succ nn6 ih6 =>
      intro c_ hkc_ hnc_  H locs hP hD hS ls hl
      refine lv_iload hx hb dX6_stakesOf_6 (lv_at hl 1 rfl) ?_
      refine lv_aload_n hx hb dX6_stakesOf_8 rfl (lv_at hl 2 rfl) ?_
      refine va_get (D := D) (ci := 6) (v := .ref sa) (C := RX6) (T := TX6) (N := 7) hx hb hts inX6 hown hK hP 0 rfl rfl 0 (by decide) k7 (fun _ h9 => h9) rfl dX6_stakesOf_9 ?_
      refine lv_iconst (v := nI 5) hx hb dX6_stakesOf_12 (by decide +kernel) ?_
      refine rIald hx hb hK hP 1 rfl 5 (by omega) (by decide) dX6_stakesOf_13 ?_
      refine rTop (show enc n N Z tn po rd al k S P V F 5 = nI k from rfl) ?_
      refine bGe (tgt := 66) hx hb dX6_stakesOf_14 (by decide) (by omega) (by omega) (fun c1 => ?_) (fun c1 => ?_)
      · obtain rfl : k = c_ := by omega
        refine lv_iload hx hb dX6_stakesOf_66 (lv_at hl 0 rfl) ?_
        exact rIret hx hb hr hlk hP hK hD hS dX6_stakesOf_68
      · refine lv_iload hx hb dX6_stakesOf_17 (lv_at hl 0 rfl) ?_
        refine lv_aload_n hx hb dX6_stakesOf_19 rfl (lv_at hl 2 rfl) ?_
        refine va_get (D := D) (ci := 6) (v := .ref sa) (C := RX6) (T := TX6) (N := 7) hx hb hts inX6 hown hK hP 0 rfl rfl 0 (by decide) k7 (fun _ h9 => h9) rfl dX6_stakesOf_20 ?_
        refine lv_iload hx hb dX6_stakesOf_23 (lv_at hl 1 rfl) ?_
        refine lv_iload_n hx hb dX6_stakesOf_25 rfl (lv_at hl 3 rfl) ?_
        refine cSr (As := [.int (nI c_), .int (nI 1)]) (rest := [.ref sa, .int (aw F 1 (nI x) c_)]) ⟨hx, hb, hml, hown, hts⟩ hP hK hD hS hN hA (mX6_of l D G c_ 1 ) (cwS 2 hts gX6_stakesOf_X6_of rfl rfl rfl (by decide +kernel) ⟨Nat.le_of_ble_eq_true rfl, Nat.le_of_ble_eq_true rfl⟩) [] rfl (by decide) rfl hl.1 rfl (Nat.le_of_ble_eq_true rfl) dX6_stakesOf_26 ⟨Nat.zero_le _, Nat.zero_le _⟩ (fun H locs hP hS => ?_)
        refine rIald hx hb hK hP 1 rfl (47 + 7 * c_ + 1) (by omega) (by decide) dX6_stakesOf_29 ?_
        refine rTop (enc_F n N Z tn po rd al k S P V F c_ 1 (by omega) (by omega)) ?_
        refine lv_iload_n hx hb dX6_stakesOf_30 rfl (lv_at hl 4 rfl) ?_
        refine lv_icmp_eq (tgt := 38) hx hb dX6_stakesOf_31 (by decide)  (fun c2 => ?_) (fun c2 => ?_)
        · refine lv_iload_n hx hb dX6_stakesOf_38 rfl (lv_at hl 5 rfl) ?_
          refine iEq (tgt := 56) hx hb dX6_stakesOf_39 (by decide) (by omega) (fun c3 => by exfalso; omega) (fun c3 => ?_)
          refine lv_aload_n hx hb dX6_stakesOf_42 rfl (lv_at hl 2 rfl) ?_
          refine va_get (D := D) (ci := 6) (v := .ref sa) (C := RX6) (T := TX6) (N := 7) hx hb hts inX6 hown hK hP 0 rfl rfl 0 (by decide) k7 (fun _ h9 => h9) rfl dX6_stakesOf_43 ?_
          refine lv_iload hx hb dX6_stakesOf_46 (lv_at hl 1 rfl) ?_
          refine lv_iconst (v := nI 3) hx hb dX6_stakesOf_48 (by decide +kernel) ?_
          refine cSr (As := [.int (nI c_), .int (nI 3)]) (rest := [.ref sa, .int (aw F 1 (nI x) c_)]) ⟨hx, hb, hml, hown, hts⟩ hP hK hD hS hN hA (mX6_of l D G c_ 3 ) (cwS 2 hts gX6_stakesOf_X6_of rfl rfl rfl (by decide +kernel) ⟨Nat.le_of_ble_eq_true rfl, Nat.le_of_ble_eq_true rfl⟩) [] rfl (by decide) rfl hl.1 rfl (Nat.le_of_ble_eq_true rfl) dX6_stakesOf_49 ⟨Nat.zero_le _, Nat.zero_le _⟩ (fun H locs hP hS => ?_)
          refine rIald hx hb hK hP 1 rfl (47 + 7 * c_ + 3) (by omega) (by decide) dX6_stakesOf_52 ?_
          refine rTop (enc_F n N Z tn po rd al k S P V F c_ 3 (by omega) (by omega)) ?_
          refine lv_goto (tgt := 57) hx hb dX6_stakesOf_53 (by decide) ?_
          refine lv_iadd hx hb dX6_stakesOf_57 ?_
          refine rTop (show (aw F 1 (nI x) c_ + F c_ 3) = aw F 1 (nI x) (c_ + 1) from by first | exact awO_t (by assumption) | exact awO_f (by assumption)) ?_
          refine lv_istore (lv' := [(4, .int (aw F 1 (nI x) (c_ + 1))), (5, .int (nI c_)), (0, .ref mo), (1, .int (nI 1)), (2, .int (nI x)), (3, .int (nI 1))]) hx hb dX6_stakesOf_58 hl (by decide) rfl (fun ls hl => ?_)
          refine lv_iinc (v := nI (c_ + 1)) (lv' := [(5, .int (nI (c_ + 1))), (4, .int (aw F 1 (nI x) (c_ + 1))), (0, .ref mo), (1, .int (nI 1)), (2, .int (nI x)), (3, .int (nI 1))]) hx hb dX6_stakesOf_60 hl (k := 1) rfl (nI_inc c_) (by decide) rfl (fun ls hl => ?_)
          refine lv_goto (tgt := 6) hx hb dX6_stakesOf_63 (by decide) ?_
          exact ih6 (c_ + 1) (by omega) (by omega)  _ _ hP hD hS _ (lv_sub hl [1, 0, 2, 3, 4, 5] rfl)
        · refine lv_iconst (v := nI 0) hx hb dX6_stakesOf_34 (by decide +kernel) ?_
          refine lv_goto (tgt := 57) hx hb dX6_stakesOf_35 (by decide) ?_
          refine lv_iadd hx hb dX6_stakesOf_57 ?_
          refine rTop (show (aw F 1 (nI x) c_ + nI 0) = aw F 1 (nI x) (c_ + 1) from by first | exact awO_t (by assumption) | exact awO_f (by assumption)) ?_
          refine lv_istore (lv' := [(4, .int (aw F 1 (nI x) (c_ + 1))), (5, .int (nI c_)), (0, .ref mo), (1, .int (nI 1)), (2, .int (nI x)), (3, .int (nI 1))]) hx hb dX6_stakesOf_58 hl (by decide) rfl (fun ls hl => ?_)
          refine lv_iinc (v := nI (c_ + 1)) (lv' := [(5, .int (nI (c_ + 1))), (4, .int (aw F 1 (nI x) (c_ + 1))), (0, .ref mo), (1, .int (nI 1)), (2, .int (nI x)), (3, .int (nI 1))]) hx hb dX6_stakesOf_60 hl (k := 1) rfl (nI_inc c_) (by decide) rfl (fun ls hl => ?_)
          refine lv_goto (tgt := 6) hx hb dX6_stakesOf_63 (by decide) ?_
          exact ih6 (c_ + 1) (by omega) (by omega)  _ _ hP hD hS _ (lv_sub hl [1, 0, 2, 3, 4, 5] rfl)
  exact LP6 (k + 1 - 0) 0 (by omega) (by omega)  _ _ hP hD hS _ (lv_sub hl [1, 0, 2, 3, 4, 5] rfl)

set_option maxHeartbeats 4000000 in
set_option maxRecDepth 100000 in
theorem mX6_cell (l : Launch) (D : va_G) (G : Nat → ClassId) (mo sa be ke te kn ty : Nat) (ik : Bool) (n tn k : Nat) (N Z S P V : Nat → Int32) (F : Nat → Nat → Int32) (po rd al : Int32) (x y : Int32) (hn : n = 3 ∨ n = 4) : CT l yX6_cell wsX6_cell 4 94 D G [.ref mo, .int x, .int y] [(mo, .inr (6, [.ref sa, .ref be, .int (nI kn), .ref ke, .int (zB ik), .ref te, .int (nI ty)])), (sa, .inl (G 0, 117, .inl (enc n N Z tn po rd al k S P V F)))] [(mo, .inr (6, [.ref sa, .ref be, .int (nI kn), .ref ke, .int (zB ik), .ref te, .int (nI ty)])), (sa, .inl (G 0, 117, .inl (enc n N Z tn po rd al k S P V F)))] (some (.int (celQ n N Z x y))) := by
  refine CT.of (cc := cX6_cell) (maxL := 3) (ret := (some .int)) (by decide) rfl RX6 rfl (Nat.le_of_ble_eq_true rfl) (fun pp ee s mm bl me cc A ls hx hb hr hml hts hown hlk hnm hA hP hK hD hN hS hl => ?_)
  have hl : lv_has ls 3 [(0, .ref mo), (1, .int x), (2, .int y)] := hl
  have hP : va_P D vwCl [(mo, .inr (6, [.ref sa, .ref be, .int (nI kn), .ref ke, .int (zB ik), .ref te, .int (nI ty)])), (sa, .inl (G 0, 117, .inl (enc n N Z tn po rd al k S P V F)))] s.heap := hP
  have inX6 : ∀ w ∈ wsX60, w ∈ wsX6_cell := fun w h => List.mem_cons_of_mem _ (List.mem_append_right _ h)
  have k7 := hts (.fieldLink RX6 7 "SquareStakesModel" "s" "[I") (List.mem_of_getElem? (i := 1) rfl)
  have hq9 : n * n < 17 ∧ 0 < n * n := by rcases hn with rfl | rfl <;> decide
  refine lv_aload_n hx hb dX6_cell_0 rfl (lv_at hl 0 rfl) ?_
  refine lv_iload_n hx hb dX6_cell_1 rfl (lv_at hl 1 rfl) ?_
  refine cVr (As := [.int x]) (rest := []) ⟨hx, hb, hml, hown, hts⟩ hP hK hD hS hN hA (mX6_isCell l D G mo sa be ke te kn ty ik n tn k N Z S P V F po rd al x (by first | assumption | omega)) (cwV 1 hts gX6_cell_X6_isCell rfl rfl rfl (by decide +kernel) ⟨Nat.le_of_ble_eq_true rfl, Nat.le_of_ble_eq_true rfl⟩) [0, 1] rfl (by decide) 0 6 rfl rfl rfl hl.1 rfl (Nat.le_of_ble_eq_true rfl) dX6_cell_2 ⟨Nat.zero_le _, Nat.zero_le _⟩ (fun H locs hP hS => ?_)
  refine zNe (tgt := 10) hx hb dX6_cell_5 (by decide)  (fun c1 => ?_) (fun c1 => ?_)
  · obtain ⟨xj, hxj, rfl⟩ := inB_ex (by assumption) (by omega)
    refine lv_iload_n hx hb dX6_cell_10 rfl (lv_at hl 2 rfl) ?_
    by_cases sw11_0 : y = nI 0
    · subst sw11_0
      refine lv_tableIn (off := 29) (tgt := 40) hx hb dX6_cell_11 (by decide +kernel) (by decide +kernel) (by decide +kernel) (by decide) ?_
      refine lv_aload_n hx hb dX6_cell_40 rfl (lv_at hl 0 rfl) ?_
      refine va_get (D := D) (ci := 6) (v := .ref sa) (C := RX6) (T := TX6) (N := 7) hx hb hts inX6 hown hK hP 0 rfl rfl 0 (by decide) k7 (fun _ h9 => h9) rfl dX6_cell_41 ?_
      refine lv_bipush (v := nI 15) hx hb dX6_cell_44 (by decide +kernel) ?_
      refine lv_iload_n hx hb dX6_cell_46 rfl (lv_at hl 1 rfl) ?_
      refine lv_iadd hx hb dX6_cell_47 ?_
      refine rTop (show nI 15 + nI xj = nI (15 + xj) from nI_add 15 xj) ?_
      refine rIald hx hb hK hP 1 rfl (15 + xj) (by omega) (by decide) dX6_cell_48 ?_
      refine rTop (enc_N n N Z tn po rd al k S P V F xj (by omega)) ?_
      refine rTop (show N xj = celQ n N Z (nI xj) (nI 0) from by rw [celQ_in hxj (by omega), cellN, if_pos rfl]) ?_
      exact rIret hx hb hr hlk hP hK hD hS dX6_cell_49
    · by_cases sw11_1 : y = nI 1
      · subst sw11_1
        refine lv_tableIn (off := 39) (tgt := 50) hx hb dX6_cell_11 (by decide +kernel) (by decide +kernel) (by decide +kernel) (by decide) ?_
        refine lv_aload_n hx hb dX6_cell_50 rfl (lv_at hl 0 rfl) ?_
        refine va_get (D := D) (ci := 6) (v := .ref sa) (C := RX6) (T := TX6) (N := 7) hx hb hts inX6 hown hK hP 0 rfl rfl 0 (by decide) k7 (fun _ h9 => h9) rfl dX6_cell_51 ?_
        refine lv_bipush (v := nI 31) hx hb dX6_cell_54 (by decide +kernel) ?_
        refine lv_iload_n hx hb dX6_cell_56 rfl (lv_at hl 1 rfl) ?_
        refine lv_iadd hx hb dX6_cell_57 ?_
        refine rTop (show nI 31 + nI xj = nI (31 + xj) from nI_add 31 xj) ?_
        refine rIald hx hb hK hP 1 rfl (31 + xj) (by omega) (by decide) dX6_cell_58 ?_
        refine rTop (enc_Z n N Z tn po rd al k S P V F xj (by omega)) ?_
        refine rTop (show Z xj = celQ n N Z (nI xj) (nI 1) from by rw [celQ_in hxj (by omega), cellN, if_neg (by decide +kernel), if_pos rfl]) ?_
        exact rIret hx hb hr hlk hP hK hD hS dX6_cell_59
      · by_cases sw11_2 : y = nI 2
        · subst sw11_2
          refine lv_tableIn (off := 49) (tgt := 60) hx hb dX6_cell_11 (by decide +kernel) (by decide +kernel) (by decide +kernel) (by decide) ?_
          refine lv_aload_n hx hb dX6_cell_60 rfl (lv_at hl 0 rfl) ?_
          refine lv_iload_n hx hb dX6_cell_61 rfl (lv_at hl 1 rfl) ?_
          refine lv_iload_n hx hb dX6_cell_62 rfl (lv_at hl 2 rfl) ?_
          refine lv_iconst (v := nI 3) hx hb dX6_cell_63 (by decide +kernel) ?_
          refine bNe (tgt := 71) hx hb dX6_cell_64 (by decide) (by omega) (by omega) (fun c2 => ?_) (fun c2 => by exfalso; omega)
          refine lv_iconst (v := nI 0) hx hb dX6_cell_71 (by decide +kernel) ?_
          refine cVr (As := [.int (nI xj), .int (nI 0)]) (rest := []) ⟨hx, hb, hml, hown, hts⟩ hP hK hD hS hN hA (mX6_linesOf_0 l D G mo sa be ke te kn ty ik n tn k N Z S P V F po rd al xj (by first | assumption | omega) (by first | assumption | omega)) (cwV 2 hts gX6_cell_X6_linesOf rfl rfl rfl (by decide +kernel) ⟨Nat.le_of_ble_eq_true rfl, Nat.le_of_ble_eq_true rfl⟩) [0, 1] rfl (by decide) 0 6 rfl rfl rfl hl.1 rfl (Nat.le_of_ble_eq_true rfl) dX6_cell_72 ⟨Nat.zero_le _, Nat.zero_le _⟩ (fun H locs hP hS => ?_)
          refine rTop (show nI (lt_ n xj (2 * n + 2)) = celQ n N Z (nI xj) (nI 2) from by rw [celQ_in hxj (by omega), cellN, if_neg (by decide +kernel), if_neg (by decide +kernel), if_pos rfl]) ?_
          exact rIret hx hb hr hlk hP hK hD hS dX6_cell_75
        · by_cases sw11_3 : y = nI 3
          · subst sw11_3
            refine lv_tableIn (off := 49) (tgt := 60) hx hb dX6_cell_11 (by decide +kernel) (by decide +kernel) (by decide +kernel) (by decide) ?_
            refine lv_aload_n hx hb dX6_cell_60 rfl (lv_at hl 0 rfl) ?_
            refine lv_iload_n hx hb dX6_cell_61 rfl (lv_at hl 1 rfl) ?_
            refine lv_iload_n hx hb dX6_cell_62 rfl (lv_at hl 2 rfl) ?_
            refine lv_iconst (v := nI 3) hx hb dX6_cell_63 (by decide +kernel) ?_
            refine bNe (tgt := 71) hx hb dX6_cell_64 (by decide) (by omega) (by omega) (fun c3 => by exfalso; omega) (fun c3 => ?_)
            refine lv_iconst (v := nI 1) hx hb dX6_cell_67 (by decide +kernel) ?_
            refine lv_goto (tgt := 72) hx hb dX6_cell_68 (by decide) ?_
            refine cVr (As := [.int (nI xj), .int (nI 1)]) (rest := []) ⟨hx, hb, hml, hown, hts⟩ hP hK hD hS hN hA (mX6_linesOf_1 l D G mo sa be ke te kn ty ik n tn k N Z S P V F po rd al xj (by first | assumption | omega) (by first | assumption | omega)) (cwV 2 hts gX6_cell_X6_linesOf rfl rfl rfl (by decide +kernel) ⟨Nat.le_of_ble_eq_true rfl, Nat.le_of_ble_eq_true rfl⟩) [0, 1] rfl (by decide) 0 6 rfl rfl rfl hl.1 rfl (Nat.le_of_ble_eq_true rfl) dX6_cell_72 ⟨Nat.zero_le _, Nat.zero_le _⟩ (fun H locs hP hS => ?_)
            refine rTop (show nI (ltm n N xj (2 * n + 2)) = celQ n N Z (nI xj) (nI 3) from by rw [celQ_in hxj (by omega), cellN, if_neg (by decide +kernel), if_neg (by decide +kernel), if_neg (by decide +kernel), if_pos rfl]) ?_
            exact rIret hx hb hr hlk hP hK hD hS dX6_cell_75
          · refine lv_tableOut (tgt := 76) hx hb dX6_cell_11 (by have e0 := lv_neT (a := 0) sw11_0 (by decide +kernel); have e1 := lv_neT (a := 1) sw11_1 (by decide +kernel); have e2 := lv_neT (a := 2) sw11_2 (by decide +kernel); have e3 := lv_neT (a := 3) sw11_3 (by decide +kernel); omega) (by decide) ?_
            refine lv_bipush (v := -2) hx hb dX6_cell_76 (by decide +kernel) ?_
            refine rTop (show (-2) = celQ n N Z (nI xj) y from by rw [celQ_in hxj (by omega), cellN, if_neg sw11_0, if_neg sw11_1, if_neg sw11_2, if_neg sw11_3]) ?_
            exact rIret hx hb hr hlk hP hK hD hS dX6_cell_78
  · refine lv_iconst (v := -1) hx hb dX6_cell_8 (by decide +kernel) ?_
    refine rTop (show (-1) = celQ n N Z x y from celQ_f (by assumption)) ?_
    exact rIret hx hb hr hlk hP hK hD hS dX6_cell_9

set_option maxHeartbeats 4000000 in
set_option maxRecDepth 100000 in
theorem mX6_line (l : Launch) (D : va_G) (G : Nat → ClassId) (mo sa be ke te kn ty : Nat) (ik : Bool) (n tn k : Nat) (N Z S P V : Nat → Int32) (F : Nat → Nat → Int32) (po rd al : Int32) (x y : Int32) (hk : k ≤ 10) (hn : n = 3 ∨ n = 4) : CT l yX6_line wsX6_line 3 70 D G [.ref mo, .int x, .int y] [(mo, .inr (6, [.ref sa, .ref be, .int (nI kn), .ref ke, .int (zB ik), .ref te, .int (nI ty)])), (sa, .inl (G 0, 117, .inl (enc n N Z tn po rd al k S P V F)))] [(mo, .inr (6, [.ref sa, .ref be, .int (nI kn), .ref ke, .int (zB ik), .ref te, .int (nI ty)])), (sa, .inl (G 0, 117, .inl (enc n N Z tn po rd al k S P V F)))] (some (.int (lineQ n N k F x y))) := by
  refine CT.of (cc := cX6_line) (maxL := 3) (ret := (some .int)) (by decide) rfl RX6 rfl (Nat.le_of_ble_eq_true rfl) (fun pp ee s mm bl me cc A ls hx hb hr hml hts hown hlk hnm hA hP hK hD hN hS hl => ?_)
  have hl : lv_has ls 3 [(0, .ref mo), (1, .int x), (2, .int y)] := hl
  have hP : va_P D vwCl [(mo, .inr (6, [.ref sa, .ref be, .int (nI kn), .ref ke, .int (zB ik), .ref te, .int (nI ty)])), (sa, .inl (G 0, 117, .inl (enc n N Z tn po rd al k S P V F)))] s.heap := hP
  have hq9 : n * n < 17 ∧ 0 < n * n := by rcases hn with rfl | rfl <;> decide
  refine lv_aload_n hx hb dX6_line_0 rfl (lv_at hl 0 rfl) ?_
  refine lv_iload_n hx hb dX6_line_1 rfl (lv_at hl 1 rfl) ?_
  refine cVr (As := [.int x]) (rest := []) ⟨hx, hb, hml, hown, hts⟩ hP hK hD hS hN hA (mX6_isLine l D G mo sa be ke te kn ty ik n tn k N Z S P V F po rd al x (by first | assumption | omega)) (cwV 1 hts gX6_line_X6_isLine rfl rfl rfl (by decide +kernel) ⟨Nat.le_of_ble_eq_true rfl, Nat.le_of_ble_eq_true rfl⟩) [0, 1] rfl (by decide) 0 6 rfl rfl rfl hl.1 rfl (Nat.le_of_ble_eq_true rfl) dX6_line_2 ⟨Nat.zero_le _, Nat.zero_le _⟩ (fun H locs hP hS => ?_)
  refine zNe (tgt := 10) hx hb dX6_line_5 (by decide)  (fun c1 => ?_) (fun c1 => ?_)
  · obtain ⟨xj, hxj, rfl⟩ := inB_ex (by assumption) (by omega)
    refine lv_iload_n hx hb dX6_line_10 rfl (lv_at hl 2 rfl) ?_
    by_cases sw11_0 : y = nI 0
    · subst sw11_0
      refine lv_tableIn (off := 33) (tgt := 44) hx hb dX6_line_11 (by decide +kernel) (by decide +kernel) (by decide +kernel) (by decide) ?_
      refine lv_aload_n hx hb dX6_line_44 rfl (lv_at hl 0 rfl) ?_
      refine lv_iload_n hx hb dX6_line_45 rfl (lv_at hl 1 rfl) ?_
      refine cVr (As := [.int (nI xj)]) (rest := []) ⟨hx, hb, hml, hown, hts⟩ hP hK hD hS hN hA (mX6_sum l D G mo sa be ke te kn ty ik n tn k N Z S P V F po rd al xj (by first | assumption | omega) (by first | assumption | omega)) (cwV 1 hts gX6_line_X6_sum rfl rfl rfl (by decide +kernel) ⟨Nat.le_of_ble_eq_true rfl, Nat.le_of_ble_eq_true rfl⟩) [0, 1] rfl (by decide) 0 6 rfl rfl rfl hl.1 rfl (Nat.le_of_ble_eq_true rfl) dX6_line_46 ⟨Nat.zero_le _, Nat.zero_le _⟩ (fun H locs hP hS => ?_)
      refine rTop (show sL n N xj = lineQ n N k F (nI xj) (nI 0) from by rw [lineQ_in hxj (by omega), lineN, if_pos rfl]) ?_
      exact rIret hx hb hr hlk hP hK hD hS dX6_line_49
    · by_cases sw11_1 : y = nI 1
      · subst sw11_1
        refine lv_tableIn (off := 39) (tgt := 50) hx hb dX6_line_11 (by decide +kernel) (by decide +kernel) (by decide +kernel) (by decide) ?_
        refine lv_aload_n hx hb dX6_line_50 rfl (lv_at hl 0 rfl) ?_
        refine lv_iload_n hx hb dX6_line_51 rfl (lv_at hl 1 rfl) ?_
        refine cVr (As := [.int (nI xj)]) (rest := []) ⟨hx, hb, hml, hown, hts⟩ hP hK hD hS hN hA (mX6_sum l D G mo sa be ke te kn ty ik n tn k N Z S P V F po rd al xj (by first | assumption | omega) (by first | assumption | omega)) (cwV 1 hts gX6_line_X6_sum rfl rfl rfl (by decide +kernel) ⟨Nat.le_of_ble_eq_true rfl, Nat.le_of_ble_eq_true rfl⟩) [0, 1] rfl (by decide) 0 6 rfl rfl rfl hl.1 rfl (Nat.le_of_ble_eq_true rfl) dX6_line_52 ⟨Nat.zero_le _, Nat.zero_le _⟩ (fun H locs hP hS => ?_)
        refine lv_aload_n hx hb dX6_line_55 rfl (lv_at hl 0 rfl) ?_
        refine cVr (As := []) (rest := [.int (sL n N xj)]) ⟨hx, hb, hml, hown, hts⟩ hP hK hD hS hN hA (mX6_magic l D G mo sa be ke te kn ty ik n tn k N Z S P V F po rd al (by first | assumption | omega)) (cwV 0 hts gX6_line_X6_magic rfl rfl rfl (by decide +kernel) ⟨Nat.le_of_ble_eq_true rfl, Nat.le_of_ble_eq_true rfl⟩) [0, 1] rfl (by decide) 0 6 rfl rfl rfl hl.1 rfl (Nat.le_of_ble_eq_true rfl) dX6_line_56 ⟨Nat.zero_le _, Nat.zero_le _⟩ (fun H locs hP hS => ?_)
        refine lv_isub hx hb dX6_line_59 ?_
        refine lv_bipush (v := nI 100) hx hb dX6_line_60 (by decide +kernel) ?_
        refine lv_iadd hx hb dX6_line_62 ?_
        refine rTop (show ((sL n N xj - nI (mgN n)) + nI 100) = lineQ n N k F (nI xj) (nI 1) from by rw [lineQ_in hxj (by omega), lineN, if_neg (by decide +kernel), if_pos rfl]) ?_
        exact rIret hx hb hr hlk hP hK hD hS dX6_line_63
      · by_cases sw11_2 : y = nI 2
        · subst sw11_2
          refine lv_tableIn (off := 53) (tgt := 64) hx hb dX6_line_11 (by decide +kernel) (by decide +kernel) (by decide +kernel) (by decide) ?_
          refine lv_aload_n hx hb dX6_line_64 rfl (lv_at hl 0 rfl) ?_
          refine lv_iload_n hx hb dX6_line_65 rfl (lv_at hl 1 rfl) ?_
          refine cVr (As := [.int (nI xj)]) (rest := []) ⟨hx, hb, hml, hown, hts⟩ hP hK hD hS hN hA (mX6_off l D G mo sa be ke te kn ty ik n tn k N Z S P V F po rd al xj (by first | assumption | omega) (by first | assumption | omega)) (cwV 1 hts gX6_line_X6_off rfl rfl rfl (by decide +kernel) ⟨Nat.le_of_ble_eq_true rfl, Nat.le_of_ble_eq_true rfl⟩) [0, 1] rfl (by decide) 0 6 rfl rfl rfl hl.1 rfl (Nat.le_of_ble_eq_true rfl) dX6_line_66 ⟨Nat.zero_le _, Nat.zero_le _⟩ (fun H locs hP hS => ?_)
          refine lv_if_ne (tgt := 76) hx hb dX6_line_69 (by decide)  (fun c2 => ?_) (fun c2 => ?_)
          · refine lv_iconst (v := nI 0) hx hb dX6_line_76 (by decide +kernel) ?_
            refine rTop (show nI 0 = lineQ n N k F (nI xj) (nI 2) from by rw [lineQ_in hxj (by omega), lineN, if_neg (by decide +kernel), if_neg (by decide +kernel), if_pos rfl]; exact zB_0 (mL_f (by assumption))) ?_
            exact rIret hx hb hr hlk hP hK hD hS dX6_line_77
          · refine lv_iconst (v := nI 1) hx hb dX6_line_72 (by decide +kernel) ?_
            refine lv_goto (tgt := 77) hx hb dX6_line_73 (by decide) ?_
            refine rTop (show nI 1 = lineQ n N k F (nI xj) (nI 2) from by rw [lineQ_in hxj (by omega), lineN, if_neg (by decide +kernel), if_neg (by decide +kernel), if_pos rfl]; exact zB_1 (mL_t (by assumption))) ?_
            exact rIret hx hb hr hlk hP hK hD hS dX6_line_77
        · by_cases sw11_3 : y = nI 3
          · subst sw11_3
            refine lv_tableIn (off := 67) (tgt := 78) hx hb dX6_line_11 (by decide +kernel) (by decide +kernel) (by decide +kernel) (by decide) ?_
            refine lv_aload_n hx hb dX6_line_78 rfl (lv_at hl 0 rfl) ?_
            refine lv_iconst (v := nI 1) hx hb dX6_line_79 (by decide +kernel) ?_
            refine lv_iload_n hx hb dX6_line_80 rfl (lv_at hl 1 rfl) ?_
            refine lv_iload_n hx hb dX6_line_81 rfl (lv_at hl 2 rfl) ?_
            refine lv_iconst (v := nI 4) hx hb dX6_line_82 (by decide +kernel) ?_
            refine bNe (tgt := 90) hx hb dX6_line_83 (by decide) (by omega) (by omega) (fun c3 => ?_) (fun c3 => by exfalso; omega)
            refine lv_iconst (v := nI 0) hx hb dX6_line_90 (by decide +kernel) ?_
            refine cVr (As := [.int (nI 1), .int (nI xj), .int (nI 0)]) (rest := []) ⟨hx, hb, hml, hown, hts⟩ hP hK hD hS hN hA (mX6_stakesOf_10 l D G mo sa be ke te kn ty ik n tn k N Z S P V F po rd al xj (by first | assumption | omega)) (cwV 3 hts gX6_line_X6_stakesOf rfl rfl rfl (by decide +kernel) ⟨Nat.le_of_ble_eq_true rfl, Nat.le_of_ble_eq_true rfl⟩) [0, 1] rfl (by decide) 0 6 rfl rfl rfl hl.1 rfl (Nat.le_of_ble_eq_true rfl) dX6_line_91 ⟨Nat.zero_le _, Nat.zero_le _⟩ (fun H locs hP hS => ?_)
            refine rTop (show nI (cw F 1 (nI xj) k) = lineQ n N k F (nI xj) (nI 3) from by rw [lineQ_in hxj (by omega), lineN, if_neg (by decide +kernel), if_neg (by decide +kernel), if_neg (by decide +kernel), if_pos rfl]) ?_
            exact rIret hx hb hr hlk hP hK hD hS dX6_line_94
          · by_cases sw11_4 : y = nI 4
            · subst sw11_4
              refine lv_tableIn (off := 67) (tgt := 78) hx hb dX6_line_11 (by decide +kernel) (by decide +kernel) (by decide +kernel) (by decide) ?_
              refine lv_aload_n hx hb dX6_line_78 rfl (lv_at hl 0 rfl) ?_
              refine lv_iconst (v := nI 1) hx hb dX6_line_79 (by decide +kernel) ?_
              refine lv_iload_n hx hb dX6_line_80 rfl (lv_at hl 1 rfl) ?_
              refine lv_iload_n hx hb dX6_line_81 rfl (lv_at hl 2 rfl) ?_
              refine lv_iconst (v := nI 4) hx hb dX6_line_82 (by decide +kernel) ?_
              refine bNe (tgt := 90) hx hb dX6_line_83 (by decide) (by omega) (by omega) (fun c4 => by exfalso; omega) (fun c4 => ?_)
              refine lv_iconst (v := nI 1) hx hb dX6_line_86 (by decide +kernel) ?_
              refine lv_goto (tgt := 91) hx hb dX6_line_87 (by decide) ?_
              refine cVr (As := [.int (nI 1), .int (nI xj), .int (nI 1)]) (rest := []) ⟨hx, hb, hml, hown, hts⟩ hP hK hD hS hN hA (mX6_stakesOf_11 l D G mo sa be ke te kn ty ik n tn k N Z S P V F po rd al xj (by first | assumption | omega)) (cwV 3 hts gX6_line_X6_stakesOf rfl rfl rfl (by decide +kernel) ⟨Nat.le_of_ble_eq_true rfl, Nat.le_of_ble_eq_true rfl⟩) [0, 1] rfl (by decide) 0 6 rfl rfl rfl hl.1 rfl (Nat.le_of_ble_eq_true rfl) dX6_line_91 ⟨Nat.zero_le _, Nat.zero_le _⟩ (fun H locs hP hS => ?_)
              refine rTop (show aw F 1 (nI xj) k = lineQ n N k F (nI xj) (nI 4) from by rw [lineQ_in hxj (by omega), lineN, if_neg (by decide +kernel), if_neg (by decide +kernel), if_neg (by decide +kernel), if_neg (by decide +kernel), if_pos rfl]) ?_
              exact rIret hx hb hr hlk hP hK hD hS dX6_line_94
            · refine lv_tableOut (tgt := 95) hx hb dX6_line_11 (by have e0 := lv_neT (a := 0) sw11_0 (by decide +kernel); have e1 := lv_neT (a := 1) sw11_1 (by decide +kernel); have e2 := lv_neT (a := 2) sw11_2 (by decide +kernel); have e3 := lv_neT (a := 3) sw11_3 (by decide +kernel); have e4 := lv_neT (a := 4) sw11_4 (by decide +kernel); omega) (by decide) ?_
              refine lv_bipush (v := -2) hx hb dX6_line_95 (by decide +kernel) ?_
              refine rTop (show (-2) = lineQ n N k F (nI xj) y from by rw [lineQ_in hxj (by omega), lineN, if_neg sw11_0, if_neg sw11_1, if_neg sw11_2, if_neg sw11_3, if_neg sw11_4]) ?_
              exact rIret hx hb hr hlk hP hK hD hS dX6_line_97
  · refine lv_iconst (v := -1) hx hb dX6_line_8 (by decide +kernel) ?_
    refine rTop (show (-1) = lineQ n N k F x y from lineQ_f (by assumption)) ?_
    exact rIret hx hb hr hlk hP hK hD hS dX6_line_9

set_option maxHeartbeats 4000000 in
set_option maxRecDepth 100000 in
theorem mX6_rival (l : Launch) (D : va_G) (G : Nat → ClassId) (mo sa be ke te kn ty : Nat) (ik : Bool) (n tn k : Nat) (N Z S P V : Nat → Int32) (F : Nat → Nat → Int32) (po rd al : Int32) (x y : Int32) (hk : k ≤ 10) (hn : n = 3 ∨ n = 4) (hSO : SOK n k F) (hN1 : NOK n N) (hSM : SMK k F) (hRF : RFD k F) : CT l yX6_rival wsX6_rival 5 117 D G [.ref mo, .int x, .int y] [(mo, .inr (6, [.ref sa, .ref be, .int (nI kn), .ref ke, .int (zB ik), .ref te, .int (nI ty)])), (sa, .inl (G 0, 117, .inl (enc n N Z tn po rd al k S P V F)))] [(mo, .inr (6, [.ref sa, .ref be, .int (nI kn), .ref ke, .int (zB ik), .ref te, .int (nI ty)])), (sa, .inl (G 0, 117, .inl (enc n N Z tn po rd al k S P V F)))] (some (.int (rivalQ n N k F (odR F) P V x y))) := by
  refine CT.of (cc := cX6_rival) (maxL := 3) (ret := (some .int)) (by decide) rfl RX6 rfl (Nat.le_of_ble_eq_true rfl) (fun pp ee s mm bl me cc A ls hx hb hr hml hts hown hlk hnm hA hP hK hD hN hS hl => ?_)
  have hl : lv_has ls 3 [(0, .ref mo), (1, .int x), (2, .int y)] := hl
  have hP : va_P D vwCl [(mo, .inr (6, [.ref sa, .ref be, .int (nI kn), .ref ke, .int (zB ik), .ref te, .int (nI ty)])), (sa, .inl (G 0, 117, .inl (enc n N Z tn po rd al k S P V F)))] s.heap := hP
  have inX6 : ∀ w ∈ wsX60, w ∈ wsX6_rival := fun w h => List.mem_cons_of_mem _ (List.mem_append_right _ h)
  have k7 := hts (.fieldLink RX6 7 "SquareStakesModel" "s" "[I") (List.mem_of_getElem? (i := 1) rfl)
  refine lv_iload_n hx hb dX6_rival_0 rfl (lv_at hl 1 rfl) ?_
  refine lv_iconst (v := nI 0) hx hb dX6_rival_1 (by decide +kernel) ?_
  refine lv_iconst (v := nI 2) hx hb dX6_rival_2 (by decide +kernel) ?_
  refine cSr (As := [.int x, .int (nI 0), .int (nI 2)]) (rest := []) ⟨hx, hb, hml, hown, hts⟩ hP hK hD hS hN hA (mX6_in l D G x (nI 0) (nI 2) ) (cwS 3 hts gX6_rival_X6_in rfl rfl rfl (by decide +kernel) ⟨Nat.le_of_ble_eq_true rfl, Nat.le_of_ble_eq_true rfl⟩) [] rfl (by decide) rfl hl.1 rfl (Nat.le_of_ble_eq_true rfl) dX6_rival_3 ⟨Nat.zero_le _, Nat.zero_le _⟩ (fun H locs hP hS => ?_)
  refine zNe (tgt := 11) hx hb dX6_rival_6 (by decide)  (fun c1 => ?_) (fun c1 => ?_)
  · obtain ⟨xj, hxj, rfl⟩ := inB_ex (rg_3.symm.trans (by assumption)) (by omega)
    refine lv_iload_n hx hb dX6_rival_11 rfl (lv_at hl 2 rfl) ?_
    by_cases sw12_0 : y = nI 0
    · subst sw12_0
      refine lv_tableIn (off := 36) (tgt := 48) hx hb dX6_rival_12 (by decide +kernel) (by decide +kernel) (by decide +kernel) (by decide) ?_
      refine lv_aload_n hx hb dX6_rival_48 rfl (lv_at hl 0 rfl) ?_
      refine va_get (D := D) (ci := 6) (v := .ref sa) (C := RX6) (T := TX6) (N := 7) hx hb hts inX6 hown hK hP 0 rfl rfl 0 (by decide) k7 (fun _ h9 => h9) rfl dX6_rival_49 ?_
      refine lv_bipush (v := nI 9) hx hb dX6_rival_52 (by decide +kernel) ?_
      refine lv_iload_n hx hb dX6_rival_54 rfl (lv_at hl 1 rfl) ?_
      refine lv_iadd hx hb dX6_rival_55 ?_
      refine rTop (show nI 9 + nI xj = nI (9 + xj) from nI_add 9 xj) ?_
      refine rIald hx hb hK hP 1 rfl (9 + xj) (by omega) (by decide) dX6_rival_56 ?_
      refine rTop (enc_P n N Z tn po rd al k S P V F xj (by omega)) ?_
      refine rTop (show P xj = rivalQ n N k F (odR F) P V (nI xj) (nI 0) from by rw [rivalQ_in hxj, rivalN, if_pos rfl]) ?_
      exact rIret hx hb hr hlk hP hK hD hS dX6_rival_57
    · by_cases sw12_1 : y = nI 1
      · subst sw12_1
        refine lv_tableIn (off := 46) (tgt := 58) hx hb dX6_rival_12 (by decide +kernel) (by decide +kernel) (by decide +kernel) (by decide) ?_
        refine lv_aload_n hx hb dX6_rival_58 rfl (lv_at hl 0 rfl) ?_
        refine va_get (D := D) (ci := 6) (v := .ref sa) (C := RX6) (T := TX6) (N := 7) hx hb hts inX6 hown hK hP 0 rfl rfl 0 (by decide) k7 (fun _ h9 => h9) rfl dX6_rival_59 ?_
        refine lv_bipush (v := nI 12) hx hb dX6_rival_62 (by decide +kernel) ?_
        refine lv_iload_n hx hb dX6_rival_64 rfl (lv_at hl 1 rfl) ?_
        refine lv_iadd hx hb dX6_rival_65 ?_
        refine rTop (show nI 12 + nI xj = nI (12 + xj) from nI_add 12 xj) ?_
        refine rIald hx hb hK hP 1 rfl (12 + xj) (by omega) (by decide) dX6_rival_66 ?_
        refine rTop (enc_V n N Z tn po rd al k S P V F xj (by omega)) ?_
        refine rTop (show V xj = rivalQ n N k F (odR F) P V (nI xj) (nI 1) from by rw [rivalQ_in hxj, rivalN, if_neg (by decide +kernel), if_pos rfl]) ?_
        exact rIret hx hb hr hlk hP hK hD hS dX6_rival_67
      · by_cases sw12_2 : y = nI 2
        · subst sw12_2
          refine lv_tableIn (off := 56) (tgt := 68) hx hb dX6_rival_12 (by decide +kernel) (by decide +kernel) (by decide +kernel) (by decide) ?_
          refine lv_aload_n hx hb dX6_rival_68 rfl (lv_at hl 0 rfl) ?_
          refine lv_iconst (v := nI 0) hx hb dX6_rival_69 (by decide +kernel) ?_
          refine lv_iload_n hx hb dX6_rival_70 rfl (lv_at hl 1 rfl) ?_
          refine lv_iload_n hx hb dX6_rival_71 rfl (lv_at hl 2 rfl) ?_
          refine lv_iconst (v := nI 3) hx hb dX6_rival_72 (by decide +kernel) ?_
          refine bNe (tgt := 80) hx hb dX6_rival_73 (by decide) (by omega) (by omega) (fun c2 => ?_) (fun c2 => by exfalso; omega)
          refine lv_iconst (v := nI 0) hx hb dX6_rival_80 (by decide +kernel) ?_
          refine cVr (As := [.int (nI 0), .int (nI xj), .int (nI 0)]) (rest := []) ⟨hx, hb, hml, hown, hts⟩ hP hK hD hS hN hA (mX6_stakesOf_00 l D G mo sa be ke te kn ty ik n tn k N Z S P V F po rd al xj (by first | assumption | omega)) (cwV 3 hts gX6_rival_X6_stakesOf rfl rfl rfl (by decide +kernel) ⟨Nat.le_of_ble_eq_true rfl, Nat.le_of_ble_eq_true rfl⟩) [0, 1] rfl (by decide) 0 6 rfl rfl rfl hl.1 rfl (Nat.le_of_ble_eq_true rfl) dX6_rival_81 ⟨Nat.zero_le _, Nat.zero_le _⟩ (fun H locs hP hS => ?_)
          refine rTop (show nI (cw F 0 (nI xj) k) = rivalQ n N k F (odR F) P V (nI xj) (nI 2) from by rw [rivalQ_in hxj, rivalN, if_neg (by decide +kernel), if_neg (by decide +kernel), if_pos rfl]) ?_
          exact rIret hx hb hr hlk hP hK hD hS dX6_rival_84
        · by_cases sw12_3 : y = nI 3
          · subst sw12_3
            refine lv_tableIn (off := 56) (tgt := 68) hx hb dX6_rival_12 (by decide +kernel) (by decide +kernel) (by decide +kernel) (by decide) ?_
            refine lv_aload_n hx hb dX6_rival_68 rfl (lv_at hl 0 rfl) ?_
            refine lv_iconst (v := nI 0) hx hb dX6_rival_69 (by decide +kernel) ?_
            refine lv_iload_n hx hb dX6_rival_70 rfl (lv_at hl 1 rfl) ?_
            refine lv_iload_n hx hb dX6_rival_71 rfl (lv_at hl 2 rfl) ?_
            refine lv_iconst (v := nI 3) hx hb dX6_rival_72 (by decide +kernel) ?_
            refine bNe (tgt := 80) hx hb dX6_rival_73 (by decide) (by omega) (by omega) (fun c3 => by exfalso; omega) (fun c3 => ?_)
            refine lv_iconst (v := nI 1) hx hb dX6_rival_76 (by decide +kernel) ?_
            refine lv_goto (tgt := 81) hx hb dX6_rival_77 (by decide) ?_
            refine cVr (As := [.int (nI 0), .int (nI xj), .int (nI 1)]) (rest := []) ⟨hx, hb, hml, hown, hts⟩ hP hK hD hS hN hA (mX6_stakesOf_01 l D G mo sa be ke te kn ty ik n tn k N Z S P V F po rd al xj (by first | assumption | omega)) (cwV 3 hts gX6_rival_X6_stakesOf rfl rfl rfl (by decide +kernel) ⟨Nat.le_of_ble_eq_true rfl, Nat.le_of_ble_eq_true rfl⟩) [0, 1] rfl (by decide) 0 6 rfl rfl rfl hl.1 rfl (Nat.le_of_ble_eq_true rfl) dX6_rival_81 ⟨Nat.zero_le _, Nat.zero_le _⟩ (fun H locs hP hS => ?_)
            refine rTop (show aw F 0 (nI xj) k = rivalQ n N k F (odR F) P V (nI xj) (nI 3) from by rw [rivalQ_in hxj, rivalN, if_neg (by decide +kernel), if_neg (by decide +kernel), if_neg (by decide +kernel), if_pos rfl]) ?_
            exact rIret hx hb hr hlk hP hK hD hS dX6_rival_84
          · by_cases sw12_4 : y = nI 4
            · subst sw12_4
              refine lv_tableIn (off := 73) (tgt := 85) hx hb dX6_rival_12 (by decide +kernel) (by decide +kernel) (by decide +kernel) (by decide) ?_
              refine lv_aload_n hx hb dX6_rival_85 rfl (lv_at hl 0 rfl) ?_
              refine lv_iload_n hx hb dX6_rival_86 rfl (lv_at hl 1 rfl) ?_
              refine cVr (As := [.int (nI xj)]) (rest := []) ⟨hx, hb, hml, hown, hts⟩ hP hK hD hS hN hA (mX6_wouldPay_r l D G mo sa be ke te kn ty ik n tn k N Z S P V F po rd al xj (by first | assumption | omega) (by first | assumption | omega) (by first | assumption | omega) (by first | assumption | omega) (by first | assumption | omega) (by first | assumption | omega) (by first | assumption | omega)) (cwV 1 hts gX6_rival_X6_wouldPay rfl rfl rfl (by decide +kernel) ⟨Nat.le_of_ble_eq_true rfl, Nat.le_of_ble_eq_true rfl⟩) [0, 1] rfl (by decide) 0 6 rfl rfl rfl hl.1 rfl (Nat.le_of_ble_eq_true rfl) dX6_rival_87 ⟨Nat.zero_le _, Nat.zero_le _⟩ (fun H locs hP hS => ?_)
              refine rTop (show du n N F (odR F) (nI xj) k = rivalQ n N k F (odR F) P V (nI xj) (nI 4) from by rw [rivalQ_in hxj, rivalN, if_neg (by decide +kernel), if_neg (by decide +kernel), if_neg (by decide +kernel), if_neg (by decide +kernel), if_pos rfl]) ?_
              exact rIret hx hb hr hlk hP hK hD hS dX6_rival_90
            · refine lv_tableOut (tgt := 91) hx hb dX6_rival_12 (by have e0 := lv_neT (a := 0) sw12_0 (by decide +kernel); have e1 := lv_neT (a := 1) sw12_1 (by decide +kernel); have e2 := lv_neT (a := 2) sw12_2 (by decide +kernel); have e3 := lv_neT (a := 3) sw12_3 (by decide +kernel); have e4 := lv_neT (a := 4) sw12_4 (by decide +kernel); omega) (by decide) ?_
              refine lv_bipush (v := -2) hx hb dX6_rival_91 (by decide +kernel) ?_
              refine rTop (show (-2) = rivalQ n N k F (odR F) P V (nI xj) y from by rw [rivalQ_in hxj, rivalN, if_neg sw12_0, if_neg sw12_1, if_neg sw12_2, if_neg sw12_3, if_neg sw12_4]) ?_
              exact rIret hx hb hr hlk hP hK hD hS dX6_rival_93
  · refine lv_iconst (v := -1) hx hb dX6_rival_9 (by decide +kernel) ?_
    refine rTop (show (-1) = rivalQ n N k F (odR F) P V x y from rivalQ_f (rg_3.symm.trans (by assumption))) ?_
    exact rIret hx hb hr hlk hP hK hD hS dX6_rival_10

set_option maxHeartbeats 4000000 in
set_option maxRecDepth 100000 in
theorem mX6_stakeOf (l : Launch) (D : va_G) (G : Nat → ClassId) (mo sa be ke te kn ty : Nat) (ik : Bool) (n tn k : Nat) (N Z S P V : Nat → Int32) (F : Nat → Nat → Int32) (po rd al : Int32) (x y : Int32) (hk : k ≤ 10) (hn : n = 3 ∨ n = 4) (hSO : SOK n k F) (hN1 : NOK n N) (hSM : SMK k F) (hRF : RFD k F) : CT l yX6_stakeOf wsX6_stakeOf 4 94 D G [.ref mo, .int x, .int y] [(mo, .inr (6, [.ref sa, .ref be, .int (nI kn), .ref ke, .int (zB ik), .ref te, .int (nI ty)])), (sa, .inl (G 0, 117, .inl (enc n N Z tn po rd al k S P V F)))] [(mo, .inr (6, [.ref sa, .ref be, .int (nI kn), .ref ke, .int (zB ik), .ref te, .int (nI ty)])), (sa, .inl (G 0, 117, .inl (enc n N Z tn po rd al k S P V F)))] (some (.int (stakeQ n N k F (odR F) x y))) := by
  refine CT.of (cc := cX6_stakeOf) (maxL := 3) (ret := (some .int)) (by decide) rfl RX6 rfl (Nat.le_of_ble_eq_true rfl) (fun pp ee s mm bl me cc A ls hx hb hr hml hts hown hlk hnm hA hP hK hD hN hS hl => ?_)
  have hl : lv_has ls 3 [(0, .ref mo), (1, .int x), (2, .int y)] := hl
  have hP : va_P D vwCl [(mo, .inr (6, [.ref sa, .ref be, .int (nI kn), .ref ke, .int (zB ik), .ref te, .int (nI ty)])), (sa, .inl (G 0, 117, .inl (enc n N Z tn po rd al k S P V F)))] s.heap := hP
  have inX6 : ∀ w ∈ wsX60, w ∈ wsX6_stakeOf := fun w h => List.mem_cons_of_mem _ (List.mem_append_right _ h)
  have k7 := hts (.fieldLink RX6 7 "SquareStakesModel" "s" "[I") (List.mem_of_getElem? (i := 1) rfl)
  refine lv_iload_n hx hb dX6_stakeOf_0 rfl (lv_at hl 1 rfl) ?_
  refine lv_iconst (v := nI 0) hx hb dX6_stakeOf_1 (by decide +kernel) ?_
  refine lv_aload_n hx hb dX6_stakeOf_2 rfl (lv_at hl 0 rfl) ?_
  refine va_get (D := D) (ci := 6) (v := .ref sa) (C := RX6) (T := TX6) (N := 7) hx hb hts inX6 hown hK hP 0 rfl rfl 0 (by decide) k7 (fun _ h9 => h9) rfl dX6_stakeOf_3 ?_
  refine lv_iconst (v := nI 5) hx hb dX6_stakeOf_6 (by decide +kernel) ?_
  refine rIald hx hb hK hP 1 rfl 5 (by omega) (by decide) dX6_stakeOf_7 ?_
  refine rTop (show enc n N Z tn po rd al k S P V F 5 = nI k from rfl) ?_
  refine lv_iconst (v := nI 1) hx hb dX6_stakeOf_8 (by decide +kernel) ?_
  refine lv_isub hx hb dX6_stakeOf_9 ?_
  refine cSr (As := [.int x, .int (nI 0), .int (nI k - nI 1)]) (rest := []) ⟨hx, hb, hml, hown, hts⟩ hP hK hD hS hN hA (mX6_in l D G x (nI 0) (nI k - nI 1) ) (cwS 3 hts gX6_stakeOf_X6_in rfl rfl rfl (by decide +kernel) ⟨Nat.le_of_ble_eq_true rfl, Nat.le_of_ble_eq_true rfl⟩) [] rfl (by decide) rfl hl.1 rfl (Nat.le_of_ble_eq_true rfl) dX6_stakeOf_10 ⟨Nat.zero_le _, Nat.zero_le _⟩ (fun H locs hP hS => ?_)
  refine zNe (tgt := 18) hx hb dX6_stakeOf_13 (by decide)  (fun c1 => ?_) (fun c1 => ?_)
  · obtain ⟨xj, hxj, rfl⟩ := inB_ex ((rg_k (x := x) (k := k) (by omega)).symm.trans (by assumption)) (by omega)
    refine lv_iload_n hx hb dX6_stakeOf_18 rfl (lv_at hl 2 rfl) ?_
    refine lv_iconst (v := nI 0) hx hb dX6_stakeOf_19 (by decide +kernel) ?_
    refine lv_bipush (v := nI 6) hx hb dX6_stakeOf_20 (by decide +kernel) ?_
    refine cSr (As := [.int y, .int (nI 0), .int (nI 6)]) (rest := []) ⟨hx, hb, hml, hown, hts⟩ hP hK hD hS hN hA (mX6_in l D G y (nI 0) (nI 6) ) (cwS 3 hts gX6_stakeOf_X6_in rfl rfl rfl (by decide +kernel) ⟨Nat.le_of_ble_eq_true rfl, Nat.le_of_ble_eq_true rfl⟩) [] rfl (by decide) rfl hl.1 rfl (Nat.le_of_ble_eq_true rfl) dX6_stakeOf_22 ⟨Nat.zero_le _, Nat.zero_le _⟩ (fun H locs hP hS => ?_)
    refine zNe (tgt := 31) hx hb dX6_stakeOf_25 (by decide)  (fun c2 => ?_) (fun c2 => ?_)
    · obtain ⟨yj, hyj, rfl⟩ := inB_ex (rg_7.symm.trans (by assumption)) (by omega)
      refine lv_iload_n hx hb dX6_stakeOf_31 rfl (lv_at hl 2 rfl) ?_
      refine lv_iconst (v := nI 5) hx hb dX6_stakeOf_32 (by decide +kernel) ?_
      refine bGe (tgt := 49) hx hb dX6_stakeOf_33 (by decide) (by omega) (by omega) (fun c3 => ?_) (fun c3 => ?_)
      · refine lv_iload_n hx hb dX6_stakeOf_49 rfl (lv_at hl 2 rfl) ?_
        refine lv_iconst (v := nI 5) hx hb dX6_stakeOf_50 (by decide +kernel) ?_
        refine bNe (tgt := 70) hx hb dX6_stakeOf_51 (by decide) (by omega) (by omega) (fun c4 => ?_) (fun c4 => ?_)
        · refine lv_aload_n hx hb dX6_stakeOf_70 rfl (lv_at hl 0 rfl) ?_
          refine lv_iload_n hx hb dX6_stakeOf_71 rfl (lv_at hl 1 rfl) ?_
          refine cVr (As := [.int (nI xj)]) (rest := []) ⟨hx, hb, hml, hown, hts⟩ hP hK hD hS hN hA (mX6_pays l D G mo sa be ke te kn ty ik n tn k N Z S P V F po rd al xj (by first | assumption | omega) (by first | assumption | omega) (by first | assumption | omega)) (cwV 1 hts gX6_stakeOf_X6_pays rfl rfl rfl (by decide +kernel) ⟨Nat.le_of_ble_eq_true rfl, Nat.le_of_ble_eq_true rfl⟩) [0, 1] rfl (by decide) 0 6 rfl rfl rfl hl.1 rfl (Nat.le_of_ble_eq_true rfl) dX6_stakeOf_72 ⟨Nat.zero_le _, Nat.zero_le _⟩ (fun H locs hP hS => ?_)
          refine rTop (show pay F (odR F) xj = stakeQ n N k F (odR F) (nI xj) (nI yj) from by rw [stakeQ_in hxj (by omega)]; exact stakeN_6 (by omega)) ?_
          exact rIret hx hb hr hlk hP hK hD hS dX6_stakeOf_75
        · refine lv_aload_n hx hb dX6_stakeOf_54 rfl (lv_at hl 0 rfl) ?_
          refine lv_iload_n hx hb dX6_stakeOf_55 rfl (lv_at hl 1 rfl) ?_
          refine cVr (As := [.int (nI xj)]) (rest := []) ⟨hx, hb, hml, hown, hts⟩ hP hK hD hS hN hA (mX6_isRight l D G mo sa be ke te kn ty ik n tn k N Z S P V F po rd al xj (by first | assumption | omega) (by first | assumption | omega) (by first | assumption | omega) (by first | assumption | omega) (by first | assumption | omega) (by first | assumption | omega)) (cwV 1 hts gX6_stakeOf_X6_isRight rfl rfl rfl (by decide +kernel) ⟨Nat.le_of_ble_eq_true rfl, Nat.le_of_ble_eq_true rfl⟩) [0, 1] rfl (by decide) 0 6 rfl rfl rfl hl.1 rfl (Nat.le_of_ble_eq_true rfl) dX6_stakeOf_56 ⟨Nat.zero_le _, Nat.zero_le _⟩ (fun H locs hP hS => ?_)
          refine zEq (tgt := 66) hx hb dX6_stakeOf_59 (by decide)  (fun c5 => ?_) (fun c5 => ?_)
          · refine lv_iconst (v := nI 0) hx hb dX6_stakeOf_66 (by decide +kernel) ?_
            refine lv_goto (tgt := 75) hx hb dX6_stakeOf_67 (by decide) ?_
            refine rTop (show nI 0 = stakeQ n N k F (odR F) (nI xj) (nI yj) from by rw [stakeQ_in hxj (by omega)]; exact (show nI 0 = zB (rgt n N F xj) from zB_0 (by assumption)).trans (stakeN_5 (by omega))) ?_
            exact rIret hx hb hr hlk hP hK hD hS dX6_stakeOf_75
          · refine lv_iconst (v := nI 1) hx hb dX6_stakeOf_62 (by decide +kernel) ?_
            refine lv_goto (tgt := 75) hx hb dX6_stakeOf_63 (by decide) ?_
            refine rTop (show nI 1 = stakeQ n N k F (odR F) (nI xj) (nI yj) from by rw [stakeQ_in hxj (by omega)]; exact (show nI 1 = zB (rgt n N F xj) from zB_1 (by assumption)).trans (stakeN_5 (by omega))) ?_
            exact rIret hx hb hr hlk hP hK hD hS dX6_stakeOf_75
      · refine lv_aload_n hx hb dX6_stakeOf_36 rfl (lv_at hl 0 rfl) ?_
        refine va_get (D := D) (ci := 6) (v := .ref sa) (C := RX6) (T := TX6) (N := 7) hx hb hts inX6 hown hK hP 0 rfl rfl 0 (by decide) k7 (fun _ h9 => h9) rfl dX6_stakeOf_37 ?_
        refine lv_iload_n hx hb dX6_stakeOf_40 rfl (lv_at hl 1 rfl) ?_
        refine lv_iload_n hx hb dX6_stakeOf_41 rfl (lv_at hl 2 rfl) ?_
        refine cSr (As := [.int (nI xj), .int (nI yj)]) (rest := [.ref sa]) ⟨hx, hb, hml, hown, hts⟩ hP hK hD hS hN hA (mX6_of l D G xj yj ) (cwS 2 hts gX6_stakeOf_X6_of rfl rfl rfl (by decide +kernel) ⟨Nat.le_of_ble_eq_true rfl, Nat.le_of_ble_eq_true rfl⟩) [] rfl (by decide) rfl hl.1 rfl (Nat.le_of_ble_eq_true rfl) dX6_stakeOf_42 ⟨Nat.zero_le _, Nat.zero_le _⟩ (fun H locs hP hS => ?_)
        refine rIald hx hb hK hP 1 rfl (47 + 7 * xj + yj) (by omega) (by decide) dX6_stakeOf_45 ?_
        refine rTop (show enc n N Z tn po rd al k S P V F (47 + 7 * xj + yj) = F xj yj from enc_F _ _ _ _ _ _ _ _ _ _ _ _ xj yj (by omega) (by omega)) ?_
        refine lv_goto (tgt := 75) hx hb dX6_stakeOf_46 (by decide) ?_
        refine rTop (show F xj yj = stakeQ n N k F (odR F) (nI xj) (nI yj) from by rw [stakeQ_in hxj (by omega)]; exact stakeN_lt (by omega)) ?_
        exact rIret hx hb hr hlk hP hK hD hS dX6_stakeOf_75
    · refine lv_bipush (v := -2) hx hb dX6_stakeOf_28 (by decide +kernel) ?_
      refine rTop (show (-2) = stakeQ n N k F (odR F) (nI xj) y from by rw [stakeQ_in hxj (by omega)]; exact stakeN_no (by assumption)) ?_
      exact rIret hx hb hr hlk hP hK hD hS dX6_stakeOf_30
  · refine lv_iconst (v := -1) hx hb dX6_stakeOf_16 (by decide +kernel) ?_
    refine rTop (show (-1) = stakeQ n N k F (odR F) x y from stakeQ_f ((rg_k (x := x) (k := k) (by omega)).symm.trans (by assumption))) ?_
    exact rIret hx hb hr hlk hP hK hD hS dX6_stakeOf_17

set_option maxHeartbeats 4000000 in
set_option maxRecDepth 100000 in
theorem mX6_odds (l : Launch) (D : va_G) (G : Nat → ClassId) (mo sa be ke te kn ty : Nat) (ik : Bool) (n tn k : Nat) (N Z S P V : Nat → Int32) (F : Nat → Nat → Int32) (po rd al : Int32) (x : Int32) (hk : k ≤ 10) (hRF : RFD k F) : CT l yX6_odds wsX6_odds 2 42 D G [.ref mo, .int x] [(mo, .inr (6, [.ref sa, .ref be, .int (nI kn), .ref ke, .int (zB ik), .ref te, .int (nI ty)])), (sa, .inl (G 0, 117, .inl (enc n N Z tn po rd al k S P V F)))] [(mo, .inr (6, [.ref sa, .ref be, .int (nI kn), .ref ke, .int (zB ik), .ref te, .int (nI ty)])), (sa, .inl (G 0, 117, .inl (enc n N Z tn po rd al k S P V F)))] (some (.float (oddsQ k (odR F) x))) := by
  refine CT.of (cc := cX6_odds) (maxL := 2) (ret := (some .float)) (by decide) rfl RX6 rfl (Nat.le_of_ble_eq_true rfl) (fun pp ee s mm bl me cc A ls hx hb hr hml hts hown hlk hnm hA hP hK hD hN hS hl => ?_)
  have hl : lv_has ls 2 [(0, .ref mo), (1, .int x)] := hl
  have hP : va_P D vwCl [(mo, .inr (6, [.ref sa, .ref be, .int (nI kn), .ref ke, .int (zB ik), .ref te, .int (nI ty)])), (sa, .inl (G 0, 117, .inl (enc n N Z tn po rd al k S P V F)))] s.heap := hP
  have inX6 : ∀ w ∈ wsX60, w ∈ wsX6_odds := fun w h => List.mem_cons_of_mem _ (List.mem_append_right _ h)
  have k7 := hts (.fieldLink RX6 7 "SquareStakesModel" "s" "[I") (List.mem_of_getElem? (i := 1) rfl)
  have k132 := hts (.constantFloat RX6 132 (3212836864)) (List.mem_of_getElem? (i := 2) rfl)
  refine lv_iload_n hx hb dX6_odds_0 rfl (lv_at hl 1 rfl) ?_
  refine lv_iconst (v := nI 0) hx hb dX6_odds_1 (by decide +kernel) ?_
  refine lv_aload_n hx hb dX6_odds_2 rfl (lv_at hl 0 rfl) ?_
  refine va_get (D := D) (ci := 6) (v := .ref sa) (C := RX6) (T := TX6) (N := 7) hx hb hts inX6 hown hK hP 0 rfl rfl 0 (by decide) k7 (fun _ h9 => h9) rfl dX6_odds_3 ?_
  refine lv_iconst (v := nI 5) hx hb dX6_odds_6 (by decide +kernel) ?_
  refine rIald hx hb hK hP 1 rfl 5 (by omega) (by decide) dX6_odds_7 ?_
  refine rTop (show enc n N Z tn po rd al k S P V F 5 = nI k from rfl) ?_
  refine lv_iconst (v := nI 1) hx hb dX6_odds_8 (by decide +kernel) ?_
  refine lv_isub hx hb dX6_odds_9 ?_
  refine cSr (As := [.int x, .int (nI 0), .int (nI k - nI 1)]) (rest := []) ⟨hx, hb, hml, hown, hts⟩ hP hK hD hS hN hA (mX6_in l D G x (nI 0) (nI k - nI 1) ) (cwS 3 hts gX6_odds_X6_in rfl rfl rfl (by decide +kernel) ⟨Nat.le_of_ble_eq_true rfl, Nat.le_of_ble_eq_true rfl⟩) [] rfl (by decide) rfl hl.1 rfl (Nat.le_of_ble_eq_true rfl) dX6_odds_10 ⟨Nat.zero_le _, Nat.zero_le _⟩ (fun H locs hP hS => ?_)
  refine zEq (tgt := 24) hx hb dX6_odds_13 (by decide)  (fun c1 => ?_) (fun c1 => ?_)
  · refine lv_ldcf hx hb hown k132 dX6_odds_24 ?_
    refine rTopF (show 3212836864 = oddsQ k (odR F) x from oddsQ_f ((rg_k (x := x) (k := k) (by omega)).symm.trans (by assumption))) ?_
    exact rFret hx hb hr hlk hP hK hD hS dX6_odds_26
  · obtain ⟨xj, hxj, rfl⟩ := inB_ex ((rg_k (x := x) (k := k) (by omega)).symm.trans (by assumption)) (by omega)
    refine lv_aload_n hx hb dX6_odds_16 rfl (lv_at hl 0 rfl) ?_
    refine lv_iload_n hx hb dX6_odds_17 rfl (lv_at hl 1 rfl) ?_
    refine cVr (As := [.int (nI xj)]) (rest := []) ⟨hx, hb, hml, hown, hts⟩ hP hK hD hS hN hA (mX6_oddsOf l D G mo sa be ke te kn ty ik n tn k N Z S P V F po rd al xj (by first | assumption | omega) (by first | assumption | omega) (by first | assumption | omega)) (cwV 1 hts gX6_odds_X6_oddsOf rfl rfl rfl (by decide +kernel) ⟨Nat.le_of_ble_eq_true rfl, Nat.le_of_ble_eq_true rfl⟩) [0, 1] rfl (by decide) 0 6 rfl rfl rfl hl.1 rfl (Nat.le_of_ble_eq_true rfl) dX6_odds_18 ⟨Nat.zero_le _, Nat.zero_le _⟩ (fun H locs hP hS => ?_)
    refine lv_goto (tgt := 26) hx hb dX6_odds_21 (by decide) ?_
    refine rTopF (show odf (F xj 5) (F xj 6) = oddsQ k (odR F) (nI xj) from (oddsQ_in (O := odR F) hxj (by omega))) ?_
    exact rFret hx hb hr hlk hP hK hD hS dX6_odds_26
