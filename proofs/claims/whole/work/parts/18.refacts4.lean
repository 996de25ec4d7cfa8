set_option maxHeartbeats 4000000 in
set_option maxRecDepth 100000 in
theorem mX6_set_err (l : Launch) (D : va_G) (G : Nat → ClassId) (mo sa be ke te kn ty : Nat) (ik : Bool) (n tn k : Nat) (N Z S P V : Nat → Int32) (F : Nat → Nat → Int32) (po rd al : Int32) (B : Nat → Nat → Int32) (nq tnq kq : Nat) (Nq Zq Sq Pq Vq : Nat → Int32) (Fq : Nat → Nat → Int32) (poq rdq alq : Int32) (t : Nat → Nat) (x y : Int32) (hE : alS x y = false) : CT l yX6_set wsX6_set 1 22 D G [.ref mo, .int x, .int y] [(mo, .inr (6, [.ref sa, .ref be, .int (nI kn), .ref ke, .int (zB ik), .ref te, .int (nI ty)])), (sa, .inl (G 0, 117, .inl (enc n N Z tn po rd al k S P V F))), (be, .inl (G 0, 468, .inl (bf B))), (ke, .inl (G 0, 117, .inl (enc nq Nq Zq tnq poq rdq alq kq Sq Pq Vq Fq))), (te, .inl (G 0, 60, .inl (ch t)))] [(mo, .inr (6, [.ref sa, .ref be, .int (nI kn), .ref ke, .int (zB ik), .ref te, .int (nI ty)])), (sa, .inl (G 0, 117, .inl (enc n N Z tn po rd al k S P V F))), (be, .inl (G 0, 468, .inl (bf B))), (ke, .inl (G 0, 117, .inl (enc nq Nq Zq tnq poq rdq alq kq Sq Pq Vq Fq))), (te, .inl (G 0, 60, .inl (ch t)))] (some (.int (-2))) := by
  refine CT.of (cc := cX6_set) (maxL := 4) (ret := (some .int)) (by decide) rfl RX6 rfl (Nat.le_of_ble_eq_true rfl) (fun pp ee s mm bl me cc A ls hx hb hr hml hts hown hlk hnm hA hP hK hD hN hS hl => ?_)
  have hl : lv_has ls 4 [(0, .ref mo), (1, .int x), (2, .int y)] := hl
  have hP : va_P D vwCl [(mo, .inr (6, [.ref sa, .ref be, .int (nI kn), .ref ke, .int (zB ik), .ref te, .int (nI ty)])), (sa, .inl (G 0, 117, .inl (enc n N Z tn po rd al k S P V F))), (be, .inl (G 0, 468, .inl (bf B))), (ke, .inl (G 0, 117, .inl (enc nq Nq Zq tnq poq rdq alq kq Sq Pq Vq Fq))), (te, .inl (G 0, 60, .inl (ch t)))] s.heap := hP
  refine lv_iload_n hx hb dX6_set_0 rfl (lv_at hl 1 rfl) ?_
  refine lv_iconst (v := nI 0) hx hb dX6_set_1 (by decide +kernel) ?_
  refine lv_iconst (v := nI 2) hx hb dX6_set_2 (by decide +kernel) ?_
  refine cSr (As := [.int x, .int (nI 0), .int (nI 2)]) (rest := []) ⟨hx, hb, hml, hown, hts⟩ hP hK hD hS hN hA (mX6_in l D G x (nI 0) (nI 2) ) (cwS 3 hts gX6_set_X6_in rfl rfl rfl (by decide +kernel) ⟨Nat.le_of_ble_eq_true rfl, Nat.le_of_ble_eq_true rfl⟩) [] rfl (by decide) rfl hl.1 rfl (Nat.le_of_ble_eq_true rfl) dX6_set_3 ⟨Nat.zero_le _, Nat.zero_le _⟩ (fun H locs hP hS => ?_)
  refine zEq (tgt := 27) hx hb dX6_set_6 (by decide)  (fun c1 => ?_) (fun c1 => ?_)
  · refine lv_bipush (v := -2) hx hb dX6_set_27 (by decide +kernel) ?_
    refine rTop (show (-2) = -2 from rfl) ?_
    exact rIret hx hb hr hlk hP hK hD hS dX6_set_29
  · refine lv_iload_n hx hb dX6_set_9 rfl (lv_at hl 2 rfl) ?_
    refine lv_iload_n hx hb dX6_set_10 rfl (lv_at hl 1 rfl) ?_
    refine lv_if_ne (tgt := 18) hx hb dX6_set_11 (by decide)  (fun c2 => ?_) (fun c2 => ?_)
    · refine lv_iconst (v := nI 0) hx hb dX6_set_18 (by decide +kernel) ?_
      refine lv_bipush (v := nI 9) hx hb dX6_set_19 (by decide +kernel) ?_
      refine cSr (As := [.int y, .int (nI 0), .int (nI 9)]) (rest := []) ⟨hx, hb, hml, hown, hts⟩ hP hK hD hS hN hA (mX6_in l D G y (nI 0) (nI 9) ) (cwS 3 hts gX6_set_X6_in rfl rfl rfl (by decide +kernel) ⟨Nat.le_of_ble_eq_true rfl, Nat.le_of_ble_eq_true rfl⟩) [] rfl (by decide) rfl hl.1 rfl (Nat.le_of_ble_eq_true rfl) dX6_set_21 ⟨Nat.zero_le _, Nat.zero_le _⟩ (fun H locs hP hS => ?_)
      refine zNe (tgt := 30) hx hb dX6_set_24 (by decide)  (fun c3 => absurd (show alS x y = true from by first | exact alS_r1 (by assumption) (by assumption) c3 | exact alS_r0 (by assumption) (by assumption) c3) (by rw [hE]; decide)) (fun c3 => ?_)
      refine lv_bipush (v := -2) hx hb dX6_set_27 (by decide +kernel) ?_
      refine rTop (show (-2) = -2 from rfl) ?_
      exact rIret hx hb hr hlk hP hK hD hS dX6_set_29
    · refine lv_iconst (v := nI 1) hx hb dX6_set_14 (by decide +kernel) ?_
      refine lv_goto (tgt := 19) hx hb dX6_set_15 (by decide) ?_
      refine lv_bipush (v := nI 9) hx hb dX6_set_19 (by decide +kernel) ?_
      refine cSr (As := [.int y, .int (nI 1), .int (nI 9)]) (rest := []) ⟨hx, hb, hml, hown, hts⟩ hP hK hD hS hN hA (mX6_in l D G y (nI 1) (nI 9) ) (cwS 3 hts gX6_set_X6_in rfl rfl rfl (by decide +kernel) ⟨Nat.le_of_ble_eq_true rfl, Nat.le_of_ble_eq_true rfl⟩) [] rfl (by decide) rfl hl.1 rfl (Nat.le_of_ble_eq_true rfl) dX6_set_21 ⟨Nat.zero_le _, Nat.zero_le _⟩ (fun H locs hP hS => ?_)
      refine zNe (tgt := 30) hx hb dX6_set_24 (by decide)  (fun c4 => absurd (show alS x y = true from by first | exact alS_r1 (by assumption) (by assumption) c4 | exact alS_r0 (by assumption) (by assumption) c4) (by rw [hE]; decide)) (fun c4 => ?_)
      refine lv_bipush (v := -2) hx hb dX6_set_27 (by decide +kernel) ?_
      refine rTop (show (-2) = -2 from rfl) ?_
      exact rIret hx hb hr hlk hP hK hD hS dX6_set_29

set_option maxHeartbeats 4000000 in
set_option maxRecDepth 100000 in
theorem mX6_set_none (l : Launch) (D : va_G) (G : Nat → ClassId) (mo sa be ke te kn ty : Nat) (ik : Bool) (n tn k : Nat) (N Z S P V : Nat → Int32) (F : Nat → Nat → Int32) (po rd al : Int32) (B : Nat → Nat → Int32) (nq tnq kq : Nat) (Nq Zq Sq Pq Vq : Nat → Int32) (Fq : Nat → Nat → Int32) (poq rdq alq : Int32) (t : Nat → Nat) (q : Nat) (y : Int32) (hq3 : q < 3) (hE : alS (nI q) y = true) (hE2 : S q = y) : CT l yX6_set wsX6_set 1 22 D G [.ref mo, .int (nI q), .int y] [(mo, .inr (6, [.ref sa, .ref be, .int (nI kn), .ref ke, .int (zB ik), .ref te, .int (nI ty)])), (sa, .inl (G 0, 117, .inl (enc n N Z tn po rd al k S P V F))), (be, .inl (G 0, 468, .inl (bf B))), (ke, .inl (G 0, 117, .inl (enc nq Nq Zq tnq poq rdq alq kq Sq Pq Vq Fq))), (te, .inl (G 0, 60, .inl (ch t)))] [(mo, .inr (6, [.ref sa, .ref be, .int (nI kn), .ref ke, .int (zB ik), .ref te, .int (nI ty)])), (sa, .inl (G 0, 117, .inl (enc n N Z tn po rd al k S P V F))), (be, .inl (G 0, 468, .inl (bf B))), (ke, .inl (G 0, 117, .inl (enc nq Nq Zq tnq poq rdq alq kq Sq Pq Vq Fq))), (te, .inl (G 0, 60, .inl (ch t)))] (some (.int (-5))) := by
  refine CT.of (cc := cX6_set) (maxL := 4) (ret := (some .int)) (by decide) rfl RX6 rfl (Nat.le_of_ble_eq_true rfl) (fun pp ee s mm bl me cc A ls hx hb hr hml hts hown hlk hnm hA hP hK hD hN hS hl => ?_)
  have hl : lv_has ls 4 [(0, .ref mo), (1, .int (nI q)), (2, .int y)] := hl
  have hP : va_P D vwCl [(mo, .inr (6, [.ref sa, .ref be, .int (nI kn), .ref ke, .int (zB ik), .ref te, .int (nI ty)])), (sa, .inl (G 0, 117, .inl (enc n N Z tn po rd al k S P V F))), (be, .inl (G 0, 468, .inl (bf B))), (ke, .inl (G 0, 117, .inl (enc nq Nq Zq tnq poq rdq alq kq Sq Pq Vq Fq))), (te, .inl (G 0, 60, .inl (ch t)))] s.heap := hP
  have inX6 : ∀ w ∈ wsX60, w ∈ wsX6_set := fun w h => List.mem_cons_of_mem _ (List.mem_append_right _ h)
  have k7 := hts (.fieldLink RX6 7 "SquareStakesModel" "s" "[I") (List.mem_of_getElem? (i := 1) rfl)
  obtain rfl | rfl | rfl : q = 0 ∨ q = 1 ∨ q = 2 := by omega
  · skip
    refine lv_iload_n hx hb dX6_set_0 rfl (lv_at hl 1 rfl) ?_
    refine lv_iconst (v := nI 0) hx hb dX6_set_1 (by decide +kernel) ?_
    refine lv_iconst (v := nI 2) hx hb dX6_set_2 (by decide +kernel) ?_
    refine cSr (As := [.int (nI 0), .int (nI 0), .int (nI 2)]) (rest := []) ⟨hx, hb, hml, hown, hts⟩ hP hK hD hS hN hA (mX6_in l D G (nI 0) (nI 0) (nI 2) ) (cwS 3 hts gX6_set_X6_in rfl rfl rfl (by decide +kernel) ⟨Nat.le_of_ble_eq_true rfl, Nat.le_of_ble_eq_true rfl⟩) [] rfl (by decide) rfl hl.1 rfl (Nat.le_of_ble_eq_true rfl) dX6_set_3 ⟨Nat.zero_le _, Nat.zero_le _⟩ (fun H locs hP hS => ?_)
    refine zEq (tgt := 27) hx hb dX6_set_6 (by decide)  (fun c1 => absurd (c1) (by rw [rg_n (by omega) (by omega) (by omega), decide_eq_true (by omega)]; decide)) (fun c1 => ?_)
    refine lv_iload_n hx hb dX6_set_9 rfl (lv_at hl 2 rfl) ?_
    refine lv_iload_n hx hb dX6_set_10 rfl (lv_at hl 1 rfl) ?_
    refine iNe (tgt := 18) hx hb dX6_set_11 (by decide) (by omega) (fun c2 => by exfalso; omega) (fun c2 => ?_)
    refine lv_iconst (v := nI 1) hx hb dX6_set_14 (by decide +kernel) ?_
    refine lv_goto (tgt := 19) hx hb dX6_set_15 (by decide) ?_
    refine lv_bipush (v := nI 9) hx hb dX6_set_19 (by decide +kernel) ?_
    refine cSr (As := [.int y, .int (nI 1), .int (nI 9)]) (rest := []) ⟨hx, hb, hml, hown, hts⟩ hP hK hD hS hN hA (mX6_in l D G y (nI 1) (nI 9) ) (cwS 3 hts gX6_set_X6_in rfl rfl rfl (by decide +kernel) ⟨Nat.le_of_ble_eq_true rfl, Nat.le_of_ble_eq_true rfl⟩) [] rfl (by decide) rfl hl.1 rfl (Nat.le_of_ble_eq_true rfl) dX6_set_21 ⟨Nat.zero_le _, Nat.zero_le _⟩ (fun H locs hP hS => ?_)
    refine zNe (tgt := 30) hx hb dX6_set_24 (by decide)  (fun c3 => ?_) (fun c3 => absurd (c3) (by first | (rw [alS_e0 hE]; decide) | (rw [alS_e1 hE]; decide) | (rw [alS_e2 hE]; decide)))
    refine lv_aload_n hx hb dX6_set_30 rfl (lv_at hl 0 rfl) ?_
    refine va_get (D := D) (ci := 6) (v := .ref sa) (C := RX6) (T := TX6) (N := 7) hx hb hts inX6 hown hK hP 0 rfl rfl 0 (by decide) k7 (fun _ h9 => h9) rfl dX6_set_31 ?_
    refine lv_bipush (v := nI 6) hx hb dX6_set_34 (by decide +kernel) ?_
    refine lv_iload_n hx hb dX6_set_36 rfl (lv_at hl 1 rfl) ?_
    refine lv_iadd hx hb dX6_set_37 ?_
    refine rTop (show nI 6 + nI 0 = nI 6 from nI_add 6 0) ?_
    refine rIald hx hb hK hP 1 rfl 6 (by omega) (by decide) dX6_set_38 ?_
    refine rTop (show enc n N Z tn po rd al k S P V F 6 = S 0 from enc_S n N Z tn po rd al k S P V F 0 (by omega)) ?_
    refine lv_istore_n (lv' := [(3, .int (S 0)), (0, .ref mo), (1, .int (nI 0)), (2, .int y)]) hx hb dX6_set_39 rfl hl (by decide) rfl (fun ls hl => ?_)
    refine lv_iload_n hx hb dX6_set_40 rfl (lv_at hl 0 rfl) ?_
    refine lv_iload_n hx hb dX6_set_41 rfl (lv_at hl 3 rfl) ?_
    refine lv_icmp_ne (tgt := 48) hx hb dX6_set_42 (by decide)  (fun c4 => absurd hE2 c4) (fun c4 => ?_)
    refine lv_bipush (v := -5) hx hb dX6_set_45 (by decide +kernel) ?_
    refine rTop (show (-5) = -5 from rfl) ?_
    exact rIret hx hb hr hlk hP hK hD hS dX6_set_47
  · skip
    refine lv_iload_n hx hb dX6_set_0 rfl (lv_at hl 1 rfl) ?_
    refine lv_iconst (v := nI 0) hx hb dX6_set_1 (by decide +kernel) ?_
    refine lv_iconst (v := nI 2) hx hb dX6_set_2 (by decide +kernel) ?_
    refine cSr (As := [.int (nI 1), .int (nI 0), .int (nI 2)]) (rest := []) ⟨hx, hb, hml, hown, hts⟩ hP hK hD hS hN hA (mX6_in l D G (nI 1) (nI 0) (nI 2) ) (cwS 3 hts gX6_set_X6_in rfl rfl rfl (by decide +kernel) ⟨Nat.le_of_ble_eq_true rfl, Nat.le_of_ble_eq_true rfl⟩) [] rfl (by decide) rfl hl.1 rfl (Nat.le_of_ble_eq_true rfl) dX6_set_3 ⟨Nat.zero_le _, Nat.zero_le _⟩ (fun H locs hP hS => ?_)
    refine zEq (tgt := 27) hx hb dX6_set_6 (by decide)  (fun c5 => absurd (c5) (by rw [rg_n (by omega) (by omega) (by omega), decide_eq_true (by omega)]; decide)) (fun c5 => ?_)
    refine lv_iload_n hx hb dX6_set_9 rfl (lv_at hl 2 rfl) ?_
    refine lv_iload_n hx hb dX6_set_10 rfl (lv_at hl 1 rfl) ?_
    refine iNe (tgt := 18) hx hb dX6_set_11 (by decide) (by omega) (fun c6 => ?_) (fun c6 => by exfalso; omega)
    refine lv_iconst (v := nI 0) hx hb dX6_set_18 (by decide +kernel) ?_
    refine lv_bipush (v := nI 9) hx hb dX6_set_19 (by decide +kernel) ?_
    refine cSr (As := [.int y, .int (nI 0), .int (nI 9)]) (rest := []) ⟨hx, hb, hml, hown, hts⟩ hP hK hD hS hN hA (mX6_in l D G y (nI 0) (nI 9) ) (cwS 3 hts gX6_set_X6_in rfl rfl rfl (by decide +kernel) ⟨Nat.le_of_ble_eq_true rfl, Nat.le_of_ble_eq_true rfl⟩) [] rfl (by decide) rfl hl.1 rfl (Nat.le_of_ble_eq_true rfl) dX6_set_21 ⟨Nat.zero_le _, Nat.zero_le _⟩ (fun H locs hP hS => ?_)
    refine zNe (tgt := 30) hx hb dX6_set_24 (by decide)  (fun c7 => ?_) (fun c7 => absurd (c7) (by first | (rw [alS_e0 hE]; decide) | (rw [alS_e1 hE]; decide) | (rw [alS_e2 hE]; decide)))
    refine lv_aload_n hx hb dX6_set_30 rfl (lv_at hl 0 rfl) ?_
    refine va_get (D := D) (ci := 6) (v := .ref sa) (C := RX6) (T := TX6) (N := 7) hx hb hts inX6 hown hK hP 0 rfl rfl 0 (by decide) k7 (fun _ h9 => h9) rfl dX6_set_31 ?_
    refine lv_bipush (v := nI 6) hx hb dX6_set_34 (by decide +kernel) ?_
    refine lv_iload_n hx hb dX6_set_36 rfl (lv_at hl 1 rfl) ?_
    refine lv_iadd hx hb dX6_set_37 ?_
    refine rTop (show nI 6 + nI 1 = nI 7 from nI_add 6 1) ?_
    refine rIald hx hb hK hP 1 rfl 7 (by omega) (by decide) dX6_set_38 ?_
    refine rTop (show enc n N Z tn po rd al k S P V F 7 = S 1 from enc_S n N Z tn po rd al k S P V F 1 (by omega)) ?_
    refine lv_istore_n (lv' := [(3, .int (S 1)), (0, .ref mo), (1, .int (nI 1)), (2, .int y)]) hx hb dX6_set_39 rfl hl (by decide) rfl (fun ls hl => ?_)
    refine lv_iload_n hx hb dX6_set_40 rfl (lv_at hl 0 rfl) ?_
    refine lv_iload_n hx hb dX6_set_41 rfl (lv_at hl 3 rfl) ?_
    refine lv_icmp_ne (tgt := 48) hx hb dX6_set_42 (by decide)  (fun c8 => absurd hE2 c8) (fun c8 => ?_)
    refine lv_bipush (v := -5) hx hb dX6_set_45 (by decide +kernel) ?_
    refine rTop (show (-5) = -5 from rfl) ?_
    exact rIret hx hb hr hlk hP hK hD hS dX6_set_47
  · skip
    refine lv_iload_n hx hb dX6_set_0 rfl (lv_at hl 1 rfl) ?_
    refine lv_iconst (v := nI 0) hx hb dX6_set_1 (by decide +kernel) ?_
    refine lv_iconst (v := nI 2) hx hb dX6_set_2 (by decide +kernel) ?_
    refine cSr (As := [.int (nI 2), .int (nI 0), .int (nI 2)]) (rest := []) ⟨hx, hb, hml, hown, hts⟩ hP hK hD hS hN hA (mX6_in l D G (nI 2) (nI 0) (nI 2) ) (cwS 3 hts gX6_set_X6_in rfl rfl rfl (by decide +kernel) ⟨Nat.le_of_ble_eq_true rfl, Nat.le_of_ble_eq_true rfl⟩) [] rfl (by decide) rfl hl.1 rfl (Nat.le_of_ble_eq_true rfl) dX6_set_3 ⟨Nat.zero_le _, Nat.zero_le _⟩ (fun H locs hP hS => ?_)
    refine zEq (tgt := 27) hx hb dX6_set_6 (by decide)  (fun c9 => absurd (c9) (by rw [rg_n (by omega) (by omega) (by omega), decide_eq_true (by omega)]; decide)) (fun c9 => ?_)
    refine lv_iload_n hx hb dX6_set_9 rfl (lv_at hl 2 rfl) ?_
    refine lv_iload_n hx hb dX6_set_10 rfl (lv_at hl 1 rfl) ?_
    refine iNe (tgt := 18) hx hb dX6_set_11 (by decide) (by omega) (fun c10 => ?_) (fun c10 => by exfalso; omega)
    refine lv_iconst (v := nI 0) hx hb dX6_set_18 (by decide +kernel) ?_
    refine lv_bipush (v := nI 9) hx hb dX6_set_19 (by decide +kernel) ?_
    refine cSr (As := [.int y, .int (nI 0), .int (nI 9)]) (rest := []) ⟨hx, hb, hml, hown, hts⟩ hP hK hD hS hN hA (mX6_in l D G y (nI 0) (nI 9) ) (cwS 3 hts gX6_set_X6_in rfl rfl rfl (by decide +kernel) ⟨Nat.le_of_ble_eq_true rfl, Nat.le_of_ble_eq_true rfl⟩) [] rfl (by decide) rfl hl.1 rfl (Nat.le_of_ble_eq_true rfl) dX6_set_21 ⟨Nat.zero_le _, Nat.zero_le _⟩ (fun H locs hP hS => ?_)
    refine zNe (tgt := 30) hx hb dX6_set_24 (by decide)  (fun c11 => ?_) (fun c11 => absurd (c11) (by first | (rw [alS_e0 hE]; decide) | (rw [alS_e1 hE]; decide) | (rw [alS_e2 hE]; decide)))
    refine lv_aload_n hx hb dX6_set_30 rfl (lv_at hl 0 rfl) ?_
    refine va_get (D := D) (ci := 6) (v := .ref sa) (C := RX6) (T := TX6) (N := 7) hx hb hts inX6 hown hK hP 0 rfl rfl 0 (by decide) k7 (fun _ h9 => h9) rfl dX6_set_31 ?_
    refine lv_bipush (v := nI 6) hx hb dX6_set_34 (by decide +kernel) ?_
    refine lv_iload_n hx hb dX6_set_36 rfl (lv_at hl 1 rfl) ?_
    refine lv_iadd hx hb dX6_set_37 ?_
    refine rTop (show nI 6 + nI 2 = nI 8 from nI_add 6 2) ?_
    refine rIald hx hb hK hP 1 rfl 8 (by omega) (by decide) dX6_set_38 ?_
    refine rTop (show enc n N Z tn po rd al k S P V F 8 = S 2 from enc_S n N Z tn po rd al k S P V F 2 (by omega)) ?_
    refine lv_istore_n (lv' := [(3, .int (S 2)), (0, .ref mo), (1, .int (nI 2)), (2, .int y)]) hx hb dX6_set_39 rfl hl (by decide) rfl (fun ls hl => ?_)
    refine lv_iload_n hx hb dX6_set_40 rfl (lv_at hl 0 rfl) ?_
    refine lv_iload_n hx hb dX6_set_41 rfl (lv_at hl 3 rfl) ?_
    refine lv_icmp_ne (tgt := 48) hx hb dX6_set_42 (by decide)  (fun c12 => absurd hE2 c12) (fun c12 => ?_)
    refine lv_bipush (v := -5) hx hb dX6_set_45 (by decide +kernel) ?_
    refine rTop (show (-5) = -5 from rfl) ?_
    exact rIret hx hb hr hlk hP hK hD hS dX6_set_47

set_option maxHeartbeats 4000000 in
set_option maxRecDepth 100000 in
theorem mX6_set_ok (l : Launch) (D : va_G) (G : Nat → ClassId) (mo sa be ke te kn ty : Nat) (ik : Bool) (n tn k : Nat) (N Z S P V : Nat → Int32) (F : Nat → Nat → Int32) (po rd al : Int32) (B : Nat → Nat → Int32) (nq tnq kq : Nat) (Nq Zq Sq Pq Vq : Nat → Int32) (Fq : Nat → Nat → Int32) (poq rdq alq : Int32) (t : Nat → Nat) (q : Nat) (y : Int32) (hkn : kn ≤ 4) (hq3 : q < 3) (hE : alS (nI q) y = true) (hE2 : ¬ S q = y) : CT l yX6_set wsX6_set 1 22 D G [.ref mo, .int (nI q), .int y] [(mo, .inr (6, [.ref sa, .ref be, .int (nI kn), .ref ke, .int (zB ik), .ref te, .int (nI ty)])), (sa, .inl (G 0, 117, .inl (enc n N Z tn po rd al k S P V F))), (be, .inl (G 0, 468, .inl (bf B))), (ke, .inl (G 0, 117, .inl (enc nq Nq Zq tnq poq rdq alq kq Sq Pq Vq Fq))), (te, .inl (G 0, 60, .inl (ch t)))] [(mo, .inr (6, [.ref sa, .ref be, .int (nI (mn kn)), .ref ke, .int (zB ik), .ref te, .int (nI ty)])), (sa, .inl (G 0, 117, .inl (enc n N Z tn po rd al k (upd S q y) P V F))), (be, .inl (G 0, 468, .inl (bf (kB B kn (enc n N Z tn po rd al k S P V F))))), (ke, .inl (G 0, 117, .inl (enc nq Nq Zq tnq poq rdq alq kq Sq Pq Vq Fq))), (te, .inl (G 0, 60, .inl (ch t)))] (some (.int (S q))) := by
  refine CT.of (cc := cX6_set) (maxL := 4) (ret := (some .int)) (by decide) rfl RX6 rfl (Nat.le_of_ble_eq_true rfl) (fun pp ee s mm bl me cc A ls hx hb hr hml hts hown hlk hnm hA hP hK hD hN hS hl => ?_)
  have hl : lv_has ls 4 [(0, .ref mo), (1, .int (nI q)), (2, .int y)] := hl
  have hP : va_P D vwCl [(mo, .inr (6, [.ref sa, .ref be, .int (nI kn), .ref ke, .int (zB ik), .ref te, .int (nI ty)])), (sa, .inl (G 0, 117, .inl (enc n N Z tn po rd al k S P V F))), (be, .inl (G 0, 468, .inl (bf B))), (ke, .inl (G 0, 117, .inl (enc nq Nq Zq tnq poq rdq alq kq Sq Pq Vq Fq))), (te, .inl (G 0, 60, .inl (ch t)))] s.heap := hP
  have inX6 : ∀ w ∈ wsX60, w ∈ wsX6_set := fun w h => List.mem_cons_of_mem _ (List.mem_append_right _ h)
  have k7 := hts (.fieldLink RX6 7 "SquareStakesModel" "s" "[I") (List.mem_of_getElem? (i := 1) rfl)
  obtain rfl | rfl | rfl : q = 0 ∨ q = 1 ∨ q = 2 := by omega
  · skip
    refine lv_iload_n hx hb dX6_set_0 rfl (lv_at hl 1 rfl) ?_
    refine lv_iconst (v := nI 0) hx hb dX6_set_1 (by decide +kernel) ?_
    refine lv_iconst (v := nI 2) hx hb dX6_set_2 (by decide +kernel) ?_
    refine cSr (As := [.int (nI 0), .int (nI 0), .int (nI 2)]) (rest := []) ⟨hx, hb, hml, hown, hts⟩ hP hK hD hS hN hA (mX6_in l D G (nI 0) (nI 0) (nI 2) ) (cwS 3 hts gX6_set_X6_in rfl rfl rfl (by decide +kernel) ⟨Nat.le_of_ble_eq_true rfl, Nat.le_of_ble_eq_true rfl⟩) [] rfl (by decide) rfl hl.1 rfl (Nat.le_of_ble_eq_true rfl) dX6_set_3 ⟨Nat.zero_le _, Nat.zero_le _⟩ (fun H locs hP hS => ?_)
    refine zEq (tgt := 27) hx hb dX6_set_6 (by decide)  (fun c1 => absurd (c1) (by rw [rg_n (by omega) (by omega) (by omega), decide_eq_true (by omega)]; decide)) (fun c1 => ?_)
    refine lv_iload_n hx hb dX6_set_9 rfl (lv_at hl 2 rfl) ?_
    refine lv_iload_n hx hb dX6_set_10 rfl (lv_at hl 1 rfl) ?_
    refine iNe (tgt := 18) hx hb dX6_set_11 (by decide) (by omega) (fun c2 => by exfalso; omega) (fun c2 => ?_)
    refine lv_iconst (v := nI 1) hx hb dX6_set_14 (by decide +kernel) ?_
    refine lv_goto (tgt := 19) hx hb dX6_set_15 (by decide) ?_
    refine lv_bipush (v := nI 9) hx hb dX6_set_19 (by decide +kernel) ?_
    refine cSr (As := [.int y, .int (nI 1), .int (nI 9)]) (rest := []) ⟨hx, hb, hml, hown, hts⟩ hP hK hD hS hN hA (mX6_in l D G y (nI 1) (nI 9) ) (cwS 3 hts gX6_set_X6_in rfl rfl rfl (by decide +kernel) ⟨Nat.le_of_ble_eq_true rfl, Nat.le_of_ble_eq_true rfl⟩) [] rfl (by decide) rfl hl.1 rfl (Nat.le_of_ble_eq_true rfl) dX6_set_21 ⟨Nat.zero_le _, Nat.zero_le _⟩ (fun H locs hP hS => ?_)
    refine zNe (tgt := 30) hx hb dX6_set_24 (by decide)  (fun c3 => ?_) (fun c3 => absurd (c3) (by first | (rw [alS_e0 hE]; decide) | (rw [alS_e1 hE]; decide) | (rw [alS_e2 hE]; decide)))
    refine lv_aload_n hx hb dX6_set_30 rfl (lv_at hl 0 rfl) ?_
    refine va_get (D := D) (ci := 6) (v := .ref sa) (C := RX6) (T := TX6) (N := 7) hx hb hts inX6 hown hK hP 0 rfl rfl 0 (by decide) k7 (fun _ h9 => h9) rfl dX6_set_31 ?_
    refine lv_bipush (v := nI 6) hx hb dX6_set_34 (by decide +kernel) ?_
    refine lv_iload_n hx hb dX6_set_36 rfl (lv_at hl 1 rfl) ?_
    refine lv_iadd hx hb dX6_set_37 ?_
    refine rTop (show nI 6 + nI 0 = nI 6 from nI_add 6 0) ?_
    refine rIald hx hb hK hP 1 rfl 6 (by omega) (by decide) dX6_set_38 ?_
    refine rTop (show enc n N Z tn po rd al k S P V F 6 = S 0 from enc_S n N Z tn po rd al k S P V F 0 (by omega)) ?_
    refine lv_istore_n (lv' := [(3, .int (S 0)), (0, .ref mo), (1, .int (nI 0)), (2, .int y)]) hx hb dX6_set_39 rfl hl (by decide) rfl (fun ls hl => ?_)
    refine lv_iload_n hx hb dX6_set_40 rfl (lv_at hl 0 rfl) ?_
    refine lv_iload_n hx hb dX6_set_41 rfl (lv_at hl 3 rfl) ?_
    refine lv_icmp_ne (tgt := 48) hx hb dX6_set_42 (by decide)  (fun c4 => ?_) (fun c4 => absurd c4 hE2)
    refine lv_aload_n hx hb dX6_set_48 rfl (lv_at hl 1 rfl) ?_
    refine cV (As := []) (rest := []) ⟨hx, hb, hml, hown, hts⟩ hP hK hD hS hN hA (mX6_know l D G mo sa be ke te kn ty ik n tn k N Z S P V F po rd al B (by first | assumption | omega)) (cwV 0 hts gX6_set_X6_know rfl rfl rfl (by decide +kernel) ⟨Nat.le_of_ble_eq_true rfl, Nat.le_of_ble_eq_true rfl⟩) [0, 1, 2] rfl (by decide) (Eq.trans (b := [mo, sa, be]) rfl rfl) 0 6 rfl rfl rfl hl.1 rfl (Nat.le_of_ble_eq_true rfl) dX6_set_49 ⟨Nat.zero_le _, Nat.zero_le _⟩ (fun H locs hP hD hS => ?_)
    have hP : va_P D vwCl [(mo, .inr (6, [.ref sa, .ref be, .int (nI (mn kn)), .ref ke, .int (zB ik), .ref te, .int (nI ty)])), (sa, .inl (G 0, 117, .inl (enc n N Z tn po rd al k S P V F))), (be, .inl (G 0, 468, .inl (bf (kB B kn (enc n N Z tn po rd al k S P V F))))), (ke, .inl (G 0, 117, .inl (enc nq Nq Zq tnq poq rdq alq kq Sq Pq Vq Fq))), (te, .inl (G 0, 60, .inl (ch t)))] H := hP
    have hD : va_D A [(mo, .inr (6, [.ref sa, .ref be, .int (nI (mn kn)), .ref ke, .int (zB ik), .ref te, .int (nI ty)])), (sa, .inl (G 0, 117, .inl (enc n N Z tn po rd al k S P V F))), (be, .inl (G 0, 468, .inl (bf (kB B kn (enc n N Z tn po rd al k S P V F))))), (ke, .inl (G 0, 117, .inl (enc nq Nq Zq tnq poq rdq alq kq Sq Pq Vq Fq))), (te, .inl (G 0, 60, .inl (ch t)))] := hD
    refine lv_aload_n hx hb dX6_set_52 rfl (lv_at hl 1 rfl) ?_
    refine va_get (D := D) (ci := 6) (v := .ref sa) (C := RX6) (T := TX6) (N := 7) hx hb hts inX6 hown hK hP 0 rfl rfl 0 (by decide) k7 (fun _ h9 => h9) rfl dX6_set_53 ?_
    refine lv_bipush (v := nI 6) hx hb dX6_set_56 (by decide +kernel) ?_
    refine lv_iload_n hx hb dX6_set_58 rfl (lv_at hl 2 rfl) ?_
    refine lv_iadd hx hb dX6_set_59 ?_
    refine rTop (show nI 6 + nI 0 = nI 6 from nI_add 6 0) ?_
    refine lv_iload_n hx hb dX6_set_60 rfl (lv_at hl 3 rfl) ?_
    refine rIast hx hb hK hP hD hS 1 rfl 6 (by omega) (by decide) dX6_set_61 (fun H locs hP hD hS => ?_)
    obtain ⟨hP, hD⟩ := wI (g := enc n N Z tn po rd al k (upd S 0 y) P V F) hP hD 1 rfl (enc_wS n N Z tn po rd al k S P V F 0 (by omega) y)
    replace hP : va_P D vwCl [(mo, .inr (6, [.ref sa, .ref be, .int (nI (mn kn)), .ref ke, .int (zB ik), .ref te, .int (nI ty)])), (sa, .inl (G 0, 117, .inl (enc n N Z tn po rd al k (upd S 0 y) P V F))), (be, .inl (G 0, 468, .inl (bf (kB B kn (enc n N Z tn po rd al k S P V F))))), (ke, .inl (G 0, 117, .inl (enc nq Nq Zq tnq poq rdq alq kq Sq Pq Vq Fq))), (te, .inl (G 0, 60, .inl (ch t)))] _ := hP
    have hD : va_D A [(mo, .inr (6, [.ref sa, .ref be, .int (nI (mn kn)), .ref ke, .int (zB ik), .ref te, .int (nI ty)])), (sa, .inl (G 0, 117, .inl (enc n N Z tn po rd al k (upd S 0 y) P V F))), (be, .inl (G 0, 468, .inl (bf (kB B kn (enc n N Z tn po rd al k S P V F))))), (ke, .inl (G 0, 117, .inl (enc nq Nq Zq tnq poq rdq alq kq Sq Pq Vq Fq))), (te, .inl (G 0, 60, .inl (ch t)))] := hD
    refine lv_iload_n hx hb dX6_set_62 rfl (lv_at hl 0 rfl) ?_
    exact rIret hx hb hr hlk hP hK hD hS dX6_set_63
  · skip
    refine lv_iload_n hx hb dX6_set_0 rfl (lv_at hl 1 rfl) ?_
    refine lv_iconst (v := nI 0) hx hb dX6_set_1 (by decide +kernel) ?_
    refine lv_iconst (v := nI 2) hx hb dX6_set_2 (by decide +kernel) ?_
    refine cSr (As := [.int (nI 1), .int (nI 0), .int (nI 2)]) (rest := []) ⟨hx, hb, hml, hown, hts⟩ hP hK hD hS hN hA (mX6_in l D G (nI 1) (nI 0) (nI 2) ) (cwS 3 hts gX6_set_X6_in rfl rfl rfl (by decide +kernel) ⟨Nat.le_of_ble_eq_true rfl, Nat.le_of_ble_eq_true rfl⟩) [] rfl (by decide) rfl hl.1 rfl (Nat.le_of_ble_eq_true rfl) dX6_set_3 ⟨Nat.zero_le _, Nat.zero_le _⟩ (fun H locs hP hS => ?_)
    refine zEq (tgt := 27) hx hb dX6_set_6 (by decide)  (fun c5 => absurd (c5) (by rw [rg_n (by omega) (by omega) (by omega), decide_eq_true (by omega)]; decide)) (fun c5 => ?_)
    refine lv_iload_n hx hb dX6_set_9 rfl (lv_at hl 2 rfl) ?_
    refine lv_iload_n hx hb dX6_set_10 rfl (lv_at hl 1 rfl) ?_
    refine iNe (tgt := 18) hx hb dX6_set_11 (by decide) (by omega) (fun c6 => ?_) (fun c6 => by exfalso; omega)
    refine lv_iconst (v := nI 0) hx hb dX6_set_18 (by decide +kernel) ?_
    refine lv_bipush (v := nI 9) hx hb dX6_set_19 (by decide +kernel) ?_
    refine cSr (As := [.int y, .int (nI 0), .int (nI 9)]) (rest := []) ⟨hx, hb, hml, hown, hts⟩ hP hK hD hS hN hA (mX6_in l D G y (nI 0) (nI 9) ) (cwS 3 hts gX6_set_X6_in rfl rfl rfl (by decide +kernel) ⟨Nat.le_of_ble_eq_true rfl, Nat.le_of_ble_eq_true rfl⟩) [] rfl (by decide) rfl hl.1 rfl (Nat.le_of_ble_eq_true rfl) dX6_set_21 ⟨Nat.zero_le _, Nat.zero_le _⟩ (fun H locs hP hS => ?_)
    refine zNe (tgt := 30) hx hb dX6_set_24 (by decide)  (fun c7 => ?_) (fun c7 => absurd (c7) (by first | (rw [alS_e0 hE]; decide) | (rw [alS_e1 hE]; decide) | (rw [alS_e2 hE]; decide)))
    refine lv_aload_n hx hb dX6_set_30 rfl (lv_at hl 0 rfl) ?_
    refine va_get (D := D) (ci := 6) (v := .ref sa) (C := RX6) (T := TX6) (N := 7) hx hb hts inX6 hown hK hP 0 rfl rfl 0 (by decide) k7 (fun _ h9 => h9) rfl dX6_set_31 ?_
    refine lv_bipush (v := nI 6) hx hb dX6_set_34 (by decide +kernel) ?_
    refine lv_iload_n hx hb dX6_set_36 rfl (lv_at hl 1 rfl) ?_
    refine lv_iadd hx hb dX6_set_37 ?_
    refine rTop (show nI 6 + nI 1 = nI 7 from nI_add 6 1) ?_
    refine rIald hx hb hK hP 1 rfl 7 (by omega) (by decide) dX6_set_38 ?_
    refine rTop (show enc n N Z tn po rd al k S P V F 7 = S 1 from enc_S n N Z tn po rd al k S P V F 1 (by omega)) ?_
    refine lv_istore_n (lv' := [(3, .int (S 1)), (0, .ref mo), (1, .int (nI 1)), (2, .int y)]) hx hb dX6_set_39 rfl hl (by decide) rfl (fun ls hl => ?_)
    refine lv_iload_n hx hb dX6_set_40 rfl (lv_at hl 0 rfl) ?_
    refine lv_iload_n hx hb dX6_set_41 rfl (lv_at hl 3 rfl) ?_
    refine lv_icmp_ne (tgt := 48) hx hb dX6_set_42 (by decide)  (fun c8 => ?_) (fun c8 => absurd c8 hE2)
    refine lv_aload_n hx hb dX6_set_48 rfl (lv_at hl 1 rfl) ?_
    refine cV (As := []) (rest := []) ⟨hx, hb, hml, hown, hts⟩ hP hK hD hS hN hA (mX6_know l D G mo sa be ke te kn ty ik n tn k N Z S P V F po rd al B (by first | assumption | omega)) (cwV 0 hts gX6_set_X6_know rfl rfl rfl (by decide +kernel) ⟨Nat.le_of_ble_eq_true rfl, Nat.le_of_ble_eq_true rfl⟩) [0, 1, 2] rfl (by decide) (Eq.trans (b := [mo, sa, be]) rfl rfl) 0 6 rfl rfl rfl hl.1 rfl (Nat.le_of_ble_eq_true rfl) dX6_set_49 ⟨Nat.zero_le _, Nat.zero_le _⟩ (fun H locs hP hD hS => ?_)
    have hP : va_P D vwCl [(mo, .inr (6, [.ref sa, .ref be, .int (nI (mn kn)), .ref ke, .int (zB ik), .ref te, .int (nI ty)])), (sa, .inl (G 0, 117, .inl (enc n N Z tn po rd al k S P V F))), (be, .inl (G 0, 468, .inl (bf (kB B kn (enc n N Z tn po rd al k S P V F))))), (ke, .inl (G 0, 117, .inl (enc nq Nq Zq tnq poq rdq alq kq Sq Pq Vq Fq))), (te, .inl (G 0, 60, .inl (ch t)))] H := hP
    have hD : va_D A [(mo, .inr (6, [.ref sa, .ref be, .int (nI (mn kn)), .ref ke, .int (zB ik), .ref te, .int (nI ty)])), (sa, .inl (G 0, 117, .inl (enc n N Z tn po rd al k S P V F))), (be, .inl (G 0, 468, .inl (bf (kB B kn (enc n N Z tn po rd al k S P V F))))), (ke, .inl (G 0, 117, .inl (enc nq Nq Zq tnq poq rdq alq kq Sq Pq Vq Fq))), (te, .inl (G 0, 60, .inl (ch t)))] := hD
    refine lv_aload_n hx hb dX6_set_52 rfl (lv_at hl 1 rfl) ?_
    refine va_get (D := D) (ci := 6) (v := .ref sa) (C := RX6) (T := TX6) (N := 7) hx hb hts inX6 hown hK hP 0 rfl rfl 0 (by decide) k7 (fun _ h9 => h9) rfl dX6_set_53 ?_
    refine lv_bipush (v := nI 6) hx hb dX6_set_56 (by decide +kernel) ?_
    refine lv_iload_n hx hb dX6_set_58 rfl (lv_at hl 2 rfl) ?_
    refine lv_iadd hx hb dX6_set_59 ?_
    refine rTop (show nI 6 + nI 1 = nI 7 from nI_add 6 1) ?_
    refine lv_iload_n hx hb dX6_set_60 rfl (lv_at hl 3 rfl) ?_
    refine rIast hx hb hK hP hD hS 1 rfl 7 (by omega) (by decide) dX6_set_61 (fun H locs hP hD hS => ?_)
    obtain ⟨hP, hD⟩ := wI (g := enc n N Z tn po rd al k (upd S 1 y) P V F) hP hD 1 rfl (enc_wS n N Z tn po rd al k S P V F 1 (by omega) y)
    replace hP : va_P D vwCl [(mo, .inr (6, [.ref sa, .ref be, .int (nI (mn kn)), .ref ke, .int (zB ik), .ref te, .int (nI ty)])), (sa, .inl (G 0, 117, .inl (enc n N Z tn po rd al k (upd S 1 y) P V F))), (be, .inl (G 0, 468, .inl (bf (kB B kn (enc n N Z tn po rd al k S P V F))))), (ke, .inl (G 0, 117, .inl (enc nq Nq Zq tnq poq rdq alq kq Sq Pq Vq Fq))), (te, .inl (G 0, 60, .inl (ch t)))] _ := hP
    have hD : va_D A [(mo, .inr (6, [.ref sa, .ref be, .int (nI (mn kn)), .ref ke, .int (zB ik), .ref te, .int (nI ty)])), (sa, .inl (G 0, 117, .inl (enc n N Z tn po rd al k (upd S 1 y) P V F))), (be, .inl (G 0, 468, .inl (bf (kB B kn (enc n N Z tn po rd al k S P V F))))), (ke, .inl (G 0, 117, .inl (enc nq Nq Zq tnq poq rdq alq kq Sq Pq Vq Fq))), (te, .inl (G 0, 60, .inl (ch t)))] := hD
    refine lv_iload_n hx hb dX6_set_62 rfl (lv_at hl 0 rfl) ?_
    exact rIret hx hb hr hlk hP hK hD hS dX6_set_63
  · skip
    refine lv_iload_n hx hb dX6_set_0 rfl (lv_at hl 1 rfl) ?_
    refine lv_iconst (v := nI 0) hx hb dX6_set_1 (by decide +kernel) ?_
    refine lv_iconst (v := nI 2) hx hb dX6_set_2 (by decide +kernel) ?_
    refine cSr (As := [.int (nI 2), .int (nI 0), .int (nI 2)]) (rest := []) ⟨hx, hb, hml, hown, hts⟩ hP hK hD hS hN hA (mX6_in l D G (nI 2) (nI 0) (nI 2) ) (cwS 3 hts gX6_set_X6_in rfl rfl rfl (by decide +kernel) ⟨Nat.le_of_ble_eq_true rfl, Nat.le_of_ble_eq_true rfl⟩) [] rfl (by decide) rfl hl.1 rfl (Nat.le_of_ble_eq_true rfl) dX6_set_3 ⟨Nat.zero_le _, Nat.zero_le _⟩ (fun H locs hP hS => ?_)
    refine zEq (tgt := 27) hx hb dX6_set_6 (by decide)  (fun c9 => absurd (c9) (by rw [rg_n (by omega) (by omega) (by omega), decide_eq_true (by omega)]; decide)) (fun c9 => ?_)
    refine lv_iload_n hx hb dX6_set_9 rfl (lv_at hl 2 rfl) ?_
    refine lv_iload_n hx hb dX6_set_10 rfl (lv_at hl 1 rfl) ?_
    refine iNe (tgt := 18) hx hb dX6_set_11 (by decide) (by omega) (fun c10 => ?_) (fun c10 => by exfalso; omega)
    refine lv_iconst (v := nI 0) hx hb dX6_set_18 (by decide +kernel) ?_
    refine lv_bipush (v := nI 9) hx hb dX6_set_19 (by decide +kernel) ?_
    refine cSr (As := [.int y, .int (nI 0), .int (nI 9)]) (rest := []) ⟨hx, hb, hml, hown, hts⟩ hP hK hD hS hN hA (mX6_in l D G y (nI 0) (nI 9) ) (cwS 3 hts gX6_set_X6_in rfl rfl rfl (by decide +kernel) ⟨Nat.le_of_ble_eq_true rfl, Nat.le_of_ble_eq_true rfl⟩) [] rfl (by decide) rfl hl.1 rfl (Nat.le_of_ble_eq_true rfl) dX6_set_21 ⟨Nat.zero_le _, Nat.zero_le _⟩ (fun H locs hP hS => ?_)
    refine zNe (tgt := 30) hx hb dX6_set_24 (by decide)  (fun c11 => ?_) (fun c11 => absurd (c11) (by first | (rw [alS_e0 hE]; decide) | (rw [alS_e1 hE]; decide) | (rw [alS_e2 hE]; decide)))
    refine lv_aload_n hx hb dX6_set_30 rfl (lv_at hl 0 rfl) ?_
    refine va_get (D := D) (ci := 6) (v := .ref sa) (C := RX6) (T := TX6) (N := 7) hx hb hts inX6 hown hK hP 0 rfl rfl 0 (by decide) k7 (fun _ h9 => h9) rfl dX6_set_31 ?_
    refine lv_bipush (v := nI 6) hx hb dX6_set_34 (by decide +kernel) ?_
    refine lv_iload_n hx hb dX6_set_36 rfl (lv_at hl 1 rfl) ?_
    refine lv_iadd hx hb dX6_set_37 ?_
    refine rTop (show nI 6 + nI 2 = nI 8 from nI_add 6 2) ?_
    refine rIald hx hb hK hP 1 rfl 8 (by omega) (by decide) dX6_set_38 ?_
    refine rTop (show enc n N Z tn po rd al k S P V F 8 = S 2 from enc_S n N Z tn po rd al k S P V F 2 (by omega)) ?_
    refine lv_istore_n (lv' := [(3, .int (S 2)), (0, .ref mo), (1, .int (nI 2)), (2, .int y)]) hx hb dX6_set_39 rfl hl (by decide) rfl (fun ls hl => ?_)
    refine lv_iload_n hx hb dX6_set_40 rfl (lv_at hl 0 rfl) ?_
    refine lv_iload_n hx hb dX6_set_41 rfl (lv_at hl 3 rfl) ?_
    refine lv_icmp_ne (tgt := 48) hx hb dX6_set_42 (by decide)  (fun c12 => ?_) (fun c12 => absurd c12 hE2)
    refine lv_aload_n hx hb dX6_set_48 rfl (lv_at hl 1 rfl) ?_
    refine cV (As := []) (rest := []) ⟨hx, hb, hml, hown, hts⟩ hP hK hD hS hN hA (mX6_know l D G mo sa be ke te kn ty ik n tn k N Z S P V F po rd al B (by first | assumption | omega)) (cwV 0 hts gX6_set_X6_know rfl rfl rfl (by decide +kernel) ⟨Nat.le_of_ble_eq_true rfl, Nat.le_of_ble_eq_true rfl⟩) [0, 1, 2] rfl (by decide) (Eq.trans (b := [mo, sa, be]) rfl rfl) 0 6 rfl rfl rfl hl.1 rfl (Nat.le_of_ble_eq_true rfl) dX6_set_49 ⟨Nat.zero_le _, Nat.zero_le _⟩ (fun H locs hP hD hS => ?_)
    have hP : va_P D vwCl [(mo, .inr (6, [.ref sa, .ref be, .int (nI (mn kn)), .ref ke, .int (zB ik), .ref te, .int (nI ty)])), (sa, .inl (G 0, 117, .inl (enc n N Z tn po rd al k S P V F))), (be, .inl (G 0, 468, .inl (bf (kB B kn (enc n N Z tn po rd al k S P V F))))), (ke, .inl (G 0, 117, .inl (enc nq Nq Zq tnq poq rdq alq kq Sq Pq Vq Fq))), (te, .inl (G 0, 60, .inl (ch t)))] H := hP
    have hD : va_D A [(mo, .inr (6, [.ref sa, .ref be, .int (nI (mn kn)), .ref ke, .int (zB ik), .ref te, .int (nI ty)])), (sa, .inl (G 0, 117, .inl (enc n N Z tn po rd al k S P V F))), (be, .inl (G 0, 468, .inl (bf (kB B kn (enc n N Z tn po rd al k S P V F))))), (ke, .inl (G 0, 117, .inl (enc nq Nq Zq tnq poq rdq alq kq Sq Pq Vq Fq))), (te, .inl (G 0, 60, .inl (ch t)))] := hD
    refine lv_aload_n hx hb dX6_set_52 rfl (lv_at hl 1 rfl) ?_
    refine va_get (D := D) (ci := 6) (v := .ref sa) (C := RX6) (T := TX6) (N := 7) hx hb hts inX6 hown hK hP 0 rfl rfl 0 (by decide) k7 (fun _ h9 => h9) rfl dX6_set_53 ?_
    refine lv_bipush (v := nI 6) hx hb dX6_set_56 (by decide +kernel) ?_
    refine lv_iload_n hx hb dX6_set_58 rfl (lv_at hl 2 rfl) ?_
    refine lv_iadd hx hb dX6_set_59 ?_
    refine rTop (show nI 6 + nI 2 = nI 8 from nI_add 6 2) ?_
    refine lv_iload_n hx hb dX6_set_60 rfl (lv_at hl 3 rfl) ?_
    refine rIast hx hb hK hP hD hS 1 rfl 8 (by omega) (by decide) dX6_set_61 (fun H locs hP hD hS => ?_)
    obtain ⟨hP, hD⟩ := wI (g := enc n N Z tn po rd al k (upd S 2 y) P V F) hP hD 1 rfl (enc_wS n N Z tn po rd al k S P V F 2 (by omega) y)
    replace hP : va_P D vwCl [(mo, .inr (6, [.ref sa, .ref be, .int (nI (mn kn)), .ref ke, .int (zB ik), .ref te, .int (nI ty)])), (sa, .inl (G 0, 117, .inl (enc n N Z tn po rd al k (upd S 2 y) P V F))), (be, .inl (G 0, 468, .inl (bf (kB B kn (enc n N Z tn po rd al k S P V F))))), (ke, .inl (G 0, 117, .inl (enc nq Nq Zq tnq poq rdq alq kq Sq Pq Vq Fq))), (te, .inl (G 0, 60, .inl (ch t)))] _ := hP
    have hD : va_D A [(mo, .inr (6, [.ref sa, .ref be, .int (nI (mn kn)), .ref ke, .int (zB ik), .ref te, .int (nI ty)])), (sa, .inl (G 0, 117, .inl (enc n N Z tn po rd al k (upd S 2 y) P V F))), (be, .inl (G 0, 468, .inl (bf (kB B kn (enc n N Z tn po rd al k S P V F))))), (ke, .inl (G 0, 117, .inl (enc nq Nq Zq tnq poq rdq alq kq Sq Pq Vq Fq))), (te, .inl (G 0, 60, .inl (ch t)))] := hD
    refine lv_iload_n hx hb dX6_set_62 rfl (lv_at hl 0 rfl) ?_
    exact rIret hx hb hr hlk hP hK hD hS dX6_set_63

set_option maxHeartbeats 4000000 in
set_option maxRecDepth 100000 in
theorem mX6_type_ok (l : Launch) (D : va_G) (G : Nat → ClassId) (mo sa be ke te kn ty : Nat) (ik : Bool) (n tn k : Nat) (N Z S P V : Nat → Int32) (F : Nat → Nat → Int32) (po rd al : Int32) (B : Nat → Nat → Int32) (nq tnq kq : Nat) (Nq Zq Sq Pq Vq : Nat → Int32) (Fq : Nat → Nat → Int32) (poq rdq alq : Int32) (t : Nat → Nat) (q : Nat) (hty6 : ty < 60) : CT l yX6_type wsX6_type 0 0 D G [.ref mo, .int (nI q)] [(mo, .inr (6, [.ref sa, .ref be, .int (nI kn), .ref ke, .int (zB ik), .ref te, .int (nI ty)])), (sa, .inl (G 0, 117, .inl (enc n N Z tn po rd al k S P V F))), (be, .inl (G 0, 468, .inl (bf B))), (ke, .inl (G 0, 117, .inl (enc nq Nq Zq tnq poq rdq alq kq Sq Pq Vq Fq))), (te, .inl (G 0, 60, .inl (ch t)))] [(mo, .inr (6, [.ref sa, .ref be, .int (nI kn), .ref ke, .int (zB ik), .ref te, .int (nI (ty + 1))])), (sa, .inl (G 0, 117, .inl (enc n N Z tn po rd al k S P V F))), (be, .inl (G 0, 468, .inl (bf B))), (ke, .inl (G 0, 117, .inl (enc nq Nq Zq tnq poq rdq alq kq Sq Pq Vq Fq))), (te, .inl (G 0, 60, .inl (ch (updN t ty q))))] (some (.int (nI (ty + 1)))) := by
  refine CT.of (cc := cX6_type) (maxL := 2) (ret := (some .int)) (by decide) rfl RX6 rfl (Nat.le_of_ble_eq_true rfl) (fun pp ee s mm bl me cc A ls hx hb hr hml hts hown hlk hnm hA hP hK hD hN hS hl => ?_)
  have hl : lv_has ls 2 [(0, .ref mo), (1, .int (nI q))] := hl
  have hP : va_P D vwCl [(mo, .inr (6, [.ref sa, .ref be, .int (nI kn), .ref ke, .int (zB ik), .ref te, .int (nI ty)])), (sa, .inl (G 0, 117, .inl (enc n N Z tn po rd al k S P V F))), (be, .inl (G 0, 468, .inl (bf B))), (ke, .inl (G 0, 117, .inl (enc nq Nq Zq tnq poq rdq alq kq Sq Pq Vq Fq))), (te, .inl (G 0, 60, .inl (ch t)))] s.heap := hP
  have inX6 : ∀ w ∈ wsX60, w ∈ wsX6_type := fun w h => List.mem_cons_of_mem _ (List.mem_append_right _ h)
  have k90 := hts (.fieldLink RX6 90 "SquareStakesModel" "typed" "I") (List.mem_of_getElem? (i := 1) rfl)
  have k19 := hts (.fieldLink RX6 19 "SquareStakesModel" "text" "[I") (List.mem_of_getElem? (i := 2) rfl)
  refine lv_aload_n hx hb dX6_type_0 rfl (lv_at hl 0 rfl) ?_
  refine va_get (D := D) (ci := 6) (v := .int (nI ty)) (C := RX6) (T := TX6) (N := 7) hx hb hts inX6 hown hK hP 0 rfl rfl 6 (by decide) k90 (fun _ h9 => h9) rfl dX6_type_1 ?_
  refine lv_bipush (v := nI 60) hx hb dX6_type_4 (by decide +kernel) ?_
  refine bNe (tgt := 12) hx hb dX6_type_6 (by decide) (by omega) (by omega) (fun c1 => ?_) (fun c1 => by exfalso; omega)
  refine lv_aload_n hx hb dX6_type_12 rfl (lv_at hl 0 rfl) ?_
  refine va_get (D := D) (ci := 6) (v := .ref te) (C := RX6) (T := TX6) (N := 7) hx hb hts inX6 hown hK hP 0 rfl rfl 5 (by decide) k19 (fun _ h9 => h9) rfl dX6_type_13 ?_
  refine lv_aload_n hx hb dX6_type_16 rfl (lv_at hl 0 rfl) ?_
  refine va_get (D := D) (ci := 6) (v := .int (nI ty)) (C := RX6) (T := TX6) (N := 7) hx hb hts inX6 hown hK hP 0 rfl rfl 6 (by decide) k90 (fun _ h9 => h9) rfl dX6_type_17 ?_
  refine lv_iload_n hx hb dX6_type_20 rfl (lv_at hl 1 rfl) ?_
  refine rIast hx hb hK hP hD hS 4 rfl ty (by omega) (by decide) dX6_type_21 (fun H locs hP hD hS => ?_)
  obtain ⟨hP, hD⟩ := wI (g := ch (updN t ty q)) hP hD 4 rfl (fun j hj => ch_w)
  replace hP : va_P D vwCl [(mo, .inr (6, [.ref sa, .ref be, .int (nI kn), .ref ke, .int (zB ik), .ref te, .int (nI ty)])), (sa, .inl (G 0, 117, .inl (enc n N Z tn po rd al k S P V F))), (be, .inl (G 0, 468, .inl (bf B))), (ke, .inl (G 0, 117, .inl (enc nq Nq Zq tnq poq rdq alq kq Sq Pq Vq Fq))), (te, .inl (G 0, 60, .inl (ch (updN t ty q))))] _ := hP
  have hD : va_D A [(mo, .inr (6, [.ref sa, .ref be, .int (nI kn), .ref ke, .int (zB ik), .ref te, .int (nI ty)])), (sa, .inl (G 0, 117, .inl (enc n N Z tn po rd al k S P V F))), (be, .inl (G 0, 468, .inl (bf B))), (ke, .inl (G 0, 117, .inl (enc nq Nq Zq tnq poq rdq alq kq Sq Pq Vq Fq))), (te, .inl (G 0, 60, .inl (ch (updN t ty q))))] := hD
  refine lv_aload_n hx hb dX6_type_22 rfl (lv_at hl 0 rfl) ?_
  refine lv_dup hx hb dX6_type_23 rfl ?_
  refine va_get (D := D) (ci := 6) (v := .int (nI ty)) (C := RX6) (T := TX6) (N := 7) hx hb hts inX6 hown hK hP 0 rfl rfl 6 (by decide) k90 (fun _ h9 => h9) rfl dX6_type_24 ?_
  refine lv_iconst (v := nI 1) hx hb dX6_type_27 (by decide +kernel) ?_
  refine lv_iadd hx hb dX6_type_28 ?_
  refine rTop (show nI ty + nI 1 = nI (ty + 1) from nI_add ty 1) ?_
  refine va_put (D := D) (ci := 6) (v := .int (nI (ty + 1))) (ty := .int) (C := RX6) (T := TX6) (N := 7) hx hb hts inX6 tyX6 tyX6_ok nmX6 hown hK hP hD hS 0 rfl rfl 6 (by decide) k90 (fun _ h9 => h9) rfl (by decide +kernel) rfl rfl (Nat.le_of_ble_eq_true rfl) dX6_type_29 (fun H locs hP hD hS => ?_)
  have hP : va_P D vwCl [(mo, .inr (6, [.ref sa, .ref be, .int (nI kn), .ref ke, .int (zB ik), .ref te, .int (nI (ty + 1))])), (sa, .inl (G 0, 117, .inl (enc n N Z tn po rd al k S P V F))), (be, .inl (G 0, 468, .inl (bf B))), (ke, .inl (G 0, 117, .inl (enc nq Nq Zq tnq poq rdq alq kq Sq Pq Vq Fq))), (te, .inl (G 0, 60, .inl (ch (updN t ty q))))] H := hP
  have hD : va_D A [(mo, .inr (6, [.ref sa, .ref be, .int (nI kn), .ref ke, .int (zB ik), .ref te, .int (nI (ty + 1))])), (sa, .inl (G 0, 117, .inl (enc n N Z tn po rd al k S P V F))), (be, .inl (G 0, 468, .inl (bf B))), (ke, .inl (G 0, 117, .inl (enc nq Nq Zq tnq poq rdq alq kq Sq Pq Vq Fq))), (te, .inl (G 0, 60, .inl (ch (updN t ty q))))] := hD
  refine lv_aload_n hx hb dX6_type_32 rfl (lv_at hl 0 rfl) ?_
  refine va_get (D := D) (ci := 6) (v := .int (nI (ty + 1))) (C := RX6) (T := TX6) (N := 7) hx hb hts inX6 hown hK hP 0 rfl rfl 6 (by decide) k90 (fun _ h9 => h9) rfl dX6_type_33 ?_
  exact rIret hx hb hr hlk hP hK hD hS dX6_type_36

set_option maxHeartbeats 4000000 in
set_option maxRecDepth 100000 in
theorem mX6_type_full (l : Launch) (D : va_G) (G : Nat → ClassId) (mo sa be ke te kn ty : Nat) (ik : Bool) (n tn k : Nat) (N Z S P V : Nat → Int32) (F : Nat → Nat → Int32) (po rd al : Int32) (B : Nat → Nat → Int32) (nq tnq kq : Nat) (Nq Zq Sq Pq Vq : Nat → Int32) (Fq : Nat → Nat → Int32) (poq rdq alq : Int32) (t : Nat → Nat) (x : Int32)  : CT l yX6_type wsX6_type 0 0 D G [.ref mo, .int x] [(mo, .inr (6, [.ref sa, .ref be, .int (nI kn), .ref ke, .int (zB ik), .ref te, .int (nI 60)])), (sa, .inl (G 0, 117, .inl (enc n N Z tn po rd al k S P V F))), (be, .inl (G 0, 468, .inl (bf B))), (ke, .inl (G 0, 117, .inl (enc nq Nq Zq tnq poq rdq alq kq Sq Pq Vq Fq))), (te, .inl (G 0, 60, .inl (ch t)))] [(mo, .inr (6, [.ref sa, .ref be, .int (nI kn), .ref ke, .int (zB ik), .ref te, .int (nI 60)])), (sa, .inl (G 0, 117, .inl (enc n N Z tn po rd al k S P V F))), (be, .inl (G 0, 468, .inl (bf B))), (ke, .inl (G 0, 117, .inl (enc nq Nq Zq tnq poq rdq alq kq Sq Pq Vq Fq))), (te, .inl (G 0, 60, .inl (ch t)))] (some (.int (-3))) := by
  refine CT.of (cc := cX6_type) (maxL := 2) (ret := (some .int)) (by decide) rfl RX6 rfl (Nat.le_of_ble_eq_true rfl) (fun pp ee s mm bl me cc A ls hx hb hr hml hts hown hlk hnm hA hP hK hD hN hS hl => ?_)
  have hl : lv_has ls 2 [(0, .ref mo), (1, .int x)] := hl
  have hP : va_P D vwCl [(mo, .inr (6, [.ref sa, .ref be, .int (nI kn), .ref ke, .int (zB ik), .ref te, .int (nI 60)])), (sa, .inl (G 0, 117, .inl (enc n N Z tn po rd al k S P V F))), (be, .inl (G 0, 468, .inl (bf B))), (ke, .inl (G 0, 117, .inl (enc nq Nq Zq tnq poq rdq alq kq Sq Pq Vq Fq))), (te, .inl (G 0, 60, .inl (ch t)))] s.heap := hP
  have inX6 : ∀ w ∈ wsX60, w ∈ wsX6_type := fun w h => List.mem_cons_of_mem _ (List.mem_append_right _ h)
  have k90 := hts (.fieldLink RX6 90 "SquareStakesModel" "typed" "I") (List.mem_of_getElem? (i := 1) rfl)
  refine lv_aload_n hx hb dX6_type_0 rfl (lv_at hl 0 rfl) ?_
  refine va_get (D := D) (ci := 6) (v := .int (nI 60)) (C := RX6) (T := TX6) (N := 7) hx hb hts inX6 hown hK hP 0 rfl rfl 6 (by decide) k90 (fun _ h9 => h9) rfl dX6_type_1 ?_
  refine lv_bipush (v := nI 60) hx hb dX6_type_4 (by decide +kernel) ?_
  refine bNe (tgt := 12) hx hb dX6_type_6 (by decide) (by omega) (by omega) (fun c1 => by exfalso; omega) (fun c1 => ?_)
  refine lv_bipush (v := -3) hx hb dX6_type_9 (by decide +kernel) ?_
  refine rTop (show (-3) = -3 from rfl) ?_
  exact rIret hx hb hr hlk hP hK hD hS dX6_type_11

set_option maxHeartbeats 4000000 in
set_option maxRecDepth 100000 in
theorem mX6_clearText (l : Launch) (D : va_G) (G : Nat → ClassId) (mo sa be ke te kn ty : Nat) (ik : Bool) (n tn k : Nat) (N Z S P V : Nat → Int32) (F : Nat → Nat → Int32) (po rd al : Int32) (B : Nat → Nat → Int32) (nq tnq kq : Nat) (Nq Zq Sq Pq Vq : Nat → Int32) (Fq : Nat → Nat → Int32) (poq rdq alq : Int32) (t : Nat → Nat)  : CT l yX6_clearText wsX6_clearText 0 0 D G [.ref mo] [(mo, .inr (6, [.ref sa, .ref be, .int (nI kn), .ref ke, .int (zB ik), .ref te, .int (nI ty)])), (sa, .inl (G 0, 117, .inl (enc n N Z tn po rd al k S P V F))), (be, .inl (G 0, 468, .inl (bf B))), (ke, .inl (G 0, 117, .inl (enc nq Nq Zq tnq poq rdq alq kq Sq Pq Vq Fq))), (te, .inl (G 0, 60, .inl (ch t)))] [(mo, .inr (6, [.ref sa, .ref be, .int (nI kn), .ref ke, .int (zB ik), .ref te, .int (nI 0)])), (sa, .inl (G 0, 117, .inl (enc n N Z tn po rd al k S P V F))), (be, .inl (G 0, 468, .inl (bf B))), (ke, .inl (G 0, 117, .inl (enc nq Nq Zq tnq poq rdq alq kq Sq Pq Vq Fq))), (te, .inl (G 0, 60, .inl (ch t)))] (some (.int (nI ty))) := by
  refine CT.of (cc := cX6_clearText) (maxL := 2) (ret := (some .int)) (by decide) rfl RX6 rfl (Nat.le_of_ble_eq_true rfl) (fun pp ee s mm bl me cc A ls hx hb hr hml hts hown hlk hnm hA hP hK hD hN hS hl => ?_)
  have hl : lv_has ls 2 [(0, .ref mo)] := hl
  have hP : va_P D vwCl [(mo, .inr (6, [.ref sa, .ref be, .int (nI kn), .ref ke, .int (zB ik), .ref te, .int (nI ty)])), (sa, .inl (G 0, 117, .inl (enc n N Z tn po rd al k S P V F))), (be, .inl (G 0, 468, .inl (bf B))), (ke, .inl (G 0, 117, .inl (enc nq Nq Zq tnq poq rdq alq kq Sq Pq Vq Fq))), (te, .inl (G 0, 60, .inl (ch t)))] s.heap := hP
  have inX6 : ∀ w ∈ wsX60, w ∈ wsX6_clearText := fun w h => List.mem_cons_of_mem _ (List.mem_append_right _ h)
  have k90 := hts (.fieldLink RX6 90 "SquareStakesModel" "typed" "I") (List.mem_of_getElem? (i := 1) rfl)
  refine lv_aload_n hx hb dX6_clearText_0 rfl (lv_at hl 0 rfl) ?_
  refine va_get (D := D) (ci := 6) (v := .int (nI ty)) (C := RX6) (T := TX6) (N := 7) hx hb hts inX6 hown hK hP 0 rfl rfl 6 (by decide) k90 (fun _ h9 => h9) rfl dX6_clearText_1 ?_
  refine lv_istore_n (lv' := [(1, .int (nI ty)), (0, .ref mo)]) hx hb dX6_clearText_4 rfl hl (by decide) rfl (fun ls hl => ?_)
  refine lv_aload_n hx hb dX6_clearText_5 rfl (lv_at hl 1 rfl) ?_
  refine lv_iconst (v := nI 0) hx hb dX6_clearText_6 (by decide +kernel) ?_
  refine va_put (D := D) (ci := 6) (v := .int (nI 0)) (ty := .int) (C := RX6) (T := TX6) (N := 7) hx hb hts inX6 tyX6 tyX6_ok nmX6 hown hK hP hD hS 0 rfl rfl 6 (by decide) k90 (fun _ h9 => h9) rfl (by decide +kernel) rfl rfl (Nat.le_of_ble_eq_true rfl) dX6_clearText_7 (fun H locs hP hD hS => ?_)
  have hP : va_P D vwCl [(mo, .inr (6, [.ref sa, .ref be, .int (nI kn), .ref ke, .int (zB ik), .ref te, .int (nI 0)])), (sa, .inl (G 0, 117, .inl (enc n N Z tn po rd al k S P V F))), (be, .inl (G 0, 468, .inl (bf B))), (ke, .inl (G 0, 117, .inl (enc nq Nq Zq tnq poq rdq alq kq Sq Pq Vq Fq))), (te, .inl (G 0, 60, .inl (ch t)))] H := hP
  have hD : va_D A [(mo, .inr (6, [.ref sa, .ref be, .int (nI kn), .ref ke, .int (zB ik), .ref te, .int (nI 0)])), (sa, .inl (G 0, 117, .inl (enc n N Z tn po rd al k S P V F))), (be, .inl (G 0, 468, .inl (bf B))), (ke, .inl (G 0, 117, .inl (enc nq Nq Zq tnq poq rdq alq kq Sq Pq Vq Fq))), (te, .inl (G 0, 60, .inl (ch t)))] := hD
  refine lv_iload_n hx hb dX6_clearText_10 rfl (lv_at hl 0 rfl) ?_
  exact rIret hx hb hr hlk hP hK hD hS dX6_clearText_11

set_option maxHeartbeats 4000000 in
set_option maxRecDepth 100000 in
theorem mX6_undo_ok (l : Launch) (D : va_G) (G : Nat → ClassId) (mo sa be ke te kn ty : Nat) (ik : Bool) (n tn k : Nat) (N Z S P V : Nat → Int32) (F : Nat → Nat → Int32) (po rd al : Int32) (B : Nat → Nat → Int32) (nq tnq kq : Nat) (Nq Zq Sq Pq Vq : Nat → Int32) (Fq : Nat → Nat → Int32) (poq rdq alq : Int32) (t : Nat → Nat) (nv tnv kv : Nat) (Nv Zv Sv Pv Vv : Nat → Int32) (Fv : Nat → Nat → Int32) (pov rdv alv : Int32) (hkn : kn < 4) (hB : ∀ j, j < 117 → B kn j = enc nv Nv Zv tnv pov rdv alv kv Sv Pv Vv Fv j) : CT l yX6_undo wsX6_undo 0 0 D G [.ref mo] [(mo, .inr (6, [.ref sa, .ref be, .int (nI (kn + 1)), .ref ke, .int (zB ik), .ref te, .int (nI ty)])), (sa, .inl (G 0, 117, .inl (enc n N Z tn po rd al k S P V F))), (be, .inl (G 0, 468, .inl (bf B))), (ke, .inl (G 0, 117, .inl (enc nq Nq Zq tnq poq rdq alq kq Sq Pq Vq Fq))), (te, .inl (G 0, 60, .inl (ch t)))] [(mo, .inr (6, [.ref sa, .ref be, .int (nI kn), .ref ke, .int (zB ik), .ref te, .int (nI ty)])), (sa, .inl (G 0, 117, .inl (enc nv Nv Zv tnv pov rdv alv kv Sv Pv Vv Fv))), (be, .inl (G 0, 468, .inl (bf B))), (ke, .inl (G 0, 117, .inl (enc nq Nq Zq tnq poq rdq alq kq Sq Pq Vq Fq))), (te, .inl (G 0, 60, .inl (ch t)))] (some (.int (nI kn))) := by
  refine CT.of (cc := cX6_undo) (maxL := 2) (ret := (some .int)) (by decide) rfl RX6 rfl (Nat.le_of_ble_eq_true rfl) (fun pp ee s mm bl me cc A ls hx hb hr hml hts hown hlk hnm hA hP hK hD hN hS hl => ?_)
  have hl : lv_has ls 2 [(0, .ref mo)] := hl
  have hP : va_P D vwCl [(mo, .inr (6, [.ref sa, .ref be, .int (nI (kn + 1)), .ref ke, .int (zB ik), .ref te, .int (nI ty)])), (sa, .inl (G 0, 117, .inl (enc n N Z tn po rd al k S P V F))), (be, .inl (G 0, 468, .inl (bf B))), (ke, .inl (G 0, 117, .inl (enc nq Nq Zq tnq poq rdq alq kq Sq Pq Vq Fq))), (te, .inl (G 0, 60, .inl (ch t)))] s.heap := hP
  have inX6 : ∀ w ∈ wsX60, w ∈ wsX6_undo := fun w h => List.mem_cons_of_mem _ (List.mem_append_right _ h)
  have k37 := hts (.fieldLink RX6 37 "SquareStakesModel" "known" "I") (List.mem_of_getElem? (i := 1) rfl)
  have k7 := hts (.fieldLink RX6 7 "SquareStakesModel" "s" "[I") (List.mem_of_getElem? (i := 2) rfl)
  have k13 := hts (.fieldLink RX6 13 "SquareStakesModel" "before" "[I") (List.mem_of_getElem? (i := 3) rfl)
  refine lv_aload_n hx hb dX6_undo_0 rfl (lv_at hl 0 rfl) ?_
  refine va_get (D := D) (ci := 6) (v := .int (nI (kn + 1))) (C := RX6) (T := TX6) (N := 7) hx hb hts inX6 hown hK hP 0 rfl rfl 2 (by decide) k37 (fun _ h9 => h9) rfl dX6_undo_1 ?_
  refine iNe (tgt := 10) hx hb dX6_undo_4 (by decide) (by omega) (fun c1 => ?_) (fun c1 => by exfalso; omega)
  refine lv_aload_n hx hb dX6_undo_10 rfl (lv_at hl 0 rfl) ?_
  refine lv_dup hx hb dX6_undo_11 rfl ?_
  refine va_get (D := D) (ci := 6) (v := .int (nI (kn + 1))) (C := RX6) (T := TX6) (N := 7) hx hb hts inX6 hown hK hP 0 rfl rfl 2 (by decide) k37 (fun _ h9 => h9) rfl dX6_undo_12 ?_
  refine lv_iconst (v := nI 1) hx hb dX6_undo_15 (by decide +kernel) ?_
  refine lv_isub hx hb dX6_undo_16 ?_
  refine rTop (show nI (kn + 1) - nI 1 = nI (kn + 1 - 1) from pk_sub (by omega)) ?_
  refine rTop (show nI (kn + 1 - 1) = nI kn from by rw [Nat.add_sub_cancel]) ?_
  refine va_put (D := D) (ci := 6) (v := .int (nI kn)) (ty := .int) (C := RX6) (T := TX6) (N := 7) hx hb hts inX6 tyX6 tyX6_ok nmX6 hown hK hP hD hS 0 rfl rfl 2 (by decide) k37 (fun _ h9 => h9) rfl (by decide +kernel) rfl rfl (Nat.le_of_ble_eq_true rfl) dX6_undo_17 (fun H locs hP hD hS => ?_)
  have hP : va_P D vwCl [(mo, .inr (6, [.ref sa, .ref be, .int (nI kn), .ref ke, .int (zB ik), .ref te, .int (nI ty)])), (sa, .inl (G 0, 117, .inl (enc n N Z tn po rd al k S P V F))), (be, .inl (G 0, 468, .inl (bf B))), (ke, .inl (G 0, 117, .inl (enc nq Nq Zq tnq poq rdq alq kq Sq Pq Vq Fq))), (te, .inl (G 0, 60, .inl (ch t)))] H := hP
  have hD : va_D A [(mo, .inr (6, [.ref sa, .ref be, .int (nI kn), .ref ke, .int (zB ik), .ref te, .int (nI ty)])), (sa, .inl (G 0, 117, .inl (enc n N Z tn po rd al k S P V F))), (be, .inl (G 0, 468, .inl (bf B))), (ke, .inl (G 0, 117, .inl (enc nq Nq Zq tnq poq rdq alq kq Sq Pq Vq Fq))), (te, .inl (G 0, 60, .inl (ch t)))] := hD
  refine lv_iconst (v := nI 0) hx hb dX6_undo_20 (by decide +kernel) ?_
  refine lv_istore_n (lv' := [(1, .int (nI 0)), (0, .ref mo)]) hx hb dX6_undo_21 rfl hl (by decide) rfl (fun ls hl => ?_)
  have LP22 : ∀ (nn22 c_ : Nat), c_ ≤ 117 → 117 < c_ + nn22  → ∀ (H : Heap) (locs : List Loc), va_P D vwCl [(mo, .inr (6, [.ref sa, .ref be, .int (nI kn), .ref ke, .int (zB ik), .ref te, .int (nI ty)])), (sa, .inl (G 0, 117, .inl (cpp (enc n N Z tn po rd al k S P V F) (B kn) c_))), (be, .inl (G 0, 468, .inl (bf B))), (ke, .inl (G 0, 117, .inl (enc nq Nq Zq tnq poq rdq alq kq Sq Pq Vq Fq))), (te, .inl (G 0, 60, .inl (ch t)))] H → va_D A [(mo, .inr (6, [.ref sa, .ref be, .int (nI kn), .ref ke, .int (zB ik), .ref te, .int (nI ty)])), (sa, .inl (G 0, 117, .inl (cpp (enc n N Z tn po rd al k S P V F) (B kn) c_))), (be, .inl (G 0, 468, .inl (bf B))), (ke, .inl (G 0, 117, .inl (enc nq Nq Zq tnq poq rdq alq kq Sq Pq Vq Fq))), (te, .inl (G 0, 60, .inl (ch t)))] → va_S A s.heap H locs → ∀ ls : Array Slot, lv_has ls 2 [(1, .int (nI c_)), (0, .ref mo)] → W pp l ee (rmA 0 0) s mm ([.ref mo] : List Value).toArray bl me cc H locs 0 0 (MQ bl (Qres (some (.int (nI kn))) D G [(mo, .inr (6, [.ref sa, .ref be, .int (nI kn), .ref ke, .int (zB ik), .ref te, .int (nI ty)])), (sa, .inl (G 0, 117, .inl (enc nv Nv Zv tnv pov rdv alv kv Sv Pv Vv Fv))), (be, .inl (G 0, 468, .inl (bf B))), (ke, .inl (G 0, 117, .inl (enc nq Nq Zq tnq poq rdq alq kq Sq Pq Vq Fq))), (te, .inl (G 0, 60, .inl (ch t)))] A) ([.ref mo] : List Value).toArray s 0 0 A) (F0 mm 22 ls []) := by
    intro nn22
    induction nn22 with
    | zero => intro c_ h1 h2; exact absurd h2 (by omega)
    | succ nn22 ih22 =>
      intro c_ hkc_ hnc_  H locs hP hD hS ls hl
      refine lv_iload_n hx hb dX6_undo_22 rfl (lv_at hl 0 rfl) ?_
      refine lv_bipush (v := nI 117) hx hb dX6_undo_23 (by decide +kernel) ?_
      refine bGe (tgt := 54) hx hb dX6_undo_25 (by decide) (by omega) (by omega) (fun c2 => ?_) (fun c2 => ?_)
      · obtain rfl : 117 = c_ := by omega
        obtain ⟨hP, hD⟩ := wI (g := enc nv Nv Zv tnv pov rdv alv kv Sv Pv Vv Fv) hP hD 1 rfl (fun j hj => (cpp_all hj).trans (hB j hj))
        replace hP : va_P D vwCl [(mo, .inr (6, [.ref sa, .ref be, .int (nI kn), .ref ke, .int (zB ik), .ref te, .int (nI ty)])), (sa, .inl (G 0, 117, .inl (enc nv Nv Zv tnv pov rdv alv kv Sv Pv Vv Fv))), (be, .inl (G 0, 468, .inl (bf B))), (ke, .inl (G 0, 117, .inl (enc nq Nq Zq tnq poq rdq alq kq Sq Pq Vq Fq))), (te, .inl (G 0, 60, .inl (ch t)))] _ := hP
        have hD : va_D A [(mo, .inr (6, [.ref sa, .ref be, .int (nI kn), .ref ke, .int (zB ik), .ref te, .int (nI ty)])), (sa, .inl (G 0, 117, .inl (enc nv Nv Zv tnv pov rdv alv kv Sv Pv Vv Fv))), (be, .inl (G 0, 468, .inl (bf B))), (ke, .inl (G 0, 117, .inl (enc nq Nq Zq tnq poq rdq alq kq Sq Pq Vq Fq))), (te, .inl (G 0, 60, .inl (ch t)))] := hD
        refine lv_aload_n hx hb dX6_undo_54 rfl (lv_at hl 1 rfl) ?_
        refine va_get (D := D) (ci := 6) (v := .int (nI kn)) (C := RX6) (T := TX6) (N := 7) hx hb hts inX6 hown hK hP 0 rfl rfl 2 (by decide) k37 (fun _ h9 => h9) rfl dX6_undo_55 ?_
        exact rIret hx hb hr hlk hP hK hD hS dX6_undo_58
      · refine lv_aload_n hx hb dX6_undo_28 rfl (lv_at hl 1 rfl) ?_
        refine va_get (D := D) (ci := 6) (v := .ref sa) (C := RX6) (T := TX6) (N := 7) hx hb hts inX6 hown hK hP 0 rfl rfl 0 (by decide) k7 (fun _ h9 => h9) rfl dX6_undo_29 ?_
        refine lv_iload_n hx hb dX6_undo_32 rfl (lv_at hl 0 rfl) ?_
        refine lv_aload_n hx hb dX6_undo_33 rfl (lv_at hl 1 rfl) ?_
        refine va_get (D := D) (ci := 6) (v := .ref be) (C := RX6) (T := TX6) (N := 7) hx hb hts inX6 hown hK hP 0 rfl rfl 1 (by decide) k13 (fun _ h9 => h9) rfl dX6_undo_34 ?_
        refine lv_bipush (v := nI 117) hx hb dX6_undo_37 (by decide +kernel) ?_
        refine lv_aload_n hx hb dX6_undo_39 rfl (lv_at hl 1 rfl) ?_
        refine va_get (D := D) (ci := 6) (v := .int (nI kn)) (C := RX6) (T := TX6) (N := 7) hx hb hts inX6 hown hK hP 0 rfl rfl 2 (by decide) k37 (fun _ h9 => h9) rfl dX6_undo_40 ?_
        refine lv_imul hx hb dX6_undo_43 ?_
        refine rTop (show nI 117 * nI kn = nI (117 * kn) from pk_mul 117 kn) ?_
        refine lv_iload_n hx hb dX6_undo_44 rfl (lv_at hl 0 rfl) ?_
        refine lv_iadd hx hb dX6_undo_45 ?_
        refine rTop (show nI (117 * kn) + nI c_ = nI (117 * kn + c_) from nI_add (117 * kn) c_) ?_
        refine rIald hx hb hK hP 2 rfl (117 * kn + c_) (by omega) (by decide) dX6_undo_46 ?_
        refine rIast hx hb hK hP hD hS 1 rfl c_ (by omega) (by decide) dX6_undo_47 (fun H locs hP hD hS => ?_)
        have hP : va_P D vwCl [(mo, .inr (6, [.ref sa, .ref be, .int (nI kn), .ref ke, .int (zB ik), .ref te, .int (nI ty)])), (sa, .inl (G 0, 117, .inl (upd (cpp (enc n N Z tn po rd al k S P V F) (B kn) c_) c_ ((bf B) (117 * kn + c_))))), (be, .inl (G 0, 468, .inl (bf B))), (ke, .inl (G 0, 117, .inl (enc nq Nq Zq tnq poq rdq alq kq Sq Pq Vq Fq))), (te, .inl (G 0, 60, .inl (ch t)))] H := hP
        have hD : va_D A [(mo, .inr (6, [.ref sa, .ref be, .int (nI kn), .ref ke, .int (zB ik), .ref te, .int (nI ty)])), (sa, .inl (G 0, 117, .inl (upd (cpp (enc n N Z tn po rd al k S P V F) (B kn) c_) c_ ((bf B) (117 * kn + c_))))), (be, .inl (G 0, 468, .inl (bf B))), (ke, .inl (G 0, 117, .inl (enc nq Nq Zq tnq poq rdq alq kq Sq Pq Vq Fq))), (te, .inl (G 0, 60, .inl (ch t)))] := hD
        refine lv_iinc (v := nI (c_ + 1)) (lv' := [(1, .int (nI (c_ + 1))), (0, .ref mo)]) hx hb dX6_undo_48 hl (k := 0) rfl (nI_inc c_) (by decide) rfl (fun ls hl => ?_)
        refine lv_goto (tgt := 22) hx hb dX6_undo_51 (by decide) ?_
        obtain ⟨hP, hD⟩ := wI (g := cpp (enc n N Z tn po rd al k S P V F) (B kn) (c_ + 1)) hP hD 1 rfl (fun j hj => cpp_s (bf_at (by omega)))
        replace hP : va_P D vwCl [(mo, .inr (6, [.ref sa, .ref be, .int (nI kn), .ref ke, .int (zB ik), .ref te, .int (nI ty)])), (sa, .inl (G 0, 117, .inl (cpp (enc n N Z tn po rd al k S P V F) (B kn) (c_ + 1)))), (be, .inl (G 0, 468, .inl (bf B))), (ke, .inl (G 0, 117, .inl (enc nq Nq Zq tnq poq rdq alq kq Sq Pq Vq Fq))), (te, .inl (G 0, 60, .inl (ch t)))] _ := hP
        have hD : va_D A [(mo, .inr (6, [.ref sa, .ref be, .int (nI kn), .ref ke, .int (zB ik), .ref te, .int (nI ty)])), (sa, .inl (G 0, 117, .inl (cpp (enc n N Z tn po rd al k S P V F) (B kn) (c_ + 1)))), (be, .inl (G 0, 468, .inl (bf B))), (ke, .inl (G 0, 117, .inl (enc nq Nq Zq tnq poq rdq alq kq Sq Pq Vq Fq))), (te, .inl (G 0, 60, .inl (ch t)))] := hD
        exact ih22 (c_ + 1) (by omega) (by omega)  _ _ hP hD hS _ (lv_sub hl [0, 1] rfl)
  obtain ⟨hP, hD⟩ := wI (g := cpp (enc n N Z tn po rd al k S P V F) (B kn) 0) hP hD 1 rfl (fun j hj => by rw [cpp_0])
  replace hP : va_P D vwCl [(mo, .inr (6, [.ref sa, .ref be, .int (nI kn), .ref ke, .int (zB ik), .ref te, .int (nI ty)])), (sa, .inl (G 0, 117, .inl (cpp (enc n N Z tn po rd al k S P V F) (B kn) 0))), (be, .inl (G 0, 468, .inl (bf B))), (ke, .inl (G 0, 117, .inl (enc nq Nq Zq tnq poq rdq alq kq Sq Pq Vq Fq))), (te, .inl (G 0, 60, .inl (ch t)))] _ := hP
  have hD : va_D A [(mo, .inr (6, [.ref sa, .ref be, .int (nI kn), .ref ke, .int (zB ik), .ref te, .int (nI ty)])), (sa, .inl (G 0, 117, .inl (cpp (enc n N Z tn po rd al k S P V F) (B kn) 0))), (be, .inl (G 0, 468, .inl (bf B))), (ke, .inl (G 0, 117, .inl (enc nq Nq Zq tnq poq rdq alq kq Sq Pq Vq Fq))), (te, .inl (G 0, 60, .inl (ch t)))] := hD
  exact LP22 (117 + 1 - 0) 0 (by omega) (by omega)  _ _ hP hD hS _ (lv_sub hl [0, 1] rfl)

set_option maxHeartbeats 4000000 in
set_option maxRecDepth 100000 in
theorem mX6_undo_none (l : Launch) (D : va_G) (G : Nat → ClassId) (mo sa be ke te kn ty : Nat) (ik : Bool) (n tn k : Nat) (N Z S P V : Nat → Int32) (F : Nat → Nat → Int32) (po rd al : Int32) (B : Nat → Nat → Int32) (nq tnq kq : Nat) (Nq Zq Sq Pq Vq : Nat → Int32) (Fq : Nat → Nat → Int32) (poq rdq alq : Int32) (t : Nat → Nat)  : CT l yX6_undo wsX6_undo 0 0 D G [.ref mo] [(mo, .inr (6, [.ref sa, .ref be, .int (nI 0), .ref ke, .int (zB ik), .ref te, .int (nI ty)])), (sa, .inl (G 0, 117, .inl (enc n N Z tn po rd al k S P V F))), (be, .inl (G 0, 468, .inl (bf B))), (ke, .inl (G 0, 117, .inl (enc nq Nq Zq tnq poq rdq alq kq Sq Pq Vq Fq))), (te, .inl (G 0, 60, .inl (ch t)))] [(mo, .inr (6, [.ref sa, .ref be, .int (nI 0), .ref ke, .int (zB ik), .ref te, .int (nI ty)])), (sa, .inl (G 0, 117, .inl (enc n N Z tn po rd al k S P V F))), (be, .inl (G 0, 468, .inl (bf B))), (ke, .inl (G 0, 117, .inl (enc nq Nq Zq tnq poq rdq alq kq Sq Pq Vq Fq))), (te, .inl (G 0, 60, .inl (ch t)))] (some (.int (-5))) := by
  refine CT.of (cc := cX6_undo) (maxL := 2) (ret := (some .int)) (by decide) rfl RX6 rfl (Nat.le_of_ble_eq_true rfl) (fun pp ee s mm bl me cc A ls hx hb hr hml hts hown hlk hnm hA hP hK hD hN hS hl => ?_)
  have hl : lv_has ls 2 [(0, .ref mo)] := hl
  have hP : va_P D vwCl [(mo, .inr (6, [.ref sa, .ref be, .int (nI 0), .ref ke, .int (zB ik), .ref te, .int (nI ty)])), (sa, .inl (G 0, 117, .inl (enc n N Z tn po rd al k S P V F))), (be, .inl (G 0, 468, .inl (bf B))), (ke, .inl (G 0, 117, .inl (enc nq Nq Zq tnq poq rdq alq kq Sq Pq Vq Fq))), (te, .inl (G 0, 60, .inl (ch t)))] s.heap := hP
  have inX6 : ∀ w ∈ wsX60, w ∈ wsX6_undo := fun w h => List.mem_cons_of_mem _ (List.mem_append_right _ h)
  have k37 := hts (.fieldLink RX6 37 "SquareStakesModel" "known" "I") (List.mem_of_getElem? (i := 1) rfl)
  refine lv_aload_n hx hb dX6_undo_0 rfl (lv_at hl 0 rfl) ?_
  refine va_get (D := D) (ci := 6) (v := .int (nI 0)) (C := RX6) (T := TX6) (N := 7) hx hb hts inX6 hown hK hP 0 rfl rfl 2 (by decide) k37 (fun _ h9 => h9) rfl dX6_undo_1 ?_
  refine iNe (tgt := 10) hx hb dX6_undo_4 (by decide) (by omega) (fun c1 => by exfalso; omega) (fun c1 => ?_)
  refine lv_bipush (v := -5) hx hb dX6_undo_7 (by decide +kernel) ?_
  refine rTop (show (-5) = -5 from rfl) ?_
  exact rIret hx hb hr hlk hP hK hD hS dX6_undo_9

set_option maxHeartbeats 4000000 in
set_option maxRecDepth 100000 in
theorem mX6_keep (l : Launch) (D : va_G) (G : Nat → ClassId) (mo sa be ke te kn ty : Nat) (ik : Bool) (n tn k : Nat) (N Z S P V : Nat → Int32) (F : Nat → Nat → Int32) (po rd al : Int32) (B : Nat → Nat → Int32) (nq tnq kq : Nat) (Nq Zq Sq Pq Vq : Nat → Int32) (Fq : Nat → Nat → Int32) (poq rdq alq : Int32) (t : Nat → Nat) (hn : n = 3 ∨ n = 4) : CT l yX6_keep wsX6_keep 4 92 D G [.ref mo] [(mo, .inr (6, [.ref sa, .ref be, .int (nI kn), .ref ke, .int (zB ik), .ref te, .int (nI ty)])), (sa, .inl (G 0, 117, .inl (enc n N Z tn po rd al k S P V F))), (be, .inl (G 0, 468, .inl (bf B))), (ke, .inl (G 0, 117, .inl (enc nq Nq Zq tnq poq rdq alq kq Sq Pq Vq Fq))), (te, .inl (G 0, 60, .inl (ch t)))] [(mo, .inr (6, [.ref sa, .ref be, .int (nI kn), .ref ke, .int (zB true), .ref te, .int (nI ty)])), (sa, .inl (G 0, 117, .inl (enc n N Z tn po rd al k S P V F))), (be, .inl (G 0, 468, .inl (bf B))), (ke, .inl (G 0, 117, .inl (enc n N Z tn po rd al k S P V F))), (te, .inl (G 0, 60, .inl (ch t)))] (some (.int (wof n N))) := by
  refine CT.of (cc := cX6_keep) (maxL := 2) (ret := (some .int)) (by decide) rfl RX6 rfl (Nat.le_of_ble_eq_true rfl) (fun pp ee s mm bl me cc A ls hx hb hr hml hts hown hlk hnm hA hP hK hD hN hS hl => ?_)
  have hl : lv_has ls 2 [(0, .ref mo)] := hl
  have hP : va_P D vwCl [(mo, .inr (6, [.ref sa, .ref be, .int (nI kn), .ref ke, .int (zB ik), .ref te, .int (nI ty)])), (sa, .inl (G 0, 117, .inl (enc n N Z tn po rd al k S P V F))), (be, .inl (G 0, 468, .inl (bf B))), (ke, .inl (G 0, 117, .inl (enc nq Nq Zq tnq poq rdq alq kq Sq Pq Vq Fq))), (te, .inl (G 0, 60, .inl (ch t)))] s.heap := hP
  have inX6 : ∀ w ∈ wsX60, w ∈ wsX6_keep := fun w h => List.mem_cons_of_mem _ (List.mem_append_right _ h)
  have k117 := hts (.fieldLink RX6 117 "SquareStakesModel" "isKept" "Z") (List.mem_of_getElem? (i := 3) rfl)
  have k16 := hts (.fieldLink RX6 16 "SquareStakesModel" "kept" "[I") (List.mem_of_getElem? (i := 1) rfl)
  have k7 := hts (.fieldLink RX6 7 "SquareStakesModel" "s" "[I") (List.mem_of_getElem? (i := 2) rfl)
  refine lv_iconst (v := nI 0) hx hb dX6_keep_0 (by decide +kernel) ?_
  refine lv_istore_n (lv' := [(1, .int (nI 0)), (0, .ref mo)]) hx hb dX6_keep_1 rfl hl (by decide) rfl (fun ls hl => ?_)
  have LP2 : ∀ (nn2 c_ : Nat), c_ ≤ 117 → 117 < c_ + nn2  → ∀ (H : Heap) (locs : List Loc), va_P D vwCl [(mo, .inr (6, [.ref sa, .ref be, .int (nI kn), .ref ke, .int (zB ik), .ref te, .int (nI ty)])), (sa, .inl (G 0, 117, .inl (enc n N Z tn po rd al k S P V F))), (be, .inl (G 0, 468, .inl (bf B))), (ke, .inl (G 0, 117, .inl (cpp (enc nq Nq Zq tnq poq rdq alq kq Sq Pq Vq Fq) (enc n N Z tn po rd al k S P V F) c_))), (te, .inl (G 0, 60, .inl (ch t)))] H → va_D A [(mo, .inr (6, [.ref sa, .ref be, .int (nI kn), .ref ke, .int (zB ik), .ref te, .int (nI ty)])), (sa, .inl (G 0, 117, .inl (enc n N Z tn po rd al k S P V F))), (be, .inl (G 0, 468, .inl (bf B))), (ke, .inl (G 0, 117, .inl (cpp (enc nq Nq Zq tnq poq rdq alq kq Sq Pq Vq Fq) (enc n N Z tn po rd al k S P V F) c_))), (te, .inl (G 0, 60, .inl (ch t)))] → va_S A s.heap H locs → ∀ ls : Array Slot, lv_has ls 2 [(1, .int (nI c_)), (0, .ref mo)] → W pp l ee (rmA 4 92) s mm ([.ref mo] : List Value).toArray bl me cc H locs 0 0 (MQ bl (Qres (some (.int (wof n N))) D G [(mo, .inr (6, [.ref sa, .ref be, .int (nI kn), .ref ke, .int (zB true), .ref te, .int (nI ty)])), (sa, .inl (G 0, 117, .inl (enc n N Z tn po rd al k S P V F))), (be, .inl (G 0, 468, .inl (bf B))), (ke, .inl (G 0, 117, .inl (enc n N Z tn po rd al k S P V F))), (te, .inl (G 0, 60, .inl (ch t)))] A) ([.ref mo] : List Value).toArray s 0 0 A) (F0 mm 2 ls []) := by
    intro nn2
    induction nn2 with
    | zero => intro c_ h1 h2; exact absurd h2 (by omega)
    | succ nn2 ih2 =>
      intro c_ hkc_ hnc_  H locs hP hD hS ls hl
      refine lv_iload_n hx hb dX6_keep_2 rfl (lv_at hl 0 rfl) ?_
      refine lv_bipush (v := nI 117) hx hb dX6_keep_3 (by decide +kernel) ?_
      refine bGe (tgt := 26) hx hb dX6_keep_5 (by decide) (by omega) (by omega) (fun c1 => ?_) (fun c1 => ?_)
      · obtain rfl : 117 = c_ := by omega
        refine lv_aload_n hx hb dX6_keep_26 rfl (lv_at hl 1 rfl) ?_
        refine lv_iconst (v := nI 1) hx hb dX6_keep_27 (by decide +kernel) ?_
        refine va_put (D := D) (ci := 6) (v := .int (nI 1)) (ty := .boolean) (C := RX6) (T := TX6) (N := 7) hx hb hts inX6 tyX6 tyX6_ok nmX6 hown hK hP hD hS 0 rfl rfl 4 (by decide) k117 (fun _ h9 => h9) rfl (by decide +kernel) (by decide +kernel) (by decide +kernel) (Nat.le_of_ble_eq_true rfl) dX6_keep_28 (fun H locs hP hD hS => ?_)
        have hP : va_P D vwCl [(mo, .inr (6, [.ref sa, .ref be, .int (nI kn), .ref ke, .int (nI 1), .ref te, .int (nI ty)])), (sa, .inl (G 0, 117, .inl (enc n N Z tn po rd al k S P V F))), (be, .inl (G 0, 468, .inl (bf B))), (ke, .inl (G 0, 117, .inl (cpp (enc nq Nq Zq tnq poq rdq alq kq Sq Pq Vq Fq) (enc n N Z tn po rd al k S P V F) 117))), (te, .inl (G 0, 60, .inl (ch t)))] H := hP
        have hD : va_D A [(mo, .inr (6, [.ref sa, .ref be, .int (nI kn), .ref ke, .int (nI 1), .ref te, .int (nI ty)])), (sa, .inl (G 0, 117, .inl (enc n N Z tn po rd al k S P V F))), (be, .inl (G 0, 468, .inl (bf B))), (ke, .inl (G 0, 117, .inl (cpp (enc nq Nq Zq tnq poq rdq alq kq Sq Pq Vq Fq) (enc n N Z tn po rd al k S P V F) 117))), (te, .inl (G 0, 60, .inl (ch t)))] := hD
        replace hP : va_P D vwCl [(mo, .inr (6, [.ref sa, .ref be, .int (nI kn), .ref ke, .int (zB true), .ref te, .int (nI ty)])), (sa, .inl (G 0, 117, .inl (enc n N Z tn po rd al k S P V F))), (be, .inl (G 0, 468, .inl (bf B))), (ke, .inl (G 0, 117, .inl (cpp (enc nq Nq Zq tnq poq rdq alq kq Sq Pq Vq Fq) (enc n N Z tn po rd al k S P V F) 117))), (te, .inl (G 0, 60, .inl (ch t)))] _ := hP
        have hD : va_D A [(mo, .inr (6, [.ref sa, .ref be, .int (nI kn), .ref ke, .int (zB true), .ref te, .int (nI ty)])), (sa, .inl (G 0, 117, .inl (enc n N Z tn po rd al k S P V F))), (be, .inl (G 0, 468, .inl (bf B))), (ke, .inl (G 0, 117, .inl (cpp (enc nq Nq Zq tnq poq rdq alq kq Sq Pq Vq Fq) (enc n N Z tn po rd al k S P V F) 117))), (te, .inl (G 0, 60, .inl (ch t)))] := hD
        refine lv_aload_n hx hb dX6_keep_31 rfl (lv_at hl 1 rfl) ?_
        refine cVr (As := []) (rest := []) ⟨hx, hb, hml, hown, hts⟩ hP hK hD hS hN hA (mX6_wayOff l D G mo sa be ke te kn ty true n tn k N Z S P V F po rd al (by first | assumption | omega)) (cwV 0 hts gX6_keep_X6_wayOff rfl rfl rfl (by decide +kernel) ⟨Nat.le_of_ble_eq_true rfl, Nat.le_of_ble_eq_true rfl⟩) [0, 1] rfl (by decide) 0 6 rfl rfl rfl hl.1 rfl (Nat.le_of_ble_eq_true rfl) dX6_keep_32 ⟨Nat.zero_le _, Nat.zero_le _⟩ (fun H locs hP hS => ?_)
        obtain ⟨hP, hD⟩ := wI (g := enc n N Z tn po rd al k S P V F) hP hD 3 rfl (fun j hj => cpp_all hj)
        replace hP : va_P D vwCl [(mo, .inr (6, [.ref sa, .ref be, .int (nI kn), .ref ke, .int (zB true), .ref te, .int (nI ty)])), (sa, .inl (G 0, 117, .inl (enc n N Z tn po rd al k S P V F))), (be, .inl (G 0, 468, .inl (bf B))), (ke, .inl (G 0, 117, .inl (enc n N Z tn po rd al k S P V F))), (te, .inl (G 0, 60, .inl (ch t)))] _ := hP
        have hD : va_D A [(mo, .inr (6, [.ref sa, .ref be, .int (nI kn), .ref ke, .int (zB true), .ref te, .int (nI ty)])), (sa, .inl (G 0, 117, .inl (enc n N Z tn po rd al k S P V F))), (be, .inl (G 0, 468, .inl (bf B))), (ke, .inl (G 0, 117, .inl (enc n N Z tn po rd al k S P V F))), (te, .inl (G 0, 60, .inl (ch t)))] := hD
        exact rIret hx hb hr hlk hP hK hD hS dX6_keep_35
      · refine lv_aload_n hx hb dX6_keep_8 rfl (lv_at hl 1 rfl) ?_
        refine va_get (D := D) (ci := 6) (v := .ref ke) (C := RX6) (T := TX6) (N := 7) hx hb hts inX6 hown hK hP 0 rfl rfl 3 (by decide) k16 (fun _ h9 => h9) rfl dX6_keep_9 ?_
        refine lv_iload_n hx hb dX6_keep_12 rfl (lv_at hl 0 rfl) ?_
        refine lv_aload_n hx hb dX6_keep_13 rfl (lv_at hl 1 rfl) ?_
        refine va_get (D := D) (ci := 6) (v := .ref sa) (C := RX6) (T := TX6) (N := 7) hx hb hts inX6 hown hK hP 0 rfl rfl 0 (by decide) k7 (fun _ h9 => h9) rfl dX6_keep_14 ?_
        refine lv_iload_n hx hb dX6_keep_17 rfl (lv_at hl 0 rfl) ?_
        refine rIald hx hb hK hP 1 rfl c_ (by omega) (by decide) dX6_keep_18 ?_
        refine rIast hx hb hK hP hD hS 3 rfl c_ (by omega) (by decide) dX6_keep_19 (fun H locs hP hD hS => ?_)
        have hP : va_P D vwCl [(mo, .inr (6, [.ref sa, .ref be, .int (nI kn), .ref ke, .int (zB ik), .ref te, .int (nI ty)])), (sa, .inl (G 0, 117, .inl (enc n N Z tn po rd al k S P V F))), (be, .inl (G 0, 468, .inl (bf B))), (ke, .inl (G 0, 117, .inl (upd (cpp (enc nq Nq Zq tnq poq rdq alq kq Sq Pq Vq Fq) (enc n N Z tn po rd al k S P V F) c_) c_ (enc n N Z tn po rd al k S P V F c_)))), (te, .inl (G 0, 60, .inl (ch t)))] H := hP
        have hD : va_D A [(mo, .inr (6, [.ref sa, .ref be, .int (nI kn), .ref ke, .int (zB ik), .ref te, .int (nI ty)])), (sa, .inl (G 0, 117, .inl (enc n N Z tn po rd al k S P V F))), (be, .inl (G 0, 468, .inl (bf B))), (ke, .inl (G 0, 117, .inl (upd (cpp (enc nq Nq Zq tnq poq rdq alq kq Sq Pq Vq Fq) (enc n N Z tn po rd al k S P V F) c_) c_ (enc n N Z tn po rd al k S P V F c_)))), (te, .inl (G 0, 60, .inl (ch t)))] := hD
        refine lv_iinc (v := nI (c_ + 1)) (lv' := [(1, .int (nI (c_ + 1))), (0, .ref mo)]) hx hb dX6_keep_20 hl (k := 0) rfl (nI_inc c_) (by decide) rfl (fun ls hl => ?_)
        refine lv_goto (tgt := 2) hx hb dX6_keep_23 (by decide) ?_
        obtain ⟨hP, hD⟩ := wI (g := cpp (enc nq Nq Zq tnq poq rdq alq kq Sq Pq Vq Fq) (enc n N Z tn po rd al k S P V F) (c_ + 1)) hP hD 3 rfl (fun j hj => cpp_s rfl)
        replace hP : va_P D vwCl [(mo, .inr (6, [.ref sa, .ref be, .int (nI kn), .ref ke, .int (zB ik), .ref te, .int (nI ty)])), (sa, .inl (G 0, 117, .inl (enc n N Z tn po rd al k S P V F))), (be, .inl (G 0, 468, .inl (bf B))), (ke, .inl (G 0, 117, .inl (cpp (enc nq Nq Zq tnq poq rdq alq kq Sq Pq Vq Fq) (enc n N Z tn po rd al k S P V F) (c_ + 1)))), (te, .inl (G 0, 60, .inl (ch t)))] _ := hP
        have hD : va_D A [(mo, .inr (6, [.ref sa, .ref be, .int (nI kn), .ref ke, .int (zB ik), .ref te, .int (nI ty)])), (sa, .inl (G 0, 117, .inl (enc n N Z tn po rd al k S P V F))), (be, .inl (G 0, 468, .inl (bf B))), (ke, .inl (G 0, 117, .inl (cpp (enc nq Nq Zq tnq poq rdq alq kq Sq Pq Vq Fq) (enc n N Z tn po rd al k S P V F) (c_ + 1)))), (te, .inl (G 0, 60, .inl (ch t)))] := hD
        exact ih2 (c_ + 1) (by omega) (by omega)  _ _ hP hD hS _ (lv_sub hl [0, 1] rfl)
  obtain ⟨hP, hD⟩ := wI (g := cpp (enc nq Nq Zq tnq poq rdq alq kq Sq Pq Vq Fq) (enc n N Z tn po rd al k S P V F) 0) hP hD 3 rfl (fun j hj => by rw [cpp_0])
  replace hP : va_P D vwCl [(mo, .inr (6, [.ref sa, .ref be, .int (nI kn), .ref ke, .int (zB ik), .ref te, .int (nI ty)])), (sa, .inl (G 0, 117, .inl (enc n N Z tn po rd al k S P V F))), (be, .inl (G 0, 468, .inl (bf B))), (ke, .inl (G 0, 117, .inl (cpp (enc nq Nq Zq tnq poq rdq alq kq Sq Pq Vq Fq) (enc n N Z tn po rd al k S P V F) 0))), (te, .inl (G 0, 60, .inl (ch t)))] _ := hP
  have hD : va_D A [(mo, .inr (6, [.ref sa, .ref be, .int (nI kn), .ref ke, .int (zB ik), .ref te, .int (nI ty)])), (sa, .inl (G 0, 117, .inl (enc n N Z tn po rd al k S P V F))), (be, .inl (G 0, 468, .inl (bf B))), (ke, .inl (G 0, 117, .inl (cpp (enc nq Nq Zq tnq poq rdq alq kq Sq Pq Vq Fq) (enc n N Z tn po rd al k S P V F) 0))), (te, .inl (G 0, 60, .inl (ch t)))] := hD
  exact LP2 (117 + 1 - 0) 0 (by omega) (by omega)  _ _ hP hD hS _ (lv_sub hl [0, 1] rfl)

set_option maxHeartbeats 4000000 in
set_option maxRecDepth 100000 in
theorem mX6_restore_none (l : Launch) (D : va_G) (G : Nat → ClassId) (mo sa be ke te kn ty : Nat) (ik : Bool) (n tn k : Nat) (N Z S P V : Nat → Int32) (F : Nat → Nat → Int32) (po rd al : Int32) (B : Nat → Nat → Int32) (nq tnq kq : Nat) (Nq Zq Sq Pq Vq : Nat → Int32) (Fq : Nat → Nat → Int32) (poq rdq alq : Int32) (t : Nat → Nat) (hik : ik = false) : CT l yX6_restore wsX6_restore 4 92 D G [.ref mo] [(mo, .inr (6, [.ref sa, .ref be, .int (nI kn), .ref ke, .int (zB ik), .ref te, .int (nI ty)])), (sa, .inl (G 0, 117, .inl (enc n N Z tn po rd al k S P V F))), (be, .inl (G 0, 468, .inl (bf B))), (ke, .inl (G 0, 117, .inl (enc nq Nq Zq tnq poq rdq alq kq Sq Pq Vq Fq))), (te, .inl (G 0, 60, .inl (ch t)))] [(mo, .inr (6, [.ref sa, .ref be, .int (nI kn), .ref ke, .int (zB ik), .ref te, .int (nI ty)])), (sa, .inl (G 0, 117, .inl (enc n N Z tn po rd al k S P V F))), (be, .inl (G 0, 468, .inl (bf B))), (ke, .inl (G 0, 117, .inl (enc nq Nq Zq tnq poq rdq alq kq Sq Pq Vq Fq))), (te, .inl (G 0, 60, .inl (ch t)))] (some (.int (-5))) := by
  refine CT.of (cc := cX6_restore) (maxL := 2) (ret := (some .int)) (by decide) rfl RX6 rfl (Nat.le_of_ble_eq_true rfl) (fun pp ee s mm bl me cc A ls hx hb hr hml hts hown hlk hnm hA hP hK hD hN hS hl => ?_)
  have hl : lv_has ls 2 [(0, .ref mo)] := hl
  have hP : va_P D vwCl [(mo, .inr (6, [.ref sa, .ref be, .int (nI kn), .ref ke, .int (zB ik), .ref te, .int (nI ty)])), (sa, .inl (G 0, 117, .inl (enc n N Z tn po rd al k S P V F))), (be, .inl (G 0, 468, .inl (bf B))), (ke, .inl (G 0, 117, .inl (enc nq Nq Zq tnq poq rdq alq kq Sq Pq Vq Fq))), (te, .inl (G 0, 60, .inl (ch t)))] s.heap := hP
  have inX6 : ∀ w ∈ wsX60, w ∈ wsX6_restore := fun w h => List.mem_cons_of_mem _ (List.mem_append_right _ h)
  have k117 := hts (.fieldLink RX6 117 "SquareStakesModel" "isKept" "Z") (List.mem_of_getElem? (i := 1) rfl)
  refine lv_aload_n hx hb dX6_restore_0 rfl (lv_at hl 0 rfl) ?_
  refine va_get (D := D) (ci := 6) (v := .int (zB ik)) (C := RX6) (T := TX6) (N := 7) hx hb hts inX6 hown hK hP 0 rfl rfl 4 (by decide) k117 (fun _ h9 => h9) rfl dX6_restore_1 ?_
  refine zNe (tgt := 10) hx hb dX6_restore_4 (by decide)  (fun c1 => absurd (c1) (by rw [hik]; decide)) (fun c1 => ?_)
  refine lv_bipush (v := -5) hx hb dX6_restore_7 (by decide +kernel) ?_
  refine rTop (show (-5) = -5 from rfl) ?_
  exact rIret hx hb hr hlk hP hK hD hS dX6_restore_9

set_option maxHeartbeats 4000000 in
set_option maxRecDepth 100000 in
theorem mX6_restore_ok (l : Launch) (D : va_G) (G : Nat → ClassId) (mo sa be ke te kn ty : Nat) (ik : Bool) (n tn k : Nat) (N Z S P V : Nat → Int32) (F : Nat → Nat → Int32) (po rd al : Int32) (B : Nat → Nat → Int32) (nq tnq kq : Nat) (Nq Zq Sq Pq Vq : Nat → Int32) (Fq : Nat → Nat → Int32) (poq rdq alq : Int32) (t : Nat → Nat) (hkn : kn ≤ 4) (hik : ik = true) (hnq : nq = 3 ∨ nq = 4) : CT l yX6_restore wsX6_restore 4 92 D G [.ref mo] [(mo, .inr (6, [.ref sa, .ref be, .int (nI kn), .ref ke, .int (zB ik), .ref te, .int (nI ty)])), (sa, .inl (G 0, 117, .inl (enc n N Z tn po rd al k S P V F))), (be, .inl (G 0, 468, .inl (bf B))), (ke, .inl (G 0, 117, .inl (enc nq Nq Zq tnq poq rdq alq kq Sq Pq Vq Fq))), (te, .inl (G 0, 60, .inl (ch t)))] [(mo, .inr (6, [.ref sa, .ref be, .int (nI (mn kn)), .ref ke, .int (zB ik), .ref te, .int (nI ty)])), (sa, .inl (G 0, 117, .inl (enc nq Nq Zq tnq poq rdq alq kq Sq Pq Vq Fq))), (be, .inl (G 0, 468, .inl (bf (kB B kn (enc n N Z tn po rd al k S P V F))))), (ke, .inl (G 0, 117, .inl (enc nq Nq Zq tnq poq rdq alq kq Sq Pq Vq Fq))), (te, .inl (G 0, 60, .inl (ch t)))] (some (.int (wof nq Nq))) := by
  refine CT.of (cc := cX6_restore) (maxL := 2) (ret := (some .int)) (by decide) rfl RX6 rfl (Nat.le_of_ble_eq_true rfl) (fun pp ee s mm bl me cc A ls hx hb hr hml hts hown hlk hnm hA hP hK hD hN hS hl => ?_)
  have hl : lv_has ls 2 [(0, .ref mo)] := hl
  have hP : va_P D vwCl [(mo, .inr (6, [.ref sa, .ref be, .int (nI kn), .ref ke, .int (zB ik), .ref te, .int (nI ty)])), (sa, .inl (G 0, 117, .inl (enc n N Z tn po rd al k S P V F))), (be, .inl (G 0, 468, .inl (bf B))), (ke, .inl (G 0, 117, .inl (enc nq Nq Zq tnq poq rdq alq kq Sq Pq Vq Fq))), (te, .inl (G 0, 60, .inl (ch t)))] s.heap := hP
  have inX6 : ∀ w ∈ wsX60, w ∈ wsX6_restore := fun w h => List.mem_cons_of_mem _ (List.mem_append_right _ h)
  have k117 := hts (.fieldLink RX6 117 "SquareStakesModel" "isKept" "Z") (List.mem_of_getElem? (i := 1) rfl)
  have k7 := hts (.fieldLink RX6 7 "SquareStakesModel" "s" "[I") (List.mem_of_getElem? (i := 2) rfl)
  have k16 := hts (.fieldLink RX6 16 "SquareStakesModel" "kept" "[I") (List.mem_of_getElem? (i := 3) rfl)
  refine lv_aload_n hx hb dX6_restore_0 rfl (lv_at hl 0 rfl) ?_
  refine va_get (D := D) (ci := 6) (v := .int (zB ik)) (C := RX6) (T := TX6) (N := 7) hx hb hts inX6 hown hK hP 0 rfl rfl 4 (by decide) k117 (fun _ h9 => h9) rfl dX6_restore_1 ?_
  refine zNe (tgt := 10) hx hb dX6_restore_4 (by decide)  (fun c1 => ?_) (fun c1 => absurd (c1) (by rw [hik]; decide))
  refine lv_aload_n hx hb dX6_restore_10 rfl (lv_at hl 0 rfl) ?_
  refine cV (As := []) (rest := []) ⟨hx, hb, hml, hown, hts⟩ hP hK hD hS hN hA (mX6_know l D G mo sa be ke te kn ty ik n tn k N Z S P V F po rd al B (by first | assumption | omega)) (cwV 0 hts gX6_restore_X6_know rfl rfl rfl (by decide +kernel) ⟨Nat.le_of_ble_eq_true rfl, Nat.le_of_ble_eq_true rfl⟩) [0, 1, 2] rfl (by decide) (Eq.trans (b := [mo, sa, be]) rfl rfl) 0 6 rfl rfl rfl hl.1 rfl (Nat.le_of_ble_eq_true rfl) dX6_restore_11 ⟨Nat.zero_le _, Nat.zero_le _⟩ (fun H locs hP hD hS => ?_)
  have hP : va_P D vwCl [(mo, .inr (6, [.ref sa, .ref be, .int (nI (mn kn)), .ref ke, .int (zB ik), .ref te, .int (nI ty)])), (sa, .inl (G 0, 117, .inl (enc n N Z tn po rd al k S P V F))), (be, .inl (G 0, 468, .inl (bf (kB B kn (enc n N Z tn po rd al k S P V F))))), (ke, .inl (G 0, 117, .inl (enc nq Nq Zq tnq poq rdq alq kq Sq Pq Vq Fq))), (te, .inl (G 0, 60, .inl (ch t)))] H := hP
  have hD : va_D A [(mo, .inr (6, [.ref sa, .ref be, .int (nI (mn kn)), .ref ke, .int (zB ik), .ref te, .int (nI ty)])), (sa, .inl (G 0, 117, .inl (enc n N Z tn po rd al k S P V F))), (be, .inl (G 0, 468, .inl (bf (kB B kn (enc n N Z tn po rd al k S P V F))))), (ke, .inl (G 0, 117, .inl (enc nq Nq Zq tnq poq rdq alq kq Sq Pq Vq Fq))), (te, .inl (G 0, 60, .inl (ch t)))] := hD
  refine lv_iconst (v := nI 0) hx hb dX6_restore_14 (by decide +kernel) ?_
  refine lv_istore_n (lv' := [(1, .int (nI 0)), (0, .ref mo)]) hx hb dX6_restore_15 rfl hl (by decide) rfl (fun ls hl => ?_)
  have LP16 : ∀ (nn16 c_ : Nat), c_ ≤ 117 → 117 < c_ + nn16  → ∀ (H : Heap) (locs : List Loc), va_P D vwCl [(mo, .inr (6, [.ref sa, .ref be, .int (nI (mn kn)), .ref ke, .int (zB ik), .ref te, .int (nI ty)])), (sa, .inl (G 0, 117, .inl (cpp (enc n N Z tn po rd al k S P V F) (enc nq Nq Zq tnq poq rdq alq kq Sq Pq Vq Fq) c_))), (be, .inl (G 0, 468, .inl (bf (kB B kn (enc n N Z tn po rd al k S P V F))))), (ke, .inl (G 0, 117, .inl (enc nq Nq Zq tnq poq rdq alq kq Sq Pq Vq Fq))), (te, .inl (G 0, 60, .inl (ch t)))] H → va_D A [(mo, .inr (6, [.ref sa, .ref be, .int (nI (mn kn)), .ref ke, .int (zB ik), .ref te, .int (nI ty)])), (sa, .inl (G 0, 117, .inl (cpp (enc n N Z tn po rd al k S P V F) (enc nq Nq Zq tnq poq rdq alq kq Sq Pq Vq Fq) c_))), (be, .inl (G 0, 468, .inl (bf (kB B kn (enc n N Z tn po rd al k S P V F))))), (ke, .inl (G 0, 117, .inl (enc nq Nq Zq tnq poq rdq alq kq Sq Pq Vq Fq))), (te, .inl (G 0, 60, .inl (ch t)))] → va_S A s.heap H locs → ∀ ls : Array Slot, lv_has ls 2 [(1, .int (nI c_)), (0, .ref mo)] → W pp l ee (rmA 4 92) s mm ([.ref mo] : List Value).toArray bl me cc H locs 0 0 (MQ bl (Qres (some (.int (wof nq Nq))) D G [(mo, .inr (6, [.ref sa, .ref be, .int (nI (mn kn)), .ref ke, .int (zB ik), .ref te, .int (nI ty)])), (sa, .inl (G 0, 117, .inl (enc nq Nq Zq tnq poq rdq alq kq Sq Pq Vq Fq))), (be, .inl (G 0, 468, .inl (bf (kB B kn (enc n N Z tn po rd al k S P V F))))), (ke, .inl (G 0, 117, .inl (enc nq Nq Zq tnq poq rdq alq kq Sq Pq Vq Fq))), (te, .inl (G 0, 60, .inl (ch t)))] A) ([.ref mo] : List Value).toArray s 0 0 A) (F0 mm 16 ls []) := by
    intro nn16
    induction nn16 with
    | zero => intro c_ h1 h2; exact absurd h2 (by omega)
    | succ nn16 ih16 =>
      intro c_ hkc_ hnc_  H locs hP hD hS ls hl
      refine lv_iload_n hx hb dX6_restore_16 rfl (lv_at hl 0 rfl) ?_
      refine lv_bipush (v := nI 117) hx hb dX6_restore_17 (by decide +kernel) ?_
      refine bGe (tgt := 40) hx hb dX6_restore_19 (by decide) (by omega) (by omega) (fun c2 => ?_) (fun c2 => ?_)
      · obtain rfl : 117 = c_ := by omega
        obtain ⟨hP, hD⟩ := wI (g := enc nq Nq Zq tnq poq rdq alq kq Sq Pq Vq Fq) hP hD 1 rfl (fun j hj => cpp_all hj)
        replace hP : va_P D vwCl [(mo, .inr (6, [.ref sa, .ref be, .int (nI (mn kn)), .ref ke, .int (zB ik), .ref te, .int (nI ty)])), (sa, .inl (G 0, 117, .inl (enc nq Nq Zq tnq poq rdq alq kq Sq Pq Vq Fq))), (be, .inl (G 0, 468, .inl (bf (kB B kn (enc n N Z tn po rd al k S P V F))))), (ke, .inl (G 0, 117, .inl (enc nq Nq Zq tnq poq rdq alq kq Sq Pq Vq Fq))), (te, .inl (G 0, 60, .inl (ch t)))] _ := hP
        have hD : va_D A [(mo, .inr (6, [.ref sa, .ref be, .int (nI (mn kn)), .ref ke, .int (zB ik), .ref te, .int (nI ty)])), (sa, .inl (G 0, 117, .inl (enc nq Nq Zq tnq poq rdq alq kq Sq Pq Vq Fq))), (be, .inl (G 0, 468, .inl (bf (kB B kn (enc n N Z tn po rd al k S P V F))))), (ke, .inl (G 0, 117, .inl (enc nq Nq Zq tnq poq rdq alq kq Sq Pq Vq Fq))), (te, .inl (G 0, 60, .inl (ch t)))] := hD
        refine lv_aload_n hx hb dX6_restore_40 rfl (lv_at hl 1 rfl) ?_
        refine cVr (As := []) (rest := []) ⟨hx, hb, hml, hown, hts⟩ hP hK hD hS hN hA (mX6_wayOff l D G mo sa be ke te (mn kn) ty ik nq tnq kq Nq Zq Sq Pq Vq Fq poq rdq alq (by first | assumption | omega)) (cwV 0 hts gX6_restore_X6_wayOff rfl rfl rfl (by decide +kernel) ⟨Nat.le_of_ble_eq_true rfl, Nat.le_of_ble_eq_true rfl⟩) [0, 1] rfl (by decide) 0 6 rfl rfl rfl hl.1 rfl (Nat.le_of_ble_eq_true rfl) dX6_restore_41 ⟨Nat.zero_le _, Nat.zero_le _⟩ (fun H locs hP hS => ?_)
        exact rIret hx hb hr hlk hP hK hD hS dX6_restore_44
      · refine lv_aload_n hx hb dX6_restore_22 rfl (lv_at hl 1 rfl) ?_
        refine va_get (D := D) (ci := 6) (v := .ref sa) (C := RX6) (T := TX6) (N := 7) hx hb hts inX6 hown hK hP 0 rfl rfl 0 (by decide) k7 (fun _ h9 => h9) rfl dX6_restore_23 ?_
        refine lv_iload_n hx hb dX6_restore_26 rfl (lv_at hl 0 rfl) ?_
        refine lv_aload_n hx hb dX6_restore_27 rfl (lv_at hl 1 rfl) ?_
        refine va_get (D := D) (ci := 6) (v := .ref ke) (C := RX6) (T := TX6) (N := 7) hx hb hts inX6 hown hK hP 0 rfl rfl 3 (by decide) k16 (fun _ h9 => h9) rfl dX6_restore_28 ?_
        refine lv_iload_n hx hb dX6_restore_31 rfl (lv_at hl 0 rfl) ?_
        refine rIald hx hb hK hP 3 rfl c_ (by omega) (by decide) dX6_restore_32 ?_
        refine rIast hx hb hK hP hD hS 1 rfl c_ (by omega) (by decide) dX6_restore_33 (fun H locs hP hD hS => ?_)
        have hP : va_P D vwCl [(mo, .inr (6, [.ref sa, .ref be, .int (nI (mn kn)), .ref ke, .int (zB ik), .ref te, .int (nI ty)])), (sa, .inl (G 0, 117, .inl (upd (cpp (enc n N Z tn po rd al k S P V F) (enc nq Nq Zq tnq poq rdq alq kq Sq Pq Vq Fq) c_) c_ ((enc nq Nq Zq tnq poq rdq alq kq Sq Pq Vq Fq) c_)))), (be, .inl (G 0, 468, .inl (bf (kB B kn (enc n N Z tn po rd al k S P V F))))), (ke, .inl (G 0, 117, .inl (enc nq Nq Zq tnq poq rdq alq kq Sq Pq Vq Fq))), (te, .inl (G 0, 60, .inl (ch t)))] H := hP
        have hD : va_D A [(mo, .inr (6, [.ref sa, .ref be, .int (nI (mn kn)), .ref ke, .int (zB ik), .ref te, .int (nI ty)])), (sa, .inl (G 0, 117, .inl (upd (cpp (enc n N Z tn po rd al k S P V F) (enc nq Nq Zq tnq poq rdq alq kq Sq Pq Vq Fq) c_) c_ ((enc nq Nq Zq tnq poq rdq alq kq Sq Pq Vq Fq) c_)))), (be, .inl (G 0, 468, .inl (bf (kB B kn (enc n N Z tn po rd al k S P V F))))), (ke, .inl (G 0, 117, .inl (enc nq Nq Zq tnq poq rdq alq kq Sq Pq Vq Fq))), (te, .inl (G 0, 60, .inl (ch t)))] := hD
        refine lv_iinc (v := nI (c_ + 1)) (lv' := [(1, .int (nI (c_ + 1))), (0, .ref mo)]) hx hb dX6_restore_34 hl (k := 0) rfl (nI_inc c_) (by decide) rfl (fun ls hl => ?_)
        refine lv_goto (tgt := 16) hx hb dX6_restore_37 (by decide) ?_
        obtain ⟨hP, hD⟩ := wI (g := cpp (enc n N Z tn po rd al k S P V F) (enc nq Nq Zq tnq poq rdq alq kq Sq Pq Vq Fq) (c_ + 1)) hP hD 1 rfl (fun j hj => cpp_s rfl)
        replace hP : va_P D vwCl [(mo, .inr (6, [.ref sa, .ref be, .int (nI (mn kn)), .ref ke, .int (zB ik), .ref te, .int (nI ty)])), (sa, .inl (G 0, 117, .inl (cpp (enc n N Z tn po rd al k S P V F) (enc nq Nq Zq tnq poq rdq alq kq Sq Pq Vq Fq) (c_ + 1)))), (be, .inl (G 0, 468, .inl (bf (kB B kn (enc n N Z tn po rd al k S P V F))))), (ke, .inl (G 0, 117, .inl (enc nq Nq Zq tnq poq rdq alq kq Sq Pq Vq Fq))), (te, .inl (G 0, 60, .inl (ch t)))] _ := hP
        have hD : va_D A [(mo, .inr (6, [.ref sa, .ref be, .int (nI (mn kn)), .ref ke, .int (zB ik), .ref te, .int (nI ty)])), (sa, .inl (G 0, 117, .inl (cpp (enc n N Z tn po rd al k S P V F) (enc nq Nq Zq tnq poq rdq alq kq Sq Pq Vq Fq) (c_ + 1)))), (be, .inl (G 0, 468, .inl (bf (kB B kn (enc n N Z tn po rd al k S P V F))))), (ke, .inl (G 0, 117, .inl (enc nq Nq Zq tnq poq rdq alq kq Sq Pq Vq Fq))), (te, .inl (G 0, 60, .inl (ch t)))] := hD
        exact ih16 (c_ + 1) (by omega) (by omega)  _ _ hP hD hS _ (lv_sub hl [0, 1] rfl)
  obtain ⟨hP, hD⟩ := wI (g := cpp (enc n N Z tn po rd al k S P V F) (enc nq Nq Zq tnq poq rdq alq kq Sq Pq Vq Fq) 0) hP hD 1 rfl (fun j hj => by rw [cpp_0])
  replace hP : va_P D vwCl [(mo, .inr (6, [.ref sa, .ref be, .int (nI (mn kn)), .ref ke, .int (zB ik), .ref te, .int (nI ty)])), (sa, .inl (G 0, 117, .inl (cpp (enc n N Z tn po rd al k S P V F) (enc nq Nq Zq tnq poq rdq alq kq Sq Pq Vq Fq) 0))), (be, .inl (G 0, 468, .inl (bf (kB B kn (enc n N Z tn po rd al k S P V F))))), (ke, .inl (G 0, 117, .inl (enc nq Nq Zq tnq poq rdq alq kq Sq Pq Vq Fq))), (te, .inl (G 0, 60, .inl (ch t)))] _ := hP
  have hD : va_D A [(mo, .inr (6, [.ref sa, .ref be, .int (nI (mn kn)), .ref ke, .int (zB ik), .ref te, .int (nI ty)])), (sa, .inl (G 0, 117, .inl (cpp (enc n N Z tn po rd al k S P V F) (enc nq Nq Zq tnq poq rdq alq kq Sq Pq Vq Fq) 0))), (be, .inl (G 0, 468, .inl (bf (kB B kn (enc n N Z tn po rd al k S P V F))))), (ke, .inl (G 0, 117, .inl (enc nq Nq Zq tnq poq rdq alq kq Sq Pq Vq Fq))), (te, .inl (G 0, 60, .inl (ch t)))] := hD
  exact LP16 (117 + 1 - 0) 0 (by omega) (by omega)  _ _ hP hD hS _ (lv_sub hl [0, 1] rfl)
