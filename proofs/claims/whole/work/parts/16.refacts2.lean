set_option maxHeartbeats 4000000 in
set_option maxRecDepth 100000 in
theorem mX6_swap_err (l : Launch) (D : va_G) (G : Nat → ClassId) (mo sa be ke te kn ty : Nat) (ik : Bool) (n tn k : Nat) (N Z S P V : Nat → Int32) (F : Nat → Nat → Int32) (po rd al : Int32) (B : Nat → Nat → Int32) (nq tnq kq : Nat) (Nq Zq Sq Pq Vq : Nat → Int32) (Fq : Nat → Nat → Int32) (poq rdq alq : Int32) (t : Nat → Nat) (x y : Int32) (hn : n = 3 ∨ n = 4) (ht : tn < 3) (hE : ¬ swE n Z P S tn x y = 0) : CT l yX6_swap wsX6_swap 5 115 D G [.ref mo, .int x, .int y] [(mo, .inr (6, [.ref sa, .ref be, .int (nI kn), .ref ke, .int (zB ik), .ref te, .int (nI ty)])), (sa, .inl (G 0, 117, .inl (enc n N Z tn po rd al k S P V F))), (be, .inl (G 0, 468, .inl (bf B))), (ke, .inl (G 0, 117, .inl (enc nq Nq Zq tnq poq rdq alq kq Sq Pq Vq Fq))), (te, .inl (G 0, 60, .inl (ch t)))] [(mo, .inr (6, [.ref sa, .ref be, .int (nI kn), .ref ke, .int (zB ik), .ref te, .int (nI ty)])), (sa, .inl (G 0, 117, .inl (enc n N Z tn po rd al k S P V F))), (be, .inl (G 0, 468, .inl (bf B))), (ke, .inl (G 0, 117, .inl (enc nq Nq Zq tnq poq rdq alq kq Sq Pq Vq Fq))), (te, .inl (G 0, 60, .inl (ch t)))] (some (.int (swE n Z P S tn x y))) := by
  refine CT.of (cc := cX6_swap) (maxL := 6) (ret := (some .int)) (by decide) rfl RX6 rfl (Nat.le_of_ble_eq_true rfl) (fun pp ee s mm bl me cc A ls hx hb hr hml hts hown hlk hnm hA hP hK hD hN hS hl => ?_)
  have hl : lv_has ls 6 [(0, .ref mo), (1, .int x), (2, .int y)] := hl
  have hP : va_P D vwCl [(mo, .inr (6, [.ref sa, .ref be, .int (nI kn), .ref ke, .int (zB ik), .ref te, .int (nI ty)])), (sa, .inl (G 0, 117, .inl (enc n N Z tn po rd al k S P V F))), (be, .inl (G 0, 468, .inl (bf B))), (ke, .inl (G 0, 117, .inl (enc nq Nq Zq tnq poq rdq alq kq Sq Pq Vq Fq))), (te, .inl (G 0, 60, .inl (ch t)))] s.heap := hP
  have inX6 : ∀ w ∈ wsX60, w ∈ wsX6_swap := fun w h => List.mem_cons_of_mem _ (List.mem_append_right _ h)
  have k7 := hts (.fieldLink RX6 7 "SquareStakesModel" "s" "[I") (List.mem_of_getElem? (i := 1) rfl)
  have hq9 : n * n < 17 ∧ 0 < n * n := by rcases hn with rfl | rfl <;> decide
  refine lv_aload_n hx hb dX6_swap_0 rfl (lv_at hl 0 rfl) ?_
  refine lv_iload_n hx hb dX6_swap_1 rfl (lv_at hl 1 rfl) ?_
  refine cVr (As := [.int x]) (rest := []) ⟨hx, hb, hml, hown, hts⟩ hP hK hD hS hN hA (mX6_isCell l D G mo sa be ke te kn ty ik n tn k N Z S P V F po rd al x (by first | assumption | omega)) (cwV 1 hts gX6_swap_X6_isCell rfl rfl rfl (by decide +kernel) ⟨Nat.le_of_ble_eq_true rfl, Nat.le_of_ble_eq_true rfl⟩) [0, 1] rfl (by decide) 0 6 rfl rfl rfl hl.1 rfl (Nat.le_of_ble_eq_true rfl) dX6_swap_2 ⟨Nat.zero_le _, Nat.zero_le _⟩ (fun H locs hP hS => ?_)
  refine zEq (tgt := 16) hx hb dX6_swap_5 (by decide)  (fun c1 => ?_) (fun c1 => ?_)
  · refine lv_iconst (v := -1) hx hb dX6_swap_16 (by decide +kernel) ?_
    refine rTop (show (-1) = swE n Z P S tn x y from by first | exact swE_f1 (by assumption) | exact swE_f2 (by assumption)) ?_
    exact rIret hx hb hr hlk hP hK hD hS dX6_swap_17
  · obtain ⟨xj, hxj, rfl⟩ := inB_ex (by assumption) (by omega)
    refine lv_aload_n hx hb dX6_swap_8 rfl (lv_at hl 0 rfl) ?_
    refine lv_iload_n hx hb dX6_swap_9 rfl (lv_at hl 2 rfl) ?_
    refine cVr (As := [.int y]) (rest := []) ⟨hx, hb, hml, hown, hts⟩ hP hK hD hS hN hA (mX6_isCell l D G mo sa be ke te kn ty ik n tn k N Z S P V F po rd al y (by first | assumption | omega)) (cwV 1 hts gX6_swap_X6_isCell rfl rfl rfl (by decide +kernel) ⟨Nat.le_of_ble_eq_true rfl, Nat.le_of_ble_eq_true rfl⟩) [0, 1] rfl (by decide) 0 6 rfl rfl rfl hl.1 rfl (Nat.le_of_ble_eq_true rfl) dX6_swap_10 ⟨Nat.zero_le _, Nat.zero_le _⟩ (fun H locs hP hS => ?_)
    refine zNe (tgt := 18) hx hb dX6_swap_13 (by decide)  (fun c2 => ?_) (fun c2 => ?_)
    · obtain ⟨yj, hyj, rfl⟩ := inB_ex (by assumption) (by omega)
      refine lv_iload_n hx hb dX6_swap_18 rfl (lv_at hl 1 rfl) ?_
      refine lv_iload_n hx hb dX6_swap_19 rfl (lv_at hl 2 rfl) ?_
      refine bNe (tgt := 26) hx hb dX6_swap_20 (by decide) (by omega) (by omega) (fun c3 => ?_) (fun c3 => ?_)
      · refine lv_aload_n hx hb dX6_swap_26 rfl (lv_at hl 0 rfl) ?_
        refine va_get (D := D) (ci := 6) (v := .ref sa) (C := RX6) (T := TX6) (N := 7) hx hb hts inX6 hown hK hP 0 rfl rfl 0 (by decide) k7 (fun _ h9 => h9) rfl dX6_swap_27 ?_
        refine lv_bipush (v := nI 31) hx hb dX6_swap_30 (by decide +kernel) ?_
        refine lv_iload_n hx hb dX6_swap_32 rfl (lv_at hl 1 rfl) ?_
        refine lv_iadd hx hb dX6_swap_33 ?_
        refine rTop (show nI 31 + nI xj = nI (31 + xj) from nI_add 31 xj) ?_
        refine rIald hx hb hK hP 1 rfl (31 + xj) (by omega) (by decide) dX6_swap_34 ?_
        refine rTop (enc_Z n N Z tn po rd al k S P V F xj (by omega)) ?_
        refine lv_if_gt (tgt := 50) hx hb dX6_swap_35 (by decide)  (fun c4 => ?_) (fun c4 => ?_)
        · refine lv_bipush (v := -4) hx hb dX6_swap_50 (by decide +kernel) ?_
          refine rTop (show (-4) = swE n Z P S tn (nI xj) (nI yj) from by rw [swE_in hxj hyj (by omega), if_neg (by omega), if_pos (by first | exact Or.inl (by assumption) | exact Or.inr (Int32.not_le.mp (by assumption)))]) ?_
          exact rIret hx hb hr hlk hP hK hD hS dX6_swap_52
        · refine lv_aload_n hx hb dX6_swap_38 rfl (lv_at hl 0 rfl) ?_
          refine va_get (D := D) (ci := 6) (v := .ref sa) (C := RX6) (T := TX6) (N := 7) hx hb hts inX6 hown hK hP 0 rfl rfl 0 (by decide) k7 (fun _ h9 => h9) rfl dX6_swap_39 ?_
          refine lv_bipush (v := nI 31) hx hb dX6_swap_42 (by decide +kernel) ?_
          refine lv_iload_n hx hb dX6_swap_44 rfl (lv_at hl 2 rfl) ?_
          refine lv_iadd hx hb dX6_swap_45 ?_
          refine rTop (show nI 31 + nI yj = nI (31 + yj) from nI_add 31 yj) ?_
          refine rIald hx hb hK hP 1 rfl (31 + yj) (by omega) (by decide) dX6_swap_46 ?_
          refine rTop (enc_Z n N Z tn po rd al k S P V F yj (by omega)) ?_
          refine lv_if_le (tgt := 53) hx hb dX6_swap_47 (by decide)  (fun c5 => ?_) (fun c5 => ?_)
          · refine lv_aload_n hx hb dX6_swap_53 rfl (lv_at hl 0 rfl) ?_
            refine va_get (D := D) (ci := 6) (v := .ref sa) (C := RX6) (T := TX6) (N := 7) hx hb hts inX6 hown hK hP 0 rfl rfl 0 (by decide) k7 (fun _ h9 => h9) rfl dX6_swap_54 ?_
            refine lv_iconst (v := nI 1) hx hb dX6_swap_57 (by decide +kernel) ?_
            refine rIald hx hb hK hP 1 rfl 1 (by omega) (by decide) dX6_swap_58 ?_
            refine rTop (show enc n N Z tn po rd al k S P V F 1 = nI tn from rfl) ?_
            refine lv_istore_n (lv' := [(3, .int (nI tn)), (0, .ref mo), (1, .int (nI xj)), (2, .int (nI yj))]) hx hb dX6_swap_59 rfl hl (by decide) rfl (fun ls hl => ?_)
            refine lv_aload_n hx hb dX6_swap_60 rfl (lv_at hl 1 rfl) ?_
            refine va_get (D := D) (ci := 6) (v := .ref sa) (C := RX6) (T := TX6) (N := 7) hx hb hts inX6 hown hK hP 0 rfl rfl 0 (by decide) k7 (fun _ h9 => h9) rfl dX6_swap_61 ?_
            refine lv_bipush (v := nI 9) hx hb dX6_swap_64 (by decide +kernel) ?_
            refine lv_iload_n hx hb dX6_swap_66 rfl (lv_at hl 0 rfl) ?_
            refine lv_iadd hx hb dX6_swap_67 ?_
            refine rTop (show nI 9 + nI tn = nI (9 + tn) from nI_add 9 tn) ?_
            refine rIald hx hb hK hP 1 rfl (9 + tn) (by omega) (by decide) dX6_swap_68 ?_
            refine rTop (enc_P n N Z tn po rd al k S P V F tn (by omega)) ?_
            refine lv_aload_n hx hb dX6_swap_69 rfl (lv_at hl 1 rfl) ?_
            refine va_get (D := D) (ci := 6) (v := .ref sa) (C := RX6) (T := TX6) (N := 7) hx hb hts inX6 hown hK hP 0 rfl rfl 0 (by decide) k7 (fun _ h9 => h9) rfl dX6_swap_70 ?_
            refine lv_bipush (v := nI 7) hx hb dX6_swap_73 (by decide +kernel) ?_
            refine rIald hx hb hK hP 1 rfl 7 (by omega) (by decide) dX6_swap_75 ?_
            refine rTop (show enc n N Z tn po rd al k S P V F 7 = S 1 from enc_S n N Z tn po rd al k S P V F 1 (by omega)) ?_
            refine lv_icmp_ge (tgt := 82) hx hb dX6_swap_76 (by decide)  (fun c6 => absurd (by rw [swE_in hxj hyj (by omega), if_neg (by omega), if_neg (nle2 (by assumption) (by assumption)), if_neg (Int32.not_lt.mpr c6)]) hE) (fun c6 => ?_)
            refine lv_bipush (v := -3) hx hb dX6_swap_79 (by decide +kernel) ?_
            refine rTop (show (-3) = swE n Z P S tn (nI xj) (nI yj) from by rw [swE_in hxj hyj (by omega), if_neg (by omega), if_neg (nle2 (by assumption) (by assumption)), if_pos (Int32.not_le.mp (by assumption))]) ?_
            exact rIret hx hb hr hlk hP hK hD hS dX6_swap_81
          · refine lv_bipush (v := -4) hx hb dX6_swap_50 (by decide +kernel) ?_
            refine rTop (show (-4) = swE n Z P S tn (nI xj) (nI yj) from by rw [swE_in hxj hyj (by omega), if_neg (by omega), if_pos (by first | exact Or.inl (by assumption) | exact Or.inr (Int32.not_le.mp (by assumption)))]) ?_
            exact rIret hx hb hr hlk hP hK hD hS dX6_swap_52
      · refine lv_bipush (v := -2) hx hb dX6_swap_23 (by decide +kernel) ?_
        refine rTop (show (-2) = swE n Z P S tn (nI xj) (nI yj) from by rw [swE_in hxj hyj (by omega), if_pos (by omega)]) ?_
        exact rIret hx hb hr hlk hP hK hD hS dX6_swap_25
    · refine lv_iconst (v := -1) hx hb dX6_swap_16 (by decide +kernel) ?_
      refine rTop (show (-1) = swE n Z P S tn (nI xj) y from by first | exact swE_f1 (by assumption) | exact swE_f2 (by assumption)) ?_
      exact rIret hx hb hr hlk hP hK hD hS dX6_swap_17

set_option maxHeartbeats 4000000 in
set_option maxRecDepth 100000 in
theorem mX6_swap_00 (l : Launch) (D : va_G) (G : Nat → ClassId) (mo sa be ke te kn ty : Nat) (ik : Bool) (n tn k : Nat) (N Z S P V : Nat → Int32) (F : Nat → Nat → Int32) (po rd al : Int32) (B : Nat → Nat → Int32) (nq tnq kq : Nat) (Nq Zq Sq Pq Vq : Nat → Int32) (Fq : Nat → Nat → Int32) (poq rdq alq : Int32) (t : Nat → Nat) (a b : Nat) (hkn : kn ≤ 4) (hn : n = 3 ∨ n = 4) (hk : k ≤ 10) (ht : tn < 3) (hSO : SOK n k F) (hN1 : NOK n N) (hSM : SMK k F) (hRF : RFD k F) (hxn : NOK n (ex N a b)) (haq : a < n * n) (hbq : b < n * n) (hZ : ∀ c, n * n ≤ c → Z c = nI 0) (hcap : cap (P tn + (-S 1)) = P tn - S 1) (hR : (rd + nI 1) < S 0) (hW : wof n N = 0 ∨ ¬ wof n (ex N a b) = 0) (hE : swE n Z P S tn (nI a) (nI b) = 0) : CT l yX6_swap wsX6_swap 5 115 D G [.ref mo, .int (nI a), .int (nI b)] [(mo, .inr (6, [.ref sa, .ref be, .int (nI kn), .ref ke, .int (zB ik), .ref te, .int (nI ty)])), (sa, .inl (G 0, 117, .inl (enc n N Z tn po rd al k S P V F))), (be, .inl (G 0, 468, .inl (bf B))), (ke, .inl (G 0, 117, .inl (enc nq Nq Zq tnq poq rdq alq kq Sq Pq Vq Fq))), (te, .inl (G 0, 60, .inl (ch t)))] [(mo, .inr (6, [.ref sa, .ref be, .int (nI (mn kn)), .ref ke, .int (zB ik), .ref te, .int (nI ty)])), (sa, .inl (G 0, 117, .inl (enc n (ex N a b) (tw Z 16) (nx tn) (swO (swS n N F (odR F) P S tn po k a b false) false) (swD rd false) (al + nI 1) (swK k false) S (swP (swS n N F (odR F) P S tn po k a b false) tn false) (swV V tn false) F))), (be, .inl (G 0, 468, .inl (bf (kB B kn (enc n N Z tn po rd al k S P V F))))), (ke, .inl (G 0, 117, .inl (enc nq Nq Zq tnq poq rdq alq kq Sq Pq Vq Fq))), (te, .inl (G 0, 60, .inl (ch t)))] (some (.int (nI (mcn n (ex N a b))))) := by
  refine CT.of (cc := cX6_swap) (maxL := 6) (ret := (some .int)) (by decide) rfl RX6 rfl (Nat.le_of_ble_eq_true rfl) (fun pp ee s mm bl me cc A ls hx hb hr hml hts hown hlk hnm hA hP hK hD hN hS hl => ?_)
  have hl : lv_has ls 6 [(0, .ref mo), (1, .int (nI a)), (2, .int (nI b))] := hl
  have hP : va_P D vwCl [(mo, .inr (6, [.ref sa, .ref be, .int (nI kn), .ref ke, .int (zB ik), .ref te, .int (nI ty)])), (sa, .inl (G 0, 117, .inl (enc n N Z tn po rd al k S P V F))), (be, .inl (G 0, 468, .inl (bf B))), (ke, .inl (G 0, 117, .inl (enc nq Nq Zq tnq poq rdq alq kq Sq Pq Vq Fq))), (te, .inl (G 0, 60, .inl (ch t)))] s.heap := hP
  have inX6 : ∀ w ∈ wsX60, w ∈ wsX6_swap := fun w h => List.mem_cons_of_mem _ (List.mem_append_right _ h)
  have k7 := hts (.fieldLink RX6 7 "SquareStakesModel" "s" "[I") (List.mem_of_getElem? (i := 1) rfl)
  have hq9 : n * n < 17 ∧ 0 < n * n := by rcases hn with rfl | rfl <;> decide
  refine lv_aload_n hx hb dX6_swap_0 rfl (lv_at hl 0 rfl) ?_
  refine lv_iload_n hx hb dX6_swap_1 rfl (lv_at hl 1 rfl) ?_
  refine cVr (As := [.int (nI a)]) (rest := []) ⟨hx, hb, hml, hown, hts⟩ hP hK hD hS hN hA (mX6_isCell l D G mo sa be ke te kn ty ik n tn k N Z S P V F po rd al (nI a) (by first | assumption | omega)) (cwV 1 hts gX6_swap_X6_isCell rfl rfl rfl (by decide +kernel) ⟨Nat.le_of_ble_eq_true rfl, Nat.le_of_ble_eq_true rfl⟩) [0, 1] rfl (by decide) 0 6 rfl rfl rfl hl.1 rfl (Nat.le_of_ble_eq_true rfl) dX6_swap_2 ⟨Nat.zero_le _, Nat.zero_le _⟩ (fun H locs hP hS => ?_)
  refine zEq (tgt := 16) hx hb dX6_swap_5 (by decide)  (fun c1 => absurd (c1) (by rw [inB_nI (by omega), decide_eq_true haq]; decide)) (fun c1 => ?_)
  refine lv_aload_n hx hb dX6_swap_8 rfl (lv_at hl 0 rfl) ?_
  refine lv_iload_n hx hb dX6_swap_9 rfl (lv_at hl 2 rfl) ?_
  refine cVr (As := [.int (nI b)]) (rest := []) ⟨hx, hb, hml, hown, hts⟩ hP hK hD hS hN hA (mX6_isCell l D G mo sa be ke te kn ty ik n tn k N Z S P V F po rd al (nI b) (by first | assumption | omega)) (cwV 1 hts gX6_swap_X6_isCell rfl rfl rfl (by decide +kernel) ⟨Nat.le_of_ble_eq_true rfl, Nat.le_of_ble_eq_true rfl⟩) [0, 1] rfl (by decide) 0 6 rfl rfl rfl hl.1 rfl (Nat.le_of_ble_eq_true rfl) dX6_swap_10 ⟨Nat.zero_le _, Nat.zero_le _⟩ (fun H locs hP hS => ?_)
  refine zNe (tgt := 18) hx hb dX6_swap_13 (by decide)  (fun c2 => ?_) (fun c2 => absurd (c2) (by rw [inB_nI (by omega), decide_eq_true hbq]; decide))
  refine lv_iload_n hx hb dX6_swap_18 rfl (lv_at hl 1 rfl) ?_
  refine lv_iload_n hx hb dX6_swap_19 rfl (lv_at hl 2 rfl) ?_
  refine bNe (tgt := 26) hx hb dX6_swap_20 (by decide) (by omega) (by omega) (fun c3 => ?_) (fun c3 => absurd (hE.symm.trans (by rw [swE_in haq hbq (by omega), if_pos c3])) (by decide))
  refine lv_aload_n hx hb dX6_swap_26 rfl (lv_at hl 0 rfl) ?_
  refine va_get (D := D) (ci := 6) (v := .ref sa) (C := RX6) (T := TX6) (N := 7) hx hb hts inX6 hown hK hP 0 rfl rfl 0 (by decide) k7 (fun _ h9 => h9) rfl dX6_swap_27 ?_
  refine lv_bipush (v := nI 31) hx hb dX6_swap_30 (by decide +kernel) ?_
  refine lv_iload_n hx hb dX6_swap_32 rfl (lv_at hl 1 rfl) ?_
  refine lv_iadd hx hb dX6_swap_33 ?_
  refine rTop (show nI 31 + nI a = nI (31 + a) from nI_add 31 a) ?_
  refine rIald hx hb hK hP 1 rfl (31 + a) (by omega) (by decide) dX6_swap_34 ?_
  refine rTop (enc_Z n N Z tn po rd al k S P V F a (by omega)) ?_
  refine lv_if_gt (tgt := 50) hx hb dX6_swap_35 (by decide)  (fun c4 => absurd (hE.symm.trans (by rw [swE_in haq hbq (by omega), if_neg (by omega), if_pos (Or.inl c4)])) (by decide)) (fun c4 => ?_)
  refine lv_aload_n hx hb dX6_swap_38 rfl (lv_at hl 0 rfl) ?_
  refine va_get (D := D) (ci := 6) (v := .ref sa) (C := RX6) (T := TX6) (N := 7) hx hb hts inX6 hown hK hP 0 rfl rfl 0 (by decide) k7 (fun _ h9 => h9) rfl dX6_swap_39 ?_
  refine lv_bipush (v := nI 31) hx hb dX6_swap_42 (by decide +kernel) ?_
  refine lv_iload_n hx hb dX6_swap_44 rfl (lv_at hl 2 rfl) ?_
  refine lv_iadd hx hb dX6_swap_45 ?_
  refine rTop (show nI 31 + nI b = nI (31 + b) from nI_add 31 b) ?_
  refine rIald hx hb hK hP 1 rfl (31 + b) (by omega) (by decide) dX6_swap_46 ?_
  refine rTop (enc_Z n N Z tn po rd al k S P V F b (by omega)) ?_
  refine lv_if_le (tgt := 53) hx hb dX6_swap_47 (by decide)  (fun c5 => ?_) (fun c5 => absurd (hE.symm.trans (by rw [swE_in haq hbq (by omega), if_neg (by omega), if_pos (Or.inr (Int32.not_le.mp c5))])) (by decide))
  refine lv_aload_n hx hb dX6_swap_53 rfl (lv_at hl 0 rfl) ?_
  refine va_get (D := D) (ci := 6) (v := .ref sa) (C := RX6) (T := TX6) (N := 7) hx hb hts inX6 hown hK hP 0 rfl rfl 0 (by decide) k7 (fun _ h9 => h9) rfl dX6_swap_54 ?_
  refine lv_iconst (v := nI 1) hx hb dX6_swap_57 (by decide +kernel) ?_
  refine rIald hx hb hK hP 1 rfl 1 (by omega) (by decide) dX6_swap_58 ?_
  refine rTop (show enc n N Z tn po rd al k S P V F 1 = nI tn from rfl) ?_
  refine lv_istore_n (lv' := [(3, .int (nI tn)), (0, .ref mo), (1, .int (nI a)), (2, .int (nI b))]) hx hb dX6_swap_59 rfl hl (by decide) rfl (fun ls hl => ?_)
  refine lv_aload_n hx hb dX6_swap_60 rfl (lv_at hl 1 rfl) ?_
  refine va_get (D := D) (ci := 6) (v := .ref sa) (C := RX6) (T := TX6) (N := 7) hx hb hts inX6 hown hK hP 0 rfl rfl 0 (by decide) k7 (fun _ h9 => h9) rfl dX6_swap_61 ?_
  refine lv_bipush (v := nI 9) hx hb dX6_swap_64 (by decide +kernel) ?_
  refine lv_iload_n hx hb dX6_swap_66 rfl (lv_at hl 0 rfl) ?_
  refine lv_iadd hx hb dX6_swap_67 ?_
  refine rTop (show nI 9 + nI tn = nI (9 + tn) from nI_add 9 tn) ?_
  refine rIald hx hb hK hP 1 rfl (9 + tn) (by omega) (by decide) dX6_swap_68 ?_
  refine rTop (enc_P n N Z tn po rd al k S P V F tn (by omega)) ?_
  refine lv_aload_n hx hb dX6_swap_69 rfl (lv_at hl 1 rfl) ?_
  refine va_get (D := D) (ci := 6) (v := .ref sa) (C := RX6) (T := TX6) (N := 7) hx hb hts inX6 hown hK hP 0 rfl rfl 0 (by decide) k7 (fun _ h9 => h9) rfl dX6_swap_70 ?_
  refine lv_bipush (v := nI 7) hx hb dX6_swap_73 (by decide +kernel) ?_
  refine rIald hx hb hK hP 1 rfl 7 (by omega) (by decide) dX6_swap_75 ?_
  refine rTop (show enc n N Z tn po rd al k S P V F 7 = S 1 from enc_S n N Z tn po rd al k S P V F 1 (by omega)) ?_
  refine lv_icmp_ge (tgt := 82) hx hb dX6_swap_76 (by decide)  (fun c6 => ?_) (fun c6 => absurd (hE.symm.trans (by rw [swE_in haq hbq (by omega), if_neg (by omega), if_neg (nle2 (by assumption) (by assumption)), if_pos (Int32.not_le.mp c6)])) (by decide))
  refine lv_aload_n hx hb dX6_swap_82 rfl (lv_at hl 1 rfl) ?_
  refine cV (As := []) (rest := []) ⟨hx, hb, hml, hown, hts⟩ hP hK hD hS hN hA (mX6_know l D G mo sa be ke te kn ty ik n tn k N Z S P V F po rd al B (by first | assumption | omega)) (cwV 0 hts gX6_swap_X6_know rfl rfl rfl (by decide +kernel) ⟨Nat.le_of_ble_eq_true rfl, Nat.le_of_ble_eq_true rfl⟩) [0, 1, 2] rfl (by decide) (Eq.trans (b := [mo, sa, be]) rfl rfl) 0 6 rfl rfl rfl hl.1 rfl (Nat.le_of_ble_eq_true rfl) dX6_swap_83 ⟨Nat.zero_le _, Nat.zero_le _⟩ (fun H locs hP hD hS => ?_)
  have hP : va_P D vwCl [(mo, .inr (6, [.ref sa, .ref be, .int (nI (mn kn)), .ref ke, .int (zB ik), .ref te, .int (nI ty)])), (sa, .inl (G 0, 117, .inl (enc n N Z tn po rd al k S P V F))), (be, .inl (G 0, 468, .inl (bf (kB B kn (enc n N Z tn po rd al k S P V F))))), (ke, .inl (G 0, 117, .inl (enc nq Nq Zq tnq poq rdq alq kq Sq Pq Vq Fq))), (te, .inl (G 0, 60, .inl (ch t)))] H := hP
  have hD : va_D A [(mo, .inr (6, [.ref sa, .ref be, .int (nI (mn kn)), .ref ke, .int (zB ik), .ref te, .int (nI ty)])), (sa, .inl (G 0, 117, .inl (enc n N Z tn po rd al k S P V F))), (be, .inl (G 0, 468, .inl (bf (kB B kn (enc n N Z tn po rd al k S P V F))))), (ke, .inl (G 0, 117, .inl (enc nq Nq Zq tnq poq rdq alq kq Sq Pq Vq Fq))), (te, .inl (G 0, 60, .inl (ch t)))] := hD
  refine lv_aload_n hx hb dX6_swap_86 rfl (lv_at hl 1 rfl) ?_
  refine lv_aload_n hx hb dX6_swap_87 rfl (lv_at hl 1 rfl) ?_
  refine va_get (D := D) (ci := 6) (v := .ref sa) (C := RX6) (T := TX6) (N := 7) hx hb hts inX6 hown hK hP 0 rfl rfl 0 (by decide) k7 (fun _ h9 => h9) rfl dX6_swap_88 ?_
  refine lv_bipush (v := nI 7) hx hb dX6_swap_91 (by decide +kernel) ?_
  refine rIald hx hb hK hP 1 rfl 7 (by omega) (by decide) dX6_swap_93 ?_
  refine rTop (show enc n N Z tn po rd al k S P V F 7 = S 1 from enc_S n N Z tn po rd al k S P V F 1 (by omega)) ?_
  refine cV (As := [.int (S 1)]) (rest := []) ⟨hx, hb, hml, hown, hts⟩ hP hK hD hS hN hA (mX6_spend l D G mo sa be ke te (mn kn) ty ik n tn k N Z S P V F po rd al (S 1) (by first | assumption | omega)) (cwV 1 hts gX6_swap_X6_spend rfl rfl rfl (by decide +kernel) ⟨Nat.le_of_ble_eq_true rfl, Nat.le_of_ble_eq_true rfl⟩) [0, 1] rfl (by decide) (Eq.trans (b := [mo, sa]) rfl rfl) 0 6 rfl rfl rfl hl.1 rfl (Nat.le_of_ble_eq_true rfl) dX6_swap_94 ⟨Nat.zero_le _, Nat.zero_le _⟩ (fun H locs hP hD hS => ?_)
  have hP : va_P D vwCl [(mo, .inr (6, [.ref sa, .ref be, .int (nI (mn kn)), .ref ke, .int (zB ik), .ref te, .int (nI ty)])), (sa, .inl (G 0, 117, .inl (enc n N Z tn (po + (S 1)) rd al k S (upd P tn (P tn - (S 1))) V F))), (be, .inl (G 0, 468, .inl (bf (kB B kn (enc n N Z tn po rd al k S P V F))))), (ke, .inl (G 0, 117, .inl (enc nq Nq Zq tnq poq rdq alq kq Sq Pq Vq Fq))), (te, .inl (G 0, 60, .inl (ch t)))] H := hP
  have hD : va_D A [(mo, .inr (6, [.ref sa, .ref be, .int (nI (mn kn)), .ref ke, .int (zB ik), .ref te, .int (nI ty)])), (sa, .inl (G 0, 117, .inl (enc n N Z tn (po + (S 1)) rd al k S (upd P tn (P tn - (S 1))) V F))), (be, .inl (G 0, 468, .inl (bf (kB B kn (enc n N Z tn po rd al k S P V F))))), (ke, .inl (G 0, 117, .inl (enc nq Nq Zq tnq poq rdq alq kq Sq Pq Vq Fq))), (te, .inl (G 0, 60, .inl (ch t)))] := hD
  obtain ⟨hP, hD⟩ := wI (g := enc n N Z tn (po + (S 1)) rd al k S (sw0 P S tn) V F) hP hD 1 rfl (fun j hj => by rw [sw0, hcap])
  replace hP : va_P D vwCl [(mo, .inr (6, [.ref sa, .ref be, .int (nI (mn kn)), .ref ke, .int (zB ik), .ref te, .int (nI ty)])), (sa, .inl (G 0, 117, .inl (enc n N Z tn (po + (S 1)) rd al k S (sw0 P S tn) V F))), (be, .inl (G 0, 468, .inl (bf (kB B kn (enc n N Z tn po rd al k S P V F))))), (ke, .inl (G 0, 117, .inl (enc nq Nq Zq tnq poq rdq alq kq Sq Pq Vq Fq))), (te, .inl (G 0, 60, .inl (ch t)))] _ := hP
  have hD : va_D A [(mo, .inr (6, [.ref sa, .ref be, .int (nI (mn kn)), .ref ke, .int (zB ik), .ref te, .int (nI ty)])), (sa, .inl (G 0, 117, .inl (enc n N Z tn (po + (S 1)) rd al k S (sw0 P S tn) V F))), (be, .inl (G 0, 468, .inl (bf (kB B kn (enc n N Z tn po rd al k S P V F))))), (ke, .inl (G 0, 117, .inl (enc nq Nq Zq tnq poq rdq alq kq Sq Pq Vq Fq))), (te, .inl (G 0, 60, .inl (ch t)))] := hD
  refine lv_aload_n hx hb dX6_swap_97 rfl (lv_at hl 1 rfl) ?_
  refine cVr (As := []) (rest := []) ⟨hx, hb, hml, hown, hts⟩ hP hK hD hS hN hA (mX6_wayOff l D G mo sa be ke te (mn kn) ty ik n tn k N Z S (sw0 P S tn) V F (po + (S 1)) rd al (by first | assumption | omega)) (cwV 0 hts gX6_swap_X6_wayOff rfl rfl rfl (by decide +kernel) ⟨Nat.le_of_ble_eq_true rfl, Nat.le_of_ble_eq_true rfl⟩) [0, 1] rfl (by decide) 0 6 rfl rfl rfl hl.1 rfl (Nat.le_of_ble_eq_true rfl) dX6_swap_98 ⟨Nat.zero_le _, Nat.zero_le _⟩ (fun H locs hP hS => ?_)
  refine lv_if_ne (tgt := 108) hx hb dX6_swap_101 (by decide)  (fun c7 => ?_) (fun c7 => ?_)
  · refine lv_iconst (v := nI 0) hx hb dX6_swap_108 (by decide +kernel) ?_
    refine lv_istore (lv' := [(4, .int (nI 0)), (3, .int (nI tn)), (0, .ref mo), (1, .int (nI a)), (2, .int (nI b))]) hx hb dX6_swap_109 hl (by decide) rfl (fun ls hl => ?_)
    refine lv_aload_n hx hb dX6_swap_111 rfl (lv_at hl 2 rfl) ?_
    refine lv_iload_n hx hb dX6_swap_112 rfl (lv_at hl 3 rfl) ?_
    refine lv_iload_n hx hb dX6_swap_113 rfl (lv_at hl 4 rfl) ?_
    refine cV (As := [.int (nI a), .int (nI b)]) (rest := []) ⟨hx, hb, hml, hown, hts⟩ hP hK hD hS hN hA (mX6_exchange l D G mo sa be ke te (mn kn) ty ik n tn k N Z S (sw0 P S tn) V F (po + (S 1)) rd al a b (by first | assumption | omega) (by first | assumption | omega)) (cwV 2 hts gX6_swap_X6_exchange rfl rfl rfl (by decide +kernel) ⟨Nat.le_of_ble_eq_true rfl, Nat.le_of_ble_eq_true rfl⟩) [0, 1] rfl (by decide) (Eq.trans (b := [mo, sa]) rfl rfl) 0 6 rfl rfl rfl hl.1 rfl (Nat.le_of_ble_eq_true rfl) dX6_swap_114 ⟨Nat.zero_le _, Nat.zero_le _⟩ (fun H locs hP hD hS => ?_)
    have hP : va_P D vwCl [(mo, .inr (6, [.ref sa, .ref be, .int (nI (mn kn)), .ref ke, .int (zB ik), .ref te, .int (nI ty)])), (sa, .inl (G 0, 117, .inl (enc n (ex N a b) Z tn (po + (S 1)) rd al k S (sw0 P S tn) V F))), (be, .inl (G 0, 468, .inl (bf (kB B kn (enc n N Z tn po rd al k S P V F))))), (ke, .inl (G 0, 117, .inl (enc nq Nq Zq tnq poq rdq alq kq Sq Pq Vq Fq))), (te, .inl (G 0, 60, .inl (ch t)))] H := hP
    have hD : va_D A [(mo, .inr (6, [.ref sa, .ref be, .int (nI (mn kn)), .ref ke, .int (zB ik), .ref te, .int (nI ty)])), (sa, .inl (G 0, 117, .inl (enc n (ex N a b) Z tn (po + (S 1)) rd al k S (sw0 P S tn) V F))), (be, .inl (G 0, 468, .inl (bf (kB B kn (enc n N Z tn po rd al k S P V F))))), (ke, .inl (G 0, 117, .inl (enc nq Nq Zq tnq poq rdq alq kq Sq Pq Vq Fq))), (te, .inl (G 0, 60, .inl (ch t)))] := hD
    refine lv_iconst (v := nI 0) hx hb dX6_swap_117 (by decide +kernel) ?_
    refine lv_istore (lv' := [(5, .int (nI 0)), (4, .int (nI 0)), (3, .int (nI tn)), (0, .ref mo), (1, .int (nI a)), (2, .int (nI b))]) hx hb dX6_swap_118 hl (by decide) rfl (fun ls hl => ?_)
    have LP120 : ∀ (nn120 c_ : Nat), c_ ≤ (n * n) → (n * n) < c_ + nn120  → ∀ (H : Heap) (locs : List Loc), va_P D vwCl [(mo, .inr (6, [.ref sa, .ref be, .int (nI (mn kn)), .ref ke, .int (zB ik), .ref te, .int (nI ty)])), (sa, .inl (G 0, 117, .inl (enc n (ex N a b) (tw Z c_) tn (po + (S 1)) rd al k S (sw0 P S tn) V F))), (be, .inl (G 0, 468, .inl (bf (kB B kn (enc n N Z tn po rd al k S P V F))))), (ke, .inl (G 0, 117, .inl (enc nq Nq Zq tnq poq rdq alq kq Sq Pq Vq Fq))), (te, .inl (G 0, 60, .inl (ch t)))] H → va_D A [(mo, .inr (6, [.ref sa, .ref be, .int (nI (mn kn)), .ref ke, .int (zB ik), .ref te, .int (nI ty)])), (sa, .inl (G 0, 117, .inl (enc n (ex N a b) (tw Z c_) tn (po + (S 1)) rd al k S (sw0 P S tn) V F))), (be, .inl (G 0, 468, .inl (bf (kB B kn (enc n N Z tn po rd al k S P V F))))), (ke, .inl (G 0, 117, .inl (enc nq Nq Zq tnq poq rdq alq kq Sq Pq Vq Fq))), (te, .inl (G 0, 60, .inl (ch t)))] → va_S A s.heap H locs → ∀ ls : Array Slot, lv_has ls 6 [(5, .int (nI c_)), (4, .int (nI 0)), (3, .int (nI tn)), (0, .ref mo), (1, .int (nI a)), (2, .int (nI b))] → W pp l ee (rmA 5 115) s mm ([.ref mo, .int (nI a), .int (nI b)] : List Value).toArray bl me cc H locs 0 0 (MQ bl (Qres (some (.int (nI (mcn n (ex N a b))))) D G [(mo, .inr (6, [.ref sa, .ref be, .int (nI (mn kn)), .ref ke, .int (zB ik), .ref te, .int (nI ty)])), (sa, .inl (G 0, 117, .inl (enc n (ex N a b) (tw Z 16) (nx tn) (swO (swS n N F (odR F) P S tn po k a b false) false) (swD rd false) (al + nI 1) (swK k false) S (swP (swS n N F (odR F) P S tn po k a b false) tn false) (swV V tn false) F))), (be, .inl (G 0, 468, .inl (bf (kB B kn (enc n N Z tn po rd al k S P V F))))), (ke, .inl (G 0, 117, .inl (enc nq Nq Zq tnq poq rdq alq kq Sq Pq Vq Fq))), (te, .inl (G 0, 60, .inl (ch t)))] A) ([.ref mo, .int (nI a), .int (nI b)] : List Value).toArray s 0 0 A) (F0 mm 120 ls []) := by
      intro nn120
      induction nn120 with
      | zero => intro c_ h1 h2; exact absurd h2 (by omega)
      | succ nn120 ih120 =>
        intro c_ hkc_ hnc_  H locs hP hD hS ls hl
        refine lv_iload hx hb dX6_swap_120 (lv_at hl 0 rfl) ?_
        refine lv_aload_n hx hb dX6_swap_122 rfl (lv_at hl 3 rfl) ?_
        refine cVr (As := []) (rest := [.int (nI c_)]) ⟨hx, hb, hml, hown, hts⟩ hP hK hD hS hN hA (mX6_cells l D G mo sa be ke te (mn kn) ty ik n tn k (ex N a b) (tw Z c_) S (sw0 P S tn) V F (po + (S 1)) rd al (by first | assumption | omega)) (cwV 0 hts gX6_swap_X6_cells rfl rfl rfl (by decide +kernel) ⟨Nat.le_of_ble_eq_true rfl, Nat.le_of_ble_eq_true rfl⟩) [0, 1] rfl (by decide) 0 6 rfl rfl rfl hl.1 rfl (Nat.le_of_ble_eq_true rfl) dX6_swap_123 ⟨Nat.zero_le _, Nat.zero_le _⟩ (fun H locs hP hS => ?_)
        refine bGe (tgt := 166) hx hb dX6_swap_126 (by decide) (by omega) (by omega) (fun c8 => ?_) (fun c8 => ?_)
        · obtain rfl : n * n = c_ := by omega
          obtain ⟨hP, hD⟩ := wI (g := enc n (ex N a b) (tw Z 16) tn (po + (S 1)) rd al k S (sw0 P S tn) V F) hP hD 1 rfl (fun j hj => enc_cZ (fun c hc => tw_16 (by omega) hZ) j hj)
          replace hP : va_P D vwCl [(mo, .inr (6, [.ref sa, .ref be, .int (nI (mn kn)), .ref ke, .int (zB ik), .ref te, .int (nI ty)])), (sa, .inl (G 0, 117, .inl (enc n (ex N a b) (tw Z 16) tn (po + (S 1)) rd al k S (sw0 P S tn) V F))), (be, .inl (G 0, 468, .inl (bf (kB B kn (enc n N Z tn po rd al k S P V F))))), (ke, .inl (G 0, 117, .inl (enc nq Nq Zq tnq poq rdq alq kq Sq Pq Vq Fq))), (te, .inl (G 0, 60, .inl (ch t)))] _ := hP
          have hD : va_D A [(mo, .inr (6, [.ref sa, .ref be, .int (nI (mn kn)), .ref ke, .int (zB ik), .ref te, .int (nI ty)])), (sa, .inl (G 0, 117, .inl (enc n (ex N a b) (tw Z 16) tn (po + (S 1)) rd al k S (sw0 P S tn) V F))), (be, .inl (G 0, 468, .inl (bf (kB B kn (enc n N Z tn po rd al k S P V F))))), (ke, .inl (G 0, 117, .inl (enc nq Nq Zq tnq poq rdq alq kq Sq Pq Vq Fq))), (te, .inl (G 0, 60, .inl (ch t)))] := hD
          refine lv_aload_n hx hb dX6_swap_166 rfl (lv_at hl 3 rfl) ?_
          refine va_get (D := D) (ci := 6) (v := .ref sa) (C := RX6) (T := TX6) (N := 7) hx hb hts inX6 hown hK hP 0 rfl rfl 0 (by decide) k7 (fun _ h9 => h9) rfl dX6_swap_167 ?_
          refine lv_iconst (v := nI 3) hx hb dX6_swap_170 (by decide +kernel) ?_
          refine lv_dup2_11 hx hb dX6_swap_171 rfl rfl ?_
          refine rIald hx hb hK hP 1 rfl 3 (by omega) (by decide) dX6_swap_172 ?_
          refine rTop (show enc n (ex N a b) (tw Z 16) tn (po + (S 1)) rd al k S (sw0 P S tn) V F 3 = rd from rfl) ?_
          refine lv_iconst (v := nI 1) hx hb dX6_swap_173 (by decide +kernel) ?_
          refine lv_iadd hx hb dX6_swap_174 ?_
          refine rIast hx hb hK hP hD hS 1 rfl 3 (by omega) (by decide) dX6_swap_175 (fun H locs hP hD hS => ?_)
          obtain ⟨hP, hD⟩ := wI (g := enc n (ex N a b) (tw Z 16) tn (po + (S 1)) (rd + nI 1) al k S (sw0 P S tn) V F) hP hD 1 rfl (enc_w3 n (ex N a b) (tw Z 16) tn (po + (S 1)) rd al k S (sw0 P S tn) V F (rd + nI 1))
          replace hP : va_P D vwCl [(mo, .inr (6, [.ref sa, .ref be, .int (nI (mn kn)), .ref ke, .int (zB ik), .ref te, .int (nI ty)])), (sa, .inl (G 0, 117, .inl (enc n (ex N a b) (tw Z 16) tn (po + (S 1)) (rd + nI 1) al k S (sw0 P S tn) V F))), (be, .inl (G 0, 468, .inl (bf (kB B kn (enc n N Z tn po rd al k S P V F))))), (ke, .inl (G 0, 117, .inl (enc nq Nq Zq tnq poq rdq alq kq Sq Pq Vq Fq))), (te, .inl (G 0, 60, .inl (ch t)))] _ := hP
          have hD : va_D A [(mo, .inr (6, [.ref sa, .ref be, .int (nI (mn kn)), .ref ke, .int (zB ik), .ref te, .int (nI ty)])), (sa, .inl (G 0, 117, .inl (enc n (ex N a b) (tw Z 16) tn (po + (S 1)) (rd + nI 1) al k S (sw0 P S tn) V F))), (be, .inl (G 0, 468, .inl (bf (kB B kn (enc n N Z tn po rd al k S P V F))))), (ke, .inl (G 0, 117, .inl (enc nq Nq Zq tnq poq rdq alq kq Sq Pq Vq Fq))), (te, .inl (G 0, 60, .inl (ch t)))] := hD
          refine lv_aload_n hx hb dX6_swap_176 rfl (lv_at hl 3 rfl) ?_
          refine va_get (D := D) (ci := 6) (v := .ref sa) (C := RX6) (T := TX6) (N := 7) hx hb hts inX6 hown hK hP 0 rfl rfl 0 (by decide) k7 (fun _ h9 => h9) rfl dX6_swap_177 ?_
          refine lv_iconst (v := nI 4) hx hb dX6_swap_180 (by decide +kernel) ?_
          refine lv_dup2_11 hx hb dX6_swap_181 rfl rfl ?_
          refine rIald hx hb hK hP 1 rfl 4 (by omega) (by decide) dX6_swap_182 ?_
          refine rTop (show enc n (ex N a b) (tw Z 16) tn (po + (S 1)) (rd + nI 1) al k S (sw0 P S tn) V F 4 = al from rfl) ?_
          refine lv_iconst (v := nI 1) hx hb dX6_swap_183 (by decide +kernel) ?_
          refine lv_iadd hx hb dX6_swap_184 ?_
          refine rIast hx hb hK hP hD hS 1 rfl 4 (by omega) (by decide) dX6_swap_185 (fun H locs hP hD hS => ?_)
          obtain ⟨hP, hD⟩ := wI (g := enc n (ex N a b) (tw Z 16) tn (po + (S 1)) (rd + nI 1) (al + nI 1) k S (sw0 P S tn) V F) hP hD 1 rfl (enc_w4 n (ex N a b) (tw Z 16) tn (po + (S 1)) (rd + nI 1) al k S (sw0 P S tn) V F (al + nI 1))
          replace hP : va_P D vwCl [(mo, .inr (6, [.ref sa, .ref be, .int (nI (mn kn)), .ref ke, .int (zB ik), .ref te, .int (nI ty)])), (sa, .inl (G 0, 117, .inl (enc n (ex N a b) (tw Z 16) tn (po + (S 1)) (rd + nI 1) (al + nI 1) k S (sw0 P S tn) V F))), (be, .inl (G 0, 468, .inl (bf (kB B kn (enc n N Z tn po rd al k S P V F))))), (ke, .inl (G 0, 117, .inl (enc nq Nq Zq tnq poq rdq alq kq Sq Pq Vq Fq))), (te, .inl (G 0, 60, .inl (ch t)))] _ := hP
          have hD : va_D A [(mo, .inr (6, [.ref sa, .ref be, .int (nI (mn kn)), .ref ke, .int (zB ik), .ref te, .int (nI ty)])), (sa, .inl (G 0, 117, .inl (enc n (ex N a b) (tw Z 16) tn (po + (S 1)) (rd + nI 1) (al + nI 1) k S (sw0 P S tn) V F))), (be, .inl (G 0, 468, .inl (bf (kB B kn (enc n N Z tn po rd al k S P V F))))), (ke, .inl (G 0, 117, .inl (enc nq Nq Zq tnq poq rdq alq kq Sq Pq Vq Fq))), (te, .inl (G 0, 60, .inl (ch t)))] := hD
          refine lv_aload_n hx hb dX6_swap_186 rfl (lv_at hl 3 rfl) ?_
          refine va_get (D := D) (ci := 6) (v := .ref sa) (C := RX6) (T := TX6) (N := 7) hx hb hts inX6 hown hK hP 0 rfl rfl 0 (by decide) k7 (fun _ h9 => h9) rfl dX6_swap_187 ?_
          refine lv_iconst (v := nI 3) hx hb dX6_swap_190 (by decide +kernel) ?_
          refine rIald hx hb hK hP 1 rfl 3 (by omega) (by decide) dX6_swap_191 ?_
          refine rTop (show enc n (ex N a b) (tw Z 16) tn (po + (S 1)) (rd + nI 1) (al + nI 1) k S (sw0 P S tn) V F 3 = (rd + nI 1) from rfl) ?_
          refine lv_aload_n hx hb dX6_swap_192 rfl (lv_at hl 3 rfl) ?_
          refine va_get (D := D) (ci := 6) (v := .ref sa) (C := RX6) (T := TX6) (N := 7) hx hb hts inX6 hown hK hP 0 rfl rfl 0 (by decide) k7 (fun _ h9 => h9) rfl dX6_swap_193 ?_
          refine lv_bipush (v := nI 6) hx hb dX6_swap_196 (by decide +kernel) ?_
          refine rIald hx hb hK hP 1 rfl 6 (by omega) (by decide) dX6_swap_198 ?_
          refine rTop (show enc n (ex N a b) (tw Z 16) tn (po + (S 1)) (rd + nI 1) (al + nI 1) k S (sw0 P S tn) V F 6 = S 0 from enc_S n (ex N a b) (tw Z 16) tn (po + (S 1)) (rd + nI 1) (al + nI 1) k S (sw0 P S tn) V F 0 (by omega)) ?_
          refine lv_icmp_lt (tgt := 213) hx hb dX6_swap_199 (by decide)  (fun c9 => ?_) (fun c9 => absurd hR c9)
          refine lv_iload hx hb dX6_swap_213 (lv_at hl 1 rfl) ?_
          refine iNe (tgt := 256) hx hb dX6_swap_215 (by decide) (by omega) (fun c10 => by exfalso; omega) (fun c10 => ?_)
          refine lv_aload_n hx hb dX6_swap_218 rfl (lv_at hl 3 rfl) ?_
          refine cVr (As := []) (rest := []) ⟨hx, hb, hml, hown, hts⟩ hP hK hD hS hN hA (mX6_wayOff l D G mo sa be ke te (mn kn) ty ik n tn k (ex N a b) (tw Z 16) S (sw0 P S tn) V F (po + (S 1)) (rd + nI 1) (al + nI 1) (by first | assumption | omega)) (cwV 0 hts gX6_swap_X6_wayOff rfl rfl rfl (by decide +kernel) ⟨Nat.le_of_ble_eq_true rfl, Nat.le_of_ble_eq_true rfl⟩) [0, 1] rfl (by decide) 0 6 rfl rfl rfl hl.1 rfl (Nat.le_of_ble_eq_true rfl) dX6_swap_219 ⟨Nat.zero_le _, Nat.zero_le _⟩ (fun H locs hP hS => ?_)
          refine lv_if_ne (tgt := 256) hx hb dX6_swap_222 (by decide)  (fun c11 => ?_) (fun c11 => False.elim (hW.elim (fun z => absurd z (by assumption)) (fun z => absurd c11 z)))
          refine lv_aload_n hx hb dX6_swap_256 rfl (lv_at hl 3 rfl) ?_
          refine cV (As := []) (rest := []) ⟨hx, hb, hml, hown, hts⟩ hP hK hD hS hN hA (mX6_nextTurn l D G mo sa be ke te (mn kn) ty ik n tn k (ex N a b) (tw Z 16) S (sw0 P S tn) V F (po + (S 1)) (rd + nI 1) (al + nI 1) (by first | assumption | omega)) (cwV 0 hts gX6_swap_X6_nextTurn rfl rfl rfl (by decide +kernel) ⟨Nat.le_of_ble_eq_true rfl, Nat.le_of_ble_eq_true rfl⟩) [0, 1] rfl (by decide) (Eq.trans (b := [mo, sa]) rfl rfl) 0 6 rfl rfl rfl hl.1 rfl (Nat.le_of_ble_eq_true rfl) dX6_swap_257 ⟨Nat.zero_le _, Nat.zero_le _⟩ (fun H locs hP hD hS => ?_)
          have hP : va_P D vwCl [(mo, .inr (6, [.ref sa, .ref be, .int (nI (mn kn)), .ref ke, .int (zB ik), .ref te, .int (nI ty)])), (sa, .inl (G 0, 117, .inl (enc n (ex N a b) (tw Z 16) (nx tn) (po + (S 1)) (rd + nI 1) (al + nI 1) k S (sw0 P S tn) V F))), (be, .inl (G 0, 468, .inl (bf (kB B kn (enc n N Z tn po rd al k S P V F))))), (ke, .inl (G 0, 117, .inl (enc nq Nq Zq tnq poq rdq alq kq Sq Pq Vq Fq))), (te, .inl (G 0, 60, .inl (ch t)))] H := hP
          have hD : va_D A [(mo, .inr (6, [.ref sa, .ref be, .int (nI (mn kn)), .ref ke, .int (zB ik), .ref te, .int (nI ty)])), (sa, .inl (G 0, 117, .inl (enc n (ex N a b) (tw Z 16) (nx tn) (po + (S 1)) (rd + nI 1) (al + nI 1) k S (sw0 P S tn) V F))), (be, .inl (G 0, 468, .inl (bf (kB B kn (enc n N Z tn po rd al k S P V F))))), (ke, .inl (G 0, 117, .inl (enc nq Nq Zq tnq poq rdq alq kq Sq Pq Vq Fq))), (te, .inl (G 0, 60, .inl (ch t)))] := hD
          refine lv_aload_n hx hb dX6_swap_260 rfl (lv_at hl 3 rfl) ?_
          refine cVr (As := []) (rest := []) ⟨hx, hb, hml, hown, hts⟩ hP hK hD hS hN hA (mX6_magicLines l D G mo sa be ke te (mn kn) ty ik n (nx tn) k (ex N a b) (tw Z 16) S (sw0 P S tn) V F (po + (S 1)) (rd + nI 1) (al + nI 1) (by first | assumption | omega)) (cwV 0 hts gX6_swap_X6_magicLines rfl rfl rfl (by decide +kernel) ⟨Nat.le_of_ble_eq_true rfl, Nat.le_of_ble_eq_true rfl⟩) [0, 1] rfl (by decide) 0 6 rfl rfl rfl hl.1 rfl (Nat.le_of_ble_eq_true rfl) dX6_swap_261 ⟨Nat.zero_le _, Nat.zero_le _⟩ (fun H locs hP hS => ?_)
          obtain ⟨hP, hD⟩ := wI (g := enc n (ex N a b) (tw Z 16) (nx tn) (swO (swS n N F (odR F) P S tn po k a b false) false) (swD rd false) (al + nI 1) (swK k false) S (swP (swS n N F (odR F) P S tn po k a b false) tn false) (swV V tn false) F) hP hD 1 rfl (fun j hj => by simp only [swP, swS, swV, swO, swK, swD])
          replace hP : va_P D vwCl [(mo, .inr (6, [.ref sa, .ref be, .int (nI (mn kn)), .ref ke, .int (zB ik), .ref te, .int (nI ty)])), (sa, .inl (G 0, 117, .inl (enc n (ex N a b) (tw Z 16) (nx tn) (swO (swS n N F (odR F) P S tn po k a b false) false) (swD rd false) (al + nI 1) (swK k false) S (swP (swS n N F (odR F) P S tn po k a b false) tn false) (swV V tn false) F))), (be, .inl (G 0, 468, .inl (bf (kB B kn (enc n N Z tn po rd al k S P V F))))), (ke, .inl (G 0, 117, .inl (enc nq Nq Zq tnq poq rdq alq kq Sq Pq Vq Fq))), (te, .inl (G 0, 60, .inl (ch t)))] _ := hP
          have hD : va_D A [(mo, .inr (6, [.ref sa, .ref be, .int (nI (mn kn)), .ref ke, .int (zB ik), .ref te, .int (nI ty)])), (sa, .inl (G 0, 117, .inl (enc n (ex N a b) (tw Z 16) (nx tn) (swO (swS n N F (odR F) P S tn po k a b false) false) (swD rd false) (al + nI 1) (swK k false) S (swP (swS n N F (odR F) P S tn po k a b false) tn false) (swV V tn false) F))), (be, .inl (G 0, 468, .inl (bf (kB B kn (enc n N Z tn po rd al k S P V F))))), (ke, .inl (G 0, 117, .inl (enc nq Nq Zq tnq poq rdq alq kq Sq Pq Vq Fq))), (te, .inl (G 0, 60, .inl (ch t)))] := hD
          exact rIret hx hb hr hlk hP hK hD hS dX6_swap_264
        · refine lv_aload_n hx hb dX6_swap_129 rfl (lv_at hl 3 rfl) ?_
          refine va_get (D := D) (ci := 6) (v := .ref sa) (C := RX6) (T := TX6) (N := 7) hx hb hts inX6 hown hK hP 0 rfl rfl 0 (by decide) k7 (fun _ h9 => h9) rfl dX6_swap_130 ?_
          refine lv_bipush (v := nI 31) hx hb dX6_swap_133 (by decide +kernel) ?_
          refine lv_iload hx hb dX6_swap_135 (lv_at hl 0 rfl) ?_
          refine lv_iadd hx hb dX6_swap_137 ?_
          refine rTop (show nI 31 + nI c_ = nI (31 + c_) from nI_add 31 c_) ?_
          refine lv_dup2_11 hx hb dX6_swap_138 rfl rfl ?_
          refine rIald hx hb hK hP 1 rfl (31 + c_) (by omega) (by decide) dX6_swap_139 ?_
          refine rTop (enc_Z n (ex N a b) (tw Z c_) tn (po + (S 1)) rd al k S (sw0 P S tn) V F c_ (by omega)) ?_
          refine lv_aload_n hx hb dX6_swap_140 rfl (lv_at hl 3 rfl) ?_
          refine va_get (D := D) (ci := 6) (v := .ref sa) (C := RX6) (T := TX6) (N := 7) hx hb hts inX6 hown hK hP 0 rfl rfl 0 (by decide) k7 (fun _ h9 => h9) rfl dX6_swap_141 ?_
          refine lv_bipush (v := nI 31) hx hb dX6_swap_144 (by decide +kernel) ?_
          refine lv_iload hx hb dX6_swap_146 (lv_at hl 0 rfl) ?_
          refine lv_iadd hx hb dX6_swap_148 ?_
          refine rTop (show nI 31 + nI c_ = nI (31 + c_) from nI_add 31 c_) ?_
          refine rIald hx hb hK hP 1 rfl (31 + c_) (by omega) (by decide) dX6_swap_149 ?_
          refine rTop (enc_Z n (ex N a b) (tw Z c_) tn (po + (S 1)) rd al k S (sw0 P S tn) V F c_ (by omega)) ?_
          refine lv_if_le (tgt := 157) hx hb dX6_swap_150 (by decide)  (fun c12 => ?_) (fun c12 => ?_)
          · refine lv_iconst (v := nI 0) hx hb dX6_swap_157 (by decide +kernel) ?_
            refine lv_isub hx hb dX6_swap_158 ?_
            refine rIast hx hb hK hP hD hS 1 rfl (31 + c_) (by omega) (by decide) dX6_swap_159 (fun H locs hP hD hS => ?_)
            obtain ⟨hP, hD⟩ := wI (g := enc n (ex N a b) (upd (tw Z c_) c_ ((tw Z c_) c_ - nI 0)) tn (po + (S 1)) rd al k S (sw0 P S tn) V F) hP hD 1 rfl (enc_wZ n (ex N a b) (tw Z c_) tn (po + (S 1)) rd al k S (sw0 P S tn) V F c_ (by omega) ((tw Z c_) c_ - nI 0))
            replace hP : va_P D vwCl [(mo, .inr (6, [.ref sa, .ref be, .int (nI (mn kn)), .ref ke, .int (zB ik), .ref te, .int (nI ty)])), (sa, .inl (G 0, 117, .inl (enc n (ex N a b) (upd (tw Z c_) c_ ((tw Z c_) c_ - nI 0)) tn (po + (S 1)) rd al k S (sw0 P S tn) V F))), (be, .inl (G 0, 468, .inl (bf (kB B kn (enc n N Z tn po rd al k S P V F))))), (ke, .inl (G 0, 117, .inl (enc nq Nq Zq tnq poq rdq alq kq Sq Pq Vq Fq))), (te, .inl (G 0, 60, .inl (ch t)))] _ := hP
            have hD : va_D A [(mo, .inr (6, [.ref sa, .ref be, .int (nI (mn kn)), .ref ke, .int (zB ik), .ref te, .int (nI ty)])), (sa, .inl (G 0, 117, .inl (enc n (ex N a b) (upd (tw Z c_) c_ ((tw Z c_) c_ - nI 0)) tn (po + (S 1)) rd al k S (sw0 P S tn) V F))), (be, .inl (G 0, 468, .inl (bf (kB B kn (enc n N Z tn po rd al k S P V F))))), (ke, .inl (G 0, 117, .inl (enc nq Nq Zq tnq poq rdq alq kq Sq Pq Vq Fq))), (te, .inl (G 0, 60, .inl (ch t)))] := hD
            refine lv_iinc (v := nI (c_ + 1)) (lv' := [(5, .int (nI (c_ + 1))), (4, .int (nI 0)), (3, .int (nI tn)), (0, .ref mo), (1, .int (nI a)), (2, .int (nI b))]) hx hb dX6_swap_160 hl (k := 0) rfl (nI_inc c_) (by decide) rfl (fun ls hl => ?_)
            refine lv_goto (tgt := 120) hx hb dX6_swap_163 (by decide) ?_
            obtain ⟨hP, hD⟩ := wI (g := enc n (ex N a b) (tw Z (c_ + 1)) tn (po + (S 1)) rd al k S (sw0 P S tn) V F) hP hD 1 rfl (fun j hj => congrFun (congrArg (fun NN => enc n (ex N a b) NN tn (po + (S 1)) rd al k S (sw0 P S tn) V F) (show upd (tw Z c_) c_ ((tw Z c_) c_ - nI 0) = tw Z (c_ + 1) from by first | exact tw_ra (by assumption) | exact tw_rb (by assumption))) j)
            replace hP : va_P D vwCl [(mo, .inr (6, [.ref sa, .ref be, .int (nI (mn kn)), .ref ke, .int (zB ik), .ref te, .int (nI ty)])), (sa, .inl (G 0, 117, .inl (enc n (ex N a b) (tw Z (c_ + 1)) tn (po + (S 1)) rd al k S (sw0 P S tn) V F))), (be, .inl (G 0, 468, .inl (bf (kB B kn (enc n N Z tn po rd al k S P V F))))), (ke, .inl (G 0, 117, .inl (enc nq Nq Zq tnq poq rdq alq kq Sq Pq Vq Fq))), (te, .inl (G 0, 60, .inl (ch t)))] _ := hP
            have hD : va_D A [(mo, .inr (6, [.ref sa, .ref be, .int (nI (mn kn)), .ref ke, .int (zB ik), .ref te, .int (nI ty)])), (sa, .inl (G 0, 117, .inl (enc n (ex N a b) (tw Z (c_ + 1)) tn (po + (S 1)) rd al k S (sw0 P S tn) V F))), (be, .inl (G 0, 468, .inl (bf (kB B kn (enc n N Z tn po rd al k S P V F))))), (ke, .inl (G 0, 117, .inl (enc nq Nq Zq tnq poq rdq alq kq Sq Pq Vq Fq))), (te, .inl (G 0, 60, .inl (ch t)))] := hD
            exact ih120 (c_ + 1) (by omega) (by omega)  _ _ hP hD hS _ (lv_sub hl [0, 1, 2, 3, 4, 5] rfl)
          · refine lv_iconst (v := nI 1) hx hb dX6_swap_153 (by decide +kernel) ?_
            refine lv_goto (tgt := 158) hx hb dX6_swap_154 (by decide) ?_
            refine lv_isub hx hb dX6_swap_158 ?_
            refine rIast hx hb hK hP hD hS 1 rfl (31 + c_) (by omega) (by decide) dX6_swap_159 (fun H locs hP hD hS => ?_)
            obtain ⟨hP, hD⟩ := wI (g := enc n (ex N a b) (upd (tw Z c_) c_ ((tw Z c_) c_ - nI 1)) tn (po + (S 1)) rd al k S (sw0 P S tn) V F) hP hD 1 rfl (enc_wZ n (ex N a b) (tw Z c_) tn (po + (S 1)) rd al k S (sw0 P S tn) V F c_ (by omega) ((tw Z c_) c_ - nI 1))
            replace hP : va_P D vwCl [(mo, .inr (6, [.ref sa, .ref be, .int (nI (mn kn)), .ref ke, .int (zB ik), .ref te, .int (nI ty)])), (sa, .inl (G 0, 117, .inl (enc n (ex N a b) (upd (tw Z c_) c_ ((tw Z c_) c_ - nI 1)) tn (po + (S 1)) rd al k S (sw0 P S tn) V F))), (be, .inl (G 0, 468, .inl (bf (kB B kn (enc n N Z tn po rd al k S P V F))))), (ke, .inl (G 0, 117, .inl (enc nq Nq Zq tnq poq rdq alq kq Sq Pq Vq Fq))), (te, .inl (G 0, 60, .inl (ch t)))] _ := hP
            have hD : va_D A [(mo, .inr (6, [.ref sa, .ref be, .int (nI (mn kn)), .ref ke, .int (zB ik), .ref te, .int (nI ty)])), (sa, .inl (G 0, 117, .inl (enc n (ex N a b) (upd (tw Z c_) c_ ((tw Z c_) c_ - nI 1)) tn (po + (S 1)) rd al k S (sw0 P S tn) V F))), (be, .inl (G 0, 468, .inl (bf (kB B kn (enc n N Z tn po rd al k S P V F))))), (ke, .inl (G 0, 117, .inl (enc nq Nq Zq tnq poq rdq alq kq Sq Pq Vq Fq))), (te, .inl (G 0, 60, .inl (ch t)))] := hD
            refine lv_iinc (v := nI (c_ + 1)) (lv' := [(5, .int (nI (c_ + 1))), (4, .int (nI 0)), (3, .int (nI tn)), (0, .ref mo), (1, .int (nI a)), (2, .int (nI b))]) hx hb dX6_swap_160 hl (k := 0) rfl (nI_inc c_) (by decide) rfl (fun ls hl => ?_)
            refine lv_goto (tgt := 120) hx hb dX6_swap_163 (by decide) ?_
            obtain ⟨hP, hD⟩ := wI (g := enc n (ex N a b) (tw Z (c_ + 1)) tn (po + (S 1)) rd al k S (sw0 P S tn) V F) hP hD 1 rfl (fun j hj => congrFun (congrArg (fun NN => enc n (ex N a b) NN tn (po + (S 1)) rd al k S (sw0 P S tn) V F) (show upd (tw Z c_) c_ ((tw Z c_) c_ - nI 1) = tw Z (c_ + 1) from by first | exact tw_ra (by assumption) | exact tw_rb (by assumption))) j)
            replace hP : va_P D vwCl [(mo, .inr (6, [.ref sa, .ref be, .int (nI (mn kn)), .ref ke, .int (zB ik), .ref te, .int (nI ty)])), (sa, .inl (G 0, 117, .inl (enc n (ex N a b) (tw Z (c_ + 1)) tn (po + (S 1)) rd al k S (sw0 P S tn) V F))), (be, .inl (G 0, 468, .inl (bf (kB B kn (enc n N Z tn po rd al k S P V F))))), (ke, .inl (G 0, 117, .inl (enc nq Nq Zq tnq poq rdq alq kq Sq Pq Vq Fq))), (te, .inl (G 0, 60, .inl (ch t)))] _ := hP
            have hD : va_D A [(mo, .inr (6, [.ref sa, .ref be, .int (nI (mn kn)), .ref ke, .int (zB ik), .ref te, .int (nI ty)])), (sa, .inl (G 0, 117, .inl (enc n (ex N a b) (tw Z (c_ + 1)) tn (po + (S 1)) rd al k S (sw0 P S tn) V F))), (be, .inl (G 0, 468, .inl (bf (kB B kn (enc n N Z tn po rd al k S P V F))))), (ke, .inl (G 0, 117, .inl (enc nq Nq Zq tnq poq rdq alq kq Sq Pq Vq Fq))), (te, .inl (G 0, 60, .inl (ch t)))] := hD
            exact ih120 (c_ + 1) (by omega) (by omega)  _ _ hP hD hS _ (lv_sub hl [0, 1, 2, 3, 4, 5] rfl)
    obtain ⟨hP, hD⟩ := wI (g := enc n (ex N a b) (tw Z 0) tn (po + (S 1)) rd al k S (sw0 P S tn) V F) hP hD 1 rfl (fun j hj => by rw [tw_0])
    replace hP : va_P D vwCl [(mo, .inr (6, [.ref sa, .ref be, .int (nI (mn kn)), .ref ke, .int (zB ik), .ref te, .int (nI ty)])), (sa, .inl (G 0, 117, .inl (enc n (ex N a b) (tw Z 0) tn (po + (S 1)) rd al k S (sw0 P S tn) V F))), (be, .inl (G 0, 468, .inl (bf (kB B kn (enc n N Z tn po rd al k S P V F))))), (ke, .inl (G 0, 117, .inl (enc nq Nq Zq tnq poq rdq alq kq Sq Pq Vq Fq))), (te, .inl (G 0, 60, .inl (ch t)))] _ := hP
    have hD : va_D A [(mo, .inr (6, [.ref sa, .ref be, .int (nI (mn kn)), .ref ke, .int (zB ik), .ref te, .int (nI ty)])), (sa, .inl (G 0, 117, .inl (enc n (ex N a b) (tw Z 0) tn (po + (S 1)) rd al k S (sw0 P S tn) V F))), (be, .inl (G 0, 468, .inl (bf (kB B kn (enc n N Z tn po rd al k S P V F))))), (ke, .inl (G 0, 117, .inl (enc nq Nq Zq tnq poq rdq alq kq Sq Pq Vq Fq))), (te, .inl (G 0, 60, .inl (ch t)))] := hD
    exact LP120 (n * n + 1 - 0) 0 (by omega) (by omega)  _ _ hP hD hS _ (lv_sub hl [0, 1, 2, 3, 4, 5] rfl)
  · refine lv_iconst (v := nI 1) hx hb dX6_swap_104 (by decide +kernel) ?_
    refine lv_goto (tgt := 109) hx hb dX6_swap_105 (by decide) ?_
    refine lv_istore (lv' := [(4, .int (nI 1)), (3, .int (nI tn)), (0, .ref mo), (1, .int (nI a)), (2, .int (nI b))]) hx hb dX6_swap_109 hl (by decide) rfl (fun ls hl => ?_)
    refine lv_aload_n hx hb dX6_swap_111 rfl (lv_at hl 2 rfl) ?_
    refine lv_iload_n hx hb dX6_swap_112 rfl (lv_at hl 3 rfl) ?_
    refine lv_iload_n hx hb dX6_swap_113 rfl (lv_at hl 4 rfl) ?_
    refine cV (As := [.int (nI a), .int (nI b)]) (rest := []) ⟨hx, hb, hml, hown, hts⟩ hP hK hD hS hN hA (mX6_exchange l D G mo sa be ke te (mn kn) ty ik n tn k N Z S (sw0 P S tn) V F (po + (S 1)) rd al a b (by first | assumption | omega) (by first | assumption | omega)) (cwV 2 hts gX6_swap_X6_exchange rfl rfl rfl (by decide +kernel) ⟨Nat.le_of_ble_eq_true rfl, Nat.le_of_ble_eq_true rfl⟩) [0, 1] rfl (by decide) (Eq.trans (b := [mo, sa]) rfl rfl) 0 6 rfl rfl rfl hl.1 rfl (Nat.le_of_ble_eq_true rfl) dX6_swap_114 ⟨Nat.zero_le _, Nat.zero_le _⟩ (fun H locs hP hD hS => ?_)
    have hP : va_P D vwCl [(mo, .inr (6, [.ref sa, .ref be, .int (nI (mn kn)), .ref ke, .int (zB ik), .ref te, .int (nI ty)])), (sa, .inl (G 0, 117, .inl (enc n (ex N a b) Z tn (po + (S 1)) rd al k S (sw0 P S tn) V F))), (be, .inl (G 0, 468, .inl (bf (kB B kn (enc n N Z tn po rd al k S P V F))))), (ke, .inl (G 0, 117, .inl (enc nq Nq Zq tnq poq rdq alq kq Sq Pq Vq Fq))), (te, .inl (G 0, 60, .inl (ch t)))] H := hP
    have hD : va_D A [(mo, .inr (6, [.ref sa, .ref be, .int (nI (mn kn)), .ref ke, .int (zB ik), .ref te, .int (nI ty)])), (sa, .inl (G 0, 117, .inl (enc n (ex N a b) Z tn (po + (S 1)) rd al k S (sw0 P S tn) V F))), (be, .inl (G 0, 468, .inl (bf (kB B kn (enc n N Z tn po rd al k S P V F))))), (ke, .inl (G 0, 117, .inl (enc nq Nq Zq tnq poq rdq alq kq Sq Pq Vq Fq))), (te, .inl (G 0, 60, .inl (ch t)))] := hD
    refine lv_iconst (v := nI 0) hx hb dX6_swap_117 (by decide +kernel) ?_
    refine lv_istore (lv' := [(5, .int (nI 0)), (4, .int (nI 1)), (3, .int (nI tn)), (0, .ref mo), (1, .int (nI a)), (2, .int (nI b))]) hx hb dX6_swap_118 hl (by decide) rfl (fun ls hl => ?_)
    have LP120 : ∀ (nn120 c_ : Nat), c_ ≤ (n * n) → (n * n) < c_ + nn120  → ∀ (H : Heap) (locs : List Loc), va_P D vwCl [(mo, .inr (6, [.ref sa, .ref be, .int (nI (mn kn)), .ref ke, .int (zB ik), .ref te, .int (nI ty)])), (sa, .inl (G 0, 117, .inl (enc n (ex N a b) (tw Z c_) tn (po + (S 1)) rd al k S (sw0 P S tn) V F))), (be, .inl (G 0, 468, .inl (bf (kB B kn (enc n N Z tn po rd al k S P V F))))), (ke, .inl (G 0, 117, .inl (enc nq Nq Zq tnq poq rdq alq kq Sq Pq Vq Fq))), (te, .inl (G 0, 60, .inl (ch t)))] H → va_D A [(mo, .inr (6, [.ref sa, .ref be, .int (nI (mn kn)), .ref ke, .int (zB ik), .ref te, .int (nI ty)])), (sa, .inl (G 0, 117, .inl (enc n (ex N a b) (tw Z c_) tn (po + (S 1)) rd al k S (sw0 P S tn) V F))), (be, .inl (G 0, 468, .inl (bf (kB B kn (enc n N Z tn po rd al k S P V F))))), (ke, .inl (G 0, 117, .inl (enc nq Nq Zq tnq poq rdq alq kq Sq Pq Vq Fq))), (te, .inl (G 0, 60, .inl (ch t)))] → va_S A s.heap H locs → ∀ ls : Array Slot, lv_has ls 6 [(5, .int (nI c_)), (4, .int (nI 1)), (3, .int (nI tn)), (0, .ref mo), (1, .int (nI a)), (2, .int (nI b))] → W pp l ee (rmA 5 115) s mm ([.ref mo, .int (nI a), .int (nI b)] : List Value).toArray bl me cc H locs 0 0 (MQ bl (Qres (some (.int (nI (mcn n (ex N a b))))) D G [(mo, .inr (6, [.ref sa, .ref be, .int (nI (mn kn)), .ref ke, .int (zB ik), .ref te, .int (nI ty)])), (sa, .inl (G 0, 117, .inl (enc n (ex N a b) (tw Z 16) (nx tn) (swO (swS n N F (odR F) P S tn po k a b false) false) (swD rd false) (al + nI 1) (swK k false) S (swP (swS n N F (odR F) P S tn po k a b false) tn false) (swV V tn false) F))), (be, .inl (G 0, 468, .inl (bf (kB B kn (enc n N Z tn po rd al k S P V F))))), (ke, .inl (G 0, 117, .inl (enc nq Nq Zq tnq poq rdq alq kq Sq Pq Vq Fq))), (te, .inl (G 0, 60, .inl (ch t)))] A) ([.ref mo, .int (nI a), .int (nI b)] : List Value).toArray s 0 0 A) (F0 mm 120 ls []) := by
      intro nn120
      induction nn120 with
      | zero => intro c_ h1 h2; exact absurd h2 (by omega)
      | succ nn120 ih120 =>
        intro c_ hkc_ hnc_  H locs hP hD hS ls hl
        refine lv_iload hx hb dX6_swap_120 (lv_at hl 0 rfl) ?_
        refine lv_aload_n hx hb dX6_swap_122 rfl (lv_at hl 3 rfl) ?_
        refine cVr (As := []) (rest := [.int (nI c_)]) ⟨hx, hb, hml, hown, hts⟩ hP hK hD hS hN hA (mX6_cells l D G mo sa be ke te (mn kn) ty ik n tn k (ex N a b) (tw Z c_) S (sw0 P S tn) V F (po + (S 1)) rd al (by first | assumption | omega)) (cwV 0 hts gX6_swap_X6_cells rfl rfl rfl (by decide +kernel) ⟨Nat.le_of_ble_eq_true rfl, Nat.le_of_ble_eq_true rfl⟩) [0, 1] rfl (by decide) 0 6 rfl rfl rfl hl.1 rfl (Nat.le_of_ble_eq_true rfl) dX6_swap_123 ⟨Nat.zero_le _, Nat.zero_le _⟩ (fun H locs hP hS => ?_)
        refine bGe (tgt := 166) hx hb dX6_swap_126 (by decide) (by omega) (by omega) (fun c13 => ?_) (fun c13 => ?_)
        · obtain rfl : n * n = c_ := by omega
          obtain ⟨hP, hD⟩ := wI (g := enc n (ex N a b) (tw Z 16) tn (po + (S 1)) rd al k S (sw0 P S tn) V F) hP hD 1 rfl (fun j hj => enc_cZ (fun c hc => tw_16 (by omega) hZ) j hj)
          replace hP : va_P D vwCl [(mo, .inr (6, [.ref sa, .ref be, .int (nI (mn kn)), .ref ke, .int (zB ik), .ref te, .int (nI ty)])), (sa, .inl (G 0, 117, .inl (enc n (ex N a b) (tw Z 16) tn (po + (S 1)) rd al k S (sw0 P S tn) V F))), (be, .inl (G 0, 468, .inl (bf (kB B kn (enc n N Z tn po rd al k S P V F))))), (ke, .inl (G 0, 117, .inl (enc nq Nq Zq tnq poq rdq alq kq Sq Pq Vq Fq))), (te, .inl (G 0, 60, .inl (ch t)))] _ := hP
          have hD : va_D A [(mo, .inr (6, [.ref sa, .ref be, .int (nI (mn kn)), .ref ke, .int (zB ik), .ref te, .int (nI ty)])), (sa, .inl (G 0, 117, .inl (enc n (ex N a b) (tw Z 16) tn (po + (S 1)) rd al k S (sw0 P S tn) V F))), (be, .inl (G 0, 468, .inl (bf (kB B kn (enc n N Z tn po rd al k S P V F))))), (ke, .inl (G 0, 117, .inl (enc nq Nq Zq tnq poq rdq alq kq Sq Pq Vq Fq))), (te, .inl (G 0, 60, .inl (ch t)))] := hD
          refine lv_aload_n hx hb dX6_swap_166 rfl (lv_at hl 3 rfl) ?_
          refine va_get (D := D) (ci := 6) (v := .ref sa) (C := RX6) (T := TX6) (N := 7) hx hb hts inX6 hown hK hP 0 rfl rfl 0 (by decide) k7 (fun _ h9 => h9) rfl dX6_swap_167 ?_
          refine lv_iconst (v := nI 3) hx hb dX6_swap_170 (by decide +kernel) ?_
          refine lv_dup2_11 hx hb dX6_swap_171 rfl rfl ?_
          refine rIald hx hb hK hP 1 rfl 3 (by omega) (by decide) dX6_swap_172 ?_
          refine rTop (show enc n (ex N a b) (tw Z 16) tn (po + (S 1)) rd al k S (sw0 P S tn) V F 3 = rd from rfl) ?_
          refine lv_iconst (v := nI 1) hx hb dX6_swap_173 (by decide +kernel) ?_
          refine lv_iadd hx hb dX6_swap_174 ?_
          refine rIast hx hb hK hP hD hS 1 rfl 3 (by omega) (by decide) dX6_swap_175 (fun H locs hP hD hS => ?_)
          obtain ⟨hP, hD⟩ := wI (g := enc n (ex N a b) (tw Z 16) tn (po + (S 1)) (rd + nI 1) al k S (sw0 P S tn) V F) hP hD 1 rfl (enc_w3 n (ex N a b) (tw Z 16) tn (po + (S 1)) rd al k S (sw0 P S tn) V F (rd + nI 1))
          replace hP : va_P D vwCl [(mo, .inr (6, [.ref sa, .ref be, .int (nI (mn kn)), .ref ke, .int (zB ik), .ref te, .int (nI ty)])), (sa, .inl (G 0, 117, .inl (enc n (ex N a b) (tw Z 16) tn (po + (S 1)) (rd + nI 1) al k S (sw0 P S tn) V F))), (be, .inl (G 0, 468, .inl (bf (kB B kn (enc n N Z tn po rd al k S P V F))))), (ke, .inl (G 0, 117, .inl (enc nq Nq Zq tnq poq rdq alq kq Sq Pq Vq Fq))), (te, .inl (G 0, 60, .inl (ch t)))] _ := hP
          have hD : va_D A [(mo, .inr (6, [.ref sa, .ref be, .int (nI (mn kn)), .ref ke, .int (zB ik), .ref te, .int (nI ty)])), (sa, .inl (G 0, 117, .inl (enc n (ex N a b) (tw Z 16) tn (po + (S 1)) (rd + nI 1) al k S (sw0 P S tn) V F))), (be, .inl (G 0, 468, .inl (bf (kB B kn (enc n N Z tn po rd al k S P V F))))), (ke, .inl (G 0, 117, .inl (enc nq Nq Zq tnq poq rdq alq kq Sq Pq Vq Fq))), (te, .inl (G 0, 60, .inl (ch t)))] := hD
          refine lv_aload_n hx hb dX6_swap_176 rfl (lv_at hl 3 rfl) ?_
          refine va_get (D := D) (ci := 6) (v := .ref sa) (C := RX6) (T := TX6) (N := 7) hx hb hts inX6 hown hK hP 0 rfl rfl 0 (by decide) k7 (fun _ h9 => h9) rfl dX6_swap_177 ?_
          refine lv_iconst (v := nI 4) hx hb dX6_swap_180 (by decide +kernel) ?_
          refine lv_dup2_11 hx hb dX6_swap_181 rfl rfl ?_
          refine rIald hx hb hK hP 1 rfl 4 (by omega) (by decide) dX6_swap_182 ?_
          refine rTop (show enc n (ex N a b) (tw Z 16) tn (po + (S 1)) (rd + nI 1) al k S (sw0 P S tn) V F 4 = al from rfl) ?_
          refine lv_iconst (v := nI 1) hx hb dX6_swap_183 (by decide +kernel) ?_
          refine lv_iadd hx hb dX6_swap_184 ?_
          refine rIast hx hb hK hP hD hS 1 rfl 4 (by omega) (by decide) dX6_swap_185 (fun H locs hP hD hS => ?_)
          obtain ⟨hP, hD⟩ := wI (g := enc n (ex N a b) (tw Z 16) tn (po + (S 1)) (rd + nI 1) (al + nI 1) k S (sw0 P S tn) V F) hP hD 1 rfl (enc_w4 n (ex N a b) (tw Z 16) tn (po + (S 1)) (rd + nI 1) al k S (sw0 P S tn) V F (al + nI 1))
          replace hP : va_P D vwCl [(mo, .inr (6, [.ref sa, .ref be, .int (nI (mn kn)), .ref ke, .int (zB ik), .ref te, .int (nI ty)])), (sa, .inl (G 0, 117, .inl (enc n (ex N a b) (tw Z 16) tn (po + (S 1)) (rd + nI 1) (al + nI 1) k S (sw0 P S tn) V F))), (be, .inl (G 0, 468, .inl (bf (kB B kn (enc n N Z tn po rd al k S P V F))))), (ke, .inl (G 0, 117, .inl (enc nq Nq Zq tnq poq rdq alq kq Sq Pq Vq Fq))), (te, .inl (G 0, 60, .inl (ch t)))] _ := hP
          have hD : va_D A [(mo, .inr (6, [.ref sa, .ref be, .int (nI (mn kn)), .ref ke, .int (zB ik), .ref te, .int (nI ty)])), (sa, .inl (G 0, 117, .inl (enc n (ex N a b) (tw Z 16) tn (po + (S 1)) (rd + nI 1) (al + nI 1) k S (sw0 P S tn) V F))), (be, .inl (G 0, 468, .inl (bf (kB B kn (enc n N Z tn po rd al k S P V F))))), (ke, .inl (G 0, 117, .inl (enc nq Nq Zq tnq poq rdq alq kq Sq Pq Vq Fq))), (te, .inl (G 0, 60, .inl (ch t)))] := hD
          refine lv_aload_n hx hb dX6_swap_186 rfl (lv_at hl 3 rfl) ?_
          refine va_get (D := D) (ci := 6) (v := .ref sa) (C := RX6) (T := TX6) (N := 7) hx hb hts inX6 hown hK hP 0 rfl rfl 0 (by decide) k7 (fun _ h9 => h9) rfl dX6_swap_187 ?_
          refine lv_iconst (v := nI 3) hx hb dX6_swap_190 (by decide +kernel) ?_
          refine rIald hx hb hK hP 1 rfl 3 (by omega) (by decide) dX6_swap_191 ?_
          refine rTop (show enc n (ex N a b) (tw Z 16) tn (po + (S 1)) (rd + nI 1) (al + nI 1) k S (sw0 P S tn) V F 3 = (rd + nI 1) from rfl) ?_
          refine lv_aload_n hx hb dX6_swap_192 rfl (lv_at hl 3 rfl) ?_
          refine va_get (D := D) (ci := 6) (v := .ref sa) (C := RX6) (T := TX6) (N := 7) hx hb hts inX6 hown hK hP 0 rfl rfl 0 (by decide) k7 (fun _ h9 => h9) rfl dX6_swap_193 ?_
          refine lv_bipush (v := nI 6) hx hb dX6_swap_196 (by decide +kernel) ?_
          refine rIald hx hb hK hP 1 rfl 6 (by omega) (by decide) dX6_swap_198 ?_
          refine rTop (show enc n (ex N a b) (tw Z 16) tn (po + (S 1)) (rd + nI 1) (al + nI 1) k S (sw0 P S tn) V F 6 = S 0 from enc_S n (ex N a b) (tw Z 16) tn (po + (S 1)) (rd + nI 1) (al + nI 1) k S (sw0 P S tn) V F 0 (by omega)) ?_
          refine lv_icmp_lt (tgt := 213) hx hb dX6_swap_199 (by decide)  (fun c14 => ?_) (fun c14 => absurd hR c14)
          refine lv_iload hx hb dX6_swap_213 (lv_at hl 1 rfl) ?_
          refine iNe (tgt := 256) hx hb dX6_swap_215 (by decide) (by omega) (fun c15 => ?_) (fun c15 => by exfalso; omega)
          refine lv_aload_n hx hb dX6_swap_256 rfl (lv_at hl 3 rfl) ?_
          refine cV (As := []) (rest := []) ⟨hx, hb, hml, hown, hts⟩ hP hK hD hS hN hA (mX6_nextTurn l D G mo sa be ke te (mn kn) ty ik n tn k (ex N a b) (tw Z 16) S (sw0 P S tn) V F (po + (S 1)) (rd + nI 1) (al + nI 1) (by first | assumption | omega)) (cwV 0 hts gX6_swap_X6_nextTurn rfl rfl rfl (by decide +kernel) ⟨Nat.le_of_ble_eq_true rfl, Nat.le_of_ble_eq_true rfl⟩) [0, 1] rfl (by decide) (Eq.trans (b := [mo, sa]) rfl rfl) 0 6 rfl rfl rfl hl.1 rfl (Nat.le_of_ble_eq_true rfl) dX6_swap_257 ⟨Nat.zero_le _, Nat.zero_le _⟩ (fun H locs hP hD hS => ?_)
          have hP : va_P D vwCl [(mo, .inr (6, [.ref sa, .ref be, .int (nI (mn kn)), .ref ke, .int (zB ik), .ref te, .int (nI ty)])), (sa, .inl (G 0, 117, .inl (enc n (ex N a b) (tw Z 16) (nx tn) (po + (S 1)) (rd + nI 1) (al + nI 1) k S (sw0 P S tn) V F))), (be, .inl (G 0, 468, .inl (bf (kB B kn (enc n N Z tn po rd al k S P V F))))), (ke, .inl (G 0, 117, .inl (enc nq Nq Zq tnq poq rdq alq kq Sq Pq Vq Fq))), (te, .inl (G 0, 60, .inl (ch t)))] H := hP
          have hD : va_D A [(mo, .inr (6, [.ref sa, .ref be, .int (nI (mn kn)), .ref ke, .int (zB ik), .ref te, .int (nI ty)])), (sa, .inl (G 0, 117, .inl (enc n (ex N a b) (tw Z 16) (nx tn) (po + (S 1)) (rd + nI 1) (al + nI 1) k S (sw0 P S tn) V F))), (be, .inl (G 0, 468, .inl (bf (kB B kn (enc n N Z tn po rd al k S P V F))))), (ke, .inl (G 0, 117, .inl (enc nq Nq Zq tnq poq rdq alq kq Sq Pq Vq Fq))), (te, .inl (G 0, 60, .inl (ch t)))] := hD
          refine lv_aload_n hx hb dX6_swap_260 rfl (lv_at hl 3 rfl) ?_
          refine cVr (As := []) (rest := []) ⟨hx, hb, hml, hown, hts⟩ hP hK hD hS hN hA (mX6_magicLines l D G mo sa be ke te (mn kn) ty ik n (nx tn) k (ex N a b) (tw Z 16) S (sw0 P S tn) V F (po + (S 1)) (rd + nI 1) (al + nI 1) (by first | assumption | omega)) (cwV 0 hts gX6_swap_X6_magicLines rfl rfl rfl (by decide +kernel) ⟨Nat.le_of_ble_eq_true rfl, Nat.le_of_ble_eq_true rfl⟩) [0, 1] rfl (by decide) 0 6 rfl rfl rfl hl.1 rfl (Nat.le_of_ble_eq_true rfl) dX6_swap_261 ⟨Nat.zero_le _, Nat.zero_le _⟩ (fun H locs hP hS => ?_)
          obtain ⟨hP, hD⟩ := wI (g := enc n (ex N a b) (tw Z 16) (nx tn) (swO (swS n N F (odR F) P S tn po k a b false) false) (swD rd false) (al + nI 1) (swK k false) S (swP (swS n N F (odR F) P S tn po k a b false) tn false) (swV V tn false) F) hP hD 1 rfl (fun j hj => by simp only [swP, swS, swV, swO, swK, swD])
          replace hP : va_P D vwCl [(mo, .inr (6, [.ref sa, .ref be, .int (nI (mn kn)), .ref ke, .int (zB ik), .ref te, .int (nI ty)])), (sa, .inl (G 0, 117, .inl (enc n (ex N a b) (tw Z 16) (nx tn) (swO (swS n N F (odR F) P S tn po k a b false) false) (swD rd false) (al + nI 1) (swK k false) S (swP (swS n N F (odR F) P S tn po k a b false) tn false) (swV V tn false) F))), (be, .inl (G 0, 468, .inl (bf (kB B kn (enc n N Z tn po rd al k S P V F))))), (ke, .inl (G 0, 117, .inl (enc nq Nq Zq tnq poq rdq alq kq Sq Pq Vq Fq))), (te, .inl (G 0, 60, .inl (ch t)))] _ := hP
          have hD : va_D A [(mo, .inr (6, [.ref sa, .ref be, .int (nI (mn kn)), .ref ke, .int (zB ik), .ref te, .int (nI ty)])), (sa, .inl (G 0, 117, .inl (enc n (ex N a b) (tw Z 16) (nx tn) (swO (swS n N F (odR F) P S tn po k a b false) false) (swD rd false) (al + nI 1) (swK k false) S (swP (swS n N F (odR F) P S tn po k a b false) tn false) (swV V tn false) F))), (be, .inl (G 0, 468, .inl (bf (kB B kn (enc n N Z tn po rd al k S P V F))))), (ke, .inl (G 0, 117, .inl (enc nq Nq Zq tnq poq rdq alq kq Sq Pq Vq Fq))), (te, .inl (G 0, 60, .inl (ch t)))] := hD
          exact rIret hx hb hr hlk hP hK hD hS dX6_swap_264
        · refine lv_aload_n hx hb dX6_swap_129 rfl (lv_at hl 3 rfl) ?_
          refine va_get (D := D) (ci := 6) (v := .ref sa) (C := RX6) (T := TX6) (N := 7) hx hb hts inX6 hown hK hP 0 rfl rfl 0 (by decide) k7 (fun _ h9 => h9) rfl dX6_swap_130 ?_
          refine lv_bipush (v := nI 31) hx hb dX6_swap_133 (by decide +kernel) ?_
          refine lv_iload hx hb dX6_swap_135 (lv_at hl 0 rfl) ?_
          refine lv_iadd hx hb dX6_swap_137 ?_
          refine rTop (show nI 31 + nI c_ = nI (31 + c_) from nI_add 31 c_) ?_
          refine lv_dup2_11 hx hb dX6_swap_138 rfl rfl ?_
          refine rIald hx hb hK hP 1 rfl (31 + c_) (by omega) (by decide) dX6_swap_139 ?_
          refine rTop (enc_Z n (ex N a b) (tw Z c_) tn (po + (S 1)) rd al k S (sw0 P S tn) V F c_ (by omega)) ?_
          refine lv_aload_n hx hb dX6_swap_140 rfl (lv_at hl 3 rfl) ?_
          refine va_get (D := D) (ci := 6) (v := .ref sa) (C := RX6) (T := TX6) (N := 7) hx hb hts inX6 hown hK hP 0 rfl rfl 0 (by decide) k7 (fun _ h9 => h9) rfl dX6_swap_141 ?_
          refine lv_bipush (v := nI 31) hx hb dX6_swap_144 (by decide +kernel) ?_
          refine lv_iload hx hb dX6_swap_146 (lv_at hl 0 rfl) ?_
          refine lv_iadd hx hb dX6_swap_148 ?_
          refine rTop (show nI 31 + nI c_ = nI (31 + c_) from nI_add 31 c_) ?_
          refine rIald hx hb hK hP 1 rfl (31 + c_) (by omega) (by decide) dX6_swap_149 ?_
          refine rTop (enc_Z n (ex N a b) (tw Z c_) tn (po + (S 1)) rd al k S (sw0 P S tn) V F c_ (by omega)) ?_
          refine lv_if_le (tgt := 157) hx hb dX6_swap_150 (by decide)  (fun c16 => ?_) (fun c16 => ?_)
          · refine lv_iconst (v := nI 0) hx hb dX6_swap_157 (by decide +kernel) ?_
            refine lv_isub hx hb dX6_swap_158 ?_
            refine rIast hx hb hK hP hD hS 1 rfl (31 + c_) (by omega) (by decide) dX6_swap_159 (fun H locs hP hD hS => ?_)
            obtain ⟨hP, hD⟩ := wI (g := enc n (ex N a b) (upd (tw Z c_) c_ ((tw Z c_) c_ - nI 0)) tn (po + (S 1)) rd al k S (sw0 P S tn) V F) hP hD 1 rfl (enc_wZ n (ex N a b) (tw Z c_) tn (po + (S 1)) rd al k S (sw0 P S tn) V F c_ (by omega) ((tw Z c_) c_ - nI 0))
            replace hP : va_P D vwCl [(mo, .inr (6, [.ref sa, .ref be, .int (nI (mn kn)), .ref ke, .int (zB ik), .ref te, .int (nI ty)])), (sa, .inl (G 0, 117, .inl (enc n (ex N a b) (upd (tw Z c_) c_ ((tw Z c_) c_ - nI 0)) tn (po + (S 1)) rd al k S (sw0 P S tn) V F))), (be, .inl (G 0, 468, .inl (bf (kB B kn (enc n N Z tn po rd al k S P V F))))), (ke, .inl (G 0, 117, .inl (enc nq Nq Zq tnq poq rdq alq kq Sq Pq Vq Fq))), (te, .inl (G 0, 60, .inl (ch t)))] _ := hP
            have hD : va_D A [(mo, .inr (6, [.ref sa, .ref be, .int (nI (mn kn)), .ref ke, .int (zB ik), .ref te, .int (nI ty)])), (sa, .inl (G 0, 117, .inl (enc n (ex N a b) (upd (tw Z c_) c_ ((tw Z c_) c_ - nI 0)) tn (po + (S 1)) rd al k S (sw0 P S tn) V F))), (be, .inl (G 0, 468, .inl (bf (kB B kn (enc n N Z tn po rd al k S P V F))))), (ke, .inl (G 0, 117, .inl (enc nq Nq Zq tnq poq rdq alq kq Sq Pq Vq Fq))), (te, .inl (G 0, 60, .inl (ch t)))] := hD
            refine lv_iinc (v := nI (c_ + 1)) (lv' := [(5, .int (nI (c_ + 1))), (4, .int (nI 1)), (3, .int (nI tn)), (0, .ref mo), (1, .int (nI a)), (2, .int (nI b))]) hx hb dX6_swap_160 hl (k := 0) rfl (nI_inc c_) (by decide) rfl (fun ls hl => ?_)
            refine lv_goto (tgt := 120) hx hb dX6_swap_163 (by decide) ?_
            obtain ⟨hP, hD⟩ := wI (g := enc n (ex N a b) (tw Z (c_ + 1)) tn (po + (S 1)) rd al k S (sw0 P S tn) V F) hP hD 1 rfl (fun j hj => congrFun (congrArg (fun NN => enc n (ex N a b) NN tn (po + (S 1)) rd al k S (sw0 P S tn) V F) (show upd (tw Z c_) c_ ((tw Z c_) c_ - nI 0) = tw Z (c_ + 1) from by first | exact tw_ra (by assumption) | exact tw_rb (by assumption))) j)
            replace hP : va_P D vwCl [(mo, .inr (6, [.ref sa, .ref be, .int (nI (mn kn)), .ref ke, .int (zB ik), .ref te, .int (nI ty)])), (sa, .inl (G 0, 117, .inl (enc n (ex N a b) (tw Z (c_ + 1)) tn (po + (S 1)) rd al k S (sw0 P S tn) V F))), (be, .inl (G 0, 468, .inl (bf (kB B kn (enc n N Z tn po rd al k S P V F))))), (ke, .inl (G 0, 117, .inl (enc nq Nq Zq tnq poq rdq alq kq Sq Pq Vq Fq))), (te, .inl (G 0, 60, .inl (ch t)))] _ := hP
            have hD : va_D A [(mo, .inr (6, [.ref sa, .ref be, .int (nI (mn kn)), .ref ke, .int (zB ik), .ref te, .int (nI ty)])), (sa, .inl (G 0, 117, .inl (enc n (ex N a b) (tw Z (c_ + 1)) tn (po + (S 1)) rd al k S (sw0 P S tn) V F))), (be, .inl (G 0, 468, .inl (bf (kB B kn (enc n N Z tn po rd al k S P V F))))), (ke, .inl (G 0, 117, .inl (enc nq Nq Zq tnq poq rdq alq kq Sq Pq Vq Fq))), (te, .inl (G 0, 60, .inl (ch t)))] := hD
            exact ih120 (c_ + 1) (by omega) (by omega)  _ _ hP hD hS _ (lv_sub hl [0, 1, 2, 3, 4, 5] rfl)
          · refine lv_iconst (v := nI 1) hx hb dX6_swap_153 (by decide +kernel) ?_
            refine lv_goto (tgt := 158) hx hb dX6_swap_154 (by decide) ?_
            refine lv_isub hx hb dX6_swap_158 ?_
            refine rIast hx hb hK hP hD hS 1 rfl (31 + c_) (by omega) (by decide) dX6_swap_159 (fun H locs hP hD hS => ?_)
            obtain ⟨hP, hD⟩ := wI (g := enc n (ex N a b) (upd (tw Z c_) c_ ((tw Z c_) c_ - nI 1)) tn (po + (S 1)) rd al k S (sw0 P S tn) V F) hP hD 1 rfl (enc_wZ n (ex N a b) (tw Z c_) tn (po + (S 1)) rd al k S (sw0 P S tn) V F c_ (by omega) ((tw Z c_) c_ - nI 1))
            replace hP : va_P D vwCl [(mo, .inr (6, [.ref sa, .ref be, .int (nI (mn kn)), .ref ke, .int (zB ik), .ref te, .int (nI ty)])), (sa, .inl (G 0, 117, .inl (enc n (ex N a b) (upd (tw Z c_) c_ ((tw Z c_) c_ - nI 1)) tn (po + (S 1)) rd al k S (sw0 P S tn) V F))), (be, .inl (G 0, 468, .inl (bf (kB B kn (enc n N Z tn po rd al k S P V F))))), (ke, .inl (G 0, 117, .inl (enc nq Nq Zq tnq poq rdq alq kq Sq Pq Vq Fq))), (te, .inl (G 0, 60, .inl (ch t)))] _ := hP
            have hD : va_D A [(mo, .inr (6, [.ref sa, .ref be, .int (nI (mn kn)), .ref ke, .int (zB ik), .ref te, .int (nI ty)])), (sa, .inl (G 0, 117, .inl (enc n (ex N a b) (upd (tw Z c_) c_ ((tw Z c_) c_ - nI 1)) tn (po + (S 1)) rd al k S (sw0 P S tn) V F))), (be, .inl (G 0, 468, .inl (bf (kB B kn (enc n N Z tn po rd al k S P V F))))), (ke, .inl (G 0, 117, .inl (enc nq Nq Zq tnq poq rdq alq kq Sq Pq Vq Fq))), (te, .inl (G 0, 60, .inl (ch t)))] := hD
            refine lv_iinc (v := nI (c_ + 1)) (lv' := [(5, .int (nI (c_ + 1))), (4, .int (nI 1)), (3, .int (nI tn)), (0, .ref mo), (1, .int (nI a)), (2, .int (nI b))]) hx hb dX6_swap_160 hl (k := 0) rfl (nI_inc c_) (by decide) rfl (fun ls hl => ?_)
            refine lv_goto (tgt := 120) hx hb dX6_swap_163 (by decide) ?_
            obtain ⟨hP, hD⟩ := wI (g := enc n (ex N a b) (tw Z (c_ + 1)) tn (po + (S 1)) rd al k S (sw0 P S tn) V F) hP hD 1 rfl (fun j hj => congrFun (congrArg (fun NN => enc n (ex N a b) NN tn (po + (S 1)) rd al k S (sw0 P S tn) V F) (show upd (tw Z c_) c_ ((tw Z c_) c_ - nI 1) = tw Z (c_ + 1) from by first | exact tw_ra (by assumption) | exact tw_rb (by assumption))) j)
            replace hP : va_P D vwCl [(mo, .inr (6, [.ref sa, .ref be, .int (nI (mn kn)), .ref ke, .int (zB ik), .ref te, .int (nI ty)])), (sa, .inl (G 0, 117, .inl (enc n (ex N a b) (tw Z (c_ + 1)) tn (po + (S 1)) rd al k S (sw0 P S tn) V F))), (be, .inl (G 0, 468, .inl (bf (kB B kn (enc n N Z tn po rd al k S P V F))))), (ke, .inl (G 0, 117, .inl (enc nq Nq Zq tnq poq rdq alq kq Sq Pq Vq Fq))), (te, .inl (G 0, 60, .inl (ch t)))] _ := hP
            have hD : va_D A [(mo, .inr (6, [.ref sa, .ref be, .int (nI (mn kn)), .ref ke, .int (zB ik), .ref te, .int (nI ty)])), (sa, .inl (G 0, 117, .inl (enc n (ex N a b) (tw Z (c_ + 1)) tn (po + (S 1)) rd al k S (sw0 P S tn) V F))), (be, .inl (G 0, 468, .inl (bf (kB B kn (enc n N Z tn po rd al k S P V F))))), (ke, .inl (G 0, 117, .inl (enc nq Nq Zq tnq poq rdq alq kq Sq Pq Vq Fq))), (te, .inl (G 0, 60, .inl (ch t)))] := hD
            exact ih120 (c_ + 1) (by omega) (by omega)  _ _ hP hD hS _ (lv_sub hl [0, 1, 2, 3, 4, 5] rfl)
    obtain ⟨hP, hD⟩ := wI (g := enc n (ex N a b) (tw Z 0) tn (po + (S 1)) rd al k S (sw0 P S tn) V F) hP hD 1 rfl (fun j hj => by rw [tw_0])
    replace hP : va_P D vwCl [(mo, .inr (6, [.ref sa, .ref be, .int (nI (mn kn)), .ref ke, .int (zB ik), .ref te, .int (nI ty)])), (sa, .inl (G 0, 117, .inl (enc n (ex N a b) (tw Z 0) tn (po + (S 1)) rd al k S (sw0 P S tn) V F))), (be, .inl (G 0, 468, .inl (bf (kB B kn (enc n N Z tn po rd al k S P V F))))), (ke, .inl (G 0, 117, .inl (enc nq Nq Zq tnq poq rdq alq kq Sq Pq Vq Fq))), (te, .inl (G 0, 60, .inl (ch t)))] _ := hP
    have hD : va_D A [(mo, .inr (6, [.ref sa, .ref be, .int (nI (mn kn)), .ref ke, .int (zB ik), .ref te, .int (nI ty)])), (sa, .inl (G 0, 117, .inl (enc n (ex N a b) (tw Z 0) tn (po + (S 1)) rd al k S (sw0 P S tn) V F))), (be, .inl (G 0, 468, .inl (bf (kB B kn (enc n N Z tn po rd al k S P V F))))), (ke, .inl (G 0, 117, .inl (enc nq Nq Zq tnq poq rdq alq kq Sq Pq Vq Fq))), (te, .inl (G 0, 60, .inl (ch t)))] := hD
    exact LP120 (n * n + 1 - 0) 0 (by omega) (by omega)  _ _ hP hD hS _ (lv_sub hl [0, 1, 2, 3, 4, 5] rfl)

set_option maxHeartbeats 4000000 in
set_option maxRecDepth 100000 in
theorem mX6_swap_01 (l : Launch) (D : va_G) (G : Nat → ClassId) (mo sa be ke te kn ty : Nat) (ik : Bool) (n tn k : Nat) (N Z S P V : Nat → Int32) (F : Nat → Nat → Int32) (po rd al : Int32) (B : Nat → Nat → Int32) (nq tnq kq : Nat) (Nq Zq Sq Pq Vq : Nat → Int32) (Fq : Nat → Nat → Int32) (poq rdq alq : Int32) (t : Nat → Nat) (a b : Nat) (hkn : kn ≤ 4) (hn : n = 3 ∨ n = 4) (hk : k ≤ 10) (ht : tn < 3) (hSO : SOK n k F) (hN1 : NOK n N) (hSM : SMK k F) (hRF : RFD k F) (hxn : NOK n (ex N a b)) (haq : a < n * n) (hbq : b < n * n) (hZ : ∀ c, n * n ≤ c → Z c = nI 0) (hcap : cap (P tn + (-S 1)) = P tn - S 1) (hR : (rd + nI 1) < S 0) (hW : ¬ wof n N = 0 ∧ wof n (ex N a b) = 0) (hE : swE n Z P S tn (nI a) (nI b) = 0) : CT l yX6_swap wsX6_swap 5 115 D G [.ref mo, .int (nI a), .int (nI b)] [(mo, .inr (6, [.ref sa, .ref be, .int (nI kn), .ref ke, .int (zB ik), .ref te, .int (nI ty)])), (sa, .inl (G 0, 117, .inl (enc n N Z tn po rd al k S P V F))), (be, .inl (G 0, 468, .inl (bf B))), (ke, .inl (G 0, 117, .inl (enc nq Nq Zq tnq poq rdq alq kq Sq Pq Vq Fq))), (te, .inl (G 0, 60, .inl (ch t)))] [(mo, .inr (6, [.ref sa, .ref be, .int (nI (mn kn)), .ref ke, .int (zB ik), .ref te, .int (nI ty)])), (sa, .inl (G 0, 117, .inl (enc n (ex N a b) (tw Z 16) (nx tn) (swO (swS n N F (odR F) P S tn po k a b false) true) (swD rd false) (al + nI 1) (swK k false) S (swP (swS n N F (odR F) P S tn po k a b false) tn true) (swV V tn true) F))), (be, .inl (G 0, 468, .inl (bf (kB B kn (enc n N Z tn po rd al k S P V F))))), (ke, .inl (G 0, 117, .inl (enc nq Nq Zq tnq poq rdq alq kq Sq Pq Vq Fq))), (te, .inl (G 0, 60, .inl (ch t)))] (some (.int (nI (mcn n (ex N a b))))) := by
  refine CT.of (cc := cX6_swap) (maxL := 6) (ret := (some .int)) (by decide) rfl RX6 rfl (Nat.le_of_ble_eq_true rfl) (fun pp ee s mm bl me cc A ls hx hb hr hml hts hown hlk hnm hA hP hK hD hN hS hl => ?_)
  have hl : lv_has ls 6 [(0, .ref mo), (1, .int (nI a)), (2, .int (nI b))] := hl
  have hP : va_P D vwCl [(mo, .inr (6, [.ref sa, .ref be, .int (nI kn), .ref ke, .int (zB ik), .ref te, .int (nI ty)])), (sa, .inl (G 0, 117, .inl (enc n N Z tn po rd al k S P V F))), (be, .inl (G 0, 468, .inl (bf B))), (ke, .inl (G 0, 117, .inl (enc nq Nq Zq tnq poq rdq alq kq Sq Pq Vq Fq))), (te, .inl (G 0, 60, .inl (ch t)))] s.heap := hP
  have inX6 : ∀ w ∈ wsX60, w ∈ wsX6_swap := fun w h => List.mem_cons_of_mem _ (List.mem_append_right _ h)
  have k7 := hts (.fieldLink RX6 7 "SquareStakesModel" "s" "[I") (List.mem_of_getElem? (i := 1) rfl)
  have hq9 : n * n < 17 ∧ 0 < n * n := by rcases hn with rfl | rfl <;> decide
  refine lv_aload_n hx hb dX6_swap_0 rfl (lv_at hl 0 rfl) ?_
  refine lv_iload_n hx hb dX6_swap_1 rfl (lv_at hl 1 rfl) ?_
  refine cVr (As := [.int (nI a)]) (rest := []) ⟨hx, hb, hml, hown, hts⟩ hP hK hD hS hN hA (mX6_isCell l D G mo sa be ke te kn ty ik n tn k N Z S P V F po rd al (nI a) (by first | assumption | omega)) (cwV 1 hts gX6_swap_X6_isCell rfl rfl rfl (by decide +kernel) ⟨Nat.le_of_ble_eq_true rfl, Nat.le_of_ble_eq_true rfl⟩) [0, 1] rfl (by decide) 0 6 rfl rfl rfl hl.1 rfl (Nat.le_of_ble_eq_true rfl) dX6_swap_2 ⟨Nat.zero_le _, Nat.zero_le _⟩ (fun H locs hP hS => ?_)
  refine zEq (tgt := 16) hx hb dX6_swap_5 (by decide)  (fun c1 => absurd (c1) (by rw [inB_nI (by omega), decide_eq_true haq]; decide)) (fun c1 => ?_)
  refine lv_aload_n hx hb dX6_swap_8 rfl (lv_at hl 0 rfl) ?_
  refine lv_iload_n hx hb dX6_swap_9 rfl (lv_at hl 2 rfl) ?_
  refine cVr (As := [.int (nI b)]) (rest := []) ⟨hx, hb, hml, hown, hts⟩ hP hK hD hS hN hA (mX6_isCell l D G mo sa be ke te kn ty ik n tn k N Z S P V F po rd al (nI b) (by first | assumption | omega)) (cwV 1 hts gX6_swap_X6_isCell rfl rfl rfl (by decide +kernel) ⟨Nat.le_of_ble_eq_true rfl, Nat.le_of_ble_eq_true rfl⟩) [0, 1] rfl (by decide) 0 6 rfl rfl rfl hl.1 rfl (Nat.le_of_ble_eq_true rfl) dX6_swap_10 ⟨Nat.zero_le _, Nat.zero_le _⟩ (fun H locs hP hS => ?_)
  refine zNe (tgt := 18) hx hb dX6_swap_13 (by decide)  (fun c2 => ?_) (fun c2 => absurd (c2) (by rw [inB_nI (by omega), decide_eq_true hbq]; decide))
  refine lv_iload_n hx hb dX6_swap_18 rfl (lv_at hl 1 rfl) ?_
  refine lv_iload_n hx hb dX6_swap_19 rfl (lv_at hl 2 rfl) ?_
  refine bNe (tgt := 26) hx hb dX6_swap_20 (by decide) (by omega) (by omega) (fun c3 => ?_) (fun c3 => absurd (hE.symm.trans (by rw [swE_in haq hbq (by omega), if_pos c3])) (by decide))
  refine lv_aload_n hx hb dX6_swap_26 rfl (lv_at hl 0 rfl) ?_
  refine va_get (D := D) (ci := 6) (v := .ref sa) (C := RX6) (T := TX6) (N := 7) hx hb hts inX6 hown hK hP 0 rfl rfl 0 (by decide) k7 (fun _ h9 => h9) rfl dX6_swap_27 ?_
  refine lv_bipush (v := nI 31) hx hb dX6_swap_30 (by decide +kernel) ?_
  refine lv_iload_n hx hb dX6_swap_32 rfl (lv_at hl 1 rfl) ?_
  refine lv_iadd hx hb dX6_swap_33 ?_
  refine rTop (show nI 31 + nI a = nI (31 + a) from nI_add 31 a) ?_
  refine rIald hx hb hK hP 1 rfl (31 + a) (by omega) (by decide) dX6_swap_34 ?_
  refine rTop (enc_Z n N Z tn po rd al k S P V F a (by omega)) ?_
  refine lv_if_gt (tgt := 50) hx hb dX6_swap_35 (by decide)  (fun c4 => absurd (hE.symm.trans (by rw [swE_in haq hbq (by omega), if_neg (by omega), if_pos (Or.inl c4)])) (by decide)) (fun c4 => ?_)
  refine lv_aload_n hx hb dX6_swap_38 rfl (lv_at hl 0 rfl) ?_
  refine va_get (D := D) (ci := 6) (v := .ref sa) (C := RX6) (T := TX6) (N := 7) hx hb hts inX6 hown hK hP 0 rfl rfl 0 (by decide) k7 (fun _ h9 => h9) rfl dX6_swap_39 ?_
  refine lv_bipush (v := nI 31) hx hb dX6_swap_42 (by decide +kernel) ?_
  refine lv_iload_n hx hb dX6_swap_44 rfl (lv_at hl 2 rfl) ?_
  refine lv_iadd hx hb dX6_swap_45 ?_
  refine rTop (show nI 31 + nI b = nI (31 + b) from nI_add 31 b) ?_
  refine rIald hx hb hK hP 1 rfl (31 + b) (by omega) (by decide) dX6_swap_46 ?_
  refine rTop (enc_Z n N Z tn po rd al k S P V F b (by omega)) ?_
  refine lv_if_le (tgt := 53) hx hb dX6_swap_47 (by decide)  (fun c5 => ?_) (fun c5 => absurd (hE.symm.trans (by rw [swE_in haq hbq (by omega), if_neg (by omega), if_pos (Or.inr (Int32.not_le.mp c5))])) (by decide))
  refine lv_aload_n hx hb dX6_swap_53 rfl (lv_at hl 0 rfl) ?_
  refine va_get (D := D) (ci := 6) (v := .ref sa) (C := RX6) (T := TX6) (N := 7) hx hb hts inX6 hown hK hP 0 rfl rfl 0 (by decide) k7 (fun _ h9 => h9) rfl dX6_swap_54 ?_
  refine lv_iconst (v := nI 1) hx hb dX6_swap_57 (by decide +kernel) ?_
  refine rIald hx hb hK hP 1 rfl 1 (by omega) (by decide) dX6_swap_58 ?_
  refine rTop (show enc n N Z tn po rd al k S P V F 1 = nI tn from rfl) ?_
  refine lv_istore_n (lv' := [(3, .int (nI tn)), (0, .ref mo), (1, .int (nI a)), (2, .int (nI b))]) hx hb dX6_swap_59 rfl hl (by decide) rfl (fun ls hl => ?_)
  refine lv_aload_n hx hb dX6_swap_60 rfl (lv_at hl 1 rfl) ?_
  refine va_get (D := D) (ci := 6) (v := .ref sa) (C := RX6) (T := TX6) (N := 7) hx hb hts inX6 hown hK hP 0 rfl rfl 0 (by decide) k7 (fun _ h9 => h9) rfl dX6_swap_61 ?_
  refine lv_bipush (v := nI 9) hx hb dX6_swap_64 (by decide +kernel) ?_
  refine lv_iload_n hx hb dX6_swap_66 rfl (lv_at hl 0 rfl) ?_
  refine lv_iadd hx hb dX6_swap_67 ?_
  refine rTop (show nI 9 + nI tn = nI (9 + tn) from nI_add 9 tn) ?_
  refine rIald hx hb hK hP 1 rfl (9 + tn) (by omega) (by decide) dX6_swap_68 ?_
  refine rTop (enc_P n N Z tn po rd al k S P V F tn (by omega)) ?_
  refine lv_aload_n hx hb dX6_swap_69 rfl (lv_at hl 1 rfl) ?_
  refine va_get (D := D) (ci := 6) (v := .ref sa) (C := RX6) (T := TX6) (N := 7) hx hb hts inX6 hown hK hP 0 rfl rfl 0 (by decide) k7 (fun _ h9 => h9) rfl dX6_swap_70 ?_
  refine lv_bipush (v := nI 7) hx hb dX6_swap_73 (by decide +kernel) ?_
  refine rIald hx hb hK hP 1 rfl 7 (by omega) (by decide) dX6_swap_75 ?_
  refine rTop (show enc n N Z tn po rd al k S P V F 7 = S 1 from enc_S n N Z tn po rd al k S P V F 1 (by omega)) ?_
  refine lv_icmp_ge (tgt := 82) hx hb dX6_swap_76 (by decide)  (fun c6 => ?_) (fun c6 => absurd (hE.symm.trans (by rw [swE_in haq hbq (by omega), if_neg (by omega), if_neg (nle2 (by assumption) (by assumption)), if_pos (Int32.not_le.mp c6)])) (by decide))
  refine lv_aload_n hx hb dX6_swap_82 rfl (lv_at hl 1 rfl) ?_
  refine cV (As := []) (rest := []) ⟨hx, hb, hml, hown, hts⟩ hP hK hD hS hN hA (mX6_know l D G mo sa be ke te kn ty ik n tn k N Z S P V F po rd al B (by first | assumption | omega)) (cwV 0 hts gX6_swap_X6_know rfl rfl rfl (by decide +kernel) ⟨Nat.le_of_ble_eq_true rfl, Nat.le_of_ble_eq_true rfl⟩) [0, 1, 2] rfl (by decide) (Eq.trans (b := [mo, sa, be]) rfl rfl) 0 6 rfl rfl rfl hl.1 rfl (Nat.le_of_ble_eq_true rfl) dX6_swap_83 ⟨Nat.zero_le _, Nat.zero_le _⟩ (fun H locs hP hD hS => ?_)
  have hP : va_P D vwCl [(mo, .inr (6, [.ref sa, .ref be, .int (nI (mn kn)), .ref ke, .int (zB ik), .ref te, .int (nI ty)])), (sa, .inl (G 0, 117, .inl (enc n N Z tn po rd al k S P V F))), (be, .inl (G 0, 468, .inl (bf (kB B kn (enc n N Z tn po rd al k S P V F))))), (ke, .inl (G 0, 117, .inl (enc nq Nq Zq tnq poq rdq alq kq Sq Pq Vq Fq))), (te, .inl (G 0, 60, .inl (ch t)))] H := hP
  have hD : va_D A [(mo, .inr (6, [.ref sa, .ref be, .int (nI (mn kn)), .ref ke, .int (zB ik), .ref te, .int (nI ty)])), (sa, .inl (G 0, 117, .inl (enc n N Z tn po rd al k S P V F))), (be, .inl (G 0, 468, .inl (bf (kB B kn (enc n N Z tn po rd al k S P V F))))), (ke, .inl (G 0, 117, .inl (enc nq Nq Zq tnq poq rdq alq kq Sq Pq Vq Fq))), (te, .inl (G 0, 60, .inl (ch t)))] := hD
  refine lv_aload_n hx hb dX6_swap_86 rfl (lv_at hl 1 rfl) ?_
  refine lv_aload_n hx hb dX6_swap_87 rfl (lv_at hl 1 rfl) ?_
  refine va_get (D := D) (ci := 6) (v := .ref sa) (C := RX6) (T := TX6) (N := 7) hx hb hts inX6 hown hK hP 0 rfl rfl 0 (by decide) k7 (fun _ h9 => h9) rfl dX6_swap_88 ?_
  refine lv_bipush (v := nI 7) hx hb dX6_swap_91 (by decide +kernel) ?_
  refine rIald hx hb hK hP 1 rfl 7 (by omega) (by decide) dX6_swap_93 ?_
  refine rTop (show enc n N Z tn po rd al k S P V F 7 = S 1 from enc_S n N Z tn po rd al k S P V F 1 (by omega)) ?_
  refine cV (As := [.int (S 1)]) (rest := []) ⟨hx, hb, hml, hown, hts⟩ hP hK hD hS hN hA (mX6_spend l D G mo sa be ke te (mn kn) ty ik n tn k N Z S P V F po rd al (S 1) (by first | assumption | omega)) (cwV 1 hts gX6_swap_X6_spend rfl rfl rfl (by decide +kernel) ⟨Nat.le_of_ble_eq_true rfl, Nat.le_of_ble_eq_true rfl⟩) [0, 1] rfl (by decide) (Eq.trans (b := [mo, sa]) rfl rfl) 0 6 rfl rfl rfl hl.1 rfl (Nat.le_of_ble_eq_true rfl) dX6_swap_94 ⟨Nat.zero_le _, Nat.zero_le _⟩ (fun H locs hP hD hS => ?_)
  have hP : va_P D vwCl [(mo, .inr (6, [.ref sa, .ref be, .int (nI (mn kn)), .ref ke, .int (zB ik), .ref te, .int (nI ty)])), (sa, .inl (G 0, 117, .inl (enc n N Z tn (po + (S 1)) rd al k S (upd P tn (P tn - (S 1))) V F))), (be, .inl (G 0, 468, .inl (bf (kB B kn (enc n N Z tn po rd al k S P V F))))), (ke, .inl (G 0, 117, .inl (enc nq Nq Zq tnq poq rdq alq kq Sq Pq Vq Fq))), (te, .inl (G 0, 60, .inl (ch t)))] H := hP
  have hD : va_D A [(mo, .inr (6, [.ref sa, .ref be, .int (nI (mn kn)), .ref ke, .int (zB ik), .ref te, .int (nI ty)])), (sa, .inl (G 0, 117, .inl (enc n N Z tn (po + (S 1)) rd al k S (upd P tn (P tn - (S 1))) V F))), (be, .inl (G 0, 468, .inl (bf (kB B kn (enc n N Z tn po rd al k S P V F))))), (ke, .inl (G 0, 117, .inl (enc nq Nq Zq tnq poq rdq alq kq Sq Pq Vq Fq))), (te, .inl (G 0, 60, .inl (ch t)))] := hD
  obtain ⟨hP, hD⟩ := wI (g := enc n N Z tn (po + (S 1)) rd al k S (sw0 P S tn) V F) hP hD 1 rfl (fun j hj => by rw [sw0, hcap])
  replace hP : va_P D vwCl [(mo, .inr (6, [.ref sa, .ref be, .int (nI (mn kn)), .ref ke, .int (zB ik), .ref te, .int (nI ty)])), (sa, .inl (G 0, 117, .inl (enc n N Z tn (po + (S 1)) rd al k S (sw0 P S tn) V F))), (be, .inl (G 0, 468, .inl (bf (kB B kn (enc n N Z tn po rd al k S P V F))))), (ke, .inl (G 0, 117, .inl (enc nq Nq Zq tnq poq rdq alq kq Sq Pq Vq Fq))), (te, .inl (G 0, 60, .inl (ch t)))] _ := hP
  have hD : va_D A [(mo, .inr (6, [.ref sa, .ref be, .int (nI (mn kn)), .ref ke, .int (zB ik), .ref te, .int (nI ty)])), (sa, .inl (G 0, 117, .inl (enc n N Z tn (po + (S 1)) rd al k S (sw0 P S tn) V F))), (be, .inl (G 0, 468, .inl (bf (kB B kn (enc n N Z tn po rd al k S P V F))))), (ke, .inl (G 0, 117, .inl (enc nq Nq Zq tnq poq rdq alq kq Sq Pq Vq Fq))), (te, .inl (G 0, 60, .inl (ch t)))] := hD
  refine lv_aload_n hx hb dX6_swap_97 rfl (lv_at hl 1 rfl) ?_
  refine cVr (As := []) (rest := []) ⟨hx, hb, hml, hown, hts⟩ hP hK hD hS hN hA (mX6_wayOff l D G mo sa be ke te (mn kn) ty ik n tn k N Z S (sw0 P S tn) V F (po + (S 1)) rd al (by first | assumption | omega)) (cwV 0 hts gX6_swap_X6_wayOff rfl rfl rfl (by decide +kernel) ⟨Nat.le_of_ble_eq_true rfl, Nat.le_of_ble_eq_true rfl⟩) [0, 1] rfl (by decide) 0 6 rfl rfl rfl hl.1 rfl (Nat.le_of_ble_eq_true rfl) dX6_swap_98 ⟨Nat.zero_le _, Nat.zero_le _⟩ (fun H locs hP hS => ?_)
  refine lv_if_ne (tgt := 108) hx hb dX6_swap_101 (by decide)  (fun c7 => ?_) (fun c7 => absurd c7 hW.1)
  refine lv_iconst (v := nI 0) hx hb dX6_swap_108 (by decide +kernel) ?_
  refine lv_istore (lv' := [(4, .int (nI 0)), (3, .int (nI tn)), (0, .ref mo), (1, .int (nI a)), (2, .int (nI b))]) hx hb dX6_swap_109 hl (by decide) rfl (fun ls hl => ?_)
  refine lv_aload_n hx hb dX6_swap_111 rfl (lv_at hl 2 rfl) ?_
  refine lv_iload_n hx hb dX6_swap_112 rfl (lv_at hl 3 rfl) ?_
  refine lv_iload_n hx hb dX6_swap_113 rfl (lv_at hl 4 rfl) ?_
  refine cV (As := [.int (nI a), .int (nI b)]) (rest := []) ⟨hx, hb, hml, hown, hts⟩ hP hK hD hS hN hA (mX6_exchange l D G mo sa be ke te (mn kn) ty ik n tn k N Z S (sw0 P S tn) V F (po + (S 1)) rd al a b (by first | assumption | omega) (by first | assumption | omega)) (cwV 2 hts gX6_swap_X6_exchange rfl rfl rfl (by decide +kernel) ⟨Nat.le_of_ble_eq_true rfl, Nat.le_of_ble_eq_true rfl⟩) [0, 1] rfl (by decide) (Eq.trans (b := [mo, sa]) rfl rfl) 0 6 rfl rfl rfl hl.1 rfl (Nat.le_of_ble_eq_true rfl) dX6_swap_114 ⟨Nat.zero_le _, Nat.zero_le _⟩ (fun H locs hP hD hS => ?_)
  have hP : va_P D vwCl [(mo, .inr (6, [.ref sa, .ref be, .int (nI (mn kn)), .ref ke, .int (zB ik), .ref te, .int (nI ty)])), (sa, .inl (G 0, 117, .inl (enc n (ex N a b) Z tn (po + (S 1)) rd al k S (sw0 P S tn) V F))), (be, .inl (G 0, 468, .inl (bf (kB B kn (enc n N Z tn po rd al k S P V F))))), (ke, .inl (G 0, 117, .inl (enc nq Nq Zq tnq poq rdq alq kq Sq Pq Vq Fq))), (te, .inl (G 0, 60, .inl (ch t)))] H := hP
  have hD : va_D A [(mo, .inr (6, [.ref sa, .ref be, .int (nI (mn kn)), .ref ke, .int (zB ik), .ref te, .int (nI ty)])), (sa, .inl (G 0, 117, .inl (enc n (ex N a b) Z tn (po + (S 1)) rd al k S (sw0 P S tn) V F))), (be, .inl (G 0, 468, .inl (bf (kB B kn (enc n N Z tn po rd al k S P V F))))), (ke, .inl (G 0, 117, .inl (enc nq Nq Zq tnq poq rdq alq kq Sq Pq Vq Fq))), (te, .inl (G 0, 60, .inl (ch t)))] := hD
  refine lv_iconst (v := nI 0) hx hb dX6_swap_117 (by decide +kernel) ?_
  refine lv_istore (lv' := [(5, .int (nI 0)), (4, .int (nI 0)), (3, .int (nI tn)), (0, .ref mo), (1, .int (nI a)), (2, .int (nI b))]) hx hb dX6_swap_118 hl (by decide) rfl (fun ls hl => ?_)
  have LP120 : ∀ (nn120 c_ : Nat), c_ ≤ (n * n) → (n * n) < c_ + nn120  → ∀ (H : Heap) (locs : List Loc), va_P D vwCl [(mo, .inr (6, [.ref sa, .ref be, .int (nI (mn kn)), .ref ke, .int (zB ik), .ref te, .int (nI ty)])), (sa, .inl (G 0, 117, .inl (enc n (ex N a b) (tw Z c_) tn (po + (S 1)) rd al k S (sw0 P S tn) V F))), (be, .inl (G 0, 468, .inl (bf (kB B kn (enc n N Z tn po rd al k S P V F))))), (ke, .inl (G 0, 117, .inl (enc nq Nq Zq tnq poq rdq alq kq Sq Pq Vq Fq))), (te, .inl (G 0, 60, .inl (ch t)))] H → va_D A [(mo, .inr (6, [.ref sa, .ref be, .int (nI (mn kn)), .ref ke, .int (zB ik), .ref te, .int (nI ty)])), (sa, .inl (G 0, 117, .inl (enc n (ex N a b) (tw Z c_) tn (po + (S 1)) rd al k S (sw0 P S tn) V F))), (be, .inl (G 0, 468, .inl (bf (kB B kn (enc n N Z tn po rd al k S P V F))))), (ke, .inl (G 0, 117, .inl (enc nq Nq Zq tnq poq rdq alq kq Sq Pq Vq Fq))), (te, .inl (G 0, 60, .inl (ch t)))] → va_S A s.heap H locs → ∀ ls : Array Slot, lv_has ls 6 [(5, .int (nI c_)), (4, .int (nI 0)), (3, .int (nI tn)), (0, .ref mo), (1, .int (nI a)), (2, .int (nI b))] → W pp l ee (rmA 5 115) s mm ([.ref mo, .int (nI a), .int (nI b)] : List Value).toArray bl me cc H locs 0 0 (MQ bl (Qres (some (.int (nI (mcn n (ex N a b))))) D G [(mo, .inr (6, [.ref sa, .ref be, .int (nI (mn kn)), .ref ke, .int (zB ik), .ref te, .int (nI ty)])), (sa, .inl (G 0, 117, .inl (enc n (ex N a b) (tw Z 16) (nx tn) (swO (swS n N F (odR F) P S tn po k a b false) true) (swD rd false) (al + nI 1) (swK k false) S (swP (swS n N F (odR F) P S tn po k a b false) tn true) (swV V tn true) F))), (be, .inl (G 0, 468, .inl (bf (kB B kn (enc n N Z tn po rd al k S P V F))))), (ke, .inl (G 0, 117, .inl (enc nq Nq Zq tnq poq rdq alq kq Sq Pq Vq Fq))), (te, .inl (G 0, 60, .inl (ch t)))] A) ([.ref mo, .int (nI a), .int (nI b)] : List Value).toArray s 0 0 A) (F0 mm 120 ls []) := by
    intro nn120
    induction nn120 with
    | zero => intro c_ h1 h2; exact absurd h2 (by omega)
    | succ nn120 ih120 =>
      intro c_ hkc_ hnc_  H locs hP hD hS ls hl
      refine lv_iload hx hb dX6_swap_120 (lv_at hl 0 rfl) ?_
      refine lv_aload_n hx hb dX6_swap_122 rfl (lv_at hl 3 rfl) ?_
      refine cVr (As := []) (rest := [.int (nI c_)]) ⟨hx, hb, hml, hown, hts⟩ hP hK hD hS hN hA (mX6_cells l D G mo sa be ke te (mn kn) ty ik n tn k (ex N a b) (tw Z c_) S (sw0 P S tn) V F (po + (S 1)) rd al (by first | assumption | omega)) (cwV 0 hts gX6_swap_X6_cells rfl rfl rfl (by decide +kernel) ⟨Nat.le_of_ble_eq_true rfl, Nat.le_of_ble_eq_true rfl⟩) [0, 1] rfl (by decide) 0 6 rfl rfl rfl hl.1 rfl (Nat.le_of_ble_eq_true rfl) dX6_swap_123 ⟨Nat.zero_le _, Nat.zero_le _⟩ (fun H locs hP hS => ?_)
      refine bGe (tgt := 166) hx hb dX6_swap_126 (by decide) (by omega) (by omega) (fun c8 => ?_) (fun c8 => ?_)
      · obtain rfl : n * n = c_ := by omega
        obtain ⟨hP, hD⟩ := wI (g := enc n (ex N a b) (tw Z 16) tn (po + (S 1)) rd al k S (sw0 P S tn) V F) hP hD 1 rfl (fun j hj => enc_cZ (fun c hc => tw_16 (by omega) hZ) j hj)
        replace hP : va_P D vwCl [(mo, .inr (6, [.ref sa, .ref be, .int (nI (mn kn)), .ref ke, .int (zB ik), .ref te, .int (nI ty)])), (sa, .inl (G 0, 117, .inl (enc n (ex N a b) (tw Z 16) tn (po + (S 1)) rd al k S (sw0 P S tn) V F))), (be, .inl (G 0, 468, .inl (bf (kB B kn (enc n N Z tn po rd al k S P V F))))), (ke, .inl (G 0, 117, .inl (enc nq Nq Zq tnq poq rdq alq kq Sq Pq Vq Fq))), (te, .inl (G 0, 60, .inl (ch t)))] _ := hP
        have hD : va_D A [(mo, .inr (6, [.ref sa, .ref be, .int (nI (mn kn)), .ref ke, .int (zB ik), .ref te, .int (nI ty)])), (sa, .inl (G 0, 117, .inl (enc n (ex N a b) (tw Z 16) tn (po + (S 1)) rd al k S (sw0 P S tn) V F))), (be, .inl (G 0, 468, .inl (bf (kB B kn (enc n N Z tn po rd al k S P V F))))), (ke, .inl (G 0, 117, .inl (enc nq Nq Zq tnq poq rdq alq kq Sq Pq Vq Fq))), (te, .inl (G 0, 60, .inl (ch t)))] := hD
        refine lv_aload_n hx hb dX6_swap_166 rfl (lv_at hl 3 rfl) ?_
        refine va_get (D := D) (ci := 6) (v := .ref sa) (C := RX6) (T := TX6) (N := 7) hx hb hts inX6 hown hK hP 0 rfl rfl 0 (by decide) k7 (fun _ h9 => h9) rfl dX6_swap_167 ?_
        refine lv_iconst (v := nI 3) hx hb dX6_swap_170 (by decide +kernel) ?_
        refine lv_dup2_11 hx hb dX6_swap_171 rfl rfl ?_
        refine rIald hx hb hK hP 1 rfl 3 (by omega) (by decide) dX6_swap_172 ?_
        refine rTop (show enc n (ex N a b) (tw Z 16) tn (po + (S 1)) rd al k S (sw0 P S tn) V F 3 = rd from rfl) ?_
        refine lv_iconst (v := nI 1) hx hb dX6_swap_173 (by decide +kernel) ?_
        refine lv_iadd hx hb dX6_swap_174 ?_
        refine rIast hx hb hK hP hD hS 1 rfl 3 (by omega) (by decide) dX6_swap_175 (fun H locs hP hD hS => ?_)
        obtain ⟨hP, hD⟩ := wI (g := enc n (ex N a b) (tw Z 16) tn (po + (S 1)) (rd + nI 1) al k S (sw0 P S tn) V F) hP hD 1 rfl (enc_w3 n (ex N a b) (tw Z 16) tn (po + (S 1)) rd al k S (sw0 P S tn) V F (rd + nI 1))
        replace hP : va_P D vwCl [(mo, .inr (6, [.ref sa, .ref be, .int (nI (mn kn)), .ref ke, .int (zB ik), .ref te, .int (nI ty)])), (sa, .inl (G 0, 117, .inl (enc n (ex N a b) (tw Z 16) tn (po + (S 1)) (rd + nI 1) al k S (sw0 P S tn) V F))), (be, .inl (G 0, 468, .inl (bf (kB B kn (enc n N Z tn po rd al k S P V F))))), (ke, .inl (G 0, 117, .inl (enc nq Nq Zq tnq poq rdq alq kq Sq Pq Vq Fq))), (te, .inl (G 0, 60, .inl (ch t)))] _ := hP
        have hD : va_D A [(mo, .inr (6, [.ref sa, .ref be, .int (nI (mn kn)), .ref ke, .int (zB ik), .ref te, .int (nI ty)])), (sa, .inl (G 0, 117, .inl (enc n (ex N a b) (tw Z 16) tn (po + (S 1)) (rd + nI 1) al k S (sw0 P S tn) V F))), (be, .inl (G 0, 468, .inl (bf (kB B kn (enc n N Z tn po rd al k S P V F))))), (ke, .inl (G 0, 117, .inl (enc nq Nq Zq tnq poq rdq alq kq Sq Pq Vq Fq))), (te, .inl (G 0, 60, .inl (ch t)))] := hD
        refine lv_aload_n hx hb dX6_swap_176 rfl (lv_at hl 3 rfl) ?_
        refine va_get (D := D) (ci := 6) (v := .ref sa) (C := RX6) (T := TX6) (N := 7) hx hb hts inX6 hown hK hP 0 rfl rfl 0 (by decide) k7 (fun _ h9 => h9) rfl dX6_swap_177 ?_
        refine lv_iconst (v := nI 4) hx hb dX6_swap_180 (by decide +kernel) ?_
        refine lv_dup2_11 hx hb dX6_swap_181 rfl rfl ?_
        refine rIald hx hb hK hP 1 rfl 4 (by omega) (by decide) dX6_swap_182 ?_
        refine rTop (show enc n (ex N a b) (tw Z 16) tn (po + (S 1)) (rd + nI 1) al k S (sw0 P S tn) V F 4 = al from rfl) ?_
        refine lv_iconst (v := nI 1) hx hb dX6_swap_183 (by decide +kernel) ?_
        refine lv_iadd hx hb dX6_swap_184 ?_
        refine rIast hx hb hK hP hD hS 1 rfl 4 (by omega) (by decide) dX6_swap_185 (fun H locs hP hD hS => ?_)
        obtain ⟨hP, hD⟩ := wI (g := enc n (ex N a b) (tw Z 16) tn (po + (S 1)) (rd + nI 1) (al + nI 1) k S (sw0 P S tn) V F) hP hD 1 rfl (enc_w4 n (ex N a b) (tw Z 16) tn (po + (S 1)) (rd + nI 1) al k S (sw0 P S tn) V F (al + nI 1))
        replace hP : va_P D vwCl [(mo, .inr (6, [.ref sa, .ref be, .int (nI (mn kn)), .ref ke, .int (zB ik), .ref te, .int (nI ty)])), (sa, .inl (G 0, 117, .inl (enc n (ex N a b) (tw Z 16) tn (po + (S 1)) (rd + nI 1) (al + nI 1) k S (sw0 P S tn) V F))), (be, .inl (G 0, 468, .inl (bf (kB B kn (enc n N Z tn po rd al k S P V F))))), (ke, .inl (G 0, 117, .inl (enc nq Nq Zq tnq poq rdq alq kq Sq Pq Vq Fq))), (te, .inl (G 0, 60, .inl (ch t)))] _ := hP
        have hD : va_D A [(mo, .inr (6, [.ref sa, .ref be, .int (nI (mn kn)), .ref ke, .int (zB ik), .ref te, .int (nI ty)])), (sa, .inl (G 0, 117, .inl (enc n (ex N a b) (tw Z 16) tn (po + (S 1)) (rd + nI 1) (al + nI 1) k S (sw0 P S tn) V F))), (be, .inl (G 0, 468, .inl (bf (kB B kn (enc n N Z tn po rd al k S P V F))))), (ke, .inl (G 0, 117, .inl (enc nq Nq Zq tnq poq rdq alq kq Sq Pq Vq Fq))), (te, .inl (G 0, 60, .inl (ch t)))] := hD
        refine lv_aload_n hx hb dX6_swap_186 rfl (lv_at hl 3 rfl) ?_
        refine va_get (D := D) (ci := 6) (v := .ref sa) (C := RX6) (T := TX6) (N := 7) hx hb hts inX6 hown hK hP 0 rfl rfl 0 (by decide) k7 (fun _ h9 => h9) rfl dX6_swap_187 ?_
        refine lv_iconst (v := nI 3) hx hb dX6_swap_190 (by decide +kernel) ?_
        refine rIald hx hb hK hP 1 rfl 3 (by omega) (by decide) dX6_swap_191 ?_
        refine rTop (show enc n (ex N a b) (tw Z 16) tn (po + (S 1)) (rd + nI 1) (al + nI 1) k S (sw0 P S tn) V F 3 = (rd + nI 1) from rfl) ?_
        refine lv_aload_n hx hb dX6_swap_192 rfl (lv_at hl 3 rfl) ?_
        refine va_get (D := D) (ci := 6) (v := .ref sa) (C := RX6) (T := TX6) (N := 7) hx hb hts inX6 hown hK hP 0 rfl rfl 0 (by decide) k7 (fun _ h9 => h9) rfl dX6_swap_193 ?_
        refine lv_bipush (v := nI 6) hx hb dX6_swap_196 (by decide +kernel) ?_
        refine rIald hx hb hK hP 1 rfl 6 (by omega) (by decide) dX6_swap_198 ?_
        refine rTop (show enc n (ex N a b) (tw Z 16) tn (po + (S 1)) (rd + nI 1) (al + nI 1) k S (sw0 P S tn) V F 6 = S 0 from enc_S n (ex N a b) (tw Z 16) tn (po + (S 1)) (rd + nI 1) (al + nI 1) k S (sw0 P S tn) V F 0 (by omega)) ?_
        refine lv_icmp_lt (tgt := 213) hx hb dX6_swap_199 (by decide)  (fun c9 => ?_) (fun c9 => absurd hR c9)
        refine lv_iload hx hb dX6_swap_213 (lv_at hl 1 rfl) ?_
        refine iNe (tgt := 256) hx hb dX6_swap_215 (by decide) (by omega) (fun c10 => by exfalso; omega) (fun c10 => ?_)
        refine lv_aload_n hx hb dX6_swap_218 rfl (lv_at hl 3 rfl) ?_
        refine cVr (As := []) (rest := []) ⟨hx, hb, hml, hown, hts⟩ hP hK hD hS hN hA (mX6_wayOff l D G mo sa be ke te (mn kn) ty ik n tn k (ex N a b) (tw Z 16) S (sw0 P S tn) V F (po + (S 1)) (rd + nI 1) (al + nI 1) (by first | assumption | omega)) (cwV 0 hts gX6_swap_X6_wayOff rfl rfl rfl (by decide +kernel) ⟨Nat.le_of_ble_eq_true rfl, Nat.le_of_ble_eq_true rfl⟩) [0, 1] rfl (by decide) 0 6 rfl rfl rfl hl.1 rfl (Nat.le_of_ble_eq_true rfl) dX6_swap_219 ⟨Nat.zero_le _, Nat.zero_le _⟩ (fun H locs hP hS => ?_)
        refine lv_if_ne (tgt := 256) hx hb dX6_swap_222 (by decide)  (fun c11 => absurd hW.2 c11) (fun c11 => ?_)
        refine lv_aload_n hx hb dX6_swap_225 rfl (lv_at hl 3 rfl) ?_
        refine lv_iload_n hx hb dX6_swap_226 rfl (lv_at hl 2 rfl) ?_
        refine lv_aload_n hx hb dX6_swap_227 rfl (lv_at hl 3 rfl) ?_
        refine va_get (D := D) (ci := 6) (v := .ref sa) (C := RX6) (T := TX6) (N := 7) hx hb hts inX6 hown hK hP 0 rfl rfl 0 (by decide) k7 (fun _ h9 => h9) rfl dX6_swap_228 ?_
        refine lv_iconst (v := nI 2) hx hb dX6_swap_231 (by decide +kernel) ?_
        refine rIald hx hb hK hP 1 rfl 2 (by omega) (by decide) dX6_swap_232 ?_
        refine rTop (show enc n (ex N a b) (tw Z 16) tn (po + (S 1)) (rd + nI 1) (al + nI 1) k S (sw0 P S tn) V F 2 = po + (S 1) from rfl) ?_
        refine cV (As := [.int (nI tn), .int (po + (S 1))]) (rest := []) ⟨hx, hb, hml, hown, hts⟩ hP hK hD hS hN hA (mX6_gain l D G mo sa be ke te (mn kn) ty ik n tn k (ex N a b) (tw Z 16) S (sw0 P S tn) V F (po + (S 1)) (rd + nI 1) (al + nI 1) tn (po + (S 1)) (by first | assumption | omega)) (cwV 2 hts gX6_swap_X6_gain rfl rfl rfl (by decide +kernel) ⟨Nat.le_of_ble_eq_true rfl, Nat.le_of_ble_eq_true rfl⟩) [0, 1] rfl (by decide) (Eq.trans (b := [mo, sa]) rfl rfl) 0 6 rfl rfl rfl hl.1 rfl (Nat.le_of_ble_eq_true rfl) dX6_swap_233 ⟨Nat.zero_le _, Nat.zero_le _⟩ (fun H locs hP hD hS => ?_)
        have hP : va_P D vwCl [(mo, .inr (6, [.ref sa, .ref be, .int (nI (mn kn)), .ref ke, .int (zB ik), .ref te, .int (nI ty)])), (sa, .inl (G 0, 117, .inl (enc n (ex N a b) (tw Z 16) tn (po + (S 1)) (rd + nI 1) (al + nI 1) k S (upd (sw0 P S tn) tn (cap ((sw0 P S tn) tn + (po + (S 1))))) V F))), (be, .inl (G 0, 468, .inl (bf (kB B kn (enc n N Z tn po rd al k S P V F))))), (ke, .inl (G 0, 117, .inl (enc nq Nq Zq tnq poq rdq alq kq Sq Pq Vq Fq))), (te, .inl (G 0, 60, .inl (ch t)))] H := hP
        have hD : va_D A [(mo, .inr (6, [.ref sa, .ref be, .int (nI (mn kn)), .ref ke, .int (zB ik), .ref te, .int (nI ty)])), (sa, .inl (G 0, 117, .inl (enc n (ex N a b) (tw Z 16) tn (po + (S 1)) (rd + nI 1) (al + nI 1) k S (upd (sw0 P S tn) tn (cap ((sw0 P S tn) tn + (po + (S 1))))) V F))), (be, .inl (G 0, 468, .inl (bf (kB B kn (enc n N Z tn po rd al k S P V F))))), (ke, .inl (G 0, 117, .inl (enc nq Nq Zq tnq poq rdq alq kq Sq Pq Vq Fq))), (te, .inl (G 0, 60, .inl (ch t)))] := hD
        refine lv_aload_n hx hb dX6_swap_236 rfl (lv_at hl 3 rfl) ?_
        refine va_get (D := D) (ci := 6) (v := .ref sa) (C := RX6) (T := TX6) (N := 7) hx hb hts inX6 hown hK hP 0 rfl rfl 0 (by decide) k7 (fun _ h9 => h9) rfl dX6_swap_237 ?_
        refine lv_iconst (v := nI 2) hx hb dX6_swap_240 (by decide +kernel) ?_
        refine lv_iconst (v := nI 0) hx hb dX6_swap_241 (by decide +kernel) ?_
        refine rIast hx hb hK hP hD hS 1 rfl 2 (by omega) (by decide) dX6_swap_242 (fun H locs hP hD hS => ?_)
        obtain ⟨hP, hD⟩ := wI (g := enc n (ex N a b) (tw Z 16) tn (nI 0) (rd + nI 1) (al + nI 1) k S (upd (sw0 P S tn) tn (cap ((sw0 P S tn) tn + (po + (S 1))))) V F) hP hD 1 rfl (enc_w2 n (ex N a b) (tw Z 16) tn (po + (S 1)) (rd + nI 1) (al + nI 1) k S (upd (sw0 P S tn) tn (cap ((sw0 P S tn) tn + (po + (S 1))))) V F (nI 0))
        replace hP : va_P D vwCl [(mo, .inr (6, [.ref sa, .ref be, .int (nI (mn kn)), .ref ke, .int (zB ik), .ref te, .int (nI ty)])), (sa, .inl (G 0, 117, .inl (enc n (ex N a b) (tw Z 16) tn (nI 0) (rd + nI 1) (al + nI 1) k S (upd (sw0 P S tn) tn (cap ((sw0 P S tn) tn + (po + (S 1))))) V F))), (be, .inl (G 0, 468, .inl (bf (kB B kn (enc n N Z tn po rd al k S P V F))))), (ke, .inl (G 0, 117, .inl (enc nq Nq Zq tnq poq rdq alq kq Sq Pq Vq Fq))), (te, .inl (G 0, 60, .inl (ch t)))] _ := hP
        have hD : va_D A [(mo, .inr (6, [.ref sa, .ref be, .int (nI (mn kn)), .ref ke, .int (zB ik), .ref te, .int (nI ty)])), (sa, .inl (G 0, 117, .inl (enc n (ex N a b) (tw Z 16) tn (nI 0) (rd + nI 1) (al + nI 1) k S (upd (sw0 P S tn) tn (cap ((sw0 P S tn) tn + (po + (S 1))))) V F))), (be, .inl (G 0, 468, .inl (bf (kB B kn (enc n N Z tn po rd al k S P V F))))), (ke, .inl (G 0, 117, .inl (enc nq Nq Zq tnq poq rdq alq kq Sq Pq Vq Fq))), (te, .inl (G 0, 60, .inl (ch t)))] := hD
        refine lv_aload_n hx hb dX6_swap_243 rfl (lv_at hl 3 rfl) ?_
        refine va_get (D := D) (ci := 6) (v := .ref sa) (C := RX6) (T := TX6) (N := 7) hx hb hts inX6 hown hK hP 0 rfl rfl 0 (by decide) k7 (fun _ h9 => h9) rfl dX6_swap_244 ?_
        refine lv_bipush (v := nI 12) hx hb dX6_swap_247 (by decide +kernel) ?_
        refine lv_iload_n hx hb dX6_swap_249 rfl (lv_at hl 2 rfl) ?_
        refine lv_iadd hx hb dX6_swap_250 ?_
        refine rTop (show nI 12 + nI tn = nI (12 + tn) from nI_add 12 tn) ?_
        refine lv_dup2_11 hx hb dX6_swap_251 rfl rfl ?_
        refine rIald hx hb hK hP 1 rfl (12 + tn) (by omega) (by decide) dX6_swap_252 ?_
        refine rTop (enc_V n (ex N a b) (tw Z 16) tn (nI 0) (rd + nI 1) (al + nI 1) k S (upd (sw0 P S tn) tn (cap ((sw0 P S tn) tn + (po + (S 1))))) V F tn (by omega)) ?_
        refine lv_iconst (v := nI 1) hx hb dX6_swap_253 (by decide +kernel) ?_
        refine lv_iadd hx hb dX6_swap_254 ?_
        refine rIast hx hb hK hP hD hS 1 rfl (12 + tn) (by omega) (by decide) dX6_swap_255 (fun H locs hP hD hS => ?_)
        obtain ⟨hP, hD⟩ := wI (g := enc n (ex N a b) (tw Z 16) tn (nI 0) (rd + nI 1) (al + nI 1) k S (upd (sw0 P S tn) tn (cap ((sw0 P S tn) tn + (po + (S 1))))) (upd V tn (V tn + nI 1)) F) hP hD 1 rfl (enc_wV n (ex N a b) (tw Z 16) tn (nI 0) (rd + nI 1) (al + nI 1) k S (upd (sw0 P S tn) tn (cap ((sw0 P S tn) tn + (po + (S 1))))) V F tn (by omega) (V tn + nI 1))
        replace hP : va_P D vwCl [(mo, .inr (6, [.ref sa, .ref be, .int (nI (mn kn)), .ref ke, .int (zB ik), .ref te, .int (nI ty)])), (sa, .inl (G 0, 117, .inl (enc n (ex N a b) (tw Z 16) tn (nI 0) (rd + nI 1) (al + nI 1) k S (upd (sw0 P S tn) tn (cap ((sw0 P S tn) tn + (po + (S 1))))) (upd V tn (V tn + nI 1)) F))), (be, .inl (G 0, 468, .inl (bf (kB B kn (enc n N Z tn po rd al k S P V F))))), (ke, .inl (G 0, 117, .inl (enc nq Nq Zq tnq poq rdq alq kq Sq Pq Vq Fq))), (te, .inl (G 0, 60, .inl (ch t)))] _ := hP
        have hD : va_D A [(mo, .inr (6, [.ref sa, .ref be, .int (nI (mn kn)), .ref ke, .int (zB ik), .ref te, .int (nI ty)])), (sa, .inl (G 0, 117, .inl (enc n (ex N a b) (tw Z 16) tn (nI 0) (rd + nI 1) (al + nI 1) k S (upd (sw0 P S tn) tn (cap ((sw0 P S tn) tn + (po + (S 1))))) (upd V tn (V tn + nI 1)) F))), (be, .inl (G 0, 468, .inl (bf (kB B kn (enc n N Z tn po rd al k S P V F))))), (ke, .inl (G 0, 117, .inl (enc nq Nq Zq tnq poq rdq alq kq Sq Pq Vq Fq))), (te, .inl (G 0, 60, .inl (ch t)))] := hD
        refine lv_aload_n hx hb dX6_swap_256 rfl (lv_at hl 3 rfl) ?_
        refine cV (As := []) (rest := []) ⟨hx, hb, hml, hown, hts⟩ hP hK hD hS hN hA (mX6_nextTurn l D G mo sa be ke te (mn kn) ty ik n tn k (ex N a b) (tw Z 16) S (upd (sw0 P S tn) tn (cap ((sw0 P S tn) tn + (po + (S 1))))) (upd V tn (V tn + nI 1)) F (nI 0) (rd + nI 1) (al + nI 1) (by first | assumption | omega)) (cwV 0 hts gX6_swap_X6_nextTurn rfl rfl rfl (by decide +kernel) ⟨Nat.le_of_ble_eq_true rfl, Nat.le_of_ble_eq_true rfl⟩) [0, 1] rfl (by decide) (Eq.trans (b := [mo, sa]) rfl rfl) 0 6 rfl rfl rfl hl.1 rfl (Nat.le_of_ble_eq_true rfl) dX6_swap_257 ⟨Nat.zero_le _, Nat.zero_le _⟩ (fun H locs hP hD hS => ?_)
        have hP : va_P D vwCl [(mo, .inr (6, [.ref sa, .ref be, .int (nI (mn kn)), .ref ke, .int (zB ik), .ref te, .int (nI ty)])), (sa, .inl (G 0, 117, .inl (enc n (ex N a b) (tw Z 16) (nx tn) (nI 0) (rd + nI 1) (al + nI 1) k S (upd (sw0 P S tn) tn (cap ((sw0 P S tn) tn + (po + (S 1))))) (upd V tn (V tn + nI 1)) F))), (be, .inl (G 0, 468, .inl (bf (kB B kn (enc n N Z tn po rd al k S P V F))))), (ke, .inl (G 0, 117, .inl (enc nq Nq Zq tnq poq rdq alq kq Sq Pq Vq Fq))), (te, .inl (G 0, 60, .inl (ch t)))] H := hP
        have hD : va_D A [(mo, .inr (6, [.ref sa, .ref be, .int (nI (mn kn)), .ref ke, .int (zB ik), .ref te, .int (nI ty)])), (sa, .inl (G 0, 117, .inl (enc n (ex N a b) (tw Z 16) (nx tn) (nI 0) (rd + nI 1) (al + nI 1) k S (upd (sw0 P S tn) tn (cap ((sw0 P S tn) tn + (po + (S 1))))) (upd V tn (V tn + nI 1)) F))), (be, .inl (G 0, 468, .inl (bf (kB B kn (enc n N Z tn po rd al k S P V F))))), (ke, .inl (G 0, 117, .inl (enc nq Nq Zq tnq poq rdq alq kq Sq Pq Vq Fq))), (te, .inl (G 0, 60, .inl (ch t)))] := hD
        refine lv_aload_n hx hb dX6_swap_260 rfl (lv_at hl 3 rfl) ?_
        refine cVr (As := []) (rest := []) ⟨hx, hb, hml, hown, hts⟩ hP hK hD hS hN hA (mX6_magicLines l D G mo sa be ke te (mn kn) ty ik n (nx tn) k (ex N a b) (tw Z 16) S (upd (sw0 P S tn) tn (cap ((sw0 P S tn) tn + (po + (S 1))))) (upd V tn (V tn + nI 1)) F (nI 0) (rd + nI 1) (al + nI 1) (by first | assumption | omega)) (cwV 0 hts gX6_swap_X6_magicLines rfl rfl rfl (by decide +kernel) ⟨Nat.le_of_ble_eq_true rfl, Nat.le_of_ble_eq_true rfl⟩) [0, 1] rfl (by decide) 0 6 rfl rfl rfl hl.1 rfl (Nat.le_of_ble_eq_true rfl) dX6_swap_261 ⟨Nat.zero_le _, Nat.zero_le _⟩ (fun H locs hP hS => ?_)
        obtain ⟨hP, hD⟩ := wI (g := enc n (ex N a b) (tw Z 16) (nx tn) (swO (swS n N F (odR F) P S tn po k a b false) true) (swD rd false) (al + nI 1) (swK k false) S (swP (swS n N F (odR F) P S tn po k a b false) tn true) (swV V tn true) F) hP hD 1 rfl (fun j hj => by simp only [swP, swS, swV, swO, swK, swD])
        replace hP : va_P D vwCl [(mo, .inr (6, [.ref sa, .ref be, .int (nI (mn kn)), .ref ke, .int (zB ik), .ref te, .int (nI ty)])), (sa, .inl (G 0, 117, .inl (enc n (ex N a b) (tw Z 16) (nx tn) (swO (swS n N F (odR F) P S tn po k a b false) true) (swD rd false) (al + nI 1) (swK k false) S (swP (swS n N F (odR F) P S tn po k a b false) tn true) (swV V tn true) F))), (be, .inl (G 0, 468, .inl (bf (kB B kn (enc n N Z tn po rd al k S P V F))))), (ke, .inl (G 0, 117, .inl (enc nq Nq Zq tnq poq rdq alq kq Sq Pq Vq Fq))), (te, .inl (G 0, 60, .inl (ch t)))] _ := hP
        have hD : va_D A [(mo, .inr (6, [.ref sa, .ref be, .int (nI (mn kn)), .ref ke, .int (zB ik), .ref te, .int (nI ty)])), (sa, .inl (G 0, 117, .inl (enc n (ex N a b) (tw Z 16) (nx tn) (swO (swS n N F (odR F) P S tn po k a b false) true) (swD rd false) (al + nI 1) (swK k false) S (swP (swS n N F (odR F) P S tn po k a b false) tn true) (swV V tn true) F))), (be, .inl (G 0, 468, .inl (bf (kB B kn (enc n N Z tn po rd al k S P V F))))), (ke, .inl (G 0, 117, .inl (enc nq Nq Zq tnq poq rdq alq kq Sq Pq Vq Fq))), (te, .inl (G 0, 60, .inl (ch t)))] := hD
        exact rIret hx hb hr hlk hP hK hD hS dX6_swap_264
      · refine lv_aload_n hx hb dX6_swap_129 rfl (lv_at hl 3 rfl) ?_
        refine va_get (D := D) (ci := 6) (v := .ref sa) (C := RX6) (T := TX6) (N := 7) hx hb hts inX6 hown hK hP 0 rfl rfl 0 (by decide) k7 (fun _ h9 => h9) rfl dX6_swap_130 ?_
        refine lv_bipush (v := nI 31) hx hb dX6_swap_133 (by decide +kernel) ?_
        refine lv_iload hx hb dX6_swap_135 (lv_at hl 0 rfl) ?_
        refine lv_iadd hx hb dX6_swap_137 ?_
        refine rTop (show nI 31 + nI c_ = nI (31 + c_) from nI_add 31 c_) ?_
        refine lv_dup2_11 hx hb dX6_swap_138 rfl rfl ?_
        refine rIald hx hb hK hP 1 rfl (31 + c_) (by omega) (by decide) dX6_swap_139 ?_
        refine rTop (enc_Z n (ex N a b) (tw Z c_) tn (po + (S 1)) rd al k S (sw0 P S tn) V F c_ (by omega)) ?_
        refine lv_aload_n hx hb dX6_swap_140 rfl (lv_at hl 3 rfl) ?_
        refine va_get (D := D) (ci := 6) (v := .ref sa) (C := RX6) (T := TX6) (N := 7) hx hb hts inX6 hown hK hP 0 rfl rfl 0 (by decide) k7 (fun _ h9 => h9) rfl dX6_swap_141 ?_
        refine lv_bipush (v := nI 31) hx hb dX6_swap_144 (by decide +kernel) ?_
        refine lv_iload hx hb dX6_swap_146 (lv_at hl 0 rfl) ?_
        refine lv_iadd hx hb dX6_swap_148 ?_
        refine rTop (show nI 31 + nI c_ = nI (31 + c_) from nI_add 31 c_) ?_
        refine rIald hx hb hK hP 1 rfl (31 + c_) (by omega) (by decide) dX6_swap_149 ?_
        refine rTop (enc_Z n (ex N a b) (tw Z c_) tn (po + (S 1)) rd al k S (sw0 P S tn) V F c_ (by omega)) ?_
        refine lv_if_le (tgt := 157) hx hb dX6_swap_150 (by decide)  (fun c12 => ?_) (fun c12 => ?_)
        · refine lv_iconst (v := nI 0) hx hb dX6_swap_157 (by decide +kernel) ?_
          refine lv_isub hx hb dX6_swap_158 ?_
          refine rIast hx hb hK hP hD hS 1 rfl (31 + c_) (by omega) (by decide) dX6_swap_159 (fun H locs hP hD hS => ?_)
          obtain ⟨hP, hD⟩ := wI (g := enc n (ex N a b) (upd (tw Z c_) c_ ((tw Z c_) c_ - nI 0)) tn (po + (S 1)) rd al k S (sw0 P S tn) V F) hP hD 1 rfl (enc_wZ n (ex N a b) (tw Z c_) tn (po + (S 1)) rd al k S (sw0 P S tn) V F c_ (by omega) ((tw Z c_) c_ - nI 0))
          replace hP : va_P D vwCl [(mo, .inr (6, [.ref sa, .ref be, .int (nI (mn kn)), .ref ke, .int (zB ik), .ref te, .int (nI ty)])), (sa, .inl (G 0, 117, .inl (enc n (ex N a b) (upd (tw Z c_) c_ ((tw Z c_) c_ - nI 0)) tn (po + (S 1)) rd al k S (sw0 P S tn) V F))), (be, .inl (G 0, 468, .inl (bf (kB B kn (enc n N Z tn po rd al k S P V F))))), (ke, .inl (G 0, 117, .inl (enc nq Nq Zq tnq poq rdq alq kq Sq Pq Vq Fq))), (te, .inl (G 0, 60, .inl (ch t)))] _ := hP
          have hD : va_D A [(mo, .inr (6, [.ref sa, .ref be, .int (nI (mn kn)), .ref ke, .int (zB ik), .ref te, .int (nI ty)])), (sa, .inl (G 0, 117, .inl (enc n (ex N a b) (upd (tw Z c_) c_ ((tw Z c_) c_ - nI 0)) tn (po + (S 1)) rd al k S (sw0 P S tn) V F))), (be, .inl (G 0, 468, .inl (bf (kB B kn (enc n N Z tn po rd al k S P V F))))), (ke, .inl (G 0, 117, .inl (enc nq Nq Zq tnq poq rdq alq kq Sq Pq Vq Fq))), (te, .inl (G 0, 60, .inl (ch t)))] := hD
          refine lv_iinc (v := nI (c_ + 1)) (lv' := [(5, .int (nI (c_ + 1))), (4, .int (nI 0)), (3, .int (nI tn)), (0, .ref mo), (1, .int (nI a)), (2, .int (nI b))]) hx hb dX6_swap_160 hl (k := 0) rfl (nI_inc c_) (by decide) rfl (fun ls hl => ?_)
          refine lv_goto (tgt := 120) hx hb dX6_swap_163 (by decide) ?_
          obtain ⟨hP, hD⟩ := wI (g := enc n (ex N a b) (tw Z (c_ + 1)) tn (po + (S 1)) rd al k S (sw0 P S tn) V F) hP hD 1 rfl (fun j hj => congrFun (congrArg (fun NN => enc n (ex N a b) NN tn (po + (S 1)) rd al k S (sw0 P S tn) V F) (show upd (tw Z c_) c_ ((tw Z c_) c_ - nI 0) = tw Z (c_ + 1) from by first | exact tw_ra (by assumption) | exact tw_rb (by assumption))) j)
          replace hP : va_P D vwCl [(mo, .inr (6, [.ref sa, .ref be, .int (nI (mn kn)), .ref ke, .int (zB ik), .ref te, .int (nI ty)])), (sa, .inl (G 0, 117, .inl (enc n (ex N a b) (tw Z (c_ + 1)) tn (po + (S 1)) rd al k S (sw0 P S tn) V F))), (be, .inl (G 0, 468, .inl (bf (kB B kn (enc n N Z tn po rd al k S P V F))))), (ke, .inl (G 0, 117, .inl (enc nq Nq Zq tnq poq rdq alq kq Sq Pq Vq Fq))), (te, .inl (G 0, 60, .inl (ch t)))] _ := hP
          have hD : va_D A [(mo, .inr (6, [.ref sa, .ref be, .int (nI (mn kn)), .ref ke, .int (zB ik), .ref te, .int (nI ty)])), (sa, .inl (G 0, 117, .inl (enc n (ex N a b) (tw Z (c_ + 1)) tn (po + (S 1)) rd al k S (sw0 P S tn) V F))), (be, .inl (G 0, 468, .inl (bf (kB B kn (enc n N Z tn po rd al k S P V F))))), (ke, .inl (G 0, 117, .inl (enc nq Nq Zq tnq poq rdq alq kq Sq Pq Vq Fq))), (te, .inl (G 0, 60, .inl (ch t)))] := hD
          exact ih120 (c_ + 1) (by omega) (by omega)  _ _ hP hD hS _ (lv_sub hl [0, 1, 2, 3, 4, 5] rfl)
        · refine lv_iconst (v := nI 1) hx hb dX6_swap_153 (by decide +kernel) ?_
          refine lv_goto (tgt := 158) hx hb dX6_swap_154 (by decide) ?_
          refine lv_isub hx hb dX6_swap_158 ?_
          refine rIast hx hb hK hP hD hS 1 rfl (31 + c_) (by omega) (by decide) dX6_swap_159 (fun H locs hP hD hS => ?_)
          obtain ⟨hP, hD⟩ := wI (g := enc n (ex N a b) (upd (tw Z c_) c_ ((tw Z c_) c_ - nI 1)) tn (po + (S 1)) rd al k S (sw0 P S tn) V F) hP hD 1 rfl (enc_wZ n (ex N a b) (tw Z c_) tn (po + (S 1)) rd al k S (sw0 P S tn) V F c_ (by omega) ((tw Z c_) c_ - nI 1))
          replace hP : va_P D vwCl [(mo, .inr (6, [.ref sa, .ref be, .int (nI (mn kn)), .ref ke, .int (zB ik), .ref te, .int (nI ty)])), (sa, .inl (G 0, 117, .inl (enc n (ex N a b) (upd (tw Z c_) c_ ((tw Z c_) c_ - nI 1)) tn (po + (S 1)) rd al k S (sw0 P S tn) V F))), (be, .inl (G 0, 468, .inl (bf (kB B kn (enc n N Z tn po rd al k S P V F))))), (ke, .inl (G 0, 117, .inl (enc nq Nq Zq tnq poq rdq alq kq Sq Pq Vq Fq))), (te, .inl (G 0, 60, .inl (ch t)))] _ := hP
          have hD : va_D A [(mo, .inr (6, [.ref sa, .ref be, .int (nI (mn kn)), .ref ke, .int (zB ik), .ref te, .int (nI ty)])), (sa, .inl (G 0, 117, .inl (enc n (ex N a b) (upd (tw Z c_) c_ ((tw Z c_) c_ - nI 1)) tn (po + (S 1)) rd al k S (sw0 P S tn) V F))), (be, .inl (G 0, 468, .inl (bf (kB B kn (enc n N Z tn po rd al k S P V F))))), (ke, .inl (G 0, 117, .inl (enc nq Nq Zq tnq poq rdq alq kq Sq Pq Vq Fq))), (te, .inl (G 0, 60, .inl (ch t)))] := hD
          refine lv_iinc (v := nI (c_ + 1)) (lv' := [(5, .int (nI (c_ + 1))), (4, .int (nI 0)), (3, .int (nI tn)), (0, .ref mo), (1, .int (nI a)), (2, .int (nI b))]) hx hb dX6_swap_160 hl (k := 0) rfl (nI_inc c_) (by decide) rfl (fun ls hl => ?_)
          refine lv_goto (tgt := 120) hx hb dX6_swap_163 (by decide) ?_
          obtain ⟨hP, hD⟩ := wI (g := enc n (ex N a b) (tw Z (c_ + 1)) tn (po + (S 1)) rd al k S (sw0 P S tn) V F) hP hD 1 rfl (fun j hj => congrFun (congrArg (fun NN => enc n (ex N a b) NN tn (po + (S 1)) rd al k S (sw0 P S tn) V F) (show upd (tw Z c_) c_ ((tw Z c_) c_ - nI 1) = tw Z (c_ + 1) from by first | exact tw_ra (by assumption) | exact tw_rb (by assumption))) j)
          replace hP : va_P D vwCl [(mo, .inr (6, [.ref sa, .ref be, .int (nI (mn kn)), .ref ke, .int (zB ik), .ref te, .int (nI ty)])), (sa, .inl (G 0, 117, .inl (enc n (ex N a b) (tw Z (c_ + 1)) tn (po + (S 1)) rd al k S (sw0 P S tn) V F))), (be, .inl (G 0, 468, .inl (bf (kB B kn (enc n N Z tn po rd al k S P V F))))), (ke, .inl (G 0, 117, .inl (enc nq Nq Zq tnq poq rdq alq kq Sq Pq Vq Fq))), (te, .inl (G 0, 60, .inl (ch t)))] _ := hP
          have hD : va_D A [(mo, .inr (6, [.ref sa, .ref be, .int (nI (mn kn)), .ref ke, .int (zB ik), .ref te, .int (nI ty)])), (sa, .inl (G 0, 117, .inl (enc n (ex N a b) (tw Z (c_ + 1)) tn (po + (S 1)) rd al k S (sw0 P S tn) V F))), (be, .inl (G 0, 468, .inl (bf (kB B kn (enc n N Z tn po rd al k S P V F))))), (ke, .inl (G 0, 117, .inl (enc nq Nq Zq tnq poq rdq alq kq Sq Pq Vq Fq))), (te, .inl (G 0, 60, .inl (ch t)))] := hD
          exact ih120 (c_ + 1) (by omega) (by omega)  _ _ hP hD hS _ (lv_sub hl [0, 1, 2, 3, 4, 5] rfl)
  obtain ⟨hP, hD⟩ := wI (g := enc n (ex N a b) (tw Z 0) tn (po + (S 1)) rd al k S (sw0 P S tn) V F) hP hD 1 rfl (fun j hj => by rw [tw_0])
  replace hP : va_P D vwCl [(mo, .inr (6, [.ref sa, .ref be, .int (nI (mn kn)), .ref ke, .int (zB ik), .ref te, .int (nI ty)])), (sa, .inl (G 0, 117, .inl (enc n (ex N a b) (tw Z 0) tn (po + (S 1)) rd al k S (sw0 P S tn) V F))), (be, .inl (G 0, 468, .inl (bf (kB B kn (enc n N Z tn po rd al k S P V F))))), (ke, .inl (G 0, 117, .inl (enc nq Nq Zq tnq poq rdq alq kq Sq Pq Vq Fq))), (te, .inl (G 0, 60, .inl (ch t)))] _ := hP
  have hD : va_D A [(mo, .inr (6, [.ref sa, .ref be, .int (nI (mn kn)), .ref ke, .int (zB ik), .ref te, .int (nI ty)])), (sa, .inl (G 0, 117, .inl (enc n (ex N a b) (tw Z 0) tn (po + (S 1)) rd al k S (sw0 P S tn) V F))), (be, .inl (G 0, 468, .inl (bf (kB B kn (enc n N Z tn po rd al k S P V F))))), (ke, .inl (G 0, 117, .inl (enc nq Nq Zq tnq poq rdq alq kq Sq Pq Vq Fq))), (te, .inl (G 0, 60, .inl (ch t)))] := hD
  exact LP120 (n * n + 1 - 0) 0 (by omega) (by omega)  _ _ hP hD hS _ (lv_sub hl [0, 1, 2, 3, 4, 5] rfl)

set_option maxHeartbeats 4000000 in
set_option maxRecDepth 100000 in
theorem mX6_swap_10 (l : Launch) (D : va_G) (G : Nat → ClassId) (mo sa be ke te kn ty : Nat) (ik : Bool) (n tn k : Nat) (N Z S P V : Nat → Int32) (F : Nat → Nat → Int32) (po rd al : Int32) (B : Nat → Nat → Int32) (nq tnq kq : Nat) (Nq Zq Sq Pq Vq : Nat → Int32) (Fq : Nat → Nat → Int32) (poq rdq alq : Int32) (t : Nat → Nat) (a b : Nat) (hkn : kn ≤ 4) (hn : n = 3 ∨ n = 4) (hk : k ≤ 10) (ht : tn < 3) (hSO : SOK n k F) (hN1 : NOK n N) (hSM : SMK k F) (hRF : RFD k F) (hxn : NOK n (ex N a b)) (haq : a < n * n) (hbq : b < n * n) (hZ : ∀ c, n * n ≤ c → Z c = nI 0) (hcap : cap (P tn + (-S 1)) = P tn - S 1) (hR : ¬ (rd + nI 1) < S 0) (hW : wof n N = 0 ∨ ¬ wof n (ex N a b) = 0) (hE : swE n Z P S tn (nI a) (nI b) = 0) : CT l yX6_swap wsX6_swap 5 115 D G [.ref mo, .int (nI a), .int (nI b)] [(mo, .inr (6, [.ref sa, .ref be, .int (nI kn), .ref ke, .int (zB ik), .ref te, .int (nI ty)])), (sa, .inl (G 0, 117, .inl (enc n N Z tn po rd al k S P V F))), (be, .inl (G 0, 468, .inl (bf B))), (ke, .inl (G 0, 117, .inl (enc nq Nq Zq tnq poq rdq alq kq Sq Pq Vq Fq))), (te, .inl (G 0, 60, .inl (ch t)))] [(mo, .inr (6, [.ref sa, .ref be, .int (nI (mn kn)), .ref ke, .int (zB ik), .ref te, .int (nI ty)])), (sa, .inl (G 0, 117, .inl (enc n (ex N a b) (tw Z 16) (nx tn) (swO (swS n N F (odR F) P S tn po k a b true) false) (swD rd true) (al + nI 1) (swK k true) S (swP (swS n N F (odR F) P S tn po k a b true) tn false) (swV V tn false) F))), (be, .inl (G 0, 468, .inl (bf (kB B kn (enc n N Z tn po rd al k S P V F))))), (ke, .inl (G 0, 117, .inl (enc nq Nq Zq tnq poq rdq alq kq Sq Pq Vq Fq))), (te, .inl (G 0, 60, .inl (ch t)))] (some (.int (nI (mcn n (ex N a b))))) := by
  refine CT.of (cc := cX6_swap) (maxL := 6) (ret := (some .int)) (by decide) rfl RX6 rfl (Nat.le_of_ble_eq_true rfl) (fun pp ee s mm bl me cc A ls hx hb hr hml hts hown hlk hnm hA hP hK hD hN hS hl => ?_)
  have hl : lv_has ls 6 [(0, .ref mo), (1, .int (nI a)), (2, .int (nI b))] := hl
  have hP : va_P D vwCl [(mo, .inr (6, [.ref sa, .ref be, .int (nI kn), .ref ke, .int (zB ik), .ref te, .int (nI ty)])), (sa, .inl (G 0, 117, .inl (enc n N Z tn po rd al k S P V F))), (be, .inl (G 0, 468, .inl (bf B))), (ke, .inl (G 0, 117, .inl (enc nq Nq Zq tnq poq rdq alq kq Sq Pq Vq Fq))), (te, .inl (G 0, 60, .inl (ch t)))] s.heap := hP
  have inX6 : ∀ w ∈ wsX60, w ∈ wsX6_swap := fun w h => List.mem_cons_of_mem _ (List.mem_append_right _ h)
  have k7 := hts (.fieldLink RX6 7 "SquareStakesModel" "s" "[I") (List.mem_of_getElem? (i := 1) rfl)
  have hq9 : n * n < 17 ∧ 0 < n * n := by rcases hn with rfl | rfl <;> decide
  refine lv_aload_n hx hb dX6_swap_0 rfl (lv_at hl 0 rfl) ?_
  refine lv_iload_n hx hb dX6_swap_1 rfl (lv_at hl 1 rfl) ?_
  refine cVr (As := [.int (nI a)]) (rest := []) ⟨hx, hb, hml, hown, hts⟩ hP hK hD hS hN hA (mX6_isCell l D G mo sa be ke te kn ty ik n tn k N Z S P V F po rd al (nI a) (by first | assumption | omega)) (cwV 1 hts gX6_swap_X6_isCell rfl rfl rfl (by decide +kernel) ⟨Nat.le_of_ble_eq_true rfl, Nat.le_of_ble_eq_true rfl⟩) [0, 1] rfl (by decide) 0 6 rfl rfl rfl hl.1 rfl (Nat.le_of_ble_eq_true rfl) dX6_swap_2 ⟨Nat.zero_le _, Nat.zero_le _⟩ (fun H locs hP hS => ?_)
  refine zEq (tgt := 16) hx hb dX6_swap_5 (by decide)  (fun c1 => absurd (c1) (by rw [inB_nI (by omega), decide_eq_true haq]; decide)) (fun c1 => ?_)
  refine lv_aload_n hx hb dX6_swap_8 rfl (lv_at hl 0 rfl) ?_
  refine lv_iload_n hx hb dX6_swap_9 rfl (lv_at hl 2 rfl) ?_
  refine cVr (As := [.int (nI b)]) (rest := []) ⟨hx, hb, hml, hown, hts⟩ hP hK hD hS hN hA (mX6_isCell l D G mo sa be ke te kn ty ik n tn k N Z S P V F po rd al (nI b) (by first | assumption | omega)) (cwV 1 hts gX6_swap_X6_isCell rfl rfl rfl (by decide +kernel) ⟨Nat.le_of_ble_eq_true rfl, Nat.le_of_ble_eq_true rfl⟩) [0, 1] rfl (by decide) 0 6 rfl rfl rfl hl.1 rfl (Nat.le_of_ble_eq_true rfl) dX6_swap_10 ⟨Nat.zero_le _, Nat.zero_le _⟩ (fun H locs hP hS => ?_)
  refine zNe (tgt := 18) hx hb dX6_swap_13 (by decide)  (fun c2 => ?_) (fun c2 => absurd (c2) (by rw [inB_nI (by omega), decide_eq_true hbq]; decide))
  refine lv_iload_n hx hb dX6_swap_18 rfl (lv_at hl 1 rfl) ?_
  refine lv_iload_n hx hb dX6_swap_19 rfl (lv_at hl 2 rfl) ?_
  refine bNe (tgt := 26) hx hb dX6_swap_20 (by decide) (by omega) (by omega) (fun c3 => ?_) (fun c3 => absurd (hE.symm.trans (by rw [swE_in haq hbq (by omega), if_pos c3])) (by decide))
  refine lv_aload_n hx hb dX6_swap_26 rfl (lv_at hl 0 rfl) ?_
  refine va_get (D := D) (ci := 6) (v := .ref sa) (C := RX6) (T := TX6) (N := 7) hx hb hts inX6 hown hK hP 0 rfl rfl 0 (by decide) k7 (fun _ h9 => h9) rfl dX6_swap_27 ?_
  refine lv_bipush (v := nI 31) hx hb dX6_swap_30 (by decide +kernel) ?_
  refine lv_iload_n hx hb dX6_swap_32 rfl (lv_at hl 1 rfl) ?_
  refine lv_iadd hx hb dX6_swap_33 ?_
  refine rTop (show nI 31 + nI a = nI (31 + a) from nI_add 31 a) ?_
  refine rIald hx hb hK hP 1 rfl (31 + a) (by omega) (by decide) dX6_swap_34 ?_
  refine rTop (enc_Z n N Z tn po rd al k S P V F a (by omega)) ?_
  refine lv_if_gt (tgt := 50) hx hb dX6_swap_35 (by decide)  (fun c4 => absurd (hE.symm.trans (by rw [swE_in haq hbq (by omega), if_neg (by omega), if_pos (Or.inl c4)])) (by decide)) (fun c4 => ?_)
  refine lv_aload_n hx hb dX6_swap_38 rfl (lv_at hl 0 rfl) ?_
  refine va_get (D := D) (ci := 6) (v := .ref sa) (C := RX6) (T := TX6) (N := 7) hx hb hts inX6 hown hK hP 0 rfl rfl 0 (by decide) k7 (fun _ h9 => h9) rfl dX6_swap_39 ?_
  refine lv_bipush (v := nI 31) hx hb dX6_swap_42 (by decide +kernel) ?_
  refine lv_iload_n hx hb dX6_swap_44 rfl (lv_at hl 2 rfl) ?_
  refine lv_iadd hx hb dX6_swap_45 ?_
  refine rTop (show nI 31 + nI b = nI (31 + b) from nI_add 31 b) ?_
  refine rIald hx hb hK hP 1 rfl (31 + b) (by omega) (by decide) dX6_swap_46 ?_
  refine rTop (enc_Z n N Z tn po rd al k S P V F b (by omega)) ?_
  refine lv_if_le (tgt := 53) hx hb dX6_swap_47 (by decide)  (fun c5 => ?_) (fun c5 => absurd (hE.symm.trans (by rw [swE_in haq hbq (by omega), if_neg (by omega), if_pos (Or.inr (Int32.not_le.mp c5))])) (by decide))
  refine lv_aload_n hx hb dX6_swap_53 rfl (lv_at hl 0 rfl) ?_
  refine va_get (D := D) (ci := 6) (v := .ref sa) (C := RX6) (T := TX6) (N := 7) hx hb hts inX6 hown hK hP 0 rfl rfl 0 (by decide) k7 (fun _ h9 => h9) rfl dX6_swap_54 ?_
  refine lv_iconst (v := nI 1) hx hb dX6_swap_57 (by decide +kernel) ?_
  refine rIald hx hb hK hP 1 rfl 1 (by omega) (by decide) dX6_swap_58 ?_
  refine rTop (show enc n N Z tn po rd al k S P V F 1 = nI tn from rfl) ?_
  refine lv_istore_n (lv' := [(3, .int (nI tn)), (0, .ref mo), (1, .int (nI a)), (2, .int (nI b))]) hx hb dX6_swap_59 rfl hl (by decide) rfl (fun ls hl => ?_)
  refine lv_aload_n hx hb dX6_swap_60 rfl (lv_at hl 1 rfl) ?_
  refine va_get (D := D) (ci := 6) (v := .ref sa) (C := RX6) (T := TX6) (N := 7) hx hb hts inX6 hown hK hP 0 rfl rfl 0 (by decide) k7 (fun _ h9 => h9) rfl dX6_swap_61 ?_
  refine lv_bipush (v := nI 9) hx hb dX6_swap_64 (by decide +kernel) ?_
  refine lv_iload_n hx hb dX6_swap_66 rfl (lv_at hl 0 rfl) ?_
  refine lv_iadd hx hb dX6_swap_67 ?_
  refine rTop (show nI 9 + nI tn = nI (9 + tn) from nI_add 9 tn) ?_
  refine rIald hx hb hK hP 1 rfl (9 + tn) (by omega) (by decide) dX6_swap_68 ?_
  refine rTop (enc_P n N Z tn po rd al k S P V F tn (by omega)) ?_
  refine lv_aload_n hx hb dX6_swap_69 rfl (lv_at hl 1 rfl) ?_
  refine va_get (D := D) (ci := 6) (v := .ref sa) (C := RX6) (T := TX6) (N := 7) hx hb hts inX6 hown hK hP 0 rfl rfl 0 (by decide) k7 (fun _ h9 => h9) rfl dX6_swap_70 ?_
  refine lv_bipush (v := nI 7) hx hb dX6_swap_73 (by decide +kernel) ?_
  refine rIald hx hb hK hP 1 rfl 7 (by omega) (by decide) dX6_swap_75 ?_
  refine rTop (show enc n N Z tn po rd al k S P V F 7 = S 1 from enc_S n N Z tn po rd al k S P V F 1 (by omega)) ?_
  refine lv_icmp_ge (tgt := 82) hx hb dX6_swap_76 (by decide)  (fun c6 => ?_) (fun c6 => absurd (hE.symm.trans (by rw [swE_in haq hbq (by omega), if_neg (by omega), if_neg (nle2 (by assumption) (by assumption)), if_pos (Int32.not_le.mp c6)])) (by decide))
  refine lv_aload_n hx hb dX6_swap_82 rfl (lv_at hl 1 rfl) ?_
  refine cV (As := []) (rest := []) ⟨hx, hb, hml, hown, hts⟩ hP hK hD hS hN hA (mX6_know l D G mo sa be ke te kn ty ik n tn k N Z S P V F po rd al B (by first | assumption | omega)) (cwV 0 hts gX6_swap_X6_know rfl rfl rfl (by decide +kernel) ⟨Nat.le_of_ble_eq_true rfl, Nat.le_of_ble_eq_true rfl⟩) [0, 1, 2] rfl (by decide) (Eq.trans (b := [mo, sa, be]) rfl rfl) 0 6 rfl rfl rfl hl.1 rfl (Nat.le_of_ble_eq_true rfl) dX6_swap_83 ⟨Nat.zero_le _, Nat.zero_le _⟩ (fun H locs hP hD hS => ?_)
  have hP : va_P D vwCl [(mo, .inr (6, [.ref sa, .ref be, .int (nI (mn kn)), .ref ke, .int (zB ik), .ref te, .int (nI ty)])), (sa, .inl (G 0, 117, .inl (enc n N Z tn po rd al k S P V F))), (be, .inl (G 0, 468, .inl (bf (kB B kn (enc n N Z tn po rd al k S P V F))))), (ke, .inl (G 0, 117, .inl (enc nq Nq Zq tnq poq rdq alq kq Sq Pq Vq Fq))), (te, .inl (G 0, 60, .inl (ch t)))] H := hP
  have hD : va_D A [(mo, .inr (6, [.ref sa, .ref be, .int (nI (mn kn)), .ref ke, .int (zB ik), .ref te, .int (nI ty)])), (sa, .inl (G 0, 117, .inl (enc n N Z tn po rd al k S P V F))), (be, .inl (G 0, 468, .inl (bf (kB B kn (enc n N Z tn po rd al k S P V F))))), (ke, .inl (G 0, 117, .inl (enc nq Nq Zq tnq poq rdq alq kq Sq Pq Vq Fq))), (te, .inl (G 0, 60, .inl (ch t)))] := hD
  refine lv_aload_n hx hb dX6_swap_86 rfl (lv_at hl 1 rfl) ?_
  refine lv_aload_n hx hb dX6_swap_87 rfl (lv_at hl 1 rfl) ?_
  refine va_get (D := D) (ci := 6) (v := .ref sa) (C := RX6) (T := TX6) (N := 7) hx hb hts inX6 hown hK hP 0 rfl rfl 0 (by decide) k7 (fun _ h9 => h9) rfl dX6_swap_88 ?_
  refine lv_bipush (v := nI 7) hx hb dX6_swap_91 (by decide +kernel) ?_
  refine rIald hx hb hK hP 1 rfl 7 (by omega) (by decide) dX6_swap_93 ?_
  refine rTop (show enc n N Z tn po rd al k S P V F 7 = S 1 from enc_S n N Z tn po rd al k S P V F 1 (by omega)) ?_
  refine cV (As := [.int (S 1)]) (rest := []) ⟨hx, hb, hml, hown, hts⟩ hP hK hD hS hN hA (mX6_spend l D G mo sa be ke te (mn kn) ty ik n tn k N Z S P V F po rd al (S 1) (by first | assumption | omega)) (cwV 1 hts gX6_swap_X6_spend rfl rfl rfl (by decide +kernel) ⟨Nat.le_of_ble_eq_true rfl, Nat.le_of_ble_eq_true rfl⟩) [0, 1] rfl (by decide) (Eq.trans (b := [mo, sa]) rfl rfl) 0 6 rfl rfl rfl hl.1 rfl (Nat.le_of_ble_eq_true rfl) dX6_swap_94 ⟨Nat.zero_le _, Nat.zero_le _⟩ (fun H locs hP hD hS => ?_)
  have hP : va_P D vwCl [(mo, .inr (6, [.ref sa, .ref be, .int (nI (mn kn)), .ref ke, .int (zB ik), .ref te, .int (nI ty)])), (sa, .inl (G 0, 117, .inl (enc n N Z tn (po + (S 1)) rd al k S (upd P tn (P tn - (S 1))) V F))), (be, .inl (G 0, 468, .inl (bf (kB B kn (enc n N Z tn po rd al k S P V F))))), (ke, .inl (G 0, 117, .inl (enc nq Nq Zq tnq poq rdq alq kq Sq Pq Vq Fq))), (te, .inl (G 0, 60, .inl (ch t)))] H := hP
  have hD : va_D A [(mo, .inr (6, [.ref sa, .ref be, .int (nI (mn kn)), .ref ke, .int (zB ik), .ref te, .int (nI ty)])), (sa, .inl (G 0, 117, .inl (enc n N Z tn (po + (S 1)) rd al k S (upd P tn (P tn - (S 1))) V F))), (be, .inl (G 0, 468, .inl (bf (kB B kn (enc n N Z tn po rd al k S P V F))))), (ke, .inl (G 0, 117, .inl (enc nq Nq Zq tnq poq rdq alq kq Sq Pq Vq Fq))), (te, .inl (G 0, 60, .inl (ch t)))] := hD
  obtain ⟨hP, hD⟩ := wI (g := enc n N Z tn (po + (S 1)) rd al k S (sw0 P S tn) V F) hP hD 1 rfl (fun j hj => by rw [sw0, hcap])
  replace hP : va_P D vwCl [(mo, .inr (6, [.ref sa, .ref be, .int (nI (mn kn)), .ref ke, .int (zB ik), .ref te, .int (nI ty)])), (sa, .inl (G 0, 117, .inl (enc n N Z tn (po + (S 1)) rd al k S (sw0 P S tn) V F))), (be, .inl (G 0, 468, .inl (bf (kB B kn (enc n N Z tn po rd al k S P V F))))), (ke, .inl (G 0, 117, .inl (enc nq Nq Zq tnq poq rdq alq kq Sq Pq Vq Fq))), (te, .inl (G 0, 60, .inl (ch t)))] _ := hP
  have hD : va_D A [(mo, .inr (6, [.ref sa, .ref be, .int (nI (mn kn)), .ref ke, .int (zB ik), .ref te, .int (nI ty)])), (sa, .inl (G 0, 117, .inl (enc n N Z tn (po + (S 1)) rd al k S (sw0 P S tn) V F))), (be, .inl (G 0, 468, .inl (bf (kB B kn (enc n N Z tn po rd al k S P V F))))), (ke, .inl (G 0, 117, .inl (enc nq Nq Zq tnq poq rdq alq kq Sq Pq Vq Fq))), (te, .inl (G 0, 60, .inl (ch t)))] := hD
  refine lv_aload_n hx hb dX6_swap_97 rfl (lv_at hl 1 rfl) ?_
  refine cVr (As := []) (rest := []) ⟨hx, hb, hml, hown, hts⟩ hP hK hD hS hN hA (mX6_wayOff l D G mo sa be ke te (mn kn) ty ik n tn k N Z S (sw0 P S tn) V F (po + (S 1)) rd al (by first | assumption | omega)) (cwV 0 hts gX6_swap_X6_wayOff rfl rfl rfl (by decide +kernel) ⟨Nat.le_of_ble_eq_true rfl, Nat.le_of_ble_eq_true rfl⟩) [0, 1] rfl (by decide) 0 6 rfl rfl rfl hl.1 rfl (Nat.le_of_ble_eq_true rfl) dX6_swap_98 ⟨Nat.zero_le _, Nat.zero_le _⟩ (fun H locs hP hS => ?_)
  refine lv_if_ne (tgt := 108) hx hb dX6_swap_101 (by decide)  (fun c7 => ?_) (fun c7 => ?_)
  · refine lv_iconst (v := nI 0) hx hb dX6_swap_108 (by decide +kernel) ?_
    refine lv_istore (lv' := [(4, .int (nI 0)), (3, .int (nI tn)), (0, .ref mo), (1, .int (nI a)), (2, .int (nI b))]) hx hb dX6_swap_109 hl (by decide) rfl (fun ls hl => ?_)
    refine lv_aload_n hx hb dX6_swap_111 rfl (lv_at hl 2 rfl) ?_
    refine lv_iload_n hx hb dX6_swap_112 rfl (lv_at hl 3 rfl) ?_
    refine lv_iload_n hx hb dX6_swap_113 rfl (lv_at hl 4 rfl) ?_
    refine cV (As := [.int (nI a), .int (nI b)]) (rest := []) ⟨hx, hb, hml, hown, hts⟩ hP hK hD hS hN hA (mX6_exchange l D G mo sa be ke te (mn kn) ty ik n tn k N Z S (sw0 P S tn) V F (po + (S 1)) rd al a b (by first | assumption | omega) (by first | assumption | omega)) (cwV 2 hts gX6_swap_X6_exchange rfl rfl rfl (by decide +kernel) ⟨Nat.le_of_ble_eq_true rfl, Nat.le_of_ble_eq_true rfl⟩) [0, 1] rfl (by decide) (Eq.trans (b := [mo, sa]) rfl rfl) 0 6 rfl rfl rfl hl.1 rfl (Nat.le_of_ble_eq_true rfl) dX6_swap_114 ⟨Nat.zero_le _, Nat.zero_le _⟩ (fun H locs hP hD hS => ?_)
    have hP : va_P D vwCl [(mo, .inr (6, [.ref sa, .ref be, .int (nI (mn kn)), .ref ke, .int (zB ik), .ref te, .int (nI ty)])), (sa, .inl (G 0, 117, .inl (enc n (ex N a b) Z tn (po + (S 1)) rd al k S (sw0 P S tn) V F))), (be, .inl (G 0, 468, .inl (bf (kB B kn (enc n N Z tn po rd al k S P V F))))), (ke, .inl (G 0, 117, .inl (enc nq Nq Zq tnq poq rdq alq kq Sq Pq Vq Fq))), (te, .inl (G 0, 60, .inl (ch t)))] H := hP
    have hD : va_D A [(mo, .inr (6, [.ref sa, .ref be, .int (nI (mn kn)), .ref ke, .int (zB ik), .ref te, .int (nI ty)])), (sa, .inl (G 0, 117, .inl (enc n (ex N a b) Z tn (po + (S 1)) rd al k S (sw0 P S tn) V F))), (be, .inl (G 0, 468, .inl (bf (kB B kn (enc n N Z tn po rd al k S P V F))))), (ke, .inl (G 0, 117, .inl (enc nq Nq Zq tnq poq rdq alq kq Sq Pq Vq Fq))), (te, .inl (G 0, 60, .inl (ch t)))] := hD
    refine lv_iconst (v := nI 0) hx hb dX6_swap_117 (by decide +kernel) ?_
    refine lv_istore (lv' := [(5, .int (nI 0)), (4, .int (nI 0)), (3, .int (nI tn)), (0, .ref mo), (1, .int (nI a)), (2, .int (nI b))]) hx hb dX6_swap_118 hl (by decide) rfl (fun ls hl => ?_)
    have LP120 : ∀ (nn120 c_ : Nat), c_ ≤ (n * n) → (n * n) < c_ + nn120  → ∀ (H : Heap) (locs : List Loc), va_P D vwCl [(mo, .inr (6, [.ref sa, .ref be, .int (nI (mn kn)), .ref ke, .int (zB ik), .ref te, .int (nI ty)])), (sa, .inl (G 0, 117, .inl (enc n (ex N a b) (tw Z c_) tn (po + (S 1)) rd al k S (sw0 P S tn) V F))), (be, .inl (G 0, 468, .inl (bf (kB B kn (enc n N Z tn po rd al k S P V F))))), (ke, .inl (G 0, 117, .inl (enc nq Nq Zq tnq poq rdq alq kq Sq Pq Vq Fq))), (te, .inl (G 0, 60, .inl (ch t)))] H → va_D A [(mo, .inr (6, [.ref sa, .ref be, .int (nI (mn kn)), .ref ke, .int (zB ik), .ref te, .int (nI ty)])), (sa, .inl (G 0, 117, .inl (enc n (ex N a b) (tw Z c_) tn (po + (S 1)) rd al k S (sw0 P S tn) V F))), (be, .inl (G 0, 468, .inl (bf (kB B kn (enc n N Z tn po rd al k S P V F))))), (ke, .inl (G 0, 117, .inl (enc nq Nq Zq tnq poq rdq alq kq Sq Pq Vq Fq))), (te, .inl (G 0, 60, .inl (ch t)))] → va_S A s.heap H locs → ∀ ls : Array Slot, lv_has ls 6 [(5, .int (nI c_)), (4, .int (nI 0)), (3, .int (nI tn)), (0, .ref mo), (1, .int (nI a)), (2, .int (nI b))] → W pp l ee (rmA 5 115) s mm ([.ref mo, .int (nI a), .int (nI b)] : List Value).toArray bl me cc H locs 0 0 (MQ bl (Qres (some (.int (nI (mcn n (ex N a b))))) D G [(mo, .inr (6, [.ref sa, .ref be, .int (nI (mn kn)), .ref ke, .int (zB ik), .ref te, .int (nI ty)])), (sa, .inl (G 0, 117, .inl (enc n (ex N a b) (tw Z 16) (nx tn) (swO (swS n N F (odR F) P S tn po k a b true) false) (swD rd true) (al + nI 1) (swK k true) S (swP (swS n N F (odR F) P S tn po k a b true) tn false) (swV V tn false) F))), (be, .inl (G 0, 468, .inl (bf (kB B kn (enc n N Z tn po rd al k S P V F))))), (ke, .inl (G 0, 117, .inl (enc nq Nq Zq tnq poq rdq alq kq Sq Pq Vq Fq))), (te, .inl (G 0, 60, .inl (ch t)))] A) ([.ref mo, .int (nI a), .int (nI b)] : List Value).toArray s 0 0 A) (F0 mm 120 ls []) := by
      intro nn120
      induction nn120 with
      | zero => intro c_ h1 h2; exact absurd h2 (by omega)
      | succ nn120 ih120 =>
        intro c_ hkc_ hnc_  H locs hP hD hS ls hl
        refine lv_iload hx hb dX6_swap_120 (lv_at hl 0 rfl) ?_
        refine lv_aload_n hx hb dX6_swap_122 rfl (lv_at hl 3 rfl) ?_
        refine cVr (As := []) (rest := [.int (nI c_)]) ⟨hx, hb, hml, hown, hts⟩ hP hK hD hS hN hA (mX6_cells l D G mo sa be ke te (mn kn) ty ik n tn k (ex N a b) (tw Z c_) S (sw0 P S tn) V F (po + (S 1)) rd al (by first | assumption | omega)) (cwV 0 hts gX6_swap_X6_cells rfl rfl rfl (by decide +kernel) ⟨Nat.le_of_ble_eq_true rfl, Nat.le_of_ble_eq_true rfl⟩) [0, 1] rfl (by decide) 0 6 rfl rfl rfl hl.1 rfl (Nat.le_of_ble_eq_true rfl) dX6_swap_123 ⟨Nat.zero_le _, Nat.zero_le _⟩ (fun H locs hP hS => ?_)
        refine bGe (tgt := 166) hx hb dX6_swap_126 (by decide) (by omega) (by omega) (fun c8 => ?_) (fun c8 => ?_)
        · obtain rfl : n * n = c_ := by omega
          obtain ⟨hP, hD⟩ := wI (g := enc n (ex N a b) (tw Z 16) tn (po + (S 1)) rd al k S (sw0 P S tn) V F) hP hD 1 rfl (fun j hj => enc_cZ (fun c hc => tw_16 (by omega) hZ) j hj)
          replace hP : va_P D vwCl [(mo, .inr (6, [.ref sa, .ref be, .int (nI (mn kn)), .ref ke, .int (zB ik), .ref te, .int (nI ty)])), (sa, .inl (G 0, 117, .inl (enc n (ex N a b) (tw Z 16) tn (po + (S 1)) rd al k S (sw0 P S tn) V F))), (be, .inl (G 0, 468, .inl (bf (kB B kn (enc n N Z tn po rd al k S P V F))))), (ke, .inl (G 0, 117, .inl (enc nq Nq Zq tnq poq rdq alq kq Sq Pq Vq Fq))), (te, .inl (G 0, 60, .inl (ch t)))] _ := hP
          have hD : va_D A [(mo, .inr (6, [.ref sa, .ref be, .int (nI (mn kn)), .ref ke, .int (zB ik), .ref te, .int (nI ty)])), (sa, .inl (G 0, 117, .inl (enc n (ex N a b) (tw Z 16) tn (po + (S 1)) rd al k S (sw0 P S tn) V F))), (be, .inl (G 0, 468, .inl (bf (kB B kn (enc n N Z tn po rd al k S P V F))))), (ke, .inl (G 0, 117, .inl (enc nq Nq Zq tnq poq rdq alq kq Sq Pq Vq Fq))), (te, .inl (G 0, 60, .inl (ch t)))] := hD
          refine lv_aload_n hx hb dX6_swap_166 rfl (lv_at hl 3 rfl) ?_
          refine va_get (D := D) (ci := 6) (v := .ref sa) (C := RX6) (T := TX6) (N := 7) hx hb hts inX6 hown hK hP 0 rfl rfl 0 (by decide) k7 (fun _ h9 => h9) rfl dX6_swap_167 ?_
          refine lv_iconst (v := nI 3) hx hb dX6_swap_170 (by decide +kernel) ?_
          refine lv_dup2_11 hx hb dX6_swap_171 rfl rfl ?_
          refine rIald hx hb hK hP 1 rfl 3 (by omega) (by decide) dX6_swap_172 ?_
          refine rTop (show enc n (ex N a b) (tw Z 16) tn (po + (S 1)) rd al k S (sw0 P S tn) V F 3 = rd from rfl) ?_
          refine lv_iconst (v := nI 1) hx hb dX6_swap_173 (by decide +kernel) ?_
          refine lv_iadd hx hb dX6_swap_174 ?_
          refine rIast hx hb hK hP hD hS 1 rfl 3 (by omega) (by decide) dX6_swap_175 (fun H locs hP hD hS => ?_)
          obtain ⟨hP, hD⟩ := wI (g := enc n (ex N a b) (tw Z 16) tn (po + (S 1)) (rd + nI 1) al k S (sw0 P S tn) V F) hP hD 1 rfl (enc_w3 n (ex N a b) (tw Z 16) tn (po + (S 1)) rd al k S (sw0 P S tn) V F (rd + nI 1))
          replace hP : va_P D vwCl [(mo, .inr (6, [.ref sa, .ref be, .int (nI (mn kn)), .ref ke, .int (zB ik), .ref te, .int (nI ty)])), (sa, .inl (G 0, 117, .inl (enc n (ex N a b) (tw Z 16) tn (po + (S 1)) (rd + nI 1) al k S (sw0 P S tn) V F))), (be, .inl (G 0, 468, .inl (bf (kB B kn (enc n N Z tn po rd al k S P V F))))), (ke, .inl (G 0, 117, .inl (enc nq Nq Zq tnq poq rdq alq kq Sq Pq Vq Fq))), (te, .inl (G 0, 60, .inl (ch t)))] _ := hP
          have hD : va_D A [(mo, .inr (6, [.ref sa, .ref be, .int (nI (mn kn)), .ref ke, .int (zB ik), .ref te, .int (nI ty)])), (sa, .inl (G 0, 117, .inl (enc n (ex N a b) (tw Z 16) tn (po + (S 1)) (rd + nI 1) al k S (sw0 P S tn) V F))), (be, .inl (G 0, 468, .inl (bf (kB B kn (enc n N Z tn po rd al k S P V F))))), (ke, .inl (G 0, 117, .inl (enc nq Nq Zq tnq poq rdq alq kq Sq Pq Vq Fq))), (te, .inl (G 0, 60, .inl (ch t)))] := hD
          refine lv_aload_n hx hb dX6_swap_176 rfl (lv_at hl 3 rfl) ?_
          refine va_get (D := D) (ci := 6) (v := .ref sa) (C := RX6) (T := TX6) (N := 7) hx hb hts inX6 hown hK hP 0 rfl rfl 0 (by decide) k7 (fun _ h9 => h9) rfl dX6_swap_177 ?_
          refine lv_iconst (v := nI 4) hx hb dX6_swap_180 (by decide +kernel) ?_
          refine lv_dup2_11 hx hb dX6_swap_181 rfl rfl ?_
          refine rIald hx hb hK hP 1 rfl 4 (by omega) (by decide) dX6_swap_182 ?_
          refine rTop (show enc n (ex N a b) (tw Z 16) tn (po + (S 1)) (rd + nI 1) al k S (sw0 P S tn) V F 4 = al from rfl) ?_
          refine lv_iconst (v := nI 1) hx hb dX6_swap_183 (by decide +kernel) ?_
          refine lv_iadd hx hb dX6_swap_184 ?_
          refine rIast hx hb hK hP hD hS 1 rfl 4 (by omega) (by decide) dX6_swap_185 (fun H locs hP hD hS => ?_)
          obtain ⟨hP, hD⟩ := wI (g := enc n (ex N a b) (tw Z 16) tn (po + (S 1)) (rd + nI 1) (al + nI 1) k S (sw0 P S tn) V F) hP hD 1 rfl (enc_w4 n (ex N a b) (tw Z 16) tn (po + (S 1)) (rd + nI 1) al k S (sw0 P S tn) V F (al + nI 1))
          replace hP : va_P D vwCl [(mo, .inr (6, [.ref sa, .ref be, .int (nI (mn kn)), .ref ke, .int (zB ik), .ref te, .int (nI ty)])), (sa, .inl (G 0, 117, .inl (enc n (ex N a b) (tw Z 16) tn (po + (S 1)) (rd + nI 1) (al + nI 1) k S (sw0 P S tn) V F))), (be, .inl (G 0, 468, .inl (bf (kB B kn (enc n N Z tn po rd al k S P V F))))), (ke, .inl (G 0, 117, .inl (enc nq Nq Zq tnq poq rdq alq kq Sq Pq Vq Fq))), (te, .inl (G 0, 60, .inl (ch t)))] _ := hP
          have hD : va_D A [(mo, .inr (6, [.ref sa, .ref be, .int (nI (mn kn)), .ref ke, .int (zB ik), .ref te, .int (nI ty)])), (sa, .inl (G 0, 117, .inl (enc n (ex N a b) (tw Z 16) tn (po + (S 1)) (rd + nI 1) (al + nI 1) k S (sw0 P S tn) V F))), (be, .inl (G 0, 468, .inl (bf (kB B kn (enc n N Z tn po rd al k S P V F))))), (ke, .inl (G 0, 117, .inl (enc nq Nq Zq tnq poq rdq alq kq Sq Pq Vq Fq))), (te, .inl (G 0, 60, .inl (ch t)))] := hD
          refine lv_aload_n hx hb dX6_swap_186 rfl (lv_at hl 3 rfl) ?_
          refine va_get (D := D) (ci := 6) (v := .ref sa) (C := RX6) (T := TX6) (N := 7) hx hb hts inX6 hown hK hP 0 rfl rfl 0 (by decide) k7 (fun _ h9 => h9) rfl dX6_swap_187 ?_
          refine lv_iconst (v := nI 3) hx hb dX6_swap_190 (by decide +kernel) ?_
          refine rIald hx hb hK hP 1 rfl 3 (by omega) (by decide) dX6_swap_191 ?_
          refine rTop (show enc n (ex N a b) (tw Z 16) tn (po + (S 1)) (rd + nI 1) (al + nI 1) k S (sw0 P S tn) V F 3 = (rd + nI 1) from rfl) ?_
          refine lv_aload_n hx hb dX6_swap_192 rfl (lv_at hl 3 rfl) ?_
          refine va_get (D := D) (ci := 6) (v := .ref sa) (C := RX6) (T := TX6) (N := 7) hx hb hts inX6 hown hK hP 0 rfl rfl 0 (by decide) k7 (fun _ h9 => h9) rfl dX6_swap_193 ?_
          refine lv_bipush (v := nI 6) hx hb dX6_swap_196 (by decide +kernel) ?_
          refine rIald hx hb hK hP 1 rfl 6 (by omega) (by decide) dX6_swap_198 ?_
          refine rTop (show enc n (ex N a b) (tw Z 16) tn (po + (S 1)) (rd + nI 1) (al + nI 1) k S (sw0 P S tn) V F 6 = S 0 from enc_S n (ex N a b) (tw Z 16) tn (po + (S 1)) (rd + nI 1) (al + nI 1) k S (sw0 P S tn) V F 0 (by omega)) ?_
          refine lv_icmp_lt (tgt := 213) hx hb dX6_swap_199 (by decide)  (fun c9 => absurd c9 hR) (fun c9 => ?_)
          refine lv_aload_n hx hb dX6_swap_202 rfl (lv_at hl 3 rfl) ?_
          refine cV (As := []) (rest := []) ⟨hx, hb, hml, hown, hts⟩ hP hK hD hS hN hA (mX6_settle l D G mo sa be ke te (mn kn) ty ik n tn k (ex N a b) (tw Z 16) S (sw0 P S tn) V F (po + (S 1)) (rd + nI 1) (al + nI 1) (by first | assumption | omega) (by first | assumption | omega) (by first | assumption | omega) (by first | assumption | omega) (by first | assumption | omega) (by first | assumption | omega)) (cwV 0 hts gX6_swap_X6_settle rfl rfl rfl (by decide +kernel) ⟨Nat.le_of_ble_eq_true rfl, Nat.le_of_ble_eq_true rfl⟩) [0, 1] rfl (by decide) (Eq.trans (b := [mo, sa]) rfl rfl) 0 6 rfl rfl rfl hl.1 rfl (Nat.le_of_ble_eq_true rfl) dX6_swap_203 ⟨Nat.zero_le _, Nat.zero_le _⟩ (fun H locs hP hD hS => ?_)
          have hP : va_P D vwCl [(mo, .inr (6, [.ref sa, .ref be, .int (nI (mn kn)), .ref ke, .int (zB ik), .ref te, .int (nI ty)])), (sa, .inl (G 0, 117, .inl (enc n (ex N a b) (tw Z 16) tn ((stl n (ex N a b) F (odR F) (sw0 P S tn) (po + (S 1)) k).2) (rd + nI 1) (al + nI 1) 0 S ((stl n (ex N a b) F (odR F) (sw0 P S tn) (po + (S 1)) k).1) V F))), (be, .inl (G 0, 468, .inl (bf (kB B kn (enc n N Z tn po rd al k S P V F))))), (ke, .inl (G 0, 117, .inl (enc nq Nq Zq tnq poq rdq alq kq Sq Pq Vq Fq))), (te, .inl (G 0, 60, .inl (ch t)))] H := hP
          have hD : va_D A [(mo, .inr (6, [.ref sa, .ref be, .int (nI (mn kn)), .ref ke, .int (zB ik), .ref te, .int (nI ty)])), (sa, .inl (G 0, 117, .inl (enc n (ex N a b) (tw Z 16) tn ((stl n (ex N a b) F (odR F) (sw0 P S tn) (po + (S 1)) k).2) (rd + nI 1) (al + nI 1) 0 S ((stl n (ex N a b) F (odR F) (sw0 P S tn) (po + (S 1)) k).1) V F))), (be, .inl (G 0, 468, .inl (bf (kB B kn (enc n N Z tn po rd al k S P V F))))), (ke, .inl (G 0, 117, .inl (enc nq Nq Zq tnq poq rdq alq kq Sq Pq Vq Fq))), (te, .inl (G 0, 60, .inl (ch t)))] := hD
          refine lv_aload_n hx hb dX6_swap_206 rfl (lv_at hl 3 rfl) ?_
          refine va_get (D := D) (ci := 6) (v := .ref sa) (C := RX6) (T := TX6) (N := 7) hx hb hts inX6 hown hK hP 0 rfl rfl 0 (by decide) k7 (fun _ h9 => h9) rfl dX6_swap_207 ?_
          refine lv_iconst (v := nI 3) hx hb dX6_swap_210 (by decide +kernel) ?_
          refine lv_iconst (v := nI 0) hx hb dX6_swap_211 (by decide +kernel) ?_
          refine rIast hx hb hK hP hD hS 1 rfl 3 (by omega) (by decide) dX6_swap_212 (fun H locs hP hD hS => ?_)
          obtain ⟨hP, hD⟩ := wI (g := enc n (ex N a b) (tw Z 16) tn ((stl n (ex N a b) F (odR F) (sw0 P S tn) (po + (S 1)) k).2) (nI 0) (al + nI 1) 0 S ((stl n (ex N a b) F (odR F) (sw0 P S tn) (po + (S 1)) k).1) V F) hP hD 1 rfl (enc_w3 n (ex N a b) (tw Z 16) tn ((stl n (ex N a b) F (odR F) (sw0 P S tn) (po + (S 1)) k).2) (rd + nI 1) (al + nI 1) 0 S ((stl n (ex N a b) F (odR F) (sw0 P S tn) (po + (S 1)) k).1) V F (nI 0))
          replace hP : va_P D vwCl [(mo, .inr (6, [.ref sa, .ref be, .int (nI (mn kn)), .ref ke, .int (zB ik), .ref te, .int (nI ty)])), (sa, .inl (G 0, 117, .inl (enc n (ex N a b) (tw Z 16) tn ((stl n (ex N a b) F (odR F) (sw0 P S tn) (po + (S 1)) k).2) (nI 0) (al + nI 1) 0 S ((stl n (ex N a b) F (odR F) (sw0 P S tn) (po + (S 1)) k).1) V F))), (be, .inl (G 0, 468, .inl (bf (kB B kn (enc n N Z tn po rd al k S P V F))))), (ke, .inl (G 0, 117, .inl (enc nq Nq Zq tnq poq rdq alq kq Sq Pq Vq Fq))), (te, .inl (G 0, 60, .inl (ch t)))] _ := hP
          have hD : va_D A [(mo, .inr (6, [.ref sa, .ref be, .int (nI (mn kn)), .ref ke, .int (zB ik), .ref te, .int (nI ty)])), (sa, .inl (G 0, 117, .inl (enc n (ex N a b) (tw Z 16) tn ((stl n (ex N a b) F (odR F) (sw0 P S tn) (po + (S 1)) k).2) (nI 0) (al + nI 1) 0 S ((stl n (ex N a b) F (odR F) (sw0 P S tn) (po + (S 1)) k).1) V F))), (be, .inl (G 0, 468, .inl (bf (kB B kn (enc n N Z tn po rd al k S P V F))))), (ke, .inl (G 0, 117, .inl (enc nq Nq Zq tnq poq rdq alq kq Sq Pq Vq Fq))), (te, .inl (G 0, 60, .inl (ch t)))] := hD
          refine lv_iload hx hb dX6_swap_213 (lv_at hl 1 rfl) ?_
          refine iNe (tgt := 256) hx hb dX6_swap_215 (by decide) (by omega) (fun c10 => by exfalso; omega) (fun c10 => ?_)
          refine lv_aload_n hx hb dX6_swap_218 rfl (lv_at hl 3 rfl) ?_
          refine cVr (As := []) (rest := []) ⟨hx, hb, hml, hown, hts⟩ hP hK hD hS hN hA (mX6_wayOff l D G mo sa be ke te (mn kn) ty ik n tn 0 (ex N a b) (tw Z 16) S ((stl n (ex N a b) F (odR F) (sw0 P S tn) (po + (S 1)) k).1) V F ((stl n (ex N a b) F (odR F) (sw0 P S tn) (po + (S 1)) k).2) (nI 0) (al + nI 1) (by first | assumption | omega)) (cwV 0 hts gX6_swap_X6_wayOff rfl rfl rfl (by decide +kernel) ⟨Nat.le_of_ble_eq_true rfl, Nat.le_of_ble_eq_true rfl⟩) [0, 1] rfl (by decide) 0 6 rfl rfl rfl hl.1 rfl (Nat.le_of_ble_eq_true rfl) dX6_swap_219 ⟨Nat.zero_le _, Nat.zero_le _⟩ (fun H locs hP hS => ?_)
          refine lv_if_ne (tgt := 256) hx hb dX6_swap_222 (by decide)  (fun c11 => ?_) (fun c11 => False.elim (hW.elim (fun z => absurd z (by assumption)) (fun z => absurd c11 z)))
          refine lv_aload_n hx hb dX6_swap_256 rfl (lv_at hl 3 rfl) ?_
          refine cV (As := []) (rest := []) ⟨hx, hb, hml, hown, hts⟩ hP hK hD hS hN hA (mX6_nextTurn l D G mo sa be ke te (mn kn) ty ik n tn 0 (ex N a b) (tw Z 16) S ((stl n (ex N a b) F (odR F) (sw0 P S tn) (po + (S 1)) k).1) V F ((stl n (ex N a b) F (odR F) (sw0 P S tn) (po + (S 1)) k).2) (nI 0) (al + nI 1) (by first | assumption | omega)) (cwV 0 hts gX6_swap_X6_nextTurn rfl rfl rfl (by decide +kernel) ⟨Nat.le_of_ble_eq_true rfl, Nat.le_of_ble_eq_true rfl⟩) [0, 1] rfl (by decide) (Eq.trans (b := [mo, sa]) rfl rfl) 0 6 rfl rfl rfl hl.1 rfl (Nat.le_of_ble_eq_true rfl) dX6_swap_257 ⟨Nat.zero_le _, Nat.zero_le _⟩ (fun H locs hP hD hS => ?_)
          have hP : va_P D vwCl [(mo, .inr (6, [.ref sa, .ref be, .int (nI (mn kn)), .ref ke, .int (zB ik), .ref te, .int (nI ty)])), (sa, .inl (G 0, 117, .inl (enc n (ex N a b) (tw Z 16) (nx tn) ((stl n (ex N a b) F (odR F) (sw0 P S tn) (po + (S 1)) k).2) (nI 0) (al + nI 1) 0 S ((stl n (ex N a b) F (odR F) (sw0 P S tn) (po + (S 1)) k).1) V F))), (be, .inl (G 0, 468, .inl (bf (kB B kn (enc n N Z tn po rd al k S P V F))))), (ke, .inl (G 0, 117, .inl (enc nq Nq Zq tnq poq rdq alq kq Sq Pq Vq Fq))), (te, .inl (G 0, 60, .inl (ch t)))] H := hP
          have hD : va_D A [(mo, .inr (6, [.ref sa, .ref be, .int (nI (mn kn)), .ref ke, .int (zB ik), .ref te, .int (nI ty)])), (sa, .inl (G 0, 117, .inl (enc n (ex N a b) (tw Z 16) (nx tn) ((stl n (ex N a b) F (odR F) (sw0 P S tn) (po + (S 1)) k).2) (nI 0) (al + nI 1) 0 S ((stl n (ex N a b) F (odR F) (sw0 P S tn) (po + (S 1)) k).1) V F))), (be, .inl (G 0, 468, .inl (bf (kB B kn (enc n N Z tn po rd al k S P V F))))), (ke, .inl (G 0, 117, .inl (enc nq Nq Zq tnq poq rdq alq kq Sq Pq Vq Fq))), (te, .inl (G 0, 60, .inl (ch t)))] := hD
          refine lv_aload_n hx hb dX6_swap_260 rfl (lv_at hl 3 rfl) ?_
          refine cVr (As := []) (rest := []) ⟨hx, hb, hml, hown, hts⟩ hP hK hD hS hN hA (mX6_magicLines l D G mo sa be ke te (mn kn) ty ik n (nx tn) 0 (ex N a b) (tw Z 16) S ((stl n (ex N a b) F (odR F) (sw0 P S tn) (po + (S 1)) k).1) V F ((stl n (ex N a b) F (odR F) (sw0 P S tn) (po + (S 1)) k).2) (nI 0) (al + nI 1) (by first | assumption | omega)) (cwV 0 hts gX6_swap_X6_magicLines rfl rfl rfl (by decide +kernel) ⟨Nat.le_of_ble_eq_true rfl, Nat.le_of_ble_eq_true rfl⟩) [0, 1] rfl (by decide) 0 6 rfl rfl rfl hl.1 rfl (Nat.le_of_ble_eq_true rfl) dX6_swap_261 ⟨Nat.zero_le _, Nat.zero_le _⟩ (fun H locs hP hS => ?_)
          obtain ⟨hP, hD⟩ := wI (g := enc n (ex N a b) (tw Z 16) (nx tn) (swO (swS n N F (odR F) P S tn po k a b true) false) (swD rd true) (al + nI 1) (swK k true) S (swP (swS n N F (odR F) P S tn po k a b true) tn false) (swV V tn false) F) hP hD 1 rfl (fun j hj => by simp only [swP, swS, swV, swO, swK, swD])
          replace hP : va_P D vwCl [(mo, .inr (6, [.ref sa, .ref be, .int (nI (mn kn)), .ref ke, .int (zB ik), .ref te, .int (nI ty)])), (sa, .inl (G 0, 117, .inl (enc n (ex N a b) (tw Z 16) (nx tn) (swO (swS n N F (odR F) P S tn po k a b true) false) (swD rd true) (al + nI 1) (swK k true) S (swP (swS n N F (odR F) P S tn po k a b true) tn false) (swV V tn false) F))), (be, .inl (G 0, 468, .inl (bf (kB B kn (enc n N Z tn po rd al k S P V F))))), (ke, .inl (G 0, 117, .inl (enc nq Nq Zq tnq poq rdq alq kq Sq Pq Vq Fq))), (te, .inl (G 0, 60, .inl (ch t)))] _ := hP
          have hD : va_D A [(mo, .inr (6, [.ref sa, .ref be, .int (nI (mn kn)), .ref ke, .int (zB ik), .ref te, .int (nI ty)])), (sa, .inl (G 0, 117, .inl (enc n (ex N a b) (tw Z 16) (nx tn) (swO (swS n N F (odR F) P S tn po k a b true) false) (swD rd true) (al + nI 1) (swK k true) S (swP (swS n N F (odR F) P S tn po k a b true) tn false) (swV V tn false) F))), (be, .inl (G 0, 468, .inl (bf (kB B kn (enc n N Z tn po rd al k S P V F))))), (ke, .inl (G 0, 117, .inl (enc nq Nq Zq tnq poq rdq alq kq Sq Pq Vq Fq))), (te, .inl (G 0, 60, .inl (ch t)))] := hD
          exact rIret hx hb hr hlk hP hK hD hS dX6_swap_264
        · refine lv_aload_n hx hb dX6_swap_129 rfl (lv_at hl 3 rfl) ?_
          refine va_get (D := D) (ci := 6) (v := .ref sa) (C := RX6) (T := TX6) (N := 7) hx hb hts inX6 hown hK hP 0 rfl rfl 0 (by decide) k7 (fun _ h9 => h9) rfl dX6_swap_130 ?_
          refine lv_bipush (v := nI 31) hx hb dX6_swap_133 (by decide +kernel) ?_
          refine lv_iload hx hb dX6_swap_135 (lv_at hl 0 rfl) ?_
          refine lv_iadd hx hb dX6_swap_137 ?_
          refine rTop (show nI 31 + nI c_ = nI (31 + c_) from nI_add 31 c_) ?_
          refine lv_dup2_11 hx hb dX6_swap_138 rfl rfl ?_
          refine rIald hx hb hK hP 1 rfl (31 + c_) (by omega) (by decide) dX6_swap_139 ?_
          refine rTop (enc_Z n (ex N a b) (tw Z c_) tn (po + (S 1)) rd al k S (sw0 P S tn) V F c_ (by omega)) ?_
          refine lv_aload_n hx hb dX6_swap_140 rfl (lv_at hl 3 rfl) ?_
          refine va_get (D := D) (ci := 6) (v := .ref sa) (C := RX6) (T := TX6) (N := 7) hx hb hts inX6 hown hK hP 0 rfl rfl 0 (by decide) k7 (fun _ h9 => h9) rfl dX6_swap_141 ?_
          refine lv_bipush (v := nI 31) hx hb dX6_swap_144 (by decide +kernel) ?_
          refine lv_iload hx hb dX6_swap_146 (lv_at hl 0 rfl) ?_
          refine lv_iadd hx hb dX6_swap_148 ?_
          refine rTop (show nI 31 + nI c_ = nI (31 + c_) from nI_add 31 c_) ?_
          refine rIald hx hb hK hP 1 rfl (31 + c_) (by omega) (by decide) dX6_swap_149 ?_
          refine rTop (enc_Z n (ex N a b) (tw Z c_) tn (po + (S 1)) rd al k S (sw0 P S tn) V F c_ (by omega)) ?_
          refine lv_if_le (tgt := 157) hx hb dX6_swap_150 (by decide)  (fun c12 => ?_) (fun c12 => ?_)
          · refine lv_iconst (v := nI 0) hx hb dX6_swap_157 (by decide +kernel) ?_
            refine lv_isub hx hb dX6_swap_158 ?_
            refine rIast hx hb hK hP hD hS 1 rfl (31 + c_) (by omega) (by decide) dX6_swap_159 (fun H locs hP hD hS => ?_)
            obtain ⟨hP, hD⟩ := wI (g := enc n (ex N a b) (upd (tw Z c_) c_ ((tw Z c_) c_ - nI 0)) tn (po + (S 1)) rd al k S (sw0 P S tn) V F) hP hD 1 rfl (enc_wZ n (ex N a b) (tw Z c_) tn (po + (S 1)) rd al k S (sw0 P S tn) V F c_ (by omega) ((tw Z c_) c_ - nI 0))
            replace hP : va_P D vwCl [(mo, .inr (6, [.ref sa, .ref be, .int (nI (mn kn)), .ref ke, .int (zB ik), .ref te, .int (nI ty)])), (sa, .inl (G 0, 117, .inl (enc n (ex N a b) (upd (tw Z c_) c_ ((tw Z c_) c_ - nI 0)) tn (po + (S 1)) rd al k S (sw0 P S tn) V F))), (be, .inl (G 0, 468, .inl (bf (kB B kn (enc n N Z tn po rd al k S P V F))))), (ke, .inl (G 0, 117, .inl (enc nq Nq Zq tnq poq rdq alq kq Sq Pq Vq Fq))), (te, .inl (G 0, 60, .inl (ch t)))] _ := hP
            have hD : va_D A [(mo, .inr (6, [.ref sa, .ref be, .int (nI (mn kn)), .ref ke, .int (zB ik), .ref te, .int (nI ty)])), (sa, .inl (G 0, 117, .inl (enc n (ex N a b) (upd (tw Z c_) c_ ((tw Z c_) c_ - nI 0)) tn (po + (S 1)) rd al k S (sw0 P S tn) V F))), (be, .inl (G 0, 468, .inl (bf (kB B kn (enc n N Z tn po rd al k S P V F))))), (ke, .inl (G 0, 117, .inl (enc nq Nq Zq tnq poq rdq alq kq Sq Pq Vq Fq))), (te, .inl (G 0, 60, .inl (ch t)))] := hD
            refine lv_iinc (v := nI (c_ + 1)) (lv' := [(5, .int (nI (c_ + 1))), (4, .int (nI 0)), (3, .int (nI tn)), (0, .ref mo), (1, .int (nI a)), (2, .int (nI b))]) hx hb dX6_swap_160 hl (k := 0) rfl (nI_inc c_) (by decide) rfl (fun ls hl => ?_)
            refine lv_goto (tgt := 120) hx hb dX6_swap_163 (by decide) ?_
            obtain ⟨hP, hD⟩ := wI (g := enc n (ex N a b) (tw Z (c_ + 1)) tn (po + (S 1)) rd al k S (sw0 P S tn) V F) hP hD 1 rfl (fun j hj => congrFun (congrArg (fun NN => enc n (ex N a b) NN tn (po + (S 1)) rd al k S (sw0 P S tn) V F) (show upd (tw Z c_) c_ ((tw Z c_) c_ - nI 0) = tw Z (c_ + 1) from by first | exact tw_ra (by assumption) | exact tw_rb (by assumption))) j)
            replace hP : va_P D vwCl [(mo, .inr (6, [.ref sa, .ref be, .int (nI (mn kn)), .ref ke, .int (zB ik), .ref te, .int (nI ty)])), (sa, .inl (G 0, 117, .inl (enc n (ex N a b) (tw Z (c_ + 1)) tn (po + (S 1)) rd al k S (sw0 P S tn) V F))), (be, .inl (G 0, 468, .inl (bf (kB B kn (enc n N Z tn po rd al k S P V F))))), (ke, .inl (G 0, 117, .inl (enc nq Nq Zq tnq poq rdq alq kq Sq Pq Vq Fq))), (te, .inl (G 0, 60, .inl (ch t)))] _ := hP
            have hD : va_D A [(mo, .inr (6, [.ref sa, .ref be, .int (nI (mn kn)), .ref ke, .int (zB ik), .ref te, .int (nI ty)])), (sa, .inl (G 0, 117, .inl (enc n (ex N a b) (tw Z (c_ + 1)) tn (po + (S 1)) rd al k S (sw0 P S tn) V F))), (be, .inl (G 0, 468, .inl (bf (kB B kn (enc n N Z tn po rd al k S P V F))))), (ke, .inl (G 0, 117, .inl (enc nq Nq Zq tnq poq rdq alq kq Sq Pq Vq Fq))), (te, .inl (G 0, 60, .inl (ch t)))] := hD
            exact ih120 (c_ + 1) (by omega) (by omega)  _ _ hP hD hS _ (lv_sub hl [0, 1, 2, 3, 4, 5] rfl)
          · refine lv_iconst (v := nI 1) hx hb dX6_swap_153 (by decide +kernel) ?_
            refine lv_goto (tgt := 158) hx hb dX6_swap_154 (by decide) ?_
            refine lv_isub hx hb dX6_swap_158 ?_
            refine rIast hx hb hK hP hD hS 1 rfl (31 + c_) (by omega) (by decide) dX6_swap_159 (fun H locs hP hD hS => ?_)
            obtain ⟨hP, hD⟩ := wI (g := enc n (ex N a b) (upd (tw Z c_) c_ ((tw Z c_) c_ - nI 1)) tn (po + (S 1)) rd al k S (sw0 P S tn) V F) hP hD 1 rfl (enc_wZ n (ex N a b) (tw Z c_) tn (po + (S 1)) rd al k S (sw0 P S tn) V F c_ (by omega) ((tw Z c_) c_ - nI 1))
            replace hP : va_P D vwCl [(mo, .inr (6, [.ref sa, .ref be, .int (nI (mn kn)), .ref ke, .int (zB ik), .ref te, .int (nI ty)])), (sa, .inl (G 0, 117, .inl (enc n (ex N a b) (upd (tw Z c_) c_ ((tw Z c_) c_ - nI 1)) tn (po + (S 1)) rd al k S (sw0 P S tn) V F))), (be, .inl (G 0, 468, .inl (bf (kB B kn (enc n N Z tn po rd al k S P V F))))), (ke, .inl (G 0, 117, .inl (enc nq Nq Zq tnq poq rdq alq kq Sq Pq Vq Fq))), (te, .inl (G 0, 60, .inl (ch t)))] _ := hP
            have hD : va_D A [(mo, .inr (6, [.ref sa, .ref be, .int (nI (mn kn)), .ref ke, .int (zB ik), .ref te, .int (nI ty)])), (sa, .inl (G 0, 117, .inl (enc n (ex N a b) (upd (tw Z c_) c_ ((tw Z c_) c_ - nI 1)) tn (po + (S 1)) rd al k S (sw0 P S tn) V F))), (be, .inl (G 0, 468, .inl (bf (kB B kn (enc n N Z tn po rd al k S P V F))))), (ke, .inl (G 0, 117, .inl (enc nq Nq Zq tnq poq rdq alq kq Sq Pq Vq Fq))), (te, .inl (G 0, 60, .inl (ch t)))] := hD
            refine lv_iinc (v := nI (c_ + 1)) (lv' := [(5, .int (nI (c_ + 1))), (4, .int (nI 0)), (3, .int (nI tn)), (0, .ref mo), (1, .int (nI a)), (2, .int (nI b))]) hx hb dX6_swap_160 hl (k := 0) rfl (nI_inc c_) (by decide) rfl (fun ls hl => ?_)
            refine lv_goto (tgt := 120) hx hb dX6_swap_163 (by decide) ?_
            obtain ⟨hP, hD⟩ := wI (g := enc n (ex N a b) (tw Z (c_ + 1)) tn (po + (S 1)) rd al k S (sw0 P S tn) V F) hP hD 1 rfl (fun j hj => congrFun (congrArg (fun NN => enc n (ex N a b) NN tn (po + (S 1)) rd al k S (sw0 P S tn) V F) (show upd (tw Z c_) c_ ((tw Z c_) c_ - nI 1) = tw Z (c_ + 1) from by first | exact tw_ra (by assumption) | exact tw_rb (by assumption))) j)
            replace hP : va_P D vwCl [(mo, .inr (6, [.ref sa, .ref be, .int (nI (mn kn)), .ref ke, .int (zB ik), .ref te, .int (nI ty)])), (sa, .inl (G 0, 117, .inl (enc n (ex N a b) (tw Z (c_ + 1)) tn (po + (S 1)) rd al k S (sw0 P S tn) V F))), (be, .inl (G 0, 468, .inl (bf (kB B kn (enc n N Z tn po rd al k S P V F))))), (ke, .inl (G 0, 117, .inl (enc nq Nq Zq tnq poq rdq alq kq Sq Pq Vq Fq))), (te, .inl (G 0, 60, .inl (ch t)))] _ := hP
            have hD : va_D A [(mo, .inr (6, [.ref sa, .ref be, .int (nI (mn kn)), .ref ke, .int (zB ik), .ref te, .int (nI ty)])), (sa, .inl (G 0, 117, .inl (enc n (ex N a b) (tw Z (c_ + 1)) tn (po + (S 1)) rd al k S (sw0 P S tn) V F))), (be, .inl (G 0, 468, .inl (bf (kB B kn (enc n N Z tn po rd al k S P V F))))), (ke, .inl (G 0, 117, .inl (enc nq Nq Zq tnq poq rdq alq kq Sq Pq Vq Fq))), (te, .inl (G 0, 60, .inl (ch t)))] := hD
            exact ih120 (c_ + 1) (by omega) (by omega)  _ _ hP hD hS _ (lv_sub hl [0, 1, 2, 3, 4, 5] rfl)
    obtain ⟨hP, hD⟩ := wI (g := enc n (ex N a b) (tw Z 0) tn (po + (S 1)) rd al k S (sw0 P S tn) V F) hP hD 1 rfl (fun j hj => by rw [tw_0])
    replace hP : va_P D vwCl [(mo, .inr (6, [.ref sa, .ref be, .int (nI (mn kn)), .ref ke, .int (zB ik), .ref te, .int (nI ty)])), (sa, .inl (G 0, 117, .inl (enc n (ex N a b) (tw Z 0) tn (po + (S 1)) rd al k S (sw0 P S tn) V F))), (be, .inl (G 0, 468, .inl (bf (kB B kn (enc n N Z tn po rd al k S P V F))))), (ke, .inl (G 0, 117, .inl (enc nq Nq Zq tnq poq rdq alq kq Sq Pq Vq Fq))), (te, .inl (G 0, 60, .inl (ch t)))] _ := hP
    have hD : va_D A [(mo, .inr (6, [.ref sa, .ref be, .int (nI (mn kn)), .ref ke, .int (zB ik), .ref te, .int (nI ty)])), (sa, .inl (G 0, 117, .inl (enc n (ex N a b) (tw Z 0) tn (po + (S 1)) rd al k S (sw0 P S tn) V F))), (be, .inl (G 0, 468, .inl (bf (kB B kn (enc n N Z tn po rd al k S P V F))))), (ke, .inl (G 0, 117, .inl (enc nq Nq Zq tnq poq rdq alq kq Sq Pq Vq Fq))), (te, .inl (G 0, 60, .inl (ch t)))] := hD
    exact LP120 (n * n + 1 - 0) 0 (by omega) (by omega)  _ _ hP hD hS _ (lv_sub hl [0, 1, 2, 3, 4, 5] rfl)
  · refine lv_iconst (v := nI 1) hx hb dX6_swap_104 (by decide +kernel) ?_
    refine lv_goto (tgt := 109) hx hb dX6_swap_105 (by decide) ?_
    refine lv_istore (lv' := [(4, .int (nI 1)), (3, .int (nI tn)), (0, .ref mo), (1, .int (nI a)), (2, .int (nI b))]) hx hb dX6_swap_109 hl (by decide) rfl (fun ls hl => ?_)
    refine lv_aload_n hx hb dX6_swap_111 rfl (lv_at hl 2 rfl) ?_
    refine lv_iload_n hx hb dX6_swap_112 rfl (lv_at hl 3 rfl) ?_
    refine lv_iload_n hx hb dX6_swap_113 rfl (lv_at hl 4 rfl) ?_
    refine cV (As := [.int (nI a), .int (nI b)]) (rest := []) ⟨hx, hb, hml, hown, hts⟩ hP hK hD hS hN hA (mX6_exchange l D G mo sa be ke te (mn kn) ty ik n tn k N Z S (sw0 P S tn) V F (po + (S 1)) rd al a b (by first | assumption | omega) (by first | assumption | omega)) (cwV 2 hts gX6_swap_X6_exchange rfl rfl rfl (by decide +kernel) ⟨Nat.le_of_ble_eq_true rfl, Nat.le_of_ble_eq_true rfl⟩) [0, 1] rfl (by decide) (Eq.trans (b := [mo, sa]) rfl rfl) 0 6 rfl rfl rfl hl.1 rfl (Nat.le_of_ble_eq_true rfl) dX6_swap_114 ⟨Nat.zero_le _, Nat.zero_le _⟩ (fun H locs hP hD hS => ?_)
    have hP : va_P D vwCl [(mo, .inr (6, [.ref sa, .ref be, .int (nI (mn kn)), .ref ke, .int (zB ik), .ref te, .int (nI ty)])), (sa, .inl (G 0, 117, .inl (enc n (ex N a b) Z tn (po + (S 1)) rd al k S (sw0 P S tn) V F))), (be, .inl (G 0, 468, .inl (bf (kB B kn (enc n N Z tn po rd al k S P V F))))), (ke, .inl (G 0, 117, .inl (enc nq Nq Zq tnq poq rdq alq kq Sq Pq Vq Fq))), (te, .inl (G 0, 60, .inl (ch t)))] H := hP
    have hD : va_D A [(mo, .inr (6, [.ref sa, .ref be, .int (nI (mn kn)), .ref ke, .int (zB ik), .ref te, .int (nI ty)])), (sa, .inl (G 0, 117, .inl (enc n (ex N a b) Z tn (po + (S 1)) rd al k S (sw0 P S tn) V F))), (be, .inl (G 0, 468, .inl (bf (kB B kn (enc n N Z tn po rd al k S P V F))))), (ke, .inl (G 0, 117, .inl (enc nq Nq Zq tnq poq rdq alq kq Sq Pq Vq Fq))), (te, .inl (G 0, 60, .inl (ch t)))] := hD
    refine lv_iconst (v := nI 0) hx hb dX6_swap_117 (by decide +kernel) ?_
    refine lv_istore (lv' := [(5, .int (nI 0)), (4, .int (nI 1)), (3, .int (nI tn)), (0, .ref mo), (1, .int (nI a)), (2, .int (nI b))]) hx hb dX6_swap_118 hl (by decide) rfl (fun ls hl => ?_)
    have LP120 : ∀ (nn120 c_ : Nat), c_ ≤ (n * n) → (n * n) < c_ + nn120  → ∀ (H : Heap) (locs : List Loc), va_P D vwCl [(mo, .inr (6, [.ref sa, .ref be, .int (nI (mn kn)), .ref ke, .int (zB ik), .ref te, .int (nI ty)])), (sa, .inl (G 0, 117, .inl (enc n (ex N a b) (tw Z c_) tn (po + (S 1)) rd al k S (sw0 P S tn) V F))), (be, .inl (G 0, 468, .inl (bf (kB B kn (enc n N Z tn po rd al k S P V F))))), (ke, .inl (G 0, 117, .inl (enc nq Nq Zq tnq poq rdq alq kq Sq Pq Vq Fq))), (te, .inl (G 0, 60, .inl (ch t)))] H → va_D A [(mo, .inr (6, [.ref sa, .ref be, .int (nI (mn kn)), .ref ke, .int (zB ik), .ref te, .int (nI ty)])), (sa, .inl (G 0, 117, .inl (enc n (ex N a b) (tw Z c_) tn (po + (S 1)) rd al k S (sw0 P S tn) V F))), (be, .inl (G 0, 468, .inl (bf (kB B kn (enc n N Z tn po rd al k S P V F))))), (ke, .inl (G 0, 117, .inl (enc nq Nq Zq tnq poq rdq alq kq Sq Pq Vq Fq))), (te, .inl (G 0, 60, .inl (ch t)))] → va_S A s.heap H locs → ∀ ls : Array Slot, lv_has ls 6 [(5, .int (nI c_)), (4, .int (nI 1)), (3, .int (nI tn)), (0, .ref mo), (1, .int (nI a)), (2, .int (nI b))] → W pp l ee (rmA 5 115) s mm ([.ref mo, .int (nI a), .int (nI b)] : List Value).toArray bl me cc H locs 0 0 (MQ bl (Qres (some (.int (nI (mcn n (ex N a b))))) D G [(mo, .inr (6, [.ref sa, .ref be, .int (nI (mn kn)), .ref ke, .int (zB ik), .ref te, .int (nI ty)])), (sa, .inl (G 0, 117, .inl (enc n (ex N a b) (tw Z 16) (nx tn) (swO (swS n N F (odR F) P S tn po k a b true) false) (swD rd true) (al + nI 1) (swK k true) S (swP (swS n N F (odR F) P S tn po k a b true) tn false) (swV V tn false) F))), (be, .inl (G 0, 468, .inl (bf (kB B kn (enc n N Z tn po rd al k S P V F))))), (ke, .inl (G 0, 117, .inl (enc nq Nq Zq tnq poq rdq alq kq Sq Pq Vq Fq))), (te, .inl (G 0, 60, .inl (ch t)))] A) ([.ref mo, .int (nI a), .int (nI b)] : List Value).toArray s 0 0 A) (F0 mm 120 ls []) := by
      intro nn120
      induction nn120 with
      | zero => intro c_ h1 h2; exact absurd h2 (by omega)
      | succ nn120 ih120 =>
        intro c_ hkc_ hnc_  H locs hP hD hS ls hl
        refine lv_iload hx hb dX6_swap_120 (lv_at hl 0 rfl) ?_
        refine lv_aload_n hx hb dX6_swap_122 rfl (lv_at hl 3 rfl) ?_
        refine cVr (As := []) (rest := [.int (nI c_)]) ⟨hx, hb, hml, hown, hts⟩ hP hK hD hS hN hA (mX6_cells l D G mo sa be ke te (mn kn) ty ik n tn k (ex N a b) (tw Z c_) S (sw0 P S tn) V F (po + (S 1)) rd al (by first | assumption | omega)) (cwV 0 hts gX6_swap_X6_cells rfl rfl rfl (by decide +kernel) ⟨Nat.le_of_ble_eq_true rfl, Nat.le_of_ble_eq_true rfl⟩) [0, 1] rfl (by decide) 0 6 rfl rfl rfl hl.1 rfl (Nat.le_of_ble_eq_true rfl) dX6_swap_123 ⟨Nat.zero_le _, Nat.zero_le _⟩ (fun H locs hP hS => ?_)
        refine bGe (tgt := 166) hx hb dX6_swap_126 (by decide) (by omega) (by omega) (fun c13 => ?_) (fun c13 => ?_)
        · obtain rfl : n * n = c_ := by omega
          obtain ⟨hP, hD⟩ := wI (g := enc n (ex N a b) (tw Z 16) tn (po + (S 1)) rd al k S (sw0 P S tn) V F) hP hD 1 rfl (fun j hj => enc_cZ (fun c hc => tw_16 (by omega) hZ) j hj)
          replace hP : va_P D vwCl [(mo, .inr (6, [.ref sa, .ref be, .int (nI (mn kn)), .ref ke, .int (zB ik), .ref te, .int (nI ty)])), (sa, .inl (G 0, 117, .inl (enc n (ex N a b) (tw Z 16) tn (po + (S 1)) rd al k S (sw0 P S tn) V F))), (be, .inl (G 0, 468, .inl (bf (kB B kn (enc n N Z tn po rd al k S P V F))))), (ke, .inl (G 0, 117, .inl (enc nq Nq Zq tnq poq rdq alq kq Sq Pq Vq Fq))), (te, .inl (G 0, 60, .inl (ch t)))] _ := hP
          have hD : va_D A [(mo, .inr (6, [.ref sa, .ref be, .int (nI (mn kn)), .ref ke, .int (zB ik), .ref te, .int (nI ty)])), (sa, .inl (G 0, 117, .inl (enc n (ex N a b) (tw Z 16) tn (po + (S 1)) rd al k S (sw0 P S tn) V F))), (be, .inl (G 0, 468, .inl (bf (kB B kn (enc n N Z tn po rd al k S P V F))))), (ke, .inl (G 0, 117, .inl (enc nq Nq Zq tnq poq rdq alq kq Sq Pq Vq Fq))), (te, .inl (G 0, 60, .inl (ch t)))] := hD
          refine lv_aload_n hx hb dX6_swap_166 rfl (lv_at hl 3 rfl) ?_
          refine va_get (D := D) (ci := 6) (v := .ref sa) (C := RX6) (T := TX6) (N := 7) hx hb hts inX6 hown hK hP 0 rfl rfl 0 (by decide) k7 (fun _ h9 => h9) rfl dX6_swap_167 ?_
          refine lv_iconst (v := nI 3) hx hb dX6_swap_170 (by decide +kernel) ?_
          refine lv_dup2_11 hx hb dX6_swap_171 rfl rfl ?_
          refine rIald hx hb hK hP 1 rfl 3 (by omega) (by decide) dX6_swap_172 ?_
          refine rTop (show enc n (ex N a b) (tw Z 16) tn (po + (S 1)) rd al k S (sw0 P S tn) V F 3 = rd from rfl) ?_
          refine lv_iconst (v := nI 1) hx hb dX6_swap_173 (by decide +kernel) ?_
          refine lv_iadd hx hb dX6_swap_174 ?_
          refine rIast hx hb hK hP hD hS 1 rfl 3 (by omega) (by decide) dX6_swap_175 (fun H locs hP hD hS => ?_)
          obtain ⟨hP, hD⟩ := wI (g := enc n (ex N a b) (tw Z 16) tn (po + (S 1)) (rd + nI 1) al k S (sw0 P S tn) V F) hP hD 1 rfl (enc_w3 n (ex N a b) (tw Z 16) tn (po + (S 1)) rd al k S (sw0 P S tn) V F (rd + nI 1))
          replace hP : va_P D vwCl [(mo, .inr (6, [.ref sa, .ref be, .int (nI (mn kn)), .ref ke, .int (zB ik), .ref te, .int (nI ty)])), (sa, .inl (G 0, 117, .inl (enc n (ex N a b) (tw Z 16) tn (po + (S 1)) (rd + nI 1) al k S (sw0 P S tn) V F))), (be, .inl (G 0, 468, .inl (bf (kB B kn (enc n N Z tn po rd al k S P V F))))), (ke, .inl (G 0, 117, .inl (enc nq Nq Zq tnq poq rdq alq kq Sq Pq Vq Fq))), (te, .inl (G 0, 60, .inl (ch t)))] _ := hP
          have hD : va_D A [(mo, .inr (6, [.ref sa, .ref be, .int (nI (mn kn)), .ref ke, .int (zB ik), .ref te, .int (nI ty)])), (sa, .inl (G 0, 117, .inl (enc n (ex N a b) (tw Z 16) tn (po + (S 1)) (rd + nI 1) al k S (sw0 P S tn) V F))), (be, .inl (G 0, 468, .inl (bf (kB B kn (enc n N Z tn po rd al k S P V F))))), (ke, .inl (G 0, 117, .inl (enc nq Nq Zq tnq poq rdq alq kq Sq Pq Vq Fq))), (te, .inl (G 0, 60, .inl (ch t)))] := hD
          refine lv_aload_n hx hb dX6_swap_176 rfl (lv_at hl 3 rfl) ?_
          refine va_get (D := D) (ci := 6) (v := .ref sa) (C := RX6) (T := TX6) (N := 7) hx hb hts inX6 hown hK hP 0 rfl rfl 0 (by decide) k7 (fun _ h9 => h9) rfl dX6_swap_177 ?_
          refine lv_iconst (v := nI 4) hx hb dX6_swap_180 (by decide +kernel) ?_
          refine lv_dup2_11 hx hb dX6_swap_181 rfl rfl ?_
          refine rIald hx hb hK hP 1 rfl 4 (by omega) (by decide) dX6_swap_182 ?_
          refine rTop (show enc n (ex N a b) (tw Z 16) tn (po + (S 1)) (rd + nI 1) al k S (sw0 P S tn) V F 4 = al from rfl) ?_
          refine lv_iconst (v := nI 1) hx hb dX6_swap_183 (by decide +kernel) ?_
          refine lv_iadd hx hb dX6_swap_184 ?_
          refine rIast hx hb hK hP hD hS 1 rfl 4 (by omega) (by decide) dX6_swap_185 (fun H locs hP hD hS => ?_)
          obtain ⟨hP, hD⟩ := wI (g := enc n (ex N a b) (tw Z 16) tn (po + (S 1)) (rd + nI 1) (al + nI 1) k S (sw0 P S tn) V F) hP hD 1 rfl (enc_w4 n (ex N a b) (tw Z 16) tn (po + (S 1)) (rd + nI 1) al k S (sw0 P S tn) V F (al + nI 1))
          replace hP : va_P D vwCl [(mo, .inr (6, [.ref sa, .ref be, .int (nI (mn kn)), .ref ke, .int (zB ik), .ref te, .int (nI ty)])), (sa, .inl (G 0, 117, .inl (enc n (ex N a b) (tw Z 16) tn (po + (S 1)) (rd + nI 1) (al + nI 1) k S (sw0 P S tn) V F))), (be, .inl (G 0, 468, .inl (bf (kB B kn (enc n N Z tn po rd al k S P V F))))), (ke, .inl (G 0, 117, .inl (enc nq Nq Zq tnq poq rdq alq kq Sq Pq Vq Fq))), (te, .inl (G 0, 60, .inl (ch t)))] _ := hP
          have hD : va_D A [(mo, .inr (6, [.ref sa, .ref be, .int (nI (mn kn)), .ref ke, .int (zB ik), .ref te, .int (nI ty)])), (sa, .inl (G 0, 117, .inl (enc n (ex N a b) (tw Z 16) tn (po + (S 1)) (rd + nI 1) (al + nI 1) k S (sw0 P S tn) V F))), (be, .inl (G 0, 468, .inl (bf (kB B kn (enc n N Z tn po rd al k S P V F))))), (ke, .inl (G 0, 117, .inl (enc nq Nq Zq tnq poq rdq alq kq Sq Pq Vq Fq))), (te, .inl (G 0, 60, .inl (ch t)))] := hD
          refine lv_aload_n hx hb dX6_swap_186 rfl (lv_at hl 3 rfl) ?_
          refine va_get (D := D) (ci := 6) (v := .ref sa) (C := RX6) (T := TX6) (N := 7) hx hb hts inX6 hown hK hP 0 rfl rfl 0 (by decide) k7 (fun _ h9 => h9) rfl dX6_swap_187 ?_
          refine lv_iconst (v := nI 3) hx hb dX6_swap_190 (by decide +kernel) ?_
          refine rIald hx hb hK hP 1 rfl 3 (by omega) (by decide) dX6_swap_191 ?_
          refine rTop (show enc n (ex N a b) (tw Z 16) tn (po + (S 1)) (rd + nI 1) (al + nI 1) k S (sw0 P S tn) V F 3 = (rd + nI 1) from rfl) ?_
          refine lv_aload_n hx hb dX6_swap_192 rfl (lv_at hl 3 rfl) ?_
          refine va_get (D := D) (ci := 6) (v := .ref sa) (C := RX6) (T := TX6) (N := 7) hx hb hts inX6 hown hK hP 0 rfl rfl 0 (by decide) k7 (fun _ h9 => h9) rfl dX6_swap_193 ?_
          refine lv_bipush (v := nI 6) hx hb dX6_swap_196 (by decide +kernel) ?_
          refine rIald hx hb hK hP 1 rfl 6 (by omega) (by decide) dX6_swap_198 ?_
          refine rTop (show enc n (ex N a b) (tw Z 16) tn (po + (S 1)) (rd + nI 1) (al + nI 1) k S (sw0 P S tn) V F 6 = S 0 from enc_S n (ex N a b) (tw Z 16) tn (po + (S 1)) (rd + nI 1) (al + nI 1) k S (sw0 P S tn) V F 0 (by omega)) ?_
          refine lv_icmp_lt (tgt := 213) hx hb dX6_swap_199 (by decide)  (fun c14 => absurd c14 hR) (fun c14 => ?_)
          refine lv_aload_n hx hb dX6_swap_202 rfl (lv_at hl 3 rfl) ?_
          refine cV (As := []) (rest := []) ⟨hx, hb, hml, hown, hts⟩ hP hK hD hS hN hA (mX6_settle l D G mo sa be ke te (mn kn) ty ik n tn k (ex N a b) (tw Z 16) S (sw0 P S tn) V F (po + (S 1)) (rd + nI 1) (al + nI 1) (by first | assumption | omega) (by first | assumption | omega) (by first | assumption | omega) (by first | assumption | omega) (by first | assumption | omega) (by first | assumption | omega)) (cwV 0 hts gX6_swap_X6_settle rfl rfl rfl (by decide +kernel) ⟨Nat.le_of_ble_eq_true rfl, Nat.le_of_ble_eq_true rfl⟩) [0, 1] rfl (by decide) (Eq.trans (b := [mo, sa]) rfl rfl) 0 6 rfl rfl rfl hl.1 rfl (Nat.le_of_ble_eq_true rfl) dX6_swap_203 ⟨Nat.zero_le _, Nat.zero_le _⟩ (fun H locs hP hD hS => ?_)
          have hP : va_P D vwCl [(mo, .inr (6, [.ref sa, .ref be, .int (nI (mn kn)), .ref ke, .int (zB ik), .ref te, .int (nI ty)])), (sa, .inl (G 0, 117, .inl (enc n (ex N a b) (tw Z 16) tn ((stl n (ex N a b) F (odR F) (sw0 P S tn) (po + (S 1)) k).2) (rd + nI 1) (al + nI 1) 0 S ((stl n (ex N a b) F (odR F) (sw0 P S tn) (po + (S 1)) k).1) V F))), (be, .inl (G 0, 468, .inl (bf (kB B kn (enc n N Z tn po rd al k S P V F))))), (ke, .inl (G 0, 117, .inl (enc nq Nq Zq tnq poq rdq alq kq Sq Pq Vq Fq))), (te, .inl (G 0, 60, .inl (ch t)))] H := hP
          have hD : va_D A [(mo, .inr (6, [.ref sa, .ref be, .int (nI (mn kn)), .ref ke, .int (zB ik), .ref te, .int (nI ty)])), (sa, .inl (G 0, 117, .inl (enc n (ex N a b) (tw Z 16) tn ((stl n (ex N a b) F (odR F) (sw0 P S tn) (po + (S 1)) k).2) (rd + nI 1) (al + nI 1) 0 S ((stl n (ex N a b) F (odR F) (sw0 P S tn) (po + (S 1)) k).1) V F))), (be, .inl (G 0, 468, .inl (bf (kB B kn (enc n N Z tn po rd al k S P V F))))), (ke, .inl (G 0, 117, .inl (enc nq Nq Zq tnq poq rdq alq kq Sq Pq Vq Fq))), (te, .inl (G 0, 60, .inl (ch t)))] := hD
          refine lv_aload_n hx hb dX6_swap_206 rfl (lv_at hl 3 rfl) ?_
          refine va_get (D := D) (ci := 6) (v := .ref sa) (C := RX6) (T := TX6) (N := 7) hx hb hts inX6 hown hK hP 0 rfl rfl 0 (by decide) k7 (fun _ h9 => h9) rfl dX6_swap_207 ?_
          refine lv_iconst (v := nI 3) hx hb dX6_swap_210 (by decide +kernel) ?_
          refine lv_iconst (v := nI 0) hx hb dX6_swap_211 (by decide +kernel) ?_
          refine rIast hx hb hK hP hD hS 1 rfl 3 (by omega) (by decide) dX6_swap_212 (fun H locs hP hD hS => ?_)
          obtain ⟨hP, hD⟩ := wI (g := enc n (ex N a b) (tw Z 16) tn ((stl n (ex N a b) F (odR F) (sw0 P S tn) (po + (S 1)) k).2) (nI 0) (al + nI 1) 0 S ((stl n (ex N a b) F (odR F) (sw0 P S tn) (po + (S 1)) k).1) V F) hP hD 1 rfl (enc_w3 n (ex N a b) (tw Z 16) tn ((stl n (ex N a b) F (odR F) (sw0 P S tn) (po + (S 1)) k).2) (rd + nI 1) (al + nI 1) 0 S ((stl n (ex N a b) F (odR F) (sw0 P S tn) (po + (S 1)) k).1) V F (nI 0))
          replace hP : va_P D vwCl [(mo, .inr (6, [.ref sa, .ref be, .int (nI (mn kn)), .ref ke, .int (zB ik), .ref te, .int (nI ty)])), (sa, .inl (G 0, 117, .inl (enc n (ex N a b) (tw Z 16) tn ((stl n (ex N a b) F (odR F) (sw0 P S tn) (po + (S 1)) k).2) (nI 0) (al + nI 1) 0 S ((stl n (ex N a b) F (odR F) (sw0 P S tn) (po + (S 1)) k).1) V F))), (be, .inl (G 0, 468, .inl (bf (kB B kn (enc n N Z tn po rd al k S P V F))))), (ke, .inl (G 0, 117, .inl (enc nq Nq Zq tnq poq rdq alq kq Sq Pq Vq Fq))), (te, .inl (G 0, 60, .inl (ch t)))] _ := hP
          have hD : va_D A [(mo, .inr (6, [.ref sa, .ref be, .int (nI (mn kn)), .ref ke, .int (zB ik), .ref te, .int (nI ty)])), (sa, .inl (G 0, 117, .inl (enc n (ex N a b) (tw Z 16) tn ((stl n (ex N a b) F (odR F) (sw0 P S tn) (po + (S 1)) k).2) (nI 0) (al + nI 1) 0 S ((stl n (ex N a b) F (odR F) (sw0 P S tn) (po + (S 1)) k).1) V F))), (be, .inl (G 0, 468, .inl (bf (kB B kn (enc n N Z tn po rd al k S P V F))))), (ke, .inl (G 0, 117, .inl (enc nq Nq Zq tnq poq rdq alq kq Sq Pq Vq Fq))), (te, .inl (G 0, 60, .inl (ch t)))] := hD
          refine lv_iload hx hb dX6_swap_213 (lv_at hl 1 rfl) ?_
          refine iNe (tgt := 256) hx hb dX6_swap_215 (by decide) (by omega) (fun c15 => ?_) (fun c15 => by exfalso; omega)
          refine lv_aload_n hx hb dX6_swap_256 rfl (lv_at hl 3 rfl) ?_
          refine cV (As := []) (rest := []) ⟨hx, hb, hml, hown, hts⟩ hP hK hD hS hN hA (mX6_nextTurn l D G mo sa be ke te (mn kn) ty ik n tn 0 (ex N a b) (tw Z 16) S ((stl n (ex N a b) F (odR F) (sw0 P S tn) (po + (S 1)) k).1) V F ((stl n (ex N a b) F (odR F) (sw0 P S tn) (po + (S 1)) k).2) (nI 0) (al + nI 1) (by first | assumption | omega)) (cwV 0 hts gX6_swap_X6_nextTurn rfl rfl rfl (by decide +kernel) ⟨Nat.le_of_ble_eq_true rfl, Nat.le_of_ble_eq_true rfl⟩) [0, 1] rfl (by decide) (Eq.trans (b := [mo, sa]) rfl rfl) 0 6 rfl rfl rfl hl.1 rfl (Nat.le_of_ble_eq_true rfl) dX6_swap_257 ⟨Nat.zero_le _, Nat.zero_le _⟩ (fun H locs hP hD hS => ?_)
          have hP : va_P D vwCl [(mo, .inr (6, [.ref sa, .ref be, .int (nI (mn kn)), .ref ke, .int (zB ik), .ref te, .int (nI ty)])), (sa, .inl (G 0, 117, .inl (enc n (ex N a b) (tw Z 16) (nx tn) ((stl n (ex N a b) F (odR F) (sw0 P S tn) (po + (S 1)) k).2) (nI 0) (al + nI 1) 0 S ((stl n (ex N a b) F (odR F) (sw0 P S tn) (po + (S 1)) k).1) V F))), (be, .inl (G 0, 468, .inl (bf (kB B kn (enc n N Z tn po rd al k S P V F))))), (ke, .inl (G 0, 117, .inl (enc nq Nq Zq tnq poq rdq alq kq Sq Pq Vq Fq))), (te, .inl (G 0, 60, .inl (ch t)))] H := hP
          have hD : va_D A [(mo, .inr (6, [.ref sa, .ref be, .int (nI (mn kn)), .ref ke, .int (zB ik), .ref te, .int (nI ty)])), (sa, .inl (G 0, 117, .inl (enc n (ex N a b) (tw Z 16) (nx tn) ((stl n (ex N a b) F (odR F) (sw0 P S tn) (po + (S 1)) k).2) (nI 0) (al + nI 1) 0 S ((stl n (ex N a b) F (odR F) (sw0 P S tn) (po + (S 1)) k).1) V F))), (be, .inl (G 0, 468, .inl (bf (kB B kn (enc n N Z tn po rd al k S P V F))))), (ke, .inl (G 0, 117, .inl (enc nq Nq Zq tnq poq rdq alq kq Sq Pq Vq Fq))), (te, .inl (G 0, 60, .inl (ch t)))] := hD
          refine lv_aload_n hx hb dX6_swap_260 rfl (lv_at hl 3 rfl) ?_
          refine cVr (As := []) (rest := []) ⟨hx, hb, hml, hown, hts⟩ hP hK hD hS hN hA (mX6_magicLines l D G mo sa be ke te (mn kn) ty ik n (nx tn) 0 (ex N a b) (tw Z 16) S ((stl n (ex N a b) F (odR F) (sw0 P S tn) (po + (S 1)) k).1) V F ((stl n (ex N a b) F (odR F) (sw0 P S tn) (po + (S 1)) k).2) (nI 0) (al + nI 1) (by first | assumption | omega)) (cwV 0 hts gX6_swap_X6_magicLines rfl rfl rfl (by decide +kernel) ⟨Nat.le_of_ble_eq_true rfl, Nat.le_of_ble_eq_true rfl⟩) [0, 1] rfl (by decide) 0 6 rfl rfl rfl hl.1 rfl (Nat.le_of_ble_eq_true rfl) dX6_swap_261 ⟨Nat.zero_le _, Nat.zero_le _⟩ (fun H locs hP hS => ?_)
          obtain ⟨hP, hD⟩ := wI (g := enc n (ex N a b) (tw Z 16) (nx tn) (swO (swS n N F (odR F) P S tn po k a b true) false) (swD rd true) (al + nI 1) (swK k true) S (swP (swS n N F (odR F) P S tn po k a b true) tn false) (swV V tn false) F) hP hD 1 rfl (fun j hj => by simp only [swP, swS, swV, swO, swK, swD])
          replace hP : va_P D vwCl [(mo, .inr (6, [.ref sa, .ref be, .int (nI (mn kn)), .ref ke, .int (zB ik), .ref te, .int (nI ty)])), (sa, .inl (G 0, 117, .inl (enc n (ex N a b) (tw Z 16) (nx tn) (swO (swS n N F (odR F) P S tn po k a b true) false) (swD rd true) (al + nI 1) (swK k true) S (swP (swS n N F (odR F) P S tn po k a b true) tn false) (swV V tn false) F))), (be, .inl (G 0, 468, .inl (bf (kB B kn (enc n N Z tn po rd al k S P V F))))), (ke, .inl (G 0, 117, .inl (enc nq Nq Zq tnq poq rdq alq kq Sq Pq Vq Fq))), (te, .inl (G 0, 60, .inl (ch t)))] _ := hP
          have hD : va_D A [(mo, .inr (6, [.ref sa, .ref be, .int (nI (mn kn)), .ref ke, .int (zB ik), .ref te, .int (nI ty)])), (sa, .inl (G 0, 117, .inl (enc n (ex N a b) (tw Z 16) (nx tn) (swO (swS n N F (odR F) P S tn po k a b true) false) (swD rd true) (al + nI 1) (swK k true) S (swP (swS n N F (odR F) P S tn po k a b true) tn false) (swV V tn false) F))), (be, .inl (G 0, 468, .inl (bf (kB B kn (enc n N Z tn po rd al k S P V F))))), (ke, .inl (G 0, 117, .inl (enc nq Nq Zq tnq poq rdq alq kq Sq Pq Vq Fq))), (te, .inl (G 0, 60, .inl (ch t)))] := hD
          exact rIret hx hb hr hlk hP hK hD hS dX6_swap_264
        · refine lv_aload_n hx hb dX6_swap_129 rfl (lv_at hl 3 rfl) ?_
          refine va_get (D := D) (ci := 6) (v := .ref sa) (C := RX6) (T := TX6) (N := 7) hx hb hts inX6 hown hK hP 0 rfl rfl 0 (by decide) k7 (fun _ h9 => h9) rfl dX6_swap_130 ?_
          refine lv_bipush (v := nI 31) hx hb dX6_swap_133 (by decide +kernel) ?_
          refine lv_iload hx hb dX6_swap_135 (lv_at hl 0 rfl) ?_
          refine lv_iadd hx hb dX6_swap_137 ?_
          refine rTop (show nI 31 + nI c_ = nI (31 + c_) from nI_add 31 c_) ?_
          refine lv_dup2_11 hx hb dX6_swap_138 rfl rfl ?_
          refine rIald hx hb hK hP 1 rfl (31 + c_) (by omega) (by decide) dX6_swap_139 ?_
          refine rTop (enc_Z n (ex N a b) (tw Z c_) tn (po + (S 1)) rd al k S (sw0 P S tn) V F c_ (by omega)) ?_
          refine lv_aload_n hx hb dX6_swap_140 rfl (lv_at hl 3 rfl) ?_
          refine va_get (D := D) (ci := 6) (v := .ref sa) (C := RX6) (T := TX6) (N := 7) hx hb hts inX6 hown hK hP 0 rfl rfl 0 (by decide) k7 (fun _ h9 => h9) rfl dX6_swap_141 ?_
          refine lv_bipush (v := nI 31) hx hb dX6_swap_144 (by decide +kernel) ?_
          refine lv_iload hx hb dX6_swap_146 (lv_at hl 0 rfl) ?_
          refine lv_iadd hx hb dX6_swap_148 ?_
          refine rTop (show nI 31 + nI c_ = nI (31 + c_) from nI_add 31 c_) ?_
          refine rIald hx hb hK hP 1 rfl (31 + c_) (by omega) (by decide) dX6_swap_149 ?_
          refine rTop (enc_Z n (ex N a b) (tw Z c_) tn (po + (S 1)) rd al k S (sw0 P S tn) V F c_ (by omega)) ?_
          refine lv_if_le (tgt := 157) hx hb dX6_swap_150 (by decide)  (fun c16 => ?_) (fun c16 => ?_)
          · refine lv_iconst (v := nI 0) hx hb dX6_swap_157 (by decide +kernel) ?_
            refine lv_isub hx hb dX6_swap_158 ?_
            refine rIast hx hb hK hP hD hS 1 rfl (31 + c_) (by omega) (by decide) dX6_swap_159 (fun H locs hP hD hS => ?_)
            obtain ⟨hP, hD⟩ := wI (g := enc n (ex N a b) (upd (tw Z c_) c_ ((tw Z c_) c_ - nI 0)) tn (po + (S 1)) rd al k S (sw0 P S tn) V F) hP hD 1 rfl (enc_wZ n (ex N a b) (tw Z c_) tn (po + (S 1)) rd al k S (sw0 P S tn) V F c_ (by omega) ((tw Z c_) c_ - nI 0))
            replace hP : va_P D vwCl [(mo, .inr (6, [.ref sa, .ref be, .int (nI (mn kn)), .ref ke, .int (zB ik), .ref te, .int (nI ty)])), (sa, .inl (G 0, 117, .inl (enc n (ex N a b) (upd (tw Z c_) c_ ((tw Z c_) c_ - nI 0)) tn (po + (S 1)) rd al k S (sw0 P S tn) V F))), (be, .inl (G 0, 468, .inl (bf (kB B kn (enc n N Z tn po rd al k S P V F))))), (ke, .inl (G 0, 117, .inl (enc nq Nq Zq tnq poq rdq alq kq Sq Pq Vq Fq))), (te, .inl (G 0, 60, .inl (ch t)))] _ := hP
            have hD : va_D A [(mo, .inr (6, [.ref sa, .ref be, .int (nI (mn kn)), .ref ke, .int (zB ik), .ref te, .int (nI ty)])), (sa, .inl (G 0, 117, .inl (enc n (ex N a b) (upd (tw Z c_) c_ ((tw Z c_) c_ - nI 0)) tn (po + (S 1)) rd al k S (sw0 P S tn) V F))), (be, .inl (G 0, 468, .inl (bf (kB B kn (enc n N Z tn po rd al k S P V F))))), (ke, .inl (G 0, 117, .inl (enc nq Nq Zq tnq poq rdq alq kq Sq Pq Vq Fq))), (te, .inl (G 0, 60, .inl (ch t)))] := hD
            refine lv_iinc (v := nI (c_ + 1)) (lv' := [(5, .int (nI (c_ + 1))), (4, .int (nI 1)), (3, .int (nI tn)), (0, .ref mo), (1, .int (nI a)), (2, .int (nI b))]) hx hb dX6_swap_160 hl (k := 0) rfl (nI_inc c_) (by decide) rfl (fun ls hl => ?_)
            refine lv_goto (tgt := 120) hx hb dX6_swap_163 (by decide) ?_
            obtain ⟨hP, hD⟩ := wI (g := enc n (ex N a b) (tw Z (c_ + 1)) tn (po + (S 1)) rd al k S (sw0 P S tn) V F) hP hD 1 rfl (fun j hj => congrFun (congrArg (fun NN => enc n (ex N a b) NN tn (po + (S 1)) rd al k S (sw0 P S tn) V F) (show upd (tw Z c_) c_ ((tw Z c_) c_ - nI 0) = tw Z (c_ + 1) from by first | exact tw_ra (by assumption) | exact tw_rb (by assumption))) j)
            replace hP : va_P D vwCl [(mo, .inr (6, [.ref sa, .ref be, .int (nI (mn kn)), .ref ke, .int (zB ik), .ref te, .int (nI ty)])), (sa, .inl (G 0, 117, .inl (enc n (ex N a b) (tw Z (c_ + 1)) tn (po + (S 1)) rd al k S (sw0 P S tn) V F))), (be, .inl (G 0, 468, .inl (bf (kB B kn (enc n N Z tn po rd al k S P V F))))), (ke, .inl (G 0, 117, .inl (enc nq Nq Zq tnq poq rdq alq kq Sq Pq Vq Fq))), (te, .inl (G 0, 60, .inl (ch t)))] _ := hP
            have hD : va_D A [(mo, .inr (6, [.ref sa, .ref be, .int (nI (mn kn)), .ref ke, .int (zB ik), .ref te, .int (nI ty)])), (sa, .inl (G 0, 117, .inl (enc n (ex N a b) (tw Z (c_ + 1)) tn (po + (S 1)) rd al k S (sw0 P S tn) V F))), (be, .inl (G 0, 468, .inl (bf (kB B kn (enc n N Z tn po rd al k S P V F))))), (ke, .inl (G 0, 117, .inl (enc nq Nq Zq tnq poq rdq alq kq Sq Pq Vq Fq))), (te, .inl (G 0, 60, .inl (ch t)))] := hD
            exact ih120 (c_ + 1) (by omega) (by omega)  _ _ hP hD hS _ (lv_sub hl [0, 1, 2, 3, 4, 5] rfl)
          · refine lv_iconst (v := nI 1) hx hb dX6_swap_153 (by decide +kernel) ?_
            refine lv_goto (tgt := 158) hx hb dX6_swap_154 (by decide) ?_
            refine lv_isub hx hb dX6_swap_158 ?_
            refine rIast hx hb hK hP hD hS 1 rfl (31 + c_) (by omega) (by decide) dX6_swap_159 (fun H locs hP hD hS => ?_)
            obtain ⟨hP, hD⟩ := wI (g := enc n (ex N a b) (upd (tw Z c_) c_ ((tw Z c_) c_ - nI 1)) tn (po + (S 1)) rd al k S (sw0 P S tn) V F) hP hD 1 rfl (enc_wZ n (ex N a b) (tw Z c_) tn (po + (S 1)) rd al k S (sw0 P S tn) V F c_ (by omega) ((tw Z c_) c_ - nI 1))
            replace hP : va_P D vwCl [(mo, .inr (6, [.ref sa, .ref be, .int (nI (mn kn)), .ref ke, .int (zB ik), .ref te, .int (nI ty)])), (sa, .inl (G 0, 117, .inl (enc n (ex N a b) (upd (tw Z c_) c_ ((tw Z c_) c_ - nI 1)) tn (po + (S 1)) rd al k S (sw0 P S tn) V F))), (be, .inl (G 0, 468, .inl (bf (kB B kn (enc n N Z tn po rd al k S P V F))))), (ke, .inl (G 0, 117, .inl (enc nq Nq Zq tnq poq rdq alq kq Sq Pq Vq Fq))), (te, .inl (G 0, 60, .inl (ch t)))] _ := hP
            have hD : va_D A [(mo, .inr (6, [.ref sa, .ref be, .int (nI (mn kn)), .ref ke, .int (zB ik), .ref te, .int (nI ty)])), (sa, .inl (G 0, 117, .inl (enc n (ex N a b) (upd (tw Z c_) c_ ((tw Z c_) c_ - nI 1)) tn (po + (S 1)) rd al k S (sw0 P S tn) V F))), (be, .inl (G 0, 468, .inl (bf (kB B kn (enc n N Z tn po rd al k S P V F))))), (ke, .inl (G 0, 117, .inl (enc nq Nq Zq tnq poq rdq alq kq Sq Pq Vq Fq))), (te, .inl (G 0, 60, .inl (ch t)))] := hD
            refine lv_iinc (v := nI (c_ + 1)) (lv' := [(5, .int (nI (c_ + 1))), (4, .int (nI 1)), (3, .int (nI tn)), (0, .ref mo), (1, .int (nI a)), (2, .int (nI b))]) hx hb dX6_swap_160 hl (k := 0) rfl (nI_inc c_) (by decide) rfl (fun ls hl => ?_)
            refine lv_goto (tgt := 120) hx hb dX6_swap_163 (by decide) ?_
            obtain ⟨hP, hD⟩ := wI (g := enc n (ex N a b) (tw Z (c_ + 1)) tn (po + (S 1)) rd al k S (sw0 P S tn) V F) hP hD 1 rfl (fun j hj => congrFun (congrArg (fun NN => enc n (ex N a b) NN tn (po + (S 1)) rd al k S (sw0 P S tn) V F) (show upd (tw Z c_) c_ ((tw Z c_) c_ - nI 1) = tw Z (c_ + 1) from by first | exact tw_ra (by assumption) | exact tw_rb (by assumption))) j)
            replace hP : va_P D vwCl [(mo, .inr (6, [.ref sa, .ref be, .int (nI (mn kn)), .ref ke, .int (zB ik), .ref te, .int (nI ty)])), (sa, .inl (G 0, 117, .inl (enc n (ex N a b) (tw Z (c_ + 1)) tn (po + (S 1)) rd al k S (sw0 P S tn) V F))), (be, .inl (G 0, 468, .inl (bf (kB B kn (enc n N Z tn po rd al k S P V F))))), (ke, .inl (G 0, 117, .inl (enc nq Nq Zq tnq poq rdq alq kq Sq Pq Vq Fq))), (te, .inl (G 0, 60, .inl (ch t)))] _ := hP
            have hD : va_D A [(mo, .inr (6, [.ref sa, .ref be, .int (nI (mn kn)), .ref ke, .int (zB ik), .ref te, .int (nI ty)])), (sa, .inl (G 0, 117, .inl (enc n (ex N a b) (tw Z (c_ + 1)) tn (po + (S 1)) rd al k S (sw0 P S tn) V F))), (be, .inl (G 0, 468, .inl (bf (kB B kn (enc n N Z tn po rd al k S P V F))))), (ke, .inl (G 0, 117, .inl (enc nq Nq Zq tnq poq rdq alq kq Sq Pq Vq Fq))), (te, .inl (G 0, 60, .inl (ch t)))] := hD
            exact ih120 (c_ + 1) (by omega) (by omega)  _ _ hP hD hS _ (lv_sub hl [0, 1, 2, 3, 4, 5] rfl)
    obtain ⟨hP, hD⟩ := wI (g := enc n (ex N a b) (tw Z 0) tn (po + (S 1)) rd al k S (sw0 P S tn) V F) hP hD 1 rfl (fun j hj => by rw [tw_0])
    replace hP : va_P D vwCl [(mo, .inr (6, [.ref sa, .ref be, .int (nI (mn kn)), .ref ke, .int (zB ik), .ref te, .int (nI ty)])), (sa, .inl (G 0, 117, .inl (enc n (ex N a b) (tw Z 0) tn (po + (S 1)) rd al k S (sw0 P S tn) V F))), (be, .inl (G 0, 468, .inl (bf (kB B kn (enc n N Z tn po rd al k S P V F))))), (ke, .inl (G 0, 117, .inl (enc nq Nq Zq tnq poq rdq alq kq Sq Pq Vq Fq))), (te, .inl (G 0, 60, .inl (ch t)))] _ := hP
    have hD : va_D A [(mo, .inr (6, [.ref sa, .ref be, .int (nI (mn kn)), .ref ke, .int (zB ik), .ref te, .int (nI ty)])), (sa, .inl (G 0, 117, .inl (enc n (ex N a b) (tw Z 0) tn (po + (S 1)) rd al k S (sw0 P S tn) V F))), (be, .inl (G 0, 468, .inl (bf (kB B kn (enc n N Z tn po rd al k S P V F))))), (ke, .inl (G 0, 117, .inl (enc nq Nq Zq tnq poq rdq alq kq Sq Pq Vq Fq))), (te, .inl (G 0, 60, .inl (ch t)))] := hD
    exact LP120 (n * n + 1 - 0) 0 (by omega) (by omega)  _ _ hP hD hS _ (lv_sub hl [0, 1, 2, 3, 4, 5] rfl)

set_option maxHeartbeats 4000000 in
set_option maxRecDepth 100000 in
theorem mX6_swap_11 (l : Launch) (D : va_G) (G : Nat → ClassId) (mo sa be ke te kn ty : Nat) (ik : Bool) (n tn k : Nat) (N Z S P V : Nat → Int32) (F : Nat → Nat → Int32) (po rd al : Int32) (B : Nat → Nat → Int32) (nq tnq kq : Nat) (Nq Zq Sq Pq Vq : Nat → Int32) (Fq : Nat → Nat → Int32) (poq rdq alq : Int32) (t : Nat → Nat) (a b : Nat) (hkn : kn ≤ 4) (hn : n = 3 ∨ n = 4) (hk : k ≤ 10) (ht : tn < 3) (hSO : SOK n k F) (hN1 : NOK n N) (hSM : SMK k F) (hRF : RFD k F) (hxn : NOK n (ex N a b)) (haq : a < n * n) (hbq : b < n * n) (hZ : ∀ c, n * n ≤ c → Z c = nI 0) (hcap : cap (P tn + (-S 1)) = P tn - S 1) (hR : ¬ (rd + nI 1) < S 0) (hW : ¬ wof n N = 0 ∧ wof n (ex N a b) = 0) (hE : swE n Z P S tn (nI a) (nI b) = 0) : CT l yX6_swap wsX6_swap 5 115 D G [.ref mo, .int (nI a), .int (nI b)] [(mo, .inr (6, [.ref sa, .ref be, .int (nI kn), .ref ke, .int (zB ik), .ref te, .int (nI ty)])), (sa, .inl (G 0, 117, .inl (enc n N Z tn po rd al k S P V F))), (be, .inl (G 0, 468, .inl (bf B))), (ke, .inl (G 0, 117, .inl (enc nq Nq Zq tnq poq rdq alq kq Sq Pq Vq Fq))), (te, .inl (G 0, 60, .inl (ch t)))] [(mo, .inr (6, [.ref sa, .ref be, .int (nI (mn kn)), .ref ke, .int (zB ik), .ref te, .int (nI ty)])), (sa, .inl (G 0, 117, .inl (enc n (ex N a b) (tw Z 16) (nx tn) (swO (swS n N F (odR F) P S tn po k a b true) true) (swD rd true) (al + nI 1) (swK k true) S (swP (swS n N F (odR F) P S tn po k a b true) tn true) (swV V tn true) F))), (be, .inl (G 0, 468, .inl (bf (kB B kn (enc n N Z tn po rd al k S P V F))))), (ke, .inl (G 0, 117, .inl (enc nq Nq Zq tnq poq rdq alq kq Sq Pq Vq Fq))), (te, .inl (G 0, 60, .inl (ch t)))] (some (.int (nI (mcn n (ex N a b))))) := by
  refine CT.of (cc := cX6_swap) (maxL := 6) (ret := (some .int)) (by decide) rfl RX6 rfl (Nat.le_of_ble_eq_true rfl) (fun pp ee s mm bl me cc A ls hx hb hr hml hts hown hlk hnm hA hP hK hD hN hS hl => ?_)
  have hl : lv_has ls 6 [(0, .ref mo), (1, .int (nI a)), (2, .int (nI b))] := hl
  have hP : va_P D vwCl [(mo, .inr (6, [.ref sa, .ref be, .int (nI kn), .ref ke, .int (zB ik), .ref te, .int (nI ty)])), (sa, .inl (G 0, 117, .inl (enc n N Z tn po rd al k S P V F))), (be, .inl (G 0, 468, .inl (bf B))), (ke, .inl (G 0, 117, .inl (enc nq Nq Zq tnq poq rdq alq kq Sq Pq Vq Fq))), (te, .inl (G 0, 60, .inl (ch t)))] s.heap := hP
  have inX6 : ∀ w ∈ wsX60, w ∈ wsX6_swap := fun w h => List.mem_cons_of_mem _ (List.mem_append_right _ h)
  have k7 := hts (.fieldLink RX6 7 "SquareStakesModel" "s" "[I") (List.mem_of_getElem? (i := 1) rfl)
  have hq9 : n * n < 17 ∧ 0 < n * n := by rcases hn with rfl | rfl <;> decide
  refine lv_aload_n hx hb dX6_swap_0 rfl (lv_at hl 0 rfl) ?_
  refine lv_iload_n hx hb dX6_swap_1 rfl (lv_at hl 1 rfl) ?_
  refine cVr (As := [.int (nI a)]) (rest := []) ⟨hx, hb, hml, hown, hts⟩ hP hK hD hS hN hA (mX6_isCell l D G mo sa be ke te kn ty ik n tn k N Z S P V F po rd al (nI a) (by first | assumption | omega)) (cwV 1 hts gX6_swap_X6_isCell rfl rfl rfl (by decide +kernel) ⟨Nat.le_of_ble_eq_true rfl, Nat.le_of_ble_eq_true rfl⟩) [0, 1] rfl (by decide) 0 6 rfl rfl rfl hl.1 rfl (Nat.le_of_ble_eq_true rfl) dX6_swap_2 ⟨Nat.zero_le _, Nat.zero_le _⟩ (fun H locs hP hS => ?_)
  refine zEq (tgt := 16) hx hb dX6_swap_5 (by decide)  (fun c1 => absurd (c1) (by rw [inB_nI (by omega), decide_eq_true haq]; decide)) (fun c1 => ?_)
  refine lv_aload_n hx hb dX6_swap_8 rfl (lv_at hl 0 rfl) ?_
  refine lv_iload_n hx hb dX6_swap_9 rfl (lv_at hl 2 rfl) ?_
  refine cVr (As := [.int (nI b)]) (rest := []) ⟨hx, hb, hml, hown, hts⟩ hP hK hD hS hN hA (mX6_isCell l D G mo sa be ke te kn ty ik n tn k N Z S P V F po rd al (nI b) (by first | assumption | omega)) (cwV 1 hts gX6_swap_X6_isCell rfl rfl rfl (by decide +kernel) ⟨Nat.le_of_ble_eq_true rfl, Nat.le_of_ble_eq_true rfl⟩) [0, 1] rfl (by decide) 0 6 rfl rfl rfl hl.1 rfl (Nat.le_of_ble_eq_true rfl) dX6_swap_10 ⟨Nat.zero_le _, Nat.zero_le _⟩ (fun H locs hP hS => ?_)
  refine zNe (tgt := 18) hx hb dX6_swap_13 (by decide)  (fun c2 => ?_) (fun c2 => absurd (c2) (by rw [inB_nI (by omega), decide_eq_true hbq]; decide))
  refine lv_iload_n hx hb dX6_swap_18 rfl (lv_at hl 1 rfl) ?_
  refine lv_iload_n hx hb dX6_swap_19 rfl (lv_at hl 2 rfl) ?_
  refine bNe (tgt := 26) hx hb dX6_swap_20 (by decide) (by omega) (by omega) (fun c3 => ?_) (fun c3 => absurd (hE.symm.trans (by rw [swE_in haq hbq (by omega), if_pos c3])) (by decide))
  refine lv_aload_n hx hb dX6_swap_26 rfl (lv_at hl 0 rfl) ?_
  refine va_get (D := D) (ci := 6) (v := .ref sa) (C := RX6) (T := TX6) (N := 7) hx hb hts inX6 hown hK hP 0 rfl rfl 0 (by decide) k7 (fun _ h9 => h9) rfl dX6_swap_27 ?_
  refine lv_bipush (v := nI 31) hx hb dX6_swap_30 (by decide +kernel) ?_
  refine lv_iload_n hx hb dX6_swap_32 rfl (lv_at hl 1 rfl) ?_
  refine lv_iadd hx hb dX6_swap_33 ?_
  refine rTop (show nI 31 + nI a = nI (31 + a) from nI_add 31 a) ?_
  refine rIald hx hb hK hP 1 rfl (31 + a) (by omega) (by decide) dX6_swap_34 ?_
  refine rTop (enc_Z n N Z tn po rd al k S P V F a (by omega)) ?_
  refine lv_if_gt (tgt := 50) hx hb dX6_swap_35 (by decide)  (fun c4 => absurd (hE.symm.trans (by rw [swE_in haq hbq (by omega), if_neg (by omega), if_pos (Or.inl c4)])) (by decide)) (fun c4 => ?_)
  refine lv_aload_n hx hb dX6_swap_38 rfl (lv_at hl 0 rfl) ?_
  refine va_get (D := D) (ci := 6) (v := .ref sa) (C := RX6) (T := TX6) (N := 7) hx hb hts inX6 hown hK hP 0 rfl rfl 0 (by decide) k7 (fun _ h9 => h9) rfl dX6_swap_39 ?_
  refine lv_bipush (v := nI 31) hx hb dX6_swap_42 (by decide +kernel) ?_
  refine lv_iload_n hx hb dX6_swap_44 rfl (lv_at hl 2 rfl) ?_
  refine lv_iadd hx hb dX6_swap_45 ?_
  refine rTop (show nI 31 + nI b = nI (31 + b) from nI_add 31 b) ?_
  refine rIald hx hb hK hP 1 rfl (31 + b) (by omega) (by decide) dX6_swap_46 ?_
  refine rTop (enc_Z n N Z tn po rd al k S P V F b (by omega)) ?_
  refine lv_if_le (tgt := 53) hx hb dX6_swap_47 (by decide)  (fun c5 => ?_) (fun c5 => absurd (hE.symm.trans (by rw [swE_in haq hbq (by omega), if_neg (by omega), if_pos (Or.inr (Int32.not_le.mp c5))])) (by decide))
  refine lv_aload_n hx hb dX6_swap_53 rfl (lv_at hl 0 rfl) ?_
  refine va_get (D := D) (ci := 6) (v := .ref sa) (C := RX6) (T := TX6) (N := 7) hx hb hts inX6 hown hK hP 0 rfl rfl 0 (by decide) k7 (fun _ h9 => h9) rfl dX6_swap_54 ?_
  refine lv_iconst (v := nI 1) hx hb dX6_swap_57 (by decide +kernel) ?_
  refine rIald hx hb hK hP 1 rfl 1 (by omega) (by decide) dX6_swap_58 ?_
  refine rTop (show enc n N Z tn po rd al k S P V F 1 = nI tn from rfl) ?_
  refine lv_istore_n (lv' := [(3, .int (nI tn)), (0, .ref mo), (1, .int (nI a)), (2, .int (nI b))]) hx hb dX6_swap_59 rfl hl (by decide) rfl (fun ls hl => ?_)
  refine lv_aload_n hx hb dX6_swap_60 rfl (lv_at hl 1 rfl) ?_
  refine va_get (D := D) (ci := 6) (v := .ref sa) (C := RX6) (T := TX6) (N := 7) hx hb hts inX6 hown hK hP 0 rfl rfl 0 (by decide) k7 (fun _ h9 => h9) rfl dX6_swap_61 ?_
  refine lv_bipush (v := nI 9) hx hb dX6_swap_64 (by decide +kernel) ?_
  refine lv_iload_n hx hb dX6_swap_66 rfl (lv_at hl 0 rfl) ?_
  refine lv_iadd hx hb dX6_swap_67 ?_
  refine rTop (show nI 9 + nI tn = nI (9 + tn) from nI_add 9 tn) ?_
  refine rIald hx hb hK hP 1 rfl (9 + tn) (by omega) (by decide) dX6_swap_68 ?_
  refine rTop (enc_P n N Z tn po rd al k S P V F tn (by omega)) ?_
  refine lv_aload_n hx hb dX6_swap_69 rfl (lv_at hl 1 rfl) ?_
  refine va_get (D := D) (ci := 6) (v := .ref sa) (C := RX6) (T := TX6) (N := 7) hx hb hts inX6 hown hK hP 0 rfl rfl 0 (by decide) k7 (fun _ h9 => h9) rfl dX6_swap_70 ?_
  refine lv_bipush (v := nI 7) hx hb dX6_swap_73 (by decide +kernel) ?_
  refine rIald hx hb hK hP 1 rfl 7 (by omega) (by decide) dX6_swap_75 ?_
  refine rTop (show enc n N Z tn po rd al k S P V F 7 = S 1 from enc_S n N Z tn po rd al k S P V F 1 (by omega)) ?_
  refine lv_icmp_ge (tgt := 82) hx hb dX6_swap_76 (by decide)  (fun c6 => ?_) (fun c6 => absurd (hE.symm.trans (by rw [swE_in haq hbq (by omega), if_neg (by omega), if_neg (nle2 (by assumption) (by assumption)), if_pos (Int32.not_le.mp c6)])) (by decide))
  refine lv_aload_n hx hb dX6_swap_82 rfl (lv_at hl 1 rfl) ?_
  refine cV (As := []) (rest := []) ⟨hx, hb, hml, hown, hts⟩ hP hK hD hS hN hA (mX6_know l D G mo sa be ke te kn ty ik n tn k N Z S P V F po rd al B (by first | assumption | omega)) (cwV 0 hts gX6_swap_X6_know rfl rfl rfl (by decide +kernel) ⟨Nat.le_of_ble_eq_true rfl, Nat.le_of_ble_eq_true rfl⟩) [0, 1, 2] rfl (by decide) (Eq.trans (b := [mo, sa, be]) rfl rfl) 0 6 rfl rfl rfl hl.1 rfl (Nat.le_of_ble_eq_true rfl) dX6_swap_83 ⟨Nat.zero_le _, Nat.zero_le _⟩ (fun H locs hP hD hS => ?_)
  have hP : va_P D vwCl [(mo, .inr (6, [.ref sa, .ref be, .int (nI (mn kn)), .ref ke, .int (zB ik), .ref te, .int (nI ty)])), (sa, .inl (G 0, 117, .inl (enc n N Z tn po rd al k S P V F))), (be, .inl (G 0, 468, .inl (bf (kB B kn (enc n N Z tn po rd al k S P V F))))), (ke, .inl (G 0, 117, .inl (enc nq Nq Zq tnq poq rdq alq kq Sq Pq Vq Fq))), (te, .inl (G 0, 60, .inl (ch t)))] H := hP
  have hD : va_D A [(mo, .inr (6, [.ref sa, .ref be, .int (nI (mn kn)), .ref ke, .int (zB ik), .ref te, .int (nI ty)])), (sa, .inl (G 0, 117, .inl (enc n N Z tn po rd al k S P V F))), (be, .inl (G 0, 468, .inl (bf (kB B kn (enc n N Z tn po rd al k S P V F))))), (ke, .inl (G 0, 117, .inl (enc nq Nq Zq tnq poq rdq alq kq Sq Pq Vq Fq))), (te, .inl (G 0, 60, .inl (ch t)))] := hD
  refine lv_aload_n hx hb dX6_swap_86 rfl (lv_at hl 1 rfl) ?_
  refine lv_aload_n hx hb dX6_swap_87 rfl (lv_at hl 1 rfl) ?_
  refine va_get (D := D) (ci := 6) (v := .ref sa) (C := RX6) (T := TX6) (N := 7) hx hb hts inX6 hown hK hP 0 rfl rfl 0 (by decide) k7 (fun _ h9 => h9) rfl dX6_swap_88 ?_
  refine lv_bipush (v := nI 7) hx hb dX6_swap_91 (by decide +kernel) ?_
  refine rIald hx hb hK hP 1 rfl 7 (by omega) (by decide) dX6_swap_93 ?_
  refine rTop (show enc n N Z tn po rd al k S P V F 7 = S 1 from enc_S n N Z tn po rd al k S P V F 1 (by omega)) ?_
  refine cV (As := [.int (S 1)]) (rest := []) ⟨hx, hb, hml, hown, hts⟩ hP hK hD hS hN hA (mX6_spend l D G mo sa be ke te (mn kn) ty ik n tn k N Z S P V F po rd al (S 1) (by first | assumption | omega)) (cwV 1 hts gX6_swap_X6_spend rfl rfl rfl (by decide +kernel) ⟨Nat.le_of_ble_eq_true rfl, Nat.le_of_ble_eq_true rfl⟩) [0, 1] rfl (by decide) (Eq.trans (b := [mo, sa]) rfl rfl) 0 6 rfl rfl rfl hl.1 rfl (Nat.le_of_ble_eq_true rfl) dX6_swap_94 ⟨Nat.zero_le _, Nat.zero_le _⟩ (fun H locs hP hD hS => ?_)
  have hP : va_P D vwCl [(mo, .inr (6, [.ref sa, .ref be, .int (nI (mn kn)), .ref ke, .int (zB ik), .ref te, .int (nI ty)])), (sa, .inl (G 0, 117, .inl (enc n N Z tn (po + (S 1)) rd al k S (upd P tn (P tn - (S 1))) V F))), (be, .inl (G 0, 468, .inl (bf (kB B kn (enc n N Z tn po rd al k S P V F))))), (ke, .inl (G 0, 117, .inl (enc nq Nq Zq tnq poq rdq alq kq Sq Pq Vq Fq))), (te, .inl (G 0, 60, .inl (ch t)))] H := hP
  have hD : va_D A [(mo, .inr (6, [.ref sa, .ref be, .int (nI (mn kn)), .ref ke, .int (zB ik), .ref te, .int (nI ty)])), (sa, .inl (G 0, 117, .inl (enc n N Z tn (po + (S 1)) rd al k S (upd P tn (P tn - (S 1))) V F))), (be, .inl (G 0, 468, .inl (bf (kB B kn (enc n N Z tn po rd al k S P V F))))), (ke, .inl (G 0, 117, .inl (enc nq Nq Zq tnq poq rdq alq kq Sq Pq Vq Fq))), (te, .inl (G 0, 60, .inl (ch t)))] := hD
  obtain ⟨hP, hD⟩ := wI (g := enc n N Z tn (po + (S 1)) rd al k S (sw0 P S tn) V F) hP hD 1 rfl (fun j hj => by rw [sw0, hcap])
  replace hP : va_P D vwCl [(mo, .inr (6, [.ref sa, .ref be, .int (nI (mn kn)), .ref ke, .int (zB ik), .ref te, .int (nI ty)])), (sa, .inl (G 0, 117, .inl (enc n N Z tn (po + (S 1)) rd al k S (sw0 P S tn) V F))), (be, .inl (G 0, 468, .inl (bf (kB B kn (enc n N Z tn po rd al k S P V F))))), (ke, .inl (G 0, 117, .inl (enc nq Nq Zq tnq poq rdq alq kq Sq Pq Vq Fq))), (te, .inl (G 0, 60, .inl (ch t)))] _ := hP
  have hD : va_D A [(mo, .inr (6, [.ref sa, .ref be, .int (nI (mn kn)), .ref ke, .int (zB ik), .ref te, .int (nI ty)])), (sa, .inl (G 0, 117, .inl (enc n N Z tn (po + (S 1)) rd al k S (sw0 P S tn) V F))), (be, .inl (G 0, 468, .inl (bf (kB B kn (enc n N Z tn po rd al k S P V F))))), (ke, .inl (G 0, 117, .inl (enc nq Nq Zq tnq poq rdq alq kq Sq Pq Vq Fq))), (te, .inl (G 0, 60, .inl (ch t)))] := hD
  refine lv_aload_n hx hb dX6_swap_97 rfl (lv_at hl 1 rfl) ?_
  refine cVr (As := []) (rest := []) ⟨hx, hb, hml, hown, hts⟩ hP hK hD hS hN hA (mX6_wayOff l D G mo sa be ke te (mn kn) ty ik n tn k N Z S (sw0 P S tn) V F (po + (S 1)) rd al (by first | assumption | omega)) (cwV 0 hts gX6_swap_X6_wayOff rfl rfl rfl (by decide +kernel) ⟨Nat.le_of_ble_eq_true rfl, Nat.le_of_ble_eq_true rfl⟩) [0, 1] rfl (by decide) 0 6 rfl rfl rfl hl.1 rfl (Nat.le_of_ble_eq_true rfl) dX6_swap_98 ⟨Nat.zero_le _, Nat.zero_le _⟩ (fun H locs hP hS => ?_)
  refine lv_if_ne (tgt := 108) hx hb dX6_swap_101 (by decide)  (fun c7 => ?_) (fun c7 => absurd c7 hW.1)
  refine lv_iconst (v := nI 0) hx hb dX6_swap_108 (by decide +kernel) ?_
  refine lv_istore (lv' := [(4, .int (nI 0)), (3, .int (nI tn)), (0, .ref mo), (1, .int (nI a)), (2, .int (nI b))]) hx hb dX6_swap_109 hl (by decide) rfl (fun ls hl => ?_)
  refine lv_aload_n hx hb dX6_swap_111 rfl (lv_at hl 2 rfl) ?_
  refine lv_iload_n hx hb dX6_swap_112 rfl (lv_at hl 3 rfl) ?_
  refine lv_iload_n hx hb dX6_swap_113 rfl (lv_at hl 4 rfl) ?_
  refine cV (As := [.int (nI a), .int (nI b)]) (rest := []) ⟨hx, hb, hml, hown, hts⟩ hP hK hD hS hN hA (mX6_exchange l D G mo sa be ke te (mn kn) ty ik n tn k N Z S (sw0 P S tn) V F (po + (S 1)) rd al a b (by first | assumption | omega) (by first | assumption | omega)) (cwV 2 hts gX6_swap_X6_exchange rfl rfl rfl (by decide +kernel) ⟨Nat.le_of_ble_eq_true rfl, Nat.le_of_ble_eq_true rfl⟩) [0, 1] rfl (by decide) (Eq.trans (b := [mo, sa]) rfl rfl) 0 6 rfl rfl rfl hl.1 rfl (Nat.le_of_ble_eq_true rfl) dX6_swap_114 ⟨Nat.zero_le _, Nat.zero_le _⟩ (fun H locs hP hD hS => ?_)
  have hP : va_P D vwCl [(mo, .inr (6, [.ref sa, .ref be, .int (nI (mn kn)), .ref ke, .int (zB ik), .ref te, .int (nI ty)])), (sa, .inl (G 0, 117, .inl (enc n (ex N a b) Z tn (po + (S 1)) rd al k S (sw0 P S tn) V F))), (be, .inl (G 0, 468, .inl (bf (kB B kn (enc n N Z tn po rd al k S P V F))))), (ke, .inl (G 0, 117, .inl (enc nq Nq Zq tnq poq rdq alq kq Sq Pq Vq Fq))), (te, .inl (G 0, 60, .inl (ch t)))] H := hP
  have hD : va_D A [(mo, .inr (6, [.ref sa, .ref be, .int (nI (mn kn)), .ref ke, .int (zB ik), .ref te, .int (nI ty)])), (sa, .inl (G 0, 117, .inl (enc n (ex N a b) Z tn (po + (S 1)) rd al k S (sw0 P S tn) V F))), (be, .inl (G 0, 468, .inl (bf (kB B kn (enc n N Z tn po rd al k S P V F))))), (ke, .inl (G 0, 117, .inl (enc nq Nq Zq tnq poq rdq alq kq Sq Pq Vq Fq))), (te, .inl (G 0, 60, .inl (ch t)))] := hD
  refine lv_iconst (v := nI 0) hx hb dX6_swap_117 (by decide +kernel) ?_
  refine lv_istore (lv' := [(5, .int (nI 0)), (4, .int (nI 0)), (3, .int (nI tn)), (0, .ref mo), (1, .int (nI a)), (2, .int (nI b))]) hx hb dX6_swap_118 hl (by decide) rfl (fun ls hl => ?_)
  have LP120 : ∀ (nn120 c_ : Nat), c_ ≤ (n * n) → (n * n) < c_ + nn120  → ∀ (H : Heap) (locs : List Loc), va_P D vwCl [(mo, .inr (6, [.ref sa, .ref be, .int (nI (mn kn)), .ref ke, .int (zB ik), .ref te, .int (nI ty)])), (sa, .inl (G 0, 117, .inl (enc n (ex N a b) (tw Z c_) tn (po + (S 1)) rd al k S (sw0 P S tn) V F))), (be, .inl (G 0, 468, .inl (bf (kB B kn (enc n N Z tn po rd al k S P V F))))), (ke, .inl (G 0, 117, .inl (enc nq Nq Zq tnq poq rdq alq kq Sq Pq Vq Fq))), (te, .inl (G 0, 60, .inl (ch t)))] H → va_D A [(mo, .inr (6, [.ref sa, .ref be, .int (nI (mn kn)), .ref ke, .int (zB ik), .ref te, .int (nI ty)])), (sa, .inl (G 0, 117, .inl (enc n (ex N a b) (tw Z c_) tn (po + (S 1)) rd al k S (sw0 P S tn) V F))), (be, .inl (G 0, 468, .inl (bf (kB B kn (enc n N Z tn po rd al k S P V F))))), (ke, .inl (G 0, 117, .inl (enc nq Nq Zq tnq poq rdq alq kq Sq Pq Vq Fq))), (te, .inl (G 0, 60, .inl (ch t)))] → va_S A s.heap H locs → ∀ ls : Array Slot, lv_has ls 6 [(5, .int (nI c_)), (4, .int (nI 0)), (3, .int (nI tn)), (0, .ref mo), (1, .int (nI a)), (2, .int (nI b))] → W pp l ee (rmA 5 115) s mm ([.ref mo, .int (nI a), .int (nI b)] : List Value).toArray bl me cc H locs 0 0 (MQ bl (Qres (some (.int (nI (mcn n (ex N a b))))) D G [(mo, .inr (6, [.ref sa, .ref be, .int (nI (mn kn)), .ref ke, .int (zB ik), .ref te, .int (nI ty)])), (sa, .inl (G 0, 117, .inl (enc n (ex N a b) (tw Z 16) (nx tn) (swO (swS n N F (odR F) P S tn po k a b true) true) (swD rd true) (al + nI 1) (swK k true) S (swP (swS n N F (odR F) P S tn po k a b true) tn true) (swV V tn true) F))), (be, .inl (G 0, 468, .inl (bf (kB B kn (enc n N Z tn po rd al k S P V F))))), (ke, .inl (G 0, 117, .inl (enc nq Nq Zq tnq poq rdq alq kq Sq Pq Vq Fq))), (te, .inl (G 0, 60, .inl (ch t)))] A) ([.ref mo, .int (nI a), .int (nI b)] : List Value).toArray s 0 0 A) (F0 mm 120 ls []) := by
    intro nn120
    induction nn120 with
    | zero => intro c_ h1 h2; exact absurd h2 (by omega)
    | succ nn120 ih120 =>
      intro c_ hkc_ hnc_  H locs hP hD hS ls hl
      refine lv_iload hx hb dX6_swap_120 (lv_at hl 0 rfl) ?_
      refine lv_aload_n hx hb dX6_swap_122 rfl (lv_at hl 3 rfl) ?_
      refine cVr (As := []) (rest := [.int (nI c_)]) ⟨hx, hb, hml, hown, hts⟩ hP hK hD hS hN hA (mX6_cells l D G mo sa be ke te (mn kn) ty ik n tn k (ex N a b) (tw Z c_) S (sw0 P S tn) V F (po + (S 1)) rd al (by first | assumption | omega)) (cwV 0 hts gX6_swap_X6_cells rfl rfl rfl (by decide +kernel) ⟨Nat.le_of_ble_eq_true rfl, Nat.le_of_ble_eq_true rfl⟩) [0, 1] rfl (by decide) 0 6 rfl rfl rfl hl.1 rfl (Nat.le_of_ble_eq_true rfl) dX6_swap_123 ⟨Nat.zero_le _, Nat.zero_le _⟩ (fun H locs hP hS => ?_)
      refine bGe (tgt := 166) hx hb dX6_swap_126 (by decide) (by omega) (by omega) (fun c8 => ?_) (fun c8 => ?_)
      · obtain rfl : n * n = c_ := by omega
        obtain ⟨hP, hD⟩ := wI (g := enc n (ex N a b) (tw Z 16) tn (po + (S 1)) rd al k S (sw0 P S tn) V F) hP hD 1 rfl (fun j hj => enc_cZ (fun c hc => tw_16 (by omega) hZ) j hj)
        replace hP : va_P D vwCl [(mo, .inr (6, [.ref sa, .ref be, .int (nI (mn kn)), .ref ke, .int (zB ik), .ref te, .int (nI ty)])), (sa, .inl (G 0, 117, .inl (enc n (ex N a b) (tw Z 16) tn (po + (S 1)) rd al k S (sw0 P S tn) V F))), (be, .inl (G 0, 468, .inl (bf (kB B kn (enc n N Z tn po rd al k S P V F))))), (ke, .inl (G 0, 117, .inl (enc nq Nq Zq tnq poq rdq alq kq Sq Pq Vq Fq))), (te, .inl (G 0, 60, .inl (ch t)))] _ := hP
        have hD : va_D A [(mo, .inr (6, [.ref sa, .ref be, .int (nI (mn kn)), .ref ke, .int (zB ik), .ref te, .int (nI ty)])), (sa, .inl (G 0, 117, .inl (enc n (ex N a b) (tw Z 16) tn (po + (S 1)) rd al k S (sw0 P S tn) V F))), (be, .inl (G 0, 468, .inl (bf (kB B kn (enc n N Z tn po rd al k S P V F))))), (ke, .inl (G 0, 117, .inl (enc nq Nq Zq tnq poq rdq alq kq Sq Pq Vq Fq))), (te, .inl (G 0, 60, .inl (ch t)))] := hD
        refine lv_aload_n hx hb dX6_swap_166 rfl (lv_at hl 3 rfl) ?_
        refine va_get (D := D) (ci := 6) (v := .ref sa) (C := RX6) (T := TX6) (N := 7) hx hb hts inX6 hown hK hP 0 rfl rfl 0 (by decide) k7 (fun _ h9 => h9) rfl dX6_swap_167 ?_
        refine lv_iconst (v := nI 3) hx hb dX6_swap_170 (by decide +kernel) ?_
        refine lv_dup2_11 hx hb dX6_swap_171 rfl rfl ?_
        refine rIald hx hb hK hP 1 rfl 3 (by omega) (by decide) dX6_swap_172 ?_
        refine rTop (show enc n (ex N a b) (tw Z 16) tn (po + (S 1)) rd al k S (sw0 P S tn) V F 3 = rd from rfl) ?_
        refine lv_iconst (v := nI 1) hx hb dX6_swap_173 (by decide +kernel) ?_
        refine lv_iadd hx hb dX6_swap_174 ?_
        refine rIast hx hb hK hP hD hS 1 rfl 3 (by omega) (by decide) dX6_swap_175 (fun H locs hP hD hS => ?_)
        obtain ⟨hP, hD⟩ := wI (g := enc n (ex N a b) (tw Z 16) tn (po + (S 1)) (rd + nI 1) al k S (sw0 P S tn) V F) hP hD 1 rfl (enc_w3 n (ex N a b) (tw Z 16) tn (po + (S 1)) rd al k S (sw0 P S tn) V F (rd + nI 1))
        replace hP : va_P D vwCl [(mo, .inr (6, [.ref sa, .ref be, .int (nI (mn kn)), .ref ke, .int (zB ik), .ref te, .int (nI ty)])), (sa, .inl (G 0, 117, .inl (enc n (ex N a b) (tw Z 16) tn (po + (S 1)) (rd + nI 1) al k S (sw0 P S tn) V F))), (be, .inl (G 0, 468, .inl (bf (kB B kn (enc n N Z tn po rd al k S P V F))))), (ke, .inl (G 0, 117, .inl (enc nq Nq Zq tnq poq rdq alq kq Sq Pq Vq Fq))), (te, .inl (G 0, 60, .inl (ch t)))] _ := hP
        have hD : va_D A [(mo, .inr (6, [.ref sa, .ref be, .int (nI (mn kn)), .ref ke, .int (zB ik), .ref te, .int (nI ty)])), (sa, .inl (G 0, 117, .inl (enc n (ex N a b) (tw Z 16) tn (po + (S 1)) (rd + nI 1) al k S (sw0 P S tn) V F))), (be, .inl (G 0, 468, .inl (bf (kB B kn (enc n N Z tn po rd al k S P V F))))), (ke, .inl (G 0, 117, .inl (enc nq Nq Zq tnq poq rdq alq kq Sq Pq Vq Fq))), (te, .inl (G 0, 60, .inl (ch t)))] := hD
        refine lv_aload_n hx hb dX6_swap_176 rfl (lv_at hl 3 rfl) ?_
        refine va_get (D := D) (ci := 6) (v := .ref sa) (C := RX6) (T := TX6) (N := 7) hx hb hts inX6 hown hK hP 0 rfl rfl 0 (by decide) k7 (fun _ h9 => h9) rfl dX6_swap_177 ?_
        refine lv_iconst (v := nI 4) hx hb dX6_swap_180 (by decide +kernel) ?_
        refine lv_dup2_11 hx hb dX6_swap_181 rfl rfl ?_
        refine rIald hx hb hK hP 1 rfl 4 (by omega) (by decide) dX6_swap_182 ?_
        refine rTop (show enc n (ex N a b) (tw Z 16) tn (po + (S 1)) (rd + nI 1) al k S (sw0 P S tn) V F 4 = al from rfl) ?_
        refine lv_iconst (v := nI 1) hx hb dX6_swap_183 (by decide +kernel) ?_
        refine lv_iadd hx hb dX6_swap_184 ?_
        refine rIast hx hb hK hP hD hS 1 rfl 4 (by omega) (by decide) dX6_swap_185 (fun H locs hP hD hS => ?_)
        obtain ⟨hP, hD⟩ := wI (g := enc n (ex N a b) (tw Z 16) tn (po + (S 1)) (rd + nI 1) (al + nI 1) k S (sw0 P S tn) V F) hP hD 1 rfl (enc_w4 n (ex N a b) (tw Z 16) tn (po + (S 1)) (rd + nI 1) al k S (sw0 P S tn) V F (al + nI 1))
        replace hP : va_P D vwCl [(mo, .inr (6, [.ref sa, .ref be, .int (nI (mn kn)), .ref ke, .int (zB ik), .ref te, .int (nI ty)])), (sa, .inl (G 0, 117, .inl (enc n (ex N a b) (tw Z 16) tn (po + (S 1)) (rd + nI 1) (al + nI 1) k S (sw0 P S tn) V F))), (be, .inl (G 0, 468, .inl (bf (kB B kn (enc n N Z tn po rd al k S P V F))))), (ke, .inl (G 0, 117, .inl (enc nq Nq Zq tnq poq rdq alq kq Sq Pq Vq Fq))), (te, .inl (G 0, 60, .inl (ch t)))] _ := hP
        have hD : va_D A [(mo, .inr (6, [.ref sa, .ref be, .int (nI (mn kn)), .ref ke, .int (zB ik), .ref te, .int (nI ty)])), (sa, .inl (G 0, 117, .inl (enc n (ex N a b) (tw Z 16) tn (po + (S 1)) (rd + nI 1) (al + nI 1) k S (sw0 P S tn) V F))), (be, .inl (G 0, 468, .inl (bf (kB B kn (enc n N Z tn po rd al k S P V F))))), (ke, .inl (G 0, 117, .inl (enc nq Nq Zq tnq poq rdq alq kq Sq Pq Vq Fq))), (te, .inl (G 0, 60, .inl (ch t)))] := hD
        refine lv_aload_n hx hb dX6_swap_186 rfl (lv_at hl 3 rfl) ?_
        refine va_get (D := D) (ci := 6) (v := .ref sa) (C := RX6) (T := TX6) (N := 7) hx hb hts inX6 hown hK hP 0 rfl rfl 0 (by decide) k7 (fun _ h9 => h9) rfl dX6_swap_187 ?_
        refine lv_iconst (v := nI 3) hx hb dX6_swap_190 (by decide +kernel) ?_
        refine rIald hx hb hK hP 1 rfl 3 (by omega) (by decide) dX6_swap_191 ?_
        refine rTop (show enc n (ex N a b) (tw Z 16) tn (po + (S 1)) (rd + nI 1) (al + nI 1) k S (sw0 P S tn) V F 3 = (rd + nI 1) from rfl) ?_
        refine lv_aload_n hx hb dX6_swap_192 rfl (lv_at hl 3 rfl) ?_
        refine va_get (D := D) (ci := 6) (v := .ref sa) (C := RX6) (T := TX6) (N := 7) hx hb hts inX6 hown hK hP 0 rfl rfl 0 (by decide) k7 (fun _ h9 => h9) rfl dX6_swap_193 ?_
        refine lv_bipush (v := nI 6) hx hb dX6_swap_196 (by decide +kernel) ?_
        refine rIald hx hb hK hP 1 rfl 6 (by omega) (by decide) dX6_swap_198 ?_
        refine rTop (show enc n (ex N a b) (tw Z 16) tn (po + (S 1)) (rd + nI 1) (al + nI 1) k S (sw0 P S tn) V F 6 = S 0 from enc_S n (ex N a b) (tw Z 16) tn (po + (S 1)) (rd + nI 1) (al + nI 1) k S (sw0 P S tn) V F 0 (by omega)) ?_
        refine lv_icmp_lt (tgt := 213) hx hb dX6_swap_199 (by decide)  (fun c9 => absurd c9 hR) (fun c9 => ?_)
        refine lv_aload_n hx hb dX6_swap_202 rfl (lv_at hl 3 rfl) ?_
        refine cV (As := []) (rest := []) ⟨hx, hb, hml, hown, hts⟩ hP hK hD hS hN hA (mX6_settle l D G mo sa be ke te (mn kn) ty ik n tn k (ex N a b) (tw Z 16) S (sw0 P S tn) V F (po + (S 1)) (rd + nI 1) (al + nI 1) (by first | assumption | omega) (by first | assumption | omega) (by first | assumption | omega) (by first | assumption | omega) (by first | assumption | omega) (by first | assumption | omega)) (cwV 0 hts gX6_swap_X6_settle rfl rfl rfl (by decide +kernel) ⟨Nat.le_of_ble_eq_true rfl, Nat.le_of_ble_eq_true rfl⟩) [0, 1] rfl (by decide) (Eq.trans (b := [mo, sa]) rfl rfl) 0 6 rfl rfl rfl hl.1 rfl (Nat.le_of_ble_eq_true rfl) dX6_swap_203 ⟨Nat.zero_le _, Nat.zero_le _⟩ (fun H locs hP hD hS => ?_)
        have hP : va_P D vwCl [(mo, .inr (6, [.ref sa, .ref be, .int (nI (mn kn)), .ref ke, .int (zB ik), .ref te, .int (nI ty)])), (sa, .inl (G 0, 117, .inl (enc n (ex N a b) (tw Z 16) tn ((stl n (ex N a b) F (odR F) (sw0 P S tn) (po + (S 1)) k).2) (rd + nI 1) (al + nI 1) 0 S ((stl n (ex N a b) F (odR F) (sw0 P S tn) (po + (S 1)) k).1) V F))), (be, .inl (G 0, 468, .inl (bf (kB B kn (enc n N Z tn po rd al k S P V F))))), (ke, .inl (G 0, 117, .inl (enc nq Nq Zq tnq poq rdq alq kq Sq Pq Vq Fq))), (te, .inl (G 0, 60, .inl (ch t)))] H := hP
        have hD : va_D A [(mo, .inr (6, [.ref sa, .ref be, .int (nI (mn kn)), .ref ke, .int (zB ik), .ref te, .int (nI ty)])), (sa, .inl (G 0, 117, .inl (enc n (ex N a b) (tw Z 16) tn ((stl n (ex N a b) F (odR F) (sw0 P S tn) (po + (S 1)) k).2) (rd + nI 1) (al + nI 1) 0 S ((stl n (ex N a b) F (odR F) (sw0 P S tn) (po + (S 1)) k).1) V F))), (be, .inl (G 0, 468, .inl (bf (kB B kn (enc n N Z tn po rd al k S P V F))))), (ke, .inl (G 0, 117, .inl (enc nq Nq Zq tnq poq rdq alq kq Sq Pq Vq Fq))), (te, .inl (G 0, 60, .inl (ch t)))] := hD
        refine lv_aload_n hx hb dX6_swap_206 rfl (lv_at hl 3 rfl) ?_
        refine va_get (D := D) (ci := 6) (v := .ref sa) (C := RX6) (T := TX6) (N := 7) hx hb hts inX6 hown hK hP 0 rfl rfl 0 (by decide) k7 (fun _ h9 => h9) rfl dX6_swap_207 ?_
        refine lv_iconst (v := nI 3) hx hb dX6_swap_210 (by decide +kernel) ?_
        refine lv_iconst (v := nI 0) hx hb dX6_swap_211 (by decide +kernel) ?_
        refine rIast hx hb hK hP hD hS 1 rfl 3 (by omega) (by decide) dX6_swap_212 (fun H locs hP hD hS => ?_)
        obtain ⟨hP, hD⟩ := wI (g := enc n (ex N a b) (tw Z 16) tn ((stl n (ex N a b) F (odR F) (sw0 P S tn) (po + (S 1)) k).2) (nI 0) (al + nI 1) 0 S ((stl n (ex N a b) F (odR F) (sw0 P S tn) (po + (S 1)) k).1) V F) hP hD 1 rfl (enc_w3 n (ex N a b) (tw Z 16) tn ((stl n (ex N a b) F (odR F) (sw0 P S tn) (po + (S 1)) k).2) (rd + nI 1) (al + nI 1) 0 S ((stl n (ex N a b) F (odR F) (sw0 P S tn) (po + (S 1)) k).1) V F (nI 0))
        replace hP : va_P D vwCl [(mo, .inr (6, [.ref sa, .ref be, .int (nI (mn kn)), .ref ke, .int (zB ik), .ref te, .int (nI ty)])), (sa, .inl (G 0, 117, .inl (enc n (ex N a b) (tw Z 16) tn ((stl n (ex N a b) F (odR F) (sw0 P S tn) (po + (S 1)) k).2) (nI 0) (al + nI 1) 0 S ((stl n (ex N a b) F (odR F) (sw0 P S tn) (po + (S 1)) k).1) V F))), (be, .inl (G 0, 468, .inl (bf (kB B kn (enc n N Z tn po rd al k S P V F))))), (ke, .inl (G 0, 117, .inl (enc nq Nq Zq tnq poq rdq alq kq Sq Pq Vq Fq))), (te, .inl (G 0, 60, .inl (ch t)))] _ := hP
        have hD : va_D A [(mo, .inr (6, [.ref sa, .ref be, .int (nI (mn kn)), .ref ke, .int (zB ik), .ref te, .int (nI ty)])), (sa, .inl (G 0, 117, .inl (enc n (ex N a b) (tw Z 16) tn ((stl n (ex N a b) F (odR F) (sw0 P S tn) (po + (S 1)) k).2) (nI 0) (al + nI 1) 0 S ((stl n (ex N a b) F (odR F) (sw0 P S tn) (po + (S 1)) k).1) V F))), (be, .inl (G 0, 468, .inl (bf (kB B kn (enc n N Z tn po rd al k S P V F))))), (ke, .inl (G 0, 117, .inl (enc nq Nq Zq tnq poq rdq alq kq Sq Pq Vq Fq))), (te, .inl (G 0, 60, .inl (ch t)))] := hD
        refine lv_iload hx hb dX6_swap_213 (lv_at hl 1 rfl) ?_
        refine iNe (tgt := 256) hx hb dX6_swap_215 (by decide) (by omega) (fun c10 => by exfalso; omega) (fun c10 => ?_)
        refine lv_aload_n hx hb dX6_swap_218 rfl (lv_at hl 3 rfl) ?_
        refine cVr (As := []) (rest := []) ⟨hx, hb, hml, hown, hts⟩ hP hK hD hS hN hA (mX6_wayOff l D G mo sa be ke te (mn kn) ty ik n tn 0 (ex N a b) (tw Z 16) S ((stl n (ex N a b) F (odR F) (sw0 P S tn) (po + (S 1)) k).1) V F ((stl n (ex N a b) F (odR F) (sw0 P S tn) (po + (S 1)) k).2) (nI 0) (al + nI 1) (by first | assumption | omega)) (cwV 0 hts gX6_swap_X6_wayOff rfl rfl rfl (by decide +kernel) ⟨Nat.le_of_ble_eq_true rfl, Nat.le_of_ble_eq_true rfl⟩) [0, 1] rfl (by decide) 0 6 rfl rfl rfl hl.1 rfl (Nat.le_of_ble_eq_true rfl) dX6_swap_219 ⟨Nat.zero_le _, Nat.zero_le _⟩ (fun H locs hP hS => ?_)
        refine lv_if_ne (tgt := 256) hx hb dX6_swap_222 (by decide)  (fun c11 => absurd hW.2 c11) (fun c11 => ?_)
        refine lv_aload_n hx hb dX6_swap_225 rfl (lv_at hl 3 rfl) ?_
        refine lv_iload_n hx hb dX6_swap_226 rfl (lv_at hl 2 rfl) ?_
        refine lv_aload_n hx hb dX6_swap_227 rfl (lv_at hl 3 rfl) ?_
        refine va_get (D := D) (ci := 6) (v := .ref sa) (C := RX6) (T := TX6) (N := 7) hx hb hts inX6 hown hK hP 0 rfl rfl 0 (by decide) k7 (fun _ h9 => h9) rfl dX6_swap_228 ?_
        refine lv_iconst (v := nI 2) hx hb dX6_swap_231 (by decide +kernel) ?_
        refine rIald hx hb hK hP 1 rfl 2 (by omega) (by decide) dX6_swap_232 ?_
        refine rTop (show enc n (ex N a b) (tw Z 16) tn ((stl n (ex N a b) F (odR F) (sw0 P S tn) (po + (S 1)) k).2) (nI 0) (al + nI 1) 0 S ((stl n (ex N a b) F (odR F) (sw0 P S tn) (po + (S 1)) k).1) V F 2 = (stl n (ex N a b) F (odR F) (sw0 P S tn) (po + (S 1)) k).2 from rfl) ?_
        refine cV (As := [.int (nI tn), .int ((stl n (ex N a b) F (odR F) (sw0 P S tn) (po + (S 1)) k).2)]) (rest := []) ⟨hx, hb, hml, hown, hts⟩ hP hK hD hS hN hA (mX6_gain l D G mo sa be ke te (mn kn) ty ik n tn 0 (ex N a b) (tw Z 16) S ((stl n (ex N a b) F (odR F) (sw0 P S tn) (po + (S 1)) k).1) V F ((stl n (ex N a b) F (odR F) (sw0 P S tn) (po + (S 1)) k).2) (nI 0) (al + nI 1) tn ((stl n (ex N a b) F (odR F) (sw0 P S tn) (po + (S 1)) k).2) (by first | assumption | omega)) (cwV 2 hts gX6_swap_X6_gain rfl rfl rfl (by decide +kernel) ⟨Nat.le_of_ble_eq_true rfl, Nat.le_of_ble_eq_true rfl⟩) [0, 1] rfl (by decide) (Eq.trans (b := [mo, sa]) rfl rfl) 0 6 rfl rfl rfl hl.1 rfl (Nat.le_of_ble_eq_true rfl) dX6_swap_233 ⟨Nat.zero_le _, Nat.zero_le _⟩ (fun H locs hP hD hS => ?_)
        have hP : va_P D vwCl [(mo, .inr (6, [.ref sa, .ref be, .int (nI (mn kn)), .ref ke, .int (zB ik), .ref te, .int (nI ty)])), (sa, .inl (G 0, 117, .inl (enc n (ex N a b) (tw Z 16) tn ((stl n (ex N a b) F (odR F) (sw0 P S tn) (po + (S 1)) k).2) (nI 0) (al + nI 1) 0 S (upd ((stl n (ex N a b) F (odR F) (sw0 P S tn) (po + (S 1)) k).1) tn (cap (((stl n (ex N a b) F (odR F) (sw0 P S tn) (po + (S 1)) k).1) tn + ((stl n (ex N a b) F (odR F) (sw0 P S tn) (po + (S 1)) k).2)))) V F))), (be, .inl (G 0, 468, .inl (bf (kB B kn (enc n N Z tn po rd al k S P V F))))), (ke, .inl (G 0, 117, .inl (enc nq Nq Zq tnq poq rdq alq kq Sq Pq Vq Fq))), (te, .inl (G 0, 60, .inl (ch t)))] H := hP
        have hD : va_D A [(mo, .inr (6, [.ref sa, .ref be, .int (nI (mn kn)), .ref ke, .int (zB ik), .ref te, .int (nI ty)])), (sa, .inl (G 0, 117, .inl (enc n (ex N a b) (tw Z 16) tn ((stl n (ex N a b) F (odR F) (sw0 P S tn) (po + (S 1)) k).2) (nI 0) (al + nI 1) 0 S (upd ((stl n (ex N a b) F (odR F) (sw0 P S tn) (po + (S 1)) k).1) tn (cap (((stl n (ex N a b) F (odR F) (sw0 P S tn) (po + (S 1)) k).1) tn + ((stl n (ex N a b) F (odR F) (sw0 P S tn) (po + (S 1)) k).2)))) V F))), (be, .inl (G 0, 468, .inl (bf (kB B kn (enc n N Z tn po rd al k S P V F))))), (ke, .inl (G 0, 117, .inl (enc nq Nq Zq tnq poq rdq alq kq Sq Pq Vq Fq))), (te, .inl (G 0, 60, .inl (ch t)))] := hD
        refine lv_aload_n hx hb dX6_swap_236 rfl (lv_at hl 3 rfl) ?_
        refine va_get (D := D) (ci := 6) (v := .ref sa) (C := RX6) (T := TX6) (N := 7) hx hb hts inX6 hown hK hP 0 rfl rfl 0 (by decide) k7 (fun _ h9 => h9) rfl dX6_swap_237 ?_
        refine lv_iconst (v := nI 2) hx hb dX6_swap_240 (by decide +kernel) ?_
        refine lv_iconst (v := nI 0) hx hb dX6_swap_241 (by decide +kernel) ?_
        refine rIast hx hb hK hP hD hS 1 rfl 2 (by omega) (by decide) dX6_swap_242 (fun H locs hP hD hS => ?_)
        obtain ⟨hP, hD⟩ := wI (g := enc n (ex N a b) (tw Z 16) tn (nI 0) (nI 0) (al + nI 1) 0 S (upd ((stl n (ex N a b) F (odR F) (sw0 P S tn) (po + (S 1)) k).1) tn (cap (((stl n (ex N a b) F (odR F) (sw0 P S tn) (po + (S 1)) k).1) tn + ((stl n (ex N a b) F (odR F) (sw0 P S tn) (po + (S 1)) k).2)))) V F) hP hD 1 rfl (enc_w2 n (ex N a b) (tw Z 16) tn ((stl n (ex N a b) F (odR F) (sw0 P S tn) (po + (S 1)) k).2) (nI 0) (al + nI 1) 0 S (upd ((stl n (ex N a b) F (odR F) (sw0 P S tn) (po + (S 1)) k).1) tn (cap (((stl n (ex N a b) F (odR F) (sw0 P S tn) (po + (S 1)) k).1) tn + ((stl n (ex N a b) F (odR F) (sw0 P S tn) (po + (S 1)) k).2)))) V F (nI 0))
        replace hP : va_P D vwCl [(mo, .inr (6, [.ref sa, .ref be, .int (nI (mn kn)), .ref ke, .int (zB ik), .ref te, .int (nI ty)])), (sa, .inl (G 0, 117, .inl (enc n (ex N a b) (tw Z 16) tn (nI 0) (nI 0) (al + nI 1) 0 S (upd ((stl n (ex N a b) F (odR F) (sw0 P S tn) (po + (S 1)) k).1) tn (cap (((stl n (ex N a b) F (odR F) (sw0 P S tn) (po + (S 1)) k).1) tn + ((stl n (ex N a b) F (odR F) (sw0 P S tn) (po + (S 1)) k).2)))) V F))), (be, .inl (G 0, 468, .inl (bf (kB B kn (enc n N Z tn po rd al k S P V F))))), (ke, .inl (G 0, 117, .inl (enc nq Nq Zq tnq poq rdq alq kq Sq Pq Vq Fq))), (te, .inl (G 0, 60, .inl (ch t)))] _ := hP
        have hD : va_D A [(mo, .inr (6, [.ref sa, .ref be, .int (nI (mn kn)), .ref ke, .int (zB ik), .ref te, .int (nI ty)])), (sa, .inl (G 0, 117, .inl (enc n (ex N a b) (tw Z 16) tn (nI 0) (nI 0) (al + nI 1) 0 S (upd ((stl n (ex N a b) F (odR F) (sw0 P S tn) (po + (S 1)) k).1) tn (cap (((stl n (ex N a b) F (odR F) (sw0 P S tn) (po + (S 1)) k).1) tn + ((stl n (ex N a b) F (odR F) (sw0 P S tn) (po + (S 1)) k).2)))) V F))), (be, .inl (G 0, 468, .inl (bf (kB B kn (enc n N Z tn po rd al k S P V F))))), (ke, .inl (G 0, 117, .inl (enc nq Nq Zq tnq poq rdq alq kq Sq Pq Vq Fq))), (te, .inl (G 0, 60, .inl (ch t)))] := hD
        refine lv_aload_n hx hb dX6_swap_243 rfl (lv_at hl 3 rfl) ?_
        refine va_get (D := D) (ci := 6) (v := .ref sa) (C := RX6) (T := TX6) (N := 7) hx hb hts inX6 hown hK hP 0 rfl rfl 0 (by decide) k7 (fun _ h9 => h9) rfl dX6_swap_244 ?_
        refine lv_bipush (v := nI 12) hx hb dX6_swap_247 (by decide +kernel) ?_
        refine lv_iload_n hx hb dX6_swap_249 rfl (lv_at hl 2 rfl) ?_
        refine lv_iadd hx hb dX6_swap_250 ?_
        refine rTop (show nI 12 + nI tn = nI (12 + tn) from nI_add 12 tn) ?_
        refine lv_dup2_11 hx hb dX6_swap_251 rfl rfl ?_
        refine rIald hx hb hK hP 1 rfl (12 + tn) (by omega) (by decide) dX6_swap_252 ?_
        refine rTop (enc_V n (ex N a b) (tw Z 16) tn (nI 0) (nI 0) (al + nI 1) 0 S (upd ((stl n (ex N a b) F (odR F) (sw0 P S tn) (po + (S 1)) k).1) tn (cap (((stl n (ex N a b) F (odR F) (sw0 P S tn) (po + (S 1)) k).1) tn + ((stl n (ex N a b) F (odR F) (sw0 P S tn) (po + (S 1)) k).2)))) V F tn (by omega)) ?_
        refine lv_iconst (v := nI 1) hx hb dX6_swap_253 (by decide +kernel) ?_
        refine lv_iadd hx hb dX6_swap_254 ?_
        refine rIast hx hb hK hP hD hS 1 rfl (12 + tn) (by omega) (by decide) dX6_swap_255 (fun H locs hP hD hS => ?_)
        obtain ⟨hP, hD⟩ := wI (g := enc n (ex N a b) (tw Z 16) tn (nI 0) (nI 0) (al + nI 1) 0 S (upd ((stl n (ex N a b) F (odR F) (sw0 P S tn) (po + (S 1)) k).1) tn (cap (((stl n (ex N a b) F (odR F) (sw0 P S tn) (po + (S 1)) k).1) tn + ((stl n (ex N a b) F (odR F) (sw0 P S tn) (po + (S 1)) k).2)))) (upd V tn (V tn + nI 1)) F) hP hD 1 rfl (enc_wV n (ex N a b) (tw Z 16) tn (nI 0) (nI 0) (al + nI 1) 0 S (upd ((stl n (ex N a b) F (odR F) (sw0 P S tn) (po + (S 1)) k).1) tn (cap (((stl n (ex N a b) F (odR F) (sw0 P S tn) (po + (S 1)) k).1) tn + ((stl n (ex N a b) F (odR F) (sw0 P S tn) (po + (S 1)) k).2)))) V F tn (by omega) (V tn + nI 1))
        replace hP : va_P D vwCl [(mo, .inr (6, [.ref sa, .ref be, .int (nI (mn kn)), .ref ke, .int (zB ik), .ref te, .int (nI ty)])), (sa, .inl (G 0, 117, .inl (enc n (ex N a b) (tw Z 16) tn (nI 0) (nI 0) (al + nI 1) 0 S (upd ((stl n (ex N a b) F (odR F) (sw0 P S tn) (po + (S 1)) k).1) tn (cap (((stl n (ex N a b) F (odR F) (sw0 P S tn) (po + (S 1)) k).1) tn + ((stl n (ex N a b) F (odR F) (sw0 P S tn) (po + (S 1)) k).2)))) (upd V tn (V tn + nI 1)) F))), (be, .inl (G 0, 468, .inl (bf (kB B kn (enc n N Z tn po rd al k S P V F))))), (ke, .inl (G 0, 117, .inl (enc nq Nq Zq tnq poq rdq alq kq Sq Pq Vq Fq))), (te, .inl (G 0, 60, .inl (ch t)))] _ := hP
        have hD : va_D A [(mo, .inr (6, [.ref sa, .ref be, .int (nI (mn kn)), .ref ke, .int (zB ik), .ref te, .int (nI ty)])), (sa, .inl (G 0, 117, .inl (enc n (ex N a b) (tw Z 16) tn (nI 0) (nI 0) (al + nI 1) 0 S (upd ((stl n (ex N a b) F (odR F) (sw0 P S tn) (po + (S 1)) k).1) tn (cap (((stl n (ex N a b) F (odR F) (sw0 P S tn) (po + (S 1)) k).1) tn + ((stl n (ex N a b) F (odR F) (sw0 P S tn) (po + (S 1)) k).2)))) (upd V tn (V tn + nI 1)) F))), (be, .inl (G 0, 468, .inl (bf (kB B kn (enc n N Z tn po rd al k S P V F))))), (ke, .inl (G 0, 117, .inl (enc nq Nq Zq tnq poq rdq alq kq Sq Pq Vq Fq))), (te, .inl (G 0, 60, .inl (ch t)))] := hD
        refine lv_aload_n hx hb dX6_swap_256 rfl (lv_at hl 3 rfl) ?_
        refine cV (As := []) (rest := []) ⟨hx, hb, hml, hown, hts⟩ hP hK hD hS hN hA (mX6_nextTurn l D G mo sa be ke te (mn kn) ty ik n tn 0 (ex N a b) (tw Z 16) S (upd ((stl n (ex N a b) F (odR F) (sw0 P S tn) (po + (S 1)) k).1) tn (cap (((stl n (ex N a b) F (odR F) (sw0 P S tn) (po + (S 1)) k).1) tn + ((stl n (ex N a b) F (odR F) (sw0 P S tn) (po + (S 1)) k).2)))) (upd V tn (V tn + nI 1)) F (nI 0) (nI 0) (al + nI 1) (by first | assumption | omega)) (cwV 0 hts gX6_swap_X6_nextTurn rfl rfl rfl (by decide +kernel) ⟨Nat.le_of_ble_eq_true rfl, Nat.le_of_ble_eq_true rfl⟩) [0, 1] rfl (by decide) (Eq.trans (b := [mo, sa]) rfl rfl) 0 6 rfl rfl rfl hl.1 rfl (Nat.le_of_ble_eq_true rfl) dX6_swap_257 ⟨Nat.zero_le _, Nat.zero_le _⟩ (fun H locs hP hD hS => ?_)
        have hP : va_P D vwCl [(mo, .inr (6, [.ref sa, .ref be, .int (nI (mn kn)), .ref ke, .int (zB ik), .ref te, .int (nI ty)])), (sa, .inl (G 0, 117, .inl (enc n (ex N a b) (tw Z 16) (nx tn) (nI 0) (nI 0) (al + nI 1) 0 S (upd ((stl n (ex N a b) F (odR F) (sw0 P S tn) (po + (S 1)) k).1) tn (cap (((stl n (ex N a b) F (odR F) (sw0 P S tn) (po + (S 1)) k).1) tn + ((stl n (ex N a b) F (odR F) (sw0 P S tn) (po + (S 1)) k).2)))) (upd V tn (V tn + nI 1)) F))), (be, .inl (G 0, 468, .inl (bf (kB B kn (enc n N Z tn po rd al k S P V F))))), (ke, .inl (G 0, 117, .inl (enc nq Nq Zq tnq poq rdq alq kq Sq Pq Vq Fq))), (te, .inl (G 0, 60, .inl (ch t)))] H := hP
        have hD : va_D A [(mo, .inr (6, [.ref sa, .ref be, .int (nI (mn kn)), .ref ke, .int (zB ik), .ref te, .int (nI ty)])), (sa, .inl (G 0, 117, .inl (enc n (ex N a b) (tw Z 16) (nx tn) (nI 0) (nI 0) (al + nI 1) 0 S (upd ((stl n (ex N a b) F (odR F) (sw0 P S tn) (po + (S 1)) k).1) tn (cap (((stl n (ex N a b) F (odR F) (sw0 P S tn) (po + (S 1)) k).1) tn + ((stl n (ex N a b) F (odR F) (sw0 P S tn) (po + (S 1)) k).2)))) (upd V tn (V tn + nI 1)) F))), (be, .inl (G 0, 468, .inl (bf (kB B kn (enc n N Z tn po rd al k S P V F))))), (ke, .inl (G 0, 117, .inl (enc nq Nq Zq tnq poq rdq alq kq Sq Pq Vq Fq))), (te, .inl (G 0, 60, .inl (ch t)))] := hD
        refine lv_aload_n hx hb dX6_swap_260 rfl (lv_at hl 3 rfl) ?_
        refine cVr (As := []) (rest := []) ⟨hx, hb, hml, hown, hts⟩ hP hK hD hS hN hA (mX6_magicLines l D G mo sa be ke te (mn kn) ty ik n (nx tn) 0 (ex N a b) (tw Z 16) S (upd ((stl n (ex N a b) F (odR F) (sw0 P S tn) (po + (S 1)) k).1) tn (cap (((stl n (ex N a b) F (odR F) (sw0 P S tn) (po + (S 1)) k).1) tn + ((stl n (ex N a b) F (odR F) (sw0 P S tn) (po + (S 1)) k).2)))) (upd V tn (V tn + nI 1)) F (nI 0) (nI 0) (al + nI 1) (by first | assumption | omega)) (cwV 0 hts gX6_swap_X6_magicLines rfl rfl rfl (by decide +kernel) ⟨Nat.le_of_ble_eq_true rfl, Nat.le_of_ble_eq_true rfl⟩) [0, 1] rfl (by decide) 0 6 rfl rfl rfl hl.1 rfl (Nat.le_of_ble_eq_true rfl) dX6_swap_261 ⟨Nat.zero_le _, Nat.zero_le _⟩ (fun H locs hP hS => ?_)
        obtain ⟨hP, hD⟩ := wI (g := enc n (ex N a b) (tw Z 16) (nx tn) (swO (swS n N F (odR F) P S tn po k a b true) true) (swD rd true) (al + nI 1) (swK k true) S (swP (swS n N F (odR F) P S tn po k a b true) tn true) (swV V tn true) F) hP hD 1 rfl (fun j hj => by simp only [swP, swS, swV, swO, swK, swD])
        replace hP : va_P D vwCl [(mo, .inr (6, [.ref sa, .ref be, .int (nI (mn kn)), .ref ke, .int (zB ik), .ref te, .int (nI ty)])), (sa, .inl (G 0, 117, .inl (enc n (ex N a b) (tw Z 16) (nx tn) (swO (swS n N F (odR F) P S tn po k a b true) true) (swD rd true) (al + nI 1) (swK k true) S (swP (swS n N F (odR F) P S tn po k a b true) tn true) (swV V tn true) F))), (be, .inl (G 0, 468, .inl (bf (kB B kn (enc n N Z tn po rd al k S P V F))))), (ke, .inl (G 0, 117, .inl (enc nq Nq Zq tnq poq rdq alq kq Sq Pq Vq Fq))), (te, .inl (G 0, 60, .inl (ch t)))] _ := hP
        have hD : va_D A [(mo, .inr (6, [.ref sa, .ref be, .int (nI (mn kn)), .ref ke, .int (zB ik), .ref te, .int (nI ty)])), (sa, .inl (G 0, 117, .inl (enc n (ex N a b) (tw Z 16) (nx tn) (swO (swS n N F (odR F) P S tn po k a b true) true) (swD rd true) (al + nI 1) (swK k true) S (swP (swS n N F (odR F) P S tn po k a b true) tn true) (swV V tn true) F))), (be, .inl (G 0, 468, .inl (bf (kB B kn (enc n N Z tn po rd al k S P V F))))), (ke, .inl (G 0, 117, .inl (enc nq Nq Zq tnq poq rdq alq kq Sq Pq Vq Fq))), (te, .inl (G 0, 60, .inl (ch t)))] := hD
        exact rIret hx hb hr hlk hP hK hD hS dX6_swap_264
      · refine lv_aload_n hx hb dX6_swap_129 rfl (lv_at hl 3 rfl) ?_
        refine va_get (D := D) (ci := 6) (v := .ref sa) (C := RX6) (T := TX6) (N := 7) hx hb hts inX6 hown hK hP 0 rfl rfl 0 (by decide) k7 (fun _ h9 => h9) rfl dX6_swap_130 ?_
        refine lv_bipush (v := nI 31) hx hb dX6_swap_133 (by decide +kernel) ?_
        refine lv_iload hx hb dX6_swap_135 (lv_at hl 0 rfl) ?_
        refine lv_iadd hx hb dX6_swap_137 ?_
        refine rTop (show nI 31 + nI c_ = nI (31 + c_) from nI_add 31 c_) ?_
        refine lv_dup2_11 hx hb dX6_swap_138 rfl rfl ?_
        refine rIald hx hb hK hP 1 rfl (31 + c_) (by omega) (by decide) dX6_swap_139 ?_
        refine rTop (enc_Z n (ex N a b) (tw Z c_) tn (po + (S 1)) rd al k S (sw0 P S tn) V F c_ (by omega)) ?_
        refine lv_aload_n hx hb dX6_swap_140 rfl (lv_at hl 3 rfl) ?_
        refine va_get (D := D) (ci := 6) (v := .ref sa) (C := RX6) (T := TX6) (N := 7) hx hb hts inX6 hown hK hP 0 rfl rfl 0 (by decide) k7 (fun _ h9 => h9) rfl dX6_swap_141 ?_
        refine lv_bipush (v := nI 31) hx hb dX6_swap_144 (by decide +kernel) ?_
        refine lv_iload hx hb dX6_swap_146 (lv_at hl 0 rfl) ?_
        refine lv_iadd hx hb dX6_swap_148 ?_
        refine rTop (show nI 31 + nI c_ = nI (31 + c_) from nI_add 31 c_) ?_
        refine rIald hx hb hK hP 1 rfl (31 + c_) (by omega) (by decide) dX6_swap_149 ?_
        refine rTop (enc_Z n (ex N a b) (tw Z c_) tn (po + (S 1)) rd al k S (sw0 P S tn) V F c_ (by omega)) ?_
        refine lv_if_le (tgt := 157) hx hb dX6_swap_150 (by decide)  (fun c12 => ?_) (fun c12 => ?_)
        · refine lv_iconst (v := nI 0) hx hb dX6_swap_157 (by decide +kernel) ?_
          refine lv_isub hx hb dX6_swap_158 ?_
          refine rIast hx hb hK hP hD hS 1 rfl (31 + c_) (by omega) (by decide) dX6_swap_159 (fun H locs hP hD hS => ?_)
          obtain ⟨hP, hD⟩ := wI (g := enc n (ex N a b) (upd (tw Z c_) c_ ((tw Z c_) c_ - nI 0)) tn (po + (S 1)) rd al k S (sw0 P S tn) V F) hP hD 1 rfl (enc_wZ n (ex N a b) (tw Z c_) tn (po + (S 1)) rd al k S (sw0 P S tn) V F c_ (by omega) ((tw Z c_) c_ - nI 0))
          replace hP : va_P D vwCl [(mo, .inr (6, [.ref sa, .ref be, .int (nI (mn kn)), .ref ke, .int (zB ik), .ref te, .int (nI ty)])), (sa, .inl (G 0, 117, .inl (enc n (ex N a b) (upd (tw Z c_) c_ ((tw Z c_) c_ - nI 0)) tn (po + (S 1)) rd al k S (sw0 P S tn) V F))), (be, .inl (G 0, 468, .inl (bf (kB B kn (enc n N Z tn po rd al k S P V F))))), (ke, .inl (G 0, 117, .inl (enc nq Nq Zq tnq poq rdq alq kq Sq Pq Vq Fq))), (te, .inl (G 0, 60, .inl (ch t)))] _ := hP
          have hD : va_D A [(mo, .inr (6, [.ref sa, .ref be, .int (nI (mn kn)), .ref ke, .int (zB ik), .ref te, .int (nI ty)])), (sa, .inl (G 0, 117, .inl (enc n (ex N a b) (upd (tw Z c_) c_ ((tw Z c_) c_ - nI 0)) tn (po + (S 1)) rd al k S (sw0 P S tn) V F))), (be, .inl (G 0, 468, .inl (bf (kB B kn (enc n N Z tn po rd al k S P V F))))), (ke, .inl (G 0, 117, .inl (enc nq Nq Zq tnq poq rdq alq kq Sq Pq Vq Fq))), (te, .inl (G 0, 60, .inl (ch t)))] := hD
          refine lv_iinc (v := nI (c_ + 1)) (lv' := [(5, .int (nI (c_ + 1))), (4, .int (nI 0)), (3, .int (nI tn)), (0, .ref mo), (1, .int (nI a)), (2, .int (nI b))]) hx hb dX6_swap_160 hl (k := 0) rfl (nI_inc c_) (by decide) rfl (fun ls hl => ?_)
          refine lv_goto (tgt := 120) hx hb dX6_swap_163 (by decide) ?_
          obtain ⟨hP, hD⟩ := wI (g := enc n (ex N a b) (tw Z (c_ + 1)) tn (po + (S 1)) rd al k S (sw0 P S tn) V F) hP hD 1 rfl (fun j hj => congrFun (congrArg (fun NN => enc n (ex N a b) NN tn (po + (S 1)) rd al k S (sw0 P S tn) V F) (show upd (tw Z c_) c_ ((tw Z c_) c_ - nI 0) = tw Z (c_ + 1) from by first | exact tw_ra (by assumption) | exact tw_rb (by assumption))) j)
          replace hP : va_P D vwCl [(mo, .inr (6, [.ref sa, .ref be, .int (nI (mn kn)), .ref ke, .int (zB ik), .ref te, .int (nI ty)])), (sa, .inl (G 0, 117, .inl (enc n (ex N a b) (tw Z (c_ + 1)) tn (po + (S 1)) rd al k S (sw0 P S tn) V F))), (be, .inl (G 0, 468, .inl (bf (kB B kn (enc n N Z tn po rd al k S P V F))))), (ke, .inl (G 0, 117, .inl (enc nq Nq Zq tnq poq rdq alq kq Sq Pq Vq Fq))), (te, .inl (G 0, 60, .inl (ch t)))] _ := hP
          have hD : va_D A [(mo, .inr (6, [.ref sa, .ref be, .int (nI (mn kn)), .ref ke, .int (zB ik), .ref te, .int (nI ty)])), (sa, .inl (G 0, 117, .inl (enc n (ex N a b) (tw Z (c_ + 1)) tn (po + (S 1)) rd al k S (sw0 P S tn) V F))), (be, .inl (G 0, 468, .inl (bf (kB B kn (enc n N Z tn po rd al k S P V F))))), (ke, .inl (G 0, 117, .inl (enc nq Nq Zq tnq poq rdq alq kq Sq Pq Vq Fq))), (te, .inl (G 0, 60, .inl (ch t)))] := hD
          exact ih120 (c_ + 1) (by omega) (by omega)  _ _ hP hD hS _ (lv_sub hl [0, 1, 2, 3, 4, 5] rfl)
        · refine lv_iconst (v := nI 1) hx hb dX6_swap_153 (by decide +kernel) ?_
          refine lv_goto (tgt := 158) hx hb dX6_swap_154 (by decide) ?_
          refine lv_isub hx hb dX6_swap_158 ?_
          refine rIast hx hb hK hP hD hS 1 rfl (31 + c_) (by omega) (by decide) dX6_swap_159 (fun H locs hP hD hS => ?_)
          obtain ⟨hP, hD⟩ := wI (g := enc n (ex N a b) (upd (tw Z c_) c_ ((tw Z c_) c_ - nI 1)) tn (po + (S 1)) rd al k S (sw0 P S tn) V F) hP hD 1 rfl (enc_wZ n (ex N a b) (tw Z c_) tn (po + (S 1)) rd al k S (sw0 P S tn) V F c_ (by omega) ((tw Z c_) c_ - nI 1))
          replace hP : va_P D vwCl [(mo, .inr (6, [.ref sa, .ref be, .int (nI (mn kn)), .ref ke, .int (zB ik), .ref te, .int (nI ty)])), (sa, .inl (G 0, 117, .inl (enc n (ex N a b) (upd (tw Z c_) c_ ((tw Z c_) c_ - nI 1)) tn (po + (S 1)) rd al k S (sw0 P S tn) V F))), (be, .inl (G 0, 468, .inl (bf (kB B kn (enc n N Z tn po rd al k S P V F))))), (ke, .inl (G 0, 117, .inl (enc nq Nq Zq tnq poq rdq alq kq Sq Pq Vq Fq))), (te, .inl (G 0, 60, .inl (ch t)))] _ := hP
          have hD : va_D A [(mo, .inr (6, [.ref sa, .ref be, .int (nI (mn kn)), .ref ke, .int (zB ik), .ref te, .int (nI ty)])), (sa, .inl (G 0, 117, .inl (enc n (ex N a b) (upd (tw Z c_) c_ ((tw Z c_) c_ - nI 1)) tn (po + (S 1)) rd al k S (sw0 P S tn) V F))), (be, .inl (G 0, 468, .inl (bf (kB B kn (enc n N Z tn po rd al k S P V F))))), (ke, .inl (G 0, 117, .inl (enc nq Nq Zq tnq poq rdq alq kq Sq Pq Vq Fq))), (te, .inl (G 0, 60, .inl (ch t)))] := hD
          refine lv_iinc (v := nI (c_ + 1)) (lv' := [(5, .int (nI (c_ + 1))), (4, .int (nI 0)), (3, .int (nI tn)), (0, .ref mo), (1, .int (nI a)), (2, .int (nI b))]) hx hb dX6_swap_160 hl (k := 0) rfl (nI_inc c_) (by decide) rfl (fun ls hl => ?_)
          refine lv_goto (tgt := 120) hx hb dX6_swap_163 (by decide) ?_
          obtain ⟨hP, hD⟩ := wI (g := enc n (ex N a b) (tw Z (c_ + 1)) tn (po + (S 1)) rd al k S (sw0 P S tn) V F) hP hD 1 rfl (fun j hj => congrFun (congrArg (fun NN => enc n (ex N a b) NN tn (po + (S 1)) rd al k S (sw0 P S tn) V F) (show upd (tw Z c_) c_ ((tw Z c_) c_ - nI 1) = tw Z (c_ + 1) from by first | exact tw_ra (by assumption) | exact tw_rb (by assumption))) j)
          replace hP : va_P D vwCl [(mo, .inr (6, [.ref sa, .ref be, .int (nI (mn kn)), .ref ke, .int (zB ik), .ref te, .int (nI ty)])), (sa, .inl (G 0, 117, .inl (enc n (ex N a b) (tw Z (c_ + 1)) tn (po + (S 1)) rd al k S (sw0 P S tn) V F))), (be, .inl (G 0, 468, .inl (bf (kB B kn (enc n N Z tn po rd al k S P V F))))), (ke, .inl (G 0, 117, .inl (enc nq Nq Zq tnq poq rdq alq kq Sq Pq Vq Fq))), (te, .inl (G 0, 60, .inl (ch t)))] _ := hP
          have hD : va_D A [(mo, .inr (6, [.ref sa, .ref be, .int (nI (mn kn)), .ref ke, .int (zB ik), .ref te, .int (nI ty)])), (sa, .inl (G 0, 117, .inl (enc n (ex N a b) (tw Z (c_ + 1)) tn (po + (S 1)) rd al k S (sw0 P S tn) V F))), (be, .inl (G 0, 468, .inl (bf (kB B kn (enc n N Z tn po rd al k S P V F))))), (ke, .inl (G 0, 117, .inl (enc nq Nq Zq tnq poq rdq alq kq Sq Pq Vq Fq))), (te, .inl (G 0, 60, .inl (ch t)))] := hD
          exact ih120 (c_ + 1) (by omega) (by omega)  _ _ hP hD hS _ (lv_sub hl [0, 1, 2, 3, 4, 5] rfl)
  obtain ⟨hP, hD⟩ := wI (g := enc n (ex N a b) (tw Z 0) tn (po + (S 1)) rd al k S (sw0 P S tn) V F) hP hD 1 rfl (fun j hj => by rw [tw_0])
  replace hP : va_P D vwCl [(mo, .inr (6, [.ref sa, .ref be, .int (nI (mn kn)), .ref ke, .int (zB ik), .ref te, .int (nI ty)])), (sa, .inl (G 0, 117, .inl (enc n (ex N a b) (tw Z 0) tn (po + (S 1)) rd al k S (sw0 P S tn) V F))), (be, .inl (G 0, 468, .inl (bf (kB B kn (enc n N Z tn po rd al k S P V F))))), (ke, .inl (G 0, 117, .inl (enc nq Nq Zq tnq poq rdq alq kq Sq Pq Vq Fq))), (te, .inl (G 0, 60, .inl (ch t)))] _ := hP
  have hD : va_D A [(mo, .inr (6, [.ref sa, .ref be, .int (nI (mn kn)), .ref ke, .int (zB ik), .ref te, .int (nI ty)])), (sa, .inl (G 0, 117, .inl (enc n (ex N a b) (tw Z 0) tn (po + (S 1)) rd al k S (sw0 P S tn) V F))), (be, .inl (G 0, 468, .inl (bf (kB B kn (enc n N Z tn po rd al k S P V F))))), (ke, .inl (G 0, 117, .inl (enc nq Nq Zq tnq poq rdq alq kq Sq Pq Vq Fq))), (te, .inl (G 0, 60, .inl (ch t)))] := hD
  exact LP120 (n * n + 1 - 0) 0 (by omega) (by omega)  _ _ hP hD hS _ (lv_sub hl [0, 1, 2, 3, 4, 5] rfl)

set_option maxRecDepth 100000 in
theorem mX6_swap_ok (l : Launch) (D : va_G) (G : Nat → ClassId) (mo sa be ke te kn ty : Nat) (ik : Bool) (n tn k : Nat) (N Z S P V : Nat → Int32) (F : Nat → Nat → Int32) (po rd al : Int32) (B : Nat → Nat → Int32) (nq tnq kq : Nat) (Nq Zq Sq Pq Vq : Nat → Int32) (Fq : Nat → Nat → Int32) (poq rdq alq : Int32) (t : Nat → Nat) (a b : Nat) (rb wb : Bool) (hkn : kn ≤ 4) (hn : n = 3 ∨ n = 4) (hk : k ≤ 10) (ht : tn < 3) (hSO : SOK n k F) (hN1 : NOK n N) (hSM : SMK k F) (hRF : RFD k F) (hxn : NOK n (ex N a b)) (haq : a < n * n) (hbq : b < n * n) (hZ : ∀ c, n * n ≤ c → Z c = nI 0) (hcap : cap (P tn + (-S 1)) = P tn - S 1) (hR : rb = swR rd S) (hW : wb = rwW n N a b) (hE : swE n Z P S tn (nI a) (nI b) = 0) : CT l yX6_swap wsX6_swap 5 115 D G [.ref mo, .int (nI a), .int (nI b)] [(mo, .inr (6, [.ref sa, .ref be, .int (nI kn), .ref ke, .int (zB ik), .ref te, .int (nI ty)])), (sa, .inl (G 0, 117, .inl (enc n N Z tn po rd al k S P V F))), (be, .inl (G 0, 468, .inl (bf B))), (ke, .inl (G 0, 117, .inl (enc nq Nq Zq tnq poq rdq alq kq Sq Pq Vq Fq))), (te, .inl (G 0, 60, .inl (ch t)))] [(mo, .inr (6, [.ref sa, .ref be, .int (nI (mn kn)), .ref ke, .int (zB ik), .ref te, .int (nI ty)])), (sa, .inl (G 0, 117, .inl (enc n (ex N a b) (tw Z 16) (nx tn) (swO (swS n N F (odR F) P S tn po k a b rb) wb) (swD rd rb) (al + nI 1) (swK k rb) S (swP (swS n N F (odR F) P S tn po k a b rb) tn wb) (swV V tn wb) F))), (be, .inl (G 0, 468, .inl (bf (kB B kn (enc n N Z tn po rd al k S P V F))))), (ke, .inl (G 0, 117, .inl (enc nq Nq Zq tnq poq rdq alq kq Sq Pq Vq Fq))), (te, .inl (G 0, 60, .inl (ch t)))] (some (.int (nI (mcn n (ex N a b))))) := by
  cases rb with
  | false =>
    cases wb with
    | false => exact mX6_swap_00 l D G mo sa be ke te kn ty ik n tn k N Z S P V F po rd al B nq tnq kq Nq Zq Sq Pq Vq Fq poq rdq alq t a b hkn hn hk ht hSO hN1 hSM hRF hxn haq hbq hZ hcap (swR_f hR.symm) (rwW_f hW.symm) hE
    | true => exact mX6_swap_01 l D G mo sa be ke te kn ty ik n tn k N Z S P V F po rd al B nq tnq kq Nq Zq Sq Pq Vq Fq poq rdq alq t a b hkn hn hk ht hSO hN1 hSM hRF hxn haq hbq hZ hcap (swR_f hR.symm) (rwW_t hW.symm) hE
  | true =>
    cases wb with
    | false => exact mX6_swap_10 l D G mo sa be ke te kn ty ik n tn k N Z S P V F po rd al B nq tnq kq Nq Zq Sq Pq Vq Fq poq rdq alq t a b hkn hn hk ht hSO hN1 hSM hRF hxn haq hbq hZ hcap (swR_t hR.symm) (rwW_f hW.symm) hE
    | true => exact mX6_swap_11 l D G mo sa be ke te kn ty ik n tn k N Z S P V F po rd al B nq tnq kq Nq Zq Sq Pq Vq Fq poq rdq alq t a b hkn hn hk ht hSO hN1 hSM hRF hxn haq hbq hZ hcap (swR_t hR.symm) (rwW_t hW.symm) hE
