set_option maxHeartbeats 4000000 in
set_option maxRecDepth 100000 in
theorem mX6_freeze_err (l : Launch) (D : va_G) (G : Nat → ClassId) (mo sa be ke te kn ty : Nat) (ik : Bool) (n tn k : Nat) (N Z S P V : Nat → Int32) (F : Nat → Nat → Int32) (po rd al : Int32) (B : Nat → Nat → Int32) (nq tnq kq : Nat) (Nq Zq Sq Pq Vq : Nat → Int32) (Fq : Nat → Nat → Int32) (poq rdq alq : Int32) (t : Nat → Nat) (x y : Int32) (hn : n = 3 ∨ n = 4) (ht : tn < 3) (hE : ¬ frE n Z P S tn x y = 0) : CT l yX6_freeze wsX6_freeze 2 43 D G [.ref mo, .int x, .int y] [(mo, .inr (6, [.ref sa, .ref be, .int (nI kn), .ref ke, .int (zB ik), .ref te, .int (nI ty)])), (sa, .inl (G 0, 117, .inl (enc n N Z tn po rd al k S P V F))), (be, .inl (G 0, 468, .inl (bf B))), (ke, .inl (G 0, 117, .inl (enc nq Nq Zq tnq poq rdq alq kq Sq Pq Vq Fq))), (te, .inl (G 0, 60, .inl (ch t)))] [(mo, .inr (6, [.ref sa, .ref be, .int (nI kn), .ref ke, .int (zB ik), .ref te, .int (nI ty)])), (sa, .inl (G 0, 117, .inl (enc n N Z tn po rd al k S P V F))), (be, .inl (G 0, 468, .inl (bf B))), (ke, .inl (G 0, 117, .inl (enc nq Nq Zq tnq poq rdq alq kq Sq Pq Vq Fq))), (te, .inl (G 0, 60, .inl (ch t)))] (some (.int (frE n Z P S tn x y))) := by
  refine CT.of (cc := cX6_freeze) (maxL := 4) (ret := (some .int)) (by decide) rfl RX6 rfl (Nat.le_of_ble_eq_true rfl) (fun pp ee s mm bl me cc A ls hx hb hr hml hts hown hlk hnm hA hP hK hD hN hS hl => ?_)
  have hl : lv_has ls 4 [(0, .ref mo), (1, .int x), (2, .int y)] := hl
  have hP : va_P D vwCl [(mo, .inr (6, [.ref sa, .ref be, .int (nI kn), .ref ke, .int (zB ik), .ref te, .int (nI ty)])), (sa, .inl (G 0, 117, .inl (enc n N Z tn po rd al k S P V F))), (be, .inl (G 0, 468, .inl (bf B))), (ke, .inl (G 0, 117, .inl (enc nq Nq Zq tnq poq rdq alq kq Sq Pq Vq Fq))), (te, .inl (G 0, 60, .inl (ch t)))] s.heap := hP
  have inX6 : ∀ w ∈ wsX60, w ∈ wsX6_freeze := fun w h => List.mem_cons_of_mem _ (List.mem_append_right _ h)
  have k7 := hts (.fieldLink RX6 7 "SquareStakesModel" "s" "[I") (List.mem_of_getElem? (i := 1) rfl)
  have hq9 : n * n < 17 ∧ 0 < n * n := by rcases hn with rfl | rfl <;> decide
  refine lv_aload_n hx hb dX6_freeze_0 rfl (lv_at hl 0 rfl) ?_
  refine lv_iload_n hx hb dX6_freeze_1 rfl (lv_at hl 1 rfl) ?_
  refine cVr (As := [.int x]) (rest := []) ⟨hx, hb, hml, hown, hts⟩ hP hK hD hS hN hA (mX6_isCell l D G mo sa be ke te kn ty ik n tn k N Z S P V F po rd al x (by first | assumption | omega)) (cwV 1 hts gX6_freeze_X6_isCell rfl rfl rfl (by decide +kernel) ⟨Nat.le_of_ble_eq_true rfl, Nat.le_of_ble_eq_true rfl⟩) [0, 1] rfl (by decide) 0 6 rfl rfl rfl hl.1 rfl (Nat.le_of_ble_eq_true rfl) dX6_freeze_2 ⟨Nat.zero_le _, Nat.zero_le _⟩ (fun H locs hP hS => ?_)
  refine zNe (tgt := 10) hx hb dX6_freeze_5 (by decide)  (fun c1 => ?_) (fun c1 => ?_)
  · obtain ⟨xj, hxj, rfl⟩ := inB_ex (by assumption) (by omega)
    refine lv_iload_n hx hb dX6_freeze_10 rfl (lv_at hl 2 rfl) ?_
    refine lv_iconst (v := nI 1) hx hb dX6_freeze_11 (by decide +kernel) ?_
    refine lv_bipush (v := nI 6) hx hb dX6_freeze_12 (by decide +kernel) ?_
    refine cSr (As := [.int y, .int (nI 1), .int (nI 6)]) (rest := []) ⟨hx, hb, hml, hown, hts⟩ hP hK hD hS hN hA (mX6_in l D G y (nI 1) (nI 6) ) (cwS 3 hts gX6_freeze_X6_in rfl rfl rfl (by decide +kernel) ⟨Nat.le_of_ble_eq_true rfl, Nat.le_of_ble_eq_true rfl⟩) [] rfl (by decide) rfl hl.1 rfl (Nat.le_of_ble_eq_true rfl) dX6_freeze_14 ⟨Nat.zero_le _, Nat.zero_le _⟩ (fun H locs hP hS => ?_)
    refine zNe (tgt := 23) hx hb dX6_freeze_17 (by decide)  (fun c2 => ?_) (fun c2 => ?_)
    · refine lv_aload_n hx hb dX6_freeze_23 rfl (lv_at hl 0 rfl) ?_
      refine va_get (D := D) (ci := 6) (v := .ref sa) (C := RX6) (T := TX6) (N := 7) hx hb hts inX6 hown hK hP 0 rfl rfl 0 (by decide) k7 (fun _ h9 => h9) rfl dX6_freeze_24 ?_
      refine lv_bipush (v := nI 31) hx hb dX6_freeze_27 (by decide +kernel) ?_
      refine lv_iload_n hx hb dX6_freeze_29 rfl (lv_at hl 1 rfl) ?_
      refine lv_iadd hx hb dX6_freeze_30 ?_
      refine rTop (show nI 31 + nI xj = nI (31 + xj) from nI_add 31 xj) ?_
      refine rIald hx hb hK hP 1 rfl (31 + xj) (by omega) (by decide) dX6_freeze_31 ?_
      refine rTop (enc_Z n N Z tn po rd al k S P V F xj (by omega)) ?_
      refine lv_if_le (tgt := 38) hx hb dX6_freeze_32 (by decide)  (fun c3 => ?_) (fun c3 => ?_)
      · refine lv_iload_n hx hb dX6_freeze_38 rfl (lv_at hl 2 rfl) ?_
        refine lv_aload_n hx hb dX6_freeze_39 rfl (lv_at hl 0 rfl) ?_
        refine va_get (D := D) (ci := 6) (v := .ref sa) (C := RX6) (T := TX6) (N := 7) hx hb hts inX6 hown hK hP 0 rfl rfl 0 (by decide) k7 (fun _ h9 => h9) rfl dX6_freeze_40 ?_
        refine lv_bipush (v := nI 8) hx hb dX6_freeze_43 (by decide +kernel) ?_
        refine rIald hx hb hK hP 1 rfl 8 (by omega) (by decide) dX6_freeze_45 ?_
        refine rTop (show enc n N Z tn po rd al k S P V F 8 = S 2 from enc_S n N Z tn po rd al k S P V F 2 (by omega)) ?_
        refine lv_imul hx hb dX6_freeze_46 ?_
        refine lv_istore_n (lv' := [(3, .int (y * S 2)), (0, .ref mo), (1, .int (nI xj)), (2, .int y)]) hx hb dX6_freeze_47 rfl hl (by decide) rfl (fun ls hl => ?_)
        refine lv_aload_n hx hb dX6_freeze_48 rfl (lv_at hl 1 rfl) ?_
        refine va_get (D := D) (ci := 6) (v := .ref sa) (C := RX6) (T := TX6) (N := 7) hx hb hts inX6 hown hK hP 0 rfl rfl 0 (by decide) k7 (fun _ h9 => h9) rfl dX6_freeze_49 ?_
        refine lv_bipush (v := nI 9) hx hb dX6_freeze_52 (by decide +kernel) ?_
        refine lv_aload_n hx hb dX6_freeze_54 rfl (lv_at hl 1 rfl) ?_
        refine va_get (D := D) (ci := 6) (v := .ref sa) (C := RX6) (T := TX6) (N := 7) hx hb hts inX6 hown hK hP 0 rfl rfl 0 (by decide) k7 (fun _ h9 => h9) rfl dX6_freeze_55 ?_
        refine lv_iconst (v := nI 1) hx hb dX6_freeze_58 (by decide +kernel) ?_
        refine rIald hx hb hK hP 1 rfl 1 (by omega) (by decide) dX6_freeze_59 ?_
        refine rTop (show enc n N Z tn po rd al k S P V F 1 = nI tn from rfl) ?_
        refine lv_iadd hx hb dX6_freeze_60 ?_
        refine rTop (show nI 9 + nI tn = nI (9 + tn) from nI_add 9 tn) ?_
        refine rIald hx hb hK hP 1 rfl (9 + tn) (by omega) (by decide) dX6_freeze_61 ?_
        refine rTop (enc_P n N Z tn po rd al k S P V F tn (by omega)) ?_
        refine lv_iload_n hx hb dX6_freeze_62 rfl (lv_at hl 0 rfl) ?_
        refine lv_icmp_ge (tgt := 69) hx hb dX6_freeze_63 (by decide)  (fun c4 => absurd (by rw [frE_in hxj (by omega), if_neg (not_rg1 (by assumption)), if_neg (Int32.not_lt.mpr (by assumption)), if_neg (Int32.not_lt.mpr c4)]) hE) (fun c4 => ?_)
        refine lv_bipush (v := -3) hx hb dX6_freeze_66 (by decide +kernel) ?_
        refine rTop (show (-3) = frE n Z P S tn (nI xj) y from by rw [frE_in hxj (by omega), if_neg (not_rg1 (by assumption)), if_neg (Int32.not_lt.mpr (by assumption)), if_pos (Int32.not_le.mp (by assumption))]) ?_
        exact rIret hx hb hr hlk hP hK hD hS dX6_freeze_68
      · refine lv_bipush (v := -4) hx hb dX6_freeze_35 (by decide +kernel) ?_
        refine rTop (show (-4) = frE n Z P S tn (nI xj) y from by rw [frE_in hxj (by omega), if_neg (not_rg1 (by assumption)), if_pos (Int32.not_le.mp (by assumption))]) ?_
        exact rIret hx hb hr hlk hP hK hD hS dX6_freeze_37
    · refine lv_bipush (v := -2) hx hb dX6_freeze_20 (by decide +kernel) ?_
      refine rTop (show (-2) = frE n Z P S tn (nI xj) y from by rw [frE_in hxj (by omega), if_pos (rg_56.mp (by assumption))]) ?_
      exact rIret hx hb hr hlk hP hK hD hS dX6_freeze_22
  · refine lv_iconst (v := -1) hx hb dX6_freeze_8 (by decide +kernel) ?_
    refine rTop (show (-1) = frE n Z P S tn x y from frE_f1 (by assumption)) ?_
    exact rIret hx hb hr hlk hP hK hD hS dX6_freeze_9

set_option maxHeartbeats 4000000 in
set_option maxRecDepth 100000 in
theorem mX6_freeze_ok (l : Launch) (D : va_G) (G : Nat → ClassId) (mo sa be ke te kn ty : Nat) (ik : Bool) (n tn k : Nat) (N Z S P V : Nat → Int32) (F : Nat → Nat → Int32) (po rd al : Int32) (B : Nat → Nat → Int32) (nq tnq kq : Nat) (Nq Zq Sq Pq Vq : Nat → Int32) (Fq : Nat → Nat → Int32) (poq rdq alq : Int32) (t : Nat → Nat) (q : Nat) (x : Int32) (hkn : kn ≤ 4) (hn : n = 3 ∨ n = 4) (ht : tn < 3) (hq : q < n * n) (hcap : cap (P tn + (-(x * S 2))) = P tn - (x * S 2)) (hE : frE n Z P S tn (nI q) x = 0) : CT l yX6_freeze wsX6_freeze 2 43 D G [.ref mo, .int (nI q), .int x] [(mo, .inr (6, [.ref sa, .ref be, .int (nI kn), .ref ke, .int (zB ik), .ref te, .int (nI ty)])), (sa, .inl (G 0, 117, .inl (enc n N Z tn po rd al k S P V F))), (be, .inl (G 0, 468, .inl (bf B))), (ke, .inl (G 0, 117, .inl (enc nq Nq Zq tnq poq rdq alq kq Sq Pq Vq Fq))), (te, .inl (G 0, 60, .inl (ch t)))] [(mo, .inr (6, [.ref sa, .ref be, .int (nI (mn kn)), .ref ke, .int (zB ik), .ref te, .int (nI ty)])), (sa, .inl (G 0, 117, .inl (enc n N (upd Z q x) (nx tn) (po + (x * S 2)) rd al k S (upd P tn (cap (P tn + (-(x * S 2))))) V F))), (be, .inl (G 0, 468, .inl (bf (kB B kn (enc n N Z tn po rd al k S P V F))))), (ke, .inl (G 0, 117, .inl (enc nq Nq Zq tnq poq rdq alq kq Sq Pq Vq Fq))), (te, .inl (G 0, 60, .inl (ch t)))] (some (.int (nI (fz (upd Z q x) (n * n))))) := by
  refine CT.of (cc := cX6_freeze) (maxL := 4) (ret := (some .int)) (by decide) rfl RX6 rfl (Nat.le_of_ble_eq_true rfl) (fun pp ee s mm bl me cc A ls hx hb hr hml hts hown hlk hnm hA hP hK hD hN hS hl => ?_)
  have hl : lv_has ls 4 [(0, .ref mo), (1, .int (nI q)), (2, .int x)] := hl
  have hP : va_P D vwCl [(mo, .inr (6, [.ref sa, .ref be, .int (nI kn), .ref ke, .int (zB ik), .ref te, .int (nI ty)])), (sa, .inl (G 0, 117, .inl (enc n N Z tn po rd al k S P V F))), (be, .inl (G 0, 468, .inl (bf B))), (ke, .inl (G 0, 117, .inl (enc nq Nq Zq tnq poq rdq alq kq Sq Pq Vq Fq))), (te, .inl (G 0, 60, .inl (ch t)))] s.heap := hP
  have inX6 : ∀ w ∈ wsX60, w ∈ wsX6_freeze := fun w h => List.mem_cons_of_mem _ (List.mem_append_right _ h)
  have k7 := hts (.fieldLink RX6 7 "SquareStakesModel" "s" "[I") (List.mem_of_getElem? (i := 1) rfl)
  have hq9 : n * n < 17 ∧ 0 < n * n := by rcases hn with rfl | rfl <;> decide
  refine lv_aload_n hx hb dX6_freeze_0 rfl (lv_at hl 0 rfl) ?_
  refine lv_iload_n hx hb dX6_freeze_1 rfl (lv_at hl 1 rfl) ?_
  refine cVr (As := [.int (nI q)]) (rest := []) ⟨hx, hb, hml, hown, hts⟩ hP hK hD hS hN hA (mX6_isCell l D G mo sa be ke te kn ty ik n tn k N Z S P V F po rd al (nI q) (by first | assumption | omega)) (cwV 1 hts gX6_freeze_X6_isCell rfl rfl rfl (by decide +kernel) ⟨Nat.le_of_ble_eq_true rfl, Nat.le_of_ble_eq_true rfl⟩) [0, 1] rfl (by decide) 0 6 rfl rfl rfl hl.1 rfl (Nat.le_of_ble_eq_true rfl) dX6_freeze_2 ⟨Nat.zero_le _, Nat.zero_le _⟩ (fun H locs hP hS => ?_)
  refine zNe (tgt := 10) hx hb dX6_freeze_5 (by decide)  (fun c1 => ?_) (fun c1 => absurd (c1) (by rw [inB_nI (by omega), decide_eq_true hq]; decide))
  refine lv_iload_n hx hb dX6_freeze_10 rfl (lv_at hl 2 rfl) ?_
  refine lv_iconst (v := nI 1) hx hb dX6_freeze_11 (by decide +kernel) ?_
  refine lv_bipush (v := nI 6) hx hb dX6_freeze_12 (by decide +kernel) ?_
  refine cSr (As := [.int x, .int (nI 1), .int (nI 6)]) (rest := []) ⟨hx, hb, hml, hown, hts⟩ hP hK hD hS hN hA (mX6_in l D G x (nI 1) (nI 6) ) (cwS 3 hts gX6_freeze_X6_in rfl rfl rfl (by decide +kernel) ⟨Nat.le_of_ble_eq_true rfl, Nat.le_of_ble_eq_true rfl⟩) [] rfl (by decide) rfl hl.1 rfl (Nat.le_of_ble_eq_true rfl) dX6_freeze_14 ⟨Nat.zero_le _, Nat.zero_le _⟩ (fun H locs hP hS => ?_)
  refine zNe (tgt := 23) hx hb dX6_freeze_17 (by decide)  (fun c2 => ?_) (fun c2 => absurd (hE.symm.trans (by rw [frE_in hq (by omega), if_pos (rg_56.mp c2)])) (by decide))
  refine lv_aload_n hx hb dX6_freeze_23 rfl (lv_at hl 0 rfl) ?_
  refine va_get (D := D) (ci := 6) (v := .ref sa) (C := RX6) (T := TX6) (N := 7) hx hb hts inX6 hown hK hP 0 rfl rfl 0 (by decide) k7 (fun _ h9 => h9) rfl dX6_freeze_24 ?_
  refine lv_bipush (v := nI 31) hx hb dX6_freeze_27 (by decide +kernel) ?_
  refine lv_iload_n hx hb dX6_freeze_29 rfl (lv_at hl 1 rfl) ?_
  refine lv_iadd hx hb dX6_freeze_30 ?_
  refine rTop (show nI 31 + nI q = nI (31 + q) from nI_add 31 q) ?_
  refine rIald hx hb hK hP 1 rfl (31 + q) (by omega) (by decide) dX6_freeze_31 ?_
  refine rTop (enc_Z n N Z tn po rd al k S P V F q (by omega)) ?_
  refine lv_if_le (tgt := 38) hx hb dX6_freeze_32 (by decide)  (fun c3 => ?_) (fun c3 => absurd (hE.symm.trans (by rw [frE_in hq (by omega), if_neg (not_rg1 (by assumption)), if_pos (Int32.not_le.mp c3)])) (by decide))
  refine lv_iload_n hx hb dX6_freeze_38 rfl (lv_at hl 2 rfl) ?_
  refine lv_aload_n hx hb dX6_freeze_39 rfl (lv_at hl 0 rfl) ?_
  refine va_get (D := D) (ci := 6) (v := .ref sa) (C := RX6) (T := TX6) (N := 7) hx hb hts inX6 hown hK hP 0 rfl rfl 0 (by decide) k7 (fun _ h9 => h9) rfl dX6_freeze_40 ?_
  refine lv_bipush (v := nI 8) hx hb dX6_freeze_43 (by decide +kernel) ?_
  refine rIald hx hb hK hP 1 rfl 8 (by omega) (by decide) dX6_freeze_45 ?_
  refine rTop (show enc n N Z tn po rd al k S P V F 8 = S 2 from enc_S n N Z tn po rd al k S P V F 2 (by omega)) ?_
  refine lv_imul hx hb dX6_freeze_46 ?_
  refine lv_istore_n (lv' := [(3, .int (x * S 2)), (0, .ref mo), (1, .int (nI q)), (2, .int x)]) hx hb dX6_freeze_47 rfl hl (by decide) rfl (fun ls hl => ?_)
  refine lv_aload_n hx hb dX6_freeze_48 rfl (lv_at hl 1 rfl) ?_
  refine va_get (D := D) (ci := 6) (v := .ref sa) (C := RX6) (T := TX6) (N := 7) hx hb hts inX6 hown hK hP 0 rfl rfl 0 (by decide) k7 (fun _ h9 => h9) rfl dX6_freeze_49 ?_
  refine lv_bipush (v := nI 9) hx hb dX6_freeze_52 (by decide +kernel) ?_
  refine lv_aload_n hx hb dX6_freeze_54 rfl (lv_at hl 1 rfl) ?_
  refine va_get (D := D) (ci := 6) (v := .ref sa) (C := RX6) (T := TX6) (N := 7) hx hb hts inX6 hown hK hP 0 rfl rfl 0 (by decide) k7 (fun _ h9 => h9) rfl dX6_freeze_55 ?_
  refine lv_iconst (v := nI 1) hx hb dX6_freeze_58 (by decide +kernel) ?_
  refine rIald hx hb hK hP 1 rfl 1 (by omega) (by decide) dX6_freeze_59 ?_
  refine rTop (show enc n N Z tn po rd al k S P V F 1 = nI tn from rfl) ?_
  refine lv_iadd hx hb dX6_freeze_60 ?_
  refine rTop (show nI 9 + nI tn = nI (9 + tn) from nI_add 9 tn) ?_
  refine rIald hx hb hK hP 1 rfl (9 + tn) (by omega) (by decide) dX6_freeze_61 ?_
  refine rTop (enc_P n N Z tn po rd al k S P V F tn (by omega)) ?_
  refine lv_iload_n hx hb dX6_freeze_62 rfl (lv_at hl 0 rfl) ?_
  refine lv_icmp_ge (tgt := 69) hx hb dX6_freeze_63 (by decide)  (fun c4 => ?_) (fun c4 => absurd (hE.symm.trans (by rw [frE_in hq (by omega), if_neg (not_rg1 (by assumption)), if_neg (Int32.not_lt.mpr (by assumption)), if_pos (Int32.not_le.mp c4)])) (by decide))
  refine lv_aload_n hx hb dX6_freeze_69 rfl (lv_at hl 1 rfl) ?_
  refine cV (As := []) (rest := []) ⟨hx, hb, hml, hown, hts⟩ hP hK hD hS hN hA (mX6_know l D G mo sa be ke te kn ty ik n tn k N Z S P V F po rd al B (by first | assumption | omega)) (cwV 0 hts gX6_freeze_X6_know rfl rfl rfl (by decide +kernel) ⟨Nat.le_of_ble_eq_true rfl, Nat.le_of_ble_eq_true rfl⟩) [0, 1, 2] rfl (by decide) (Eq.trans (b := [mo, sa, be]) rfl rfl) 0 6 rfl rfl rfl hl.1 rfl (Nat.le_of_ble_eq_true rfl) dX6_freeze_70 ⟨Nat.zero_le _, Nat.zero_le _⟩ (fun H locs hP hD hS => ?_)
  have hP : va_P D vwCl [(mo, .inr (6, [.ref sa, .ref be, .int (nI (mn kn)), .ref ke, .int (zB ik), .ref te, .int (nI ty)])), (sa, .inl (G 0, 117, .inl (enc n N Z tn po rd al k S P V F))), (be, .inl (G 0, 468, .inl (bf (kB B kn (enc n N Z tn po rd al k S P V F))))), (ke, .inl (G 0, 117, .inl (enc nq Nq Zq tnq poq rdq alq kq Sq Pq Vq Fq))), (te, .inl (G 0, 60, .inl (ch t)))] H := hP
  have hD : va_D A [(mo, .inr (6, [.ref sa, .ref be, .int (nI (mn kn)), .ref ke, .int (zB ik), .ref te, .int (nI ty)])), (sa, .inl (G 0, 117, .inl (enc n N Z tn po rd al k S P V F))), (be, .inl (G 0, 468, .inl (bf (kB B kn (enc n N Z tn po rd al k S P V F))))), (ke, .inl (G 0, 117, .inl (enc nq Nq Zq tnq poq rdq alq kq Sq Pq Vq Fq))), (te, .inl (G 0, 60, .inl (ch t)))] := hD
  refine lv_aload_n hx hb dX6_freeze_73 rfl (lv_at hl 1 rfl) ?_
  refine lv_iload_n hx hb dX6_freeze_74 rfl (lv_at hl 0 rfl) ?_
  refine cV (As := [.int (x * S 2)]) (rest := []) ⟨hx, hb, hml, hown, hts⟩ hP hK hD hS hN hA (mX6_spend l D G mo sa be ke te (mn kn) ty ik n tn k N Z S P V F po rd al (x * S 2) (by first | assumption | omega)) (cwV 1 hts gX6_freeze_X6_spend rfl rfl rfl (by decide +kernel) ⟨Nat.le_of_ble_eq_true rfl, Nat.le_of_ble_eq_true rfl⟩) [0, 1] rfl (by decide) (Eq.trans (b := [mo, sa]) rfl rfl) 0 6 rfl rfl rfl hl.1 rfl (Nat.le_of_ble_eq_true rfl) dX6_freeze_75 ⟨Nat.zero_le _, Nat.zero_le _⟩ (fun H locs hP hD hS => ?_)
  have hP : va_P D vwCl [(mo, .inr (6, [.ref sa, .ref be, .int (nI (mn kn)), .ref ke, .int (zB ik), .ref te, .int (nI ty)])), (sa, .inl (G 0, 117, .inl (enc n N Z tn (po + (x * S 2)) rd al k S (upd P tn (P tn - (x * S 2))) V F))), (be, .inl (G 0, 468, .inl (bf (kB B kn (enc n N Z tn po rd al k S P V F))))), (ke, .inl (G 0, 117, .inl (enc nq Nq Zq tnq poq rdq alq kq Sq Pq Vq Fq))), (te, .inl (G 0, 60, .inl (ch t)))] H := hP
  have hD : va_D A [(mo, .inr (6, [.ref sa, .ref be, .int (nI (mn kn)), .ref ke, .int (zB ik), .ref te, .int (nI ty)])), (sa, .inl (G 0, 117, .inl (enc n N Z tn (po + (x * S 2)) rd al k S (upd P tn (P tn - (x * S 2))) V F))), (be, .inl (G 0, 468, .inl (bf (kB B kn (enc n N Z tn po rd al k S P V F))))), (ke, .inl (G 0, 117, .inl (enc nq Nq Zq tnq poq rdq alq kq Sq Pq Vq Fq))), (te, .inl (G 0, 60, .inl (ch t)))] := hD
  obtain ⟨hP, hD⟩ := wI (g := enc n N Z tn (po + (x * S 2)) rd al k S (upd P tn (cap (P tn + (-(x * S 2))))) V F) hP hD 1 rfl (fun j hj => by rw [hcap])
  replace hP : va_P D vwCl [(mo, .inr (6, [.ref sa, .ref be, .int (nI (mn kn)), .ref ke, .int (zB ik), .ref te, .int (nI ty)])), (sa, .inl (G 0, 117, .inl (enc n N Z tn (po + (x * S 2)) rd al k S (upd P tn (cap (P tn + (-(x * S 2))))) V F))), (be, .inl (G 0, 468, .inl (bf (kB B kn (enc n N Z tn po rd al k S P V F))))), (ke, .inl (G 0, 117, .inl (enc nq Nq Zq tnq poq rdq alq kq Sq Pq Vq Fq))), (te, .inl (G 0, 60, .inl (ch t)))] _ := hP
  have hD : va_D A [(mo, .inr (6, [.ref sa, .ref be, .int (nI (mn kn)), .ref ke, .int (zB ik), .ref te, .int (nI ty)])), (sa, .inl (G 0, 117, .inl (enc n N Z tn (po + (x * S 2)) rd al k S (upd P tn (cap (P tn + (-(x * S 2))))) V F))), (be, .inl (G 0, 468, .inl (bf (kB B kn (enc n N Z tn po rd al k S P V F))))), (ke, .inl (G 0, 117, .inl (enc nq Nq Zq tnq poq rdq alq kq Sq Pq Vq Fq))), (te, .inl (G 0, 60, .inl (ch t)))] := hD
  refine lv_aload_n hx hb dX6_freeze_78 rfl (lv_at hl 1 rfl) ?_
  refine va_get (D := D) (ci := 6) (v := .ref sa) (C := RX6) (T := TX6) (N := 7) hx hb hts inX6 hown hK hP 0 rfl rfl 0 (by decide) k7 (fun _ h9 => h9) rfl dX6_freeze_79 ?_
  refine lv_bipush (v := nI 31) hx hb dX6_freeze_82 (by decide +kernel) ?_
  refine lv_iload_n hx hb dX6_freeze_84 rfl (lv_at hl 2 rfl) ?_
  refine lv_iadd hx hb dX6_freeze_85 ?_
  refine rTop (show nI 31 + nI q = nI (31 + q) from nI_add 31 q) ?_
  refine lv_iload_n hx hb dX6_freeze_86 rfl (lv_at hl 3 rfl) ?_
  refine rIast hx hb hK hP hD hS 1 rfl (31 + q) (by omega) (by decide) dX6_freeze_87 (fun H locs hP hD hS => ?_)
  obtain ⟨hP, hD⟩ := wI (g := enc n N (upd Z q x) tn (po + (x * S 2)) rd al k S (upd P tn (cap (P tn + (-(x * S 2))))) V F) hP hD 1 rfl (enc_wZ n N Z tn (po + (x * S 2)) rd al k S (upd P tn (cap (P tn + (-(x * S 2))))) V F q (by omega) x)
  replace hP : va_P D vwCl [(mo, .inr (6, [.ref sa, .ref be, .int (nI (mn kn)), .ref ke, .int (zB ik), .ref te, .int (nI ty)])), (sa, .inl (G 0, 117, .inl (enc n N (upd Z q x) tn (po + (x * S 2)) rd al k S (upd P tn (cap (P tn + (-(x * S 2))))) V F))), (be, .inl (G 0, 468, .inl (bf (kB B kn (enc n N Z tn po rd al k S P V F))))), (ke, .inl (G 0, 117, .inl (enc nq Nq Zq tnq poq rdq alq kq Sq Pq Vq Fq))), (te, .inl (G 0, 60, .inl (ch t)))] _ := hP
  have hD : va_D A [(mo, .inr (6, [.ref sa, .ref be, .int (nI (mn kn)), .ref ke, .int (zB ik), .ref te, .int (nI ty)])), (sa, .inl (G 0, 117, .inl (enc n N (upd Z q x) tn (po + (x * S 2)) rd al k S (upd P tn (cap (P tn + (-(x * S 2))))) V F))), (be, .inl (G 0, 468, .inl (bf (kB B kn (enc n N Z tn po rd al k S P V F))))), (ke, .inl (G 0, 117, .inl (enc nq Nq Zq tnq poq rdq alq kq Sq Pq Vq Fq))), (te, .inl (G 0, 60, .inl (ch t)))] := hD
  refine lv_aload_n hx hb dX6_freeze_88 rfl (lv_at hl 1 rfl) ?_
  refine cV (As := []) (rest := []) ⟨hx, hb, hml, hown, hts⟩ hP hK hD hS hN hA (mX6_nextTurn l D G mo sa be ke te (mn kn) ty ik n tn k N (upd Z q x) S (upd P tn (cap (P tn + (-(x * S 2))))) V F (po + (x * S 2)) rd al (by first | assumption | omega)) (cwV 0 hts gX6_freeze_X6_nextTurn rfl rfl rfl (by decide +kernel) ⟨Nat.le_of_ble_eq_true rfl, Nat.le_of_ble_eq_true rfl⟩) [0, 1] rfl (by decide) (Eq.trans (b := [mo, sa]) rfl rfl) 0 6 rfl rfl rfl hl.1 rfl (Nat.le_of_ble_eq_true rfl) dX6_freeze_89 ⟨Nat.zero_le _, Nat.zero_le _⟩ (fun H locs hP hD hS => ?_)
  have hP : va_P D vwCl [(mo, .inr (6, [.ref sa, .ref be, .int (nI (mn kn)), .ref ke, .int (zB ik), .ref te, .int (nI ty)])), (sa, .inl (G 0, 117, .inl (enc n N (upd Z q x) (nx tn) (po + (x * S 2)) rd al k S (upd P tn (cap (P tn + (-(x * S 2))))) V F))), (be, .inl (G 0, 468, .inl (bf (kB B kn (enc n N Z tn po rd al k S P V F))))), (ke, .inl (G 0, 117, .inl (enc nq Nq Zq tnq poq rdq alq kq Sq Pq Vq Fq))), (te, .inl (G 0, 60, .inl (ch t)))] H := hP
  have hD : va_D A [(mo, .inr (6, [.ref sa, .ref be, .int (nI (mn kn)), .ref ke, .int (zB ik), .ref te, .int (nI ty)])), (sa, .inl (G 0, 117, .inl (enc n N (upd Z q x) (nx tn) (po + (x * S 2)) rd al k S (upd P tn (cap (P tn + (-(x * S 2))))) V F))), (be, .inl (G 0, 468, .inl (bf (kB B kn (enc n N Z tn po rd al k S P V F))))), (ke, .inl (G 0, 117, .inl (enc nq Nq Zq tnq poq rdq alq kq Sq Pq Vq Fq))), (te, .inl (G 0, 60, .inl (ch t)))] := hD
  refine lv_aload_n hx hb dX6_freeze_92 rfl (lv_at hl 1 rfl) ?_
  refine cVr (As := []) (rest := []) ⟨hx, hb, hml, hown, hts⟩ hP hK hD hS hN hA (mX6_frozen l D G mo sa be ke te (mn kn) ty ik n (nx tn) k N (upd Z q x) S (upd P tn (cap (P tn + (-(x * S 2))))) V F (po + (x * S 2)) rd al (by first | assumption | omega)) (cwV 0 hts gX6_freeze_X6_frozen rfl rfl rfl (by decide +kernel) ⟨Nat.le_of_ble_eq_true rfl, Nat.le_of_ble_eq_true rfl⟩) [0, 1] rfl (by decide) 0 6 rfl rfl rfl hl.1 rfl (Nat.le_of_ble_eq_true rfl) dX6_freeze_93 ⟨Nat.zero_le _, Nat.zero_le _⟩ (fun H locs hP hS => ?_)
  exact rIret hx hb hr hlk hP hK hD hS dX6_freeze_96

set_option maxHeartbeats 4000000 in
set_option maxRecDepth 100000 in
theorem mX6_stake_err (l : Launch) (D : va_G) (G : Nat → ClassId) (mo sa be ke te kn ty : Nat) (ik : Bool) (n tn k : Nat) (N Z S P V : Nat → Int32) (F : Nat → Nat → Int32) (po rd al : Int32) (B : Nat → Nat → Int32) (nq tnq kq : Nat) (Nq Zq Sq Pq Vq : Nat → Int32) (Fq : Nat → Nat → Int32) (poq rdq alq : Int32) (t : Nat → Nat) (x y w : Int32) (hk : k ≤ 10) (hn : n = 3 ∨ n = 4) (ht : tn < 3) (hE : ¬ skE n k P tn x y w = 0) : CT l yX6_stake wsX6_stake 4 92 D G [.ref mo, .int x, .int y, .int w] [(mo, .inr (6, [.ref sa, .ref be, .int (nI kn), .ref ke, .int (zB ik), .ref te, .int (nI ty)])), (sa, .inl (G 0, 117, .inl (enc n N Z tn po rd al k S P V F))), (be, .inl (G 0, 468, .inl (bf B))), (ke, .inl (G 0, 117, .inl (enc nq Nq Zq tnq poq rdq alq kq Sq Pq Vq Fq))), (te, .inl (G 0, 60, .inl (ch t)))] [(mo, .inr (6, [.ref sa, .ref be, .int (nI kn), .ref ke, .int (zB ik), .ref te, .int (nI ty)])), (sa, .inl (G 0, 117, .inl (enc n N Z tn po rd al k S P V F))), (be, .inl (G 0, 468, .inl (bf B))), (ke, .inl (G 0, 117, .inl (enc nq Nq Zq tnq poq rdq alq kq Sq Pq Vq Fq))), (te, .inl (G 0, 60, .inl (ch t)))] (some (.int (skE n k P tn x y w))) := by
  refine CT.of (cc := cX6_stake) (maxL := 5) (ret := (some .int)) (by decide) rfl RX6 rfl (Nat.le_of_ble_eq_true rfl) (fun pp ee s mm bl me cc A ls hx hb hr hml hts hown hlk hnm hA hP hK hD hN hS hl => ?_)
  have hl : lv_has ls 5 [(0, .ref mo), (1, .int x), (2, .int y), (3, .int w)] := hl
  have hP : va_P D vwCl [(mo, .inr (6, [.ref sa, .ref be, .int (nI kn), .ref ke, .int (zB ik), .ref te, .int (nI ty)])), (sa, .inl (G 0, 117, .inl (enc n N Z tn po rd al k S P V F))), (be, .inl (G 0, 468, .inl (bf B))), (ke, .inl (G 0, 117, .inl (enc nq Nq Zq tnq poq rdq alq kq Sq Pq Vq Fq))), (te, .inl (G 0, 60, .inl (ch t)))] s.heap := hP
  have inX6 : ∀ w ∈ wsX60, w ∈ wsX6_stake := fun w h => List.mem_cons_of_mem _ (List.mem_append_right _ h)
  have k7 := hts (.fieldLink RX6 7 "SquareStakesModel" "s" "[I") (List.mem_of_getElem? (i := 1) rfl)
  have hq9 : n * n < 17 ∧ 0 < n * n := by rcases hn with rfl | rfl <;> decide
  refine lv_aload_n hx hb dX6_stake_0 rfl (lv_at hl 0 rfl) ?_
  refine lv_iload_n hx hb dX6_stake_1 rfl (lv_at hl 1 rfl) ?_
  refine cVr (As := [.int x]) (rest := []) ⟨hx, hb, hml, hown, hts⟩ hP hK hD hS hN hA (mX6_isLine l D G mo sa be ke te kn ty ik n tn k N Z S P V F po rd al x (by first | assumption | omega)) (cwV 1 hts gX6_stake_X6_isLine rfl rfl rfl (by decide +kernel) ⟨Nat.le_of_ble_eq_true rfl, Nat.le_of_ble_eq_true rfl⟩) [0, 1] rfl (by decide) 0 6 rfl rfl rfl hl.1 rfl (Nat.le_of_ble_eq_true rfl) dX6_stake_2 ⟨Nat.zero_le _, Nat.zero_le _⟩ (fun H locs hP hS => ?_)
  refine zNe (tgt := 10) hx hb dX6_stake_5 (by decide)  (fun c1 => ?_) (fun c1 => ?_)
  · obtain ⟨xj, hxj, rfl⟩ := inB_ex (by assumption) (by omega)
    refine lv_iload_n hx hb dX6_stake_10 rfl (lv_at hl 2 rfl) ?_
    refine lv_iconst (v := nI 0) hx hb dX6_stake_11 (by decide +kernel) ?_
    refine lv_iconst (v := nI 2) hx hb dX6_stake_12 (by decide +kernel) ?_
    refine cSr (As := [.int y, .int (nI 0), .int (nI 2)]) (rest := []) ⟨hx, hb, hml, hown, hts⟩ hP hK hD hS hN hA (mX6_in l D G y (nI 0) (nI 2) ) (cwS 3 hts gX6_stake_X6_in rfl rfl rfl (by decide +kernel) ⟨Nat.le_of_ble_eq_true rfl, Nat.le_of_ble_eq_true rfl⟩) [] rfl (by decide) rfl hl.1 rfl (Nat.le_of_ble_eq_true rfl) dX6_stake_13 ⟨Nat.zero_le _, Nat.zero_le _⟩ (fun H locs hP hS => ?_)
    refine zEq (tgt := 29) hx hb dX6_stake_16 (by decide)  (fun c2 => ?_) (fun c2 => ?_)
    · refine lv_bipush (v := -2) hx hb dX6_stake_29 (by decide +kernel) ?_
      refine rTop (show (-2) = skE n k P tn (nI xj) y w from by rw [skE_in hxj (by omega), if_pos (skE_d (by first | exact Or.inl (by assumption) | exact Or.inr (by assumption)))]) ?_
      exact rIret hx hb hr hlk hP hK hD hS dX6_stake_31
    · refine lv_iload_n hx hb dX6_stake_19 rfl (lv_at hl 3 rfl) ?_
      refine lv_iconst (v := nI 1) hx hb dX6_stake_20 (by decide +kernel) ?_
      refine lv_bipush (v := nI 99) hx hb dX6_stake_21 (by decide +kernel) ?_
      refine cSr (As := [.int w, .int (nI 1), .int (nI 99)]) (rest := []) ⟨hx, hb, hml, hown, hts⟩ hP hK hD hS hN hA (mX6_in l D G w (nI 1) (nI 99) ) (cwS 3 hts gX6_stake_X6_in rfl rfl rfl (by decide +kernel) ⟨Nat.le_of_ble_eq_true rfl, Nat.le_of_ble_eq_true rfl⟩) [] rfl (by decide) rfl hl.1 rfl (Nat.le_of_ble_eq_true rfl) dX6_stake_23 ⟨Nat.zero_le _, Nat.zero_le _⟩ (fun H locs hP hS => ?_)
      refine zNe (tgt := 32) hx hb dX6_stake_26 (by decide)  (fun c3 => ?_) (fun c3 => ?_)
      · refine lv_aload_n hx hb dX6_stake_32 rfl (lv_at hl 0 rfl) ?_
        refine va_get (D := D) (ci := 6) (v := .ref sa) (C := RX6) (T := TX6) (N := 7) hx hb hts inX6 hown hK hP 0 rfl rfl 0 (by decide) k7 (fun _ h9 => h9) rfl dX6_stake_33 ?_
        refine lv_iconst (v := nI 5) hx hb dX6_stake_36 (by decide +kernel) ?_
        refine rIald hx hb hK hP 1 rfl 5 (by omega) (by decide) dX6_stake_37 ?_
        refine rTop (show enc n N Z tn po rd al k S P V F 5 = nI k from rfl) ?_
        refine lv_istore (lv' := [(4, .int (nI k)), (0, .ref mo), (1, .int (nI xj)), (2, .int y), (3, .int w)]) hx hb dX6_stake_38 hl (by decide) rfl (fun ls hl => ?_)
        refine lv_iload hx hb dX6_stake_40 (lv_at hl 0 rfl) ?_
        refine lv_bipush (v := nI 10) hx hb dX6_stake_42 (by decide +kernel) ?_
        refine bEq (tgt := 65) hx hb dX6_stake_44 (by decide) (by omega) (by omega) (fun c4 => ?_) (fun c4 => ?_)
        · refine lv_bipush (v := -3) hx hb dX6_stake_65 (by decide +kernel) ?_
          refine rTop (show (-3) = skE n k P tn (nI xj) y w from by rw [skE_in hxj (by omega), if_neg (skE_c (by assumption) (by assumption)), if_pos (by first | exact Or.inl (by omega) | exact Or.inr (Int32.not_le.mp (by assumption)))]) ?_
          exact rIret hx hb hr hlk hP hK hD hS dX6_stake_67
        · refine lv_aload_n hx hb dX6_stake_47 rfl (lv_at hl 1 rfl) ?_
          refine va_get (D := D) (ci := 6) (v := .ref sa) (C := RX6) (T := TX6) (N := 7) hx hb hts inX6 hown hK hP 0 rfl rfl 0 (by decide) k7 (fun _ h9 => h9) rfl dX6_stake_48 ?_
          refine lv_bipush (v := nI 9) hx hb dX6_stake_51 (by decide +kernel) ?_
          refine lv_aload_n hx hb dX6_stake_53 rfl (lv_at hl 1 rfl) ?_
          refine va_get (D := D) (ci := 6) (v := .ref sa) (C := RX6) (T := TX6) (N := 7) hx hb hts inX6 hown hK hP 0 rfl rfl 0 (by decide) k7 (fun _ h9 => h9) rfl dX6_stake_54 ?_
          refine lv_iconst (v := nI 1) hx hb dX6_stake_57 (by decide +kernel) ?_
          refine rIald hx hb hK hP 1 rfl 1 (by omega) (by decide) dX6_stake_58 ?_
          refine rTop (show enc n N Z tn po rd al k S P V F 1 = nI tn from rfl) ?_
          refine lv_iadd hx hb dX6_stake_59 ?_
          refine rTop (show nI 9 + nI tn = nI (9 + tn) from nI_add 9 tn) ?_
          refine rIald hx hb hK hP 1 rfl (9 + tn) (by omega) (by decide) dX6_stake_60 ?_
          refine rTop (enc_P n N Z tn po rd al k S P V F tn (by omega)) ?_
          refine lv_iload_n hx hb dX6_stake_61 rfl (lv_at hl 4 rfl) ?_
          refine lv_icmp_ge (tgt := 68) hx hb dX6_stake_62 (by decide)  (fun c5 => absurd (by rw [skE_in hxj (by omega), if_neg (skE_c (by assumption) (by assumption)), if_neg (by rintro (z | z); exact absurd z (by omega); exact absurd z (Int32.not_lt.mpr c5))]) hE) (fun c5 => ?_)
          refine lv_bipush (v := -3) hx hb dX6_stake_65 (by decide +kernel) ?_
          refine rTop (show (-3) = skE n k P tn (nI xj) y w from by rw [skE_in hxj (by omega), if_neg (skE_c (by assumption) (by assumption)), if_pos (by first | exact Or.inl (by omega) | exact Or.inr (Int32.not_le.mp (by assumption)))]) ?_
          exact rIret hx hb hr hlk hP hK hD hS dX6_stake_67
      · refine lv_bipush (v := -2) hx hb dX6_stake_29 (by decide +kernel) ?_
        refine rTop (show (-2) = skE n k P tn (nI xj) y w from by rw [skE_in hxj (by omega), if_pos (skE_d (by first | exact Or.inl (by assumption) | exact Or.inr (by assumption)))]) ?_
        exact rIret hx hb hr hlk hP hK hD hS dX6_stake_31
  · refine lv_iconst (v := -1) hx hb dX6_stake_8 (by decide +kernel) ?_
    refine rTop (show (-1) = skE n k P tn x y w from skE_f1 (by assumption)) ?_
    exact rIret hx hb hr hlk hP hK hD hS dX6_stake_9

set_option maxHeartbeats 4000000 in
set_option maxRecDepth 100000 in
theorem mX6_stake_ok (l : Launch) (D : va_G) (G : Nat → ClassId) (mo sa be ke te kn ty : Nat) (ik : Bool) (n tn k : Nat) (N Z S P V : Nat → Int32) (F : Nat → Nat → Int32) (po rd al : Int32) (B : Nat → Nat → Int32) (nq tnq kq : Nat) (Nq Zq Sq Pq Vq : Nat → Int32) (Fq : Nat → Nat → Int32) (poq rdq alq : Int32) (t : Nat → Nat) (L : Nat) (kd am : Int32) (hkn : kn ≤ 4) (hn : n = 3 ∨ n = 4) (ht : tn < 3) (hk9 : k < 10) (hL : L < 2 * n + 2) (hcap : cap (P tn + (-am)) = P tn - am) (hE : skE n k P tn (nI L) kd am = 0) : CT l yX6_stake wsX6_stake 4 92 D G [.ref mo, .int (nI L), .int kd, .int am] [(mo, .inr (6, [.ref sa, .ref be, .int (nI kn), .ref ke, .int (zB ik), .ref te, .int (nI ty)])), (sa, .inl (G 0, 117, .inl (enc n N Z tn po rd al k S P V F))), (be, .inl (G 0, 468, .inl (bf B))), (ke, .inl (G 0, 117, .inl (enc nq Nq Zq tnq poq rdq alq kq Sq Pq Vq Fq))), (te, .inl (G 0, 60, .inl (ch t)))] [(mo, .inr (6, [.ref sa, .ref be, .int (nI (mn kn)), .ref ke, .int (zB ik), .ref te, .int (nI ty)])), (sa, .inl (G 0, 117, .inl (enc n N Z tn po rd al (k + 1) S (upd P tn (cap (P tn + (-am)))) V (updF (updF (updF (updF (updF (updF (updF F k 0 (nI tn)) k 1 (nI L)) k 2 kd) k 3 am) k 4 (sL n N L)) k 5 (ovr n N L kd)) k 6 (und n kd))))), (be, .inl (G 0, 468, .inl (bf (kB B kn (enc n N Z tn po rd al k S P V F))))), (ke, .inl (G 0, 117, .inl (enc nq Nq Zq tnq poq rdq alq kq Sq Pq Vq Fq))), (te, .inl (G 0, 60, .inl (ch t)))] (some (.int (nI (k + 1)))) := by
  refine CT.of (cc := cX6_stake) (maxL := 5) (ret := (some .int)) (by decide) rfl RX6 rfl (Nat.le_of_ble_eq_true rfl) (fun pp ee s mm bl me cc A ls hx hb hr hml hts hown hlk hnm hA hP hK hD hN hS hl => ?_)
  have hl : lv_has ls 5 [(0, .ref mo), (1, .int (nI L)), (2, .int kd), (3, .int am)] := hl
  have hP : va_P D vwCl [(mo, .inr (6, [.ref sa, .ref be, .int (nI kn), .ref ke, .int (zB ik), .ref te, .int (nI ty)])), (sa, .inl (G 0, 117, .inl (enc n N Z tn po rd al k S P V F))), (be, .inl (G 0, 468, .inl (bf B))), (ke, .inl (G 0, 117, .inl (enc nq Nq Zq tnq poq rdq alq kq Sq Pq Vq Fq))), (te, .inl (G 0, 60, .inl (ch t)))] s.heap := hP
  have inX6 : ∀ w ∈ wsX60, w ∈ wsX6_stake := fun w h => List.mem_cons_of_mem _ (List.mem_append_right _ h)
  have k7 := hts (.fieldLink RX6 7 "SquareStakesModel" "s" "[I") (List.mem_of_getElem? (i := 1) rfl)
  have hq9 : n * n < 17 ∧ 0 < n * n := by rcases hn with rfl | rfl <;> decide
  refine lv_aload_n hx hb dX6_stake_0 rfl (lv_at hl 0 rfl) ?_
  refine lv_iload_n hx hb dX6_stake_1 rfl (lv_at hl 1 rfl) ?_
  refine cVr (As := [.int (nI L)]) (rest := []) ⟨hx, hb, hml, hown, hts⟩ hP hK hD hS hN hA (mX6_isLine l D G mo sa be ke te kn ty ik n tn k N Z S P V F po rd al (nI L) (by first | assumption | omega)) (cwV 1 hts gX6_stake_X6_isLine rfl rfl rfl (by decide +kernel) ⟨Nat.le_of_ble_eq_true rfl, Nat.le_of_ble_eq_true rfl⟩) [0, 1] rfl (by decide) 0 6 rfl rfl rfl hl.1 rfl (Nat.le_of_ble_eq_true rfl) dX6_stake_2 ⟨Nat.zero_le _, Nat.zero_le _⟩ (fun H locs hP hS => ?_)
  refine zNe (tgt := 10) hx hb dX6_stake_5 (by decide)  (fun c1 => ?_) (fun c1 => absurd (c1) (by rw [inB_nI (by omega), decide_eq_true hL]; decide))
  refine lv_iload_n hx hb dX6_stake_10 rfl (lv_at hl 2 rfl) ?_
  refine lv_iconst (v := nI 0) hx hb dX6_stake_11 (by decide +kernel) ?_
  refine lv_iconst (v := nI 2) hx hb dX6_stake_12 (by decide +kernel) ?_
  refine cSr (As := [.int kd, .int (nI 0), .int (nI 2)]) (rest := []) ⟨hx, hb, hml, hown, hts⟩ hP hK hD hS hN hA (mX6_in l D G kd (nI 0) (nI 2) ) (cwS 3 hts gX6_stake_X6_in rfl rfl rfl (by decide +kernel) ⟨Nat.le_of_ble_eq_true rfl, Nat.le_of_ble_eq_true rfl⟩) [] rfl (by decide) rfl hl.1 rfl (Nat.le_of_ble_eq_true rfl) dX6_stake_13 ⟨Nat.zero_le _, Nat.zero_le _⟩ (fun H locs hP hS => ?_)
  refine zEq (tgt := 29) hx hb dX6_stake_16 (by decide)  (fun c2 => absurd (hE.symm.trans (by rw [skE_in hL (by omega), if_pos (skE_d (Or.inl c2))])) (by decide)) (fun c2 => ?_)
  refine lv_iload_n hx hb dX6_stake_19 rfl (lv_at hl 3 rfl) ?_
  refine lv_iconst (v := nI 1) hx hb dX6_stake_20 (by decide +kernel) ?_
  refine lv_bipush (v := nI 99) hx hb dX6_stake_21 (by decide +kernel) ?_
  refine cSr (As := [.int am, .int (nI 1), .int (nI 99)]) (rest := []) ⟨hx, hb, hml, hown, hts⟩ hP hK hD hS hN hA (mX6_in l D G am (nI 1) (nI 99) ) (cwS 3 hts gX6_stake_X6_in rfl rfl rfl (by decide +kernel) ⟨Nat.le_of_ble_eq_true rfl, Nat.le_of_ble_eq_true rfl⟩) [] rfl (by decide) rfl hl.1 rfl (Nat.le_of_ble_eq_true rfl) dX6_stake_23 ⟨Nat.zero_le _, Nat.zero_le _⟩ (fun H locs hP hS => ?_)
  refine zNe (tgt := 32) hx hb dX6_stake_26 (by decide)  (fun c3 => ?_) (fun c3 => absurd (hE.symm.trans (by rw [skE_in hL (by omega), if_pos (skE_d (Or.inr c3))])) (by decide))
  refine lv_aload_n hx hb dX6_stake_32 rfl (lv_at hl 0 rfl) ?_
  refine va_get (D := D) (ci := 6) (v := .ref sa) (C := RX6) (T := TX6) (N := 7) hx hb hts inX6 hown hK hP 0 rfl rfl 0 (by decide) k7 (fun _ h9 => h9) rfl dX6_stake_33 ?_
  refine lv_iconst (v := nI 5) hx hb dX6_stake_36 (by decide +kernel) ?_
  refine rIald hx hb hK hP 1 rfl 5 (by omega) (by decide) dX6_stake_37 ?_
  refine rTop (show enc n N Z tn po rd al k S P V F 5 = nI k from rfl) ?_
  refine lv_istore (lv' := [(4, .int (nI k)), (0, .ref mo), (1, .int (nI L)), (2, .int kd), (3, .int am)]) hx hb dX6_stake_38 hl (by decide) rfl (fun ls hl => ?_)
  refine lv_iload hx hb dX6_stake_40 (lv_at hl 0 rfl) ?_
  refine lv_bipush (v := nI 10) hx hb dX6_stake_42 (by decide +kernel) ?_
  refine bEq (tgt := 65) hx hb dX6_stake_44 (by decide) (by omega) (by omega) (fun c4 => by exfalso; omega) (fun c4 => ?_)
  refine lv_aload_n hx hb dX6_stake_47 rfl (lv_at hl 1 rfl) ?_
  refine va_get (D := D) (ci := 6) (v := .ref sa) (C := RX6) (T := TX6) (N := 7) hx hb hts inX6 hown hK hP 0 rfl rfl 0 (by decide) k7 (fun _ h9 => h9) rfl dX6_stake_48 ?_
  refine lv_bipush (v := nI 9) hx hb dX6_stake_51 (by decide +kernel) ?_
  refine lv_aload_n hx hb dX6_stake_53 rfl (lv_at hl 1 rfl) ?_
  refine va_get (D := D) (ci := 6) (v := .ref sa) (C := RX6) (T := TX6) (N := 7) hx hb hts inX6 hown hK hP 0 rfl rfl 0 (by decide) k7 (fun _ h9 => h9) rfl dX6_stake_54 ?_
  refine lv_iconst (v := nI 1) hx hb dX6_stake_57 (by decide +kernel) ?_
  refine rIald hx hb hK hP 1 rfl 1 (by omega) (by decide) dX6_stake_58 ?_
  refine rTop (show enc n N Z tn po rd al k S P V F 1 = nI tn from rfl) ?_
  refine lv_iadd hx hb dX6_stake_59 ?_
  refine rTop (show nI 9 + nI tn = nI (9 + tn) from nI_add 9 tn) ?_
  refine rIald hx hb hK hP 1 rfl (9 + tn) (by omega) (by decide) dX6_stake_60 ?_
  refine rTop (enc_P n N Z tn po rd al k S P V F tn (by omega)) ?_
  refine lv_iload_n hx hb dX6_stake_61 rfl (lv_at hl 4 rfl) ?_
  refine lv_icmp_ge (tgt := 68) hx hb dX6_stake_62 (by decide)  (fun c5 => ?_) (fun c5 => absurd (hE.symm.trans (by rw [skE_in hL (by omega), if_neg (skE_c (by assumption) (by assumption)), if_pos (Or.inr (Int32.not_le.mp c5))])) (by decide))
  refine lv_aload_n hx hb dX6_stake_68 rfl (lv_at hl 1 rfl) ?_
  refine cV (As := []) (rest := []) ⟨hx, hb, hml, hown, hts⟩ hP hK hD hS hN hA (mX6_know l D G mo sa be ke te kn ty ik n tn k N Z S P V F po rd al B (by first | assumption | omega)) (cwV 0 hts gX6_stake_X6_know rfl rfl rfl (by decide +kernel) ⟨Nat.le_of_ble_eq_true rfl, Nat.le_of_ble_eq_true rfl⟩) [0, 1, 2] rfl (by decide) (Eq.trans (b := [mo, sa, be]) rfl rfl) 0 6 rfl rfl rfl hl.1 rfl (Nat.le_of_ble_eq_true rfl) dX6_stake_69 ⟨Nat.zero_le _, Nat.zero_le _⟩ (fun H locs hP hD hS => ?_)
  have hP : va_P D vwCl [(mo, .inr (6, [.ref sa, .ref be, .int (nI (mn kn)), .ref ke, .int (zB ik), .ref te, .int (nI ty)])), (sa, .inl (G 0, 117, .inl (enc n N Z tn po rd al k S P V F))), (be, .inl (G 0, 468, .inl (bf (kB B kn (enc n N Z tn po rd al k S P V F))))), (ke, .inl (G 0, 117, .inl (enc nq Nq Zq tnq poq rdq alq kq Sq Pq Vq Fq))), (te, .inl (G 0, 60, .inl (ch t)))] H := hP
  have hD : va_D A [(mo, .inr (6, [.ref sa, .ref be, .int (nI (mn kn)), .ref ke, .int (zB ik), .ref te, .int (nI ty)])), (sa, .inl (G 0, 117, .inl (enc n N Z tn po rd al k S P V F))), (be, .inl (G 0, 468, .inl (bf (kB B kn (enc n N Z tn po rd al k S P V F))))), (ke, .inl (G 0, 117, .inl (enc nq Nq Zq tnq poq rdq alq kq Sq Pq Vq Fq))), (te, .inl (G 0, 60, .inl (ch t)))] := hD
  refine lv_aload_n hx hb dX6_stake_72 rfl (lv_at hl 1 rfl) ?_
  refine va_get (D := D) (ci := 6) (v := .ref sa) (C := RX6) (T := TX6) (N := 7) hx hb hts inX6 hown hK hP 0 rfl rfl 0 (by decide) k7 (fun _ h9 => h9) rfl dX6_stake_73 ?_
  refine lv_bipush (v := nI 9) hx hb dX6_stake_76 (by decide +kernel) ?_
  refine lv_aload_n hx hb dX6_stake_78 rfl (lv_at hl 1 rfl) ?_
  refine va_get (D := D) (ci := 6) (v := .ref sa) (C := RX6) (T := TX6) (N := 7) hx hb hts inX6 hown hK hP 0 rfl rfl 0 (by decide) k7 (fun _ h9 => h9) rfl dX6_stake_79 ?_
  refine lv_iconst (v := nI 1) hx hb dX6_stake_82 (by decide +kernel) ?_
  refine rIald hx hb hK hP 1 rfl 1 (by omega) (by decide) dX6_stake_83 ?_
  refine rTop (show enc n N Z tn po rd al k S P V F 1 = nI tn from rfl) ?_
  refine lv_iadd hx hb dX6_stake_84 ?_
  refine rTop (show nI 9 + nI tn = nI (9 + tn) from nI_add 9 tn) ?_
  refine lv_dup2_11 hx hb dX6_stake_85 rfl rfl ?_
  refine rIald hx hb hK hP 1 rfl (9 + tn) (by omega) (by decide) dX6_stake_86 ?_
  refine rTop (enc_P n N Z tn po rd al k S P V F tn (by omega)) ?_
  refine lv_iload_n hx hb dX6_stake_87 rfl (lv_at hl 4 rfl) ?_
  refine lv_isub hx hb dX6_stake_88 ?_
  refine rIast hx hb hK hP hD hS 1 rfl (9 + tn) (by omega) (by decide) dX6_stake_89 (fun H locs hP hD hS => ?_)
  obtain ⟨hP, hD⟩ := wI (g := enc n N Z tn po rd al k S (upd P tn (P tn - am)) V F) hP hD 1 rfl (enc_wP n N Z tn po rd al k S P V F tn (by omega) (P tn - am))
  replace hP : va_P D vwCl [(mo, .inr (6, [.ref sa, .ref be, .int (nI (mn kn)), .ref ke, .int (zB ik), .ref te, .int (nI ty)])), (sa, .inl (G 0, 117, .inl (enc n N Z tn po rd al k S (upd P tn (P tn - am)) V F))), (be, .inl (G 0, 468, .inl (bf (kB B kn (enc n N Z tn po rd al k S P V F))))), (ke, .inl (G 0, 117, .inl (enc nq Nq Zq tnq poq rdq alq kq Sq Pq Vq Fq))), (te, .inl (G 0, 60, .inl (ch t)))] _ := hP
  have hD : va_D A [(mo, .inr (6, [.ref sa, .ref be, .int (nI (mn kn)), .ref ke, .int (zB ik), .ref te, .int (nI ty)])), (sa, .inl (G 0, 117, .inl (enc n N Z tn po rd al k S (upd P tn (P tn - am)) V F))), (be, .inl (G 0, 468, .inl (bf (kB B kn (enc n N Z tn po rd al k S P V F))))), (ke, .inl (G 0, 117, .inl (enc nq Nq Zq tnq poq rdq alq kq Sq Pq Vq Fq))), (te, .inl (G 0, 60, .inl (ch t)))] := hD
  obtain ⟨hP, hD⟩ := wI (g := enc n N Z tn po rd al k S (upd P tn (cap (P tn + (-am)))) V F) hP hD 1 rfl (fun j hj => by rw [hcap])
  replace hP : va_P D vwCl [(mo, .inr (6, [.ref sa, .ref be, .int (nI (mn kn)), .ref ke, .int (zB ik), .ref te, .int (nI ty)])), (sa, .inl (G 0, 117, .inl (enc n N Z tn po rd al k S (upd P tn (cap (P tn + (-am)))) V F))), (be, .inl (G 0, 468, .inl (bf (kB B kn (enc n N Z tn po rd al k S P V F))))), (ke, .inl (G 0, 117, .inl (enc nq Nq Zq tnq poq rdq alq kq Sq Pq Vq Fq))), (te, .inl (G 0, 60, .inl (ch t)))] _ := hP
  have hD : va_D A [(mo, .inr (6, [.ref sa, .ref be, .int (nI (mn kn)), .ref ke, .int (zB ik), .ref te, .int (nI ty)])), (sa, .inl (G 0, 117, .inl (enc n N Z tn po rd al k S (upd P tn (cap (P tn + (-am)))) V F))), (be, .inl (G 0, 468, .inl (bf (kB B kn (enc n N Z tn po rd al k S P V F))))), (ke, .inl (G 0, 117, .inl (enc nq Nq Zq tnq poq rdq alq kq Sq Pq Vq Fq))), (te, .inl (G 0, 60, .inl (ch t)))] := hD
  refine lv_aload_n hx hb dX6_stake_90 rfl (lv_at hl 1 rfl) ?_
  refine va_get (D := D) (ci := 6) (v := .ref sa) (C := RX6) (T := TX6) (N := 7) hx hb hts inX6 hown hK hP 0 rfl rfl 0 (by decide) k7 (fun _ h9 => h9) rfl dX6_stake_91 ?_
  refine lv_iload hx hb dX6_stake_94 (lv_at hl 0 rfl) ?_
  refine lv_iconst (v := nI 0) hx hb dX6_stake_96 (by decide +kernel) ?_
  refine cSr (As := [.int (nI k), .int (nI 0)]) (rest := [.ref sa]) ⟨hx, hb, hml, hown, hts⟩ hP hK hD hS hN hA (mX6_of l D G k 0 ) (cwS 2 hts gX6_stake_X6_of rfl rfl rfl (by decide +kernel) ⟨Nat.le_of_ble_eq_true rfl, Nat.le_of_ble_eq_true rfl⟩) [] rfl (by decide) rfl hl.1 rfl (Nat.le_of_ble_eq_true rfl) dX6_stake_97 ⟨Nat.zero_le _, Nat.zero_le _⟩ (fun H locs hP hS => ?_)
  refine lv_aload_n hx hb dX6_stake_100 rfl (lv_at hl 1 rfl) ?_
  refine va_get (D := D) (ci := 6) (v := .ref sa) (C := RX6) (T := TX6) (N := 7) hx hb hts inX6 hown hK hP 0 rfl rfl 0 (by decide) k7 (fun _ h9 => h9) rfl dX6_stake_101 ?_
  refine lv_iconst (v := nI 1) hx hb dX6_stake_104 (by decide +kernel) ?_
  refine rIald hx hb hK hP 1 rfl 1 (by omega) (by decide) dX6_stake_105 ?_
  refine rTop (show enc n N Z tn po rd al k S (upd P tn (cap (P tn + (-am)))) V F 1 = nI tn from rfl) ?_
  refine rIast hx hb hK hP hD hS 1 rfl (47 + 7 * k + 0) (by omega) (by decide) dX6_stake_106 (fun H locs hP hD hS => ?_)
  obtain ⟨hP, hD⟩ := wI (g := enc n N Z tn po rd al k S (upd P tn (cap (P tn + (-am)))) V (updF F k 0 (nI tn))) hP hD 1 rfl (enc_wF n N Z tn po rd al k S (upd P tn (cap (P tn + (-am)))) V F k 0 (by omega) (by omega) (nI tn))
  replace hP : va_P D vwCl [(mo, .inr (6, [.ref sa, .ref be, .int (nI (mn kn)), .ref ke, .int (zB ik), .ref te, .int (nI ty)])), (sa, .inl (G 0, 117, .inl (enc n N Z tn po rd al k S (upd P tn (cap (P tn + (-am)))) V (updF F k 0 (nI tn))))), (be, .inl (G 0, 468, .inl (bf (kB B kn (enc n N Z tn po rd al k S P V F))))), (ke, .inl (G 0, 117, .inl (enc nq Nq Zq tnq poq rdq alq kq Sq Pq Vq Fq))), (te, .inl (G 0, 60, .inl (ch t)))] _ := hP
  have hD : va_D A [(mo, .inr (6, [.ref sa, .ref be, .int (nI (mn kn)), .ref ke, .int (zB ik), .ref te, .int (nI ty)])), (sa, .inl (G 0, 117, .inl (enc n N Z tn po rd al k S (upd P tn (cap (P tn + (-am)))) V (updF F k 0 (nI tn))))), (be, .inl (G 0, 468, .inl (bf (kB B kn (enc n N Z tn po rd al k S P V F))))), (ke, .inl (G 0, 117, .inl (enc nq Nq Zq tnq poq rdq alq kq Sq Pq Vq Fq))), (te, .inl (G 0, 60, .inl (ch t)))] := hD
  refine lv_aload_n hx hb dX6_stake_107 rfl (lv_at hl 1 rfl) ?_
  refine va_get (D := D) (ci := 6) (v := .ref sa) (C := RX6) (T := TX6) (N := 7) hx hb hts inX6 hown hK hP 0 rfl rfl 0 (by decide) k7 (fun _ h9 => h9) rfl dX6_stake_108 ?_
  refine lv_iload hx hb dX6_stake_111 (lv_at hl 0 rfl) ?_
  refine lv_iconst (v := nI 1) hx hb dX6_stake_113 (by decide +kernel) ?_
  refine cSr (As := [.int (nI k), .int (nI 1)]) (rest := [.ref sa]) ⟨hx, hb, hml, hown, hts⟩ hP hK hD hS hN hA (mX6_of l D G k 1 ) (cwS 2 hts gX6_stake_X6_of rfl rfl rfl (by decide +kernel) ⟨Nat.le_of_ble_eq_true rfl, Nat.le_of_ble_eq_true rfl⟩) [] rfl (by decide) rfl hl.1 rfl (Nat.le_of_ble_eq_true rfl) dX6_stake_114 ⟨Nat.zero_le _, Nat.zero_le _⟩ (fun H locs hP hS => ?_)
  refine lv_iload_n hx hb dX6_stake_117 rfl (lv_at hl 2 rfl) ?_
  refine rIast hx hb hK hP hD hS 1 rfl (47 + 7 * k + 1) (by omega) (by decide) dX6_stake_118 (fun H locs hP hD hS => ?_)
  obtain ⟨hP, hD⟩ := wI (g := enc n N Z tn po rd al k S (upd P tn (cap (P tn + (-am)))) V (updF (updF F k 0 (nI tn)) k 1 (nI L))) hP hD 1 rfl (enc_wF n N Z tn po rd al k S (upd P tn (cap (P tn + (-am)))) V (updF F k 0 (nI tn)) k 1 (by omega) (by omega) (nI L))
  replace hP : va_P D vwCl [(mo, .inr (6, [.ref sa, .ref be, .int (nI (mn kn)), .ref ke, .int (zB ik), .ref te, .int (nI ty)])), (sa, .inl (G 0, 117, .inl (enc n N Z tn po rd al k S (upd P tn (cap (P tn + (-am)))) V (updF (updF F k 0 (nI tn)) k 1 (nI L))))), (be, .inl (G 0, 468, .inl (bf (kB B kn (enc n N Z tn po rd al k S P V F))))), (ke, .inl (G 0, 117, .inl (enc nq Nq Zq tnq poq rdq alq kq Sq Pq Vq Fq))), (te, .inl (G 0, 60, .inl (ch t)))] _ := hP
  have hD : va_D A [(mo, .inr (6, [.ref sa, .ref be, .int (nI (mn kn)), .ref ke, .int (zB ik), .ref te, .int (nI ty)])), (sa, .inl (G 0, 117, .inl (enc n N Z tn po rd al k S (upd P tn (cap (P tn + (-am)))) V (updF (updF F k 0 (nI tn)) k 1 (nI L))))), (be, .inl (G 0, 468, .inl (bf (kB B kn (enc n N Z tn po rd al k S P V F))))), (ke, .inl (G 0, 117, .inl (enc nq Nq Zq tnq poq rdq alq kq Sq Pq Vq Fq))), (te, .inl (G 0, 60, .inl (ch t)))] := hD
  refine lv_aload_n hx hb dX6_stake_119 rfl (lv_at hl 1 rfl) ?_
  refine va_get (D := D) (ci := 6) (v := .ref sa) (C := RX6) (T := TX6) (N := 7) hx hb hts inX6 hown hK hP 0 rfl rfl 0 (by decide) k7 (fun _ h9 => h9) rfl dX6_stake_120 ?_
  refine lv_iload hx hb dX6_stake_123 (lv_at hl 0 rfl) ?_
  refine lv_iconst (v := nI 2) hx hb dX6_stake_125 (by decide +kernel) ?_
  refine cSr (As := [.int (nI k), .int (nI 2)]) (rest := [.ref sa]) ⟨hx, hb, hml, hown, hts⟩ hP hK hD hS hN hA (mX6_of l D G k 2 ) (cwS 2 hts gX6_stake_X6_of rfl rfl rfl (by decide +kernel) ⟨Nat.le_of_ble_eq_true rfl, Nat.le_of_ble_eq_true rfl⟩) [] rfl (by decide) rfl hl.1 rfl (Nat.le_of_ble_eq_true rfl) dX6_stake_126 ⟨Nat.zero_le _, Nat.zero_le _⟩ (fun H locs hP hS => ?_)
  refine lv_iload_n hx hb dX6_stake_129 rfl (lv_at hl 3 rfl) ?_
  refine rIast hx hb hK hP hD hS 1 rfl (47 + 7 * k + 2) (by omega) (by decide) dX6_stake_130 (fun H locs hP hD hS => ?_)
  obtain ⟨hP, hD⟩ := wI (g := enc n N Z tn po rd al k S (upd P tn (cap (P tn + (-am)))) V (updF (updF (updF F k 0 (nI tn)) k 1 (nI L)) k 2 kd)) hP hD 1 rfl (enc_wF n N Z tn po rd al k S (upd P tn (cap (P tn + (-am)))) V (updF (updF F k 0 (nI tn)) k 1 (nI L)) k 2 (by omega) (by omega) kd)
  replace hP : va_P D vwCl [(mo, .inr (6, [.ref sa, .ref be, .int (nI (mn kn)), .ref ke, .int (zB ik), .ref te, .int (nI ty)])), (sa, .inl (G 0, 117, .inl (enc n N Z tn po rd al k S (upd P tn (cap (P tn + (-am)))) V (updF (updF (updF F k 0 (nI tn)) k 1 (nI L)) k 2 kd)))), (be, .inl (G 0, 468, .inl (bf (kB B kn (enc n N Z tn po rd al k S P V F))))), (ke, .inl (G 0, 117, .inl (enc nq Nq Zq tnq poq rdq alq kq Sq Pq Vq Fq))), (te, .inl (G 0, 60, .inl (ch t)))] _ := hP
  have hD : va_D A [(mo, .inr (6, [.ref sa, .ref be, .int (nI (mn kn)), .ref ke, .int (zB ik), .ref te, .int (nI ty)])), (sa, .inl (G 0, 117, .inl (enc n N Z tn po rd al k S (upd P tn (cap (P tn + (-am)))) V (updF (updF (updF F k 0 (nI tn)) k 1 (nI L)) k 2 kd)))), (be, .inl (G 0, 468, .inl (bf (kB B kn (enc n N Z tn po rd al k S P V F))))), (ke, .inl (G 0, 117, .inl (enc nq Nq Zq tnq poq rdq alq kq Sq Pq Vq Fq))), (te, .inl (G 0, 60, .inl (ch t)))] := hD
  refine lv_aload_n hx hb dX6_stake_131 rfl (lv_at hl 1 rfl) ?_
  refine va_get (D := D) (ci := 6) (v := .ref sa) (C := RX6) (T := TX6) (N := 7) hx hb hts inX6 hown hK hP 0 rfl rfl 0 (by decide) k7 (fun _ h9 => h9) rfl dX6_stake_132 ?_
  refine lv_iload hx hb dX6_stake_135 (lv_at hl 0 rfl) ?_
  refine lv_iconst (v := nI 3) hx hb dX6_stake_137 (by decide +kernel) ?_
  refine cSr (As := [.int (nI k), .int (nI 3)]) (rest := [.ref sa]) ⟨hx, hb, hml, hown, hts⟩ hP hK hD hS hN hA (mX6_of l D G k 3 ) (cwS 2 hts gX6_stake_X6_of rfl rfl rfl (by decide +kernel) ⟨Nat.le_of_ble_eq_true rfl, Nat.le_of_ble_eq_true rfl⟩) [] rfl (by decide) rfl hl.1 rfl (Nat.le_of_ble_eq_true rfl) dX6_stake_138 ⟨Nat.zero_le _, Nat.zero_le _⟩ (fun H locs hP hS => ?_)
  refine lv_iload_n hx hb dX6_stake_141 rfl (lv_at hl 4 rfl) ?_
  refine rIast hx hb hK hP hD hS 1 rfl (47 + 7 * k + 3) (by omega) (by decide) dX6_stake_142 (fun H locs hP hD hS => ?_)
  obtain ⟨hP, hD⟩ := wI (g := enc n N Z tn po rd al k S (upd P tn (cap (P tn + (-am)))) V (updF (updF (updF (updF F k 0 (nI tn)) k 1 (nI L)) k 2 kd) k 3 am)) hP hD 1 rfl (enc_wF n N Z tn po rd al k S (upd P tn (cap (P tn + (-am)))) V (updF (updF (updF F k 0 (nI tn)) k 1 (nI L)) k 2 kd) k 3 (by omega) (by omega) am)
  replace hP : va_P D vwCl [(mo, .inr (6, [.ref sa, .ref be, .int (nI (mn kn)), .ref ke, .int (zB ik), .ref te, .int (nI ty)])), (sa, .inl (G 0, 117, .inl (enc n N Z tn po rd al k S (upd P tn (cap (P tn + (-am)))) V (updF (updF (updF (updF F k 0 (nI tn)) k 1 (nI L)) k 2 kd) k 3 am)))), (be, .inl (G 0, 468, .inl (bf (kB B kn (enc n N Z tn po rd al k S P V F))))), (ke, .inl (G 0, 117, .inl (enc nq Nq Zq tnq poq rdq alq kq Sq Pq Vq Fq))), (te, .inl (G 0, 60, .inl (ch t)))] _ := hP
  have hD : va_D A [(mo, .inr (6, [.ref sa, .ref be, .int (nI (mn kn)), .ref ke, .int (zB ik), .ref te, .int (nI ty)])), (sa, .inl (G 0, 117, .inl (enc n N Z tn po rd al k S (upd P tn (cap (P tn + (-am)))) V (updF (updF (updF (updF F k 0 (nI tn)) k 1 (nI L)) k 2 kd) k 3 am)))), (be, .inl (G 0, 468, .inl (bf (kB B kn (enc n N Z tn po rd al k S P V F))))), (ke, .inl (G 0, 117, .inl (enc nq Nq Zq tnq poq rdq alq kq Sq Pq Vq Fq))), (te, .inl (G 0, 60, .inl (ch t)))] := hD
  refine lv_aload_n hx hb dX6_stake_143 rfl (lv_at hl 1 rfl) ?_
  refine va_get (D := D) (ci := 6) (v := .ref sa) (C := RX6) (T := TX6) (N := 7) hx hb hts inX6 hown hK hP 0 rfl rfl 0 (by decide) k7 (fun _ h9 => h9) rfl dX6_stake_144 ?_
  refine lv_iload hx hb dX6_stake_147 (lv_at hl 0 rfl) ?_
  refine lv_iconst (v := nI 4) hx hb dX6_stake_149 (by decide +kernel) ?_
  refine cSr (As := [.int (nI k), .int (nI 4)]) (rest := [.ref sa]) ⟨hx, hb, hml, hown, hts⟩ hP hK hD hS hN hA (mX6_of l D G k 4 ) (cwS 2 hts gX6_stake_X6_of rfl rfl rfl (by decide +kernel) ⟨Nat.le_of_ble_eq_true rfl, Nat.le_of_ble_eq_true rfl⟩) [] rfl (by decide) rfl hl.1 rfl (Nat.le_of_ble_eq_true rfl) dX6_stake_150 ⟨Nat.zero_le _, Nat.zero_le _⟩ (fun H locs hP hS => ?_)
  refine lv_aload_n hx hb dX6_stake_153 rfl (lv_at hl 1 rfl) ?_
  refine lv_iload_n hx hb dX6_stake_154 rfl (lv_at hl 2 rfl) ?_
  refine cVr (As := [.int (nI L)]) (rest := [.int (nI (47 + 7 * k + 4)), .ref sa]) ⟨hx, hb, hml, hown, hts⟩ hP hK hD hS hN hA (mX6_sum l D G mo sa be ke te (mn kn) ty ik n tn k N Z S (upd P tn (cap (P tn + (-am)))) V (updF (updF (updF (updF F k 0 (nI tn)) k 1 (nI L)) k 2 kd) k 3 am) po rd al L (by first | assumption | omega) (by first | assumption | omega)) (cwV 1 hts gX6_stake_X6_sum rfl rfl rfl (by decide +kernel) ⟨Nat.le_of_ble_eq_true rfl, Nat.le_of_ble_eq_true rfl⟩) [0, 1] rfl (by decide) 0 6 rfl rfl rfl hl.1 rfl (Nat.le_of_ble_eq_true rfl) dX6_stake_155 ⟨Nat.zero_le _, Nat.zero_le _⟩ (fun H locs hP hS => ?_)
  refine rIast hx hb hK hP hD hS 1 rfl (47 + 7 * k + 4) (by omega) (by decide) dX6_stake_158 (fun H locs hP hD hS => ?_)
  obtain ⟨hP, hD⟩ := wI (g := enc n N Z tn po rd al k S (upd P tn (cap (P tn + (-am)))) V (updF (updF (updF (updF (updF F k 0 (nI tn)) k 1 (nI L)) k 2 kd) k 3 am) k 4 (sL n N L))) hP hD 1 rfl (enc_wF n N Z tn po rd al k S (upd P tn (cap (P tn + (-am)))) V (updF (updF (updF (updF F k 0 (nI tn)) k 1 (nI L)) k 2 kd) k 3 am) k 4 (by omega) (by omega) (sL n N L))
  replace hP : va_P D vwCl [(mo, .inr (6, [.ref sa, .ref be, .int (nI (mn kn)), .ref ke, .int (zB ik), .ref te, .int (nI ty)])), (sa, .inl (G 0, 117, .inl (enc n N Z tn po rd al k S (upd P tn (cap (P tn + (-am)))) V (updF (updF (updF (updF (updF F k 0 (nI tn)) k 1 (nI L)) k 2 kd) k 3 am) k 4 (sL n N L))))), (be, .inl (G 0, 468, .inl (bf (kB B kn (enc n N Z tn po rd al k S P V F))))), (ke, .inl (G 0, 117, .inl (enc nq Nq Zq tnq poq rdq alq kq Sq Pq Vq Fq))), (te, .inl (G 0, 60, .inl (ch t)))] _ := hP
  have hD : va_D A [(mo, .inr (6, [.ref sa, .ref be, .int (nI (mn kn)), .ref ke, .int (zB ik), .ref te, .int (nI ty)])), (sa, .inl (G 0, 117, .inl (enc n N Z tn po rd al k S (upd P tn (cap (P tn + (-am)))) V (updF (updF (updF (updF (updF F k 0 (nI tn)) k 1 (nI L)) k 2 kd) k 3 am) k 4 (sL n N L))))), (be, .inl (G 0, 468, .inl (bf (kB B kn (enc n N Z tn po rd al k S P V F))))), (ke, .inl (G 0, 117, .inl (enc nq Nq Zq tnq poq rdq alq kq Sq Pq Vq Fq))), (te, .inl (G 0, 60, .inl (ch t)))] := hD
  refine lv_aload_n hx hb dX6_stake_159 rfl (lv_at hl 1 rfl) ?_
  refine va_get (D := D) (ci := 6) (v := .ref sa) (C := RX6) (T := TX6) (N := 7) hx hb hts inX6 hown hK hP 0 rfl rfl 0 (by decide) k7 (fun _ h9 => h9) rfl dX6_stake_160 ?_
  refine lv_iload hx hb dX6_stake_163 (lv_at hl 0 rfl) ?_
  refine lv_iconst (v := nI 5) hx hb dX6_stake_165 (by decide +kernel) ?_
  refine cSr (As := [.int (nI k), .int (nI 5)]) (rest := [.ref sa]) ⟨hx, hb, hml, hown, hts⟩ hP hK hD hS hN hA (mX6_of l D G k 5 ) (cwS 2 hts gX6_stake_X6_of rfl rfl rfl (by decide +kernel) ⟨Nat.le_of_ble_eq_true rfl, Nat.le_of_ble_eq_true rfl⟩) [] rfl (by decide) rfl hl.1 rfl (Nat.le_of_ble_eq_true rfl) dX6_stake_166 ⟨Nat.zero_le _, Nat.zero_le _⟩ (fun H locs hP hS => ?_)
  refine lv_iload_n hx hb dX6_stake_169 rfl (lv_at hl 3 rfl) ?_
  refine lv_if_ne (tgt := 181) hx hb dX6_stake_170 (by decide)  (fun c6 => ?_) (fun c6 => ?_)
  · refine lv_aload_n hx hb dX6_stake_181 rfl (lv_at hl 1 rfl) ?_
    refine cVr (As := []) (rest := [.int (nI (47 + 7 * k + 5)), .ref sa]) ⟨hx, hb, hml, hown, hts⟩ hP hK hD hS hN hA (mX6_magicLines l D G mo sa be ke te (mn kn) ty ik n tn k N Z S (upd P tn (cap (P tn + (-am)))) V (updF (updF (updF (updF (updF F k 0 (nI tn)) k 1 (nI L)) k 2 kd) k 3 am) k 4 (sL n N L)) po rd al (by first | assumption | omega)) (cwV 0 hts gX6_stake_X6_magicLines rfl rfl rfl (by decide +kernel) ⟨Nat.le_of_ble_eq_true rfl, Nat.le_of_ble_eq_true rfl⟩) [0, 1] rfl (by decide) 0 6 rfl rfl rfl hl.1 rfl (Nat.le_of_ble_eq_true rfl) dX6_stake_182 ⟨Nat.zero_le _, Nat.zero_le _⟩ (fun H locs hP hS => ?_)
    refine rTop (show nI (mcn n N) = ovr n N L kd from by first | exact ovr_0 (by assumption) | exact ovr_1 (by assumption)) ?_
    refine rIast hx hb hK hP hD hS 1 rfl (47 + 7 * k + 5) (by omega) (by decide) dX6_stake_185 (fun H locs hP hD hS => ?_)
    obtain ⟨hP, hD⟩ := wI (g := enc n N Z tn po rd al k S (upd P tn (cap (P tn + (-am)))) V (updF (updF (updF (updF (updF (updF F k 0 (nI tn)) k 1 (nI L)) k 2 kd) k 3 am) k 4 (sL n N L)) k 5 (ovr n N L kd))) hP hD 1 rfl (enc_wF n N Z tn po rd al k S (upd P tn (cap (P tn + (-am)))) V (updF (updF (updF (updF (updF F k 0 (nI tn)) k 1 (nI L)) k 2 kd) k 3 am) k 4 (sL n N L)) k 5 (by omega) (by omega) (ovr n N L kd))
    replace hP : va_P D vwCl [(mo, .inr (6, [.ref sa, .ref be, .int (nI (mn kn)), .ref ke, .int (zB ik), .ref te, .int (nI ty)])), (sa, .inl (G 0, 117, .inl (enc n N Z tn po rd al k S (upd P tn (cap (P tn + (-am)))) V (updF (updF (updF (updF (updF (updF F k 0 (nI tn)) k 1 (nI L)) k 2 kd) k 3 am) k 4 (sL n N L)) k 5 (ovr n N L kd))))), (be, .inl (G 0, 468, .inl (bf (kB B kn (enc n N Z tn po rd al k S P V F))))), (ke, .inl (G 0, 117, .inl (enc nq Nq Zq tnq poq rdq alq kq Sq Pq Vq Fq))), (te, .inl (G 0, 60, .inl (ch t)))] _ := hP
    have hD : va_D A [(mo, .inr (6, [.ref sa, .ref be, .int (nI (mn kn)), .ref ke, .int (zB ik), .ref te, .int (nI ty)])), (sa, .inl (G 0, 117, .inl (enc n N Z tn po rd al k S (upd P tn (cap (P tn + (-am)))) V (updF (updF (updF (updF (updF (updF F k 0 (nI tn)) k 1 (nI L)) k 2 kd) k 3 am) k 4 (sL n N L)) k 5 (ovr n N L kd))))), (be, .inl (G 0, 468, .inl (bf (kB B kn (enc n N Z tn po rd al k S P V F))))), (ke, .inl (G 0, 117, .inl (enc nq Nq Zq tnq poq rdq alq kq Sq Pq Vq Fq))), (te, .inl (G 0, 60, .inl (ch t)))] := hD
    refine lv_aload_n hx hb dX6_stake_186 rfl (lv_at hl 1 rfl) ?_
    refine va_get (D := D) (ci := 6) (v := .ref sa) (C := RX6) (T := TX6) (N := 7) hx hb hts inX6 hown hK hP 0 rfl rfl 0 (by decide) k7 (fun _ h9 => h9) rfl dX6_stake_187 ?_
    refine lv_iload hx hb dX6_stake_190 (lv_at hl 0 rfl) ?_
    refine lv_bipush (v := nI 6) hx hb dX6_stake_192 (by decide +kernel) ?_
    refine cSr (As := [.int (nI k), .int (nI 6)]) (rest := [.ref sa]) ⟨hx, hb, hml, hown, hts⟩ hP hK hD hS hN hA (mX6_of l D G k 6 ) (cwS 2 hts gX6_stake_X6_of rfl rfl rfl (by decide +kernel) ⟨Nat.le_of_ble_eq_true rfl, Nat.le_of_ble_eq_true rfl⟩) [] rfl (by decide) rfl hl.1 rfl (Nat.le_of_ble_eq_true rfl) dX6_stake_194 ⟨Nat.zero_le _, Nat.zero_le _⟩ (fun H locs hP hS => ?_)
    refine lv_iload_n hx hb dX6_stake_197 rfl (lv_at hl 3 rfl) ?_
    refine lv_if_ne (tgt := 205) hx hb dX6_stake_198 (by decide)  (fun c7 => ?_) (fun c7 => ?_)
    · refine lv_aload_n hx hb dX6_stake_205 rfl (lv_at hl 1 rfl) ?_
      refine cVr (As := []) (rest := [.int (nI (47 + 7 * k + 6)), .ref sa]) ⟨hx, hb, hml, hown, hts⟩ hP hK hD hS hN hA (mX6_lines l D G mo sa be ke te (mn kn) ty ik n tn k N Z S (upd P tn (cap (P tn + (-am)))) V (updF (updF (updF (updF (updF (updF F k 0 (nI tn)) k 1 (nI L)) k 2 kd) k 3 am) k 4 (sL n N L)) k 5 (ovr n N L kd)) po rd al (by first | assumption | omega)) (cwV 0 hts gX6_stake_X6_lines rfl rfl rfl (by decide +kernel) ⟨Nat.le_of_ble_eq_true rfl, Nat.le_of_ble_eq_true rfl⟩) [0, 1] rfl (by decide) 0 6 rfl rfl rfl hl.1 rfl (Nat.le_of_ble_eq_true rfl) dX6_stake_206 ⟨Nat.zero_le _, Nat.zero_le _⟩ (fun H locs hP hS => ?_)
      refine rTop (show nI (2 * n + 2) = und n kd from by first | exact und_0 (by assumption) | exact und_1 (by assumption)) ?_
      refine rIast hx hb hK hP hD hS 1 rfl (47 + 7 * k + 6) (by omega) (by decide) dX6_stake_209 (fun H locs hP hD hS => ?_)
      obtain ⟨hP, hD⟩ := wI (g := enc n N Z tn po rd al k S (upd P tn (cap (P tn + (-am)))) V (updF (updF (updF (updF (updF (updF (updF F k 0 (nI tn)) k 1 (nI L)) k 2 kd) k 3 am) k 4 (sL n N L)) k 5 (ovr n N L kd)) k 6 (und n kd))) hP hD 1 rfl (enc_wF n N Z tn po rd al k S (upd P tn (cap (P tn + (-am)))) V (updF (updF (updF (updF (updF (updF F k 0 (nI tn)) k 1 (nI L)) k 2 kd) k 3 am) k 4 (sL n N L)) k 5 (ovr n N L kd)) k 6 (by omega) (by omega) (und n kd))
      replace hP : va_P D vwCl [(mo, .inr (6, [.ref sa, .ref be, .int (nI (mn kn)), .ref ke, .int (zB ik), .ref te, .int (nI ty)])), (sa, .inl (G 0, 117, .inl (enc n N Z tn po rd al k S (upd P tn (cap (P tn + (-am)))) V (updF (updF (updF (updF (updF (updF (updF F k 0 (nI tn)) k 1 (nI L)) k 2 kd) k 3 am) k 4 (sL n N L)) k 5 (ovr n N L kd)) k 6 (und n kd))))), (be, .inl (G 0, 468, .inl (bf (kB B kn (enc n N Z tn po rd al k S P V F))))), (ke, .inl (G 0, 117, .inl (enc nq Nq Zq tnq poq rdq alq kq Sq Pq Vq Fq))), (te, .inl (G 0, 60, .inl (ch t)))] _ := hP
      have hD : va_D A [(mo, .inr (6, [.ref sa, .ref be, .int (nI (mn kn)), .ref ke, .int (zB ik), .ref te, .int (nI ty)])), (sa, .inl (G 0, 117, .inl (enc n N Z tn po rd al k S (upd P tn (cap (P tn + (-am)))) V (updF (updF (updF (updF (updF (updF (updF F k 0 (nI tn)) k 1 (nI L)) k 2 kd) k 3 am) k 4 (sL n N L)) k 5 (ovr n N L kd)) k 6 (und n kd))))), (be, .inl (G 0, 468, .inl (bf (kB B kn (enc n N Z tn po rd al k S P V F))))), (ke, .inl (G 0, 117, .inl (enc nq Nq Zq tnq poq rdq alq kq Sq Pq Vq Fq))), (te, .inl (G 0, 60, .inl (ch t)))] := hD
      refine lv_aload_n hx hb dX6_stake_210 rfl (lv_at hl 1 rfl) ?_
      refine va_get (D := D) (ci := 6) (v := .ref sa) (C := RX6) (T := TX6) (N := 7) hx hb hts inX6 hown hK hP 0 rfl rfl 0 (by decide) k7 (fun _ h9 => h9) rfl dX6_stake_211 ?_
      refine lv_iconst (v := nI 5) hx hb dX6_stake_214 (by decide +kernel) ?_
      refine lv_dup2_11 hx hb dX6_stake_215 rfl rfl ?_
      refine rIald hx hb hK hP 1 rfl 5 (by omega) (by decide) dX6_stake_216 ?_
      refine rTop (show enc n N Z tn po rd al k S (upd P tn (cap (P tn + (-am)))) V (updF (updF (updF (updF (updF (updF (updF F k 0 (nI tn)) k 1 (nI L)) k 2 kd) k 3 am) k 4 (sL n N L)) k 5 (ovr n N L kd)) k 6 (und n kd)) 5 = nI k from rfl) ?_
      refine lv_iconst (v := nI 1) hx hb dX6_stake_217 (by decide +kernel) ?_
      refine lv_iadd hx hb dX6_stake_218 ?_
      refine rTop (show nI k + nI 1 = nI (k + 1) from nI_add k 1) ?_
      refine rIast hx hb hK hP hD hS 1 rfl 5 (by omega) (by decide) dX6_stake_219 (fun H locs hP hD hS => ?_)
      obtain ⟨hP, hD⟩ := wI (g := enc n N Z tn po rd al (k + 1) S (upd P tn (cap (P tn + (-am)))) V (updF (updF (updF (updF (updF (updF (updF F k 0 (nI tn)) k 1 (nI L)) k 2 kd) k 3 am) k 4 (sL n N L)) k 5 (ovr n N L kd)) k 6 (und n kd))) hP hD 1 rfl (enc_w5 n N Z tn po rd al k S (upd P tn (cap (P tn + (-am)))) V (updF (updF (updF (updF (updF (updF (updF F k 0 (nI tn)) k 1 (nI L)) k 2 kd) k 3 am) k 4 (sL n N L)) k 5 (ovr n N L kd)) k 6 (und n kd)) (k + 1))
      replace hP : va_P D vwCl [(mo, .inr (6, [.ref sa, .ref be, .int (nI (mn kn)), .ref ke, .int (zB ik), .ref te, .int (nI ty)])), (sa, .inl (G 0, 117, .inl (enc n N Z tn po rd al (k + 1) S (upd P tn (cap (P tn + (-am)))) V (updF (updF (updF (updF (updF (updF (updF F k 0 (nI tn)) k 1 (nI L)) k 2 kd) k 3 am) k 4 (sL n N L)) k 5 (ovr n N L kd)) k 6 (und n kd))))), (be, .inl (G 0, 468, .inl (bf (kB B kn (enc n N Z tn po rd al k S P V F))))), (ke, .inl (G 0, 117, .inl (enc nq Nq Zq tnq poq rdq alq kq Sq Pq Vq Fq))), (te, .inl (G 0, 60, .inl (ch t)))] _ := hP
      have hD : va_D A [(mo, .inr (6, [.ref sa, .ref be, .int (nI (mn kn)), .ref ke, .int (zB ik), .ref te, .int (nI ty)])), (sa, .inl (G 0, 117, .inl (enc n N Z tn po rd al (k + 1) S (upd P tn (cap (P tn + (-am)))) V (updF (updF (updF (updF (updF (updF (updF F k 0 (nI tn)) k 1 (nI L)) k 2 kd) k 3 am) k 4 (sL n N L)) k 5 (ovr n N L kd)) k 6 (und n kd))))), (be, .inl (G 0, 468, .inl (bf (kB B kn (enc n N Z tn po rd al k S P V F))))), (ke, .inl (G 0, 117, .inl (enc nq Nq Zq tnq poq rdq alq kq Sq Pq Vq Fq))), (te, .inl (G 0, 60, .inl (ch t)))] := hD
      refine lv_aload_n hx hb dX6_stake_220 rfl (lv_at hl 1 rfl) ?_
      refine va_get (D := D) (ci := 6) (v := .ref sa) (C := RX6) (T := TX6) (N := 7) hx hb hts inX6 hown hK hP 0 rfl rfl 0 (by decide) k7 (fun _ h9 => h9) rfl dX6_stake_221 ?_
      refine lv_iconst (v := nI 5) hx hb dX6_stake_224 (by decide +kernel) ?_
      refine rIald hx hb hK hP 1 rfl 5 (by omega) (by decide) dX6_stake_225 ?_
      refine rTop (show enc n N Z tn po rd al (k + 1) S (upd P tn (cap (P tn + (-am)))) V (updF (updF (updF (updF (updF (updF (updF F k 0 (nI tn)) k 1 (nI L)) k 2 kd) k 3 am) k 4 (sL n N L)) k 5 (ovr n N L kd)) k 6 (und n kd)) 5 = nI (k + 1) from rfl) ?_
      exact rIret hx hb hr hlk hP hK hD hS dX6_stake_226
    · refine lv_iconst (v := nI 4) hx hb dX6_stake_201 (by decide +kernel) ?_
      refine lv_goto (tgt := 209) hx hb dX6_stake_202 (by decide) ?_
      refine rTop (show nI 4 = und n kd from by first | exact und_0 (by assumption) | exact und_1 (by assumption)) ?_
      refine rIast hx hb hK hP hD hS 1 rfl (47 + 7 * k + 6) (by omega) (by decide) dX6_stake_209 (fun H locs hP hD hS => ?_)
      obtain ⟨hP, hD⟩ := wI (g := enc n N Z tn po rd al k S (upd P tn (cap (P tn + (-am)))) V (updF (updF (updF (updF (updF (updF (updF F k 0 (nI tn)) k 1 (nI L)) k 2 kd) k 3 am) k 4 (sL n N L)) k 5 (ovr n N L kd)) k 6 (und n kd))) hP hD 1 rfl (enc_wF n N Z tn po rd al k S (upd P tn (cap (P tn + (-am)))) V (updF (updF (updF (updF (updF (updF F k 0 (nI tn)) k 1 (nI L)) k 2 kd) k 3 am) k 4 (sL n N L)) k 5 (ovr n N L kd)) k 6 (by omega) (by omega) (und n kd))
      replace hP : va_P D vwCl [(mo, .inr (6, [.ref sa, .ref be, .int (nI (mn kn)), .ref ke, .int (zB ik), .ref te, .int (nI ty)])), (sa, .inl (G 0, 117, .inl (enc n N Z tn po rd al k S (upd P tn (cap (P tn + (-am)))) V (updF (updF (updF (updF (updF (updF (updF F k 0 (nI tn)) k 1 (nI L)) k 2 kd) k 3 am) k 4 (sL n N L)) k 5 (ovr n N L kd)) k 6 (und n kd))))), (be, .inl (G 0, 468, .inl (bf (kB B kn (enc n N Z tn po rd al k S P V F))))), (ke, .inl (G 0, 117, .inl (enc nq Nq Zq tnq poq rdq alq kq Sq Pq Vq Fq))), (te, .inl (G 0, 60, .inl (ch t)))] _ := hP
      have hD : va_D A [(mo, .inr (6, [.ref sa, .ref be, .int (nI (mn kn)), .ref ke, .int (zB ik), .ref te, .int (nI ty)])), (sa, .inl (G 0, 117, .inl (enc n N Z tn po rd al k S (upd P tn (cap (P tn + (-am)))) V (updF (updF (updF (updF (updF (updF (updF F k 0 (nI tn)) k 1 (nI L)) k 2 kd) k 3 am) k 4 (sL n N L)) k 5 (ovr n N L kd)) k 6 (und n kd))))), (be, .inl (G 0, 468, .inl (bf (kB B kn (enc n N Z tn po rd al k S P V F))))), (ke, .inl (G 0, 117, .inl (enc nq Nq Zq tnq poq rdq alq kq Sq Pq Vq Fq))), (te, .inl (G 0, 60, .inl (ch t)))] := hD
      refine lv_aload_n hx hb dX6_stake_210 rfl (lv_at hl 1 rfl) ?_
      refine va_get (D := D) (ci := 6) (v := .ref sa) (C := RX6) (T := TX6) (N := 7) hx hb hts inX6 hown hK hP 0 rfl rfl 0 (by decide) k7 (fun _ h9 => h9) rfl dX6_stake_211 ?_
      refine lv_iconst (v := nI 5) hx hb dX6_stake_214 (by decide +kernel) ?_
      refine lv_dup2_11 hx hb dX6_stake_215 rfl rfl ?_
      refine rIald hx hb hK hP 1 rfl 5 (by omega) (by decide) dX6_stake_216 ?_
      refine rTop (show enc n N Z tn po rd al k S (upd P tn (cap (P tn + (-am)))) V (updF (updF (updF (updF (updF (updF (updF F k 0 (nI tn)) k 1 (nI L)) k 2 kd) k 3 am) k 4 (sL n N L)) k 5 (ovr n N L kd)) k 6 (und n kd)) 5 = nI k from rfl) ?_
      refine lv_iconst (v := nI 1) hx hb dX6_stake_217 (by decide +kernel) ?_
      refine lv_iadd hx hb dX6_stake_218 ?_
      refine rTop (show nI k + nI 1 = nI (k + 1) from nI_add k 1) ?_
      refine rIast hx hb hK hP hD hS 1 rfl 5 (by omega) (by decide) dX6_stake_219 (fun H locs hP hD hS => ?_)
      obtain ⟨hP, hD⟩ := wI (g := enc n N Z tn po rd al (k + 1) S (upd P tn (cap (P tn + (-am)))) V (updF (updF (updF (updF (updF (updF (updF F k 0 (nI tn)) k 1 (nI L)) k 2 kd) k 3 am) k 4 (sL n N L)) k 5 (ovr n N L kd)) k 6 (und n kd))) hP hD 1 rfl (enc_w5 n N Z tn po rd al k S (upd P tn (cap (P tn + (-am)))) V (updF (updF (updF (updF (updF (updF (updF F k 0 (nI tn)) k 1 (nI L)) k 2 kd) k 3 am) k 4 (sL n N L)) k 5 (ovr n N L kd)) k 6 (und n kd)) (k + 1))
      replace hP : va_P D vwCl [(mo, .inr (6, [.ref sa, .ref be, .int (nI (mn kn)), .ref ke, .int (zB ik), .ref te, .int (nI ty)])), (sa, .inl (G 0, 117, .inl (enc n N Z tn po rd al (k + 1) S (upd P tn (cap (P tn + (-am)))) V (updF (updF (updF (updF (updF (updF (updF F k 0 (nI tn)) k 1 (nI L)) k 2 kd) k 3 am) k 4 (sL n N L)) k 5 (ovr n N L kd)) k 6 (und n kd))))), (be, .inl (G 0, 468, .inl (bf (kB B kn (enc n N Z tn po rd al k S P V F))))), (ke, .inl (G 0, 117, .inl (enc nq Nq Zq tnq poq rdq alq kq Sq Pq Vq Fq))), (te, .inl (G 0, 60, .inl (ch t)))] _ := hP
      have hD : va_D A [(mo, .inr (6, [.ref sa, .ref be, .int (nI (mn kn)), .ref ke, .int (zB ik), .ref te, .int (nI ty)])), (sa, .inl (G 0, 117, .inl (enc n N Z tn po rd al (k + 1) S (upd P tn (cap (P tn + (-am)))) V (updF (updF (updF (updF (updF (updF (updF F k 0 (nI tn)) k 1 (nI L)) k 2 kd) k 3 am) k 4 (sL n N L)) k 5 (ovr n N L kd)) k 6 (und n kd))))), (be, .inl (G 0, 468, .inl (bf (kB B kn (enc n N Z tn po rd al k S P V F))))), (ke, .inl (G 0, 117, .inl (enc nq Nq Zq tnq poq rdq alq kq Sq Pq Vq Fq))), (te, .inl (G 0, 60, .inl (ch t)))] := hD
      refine lv_aload_n hx hb dX6_stake_220 rfl (lv_at hl 1 rfl) ?_
      refine va_get (D := D) (ci := 6) (v := .ref sa) (C := RX6) (T := TX6) (N := 7) hx hb hts inX6 hown hK hP 0 rfl rfl 0 (by decide) k7 (fun _ h9 => h9) rfl dX6_stake_221 ?_
      refine lv_iconst (v := nI 5) hx hb dX6_stake_224 (by decide +kernel) ?_
      refine rIald hx hb hK hP 1 rfl 5 (by omega) (by decide) dX6_stake_225 ?_
      refine rTop (show enc n N Z tn po rd al (k + 1) S (upd P tn (cap (P tn + (-am)))) V (updF (updF (updF (updF (updF (updF (updF F k 0 (nI tn)) k 1 (nI L)) k 2 kd) k 3 am) k 4 (sL n N L)) k 5 (ovr n N L kd)) k 6 (und n kd)) 5 = nI (k + 1) from rfl) ?_
      exact rIret hx hb hr hlk hP hK hD hS dX6_stake_226
  · refine lv_aload_n hx hb dX6_stake_173 rfl (lv_at hl 1 rfl) ?_
    refine lv_iload_n hx hb dX6_stake_174 rfl (lv_at hl 2 rfl) ?_
    refine cVr (As := [.int (nI L)]) (rest := [.int (nI (47 + 7 * k + 5)), .ref sa]) ⟨hx, hb, hml, hown, hts⟩ hP hK hD hS hN hA (mX6_off l D G mo sa be ke te (mn kn) ty ik n tn k N Z S (upd P tn (cap (P tn + (-am)))) V (updF (updF (updF (updF (updF F k 0 (nI tn)) k 1 (nI L)) k 2 kd) k 3 am) k 4 (sL n N L)) po rd al L (by first | assumption | omega) (by first | assumption | omega)) (cwV 1 hts gX6_stake_X6_off rfl rfl rfl (by decide +kernel) ⟨Nat.le_of_ble_eq_true rfl, Nat.le_of_ble_eq_true rfl⟩) [0, 1] rfl (by decide) 0 6 rfl rfl rfl hl.1 rfl (Nat.le_of_ble_eq_true rfl) dX6_stake_175 ⟨Nat.zero_le _, Nat.zero_le _⟩ (fun H locs hP hS => ?_)
    refine lv_goto (tgt := 185) hx hb dX6_stake_178 (by decide) ?_
    refine rTop (show dfL n N L = ovr n N L kd from by first | exact ovr_0 (by assumption) | exact ovr_1 (by assumption)) ?_
    refine rIast hx hb hK hP hD hS 1 rfl (47 + 7 * k + 5) (by omega) (by decide) dX6_stake_185 (fun H locs hP hD hS => ?_)
    obtain ⟨hP, hD⟩ := wI (g := enc n N Z tn po rd al k S (upd P tn (cap (P tn + (-am)))) V (updF (updF (updF (updF (updF (updF F k 0 (nI tn)) k 1 (nI L)) k 2 kd) k 3 am) k 4 (sL n N L)) k 5 (ovr n N L kd))) hP hD 1 rfl (enc_wF n N Z tn po rd al k S (upd P tn (cap (P tn + (-am)))) V (updF (updF (updF (updF (updF F k 0 (nI tn)) k 1 (nI L)) k 2 kd) k 3 am) k 4 (sL n N L)) k 5 (by omega) (by omega) (ovr n N L kd))
    replace hP : va_P D vwCl [(mo, .inr (6, [.ref sa, .ref be, .int (nI (mn kn)), .ref ke, .int (zB ik), .ref te, .int (nI ty)])), (sa, .inl (G 0, 117, .inl (enc n N Z tn po rd al k S (upd P tn (cap (P tn + (-am)))) V (updF (updF (updF (updF (updF (updF F k 0 (nI tn)) k 1 (nI L)) k 2 kd) k 3 am) k 4 (sL n N L)) k 5 (ovr n N L kd))))), (be, .inl (G 0, 468, .inl (bf (kB B kn (enc n N Z tn po rd al k S P V F))))), (ke, .inl (G 0, 117, .inl (enc nq Nq Zq tnq poq rdq alq kq Sq Pq Vq Fq))), (te, .inl (G 0, 60, .inl (ch t)))] _ := hP
    have hD : va_D A [(mo, .inr (6, [.ref sa, .ref be, .int (nI (mn kn)), .ref ke, .int (zB ik), .ref te, .int (nI ty)])), (sa, .inl (G 0, 117, .inl (enc n N Z tn po rd al k S (upd P tn (cap (P tn + (-am)))) V (updF (updF (updF (updF (updF (updF F k 0 (nI tn)) k 1 (nI L)) k 2 kd) k 3 am) k 4 (sL n N L)) k 5 (ovr n N L kd))))), (be, .inl (G 0, 468, .inl (bf (kB B kn (enc n N Z tn po rd al k S P V F))))), (ke, .inl (G 0, 117, .inl (enc nq Nq Zq tnq poq rdq alq kq Sq Pq Vq Fq))), (te, .inl (G 0, 60, .inl (ch t)))] := hD
    refine lv_aload_n hx hb dX6_stake_186 rfl (lv_at hl 1 rfl) ?_
    refine va_get (D := D) (ci := 6) (v := .ref sa) (C := RX6) (T := TX6) (N := 7) hx hb hts inX6 hown hK hP 0 rfl rfl 0 (by decide) k7 (fun _ h9 => h9) rfl dX6_stake_187 ?_
    refine lv_iload hx hb dX6_stake_190 (lv_at hl 0 rfl) ?_
    refine lv_bipush (v := nI 6) hx hb dX6_stake_192 (by decide +kernel) ?_
    refine cSr (As := [.int (nI k), .int (nI 6)]) (rest := [.ref sa]) ⟨hx, hb, hml, hown, hts⟩ hP hK hD hS hN hA (mX6_of l D G k 6 ) (cwS 2 hts gX6_stake_X6_of rfl rfl rfl (by decide +kernel) ⟨Nat.le_of_ble_eq_true rfl, Nat.le_of_ble_eq_true rfl⟩) [] rfl (by decide) rfl hl.1 rfl (Nat.le_of_ble_eq_true rfl) dX6_stake_194 ⟨Nat.zero_le _, Nat.zero_le _⟩ (fun H locs hP hS => ?_)
    refine lv_iload_n hx hb dX6_stake_197 rfl (lv_at hl 3 rfl) ?_
    refine lv_if_ne (tgt := 205) hx hb dX6_stake_198 (by decide)  (fun c8 => ?_) (fun c8 => ?_)
    · refine lv_aload_n hx hb dX6_stake_205 rfl (lv_at hl 1 rfl) ?_
      refine cVr (As := []) (rest := [.int (nI (47 + 7 * k + 6)), .ref sa]) ⟨hx, hb, hml, hown, hts⟩ hP hK hD hS hN hA (mX6_lines l D G mo sa be ke te (mn kn) ty ik n tn k N Z S (upd P tn (cap (P tn + (-am)))) V (updF (updF (updF (updF (updF (updF F k 0 (nI tn)) k 1 (nI L)) k 2 kd) k 3 am) k 4 (sL n N L)) k 5 (ovr n N L kd)) po rd al (by first | assumption | omega)) (cwV 0 hts gX6_stake_X6_lines rfl rfl rfl (by decide +kernel) ⟨Nat.le_of_ble_eq_true rfl, Nat.le_of_ble_eq_true rfl⟩) [0, 1] rfl (by decide) 0 6 rfl rfl rfl hl.1 rfl (Nat.le_of_ble_eq_true rfl) dX6_stake_206 ⟨Nat.zero_le _, Nat.zero_le _⟩ (fun H locs hP hS => ?_)
      refine rTop (show nI (2 * n + 2) = und n kd from by first | exact und_0 (by assumption) | exact und_1 (by assumption)) ?_
      refine rIast hx hb hK hP hD hS 1 rfl (47 + 7 * k + 6) (by omega) (by decide) dX6_stake_209 (fun H locs hP hD hS => ?_)
      obtain ⟨hP, hD⟩ := wI (g := enc n N Z tn po rd al k S (upd P tn (cap (P tn + (-am)))) V (updF (updF (updF (updF (updF (updF (updF F k 0 (nI tn)) k 1 (nI L)) k 2 kd) k 3 am) k 4 (sL n N L)) k 5 (ovr n N L kd)) k 6 (und n kd))) hP hD 1 rfl (enc_wF n N Z tn po rd al k S (upd P tn (cap (P tn + (-am)))) V (updF (updF (updF (updF (updF (updF F k 0 (nI tn)) k 1 (nI L)) k 2 kd) k 3 am) k 4 (sL n N L)) k 5 (ovr n N L kd)) k 6 (by omega) (by omega) (und n kd))
      replace hP : va_P D vwCl [(mo, .inr (6, [.ref sa, .ref be, .int (nI (mn kn)), .ref ke, .int (zB ik), .ref te, .int (nI ty)])), (sa, .inl (G 0, 117, .inl (enc n N Z tn po rd al k S (upd P tn (cap (P tn + (-am)))) V (updF (updF (updF (updF (updF (updF (updF F k 0 (nI tn)) k 1 (nI L)) k 2 kd) k 3 am) k 4 (sL n N L)) k 5 (ovr n N L kd)) k 6 (und n kd))))), (be, .inl (G 0, 468, .inl (bf (kB B kn (enc n N Z tn po rd al k S P V F))))), (ke, .inl (G 0, 117, .inl (enc nq Nq Zq tnq poq rdq alq kq Sq Pq Vq Fq))), (te, .inl (G 0, 60, .inl (ch t)))] _ := hP
      have hD : va_D A [(mo, .inr (6, [.ref sa, .ref be, .int (nI (mn kn)), .ref ke, .int (zB ik), .ref te, .int (nI ty)])), (sa, .inl (G 0, 117, .inl (enc n N Z tn po rd al k S (upd P tn (cap (P tn + (-am)))) V (updF (updF (updF (updF (updF (updF (updF F k 0 (nI tn)) k 1 (nI L)) k 2 kd) k 3 am) k 4 (sL n N L)) k 5 (ovr n N L kd)) k 6 (und n kd))))), (be, .inl (G 0, 468, .inl (bf (kB B kn (enc n N Z tn po rd al k S P V F))))), (ke, .inl (G 0, 117, .inl (enc nq Nq Zq tnq poq rdq alq kq Sq Pq Vq Fq))), (te, .inl (G 0, 60, .inl (ch t)))] := hD
      refine lv_aload_n hx hb dX6_stake_210 rfl (lv_at hl 1 rfl) ?_
      refine va_get (D := D) (ci := 6) (v := .ref sa) (C := RX6) (T := TX6) (N := 7) hx hb hts inX6 hown hK hP 0 rfl rfl 0 (by decide) k7 (fun _ h9 => h9) rfl dX6_stake_211 ?_
      refine lv_iconst (v := nI 5) hx hb dX6_stake_214 (by decide +kernel) ?_
      refine lv_dup2_11 hx hb dX6_stake_215 rfl rfl ?_
      refine rIald hx hb hK hP 1 rfl 5 (by omega) (by decide) dX6_stake_216 ?_
      refine rTop (show enc n N Z tn po rd al k S (upd P tn (cap (P tn + (-am)))) V (updF (updF (updF (updF (updF (updF (updF F k 0 (nI tn)) k 1 (nI L)) k 2 kd) k 3 am) k 4 (sL n N L)) k 5 (ovr n N L kd)) k 6 (und n kd)) 5 = nI k from rfl) ?_
      refine lv_iconst (v := nI 1) hx hb dX6_stake_217 (by decide +kernel) ?_
      refine lv_iadd hx hb dX6_stake_218 ?_
      refine rTop (show nI k + nI 1 = nI (k + 1) from nI_add k 1) ?_
      refine rIast hx hb hK hP hD hS 1 rfl 5 (by omega) (by decide) dX6_stake_219 (fun H locs hP hD hS => ?_)
      obtain ⟨hP, hD⟩ := wI (g := enc n N Z tn po rd al (k + 1) S (upd P tn (cap (P tn + (-am)))) V (updF (updF (updF (updF (updF (updF (updF F k 0 (nI tn)) k 1 (nI L)) k 2 kd) k 3 am) k 4 (sL n N L)) k 5 (ovr n N L kd)) k 6 (und n kd))) hP hD 1 rfl (enc_w5 n N Z tn po rd al k S (upd P tn (cap (P tn + (-am)))) V (updF (updF (updF (updF (updF (updF (updF F k 0 (nI tn)) k 1 (nI L)) k 2 kd) k 3 am) k 4 (sL n N L)) k 5 (ovr n N L kd)) k 6 (und n kd)) (k + 1))
      replace hP : va_P D vwCl [(mo, .inr (6, [.ref sa, .ref be, .int (nI (mn kn)), .ref ke, .int (zB ik), .ref te, .int (nI ty)])), (sa, .inl (G 0, 117, .inl (enc n N Z tn po rd al (k + 1) S (upd P tn (cap (P tn + (-am)))) V (updF (updF (updF (updF (updF (updF (updF F k 0 (nI tn)) k 1 (nI L)) k 2 kd) k 3 am) k 4 (sL n N L)) k 5 (ovr n N L kd)) k 6 (und n kd))))), (be, .inl (G 0, 468, .inl (bf (kB B kn (enc n N Z tn po rd al k S P V F))))), (ke, .inl (G 0, 117, .inl (enc nq Nq Zq tnq poq rdq alq kq Sq Pq Vq Fq))), (te, .inl (G 0, 60, .inl (ch t)))] _ := hP
      have hD : va_D A [(mo, .inr (6, [.ref sa, .ref be, .int (nI (mn kn)), .ref ke, .int (zB ik), .ref te, .int (nI ty)])), (sa, .inl (G 0, 117, .inl (enc n N Z tn po rd al (k + 1) S (upd P tn (cap (P tn + (-am)))) V (updF (updF (updF (updF (updF (updF (updF F k 0 (nI tn)) k 1 (nI L)) k 2 kd) k 3 am) k 4 (sL n N L)) k 5 (ovr n N L kd)) k 6 (und n kd))))), (be, .inl (G 0, 468, .inl (bf (kB B kn (enc n N Z tn po rd al k S P V F))))), (ke, .inl (G 0, 117, .inl (enc nq Nq Zq tnq poq rdq alq kq Sq Pq Vq Fq))), (te, .inl (G 0, 60, .inl (ch t)))] := hD
      refine lv_aload_n hx hb dX6_stake_220 rfl (lv_at hl 1 rfl) ?_
      refine va_get (D := D) (ci := 6) (v := .ref sa) (C := RX6) (T := TX6) (N := 7) hx hb hts inX6 hown hK hP 0 rfl rfl 0 (by decide) k7 (fun _ h9 => h9) rfl dX6_stake_221 ?_
      refine lv_iconst (v := nI 5) hx hb dX6_stake_224 (by decide +kernel) ?_
      refine rIald hx hb hK hP 1 rfl 5 (by omega) (by decide) dX6_stake_225 ?_
      refine rTop (show enc n N Z tn po rd al (k + 1) S (upd P tn (cap (P tn + (-am)))) V (updF (updF (updF (updF (updF (updF (updF F k 0 (nI tn)) k 1 (nI L)) k 2 kd) k 3 am) k 4 (sL n N L)) k 5 (ovr n N L kd)) k 6 (und n kd)) 5 = nI (k + 1) from rfl) ?_
      exact rIret hx hb hr hlk hP hK hD hS dX6_stake_226
    · refine lv_iconst (v := nI 4) hx hb dX6_stake_201 (by decide +kernel) ?_
      refine lv_goto (tgt := 209) hx hb dX6_stake_202 (by decide) ?_
      refine rTop (show nI 4 = und n kd from by first | exact und_0 (by assumption) | exact und_1 (by assumption)) ?_
      refine rIast hx hb hK hP hD hS 1 rfl (47 + 7 * k + 6) (by omega) (by decide) dX6_stake_209 (fun H locs hP hD hS => ?_)
      obtain ⟨hP, hD⟩ := wI (g := enc n N Z tn po rd al k S (upd P tn (cap (P tn + (-am)))) V (updF (updF (updF (updF (updF (updF (updF F k 0 (nI tn)) k 1 (nI L)) k 2 kd) k 3 am) k 4 (sL n N L)) k 5 (ovr n N L kd)) k 6 (und n kd))) hP hD 1 rfl (enc_wF n N Z tn po rd al k S (upd P tn (cap (P tn + (-am)))) V (updF (updF (updF (updF (updF (updF F k 0 (nI tn)) k 1 (nI L)) k 2 kd) k 3 am) k 4 (sL n N L)) k 5 (ovr n N L kd)) k 6 (by omega) (by omega) (und n kd))
      replace hP : va_P D vwCl [(mo, .inr (6, [.ref sa, .ref be, .int (nI (mn kn)), .ref ke, .int (zB ik), .ref te, .int (nI ty)])), (sa, .inl (G 0, 117, .inl (enc n N Z tn po rd al k S (upd P tn (cap (P tn + (-am)))) V (updF (updF (updF (updF (updF (updF (updF F k 0 (nI tn)) k 1 (nI L)) k 2 kd) k 3 am) k 4 (sL n N L)) k 5 (ovr n N L kd)) k 6 (und n kd))))), (be, .inl (G 0, 468, .inl (bf (kB B kn (enc n N Z tn po rd al k S P V F))))), (ke, .inl (G 0, 117, .inl (enc nq Nq Zq tnq poq rdq alq kq Sq Pq Vq Fq))), (te, .inl (G 0, 60, .inl (ch t)))] _ := hP
      have hD : va_D A [(mo, .inr (6, [.ref sa, .ref be, .int (nI (mn kn)), .ref ke, .int (zB ik), .ref te, .int (nI ty)])), (sa, .inl (G 0, 117, .inl (enc n N Z tn po rd al k S (upd P tn (cap (P tn + (-am)))) V (updF (updF (updF (updF (updF (updF (updF F k 0 (nI tn)) k 1 (nI L)) k 2 kd) k 3 am) k 4 (sL n N L)) k 5 (ovr n N L kd)) k 6 (und n kd))))), (be, .inl (G 0, 468, .inl (bf (kB B kn (enc n N Z tn po rd al k S P V F))))), (ke, .inl (G 0, 117, .inl (enc nq Nq Zq tnq poq rdq alq kq Sq Pq Vq Fq))), (te, .inl (G 0, 60, .inl (ch t)))] := hD
      refine lv_aload_n hx hb dX6_stake_210 rfl (lv_at hl 1 rfl) ?_
      refine va_get (D := D) (ci := 6) (v := .ref sa) (C := RX6) (T := TX6) (N := 7) hx hb hts inX6 hown hK hP 0 rfl rfl 0 (by decide) k7 (fun _ h9 => h9) rfl dX6_stake_211 ?_
      refine lv_iconst (v := nI 5) hx hb dX6_stake_214 (by decide +kernel) ?_
      refine lv_dup2_11 hx hb dX6_stake_215 rfl rfl ?_
      refine rIald hx hb hK hP 1 rfl 5 (by omega) (by decide) dX6_stake_216 ?_
      refine rTop (show enc n N Z tn po rd al k S (upd P tn (cap (P tn + (-am)))) V (updF (updF (updF (updF (updF (updF (updF F k 0 (nI tn)) k 1 (nI L)) k 2 kd) k 3 am) k 4 (sL n N L)) k 5 (ovr n N L kd)) k 6 (und n kd)) 5 = nI k from rfl) ?_
      refine lv_iconst (v := nI 1) hx hb dX6_stake_217 (by decide +kernel) ?_
      refine lv_iadd hx hb dX6_stake_218 ?_
      refine rTop (show nI k + nI 1 = nI (k + 1) from nI_add k 1) ?_
      refine rIast hx hb hK hP hD hS 1 rfl 5 (by omega) (by decide) dX6_stake_219 (fun H locs hP hD hS => ?_)
      obtain ⟨hP, hD⟩ := wI (g := enc n N Z tn po rd al (k + 1) S (upd P tn (cap (P tn + (-am)))) V (updF (updF (updF (updF (updF (updF (updF F k 0 (nI tn)) k 1 (nI L)) k 2 kd) k 3 am) k 4 (sL n N L)) k 5 (ovr n N L kd)) k 6 (und n kd))) hP hD 1 rfl (enc_w5 n N Z tn po rd al k S (upd P tn (cap (P tn + (-am)))) V (updF (updF (updF (updF (updF (updF (updF F k 0 (nI tn)) k 1 (nI L)) k 2 kd) k 3 am) k 4 (sL n N L)) k 5 (ovr n N L kd)) k 6 (und n kd)) (k + 1))
      replace hP : va_P D vwCl [(mo, .inr (6, [.ref sa, .ref be, .int (nI (mn kn)), .ref ke, .int (zB ik), .ref te, .int (nI ty)])), (sa, .inl (G 0, 117, .inl (enc n N Z tn po rd al (k + 1) S (upd P tn (cap (P tn + (-am)))) V (updF (updF (updF (updF (updF (updF (updF F k 0 (nI tn)) k 1 (nI L)) k 2 kd) k 3 am) k 4 (sL n N L)) k 5 (ovr n N L kd)) k 6 (und n kd))))), (be, .inl (G 0, 468, .inl (bf (kB B kn (enc n N Z tn po rd al k S P V F))))), (ke, .inl (G 0, 117, .inl (enc nq Nq Zq tnq poq rdq alq kq Sq Pq Vq Fq))), (te, .inl (G 0, 60, .inl (ch t)))] _ := hP
      have hD : va_D A [(mo, .inr (6, [.ref sa, .ref be, .int (nI (mn kn)), .ref ke, .int (zB ik), .ref te, .int (nI ty)])), (sa, .inl (G 0, 117, .inl (enc n N Z tn po rd al (k + 1) S (upd P tn (cap (P tn + (-am)))) V (updF (updF (updF (updF (updF (updF (updF F k 0 (nI tn)) k 1 (nI L)) k 2 kd) k 3 am) k 4 (sL n N L)) k 5 (ovr n N L kd)) k 6 (und n kd))))), (be, .inl (G 0, 468, .inl (bf (kB B kn (enc n N Z tn po rd al k S P V F))))), (ke, .inl (G 0, 117, .inl (enc nq Nq Zq tnq poq rdq alq kq Sq Pq Vq Fq))), (te, .inl (G 0, 60, .inl (ch t)))] := hD
      refine lv_aload_n hx hb dX6_stake_220 rfl (lv_at hl 1 rfl) ?_
      refine va_get (D := D) (ci := 6) (v := .ref sa) (C := RX6) (T := TX6) (N := 7) hx hb hts inX6 hown hK hP 0 rfl rfl 0 (by decide) k7 (fun _ h9 => h9) rfl dX6_stake_221 ?_
      refine lv_iconst (v := nI 5) hx hb dX6_stake_224 (by decide +kernel) ?_
      refine rIald hx hb hK hP 1 rfl 5 (by omega) (by decide) dX6_stake_225 ?_
      refine rTop (show enc n N Z tn po rd al (k + 1) S (upd P tn (cap (P tn + (-am)))) V (updF (updF (updF (updF (updF (updF (updF F k 0 (nI tn)) k 1 (nI L)) k 2 kd) k 3 am) k 4 (sL n N L)) k 5 (ovr n N L kd)) k 6 (und n kd)) 5 = nI (k + 1) from rfl) ?_
      exact rIret hx hb hr hlk hP hK hD hS dX6_stake_226
