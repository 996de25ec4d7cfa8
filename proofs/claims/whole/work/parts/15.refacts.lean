set_option maxHeartbeats 4000000 in
set_option maxRecDepth 100000 in
theorem mX6_lay_err (l : Launch) (D : va_G) (G : Nat → ClassId) (mo sa be ke te kn ty : Nat) (ik : Bool) (n tn k : Nat) (N Z S P V : Nat → Int32) (F : Nat → Nat → Int32) (po rd al : Int32) (B : Nat → Nat → Int32) (nq tnq kq : Nat) (Nq Zq Sq Pq Vq : Nat → Int32) (Fq : Nat → Nat → Int32) (poq rdq alq : Int32) (t : Nat → Nat) (x y : Int32) (hE : layOK x y = false) : CT l yX6_lay wsX6_lay 4 92 D G [.ref mo, .int x, .int y] [(mo, .inr (6, [.ref sa, .ref be, .int (nI kn), .ref ke, .int (zB ik), .ref te, .int (nI ty)])), (sa, .inl (G 0, 117, .inl (enc n N Z tn po rd al k S P V F))), (be, .inl (G 0, 468, .inl (bf B))), (ke, .inl (G 0, 117, .inl (enc nq Nq Zq tnq poq rdq alq kq Sq Pq Vq Fq))), (te, .inl (G 0, 60, .inl (ch t)))] [(mo, .inr (6, [.ref sa, .ref be, .int (nI kn), .ref ke, .int (zB ik), .ref te, .int (nI ty)])), (sa, .inl (G 0, 117, .inl (enc n N Z tn po rd al k S P V F))), (be, .inl (G 0, 468, .inl (bf B))), (ke, .inl (G 0, 117, .inl (enc nq Nq Zq tnq poq rdq alq kq Sq Pq Vq Fq))), (te, .inl (G 0, 60, .inl (ch t)))] (some (.int (-2))) := by
  refine CT.of (cc := cX6_lay) (maxL := 5) (ret := (some .int)) (by decide) rfl RX6 rfl (Nat.le_of_ble_eq_true rfl) (fun pp ee s mm bl me cc A ls hx hb hr hml hts hown hlk hnm hA hP hK hD hN hS hl => ?_)
  have hl : lv_has ls 5 [(0, .ref mo), (1, .int x), (2, .int y)] := hl
  have hP : va_P D vwCl [(mo, .inr (6, [.ref sa, .ref be, .int (nI kn), .ref ke, .int (zB ik), .ref te, .int (nI ty)])), (sa, .inl (G 0, 117, .inl (enc n N Z tn po rd al k S P V F))), (be, .inl (G 0, 468, .inl (bf B))), (ke, .inl (G 0, 117, .inl (enc nq Nq Zq tnq poq rdq alq kq Sq Pq Vq Fq))), (te, .inl (G 0, 60, .inl (ch t)))] s.heap := hP
  refine lv_iload_n hx hb dX6_lay_0 rfl (lv_at hl 1 rfl) ?_
  refine lv_iconst (v := nI 3) hx hb dX6_lay_1 (by decide +kernel) ?_
  refine lv_iconst (v := nI 4) hx hb dX6_lay_2 (by decide +kernel) ?_
  refine cSr (As := [.int x, .int (nI 3), .int (nI 4)]) (rest := []) ⟨hx, hb, hml, hown, hts⟩ hP hK hD hS hN hA (mX6_in l D G x (nI 3) (nI 4) ) (cwS 3 hts gX6_lay_X6_in rfl rfl rfl (by decide +kernel) ⟨Nat.le_of_ble_eq_true rfl, Nat.le_of_ble_eq_true rfl⟩) [] rfl (by decide) rfl hl.1 rfl (Nat.le_of_ble_eq_true rfl) dX6_lay_3 ⟨Nat.zero_le _, Nat.zero_le _⟩ (fun H locs hP hS => ?_)
  refine zEq (tgt := 20) hx hb dX6_lay_6 (by decide)  (fun c1 => ?_) (fun c1 => ?_)
  · refine lv_bipush (v := -2) hx hb dX6_lay_20 (by decide +kernel) ?_
    refine rTop (show (-2) = -2 from rfl) ?_
    exact rIret hx hb hr hlk hP hK hD hS dX6_lay_22
  · refine lv_iload_n hx hb dX6_lay_9 rfl (lv_at hl 2 rfl) ?_
    refine lv_iconst (v := nI 0) hx hb dX6_lay_10 (by decide +kernel) ?_
    refine lv_sipush (v := nI 9999) hx hb dX6_lay_11 (by decide +kernel) ?_
    refine cSr (As := [.int y, .int (nI 0), .int (nI 9999)]) (rest := []) ⟨hx, hb, hml, hown, hts⟩ hP hK hD hS hN hA (mX6_in l D G y (nI 0) (nI 9999) ) (cwS 3 hts gX6_lay_X6_in rfl rfl rfl (by decide +kernel) ⟨Nat.le_of_ble_eq_true rfl, Nat.le_of_ble_eq_true rfl⟩) [] rfl (by decide) rfl hl.1 rfl (Nat.le_of_ble_eq_true rfl) dX6_lay_14 ⟨Nat.zero_le _, Nat.zero_le _⟩ (fun H locs hP hS => ?_)
    refine zNe (tgt := 23) hx hb dX6_lay_17 (by decide)  (fun c2 => absurd ((layOK_rg.trans (by rw [show rg x (nI 3) (nI 4) = true by assumption, c2])).symm.trans hE) (by decide)) (fun c2 => ?_)
    refine lv_bipush (v := -2) hx hb dX6_lay_20 (by decide +kernel) ?_
    refine rTop (show (-2) = -2 from rfl) ?_
    exact rIret hx hb hr hlk hP hK hD hS dX6_lay_22

set_option maxHeartbeats 4000000 in
set_option maxRecDepth 100000 in
theorem mX6_lay_ok (l : Launch) (D : va_G) (G : Nat → ClassId) (mo sa be ke te kn ty : Nat) (ik : Bool) (n tn k : Nat) (N Z S P V : Nat → Int32) (F : Nat → Nat → Int32) (po rd al : Int32) (B : Nat → Nat → Int32) (nq tnq kq : Nat) (Nq Zq Sq Pq Vq : Nat → Int32) (Fq : Nat → Nat → Int32) (poq rdq alq : Int32) (t : Nat → Nat) (v sd : Nat) (hkn : kn ≤ 4) (hk : k ≤ 10) (hv : v = 3 ∨ v = 4) (hsd : sd < 10000) : CT l yX6_lay wsX6_lay 4 92 D G [.ref mo, .int (nI v), .int (nI sd)] [(mo, .inr (6, [.ref sa, .ref be, .int (nI kn), .ref ke, .int (zB ik), .ref te, .int (nI ty)])), (sa, .inl (G 0, 117, .inl (enc n N Z tn po rd al k S P V F))), (be, .inl (G 0, 468, .inl (bf B))), (ke, .inl (G 0, 117, .inl (enc nq Nq Zq tnq poq rdq alq kq Sq Pq Vq Fq))), (te, .inl (G 0, 60, .inl (ch t)))] [(mo, .inr (6, [.ref sa, .ref be, .int (nI (mn kn)), .ref ke, .int (zB ik), .ref te, .int (nI ty)])), (sa, .inl (G 0, 117, .inl (enc v (shN v sd (fst_ ord N (v * v)) (v * v - 1)) zr tn (po + aa F k) (nI 0) al 0 S P V F))), (be, .inl (G 0, 468, .inl (bf (kB B kn (enc n N Z tn po rd al k S P V F))))), (ke, .inl (G 0, 117, .inl (enc nq Nq Zq tnq poq rdq alq kq Sq Pq Vq Fq))), (te, .inl (G 0, 60, .inl (ch t)))] (some (.int (wof v (shN v sd (fst_ ord N (v * v)) (v * v - 1))))) := by
  refine CT.of (cc := cX6_lay) (maxL := 5) (ret := (some .int)) (by decide) rfl RX6 rfl (Nat.le_of_ble_eq_true rfl) (fun pp ee s mm bl me cc A ls hx hb hr hml hts hown hlk hnm hA hP hK hD hN hS hl => ?_)
  have hl : lv_has ls 5 [(0, .ref mo), (1, .int (nI v)), (2, .int (nI sd))] := hl
  have hP : va_P D vwCl [(mo, .inr (6, [.ref sa, .ref be, .int (nI kn), .ref ke, .int (zB ik), .ref te, .int (nI ty)])), (sa, .inl (G 0, 117, .inl (enc n N Z tn po rd al k S P V F))), (be, .inl (G 0, 468, .inl (bf B))), (ke, .inl (G 0, 117, .inl (enc nq Nq Zq tnq poq rdq alq kq Sq Pq Vq Fq))), (te, .inl (G 0, 60, .inl (ch t)))] s.heap := hP
  have hq9 : v * v < 17 ∧ 0 < v * v := by rcases hv with rfl | rfl <;> decide
  refine lv_iload_n hx hb dX6_lay_0 rfl (lv_at hl 1 rfl) ?_
  refine lv_iconst (v := nI 3) hx hb dX6_lay_1 (by decide +kernel) ?_
  refine lv_iconst (v := nI 4) hx hb dX6_lay_2 (by decide +kernel) ?_
  refine cSr (As := [.int (nI v), .int (nI 3), .int (nI 4)]) (rest := []) ⟨hx, hb, hml, hown, hts⟩ hP hK hD hS hN hA (mX6_in l D G (nI v) (nI 3) (nI 4) ) (cwS 3 hts gX6_lay_X6_in rfl rfl rfl (by decide +kernel) ⟨Nat.le_of_ble_eq_true rfl, Nat.le_of_ble_eq_true rfl⟩) [] rfl (by decide) rfl hl.1 rfl (Nat.le_of_ble_eq_true rfl) dX6_lay_3 ⟨Nat.zero_le _, Nat.zero_le _⟩ (fun H locs hP hS => ?_)
  refine zEq (tgt := 20) hx hb dX6_lay_6 (by decide)  (fun c1 => absurd (c1) (by rw [rg_n (by omega) (by omega) (by omega), decide_eq_true (by omega)]; decide)) (fun c1 => ?_)
  refine lv_iload_n hx hb dX6_lay_9 rfl (lv_at hl 2 rfl) ?_
  refine lv_iconst (v := nI 0) hx hb dX6_lay_10 (by decide +kernel) ?_
  refine lv_sipush (v := nI 9999) hx hb dX6_lay_11 (by decide +kernel) ?_
  refine cSr (As := [.int (nI sd), .int (nI 0), .int (nI 9999)]) (rest := []) ⟨hx, hb, hml, hown, hts⟩ hP hK hD hS hN hA (mX6_in l D G (nI sd) (nI 0) (nI 9999) ) (cwS 3 hts gX6_lay_X6_in rfl rfl rfl (by decide +kernel) ⟨Nat.le_of_ble_eq_true rfl, Nat.le_of_ble_eq_true rfl⟩) [] rfl (by decide) rfl hl.1 rfl (Nat.le_of_ble_eq_true rfl) dX6_lay_14 ⟨Nat.zero_le _, Nat.zero_le _⟩ (fun H locs hP hS => ?_)
  refine zNe (tgt := 23) hx hb dX6_lay_17 (by decide)  (fun c2 => ?_) (fun c2 => absurd (c2) (by rw [rg_n (by omega) (by omega) (by omega), decide_eq_true (by omega)]; decide))
  refine lv_aload_n hx hb dX6_lay_23 rfl (lv_at hl 0 rfl) ?_
  refine cV (As := []) (rest := []) ⟨hx, hb, hml, hown, hts⟩ hP hK hD hS hN hA (mX6_know l D G mo sa be ke te kn ty ik n tn k N Z S P V F po rd al B (by first | assumption | omega)) (cwV 0 hts gX6_lay_X6_know rfl rfl rfl (by decide +kernel) ⟨Nat.le_of_ble_eq_true rfl, Nat.le_of_ble_eq_true rfl⟩) [0, 1, 2] rfl (by decide) (Eq.trans (b := [mo, sa, be]) rfl rfl) 0 6 rfl rfl rfl hl.1 rfl (Nat.le_of_ble_eq_true rfl) dX6_lay_24 ⟨Nat.zero_le _, Nat.zero_le _⟩ (fun H locs hP hD hS => ?_)
  have hP : va_P D vwCl [(mo, .inr (6, [.ref sa, .ref be, .int (nI (mn kn)), .ref ke, .int (zB ik), .ref te, .int (nI ty)])), (sa, .inl (G 0, 117, .inl (enc n N Z tn po rd al k S P V F))), (be, .inl (G 0, 468, .inl (bf (kB B kn (enc n N Z tn po rd al k S P V F))))), (ke, .inl (G 0, 117, .inl (enc nq Nq Zq tnq poq rdq alq kq Sq Pq Vq Fq))), (te, .inl (G 0, 60, .inl (ch t)))] H := hP
  have hD : va_D A [(mo, .inr (6, [.ref sa, .ref be, .int (nI (mn kn)), .ref ke, .int (zB ik), .ref te, .int (nI ty)])), (sa, .inl (G 0, 117, .inl (enc n N Z tn po rd al k S P V F))), (be, .inl (G 0, 468, .inl (bf (kB B kn (enc n N Z tn po rd al k S P V F))))), (ke, .inl (G 0, 117, .inl (enc nq Nq Zq tnq poq rdq alq kq Sq Pq Vq Fq))), (te, .inl (G 0, 60, .inl (ch t)))] := hD
  refine lv_aload_n hx hb dX6_lay_27 rfl (lv_at hl 0 rfl) ?_
  refine cV (As := []) (rest := []) ⟨hx, hb, hml, hown, hts⟩ hP hK hD hS hN hA (mX6_clear l D G mo sa be ke te (mn kn) ty ik n tn k N Z S P V F po rd al (by first | assumption | omega)) (cwV 0 hts gX6_lay_X6_clear rfl rfl rfl (by decide +kernel) ⟨Nat.le_of_ble_eq_true rfl, Nat.le_of_ble_eq_true rfl⟩) [0, 1] rfl (by decide) (Eq.trans (b := [mo, sa]) rfl rfl) 0 6 rfl rfl rfl hl.1 rfl (Nat.le_of_ble_eq_true rfl) dX6_lay_28 ⟨Nat.zero_le _, Nat.zero_le _⟩ (fun H locs hP hD hS => ?_)
  have hP : va_P D vwCl [(mo, .inr (6, [.ref sa, .ref be, .int (nI (mn kn)), .ref ke, .int (zB ik), .ref te, .int (nI ty)])), (sa, .inl (G 0, 117, .inl (enc n N zr tn (po + aa F k) (nI 0) al 0 S P V F))), (be, .inl (G 0, 468, .inl (bf (kB B kn (enc n N Z tn po rd al k S P V F))))), (ke, .inl (G 0, 117, .inl (enc nq Nq Zq tnq poq rdq alq kq Sq Pq Vq Fq))), (te, .inl (G 0, 60, .inl (ch t)))] H := hP
  have hD : va_D A [(mo, .inr (6, [.ref sa, .ref be, .int (nI (mn kn)), .ref ke, .int (zB ik), .ref te, .int (nI ty)])), (sa, .inl (G 0, 117, .inl (enc n N zr tn (po + aa F k) (nI 0) al 0 S P V F))), (be, .inl (G 0, 468, .inl (bf (kB B kn (enc n N Z tn po rd al k S P V F))))), (ke, .inl (G 0, 117, .inl (enc nq Nq Zq tnq poq rdq alq kq Sq Pq Vq Fq))), (te, .inl (G 0, 60, .inl (ch t)))] := hD
  refine lv_aload_n hx hb dX6_lay_31 rfl (lv_at hl 0 rfl) ?_
  refine lv_iload_n hx hb dX6_lay_32 rfl (lv_at hl 1 rfl) ?_
  refine cV (As := [.int (nI v)]) (rest := []) ⟨hx, hb, hml, hown, hts⟩ hP hK hD hS hN hA (mX6_order l D G mo sa be ke te (mn kn) ty ik n tn 0 N zr S P V F (po + aa F k) (nI 0) al v (by first | assumption | omega)) (cwV 1 hts gX6_lay_X6_order rfl rfl rfl (by decide +kernel) ⟨Nat.le_of_ble_eq_true rfl, Nat.le_of_ble_eq_true rfl⟩) [0, 1] rfl (by decide) (Eq.trans (b := [mo, sa]) rfl rfl) 0 6 rfl rfl rfl hl.1 rfl (Nat.le_of_ble_eq_true rfl) dX6_lay_33 ⟨Nat.zero_le _, Nat.zero_le _⟩ (fun H locs hP hD hS => ?_)
  have hP : va_P D vwCl [(mo, .inr (6, [.ref sa, .ref be, .int (nI (mn kn)), .ref ke, .int (zB ik), .ref te, .int (nI ty)])), (sa, .inl (G 0, 117, .inl (enc v (fst_ ord N (v * v)) zr tn (po + aa F k) (nI 0) al 0 S P V F))), (be, .inl (G 0, 468, .inl (bf (kB B kn (enc n N Z tn po rd al k S P V F))))), (ke, .inl (G 0, 117, .inl (enc nq Nq Zq tnq poq rdq alq kq Sq Pq Vq Fq))), (te, .inl (G 0, 60, .inl (ch t)))] H := hP
  have hD : va_D A [(mo, .inr (6, [.ref sa, .ref be, .int (nI (mn kn)), .ref ke, .int (zB ik), .ref te, .int (nI ty)])), (sa, .inl (G 0, 117, .inl (enc v (fst_ ord N (v * v)) zr tn (po + aa F k) (nI 0) al 0 S P V F))), (be, .inl (G 0, 468, .inl (bf (kB B kn (enc n N Z tn po rd al k S P V F))))), (ke, .inl (G 0, 117, .inl (enc nq Nq Zq tnq poq rdq alq kq Sq Pq Vq Fq))), (te, .inl (G 0, 60, .inl (ch t)))] := hD
  refine lv_iload_n hx hb dX6_lay_36 rfl (lv_at hl 2 rfl) ?_
  refine lv_istore_n (lv' := [(3, .int (nI sd)), (0, .ref mo), (1, .int (nI v)), (2, .int (nI sd))]) hx hb dX6_lay_37 rfl hl (by decide) rfl (fun ls hl => ?_)
  refine lv_aload_n hx hb dX6_lay_38 rfl (lv_at hl 1 rfl) ?_
  refine cVr (As := []) (rest := []) ⟨hx, hb, hml, hown, hts⟩ hP hK hD hS hN hA (mX6_cells l D G mo sa be ke te (mn kn) ty ik v tn 0 (fst_ ord N (v * v)) zr S P V F (po + aa F k) (nI 0) al (by first | assumption | omega)) (cwV 0 hts gX6_lay_X6_cells rfl rfl rfl (by decide +kernel) ⟨Nat.le_of_ble_eq_true rfl, Nat.le_of_ble_eq_true rfl⟩) [0, 1] rfl (by decide) 0 6 rfl rfl rfl hl.1 rfl (Nat.le_of_ble_eq_true rfl) dX6_lay_39 ⟨Nat.zero_le _, Nat.zero_le _⟩ (fun H locs hP hS => ?_)
  refine lv_iconst (v := nI 1) hx hb dX6_lay_42 (by decide +kernel) ?_
  refine lv_isub hx hb dX6_lay_43 ?_
  refine rTop (show nI (v * v) - nI 1 = nI (v * v - 1) from pk_sub (by omega)) ?_
  refine lv_istore (lv' := [(4, .int (nI (v * v - 1))), (3, .int (nI sd)), (0, .ref mo), (1, .int (nI v)), (2, .int (nI sd))]) hx hb dX6_lay_44 hl (by decide) rfl (fun ls hl => ?_)
  have LP46 : ∀ (nn46 c_ : Nat), c_ ≤ (v * v - 1) → (v * v - 1) < c_ + nn46  → ∀ (H : Heap) (locs : List Loc), va_P D vwCl [(mo, .inr (6, [.ref sa, .ref be, .int (nI (mn kn)), .ref ke, .int (zB ik), .ref te, .int (nI ty)])), (sa, .inl (G 0, 117, .inl (enc v (shN v sd (fst_ ord N (v * v)) c_) zr tn (po + aa F k) (nI 0) al 0 S P V F))), (be, .inl (G 0, 468, .inl (bf (kB B kn (enc n N Z tn po rd al k S P V F))))), (ke, .inl (G 0, 117, .inl (enc nq Nq Zq tnq poq rdq alq kq Sq Pq Vq Fq))), (te, .inl (G 0, 60, .inl (ch t)))] H → va_D A [(mo, .inr (6, [.ref sa, .ref be, .int (nI (mn kn)), .ref ke, .int (zB ik), .ref te, .int (nI ty)])), (sa, .inl (G 0, 117, .inl (enc v (shN v sd (fst_ ord N (v * v)) c_) zr tn (po + aa F k) (nI 0) al 0 S P V F))), (be, .inl (G 0, 468, .inl (bf (kB B kn (enc n N Z tn po rd al k S P V F))))), (ke, .inl (G 0, 117, .inl (enc nq Nq Zq tnq poq rdq alq kq Sq Pq Vq Fq))), (te, .inl (G 0, 60, .inl (ch t)))] → va_S A s.heap H locs → ∀ ls : Array Slot, lv_has ls 5 [(3, .int (nI (rl sd c_))), (4, .int (nI (v * v - 1 - c_))), (0, .ref mo), (1, .int (nI v)), (2, .int (nI sd))] → W pp l ee (rmA 4 92) s mm ([.ref mo, .int (nI v), .int (nI sd)] : List Value).toArray bl me cc H locs 0 0 (MQ bl (Qres (some (.int (wof v (shN v sd (fst_ ord N (v * v)) (v * v - 1))))) D G [(mo, .inr (6, [.ref sa, .ref be, .int (nI (mn kn)), .ref ke, .int (zB ik), .ref te, .int (nI ty)])), (sa, .inl (G 0, 117, .inl (enc v (shN v sd (fst_ ord N (v * v)) (v * v - 1)) zr tn (po + aa F k) (nI 0) al 0 S P V F))), (be, .inl (G 0, 468, .inl (bf (kB B kn (enc n N Z tn po rd al k S P V F))))), (ke, .inl (G 0, 117, .inl (enc nq Nq Zq tnq poq rdq alq kq Sq Pq Vq Fq))), (te, .inl (G 0, 60, .inl (ch t)))] A) ([.ref mo, .int (nI v), .int (nI sd)] : List Value).toArray s 0 0 A) (F0 mm 46 ls []) := by
    intro nn46
    induction nn46 with
    | zero => intro c_ h1 h2; exact absurd h2 (by omega)
    | succ nn46 ih46 =>
      intro c_ hkc_ hnc_  H locs hP hD hS ls hl
      refine lv_iload hx hb dX6_lay_46 (lv_at hl 1 rfl) ?_
      refine iLe (tgt := 83) hx hb dX6_lay_48 (by decide) (by omega) (fun c3 => ?_) (fun c3 => ?_)
      · obtain rfl : v * v - 1 = c_ := by omega
        refine lv_aload_n hx hb dX6_lay_83 rfl (lv_at hl 2 rfl) ?_
        refine cVr (As := []) (rest := []) ⟨hx, hb, hml, hown, hts⟩ hP hK hD hS hN hA (mX6_wayOff l D G mo sa be ke te (mn kn) ty ik v tn 0 (shN v sd (fst_ ord N (v * v)) (v * v - 1)) zr S P V F (po + aa F k) (nI 0) al (by first | assumption | omega)) (cwV 0 hts gX6_lay_X6_wayOff rfl rfl rfl (by decide +kernel) ⟨Nat.le_of_ble_eq_true rfl, Nat.le_of_ble_eq_true rfl⟩) [0, 1] rfl (by decide) 0 6 rfl rfl rfl hl.1 rfl (Nat.le_of_ble_eq_true rfl) dX6_lay_84 ⟨Nat.zero_le _, Nat.zero_le _⟩ (fun H locs hP hS => ?_)
        exact rIret hx hb hr hlk hP hK hD hS dX6_lay_87
      · have hrl := rl_lt hsd c_
        refine lv_sipush (v := nI 421) hx hb dX6_lay_51 (by decide +kernel) ?_
        refine lv_iload_n hx hb dX6_lay_54 rfl (lv_at hl 0 rfl) ?_
        refine lv_imul hx hb dX6_lay_55 ?_
        refine rTop (show nI 421 * nI (rl sd c_) = nI (421 * (rl sd c_)) from pk_mul 421 (rl sd c_)) ?_
        refine lv_sipush (v := nI 1663) hx hb dX6_lay_56 (by decide +kernel) ?_
        refine lv_iadd hx hb dX6_lay_59 ?_
        refine rTop (show nI (421 * (rl sd c_)) + nI 1663 = nI (421 * (rl sd c_) + 1663) from nI_add (421 * (rl sd c_)) 1663) ?_
        refine lv_sipush (v := nI 10000) hx hb dX6_lay_60 (by decide +kernel) ?_
        refine lv_irem hx hb dX6_lay_63 (nI_ne0 (by omega) (by omega)) ?_
        refine rTop (pk_rem (a := 421 * (rl sd c_) + 1663) (d := 10000) (by omega) (by omega) (by omega)) ?_
        refine rTop (show nI ((421 * (rl sd c_) + 1663) % 10000) = nI (rl sd (c_ + 1)) from rfl) ?_
        have hrl2 := rl_lt hsd (c_ + 1)
        refine lv_istore_n (lv' := [(3, .int (nI (rl sd (c_ + 1)))), (4, .int (nI (v * v - 1 - c_))), (0, .ref mo), (1, .int (nI v)), (2, .int (nI sd))]) hx hb dX6_lay_64 rfl hl (by decide) rfl (fun ls hl => ?_)
        refine lv_aload_n hx hb dX6_lay_65 rfl (lv_at hl 2 rfl) ?_
        refine lv_iload hx hb dX6_lay_66 (lv_at hl 1 rfl) ?_
        refine lv_iload_n hx hb dX6_lay_68 rfl (lv_at hl 0 rfl) ?_
        refine lv_iload hx hb dX6_lay_69 (lv_at hl 1 rfl) ?_
        refine lv_iconst (v := nI 1) hx hb dX6_lay_71 (by decide +kernel) ?_
        refine lv_iadd hx hb dX6_lay_72 ?_
        refine rTop (show nI (v * v - 1 - c_) + nI 1 = nI (v * v - 1 - c_ + 1) from nI_add (v * v - 1 - c_) 1) ?_
        refine lv_irem hx hb dX6_lay_73 (nI_ne0 (by omega) (by omega)) ?_
        refine rTop (pk_rem (a := rl sd (c_ + 1)) (d := v * v - 1 - c_ + 1) (by omega) (by omega) (by omega)) ?_
        have hm := Nat.mod_lt (rl sd (c_ + 1)) (show 0 < v * v - 1 - c_ + 1 by omega)
        refine cV (As := [.int (nI (v * v - 1 - c_)), .int (nI ((rl sd (c_ + 1)) % (v * v - 1 - c_ + 1)))]) (rest := []) ⟨hx, hb, hml, hown, hts⟩ hP hK hD hS hN hA (mX6_exchange l D G mo sa be ke te (mn kn) ty ik v tn 0 (shN v sd (fst_ ord N (v * v)) c_) zr S P V F (po + aa F k) (nI 0) al (v * v - 1 - c_) ((rl sd (c_ + 1)) % (v * v - 1 - c_ + 1)) (by first | assumption | omega) (by first | assumption | omega)) (cwV 2 hts gX6_lay_X6_exchange rfl rfl rfl (by decide +kernel) ⟨Nat.le_of_ble_eq_true rfl, Nat.le_of_ble_eq_true rfl⟩) [0, 1] rfl (by decide) (Eq.trans (b := [mo, sa]) rfl rfl) 0 6 rfl rfl rfl hl.1 rfl (Nat.le_of_ble_eq_true rfl) dX6_lay_74 ⟨Nat.zero_le _, Nat.zero_le _⟩ (fun H locs hP hD hS => ?_)
        have hP : va_P D vwCl [(mo, .inr (6, [.ref sa, .ref be, .int (nI (mn kn)), .ref ke, .int (zB ik), .ref te, .int (nI ty)])), (sa, .inl (G 0, 117, .inl (enc v (ex (shN v sd (fst_ ord N (v * v)) c_) (v * v - 1 - c_) ((rl sd (c_ + 1)) % (v * v - 1 - c_ + 1))) zr tn (po + aa F k) (nI 0) al 0 S P V F))), (be, .inl (G 0, 468, .inl (bf (kB B kn (enc n N Z tn po rd al k S P V F))))), (ke, .inl (G 0, 117, .inl (enc nq Nq Zq tnq poq rdq alq kq Sq Pq Vq Fq))), (te, .inl (G 0, 60, .inl (ch t)))] H := hP
        have hD : va_D A [(mo, .inr (6, [.ref sa, .ref be, .int (nI (mn kn)), .ref ke, .int (zB ik), .ref te, .int (nI ty)])), (sa, .inl (G 0, 117, .inl (enc v (ex (shN v sd (fst_ ord N (v * v)) c_) (v * v - 1 - c_) ((rl sd (c_ + 1)) % (v * v - 1 - c_ + 1))) zr tn (po + aa F k) (nI 0) al 0 S P V F))), (be, .inl (G 0, 468, .inl (bf (kB B kn (enc n N Z tn po rd al k S P V F))))), (ke, .inl (G 0, 117, .inl (enc nq Nq Zq tnq poq rdq alq kq Sq Pq Vq Fq))), (te, .inl (G 0, 60, .inl (ch t)))] := hD
        refine lv_iinc (v := nI (v * v - 1 - c_ - 1)) (lv' := [(4, .int (nI (v * v - 1 - c_ - 1))), (3, .int (nI (rl sd (c_ + 1)))), (0, .ref mo), (1, .int (nI v)), (2, .int (nI sd))]) hx hb dX6_lay_77 hl (k := 1) rfl (nI_dec (by omega)) (by decide) rfl (fun ls hl => ?_)
        rw [show nI (v * v - 1 - c_ - 1) = nI (v * v - 1 - (c_ + 1)) from by rw [show v * v - 1 - c_ - 1 = v * v - 1 - (c_ + 1) by omega]] at hl
        refine lv_goto (tgt := 46) hx hb dX6_lay_80 (by decide) ?_
        obtain ⟨hP, hD⟩ := wI (g := enc v (shN v sd (fst_ ord N (v * v)) (c_ + 1)) zr tn (po + aa F k) (nI 0) al 0 S P V F) hP hD 1 rfl (fun j hj => rfl)
        replace hP : va_P D vwCl [(mo, .inr (6, [.ref sa, .ref be, .int (nI (mn kn)), .ref ke, .int (zB ik), .ref te, .int (nI ty)])), (sa, .inl (G 0, 117, .inl (enc v (shN v sd (fst_ ord N (v * v)) (c_ + 1)) zr tn (po + aa F k) (nI 0) al 0 S P V F))), (be, .inl (G 0, 468, .inl (bf (kB B kn (enc n N Z tn po rd al k S P V F))))), (ke, .inl (G 0, 117, .inl (enc nq Nq Zq tnq poq rdq alq kq Sq Pq Vq Fq))), (te, .inl (G 0, 60, .inl (ch t)))] _ := hP
        have hD : va_D A [(mo, .inr (6, [.ref sa, .ref be, .int (nI (mn kn)), .ref ke, .int (zB ik), .ref te, .int (nI ty)])), (sa, .inl (G 0, 117, .inl (enc v (shN v sd (fst_ ord N (v * v)) (c_ + 1)) zr tn (po + aa F k) (nI 0) al 0 S P V F))), (be, .inl (G 0, 468, .inl (bf (kB B kn (enc n N Z tn po rd al k S P V F))))), (ke, .inl (G 0, 117, .inl (enc nq Nq Zq tnq poq rdq alq kq Sq Pq Vq Fq))), (te, .inl (G 0, 60, .inl (ch t)))] := hD
        exact ih46 (c_ + 1) (by omega) (by omega)  _ _ hP hD hS _ (lv_sub hl [1, 0, 2, 3, 4] rfl)
  obtain ⟨hP, hD⟩ := wI (g := enc v (shN v sd (fst_ ord N (v * v)) 0) zr tn (po + aa F k) (nI 0) al 0 S P V F) hP hD 1 rfl (fun j hj => rfl)
  replace hP : va_P D vwCl [(mo, .inr (6, [.ref sa, .ref be, .int (nI (mn kn)), .ref ke, .int (zB ik), .ref te, .int (nI ty)])), (sa, .inl (G 0, 117, .inl (enc v (shN v sd (fst_ ord N (v * v)) 0) zr tn (po + aa F k) (nI 0) al 0 S P V F))), (be, .inl (G 0, 468, .inl (bf (kB B kn (enc n N Z tn po rd al k S P V F))))), (ke, .inl (G 0, 117, .inl (enc nq Nq Zq tnq poq rdq alq kq Sq Pq Vq Fq))), (te, .inl (G 0, 60, .inl (ch t)))] _ := hP
  have hD : va_D A [(mo, .inr (6, [.ref sa, .ref be, .int (nI (mn kn)), .ref ke, .int (zB ik), .ref te, .int (nI ty)])), (sa, .inl (G 0, 117, .inl (enc v (shN v sd (fst_ ord N (v * v)) 0) zr tn (po + aa F k) (nI 0) al 0 S P V F))), (be, .inl (G 0, 468, .inl (bf (kB B kn (enc n N Z tn po rd al k S P V F))))), (ke, .inl (G 0, 117, .inl (enc nq Nq Zq tnq poq rdq alq kq Sq Pq Vq Fq))), (te, .inl (G 0, 60, .inl (ch t)))] := hD
  exact LP46 (v * v - 1 + 1 - 0) 0 (by omega) (by omega)  _ _ hP hD hS _ (lv_sub hl [1, 0, 2, 3, 4] rfl)

set_option maxHeartbeats 4000000 in
set_option maxRecDepth 100000 in
theorem mX6_textFault_z (l : Launch) (D : va_G) (G : Nat → ClassId) (mo sa be ke te kn ty : Nat) (ik : Bool) (n tn k : Nat) (N Z S P V : Nat → Int32) (F : Nat → Nat → Int32) (po rd al : Int32) (B : Nat → Nat → Int32) (nq tnq kq : Nat) (Nq Zq Sq Pq Vq : Nat → Int32) (Fq : Nat → Nat → Int32) (poq rdq alq : Int32) (t : Nat → Nat) (h0 : ty = 0) : CT l yX6_textFault wsX6_textFault 1 22 D G [.ref mo] [(mo, .inr (6, [.ref sa, .ref be, .int (nI kn), .ref ke, .int (zB ik), .ref te, .int (nI ty)])), (sa, .inl (G 0, 117, .inl (enc n N Z tn po rd al k S P V F))), (be, .inl (G 0, 468, .inl (bf B))), (ke, .inl (G 0, 117, .inl (enc nq Nq Zq tnq poq rdq alq kq Sq Pq Vq Fq))), (te, .inl (G 0, 60, .inl (ch t)))] [(mo, .inr (6, [.ref sa, .ref be, .int (nI kn), .ref ke, .int (zB ik), .ref te, .int (nI ty)])), (sa, .inl (G 0, 117, .inl (enc n N Z tn po rd al k S P V F))), (be, .inl (G 0, 468, .inl (bf B))), (ke, .inl (G 0, 117, .inl (enc nq Nq Zq tnq poq rdq alq kq Sq Pq Vq Fq))), (te, .inl (G 0, 60, .inl (ch t)))] (some (.int (tfR t ty))) := by
  refine CT.of (cc := cX6_textFault) (maxL := 7) (ret := (some .int)) (by decide) rfl RX6 rfl (Nat.le_of_ble_eq_true rfl) (fun pp ee s mm bl me cc A ls hx hb hr hml hts hown hlk hnm hA hP hK hD hN hS hl => ?_)
  have hl : lv_has ls 7 [(0, .ref mo)] := hl
  have hP : va_P D vwCl [(mo, .inr (6, [.ref sa, .ref be, .int (nI kn), .ref ke, .int (zB ik), .ref te, .int (nI ty)])), (sa, .inl (G 0, 117, .inl (enc n N Z tn po rd al k S P V F))), (be, .inl (G 0, 468, .inl (bf B))), (ke, .inl (G 0, 117, .inl (enc nq Nq Zq tnq poq rdq alq kq Sq Pq Vq Fq))), (te, .inl (G 0, 60, .inl (ch t)))] s.heap := hP
  have inX6 : ∀ w ∈ wsX60, w ∈ wsX6_textFault := fun w h => List.mem_cons_of_mem _ (List.mem_append_right _ h)
  have k90 := hts (.fieldLink RX6 90 "SquareStakesModel" "typed" "I") (List.mem_of_getElem? (i := 1) rfl)
  refine lv_aload_n hx hb dX6_textFault_0 rfl (lv_at hl 0 rfl) ?_
  refine va_get (D := D) (ci := 6) (v := .int (nI ty)) (C := RX6) (T := TX6) (N := 7) hx hb hts inX6 hown hK hP 0 rfl rfl 6 (by decide) k90 (fun _ h9 => h9) rfl dX6_textFault_1 ?_
  refine iLe (tgt := 27) hx hb dX6_textFault_4 (by decide) (by omega) (fun c1 => ?_) (fun c1 => by exfalso; omega)
  refine lv_iconst (v := nI 0) hx hb dX6_textFault_27 (by decide +kernel) ?_
  refine lv_istore_n (lv' := [(1, .int (nI 0)), (0, .ref mo)]) hx hb dX6_textFault_28 rfl hl (by decide) rfl (fun ls hl => ?_)
  refine lv_iload_n hx hb dX6_textFault_29 rfl (lv_at hl 0 rfl) ?_
  refine iEq (tgt := 38) hx hb dX6_textFault_30 (by decide) (by omega) (fun c2 => ?_) (fun c2 => by exfalso; omega)
  refine lv_bipush (v := nI 9) hx hb dX6_textFault_38 (by decide +kernel) ?_
  refine lv_istore_n (lv' := [(2, .int (nI 9)), (1, .int (nI 0)), (0, .ref mo)]) hx hb dX6_textFault_40 rfl hl (by decide) rfl (fun ls hl => ?_)
  refine lv_iload_n hx hb dX6_textFault_41 rfl (lv_at hl 1 rfl) ?_
  refine iEq (tgt := 50) hx hb dX6_textFault_42 (by decide) (by omega) (fun c3 => ?_) (fun c3 => by exfalso; omega)
  refine lv_bipush (v := nI 49) hx hb dX6_textFault_50 (by decide +kernel) ?_
  refine lv_istore_n (lv' := [(3, .int (nI 49)), (2, .int (nI 9)), (1, .int (nI 0)), (0, .ref mo)]) hx hb dX6_textFault_52 rfl hl (by decide) rfl (fun ls hl => ?_)
  refine lv_iconst (v := nI 0) hx hb dX6_textFault_53 (by decide +kernel) ?_
  refine lv_istore (lv' := [(4, .int (nI 0)), (3, .int (nI 49)), (2, .int (nI 9)), (1, .int (nI 0)), (0, .ref mo)]) hx hb dX6_textFault_54 hl (by decide) rfl (fun ls hl => ?_)
  refine lv_iconst (v := nI 0) hx hb dX6_textFault_56 (by decide +kernel) ?_
  refine lv_istore (lv' := [(5, .int (nI 0)), (4, .int (nI 0)), (3, .int (nI 49)), (2, .int (nI 9)), (1, .int (nI 0)), (0, .ref mo)]) hx hb dX6_textFault_57 hl (by decide) rfl (fun ls hl => ?_)
  refine lv_iload hx hb dX6_textFault_59 (lv_at hl 0 rfl) ?_
  refine lv_aload_n hx hb dX6_textFault_61 rfl (lv_at hl 5 rfl) ?_
  refine va_get (D := D) (ci := 6) (v := .int (nI ty)) (C := RX6) (T := TX6) (N := 7) hx hb hts inX6 hown hK hP 0 rfl rfl 6 (by decide) k90 (fun _ h9 => h9) rfl dX6_textFault_62 ?_
  refine bGe (tgt := 126) hx hb dX6_textFault_65 (by decide) (by omega) (by omega) (fun c4 => ?_) (fun c4 => by exfalso; omega)
  refine lv_aload_n hx hb dX6_textFault_126 rfl (lv_at hl 5 rfl) ?_
  refine va_get (D := D) (ci := 6) (v := .int (nI ty)) (C := RX6) (T := TX6) (N := 7) hx hb hts inX6 hown hK hP 0 rfl rfl 6 (by decide) k90 (fun _ h9 => h9) rfl dX6_textFault_127 ?_
  refine lv_iload_n hx hb dX6_textFault_130 rfl (lv_at hl 3 rfl) ?_
  refine bGe (tgt := 141) hx hb dX6_textFault_131 (by decide) (by omega) (by omega) (fun c5 => by exfalso; omega) (fun c5 => ?_)
  refine lv_aload_n hx hb dX6_textFault_134 rfl (lv_at hl 5 rfl) ?_
  refine va_get (D := D) (ci := 6) (v := .int (nI ty)) (C := RX6) (T := TX6) (N := 7) hx hb hts inX6 hown hK hP 0 rfl rfl 6 (by decide) k90 (fun _ h9 => h9) rfl dX6_textFault_135 ?_
  refine lv_goto (tgt := 143) hx hb dX6_textFault_138 (by decide) ?_
  refine rTop (show nI ty = tfR t ty from by rw [h0]; rfl) ?_
  exact rIret hx hb hr hlk hP hK hD hS dX6_textFault_143

set_option maxHeartbeats 4000000 in
set_option maxRecDepth 100000 in
theorem mX6_textFault_n (l : Launch) (D : va_G) (G : Nat → ClassId) (mo sa be ke te kn ty : Nat) (ik : Bool) (n tn k : Nat) (N Z S P V : Nat → Int32) (F : Nat → Nat → Int32) (po rd al : Int32) (B : Nat → Nat → Int32) (nq tnq kq : Nat) (Nq Zq Sq Pq Vq : Nat → Int32) (Fq : Nat → Nat → Int32) (poq rdq alq : Int32) (t : Nat → Nat) (hty : ty ≤ 60) (h0 : 0 < ty) (htt : ∀ j, t j < 65536) (hs0 : sideOf t ty = 0) : CT l yX6_textFault wsX6_textFault 1 22 D G [.ref mo] [(mo, .inr (6, [.ref sa, .ref be, .int (nI kn), .ref ke, .int (zB ik), .ref te, .int (nI ty)])), (sa, .inl (G 0, 117, .inl (enc n N Z tn po rd al k S P V F))), (be, .inl (G 0, 468, .inl (bf B))), (ke, .inl (G 0, 117, .inl (enc nq Nq Zq tnq poq rdq alq kq Sq Pq Vq Fq))), (te, .inl (G 0, 60, .inl (ch t)))] [(mo, .inr (6, [.ref sa, .ref be, .int (nI kn), .ref ke, .int (zB ik), .ref te, .int (nI ty)])), (sa, .inl (G 0, 117, .inl (enc n N Z tn po rd al k S P V F))), (be, .inl (G 0, 468, .inl (bf B))), (ke, .inl (G 0, 117, .inl (enc nq Nq Zq tnq poq rdq alq kq Sq Pq Vq Fq))), (te, .inl (G 0, 60, .inl (ch t)))] (some (.int (tfR t ty))) := by
  refine CT.of (cc := cX6_textFault) (maxL := 7) (ret := (some .int)) (by decide) rfl RX6 rfl (Nat.le_of_ble_eq_true rfl) (fun pp ee s mm bl me cc A ls hx hb hr hml hts hown hlk hnm hA hP hK hD hN hS hl => ?_)
  have hl : lv_has ls 7 [(0, .ref mo)] := hl
  have hP : va_P D vwCl [(mo, .inr (6, [.ref sa, .ref be, .int (nI kn), .ref ke, .int (zB ik), .ref te, .int (nI ty)])), (sa, .inl (G 0, 117, .inl (enc n N Z tn po rd al k S P V F))), (be, .inl (G 0, 468, .inl (bf B))), (ke, .inl (G 0, 117, .inl (enc nq Nq Zq tnq poq rdq alq kq Sq Pq Vq Fq))), (te, .inl (G 0, 60, .inl (ch t)))] s.heap := hP
  have inX6 : ∀ w ∈ wsX60, w ∈ wsX6_textFault := fun w h => List.mem_cons_of_mem _ (List.mem_append_right _ h)
  have k90 := hts (.fieldLink RX6 90 "SquareStakesModel" "typed" "I") (List.mem_of_getElem? (i := 1) rfl)
  have k19 := hts (.fieldLink RX6 19 "SquareStakesModel" "text" "[I") (List.mem_of_getElem? (i := 2) rfl)
  have hs1 := side0 hs0 h0
  have ht0 := htt 0
  refine lv_aload_n hx hb dX6_textFault_0 rfl (lv_at hl 0 rfl) ?_
  refine va_get (D := D) (ci := 6) (v := .int (nI ty)) (C := RX6) (T := TX6) (N := 7) hx hb hts inX6 hown hK hP 0 rfl rfl 6 (by decide) k90 (fun _ h9 => h9) rfl dX6_textFault_1 ?_
  refine iLe (tgt := 27) hx hb dX6_textFault_4 (by decide) (by omega) (fun c1 => by exfalso; omega) (fun c1 => ?_)
  refine lv_aload_n hx hb dX6_textFault_7 rfl (lv_at hl 0 rfl) ?_
  refine va_get (D := D) (ci := 6) (v := .ref te) (C := RX6) (T := TX6) (N := 7) hx hb hts inX6 hown hK hP 0 rfl rfl 5 (by decide) k19 (fun _ h9 => h9) rfl dX6_textFault_8 ?_
  refine lv_iconst (v := nI 0) hx hb dX6_textFault_11 (by decide +kernel) ?_
  refine rIald hx hb hK hP 4 rfl 0 (by omega) (by decide) dX6_textFault_12 ?_
  refine rTop (show ch t 0 = nI (t 0) from rfl) ?_
  refine lv_bipush (v := nI 97) hx hb dX6_textFault_13 (by decide +kernel) ?_
  refine lv_bipush (v := nI 112) hx hb dX6_textFault_15 (by decide +kernel) ?_
  refine cSr (As := [.int (nI (t 0)), .int (nI 97), .int (nI 112)]) (rest := []) ⟨hx, hb, hml, hown, hts⟩ hP hK hD hS hN hA (mX6_in l D G (nI (t 0)) (nI 97) (nI 112) ) (cwS 3 hts gX6_textFault_X6_in rfl rfl rfl (by decide +kernel) ⟨Nat.le_of_ble_eq_true rfl, Nat.le_of_ble_eq_true rfl⟩) [] rfl (by decide) rfl hl.1 rfl (Nat.le_of_ble_eq_true rfl) dX6_textFault_17 ⟨Nat.zero_le _, Nat.zero_le _⟩ (fun H locs hP hS => ?_)
  refine zEq (tgt := 27) hx hb dX6_textFault_20 (by decide)  (fun c2 => ?_) (fun c2 => absurd (c2) (by rw [rg_n (by omega) (by omega) (by omega), decide_eq_false (fun z => hs1.2 z)]; decide))
  refine lv_iconst (v := nI 0) hx hb dX6_textFault_27 (by decide +kernel) ?_
  refine lv_istore_n (lv' := [(1, .int (nI 0)), (0, .ref mo)]) hx hb dX6_textFault_28 rfl hl (by decide) rfl (fun ls hl => ?_)
  refine lv_iload_n hx hb dX6_textFault_29 rfl (lv_at hl 0 rfl) ?_
  refine iEq (tgt := 38) hx hb dX6_textFault_30 (by decide) (by omega) (fun c3 => ?_) (fun c3 => by exfalso; omega)
  refine lv_bipush (v := nI 9) hx hb dX6_textFault_38 (by decide +kernel) ?_
  refine lv_istore_n (lv' := [(2, .int (nI 9)), (1, .int (nI 0)), (0, .ref mo)]) hx hb dX6_textFault_40 rfl hl (by decide) rfl (fun ls hl => ?_)
  refine lv_iload_n hx hb dX6_textFault_41 rfl (lv_at hl 1 rfl) ?_
  refine iEq (tgt := 50) hx hb dX6_textFault_42 (by decide) (by omega) (fun c4 => ?_) (fun c4 => by exfalso; omega)
  refine lv_bipush (v := nI 49) hx hb dX6_textFault_50 (by decide +kernel) ?_
  refine lv_istore_n (lv' := [(3, .int (nI 49)), (2, .int (nI 9)), (1, .int (nI 0)), (0, .ref mo)]) hx hb dX6_textFault_52 rfl hl (by decide) rfl (fun ls hl => ?_)
  refine lv_iconst (v := nI 0) hx hb dX6_textFault_53 (by decide +kernel) ?_
  refine lv_istore (lv' := [(4, .int (nI 0)), (3, .int (nI 49)), (2, .int (nI 9)), (1, .int (nI 0)), (0, .ref mo)]) hx hb dX6_textFault_54 hl (by decide) rfl (fun ls hl => ?_)
  refine lv_iconst (v := nI 0) hx hb dX6_textFault_56 (by decide +kernel) ?_
  refine lv_istore (lv' := [(5, .int (nI 0)), (4, .int (nI 0)), (3, .int (nI 49)), (2, .int (nI 9)), (1, .int (nI 0)), (0, .ref mo)]) hx hb dX6_textFault_57 hl (by decide) rfl (fun ls hl => ?_)
  refine lv_iload hx hb dX6_textFault_59 (lv_at hl 0 rfl) ?_
  refine lv_aload_n hx hb dX6_textFault_61 rfl (lv_at hl 5 rfl) ?_
  refine va_get (D := D) (ci := 6) (v := .int (nI ty)) (C := RX6) (T := TX6) (N := 7) hx hb hts inX6 hown hK hP 0 rfl rfl 6 (by decide) k90 (fun _ h9 => h9) rfl dX6_textFault_62 ?_
  refine bGe (tgt := 126) hx hb dX6_textFault_65 (by decide) (by omega) (by omega) (fun c5 => by exfalso; omega) (fun c5 => ?_)
  refine lv_aload_n hx hb dX6_textFault_68 rfl (lv_at hl 5 rfl) ?_
  refine va_get (D := D) (ci := 6) (v := .ref te) (C := RX6) (T := TX6) (N := 7) hx hb hts inX6 hown hK hP 0 rfl rfl 5 (by decide) k19 (fun _ h9 => h9) rfl dX6_textFault_69 ?_
  refine lv_iload hx hb dX6_textFault_72 (lv_at hl 0 rfl) ?_
  refine rIald hx hb hK hP 4 rfl 0 (by omega) (by decide) dX6_textFault_74 ?_
  refine rTop (show ch t 0 = nI (t 0) from rfl) ?_
  refine lv_iload_n hx hb dX6_textFault_75 rfl (lv_at hl 2 rfl) ?_
  refine lv_isub hx hb dX6_textFault_76 ?_
  refine lv_istore (lv' := [(6, .int (nI (t 0) - nI 49)), (5, .int (nI 0)), (4, .int (nI 0)), (3, .int (nI 49)), (2, .int (nI 9)), (1, .int (nI 0)), (0, .ref mo)]) hx hb dX6_textFault_77 hl (by decide) rfl (fun ls hl => ?_)
  refine lv_iload hx hb dX6_textFault_79 (lv_at hl 1 rfl) ?_
  refine lv_iload_n hx hb dX6_textFault_81 rfl (lv_at hl 4 rfl) ?_
  refine bGe (tgt := 108) hx hb dX6_textFault_82 (by decide) (by omega) (by omega) (fun c6 => by exfalso; omega) (fun c6 => ?_)
  refine lv_iload hx hb dX6_textFault_85 (lv_at hl 0 rfl) ?_
  refine lv_iconst (v := nI 0) hx hb dX6_textFault_87 (by decide +kernel) ?_
  refine lv_iload_n hx hb dX6_textFault_88 rfl (lv_at hl 4 rfl) ?_
  refine lv_iconst (v := nI 1) hx hb dX6_textFault_89 (by decide +kernel) ?_
  refine lv_isub hx hb dX6_textFault_90 ?_
  refine rTop (show nI 9 - nI 1 = nI 8 from pk_sub (by omega)) ?_
  refine cSr (As := [.int (nI (t 0) - nI 49), .int (nI 0), .int (nI 8)]) (rest := []) ⟨hx, hb, hml, hown, hts⟩ hP hK hD hS hN hA (mX6_in l D G (nI (t 0) - nI 49) (nI 0) (nI 8) ) (cwS 3 hts gX6_textFault_X6_in rfl rfl rfl (by decide +kernel) ⟨Nat.le_of_ble_eq_true rfl, Nat.le_of_ble_eq_true rfl⟩) [] rfl (by decide) rfl hl.1 rfl (Nat.le_of_ble_eq_true rfl) dX6_textFault_91 ⟨Nat.zero_le _, Nat.zero_le _⟩ (fun H locs hP hS => ?_)
  refine zEq (tgt := 108) hx hb dX6_textFault_94 (by decide)  (fun c7 => ?_) (fun c7 => absurd (c7) (by rw [rg_d (by omega) (by omega) (by omega), decide_eq_false (fun z => hs1.1 ⟨z.1, by omega⟩)]; decide))
  refine lv_iload hx hb dX6_textFault_108 (lv_at hl 1 rfl) ?_
  refine rTop (show nI 0 = tfR t ty from tfR_n (by omega) (flc_n h0 hs0)) ?_
  exact rIret hx hb hr hlk hP hK hD hS dX6_textFault_110

set_option maxHeartbeats 4000000 in
set_option maxRecDepth 100000 in
theorem mX6_textFault_3 (l : Launch) (D : va_G) (G : Nat → ClassId) (mo sa be ke te kn ty : Nat) (ik : Bool) (n tn k : Nat) (N Z S P V : Nat → Int32) (F : Nat → Nat → Int32) (po rd al : Int32) (B : Nat → Nat → Int32) (nq tnq kq : Nat) (Nq Zq Sq Pq Vq : Nat → Int32) (Fq : Nat → Nat → Int32) (poq rdq alq : Int32) (t : Nat → Nat) (hty : ty ≤ 60) (htt : ∀ j, t j < 65536) (hs0 : sideOf t ty = 3) : CT l yX6_textFault wsX6_textFault 1 22 D G [.ref mo] [(mo, .inr (6, [.ref sa, .ref be, .int (nI kn), .ref ke, .int (zB ik), .ref te, .int (nI ty)])), (sa, .inl (G 0, 117, .inl (enc n N Z tn po rd al k S P V F))), (be, .inl (G 0, 468, .inl (bf B))), (ke, .inl (G 0, 117, .inl (enc nq Nq Zq tnq poq rdq alq kq Sq Pq Vq Fq))), (te, .inl (G 0, 60, .inl (ch t)))] [(mo, .inr (6, [.ref sa, .ref be, .int (nI kn), .ref ke, .int (zB ik), .ref te, .int (nI ty)])), (sa, .inl (G 0, 117, .inl (enc n N Z tn po rd al k S P V F))), (be, .inl (G 0, 468, .inl (bf B))), (ke, .inl (G 0, 117, .inl (enc nq Nq Zq tnq poq rdq alq kq Sq Pq Vq Fq))), (te, .inl (G 0, 60, .inl (ch t)))] (some (.int (tfR t ty))) := by
  refine CT.of (cc := cX6_textFault) (maxL := 7) (ret := (some .int)) (by decide) rfl RX6 rfl (Nat.le_of_ble_eq_true rfl) (fun pp ee s mm bl me cc A ls hx hb hr hml hts hown hlk hnm hA hP hK hD hN hS hl => ?_)
  have hl : lv_has ls 7 [(0, .ref mo)] := hl
  have hP : va_P D vwCl [(mo, .inr (6, [.ref sa, .ref be, .int (nI kn), .ref ke, .int (zB ik), .ref te, .int (nI ty)])), (sa, .inl (G 0, 117, .inl (enc n N Z tn po rd al k S P V F))), (be, .inl (G 0, 468, .inl (bf B))), (ke, .inl (G 0, 117, .inl (enc nq Nq Zq tnq poq rdq alq kq Sq Pq Vq Fq))), (te, .inl (G 0, 60, .inl (ch t)))] s.heap := hP
  have inX6 : ∀ w ∈ wsX60, w ∈ wsX6_textFault := fun w h => List.mem_cons_of_mem _ (List.mem_append_right _ h)
  have k90 := hts (.fieldLink RX6 90 "SquareStakesModel" "typed" "I") (List.mem_of_getElem? (i := 1) rfl)
  have k19 := hts (.fieldLink RX6 19 "SquareStakesModel" "text" "[I") (List.mem_of_getElem? (i := 2) rfl)
  have hsd := side3 hs0
  have ht0 := htt 0
  refine lv_aload_n hx hb dX6_textFault_0 rfl (lv_at hl 0 rfl) ?_
  refine va_get (D := D) (ci := 6) (v := .int (nI ty)) (C := RX6) (T := TX6) (N := 7) hx hb hts inX6 hown hK hP 0 rfl rfl 6 (by decide) k90 (fun _ h9 => h9) rfl dX6_textFault_1 ?_
  refine iLe (tgt := 27) hx hb dX6_textFault_4 (by decide) (by omega) (fun c1 => by exfalso; omega) (fun c1 => ?_)
  refine lv_aload_n hx hb dX6_textFault_7 rfl (lv_at hl 0 rfl) ?_
  refine va_get (D := D) (ci := 6) (v := .ref te) (C := RX6) (T := TX6) (N := 7) hx hb hts inX6 hown hK hP 0 rfl rfl 5 (by decide) k19 (fun _ h9 => h9) rfl dX6_textFault_8 ?_
  refine lv_iconst (v := nI 0) hx hb dX6_textFault_11 (by decide +kernel) ?_
  refine rIald hx hb hK hP 4 rfl 0 (by omega) (by decide) dX6_textFault_12 ?_
  refine rTop (show ch t 0 = nI (t 0) from rfl) ?_
  refine lv_bipush (v := nI 97) hx hb dX6_textFault_13 (by decide +kernel) ?_
  refine lv_bipush (v := nI 112) hx hb dX6_textFault_15 (by decide +kernel) ?_
  refine cSr (As := [.int (nI (t 0)), .int (nI 97), .int (nI 112)]) (rest := []) ⟨hx, hb, hml, hown, hts⟩ hP hK hD hS hN hA (mX6_in l D G (nI (t 0)) (nI 97) (nI 112) ) (cwS 3 hts gX6_textFault_X6_in rfl rfl rfl (by decide +kernel) ⟨Nat.le_of_ble_eq_true rfl, Nat.le_of_ble_eq_true rfl⟩) [] rfl (by decide) rfl hl.1 rfl (Nat.le_of_ble_eq_true rfl) dX6_textFault_17 ⟨Nat.zero_le _, Nat.zero_le _⟩ (fun H locs hP hS => ?_)
  refine zEq (tgt := 27) hx hb dX6_textFault_20 (by decide)  (fun c2 => ?_) (fun c2 => absurd (c2) (by rw [rg_n (by omega) (by omega) (by omega), decide_eq_false (by omega)]; decide))
  refine lv_iconst (v := nI 0) hx hb dX6_textFault_27 (by decide +kernel) ?_
  refine lv_istore_n (lv' := [(1, .int (nI 0)), (0, .ref mo)]) hx hb dX6_textFault_28 rfl hl (by decide) rfl (fun ls hl => ?_)
  refine lv_iload_n hx hb dX6_textFault_29 rfl (lv_at hl 0 rfl) ?_
  refine iEq (tgt := 38) hx hb dX6_textFault_30 (by decide) (by omega) (fun c3 => ?_) (fun c3 => by exfalso; omega)
  refine lv_bipush (v := nI 9) hx hb dX6_textFault_38 (by decide +kernel) ?_
  refine lv_istore_n (lv' := [(2, .int (nI 9)), (1, .int (nI 0)), (0, .ref mo)]) hx hb dX6_textFault_40 rfl hl (by decide) rfl (fun ls hl => ?_)
  refine lv_iload_n hx hb dX6_textFault_41 rfl (lv_at hl 1 rfl) ?_
  refine iEq (tgt := 50) hx hb dX6_textFault_42 (by decide) (by omega) (fun c4 => ?_) (fun c4 => by exfalso; omega)
  refine lv_bipush (v := nI 49) hx hb dX6_textFault_50 (by decide +kernel) ?_
  refine lv_istore_n (lv' := [(3, .int (nI 49)), (2, .int (nI 9)), (1, .int (nI 0)), (0, .ref mo)]) hx hb dX6_textFault_52 rfl hl (by decide) rfl (fun ls hl => ?_)
  refine lv_iconst (v := nI 0) hx hb dX6_textFault_53 (by decide +kernel) ?_
  refine lv_istore (lv' := [(4, .int (nI 0)), (3, .int (nI 49)), (2, .int (nI 9)), (1, .int (nI 0)), (0, .ref mo)]) hx hb dX6_textFault_54 hl (by decide) rfl (fun ls hl => ?_)
  refine lv_iconst (v := nI 0) hx hb dX6_textFault_56 (by decide +kernel) ?_
  refine lv_istore (lv' := [(5, .int (nI 0)), (4, .int (nI 0)), (3, .int (nI 49)), (2, .int (nI 9)), (1, .int (nI 0)), (0, .ref mo)]) hx hb dX6_textFault_57 hl (by decide) rfl (fun ls hl => ?_)
  have LP59 : ∀ (nn59 i : Nat), i ≤ ty → ty < i + nn59 → (frs t ty i = i) → ∀ (H : Heap) (locs : List Loc), va_P D vwCl [(mo, .inr (6, [.ref sa, .ref be, .int (nI kn), .ref ke, .int (zB ik), .ref te, .int (nI ty)])), (sa, .inl (G 0, 117, .inl (enc n N Z tn po rd al k S P V F))), (be, .inl (G 0, 468, .inl (bf B))), (ke, .inl (G 0, 117, .inl (enc nq Nq Zq tnq poq rdq alq kq Sq Pq Vq Fq))), (te, .inl (G 0, 60, .inl (ch t)))] H → va_D A [(mo, .inr (6, [.ref sa, .ref be, .int (nI kn), .ref ke, .int (zB ik), .ref te, .int (nI ty)])), (sa, .inl (G 0, 117, .inl (enc n N Z tn po rd al k S P V F))), (be, .inl (G 0, 468, .inl (bf B))), (ke, .inl (G 0, 117, .inl (enc nq Nq Zq tnq poq rdq alq kq Sq Pq Vq Fq))), (te, .inl (G 0, 60, .inl (ch t)))] → va_S A s.heap H locs → ∀ ls : Array Slot, lv_has ls 7 [(4, .int (nI (mkk (fun j => t j - 49) i))), (5, .int (nI i)), (3, .int (nI 49)), (2, .int (nI 9)), (1, .int (nI 0)), (0, .ref mo)] → W pp l ee (rmA 1 22) s mm ([.ref mo] : List Value).toArray bl me cc H locs 0 0 (MQ bl (Qres (some (.int (tfR t ty))) D G [(mo, .inr (6, [.ref sa, .ref be, .int (nI kn), .ref ke, .int (zB ik), .ref te, .int (nI ty)])), (sa, .inl (G 0, 117, .inl (enc n N Z tn po rd al k S P V F))), (be, .inl (G 0, 468, .inl (bf B))), (ke, .inl (G 0, 117, .inl (enc nq Nq Zq tnq poq rdq alq kq Sq Pq Vq Fq))), (te, .inl (G 0, 60, .inl (ch t)))] A) ([.ref mo] : List Value).toArray s 0 0 A) (F0 mm 59 ls []) := by
    intro nn59
    induction nn59 with
    | zero => intro i h1 h2; exact absurd h2 (by omega)
    | succ nn59 ih59 =>
      intro i hki hni hI H locs hP hD hS ls hl
      refine lv_iload hx hb dX6_textFault_59 (lv_at hl 1 rfl) ?_
      refine lv_aload_n hx hb dX6_textFault_61 rfl (lv_at hl 5 rfl) ?_
      refine va_get (D := D) (ci := 6) (v := .int (nI ty)) (C := RX6) (T := TX6) (N := 7) hx hb hts inX6 hown hK hP 0 rfl rfl 6 (by decide) k90 (fun _ h9 => h9) rfl dX6_textFault_62 ?_
      refine bGe (tgt := 126) hx hb dX6_textFault_65 (by decide) (by omega) (by omega) (fun c5 => ?_) (fun c5 => ?_)
      · obtain rfl : ty = i := by omega
        refine lv_aload_n hx hb dX6_textFault_126 rfl (lv_at hl 5 rfl) ?_
        refine va_get (D := D) (ci := 6) (v := .int (nI ty)) (C := RX6) (T := TX6) (N := 7) hx hb hts inX6 hown hK hP 0 rfl rfl 6 (by decide) k90 (fun _ h9 => h9) rfl dX6_textFault_127 ?_
        refine lv_iload_n hx hb dX6_textFault_130 rfl (lv_at hl 3 rfl) ?_
        refine bGe (tgt := 141) hx hb dX6_textFault_131 (by decide) (by omega) (by omega) (fun c6 => ?_) (fun c6 => ?_)
        · refine lv_bipush (v := -5) hx hb dX6_textFault_141 (by decide +kernel) ?_
          refine rTop (show (-5) = tfR t ty from (tfR_ok (flc_ok (by assumption) (by omega) (by omega)).symm).symm) ?_
          exact rIret hx hb hr hlk hP hK hD hS dX6_textFault_143
        · refine lv_aload_n hx hb dX6_textFault_134 rfl (lv_at hl 5 rfl) ?_
          refine va_get (D := D) (ci := 6) (v := .int (nI ty)) (C := RX6) (T := TX6) (N := 7) hx hb hts inX6 hown hK hP 0 rfl rfl 6 (by decide) k90 (fun _ h9 => h9) rfl dX6_textFault_135 ?_
          refine lv_goto (tgt := 143) hx hb dX6_textFault_138 (by decide) ?_
          refine rTop (show nI ty = tfR t ty from tfR_n (by omega) (flc_end (by assumption) (by omega))) ?_
          exact rIret hx hb hr hlk hP hK hD hS dX6_textFault_143
      · refine lv_aload_n hx hb dX6_textFault_68 rfl (lv_at hl 5 rfl) ?_
        have hil : i < ty := by assumption
        have hti := htt i
        refine va_get (D := D) (ci := 6) (v := .ref te) (C := RX6) (T := TX6) (N := 7) hx hb hts inX6 hown hK hP 0 rfl rfl 5 (by decide) k19 (fun _ h9 => h9) rfl dX6_textFault_69 ?_
        refine lv_iload hx hb dX6_textFault_72 (lv_at hl 1 rfl) ?_
        refine rIald hx hb hK hP 4 rfl i (by omega) (by decide) dX6_textFault_74 ?_
        refine rTop (show ch t i = nI (t i) from rfl) ?_
        refine lv_iload_n hx hb dX6_textFault_75 rfl (lv_at hl 2 rfl) ?_
        refine lv_isub hx hb dX6_textFault_76 ?_
        refine lv_istore (lv' := [(6, .int (nI (t i) - nI 49)), (4, .int (nI (mkk (fun j => t j - 49) i))), (5, .int (nI i)), (3, .int (nI 49)), (2, .int (nI 9)), (1, .int (nI 0)), (0, .ref mo)]) hx hb dX6_textFault_77 hl (by decide) rfl (fun ls hl => ?_)
        refine lv_iload hx hb dX6_textFault_79 (lv_at hl 2 rfl) ?_
        refine lv_iload_n hx hb dX6_textFault_81 rfl (lv_at hl 4 rfl) ?_
        refine bGe (tgt := 108) hx hb dX6_textFault_82 (by decide) (by omega) (by omega) (fun c7 => ?_) (fun c7 => ?_)
        · refine lv_iload hx hb dX6_textFault_108 (lv_at hl 2 rfl) ?_
          refine rTop (show nI i = tfR t ty from by first | exact tfR_n (by omega) (flc_hit hI hil (bad_1 (by omega))) | exact tfR_n (by omega) (flc_hit hI hil (bad_4 hdp)) | exact tfR_n (by omega) (flc_hit hI hil (bad_out (by omega)))) ?_
          exact rIret hx hb hr hlk hP hK hD hS dX6_textFault_110
        · refine lv_iload hx hb dX6_textFault_85 (lv_at hl 0 rfl) ?_
          refine lv_iconst (v := nI 0) hx hb dX6_textFault_87 (by decide +kernel) ?_
          refine lv_iload_n hx hb dX6_textFault_88 rfl (lv_at hl 4 rfl) ?_
          refine lv_iconst (v := nI 1) hx hb dX6_textFault_89 (by decide +kernel) ?_
          refine lv_isub hx hb dX6_textFault_90 ?_
          refine rTop (show nI 9 - nI 1 = nI 8 from pk_sub (by omega)) ?_
          refine cSr (As := [.int (nI (t i) - nI 49), .int (nI 0), .int (nI 8)]) (rest := []) ⟨hx, hb, hml, hown, hts⟩ hP hK hD hS hN hA (mX6_in l D G (nI (t i) - nI 49) (nI 0) (nI 8) ) (cwS 3 hts gX6_textFault_X6_in rfl rfl rfl (by decide +kernel) ⟨Nat.le_of_ble_eq_true rfl, Nat.le_of_ble_eq_true rfl⟩) [] rfl (by decide) rfl hl.1 rfl (Nat.le_of_ble_eq_true rfl) dX6_textFault_91 ⟨Nat.zero_le _, Nat.zero_le _⟩ (fun H locs hP hS => ?_)
          refine zEq (tgt := 108) hx hb dX6_textFault_94 (by decide)  (fun c8 => ?_) (fun c8 => ?_)
          · have hng : ¬ (49 ≤ t i ∧ t i ≤ 49 + 8) := of_decide_eq_false ((rg_d hti (by omega) (by omega)).symm.trans (by assumption))
            refine lv_iload hx hb dX6_textFault_108 (lv_at hl 2 rfl) ?_
            refine rTop (show nI i = tfR t ty from by first | exact tfR_n (by omega) (flc_hit hI hil (bad_1 (by omega))) | exact tfR_n (by omega) (flc_hit hI hil (bad_4 hdp)) | exact tfR_n (by omega) (flc_hit hI hil (bad_out (by omega)))) ?_
            exact rIret hx hb hr hlk hP hK hD hS dX6_textFault_110
          · have hg : 49 ≤ t i ∧ t i ≤ 49 + 8 := of_decide_eq_true ((rg_d hti (by omega) (by omega)).symm.trans (by assumption))
            rw [show (nI (t i) - nI 49) = nI (t i - 49) from pk_sub (by omega)] at hl
            have hgd : ∀ j, j < i → zz t ty + 1 ≤ t j ∧ t j ≤ zz t ty + cs t ty := fun j hj => (bad_in (frs_good hI j hj)).2
            have hmk : mkk (fun j => t j - 49) i < 2 ^ 17 := mkk_lt (fun j hj => by have := hgd j hj; show t j - 49 < 17; omega)
            refine lv_iload hx hb dX6_textFault_97 (lv_at hl 1 rfl) ?_
            refine lv_iload hx hb dX6_textFault_99 (lv_at hl 0 rfl) ?_
            refine lv_ishr hx hb dX6_textFault_101 ?_
            refine lv_iconst (v := nI 1) hx hb dX6_textFault_102 (by decide +kernel) ?_
            refine lv_iand hx hb dX6_textFault_103 ?_
            refine rTop (show ((nI (mkk (fun j => t j - 49) i) >>> (nI (t i - 49) &&& 31)) &&& nI 1) = zB (dp t (t i) i) from by rw [seen_bit hmk (by omega), mkk_bit (t := t) (y := t i) (fun j hj => by have := hgd j hj; show t j - 49 = t i - 49 ↔ t j = t i; omega)]) ?_
            refine lv_iconst (v := nI 1) hx hb dX6_textFault_104 (by decide +kernel) ?_
            refine lv_icmp_ne (tgt := 111) hx hb dX6_textFault_105 (by decide)  (fun c9 => ?_) (fun c9 => ?_)
            · have hdp : dp t (t i) i = false := by cases hb9 : dp t (t i) i with | false => rfl | true => exact absurd (zB_eq1.mpr hb9) (by assumption)
              refine lv_iload hx hb dX6_textFault_111 (lv_at hl 1 rfl) ?_
              refine lv_iconst (v := nI 1) hx hb dX6_textFault_113 (by decide +kernel) ?_
              refine lv_iload hx hb dX6_textFault_114 (lv_at hl 0 rfl) ?_
              refine lv_ishl hx hb dX6_textFault_116 ?_
              refine lv_ior hx hb dX6_textFault_117 ?_
              refine rTop (show (nI (mkk (fun j => t j - 49) i) ||| (nI 1 <<< (nI (t i - 49) &&& 31))) = nI (mkk (fun j => t j - 49) (i + 1)) from seen_put (by omega)) ?_
              refine lv_istore (lv' := [(4, .int (nI (mkk (fun j => t j - 49) (i + 1)))), (6, .int (nI (t i - 49))), (5, .int (nI i)), (3, .int (nI 49)), (2, .int (nI 9)), (1, .int (nI 0)), (0, .ref mo)]) hx hb dX6_textFault_118 hl (by decide) rfl (fun ls hl => ?_)
              refine lv_iinc (v := nI (i + 1)) (lv' := [(5, .int (nI (i + 1))), (4, .int (nI (mkk (fun j => t j - 49) (i + 1)))), (6, .int (nI (t i - 49))), (3, .int (nI 49)), (2, .int (nI 9)), (1, .int (nI 0)), (0, .ref mo)]) hx hb dX6_textFault_120 hl (k := 2) rfl (nI_inc i) (by decide) rfl (fun ls hl => ?_)
              refine lv_goto (tgt := 59) hx hb dX6_textFault_123 (by decide) ?_
              exact ih59 (i + 1) (by omega) (by omega) (frs_go hI (bad_no (by omega) (by omega) (by omega) hdp)) _ _ hP hD hS _ (lv_sub hl [1, 0, 3, 4, 5, 6] rfl)
            · have hdp : dp t (t i) i = true := zB_eq1.mp (by assumption)
              refine lv_iload hx hb dX6_textFault_108 (lv_at hl 2 rfl) ?_
              refine rTop (show nI i = tfR t ty from by first | exact tfR_n (by omega) (flc_hit hI hil (bad_1 (by omega))) | exact tfR_n (by omega) (flc_hit hI hil (bad_4 hdp)) | exact tfR_n (by omega) (flc_hit hI hil (bad_out (by omega)))) ?_
              exact rIret hx hb hr hlk hP hK hD hS dX6_textFault_110
  exact LP59 (ty + 1 - 0) 0 (by omega) (by omega) rfl _ _ hP hD hS _ (lv_sub hl [1, 0, 2, 3, 4, 5] rfl)

set_option maxHeartbeats 4000000 in
set_option maxRecDepth 100000 in
theorem mX6_textFault_4 (l : Launch) (D : va_G) (G : Nat → ClassId) (mo sa be ke te kn ty : Nat) (ik : Bool) (n tn k : Nat) (N Z S P V : Nat → Int32) (F : Nat → Nat → Int32) (po rd al : Int32) (B : Nat → Nat → Int32) (nq tnq kq : Nat) (Nq Zq Sq Pq Vq : Nat → Int32) (Fq : Nat → Nat → Int32) (poq rdq alq : Int32) (t : Nat → Nat) (hty : ty ≤ 60) (htt : ∀ j, t j < 65536) (hs0 : sideOf t ty = 4) : CT l yX6_textFault wsX6_textFault 1 22 D G [.ref mo] [(mo, .inr (6, [.ref sa, .ref be, .int (nI kn), .ref ke, .int (zB ik), .ref te, .int (nI ty)])), (sa, .inl (G 0, 117, .inl (enc n N Z tn po rd al k S P V F))), (be, .inl (G 0, 468, .inl (bf B))), (ke, .inl (G 0, 117, .inl (enc nq Nq Zq tnq poq rdq alq kq Sq Pq Vq Fq))), (te, .inl (G 0, 60, .inl (ch t)))] [(mo, .inr (6, [.ref sa, .ref be, .int (nI kn), .ref ke, .int (zB ik), .ref te, .int (nI ty)])), (sa, .inl (G 0, 117, .inl (enc n N Z tn po rd al k S P V F))), (be, .inl (G 0, 468, .inl (bf B))), (ke, .inl (G 0, 117, .inl (enc nq Nq Zq tnq poq rdq alq kq Sq Pq Vq Fq))), (te, .inl (G 0, 60, .inl (ch t)))] (some (.int (tfR t ty))) := by
  refine CT.of (cc := cX6_textFault) (maxL := 7) (ret := (some .int)) (by decide) rfl RX6 rfl (Nat.le_of_ble_eq_true rfl) (fun pp ee s mm bl me cc A ls hx hb hr hml hts hown hlk hnm hA hP hK hD hN hS hl => ?_)
  have hl : lv_has ls 7 [(0, .ref mo)] := hl
  have hP : va_P D vwCl [(mo, .inr (6, [.ref sa, .ref be, .int (nI kn), .ref ke, .int (zB ik), .ref te, .int (nI ty)])), (sa, .inl (G 0, 117, .inl (enc n N Z tn po rd al k S P V F))), (be, .inl (G 0, 468, .inl (bf B))), (ke, .inl (G 0, 117, .inl (enc nq Nq Zq tnq poq rdq alq kq Sq Pq Vq Fq))), (te, .inl (G 0, 60, .inl (ch t)))] s.heap := hP
  have inX6 : ∀ w ∈ wsX60, w ∈ wsX6_textFault := fun w h => List.mem_cons_of_mem _ (List.mem_append_right _ h)
  have k90 := hts (.fieldLink RX6 90 "SquareStakesModel" "typed" "I") (List.mem_of_getElem? (i := 1) rfl)
  have k19 := hts (.fieldLink RX6 19 "SquareStakesModel" "text" "[I") (List.mem_of_getElem? (i := 2) rfl)
  have hsd := side4 hs0
  have ht0 := htt 0
  refine lv_aload_n hx hb dX6_textFault_0 rfl (lv_at hl 0 rfl) ?_
  refine va_get (D := D) (ci := 6) (v := .int (nI ty)) (C := RX6) (T := TX6) (N := 7) hx hb hts inX6 hown hK hP 0 rfl rfl 6 (by decide) k90 (fun _ h9 => h9) rfl dX6_textFault_1 ?_
  refine iLe (tgt := 27) hx hb dX6_textFault_4 (by decide) (by omega) (fun c1 => by exfalso; omega) (fun c1 => ?_)
  refine lv_aload_n hx hb dX6_textFault_7 rfl (lv_at hl 0 rfl) ?_
  refine va_get (D := D) (ci := 6) (v := .ref te) (C := RX6) (T := TX6) (N := 7) hx hb hts inX6 hown hK hP 0 rfl rfl 5 (by decide) k19 (fun _ h9 => h9) rfl dX6_textFault_8 ?_
  refine lv_iconst (v := nI 0) hx hb dX6_textFault_11 (by decide +kernel) ?_
  refine rIald hx hb hK hP 4 rfl 0 (by omega) (by decide) dX6_textFault_12 ?_
  refine rTop (show ch t 0 = nI (t 0) from rfl) ?_
  refine lv_bipush (v := nI 97) hx hb dX6_textFault_13 (by decide +kernel) ?_
  refine lv_bipush (v := nI 112) hx hb dX6_textFault_15 (by decide +kernel) ?_
  refine cSr (As := [.int (nI (t 0)), .int (nI 97), .int (nI 112)]) (rest := []) ⟨hx, hb, hml, hown, hts⟩ hP hK hD hS hN hA (mX6_in l D G (nI (t 0)) (nI 97) (nI 112) ) (cwS 3 hts gX6_textFault_X6_in rfl rfl rfl (by decide +kernel) ⟨Nat.le_of_ble_eq_true rfl, Nat.le_of_ble_eq_true rfl⟩) [] rfl (by decide) rfl hl.1 rfl (Nat.le_of_ble_eq_true rfl) dX6_textFault_17 ⟨Nat.zero_le _, Nat.zero_le _⟩ (fun H locs hP hS => ?_)
  refine zEq (tgt := 27) hx hb dX6_textFault_20 (by decide)  (fun c2 => absurd (c2) (by rw [rg_n (by omega) (by omega) (by omega), decide_eq_true (by omega)]; decide)) (fun c2 => ?_)
  refine lv_iconst (v := nI 1) hx hb dX6_textFault_23 (by decide +kernel) ?_
  refine lv_goto (tgt := 28) hx hb dX6_textFault_24 (by decide) ?_
  refine lv_istore_n (lv' := [(1, .int (nI 1)), (0, .ref mo)]) hx hb dX6_textFault_28 rfl hl (by decide) rfl (fun ls hl => ?_)
  refine lv_iload_n hx hb dX6_textFault_29 rfl (lv_at hl 0 rfl) ?_
  refine iEq (tgt := 38) hx hb dX6_textFault_30 (by decide) (by omega) (fun c3 => by exfalso; omega) (fun c3 => ?_)
  refine lv_bipush (v := nI 16) hx hb dX6_textFault_33 (by decide +kernel) ?_
  refine lv_goto (tgt := 40) hx hb dX6_textFault_35 (by decide) ?_
  refine lv_istore_n (lv' := [(2, .int (nI 16)), (1, .int (nI 1)), (0, .ref mo)]) hx hb dX6_textFault_40 rfl hl (by decide) rfl (fun ls hl => ?_)
  refine lv_iload_n hx hb dX6_textFault_41 rfl (lv_at hl 1 rfl) ?_
  refine iEq (tgt := 50) hx hb dX6_textFault_42 (by decide) (by omega) (fun c4 => by exfalso; omega) (fun c4 => ?_)
  refine lv_bipush (v := nI 97) hx hb dX6_textFault_45 (by decide +kernel) ?_
  refine lv_goto (tgt := 52) hx hb dX6_textFault_47 (by decide) ?_
  refine lv_istore_n (lv' := [(3, .int (nI 97)), (2, .int (nI 16)), (1, .int (nI 1)), (0, .ref mo)]) hx hb dX6_textFault_52 rfl hl (by decide) rfl (fun ls hl => ?_)
  refine lv_iconst (v := nI 0) hx hb dX6_textFault_53 (by decide +kernel) ?_
  refine lv_istore (lv' := [(4, .int (nI 0)), (3, .int (nI 97)), (2, .int (nI 16)), (1, .int (nI 1)), (0, .ref mo)]) hx hb dX6_textFault_54 hl (by decide) rfl (fun ls hl => ?_)
  refine lv_iconst (v := nI 0) hx hb dX6_textFault_56 (by decide +kernel) ?_
  refine lv_istore (lv' := [(5, .int (nI 0)), (4, .int (nI 0)), (3, .int (nI 97)), (2, .int (nI 16)), (1, .int (nI 1)), (0, .ref mo)]) hx hb dX6_textFault_57 hl (by decide) rfl (fun ls hl => ?_)
  have LP59 : ∀ (nn59 i : Nat), i ≤ ty → ty < i + nn59 → (frs t ty i = i) → ∀ (H : Heap) (locs : List Loc), va_P D vwCl [(mo, .inr (6, [.ref sa, .ref be, .int (nI kn), .ref ke, .int (zB ik), .ref te, .int (nI ty)])), (sa, .inl (G 0, 117, .inl (enc n N Z tn po rd al k S P V F))), (be, .inl (G 0, 468, .inl (bf B))), (ke, .inl (G 0, 117, .inl (enc nq Nq Zq tnq poq rdq alq kq Sq Pq Vq Fq))), (te, .inl (G 0, 60, .inl (ch t)))] H → va_D A [(mo, .inr (6, [.ref sa, .ref be, .int (nI kn), .ref ke, .int (zB ik), .ref te, .int (nI ty)])), (sa, .inl (G 0, 117, .inl (enc n N Z tn po rd al k S P V F))), (be, .inl (G 0, 468, .inl (bf B))), (ke, .inl (G 0, 117, .inl (enc nq Nq Zq tnq poq rdq alq kq Sq Pq Vq Fq))), (te, .inl (G 0, 60, .inl (ch t)))] → va_S A s.heap H locs → ∀ ls : Array Slot, lv_has ls 7 [(4, .int (nI (mkk (fun j => t j - 97) i))), (5, .int (nI i)), (3, .int (nI 97)), (2, .int (nI 16)), (1, .int (nI 1)), (0, .ref mo)] → W pp l ee (rmA 1 22) s mm ([.ref mo] : List Value).toArray bl me cc H locs 0 0 (MQ bl (Qres (some (.int (tfR t ty))) D G [(mo, .inr (6, [.ref sa, .ref be, .int (nI kn), .ref ke, .int (zB ik), .ref te, .int (nI ty)])), (sa, .inl (G 0, 117, .inl (enc n N Z tn po rd al k S P V F))), (be, .inl (G 0, 468, .inl (bf B))), (ke, .inl (G 0, 117, .inl (enc nq Nq Zq tnq poq rdq alq kq Sq Pq Vq Fq))), (te, .inl (G 0, 60, .inl (ch t)))] A) ([.ref mo] : List Value).toArray s 0 0 A) (F0 mm 59 ls []) := by
    intro nn59
    induction nn59 with
    | zero => intro i h1 h2; exact absurd h2 (by omega)
    | succ nn59 ih59 =>
      intro i hki hni hI H locs hP hD hS ls hl
      refine lv_iload hx hb dX6_textFault_59 (lv_at hl 1 rfl) ?_
      refine lv_aload_n hx hb dX6_textFault_61 rfl (lv_at hl 5 rfl) ?_
      refine va_get (D := D) (ci := 6) (v := .int (nI ty)) (C := RX6) (T := TX6) (N := 7) hx hb hts inX6 hown hK hP 0 rfl rfl 6 (by decide) k90 (fun _ h9 => h9) rfl dX6_textFault_62 ?_
      refine bGe (tgt := 126) hx hb dX6_textFault_65 (by decide) (by omega) (by omega) (fun c5 => ?_) (fun c5 => ?_)
      · obtain rfl : ty = i := by omega
        refine lv_aload_n hx hb dX6_textFault_126 rfl (lv_at hl 5 rfl) ?_
        refine va_get (D := D) (ci := 6) (v := .int (nI ty)) (C := RX6) (T := TX6) (N := 7) hx hb hts inX6 hown hK hP 0 rfl rfl 6 (by decide) k90 (fun _ h9 => h9) rfl dX6_textFault_127 ?_
        refine lv_iload_n hx hb dX6_textFault_130 rfl (lv_at hl 3 rfl) ?_
        refine bGe (tgt := 141) hx hb dX6_textFault_131 (by decide) (by omega) (by omega) (fun c6 => ?_) (fun c6 => ?_)
        · refine lv_bipush (v := -5) hx hb dX6_textFault_141 (by decide +kernel) ?_
          refine rTop (show (-5) = tfR t ty from (tfR_ok (flc_ok (by assumption) (by omega) (by omega)).symm).symm) ?_
          exact rIret hx hb hr hlk hP hK hD hS dX6_textFault_143
        · refine lv_aload_n hx hb dX6_textFault_134 rfl (lv_at hl 5 rfl) ?_
          refine va_get (D := D) (ci := 6) (v := .int (nI ty)) (C := RX6) (T := TX6) (N := 7) hx hb hts inX6 hown hK hP 0 rfl rfl 6 (by decide) k90 (fun _ h9 => h9) rfl dX6_textFault_135 ?_
          refine lv_goto (tgt := 143) hx hb dX6_textFault_138 (by decide) ?_
          refine rTop (show nI ty = tfR t ty from tfR_n (by omega) (flc_end (by assumption) (by omega))) ?_
          exact rIret hx hb hr hlk hP hK hD hS dX6_textFault_143
      · refine lv_aload_n hx hb dX6_textFault_68 rfl (lv_at hl 5 rfl) ?_
        have hil : i < ty := by assumption
        have hti := htt i
        refine va_get (D := D) (ci := 6) (v := .ref te) (C := RX6) (T := TX6) (N := 7) hx hb hts inX6 hown hK hP 0 rfl rfl 5 (by decide) k19 (fun _ h9 => h9) rfl dX6_textFault_69 ?_
        refine lv_iload hx hb dX6_textFault_72 (lv_at hl 1 rfl) ?_
        refine rIald hx hb hK hP 4 rfl i (by omega) (by decide) dX6_textFault_74 ?_
        refine rTop (show ch t i = nI (t i) from rfl) ?_
        refine lv_iload_n hx hb dX6_textFault_75 rfl (lv_at hl 2 rfl) ?_
        refine lv_isub hx hb dX6_textFault_76 ?_
        refine lv_istore (lv' := [(6, .int (nI (t i) - nI 97)), (4, .int (nI (mkk (fun j => t j - 97) i))), (5, .int (nI i)), (3, .int (nI 97)), (2, .int (nI 16)), (1, .int (nI 1)), (0, .ref mo)]) hx hb dX6_textFault_77 hl (by decide) rfl (fun ls hl => ?_)
        refine lv_iload hx hb dX6_textFault_79 (lv_at hl 2 rfl) ?_
        refine lv_iload_n hx hb dX6_textFault_81 rfl (lv_at hl 4 rfl) ?_
        refine bGe (tgt := 108) hx hb dX6_textFault_82 (by decide) (by omega) (by omega) (fun c7 => ?_) (fun c7 => ?_)
        · refine lv_iload hx hb dX6_textFault_108 (lv_at hl 2 rfl) ?_
          refine rTop (show nI i = tfR t ty from by first | exact tfR_n (by omega) (flc_hit hI hil (bad_1 (by omega))) | exact tfR_n (by omega) (flc_hit hI hil (bad_4 hdp)) | exact tfR_n (by omega) (flc_hit hI hil (bad_out (by omega)))) ?_
          exact rIret hx hb hr hlk hP hK hD hS dX6_textFault_110
        · refine lv_iload hx hb dX6_textFault_85 (lv_at hl 0 rfl) ?_
          refine lv_iconst (v := nI 0) hx hb dX6_textFault_87 (by decide +kernel) ?_
          refine lv_iload_n hx hb dX6_textFault_88 rfl (lv_at hl 4 rfl) ?_
          refine lv_iconst (v := nI 1) hx hb dX6_textFault_89 (by decide +kernel) ?_
          refine lv_isub hx hb dX6_textFault_90 ?_
          refine rTop (show nI 16 - nI 1 = nI 15 from pk_sub (by omega)) ?_
          refine cSr (As := [.int (nI (t i) - nI 97), .int (nI 0), .int (nI 15)]) (rest := []) ⟨hx, hb, hml, hown, hts⟩ hP hK hD hS hN hA (mX6_in l D G (nI (t i) - nI 97) (nI 0) (nI 15) ) (cwS 3 hts gX6_textFault_X6_in rfl rfl rfl (by decide +kernel) ⟨Nat.le_of_ble_eq_true rfl, Nat.le_of_ble_eq_true rfl⟩) [] rfl (by decide) rfl hl.1 rfl (Nat.le_of_ble_eq_true rfl) dX6_textFault_91 ⟨Nat.zero_le _, Nat.zero_le _⟩ (fun H locs hP hS => ?_)
          refine zEq (tgt := 108) hx hb dX6_textFault_94 (by decide)  (fun c8 => ?_) (fun c8 => ?_)
          · have hng : ¬ (97 ≤ t i ∧ t i ≤ 97 + 15) := of_decide_eq_false ((rg_d hti (by omega) (by omega)).symm.trans (by assumption))
            refine lv_iload hx hb dX6_textFault_108 (lv_at hl 2 rfl) ?_
            refine rTop (show nI i = tfR t ty from by first | exact tfR_n (by omega) (flc_hit hI hil (bad_1 (by omega))) | exact tfR_n (by omega) (flc_hit hI hil (bad_4 hdp)) | exact tfR_n (by omega) (flc_hit hI hil (bad_out (by omega)))) ?_
            exact rIret hx hb hr hlk hP hK hD hS dX6_textFault_110
          · have hg : 97 ≤ t i ∧ t i ≤ 97 + 15 := of_decide_eq_true ((rg_d hti (by omega) (by omega)).symm.trans (by assumption))
            rw [show (nI (t i) - nI 97) = nI (t i - 97) from pk_sub (by omega)] at hl
            have hgd : ∀ j, j < i → zz t ty + 1 ≤ t j ∧ t j ≤ zz t ty + cs t ty := fun j hj => (bad_in (frs_good hI j hj)).2
            have hmk : mkk (fun j => t j - 97) i < 2 ^ 17 := mkk_lt (fun j hj => by have := hgd j hj; show t j - 97 < 17; omega)
            refine lv_iload hx hb dX6_textFault_97 (lv_at hl 1 rfl) ?_
            refine lv_iload hx hb dX6_textFault_99 (lv_at hl 0 rfl) ?_
            refine lv_ishr hx hb dX6_textFault_101 ?_
            refine lv_iconst (v := nI 1) hx hb dX6_textFault_102 (by decide +kernel) ?_
            refine lv_iand hx hb dX6_textFault_103 ?_
            refine rTop (show ((nI (mkk (fun j => t j - 97) i) >>> (nI (t i - 97) &&& 31)) &&& nI 1) = zB (dp t (t i) i) from by rw [seen_bit hmk (by omega), mkk_bit (t := t) (y := t i) (fun j hj => by have := hgd j hj; show t j - 97 = t i - 97 ↔ t j = t i; omega)]) ?_
            refine lv_iconst (v := nI 1) hx hb dX6_textFault_104 (by decide +kernel) ?_
            refine lv_icmp_ne (tgt := 111) hx hb dX6_textFault_105 (by decide)  (fun c9 => ?_) (fun c9 => ?_)
            · have hdp : dp t (t i) i = false := by cases hb9 : dp t (t i) i with | false => rfl | true => exact absurd (zB_eq1.mpr hb9) (by assumption)
              refine lv_iload hx hb dX6_textFault_111 (lv_at hl 1 rfl) ?_
              refine lv_iconst (v := nI 1) hx hb dX6_textFault_113 (by decide +kernel) ?_
              refine lv_iload hx hb dX6_textFault_114 (lv_at hl 0 rfl) ?_
              refine lv_ishl hx hb dX6_textFault_116 ?_
              refine lv_ior hx hb dX6_textFault_117 ?_
              refine rTop (show (nI (mkk (fun j => t j - 97) i) ||| (nI 1 <<< (nI (t i - 97) &&& 31))) = nI (mkk (fun j => t j - 97) (i + 1)) from seen_put (by omega)) ?_
              refine lv_istore (lv' := [(4, .int (nI (mkk (fun j => t j - 97) (i + 1)))), (6, .int (nI (t i - 97))), (5, .int (nI i)), (3, .int (nI 97)), (2, .int (nI 16)), (1, .int (nI 1)), (0, .ref mo)]) hx hb dX6_textFault_118 hl (by decide) rfl (fun ls hl => ?_)
              refine lv_iinc (v := nI (i + 1)) (lv' := [(5, .int (nI (i + 1))), (4, .int (nI (mkk (fun j => t j - 97) (i + 1)))), (6, .int (nI (t i - 97))), (3, .int (nI 97)), (2, .int (nI 16)), (1, .int (nI 1)), (0, .ref mo)]) hx hb dX6_textFault_120 hl (k := 2) rfl (nI_inc i) (by decide) rfl (fun ls hl => ?_)
              refine lv_goto (tgt := 59) hx hb dX6_textFault_123 (by decide) ?_
              exact ih59 (i + 1) (by omega) (by omega) (frs_go hI (bad_no (by omega) (by omega) (by omega) hdp)) _ _ hP hD hS _ (lv_sub hl [1, 0, 3, 4, 5, 6] rfl)
            · have hdp : dp t (t i) i = true := zB_eq1.mp (by assumption)
              refine lv_iload hx hb dX6_textFault_108 (lv_at hl 2 rfl) ?_
              refine rTop (show nI i = tfR t ty from by first | exact tfR_n (by omega) (flc_hit hI hil (bad_1 (by omega))) | exact tfR_n (by omega) (flc_hit hI hil (bad_4 hdp)) | exact tfR_n (by omega) (flc_hit hI hil (bad_out (by omega)))) ?_
              exact rIret hx hb hr hlk hP hK hD hS dX6_textFault_110
  exact LP59 (ty + 1 - 0) 0 (by omega) (by omega) rfl _ _ hP hD hS _ (lv_sub hl [1, 0, 2, 3, 4, 5] rfl)

set_option maxRecDepth 100000 in
theorem mX6_textFault (l : Launch) (D : va_G) (G : Nat → ClassId) (mo sa be ke te kn ty : Nat) (ik : Bool) (n tn k : Nat) (N Z S P V : Nat → Int32) (F : Nat → Nat → Int32) (po rd al : Int32) (B : Nat → Nat → Int32) (nq tnq kq : Nat) (Nq Zq Sq Pq Vq : Nat → Int32) (Fq : Nat → Nat → Int32) (poq rdq alq : Int32) (t : Nat → Nat) (hty : ty ≤ 60) (htt : ∀ j, t j < 65536) : CT l yX6_textFault wsX6_textFault 1 22 D G [.ref mo] [(mo, .inr (6, [.ref sa, .ref be, .int (nI kn), .ref ke, .int (zB ik), .ref te, .int (nI ty)])), (sa, .inl (G 0, 117, .inl (enc n N Z tn po rd al k S P V F))), (be, .inl (G 0, 468, .inl (bf B))), (ke, .inl (G 0, 117, .inl (enc nq Nq Zq tnq poq rdq alq kq Sq Pq Vq Fq))), (te, .inl (G 0, 60, .inl (ch t)))] [(mo, .inr (6, [.ref sa, .ref be, .int (nI kn), .ref ke, .int (zB ik), .ref te, .int (nI ty)])), (sa, .inl (G 0, 117, .inl (enc n N Z tn po rd al k S P V F))), (be, .inl (G 0, 468, .inl (bf B))), (ke, .inl (G 0, 117, .inl (enc nq Nq Zq tnq poq rdq alq kq Sq Pq Vq Fq))), (te, .inl (G 0, 60, .inl (ch t)))] (some (.int (tfR t ty))) := by
  rcases Nat.eq_zero_or_pos ty with h | h
  · exact mX6_textFault_z l D G mo sa be ke te kn ty ik n tn k N Z S P V F po rd al B nq tnq kq Nq Zq Sq Pq Vq Fq poq rdq alq t h
  · rcases side_cs (t := t) (le := ty) with h2 | h2 | h2
    · exact mX6_textFault_n l D G mo sa be ke te kn ty ik n tn k N Z S P V F po rd al B nq tnq kq Nq Zq Sq Pq Vq Fq poq rdq alq t hty h htt h2
    · exact mX6_textFault_3 l D G mo sa be ke te kn ty ik n tn k N Z S P V F po rd al B nq tnq kq Nq Zq Sq Pq Vq Fq poq rdq alq t hty htt h2
    · exact mX6_textFault_4 l D G mo sa be ke te kn ty ik n tn k N Z S P V F po rd al B nq tnq kq Nq Zq Sq Pq Vq Fq poq rdq alq t hty htt h2

set_option maxHeartbeats 4000000 in
set_option maxRecDepth 100000 in
theorem mX6_read_err (l : Launch) (D : va_G) (G : Nat → ClassId) (mo sa be ke te kn ty : Nat) (ik : Bool) (n tn k : Nat) (N Z S P V : Nat → Int32) (F : Nat → Nat → Int32) (po rd al : Int32) (B : Nat → Nat → Int32) (nq tnq kq : Nat) (Nq Zq Sq Pq Vq : Nat → Int32) (Fq : Nat → Nat → Int32) (poq rdq alq : Int32) (t : Nat → Nat) (hty : ty ≤ 60) (htt : ∀ j, t j < 65536) (hE : ¬ flc t ty = -1) : CT l yX6_read wsX6_read 4 92 D G [.ref mo] [(mo, .inr (6, [.ref sa, .ref be, .int (nI kn), .ref ke, .int (zB ik), .ref te, .int (nI ty)])), (sa, .inl (G 0, 117, .inl (enc n N Z tn po rd al k S P V F))), (be, .inl (G 0, 468, .inl (bf B))), (ke, .inl (G 0, 117, .inl (enc nq Nq Zq tnq poq rdq alq kq Sq Pq Vq Fq))), (te, .inl (G 0, 60, .inl (ch t)))] [(mo, .inr (6, [.ref sa, .ref be, .int (nI kn), .ref ke, .int (zB ik), .ref te, .int (nI ty)])), (sa, .inl (G 0, 117, .inl (enc n N Z tn po rd al k S P V F))), (be, .inl (G 0, 468, .inl (bf B))), (ke, .inl (G 0, 117, .inl (enc nq Nq Zq tnq poq rdq alq kq Sq Pq Vq Fq))), (te, .inl (G 0, 60, .inl (ch t)))] (some (.int ((-100) - flc t ty))) := by
  refine CT.of (cc := cX6_read) (maxL := 3) (ret := (some .int)) (by decide) rfl RX6 rfl (Nat.le_of_ble_eq_true rfl) (fun pp ee s mm bl me cc A ls hx hb hr hml hts hown hlk hnm hA hP hK hD hN hS hl => ?_)
  have hl : lv_has ls 3 [(0, .ref mo)] := hl
  have hP : va_P D vwCl [(mo, .inr (6, [.ref sa, .ref be, .int (nI kn), .ref ke, .int (zB ik), .ref te, .int (nI ty)])), (sa, .inl (G 0, 117, .inl (enc n N Z tn po rd al k S P V F))), (be, .inl (G 0, 468, .inl (bf B))), (ke, .inl (G 0, 117, .inl (enc nq Nq Zq tnq poq rdq alq kq Sq Pq Vq Fq))), (te, .inl (G 0, 60, .inl (ch t)))] s.heap := hP
  refine lv_aload_n hx hb dX6_read_0 rfl (lv_at hl 0 rfl) ?_
  refine cVr (As := []) (rest := []) ⟨hx, hb, hml, hown, hts⟩ hP hK hD hS hN hA (mX6_textFault l D G mo sa be ke te kn ty ik n tn k N Z S P V F po rd al B nq tnq kq Nq Zq Sq Pq Vq Fq poq rdq alq t (by first | assumption | omega) (by first | assumption | omega)) (cwV 0 hts gX6_read_X6_textFault rfl rfl rfl (by decide +kernel) ⟨Nat.le_of_ble_eq_true rfl, Nat.le_of_ble_eq_true rfl⟩) [0, 1, 2, 3, 4] rfl (by decide) 0 6 rfl rfl rfl hl.1 rfl (Nat.le_of_ble_eq_true rfl) dX6_read_1 ⟨Nat.zero_le _, Nat.zero_le _⟩ (fun H locs hP hS => ?_)
  refine lv_istore_n (lv' := [(1, .int (tfR t ty)), (0, .ref mo)]) hx hb dX6_read_4 rfl hl (by decide) rfl (fun ls hl => ?_)
  refine lv_iload_n hx hb dX6_read_5 rfl (lv_at hl 0 rfl) ?_
  refine lv_bipush (v := -5) hx hb dX6_read_6 (by decide +kernel) ?_
  refine lv_icmp_eq (tgt := 16) hx hb dX6_read_8 (by decide)  (fun c1 => absurd ((tfR_m5 hty).mp c1) hE) (fun c1 => ?_)
  refine lv_bipush (v := -100) hx hb dX6_read_11 (by decide +kernel) ?_
  refine lv_iload_n hx hb dX6_read_13 rfl (lv_at hl 0 rfl) ?_
  refine lv_isub hx hb dX6_read_14 ?_
  refine rTop (show ((-100) - tfR t ty) = (-100) - flc t ty from by rw [tfR_no hE]) ?_
  exact rIret hx hb hr hlk hP hK hD hS dX6_read_15

set_option maxHeartbeats 4000000 in
set_option maxRecDepth 100000 in
theorem mX6_read_3 (l : Launch) (D : va_G) (G : Nat → ClassId) (mo sa be ke te kn ty : Nat) (ik : Bool) (n tn k : Nat) (N Z S P V : Nat → Int32) (F : Nat → Nat → Int32) (po rd al : Int32) (B : Nat → Nat → Int32) (nq tnq kq : Nat) (Nq Zq Sq Pq Vq : Nat → Int32) (Fq : Nat → Nat → Int32) (poq rdq alq : Int32) (t : Nat → Nat) (hkn : kn ≤ 4) (hk : k ≤ 10) (hty : ty ≤ 60) (htt : ∀ j, t j < 65536) (hE : flc t ty = -1) (hsd : sideOf t ty = 3) (hl : ty = 9) : CT l yX6_read wsX6_read 4 92 D G [.ref mo] [(mo, .inr (6, [.ref sa, .ref be, .int (nI kn), .ref ke, .int (zB ik), .ref te, .int (nI ty)])), (sa, .inl (G 0, 117, .inl (enc n N Z tn po rd al k S P V F))), (be, .inl (G 0, 468, .inl (bf B))), (ke, .inl (G 0, 117, .inl (enc nq Nq Zq tnq poq rdq alq kq Sq Pq Vq Fq))), (te, .inl (G 0, 60, .inl (ch t)))] [(mo, .inr (6, [.ref sa, .ref be, .int (nI (mn kn)), .ref ke, .int (zB ik), .ref te, .int (nI ty)])), (sa, .inl (G 0, 117, .inl (enc 3 (fst_ (nrA t ty) N ty) zr tn (po + aa F k) (nI 0) al 0 S P V F))), (be, .inl (G 0, 468, .inl (bf (kB B kn (enc n N Z tn po rd al k S P V F))))), (ke, .inl (G 0, 117, .inl (enc nq Nq Zq tnq poq rdq alq kq Sq Pq Vq Fq))), (te, .inl (G 0, 60, .inl (ch t)))] (some (.int (wof 3 (fst_ (nrA t ty) N ty)))) := by
  refine CT.of (cc := cX6_read) (maxL := 3) (ret := (some .int)) (by decide) rfl RX6 rfl (Nat.le_of_ble_eq_true rfl) (fun pp ee s mm bl me cc A ls hx hb hr hml hts hown hlk hnm hA hP hK hD hN hS hl => ?_)
  have hl : lv_has ls 3 [(0, .ref mo)] := hl
  have hP : va_P D vwCl [(mo, .inr (6, [.ref sa, .ref be, .int (nI kn), .ref ke, .int (zB ik), .ref te, .int (nI ty)])), (sa, .inl (G 0, 117, .inl (enc n N Z tn po rd al k S P V F))), (be, .inl (G 0, 468, .inl (bf B))), (ke, .inl (G 0, 117, .inl (enc nq Nq Zq tnq poq rdq alq kq Sq Pq Vq Fq))), (te, .inl (G 0, 60, .inl (ch t)))] s.heap := hP
  have inX6 : ∀ w ∈ wsX60, w ∈ wsX6_read := fun w h => List.mem_cons_of_mem _ (List.mem_append_right _ h)
  have k7 := hts (.fieldLink RX6 7 "SquareStakesModel" "s" "[I") (List.mem_of_getElem? (i := 1) rfl)
  have k90 := hts (.fieldLink RX6 90 "SquareStakesModel" "typed" "I") (List.mem_of_getElem? (i := 2) rfl)
  have k19 := hts (.fieldLink RX6 19 "SquareStakesModel" "text" "[I") (List.mem_of_getElem? (i := 3) rfl)
  refine lv_aload_n hx hb dX6_read_0 rfl (lv_at hl 0 rfl) ?_
  refine cVr (As := []) (rest := []) ⟨hx, hb, hml, hown, hts⟩ hP hK hD hS hN hA (mX6_textFault l D G mo sa be ke te kn ty ik n tn k N Z S P V F po rd al B nq tnq kq Nq Zq Sq Pq Vq Fq poq rdq alq t (by first | assumption | omega) (by first | assumption | omega)) (cwV 0 hts gX6_read_X6_textFault rfl rfl rfl (by decide +kernel) ⟨Nat.le_of_ble_eq_true rfl, Nat.le_of_ble_eq_true rfl⟩) [0, 1, 2, 3, 4] rfl (by decide) 0 6 rfl rfl rfl hl.1 rfl (Nat.le_of_ble_eq_true rfl) dX6_read_1 ⟨Nat.zero_le _, Nat.zero_le _⟩ (fun H locs hP hS => ?_)
  refine lv_istore_n (lv' := [(1, .int (tfR t ty)), (0, .ref mo)]) hx hb dX6_read_4 rfl hl (by decide) rfl (fun ls hl => ?_)
  refine lv_iload_n hx hb dX6_read_5 rfl (lv_at hl 0 rfl) ?_
  refine lv_bipush (v := -5) hx hb dX6_read_6 (by decide +kernel) ?_
  refine lv_icmp_eq (tgt := 16) hx hb dX6_read_8 (by decide)  (fun c1 => ?_) (fun c1 => absurd ((tfR_m5 hty).mpr hE) c1)
  refine lv_aload_n hx hb dX6_read_16 rfl (lv_at hl 1 rfl) ?_
  refine cV (As := []) (rest := []) ⟨hx, hb, hml, hown, hts⟩ hP hK hD hS hN hA (mX6_know l D G mo sa be ke te kn ty ik n tn k N Z S P V F po rd al B (by first | assumption | omega)) (cwV 0 hts gX6_read_X6_know rfl rfl rfl (by decide +kernel) ⟨Nat.le_of_ble_eq_true rfl, Nat.le_of_ble_eq_true rfl⟩) [0, 1, 2] rfl (by decide) (Eq.trans (b := [mo, sa, be]) rfl rfl) 0 6 rfl rfl rfl hl.1 rfl (Nat.le_of_ble_eq_true rfl) dX6_read_17 ⟨Nat.zero_le _, Nat.zero_le _⟩ (fun H locs hP hD hS => ?_)
  have hP : va_P D vwCl [(mo, .inr (6, [.ref sa, .ref be, .int (nI (mn kn)), .ref ke, .int (zB ik), .ref te, .int (nI ty)])), (sa, .inl (G 0, 117, .inl (enc n N Z tn po rd al k S P V F))), (be, .inl (G 0, 468, .inl (bf (kB B kn (enc n N Z tn po rd al k S P V F))))), (ke, .inl (G 0, 117, .inl (enc nq Nq Zq tnq poq rdq alq kq Sq Pq Vq Fq))), (te, .inl (G 0, 60, .inl (ch t)))] H := hP
  have hD : va_D A [(mo, .inr (6, [.ref sa, .ref be, .int (nI (mn kn)), .ref ke, .int (zB ik), .ref te, .int (nI ty)])), (sa, .inl (G 0, 117, .inl (enc n N Z tn po rd al k S P V F))), (be, .inl (G 0, 468, .inl (bf (kB B kn (enc n N Z tn po rd al k S P V F))))), (ke, .inl (G 0, 117, .inl (enc nq Nq Zq tnq poq rdq alq kq Sq Pq Vq Fq))), (te, .inl (G 0, 60, .inl (ch t)))] := hD
  refine lv_aload_n hx hb dX6_read_20 rfl (lv_at hl 1 rfl) ?_
  refine cV (As := []) (rest := []) ⟨hx, hb, hml, hown, hts⟩ hP hK hD hS hN hA (mX6_clear l D G mo sa be ke te (mn kn) ty ik n tn k N Z S P V F po rd al (by first | assumption | omega)) (cwV 0 hts gX6_read_X6_clear rfl rfl rfl (by decide +kernel) ⟨Nat.le_of_ble_eq_true rfl, Nat.le_of_ble_eq_true rfl⟩) [0, 1] rfl (by decide) (Eq.trans (b := [mo, sa]) rfl rfl) 0 6 rfl rfl rfl hl.1 rfl (Nat.le_of_ble_eq_true rfl) dX6_read_21 ⟨Nat.zero_le _, Nat.zero_le _⟩ (fun H locs hP hD hS => ?_)
  have hP : va_P D vwCl [(mo, .inr (6, [.ref sa, .ref be, .int (nI (mn kn)), .ref ke, .int (zB ik), .ref te, .int (nI ty)])), (sa, .inl (G 0, 117, .inl (enc n N zr tn (po + aa F k) (nI 0) al 0 S P V F))), (be, .inl (G 0, 468, .inl (bf (kB B kn (enc n N Z tn po rd al k S P V F))))), (ke, .inl (G 0, 117, .inl (enc nq Nq Zq tnq poq rdq alq kq Sq Pq Vq Fq))), (te, .inl (G 0, 60, .inl (ch t)))] H := hP
  have hD : va_D A [(mo, .inr (6, [.ref sa, .ref be, .int (nI (mn kn)), .ref ke, .int (zB ik), .ref te, .int (nI ty)])), (sa, .inl (G 0, 117, .inl (enc n N zr tn (po + aa F k) (nI 0) al 0 S P V F))), (be, .inl (G 0, 468, .inl (bf (kB B kn (enc n N Z tn po rd al k S P V F))))), (ke, .inl (G 0, 117, .inl (enc nq Nq Zq tnq poq rdq alq kq Sq Pq Vq Fq))), (te, .inl (G 0, 60, .inl (ch t)))] := hD
  refine lv_aload_n hx hb dX6_read_24 rfl (lv_at hl 1 rfl) ?_
  refine va_get (D := D) (ci := 6) (v := .ref sa) (C := RX6) (T := TX6) (N := 7) hx hb hts inX6 hown hK hP 0 rfl rfl 0 (by decide) k7 (fun _ h9 => h9) rfl dX6_read_25 ?_
  refine lv_iconst (v := nI 0) hx hb dX6_read_28 (by decide +kernel) ?_
  refine lv_aload_n hx hb dX6_read_29 rfl (lv_at hl 1 rfl) ?_
  refine va_get (D := D) (ci := 6) (v := .int (nI ty)) (C := RX6) (T := TX6) (N := 7) hx hb hts inX6 hown hK hP 0 rfl rfl 6 (by decide) k90 (fun _ h9 => h9) rfl dX6_read_30 ?_
  refine lv_bipush (v := nI 16) hx hb dX6_read_33 (by decide +kernel) ?_
  refine bNe (tgt := 42) hx hb dX6_read_35 (by decide) (by omega) (by omega) (fun c2 => ?_) (fun c2 => by exfalso; omega)
  refine lv_iconst (v := nI 3) hx hb dX6_read_42 (by decide +kernel) ?_
  refine rIast hx hb hK hP hD hS 1 rfl 0 (by omega) (by decide) dX6_read_43 (fun H locs hP hD hS => ?_)
  obtain ⟨hP, hD⟩ := wI (g := enc 3 N zr tn (po + aa F k) (nI 0) al 0 S P V F) hP hD 1 rfl (enc_w0 n N zr tn (po + aa F k) (nI 0) al 0 S P V F 3)
  replace hP : va_P D vwCl [(mo, .inr (6, [.ref sa, .ref be, .int (nI (mn kn)), .ref ke, .int (zB ik), .ref te, .int (nI ty)])), (sa, .inl (G 0, 117, .inl (enc 3 N zr tn (po + aa F k) (nI 0) al 0 S P V F))), (be, .inl (G 0, 468, .inl (bf (kB B kn (enc n N Z tn po rd al k S P V F))))), (ke, .inl (G 0, 117, .inl (enc nq Nq Zq tnq poq rdq alq kq Sq Pq Vq Fq))), (te, .inl (G 0, 60, .inl (ch t)))] _ := hP
  have hD : va_D A [(mo, .inr (6, [.ref sa, .ref be, .int (nI (mn kn)), .ref ke, .int (zB ik), .ref te, .int (nI ty)])), (sa, .inl (G 0, 117, .inl (enc 3 N zr tn (po + aa F k) (nI 0) al 0 S P V F))), (be, .inl (G 0, 468, .inl (bf (kB B kn (enc n N Z tn po rd al k S P V F))))), (ke, .inl (G 0, 117, .inl (enc nq Nq Zq tnq poq rdq alq kq Sq Pq Vq Fq))), (te, .inl (G 0, 60, .inl (ch t)))] := hD
  refine lv_iconst (v := nI 0) hx hb dX6_read_44 (by decide +kernel) ?_
  refine lv_istore_n (lv' := [(2, .int (nI 0)), (1, .int (tfR t ty)), (0, .ref mo)]) hx hb dX6_read_45 rfl hl (by decide) rfl (fun ls hl => ?_)
  have LP46 : ∀ (nn46 c_ : Nat), c_ ≤ ty → ty < c_ + nn46  → ∀ (H : Heap) (locs : List Loc), va_P D vwCl [(mo, .inr (6, [.ref sa, .ref be, .int (nI (mn kn)), .ref ke, .int (zB ik), .ref te, .int (nI ty)])), (sa, .inl (G 0, 117, .inl (enc 3 (fst_ (nrA t ty) N c_) zr tn (po + aa F k) (nI 0) al 0 S P V F))), (be, .inl (G 0, 468, .inl (bf (kB B kn (enc n N Z tn po rd al k S P V F))))), (ke, .inl (G 0, 117, .inl (enc nq Nq Zq tnq poq rdq alq kq Sq Pq Vq Fq))), (te, .inl (G 0, 60, .inl (ch t)))] H → va_D A [(mo, .inr (6, [.ref sa, .ref be, .int (nI (mn kn)), .ref ke, .int (zB ik), .ref te, .int (nI ty)])), (sa, .inl (G 0, 117, .inl (enc 3 (fst_ (nrA t ty) N c_) zr tn (po + aa F k) (nI 0) al 0 S P V F))), (be, .inl (G 0, 468, .inl (bf (kB B kn (enc n N Z tn po rd al k S P V F))))), (ke, .inl (G 0, 117, .inl (enc nq Nq Zq tnq poq rdq alq kq Sq Pq Vq Fq))), (te, .inl (G 0, 60, .inl (ch t)))] → va_S A s.heap H locs → ∀ ls : Array Slot, lv_has ls 3 [(2, .int (nI c_)), (1, .int (tfR t ty)), (0, .ref mo)] → W pp l ee (rmA 4 92) s mm ([.ref mo] : List Value).toArray bl me cc H locs 0 0 (MQ bl (Qres (some (.int (wof 3 (fst_ (nrA t ty) N ty)))) D G [(mo, .inr (6, [.ref sa, .ref be, .int (nI (mn kn)), .ref ke, .int (zB ik), .ref te, .int (nI ty)])), (sa, .inl (G 0, 117, .inl (enc 3 (fst_ (nrA t ty) N ty) zr tn (po + aa F k) (nI 0) al 0 S P V F))), (be, .inl (G 0, 468, .inl (bf (kB B kn (enc n N Z tn po rd al k S P V F))))), (ke, .inl (G 0, 117, .inl (enc nq Nq Zq tnq poq rdq alq kq Sq Pq Vq Fq))), (te, .inl (G 0, 60, .inl (ch t)))] A) ([.ref mo] : List Value).toArray s 0 0 A) (F0 mm 46 ls []) := by
    intro nn46
    induction nn46 with
    | zero => intro c_ h1 h2; exact absurd h2 (by omega)
    | succ nn46 ih46 =>
      intro c_ hkc_ hnc_  H locs hP hD hS ls hl
      refine lv_iload_n hx hb dX6_read_46 rfl (lv_at hl 0 rfl) ?_
      refine lv_aload_n hx hb dX6_read_47 rfl (lv_at hl 2 rfl) ?_
      refine va_get (D := D) (ci := 6) (v := .int (nI ty)) (C := RX6) (T := TX6) (N := 7) hx hb hts inX6 hown hK hP 0 rfl rfl 6 (by decide) k90 (fun _ h9 => h9) rfl dX6_read_48 ?_
      refine bGe (tgt := 94) hx hb dX6_read_51 (by decide) (by omega) (by omega) (fun c3 => ?_) (fun c3 => ?_)
      · obtain rfl : ty = c_ := by omega
        refine lv_aload_n hx hb dX6_read_94 rfl (lv_at hl 2 rfl) ?_
        refine cVr (As := []) (rest := []) ⟨hx, hb, hml, hown, hts⟩ hP hK hD hS hN hA (mX6_wayOff l D G mo sa be ke te (mn kn) ty ik 3 tn 0 (fst_ (nrA t ty) N ty) zr S P V F (po + aa F k) (nI 0) al (by first | exact Or.inl rfl | exact Or.inr rfl)) (cwV 0 hts gX6_read_X6_wayOff rfl rfl rfl (by decide +kernel) ⟨Nat.le_of_ble_eq_true rfl, Nat.le_of_ble_eq_true rfl⟩) [0, 1] rfl (by decide) 0 6 rfl rfl rfl hl.1 rfl (Nat.le_of_ble_eq_true rfl) dX6_read_95 ⟨Nat.zero_le _, Nat.zero_le _⟩ (fun H locs hP hS => ?_)
        exact rIret hx hb hr hlk hP hK hD hS dX6_read_98
      · refine lv_aload_n hx hb dX6_read_54 rfl (lv_at hl 2 rfl) ?_
        refine va_get (D := D) (ci := 6) (v := .ref sa) (C := RX6) (T := TX6) (N := 7) hx hb hts inX6 hown hK hP 0 rfl rfl 0 (by decide) k7 (fun _ h9 => h9) rfl dX6_read_55 ?_
        refine lv_bipush (v := nI 15) hx hb dX6_read_58 (by decide +kernel) ?_
        refine lv_iload_n hx hb dX6_read_60 rfl (lv_at hl 0 rfl) ?_
        refine lv_iadd hx hb dX6_read_61 ?_
        refine rTop (show nI 15 + nI c_ = nI (15 + c_) from nI_add 15 c_) ?_
        refine lv_aload_n hx hb dX6_read_62 rfl (lv_at hl 2 rfl) ?_
        refine va_get (D := D) (ci := 6) (v := .ref te) (C := RX6) (T := TX6) (N := 7) hx hb hts inX6 hown hK hP 0 rfl rfl 5 (by decide) k19 (fun _ h9 => h9) rfl dX6_read_63 ?_
        refine lv_iload_n hx hb dX6_read_66 rfl (lv_at hl 0 rfl) ?_
        refine rIald hx hb hK hP 4 rfl c_ (by omega) (by decide) dX6_read_67 ?_
        refine rTop (show ch t c_ = nI (t c_) from rfl) ?_
        refine lv_aload_n hx hb dX6_read_68 rfl (lv_at hl 2 rfl) ?_
        refine va_get (D := D) (ci := 6) (v := .int (nI ty)) (C := RX6) (T := TX6) (N := 7) hx hb hts inX6 hown hK hP 0 rfl rfl 6 (by decide) k90 (fun _ h9 => h9) rfl dX6_read_69 ?_
        refine lv_bipush (v := nI 16) hx hb dX6_read_72 (by decide +kernel) ?_
        refine bNe (tgt := 82) hx hb dX6_read_74 (by decide) (by omega) (by omega) (fun c4 => ?_) (fun c4 => by exfalso; omega)
        refine lv_bipush (v := nI 49) hx hb dX6_read_82 (by decide +kernel) ?_
        refine lv_isub hx hb dX6_read_84 ?_
        refine lv_iconst (v := nI 1) hx hb dX6_read_85 (by decide +kernel) ?_
        refine lv_iadd hx hb dX6_read_86 ?_
        refine rTop (show ((nI (t c_) - nI 49) + nI 1) = nrA t ty c_ from nrA_v (by omega) (by rw [hsd]; rfl)) ?_
        refine rIast hx hb hK hP hD hS 1 rfl (15 + c_) (by omega) (by decide) dX6_read_87 (fun H locs hP hD hS => ?_)
        obtain ⟨hP, hD⟩ := wI (g := enc 3 (upd (fst_ (nrA t ty) N c_) c_ (nrA t ty c_)) zr tn (po + aa F k) (nI 0) al 0 S P V F) hP hD 1 rfl (enc_wN 3 (fst_ (nrA t ty) N c_) zr tn (po + aa F k) (nI 0) al 0 S P V F c_ (by omega) (nrA t ty c_))
        replace hP : va_P D vwCl [(mo, .inr (6, [.ref sa, .ref be, .int (nI (mn kn)), .ref ke, .int (zB ik), .ref te, .int (nI ty)])), (sa, .inl (G 0, 117, .inl (enc 3 (upd (fst_ (nrA t ty) N c_) c_ (nrA t ty c_)) zr tn (po + aa F k) (nI 0) al 0 S P V F))), (be, .inl (G 0, 468, .inl (bf (kB B kn (enc n N Z tn po rd al k S P V F))))), (ke, .inl (G 0, 117, .inl (enc nq Nq Zq tnq poq rdq alq kq Sq Pq Vq Fq))), (te, .inl (G 0, 60, .inl (ch t)))] _ := hP
        have hD : va_D A [(mo, .inr (6, [.ref sa, .ref be, .int (nI (mn kn)), .ref ke, .int (zB ik), .ref te, .int (nI ty)])), (sa, .inl (G 0, 117, .inl (enc 3 (upd (fst_ (nrA t ty) N c_) c_ (nrA t ty c_)) zr tn (po + aa F k) (nI 0) al 0 S P V F))), (be, .inl (G 0, 468, .inl (bf (kB B kn (enc n N Z tn po rd al k S P V F))))), (ke, .inl (G 0, 117, .inl (enc nq Nq Zq tnq poq rdq alq kq Sq Pq Vq Fq))), (te, .inl (G 0, 60, .inl (ch t)))] := hD
        refine lv_iinc (v := nI (c_ + 1)) (lv' := [(2, .int (nI (c_ + 1))), (1, .int (tfR t ty)), (0, .ref mo)]) hx hb dX6_read_88 hl (k := 0) rfl (nI_inc c_) (by decide) rfl (fun ls hl => ?_)
        refine lv_goto (tgt := 46) hx hb dX6_read_91 (by decide) ?_
        obtain ⟨hP, hD⟩ := wI (g := enc 3 (fst_ (nrA t ty) N (c_ + 1)) zr tn (po + aa F k) (nI 0) al 0 S P V F) hP hD 1 rfl (fun j hj => congrFun (congrArg (fun NN => enc 3 NN zr tn (po + aa F k) (nI 0) al 0 S P V F) (show upd (fst_ (nrA t ty) N c_) c_ (nrA t ty c_) = fst_ (nrA t ty) N (c_ + 1) from funext fun _ => fst_s rfl)) j)
        replace hP : va_P D vwCl [(mo, .inr (6, [.ref sa, .ref be, .int (nI (mn kn)), .ref ke, .int (zB ik), .ref te, .int (nI ty)])), (sa, .inl (G 0, 117, .inl (enc 3 (fst_ (nrA t ty) N (c_ + 1)) zr tn (po + aa F k) (nI 0) al 0 S P V F))), (be, .inl (G 0, 468, .inl (bf (kB B kn (enc n N Z tn po rd al k S P V F))))), (ke, .inl (G 0, 117, .inl (enc nq Nq Zq tnq poq rdq alq kq Sq Pq Vq Fq))), (te, .inl (G 0, 60, .inl (ch t)))] _ := hP
        have hD : va_D A [(mo, .inr (6, [.ref sa, .ref be, .int (nI (mn kn)), .ref ke, .int (zB ik), .ref te, .int (nI ty)])), (sa, .inl (G 0, 117, .inl (enc 3 (fst_ (nrA t ty) N (c_ + 1)) zr tn (po + aa F k) (nI 0) al 0 S P V F))), (be, .inl (G 0, 468, .inl (bf (kB B kn (enc n N Z tn po rd al k S P V F))))), (ke, .inl (G 0, 117, .inl (enc nq Nq Zq tnq poq rdq alq kq Sq Pq Vq Fq))), (te, .inl (G 0, 60, .inl (ch t)))] := hD
        exact ih46 (c_ + 1) (by omega) (by omega)  _ _ hP hD hS _ (lv_sub hl [0, 1, 2] rfl)
  obtain ⟨hP, hD⟩ := wI (g := enc 3 (fst_ (nrA t ty) N 0) zr tn (po + aa F k) (nI 0) al 0 S P V F) hP hD 1 rfl (fun j hj => by rw [fst_0])
  replace hP : va_P D vwCl [(mo, .inr (6, [.ref sa, .ref be, .int (nI (mn kn)), .ref ke, .int (zB ik), .ref te, .int (nI ty)])), (sa, .inl (G 0, 117, .inl (enc 3 (fst_ (nrA t ty) N 0) zr tn (po + aa F k) (nI 0) al 0 S P V F))), (be, .inl (G 0, 468, .inl (bf (kB B kn (enc n N Z tn po rd al k S P V F))))), (ke, .inl (G 0, 117, .inl (enc nq Nq Zq tnq poq rdq alq kq Sq Pq Vq Fq))), (te, .inl (G 0, 60, .inl (ch t)))] _ := hP
  have hD : va_D A [(mo, .inr (6, [.ref sa, .ref be, .int (nI (mn kn)), .ref ke, .int (zB ik), .ref te, .int (nI ty)])), (sa, .inl (G 0, 117, .inl (enc 3 (fst_ (nrA t ty) N 0) zr tn (po + aa F k) (nI 0) al 0 S P V F))), (be, .inl (G 0, 468, .inl (bf (kB B kn (enc n N Z tn po rd al k S P V F))))), (ke, .inl (G 0, 117, .inl (enc nq Nq Zq tnq poq rdq alq kq Sq Pq Vq Fq))), (te, .inl (G 0, 60, .inl (ch t)))] := hD
  exact LP46 (ty + 1 - 0) 0 (by omega) (by omega)  _ _ hP hD hS _ (lv_sub hl [0, 1, 2] rfl)

set_option maxHeartbeats 4000000 in
set_option maxRecDepth 100000 in
theorem mX6_read_4 (l : Launch) (D : va_G) (G : Nat → ClassId) (mo sa be ke te kn ty : Nat) (ik : Bool) (n tn k : Nat) (N Z S P V : Nat → Int32) (F : Nat → Nat → Int32) (po rd al : Int32) (B : Nat → Nat → Int32) (nq tnq kq : Nat) (Nq Zq Sq Pq Vq : Nat → Int32) (Fq : Nat → Nat → Int32) (poq rdq alq : Int32) (t : Nat → Nat) (hkn : kn ≤ 4) (hk : k ≤ 10) (hty : ty ≤ 60) (htt : ∀ j, t j < 65536) (hE : flc t ty = -1) (hsd : sideOf t ty = 4) (hl : ty = 16) : CT l yX6_read wsX6_read 4 92 D G [.ref mo] [(mo, .inr (6, [.ref sa, .ref be, .int (nI kn), .ref ke, .int (zB ik), .ref te, .int (nI ty)])), (sa, .inl (G 0, 117, .inl (enc n N Z tn po rd al k S P V F))), (be, .inl (G 0, 468, .inl (bf B))), (ke, .inl (G 0, 117, .inl (enc nq Nq Zq tnq poq rdq alq kq Sq Pq Vq Fq))), (te, .inl (G 0, 60, .inl (ch t)))] [(mo, .inr (6, [.ref sa, .ref be, .int (nI (mn kn)), .ref ke, .int (zB ik), .ref te, .int (nI ty)])), (sa, .inl (G 0, 117, .inl (enc 4 (fst_ (nrA t ty) N ty) zr tn (po + aa F k) (nI 0) al 0 S P V F))), (be, .inl (G 0, 468, .inl (bf (kB B kn (enc n N Z tn po rd al k S P V F))))), (ke, .inl (G 0, 117, .inl (enc nq Nq Zq tnq poq rdq alq kq Sq Pq Vq Fq))), (te, .inl (G 0, 60, .inl (ch t)))] (some (.int (wof 4 (fst_ (nrA t ty) N ty)))) := by
  refine CT.of (cc := cX6_read) (maxL := 3) (ret := (some .int)) (by decide) rfl RX6 rfl (Nat.le_of_ble_eq_true rfl) (fun pp ee s mm bl me cc A ls hx hb hr hml hts hown hlk hnm hA hP hK hD hN hS hl => ?_)
  have hl : lv_has ls 3 [(0, .ref mo)] := hl
  have hP : va_P D vwCl [(mo, .inr (6, [.ref sa, .ref be, .int (nI kn), .ref ke, .int (zB ik), .ref te, .int (nI ty)])), (sa, .inl (G 0, 117, .inl (enc n N Z tn po rd al k S P V F))), (be, .inl (G 0, 468, .inl (bf B))), (ke, .inl (G 0, 117, .inl (enc nq Nq Zq tnq poq rdq alq kq Sq Pq Vq Fq))), (te, .inl (G 0, 60, .inl (ch t)))] s.heap := hP
  have inX6 : ∀ w ∈ wsX60, w ∈ wsX6_read := fun w h => List.mem_cons_of_mem _ (List.mem_append_right _ h)
  have k7 := hts (.fieldLink RX6 7 "SquareStakesModel" "s" "[I") (List.mem_of_getElem? (i := 1) rfl)
  have k90 := hts (.fieldLink RX6 90 "SquareStakesModel" "typed" "I") (List.mem_of_getElem? (i := 2) rfl)
  have k19 := hts (.fieldLink RX6 19 "SquareStakesModel" "text" "[I") (List.mem_of_getElem? (i := 3) rfl)
  refine lv_aload_n hx hb dX6_read_0 rfl (lv_at hl 0 rfl) ?_
  refine cVr (As := []) (rest := []) ⟨hx, hb, hml, hown, hts⟩ hP hK hD hS hN hA (mX6_textFault l D G mo sa be ke te kn ty ik n tn k N Z S P V F po rd al B nq tnq kq Nq Zq Sq Pq Vq Fq poq rdq alq t (by first | assumption | omega) (by first | assumption | omega)) (cwV 0 hts gX6_read_X6_textFault rfl rfl rfl (by decide +kernel) ⟨Nat.le_of_ble_eq_true rfl, Nat.le_of_ble_eq_true rfl⟩) [0, 1, 2, 3, 4] rfl (by decide) 0 6 rfl rfl rfl hl.1 rfl (Nat.le_of_ble_eq_true rfl) dX6_read_1 ⟨Nat.zero_le _, Nat.zero_le _⟩ (fun H locs hP hS => ?_)
  refine lv_istore_n (lv' := [(1, .int (tfR t ty)), (0, .ref mo)]) hx hb dX6_read_4 rfl hl (by decide) rfl (fun ls hl => ?_)
  refine lv_iload_n hx hb dX6_read_5 rfl (lv_at hl 0 rfl) ?_
  refine lv_bipush (v := -5) hx hb dX6_read_6 (by decide +kernel) ?_
  refine lv_icmp_eq (tgt := 16) hx hb dX6_read_8 (by decide)  (fun c1 => ?_) (fun c1 => absurd ((tfR_m5 hty).mpr hE) c1)
  refine lv_aload_n hx hb dX6_read_16 rfl (lv_at hl 1 rfl) ?_
  refine cV (As := []) (rest := []) ⟨hx, hb, hml, hown, hts⟩ hP hK hD hS hN hA (mX6_know l D G mo sa be ke te kn ty ik n tn k N Z S P V F po rd al B (by first | assumption | omega)) (cwV 0 hts gX6_read_X6_know rfl rfl rfl (by decide +kernel) ⟨Nat.le_of_ble_eq_true rfl, Nat.le_of_ble_eq_true rfl⟩) [0, 1, 2] rfl (by decide) (Eq.trans (b := [mo, sa, be]) rfl rfl) 0 6 rfl rfl rfl hl.1 rfl (Nat.le_of_ble_eq_true rfl) dX6_read_17 ⟨Nat.zero_le _, Nat.zero_le _⟩ (fun H locs hP hD hS => ?_)
  have hP : va_P D vwCl [(mo, .inr (6, [.ref sa, .ref be, .int (nI (mn kn)), .ref ke, .int (zB ik), .ref te, .int (nI ty)])), (sa, .inl (G 0, 117, .inl (enc n N Z tn po rd al k S P V F))), (be, .inl (G 0, 468, .inl (bf (kB B kn (enc n N Z tn po rd al k S P V F))))), (ke, .inl (G 0, 117, .inl (enc nq Nq Zq tnq poq rdq alq kq Sq Pq Vq Fq))), (te, .inl (G 0, 60, .inl (ch t)))] H := hP
  have hD : va_D A [(mo, .inr (6, [.ref sa, .ref be, .int (nI (mn kn)), .ref ke, .int (zB ik), .ref te, .int (nI ty)])), (sa, .inl (G 0, 117, .inl (enc n N Z tn po rd al k S P V F))), (be, .inl (G 0, 468, .inl (bf (kB B kn (enc n N Z tn po rd al k S P V F))))), (ke, .inl (G 0, 117, .inl (enc nq Nq Zq tnq poq rdq alq kq Sq Pq Vq Fq))), (te, .inl (G 0, 60, .inl (ch t)))] := hD
  refine lv_aload_n hx hb dX6_read_20 rfl (lv_at hl 1 rfl) ?_
  refine cV (As := []) (rest := []) ⟨hx, hb, hml, hown, hts⟩ hP hK hD hS hN hA (mX6_clear l D G mo sa be ke te (mn kn) ty ik n tn k N Z S P V F po rd al (by first | assumption | omega)) (cwV 0 hts gX6_read_X6_clear rfl rfl rfl (by decide +kernel) ⟨Nat.le_of_ble_eq_true rfl, Nat.le_of_ble_eq_true rfl⟩) [0, 1] rfl (by decide) (Eq.trans (b := [mo, sa]) rfl rfl) 0 6 rfl rfl rfl hl.1 rfl (Nat.le_of_ble_eq_true rfl) dX6_read_21 ⟨Nat.zero_le _, Nat.zero_le _⟩ (fun H locs hP hD hS => ?_)
  have hP : va_P D vwCl [(mo, .inr (6, [.ref sa, .ref be, .int (nI (mn kn)), .ref ke, .int (zB ik), .ref te, .int (nI ty)])), (sa, .inl (G 0, 117, .inl (enc n N zr tn (po + aa F k) (nI 0) al 0 S P V F))), (be, .inl (G 0, 468, .inl (bf (kB B kn (enc n N Z tn po rd al k S P V F))))), (ke, .inl (G 0, 117, .inl (enc nq Nq Zq tnq poq rdq alq kq Sq Pq Vq Fq))), (te, .inl (G 0, 60, .inl (ch t)))] H := hP
  have hD : va_D A [(mo, .inr (6, [.ref sa, .ref be, .int (nI (mn kn)), .ref ke, .int (zB ik), .ref te, .int (nI ty)])), (sa, .inl (G 0, 117, .inl (enc n N zr tn (po + aa F k) (nI 0) al 0 S P V F))), (be, .inl (G 0, 468, .inl (bf (kB B kn (enc n N Z tn po rd al k S P V F))))), (ke, .inl (G 0, 117, .inl (enc nq Nq Zq tnq poq rdq alq kq Sq Pq Vq Fq))), (te, .inl (G 0, 60, .inl (ch t)))] := hD
  refine lv_aload_n hx hb dX6_read_24 rfl (lv_at hl 1 rfl) ?_
  refine va_get (D := D) (ci := 6) (v := .ref sa) (C := RX6) (T := TX6) (N := 7) hx hb hts inX6 hown hK hP 0 rfl rfl 0 (by decide) k7 (fun _ h9 => h9) rfl dX6_read_25 ?_
  refine lv_iconst (v := nI 0) hx hb dX6_read_28 (by decide +kernel) ?_
  refine lv_aload_n hx hb dX6_read_29 rfl (lv_at hl 1 rfl) ?_
  refine va_get (D := D) (ci := 6) (v := .int (nI ty)) (C := RX6) (T := TX6) (N := 7) hx hb hts inX6 hown hK hP 0 rfl rfl 6 (by decide) k90 (fun _ h9 => h9) rfl dX6_read_30 ?_
  refine lv_bipush (v := nI 16) hx hb dX6_read_33 (by decide +kernel) ?_
  refine bNe (tgt := 42) hx hb dX6_read_35 (by decide) (by omega) (by omega) (fun c2 => by exfalso; omega) (fun c2 => ?_)
  refine lv_iconst (v := nI 4) hx hb dX6_read_38 (by decide +kernel) ?_
  refine lv_goto (tgt := 43) hx hb dX6_read_39 (by decide) ?_
  refine rIast hx hb hK hP hD hS 1 rfl 0 (by omega) (by decide) dX6_read_43 (fun H locs hP hD hS => ?_)
  obtain ⟨hP, hD⟩ := wI (g := enc 4 N zr tn (po + aa F k) (nI 0) al 0 S P V F) hP hD 1 rfl (enc_w0 n N zr tn (po + aa F k) (nI 0) al 0 S P V F 4)
  replace hP : va_P D vwCl [(mo, .inr (6, [.ref sa, .ref be, .int (nI (mn kn)), .ref ke, .int (zB ik), .ref te, .int (nI ty)])), (sa, .inl (G 0, 117, .inl (enc 4 N zr tn (po + aa F k) (nI 0) al 0 S P V F))), (be, .inl (G 0, 468, .inl (bf (kB B kn (enc n N Z tn po rd al k S P V F))))), (ke, .inl (G 0, 117, .inl (enc nq Nq Zq tnq poq rdq alq kq Sq Pq Vq Fq))), (te, .inl (G 0, 60, .inl (ch t)))] _ := hP
  have hD : va_D A [(mo, .inr (6, [.ref sa, .ref be, .int (nI (mn kn)), .ref ke, .int (zB ik), .ref te, .int (nI ty)])), (sa, .inl (G 0, 117, .inl (enc 4 N zr tn (po + aa F k) (nI 0) al 0 S P V F))), (be, .inl (G 0, 468, .inl (bf (kB B kn (enc n N Z tn po rd al k S P V F))))), (ke, .inl (G 0, 117, .inl (enc nq Nq Zq tnq poq rdq alq kq Sq Pq Vq Fq))), (te, .inl (G 0, 60, .inl (ch t)))] := hD
  refine lv_iconst (v := nI 0) hx hb dX6_read_44 (by decide +kernel) ?_
  refine lv_istore_n (lv' := [(2, .int (nI 0)), (1, .int (tfR t ty)), (0, .ref mo)]) hx hb dX6_read_45 rfl hl (by decide) rfl (fun ls hl => ?_)
  have LP46 : ∀ (nn46 c_ : Nat), c_ ≤ ty → ty < c_ + nn46  → ∀ (H : Heap) (locs : List Loc), va_P D vwCl [(mo, .inr (6, [.ref sa, .ref be, .int (nI (mn kn)), .ref ke, .int (zB ik), .ref te, .int (nI ty)])), (sa, .inl (G 0, 117, .inl (enc 4 (fst_ (nrA t ty) N c_) zr tn (po + aa F k) (nI 0) al 0 S P V F))), (be, .inl (G 0, 468, .inl (bf (kB B kn (enc n N Z tn po rd al k S P V F))))), (ke, .inl (G 0, 117, .inl (enc nq Nq Zq tnq poq rdq alq kq Sq Pq Vq Fq))), (te, .inl (G 0, 60, .inl (ch t)))] H → va_D A [(mo, .inr (6, [.ref sa, .ref be, .int (nI (mn kn)), .ref ke, .int (zB ik), .ref te, .int (nI ty)])), (sa, .inl (G 0, 117, .inl (enc 4 (fst_ (nrA t ty) N c_) zr tn (po + aa F k) (nI 0) al 0 S P V F))), (be, .inl (G 0, 468, .inl (bf (kB B kn (enc n N Z tn po rd al k S P V F))))), (ke, .inl (G 0, 117, .inl (enc nq Nq Zq tnq poq rdq alq kq Sq Pq Vq Fq))), (te, .inl (G 0, 60, .inl (ch t)))] → va_S A s.heap H locs → ∀ ls : Array Slot, lv_has ls 3 [(2, .int (nI c_)), (1, .int (tfR t ty)), (0, .ref mo)] → W pp l ee (rmA 4 92) s mm ([.ref mo] : List Value).toArray bl me cc H locs 0 0 (MQ bl (Qres (some (.int (wof 4 (fst_ (nrA t ty) N ty)))) D G [(mo, .inr (6, [.ref sa, .ref be, .int (nI (mn kn)), .ref ke, .int (zB ik), .ref te, .int (nI ty)])), (sa, .inl (G 0, 117, .inl (enc 4 (fst_ (nrA t ty) N ty) zr tn (po + aa F k) (nI 0) al 0 S P V F))), (be, .inl (G 0, 468, .inl (bf (kB B kn (enc n N Z tn po rd al k S P V F))))), (ke, .inl (G 0, 117, .inl (enc nq Nq Zq tnq poq rdq alq kq Sq Pq Vq Fq))), (te, .inl (G 0, 60, .inl (ch t)))] A) ([.ref mo] : List Value).toArray s 0 0 A) (F0 mm 46 ls []) := by
    intro nn46
    induction nn46 with
    | zero => intro c_ h1 h2; exact absurd h2 (by omega)
    | succ nn46 ih46 =>
      intro c_ hkc_ hnc_  H locs hP hD hS ls hl
      refine lv_iload_n hx hb dX6_read_46 rfl (lv_at hl 0 rfl) ?_
      refine lv_aload_n hx hb dX6_read_47 rfl (lv_at hl 2 rfl) ?_
      refine va_get (D := D) (ci := 6) (v := .int (nI ty)) (C := RX6) (T := TX6) (N := 7) hx hb hts inX6 hown hK hP 0 rfl rfl 6 (by decide) k90 (fun _ h9 => h9) rfl dX6_read_48 ?_
      refine bGe (tgt := 94) hx hb dX6_read_51 (by decide) (by omega) (by omega) (fun c3 => ?_) (fun c3 => ?_)
      · obtain rfl : ty = c_ := by omega
        refine lv_aload_n hx hb dX6_read_94 rfl (lv_at hl 2 rfl) ?_
        refine cVr (As := []) (rest := []) ⟨hx, hb, hml, hown, hts⟩ hP hK hD hS hN hA (mX6_wayOff l D G mo sa be ke te (mn kn) ty ik 4 tn 0 (fst_ (nrA t ty) N ty) zr S P V F (po + aa F k) (nI 0) al (by first | exact Or.inl rfl | exact Or.inr rfl)) (cwV 0 hts gX6_read_X6_wayOff rfl rfl rfl (by decide +kernel) ⟨Nat.le_of_ble_eq_true rfl, Nat.le_of_ble_eq_true rfl⟩) [0, 1] rfl (by decide) 0 6 rfl rfl rfl hl.1 rfl (Nat.le_of_ble_eq_true rfl) dX6_read_95 ⟨Nat.zero_le _, Nat.zero_le _⟩ (fun H locs hP hS => ?_)
        exact rIret hx hb hr hlk hP hK hD hS dX6_read_98
      · refine lv_aload_n hx hb dX6_read_54 rfl (lv_at hl 2 rfl) ?_
        refine va_get (D := D) (ci := 6) (v := .ref sa) (C := RX6) (T := TX6) (N := 7) hx hb hts inX6 hown hK hP 0 rfl rfl 0 (by decide) k7 (fun _ h9 => h9) rfl dX6_read_55 ?_
        refine lv_bipush (v := nI 15) hx hb dX6_read_58 (by decide +kernel) ?_
        refine lv_iload_n hx hb dX6_read_60 rfl (lv_at hl 0 rfl) ?_
        refine lv_iadd hx hb dX6_read_61 ?_
        refine rTop (show nI 15 + nI c_ = nI (15 + c_) from nI_add 15 c_) ?_
        refine lv_aload_n hx hb dX6_read_62 rfl (lv_at hl 2 rfl) ?_
        refine va_get (D := D) (ci := 6) (v := .ref te) (C := RX6) (T := TX6) (N := 7) hx hb hts inX6 hown hK hP 0 rfl rfl 5 (by decide) k19 (fun _ h9 => h9) rfl dX6_read_63 ?_
        refine lv_iload_n hx hb dX6_read_66 rfl (lv_at hl 0 rfl) ?_
        refine rIald hx hb hK hP 4 rfl c_ (by omega) (by decide) dX6_read_67 ?_
        refine rTop (show ch t c_ = nI (t c_) from rfl) ?_
        refine lv_aload_n hx hb dX6_read_68 rfl (lv_at hl 2 rfl) ?_
        refine va_get (D := D) (ci := 6) (v := .int (nI ty)) (C := RX6) (T := TX6) (N := 7) hx hb hts inX6 hown hK hP 0 rfl rfl 6 (by decide) k90 (fun _ h9 => h9) rfl dX6_read_69 ?_
        refine lv_bipush (v := nI 16) hx hb dX6_read_72 (by decide +kernel) ?_
        refine bNe (tgt := 82) hx hb dX6_read_74 (by decide) (by omega) (by omega) (fun c4 => by exfalso; omega) (fun c4 => ?_)
        refine lv_bipush (v := nI 97) hx hb dX6_read_77 (by decide +kernel) ?_
        refine lv_goto (tgt := 84) hx hb dX6_read_79 (by decide) ?_
        refine lv_isub hx hb dX6_read_84 ?_
        refine lv_iconst (v := nI 1) hx hb dX6_read_85 (by decide +kernel) ?_
        refine lv_iadd hx hb dX6_read_86 ?_
        refine rTop (show ((nI (t c_) - nI 97) + nI 1) = nrA t ty c_ from nrA_v (by omega) (by rw [hsd]; rfl)) ?_
        refine rIast hx hb hK hP hD hS 1 rfl (15 + c_) (by omega) (by decide) dX6_read_87 (fun H locs hP hD hS => ?_)
        obtain ⟨hP, hD⟩ := wI (g := enc 4 (upd (fst_ (nrA t ty) N c_) c_ (nrA t ty c_)) zr tn (po + aa F k) (nI 0) al 0 S P V F) hP hD 1 rfl (enc_wN 4 (fst_ (nrA t ty) N c_) zr tn (po + aa F k) (nI 0) al 0 S P V F c_ (by omega) (nrA t ty c_))
        replace hP : va_P D vwCl [(mo, .inr (6, [.ref sa, .ref be, .int (nI (mn kn)), .ref ke, .int (zB ik), .ref te, .int (nI ty)])), (sa, .inl (G 0, 117, .inl (enc 4 (upd (fst_ (nrA t ty) N c_) c_ (nrA t ty c_)) zr tn (po + aa F k) (nI 0) al 0 S P V F))), (be, .inl (G 0, 468, .inl (bf (kB B kn (enc n N Z tn po rd al k S P V F))))), (ke, .inl (G 0, 117, .inl (enc nq Nq Zq tnq poq rdq alq kq Sq Pq Vq Fq))), (te, .inl (G 0, 60, .inl (ch t)))] _ := hP
        have hD : va_D A [(mo, .inr (6, [.ref sa, .ref be, .int (nI (mn kn)), .ref ke, .int (zB ik), .ref te, .int (nI ty)])), (sa, .inl (G 0, 117, .inl (enc 4 (upd (fst_ (nrA t ty) N c_) c_ (nrA t ty c_)) zr tn (po + aa F k) (nI 0) al 0 S P V F))), (be, .inl (G 0, 468, .inl (bf (kB B kn (enc n N Z tn po rd al k S P V F))))), (ke, .inl (G 0, 117, .inl (enc nq Nq Zq tnq poq rdq alq kq Sq Pq Vq Fq))), (te, .inl (G 0, 60, .inl (ch t)))] := hD
        refine lv_iinc (v := nI (c_ + 1)) (lv' := [(2, .int (nI (c_ + 1))), (1, .int (tfR t ty)), (0, .ref mo)]) hx hb dX6_read_88 hl (k := 0) rfl (nI_inc c_) (by decide) rfl (fun ls hl => ?_)
        refine lv_goto (tgt := 46) hx hb dX6_read_91 (by decide) ?_
        obtain ⟨hP, hD⟩ := wI (g := enc 4 (fst_ (nrA t ty) N (c_ + 1)) zr tn (po + aa F k) (nI 0) al 0 S P V F) hP hD 1 rfl (fun j hj => congrFun (congrArg (fun NN => enc 4 NN zr tn (po + aa F k) (nI 0) al 0 S P V F) (show upd (fst_ (nrA t ty) N c_) c_ (nrA t ty c_) = fst_ (nrA t ty) N (c_ + 1) from funext fun _ => fst_s rfl)) j)
        replace hP : va_P D vwCl [(mo, .inr (6, [.ref sa, .ref be, .int (nI (mn kn)), .ref ke, .int (zB ik), .ref te, .int (nI ty)])), (sa, .inl (G 0, 117, .inl (enc 4 (fst_ (nrA t ty) N (c_ + 1)) zr tn (po + aa F k) (nI 0) al 0 S P V F))), (be, .inl (G 0, 468, .inl (bf (kB B kn (enc n N Z tn po rd al k S P V F))))), (ke, .inl (G 0, 117, .inl (enc nq Nq Zq tnq poq rdq alq kq Sq Pq Vq Fq))), (te, .inl (G 0, 60, .inl (ch t)))] _ := hP
        have hD : va_D A [(mo, .inr (6, [.ref sa, .ref be, .int (nI (mn kn)), .ref ke, .int (zB ik), .ref te, .int (nI ty)])), (sa, .inl (G 0, 117, .inl (enc 4 (fst_ (nrA t ty) N (c_ + 1)) zr tn (po + aa F k) (nI 0) al 0 S P V F))), (be, .inl (G 0, 468, .inl (bf (kB B kn (enc n N Z tn po rd al k S P V F))))), (ke, .inl (G 0, 117, .inl (enc nq Nq Zq tnq poq rdq alq kq Sq Pq Vq Fq))), (te, .inl (G 0, 60, .inl (ch t)))] := hD
        exact ih46 (c_ + 1) (by omega) (by omega)  _ _ hP hD hS _ (lv_sub hl [0, 1, 2] rfl)
  obtain ⟨hP, hD⟩ := wI (g := enc 4 (fst_ (nrA t ty) N 0) zr tn (po + aa F k) (nI 0) al 0 S P V F) hP hD 1 rfl (fun j hj => by rw [fst_0])
  replace hP : va_P D vwCl [(mo, .inr (6, [.ref sa, .ref be, .int (nI (mn kn)), .ref ke, .int (zB ik), .ref te, .int (nI ty)])), (sa, .inl (G 0, 117, .inl (enc 4 (fst_ (nrA t ty) N 0) zr tn (po + aa F k) (nI 0) al 0 S P V F))), (be, .inl (G 0, 468, .inl (bf (kB B kn (enc n N Z tn po rd al k S P V F))))), (ke, .inl (G 0, 117, .inl (enc nq Nq Zq tnq poq rdq alq kq Sq Pq Vq Fq))), (te, .inl (G 0, 60, .inl (ch t)))] _ := hP
  have hD : va_D A [(mo, .inr (6, [.ref sa, .ref be, .int (nI (mn kn)), .ref ke, .int (zB ik), .ref te, .int (nI ty)])), (sa, .inl (G 0, 117, .inl (enc 4 (fst_ (nrA t ty) N 0) zr tn (po + aa F k) (nI 0) al 0 S P V F))), (be, .inl (G 0, 468, .inl (bf (kB B kn (enc n N Z tn po rd al k S P V F))))), (ke, .inl (G 0, 117, .inl (enc nq Nq Zq tnq poq rdq alq kq Sq Pq Vq Fq))), (te, .inl (G 0, 60, .inl (ch t)))] := hD
  exact LP46 (ty + 1 - 0) 0 (by omega) (by omega)  _ _ hP hD hS _ (lv_sub hl [0, 1, 2] rfl)

set_option maxHeartbeats 4000000 in
set_option maxRecDepth 100000 in
theorem mX6_pass (l : Launch) (D : va_G) (G : Nat → ClassId) (mo sa be ke te kn ty : Nat) (ik : Bool) (n tn k : Nat) (N Z S P V : Nat → Int32) (F : Nat → Nat → Int32) (po rd al : Int32) (B : Nat → Nat → Int32) (nq tnq kq : Nat) (Nq Zq Sq Pq Vq : Nat → Int32) (Fq : Nat → Nat → Int32) (poq rdq alq : Int32) (t : Nat → Nat) (hkn : kn ≤ 4) (ht : tn < 3) : CT l yX6_pass wsX6_pass 1 21 D G [.ref mo] [(mo, .inr (6, [.ref sa, .ref be, .int (nI kn), .ref ke, .int (zB ik), .ref te, .int (nI ty)])), (sa, .inl (G 0, 117, .inl (enc n N Z tn po rd al k S P V F))), (be, .inl (G 0, 468, .inl (bf B))), (ke, .inl (G 0, 117, .inl (enc nq Nq Zq tnq poq rdq alq kq Sq Pq Vq Fq))), (te, .inl (G 0, 60, .inl (ch t)))] [(mo, .inr (6, [.ref sa, .ref be, .int (nI (mn kn)), .ref ke, .int (zB ik), .ref te, .int (nI ty)])), (sa, .inl (G 0, 117, .inl (enc n N Z (nx tn) po rd al k S P V F))), (be, .inl (G 0, 468, .inl (bf (kB B kn (enc n N Z tn po rd al k S P V F))))), (ke, .inl (G 0, 117, .inl (enc nq Nq Zq tnq poq rdq alq kq Sq Pq Vq Fq))), (te, .inl (G 0, 60, .inl (ch t)))] (some (.int (nI (nx tn)))) := by
  refine CT.of (cc := cX6_pass) (maxL := 1) (ret := (some .int)) (by decide) rfl RX6 rfl (Nat.le_of_ble_eq_true rfl) (fun pp ee s mm bl me cc A ls hx hb hr hml hts hown hlk hnm hA hP hK hD hN hS hl => ?_)
  have hl : lv_has ls 1 [(0, .ref mo)] := hl
  have hP : va_P D vwCl [(mo, .inr (6, [.ref sa, .ref be, .int (nI kn), .ref ke, .int (zB ik), .ref te, .int (nI ty)])), (sa, .inl (G 0, 117, .inl (enc n N Z tn po rd al k S P V F))), (be, .inl (G 0, 468, .inl (bf B))), (ke, .inl (G 0, 117, .inl (enc nq Nq Zq tnq poq rdq alq kq Sq Pq Vq Fq))), (te, .inl (G 0, 60, .inl (ch t)))] s.heap := hP
  have inX6 : ∀ w ∈ wsX60, w ∈ wsX6_pass := fun w h => List.mem_cons_of_mem _ (List.mem_append_right _ h)
  have k7 := hts (.fieldLink RX6 7 "SquareStakesModel" "s" "[I") (List.mem_of_getElem? (i := 1) rfl)
  refine lv_aload_n hx hb dX6_pass_0 rfl (lv_at hl 0 rfl) ?_
  refine cV (As := []) (rest := []) ⟨hx, hb, hml, hown, hts⟩ hP hK hD hS hN hA (mX6_know l D G mo sa be ke te kn ty ik n tn k N Z S P V F po rd al B (by first | assumption | omega)) (cwV 0 hts gX6_pass_X6_know rfl rfl rfl (by decide +kernel) ⟨Nat.le_of_ble_eq_true rfl, Nat.le_of_ble_eq_true rfl⟩) [0, 1, 2] rfl (by decide) (Eq.trans (b := [mo, sa, be]) rfl rfl) 0 6 rfl rfl rfl hl.1 rfl (Nat.le_of_ble_eq_true rfl) dX6_pass_1 ⟨Nat.zero_le _, Nat.zero_le _⟩ (fun H locs hP hD hS => ?_)
  have hP : va_P D vwCl [(mo, .inr (6, [.ref sa, .ref be, .int (nI (mn kn)), .ref ke, .int (zB ik), .ref te, .int (nI ty)])), (sa, .inl (G 0, 117, .inl (enc n N Z tn po rd al k S P V F))), (be, .inl (G 0, 468, .inl (bf (kB B kn (enc n N Z tn po rd al k S P V F))))), (ke, .inl (G 0, 117, .inl (enc nq Nq Zq tnq poq rdq alq kq Sq Pq Vq Fq))), (te, .inl (G 0, 60, .inl (ch t)))] H := hP
  have hD : va_D A [(mo, .inr (6, [.ref sa, .ref be, .int (nI (mn kn)), .ref ke, .int (zB ik), .ref te, .int (nI ty)])), (sa, .inl (G 0, 117, .inl (enc n N Z tn po rd al k S P V F))), (be, .inl (G 0, 468, .inl (bf (kB B kn (enc n N Z tn po rd al k S P V F))))), (ke, .inl (G 0, 117, .inl (enc nq Nq Zq tnq poq rdq alq kq Sq Pq Vq Fq))), (te, .inl (G 0, 60, .inl (ch t)))] := hD
  refine lv_aload_n hx hb dX6_pass_4 rfl (lv_at hl 0 rfl) ?_
  refine cV (As := []) (rest := []) ⟨hx, hb, hml, hown, hts⟩ hP hK hD hS hN hA (mX6_nextTurn l D G mo sa be ke te (mn kn) ty ik n tn k N Z S P V F po rd al (by first | assumption | omega)) (cwV 0 hts gX6_pass_X6_nextTurn rfl rfl rfl (by decide +kernel) ⟨Nat.le_of_ble_eq_true rfl, Nat.le_of_ble_eq_true rfl⟩) [0, 1] rfl (by decide) (Eq.trans (b := [mo, sa]) rfl rfl) 0 6 rfl rfl rfl hl.1 rfl (Nat.le_of_ble_eq_true rfl) dX6_pass_5 ⟨Nat.zero_le _, Nat.zero_le _⟩ (fun H locs hP hD hS => ?_)
  have hP : va_P D vwCl [(mo, .inr (6, [.ref sa, .ref be, .int (nI (mn kn)), .ref ke, .int (zB ik), .ref te, .int (nI ty)])), (sa, .inl (G 0, 117, .inl (enc n N Z (nx tn) po rd al k S P V F))), (be, .inl (G 0, 468, .inl (bf (kB B kn (enc n N Z tn po rd al k S P V F))))), (ke, .inl (G 0, 117, .inl (enc nq Nq Zq tnq poq rdq alq kq Sq Pq Vq Fq))), (te, .inl (G 0, 60, .inl (ch t)))] H := hP
  have hD : va_D A [(mo, .inr (6, [.ref sa, .ref be, .int (nI (mn kn)), .ref ke, .int (zB ik), .ref te, .int (nI ty)])), (sa, .inl (G 0, 117, .inl (enc n N Z (nx tn) po rd al k S P V F))), (be, .inl (G 0, 468, .inl (bf (kB B kn (enc n N Z tn po rd al k S P V F))))), (ke, .inl (G 0, 117, .inl (enc nq Nq Zq tnq poq rdq alq kq Sq Pq Vq Fq))), (te, .inl (G 0, 60, .inl (ch t)))] := hD
  refine lv_aload_n hx hb dX6_pass_8 rfl (lv_at hl 0 rfl) ?_
  refine va_get (D := D) (ci := 6) (v := .ref sa) (C := RX6) (T := TX6) (N := 7) hx hb hts inX6 hown hK hP 0 rfl rfl 0 (by decide) k7 (fun _ h9 => h9) rfl dX6_pass_9 ?_
  refine lv_iconst (v := nI 1) hx hb dX6_pass_12 (by decide +kernel) ?_
  refine rIald hx hb hK hP 1 rfl 1 (by omega) (by decide) dX6_pass_13 ?_
  refine rTop (show enc n N Z (nx tn) po rd al k S P V F 1 = nI (nx tn) from rfl) ?_
  exact rIret hx hb hr hlk hP hK hD hS dX6_pass_14
