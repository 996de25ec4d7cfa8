/-! contracts in one form; a call in one row; rows over numbers -/
abbrev gW44 : Cond := .fieldLinkNest RX5 44 RX2 "square" "LSquareStakes$Square;" RX5
abbrev gW113 : Cond := .fieldLinkNest RX5 113 RX2 "table" "LSquareStakes$Table;" RX5
def nst (U : State) : Prop := va_Nw gW44 U ∧ va_Nw gW113 U ∧ va_AO RX2 U
theorem nst.warm {s U : State} (hW : s.WarmedH U.vm) (h : nst s) : nst U := ⟨va_Nw.warmF hW h.1, va_Nw.warmF hW h.2.1, va_AO.moved hW.alike h.2.2⟩
theorem nst.same {u U : State} (e : u.vm = U.vm) (h : nst u) : nst U := ⟨va_Nw.same rfl e h.1, va_Nw.same rfl e h.2.1, va_AO.moved (u := u) (U := U) (e ▸ Vm.Alike.refl u.vm) h.2.2⟩
abbrev tyl (G : Nat → ClassId) : List (ClassId × FieldType) := [(G 0, .int), (G 1, .float), (G 2, .char), (G 3, .object RX2)]
def wPre (D : va_G) (G : Nat → ClassId) (ws : va_W) (sz : Nat) (U : State) : Prop := U.heap.size = sz ∧ va_P D vwCl ws U.heap ∧ va_K D vwCl (tyl G) U ∧ va_D (fun _ => True) ws ∧ nst U
def wAt (D : va_G) (G : Nat → ClassId) (ws : va_W) (A : Nat → Prop) (t : State) : Prop := va_P D vwCl ws t.heap ∧ va_K D vwCl (tyl G) t ∧ va_D A ws
def Qres (k : Option Value) (D : va_G) (G : Nat → ClassId) (ws : va_W) (A : Nat → Prop) : Array Value → State → Outcome → State → Prop := fun _ st oc t => (oc = .returned k ∧ wAt D G ws A t) ∧ va_F A st t
abbrev rmA (fr lo : Nat) : Room := { frames := fr, cells := 0, slots := 0, locals := lo }
/-- a method that makes no cell: from the world ws to ws2, with the answer k -/
def CT (l : Launch) (y : MethodName) (w : List Cond) (fr lo : Nat) (D : va_G) (G : Nat → ClassId) (as : List Value) (ws ws2 : va_W) (k : Option Value) : Prop :=
  ∀ sz : Nat, Met l y w (rmA fr lo) (va_Pc as (wPre D G ws sz)) (Qres k D G ws2 (va_A ws sz)) 0 0 (va_A ws sz)
theorem wPre.blind {D : va_G} {G : Nat → ClassId} {ws : va_W} {sz : Nat} {as : List Value} : FrameBlind (va_Pc as (wPre D G ws sz)) := fun a U g mk q => by
  obtain ⟨q0, q1, qP, qK, qD, qN⟩ := q
  exact ⟨q0, q1, qP, va_K.moved (u := U) (U := U.calling g mk a) (Vm.Alike.refl U.vm) qK, qD, nst.same (u := U) rfl qN⟩
theorem CT.of {l : Launch} {y : MethodName} {w w' : List Cond} {fr lo : Nat} {D : va_G} {G : Nat → ClassId} {as : List Value} {ws ws2 : va_W} {k : Option Value} {cc : ByteArray} {maxL : Nat} {ret : Option FieldType}
    (hy : plainName y.cls = true) (hw : w = Cond.code y cc maxL ret :: w') (own : String) (ho : y.cls = own) (hlen : (lg_sl as).length ≤ maxL)
    (K : ∀ (p : Program) (e : Env) (s : State) (m : MethodId) (below : List Frame) (meth : Method) (c : Code) (A : Nat → Prop) (ls : Array Slot),
      p.tables.exec = Jvm.exec → c.code = cc → meth.sig.returnType = ret → c.maxLocals = maxL → (∀ x ∈ w, x.before as.toArray s = true) → s.vm.findClass own = some m.cls → meth.locks = false → meth.name = y.name → (∀ q, s.heap.size ≤ q → A q) → va_P D vwCl ws s.heap → va_K D vwCl (tyl G) s → va_D A ws → nst s → va_S A s.heap s.heap [] → lv_has ls maxL (lv_args 0 as) →
      W p l e (rmA fr lo) s m as.toArray below meth c s.heap [] 0 0 (MQ below (Qres k D G ws2 A) as.toArray s 0 0 A) (F0 m 0 ls [])) : CT l y w fr lo D G as ws ws2 k := by
  intro sz
  refine Met.ofW (cc := cc) (maxL := maxL) (ret := ret) hy hw ?_
  intro p e s m args below meth c s₁ B hml hv
  obtain ⟨rfl, hsz, hP, hK, hD0, hN⟩ := hv
  subst hsz
  subst ho
  rw [lg_entry_eq]
  exact K p e s m below meth c _ _ B.exec B.bytes B.returns hml (atoms_spec (ws := w) B.pre) (findClass_of_methodNamed B.named) B.notSynchronized (name_of_methodNamed B.named B.method).1 (fun q h => Or.inr h) hP hK hD0.self hN va_S.rf (lv_entry as hlen)
/-- the cells at the places 'is' put anew -/
def rpl : va_W → List Nat → va_W → va_W
  | ws, [], _ => ws
  | ws, _, [] => ws
  | ws, i :: is, c :: cs => rpl (ws.set i c) is cs
theorem rpl_get : ∀ (is : List Nat) (w1 ws : va_W), va_nd is = true → ∀ (j : Nat) (q : Nat × va_E), (rpl ws is w1)[j]? = some q → (∃ k : Nat, is[k]? = some j ∧ w1[k]? = some q) ∨ (ws[j]? = some q ∧ (is.length = w1.length → j ∉ is))
  | [], w1, ws, _, j, q, h => by
    refine Or.inr ⟨?_, fun _ => List.not_mem_nil⟩
    cases w1 <;> exact h
  | i :: is, [], ws, _, j, q, h => Or.inr ⟨h, fun z => by cases z⟩
  | i :: is, c :: cs, ws, hn, j, q, h => by
    simp only [va_nd, Bool.and_eq_true, decide_eq_true_eq] at hn
    rcases rpl_get is cs (ws.set i c) hn.2 j q h with ⟨k, h1, h2⟩ | ⟨h1, h2⟩
    · exact Or.inl ⟨k + 1, by rw [List.getElem?_cons_succ]; exact h1, by rw [List.getElem?_cons_succ]; exact h2⟩
    · by_cases hj : j = i
      · subst hj
        have hl : j < ws.length := by
          have := (List.getElem?_eq_some_iff.mp h1).1
          rwa [List.length_set] at this
        rw [List.getElem?_set_self hl] at h1
        cases h1
        exact Or.inl ⟨0, rfl, rfl⟩
      · rw [List.getElem?_set_ne (Ne.symm hj)] at h1
        refine Or.inr ⟨h1, fun z => ?_⟩
        intro hm
        rcases List.mem_cons.mp hm with e | e
        · exact hj e
        · exact h2 (by simpa using z) e
theorem map_some_filterMap {α β : Type} {f : α → Option β} : ∀ {is : List α} {w : List β}, is.map f = w.map some → is.filterMap f = w
  | [], [], _ => rfl
  | [], _ :: _, h => by cases h
  | _ :: _, [], h => by cases h
  | i :: is, c :: cs, h => by
    simp only [List.map_cons, List.cons.injEq] at h
    rw [List.filterMap_cons, h.1]
    simp only [map_some_filterMap h.2]
theorem map_at {α β : Type} {f : α → Option β} {is : List α} {w : List β} (h : is.map f = w.map some) {k : Nat} {j : α} {q : β} (hj : is[k]? = some j) (hq : w[k]? = some q) : f j = some q := by
  have h1 : (is.map f)[k]? = (w.map some)[k]? := by rw [h]
  rw [List.getElem?_map, List.getElem?_map, hj, hq] at h1
  exact Option.some.inj h1
theorem rpl_D {A0 : Nat → Prop} {ws wc w1 : va_W} {isC : List Nat} (hD : va_D A0 ws) (hC : isC.map (fun i => ws[i]?) = wc.map some) (hn : va_nd isC = true) (hf : w1.map Prod.fst = wc.map Prod.fst) : va_D A0 (rpl ws isC w1) := by
  have key : ∀ (k : Nat) (q : Nat × va_E), (rpl ws isC w1)[k]? = some q → ∃ q0, ws[k]? = some q0 ∧ q0.1 = q.1 := by
    intro k q hk
    rcases rpl_get isC w1 ws hn k q hk with ⟨i, h1, h2⟩ | ⟨h1, -⟩
    · have h3 : (wc.map Prod.fst)[i]? = some q.1 := by rw [← hf, List.getElem?_map, h2]; rfl
      rw [List.getElem?_map] at h3
      cases hw : wc[i]? with
      | none => rw [hw] at h3; cases h3
      | some z =>
        rw [hw] at h3
        exact ⟨z, map_at hC h1 hw, Option.some.inj h3⟩
    · exact ⟨q, h1, rfl⟩
  refine ⟨fun i j x y hi hj hxy => ?_, fun k q hk => ?_⟩
  · obtain ⟨x0, h1, h2⟩ := key i x hi
    obtain ⟨y0, h3, h4⟩ := key j y hj
    exact hD.1 i j x0 y0 h1 h3 (h2.trans (hxy.trans h4.symm))
  · obtain ⟨q0, h1, h2⟩ := key k q hk
    rw [← h2]
    exact hD.2 k q0 h1
theorem rpl_P {A0 : Nat → Prop} {D : va_G} {cl : List vw_C} {ws wc w1 : va_W} {isC : List Nat} {H H1 : Heap} (hP : va_P D cl ws H) (hD : va_D A0 ws) (hC : isC.map (fun i => ws[i]?) = wc.map some) (hn : va_nd isC = true) (hf : w1.map Prod.fst = wc.map Prod.fst)
    (hk : ∀ q : Nat, q < H.size → ¬ va_A wc H.size q → H1[q]? = H[q]?) (hP1 : va_P D cl w1 H1) : va_P D cl (rpl ws isC w1) H1 := by
  intro j q hj
  have hlen : isC.length = w1.length := by
    have h1 : isC.length = wc.length := by simpa using congrArg List.length hC
    have h2 : w1.length = wc.length := by simpa using congrArg List.length hf
    omega
  rcases rpl_get isC w1 ws hn j q hj with ⟨i, -, h2⟩ | ⟨h1, h2⟩
  · exact hP1 i q h2
  · have hl := (hP j q h1).lt
    refine (hP j q h1).kept (hk q.1 hl (fun z => ?_))
    rcases z with ⟨k, e, h⟩ | h
    · have hk2 : k < isC.length := by
        have h3 : isC.length = wc.length := by simpa using congrArg List.length hC
        rw [h3]
        exact (List.getElem?_eq_some_iff.mp h).1
      have h4 : isC[k]? = some isC[k] := List.getElem?_eq_getElem hk2
      have h5 := map_at hC h4 h
      have h6 := hD.1 j isC[k] q (q.1, e) h1 h5 rfl
      exact h2 hlen (h6 ▸ List.getElem_mem hk2)
    · omega
section MYCALL
variable {p : Program} {l : Launch} {e : Env} {R : Room} {s : State} {m : MethodId} {args : Array Value} {below : List Frame} {meth : Method} {c : Code} {H : Heap} {locs : List Loc} {cells slots : Nat} {Q : State → Prop}
variable {y : MethodName} {bytes cc : ByteArray} {maxL nL n index : Nat} {ret : Option FieldType} {w : List Cond} {fr lo : Nat} {Ts : List Cond} {own C : String} {b : Addr} {As as rest st : List Value}
variable {D : va_G} {G : Nat → ClassId} {ws wc wc2 : va_W} {A0 A1 : Nat → Prop} {H0 : Heap} {r : Option Value} {pc : Nat} {ls : Array Slot} {mc ms : Nat} {free : Addr → Prop} {a : Array Value}
theorem pre_of (hP : va_P D vwCl ws H) (hD : va_D A0 ws) (hK : va_K D vwCl (tyl G) s) (hN : nst s) (isC : List Nat) (hC : isC.map (fun i => ws[i]?) = wc.map some) (hn : va_nd isC = true) : PreS s H (va_Pc as (wPre D G wc H.size)) as :=
  ⟨wPre.blind, fun U hU hW => ⟨rfl, by rw [hU], by rw [hU]; exact hP.sub isC (map_some_filterMap hC), va_K.moved hW.alike hK, (hD.sub isC hn hC).weaken (fun _ _ _ _ => trivial), nst.warm hW hN⟩⟩
theorem call_res (hr : va_Run p l e R s m args below meth c H locs cells slots 0 0 (F0 m pc ls st) rest (Qres r D G wc2 (va_A wc H.size) a) (va_A wc H.size)) (hP : va_P D vwCl ws H) (hD : va_D A0 ws) (hS : va_S A0 H0 H locs) (hA : ∀ q, H0.size ≤ q → A0 q)
    (isC : List Nat) (hC : isC.map (fun i => ws[i]?) = wc.map some) (hn : va_nd isC = true) (hf : wc2.map Prod.fst = wc.map Prod.fst)
    (kk : ∀ (H1 : Heap) (locs1 : List Loc), va_P D vwCl (rpl ws isC wc2) H1 → va_D A0 (rpl ws isC wc2) → va_S A0 H0 H1 locs1 → W p l e R s m args below meth c H1 locs1 cells slots Q (F0 m (pc + 3) ls (r.toList ++ rest))) : W p l e R s m args below meth c H locs cells slots Q (F0 m pc ls st) := by
  intro T hT X
  obtain ⟨v, st₀, t, T', L, h0, X', hL, e1, e2, ⟨⟨hv, hP1, hK1, hD1⟩, hz, hk⟩, st⟩ := hr T hT X
  cases hv
  rw [h0] at hz hk
  have hF : ∀ q, va_A wc H.size q → A0 q := va_free hD hS hA isC hC
  obtain ⟨t2, a1, b1⟩ := kk T'.heap (locs ++ L) (rpl_P hP hD hC hn hf (fun q h1 h2 => by rw [e1]; exact hk q h1 h2) (by rw [e1]; exact hP1)) (rpl_D hD hC hn hf)
    ⟨Nat.le_trans hS.1 (by rw [e1]; exact hz), fun q h1 h2 => by rw [e1, hk q (Nat.lt_of_lt_of_le h1 hS.1) (fun z => h2 (hF q z))]; exact hS.2.1 q h1 h2, fun q hq => by
      rcases List.mem_append.mp hq with h | h
      · exact hS.2.2 q h
      · exact hF _ (hL q h)⟩ T' rfl X'
  exact ⟨t2, st t2 a1, b1⟩
/-- invokevirtual of a method with a contract -/
theorem cV (S : CallFix p m c cc nL s args Ts own) (hP : va_P D vwCl ws H) (hK : va_K D vwCl (tyl G) s) (hD : va_D A0 ws) (hS : va_S A0 H0 H locs) (hN : nst s) (hA : ∀ q, H0.size ≤ q → A0 q)
    (hM : CT l y w fr lo D G (.ref b :: As) wc wc2 r) (cw : CallW R s args own C index y bytes maxL ret w (rmA fr lo) 0 0 n)
    (isC : List Nat) (hC : isC.map (fun i => ws[i]?) = wc.map some) (hn : va_nd isC = true) (hf : wc2.map Prod.fst = wc.map Prod.fst)
    (q0 ci : Nat) {fs : List Value} {T : u_T} {N : Nat} (he : ws[q0]? = some (b, .inr (ci, fs))) (hc : vwCl[ci]? = some (C, T, N))
    (hlen : As.length = n) (hsize : ls.size = nL) (hst : st = As.reverse ++ .ref b :: rest) (hW : (rest.map fun v => v.category).sum ≤ 8) (hdg : decode cc pc = .ok (.invokevirtual index, 3)) (hcs : cells ≤ R.cells ∧ slots ≤ R.slots)
    (kk : ∀ (H1 : Heap) (locs1 : List Loc), va_P D vwCl (rpl ws isC wc2) H1 → va_D A0 (rpl ws isC wc2) → va_S A0 H0 H1 locs1 → W p l e R s m args below meth c H1 locs1 cells slots Q (F0 m (pc + 3) ls (r.toList ++ rest))) : W p l e R s m args below meth c H locs cells slots Q (F0 m pc ls st) :=
  call_res (va_runV (As := As) (rest := rest) S (hM H.size) cw ⟨wPre.blind, va_recv hK hP hc he, (pre_of hP hD hK hN isC hC hn).2⟩ rfl hlen hsize hst (lv_room hW) hdg hcs) hP hD hS hA isC hC hn hf kk
/-- invokestatic -/
theorem cS (S : CallFix p m c cc nL s args Ts own) (hP : va_P D vwCl ws H) (hK : va_K D vwCl (tyl G) s) (hD : va_D A0 ws) (hS : va_S A0 H0 H locs) (hN : nst s) (hA : ∀ q, H0.size ≤ q → A0 q)
    (hM : CT l y w fr lo D G As wc wc2 r) (cw : CallB R s args own index y bytes maxL ret w (rmA fr lo) 0 0 n ∧ (Cond.static y).before args s = true)
    (isC : List Nat) (hC : isC.map (fun i => ws[i]?) = wc.map some) (hn : va_nd isC = true) (hf : wc2.map Prod.fst = wc.map Prod.fst)
    (hlen : As.length = n) (hsize : ls.size = nL) (hst : st = As.reverse ++ rest) (hW : (rest.map fun v => v.category).sum ≤ 8) (hdg : decode cc pc = .ok (.invokestatic index, 3)) (hcs : cells ≤ R.cells ∧ slots ≤ R.slots)
    (kk : ∀ (H1 : Heap) (locs1 : List Loc), va_P D vwCl (rpl ws isC wc2) H1 → va_D A0 (rpl ws isC wc2) → va_S A0 H0 H1 locs1 → W p l e R s m args below meth c H1 locs1 cells slots Q (F0 m (pc + 3) ls (r.toList ++ rest))) : W p l e R s m args below meth c H locs cells slots Q (F0 m pc ls st) :=
  call_res (va_runS (As := As) (rest := rest) S (hM H.size) cw (pre_of hP hD hK hN isC hC hn) rfl hlen hsize hst (lv_room hW) hdg hcs) hP hD hS hA isC hC hn hf kk
end MYCALL
section MYROWS
variable {p : Program} {l : Launch} {e : Env} {R : Room} {s : State} {m : MethodId} {args : Array Value} {below : List Frame} {meth : Method} {c : Code} {H : Heap} {locs : List Loc} {cells slots : Nat} {Q : State → Prop}
variable {cc : ByteArray} {pc : Nat} {ls : Array Slot} {rest : List Value} {D : va_G} {G : Nat → ClassId} {A : Nat → Prop} {a : Nat} {ws ws2 : va_W} {H0 : Heap}
theorem rIret {v : Int32} (hx : p.tables.exec = Jvm.exec) (hb : c.code = cc) (hr : meth.sig.returnType = some .int) (hlk : meth.locks = false) (hP : va_P D vwCl ws2 H) (hK : va_K D vwCl (tyl G) s) (hD : va_D A ws2) (hS : va_S A s.heap H locs) (hdg : decode cc pc = .ok (.ireturn, 1)) : W p l e R s m args below meth c H locs cells slots (MQ below (Qres (some (.int v)) D G ws2 A) args s cells slots A) (F0 m pc ls [.int v]) :=
  W.iret hx hb hr (fun t ht hW => ⟨⟨rfl, by rw [ht]; exact hP, va_K.moved hW.alike hK, hD⟩, hS.F ht⟩) hS.2.2 hdg hlk
def zB (b : Bool) : Int32 := if b = true then nI 1 else nI 0
theorem zB_t : zB true = nI 1 := rfl
theorem zB_f : zB false = nI 0 := rfl
theorem zB_1 {b : Bool} (h : b = true) : nI 1 = zB b := by rw [h]; rfl
theorem zB_0 {b : Bool} (h : b = false) : nI 0 = zB b := by rw [h]; rfl
theorem zB_n (b : Bool) : narrow .boolean (.int (zB b)) = .int (zB b) := by cases b <;> decide +kernel
theorem rZret {v : Bool} (hx : p.tables.exec = Jvm.exec) (hb : c.code = cc) (hr : meth.sig.returnType = some .boolean) (hlk : meth.locks = false) (hP : va_P D vwCl ws2 H) (hK : va_K D vwCl (tyl G) s) (hD : va_D A ws2) (hS : va_S A s.heap H locs) (hdg : decode cc pc = .ok (.ireturn, 1)) : W p l e R s m args below meth c H locs cells slots (MQ below (Qres (some (.int (zB v))) D G ws2 A) args s cells slots A) (F0 m pc ls [.int (zB v)]) :=
  W.zret hx hb hr (zB_n v) (fun t ht hW => ⟨⟨rfl, by rw [ht]; exact hP, va_K.moved hW.alike hK, hD⟩, hS.F ht⟩) hS.2.2 hdg hlk
theorem rFret {v : UInt32} (hx : p.tables.exec = Jvm.exec) (hb : c.code = cc) (hr : meth.sig.returnType = some .float) (hlk : meth.locks = false) (hP : va_P D vwCl ws2 H) (hK : va_K D vwCl (tyl G) s) (hD : va_D A ws2) (hS : va_S A s.heap H locs) (hdg : decode cc pc = .ok (.freturn, 1)) : W p l e R s m args below meth c H locs cells slots (MQ below (Qres (some (.float v)) D G ws2 A) args s cells slots A) (F0 m pc ls [.float v]) :=
  W.fret hx hb hr (fun t ht hW => ⟨⟨rfl, by rw [ht]; exact hP, va_K.moved hW.alike hK, hD⟩, hS.F ht⟩) hS.2.2 hdg hlk
theorem rVret (hx : p.tables.exec = Jvm.exec) (hb : c.code = cc) (hr : meth.sig.returnType = none) (hlk : meth.locks = false) (hP : va_P D vwCl ws2 H) (hK : va_K D vwCl (tyl G) s) (hD : va_D A ws2) (hS : va_S A s.heap H locs) (hdg : decode cc pc = .ok (.return_, 1)) : W p l e R s m args below meth c H locs cells slots (MQ below (Qres none D G ws2 A) args s cells slots A) (F0 m pc ls []) :=
  W.vret hx hb hr (fun t ht hW => ⟨⟨rfl, by rw [ht]; exact hP, va_K.moved hW.alike hK, hD⟩, hS.F ht⟩) hS.2.2 hdg hlk
theorem rAret {v : Option Nat} {rt : String} (hx : p.tables.exec = Jvm.exec) (hb : c.code = cc) (hr : meth.sig.returnType = some (.object rt)) (hlk : meth.locks = false) (hP : va_P D vwCl ws2 H) (hK : va_K D vwCl (tyl G) s) (hD : va_D A ws2) (hS : va_S A s.heap H locs) (hdg : decode cc pc = .ok (.areturn, 1)) : W p l e R s m args below meth c H locs cells slots (MQ below (Qres (some (va_rf v)) D G ws2 A) args s cells slots A) (F0 m pc ls [va_rf v]) :=
  W.aret hx hb hr (Or.inl ⟨_, rfl⟩) (va_rf_or v) (fun t ht hW => ⟨⟨rfl, by rw [ht]; exact hP, va_K.moved hW.alike hK, hD⟩, hS.F ht⟩) hS.2.2 hdg hlk
/-- the top of the operands, written otherwise -/
theorem rTop {x y : Int32} (h : x = y) (k : W p l e R s m args below meth c H locs cells slots Q (F0 m pc ls (.int y :: rest))) : W p l e R s m args below meth c H locs cells slots Q (F0 m pc ls (.int x :: rest)) := h ▸ k
theorem rTopF {x y : UInt32} (h : x = y) (k : W p l e R s m args below meth c H locs cells slots Q (F0 m pc ls (.float y :: rest))) : W p l e R s m args below meth c H locs cells slots Q (F0 m pc ls (.float x :: rest)) := h ▸ k
theorem rIald (hx : p.tables.exec = Jvm.exec) (hb : c.code = cc) (hK : va_K D vwCl (tyl G) s) (hP : va_P D vwCl ws H) (q0 : Nat) {n : Nat} {f : Nat → Int32} (ha : ws[q0]? = some (a, .inl (G 0, n, .inl f))) (k : Nat) (hk : k < n) (hn : n < 2 ^ 31) (hdg : decode cc pc = .ok (.iaload, 1)) (kk : W p l e R s m args below meth c H locs cells slots Q (F0 m (pc + 1) ls (.int (f k) :: rest))) : W p l e R s m args below meth c H locs cells slots Q (F0 m pc ls (.int (nI k) :: .ref a :: rest)) :=
  va_iald hx hb hK hP q0 0 ha rfl (vp_in_nI hk hn) hdg (by rw [nI_clamp (by omega)]; exact kk)
theorem rCald (hx : p.tables.exec = Jvm.exec) (hb : c.code = cc) (hK : va_K D vwCl (tyl G) s) (hP : va_P D vwCl ws H) (q0 : Nat) {n : Nat} {f : Nat → Int32} (ha : ws[q0]? = some (a, .inl (G 2, n, .inl f))) (k : Nat) (hk : k < n) (hn : n < 2 ^ 31) (hdg : decode cc pc = .ok (.caload, 1)) (kk : W p l e R s m args below meth c H locs cells slots Q (F0 m (pc + 1) ls (.int (f k) :: rest))) : W p l e R s m args below meth c H locs cells slots Q (F0 m pc ls (.int (nI k) :: .ref a :: rest)) :=
  va_cald hx hb hK hP q0 2 ha rfl (vp_in_nI hk hn) hdg (by rw [nI_clamp (by omega)]; exact kk)
theorem rFald (hx : p.tables.exec = Jvm.exec) (hb : c.code = cc) (hK : va_K D vwCl (tyl G) s) (hP : va_P D vwCl ws H) (q0 : Nat) {n : Nat} {f : Nat → UInt32} (ha : ws[q0]? = some (a, .inl (G 1, n, .inr (.inr (.inl f))))) (k : Nat) (hk : k < n) (hn : n < 2 ^ 31) (hdg : decode cc pc = .ok (.faload, 1)) (kk : W p l e R s m args below meth c H locs cells slots Q (F0 m (pc + 1) ls (.float (f k) :: rest))) : W p l e R s m args below meth c H locs cells slots Q (F0 m pc ls (.int (nI k) :: .ref a :: rest)) :=
  va_fald hx hb hK hP q0 1 ha rfl (vp_in_nI hk hn) hdg (by rw [nI_clamp (by omega)]; exact kk)
theorem rQald (hx : p.tables.exec = Jvm.exec) (hb : c.code = cc) (hK : va_K D vwCl (tyl G) s) (hP : va_P D vwCl ws H) (q0 : Nat) {n : Nat} {f : Nat → Option Nat} (ha : ws[q0]? = some (a, .inl (G 3, n, .inr (.inr (.inr (.inr f)))))) (k : Nat) (hk : k < n) (hn : n < 2 ^ 31) (hdg : decode cc pc = .ok (.aaload, 1)) (kk : W p l e R s m args below meth c H locs cells slots Q (F0 m (pc + 1) ls (va_rf (f k) :: rest))) : W p l e R s m args below meth c H locs cells slots Q (F0 m pc ls (.int (nI k) :: .ref a :: rest)) :=
  va_aldq hx hb hK hP q0 3 ha rfl (vp_in_nI hk hn) hdg (by rw [nI_clamp (by omega)]; exact kk)
theorem rIast (hx : p.tables.exec = Jvm.exec) (hb : c.code = cc) (hK : va_K D vwCl (tyl G) s) (hP : va_P D vwCl ws H) (hD : va_D A ws) (hS : va_S A H0 H locs) (q0 : Nat) {n : Nat} {f : Nat → Int32} (ha : ws[q0]? = some (a, .inl (G 0, n, .inl f))) (k : Nat) (hk : k < n) (hn : n < 2 ^ 31) {x : Int32} (hdg : decode cc pc = .ok (.iastore, 1))
    (kk : ∀ (H1 : Heap) (locs1 : List Loc), va_P D vwCl (ws.set q0 (a, .inl (G 0, n, .inl (upd f k x)))) H1 → va_D A (ws.set q0 (a, .inl (G 0, n, .inl (upd f k x)))) → va_S A H0 H1 locs1 → W p l e R s m args below meth c H1 locs1 cells slots Q (F0 m (pc + 1) ls rest)) : W p l e R s m args below meth c H locs cells slots Q (F0 m pc ls (.int x :: .int (nI k) :: .ref a :: rest)) :=
  va_iast hx hb hK hP hD hS q0 0 ha rfl (vp_in_nI hk hn) hdg (by rw [nI_clamp (by omega)]; exact kk)
theorem rCast (hx : p.tables.exec = Jvm.exec) (hb : c.code = cc) (hK : va_K D vwCl (tyl G) s) (hP : va_P D vwCl ws H) (hD : va_D A ws) (hS : va_S A H0 H locs) (q0 : Nat) {n : Nat} {f : Nat → Int32} (ha : ws[q0]? = some (a, .inl (G 2, n, .inl f))) (k : Nat) (hk : k < n) (hn : n < 2 ^ 31) {x : Int32} (hc : vp_nar .char x = x) (hdg : decode cc pc = .ok (.castore, 1))
    (kk : ∀ (H1 : Heap) (locs1 : List Loc), va_P D vwCl (ws.set q0 (a, .inl (G 2, n, .inl (upd f k x)))) H1 → va_D A (ws.set q0 (a, .inl (G 2, n, .inl (upd f k x)))) → va_S A H0 H1 locs1 → W p l e R s m args below meth c H1 locs1 cells slots Q (F0 m (pc + 1) ls rest)) : W p l e R s m args below meth c H locs cells slots Q (F0 m pc ls (.int x :: .int (nI k) :: .ref a :: rest)) :=
  va_cast hx hb hK hP hD hS q0 2 ha rfl (vp_in_nI hk hn) hdg (by rw [nI_clamp (by omega), hc]; exact kk)
theorem rFast (hx : p.tables.exec = Jvm.exec) (hb : c.code = cc) (hK : va_K D vwCl (tyl G) s) (hP : va_P D vwCl ws H) (hD : va_D A ws) (hS : va_S A H0 H locs) (q0 : Nat) {n : Nat} {f : Nat → UInt32} (ha : ws[q0]? = some (a, .inl (G 1, n, .inr (.inr (.inl f))))) (k : Nat) (hk : k < n) (hn : n < 2 ^ 31) {x : UInt32} (hdg : decode cc pc = .ok (.fastore, 1))
    (kk : ∀ (H1 : Heap) (locs1 : List Loc), va_P D vwCl (ws.set q0 (a, .inl (G 1, n, .inr (.inr (.inl (va_up f k x)))))) H1 → va_D A (ws.set q0 (a, .inl (G 1, n, .inr (.inr (.inl (va_up f k x)))))) → va_S A H0 H1 locs1 → W p l e R s m args below meth c H1 locs1 cells slots Q (F0 m (pc + 1) ls rest)) : W p l e R s m args below meth c H locs cells slots Q (F0 m pc ls (.float x :: .int (nI k) :: .ref a :: rest)) :=
  va_fast hx hb hK hP hD hS q0 1 ha rfl (vp_in_nI hk hn) hdg (by rw [nI_clamp (by omega)]; exact kk)
-- branches over numbers below 2^31
theorem bLt {x y : Nat} (hx : p.tables.exec = Jvm.exec) (hb : c.code = cc) {off : Int} {tgt : Nat} (hdg : decode cc pc = .ok (.if_icmp .lt off, 3)) (ht : (pc : Int) + off = (tgt : Int)) (h1 : x < 2 ^ 31) (h2 : y < 2 ^ 31) (kt : x < y → W p l e R s m args below meth c H locs cells slots Q (F0 m tgt ls rest)) (kf : y ≤ x → W p l e R s m args below meth c H locs cells slots Q (F0 m (pc + 3) ls rest)) : W p l e R s m args below meth c H locs cells slots Q (F0 m pc ls (.int (nI y) :: .int (nI x) :: rest)) :=
  lv_icmp_lt hx hb hdg ht (fun z => kt ((nI_ltI h1 h2).mp z)) (fun z => kf (Nat.not_lt.mp (fun q => z ((nI_ltI h1 h2).mpr q))))
theorem bGe {x y : Nat} (hx : p.tables.exec = Jvm.exec) (hb : c.code = cc) {off : Int} {tgt : Nat} (hdg : decode cc pc = .ok (.if_icmp .ge off, 3)) (ht : (pc : Int) + off = (tgt : Int)) (h1 : x < 2 ^ 31) (h2 : y < 2 ^ 31) (kt : y ≤ x → W p l e R s m args below meth c H locs cells slots Q (F0 m tgt ls rest)) (kf : x < y → W p l e R s m args below meth c H locs cells slots Q (F0 m (pc + 3) ls rest)) : W p l e R s m args below meth c H locs cells slots Q (F0 m pc ls (.int (nI y) :: .int (nI x) :: rest)) :=
  lv_icmp_ge hx hb hdg ht (fun z => kt ((nI_leI h2 h1).mp z)) (fun z => kf (Nat.not_le.mp (fun q => z ((nI_leI h2 h1).mpr q))))
theorem bGt {x y : Nat} (hx : p.tables.exec = Jvm.exec) (hb : c.code = cc) {off : Int} {tgt : Nat} (hdg : decode cc pc = .ok (.if_icmp .gt off, 3)) (ht : (pc : Int) + off = (tgt : Int)) (h1 : x < 2 ^ 31) (h2 : y < 2 ^ 31) (kt : y < x → W p l e R s m args below meth c H locs cells slots Q (F0 m tgt ls rest)) (kf : x ≤ y → W p l e R s m args below meth c H locs cells slots Q (F0 m (pc + 3) ls rest)) : W p l e R s m args below meth c H locs cells slots Q (F0 m pc ls (.int (nI y) :: .int (nI x) :: rest)) :=
  lv_icmp_gt hx hb hdg ht (fun z => kt ((nI_ltI h2 h1).mp z)) (fun z => kf (Nat.not_lt.mp (fun q => z ((nI_ltI h2 h1).mpr q))))
theorem bLe {x y : Nat} (hx : p.tables.exec = Jvm.exec) (hb : c.code = cc) {off : Int} {tgt : Nat} (hdg : decode cc pc = .ok (.if_icmp .le off, 3)) (ht : (pc : Int) + off = (tgt : Int)) (h1 : x < 2 ^ 31) (h2 : y < 2 ^ 31) (kt : x ≤ y → W p l e R s m args below meth c H locs cells slots Q (F0 m tgt ls rest)) (kf : y < x → W p l e R s m args below meth c H locs cells slots Q (F0 m (pc + 3) ls rest)) : W p l e R s m args below meth c H locs cells slots Q (F0 m pc ls (.int (nI y) :: .int (nI x) :: rest)) :=
  lv_icmp_le hx hb hdg ht (fun z => kt ((nI_leI h1 h2).mp z)) (fun z => kf (Nat.not_le.mp (fun q => z ((nI_leI h1 h2).mpr q))))
theorem bEq {x y : Nat} (hx : p.tables.exec = Jvm.exec) (hb : c.code = cc) {off : Int} {tgt : Nat} (hdg : decode cc pc = .ok (.if_icmp .eq off, 3)) (ht : (pc : Int) + off = (tgt : Int)) (h1 : x < 2 ^ 31) (h2 : y < 2 ^ 31) (kt : x = y → W p l e R s m args below meth c H locs cells slots Q (F0 m tgt ls rest)) (kf : x ≠ y → W p l e R s m args below meth c H locs cells slots Q (F0 m (pc + 3) ls rest)) : W p l e R s m args below meth c H locs cells slots Q (F0 m pc ls (.int (nI y) :: .int (nI x) :: rest)) :=
  lv_icmp_eq hx hb hdg ht (fun z => kt ((nI_eq h1 h2).mp z)) (fun z => kf (fun q => z ((nI_eq h1 h2).mpr q)))
theorem bNe {x y : Nat} (hx : p.tables.exec = Jvm.exec) (hb : c.code = cc) {off : Int} {tgt : Nat} (hdg : decode cc pc = .ok (.if_icmp .ne off, 3)) (ht : (pc : Int) + off = (tgt : Int)) (h1 : x < 2 ^ 31) (h2 : y < 2 ^ 31) (kt : x ≠ y → W p l e R s m args below meth c H locs cells slots Q (F0 m tgt ls rest)) (kf : x = y → W p l e R s m args below meth c H locs cells slots Q (F0 m (pc + 3) ls rest)) : W p l e R s m args below meth c H locs cells slots Q (F0 m pc ls (.int (nI y) :: .int (nI x) :: rest)) :=
  lv_icmp_ne hx hb hdg ht (fun z => kt (fun q => z ((nI_eq h1 h2).mpr q))) (fun z => kf ((nI_eq h1 h2).mp z))
theorem iLt {x : Nat} (hx : p.tables.exec = Jvm.exec) (hb : c.code = cc) {off : Int} {tgt : Nat} (hdg : decode cc pc = .ok (.ifCond .lt off, 3)) (ht : (pc : Int) + off = (tgt : Int)) (h1 : x < 2 ^ 31) (kf : W p l e R s m args below meth c H locs cells slots Q (F0 m (pc + 3) ls rest)) : W p l e R s m args below meth c H locs cells slots Q (F0 m pc ls (.int (nI x) :: rest)) :=
  lv_if_lt hx hb hdg ht (fun z => absurd z (nI_pos h1)) (fun _ => kf)
theorem iGe {x : Nat} (hx : p.tables.exec = Jvm.exec) (hb : c.code = cc) {off : Int} {tgt : Nat} (hdg : decode cc pc = .ok (.ifCond .ge off, 3)) (ht : (pc : Int) + off = (tgt : Int)) (h1 : x < 2 ^ 31) (kt : W p l e R s m args below meth c H locs cells slots Q (F0 m tgt ls rest)) : W p l e R s m args below meth c H locs cells slots Q (F0 m pc ls (.int (nI x) :: rest)) :=
  lv_if_ge hx hb hdg ht (fun _ => kt) (fun z => absurd (nI_pos' h1) z)
theorem iGt {x : Nat} (hx : p.tables.exec = Jvm.exec) (hb : c.code = cc) {off : Int} {tgt : Nat} (hdg : decode cc pc = .ok (.ifCond .gt off, 3)) (ht : (pc : Int) + off = (tgt : Int)) (h1 : x < 2 ^ 31) (kt : 0 < x → W p l e R s m args below meth c H locs cells slots Q (F0 m tgt ls rest)) (kf : x = 0 → W p l e R s m args below meth c H locs cells slots Q (F0 m (pc + 3) ls rest)) : W p l e R s m args below meth c H locs cells slots Q (F0 m pc ls (.int (nI x) :: rest)) :=
  lv_if_gt hx hb hdg ht (fun z => kt (Nat.pos_of_ne_zero (fun q => by subst q; exact absurd z (by decide +kernel)))) (fun z => kf (Nat.eq_zero_of_not_pos (fun q => z (nI_lt q h1))))
theorem iLe {x : Nat} (hx : p.tables.exec = Jvm.exec) (hb : c.code = cc) {off : Int} {tgt : Nat} (hdg : decode cc pc = .ok (.ifCond .le off, 3)) (ht : (pc : Int) + off = (tgt : Int)) (h1 : x < 2 ^ 31) (kt : x = 0 → W p l e R s m args below meth c H locs cells slots Q (F0 m tgt ls rest)) (kf : 0 < x → W p l e R s m args below meth c H locs cells slots Q (F0 m (pc + 3) ls rest)) : W p l e R s m args below meth c H locs cells slots Q (F0 m pc ls (.int (nI x) :: rest)) :=
  lv_if_le hx hb hdg ht (fun z => kt (Nat.eq_zero_of_not_pos (fun q => nI_nle q h1 z))) (fun z => kf (Nat.pos_of_ne_zero (fun q => by subst q; exact absurd z (by decide +kernel))))
theorem iEq {x : Nat} (hx : p.tables.exec = Jvm.exec) (hb : c.code = cc) {off : Int} {tgt : Nat} (hdg : decode cc pc = .ok (.ifCond .eq off, 3)) (ht : (pc : Int) + off = (tgt : Int)) (h1 : x < 2 ^ 31) (kt : x = 0 → W p l e R s m args below meth c H locs cells slots Q (F0 m tgt ls rest)) (kf : 0 < x → W p l e R s m args below meth c H locs cells slots Q (F0 m (pc + 3) ls rest)) : W p l e R s m args below meth c H locs cells slots Q (F0 m pc ls (.int (nI x) :: rest)) :=
  lv_if_eq hx hb hdg ht (fun z => kt (Nat.eq_zero_of_not_pos (fun q => nI_ne0 q h1 z))) (fun z => kf (Nat.pos_of_ne_zero (fun q => by subst q; exact absurd z (by decide +kernel))))
theorem iNe {x : Nat} (hx : p.tables.exec = Jvm.exec) (hb : c.code = cc) {off : Int} {tgt : Nat} (hdg : decode cc pc = .ok (.ifCond .ne off, 3)) (ht : (pc : Int) + off = (tgt : Int)) (h1 : x < 2 ^ 31) (kt : 0 < x → W p l e R s m args below meth c H locs cells slots Q (F0 m tgt ls rest)) (kf : x = 0 → W p l e R s m args below meth c H locs cells slots Q (F0 m (pc + 3) ls rest)) : W p l e R s m args below meth c H locs cells slots Q (F0 m pc ls (.int (nI x) :: rest)) :=
  lv_if_ne hx hb hdg ht (fun z => kt (Nat.pos_of_ne_zero (fun q => by subst q; exact absurd (show nI 0 = 0 by decide +kernel) z))) (fun z => kf (Nat.eq_zero_of_not_pos (fun q => nI_ne0 q h1 z)))
theorem zEq {b : Bool} (hx : p.tables.exec = Jvm.exec) (hb : c.code = cc) {off : Int} {tgt : Nat} (hdg : decode cc pc = .ok (.ifCond .eq off, 3)) (ht : (pc : Int) + off = (tgt : Int)) (kt : b = false → W p l e R s m args below meth c H locs cells slots Q (F0 m tgt ls rest)) (kf : b = true → W p l e R s m args below meth c H locs cells slots Q (F0 m (pc + 3) ls rest)) : W p l e R s m args below meth c H locs cells slots Q (F0 m pc ls (.int (zB b) :: rest)) :=
  lv_if_eq hx hb hdg ht (fun z => kt (by cases b with | false => rfl | true => exact absurd z (by decide +kernel))) (fun z => kf (by cases b with | true => rfl | false => exact absurd (show zB false = 0 by decide +kernel) z))
theorem zNe {b : Bool} (hx : p.tables.exec = Jvm.exec) (hb : c.code = cc) {off : Int} {tgt : Nat} (hdg : decode cc pc = .ok (.ifCond .ne off, 3)) (ht : (pc : Int) + off = (tgt : Int)) (kt : b = true → W p l e R s m args below meth c H locs cells slots Q (F0 m tgt ls rest)) (kf : b = false → W p l e R s m args below meth c H locs cells slots Q (F0 m (pc + 3) ls rest)) : W p l e R s m args below meth c H locs cells slots Q (F0 m pc ls (.int (zB b) :: rest)) :=
  lv_if_ne hx hb hdg ht (fun z => kt (by cases b with | true => rfl | false => exact absurd (show zB false = 0 by decide +kernel) z)) (fun z => kf (by cases b with | false => rfl | true => exact absurd z (by decide +kernel)))
theorem arrV_ext {cA : ClassId} {n : Nat} {f g : Nat → Value} (h : ∀ j, j < n → f j = g j) : arrV cA n f = arrV cA n g := by
  unfold arrV
  rw [show (fun j : Fin n => f j.val) = (fun j : Fin n => g j.val) from funext fun j => h j.val j.isLt]
/-- an array of ints whose places hold the same -/
theorem cellI {D : va_G} {cl : List vw_C} {cA : ClassId} {a n : Nat} {f g : Nat → Int32} {H : Heap} (h : ∀ j, j < n → f j = g j) (hP : va_at D cl (a, .inl (cA, n, .inl f)) H) : va_at D cl (a, .inl (cA, n, .inl g)) H := by
  show H[a]? = some (vp_cell cA (n, .inl g))
  rw [show H[a]? = some (vp_cell cA (n, .inl f)) from hP, vp_cell_i, vp_cell_i]
  exact congrArg some (arrV_ext fun j hj => by rw [h j hj])
theorem cellF {D : va_G} {cl : List vw_C} {cA : ClassId} {a n : Nat} {f g : Nat → UInt32} {H : Heap} (h : ∀ j, j < n → f j = g j) (hP : va_at D cl (a, .inl (cA, n, .inr (.inr (.inl f)))) H) : va_at D cl (a, .inl (cA, n, .inr (.inr (.inl g)))) H := by
  show H[a]? = some (vp_cell cA (n, .inr (.inr (.inl g))))
  rw [show H[a]? = some (vp_cell cA (n, .inr (.inr (.inl f)))) from hP, vp_cell_f, vp_cell_f]
  exact congrArg some (arrV_ext fun j hj => by rw [h j hj])
theorem cellQ {D : va_G} {cl : List vw_C} {cA : ClassId} {a n : Nat} {f g : Nat → Option Nat} {H : Heap} (h : ∀ j, j < n → f j = g j) (hP : va_at D cl (a, .inl (cA, n, .inr (.inr (.inr (.inr f))))) H) : va_at D cl (a, .inl (cA, n, .inr (.inr (.inr (.inr g))))) H := by
  show H[a]? = some (vp_cell cA (n, .inr (.inr (.inr (.inr g)))))
  rw [show H[a]? = some (vp_cell cA (n, .inr (.inr (.inr (.inr f))))) from hP, vp_cell_q, vp_cell_q]
  exact congrArg some (arrV_ext fun j hj => by rw [h j hj])
theorem putCell {D : va_G} {cl : List vw_C} {ws : va_W} {H : Heap} {a : Nat} {e0 e1 : va_E} (hP : va_P D cl ws H) (q0 : Nat) (ha : ws[q0]? = some (a, e0)) (h : va_at D cl (a, e0) H → va_at D cl (a, e1) H) : va_P D cl (ws.set q0 (a, e1)) H := by
  have hl := (List.getElem?_eq_some_iff.mp ha).1
  intro k q hk
  by_cases hkp : k = q0
  · subst hkp
    rw [List.getElem?_set_self hl] at hk
    cases hk
    exact h (hP k _ ha)
  · rw [List.getElem?_set_ne (Ne.symm hkp)] at hk
    exact hP k q hk
/-- a world with an array's contents written otherwise -/
theorem wI {D : va_G} {cl : List vw_C} {ws : va_W} {H : Heap} {a : Nat} {cA : ClassId} {n : Nat} {f g : Nat → Int32} {A : Nat → Prop} (hP : va_P D cl ws H) (hD : va_D A ws) (q0 : Nat) (ha : ws[q0]? = some (a, .inl (cA, n, .inl f))) (h : ∀ j, j < n → f j = g j) : va_P D cl (ws.set q0 (a, .inl (cA, n, .inl g))) H ∧ va_D A (ws.set q0 (a, .inl (cA, n, .inl g))) := ⟨putCell hP q0 ha (cellI h), hD.set ha⟩
theorem wF {D : va_G} {cl : List vw_C} {ws : va_W} {H : Heap} {a : Nat} {cA : ClassId} {n : Nat} {f g : Nat → UInt32} {A : Nat → Prop} (hP : va_P D cl ws H) (hD : va_D A ws) (q0 : Nat) (ha : ws[q0]? = some (a, .inl (cA, n, .inr (.inr (.inl f))))) (h : ∀ j, j < n → f j = g j) : va_P D cl (ws.set q0 (a, .inl (cA, n, .inr (.inr (.inl g))))) H ∧ va_D A (ws.set q0 (a, .inl (cA, n, .inr (.inr (.inl g))))) := ⟨putCell hP q0 ha (cellF h), hD.set ha⟩
theorem wQ {D : va_G} {cl : List vw_C} {ws : va_W} {H : Heap} {a : Nat} {cA : ClassId} {n : Nat} {f g : Nat → Option Nat} {A : Nat → Prop} (hP : va_P D cl ws H) (hD : va_D A ws) (q0 : Nat) (ha : ws[q0]? = some (a, .inl (cA, n, .inr (.inr (.inr (.inr f)))))) (h : ∀ j, j < n → f j = g j) : va_P D cl (ws.set q0 (a, .inl (cA, n, .inr (.inr (.inr (.inr g)))))) H ∧ va_D A (ws.set q0 (a, .inl (cA, n, .inr (.inr (.inr (.inr g)))))) := ⟨putCell hP q0 ha (cellQ h), hD.set ha⟩
theorem rpl_self : ∀ (is : List Nat) (w ws : va_W), is.map (fun i => ws[i]?) = w.map some → rpl ws is w = ws
  | [], [], _, _ => rfl
  | [], _ :: _, _, _ => rfl
  | _ :: _, [], _, h => by cases h
  | i :: is, c :: cs, ws, h => by
    simp only [List.map_cons, List.cons.injEq] at h
    have e : ws.set i c = ws := by
      apply List.ext_getElem?
      intro j
      by_cases hj : j = i
      · subst hj
        rw [List.getElem?_set_self (List.getElem?_eq_some_iff.mp h.1).1, h.1]
      · rw [List.getElem?_set_ne (Ne.symm hj)]
    show rpl (ws.set i c) is cs = ws
    rw [e]
    exact rpl_self is cs ws h.2
theorem nI_inc (k : Nat) : nI k + Int32.ofInt 1 = nI (k + 1) := nI_1 k
theorem nI_inc4 (k : Nat) : nI k + Int32.ofInt 4 = nI (k + 4) := nI_add k 4
end MYROWS
section MYREAD
variable {p : Program} {l : Launch} {e : Env} {R : Room} {s : State} {m : MethodId} {args : Array Value} {below : List Frame} {meth : Method} {c : Code} {H : Heap} {locs : List Loc} {cells slots : Nat} {Q : State → Prop}
variable {y : MethodName} {bytes cc : ByteArray} {maxL nL n index : Nat} {ret : Option FieldType} {w : List Cond} {fr lo : Nat} {Ts : List Cond} {own C : String} {b : Addr} {As as rest st : List Value}
variable {D : va_G} {G : Nat → ClassId} {ws wc : va_W} {A0 A1 : Nat → Prop} {H0 : Heap} {r : Option Value} {pc : Nat} {ls : Array Slot}
/-- the same of methods that change nothing -/
theorem cVr (S : CallFix p m c cc nL s args Ts own) (hP : va_P D vwCl ws H) (hK : va_K D vwCl (tyl G) s) (hD : va_D A0 ws) (hS : va_S A0 H0 H locs) (hN : nst s) (hA : ∀ q, H0.size ≤ q → A0 q)
    (hM : CT l y w fr lo D G (.ref b :: As) wc wc r) (cw : CallW R s args own C index y bytes maxL ret w (rmA fr lo) 0 0 n)
    (isC : List Nat) (hC : isC.map (fun i => ws[i]?) = wc.map some) (hn : va_nd isC = true)
    (q0 ci : Nat) {fs : List Value} {T : u_T} {N : Nat} (he : ws[q0]? = some (b, .inr (ci, fs))) (hc : vwCl[ci]? = some (C, T, N))
    (hlen : As.length = n) (hsize : ls.size = nL) (hst : st = As.reverse ++ .ref b :: rest) (hW : (rest.map fun v => v.category).sum ≤ 8) (hdg : decode cc pc = .ok (.invokevirtual index, 3)) (hcs : cells ≤ R.cells ∧ slots ≤ R.slots)
    (kk : ∀ (H1 : Heap) (locs1 : List Loc), va_P D vwCl ws H1 → va_S A0 H0 H1 locs1 → W p l e R s m args below meth c H1 locs1 cells slots Q (F0 m (pc + 3) ls (r.toList ++ rest))) : W p l e R s m args below meth c H locs cells slots Q (F0 m pc ls st) :=
  cV S hP hK hD hS hN hA hM cw isC hC hn rfl q0 ci he hc hlen hsize hst hW hdg hcs (fun H1 locs1 h1 _ h3 => kk H1 locs1 (rpl_self isC wc ws hC ▸ h1) h3)
theorem cSr (S : CallFix p m c cc nL s args Ts own) (hP : va_P D vwCl ws H) (hK : va_K D vwCl (tyl G) s) (hD : va_D A0 ws) (hS : va_S A0 H0 H locs) (hN : nst s) (hA : ∀ q, H0.size ≤ q → A0 q)
    (hM : CT l y w fr lo D G As wc wc r) (cw : CallB R s args own index y bytes maxL ret w (rmA fr lo) 0 0 n ∧ (Cond.static y).before args s = true)
    (isC : List Nat) (hC : isC.map (fun i => ws[i]?) = wc.map some) (hn : va_nd isC = true)
    (hlen : As.length = n) (hsize : ls.size = nL) (hst : st = As.reverse ++ rest) (hW : (rest.map fun v => v.category).sum ≤ 8) (hdg : decode cc pc = .ok (.invokestatic index, 3)) (hcs : cells ≤ R.cells ∧ slots ≤ R.slots)
    (kk : ∀ (H1 : Heap) (locs1 : List Loc), va_P D vwCl ws H1 → va_S A0 H0 H1 locs1 → W p l e R s m args below meth c H1 locs1 cells slots Q (F0 m (pc + 3) ls (r.toList ++ rest))) : W p l e R s m args below meth c H locs cells slots Q (F0 m pc ls st) :=
  cS S hP hK hD hS hN hA hM cw isC hC hn rfl hlen hsize hst hW hdg hcs (fun H1 locs1 h1 _ h3 => kk H1 locs1 (rpl_self isC wc ws hC ▸ h1) h3)
end MYREAD
