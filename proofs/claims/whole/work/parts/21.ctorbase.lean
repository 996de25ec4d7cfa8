/-! constructors: contracts with new cells -/
def Qnew (D : va_G) (G : Nat → ClassId) (f : (Nat → Nat) → va_W) (A : Nat → Prop) : Array Value → State → Outcome → State → Prop := fun _ st oc t => (oc = .returned none ∧ ∃ Rn : Nat → Nat, wAt D G (f Rn) A t) ∧ va_F A st t
abbrev rmN (fr mc ms lo : Nat) : Room := { frames := fr, cells := mc, slots := ms, locals := lo }
def CN (l : Launch) (y : MethodName) (w : List Cond) (fr mc ms lo : Nat) (D : va_G) (G : Nat → ClassId) (b : Nat) (ws : va_W) (f : (Nat → Nat) → va_W) : Prop :=
  ∀ sz : Nat, Met l y w (rmN fr mc ms lo) (va_Pc [.ref b] (wPre D G ws sz)) (Qnew D G f (va_A ws sz)) mc ms (va_A ws sz)
theorem CN.of {l : Launch} {y : MethodName} {w w' : List Cond} {fr mc ms lo : Nat} {D : va_G} {G : Nat → ClassId} {b : Nat} {ws : va_W} {f : (Nat → Nat) → va_W} {cc : ByteArray} {maxL : Nat} {ret : Option FieldType}
    (hy : plainName y.cls = true) (hw : w = Cond.code y cc maxL ret :: w') (own : String) (ho : y.cls = own) (hlen : (lg_sl [Value.ref b]).length ≤ maxL)
    (K : ∀ (p : Program) (e : Env) (s : State) (m : MethodId) (below : List Frame) (meth : Method) (c : Code) (A : Nat → Prop) (ls : Array Slot),
      p.tables.exec = Jvm.exec → c.code = cc → meth.sig.returnType = ret → c.maxLocals = maxL → (∀ x ∈ w, x.before #[Value.ref b] s = true) → s.vm.findClass own = some m.cls → meth.locks = false → meth.name = y.name → (∀ q, s.heap.size ≤ q → A q) → va_P D vwCl ws s.heap → va_K D vwCl (tyl G) s → va_D A ws → nst s → va_S A s.heap s.heap [] → lv_has ls maxL (lv_args 0 [Value.ref b]) →
      W p l e (rmN fr mc ms lo) s m #[Value.ref b] below meth c s.heap [] 0 0 (MQ below (Qnew D G f A) #[Value.ref b] s mc ms A) (F0 m 0 ls [])) : CN l y w fr mc ms lo D G b ws f := by
  intro sz
  refine Met.ofW (cc := cc) (maxL := maxL) (ret := ret) hy hw ?_
  intro p e s m args below meth c s₁ B hml hv
  obtain ⟨rfl, hsz, hP, hK, hD0, hN⟩ := hv
  subst hsz
  subst ho
  rw [lg_entry_eq]
  exact K p e s m below meth c _ _ B.exec B.bytes B.returns hml (atoms_spec (ws := w) B.pre) (findClass_of_methodNamed B.named) B.notSynchronized (name_of_methodNamed B.named B.method).1 (fun q h => Or.inr h) hP hK hD0.self hN va_S.rf (lv_entry [Value.ref b] hlen)
section MYNEW
variable {p : Program} {l : Launch} {e : Env} {R : Room} {s : State} {m : MethodId} {args : Array Value} {below : List Frame} {meth : Method} {c : Code} {H : Heap} {locs : List Loc} {cells slots : Nat} {Q : State → Prop}
variable {y : MethodName} {bytes cc : ByteArray} {maxL nL n index : Nat} {ret : Option FieldType} {w : List Cond} {fr lo mc ms : Nat} {Ts : List Cond} {own C : String} {b : Addr} {rest st : List Value}
variable {D : va_G} {G : Nat → ClassId} {ws wc wr ws2 : va_W} {A A0 : Nat → Prop} {H0 : Heap} {pc : Nat} {ls : Array Slot} {f : (Nat → Nat) → va_W}
/-- invokespecial of a constructor with a contract -/
theorem cI (S : CallFix p m c cc nL s args Ts own) (hP : va_P D vwCl ws H) (hK : va_K D vwCl (tyl G) s) (hD : va_D A0 ws) (hS : va_S A0 H0 H locs) (hN : nst s) (hA : ∀ q, H0.size ≤ q → A0 q)
    (hM : CN l y w fr mc ms lo D G b wc f) (cw : CallB R s args own index y bytes maxL none w (rmN fr mc ms lo) mc ms 0 ∧ y.name = "<init>" ∧ (Cond.instanceMethod y).before args s = true)
    (isC isR : List Nat) (hC : isC.map (fun i => ws[i]?) = wc.map some) (hR : isR.map (fun i => ws[i]?) = wr.map some) (hn : va_nd isC = true) (hnR : va_nd isR = true) (hdis : ∀ i ∈ isR, i ∉ isC)
    (hsize : ls.size = nL) (hst : st = .ref b :: rest) (hW : (rest.map fun v => v.category).sum ≤ 8) (hdg : decode cc pc = .ok (.invokespecial index, 3)) (hcs : cells + mc ≤ R.cells ∧ slots + ms ≤ R.slots)
    (kk : ∀ (Rn : Nat → Nat) (H1 : Heap) (locs1 : List Loc), va_P D vwCl (wr ++ f Rn) H1 → va_D A0 (wr ++ f Rn) → va_S A0 H0 H1 locs1 → W p l e R s m args below meth c H1 locs1 (cells + mc) (slots + ms) Q (F0 m (pc + 3) ls rest)) : W p l e R s m args below meth c H locs cells slots Q (F0 m pc ls st) := by
  intro T hT X
  obtain ⟨v, st₀, t, T', L, h0, X', hL, e1, e2, ⟨⟨hv, Rn, hP1, hK1, hD1⟩, hz, hk⟩, st⟩ := va_runI (As := []) (rest := rest) S (hM H.size) cw (pre_of hP hD hK hN isC hC hn) rfl rfl hsize hst (lv_room hW) hdg hcs T hT X
  cases hv
  rw [h0] at hz hk
  have hF : ∀ q, va_A wc H.size q → A0 q := va_free hD hS hA isC hC
  obtain ⟨j1, j2⟩ := va_join hP hD isC isR hC hR hnR hdis hk hF hP1 hD1
  obtain ⟨t2, a1, b1⟩ := kk Rn T'.heap (locs ++ L) (by rw [e1]; exact j1) j2
    ⟨Nat.le_trans hS.1 (by rw [e1]; exact hz), fun q h1 h2 => by rw [e1, hk q (Nat.lt_of_lt_of_le h1 hS.1) (fun z => h2 (hF q z))]; exact hS.2.1 q h1 h2, fun q hq => by
      rcases List.mem_append.mp hq with h | h
      · exact hS.2.2 q h
      · exact hF _ (hL q h)⟩ T' rfl X'
  exact ⟨t2, st t2 a1, b1⟩
theorem rNret (Rn : Nat → Nat) (hx : p.tables.exec = Jvm.exec) (hb : c.code = cc) (hr : meth.sig.returnType = none) (hlk : meth.locks = false) (hP : va_P D vwCl (f Rn) H) (hK : va_K D vwCl (tyl G) s) (hD : va_D A (f Rn)) (hS : va_S A s.heap H locs) (hdg : decode cc pc = .ok (.return_, 1)) : W p l e R s m args below meth c H locs cells slots (MQ below (Qnew D G f A) args s cells slots A) (F0 m pc ls []) :=
  W.vret hx hb hr (fun t ht hW => ⟨⟨rfl, Rn, by rw [ht]; exact hP, va_K.moved hW.alike hK, hD⟩, hS.F ht⟩) hS.2.2 hdg hlk
theorem va_K_un {U : State} {cA : ClassId} {ty : FieldType} (i : Nat) (hK : va_K D vwCl (tyl G) U) (hK2 : va_K D vwCl (tyl G ++ [(cA, ty)]) U) (hi : (tyl G)[i]? = some (G i, ty)) (hnm : ∀ c : ClassId, va_RA U c ty → U.vm.findClass ("[" ++ ty.toString) = some c) : cA = G i := by
  have h1 := hnm _ (hK.2 i _ hi).2
  have h2 := hnm _ (hK2.2 4 (cA, ty) rfl).2
  exact Option.some.inj (h2.symm.trans h1)
/-- a new row of ints -/
theorem nAi (hx : p.tables.exec = Jvm.exec) (hb : c.code = cc) (harr : (Cond.arrayClass .int).before args s = true) (hK : va_K D vwCl (tyl G) s) (hP : va_P D vwCl ws H) (hD : va_D A ws) (hS : va_S A H0 H locs) (hA : ∀ q, H0.size ≤ q → A q)
    {k : Nat} (hk : k < 4096) (hcells : cells + 1 ≤ R.cells) (hslots : slots + k ≤ R.slots) (hdg : decode cc pc = .ok (.newarray .int, 2))
    (kk : ∀ (q : Nat) (H1 : Heap), va_P D vwCl (ws ++ [(q, .inl (G 0, k, .inl zr))]) H1 → va_D A (ws ++ [(q, .inl (G 0, k, .inl zr))]) → va_S A H0 H1 locs → W p l e R s m args below meth c H1 locs (cells + 1) (slots + k) Q (F0 m (pc + 2) ls (.ref q :: rest))) : W p l e R s m args below meth c H locs cells slots Q (F0 m pc ls (.int (nI k) :: rest)) := by
  refine va_newa (atype := .int) (a0 := (k, .inl zr)) (N' := k) hx hb harr rfl hK hP hD hS hA (fun cA => rfl) (by rw [lt_toInt, nI_toInt (by omega), zero_toInt]; omega) (nI_clamp (by omega)) (by show k * 4 ≤ 536870912; omega) hcells hslots hdg (fun q cA H1 hK2 hP hD hS => ?_)
  obtain rfl := va_K_un 0 hK hK2 rfl (fun _ h => h)
  exact kk q H1 hP hD hS
theorem nAc (hx : p.tables.exec = Jvm.exec) (hb : c.code = cc) (harr : (Cond.arrayClass .char).before args s = true) (hK : va_K D vwCl (tyl G) s) (hP : va_P D vwCl ws H) (hD : va_D A ws) (hS : va_S A H0 H locs) (hA : ∀ q, H0.size ≤ q → A q)
    {k : Nat} (hk : k < 4096) (hcells : cells + 1 ≤ R.cells) (hslots : slots + k ≤ R.slots) (hdg : decode cc pc = .ok (.newarray .char, 2))
    (kk : ∀ (q : Nat) (H1 : Heap), va_P D vwCl (ws ++ [(q, .inl (G 2, k, .inl zr))]) H1 → va_D A (ws ++ [(q, .inl (G 2, k, .inl zr))]) → va_S A H0 H1 locs → W p l e R s m args below meth c H1 locs (cells + 1) (slots + k) Q (F0 m (pc + 2) ls (.ref q :: rest))) : W p l e R s m args below meth c H locs cells slots Q (F0 m pc ls (.int (nI k) :: rest)) := by
  refine va_newa (atype := .char) (a0 := (k, .inl zr)) (N' := k) hx hb harr rfl hK hP hD hS hA (fun cA => rfl) (by rw [lt_toInt, nI_toInt (by omega), zero_toInt]; omega) (nI_clamp (by omega)) (by show k * 2 ≤ 536870912; omega) hcells hslots hdg (fun q cA H1 hK2 hP hD hS => ?_)
  obtain rfl := va_K_un 2 hK hK2 rfl (fun _ h => h)
  exact kk q H1 hP hD hS
def zf : Nat → UInt32 := fun _ => 0
theorem nAf (hx : p.tables.exec = Jvm.exec) (hb : c.code = cc) (harr : (Cond.arrayClass .float).before args s = true) (hK : va_K D vwCl (tyl G) s) (hP : va_P D vwCl ws H) (hD : va_D A ws) (hS : va_S A H0 H locs) (hA : ∀ q, H0.size ≤ q → A q)
    {k : Nat} (hk : k < 4096) (hcells : cells + 1 ≤ R.cells) (hslots : slots + k ≤ R.slots) (hdg : decode cc pc = .ok (.newarray .float, 2))
    (kk : ∀ (q : Nat) (H1 : Heap), va_P D vwCl (ws ++ [(q, .inl (G 1, k, .inr (.inr (.inl zf))))]) H1 → va_D A (ws ++ [(q, .inl (G 1, k, .inr (.inr (.inl zf))))]) → va_S A H0 H1 locs → W p l e R s m args below meth c H1 locs (cells + 1) (slots + k) Q (F0 m (pc + 2) ls (.ref q :: rest))) : W p l e R s m args below meth c H locs cells slots Q (F0 m pc ls (.int (nI k) :: rest)) := by
  refine va_newa (atype := .float) (a0 := (k, .inr (.inr (.inl zf)))) (N' := k) hx hb harr rfl hK hP hD hS hA (fun cA => rfl) (by rw [lt_toInt, nI_toInt (by omega), zero_toInt]; omega) (nI_clamp (by omega)) (by show k * 4 ≤ 536870912; omega) hcells hslots hdg (fun q cA H1 hK2 hP hD hS => ?_)
  obtain rfl := va_K_un 1 hK hK2 rfl (fun _ h => h)
  exact kk q H1 hP hD hS
theorem nAq (hx : p.tables.exec = Jvm.exec) (hb : c.code = cc) (hown : s.vm.findClass own = some m.cls) (hcl : (Cond.classLink own index RX2).before args s = true) (hN : nst s) (hK : va_K D vwCl (tyl G) s) (hP : va_P D vwCl ws H) (hD : va_D A ws) (hS : va_S A H0 H locs) (hA : ∀ q, H0.size ≤ q → A q)
    {k : Nat} (hk : k < 4096) (hcells : cells + 1 ≤ R.cells) (hslots : slots + k ≤ R.slots) (hdg : decode cc pc = .ok (.anewarray index, 3))
    (kk : ∀ (q : Nat) (H1 : Heap), va_P D vwCl (ws ++ [(q, .inl (G 3, k, .inr (.inr (.inr (.inr (fun _ => none))))))]) H1 → va_D A (ws ++ [(q, .inl (G 3, k, .inr (.inr (.inr (.inr (fun _ => none))))))]) → va_S A H0 H1 locs → W p l e R s m args below meth c H1 locs (cells + 1) (slots + k) Q (F0 m (pc + 3) ls (.ref q :: rest))) : W p l e R s m args below meth c H locs cells slots Q (F0 m pc ls (.int (nI k) :: rest)) := by
  refine va_newq (N' := k) hx hb hown hcl hN.2.2 hK hP hD hS hA (by rw [lt_toInt, nI_toInt (by omega), zero_toInt]; omega) (nI_clamp (by omega)) (by omega) hcells hslots hdg (fun q cA H1 hK2 hP hD hS => ?_)
  obtain rfl := va_K_un 3 hK hK2 rfl (fun _ h => by obtain ⟨_, _, _, _, _, h4⟩ := h; exact h4)
  exact kk q H1 hP hD hS
end MYNEW
