/-! A pure state: numbers by their places, rows by the places of their cells. -/
abbrev CS : Type := (Nat → Int32) × (Nat → Nat → Int32)
def setF (σ : CS) (k : Nat) (v : Int32) : CS := (upd σ.1 k v, σ.2)
def setR (σ : CS) (k : Nat) (f : Nat → Int32) : CS := (σ.1, fun j => if j = k then f else σ.2 j)
def setA (σ : CS) (k i : Nat) (v : Int32) : CS := setR σ k (upd (σ.2 k) i v)
abbrev vwX : List vw_C := [(RX0, TX0, 8), (RX1, TX1, 3), (RX2, TX2, 4), (RX3, TX3, 3), (RX4, TX4, 5), (RX5, TX5, 18)]
/-- the room of a method by its height over the leaves -/
def rmK (k : Nat) : Room := { frames := 4 + 4 * k, cells := 0, slots := 0, locals := 100 + 100 * k }
def wC (y : MethodName) (cc : ByteArray) (nL : Nat) (ret : Option FieldType) : List Cond := Cond.code y cc nL ret :: wAll
theorem good_mem {w : Cond} (h : w ∈ wAll) : w ∈ wAll ∧ ((w.onTables && w.keeps) = true ∨ ∃ ty, w = .arrayClass ty) := ⟨h, good_of_word (List.all_eq_true.mp wAll_good w h)⟩
/-- the world of a walk: the tables, the cells, apart, nothing else written -/
def WD (D : va_G) (tys : List (ClassId × FieldType)) (ws : va_W) (A : Nat → Prop) (s : State) (H : Heap) (locs : List Loc) : Prop :=
  va_K D vwX tys s ∧ va_P D vwX ws H ∧ va_D A ws ∧ va_S A s.heap H locs ∧ ∀ q, s.heap.size ≤ q → A q
def MB (p : Program) (s : State) (m : MethodId) (args : Array Value) (meth : Method) (c : Code) (cc : ByteArray) (nL : Nat) (ret : Option FieldType) (own : String) : Prop :=
  p.tables.exec = Jvm.exec ∧ c.code = cc ∧ meth.sig.returnType = ret ∧ c.maxLocals = nL ∧ s.vm.findClass own = some m.cls ∧ (∀ w ∈ wAll, w.before args s = true) ∧ meth.locks = false
def Pre0 (D : va_G) (tys : List (ClassId × FieldType)) (ws : va_W) (sz : Nat) (U : State) : Prop :=
  U.heap.size = sz ∧ va_P D vwX ws U.heap ∧ va_K D vwX tys U ∧ va_D (fun _ => True) ws
def Pos0 {S : Type} (D : va_G) (tys : List (ClassId × FieldType)) (cf : S → va_W) (A : Nat → Prop) (σ : S) (t : State) : Prop :=
  va_P D vwX (cf σ) t.heap ∧ va_K D vwX tys t ∧ va_D A (cf σ)
/-- contracts: the answer and the state behind the call meet post -/
def MtI {S : Type} (l : Launch) (D : va_G) (tys : List (ClassId × FieldType)) (cf : S → va_W) (y : MethodName) (cc : ByteArray) (nL : Nat) (ret : Option FieldType) (rm : Room) (av : List Value) (σ : S) (post : Int32 → S → Prop) : Prop :=
  ∀ sz, Met l y (wC y cc nL ret) rm (va_Pc av (Pre0 D tys (cf σ) sz)) (va_Qi post (Pos0 D tys cf (va_A (cf σ) sz)) (va_A (cf σ) sz)) 0 0 (va_A (cf σ) sz)
def MtV {S : Type} (l : Launch) (D : va_G) (tys : List (ClassId × FieldType)) (cf : S → va_W) (y : MethodName) (cc : ByteArray) (nL : Nat) (ret : Option FieldType) (rm : Room) (av : List Value) (σ : S) (post : S → Prop) : Prop :=
  ∀ sz, Met l y (wC y cc nL ret) rm (va_Pc av (Pre0 D tys (cf σ) sz)) (va_Qv post (Pos0 D tys cf (va_A (cf σ) sz)) (va_A (cf σ) sz)) 0 0 (va_A (cf σ) sz)
theorem WD_free {D : va_G} {tys : List (ClassId × FieldType)} {ws : va_W} {A : Nat → Prop} {s : State} {H : Heap} {locs : List Loc} (hw : WD D tys ws A s H locs) : ∀ q, va_A ws H.size q → A q := by
  intro q h
  rcases h with ⟨k, e, h⟩ | h
  · exact hw.2.2.1.2 k _ h
  · exact hw.2.2.2.2 q (Nat.le_trans hw.2.2.2.1.1 h)
section WORLD
variable {p : Program} {l : Launch} {e : Env} {R : Room} {s : State} {m : MethodId} {args : Array Value} {below : List Frame} {meth : Method} {c : Code} {H : Heap} {locs : List Loc} {cells slots : Nat} {Q : State → Prop}
variable {pc : Nat} {ls : Array Slot} {rest st0 : List Value} {A : Nat → Prop} {D : va_G} {tys : List (ClassId × FieldType)} {S : Type} {cf : S → va_W} {σ : S} {cc : ByteArray} {nL : Nat} {ret : Option FieldType} {own : String}
set_option maxHeartbeats 4000000 in
theorem MtI_of {y : MethodName} {rm : Room} {av : List Value} {post : Int32 → S → Prop} (hpl : plainName y.cls = true) (hlen : (lg_sl av).length ≤ nL)
    (K : ∀ (p : Program) (e : Env) (s : State) (m : MethodId) (below : List Frame) (meth : Method) (c : Code) (A : Nat → Prop) (ls : Array Slot), MB p s m av.toArray meth c cc nL ret y.cls → WD D tys (cf σ) A s s.heap [] → lv_has ls nL (lv_args 0 av) → W p l e rm s m av.toArray below meth c s.heap [] 0 0 (MQ below (va_Qi post (Pos0 D tys cf A) A) av.toArray s 0 0 A) (F0 m 0 ls [])) :
    MtI l D tys cf y cc nL ret rm av σ post := by
  intro sz
  refine Met.ofW (cc := cc) (maxL := nL) (ret := ret) hpl rfl ?_
  intro p e s m args below meth c s₁ B hml hv
  obtain ⟨rfl, hsz, hP, hK, hD0⟩ := hv
  subst hsz
  have hts := atoms_spec (ws := wC y cc nL ret) B.pre
  have hown : s.vm.findClass y.cls = some m.cls := findClass_of_methodNamed B.named
  have hl := lv_entry av (n := nL) hlen
  rw [lg_entry_eq]
  exact K p e s m below meth c _ _ ⟨B.exec, B.bytes, B.returns, hml, hown, fun w h => hts w (List.mem_cons_of_mem _ h), B.notSynchronized⟩ ⟨hK, hP, hD0.self (sz := s.heap.size), va_S.rf, fun q h => Or.inr h⟩ hl
set_option maxHeartbeats 4000000 in
theorem MtV_of {y : MethodName} {rm : Room} {av : List Value} {post : S → Prop} (hpl : plainName y.cls = true) (hlen : (lg_sl av).length ≤ nL)
    (K : ∀ (p : Program) (e : Env) (s : State) (m : MethodId) (below : List Frame) (meth : Method) (c : Code) (A : Nat → Prop) (ls : Array Slot), MB p s m av.toArray meth c cc nL ret y.cls → WD D tys (cf σ) A s s.heap [] → lv_has ls nL (lv_args 0 av) → W p l e rm s m av.toArray below meth c s.heap [] 0 0 (MQ below (va_Qv post (Pos0 D tys cf A) A) av.toArray s 0 0 A) (F0 m 0 ls [])) :
    MtV l D tys cf y cc nL ret rm av σ post := by
  intro sz
  refine Met.ofW (cc := cc) (maxL := nL) (ret := ret) hpl rfl ?_
  intro p e s m args below meth c s₁ B hml hv
  obtain ⟨rfl, hsz, hP, hK, hD0⟩ := hv
  subst hsz
  have hts := atoms_spec (ws := wC y cc nL ret) B.pre
  have hown : s.vm.findClass y.cls = some m.cls := findClass_of_methodNamed B.named
  have hl := lv_entry av (n := nL) hlen
  rw [lg_entry_eq]
  exact K p e s m below meth c _ _ ⟨B.exec, B.bytes, B.returns, hml, hown, fun w h => hts w (List.mem_cons_of_mem _ h), B.notSynchronized⟩ ⟨hK, hP, hD0.self (sz := s.heap.size), va_S.rf, fun q h => Or.inr h⟩ hl
theorem w_iret {post : Int32 → S → Prop} {v : Int32} (hB : MB p s m args meth c cc nL (some .int) own) (hw : WD D tys (cf σ) A s H locs) (hp : post v σ) (hdg : decode cc pc = .ok (.ireturn, 1)) :
    W p l e R s m args below meth c H locs 0 0 (MQ below (va_Qi post (Pos0 D tys cf A) A) args s 0 0 A) (F0 m pc ls [.int v]) := by
  obtain ⟨hx, hb, hr, hml, hown, hts, hlk⟩ := hB
  exact W.iret hx hb hr (fun t ht hW => ⟨⟨v, σ, rfl, hp, by rw [ht]; exact hw.2.1, va_K.moved hW.alike hw.1, hw.2.2.1⟩, hw.2.2.2.1.F ht⟩) hw.2.2.2.1.2.2 hdg hlk
theorem w_zret {post : Int32 → S → Prop} {v : Int32} {ty : FieldType} (hB : MB p s m args meth c cc nL (some ty) own) (hw : WD D tys (cf σ) A s H locs) (hn : narrow ty (.int v) = .int v) (hp : post v σ) (hdg : decode cc pc = .ok (.ireturn, 1)) :
    W p l e R s m args below meth c H locs 0 0 (MQ below (va_Qi post (Pos0 D tys cf A) A) args s 0 0 A) (F0 m pc ls [.int v]) := by
  obtain ⟨hx, hb, hr, hml, hown, hts, hlk⟩ := hB
  exact W.zret hx hb hr hn (fun t ht hW => ⟨⟨v, σ, rfl, hp, by rw [ht]; exact hw.2.1, va_K.moved hW.alike hw.1, hw.2.2.1⟩, hw.2.2.2.1.F ht⟩) hw.2.2.2.1.2.2 hdg hlk
theorem w_vret {post : S → Prop} (hB : MB p s m args meth c cc nL none own) (hw : WD D tys (cf σ) A s H locs) (hp : post σ) (hdg : decode cc pc = .ok (.return_, 1)) :
    W p l e R s m args below meth c H locs 0 0 (MQ below (va_Qv post (Pos0 D tys cf A) A) args s 0 0 A) (F0 m pc ls []) := by
  obtain ⟨hx, hb, hr, hml, hown, hts, hlk⟩ := hB
  exact W.vret hx hb hr (fun t ht hW => ⟨⟨σ, rfl, hp, by rw [ht]; exact hw.2.1, va_K.moved hW.alike hw.1, hw.2.2.1⟩, hw.2.2.2.1.F ht⟩) hw.2.2.2.1.2.2 hdg hlk
theorem good_V {own C : String} {idx : Nat} {y : MethodName} {ycc : ByteArray} {ynL : Nat} {yret : Option FieldType} (h1 : Cond.methodLink own idx y ∈ wAll) (h2 : Cond.instanceMethod y ∈ wAll) (h3 : Cond.selects C y y ∈ wAll) (h4 : Cond.initialized C ∈ wAll) (h5 : Cond.code y ycc ynL yret ∈ wAll) : GoodIn wAll (wsV own idx C y (wC y ycc ynL yret)) := by
  intro w hw
  rcases List.mem_append.mp hw with h | h
  · rcases List.mem_cons.mp h with rfl | h
    · exact good_mem h1
    rcases List.mem_cons.mp h with rfl | h
    · exact good_mem h2
    rcases List.mem_cons.mp h with rfl | h
    · exact good_mem h3
    rcases List.mem_cons.mp h with rfl | h
    · exact good_mem h4
    cases h
  · rcases List.mem_cons.mp h with rfl | h
    · exact good_mem h5
    · exact good_mem h
theorem good_S {own : String} {idx : Nat} {y : MethodName} {ycc : ByteArray} {ynL : Nat} {yret : Option FieldType} (h1 : Cond.methodLink own idx y ∈ wAll) (h2 : Cond.static y ∈ wAll) (h4 : Cond.initialized y.cls ∈ wAll) (h5 : Cond.code y ycc ynL yret ∈ wAll) : GoodIn wAll (va_wsS own idx y (wC y ycc ynL yret)) := by
  intro w hw
  rcases List.mem_append.mp hw with h | h
  · rcases List.mem_cons.mp h with rfl | h
    · exact good_mem h1
    rcases List.mem_cons.mp h with rfl | h
    · exact good_mem h2
    rcases List.mem_cons.mp h with rfl | h
    · exact good_mem h4
    cases h
  · rcases List.mem_cons.mp h with rfl | h
    · exact good_mem h5
    · exact good_mem h
def okY (y : MethodName) (n : Nat) : Prop := y.cls ≠ "java/lang/invoke/MethodHandle" ∧ y.cls ≠ "java/lang/invoke/VarHandle" ∧ (parseMethodDescriptor y.desc).map (fun d => d.parameters.length) = some n
def okR (rm : Room) (ynL : Nat) (R : Room) : Prop := rm.cells = 0 ∧ rm.slots = 0 ∧ rm.frames + 1 ≤ R.frames ∧ 8 + (ynL + 11) + rm.locals ≤ R.locals
theorem okR_K {a b n : Nat} (h : a < b) (hn : n ≤ 80) : okR (rmK a) n (rmK b) := by
  refine ⟨rfl, rfl, ?_, ?_⟩
  · show 4 + 4 * a + 1 ≤ 4 + 4 * b
    omega
  · show 8 + (n + 11) + (100 + 100 * a) ≤ 100 + 100 * b
    omega
set_option maxHeartbeats 4000000 in
/-- a virtual call that answers an int, in the same world -/
theorem w_cVI {y : MethodName} {ycc : ByteArray} {ynL n idx q0 ci N : Nat} {yret : Option FieldType} {rm : Room} {b : Nat} {fs : List Value} {T : u_T} {C : String} {As : List Value} {post : Int32 → S → Prop}
    (hB : MB p s m args meth c cc nL ret own) (hw : WD D tys (cf σ) A s H locs) (hl : ls.size = nL) (hM : MtI l D tys cf y ycc ynL yret rm (.ref b :: As) σ post)
    (h1 : Cond.methodLink own idx y ∈ wAll) (h2 : Cond.instanceMethod y ∈ wAll) (h3 : Cond.selects C y y ∈ wAll) (h4 : Cond.initialized C ∈ wAll) (h5 : Cond.code y ycc ynL yret ∈ wAll) (hC : y.cls = C) (hd : okY y n) (hR : okR rm ynL R)
    (he : (cf σ)[q0]? = some (b, .inr (ci, fs))) (hci : vwX[ci]? = some (C, T, N)) (hn : As.length = n) (hst : st0 = As.reverse ++ .ref b :: rest) (hrest : (rest.map fun v => v.category).sum ≤ 8) (hdg : decode cc pc = .ok (.invokevirtual idx, 3))
    (kk : ∀ (r : Int32) (σ' : S) (H : Heap) (locs : List Loc), post r σ' → WD D tys (cf σ') A s H locs → W p l e R s m args below meth c H locs 0 0 Q (F0 m (pc + 3) ls (.int r :: rest))) :
    W p l e R s m args below meth c H locs 0 0 Q (F0 m pc ls st0) := by
  obtain ⟨hx, hb, hr, hml, hown, hts, hlk⟩ := hB
  obtain ⟨hK, hP, hD, hS, hA⟩ := id hw
  have hF := WD_free hw
  subst hst
  refine va_calli (va_runV (As := As) (rest := rest) ⟨hx, hb, hml, hown, hts⟩ (hM H.size) (cwV n hts (good_V h1 h2 h3 h4 h5) rfl hR.1 hR.2.1 ⟨hC, hd⟩ hR.2.2) ⟨fun a U g mk q => by obtain ⟨q0, q1, qP, qK, qD⟩ := q; exact ⟨q0, q1, qP, va_K.moved (u := U) (U := U.calling g mk a) (Vm.Alike.refl U.vm) qK, qD⟩, va_recv hK hP hci he, fun U hU hW => ⟨rfl, by rw [hU], by rw [hU]; exact hP, va_K.moved hW.alike hK, hD.weaken (fun _ _ _ _ => trivial)⟩⟩ rfl hn hl rfl (lv_room hrest) hdg ⟨Nat.zero_le _, Nat.zero_le _⟩) hS (fun q _ h => hF q h) hF (fun r u t H1 locs1 ht hvm hp hB hz1 hk1 hS1 => ?_)
  obtain ⟨hP1, hK1, hD1⟩ := hB
  rw [ht] at hP1
  exact kk r u H1 locs1 hp ⟨va_K.moved hvm.symm hK1, hP1, hD1.weaken (fun _ _ _ h => hF _ h), hS1, hA⟩
set_option maxHeartbeats 4000000 in
theorem w_cVV {y : MethodName} {ycc : ByteArray} {ynL n idx q0 ci N : Nat} {yret : Option FieldType} {rm : Room} {b : Nat} {fs : List Value} {T : u_T} {C : String} {As : List Value} {post : S → Prop}
    (hB : MB p s m args meth c cc nL ret own) (hw : WD D tys (cf σ) A s H locs) (hl : ls.size = nL) (hM : MtV l D tys cf y ycc ynL yret rm (.ref b :: As) σ post)
    (h1 : Cond.methodLink own idx y ∈ wAll) (h2 : Cond.instanceMethod y ∈ wAll) (h3 : Cond.selects C y y ∈ wAll) (h4 : Cond.initialized C ∈ wAll) (h5 : Cond.code y ycc ynL yret ∈ wAll) (hC : y.cls = C) (hd : okY y n) (hR : okR rm ynL R)
    (he : (cf σ)[q0]? = some (b, .inr (ci, fs))) (hci : vwX[ci]? = some (C, T, N)) (hn : As.length = n) (hst : st0 = As.reverse ++ .ref b :: rest) (hrest : (rest.map fun v => v.category).sum ≤ 8) (hdg : decode cc pc = .ok (.invokevirtual idx, 3))
    (kk : ∀ (σ' : S) (H : Heap) (locs : List Loc), post σ' → WD D tys (cf σ') A s H locs → W p l e R s m args below meth c H locs 0 0 Q (F0 m (pc + 3) ls rest)) :
    W p l e R s m args below meth c H locs 0 0 Q (F0 m pc ls st0) := by
  obtain ⟨hx, hb, hr, hml, hown, hts, hlk⟩ := hB
  obtain ⟨hK, hP, hD, hS, hA⟩ := id hw
  have hF := WD_free hw
  subst hst
  refine va_callv (va_runV (As := As) (rest := rest) ⟨hx, hb, hml, hown, hts⟩ (hM H.size) (cwV n hts (good_V h1 h2 h3 h4 h5) rfl hR.1 hR.2.1 ⟨hC, hd⟩ hR.2.2) ⟨fun a U g mk q => by obtain ⟨q0, q1, qP, qK, qD⟩ := q; exact ⟨q0, q1, qP, va_K.moved (u := U) (U := U.calling g mk a) (Vm.Alike.refl U.vm) qK, qD⟩, va_recv hK hP hci he, fun U hU hW => ⟨rfl, by rw [hU], by rw [hU]; exact hP, va_K.moved hW.alike hK, hD.weaken (fun _ _ _ _ => trivial)⟩⟩ rfl hn hl rfl (lv_room hrest) hdg ⟨Nat.zero_le _, Nat.zero_le _⟩) hS (fun q _ h => hF q h) hF (fun u t H1 locs1 ht hvm hp hB hz1 hk1 hS1 => ?_)
  obtain ⟨hP1, hK1, hD1⟩ := hB
  rw [ht] at hP1
  exact kk u H1 locs1 hp ⟨va_K.moved hvm.symm hK1, hP1, hD1.weaken (fun _ _ _ h => hF _ h), hS1, hA⟩
set_option maxHeartbeats 4000000 in
theorem w_cSI {y : MethodName} {ycc : ByteArray} {ynL n idx : Nat} {yret : Option FieldType} {rm : Room} {As : List Value} {post : Int32 → S → Prop}
    (hB : MB p s m args meth c cc nL ret own) (hw : WD D tys (cf σ) A s H locs) (hl : ls.size = nL) (hM : MtI l D tys cf y ycc ynL yret rm As σ post)
    (h1 : Cond.methodLink own idx y ∈ wAll) (h2 : Cond.static y ∈ wAll) (h4 : Cond.initialized y.cls ∈ wAll) (h5 : Cond.code y ycc ynL yret ∈ wAll) (hd : okY y n) (hR : okR rm ynL R)
    (hn : As.length = n) (hst : st0 = As.reverse ++ rest) (hrest : (rest.map fun v => v.category).sum ≤ 8) (hdg : decode cc pc = .ok (.invokestatic idx, 3))
    (kk : ∀ (r : Int32) (σ' : S) (H : Heap) (locs : List Loc), post r σ' → WD D tys (cf σ') A s H locs → W p l e R s m args below meth c H locs 0 0 Q (F0 m (pc + 3) ls (.int r :: rest))) :
    W p l e R s m args below meth c H locs 0 0 Q (F0 m pc ls st0) := by
  obtain ⟨hx, hb, hr, hml, hown, hts, hlk⟩ := hB
  obtain ⟨hK, hP, hD, hS, hA⟩ := id hw
  have hF := WD_free hw
  subst hst
  refine va_calli (va_runS (As := As) (rest := rest) ⟨hx, hb, hml, hown, hts⟩ (hM H.size) (va_cwS n hts (good_S h1 h2 h4 h5) rfl hR.1 hR.2.1 hd hR.2.2) ⟨fun a U g mk q => by obtain ⟨q0, q1, qP, qK, qD⟩ := q; exact ⟨q0, q1, qP, va_K.moved (u := U) (U := U.calling g mk a) (Vm.Alike.refl U.vm) qK, qD⟩, fun U hU hW => ⟨rfl, by rw [hU], by rw [hU]; exact hP, va_K.moved hW.alike hK, hD.weaken (fun _ _ _ _ => trivial)⟩⟩ rfl hn hl rfl (lv_room hrest) hdg ⟨Nat.zero_le _, Nat.zero_le _⟩) hS (fun q _ h => hF q h) hF (fun r u t H1 locs1 ht hvm hp hB hz1 hk1 hS1 => ?_)
  obtain ⟨hP1, hK1, hD1⟩ := hB
  rw [ht] at hP1
  exact kk r u H1 locs1 hp ⟨va_K.moved hvm.symm hK1, hP1, hD1.weaken (fun _ _ _ h => hF _ h), hS1, hA⟩
set_option maxHeartbeats 4000000 in
theorem w_cSV {y : MethodName} {ycc : ByteArray} {ynL n idx : Nat} {yret : Option FieldType} {rm : Room} {As : List Value} {post : S → Prop}
    (hB : MB p s m args meth c cc nL ret own) (hw : WD D tys (cf σ) A s H locs) (hl : ls.size = nL) (hM : MtV l D tys cf y ycc ynL yret rm As σ post)
    (h1 : Cond.methodLink own idx y ∈ wAll) (h2 : Cond.static y ∈ wAll) (h4 : Cond.initialized y.cls ∈ wAll) (h5 : Cond.code y ycc ynL yret ∈ wAll) (hd : okY y n) (hR : okR rm ynL R)
    (hn : As.length = n) (hst : st0 = As.reverse ++ rest) (hrest : (rest.map fun v => v.category).sum ≤ 8) (hdg : decode cc pc = .ok (.invokestatic idx, 3))
    (kk : ∀ (σ' : S) (H : Heap) (locs : List Loc), post σ' → WD D tys (cf σ') A s H locs → W p l e R s m args below meth c H locs 0 0 Q (F0 m (pc + 3) ls rest)) :
    W p l e R s m args below meth c H locs 0 0 Q (F0 m pc ls st0) := by
  obtain ⟨hx, hb, hr, hml, hown, hts, hlk⟩ := hB
  obtain ⟨hK, hP, hD, hS, hA⟩ := id hw
  have hF := WD_free hw
  subst hst
  refine va_callv (va_runS (As := As) (rest := rest) ⟨hx, hb, hml, hown, hts⟩ (hM H.size) (va_cwS n hts (good_S h1 h2 h4 h5) rfl hR.1 hR.2.1 hd hR.2.2) ⟨fun a U g mk q => by obtain ⟨q0, q1, qP, qK, qD⟩ := q; exact ⟨q0, q1, qP, va_K.moved (u := U) (U := U.calling g mk a) (Vm.Alike.refl U.vm) qK, qD⟩, fun U hU hW => ⟨rfl, by rw [hU], by rw [hU]; exact hP, va_K.moved hW.alike hK, hD.weaken (fun _ _ _ _ => trivial)⟩⟩ rfl hn hl rfl (lv_room hrest) hdg ⟨Nat.zero_le _, Nat.zero_le _⟩) hS (fun q _ h => hF q h) hF (fun u t H1 locs1 ht hvm hp hB hz1 hk1 hS1 => ?_)
  obtain ⟨hP1, hK1, hD1⟩ := hB
  rw [ht] at hP1
  exact kk u H1 locs1 hp ⟨va_K.moved hvm.symm hK1, hP1, hD1.weaken (fun _ _ _ h => hF _ h), hS1, hA⟩
/-- a field is read -/
theorem w_get {own ref C : String} {T : u_T} {N ci index a : Nat} {ws : va_W} (hB : MB p s m args meth c cc nL ret own) (hw : WD D tys ws A s H locs) (hin : ∀ w ∈ u_ws C T N, w ∈ wAll) (q0 : Nat) {fs : List Value} (he : ws[q0]? = some (a, .inr (ci, fs))) (hc : vwX[ci]? = some (C, T, N)) (k : Nat) (hk : k < N) (hlink : Cond.fieldLink own index ref (T k).2.1 (T k).2.2.1 ∈ wAll) (hr : (T k).1 = ref) {v : Value} (hv : fs[k]? = some v) (hdg : decode cc pc = .ok (.getfield index, 3))
    (kk : W p l e R s m args below meth c H locs cells slots Q (F0 m (pc + 3) ls (v :: rest))) : W p l e R s m args below meth c H locs cells slots Q (F0 m pc ls (.ref a :: rest)) := by
  obtain ⟨hx, hb, -, -, hown, hts, -⟩ := hB
  subst hr
  exact va_get hx hb hts hin hown hw.1 hw.2.1 q0 he hc k hk (hts _ hlink) (fun _ h => h) hv hdg kk
/-- a field is written -/
theorem w_put {own ref C : String} {T : u_T} {N ci index a : Nat} {ws ws' : va_W} (hB : MB p s m args meth c cc nL ret own) (hw : WD D tys ws A s H locs) (hin : ∀ w ∈ u_ws C T N, w ∈ wAll) (ty0 : Nat → FieldType) (hty : ∀ k, k < N → parseFieldDescriptor (T k).2.2.1 = some (ty0 k)) (hnm : ∀ a, a < N → ∀ b, b < N → a ≠ b → (T a).2.1 ≠ (T b).2.1) (q0 : Nat) {fs : List Value} (he : ws[q0]? = some (a, .inr (ci, fs))) (hc : vwX[ci]? = some (C, T, N)) (k : Nat) (hk : k < N) (hlink : Cond.fieldLink own index ref (T k).2.1 (T k).2.2.1 ∈ wAll) (hr : (T k).1 = ref) (hfin : (T k).2.2.2 = false) {ty : FieldType} {v : Value} (hd : parseFieldDescriptor (T k).2.2.1 = some ty) (hn : narrow ty v = v) (hfit : fits ty v = true) (hl : k < fs.length) (hws : ws.set q0 (a, .inr (ci, fs.set k v)) = ws')
    (hdg : decode cc pc = .ok (.putfield index, 3)) (kk : ∀ (H1 : Heap) (locs1 : List Loc), WD D tys ws' A s H1 locs1 → W p l e R s m args below meth c H1 locs1 cells slots Q (F0 m (pc + 3) ls rest)) : W p l e R s m args below meth c H locs cells slots Q (F0 m pc ls (v :: .ref a :: rest)) := by
  obtain ⟨hx, hb, -, -, hown, hts, -⟩ := hB
  subst hr
  subst hws
  exact va_put hx hb hts hin ty0 hty hnm hown hw.1 hw.2.1 hw.2.2.1 hw.2.2.2.1 q0 he hc k hk (hts _ hlink) (fun _ h => h) hfin hd hn hfit hl hdg (fun H1 locs1 h1 h2 h3 => kk H1 locs1 ⟨hw.1, h1, h2, h3, hw.2.2.2.2⟩)
theorem w_iald {a : Nat} {ws : va_W} (hB : MB p s m args meth c cc nL ret own) (hw : WD D tys ws A s H locs) (q0 t0 : Nat) {cA : ClassId} {n : Nat} {f : Nat → Int32} (ha : ws[q0]? = some (a, .inl (cA, n, .inl f))) (ht : tys[t0]? = some (cA, .int)) {i : Int32} (hin : vp_in i n) (hdg : decode cc pc = .ok (.iaload, 1))
    (kk : W p l e R s m args below meth c H locs cells slots Q (F0 m (pc + 1) ls (.int (f i.toNatClampNeg) :: rest))) : W p l e R s m args below meth c H locs cells slots Q (F0 m pc ls (.int i :: .ref a :: rest)) :=
  va_iald hB.1 hB.2.1 hw.1 hw.2.1 q0 t0 ha ht hin hdg kk
theorem w_zald {a : Nat} {ws : va_W} (hB : MB p s m args meth c cc nL ret own) (hw : WD D tys ws A s H locs) (q0 t0 : Nat) {cA : ClassId} {n : Nat} {f : Nat → Int32} (ha : ws[q0]? = some (a, .inl (cA, n, .inl f))) (ht : tys[t0]? = some (cA, .boolean)) {i : Int32} (hin : vp_in i n) (hdg : decode cc pc = .ok (.baload, 1))
    (kk : W p l e R s m args below meth c H locs cells slots Q (F0 m (pc + 1) ls (.int (f i.toNatClampNeg) :: rest))) : W p l e R s m args below meth c H locs cells slots Q (F0 m pc ls (.int i :: .ref a :: rest)) :=
  va_zald hB.1 hB.2.1 hw.1 hw.2.1 q0 t0 ha ht hin hdg kk
theorem w_iast {a : Nat} {ws ws' : va_W} (hB : MB p s m args meth c cc nL ret own) (hw : WD D tys ws A s H locs) (q0 t0 : Nat) {cA : ClassId} {n : Nat} {f : Nat → Int32} (ha : ws[q0]? = some (a, .inl (cA, n, .inl f))) (ht : tys[t0]? = some (cA, .int)) {i x : Int32} (hin : vp_in i n) (hws : ws.set q0 (a, .inl (cA, n, .inl (upd f i.toNatClampNeg x))) = ws') (hdg : decode cc pc = .ok (.iastore, 1))
    (kk : ∀ (H1 : Heap) (locs1 : List Loc), WD D tys ws' A s H1 locs1 → W p l e R s m args below meth c H1 locs1 cells slots Q (F0 m (pc + 1) ls rest)) : W p l e R s m args below meth c H locs cells slots Q (F0 m pc ls (.int x :: .int i :: .ref a :: rest)) := by
  subst hws
  exact va_iast hB.1 hB.2.1 hw.1 hw.2.1 hw.2.2.1 hw.2.2.2.1 q0 t0 ha ht hin hdg (fun H1 locs1 h1 h2 h3 => kk H1 locs1 ⟨hw.1, h1, h2, h3, hw.2.2.2.2⟩)
theorem w_zast {a : Nat} {ws ws' : va_W} (hB : MB p s m args meth c cc nL ret own) (hw : WD D tys ws A s H locs) (q0 t0 : Nat) {cA : ClassId} {n : Nat} {f : Nat → Int32} (ha : ws[q0]? = some (a, .inl (cA, n, .inl f))) (ht : tys[t0]? = some (cA, .boolean)) {i x : Int32} (hin : vp_in i n) (hws : ws.set q0 (a, .inl (cA, n, .inl (upd f i.toNatClampNeg (vp_nar .boolean x)))) = ws') (hdg : decode cc pc = .ok (.bastore, 1))
    (kk : ∀ (H1 : Heap) (locs1 : List Loc), WD D tys ws' A s H1 locs1 → W p l e R s m args below meth c H1 locs1 cells slots Q (F0 m (pc + 1) ls rest)) : W p l e R s m args below meth c H locs cells slots Q (F0 m pc ls (.int x :: .int i :: .ref a :: rest)) := by
  subst hws
  exact va_zast hB.1 hB.2.1 hw.1 hw.2.1 hw.2.2.1 hw.2.2.2.1 q0 t0 ha ht hin hdg (fun H1 locs1 h1 h2 h3 => kk H1 locs1 ⟨hw.1, h1, h2, h3, hw.2.2.2.2⟩)
end WORLD
