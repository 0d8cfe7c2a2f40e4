/-! Constructors: worlds that grow. -/
def rmN (k mc ms : Nat) : Room := { frames := 4 + 4 * k, cells := mc, slots := ms, locals := 100 + 100 * k }
/-- a constructor's contract: from the world w0 it comes to a world that meets post, with mc cells of ms slots -/
def MtN (l : Launch) (D : va_G) (tys : List (ClassId × FieldType)) (y : MethodName) (cc : ByteArray) (nL : Nat) (rm : Room) (av : List Value) (w0 : va_W) (post : va_W → Prop) (mc ms : Nat) : Prop :=
  ∀ sz, Met l y (wC y cc nL none) rm (va_Pc av (Pre0 D tys w0 sz)) (va_Qv post (Pos0 D tys (fun w : va_W => w) (va_A w0 sz)) (va_A w0 sz)) mc ms (va_A w0 sz)
section NEW
variable {p : Program} {l : Launch} {e : Env} {R : Room} {s : State} {m : MethodId} {args : Array Value} {below : List Frame} {meth : Method} {c : Code} {H : Heap} {locs : List Loc} {cells slots : Nat} {Q : State → Prop}
variable {pc : Nat} {ls : Array Slot} {rest st0 : List Value} {A : Nat → Prop} {D : va_G} {tys : List (ClassId × FieldType)} {cc : ByteArray} {nL : Nat} {ret : Option FieldType} {own : String} {ws ws' w0 wr : va_W}
theorem WD_perm (h : WD D tys ws A s H locs) (is : List Nat) (hn : va_nd is = true) (h1 : is.filterMap (fun i => ws[i]?) = ws') (h2 : is.map (fun i => ws[i]?) = ws'.map some) : WD D tys ws' A s H locs := ⟨h.1, h.2.1.sub is h1, h.2.2.1.sub is hn h2, h.2.2.2⟩
set_option maxHeartbeats 4000000 in
theorem MtN_of {y : MethodName} {rm : Room} {av : List Value} {post : va_W → Prop} {mc ms : Nat} (hpl : plainName y.cls = true) (hlen : (lg_sl av).length ≤ nL)
    (K : ∀ (p : Program) (e : Env) (s : State) (m : MethodId) (below : List Frame) (meth : Method) (c : Code) (A : Nat → Prop) (ls : Array Slot), MB p s m av.toArray meth c cc nL none y.cls → meth.name = y.name → WD D tys w0 A s s.heap [] → lv_has ls nL (lv_args 0 av) → W p l e rm s m av.toArray below meth c s.heap [] 0 0 (MQ below (va_Qv post (Pos0 D tys (fun w : va_W => w) A) A) av.toArray s mc ms A) (F0 m 0 ls [])) :
    MtN l D tys y cc nL rm av w0 post mc ms := by
  intro sz
  refine Met.ofW (cc := cc) (maxL := nL) (ret := none) hpl rfl ?_
  intro p e s m args below meth c s₁ B hml hv
  obtain ⟨rfl, hsz, hP, hK, hD0⟩ := hv
  subst hsz
  have hts := atoms_spec (ws := wC y cc nL none) B.pre
  have hown : s.vm.findClass y.cls = some m.cls := findClass_of_methodNamed B.named
  have hin : meth.name = y.name := (name_of_methodNamed B.named B.method).1
  have hl := lv_entry av (n := nL) hlen
  rw [lg_entry_eq]
  exact K p e s m below meth c _ _ ⟨B.exec, B.bytes, B.returns, hml, hown, fun w h => hts w (List.mem_cons_of_mem _ h), B.notSynchronized⟩ hin ⟨hK, hP, hD0.self (sz := s.heap.size), va_S.rf, fun q h => Or.inr h⟩ hl
theorem w_vretN {post : va_W → Prop} {mc ms : Nat} (hB : MB p s m args meth c cc nL none own) (hw : WD D tys ws A s H locs) (hc : cells ≤ mc) (hs : slots ≤ ms) (hp : post ws) (hdg : decode cc pc = .ok (.return_, 1)) :
    W p l e R s m args below meth c H locs cells slots (MQ below (va_Qv post (Pos0 D tys (fun w : va_W => w) A) A) args s mc ms A) (F0 m pc ls []) := by
  obtain ⟨hx, hb, hr, hml, hown, hts, hlk⟩ := hB
  refine W.widen (k := mc) (n := ms) hc hs ?_
  exact W.vret hx hb hr (fun t ht hW => ⟨⟨ws, rfl, hp, by rw [ht]; exact hw.2.1, va_K.moved hW.alike hw.1, hw.2.2.1⟩, hw.2.2.2.1.F ht⟩) hw.2.2.2.1.2.2 hdg hlk
theorem w_objI {idx a : Nat} (hB : MB p s m args meth c cc nL ret own) (hls : ls.size = nL) (hk : Cond.methodLink own idx objectInit ∈ wAll) (h2 : Cond.instanceMethod objectInit ∈ wAll) (h3 : Cond.code objectInit ⟨#[0xb1]⟩ 1 none ∈ wAll) (hf : 1 ≤ R.frames) (hlo : (rest.map fun v => v.category).sum + 12 ≤ R.locals) (hdg : decode cc pc = .ok (.invokespecial idx, 3))
    (kk : W p l e R s m args below meth c H locs cells slots Q (F0 m (pc + 3) ls rest)) : W p l e R s m args below meth c H locs cells slots Q (F0 m pc ls (.ref a :: rest)) := by
  obtain ⟨hx, hb, -, hml, hown, hts, -⟩ := hB
  refine W.objInit hx hb hown (hts _ hk) (hts _ h2) (hts _ h3) rfl (hls.trans hml.symm) rfl hdg hf (by show 2 * 0 + _ + 12 ≤ _; omega) ?_
  exact kk
theorem w_new {C : String} {T : u_T} {N ci index : Nat} (hB : MB p s m args meth c cc nL ret own) (hw : WD D tys ws A s H locs) (hin : ∀ w ∈ u_ws C T N, w ∈ wAll) (ty : Nat → FieldType) (hty : ∀ k, k < N → parseFieldDescriptor (T k).2.2.1 = some (ty k)) (hk : Cond.classLink own index C ∈ wAll) (hk2 : Cond.instantiable C N ∈ wAll) (hk3 : Cond.initialized C ∈ wAll) (hc : vwX[ci]? = some (C, T, N)) {fs : List Value} (hfs : ∀ j, j < N → defaultValue (ty j) = vp_V fs j) (hcells : cells + 1 ≤ R.cells) (hslots : slots + N ≤ R.slots) (hws : ∀ q, ws ++ [(q, .inr (ci, fs))] = (fun q => ws ++ [(q, .inr (ci, fs))]) q) (hdg : decode cc pc = .ok (.new index, 3))
    (kk : ∀ (q : Nat) (H1 : Heap), WD D tys (ws ++ [(q, .inr (ci, fs))]) A s H1 locs → W p l e R s m args below meth c H1 locs (cells + 1) (slots + N) Q (F0 m (pc + 3) ls (.ref q :: rest))) : W p l e R s m args below meth c H locs cells slots Q (F0 m pc ls rest) := by
  obtain ⟨hx, hb, -, -, hown, hts, -⟩ := hB
  exact va_new hx hb hts hin ty hty hown (hts _ hk) (hts _ hk2) (hts _ hk3) hw.1 hw.2.1 hw.2.2.1 hw.2.2.2.1 hw.2.2.2.2 hc hfs hcells hslots hdg (fun q H1 h1 h2 h3 => kk q H1 ⟨hw.1, h1, h2, h3, hw.2.2.2.2⟩)
/-- the class of the arrays of a kind is one -/
theorem K_one {t0 : Nat} {cA cB : ClassId} {ty : FieldType} (hK : va_K D vwX (tys ++ [(cB, ty)]) s) (ht : tys[t0]? = some (cA, ty)) (hra : ∀ (U : State) (k : ClassId), va_RA U k ty → U.vm.findClass ("[" ++ ty.toString) = some k) : cB = cA := by
  have h1 := hra s cA (hK.2 t0 (cA, ty) (by rw [List.getElem?_append_left (List.getElem?_eq_some_iff.mp ht).1]; exact ht)).2
  have h2 := hra s cB (hK.2 tys.length (cB, ty) (by rw [List.getElem?_append_right (Nat.le_refl _), Nat.sub_self]; rfl)).2
  exact Option.some.inj (h2.symm.trans h1)
theorem w_newa {ty : FieldType} {atype : ArrayType} {n : Int32} {N t0 : Nat} {cA : ClassId} {a0 : vp_A} (hB : MB p s m args meth c cc nL ret own) (hw : WD D tys ws A s H locs) (harr : Cond.arrayClass (newarray.typeOf atype) ∈ wAll) (hty : newarray.typeOf atype = ty) (ht : tys[t0]? = some (cA, ty)) (hra : ∀ (U : State) (k : ClassId), va_RA U k ty → U.vm.findClass ("[" ++ ty.toString) = some k) (ha : ∀ cA : ClassId, vp_cell cA a0 = arrV cA N (fun _ => defaultValue ty)) (hn : ¬ n < 0) (hN : n.toNatClampNeg = N) (hbytes : N * componentBytes ty ≤ 536870912) (hcells : cells + 1 ≤ R.cells) (hslots : slots + N ≤ R.slots) (hdg : decode cc pc = .ok (.newarray atype, 2))
    (kk : ∀ (q : Nat) (H1 : Heap), WD D tys (ws ++ [(q, .inl (cA, a0))]) A s H1 locs → W p l e R s m args below meth c H1 locs (cells + 1) (slots + N) Q (F0 m (pc + 2) ls (.ref q :: rest))) : W p l e R s m args below meth c H locs cells slots Q (F0 m pc ls (.int n :: rest)) := by
  obtain ⟨hx, hb, -, -, hown, hts, -⟩ := hB
  refine va_newa hx hb (hts _ harr) hty hw.1 hw.2.1 hw.2.2.1 hw.2.2.2.1 hw.2.2.2.2 ha hn hN hbytes hcells hslots hdg (fun q cB H1 hK h1 h2 h3 => ?_)
  obtain rfl := K_one hK ht hra
  exact kk q H1 ⟨hw.1, h1, h2, h3, hw.2.2.2.2⟩
/-- a final field, in its constructor -/
theorem w_putF {own ref C : String} {T : u_T} {N ci index a : Nat} (hB : MB p s m args meth c cc nL ret own) (hin2 : meth.name = "<init>") (hw : WD D tys ws A s H locs) (hin : ∀ w ∈ u_ws C T N, w ∈ wAll) (ty0 : Nat → FieldType) (hty : ∀ k, k < N → parseFieldDescriptor (T k).2.2.1 = some (ty0 k)) (hnm : ∀ a, a < N → ∀ b, b < N → a ≠ b → (T a).2.1 ≠ (T b).2.1) (q0 : Nat) {fs : List Value} (he : ws[q0]? = some (a, .inr (ci, fs))) (hc : vwX[ci]? = some (C, T, N)) (k : Nat) (hk : k < N) (hlink : Cond.fieldLink own index ref (T k).2.1 (T k).2.2.1 ∈ wAll) (hr : (T k).1 = ref) (hdecl : (T k).1 = own) (hfin : (T k).2.2.2 = true) {ty : FieldType} {v : Value} (hd : parseFieldDescriptor (T k).2.2.1 = some ty) (hn : narrow ty v = v) (hfit : fits ty v = true) (hl : k < fs.length) (hws : ws.set q0 (a, .inr (ci, fs.set k v)) = ws')
    (hdg : decode cc pc = .ok (.putfield index, 3)) (kk : ∀ (H1 : Heap) (locs1 : List Loc), WD D tys ws' A s H1 locs1 → W p l e R s m args below meth c H1 locs1 cells slots Q (F0 m (pc + 3) ls rest)) : W p l e R s m args below meth c H locs cells slots Q (F0 m pc ls (v :: .ref a :: rest)) := by
  obtain ⟨hx, hb, -, -, hown, hts, -⟩ := hB
  subst hr
  subst hws
  exact va_putF hx hb hts hin ty0 hty hnm hown hw.1 hw.2.1 hw.2.2.1 hw.2.2.2.1 q0 he hc k hk (hts _ hlink) (fun _ h => h) hfin hin2 hdecl hd hn hfit hl hdg (fun H1 locs1 h1 h2 h3 => kk H1 locs1 ⟨hw.1, h1, h2, h3, hw.2.2.2.2⟩)
theorem good_C {y : MethodName} {ycc : ByteArray} {ynL : Nat} {yret : Option FieldType} (h5 : Cond.code y ycc ynL yret ∈ wAll) : GoodIn wAll (wC y ycc ynL yret) := by
  intro w h
  rcases List.mem_cons.mp h with rfl | h
  · exact good_mem h5
  · exact good_mem h
set_option maxHeartbeats 4000000 in
/-- a constructor is called, with a frame -/
theorem f_cIV {y : MethodName} {ycc : ByteArray} {ynL n idx : Nat} {rm : Room} {b mc ms : Nat} {As : List Value} {post : va_W → Prop} {tys0 : List (ClassId × FieldType)}
    (hB : MB p s m args meth c cc nL ret own) (hw : WD D tys (w0 ++ wr) A s H locs) (hK0 : va_K D vwX tys0 s) (hl : ls.size = nL) (hM : MtN l D tys0 y ycc ynL rm (.ref b :: As) w0 post mc ms)
    (h1 : Cond.methodLink own idx y ∈ wAll) (h2 : Cond.instanceMethod y ∈ wAll) (h4 : Cond.initialized y.cls ∈ wAll) (h5 : Cond.code y ycc ynL none ∈ wAll) (hy1 : y.name = "<init>") (hd : okY y n) (hr1 : rm.cells = mc) (hr2 : rm.slots = ms) (hR : rm.frames + 1 ≤ R.frames ∧ 8 + (ynL + 11) + rm.locals ≤ R.locals)
    (hn : As.length = n) (hst : st0 = As.reverse ++ .ref b :: rest) (hrest : (rest.map fun v => v.category).sum ≤ 8) (hdg : decode cc pc = .ok (.invokespecial idx, 3)) (hcs : cells + mc ≤ R.cells ∧ slots + ms ≤ R.slots)
    (kk : ∀ (w1 : va_W) (H : Heap) (locs : List Loc), post w1 → WD D tys (w1 ++ wr) A s H locs → W p l e R s m args below meth c H locs (cells + mc) (slots + ms) Q (F0 m (pc + 3) ls rest)) :
    W p l e R s m args below meth c H locs cells slots Q (F0 m pc ls st0) := by
  obtain ⟨hx, hb, hr, hml, hown, hts, hlk⟩ := hB
  obtain ⟨hK, hP, hD, hS, hA⟩ := id hw
  have hF : ∀ q, va_A w0 H.size q → A q := by
    intro q h
    rcases h with ⟨k, e, h⟩ | h
    · exact (fr_D hD).2 k _ h
    · exact hA q (Nat.le_trans hS.1 h)
  subst hst
  refine va_callv (va_runI (As := As) (rest := rest) ⟨hx, hb, hml, hown, hts⟩ (hM H.size) (cwI n hts (good_C h5) rfl hr1 hr2 (hts _ h4) (hts _ h1) (hts _ h2) hy1 hd hR) ⟨fun a U g mk q => by obtain ⟨q0, q1, qP, qK, qD⟩ := q; exact ⟨q0, q1, qP, va_K.moved (u := U) (U := U.calling g mk a) (Vm.Alike.refl U.vm) qK, qD⟩, fun U hU hW => ⟨rfl, by rw [hU], by rw [hU]; exact fr_P hP, va_K.moved hW.alike hK0, (fr_D hD).weaken (fun _ _ _ _ => trivial)⟩⟩ rfl hn hl rfl (lv_room hrest) hdg hcs) hS (fun q _ h => hF q h) hF (fun u t H1 locs1 ht hvm hp hB hz1 hk1 hS1 => ?_)
  obtain ⟨hP1, hK1, hD1⟩ := hB
  rw [ht] at hP1
  obtain ⟨jP, jD⟩ := fr_join hP hD hk1 hF hP1 hD1
  exact kk u H1 locs1 hp ⟨hK, jP, jD, hS1, hA⟩
theorem w_iald' {a : Nat} (hB : MB p s m args meth c cc nL ret own) (hw : WD D tys ws A s H locs) (q0 t0 : Nat) {cA : ClassId} {n : Nat} {f : Nat → Int32} (ha : ws[q0]? = some (a, .inl (cA, n, .inl f))) (ht : tys[t0]? = some (cA, .int)) {i : Int32} (hin : vp_in i n) (hdg : decode cc pc = .ok (.iaload, 1))
    (kk : W p l e R s m args below meth c H locs cells slots Q (F0 m (pc + 1) ls (.int (f i.toNatClampNeg) :: rest))) : W p l e R s m args below meth c H locs cells slots Q (F0 m pc ls (.int i :: .ref a :: rest)) := w_iald hB hw q0 t0 ha ht hin hdg kk
end NEW
