/-! Methods that may throw: contracts, the throw, calls with a frame. -/
abbrev exN : List String := ["java/lang/RuntimeException", "java/lang/Exception"]
abbrev eNS : String := "java/util/NoSuchElementException"
abbrev eIO : String := "java/lang/IndexOutOfBoundsException"
abbrev eIA : String := "java/lang/IllegalArgumentException"
abbrev dRT : Cond := .declares (Bundle.initS "java/lang/RuntimeException")
abbrev dEX : Cond := .declares (Bundle.initS "java/lang/Exception")
abbrev dTH : Cond := .declares (Bundle.initS "java/lang/Throwable")
def nsW : List Cond := (nsAtoms RX4 126).filter vx_no
def wX : List Cond := nsW.filter goodWord ++ ((vx_atS RX4 154 eIO exN).filter goodWord ++ (vx_atS RX4 139 eIA exN).filter goodWord)
theorem wX_good {w : Cond} (h : w ∈ wX) : goodWord w = true := by
  rcases List.mem_append.mp h with h | h
  · exact (List.mem_filter.mp h).2
  · rcases List.mem_append.mp h with h | h
    · exact (List.mem_filter.mp h).2
    · exact (List.mem_filter.mp h).2
theorem wX_1 : ∀ w ∈ nsW.filter goodWord, w ∈ wX := fun _ h => List.mem_append_left _ h
theorem wX_2 : ∀ w ∈ (vx_atS RX4 154 eIO exN).filter goodWord, w ∈ wX := fun _ h => List.mem_append_right _ (List.mem_append_left _ h)
theorem wX_3 : ∀ w ∈ (vx_atS RX4 139 eIA exN).filter goodWord, w ∈ wX := fun _ h => List.mem_append_right _ (List.mem_append_right _ h)
theorem wX_n1 : ∀ w ∈ nsW.filter (fun w => !goodWord w), w ∈ [dRT, dEX, dTH] := by decide +kernel
theorem wX_n2 : ∀ w ∈ (vx_atS RX4 154 eIO exN).filter (fun w => !goodWord w), w ∈ [Cond.castable eIO eIO, dRT, dEX, dTH] := by decide +kernel
theorem wX_n3 : ∀ w ∈ (vx_atS RX4 139 eIA exN).filter (fun w => !goodWord w), w ∈ [Cond.castable eIA eIA, dRT, dEX, dTH] := by decide +kernel
theorem wX_o1 : ∀ w ∈ Cond.classLink RX4 122 eNS :: Cond.initialized eNS :: nsW, vx_ot w = true := by decide +kernel
theorem wX_o2 : ∀ w ∈ Cond.classLink RX4 150 eIO :: Cond.initialized eIO :: vx_atS RX4 154 eIO exN, vx_ot w = true := by decide +kernel
theorem wX_o3 : ∀ w ∈ Cond.classLink RX4 135 eIA :: Cond.initialized eIA :: vx_atS RX4 139 eIA exN, vx_ot w = true := by decide +kernel
def wCX (y : MethodName) (cc : ByteArray) (nL : Nat) (ret : Option FieldType) : List Cond := Cond.code y cc nL ret :: (wAll ++ wX)
def wCH (y : MethodName) (cc : ByteArray) (nL : Nat) (ret : Option FieldType) (hh : List (Nat × Nat × Nat × Nat)) : List Cond := Cond.codeWith y cc nL ret hh :: (wAll ++ wX)
def rmX (k : Nat) : Room := { frames := 20 + 4 * k, cells := 1, slots := 6, locals := 300 + 100 * k }
/-- what the tables say of the exceptions, and of the texts that they bear -/
def XV (U : State) : Prop := va_Nw (.castable eNS eNS) U ∧ va_Nw (.castable eIO eIO) U ∧ va_Nw (.castable eIA eIA) U ∧ va_Nc eIO eNS U ∧ va_Nc eIA eNS U ∧ va_Nc eIA eIO U ∧ va_Nw dRT U ∧ va_Nw dEX U ∧ va_Nw dTH U ∧ ∀ k ∈ [124, 137, 152, 155, 197, 199], ∃ (tx : String) (a : Nat), vk_R RX4 k tx a U
def XF (A : Nat → Prop) (U : State) (H : Heap) : Prop := vx_Zq Bundle.tN "UNASSIGNED_STACK" Bundle.steD A U H ∧ vx_Zq Bundle.tN "SUPPRESSED_SENTINEL" Bundle.listD A U H ∧ XV U
theorem XV.warm {s U : State} (hW : s.WarmedH U.vm) (h : XV s) : XV U := by
  obtain ⟨h1, h2, h3, h4, h5, h6, d1, d2, d3, h7⟩ := h
  exact ⟨va_Nw.warmC hW h1, va_Nw.warmC hW h2, va_Nw.warmC hW h3, va_Nc.moved hW.alike h4, va_Nc.moved hW.alike h5, va_Nc.moved hW.alike h6, va_Nw.warmD hW d1, va_Nw.warmD hW d2, va_Nw.warmD hW d3, fun k hk => by obtain ⟨tx, a, h⟩ := h7 k hk; exact ⟨tx, a, vk_R.warm hW h⟩⟩
theorem XV.same {u U : State} (hv : U.vm = u.vm) (h : XV u) : XV U := by
  obtain ⟨h1, h2, h3, h4, h5, h6, d1, d2, d3, h7⟩ := h
  exact ⟨va_tabs rfl hv.symm h1, va_tabs rfl hv.symm h2, va_tabs rfl hv.symm h3, by unfold va_Nc at *; rw [hv]; exact h4, by unfold va_Nc at *; rw [hv]; exact h5, by unfold va_Nc at *; rw [hv]; exact h6, va_tabs rfl hv.symm d1, va_tabs rfl hv.symm d2, va_tabs rfl hv.symm d3, fun k hk => by obtain ⟨tx, a, h⟩ := h7 k hk; exact ⟨tx, a, vk_R.same hv h⟩⟩
theorem XF.calls {A B : Nat → Prop} {s U : State} {H : Heap} {locs : List Loc} (h : XF A s s.heap) (hS : va_S A s.heap H locs) (hU : U.heap = H) (hW : s.WarmedH U.vm) (hB : ∀ q, B q → A q) : XF B U U.heap := by
  rw [hU]
  exact ⟨((h.1.kept hS.2.1).narrow hB).moved hW.alike, ((h.2.1.kept hS.2.1).narrow hB).moved hW.alike, h.2.2.warm hW⟩
def PreX (D : va_G) (tys : List (ClassId × FieldType)) (ws : va_W) (sz : Nat) (U : State) : Prop := Pre0 D tys ws sz U ∧ XF (va_A ws sz) U U.heap
/-- a contract of a method that may throw: the answer meets post, the exception postX -/
abbrev XCof {S : Type} (D : va_G) (tys : List (ClassId × FieldType)) (cf : S → va_W) (A : Nat → Prop) (postX : String → S → Prop) : String → State → State → Prop := vx_X (fun u : String × S => postX u.1 u.2) (fun E u t => E = u.1 ∧ Pos0 D tys cf A u.2 t) A
def MtX {S : Type} (l : Launch) (D : va_G) (tys : List (ClassId × FieldType)) (cf : S → va_W) (y : MethodName) (ws : List Cond) (rm : Room) (av : List Value) (σ : S) (post : Int32 → S → Prop) (postX : String → S → Prop) : Prop :=
  ∀ sz, vx_Met l y ws rm (va_Pc av (PreX D tys (cf σ) sz)) (va_Qi post (Pos0 D tys cf (va_A (cf σ) sz)) (va_A (cf σ) sz)) (XCof D tys cf (va_A (cf σ) sz) postX) 1 6 (va_A (cf σ) sz)
def MX (l : Launch) (A : Nat → Prop) (s : State) (args : Array Value) : Prop := l.stackTraces = false ∧ (∀ w ∈ wX, w.before args s = true) ∧ XF A s s.heap
section FRAME
variable {D : va_G} {cl : List vw_C} {w wr w1 : va_W} {H H1 : Heap} {A : Nat → Prop}
theorem fr_at {k : Nat} {q : Nat × va_E} (h : w[k]? = some q) : (w ++ wr)[k]? = some q := by
  have hk : k < w.length := (List.getElem?_eq_some_iff.mp h).1
  rw [List.getElem?_append_left hk]; exact h
theorem fr_atr {k : Nat} {q : Nat × va_E} (h : wr[k]? = some q) : (w ++ wr)[w.length + k]? = some q := by
  rw [List.getElem?_append_right (Nat.le_add_right _ _), Nat.add_sub_cancel_left]; exact h
theorem fr_P (h : va_P D cl (w ++ wr) H) : va_P D cl w H := fun k q hk => h k q (fr_at hk)
theorem fr_Pr (h : va_P D cl (w ++ wr) H) : va_P D cl wr H := fun k q hk => h (w.length + k) q (fr_atr hk)
theorem fr_D (h : va_D A (w ++ wr)) : va_D A w := ⟨fun i j p q h1 h2 e => h.1 i j p q (fr_at h1) (fr_at h2) e, fun k q hk => h.2 k q (fr_at hk)⟩
theorem fr_Dr (h : va_D A (w ++ wr)) : va_D A wr := ⟨fun i j p q h1 h2 e => Nat.add_left_cancel (h.1 _ _ p q (fr_atr (w := w) h1) (fr_atr (w := w) h2) e), fun k q hk => h.2 _ q (fr_atr (w := w) hk)⟩
theorem fr_lt {k : Nat} {q : Nat × va_E} (h : va_P D cl w H) (hk : w[k]? = some q) : q.1 < H.size := vx_lt h hk
/-- the rest of a world is not of the callee's cells -/
theorem fr_out (hP : va_P D cl (w ++ wr) H) (hD : va_D A (w ++ wr)) {k : Nat} {q : Nat × va_E} (hk : wr[k]? = some q) : ¬ va_A w H.size q.1 := by
  intro h
  rcases h with ⟨j, e, h⟩ | h
  · have := hD.1 j (w.length + k) _ q (fr_at h) (fr_atr hk) rfl
    have hj : j < w.length := (List.getElem?_eq_some_iff.mp h).1
    omega
  · have := fr_lt (fr_Pr hP) hk
    omega
theorem fr_join (hP : va_P D cl (w ++ wr) H) (hD : va_D A (w ++ wr)) (hk : ∀ q : Nat, q < H.size → ¬ va_A w H.size q → H1[q]? = H[q]?) (hF : ∀ q, va_A w H.size q → A q) (hP1 : va_P D cl w1 H1) (hD1 : va_D (va_A w H.size) w1) : va_P D cl (w1 ++ wr) H1 ∧ va_D A (w1 ++ wr) := by
  refine ⟨hP1.app ((fr_Pr hP).kept (fun k q h => hk q.1 (fr_lt (fr_Pr hP) h) (fr_out hP hD h))), (hD1.weaken (fun _ _ _ h => hF _ h)).app (fr_Dr hD) (fun i j p q h1 h2 e => ?_)⟩
  exact fr_out hP hD h2 (by rw [← e]; exact hD1.2 i p h1)
theorem fr_swapP {a b : va_W} (h : va_P D cl (a ++ b) H) : va_P D cl (b ++ a) H := (fr_Pr h).app (fr_P h)
theorem fr_swapD {a b : va_W} (h : va_D A (a ++ b)) : va_D A (b ++ a) := (fr_Dr h).app (fr_D h) (fun i j p q h1 h2 e => by
  have := h.1 j (a.length + i) q p (fr_at h2) (fr_atr h1) e.symm
  have hj : j < a.length := (List.getElem?_eq_some_iff.mp h2).1
  omega)
end FRAME
theorem WD_swap {D : va_G} {tys : List (ClassId × FieldType)} {a b : va_W} {A : Nat → Prop} {s : State} {H : Heap} {locs : List Loc} (h : WD D tys (a ++ b) A s H locs) : WD D tys (b ++ a) A s H locs := ⟨h.1, fr_swapP h.2.1, fr_swapD h.2.2.1, h.2.2.2⟩
section XW
variable {p : Program} {l : Launch} {e : Env} {R : Room} {s : State} {m : MethodId} {args : Array Value} {below : List Frame} {meth : Method} {c : Code} {H : Heap} {locs : List Loc} {cells slots : Nat} {Q : State → Prop}
variable {pc : Nat} {ls : Array Slot} {rest st0 : List Value} {A : Nat → Prop} {D : va_G} {tys tys0 : List (ClassId × FieldType)} {S : Type} {cf : S → va_W} {σ : S} {cc : ByteArray} {nL : Nat} {ret : Option FieldType} {own : String} {wr : va_W}
theorem good_memX {w : Cond} (h : w ∈ wAll ++ wX) : w ∈ wAll ++ wX ∧ ((w.onTables && w.keeps) = true ∨ ∃ ty, w = .arrayClass ty) := by
  refine ⟨h, ?_⟩
  rcases List.mem_append.mp h with h | h
  · exact (good_mem h).2
  · exact good_of_word (wX_good h)
set_option maxHeartbeats 4000000 in
theorem MtX_of {y : MethodName} {rm : Room} {av : List Value} {post : Int32 → S → Prop} {postX : String → S → Prop} (hlt : l.stackTraces = false) (hpl : plainName y.cls = true) (hlen : (lg_sl av).length ≤ nL)
    (K : ∀ (p : Program) (e : Env) (s : State) (m : MethodId) (below : List Frame) (meth : Method) (c : Code) (A : Nat → Prop) (ls : Array Slot), MB p s m av.toArray meth c cc nL ret y.cls → MX l A s av.toArray → (∀ x ∈ c.exceptionTable.toList, False) → WD D tys (cf σ) A s s.heap [] → lv_has ls nL (lv_args 0 av) → W p l e rm s m av.toArray below meth c s.heap [] 0 0 (vx_MQ below (va_Qi post (Pos0 D tys cf A) A) (XCof D tys cf A postX) av.toArray s 1 6 A) (F0 m 0 ls [])) :
    MtX l D tys cf y (wCX y cc nL ret) rm av σ post postX := by
  intro sz
  refine vx_ofW (cc := cc) (maxL := nL) (ret := ret) hpl rfl ?_
  intro p e s m args below meth c s₁ B hml htab hv
  obtain ⟨rfl, ⟨hsz, hP, hK, hD0⟩, hX⟩ := hv
  subst hsz
  have hts := atoms_spec (ws := wCX y cc nL ret) B.pre
  have hown : s.vm.findClass y.cls = some m.cls := findClass_of_methodNamed B.named
  have hl := lv_entry av (n := nL) hlen
  rw [lg_entry_eq]
  exact K p e s m below meth c _ _ ⟨B.exec, B.bytes, B.returns, hml, hown, fun w h => hts w (List.mem_cons_of_mem _ (List.mem_append_left _ h)), B.notSynchronized⟩ ⟨hlt, fun w h => hts w (List.mem_cons_of_mem _ (List.mem_append_right _ h)), hX⟩ htab ⟨hK, hP, hD0.self (sz := s.heap.size), va_S.rf, fun q h => Or.inr h⟩ hl
set_option maxHeartbeats 4000000 in
theorem MtX_ofH {y : MethodName} {rm : Room} {hh : List (Nat × Nat × Nat × Nat)} {av : List Value} {post : Int32 → S → Prop} {postX : String → S → Prop} (hlt : l.stackTraces = false) (hpl : plainName y.cls = true) (hlen : (lg_sl av).length ≤ nL)
    (K : ∀ (p : Program) (e : Env) (s : State) (m : MethodId) (below : List Frame) (meth : Method) (c : Code) (A : Nat → Prop) (ls : Array Slot), MB p s m av.toArray meth c cc nL ret y.cls → MX l A s av.toArray → c.exceptionTable.toList = tableOf hh → WD D tys (cf σ) A s s.heap [] → lv_has ls nL (lv_args 0 av) → W p l e rm s m av.toArray below meth c s.heap [] 0 0 (vx_MQ below (va_Qi post (Pos0 D tys cf A) A) (XCof D tys cf A postX) av.toArray s 1 6 A) (F0 m 0 ls [])) :
    MtX l D tys cf y (wCH y cc nL ret hh) rm av σ post postX := by
  intro sz
  refine vx_ofWH (cc := cc) (maxL := nL) (ret := ret) (hh := hh) hpl rfl ?_
  intro p e s m args below meth c s₁ B hml hv
  obtain ⟨rfl, ⟨hsz, hP, hK, hD0⟩, hX⟩ := hv
  subst hsz
  have hts := atoms_spec (ws := wCH y cc nL ret hh) B.pre
  have htab : c.exceptionTable.toList = tableOf hh := vx_table (x := y) B (hts _ List.mem_cons_self)
  have hown : s.vm.findClass y.cls = some m.cls := findClass_of_methodNamed B.named
  have hl := lv_entry av (n := nL) hlen
  rw [lg_entry_eq]
  exact K p e s m below meth c _ _ ⟨B.exec, B.bytes, B.returns, hml, hown, fun w h => hts w (List.mem_cons_of_mem _ (List.mem_append_left _ h)), B.notSynchronized⟩ ⟨hlt, fun w h => hts w (List.mem_cons_of_mem _ (List.mem_append_right _ h)), hX⟩ htab ⟨hK, hP, hD0.self (sz := s.heap.size), va_S.rf, fun q h => Or.inr h⟩ hl
theorem w_iretX {post : Int32 → S → Prop} {XC : String → State → State → Prop} {v : Int32} (hB : MB p s m args meth c cc nL (some .int) own) (hw : WD D tys (cf σ) A s H locs) (hp : post v σ) (hc : cells ≤ 1) (hs : slots ≤ 6) (hdg : decode cc pc = .ok (.ireturn, 1)) :
    W p l e R s m args below meth c H locs cells slots (vx_MQ below (va_Qi post (Pos0 D tys cf A) A) XC args s 1 6 A) (F0 m pc ls [.int v]) := by
  obtain ⟨hx, hb, hr, hml, hown, hts, hlk⟩ := hB
  refine W.widen (k := 1) (n := 6) hc hs (vx_ret ?_)
  exact W.iret hx hb hr (fun t ht hW => ⟨⟨v, σ, rfl, hp, by rw [ht]; exact hw.2.1, va_K.moved hW.alike hw.1, hw.2.2.1⟩, hw.2.2.2.1.F ht⟩) hw.2.2.2.1.2.2 hdg hlk
set_option maxHeartbeats 4000000 in
/-- throw new E("..") -/
theorem w_throw {Qc : Array Value → State → Outcome → State → Prop} {postX : String → S → Prop} {E : String} {ik is ic : Nat} (hB : MB p s m args meth c cc nL ret RX4) (hX : MX l A s args) (htab : ∀ x ∈ c.exceptionTable.toList, False) (hw : WD D tys (cf σ) A s H locs) (hls : ls.size = nL) (hfit : Bundle.fit E = true)
    (hk : Cond.classLink RX4 ik E ∈ wAll) (hini : Cond.initialized E ∈ wAll) (hin : ∀ w ∈ (vx_atS RX4 ic E exN).filter goodWord, w ∈ wX) (hng : ∀ w ∈ (vx_atS RX4 ic E exN).filter (fun w => !goodWord w), w ∈ [Cond.castable E E, dRT, dEX, dTH]) (hca : va_Nw (.castable E E) s) (hot : ∀ w ∈ Cond.classLink RX4 ik E :: Cond.initialized E :: vx_atS RX4 ic E exN, vx_ot w = true) (hstr : is ∈ [124, 137, 152, 155, 197, 199])
    (d0 : decode cc pc = .ok (.new ik, 3)) (d3 : decode cc (pc + 3) = .ok (.dup, 1)) (d4 : decode cc (pc + 4) = .ok (.ldc is, 2)) (d6 : decode cc (pc + 6) = .ok (.invokespecial ic, 3)) (d9 : decode cc (pc + 9) = .ok (.athrow, 1))
    (hRf : 5 < R.frames) (hRl : (rest.map fun v => v.category).sum + 82 ≤ R.locals) (hRc : 1 ≤ R.cells) (hRs : 6 ≤ R.slots) (hp : postX E σ) :
    W p l e R s m args below meth c H locs 0 0 (vx_MQ below Qc (XCof D tys cf A postX) args s 1 6 A) (F0 m pc ls rest) := by
  obtain ⟨hx, hb, hr, hml, hown, hts, hlk⟩ := hB
  obtain ⟨hlt, hxs, hU, hN, hV⟩ := hX
  obtain ⟨tx, sa, hsa⟩ := hV.2.2.2.2.2.2.2.2.2 is hstr
  obtain ⟨hK, hP, hD, hS, hA⟩ := hw
  have hca' : (Cond.castable E E).before args s = true := va_tabs rfl rfl hca
  refine vx_throwS (names := exN) (text := tx) (sa := sa) (A := A) hx hb hlt hown hfit (by decide) (hts _ hk) (hts _ hini) hsa (vx_hat (B := [Cond.castable E E, dRT, dEX, dTH]) (fun w h => hxs w (hin w h)) hng (vx_c hca' (vx_c (va_tabs rfl rfl hV.2.2.2.2.2.2.1) (vx_c (va_tabs rfl rfl hV.2.2.2.2.2.2.2.1) (vx_c (va_tabs rfl rfl hV.2.2.2.2.2.2.2.2.1) vx_n))))) hot hU hN hS (hls.trans hml.symm) d0 d3 d4 d6 d9 (fun x h => (htab x h).elim) hRf hRl (by omega) (by omega) hlk (fun t hvm hz hq => ?_) (fun z h => hS.2.2 z h) (by omega) (by omega)
  refine ⟨(E, σ), hp, ⟨rfl, hP.kept (fun k q h => hq q.1 (fr_lt hP h)), va_K.moved hvm hK, hD⟩, Nat.le_trans hS.1 hz, fun q h1 h2 => ?_⟩
  rw [hq q (Nat.lt_of_lt_of_le h1 hS.1)]
  exact hS.2.1 q h1 h2
set_option maxHeartbeats 4000000 in
/-- throw new NoSuchElementException("..") -/
theorem w_throwN {Qc : Array Value → State → Outcome → State → Prop} {postX : String → S → Prop} {is : Nat} (hB : MB p s m args meth c cc nL ret RX4) (hX : MX l A s args) (htab : ∀ x ∈ c.exceptionTable.toList, False) (hw : WD D tys (cf σ) A s H locs) (hls : ls.size = nL)
    (hk : Cond.classLink RX4 122 eNS ∈ wAll) (hini : Cond.initialized eNS ∈ wAll) (hstr : is ∈ [124, 137, 152, 155, 197, 199])
    (d0 : decode cc pc = .ok (.new 122, 3)) (d3 : decode cc (pc + 3) = .ok (.dup, 1)) (d4 : decode cc (pc + 4) = .ok (.ldc is, 2)) (d6 : decode cc (pc + 6) = .ok (.invokespecial 126, 3)) (d9 : decode cc (pc + 9) = .ok (.athrow, 1))
    (hRf : 5 < R.frames) (hRl : (rest.map fun v => v.category).sum + 82 ≤ R.locals) (hRc : 1 ≤ R.cells) (hRs : 6 ≤ R.slots) (hp : postX eNS σ) :
    W p l e R s m args below meth c H locs 0 0 (vx_MQ below Qc (XCof D tys cf A postX) args s 1 6 A) (F0 m pc ls rest) := by
  obtain ⟨hx, hb, hr, hml, hown, hts, hlk⟩ := hB
  obtain ⟨hl, hxs, hU, hN, hV⟩ := hX
  obtain ⟨tx, sa, hsa⟩ := hV.2.2.2.2.2.2.2.2.2 is hstr
  obtain ⟨hK, hP, hD, hS, hA⟩ := hw
  have hat : ∀ w ∈ nsW, w.before args s = true := vx_hat (B := [dRT, dEX, dTH]) (fun w h => hxs w (wX_1 w h)) wX_n1 (vx_c (va_tabs rfl rfl hV.2.2.2.2.2.2.1) (vx_c (va_tabs rfl rfl hV.2.2.2.2.2.2.2.1) (vx_c (va_tabs rfl rfl hV.2.2.2.2.2.2.2.2.1) vx_n)))
  intro T hT X
  have htr : e.platform.stackTraces = false := (show e.platform.stackTraces = l.stackTraces by rw [X.admits.platform]).trans hl
  have Y := vx_rebase X (R' := { frames := R.frames, locals := R.locals, cells := 1, slots := 6 }) (Nat.le_refl _) (Nat.le_refl _) (by omega) (by omega)
  obtain ⟨s', hA'⟩ : ∃ z, z = (T.setVm s.vm).setFrames (.invoking m args :: below) := ⟨_, rfl⟩
  rw [← hA'] at Y
  have hvm : s'.vm = s.vm := by rw [hA']; rfl
  have hhp : s'.heap = H := by rw [hA']; exact hT
  have hW0 : s.WarmedH s'.vm := by rw [hvm]; exact State.WarmedH.refl s
  have hat' : ∀ w ∈ nsW, w.before args s' = true := fun w hw => vx_ot_at hW0 hvm.symm (wX_o1 w (List.mem_cons_of_mem _ (List.mem_cons_of_mem _ hw))) (hat w hw)
  have hk' : (Cond.classLink RX4 122 eNS).before args s' = true := vx_ot_at hW0 hvm.symm (wX_o1 _ List.mem_cons_self) (hts _ hk)
  have hini' : (Cond.initialized eNS).before args s' = true := vx_ot_at hW0 hvm.symm (wX_o1 _ (List.mem_cons_of_mem _ List.mem_cons_self)) (hts _ hini)
  have hU' : vx_Zq Bundle.tN "UNASSIGNED_STACK" Bundle.steD A s' s'.heap := by rw [hhp]; exact vx_Zq.moved hW0.alike (hU.kept hS.2.1)
  have hN' : vx_Zq Bundle.tN "SUPPRESSED_SENTINEL" Bundle.listD A s' s'.heap := by rw [hhp]; exact vx_Zq.moved hW0.alike (hN.kept hS.2.1)
  have h : ∀ w ∈ nsAtoms RX4 126, w.before args s' = true := vx_own hat' (vx_isRefq hU'.1) (vx_isRefq hN'.1) hU'.2.word hN'.2.word
  have hown' : s'.vm.findClass RX4 = some m.cls := by rw [hvm]; exact hown
  have hins : (Cond.instantiable eNS 6).before args s' = true := h _ (by simp [nsAtoms, nsTail])
  obtain ⟨vm₁, cX, kX, hfX, hkX, -, -, X₁, st1⟩ := Y.newCold hx (own := RX4) (C := eNS) (index := 122) (n := 6) hown' hk' hins hini'
    (g := F0 m pc ls rest) rfl (by rw [hb]; exact d0) (Nat.le_refl _) (Nat.le_refl _)
  generalize hT1 : (T.setVm vm₁).pushCell { cls := cX, slots := kX.instanceTypes.map defaultValue, vm := .none } = T1 at X₁ st1
  have hcat : (Value.ref T.heap.size).category = 1 := rfl
  have hcellA : T1.heap[T.heap.size]? = some (freshCell cX kX) := by rw [← hT1]; exact State.heap_pushCell_size _ _
  have d3' : decode c.code (pc + 3) = .ok (.dup, 1) := by rw [hb]; exact d3
  have d4' : decode c.code (pc + 4) = .ok (.ldc is, 2) := by rw [hb]; exact d4
  have hsa' : vk_R RX4 is tx sa s' := vk_R.warm hW0 hsa
  obtain ⟨U, hsteps, hrun, hend, hW, hsame, ce, hce, hcv, hcc⟩ := ct_ctorN X₁ hx htr (own := RX4) (ic := 126) hown' h (fun x hx => nomatch hx) hfX hkX hcellA (by rw [hhp, hT]; exact Nat.le_refl _) (msg := .ref sa) rfl
    (g := { method := m, pc := pc + 6, locals := ls, stack := .ref sa :: .ref T.heap.size :: .ref T.heap.size :: rest, locked := none }) rfl (hls.trans hml.symm) rfl rfl (rest := rest) rfl
    (by rw [hb]; exact d6) (by rw [hb]; exact d9) (fun x h => (htab x h).elim) hRf (by simp only [List.map_cons, List.sum_cons, hcat]; show 2 * 0 + _ + 81 ≤ _; omega) hlk
  obtain ⟨f1, f2⟩ := vx_frame hsame
  rw [hhp] at f1 f2
  have hWs : s.WarmedH U.vm := State.WarmedH.trans hW0 hW
  have hcl : s.vm.findClass eNS = some ce.cls := by rw [← hvm]; exact hcc
  have hall : s.sameButNew ({ U with vm := s.vm } : State) locs 1 6 := by
    subst hA'
    obtain ⟨e1, e2⟩ := hsame
    rw [State.setFrames_setFrames] at e1
    have h2 : (T.setVm s.vm).sameButNew ({ U with vm := s.vm } : State) [] (0 + 1) (0 + 6) := ⟨e1, e2⟩
    have h3 := X.same.trans h2
    rw [List.append_nil] at h3
    exact h3.mono (Nat.le_refl _) (Nat.le_refl _)
  have hxc : XCof D tys cf A postX eNS s U := by
    refine ⟨(eNS, σ), hp, ⟨rfl, hP.kept (fun k q h => f2 q.1 (fr_lt hP h) (fun z hz => nomatch hz)), va_K.moved hWs.alike hK, hD⟩, Nat.le_trans hS.1 f1, fun q h1 h2 => ?_⟩
    rw [f2 q (Nat.lt_of_lt_of_le h1 hS.1) (fun z hz => nomatch hz)]
    exact hS.2.1 q h1 h2
  refine ⟨U, ?_, .threw T.heap.size, hrun, hend, Or.inr ⟨T.heap.size, rfl, eNS, ce, locs, hxc, hce, hcv, hcl, hWs, hall, fun z h => hS.2.2 z h⟩⟩
  refine st1 _ ?_
  show Steps p.tables e below (T1.setTop { method := m, pc := pc + 3, locals := ls, stack := .ref T.heap.size :: rest, locked := none }) _
  jvm_step X₁.here [X₁.here.top, hx, d3', Value.category]
  exact X₁.ldcString hx (own := RX4) (text := tx) (index := is) (a := sa) hown' hsa'.1 hsa'.2
    (g := { method := m, pc := pc + 4, locals := ls, stack := .ref T.heap.size :: .ref T.heap.size :: rest, locked := none }) rfl d4' _ hsteps
/-- it goes on to the caller -/
theorem w_outX {Qc : Array Value → State → Outcome → State → Prop} {postX : String → S → Prop} {E : String} {ce : Cell} {q : Addr} (hB : MB p s m args meth c cc nL ret own) (htab : ∀ x ∈ c.exceptionTable.toList, False) (hw : WD D tys (cf σ) A s H locs) (hcell : H[q]? = some ce) (hv : ce.vm = .none) (hcl : s.vm.findClass E = some ce.cls) (hp : postX E σ) (hc : cells ≤ 1) (hs : slots ≤ 6) :
    vx_W p l e R s m args below meth c H locs cells slots (vx_MQ below Qc (XCof D tys cf A postX) args s 1 6 A) (F0 m pc ls rest) q := by
  obtain ⟨hx, hb, hr, hml, hown, hts, hlk⟩ := hB
  exact vx_out (fun x h => (htab x h).elim) hlk hcell hv hcl (fun t ht hvm => ⟨(E, σ), hp, ⟨rfl, by rw [ht]; exact hw.2.1, va_K.moved hvm hw.1, hw.2.2.1⟩, hw.2.2.2.1.F ht⟩) (fun z h => hw.2.2.2.1.2.2 z h) hc hs
theorem good_VX {Ts : List Cond} {own C : String} {idx : Nat} {y : MethodName} {ycc : ByteArray} {ynL : Nat} {yret : Option FieldType} (hT : ∀ w ∈ wAll, w ∈ Ts) (hTx : ∀ w ∈ wX, w ∈ Ts) (h1 : Cond.methodLink own idx y ∈ wAll) (h2 : Cond.instanceMethod y ∈ wAll) (h3 : Cond.selects C y y ∈ wAll) (h4 : Cond.initialized C ∈ wAll) (h5 : Cond.code y ycc ynL yret ∈ wAll) : GoodIn Ts (wsV own idx C y (wCX y ycc ynL yret)) := by
  intro w hw
  have g : ∀ {w : Cond}, w ∈ wAll → w ∈ Ts ∧ ((w.onTables && w.keeps) = true ∨ ∃ ty, w = .arrayClass ty) := fun h => ⟨hT _ h, (good_mem h).2⟩
  rcases List.mem_append.mp hw with h | h
  · rcases List.mem_cons.mp h with rfl | h
    · exact g h1
    rcases List.mem_cons.mp h with rfl | h
    · exact g h2
    rcases List.mem_cons.mp h with rfl | h
    · exact g h3
    rcases List.mem_cons.mp h with rfl | h
    · exact g h4
    cases h
  · rcases List.mem_cons.mp h with rfl | h
    · exact g h5
    · rcases List.mem_append.mp h with h | h
      · exact g h
      · exact ⟨hTx _ h, good_of_word (wX_good h)⟩
set_option maxHeartbeats 4000000 in
/-- a call of a method that may throw, with a frame -/
theorem f_cXI {y : MethodName} {ycc : ByteArray} {ynL n idx q0 ci N : Nat} {yret : Option FieldType} {rm : Room} {b : Nat} {fs : List Value} {T : u_T} {C : String} {As : List Value} {post : Int32 → S → Prop} {postX : String → S → Prop}
    (hB : MB p s m args meth c cc nL ret own) (hX : MX l A s args) (hw : WD D tys (cf σ ++ wr) A s H locs) (hK0 : va_K D vwX tys0 s) (hl : ls.size = nL) (hM : MtX l D tys0 cf y (wCX y ycc ynL yret) rm (.ref b :: As) σ post postX)
    (h1 : Cond.methodLink own idx y ∈ wAll) (h2 : Cond.instanceMethod y ∈ wAll) (h3 : Cond.selects C y y ∈ wAll) (h4 : Cond.initialized C ∈ wAll) (h5 : Cond.code y ycc ynL yret ∈ wAll) (hC : y.cls = C) (hd : okY y n) (hr1 : rm.cells = 1) (hr2 : rm.slots = 6) (hR : rm.frames + 1 ≤ R.frames ∧ 8 + (ynL + 11) + rm.locals ≤ R.locals)
    (he : (cf σ)[q0]? = some (b, .inr (ci, fs))) (hci : vwX[ci]? = some (C, T, N)) (hn : As.length = n) (hst : st0 = As.reverse ++ .ref b :: rest) (hrest : (rest.map fun v => v.category).sum ≤ 8) (hdg : decode cc pc = .ok (.invokevirtual idx, 3)) (hcs : cells + 1 ≤ R.cells ∧ slots + 6 ≤ R.slots)
    (kx : ∀ (E : String) (ce : Cell) (q : Addr) (σ' : S) (H : Heap) (locs : List Loc), postX E σ' → WD D tys (cf σ' ++ wr) A s H locs → H[q]? = some ce → ce.vm = .none → s.vm.findClass E = some ce.cls → vx_W p l e R s m args below meth c H locs (cells + 1) (slots + 6) Q (F0 m pc ls rest) q)
    (kk : ∀ (r : Int32) (σ' : S) (H : Heap) (locs : List Loc), post r σ' → WD D tys (cf σ' ++ wr) A s H locs → W p l e R s m args below meth c H locs (cells + 1) (slots + 6) Q (F0 m (pc + 3) ls (.int r :: rest))) :
    W p l e R s m args below meth c H locs cells slots Q (F0 m pc ls st0) := by
  obtain ⟨hx, hb, hr, hml, hown, hts, hlk⟩ := hB
  obtain ⟨hK, hP, hD, hS, hA⟩ := id hw
  have hF : ∀ q, va_A (cf σ) H.size q → A q := by
    intro q h
    rcases h with ⟨k, e, h⟩ | h
    · exact (fr_D hD).2 k _ h
    · exact hA q (Nat.le_trans hS.1 h)
  have htE : ∀ w ∈ wAll ++ wX, w.before args s = true := fun w h => (List.mem_append.mp h).elim (hts w) (hX.2.1 w)
  subst hst
  refine vx_calli (vx_runV (As := As) (rest := rest) ⟨hx, hb, hml, hown, htE⟩ (hM H.size) (cwV n htE (good_VX (fun _ h => List.mem_append_left _ h) (fun _ h => List.mem_append_right _ h) h1 h2 h3 h4 h5) rfl hr1 hr2 ⟨hC, hd⟩ hR) ⟨fun a U g mk q => ?_, va_recv hK (fr_P hP) hci he, fun U hU hW => ⟨rfl, ⟨by rw [hU], by rw [hU]; exact fr_P hP, va_K.moved hW.alike hK0, (fr_D hD).weaken (fun _ _ _ _ => trivial)⟩, hX.2.2.calls hS hU hW hF⟩⟩ rfl hn hl rfl (lv_room hrest) hdg hcs) hS (fun q _ h => hF q h) hF (fun q _ h => hF q h) (fun E ce q9 u t H1 locs1 ht hvm hp hB hz1 hk1 hS1 hc1 hv1 hcl1 => ?_) (fun r u t H1 locs1 ht hvm hp hB hz1 hk1 hS1 => ?_)
  · obtain ⟨q0, ⟨q1, qP, qK, qD⟩, qZ⟩ := q
    exact ⟨q0, ⟨q1, qP, va_K.moved (u := U) (U := U.calling g mk a) (Vm.Alike.refl U.vm) qK, qD⟩, ⟨vx_Zq.moved (u := U) (U := U.calling g mk a) (Vm.Alike.refl U.vm) qZ.1, vx_Zq.moved (u := U) (U := U.calling g mk a) (Vm.Alike.refl U.vm) qZ.2.1, XV.same (U := U.calling g mk a) rfl qZ.2.2⟩⟩
  · obtain ⟨rfl, hP1, hK1, hD1⟩ := hB
    rw [ht] at hP1
    obtain ⟨jP, jD⟩ := fr_join hP hD hk1 hF hP1 hD1
    exact kx _ ce q9 u.2 H1 locs1 hp ⟨hK, jP, jD, hS1, hA⟩ hc1 hv1 hcl1
  · obtain ⟨hP1, hK1, hD1⟩ := hB
    rw [ht] at hP1
    obtain ⟨jP, jD⟩ := fr_join hP hD hk1 hF hP1 hD1
    exact kk r u H1 locs1 hp ⟨hK, jP, jD, hS1, hA⟩
end XW
theorem okR_KX {a b n : Nat} (h : a ≤ b + 1) (hn : n ≤ 80) : okR (rmK a) n (rmX b) := by
  refine ⟨rfl, rfl, ?_, ?_⟩
  · show 4 + 4 * a + 1 ≤ 20 + 4 * b
    omega
  · show 8 + (n + 11) + (100 + 100 * a) ≤ 300 + 100 * b
    omega
theorem okR_XX {a b n : Nat} (h : a < b) (hn : n ≤ 80) : (rmX a).frames + 1 ≤ (rmX b).frames ∧ 8 + (n + 11) + (rmX a).locals ≤ (rmX b).locals := by
  constructor
  · show 20 + 4 * a + 1 ≤ 20 + 4 * b
    omega
  · show 8 + (n + 11) + (300 + 100 * a) ≤ 300 + 100 * b
    omega
section XW2
variable {p : Program} {l : Launch} {e : Env} {R : Room} {s : State} {m : MethodId} {args : Array Value} {below : List Frame} {meth : Method} {c : Code} {H : Heap} {locs : List Loc} {cells slots : Nat} {Q : State → Prop}
variable {pc : Nat} {ls : Array Slot} {rest st0 : List Value} {A : Nat → Prop} {D : va_G} {tys : List (ClassId × FieldType)} {S : Type} {cf : S → va_W} {σ : S} {cc : ByteArray} {nL : Nat} {ret : Option FieldType} {own : String}
/-- the same without a frame -/
theorem w_cXI {y : MethodName} {ycc : ByteArray} {ynL n idx q0 ci N : Nat} {yret : Option FieldType} {rm : Room} {b : Nat} {fs : List Value} {T : u_T} {C : String} {As : List Value} {post : Int32 → S → Prop} {postX : String → S → Prop}
    (hB : MB p s m args meth c cc nL ret own) (hX : MX l A s args) (hw : WD D tys (cf σ) A s H locs) (hl : ls.size = nL) (hM : MtX l D tys cf y (wCX y ycc ynL yret) rm (.ref b :: As) σ post postX)
    (h1 : Cond.methodLink own idx y ∈ wAll) (h2 : Cond.instanceMethod y ∈ wAll) (h3 : Cond.selects C y y ∈ wAll) (h4 : Cond.initialized C ∈ wAll) (h5 : Cond.code y ycc ynL yret ∈ wAll) (hC : y.cls = C) (hd : okY y n) (hr1 : rm.cells = 1) (hr2 : rm.slots = 6) (hR : rm.frames + 1 ≤ R.frames ∧ 8 + (ynL + 11) + rm.locals ≤ R.locals)
    (he : (cf σ)[q0]? = some (b, .inr (ci, fs))) (hci : vwX[ci]? = some (C, T, N)) (hn : As.length = n) (hst : st0 = As.reverse ++ .ref b :: rest) (hrest : (rest.map fun v => v.category).sum ≤ 8) (hdg : decode cc pc = .ok (.invokevirtual idx, 3)) (hcs : cells + 1 ≤ R.cells ∧ slots + 6 ≤ R.slots)
    (kx : ∀ (E : String) (ce : Cell) (q : Addr) (σ' : S) (H : Heap) (locs : List Loc), postX E σ' → WD D tys (cf σ') A s H locs → H[q]? = some ce → ce.vm = .none → s.vm.findClass E = some ce.cls → vx_W p l e R s m args below meth c H locs (cells + 1) (slots + 6) Q (F0 m pc ls rest) q)
    (kk : ∀ (r : Int32) (σ' : S) (H : Heap) (locs : List Loc), post r σ' → WD D tys (cf σ') A s H locs → W p l e R s m args below meth c H locs (cells + 1) (slots + 6) Q (F0 m (pc + 3) ls (.int r :: rest))) :
    W p l e R s m args below meth c H locs cells slots Q (F0 m pc ls st0) :=
  f_cXI (wr := []) hB hX (by rw [List.append_nil]; exact hw) hw.1 hl hM h1 h2 h3 h4 h5 hC hd hr1 hr2 hR he hci hn hst hrest hdg hcs
    (fun E ce q σ' H locs a b => kx E ce q σ' H locs a (by rw [List.append_nil] at b; exact b)) (fun r σ' H locs a b => kk r σ' H locs a (by rw [List.append_nil] at b; exact b))
end XW2
