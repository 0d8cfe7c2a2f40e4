/-! Calls out of the law: its world is the class's cells, the row 'out', and the reference's cells. -/
def LW (ad ln : Nat → Nat) (cI : ClassId) (o : Nat) (cL : ClassId) (am lm : Nat → Nat) (cZ : ClassId) (u : S2) (τ : CS) : va_W := cfO ad ln cI o cL u ++ cellsM am lm cI cZ τ
abbrev tyL (cI cZ cL : ClassId) : List (ClassId × FieldType) := [(cI, .int), (cZ, .boolean), (cL, .long)]
section LAWROWS
variable {p : Program} {l : Launch} {e : Env} {R : Room} {s : State} {m : MethodId} {args : Array Value} {below : List Frame} {meth : Method} {c : Code} {H : Heap} {locs : List Loc} {cells slots : Nat} {Q : State → Prop}
variable {pc : Nat} {ls : Array Slot} {rest st0 : List Value} {A : Nat → Prop} {D : va_G} {tys tys0 : List (ClassId × FieldType)} {S : Type} {cf : S → va_W} {σ : S} {cc : ByteArray} {nL : Nat} {ret : Option FieldType} {own : String} {wr : va_W}
variable {ad ln am lm : Nat → Nat} {cI cZ cL : ClassId} {o : Nat} {u : S2} {τ : CS}
set_option maxHeartbeats 4000000 in
/-- a virtual call that answers an int, with a frame -/
theorem f_cVI {y : MethodName} {ycc : ByteArray} {ynL n idx q0 ci N : Nat} {yret : Option FieldType} {rm : Room} {b : Nat} {fs : List Value} {T : u_T} {C : String} {As : List Value} {post : Int32 → S → Prop}
    (hB : MB p s m args meth c cc nL ret own) (hw : WD D tys (cf σ ++ wr) A s H locs) (hK0 : va_K D vwX tys0 s) (hl : ls.size = nL) (hM : MtI l D tys0 cf y ycc ynL yret rm (.ref b :: As) σ post)
    (h1 : Cond.methodLink own idx y ∈ wAll) (h2 : Cond.instanceMethod y ∈ wAll) (h3 : Cond.selects C y y ∈ wAll) (h4 : Cond.initialized C ∈ wAll) (h5 : Cond.code y ycc ynL yret ∈ wAll) (hC : y.cls = C) (hd : okY y n) (hR : okR rm ynL R)
    (he : (cf σ)[q0]? = some (b, .inr (ci, fs))) (hci : vwX[ci]? = some (C, T, N)) (hn : As.length = n) (hst : st0 = As.reverse ++ .ref b :: rest) (hrest : (rest.map fun v => v.category).sum ≤ 8) (hdg : decode cc pc = .ok (.invokevirtual idx, 3)) (hcs : cells ≤ R.cells ∧ slots ≤ R.slots)
    (kk : ∀ (r : Int32) (σ' : S) (H : Heap) (locs : List Loc), post r σ' → WD D tys (cf σ' ++ wr) A s H locs → W p l e R s m args below meth c H locs cells slots Q (F0 m (pc + 3) ls (.int r :: rest))) :
    W p l e R s m args below meth c H locs cells slots Q (F0 m pc ls st0) := by
  obtain ⟨hx, hb, hr, hml, hown, hts, hlk⟩ := hB
  obtain ⟨hK, hP, hD, hS, hA⟩ := id hw
  have hF : ∀ q, va_A (cf σ) H.size q → A q := by
    intro q h
    rcases h with ⟨k, e, h⟩ | h
    · exact (fr_D hD).2 k _ h
    · exact hA q (Nat.le_trans hS.1 h)
  subst hst
  refine va_calli (va_runV (As := As) (rest := rest) ⟨hx, hb, hml, hown, hts⟩ (hM H.size) (cwV n hts (good_V h1 h2 h3 h4 h5) rfl hR.1 hR.2.1 ⟨hC, hd⟩ hR.2.2) ⟨fun a U g mk q => by obtain ⟨q0, q1, qP, qK, qD⟩ := q; exact ⟨q0, q1, qP, va_K.moved (u := U) (U := U.calling g mk a) (Vm.Alike.refl U.vm) qK, qD⟩, va_recv hK (fr_P hP) hci he, fun U hU hW => ⟨rfl, by rw [hU], by rw [hU]; exact fr_P hP, va_K.moved hW.alike hK0, (fr_D hD).weaken (fun _ _ _ _ => trivial)⟩⟩ rfl hn hl rfl (lv_room hrest) hdg hcs) hS (fun q _ h => hF q h) hF (fun r u t H1 locs1 ht hvm hp hB hz1 hk1 hS1 => ?_)
  obtain ⟨hP1, hK1, hD1⟩ := hB
  rw [ht] at hP1
  obtain ⟨jP, jD⟩ := fr_join hP hD hk1 hF hP1 hD1
  exact kk r u H1 locs1 hp ⟨hK, jP, jD, hS1, hA⟩
theorem LW_C {σ : CS} {f : Nat → Int64} : LW ad ln cI o cL am lm cZ (σ, f) τ = cellsC ad ln cI σ ++ ([(o, .inl (cL, 1, .inr (.inl f)))] ++ cellsM am lm cI cZ τ) := List.append_assoc _ _ _
/-- of the class -/
theorem l_C {y : MethodName} {ycc : ByteArray} {ynL n idx N : Nat} {yret : Option FieldType} {rm : Room} {T : u_T} {As : List Value} {post : Int32 → CS → Prop}
    (hB : MB p s m args meth c cc nL ret own) (hw : WD D (tyL cI cZ cL) (LW ad ln cI o cL am lm cZ u τ) A s H locs) (hl : ls.size = nL) (hM : MtI l D (tyC cI) (cellsC ad ln cI) y ycc ynL yret rm (.ref (ad 0) :: As) u.1 post)
    (h1 : Cond.methodLink own idx y ∈ wAll) (h2 : Cond.instanceMethod y ∈ wAll) (h3 : Cond.selects RX4 y y ∈ wAll) (h4 : Cond.initialized RX4 ∈ wAll) (h5 : Cond.code y ycc ynL yret ∈ wAll) (hC : y.cls = RX4) (hd : okY y n) (hR : okR rm ynL R)
    (hn : As.length = n) (hst : st0 = As.reverse ++ .ref (ad 0) :: rest) (hrest : (rest.map fun v => v.category).sum ≤ 8) (hdg : decode cc pc = .ok (.invokevirtual idx, 3)) (hcs : cells ≤ R.cells ∧ slots ≤ R.slots)
    (kk : ∀ (r : Int32) (σ' : CS) (H : Heap) (locs : List Loc), post r σ' → WD D (tyL cI cZ cL) (LW ad ln cI o cL am lm cZ (σ', u.2) τ) A s H locs → W p l e R s m args below meth c H locs cells slots Q (F0 m (pc + 3) ls (.int r :: rest))) :
    W p l e R s m args below meth c H locs cells slots Q (F0 m pc ls st0) := by
  obtain ⟨σ, f⟩ := u
  rw [LW_C] at hw
  refine f_cVI (C := RX4) (ci := 4) (q0 := 0) hB hw (hw.1.sub [0] rfl) hl hM h1 h2 h3 h4 h5 hC hd hR rfl rfl hn hst hrest hdg hcs (fun r σ' H locs hp hw => kk r σ' H locs hp ?_)
  rw [LW_C]
  exact hw
/-- of the reference -/
theorem l_M {y : MethodName} {ycc : ByteArray} {ynL n idx : Nat} {yret : Option FieldType} {rm : Room} {As : List Value} {post : Int32 → CS → Prop}
    (hB : MB p s m args meth c cc nL ret own) (hw : WD D (tyL cI cZ cL) (LW ad ln cI o cL am lm cZ u τ) A s H locs) (hl : ls.size = nL) (hM : MtI l D (tyM cI cZ) (cellsM am lm cI cZ) y ycc ynL yret rm (.ref (am 0) :: As) τ post)
    (h1 : Cond.methodLink own idx y ∈ wAll) (h2 : Cond.instanceMethod y ∈ wAll) (h3 : Cond.selects RX5 y y ∈ wAll) (h4 : Cond.initialized RX5 ∈ wAll) (h5 : Cond.code y ycc ynL yret ∈ wAll) (hC : y.cls = RX5) (hd : okY y n) (hR : okR rm ynL R)
    (hn : As.length = n) (hst : st0 = As.reverse ++ .ref (am 0) :: rest) (hrest : (rest.map fun v => v.category).sum ≤ 8) (hdg : decode cc pc = .ok (.invokevirtual idx, 3)) (hcs : cells ≤ R.cells ∧ slots ≤ R.slots)
    (kk : ∀ (r : Int32) (τ' : CS) (H : Heap) (locs : List Loc), post r τ' → WD D (tyL cI cZ cL) (LW ad ln cI o cL am lm cZ u τ') A s H locs → W p l e R s m args below meth c H locs cells slots Q (F0 m (pc + 3) ls (.int r :: rest))) :
    W p l e R s m args below meth c H locs cells slots Q (F0 m pc ls st0) :=
  f_cVI (C := RX5) (ci := 5) (q0 := 0) hB (WD_swap (a := cfO ad ln cI o cL u) hw) (hw.1.sub [0, 1] rfl) hl hM h1 h2 h3 h4 h5 hC hd hR rfl rfl hn hst hrest hdg hcs (fun r τ' H locs hp hw => kk r τ' H locs hp (WD_swap (b := cfO ad ln cI o cL u) hw))
theorem good_H {Ts : List Cond} {own : String} {idx : Nat} {y : MethodName} {ycc : ByteArray} {ynL : Nat} {yret : Option FieldType} {hh : List (Nat × Nat × Nat × Nat)} (hT : ∀ w ∈ wAll, w ∈ Ts) (hTx : ∀ w ∈ wX, w ∈ Ts) (h1 : Cond.methodLink own idx y ∈ wAll) (h2 : Cond.static y ∈ wAll) (h4 : Cond.initialized y.cls ∈ wAll) (h5 : Cond.codeWith y ycc ynL yret hh ∈ Ts) : GoodIn Ts (va_wsS own idx y (wCH y ycc ynL yret hh)) := by
  intro w hw
  have g : ∀ {w : Cond}, w ∈ wAll → w ∈ Ts ∧ ((w.onTables && w.keeps) = true ∨ ∃ ty, w = .arrayClass ty) := fun h => ⟨hT _ h, (good_mem h).2⟩
  rcases List.mem_append.mp hw with h | h
  · rcases List.mem_cons.mp h with rfl | h
    · exact g h1
    rcases List.mem_cons.mp h with rfl | h
    · exact g h2
    rcases List.mem_cons.mp h with rfl | h
    · exact g h4
    cases h
  · rcases List.mem_cons.mp h with rfl | h
    · exact ⟨h5, Or.inl rfl⟩
    · rcases List.mem_append.mp h with h | h
      · exact g h
      · exact ⟨hTx _ h, good_of_word (wX_good h)⟩
set_option maxHeartbeats 4000000 in
/-- of a method of the law's own that catches -/
theorem l_W {y : MethodName} {ycc : ByteArray} {ynL n idx : Nat} {yret : Option FieldType} {hh : List (Nat × Nat × Nat × Nat)} {rm : Room} {As : List Value} {post : Int32 → S2 → Prop} {Ts : List Cond}
    (hB : MB p s m args meth c cc nL ret own) (hX : MX l A s args) (hT : ∀ w ∈ wAll, w ∈ Ts) (hTx : ∀ w ∈ wX, w ∈ Ts) (hTs : ∀ w ∈ Ts, w.before args s = true) (hw : WD D (tyL cI cZ cL) (LW ad ln cI o cL am lm cZ u τ) A s H locs) (hl : ls.size = nL) (hM : MtX l D (tyO cI cL) (cfO ad ln cI o cL) y (wCH y ycc ynL yret hh) rm As u post (fun _ _ => False))
    (h1 : Cond.methodLink own idx y ∈ wAll) (h2 : Cond.static y ∈ wAll) (h4 : Cond.initialized y.cls ∈ wAll) (h5 : Cond.codeWith y ycc ynL yret hh ∈ Ts) (hd : okY y n) (hr1 : rm.cells = 1) (hr2 : rm.slots = 6) (hR : rm.frames + 1 ≤ R.frames ∧ 8 + (ynL + 11) + rm.locals ≤ R.locals)
    (hn : As.length = n) (hst : st0 = As.reverse ++ rest) (hrest : (rest.map fun v => v.category).sum ≤ 8) (hdg : decode cc pc = .ok (.invokestatic idx, 3)) (hcs : cells + 1 ≤ R.cells ∧ slots + 6 ≤ R.slots)
    (kk : ∀ (r : Int32) (u' : S2) (H : Heap) (locs : List Loc), post r u' → WD D (tyL cI cZ cL) (LW ad ln cI o cL am lm cZ u' τ) A s H locs → W p l e R s m args below meth c H locs (cells + 1) (slots + 6) Q (F0 m (pc + 3) ls (.int r :: rest))) :
    W p l e R s m args below meth c H locs cells slots Q (F0 m pc ls st0) := by
  obtain ⟨hx, hb, hr, hml, hown, hts, hlk⟩ := hB
  obtain ⟨hK, hP, hD, hS, hA⟩ := id hw
  have hP : va_P D vwX (cfO ad ln cI o cL u ++ cellsM am lm cI cZ τ) H := hP
  have hD : va_D A (cfO ad ln cI o cL u ++ cellsM am lm cI cZ τ) := hD
  have hF : ∀ q, va_A (cfO ad ln cI o cL u) H.size q → A q := by
    intro q h
    rcases h with ⟨k, e, h⟩ | h
    · exact (fr_D hD).2 k _ h
    · exact hA q (Nat.le_trans hS.1 h)
  have hK0 : va_K D vwX (tyO cI cL) s := hK.sub [0, 2] rfl
  subst hst
  refine vx_calli (vx_runSX (As := As) (rest := rest) (hh := hh) ⟨hx, hb, hml, hown, hTs⟩ (hM H.size) (vx_cwSW n hTs (good_H hT hTx h1 h2 h4 h5) rfl hr1 hr2 hd hR) ⟨fun a U g mk q => ?_, fun U hU hW => ⟨rfl, ⟨by rw [hU], by rw [hU]; exact fr_P hP, va_K.moved hW.alike hK0, (fr_D hD).weaken (fun _ _ _ _ => trivial)⟩, hX.2.2.calls hS hU hW hF⟩⟩ rfl hn hl rfl (lv_room hrest) hdg hcs) hS (fun q _ h => hF q h) hF (fun q _ h => hF q h) (fun E ce q9 u t H1 locs1 ht hvm hp => hp.elim) (fun r u t H1 locs1 ht hvm hp hB hz1 hk1 hS1 => ?_)
  · obtain ⟨q0, ⟨q1, qP, qK, qD⟩, qZ⟩ := q
    exact ⟨q0, ⟨q1, qP, va_K.moved (u := U) (U := U.calling g mk a) (Vm.Alike.refl U.vm) qK, qD⟩, ⟨vx_Zq.moved (u := U) (U := U.calling g mk a) (Vm.Alike.refl U.vm) qZ.1, vx_Zq.moved (u := U) (U := U.calling g mk a) (Vm.Alike.refl U.vm) qZ.2.1, XV.same (U := U.calling g mk a) rfl qZ.2.2⟩⟩
  · obtain ⟨hP1, hK1, hD1⟩ := hB
    rw [ht] at hP1
    obtain ⟨jP, jD⟩ := fr_join hP hD hk1 hF hP1 hD1
    exact kk r u H1 locs1 hp ⟨hK, jP, jD, hS1, hA⟩
theorem l_lald {i : Int32} (hB : MB p s m args meth c cc nL ret own) (hw : WD D (tyL cI cZ cL) (LW ad ln cI o cL am lm cZ u τ) A s H locs) (hin : vp_in i 1) (hdg : decode cc pc = .ok (.laload, 1))
    (kk : W p l e R s m args below meth c H locs cells slots Q (F0 m (pc + 1) ls (.long (u.2 i.toNatClampNeg) :: rest))) : W p l e R s m args below meth c H locs cells slots Q (F0 m pc ls (.int i :: .ref o :: rest)) :=
  va_lald hB.1 hB.2.1 hw.1 hw.2.1 21 2 rfl rfl hin hdg kk
end LAWROWS
theorem sw_out18 {x : Int32} (h0 : ¬ x = 0) (h1 : ¬ x = 1) (h2 : ¬ x = 2) (h3 : ¬ x = 3) (h4 : ¬ x = 4) (h5 : ¬ x = 5) (h6 : ¬ x = 6) (h7 : ¬ x = 7) (h8 : ¬ x = 8) (h9 : ¬ x = 9) (h10 : ¬ x = 10) (h11 : ¬ x = 11) (h12 : ¬ x = 12) (h13 : ¬ x = 13) (h14 : ¬ x = 14) (h15 : ¬ x = 15) (h16 : ¬ x = 16) (h17 : ¬ x = 17) : x.toInt < 0 ∨ 17 < x.toInt := by
  have a0 := sw_ne 0 (by decide) h0
  have a1 := sw_ne 1 (by decide) h1
  have a2 := sw_ne 2 (by decide) h2
  have a3 := sw_ne 3 (by decide) h3
  have a4 := sw_ne 4 (by decide) h4
  have a5 := sw_ne 5 (by decide) h5
  have a6 := sw_ne 6 (by decide) h6
  have a7 := sw_ne 7 (by decide) h7
  have a8 := sw_ne 8 (by decide) h8
  have a9 := sw_ne 9 (by decide) h9
  have a10 := sw_ne 10 (by decide) h10
  have a11 := sw_ne 11 (by decide) h11
  have a12 := sw_ne 12 (by decide) h12
  have a13 := sw_ne 13 (by decide) h13
  have a14 := sw_ne 14 (by decide) h14
  have a15 := sw_ne 15 (by decide) h15
  have a16 := sw_ne 16 (by decide) h16
  have a17 := sw_ne 17 (by decide) h17
  omega
