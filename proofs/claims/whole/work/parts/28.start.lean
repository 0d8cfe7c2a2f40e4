/-! THE CLAIM OUT OF ONE WALK OF THE LAW'S BODY. Your part is whole_start (and what it stands on); all else here is the same for every law, but numbers. -/
def R_law : String := "RunHeapLaw"
def lw_P (b : Addr) (xs : List Int32) (args : Array Value) (s : State) : Prop := args = #[.ref b] ∧ s.IntsAt b xs ∧ xs.length ≤ 2049 ∧ (Jvm.Cond.and given_1 narrow_1).before args s = true
def lw_Q (_ : Array Value) (s : State) (o : Outcome) (t : State) : Prop := o = .returned (some (.int 1)) ∧ Framed s o t [] 601024 7293000
def lw_Z (below : List Frame) (a : Array Value) (s : State) : State → Prop := fun t => ∃ o, t.status = .running ∧ Ended t below o ∧ lw_Q a s o t
/-- the law's own end, with 1 on the stack, nothing written that was there before, its room as the claim has it -/
theorem lw_ret {p : Program} {l : Launch} {e : Env} {s : State} {m : MethodId} {below : List Frame} {meth : Method} {c : Code} {b : Nat} (hx : p.tables.exec = Jvm.exec) (hb : c.code = code) (hr : meth.sig.returnType = ret) (hlocks : meth.locks = false) {pc : Nat} {H : Heap} {ls : Array Slot} (hdg : decode code pc = .ok (.ireturn, 1)) : W p l e room_1 s m #[Value.ref b] below meth c H [] 601024 7293000 (lw_Z below #[Value.ref b] s) (F0 m pc ls [.int 1]) := by
  intro T hT X
  obtain ⟨fs, hret, hrun, hended, hW, hframe⟩ := X.leave (v := some (.int 1)) (hlocks := hlocks) (fun h => by rw [hr] at h; cases h)
  have hmeth' : T.vm.method? m = some meth := X.method'
  refine ⟨T.setFrames fs, ?_, .returned (some (.int 1)), hrun, hended, rfl, ⟨_, rfl⟩, hW, hframe⟩
  jvm_step X.here [X.here.top, hx, hb, hdg, hmeth', hr, ret, narrow_b1]
  (try refine ⟨rfl, ?_⟩); (try refine ⟨rfl, ?_⟩)
  first | (intro acts; rw [hret _ acts rfl rfl rfl]) | rw [hret _ _ rfl rfl rfl]
  exact Steps.refl _
/-- what holds at the law's entry: the machine, the code, the tables' words (any of lw_tbl by 'hts w (by decide +kernel)'), the script of L ints xs at the cell b, what the Statement gives of the start (any of its parts by flat_of_before) -/
def lw_At (p : Program) (s : State) (m : MethodId) (meth : Method) (c : Code) (b L : Nat) (xs : Nat → Int32) : Prop :=
  p.tables.exec = Jvm.exec ∧ c.code = code ∧ meth.sig.returnType = ret ∧ c.maxLocals = 7 ∧ s.vm.findClass R_law = some m.cls ∧ (∀ w ∈ lw_tbl, w.before #[Value.ref b] s = true) ∧ va_X b L xs s s.heap ∧ b < s.heap.size ∧ meth.locks = false ∧ (Jvm.Cond.and given_1 narrow_1).before #[Value.ref b] s = true
/-- what is owed of the pure side: both constructors' numbers, and the law's loop from its beginning -/
def PureLaw : Prop := ∀ (L : Nat), L ≤ 2049 → ∀ (xs : Nat → Int32) (p1 : Int32), ∃ Hd N K n : Nat,
  (if 16 < (if p1 < 4096 then p1 else 4096) then (if p1 < 4096 then p1 else 4096) else 16) = nI Hd ∧ Hd ≤ 4096 ∧ (nI Hd - 3) / 4 = nI N ∧ 1 ≤ N ∧ N ≤ 1023 ∧ K ≤ 128 ∧ (if 128 < (nI N) then 128 else (nI N)) = nI K ∧
  (¬ 16 ≤ p1 → ((16 : Int32) - 3) / 4 = nI N) ∧ (16 ≤ p1 → ¬ p1 ≤ 4096 → ((4096 : Int32) - 3) / 4 = nI N) ∧ (16 ≤ p1 → p1 ≤ 4096 → (p1 - 3) / 4 = nI N) ∧
  n ≤ 600 ∧ ∀ f : Nat → Int64, lp_law (lnC Hd N K) xs L n (sig0 N, f) (tau0 (nI N)) 1
def cellV (L : Nat) (xs : Nat → Int32) : Int32 := if Int32.ofNat L ≤ 0 then 0 else xs (0 : Int32).toNatClampNeg
theorem in_ofNat {L : Nat} (hL : L ≤ 2049) (h : ¬ Int32.ofNat L ≤ 0) : vp_in 0 L := by
  rcases Nat.eq_zero_or_pos L with rfl | h0
  · exact absurd (by decide) h
  · exact in0 h0
set_option maxHeartbeats 4000000 in
set_option maxRecDepth 100000 in
theorem c_L_cell (l : Launch) (b L : Nat) (xs : Nat → Int32) (hL : L ≤ 2049) (sz : Nat) : Met l yL_cell (wC yL_cell cL_cell 2 (some .int)) (rmK 0) (va_Pc [.ref b, .int 0] (fun U => U.heap.size = sz ∧ b < sz ∧ va_X b L xs U U.heap)) (va_Qi (fun (r : Int32) (_ : Unit) => r = cellV L xs) (fun _ _ => True) (va_A [] sz)) 0 0 (va_A [] sz) := by
  refine Met.ofW (cc := cL_cell) (maxL := 2) (ret := some .int) (by decide) rfl ?_
  intro p e s m args below meth c s₁ B hml hv
  obtain ⟨rfl, hsz, hbl, hX⟩ := hv
  subst hsz
  have hx := B.exec
  have hb := B.bytes
  have hr := B.returns
  have hlk := B.notSynchronized
  have hl := lv_entry [.ref b, .int 0] (n := 2) (Nat.le_of_ble_eq_true rfl)
  rw [lg_entry_eq]
  generalize (lg_sl ([.ref b, .int 0]) ++ List.replicate (2 - (lg_sl ([.ref b, .int 0])).length) Slot.unset).toArray = ls at hl ⊢
  have hl : lv_has ls 2 [(0, .ref b), (1, .int 0)] := hl
  have hbA : ¬ va_A [] s.heap.size b := by
    rintro (⟨k, q, h⟩ | h)
    · simp at h
    · exact absurd hbl (Nat.not_lt.mpr h)
  have hS : va_S (va_A [] s.heap.size) s.heap s.heap [] := va_S.rf
  refine lv_iload_n hx hb dL_cell_0 rfl (lv_at hl 1 rfl) ?_
  refine lv_aload_n hx hb dL_cell_1 rfl (lv_at hl 0 rfl) ?_
  refine va_slen hx hb hX hbl hbA hS dL_cell_2 ?_
  refine lv_icmp_ge (tgt := 12) hx hb dL_cell_3 (by decide) (fun c1 => ?_) (fun c1 => ?_)
  · refine lv_iconst (v := 0) hx hb dL_cell_12 (by decide) ?_
    exact W.iret hx hb hr (fun t ht hW => ⟨⟨0, (), rfl, (by unfold cellV; rw [if_pos c1]), trivial⟩, hS.F ht⟩) hS.2.2 dL_cell_13 hlk
  · refine lv_aload_n hx hb dL_cell_6 rfl (lv_at hl 0 rfl) ?_
    refine lv_iload_n hx hb dL_cell_7 rfl (lv_at hl 1 rfl) ?_
    refine va_sld hx hb hX hbl hbA hS (in_ofNat hL c1) dL_cell_8 ?_
    refine lv_goto (tgt := 13) hx hb dL_cell_9 (by decide) ?_
    exact W.iret hx hb hr (fun t ht hW => ⟨⟨_, (), rfl, (by unfold cellV; rw [if_neg c1]), trivial⟩, hS.F ht⟩) hS.2.2 dL_cell_13 hlk
section CELL
variable {p : Program} {l : Launch} {e : Env} {R : Room} {s : State} {m : MethodId} {args : Array Value} {below : List Frame} {meth : Method} {c : Code} {H : Heap} {locs : List Loc} {cells slots : Nat} {Q : State → Prop}
variable {pc : Nat} {ls : Array Slot} {rest : List Value} {A : Nat → Prop} {D : va_G} {tys : List (ClassId × FieldType)} {cc : ByteArray} {nL : Nat} {ret : Option FieldType} {ws : va_W}
set_option maxHeartbeats 4000000 in
theorem l_cell {b L : Nat} {xs : Nat → Int32} {idx : Nat} (hL : L ≤ 2049) (hB : MB p s m args meth c cc nL ret RL) (hw : WD D tys ws A s H locs) (hl : ls.size = nL) (hXs : va_X b L xs s s.heap) (hbl : b < s.heap.size) (hbA : ¬ A b) (h1 : Cond.methodLink RL idx yL_cell ∈ wAll) (hR : okR (rmK 0) 2 R) (hrest : (rest.map fun v => v.category).sum ≤ 8) (hdg : decode cc pc = .ok (.invokestatic idx, 3)) (hcs : cells ≤ R.cells ∧ slots ≤ R.slots)
    (kk : ∀ (H : Heap) (locs : List Loc), WD D tys ws A s H locs → W p l e R s m args below meth c H locs cells slots Q (F0 m (pc + 3) ls (.int (cellV L xs) :: rest))) :
    W p l e R s m args below meth c H locs cells slots Q (F0 m pc ls (.int 0 :: .ref b :: rest)) := by
  obtain ⟨hx, hb, hr, hml, hown, hts, hlk⟩ := hB
  obtain ⟨hK, hP, hD, hS, hA⟩ := id hw
  have hF : ∀ q, va_A [] H.size q → A q := by
    rintro q (⟨k, e, h⟩ | h)
    · simp at h
    · exact hA q (Nat.le_trans hS.1 h)
  have hH : H[b]? = s.heap[b]? := hS.2.1 b hbl hbA
  refine va_calli (va_runS (As := [.ref b, .int 0]) (rest := rest) ⟨hx, hb, hml, hown, hts⟩ (c_L_cell l b L xs hL H.size) (va_cwS 2 hts (good_S h1 m500 m182 m21) rfl hR.1 hR.2.1 ⟨by decide, by decide, by decide +kernel⟩ hR.2.2) ⟨fun a U g mk q => by obtain ⟨q0, q1, q2, q3⟩ := q; exact ⟨q0, q1, q2, va_X.moved (u := U) (U := U.calling g mk a) (Vm.Alike.refl U.vm) q3⟩, fun U hU hW => ⟨rfl, by rw [hU], Nat.lt_of_lt_of_le hbl hS.1, by rw [hU]; exact va_X.moved hW.alike (hXs.kept hH)⟩⟩ rfl rfl hl rfl (lv_room hrest) hdg hcs) hS (fun q _ h => hF q h) hF (fun r u t H1 locs1 ht hvm hp hB hz1 hk1 hS1 => ?_)
  rw [hp]
  refine kk H1 locs1 ⟨hK, hP.kept (fun k q h => hk1 q.1 (fr_lt hP h) ?_), hD, hS1, hA⟩
  rintro (⟨j, e, h9⟩ | h9)
  · simp at h9
  · exact absurd (fr_lt hP h) (Nat.not_lt.mpr h9)
end CELL
theorem arr_of {args : Array Value} {s : State} {ty : FieldType} (h : (Cond.arrayClass ty).before args s = true) : ∃ cA : ClassId, ArrOfT s cA ty ∧ s.vm.findClass ("[" ++ ty.toString) = some cA := by
  obtain ⟨cA, k, comp, h1, h2, h3⟩ := Cond.arrayClass_spec h
  exact ⟨cA, fun n z => ⟨fun k h => (by cases h), k, h2, comp, h3⟩, h1⟩
theorem str_of {args : Array Value} {s : State} {own tx : String} {k : Nat} (h : (Cond.stringRef own k tx).before args s = true) (hc : ∃ cur, s.vm.findClass own = some cur) : ∃ (tx : String) (a : Nat), vk_R own k tx a s := by
  obtain ⟨cur, hc⟩ := hc
  obtain ⟨_, _, _, a, -, -, -, -, -, hev⟩ := Cond.stringRef_spec (args := args) hc h
  have h0 : (Cond.stringRef own k tx).before #[] s = true := h
  exact ⟨tx, a, h0, hev⟩
