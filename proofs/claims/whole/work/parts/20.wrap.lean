/-! The law's own four methods that catch. -/
theorem in01 : vp_in 0 1 := by unfold vp_in; decide
abbrev S2 : Type := CS × (Nat → Int64)
def cfO (ad ln : Nat → Nat) (cI : ClassId) (o : Nat) (cL : ClassId) (u : S2) : va_W := cellsC ad ln cI u.1 ++ [(o, .inl (cL, 1, .inr (.inl u.2)))]
abbrev tyO (cI cL : ClassId) : List (ClassId × FieldType) := [(cI, .int), (cL, .long)]
section OUT
variable {p : Program} {l : Launch} {e : Env} {R : Room} {s : State} {m : MethodId} {args : Array Value} {below : List Frame} {meth : Method} {c : Code} {H : Heap} {locs : List Loc} {cells slots : Nat} {Q : State → Prop}
variable {pc : Nat} {ls : Array Slot} {rest : List Value} {A : Nat → Prop} {D : va_G} {ad ln : Nat → Nat} {cI cL : ClassId} {o : Nat} {u : S2} {cc : ByteArray} {nL : Nat} {ret : Option FieldType} {own : String}
theorem w_lastO {i : Int32} {x : Int64} (hB : MB p s m args meth c cc nL ret own) (hw : WD D (tyO cI cL) (cfO ad ln cI o cL u) A s H locs) (hin : vp_in i 1) (hdg : decode cc pc = .ok (.lastore, 1))
    (kk : ∀ (H1 : Heap) (locs1 : List Loc), WD D (tyO cI cL) (cfO ad ln cI o cL (u.1, vp_updL u.2 i.toNatClampNeg x)) A s H1 locs1 → W p l e R s m args below meth c H1 locs1 cells slots Q (F0 m (pc + 1) ls rest)) : W p l e R s m args below meth c H locs cells slots Q (F0 m pc ls (.long x :: .int i :: .ref o :: rest)) :=
  va_last hB.1 hB.2.1 hw.1 hw.2.1 hw.2.2.1 hw.2.2.2.1 21 1 rfl rfl hin hdg (fun H1 locs1 h1 h2 h3 => kk H1 locs1 ⟨hw.1, h1, h2, h3, hw.2.2.2.2⟩)
/-- the catch of E by a row of its own class's name -/
theorem w_catch0 {E : String} {ce : Cell} {q : Addr} {x : ExceptionTableEntry} {suf : List ExceptionTableEntry} (hB : MB p s m args meth c cc nL ret RL) (htab : c.exceptionTable.toList = x :: suf) (hx : covers x pc = true) (h0 : x.catchType ≠ 0) (hlink : Cond.classLink RL x.catchType E ∈ wAll) (hcast : va_Nw (.castable E E) s) (hcell : H[q]? = some ce) (hv : ce.vm = .none) (hcl : s.vm.findClass E = some ce.cls)
    (kk : W p l e R s m args below meth c H locs cells slots Q (F0 m x.handlerPc ls [.ref q])) : vx_W p l e R s m args below meth c H locs cells slots Q (F0 m pc ls rest) q :=
  vx_catch (name := E) hB.2.2.2.2.1 [] x suf htab (fun z h => nomatch h) hx h0 (hB.2.2.2.2.2.1 _ hlink) (va_tabs rfl rfl hcast) hcell hv hcl kk
theorem w_catch1 {E E0 : String} {ce : Cell} {q : Addr} {y x : ExceptionTableEntry} {suf : List ExceptionTableEntry} (hB : MB p s m args meth c cc nL ret RL) (htab : c.exceptionTable.toList = y :: x :: suf) (hy0 : y.catchType ≠ 0) (hly : Cond.classLink RL y.catchType E0 ∈ wAll) (hno : va_Nc E E0 s) (hx : covers x pc = true) (h0 : x.catchType ≠ 0) (hlink : Cond.classLink RL x.catchType E ∈ wAll) (hcast : va_Nw (.castable E E) s) (hcell : H[q]? = some ce) (hv : ce.vm = .none) (hcl : s.vm.findClass E = some ce.cls)
    (kk : W p l e R s m args below meth c H locs cells slots Q (F0 m x.handlerPc ls [.ref q])) : vx_W p l e R s m args below meth c H locs cells slots Q (F0 m pc ls rest) q :=
  vx_catch (name := E) hB.2.2.2.2.1 [y] x suf htab (fun z h => by rw [List.mem_singleton.mp h]; exact Or.inr ⟨hy0, E0, hB.2.2.2.2.2.1 _ hly, hno⟩) hx h0 (hB.2.2.2.2.2.1 _ hlink) (va_tabs rfl rfl hcast) hcell hv hcl kk
end OUT
def wp_L_get (ln : Nat → Nat) (u : S2) (p1 p2 : Int32) (post : Int32 → S2 → Prop) : Prop :=
  wp_X4_get ln u.1 p1 p2 (fun r σ => post 0 (σ, vp_updL u.2 (0 : Int32).toNatClampNeg r.toInt64)) (fun E σ => (E = eNS → post 1 (σ, u.2)) ∧ (E = eIO → post 2 (σ, u.2)) ∧ (E = eNS ∨ E = eIO))
set_option maxHeartbeats 4000000 in
set_option maxRecDepth 100000 in
theorem c_L_get (l : Launch) (hlt : l.stackTraces = false) (D : va_G) (ad ln : Nat → Nat) (cI cL : ClassId) (o : Nat) (u : S2) (p1 p2 : Int32) (post : Int32 → S2 → Prop) (hq : wp_L_get ln u p1 p2 post) : MtX l D (tyO cI cL) (cfO ad ln cI o cL) yL_get (wCH yL_get cL_get 5 (some .int) [(0, 10, 13, 13), (0, 10, 17, 15)]) (rmX 4) [.ref (ad 0), .int p1, .int p2, .ref o] u post (fun _ _ => False) := by
  refine MtX_ofH hlt (by decide) (Nat.le_of_ble_eq_true rfl) ?_
  intro p e s m below meth c A ls hB hX htab hw hl
  replace hB : MB p s m _ meth c cL_get 5 (some .int) RL := hB
  replace hl : lv_has ls 5 [(0, .ref (ad 0)), (1, .int p1), (2, .int p2), (3, .ref o)] := hl
  obtain ⟨hx, hb, hr, hml, hown, hts, hlk⟩ := id hB
  unfold wp_L_get at hq
  refine lv_aload_n hx hb dL_get_0 rfl (lv_at hl 3 rfl) ?_
  refine lv_iconst (v := 0) hx hb dL_get_1 (by decide) ?_
  refine lv_aload_n hx hb dL_get_2 rfl (lv_at hl 0 rfl) ?_
  refine lv_iload_n hx hb dL_get_3 rfl (lv_at hl 1 rfl) ?_
  refine lv_iload_n hx hb dL_get_4 rfl (lv_at hl 2 rfl) ?_
  refine f_cXI (cf := cellsC ad ln cI) (wr := [(o, .inl (cL, 1, .inr (.inl u.2)))]) (tys0 := tyC cI) (As := [.int p1, .int p2]) (rest := [.int 0, .ref o]) hB hX hw (hw.1.sub [0] rfl) hl.1 (c_X4_get l hlt D ad ln cI u.1 p1 p2 _ _ hq) m316 m232 m448 m187 m64 rfl ok_X4_get rfl rfl (okR_XX (by decide) (by decide)) (q0 := 0) (ci := 4) rfl rfl rfl rfl (Nat.le_of_ble_eq_true rfl) dL_get_5 ⟨by decide, by decide⟩ (fun E ce q σ H locs hp hw hc hv hcl => ?_) (fun r σ H locs hq hw => ?_)
  · obtain ⟨h1, h2, h3⟩ := hp
    rcases h3 with rfl | rfl
    · replace hq := h1 rfl
      refine w_catch0 (x := ⟨0, 10, 13, 13⟩) (suf := [⟨0, 10, 17, 15⟩]) hB htab (by decide) (by decide) m3 hX.2.2.2.2.1 hc hv hcl ?_
      refine lv_astore (lv' := [(4, .ref q), (0, .ref (ad 0)), (1, .int p1), (2, .int p2), (3, .ref o)]) hx hb dL_get_13 hl (by decide) rfl (fun ls hl => ?_)
      refine lv_iconst (v := 1) hx hb dL_get_15 (by decide) ?_
      exact w_iretX (σ := (σ, u.2)) hB hw hq (by decide) (by decide) dL_get_16
    · replace hq := h2 rfl
      refine w_catch1 (E0 := eNS) (y := ⟨0, 10, 13, 13⟩) (x := ⟨0, 10, 17, 15⟩) (suf := []) hB htab (by decide) m3 hX.2.2.2.2.2.2.2.1 (by decide) (by decide) m4 hX.2.2.2.2.2.1 hc hv hcl ?_
      refine lv_astore (lv' := [(4, .ref q), (0, .ref (ad 0)), (1, .int p1), (2, .int p2), (3, .ref o)]) hx hb dL_get_17 hl (by decide) rfl (fun ls hl => ?_)
      refine lv_iconst (v := 2) hx hb dL_get_19 (by decide) ?_
      exact w_iretX (σ := (σ, u.2)) hB hw hq (by decide) (by decide) dL_get_20
  · refine lv_i2l hx hb dL_get_8 rfl ?_
    refine w_lastO (u := (σ, u.2)) hB hw in01 dL_get_9 (fun H locs hw => ?_)
    refine lv_goto (tgt := 21) hx hb dL_get_10 (by decide) ?_
    refine lv_iconst (v := 0) hx hb dL_get_21 (by decide) ?_
    exact w_iretX hB hw hq (by decide) (by decide) dL_get_22
theorem ok_L_get : okY yL_get 4 := ⟨by decide, by decide, by decide +kernel⟩
def wp_L_set (ln : Nat → Nat) (u : S2) (p1 p2 p3 : Int32) (post : Int32 → S2 → Prop) : Prop :=
  wp_X4_set ln u.1 p1 p2 p3 (fun r σ => post 0 (σ, vp_updL u.2 (0 : Int32).toNatClampNeg r.toInt64)) (fun E σ => (E = eNS → post 1 (σ, u.2)) ∧ (E = eIO → post 2 (σ, u.2)) ∧ (E = eNS ∨ E = eIO))
set_option maxHeartbeats 4000000 in
set_option maxRecDepth 100000 in
theorem c_L_set (l : Launch) (hlt : l.stackTraces = false) (D : va_G) (ad ln : Nat → Nat) (cI cL : ClassId) (o : Nat) (u : S2) (p1 p2 p3 : Int32) (post : Int32 → S2 → Prop) (hq : wp_L_set ln u p1 p2 p3 post) : MtX l D (tyO cI cL) (cfO ad ln cI o cL) yL_set (wCH yL_set cL_set 6 (some .int) [(0, 12, 15, 13), (0, 12, 19, 15)]) (rmX 4) [.ref (ad 0), .int p1, .int p2, .int p3, .ref o] u post (fun _ _ => False) := by
  refine MtX_ofH hlt (by decide) (Nat.le_of_ble_eq_true rfl) ?_
  intro p e s m below meth c A ls hB hX htab hw hl
  replace hB : MB p s m _ meth c cL_set 6 (some .int) RL := hB
  replace hl : lv_has ls 6 [(0, .ref (ad 0)), (1, .int p1), (2, .int p2), (3, .int p3), (4, .ref o)] := hl
  obtain ⟨hx, hb, hr, hml, hown, hts, hlk⟩ := id hB
  unfold wp_L_set at hq
  refine lv_aload hx hb dL_set_0 (lv_at hl 4 rfl) ?_
  refine lv_iconst (v := 0) hx hb dL_set_2 (by decide) ?_
  refine lv_aload_n hx hb dL_set_3 rfl (lv_at hl 0 rfl) ?_
  refine lv_iload_n hx hb dL_set_4 rfl (lv_at hl 1 rfl) ?_
  refine lv_iload_n hx hb dL_set_5 rfl (lv_at hl 2 rfl) ?_
  refine lv_iload_n hx hb dL_set_6 rfl (lv_at hl 3 rfl) ?_
  refine f_cXI (cf := cellsC ad ln cI) (wr := [(o, .inl (cL, 1, .inr (.inl u.2)))]) (tys0 := tyC cI) (As := [.int p1, .int p2, .int p3]) (rest := [.int 0, .ref o]) hB hX hw (hw.1.sub [0] rfl) hl.1 (c_X4_set l hlt D ad ln cI u.1 p1 p2 p3 _ _ hq) m297 m244 m459 m187 m77 rfl ok_X4_set rfl rfl (okR_XX (by decide) (by decide)) (q0 := 0) (ci := 4) rfl rfl rfl rfl (Nat.le_of_ble_eq_true rfl) dL_set_7 ⟨by decide, by decide⟩ (fun E ce q σ H locs hp hw hc hv hcl => ?_) (fun r σ H locs hq hw => ?_)
  · obtain ⟨h1, h2, h3⟩ := hp
    rcases h3 with rfl | rfl
    · replace hq := h1 rfl
      refine w_catch0 (x := ⟨0, 12, 15, 13⟩) (suf := [⟨0, 12, 19, 15⟩]) hB htab (by decide) (by decide) m3 hX.2.2.2.2.1 hc hv hcl ?_
      refine lv_astore (lv' := [(5, .ref q), (0, .ref (ad 0)), (1, .int p1), (2, .int p2), (3, .int p3), (4, .ref o)]) hx hb dL_set_15 hl (by decide) rfl (fun ls hl => ?_)
      refine lv_iconst (v := 1) hx hb dL_set_17 (by decide) ?_
      exact w_iretX (σ := (σ, u.2)) hB hw hq (by decide) (by decide) dL_set_18
    · replace hq := h2 rfl
      refine w_catch1 (E0 := eNS) (y := ⟨0, 12, 15, 13⟩) (x := ⟨0, 12, 19, 15⟩) (suf := []) hB htab (by decide) m3 hX.2.2.2.2.2.2.2.1 (by decide) (by decide) m4 hX.2.2.2.2.2.1 hc hv hcl ?_
      refine lv_astore (lv' := [(5, .ref q), (0, .ref (ad 0)), (1, .int p1), (2, .int p2), (3, .int p3), (4, .ref o)]) hx hb dL_set_19 hl (by decide) rfl (fun ls hl => ?_)
      refine lv_iconst (v := 2) hx hb dL_set_21 (by decide) ?_
      exact w_iretX (σ := (σ, u.2)) hB hw hq (by decide) (by decide) dL_set_22
  · refine lv_i2l hx hb dL_set_10 rfl ?_
    refine w_lastO (u := (σ, u.2)) hB hw in01 dL_set_11 (fun H locs hw => ?_)
    refine lv_goto (tgt := 23) hx hb dL_set_12 (by decide) ?_
    refine lv_iconst (v := 0) hx hb dL_set_23 (by decide) ?_
    exact w_iretX hB hw hq (by decide) (by decide) dL_set_24
theorem ok_L_set : okY yL_set 5 := ⟨by decide, by decide, by decide +kernel⟩
def wp_L_branch (ln : Nat → Nat) (u : S2) (p1 p2 : Int32) (post : Int32 → S2 → Prop) : Prop :=
  wp_X4_branch ln u.1 p1 p2 (fun r σ => post 0 (σ, vp_updL u.2 (0 : Int32).toNatClampNeg r.toInt64)) (fun E σ => (E = eNS → post 1 (σ, u.2)) ∧ (E = eIA → post 2 (σ, u.2)) ∧ (E = eNS ∨ E = eIA))
set_option maxHeartbeats 4000000 in
set_option maxRecDepth 100000 in
theorem c_L_branch (l : Launch) (hlt : l.stackTraces = false) (D : va_G) (ad ln : Nat → Nat) (cI cL : ClassId) (o : Nat) (u : S2) (p1 p2 : Int32) (post : Int32 → S2 → Prop) (hq : wp_L_branch ln u p1 p2 post) : MtX l D (tyO cI cL) (cfO ad ln cI o cL) yL_branch (wCH yL_branch cL_branch 5 (some .int) [(0, 10, 13, 13), (0, 10, 17, 24)]) (rmX 3) [.ref (ad 0), .int p1, .int p2, .ref o] u post (fun _ _ => False) := by
  refine MtX_ofH hlt (by decide) (Nat.le_of_ble_eq_true rfl) ?_
  intro p e s m below meth c A ls hB hX htab hw hl
  replace hB : MB p s m _ meth c cL_branch 5 (some .int) RL := hB
  replace hl : lv_has ls 5 [(0, .ref (ad 0)), (1, .int p1), (2, .int p2), (3, .ref o)] := hl
  obtain ⟨hx, hb, hr, hml, hown, hts, hlk⟩ := id hB
  unfold wp_L_branch at hq
  refine lv_aload_n hx hb dL_branch_0 rfl (lv_at hl 3 rfl) ?_
  refine lv_iconst (v := 0) hx hb dL_branch_1 (by decide) ?_
  refine lv_aload_n hx hb dL_branch_2 rfl (lv_at hl 0 rfl) ?_
  refine lv_iload_n hx hb dL_branch_3 rfl (lv_at hl 1 rfl) ?_
  refine lv_iload_n hx hb dL_branch_4 rfl (lv_at hl 2 rfl) ?_
  refine f_cXI (cf := cellsC ad ln cI) (wr := [(o, .inl (cL, 1, .inr (.inl u.2)))]) (tys0 := tyC cI) (As := [.int p1, .int p2]) (rest := [.int 0, .ref o]) hB hX hw (hw.1.sub [0] rfl) hl.1 (c_X4_branch l hlt D ad ln cI u.1 p1 p2 _ _ hq) m298 m226 m442 m187 m58 rfl ok_X4_branch rfl rfl (okR_XX (by decide) (by decide)) (q0 := 0) (ci := 4) rfl rfl rfl rfl (Nat.le_of_ble_eq_true rfl) dL_branch_5 ⟨by decide, by decide⟩ (fun E ce q σ H locs hp hw hc hv hcl => ?_) (fun r σ H locs hq hw => ?_)
  · obtain ⟨h1, h2, h3⟩ := hp
    rcases h3 with rfl | rfl
    · replace hq := h1 rfl
      refine w_catch0 (x := ⟨0, 10, 13, 13⟩) (suf := [⟨0, 10, 17, 24⟩]) hB htab (by decide) (by decide) m3 hX.2.2.2.2.1 hc hv hcl ?_
      refine lv_astore (lv' := [(4, .ref q), (0, .ref (ad 0)), (1, .int p1), (2, .int p2), (3, .ref o)]) hx hb dL_branch_13 hl (by decide) rfl (fun ls hl => ?_)
      refine lv_iconst (v := 1) hx hb dL_branch_15 (by decide) ?_
      exact w_iretX (σ := (σ, u.2)) hB hw hq (by decide) (by decide) dL_branch_16
    · replace hq := h2 rfl
      refine w_catch1 (E0 := eNS) (y := ⟨0, 10, 13, 13⟩) (x := ⟨0, 10, 17, 24⟩) (suf := []) hB htab (by decide) m3 hX.2.2.2.2.2.2.2.2.1 (by decide) (by decide) m5 hX.2.2.2.2.2.2.1 hc hv hcl ?_
      refine lv_astore (lv' := [(4, .ref q), (0, .ref (ad 0)), (1, .int p1), (2, .int p2), (3, .ref o)]) hx hb dL_branch_17 hl (by decide) rfl (fun ls hl => ?_)
      refine lv_iconst (v := 2) hx hb dL_branch_19 (by decide) ?_
      exact w_iretX (σ := (σ, u.2)) hB hw hq (by decide) (by decide) dL_branch_20
  · refine lv_i2l hx hb dL_branch_8 rfl ?_
    refine w_lastO (u := (σ, u.2)) hB hw in01 dL_branch_9 (fun H locs hw => ?_)
    refine lv_goto (tgt := 21) hx hb dL_branch_10 (by decide) ?_
    refine lv_iconst (v := 0) hx hb dL_branch_21 (by decide) ?_
    exact w_iretX hB hw hq (by decide) (by decide) dL_branch_22
theorem ok_L_branch : okY yL_branch 4 := ⟨by decide, by decide, by decide +kernel⟩
def wp_L_move (ln : Nat → Nat) (u : S2) (p1 p2 : Int32) (post : Int32 → S2 → Prop) : Prop :=
  wp_X4_move ln u.1 p1 p2 (fun r σ => post 0 (σ, vp_updL u.2 (0 : Int32).toNatClampNeg r.toInt64)) (fun E σ => (E = eIO → post 1 (σ, u.2)) ∧ (E = eIA → post 2 (σ, u.2)) ∧ (E = eIO ∨ E = eIA))
set_option maxHeartbeats 4000000 in
set_option maxRecDepth 100000 in
theorem c_L_move (l : Launch) (hlt : l.stackTraces = false) (D : va_G) (ad ln : Nat → Nat) (cI cL : ClassId) (o : Nat) (u : S2) (p1 p2 : Int32) (post : Int32 → S2 → Prop) (hq : wp_L_move ln u p1 p2 post) : MtX l D (tyO cI cL) (cfO ad ln cI o cL) yL_move (wCH yL_move cL_move 5 (some .int) [(0, 10, 13, 15), (0, 10, 17, 24)]) (rmX 1) [.ref (ad 0), .int p1, .int p2, .ref o] u post (fun _ _ => False) := by
  refine MtX_ofH hlt (by decide) (Nat.le_of_ble_eq_true rfl) ?_
  intro p e s m below meth c A ls hB hX htab hw hl
  replace hB : MB p s m _ meth c cL_move 5 (some .int) RL := hB
  replace hl : lv_has ls 5 [(0, .ref (ad 0)), (1, .int p1), (2, .int p2), (3, .ref o)] := hl
  obtain ⟨hx, hb, hr, hml, hown, hts, hlk⟩ := id hB
  unfold wp_L_move at hq
  refine lv_aload_n hx hb dL_move_0 rfl (lv_at hl 3 rfl) ?_
  refine lv_iconst (v := 0) hx hb dL_move_1 (by decide) ?_
  refine lv_aload_n hx hb dL_move_2 rfl (lv_at hl 0 rfl) ?_
  refine lv_iload_n hx hb dL_move_3 rfl (lv_at hl 1 rfl) ?_
  refine lv_iload_n hx hb dL_move_4 rfl (lv_at hl 2 rfl) ?_
  refine f_cXI (cf := cellsC ad ln cI) (wr := [(o, .inl (cL, 1, .inr (.inl u.2)))]) (tys0 := tyC cI) (As := [.int p1, .int p2]) (rest := [.int 0, .ref o]) hB hX hw (hw.1.sub [0] rfl) hl.1 (c_X4_move l hlt D ad ln cI u.1 p1 p2 _ _ hq) m299 m240 m455 m187 m72 rfl ok_X4_move rfl rfl (okR_XX (by decide) (by decide)) (q0 := 0) (ci := 4) rfl rfl rfl rfl (Nat.le_of_ble_eq_true rfl) dL_move_5 ⟨by decide, by decide⟩ (fun E ce q σ H locs hp hw hc hv hcl => ?_) (fun r σ H locs hq hw => ?_)
  · obtain ⟨h1, h2, h3⟩ := hp
    rcases h3 with rfl | rfl
    · replace hq := h1 rfl
      refine w_catch0 (x := ⟨0, 10, 13, 15⟩) (suf := [⟨0, 10, 17, 24⟩]) hB htab (by decide) (by decide) m4 hX.2.2.2.2.2.1 hc hv hcl ?_
      refine lv_astore (lv' := [(4, .ref q), (0, .ref (ad 0)), (1, .int p1), (2, .int p2), (3, .ref o)]) hx hb dL_move_13 hl (by decide) rfl (fun ls hl => ?_)
      refine lv_iconst (v := 1) hx hb dL_move_15 (by decide) ?_
      exact w_iretX (σ := (σ, u.2)) hB hw hq (by decide) (by decide) dL_move_16
    · replace hq := h2 rfl
      refine w_catch1 (E0 := eIO) (y := ⟨0, 10, 13, 15⟩) (x := ⟨0, 10, 17, 24⟩) (suf := []) hB htab (by decide) m4 hX.2.2.2.2.2.2.2.2.2.1 (by decide) (by decide) m5 hX.2.2.2.2.2.2.1 hc hv hcl ?_
      refine lv_astore (lv' := [(4, .ref q), (0, .ref (ad 0)), (1, .int p1), (2, .int p2), (3, .ref o)]) hx hb dL_move_17 hl (by decide) rfl (fun ls hl => ?_)
      refine lv_iconst (v := 2) hx hb dL_move_19 (by decide) ?_
      exact w_iretX (σ := (σ, u.2)) hB hw hq (by decide) (by decide) dL_move_20
  · refine lv_i2l hx hb dL_move_8 rfl ?_
    refine w_lastO (u := (σ, u.2)) hB hw in01 dL_move_9 (fun H locs hw => ?_)
    refine lv_goto (tgt := 21) hx hb dL_move_10 (by decide) ?_
    refine lv_iconst (v := 0) hx hb dL_move_21 (by decide) ?_
    exact w_iretX hB hw hq (by decide) (by decide) dL_move_22
theorem ok_L_move : okY yL_move 4 := ⟨by decide, by decide, by decide +kernel⟩
