/-! X4_payloadWord -/
def wp_X4_payloadWord (ln : Nat → Nat) (σ : CS) (p1 p2 : Int32) (post : Int32 → CS → Prop) (postX : String → CS → Prop) : Prop :=
  wp_X2_liveIndex ln σ p1 (fun r2 σ1 => ((¬ r2 = (-1) → ((p2 < 0 → postX eIO σ1) ∧ (¬ p2 < 0 → (vp_in r2 (ln 4) ∧ ((p2 < (((σ1.2 4) r2.toNatClampNeg) - 1) → post (p1 + p2) σ1) ∧ (¬ p2 < (((σ1.2 4) r2.toNatClampNeg) - 1) → postX eIO σ1)))))) ∧ (r2 = (-1) → postX eNS σ1)))
set_option maxHeartbeats 4000000 in
set_option maxRecDepth 100000 in
theorem c_X4_payloadWord (l : Launch) (hlt : l.stackTraces = false) (D : va_G) (ad ln : Nat → Nat) (cI : ClassId) (σ : CS) (p1 p2 : Int32) (post : Int32 → CS → Prop) (postX : String → CS → Prop) (hq : wp_X4_payloadWord ln σ p1 p2 post postX) : MtX l D (tyC cI) (cellsC ad ln cI) yX4_payloadWord (wCX yX4_payloadWord cX4_payloadWord 4 (some .int)) (rmX 2) [.ref (ad 0), .int p1, .int p2] σ post postX := by
  refine MtX_of hlt (by decide) (Nat.le_of_ble_eq_true rfl) ?_
  intro p e s m below meth c A ls hB hX htab hw hl
  replace hB : MB p s m _ meth c cX4_payloadWord 4 (some .int) RX4 := hB
  replace hl : lv_has ls 4 [(0, .ref (ad 0)), (1, .int p1), (2, .int p2)] := hl
  obtain ⟨hx, hb, hr, hml, hown, hts, hlk⟩ := id hB
  unfold wp_X4_payloadWord at hq
  refine lv_aload_n hx hb dX4_payloadWord_0 rfl (lv_at hl 0 rfl) ?_
  refine gC_0_1 hB hw m152 dX4_payloadWord_1 ?_
  refine lv_iload_n hx hb dX4_payloadWord_4 rfl (lv_at hl 1 rfl) ?_
  refine w_cVI (As := [.int p1]) (rest := []) hB hw hl.1 (c_X2_liveIndex l D ad ln cI σ p1 _ hq) m381 m214 m431 m185 m46 rfl ok_X2_liveIndex (okR_KX (by decide) (by decide)) (q0 := 2) (ci := 2) rfl rfl rfl rfl (Nat.le_of_ble_eq_true rfl) dX4_payloadWord_5 (fun r2 σ1 H locs hq hw => ?_)
  refine lv_istore_n (lv' := [(3, .int r2), (0, .ref (ad 0)), (1, .int p1), (2, .int p2)]) hx hb dX4_payloadWord_8 rfl hl (by decide) rfl (fun ls hl => ?_)
  refine lv_iload_n hx hb dX4_payloadWord_9 rfl (lv_at hl 0 rfl) ?_
  refine lv_iconst (v := (-1)) hx hb dX4_payloadWord_10 (by decide) ?_
  refine lv_icmp_ne (tgt := 24) hx hb dX4_payloadWord_11 (by decide) (fun c3 => ?_) (fun c3 => ?_)
  · replace hq := hq.1 c3
    refine lv_iload_n hx hb dX4_payloadWord_24 rfl (lv_at hl 3 rfl) ?_
    refine lv_if_lt (tgt := 43) hx hb dX4_payloadWord_25 (by decide) (fun c4 => ?_) (fun c4 => ?_)
    · replace hq := hq.1 c4
      exact w_throw (E := eIO) hB hX htab hw hl.1 (by decide) m11 m177 wX_2 wX_n2 hX.2.2.2.2.2.1 wX_o2 (by decide) dX4_payloadWord_43 dX4_payloadWord_46 dX4_payloadWord_47 dX4_payloadWord_49 dX4_payloadWord_52 (by decide) (Nat.le_of_ble_eq_true rfl) (by decide) (by decide) hq
    · replace hq := hq.2 c4
      refine lv_iload_n hx hb dX4_payloadWord_28 rfl (lv_at hl 3 rfl) ?_
      refine lv_aload_n hx hb dX4_payloadWord_29 rfl (lv_at hl 1 rfl) ?_
      refine gC_0_1 hB hw m152 dX4_payloadWord_30 ?_
      refine gC_2_1 hB hw m156 dX4_payloadWord_33 ?_
      refine lv_iload_n hx hb dX4_payloadWord_36 rfl (lv_at hl 0 rfl) ?_
      obtain ⟨h5, hq⟩ := hq
      refine aC_4 (f := (σ1.2 4)) hB hw rfl h5 dX4_payloadWord_37 ?_
      refine lv_iconst (v := 1) hx hb dX4_payloadWord_38 (by decide) ?_
      refine lv_isub hx hb dX4_payloadWord_39 ?_
      refine lv_icmp_lt (tgt := 53) hx hb dX4_payloadWord_40 (by decide) (fun c6 => ?_) (fun c6 => ?_)
      · replace hq := hq.1 c6
        refine lv_iload_n hx hb dX4_payloadWord_53 rfl (lv_at hl 2 rfl) ?_
        refine lv_iload_n hx hb dX4_payloadWord_54 rfl (lv_at hl 3 rfl) ?_
        refine lv_iadd hx hb dX4_payloadWord_55 ?_
        exact w_iretX hB hw hq (by decide) (by decide) dX4_payloadWord_56
      · replace hq := hq.2 c6
        exact w_throw (E := eIO) hB hX htab hw hl.1 (by decide) m11 m177 wX_2 wX_n2 hX.2.2.2.2.2.1 wX_o2 (by decide) dX4_payloadWord_43 dX4_payloadWord_46 dX4_payloadWord_47 dX4_payloadWord_49 dX4_payloadWord_52 (by decide) (Nat.le_of_ble_eq_true rfl) (by decide) (by decide) hq
  · replace hq := hq.2 c3
    exact w_throwN hB hX htab hw hl.1 m9 m180 (by decide) dX4_payloadWord_14 dX4_payloadWord_17 dX4_payloadWord_18 dX4_payloadWord_20 dX4_payloadWord_23 (by decide) (Nat.le_of_ble_eq_true rfl) (by decide) (by decide) hq
theorem ok_X4_payloadWord : okY yX4_payloadWord 2 := ⟨by decide, by decide, by decide +kernel⟩
/-! X4_get -/
def wp_X4_get (ln : Nat → Nat) (σ : CS) (p1 p2 : Int32) (post : Int32 → CS → Prop) (postX : String → CS → Prop) : Prop :=
  wp_X4_payloadWord ln σ p1 p2 (fun r2 σ1 => (vp_in r2 (ln 1) ∧ post ((σ1.2 1) r2.toNatClampNeg) σ1)) postX
set_option maxHeartbeats 4000000 in
set_option maxRecDepth 100000 in
theorem c_X4_get (l : Launch) (hlt : l.stackTraces = false) (D : va_G) (ad ln : Nat → Nat) (cI : ClassId) (σ : CS) (p1 p2 : Int32) (post : Int32 → CS → Prop) (postX : String → CS → Prop) (hq : wp_X4_get ln σ p1 p2 post postX) : MtX l D (tyC cI) (cellsC ad ln cI) yX4_get (wCX yX4_get cX4_get 3 (some .int)) (rmX 3) [.ref (ad 0), .int p1, .int p2] σ post postX := by
  refine MtX_of hlt (by decide) (Nat.le_of_ble_eq_true rfl) ?_
  intro p e s m below meth c A ls hB hX htab hw hl
  replace hB : MB p s m _ meth c cX4_get 3 (some .int) RX4 := hB
  replace hl : lv_has ls 3 [(0, .ref (ad 0)), (1, .int p1), (2, .int p2)] := hl
  obtain ⟨hx, hb, hr, hml, hown, hts, hlk⟩ := id hB
  unfold wp_X4_get at hq
  refine lv_aload_n hx hb dX4_get_0 rfl (lv_at hl 0 rfl) ?_
  refine gC_0_0 hB hw m151 dX4_get_1 ?_
  refine lv_aload_n hx hb dX4_get_4 rfl (lv_at hl 0 rfl) ?_
  refine lv_iload_n hx hb dX4_get_5 rfl (lv_at hl 1 rfl) ?_
  refine lv_iload_n hx hb dX4_get_6 rfl (lv_at hl 2 rfl) ?_
  refine w_cXI (As := [.int p1, .int p2]) (rest := [.ref (ad 1)]) hB hX hw hl.1 (c_X4_payloadWord l hlt D ad ln cI σ p1 p2 _ _ hq) m390 m242 m457 m187 m75 rfl ok_X4_payloadWord rfl rfl (okR_XX (by decide) (by decide)) (q0 := 0) (ci := 4) rfl rfl rfl rfl (Nat.le_of_ble_eq_true rfl) dX4_get_7 ⟨by decide, by decide⟩ (fun E ce q σx H locs hp hw hc hv hcl => w_outX hB htab hw hc hv hcl hp (by decide) (by decide)) (fun r2 σ1 H locs hq hw => ?_)
  obtain ⟨h3, hq⟩ := hq
  refine aC_1 (f := (σ1.2 1)) hB hw rfl h3 dX4_get_10 ?_
  exact w_iretX hB hw hq (by decide) (by decide) dX4_get_11
theorem ok_X4_get : okY yX4_get 2 := ⟨by decide, by decide, by decide +kernel⟩
/-! X4_set -/
def wp_X4_set (ln : Nat → Nat) (σ : CS) (p1 p2 p3 : Int32) (post : Int32 → CS → Prop) (postX : String → CS → Prop) : Prop :=
  wp_X4_payloadWord ln σ p1 p2 (fun r2 σ1 => (vp_in r2 (ln 1) ∧ post ((σ1.2 1) r2.toNatClampNeg) (setA σ1 1 r2.toNatClampNeg p3))) postX
set_option maxHeartbeats 4000000 in
set_option maxRecDepth 100000 in
theorem c_X4_set (l : Launch) (hlt : l.stackTraces = false) (D : va_G) (ad ln : Nat → Nat) (cI : ClassId) (σ : CS) (p1 p2 p3 : Int32) (post : Int32 → CS → Prop) (postX : String → CS → Prop) (hq : wp_X4_set ln σ p1 p2 p3 post postX) : MtX l D (tyC cI) (cellsC ad ln cI) yX4_set (wCX yX4_set cX4_set 6 (some .int)) (rmX 3) [.ref (ad 0), .int p1, .int p2, .int p3] σ post postX := by
  refine MtX_of hlt (by decide) (Nat.le_of_ble_eq_true rfl) ?_
  intro p e s m below meth c A ls hB hX htab hw hl
  replace hB : MB p s m _ meth c cX4_set 6 (some .int) RX4 := hB
  replace hl : lv_has ls 6 [(0, .ref (ad 0)), (1, .int p1), (2, .int p2), (3, .int p3)] := hl
  obtain ⟨hx, hb, hr, hml, hown, hts, hlk⟩ := id hB
  unfold wp_X4_set at hq
  refine lv_aload_n hx hb dX4_set_0 rfl (lv_at hl 0 rfl) ?_
  refine lv_iload_n hx hb dX4_set_1 rfl (lv_at hl 1 rfl) ?_
  refine lv_iload_n hx hb dX4_set_2 rfl (lv_at hl 2 rfl) ?_
  refine w_cXI (As := [.int p1, .int p2]) (rest := []) hB hX hw hl.1 (c_X4_payloadWord l hlt D ad ln cI σ p1 p2 _ _ hq) m390 m242 m457 m187 m75 rfl ok_X4_payloadWord rfl rfl (okR_XX (by decide) (by decide)) (q0 := 0) (ci := 4) rfl rfl rfl rfl (Nat.le_of_ble_eq_true rfl) dX4_set_3 ⟨by decide, by decide⟩ (fun E ce q σx H locs hp hw hc hv hcl => w_outX hB htab hw hc hv hcl hp (by decide) (by decide)) (fun r2 σ1 H locs hq hw => ?_)
  refine lv_istore (lv' := [(4, .int r2), (0, .ref (ad 0)), (1, .int p1), (2, .int p2), (3, .int p3)]) hx hb dX4_set_6 hl (by decide) rfl (fun ls hl => ?_)
  refine lv_aload_n hx hb dX4_set_8 rfl (lv_at hl 1 rfl) ?_
  refine gC_0_0 hB hw m151 dX4_set_9 ?_
  refine lv_iload hx hb dX4_set_12 (lv_at hl 0 rfl) ?_
  obtain ⟨h3, hq⟩ := hq
  refine aC_1 (f := (σ1.2 1)) hB hw rfl h3 dX4_set_14 ?_
  refine lv_istore (lv' := [(5, .int ((σ1.2 1) r2.toNatClampNeg)), (4, .int r2), (0, .ref (ad 0)), (1, .int p1), (2, .int p2), (3, .int p3)]) hx hb dX4_set_15 hl (by decide) rfl (fun ls hl => ?_)
  refine lv_aload_n hx hb dX4_set_17 rfl (lv_at hl 2 rfl) ?_
  refine gC_0_0 hB hw m151 dX4_set_18 ?_
  refine lv_iload hx hb dX4_set_21 (lv_at hl 1 rfl) ?_
  refine lv_iload_n hx hb dX4_set_23 rfl (lv_at hl 5 rfl) ?_
  refine sC_1 hB hw h3 dX4_set_24 (fun H locs hw => ?_)
  refine lv_iload hx hb dX4_set_25 (lv_at hl 0 rfl) ?_
  exact w_iretX hB hw hq (by decide) (by decide) dX4_set_27
theorem ok_X4_set : okY yX4_set 3 := ⟨by decide, by decide, by decide +kernel⟩
/-! X4_branch -/
def wp_X4_branch (ln : Nat → Nat) (σ : CS) (p1 p2 : Int32) (post : Int32 → CS → Prop) (postX : String → CS → Prop) : Prop :=
  wp_X2_freeIndex ln σ p1 (fun r2 σ1 => ((¬ r2 = (-1) → ((p2 = 0 → wp_X3_topToTheLeft ln σ1 r2 (fun r6 σ5 => post r6 σ5)) ∧ ((p2 = 1 → wp_X3_topToTheRight ln σ1 r2 (fun r9 σ8 => post r9 σ8)) ∧ ((p2 = 2 → (vp_in r2 (ln 4) ∧ post ((σ1.2 4) r2.toNatClampNeg) σ1)) ∧ ((¬ p2 = 0 ∧ ¬ p2 = 1 ∧ ¬ p2 = 2) → postX eIA σ1))))) ∧ (r2 = (-1) → postX eNS σ1)))
set_option maxHeartbeats 4000000 in
set_option maxRecDepth 100000 in
theorem c_X4_branch (l : Launch) (hlt : l.stackTraces = false) (D : va_G) (ad ln : Nat → Nat) (cI : ClassId) (σ : CS) (p1 p2 : Int32) (post : Int32 → CS → Prop) (postX : String → CS → Prop) (hq : wp_X4_branch ln σ p1 p2 post postX) : MtX l D (tyC cI) (cellsC ad ln cI) yX4_branch (wCX yX4_branch cX4_branch 4 (some .int)) (rmX 2) [.ref (ad 0), .int p1, .int p2] σ post postX := by
  refine MtX_of hlt (by decide) (Nat.le_of_ble_eq_true rfl) ?_
  intro p e s m below meth c A ls hB hX htab hw hl
  replace hB : MB p s m _ meth c cX4_branch 4 (some .int) RX4 := hB
  replace hl : lv_has ls 4 [(0, .ref (ad 0)), (1, .int p1), (2, .int p2)] := hl
  obtain ⟨hx, hb, hr, hml, hown, hts, hlk⟩ := id hB
  unfold wp_X4_branch at hq
  refine lv_aload_n hx hb dX4_branch_0 rfl (lv_at hl 0 rfl) ?_
  refine gC_0_1 hB hw m152 dX4_branch_1 ?_
  refine lv_iload_n hx hb dX4_branch_4 rfl (lv_at hl 1 rfl) ?_
  refine w_cVI (As := [.int p1]) (rest := []) hB hw hl.1 (c_X2_freeIndex l D ad ln cI σ p1 _ hq) m362 m206 m424 m185 m38 rfl ok_X2_freeIndex (okR_KX (by decide) (by decide)) (q0 := 2) (ci := 2) rfl rfl rfl rfl (Nat.le_of_ble_eq_true rfl) dX4_branch_5 (fun r2 σ1 H locs hq hw => ?_)
  refine lv_istore_n (lv' := [(3, .int r2), (0, .ref (ad 0)), (1, .int p1), (2, .int p2)]) hx hb dX4_branch_8 rfl hl (by decide) rfl (fun ls hl => ?_)
  refine lv_iload_n hx hb dX4_branch_9 rfl (lv_at hl 0 rfl) ?_
  refine lv_iconst (v := (-1)) hx hb dX4_branch_10 (by decide) ?_
  refine lv_icmp_ne (tgt := 24) hx hb dX4_branch_11 (by decide) (fun c3 => ?_) (fun c3 => ?_)
  · replace hq := hq.1 c3
    refine lv_iload_n hx hb dX4_branch_24 rfl (lv_at hl 3 rfl) ?_
    rcases Decidable.em (p2 = 0) with c4 | c4
    · replace hq := hq.1 c4
      refine lv_tableIn (off := 27) (tgt := 52) hx hb dX4_branch_25 (by rw [c4]; decide) (by rw [c4]; decide) (by rw [c4]; rfl) (by decide) ?_
      refine lv_aload_n hx hb dX4_branch_52 rfl (lv_at hl 1 rfl) ?_
      refine gC_0_2 hB hw m153 dX4_branch_53 ?_
      refine lv_iload_n hx hb dX4_branch_56 rfl (lv_at hl 0 rfl) ?_
      refine w_cVI (As := [.int r2]) (rest := []) hB hw hl.1 (c_X3_topToTheLeft l D ad ln cI σ1 r2 _ hq) m363 m222 m438 m186 m54 rfl ok_X3_topToTheLeft (okR_KX (by decide) (by decide)) (q0 := 6) (ci := 3) rfl rfl rfl rfl (Nat.le_of_ble_eq_true rfl) dX4_branch_57 (fun r6 σ5 H locs hq hw => ?_)
      exact w_iretX hB hw hq (by decide) (by decide) dX4_branch_60
    replace hq := hq.2
    rcases Decidable.em (p2 = 1) with c7 | c7
    · replace hq := hq.1 c7
      refine lv_tableIn (off := 36) (tgt := 61) hx hb dX4_branch_25 (by rw [c7]; decide) (by rw [c7]; decide) (by rw [c7]; rfl) (by decide) ?_
      refine lv_aload_n hx hb dX4_branch_61 rfl (lv_at hl 1 rfl) ?_
      refine gC_0_2 hB hw m153 dX4_branch_62 ?_
      refine lv_iload_n hx hb dX4_branch_65 rfl (lv_at hl 0 rfl) ?_
      refine w_cVI (As := [.int r2]) (rest := []) hB hw hl.1 (c_X3_topToTheRight l D ad ln cI σ1 r2 _ hq) m364 m223 m439 m186 m55 rfl ok_X3_topToTheRight (okR_KX (by decide) (by decide)) (q0 := 6) (ci := 3) rfl rfl rfl rfl (Nat.le_of_ble_eq_true rfl) dX4_branch_66 (fun r9 σ8 H locs hq hw => ?_)
      exact w_iretX hB hw hq (by decide) (by decide) dX4_branch_69
    replace hq := hq.2
    rcases Decidable.em (p2 = 2) with c10 | c10
    · replace hq := hq.1 c10
      refine lv_tableIn (off := 45) (tgt := 70) hx hb dX4_branch_25 (by rw [c10]; decide) (by rw [c10]; decide) (by rw [c10]; rfl) (by decide) ?_
      refine lv_aload_n hx hb dX4_branch_70 rfl (lv_at hl 1 rfl) ?_
      refine gC_0_1 hB hw m152 dX4_branch_71 ?_
      refine gC_2_1 hB hw m156 dX4_branch_74 ?_
      refine lv_iload_n hx hb dX4_branch_77 rfl (lv_at hl 0 rfl) ?_
      obtain ⟨h11, hq⟩ := hq
      refine aC_4 (f := (σ1.2 4)) hB hw rfl h11 dX4_branch_78 ?_
      exact w_iretX hB hw hq (by decide) (by decide) dX4_branch_79
    replace hq := hq.2
    replace hq := hq ⟨c4, c7, c10⟩
    refine lv_tableOut (tgt := 80) hx hb dX4_branch_25 (sw_out3 c4 c7 c10) (by decide) ?_
    exact w_throw (E := eIA) hB hX htab hw hl.1 (by decide) m10 m176 wX_3 wX_n3 hX.2.2.2.2.2.2.1 wX_o3 (by decide) dX4_branch_80 dX4_branch_83 dX4_branch_84 dX4_branch_86 dX4_branch_89 (by decide) (Nat.le_of_ble_eq_true rfl) (by decide) (by decide) hq
  · replace hq := hq.2 c3
    exact w_throwN hB hX htab hw hl.1 m9 m180 (by decide) dX4_branch_14 dX4_branch_17 dX4_branch_18 dX4_branch_20 dX4_branch_23 (by decide) (Nat.le_of_ble_eq_true rfl) (by decide) (by decide) hq
theorem ok_X4_branch : okY yX4_branch 2 := ⟨by decide, by decide, by decide +kernel⟩
/-! X4_move -/
def wp_X4_move (ln : Nat → Nat) (σ : CS) (p1 p2 : Int32) (post : Int32 → CS → Prop) (postX : String → CS → Prop) : Prop :=
  ((p1 < 0 → postX eIO σ) ∧ (¬ p1 < 0 → ((p1 < (σ.1 4) → ((p2 = 0 → ((¬ p2 = 0 → (vp_in p1 (ln 12) ∧ post ((σ.2 12) p1.toNatClampNeg) σ)) ∧ (p2 = 0 → (vp_in p1 (ln 11) ∧ post ((σ.2 11) p1.toNatClampNeg) σ)))) ∧ (¬ p2 = 0 → ((p2 = 1 → ((¬ p2 = 0 → (vp_in p1 (ln 12) ∧ post ((σ.2 12) p1.toNatClampNeg) σ)) ∧ (p2 = 0 → (vp_in p1 (ln 11) ∧ post ((σ.2 11) p1.toNatClampNeg) σ)))) ∧ (¬ p2 = 1 → postX eIA σ))))) ∧ (¬ p1 < (σ.1 4) → postX eIO σ))))
set_option maxHeartbeats 4000000 in
set_option maxRecDepth 100000 in
theorem c_X4_move (l : Launch) (hlt : l.stackTraces = false) (D : va_G) (ad ln : Nat → Nat) (cI : ClassId) (σ : CS) (p1 p2 : Int32) (post : Int32 → CS → Prop) (postX : String → CS → Prop) (hq : wp_X4_move ln σ p1 p2 post postX) : MtX l D (tyC cI) (cellsC ad ln cI) yX4_move (wCX yX4_move cX4_move 4 (some .int)) (rmX 0) [.ref (ad 0), .int p1, .int p2] σ post postX := by
  refine MtX_of hlt (by decide) (Nat.le_of_ble_eq_true rfl) ?_
  intro p e s m below meth c A ls hB hX htab hw hl
  replace hB : MB p s m _ meth c cX4_move 4 (some .int) RX4 := hB
  replace hl : lv_has ls 4 [(0, .ref (ad 0)), (1, .int p1), (2, .int p2)] := hl
  obtain ⟨hx, hb, hr, hml, hown, hts, hlk⟩ := id hB
  unfold wp_X4_move at hq
  refine lv_aload_n hx hb dX4_move_0 rfl (lv_at hl 0 rfl) ?_
  refine gC_0_3 hB hw m154 dX4_move_1 ?_
  refine gC_9_0 hB hw m143 dX4_move_4 ?_
  refine lv_astore_n (lv' := [(3, .ref (ad 10)), (0, .ref (ad 0)), (1, .int p1), (2, .int p2)]) hx hb dX4_move_7 rfl hl (by decide) rfl (fun ls hl => ?_)
  refine lv_iload_n hx hb dX4_move_8 rfl (lv_at hl 2 rfl) ?_
  refine lv_if_lt (tgt := 20) hx hb dX4_move_9 (by decide) (fun c1 => ?_) (fun c1 => ?_)
  · replace hq := hq.1 c1
    exact w_throw (E := eIO) hB hX htab hw hl.1 (by decide) m11 m177 wX_2 wX_n2 hX.2.2.2.2.2.1 wX_o2 (by decide) dX4_move_20 dX4_move_23 dX4_move_24 dX4_move_26 dX4_move_29 (by decide) (Nat.le_of_ble_eq_true rfl) (by decide) (by decide) hq
  · replace hq := hq.2 c1
    refine lv_iload_n hx hb dX4_move_12 rfl (lv_at hl 2 rfl) ?_
    refine lv_aload_n hx hb dX4_move_13 rfl (lv_at hl 0 rfl) ?_
    refine gC_10_2 (x := σ.1 4) hB hw m144 rfl dX4_move_14 ?_
    refine lv_icmp_lt (tgt := 30) hx hb dX4_move_17 (by decide) (fun c2 => ?_) (fun c2 => ?_)
    · replace hq := hq.1 c2
      refine lv_iload_n hx hb dX4_move_30 rfl (lv_at hl 3 rfl) ?_
      refine lv_if_eq (tgt := 49) hx hb dX4_move_31 (by decide) (fun c3 => ?_) (fun c3 => ?_)
      · replace hq := hq.1 c3
        refine lv_iload_n hx hb dX4_move_49 rfl (lv_at hl 3 rfl) ?_
        refine lv_if_ne (tgt := 62) hx hb dX4_move_50 (by decide) (fun c4 => ?_) (fun c4 => ?_)
        · replace hq := hq.1 c4
          refine lv_aload_n hx hb dX4_move_62 rfl (lv_at hl 0 rfl) ?_
          refine gC_10_1 hB hw m148 dX4_move_63 ?_
          refine lv_iload_n hx hb dX4_move_66 rfl (lv_at hl 2 rfl) ?_
          obtain ⟨h5, hq⟩ := hq
          refine aC_12 (f := (σ.2 12)) hB hw rfl h5 dX4_move_67 ?_
          exact w_iretX hB hw hq (by decide) (by decide) dX4_move_68
        · replace hq := hq.2 c4
          refine lv_aload_n hx hb dX4_move_53 rfl (lv_at hl 0 rfl) ?_
          refine gC_10_0 hB hw m147 dX4_move_54 ?_
          refine lv_iload_n hx hb dX4_move_57 rfl (lv_at hl 2 rfl) ?_
          obtain ⟨h6, hq⟩ := hq
          refine aC_11 (f := (σ.2 11)) hB hw rfl h6 dX4_move_58 ?_
          refine lv_goto (tgt := 68) hx hb dX4_move_59 (by decide) ?_
          exact w_iretX hB hw hq (by decide) (by decide) dX4_move_68
      · replace hq := hq.2 c3
        refine lv_iload_n hx hb dX4_move_34 rfl (lv_at hl 3 rfl) ?_
        refine lv_iconst (v := 1) hx hb dX4_move_35 (by decide) ?_
        refine lv_icmp_eq (tgt := 49) hx hb dX4_move_36 (by decide) (fun c7 => ?_) (fun c7 => ?_)
        · replace hq := hq.1 c7
          refine lv_iload_n hx hb dX4_move_49 rfl (lv_at hl 3 rfl) ?_
          refine lv_if_ne (tgt := 62) hx hb dX4_move_50 (by decide) (fun c8 => ?_) (fun c8 => ?_)
          · replace hq := hq.1 c8
            refine lv_aload_n hx hb dX4_move_62 rfl (lv_at hl 0 rfl) ?_
            refine gC_10_1 hB hw m148 dX4_move_63 ?_
            refine lv_iload_n hx hb dX4_move_66 rfl (lv_at hl 2 rfl) ?_
            obtain ⟨h9, hq⟩ := hq
            refine aC_12 (f := (σ.2 12)) hB hw rfl h9 dX4_move_67 ?_
            exact w_iretX hB hw hq (by decide) (by decide) dX4_move_68
          · replace hq := hq.2 c8
            refine lv_aload_n hx hb dX4_move_53 rfl (lv_at hl 0 rfl) ?_
            refine gC_10_0 hB hw m147 dX4_move_54 ?_
            refine lv_iload_n hx hb dX4_move_57 rfl (lv_at hl 2 rfl) ?_
            obtain ⟨h10, hq⟩ := hq
            refine aC_11 (f := (σ.2 11)) hB hw rfl h10 dX4_move_58 ?_
            refine lv_goto (tgt := 68) hx hb dX4_move_59 (by decide) ?_
            exact w_iretX hB hw hq (by decide) (by decide) dX4_move_68
        · replace hq := hq.2 c7
          exact w_throw (E := eIA) hB hX htab hw hl.1 (by decide) m10 m176 wX_3 wX_n3 hX.2.2.2.2.2.2.1 wX_o3 (by decide) dX4_move_39 dX4_move_42 dX4_move_43 dX4_move_45 dX4_move_48 (by decide) (Nat.le_of_ble_eq_true rfl) (by decide) (by decide) hq
    · replace hq := hq.2 c2
      exact w_throw (E := eIO) hB hX htab hw hl.1 (by decide) m11 m177 wX_2 wX_n2 hX.2.2.2.2.2.1 wX_o2 (by decide) dX4_move_20 dX4_move_23 dX4_move_24 dX4_move_26 dX4_move_29 (by decide) (Nat.le_of_ble_eq_true rfl) (by decide) (by decide) hq
theorem ok_X4_move : okY yX4_move 2 := ⟨by decide, by decide, by decide +kernel⟩
