theorem in0 {N : Nat} (h : 1 ≤ N) : vp_in 0 N := by
  rintro (h0 | h0)
  · exact absurd h0 (by decide)
  · exact absurd (Nat.le_trans h h0) (by decide)
set_option maxHeartbeats 4000000 in
set_option maxRecDepth 100000 in
theorem c_X1_init (l : Launch) (D : va_G) (cI cZ : ClassId) (h0 K : Nat) (hK : K ≤ 128) : MtN l D (tyM cI cZ) yX1_init cX1_init 2 (rmN 0 2 256) [.ref h0, .int (nI K)] [(h0, .inr (1, [.null, .null, .int 0]))] (fun w => ∃ q1 q2, w = [(h0, .inr (1, [.ref q1, .ref q2, .int 0])), (q1, .inl (cI, K, .inl (fun _ => 0))), (q2, .inl (cI, K, .inl (fun _ => 0)))]) 2 256 := by
  refine MtN_of (by decide) (Nat.le_of_ble_eq_true rfl) ?_
  intro p e s m below meth c A ls hB hin hw hl
  replace hB : MB p s m _ meth c cX1_init 2 none RX1 := hB
  replace hin : meth.name = "<init>" := hin
  replace hl : lv_has ls 2 [(0, .ref h0), (1, .int (nI K))] := hl
  obtain ⟨hx, hb, hr, hml, hown, hts, hlk⟩ := id hB
  refine lv_aload_n hx hb dX1_init_0 rfl (lv_at hl 0 rfl) ?_
  refine w_objI hB hl.1 m343 m189 m18 (Nat.le_of_ble_eq_true rfl) (Nat.le_of_ble_eq_true rfl) dX1_init_1 ?_
  refine lv_aload_n hx hb dX1_init_4 rfl (lv_at hl 0 rfl) ?_
  refine lv_iload_n hx hb dX1_init_5 rfl (lv_at hl 1 rfl) ?_
  refine w_newa (ty := .int) (atype := .int) (N := K) (t0 := 0) (cA := cI) (a0 := (K, .inl (fun _ => 0))) hB hw m1 rfl rfl (fun _ _ h => h) (fun _ => rfl) (nI_pos (by omega)) (nI_clamp (by omega)) (by show K * 4 ≤ _; omega) (by show _ ≤ 2; omega) (by show _ ≤ 256; omega) dX1_init_6 (fun q1 H hw => ?_)
  replace hw : WD D (tyM cI cZ) [(h0, .inr (1, [.null, .null, .int 0])), (q1, .inl (cI, K, .inl (fun _ => 0)))] A s H _ := hw
  refine w_putF (ty := .array .int) (v := .ref q1) hB hin hw inA_wsX10 tyX1 tyX1_ok nmX1 0 rfl rfl 0 (by decide) m131 rfl rfl rfl rfl rfl rfl (Nat.le_of_ble_eq_true rfl) rfl dX1_init_8 (fun H locs hw => ?_)
  replace hw : WD D (tyM cI cZ) [(h0, .inr (1, [.ref q1, .null, .int 0])), (q1, .inl (cI, K, .inl (fun _ => 0)))] A s H locs := hw
  refine lv_aload_n hx hb dX1_init_11 rfl (lv_at hl 0 rfl) ?_
  refine lv_iload_n hx hb dX1_init_12 rfl (lv_at hl 1 rfl) ?_
  refine w_newa (ty := .int) (atype := .int) (N := K) (t0 := 0) (cA := cI) (a0 := (K, .inl (fun _ => 0))) hB hw m1 rfl rfl (fun _ _ h => h) (fun _ => rfl) (nI_pos (by omega)) (nI_clamp (by omega)) (by show K * 4 ≤ _; omega) (by show _ ≤ 2; omega) (by show _ ≤ 256; omega) dX1_init_13 (fun q2 H hw => ?_)
  replace hw : WD D (tyM cI cZ) [(h0, .inr (1, [.ref q1, .null, .int 0])), (q1, .inl (cI, K, .inl (fun _ => 0))), (q2, .inl (cI, K, .inl (fun _ => 0)))] A s H _ := hw
  refine w_putF (ty := .array .int) (v := .ref q2) hB hin hw inA_wsX10 tyX1 tyX1_ok nmX1 0 rfl rfl 1 (by decide) m129 rfl rfl rfl rfl rfl rfl (Nat.le_of_ble_eq_true rfl) rfl dX1_init_15 (fun H locs hw => ?_)
  replace hw : WD D (tyM cI cZ) [(h0, .inr (1, [.ref q1, .ref q2, .int 0])), (q1, .inl (cI, K, .inl (fun _ => 0))), (q2, .inl (cI, K, .inl (fun _ => 0)))] A s H locs := hw
  refine w_vretN (ws := [(h0, .inr (1, [.ref q1, .ref q2, .int 0])), (q1, .inl (cI, K, .inl (fun _ => 0))), (q2, .inl (cI, K, .inl (fun _ => 0)))]) hB hw (by omega) (by omega) ?_ dX1_init_18
  exact ⟨q1, q2, rfl⟩
theorem ok_X1_init : okY yX1_init 1 := ⟨by decide, by decide, by decide +kernel⟩
set_option maxHeartbeats 4000000 in
set_option maxRecDepth 100000 in
theorem c_X2_init (l : Launch) (D : va_G) (cI cZ : ClassId) (h0 N : Nat) (hN1 : 1 ≤ N) (hN : N ≤ 1023) : MtN l D (tyM cI cZ) yX2_init cX2_init 2 (rmN 0 3 3072) [.ref h0, .int (nI N)] [(h0, .inr (2, [.null, .null, .null, .int 0]))] (fun w => ∃ q1 q2 q3, w = [(h0, .inr (2, [.ref q1, .ref q2, .ref q3, .int 1])), (q1, .inl (cI, N, .inl (upd (fun _ => 0) ((0 : Int32).toNatClampNeg) 4))), (q2, .inl (cI, N, .inl (upd (fun _ => 0) ((0 : Int32).toNatClampNeg) (nI N * 4)))), (q3, .inl (cI, N, .inl (upd (fun _ => 0) ((0 : Int32).toNatClampNeg) 0)))]) 3 3072 := by
  refine MtN_of (by decide) (Nat.le_of_ble_eq_true rfl) ?_
  intro p e s m below meth c A ls hB hin hw hl
  replace hB : MB p s m _ meth c cX2_init 2 none RX2 := hB
  replace hin : meth.name = "<init>" := hin
  replace hl : lv_has ls 2 [(0, .ref h0), (1, .int (nI N))] := hl
  obtain ⟨hx, hb, hr, hml, hown, hts, hlk⟩ := id hB
  refine lv_aload_n hx hb dX2_init_0 rfl (lv_at hl 0 rfl) ?_
  refine w_objI hB hl.1 m346 m189 m18 (Nat.le_of_ble_eq_true rfl) (Nat.le_of_ble_eq_true rfl) dX2_init_1 ?_
  refine lv_aload_n hx hb dX2_init_4 rfl (lv_at hl 0 rfl) ?_
  refine lv_iload_n hx hb dX2_init_5 rfl (lv_at hl 1 rfl) ?_
  refine w_newa (ty := .int) (atype := .int) (N := N) (t0 := 0) (cA := cI) (a0 := (N, .inl (fun _ => 0))) hB hw m1 rfl rfl (fun _ _ h => h) (fun _ => rfl) (nI_pos (by omega)) (nI_clamp (by omega)) (by show N * 4 ≤ _; omega) (by show _ ≤ 3; omega) (by show _ ≤ 3072; omega) dX2_init_6 (fun q1 H hw => ?_)
  replace hw : WD D (tyM cI cZ) [(h0, .inr (2, [.null, .null, .null, .int 0])), (q1, .inl (cI, N, .inl (fun _ => 0)))] A s H _ := hw
  refine w_putF (ty := .array .int) (v := .ref q1) hB hin hw inA_wsX20 tyX2 tyX2_ok nmX2 0 rfl rfl 0 (by decide) m135 rfl rfl rfl rfl rfl rfl (Nat.le_of_ble_eq_true rfl) rfl dX2_init_8 (fun H locs hw => ?_)
  replace hw : WD D (tyM cI cZ) [(h0, .inr (2, [.ref q1, .null, .null, .int 0])), (q1, .inl (cI, N, .inl (fun _ => 0)))] A s H locs := hw
  refine lv_aload_n hx hb dX2_init_11 rfl (lv_at hl 0 rfl) ?_
  refine lv_iload_n hx hb dX2_init_12 rfl (lv_at hl 1 rfl) ?_
  refine w_newa (ty := .int) (atype := .int) (N := N) (t0 := 0) (cA := cI) (a0 := (N, .inl (fun _ => 0))) hB hw m1 rfl rfl (fun _ _ h => h) (fun _ => rfl) (nI_pos (by omega)) (nI_clamp (by omega)) (by show N * 4 ≤ _; omega) (by show _ ≤ 3; omega) (by show _ ≤ 3072; omega) dX2_init_13 (fun q2 H hw => ?_)
  replace hw : WD D (tyM cI cZ) [(h0, .inr (2, [.ref q1, .null, .null, .int 0])), (q1, .inl (cI, N, .inl (fun _ => 0))), (q2, .inl (cI, N, .inl (fun _ => 0)))] A s H _ := hw
  refine w_putF (ty := .array .int) (v := .ref q2) hB hin hw inA_wsX20 tyX2 tyX2_ok nmX2 0 rfl rfl 1 (by decide) m132 rfl rfl rfl rfl rfl rfl (Nat.le_of_ble_eq_true rfl) rfl dX2_init_15 (fun H locs hw => ?_)
  replace hw : WD D (tyM cI cZ) [(h0, .inr (2, [.ref q1, .ref q2, .null, .int 0])), (q1, .inl (cI, N, .inl (fun _ => 0))), (q2, .inl (cI, N, .inl (fun _ => 0)))] A s H locs := hw
  refine lv_aload_n hx hb dX2_init_18 rfl (lv_at hl 0 rfl) ?_
  refine lv_iload_n hx hb dX2_init_19 rfl (lv_at hl 1 rfl) ?_
  refine w_newa (ty := .int) (atype := .int) (N := N) (t0 := 0) (cA := cI) (a0 := (N, .inl (fun _ => 0))) hB hw m1 rfl rfl (fun _ _ h => h) (fun _ => rfl) (nI_pos (by omega)) (nI_clamp (by omega)) (by show N * 4 ≤ _; omega) (by show _ ≤ 3; omega) (by show _ ≤ 3072; omega) dX2_init_20 (fun q3 H hw => ?_)
  replace hw : WD D (tyM cI cZ) [(h0, .inr (2, [.ref q1, .ref q2, .null, .int 0])), (q1, .inl (cI, N, .inl (fun _ => 0))), (q2, .inl (cI, N, .inl (fun _ => 0))), (q3, .inl (cI, N, .inl (fun _ => 0)))] A s H _ := hw
  refine w_putF (ty := .array .int) (v := .ref q3) hB hin hw inA_wsX20 tyX2 tyX2_ok nmX2 0 rfl rfl 2 (by decide) m133 rfl rfl rfl rfl rfl rfl (Nat.le_of_ble_eq_true rfl) rfl dX2_init_22 (fun H locs hw => ?_)
  replace hw : WD D (tyM cI cZ) [(h0, .inr (2, [.ref q1, .ref q2, .ref q3, .int 0])), (q1, .inl (cI, N, .inl (fun _ => 0))), (q2, .inl (cI, N, .inl (fun _ => 0))), (q3, .inl (cI, N, .inl (fun _ => 0)))] A s H locs := hw
  refine lv_aload_n hx hb dX2_init_25 rfl (lv_at hl 0 rfl) ?_
  refine w_get (v := .ref q1) hB hw inA_wsX20 0 rfl rfl 0 (by decide) m135 rfl rfl dX2_init_26 ?_
  refine lv_iconst (v := 0) hx hb dX2_init_29 (by decide) ?_
  refine lv_iconst (v := 4) hx hb dX2_init_30 (by decide) ?_
  refine w_iast hB hw 1 0 rfl rfl (in0 hN1) rfl dX2_init_31 (fun H locs hw => ?_)
  replace hw : WD D (tyM cI cZ) [(h0, .inr (2, [.ref q1, .ref q2, .ref q3, .int 0])), (q1, .inl (cI, N, .inl (upd (fun _ => 0) ((0 : Int32).toNatClampNeg) 4))), (q2, .inl (cI, N, .inl (fun _ => 0))), (q3, .inl (cI, N, .inl (fun _ => 0)))] A s H locs := hw
  refine lv_aload_n hx hb dX2_init_32 rfl (lv_at hl 0 rfl) ?_
  refine w_get (v := .ref q2) hB hw inA_wsX20 0 rfl rfl 1 (by decide) m132 rfl rfl dX2_init_33 ?_
  refine lv_iconst (v := 0) hx hb dX2_init_36 (by decide) ?_
  refine lv_iload_n hx hb dX2_init_37 rfl (lv_at hl 1 rfl) ?_
  refine lv_iconst (v := 4) hx hb dX2_init_38 (by decide) ?_
  refine lv_imul hx hb dX2_init_39 ?_
  refine w_iast hB hw 2 0 rfl rfl (in0 hN1) rfl dX2_init_40 (fun H locs hw => ?_)
  replace hw : WD D (tyM cI cZ) [(h0, .inr (2, [.ref q1, .ref q2, .ref q3, .int 0])), (q1, .inl (cI, N, .inl (upd (fun _ => 0) ((0 : Int32).toNatClampNeg) 4))), (q2, .inl (cI, N, .inl (upd (fun _ => 0) ((0 : Int32).toNatClampNeg) ((nI N) * 4)))), (q3, .inl (cI, N, .inl (fun _ => 0)))] A s H locs := hw
  refine lv_aload_n hx hb dX2_init_41 rfl (lv_at hl 0 rfl) ?_
  refine w_get (v := .ref q3) hB hw inA_wsX20 0 rfl rfl 2 (by decide) m133 rfl rfl dX2_init_42 ?_
  refine lv_iconst (v := 0) hx hb dX2_init_45 (by decide) ?_
  refine lv_iconst (v := 0) hx hb dX2_init_46 (by decide) ?_
  refine w_iast hB hw 3 0 rfl rfl (in0 hN1) rfl dX2_init_47 (fun H locs hw => ?_)
  replace hw : WD D (tyM cI cZ) [(h0, .inr (2, [.ref q1, .ref q2, .ref q3, .int 0])), (q1, .inl (cI, N, .inl (upd (fun _ => 0) ((0 : Int32).toNatClampNeg) 4))), (q2, .inl (cI, N, .inl (upd (fun _ => 0) ((0 : Int32).toNatClampNeg) ((nI N) * 4)))), (q3, .inl (cI, N, .inl (upd (fun _ => 0) ((0 : Int32).toNatClampNeg) 0)))] A s H locs := hw
  refine lv_aload_n hx hb dX2_init_48 rfl (lv_at hl 0 rfl) ?_
  refine lv_iconst (v := 1) hx hb dX2_init_49 (by decide) ?_
  refine w_put (ty := .int) (v := .int 1) hB hw inA_wsX20 tyX2 tyX2_ok nmX2 0 rfl rfl 3 (by decide) m134 rfl rfl rfl rfl rfl (Nat.le_of_ble_eq_true rfl) rfl dX2_init_50 (fun H locs hw => ?_)
  replace hw : WD D (tyM cI cZ) [(h0, .inr (2, [.ref q1, .ref q2, .ref q3, .int 1])), (q1, .inl (cI, N, .inl (upd (fun _ => 0) ((0 : Int32).toNatClampNeg) 4))), (q2, .inl (cI, N, .inl (upd (fun _ => 0) ((0 : Int32).toNatClampNeg) ((nI N) * 4)))), (q3, .inl (cI, N, .inl (upd (fun _ => 0) ((0 : Int32).toNatClampNeg) 0)))] A s H locs := hw
  refine w_vretN (ws := [(h0, .inr (2, [.ref q1, .ref q2, .ref q3, .int 1])), (q1, .inl (cI, N, .inl (upd (fun _ => 0) ((0 : Int32).toNatClampNeg) 4))), (q2, .inl (cI, N, .inl (upd (fun _ => 0) ((0 : Int32).toNatClampNeg) ((nI N) * 4)))), (q3, .inl (cI, N, .inl (upd (fun _ => 0) ((0 : Int32).toNatClampNeg) 0)))]) hB hw (by omega) (by omega) ?_ dX2_init_53
  exact ⟨q1, q2, q3, rfl⟩
theorem ok_X2_init : okY yX2_init 1 := ⟨by decide, by decide, by decide +kernel⟩
set_option maxHeartbeats 4000000 in
set_option maxRecDepth 100000 in
theorem c_X3_init (l : Launch) (D : va_G) (cI cZ : ClassId) (h0 rw0 N : Nat) (hN1 : 1 ≤ N) (hN : N ≤ 1023) : MtN l D (tyM cI cZ) yX3_init cX3_init 3 (rmN 0 2 2048) [.ref h0, .ref rw0, .int (nI N)] [(h0, .inr (3, [.null, .null, .null]))] (fun w => ∃ q1 q2, w = [(h0, .inr (3, [.ref rw0, .ref q1, .ref q2])), (q1, .inl (cI, N, .inl (fun _ => 0))), (q2, .inl (cI, N, .inl (fun _ => 0)))]) 2 2048 := by
  refine MtN_of (by decide) (Nat.le_of_ble_eq_true rfl) ?_
  intro p e s m below meth c A ls hB hin hw hl
  replace hB : MB p s m _ meth c cX3_init 3 none RX3 := hB
  replace hin : meth.name = "<init>" := hin
  replace hl : lv_has ls 3 [(0, .ref h0), (1, .ref rw0), (2, .int (nI N))] := hl
  obtain ⟨hx, hb, hr, hml, hown, hts, hlk⟩ := id hB
  refine lv_aload_n hx hb dX3_init_0 rfl (lv_at hl 0 rfl) ?_
  refine w_objI hB hl.1 m354 m189 m18 (Nat.le_of_ble_eq_true rfl) (Nat.le_of_ble_eq_true rfl) dX3_init_1 ?_
  refine lv_aload_n hx hb dX3_init_4 rfl (lv_at hl 0 rfl) ?_
  refine lv_aload_n hx hb dX3_init_5 rfl (lv_at hl 1 rfl) ?_
  refine w_putF (ty := .object "RunHeap$Row") (v := .ref rw0) hB hin hw inA_wsX30 tyX3 tyX3_ok nmX3 0 rfl rfl 0 (by decide) m142 rfl rfl rfl rfl rfl rfl (Nat.le_of_ble_eq_true rfl) rfl dX3_init_6 (fun H locs hw => ?_)
  replace hw : WD D (tyM cI cZ) [(h0, .inr (3, [.ref rw0, .null, .null]))] A s H locs := hw
  refine lv_aload_n hx hb dX3_init_9 rfl (lv_at hl 0 rfl) ?_
  refine lv_iload_n hx hb dX3_init_10 rfl (lv_at hl 2 rfl) ?_
  refine w_newa (ty := .int) (atype := .int) (N := N) (t0 := 0) (cA := cI) (a0 := (N, .inl (fun _ => 0))) hB hw m1 rfl rfl (fun _ _ h => h) (fun _ => rfl) (nI_pos (by omega)) (nI_clamp (by omega)) (by show N * 4 ≤ _; omega) (by show _ ≤ 2; omega) (by show _ ≤ 2048; omega) dX3_init_11 (fun q1 H hw => ?_)
  replace hw : WD D (tyM cI cZ) [(h0, .inr (3, [.ref rw0, .null, .null])), (q1, .inl (cI, N, .inl (fun _ => 0)))] A s H _ := hw
  refine w_putF (ty := .array .int) (v := .ref q1) hB hin hw inA_wsX30 tyX3 tyX3_ok nmX3 0 rfl rfl 1 (by decide) m136 rfl rfl rfl rfl rfl rfl (Nat.le_of_ble_eq_true rfl) rfl dX3_init_13 (fun H locs hw => ?_)
  replace hw : WD D (tyM cI cZ) [(h0, .inr (3, [.ref rw0, .ref q1, .null])), (q1, .inl (cI, N, .inl (fun _ => 0)))] A s H locs := hw
  refine lv_aload_n hx hb dX3_init_16 rfl (lv_at hl 0 rfl) ?_
  refine lv_iload_n hx hb dX3_init_17 rfl (lv_at hl 2 rfl) ?_
  refine w_newa (ty := .int) (atype := .int) (N := N) (t0 := 0) (cA := cI) (a0 := (N, .inl (fun _ => 0))) hB hw m1 rfl rfl (fun _ _ h => h) (fun _ => rfl) (nI_pos (by omega)) (nI_clamp (by omega)) (by show N * 4 ≤ _; omega) (by show _ ≤ 2; omega) (by show _ ≤ 2048; omega) dX3_init_18 (fun q2 H hw => ?_)
  replace hw : WD D (tyM cI cZ) [(h0, .inr (3, [.ref rw0, .ref q1, .null])), (q1, .inl (cI, N, .inl (fun _ => 0))), (q2, .inl (cI, N, .inl (fun _ => 0)))] A s H _ := hw
  refine w_putF (ty := .array .int) (v := .ref q2) hB hin hw inA_wsX30 tyX3 tyX3_ok nmX3 0 rfl rfl 2 (by decide) m137 rfl rfl rfl rfl rfl rfl (Nat.le_of_ble_eq_true rfl) rfl dX3_init_20 (fun H locs hw => ?_)
  replace hw : WD D (tyM cI cZ) [(h0, .inr (3, [.ref rw0, .ref q1, .ref q2])), (q1, .inl (cI, N, .inl (fun _ => 0))), (q2, .inl (cI, N, .inl (fun _ => 0)))] A s H locs := hw
  refine w_vretN (ws := [(h0, .inr (3, [.ref rw0, .ref q1, .ref q2])), (q1, .inl (cI, N, .inl (fun _ => 0))), (q2, .inl (cI, N, .inl (fun _ => 0)))]) hB hw (by omega) (by omega) ?_ dX3_init_23
  exact ⟨q1, q2, rfl⟩
theorem ok_X3_init : okY yX3_init 2 := ⟨by decide, by decide, by decide +kernel⟩
set_option maxHeartbeats 4000000 in
set_option maxRecDepth 100000 in
theorem c_X0_init (l : Launch) (D : va_G) (cI cZ : ClassId) (h0 rw0 N K : Nat) (hN1 : 1 ≤ N) (hN : N ≤ 1023) (hK2 : K ≤ 128) (hK : (if 128 < (nI N) then 128 else (nI N)) = nI K) : MtN l D (tyM cI cZ) yX0_init cX0_init 4 (rmN 1 8 2000) [.ref h0, .ref rw0, .int (nI N)] [(h0, .inr (0, [.null, .int 0, .int 0, .null, .null, .null, .int 0, .null]))] (fun w => ∃ b bf bt t tf tt mv lf, w = [(h0, .inr (0, [.ref b, .int 0, .int 0, .ref rw0, .ref t, .ref mv, .int 0, .ref lf])), (b, .inr (1, [.ref bf, .ref bt, .int 0])), (bf, .inl (cI, K, .inl (fun _ => 0))), (bt, .inl (cI, K, .inl (fun _ => 0))), (t, .inr (1, [.ref tf, .ref tt, .int 0])), (tf, .inl (cI, K, .inl (fun _ => 0))), (tt, .inl (cI, K, .inl (fun _ => 0))), (mv, .inl (cI, K, .inl (fun _ => 0))), (lf, .inl (cI, N, .inl (fun _ => 0)))]) 8 2000 := by
  refine MtN_of (by decide) (Nat.le_of_ble_eq_true rfl) ?_
  intro p e s m below meth c A ls hB hin hw hl
  replace hB : MB p s m _ meth c cX0_init 4 none RX0 := hB
  replace hin : meth.name = "<init>" := hin
  replace hl : lv_has ls 4 [(0, .ref h0), (1, .ref rw0), (2, .int (nI N))] := hl
  obtain ⟨hx, hb, hr, hml, hown, hts, hlk⟩ := id hB
  refine lv_aload_n hx hb dX0_init_0 rfl (lv_at hl 0 rfl) ?_
  refine w_objI hB hl.1 m332 m189 m18 (Nat.le_of_ble_eq_true rfl) (Nat.le_of_ble_eq_true rfl) dX0_init_1 ?_
  refine lv_iload_n hx hb dX0_init_4 rfl (lv_at hl 2 rfl) ?_
  refine lv_sipush (v := 128) hx hb dX0_init_5 (by decide) ?_
  refine m_min hB hl.1 m340 (Nat.le_of_ble_eq_true rfl) (Nat.le_of_ble_eq_true rfl) (by show _ ≤ 8; omega) (by show _ ≤ 2000; omega) dX0_init_8 ?_
  rw [show (if 128 < (nI N) then 128 else (nI N)) = nI K from hK]
  refine lv_istore_n (lv' := [(3, .int (nI K)), (0, .ref h0), (1, .ref rw0), (2, .int (nI N))]) hx hb dX0_init_11 rfl hl (by decide) rfl (fun ls hl => ?_)
  refine lv_aload_n hx hb dX0_init_12 rfl (lv_at hl 1 rfl) ?_
  refine lv_aload_n hx hb dX0_init_13 rfl (lv_at hl 2 rfl) ?_
  refine w_putF (ty := .object "RunHeap$Row") (v := .ref rw0) hB hin hw inA_wsX00 tyX0 tyX0_ok nmX0 0 rfl rfl 3 (by decide) m116 rfl rfl rfl rfl rfl rfl (Nat.le_of_ble_eq_true rfl) rfl dX0_init_14 (fun H locs hw => ?_)
  replace hw : WD D (tyM cI cZ) [(h0, .inr (0, [.null, .int 0, .int 0, .ref rw0, .null, .null, .int 0, .null]))] A s H locs := hw
  refine lv_aload_n hx hb dX0_init_17 rfl (lv_at hl 1 rfl) ?_
  refine w_new (ci := 1) (fs := [.null, .null, .int 0]) (C := RX1) (T := TX1) (N := 3) hB hw inA_wsX10 tyX1 tyX1_ok m8 m281 m184 rfl (fun j hj => by rcases (show j = 0 ∨ j = 1 ∨ j = 2 by omega) with rfl | rfl | rfl <;> rfl) (by show _ ≤ 8; omega) (by show _ ≤ 2000; omega) (fun _ => rfl) dX0_init_18 (fun q1 H hw => ?_)
  replace hw : WD D (tyM cI cZ) [(h0, .inr (0, [.null, .int 0, .int 0, .ref rw0, .null, .null, .int 0, .null])), (q1, .inr (1, [.null, .null, .int 0]))] A s H _ := hw
  refine lv_dup hx hb dX0_init_21 rfl ?_
  refine lv_iload_n hx hb dX0_init_22 rfl (lv_at hl 0 rfl) ?_
  refine f_cIV (w0 := [(q1, .inr (1, [.null, .null, .int 0]))]) (wr := [(h0, .inr (0, [.null, .int 0, .int 0, .ref rw0, .null, .null, .int 0, .null]))]) (As := [.int (nI K)]) (rest := [.ref q1, .ref h0]) hB (WD_swap (a := [(h0, .inr (0, [.null, .int 0, .int 0, .ref rw0, .null, .null, .int 0, .null]))]) (b := [(q1, .inr (1, [.null, .null, .int 0]))]) hw) hw.1 hl.1 (c_X1_init l D cI cZ q1 K hK2) m331 m196 m184 m28 rfl ok_X1_init rfl rfl ⟨by decide, by decide⟩ rfl rfl (Nat.le_of_ble_eq_true rfl) dX0_init_23 ⟨by show _ ≤ 8; omega, by show _ ≤ 2000; omega⟩ (fun w H locs hp hw => ?_)
  obtain ⟨a2, b3, rfl⟩ := hp
  replace hw : WD D (tyM cI cZ) [(q1, .inr (1, [.ref a2, .ref b3, .int 0])), (a2, .inl (cI, K, .inl (fun _ => 0))), (b3, .inl (cI, K, .inl (fun _ => 0))), (h0, .inr (0, [.null, .int 0, .int 0, .ref rw0, .null, .null, .int 0, .null]))] A s H locs := hw
  refine w_putF (ty := .object "RunHeap$Moves") (v := .ref q1) hB hin hw inA_wsX00 tyX0 tyX0_ok nmX0 3 rfl rfl 0 (by decide) m117 rfl rfl rfl rfl rfl rfl (Nat.le_of_ble_eq_true rfl) rfl dX0_init_26 (fun H locs hw => ?_)
  replace hw : WD D (tyM cI cZ) [(q1, .inr (1, [.ref a2, .ref b3, .int 0])), (a2, .inl (cI, K, .inl (fun _ => 0))), (b3, .inl (cI, K, .inl (fun _ => 0))), (h0, .inr (0, [.ref q1, .int 0, .int 0, .ref rw0, .null, .null, .int 0, .null]))] A s H locs := hw
  refine lv_aload_n hx hb dX0_init_29 rfl (lv_at hl 1 rfl) ?_
  refine w_new (ci := 1) (fs := [.null, .null, .int 0]) (C := RX1) (T := TX1) (N := 3) hB hw inA_wsX10 tyX1 tyX1_ok m8 m281 m184 rfl (fun j hj => by rcases (show j = 0 ∨ j = 1 ∨ j = 2 by omega) with rfl | rfl | rfl <;> rfl) (by show _ ≤ 8; omega) (by show _ ≤ 2000; omega) (fun _ => rfl) dX0_init_30 (fun q4 H hw => ?_)
  replace hw : WD D (tyM cI cZ) [(q1, .inr (1, [.ref a2, .ref b3, .int 0])), (a2, .inl (cI, K, .inl (fun _ => 0))), (b3, .inl (cI, K, .inl (fun _ => 0))), (h0, .inr (0, [.ref q1, .int 0, .int 0, .ref rw0, .null, .null, .int 0, .null])), (q4, .inr (1, [.null, .null, .int 0]))] A s H _ := hw
  refine lv_dup hx hb dX0_init_33 rfl ?_
  refine lv_iload_n hx hb dX0_init_34 rfl (lv_at hl 0 rfl) ?_
  refine f_cIV (w0 := [(q4, .inr (1, [.null, .null, .int 0]))]) (wr := [(q1, .inr (1, [.ref a2, .ref b3, .int 0])), (a2, .inl (cI, K, .inl (fun _ => 0))), (b3, .inl (cI, K, .inl (fun _ => 0))), (h0, .inr (0, [.ref q1, .int 0, .int 0, .ref rw0, .null, .null, .int 0, .null]))]) (As := [.int (nI K)]) (rest := [.ref q4, .ref h0]) hB (WD_swap (a := [(q1, .inr (1, [.ref a2, .ref b3, .int 0])), (a2, .inl (cI, K, .inl (fun _ => 0))), (b3, .inl (cI, K, .inl (fun _ => 0))), (h0, .inr (0, [.ref q1, .int 0, .int 0, .ref rw0, .null, .null, .int 0, .null]))]) (b := [(q4, .inr (1, [.null, .null, .int 0]))]) hw) hw.1 hl.1 (c_X1_init l D cI cZ q4 K hK2) m331 m196 m184 m28 rfl ok_X1_init rfl rfl ⟨by decide, by decide⟩ rfl rfl (Nat.le_of_ble_eq_true rfl) dX0_init_35 ⟨by show _ ≤ 8; omega, by show _ ≤ 2000; omega⟩ (fun w H locs hp hw => ?_)
  obtain ⟨a5, b6, rfl⟩ := hp
  replace hw : WD D (tyM cI cZ) [(q4, .inr (1, [.ref a5, .ref b6, .int 0])), (a5, .inl (cI, K, .inl (fun _ => 0))), (b6, .inl (cI, K, .inl (fun _ => 0))), (q1, .inr (1, [.ref a2, .ref b3, .int 0])), (a2, .inl (cI, K, .inl (fun _ => 0))), (b3, .inl (cI, K, .inl (fun _ => 0))), (h0, .inr (0, [.ref q1, .int 0, .int 0, .ref rw0, .null, .null, .int 0, .null]))] A s H locs := hw
  refine w_putF (ty := .object "RunHeap$Moves") (v := .ref q4) hB hin hw inA_wsX00 tyX0 tyX0_ok nmX0 6 rfl rfl 4 (by decide) m118 rfl rfl rfl rfl rfl rfl (Nat.le_of_ble_eq_true rfl) rfl dX0_init_38 (fun H locs hw => ?_)
  replace hw : WD D (tyM cI cZ) [(q4, .inr (1, [.ref a5, .ref b6, .int 0])), (a5, .inl (cI, K, .inl (fun _ => 0))), (b6, .inl (cI, K, .inl (fun _ => 0))), (q1, .inr (1, [.ref a2, .ref b3, .int 0])), (a2, .inl (cI, K, .inl (fun _ => 0))), (b3, .inl (cI, K, .inl (fun _ => 0))), (h0, .inr (0, [.ref q1, .int 0, .int 0, .ref rw0, .ref q4, .null, .int 0, .null]))] A s H locs := hw
  refine lv_aload_n hx hb dX0_init_41 rfl (lv_at hl 1 rfl) ?_
  refine lv_iload_n hx hb dX0_init_42 rfl (lv_at hl 0 rfl) ?_
  refine w_newa (ty := .int) (atype := .int) (N := K) (t0 := 0) (cA := cI) (a0 := (K, .inl (fun _ => 0))) hB hw m1 rfl rfl (fun _ _ h => h) (fun _ => rfl) (nI_pos (by omega)) (nI_clamp (by omega)) (by show K * 4 ≤ _; omega) (by show _ ≤ 8; omega) (by show _ ≤ 2000; omega) dX0_init_43 (fun q7 H hw => ?_)
  replace hw : WD D (tyM cI cZ) [(q4, .inr (1, [.ref a5, .ref b6, .int 0])), (a5, .inl (cI, K, .inl (fun _ => 0))), (b6, .inl (cI, K, .inl (fun _ => 0))), (q1, .inr (1, [.ref a2, .ref b3, .int 0])), (a2, .inl (cI, K, .inl (fun _ => 0))), (b3, .inl (cI, K, .inl (fun _ => 0))), (h0, .inr (0, [.ref q1, .int 0, .int 0, .ref rw0, .ref q4, .null, .int 0, .null])), (q7, .inl (cI, K, .inl (fun _ => 0)))] A s H _ := hw
  refine w_putF (ty := .array .int) (v := .ref q7) hB hin hw inA_wsX00 tyX0 tyX0_ok nmX0 6 rfl rfl 5 (by decide) m119 rfl rfl rfl rfl rfl rfl (Nat.le_of_ble_eq_true rfl) rfl dX0_init_45 (fun H locs hw => ?_)
  replace hw : WD D (tyM cI cZ) [(q4, .inr (1, [.ref a5, .ref b6, .int 0])), (a5, .inl (cI, K, .inl (fun _ => 0))), (b6, .inl (cI, K, .inl (fun _ => 0))), (q1, .inr (1, [.ref a2, .ref b3, .int 0])), (a2, .inl (cI, K, .inl (fun _ => 0))), (b3, .inl (cI, K, .inl (fun _ => 0))), (h0, .inr (0, [.ref q1, .int 0, .int 0, .ref rw0, .ref q4, .ref q7, .int 0, .null])), (q7, .inl (cI, K, .inl (fun _ => 0)))] A s H locs := hw
  refine lv_aload_n hx hb dX0_init_48 rfl (lv_at hl 1 rfl) ?_
  refine lv_iload_n hx hb dX0_init_49 rfl (lv_at hl 3 rfl) ?_
  refine w_newa (ty := .int) (atype := .int) (N := N) (t0 := 0) (cA := cI) (a0 := (N, .inl (fun _ => 0))) hB hw m1 rfl rfl (fun _ _ h => h) (fun _ => rfl) (nI_pos (by omega)) (nI_clamp (by omega)) (by show N * 4 ≤ _; omega) (by show _ ≤ 8; omega) (by show _ ≤ 2000; omega) dX0_init_50 (fun q8 H hw => ?_)
  replace hw : WD D (tyM cI cZ) [(q4, .inr (1, [.ref a5, .ref b6, .int 0])), (a5, .inl (cI, K, .inl (fun _ => 0))), (b6, .inl (cI, K, .inl (fun _ => 0))), (q1, .inr (1, [.ref a2, .ref b3, .int 0])), (a2, .inl (cI, K, .inl (fun _ => 0))), (b3, .inl (cI, K, .inl (fun _ => 0))), (h0, .inr (0, [.ref q1, .int 0, .int 0, .ref rw0, .ref q4, .ref q7, .int 0, .null])), (q7, .inl (cI, K, .inl (fun _ => 0))), (q8, .inl (cI, N, .inl (fun _ => 0)))] A s H _ := hw
  refine w_putF (ty := .array .int) (v := .ref q8) hB hin hw inA_wsX00 tyX0 tyX0_ok nmX0 6 rfl rfl 7 (by decide) m120 rfl rfl rfl rfl rfl rfl (Nat.le_of_ble_eq_true rfl) rfl dX0_init_52 (fun H locs hw => ?_)
  replace hw : WD D (tyM cI cZ) [(q4, .inr (1, [.ref a5, .ref b6, .int 0])), (a5, .inl (cI, K, .inl (fun _ => 0))), (b6, .inl (cI, K, .inl (fun _ => 0))), (q1, .inr (1, [.ref a2, .ref b3, .int 0])), (a2, .inl (cI, K, .inl (fun _ => 0))), (b3, .inl (cI, K, .inl (fun _ => 0))), (h0, .inr (0, [.ref q1, .int 0, .int 0, .ref rw0, .ref q4, .ref q7, .int 0, .ref q8])), (q7, .inl (cI, K, .inl (fun _ => 0))), (q8, .inl (cI, N, .inl (fun _ => 0)))] A s H locs := hw
  replace hw : WD D (tyM cI cZ) [(h0, .inr (0, [.ref q1, .int 0, .int 0, .ref rw0, .ref q4, .ref q7, .int 0, .ref q8])), (q1, .inr (1, [.ref a2, .ref b3, .int 0])), (a2, .inl (cI, K, .inl (fun _ => 0))), (b3, .inl (cI, K, .inl (fun _ => 0))), (q4, .inr (1, [.ref a5, .ref b6, .int 0])), (a5, .inl (cI, K, .inl (fun _ => 0))), (b6, .inl (cI, K, .inl (fun _ => 0))), (q7, .inl (cI, K, .inl (fun _ => 0))), (q8, .inl (cI, N, .inl (fun _ => 0)))] A s H locs := WD_perm hw [6, 3, 4, 5, 0, 1, 2, 7, 8] (by decide) rfl rfl
  refine w_vretN (ws := [(h0, .inr (0, [.ref q1, .int 0, .int 0, .ref rw0, .ref q4, .ref q7, .int 0, .ref q8])), (q1, .inr (1, [.ref a2, .ref b3, .int 0])), (a2, .inl (cI, K, .inl (fun _ => 0))), (b3, .inl (cI, K, .inl (fun _ => 0))), (q4, .inr (1, [.ref a5, .ref b6, .int 0])), (a5, .inl (cI, K, .inl (fun _ => 0))), (b6, .inl (cI, K, .inl (fun _ => 0))), (q7, .inl (cI, K, .inl (fun _ => 0))), (q8, .inl (cI, N, .inl (fun _ => 0)))]) hB hw (by omega) (by omega) ?_ dX0_init_55
  exact ⟨q1, a2, b3, q4, a5, b6, q7, q8, rfl⟩
theorem ok_X0_init : okY yX0_init 2 := ⟨by decide, by decide, by decide +kernel⟩
