def lwH : List Cond := [.codeWith yL_get cL_get 5 (some .int) [(0, 10, 13, 13), (0, 10, 17, 15)], .codeWith yL_set cL_set 6 (some .int) [(0, 12, 15, 13), (0, 12, 19, 15)], .codeWith yL_branch cL_branch 5 (some .int) [(0, 10, 13, 13), (0, 10, 17, 24)], .codeWith yL_move cL_move 5 (some .int) [(0, 10, 13, 15), (0, 10, 17, 24)]]
def cs_0 (ln : Nat → Nat) (xs : Nat → Int32) (L : Nat) (Kb : S2 → CS → Int32 → Prop) (u : S2) (τ : CS) (x4 : Int32) : Prop :=
  (vp_in (x4 + 1) L ∧ wp_X4_give ln u.1 (xs (x4 + 1).toNatClampNeg) (fun r2 σ3 => wp_X5_give lnM τ (xs (x4 + 1).toNatClampNeg) (fun r4 τ5 => ((r2 = r4) ∧ Kb (σ3, u.2) τ5 (x4 + 4)))))
def cs_1 (ln : Nat → Nat) (xs : Nat → Int32) (L : Nat) (Kb : S2 → CS → Int32 → Prop) (u : S2) (τ : CS) (x4 : Int32) : Prop :=
  (vp_in (x4 + 1) L ∧ (vp_in (x4 + 2) L ∧ wp_X4_giveAligned ln u.1 (xs (x4 + 1).toNatClampNeg) (xs (x4 + 2).toNatClampNeg) (fun r9 σ10 => wp_X5_giveAligned lnM τ (xs (x4 + 1).toNatClampNeg) (xs (x4 + 2).toNatClampNeg) (fun r11 τ12 => ((r9 = r11) ∧ Kb (σ10, u.2) τ12 (x4 + 4))))))
def cs_2 (ln : Nat → Nat) (xs : Nat → Int32) (L : Nat) (Kb : S2 → CS → Int32 → Prop) (u : S2) (τ : CS) (x4 : Int32) : Prop :=
  (vp_in (x4 + 1) L ∧ wp_X4_free ln u.1 (xs (x4 + 1).toNatClampNeg) (fun r15 σ16 => wp_X5_free lnM τ (xs (x4 + 1).toNatClampNeg) (fun r17 τ18 => ((r15 = r17) ∧ Kb (σ16, u.2) τ18 (x4 + 4)))))
def cs_3 (ln : Nat → Nat) (xs : Nat → Int32) (L : Nat) (Kb : S2 → CS → Int32 → Prop) (u : S2) (τ : CS) (x4 : Int32) : Prop :=
  (vp_in (x4 + 1) L ∧ (vp_in (x4 + 2) L ∧ wp_X4_grow ln u.1 (xs (x4 + 1).toNatClampNeg) (xs (x4 + 2).toNatClampNeg) (fun r22 σ23 => wp_X5_grow lnM τ (xs (x4 + 1).toNatClampNeg) (xs (x4 + 2).toNatClampNeg) (fun r24 τ25 => ((r22 = r24) ∧ Kb (σ23, u.2) τ25 (x4 + 4))))))
def cs_4 (ln : Nat → Nat) (xs : Nat → Int32) (L : Nat) (Kb : S2 → CS → Int32 → Prop) (u : S2) (τ : CS) (x4 : Int32) : Prop :=
  (vp_in (x4 + 1) L ∧ (vp_in (x4 + 2) L ∧ wp_X4_trim ln u.1 (xs (x4 + 1).toNatClampNeg) (xs (x4 + 2).toNatClampNeg) (fun r29 σ30 => wp_X5_trim lnM τ (xs (x4 + 1).toNatClampNeg) (xs (x4 + 2).toNatClampNeg) (fun r31 τ32 => ((r29 = r31) ∧ Kb (σ30, u.2) τ32 (x4 + 4))))))
def cs_5 (ln : Nat → Nat) (xs : Nat → Int32) (L : Nat) (Kb : S2 → CS → Int32 → Prop) (u : S2) (τ : CS) (x4 : Int32) : Prop :=
  (vp_in (x4 + 1) L ∧ (vp_in (x4 + 2) L ∧ (((xs (x4 + 2).toNatClampNeg) = 0 → wp_X4_pin ln u.1 (xs (x4 + 1).toNatClampNeg) 0 (fun r37 σ38 => wp_X5_pin lnM τ (xs (x4 + 1).toNatClampNeg) 0 (fun r40 τ41 => ((r37 = r40) ∧ Kb (σ38, u.2) τ41 (x4 + 4))))) ∧ (¬ (xs (x4 + 2).toNatClampNeg) = 0 → wp_X4_pin ln u.1 (xs (x4 + 1).toNatClampNeg) 1 (fun r43 σ44 => wp_X5_pin lnM τ (xs (x4 + 1).toNatClampNeg) 1 (fun r46 τ47 => ((r43 = r46) ∧ Kb (σ44, u.2) τ47 (x4 + 4))))))))
def cs_6 (ln : Nat → Nat) (xs : Nat → Int32) (L : Nat) (Kb : S2 → CS → Int32 → Prop) (u : S2) (τ : CS) (x4 : Int32) : Prop :=
  (vp_in (x4 + 1) L ∧ (vp_in (x4 + 2) L ∧ wp_L_get ln u (xs (x4 + 1).toNatClampNeg) (xs (x4 + 2).toNatClampNeg) (fun r51 u52 => wp_X5_get lnM τ (xs (x4 + 1).toNatClampNeg) (xs (x4 + 2).toNatClampNeg) (fun r53 τ54 => wp_X5_thrown lnM τ54  (fun r55 τ56 => ((r55 = r51) ∧ ((¬ r51 = 0 → Kb u52 τ56 (x4 + 4)) ∧ (r51 = 0 → (((lg_cmp (u52.2 (0 : Int32).toNatClampNeg) r53.toInt64) = 0) ∧ Kb u52 τ56 (x4 + 4))))))))))
def cs_7 (ln : Nat → Nat) (xs : Nat → Int32) (L : Nat) (Kb : S2 → CS → Int32 → Prop) (u : S2) (τ : CS) (x4 : Int32) : Prop :=
  (vp_in (x4 + 1) L ∧ (vp_in (x4 + 2) L ∧ (vp_in (x4 + 3) L ∧ wp_L_set ln u (xs (x4 + 1).toNatClampNeg) (xs (x4 + 2).toNatClampNeg) (xs (x4 + 3).toNatClampNeg) (fun r63 u64 => wp_X5_set lnM τ (xs (x4 + 1).toNatClampNeg) (xs (x4 + 2).toNatClampNeg) (xs (x4 + 3).toNatClampNeg) (fun r65 τ66 => wp_X5_thrown lnM τ66  (fun r67 τ68 => ((r67 = r63) ∧ ((¬ r63 = 0 → Kb u64 τ68 (x4 + 4)) ∧ (r63 = 0 → (((lg_cmp (u64.2 (0 : Int32).toNatClampNeg) r65.toInt64) = 0) ∧ Kb u64 τ68 (x4 + 4)))))))))))
def cs_8 (ln : Nat → Nat) (xs : Nat → Int32) (L : Nat) (Kb : S2 → CS → Int32 → Prop) (u : S2) (τ : CS) (x4 : Int32) : Prop :=
  (vp_in (x4 + 1) L ∧ wp_X4_sizeOf ln u.1 (xs (x4 + 1).toNatClampNeg) (fun r73 σ74 => wp_X5_sizeOf lnM τ (xs (x4 + 1).toNatClampNeg) (fun r75 τ76 => ((r73 = r75) ∧ Kb (σ74, u.2) τ76 (x4 + 4)))))
def cs_9 (ln : Nat → Nat) (xs : Nat → Int32) (L : Nat) (Kb : S2 → CS → Int32 → Prop) (u : S2) (τ : CS) (x4 : Int32) : Prop :=
  wp_X4_largest ln u.1  (fun r78 σ79 => wp_X5_largest lnM τ  (fun r80 τ81 => ((r78 = r80) ∧ Kb (σ79, u.2) τ81 (x4 + 4))))
def cs_10 (ln : Nat → Nat) (xs : Nat → Int32) (L : Nat) (Kb : S2 → CS → Int32 → Prop) (u : S2) (τ : CS) (x4 : Int32) : Prop :=
  (vp_in (x4 + 1) L ∧ wp_X4_count ln u.1 (xs (x4 + 1).toNatClampNeg) (fun r84 σ85 => wp_X5_count lnM τ (xs (x4 + 1).toNatClampNeg) (fun r86 τ87 => ((r84 = r86) ∧ Kb (σ85, u.2) τ87 (x4 + 4)))))
def cs_11 (ln : Nat → Nat) (xs : Nat → Int32) (L : Nat) (Kb : S2 → CS → Int32 → Prop) (u : S2) (τ : CS) (x4 : Int32) : Prop :=
  (vp_in (x4 + 1) L ∧ wp_X4_freeAt ln u.1 (xs (x4 + 1).toNatClampNeg) (fun r90 σ91 => wp_X5_freeAt lnM τ (xs (x4 + 1).toNatClampNeg) (fun r92 τ93 => ((r90 = r92) ∧ Kb (σ91, u.2) τ93 (x4 + 4)))))
def cs_12 (ln : Nat → Nat) (xs : Nat → Int32) (L : Nat) (Kb : S2 → CS → Int32 → Prop) (u : S2) (τ : CS) (x4 : Int32) : Prop :=
  (vp_in (x4 + 1) L ∧ (vp_in (x4 + 2) L ∧ wp_L_branch ln u (xs (x4 + 1).toNatClampNeg) (xs (x4 + 2).toNatClampNeg) (fun r97 u98 => wp_X5_branch lnM τ (xs (x4 + 1).toNatClampNeg) (xs (x4 + 2).toNatClampNeg) (fun r99 τ100 => wp_X5_thrown lnM τ100  (fun r101 τ102 => ((r101 = r97) ∧ ((¬ r97 = 0 → Kb u98 τ102 (x4 + 4)) ∧ (r97 = 0 → (((lg_cmp (u98.2 (0 : Int32).toNatClampNeg) r99.toInt64) = 0) ∧ Kb u98 τ102 (x4 + 4))))))))))
def cs_13 (ln : Nat → Nat) (xs : Nat → Int32) (L : Nat) (Kb : S2 → CS → Int32 → Prop) (u : S2) (τ : CS) (x4 : Int32) : Prop :=
  (vp_in (x4 + 1) L ∧ wp_X4_advise ln u.1 (xs (x4 + 1).toNatClampNeg) (fun r107 σ108 => wp_X5_advise lnM τ (xs (x4 + 1).toNatClampNeg) (fun r109 τ110 => ((r107 = r109) ∧ Kb (σ108, u.2) τ110 (x4 + 4)))))
def cs_14 (ln : Nat → Nat) (xs : Nat → Int32) (L : Nat) (Kb : S2 → CS → Int32 → Prop) (u : S2) (τ : CS) (x4 : Int32) : Prop :=
  wp_X4_window ln u.1  (fun r112 σ113 => wp_X5_window lnM τ  (fun r114 τ115 => ((r112 = r114) ∧ Kb (σ113, u.2) τ115 (x4 + 4))))
def cs_15 (ln : Nat → Nat) (xs : Nat → Int32) (L : Nat) (Kb : S2 → CS → Int32 → Prop) (u : S2) (τ : CS) (x4 : Int32) : Prop :=
  (vp_in (x4 + 1) L ∧ (vp_in (x4 + 2) L ∧ wp_L_move ln u (xs (x4 + 1).toNatClampNeg) (xs (x4 + 2).toNatClampNeg) (fun r119 u120 => wp_X5_move lnM τ (xs (x4 + 1).toNatClampNeg) (xs (x4 + 2).toNatClampNeg) (fun r121 τ122 => wp_X5_thrown lnM τ122  (fun r123 τ124 => ((r123 = r119) ∧ ((¬ r119 = 0 → Kb u120 τ124 (x4 + 4)) ∧ (r119 = 0 → (((lg_cmp (u120.2 (0 : Int32).toNatClampNeg) r121.toInt64) = 0) ∧ Kb u120 τ124 (x4 + 4))))))))))
def cs_16 (ln : Nat → Nat) (xs : Nat → Int32) (L : Nat) (Kb : S2 → CS → Int32 → Prop) (u : S2) (τ : CS) (x4 : Int32) : Prop :=
  wp_X4_apply ln u.1  (fun r128 σ129 => wp_X5_apply lnM τ  (fun r130 τ131 => ((r128 = r130) ∧ Kb (σ129, u.2) τ131 (x4 + 4))))
def cs_17 (ln : Nat → Nat) (xs : Nat → Int32) (L : Nat) (Kb : S2 → CS → Int32 → Prop) (u : S2) (τ : CS) (x4 : Int32) : Prop :=
  (vp_in (x4 + 1) L ∧ wp_X4_moved ln u.1 (xs (x4 + 1).toNatClampNeg) (fun r134 σ135 => wp_X5_moved lnM τ (xs (x4 + 1).toNatClampNeg) (fun r136 τ137 => ((r134 = r136) ∧ Kb (σ135, u.2) τ137 (x4 + 4)))))
def lb_law (ln : Nat → Nat) (xs : Nat → Int32) (L : Nat) (Kb : S2 → CS → Int32 → Prop) (u : S2) (τ : CS) (x4 : Int32) : Prop :=
  (¬ (Int32.ofNat L - 4) < x4 → (vp_in x4 L ∧ (((xs x4.toNatClampNeg &&& 31) = 0 → cs_0 ln xs L Kb u τ x4) ∧ (((xs x4.toNatClampNeg &&& 31) = 1 → cs_1 ln xs L Kb u τ x4) ∧ (((xs x4.toNatClampNeg &&& 31) = 2 → cs_2 ln xs L Kb u τ x4) ∧ (((xs x4.toNatClampNeg &&& 31) = 3 → cs_3 ln xs L Kb u τ x4) ∧ (((xs x4.toNatClampNeg &&& 31) = 4 → cs_4 ln xs L Kb u τ x4) ∧ (((xs x4.toNatClampNeg &&& 31) = 5 → cs_5 ln xs L Kb u τ x4) ∧ (((xs x4.toNatClampNeg &&& 31) = 6 → cs_6 ln xs L Kb u τ x4) ∧ (((xs x4.toNatClampNeg &&& 31) = 7 → cs_7 ln xs L Kb u τ x4) ∧ (((xs x4.toNatClampNeg &&& 31) = 8 → cs_8 ln xs L Kb u τ x4) ∧ (((xs x4.toNatClampNeg &&& 31) = 9 → cs_9 ln xs L Kb u τ x4) ∧ (((xs x4.toNatClampNeg &&& 31) = 10 → cs_10 ln xs L Kb u τ x4) ∧ (((xs x4.toNatClampNeg &&& 31) = 11 → cs_11 ln xs L Kb u τ x4) ∧ (((xs x4.toNatClampNeg &&& 31) = 12 → cs_12 ln xs L Kb u τ x4) ∧ (((xs x4.toNatClampNeg &&& 31) = 13 → cs_13 ln xs L Kb u τ x4) ∧ (((xs x4.toNatClampNeg &&& 31) = 14 → cs_14 ln xs L Kb u τ x4) ∧ (((xs x4.toNatClampNeg &&& 31) = 15 → cs_15 ln xs L Kb u τ x4) ∧ (((xs x4.toNatClampNeg &&& 31) = 16 → cs_16 ln xs L Kb u τ x4) ∧ (((xs x4.toNatClampNeg &&& 31) = 17 → cs_17 ln xs L Kb u τ x4) ∧ ((¬ (xs x4.toNatClampNeg &&& 31) = 0 ∧ ¬ (xs x4.toNatClampNeg &&& 31) = 1 ∧ ¬ (xs x4.toNatClampNeg &&& 31) = 2 ∧ ¬ (xs x4.toNatClampNeg &&& 31) = 3 ∧ ¬ (xs x4.toNatClampNeg &&& 31) = 4 ∧ ¬ (xs x4.toNatClampNeg &&& 31) = 5 ∧ ¬ (xs x4.toNatClampNeg &&& 31) = 6 ∧ ¬ (xs x4.toNatClampNeg &&& 31) = 7 ∧ ¬ (xs x4.toNatClampNeg &&& 31) = 8 ∧ ¬ (xs x4.toNatClampNeg &&& 31) = 9 ∧ ¬ (xs x4.toNatClampNeg &&& 31) = 10 ∧ ¬ (xs x4.toNatClampNeg &&& 31) = 11 ∧ ¬ (xs x4.toNatClampNeg &&& 31) = 12 ∧ ¬ (xs x4.toNatClampNeg &&& 31) = 13 ∧ ¬ (xs x4.toNatClampNeg &&& 31) = 14 ∧ ¬ (xs x4.toNatClampNeg &&& 31) = 15 ∧ ¬ (xs x4.toNatClampNeg &&& 31) = 16 ∧ ¬ (xs x4.toNatClampNeg &&& 31) = 17) → Kb u τ (x4 + 4))))))))))))))))))))))
def lp_law (ln : Nat → Nat) (xs : Nat → Int32) (L : Nat) : Nat → S2 → CS → Int32 → Prop
  | 0 => fun _ _ _ => False
  | n + 1 => lb_law ln xs L (lp_law ln xs L n)
set_option maxHeartbeats 4000000 in
set_option maxRecDepth 100000 in
theorem wc_0 {p : Program} {l : Launch} {e : Env} {s : State} {m : MethodId} {below : List Frame} {meth : Method} {c : Code} {D : va_G} {ad ln am : Nat → Nat} {cI cZ cL : ClassId} {o b L : Nat} {xs : Nat → Int32} {A : Nat → Prop} {Q : State → Prop} {Ts : List Cond} {Kb : S2 → CS → Int32 → Prop} (hB : MB p s m #[Value.ref b] meth c code 7 (some .boolean) RL) (hX : MX l A s #[Value.ref b]) (hT : ∀ w ∈ wAll, w ∈ Ts) (hTx : ∀ w ∈ wX, w ∈ Ts) (hTs : ∀ w ∈ Ts, w.before #[Value.ref b] s = true) (hTw : ∀ w ∈ lwH, w ∈ Ts) (hXs : va_X b L xs s s.heap) (hbl : b < s.heap.size) (hbA : ¬ A b) (u : S2) (τ : CS) (x4 : Int32) (H : Heap) (locs : List Loc) (ls : Array Slot) (cx tx : Nat) (hcx : cx < 601000) (htx : tx < 7292000) (hKb : ∀ (u : S2) (τ : CS) (x4 : Int32) (H : Heap) (locs : List Loc) (ls : Array Slot), Kb u τ x4 → WD D (tyL cI cZ cL) (LW ad ln cI o cL am lnM cZ u τ) A s H locs → lv_has ls 7 [(0, .ref b), (1, .ref (ad 0)), (2, .ref (am 0)), (3, .ref o), (4, .int x4)] → W p l e room_1 s m #[Value.ref b] below meth c H locs (cx + 1) (tx + 6) Q (F0 m 33 ls [])) (hq : cs_0 ln xs L Kb u τ x4) (hw : WD D (tyL cI cZ cL) (LW ad ln cI o cL am lnM cZ u τ) A s H locs) (hl : lv_has ls 7 [(0, .ref b), (1, .ref (ad 0)), (2, .ref (am 0)), (3, .ref o), (4, .int x4)]) : W p l e room_1 s m #[Value.ref b] below meth c H locs cx tx Q (F0 m 136 ls []) := by
  obtain ⟨hx, hb, hr, hml, hown, hts, hlk⟩ := id hB
  unfold cs_0 at hq
  refine lv_aload_n hx hb dL_law_136 rfl (lv_at hl 1 rfl) ?_
  refine lv_aload_n hx hb dL_law_137 rfl (lv_at hl 0 rfl) ?_
  refine lv_iload hx hb dL_law_138 (lv_at hl 4 rfl) ?_
  refine lv_iconst (v := 1) hx hb dL_law_140 (by decide) ?_
  refine lv_iadd hx hb dL_law_141 ?_
  obtain ⟨h1, hq⟩ := hq
  refine va_sld hx hb hXs hbl hbA hw.2.2.2.1 h1 dL_law_142 ?_
  refine l_C (T := TX4) (N := 5) (u := u) (As := [.int (xs (x4 + 1).toNatClampNeg)]) (rest := []) hB hw hl.1 (c_X4_give l D ad ln cI u.1 (xs (x4 + 1).toNatClampNeg) _ hq) m303 m233 m449 m187 m65 rfl ok_X4_give ⟨rfl, rfl, by decide, by decide⟩ rfl rfl (Nat.le_of_ble_eq_true rfl) dL_law_143 ⟨by show _ ≤ 601024; omega, by show _ ≤ 7293000; omega⟩ (fun r2 σ3 H locs hq hw => ?_)
  refine lv_aload_n hx hb dL_law_146 rfl (lv_at hl 2 rfl) ?_
  refine lv_aload_n hx hb dL_law_147 rfl (lv_at hl 0 rfl) ?_
  refine lv_iload hx hb dL_law_148 (lv_at hl 4 rfl) ?_
  refine lv_iconst (v := 1) hx hb dL_law_150 (by decide) ?_
  refine lv_iadd hx hb dL_law_151 ?_
  refine va_sld hx hb hXs hbl hbA hw.2.2.2.1 h1 dL_law_152 ?_
  refine l_M (As := [.int (xs (x4 + 1).toNatClampNeg)]) (rest := [.int r2]) hB hw hl.1 (c_X5_give l D am lnM cI cZ τ (xs (x4 + 1).toNatClampNeg) _ hq) m304 m258 m473 m188 m93 rfl ok_X5_give ⟨rfl, rfl, by decide, by decide⟩ rfl rfl (Nat.le_of_ble_eq_true rfl) dL_law_153 ⟨by show _ ≤ 601024; omega, by show _ ≤ 7293000; omega⟩ (fun r4 τ5 H locs hq hw => ?_)
  refine lv_icmp_eq (tgt := 798) hx hb dL_law_156 (by decide) (fun _ => ?_) (fun c6 => absurd hq.1 c6)
  replace hq := hq.2
  refine lv_iinc (v := x4 + 4) (lv' := [(4, .int (x4 + 4)), (0, .ref b), (1, .ref (ad 0)), (2, .ref (am 0)), (3, .ref o)]) hx hb dL_law_798 hl (k := 4) rfl rfl (by decide) rfl (fun ls hl => ?_)
  refine lv_goto (tgt := 33) hx hb dL_law_801 (by decide) ?_
  refine W.widen (k := cx + 1) (n := tx + 6) (by omega) (by omega) ?_
  exact hKb (σ3, u.2) τ5 (x4 + 4) _ _ _ hq hw (lv_sub hl [1, 2, 3, 4, 0] rfl)
set_option maxHeartbeats 4000000 in
set_option maxRecDepth 100000 in
theorem wc_1 {p : Program} {l : Launch} {e : Env} {s : State} {m : MethodId} {below : List Frame} {meth : Method} {c : Code} {D : va_G} {ad ln am : Nat → Nat} {cI cZ cL : ClassId} {o b L : Nat} {xs : Nat → Int32} {A : Nat → Prop} {Q : State → Prop} {Ts : List Cond} {Kb : S2 → CS → Int32 → Prop} (hB : MB p s m #[Value.ref b] meth c code 7 (some .boolean) RL) (hX : MX l A s #[Value.ref b]) (hT : ∀ w ∈ wAll, w ∈ Ts) (hTx : ∀ w ∈ wX, w ∈ Ts) (hTs : ∀ w ∈ Ts, w.before #[Value.ref b] s = true) (hTw : ∀ w ∈ lwH, w ∈ Ts) (hXs : va_X b L xs s s.heap) (hbl : b < s.heap.size) (hbA : ¬ A b) (u : S2) (τ : CS) (x4 : Int32) (H : Heap) (locs : List Loc) (ls : Array Slot) (cx tx : Nat) (hcx : cx < 601000) (htx : tx < 7292000) (hKb : ∀ (u : S2) (τ : CS) (x4 : Int32) (H : Heap) (locs : List Loc) (ls : Array Slot), Kb u τ x4 → WD D (tyL cI cZ cL) (LW ad ln cI o cL am lnM cZ u τ) A s H locs → lv_has ls 7 [(0, .ref b), (1, .ref (ad 0)), (2, .ref (am 0)), (3, .ref o), (4, .int x4)] → W p l e room_1 s m #[Value.ref b] below meth c H locs (cx + 1) (tx + 6) Q (F0 m 33 ls [])) (hq : cs_1 ln xs L Kb u τ x4) (hw : WD D (tyL cI cZ cL) (LW ad ln cI o cL am lnM cZ u τ) A s H locs) (hl : lv_has ls 7 [(0, .ref b), (1, .ref (ad 0)), (2, .ref (am 0)), (3, .ref o), (4, .int x4)]) : W p l e room_1 s m #[Value.ref b] below meth c H locs cx tx Q (F0 m 161 ls []) := by
  obtain ⟨hx, hb, hr, hml, hown, hts, hlk⟩ := id hB
  unfold cs_1 at hq
  refine lv_aload_n hx hb dL_law_161 rfl (lv_at hl 1 rfl) ?_
  refine lv_aload_n hx hb dL_law_162 rfl (lv_at hl 0 rfl) ?_
  refine lv_iload hx hb dL_law_163 (lv_at hl 4 rfl) ?_
  refine lv_iconst (v := 1) hx hb dL_law_165 (by decide) ?_
  refine lv_iadd hx hb dL_law_166 ?_
  obtain ⟨h7, hq⟩ := hq
  refine va_sld hx hb hXs hbl hbA hw.2.2.2.1 h7 dL_law_167 ?_
  refine lv_aload_n hx hb dL_law_168 rfl (lv_at hl 0 rfl) ?_
  refine lv_iload hx hb dL_law_169 (lv_at hl 4 rfl) ?_
  refine lv_iconst (v := 2) hx hb dL_law_171 (by decide) ?_
  refine lv_iadd hx hb dL_law_172 ?_
  obtain ⟨h8, hq⟩ := hq
  refine va_sld hx hb hXs hbl hbA hw.2.2.2.1 h8 dL_law_173 ?_
  refine l_C (T := TX4) (N := 5) (u := u) (As := [.int (xs (x4 + 1).toNatClampNeg), .int (xs (x4 + 2).toNatClampNeg)]) (rest := []) hB hw hl.1 (c_X4_giveAligned l D ad ln cI u.1 (xs (x4 + 1).toNatClampNeg) (xs (x4 + 2).toNatClampNeg) _ hq) m305 m234 m450 m187 m66 rfl ok_X4_giveAligned ⟨rfl, rfl, by decide, by decide⟩ rfl rfl (Nat.le_of_ble_eq_true rfl) dL_law_174 ⟨by show _ ≤ 601024; omega, by show _ ≤ 7293000; omega⟩ (fun r9 σ10 H locs hq hw => ?_)
  refine lv_aload_n hx hb dL_law_177 rfl (lv_at hl 2 rfl) ?_
  refine lv_aload_n hx hb dL_law_178 rfl (lv_at hl 0 rfl) ?_
  refine lv_iload hx hb dL_law_179 (lv_at hl 4 rfl) ?_
  refine lv_iconst (v := 1) hx hb dL_law_181 (by decide) ?_
  refine lv_iadd hx hb dL_law_182 ?_
  refine va_sld hx hb hXs hbl hbA hw.2.2.2.1 h7 dL_law_183 ?_
  refine lv_aload_n hx hb dL_law_184 rfl (lv_at hl 0 rfl) ?_
  refine lv_iload hx hb dL_law_185 (lv_at hl 4 rfl) ?_
  refine lv_iconst (v := 2) hx hb dL_law_187 (by decide) ?_
  refine lv_iadd hx hb dL_law_188 ?_
  refine va_sld hx hb hXs hbl hbA hw.2.2.2.1 h8 dL_law_189 ?_
  refine l_M (As := [.int (xs (x4 + 1).toNatClampNeg), .int (xs (x4 + 2).toNatClampNeg)]) (rest := [.int r9]) hB hw hl.1 (c_X5_giveAligned l D am lnM cI cZ τ (xs (x4 + 1).toNatClampNeg) (xs (x4 + 2).toNatClampNeg) _ hq) m306 m259 m474 m188 m94 rfl ok_X5_giveAligned ⟨rfl, rfl, by decide, by decide⟩ rfl rfl (Nat.le_of_ble_eq_true rfl) dL_law_190 ⟨by show _ ≤ 601024; omega, by show _ ≤ 7293000; omega⟩ (fun r11 τ12 H locs hq hw => ?_)
  refine lv_icmp_eq (tgt := 798) hx hb dL_law_193 (by decide) (fun _ => ?_) (fun c13 => absurd hq.1 c13)
  replace hq := hq.2
  refine lv_iinc (v := x4 + 4) (lv' := [(4, .int (x4 + 4)), (0, .ref b), (1, .ref (ad 0)), (2, .ref (am 0)), (3, .ref o)]) hx hb dL_law_798 hl (k := 4) rfl rfl (by decide) rfl (fun ls hl => ?_)
  refine lv_goto (tgt := 33) hx hb dL_law_801 (by decide) ?_
  refine W.widen (k := cx + 1) (n := tx + 6) (by omega) (by omega) ?_
  exact hKb (σ10, u.2) τ12 (x4 + 4) _ _ _ hq hw (lv_sub hl [1, 2, 3, 4, 0] rfl)
set_option maxHeartbeats 4000000 in
set_option maxRecDepth 100000 in
theorem wc_2 {p : Program} {l : Launch} {e : Env} {s : State} {m : MethodId} {below : List Frame} {meth : Method} {c : Code} {D : va_G} {ad ln am : Nat → Nat} {cI cZ cL : ClassId} {o b L : Nat} {xs : Nat → Int32} {A : Nat → Prop} {Q : State → Prop} {Ts : List Cond} {Kb : S2 → CS → Int32 → Prop} (hB : MB p s m #[Value.ref b] meth c code 7 (some .boolean) RL) (hX : MX l A s #[Value.ref b]) (hT : ∀ w ∈ wAll, w ∈ Ts) (hTx : ∀ w ∈ wX, w ∈ Ts) (hTs : ∀ w ∈ Ts, w.before #[Value.ref b] s = true) (hTw : ∀ w ∈ lwH, w ∈ Ts) (hXs : va_X b L xs s s.heap) (hbl : b < s.heap.size) (hbA : ¬ A b) (u : S2) (τ : CS) (x4 : Int32) (H : Heap) (locs : List Loc) (ls : Array Slot) (cx tx : Nat) (hcx : cx < 601000) (htx : tx < 7292000) (hKb : ∀ (u : S2) (τ : CS) (x4 : Int32) (H : Heap) (locs : List Loc) (ls : Array Slot), Kb u τ x4 → WD D (tyL cI cZ cL) (LW ad ln cI o cL am lnM cZ u τ) A s H locs → lv_has ls 7 [(0, .ref b), (1, .ref (ad 0)), (2, .ref (am 0)), (3, .ref o), (4, .int x4)] → W p l e room_1 s m #[Value.ref b] below meth c H locs (cx + 1) (tx + 6) Q (F0 m 33 ls [])) (hq : cs_2 ln xs L Kb u τ x4) (hw : WD D (tyL cI cZ cL) (LW ad ln cI o cL am lnM cZ u τ) A s H locs) (hl : lv_has ls 7 [(0, .ref b), (1, .ref (ad 0)), (2, .ref (am 0)), (3, .ref o), (4, .int x4)]) : W p l e room_1 s m #[Value.ref b] below meth c H locs cx tx Q (F0 m 198 ls []) := by
  obtain ⟨hx, hb, hr, hml, hown, hts, hlk⟩ := id hB
  unfold cs_2 at hq
  refine lv_aload_n hx hb dL_law_198 rfl (lv_at hl 1 rfl) ?_
  refine lv_aload_n hx hb dL_law_199 rfl (lv_at hl 0 rfl) ?_
  refine lv_iload hx hb dL_law_200 (lv_at hl 4 rfl) ?_
  refine lv_iconst (v := 1) hx hb dL_law_202 (by decide) ?_
  refine lv_iadd hx hb dL_law_203 ?_
  obtain ⟨h14, hq⟩ := hq
  refine va_sld hx hb hXs hbl hbA hw.2.2.2.1 h14 dL_law_204 ?_
  refine l_C (T := TX4) (N := 5) (u := u) (As := [.int (xs (x4 + 1).toNatClampNeg)]) (rest := []) hB hw hl.1 (c_X4_free l D ad ln cI u.1 (xs (x4 + 1).toNatClampNeg) _ hq) m307 m230 m446 m187 m62 rfl ok_X4_free ⟨rfl, rfl, by decide, by decide⟩ rfl rfl (Nat.le_of_ble_eq_true rfl) dL_law_205 ⟨by show _ ≤ 601024; omega, by show _ ≤ 7293000; omega⟩ (fun r15 σ16 H locs hq hw => ?_)
  refine lv_aload_n hx hb dL_law_208 rfl (lv_at hl 2 rfl) ?_
  refine lv_aload_n hx hb dL_law_209 rfl (lv_at hl 0 rfl) ?_
  refine lv_iload hx hb dL_law_210 (lv_at hl 4 rfl) ?_
  refine lv_iconst (v := 1) hx hb dL_law_212 (by decide) ?_
  refine lv_iadd hx hb dL_law_213 ?_
  refine va_sld hx hb hXs hbl hbA hw.2.2.2.1 h14 dL_law_214 ?_
  refine l_M (As := [.int (xs (x4 + 1).toNatClampNeg)]) (rest := [.int r15]) hB hw hl.1 (c_X5_free l D am lnM cI cZ τ (xs (x4 + 1).toNatClampNeg) _ hq) m308 m254 m469 m188 m89 rfl ok_X5_free ⟨rfl, rfl, by decide, by decide⟩ rfl rfl (Nat.le_of_ble_eq_true rfl) dL_law_215 ⟨by show _ ≤ 601024; omega, by show _ ≤ 7293000; omega⟩ (fun r17 τ18 H locs hq hw => ?_)
  refine lv_icmp_eq (tgt := 798) hx hb dL_law_218 (by decide) (fun _ => ?_) (fun c19 => absurd hq.1 c19)
  replace hq := hq.2
  refine lv_iinc (v := x4 + 4) (lv' := [(4, .int (x4 + 4)), (0, .ref b), (1, .ref (ad 0)), (2, .ref (am 0)), (3, .ref o)]) hx hb dL_law_798 hl (k := 4) rfl rfl (by decide) rfl (fun ls hl => ?_)
  refine lv_goto (tgt := 33) hx hb dL_law_801 (by decide) ?_
  refine W.widen (k := cx + 1) (n := tx + 6) (by omega) (by omega) ?_
  exact hKb (σ16, u.2) τ18 (x4 + 4) _ _ _ hq hw (lv_sub hl [1, 2, 3, 4, 0] rfl)
set_option maxHeartbeats 4000000 in
set_option maxRecDepth 100000 in
theorem wc_3 {p : Program} {l : Launch} {e : Env} {s : State} {m : MethodId} {below : List Frame} {meth : Method} {c : Code} {D : va_G} {ad ln am : Nat → Nat} {cI cZ cL : ClassId} {o b L : Nat} {xs : Nat → Int32} {A : Nat → Prop} {Q : State → Prop} {Ts : List Cond} {Kb : S2 → CS → Int32 → Prop} (hB : MB p s m #[Value.ref b] meth c code 7 (some .boolean) RL) (hX : MX l A s #[Value.ref b]) (hT : ∀ w ∈ wAll, w ∈ Ts) (hTx : ∀ w ∈ wX, w ∈ Ts) (hTs : ∀ w ∈ Ts, w.before #[Value.ref b] s = true) (hTw : ∀ w ∈ lwH, w ∈ Ts) (hXs : va_X b L xs s s.heap) (hbl : b < s.heap.size) (hbA : ¬ A b) (u : S2) (τ : CS) (x4 : Int32) (H : Heap) (locs : List Loc) (ls : Array Slot) (cx tx : Nat) (hcx : cx < 601000) (htx : tx < 7292000) (hKb : ∀ (u : S2) (τ : CS) (x4 : Int32) (H : Heap) (locs : List Loc) (ls : Array Slot), Kb u τ x4 → WD D (tyL cI cZ cL) (LW ad ln cI o cL am lnM cZ u τ) A s H locs → lv_has ls 7 [(0, .ref b), (1, .ref (ad 0)), (2, .ref (am 0)), (3, .ref o), (4, .int x4)] → W p l e room_1 s m #[Value.ref b] below meth c H locs (cx + 1) (tx + 6) Q (F0 m 33 ls [])) (hq : cs_3 ln xs L Kb u τ x4) (hw : WD D (tyL cI cZ cL) (LW ad ln cI o cL am lnM cZ u τ) A s H locs) (hl : lv_has ls 7 [(0, .ref b), (1, .ref (ad 0)), (2, .ref (am 0)), (3, .ref o), (4, .int x4)]) : W p l e room_1 s m #[Value.ref b] below meth c H locs cx tx Q (F0 m 223 ls []) := by
  obtain ⟨hx, hb, hr, hml, hown, hts, hlk⟩ := id hB
  unfold cs_3 at hq
  refine lv_aload_n hx hb dL_law_223 rfl (lv_at hl 1 rfl) ?_
  refine lv_aload_n hx hb dL_law_224 rfl (lv_at hl 0 rfl) ?_
  refine lv_iload hx hb dL_law_225 (lv_at hl 4 rfl) ?_
  refine lv_iconst (v := 1) hx hb dL_law_227 (by decide) ?_
  refine lv_iadd hx hb dL_law_228 ?_
  obtain ⟨h20, hq⟩ := hq
  refine va_sld hx hb hXs hbl hbA hw.2.2.2.1 h20 dL_law_229 ?_
  refine lv_aload_n hx hb dL_law_230 rfl (lv_at hl 0 rfl) ?_
  refine lv_iload hx hb dL_law_231 (lv_at hl 4 rfl) ?_
  refine lv_iconst (v := 2) hx hb dL_law_233 (by decide) ?_
  refine lv_iadd hx hb dL_law_234 ?_
  obtain ⟨h21, hq⟩ := hq
  refine va_sld hx hb hXs hbl hbA hw.2.2.2.1 h21 dL_law_235 ?_
  refine l_C (T := TX4) (N := 5) (u := u) (As := [.int (xs (x4 + 1).toNatClampNeg), .int (xs (x4 + 2).toNatClampNeg)]) (rest := []) hB hw hl.1 (c_X4_grow l D ad ln cI u.1 (xs (x4 + 1).toNatClampNeg) (xs (x4 + 2).toNatClampNeg) _ hq) m309 m236 m452 m187 m68 rfl ok_X4_grow ⟨rfl, rfl, by decide, by decide⟩ rfl rfl (Nat.le_of_ble_eq_true rfl) dL_law_236 ⟨by show _ ≤ 601024; omega, by show _ ≤ 7293000; omega⟩ (fun r22 σ23 H locs hq hw => ?_)
  refine lv_aload_n hx hb dL_law_239 rfl (lv_at hl 2 rfl) ?_
  refine lv_aload_n hx hb dL_law_240 rfl (lv_at hl 0 rfl) ?_
  refine lv_iload hx hb dL_law_241 (lv_at hl 4 rfl) ?_
  refine lv_iconst (v := 1) hx hb dL_law_243 (by decide) ?_
  refine lv_iadd hx hb dL_law_244 ?_
  refine va_sld hx hb hXs hbl hbA hw.2.2.2.1 h20 dL_law_245 ?_
  refine lv_aload_n hx hb dL_law_246 rfl (lv_at hl 0 rfl) ?_
  refine lv_iload hx hb dL_law_247 (lv_at hl 4 rfl) ?_
  refine lv_iconst (v := 2) hx hb dL_law_249 (by decide) ?_
  refine lv_iadd hx hb dL_law_250 ?_
  refine va_sld hx hb hXs hbl hbA hw.2.2.2.1 h21 dL_law_251 ?_
  refine l_M (As := [.int (xs (x4 + 1).toNatClampNeg), .int (xs (x4 + 2).toNatClampNeg)]) (rest := [.int r22]) hB hw hl.1 (c_X5_grow l D am lnM cI cZ τ (xs (x4 + 1).toNatClampNeg) (xs (x4 + 2).toNatClampNeg) _ hq) m310 m263 m478 m188 m98 rfl ok_X5_grow ⟨rfl, rfl, by decide, by decide⟩ rfl rfl (Nat.le_of_ble_eq_true rfl) dL_law_252 ⟨by show _ ≤ 601024; omega, by show _ ≤ 7293000; omega⟩ (fun r24 τ25 H locs hq hw => ?_)
  refine lv_icmp_eq (tgt := 798) hx hb dL_law_255 (by decide) (fun _ => ?_) (fun c26 => absurd hq.1 c26)
  replace hq := hq.2
  refine lv_iinc (v := x4 + 4) (lv' := [(4, .int (x4 + 4)), (0, .ref b), (1, .ref (ad 0)), (2, .ref (am 0)), (3, .ref o)]) hx hb dL_law_798 hl (k := 4) rfl rfl (by decide) rfl (fun ls hl => ?_)
  refine lv_goto (tgt := 33) hx hb dL_law_801 (by decide) ?_
  refine W.widen (k := cx + 1) (n := tx + 6) (by omega) (by omega) ?_
  exact hKb (σ23, u.2) τ25 (x4 + 4) _ _ _ hq hw (lv_sub hl [1, 2, 3, 4, 0] rfl)
set_option maxHeartbeats 4000000 in
set_option maxRecDepth 100000 in
theorem wc_4 {p : Program} {l : Launch} {e : Env} {s : State} {m : MethodId} {below : List Frame} {meth : Method} {c : Code} {D : va_G} {ad ln am : Nat → Nat} {cI cZ cL : ClassId} {o b L : Nat} {xs : Nat → Int32} {A : Nat → Prop} {Q : State → Prop} {Ts : List Cond} {Kb : S2 → CS → Int32 → Prop} (hB : MB p s m #[Value.ref b] meth c code 7 (some .boolean) RL) (hX : MX l A s #[Value.ref b]) (hT : ∀ w ∈ wAll, w ∈ Ts) (hTx : ∀ w ∈ wX, w ∈ Ts) (hTs : ∀ w ∈ Ts, w.before #[Value.ref b] s = true) (hTw : ∀ w ∈ lwH, w ∈ Ts) (hXs : va_X b L xs s s.heap) (hbl : b < s.heap.size) (hbA : ¬ A b) (u : S2) (τ : CS) (x4 : Int32) (H : Heap) (locs : List Loc) (ls : Array Slot) (cx tx : Nat) (hcx : cx < 601000) (htx : tx < 7292000) (hKb : ∀ (u : S2) (τ : CS) (x4 : Int32) (H : Heap) (locs : List Loc) (ls : Array Slot), Kb u τ x4 → WD D (tyL cI cZ cL) (LW ad ln cI o cL am lnM cZ u τ) A s H locs → lv_has ls 7 [(0, .ref b), (1, .ref (ad 0)), (2, .ref (am 0)), (3, .ref o), (4, .int x4)] → W p l e room_1 s m #[Value.ref b] below meth c H locs (cx + 1) (tx + 6) Q (F0 m 33 ls [])) (hq : cs_4 ln xs L Kb u τ x4) (hw : WD D (tyL cI cZ cL) (LW ad ln cI o cL am lnM cZ u τ) A s H locs) (hl : lv_has ls 7 [(0, .ref b), (1, .ref (ad 0)), (2, .ref (am 0)), (3, .ref o), (4, .int x4)]) : W p l e room_1 s m #[Value.ref b] below meth c H locs cx tx Q (F0 m 260 ls []) := by
  obtain ⟨hx, hb, hr, hml, hown, hts, hlk⟩ := id hB
  unfold cs_4 at hq
  refine lv_aload_n hx hb dL_law_260 rfl (lv_at hl 1 rfl) ?_
  refine lv_aload_n hx hb dL_law_261 rfl (lv_at hl 0 rfl) ?_
  refine lv_iload hx hb dL_law_262 (lv_at hl 4 rfl) ?_
  refine lv_iconst (v := 1) hx hb dL_law_264 (by decide) ?_
  refine lv_iadd hx hb dL_law_265 ?_
  obtain ⟨h27, hq⟩ := hq
  refine va_sld hx hb hXs hbl hbA hw.2.2.2.1 h27 dL_law_266 ?_
  refine lv_aload_n hx hb dL_law_267 rfl (lv_at hl 0 rfl) ?_
  refine lv_iload hx hb dL_law_268 (lv_at hl 4 rfl) ?_
  refine lv_iconst (v := 2) hx hb dL_law_270 (by decide) ?_
  refine lv_iadd hx hb dL_law_271 ?_
  obtain ⟨h28, hq⟩ := hq
  refine va_sld hx hb hXs hbl hbA hw.2.2.2.1 h28 dL_law_272 ?_
  refine l_C (T := TX4) (N := 5) (u := u) (As := [.int (xs (x4 + 1).toNatClampNeg), .int (xs (x4 + 2).toNatClampNeg)]) (rest := []) hB hw hl.1 (c_X4_trim l D ad ln cI u.1 (xs (x4 + 1).toNatClampNeg) (xs (x4 + 2).toNatClampNeg) _ hq) m311 m246 m461 m187 m80 rfl ok_X4_trim ⟨rfl, rfl, by decide, by decide⟩ rfl rfl (Nat.le_of_ble_eq_true rfl) dL_law_273 ⟨by show _ ≤ 601024; omega, by show _ ≤ 7293000; omega⟩ (fun r29 σ30 H locs hq hw => ?_)
  refine lv_aload_n hx hb dL_law_276 rfl (lv_at hl 2 rfl) ?_
  refine lv_aload_n hx hb dL_law_277 rfl (lv_at hl 0 rfl) ?_
  refine lv_iload hx hb dL_law_278 (lv_at hl 4 rfl) ?_
  refine lv_iconst (v := 1) hx hb dL_law_280 (by decide) ?_
  refine lv_iadd hx hb dL_law_281 ?_
  refine va_sld hx hb hXs hbl hbA hw.2.2.2.1 h27 dL_law_282 ?_
  refine lv_aload_n hx hb dL_law_283 rfl (lv_at hl 0 rfl) ?_
  refine lv_iload hx hb dL_law_284 (lv_at hl 4 rfl) ?_
  refine lv_iconst (v := 2) hx hb dL_law_286 (by decide) ?_
  refine lv_iadd hx hb dL_law_287 ?_
  refine va_sld hx hb hXs hbl hbA hw.2.2.2.1 h28 dL_law_288 ?_
  refine l_M (As := [.int (xs (x4 + 1).toNatClampNeg), .int (xs (x4 + 2).toNatClampNeg)]) (rest := [.int r29]) hB hw hl.1 (c_X5_trim l D am lnM cI cZ τ (xs (x4 + 1).toNatClampNeg) (xs (x4 + 2).toNatClampNeg) _ hq) m312 m277 m491 m188 m112 rfl ok_X5_trim ⟨rfl, rfl, by decide, by decide⟩ rfl rfl (Nat.le_of_ble_eq_true rfl) dL_law_289 ⟨by show _ ≤ 601024; omega, by show _ ≤ 7293000; omega⟩ (fun r31 τ32 H locs hq hw => ?_)
  refine lv_icmp_eq (tgt := 798) hx hb dL_law_292 (by decide) (fun _ => ?_) (fun c33 => absurd hq.1 c33)
  replace hq := hq.2
  refine lv_iinc (v := x4 + 4) (lv' := [(4, .int (x4 + 4)), (0, .ref b), (1, .ref (ad 0)), (2, .ref (am 0)), (3, .ref o)]) hx hb dL_law_798 hl (k := 4) rfl rfl (by decide) rfl (fun ls hl => ?_)
  refine lv_goto (tgt := 33) hx hb dL_law_801 (by decide) ?_
  refine W.widen (k := cx + 1) (n := tx + 6) (by omega) (by omega) ?_
  exact hKb (σ30, u.2) τ32 (x4 + 4) _ _ _ hq hw (lv_sub hl [1, 2, 3, 4, 0] rfl)
set_option maxHeartbeats 4000000 in
set_option maxRecDepth 100000 in
theorem wc_5 {p : Program} {l : Launch} {e : Env} {s : State} {m : MethodId} {below : List Frame} {meth : Method} {c : Code} {D : va_G} {ad ln am : Nat → Nat} {cI cZ cL : ClassId} {o b L : Nat} {xs : Nat → Int32} {A : Nat → Prop} {Q : State → Prop} {Ts : List Cond} {Kb : S2 → CS → Int32 → Prop} (hB : MB p s m #[Value.ref b] meth c code 7 (some .boolean) RL) (hX : MX l A s #[Value.ref b]) (hT : ∀ w ∈ wAll, w ∈ Ts) (hTx : ∀ w ∈ wX, w ∈ Ts) (hTs : ∀ w ∈ Ts, w.before #[Value.ref b] s = true) (hTw : ∀ w ∈ lwH, w ∈ Ts) (hXs : va_X b L xs s s.heap) (hbl : b < s.heap.size) (hbA : ¬ A b) (u : S2) (τ : CS) (x4 : Int32) (H : Heap) (locs : List Loc) (ls : Array Slot) (cx tx : Nat) (hcx : cx < 601000) (htx : tx < 7292000) (hKb : ∀ (u : S2) (τ : CS) (x4 : Int32) (H : Heap) (locs : List Loc) (ls : Array Slot), Kb u τ x4 → WD D (tyL cI cZ cL) (LW ad ln cI o cL am lnM cZ u τ) A s H locs → lv_has ls 7 [(0, .ref b), (1, .ref (ad 0)), (2, .ref (am 0)), (3, .ref o), (4, .int x4)] → W p l e room_1 s m #[Value.ref b] below meth c H locs (cx + 1) (tx + 6) Q (F0 m 33 ls [])) (hq : cs_5 ln xs L Kb u τ x4) (hw : WD D (tyL cI cZ cL) (LW ad ln cI o cL am lnM cZ u τ) A s H locs) (hl : lv_has ls 7 [(0, .ref b), (1, .ref (ad 0)), (2, .ref (am 0)), (3, .ref o), (4, .int x4)]) : W p l e room_1 s m #[Value.ref b] below meth c H locs cx tx Q (F0 m 297 ls []) := by
  obtain ⟨hx, hb, hr, hml, hown, hts, hlk⟩ := id hB
  unfold cs_5 at hq
  refine lv_aload_n hx hb dL_law_297 rfl (lv_at hl 1 rfl) ?_
  refine lv_aload_n hx hb dL_law_298 rfl (lv_at hl 0 rfl) ?_
  refine lv_iload hx hb dL_law_299 (lv_at hl 4 rfl) ?_
  refine lv_iconst (v := 1) hx hb dL_law_301 (by decide) ?_
  refine lv_iadd hx hb dL_law_302 ?_
  obtain ⟨h34, hq⟩ := hq
  refine va_sld hx hb hXs hbl hbA hw.2.2.2.1 h34 dL_law_303 ?_
  refine lv_aload_n hx hb dL_law_304 rfl (lv_at hl 0 rfl) ?_
  refine lv_iload hx hb dL_law_305 (lv_at hl 4 rfl) ?_
  refine lv_iconst (v := 2) hx hb dL_law_307 (by decide) ?_
  refine lv_iadd hx hb dL_law_308 ?_
  obtain ⟨h35, hq⟩ := hq
  refine va_sld hx hb hXs hbl hbA hw.2.2.2.1 h35 dL_law_309 ?_
  refine lv_if_eq (tgt := 317) hx hb dL_law_310 (by decide) (fun c36 => ?_) (fun c36 => ?_)
  · replace hq := hq.1 c36
    refine lv_iconst (v := 0) hx hb dL_law_317 (by decide) ?_
    refine l_C (T := TX4) (N := 5) (u := u) (As := [.int (xs (x4 + 1).toNatClampNeg), .int 0]) (rest := []) hB hw hl.1 (c_X4_pin l D ad ln cI u.1 (xs (x4 + 1).toNatClampNeg) 0 _ hq) m313 m243 m458 m187 m76 rfl ok_X4_pin ⟨rfl, rfl, by decide, by decide⟩ rfl rfl (Nat.le_of_ble_eq_true rfl) dL_law_318 ⟨by show _ ≤ 601024; omega, by show _ ≤ 7293000; omega⟩ (fun r37 σ38 H locs hq hw => ?_)
    refine lv_aload_n hx hb dL_law_321 rfl (lv_at hl 2 rfl) ?_
    refine lv_aload_n hx hb dL_law_322 rfl (lv_at hl 0 rfl) ?_
    refine lv_iload hx hb dL_law_323 (lv_at hl 4 rfl) ?_
    refine lv_iconst (v := 1) hx hb dL_law_325 (by decide) ?_
    refine lv_iadd hx hb dL_law_326 ?_
    refine va_sld hx hb hXs hbl hbA hw.2.2.2.1 h34 dL_law_327 ?_
    refine lv_aload_n hx hb dL_law_328 rfl (lv_at hl 0 rfl) ?_
    refine lv_iload hx hb dL_law_329 (lv_at hl 4 rfl) ?_
    refine lv_iconst (v := 2) hx hb dL_law_331 (by decide) ?_
    refine lv_iadd hx hb dL_law_332 ?_
    refine va_sld hx hb hXs hbl hbA hw.2.2.2.1 h35 dL_law_333 ?_
    refine lv_if_eq (tgt := 341) hx hb dL_law_334 (by decide) (fun _ => ?_) (fun c0 => absurd c36 c0)
    refine lv_iconst (v := 0) hx hb dL_law_341 (by decide) ?_
    refine l_M (As := [.int (xs (x4 + 1).toNatClampNeg), .int 0]) (rest := [.int r37]) hB hw hl.1 (c_X5_pin l D am lnM cI cZ τ (xs (x4 + 1).toNatClampNeg) 0 _ hq) m314 m270 m484 m188 m105 rfl ok_X5_pin ⟨rfl, rfl, by decide, by decide⟩ rfl rfl (Nat.le_of_ble_eq_true rfl) dL_law_342 ⟨by show _ ≤ 601024; omega, by show _ ≤ 7293000; omega⟩ (fun r40 τ41 H locs hq hw => ?_)
    refine lv_icmp_eq (tgt := 798) hx hb dL_law_345 (by decide) (fun _ => ?_) (fun c42 => absurd hq.1 c42)
    replace hq := hq.2
    refine lv_iinc (v := x4 + 4) (lv' := [(4, .int (x4 + 4)), (0, .ref b), (1, .ref (ad 0)), (2, .ref (am 0)), (3, .ref o)]) hx hb dL_law_798 hl (k := 4) rfl rfl (by decide) rfl (fun ls hl => ?_)
    refine lv_goto (tgt := 33) hx hb dL_law_801 (by decide) ?_
    refine W.widen (k := cx + 1) (n := tx + 6) (by omega) (by omega) ?_
    exact hKb (σ38, u.2) τ41 (x4 + 4) _ _ _ hq hw (lv_sub hl [1, 2, 3, 4, 0] rfl)
  · replace hq := hq.2 c36
    refine lv_iconst (v := 1) hx hb dL_law_313 (by decide) ?_
    refine lv_goto (tgt := 318) hx hb dL_law_314 (by decide) ?_
    refine l_C (T := TX4) (N := 5) (u := u) (As := [.int (xs (x4 + 1).toNatClampNeg), .int 1]) (rest := []) hB hw hl.1 (c_X4_pin l D ad ln cI u.1 (xs (x4 + 1).toNatClampNeg) 1 _ hq) m313 m243 m458 m187 m76 rfl ok_X4_pin ⟨rfl, rfl, by decide, by decide⟩ rfl rfl (Nat.le_of_ble_eq_true rfl) dL_law_318 ⟨by show _ ≤ 601024; omega, by show _ ≤ 7293000; omega⟩ (fun r43 σ44 H locs hq hw => ?_)
    refine lv_aload_n hx hb dL_law_321 rfl (lv_at hl 2 rfl) ?_
    refine lv_aload_n hx hb dL_law_322 rfl (lv_at hl 0 rfl) ?_
    refine lv_iload hx hb dL_law_323 (lv_at hl 4 rfl) ?_
    refine lv_iconst (v := 1) hx hb dL_law_325 (by decide) ?_
    refine lv_iadd hx hb dL_law_326 ?_
    refine va_sld hx hb hXs hbl hbA hw.2.2.2.1 h34 dL_law_327 ?_
    refine lv_aload_n hx hb dL_law_328 rfl (lv_at hl 0 rfl) ?_
    refine lv_iload hx hb dL_law_329 (lv_at hl 4 rfl) ?_
    refine lv_iconst (v := 2) hx hb dL_law_331 (by decide) ?_
    refine lv_iadd hx hb dL_law_332 ?_
    refine va_sld hx hb hXs hbl hbA hw.2.2.2.1 h35 dL_law_333 ?_
    refine lv_if_eq (tgt := 341) hx hb dL_law_334 (by decide) (fun c0 => absurd c0 c36) (fun _ => ?_)
    refine lv_iconst (v := 1) hx hb dL_law_337 (by decide) ?_
    refine lv_goto (tgt := 342) hx hb dL_law_338 (by decide) ?_
    refine l_M (As := [.int (xs (x4 + 1).toNatClampNeg), .int 1]) (rest := [.int r43]) hB hw hl.1 (c_X5_pin l D am lnM cI cZ τ (xs (x4 + 1).toNatClampNeg) 1 _ hq) m314 m270 m484 m188 m105 rfl ok_X5_pin ⟨rfl, rfl, by decide, by decide⟩ rfl rfl (Nat.le_of_ble_eq_true rfl) dL_law_342 ⟨by show _ ≤ 601024; omega, by show _ ≤ 7293000; omega⟩ (fun r46 τ47 H locs hq hw => ?_)
    refine lv_icmp_eq (tgt := 798) hx hb dL_law_345 (by decide) (fun _ => ?_) (fun c48 => absurd hq.1 c48)
    replace hq := hq.2
    refine lv_iinc (v := x4 + 4) (lv' := [(4, .int (x4 + 4)), (0, .ref b), (1, .ref (ad 0)), (2, .ref (am 0)), (3, .ref o)]) hx hb dL_law_798 hl (k := 4) rfl rfl (by decide) rfl (fun ls hl => ?_)
    refine lv_goto (tgt := 33) hx hb dL_law_801 (by decide) ?_
    refine W.widen (k := cx + 1) (n := tx + 6) (by omega) (by omega) ?_
    exact hKb (σ44, u.2) τ47 (x4 + 4) _ _ _ hq hw (lv_sub hl [1, 2, 3, 4, 0] rfl)
set_option maxHeartbeats 4000000 in
set_option maxRecDepth 100000 in
theorem wc_6 {p : Program} {l : Launch} {e : Env} {s : State} {m : MethodId} {below : List Frame} {meth : Method} {c : Code} {D : va_G} {ad ln am : Nat → Nat} {cI cZ cL : ClassId} {o b L : Nat} {xs : Nat → Int32} {A : Nat → Prop} {Q : State → Prop} {Ts : List Cond} {Kb : S2 → CS → Int32 → Prop} (hB : MB p s m #[Value.ref b] meth c code 7 (some .boolean) RL) (hX : MX l A s #[Value.ref b]) (hT : ∀ w ∈ wAll, w ∈ Ts) (hTx : ∀ w ∈ wX, w ∈ Ts) (hTs : ∀ w ∈ Ts, w.before #[Value.ref b] s = true) (hTw : ∀ w ∈ lwH, w ∈ Ts) (hXs : va_X b L xs s s.heap) (hbl : b < s.heap.size) (hbA : ¬ A b) (u : S2) (τ : CS) (x4 : Int32) (H : Heap) (locs : List Loc) (ls : Array Slot) (cx tx : Nat) (hcx : cx < 601000) (htx : tx < 7292000) (hKb : ∀ (u : S2) (τ : CS) (x4 : Int32) (H : Heap) (locs : List Loc) (ls : Array Slot), Kb u τ x4 → WD D (tyL cI cZ cL) (LW ad ln cI o cL am lnM cZ u τ) A s H locs → lv_has ls 7 [(0, .ref b), (1, .ref (ad 0)), (2, .ref (am 0)), (3, .ref o), (4, .int x4)] → W p l e room_1 s m #[Value.ref b] below meth c H locs (cx + 1) (tx + 6) Q (F0 m 33 ls [])) (hq : cs_6 ln xs L Kb u τ x4) (hw : WD D (tyL cI cZ cL) (LW ad ln cI o cL am lnM cZ u τ) A s H locs) (hl : lv_has ls 7 [(0, .ref b), (1, .ref (ad 0)), (2, .ref (am 0)), (3, .ref o), (4, .int x4)]) : W p l e room_1 s m #[Value.ref b] below meth c H locs cx tx Q (F0 m 350 ls []) := by
  obtain ⟨hx, hb, hr, hml, hown, hts, hlk⟩ := id hB
  unfold cs_6 at hq
  refine lv_aload_n hx hb dL_law_350 rfl (lv_at hl 1 rfl) ?_
  refine lv_aload_n hx hb dL_law_351 rfl (lv_at hl 0 rfl) ?_
  refine lv_iload hx hb dL_law_352 (lv_at hl 4 rfl) ?_
  refine lv_iconst (v := 1) hx hb dL_law_354 (by decide) ?_
  refine lv_iadd hx hb dL_law_355 ?_
  obtain ⟨h49, hq⟩ := hq
  refine va_sld hx hb hXs hbl hbA hw.2.2.2.1 h49 dL_law_356 ?_
  refine lv_aload_n hx hb dL_law_357 rfl (lv_at hl 0 rfl) ?_
  refine lv_iload hx hb dL_law_358 (lv_at hl 4 rfl) ?_
  refine lv_iconst (v := 2) hx hb dL_law_360 (by decide) ?_
  refine lv_iadd hx hb dL_law_361 ?_
  obtain ⟨h50, hq⟩ := hq
  refine va_sld hx hb hXs hbl hbA hw.2.2.2.1 h50 dL_law_362 ?_
  refine lv_aload_n hx hb dL_law_363 rfl (lv_at hl 3 rfl) ?_
  refine l_W (As := [.ref (ad 0), .int (xs (x4 + 1).toNatClampNeg), .int (xs (x4 + 2).toNatClampNeg), .ref o]) (rest := []) hB hX hT hTx hTs hw hl.1 (c_L_get l hX.1 D ad ln cI cL o u (xs (x4 + 1).toNatClampNeg) (xs (x4 + 2).toNatClampNeg) _ hq) m315 m501 m182 (hTw _ (by decide)) ok_L_get rfl rfl ⟨by decide, by decide⟩ rfl rfl (Nat.le_of_ble_eq_true rfl) dL_law_364 ⟨by show _ ≤ 601024; omega, by show _ ≤ 7293000; omega⟩ (fun r51 u52 H locs hq hw => ?_)
  refine lv_istore (lv' := [(5, .int r51), (0, .ref b), (1, .ref (ad 0)), (2, .ref (am 0)), (3, .ref o), (4, .int x4)]) hx hb dL_law_367 hl (by decide) rfl (fun ls hl => ?_)
  refine lv_aload_n hx hb dL_law_369 rfl (lv_at hl 3 rfl) ?_
  refine lv_aload_n hx hb dL_law_370 rfl (lv_at hl 1 rfl) ?_
  refine lv_iload hx hb dL_law_371 (lv_at hl 5 rfl) ?_
  refine lv_iconst (v := 1) hx hb dL_law_373 (by decide) ?_
  refine lv_iadd hx hb dL_law_374 ?_
  refine va_sld hx hb hXs hbl hbA hw.2.2.2.1 h49 dL_law_375 ?_
  refine lv_aload_n hx hb dL_law_376 rfl (lv_at hl 1 rfl) ?_
  refine lv_iload hx hb dL_law_377 (lv_at hl 5 rfl) ?_
  refine lv_iconst (v := 2) hx hb dL_law_379 (by decide) ?_
  refine lv_iadd hx hb dL_law_380 ?_
  refine va_sld hx hb hXs hbl hbA hw.2.2.2.1 h50 dL_law_381 ?_
  refine l_M (As := [.int (xs (x4 + 1).toNatClampNeg), .int (xs (x4 + 2).toNatClampNeg)]) (rest := []) hB hw hl.1 (c_X5_get l D am lnM cI cZ τ (xs (x4 + 1).toNatClampNeg) (xs (x4 + 2).toNatClampNeg) _ hq) m317 m257 m472 m188 m92 rfl ok_X5_get ⟨rfl, rfl, by decide, by decide⟩ rfl rfl (Nat.le_of_ble_eq_true rfl) dL_law_382 ⟨by show _ ≤ 601024; omega, by show _ ≤ 7293000; omega⟩ (fun r53 τ54 H locs hq hw => ?_)
  refine lv_istore (lv' := [(6, .int r53), (5, .int r51), (0, .ref b), (1, .ref (ad 0)), (2, .ref (am 0)), (3, .ref o), (4, .int x4)]) hx hb dL_law_385 hl (by decide) rfl (fun ls hl => ?_)
  refine lv_aload_n hx hb dL_law_387 rfl (lv_at hl 4 rfl) ?_
  refine l_M (As := []) (rest := []) hB hw hl.1 (c_X5_thrown l D am lnM cI cZ τ54  _ hq) m318 m275 m489 m188 m110 rfl ok_X5_thrown ⟨rfl, rfl, by decide, by decide⟩ rfl rfl (Nat.le_of_ble_eq_true rfl) dL_law_388 ⟨by show _ ≤ 601024; omega, by show _ ≤ 7293000; omega⟩ (fun r55 τ56 H locs hq hw => ?_)
  refine lv_iload hx hb dL_law_391 (lv_at hl 1 rfl) ?_
  refine lv_icmp_eq (tgt := 398) hx hb dL_law_393 (by decide) (fun _ => ?_) (fun c57 => absurd hq.1 c57)
  replace hq := hq.2
  refine lv_iload hx hb dL_law_398 (lv_at hl 1 rfl) ?_
  refine lv_if_ne (tgt := 415) hx hb dL_law_400 (by decide) (fun c58 => ?_) (fun c58 => ?_)
  · replace hq := hq.1 c58
    refine lv_goto (tgt := 798) hx hb dL_law_415 (by decide) ?_
    refine lv_iinc (v := x4 + 4) (lv' := [(4, .int (x4 + 4)), (6, .int r53), (5, .int r51), (0, .ref b), (1, .ref (ad 0)), (2, .ref (am 0)), (3, .ref o)]) hx hb dL_law_798 hl (k := 6) rfl rfl (by decide) rfl (fun ls hl => ?_)
    refine lv_goto (tgt := 33) hx hb dL_law_801 (by decide) ?_
    exact hKb u52 τ56 (x4 + 4) _ _ _ hq hw (lv_sub hl [3, 4, 5, 6, 0] rfl)
  · replace hq := hq.2 c58
    refine lv_aload_n hx hb dL_law_403 rfl (lv_at hl 5 rfl) ?_
    refine lv_iconst (v := 0) hx hb dL_law_404 (by decide) ?_
    refine l_lald (i := 0) hB hw in01 dL_law_405 ?_
    refine lv_iload hx hb dL_law_406 (lv_at hl 0 rfl) ?_
    refine lv_i2l hx hb dL_law_408 rfl ?_
    refine W.lcmp hx hb dL_law_409 ?_
    refine lv_if_eq (tgt := 415) hx hb dL_law_410 (by decide) (fun _ => ?_) (fun c59 => absurd hq.1 c59)
    replace hq := hq.2
    refine lv_goto (tgt := 798) hx hb dL_law_415 (by decide) ?_
    refine lv_iinc (v := x4 + 4) (lv' := [(4, .int (x4 + 4)), (6, .int r53), (5, .int r51), (0, .ref b), (1, .ref (ad 0)), (2, .ref (am 0)), (3, .ref o)]) hx hb dL_law_798 hl (k := 6) rfl rfl (by decide) rfl (fun ls hl => ?_)
    refine lv_goto (tgt := 33) hx hb dL_law_801 (by decide) ?_
    exact hKb u52 τ56 (x4 + 4) _ _ _ hq hw (lv_sub hl [3, 4, 5, 6, 0] rfl)
set_option maxHeartbeats 4000000 in
set_option maxRecDepth 100000 in
theorem wc_7 {p : Program} {l : Launch} {e : Env} {s : State} {m : MethodId} {below : List Frame} {meth : Method} {c : Code} {D : va_G} {ad ln am : Nat → Nat} {cI cZ cL : ClassId} {o b L : Nat} {xs : Nat → Int32} {A : Nat → Prop} {Q : State → Prop} {Ts : List Cond} {Kb : S2 → CS → Int32 → Prop} (hB : MB p s m #[Value.ref b] meth c code 7 (some .boolean) RL) (hX : MX l A s #[Value.ref b]) (hT : ∀ w ∈ wAll, w ∈ Ts) (hTx : ∀ w ∈ wX, w ∈ Ts) (hTs : ∀ w ∈ Ts, w.before #[Value.ref b] s = true) (hTw : ∀ w ∈ lwH, w ∈ Ts) (hXs : va_X b L xs s s.heap) (hbl : b < s.heap.size) (hbA : ¬ A b) (u : S2) (τ : CS) (x4 : Int32) (H : Heap) (locs : List Loc) (ls : Array Slot) (cx tx : Nat) (hcx : cx < 601000) (htx : tx < 7292000) (hKb : ∀ (u : S2) (τ : CS) (x4 : Int32) (H : Heap) (locs : List Loc) (ls : Array Slot), Kb u τ x4 → WD D (tyL cI cZ cL) (LW ad ln cI o cL am lnM cZ u τ) A s H locs → lv_has ls 7 [(0, .ref b), (1, .ref (ad 0)), (2, .ref (am 0)), (3, .ref o), (4, .int x4)] → W p l e room_1 s m #[Value.ref b] below meth c H locs (cx + 1) (tx + 6) Q (F0 m 33 ls [])) (hq : cs_7 ln xs L Kb u τ x4) (hw : WD D (tyL cI cZ cL) (LW ad ln cI o cL am lnM cZ u τ) A s H locs) (hl : lv_has ls 7 [(0, .ref b), (1, .ref (ad 0)), (2, .ref (am 0)), (3, .ref o), (4, .int x4)]) : W p l e room_1 s m #[Value.ref b] below meth c H locs cx tx Q (F0 m 418 ls []) := by
  obtain ⟨hx, hb, hr, hml, hown, hts, hlk⟩ := id hB
  unfold cs_7 at hq
  refine lv_aload_n hx hb dL_law_418 rfl (lv_at hl 1 rfl) ?_
  refine lv_aload_n hx hb dL_law_419 rfl (lv_at hl 0 rfl) ?_
  refine lv_iload hx hb dL_law_420 (lv_at hl 4 rfl) ?_
  refine lv_iconst (v := 1) hx hb dL_law_422 (by decide) ?_
  refine lv_iadd hx hb dL_law_423 ?_
  obtain ⟨h60, hq⟩ := hq
  refine va_sld hx hb hXs hbl hbA hw.2.2.2.1 h60 dL_law_424 ?_
  refine lv_aload_n hx hb dL_law_425 rfl (lv_at hl 0 rfl) ?_
  refine lv_iload hx hb dL_law_426 (lv_at hl 4 rfl) ?_
  refine lv_iconst (v := 2) hx hb dL_law_428 (by decide) ?_
  refine lv_iadd hx hb dL_law_429 ?_
  obtain ⟨h61, hq⟩ := hq
  refine va_sld hx hb hXs hbl hbA hw.2.2.2.1 h61 dL_law_430 ?_
  refine lv_aload_n hx hb dL_law_431 rfl (lv_at hl 0 rfl) ?_
  refine lv_iload hx hb dL_law_432 (lv_at hl 4 rfl) ?_
  refine lv_iconst (v := 3) hx hb dL_law_434 (by decide) ?_
  refine lv_iadd hx hb dL_law_435 ?_
  obtain ⟨h62, hq⟩ := hq
  refine va_sld hx hb hXs hbl hbA hw.2.2.2.1 h62 dL_law_436 ?_
  refine lv_aload_n hx hb dL_law_437 rfl (lv_at hl 3 rfl) ?_
  refine l_W (As := [.ref (ad 0), .int (xs (x4 + 1).toNatClampNeg), .int (xs (x4 + 2).toNatClampNeg), .int (xs (x4 + 3).toNatClampNeg), .ref o]) (rest := []) hB hX hT hTx hTs hw hl.1 (c_L_set l hX.1 D ad ln cI cL o u (xs (x4 + 1).toNatClampNeg) (xs (x4 + 2).toNatClampNeg) (xs (x4 + 3).toNatClampNeg) _ hq) m319 m503 m182 (hTw _ (by decide)) ok_L_set rfl rfl ⟨by decide, by decide⟩ rfl rfl (Nat.le_of_ble_eq_true rfl) dL_law_438 ⟨by show _ ≤ 601024; omega, by show _ ≤ 7293000; omega⟩ (fun r63 u64 H locs hq hw => ?_)
  refine lv_istore (lv' := [(5, .int r63), (0, .ref b), (1, .ref (ad 0)), (2, .ref (am 0)), (3, .ref o), (4, .int x4)]) hx hb dL_law_441 hl (by decide) rfl (fun ls hl => ?_)
  refine lv_aload_n hx hb dL_law_443 rfl (lv_at hl 3 rfl) ?_
  refine lv_aload_n hx hb dL_law_444 rfl (lv_at hl 1 rfl) ?_
  refine lv_iload hx hb dL_law_445 (lv_at hl 5 rfl) ?_
  refine lv_iconst (v := 1) hx hb dL_law_447 (by decide) ?_
  refine lv_iadd hx hb dL_law_448 ?_
  refine va_sld hx hb hXs hbl hbA hw.2.2.2.1 h60 dL_law_449 ?_
  refine lv_aload_n hx hb dL_law_450 rfl (lv_at hl 1 rfl) ?_
  refine lv_iload hx hb dL_law_451 (lv_at hl 5 rfl) ?_
  refine lv_iconst (v := 2) hx hb dL_law_453 (by decide) ?_
  refine lv_iadd hx hb dL_law_454 ?_
  refine va_sld hx hb hXs hbl hbA hw.2.2.2.1 h61 dL_law_455 ?_
  refine lv_aload_n hx hb dL_law_456 rfl (lv_at hl 1 rfl) ?_
  refine lv_iload hx hb dL_law_457 (lv_at hl 5 rfl) ?_
  refine lv_iconst (v := 3) hx hb dL_law_459 (by decide) ?_
  refine lv_iadd hx hb dL_law_460 ?_
  refine va_sld hx hb hXs hbl hbA hw.2.2.2.1 h62 dL_law_461 ?_
  refine l_M (As := [.int (xs (x4 + 1).toNatClampNeg), .int (xs (x4 + 2).toNatClampNeg), .int (xs (x4 + 3).toNatClampNeg)]) (rest := []) hB hw hl.1 (c_X5_set l D am lnM cI cZ τ (xs (x4 + 1).toNatClampNeg) (xs (x4 + 2).toNatClampNeg) (xs (x4 + 3).toNatClampNeg) _ hq) m320 m272 m486 m188 m107 rfl ok_X5_set ⟨rfl, rfl, by decide, by decide⟩ rfl rfl (Nat.le_of_ble_eq_true rfl) dL_law_462 ⟨by show _ ≤ 601024; omega, by show _ ≤ 7293000; omega⟩ (fun r65 τ66 H locs hq hw => ?_)
  refine lv_istore (lv' := [(6, .int r65), (5, .int r63), (0, .ref b), (1, .ref (ad 0)), (2, .ref (am 0)), (3, .ref o), (4, .int x4)]) hx hb dL_law_465 hl (by decide) rfl (fun ls hl => ?_)
  refine lv_aload_n hx hb dL_law_467 rfl (lv_at hl 4 rfl) ?_
  refine l_M (As := []) (rest := []) hB hw hl.1 (c_X5_thrown l D am lnM cI cZ τ66  _ hq) m318 m275 m489 m188 m110 rfl ok_X5_thrown ⟨rfl, rfl, by decide, by decide⟩ rfl rfl (Nat.le_of_ble_eq_true rfl) dL_law_468 ⟨by show _ ≤ 601024; omega, by show _ ≤ 7293000; omega⟩ (fun r67 τ68 H locs hq hw => ?_)
  refine lv_iload hx hb dL_law_471 (lv_at hl 1 rfl) ?_
  refine lv_icmp_eq (tgt := 478) hx hb dL_law_473 (by decide) (fun _ => ?_) (fun c69 => absurd hq.1 c69)
  replace hq := hq.2
  refine lv_iload hx hb dL_law_478 (lv_at hl 1 rfl) ?_
  refine lv_if_ne (tgt := 495) hx hb dL_law_480 (by decide) (fun c70 => ?_) (fun c70 => ?_)
  · replace hq := hq.1 c70
    refine lv_goto (tgt := 798) hx hb dL_law_495 (by decide) ?_
    refine lv_iinc (v := x4 + 4) (lv' := [(4, .int (x4 + 4)), (6, .int r65), (5, .int r63), (0, .ref b), (1, .ref (ad 0)), (2, .ref (am 0)), (3, .ref o)]) hx hb dL_law_798 hl (k := 6) rfl rfl (by decide) rfl (fun ls hl => ?_)
    refine lv_goto (tgt := 33) hx hb dL_law_801 (by decide) ?_
    exact hKb u64 τ68 (x4 + 4) _ _ _ hq hw (lv_sub hl [3, 4, 5, 6, 0] rfl)
  · replace hq := hq.2 c70
    refine lv_aload_n hx hb dL_law_483 rfl (lv_at hl 5 rfl) ?_
    refine lv_iconst (v := 0) hx hb dL_law_484 (by decide) ?_
    refine l_lald (i := 0) hB hw in01 dL_law_485 ?_
    refine lv_iload hx hb dL_law_486 (lv_at hl 0 rfl) ?_
    refine lv_i2l hx hb dL_law_488 rfl ?_
    refine W.lcmp hx hb dL_law_489 ?_
    refine lv_if_eq (tgt := 495) hx hb dL_law_490 (by decide) (fun _ => ?_) (fun c71 => absurd hq.1 c71)
    replace hq := hq.2
    refine lv_goto (tgt := 798) hx hb dL_law_495 (by decide) ?_
    refine lv_iinc (v := x4 + 4) (lv' := [(4, .int (x4 + 4)), (6, .int r65), (5, .int r63), (0, .ref b), (1, .ref (ad 0)), (2, .ref (am 0)), (3, .ref o)]) hx hb dL_law_798 hl (k := 6) rfl rfl (by decide) rfl (fun ls hl => ?_)
    refine lv_goto (tgt := 33) hx hb dL_law_801 (by decide) ?_
    exact hKb u64 τ68 (x4 + 4) _ _ _ hq hw (lv_sub hl [3, 4, 5, 6, 0] rfl)
set_option maxHeartbeats 4000000 in
set_option maxRecDepth 100000 in
theorem wc_8 {p : Program} {l : Launch} {e : Env} {s : State} {m : MethodId} {below : List Frame} {meth : Method} {c : Code} {D : va_G} {ad ln am : Nat → Nat} {cI cZ cL : ClassId} {o b L : Nat} {xs : Nat → Int32} {A : Nat → Prop} {Q : State → Prop} {Ts : List Cond} {Kb : S2 → CS → Int32 → Prop} (hB : MB p s m #[Value.ref b] meth c code 7 (some .boolean) RL) (hX : MX l A s #[Value.ref b]) (hT : ∀ w ∈ wAll, w ∈ Ts) (hTx : ∀ w ∈ wX, w ∈ Ts) (hTs : ∀ w ∈ Ts, w.before #[Value.ref b] s = true) (hTw : ∀ w ∈ lwH, w ∈ Ts) (hXs : va_X b L xs s s.heap) (hbl : b < s.heap.size) (hbA : ¬ A b) (u : S2) (τ : CS) (x4 : Int32) (H : Heap) (locs : List Loc) (ls : Array Slot) (cx tx : Nat) (hcx : cx < 601000) (htx : tx < 7292000) (hKb : ∀ (u : S2) (τ : CS) (x4 : Int32) (H : Heap) (locs : List Loc) (ls : Array Slot), Kb u τ x4 → WD D (tyL cI cZ cL) (LW ad ln cI o cL am lnM cZ u τ) A s H locs → lv_has ls 7 [(0, .ref b), (1, .ref (ad 0)), (2, .ref (am 0)), (3, .ref o), (4, .int x4)] → W p l e room_1 s m #[Value.ref b] below meth c H locs (cx + 1) (tx + 6) Q (F0 m 33 ls [])) (hq : cs_8 ln xs L Kb u τ x4) (hw : WD D (tyL cI cZ cL) (LW ad ln cI o cL am lnM cZ u τ) A s H locs) (hl : lv_has ls 7 [(0, .ref b), (1, .ref (ad 0)), (2, .ref (am 0)), (3, .ref o), (4, .int x4)]) : W p l e room_1 s m #[Value.ref b] below meth c H locs cx tx Q (F0 m 498 ls []) := by
  obtain ⟨hx, hb, hr, hml, hown, hts, hlk⟩ := id hB
  unfold cs_8 at hq
  refine lv_aload_n hx hb dL_law_498 rfl (lv_at hl 1 rfl) ?_
  refine lv_aload_n hx hb dL_law_499 rfl (lv_at hl 0 rfl) ?_
  refine lv_iload hx hb dL_law_500 (lv_at hl 4 rfl) ?_
  refine lv_iconst (v := 1) hx hb dL_law_502 (by decide) ?_
  refine lv_iadd hx hb dL_law_503 ?_
  obtain ⟨h72, hq⟩ := hq
  refine va_sld hx hb hXs hbl hbA hw.2.2.2.1 h72 dL_law_504 ?_
  refine l_C (T := TX4) (N := 5) (u := u) (As := [.int (xs (x4 + 1).toNatClampNeg)]) (rest := []) hB hw hl.1 (c_X4_sizeOf l D ad ln cI u.1 (xs (x4 + 1).toNatClampNeg) _ hq) m321 m245 m460 m187 m79 rfl ok_X4_sizeOf ⟨rfl, rfl, by decide, by decide⟩ rfl rfl (Nat.le_of_ble_eq_true rfl) dL_law_505 ⟨by show _ ≤ 601024; omega, by show _ ≤ 7293000; omega⟩ (fun r73 σ74 H locs hq hw => ?_)
  refine lv_aload_n hx hb dL_law_508 rfl (lv_at hl 2 rfl) ?_
  refine lv_aload_n hx hb dL_law_509 rfl (lv_at hl 0 rfl) ?_
  refine lv_iload hx hb dL_law_510 (lv_at hl 4 rfl) ?_
  refine lv_iconst (v := 1) hx hb dL_law_512 (by decide) ?_
  refine lv_iadd hx hb dL_law_513 ?_
  refine va_sld hx hb hXs hbl hbA hw.2.2.2.1 h72 dL_law_514 ?_
  refine l_M (As := [.int (xs (x4 + 1).toNatClampNeg)]) (rest := [.int r73]) hB hw hl.1 (c_X5_sizeOf l D am lnM cI cZ τ (xs (x4 + 1).toNatClampNeg) _ hq) m322 m273 m487 m188 m108 rfl ok_X5_sizeOf ⟨rfl, rfl, by decide, by decide⟩ rfl rfl (Nat.le_of_ble_eq_true rfl) dL_law_515 ⟨by show _ ≤ 601024; omega, by show _ ≤ 7293000; omega⟩ (fun r75 τ76 H locs hq hw => ?_)
  refine lv_icmp_eq (tgt := 798) hx hb dL_law_518 (by decide) (fun _ => ?_) (fun c77 => absurd hq.1 c77)
  replace hq := hq.2
  refine lv_iinc (v := x4 + 4) (lv' := [(4, .int (x4 + 4)), (0, .ref b), (1, .ref (ad 0)), (2, .ref (am 0)), (3, .ref o)]) hx hb dL_law_798 hl (k := 4) rfl rfl (by decide) rfl (fun ls hl => ?_)
  refine lv_goto (tgt := 33) hx hb dL_law_801 (by decide) ?_
  refine W.widen (k := cx + 1) (n := tx + 6) (by omega) (by omega) ?_
  exact hKb (σ74, u.2) τ76 (x4 + 4) _ _ _ hq hw (lv_sub hl [1, 2, 3, 4, 0] rfl)
set_option maxHeartbeats 4000000 in
set_option maxRecDepth 100000 in
theorem wc_9 {p : Program} {l : Launch} {e : Env} {s : State} {m : MethodId} {below : List Frame} {meth : Method} {c : Code} {D : va_G} {ad ln am : Nat → Nat} {cI cZ cL : ClassId} {o b L : Nat} {xs : Nat → Int32} {A : Nat → Prop} {Q : State → Prop} {Ts : List Cond} {Kb : S2 → CS → Int32 → Prop} (hB : MB p s m #[Value.ref b] meth c code 7 (some .boolean) RL) (hX : MX l A s #[Value.ref b]) (hT : ∀ w ∈ wAll, w ∈ Ts) (hTx : ∀ w ∈ wX, w ∈ Ts) (hTs : ∀ w ∈ Ts, w.before #[Value.ref b] s = true) (hTw : ∀ w ∈ lwH, w ∈ Ts) (hXs : va_X b L xs s s.heap) (hbl : b < s.heap.size) (hbA : ¬ A b) (u : S2) (τ : CS) (x4 : Int32) (H : Heap) (locs : List Loc) (ls : Array Slot) (cx tx : Nat) (hcx : cx < 601000) (htx : tx < 7292000) (hKb : ∀ (u : S2) (τ : CS) (x4 : Int32) (H : Heap) (locs : List Loc) (ls : Array Slot), Kb u τ x4 → WD D (tyL cI cZ cL) (LW ad ln cI o cL am lnM cZ u τ) A s H locs → lv_has ls 7 [(0, .ref b), (1, .ref (ad 0)), (2, .ref (am 0)), (3, .ref o), (4, .int x4)] → W p l e room_1 s m #[Value.ref b] below meth c H locs (cx + 1) (tx + 6) Q (F0 m 33 ls [])) (hq : cs_9 ln xs L Kb u τ x4) (hw : WD D (tyL cI cZ cL) (LW ad ln cI o cL am lnM cZ u τ) A s H locs) (hl : lv_has ls 7 [(0, .ref b), (1, .ref (ad 0)), (2, .ref (am 0)), (3, .ref o), (4, .int x4)]) : W p l e room_1 s m #[Value.ref b] below meth c H locs cx tx Q (F0 m 523 ls []) := by
  obtain ⟨hx, hb, hr, hml, hown, hts, hlk⟩ := id hB
  unfold cs_9 at hq
  refine lv_aload_n hx hb dL_law_523 rfl (lv_at hl 1 rfl) ?_
  refine l_C (T := TX4) (N := 5) (u := u) (As := []) (rest := []) hB hw hl.1 (c_X4_largest l D ad ln cI u.1  _ hq) m323 m238 m453 m187 m70 rfl ok_X4_largest ⟨rfl, rfl, by decide, by decide⟩ rfl rfl (Nat.le_of_ble_eq_true rfl) dL_law_524 ⟨by show _ ≤ 601024; omega, by show _ ≤ 7293000; omega⟩ (fun r78 σ79 H locs hq hw => ?_)
  refine lv_aload_n hx hb dL_law_527 rfl (lv_at hl 2 rfl) ?_
  refine l_M (As := []) (rest := [.int r78]) hB hw hl.1 (c_X5_largest l D am lnM cI cZ τ  _ hq) m324 m267 m481 m188 m102 rfl ok_X5_largest ⟨rfl, rfl, by decide, by decide⟩ rfl rfl (Nat.le_of_ble_eq_true rfl) dL_law_528 ⟨by show _ ≤ 601024; omega, by show _ ≤ 7293000; omega⟩ (fun r80 τ81 H locs hq hw => ?_)
  refine lv_icmp_eq (tgt := 798) hx hb dL_law_531 (by decide) (fun _ => ?_) (fun c82 => absurd hq.1 c82)
  replace hq := hq.2
  refine lv_iinc (v := x4 + 4) (lv' := [(4, .int (x4 + 4)), (0, .ref b), (1, .ref (ad 0)), (2, .ref (am 0)), (3, .ref o)]) hx hb dL_law_798 hl (k := 4) rfl rfl (by decide) rfl (fun ls hl => ?_)
  refine lv_goto (tgt := 33) hx hb dL_law_801 (by decide) ?_
  refine W.widen (k := cx + 1) (n := tx + 6) (by omega) (by omega) ?_
  exact hKb (σ79, u.2) τ81 (x4 + 4) _ _ _ hq hw (lv_sub hl [1, 2, 3, 4, 0] rfl)
set_option maxHeartbeats 4000000 in
set_option maxRecDepth 100000 in
theorem wc_10 {p : Program} {l : Launch} {e : Env} {s : State} {m : MethodId} {below : List Frame} {meth : Method} {c : Code} {D : va_G} {ad ln am : Nat → Nat} {cI cZ cL : ClassId} {o b L : Nat} {xs : Nat → Int32} {A : Nat → Prop} {Q : State → Prop} {Ts : List Cond} {Kb : S2 → CS → Int32 → Prop} (hB : MB p s m #[Value.ref b] meth c code 7 (some .boolean) RL) (hX : MX l A s #[Value.ref b]) (hT : ∀ w ∈ wAll, w ∈ Ts) (hTx : ∀ w ∈ wX, w ∈ Ts) (hTs : ∀ w ∈ Ts, w.before #[Value.ref b] s = true) (hTw : ∀ w ∈ lwH, w ∈ Ts) (hXs : va_X b L xs s s.heap) (hbl : b < s.heap.size) (hbA : ¬ A b) (u : S2) (τ : CS) (x4 : Int32) (H : Heap) (locs : List Loc) (ls : Array Slot) (cx tx : Nat) (hcx : cx < 601000) (htx : tx < 7292000) (hKb : ∀ (u : S2) (τ : CS) (x4 : Int32) (H : Heap) (locs : List Loc) (ls : Array Slot), Kb u τ x4 → WD D (tyL cI cZ cL) (LW ad ln cI o cL am lnM cZ u τ) A s H locs → lv_has ls 7 [(0, .ref b), (1, .ref (ad 0)), (2, .ref (am 0)), (3, .ref o), (4, .int x4)] → W p l e room_1 s m #[Value.ref b] below meth c H locs (cx + 1) (tx + 6) Q (F0 m 33 ls [])) (hq : cs_10 ln xs L Kb u τ x4) (hw : WD D (tyL cI cZ cL) (LW ad ln cI o cL am lnM cZ u τ) A s H locs) (hl : lv_has ls 7 [(0, .ref b), (1, .ref (ad 0)), (2, .ref (am 0)), (3, .ref o), (4, .int x4)]) : W p l e room_1 s m #[Value.ref b] below meth c H locs cx tx Q (F0 m 536 ls []) := by
  obtain ⟨hx, hb, hr, hml, hown, hts, hlk⟩ := id hB
  unfold cs_10 at hq
  refine lv_aload_n hx hb dL_law_536 rfl (lv_at hl 1 rfl) ?_
  refine lv_aload_n hx hb dL_law_537 rfl (lv_at hl 0 rfl) ?_
  refine lv_iload hx hb dL_law_538 (lv_at hl 4 rfl) ?_
  refine lv_iconst (v := 1) hx hb dL_law_540 (by decide) ?_
  refine lv_iadd hx hb dL_law_541 ?_
  obtain ⟨h83, hq⟩ := hq
  refine va_sld hx hb hXs hbl hbA hw.2.2.2.1 h83 dL_law_542 ?_
  refine l_C (T := TX4) (N := 5) (u := u) (As := [.int (xs (x4 + 1).toNatClampNeg)]) (rest := []) hB hw hl.1 (c_X4_count l D ad ln cI u.1 (xs (x4 + 1).toNatClampNeg) _ hq) m325 m229 m445 m187 m61 rfl ok_X4_count ⟨rfl, rfl, by decide, by decide⟩ rfl rfl (Nat.le_of_ble_eq_true rfl) dL_law_543 ⟨by show _ ≤ 601024; omega, by show _ ≤ 7293000; omega⟩ (fun r84 σ85 H locs hq hw => ?_)
  refine lv_aload_n hx hb dL_law_546 rfl (lv_at hl 2 rfl) ?_
  refine lv_aload_n hx hb dL_law_547 rfl (lv_at hl 0 rfl) ?_
  refine lv_iload hx hb dL_law_548 (lv_at hl 4 rfl) ?_
  refine lv_iconst (v := 1) hx hb dL_law_550 (by decide) ?_
  refine lv_iadd hx hb dL_law_551 ?_
  refine va_sld hx hb hXs hbl hbA hw.2.2.2.1 h83 dL_law_552 ?_
  refine l_M (As := [.int (xs (x4 + 1).toNatClampNeg)]) (rest := [.int r84]) hB hw hl.1 (c_X5_count l D am lnM cI cZ τ (xs (x4 + 1).toNatClampNeg) _ hq) m326 m251 m466 m188 m86 rfl ok_X5_count ⟨rfl, rfl, by decide, by decide⟩ rfl rfl (Nat.le_of_ble_eq_true rfl) dL_law_553 ⟨by show _ ≤ 601024; omega, by show _ ≤ 7293000; omega⟩ (fun r86 τ87 H locs hq hw => ?_)
  refine lv_icmp_eq (tgt := 798) hx hb dL_law_556 (by decide) (fun _ => ?_) (fun c88 => absurd hq.1 c88)
  replace hq := hq.2
  refine lv_iinc (v := x4 + 4) (lv' := [(4, .int (x4 + 4)), (0, .ref b), (1, .ref (ad 0)), (2, .ref (am 0)), (3, .ref o)]) hx hb dL_law_798 hl (k := 4) rfl rfl (by decide) rfl (fun ls hl => ?_)
  refine lv_goto (tgt := 33) hx hb dL_law_801 (by decide) ?_
  refine W.widen (k := cx + 1) (n := tx + 6) (by omega) (by omega) ?_
  exact hKb (σ85, u.2) τ87 (x4 + 4) _ _ _ hq hw (lv_sub hl [1, 2, 3, 4, 0] rfl)
set_option maxHeartbeats 4000000 in
set_option maxRecDepth 100000 in
theorem wc_11 {p : Program} {l : Launch} {e : Env} {s : State} {m : MethodId} {below : List Frame} {meth : Method} {c : Code} {D : va_G} {ad ln am : Nat → Nat} {cI cZ cL : ClassId} {o b L : Nat} {xs : Nat → Int32} {A : Nat → Prop} {Q : State → Prop} {Ts : List Cond} {Kb : S2 → CS → Int32 → Prop} (hB : MB p s m #[Value.ref b] meth c code 7 (some .boolean) RL) (hX : MX l A s #[Value.ref b]) (hT : ∀ w ∈ wAll, w ∈ Ts) (hTx : ∀ w ∈ wX, w ∈ Ts) (hTs : ∀ w ∈ Ts, w.before #[Value.ref b] s = true) (hTw : ∀ w ∈ lwH, w ∈ Ts) (hXs : va_X b L xs s s.heap) (hbl : b < s.heap.size) (hbA : ¬ A b) (u : S2) (τ : CS) (x4 : Int32) (H : Heap) (locs : List Loc) (ls : Array Slot) (cx tx : Nat) (hcx : cx < 601000) (htx : tx < 7292000) (hKb : ∀ (u : S2) (τ : CS) (x4 : Int32) (H : Heap) (locs : List Loc) (ls : Array Slot), Kb u τ x4 → WD D (tyL cI cZ cL) (LW ad ln cI o cL am lnM cZ u τ) A s H locs → lv_has ls 7 [(0, .ref b), (1, .ref (ad 0)), (2, .ref (am 0)), (3, .ref o), (4, .int x4)] → W p l e room_1 s m #[Value.ref b] below meth c H locs (cx + 1) (tx + 6) Q (F0 m 33 ls [])) (hq : cs_11 ln xs L Kb u τ x4) (hw : WD D (tyL cI cZ cL) (LW ad ln cI o cL am lnM cZ u τ) A s H locs) (hl : lv_has ls 7 [(0, .ref b), (1, .ref (ad 0)), (2, .ref (am 0)), (3, .ref o), (4, .int x4)]) : W p l e room_1 s m #[Value.ref b] below meth c H locs cx tx Q (F0 m 561 ls []) := by
  obtain ⟨hx, hb, hr, hml, hown, hts, hlk⟩ := id hB
  unfold cs_11 at hq
  refine lv_aload_n hx hb dL_law_561 rfl (lv_at hl 1 rfl) ?_
  refine lv_aload_n hx hb dL_law_562 rfl (lv_at hl 0 rfl) ?_
  refine lv_iload hx hb dL_law_563 (lv_at hl 4 rfl) ?_
  refine lv_iconst (v := 1) hx hb dL_law_565 (by decide) ?_
  refine lv_iadd hx hb dL_law_566 ?_
  obtain ⟨h89, hq⟩ := hq
  refine va_sld hx hb hXs hbl hbA hw.2.2.2.1 h89 dL_law_567 ?_
  refine l_C (T := TX4) (N := 5) (u := u) (As := [.int (xs (x4 + 1).toNatClampNeg)]) (rest := []) hB hw hl.1 (c_X4_freeAt l D ad ln cI u.1 (xs (x4 + 1).toNatClampNeg) _ hq) m327 m231 m447 m187 m63 rfl ok_X4_freeAt ⟨rfl, rfl, by decide, by decide⟩ rfl rfl (Nat.le_of_ble_eq_true rfl) dL_law_568 ⟨by show _ ≤ 601024; omega, by show _ ≤ 7293000; omega⟩ (fun r90 σ91 H locs hq hw => ?_)
  refine lv_aload_n hx hb dL_law_571 rfl (lv_at hl 2 rfl) ?_
  refine lv_aload_n hx hb dL_law_572 rfl (lv_at hl 0 rfl) ?_
  refine lv_iload hx hb dL_law_573 (lv_at hl 4 rfl) ?_
  refine lv_iconst (v := 1) hx hb dL_law_575 (by decide) ?_
  refine lv_iadd hx hb dL_law_576 ?_
  refine va_sld hx hb hXs hbl hbA hw.2.2.2.1 h89 dL_law_577 ?_
  refine l_M (As := [.int (xs (x4 + 1).toNatClampNeg)]) (rest := [.int r90]) hB hw hl.1 (c_X5_freeAt l D am lnM cI cZ τ (xs (x4 + 1).toNatClampNeg) _ hq) m328 m255 m470 m188 m90 rfl ok_X5_freeAt ⟨rfl, rfl, by decide, by decide⟩ rfl rfl (Nat.le_of_ble_eq_true rfl) dL_law_578 ⟨by show _ ≤ 601024; omega, by show _ ≤ 7293000; omega⟩ (fun r92 τ93 H locs hq hw => ?_)
  refine lv_icmp_eq (tgt := 798) hx hb dL_law_581 (by decide) (fun _ => ?_) (fun c94 => absurd hq.1 c94)
  replace hq := hq.2
  refine lv_iinc (v := x4 + 4) (lv' := [(4, .int (x4 + 4)), (0, .ref b), (1, .ref (ad 0)), (2, .ref (am 0)), (3, .ref o)]) hx hb dL_law_798 hl (k := 4) rfl rfl (by decide) rfl (fun ls hl => ?_)
  refine lv_goto (tgt := 33) hx hb dL_law_801 (by decide) ?_
  refine W.widen (k := cx + 1) (n := tx + 6) (by omega) (by omega) ?_
  exact hKb (σ91, u.2) τ93 (x4 + 4) _ _ _ hq hw (lv_sub hl [1, 2, 3, 4, 0] rfl)
set_option maxHeartbeats 4000000 in
set_option maxRecDepth 100000 in
theorem wc_12 {p : Program} {l : Launch} {e : Env} {s : State} {m : MethodId} {below : List Frame} {meth : Method} {c : Code} {D : va_G} {ad ln am : Nat → Nat} {cI cZ cL : ClassId} {o b L : Nat} {xs : Nat → Int32} {A : Nat → Prop} {Q : State → Prop} {Ts : List Cond} {Kb : S2 → CS → Int32 → Prop} (hB : MB p s m #[Value.ref b] meth c code 7 (some .boolean) RL) (hX : MX l A s #[Value.ref b]) (hT : ∀ w ∈ wAll, w ∈ Ts) (hTx : ∀ w ∈ wX, w ∈ Ts) (hTs : ∀ w ∈ Ts, w.before #[Value.ref b] s = true) (hTw : ∀ w ∈ lwH, w ∈ Ts) (hXs : va_X b L xs s s.heap) (hbl : b < s.heap.size) (hbA : ¬ A b) (u : S2) (τ : CS) (x4 : Int32) (H : Heap) (locs : List Loc) (ls : Array Slot) (cx tx : Nat) (hcx : cx < 601000) (htx : tx < 7292000) (hKb : ∀ (u : S2) (τ : CS) (x4 : Int32) (H : Heap) (locs : List Loc) (ls : Array Slot), Kb u τ x4 → WD D (tyL cI cZ cL) (LW ad ln cI o cL am lnM cZ u τ) A s H locs → lv_has ls 7 [(0, .ref b), (1, .ref (ad 0)), (2, .ref (am 0)), (3, .ref o), (4, .int x4)] → W p l e room_1 s m #[Value.ref b] below meth c H locs (cx + 1) (tx + 6) Q (F0 m 33 ls [])) (hq : cs_12 ln xs L Kb u τ x4) (hw : WD D (tyL cI cZ cL) (LW ad ln cI o cL am lnM cZ u τ) A s H locs) (hl : lv_has ls 7 [(0, .ref b), (1, .ref (ad 0)), (2, .ref (am 0)), (3, .ref o), (4, .int x4)]) : W p l e room_1 s m #[Value.ref b] below meth c H locs cx tx Q (F0 m 586 ls []) := by
  obtain ⟨hx, hb, hr, hml, hown, hts, hlk⟩ := id hB
  unfold cs_12 at hq
  refine lv_aload_n hx hb dL_law_586 rfl (lv_at hl 1 rfl) ?_
  refine lv_aload_n hx hb dL_law_587 rfl (lv_at hl 0 rfl) ?_
  refine lv_iload hx hb dL_law_588 (lv_at hl 4 rfl) ?_
  refine lv_iconst (v := 1) hx hb dL_law_590 (by decide) ?_
  refine lv_iadd hx hb dL_law_591 ?_
  obtain ⟨h95, hq⟩ := hq
  refine va_sld hx hb hXs hbl hbA hw.2.2.2.1 h95 dL_law_592 ?_
  refine lv_aload_n hx hb dL_law_593 rfl (lv_at hl 0 rfl) ?_
  refine lv_iload hx hb dL_law_594 (lv_at hl 4 rfl) ?_
  refine lv_iconst (v := 2) hx hb dL_law_596 (by decide) ?_
  refine lv_iadd hx hb dL_law_597 ?_
  obtain ⟨h96, hq⟩ := hq
  refine va_sld hx hb hXs hbl hbA hw.2.2.2.1 h96 dL_law_598 ?_
  refine lv_aload_n hx hb dL_law_599 rfl (lv_at hl 3 rfl) ?_
  refine l_W (As := [.ref (ad 0), .int (xs (x4 + 1).toNatClampNeg), .int (xs (x4 + 2).toNatClampNeg), .ref o]) (rest := []) hB hX hT hTx hTs hw hl.1 (c_L_branch l hX.1 D ad ln cI cL o u (xs (x4 + 1).toNatClampNeg) (xs (x4 + 2).toNatClampNeg) _ hq) m329 m499 m182 (hTw _ (by decide)) ok_L_branch rfl rfl ⟨by decide, by decide⟩ rfl rfl (Nat.le_of_ble_eq_true rfl) dL_law_600 ⟨by show _ ≤ 601024; omega, by show _ ≤ 7293000; omega⟩ (fun r97 u98 H locs hq hw => ?_)
  refine lv_istore (lv' := [(5, .int r97), (0, .ref b), (1, .ref (ad 0)), (2, .ref (am 0)), (3, .ref o), (4, .int x4)]) hx hb dL_law_603 hl (by decide) rfl (fun ls hl => ?_)
  refine lv_aload_n hx hb dL_law_605 rfl (lv_at hl 3 rfl) ?_
  refine lv_aload_n hx hb dL_law_606 rfl (lv_at hl 1 rfl) ?_
  refine lv_iload hx hb dL_law_607 (lv_at hl 5 rfl) ?_
  refine lv_iconst (v := 1) hx hb dL_law_609 (by decide) ?_
  refine lv_iadd hx hb dL_law_610 ?_
  refine va_sld hx hb hXs hbl hbA hw.2.2.2.1 h95 dL_law_611 ?_
  refine lv_aload_n hx hb dL_law_612 rfl (lv_at hl 1 rfl) ?_
  refine lv_iload hx hb dL_law_613 (lv_at hl 5 rfl) ?_
  refine lv_iconst (v := 2) hx hb dL_law_615 (by decide) ?_
  refine lv_iadd hx hb dL_law_616 ?_
  refine va_sld hx hb hXs hbl hbA hw.2.2.2.1 h96 dL_law_617 ?_
  refine l_M (As := [.int (xs (x4 + 1).toNatClampNeg), .int (xs (x4 + 2).toNatClampNeg)]) (rest := []) hB hw hl.1 (c_X5_branch l D am lnM cI cZ τ (xs (x4 + 1).toNatClampNeg) (xs (x4 + 2).toNatClampNeg) _ hq) m330 m250 m465 m188 m85 rfl ok_X5_branch ⟨rfl, rfl, by decide, by decide⟩ rfl rfl (Nat.le_of_ble_eq_true rfl) dL_law_618 ⟨by show _ ≤ 601024; omega, by show _ ≤ 7293000; omega⟩ (fun r99 τ100 H locs hq hw => ?_)
  refine lv_istore (lv' := [(6, .int r99), (5, .int r97), (0, .ref b), (1, .ref (ad 0)), (2, .ref (am 0)), (3, .ref o), (4, .int x4)]) hx hb dL_law_621 hl (by decide) rfl (fun ls hl => ?_)
  refine lv_aload_n hx hb dL_law_623 rfl (lv_at hl 4 rfl) ?_
  refine l_M (As := []) (rest := []) hB hw hl.1 (c_X5_thrown l D am lnM cI cZ τ100  _ hq) m318 m275 m489 m188 m110 rfl ok_X5_thrown ⟨rfl, rfl, by decide, by decide⟩ rfl rfl (Nat.le_of_ble_eq_true rfl) dL_law_624 ⟨by show _ ≤ 601024; omega, by show _ ≤ 7293000; omega⟩ (fun r101 τ102 H locs hq hw => ?_)
  refine lv_iload hx hb dL_law_627 (lv_at hl 1 rfl) ?_
  refine lv_icmp_eq (tgt := 634) hx hb dL_law_629 (by decide) (fun _ => ?_) (fun c103 => absurd hq.1 c103)
  replace hq := hq.2
  refine lv_iload hx hb dL_law_634 (lv_at hl 1 rfl) ?_
  refine lv_if_ne (tgt := 651) hx hb dL_law_636 (by decide) (fun c104 => ?_) (fun c104 => ?_)
  · replace hq := hq.1 c104
    refine lv_goto (tgt := 798) hx hb dL_law_651 (by decide) ?_
    refine lv_iinc (v := x4 + 4) (lv' := [(4, .int (x4 + 4)), (6, .int r99), (5, .int r97), (0, .ref b), (1, .ref (ad 0)), (2, .ref (am 0)), (3, .ref o)]) hx hb dL_law_798 hl (k := 6) rfl rfl (by decide) rfl (fun ls hl => ?_)
    refine lv_goto (tgt := 33) hx hb dL_law_801 (by decide) ?_
    exact hKb u98 τ102 (x4 + 4) _ _ _ hq hw (lv_sub hl [3, 4, 5, 6, 0] rfl)
  · replace hq := hq.2 c104
    refine lv_aload_n hx hb dL_law_639 rfl (lv_at hl 5 rfl) ?_
    refine lv_iconst (v := 0) hx hb dL_law_640 (by decide) ?_
    refine l_lald (i := 0) hB hw in01 dL_law_641 ?_
    refine lv_iload hx hb dL_law_642 (lv_at hl 0 rfl) ?_
    refine lv_i2l hx hb dL_law_644 rfl ?_
    refine W.lcmp hx hb dL_law_645 ?_
    refine lv_if_eq (tgt := 651) hx hb dL_law_646 (by decide) (fun _ => ?_) (fun c105 => absurd hq.1 c105)
    replace hq := hq.2
    refine lv_goto (tgt := 798) hx hb dL_law_651 (by decide) ?_
    refine lv_iinc (v := x4 + 4) (lv' := [(4, .int (x4 + 4)), (6, .int r99), (5, .int r97), (0, .ref b), (1, .ref (ad 0)), (2, .ref (am 0)), (3, .ref o)]) hx hb dL_law_798 hl (k := 6) rfl rfl (by decide) rfl (fun ls hl => ?_)
    refine lv_goto (tgt := 33) hx hb dL_law_801 (by decide) ?_
    exact hKb u98 τ102 (x4 + 4) _ _ _ hq hw (lv_sub hl [3, 4, 5, 6, 0] rfl)
set_option maxHeartbeats 4000000 in
set_option maxRecDepth 100000 in
theorem wc_13 {p : Program} {l : Launch} {e : Env} {s : State} {m : MethodId} {below : List Frame} {meth : Method} {c : Code} {D : va_G} {ad ln am : Nat → Nat} {cI cZ cL : ClassId} {o b L : Nat} {xs : Nat → Int32} {A : Nat → Prop} {Q : State → Prop} {Ts : List Cond} {Kb : S2 → CS → Int32 → Prop} (hB : MB p s m #[Value.ref b] meth c code 7 (some .boolean) RL) (hX : MX l A s #[Value.ref b]) (hT : ∀ w ∈ wAll, w ∈ Ts) (hTx : ∀ w ∈ wX, w ∈ Ts) (hTs : ∀ w ∈ Ts, w.before #[Value.ref b] s = true) (hTw : ∀ w ∈ lwH, w ∈ Ts) (hXs : va_X b L xs s s.heap) (hbl : b < s.heap.size) (hbA : ¬ A b) (u : S2) (τ : CS) (x4 : Int32) (H : Heap) (locs : List Loc) (ls : Array Slot) (cx tx : Nat) (hcx : cx < 601000) (htx : tx < 7292000) (hKb : ∀ (u : S2) (τ : CS) (x4 : Int32) (H : Heap) (locs : List Loc) (ls : Array Slot), Kb u τ x4 → WD D (tyL cI cZ cL) (LW ad ln cI o cL am lnM cZ u τ) A s H locs → lv_has ls 7 [(0, .ref b), (1, .ref (ad 0)), (2, .ref (am 0)), (3, .ref o), (4, .int x4)] → W p l e room_1 s m #[Value.ref b] below meth c H locs (cx + 1) (tx + 6) Q (F0 m 33 ls [])) (hq : cs_13 ln xs L Kb u τ x4) (hw : WD D (tyL cI cZ cL) (LW ad ln cI o cL am lnM cZ u τ) A s H locs) (hl : lv_has ls 7 [(0, .ref b), (1, .ref (ad 0)), (2, .ref (am 0)), (3, .ref o), (4, .int x4)]) : W p l e room_1 s m #[Value.ref b] below meth c H locs cx tx Q (F0 m 654 ls []) := by
  obtain ⟨hx, hb, hr, hml, hown, hts, hlk⟩ := id hB
  unfold cs_13 at hq
  refine lv_aload_n hx hb dL_law_654 rfl (lv_at hl 1 rfl) ?_
  refine lv_aload_n hx hb dL_law_655 rfl (lv_at hl 0 rfl) ?_
  refine lv_iload hx hb dL_law_656 (lv_at hl 4 rfl) ?_
  refine lv_iconst (v := 1) hx hb dL_law_658 (by decide) ?_
  refine lv_iadd hx hb dL_law_659 ?_
  obtain ⟨h106, hq⟩ := hq
  refine va_sld hx hb hXs hbl hbA hw.2.2.2.1 h106 dL_law_660 ?_
  refine l_C (T := TX4) (N := 5) (u := u) (As := [.int (xs (x4 + 1).toNatClampNeg)]) (rest := []) hB hw hl.1 (c_X4_advise l D ad ln cI u.1 (xs (x4 + 1).toNatClampNeg) _ hq) m287 m224 m440 m187 m56 rfl ok_X4_advise ⟨rfl, rfl, by decide, by decide⟩ rfl rfl (Nat.le_of_ble_eq_true rfl) dL_law_661 ⟨by show _ ≤ 601024; omega, by show _ ≤ 7293000; omega⟩ (fun r107 σ108 H locs hq hw => ?_)
  refine lv_aload_n hx hb dL_law_664 rfl (lv_at hl 2 rfl) ?_
  refine lv_aload_n hx hb dL_law_665 rfl (lv_at hl 0 rfl) ?_
  refine lv_iload hx hb dL_law_666 (lv_at hl 4 rfl) ?_
  refine lv_iconst (v := 1) hx hb dL_law_668 (by decide) ?_
  refine lv_iadd hx hb dL_law_669 ?_
  refine va_sld hx hb hXs hbl hbA hw.2.2.2.1 h106 dL_law_670 ?_
  refine l_M (As := [.int (xs (x4 + 1).toNatClampNeg)]) (rest := [.int r107]) hB hw hl.1 (c_X5_advise l D am lnM cI cZ τ (xs (x4 + 1).toNatClampNeg) _ hq) m288 m248 m463 m188 m83 rfl ok_X5_advise ⟨rfl, rfl, by decide, by decide⟩ rfl rfl (Nat.le_of_ble_eq_true rfl) dL_law_671 ⟨by show _ ≤ 601024; omega, by show _ ≤ 7293000; omega⟩ (fun r109 τ110 H locs hq hw => ?_)
  refine lv_icmp_eq (tgt := 798) hx hb dL_law_674 (by decide) (fun _ => ?_) (fun c111 => absurd hq.1 c111)
  replace hq := hq.2
  refine lv_iinc (v := x4 + 4) (lv' := [(4, .int (x4 + 4)), (0, .ref b), (1, .ref (ad 0)), (2, .ref (am 0)), (3, .ref o)]) hx hb dL_law_798 hl (k := 4) rfl rfl (by decide) rfl (fun ls hl => ?_)
  refine lv_goto (tgt := 33) hx hb dL_law_801 (by decide) ?_
  refine W.widen (k := cx + 1) (n := tx + 6) (by omega) (by omega) ?_
  exact hKb (σ108, u.2) τ110 (x4 + 4) _ _ _ hq hw (lv_sub hl [1, 2, 3, 4, 0] rfl)
set_option maxHeartbeats 4000000 in
set_option maxRecDepth 100000 in
theorem wc_14 {p : Program} {l : Launch} {e : Env} {s : State} {m : MethodId} {below : List Frame} {meth : Method} {c : Code} {D : va_G} {ad ln am : Nat → Nat} {cI cZ cL : ClassId} {o b L : Nat} {xs : Nat → Int32} {A : Nat → Prop} {Q : State → Prop} {Ts : List Cond} {Kb : S2 → CS → Int32 → Prop} (hB : MB p s m #[Value.ref b] meth c code 7 (some .boolean) RL) (hX : MX l A s #[Value.ref b]) (hT : ∀ w ∈ wAll, w ∈ Ts) (hTx : ∀ w ∈ wX, w ∈ Ts) (hTs : ∀ w ∈ Ts, w.before #[Value.ref b] s = true) (hTw : ∀ w ∈ lwH, w ∈ Ts) (hXs : va_X b L xs s s.heap) (hbl : b < s.heap.size) (hbA : ¬ A b) (u : S2) (τ : CS) (x4 : Int32) (H : Heap) (locs : List Loc) (ls : Array Slot) (cx tx : Nat) (hcx : cx < 601000) (htx : tx < 7292000) (hKb : ∀ (u : S2) (τ : CS) (x4 : Int32) (H : Heap) (locs : List Loc) (ls : Array Slot), Kb u τ x4 → WD D (tyL cI cZ cL) (LW ad ln cI o cL am lnM cZ u τ) A s H locs → lv_has ls 7 [(0, .ref b), (1, .ref (ad 0)), (2, .ref (am 0)), (3, .ref o), (4, .int x4)] → W p l e room_1 s m #[Value.ref b] below meth c H locs (cx + 1) (tx + 6) Q (F0 m 33 ls [])) (hq : cs_14 ln xs L Kb u τ x4) (hw : WD D (tyL cI cZ cL) (LW ad ln cI o cL am lnM cZ u τ) A s H locs) (hl : lv_has ls 7 [(0, .ref b), (1, .ref (ad 0)), (2, .ref (am 0)), (3, .ref o), (4, .int x4)]) : W p l e room_1 s m #[Value.ref b] below meth c H locs cx tx Q (F0 m 679 ls []) := by
  obtain ⟨hx, hb, hr, hml, hown, hts, hlk⟩ := id hB
  unfold cs_14 at hq
  refine lv_aload_n hx hb dL_law_679 rfl (lv_at hl 1 rfl) ?_
  refine l_C (T := TX4) (N := 5) (u := u) (As := []) (rest := []) hB hw hl.1 (c_X4_window l D ad ln cI u.1  _ hq) m289 m247 m462 m187 m81 rfl ok_X4_window ⟨rfl, rfl, by decide, by decide⟩ rfl rfl (Nat.le_of_ble_eq_true rfl) dL_law_680 ⟨by show _ ≤ 601024; omega, by show _ ≤ 7293000; omega⟩ (fun r112 σ113 H locs hq hw => ?_)
  refine lv_aload_n hx hb dL_law_683 rfl (lv_at hl 2 rfl) ?_
  refine l_M (As := []) (rest := [.int r112]) hB hw hl.1 (c_X5_window l D am lnM cI cZ τ  _ hq) m290 m278 m492 m188 m113 rfl ok_X5_window ⟨rfl, rfl, by decide, by decide⟩ rfl rfl (Nat.le_of_ble_eq_true rfl) dL_law_684 ⟨by show _ ≤ 601024; omega, by show _ ≤ 7293000; omega⟩ (fun r114 τ115 H locs hq hw => ?_)
  refine lv_icmp_eq (tgt := 798) hx hb dL_law_687 (by decide) (fun _ => ?_) (fun c116 => absurd hq.1 c116)
  replace hq := hq.2
  refine lv_iinc (v := x4 + 4) (lv' := [(4, .int (x4 + 4)), (0, .ref b), (1, .ref (ad 0)), (2, .ref (am 0)), (3, .ref o)]) hx hb dL_law_798 hl (k := 4) rfl rfl (by decide) rfl (fun ls hl => ?_)
  refine lv_goto (tgt := 33) hx hb dL_law_801 (by decide) ?_
  refine W.widen (k := cx + 1) (n := tx + 6) (by omega) (by omega) ?_
  exact hKb (σ113, u.2) τ115 (x4 + 4) _ _ _ hq hw (lv_sub hl [1, 2, 3, 4, 0] rfl)
set_option maxHeartbeats 4000000 in
set_option maxRecDepth 100000 in
theorem wc_15 {p : Program} {l : Launch} {e : Env} {s : State} {m : MethodId} {below : List Frame} {meth : Method} {c : Code} {D : va_G} {ad ln am : Nat → Nat} {cI cZ cL : ClassId} {o b L : Nat} {xs : Nat → Int32} {A : Nat → Prop} {Q : State → Prop} {Ts : List Cond} {Kb : S2 → CS → Int32 → Prop} (hB : MB p s m #[Value.ref b] meth c code 7 (some .boolean) RL) (hX : MX l A s #[Value.ref b]) (hT : ∀ w ∈ wAll, w ∈ Ts) (hTx : ∀ w ∈ wX, w ∈ Ts) (hTs : ∀ w ∈ Ts, w.before #[Value.ref b] s = true) (hTw : ∀ w ∈ lwH, w ∈ Ts) (hXs : va_X b L xs s s.heap) (hbl : b < s.heap.size) (hbA : ¬ A b) (u : S2) (τ : CS) (x4 : Int32) (H : Heap) (locs : List Loc) (ls : Array Slot) (cx tx : Nat) (hcx : cx < 601000) (htx : tx < 7292000) (hKb : ∀ (u : S2) (τ : CS) (x4 : Int32) (H : Heap) (locs : List Loc) (ls : Array Slot), Kb u τ x4 → WD D (tyL cI cZ cL) (LW ad ln cI o cL am lnM cZ u τ) A s H locs → lv_has ls 7 [(0, .ref b), (1, .ref (ad 0)), (2, .ref (am 0)), (3, .ref o), (4, .int x4)] → W p l e room_1 s m #[Value.ref b] below meth c H locs (cx + 1) (tx + 6) Q (F0 m 33 ls [])) (hq : cs_15 ln xs L Kb u τ x4) (hw : WD D (tyL cI cZ cL) (LW ad ln cI o cL am lnM cZ u τ) A s H locs) (hl : lv_has ls 7 [(0, .ref b), (1, .ref (ad 0)), (2, .ref (am 0)), (3, .ref o), (4, .int x4)]) : W p l e room_1 s m #[Value.ref b] below meth c H locs cx tx Q (F0 m 692 ls []) := by
  obtain ⟨hx, hb, hr, hml, hown, hts, hlk⟩ := id hB
  unfold cs_15 at hq
  refine lv_aload_n hx hb dL_law_692 rfl (lv_at hl 1 rfl) ?_
  refine lv_aload_n hx hb dL_law_693 rfl (lv_at hl 0 rfl) ?_
  refine lv_iload hx hb dL_law_694 (lv_at hl 4 rfl) ?_
  refine lv_iconst (v := 1) hx hb dL_law_696 (by decide) ?_
  refine lv_iadd hx hb dL_law_697 ?_
  obtain ⟨h117, hq⟩ := hq
  refine va_sld hx hb hXs hbl hbA hw.2.2.2.1 h117 dL_law_698 ?_
  refine lv_aload_n hx hb dL_law_699 rfl (lv_at hl 0 rfl) ?_
  refine lv_iload hx hb dL_law_700 (lv_at hl 4 rfl) ?_
  refine lv_iconst (v := 2) hx hb dL_law_702 (by decide) ?_
  refine lv_iadd hx hb dL_law_703 ?_
  obtain ⟨h118, hq⟩ := hq
  refine va_sld hx hb hXs hbl hbA hw.2.2.2.1 h118 dL_law_704 ?_
  refine lv_aload_n hx hb dL_law_705 rfl (lv_at hl 3 rfl) ?_
  refine l_W (As := [.ref (ad 0), .int (xs (x4 + 1).toNatClampNeg), .int (xs (x4 + 2).toNatClampNeg), .ref o]) (rest := []) hB hX hT hTx hTs hw hl.1 (c_L_move l hX.1 D ad ln cI cL o u (xs (x4 + 1).toNatClampNeg) (xs (x4 + 2).toNatClampNeg) _ hq) m291 m502 m182 (hTw _ (by decide)) ok_L_move rfl rfl ⟨by decide, by decide⟩ rfl rfl (Nat.le_of_ble_eq_true rfl) dL_law_706 ⟨by show _ ≤ 601024; omega, by show _ ≤ 7293000; omega⟩ (fun r119 u120 H locs hq hw => ?_)
  refine lv_istore (lv' := [(5, .int r119), (0, .ref b), (1, .ref (ad 0)), (2, .ref (am 0)), (3, .ref o), (4, .int x4)]) hx hb dL_law_709 hl (by decide) rfl (fun ls hl => ?_)
  refine lv_aload_n hx hb dL_law_711 rfl (lv_at hl 3 rfl) ?_
  refine lv_aload_n hx hb dL_law_712 rfl (lv_at hl 1 rfl) ?_
  refine lv_iload hx hb dL_law_713 (lv_at hl 5 rfl) ?_
  refine lv_iconst (v := 1) hx hb dL_law_715 (by decide) ?_
  refine lv_iadd hx hb dL_law_716 ?_
  refine va_sld hx hb hXs hbl hbA hw.2.2.2.1 h117 dL_law_717 ?_
  refine lv_aload_n hx hb dL_law_718 rfl (lv_at hl 1 rfl) ?_
  refine lv_iload hx hb dL_law_719 (lv_at hl 5 rfl) ?_
  refine lv_iconst (v := 2) hx hb dL_law_721 (by decide) ?_
  refine lv_iadd hx hb dL_law_722 ?_
  refine va_sld hx hb hXs hbl hbA hw.2.2.2.1 h118 dL_law_723 ?_
  refine l_M (As := [.int (xs (x4 + 1).toNatClampNeg), .int (xs (x4 + 2).toNatClampNeg)]) (rest := []) hB hw hl.1 (c_X5_move l D am lnM cI cZ τ (xs (x4 + 1).toNatClampNeg) (xs (x4 + 2).toNatClampNeg) _ hq) m292 m268 m482 m188 m103 rfl ok_X5_move ⟨rfl, rfl, by decide, by decide⟩ rfl rfl (Nat.le_of_ble_eq_true rfl) dL_law_724 ⟨by show _ ≤ 601024; omega, by show _ ≤ 7293000; omega⟩ (fun r121 τ122 H locs hq hw => ?_)
  refine lv_istore (lv' := [(6, .int r121), (5, .int r119), (0, .ref b), (1, .ref (ad 0)), (2, .ref (am 0)), (3, .ref o), (4, .int x4)]) hx hb dL_law_727 hl (by decide) rfl (fun ls hl => ?_)
  refine lv_aload_n hx hb dL_law_729 rfl (lv_at hl 4 rfl) ?_
  refine l_M (As := []) (rest := []) hB hw hl.1 (c_X5_thrown l D am lnM cI cZ τ122  _ hq) m318 m275 m489 m188 m110 rfl ok_X5_thrown ⟨rfl, rfl, by decide, by decide⟩ rfl rfl (Nat.le_of_ble_eq_true rfl) dL_law_730 ⟨by show _ ≤ 601024; omega, by show _ ≤ 7293000; omega⟩ (fun r123 τ124 H locs hq hw => ?_)
  refine lv_iload hx hb dL_law_733 (lv_at hl 1 rfl) ?_
  refine lv_icmp_eq (tgt := 740) hx hb dL_law_735 (by decide) (fun _ => ?_) (fun c125 => absurd hq.1 c125)
  replace hq := hq.2
  refine lv_iload hx hb dL_law_740 (lv_at hl 1 rfl) ?_
  refine lv_if_ne (tgt := 757) hx hb dL_law_742 (by decide) (fun c126 => ?_) (fun c126 => ?_)
  · replace hq := hq.1 c126
    refine lv_goto (tgt := 798) hx hb dL_law_757 (by decide) ?_
    refine lv_iinc (v := x4 + 4) (lv' := [(4, .int (x4 + 4)), (6, .int r121), (5, .int r119), (0, .ref b), (1, .ref (ad 0)), (2, .ref (am 0)), (3, .ref o)]) hx hb dL_law_798 hl (k := 6) rfl rfl (by decide) rfl (fun ls hl => ?_)
    refine lv_goto (tgt := 33) hx hb dL_law_801 (by decide) ?_
    exact hKb u120 τ124 (x4 + 4) _ _ _ hq hw (lv_sub hl [3, 4, 5, 6, 0] rfl)
  · replace hq := hq.2 c126
    refine lv_aload_n hx hb dL_law_745 rfl (lv_at hl 5 rfl) ?_
    refine lv_iconst (v := 0) hx hb dL_law_746 (by decide) ?_
    refine l_lald (i := 0) hB hw in01 dL_law_747 ?_
    refine lv_iload hx hb dL_law_748 (lv_at hl 0 rfl) ?_
    refine lv_i2l hx hb dL_law_750 rfl ?_
    refine W.lcmp hx hb dL_law_751 ?_
    refine lv_if_eq (tgt := 757) hx hb dL_law_752 (by decide) (fun _ => ?_) (fun c127 => absurd hq.1 c127)
    replace hq := hq.2
    refine lv_goto (tgt := 798) hx hb dL_law_757 (by decide) ?_
    refine lv_iinc (v := x4 + 4) (lv' := [(4, .int (x4 + 4)), (6, .int r121), (5, .int r119), (0, .ref b), (1, .ref (ad 0)), (2, .ref (am 0)), (3, .ref o)]) hx hb dL_law_798 hl (k := 6) rfl rfl (by decide) rfl (fun ls hl => ?_)
    refine lv_goto (tgt := 33) hx hb dL_law_801 (by decide) ?_
    exact hKb u120 τ124 (x4 + 4) _ _ _ hq hw (lv_sub hl [3, 4, 5, 6, 0] rfl)
set_option maxHeartbeats 4000000 in
set_option maxRecDepth 100000 in
theorem wc_16 {p : Program} {l : Launch} {e : Env} {s : State} {m : MethodId} {below : List Frame} {meth : Method} {c : Code} {D : va_G} {ad ln am : Nat → Nat} {cI cZ cL : ClassId} {o b L : Nat} {xs : Nat → Int32} {A : Nat → Prop} {Q : State → Prop} {Ts : List Cond} {Kb : S2 → CS → Int32 → Prop} (hB : MB p s m #[Value.ref b] meth c code 7 (some .boolean) RL) (hX : MX l A s #[Value.ref b]) (hT : ∀ w ∈ wAll, w ∈ Ts) (hTx : ∀ w ∈ wX, w ∈ Ts) (hTs : ∀ w ∈ Ts, w.before #[Value.ref b] s = true) (hTw : ∀ w ∈ lwH, w ∈ Ts) (hXs : va_X b L xs s s.heap) (hbl : b < s.heap.size) (hbA : ¬ A b) (u : S2) (τ : CS) (x4 : Int32) (H : Heap) (locs : List Loc) (ls : Array Slot) (cx tx : Nat) (hcx : cx < 601000) (htx : tx < 7292000) (hKb : ∀ (u : S2) (τ : CS) (x4 : Int32) (H : Heap) (locs : List Loc) (ls : Array Slot), Kb u τ x4 → WD D (tyL cI cZ cL) (LW ad ln cI o cL am lnM cZ u τ) A s H locs → lv_has ls 7 [(0, .ref b), (1, .ref (ad 0)), (2, .ref (am 0)), (3, .ref o), (4, .int x4)] → W p l e room_1 s m #[Value.ref b] below meth c H locs (cx + 1) (tx + 6) Q (F0 m 33 ls [])) (hq : cs_16 ln xs L Kb u τ x4) (hw : WD D (tyL cI cZ cL) (LW ad ln cI o cL am lnM cZ u τ) A s H locs) (hl : lv_has ls 7 [(0, .ref b), (1, .ref (ad 0)), (2, .ref (am 0)), (3, .ref o), (4, .int x4)]) : W p l e room_1 s m #[Value.ref b] below meth c H locs cx tx Q (F0 m 760 ls []) := by
  obtain ⟨hx, hb, hr, hml, hown, hts, hlk⟩ := id hB
  unfold cs_16 at hq
  refine lv_aload_n hx hb dL_law_760 rfl (lv_at hl 1 rfl) ?_
  refine l_C (T := TX4) (N := 5) (u := u) (As := []) (rest := []) hB hw hl.1 (c_X4_apply l D ad ln cI u.1  _ hq) m293 m225 m441 m187 m57 rfl ok_X4_apply ⟨rfl, rfl, by decide, by decide⟩ rfl rfl (Nat.le_of_ble_eq_true rfl) dL_law_761 ⟨by show _ ≤ 601024; omega, by show _ ≤ 7293000; omega⟩ (fun r128 σ129 H locs hq hw => ?_)
  refine lv_aload_n hx hb dL_law_764 rfl (lv_at hl 2 rfl) ?_
  refine l_M (As := []) (rest := [.int r128]) hB hw hl.1 (c_X5_apply l D am lnM cI cZ τ  _ hq) m294 m249 m464 m188 m84 rfl ok_X5_apply ⟨rfl, rfl, by decide, by decide⟩ rfl rfl (Nat.le_of_ble_eq_true rfl) dL_law_765 ⟨by show _ ≤ 601024; omega, by show _ ≤ 7293000; omega⟩ (fun r130 τ131 H locs hq hw => ?_)
  refine lv_icmp_eq (tgt := 798) hx hb dL_law_768 (by decide) (fun _ => ?_) (fun c132 => absurd hq.1 c132)
  replace hq := hq.2
  refine lv_iinc (v := x4 + 4) (lv' := [(4, .int (x4 + 4)), (0, .ref b), (1, .ref (ad 0)), (2, .ref (am 0)), (3, .ref o)]) hx hb dL_law_798 hl (k := 4) rfl rfl (by decide) rfl (fun ls hl => ?_)
  refine lv_goto (tgt := 33) hx hb dL_law_801 (by decide) ?_
  refine W.widen (k := cx + 1) (n := tx + 6) (by omega) (by omega) ?_
  exact hKb (σ129, u.2) τ131 (x4 + 4) _ _ _ hq hw (lv_sub hl [1, 2, 3, 4, 0] rfl)
set_option maxHeartbeats 4000000 in
set_option maxRecDepth 100000 in
theorem wc_17 {p : Program} {l : Launch} {e : Env} {s : State} {m : MethodId} {below : List Frame} {meth : Method} {c : Code} {D : va_G} {ad ln am : Nat → Nat} {cI cZ cL : ClassId} {o b L : Nat} {xs : Nat → Int32} {A : Nat → Prop} {Q : State → Prop} {Ts : List Cond} {Kb : S2 → CS → Int32 → Prop} (hB : MB p s m #[Value.ref b] meth c code 7 (some .boolean) RL) (hX : MX l A s #[Value.ref b]) (hT : ∀ w ∈ wAll, w ∈ Ts) (hTx : ∀ w ∈ wX, w ∈ Ts) (hTs : ∀ w ∈ Ts, w.before #[Value.ref b] s = true) (hTw : ∀ w ∈ lwH, w ∈ Ts) (hXs : va_X b L xs s s.heap) (hbl : b < s.heap.size) (hbA : ¬ A b) (u : S2) (τ : CS) (x4 : Int32) (H : Heap) (locs : List Loc) (ls : Array Slot) (cx tx : Nat) (hcx : cx < 601000) (htx : tx < 7292000) (hKb : ∀ (u : S2) (τ : CS) (x4 : Int32) (H : Heap) (locs : List Loc) (ls : Array Slot), Kb u τ x4 → WD D (tyL cI cZ cL) (LW ad ln cI o cL am lnM cZ u τ) A s H locs → lv_has ls 7 [(0, .ref b), (1, .ref (ad 0)), (2, .ref (am 0)), (3, .ref o), (4, .int x4)] → W p l e room_1 s m #[Value.ref b] below meth c H locs (cx + 1) (tx + 6) Q (F0 m 33 ls [])) (hq : cs_17 ln xs L Kb u τ x4) (hw : WD D (tyL cI cZ cL) (LW ad ln cI o cL am lnM cZ u τ) A s H locs) (hl : lv_has ls 7 [(0, .ref b), (1, .ref (ad 0)), (2, .ref (am 0)), (3, .ref o), (4, .int x4)]) : W p l e room_1 s m #[Value.ref b] below meth c H locs cx tx Q (F0 m 773 ls []) := by
  obtain ⟨hx, hb, hr, hml, hown, hts, hlk⟩ := id hB
  unfold cs_17 at hq
  refine lv_aload_n hx hb dL_law_773 rfl (lv_at hl 1 rfl) ?_
  refine lv_aload_n hx hb dL_law_774 rfl (lv_at hl 0 rfl) ?_
  refine lv_iload hx hb dL_law_775 (lv_at hl 4 rfl) ?_
  refine lv_iconst (v := 1) hx hb dL_law_777 (by decide) ?_
  refine lv_iadd hx hb dL_law_778 ?_
  obtain ⟨h133, hq⟩ := hq
  refine va_sld hx hb hXs hbl hbA hw.2.2.2.1 h133 dL_law_779 ?_
  refine l_C (T := TX4) (N := 5) (u := u) (As := [.int (xs (x4 + 1).toNatClampNeg)]) (rest := []) hB hw hl.1 (c_X4_moved l D ad ln cI u.1 (xs (x4 + 1).toNatClampNeg) _ hq) m295 m241 m456 m187 m73 rfl ok_X4_moved ⟨rfl, rfl, by decide, by decide⟩ rfl rfl (Nat.le_of_ble_eq_true rfl) dL_law_780 ⟨by show _ ≤ 601024; omega, by show _ ≤ 7293000; omega⟩ (fun r134 σ135 H locs hq hw => ?_)
  refine lv_aload_n hx hb dL_law_783 rfl (lv_at hl 2 rfl) ?_
  refine lv_aload_n hx hb dL_law_784 rfl (lv_at hl 0 rfl) ?_
  refine lv_iload hx hb dL_law_785 (lv_at hl 4 rfl) ?_
  refine lv_iconst (v := 1) hx hb dL_law_787 (by decide) ?_
  refine lv_iadd hx hb dL_law_788 ?_
  refine va_sld hx hb hXs hbl hbA hw.2.2.2.1 h133 dL_law_789 ?_
  refine l_M (As := [.int (xs (x4 + 1).toNatClampNeg)]) (rest := [.int r134]) hB hw hl.1 (c_X5_moved l D am lnM cI cZ τ (xs (x4 + 1).toNatClampNeg) _ hq) m296 m269 m483 m188 m104 rfl ok_X5_moved ⟨rfl, rfl, by decide, by decide⟩ rfl rfl (Nat.le_of_ble_eq_true rfl) dL_law_790 ⟨by show _ ≤ 601024; omega, by show _ ≤ 7293000; omega⟩ (fun r136 τ137 H locs hq hw => ?_)
  refine lv_icmp_eq (tgt := 798) hx hb dL_law_793 (by decide) (fun _ => ?_) (fun c138 => absurd hq.1 c138)
  replace hq := hq.2
  refine lv_iinc (v := x4 + 4) (lv' := [(4, .int (x4 + 4)), (0, .ref b), (1, .ref (ad 0)), (2, .ref (am 0)), (3, .ref o)]) hx hb dL_law_798 hl (k := 4) rfl rfl (by decide) rfl (fun ls hl => ?_)
  refine lv_goto (tgt := 33) hx hb dL_law_801 (by decide) ?_
  refine W.widen (k := cx + 1) (n := tx + 6) (by omega) (by omega) ?_
  exact hKb (σ135, u.2) τ137 (x4 + 4) _ _ _ hq hw (lv_sub hl [1, 2, 3, 4, 0] rfl)
set_option maxHeartbeats 4000000 in
set_option maxRecDepth 100000 in
theorem law_loop {p : Program} {l : Launch} {e : Env} {s : State} {m : MethodId} {below : List Frame} {meth : Method} {c : Code} {D : va_G} {ad ln am : Nat → Nat} {cI cZ cL : ClassId} {o b L : Nat} {xs : Nat → Int32} {A : Nat → Prop} {Q : State → Prop} {Ts : List Cond} (hB : MB p s m #[Value.ref b] meth c code 7 (some .boolean) RL) (hX : MX l A s #[Value.ref b]) (hT : ∀ w ∈ wAll, w ∈ Ts) (hTx : ∀ w ∈ wX, w ∈ Ts) (hTs : ∀ w ∈ Ts, w.before #[Value.ref b] s = true) (hTw : ∀ w ∈ lwH, w ∈ Ts) (hXs : va_X b L xs s s.heap) (hbl : b < s.heap.size) (hbA : ¬ A b)
    (hend : ∀ (H : Heap) (locs : List Loc) (ls : Array Slot) (cx tx : Nat), cx < 601000 → tx < 7292000 → va_S A s.heap H locs → W p l e room_1 s m #[Value.ref b] below meth c H locs cx tx Q (F0 m 804 ls [])) :
    ∀ (n : Nat) (u : S2) (τ : CS) (x4 : Int32) (H : Heap) (locs : List Loc) (ls : Array Slot) (cx tx : Nat), cx + n < 601000 → tx + 6 * n < 7292000 → lp_law ln xs L n u τ x4 → WD D (tyL cI cZ cL) (LW ad ln cI o cL am lnM cZ u τ) A s H locs → lv_has ls 7 [(0, .ref b), (1, .ref (ad 0)), (2, .ref (am 0)), (3, .ref o), (4, .int x4)] → W p l e room_1 s m #[Value.ref b] below meth c H locs cx tx Q (F0 m 33 ls []) := by
  obtain ⟨hx, hb, hr, hml, hown, hts, hlk⟩ := id hB
  intro n
  induction n with
  | zero => intro u τ x4 H locs ls cx tx _ _ hq hw hl; exact hq.elim
  | succ n ih =>
    intro u τ x4 H locs ls cx tx hcx htx hq hw hl
    replace hq : lb_law ln xs L (lp_law ln xs L n) u τ x4 := hq
    refine lv_iload hx hb dL_law_33 (lv_at hl 4 rfl) ?_
    refine lv_aload_n hx hb dL_law_35 rfl (lv_at hl 0 rfl) ?_
    refine va_slen hx hb hXs hbl hbA hw.2.2.2.1 dL_law_36 ?_
    refine lv_iconst (v := 4) hx hb dL_law_37 (by decide) ?_
    refine lv_isub hx hb dL_law_38 ?_
    refine lv_icmp_gt (tgt := 804) hx hb dL_law_39 (by decide) (fun _ => hend _ _ _ _ _ (by omega) (by omega) hw.2.2.2.1) (fun c0 => ?_)
    obtain ⟨h0, hq⟩ := hq c0
    refine lv_aload_n hx hb dL_law_42 rfl (lv_at hl 0 rfl) ?_
    refine lv_iload hx hb dL_law_43 (lv_at hl 4 rfl) ?_
    refine va_sld hx hb hXs hbl hbA hw.2.2.2.1 h0 dL_law_45 ?_
    refine lv_bipush (v := 31) hx hb dL_law_46 (by decide) ?_
    refine lv_iand hx hb dL_law_48 ?_
    have hKb := fun (u : S2) (τ : CS) (x4 : Int32) (H : Heap) (locs : List Loc) (ls : Array Slot) (hq : lp_law ln xs L n u τ x4) hw hl => ih u τ x4 H locs ls (cx + 1) (tx + 6) (by omega) (by omega) hq hw hl
    rcases Decidable.em ((xs x4.toNatClampNeg &&& 31) = 0) with q0 | q0
    · refine lv_tableIn (off := 87) (tgt := 136) hx hb dL_law_49 (by rw [q0]; decide) (by rw [q0]; decide) (by rw [q0]; rfl) (by decide) ?_
      exact wc_0 hB hX hT hTx hTs hTw hXs hbl hbA u τ x4 H locs ls cx tx (by omega) (by omega) hKb (hq.1 q0) hw hl
    replace hq := hq.2
    rcases Decidable.em ((xs x4.toNatClampNeg &&& 31) = 1) with q1 | q1
    · refine lv_tableIn (off := 112) (tgt := 161) hx hb dL_law_49 (by rw [q1]; decide) (by rw [q1]; decide) (by rw [q1]; rfl) (by decide) ?_
      exact wc_1 hB hX hT hTx hTs hTw hXs hbl hbA u τ x4 H locs ls cx tx (by omega) (by omega) hKb (hq.1 q1) hw hl
    replace hq := hq.2
    rcases Decidable.em ((xs x4.toNatClampNeg &&& 31) = 2) with q2 | q2
    · refine lv_tableIn (off := 149) (tgt := 198) hx hb dL_law_49 (by rw [q2]; decide) (by rw [q2]; decide) (by rw [q2]; rfl) (by decide) ?_
      exact wc_2 hB hX hT hTx hTs hTw hXs hbl hbA u τ x4 H locs ls cx tx (by omega) (by omega) hKb (hq.1 q2) hw hl
    replace hq := hq.2
    rcases Decidable.em ((xs x4.toNatClampNeg &&& 31) = 3) with q3 | q3
    · refine lv_tableIn (off := 174) (tgt := 223) hx hb dL_law_49 (by rw [q3]; decide) (by rw [q3]; decide) (by rw [q3]; rfl) (by decide) ?_
      exact wc_3 hB hX hT hTx hTs hTw hXs hbl hbA u τ x4 H locs ls cx tx (by omega) (by omega) hKb (hq.1 q3) hw hl
    replace hq := hq.2
    rcases Decidable.em ((xs x4.toNatClampNeg &&& 31) = 4) with q4 | q4
    · refine lv_tableIn (off := 211) (tgt := 260) hx hb dL_law_49 (by rw [q4]; decide) (by rw [q4]; decide) (by rw [q4]; rfl) (by decide) ?_
      exact wc_4 hB hX hT hTx hTs hTw hXs hbl hbA u τ x4 H locs ls cx tx (by omega) (by omega) hKb (hq.1 q4) hw hl
    replace hq := hq.2
    rcases Decidable.em ((xs x4.toNatClampNeg &&& 31) = 5) with q5 | q5
    · refine lv_tableIn (off := 248) (tgt := 297) hx hb dL_law_49 (by rw [q5]; decide) (by rw [q5]; decide) (by rw [q5]; rfl) (by decide) ?_
      exact wc_5 hB hX hT hTx hTs hTw hXs hbl hbA u τ x4 H locs ls cx tx (by omega) (by omega) hKb (hq.1 q5) hw hl
    replace hq := hq.2
    rcases Decidable.em ((xs x4.toNatClampNeg &&& 31) = 6) with q6 | q6
    · refine lv_tableIn (off := 301) (tgt := 350) hx hb dL_law_49 (by rw [q6]; decide) (by rw [q6]; decide) (by rw [q6]; rfl) (by decide) ?_
      exact wc_6 hB hX hT hTx hTs hTw hXs hbl hbA u τ x4 H locs ls cx tx (by omega) (by omega) hKb (hq.1 q6) hw hl
    replace hq := hq.2
    rcases Decidable.em ((xs x4.toNatClampNeg &&& 31) = 7) with q7 | q7
    · refine lv_tableIn (off := 369) (tgt := 418) hx hb dL_law_49 (by rw [q7]; decide) (by rw [q7]; decide) (by rw [q7]; rfl) (by decide) ?_
      exact wc_7 hB hX hT hTx hTs hTw hXs hbl hbA u τ x4 H locs ls cx tx (by omega) (by omega) hKb (hq.1 q7) hw hl
    replace hq := hq.2
    rcases Decidable.em ((xs x4.toNatClampNeg &&& 31) = 8) with q8 | q8
    · refine lv_tableIn (off := 449) (tgt := 498) hx hb dL_law_49 (by rw [q8]; decide) (by rw [q8]; decide) (by rw [q8]; rfl) (by decide) ?_
      exact wc_8 hB hX hT hTx hTs hTw hXs hbl hbA u τ x4 H locs ls cx tx (by omega) (by omega) hKb (hq.1 q8) hw hl
    replace hq := hq.2
    rcases Decidable.em ((xs x4.toNatClampNeg &&& 31) = 9) with q9 | q9
    · refine lv_tableIn (off := 474) (tgt := 523) hx hb dL_law_49 (by rw [q9]; decide) (by rw [q9]; decide) (by rw [q9]; rfl) (by decide) ?_
      exact wc_9 hB hX hT hTx hTs hTw hXs hbl hbA u τ x4 H locs ls cx tx (by omega) (by omega) hKb (hq.1 q9) hw hl
    replace hq := hq.2
    rcases Decidable.em ((xs x4.toNatClampNeg &&& 31) = 10) with q10 | q10
    · refine lv_tableIn (off := 487) (tgt := 536) hx hb dL_law_49 (by rw [q10]; decide) (by rw [q10]; decide) (by rw [q10]; rfl) (by decide) ?_
      exact wc_10 hB hX hT hTx hTs hTw hXs hbl hbA u τ x4 H locs ls cx tx (by omega) (by omega) hKb (hq.1 q10) hw hl
    replace hq := hq.2
    rcases Decidable.em ((xs x4.toNatClampNeg &&& 31) = 11) with q11 | q11
    · refine lv_tableIn (off := 512) (tgt := 561) hx hb dL_law_49 (by rw [q11]; decide) (by rw [q11]; decide) (by rw [q11]; rfl) (by decide) ?_
      exact wc_11 hB hX hT hTx hTs hTw hXs hbl hbA u τ x4 H locs ls cx tx (by omega) (by omega) hKb (hq.1 q11) hw hl
    replace hq := hq.2
    rcases Decidable.em ((xs x4.toNatClampNeg &&& 31) = 12) with q12 | q12
    · refine lv_tableIn (off := 537) (tgt := 586) hx hb dL_law_49 (by rw [q12]; decide) (by rw [q12]; decide) (by rw [q12]; rfl) (by decide) ?_
      exact wc_12 hB hX hT hTx hTs hTw hXs hbl hbA u τ x4 H locs ls cx tx (by omega) (by omega) hKb (hq.1 q12) hw hl
    replace hq := hq.2
    rcases Decidable.em ((xs x4.toNatClampNeg &&& 31) = 13) with q13 | q13
    · refine lv_tableIn (off := 605) (tgt := 654) hx hb dL_law_49 (by rw [q13]; decide) (by rw [q13]; decide) (by rw [q13]; rfl) (by decide) ?_
      exact wc_13 hB hX hT hTx hTs hTw hXs hbl hbA u τ x4 H locs ls cx tx (by omega) (by omega) hKb (hq.1 q13) hw hl
    replace hq := hq.2
    rcases Decidable.em ((xs x4.toNatClampNeg &&& 31) = 14) with q14 | q14
    · refine lv_tableIn (off := 630) (tgt := 679) hx hb dL_law_49 (by rw [q14]; decide) (by rw [q14]; decide) (by rw [q14]; rfl) (by decide) ?_
      exact wc_14 hB hX hT hTx hTs hTw hXs hbl hbA u τ x4 H locs ls cx tx (by omega) (by omega) hKb (hq.1 q14) hw hl
    replace hq := hq.2
    rcases Decidable.em ((xs x4.toNatClampNeg &&& 31) = 15) with q15 | q15
    · refine lv_tableIn (off := 643) (tgt := 692) hx hb dL_law_49 (by rw [q15]; decide) (by rw [q15]; decide) (by rw [q15]; rfl) (by decide) ?_
      exact wc_15 hB hX hT hTx hTs hTw hXs hbl hbA u τ x4 H locs ls cx tx (by omega) (by omega) hKb (hq.1 q15) hw hl
    replace hq := hq.2
    rcases Decidable.em ((xs x4.toNatClampNeg &&& 31) = 16) with q16 | q16
    · refine lv_tableIn (off := 711) (tgt := 760) hx hb dL_law_49 (by rw [q16]; decide) (by rw [q16]; decide) (by rw [q16]; rfl) (by decide) ?_
      exact wc_16 hB hX hT hTx hTs hTw hXs hbl hbA u τ x4 H locs ls cx tx (by omega) (by omega) hKb (hq.1 q16) hw hl
    replace hq := hq.2
    rcases Decidable.em ((xs x4.toNatClampNeg &&& 31) = 17) with q17 | q17
    · refine lv_tableIn (off := 724) (tgt := 773) hx hb dL_law_49 (by rw [q17]; decide) (by rw [q17]; decide) (by rw [q17]; rfl) (by decide) ?_
      exact wc_17 hB hX hT hTx hTs hTw hXs hbl hbA u τ x4 H locs ls cx tx (by omega) (by omega) hKb (hq.1 q17) hw hl
    replace hq := hq.2
    replace hq := hq ⟨q0, q1, q2, q3, q4, q5, q6, q7, q8, q9, q10, q11, q12, q13, q14, q15, q16, q17⟩
    refine lv_tableOut (tgt := 798) hx hb dL_law_49 (sw_out18 q0 q1 q2 q3 q4 q5 q6 q7 q8 q9 q10 q11 q12 q13 q14 q15 q16 q17) (by decide) ?_
    refine lv_iinc (v := x4 + 4) (lv' := [(4, .int (x4 + 4)), (0, .ref b), (1, .ref (ad 0)), (2, .ref (am 0)), (3, .ref o)]) hx hb dL_law_798 hl (k := 4) rfl rfl (by decide) rfl (fun ls hl => ?_)
    refine lv_goto (tgt := 33) hx hb dL_law_801 (by decide) ?_
    refine W.widen (k := cx + 1) (n := tx + 6) (by omega) (by omega) ?_
    exact hKb u τ (x4 + 4) _ _ _ hq hw (lv_sub hl [1, 2, 3, 4, 0] rfl)
