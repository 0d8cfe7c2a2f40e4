/-! X3_depthOfSpine -/
def lb_X3_depthOfSpine_7 (ln : Nat → Nat) (post : Int32 → CS → Prop)  (Kx : CS → Int32 → Prop) (x1 : Int32) (Kb : CS → Int32 → Int32 → Prop) (σ : CS) (x3 x4 : Int32) : Prop :=
  ((x4 < x1 → Kx σ x3) ∧ (¬ x4 < x1 → (vp_in x4 (ln 8) ∧ Kb σ (1 + (if x3 < ((σ.2 8) x4.toNatClampNeg) then ((σ.2 8) x4.toNatClampNeg) else x3)) (x4 + (-1)))))
def lp_X3_depthOfSpine_7 (ln : Nat → Nat) (post : Int32 → CS → Prop)  (Kx : CS → Int32 → Prop) (x1 : Int32) : Nat → CS → Int32 → Int32 → Prop
  | 0 => fun _ _ _ => False
  | n + 1 => lb_X3_depthOfSpine_7 ln post  Kx x1 (lp_X3_depthOfSpine_7 ln post  Kx x1 n)
def wp_X3_depthOfSpine (ln : Nat → Nat) (σ : CS) (p1 p2 : Int32) (post : Int32 → CS → Prop) : Prop :=
  (∃ n3 : Nat, lp_X3_depthOfSpine_7 ln post  (fun σ4 x3_5 => post x3_5 σ4) p1 n3 σ 0 (p2 - 1))
set_option maxHeartbeats 4000000 in
set_option maxRecDepth 100000 in
theorem wl_X3_depthOfSpine_7 {p : Program} {l : Launch} {e : Env} {s : State} {m : MethodId} {args : Array Value} {below : List Frame} {meth : Method} {c : Code} {D : va_G} {ad ln : Nat → Nat} {cI : ClassId} {A : Nat → Prop} {post : Int32 → CS → Prop}  {Kx : CS → Int32 → Prop} {x1 : Int32} (hB : MB p s m args meth c cX3_depthOfSpine 5 (some .int) RX3)  (hKx : ∀ (σ : CS) (x3 : Int32) (H : Heap) (locs : List Loc) (ls : Array Slot), Kx σ x3 → WD D (tyC cI) (cellsC ad ln cI σ) A s H locs → lv_has ls 5 [(3, .int x3)] → W p l e (rmK 0) s m args below meth c H locs 0 0 (MQ below (va_Qi post (Pos0 D (tyC cI) (cellsC ad ln cI) A) A) args s 0 0 A) (F0 m 33 ls [])) :
    ∀ (n : Nat) (σ : CS) (x3 x4 : Int32) (H : Heap) (locs : List Loc) (ls : Array Slot), lp_X3_depthOfSpine_7 ln post  Kx x1 n σ x3 x4 → WD D (tyC cI) (cellsC ad ln cI σ) A s H locs → lv_has ls 5 [(0, .ref (ad 6)), (1, .int x1), (3, .int x3), (4, .int x4)] → W p l e (rmK 0) s m args below meth c H locs 0 0 (MQ below (va_Qi post (Pos0 D (tyC cI) (cellsC ad ln cI) A) A) args s 0 0 A) (F0 m 7 ls []) := by
  obtain ⟨hx, hb, hr, hml, hown, hts, hlk⟩ := id hB
  intro n
  induction n with
  | zero => intro σ x3 x4 H locs ls hq hw hl; exact hq.elim
  | succ n ih =>
    intro σ x3 x4 H locs ls hq hw hl
    replace hq : lb_X3_depthOfSpine_7 ln post  Kx x1 (lp_X3_depthOfSpine_7 ln post  Kx x1 n) σ x3 x4 := hq
    refine lv_iload hx hb dX3_depthOfSpine_7 (lv_at hl 3 rfl) ?_
    refine lv_iload_n hx hb dX3_depthOfSpine_9 rfl (lv_at hl 1 rfl) ?_
    refine lv_icmp_lt (tgt := 33) hx hb dX3_depthOfSpine_10 (by decide) (fun c1 => ?_) (fun c1 => ?_)
    · replace hq := hq.1 c1
      exact hKx σ x3 _ _ _ hq hw (lv_sub hl [2] rfl)
    · replace hq := hq.2 c1
      refine lv_iconst (v := 1) hx hb dX3_depthOfSpine_13 (by decide) ?_
      refine lv_iload_n hx hb dX3_depthOfSpine_14 rfl (lv_at hl 2 rfl) ?_
      refine lv_aload_n hx hb dX3_depthOfSpine_15 rfl (lv_at hl 0 rfl) ?_
      refine gC_6_2 hB hw m137 dX3_depthOfSpine_16 ?_
      refine lv_iload hx hb dX3_depthOfSpine_19 (lv_at hl 3 rfl) ?_
      obtain ⟨h2, hq⟩ := hq
      refine aC_8 (f := (σ.2 8)) hB hw rfl h2 dX3_depthOfSpine_21 ?_
      refine m_max hB hl.1 m356 (Nat.le_of_ble_eq_true rfl) (Nat.le_of_ble_eq_true rfl) (Nat.zero_le _) (Nat.zero_le _) dX3_depthOfSpine_22 ?_
      refine lv_iadd hx hb dX3_depthOfSpine_25 ?_
      refine lv_istore_n (lv' := [(3, .int (1 + (if x3 < ((σ.2 8) x4.toNatClampNeg) then ((σ.2 8) x4.toNatClampNeg) else x3))), (0, .ref (ad 6)), (1, .int x1), (4, .int x4)]) hx hb dX3_depthOfSpine_26 rfl hl (by decide) rfl (fun ls hl => ?_)
      refine lv_iinc (v := x4 + (-1)) (lv' := [(4, .int (x4 + (-1))), (3, .int (1 + (if x3 < ((σ.2 8) x4.toNatClampNeg) then ((σ.2 8) x4.toNatClampNeg) else x3))), (0, .ref (ad 6)), (1, .int x1)]) hx hb dX3_depthOfSpine_27 hl (k := 3) rfl rfl (by decide) rfl (fun ls hl => ?_)
      refine lv_goto (tgt := 7) hx hb dX3_depthOfSpine_30 (by decide) ?_
      exact ih σ (1 + (if x3 < ((σ.2 8) x4.toNatClampNeg) then ((σ.2 8) x4.toNatClampNeg) else x3)) (x4 + (-1)) _ _ _ hq hw (lv_sub hl [2, 3, 1, 0] rfl)
set_option maxHeartbeats 4000000 in
set_option maxRecDepth 100000 in
theorem c_X3_depthOfSpine (l : Launch) (D : va_G) (ad ln : Nat → Nat) (cI : ClassId) (σ : CS) (p1 p2 : Int32) (post : Int32 → CS → Prop) (hq : wp_X3_depthOfSpine ln σ p1 p2 post) : MtI l D (tyC cI) (cellsC ad ln cI) yX3_depthOfSpine cX3_depthOfSpine 5 (some .int) (rmK 0) [.ref (ad 6), .int p1, .int p2] σ post := by
  refine MtI_of (by decide) (Nat.le_of_ble_eq_true rfl) ?_
  intro p e s m below meth c A ls hB hw hl
  replace hB : MB p s m _ meth c cX3_depthOfSpine 5 (some .int) RX3 := hB
  replace hl : lv_has ls 5 [(0, .ref (ad 6)), (1, .int p1), (2, .int p2)] := hl
  obtain ⟨hx, hb, hr, hml, hown, hts, hlk⟩ := id hB
  unfold wp_X3_depthOfSpine at hq
  refine lv_iconst (v := 0) hx hb dX3_depthOfSpine_0 (by decide) ?_
  refine lv_istore_n (lv' := [(3, .int 0), (0, .ref (ad 6)), (1, .int p1), (2, .int p2)]) hx hb dX3_depthOfSpine_1 rfl hl (by decide) rfl (fun ls hl => ?_)
  refine lv_iload_n hx hb dX3_depthOfSpine_2 rfl (lv_at hl 3 rfl) ?_
  refine lv_iconst (v := 1) hx hb dX3_depthOfSpine_3 (by decide) ?_
  refine lv_isub hx hb dX3_depthOfSpine_4 ?_
  refine lv_istore (lv' := [(4, .int (p2 - 1)), (3, .int 0), (0, .ref (ad 6)), (1, .int p1), (2, .int p2)]) hx hb dX3_depthOfSpine_5 hl (by decide) rfl (fun ls hl => ?_)
  obtain ⟨n3, hq⟩ := hq
  refine wl_X3_depthOfSpine_7 hB  (fun σ4 x3_5 H locs ls hq hw hl => ?_) n3 σ 0 (p2 - 1) _ _ _ hq hw (lv_sub hl [2, 3, 1, 0] rfl)
  refine lv_iload_n hx hb dX3_depthOfSpine_33 rfl (lv_at hl 0 rfl) ?_
  exact w_iret hB hw hq dX3_depthOfSpine_34
theorem ok_X3_depthOfSpine : okY yX3_depthOfSpine 2 := ⟨by decide, by decide, by decide +kernel⟩
/-! X3_depth -/
def lb_X3_depth_29 (ln : Nat → Nat) (post : Int32 → CS → Prop)  (Kx : CS → Int32 → Prop) (x1 x2 : Int32) (Kb : CS → Int32 → Prop) (σ : CS) (x3 : Int32) : Prop :=
  ((x3 ≤ 0 → Kx σ x3) ∧ (¬ x3 ≤ 0 → (vp_in (x3 - 1) (ln 7) ∧ (vp_in x2 (ln 4) ∧ ((((σ.2 4) x2.toNatClampNeg) ≤ ((σ.2 7) (x3 - 1).toNatClampNeg) → Kx σ x3) ∧ (¬ ((σ.2 4) x2.toNatClampNeg) ≤ ((σ.2 7) (x3 - 1).toNatClampNeg) → Kb σ (x3 + (-1))))))))
def lp_X3_depth_29 (ln : Nat → Nat) (post : Int32 → CS → Prop)  (Kx : CS → Int32 → Prop) (x1 x2 : Int32) : Nat → CS → Int32 → Prop
  | 0 => fun _ _ => False
  | n + 1 => lb_X3_depth_29 ln post  Kx x1 x2 (lp_X3_depth_29 ln post  Kx x1 x2 n)
def lb_X3_depth_4 (ln : Nat → Nat) (post : Int32 → CS → Prop)  (Kx : CS → Int32 → Prop)  (Kb : CS → Int32 → Int32 → Prop) (σ : CS) (x1 x2 : Int32) : Prop :=
  (((σ.1 0) ≤ x2 → Kx σ x1) ∧ (¬ (σ.1 0) ≤ x2 → (vp_in x2 (ln 5) ∧ ((¬ ((σ.2 5) x2.toNatClampNeg) = 0 → Kb σ x1 (x2 + 1)) ∧ (((σ.2 5) x2.toNatClampNeg) = 0 → (∃ n8 : Nat, lp_X3_depth_29 ln post  (fun σ9 x3_10 => wp_X3_depthOfSpine ln σ9 x3_10 x1 (fun r12 σ11 => (vp_in x3_10 (ln 8) ∧ (vp_in x2 (ln 4) ∧ (vp_in x3_10 (ln 7) ∧ Kb (setA (setA σ11 8 x3_10.toNatClampNeg r12) 7 x3_10.toNatClampNeg ((σ11.2 4) x2.toNatClampNeg)) (x3_10 + 1) (x2 + 1)))))) x1 x2 n8 σ x1))))))
def lp_X3_depth_4 (ln : Nat → Nat) (post : Int32 → CS → Prop)  (Kx : CS → Int32 → Prop)  : Nat → CS → Int32 → Int32 → Prop
  | 0 => fun _ _ _ => False
  | n + 1 => lb_X3_depth_4 ln post  Kx  (lp_X3_depth_4 ln post  Kx  n)
def wp_X3_depth (ln : Nat → Nat) (σ : CS) (post : Int32 → CS → Prop) : Prop :=
  (∃ n16 : Nat, lp_X3_depth_4 ln post  (fun σ17 x1_18 => wp_X3_depthOfSpine ln σ17 0 x1_18 (fun r20 σ19 => post r20 σ19))  n16 σ 0 0)
set_option maxHeartbeats 4000000 in
set_option maxRecDepth 100000 in
theorem wl_X3_depth_29 {p : Program} {l : Launch} {e : Env} {s : State} {m : MethodId} {args : Array Value} {below : List Frame} {meth : Method} {c : Code} {D : va_G} {ad ln : Nat → Nat} {cI : ClassId} {A : Nat → Prop} {post : Int32 → CS → Prop}  {Kx : CS → Int32 → Prop} {x1 x2 : Int32} (hB : MB p s m args meth c cX3_depth 4 (some .int) RX3)  (hKx : ∀ (σ : CS) (x3 : Int32) (H : Heap) (locs : List Loc) (ls : Array Slot), Kx σ x3 → WD D (tyC cI) (cellsC ad ln cI σ) A s H locs → lv_has ls 4 [(0, .ref (ad 6)), (1, .int x1), (2, .int x2), (3, .int x3)] → W p l e (rmK 1) s m args below meth c H locs 0 0 (MQ below (va_Qi post (Pos0 D (tyC cI) (cellsC ad ln cI) A) A) args s 0 0 A) (F0 m 59 ls [])) :
    ∀ (n : Nat) (σ : CS) (x3 : Int32) (H : Heap) (locs : List Loc) (ls : Array Slot), lp_X3_depth_29 ln post  Kx x1 x2 n σ x3 → WD D (tyC cI) (cellsC ad ln cI σ) A s H locs → lv_has ls 4 [(0, .ref (ad 6)), (1, .int x1), (2, .int x2), (3, .int x3)] → W p l e (rmK 1) s m args below meth c H locs 0 0 (MQ below (va_Qi post (Pos0 D (tyC cI) (cellsC ad ln cI) A) A) args s 0 0 A) (F0 m 29 ls []) := by
  obtain ⟨hx, hb, hr, hml, hown, hts, hlk⟩ := id hB
  intro n
  induction n with
  | zero => intro σ x3 H locs ls hq hw hl; exact hq.elim
  | succ n ih =>
    intro σ x3 H locs ls hq hw hl
    replace hq : lb_X3_depth_29 ln post  Kx x1 x2 (lp_X3_depth_29 ln post  Kx x1 x2 n) σ x3 := hq
    refine lv_iload_n hx hb dX3_depth_29 rfl (lv_at hl 3 rfl) ?_
    refine lv_if_le (tgt := 59) hx hb dX3_depth_30 (by decide) (fun c4 => ?_) (fun c4 => ?_)
    · replace hq := hq.1 c4
      exact hKx σ x3 _ _ _ hq hw (lv_sub hl [0, 1, 2, 3] rfl)
    · replace hq := hq.2 c4
      refine lv_aload_n hx hb dX3_depth_33 rfl (lv_at hl 0 rfl) ?_
      refine gC_6_1 hB hw m136 dX3_depth_34 ?_
      refine lv_iload_n hx hb dX3_depth_37 rfl (lv_at hl 3 rfl) ?_
      refine lv_iconst (v := 1) hx hb dX3_depth_38 (by decide) ?_
      refine lv_isub hx hb dX3_depth_39 ?_
      obtain ⟨h5, hq⟩ := hq
      refine aC_7 (f := (σ.2 7)) hB hw rfl h5 dX3_depth_40 ?_
      refine lv_aload_n hx hb dX3_depth_41 rfl (lv_at hl 0 rfl) ?_
      refine gC_6_0 hB hw m142 dX3_depth_42 ?_
      refine gC_2_1 hB hw m140 dX3_depth_45 ?_
      refine lv_iload_n hx hb dX3_depth_48 rfl (lv_at hl 2 rfl) ?_
      obtain ⟨h6, hq⟩ := hq
      refine aC_4 (f := (σ.2 4)) hB hw rfl h6 dX3_depth_49 ?_
      refine lv_icmp_ge (tgt := 59) hx hb dX3_depth_50 (by decide) (fun c7 => ?_) (fun c7 => ?_)
      · replace hq := hq.1 c7
        exact hKx σ x3 _ _ _ hq hw (lv_sub hl [0, 1, 2, 3] rfl)
      · replace hq := hq.2 c7
        refine lv_iinc (v := x3 + (-1)) (lv' := [(3, .int (x3 + (-1))), (0, .ref (ad 6)), (1, .int x1), (2, .int x2)]) hx hb dX3_depth_53 hl (k := 3) rfl rfl (by decide) rfl (fun ls hl => ?_)
        refine lv_goto (tgt := 29) hx hb dX3_depth_56 (by decide) ?_
        exact ih σ (x3 + (-1)) _ _ _ hq hw (lv_sub hl [1, 2, 3, 0] rfl)
set_option maxHeartbeats 4000000 in
set_option maxRecDepth 100000 in
theorem wl_X3_depth_4 {p : Program} {l : Launch} {e : Env} {s : State} {m : MethodId} {args : Array Value} {below : List Frame} {meth : Method} {c : Code} {D : va_G} {ad ln : Nat → Nat} {cI : ClassId} {A : Nat → Prop} {post : Int32 → CS → Prop}  {Kx : CS → Int32 → Prop}  (hB : MB p s m args meth c cX3_depth 4 (some .int) RX3)  (hKx : ∀ (σ : CS) (x1 : Int32) (H : Heap) (locs : List Loc) (ls : Array Slot), Kx σ x1 → WD D (tyC cI) (cellsC ad ln cI σ) A s H locs → lv_has ls 4 [(0, .ref (ad 6)), (1, .int x1)] → W p l e (rmK 1) s m args below meth c H locs 0 0 (MQ below (va_Qi post (Pos0 D (tyC cI) (cellsC ad ln cI) A) A) args s 0 0 A) (F0 m 96 ls [])) :
    ∀ (n : Nat) (σ : CS) (x1 x2 : Int32) (H : Heap) (locs : List Loc) (ls : Array Slot), lp_X3_depth_4 ln post  Kx  n σ x1 x2 → WD D (tyC cI) (cellsC ad ln cI σ) A s H locs → lv_has ls 4 [(0, .ref (ad 6)), (1, .int x1), (2, .int x2)] → W p l e (rmK 1) s m args below meth c H locs 0 0 (MQ below (va_Qi post (Pos0 D (tyC cI) (cellsC ad ln cI) A) A) args s 0 0 A) (F0 m 4 ls []) := by
  obtain ⟨hx, hb, hr, hml, hown, hts, hlk⟩ := id hB
  intro n
  induction n with
  | zero => intro σ x1 x2 H locs ls hq hw hl; exact hq.elim
  | succ n ih =>
    intro σ x1 x2 H locs ls hq hw hl
    replace hq : lb_X3_depth_4 ln post  Kx  (lp_X3_depth_4 ln post  Kx  n) σ x1 x2 := hq
    refine lv_iload_n hx hb dX3_depth_4 rfl (lv_at hl 2 rfl) ?_
    refine lv_aload_n hx hb dX3_depth_5 rfl (lv_at hl 0 rfl) ?_
    refine gC_6_0 hB hw m142 dX3_depth_6 ?_
    refine gC_2_3 (x := σ.1 0) hB hw m138 rfl dX3_depth_9 ?_
    refine lv_icmp_ge (tgt := 96) hx hb dX3_depth_12 (by decide) (fun c1 => ?_) (fun c1 => ?_)
    · replace hq := hq.1 c1
      exact hKx σ x1 _ _ _ hq hw (lv_sub hl [0, 1] rfl)
    · replace hq := hq.2 c1
      refine lv_aload_n hx hb dX3_depth_15 rfl (lv_at hl 0 rfl) ?_
      refine gC_6_0 hB hw m142 dX3_depth_16 ?_
      refine gC_2_2 hB hw m139 dX3_depth_19 ?_
      refine lv_iload_n hx hb dX3_depth_22 rfl (lv_at hl 2 rfl) ?_
      obtain ⟨h2, hq⟩ := hq
      refine aC_5 (f := (σ.2 5)) hB hw rfl h2 dX3_depth_23 ?_
      refine lv_if_ne (tgt := 90) hx hb dX3_depth_24 (by decide) (fun c3 => ?_) (fun c3 => ?_)
      · replace hq := hq.1 c3
        refine lv_iinc (v := x2 + 1) (lv' := [(2, .int (x2 + 1)), (0, .ref (ad 6)), (1, .int x1)]) hx hb dX3_depth_90 hl (k := 2) rfl rfl (by decide) rfl (fun ls hl => ?_)
        refine lv_goto (tgt := 4) hx hb dX3_depth_93 (by decide) ?_
        exact ih σ x1 (x2 + 1) _ _ _ hq hw (lv_sub hl [1, 2, 0] rfl)
      · replace hq := hq.2 c3
        refine lv_iload_n hx hb dX3_depth_27 rfl (lv_at hl 1 rfl) ?_
        refine lv_istore_n (lv' := [(3, .int x1), (0, .ref (ad 6)), (1, .int x1), (2, .int x2)]) hx hb dX3_depth_28 rfl hl (by decide) rfl (fun ls hl => ?_)
        obtain ⟨n8, hq⟩ := hq
        refine wl_X3_depth_29 hB  (fun σ9 x3_10 H locs ls hq hw hl => ?_) n8 σ x1 _ _ _ hq hw (lv_sub hl [1, 2, 3, 0] rfl)
        refine lv_aload_n hx hb dX3_depth_59 rfl (lv_at hl 0 rfl) ?_
        refine gC_6_2 hB hw m137 dX3_depth_60 ?_
        refine lv_iload_n hx hb dX3_depth_63 rfl (lv_at hl 3 rfl) ?_
        refine lv_aload_n hx hb dX3_depth_64 rfl (lv_at hl 0 rfl) ?_
        refine lv_iload_n hx hb dX3_depth_65 rfl (lv_at hl 3 rfl) ?_
        refine lv_iload_n hx hb dX3_depth_66 rfl (lv_at hl 1 rfl) ?_
        refine w_cVI (As := [.int x3_10, .int x1]) (rest := [.int x3_10, .ref (ad 8)]) hB hw hl.1 (c_X3_depthOfSpine l D ad ln cI σ9 x3_10 x1 _ hq) m355 m220 m437 m186 m52 rfl ok_X3_depthOfSpine (okR_K (by decide) (by decide)) (q0 := 6) (ci := 3) rfl rfl rfl rfl (Nat.le_of_ble_eq_true rfl) dX3_depth_67 (fun r12 σ11 H locs hq hw => ?_)
        obtain ⟨h13, hq⟩ := hq
        refine sC_8 hB hw h13 dX3_depth_70 (fun H locs hw => ?_)
        refine lv_aload_n hx hb dX3_depth_71 rfl (lv_at hl 0 rfl) ?_
        refine gC_6_1 hB hw m136 dX3_depth_72 ?_
        refine lv_iload_n hx hb dX3_depth_75 rfl (lv_at hl 3 rfl) ?_
        refine lv_aload_n hx hb dX3_depth_76 rfl (lv_at hl 0 rfl) ?_
        refine gC_6_0 hB hw m142 dX3_depth_77 ?_
        refine gC_2_1 hB hw m140 dX3_depth_80 ?_
        refine lv_iload_n hx hb dX3_depth_83 rfl (lv_at hl 2 rfl) ?_
        obtain ⟨h14, hq⟩ := hq
        refine aC_4 (f := (σ11.2 4)) hB hw rfl h14 dX3_depth_84 ?_
        obtain ⟨h15, hq⟩ := hq
        refine sC_7 hB hw h15 dX3_depth_85 (fun H locs hw => ?_)
        refine lv_iload_n hx hb dX3_depth_86 rfl (lv_at hl 3 rfl) ?_
        refine lv_iconst (v := 1) hx hb dX3_depth_87 (by decide) ?_
        refine lv_iadd hx hb dX3_depth_88 ?_
        refine lv_istore_n (lv' := [(1, .int (x3_10 + 1)), (0, .ref (ad 6)), (2, .int x2), (3, .int x3_10)]) hx hb dX3_depth_89 rfl hl (by decide) rfl (fun ls hl => ?_)
        refine lv_iinc (v := x2 + 1) (lv' := [(2, .int (x2 + 1)), (1, .int (x3_10 + 1)), (0, .ref (ad 6)), (3, .int x3_10)]) hx hb dX3_depth_90 hl (k := 2) rfl rfl (by decide) rfl (fun ls hl => ?_)
        refine lv_goto (tgt := 4) hx hb dX3_depth_93 (by decide) ?_
        exact ih (setA (setA σ11 8 x3_10.toNatClampNeg r12) 7 x3_10.toNatClampNeg ((σ11.2 4) x2.toNatClampNeg)) (x3_10 + 1) (x2 + 1) _ _ _ hq hw (lv_sub hl [2, 1, 0] rfl)
set_option maxHeartbeats 4000000 in
set_option maxRecDepth 100000 in
theorem c_X3_depth (l : Launch) (D : va_G) (ad ln : Nat → Nat) (cI : ClassId) (σ : CS) (post : Int32 → CS → Prop) (hq : wp_X3_depth ln σ  post) : MtI l D (tyC cI) (cellsC ad ln cI) yX3_depth cX3_depth 4 (some .int) (rmK 1) [.ref (ad 6)] σ post := by
  refine MtI_of (by decide) (Nat.le_of_ble_eq_true rfl) ?_
  intro p e s m below meth c A ls hB hw hl
  replace hB : MB p s m _ meth c cX3_depth 4 (some .int) RX3 := hB
  replace hl : lv_has ls 4 [(0, .ref (ad 6))] := hl
  obtain ⟨hx, hb, hr, hml, hown, hts, hlk⟩ := id hB
  unfold wp_X3_depth at hq
  refine lv_iconst (v := 0) hx hb dX3_depth_0 (by decide) ?_
  refine lv_istore_n (lv' := [(1, .int 0), (0, .ref (ad 6))]) hx hb dX3_depth_1 rfl hl (by decide) rfl (fun ls hl => ?_)
  refine lv_iconst (v := 0) hx hb dX3_depth_2 (by decide) ?_
  refine lv_istore_n (lv' := [(2, .int 0), (1, .int 0), (0, .ref (ad 6))]) hx hb dX3_depth_3 rfl hl (by decide) rfl (fun ls hl => ?_)
  obtain ⟨n16, hq⟩ := hq
  refine wl_X3_depth_4 hB  (fun σ17 x1_18 H locs ls hq hw hl => ?_) n16 σ 0 0 _ _ _ hq hw (lv_sub hl [2, 1, 0] rfl)
  refine lv_aload_n hx hb dX3_depth_96 rfl (lv_at hl 0 rfl) ?_
  refine lv_iconst (v := 0) hx hb dX3_depth_97 (by decide) ?_
  refine lv_iload_n hx hb dX3_depth_98 rfl (lv_at hl 1 rfl) ?_
  refine w_cVI (As := [.int 0, .int x1_18]) (rest := []) hB hw hl.1 (c_X3_depthOfSpine l D ad ln cI σ17 0 x1_18 _ hq) m355 m220 m437 m186 m52 rfl ok_X3_depthOfSpine (okR_K (by decide) (by decide)) (q0 := 6) (ci := 3) rfl rfl rfl rfl (Nat.le_of_ble_eq_true rfl) dX3_depth_99 (fun r20 σ19 H locs hq hw => ?_)
  exact w_iret hB hw hq dX3_depth_102
theorem ok_X3_depth : okY yX3_depth 0 := ⟨by decide, by decide, by decide +kernel⟩
/-! X3_topToTheLeft -/
def lb_X3_topToTheLeft_9 (ln : Nat → Nat) (post : Int32 → CS → Prop)  (Kx : CS → Int32 → Prop) (x1 : Int32) (Kb : CS → Int32 → Int32 → Int32 → Prop) (σ : CS) (x2 x3 x4 : Int32) : Prop :=
  ((x4 < 0 → Kx σ x2) ∧ (¬ x4 < 0 → (vp_in x4 (ln 5) ∧ ((¬ ((σ.2 5) x4.toNatClampNeg) = 0 → Kb σ x2 x3 (x4 + (-1))) ∧ (((σ.2 5) x4.toNatClampNeg) = 0 → (vp_in x4 (ln 4) ∧ (vp_in x1 (ln 4) ∧ ((((σ.2 4) x4.toNatClampNeg) < ((σ.2 4) x1.toNatClampNeg) → ((((σ.2 4) x4.toNatClampNeg) < x3 → Kb σ x2 x3 (x4 + (-1))) ∧ (¬ ((σ.2 4) x4.toNatClampNeg) < x3 → (vp_in x4 (ln 3) ∧ Kb σ ((σ.2 3) x4.toNatClampNeg) ((σ.2 4) x4.toNatClampNeg) (x4 + (-1)))))) ∧ (¬ ((σ.2 4) x4.toNatClampNeg) < ((σ.2 4) x1.toNatClampNeg) → Kx σ x2)))))))))
def lp_X3_topToTheLeft_9 (ln : Nat → Nat) (post : Int32 → CS → Prop)  (Kx : CS → Int32 → Prop) (x1 : Int32) : Nat → CS → Int32 → Int32 → Int32 → Prop
  | 0 => fun _ _ _ _ => False
  | n + 1 => lb_X3_topToTheLeft_9 ln post  Kx x1 (lp_X3_topToTheLeft_9 ln post  Kx x1 n)
def wp_X3_topToTheLeft (ln : Nat → Nat) (σ : CS) (p1 : Int32) (post : Int32 → CS → Prop) : Prop :=
  (∃ n9 : Nat, lp_X3_topToTheLeft_9 ln post  (fun σ10 x2_11 => post x2_11 σ10) p1 n9 σ 0 0 (p1 - 1))
set_option maxHeartbeats 4000000 in
set_option maxRecDepth 100000 in
theorem wl_X3_topToTheLeft_9 {p : Program} {l : Launch} {e : Env} {s : State} {m : MethodId} {args : Array Value} {below : List Frame} {meth : Method} {c : Code} {D : va_G} {ad ln : Nat → Nat} {cI : ClassId} {A : Nat → Prop} {post : Int32 → CS → Prop}  {Kx : CS → Int32 → Prop} {x1 : Int32} (hB : MB p s m args meth c cX3_topToTheLeft 5 (some .int) RX3)  (hKx : ∀ (σ : CS) (x2 : Int32) (H : Heap) (locs : List Loc) (ls : Array Slot), Kx σ x2 → WD D (tyC cI) (cellsC ad ln cI σ) A s H locs → lv_has ls 5 [(2, .int x2)] → W p l e (rmK 0) s m args below meth c H locs 0 0 (MQ below (va_Qi post (Pos0 D (tyC cI) (cellsC ad ln cI) A) A) args s 0 0 A) (F0 m 94 ls [])) :
    ∀ (n : Nat) (σ : CS) (x2 x3 x4 : Int32) (H : Heap) (locs : List Loc) (ls : Array Slot), lp_X3_topToTheLeft_9 ln post  Kx x1 n σ x2 x3 x4 → WD D (tyC cI) (cellsC ad ln cI σ) A s H locs → lv_has ls 5 [(0, .ref (ad 6)), (1, .int x1), (2, .int x2), (3, .int x3), (4, .int x4)] → W p l e (rmK 0) s m args below meth c H locs 0 0 (MQ below (va_Qi post (Pos0 D (tyC cI) (cellsC ad ln cI) A) A) args s 0 0 A) (F0 m 9 ls []) := by
  obtain ⟨hx, hb, hr, hml, hown, hts, hlk⟩ := id hB
  intro n
  induction n with
  | zero => intro σ x2 x3 x4 H locs ls hq hw hl; exact hq.elim
  | succ n ih =>
    intro σ x2 x3 x4 H locs ls hq hw hl
    replace hq : lb_X3_topToTheLeft_9 ln post  Kx x1 (lp_X3_topToTheLeft_9 ln post  Kx x1 n) σ x2 x3 x4 := hq
    refine lv_iload hx hb dX3_topToTheLeft_9 (lv_at hl 4 rfl) ?_
    refine lv_if_lt (tgt := 94) hx hb dX3_topToTheLeft_11 (by decide) (fun c1 => ?_) (fun c1 => ?_)
    · replace hq := hq.1 c1
      exact hKx σ x2 _ _ _ hq hw (lv_sub hl [2] rfl)
    · replace hq := hq.2 c1
      refine lv_aload_n hx hb dX3_topToTheLeft_14 rfl (lv_at hl 0 rfl) ?_
      refine gC_6_0 hB hw m142 dX3_topToTheLeft_15 ?_
      refine gC_2_2 hB hw m139 dX3_topToTheLeft_18 ?_
      refine lv_iload hx hb dX3_topToTheLeft_21 (lv_at hl 4 rfl) ?_
      obtain ⟨h2, hq⟩ := hq
      refine aC_5 (f := (σ.2 5)) hB hw rfl h2 dX3_topToTheLeft_23 ?_
      refine lv_if_ne (tgt := 88) hx hb dX3_topToTheLeft_24 (by decide) (fun c3 => ?_) (fun c3 => ?_)
      · replace hq := hq.1 c3
        refine lv_iinc (v := x4 + (-1)) (lv' := [(4, .int (x4 + (-1))), (0, .ref (ad 6)), (1, .int x1), (2, .int x2), (3, .int x3)]) hx hb dX3_topToTheLeft_88 hl (k := 4) rfl rfl (by decide) rfl (fun ls hl => ?_)
        refine lv_goto (tgt := 9) hx hb dX3_topToTheLeft_91 (by decide) ?_
        exact ih σ x2 x3 (x4 + (-1)) _ _ _ hq hw (lv_sub hl [1, 2, 3, 4, 0] rfl)
      · replace hq := hq.2 c3
        refine lv_aload_n hx hb dX3_topToTheLeft_27 rfl (lv_at hl 0 rfl) ?_
        refine gC_6_0 hB hw m142 dX3_topToTheLeft_28 ?_
        refine gC_2_1 hB hw m140 dX3_topToTheLeft_31 ?_
        refine lv_iload hx hb dX3_topToTheLeft_34 (lv_at hl 4 rfl) ?_
        obtain ⟨h4, hq⟩ := hq
        refine aC_4 (f := (σ.2 4)) hB hw rfl h4 dX3_topToTheLeft_36 ?_
        refine lv_aload_n hx hb dX3_topToTheLeft_37 rfl (lv_at hl 0 rfl) ?_
        refine gC_6_0 hB hw m142 dX3_topToTheLeft_38 ?_
        refine gC_2_1 hB hw m140 dX3_topToTheLeft_41 ?_
        refine lv_iload_n hx hb dX3_topToTheLeft_44 rfl (lv_at hl 1 rfl) ?_
        obtain ⟨h5, hq⟩ := hq
        refine aC_4 (f := (σ.2 4)) hB hw rfl h5 dX3_topToTheLeft_45 ?_
        refine lv_icmp_lt (tgt := 52) hx hb dX3_topToTheLeft_46 (by decide) (fun c6 => ?_) (fun c6 => ?_)
        · replace hq := hq.1 c6
          refine lv_aload_n hx hb dX3_topToTheLeft_52 rfl (lv_at hl 0 rfl) ?_
          refine gC_6_0 hB hw m142 dX3_topToTheLeft_53 ?_
          refine gC_2_1 hB hw m140 dX3_topToTheLeft_56 ?_
          refine lv_iload hx hb dX3_topToTheLeft_59 (lv_at hl 4 rfl) ?_
          refine aC_4 (f := (σ.2 4)) hB hw rfl h4 dX3_topToTheLeft_61 ?_
          refine lv_iload_n hx hb dX3_topToTheLeft_62 rfl (lv_at hl 3 rfl) ?_
          refine lv_icmp_lt (tgt := 88) hx hb dX3_topToTheLeft_63 (by decide) (fun c7 => ?_) (fun c7 => ?_)
          · replace hq := hq.1 c7
            refine lv_iinc (v := x4 + (-1)) (lv' := [(4, .int (x4 + (-1))), (0, .ref (ad 6)), (1, .int x1), (2, .int x2), (3, .int x3)]) hx hb dX3_topToTheLeft_88 hl (k := 4) rfl rfl (by decide) rfl (fun ls hl => ?_)
            refine lv_goto (tgt := 9) hx hb dX3_topToTheLeft_91 (by decide) ?_
            exact ih σ x2 x3 (x4 + (-1)) _ _ _ hq hw (lv_sub hl [1, 2, 3, 4, 0] rfl)
          · replace hq := hq.2 c7
            refine lv_aload_n hx hb dX3_topToTheLeft_66 rfl (lv_at hl 0 rfl) ?_
            refine gC_6_0 hB hw m142 dX3_topToTheLeft_67 ?_
            refine gC_2_1 hB hw m140 dX3_topToTheLeft_70 ?_
            refine lv_iload hx hb dX3_topToTheLeft_73 (lv_at hl 4 rfl) ?_
            refine aC_4 (f := (σ.2 4)) hB hw rfl h4 dX3_topToTheLeft_75 ?_
            refine lv_istore_n (lv' := [(3, .int ((σ.2 4) x4.toNatClampNeg)), (0, .ref (ad 6)), (1, .int x1), (2, .int x2), (4, .int x4)]) hx hb dX3_topToTheLeft_76 rfl hl (by decide) rfl (fun ls hl => ?_)
            refine lv_aload_n hx hb dX3_topToTheLeft_77 rfl (lv_at hl 1 rfl) ?_
            refine gC_6_0 hB hw m142 dX3_topToTheLeft_78 ?_
            refine gC_2_0 hB hw m141 dX3_topToTheLeft_81 ?_
            refine lv_iload hx hb dX3_topToTheLeft_84 (lv_at hl 4 rfl) ?_
            obtain ⟨h8, hq⟩ := hq
            refine aC_3 (f := (σ.2 3)) hB hw rfl h8 dX3_topToTheLeft_86 ?_
            refine lv_istore_n (lv' := [(2, .int ((σ.2 3) x4.toNatClampNeg)), (3, .int ((σ.2 4) x4.toNatClampNeg)), (0, .ref (ad 6)), (1, .int x1), (4, .int x4)]) hx hb dX3_topToTheLeft_87 rfl hl (by decide) rfl (fun ls hl => ?_)
            refine lv_iinc (v := x4 + (-1)) (lv' := [(4, .int (x4 + (-1))), (2, .int ((σ.2 3) x4.toNatClampNeg)), (3, .int ((σ.2 4) x4.toNatClampNeg)), (0, .ref (ad 6)), (1, .int x1)]) hx hb dX3_topToTheLeft_88 hl (k := 4) rfl rfl (by decide) rfl (fun ls hl => ?_)
            refine lv_goto (tgt := 9) hx hb dX3_topToTheLeft_91 (by decide) ?_
            exact ih σ ((σ.2 3) x4.toNatClampNeg) ((σ.2 4) x4.toNatClampNeg) (x4 + (-1)) _ _ _ hq hw (lv_sub hl [3, 4, 1, 2, 0] rfl)
        · replace hq := hq.2 c6
          refine lv_goto (tgt := 94) hx hb dX3_topToTheLeft_49 (by decide) ?_
          exact hKx σ x2 _ _ _ hq hw (lv_sub hl [2] rfl)
set_option maxHeartbeats 4000000 in
set_option maxRecDepth 100000 in
theorem c_X3_topToTheLeft (l : Launch) (D : va_G) (ad ln : Nat → Nat) (cI : ClassId) (σ : CS) (p1 : Int32) (post : Int32 → CS → Prop) (hq : wp_X3_topToTheLeft ln σ p1 post) : MtI l D (tyC cI) (cellsC ad ln cI) yX3_topToTheLeft cX3_topToTheLeft 5 (some .int) (rmK 0) [.ref (ad 6), .int p1] σ post := by
  refine MtI_of (by decide) (Nat.le_of_ble_eq_true rfl) ?_
  intro p e s m below meth c A ls hB hw hl
  replace hB : MB p s m _ meth c cX3_topToTheLeft 5 (some .int) RX3 := hB
  replace hl : lv_has ls 5 [(0, .ref (ad 6)), (1, .int p1)] := hl
  obtain ⟨hx, hb, hr, hml, hown, hts, hlk⟩ := id hB
  unfold wp_X3_topToTheLeft at hq
  refine lv_iconst (v := 0) hx hb dX3_topToTheLeft_0 (by decide) ?_
  refine lv_istore_n (lv' := [(2, .int 0), (0, .ref (ad 6)), (1, .int p1)]) hx hb dX3_topToTheLeft_1 rfl hl (by decide) rfl (fun ls hl => ?_)
  refine lv_iconst (v := 0) hx hb dX3_topToTheLeft_2 (by decide) ?_
  refine lv_istore_n (lv' := [(3, .int 0), (2, .int 0), (0, .ref (ad 6)), (1, .int p1)]) hx hb dX3_topToTheLeft_3 rfl hl (by decide) rfl (fun ls hl => ?_)
  refine lv_iload_n hx hb dX3_topToTheLeft_4 rfl (lv_at hl 3 rfl) ?_
  refine lv_iconst (v := 1) hx hb dX3_topToTheLeft_5 (by decide) ?_
  refine lv_isub hx hb dX3_topToTheLeft_6 ?_
  refine lv_istore (lv' := [(4, .int (p1 - 1)), (3, .int 0), (2, .int 0), (0, .ref (ad 6)), (1, .int p1)]) hx hb dX3_topToTheLeft_7 hl (by decide) rfl (fun ls hl => ?_)
  obtain ⟨n9, hq⟩ := hq
  refine wl_X3_topToTheLeft_9 hB  (fun σ10 x2_11 H locs ls hq hw hl => ?_) n9 σ 0 0 (p1 - 1) _ _ _ hq hw (lv_sub hl [3, 4, 2, 1, 0] rfl)
  refine lv_iload_n hx hb dX3_topToTheLeft_94 rfl (lv_at hl 0 rfl) ?_
  exact w_iret hB hw hq dX3_topToTheLeft_95
theorem ok_X3_topToTheLeft : okY yX3_topToTheLeft 1 := ⟨by decide, by decide, by decide +kernel⟩
/-! X3_topToTheRight -/
def lb_X3_topToTheRight_9 (ln : Nat → Nat) (post : Int32 → CS → Prop)  (Kx : CS → Int32 → Prop) (x1 : Int32) (Kb : CS → Int32 → Int32 → Int32 → Prop) (σ : CS) (x2 x3 x4 : Int32) : Prop :=
  (((σ.1 0) ≤ x4 → Kx σ x2) ∧ (¬ (σ.1 0) ≤ x4 → (vp_in x4 (ln 5) ∧ ((¬ ((σ.2 5) x4.toNatClampNeg) = 0 → Kb σ x2 x3 (x4 + 1)) ∧ (((σ.2 5) x4.toNatClampNeg) = 0 → (vp_in x4 (ln 4) ∧ (vp_in x1 (ln 4) ∧ ((((σ.2 4) x4.toNatClampNeg) ≤ ((σ.2 4) x1.toNatClampNeg) → ((((σ.2 4) x4.toNatClampNeg) ≤ x3 → Kb σ x2 x3 (x4 + 1)) ∧ (¬ ((σ.2 4) x4.toNatClampNeg) ≤ x3 → (vp_in x4 (ln 3) ∧ Kb σ ((σ.2 3) x4.toNatClampNeg) ((σ.2 4) x4.toNatClampNeg) (x4 + 1))))) ∧ (¬ ((σ.2 4) x4.toNatClampNeg) ≤ ((σ.2 4) x1.toNatClampNeg) → Kx σ x2)))))))))
def lp_X3_topToTheRight_9 (ln : Nat → Nat) (post : Int32 → CS → Prop)  (Kx : CS → Int32 → Prop) (x1 : Int32) : Nat → CS → Int32 → Int32 → Int32 → Prop
  | 0 => fun _ _ _ _ => False
  | n + 1 => lb_X3_topToTheRight_9 ln post  Kx x1 (lp_X3_topToTheRight_9 ln post  Kx x1 n)
def wp_X3_topToTheRight (ln : Nat → Nat) (σ : CS) (p1 : Int32) (post : Int32 → CS → Prop) : Prop :=
  (∃ n9 : Nat, lp_X3_topToTheRight_9 ln post  (fun σ10 x2_11 => post x2_11 σ10) p1 n9 σ 0 0 (p1 + 1))
set_option maxHeartbeats 4000000 in
set_option maxRecDepth 100000 in
theorem wl_X3_topToTheRight_9 {p : Program} {l : Launch} {e : Env} {s : State} {m : MethodId} {args : Array Value} {below : List Frame} {meth : Method} {c : Code} {D : va_G} {ad ln : Nat → Nat} {cI : ClassId} {A : Nat → Prop} {post : Int32 → CS → Prop}  {Kx : CS → Int32 → Prop} {x1 : Int32} (hB : MB p s m args meth c cX3_topToTheRight 5 (some .int) RX3)  (hKx : ∀ (σ : CS) (x2 : Int32) (H : Heap) (locs : List Loc) (ls : Array Slot), Kx σ x2 → WD D (tyC cI) (cellsC ad ln cI σ) A s H locs → lv_has ls 5 [(2, .int x2)] → W p l e (rmK 0) s m args below meth c H locs 0 0 (MQ below (va_Qi post (Pos0 D (tyC cI) (cellsC ad ln cI) A) A) args s 0 0 A) (F0 m 101 ls [])) :
    ∀ (n : Nat) (σ : CS) (x2 x3 x4 : Int32) (H : Heap) (locs : List Loc) (ls : Array Slot), lp_X3_topToTheRight_9 ln post  Kx x1 n σ x2 x3 x4 → WD D (tyC cI) (cellsC ad ln cI σ) A s H locs → lv_has ls 5 [(0, .ref (ad 6)), (1, .int x1), (2, .int x2), (3, .int x3), (4, .int x4)] → W p l e (rmK 0) s m args below meth c H locs 0 0 (MQ below (va_Qi post (Pos0 D (tyC cI) (cellsC ad ln cI) A) A) args s 0 0 A) (F0 m 9 ls []) := by
  obtain ⟨hx, hb, hr, hml, hown, hts, hlk⟩ := id hB
  intro n
  induction n with
  | zero => intro σ x2 x3 x4 H locs ls hq hw hl; exact hq.elim
  | succ n ih =>
    intro σ x2 x3 x4 H locs ls hq hw hl
    replace hq : lb_X3_topToTheRight_9 ln post  Kx x1 (lp_X3_topToTheRight_9 ln post  Kx x1 n) σ x2 x3 x4 := hq
    refine lv_iload hx hb dX3_topToTheRight_9 (lv_at hl 4 rfl) ?_
    refine lv_aload_n hx hb dX3_topToTheRight_11 rfl (lv_at hl 0 rfl) ?_
    refine gC_6_0 hB hw m142 dX3_topToTheRight_12 ?_
    refine gC_2_3 (x := σ.1 0) hB hw m138 rfl dX3_topToTheRight_15 ?_
    refine lv_icmp_ge (tgt := 101) hx hb dX3_topToTheRight_18 (by decide) (fun c1 => ?_) (fun c1 => ?_)
    · replace hq := hq.1 c1
      exact hKx σ x2 _ _ _ hq hw (lv_sub hl [2] rfl)
    · replace hq := hq.2 c1
      refine lv_aload_n hx hb dX3_topToTheRight_21 rfl (lv_at hl 0 rfl) ?_
      refine gC_6_0 hB hw m142 dX3_topToTheRight_22 ?_
      refine gC_2_2 hB hw m139 dX3_topToTheRight_25 ?_
      refine lv_iload hx hb dX3_topToTheRight_28 (lv_at hl 4 rfl) ?_
      obtain ⟨h2, hq⟩ := hq
      refine aC_5 (f := (σ.2 5)) hB hw rfl h2 dX3_topToTheRight_30 ?_
      refine lv_if_ne (tgt := 95) hx hb dX3_topToTheRight_31 (by decide) (fun c3 => ?_) (fun c3 => ?_)
      · replace hq := hq.1 c3
        refine lv_iinc (v := x4 + 1) (lv' := [(4, .int (x4 + 1)), (0, .ref (ad 6)), (1, .int x1), (2, .int x2), (3, .int x3)]) hx hb dX3_topToTheRight_95 hl (k := 4) rfl rfl (by decide) rfl (fun ls hl => ?_)
        refine lv_goto (tgt := 9) hx hb dX3_topToTheRight_98 (by decide) ?_
        exact ih σ x2 x3 (x4 + 1) _ _ _ hq hw (lv_sub hl [1, 2, 3, 4, 0] rfl)
      · replace hq := hq.2 c3
        refine lv_aload_n hx hb dX3_topToTheRight_34 rfl (lv_at hl 0 rfl) ?_
        refine gC_6_0 hB hw m142 dX3_topToTheRight_35 ?_
        refine gC_2_1 hB hw m140 dX3_topToTheRight_38 ?_
        refine lv_iload hx hb dX3_topToTheRight_41 (lv_at hl 4 rfl) ?_
        obtain ⟨h4, hq⟩ := hq
        refine aC_4 (f := (σ.2 4)) hB hw rfl h4 dX3_topToTheRight_43 ?_
        refine lv_aload_n hx hb dX3_topToTheRight_44 rfl (lv_at hl 0 rfl) ?_
        refine gC_6_0 hB hw m142 dX3_topToTheRight_45 ?_
        refine gC_2_1 hB hw m140 dX3_topToTheRight_48 ?_
        refine lv_iload_n hx hb dX3_topToTheRight_51 rfl (lv_at hl 1 rfl) ?_
        obtain ⟨h5, hq⟩ := hq
        refine aC_4 (f := (σ.2 4)) hB hw rfl h5 dX3_topToTheRight_52 ?_
        refine lv_icmp_le (tgt := 59) hx hb dX3_topToTheRight_53 (by decide) (fun c6 => ?_) (fun c6 => ?_)
        · replace hq := hq.1 c6
          refine lv_aload_n hx hb dX3_topToTheRight_59 rfl (lv_at hl 0 rfl) ?_
          refine gC_6_0 hB hw m142 dX3_topToTheRight_60 ?_
          refine gC_2_1 hB hw m140 dX3_topToTheRight_63 ?_
          refine lv_iload hx hb dX3_topToTheRight_66 (lv_at hl 4 rfl) ?_
          refine aC_4 (f := (σ.2 4)) hB hw rfl h4 dX3_topToTheRight_68 ?_
          refine lv_iload_n hx hb dX3_topToTheRight_69 rfl (lv_at hl 3 rfl) ?_
          refine lv_icmp_le (tgt := 95) hx hb dX3_topToTheRight_70 (by decide) (fun c7 => ?_) (fun c7 => ?_)
          · replace hq := hq.1 c7
            refine lv_iinc (v := x4 + 1) (lv' := [(4, .int (x4 + 1)), (0, .ref (ad 6)), (1, .int x1), (2, .int x2), (3, .int x3)]) hx hb dX3_topToTheRight_95 hl (k := 4) rfl rfl (by decide) rfl (fun ls hl => ?_)
            refine lv_goto (tgt := 9) hx hb dX3_topToTheRight_98 (by decide) ?_
            exact ih σ x2 x3 (x4 + 1) _ _ _ hq hw (lv_sub hl [1, 2, 3, 4, 0] rfl)
          · replace hq := hq.2 c7
            refine lv_aload_n hx hb dX3_topToTheRight_73 rfl (lv_at hl 0 rfl) ?_
            refine gC_6_0 hB hw m142 dX3_topToTheRight_74 ?_
            refine gC_2_1 hB hw m140 dX3_topToTheRight_77 ?_
            refine lv_iload hx hb dX3_topToTheRight_80 (lv_at hl 4 rfl) ?_
            refine aC_4 (f := (σ.2 4)) hB hw rfl h4 dX3_topToTheRight_82 ?_
            refine lv_istore_n (lv' := [(3, .int ((σ.2 4) x4.toNatClampNeg)), (0, .ref (ad 6)), (1, .int x1), (2, .int x2), (4, .int x4)]) hx hb dX3_topToTheRight_83 rfl hl (by decide) rfl (fun ls hl => ?_)
            refine lv_aload_n hx hb dX3_topToTheRight_84 rfl (lv_at hl 1 rfl) ?_
            refine gC_6_0 hB hw m142 dX3_topToTheRight_85 ?_
            refine gC_2_0 hB hw m141 dX3_topToTheRight_88 ?_
            refine lv_iload hx hb dX3_topToTheRight_91 (lv_at hl 4 rfl) ?_
            obtain ⟨h8, hq⟩ := hq
            refine aC_3 (f := (σ.2 3)) hB hw rfl h8 dX3_topToTheRight_93 ?_
            refine lv_istore_n (lv' := [(2, .int ((σ.2 3) x4.toNatClampNeg)), (3, .int ((σ.2 4) x4.toNatClampNeg)), (0, .ref (ad 6)), (1, .int x1), (4, .int x4)]) hx hb dX3_topToTheRight_94 rfl hl (by decide) rfl (fun ls hl => ?_)
            refine lv_iinc (v := x4 + 1) (lv' := [(4, .int (x4 + 1)), (2, .int ((σ.2 3) x4.toNatClampNeg)), (3, .int ((σ.2 4) x4.toNatClampNeg)), (0, .ref (ad 6)), (1, .int x1)]) hx hb dX3_topToTheRight_95 hl (k := 4) rfl rfl (by decide) rfl (fun ls hl => ?_)
            refine lv_goto (tgt := 9) hx hb dX3_topToTheRight_98 (by decide) ?_
            exact ih σ ((σ.2 3) x4.toNatClampNeg) ((σ.2 4) x4.toNatClampNeg) (x4 + 1) _ _ _ hq hw (lv_sub hl [3, 4, 1, 2, 0] rfl)
        · replace hq := hq.2 c6
          refine lv_goto (tgt := 101) hx hb dX3_topToTheRight_56 (by decide) ?_
          exact hKx σ x2 _ _ _ hq hw (lv_sub hl [2] rfl)
set_option maxHeartbeats 4000000 in
set_option maxRecDepth 100000 in
theorem c_X3_topToTheRight (l : Launch) (D : va_G) (ad ln : Nat → Nat) (cI : ClassId) (σ : CS) (p1 : Int32) (post : Int32 → CS → Prop) (hq : wp_X3_topToTheRight ln σ p1 post) : MtI l D (tyC cI) (cellsC ad ln cI) yX3_topToTheRight cX3_topToTheRight 5 (some .int) (rmK 0) [.ref (ad 6), .int p1] σ post := by
  refine MtI_of (by decide) (Nat.le_of_ble_eq_true rfl) ?_
  intro p e s m below meth c A ls hB hw hl
  replace hB : MB p s m _ meth c cX3_topToTheRight 5 (some .int) RX3 := hB
  replace hl : lv_has ls 5 [(0, .ref (ad 6)), (1, .int p1)] := hl
  obtain ⟨hx, hb, hr, hml, hown, hts, hlk⟩ := id hB
  unfold wp_X3_topToTheRight at hq
  refine lv_iconst (v := 0) hx hb dX3_topToTheRight_0 (by decide) ?_
  refine lv_istore_n (lv' := [(2, .int 0), (0, .ref (ad 6)), (1, .int p1)]) hx hb dX3_topToTheRight_1 rfl hl (by decide) rfl (fun ls hl => ?_)
  refine lv_iconst (v := 0) hx hb dX3_topToTheRight_2 (by decide) ?_
  refine lv_istore_n (lv' := [(3, .int 0), (2, .int 0), (0, .ref (ad 6)), (1, .int p1)]) hx hb dX3_topToTheRight_3 rfl hl (by decide) rfl (fun ls hl => ?_)
  refine lv_iload_n hx hb dX3_topToTheRight_4 rfl (lv_at hl 3 rfl) ?_
  refine lv_iconst (v := 1) hx hb dX3_topToTheRight_5 (by decide) ?_
  refine lv_iadd hx hb dX3_topToTheRight_6 ?_
  refine lv_istore (lv' := [(4, .int (p1 + 1)), (3, .int 0), (2, .int 0), (0, .ref (ad 6)), (1, .int p1)]) hx hb dX3_topToTheRight_7 hl (by decide) rfl (fun ls hl => ?_)
  obtain ⟨n9, hq⟩ := hq
  refine wl_X3_topToTheRight_9 hB  (fun σ10 x2_11 H locs ls hq hw hl => ?_) n9 σ 0 0 (p1 + 1) _ _ _ hq hw (lv_sub hl [3, 4, 2, 1, 0] rfl)
  refine lv_iload_n hx hb dX3_topToTheRight_101 rfl (lv_at hl 0 rfl) ?_
  exact w_iret hB hw hq dX3_topToTheRight_102
theorem ok_X3_topToTheRight : okY yX3_topToTheRight 1 := ⟨by decide, by decide, by decide +kernel⟩
