/-! J7_rangeCheck_23922 -/
def wp_J7_rangeCheck_23922 (ln : Nat → Nat) (σ : CS) (p0 p1 p2 : Int32) (post : CS → Prop) : Prop :=
  ((p1 ≤ p2 → ((0 ≤ p1 → ((p2 ≤ p0 → post σ) ∧ (¬ p2 ≤ p0 → False))) ∧ (¬ 0 ≤ p1 → False))) ∧ (¬ p1 ≤ p2 → False))
set_option maxHeartbeats 4000000 in
set_option maxRecDepth 100000 in
theorem c_J7_rangeCheck_23922 (l : Launch) (D : va_G) (ad ln : Nat → Nat) (cI : ClassId) (σ : CS) (p0 p1 p2 : Int32) (post : CS → Prop) (hq : wp_J7_rangeCheck_23922 ln σ p0 p1 p2 post) : MtV l D (tyC cI) (cellsC ad ln cI) yJ7_rangeCheck_23922 cJ7_rangeCheck_23922 3 none (rmK 0) [.int p0, .int p1, .int p2] σ post := by
  refine MtV_of (by decide) (Nat.le_of_ble_eq_true rfl) ?_
  intro p e s m below meth c A ls hB hw hl
  replace hB : MB p s m _ meth c cJ7_rangeCheck_23922 3 none RJ7 := hB
  replace hl : lv_has ls 3 [(0, .int p0), (1, .int p1), (2, .int p2)] := hl
  obtain ⟨hx, hb, hr, hml, hown, hts, hlk⟩ := id hB
  unfold wp_J7_rangeCheck_23922 at hq
  refine lv_iload_n hx hb dJ7_rangeCheck_23922_0 rfl (lv_at hl 1 rfl) ?_
  refine lv_iload_n hx hb dJ7_rangeCheck_23922_1 rfl (lv_at hl 2 rfl) ?_
  refine lv_icmp_le (tgt := 46) hx hb dJ7_rangeCheck_23922_2 (by decide) (fun c1 => ?_) (fun c1 => ?_)
  · replace hq := hq.1 c1
    refine lv_iload_n hx hb dJ7_rangeCheck_23922_46 rfl (lv_at hl 1 rfl) ?_
    refine lv_if_ge (tgt := 59) hx hb dJ7_rangeCheck_23922_47 (by decide) (fun c2 => ?_) (fun c2 => ?_)
    · replace hq := hq.1 c2
      refine lv_iload_n hx hb dJ7_rangeCheck_23922_59 rfl (lv_at hl 2 rfl) ?_
      refine lv_iload_n hx hb dJ7_rangeCheck_23922_60 rfl (lv_at hl 0 rfl) ?_
      refine lv_icmp_le (tgt := 73) hx hb dJ7_rangeCheck_23922_61 (by decide) (fun c3 => ?_) (fun c3 => ?_)
      · replace hq := hq.1 c3
        exact w_vret hB hw hq dJ7_rangeCheck_23922_73
      · replace hq := hq.2 c3
        exact hq.elim
    · replace hq := hq.2 c2
      exact hq.elim
  · replace hq := hq.2 c1
    exact hq.elim
theorem ok_J7_rangeCheck_23922 : okY yJ7_rangeCheck_23922 3 := ⟨by decide, by decide, by decide +kernel⟩
/-! J7_fill_fda19 -/
def lb_J7_fill_fda19_10 (ln : Nat → Nat) (post : CS → Prop)  (Kx : CS → Prop) (x2 x3 : Int32) (Kb : CS → Int32 → Prop) (σ : CS) (x4 : Int32) : Prop :=
  ((x2 ≤ x4 → Kx σ) ∧ (¬ x2 ≤ x4 → (vp_in x4 (ln 1) ∧ Kb (setA σ 1 x4.toNatClampNeg x3) (x4 + 1))))
def lp_J7_fill_fda19_10 (ln : Nat → Nat) (post : CS → Prop)  (Kx : CS → Prop) (x2 x3 : Int32) : Nat → CS → Int32 → Prop
  | 0 => fun _ _ => False
  | n + 1 => lb_J7_fill_fda19_10 ln post  Kx x2 x3 (lp_J7_fill_fda19_10 ln post  Kx x2 x3 n)
def wp_J7_fill_fda19 (ln : Nat → Nat) (σ : CS) (p1 p2 p3 : Int32) (post : CS → Prop) : Prop :=
  wp_J7_rangeCheck_23922 ln σ (nI (ln 1)) p1 p2 (fun σ1 => (∃ n4 : Nat, lp_J7_fill_fda19_10 ln post  (fun σ5 => post σ5) p2 p3 n4 σ1 p1))
set_option maxHeartbeats 4000000 in
set_option maxRecDepth 100000 in
theorem wl_J7_fill_fda19_10 {p : Program} {l : Launch} {e : Env} {s : State} {m : MethodId} {args : Array Value} {below : List Frame} {meth : Method} {c : Code} {D : va_G} {ad ln : Nat → Nat} {cI : ClassId} {A : Nat → Prop} {post : CS → Prop}  {Kx : CS → Prop} {x2 x3 : Int32} (hB : MB p s m args meth c cJ7_fill_fda19 5 none RJ7)  (hKx : ∀ (σ : CS) (H : Heap) (locs : List Loc) (ls : Array Slot), Kx σ  → WD D (tyC cI) (cellsC ad ln cI σ) A s H locs → lv_has ls 5 [] → W p l e (rmK 1) s m args below meth c H locs 0 0 (MQ below (va_Qv post (Pos0 D (tyC cI) (cellsC ad ln cI) A) A) args s 0 0 A) (F0 m 27 ls [])) :
    ∀ (n : Nat) (σ : CS) (x4 : Int32) (H : Heap) (locs : List Loc) (ls : Array Slot), lp_J7_fill_fda19_10 ln post  Kx x2 x3 n σ x4 → WD D (tyC cI) (cellsC ad ln cI σ) A s H locs → lv_has ls 5 [(0, .ref (ad 1)), (2, .int x2), (3, .int x3), (4, .int x4)] → W p l e (rmK 1) s m args below meth c H locs 0 0 (MQ below (va_Qv post (Pos0 D (tyC cI) (cellsC ad ln cI) A) A) args s 0 0 A) (F0 m 10 ls []) := by
  obtain ⟨hx, hb, hr, hml, hown, hts, hlk⟩ := id hB
  intro n
  induction n with
  | zero => intro σ x4 H locs ls hq hw hl; exact hq.elim
  | succ n ih =>
    intro σ x4 H locs ls hq hw hl
    replace hq : lb_J7_fill_fda19_10 ln post  Kx x2 x3 (lp_J7_fill_fda19_10 ln post  Kx x2 x3 n) σ x4 := hq
    refine lv_iload hx hb dJ7_fill_fda19_10 (lv_at hl 3 rfl) ?_
    refine lv_iload_n hx hb dJ7_fill_fda19_12 rfl (lv_at hl 1 rfl) ?_
    refine lv_icmp_ge (tgt := 27) hx hb dJ7_fill_fda19_13 (by decide) (fun c2 => ?_) (fun c2 => ?_)
    · replace hq := hq.1 c2
      exact hKx σ _ _ _ hq hw (lv_sub hl [] rfl)
    · replace hq := hq.2 c2
      refine lv_aload_n hx hb dJ7_fill_fda19_16 rfl (lv_at hl 0 rfl) ?_
      refine lv_iload hx hb dJ7_fill_fda19_17 (lv_at hl 3 rfl) ?_
      refine lv_iload_n hx hb dJ7_fill_fda19_19 rfl (lv_at hl 2 rfl) ?_
      obtain ⟨h3, hq⟩ := hq
      refine sC_1 hB hw h3 dJ7_fill_fda19_20 (fun H locs hw => ?_)
      refine lv_iinc (v := x4 + 1) (lv' := [(4, .int (x4 + 1)), (0, .ref (ad 1)), (2, .int x2), (3, .int x3)]) hx hb dJ7_fill_fda19_21 hl (k := 3) rfl rfl (by decide) rfl (fun ls hl => ?_)
      refine lv_goto (tgt := 10) hx hb dJ7_fill_fda19_24 (by decide) ?_
      exact ih (setA σ 1 x4.toNatClampNeg x3) (x4 + 1) _ _ _ hq hw (lv_sub hl [1, 2, 3, 0] rfl)
set_option maxHeartbeats 4000000 in
set_option maxRecDepth 100000 in
theorem c_J7_fill_fda19 (l : Launch) (D : va_G) (ad ln : Nat → Nat) (cI : ClassId) (σ : CS) (p1 p2 p3 : Int32) (post : CS → Prop) (hq : wp_J7_fill_fda19 ln σ p1 p2 p3 post) : MtV l D (tyC cI) (cellsC ad ln cI) yJ7_fill_fda19 cJ7_fill_fda19 5 none (rmK 1) [.ref (ad 1), .int p1, .int p2, .int p3] σ post := by
  refine MtV_of (by decide) (Nat.le_of_ble_eq_true rfl) ?_
  intro p e s m below meth c A ls hB hw hl
  replace hB : MB p s m _ meth c cJ7_fill_fda19 5 none RJ7 := hB
  replace hl : lv_has ls 5 [(0, .ref (ad 1)), (1, .int p1), (2, .int p2), (3, .int p3)] := hl
  obtain ⟨hx, hb, hr, hml, hown, hts, hlk⟩ := id hB
  unfold wp_J7_fill_fda19 at hq
  refine lv_aload_n hx hb dJ7_fill_fda19_0 rfl (lv_at hl 0 rfl) ?_
  refine nC_1 (x := nI (ln 1)) hB hw rfl dJ7_fill_fda19_1 ?_
  refine lv_iload_n hx hb dJ7_fill_fda19_2 rfl (lv_at hl 1 rfl) ?_
  refine lv_iload_n hx hb dJ7_fill_fda19_3 rfl (lv_at hl 2 rfl) ?_
  refine w_cSV (As := [.int (nI (ln 1)), .int p1, .int p2]) (rest := []) hB hw hl.1 (c_J7_rangeCheck_23922 l D ad ln cI σ (nI (ln 1)) p1 p2 _ hq) m286 m498 m181 m20 ok_J7_rangeCheck_23922 (okR_K (by decide) (by decide)) rfl rfl (Nat.le_of_ble_eq_true rfl) dJ7_fill_fda19_4 (fun σ1 H locs hq hw => ?_)
  refine lv_iload_n hx hb dJ7_fill_fda19_7 rfl (lv_at hl 1 rfl) ?_
  refine lv_istore (lv' := [(4, .int p1), (0, .ref (ad 1)), (1, .int p1), (2, .int p2), (3, .int p3)]) hx hb dJ7_fill_fda19_8 hl (by decide) rfl (fun ls hl => ?_)
  obtain ⟨n4, hq⟩ := hq
  refine wl_J7_fill_fda19_10 hB  (fun σ5 H locs ls hq hw hl => ?_) n4 σ1 p1 _ _ _ hq hw (lv_sub hl [1, 3, 4, 0] rfl)
  exact w_vret hB hw hq dJ7_fill_fda19_27
theorem ok_J7_fill_fda19 : okY yJ7_fill_fda19 4 := ⟨by decide, by decide, by decide +kernel⟩
/-! X4_sizeFor -/
def wp_X4_sizeFor (ln : Nat → Nat) (σ : CS) (p0 : Int32) (post : Int32 → CS → Prop) : Prop :=
  post ((((if 4096 < p0 then 4096 else p0) / 4) + 1) * 4) σ
set_option maxHeartbeats 4000000 in
set_option maxRecDepth 100000 in
theorem c_X4_sizeFor (l : Launch) (D : va_G) (ad ln : Nat → Nat) (cI : ClassId) (σ : CS) (p0 : Int32) (post : Int32 → CS → Prop) (hq : wp_X4_sizeFor ln σ p0 post) : MtI l D (tyC cI) (cellsC ad ln cI) yX4_sizeFor cX4_sizeFor 1 (some .int) (rmK 0) [.int p0] σ post := by
  refine MtI_of (by decide) (Nat.le_of_ble_eq_true rfl) ?_
  intro p e s m below meth c A ls hB hw hl
  replace hB : MB p s m _ meth c cX4_sizeFor 1 (some .int) RX4 := hB
  replace hl : lv_has ls 1 [(0, .int p0)] := hl
  obtain ⟨hx, hb, hr, hml, hown, hts, hlk⟩ := id hB
  unfold wp_X4_sizeFor at hq
  refine lv_iload_n hx hb dX4_sizeFor_0 rfl (lv_at hl 0 rfl) ?_
  refine lv_sipush (v := 4096) hx hb dX4_sizeFor_1 (by decide) ?_
  refine m_min hB hl.1 m389 (Nat.le_of_ble_eq_true rfl) (Nat.le_of_ble_eq_true rfl) (Nat.zero_le _) (Nat.zero_le _) dX4_sizeFor_4 ?_
  refine lv_iconst (v := 4) hx hb dX4_sizeFor_7 (by decide) ?_
  refine lv_idiv hx hb dX4_sizeFor_8 (by decide) ?_
  refine lv_iconst (v := 1) hx hb dX4_sizeFor_9 (by decide) ?_
  refine lv_iadd hx hb dX4_sizeFor_10 ?_
  refine lv_iconst (v := 4) hx hb dX4_sizeFor_11 (by decide) ?_
  refine lv_imul hx hb dX4_sizeFor_12 ?_
  exact w_iret hB hw hq dX4_sizeFor_13
theorem ok_X4_sizeFor : okY yX4_sizeFor 1 := ⟨by decide, by decide, by decide +kernel⟩
/-! X4_nextMultiple -/
def wp_X4_nextMultiple (ln : Nat → Nat) (σ : CS) (p0 p1 : Int32) (post : Int32 → CS → Prop) : Prop :=
  ((¬ p1 = 0) ∧ post ((((p0 + p1) - 1) / p1) * p1) σ)
set_option maxHeartbeats 4000000 in
set_option maxRecDepth 100000 in
theorem c_X4_nextMultiple (l : Launch) (D : va_G) (ad ln : Nat → Nat) (cI : ClassId) (σ : CS) (p0 p1 : Int32) (post : Int32 → CS → Prop) (hq : wp_X4_nextMultiple ln σ p0 p1 post) : MtI l D (tyC cI) (cellsC ad ln cI) yX4_nextMultiple cX4_nextMultiple 2 (some .int) (rmK 0) [.int p0, .int p1] σ post := by
  refine MtI_of (by decide) (Nat.le_of_ble_eq_true rfl) ?_
  intro p e s m below meth c A ls hB hw hl
  replace hB : MB p s m _ meth c cX4_nextMultiple 2 (some .int) RX4 := hB
  replace hl : lv_has ls 2 [(0, .int p0), (1, .int p1)] := hl
  obtain ⟨hx, hb, hr, hml, hown, hts, hlk⟩ := id hB
  unfold wp_X4_nextMultiple at hq
  refine lv_iload_n hx hb dX4_nextMultiple_0 rfl (lv_at hl 0 rfl) ?_
  refine lv_iload_n hx hb dX4_nextMultiple_1 rfl (lv_at hl 1 rfl) ?_
  refine lv_iadd hx hb dX4_nextMultiple_2 ?_
  refine lv_iconst (v := 1) hx hb dX4_nextMultiple_3 (by decide) ?_
  refine lv_isub hx hb dX4_nextMultiple_4 ?_
  refine lv_iload_n hx hb dX4_nextMultiple_5 rfl (lv_at hl 1 rfl) ?_
  obtain ⟨h1, hq⟩ := hq
  refine lv_idiv hx hb dX4_nextMultiple_6 h1 ?_
  refine lv_iload_n hx hb dX4_nextMultiple_7 rfl (lv_at hl 1 rfl) ?_
  refine lv_imul hx hb dX4_nextMultiple_8 ?_
  exact w_iret hB hw hq dX4_nextMultiple_9
theorem ok_X4_nextMultiple : okY yX4_nextMultiple 2 := ⟨by decide, by decide, by decide +kernel⟩
/-! X4_clearPayload -/
def wp_X4_clearPayload (ln : Nat → Nat) (σ : CS) (p1 p2 p3 : Int32) (post : CS → Prop) : Prop :=
  wp_J7_fill_fda19 ln σ (p1 + p2) (p1 + p3) 0 (fun σ1 => post σ1)
set_option maxHeartbeats 4000000 in
set_option maxRecDepth 100000 in
theorem c_X4_clearPayload (l : Launch) (D : va_G) (ad ln : Nat → Nat) (cI : ClassId) (σ : CS) (p1 p2 p3 : Int32) (post : CS → Prop) (hq : wp_X4_clearPayload ln σ p1 p2 p3 post) : MtV l D (tyC cI) (cellsC ad ln cI) yX4_clearPayload cX4_clearPayload 4 none (rmK 2) [.ref (ad 0), .int p1, .int p2, .int p3] σ post := by
  refine MtV_of (by decide) (Nat.le_of_ble_eq_true rfl) ?_
  intro p e s m below meth c A ls hB hw hl
  replace hB : MB p s m _ meth c cX4_clearPayload 4 none RX4 := hB
  replace hl : lv_has ls 4 [(0, .ref (ad 0)), (1, .int p1), (2, .int p2), (3, .int p3)] := hl
  obtain ⟨hx, hb, hr, hml, hown, hts, hlk⟩ := id hB
  unfold wp_X4_clearPayload at hq
  refine lv_aload_n hx hb dX4_clearPayload_0 rfl (lv_at hl 0 rfl) ?_
  refine gC_0_0 hB hw m151 dX4_clearPayload_1 ?_
  refine lv_iload_n hx hb dX4_clearPayload_4 rfl (lv_at hl 1 rfl) ?_
  refine lv_iload_n hx hb dX4_clearPayload_5 rfl (lv_at hl 2 rfl) ?_
  refine lv_iadd hx hb dX4_clearPayload_6 ?_
  refine lv_iload_n hx hb dX4_clearPayload_7 rfl (lv_at hl 1 rfl) ?_
  refine lv_iload_n hx hb dX4_clearPayload_8 rfl (lv_at hl 3 rfl) ?_
  refine lv_iadd hx hb dX4_clearPayload_9 ?_
  refine lv_iconst (v := 0) hx hb dX4_clearPayload_10 (by decide) ?_
  refine w_cSV (As := [.ref (ad 1), .int (p1 + p2), .int (p1 + p3), .int 0]) (rest := []) hB hw hl.1 (c_J7_fill_fda19 l D ad ln cI σ (p1 + p2) (p1 + p3) 0 _ hq) m374 m497 m181 m19 ok_J7_fill_fda19 (okR_K (by decide) (by decide)) rfl rfl (Nat.le_of_ble_eq_true rfl) dX4_clearPayload_11 (fun σ1 H locs hq hw => ?_)
  exact w_vret hB hw hq dX4_clearPayload_14
theorem ok_X4_clearPayload : okY yX4_clearPayload 3 := ⟨by decide, by decide, by decide +kernel⟩
/-! X4_giveAtMultiple -/
def lb_X4_giveAtMultiple_15 (ln : Nat → Nat) (post : Int32 → CS → Prop)  (Kx : CS → Prop) (x2 x3 : Int32) (Kb : CS → Int32 → Prop) (σ : CS) (x4 : Int32) : Prop :=
  (((σ.1 0) ≤ x4 → Kx σ) ∧ (¬ (σ.1 0) ≤ x4 → (vp_in x4 (ln 3) ∧ wp_X4_nextMultiple ln σ ((σ.2 3) x4.toNatClampNeg) x2 (fun r7 σ6 => (vp_in x4 (ln 5) ∧ ((¬ ((σ6.2 5) x4.toNatClampNeg) = 0 → Kb σ6 (x4 + 1)) ∧ (((σ6.2 5) x4.toNatClampNeg) = 0 → wp_X2_end ln σ6 x4 (fun r11 σ10 => ((r11 < (r7 + x3) → Kb σ10 (x4 + 1)) ∧ (¬ r11 < (r7 + x3) → wp_X2_carve ln σ10 x4 r7 x3 (fun σ13 => wp_X4_clearPayload ln σ13 r7 0 (x3 - 1) (fun σ14 => wp_X0_drop ln σ14 (fun σ15 => post r7 σ15)))))))))))))
def lp_X4_giveAtMultiple_15 (ln : Nat → Nat) (post : Int32 → CS → Prop)  (Kx : CS → Prop) (x2 x3 : Int32) : Nat → CS → Int32 → Prop
  | 0 => fun _ _ => False
  | n + 1 => lb_X4_giveAtMultiple_15 ln post  Kx x2 x3 (lp_X4_giveAtMultiple_15 ln post  Kx x2 x3 n)
def wp_X4_giveAtMultiple (ln : Nat → Nat) (σ : CS) (p1 p2 : Int32) (post : Int32 → CS → Prop) : Prop :=
  ((1 ≤ p1 → wp_X4_sizeFor ln σ p1 (fun r3 σ2 => (∃ n16 : Nat, lp_X4_giveAtMultiple_15 ln post  (fun σ17 => post 0 σ17) p2 r3 n16 σ2 0))) ∧ (¬ 1 ≤ p1 → post 0 σ))
set_option maxHeartbeats 4000000 in
set_option maxRecDepth 100000 in
theorem wl_X4_giveAtMultiple_15 {p : Program} {l : Launch} {e : Env} {s : State} {m : MethodId} {args : Array Value} {below : List Frame} {meth : Method} {c : Code} {D : va_G} {ad ln : Nat → Nat} {cI : ClassId} {A : Nat → Prop} {post : Int32 → CS → Prop}  {Kx : CS → Prop} {x2 x3 : Int32} (hB : MB p s m args meth c cX4_giveAtMultiple 6 (some .int) RX4)  (hKx : ∀ (σ : CS) (H : Heap) (locs : List Loc) (ls : Array Slot), Kx σ  → WD D (tyC cI) (cellsC ad ln cI σ) A s H locs → lv_has ls 6 [] → W p l e (rmK 3) s m args below meth c H locs 0 0 (MQ below (va_Qi post (Pos0 D (tyC cI) (cellsC ad ln cI) A) A) args s 0 0 A) (F0 m 110 ls [])) :
    ∀ (n : Nat) (σ : CS) (x4 : Int32) (H : Heap) (locs : List Loc) (ls : Array Slot), lp_X4_giveAtMultiple_15 ln post  Kx x2 x3 n σ x4 → WD D (tyC cI) (cellsC ad ln cI σ) A s H locs → lv_has ls 6 [(0, .ref (ad 0)), (2, .int x2), (3, .int x3), (4, .int x4)] → W p l e (rmK 3) s m args below meth c H locs 0 0 (MQ below (va_Qi post (Pos0 D (tyC cI) (cellsC ad ln cI) A) A) args s 0 0 A) (F0 m 15 ls []) := by
  obtain ⟨hx, hb, hr, hml, hown, hts, hlk⟩ := id hB
  intro n
  induction n with
  | zero => intro σ x4 H locs ls hq hw hl; exact hq.elim
  | succ n ih =>
    intro σ x4 H locs ls hq hw hl
    replace hq : lb_X4_giveAtMultiple_15 ln post  Kx x2 x3 (lp_X4_giveAtMultiple_15 ln post  Kx x2 x3 n) σ x4 := hq
    refine lv_iload hx hb dX4_giveAtMultiple_15 (lv_at hl 3 rfl) ?_
    refine lv_aload_n hx hb dX4_giveAtMultiple_17 rfl (lv_at hl 0 rfl) ?_
    refine gC_0_1 hB hw m152 dX4_giveAtMultiple_18 ?_
    refine gC_2_3 (x := σ.1 0) hB hw m149 rfl dX4_giveAtMultiple_21 ?_
    refine lv_icmp_ge (tgt := 110) hx hb dX4_giveAtMultiple_24 (by decide) (fun c4 => ?_) (fun c4 => ?_)
    · replace hq := hq.1 c4
      exact hKx σ _ _ _ hq hw (lv_sub hl [] rfl)
    · replace hq := hq.2 c4
      refine lv_aload_n hx hb dX4_giveAtMultiple_27 rfl (lv_at hl 0 rfl) ?_
      refine gC_0_1 hB hw m152 dX4_giveAtMultiple_28 ?_
      refine gC_2_0 hB hw m150 dX4_giveAtMultiple_31 ?_
      refine lv_iload hx hb dX4_giveAtMultiple_34 (lv_at hl 3 rfl) ?_
      obtain ⟨h5, hq⟩ := hq
      refine aC_3 (f := (σ.2 3)) hB hw rfl h5 dX4_giveAtMultiple_36 ?_
      refine lv_iload_n hx hb dX4_giveAtMultiple_37 rfl (lv_at hl 1 rfl) ?_
      refine w_cSI (As := [.int ((σ.2 3) x4.toNatClampNeg), .int x2]) (rest := []) hB hw hl.1 (c_X4_nextMultiple l D ad ln cI σ ((σ.2 3) x4.toNatClampNeg) x2 _ hq) m371 m504 m187 m74 ok_X4_nextMultiple (okR_K (by decide) (by decide)) rfl rfl (Nat.le_of_ble_eq_true rfl) dX4_giveAtMultiple_38 (fun r7 σ6 H locs hq hw => ?_)
      refine lv_istore (lv' := [(5, .int r7), (0, .ref (ad 0)), (2, .int x2), (3, .int x3), (4, .int x4)]) hx hb dX4_giveAtMultiple_41 hl (by decide) rfl (fun ls hl => ?_)
      refine lv_aload_n hx hb dX4_giveAtMultiple_43 rfl (lv_at hl 1 rfl) ?_
      refine gC_0_1 hB hw m152 dX4_giveAtMultiple_44 ?_
      refine gC_2_2 hB hw m157 dX4_giveAtMultiple_47 ?_
      refine lv_iload hx hb dX4_giveAtMultiple_50 (lv_at hl 4 rfl) ?_
      obtain ⟨h8, hq⟩ := hq
      refine aC_5 (f := (σ6.2 5)) hB hw rfl h8 dX4_giveAtMultiple_52 ?_
      refine lv_if_ne (tgt := 104) hx hb dX4_giveAtMultiple_53 (by decide) (fun c9 => ?_) (fun c9 => ?_)
      · replace hq := hq.1 c9
        refine lv_iinc (v := x4 + 1) (lv' := [(4, .int (x4 + 1)), (5, .int r7), (0, .ref (ad 0)), (2, .int x2), (3, .int x3)]) hx hb dX4_giveAtMultiple_104 hl (k := 4) rfl rfl (by decide) rfl (fun ls hl => ?_)
        refine lv_goto (tgt := 15) hx hb dX4_giveAtMultiple_107 (by decide) ?_
        exact ih σ6 (x4 + 1) _ _ _ hq hw (lv_sub hl [2, 3, 4, 0] rfl)
      · replace hq := hq.2 c9
        refine lv_iload hx hb dX4_giveAtMultiple_56 (lv_at hl 0 rfl) ?_
        refine lv_iload_n hx hb dX4_giveAtMultiple_58 rfl (lv_at hl 3 rfl) ?_
        refine lv_iadd hx hb dX4_giveAtMultiple_59 ?_
        refine lv_aload_n hx hb dX4_giveAtMultiple_60 rfl (lv_at hl 1 rfl) ?_
        refine gC_0_1 hB hw m152 dX4_giveAtMultiple_61 ?_
        refine lv_iload hx hb dX4_giveAtMultiple_64 (lv_at hl 4 rfl) ?_
        refine w_cVI (As := [.int x4]) (rest := [.int (r7 + x3)]) hB hw hl.1 (c_X2_end l D ad ln cI σ6 x4 _ hq) m372 m201 m419 m185 m33 rfl ok_X2_end (okR_K (by decide) (by decide)) (q0 := 2) (ci := 2) rfl rfl rfl rfl (Nat.le_of_ble_eq_true rfl) dX4_giveAtMultiple_66 (fun r11 σ10 H locs hq hw => ?_)
        refine lv_icmp_gt (tgt := 104) hx hb dX4_giveAtMultiple_69 (by decide) (fun c12 => ?_) (fun c12 => ?_)
        · replace hq := hq.1 c12
          refine lv_iinc (v := x4 + 1) (lv' := [(4, .int (x4 + 1)), (5, .int r7), (0, .ref (ad 0)), (2, .int x2), (3, .int x3)]) hx hb dX4_giveAtMultiple_104 hl (k := 4) rfl rfl (by decide) rfl (fun ls hl => ?_)
          refine lv_goto (tgt := 15) hx hb dX4_giveAtMultiple_107 (by decide) ?_
          exact ih σ10 (x4 + 1) _ _ _ hq hw (lv_sub hl [2, 3, 4, 0] rfl)
        · replace hq := hq.2 c12
          refine lv_aload_n hx hb dX4_giveAtMultiple_72 rfl (lv_at hl 1 rfl) ?_
          refine gC_0_1 hB hw m152 dX4_giveAtMultiple_73 ?_
          refine lv_iload hx hb dX4_giveAtMultiple_76 (lv_at hl 4 rfl) ?_
          refine lv_iload hx hb dX4_giveAtMultiple_78 (lv_at hl 0 rfl) ?_
          refine lv_iload_n hx hb dX4_giveAtMultiple_80 rfl (lv_at hl 3 rfl) ?_
          refine w_cVV (As := [.int x4, .int r7, .int x3]) (rest := []) hB hw hl.1 (c_X2_carve l D ad ln cI σ10 x4 r7 x3 _ hq) m373 m200 m418 m185 m32 rfl ok_X2_carve (okR_K (by decide) (by decide)) (q0 := 2) (ci := 2) rfl rfl rfl rfl (Nat.le_of_ble_eq_true rfl) dX4_giveAtMultiple_81 (fun σ13 H locs hq hw => ?_)
          refine lv_aload_n hx hb dX4_giveAtMultiple_84 rfl (lv_at hl 1 rfl) ?_
          refine lv_iload hx hb dX4_giveAtMultiple_85 (lv_at hl 0 rfl) ?_
          refine lv_iconst (v := 0) hx hb dX4_giveAtMultiple_87 (by decide) ?_
          refine lv_iload_n hx hb dX4_giveAtMultiple_88 rfl (lv_at hl 3 rfl) ?_
          refine lv_iconst (v := 1) hx hb dX4_giveAtMultiple_89 (by decide) ?_
          refine lv_isub hx hb dX4_giveAtMultiple_90 ?_
          refine w_cVV (As := [.int r7, .int 0, .int (x3 - 1)]) (rest := []) hB hw hl.1 (c_X4_clearPayload l D ad ln cI σ13 r7 0 (x3 - 1) _ hq) m387 m227 m443 m187 m59 rfl ok_X4_clearPayload (okR_K (by decide) (by decide)) (q0 := 0) (ci := 4) rfl rfl rfl rfl (Nat.le_of_ble_eq_true rfl) dX4_giveAtMultiple_91 (fun σ14 H locs hq hw => ?_)
          refine lv_aload_n hx hb dX4_giveAtMultiple_94 rfl (lv_at hl 1 rfl) ?_
          refine gC_0_3 hB hw m154 dX4_giveAtMultiple_95 ?_
          refine w_cVV (As := []) (rest := []) hB hw hl.1 (c_X0_drop l D ad ln cI σ14 _ hq) m383 m190 m410 m183 m22 rfl ok_X0_drop (okR_K (by decide) (by decide)) (q0 := 9) (ci := 0) rfl rfl rfl rfl (Nat.le_of_ble_eq_true rfl) dX4_giveAtMultiple_98 (fun σ15 H locs hq hw => ?_)
          refine lv_iload hx hb dX4_giveAtMultiple_101 (lv_at hl 0 rfl) ?_
          exact w_iret hB hw hq dX4_giveAtMultiple_103
set_option maxHeartbeats 4000000 in
set_option maxRecDepth 100000 in
theorem c_X4_giveAtMultiple (l : Launch) (D : va_G) (ad ln : Nat → Nat) (cI : ClassId) (σ : CS) (p1 p2 : Int32) (post : Int32 → CS → Prop) (hq : wp_X4_giveAtMultiple ln σ p1 p2 post) : MtI l D (tyC cI) (cellsC ad ln cI) yX4_giveAtMultiple cX4_giveAtMultiple 6 (some .int) (rmK 3) [.ref (ad 0), .int p1, .int p2] σ post := by
  refine MtI_of (by decide) (Nat.le_of_ble_eq_true rfl) ?_
  intro p e s m below meth c A ls hB hw hl
  replace hB : MB p s m _ meth c cX4_giveAtMultiple 6 (some .int) RX4 := hB
  replace hl : lv_has ls 6 [(0, .ref (ad 0)), (1, .int p1), (2, .int p2)] := hl
  obtain ⟨hx, hb, hr, hml, hown, hts, hlk⟩ := id hB
  unfold wp_X4_giveAtMultiple at hq
  refine lv_iload_n hx hb dX4_giveAtMultiple_0 rfl (lv_at hl 1 rfl) ?_
  refine lv_iconst (v := 1) hx hb dX4_giveAtMultiple_1 (by decide) ?_
  refine lv_icmp_ge (tgt := 7) hx hb dX4_giveAtMultiple_2 (by decide) (fun c1 => ?_) (fun c1 => ?_)
  · replace hq := hq.1 c1
    refine lv_iload_n hx hb dX4_giveAtMultiple_7 rfl (lv_at hl 1 rfl) ?_
    refine w_cSI (As := [.int p1]) (rest := []) hB hw hl.1 (c_X4_sizeFor l D ad ln cI σ p1 _ hq) m384 m505 m187 m78 ok_X4_sizeFor (okR_K (by decide) (by decide)) rfl rfl (Nat.le_of_ble_eq_true rfl) dX4_giveAtMultiple_8 (fun r3 σ2 H locs hq hw => ?_)
    refine lv_istore_n (lv' := [(3, .int r3), (0, .ref (ad 0)), (1, .int p1), (2, .int p2)]) hx hb dX4_giveAtMultiple_11 rfl hl (by decide) rfl (fun ls hl => ?_)
    refine lv_iconst (v := 0) hx hb dX4_giveAtMultiple_12 (by decide) ?_
    refine lv_istore (lv' := [(4, .int 0), (3, .int r3), (0, .ref (ad 0)), (1, .int p1), (2, .int p2)]) hx hb dX4_giveAtMultiple_13 hl (by decide) rfl (fun ls hl => ?_)
    obtain ⟨n16, hq⟩ := hq
    refine wl_X4_giveAtMultiple_15 hB  (fun σ17 H locs ls hq hw hl => ?_) n16 σ2 0 _ _ _ hq hw (lv_sub hl [2, 4, 1, 0] rfl)
    refine lv_iconst (v := 0) hx hb dX4_giveAtMultiple_110 (by decide) ?_
    exact w_iret hB hw hq dX4_giveAtMultiple_111
  · replace hq := hq.2 c1
    refine lv_iconst (v := 0) hx hb dX4_giveAtMultiple_5 (by decide) ?_
    exact w_iret hB hw hq dX4_giveAtMultiple_6
theorem ok_X4_giveAtMultiple : okY yX4_giveAtMultiple 2 := ⟨by decide, by decide, by decide +kernel⟩
/-! X4_copyBlock -/
def wp_X4_copyBlock (ln : Nat → Nat) (σ : CS) (p1 p2 : Int32) (post : CS → Prop) : Prop :=
  wp_X2_liveIndex ln σ p1 (fun r2 σ1 => wp_X2_freeIndex ln σ1 p2 (fun r4 σ3 => ((r2 = (-1) → post σ3) ∧ (¬ r2 = (-1) → ((r4 = (-1) → post σ3) ∧ (¬ r4 = (-1) → (vp_in r2 (ln 4) ∧ wp_X2_carve ln σ3 r4 p2 ((σ3.2 4) r2.toNatClampNeg) (fun σ8 => ((¬ p1 < 0) ∧ ((¬ p2 < 0) ∧ ((¬ (((σ3.2 4) r2.toNatClampNeg) - 1) < 0) ∧ ((p1.toNatClampNeg + (((σ3.2 4) r2.toNatClampNeg) - 1).toNatClampNeg ≤ ln 1) ∧ ((p2.toNatClampNeg + (((σ3.2 4) r2.toNatClampNeg) - 1).toNatClampNeg ≤ ln 1) ∧ post (setR σ8 1 (va_cpy (σ8.2 1) (σ8.2 1) p1.toNatClampNeg p2.toNatClampNeg (((σ3.2 4) r2.toNatClampNeg) - 1).toNatClampNeg)))))))))))))))
set_option maxHeartbeats 4000000 in
set_option maxRecDepth 100000 in
theorem c_X4_copyBlock (l : Launch) (D : va_G) (ad ln : Nat → Nat) (cI : ClassId) (σ : CS) (p1 p2 : Int32) (post : CS → Prop) (hq : wp_X4_copyBlock ln σ p1 p2 post) : MtV l D (tyC cI) (cellsC ad ln cI) yX4_copyBlock cX4_copyBlock 6 none (rmK 3) [.ref (ad 0), .int p1, .int p2] σ post := by
  refine MtV_of (by decide) (Nat.le_of_ble_eq_true rfl) ?_
  intro p e s m below meth c A ls hB hw hl
  replace hB : MB p s m _ meth c cX4_copyBlock 6 none RX4 := hB
  replace hl : lv_has ls 6 [(0, .ref (ad 0)), (1, .int p1), (2, .int p2)] := hl
  obtain ⟨hx, hb, hr, hml, hown, hts, hlk⟩ := id hB
  unfold wp_X4_copyBlock at hq
  refine lv_aload_n hx hb dX4_copyBlock_0 rfl (lv_at hl 0 rfl) ?_
  refine gC_0_1 hB hw m152 dX4_copyBlock_1 ?_
  refine lv_iload_n hx hb dX4_copyBlock_4 rfl (lv_at hl 1 rfl) ?_
  refine w_cVI (As := [.int p1]) (rest := []) hB hw hl.1 (c_X2_liveIndex l D ad ln cI σ p1 _ hq) m381 m214 m431 m185 m46 rfl ok_X2_liveIndex (okR_K (by decide) (by decide)) (q0 := 2) (ci := 2) rfl rfl rfl rfl (Nat.le_of_ble_eq_true rfl) dX4_copyBlock_5 (fun r2 σ1 H locs hq hw => ?_)
  refine lv_istore_n (lv' := [(3, .int r2), (0, .ref (ad 0)), (1, .int p1), (2, .int p2)]) hx hb dX4_copyBlock_8 rfl hl (by decide) rfl (fun ls hl => ?_)
  refine lv_aload_n hx hb dX4_copyBlock_9 rfl (lv_at hl 1 rfl) ?_
  refine gC_0_1 hB hw m152 dX4_copyBlock_10 ?_
  refine lv_iload_n hx hb dX4_copyBlock_13 rfl (lv_at hl 3 rfl) ?_
  refine w_cVI (As := [.int p2]) (rest := []) hB hw hl.1 (c_X2_freeIndex l D ad ln cI σ1 p2 _ hq) m362 m206 m424 m185 m38 rfl ok_X2_freeIndex (okR_K (by decide) (by decide)) (q0 := 2) (ci := 2) rfl rfl rfl rfl (Nat.le_of_ble_eq_true rfl) dX4_copyBlock_14 (fun r4 σ3 H locs hq hw => ?_)
  refine lv_istore (lv' := [(4, .int r4), (3, .int r2), (0, .ref (ad 0)), (1, .int p1), (2, .int p2)]) hx hb dX4_copyBlock_17 hl (by decide) rfl (fun ls hl => ?_)
  refine lv_iload_n hx hb dX4_copyBlock_19 rfl (lv_at hl 1 rfl) ?_
  refine lv_iconst (v := (-1)) hx hb dX4_copyBlock_20 (by decide) ?_
  refine lv_icmp_eq (tgt := 70) hx hb dX4_copyBlock_21 (by decide) (fun c5 => ?_) (fun c5 => ?_)
  · replace hq := hq.1 c5
    exact w_vret hB hw hq dX4_copyBlock_70
  · replace hq := hq.2 c5
    refine lv_iload hx hb dX4_copyBlock_24 (lv_at hl 0 rfl) ?_
    refine lv_iconst (v := (-1)) hx hb dX4_copyBlock_26 (by decide) ?_
    refine lv_icmp_eq (tgt := 70) hx hb dX4_copyBlock_27 (by decide) (fun c6 => ?_) (fun c6 => ?_)
    · replace hq := hq.1 c6
      exact w_vret hB hw hq dX4_copyBlock_70
    · replace hq := hq.2 c6
      refine lv_aload_n hx hb dX4_copyBlock_30 rfl (lv_at hl 2 rfl) ?_
      refine gC_0_1 hB hw m152 dX4_copyBlock_31 ?_
      refine gC_2_1 hB hw m156 dX4_copyBlock_34 ?_
      refine lv_iload_n hx hb dX4_copyBlock_37 rfl (lv_at hl 1 rfl) ?_
      obtain ⟨h7, hq⟩ := hq
      refine aC_4 (f := (σ3.2 4)) hB hw rfl h7 dX4_copyBlock_38 ?_
      refine lv_istore (lv' := [(5, .int ((σ3.2 4) r2.toNatClampNeg)), (4, .int r4), (3, .int r2), (0, .ref (ad 0)), (1, .int p1), (2, .int p2)]) hx hb dX4_copyBlock_39 hl (by decide) rfl (fun ls hl => ?_)
      refine lv_aload_n hx hb dX4_copyBlock_41 rfl (lv_at hl 3 rfl) ?_
      refine gC_0_1 hB hw m152 dX4_copyBlock_42 ?_
      refine lv_iload hx hb dX4_copyBlock_45 (lv_at hl 1 rfl) ?_
      refine lv_iload_n hx hb dX4_copyBlock_47 rfl (lv_at hl 5 rfl) ?_
      refine lv_iload hx hb dX4_copyBlock_48 (lv_at hl 0 rfl) ?_
      refine w_cVV (As := [.int r4, .int p2, .int ((σ3.2 4) r2.toNatClampNeg)]) (rest := []) hB hw hl.1 (c_X2_carve l D ad ln cI σ3 r4 p2 ((σ3.2 4) r2.toNatClampNeg) _ hq) m373 m200 m418 m185 m32 rfl ok_X2_carve (okR_K (by decide) (by decide)) (q0 := 2) (ci := 2) rfl rfl rfl rfl (Nat.le_of_ble_eq_true rfl) dX4_copyBlock_50 (fun σ8 H locs hq hw => ?_)
      refine lv_aload_n hx hb dX4_copyBlock_53 rfl (lv_at hl 3 rfl) ?_
      refine gC_0_0 hB hw m151 dX4_copyBlock_54 ?_
      refine lv_iload_n hx hb dX4_copyBlock_57 rfl (lv_at hl 4 rfl) ?_
      refine lv_aload_n hx hb dX4_copyBlock_58 rfl (lv_at hl 3 rfl) ?_
      refine gC_0_0 hB hw m151 dX4_copyBlock_59 ?_
      refine lv_iload_n hx hb dX4_copyBlock_62 rfl (lv_at hl 5 rfl) ?_
      refine lv_iload hx hb dX4_copyBlock_63 (lv_at hl 0 rfl) ?_
      refine lv_iconst (v := 1) hx hb dX4_copyBlock_65 (by decide) ?_
      refine lv_isub hx hb dX4_copyBlock_66 ?_
      obtain ⟨h9, hq⟩ := hq
      obtain ⟨h10, hq⟩ := hq
      obtain ⟨h11, hq⟩ := hq
      obtain ⟨h12, hq⟩ := hq
      obtain ⟨h13, hq⟩ := hq
      refine yC_1 (f := (σ8.2 1)) hB hw hl.1 m375 (Nat.le_of_ble_eq_true rfl) (Nat.le_of_ble_eq_true rfl) rfl h9 h10 h11 h12 h13 dX4_copyBlock_67 (fun H locs hw => ?_)
      exact w_vret hB hw hq dX4_copyBlock_70
theorem ok_X4_copyBlock : okY yX4_copyBlock 2 := ⟨by decide, by decide, by decide +kernel⟩
/-! X4_leaveBlock -/
def wp_X4_leaveBlock (ln : Nat → Nat) (σ : CS) (p1 : Int32) (post : CS → Prop) : Prop :=
  wp_X2_liveIndex ln σ p1 (fun r2 σ1 => ((r2 = (-1) → post σ1) ∧ (¬ r2 = (-1) → wp_X2_release ln σ1 r2 (fun σ4 => post σ4))))
set_option maxHeartbeats 4000000 in
set_option maxRecDepth 100000 in
theorem c_X4_leaveBlock (l : Launch) (D : va_G) (ad ln : Nat → Nat) (cI : ClassId) (σ : CS) (p1 : Int32) (post : CS → Prop) (hq : wp_X4_leaveBlock ln σ p1 post) : MtV l D (tyC cI) (cellsC ad ln cI) yX4_leaveBlock cX4_leaveBlock 3 none (rmK 3) [.ref (ad 0), .int p1] σ post := by
  refine MtV_of (by decide) (Nat.le_of_ble_eq_true rfl) ?_
  intro p e s m below meth c A ls hB hw hl
  replace hB : MB p s m _ meth c cX4_leaveBlock 3 none RX4 := hB
  replace hl : lv_has ls 3 [(0, .ref (ad 0)), (1, .int p1)] := hl
  obtain ⟨hx, hb, hr, hml, hown, hts, hlk⟩ := id hB
  unfold wp_X4_leaveBlock at hq
  refine lv_aload_n hx hb dX4_leaveBlock_0 rfl (lv_at hl 0 rfl) ?_
  refine gC_0_1 hB hw m152 dX4_leaveBlock_1 ?_
  refine lv_iload_n hx hb dX4_leaveBlock_4 rfl (lv_at hl 1 rfl) ?_
  refine w_cVI (As := [.int p1]) (rest := []) hB hw hl.1 (c_X2_liveIndex l D ad ln cI σ p1 _ hq) m381 m214 m431 m185 m46 rfl ok_X2_liveIndex (okR_K (by decide) (by decide)) (q0 := 2) (ci := 2) rfl rfl rfl rfl (Nat.le_of_ble_eq_true rfl) dX4_leaveBlock_5 (fun r2 σ1 H locs hq hw => ?_)
  refine lv_istore_n (lv' := [(2, .int r2), (0, .ref (ad 0)), (1, .int p1)]) hx hb dX4_leaveBlock_8 rfl hl (by decide) rfl (fun ls hl => ?_)
  refine lv_iload_n hx hb dX4_leaveBlock_9 rfl (lv_at hl 0 rfl) ?_
  refine lv_iconst (v := (-1)) hx hb dX4_leaveBlock_10 (by decide) ?_
  refine lv_icmp_eq (tgt := 22) hx hb dX4_leaveBlock_11 (by decide) (fun c3 => ?_) (fun c3 => ?_)
  · replace hq := hq.1 c3
    exact w_vret hB hw hq dX4_leaveBlock_22
  · replace hq := hq.2 c3
    refine lv_aload_n hx hb dX4_leaveBlock_14 rfl (lv_at hl 1 rfl) ?_
    refine gC_0_1 hB hw m152 dX4_leaveBlock_15 ?_
    refine lv_iload_n hx hb dX4_leaveBlock_18 rfl (lv_at hl 0 rfl) ?_
    refine w_cVV (As := [.int r2]) (rest := []) hB hw hl.1 (c_X2_release l D ad ln cI σ1 r2 _ hq) m382 m215 m432 m185 m47 rfl ok_X2_release (okR_K (by decide) (by decide)) (q0 := 2) (ci := 2) rfl rfl rfl rfl (Nat.le_of_ble_eq_true rfl) dX4_leaveBlock_19 (fun σ4 H locs hq hw => ?_)
    exact w_vret hB hw hq dX4_leaveBlock_22
theorem ok_X4_leaveBlock : okY yX4_leaveBlock 1 := ⟨by decide, by decide, by decide +kernel⟩
/-! X4_give -/
def wp_X4_give (ln : Nat → Nat) (σ : CS) (p1 : Int32) (post : Int32 → CS → Prop) : Prop :=
  wp_X4_giveAtMultiple ln σ p1 4 (fun r2 σ1 => post r2 σ1)
set_option maxHeartbeats 4000000 in
set_option maxRecDepth 100000 in
theorem c_X4_give (l : Launch) (D : va_G) (ad ln : Nat → Nat) (cI : ClassId) (σ : CS) (p1 : Int32) (post : Int32 → CS → Prop) (hq : wp_X4_give ln σ p1 post) : MtI l D (tyC cI) (cellsC ad ln cI) yX4_give cX4_give 2 (some .int) (rmK 4) [.ref (ad 0), .int p1] σ post := by
  refine MtI_of (by decide) (Nat.le_of_ble_eq_true rfl) ?_
  intro p e s m below meth c A ls hB hw hl
  replace hB : MB p s m _ meth c cX4_give 2 (some .int) RX4 := hB
  replace hl : lv_has ls 2 [(0, .ref (ad 0)), (1, .int p1)] := hl
  obtain ⟨hx, hb, hr, hml, hown, hts, hlk⟩ := id hB
  unfold wp_X4_give at hq
  refine lv_aload_n hx hb dX4_give_0 rfl (lv_at hl 0 rfl) ?_
  refine lv_iload_n hx hb dX4_give_1 rfl (lv_at hl 1 rfl) ?_
  refine lv_iconst (v := 4) hx hb dX4_give_2 (by decide) ?_
  refine w_cVI (As := [.int p1, .int 4]) (rest := []) hB hw hl.1 (c_X4_giveAtMultiple l D ad ln cI σ p1 4 _ hq) m380 m235 m451 m187 m67 rfl ok_X4_giveAtMultiple (okR_K (by decide) (by decide)) (q0 := 0) (ci := 4) rfl rfl rfl rfl (Nat.le_of_ble_eq_true rfl) dX4_give_3 (fun r2 σ1 H locs hq hw => ?_)
  exact w_iret hB hw hq dX4_give_6
theorem ok_X4_give : okY yX4_give 1 := ⟨by decide, by decide, by decide +kernel⟩
/-! X4_giveAligned -/
def wp_X4_giveAligned (ln : Nat → Nat) (σ : CS) (p1 p2 : Int32) (post : Int32 → CS → Prop) : Prop :=
  ((¬ (p2 &&& (p2 - 1)) = 0 → ((p2 < 4 → post 0 σ) ∧ (¬ p2 < 4 → ((1024 < p2 → post 0 σ) ∧ (¬ 1024 < p2 → post 0 σ))))) ∧ ((p2 &&& (p2 - 1)) = 0 → ((p2 < 4 → post 0 σ) ∧ (¬ p2 < 4 → ((1024 < p2 → post 0 σ) ∧ (¬ 1024 < p2 → wp_X4_giveAtMultiple ln σ p1 p2 (fun r9 σ8 => post r9 σ8)))))))
set_option maxHeartbeats 4000000 in
set_option maxRecDepth 100000 in
theorem c_X4_giveAligned (l : Launch) (D : va_G) (ad ln : Nat → Nat) (cI : ClassId) (σ : CS) (p1 p2 : Int32) (post : Int32 → CS → Prop) (hq : wp_X4_giveAligned ln σ p1 p2 post) : MtI l D (tyC cI) (cellsC ad ln cI) yX4_giveAligned cX4_giveAligned 4 (some .int) (rmK 4) [.ref (ad 0), .int p1, .int p2] σ post := by
  refine MtI_of (by decide) (Nat.le_of_ble_eq_true rfl) ?_
  intro p e s m below meth c A ls hB hw hl
  replace hB : MB p s m _ meth c cX4_giveAligned 4 (some .int) RX4 := hB
  replace hl : lv_has ls 4 [(0, .ref (ad 0)), (1, .int p1), (2, .int p2)] := hl
  obtain ⟨hx, hb, hr, hml, hown, hts, hlk⟩ := id hB
  unfold wp_X4_giveAligned at hq
  refine lv_iload_n hx hb dX4_giveAligned_0 rfl (lv_at hl 2 rfl) ?_
  refine lv_iload_n hx hb dX4_giveAligned_1 rfl (lv_at hl 2 rfl) ?_
  refine lv_iconst (v := 1) hx hb dX4_giveAligned_2 (by decide) ?_
  refine lv_isub hx hb dX4_giveAligned_3 ?_
  refine lv_iand hx hb dX4_giveAligned_4 ?_
  refine lv_if_ne (tgt := 12) hx hb dX4_giveAligned_5 (by decide) (fun c1 => ?_) (fun c1 => ?_)
  · replace hq := hq.1 c1
    refine lv_iconst (v := 0) hx hb dX4_giveAligned_12 (by decide) ?_
    refine lv_istore_n (lv' := [(3, .int 0), (0, .ref (ad 0)), (1, .int p1), (2, .int p2)]) hx hb dX4_giveAligned_13 rfl hl (by decide) rfl (fun ls hl => ?_)
    refine lv_iload_n hx hb dX4_giveAligned_14 rfl (lv_at hl 3 rfl) ?_
    refine lv_iconst (v := 4) hx hb dX4_giveAligned_15 (by decide) ?_
    refine lv_icmp_lt (tgt := 30) hx hb dX4_giveAligned_16 (by decide) (fun c2 => ?_) (fun c2 => ?_)
    · replace hq := hq.1 c2
      refine lv_iconst (v := 0) hx hb dX4_giveAligned_30 (by decide) ?_
      exact w_iret hB hw hq dX4_giveAligned_31
    · replace hq := hq.2 c2
      refine lv_iload_n hx hb dX4_giveAligned_19 rfl (lv_at hl 3 rfl) ?_
      refine lv_sipush (v := 1024) hx hb dX4_giveAligned_20 (by decide) ?_
      refine lv_icmp_gt (tgt := 30) hx hb dX4_giveAligned_23 (by decide) (fun c3 => ?_) (fun c3 => ?_)
      · replace hq := hq.1 c3
        refine lv_iconst (v := 0) hx hb dX4_giveAligned_30 (by decide) ?_
        exact w_iret hB hw hq dX4_giveAligned_31
      · replace hq := hq.2 c3
        refine lv_iload_n hx hb dX4_giveAligned_26 rfl (lv_at hl 0 rfl) ?_
        refine lv_if_ne (tgt := 32) hx hb dX4_giveAligned_27 (by decide) (fun c0 => absurd c0 (by decide)) (fun _ => ?_)
        refine lv_iconst (v := 0) hx hb dX4_giveAligned_30 (by decide) ?_
        exact w_iret hB hw hq dX4_giveAligned_31
  · replace hq := hq.2 c1
    refine lv_iconst (v := 1) hx hb dX4_giveAligned_8 (by decide) ?_
    refine lv_goto (tgt := 13) hx hb dX4_giveAligned_9 (by decide) ?_
    refine lv_istore_n (lv' := [(3, .int 1), (0, .ref (ad 0)), (1, .int p1), (2, .int p2)]) hx hb dX4_giveAligned_13 rfl hl (by decide) rfl (fun ls hl => ?_)
    refine lv_iload_n hx hb dX4_giveAligned_14 rfl (lv_at hl 3 rfl) ?_
    refine lv_iconst (v := 4) hx hb dX4_giveAligned_15 (by decide) ?_
    refine lv_icmp_lt (tgt := 30) hx hb dX4_giveAligned_16 (by decide) (fun c5 => ?_) (fun c5 => ?_)
    · replace hq := hq.1 c5
      refine lv_iconst (v := 0) hx hb dX4_giveAligned_30 (by decide) ?_
      exact w_iret hB hw hq dX4_giveAligned_31
    · replace hq := hq.2 c5
      refine lv_iload_n hx hb dX4_giveAligned_19 rfl (lv_at hl 3 rfl) ?_
      refine lv_sipush (v := 1024) hx hb dX4_giveAligned_20 (by decide) ?_
      refine lv_icmp_gt (tgt := 30) hx hb dX4_giveAligned_23 (by decide) (fun c6 => ?_) (fun c6 => ?_)
      · replace hq := hq.1 c6
        refine lv_iconst (v := 0) hx hb dX4_giveAligned_30 (by decide) ?_
        exact w_iret hB hw hq dX4_giveAligned_31
      · replace hq := hq.2 c6
        refine lv_iload_n hx hb dX4_giveAligned_26 rfl (lv_at hl 0 rfl) ?_
        refine lv_if_ne (tgt := 32) hx hb dX4_giveAligned_27 (by decide) (fun _ => ?_) (fun c0 => absurd c0 (by decide))
        refine lv_aload_n hx hb dX4_giveAligned_32 rfl (lv_at hl 1 rfl) ?_
        refine lv_iload_n hx hb dX4_giveAligned_33 rfl (lv_at hl 2 rfl) ?_
        refine lv_iload_n hx hb dX4_giveAligned_34 rfl (lv_at hl 3 rfl) ?_
        refine w_cVI (As := [.int p1, .int p2]) (rest := []) hB hw hl.1 (c_X4_giveAtMultiple l D ad ln cI σ p1 p2 _ hq) m380 m235 m451 m187 m67 rfl ok_X4_giveAtMultiple (okR_K (by decide) (by decide)) (q0 := 0) (ci := 4) rfl rfl rfl rfl (Nat.le_of_ble_eq_true rfl) dX4_giveAligned_35 (fun r9 σ8 H locs hq hw => ?_)
        exact w_iret hB hw hq dX4_giveAligned_38
theorem ok_X4_giveAligned : okY yX4_giveAligned 2 := ⟨by decide, by decide, by decide +kernel⟩
/-! X4_free -/
def wp_X4_free (ln : Nat → Nat) (σ : CS) (p1 : Int32) (post : Int32 → CS → Prop) : Prop :=
  wp_X2_liveIndex ln σ p1 (fun r2 σ1 => ((¬ r2 = (-1) → wp_X2_release ln σ1 r2 (fun σ4 => wp_X0_drop ln σ4 (fun σ5 => post 1 σ5))) ∧ (r2 = (-1) → post 0 σ1)))
set_option maxHeartbeats 4000000 in
set_option maxRecDepth 100000 in
theorem c_X4_free (l : Launch) (D : va_G) (ad ln : Nat → Nat) (cI : ClassId) (σ : CS) (p1 : Int32) (post : Int32 → CS → Prop) (hq : wp_X4_free ln σ p1 post) : MtI l D (tyC cI) (cellsC ad ln cI) yX4_free cX4_free 3 (some .boolean) (rmK 3) [.ref (ad 0), .int p1] σ post := by
  refine MtI_of (by decide) (Nat.le_of_ble_eq_true rfl) ?_
  intro p e s m below meth c A ls hB hw hl
  replace hB : MB p s m _ meth c cX4_free 3 (some .boolean) RX4 := hB
  replace hl : lv_has ls 3 [(0, .ref (ad 0)), (1, .int p1)] := hl
  obtain ⟨hx, hb, hr, hml, hown, hts, hlk⟩ := id hB
  unfold wp_X4_free at hq
  refine lv_aload_n hx hb dX4_free_0 rfl (lv_at hl 0 rfl) ?_
  refine gC_0_1 hB hw m152 dX4_free_1 ?_
  refine lv_iload_n hx hb dX4_free_4 rfl (lv_at hl 1 rfl) ?_
  refine w_cVI (As := [.int p1]) (rest := []) hB hw hl.1 (c_X2_liveIndex l D ad ln cI σ p1 _ hq) m381 m214 m431 m185 m46 rfl ok_X2_liveIndex (okR_K (by decide) (by decide)) (q0 := 2) (ci := 2) rfl rfl rfl rfl (Nat.le_of_ble_eq_true rfl) dX4_free_5 (fun r2 σ1 H locs hq hw => ?_)
  refine lv_istore_n (lv' := [(2, .int r2), (0, .ref (ad 0)), (1, .int p1)]) hx hb dX4_free_8 rfl hl (by decide) rfl (fun ls hl => ?_)
  refine lv_iload_n hx hb dX4_free_9 rfl (lv_at hl 0 rfl) ?_
  refine lv_iconst (v := (-1)) hx hb dX4_free_10 (by decide) ?_
  refine lv_icmp_ne (tgt := 16) hx hb dX4_free_11 (by decide) (fun c3 => ?_) (fun c3 => ?_)
  · replace hq := hq.1 c3
    refine lv_aload_n hx hb dX4_free_16 rfl (lv_at hl 1 rfl) ?_
    refine gC_0_1 hB hw m152 dX4_free_17 ?_
    refine lv_iload_n hx hb dX4_free_20 rfl (lv_at hl 0 rfl) ?_
    refine w_cVV (As := [.int r2]) (rest := []) hB hw hl.1 (c_X2_release l D ad ln cI σ1 r2 _ hq) m382 m215 m432 m185 m47 rfl ok_X2_release (okR_K (by decide) (by decide)) (q0 := 2) (ci := 2) rfl rfl rfl rfl (Nat.le_of_ble_eq_true rfl) dX4_free_21 (fun σ4 H locs hq hw => ?_)
    refine lv_aload_n hx hb dX4_free_24 rfl (lv_at hl 1 rfl) ?_
    refine gC_0_3 hB hw m154 dX4_free_25 ?_
    refine w_cVV (As := []) (rest := []) hB hw hl.1 (c_X0_drop l D ad ln cI σ4 _ hq) m383 m190 m410 m183 m22 rfl ok_X0_drop (okR_K (by decide) (by decide)) (q0 := 9) (ci := 0) rfl rfl rfl rfl (Nat.le_of_ble_eq_true rfl) dX4_free_28 (fun σ5 H locs hq hw => ?_)
    refine lv_iconst (v := 1) hx hb dX4_free_31 (by decide) ?_
    exact w_zret hB hw rfl hq dX4_free_32
  · replace hq := hq.2 c3
    refine lv_iconst (v := 0) hx hb dX4_free_14 (by decide) ?_
    exact w_zret hB hw rfl hq dX4_free_15
theorem ok_X4_free : okY yX4_free 1 := ⟨by decide, by decide, by decide +kernel⟩
/-! X4_grow -/
def wp_X4_grow (ln : Nat → Nat) (σ : CS) (p1 p2 : Int32) (post : Int32 → CS → Prop) : Prop :=
  wp_X2_liveIndex ln σ p1 (fun r2 σ1 => ((r2 = (-1) → post 0 σ1) ∧ (¬ r2 = (-1) → ((1 ≤ p2 → (vp_in r2 (ln 4) ∧ wp_X4_sizeFor ln σ1 p2 (fun r7 σ6 => ((r7 ≤ ((σ1.2 4) r2.toNatClampNeg) → wp_X0_drop ln σ6 (fun σ9 => post 1 σ9)) ∧ (¬ r7 ≤ ((σ1.2 4) r2.toNatClampNeg) → wp_X2_freeBehind ln σ6 r2 (fun r11 σ10 => (((r7 - ((σ1.2 4) r2.toNatClampNeg)) ≤ r11 → wp_X2_extend ln σ10 r2 r7 (fun σ13 => wp_X4_clearPayload ln σ13 p1 (((σ1.2 4) r2.toNatClampNeg) - 1) (r7 - 1) (fun σ14 => wp_X0_drop ln σ14 (fun σ15 => post 1 σ15)))) ∧ (¬ (r7 - ((σ1.2 4) r2.toNatClampNeg)) ≤ r11 → post 0 σ10)))))))) ∧ (¬ 1 ≤ p2 → post 0 σ1)))))
set_option maxHeartbeats 4000000 in
set_option maxRecDepth 100000 in
theorem c_X4_grow (l : Launch) (D : va_G) (ad ln : Nat → Nat) (cI : ClassId) (σ : CS) (p1 p2 : Int32) (post : Int32 → CS → Prop) (hq : wp_X4_grow ln σ p1 p2 post) : MtI l D (tyC cI) (cellsC ad ln cI) yX4_grow cX4_grow 6 (some .boolean) (rmK 3) [.ref (ad 0), .int p1, .int p2] σ post := by
  refine MtI_of (by decide) (Nat.le_of_ble_eq_true rfl) ?_
  intro p e s m below meth c A ls hB hw hl
  replace hB : MB p s m _ meth c cX4_grow 6 (some .boolean) RX4 := hB
  replace hl : lv_has ls 6 [(0, .ref (ad 0)), (1, .int p1), (2, .int p2)] := hl
  obtain ⟨hx, hb, hr, hml, hown, hts, hlk⟩ := id hB
  unfold wp_X4_grow at hq
  refine lv_aload_n hx hb dX4_grow_0 rfl (lv_at hl 0 rfl) ?_
  refine gC_0_1 hB hw m152 dX4_grow_1 ?_
  refine lv_iload_n hx hb dX4_grow_4 rfl (lv_at hl 1 rfl) ?_
  refine w_cVI (As := [.int p1]) (rest := []) hB hw hl.1 (c_X2_liveIndex l D ad ln cI σ p1 _ hq) m381 m214 m431 m185 m46 rfl ok_X2_liveIndex (okR_K (by decide) (by decide)) (q0 := 2) (ci := 2) rfl rfl rfl rfl (Nat.le_of_ble_eq_true rfl) dX4_grow_5 (fun r2 σ1 H locs hq hw => ?_)
  refine lv_istore_n (lv' := [(3, .int r2), (0, .ref (ad 0)), (1, .int p1), (2, .int p2)]) hx hb dX4_grow_8 rfl hl (by decide) rfl (fun ls hl => ?_)
  refine lv_iload_n hx hb dX4_grow_9 rfl (lv_at hl 0 rfl) ?_
  refine lv_iconst (v := (-1)) hx hb dX4_grow_10 (by decide) ?_
  refine lv_icmp_eq (tgt := 19) hx hb dX4_grow_11 (by decide) (fun c3 => ?_) (fun c3 => ?_)
  · replace hq := hq.1 c3
    refine lv_iconst (v := 0) hx hb dX4_grow_19 (by decide) ?_
    exact w_zret hB hw rfl hq dX4_grow_20
  · replace hq := hq.2 c3
    refine lv_iload_n hx hb dX4_grow_14 rfl (lv_at hl 3 rfl) ?_
    refine lv_iconst (v := 1) hx hb dX4_grow_15 (by decide) ?_
    refine lv_icmp_ge (tgt := 21) hx hb dX4_grow_16 (by decide) (fun c4 => ?_) (fun c4 => ?_)
    · replace hq := hq.1 c4
      refine lv_aload_n hx hb dX4_grow_21 rfl (lv_at hl 1 rfl) ?_
      refine gC_0_1 hB hw m152 dX4_grow_22 ?_
      refine gC_2_1 hB hw m156 dX4_grow_25 ?_
      refine lv_iload_n hx hb dX4_grow_28 rfl (lv_at hl 0 rfl) ?_
      obtain ⟨h5, hq⟩ := hq
      refine aC_4 (f := (σ1.2 4)) hB hw rfl h5 dX4_grow_29 ?_
      refine lv_istore (lv' := [(4, .int ((σ1.2 4) r2.toNatClampNeg)), (3, .int r2), (0, .ref (ad 0)), (1, .int p1), (2, .int p2)]) hx hb dX4_grow_30 hl (by decide) rfl (fun ls hl => ?_)
      refine lv_iload_n hx hb dX4_grow_32 rfl (lv_at hl 4 rfl) ?_
      refine w_cSI (As := [.int p2]) (rest := []) hB hw hl.1 (c_X4_sizeFor l D ad ln cI σ1 p2 _ hq) m384 m505 m187 m78 ok_X4_sizeFor (okR_K (by decide) (by decide)) rfl rfl (Nat.le_of_ble_eq_true rfl) dX4_grow_33 (fun r7 σ6 H locs hq hw => ?_)
      refine lv_istore (lv' := [(5, .int r7), (4, .int ((σ1.2 4) r2.toNatClampNeg)), (3, .int r2), (0, .ref (ad 0)), (1, .int p1), (2, .int p2)]) hx hb dX4_grow_36 hl (by decide) rfl (fun ls hl => ?_)
      refine lv_iload hx hb dX4_grow_38 (lv_at hl 0 rfl) ?_
      refine lv_iload hx hb dX4_grow_40 (lv_at hl 1 rfl) ?_
      refine lv_icmp_le (tgt := 86) hx hb dX4_grow_42 (by decide) (fun c8 => ?_) (fun c8 => ?_)
      · replace hq := hq.1 c8
        refine lv_aload_n hx hb dX4_grow_86 rfl (lv_at hl 3 rfl) ?_
        refine gC_0_3 hB hw m154 dX4_grow_87 ?_
        refine w_cVV (As := []) (rest := []) hB hw hl.1 (c_X0_drop l D ad ln cI σ6 _ hq) m383 m190 m410 m183 m22 rfl ok_X0_drop (okR_K (by decide) (by decide)) (q0 := 9) (ci := 0) rfl rfl rfl rfl (Nat.le_of_ble_eq_true rfl) dX4_grow_90 (fun σ9 H locs hq hw => ?_)
        refine lv_iconst (v := 1) hx hb dX4_grow_93 (by decide) ?_
        exact w_zret hB hw rfl hq dX4_grow_94
      · replace hq := hq.2 c8
        refine lv_aload_n hx hb dX4_grow_45 rfl (lv_at hl 3 rfl) ?_
        refine gC_0_1 hB hw m152 dX4_grow_46 ?_
        refine lv_iload_n hx hb dX4_grow_49 rfl (lv_at hl 2 rfl) ?_
        refine w_cVI (As := [.int r2]) (rest := []) hB hw hl.1 (c_X2_freeBehind l D ad ln cI σ6 r2 _ hq) m385 m204 m422 m185 m36 rfl ok_X2_freeBehind (okR_K (by decide) (by decide)) (q0 := 2) (ci := 2) rfl rfl rfl rfl (Nat.le_of_ble_eq_true rfl) dX4_grow_50 (fun r11 σ10 H locs hq hw => ?_)
        refine lv_iload hx hb dX4_grow_53 (lv_at hl 0 rfl) ?_
        refine lv_iload hx hb dX4_grow_55 (lv_at hl 1 rfl) ?_
        refine lv_isub hx hb dX4_grow_57 ?_
        refine lv_icmp_ge (tgt := 63) hx hb dX4_grow_58 (by decide) (fun c12 => ?_) (fun c12 => ?_)
        · replace hq := hq.1 c12
          refine lv_aload_n hx hb dX4_grow_63 rfl (lv_at hl 3 rfl) ?_
          refine gC_0_1 hB hw m152 dX4_grow_64 ?_
          refine lv_iload_n hx hb dX4_grow_67 rfl (lv_at hl 2 rfl) ?_
          refine lv_iload hx hb dX4_grow_68 (lv_at hl 0 rfl) ?_
          refine w_cVV (As := [.int r2, .int r7]) (rest := []) hB hw hl.1 (c_X2_extend l D ad ln cI σ10 r2 r7 _ hq) m386 m202 m420 m185 m34 rfl ok_X2_extend (okR_K (by decide) (by decide)) (q0 := 2) (ci := 2) rfl rfl rfl rfl (Nat.le_of_ble_eq_true rfl) dX4_grow_70 (fun σ13 H locs hq hw => ?_)
          refine lv_aload_n hx hb dX4_grow_73 rfl (lv_at hl 3 rfl) ?_
          refine lv_iload_n hx hb dX4_grow_74 rfl (lv_at hl 4 rfl) ?_
          refine lv_iload hx hb dX4_grow_75 (lv_at hl 1 rfl) ?_
          refine lv_iconst (v := 1) hx hb dX4_grow_77 (by decide) ?_
          refine lv_isub hx hb dX4_grow_78 ?_
          refine lv_iload hx hb dX4_grow_79 (lv_at hl 0 rfl) ?_
          refine lv_iconst (v := 1) hx hb dX4_grow_81 (by decide) ?_
          refine lv_isub hx hb dX4_grow_82 ?_
          refine w_cVV (As := [.int p1, .int (((σ1.2 4) r2.toNatClampNeg) - 1), .int (r7 - 1)]) (rest := []) hB hw hl.1 (c_X4_clearPayload l D ad ln cI σ13 p1 (((σ1.2 4) r2.toNatClampNeg) - 1) (r7 - 1) _ hq) m387 m227 m443 m187 m59 rfl ok_X4_clearPayload (okR_K (by decide) (by decide)) (q0 := 0) (ci := 4) rfl rfl rfl rfl (Nat.le_of_ble_eq_true rfl) dX4_grow_83 (fun σ14 H locs hq hw => ?_)
          refine lv_aload_n hx hb dX4_grow_86 rfl (lv_at hl 3 rfl) ?_
          refine gC_0_3 hB hw m154 dX4_grow_87 ?_
          refine w_cVV (As := []) (rest := []) hB hw hl.1 (c_X0_drop l D ad ln cI σ14 _ hq) m383 m190 m410 m183 m22 rfl ok_X0_drop (okR_K (by decide) (by decide)) (q0 := 9) (ci := 0) rfl rfl rfl rfl (Nat.le_of_ble_eq_true rfl) dX4_grow_90 (fun σ15 H locs hq hw => ?_)
          refine lv_iconst (v := 1) hx hb dX4_grow_93 (by decide) ?_
          exact w_zret hB hw rfl hq dX4_grow_94
        · replace hq := hq.2 c12
          refine lv_iconst (v := 0) hx hb dX4_grow_61 (by decide) ?_
          exact w_zret hB hw rfl hq dX4_grow_62
    · replace hq := hq.2 c4
      refine lv_iconst (v := 0) hx hb dX4_grow_19 (by decide) ?_
      exact w_zret hB hw rfl hq dX4_grow_20
theorem ok_X4_grow : okY yX4_grow 2 := ⟨by decide, by decide, by decide +kernel⟩
/-! X4_trim -/
def wp_X4_trim (ln : Nat → Nat) (σ : CS) (p1 p2 : Int32) (post : Int32 → CS → Prop) : Prop :=
  wp_X2_liveIndex ln σ p1 (fun r2 σ1 => ((r2 = (-1) → post 0 σ1) ∧ (¬ r2 = (-1) → ((1 ≤ p2 → wp_X4_sizeFor ln σ1 p2 (fun r6 σ5 => (vp_in r2 (ln 4) ∧ ((r6 ≤ ((σ5.2 4) r2.toNatClampNeg) → wp_X2_shorten ln σ5 r2 r6 (fun σ9 => wp_X0_drop ln σ9 (fun σ10 => post 1 σ10))) ∧ (¬ r6 ≤ ((σ5.2 4) r2.toNatClampNeg) → post 0 σ5))))) ∧ (¬ 1 ≤ p2 → post 0 σ1)))))
set_option maxHeartbeats 4000000 in
set_option maxRecDepth 100000 in
theorem c_X4_trim (l : Launch) (D : va_G) (ad ln : Nat → Nat) (cI : ClassId) (σ : CS) (p1 p2 : Int32) (post : Int32 → CS → Prop) (hq : wp_X4_trim ln σ p1 p2 post) : MtI l D (tyC cI) (cellsC ad ln cI) yX4_trim cX4_trim 5 (some .boolean) (rmK 4) [.ref (ad 0), .int p1, .int p2] σ post := by
  refine MtI_of (by decide) (Nat.le_of_ble_eq_true rfl) ?_
  intro p e s m below meth c A ls hB hw hl
  replace hB : MB p s m _ meth c cX4_trim 5 (some .boolean) RX4 := hB
  replace hl : lv_has ls 5 [(0, .ref (ad 0)), (1, .int p1), (2, .int p2)] := hl
  obtain ⟨hx, hb, hr, hml, hown, hts, hlk⟩ := id hB
  unfold wp_X4_trim at hq
  refine lv_aload_n hx hb dX4_trim_0 rfl (lv_at hl 0 rfl) ?_
  refine gC_0_1 hB hw m152 dX4_trim_1 ?_
  refine lv_iload_n hx hb dX4_trim_4 rfl (lv_at hl 1 rfl) ?_
  refine w_cVI (As := [.int p1]) (rest := []) hB hw hl.1 (c_X2_liveIndex l D ad ln cI σ p1 _ hq) m381 m214 m431 m185 m46 rfl ok_X2_liveIndex (okR_K (by decide) (by decide)) (q0 := 2) (ci := 2) rfl rfl rfl rfl (Nat.le_of_ble_eq_true rfl) dX4_trim_5 (fun r2 σ1 H locs hq hw => ?_)
  refine lv_istore_n (lv' := [(3, .int r2), (0, .ref (ad 0)), (1, .int p1), (2, .int p2)]) hx hb dX4_trim_8 rfl hl (by decide) rfl (fun ls hl => ?_)
  refine lv_iload_n hx hb dX4_trim_9 rfl (lv_at hl 0 rfl) ?_
  refine lv_iconst (v := (-1)) hx hb dX4_trim_10 (by decide) ?_
  refine lv_icmp_eq (tgt := 19) hx hb dX4_trim_11 (by decide) (fun c3 => ?_) (fun c3 => ?_)
  · replace hq := hq.1 c3
    refine lv_iconst (v := 0) hx hb dX4_trim_19 (by decide) ?_
    exact w_zret hB hw rfl hq dX4_trim_20
  · replace hq := hq.2 c3
    refine lv_iload_n hx hb dX4_trim_14 rfl (lv_at hl 3 rfl) ?_
    refine lv_iconst (v := 1) hx hb dX4_trim_15 (by decide) ?_
    refine lv_icmp_ge (tgt := 21) hx hb dX4_trim_16 (by decide) (fun c4 => ?_) (fun c4 => ?_)
    · replace hq := hq.1 c4
      refine lv_iload_n hx hb dX4_trim_21 rfl (lv_at hl 3 rfl) ?_
      refine w_cSI (As := [.int p2]) (rest := []) hB hw hl.1 (c_X4_sizeFor l D ad ln cI σ1 p2 _ hq) m384 m505 m187 m78 ok_X4_sizeFor (okR_K (by decide) (by decide)) rfl rfl (Nat.le_of_ble_eq_true rfl) dX4_trim_22 (fun r6 σ5 H locs hq hw => ?_)
      refine lv_istore (lv' := [(4, .int r6), (3, .int r2), (0, .ref (ad 0)), (1, .int p1), (2, .int p2)]) hx hb dX4_trim_25 hl (by decide) rfl (fun ls hl => ?_)
      refine lv_iload hx hb dX4_trim_27 (lv_at hl 0 rfl) ?_
      refine lv_aload_n hx hb dX4_trim_29 rfl (lv_at hl 2 rfl) ?_
      refine gC_0_1 hB hw m152 dX4_trim_30 ?_
      refine gC_2_1 hB hw m156 dX4_trim_33 ?_
      refine lv_iload_n hx hb dX4_trim_36 rfl (lv_at hl 1 rfl) ?_
      obtain ⟨h7, hq⟩ := hq
      refine aC_4 (f := (σ5.2 4)) hB hw rfl h7 dX4_trim_37 ?_
      refine lv_icmp_le (tgt := 43) hx hb dX4_trim_38 (by decide) (fun c8 => ?_) (fun c8 => ?_)
      · replace hq := hq.1 c8
        refine lv_aload_n hx hb dX4_trim_43 rfl (lv_at hl 2 rfl) ?_
        refine gC_0_1 hB hw m152 dX4_trim_44 ?_
        refine lv_iload_n hx hb dX4_trim_47 rfl (lv_at hl 1 rfl) ?_
        refine lv_iload hx hb dX4_trim_48 (lv_at hl 0 rfl) ?_
        refine w_cVV (As := [.int r2, .int r6]) (rest := []) hB hw hl.1 (c_X2_shorten l D ad ln cI σ5 r2 r6 _ hq) m388 m217 m434 m185 m49 rfl ok_X2_shorten (okR_K (by decide) (by decide)) (q0 := 2) (ci := 2) rfl rfl rfl rfl (Nat.le_of_ble_eq_true rfl) dX4_trim_50 (fun σ9 H locs hq hw => ?_)
        refine lv_aload_n hx hb dX4_trim_53 rfl (lv_at hl 2 rfl) ?_
        refine gC_0_3 hB hw m154 dX4_trim_54 ?_
        refine w_cVV (As := []) (rest := []) hB hw hl.1 (c_X0_drop l D ad ln cI σ9 _ hq) m383 m190 m410 m183 m22 rfl ok_X0_drop (okR_K (by decide) (by decide)) (q0 := 9) (ci := 0) rfl rfl rfl rfl (Nat.le_of_ble_eq_true rfl) dX4_trim_57 (fun σ10 H locs hq hw => ?_)
        refine lv_iconst (v := 1) hx hb dX4_trim_60 (by decide) ?_
        exact w_zret hB hw rfl hq dX4_trim_61
      · replace hq := hq.2 c8
        refine lv_iconst (v := 0) hx hb dX4_trim_41 (by decide) ?_
        exact w_zret hB hw rfl hq dX4_trim_42
    · replace hq := hq.2 c4
      refine lv_iconst (v := 0) hx hb dX4_trim_19 (by decide) ?_
      exact w_zret hB hw rfl hq dX4_trim_20
theorem ok_X4_trim : okY yX4_trim 2 := ⟨by decide, by decide, by decide +kernel⟩
/-! X4_pin -/
def wp_X4_pin (ln : Nat → Nat) (σ : CS) (p1 p2 : Int32) (post : Int32 → CS → Prop) : Prop :=
  wp_X2_liveIndex ln σ p1 (fun r2 σ1 => ((¬ r2 = (-1) → ((p2 = 0 → (vp_in r2 (ln 5) ∧ wp_X0_drop ln (setA σ1 5 r2.toNatClampNeg 1) (fun σ6 => post 1 σ6))) ∧ (¬ p2 = 0 → (vp_in r2 (ln 5) ∧ wp_X0_drop ln (setA σ1 5 r2.toNatClampNeg 2) (fun σ8 => post 1 σ8))))) ∧ (r2 = (-1) → post 0 σ1)))
set_option maxHeartbeats 4000000 in
set_option maxRecDepth 100000 in
theorem c_X4_pin (l : Launch) (D : va_G) (ad ln : Nat → Nat) (cI : ClassId) (σ : CS) (p1 p2 : Int32) (post : Int32 → CS → Prop) (hq : wp_X4_pin ln σ p1 p2 post) : MtI l D (tyC cI) (cellsC ad ln cI) yX4_pin cX4_pin 4 (some .boolean) (rmK 2) [.ref (ad 0), .int p1, .int p2] σ post := by
  refine MtI_of (by decide) (Nat.le_of_ble_eq_true rfl) ?_
  intro p e s m below meth c A ls hB hw hl
  replace hB : MB p s m _ meth c cX4_pin 4 (some .boolean) RX4 := hB
  replace hl : lv_has ls 4 [(0, .ref (ad 0)), (1, .int p1), (2, .int p2)] := hl
  obtain ⟨hx, hb, hr, hml, hown, hts, hlk⟩ := id hB
  unfold wp_X4_pin at hq
  refine lv_aload_n hx hb dX4_pin_0 rfl (lv_at hl 0 rfl) ?_
  refine gC_0_1 hB hw m152 dX4_pin_1 ?_
  refine lv_iload_n hx hb dX4_pin_4 rfl (lv_at hl 1 rfl) ?_
  refine w_cVI (As := [.int p1]) (rest := []) hB hw hl.1 (c_X2_liveIndex l D ad ln cI σ p1 _ hq) m381 m214 m431 m185 m46 rfl ok_X2_liveIndex (okR_K (by decide) (by decide)) (q0 := 2) (ci := 2) rfl rfl rfl rfl (Nat.le_of_ble_eq_true rfl) dX4_pin_5 (fun r2 σ1 H locs hq hw => ?_)
  refine lv_istore_n (lv' := [(3, .int r2), (0, .ref (ad 0)), (1, .int p1), (2, .int p2)]) hx hb dX4_pin_8 rfl hl (by decide) rfl (fun ls hl => ?_)
  refine lv_iload_n hx hb dX4_pin_9 rfl (lv_at hl 0 rfl) ?_
  refine lv_iconst (v := (-1)) hx hb dX4_pin_10 (by decide) ?_
  refine lv_icmp_ne (tgt := 16) hx hb dX4_pin_11 (by decide) (fun c3 => ?_) (fun c3 => ?_)
  · replace hq := hq.1 c3
    refine lv_aload_n hx hb dX4_pin_16 rfl (lv_at hl 1 rfl) ?_
    refine gC_0_1 hB hw m152 dX4_pin_17 ?_
    refine gC_2_2 hB hw m157 dX4_pin_20 ?_
    refine lv_iload_n hx hb dX4_pin_23 rfl (lv_at hl 0 rfl) ?_
    refine lv_iload_n hx hb dX4_pin_24 rfl (lv_at hl 3 rfl) ?_
    refine lv_if_eq (tgt := 32) hx hb dX4_pin_25 (by decide) (fun c4 => ?_) (fun c4 => ?_)
    · replace hq := hq.1 c4
      refine lv_iconst (v := 1) hx hb dX4_pin_32 (by decide) ?_
      obtain ⟨h5, hq⟩ := hq
      refine sC_5 hB hw h5 dX4_pin_33 (fun H locs hw => ?_)
      refine lv_aload_n hx hb dX4_pin_34 rfl (lv_at hl 1 rfl) ?_
      refine gC_0_3 hB hw m154 dX4_pin_35 ?_
      refine w_cVV (As := []) (rest := []) hB hw hl.1 (c_X0_drop l D ad ln cI (setA σ1 5 r2.toNatClampNeg 1) _ hq) m383 m190 m410 m183 m22 rfl ok_X0_drop (okR_K (by decide) (by decide)) (q0 := 9) (ci := 0) rfl rfl rfl rfl (Nat.le_of_ble_eq_true rfl) dX4_pin_38 (fun σ6 H locs hq hw => ?_)
      refine lv_iconst (v := 1) hx hb dX4_pin_41 (by decide) ?_
      exact w_zret hB hw rfl hq dX4_pin_42
    · replace hq := hq.2 c4
      refine lv_iconst (v := 2) hx hb dX4_pin_28 (by decide) ?_
      refine lv_goto (tgt := 33) hx hb dX4_pin_29 (by decide) ?_
      obtain ⟨h7, hq⟩ := hq
      refine sC_5 hB hw h7 dX4_pin_33 (fun H locs hw => ?_)
      refine lv_aload_n hx hb dX4_pin_34 rfl (lv_at hl 1 rfl) ?_
      refine gC_0_3 hB hw m154 dX4_pin_35 ?_
      refine w_cVV (As := []) (rest := []) hB hw hl.1 (c_X0_drop l D ad ln cI (setA σ1 5 r2.toNatClampNeg 2) _ hq) m383 m190 m410 m183 m22 rfl ok_X0_drop (okR_K (by decide) (by decide)) (q0 := 9) (ci := 0) rfl rfl rfl rfl (Nat.le_of_ble_eq_true rfl) dX4_pin_38 (fun σ8 H locs hq hw => ?_)
      refine lv_iconst (v := 1) hx hb dX4_pin_41 (by decide) ?_
      exact w_zret hB hw rfl hq dX4_pin_42
  · replace hq := hq.2 c3
    refine lv_iconst (v := 0) hx hb dX4_pin_14 (by decide) ?_
    exact w_zret hB hw rfl hq dX4_pin_15
theorem ok_X4_pin : okY yX4_pin 2 := ⟨by decide, by decide, by decide +kernel⟩
/-! X4_sizeOf -/
def wp_X4_sizeOf (ln : Nat → Nat) (σ : CS) (p1 : Int32) (post : Int32 → CS → Prop) : Prop :=
  wp_X2_liveIndex ln σ p1 (fun r2 σ1 => ((¬ r2 = (-1) → (vp_in r2 (ln 4) ∧ post (((σ1.2 4) r2.toNatClampNeg) - 1) σ1)) ∧ (r2 = (-1) → post (-1) σ1)))
set_option maxHeartbeats 4000000 in
set_option maxRecDepth 100000 in
theorem c_X4_sizeOf (l : Launch) (D : va_G) (ad ln : Nat → Nat) (cI : ClassId) (σ : CS) (p1 : Int32) (post : Int32 → CS → Prop) (hq : wp_X4_sizeOf ln σ p1 post) : MtI l D (tyC cI) (cellsC ad ln cI) yX4_sizeOf cX4_sizeOf 3 (some .int) (rmK 2) [.ref (ad 0), .int p1] σ post := by
  refine MtI_of (by decide) (Nat.le_of_ble_eq_true rfl) ?_
  intro p e s m below meth c A ls hB hw hl
  replace hB : MB p s m _ meth c cX4_sizeOf 3 (some .int) RX4 := hB
  replace hl : lv_has ls 3 [(0, .ref (ad 0)), (1, .int p1)] := hl
  obtain ⟨hx, hb, hr, hml, hown, hts, hlk⟩ := id hB
  unfold wp_X4_sizeOf at hq
  refine lv_aload_n hx hb dX4_sizeOf_0 rfl (lv_at hl 0 rfl) ?_
  refine gC_0_1 hB hw m152 dX4_sizeOf_1 ?_
  refine lv_iload_n hx hb dX4_sizeOf_4 rfl (lv_at hl 1 rfl) ?_
  refine w_cVI (As := [.int p1]) (rest := []) hB hw hl.1 (c_X2_liveIndex l D ad ln cI σ p1 _ hq) m381 m214 m431 m185 m46 rfl ok_X2_liveIndex (okR_K (by decide) (by decide)) (q0 := 2) (ci := 2) rfl rfl rfl rfl (Nat.le_of_ble_eq_true rfl) dX4_sizeOf_5 (fun r2 σ1 H locs hq hw => ?_)
  refine lv_istore_n (lv' := [(2, .int r2), (0, .ref (ad 0)), (1, .int p1)]) hx hb dX4_sizeOf_8 rfl hl (by decide) rfl (fun ls hl => ?_)
  refine lv_iload_n hx hb dX4_sizeOf_9 rfl (lv_at hl 0 rfl) ?_
  refine lv_iconst (v := (-1)) hx hb dX4_sizeOf_10 (by decide) ?_
  refine lv_icmp_ne (tgt := 18) hx hb dX4_sizeOf_11 (by decide) (fun c3 => ?_) (fun c3 => ?_)
  · replace hq := hq.1 c3
    refine lv_aload_n hx hb dX4_sizeOf_18 rfl (lv_at hl 1 rfl) ?_
    refine gC_0_1 hB hw m152 dX4_sizeOf_19 ?_
    refine gC_2_1 hB hw m156 dX4_sizeOf_22 ?_
    refine lv_iload_n hx hb dX4_sizeOf_25 rfl (lv_at hl 0 rfl) ?_
    obtain ⟨h4, hq⟩ := hq
    refine aC_4 (f := (σ1.2 4)) hB hw rfl h4 dX4_sizeOf_26 ?_
    refine lv_iconst (v := 1) hx hb dX4_sizeOf_27 (by decide) ?_
    refine lv_isub hx hb dX4_sizeOf_28 ?_
    exact w_iret hB hw hq dX4_sizeOf_29
  · replace hq := hq.2 c3
    refine lv_iconst (v := (-1)) hx hb dX4_sizeOf_14 (by decide) ?_
    refine lv_goto (tgt := 29) hx hb dX4_sizeOf_15 (by decide) ?_
    exact w_iret hB hw hq dX4_sizeOf_29
theorem ok_X4_sizeOf : okY yX4_sizeOf 1 := ⟨by decide, by decide, by decide +kernel⟩
/-! X4_largest -/
def wp_X4_largest (ln : Nat → Nat) (σ : CS) (post : Int32 → CS → Prop) : Prop :=
  wp_X2_largestFree ln σ (fun r2 σ1 => post r2 σ1)
set_option maxHeartbeats 4000000 in
set_option maxRecDepth 100000 in
theorem c_X4_largest (l : Launch) (D : va_G) (ad ln : Nat → Nat) (cI : ClassId) (σ : CS) (post : Int32 → CS → Prop) (hq : wp_X4_largest ln σ  post) : MtI l D (tyC cI) (cellsC ad ln cI) yX4_largest cX4_largest 1 (some .int) (rmK 1) [.ref (ad 0)] σ post := by
  refine MtI_of (by decide) (Nat.le_of_ble_eq_true rfl) ?_
  intro p e s m below meth c A ls hB hw hl
  replace hB : MB p s m _ meth c cX4_largest 1 (some .int) RX4 := hB
  replace hl : lv_has ls 1 [(0, .ref (ad 0))] := hl
  obtain ⟨hx, hb, hr, hml, hown, hts, hlk⟩ := id hB
  unfold wp_X4_largest at hq
  refine lv_aload_n hx hb dX4_largest_0 rfl (lv_at hl 0 rfl) ?_
  refine gC_0_1 hB hw m152 dX4_largest_1 ?_
  refine w_cVI (As := []) (rest := []) hB hw hl.1 (c_X2_largestFree l D ad ln cI σ _ hq) m391 m212 m429 m185 m44 rfl ok_X2_largestFree (okR_K (by decide) (by decide)) (q0 := 2) (ci := 2) rfl rfl rfl rfl (Nat.le_of_ble_eq_true rfl) dX4_largest_4 (fun r2 σ1 H locs hq hw => ?_)
  exact w_iret hB hw hq dX4_largest_7
theorem ok_X4_largest : okY yX4_largest 0 := ⟨by decide, by decide, by decide +kernel⟩
/-! X4_count -/
def wp_X4_count (ln : Nat → Nat) (σ : CS) (p1 : Int32) (post : Int32 → CS → Prop) : Prop :=
  ((p1 = 0 → wp_X2_freeBlocks ln σ (fun r3 σ2 => post r3 σ2)) ∧ ((p1 = 1 → wp_X2_freeWords ln σ (fun r6 σ5 => post r6 σ5)) ∧ ((p1 = 2 → wp_X2_liveBlocks ln σ (fun r9 σ8 => post r9 σ8)) ∧ ((p1 = 3 → post (σ.1 4) σ) ∧ ((p1 = 4 → wp_X3_depth ln σ (fun r13 σ12 => post r13 σ12)) ∧ ((¬ p1 = 0 ∧ ¬ p1 = 1 ∧ ¬ p1 = 2 ∧ ¬ p1 = 3 ∧ ¬ p1 = 4) → post (-1) σ))))))
set_option maxHeartbeats 4000000 in
set_option maxRecDepth 100000 in
theorem c_X4_count (l : Launch) (D : va_G) (ad ln : Nat → Nat) (cI : ClassId) (σ : CS) (p1 : Int32) (post : Int32 → CS → Prop) (hq : wp_X4_count ln σ p1 post) : MtI l D (tyC cI) (cellsC ad ln cI) yX4_count cX4_count 2 (some .int) (rmK 2) [.ref (ad 0), .int p1] σ post := by
  refine MtI_of (by decide) (Nat.le_of_ble_eq_true rfl) ?_
  intro p e s m below meth c A ls hB hw hl
  replace hB : MB p s m _ meth c cX4_count 2 (some .int) RX4 := hB
  replace hl : lv_has ls 2 [(0, .ref (ad 0)), (1, .int p1)] := hl
  obtain ⟨hx, hb, hr, hml, hown, hts, hlk⟩ := id hB
  unfold wp_X4_count at hq
  refine lv_iload_n hx hb dX4_count_0 rfl (lv_at hl 1 rfl) ?_
  rcases Decidable.em (p1 = 0) with c1 | c1
  · replace hq := hq.1 c1
    refine lv_tableIn (off := 35) (tgt := 36) hx hb dX4_count_1 (by rw [c1]; decide) (by rw [c1]; decide) (by rw [c1]; rfl) (by decide) ?_
    refine lv_aload_n hx hb dX4_count_36 rfl (lv_at hl 0 rfl) ?_
    refine gC_0_1 hB hw m152 dX4_count_37 ?_
    refine w_cVI (As := []) (rest := []) hB hw hl.1 (c_X2_freeBlocks l D ad ln cI σ _ hq) m392 m205 m423 m185 m37 rfl ok_X2_freeBlocks (okR_K (by decide) (by decide)) (q0 := 2) (ci := 2) rfl rfl rfl rfl (Nat.le_of_ble_eq_true rfl) dX4_count_40 (fun r3 σ2 H locs hq hw => ?_)
    exact w_iret hB hw hq dX4_count_43
  replace hq := hq.2
  rcases Decidable.em (p1 = 1) with c4 | c4
  · replace hq := hq.1 c4
    refine lv_tableIn (off := 43) (tgt := 44) hx hb dX4_count_1 (by rw [c4]; decide) (by rw [c4]; decide) (by rw [c4]; rfl) (by decide) ?_
    refine lv_aload_n hx hb dX4_count_44 rfl (lv_at hl 0 rfl) ?_
    refine gC_0_1 hB hw m152 dX4_count_45 ?_
    refine w_cVI (As := []) (rest := []) hB hw hl.1 (c_X2_freeWords l D ad ln cI σ _ hq) m358 m207 m425 m185 m39 rfl ok_X2_freeWords (okR_K (by decide) (by decide)) (q0 := 2) (ci := 2) rfl rfl rfl rfl (Nat.le_of_ble_eq_true rfl) dX4_count_48 (fun r6 σ5 H locs hq hw => ?_)
    exact w_iret hB hw hq dX4_count_51
  replace hq := hq.2
  rcases Decidable.em (p1 = 2) with c7 | c7
  · replace hq := hq.1 c7
    refine lv_tableIn (off := 51) (tgt := 52) hx hb dX4_count_1 (by rw [c7]; decide) (by rw [c7]; decide) (by rw [c7]; rfl) (by decide) ?_
    refine lv_aload_n hx hb dX4_count_52 rfl (lv_at hl 0 rfl) ?_
    refine gC_0_1 hB hw m152 dX4_count_53 ?_
    refine w_cVI (As := []) (rest := []) hB hw hl.1 (c_X2_liveBlocks l D ad ln cI σ _ hq) m359 m213 m430 m185 m45 rfl ok_X2_liveBlocks (okR_K (by decide) (by decide)) (q0 := 2) (ci := 2) rfl rfl rfl rfl (Nat.le_of_ble_eq_true rfl) dX4_count_56 (fun r9 σ8 H locs hq hw => ?_)
    exact w_iret hB hw hq dX4_count_59
  replace hq := hq.2
  rcases Decidable.em (p1 = 3) with c10 | c10
  · replace hq := hq.1 c10
    refine lv_tableIn (off := 59) (tgt := 60) hx hb dX4_count_1 (by rw [c10]; decide) (by rw [c10]; decide) (by rw [c10]; rfl) (by decide) ?_
    refine lv_aload_n hx hb dX4_count_60 rfl (lv_at hl 0 rfl) ?_
    refine gC_0_3 hB hw m154 dX4_count_61 ?_
    refine gC_9_0 hB hw m143 dX4_count_64 ?_
    refine gC_10_2 (x := σ.1 4) hB hw m144 rfl dX4_count_67 ?_
    exact w_iret hB hw hq dX4_count_70
  replace hq := hq.2
  rcases Decidable.em (p1 = 4) with c11 | c11
  · replace hq := hq.1 c11
    refine lv_tableIn (off := 70) (tgt := 71) hx hb dX4_count_1 (by rw [c11]; decide) (by rw [c11]; decide) (by rw [c11]; rfl) (by decide) ?_
    refine lv_aload_n hx hb dX4_count_71 rfl (lv_at hl 0 rfl) ?_
    refine gC_0_2 hB hw m153 dX4_count_72 ?_
    refine w_cVI (As := []) (rest := []) hB hw hl.1 (c_X3_depth l D ad ln cI σ _ hq) m360 m219 m436 m186 m51 rfl ok_X3_depth (okR_K (by decide) (by decide)) (q0 := 6) (ci := 3) rfl rfl rfl rfl (Nat.le_of_ble_eq_true rfl) dX4_count_75 (fun r13 σ12 H locs hq hw => ?_)
    exact w_iret hB hw hq dX4_count_78
  replace hq := hq.2
  replace hq := hq ⟨c1, c4, c7, c10, c11⟩
  refine lv_tableOut (tgt := 79) hx hb dX4_count_1 (sw_out5 c1 c4 c7 c10 c11) (by decide) ?_
  refine lv_iconst (v := (-1)) hx hb dX4_count_79 (by decide) ?_
  exact w_iret hB hw hq dX4_count_80
theorem ok_X4_count : okY yX4_count 1 := ⟨by decide, by decide, by decide +kernel⟩
/-! X4_freeAt -/
def wp_X4_freeAt (ln : Nat → Nat) (σ : CS) (p1 : Int32) (post : Int32 → CS → Prop) : Prop :=
  wp_X2_freeAddress ln σ p1 (fun r2 σ1 => post r2 σ1)
set_option maxHeartbeats 4000000 in
set_option maxRecDepth 100000 in
theorem c_X4_freeAt (l : Launch) (D : va_G) (ad ln : Nat → Nat) (cI : ClassId) (σ : CS) (p1 : Int32) (post : Int32 → CS → Prop) (hq : wp_X4_freeAt ln σ p1 post) : MtI l D (tyC cI) (cellsC ad ln cI) yX4_freeAt cX4_freeAt 2 (some .int) (rmK 1) [.ref (ad 0), .int p1] σ post := by
  refine MtI_of (by decide) (Nat.le_of_ble_eq_true rfl) ?_
  intro p e s m below meth c A ls hB hw hl
  replace hB : MB p s m _ meth c cX4_freeAt 2 (some .int) RX4 := hB
  replace hl : lv_has ls 2 [(0, .ref (ad 0)), (1, .int p1)] := hl
  obtain ⟨hx, hb, hr, hml, hown, hts, hlk⟩ := id hB
  unfold wp_X4_freeAt at hq
  refine lv_aload_n hx hb dX4_freeAt_0 rfl (lv_at hl 0 rfl) ?_
  refine gC_0_1 hB hw m152 dX4_freeAt_1 ?_
  refine lv_iload_n hx hb dX4_freeAt_4 rfl (lv_at hl 1 rfl) ?_
  refine w_cVI (As := [.int p1]) (rest := []) hB hw hl.1 (c_X2_freeAddress l D ad ln cI σ p1 _ hq) m361 m203 m421 m185 m35 rfl ok_X2_freeAddress (okR_K (by decide) (by decide)) (q0 := 2) (ci := 2) rfl rfl rfl rfl (Nat.le_of_ble_eq_true rfl) dX4_freeAt_5 (fun r2 σ1 H locs hq hw => ?_)
  exact w_iret hB hw hq dX4_freeAt_8
theorem ok_X4_freeAt : okY yX4_freeAt 1 := ⟨by decide, by decide, by decide +kernel⟩
/-! X4_advise -/
def wp_X4_advise (ln : Nat → Nat) (σ : CS) (p1 : Int32) (post : Int32 → CS → Prop) : Prop :=
  wp_X0_drop ln σ (fun σ1 => ((p1 < 1 → post (-1) σ1) ∧ (¬ p1 < 1 → wp_X2_liveBlocks ln σ1 (fun r4 σ3 => ((r4 ≤ 128 → wp_X0_search ln σ3 p1 (fun σ6 => (((σ6.1 1) = 0 → post (-1) σ6) ∧ (¬ (σ6.1 1) = 0 → post (σ6.1 4) σ6)))) ∧ (¬ r4 ≤ 128 → post (-1) σ3))))))
set_option maxHeartbeats 4000000 in
set_option maxRecDepth 100000 in
theorem c_X4_advise (l : Launch) (D : va_G) (ad ln : Nat → Nat) (cI : ClassId) (σ : CS) (p1 : Int32) (post : Int32 → CS → Prop) (hq : wp_X4_advise ln σ p1 post) : MtI l D (tyC cI) (cellsC ad ln cI) yX4_advise cX4_advise 2 (some .int) (rmK 3) [.ref (ad 0), .int p1] σ post := by
  refine MtI_of (by decide) (Nat.le_of_ble_eq_true rfl) ?_
  intro p e s m below meth c A ls hB hw hl
  replace hB : MB p s m _ meth c cX4_advise 2 (some .int) RX4 := hB
  replace hl : lv_has ls 2 [(0, .ref (ad 0)), (1, .int p1)] := hl
  obtain ⟨hx, hb, hr, hml, hown, hts, hlk⟩ := id hB
  unfold wp_X4_advise at hq
  refine lv_aload_n hx hb dX4_advise_0 rfl (lv_at hl 0 rfl) ?_
  refine gC_0_3 hB hw m154 dX4_advise_1 ?_
  refine w_cVV (As := []) (rest := []) hB hw hl.1 (c_X0_drop l D ad ln cI σ _ hq) m383 m190 m410 m183 m22 rfl ok_X0_drop (okR_K (by decide) (by decide)) (q0 := 9) (ci := 0) rfl rfl rfl rfl (Nat.le_of_ble_eq_true rfl) dX4_advise_4 (fun σ1 H locs hq hw => ?_)
  refine lv_iload_n hx hb dX4_advise_7 rfl (lv_at hl 1 rfl) ?_
  refine lv_iconst (v := 1) hx hb dX4_advise_8 (by decide) ?_
  refine lv_icmp_lt (tgt := 25) hx hb dX4_advise_9 (by decide) (fun c2 => ?_) (fun c2 => ?_)
  · replace hq := hq.1 c2
    refine lv_iconst (v := (-1)) hx hb dX4_advise_25 (by decide) ?_
    exact w_iret hB hw hq dX4_advise_26
  · replace hq := hq.2 c2
    refine lv_aload_n hx hb dX4_advise_12 rfl (lv_at hl 0 rfl) ?_
    refine gC_0_1 hB hw m152 dX4_advise_13 ?_
    refine w_cVI (As := []) (rest := []) hB hw hl.1 (c_X2_liveBlocks l D ad ln cI σ1 _ hq) m359 m213 m430 m185 m45 rfl ok_X2_liveBlocks (okR_K (by decide) (by decide)) (q0 := 2) (ci := 2) rfl rfl rfl rfl (Nat.le_of_ble_eq_true rfl) dX4_advise_16 (fun r4 σ3 H locs hq hw => ?_)
    refine lv_sipush (v := 128) hx hb dX4_advise_19 (by decide) ?_
    refine lv_icmp_le (tgt := 27) hx hb dX4_advise_22 (by decide) (fun c5 => ?_) (fun c5 => ?_)
    · replace hq := hq.1 c5
      refine lv_aload_n hx hb dX4_advise_27 rfl (lv_at hl 0 rfl) ?_
      refine gC_0_3 hB hw m154 dX4_advise_28 ?_
      refine lv_iload_n hx hb dX4_advise_31 rfl (lv_at hl 1 rfl) ?_
      refine w_cVV (As := [.int p1]) (rest := []) hB hw hl.1 (c_X0_search l D ad ln cI σ3 p1 _ hq) m365 m195 m414 m183 m27 rfl ok_X0_search (okR_K (by decide) (by decide)) (q0 := 9) (ci := 0) rfl rfl rfl rfl (Nat.le_of_ble_eq_true rfl) dX4_advise_32 (fun σ6 H locs hq hw => ?_)
      refine lv_aload_n hx hb dX4_advise_35 rfl (lv_at hl 0 rfl) ?_
      refine gC_0_3 hB hw m154 dX4_advise_36 ?_
      refine gC_9_1 (x := σ6.1 1) hB hw m145 rfl dX4_advise_39 ?_
      refine lv_if_eq (tgt := 58) hx hb dX4_advise_42 (by decide) (fun c7 => ?_) (fun c7 => ?_)
      · replace hq := hq.1 c7
        refine lv_iconst (v := (-1)) hx hb dX4_advise_58 (by decide) ?_
        exact w_iret hB hw hq dX4_advise_59
      · replace hq := hq.2 c7
        refine lv_aload_n hx hb dX4_advise_45 rfl (lv_at hl 0 rfl) ?_
        refine gC_0_3 hB hw m154 dX4_advise_46 ?_
        refine gC_9_0 hB hw m143 dX4_advise_49 ?_
        refine gC_10_2 (x := σ6.1 4) hB hw m144 rfl dX4_advise_52 ?_
        refine lv_goto (tgt := 59) hx hb dX4_advise_55 (by decide) ?_
        exact w_iret hB hw hq dX4_advise_59
    · replace hq := hq.2 c5
      refine lv_iconst (v := (-1)) hx hb dX4_advise_25 (by decide) ?_
      exact w_iret hB hw hq dX4_advise_26
theorem ok_X4_advise : okY yX4_advise 1 := ⟨by decide, by decide, by decide +kernel⟩
/-! X4_window -/
def wp_X4_window (ln : Nat → Nat) (σ : CS) (post : Int32 → CS → Prop) : Prop :=
  (((σ.1 1) = 0 → post (-1) σ) ∧ (¬ (σ.1 1) = 0 → post (σ.1 2) σ))
set_option maxHeartbeats 4000000 in
set_option maxRecDepth 100000 in
theorem c_X4_window (l : Launch) (D : va_G) (ad ln : Nat → Nat) (cI : ClassId) (σ : CS) (post : Int32 → CS → Prop) (hq : wp_X4_window ln σ  post) : MtI l D (tyC cI) (cellsC ad ln cI) yX4_window cX4_window 1 (some .int) (rmK 0) [.ref (ad 0)] σ post := by
  refine MtI_of (by decide) (Nat.le_of_ble_eq_true rfl) ?_
  intro p e s m below meth c A ls hB hw hl
  replace hB : MB p s m _ meth c cX4_window 1 (some .int) RX4 := hB
  replace hl : lv_has ls 1 [(0, .ref (ad 0))] := hl
  obtain ⟨hx, hb, hr, hml, hown, hts, hlk⟩ := id hB
  unfold wp_X4_window at hq
  refine lv_aload_n hx hb dX4_window_0 rfl (lv_at hl 0 rfl) ?_
  refine gC_0_3 hB hw m154 dX4_window_1 ?_
  refine gC_9_1 (x := σ.1 1) hB hw m145 rfl dX4_window_4 ?_
  refine lv_if_eq (tgt := 20) hx hb dX4_window_7 (by decide) (fun c1 => ?_) (fun c1 => ?_)
  · replace hq := hq.1 c1
    refine lv_iconst (v := (-1)) hx hb dX4_window_20 (by decide) ?_
    exact w_iret hB hw hq dX4_window_21
  · replace hq := hq.2 c1
    refine lv_aload_n hx hb dX4_window_10 rfl (lv_at hl 0 rfl) ?_
    refine gC_0_3 hB hw m154 dX4_window_11 ?_
    refine gC_9_2 (x := σ.1 2) hB hw m146 rfl dX4_window_14 ?_
    refine lv_goto (tgt := 21) hx hb dX4_window_17 (by decide) ?_
    exact w_iret hB hw hq dX4_window_21
theorem ok_X4_window : okY yX4_window 0 := ⟨by decide, by decide, by decide +kernel⟩
/-! X4_apply -/
def lb_X4_apply_35 (ln : Nat → Nat) (post : Int32 → CS → Prop)  (Kx : CS → Prop)  (Kb : CS → Int32 → Prop) (σ : CS) (x1 : Int32) : Prop :=
  (((σ.1 6) ≤ x1 → Kx σ) ∧ (¬ (σ.1 6) ≤ x1 → (vp_in x1 (ln 19) ∧ (vp_in x1 (ln 20) ∧ wp_X4_copyBlock ln σ ((σ.2 19) x1.toNatClampNeg) ((σ.2 20) x1.toNatClampNeg) (fun σ7 => Kb σ7 (x1 + 1))))))
def lp_X4_apply_35 (ln : Nat → Nat) (post : Int32 → CS → Prop)  (Kx : CS → Prop)  : Nat → CS → Int32 → Prop
  | 0 => fun _ _ => False
  | n + 1 => lb_X4_apply_35 ln post  Kx  (lp_X4_apply_35 ln post  Kx  n)
def lb_X4_apply_76 (ln : Nat → Nat) (post : Int32 → CS → Prop)  (Kx : CS → Prop)  (Kb : CS → Int32 → Prop) (σ : CS) (x1 : Int32) : Prop :=
  (((σ.1 6) ≤ x1 → Kx σ) ∧ (¬ (σ.1 6) ≤ x1 → (vp_in x1 (ln 19) ∧ wp_X4_leaveBlock ln σ ((σ.2 19) x1.toNatClampNeg) (fun σ12 => Kb σ12 (x1 + 1)))))
def lp_X4_apply_76 (ln : Nat → Nat) (post : Int32 → CS → Prop)  (Kx : CS → Prop)  : Nat → CS → Int32 → Prop
  | 0 => fun _ _ => False
  | n + 1 => lb_X4_apply_76 ln post  Kx  (lp_X4_apply_76 ln post  Kx  n)
def wp_X4_apply (ln : Nat → Nat) (σ : CS) (post : Int32 → CS → Prop) : Prop :=
  ((¬ (σ.1 1) = 0 → wp_X1_takeOver_18 ln σ (fun σ2 => wp_X0_drop ln σ2 (fun σ3 => (∃ n8 : Nat, lp_X4_apply_35 ln post  (fun σ9 => (∃ n13 : Nat, lp_X4_apply_76 ln post  (fun σ14 => post (σ14.1 6) σ14)  n13 σ9 0))  n8 σ3 0)))) ∧ ((σ.1 1) = 0 → post (-1) σ))
set_option maxHeartbeats 4000000 in
set_option maxRecDepth 100000 in
theorem wl_X4_apply_35 {p : Program} {l : Launch} {e : Env} {s : State} {m : MethodId} {args : Array Value} {below : List Frame} {meth : Method} {c : Code} {D : va_G} {ad ln : Nat → Nat} {cI : ClassId} {A : Nat → Prop} {post : Int32 → CS → Prop}  {Kx : CS → Prop}  (hB : MB p s m args meth c cX4_apply 2 (some .int) RX4)  (hKx : ∀ (σ : CS) (H : Heap) (locs : List Loc) (ls : Array Slot), Kx σ  → WD D (tyC cI) (cellsC ad ln cI σ) A s H locs → lv_has ls 2 [(0, .ref (ad 0))] → W p l e (rmK 4) s m args below meth c H locs 0 0 (MQ below (va_Qi post (Pos0 D (tyC cI) (cellsC ad ln cI) A) A) args s 0 0 A) (F0 m 74 ls [])) :
    ∀ (n : Nat) (σ : CS) (x1 : Int32) (H : Heap) (locs : List Loc) (ls : Array Slot), lp_X4_apply_35 ln post  Kx  n σ x1 → WD D (tyC cI) (cellsC ad ln cI σ) A s H locs → lv_has ls 2 [(0, .ref (ad 0)), (1, .int x1)] → W p l e (rmK 4) s m args below meth c H locs 0 0 (MQ below (va_Qi post (Pos0 D (tyC cI) (cellsC ad ln cI) A) A) args s 0 0 A) (F0 m 35 ls []) := by
  obtain ⟨hx, hb, hr, hml, hown, hts, hlk⟩ := id hB
  intro n
  induction n with
  | zero => intro σ x1 H locs ls hq hw hl; exact hq.elim
  | succ n ih =>
    intro σ x1 H locs ls hq hw hl
    replace hq : lb_X4_apply_35 ln post  Kx  (lp_X4_apply_35 ln post  Kx  n) σ x1 := hq
    refine lv_iload_n hx hb dX4_apply_35 rfl (lv_at hl 1 rfl) ?_
    refine lv_aload_n hx hb dX4_apply_36 rfl (lv_at hl 0 rfl) ?_
    refine gC_0_4 hB hw m155 dX4_apply_37 ?_
    refine gC_18_2 (x := σ.1 6) hB hw m144 rfl dX4_apply_40 ?_
    refine lv_icmp_ge (tgt := 74) hx hb dX4_apply_43 (by decide) (fun c4 => ?_) (fun c4 => ?_)
    · replace hq := hq.1 c4
      exact hKx σ _ _ _ hq hw (lv_sub hl [0] rfl)
    · replace hq := hq.2 c4
      refine lv_aload_n hx hb dX4_apply_46 rfl (lv_at hl 0 rfl) ?_
      refine lv_aload_n hx hb dX4_apply_47 rfl (lv_at hl 0 rfl) ?_
      refine gC_0_4 hB hw m155 dX4_apply_48 ?_
      refine gC_18_0 hB hw m147 dX4_apply_51 ?_
      refine lv_iload_n hx hb dX4_apply_54 rfl (lv_at hl 1 rfl) ?_
      obtain ⟨h5, hq⟩ := hq
      refine aC_19 (f := (σ.2 19)) hB hw rfl h5 dX4_apply_55 ?_
      refine lv_aload_n hx hb dX4_apply_56 rfl (lv_at hl 0 rfl) ?_
      refine gC_0_4 hB hw m155 dX4_apply_57 ?_
      refine gC_18_1 hB hw m148 dX4_apply_60 ?_
      refine lv_iload_n hx hb dX4_apply_63 rfl (lv_at hl 1 rfl) ?_
      obtain ⟨h6, hq⟩ := hq
      refine aC_20 (f := (σ.2 20)) hB hw rfl h6 dX4_apply_64 ?_
      refine w_cVV (As := [.int ((σ.2 19) x1.toNatClampNeg), .int ((σ.2 20) x1.toNatClampNeg)]) (rest := []) hB hw hl.1 (c_X4_copyBlock l D ad ln cI σ ((σ.2 19) x1.toNatClampNeg) ((σ.2 20) x1.toNatClampNeg) _ hq) m368 m228 m444 m187 m60 rfl ok_X4_copyBlock (okR_K (by decide) (by decide)) (q0 := 0) (ci := 4) rfl rfl rfl rfl (Nat.le_of_ble_eq_true rfl) dX4_apply_65 (fun σ7 H locs hq hw => ?_)
      refine lv_iinc (v := x1 + 1) (lv' := [(1, .int (x1 + 1)), (0, .ref (ad 0))]) hx hb dX4_apply_68 hl (k := 1) rfl rfl (by decide) rfl (fun ls hl => ?_)
      refine lv_goto (tgt := 35) hx hb dX4_apply_71 (by decide) ?_
      exact ih σ7 (x1 + 1) _ _ _ hq hw (lv_sub hl [1, 0] rfl)
set_option maxHeartbeats 4000000 in
set_option maxRecDepth 100000 in
theorem wl_X4_apply_76 {p : Program} {l : Launch} {e : Env} {s : State} {m : MethodId} {args : Array Value} {below : List Frame} {meth : Method} {c : Code} {D : va_G} {ad ln : Nat → Nat} {cI : ClassId} {A : Nat → Prop} {post : Int32 → CS → Prop}  {Kx : CS → Prop}  (hB : MB p s m args meth c cX4_apply 2 (some .int) RX4)  (hKx : ∀ (σ : CS) (H : Heap) (locs : List Loc) (ls : Array Slot), Kx σ  → WD D (tyC cI) (cellsC ad ln cI σ) A s H locs → lv_has ls 2 [(0, .ref (ad 0))] → W p l e (rmK 4) s m args below meth c H locs 0 0 (MQ below (va_Qi post (Pos0 D (tyC cI) (cellsC ad ln cI) A) A) args s 0 0 A) (F0 m 106 ls [])) :
    ∀ (n : Nat) (σ : CS) (x1 : Int32) (H : Heap) (locs : List Loc) (ls : Array Slot), lp_X4_apply_76 ln post  Kx  n σ x1 → WD D (tyC cI) (cellsC ad ln cI σ) A s H locs → lv_has ls 2 [(0, .ref (ad 0)), (1, .int x1)] → W p l e (rmK 4) s m args below meth c H locs 0 0 (MQ below (va_Qi post (Pos0 D (tyC cI) (cellsC ad ln cI) A) A) args s 0 0 A) (F0 m 76 ls []) := by
  obtain ⟨hx, hb, hr, hml, hown, hts, hlk⟩ := id hB
  intro n
  induction n with
  | zero => intro σ x1 H locs ls hq hw hl; exact hq.elim
  | succ n ih =>
    intro σ x1 H locs ls hq hw hl
    replace hq : lb_X4_apply_76 ln post  Kx  (lp_X4_apply_76 ln post  Kx  n) σ x1 := hq
    refine lv_iload_n hx hb dX4_apply_76 rfl (lv_at hl 1 rfl) ?_
    refine lv_aload_n hx hb dX4_apply_77 rfl (lv_at hl 0 rfl) ?_
    refine gC_0_4 hB hw m155 dX4_apply_78 ?_
    refine gC_18_2 (x := σ.1 6) hB hw m144 rfl dX4_apply_81 ?_
    refine lv_icmp_ge (tgt := 106) hx hb dX4_apply_84 (by decide) (fun c10 => ?_) (fun c10 => ?_)
    · replace hq := hq.1 c10
      exact hKx σ _ _ _ hq hw (lv_sub hl [0] rfl)
    · replace hq := hq.2 c10
      refine lv_aload_n hx hb dX4_apply_87 rfl (lv_at hl 0 rfl) ?_
      refine lv_aload_n hx hb dX4_apply_88 rfl (lv_at hl 0 rfl) ?_
      refine gC_0_4 hB hw m155 dX4_apply_89 ?_
      refine gC_18_0 hB hw m147 dX4_apply_92 ?_
      refine lv_iload_n hx hb dX4_apply_95 rfl (lv_at hl 1 rfl) ?_
      obtain ⟨h11, hq⟩ := hq
      refine aC_19 (f := (σ.2 19)) hB hw rfl h11 dX4_apply_96 ?_
      refine w_cVV (As := [.int ((σ.2 19) x1.toNatClampNeg)]) (rest := []) hB hw hl.1 (c_X4_leaveBlock l D ad ln cI σ ((σ.2 19) x1.toNatClampNeg) _ hq) m369 m239 m454 m187 m71 rfl ok_X4_leaveBlock (okR_K (by decide) (by decide)) (q0 := 0) (ci := 4) rfl rfl rfl rfl (Nat.le_of_ble_eq_true rfl) dX4_apply_97 (fun σ12 H locs hq hw => ?_)
      refine lv_iinc (v := x1 + 1) (lv' := [(1, .int (x1 + 1)), (0, .ref (ad 0))]) hx hb dX4_apply_100 hl (k := 1) rfl rfl (by decide) rfl (fun ls hl => ?_)
      refine lv_goto (tgt := 76) hx hb dX4_apply_103 (by decide) ?_
      exact ih σ12 (x1 + 1) _ _ _ hq hw (lv_sub hl [1, 0] rfl)
set_option maxHeartbeats 4000000 in
set_option maxRecDepth 100000 in
theorem c_X4_apply (l : Launch) (D : va_G) (ad ln : Nat → Nat) (cI : ClassId) (σ : CS) (post : Int32 → CS → Prop) (hq : wp_X4_apply ln σ  post) : MtI l D (tyC cI) (cellsC ad ln cI) yX4_apply cX4_apply 2 (some .int) (rmK 4) [.ref (ad 0)] σ post := by
  refine MtI_of (by decide) (Nat.le_of_ble_eq_true rfl) ?_
  intro p e s m below meth c A ls hB hw hl
  replace hB : MB p s m _ meth c cX4_apply 2 (some .int) RX4 := hB
  replace hl : lv_has ls 2 [(0, .ref (ad 0))] := hl
  obtain ⟨hx, hb, hr, hml, hown, hts, hlk⟩ := id hB
  unfold wp_X4_apply at hq
  refine lv_aload_n hx hb dX4_apply_0 rfl (lv_at hl 0 rfl) ?_
  refine gC_0_3 hB hw m154 dX4_apply_1 ?_
  refine gC_9_1 (x := σ.1 1) hB hw m145 rfl dX4_apply_4 ?_
  refine lv_if_ne (tgt := 12) hx hb dX4_apply_7 (by decide) (fun c1 => ?_) (fun c1 => ?_)
  · replace hq := hq.1 c1
    refine lv_aload_n hx hb dX4_apply_12 rfl (lv_at hl 0 rfl) ?_
    refine gC_0_4 hB hw m155 dX4_apply_13 ?_
    refine lv_aload_n hx hb dX4_apply_16 rfl (lv_at hl 0 rfl) ?_
    refine gC_0_3 hB hw m154 dX4_apply_17 ?_
    refine gC_9_0 hB hw m143 dX4_apply_20 ?_
    refine w_cVV (As := [.ref (ad 10)]) (rest := []) hB hw hl.1 (c_X1_takeOver_18 l D ad ln cI σ _ hq) m367 m199 m417 m184 m31 rfl ok_X1_takeOver_18 (okR_K (by decide) (by decide)) (q0 := 18) (ci := 1) rfl rfl rfl rfl (Nat.le_of_ble_eq_true rfl) dX4_apply_23 (fun σ2 H locs hq hw => ?_)
    refine lv_aload_n hx hb dX4_apply_26 rfl (lv_at hl 0 rfl) ?_
    refine gC_0_3 hB hw m154 dX4_apply_27 ?_
    refine w_cVV (As := []) (rest := []) hB hw hl.1 (c_X0_drop l D ad ln cI σ2 _ hq) m383 m190 m410 m183 m22 rfl ok_X0_drop (okR_K (by decide) (by decide)) (q0 := 9) (ci := 0) rfl rfl rfl rfl (Nat.le_of_ble_eq_true rfl) dX4_apply_30 (fun σ3 H locs hq hw => ?_)
    refine lv_iconst (v := 0) hx hb dX4_apply_33 (by decide) ?_
    refine lv_istore_n (lv' := [(1, .int 0), (0, .ref (ad 0))]) hx hb dX4_apply_34 rfl hl (by decide) rfl (fun ls hl => ?_)
    obtain ⟨n8, hq⟩ := hq
    refine wl_X4_apply_35 hB  (fun σ9 H locs ls hq hw hl => ?_) n8 σ3 0 _ _ _ hq hw (lv_sub hl [1, 0] rfl)
    refine lv_iconst (v := 0) hx hb dX4_apply_74 (by decide) ?_
    refine lv_istore_n (lv' := [(1, .int 0), (0, .ref (ad 0))]) hx hb dX4_apply_75 rfl hl (by decide) rfl (fun ls hl => ?_)
    obtain ⟨n13, hq⟩ := hq
    refine wl_X4_apply_76 hB  (fun σ14 H locs ls hq hw hl => ?_) n13 σ9 0 _ _ _ hq hw (lv_sub hl [1, 0] rfl)
    refine lv_aload_n hx hb dX4_apply_106 rfl (lv_at hl 0 rfl) ?_
    refine gC_0_4 hB hw m155 dX4_apply_107 ?_
    refine gC_18_2 (x := σ14.1 6) hB hw m144 rfl dX4_apply_110 ?_
    exact w_iret hB hw hq dX4_apply_113
  · replace hq := hq.2 c1
    refine lv_iconst (v := (-1)) hx hb dX4_apply_10 (by decide) ?_
    exact w_iret hB hw hq dX4_apply_11
theorem ok_X4_apply : okY yX4_apply 0 := ⟨by decide, by decide, by decide +kernel⟩
/-! X4_moved -/
def wp_X4_moved (ln : Nat → Nat) (σ : CS) (p1 : Int32) (post : Int32 → CS → Prop) : Prop :=
  wp_X1_placeOf_18 ln σ p1 (fun r2 σ1 => post r2 σ1)
set_option maxHeartbeats 4000000 in
set_option maxRecDepth 100000 in
theorem c_X4_moved (l : Launch) (D : va_G) (ad ln : Nat → Nat) (cI : ClassId) (σ : CS) (p1 : Int32) (post : Int32 → CS → Prop) (hq : wp_X4_moved ln σ p1 post) : MtI l D (tyC cI) (cellsC ad ln cI) yX4_moved cX4_moved 2 (some .int) (rmK 1) [.ref (ad 0), .int p1] σ post := by
  refine MtI_of (by decide) (Nat.le_of_ble_eq_true rfl) ?_
  intro p e s m below meth c A ls hB hw hl
  replace hB : MB p s m _ meth c cX4_moved 2 (some .int) RX4 := hB
  replace hl : lv_has ls 2 [(0, .ref (ad 0)), (1, .int p1)] := hl
  obtain ⟨hx, hb, hr, hml, hown, hts, hlk⟩ := id hB
  unfold wp_X4_moved at hq
  refine lv_aload_n hx hb dX4_moved_0 rfl (lv_at hl 0 rfl) ?_
  refine gC_0_4 hB hw m155 dX4_moved_1 ?_
  refine lv_iload_n hx hb dX4_moved_4 rfl (lv_at hl 1 rfl) ?_
  refine w_cVI (As := [.int p1]) (rest := []) hB hw hl.1 (c_X1_placeOf_18 l D ad ln cI σ p1 _ hq) m370 m197 m415 m184 m29 rfl ok_X1_placeOf_18 (okR_K (by decide) (by decide)) (q0 := 18) (ci := 1) rfl rfl rfl rfl (Nat.le_of_ble_eq_true rfl) dX4_moved_5 (fun r2 σ1 H locs hq hw => ?_)
  exact w_iret hB hw hq dX4_moved_8
theorem ok_X4_moved : okY yX4_moved 1 := ⟨by decide, by decide, by decide +kernel⟩
