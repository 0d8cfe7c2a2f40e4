/-! X5_address -/
def wp_X5_address (ln : Nat → Nat) (σ : CS) (p0 : Int32) (post : Int32 → CS → Prop) : Prop :=
  post ((4 * p0) + 4) σ
set_option maxHeartbeats 4000000 in
set_option maxRecDepth 100000 in
theorem c_X5_address (l : Launch) (D : va_G) (ad ln : Nat → Nat) (cI cZ : ClassId) (σ : CS) (p0 : Int32) (post : Int32 → CS → Prop) (hq : wp_X5_address ln σ p0 post) : MtI l D (tyM cI cZ) (cellsM ad ln cI cZ) yX5_address cX5_address 1 (some .int) (rmK 0) [.int p0] σ post := by
  refine MtI_of (by decide) (Nat.le_of_ble_eq_true rfl) ?_
  intro p e s m below meth c A ls hB hw hl
  replace hB : MB p s m _ meth c cX5_address 1 (some .int) RX5 := hB
  replace hl : lv_has ls 1 [(0, .int p0)] := hl
  obtain ⟨hx, hb, hr, hml, hown, hts, hlk⟩ := id hB
  unfold wp_X5_address at hq
  refine lv_iconst (v := 4) hx hb dX5_address_0 (by decide) ?_
  refine lv_iload_n hx hb dX5_address_1 rfl (lv_at hl 0 rfl) ?_
  refine lv_imul hx hb dX5_address_2 ?_
  refine lv_iconst (v := 4) hx hb dX5_address_3 (by decide) ?_
  refine lv_iadd hx hb dX5_address_4 ?_
  exact w_iret hB hw hq dX5_address_5
theorem ok_X5_address : okY yX5_address 1 := ⟨by decide, by decide, by decide +kernel⟩
/-! X5_thrown -/
def wp_X5_thrown (ln : Nat → Nat) (σ : CS) (post : Int32 → CS → Prop) : Prop :=
  post (σ.1 0) σ
set_option maxHeartbeats 4000000 in
set_option maxRecDepth 100000 in
theorem c_X5_thrown (l : Launch) (D : va_G) (ad ln : Nat → Nat) (cI cZ : ClassId) (σ : CS) (post : Int32 → CS → Prop) (hq : wp_X5_thrown ln σ  post) : MtI l D (tyM cI cZ) (cellsM ad ln cI cZ) yX5_thrown cX5_thrown 1 (some .int) (rmK 0) [.ref (ad 0)] σ post := by
  refine MtI_of (by decide) (Nat.le_of_ble_eq_true rfl) ?_
  intro p e s m below meth c A ls hB hw hl
  replace hB : MB p s m _ meth c cX5_thrown 1 (some .int) RX5 := hB
  replace hl : lv_has ls 1 [(0, .ref (ad 0))] := hl
  obtain ⟨hx, hb, hr, hml, hown, hts, hlk⟩ := id hB
  unfold wp_X5_thrown at hq
  refine lv_aload_n hx hb dX5_thrown_0 rfl (lv_at hl 0 rfl) ?_
  refine gM_0_0 (x := σ.1 0) hB hw m171 rfl dX5_thrown_1 ?_
  exact w_iret hB hw hq dX5_thrown_4
theorem ok_X5_thrown : okY yX5_thrown 0 := ⟨by decide, by decide, by decide +kernel⟩
/-! X5_find -/
def wp_X5_find (ln : Nat → Nat) (σ : CS) (p1 : Int32) (post : Int32 → CS → Prop) : Prop :=
  ((p1 < 4 → post (-1) σ) ∧ (¬ p1 < 4 → ((¬ (p1 - p1 / 4 * 4) = 0 → post (-1) σ) ∧ ((p1 - p1 / 4 * 4) = 0 → (((p1 / 4) ≤ (σ.1 1) → (vp_in ((p1 / 4) - 1) (ln 1) ∧ ((((σ.2 1) ((p1 / 4) - 1).toNatClampNeg) ≤ 0 → post (-1) σ) ∧ (¬ ((σ.2 1) ((p1 / 4) - 1).toNatClampNeg) ≤ 0 → (vp_in ((p1 / 4) - 1) (ln 2) ∧ ((((σ.2 2) ((p1 / 4) - 1).toNatClampNeg) = 0 → post (-1) σ) ∧ (¬ ((σ.2 2) ((p1 / 4) - 1).toNatClampNeg) = 0 → post ((p1 / 4) - 1) σ))))))) ∧ (¬ (p1 / 4) ≤ (σ.1 1) → post (-1) σ))))))
set_option maxHeartbeats 4000000 in
set_option maxRecDepth 100000 in
theorem c_X5_find (l : Launch) (D : va_G) (ad ln : Nat → Nat) (cI cZ : ClassId) (σ : CS) (p1 : Int32) (post : Int32 → CS → Prop) (hq : wp_X5_find ln σ p1 post) : MtI l D (tyM cI cZ) (cellsM ad ln cI cZ) yX5_find cX5_find 3 (some .int) (rmK 0) [.ref (ad 0), .int p1] σ post := by
  refine MtI_of (by decide) (Nat.le_of_ble_eq_true rfl) ?_
  intro p e s m below meth c A ls hB hw hl
  replace hB : MB p s m _ meth c cX5_find 3 (some .int) RX5 := hB
  replace hl : lv_has ls 3 [(0, .ref (ad 0)), (1, .int p1)] := hl
  obtain ⟨hx, hb, hr, hml, hown, hts, hlk⟩ := id hB
  unfold wp_X5_find at hq
  refine lv_iload_n hx hb dX5_find_0 rfl (lv_at hl 1 rfl) ?_
  refine lv_iconst (v := 4) hx hb dX5_find_1 (by decide) ?_
  refine lv_icmp_lt (tgt := 21) hx hb dX5_find_2 (by decide) (fun c1 => ?_) (fun c1 => ?_)
  · replace hq := hq.1 c1
    refine lv_iconst (v := (-1)) hx hb dX5_find_21 (by decide) ?_
    exact w_iret hB hw hq dX5_find_22
  · replace hq := hq.2 c1
    refine lv_iload_n hx hb dX5_find_5 rfl (lv_at hl 1 rfl) ?_
    refine lv_iconst (v := 4) hx hb dX5_find_6 (by decide) ?_
    refine lv_irem hx hb dX5_find_7 (by decide) ?_
    refine lv_if_ne (tgt := 21) hx hb dX5_find_8 (by decide) (fun c2 => ?_) (fun c2 => ?_)
    · replace hq := hq.1 c2
      refine lv_iconst (v := (-1)) hx hb dX5_find_21 (by decide) ?_
      exact w_iret hB hw hq dX5_find_22
    · replace hq := hq.2 c2
      refine lv_iload_n hx hb dX5_find_11 rfl (lv_at hl 1 rfl) ?_
      refine lv_iconst (v := 4) hx hb dX5_find_12 (by decide) ?_
      refine lv_idiv hx hb dX5_find_13 (by decide) ?_
      refine lv_aload_n hx hb dX5_find_14 rfl (lv_at hl 0 rfl) ?_
      refine gM_0_1 (x := σ.1 1) hB hw m170 rfl dX5_find_15 ?_
      refine lv_icmp_le (tgt := 23) hx hb dX5_find_18 (by decide) (fun c3 => ?_) (fun c3 => ?_)
      · replace hq := hq.1 c3
        refine lv_iload_n hx hb dX5_find_23 rfl (lv_at hl 1 rfl) ?_
        refine lv_iconst (v := 4) hx hb dX5_find_24 (by decide) ?_
        refine lv_idiv hx hb dX5_find_25 (by decide) ?_
        refine lv_iconst (v := 1) hx hb dX5_find_26 (by decide) ?_
        refine lv_isub hx hb dX5_find_27 ?_
        refine lv_istore_n (lv' := [(2, .int ((p1 / 4) - 1)), (0, .ref (ad 0)), (1, .int p1)]) hx hb dX5_find_28 rfl hl (by decide) rfl (fun ls hl => ?_)
        refine lv_aload_n hx hb dX5_find_29 rfl (lv_at hl 1 rfl) ?_
        refine gM_0_2 hB hw m172 dX5_find_30 ?_
        refine lv_iload_n hx hb dX5_find_33 rfl (lv_at hl 0 rfl) ?_
        obtain ⟨h4, hq⟩ := hq
        refine aM_1 (f := (σ.2 1)) hB hw rfl h4 dX5_find_34 ?_
        refine lv_if_le (tgt := 51) hx hb dX5_find_35 (by decide) (fun c5 => ?_) (fun c5 => ?_)
        · replace hq := hq.1 c5
          refine lv_iconst (v := (-1)) hx hb dX5_find_51 (by decide) ?_
          exact w_iret hB hw hq dX5_find_52
        · replace hq := hq.2 c5
          refine lv_aload_n hx hb dX5_find_38 rfl (lv_at hl 1 rfl) ?_
          refine gM_0_3 hB hw m160 dX5_find_39 ?_
          refine lv_iload_n hx hb dX5_find_42 rfl (lv_at hl 0 rfl) ?_
          obtain ⟨h6, hq⟩ := hq
          refine aM_2 (f := (σ.2 2)) hB hw rfl h6 dX5_find_43 ?_
          refine lv_if_eq (tgt := 51) hx hb dX5_find_44 (by decide) (fun c7 => ?_) (fun c7 => ?_)
          · replace hq := hq.1 c7
            refine lv_iconst (v := (-1)) hx hb dX5_find_51 (by decide) ?_
            exact w_iret hB hw hq dX5_find_52
          · replace hq := hq.2 c7
            refine lv_iload_n hx hb dX5_find_47 rfl (lv_at hl 0 rfl) ?_
            refine lv_goto (tgt := 52) hx hb dX5_find_48 (by decide) ?_
            exact w_iret hB hw hq dX5_find_52
      · replace hq := hq.2 c3
        refine lv_iconst (v := (-1)) hx hb dX5_find_21 (by decide) ?_
        exact w_iret hB hw hq dX5_find_22
theorem ok_X5_find : okY yX5_find 1 := ⟨by decide, by decide, by decide +kernel⟩
/-! X5_isFree -/
def wp_X5_isFree (ln : Nat → Nat) (σ : CS) (p1 : Int32) (post : Int32 → CS → Prop) : Prop :=
  (((σ.1 1) ≤ p1 → post 0 σ) ∧ (¬ (σ.1 1) ≤ p1 → (vp_in p1 (ln 1) ∧ ((((σ.2 1) p1.toNatClampNeg) ≤ 0 → post 0 σ) ∧ (¬ ((σ.2 1) p1.toNatClampNeg) ≤ 0 → (vp_in p1 (ln 2) ∧ ((¬ ((σ.2 2) p1.toNatClampNeg) = 0 → post 0 σ) ∧ (((σ.2 2) p1.toNatClampNeg) = 0 → post 1 σ))))))))
set_option maxHeartbeats 4000000 in
set_option maxRecDepth 100000 in
theorem c_X5_isFree (l : Launch) (D : va_G) (ad ln : Nat → Nat) (cI cZ : ClassId) (σ : CS) (p1 : Int32) (post : Int32 → CS → Prop) (hq : wp_X5_isFree ln σ p1 post) : MtI l D (tyM cI cZ) (cellsM ad ln cI cZ) yX5_isFree cX5_isFree 2 (some .boolean) (rmK 0) [.ref (ad 0), .int p1] σ post := by
  refine MtI_of (by decide) (Nat.le_of_ble_eq_true rfl) ?_
  intro p e s m below meth c A ls hB hw hl
  replace hB : MB p s m _ meth c cX5_isFree 2 (some .boolean) RX5 := hB
  replace hl : lv_has ls 2 [(0, .ref (ad 0)), (1, .int p1)] := hl
  obtain ⟨hx, hb, hr, hml, hown, hts, hlk⟩ := id hB
  unfold wp_X5_isFree at hq
  refine lv_iload_n hx hb dX5_isFree_0 rfl (lv_at hl 1 rfl) ?_
  refine lv_aload_n hx hb dX5_isFree_1 rfl (lv_at hl 0 rfl) ?_
  refine gM_0_1 (x := σ.1 1) hB hw m170 rfl dX5_isFree_2 ?_
  refine lv_icmp_ge (tgt := 30) hx hb dX5_isFree_5 (by decide) (fun c1 => ?_) (fun c1 => ?_)
  · replace hq := hq.1 c1
    refine lv_iconst (v := 0) hx hb dX5_isFree_30 (by decide) ?_
    exact w_zret hB hw rfl hq dX5_isFree_31
  · replace hq := hq.2 c1
    refine lv_aload_n hx hb dX5_isFree_8 rfl (lv_at hl 0 rfl) ?_
    refine gM_0_2 hB hw m172 dX5_isFree_9 ?_
    refine lv_iload_n hx hb dX5_isFree_12 rfl (lv_at hl 1 rfl) ?_
    obtain ⟨h2, hq⟩ := hq
    refine aM_1 (f := (σ.2 1)) hB hw rfl h2 dX5_isFree_13 ?_
    refine lv_if_le (tgt := 30) hx hb dX5_isFree_14 (by decide) (fun c3 => ?_) (fun c3 => ?_)
    · replace hq := hq.1 c3
      refine lv_iconst (v := 0) hx hb dX5_isFree_30 (by decide) ?_
      exact w_zret hB hw rfl hq dX5_isFree_31
    · replace hq := hq.2 c3
      refine lv_aload_n hx hb dX5_isFree_17 rfl (lv_at hl 0 rfl) ?_
      refine gM_0_3 hB hw m160 dX5_isFree_18 ?_
      refine lv_iload_n hx hb dX5_isFree_21 rfl (lv_at hl 1 rfl) ?_
      obtain ⟨h4, hq⟩ := hq
      refine aM_2 (f := (σ.2 2)) hB hw rfl h4 dX5_isFree_22 ?_
      refine lv_if_ne (tgt := 30) hx hb dX5_isFree_23 (by decide) (fun c5 => ?_) (fun c5 => ?_)
      · replace hq := hq.1 c5
        refine lv_iconst (v := 0) hx hb dX5_isFree_30 (by decide) ?_
        exact w_zret hB hw rfl hq dX5_isFree_31
      · replace hq := hq.2 c5
        refine lv_iconst (v := 1) hx hb dX5_isFree_26 (by decide) ?_
        refine lv_goto (tgt := 31) hx hb dX5_isFree_27 (by decide) ?_
        exact w_zret hB hw rfl hq dX5_isFree_31
theorem ok_X5_isFree : okY yX5_isFree 1 := ⟨by decide, by decide, by decide +kernel⟩
/-! X5_groupsFor -/
def wp_X5_groupsFor (ln : Nat → Nat) (σ : CS) (p1 : Int32) (post : Int32 → CS → Prop) : Prop :=
  post ((p1 / 4) + 1) σ
set_option maxHeartbeats 4000000 in
set_option maxRecDepth 100000 in
theorem c_X5_groupsFor (l : Launch) (D : va_G) (ad ln : Nat → Nat) (cI cZ : ClassId) (σ : CS) (p1 : Int32) (post : Int32 → CS → Prop) (hq : wp_X5_groupsFor ln σ p1 post) : MtI l D (tyM cI cZ) (cellsM ad ln cI cZ) yX5_groupsFor cX5_groupsFor 2 (some .int) (rmK 0) [.ref (ad 0), .int p1] σ post := by
  refine MtI_of (by decide) (Nat.le_of_ble_eq_true rfl) ?_
  intro p e s m below meth c A ls hB hw hl
  replace hB : MB p s m _ meth c cX5_groupsFor 2 (some .int) RX5 := hB
  replace hl : lv_has ls 2 [(0, .ref (ad 0)), (1, .int p1)] := hl
  obtain ⟨hx, hb, hr, hml, hown, hts, hlk⟩ := id hB
  unfold wp_X5_groupsFor at hq
  refine lv_iload_n hx hb dX5_groupsFor_0 rfl (lv_at hl 1 rfl) ?_
  refine lv_iconst (v := 4) hx hb dX5_groupsFor_1 (by decide) ?_
  refine lv_idiv hx hb dX5_groupsFor_2 (by decide) ?_
  refine lv_iconst (v := 1) hx hb dX5_groupsFor_3 (by decide) ?_
  refine lv_iadd hx hb dX5_groupsFor_4 ?_
  exact w_iret hB hw hq dX5_groupsFor_5
theorem ok_X5_groupsFor : okY yX5_groupsFor 1 := ⟨by decide, by decide, by decide +kernel⟩
/-! X5_joins -/
def lb_X5_joins_2 (ln : Nat → Nat) (post : CS → Prop)  (Kx : CS → Prop)  (Kb : CS → Int32 → Prop) (σ : CS) (x1 : Int32) : Prop :=
  (((σ.1 1) ≤ x1 → Kx σ) ∧ (¬ (σ.1 1) ≤ x1 → (vp_in x1 (ln 1) ∧ wp_X5_isFree ln σ x1 (fun r4 σ3 => ((r4 = 0 → Kb σ3 (x1 + ((σ.2 1) x1.toNatClampNeg))) ∧ (¬ r4 = 0 → wp_X5_isFree ln σ3 (x1 + ((σ.2 1) x1.toNatClampNeg)) (fun r7 σ6 => ((r7 = 0 → Kb σ6 (x1 + ((σ.2 1) x1.toNatClampNeg))) ∧ (¬ r7 = 0 → (vp_in (x1 + ((σ.2 1) x1.toNatClampNeg)) (ln 1) ∧ Kb (setA (setA σ6 1 x1.toNatClampNeg (((σ6.2 1) x1.toNatClampNeg) + ((σ6.2 1) (x1 + ((σ.2 1) x1.toNatClampNeg)).toNatClampNeg))) 1 (x1 + ((σ.2 1) x1.toNatClampNeg)).toNatClampNeg 0) x1))))))))))
def lp_X5_joins_2 (ln : Nat → Nat) (post : CS → Prop)  (Kx : CS → Prop)  : Nat → CS → Int32 → Prop
  | 0 => fun _ _ => False
  | n + 1 => lb_X5_joins_2 ln post  Kx  (lp_X5_joins_2 ln post  Kx  n)
def wp_X5_joins (ln : Nat → Nat) (σ : CS) (post : CS → Prop) : Prop :=
  (∃ n10 : Nat, lp_X5_joins_2 ln post  (fun σ11 => post σ11)  n10 σ 0)
set_option maxHeartbeats 4000000 in
set_option maxRecDepth 100000 in
theorem wl_X5_joins_2 {p : Program} {l : Launch} {e : Env} {s : State} {m : MethodId} {args : Array Value} {below : List Frame} {meth : Method} {c : Code} {D : va_G} {ad ln : Nat → Nat} {cI cZ : ClassId} {A : Nat → Prop} {post : CS → Prop}  {Kx : CS → Prop}  (hB : MB p s m args meth c cX5_joins 3 none RX5)  (hKx : ∀ (σ : CS) (H : Heap) (locs : List Loc) (ls : Array Slot), Kx σ  → WD D (tyM cI cZ) (cellsM ad ln cI cZ σ) A s H locs → lv_has ls 3 [] → W p l e (rmK 1) s m args below meth c H locs 0 0 (MQ below (va_Qv post (Pos0 D (tyM cI cZ) (cellsM ad ln cI cZ) A) A) args s 0 0 A) (F0 m 65 ls [])) :
    ∀ (n : Nat) (σ : CS) (x1 : Int32) (H : Heap) (locs : List Loc) (ls : Array Slot), lp_X5_joins_2 ln post  Kx  n σ x1 → WD D (tyM cI cZ) (cellsM ad ln cI cZ σ) A s H locs → lv_has ls 3 [(0, .ref (ad 0)), (1, .int x1)] → W p l e (rmK 1) s m args below meth c H locs 0 0 (MQ below (va_Qv post (Pos0 D (tyM cI cZ) (cellsM ad ln cI cZ) A) A) args s 0 0 A) (F0 m 2 ls []) := by
  obtain ⟨hx, hb, hr, hml, hown, hts, hlk⟩ := id hB
  intro n
  induction n with
  | zero => intro σ x1 H locs ls hq hw hl; exact hq.elim
  | succ n ih =>
    intro σ x1 H locs ls hq hw hl
    replace hq : lb_X5_joins_2 ln post  Kx  (lp_X5_joins_2 ln post  Kx  n) σ x1 := hq
    refine lv_iload_n hx hb dX5_joins_2 rfl (lv_at hl 1 rfl) ?_
    refine lv_aload_n hx hb dX5_joins_3 rfl (lv_at hl 0 rfl) ?_
    refine gM_0_1 (x := σ.1 1) hB hw m170 rfl dX5_joins_4 ?_
    refine lv_icmp_ge (tgt := 65) hx hb dX5_joins_7 (by decide) (fun c1 => ?_) (fun c1 => ?_)
    · replace hq := hq.1 c1
      exact hKx σ _ _ _ hq hw (lv_sub hl [] rfl)
    · replace hq := hq.2 c1
      refine lv_iload_n hx hb dX5_joins_10 rfl (lv_at hl 1 rfl) ?_
      refine lv_aload_n hx hb dX5_joins_11 rfl (lv_at hl 0 rfl) ?_
      refine gM_0_2 hB hw m172 dX5_joins_12 ?_
      refine lv_iload_n hx hb dX5_joins_15 rfl (lv_at hl 1 rfl) ?_
      obtain ⟨h2, hq⟩ := hq
      refine aM_1 (f := (σ.2 1)) hB hw rfl h2 dX5_joins_16 ?_
      refine lv_iadd hx hb dX5_joins_17 ?_
      refine lv_istore_n (lv' := [(2, .int (x1 + ((σ.2 1) x1.toNatClampNeg))), (0, .ref (ad 0)), (1, .int x1)]) hx hb dX5_joins_18 rfl hl (by decide) rfl (fun ls hl => ?_)
      refine lv_aload_n hx hb dX5_joins_19 rfl (lv_at hl 1 rfl) ?_
      refine lv_iload_n hx hb dX5_joins_20 rfl (lv_at hl 2 rfl) ?_
      refine w_cVI (As := [.int x1]) (rest := []) hB hw hl.1 (c_X5_isFree l D ad ln cI cZ σ x1 _ hq) m398 m265 m479 m188 m100 rfl ok_X5_isFree (okR_K (by decide) (by decide)) (q0 := 0) (ci := 5) rfl rfl rfl rfl (Nat.le_of_ble_eq_true rfl) dX5_joins_21 (fun r4 σ3 H locs hq hw => ?_)
      refine lv_if_eq (tgt := 60) hx hb dX5_joins_24 (by decide) (fun c5 => ?_) (fun c5 => ?_)
      · replace hq := hq.1 c5
        refine lv_iload_n hx hb dX5_joins_60 rfl (lv_at hl 0 rfl) ?_
        refine lv_istore_n (lv' := [(1, .int (x1 + ((σ.2 1) x1.toNatClampNeg))), (2, .int (x1 + ((σ.2 1) x1.toNatClampNeg))), (0, .ref (ad 0))]) hx hb dX5_joins_61 rfl hl (by decide) rfl (fun ls hl => ?_)
        refine lv_goto (tgt := 2) hx hb dX5_joins_62 (by decide) ?_
        exact ih σ3 (x1 + ((σ.2 1) x1.toNatClampNeg)) _ _ _ hq hw (lv_sub hl [2, 0] rfl)
      · replace hq := hq.2 c5
        refine lv_aload_n hx hb dX5_joins_27 rfl (lv_at hl 1 rfl) ?_
        refine lv_iload_n hx hb dX5_joins_28 rfl (lv_at hl 0 rfl) ?_
        refine w_cVI (As := [.int (x1 + ((σ.2 1) x1.toNatClampNeg))]) (rest := []) hB hw hl.1 (c_X5_isFree l D ad ln cI cZ σ3 (x1 + ((σ.2 1) x1.toNatClampNeg)) _ hq) m398 m265 m479 m188 m100 rfl ok_X5_isFree (okR_K (by decide) (by decide)) (q0 := 0) (ci := 5) rfl rfl rfl rfl (Nat.le_of_ble_eq_true rfl) dX5_joins_29 (fun r7 σ6 H locs hq hw => ?_)
        refine lv_if_eq (tgt := 60) hx hb dX5_joins_32 (by decide) (fun c8 => ?_) (fun c8 => ?_)
        · replace hq := hq.1 c8
          refine lv_iload_n hx hb dX5_joins_60 rfl (lv_at hl 0 rfl) ?_
          refine lv_istore_n (lv' := [(1, .int (x1 + ((σ.2 1) x1.toNatClampNeg))), (2, .int (x1 + ((σ.2 1) x1.toNatClampNeg))), (0, .ref (ad 0))]) hx hb dX5_joins_61 rfl hl (by decide) rfl (fun ls hl => ?_)
          refine lv_goto (tgt := 2) hx hb dX5_joins_62 (by decide) ?_
          exact ih σ6 (x1 + ((σ.2 1) x1.toNatClampNeg)) _ _ _ hq hw (lv_sub hl [2, 0] rfl)
        · replace hq := hq.2 c8
          refine lv_aload_n hx hb dX5_joins_35 rfl (lv_at hl 1 rfl) ?_
          refine gM_0_2 hB hw m172 dX5_joins_36 ?_
          refine lv_iload_n hx hb dX5_joins_39 rfl (lv_at hl 2 rfl) ?_
          refine lv_dup2_11 hx hb dX5_joins_40 rfl rfl ?_
          refine aM_1 (f := (σ6.2 1)) hB hw rfl h2 dX5_joins_41 ?_
          refine lv_aload_n hx hb dX5_joins_42 rfl (lv_at hl 1 rfl) ?_
          refine gM_0_2 hB hw m172 dX5_joins_43 ?_
          refine lv_iload_n hx hb dX5_joins_46 rfl (lv_at hl 0 rfl) ?_
          obtain ⟨h9, hq⟩ := hq
          refine aM_1 (f := (σ6.2 1)) hB hw rfl h9 dX5_joins_47 ?_
          refine lv_iadd hx hb dX5_joins_48 ?_
          refine sM_1 hB hw h2 dX5_joins_49 (fun H locs hw => ?_)
          refine lv_aload_n hx hb dX5_joins_50 rfl (lv_at hl 1 rfl) ?_
          refine gM_0_2 hB hw m172 dX5_joins_51 ?_
          refine lv_iload_n hx hb dX5_joins_54 rfl (lv_at hl 0 rfl) ?_
          refine lv_iconst (v := 0) hx hb dX5_joins_55 (by decide) ?_
          refine sM_1 hB hw h9 dX5_joins_56 (fun H locs hw => ?_)
          refine lv_goto (tgt := 62) hx hb dX5_joins_57 (by decide) ?_
          refine lv_goto (tgt := 2) hx hb dX5_joins_62 (by decide) ?_
          exact ih (setA (setA σ6 1 x1.toNatClampNeg (((σ6.2 1) x1.toNatClampNeg) + ((σ6.2 1) (x1 + ((σ.2 1) x1.toNatClampNeg)).toNatClampNeg))) 1 (x1 + ((σ.2 1) x1.toNatClampNeg)).toNatClampNeg 0) x1 _ _ _ hq hw (lv_sub hl [1, 2] rfl)
set_option maxHeartbeats 4000000 in
set_option maxRecDepth 100000 in
theorem c_X5_joins (l : Launch) (D : va_G) (ad ln : Nat → Nat) (cI cZ : ClassId) (σ : CS) (post : CS → Prop) (hq : wp_X5_joins ln σ  post) : MtV l D (tyM cI cZ) (cellsM ad ln cI cZ) yX5_joins cX5_joins 3 none (rmK 1) [.ref (ad 0)] σ post := by
  refine MtV_of (by decide) (Nat.le_of_ble_eq_true rfl) ?_
  intro p e s m below meth c A ls hB hw hl
  replace hB : MB p s m _ meth c cX5_joins 3 none RX5 := hB
  replace hl : lv_has ls 3 [(0, .ref (ad 0))] := hl
  obtain ⟨hx, hb, hr, hml, hown, hts, hlk⟩ := id hB
  unfold wp_X5_joins at hq
  refine lv_iconst (v := 0) hx hb dX5_joins_0 (by decide) ?_
  refine lv_istore_n (lv' := [(1, .int 0), (0, .ref (ad 0))]) hx hb dX5_joins_1 rfl hl (by decide) rfl (fun ls hl => ?_)
  obtain ⟨n10, hq⟩ := hq
  refine wl_X5_joins_2 hB  (fun σ11 H locs ls hq hw hl => ?_) n10 σ 0 _ _ _ hq hw (lv_sub hl [1, 0] rfl)
  exact w_vret hB hw hq dX5_joins_65
theorem ok_X5_joins : okY yX5_joins 0 := ⟨by decide, by decide, by decide +kernel⟩
/-! X5_takes -/
def lb_X5_takes_75 (ln : Nat → Nat) (post : CS → Prop)  (Kx : CS → Prop) (x2 x3 : Int32) (Kb : CS → Int32 → Prop) (σ : CS) (x6 : Int32) : Prop :=
  ((((4 * x3) - 1) ≤ x6 → Kx σ) ∧ (¬ ((4 * x3) - 1) ≤ x6 → wp_X5_address ln σ x2 (fun r8 σ7 => (vp_in (r8 + x6) (ln 4) ∧ Kb (setA σ7 4 (r8 + x6).toNatClampNeg 0) (x6 + 1)))))
def lp_X5_takes_75 (ln : Nat → Nat) (post : CS → Prop)  (Kx : CS → Prop) (x2 x3 : Int32) : Nat → CS → Int32 → Prop
  | 0 => fun _ _ => False
  | n + 1 => lb_X5_takes_75 ln post  Kx x2 x3 (lp_X5_takes_75 ln post  Kx x2 x3 n)
def wp_X5_takes (ln : Nat → Nat) (σ : CS) (p1 p2 p3 : Int32) (post : CS → Prop) : Prop :=
  (vp_in p1 (ln 1) ∧ (vp_in p2 (ln 1) ∧ (vp_in p2 (ln 2) ∧ (vp_in p2 (ln 3) ∧ (((((p1 + ((σ.2 1) p1.toNatClampNeg)) - p2) - p3) ≤ 0 → (∃ n10 : Nat, lp_X5_takes_75 ln post  (fun σ11 => post σ11) p2 p3 n10 (setA (setA (setA (setA σ 1 p1.toNatClampNeg (p2 - p1)) 1 p2.toNatClampNeg p3) 2 p2.toNatClampNeg (vp_nar .boolean 1)) 3 p2.toNatClampNeg (vp_nar .boolean 0)) 0)) ∧ (¬ (((p1 + ((σ.2 1) p1.toNatClampNeg)) - p2) - p3) ≤ 0 → (vp_in (p2 + p3) (ln 1) ∧ (vp_in (p2 + p3) (ln 2) ∧ (∃ n14 : Nat, lp_X5_takes_75 ln post  (fun σ15 => post σ15) p2 p3 n14 (setA (setA (setA (setA (setA (setA σ 1 p1.toNatClampNeg (p2 - p1)) 1 p2.toNatClampNeg p3) 2 p2.toNatClampNeg (vp_nar .boolean 1)) 3 p2.toNatClampNeg (vp_nar .boolean 0)) 1 (p2 + p3).toNatClampNeg (((p1 + ((σ.2 1) p1.toNatClampNeg)) - p2) - p3)) 2 (p2 + p3).toNatClampNeg (vp_nar .boolean 0)) 0)))))))))
set_option maxHeartbeats 4000000 in
set_option maxRecDepth 100000 in
theorem wl_X5_takes_75 {p : Program} {l : Launch} {e : Env} {s : State} {m : MethodId} {args : Array Value} {below : List Frame} {meth : Method} {c : Code} {D : va_G} {ad ln : Nat → Nat} {cI cZ : ClassId} {A : Nat → Prop} {post : CS → Prop}  {Kx : CS → Prop} {x2 x3 : Int32} (hB : MB p s m args meth c cX5_takes 7 none RX5)  (hKx : ∀ (σ : CS) (H : Heap) (locs : List Loc) (ls : Array Slot), Kx σ  → WD D (tyM cI cZ) (cellsM ad ln cI cZ σ) A s H locs → lv_has ls 7 [] → W p l e (rmK 1) s m args below meth c H locs 0 0 (MQ below (va_Qv post (Pos0 D (tyM cI cZ) (cellsM ad ln cI cZ) A) A) args s 0 0 A) (F0 m 104 ls [])) :
    ∀ (n : Nat) (σ : CS) (x6 : Int32) (H : Heap) (locs : List Loc) (ls : Array Slot), lp_X5_takes_75 ln post  Kx x2 x3 n σ x6 → WD D (tyM cI cZ) (cellsM ad ln cI cZ σ) A s H locs → lv_has ls 7 [(0, .ref (ad 0)), (2, .int x2), (3, .int x3), (6, .int x6)] → W p l e (rmK 1) s m args below meth c H locs 0 0 (MQ below (va_Qv post (Pos0 D (tyM cI cZ) (cellsM ad ln cI cZ) A) A) args s 0 0 A) (F0 m 75 ls []) := by
  obtain ⟨hx, hb, hr, hml, hown, hts, hlk⟩ := id hB
  intro n
  induction n with
  | zero => intro σ x6 H locs ls hq hw hl; exact hq.elim
  | succ n ih =>
    intro σ x6 H locs ls hq hw hl
    replace hq : lb_X5_takes_75 ln post  Kx x2 x3 (lp_X5_takes_75 ln post  Kx x2 x3 n) σ x6 := hq
    refine lv_iload hx hb dX5_takes_75 (lv_at hl 3 rfl) ?_
    refine lv_iconst (v := 4) hx hb dX5_takes_77 (by decide) ?_
    refine lv_iload_n hx hb dX5_takes_78 rfl (lv_at hl 2 rfl) ?_
    refine lv_imul hx hb dX5_takes_79 ?_
    refine lv_iconst (v := 1) hx hb dX5_takes_80 (by decide) ?_
    refine lv_isub hx hb dX5_takes_81 ?_
    refine lv_icmp_ge (tgt := 104) hx hb dX5_takes_82 (by decide) (fun c6 => ?_) (fun c6 => ?_)
    · replace hq := hq.1 c6
      exact hKx σ _ _ _ hq hw (lv_sub hl [] rfl)
    · replace hq := hq.2 c6
      refine lv_aload_n hx hb dX5_takes_85 rfl (lv_at hl 0 rfl) ?_
      refine gM_0_5 hB hw m162 dX5_takes_86 ?_
      refine lv_iload_n hx hb dX5_takes_89 rfl (lv_at hl 1 rfl) ?_
      refine w_cSI (As := [.int x2]) (rest := [.ref (ad 4)]) hB hw hl.1 (c_X5_address l D ad ln cI cZ σ x2 _ hq) m399 m506 m188 m82 ok_X5_address (okR_K (by decide) (by decide)) rfl rfl (Nat.le_of_ble_eq_true rfl) dX5_takes_90 (fun r8 σ7 H locs hq hw => ?_)
      refine lv_iload hx hb dX5_takes_93 (lv_at hl 3 rfl) ?_
      refine lv_iadd hx hb dX5_takes_95 ?_
      refine lv_iconst (v := 0) hx hb dX5_takes_96 (by decide) ?_
      obtain ⟨h9, hq⟩ := hq
      refine sM_4 hB hw h9 dX5_takes_97 (fun H locs hw => ?_)
      refine lv_iinc (v := x6 + 1) (lv' := [(6, .int (x6 + 1)), (0, .ref (ad 0)), (2, .int x2), (3, .int x3)]) hx hb dX5_takes_98 hl (k := 3) rfl rfl (by decide) rfl (fun ls hl => ?_)
      refine lv_goto (tgt := 75) hx hb dX5_takes_101 (by decide) ?_
      exact ih (setA σ7 4 (r8 + x6).toNatClampNeg 0) (x6 + 1) _ _ _ hq hw (lv_sub hl [1, 2, 3, 0] rfl)
set_option maxHeartbeats 4000000 in
set_option maxRecDepth 100000 in
theorem c_X5_takes (l : Launch) (D : va_G) (ad ln : Nat → Nat) (cI cZ : ClassId) (σ : CS) (p1 p2 p3 : Int32) (post : CS → Prop) (hq : wp_X5_takes ln σ p1 p2 p3 post) : MtV l D (tyM cI cZ) (cellsM ad ln cI cZ) yX5_takes cX5_takes 7 none (rmK 1) [.ref (ad 0), .int p1, .int p2, .int p3] σ post := by
  refine MtV_of (by decide) (Nat.le_of_ble_eq_true rfl) ?_
  intro p e s m below meth c A ls hB hw hl
  replace hB : MB p s m _ meth c cX5_takes 7 none RX5 := hB
  replace hl : lv_has ls 7 [(0, .ref (ad 0)), (1, .int p1), (2, .int p2), (3, .int p3)] := hl
  obtain ⟨hx, hb, hr, hml, hown, hts, hlk⟩ := id hB
  unfold wp_X5_takes at hq
  refine lv_aload_n hx hb dX5_takes_0 rfl (lv_at hl 0 rfl) ?_
  refine gM_0_2 hB hw m172 dX5_takes_1 ?_
  refine lv_iload_n hx hb dX5_takes_4 rfl (lv_at hl 1 rfl) ?_
  obtain ⟨h1, hq⟩ := hq
  refine aM_1 (f := (σ.2 1)) hB hw rfl h1 dX5_takes_5 ?_
  refine lv_istore (lv' := [(4, .int ((σ.2 1) p1.toNatClampNeg)), (0, .ref (ad 0)), (1, .int p1), (2, .int p2), (3, .int p3)]) hx hb dX5_takes_6 hl (by decide) rfl (fun ls hl => ?_)
  refine lv_iload_n hx hb dX5_takes_8 rfl (lv_at hl 2 rfl) ?_
  refine lv_iload hx hb dX5_takes_9 (lv_at hl 0 rfl) ?_
  refine lv_iadd hx hb dX5_takes_11 ?_
  refine lv_iload_n hx hb dX5_takes_12 rfl (lv_at hl 3 rfl) ?_
  refine lv_isub hx hb dX5_takes_13 ?_
  refine lv_iload_n hx hb dX5_takes_14 rfl (lv_at hl 4 rfl) ?_
  refine lv_isub hx hb dX5_takes_15 ?_
  refine lv_istore (lv' := [(5, .int (((p1 + ((σ.2 1) p1.toNatClampNeg)) - p2) - p3)), (4, .int ((σ.2 1) p1.toNatClampNeg)), (0, .ref (ad 0)), (1, .int p1), (2, .int p2), (3, .int p3)]) hx hb dX5_takes_16 hl (by decide) rfl (fun ls hl => ?_)
  refine lv_aload_n hx hb dX5_takes_18 rfl (lv_at hl 2 rfl) ?_
  refine gM_0_2 hB hw m172 dX5_takes_19 ?_
  refine lv_iload_n hx hb dX5_takes_22 rfl (lv_at hl 3 rfl) ?_
  refine lv_iload_n hx hb dX5_takes_23 rfl (lv_at hl 4 rfl) ?_
  refine lv_iload_n hx hb dX5_takes_24 rfl (lv_at hl 3 rfl) ?_
  refine lv_isub hx hb dX5_takes_25 ?_
  refine sM_1 hB hw h1 dX5_takes_26 (fun H locs hw => ?_)
  refine lv_aload_n hx hb dX5_takes_27 rfl (lv_at hl 2 rfl) ?_
  refine gM_0_2 hB hw m172 dX5_takes_28 ?_
  refine lv_iload_n hx hb dX5_takes_31 rfl (lv_at hl 4 rfl) ?_
  refine lv_iload_n hx hb dX5_takes_32 rfl (lv_at hl 5 rfl) ?_
  obtain ⟨h2, hq⟩ := hq
  refine sM_1 hB hw h2 dX5_takes_33 (fun H locs hw => ?_)
  refine lv_aload_n hx hb dX5_takes_34 rfl (lv_at hl 2 rfl) ?_
  refine gM_0_3 hB hw m160 dX5_takes_35 ?_
  refine lv_iload_n hx hb dX5_takes_38 rfl (lv_at hl 4 rfl) ?_
  refine lv_iconst (v := 1) hx hb dX5_takes_39 (by decide) ?_
  obtain ⟨h3, hq⟩ := hq
  refine sM_2 hB hw h3 dX5_takes_40 (fun H locs hw => ?_)
  refine lv_aload_n hx hb dX5_takes_41 rfl (lv_at hl 2 rfl) ?_
  refine gM_0_4 hB hw m161 dX5_takes_42 ?_
  refine lv_iload_n hx hb dX5_takes_45 rfl (lv_at hl 4 rfl) ?_
  refine lv_iconst (v := 0) hx hb dX5_takes_46 (by decide) ?_
  obtain ⟨h4, hq⟩ := hq
  refine sM_3 hB hw h4 dX5_takes_47 (fun H locs hw => ?_)
  refine lv_iload hx hb dX5_takes_48 (lv_at hl 0 rfl) ?_
  refine lv_if_le (tgt := 72) hx hb dX5_takes_50 (by decide) (fun c5 => ?_) (fun c5 => ?_)
  · replace hq := hq.1 c5
    refine lv_iconst (v := 0) hx hb dX5_takes_72 (by decide) ?_
    refine lv_istore (lv' := [(6, .int 0), (5, .int (((p1 + ((σ.2 1) p1.toNatClampNeg)) - p2) - p3)), (4, .int ((σ.2 1) p1.toNatClampNeg)), (0, .ref (ad 0)), (1, .int p1), (2, .int p2), (3, .int p3)]) hx hb dX5_takes_73 hl (by decide) rfl (fun ls hl => ?_)
    obtain ⟨n10, hq⟩ := hq
    refine wl_X5_takes_75 hB  (fun σ11 H locs ls hq hw hl => ?_) n10 (setA (setA (setA (setA σ 1 p1.toNatClampNeg (p2 - p1)) 1 p2.toNatClampNeg p3) 2 p2.toNatClampNeg (vp_nar .boolean 1)) 3 p2.toNatClampNeg (vp_nar .boolean 0)) 0 _ _ _ hq hw (lv_sub hl [3, 5, 6, 0] rfl)
    exact w_vret hB hw hq dX5_takes_104
  · replace hq := hq.2 c5
    refine lv_aload_n hx hb dX5_takes_53 rfl (lv_at hl 2 rfl) ?_
    refine gM_0_2 hB hw m172 dX5_takes_54 ?_
    refine lv_iload_n hx hb dX5_takes_57 rfl (lv_at hl 4 rfl) ?_
    refine lv_iload_n hx hb dX5_takes_58 rfl (lv_at hl 5 rfl) ?_
    refine lv_iadd hx hb dX5_takes_59 ?_
    refine lv_iload hx hb dX5_takes_60 (lv_at hl 0 rfl) ?_
    obtain ⟨h12, hq⟩ := hq
    refine sM_1 hB hw h12 dX5_takes_62 (fun H locs hw => ?_)
    refine lv_aload_n hx hb dX5_takes_63 rfl (lv_at hl 2 rfl) ?_
    refine gM_0_3 hB hw m160 dX5_takes_64 ?_
    refine lv_iload_n hx hb dX5_takes_67 rfl (lv_at hl 4 rfl) ?_
    refine lv_iload_n hx hb dX5_takes_68 rfl (lv_at hl 5 rfl) ?_
    refine lv_iadd hx hb dX5_takes_69 ?_
    refine lv_iconst (v := 0) hx hb dX5_takes_70 (by decide) ?_
    obtain ⟨h13, hq⟩ := hq
    refine sM_2 hB hw h13 dX5_takes_71 (fun H locs hw => ?_)
    refine lv_iconst (v := 0) hx hb dX5_takes_72 (by decide) ?_
    refine lv_istore (lv' := [(6, .int 0), (5, .int (((p1 + ((σ.2 1) p1.toNatClampNeg)) - p2) - p3)), (4, .int ((σ.2 1) p1.toNatClampNeg)), (0, .ref (ad 0)), (1, .int p1), (2, .int p2), (3, .int p3)]) hx hb dX5_takes_73 hl (by decide) rfl (fun ls hl => ?_)
    obtain ⟨n14, hq⟩ := hq
    refine wl_X5_takes_75 hB  (fun σ15 H locs ls hq hw hl => ?_) n14 (setA (setA (setA (setA (setA (setA σ 1 p1.toNatClampNeg (p2 - p1)) 1 p2.toNatClampNeg p3) 2 p2.toNatClampNeg (vp_nar .boolean 1)) 3 p2.toNatClampNeg (vp_nar .boolean 0)) 1 (p2 + p3).toNatClampNeg (((p1 + ((σ.2 1) p1.toNatClampNeg)) - p2) - p3)) 2 (p2 + p3).toNatClampNeg (vp_nar .boolean 0)) 0 _ _ _ hq hw (lv_sub hl [3, 5, 6, 0] rfl)
    exact w_vret hB hw hq dX5_takes_104
theorem ok_X5_takes : okY yX5_takes 3 := ⟨by decide, by decide, by decide +kernel⟩
/-! X5_gives -/
def lb_X5_gives_38 (ln : Nat → Nat) (post : Int32 → CS → Prop)  (Kx : CS → Int32 → Prop) (x2 x3 x4 : Int32) (Kb : CS → Int32 → Prop) (σ : CS) (x5 : Int32) : Prop :=
  ((¬ x2 = 0) ∧ ((((x5 + 1) - (x5 + 1) / x2 * x2) = 0 → Kx σ x5) ∧ (¬ ((x5 + 1) - (x5 + 1) / x2 * x2) = 0 → Kb σ (x5 + 1))))
def lp_X5_gives_38 (ln : Nat → Nat) (post : Int32 → CS → Prop)  (Kx : CS → Int32 → Prop) (x2 x3 x4 : Int32) : Nat → CS → Int32 → Prop
  | 0 => fun _ _ => False
  | n + 1 => lb_X5_gives_38 ln post  Kx x2 x3 x4 (lp_X5_gives_38 ln post  Kx x2 x3 x4 n)
def lb_X5_gives_16 (ln : Nat → Nat) (post : Int32 → CS → Prop)  (Kx : CS → Prop) (x2 x3 : Int32) (Kb : CS → Int32 → Prop) (σ : CS) (x4 : Int32) : Prop :=
  (((σ.1 1) ≤ x4 → Kx σ) ∧ (¬ (σ.1 1) ≤ x4 → wp_X5_isFree ln σ x4 (fun r6 σ5 => ((r6 = 0 → Kb σ5 (x4 + 1)) ∧ (¬ r6 = 0 → (∃ n10 : Nat, lp_X5_gives_38 ln post  (fun σ11 x5_12 => (vp_in x4 (ln 1) ∧ ((0 < (lg_cmp (((x5_12 - x4).toInt64) + x3.toInt64) (((σ11.2 1) x4.toNatClampNeg).toInt64)) → Kb σ11 (x4 + 1)) ∧ (¬ 0 < (lg_cmp (((x5_12 - x4).toInt64) + x3.toInt64) (((σ11.2 1) x4.toNatClampNeg).toInt64)) → wp_X5_takes ln σ11 x4 x5_12 x3 (fun σ15 => wp_X5_address ln (setF σ15 2 0) x5_12 (fun r17 σ16 => post r17 σ16)))))) x2 x3 x4 n10 σ5 x4))))))
def lp_X5_gives_16 (ln : Nat → Nat) (post : Int32 → CS → Prop)  (Kx : CS → Prop) (x2 x3 : Int32) : Nat → CS → Int32 → Prop
  | 0 => fun _ _ => False
  | n + 1 => lb_X5_gives_16 ln post  Kx x2 x3 (lp_X5_gives_16 ln post  Kx x2 x3 n)
def wp_X5_gives (ln : Nat → Nat) (σ : CS) (p1 p2 : Int32) (post : Int32 → CS → Prop) : Prop :=
  ((1 ≤ p1 → wp_X5_groupsFor ln σ p1 (fun r3 σ2 => (∃ n18 : Nat, lp_X5_gives_16 ln post  (fun σ19 => post 0 σ19) p2 r3 n18 σ2 0))) ∧ (¬ 1 ≤ p1 → post 0 σ))
set_option maxHeartbeats 4000000 in
set_option maxRecDepth 100000 in
theorem wl_X5_gives_38 {p : Program} {l : Launch} {e : Env} {s : State} {m : MethodId} {args : Array Value} {below : List Frame} {meth : Method} {c : Code} {D : va_G} {ad ln : Nat → Nat} {cI cZ : ClassId} {A : Nat → Prop} {post : Int32 → CS → Prop}  {Kx : CS → Int32 → Prop} {x2 x3 x4 : Int32} (hB : MB p s m args meth c cX5_gives 6 (some .int) RX5)  (hKx : ∀ (σ : CS) (x5 : Int32) (H : Heap) (locs : List Loc) (ls : Array Slot), Kx σ x5 → WD D (tyM cI cZ) (cellsM ad ln cI cZ σ) A s H locs → lv_has ls 6 [(0, .ref (ad 0)), (2, .int x2), (3, .int x3), (4, .int x4), (5, .int x5)] → W p l e (rmK 2) s m args below meth c H locs 0 0 (MQ below (va_Qi post (Pos0 D (tyM cI cZ) (cellsM ad ln cI cZ) A) A) args s 0 0 A) (F0 m 53 ls [])) :
    ∀ (n : Nat) (σ : CS) (x5 : Int32) (H : Heap) (locs : List Loc) (ls : Array Slot), lp_X5_gives_38 ln post  Kx x2 x3 x4 n σ x5 → WD D (tyM cI cZ) (cellsM ad ln cI cZ σ) A s H locs → lv_has ls 6 [(0, .ref (ad 0)), (2, .int x2), (3, .int x3), (4, .int x4), (5, .int x5)] → W p l e (rmK 2) s m args below meth c H locs 0 0 (MQ below (va_Qi post (Pos0 D (tyM cI cZ) (cellsM ad ln cI cZ) A) A) args s 0 0 A) (F0 m 38 ls []) := by
  obtain ⟨hx, hb, hr, hml, hown, hts, hlk⟩ := id hB
  intro n
  induction n with
  | zero => intro σ x5 H locs ls hq hw hl; exact hq.elim
  | succ n ih =>
    intro σ x5 H locs ls hq hw hl
    replace hq : lb_X5_gives_38 ln post  Kx x2 x3 x4 (lp_X5_gives_38 ln post  Kx x2 x3 x4 n) σ x5 := hq
    refine lv_iload hx hb dX5_gives_38 (lv_at hl 4 rfl) ?_
    refine lv_iconst (v := 1) hx hb dX5_gives_40 (by decide) ?_
    refine lv_iadd hx hb dX5_gives_41 ?_
    refine lv_iload_n hx hb dX5_gives_42 rfl (lv_at hl 1 rfl) ?_
    obtain ⟨h8, hq⟩ := hq
    refine lv_irem hx hb dX5_gives_43 h8 ?_
    refine lv_if_eq (tgt := 53) hx hb dX5_gives_44 (by decide) (fun c9 => ?_) (fun c9 => ?_)
    · replace hq := hq.1 c9
      exact hKx σ x5 _ _ _ hq hw (lv_sub hl [0, 1, 2, 3, 4] rfl)
    · replace hq := hq.2 c9
      refine lv_iinc (v := x5 + 1) (lv' := [(5, .int (x5 + 1)), (0, .ref (ad 0)), (2, .int x2), (3, .int x3), (4, .int x4)]) hx hb dX5_gives_47 hl (k := 4) rfl rfl (by decide) rfl (fun ls hl => ?_)
      refine lv_goto (tgt := 38) hx hb dX5_gives_50 (by decide) ?_
      exact ih σ (x5 + 1) _ _ _ hq hw (lv_sub hl [1, 2, 3, 4, 0] rfl)
set_option maxHeartbeats 4000000 in
set_option maxRecDepth 100000 in
theorem wl_X5_gives_16 {p : Program} {l : Launch} {e : Env} {s : State} {m : MethodId} {args : Array Value} {below : List Frame} {meth : Method} {c : Code} {D : va_G} {ad ln : Nat → Nat} {cI cZ : ClassId} {A : Nat → Prop} {post : Int32 → CS → Prop}  {Kx : CS → Prop} {x2 x3 : Int32} (hB : MB p s m args meth c cX5_gives 6 (some .int) RX5)  (hKx : ∀ (σ : CS) (H : Heap) (locs : List Loc) (ls : Array Slot), Kx σ  → WD D (tyM cI cZ) (cellsM ad ln cI cZ σ) A s H locs → lv_has ls 6 [] → W p l e (rmK 2) s m args below meth c H locs 0 0 (MQ below (va_Qi post (Pos0 D (tyM cI cZ) (cellsM ad ln cI cZ) A) A) args s 0 0 A) (F0 m 100 ls [])) :
    ∀ (n : Nat) (σ : CS) (x4 : Int32) (H : Heap) (locs : List Loc) (ls : Array Slot), lp_X5_gives_16 ln post  Kx x2 x3 n σ x4 → WD D (tyM cI cZ) (cellsM ad ln cI cZ σ) A s H locs → lv_has ls 6 [(0, .ref (ad 0)), (2, .int x2), (3, .int x3), (4, .int x4)] → W p l e (rmK 2) s m args below meth c H locs 0 0 (MQ below (va_Qi post (Pos0 D (tyM cI cZ) (cellsM ad ln cI cZ) A) A) args s 0 0 A) (F0 m 16 ls []) := by
  obtain ⟨hx, hb, hr, hml, hown, hts, hlk⟩ := id hB
  intro n
  induction n with
  | zero => intro σ x4 H locs ls hq hw hl; exact hq.elim
  | succ n ih =>
    intro σ x4 H locs ls hq hw hl
    replace hq : lb_X5_gives_16 ln post  Kx x2 x3 (lp_X5_gives_16 ln post  Kx x2 x3 n) σ x4 := hq
    refine lv_iload hx hb dX5_gives_16 (lv_at hl 3 rfl) ?_
    refine lv_aload_n hx hb dX5_gives_18 rfl (lv_at hl 0 rfl) ?_
    refine gM_0_1 (x := σ.1 1) hB hw m170 rfl dX5_gives_19 ?_
    refine lv_icmp_ge (tgt := 100) hx hb dX5_gives_22 (by decide) (fun c4 => ?_) (fun c4 => ?_)
    · replace hq := hq.1 c4
      exact hKx σ _ _ _ hq hw (lv_sub hl [] rfl)
    · replace hq := hq.2 c4
      refine lv_aload_n hx hb dX5_gives_25 rfl (lv_at hl 0 rfl) ?_
      refine lv_iload hx hb dX5_gives_26 (lv_at hl 3 rfl) ?_
      refine w_cVI (As := [.int x4]) (rest := []) hB hw hl.1 (c_X5_isFree l D ad ln cI cZ σ x4 _ hq) m398 m265 m479 m188 m100 rfl ok_X5_isFree (okR_K (by decide) (by decide)) (q0 := 0) (ci := 5) rfl rfl rfl rfl (Nat.le_of_ble_eq_true rfl) dX5_gives_28 (fun r6 σ5 H locs hq hw => ?_)
      refine lv_if_eq (tgt := 94) hx hb dX5_gives_31 (by decide) (fun c7 => ?_) (fun c7 => ?_)
      · replace hq := hq.1 c7
        refine lv_iinc (v := x4 + 1) (lv' := [(4, .int (x4 + 1)), (0, .ref (ad 0)), (2, .int x2), (3, .int x3)]) hx hb dX5_gives_94 hl (k := 3) rfl rfl (by decide) rfl (fun ls hl => ?_)
        refine lv_goto (tgt := 16) hx hb dX5_gives_97 (by decide) ?_
        exact ih σ5 (x4 + 1) _ _ _ hq hw (lv_sub hl [1, 2, 3, 0] rfl)
      · replace hq := hq.2 c7
        refine lv_iload hx hb dX5_gives_34 (lv_at hl 3 rfl) ?_
        refine lv_istore (lv' := [(5, .int x4), (0, .ref (ad 0)), (2, .int x2), (3, .int x3), (4, .int x4)]) hx hb dX5_gives_36 hl (by decide) rfl (fun ls hl => ?_)
        obtain ⟨n10, hq⟩ := hq
        refine wl_X5_gives_38 hB  (fun σ11 x5_12 H locs ls hq hw hl => ?_) n10 σ5 x4 _ _ _ hq hw (lv_sub hl [1, 2, 3, 4, 0] rfl)
        refine lv_iload hx hb dX5_gives_53 (lv_at hl 4 rfl) ?_
        refine lv_iload hx hb dX5_gives_55 (lv_at hl 3 rfl) ?_
        refine lv_isub hx hb dX5_gives_57 ?_
        refine lv_i2l hx hb dX5_gives_58 rfl ?_
        refine lv_iload_n hx hb dX5_gives_59 rfl (lv_at hl 2 rfl) ?_
        refine lv_i2l hx hb dX5_gives_60 rfl ?_
        refine lv_ladd hx hb dX5_gives_61 ?_
        refine lv_aload_n hx hb dX5_gives_62 rfl (lv_at hl 0 rfl) ?_
        refine gM_0_2 hB hw m172 dX5_gives_63 ?_
        refine lv_iload hx hb dX5_gives_66 (lv_at hl 3 rfl) ?_
        obtain ⟨h13, hq⟩ := hq
        refine aM_1 (f := (σ11.2 1)) hB hw rfl h13 dX5_gives_68 ?_
        refine lv_i2l hx hb dX5_gives_69 rfl ?_
        refine W.lcmp hx hb dX5_gives_70 ?_
        refine lv_if_gt (tgt := 94) hx hb dX5_gives_71 (by decide) (fun c14 => ?_) (fun c14 => ?_)
        · replace hq := hq.1 c14
          refine lv_iinc (v := x4 + 1) (lv' := [(4, .int (x4 + 1)), (0, .ref (ad 0)), (2, .int x2), (3, .int x3), (5, .int x5_12)]) hx hb dX5_gives_94 hl (k := 3) rfl rfl (by decide) rfl (fun ls hl => ?_)
          refine lv_goto (tgt := 16) hx hb dX5_gives_97 (by decide) ?_
          exact ih σ11 (x4 + 1) _ _ _ hq hw (lv_sub hl [1, 2, 3, 0] rfl)
        · replace hq := hq.2 c14
          refine lv_aload_n hx hb dX5_gives_74 rfl (lv_at hl 0 rfl) ?_
          refine lv_iload hx hb dX5_gives_75 (lv_at hl 3 rfl) ?_
          refine lv_iload hx hb dX5_gives_77 (lv_at hl 4 rfl) ?_
          refine lv_iload_n hx hb dX5_gives_79 rfl (lv_at hl 2 rfl) ?_
          refine w_cVV (As := [.int x4, .int x5_12, .int x3]) (rest := []) hB hw hl.1 (c_X5_takes l D ad ln cI cZ σ11 x4 x5_12 x3 _ hq) m402 m274 m488 m188 m109 rfl ok_X5_takes (okR_K (by decide) (by decide)) (q0 := 0) (ci := 5) rfl rfl rfl rfl (Nat.le_of_ble_eq_true rfl) dX5_gives_80 (fun σ15 H locs hq hw => ?_)
          refine lv_aload_n hx hb dX5_gives_83 rfl (lv_at hl 0 rfl) ?_
          refine lv_iconst (v := 0) hx hb dX5_gives_84 (by decide) ?_
          refine pM_0_6 hB hw m173 rfl rfl dX5_gives_85 (fun H locs hw => ?_)
          refine lv_iload hx hb dX5_gives_88 (lv_at hl 4 rfl) ?_
          refine w_cSI (As := [.int x5_12]) (rest := []) hB hw hl.1 (c_X5_address l D ad ln cI cZ (setF σ15 2 0) x5_12 _ hq) m399 m506 m188 m82 ok_X5_address (okR_K (by decide) (by decide)) rfl rfl (Nat.le_of_ble_eq_true rfl) dX5_gives_90 (fun r17 σ16 H locs hq hw => ?_)
          exact w_iret hB hw hq dX5_gives_93
set_option maxHeartbeats 4000000 in
set_option maxRecDepth 100000 in
theorem c_X5_gives (l : Launch) (D : va_G) (ad ln : Nat → Nat) (cI cZ : ClassId) (σ : CS) (p1 p2 : Int32) (post : Int32 → CS → Prop) (hq : wp_X5_gives ln σ p1 p2 post) : MtI l D (tyM cI cZ) (cellsM ad ln cI cZ) yX5_gives cX5_gives 6 (some .int) (rmK 2) [.ref (ad 0), .int p1, .int p2] σ post := by
  refine MtI_of (by decide) (Nat.le_of_ble_eq_true rfl) ?_
  intro p e s m below meth c A ls hB hw hl
  replace hB : MB p s m _ meth c cX5_gives 6 (some .int) RX5 := hB
  replace hl : lv_has ls 6 [(0, .ref (ad 0)), (1, .int p1), (2, .int p2)] := hl
  obtain ⟨hx, hb, hr, hml, hown, hts, hlk⟩ := id hB
  unfold wp_X5_gives at hq
  refine lv_iload_n hx hb dX5_gives_0 rfl (lv_at hl 1 rfl) ?_
  refine lv_iconst (v := 1) hx hb dX5_gives_1 (by decide) ?_
  refine lv_icmp_ge (tgt := 7) hx hb dX5_gives_2 (by decide) (fun c1 => ?_) (fun c1 => ?_)
  · replace hq := hq.1 c1
    refine lv_aload_n hx hb dX5_gives_7 rfl (lv_at hl 0 rfl) ?_
    refine lv_iload_n hx hb dX5_gives_8 rfl (lv_at hl 1 rfl) ?_
    refine w_cVI (As := [.int p1]) (rest := []) hB hw hl.1 (c_X5_groupsFor l D ad ln cI cZ σ p1 _ hq) m401 m262 m477 m188 m97 rfl ok_X5_groupsFor (okR_K (by decide) (by decide)) (q0 := 0) (ci := 5) rfl rfl rfl rfl (Nat.le_of_ble_eq_true rfl) dX5_gives_9 (fun r3 σ2 H locs hq hw => ?_)
    refine lv_istore_n (lv' := [(3, .int r3), (0, .ref (ad 0)), (1, .int p1), (2, .int p2)]) hx hb dX5_gives_12 rfl hl (by decide) rfl (fun ls hl => ?_)
    refine lv_iconst (v := 0) hx hb dX5_gives_13 (by decide) ?_
    refine lv_istore (lv' := [(4, .int 0), (3, .int r3), (0, .ref (ad 0)), (1, .int p1), (2, .int p2)]) hx hb dX5_gives_14 hl (by decide) rfl (fun ls hl => ?_)
    obtain ⟨n18, hq⟩ := hq
    refine wl_X5_gives_16 hB  (fun σ19 H locs ls hq hw hl => ?_) n18 σ2 0 _ _ _ hq hw (lv_sub hl [2, 4, 1, 0] rfl)
    refine lv_iconst (v := 0) hx hb dX5_gives_100 (by decide) ?_
    exact w_iret hB hw hq dX5_gives_101
  · replace hq := hq.2 c1
    refine lv_iconst (v := 0) hx hb dX5_gives_5 (by decide) ?_
    exact w_iret hB hw hq dX5_gives_6
theorem ok_X5_gives : okY yX5_gives 2 := ⟨by decide, by decide, by decide +kernel⟩
/-! X5_give -/
def wp_X5_give (ln : Nat → Nat) (σ : CS) (p1 : Int32) (post : Int32 → CS → Prop) : Prop :=
  wp_X5_gives ln (setF σ 0 0) p1 1 (fun r2 σ1 => post r2 σ1)
set_option maxHeartbeats 4000000 in
set_option maxRecDepth 100000 in
theorem c_X5_give (l : Launch) (D : va_G) (ad ln : Nat → Nat) (cI cZ : ClassId) (σ : CS) (p1 : Int32) (post : Int32 → CS → Prop) (hq : wp_X5_give ln σ p1 post) : MtI l D (tyM cI cZ) (cellsM ad ln cI cZ) yX5_give cX5_give 2 (some .int) (rmK 3) [.ref (ad 0), .int p1] σ post := by
  refine MtI_of (by decide) (Nat.le_of_ble_eq_true rfl) ?_
  intro p e s m below meth c A ls hB hw hl
  replace hB : MB p s m _ meth c cX5_give 2 (some .int) RX5 := hB
  replace hl : lv_has ls 2 [(0, .ref (ad 0)), (1, .int p1)] := hl
  obtain ⟨hx, hb, hr, hml, hown, hts, hlk⟩ := id hB
  unfold wp_X5_give at hq
  refine lv_aload_n hx hb dX5_give_0 rfl (lv_at hl 0 rfl) ?_
  refine lv_iconst (v := 0) hx hb dX5_give_1 (by decide) ?_
  refine pM_0_0 hB hw m171 dX5_give_2 (fun H locs hw => ?_)
  refine lv_aload_n hx hb dX5_give_5 rfl (lv_at hl 0 rfl) ?_
  refine lv_iload_n hx hb dX5_give_6 rfl (lv_at hl 1 rfl) ?_
  refine lv_iconst (v := 1) hx hb dX5_give_7 (by decide) ?_
  refine w_cVI (As := [.int p1, .int 1]) (rest := []) hB hw hl.1 (c_X5_gives l D ad ln cI cZ (setF σ 0 0) p1 1 _ hq) m400 m260 m475 m188 m95 rfl ok_X5_gives (okR_K (by decide) (by decide)) (q0 := 0) (ci := 5) rfl rfl rfl rfl (Nat.le_of_ble_eq_true rfl) dX5_give_8 (fun r2 σ1 H locs hq hw => ?_)
  exact w_iret hB hw hq dX5_give_11
theorem ok_X5_give : okY yX5_give 1 := ⟨by decide, by decide, by decide +kernel⟩
/-! X5_giveAligned -/
def lb_X5_giveAligned_7 (ln : Nat → Nat) (post : Int32 → CS → Prop)  (Kx : CS → Prop) (x1 x2 : Int32) (Kb : CS → Int32 → Prop) (σ : CS) (x3 : Int32) : Prop :=
  ((1024 < x3 → Kx σ) ∧ (¬ 1024 < x3 → ((¬ x3 = x2 → Kb σ (2 * x3)) ∧ (x3 = x2 → wp_X5_gives ln σ x1 (x2 / 4) (fun r4 σ3 => post r4 σ3)))))
def lp_X5_giveAligned_7 (ln : Nat → Nat) (post : Int32 → CS → Prop)  (Kx : CS → Prop) (x1 x2 : Int32) : Nat → CS → Int32 → Prop
  | 0 => fun _ _ => False
  | n + 1 => lb_X5_giveAligned_7 ln post  Kx x1 x2 (lp_X5_giveAligned_7 ln post  Kx x1 x2 n)
def wp_X5_giveAligned (ln : Nat → Nat) (σ : CS) (p1 p2 : Int32) (post : Int32 → CS → Prop) : Prop :=
  (∃ n5 : Nat, lp_X5_giveAligned_7 ln post  (fun σ6 => post 0 σ6) p1 p2 n5 (setF σ 0 0) 4)
set_option maxHeartbeats 4000000 in
set_option maxRecDepth 100000 in
theorem wl_X5_giveAligned_7 {p : Program} {l : Launch} {e : Env} {s : State} {m : MethodId} {args : Array Value} {below : List Frame} {meth : Method} {c : Code} {D : va_G} {ad ln : Nat → Nat} {cI cZ : ClassId} {A : Nat → Prop} {post : Int32 → CS → Prop}  {Kx : CS → Prop} {x1 x2 : Int32} (hB : MB p s m args meth c cX5_giveAligned 4 (some .int) RX5)  (hKx : ∀ (σ : CS) (H : Heap) (locs : List Loc) (ls : Array Slot), Kx σ  → WD D (tyM cI cZ) (cellsM ad ln cI cZ σ) A s H locs → lv_has ls 4 [] → W p l e (rmK 3) s m args below meth c H locs 0 0 (MQ below (va_Qi post (Pos0 D (tyM cI cZ) (cellsM ad ln cI cZ) A) A) args s 0 0 A) (F0 m 35 ls [])) :
    ∀ (n : Nat) (σ : CS) (x3 : Int32) (H : Heap) (locs : List Loc) (ls : Array Slot), lp_X5_giveAligned_7 ln post  Kx x1 x2 n σ x3 → WD D (tyM cI cZ) (cellsM ad ln cI cZ σ) A s H locs → lv_has ls 4 [(0, .ref (ad 0)), (1, .int x1), (2, .int x2), (3, .int x3)] → W p l e (rmK 3) s m args below meth c H locs 0 0 (MQ below (va_Qi post (Pos0 D (tyM cI cZ) (cellsM ad ln cI cZ) A) A) args s 0 0 A) (F0 m 7 ls []) := by
  obtain ⟨hx, hb, hr, hml, hown, hts, hlk⟩ := id hB
  intro n
  induction n with
  | zero => intro σ x3 H locs ls hq hw hl; exact hq.elim
  | succ n ih =>
    intro σ x3 H locs ls hq hw hl
    replace hq : lb_X5_giveAligned_7 ln post  Kx x1 x2 (lp_X5_giveAligned_7 ln post  Kx x1 x2 n) σ x3 := hq
    refine lv_iload_n hx hb dX5_giveAligned_7 rfl (lv_at hl 3 rfl) ?_
    refine lv_sipush (v := 1024) hx hb dX5_giveAligned_8 (by decide) ?_
    refine lv_icmp_gt (tgt := 35) hx hb dX5_giveAligned_11 (by decide) (fun c1 => ?_) (fun c1 => ?_)
    · replace hq := hq.1 c1
      exact hKx σ _ _ _ hq hw (lv_sub hl [] rfl)
    · replace hq := hq.2 c1
      refine lv_iload_n hx hb dX5_giveAligned_14 rfl (lv_at hl 3 rfl) ?_
      refine lv_iload_n hx hb dX5_giveAligned_15 rfl (lv_at hl 2 rfl) ?_
      refine lv_icmp_ne (tgt := 28) hx hb dX5_giveAligned_16 (by decide) (fun c2 => ?_) (fun c2 => ?_)
      · replace hq := hq.1 c2
        refine lv_iconst (v := 2) hx hb dX5_giveAligned_28 (by decide) ?_
        refine lv_iload_n hx hb dX5_giveAligned_29 rfl (lv_at hl 3 rfl) ?_
        refine lv_imul hx hb dX5_giveAligned_30 ?_
        refine lv_istore_n (lv' := [(3, .int (2 * x3)), (0, .ref (ad 0)), (1, .int x1), (2, .int x2)]) hx hb dX5_giveAligned_31 rfl hl (by decide) rfl (fun ls hl => ?_)
        refine lv_goto (tgt := 7) hx hb dX5_giveAligned_32 (by decide) ?_
        exact ih σ (2 * x3) _ _ _ hq hw (lv_sub hl [1, 2, 3, 0] rfl)
      · replace hq := hq.2 c2
        refine lv_aload_n hx hb dX5_giveAligned_19 rfl (lv_at hl 0 rfl) ?_
        refine lv_iload_n hx hb dX5_giveAligned_20 rfl (lv_at hl 1 rfl) ?_
        refine lv_iload_n hx hb dX5_giveAligned_21 rfl (lv_at hl 2 rfl) ?_
        refine lv_iconst (v := 4) hx hb dX5_giveAligned_22 (by decide) ?_
        refine lv_idiv hx hb dX5_giveAligned_23 (by decide) ?_
        refine w_cVI (As := [.int x1, .int (x2 / 4)]) (rest := []) hB hw hl.1 (c_X5_gives l D ad ln cI cZ σ x1 (x2 / 4) _ hq) m400 m260 m475 m188 m95 rfl ok_X5_gives (okR_K (by decide) (by decide)) (q0 := 0) (ci := 5) rfl rfl rfl rfl (Nat.le_of_ble_eq_true rfl) dX5_giveAligned_24 (fun r4 σ3 H locs hq hw => ?_)
        exact w_iret hB hw hq dX5_giveAligned_27
set_option maxHeartbeats 4000000 in
set_option maxRecDepth 100000 in
theorem c_X5_giveAligned (l : Launch) (D : va_G) (ad ln : Nat → Nat) (cI cZ : ClassId) (σ : CS) (p1 p2 : Int32) (post : Int32 → CS → Prop) (hq : wp_X5_giveAligned ln σ p1 p2 post) : MtI l D (tyM cI cZ) (cellsM ad ln cI cZ) yX5_giveAligned cX5_giveAligned 4 (some .int) (rmK 3) [.ref (ad 0), .int p1, .int p2] σ post := by
  refine MtI_of (by decide) (Nat.le_of_ble_eq_true rfl) ?_
  intro p e s m below meth c A ls hB hw hl
  replace hB : MB p s m _ meth c cX5_giveAligned 4 (some .int) RX5 := hB
  replace hl : lv_has ls 4 [(0, .ref (ad 0)), (1, .int p1), (2, .int p2)] := hl
  obtain ⟨hx, hb, hr, hml, hown, hts, hlk⟩ := id hB
  unfold wp_X5_giveAligned at hq
  refine lv_aload_n hx hb dX5_giveAligned_0 rfl (lv_at hl 0 rfl) ?_
  refine lv_iconst (v := 0) hx hb dX5_giveAligned_1 (by decide) ?_
  refine pM_0_0 hB hw m171 dX5_giveAligned_2 (fun H locs hw => ?_)
  refine lv_iconst (v := 4) hx hb dX5_giveAligned_5 (by decide) ?_
  refine lv_istore_n (lv' := [(3, .int 4), (0, .ref (ad 0)), (1, .int p1), (2, .int p2)]) hx hb dX5_giveAligned_6 rfl hl (by decide) rfl (fun ls hl => ?_)
  obtain ⟨n5, hq⟩ := hq
  refine wl_X5_giveAligned_7 hB  (fun σ6 H locs ls hq hw hl => ?_) n5 (setF σ 0 0) 4 _ _ _ hq hw (lv_sub hl [1, 2, 3, 0] rfl)
  refine lv_iconst (v := 0) hx hb dX5_giveAligned_35 (by decide) ?_
  exact w_iret hB hw hq dX5_giveAligned_36
theorem ok_X5_giveAligned : okY yX5_giveAligned 2 := ⟨by decide, by decide, by decide +kernel⟩
/-! X5_free -/
def wp_X5_free (ln : Nat → Nat) (σ : CS) (p1 : Int32) (post : Int32 → CS → Prop) : Prop :=
  wp_X5_find ln (setF σ 0 0) p1 (fun r2 σ1 => ((¬ r2 = (-1) → (vp_in r2 (ln 2) ∧ wp_X5_joins ln (setF (setA σ1 2 r2.toNatClampNeg (vp_nar .boolean 0)) 2 0) (fun σ5 => post 1 σ5))) ∧ (r2 = (-1) → post 0 σ1)))
set_option maxHeartbeats 4000000 in
set_option maxRecDepth 100000 in
theorem c_X5_free (l : Launch) (D : va_G) (ad ln : Nat → Nat) (cI cZ : ClassId) (σ : CS) (p1 : Int32) (post : Int32 → CS → Prop) (hq : wp_X5_free ln σ p1 post) : MtI l D (tyM cI cZ) (cellsM ad ln cI cZ) yX5_free cX5_free 3 (some .boolean) (rmK 2) [.ref (ad 0), .int p1] σ post := by
  refine MtI_of (by decide) (Nat.le_of_ble_eq_true rfl) ?_
  intro p e s m below meth c A ls hB hw hl
  replace hB : MB p s m _ meth c cX5_free 3 (some .boolean) RX5 := hB
  replace hl : lv_has ls 3 [(0, .ref (ad 0)), (1, .int p1)] := hl
  obtain ⟨hx, hb, hr, hml, hown, hts, hlk⟩ := id hB
  unfold wp_X5_free at hq
  refine lv_aload_n hx hb dX5_free_0 rfl (lv_at hl 0 rfl) ?_
  refine lv_iconst (v := 0) hx hb dX5_free_1 (by decide) ?_
  refine pM_0_0 hB hw m171 dX5_free_2 (fun H locs hw => ?_)
  refine lv_aload_n hx hb dX5_free_5 rfl (lv_at hl 0 rfl) ?_
  refine lv_iload_n hx hb dX5_free_6 rfl (lv_at hl 1 rfl) ?_
  refine w_cVI (As := [.int p1]) (rest := []) hB hw hl.1 (c_X5_find l D ad ln cI cZ (setF σ 0 0) p1 _ hq) m403 m253 m468 m188 m88 rfl ok_X5_find (okR_K (by decide) (by decide)) (q0 := 0) (ci := 5) rfl rfl rfl rfl (Nat.le_of_ble_eq_true rfl) dX5_free_7 (fun r2 σ1 H locs hq hw => ?_)
  refine lv_istore_n (lv' := [(2, .int r2), (0, .ref (ad 0)), (1, .int p1)]) hx hb dX5_free_10 rfl hl (by decide) rfl (fun ls hl => ?_)
  refine lv_iload_n hx hb dX5_free_11 rfl (lv_at hl 0 rfl) ?_
  refine lv_iconst (v := (-1)) hx hb dX5_free_12 (by decide) ?_
  refine lv_icmp_ne (tgt := 18) hx hb dX5_free_13 (by decide) (fun c3 => ?_) (fun c3 => ?_)
  · replace hq := hq.1 c3
    refine lv_aload_n hx hb dX5_free_18 rfl (lv_at hl 1 rfl) ?_
    refine gM_0_3 hB hw m160 dX5_free_19 ?_
    refine lv_iload_n hx hb dX5_free_22 rfl (lv_at hl 0 rfl) ?_
    refine lv_iconst (v := 0) hx hb dX5_free_23 (by decide) ?_
    obtain ⟨h4, hq⟩ := hq
    refine sM_2 hB hw h4 dX5_free_24 (fun H locs hw => ?_)
    refine lv_aload_n hx hb dX5_free_25 rfl (lv_at hl 1 rfl) ?_
    refine lv_iconst (v := 0) hx hb dX5_free_26 (by decide) ?_
    refine pM_0_6 hB hw m173 rfl rfl dX5_free_27 (fun H locs hw => ?_)
    refine lv_aload_n hx hb dX5_free_30 rfl (lv_at hl 1 rfl) ?_
    refine w_cVV (As := []) (rest := []) hB hw hl.1 (c_X5_joins l D ad ln cI cZ (setF (setA σ1 2 r2.toNatClampNeg (vp_nar .boolean 0)) 2 0) _ hq) m404 m266 m480 m188 m101 rfl ok_X5_joins (okR_K (by decide) (by decide)) (q0 := 0) (ci := 5) rfl rfl rfl rfl (Nat.le_of_ble_eq_true rfl) dX5_free_31 (fun σ5 H locs hq hw => ?_)
    refine lv_iconst (v := 1) hx hb dX5_free_34 (by decide) ?_
    exact w_zret hB hw rfl hq dX5_free_35
  · replace hq := hq.2 c3
    refine lv_iconst (v := 0) hx hb dX5_free_16 (by decide) ?_
    exact w_zret hB hw rfl hq dX5_free_17
theorem ok_X5_free : okY yX5_free 1 := ⟨by decide, by decide, by decide +kernel⟩
/-! X5_grow -/
def lb_X5_grow_90 (ln : Nat → Nat) (post : Int32 → CS → Prop)  (Kx : CS → Prop) (x3 x4 x5 x6 : Int32) (Kb : CS → Int32 → Prop) (σ : CS) (x7 : Int32) : Prop :=
  (((4 * x4) ≤ x7 → Kx σ) ∧ (¬ (4 * x4) ≤ x7 → wp_X5_address ln σ x5 (fun r16 σ15 => (vp_in ((r16 - 1) + x7) (ln 4) ∧ Kb (setA σ15 4 ((r16 - 1) + x7).toNatClampNeg 0) (x7 + 1)))))
def lp_X5_grow_90 (ln : Nat → Nat) (post : Int32 → CS → Prop)  (Kx : CS → Prop) (x3 x4 x5 x6 : Int32) : Nat → CS → Int32 → Prop
  | 0 => fun _ _ => False
  | n + 1 => lb_X5_grow_90 ln post  Kx x3 x4 x5 x6 (lp_X5_grow_90 ln post  Kx x3 x4 x5 x6 n)
def wp_X5_grow (ln : Nat → Nat) (σ : CS) (p1 p2 : Int32) (post : Int32 → CS → Prop) : Prop :=
  wp_X5_find ln (setF σ 0 0) p1 (fun r2 σ1 => ((r2 = (-1) → post 0 σ1) ∧ (¬ r2 = (-1) → ((1 ≤ p2 → wp_X5_groupsFor ln σ1 p2 (fun r6 σ5 => (vp_in r2 (ln 1) ∧ (((r6 - ((σ5.2 1) r2.toNatClampNeg)) ≤ 0 → post 1 (setF σ5 2 0)) ∧ (¬ (r6 - ((σ5.2 1) r2.toNatClampNeg)) ≤ 0 → wp_X5_isFree ln σ5 (r2 + ((σ5.2 1) r2.toNatClampNeg)) (fun r10 σ9 => ((r10 = 0 → post 0 σ9) ∧ (¬ r10 = 0 → (vp_in (r2 + ((σ5.2 1) r2.toNatClampNeg)) (ln 1) ∧ (((r6 - ((σ5.2 1) r2.toNatClampNeg)) ≤ ((σ9.2 1) (r2 + ((σ5.2 1) r2.toNatClampNeg)).toNatClampNeg) → (∃ n18 : Nat, lp_X5_grow_90 ln post  (fun σ19 => (((((σ9.2 1) (r2 + ((σ5.2 1) r2.toNatClampNeg)).toNatClampNeg) - (r6 - ((σ5.2 1) r2.toNatClampNeg))) ≤ 0 → post 1 (setF (setA (setA σ19 1 (r2 + ((σ5.2 1) r2.toNatClampNeg)).toNatClampNeg 0) 1 r2.toNatClampNeg (((upd (σ19.2 1) (r2 + ((σ5.2 1) r2.toNatClampNeg)).toNatClampNeg 0) r2.toNatClampNeg) + (r6 - ((σ5.2 1) r2.toNatClampNeg)))) 2 0)) ∧ (¬ (((σ9.2 1) (r2 + ((σ5.2 1) r2.toNatClampNeg)).toNatClampNeg) - (r6 - ((σ5.2 1) r2.toNatClampNeg))) ≤ 0 → (vp_in (r2 + ((upd (upd (σ19.2 1) (r2 + ((σ5.2 1) r2.toNatClampNeg)).toNatClampNeg 0) r2.toNatClampNeg (((upd (σ19.2 1) (r2 + ((σ5.2 1) r2.toNatClampNeg)).toNatClampNeg 0) r2.toNatClampNeg) + (r6 - ((σ5.2 1) r2.toNatClampNeg)))) r2.toNatClampNeg)) (ln 1) ∧ (vp_in (r2 + ((upd (upd (upd (σ19.2 1) (r2 + ((σ5.2 1) r2.toNatClampNeg)).toNatClampNeg 0) r2.toNatClampNeg (((upd (σ19.2 1) (r2 + ((σ5.2 1) r2.toNatClampNeg)).toNatClampNeg 0) r2.toNatClampNeg) + (r6 - ((σ5.2 1) r2.toNatClampNeg)))) (r2 + ((upd (upd (σ19.2 1) (r2 + ((σ5.2 1) r2.toNatClampNeg)).toNatClampNeg 0) r2.toNatClampNeg (((upd (σ19.2 1) (r2 + ((σ5.2 1) r2.toNatClampNeg)).toNatClampNeg 0) r2.toNatClampNeg) + (r6 - ((σ5.2 1) r2.toNatClampNeg)))) r2.toNatClampNeg)).toNatClampNeg (((σ9.2 1) (r2 + ((σ5.2 1) r2.toNatClampNeg)).toNatClampNeg) - (r6 - ((σ5.2 1) r2.toNatClampNeg)))) r2.toNatClampNeg)) (ln 2) ∧ post 1 (setF (setA (setA (setA (setA σ19 1 (r2 + ((σ5.2 1) r2.toNatClampNeg)).toNatClampNeg 0) 1 r2.toNatClampNeg (((upd (σ19.2 1) (r2 + ((σ5.2 1) r2.toNatClampNeg)).toNatClampNeg 0) r2.toNatClampNeg) + (r6 - ((σ5.2 1) r2.toNatClampNeg)))) 1 (r2 + ((upd (upd (σ19.2 1) (r2 + ((σ5.2 1) r2.toNatClampNeg)).toNatClampNeg 0) r2.toNatClampNeg (((upd (σ19.2 1) (r2 + ((σ5.2 1) r2.toNatClampNeg)).toNatClampNeg 0) r2.toNatClampNeg) + (r6 - ((σ5.2 1) r2.toNatClampNeg)))) r2.toNatClampNeg)).toNatClampNeg (((σ9.2 1) (r2 + ((σ5.2 1) r2.toNatClampNeg)).toNatClampNeg) - (r6 - ((σ5.2 1) r2.toNatClampNeg)))) 2 (r2 + ((upd (upd (upd (σ19.2 1) (r2 + ((σ5.2 1) r2.toNatClampNeg)).toNatClampNeg 0) r2.toNatClampNeg (((upd (σ19.2 1) (r2 + ((σ5.2 1) r2.toNatClampNeg)).toNatClampNeg 0) r2.toNatClampNeg) + (r6 - ((σ5.2 1) r2.toNatClampNeg)))) (r2 + ((upd (upd (σ19.2 1) (r2 + ((σ5.2 1) r2.toNatClampNeg)).toNatClampNeg 0) r2.toNatClampNeg (((upd (σ19.2 1) (r2 + ((σ5.2 1) r2.toNatClampNeg)).toNatClampNeg 0) r2.toNatClampNeg) + (r6 - ((σ5.2 1) r2.toNatClampNeg)))) r2.toNatClampNeg)).toNatClampNeg (((σ9.2 1) (r2 + ((σ5.2 1) r2.toNatClampNeg)).toNatClampNeg) - (r6 - ((σ5.2 1) r2.toNatClampNeg)))) r2.toNatClampNeg)).toNatClampNeg (vp_nar .boolean 0)) 2 0)))))) r2 (r6 - ((σ5.2 1) r2.toNatClampNeg)) (r2 + ((σ5.2 1) r2.toNatClampNeg)) (((σ9.2 1) (r2 + ((σ5.2 1) r2.toNatClampNeg)).toNatClampNeg) - (r6 - ((σ5.2 1) r2.toNatClampNeg))) n18 σ9 0)) ∧ (¬ (r6 - ((σ5.2 1) r2.toNatClampNeg)) ≤ ((σ9.2 1) (r2 + ((σ5.2 1) r2.toNatClampNeg)).toNatClampNeg) → post 0 σ9))))))))))) ∧ (¬ 1 ≤ p2 → post 0 σ1)))))
set_option maxHeartbeats 4000000 in
set_option maxRecDepth 100000 in
theorem wl_X5_grow_90 {p : Program} {l : Launch} {e : Env} {s : State} {m : MethodId} {args : Array Value} {below : List Frame} {meth : Method} {c : Code} {D : va_G} {ad ln : Nat → Nat} {cI cZ : ClassId} {A : Nat → Prop} {post : Int32 → CS → Prop}  {Kx : CS → Prop} {x3 x4 x5 x6 : Int32} (hB : MB p s m args meth c cX5_grow 8 (some .boolean) RX5)  (hKx : ∀ (σ : CS) (H : Heap) (locs : List Loc) (ls : Array Slot), Kx σ  → WD D (tyM cI cZ) (cellsM ad ln cI cZ σ) A s H locs → lv_has ls 8 [(0, .ref (ad 0)), (3, .int x3), (4, .int x4), (5, .int x5), (6, .int x6)] → W p l e (rmK 1) s m args below meth c H locs 0 0 (MQ below (va_Qi post (Pos0 D (tyM cI cZ) (cellsM ad ln cI cZ) A) A) args s 0 0 A) (F0 m 121 ls [])) :
    ∀ (n : Nat) (σ : CS) (x7 : Int32) (H : Heap) (locs : List Loc) (ls : Array Slot), lp_X5_grow_90 ln post  Kx x3 x4 x5 x6 n σ x7 → WD D (tyM cI cZ) (cellsM ad ln cI cZ σ) A s H locs → lv_has ls 8 [(0, .ref (ad 0)), (3, .int x3), (4, .int x4), (5, .int x5), (6, .int x6), (7, .int x7)] → W p l e (rmK 1) s m args below meth c H locs 0 0 (MQ below (va_Qi post (Pos0 D (tyM cI cZ) (cellsM ad ln cI cZ) A) A) args s 0 0 A) (F0 m 90 ls []) := by
  obtain ⟨hx, hb, hr, hml, hown, hts, hlk⟩ := id hB
  intro n
  induction n with
  | zero => intro σ x7 H locs ls hq hw hl; exact hq.elim
  | succ n ih =>
    intro σ x7 H locs ls hq hw hl
    replace hq : lb_X5_grow_90 ln post  Kx x3 x4 x5 x6 (lp_X5_grow_90 ln post  Kx x3 x4 x5 x6 n) σ x7 := hq
    refine lv_iload hx hb dX5_grow_90 (lv_at hl 5 rfl) ?_
    refine lv_iconst (v := 4) hx hb dX5_grow_92 (by decide) ?_
    refine lv_iload hx hb dX5_grow_93 (lv_at hl 2 rfl) ?_
    refine lv_imul hx hb dX5_grow_95 ?_
    refine lv_icmp_ge (tgt := 121) hx hb dX5_grow_96 (by decide) (fun c14 => ?_) (fun c14 => ?_)
    · replace hq := hq.1 c14
      exact hKx σ _ _ _ hq hw (lv_sub hl [0, 1, 2, 3, 4] rfl)
    · replace hq := hq.2 c14
      refine lv_aload_n hx hb dX5_grow_99 rfl (lv_at hl 0 rfl) ?_
      refine gM_0_5 hB hw m162 dX5_grow_100 ?_
      refine lv_iload hx hb dX5_grow_103 (lv_at hl 3 rfl) ?_
      refine w_cSI (As := [.int x5]) (rest := [.ref (ad 4)]) hB hw hl.1 (c_X5_address l D ad ln cI cZ σ x5 _ hq) m399 m506 m188 m82 ok_X5_address (okR_K (by decide) (by decide)) rfl rfl (Nat.le_of_ble_eq_true rfl) dX5_grow_105 (fun r16 σ15 H locs hq hw => ?_)
      refine lv_iconst (v := 1) hx hb dX5_grow_108 (by decide) ?_
      refine lv_isub hx hb dX5_grow_109 ?_
      refine lv_iload hx hb dX5_grow_110 (lv_at hl 5 rfl) ?_
      refine lv_iadd hx hb dX5_grow_112 ?_
      refine lv_iconst (v := 0) hx hb dX5_grow_113 (by decide) ?_
      obtain ⟨h17, hq⟩ := hq
      refine sM_4 hB hw h17 dX5_grow_114 (fun H locs hw => ?_)
      refine lv_iinc (v := x7 + 1) (lv' := [(7, .int (x7 + 1)), (0, .ref (ad 0)), (3, .int x3), (4, .int x4), (5, .int x5), (6, .int x6)]) hx hb dX5_grow_115 hl (k := 5) rfl rfl (by decide) rfl (fun ls hl => ?_)
      refine lv_goto (tgt := 90) hx hb dX5_grow_118 (by decide) ?_
      exact ih (setA σ15 4 ((r16 - 1) + x7).toNatClampNeg 0) (x7 + 1) _ _ _ hq hw (lv_sub hl [1, 2, 3, 4, 5, 0] rfl)
set_option maxHeartbeats 4000000 in
set_option maxRecDepth 100000 in
theorem c_X5_grow (l : Launch) (D : va_G) (ad ln : Nat → Nat) (cI cZ : ClassId) (σ : CS) (p1 p2 : Int32) (post : Int32 → CS → Prop) (hq : wp_X5_grow ln σ p1 p2 post) : MtI l D (tyM cI cZ) (cellsM ad ln cI cZ) yX5_grow cX5_grow 8 (some .boolean) (rmK 1) [.ref (ad 0), .int p1, .int p2] σ post := by
  refine MtI_of (by decide) (Nat.le_of_ble_eq_true rfl) ?_
  intro p e s m below meth c A ls hB hw hl
  replace hB : MB p s m _ meth c cX5_grow 8 (some .boolean) RX5 := hB
  replace hl : lv_has ls 8 [(0, .ref (ad 0)), (1, .int p1), (2, .int p2)] := hl
  obtain ⟨hx, hb, hr, hml, hown, hts, hlk⟩ := id hB
  unfold wp_X5_grow at hq
  refine lv_aload_n hx hb dX5_grow_0 rfl (lv_at hl 0 rfl) ?_
  refine lv_iconst (v := 0) hx hb dX5_grow_1 (by decide) ?_
  refine pM_0_0 hB hw m171 dX5_grow_2 (fun H locs hw => ?_)
  refine lv_aload_n hx hb dX5_grow_5 rfl (lv_at hl 0 rfl) ?_
  refine lv_iload_n hx hb dX5_grow_6 rfl (lv_at hl 1 rfl) ?_
  refine w_cVI (As := [.int p1]) (rest := []) hB hw hl.1 (c_X5_find l D ad ln cI cZ (setF σ 0 0) p1 _ hq) m403 m253 m468 m188 m88 rfl ok_X5_find (okR_K (by decide) (by decide)) (q0 := 0) (ci := 5) rfl rfl rfl rfl (Nat.le_of_ble_eq_true rfl) dX5_grow_7 (fun r2 σ1 H locs hq hw => ?_)
  refine lv_istore_n (lv' := [(3, .int r2), (0, .ref (ad 0)), (1, .int p1), (2, .int p2)]) hx hb dX5_grow_10 rfl hl (by decide) rfl (fun ls hl => ?_)
  refine lv_iload_n hx hb dX5_grow_11 rfl (lv_at hl 0 rfl) ?_
  refine lv_iconst (v := (-1)) hx hb dX5_grow_12 (by decide) ?_
  refine lv_icmp_eq (tgt := 21) hx hb dX5_grow_13 (by decide) (fun c3 => ?_) (fun c3 => ?_)
  · replace hq := hq.1 c3
    refine lv_iconst (v := 0) hx hb dX5_grow_21 (by decide) ?_
    exact w_zret hB hw rfl hq dX5_grow_22
  · replace hq := hq.2 c3
    refine lv_iload_n hx hb dX5_grow_16 rfl (lv_at hl 3 rfl) ?_
    refine lv_iconst (v := 1) hx hb dX5_grow_17 (by decide) ?_
    refine lv_icmp_ge (tgt := 23) hx hb dX5_grow_18 (by decide) (fun c4 => ?_) (fun c4 => ?_)
    · replace hq := hq.1 c4
      refine lv_aload_n hx hb dX5_grow_23 rfl (lv_at hl 1 rfl) ?_
      refine lv_iload_n hx hb dX5_grow_24 rfl (lv_at hl 3 rfl) ?_
      refine w_cVI (As := [.int p2]) (rest := []) hB hw hl.1 (c_X5_groupsFor l D ad ln cI cZ σ1 p2 _ hq) m401 m262 m477 m188 m97 rfl ok_X5_groupsFor (okR_K (by decide) (by decide)) (q0 := 0) (ci := 5) rfl rfl rfl rfl (Nat.le_of_ble_eq_true rfl) dX5_grow_25 (fun r6 σ5 H locs hq hw => ?_)
      refine lv_aload_n hx hb dX5_grow_28 rfl (lv_at hl 1 rfl) ?_
      refine gM_0_2 hB hw m172 dX5_grow_29 ?_
      refine lv_iload_n hx hb dX5_grow_32 rfl (lv_at hl 0 rfl) ?_
      obtain ⟨h7, hq⟩ := hq
      refine aM_1 (f := (σ5.2 1)) hB hw rfl h7 dX5_grow_33 ?_
      refine lv_isub hx hb dX5_grow_34 ?_
      refine lv_istore (lv' := [(4, .int (r6 - ((σ5.2 1) r2.toNatClampNeg))), (3, .int r2), (0, .ref (ad 0)), (1, .int p1), (2, .int p2)]) hx hb dX5_grow_35 hl (by decide) rfl (fun ls hl => ?_)
      refine lv_iload_n hx hb dX5_grow_37 rfl (lv_at hl 1 rfl) ?_
      refine lv_aload_n hx hb dX5_grow_38 rfl (lv_at hl 2 rfl) ?_
      refine gM_0_2 hB hw m172 dX5_grow_39 ?_
      refine lv_iload_n hx hb dX5_grow_42 rfl (lv_at hl 1 rfl) ?_
      refine aM_1 (f := (σ5.2 1)) hB hw rfl h7 dX5_grow_43 ?_
      refine lv_iadd hx hb dX5_grow_44 ?_
      refine lv_istore (lv' := [(5, .int (r2 + ((σ5.2 1) r2.toNatClampNeg))), (4, .int (r6 - ((σ5.2 1) r2.toNatClampNeg))), (3, .int r2), (0, .ref (ad 0)), (1, .int p1), (2, .int p2)]) hx hb dX5_grow_45 hl (by decide) rfl (fun ls hl => ?_)
      refine lv_iload hx hb dX5_grow_47 (lv_at hl 1 rfl) ?_
      refine lv_if_le (tgt := 174) hx hb dX5_grow_49 (by decide) (fun c8 => ?_) (fun c8 => ?_)
      · replace hq := hq.1 c8
        refine lv_aload_n hx hb dX5_grow_174 rfl (lv_at hl 3 rfl) ?_
        refine lv_iconst (v := 0) hx hb dX5_grow_175 (by decide) ?_
        refine pM_0_6 hB hw m173 rfl rfl dX5_grow_176 (fun H locs hw => ?_)
        refine lv_iconst (v := 1) hx hb dX5_grow_179 (by decide) ?_
        exact w_zret hB hw rfl hq dX5_grow_180
      · replace hq := hq.2 c8
        refine lv_aload_n hx hb dX5_grow_52 rfl (lv_at hl 3 rfl) ?_
        refine lv_iload hx hb dX5_grow_53 (lv_at hl 0 rfl) ?_
        refine w_cVI (As := [.int (r2 + ((σ5.2 1) r2.toNatClampNeg))]) (rest := []) hB hw hl.1 (c_X5_isFree l D ad ln cI cZ σ5 (r2 + ((σ5.2 1) r2.toNatClampNeg)) _ hq) m398 m265 m479 m188 m100 rfl ok_X5_isFree (okR_K (by decide) (by decide)) (q0 := 0) (ci := 5) rfl rfl rfl rfl (Nat.le_of_ble_eq_true rfl) dX5_grow_55 (fun r10 σ9 H locs hq hw => ?_)
        refine lv_if_eq (tgt := 73) hx hb dX5_grow_58 (by decide) (fun c11 => ?_) (fun c11 => ?_)
        · replace hq := hq.1 c11
          refine lv_iconst (v := 0) hx hb dX5_grow_73 (by decide) ?_
          exact w_zret hB hw rfl hq dX5_grow_74
        · replace hq := hq.2 c11
          refine lv_aload_n hx hb dX5_grow_61 rfl (lv_at hl 3 rfl) ?_
          refine gM_0_2 hB hw m172 dX5_grow_62 ?_
          refine lv_iload hx hb dX5_grow_65 (lv_at hl 0 rfl) ?_
          obtain ⟨h12, hq⟩ := hq
          refine aM_1 (f := (σ9.2 1)) hB hw rfl h12 dX5_grow_67 ?_
          refine lv_iload hx hb dX5_grow_68 (lv_at hl 1 rfl) ?_
          refine lv_icmp_ge (tgt := 75) hx hb dX5_grow_70 (by decide) (fun c13 => ?_) (fun c13 => ?_)
          · replace hq := hq.1 c13
            refine lv_aload_n hx hb dX5_grow_75 rfl (lv_at hl 3 rfl) ?_
            refine gM_0_2 hB hw m172 dX5_grow_76 ?_
            refine lv_iload hx hb dX5_grow_79 (lv_at hl 0 rfl) ?_
            refine aM_1 (f := (σ9.2 1)) hB hw rfl h12 dX5_grow_81 ?_
            refine lv_iload hx hb dX5_grow_82 (lv_at hl 1 rfl) ?_
            refine lv_isub hx hb dX5_grow_84 ?_
            refine lv_istore (lv' := [(6, .int (((σ9.2 1) (r2 + ((σ5.2 1) r2.toNatClampNeg)).toNatClampNeg) - (r6 - ((σ5.2 1) r2.toNatClampNeg)))), (5, .int (r2 + ((σ5.2 1) r2.toNatClampNeg))), (4, .int (r6 - ((σ5.2 1) r2.toNatClampNeg))), (3, .int r2), (0, .ref (ad 0)), (1, .int p1), (2, .int p2)]) hx hb dX5_grow_85 hl (by decide) rfl (fun ls hl => ?_)
            refine lv_iconst (v := 0) hx hb dX5_grow_87 (by decide) ?_
            refine lv_istore (lv' := [(7, .int 0), (6, .int (((σ9.2 1) (r2 + ((σ5.2 1) r2.toNatClampNeg)).toNatClampNeg) - (r6 - ((σ5.2 1) r2.toNatClampNeg)))), (5, .int (r2 + ((σ5.2 1) r2.toNatClampNeg))), (4, .int (r6 - ((σ5.2 1) r2.toNatClampNeg))), (3, .int r2), (0, .ref (ad 0)), (1, .int p1), (2, .int p2)]) hx hb dX5_grow_88 hl (by decide) rfl (fun ls hl => ?_)
            obtain ⟨n18, hq⟩ := hq
            refine wl_X5_grow_90 hB  (fun σ19 H locs ls hq hw hl => ?_) n18 σ9 0 _ _ _ hq hw (lv_sub hl [5, 4, 3, 2, 1, 0] rfl)
            refine lv_aload_n hx hb dX5_grow_121 rfl (lv_at hl 0 rfl) ?_
            refine gM_0_2 hB hw m172 dX5_grow_122 ?_
            refine lv_iload hx hb dX5_grow_125 (lv_at hl 3 rfl) ?_
            refine lv_iconst (v := 0) hx hb dX5_grow_127 (by decide) ?_
            refine sM_1 hB hw h12 dX5_grow_128 (fun H locs hw => ?_)
            refine lv_aload_n hx hb dX5_grow_129 rfl (lv_at hl 0 rfl) ?_
            refine gM_0_2 hB hw m172 dX5_grow_130 ?_
            refine lv_iload_n hx hb dX5_grow_133 rfl (lv_at hl 1 rfl) ?_
            refine lv_dup2_11 hx hb dX5_grow_134 rfl rfl ?_
            refine aM_1 (f := (upd (σ19.2 1) (r2 + ((σ5.2 1) r2.toNatClampNeg)).toNatClampNeg 0)) hB hw rfl h7 dX5_grow_135 ?_
            refine lv_iload hx hb dX5_grow_136 (lv_at hl 2 rfl) ?_
            refine lv_iadd hx hb dX5_grow_138 ?_
            refine sM_1 hB hw h7 dX5_grow_139 (fun H locs hw => ?_)
            refine lv_iload hx hb dX5_grow_140 (lv_at hl 4 rfl) ?_
            refine lv_if_le (tgt := 174) hx hb dX5_grow_142 (by decide) (fun c20 => ?_) (fun c20 => ?_)
            · replace hq := hq.1 c20
              refine lv_aload_n hx hb dX5_grow_174 rfl (lv_at hl 0 rfl) ?_
              refine lv_iconst (v := 0) hx hb dX5_grow_175 (by decide) ?_
              refine pM_0_6 hB hw m173 rfl rfl dX5_grow_176 (fun H locs hw => ?_)
              refine lv_iconst (v := 1) hx hb dX5_grow_179 (by decide) ?_
              exact w_zret hB hw rfl hq dX5_grow_180
            · replace hq := hq.2 c20
              refine lv_aload_n hx hb dX5_grow_145 rfl (lv_at hl 0 rfl) ?_
              refine gM_0_2 hB hw m172 dX5_grow_146 ?_
              refine lv_iload_n hx hb dX5_grow_149 rfl (lv_at hl 1 rfl) ?_
              refine lv_aload_n hx hb dX5_grow_150 rfl (lv_at hl 0 rfl) ?_
              refine gM_0_2 hB hw m172 dX5_grow_151 ?_
              refine lv_iload_n hx hb dX5_grow_154 rfl (lv_at hl 1 rfl) ?_
              refine aM_1 (f := (upd (upd (σ19.2 1) (r2 + ((σ5.2 1) r2.toNatClampNeg)).toNatClampNeg 0) r2.toNatClampNeg (((upd (σ19.2 1) (r2 + ((σ5.2 1) r2.toNatClampNeg)).toNatClampNeg 0) r2.toNatClampNeg) + (r6 - ((σ5.2 1) r2.toNatClampNeg))))) hB hw rfl h7 dX5_grow_155 ?_
              refine lv_iadd hx hb dX5_grow_156 ?_
              refine lv_iload hx hb dX5_grow_157 (lv_at hl 4 rfl) ?_
              obtain ⟨h21, hq⟩ := hq
              refine sM_1 hB hw h21 dX5_grow_159 (fun H locs hw => ?_)
              refine lv_aload_n hx hb dX5_grow_160 rfl (lv_at hl 0 rfl) ?_
              refine gM_0_3 hB hw m160 dX5_grow_161 ?_
              refine lv_iload_n hx hb dX5_grow_164 rfl (lv_at hl 1 rfl) ?_
              refine lv_aload_n hx hb dX5_grow_165 rfl (lv_at hl 0 rfl) ?_
              refine gM_0_2 hB hw m172 dX5_grow_166 ?_
              refine lv_iload_n hx hb dX5_grow_169 rfl (lv_at hl 1 rfl) ?_
              refine aM_1 (f := (upd (upd (upd (σ19.2 1) (r2 + ((σ5.2 1) r2.toNatClampNeg)).toNatClampNeg 0) r2.toNatClampNeg (((upd (σ19.2 1) (r2 + ((σ5.2 1) r2.toNatClampNeg)).toNatClampNeg 0) r2.toNatClampNeg) + (r6 - ((σ5.2 1) r2.toNatClampNeg)))) (r2 + ((upd (upd (σ19.2 1) (r2 + ((σ5.2 1) r2.toNatClampNeg)).toNatClampNeg 0) r2.toNatClampNeg (((upd (σ19.2 1) (r2 + ((σ5.2 1) r2.toNatClampNeg)).toNatClampNeg 0) r2.toNatClampNeg) + (r6 - ((σ5.2 1) r2.toNatClampNeg)))) r2.toNatClampNeg)).toNatClampNeg (((σ9.2 1) (r2 + ((σ5.2 1) r2.toNatClampNeg)).toNatClampNeg) - (r6 - ((σ5.2 1) r2.toNatClampNeg))))) hB hw rfl h7 dX5_grow_170 ?_
              refine lv_iadd hx hb dX5_grow_171 ?_
              refine lv_iconst (v := 0) hx hb dX5_grow_172 (by decide) ?_
              obtain ⟨h22, hq⟩ := hq
              refine sM_2 hB hw h22 dX5_grow_173 (fun H locs hw => ?_)
              refine lv_aload_n hx hb dX5_grow_174 rfl (lv_at hl 0 rfl) ?_
              refine lv_iconst (v := 0) hx hb dX5_grow_175 (by decide) ?_
              refine pM_0_6 hB hw m173 rfl rfl dX5_grow_176 (fun H locs hw => ?_)
              refine lv_iconst (v := 1) hx hb dX5_grow_179 (by decide) ?_
              exact w_zret hB hw rfl hq dX5_grow_180
          · replace hq := hq.2 c13
            refine lv_iconst (v := 0) hx hb dX5_grow_73 (by decide) ?_
            exact w_zret hB hw rfl hq dX5_grow_74
    · replace hq := hq.2 c4
      refine lv_iconst (v := 0) hx hb dX5_grow_21 (by decide) ?_
      exact w_zret hB hw rfl hq dX5_grow_22
theorem ok_X5_grow : okY yX5_grow 2 := ⟨by decide, by decide, by decide +kernel⟩
/-! X5_trim -/
def wp_X5_trim (ln : Nat → Nat) (σ : CS) (p1 p2 : Int32) (post : Int32 → CS → Prop) : Prop :=
  wp_X5_find ln (setF σ 0 0) p1 (fun r2 σ1 => ((r2 = (-1) → post 0 σ1) ∧ (¬ r2 = (-1) → ((p2 < 1 → post 0 σ1) ∧ (¬ p2 < 1 → wp_X5_groupsFor ln σ1 p2 (fun r6 σ5 => (vp_in r2 (ln 1) ∧ ((r6 ≤ ((σ5.2 1) r2.toNatClampNeg) → wp_X5_groupsFor ln σ5 p2 (fun r10 σ9 => (((((σ5.2 1) r2.toNatClampNeg) - r10) ≤ 0 → post 1 (setF σ9 2 0)) ∧ (¬ (((σ5.2 1) r2.toNatClampNeg) - r10) ≤ 0 → (vp_in (r2 + ((upd (σ9.2 1) r2.toNatClampNeg (((σ9.2 1) r2.toNatClampNeg) - (((σ5.2 1) r2.toNatClampNeg) - r10))) r2.toNatClampNeg)) (ln 1) ∧ (vp_in (r2 + ((upd (upd (σ9.2 1) r2.toNatClampNeg (((σ9.2 1) r2.toNatClampNeg) - (((σ5.2 1) r2.toNatClampNeg) - r10))) (r2 + ((upd (σ9.2 1) r2.toNatClampNeg (((σ9.2 1) r2.toNatClampNeg) - (((σ5.2 1) r2.toNatClampNeg) - r10))) r2.toNatClampNeg)).toNatClampNeg (((σ5.2 1) r2.toNatClampNeg) - r10)) r2.toNatClampNeg)) (ln 2) ∧ wp_X5_joins ln (setA (setA (setA σ9 1 r2.toNatClampNeg (((σ9.2 1) r2.toNatClampNeg) - (((σ5.2 1) r2.toNatClampNeg) - r10))) 1 (r2 + ((upd (σ9.2 1) r2.toNatClampNeg (((σ9.2 1) r2.toNatClampNeg) - (((σ5.2 1) r2.toNatClampNeg) - r10))) r2.toNatClampNeg)).toNatClampNeg (((σ5.2 1) r2.toNatClampNeg) - r10)) 2 (r2 + ((upd (upd (σ9.2 1) r2.toNatClampNeg (((σ9.2 1) r2.toNatClampNeg) - (((σ5.2 1) r2.toNatClampNeg) - r10))) (r2 + ((upd (σ9.2 1) r2.toNatClampNeg (((σ9.2 1) r2.toNatClampNeg) - (((σ5.2 1) r2.toNatClampNeg) - r10))) r2.toNatClampNeg)).toNatClampNeg (((σ5.2 1) r2.toNatClampNeg) - r10)) r2.toNatClampNeg)).toNatClampNeg (vp_nar .boolean 0)) (fun σ14 => post 1 (setF σ14 2 0)))))))) ∧ (¬ r6 ≤ ((σ5.2 1) r2.toNatClampNeg) → post 0 σ5)))))))))
set_option maxHeartbeats 4000000 in
set_option maxRecDepth 100000 in
theorem c_X5_trim (l : Launch) (D : va_G) (ad ln : Nat → Nat) (cI cZ : ClassId) (σ : CS) (p1 p2 : Int32) (post : Int32 → CS → Prop) (hq : wp_X5_trim ln σ p1 p2 post) : MtI l D (tyM cI cZ) (cellsM ad ln cI cZ) yX5_trim cX5_trim 5 (some .boolean) (rmK 2) [.ref (ad 0), .int p1, .int p2] σ post := by
  refine MtI_of (by decide) (Nat.le_of_ble_eq_true rfl) ?_
  intro p e s m below meth c A ls hB hw hl
  replace hB : MB p s m _ meth c cX5_trim 5 (some .boolean) RX5 := hB
  replace hl : lv_has ls 5 [(0, .ref (ad 0)), (1, .int p1), (2, .int p2)] := hl
  obtain ⟨hx, hb, hr, hml, hown, hts, hlk⟩ := id hB
  unfold wp_X5_trim at hq
  refine lv_aload_n hx hb dX5_trim_0 rfl (lv_at hl 0 rfl) ?_
  refine lv_iconst (v := 0) hx hb dX5_trim_1 (by decide) ?_
  refine pM_0_0 hB hw m171 dX5_trim_2 (fun H locs hw => ?_)
  refine lv_aload_n hx hb dX5_trim_5 rfl (lv_at hl 0 rfl) ?_
  refine lv_iload_n hx hb dX5_trim_6 rfl (lv_at hl 1 rfl) ?_
  refine w_cVI (As := [.int p1]) (rest := []) hB hw hl.1 (c_X5_find l D ad ln cI cZ (setF σ 0 0) p1 _ hq) m403 m253 m468 m188 m88 rfl ok_X5_find (okR_K (by decide) (by decide)) (q0 := 0) (ci := 5) rfl rfl rfl rfl (Nat.le_of_ble_eq_true rfl) dX5_trim_7 (fun r2 σ1 H locs hq hw => ?_)
  refine lv_istore_n (lv' := [(3, .int r2), (0, .ref (ad 0)), (1, .int p1), (2, .int p2)]) hx hb dX5_trim_10 rfl hl (by decide) rfl (fun ls hl => ?_)
  refine lv_iload_n hx hb dX5_trim_11 rfl (lv_at hl 0 rfl) ?_
  refine lv_iconst (v := (-1)) hx hb dX5_trim_12 (by decide) ?_
  refine lv_icmp_eq (tgt := 35) hx hb dX5_trim_13 (by decide) (fun c3 => ?_) (fun c3 => ?_)
  · replace hq := hq.1 c3
    refine lv_iconst (v := 0) hx hb dX5_trim_35 (by decide) ?_
    exact w_zret hB hw rfl hq dX5_trim_36
  · replace hq := hq.2 c3
    refine lv_iload_n hx hb dX5_trim_16 rfl (lv_at hl 3 rfl) ?_
    refine lv_iconst (v := 1) hx hb dX5_trim_17 (by decide) ?_
    refine lv_icmp_lt (tgt := 35) hx hb dX5_trim_18 (by decide) (fun c4 => ?_) (fun c4 => ?_)
    · replace hq := hq.1 c4
      refine lv_iconst (v := 0) hx hb dX5_trim_35 (by decide) ?_
      exact w_zret hB hw rfl hq dX5_trim_36
    · replace hq := hq.2 c4
      refine lv_aload_n hx hb dX5_trim_21 rfl (lv_at hl 1 rfl) ?_
      refine lv_iload_n hx hb dX5_trim_22 rfl (lv_at hl 3 rfl) ?_
      refine w_cVI (As := [.int p2]) (rest := []) hB hw hl.1 (c_X5_groupsFor l D ad ln cI cZ σ1 p2 _ hq) m401 m262 m477 m188 m97 rfl ok_X5_groupsFor (okR_K (by decide) (by decide)) (q0 := 0) (ci := 5) rfl rfl rfl rfl (Nat.le_of_ble_eq_true rfl) dX5_trim_23 (fun r6 σ5 H locs hq hw => ?_)
      refine lv_aload_n hx hb dX5_trim_26 rfl (lv_at hl 1 rfl) ?_
      refine gM_0_2 hB hw m172 dX5_trim_27 ?_
      refine lv_iload_n hx hb dX5_trim_30 rfl (lv_at hl 0 rfl) ?_
      obtain ⟨h7, hq⟩ := hq
      refine aM_1 (f := (σ5.2 1)) hB hw rfl h7 dX5_trim_31 ?_
      refine lv_icmp_le (tgt := 37) hx hb dX5_trim_32 (by decide) (fun c8 => ?_) (fun c8 => ?_)
      · replace hq := hq.1 c8
        refine lv_aload_n hx hb dX5_trim_37 rfl (lv_at hl 1 rfl) ?_
        refine gM_0_2 hB hw m172 dX5_trim_38 ?_
        refine lv_iload_n hx hb dX5_trim_41 rfl (lv_at hl 0 rfl) ?_
        refine aM_1 (f := (σ5.2 1)) hB hw rfl h7 dX5_trim_42 ?_
        refine lv_aload_n hx hb dX5_trim_43 rfl (lv_at hl 1 rfl) ?_
        refine lv_iload_n hx hb dX5_trim_44 rfl (lv_at hl 3 rfl) ?_
        refine w_cVI (As := [.int p2]) (rest := [.int ((σ5.2 1) r2.toNatClampNeg)]) hB hw hl.1 (c_X5_groupsFor l D ad ln cI cZ σ5 p2 _ hq) m401 m262 m477 m188 m97 rfl ok_X5_groupsFor (okR_K (by decide) (by decide)) (q0 := 0) (ci := 5) rfl rfl rfl rfl (Nat.le_of_ble_eq_true rfl) dX5_trim_45 (fun r10 σ9 H locs hq hw => ?_)
        refine lv_isub hx hb dX5_trim_48 ?_
        refine lv_istore (lv' := [(4, .int (((σ5.2 1) r2.toNatClampNeg) - r10)), (3, .int r2), (0, .ref (ad 0)), (1, .int p1), (2, .int p2)]) hx hb dX5_trim_49 hl (by decide) rfl (fun ls hl => ?_)
        refine lv_iload hx hb dX5_trim_51 (lv_at hl 0 rfl) ?_
        refine lv_if_le (tgt := 100) hx hb dX5_trim_53 (by decide) (fun c11 => ?_) (fun c11 => ?_)
        · replace hq := hq.1 c11
          refine lv_aload_n hx hb dX5_trim_100 rfl (lv_at hl 2 rfl) ?_
          refine lv_iconst (v := 0) hx hb dX5_trim_101 (by decide) ?_
          refine pM_0_6 hB hw m173 rfl rfl dX5_trim_102 (fun H locs hw => ?_)
          refine lv_iconst (v := 1) hx hb dX5_trim_105 (by decide) ?_
          exact w_zret hB hw rfl hq dX5_trim_106
        · replace hq := hq.2 c11
          refine lv_aload_n hx hb dX5_trim_56 rfl (lv_at hl 2 rfl) ?_
          refine gM_0_2 hB hw m172 dX5_trim_57 ?_
          refine lv_iload_n hx hb dX5_trim_60 rfl (lv_at hl 1 rfl) ?_
          refine lv_dup2_11 hx hb dX5_trim_61 rfl rfl ?_
          refine aM_1 (f := (σ9.2 1)) hB hw rfl h7 dX5_trim_62 ?_
          refine lv_iload hx hb dX5_trim_63 (lv_at hl 0 rfl) ?_
          refine lv_isub hx hb dX5_trim_65 ?_
          refine sM_1 hB hw h7 dX5_trim_66 (fun H locs hw => ?_)
          refine lv_aload_n hx hb dX5_trim_67 rfl (lv_at hl 2 rfl) ?_
          refine gM_0_2 hB hw m172 dX5_trim_68 ?_
          refine lv_iload_n hx hb dX5_trim_71 rfl (lv_at hl 1 rfl) ?_
          refine lv_aload_n hx hb dX5_trim_72 rfl (lv_at hl 2 rfl) ?_
          refine gM_0_2 hB hw m172 dX5_trim_73 ?_
          refine lv_iload_n hx hb dX5_trim_76 rfl (lv_at hl 1 rfl) ?_
          refine aM_1 (f := (upd (σ9.2 1) r2.toNatClampNeg (((σ9.2 1) r2.toNatClampNeg) - (((σ5.2 1) r2.toNatClampNeg) - r10)))) hB hw rfl h7 dX5_trim_77 ?_
          refine lv_iadd hx hb dX5_trim_78 ?_
          refine lv_iload hx hb dX5_trim_79 (lv_at hl 0 rfl) ?_
          obtain ⟨h12, hq⟩ := hq
          refine sM_1 hB hw h12 dX5_trim_81 (fun H locs hw => ?_)
          refine lv_aload_n hx hb dX5_trim_82 rfl (lv_at hl 2 rfl) ?_
          refine gM_0_3 hB hw m160 dX5_trim_83 ?_
          refine lv_iload_n hx hb dX5_trim_86 rfl (lv_at hl 1 rfl) ?_
          refine lv_aload_n hx hb dX5_trim_87 rfl (lv_at hl 2 rfl) ?_
          refine gM_0_2 hB hw m172 dX5_trim_88 ?_
          refine lv_iload_n hx hb dX5_trim_91 rfl (lv_at hl 1 rfl) ?_
          refine aM_1 (f := (upd (upd (σ9.2 1) r2.toNatClampNeg (((σ9.2 1) r2.toNatClampNeg) - (((σ5.2 1) r2.toNatClampNeg) - r10))) (r2 + ((upd (σ9.2 1) r2.toNatClampNeg (((σ9.2 1) r2.toNatClampNeg) - (((σ5.2 1) r2.toNatClampNeg) - r10))) r2.toNatClampNeg)).toNatClampNeg (((σ5.2 1) r2.toNatClampNeg) - r10))) hB hw rfl h7 dX5_trim_92 ?_
          refine lv_iadd hx hb dX5_trim_93 ?_
          refine lv_iconst (v := 0) hx hb dX5_trim_94 (by decide) ?_
          obtain ⟨h13, hq⟩ := hq
          refine sM_2 hB hw h13 dX5_trim_95 (fun H locs hw => ?_)
          refine lv_aload_n hx hb dX5_trim_96 rfl (lv_at hl 2 rfl) ?_
          refine w_cVV (As := []) (rest := []) hB hw hl.1 (c_X5_joins l D ad ln cI cZ (setA (setA (setA σ9 1 r2.toNatClampNeg (((σ9.2 1) r2.toNatClampNeg) - (((σ5.2 1) r2.toNatClampNeg) - r10))) 1 (r2 + ((upd (σ9.2 1) r2.toNatClampNeg (((σ9.2 1) r2.toNatClampNeg) - (((σ5.2 1) r2.toNatClampNeg) - r10))) r2.toNatClampNeg)).toNatClampNeg (((σ5.2 1) r2.toNatClampNeg) - r10)) 2 (r2 + ((upd (upd (σ9.2 1) r2.toNatClampNeg (((σ9.2 1) r2.toNatClampNeg) - (((σ5.2 1) r2.toNatClampNeg) - r10))) (r2 + ((upd (σ9.2 1) r2.toNatClampNeg (((σ9.2 1) r2.toNatClampNeg) - (((σ5.2 1) r2.toNatClampNeg) - r10))) r2.toNatClampNeg)).toNatClampNeg (((σ5.2 1) r2.toNatClampNeg) - r10)) r2.toNatClampNeg)).toNatClampNeg (vp_nar .boolean 0)) _ hq) m404 m266 m480 m188 m101 rfl ok_X5_joins (okR_K (by decide) (by decide)) (q0 := 0) (ci := 5) rfl rfl rfl rfl (Nat.le_of_ble_eq_true rfl) dX5_trim_97 (fun σ14 H locs hq hw => ?_)
          refine lv_aload_n hx hb dX5_trim_100 rfl (lv_at hl 2 rfl) ?_
          refine lv_iconst (v := 0) hx hb dX5_trim_101 (by decide) ?_
          refine pM_0_6 hB hw m173 rfl rfl dX5_trim_102 (fun H locs hw => ?_)
          refine lv_iconst (v := 1) hx hb dX5_trim_105 (by decide) ?_
          exact w_zret hB hw rfl hq dX5_trim_106
      · replace hq := hq.2 c8
        refine lv_iconst (v := 0) hx hb dX5_trim_35 (by decide) ?_
        exact w_zret hB hw rfl hq dX5_trim_36
theorem ok_X5_trim : okY yX5_trim 2 := ⟨by decide, by decide, by decide +kernel⟩
/-! X5_pin -/
def wp_X5_pin (ln : Nat → Nat) (σ : CS) (p1 p2 : Int32) (post : Int32 → CS → Prop) : Prop :=
  wp_X5_find ln (setF σ 0 0) p1 (fun r2 σ1 => ((¬ r2 = (-1) → (vp_in r2 (ln 3) ∧ post 1 (setF (setA σ1 3 r2.toNatClampNeg (vp_nar .boolean p2)) 2 0))) ∧ (r2 = (-1) → post 0 σ1)))
set_option maxHeartbeats 4000000 in
set_option maxRecDepth 100000 in
theorem c_X5_pin (l : Launch) (D : va_G) (ad ln : Nat → Nat) (cI cZ : ClassId) (σ : CS) (p1 p2 : Int32) (post : Int32 → CS → Prop) (hq : wp_X5_pin ln σ p1 p2 post) : MtI l D (tyM cI cZ) (cellsM ad ln cI cZ) yX5_pin cX5_pin 4 (some .boolean) (rmK 1) [.ref (ad 0), .int p1, .int p2] σ post := by
  refine MtI_of (by decide) (Nat.le_of_ble_eq_true rfl) ?_
  intro p e s m below meth c A ls hB hw hl
  replace hB : MB p s m _ meth c cX5_pin 4 (some .boolean) RX5 := hB
  replace hl : lv_has ls 4 [(0, .ref (ad 0)), (1, .int p1), (2, .int p2)] := hl
  obtain ⟨hx, hb, hr, hml, hown, hts, hlk⟩ := id hB
  unfold wp_X5_pin at hq
  refine lv_aload_n hx hb dX5_pin_0 rfl (lv_at hl 0 rfl) ?_
  refine lv_iconst (v := 0) hx hb dX5_pin_1 (by decide) ?_
  refine pM_0_0 hB hw m171 dX5_pin_2 (fun H locs hw => ?_)
  refine lv_aload_n hx hb dX5_pin_5 rfl (lv_at hl 0 rfl) ?_
  refine lv_iload_n hx hb dX5_pin_6 rfl (lv_at hl 1 rfl) ?_
  refine w_cVI (As := [.int p1]) (rest := []) hB hw hl.1 (c_X5_find l D ad ln cI cZ (setF σ 0 0) p1 _ hq) m403 m253 m468 m188 m88 rfl ok_X5_find (okR_K (by decide) (by decide)) (q0 := 0) (ci := 5) rfl rfl rfl rfl (Nat.le_of_ble_eq_true rfl) dX5_pin_7 (fun r2 σ1 H locs hq hw => ?_)
  refine lv_istore_n (lv' := [(3, .int r2), (0, .ref (ad 0)), (1, .int p1), (2, .int p2)]) hx hb dX5_pin_10 rfl hl (by decide) rfl (fun ls hl => ?_)
  refine lv_iload_n hx hb dX5_pin_11 rfl (lv_at hl 0 rfl) ?_
  refine lv_iconst (v := (-1)) hx hb dX5_pin_12 (by decide) ?_
  refine lv_icmp_ne (tgt := 18) hx hb dX5_pin_13 (by decide) (fun c3 => ?_) (fun c3 => ?_)
  · replace hq := hq.1 c3
    refine lv_aload_n hx hb dX5_pin_18 rfl (lv_at hl 1 rfl) ?_
    refine gM_0_4 hB hw m161 dX5_pin_19 ?_
    refine lv_iload_n hx hb dX5_pin_22 rfl (lv_at hl 0 rfl) ?_
    refine lv_iload_n hx hb dX5_pin_23 rfl (lv_at hl 3 rfl) ?_
    obtain ⟨h4, hq⟩ := hq
    refine sM_3 hB hw h4 dX5_pin_24 (fun H locs hw => ?_)
    refine lv_aload_n hx hb dX5_pin_25 rfl (lv_at hl 1 rfl) ?_
    refine lv_iconst (v := 0) hx hb dX5_pin_26 (by decide) ?_
    refine pM_0_6 hB hw m173 rfl rfl dX5_pin_27 (fun H locs hw => ?_)
    refine lv_iconst (v := 1) hx hb dX5_pin_30 (by decide) ?_
    exact w_zret hB hw rfl hq dX5_pin_31
  · replace hq := hq.2 c3
    refine lv_iconst (v := 0) hx hb dX5_pin_16 (by decide) ?_
    exact w_zret hB hw rfl hq dX5_pin_17
theorem ok_X5_pin : okY yX5_pin 2 := ⟨by decide, by decide, by decide +kernel⟩
/-! X5_get -/
def jp_X5_get_42 (ln : Nat → Nat) (post : Int32 → CS → Prop)  (σ : CS) (x1 x2 : Int32) : Prop :=
  ((¬ (σ.1 0) = 0 → post 0 σ) ∧ ((σ.1 0) = 0 → (vp_in (x1 + x2) (ln 4) ∧ post ((σ.2 4) (x1 + x2).toNatClampNeg) σ)))
def wp_X5_get (ln : Nat → Nat) (σ : CS) (p1 p2 : Int32) (post : Int32 → CS → Prop) : Prop :=
  wp_X5_find ln σ p1 (fun r2 σ1 => ((¬ r2 = (-1) → ((p2 < 0 → jp_X5_get_42 ln post  (setF σ1 0 2) p1 p2) ∧ (¬ p2 < 0 → (vp_in r2 (ln 1) ∧ ((p2 < ((4 * ((σ1.2 1) r2.toNatClampNeg)) - 1) → jp_X5_get_42 ln post  (setF σ1 0 0) p1 p2) ∧ (¬ p2 < ((4 * ((σ1.2 1) r2.toNatClampNeg)) - 1) → jp_X5_get_42 ln post  (setF σ1 0 2) p1 p2)))))) ∧ (r2 = (-1) → jp_X5_get_42 ln post  (setF σ1 0 1) p1 p2)))
set_option maxHeartbeats 4000000 in
set_option maxRecDepth 100000 in
theorem wj_X5_get_42 {p : Program} {l : Launch} {e : Env} {s : State} {m : MethodId} {args : Array Value} {below : List Frame} {meth : Method} {c : Code} {D : va_G} {ad ln : Nat → Nat} {cI cZ : ClassId} {A : Nat → Prop} {post : Int32 → CS → Prop}  (hB : MB p s m args meth c cX5_get 4 (some .int) RX5) (σ : CS) (x1 x2 : Int32) (H : Heap) (locs : List Loc) (ls : Array Slot)  (hq : jp_X5_get_42 ln post  σ x1 x2) (hw : WD D (tyM cI cZ) (cellsM ad ln cI cZ σ) A s H locs) (hl : lv_has ls 4 [(0, .ref (ad 0)), (1, .int x1), (2, .int x2)]) : W p l e (rmK 1) s m args below meth c H locs 0 0 (MQ below (va_Qi post (Pos0 D (tyM cI cZ) (cellsM ad ln cI cZ) A) A) args s 0 0 A) (F0 m 42 ls []) := by
  obtain ⟨hx, hb, hr, hml, hown, hts, hlk⟩ := id hB
  unfold jp_X5_get_42 at hq
  refine lv_aload_n hx hb dX5_get_42 rfl (lv_at hl 0 rfl) ?_
  refine gM_0_0 (x := σ.1 0) hB hw m171 rfl dX5_get_43 ?_
  refine lv_if_ne (tgt := 60) hx hb dX5_get_46 (by decide) (fun c5 => ?_) (fun c5 => ?_)
  · replace hq := hq.1 c5
    refine lv_iconst (v := 0) hx hb dX5_get_60 (by decide) ?_
    exact w_iret hB hw hq dX5_get_61
  · replace hq := hq.2 c5
    refine lv_aload_n hx hb dX5_get_49 rfl (lv_at hl 0 rfl) ?_
    refine gM_0_5 hB hw m162 dX5_get_50 ?_
    refine lv_iload_n hx hb dX5_get_53 rfl (lv_at hl 1 rfl) ?_
    refine lv_iload_n hx hb dX5_get_54 rfl (lv_at hl 2 rfl) ?_
    refine lv_iadd hx hb dX5_get_55 ?_
    obtain ⟨h6, hq⟩ := hq
    refine aM_4 (f := (σ.2 4)) hB hw rfl h6 dX5_get_56 ?_
    refine lv_goto (tgt := 61) hx hb dX5_get_57 (by decide) ?_
    exact w_iret hB hw hq dX5_get_61
set_option maxHeartbeats 4000000 in
set_option maxRecDepth 100000 in
theorem c_X5_get (l : Launch) (D : va_G) (ad ln : Nat → Nat) (cI cZ : ClassId) (σ : CS) (p1 p2 : Int32) (post : Int32 → CS → Prop) (hq : wp_X5_get ln σ p1 p2 post) : MtI l D (tyM cI cZ) (cellsM ad ln cI cZ) yX5_get cX5_get 4 (some .int) (rmK 1) [.ref (ad 0), .int p1, .int p2] σ post := by
  refine MtI_of (by decide) (Nat.le_of_ble_eq_true rfl) ?_
  intro p e s m below meth c A ls hB hw hl
  replace hB : MB p s m _ meth c cX5_get 4 (some .int) RX5 := hB
  replace hl : lv_has ls 4 [(0, .ref (ad 0)), (1, .int p1), (2, .int p2)] := hl
  obtain ⟨hx, hb, hr, hml, hown, hts, hlk⟩ := id hB
  unfold wp_X5_get at hq
  refine lv_aload_n hx hb dX5_get_0 rfl (lv_at hl 0 rfl) ?_
  refine lv_iload_n hx hb dX5_get_1 rfl (lv_at hl 1 rfl) ?_
  refine w_cVI (As := [.int p1]) (rest := []) hB hw hl.1 (c_X5_find l D ad ln cI cZ σ p1 _ hq) m403 m253 m468 m188 m88 rfl ok_X5_find (okR_K (by decide) (by decide)) (q0 := 0) (ci := 5) rfl rfl rfl rfl (Nat.le_of_ble_eq_true rfl) dX5_get_2 (fun r2 σ1 H locs hq hw => ?_)
  refine lv_istore_n (lv' := [(3, .int r2), (0, .ref (ad 0)), (1, .int p1), (2, .int p2)]) hx hb dX5_get_5 rfl hl (by decide) rfl (fun ls hl => ?_)
  refine lv_aload_n hx hb dX5_get_6 rfl (lv_at hl 1 rfl) ?_
  refine lv_iload_n hx hb dX5_get_7 rfl (lv_at hl 0 rfl) ?_
  refine lv_iconst (v := (-1)) hx hb dX5_get_8 (by decide) ?_
  refine lv_icmp_ne (tgt := 16) hx hb dX5_get_9 (by decide) (fun c3 => ?_) (fun c3 => ?_)
  · replace hq := hq.1 c3
    refine lv_iload_n hx hb dX5_get_16 rfl (lv_at hl 3 rfl) ?_
    refine lv_if_lt (tgt := 34) hx hb dX5_get_17 (by decide) (fun c4 => ?_) (fun c4 => ?_)
    · replace hq := hq.1 c4
      refine lv_iconst (v := 2) hx hb dX5_get_34 (by decide) ?_
      refine lv_goto (tgt := 39) hx hb dX5_get_35 (by decide) ?_
      refine pM_0_0 hB hw m171 dX5_get_39 (fun H locs hw => ?_)
      exact wj_X5_get_42 hB (setF σ1 0 2) p1 p2 _ _ _  hq hw (lv_sub hl [1, 2, 3] rfl)
    · replace hq := hq.2 c4
      refine lv_iload_n hx hb dX5_get_20 rfl (lv_at hl 3 rfl) ?_
      refine lv_iconst (v := 4) hx hb dX5_get_21 (by decide) ?_
      refine lv_aload_n hx hb dX5_get_22 rfl (lv_at hl 1 rfl) ?_
      refine gM_0_2 hB hw m172 dX5_get_23 ?_
      refine lv_iload_n hx hb dX5_get_26 rfl (lv_at hl 0 rfl) ?_
      obtain ⟨h7, hq⟩ := hq
      refine aM_1 (f := (σ1.2 1)) hB hw rfl h7 dX5_get_27 ?_
      refine lv_imul hx hb dX5_get_28 ?_
      refine lv_iconst (v := 1) hx hb dX5_get_29 (by decide) ?_
      refine lv_isub hx hb dX5_get_30 ?_
      refine lv_icmp_lt (tgt := 38) hx hb dX5_get_31 (by decide) (fun c8 => ?_) (fun c8 => ?_)
      · replace hq := hq.1 c8
        refine lv_iconst (v := 0) hx hb dX5_get_38 (by decide) ?_
        refine pM_0_0 hB hw m171 dX5_get_39 (fun H locs hw => ?_)
        exact wj_X5_get_42 hB (setF σ1 0 0) p1 p2 _ _ _  hq hw (lv_sub hl [1, 2, 3] rfl)
      · replace hq := hq.2 c8
        refine lv_iconst (v := 2) hx hb dX5_get_34 (by decide) ?_
        refine lv_goto (tgt := 39) hx hb dX5_get_35 (by decide) ?_
        refine pM_0_0 hB hw m171 dX5_get_39 (fun H locs hw => ?_)
        exact wj_X5_get_42 hB (setF σ1 0 2) p1 p2 _ _ _  hq hw (lv_sub hl [1, 2, 3] rfl)
  · replace hq := hq.2 c3
    refine lv_iconst (v := 1) hx hb dX5_get_12 (by decide) ?_
    refine lv_goto (tgt := 39) hx hb dX5_get_13 (by decide) ?_
    refine pM_0_0 hB hw m171 dX5_get_39 (fun H locs hw => ?_)
    exact wj_X5_get_42 hB (setF σ1 0 1) p1 p2 _ _ _  hq hw (lv_sub hl [1, 2, 3] rfl)
theorem ok_X5_get : okY yX5_get 2 := ⟨by decide, by decide, by decide +kernel⟩
/-! X5_set -/
def wp_X5_set (ln : Nat → Nat) (σ : CS) (p1 p2 p3 : Int32) (post : Int32 → CS → Prop) : Prop :=
  wp_X5_get ln σ p1 p2 (fun r2 σ1 => ((¬ (σ1.1 0) = 0 → post r2 σ1) ∧ ((σ1.1 0) = 0 → (vp_in (p1 + p2) (ln 4) ∧ post r2 (setA σ1 4 (p1 + p2).toNatClampNeg p3)))))
set_option maxHeartbeats 4000000 in
set_option maxRecDepth 100000 in
theorem c_X5_set (l : Launch) (D : va_G) (ad ln : Nat → Nat) (cI cZ : ClassId) (σ : CS) (p1 p2 p3 : Int32) (post : Int32 → CS → Prop) (hq : wp_X5_set ln σ p1 p2 p3 post) : MtI l D (tyM cI cZ) (cellsM ad ln cI cZ) yX5_set cX5_set 5 (some .int) (rmK 2) [.ref (ad 0), .int p1, .int p2, .int p3] σ post := by
  refine MtI_of (by decide) (Nat.le_of_ble_eq_true rfl) ?_
  intro p e s m below meth c A ls hB hw hl
  replace hB : MB p s m _ meth c cX5_set 5 (some .int) RX5 := hB
  replace hl : lv_has ls 5 [(0, .ref (ad 0)), (1, .int p1), (2, .int p2), (3, .int p3)] := hl
  obtain ⟨hx, hb, hr, hml, hown, hts, hlk⟩ := id hB
  unfold wp_X5_set at hq
  refine lv_aload_n hx hb dX5_set_0 rfl (lv_at hl 0 rfl) ?_
  refine lv_iload_n hx hb dX5_set_1 rfl (lv_at hl 1 rfl) ?_
  refine lv_iload_n hx hb dX5_set_2 rfl (lv_at hl 2 rfl) ?_
  refine w_cVI (As := [.int p1, .int p2]) (rest := []) hB hw hl.1 (c_X5_get l D ad ln cI cZ σ p1 p2 _ hq) m405 m257 m472 m188 m92 rfl ok_X5_get (okR_K (by decide) (by decide)) (q0 := 0) (ci := 5) rfl rfl rfl rfl (Nat.le_of_ble_eq_true rfl) dX5_set_3 (fun r2 σ1 H locs hq hw => ?_)
  refine lv_istore (lv' := [(4, .int r2), (0, .ref (ad 0)), (1, .int p1), (2, .int p2), (3, .int p3)]) hx hb dX5_set_6 hl (by decide) rfl (fun ls hl => ?_)
  refine lv_aload_n hx hb dX5_set_8 rfl (lv_at hl 1 rfl) ?_
  refine gM_0_0 (x := σ1.1 0) hB hw m171 rfl dX5_set_9 ?_
  refine lv_if_ne (tgt := 24) hx hb dX5_set_12 (by decide) (fun c3 => ?_) (fun c3 => ?_)
  · replace hq := hq.1 c3
    refine lv_iload hx hb dX5_set_24 (lv_at hl 0 rfl) ?_
    exact w_iret hB hw hq dX5_set_26
  · replace hq := hq.2 c3
    refine lv_aload_n hx hb dX5_set_15 rfl (lv_at hl 1 rfl) ?_
    refine gM_0_5 hB hw m162 dX5_set_16 ?_
    refine lv_iload_n hx hb dX5_set_19 rfl (lv_at hl 2 rfl) ?_
    refine lv_iload_n hx hb dX5_set_20 rfl (lv_at hl 3 rfl) ?_
    refine lv_iadd hx hb dX5_set_21 ?_
    refine lv_iload_n hx hb dX5_set_22 rfl (lv_at hl 4 rfl) ?_
    obtain ⟨h4, hq⟩ := hq
    refine sM_4 hB hw h4 dX5_set_23 (fun H locs hw => ?_)
    refine lv_iload hx hb dX5_set_24 (lv_at hl 0 rfl) ?_
    exact w_iret hB hw hq dX5_set_26
theorem ok_X5_set : okY yX5_set 3 := ⟨by decide, by decide, by decide +kernel⟩
/-! X5_sizeOf -/
def wp_X5_sizeOf (ln : Nat → Nat) (σ : CS) (p1 : Int32) (post : Int32 → CS → Prop) : Prop :=
  wp_X5_find ln (setF σ 0 0) p1 (fun r2 σ1 => ((¬ r2 = (-1) → (vp_in r2 (ln 1) ∧ post ((4 * ((σ1.2 1) r2.toNatClampNeg)) - 1) σ1)) ∧ (r2 = (-1) → post (-1) σ1)))
set_option maxHeartbeats 4000000 in
set_option maxRecDepth 100000 in
theorem c_X5_sizeOf (l : Launch) (D : va_G) (ad ln : Nat → Nat) (cI cZ : ClassId) (σ : CS) (p1 : Int32) (post : Int32 → CS → Prop) (hq : wp_X5_sizeOf ln σ p1 post) : MtI l D (tyM cI cZ) (cellsM ad ln cI cZ) yX5_sizeOf cX5_sizeOf 3 (some .int) (rmK 1) [.ref (ad 0), .int p1] σ post := by
  refine MtI_of (by decide) (Nat.le_of_ble_eq_true rfl) ?_
  intro p e s m below meth c A ls hB hw hl
  replace hB : MB p s m _ meth c cX5_sizeOf 3 (some .int) RX5 := hB
  replace hl : lv_has ls 3 [(0, .ref (ad 0)), (1, .int p1)] := hl
  obtain ⟨hx, hb, hr, hml, hown, hts, hlk⟩ := id hB
  unfold wp_X5_sizeOf at hq
  refine lv_aload_n hx hb dX5_sizeOf_0 rfl (lv_at hl 0 rfl) ?_
  refine lv_iconst (v := 0) hx hb dX5_sizeOf_1 (by decide) ?_
  refine pM_0_0 hB hw m171 dX5_sizeOf_2 (fun H locs hw => ?_)
  refine lv_aload_n hx hb dX5_sizeOf_5 rfl (lv_at hl 0 rfl) ?_
  refine lv_iload_n hx hb dX5_sizeOf_6 rfl (lv_at hl 1 rfl) ?_
  refine w_cVI (As := [.int p1]) (rest := []) hB hw hl.1 (c_X5_find l D ad ln cI cZ (setF σ 0 0) p1 _ hq) m403 m253 m468 m188 m88 rfl ok_X5_find (okR_K (by decide) (by decide)) (q0 := 0) (ci := 5) rfl rfl rfl rfl (Nat.le_of_ble_eq_true rfl) dX5_sizeOf_7 (fun r2 σ1 H locs hq hw => ?_)
  refine lv_istore_n (lv' := [(2, .int r2), (0, .ref (ad 0)), (1, .int p1)]) hx hb dX5_sizeOf_10 rfl hl (by decide) rfl (fun ls hl => ?_)
  refine lv_iload_n hx hb dX5_sizeOf_11 rfl (lv_at hl 0 rfl) ?_
  refine lv_iconst (v := (-1)) hx hb dX5_sizeOf_12 (by decide) ?_
  refine lv_icmp_ne (tgt := 20) hx hb dX5_sizeOf_13 (by decide) (fun c3 => ?_) (fun c3 => ?_)
  · replace hq := hq.1 c3
    refine lv_iconst (v := 4) hx hb dX5_sizeOf_20 (by decide) ?_
    refine lv_aload_n hx hb dX5_sizeOf_21 rfl (lv_at hl 1 rfl) ?_
    refine gM_0_2 hB hw m172 dX5_sizeOf_22 ?_
    refine lv_iload_n hx hb dX5_sizeOf_25 rfl (lv_at hl 0 rfl) ?_
    obtain ⟨h4, hq⟩ := hq
    refine aM_1 (f := (σ1.2 1)) hB hw rfl h4 dX5_sizeOf_26 ?_
    refine lv_imul hx hb dX5_sizeOf_27 ?_
    refine lv_iconst (v := 1) hx hb dX5_sizeOf_28 (by decide) ?_
    refine lv_isub hx hb dX5_sizeOf_29 ?_
    exact w_iret hB hw hq dX5_sizeOf_30
  · replace hq := hq.2 c3
    refine lv_iconst (v := (-1)) hx hb dX5_sizeOf_16 (by decide) ?_
    refine lv_goto (tgt := 30) hx hb dX5_sizeOf_17 (by decide) ?_
    exact w_iret hB hw hq dX5_sizeOf_30
theorem ok_X5_sizeOf : okY yX5_sizeOf 1 := ⟨by decide, by decide, by decide +kernel⟩
/-! X5_top -/
def lb_X5_top_5 (ln : Nat → Nat) (post : Int32 → CS → Prop)  (Kx : CS → Int32 → Prop) (x2 : Int32) (Kb : CS → Int32 → Int32 → Prop) (σ : CS) (x3 x4 : Int32) : Prop :=
  ((x2 ≤ x4 → Kx σ x3) ∧ (¬ x2 ≤ x4 → wp_X5_isFree ln σ x4 (fun r3 σ2 => ((r3 = 0 → Kb σ2 x3 (x4 + 1)) ∧ (¬ r3 = 0 → ((x3 = (-1) → Kb σ2 x4 (x4 + 1)) ∧ (¬ x3 = (-1) → (vp_in x4 (ln 1) ∧ (vp_in x3 (ln 1) ∧ ((((σ2.2 1) x4.toNatClampNeg) ≤ ((σ2.2 1) x3.toNatClampNeg) → Kb σ2 x3 (x4 + 1)) ∧ (¬ ((σ2.2 1) x4.toNatClampNeg) ≤ ((σ2.2 1) x3.toNatClampNeg) → Kb σ2 x4 (x4 + 1))))))))))))
def lp_X5_top_5 (ln : Nat → Nat) (post : Int32 → CS → Prop)  (Kx : CS → Int32 → Prop) (x2 : Int32) : Nat → CS → Int32 → Int32 → Prop
  | 0 => fun _ _ _ => False
  | n + 1 => lb_X5_top_5 ln post  Kx x2 (lp_X5_top_5 ln post  Kx x2 n)
def wp_X5_top (ln : Nat → Nat) (σ : CS) (p1 p2 : Int32) (post : Int32 → CS → Prop) : Prop :=
  (∃ n9 : Nat, lp_X5_top_5 ln post  (fun σ10 x3_11 => post x3_11 σ10) p2 n9 σ (-1) p1)
set_option maxHeartbeats 4000000 in
set_option maxRecDepth 100000 in
theorem wl_X5_top_5 {p : Program} {l : Launch} {e : Env} {s : State} {m : MethodId} {args : Array Value} {below : List Frame} {meth : Method} {c : Code} {D : va_G} {ad ln : Nat → Nat} {cI cZ : ClassId} {A : Nat → Prop} {post : Int32 → CS → Prop}  {Kx : CS → Int32 → Prop} {x2 : Int32} (hB : MB p s m args meth c cX5_top 5 (some .int) RX5)  (hKx : ∀ (σ : CS) (x3 : Int32) (H : Heap) (locs : List Loc) (ls : Array Slot), Kx σ x3 → WD D (tyM cI cZ) (cellsM ad ln cI cZ σ) A s H locs → lv_has ls 5 [(3, .int x3)] → W p l e (rmK 1) s m args below meth c H locs 0 0 (MQ below (va_Qi post (Pos0 D (tyM cI cZ) (cellsM ad ln cI cZ) A) A) args s 0 0 A) (F0 m 50 ls [])) :
    ∀ (n : Nat) (σ : CS) (x3 x4 : Int32) (H : Heap) (locs : List Loc) (ls : Array Slot), lp_X5_top_5 ln post  Kx x2 n σ x3 x4 → WD D (tyM cI cZ) (cellsM ad ln cI cZ σ) A s H locs → lv_has ls 5 [(0, .ref (ad 0)), (2, .int x2), (3, .int x3), (4, .int x4)] → W p l e (rmK 1) s m args below meth c H locs 0 0 (MQ below (va_Qi post (Pos0 D (tyM cI cZ) (cellsM ad ln cI cZ) A) A) args s 0 0 A) (F0 m 5 ls []) := by
  obtain ⟨hx, hb, hr, hml, hown, hts, hlk⟩ := id hB
  intro n
  induction n with
  | zero => intro σ x3 x4 H locs ls hq hw hl; exact hq.elim
  | succ n ih =>
    intro σ x3 x4 H locs ls hq hw hl
    replace hq : lb_X5_top_5 ln post  Kx x2 (lp_X5_top_5 ln post  Kx x2 n) σ x3 x4 := hq
    refine lv_iload hx hb dX5_top_5 (lv_at hl 3 rfl) ?_
    refine lv_iload_n hx hb dX5_top_7 rfl (lv_at hl 1 rfl) ?_
    refine lv_icmp_ge (tgt := 50) hx hb dX5_top_8 (by decide) (fun c1 => ?_) (fun c1 => ?_)
    · replace hq := hq.1 c1
      exact hKx σ x3 _ _ _ hq hw (lv_sub hl [2] rfl)
    · replace hq := hq.2 c1
      refine lv_aload_n hx hb dX5_top_11 rfl (lv_at hl 0 rfl) ?_
      refine lv_iload hx hb dX5_top_12 (lv_at hl 3 rfl) ?_
      refine w_cVI (As := [.int x4]) (rest := []) hB hw hl.1 (c_X5_isFree l D ad ln cI cZ σ x4 _ hq) m398 m265 m479 m188 m100 rfl ok_X5_isFree (okR_K (by decide) (by decide)) (q0 := 0) (ci := 5) rfl rfl rfl rfl (Nat.le_of_ble_eq_true rfl) dX5_top_14 (fun r3 σ2 H locs hq hw => ?_)
      refine lv_if_eq (tgt := 44) hx hb dX5_top_17 (by decide) (fun c4 => ?_) (fun c4 => ?_)
      · replace hq := hq.1 c4
        refine lv_iinc (v := x4 + 1) (lv' := [(4, .int (x4 + 1)), (0, .ref (ad 0)), (2, .int x2), (3, .int x3)]) hx hb dX5_top_44 hl (k := 3) rfl rfl (by decide) rfl (fun ls hl => ?_)
        refine lv_goto (tgt := 5) hx hb dX5_top_47 (by decide) ?_
        exact ih σ2 x3 (x4 + 1) _ _ _ hq hw (lv_sub hl [1, 2, 3, 0] rfl)
      · replace hq := hq.2 c4
        refine lv_iload_n hx hb dX5_top_20 rfl (lv_at hl 2 rfl) ?_
        refine lv_iconst (v := (-1)) hx hb dX5_top_21 (by decide) ?_
        refine lv_icmp_eq (tgt := 41) hx hb dX5_top_22 (by decide) (fun c5 => ?_) (fun c5 => ?_)
        · replace hq := hq.1 c5
          refine lv_iload hx hb dX5_top_41 (lv_at hl 3 rfl) ?_
          refine lv_istore_n (lv' := [(3, .int x4), (0, .ref (ad 0)), (2, .int x2), (4, .int x4)]) hx hb dX5_top_43 rfl hl (by decide) rfl (fun ls hl => ?_)
          refine lv_iinc (v := x4 + 1) (lv' := [(4, .int (x4 + 1)), (3, .int x4), (0, .ref (ad 0)), (2, .int x2)]) hx hb dX5_top_44 hl (k := 3) rfl rfl (by decide) rfl (fun ls hl => ?_)
          refine lv_goto (tgt := 5) hx hb dX5_top_47 (by decide) ?_
          exact ih σ2 x4 (x4 + 1) _ _ _ hq hw (lv_sub hl [2, 3, 1, 0] rfl)
        · replace hq := hq.2 c5
          refine lv_aload_n hx hb dX5_top_25 rfl (lv_at hl 0 rfl) ?_
          refine gM_0_2 hB hw m172 dX5_top_26 ?_
          refine lv_iload hx hb dX5_top_29 (lv_at hl 3 rfl) ?_
          obtain ⟨h6, hq⟩ := hq
          refine aM_1 (f := (σ2.2 1)) hB hw rfl h6 dX5_top_31 ?_
          refine lv_aload_n hx hb dX5_top_32 rfl (lv_at hl 0 rfl) ?_
          refine gM_0_2 hB hw m172 dX5_top_33 ?_
          refine lv_iload_n hx hb dX5_top_36 rfl (lv_at hl 2 rfl) ?_
          obtain ⟨h7, hq⟩ := hq
          refine aM_1 (f := (σ2.2 1)) hB hw rfl h7 dX5_top_37 ?_
          refine lv_icmp_le (tgt := 44) hx hb dX5_top_38 (by decide) (fun c8 => ?_) (fun c8 => ?_)
          · replace hq := hq.1 c8
            refine lv_iinc (v := x4 + 1) (lv' := [(4, .int (x4 + 1)), (0, .ref (ad 0)), (2, .int x2), (3, .int x3)]) hx hb dX5_top_44 hl (k := 3) rfl rfl (by decide) rfl (fun ls hl => ?_)
            refine lv_goto (tgt := 5) hx hb dX5_top_47 (by decide) ?_
            exact ih σ2 x3 (x4 + 1) _ _ _ hq hw (lv_sub hl [1, 2, 3, 0] rfl)
          · replace hq := hq.2 c8
            refine lv_iload hx hb dX5_top_41 (lv_at hl 3 rfl) ?_
            refine lv_istore_n (lv' := [(3, .int x4), (0, .ref (ad 0)), (2, .int x2), (4, .int x4)]) hx hb dX5_top_43 rfl hl (by decide) rfl (fun ls hl => ?_)
            refine lv_iinc (v := x4 + 1) (lv' := [(4, .int (x4 + 1)), (3, .int x4), (0, .ref (ad 0)), (2, .int x2)]) hx hb dX5_top_44 hl (k := 3) rfl rfl (by decide) rfl (fun ls hl => ?_)
            refine lv_goto (tgt := 5) hx hb dX5_top_47 (by decide) ?_
            exact ih σ2 x4 (x4 + 1) _ _ _ hq hw (lv_sub hl [2, 3, 1, 0] rfl)
set_option maxHeartbeats 4000000 in
set_option maxRecDepth 100000 in
theorem c_X5_top (l : Launch) (D : va_G) (ad ln : Nat → Nat) (cI cZ : ClassId) (σ : CS) (p1 p2 : Int32) (post : Int32 → CS → Prop) (hq : wp_X5_top ln σ p1 p2 post) : MtI l D (tyM cI cZ) (cellsM ad ln cI cZ) yX5_top cX5_top 5 (some .int) (rmK 1) [.ref (ad 0), .int p1, .int p2] σ post := by
  refine MtI_of (by decide) (Nat.le_of_ble_eq_true rfl) ?_
  intro p e s m below meth c A ls hB hw hl
  replace hB : MB p s m _ meth c cX5_top 5 (some .int) RX5 := hB
  replace hl : lv_has ls 5 [(0, .ref (ad 0)), (1, .int p1), (2, .int p2)] := hl
  obtain ⟨hx, hb, hr, hml, hown, hts, hlk⟩ := id hB
  unfold wp_X5_top at hq
  refine lv_iconst (v := (-1)) hx hb dX5_top_0 (by decide) ?_
  refine lv_istore_n (lv' := [(3, .int (-1)), (0, .ref (ad 0)), (1, .int p1), (2, .int p2)]) hx hb dX5_top_1 rfl hl (by decide) rfl (fun ls hl => ?_)
  refine lv_iload_n hx hb dX5_top_2 rfl (lv_at hl 2 rfl) ?_
  refine lv_istore (lv' := [(4, .int p1), (3, .int (-1)), (0, .ref (ad 0)), (1, .int p1), (2, .int p2)]) hx hb dX5_top_3 hl (by decide) rfl (fun ls hl => ?_)
  obtain ⟨n9, hq⟩ := hq
  refine wl_X5_top_5 hB  (fun σ10 x3_11 H locs ls hq hw hl => ?_) n9 σ (-1) p1 _ _ _ hq hw (lv_sub hl [2, 4, 1, 0] rfl)
  refine lv_iload_n hx hb dX5_top_50 rfl (lv_at hl 0 rfl) ?_
  exact w_iret hB hw hq dX5_top_51
theorem ok_X5_top : okY yX5_top 2 := ⟨by decide, by decide, by decide +kernel⟩
/-! X5_largest -/
def wp_X5_largest (ln : Nat → Nat) (σ : CS) (post : Int32 → CS → Prop) : Prop :=
  wp_X5_top ln (setF σ 0 0) 0 (σ.1 1) (fun r2 σ1 => ((¬ r2 = (-1) → (vp_in r2 (ln 1) ∧ post (4 * ((σ1.2 1) r2.toNatClampNeg)) σ1)) ∧ (r2 = (-1) → post 0 σ1)))
set_option maxHeartbeats 4000000 in
set_option maxRecDepth 100000 in
theorem c_X5_largest (l : Launch) (D : va_G) (ad ln : Nat → Nat) (cI cZ : ClassId) (σ : CS) (post : Int32 → CS → Prop) (hq : wp_X5_largest ln σ  post) : MtI l D (tyM cI cZ) (cellsM ad ln cI cZ) yX5_largest cX5_largest 2 (some .int) (rmK 2) [.ref (ad 0)] σ post := by
  refine MtI_of (by decide) (Nat.le_of_ble_eq_true rfl) ?_
  intro p e s m below meth c A ls hB hw hl
  replace hB : MB p s m _ meth c cX5_largest 2 (some .int) RX5 := hB
  replace hl : lv_has ls 2 [(0, .ref (ad 0))] := hl
  obtain ⟨hx, hb, hr, hml, hown, hts, hlk⟩ := id hB
  unfold wp_X5_largest at hq
  refine lv_aload_n hx hb dX5_largest_0 rfl (lv_at hl 0 rfl) ?_
  refine lv_iconst (v := 0) hx hb dX5_largest_1 (by decide) ?_
  refine pM_0_0 hB hw m171 dX5_largest_2 (fun H locs hw => ?_)
  refine lv_aload_n hx hb dX5_largest_5 rfl (lv_at hl 0 rfl) ?_
  refine lv_iconst (v := 0) hx hb dX5_largest_6 (by decide) ?_
  refine lv_aload_n hx hb dX5_largest_7 rfl (lv_at hl 0 rfl) ?_
  refine gM_0_1 (x := σ.1 1) hB hw m170 rfl dX5_largest_8 ?_
  refine w_cVI (As := [.int 0, .int (σ.1 1)]) (rest := []) hB hw hl.1 (c_X5_top l D ad ln cI cZ (setF σ 0 0) 0 (σ.1 1) _ hq) m406 m276 m490 m188 m111 rfl ok_X5_top (okR_K (by decide) (by decide)) (q0 := 0) (ci := 5) rfl rfl rfl rfl (Nat.le_of_ble_eq_true rfl) dX5_largest_11 (fun r2 σ1 H locs hq hw => ?_)
  refine lv_istore_n (lv' := [(1, .int r2), (0, .ref (ad 0))]) hx hb dX5_largest_14 rfl hl (by decide) rfl (fun ls hl => ?_)
  refine lv_iload_n hx hb dX5_largest_15 rfl (lv_at hl 0 rfl) ?_
  refine lv_iconst (v := (-1)) hx hb dX5_largest_16 (by decide) ?_
  refine lv_icmp_ne (tgt := 24) hx hb dX5_largest_17 (by decide) (fun c3 => ?_) (fun c3 => ?_)
  · replace hq := hq.1 c3
    refine lv_iconst (v := 4) hx hb dX5_largest_24 (by decide) ?_
    refine lv_aload_n hx hb dX5_largest_25 rfl (lv_at hl 1 rfl) ?_
    refine gM_0_2 hB hw m172 dX5_largest_26 ?_
    refine lv_iload_n hx hb dX5_largest_29 rfl (lv_at hl 0 rfl) ?_
    obtain ⟨h4, hq⟩ := hq
    refine aM_1 (f := (σ1.2 1)) hB hw rfl h4 dX5_largest_30 ?_
    refine lv_imul hx hb dX5_largest_31 ?_
    exact w_iret hB hw hq dX5_largest_32
  · replace hq := hq.2 c3
    refine lv_iconst (v := 0) hx hb dX5_largest_20 (by decide) ?_
    refine lv_goto (tgt := 32) hx hb dX5_largest_21 (by decide) ?_
    exact w_iret hB hw hq dX5_largest_32
theorem ok_X5_largest : okY yX5_largest 0 := ⟨by decide, by decide, by decide +kernel⟩
/-! X5_depth -/
def lb_X5_depth_4 (ln : Nat → Nat) (post : Int32 → CS → Prop)  (Kx : CS → Int32 → Prop) (x1 : Int32) (Kb : CS → Int32 → Int32 → Prop) (σ : CS) (x2 x3 : Int32) : Prop :=
  (((σ.1 1) ≤ x3 → Kx σ x2) ∧ (¬ (σ.1 1) ≤ x3 → wp_X5_isFree ln σ x3 (fun r3 σ2 => ((r3 = 0 → Kb σ2 (x2 + 0) (x3 + 1)) ∧ (¬ r3 = 0 → ((x1 ≤ x3 → ((x1 ≤ x3 → wp_X5_top ln σ2 x1 (x3 + 1) (fun r8 σ7 => ((¬ r8 = x3 → Kb σ7 (x2 + 0) (x3 + 1)) ∧ (r8 = x3 → Kb σ7 (x2 + 1) (x3 + 1))))) ∧ (¬ x1 ≤ x3 → wp_X5_top ln σ2 x1 (x1 + 1) (fun r11 σ10 => ((¬ r11 = x3 → Kb σ10 (x2 + 0) (x3 + 1)) ∧ (r11 = x3 → Kb σ10 (x2 + 1) (x3 + 1))))))) ∧ (¬ x1 ≤ x3 → ((x1 ≤ x3 → wp_X5_top ln σ2 x3 (x3 + 1) (fun r15 σ14 => ((¬ r15 = x3 → Kb σ14 (x2 + 0) (x3 + 1)) ∧ (r15 = x3 → Kb σ14 (x2 + 1) (x3 + 1))))) ∧ (¬ x1 ≤ x3 → wp_X5_top ln σ2 x3 (x1 + 1) (fun r18 σ17 => ((¬ r18 = x3 → Kb σ17 (x2 + 0) (x3 + 1)) ∧ (r18 = x3 → Kb σ17 (x2 + 1) (x3 + 1)))))))))))))
def lp_X5_depth_4 (ln : Nat → Nat) (post : Int32 → CS → Prop)  (Kx : CS → Int32 → Prop) (x1 : Int32) : Nat → CS → Int32 → Int32 → Prop
  | 0 => fun _ _ _ => False
  | n + 1 => lb_X5_depth_4 ln post  Kx x1 (lp_X5_depth_4 ln post  Kx x1 n)
def wp_X5_depth (ln : Nat → Nat) (σ : CS) (p1 : Int32) (post : Int32 → CS → Prop) : Prop :=
  (∃ n20 : Nat, lp_X5_depth_4 ln post  (fun σ21 x2_22 => post x2_22 σ21) p1 n20 σ 0 0)
set_option maxHeartbeats 4000000 in
set_option maxRecDepth 100000 in
theorem wl_X5_depth_4 {p : Program} {l : Launch} {e : Env} {s : State} {m : MethodId} {args : Array Value} {below : List Frame} {meth : Method} {c : Code} {D : va_G} {ad ln : Nat → Nat} {cI cZ : ClassId} {A : Nat → Prop} {post : Int32 → CS → Prop}  {Kx : CS → Int32 → Prop} {x1 : Int32} (hB : MB p s m args meth c cX5_depth 4 (some .int) RX5)  (hKx : ∀ (σ : CS) (x2 : Int32) (H : Heap) (locs : List Loc) (ls : Array Slot), Kx σ x2 → WD D (tyM cI cZ) (cellsM ad ln cI cZ σ) A s H locs → lv_has ls 4 [(2, .int x2)] → W p l e (rmK 2) s m args below meth c H locs 0 0 (MQ below (va_Qi post (Pos0 D (tyM cI cZ) (cellsM ad ln cI cZ) A) A) args s 0 0 A) (F0 m 64 ls [])) :
    ∀ (n : Nat) (σ : CS) (x2 x3 : Int32) (H : Heap) (locs : List Loc) (ls : Array Slot), lp_X5_depth_4 ln post  Kx x1 n σ x2 x3 → WD D (tyM cI cZ) (cellsM ad ln cI cZ σ) A s H locs → lv_has ls 4 [(0, .ref (ad 0)), (1, .int x1), (2, .int x2), (3, .int x3)] → W p l e (rmK 2) s m args below meth c H locs 0 0 (MQ below (va_Qi post (Pos0 D (tyM cI cZ) (cellsM ad ln cI cZ) A) A) args s 0 0 A) (F0 m 4 ls []) := by
  obtain ⟨hx, hb, hr, hml, hown, hts, hlk⟩ := id hB
  intro n
  induction n with
  | zero => intro σ x2 x3 H locs ls hq hw hl; exact hq.elim
  | succ n ih =>
    intro σ x2 x3 H locs ls hq hw hl
    replace hq : lb_X5_depth_4 ln post  Kx x1 (lp_X5_depth_4 ln post  Kx x1 n) σ x2 x3 := hq
    refine lv_iload_n hx hb dX5_depth_4 rfl (lv_at hl 3 rfl) ?_
    refine lv_aload_n hx hb dX5_depth_5 rfl (lv_at hl 0 rfl) ?_
    refine gM_0_1 (x := σ.1 1) hB hw m170 rfl dX5_depth_6 ?_
    refine lv_icmp_ge (tgt := 64) hx hb dX5_depth_9 (by decide) (fun c1 => ?_) (fun c1 => ?_)
    · replace hq := hq.1 c1
      exact hKx σ x2 _ _ _ hq hw (lv_sub hl [2] rfl)
    · replace hq := hq.2 c1
      refine lv_iload_n hx hb dX5_depth_12 rfl (lv_at hl 2 rfl) ?_
      refine lv_aload_n hx hb dX5_depth_13 rfl (lv_at hl 0 rfl) ?_
      refine lv_iload_n hx hb dX5_depth_14 rfl (lv_at hl 3 rfl) ?_
      refine w_cVI (As := [.int x3]) (rest := [.int x2]) hB hw hl.1 (c_X5_isFree l D ad ln cI cZ σ x3 _ hq) m398 m265 m479 m188 m100 rfl ok_X5_isFree (okR_K (by decide) (by decide)) (q0 := 0) (ci := 5) rfl rfl rfl rfl (Nat.le_of_ble_eq_true rfl) dX5_depth_15 (fun r3 σ2 H locs hq hw => ?_)
      refine lv_if_eq (tgt := 55) hx hb dX5_depth_18 (by decide) (fun c4 => ?_) (fun c4 => ?_)
      · replace hq := hq.1 c4
        refine lv_iconst (v := 0) hx hb dX5_depth_55 (by decide) ?_
        refine lv_iadd hx hb dX5_depth_56 ?_
        refine lv_istore_n (lv' := [(2, .int (x2 + 0)), (0, .ref (ad 0)), (1, .int x1), (3, .int x3)]) hx hb dX5_depth_57 rfl hl (by decide) rfl (fun ls hl => ?_)
        refine lv_iinc (v := x3 + 1) (lv' := [(3, .int (x3 + 1)), (2, .int (x2 + 0)), (0, .ref (ad 0)), (1, .int x1)]) hx hb dX5_depth_58 hl (k := 3) rfl rfl (by decide) rfl (fun ls hl => ?_)
        refine lv_goto (tgt := 4) hx hb dX5_depth_61 (by decide) ?_
        exact ih σ2 (x2 + 0) (x3 + 1) _ _ _ hq hw (lv_sub hl [2, 3, 1, 0] rfl)
      · replace hq := hq.2 c4
        refine lv_aload_n hx hb dX5_depth_21 rfl (lv_at hl 0 rfl) ?_
        refine lv_iload_n hx hb dX5_depth_22 rfl (lv_at hl 3 rfl) ?_
        refine lv_iload_n hx hb dX5_depth_23 rfl (lv_at hl 1 rfl) ?_
        refine lv_icmp_ge (tgt := 31) hx hb dX5_depth_24 (by decide) (fun c5 => ?_) (fun c5 => ?_)
        · replace hq := hq.1 c5
          refine lv_iload_n hx hb dX5_depth_31 rfl (lv_at hl 1 rfl) ?_
          refine lv_iload_n hx hb dX5_depth_32 rfl (lv_at hl 3 rfl) ?_
          refine lv_iload_n hx hb dX5_depth_33 rfl (lv_at hl 1 rfl) ?_
          refine lv_icmp_ge (tgt := 41) hx hb dX5_depth_34 (by decide) (fun c6 => ?_) (fun c6 => ?_)
          · replace hq := hq.1 c6
            refine lv_iload_n hx hb dX5_depth_41 rfl (lv_at hl 3 rfl) ?_
            refine lv_iconst (v := 1) hx hb dX5_depth_42 (by decide) ?_
            refine lv_iadd hx hb dX5_depth_43 ?_
            refine w_cVI (As := [.int x1, .int (x3 + 1)]) (rest := [.int x2]) hB hw hl.1 (c_X5_top l D ad ln cI cZ σ2 x1 (x3 + 1) _ hq) m406 m276 m490 m188 m111 rfl ok_X5_top (okR_K (by decide) (by decide)) (q0 := 0) (ci := 5) rfl rfl rfl rfl (Nat.le_of_ble_eq_true rfl) dX5_depth_44 (fun r8 σ7 H locs hq hw => ?_)
            refine lv_iload_n hx hb dX5_depth_47 rfl (lv_at hl 3 rfl) ?_
            refine lv_icmp_ne (tgt := 55) hx hb dX5_depth_48 (by decide) (fun c9 => ?_) (fun c9 => ?_)
            · replace hq := hq.1 c9
              refine lv_iconst (v := 0) hx hb dX5_depth_55 (by decide) ?_
              refine lv_iadd hx hb dX5_depth_56 ?_
              refine lv_istore_n (lv' := [(2, .int (x2 + 0)), (0, .ref (ad 0)), (1, .int x1), (3, .int x3)]) hx hb dX5_depth_57 rfl hl (by decide) rfl (fun ls hl => ?_)
              refine lv_iinc (v := x3 + 1) (lv' := [(3, .int (x3 + 1)), (2, .int (x2 + 0)), (0, .ref (ad 0)), (1, .int x1)]) hx hb dX5_depth_58 hl (k := 3) rfl rfl (by decide) rfl (fun ls hl => ?_)
              refine lv_goto (tgt := 4) hx hb dX5_depth_61 (by decide) ?_
              exact ih σ7 (x2 + 0) (x3 + 1) _ _ _ hq hw (lv_sub hl [2, 3, 1, 0] rfl)
            · replace hq := hq.2 c9
              refine lv_iconst (v := 1) hx hb dX5_depth_51 (by decide) ?_
              refine lv_goto (tgt := 56) hx hb dX5_depth_52 (by decide) ?_
              refine lv_iadd hx hb dX5_depth_56 ?_
              refine lv_istore_n (lv' := [(2, .int (x2 + 1)), (0, .ref (ad 0)), (1, .int x1), (3, .int x3)]) hx hb dX5_depth_57 rfl hl (by decide) rfl (fun ls hl => ?_)
              refine lv_iinc (v := x3 + 1) (lv' := [(3, .int (x3 + 1)), (2, .int (x2 + 1)), (0, .ref (ad 0)), (1, .int x1)]) hx hb dX5_depth_58 hl (k := 3) rfl rfl (by decide) rfl (fun ls hl => ?_)
              refine lv_goto (tgt := 4) hx hb dX5_depth_61 (by decide) ?_
              exact ih σ7 (x2 + 1) (x3 + 1) _ _ _ hq hw (lv_sub hl [2, 3, 1, 0] rfl)
          · replace hq := hq.2 c6
            refine lv_iload_n hx hb dX5_depth_37 rfl (lv_at hl 1 rfl) ?_
            refine lv_goto (tgt := 42) hx hb dX5_depth_38 (by decide) ?_
            refine lv_iconst (v := 1) hx hb dX5_depth_42 (by decide) ?_
            refine lv_iadd hx hb dX5_depth_43 ?_
            refine w_cVI (As := [.int x1, .int (x1 + 1)]) (rest := [.int x2]) hB hw hl.1 (c_X5_top l D ad ln cI cZ σ2 x1 (x1 + 1) _ hq) m406 m276 m490 m188 m111 rfl ok_X5_top (okR_K (by decide) (by decide)) (q0 := 0) (ci := 5) rfl rfl rfl rfl (Nat.le_of_ble_eq_true rfl) dX5_depth_44 (fun r11 σ10 H locs hq hw => ?_)
            refine lv_iload_n hx hb dX5_depth_47 rfl (lv_at hl 3 rfl) ?_
            refine lv_icmp_ne (tgt := 55) hx hb dX5_depth_48 (by decide) (fun c12 => ?_) (fun c12 => ?_)
            · replace hq := hq.1 c12
              refine lv_iconst (v := 0) hx hb dX5_depth_55 (by decide) ?_
              refine lv_iadd hx hb dX5_depth_56 ?_
              refine lv_istore_n (lv' := [(2, .int (x2 + 0)), (0, .ref (ad 0)), (1, .int x1), (3, .int x3)]) hx hb dX5_depth_57 rfl hl (by decide) rfl (fun ls hl => ?_)
              refine lv_iinc (v := x3 + 1) (lv' := [(3, .int (x3 + 1)), (2, .int (x2 + 0)), (0, .ref (ad 0)), (1, .int x1)]) hx hb dX5_depth_58 hl (k := 3) rfl rfl (by decide) rfl (fun ls hl => ?_)
              refine lv_goto (tgt := 4) hx hb dX5_depth_61 (by decide) ?_
              exact ih σ10 (x2 + 0) (x3 + 1) _ _ _ hq hw (lv_sub hl [2, 3, 1, 0] rfl)
            · replace hq := hq.2 c12
              refine lv_iconst (v := 1) hx hb dX5_depth_51 (by decide) ?_
              refine lv_goto (tgt := 56) hx hb dX5_depth_52 (by decide) ?_
              refine lv_iadd hx hb dX5_depth_56 ?_
              refine lv_istore_n (lv' := [(2, .int (x2 + 1)), (0, .ref (ad 0)), (1, .int x1), (3, .int x3)]) hx hb dX5_depth_57 rfl hl (by decide) rfl (fun ls hl => ?_)
              refine lv_iinc (v := x3 + 1) (lv' := [(3, .int (x3 + 1)), (2, .int (x2 + 1)), (0, .ref (ad 0)), (1, .int x1)]) hx hb dX5_depth_58 hl (k := 3) rfl rfl (by decide) rfl (fun ls hl => ?_)
              refine lv_goto (tgt := 4) hx hb dX5_depth_61 (by decide) ?_
              exact ih σ10 (x2 + 1) (x3 + 1) _ _ _ hq hw (lv_sub hl [2, 3, 1, 0] rfl)
        · replace hq := hq.2 c5
          refine lv_iload_n hx hb dX5_depth_27 rfl (lv_at hl 3 rfl) ?_
          refine lv_goto (tgt := 32) hx hb dX5_depth_28 (by decide) ?_
          refine lv_iload_n hx hb dX5_depth_32 rfl (lv_at hl 3 rfl) ?_
          refine lv_iload_n hx hb dX5_depth_33 rfl (lv_at hl 1 rfl) ?_
          refine lv_icmp_ge (tgt := 41) hx hb dX5_depth_34 (by decide) (fun c13 => ?_) (fun c13 => ?_)
          · replace hq := hq.1 c13
            refine lv_iload_n hx hb dX5_depth_41 rfl (lv_at hl 3 rfl) ?_
            refine lv_iconst (v := 1) hx hb dX5_depth_42 (by decide) ?_
            refine lv_iadd hx hb dX5_depth_43 ?_
            refine w_cVI (As := [.int x3, .int (x3 + 1)]) (rest := [.int x2]) hB hw hl.1 (c_X5_top l D ad ln cI cZ σ2 x3 (x3 + 1) _ hq) m406 m276 m490 m188 m111 rfl ok_X5_top (okR_K (by decide) (by decide)) (q0 := 0) (ci := 5) rfl rfl rfl rfl (Nat.le_of_ble_eq_true rfl) dX5_depth_44 (fun r15 σ14 H locs hq hw => ?_)
            refine lv_iload_n hx hb dX5_depth_47 rfl (lv_at hl 3 rfl) ?_
            refine lv_icmp_ne (tgt := 55) hx hb dX5_depth_48 (by decide) (fun c16 => ?_) (fun c16 => ?_)
            · replace hq := hq.1 c16
              refine lv_iconst (v := 0) hx hb dX5_depth_55 (by decide) ?_
              refine lv_iadd hx hb dX5_depth_56 ?_
              refine lv_istore_n (lv' := [(2, .int (x2 + 0)), (0, .ref (ad 0)), (1, .int x1), (3, .int x3)]) hx hb dX5_depth_57 rfl hl (by decide) rfl (fun ls hl => ?_)
              refine lv_iinc (v := x3 + 1) (lv' := [(3, .int (x3 + 1)), (2, .int (x2 + 0)), (0, .ref (ad 0)), (1, .int x1)]) hx hb dX5_depth_58 hl (k := 3) rfl rfl (by decide) rfl (fun ls hl => ?_)
              refine lv_goto (tgt := 4) hx hb dX5_depth_61 (by decide) ?_
              exact ih σ14 (x2 + 0) (x3 + 1) _ _ _ hq hw (lv_sub hl [2, 3, 1, 0] rfl)
            · replace hq := hq.2 c16
              refine lv_iconst (v := 1) hx hb dX5_depth_51 (by decide) ?_
              refine lv_goto (tgt := 56) hx hb dX5_depth_52 (by decide) ?_
              refine lv_iadd hx hb dX5_depth_56 ?_
              refine lv_istore_n (lv' := [(2, .int (x2 + 1)), (0, .ref (ad 0)), (1, .int x1), (3, .int x3)]) hx hb dX5_depth_57 rfl hl (by decide) rfl (fun ls hl => ?_)
              refine lv_iinc (v := x3 + 1) (lv' := [(3, .int (x3 + 1)), (2, .int (x2 + 1)), (0, .ref (ad 0)), (1, .int x1)]) hx hb dX5_depth_58 hl (k := 3) rfl rfl (by decide) rfl (fun ls hl => ?_)
              refine lv_goto (tgt := 4) hx hb dX5_depth_61 (by decide) ?_
              exact ih σ14 (x2 + 1) (x3 + 1) _ _ _ hq hw (lv_sub hl [2, 3, 1, 0] rfl)
          · replace hq := hq.2 c13
            refine lv_iload_n hx hb dX5_depth_37 rfl (lv_at hl 1 rfl) ?_
            refine lv_goto (tgt := 42) hx hb dX5_depth_38 (by decide) ?_
            refine lv_iconst (v := 1) hx hb dX5_depth_42 (by decide) ?_
            refine lv_iadd hx hb dX5_depth_43 ?_
            refine w_cVI (As := [.int x3, .int (x1 + 1)]) (rest := [.int x2]) hB hw hl.1 (c_X5_top l D ad ln cI cZ σ2 x3 (x1 + 1) _ hq) m406 m276 m490 m188 m111 rfl ok_X5_top (okR_K (by decide) (by decide)) (q0 := 0) (ci := 5) rfl rfl rfl rfl (Nat.le_of_ble_eq_true rfl) dX5_depth_44 (fun r18 σ17 H locs hq hw => ?_)
            refine lv_iload_n hx hb dX5_depth_47 rfl (lv_at hl 3 rfl) ?_
            refine lv_icmp_ne (tgt := 55) hx hb dX5_depth_48 (by decide) (fun c19 => ?_) (fun c19 => ?_)
            · replace hq := hq.1 c19
              refine lv_iconst (v := 0) hx hb dX5_depth_55 (by decide) ?_
              refine lv_iadd hx hb dX5_depth_56 ?_
              refine lv_istore_n (lv' := [(2, .int (x2 + 0)), (0, .ref (ad 0)), (1, .int x1), (3, .int x3)]) hx hb dX5_depth_57 rfl hl (by decide) rfl (fun ls hl => ?_)
              refine lv_iinc (v := x3 + 1) (lv' := [(3, .int (x3 + 1)), (2, .int (x2 + 0)), (0, .ref (ad 0)), (1, .int x1)]) hx hb dX5_depth_58 hl (k := 3) rfl rfl (by decide) rfl (fun ls hl => ?_)
              refine lv_goto (tgt := 4) hx hb dX5_depth_61 (by decide) ?_
              exact ih σ17 (x2 + 0) (x3 + 1) _ _ _ hq hw (lv_sub hl [2, 3, 1, 0] rfl)
            · replace hq := hq.2 c19
              refine lv_iconst (v := 1) hx hb dX5_depth_51 (by decide) ?_
              refine lv_goto (tgt := 56) hx hb dX5_depth_52 (by decide) ?_
              refine lv_iadd hx hb dX5_depth_56 ?_
              refine lv_istore_n (lv' := [(2, .int (x2 + 1)), (0, .ref (ad 0)), (1, .int x1), (3, .int x3)]) hx hb dX5_depth_57 rfl hl (by decide) rfl (fun ls hl => ?_)
              refine lv_iinc (v := x3 + 1) (lv' := [(3, .int (x3 + 1)), (2, .int (x2 + 1)), (0, .ref (ad 0)), (1, .int x1)]) hx hb dX5_depth_58 hl (k := 3) rfl rfl (by decide) rfl (fun ls hl => ?_)
              refine lv_goto (tgt := 4) hx hb dX5_depth_61 (by decide) ?_
              exact ih σ17 (x2 + 1) (x3 + 1) _ _ _ hq hw (lv_sub hl [2, 3, 1, 0] rfl)
set_option maxHeartbeats 4000000 in
set_option maxRecDepth 100000 in
theorem c_X5_depth (l : Launch) (D : va_G) (ad ln : Nat → Nat) (cI cZ : ClassId) (σ : CS) (p1 : Int32) (post : Int32 → CS → Prop) (hq : wp_X5_depth ln σ p1 post) : MtI l D (tyM cI cZ) (cellsM ad ln cI cZ) yX5_depth cX5_depth 4 (some .int) (rmK 2) [.ref (ad 0), .int p1] σ post := by
  refine MtI_of (by decide) (Nat.le_of_ble_eq_true rfl) ?_
  intro p e s m below meth c A ls hB hw hl
  replace hB : MB p s m _ meth c cX5_depth 4 (some .int) RX5 := hB
  replace hl : lv_has ls 4 [(0, .ref (ad 0)), (1, .int p1)] := hl
  obtain ⟨hx, hb, hr, hml, hown, hts, hlk⟩ := id hB
  unfold wp_X5_depth at hq
  refine lv_iconst (v := 0) hx hb dX5_depth_0 (by decide) ?_
  refine lv_istore_n (lv' := [(2, .int 0), (0, .ref (ad 0)), (1, .int p1)]) hx hb dX5_depth_1 rfl hl (by decide) rfl (fun ls hl => ?_)
  refine lv_iconst (v := 0) hx hb dX5_depth_2 (by decide) ?_
  refine lv_istore_n (lv' := [(3, .int 0), (2, .int 0), (0, .ref (ad 0)), (1, .int p1)]) hx hb dX5_depth_3 rfl hl (by decide) rfl (fun ls hl => ?_)
  obtain ⟨n20, hq⟩ := hq
  refine wl_X5_depth_4 hB  (fun σ21 x2_22 H locs ls hq hw hl => ?_) n20 σ 0 0 _ _ _ hq hw (lv_sub hl [2, 3, 1, 0] rfl)
  refine lv_iload_n hx hb dX5_depth_64 rfl (lv_at hl 0 rfl) ?_
  exact w_iret hB hw hq dX5_depth_65
theorem ok_X5_depth : okY yX5_depth 1 := ⟨by decide, by decide, by decide +kernel⟩
/-! X5_count -/
def jp_X5_count_114 (ln : Nat → Nat) (post : Int32 → CS → Prop) (K1 : CS → Int32 → Int32 → Int32 → Int32 → Int32 → Prop) (σ : CS) (x1 x2 x3 x4 x5 x6 : Int32) : Prop :=
  K1 σ x2 x3 x4 x5 (x6 + 1)
def jp_X5_count_84 (ln : Nat → Nat) (post : Int32 → CS → Prop) (K1 : CS → Int32 → Int32 → Int32 → Int32 → Int32 → Prop) (σ : CS) (x1 x2 x3 x4 x5 x6 : Int32) : Prop :=
  (vp_in x6 (ln 1) ∧ ((((σ.2 1) x6.toNatClampNeg) ≤ 0 → jp_X5_count_114 ln post K1 σ x1 x2 x3 (x4 + 0) x5 x6) ∧ (¬ ((σ.2 1) x6.toNatClampNeg) ≤ 0 → (vp_in x6 (ln 2) ∧ ((((σ.2 2) x6.toNatClampNeg) = 0 → jp_X5_count_114 ln post K1 σ x1 x2 x3 (x4 + 0) x5 x6) ∧ (¬ ((σ.2 2) x6.toNatClampNeg) = 0 → jp_X5_count_114 ln post K1 σ x1 x2 x3 (x4 + 1) x5 x6))))))
def jp_X5_count_69 (ln : Nat → Nat) (post : Int32 → CS → Prop) (K1 : CS → Int32 → Int32 → Int32 → Int32 → Int32 → Prop) (σ : CS) (x1 x2 x3 x4 x5 x6 : Int32) : Prop :=
  (vp_in x6 (ln 1) ∧ jp_X5_count_84 ln post K1 σ x1 (x2 + 1) (x3 + (4 * ((σ.2 1) x6.toNatClampNeg))) x4 x5 x6)
def jp_X5_count_53 (ln : Nat → Nat) (post : Int32 → CS → Prop) (K1 : CS → Int32 → Int32 → Int32 → Int32 → Int32 → Prop) (σ : CS) (x1 x2 x3 x4 x5 x6 x7 : Int32) : Prop :=
  ((x7 ≤ x5 → jp_X5_count_69 ln post K1 σ x1 x2 x3 x4 x5 x6) ∧ (¬ x7 ≤ x5 → jp_X5_count_69 ln post K1 σ x1 x2 x3 x4 x7 x6))
def lb_X5_count_18 (ln : Nat → Nat) (post : Int32 → CS → Prop)  (Kx : CS → Int32 → Int32 → Int32 → Int32 → Prop) (x1 : Int32) (Kb : CS → Int32 → Int32 → Int32 → Int32 → Int32 → Prop) (σ : CS) (x2 x3 x4 x5 x6 : Int32) : Prop :=
  (((σ.1 1) ≤ x6 → Kx σ x2 x3 x4 x5) ∧ (¬ (σ.1 1) ≤ x6 → wp_X5_isFree ln σ x6 (fun r3 σ2 => ((r3 = 0 → jp_X5_count_84 ln post Kb σ2 x1 x2 x3 x4 x5 x6) ∧ (¬ r3 = 0 → ((¬ x1 = 4 → jp_X5_count_53 ln post Kb σ2 x1 x2 x3 x4 x5 x6 0) ∧ (x1 = 4 → wp_X5_depth ln σ2 x6 (fun r13 σ12 => jp_X5_count_53 ln post Kb σ12 x1 x2 x3 x4 x5 x6 r13))))))))
def lp_X5_count_18 (ln : Nat → Nat) (post : Int32 → CS → Prop)  (Kx : CS → Int32 → Int32 → Int32 → Int32 → Prop) (x1 : Int32) : Nat → CS → Int32 → Int32 → Int32 → Int32 → Int32 → Prop
  | 0 => fun _ _ _ _ _ _ => False
  | n + 1 => lb_X5_count_18 ln post  Kx x1 (lp_X5_count_18 ln post  Kx x1 n)
def wp_X5_count (ln : Nat → Nat) (σ : CS) (p1 : Int32) (post : Int32 → CS → Prop) : Prop :=
  (∃ n14 : Nat, lp_X5_count_18 ln post  (fun σ15 x2_16 x3_17 x4_18 x5_19 => ((p1 = 0 → post x2_16 σ15) ∧ ((p1 = 1 → post x3_17 σ15) ∧ ((p1 = 2 → post x4_18 σ15) ∧ ((p1 = 3 → (((σ15.1 2) = 0 → post 0 σ15) ∧ (¬ (σ15.1 2) = 0 → post (σ15.1 4) σ15))) ∧ ((p1 = 4 → post x5_19 σ15) ∧ ((¬ p1 = 0 ∧ ¬ p1 = 1 ∧ ¬ p1 = 2 ∧ ¬ p1 = 3 ∧ ¬ p1 = 4) → post (-1) σ15))))))) p1 n14 (setF σ 0 0) 0 0 0 0 0)
set_option maxHeartbeats 4000000 in
set_option maxRecDepth 100000 in
theorem wj_X5_count_114 {p : Program} {l : Launch} {e : Env} {s : State} {m : MethodId} {args : Array Value} {below : List Frame} {meth : Method} {c : Code} {D : va_G} {ad ln : Nat → Nat} {cI cZ : ClassId} {A : Nat → Prop} {post : Int32 → CS → Prop} {K1 : CS → Int32 → Int32 → Int32 → Int32 → Int32 → Prop} (hB : MB p s m args meth c cX5_count 8 (some .int) RX5) (σ : CS) (x1 x2 x3 x4 x5 x6 : Int32) (H : Heap) (locs : List Loc) (ls : Array Slot) (hK1 : ∀ (σ : CS) (x2 x3 x4 x5 x6 : Int32) (H : Heap) (locs : List Loc) (ls : Array Slot), K1 σ x2 x3 x4 x5 x6 → WD D (tyM cI cZ) (cellsM ad ln cI cZ σ) A s H locs → lv_has ls 8 [(0, .ref (ad 0)), (1, .int x1), (2, .int x2), (3, .int x3), (4, .int x4), (5, .int x5), (6, .int x6)] → W p l e (rmK 3) s m args below meth c H locs 0 0 (MQ below (va_Qi post (Pos0 D (tyM cI cZ) (cellsM ad ln cI cZ) A) A) args s 0 0 A) (F0 m 18 ls [])) (hq : jp_X5_count_114 ln post K1 σ x1 x2 x3 x4 x5 x6) (hw : WD D (tyM cI cZ) (cellsM ad ln cI cZ σ) A s H locs) (hl : lv_has ls 8 [(0, .ref (ad 0)), (1, .int x1), (2, .int x2), (3, .int x3), (4, .int x4), (5, .int x5), (6, .int x6)]) : W p l e (rmK 3) s m args below meth c H locs 0 0 (MQ below (va_Qi post (Pos0 D (tyM cI cZ) (cellsM ad ln cI cZ) A) A) args s 0 0 A) (F0 m 114 ls []) := by
  obtain ⟨hx, hb, hr, hml, hown, hts, hlk⟩ := id hB
  unfold jp_X5_count_114 at hq
  refine lv_iinc (v := x6 + 1) (lv' := [(6, .int (x6 + 1)), (0, .ref (ad 0)), (1, .int x1), (2, .int x2), (3, .int x3), (4, .int x4), (5, .int x5)]) hx hb dX5_count_114 hl (k := 6) rfl rfl (by decide) rfl (fun ls hl => ?_)
  refine lv_goto (tgt := 18) hx hb dX5_count_117 (by decide) ?_
  exact hK1 σ x2 x3 x4 x5 (x6 + 1) _ _ _ hq hw (lv_sub hl [1, 2, 3, 4, 5, 6, 0] rfl)
set_option maxHeartbeats 4000000 in
set_option maxRecDepth 100000 in
theorem wj_X5_count_84 {p : Program} {l : Launch} {e : Env} {s : State} {m : MethodId} {args : Array Value} {below : List Frame} {meth : Method} {c : Code} {D : va_G} {ad ln : Nat → Nat} {cI cZ : ClassId} {A : Nat → Prop} {post : Int32 → CS → Prop} {K1 : CS → Int32 → Int32 → Int32 → Int32 → Int32 → Prop} (hB : MB p s m args meth c cX5_count 8 (some .int) RX5) (σ : CS) (x1 x2 x3 x4 x5 x6 : Int32) (H : Heap) (locs : List Loc) (ls : Array Slot) (hK1 : ∀ (σ : CS) (x2 x3 x4 x5 x6 : Int32) (H : Heap) (locs : List Loc) (ls : Array Slot), K1 σ x2 x3 x4 x5 x6 → WD D (tyM cI cZ) (cellsM ad ln cI cZ σ) A s H locs → lv_has ls 8 [(0, .ref (ad 0)), (1, .int x1), (2, .int x2), (3, .int x3), (4, .int x4), (5, .int x5), (6, .int x6)] → W p l e (rmK 3) s m args below meth c H locs 0 0 (MQ below (va_Qi post (Pos0 D (tyM cI cZ) (cellsM ad ln cI cZ) A) A) args s 0 0 A) (F0 m 18 ls [])) (hq : jp_X5_count_84 ln post K1 σ x1 x2 x3 x4 x5 x6) (hw : WD D (tyM cI cZ) (cellsM ad ln cI cZ σ) A s H locs) (hl : lv_has ls 8 [(0, .ref (ad 0)), (1, .int x1), (2, .int x2), (3, .int x3), (4, .int x4), (5, .int x5), (6, .int x6)]) : W p l e (rmK 3) s m args below meth c H locs 0 0 (MQ below (va_Qi post (Pos0 D (tyM cI cZ) (cellsM ad ln cI cZ) A) A) args s 0 0 A) (F0 m 84 ls []) := by
  obtain ⟨hx, hb, hr, hml, hown, hts, hlk⟩ := id hB
  unfold jp_X5_count_84 at hq
  refine lv_iload hx hb dX5_count_84 (lv_at hl 4 rfl) ?_
  refine lv_aload_n hx hb dX5_count_86 rfl (lv_at hl 0 rfl) ?_
  refine gM_0_2 hB hw m172 dX5_count_87 ?_
  refine lv_iload hx hb dX5_count_90 (lv_at hl 6 rfl) ?_
  obtain ⟨h5, hq⟩ := hq
  refine aM_1 (f := (σ.2 1)) hB hw rfl h5 dX5_count_92 ?_
  refine lv_if_le (tgt := 110) hx hb dX5_count_93 (by decide) (fun c6 => ?_) (fun c6 => ?_)
  · replace hq := hq.1 c6
    refine lv_iconst (v := 0) hx hb dX5_count_110 (by decide) ?_
    refine lv_iadd hx hb dX5_count_111 ?_
    refine lv_istore (lv' := [(4, .int (x4 + 0)), (0, .ref (ad 0)), (1, .int x1), (2, .int x2), (3, .int x3), (5, .int x5), (6, .int x6)]) hx hb dX5_count_112 hl (by decide) rfl (fun ls hl => ?_)
    exact wj_X5_count_114 hB σ x1 x2 x3 (x4 + 0) x5 x6 _ _ _ hK1 hq hw (lv_sub hl [1, 2, 3, 4, 0, 5, 6] rfl)
  · replace hq := hq.2 c6
    refine lv_aload_n hx hb dX5_count_96 rfl (lv_at hl 0 rfl) ?_
    refine gM_0_3 hB hw m160 dX5_count_97 ?_
    refine lv_iload hx hb dX5_count_100 (lv_at hl 6 rfl) ?_
    obtain ⟨h7, hq⟩ := hq
    refine aM_2 (f := (σ.2 2)) hB hw rfl h7 dX5_count_102 ?_
    refine lv_if_eq (tgt := 110) hx hb dX5_count_103 (by decide) (fun c8 => ?_) (fun c8 => ?_)
    · replace hq := hq.1 c8
      refine lv_iconst (v := 0) hx hb dX5_count_110 (by decide) ?_
      refine lv_iadd hx hb dX5_count_111 ?_
      refine lv_istore (lv' := [(4, .int (x4 + 0)), (0, .ref (ad 0)), (1, .int x1), (2, .int x2), (3, .int x3), (5, .int x5), (6, .int x6)]) hx hb dX5_count_112 hl (by decide) rfl (fun ls hl => ?_)
      exact wj_X5_count_114 hB σ x1 x2 x3 (x4 + 0) x5 x6 _ _ _ hK1 hq hw (lv_sub hl [1, 2, 3, 4, 0, 5, 6] rfl)
    · replace hq := hq.2 c8
      refine lv_iconst (v := 1) hx hb dX5_count_106 (by decide) ?_
      refine lv_goto (tgt := 111) hx hb dX5_count_107 (by decide) ?_
      refine lv_iadd hx hb dX5_count_111 ?_
      refine lv_istore (lv' := [(4, .int (x4 + 1)), (0, .ref (ad 0)), (1, .int x1), (2, .int x2), (3, .int x3), (5, .int x5), (6, .int x6)]) hx hb dX5_count_112 hl (by decide) rfl (fun ls hl => ?_)
      exact wj_X5_count_114 hB σ x1 x2 x3 (x4 + 1) x5 x6 _ _ _ hK1 hq hw (lv_sub hl [1, 2, 3, 4, 0, 5, 6] rfl)
set_option maxHeartbeats 4000000 in
set_option maxRecDepth 100000 in
theorem wj_X5_count_69 {p : Program} {l : Launch} {e : Env} {s : State} {m : MethodId} {args : Array Value} {below : List Frame} {meth : Method} {c : Code} {D : va_G} {ad ln : Nat → Nat} {cI cZ : ClassId} {A : Nat → Prop} {post : Int32 → CS → Prop} {K1 : CS → Int32 → Int32 → Int32 → Int32 → Int32 → Prop} (hB : MB p s m args meth c cX5_count 8 (some .int) RX5) (σ : CS) (x1 x2 x3 x4 x5 x6 : Int32) (H : Heap) (locs : List Loc) (ls : Array Slot) (hK1 : ∀ (σ : CS) (x2 x3 x4 x5 x6 : Int32) (H : Heap) (locs : List Loc) (ls : Array Slot), K1 σ x2 x3 x4 x5 x6 → WD D (tyM cI cZ) (cellsM ad ln cI cZ σ) A s H locs → lv_has ls 8 [(0, .ref (ad 0)), (1, .int x1), (2, .int x2), (3, .int x3), (4, .int x4), (5, .int x5), (6, .int x6)] → W p l e (rmK 3) s m args below meth c H locs 0 0 (MQ below (va_Qi post (Pos0 D (tyM cI cZ) (cellsM ad ln cI cZ) A) A) args s 0 0 A) (F0 m 18 ls [])) (hq : jp_X5_count_69 ln post K1 σ x1 x2 x3 x4 x5 x6) (hw : WD D (tyM cI cZ) (cellsM ad ln cI cZ σ) A s H locs) (hl : lv_has ls 8 [(0, .ref (ad 0)), (1, .int x1), (2, .int x2), (3, .int x3), (4, .int x4), (5, .int x5), (6, .int x6)]) : W p l e (rmK 3) s m args below meth c H locs 0 0 (MQ below (va_Qi post (Pos0 D (tyM cI cZ) (cellsM ad ln cI cZ) A) A) args s 0 0 A) (F0 m 69 ls []) := by
  obtain ⟨hx, hb, hr, hml, hown, hts, hlk⟩ := id hB
  unfold jp_X5_count_69 at hq
  refine lv_iinc (v := x2 + 1) (lv' := [(2, .int (x2 + 1)), (0, .ref (ad 0)), (1, .int x1), (3, .int x3), (4, .int x4), (5, .int x5), (6, .int x6)]) hx hb dX5_count_69 hl (k := 2) rfl rfl (by decide) rfl (fun ls hl => ?_)
  refine lv_iload_n hx hb dX5_count_72 rfl (lv_at hl 3 rfl) ?_
  refine lv_iconst (v := 4) hx hb dX5_count_73 (by decide) ?_
  refine lv_aload_n hx hb dX5_count_74 rfl (lv_at hl 1 rfl) ?_
  refine gM_0_2 hB hw m172 dX5_count_75 ?_
  refine lv_iload hx hb dX5_count_78 (lv_at hl 6 rfl) ?_
  obtain ⟨h11, hq⟩ := hq
  refine aM_1 (f := (σ.2 1)) hB hw rfl h11 dX5_count_80 ?_
  refine lv_imul hx hb dX5_count_81 ?_
  refine lv_iadd hx hb dX5_count_82 ?_
  refine lv_istore_n (lv' := [(3, .int (x3 + (4 * ((σ.2 1) x6.toNatClampNeg)))), (2, .int (x2 + 1)), (0, .ref (ad 0)), (1, .int x1), (4, .int x4), (5, .int x5), (6, .int x6)]) hx hb dX5_count_83 rfl hl (by decide) rfl (fun ls hl => ?_)
  exact wj_X5_count_84 hB σ x1 (x2 + 1) (x3 + (4 * ((σ.2 1) x6.toNatClampNeg))) x4 x5 x6 _ _ _ hK1 hq hw (lv_sub hl [2, 3, 1, 0, 4, 5, 6] rfl)
set_option maxHeartbeats 4000000 in
set_option maxRecDepth 100000 in
theorem wj_X5_count_53 {p : Program} {l : Launch} {e : Env} {s : State} {m : MethodId} {args : Array Value} {below : List Frame} {meth : Method} {c : Code} {D : va_G} {ad ln : Nat → Nat} {cI cZ : ClassId} {A : Nat → Prop} {post : Int32 → CS → Prop} {K1 : CS → Int32 → Int32 → Int32 → Int32 → Int32 → Prop} (hB : MB p s m args meth c cX5_count 8 (some .int) RX5) (σ : CS) (x1 x2 x3 x4 x5 x6 x7 : Int32) (H : Heap) (locs : List Loc) (ls : Array Slot) (hK1 : ∀ (σ : CS) (x2 x3 x4 x5 x6 : Int32) (H : Heap) (locs : List Loc) (ls : Array Slot), K1 σ x2 x3 x4 x5 x6 → WD D (tyM cI cZ) (cellsM ad ln cI cZ σ) A s H locs → lv_has ls 8 [(0, .ref (ad 0)), (1, .int x1), (2, .int x2), (3, .int x3), (4, .int x4), (5, .int x5), (6, .int x6)] → W p l e (rmK 3) s m args below meth c H locs 0 0 (MQ below (va_Qi post (Pos0 D (tyM cI cZ) (cellsM ad ln cI cZ) A) A) args s 0 0 A) (F0 m 18 ls [])) (hq : jp_X5_count_53 ln post K1 σ x1 x2 x3 x4 x5 x6 x7) (hw : WD D (tyM cI cZ) (cellsM ad ln cI cZ σ) A s H locs) (hl : lv_has ls 8 [(0, .ref (ad 0)), (1, .int x1), (2, .int x2), (3, .int x3), (4, .int x4), (5, .int x5), (6, .int x6), (7, .int x7)]) : W p l e (rmK 3) s m args below meth c H locs 0 0 (MQ below (va_Qi post (Pos0 D (tyM cI cZ) (cellsM ad ln cI cZ) A) A) args s 0 0 A) (F0 m 53 ls []) := by
  obtain ⟨hx, hb, hr, hml, hown, hts, hlk⟩ := id hB
  unfold jp_X5_count_53 at hq
  refine lv_iload hx hb dX5_count_53 (lv_at hl 7 rfl) ?_
  refine lv_iload hx hb dX5_count_55 (lv_at hl 5 rfl) ?_
  refine lv_icmp_le (tgt := 65) hx hb dX5_count_57 (by decide) (fun c10 => ?_) (fun c10 => ?_)
  · replace hq := hq.1 c10
    refine lv_iload hx hb dX5_count_65 (lv_at hl 5 rfl) ?_
    refine lv_istore (lv' := [(5, .int x5), (0, .ref (ad 0)), (1, .int x1), (2, .int x2), (3, .int x3), (4, .int x4), (6, .int x6), (7, .int x7)]) hx hb dX5_count_67 hl (by decide) rfl (fun ls hl => ?_)
    exact wj_X5_count_69 hB σ x1 x2 x3 x4 x5 x6 _ _ _ hK1 hq hw (lv_sub hl [1, 2, 3, 4, 5, 0, 6] rfl)
  · replace hq := hq.2 c10
    refine lv_iload hx hb dX5_count_60 (lv_at hl 7 rfl) ?_
    refine lv_goto (tgt := 67) hx hb dX5_count_62 (by decide) ?_
    refine lv_istore (lv' := [(5, .int x7), (0, .ref (ad 0)), (1, .int x1), (2, .int x2), (3, .int x3), (4, .int x4), (6, .int x6), (7, .int x7)]) hx hb dX5_count_67 hl (by decide) rfl (fun ls hl => ?_)
    exact wj_X5_count_69 hB σ x1 x2 x3 x4 x7 x6 _ _ _ hK1 hq hw (lv_sub hl [1, 2, 3, 4, 5, 0, 6] rfl)
set_option maxHeartbeats 4000000 in
set_option maxRecDepth 100000 in
theorem wl_X5_count_18 {p : Program} {l : Launch} {e : Env} {s : State} {m : MethodId} {args : Array Value} {below : List Frame} {meth : Method} {c : Code} {D : va_G} {ad ln : Nat → Nat} {cI cZ : ClassId} {A : Nat → Prop} {post : Int32 → CS → Prop}  {Kx : CS → Int32 → Int32 → Int32 → Int32 → Prop} {x1 : Int32} (hB : MB p s m args meth c cX5_count 8 (some .int) RX5)  (hKx : ∀ (σ : CS) (x2 x3 x4 x5 : Int32) (H : Heap) (locs : List Loc) (ls : Array Slot), Kx σ x2 x3 x4 x5 → WD D (tyM cI cZ) (cellsM ad ln cI cZ σ) A s H locs → lv_has ls 8 [(0, .ref (ad 0)), (1, .int x1), (2, .int x2), (3, .int x3), (4, .int x4), (5, .int x5)] → W p l e (rmK 3) s m args below meth c H locs 0 0 (MQ below (va_Qi post (Pos0 D (tyM cI cZ) (cellsM ad ln cI cZ) A) A) args s 0 0 A) (F0 m 120 ls [])) :
    ∀ (n : Nat) (σ : CS) (x2 x3 x4 x5 x6 : Int32) (H : Heap) (locs : List Loc) (ls : Array Slot), lp_X5_count_18 ln post  Kx x1 n σ x2 x3 x4 x5 x6 → WD D (tyM cI cZ) (cellsM ad ln cI cZ σ) A s H locs → lv_has ls 8 [(0, .ref (ad 0)), (1, .int x1), (2, .int x2), (3, .int x3), (4, .int x4), (5, .int x5), (6, .int x6)] → W p l e (rmK 3) s m args below meth c H locs 0 0 (MQ below (va_Qi post (Pos0 D (tyM cI cZ) (cellsM ad ln cI cZ) A) A) args s 0 0 A) (F0 m 18 ls []) := by
  obtain ⟨hx, hb, hr, hml, hown, hts, hlk⟩ := id hB
  intro n
  induction n with
  | zero => intro σ x2 x3 x4 x5 x6 H locs ls hq hw hl; exact hq.elim
  | succ n ih =>
    intro σ x2 x3 x4 x5 x6 H locs ls hq hw hl
    replace hq : lb_X5_count_18 ln post  Kx x1 (lp_X5_count_18 ln post  Kx x1 n) σ x2 x3 x4 x5 x6 := hq
    refine lv_iload hx hb dX5_count_18 (lv_at hl 6 rfl) ?_
    refine lv_aload_n hx hb dX5_count_20 rfl (lv_at hl 0 rfl) ?_
    refine gM_0_1 (x := σ.1 1) hB hw m170 rfl dX5_count_21 ?_
    refine lv_icmp_ge (tgt := 120) hx hb dX5_count_24 (by decide) (fun c1 => ?_) (fun c1 => ?_)
    · replace hq := hq.1 c1
      exact hKx σ x2 x3 x4 x5 _ _ _ hq hw (lv_sub hl [0, 1, 2, 3, 4, 5] rfl)
    · replace hq := hq.2 c1
      refine lv_aload_n hx hb dX5_count_27 rfl (lv_at hl 0 rfl) ?_
      refine lv_iload hx hb dX5_count_28 (lv_at hl 6 rfl) ?_
      refine w_cVI (As := [.int x6]) (rest := []) hB hw hl.1 (c_X5_isFree l D ad ln cI cZ σ x6 _ hq) m398 m265 m479 m188 m100 rfl ok_X5_isFree (okR_K (by decide) (by decide)) (q0 := 0) (ci := 5) rfl rfl rfl rfl (Nat.le_of_ble_eq_true rfl) dX5_count_30 (fun r3 σ2 H locs hq hw => ?_)
      refine lv_if_eq (tgt := 84) hx hb dX5_count_33 (by decide) (fun c4 => ?_) (fun c4 => ?_)
      · replace hq := hq.1 c4
        exact wj_X5_count_84 hB σ2 x1 x2 x3 x4 x5 x6 _ _ _ ih hq hw (lv_sub hl [0, 1, 2, 3, 4, 5, 6] rfl)
      · replace hq := hq.2 c4
        refine lv_iload_n hx hb dX5_count_36 rfl (lv_at hl 1 rfl) ?_
        refine lv_iconst (v := 4) hx hb dX5_count_37 (by decide) ?_
        refine lv_icmp_ne (tgt := 50) hx hb dX5_count_38 (by decide) (fun c9 => ?_) (fun c9 => ?_)
        · replace hq := hq.1 c9
          refine lv_iconst (v := 0) hx hb dX5_count_50 (by decide) ?_
          refine lv_istore (lv' := [(7, .int 0), (0, .ref (ad 0)), (1, .int x1), (2, .int x2), (3, .int x3), (4, .int x4), (5, .int x5), (6, .int x6)]) hx hb dX5_count_51 hl (by decide) rfl (fun ls hl => ?_)
          exact wj_X5_count_53 hB σ2 x1 x2 x3 x4 x5 x6 0 _ _ _ ih hq hw (lv_sub hl [1, 2, 3, 4, 5, 6, 7, 0] rfl)
        · replace hq := hq.2 c9
          refine lv_aload_n hx hb dX5_count_41 rfl (lv_at hl 0 rfl) ?_
          refine lv_iload hx hb dX5_count_42 (lv_at hl 6 rfl) ?_
          refine w_cVI (As := [.int x6]) (rest := []) hB hw hl.1 (c_X5_depth l D ad ln cI cZ σ2 x6 _ hq) m407 m252 m467 m188 m87 rfl ok_X5_depth (okR_K (by decide) (by decide)) (q0 := 0) (ci := 5) rfl rfl rfl rfl (Nat.le_of_ble_eq_true rfl) dX5_count_44 (fun r13 σ12 H locs hq hw => ?_)
          refine lv_goto (tgt := 51) hx hb dX5_count_47 (by decide) ?_
          refine lv_istore (lv' := [(7, .int r13), (0, .ref (ad 0)), (1, .int x1), (2, .int x2), (3, .int x3), (4, .int x4), (5, .int x5), (6, .int x6)]) hx hb dX5_count_51 hl (by decide) rfl (fun ls hl => ?_)
          exact wj_X5_count_53 hB σ12 x1 x2 x3 x4 x5 x6 r13 _ _ _ ih hq hw (lv_sub hl [1, 2, 3, 4, 5, 6, 7, 0] rfl)
set_option maxHeartbeats 4000000 in
set_option maxRecDepth 100000 in
theorem c_X5_count (l : Launch) (D : va_G) (ad ln : Nat → Nat) (cI cZ : ClassId) (σ : CS) (p1 : Int32) (post : Int32 → CS → Prop) (hq : wp_X5_count ln σ p1 post) : MtI l D (tyM cI cZ) (cellsM ad ln cI cZ) yX5_count cX5_count 8 (some .int) (rmK 3) [.ref (ad 0), .int p1] σ post := by
  refine MtI_of (by decide) (Nat.le_of_ble_eq_true rfl) ?_
  intro p e s m below meth c A ls hB hw hl
  replace hB : MB p s m _ meth c cX5_count 8 (some .int) RX5 := hB
  replace hl : lv_has ls 8 [(0, .ref (ad 0)), (1, .int p1)] := hl
  obtain ⟨hx, hb, hr, hml, hown, hts, hlk⟩ := id hB
  unfold wp_X5_count at hq
  refine lv_aload_n hx hb dX5_count_0 rfl (lv_at hl 0 rfl) ?_
  refine lv_iconst (v := 0) hx hb dX5_count_1 (by decide) ?_
  refine pM_0_0 hB hw m171 dX5_count_2 (fun H locs hw => ?_)
  refine lv_iconst (v := 0) hx hb dX5_count_5 (by decide) ?_
  refine lv_istore_n (lv' := [(2, .int 0), (0, .ref (ad 0)), (1, .int p1)]) hx hb dX5_count_6 rfl hl (by decide) rfl (fun ls hl => ?_)
  refine lv_iconst (v := 0) hx hb dX5_count_7 (by decide) ?_
  refine lv_istore_n (lv' := [(3, .int 0), (2, .int 0), (0, .ref (ad 0)), (1, .int p1)]) hx hb dX5_count_8 rfl hl (by decide) rfl (fun ls hl => ?_)
  refine lv_iconst (v := 0) hx hb dX5_count_9 (by decide) ?_
  refine lv_istore (lv' := [(4, .int 0), (3, .int 0), (2, .int 0), (0, .ref (ad 0)), (1, .int p1)]) hx hb dX5_count_10 hl (by decide) rfl (fun ls hl => ?_)
  refine lv_iconst (v := 0) hx hb dX5_count_12 (by decide) ?_
  refine lv_istore (lv' := [(5, .int 0), (4, .int 0), (3, .int 0), (2, .int 0), (0, .ref (ad 0)), (1, .int p1)]) hx hb dX5_count_13 hl (by decide) rfl (fun ls hl => ?_)
  refine lv_iconst (v := 0) hx hb dX5_count_15 (by decide) ?_
  refine lv_istore (lv' := [(6, .int 0), (5, .int 0), (4, .int 0), (3, .int 0), (2, .int 0), (0, .ref (ad 0)), (1, .int p1)]) hx hb dX5_count_16 hl (by decide) rfl (fun ls hl => ?_)
  obtain ⟨n14, hq⟩ := hq
  refine wl_X5_count_18 hB  (fun σ15 x2_16 x3_17 x4_18 x5_19 H locs ls hq hw hl => ?_) n14 (setF σ 0 0) 0 0 0 0 0 _ _ _ hq hw (lv_sub hl [5, 6, 4, 3, 2, 1, 0] rfl)
  refine lv_iload_n hx hb dX5_count_120 rfl (lv_at hl 1 rfl) ?_
  rcases Decidable.em (p1 = 0) with c20 | c20
  · replace hq := hq.1 c20
    refine lv_tableIn (off := 35) (tgt := 156) hx hb dX5_count_121 (by rw [c20]; decide) (by rw [c20]; decide) (by rw [c20]; rfl) (by decide) ?_
    refine lv_iload_n hx hb dX5_count_156 rfl (lv_at hl 2 rfl) ?_
    exact w_iret hB hw hq dX5_count_157
  replace hq := hq.2
  rcases Decidable.em (p1 = 1) with c21 | c21
  · replace hq := hq.1 c21
    refine lv_tableIn (off := 37) (tgt := 158) hx hb dX5_count_121 (by rw [c21]; decide) (by rw [c21]; decide) (by rw [c21]; rfl) (by decide) ?_
    refine lv_iload_n hx hb dX5_count_158 rfl (lv_at hl 3 rfl) ?_
    exact w_iret hB hw hq dX5_count_159
  replace hq := hq.2
  rcases Decidable.em (p1 = 2) with c22 | c22
  · replace hq := hq.1 c22
    refine lv_tableIn (off := 39) (tgt := 160) hx hb dX5_count_121 (by rw [c22]; decide) (by rw [c22]; decide) (by rw [c22]; rfl) (by decide) ?_
    refine lv_iload hx hb dX5_count_160 (lv_at hl 4 rfl) ?_
    exact w_iret hB hw hq dX5_count_162
  replace hq := hq.2
  rcases Decidable.em (p1 = 3) with c23 | c23
  · replace hq := hq.1 c23
    refine lv_tableIn (off := 42) (tgt := 163) hx hb dX5_count_121 (by rw [c23]; decide) (by rw [c23]; decide) (by rw [c23]; rfl) (by decide) ?_
    refine lv_aload_n hx hb dX5_count_163 rfl (lv_at hl 0 rfl) ?_
    refine gM_0_6 (x := σ15.1 2) hB hw m173 rfl dX5_count_164 ?_
    refine lv_if_eq (tgt := 177) hx hb dX5_count_167 (by decide) (fun c24 => ?_) (fun c24 => ?_)
    · replace hq := hq.1 c24
      refine lv_iconst (v := 0) hx hb dX5_count_177 (by decide) ?_
      exact w_iret hB hw hq dX5_count_178
    · replace hq := hq.2 c24
      refine lv_aload_n hx hb dX5_count_170 rfl (lv_at hl 0 rfl) ?_
      refine gM_0_8 (x := σ15.1 4) hB hw m174 rfl dX5_count_171 ?_
      refine lv_goto (tgt := 178) hx hb dX5_count_174 (by decide) ?_
      exact w_iret hB hw hq dX5_count_178
  replace hq := hq.2
  rcases Decidable.em (p1 = 4) with c25 | c25
  · replace hq := hq.1 c25
    refine lv_tableIn (off := 58) (tgt := 179) hx hb dX5_count_121 (by rw [c25]; decide) (by rw [c25]; decide) (by rw [c25]; rfl) (by decide) ?_
    refine lv_iload hx hb dX5_count_179 (lv_at hl 5 rfl) ?_
    exact w_iret hB hw hq dX5_count_181
  replace hq := hq.2
  replace hq := hq ⟨c20, c21, c22, c23, c25⟩
  refine lv_tableOut (tgt := 182) hx hb dX5_count_121 (sw_out5 c20 c21 c22 c23 c25) (by decide) ?_
  refine lv_iconst (v := (-1)) hx hb dX5_count_182 (by decide) ?_
  exact w_iret hB hw hq dX5_count_183
theorem ok_X5_count : okY yX5_count 1 := ⟨by decide, by decide, by decide +kernel⟩
/-! X5_freeAt -/
def lb_X5_freeAt_9 (ln : Nat → Nat) (post : Int32 → CS → Prop)  (Kx : CS → Prop)  (Kb : CS → Int32 → Int32 → Prop) (σ : CS) (x2 x3 : Int32) : Prop :=
  (((σ.1 1) ≤ x3 → Kx σ) ∧ (¬ (σ.1 1) ≤ x3 → wp_X5_isFree ln σ x3 (fun r3 σ2 => ((r3 = 0 → Kb σ2 x2 (x3 + 1)) ∧ (¬ r3 = 0 → ((¬ x2 = 0 → Kb σ2 (x2 + (-1)) (x3 + 1)) ∧ (x2 = 0 → wp_X5_address ln σ2 x3 (fun r7 σ6 => post r7 σ6))))))))
def lp_X5_freeAt_9 (ln : Nat → Nat) (post : Int32 → CS → Prop)  (Kx : CS → Prop)  : Nat → CS → Int32 → Int32 → Prop
  | 0 => fun _ _ _ => False
  | n + 1 => lb_X5_freeAt_9 ln post  Kx  (lp_X5_freeAt_9 ln post  Kx  n)
def wp_X5_freeAt (ln : Nat → Nat) (σ : CS) (p1 : Int32) (post : Int32 → CS → Prop) : Prop :=
  (∃ n8 : Nat, lp_X5_freeAt_9 ln post  (fun σ9 => post (-1) σ9)  n8 (setF σ 0 0) p1 0)
set_option maxHeartbeats 4000000 in
set_option maxRecDepth 100000 in
theorem wl_X5_freeAt_9 {p : Program} {l : Launch} {e : Env} {s : State} {m : MethodId} {args : Array Value} {below : List Frame} {meth : Method} {c : Code} {D : va_G} {ad ln : Nat → Nat} {cI cZ : ClassId} {A : Nat → Prop} {post : Int32 → CS → Prop}  {Kx : CS → Prop}  (hB : MB p s m args meth c cX5_freeAt 4 (some .int) RX5)  (hKx : ∀ (σ : CS) (H : Heap) (locs : List Loc) (ls : Array Slot), Kx σ  → WD D (tyM cI cZ) (cellsM ad ln cI cZ σ) A s H locs → lv_has ls 4 [] → W p l e (rmK 1) s m args below meth c H locs 0 0 (MQ below (va_Qi post (Pos0 D (tyM cI cZ) (cellsM ad ln cI cZ) A) A) args s 0 0 A) (F0 m 43 ls [])) :
    ∀ (n : Nat) (σ : CS) (x2 x3 : Int32) (H : Heap) (locs : List Loc) (ls : Array Slot), lp_X5_freeAt_9 ln post  Kx  n σ x2 x3 → WD D (tyM cI cZ) (cellsM ad ln cI cZ σ) A s H locs → lv_has ls 4 [(0, .ref (ad 0)), (2, .int x2), (3, .int x3)] → W p l e (rmK 1) s m args below meth c H locs 0 0 (MQ below (va_Qi post (Pos0 D (tyM cI cZ) (cellsM ad ln cI cZ) A) A) args s 0 0 A) (F0 m 9 ls []) := by
  obtain ⟨hx, hb, hr, hml, hown, hts, hlk⟩ := id hB
  intro n
  induction n with
  | zero => intro σ x2 x3 H locs ls hq hw hl; exact hq.elim
  | succ n ih =>
    intro σ x2 x3 H locs ls hq hw hl
    replace hq : lb_X5_freeAt_9 ln post  Kx  (lp_X5_freeAt_9 ln post  Kx  n) σ x2 x3 := hq
    refine lv_iload_n hx hb dX5_freeAt_9 rfl (lv_at hl 2 rfl) ?_
    refine lv_aload_n hx hb dX5_freeAt_10 rfl (lv_at hl 0 rfl) ?_
    refine gM_0_1 (x := σ.1 1) hB hw m170 rfl dX5_freeAt_11 ?_
    refine lv_icmp_ge (tgt := 43) hx hb dX5_freeAt_14 (by decide) (fun c1 => ?_) (fun c1 => ?_)
    · replace hq := hq.1 c1
      exact hKx σ _ _ _ hq hw (lv_sub hl [] rfl)
    · replace hq := hq.2 c1
      refine lv_aload_n hx hb dX5_freeAt_17 rfl (lv_at hl 0 rfl) ?_
      refine lv_iload_n hx hb dX5_freeAt_18 rfl (lv_at hl 2 rfl) ?_
      refine w_cVI (As := [.int x3]) (rest := []) hB hw hl.1 (c_X5_isFree l D ad ln cI cZ σ x3 _ hq) m398 m265 m479 m188 m100 rfl ok_X5_isFree (okR_K (by decide) (by decide)) (q0 := 0) (ci := 5) rfl rfl rfl rfl (Nat.le_of_ble_eq_true rfl) dX5_freeAt_19 (fun r3 σ2 H locs hq hw => ?_)
      refine lv_if_eq (tgt := 37) hx hb dX5_freeAt_22 (by decide) (fun c4 => ?_) (fun c4 => ?_)
      · replace hq := hq.1 c4
        refine lv_iinc (v := x3 + 1) (lv' := [(3, .int (x3 + 1)), (0, .ref (ad 0)), (2, .int x2)]) hx hb dX5_freeAt_37 hl (k := 2) rfl rfl (by decide) rfl (fun ls hl => ?_)
        refine lv_goto (tgt := 9) hx hb dX5_freeAt_40 (by decide) ?_
        exact ih σ2 x2 (x3 + 1) _ _ _ hq hw (lv_sub hl [1, 2, 0] rfl)
      · replace hq := hq.2 c4
        refine lv_iload_n hx hb dX5_freeAt_25 rfl (lv_at hl 1 rfl) ?_
        refine lv_if_ne (tgt := 34) hx hb dX5_freeAt_26 (by decide) (fun c5 => ?_) (fun c5 => ?_)
        · replace hq := hq.1 c5
          refine lv_iinc (v := x2 + (-1)) (lv' := [(2, .int (x2 + (-1))), (0, .ref (ad 0)), (3, .int x3)]) hx hb dX5_freeAt_34 hl (k := 1) rfl rfl (by decide) rfl (fun ls hl => ?_)
          refine lv_iinc (v := x3 + 1) (lv' := [(3, .int (x3 + 1)), (2, .int (x2 + (-1))), (0, .ref (ad 0))]) hx hb dX5_freeAt_37 hl (k := 2) rfl rfl (by decide) rfl (fun ls hl => ?_)
          refine lv_goto (tgt := 9) hx hb dX5_freeAt_40 (by decide) ?_
          exact ih σ2 (x2 + (-1)) (x3 + 1) _ _ _ hq hw (lv_sub hl [2, 1, 0] rfl)
        · replace hq := hq.2 c5
          refine lv_iload_n hx hb dX5_freeAt_29 rfl (lv_at hl 2 rfl) ?_
          refine w_cSI (As := [.int x3]) (rest := []) hB hw hl.1 (c_X5_address l D ad ln cI cZ σ2 x3 _ hq) m399 m506 m188 m82 ok_X5_address (okR_K (by decide) (by decide)) rfl rfl (Nat.le_of_ble_eq_true rfl) dX5_freeAt_30 (fun r7 σ6 H locs hq hw => ?_)
          exact w_iret hB hw hq dX5_freeAt_33
set_option maxHeartbeats 4000000 in
set_option maxRecDepth 100000 in
theorem c_X5_freeAt (l : Launch) (D : va_G) (ad ln : Nat → Nat) (cI cZ : ClassId) (σ : CS) (p1 : Int32) (post : Int32 → CS → Prop) (hq : wp_X5_freeAt ln σ p1 post) : MtI l D (tyM cI cZ) (cellsM ad ln cI cZ) yX5_freeAt cX5_freeAt 4 (some .int) (rmK 1) [.ref (ad 0), .int p1] σ post := by
  refine MtI_of (by decide) (Nat.le_of_ble_eq_true rfl) ?_
  intro p e s m below meth c A ls hB hw hl
  replace hB : MB p s m _ meth c cX5_freeAt 4 (some .int) RX5 := hB
  replace hl : lv_has ls 4 [(0, .ref (ad 0)), (1, .int p1)] := hl
  obtain ⟨hx, hb, hr, hml, hown, hts, hlk⟩ := id hB
  unfold wp_X5_freeAt at hq
  refine lv_aload_n hx hb dX5_freeAt_0 rfl (lv_at hl 0 rfl) ?_
  refine lv_iconst (v := 0) hx hb dX5_freeAt_1 (by decide) ?_
  refine pM_0_0 hB hw m171 dX5_freeAt_2 (fun H locs hw => ?_)
  refine lv_iload_n hx hb dX5_freeAt_5 rfl (lv_at hl 1 rfl) ?_
  refine lv_istore_n (lv' := [(2, .int p1), (0, .ref (ad 0)), (1, .int p1)]) hx hb dX5_freeAt_6 rfl hl (by decide) rfl (fun ls hl => ?_)
  refine lv_iconst (v := 0) hx hb dX5_freeAt_7 (by decide) ?_
  refine lv_istore_n (lv' := [(3, .int 0), (2, .int p1), (0, .ref (ad 0)), (1, .int p1)]) hx hb dX5_freeAt_8 rfl hl (by decide) rfl (fun ls hl => ?_)
  obtain ⟨n8, hq⟩ := hq
  refine wl_X5_freeAt_9 hB  (fun σ9 H locs ls hq hw hl => ?_) n8 (setF σ 0 0) p1 0 _ _ _ hq hw (lv_sub hl [2, 1, 0] rfl)
  refine lv_iconst (v := (-1)) hx hb dX5_freeAt_43 (by decide) ?_
  exact w_iret hB hw hq dX5_freeAt_44
theorem ok_X5_freeAt : okY yX5_freeAt 1 := ⟨by decide, by decide, by decide +kernel⟩
/-! X5_branch -/
def lb_X5_branch_100 (ln : Nat → Nat) (post : Int32 → CS → Prop)  (Kx : CS → Int32 → Int32 → Prop) (x2 x4 : Int32) (Kb : CS → Int32 → Int32 → Int32 → Prop) (σ : CS) (x5 x6 x7 : Int32) : Prop :=
  ((x7 = x4 → Kx σ x5 x6) ∧ (¬ x7 = x4 → ((x4 ≤ x7 → ((x4 ≤ x7 → wp_X5_top ln σ x5 x7 (fun r11 σ10 => Kb σ10 x5 x7 r11)) ∧ (¬ x4 ≤ x7 → wp_X5_top ln σ x5 x6 (fun r13 σ12 => Kb σ12 x5 x6 r13)))) ∧ (¬ x4 ≤ x7 → ((x4 ≤ x7 → wp_X5_top ln σ (x7 + 1) x7 (fun r16 σ15 => Kb σ15 (x7 + 1) x7 r16)) ∧ (¬ x4 ≤ x7 → wp_X5_top ln σ (x7 + 1) x6 (fun r18 σ17 => Kb σ17 (x7 + 1) x6 r18)))))))
def lp_X5_branch_100 (ln : Nat → Nat) (post : Int32 → CS → Prop)  (Kx : CS → Int32 → Int32 → Prop) (x2 x4 : Int32) : Nat → CS → Int32 → Int32 → Int32 → Prop
  | 0 => fun _ _ _ _ => False
  | n + 1 => lb_X5_branch_100 ln post  Kx x2 x4 (lp_X5_branch_100 ln post  Kx x2 x4 n)
def jp_X5_branch_65 (ln : Nat → Nat) (post : Int32 → CS → Prop)  (σ : CS) (x1 x2 : Int32) : Prop :=
  (((σ.1 0) = 0 → wp_X5_top ln σ 0 (σ.1 1) (fun r6 σ5 => (∃ n19 : Nat, lp_X5_branch_100 ln post  (fun σ20 x5_21 x6_22 => ((¬ x2 = 2 → ((¬ x2 = 0 → wp_X5_top ln σ20 (((x1 / 4) - 1) + 1) x6_22 (fun r26 σ25 => ((¬ r26 = (-1) → wp_X5_address ln σ25 r26 (fun r29 σ28 => post r29 σ28)) ∧ (r26 = (-1) → post 0 σ25)))) ∧ (x2 = 0 → wp_X5_top ln σ20 x5_21 ((x1 / 4) - 1) (fun r31 σ30 => ((¬ r31 = (-1) → wp_X5_address ln σ30 r31 (fun r34 σ33 => post r34 σ33)) ∧ (r31 = (-1) → post 0 σ30)))))) ∧ (x2 = 2 → (vp_in ((x1 / 4) - 1) (ln 1) ∧ post (4 * ((σ20.2 1) ((x1 / 4) - 1).toNatClampNeg)) σ20)))) x2 ((x1 / 4) - 1) n19 σ5 0 (σ.1 1) r6))) ∧ (¬ (σ.1 0) = 0 → post 0 σ))
def jp_X5_branch_39 (ln : Nat → Nat) (post : Int32 → CS → Prop)  (σ : CS) (x1 x2 x3 : Int32) : Prop :=
  ((¬ x3 = 0 → ((x2 < 0 → jp_X5_branch_65 ln post  (setF σ 0 2) x1 x2) ∧ (¬ x2 < 0 → ((x2 ≤ 2 → jp_X5_branch_65 ln post  (setF σ 0 0) x1 x2) ∧ (¬ x2 ≤ 2 → jp_X5_branch_65 ln post  (setF σ 0 2) x1 x2))))) ∧ (x3 = 0 → jp_X5_branch_65 ln post  (setF σ 0 1) x1 x2))
def wp_X5_branch (ln : Nat → Nat) (σ : CS) (p1 p2 : Int32) (post : Int32 → CS → Prop) : Prop :=
  ((p1 < 4 → jp_X5_branch_39 ln post  σ p1 p2 0) ∧ (¬ p1 < 4 → ((¬ (p1 - p1 / 4 * 4) = 0 → jp_X5_branch_39 ln post  σ p1 p2 0) ∧ ((p1 - p1 / 4 * 4) = 0 → (((σ.1 1) < (p1 / 4) → jp_X5_branch_39 ln post  σ p1 p2 0) ∧ (¬ (σ.1 1) < (p1 / 4) → wp_X5_isFree ln σ ((p1 / 4) - 1) (fun r40 σ39 => ((r40 = 0 → jp_X5_branch_39 ln post  σ39 p1 p2 0) ∧ (¬ r40 = 0 → jp_X5_branch_39 ln post  σ39 p1 p2 1)))))))))
set_option maxHeartbeats 4000000 in
set_option maxRecDepth 100000 in
theorem wl_X5_branch_100 {p : Program} {l : Launch} {e : Env} {s : State} {m : MethodId} {args : Array Value} {below : List Frame} {meth : Method} {c : Code} {D : va_G} {ad ln : Nat → Nat} {cI cZ : ClassId} {A : Nat → Prop} {post : Int32 → CS → Prop}  {Kx : CS → Int32 → Int32 → Prop} {x2 x4 : Int32} (hB : MB p s m args meth c cX5_branch 9 (some .int) RX5)  (hKx : ∀ (σ : CS) (x5 x6 : Int32) (H : Heap) (locs : List Loc) (ls : Array Slot), Kx σ x5 x6 → WD D (tyM cI cZ) (cellsM ad ln cI cZ σ) A s H locs → lv_has ls 9 [(0, .ref (ad 0)), (2, .int x2), (4, .int x4), (5, .int x5), (6, .int x6)] → W p l e (rmK 2) s m args below meth c H locs 0 0 (MQ below (va_Qi post (Pos0 D (tyM cI cZ) (cellsM ad ln cI cZ) A) A) args s 0 0 A) (F0 m 154 ls [])) :
    ∀ (n : Nat) (σ : CS) (x5 x6 x7 : Int32) (H : Heap) (locs : List Loc) (ls : Array Slot), lp_X5_branch_100 ln post  Kx x2 x4 n σ x5 x6 x7 → WD D (tyM cI cZ) (cellsM ad ln cI cZ σ) A s H locs → lv_has ls 9 [(0, .ref (ad 0)), (2, .int x2), (4, .int x4), (5, .int x5), (6, .int x6), (7, .int x7)] → W p l e (rmK 2) s m args below meth c H locs 0 0 (MQ below (va_Qi post (Pos0 D (tyM cI cZ) (cellsM ad ln cI cZ) A) A) args s 0 0 A) (F0 m 100 ls []) := by
  obtain ⟨hx, hb, hr, hml, hown, hts, hlk⟩ := id hB
  intro n
  induction n with
  | zero => intro σ x5 x6 x7 H locs ls hq hw hl; exact hq.elim
  | succ n ih =>
    intro σ x5 x6 x7 H locs ls hq hw hl
    replace hq : lb_X5_branch_100 ln post  Kx x2 x4 (lp_X5_branch_100 ln post  Kx x2 x4 n) σ x5 x6 x7 := hq
    refine lv_iload hx hb dX5_branch_100 (lv_at hl 5 rfl) ?_
    refine lv_iload hx hb dX5_branch_102 (lv_at hl 2 rfl) ?_
    refine lv_icmp_eq (tgt := 154) hx hb dX5_branch_104 (by decide) (fun c7 => ?_) (fun c7 => ?_)
    · replace hq := hq.1 c7
      exact hKx σ x5 x6 _ _ _ hq hw (lv_sub hl [0, 1, 2, 3, 4] rfl)
    · replace hq := hq.2 c7
      refine lv_iload hx hb dX5_branch_107 (lv_at hl 5 rfl) ?_
      refine lv_iload hx hb dX5_branch_109 (lv_at hl 2 rfl) ?_
      refine lv_icmp_ge (tgt := 121) hx hb dX5_branch_111 (by decide) (fun c8 => ?_) (fun c8 => ?_)
      · replace hq := hq.1 c8
        refine lv_iload hx hb dX5_branch_121 (lv_at hl 3 rfl) ?_
        refine lv_istore (lv' := [(5, .int x5), (0, .ref (ad 0)), (2, .int x2), (4, .int x4), (6, .int x6), (7, .int x7)]) hx hb dX5_branch_123 hl (by decide) rfl (fun ls hl => ?_)
        refine lv_iload hx hb dX5_branch_125 (lv_at hl 5 rfl) ?_
        refine lv_iload hx hb dX5_branch_127 (lv_at hl 3 rfl) ?_
        refine lv_icmp_ge (tgt := 137) hx hb dX5_branch_129 (by decide) (fun c9 => ?_) (fun c9 => ?_)
        · replace hq := hq.1 c9
          refine lv_iload hx hb dX5_branch_137 (lv_at hl 5 rfl) ?_
          refine lv_istore (lv' := [(6, .int x7), (5, .int x5), (0, .ref (ad 0)), (2, .int x2), (4, .int x4), (7, .int x7)]) hx hb dX5_branch_139 hl (by decide) rfl (fun ls hl => ?_)
          refine lv_aload_n hx hb dX5_branch_141 rfl (lv_at hl 2 rfl) ?_
          refine lv_iload hx hb dX5_branch_142 (lv_at hl 1 rfl) ?_
          refine lv_iload hx hb dX5_branch_144 (lv_at hl 0 rfl) ?_
          refine w_cVI (As := [.int x5, .int x7]) (rest := []) hB hw hl.1 (c_X5_top l D ad ln cI cZ σ x5 x7 _ hq) m406 m276 m490 m188 m111 rfl ok_X5_top (okR_K (by decide) (by decide)) (q0 := 0) (ci := 5) rfl rfl rfl rfl (Nat.le_of_ble_eq_true rfl) dX5_branch_146 (fun r11 σ10 H locs hq hw => ?_)
          refine lv_istore (lv' := [(7, .int r11), (6, .int x7), (5, .int x5), (0, .ref (ad 0)), (2, .int x2), (4, .int x4)]) hx hb dX5_branch_149 hl (by decide) rfl (fun ls hl => ?_)
          refine lv_goto (tgt := 100) hx hb dX5_branch_151 (by decide) ?_
          exact ih σ10 x5 x7 r11 _ _ _ hq hw (lv_sub hl [3, 4, 5, 2, 1, 0] rfl)
        · replace hq := hq.2 c9
          refine lv_iload hx hb dX5_branch_132 (lv_at hl 4 rfl) ?_
          refine lv_goto (tgt := 139) hx hb dX5_branch_134 (by decide) ?_
          refine lv_istore (lv' := [(6, .int x6), (5, .int x5), (0, .ref (ad 0)), (2, .int x2), (4, .int x4), (7, .int x7)]) hx hb dX5_branch_139 hl (by decide) rfl (fun ls hl => ?_)
          refine lv_aload_n hx hb dX5_branch_141 rfl (lv_at hl 2 rfl) ?_
          refine lv_iload hx hb dX5_branch_142 (lv_at hl 1 rfl) ?_
          refine lv_iload hx hb dX5_branch_144 (lv_at hl 0 rfl) ?_
          refine w_cVI (As := [.int x5, .int x6]) (rest := []) hB hw hl.1 (c_X5_top l D ad ln cI cZ σ x5 x6 _ hq) m406 m276 m490 m188 m111 rfl ok_X5_top (okR_K (by decide) (by decide)) (q0 := 0) (ci := 5) rfl rfl rfl rfl (Nat.le_of_ble_eq_true rfl) dX5_branch_146 (fun r13 σ12 H locs hq hw => ?_)
          refine lv_istore (lv' := [(7, .int r13), (6, .int x6), (5, .int x5), (0, .ref (ad 0)), (2, .int x2), (4, .int x4)]) hx hb dX5_branch_149 hl (by decide) rfl (fun ls hl => ?_)
          refine lv_goto (tgt := 100) hx hb dX5_branch_151 (by decide) ?_
          exact ih σ12 x5 x6 r13 _ _ _ hq hw (lv_sub hl [3, 4, 5, 2, 1, 0] rfl)
      · replace hq := hq.2 c8
        refine lv_iload hx hb dX5_branch_114 (lv_at hl 5 rfl) ?_
        refine lv_iconst (v := 1) hx hb dX5_branch_116 (by decide) ?_
        refine lv_iadd hx hb dX5_branch_117 ?_
        refine lv_goto (tgt := 123) hx hb dX5_branch_118 (by decide) ?_
        refine lv_istore (lv' := [(5, .int (x7 + 1)), (0, .ref (ad 0)), (2, .int x2), (4, .int x4), (6, .int x6), (7, .int x7)]) hx hb dX5_branch_123 hl (by decide) rfl (fun ls hl => ?_)
        refine lv_iload hx hb dX5_branch_125 (lv_at hl 5 rfl) ?_
        refine lv_iload hx hb dX5_branch_127 (lv_at hl 3 rfl) ?_
        refine lv_icmp_ge (tgt := 137) hx hb dX5_branch_129 (by decide) (fun c14 => ?_) (fun c14 => ?_)
        · replace hq := hq.1 c14
          refine lv_iload hx hb dX5_branch_137 (lv_at hl 5 rfl) ?_
          refine lv_istore (lv' := [(6, .int x7), (5, .int (x7 + 1)), (0, .ref (ad 0)), (2, .int x2), (4, .int x4), (7, .int x7)]) hx hb dX5_branch_139 hl (by decide) rfl (fun ls hl => ?_)
          refine lv_aload_n hx hb dX5_branch_141 rfl (lv_at hl 2 rfl) ?_
          refine lv_iload hx hb dX5_branch_142 (lv_at hl 1 rfl) ?_
          refine lv_iload hx hb dX5_branch_144 (lv_at hl 0 rfl) ?_
          refine w_cVI (As := [.int (x7 + 1), .int x7]) (rest := []) hB hw hl.1 (c_X5_top l D ad ln cI cZ σ (x7 + 1) x7 _ hq) m406 m276 m490 m188 m111 rfl ok_X5_top (okR_K (by decide) (by decide)) (q0 := 0) (ci := 5) rfl rfl rfl rfl (Nat.le_of_ble_eq_true rfl) dX5_branch_146 (fun r16 σ15 H locs hq hw => ?_)
          refine lv_istore (lv' := [(7, .int r16), (6, .int x7), (5, .int (x7 + 1)), (0, .ref (ad 0)), (2, .int x2), (4, .int x4)]) hx hb dX5_branch_149 hl (by decide) rfl (fun ls hl => ?_)
          refine lv_goto (tgt := 100) hx hb dX5_branch_151 (by decide) ?_
          exact ih σ15 (x7 + 1) x7 r16 _ _ _ hq hw (lv_sub hl [3, 4, 5, 2, 1, 0] rfl)
        · replace hq := hq.2 c14
          refine lv_iload hx hb dX5_branch_132 (lv_at hl 4 rfl) ?_
          refine lv_goto (tgt := 139) hx hb dX5_branch_134 (by decide) ?_
          refine lv_istore (lv' := [(6, .int x6), (5, .int (x7 + 1)), (0, .ref (ad 0)), (2, .int x2), (4, .int x4), (7, .int x7)]) hx hb dX5_branch_139 hl (by decide) rfl (fun ls hl => ?_)
          refine lv_aload_n hx hb dX5_branch_141 rfl (lv_at hl 2 rfl) ?_
          refine lv_iload hx hb dX5_branch_142 (lv_at hl 1 rfl) ?_
          refine lv_iload hx hb dX5_branch_144 (lv_at hl 0 rfl) ?_
          refine w_cVI (As := [.int (x7 + 1), .int x6]) (rest := []) hB hw hl.1 (c_X5_top l D ad ln cI cZ σ (x7 + 1) x6 _ hq) m406 m276 m490 m188 m111 rfl ok_X5_top (okR_K (by decide) (by decide)) (q0 := 0) (ci := 5) rfl rfl rfl rfl (Nat.le_of_ble_eq_true rfl) dX5_branch_146 (fun r18 σ17 H locs hq hw => ?_)
          refine lv_istore (lv' := [(7, .int r18), (6, .int x6), (5, .int (x7 + 1)), (0, .ref (ad 0)), (2, .int x2), (4, .int x4)]) hx hb dX5_branch_149 hl (by decide) rfl (fun ls hl => ?_)
          refine lv_goto (tgt := 100) hx hb dX5_branch_151 (by decide) ?_
          exact ih σ17 (x7 + 1) x6 r18 _ _ _ hq hw (lv_sub hl [3, 4, 5, 2, 1, 0] rfl)
set_option maxHeartbeats 4000000 in
set_option maxRecDepth 100000 in
theorem wj_X5_branch_65 {p : Program} {l : Launch} {e : Env} {s : State} {m : MethodId} {args : Array Value} {below : List Frame} {meth : Method} {c : Code} {D : va_G} {ad ln : Nat → Nat} {cI cZ : ClassId} {A : Nat → Prop} {post : Int32 → CS → Prop}  (hB : MB p s m args meth c cX5_branch 9 (some .int) RX5) (σ : CS) (x1 x2 : Int32) (H : Heap) (locs : List Loc) (ls : Array Slot)  (hq : jp_X5_branch_65 ln post  σ x1 x2) (hw : WD D (tyM cI cZ) (cellsM ad ln cI cZ σ) A s H locs) (hl : lv_has ls 9 [(0, .ref (ad 0)), (1, .int x1), (2, .int x2)]) : W p l e (rmK 2) s m args below meth c H locs 0 0 (MQ below (va_Qi post (Pos0 D (tyM cI cZ) (cellsM ad ln cI cZ) A) A) args s 0 0 A) (F0 m 65 ls []) := by
  obtain ⟨hx, hb, hr, hml, hown, hts, hlk⟩ := id hB
  unfold jp_X5_branch_65 at hq
  refine lv_aload_n hx hb dX5_branch_65 rfl (lv_at hl 0 rfl) ?_
  refine gM_0_0 (x := σ.1 0) hB hw m171 rfl dX5_branch_66 ?_
  refine lv_if_eq (tgt := 74) hx hb dX5_branch_69 (by decide) (fun c4 => ?_) (fun c4 => ?_)
  · replace hq := hq.1 c4
    refine lv_iload_n hx hb dX5_branch_74 rfl (lv_at hl 1 rfl) ?_
    refine lv_iconst (v := 4) hx hb dX5_branch_75 (by decide) ?_
    refine lv_idiv hx hb dX5_branch_76 (by decide) ?_
    refine lv_iconst (v := 1) hx hb dX5_branch_77 (by decide) ?_
    refine lv_isub hx hb dX5_branch_78 ?_
    refine lv_istore (lv' := [(4, .int ((x1 / 4) - 1)), (0, .ref (ad 0)), (1, .int x1), (2, .int x2)]) hx hb dX5_branch_79 hl (by decide) rfl (fun ls hl => ?_)
    refine lv_iconst (v := 0) hx hb dX5_branch_81 (by decide) ?_
    refine lv_istore (lv' := [(5, .int 0), (4, .int ((x1 / 4) - 1)), (0, .ref (ad 0)), (1, .int x1), (2, .int x2)]) hx hb dX5_branch_82 hl (by decide) rfl (fun ls hl => ?_)
    refine lv_aload_n hx hb dX5_branch_84 rfl (lv_at hl 2 rfl) ?_
    refine gM_0_1 (x := σ.1 1) hB hw m170 rfl dX5_branch_85 ?_
    refine lv_istore (lv' := [(6, .int (σ.1 1)), (5, .int 0), (4, .int ((x1 / 4) - 1)), (0, .ref (ad 0)), (1, .int x1), (2, .int x2)]) hx hb dX5_branch_88 hl (by decide) rfl (fun ls hl => ?_)
    refine lv_aload_n hx hb dX5_branch_90 rfl (lv_at hl 3 rfl) ?_
    refine lv_iload hx hb dX5_branch_91 (lv_at hl 1 rfl) ?_
    refine lv_iload hx hb dX5_branch_93 (lv_at hl 0 rfl) ?_
    refine w_cVI (As := [.int 0, .int (σ.1 1)]) (rest := []) hB hw hl.1 (c_X5_top l D ad ln cI cZ σ 0 (σ.1 1) _ hq) m406 m276 m490 m188 m111 rfl ok_X5_top (okR_K (by decide) (by decide)) (q0 := 0) (ci := 5) rfl rfl rfl rfl (Nat.le_of_ble_eq_true rfl) dX5_branch_95 (fun r6 σ5 H locs hq hw => ?_)
    refine lv_istore (lv' := [(7, .int r6), (6, .int (σ.1 1)), (5, .int 0), (4, .int ((x1 / 4) - 1)), (0, .ref (ad 0)), (1, .int x1), (2, .int x2)]) hx hb dX5_branch_98 hl (by decide) rfl (fun ls hl => ?_)
    obtain ⟨n19, hq⟩ := hq
    refine wl_X5_branch_100 hB  (fun σ20 x5_21 x6_22 H locs ls hq hw hl => ?_) n19 σ5 0 (σ.1 1) r6 _ _ _ hq hw (lv_sub hl [4, 6, 3, 2, 1, 0] rfl)
    refine lv_iload_n hx hb dX5_branch_154 rfl (lv_at hl 1 rfl) ?_
    refine lv_iconst (v := 2) hx hb dX5_branch_155 (by decide) ?_
    refine lv_icmp_ne (tgt := 169) hx hb dX5_branch_156 (by decide) (fun c23 => ?_) (fun c23 => ?_)
    · replace hq := hq.1 c23
      refine lv_iload_n hx hb dX5_branch_169 rfl (lv_at hl 1 rfl) ?_
      refine lv_if_ne (tgt := 184) hx hb dX5_branch_170 (by decide) (fun c24 => ?_) (fun c24 => ?_)
      · replace hq := hq.1 c24
        refine lv_aload_n hx hb dX5_branch_184 rfl (lv_at hl 0 rfl) ?_
        refine lv_iload hx hb dX5_branch_185 (lv_at hl 2 rfl) ?_
        refine lv_iconst (v := 1) hx hb dX5_branch_187 (by decide) ?_
        refine lv_iadd hx hb dX5_branch_188 ?_
        refine lv_iload hx hb dX5_branch_189 (lv_at hl 4 rfl) ?_
        refine w_cVI (As := [.int (((x1 / 4) - 1) + 1), .int x6_22]) (rest := []) hB hw hl.1 (c_X5_top l D ad ln cI cZ σ20 (((x1 / 4) - 1) + 1) x6_22 _ hq) m406 m276 m490 m188 m111 rfl ok_X5_top (okR_K (by decide) (by decide)) (q0 := 0) (ci := 5) rfl rfl rfl rfl (Nat.le_of_ble_eq_true rfl) dX5_branch_191 (fun r26 σ25 H locs hq hw => ?_)
        refine lv_istore (lv' := [(8, .int r26), (0, .ref (ad 0)), (2, .int x2), (4, .int ((x1 / 4) - 1)), (5, .int x5_21), (6, .int x6_22)]) hx hb dX5_branch_194 hl (by decide) rfl (fun ls hl => ?_)
        refine lv_iload hx hb dX5_branch_196 (lv_at hl 0 rfl) ?_
        refine lv_iconst (v := (-1)) hx hb dX5_branch_198 (by decide) ?_
        refine lv_icmp_ne (tgt := 206) hx hb dX5_branch_199 (by decide) (fun c27 => ?_) (fun c27 => ?_)
        · replace hq := hq.1 c27
          refine lv_iload hx hb dX5_branch_206 (lv_at hl 0 rfl) ?_
          refine w_cSI (As := [.int r26]) (rest := []) hB hw hl.1 (c_X5_address l D ad ln cI cZ σ25 r26 _ hq) m399 m506 m188 m82 ok_X5_address (okR_K (by decide) (by decide)) rfl rfl (Nat.le_of_ble_eq_true rfl) dX5_branch_208 (fun r29 σ28 H locs hq hw => ?_)
          exact w_iret hB hw hq dX5_branch_211
        · replace hq := hq.2 c27
          refine lv_iconst (v := 0) hx hb dX5_branch_202 (by decide) ?_
          refine lv_goto (tgt := 211) hx hb dX5_branch_203 (by decide) ?_
          exact w_iret hB hw hq dX5_branch_211
      · replace hq := hq.2 c24
        refine lv_aload_n hx hb dX5_branch_173 rfl (lv_at hl 0 rfl) ?_
        refine lv_iload hx hb dX5_branch_174 (lv_at hl 3 rfl) ?_
        refine lv_iload hx hb dX5_branch_176 (lv_at hl 2 rfl) ?_
        refine w_cVI (As := [.int x5_21, .int ((x1 / 4) - 1)]) (rest := []) hB hw hl.1 (c_X5_top l D ad ln cI cZ σ20 x5_21 ((x1 / 4) - 1) _ hq) m406 m276 m490 m188 m111 rfl ok_X5_top (okR_K (by decide) (by decide)) (q0 := 0) (ci := 5) rfl rfl rfl rfl (Nat.le_of_ble_eq_true rfl) dX5_branch_178 (fun r31 σ30 H locs hq hw => ?_)
        refine lv_goto (tgt := 194) hx hb dX5_branch_181 (by decide) ?_
        refine lv_istore (lv' := [(8, .int r31), (0, .ref (ad 0)), (2, .int x2), (4, .int ((x1 / 4) - 1)), (5, .int x5_21), (6, .int x6_22)]) hx hb dX5_branch_194 hl (by decide) rfl (fun ls hl => ?_)
        refine lv_iload hx hb dX5_branch_196 (lv_at hl 0 rfl) ?_
        refine lv_iconst (v := (-1)) hx hb dX5_branch_198 (by decide) ?_
        refine lv_icmp_ne (tgt := 206) hx hb dX5_branch_199 (by decide) (fun c32 => ?_) (fun c32 => ?_)
        · replace hq := hq.1 c32
          refine lv_iload hx hb dX5_branch_206 (lv_at hl 0 rfl) ?_
          refine w_cSI (As := [.int r31]) (rest := []) hB hw hl.1 (c_X5_address l D ad ln cI cZ σ30 r31 _ hq) m399 m506 m188 m82 ok_X5_address (okR_K (by decide) (by decide)) rfl rfl (Nat.le_of_ble_eq_true rfl) dX5_branch_208 (fun r34 σ33 H locs hq hw => ?_)
          exact w_iret hB hw hq dX5_branch_211
        · replace hq := hq.2 c32
          refine lv_iconst (v := 0) hx hb dX5_branch_202 (by decide) ?_
          refine lv_goto (tgt := 211) hx hb dX5_branch_203 (by decide) ?_
          exact w_iret hB hw hq dX5_branch_211
    · replace hq := hq.2 c23
      refine lv_iconst (v := 4) hx hb dX5_branch_159 (by decide) ?_
      refine lv_aload_n hx hb dX5_branch_160 rfl (lv_at hl 0 rfl) ?_
      refine gM_0_2 hB hw m172 dX5_branch_161 ?_
      refine lv_iload hx hb dX5_branch_164 (lv_at hl 2 rfl) ?_
      obtain ⟨h35, hq⟩ := hq
      refine aM_1 (f := (σ20.2 1)) hB hw rfl h35 dX5_branch_166 ?_
      refine lv_imul hx hb dX5_branch_167 ?_
      exact w_iret hB hw hq dX5_branch_168
  · replace hq := hq.2 c4
    refine lv_iconst (v := 0) hx hb dX5_branch_72 (by decide) ?_
    exact w_iret hB hw hq dX5_branch_73
set_option maxHeartbeats 4000000 in
set_option maxRecDepth 100000 in
theorem wj_X5_branch_39 {p : Program} {l : Launch} {e : Env} {s : State} {m : MethodId} {args : Array Value} {below : List Frame} {meth : Method} {c : Code} {D : va_G} {ad ln : Nat → Nat} {cI cZ : ClassId} {A : Nat → Prop} {post : Int32 → CS → Prop}  (hB : MB p s m args meth c cX5_branch 9 (some .int) RX5) (σ : CS) (x1 x2 x3 : Int32) (H : Heap) (locs : List Loc) (ls : Array Slot)  (hq : jp_X5_branch_39 ln post  σ x1 x2 x3) (hw : WD D (tyM cI cZ) (cellsM ad ln cI cZ σ) A s H locs) (hl : lv_has ls 9 [(0, .ref (ad 0)), (1, .int x1), (2, .int x2), (3, .int x3)]) : W p l e (rmK 2) s m args below meth c H locs 0 0 (MQ below (va_Qi post (Pos0 D (tyM cI cZ) (cellsM ad ln cI cZ) A) A) args s 0 0 A) (F0 m 39 ls []) := by
  obtain ⟨hx, hb, hr, hml, hown, hts, hlk⟩ := id hB
  unfold jp_X5_branch_39 at hq
  refine lv_aload_n hx hb dX5_branch_39 rfl (lv_at hl 0 rfl) ?_
  refine lv_iload_n hx hb dX5_branch_40 rfl (lv_at hl 3 rfl) ?_
  refine lv_if_ne (tgt := 48) hx hb dX5_branch_41 (by decide) (fun c2 => ?_) (fun c2 => ?_)
  · replace hq := hq.1 c2
    refine lv_iload_n hx hb dX5_branch_48 rfl (lv_at hl 2 rfl) ?_
    refine lv_if_lt (tgt := 57) hx hb dX5_branch_49 (by decide) (fun c3 => ?_) (fun c3 => ?_)
    · replace hq := hq.1 c3
      refine lv_iconst (v := 2) hx hb dX5_branch_57 (by decide) ?_
      refine lv_goto (tgt := 62) hx hb dX5_branch_58 (by decide) ?_
      refine pM_0_0 hB hw m171 dX5_branch_62 (fun H locs hw => ?_)
      exact wj_X5_branch_65 hB (setF σ 0 2) x1 x2 _ _ _  hq hw (lv_sub hl [0, 1, 2] rfl)
    · replace hq := hq.2 c3
      refine lv_iload_n hx hb dX5_branch_52 rfl (lv_at hl 2 rfl) ?_
      refine lv_iconst (v := 2) hx hb dX5_branch_53 (by decide) ?_
      refine lv_icmp_le (tgt := 61) hx hb dX5_branch_54 (by decide) (fun c36 => ?_) (fun c36 => ?_)
      · replace hq := hq.1 c36
        refine lv_iconst (v := 0) hx hb dX5_branch_61 (by decide) ?_
        refine pM_0_0 hB hw m171 dX5_branch_62 (fun H locs hw => ?_)
        exact wj_X5_branch_65 hB (setF σ 0 0) x1 x2 _ _ _  hq hw (lv_sub hl [0, 1, 2] rfl)
      · replace hq := hq.2 c36
        refine lv_iconst (v := 2) hx hb dX5_branch_57 (by decide) ?_
        refine lv_goto (tgt := 62) hx hb dX5_branch_58 (by decide) ?_
        refine pM_0_0 hB hw m171 dX5_branch_62 (fun H locs hw => ?_)
        exact wj_X5_branch_65 hB (setF σ 0 2) x1 x2 _ _ _  hq hw (lv_sub hl [0, 1, 2] rfl)
  · replace hq := hq.2 c2
    refine lv_iconst (v := 1) hx hb dX5_branch_44 (by decide) ?_
    refine lv_goto (tgt := 62) hx hb dX5_branch_45 (by decide) ?_
    refine pM_0_0 hB hw m171 dX5_branch_62 (fun H locs hw => ?_)
    exact wj_X5_branch_65 hB (setF σ 0 1) x1 x2 _ _ _  hq hw (lv_sub hl [0, 1, 2] rfl)
set_option maxHeartbeats 4000000 in
set_option maxRecDepth 100000 in
theorem c_X5_branch (l : Launch) (D : va_G) (ad ln : Nat → Nat) (cI cZ : ClassId) (σ : CS) (p1 p2 : Int32) (post : Int32 → CS → Prop) (hq : wp_X5_branch ln σ p1 p2 post) : MtI l D (tyM cI cZ) (cellsM ad ln cI cZ) yX5_branch cX5_branch 9 (some .int) (rmK 2) [.ref (ad 0), .int p1, .int p2] σ post := by
  refine MtI_of (by decide) (Nat.le_of_ble_eq_true rfl) ?_
  intro p e s m below meth c A ls hB hw hl
  replace hB : MB p s m _ meth c cX5_branch 9 (some .int) RX5 := hB
  replace hl : lv_has ls 9 [(0, .ref (ad 0)), (1, .int p1), (2, .int p2)] := hl
  obtain ⟨hx, hb, hr, hml, hown, hts, hlk⟩ := id hB
  unfold wp_X5_branch at hq
  refine lv_iload_n hx hb dX5_branch_0 rfl (lv_at hl 1 rfl) ?_
  refine lv_iconst (v := 4) hx hb dX5_branch_1 (by decide) ?_
  refine lv_icmp_lt (tgt := 37) hx hb dX5_branch_2 (by decide) (fun c1 => ?_) (fun c1 => ?_)
  · replace hq := hq.1 c1
    refine lv_iconst (v := 0) hx hb dX5_branch_37 (by decide) ?_
    refine lv_istore_n (lv' := [(3, .int 0), (0, .ref (ad 0)), (1, .int p1), (2, .int p2)]) hx hb dX5_branch_38 rfl hl (by decide) rfl (fun ls hl => ?_)
    exact wj_X5_branch_39 hB σ p1 p2 0 _ _ _  hq hw (lv_sub hl [1, 2, 3, 0] rfl)
  · replace hq := hq.2 c1
    refine lv_iload_n hx hb dX5_branch_5 rfl (lv_at hl 1 rfl) ?_
    refine lv_iconst (v := 4) hx hb dX5_branch_6 (by decide) ?_
    refine lv_irem hx hb dX5_branch_7 (by decide) ?_
    refine lv_if_ne (tgt := 37) hx hb dX5_branch_8 (by decide) (fun c37 => ?_) (fun c37 => ?_)
    · replace hq := hq.1 c37
      refine lv_iconst (v := 0) hx hb dX5_branch_37 (by decide) ?_
      refine lv_istore_n (lv' := [(3, .int 0), (0, .ref (ad 0)), (1, .int p1), (2, .int p2)]) hx hb dX5_branch_38 rfl hl (by decide) rfl (fun ls hl => ?_)
      exact wj_X5_branch_39 hB σ p1 p2 0 _ _ _  hq hw (lv_sub hl [1, 2, 3, 0] rfl)
    · replace hq := hq.2 c37
      refine lv_iload_n hx hb dX5_branch_11 rfl (lv_at hl 1 rfl) ?_
      refine lv_iconst (v := 4) hx hb dX5_branch_12 (by decide) ?_
      refine lv_idiv hx hb dX5_branch_13 (by decide) ?_
      refine lv_aload_n hx hb dX5_branch_14 rfl (lv_at hl 0 rfl) ?_
      refine gM_0_1 (x := σ.1 1) hB hw m170 rfl dX5_branch_15 ?_
      refine lv_icmp_gt (tgt := 37) hx hb dX5_branch_18 (by decide) (fun c38 => ?_) (fun c38 => ?_)
      · replace hq := hq.1 c38
        refine lv_iconst (v := 0) hx hb dX5_branch_37 (by decide) ?_
        refine lv_istore_n (lv' := [(3, .int 0), (0, .ref (ad 0)), (1, .int p1), (2, .int p2)]) hx hb dX5_branch_38 rfl hl (by decide) rfl (fun ls hl => ?_)
        exact wj_X5_branch_39 hB σ p1 p2 0 _ _ _  hq hw (lv_sub hl [1, 2, 3, 0] rfl)
      · replace hq := hq.2 c38
        refine lv_aload_n hx hb dX5_branch_21 rfl (lv_at hl 0 rfl) ?_
        refine lv_iload_n hx hb dX5_branch_22 rfl (lv_at hl 1 rfl) ?_
        refine lv_iconst (v := 4) hx hb dX5_branch_23 (by decide) ?_
        refine lv_idiv hx hb dX5_branch_24 (by decide) ?_
        refine lv_iconst (v := 1) hx hb dX5_branch_25 (by decide) ?_
        refine lv_isub hx hb dX5_branch_26 ?_
        refine w_cVI (As := [.int ((p1 / 4) - 1)]) (rest := []) hB hw hl.1 (c_X5_isFree l D ad ln cI cZ σ ((p1 / 4) - 1) _ hq) m398 m265 m479 m188 m100 rfl ok_X5_isFree (okR_K (by decide) (by decide)) (q0 := 0) (ci := 5) rfl rfl rfl rfl (Nat.le_of_ble_eq_true rfl) dX5_branch_27 (fun r40 σ39 H locs hq hw => ?_)
        refine lv_if_eq (tgt := 37) hx hb dX5_branch_30 (by decide) (fun c41 => ?_) (fun c41 => ?_)
        · replace hq := hq.1 c41
          refine lv_iconst (v := 0) hx hb dX5_branch_37 (by decide) ?_
          refine lv_istore_n (lv' := [(3, .int 0), (0, .ref (ad 0)), (1, .int p1), (2, .int p2)]) hx hb dX5_branch_38 rfl hl (by decide) rfl (fun ls hl => ?_)
          exact wj_X5_branch_39 hB σ39 p1 p2 0 _ _ _  hq hw (lv_sub hl [1, 2, 3, 0] rfl)
        · replace hq := hq.2 c41
          refine lv_iconst (v := 1) hx hb dX5_branch_33 (by decide) ?_
          refine lv_goto (tgt := 38) hx hb dX5_branch_34 (by decide) ?_
          refine lv_istore_n (lv' := [(3, .int 1), (0, .ref (ad 0)), (1, .int p1), (2, .int p2)]) hx hb dX5_branch_38 rfl hl (by decide) rfl (fun ls hl => ?_)
          exact wj_X5_branch_39 hB σ39 p1 p2 1 _ _ _  hq hw (lv_sub hl [1, 2, 3, 0] rfl)
theorem ok_X5_branch : okY yX5_branch 2 := ⟨by decide, by decide, by decide +kernel⟩
/-! X5_windowEnd -/
def lb_X5_windowEnd_2 (ln : Nat → Nat) (post : Int32 → CS → Prop)  (Kx : CS → Int32 → Prop) (x1 x2 : Int32) (Kb : CS → Int32 → Prop) (σ : CS) (x3 : Int32) : Prop :=
  (((σ.1 1) ≤ x3 → Kx σ x3) ∧ (¬ (σ.1 1) ≤ x3 → ((0 ≤ (lg_cmp (4 * ((x3 - x1).toInt64)) x2.toInt64) → Kx σ x3) ∧ (¬ 0 ≤ (lg_cmp (4 * ((x3 - x1).toInt64)) x2.toInt64) → (vp_in x3 (ln 2) ∧ ((((σ.2 2) x3.toNatClampNeg) = 0 → (vp_in x3 (ln 1) ∧ Kb σ (x3 + ((σ.2 1) x3.toNatClampNeg)))) ∧ (¬ ((σ.2 2) x3.toNatClampNeg) = 0 → (vp_in x3 (ln 3) ∧ ((((σ.2 3) x3.toNatClampNeg) = 0 → (vp_in x3 (ln 1) ∧ Kb σ (x3 + ((σ.2 1) x3.toNatClampNeg)))) ∧ (¬ ((σ.2 3) x3.toNatClampNeg) = 0 → post (-1) σ))))))))))
def lp_X5_windowEnd_2 (ln : Nat → Nat) (post : Int32 → CS → Prop)  (Kx : CS → Int32 → Prop) (x1 x2 : Int32) : Nat → CS → Int32 → Prop
  | 0 => fun _ _ => False
  | n + 1 => lb_X5_windowEnd_2 ln post  Kx x1 x2 (lp_X5_windowEnd_2 ln post  Kx x1 x2 n)
def wp_X5_windowEnd (ln : Nat → Nat) (σ : CS) (p1 p2 : Int32) (post : Int32 → CS → Prop) : Prop :=
  (∃ n9 : Nat, lp_X5_windowEnd_2 ln post  (fun σ10 x3_11 => (((lg_cmp (4 * ((x3_11 - p1).toInt64)) p2.toInt64) < 0 → post (-1) σ10) ∧ (¬ (lg_cmp (4 * ((x3_11 - p1).toInt64)) p2.toInt64) < 0 → post x3_11 σ10))) p1 p2 n9 σ p1)
set_option maxHeartbeats 4000000 in
set_option maxRecDepth 100000 in
theorem wl_X5_windowEnd_2 {p : Program} {l : Launch} {e : Env} {s : State} {m : MethodId} {args : Array Value} {below : List Frame} {meth : Method} {c : Code} {D : va_G} {ad ln : Nat → Nat} {cI cZ : ClassId} {A : Nat → Prop} {post : Int32 → CS → Prop}  {Kx : CS → Int32 → Prop} {x1 x2 : Int32} (hB : MB p s m args meth c cX5_windowEnd 4 (some .int) RX5)  (hKx : ∀ (σ : CS) (x3 : Int32) (H : Heap) (locs : List Loc) (ls : Array Slot), Kx σ x3 → WD D (tyM cI cZ) (cellsM ad ln cI cZ σ) A s H locs → lv_has ls 4 [(1, .int x1), (2, .int x2), (3, .int x3)] → W p l e (rmK 0) s m args below meth c H locs 0 0 (MQ below (va_Qi post (Pos0 D (tyM cI cZ) (cellsM ad ln cI cZ) A) A) args s 0 0 A) (F0 m 56 ls [])) :
    ∀ (n : Nat) (σ : CS) (x3 : Int32) (H : Heap) (locs : List Loc) (ls : Array Slot), lp_X5_windowEnd_2 ln post  Kx x1 x2 n σ x3 → WD D (tyM cI cZ) (cellsM ad ln cI cZ σ) A s H locs → lv_has ls 4 [(0, .ref (ad 0)), (1, .int x1), (2, .int x2), (3, .int x3)] → W p l e (rmK 0) s m args below meth c H locs 0 0 (MQ below (va_Qi post (Pos0 D (tyM cI cZ) (cellsM ad ln cI cZ) A) A) args s 0 0 A) (F0 m 2 ls []) := by
  obtain ⟨hx, hb, hr, hml, hown, hts, hlk⟩ := id hB
  intro n
  induction n with
  | zero => intro σ x3 H locs ls hq hw hl; exact hq.elim
  | succ n ih =>
    intro σ x3 H locs ls hq hw hl
    replace hq : lb_X5_windowEnd_2 ln post  Kx x1 x2 (lp_X5_windowEnd_2 ln post  Kx x1 x2 n) σ x3 := hq
    refine lv_iload_n hx hb dX5_windowEnd_2 rfl (lv_at hl 3 rfl) ?_
    refine lv_aload_n hx hb dX5_windowEnd_3 rfl (lv_at hl 0 rfl) ?_
    refine gM_0_1 (x := σ.1 1) hB hw m170 rfl dX5_windowEnd_4 ?_
    refine lv_icmp_ge (tgt := 56) hx hb dX5_windowEnd_7 (by decide) (fun c1 => ?_) (fun c1 => ?_)
    · replace hq := hq.1 c1
      exact hKx σ x3 _ _ _ hq hw (lv_sub hl [1, 2, 3] rfl)
    · replace hq := hq.2 c1
      refine lv_ldc2 (v := 4) hx hb hown (hts _ m115) dX5_windowEnd_10 ?_
      refine lv_iload_n hx hb dX5_windowEnd_13 rfl (lv_at hl 3 rfl) ?_
      refine lv_iload_n hx hb dX5_windowEnd_14 rfl (lv_at hl 1 rfl) ?_
      refine lv_isub hx hb dX5_windowEnd_15 ?_
      refine lv_i2l hx hb dX5_windowEnd_16 rfl ?_
      refine lv_lmul hx hb dX5_windowEnd_17 ?_
      refine lv_iload_n hx hb dX5_windowEnd_18 rfl (lv_at hl 2 rfl) ?_
      refine lv_i2l hx hb dX5_windowEnd_19 rfl ?_
      refine W.lcmp hx hb dX5_windowEnd_20 ?_
      refine lv_if_ge (tgt := 56) hx hb dX5_windowEnd_21 (by decide) (fun c2 => ?_) (fun c2 => ?_)
      · replace hq := hq.1 c2
        exact hKx σ x3 _ _ _ hq hw (lv_sub hl [1, 2, 3] rfl)
      · replace hq := hq.2 c2
        refine lv_aload_n hx hb dX5_windowEnd_24 rfl (lv_at hl 0 rfl) ?_
        refine gM_0_3 hB hw m160 dX5_windowEnd_25 ?_
        refine lv_iload_n hx hb dX5_windowEnd_28 rfl (lv_at hl 3 rfl) ?_
        obtain ⟨h3, hq⟩ := hq
        refine aM_2 (f := (σ.2 2)) hB hw rfl h3 dX5_windowEnd_29 ?_
        refine lv_if_eq (tgt := 44) hx hb dX5_windowEnd_30 (by decide) (fun c4 => ?_) (fun c4 => ?_)
        · replace hq := hq.1 c4
          refine lv_iload_n hx hb dX5_windowEnd_44 rfl (lv_at hl 3 rfl) ?_
          refine lv_aload_n hx hb dX5_windowEnd_45 rfl (lv_at hl 0 rfl) ?_
          refine gM_0_2 hB hw m172 dX5_windowEnd_46 ?_
          refine lv_iload_n hx hb dX5_windowEnd_49 rfl (lv_at hl 3 rfl) ?_
          obtain ⟨h5, hq⟩ := hq
          refine aM_1 (f := (σ.2 1)) hB hw rfl h5 dX5_windowEnd_50 ?_
          refine lv_iadd hx hb dX5_windowEnd_51 ?_
          refine lv_istore_n (lv' := [(3, .int (x3 + ((σ.2 1) x3.toNatClampNeg))), (0, .ref (ad 0)), (1, .int x1), (2, .int x2)]) hx hb dX5_windowEnd_52 rfl hl (by decide) rfl (fun ls hl => ?_)
          refine lv_goto (tgt := 2) hx hb dX5_windowEnd_53 (by decide) ?_
          exact ih σ (x3 + ((σ.2 1) x3.toNatClampNeg)) _ _ _ hq hw (lv_sub hl [1, 2, 3, 0] rfl)
        · replace hq := hq.2 c4
          refine lv_aload_n hx hb dX5_windowEnd_33 rfl (lv_at hl 0 rfl) ?_
          refine gM_0_4 hB hw m161 dX5_windowEnd_34 ?_
          refine lv_iload_n hx hb dX5_windowEnd_37 rfl (lv_at hl 3 rfl) ?_
          obtain ⟨h6, hq⟩ := hq
          refine aM_3 (f := (σ.2 3)) hB hw rfl h6 dX5_windowEnd_38 ?_
          refine lv_if_eq (tgt := 44) hx hb dX5_windowEnd_39 (by decide) (fun c7 => ?_) (fun c7 => ?_)
          · replace hq := hq.1 c7
            refine lv_iload_n hx hb dX5_windowEnd_44 rfl (lv_at hl 3 rfl) ?_
            refine lv_aload_n hx hb dX5_windowEnd_45 rfl (lv_at hl 0 rfl) ?_
            refine gM_0_2 hB hw m172 dX5_windowEnd_46 ?_
            refine lv_iload_n hx hb dX5_windowEnd_49 rfl (lv_at hl 3 rfl) ?_
            obtain ⟨h8, hq⟩ := hq
            refine aM_1 (f := (σ.2 1)) hB hw rfl h8 dX5_windowEnd_50 ?_
            refine lv_iadd hx hb dX5_windowEnd_51 ?_
            refine lv_istore_n (lv' := [(3, .int (x3 + ((σ.2 1) x3.toNatClampNeg))), (0, .ref (ad 0)), (1, .int x1), (2, .int x2)]) hx hb dX5_windowEnd_52 rfl hl (by decide) rfl (fun ls hl => ?_)
            refine lv_goto (tgt := 2) hx hb dX5_windowEnd_53 (by decide) ?_
            exact ih σ (x3 + ((σ.2 1) x3.toNatClampNeg)) _ _ _ hq hw (lv_sub hl [1, 2, 3, 0] rfl)
          · replace hq := hq.2 c7
            refine lv_iconst (v := (-1)) hx hb dX5_windowEnd_42 (by decide) ?_
            exact w_iret hB hw hq dX5_windowEnd_43
set_option maxHeartbeats 4000000 in
set_option maxRecDepth 100000 in
theorem c_X5_windowEnd (l : Launch) (D : va_G) (ad ln : Nat → Nat) (cI cZ : ClassId) (σ : CS) (p1 p2 : Int32) (post : Int32 → CS → Prop) (hq : wp_X5_windowEnd ln σ p1 p2 post) : MtI l D (tyM cI cZ) (cellsM ad ln cI cZ) yX5_windowEnd cX5_windowEnd 4 (some .int) (rmK 0) [.ref (ad 0), .int p1, .int p2] σ post := by
  refine MtI_of (by decide) (Nat.le_of_ble_eq_true rfl) ?_
  intro p e s m below meth c A ls hB hw hl
  replace hB : MB p s m _ meth c cX5_windowEnd 4 (some .int) RX5 := hB
  replace hl : lv_has ls 4 [(0, .ref (ad 0)), (1, .int p1), (2, .int p2)] := hl
  obtain ⟨hx, hb, hr, hml, hown, hts, hlk⟩ := id hB
  unfold wp_X5_windowEnd at hq
  refine lv_iload_n hx hb dX5_windowEnd_0 rfl (lv_at hl 1 rfl) ?_
  refine lv_istore_n (lv' := [(3, .int p1), (0, .ref (ad 0)), (1, .int p1), (2, .int p2)]) hx hb dX5_windowEnd_1 rfl hl (by decide) rfl (fun ls hl => ?_)
  obtain ⟨n9, hq⟩ := hq
  refine wl_X5_windowEnd_2 hB  (fun σ10 x3_11 H locs ls hq hw hl => ?_) n9 σ p1 _ _ _ hq hw (lv_sub hl [1, 2, 3, 0] rfl)
  refine lv_ldc2 (v := 4) hx hb hown (hts _ m115) dX5_windowEnd_56 ?_
  refine lv_iload_n hx hb dX5_windowEnd_59 rfl (lv_at hl 2 rfl) ?_
  refine lv_iload_n hx hb dX5_windowEnd_60 rfl (lv_at hl 0 rfl) ?_
  refine lv_isub hx hb dX5_windowEnd_61 ?_
  refine lv_i2l hx hb dX5_windowEnd_62 rfl ?_
  refine lv_lmul hx hb dX5_windowEnd_63 ?_
  refine lv_iload_n hx hb dX5_windowEnd_64 rfl (lv_at hl 1 rfl) ?_
  refine lv_i2l hx hb dX5_windowEnd_65 rfl ?_
  refine W.lcmp hx hb dX5_windowEnd_66 ?_
  refine lv_if_lt (tgt := 74) hx hb dX5_windowEnd_67 (by decide) (fun c12 => ?_) (fun c12 => ?_)
  · replace hq := hq.1 c12
    refine lv_iconst (v := (-1)) hx hb dX5_windowEnd_74 (by decide) ?_
    exact w_iret hB hw hq dX5_windowEnd_75
  · replace hq := hq.2 c12
    refine lv_iload_n hx hb dX5_windowEnd_70 rfl (lv_at hl 2 rfl) ?_
    refine lv_goto (tgt := 75) hx hb dX5_windowEnd_71 (by decide) ?_
    exact w_iret hB hw hq dX5_windowEnd_75
theorem ok_X5_windowEnd : okY yX5_windowEnd 2 := ⟨by decide, by decide, by decide +kernel⟩
/-! X5_gathers -/
def lb_X5_gathers_27 (ln : Nat → Nat) (post : CS → Prop)  (Kx : CS → Int32 → Prop) (x2 x3 : Int32) (Kb : CS → Int32 → Prop) (σ : CS) (x4 : Int32) : Prop :=
  ((x4 ≤ 0 → Kx σ x4) ∧ (¬ x4 ≤ 0 → (vp_in (x4 - 1) (ln 9) ∧ (vp_in ((σ.2 9) (x4 - 1).toNatClampNeg) (ln 1) ∧ (vp_in x3 (ln 1) ∧ ((((σ.2 1) x3.toNatClampNeg) ≤ ((σ.2 1) ((σ.2 9) (x4 - 1).toNatClampNeg).toNatClampNeg) → Kx σ x4) ∧ (¬ ((σ.2 1) x3.toNatClampNeg) ≤ ((σ.2 1) ((σ.2 9) (x4 - 1).toNatClampNeg).toNatClampNeg) → (vp_in x4 (ln 9) ∧ Kb (setA σ 9 x4.toNatClampNeg ((σ.2 9) (x4 - 1).toNatClampNeg)) (x4 + (-1))))))))))
def lp_X5_gathers_27 (ln : Nat → Nat) (post : CS → Prop)  (Kx : CS → Int32 → Prop) (x2 x3 : Int32) : Nat → CS → Int32 → Prop
  | 0 => fun _ _ => False
  | n + 1 => lb_X5_gathers_27 ln post  Kx x2 x3 (lp_X5_gathers_27 ln post  Kx x2 x3 n)
def lb_X5_gathers_7 (ln : Nat → Nat) (post : CS → Prop)  (Kx : CS → Prop) (x2 : Int32) (Kb : CS → Int32 → Prop) (σ : CS) (x3 : Int32) : Prop :=
  ((x2 ≤ x3 → Kx σ) ∧ (¬ x2 ≤ x3 → (vp_in x3 (ln 2) ∧ ((((σ.2 2) x3.toNatClampNeg) = 0 → (vp_in x3 (ln 1) ∧ Kb σ (x3 + ((σ.2 1) x3.toNatClampNeg)))) ∧ (¬ ((σ.2 2) x3.toNatClampNeg) = 0 → (∃ n11 : Nat, lp_X5_gathers_27 ln post  (fun σ12 x4_13 => (vp_in x4_13 (ln 9) ∧ (vp_in x3 (ln 1) ∧ Kb (setF (setA σ12 9 x4_13.toNatClampNeg x3) 6 ((σ12.1 6) + 1)) (x3 + ((σ12.2 1) x3.toNatClampNeg))))) x2 x3 n11 σ (σ.1 6)))))))
def lp_X5_gathers_7 (ln : Nat → Nat) (post : CS → Prop)  (Kx : CS → Prop) (x2 : Int32) : Nat → CS → Int32 → Prop
  | 0 => fun _ _ => False
  | n + 1 => lb_X5_gathers_7 ln post  Kx x2 (lp_X5_gathers_7 ln post  Kx x2 n)
def wp_X5_gathers (ln : Nat → Nat) (σ : CS) (p1 p2 : Int32) (post : CS → Prop) : Prop :=
  (∃ n16 : Nat, lp_X5_gathers_7 ln post  (fun σ17 => post σ17) p2 n16 (setF σ 6 0) p1)
set_option maxHeartbeats 4000000 in
set_option maxRecDepth 100000 in
theorem wl_X5_gathers_27 {p : Program} {l : Launch} {e : Env} {s : State} {m : MethodId} {args : Array Value} {below : List Frame} {meth : Method} {c : Code} {D : va_G} {ad ln : Nat → Nat} {cI cZ : ClassId} {A : Nat → Prop} {post : CS → Prop}  {Kx : CS → Int32 → Prop} {x2 x3 : Int32} (hB : MB p s m args meth c cX5_gathers 5 none RX5)  (hKx : ∀ (σ : CS) (x4 : Int32) (H : Heap) (locs : List Loc) (ls : Array Slot), Kx σ x4 → WD D (tyM cI cZ) (cellsM ad ln cI cZ σ) A s H locs → lv_has ls 5 [(0, .ref (ad 0)), (2, .int x2), (3, .int x3), (4, .int x4)] → W p l e (rmK 0) s m args below meth c H locs 0 0 (MQ below (va_Qv post (Pos0 D (tyM cI cZ) (cellsM ad ln cI cZ) A) A) args s 0 0 A) (F0 m 77 ls [])) :
    ∀ (n : Nat) (σ : CS) (x4 : Int32) (H : Heap) (locs : List Loc) (ls : Array Slot), lp_X5_gathers_27 ln post  Kx x2 x3 n σ x4 → WD D (tyM cI cZ) (cellsM ad ln cI cZ σ) A s H locs → lv_has ls 5 [(0, .ref (ad 0)), (2, .int x2), (3, .int x3), (4, .int x4)] → W p l e (rmK 0) s m args below meth c H locs 0 0 (MQ below (va_Qv post (Pos0 D (tyM cI cZ) (cellsM ad ln cI cZ) A) A) args s 0 0 A) (F0 m 27 ls []) := by
  obtain ⟨hx, hb, hr, hml, hown, hts, hlk⟩ := id hB
  intro n
  induction n with
  | zero => intro σ x4 H locs ls hq hw hl; exact hq.elim
  | succ n ih =>
    intro σ x4 H locs ls hq hw hl
    replace hq : lb_X5_gathers_27 ln post  Kx x2 x3 (lp_X5_gathers_27 ln post  Kx x2 x3 n) σ x4 := hq
    refine lv_iload hx hb dX5_gathers_27 (lv_at hl 3 rfl) ?_
    refine lv_if_le (tgt := 77) hx hb dX5_gathers_29 (by decide) (fun c5 => ?_) (fun c5 => ?_)
    · replace hq := hq.1 c5
      exact hKx σ x4 _ _ _ hq hw (lv_sub hl [0, 1, 2, 3] rfl)
    · replace hq := hq.2 c5
      refine lv_aload_n hx hb dX5_gathers_32 rfl (lv_at hl 0 rfl) ?_
      refine gM_0_2 hB hw m172 dX5_gathers_33 ?_
      refine lv_aload_n hx hb dX5_gathers_36 rfl (lv_at hl 0 rfl) ?_
      refine gM_0_15 hB hw m167 dX5_gathers_37 ?_
      refine lv_iload hx hb dX5_gathers_40 (lv_at hl 3 rfl) ?_
      refine lv_iconst (v := 1) hx hb dX5_gathers_42 (by decide) ?_
      refine lv_isub hx hb dX5_gathers_43 ?_
      obtain ⟨h6, hq⟩ := hq
      refine aM_9 (f := (σ.2 9)) hB hw rfl h6 dX5_gathers_44 ?_
      obtain ⟨h7, hq⟩ := hq
      refine aM_1 (f := (σ.2 1)) hB hw rfl h7 dX5_gathers_45 ?_
      refine lv_aload_n hx hb dX5_gathers_46 rfl (lv_at hl 0 rfl) ?_
      refine gM_0_2 hB hw m172 dX5_gathers_47 ?_
      refine lv_iload_n hx hb dX5_gathers_50 rfl (lv_at hl 2 rfl) ?_
      obtain ⟨h8, hq⟩ := hq
      refine aM_1 (f := (σ.2 1)) hB hw rfl h8 dX5_gathers_51 ?_
      refine lv_icmp_ge (tgt := 77) hx hb dX5_gathers_52 (by decide) (fun c9 => ?_) (fun c9 => ?_)
      · replace hq := hq.1 c9
        exact hKx σ x4 _ _ _ hq hw (lv_sub hl [0, 1, 2, 3] rfl)
      · replace hq := hq.2 c9
        refine lv_aload_n hx hb dX5_gathers_55 rfl (lv_at hl 0 rfl) ?_
        refine gM_0_15 hB hw m167 dX5_gathers_56 ?_
        refine lv_iload hx hb dX5_gathers_59 (lv_at hl 3 rfl) ?_
        refine lv_aload_n hx hb dX5_gathers_61 rfl (lv_at hl 0 rfl) ?_
        refine gM_0_15 hB hw m167 dX5_gathers_62 ?_
        refine lv_iload hx hb dX5_gathers_65 (lv_at hl 3 rfl) ?_
        refine lv_iconst (v := 1) hx hb dX5_gathers_67 (by decide) ?_
        refine lv_isub hx hb dX5_gathers_68 ?_
        refine aM_9 (f := (σ.2 9)) hB hw rfl h6 dX5_gathers_69 ?_
        obtain ⟨h10, hq⟩ := hq
        refine sM_9 hB hw h10 dX5_gathers_70 (fun H locs hw => ?_)
        refine lv_iinc (v := x4 + (-1)) (lv' := [(4, .int (x4 + (-1))), (0, .ref (ad 0)), (2, .int x2), (3, .int x3)]) hx hb dX5_gathers_71 hl (k := 3) rfl rfl (by decide) rfl (fun ls hl => ?_)
        refine lv_goto (tgt := 27) hx hb dX5_gathers_74 (by decide) ?_
        exact ih (setA σ 9 x4.toNatClampNeg ((σ.2 9) (x4 - 1).toNatClampNeg)) (x4 + (-1)) _ _ _ hq hw (lv_sub hl [1, 2, 3, 0] rfl)
set_option maxHeartbeats 4000000 in
set_option maxRecDepth 100000 in
theorem wl_X5_gathers_7 {p : Program} {l : Launch} {e : Env} {s : State} {m : MethodId} {args : Array Value} {below : List Frame} {meth : Method} {c : Code} {D : va_G} {ad ln : Nat → Nat} {cI cZ : ClassId} {A : Nat → Prop} {post : CS → Prop}  {Kx : CS → Prop} {x2 : Int32} (hB : MB p s m args meth c cX5_gathers 5 none RX5)  (hKx : ∀ (σ : CS) (H : Heap) (locs : List Loc) (ls : Array Slot), Kx σ  → WD D (tyM cI cZ) (cellsM ad ln cI cZ σ) A s H locs → lv_has ls 5 [] → W p l e (rmK 0) s m args below meth c H locs 0 0 (MQ below (va_Qv post (Pos0 D (tyM cI cZ) (cellsM ad ln cI cZ) A) A) args s 0 0 A) (F0 m 107 ls [])) :
    ∀ (n : Nat) (σ : CS) (x3 : Int32) (H : Heap) (locs : List Loc) (ls : Array Slot), lp_X5_gathers_7 ln post  Kx x2 n σ x3 → WD D (tyM cI cZ) (cellsM ad ln cI cZ σ) A s H locs → lv_has ls 5 [(0, .ref (ad 0)), (2, .int x2), (3, .int x3)] → W p l e (rmK 0) s m args below meth c H locs 0 0 (MQ below (va_Qv post (Pos0 D (tyM cI cZ) (cellsM ad ln cI cZ) A) A) args s 0 0 A) (F0 m 7 ls []) := by
  obtain ⟨hx, hb, hr, hml, hown, hts, hlk⟩ := id hB
  intro n
  induction n with
  | zero => intro σ x3 H locs ls hq hw hl; exact hq.elim
  | succ n ih =>
    intro σ x3 H locs ls hq hw hl
    replace hq : lb_X5_gathers_7 ln post  Kx x2 (lp_X5_gathers_7 ln post  Kx x2 n) σ x3 := hq
    refine lv_iload_n hx hb dX5_gathers_7 rfl (lv_at hl 2 rfl) ?_
    refine lv_iload_n hx hb dX5_gathers_8 rfl (lv_at hl 1 rfl) ?_
    refine lv_icmp_ge (tgt := 107) hx hb dX5_gathers_9 (by decide) (fun c1 => ?_) (fun c1 => ?_)
    · replace hq := hq.1 c1
      exact hKx σ _ _ _ hq hw (lv_sub hl [] rfl)
    · replace hq := hq.2 c1
      refine lv_aload_n hx hb dX5_gathers_12 rfl (lv_at hl 0 rfl) ?_
      refine gM_0_3 hB hw m160 dX5_gathers_13 ?_
      refine lv_iload_n hx hb dX5_gathers_16 rfl (lv_at hl 2 rfl) ?_
      obtain ⟨h2, hq⟩ := hq
      refine aM_2 (f := (σ.2 2)) hB hw rfl h2 dX5_gathers_17 ?_
      refine lv_if_eq (tgt := 95) hx hb dX5_gathers_18 (by decide) (fun c3 => ?_) (fun c3 => ?_)
      · replace hq := hq.1 c3
        refine lv_iload_n hx hb dX5_gathers_95 rfl (lv_at hl 2 rfl) ?_
        refine lv_aload_n hx hb dX5_gathers_96 rfl (lv_at hl 0 rfl) ?_
        refine gM_0_2 hB hw m172 dX5_gathers_97 ?_
        refine lv_iload_n hx hb dX5_gathers_100 rfl (lv_at hl 2 rfl) ?_
        obtain ⟨h4, hq⟩ := hq
        refine aM_1 (f := (σ.2 1)) hB hw rfl h4 dX5_gathers_101 ?_
        refine lv_iadd hx hb dX5_gathers_102 ?_
        refine lv_istore_n (lv' := [(3, .int (x3 + ((σ.2 1) x3.toNatClampNeg))), (0, .ref (ad 0)), (2, .int x2)]) hx hb dX5_gathers_103 rfl hl (by decide) rfl (fun ls hl => ?_)
        refine lv_goto (tgt := 7) hx hb dX5_gathers_104 (by decide) ?_
        exact ih σ (x3 + ((σ.2 1) x3.toNatClampNeg)) _ _ _ hq hw (lv_sub hl [1, 2, 0] rfl)
      · replace hq := hq.2 c3
        refine lv_aload_n hx hb dX5_gathers_21 rfl (lv_at hl 0 rfl) ?_
        refine gM_0_14 (x := σ.1 6) hB hw m175 rfl dX5_gathers_22 ?_
        refine lv_istore (lv' := [(4, .int (σ.1 6)), (0, .ref (ad 0)), (2, .int x2), (3, .int x3)]) hx hb dX5_gathers_25 hl (by decide) rfl (fun ls hl => ?_)
        obtain ⟨n11, hq⟩ := hq
        refine wl_X5_gathers_27 hB  (fun σ12 x4_13 H locs ls hq hw hl => ?_) n11 σ (σ.1 6) _ _ _ hq hw (lv_sub hl [1, 2, 3, 0] rfl)
        refine lv_aload_n hx hb dX5_gathers_77 rfl (lv_at hl 0 rfl) ?_
        refine gM_0_15 hB hw m167 dX5_gathers_78 ?_
        refine lv_iload hx hb dX5_gathers_81 (lv_at hl 3 rfl) ?_
        refine lv_iload_n hx hb dX5_gathers_83 rfl (lv_at hl 2 rfl) ?_
        obtain ⟨h14, hq⟩ := hq
        refine sM_9 hB hw h14 dX5_gathers_84 (fun H locs hw => ?_)
        refine lv_aload_n hx hb dX5_gathers_85 rfl (lv_at hl 0 rfl) ?_
        refine lv_dup hx hb dX5_gathers_86 rfl ?_
        refine gM_0_14 (x := σ12.1 6) hB hw m175 rfl dX5_gathers_87 ?_
        refine lv_iconst (v := 1) hx hb dX5_gathers_90 (by decide) ?_
        refine lv_iadd hx hb dX5_gathers_91 ?_
        refine pM_0_14 hB hw m175 dX5_gathers_92 (fun H locs hw => ?_)
        refine lv_iload_n hx hb dX5_gathers_95 rfl (lv_at hl 2 rfl) ?_
        refine lv_aload_n hx hb dX5_gathers_96 rfl (lv_at hl 0 rfl) ?_
        refine gM_0_2 hB hw m172 dX5_gathers_97 ?_
        refine lv_iload_n hx hb dX5_gathers_100 rfl (lv_at hl 2 rfl) ?_
        obtain ⟨h15, hq⟩ := hq
        refine aM_1 (f := (σ12.2 1)) hB hw rfl h15 dX5_gathers_101 ?_
        refine lv_iadd hx hb dX5_gathers_102 ?_
        refine lv_istore_n (lv' := [(3, .int (x3 + ((σ12.2 1) x3.toNatClampNeg))), (0, .ref (ad 0)), (2, .int x2), (4, .int x4_13)]) hx hb dX5_gathers_103 rfl hl (by decide) rfl (fun ls hl => ?_)
        refine lv_goto (tgt := 7) hx hb dX5_gathers_104 (by decide) ?_
        exact ih (setF (setA σ12 9 x4_13.toNatClampNeg x3) 6 ((σ12.1 6) + 1)) (x3 + ((σ12.2 1) x3.toNatClampNeg)) _ _ _ hq hw (lv_sub hl [1, 2, 0] rfl)
set_option maxHeartbeats 4000000 in
set_option maxRecDepth 100000 in
theorem c_X5_gathers (l : Launch) (D : va_G) (ad ln : Nat → Nat) (cI cZ : ClassId) (σ : CS) (p1 p2 : Int32) (post : CS → Prop) (hq : wp_X5_gathers ln σ p1 p2 post) : MtV l D (tyM cI cZ) (cellsM ad ln cI cZ) yX5_gathers cX5_gathers 5 none (rmK 0) [.ref (ad 0), .int p1, .int p2] σ post := by
  refine MtV_of (by decide) (Nat.le_of_ble_eq_true rfl) ?_
  intro p e s m below meth c A ls hB hw hl
  replace hB : MB p s m _ meth c cX5_gathers 5 none RX5 := hB
  replace hl : lv_has ls 5 [(0, .ref (ad 0)), (1, .int p1), (2, .int p2)] := hl
  obtain ⟨hx, hb, hr, hml, hown, hts, hlk⟩ := id hB
  unfold wp_X5_gathers at hq
  refine lv_aload_n hx hb dX5_gathers_0 rfl (lv_at hl 0 rfl) ?_
  refine lv_iconst (v := 0) hx hb dX5_gathers_1 (by decide) ?_
  refine pM_0_14 hB hw m175 dX5_gathers_2 (fun H locs hw => ?_)
  refine lv_iload_n hx hb dX5_gathers_5 rfl (lv_at hl 1 rfl) ?_
  refine lv_istore_n (lv' := [(3, .int p1), (0, .ref (ad 0)), (1, .int p1), (2, .int p2)]) hx hb dX5_gathers_6 rfl hl (by decide) rfl (fun ls hl => ?_)
  obtain ⟨n16, hq⟩ := hq
  refine wl_X5_gathers_7 hB  (fun σ17 H locs ls hq hw hl => ?_) n16 (setF σ 6 0) p1 _ _ _ hq hw (lv_sub hl [1, 3, 0] rfl)
  exact w_vret hB hw hq dX5_gathers_107
theorem ok_X5_gathers : okY yX5_gathers 2 := ⟨by decide, by decide, by decide +kernel⟩
/-! X5_places -/
def lb_X5_places_2 (ln : Nat → Nat) (post : Int32 → CS → Prop)  (Kx : CS → Prop) (x1 x2 : Int32) (Kb : CS → Int32 → Prop) (σ : CS) (x3 : Int32) : Prop :=
  (((σ.1 1) ≤ x3 → Kx σ) ∧ (¬ (σ.1 1) ≤ x3 → wp_X5_isFree ln σ x3 (fun r3 σ2 => ((r3 = 0 → (vp_in x3 (ln 11) ∧ Kb (setA σ2 11 x3.toNatClampNeg 0) (x3 + 1))) ∧ (¬ r3 = 0 → ((x3 < x1 → (vp_in x3 (ln 1) ∧ (vp_in x3 (ln 11) ∧ Kb (setA σ2 11 x3.toNatClampNeg ((σ2.2 1) x3.toNatClampNeg)) (x3 + 1)))) ∧ (¬ x3 < x1 → ((x3 < x2 → (vp_in x3 (ln 11) ∧ Kb (setA σ2 11 x3.toNatClampNeg 0) (x3 + 1))) ∧ (¬ x3 < x2 → (vp_in x3 (ln 1) ∧ (vp_in x3 (ln 11) ∧ Kb (setA σ2 11 x3.toNatClampNeg ((σ2.2 1) x3.toNatClampNeg)) (x3 + 1))))))))))))
def lp_X5_places_2 (ln : Nat → Nat) (post : Int32 → CS → Prop)  (Kx : CS → Prop) (x1 x2 : Int32) : Nat → CS → Int32 → Prop
  | 0 => fun _ _ => False
  | n + 1 => lb_X5_places_2 ln post  Kx x1 x2 (lp_X5_places_2 ln post  Kx x1 x2 n)
def lb_X5_places_76 (ln : Nat → Nat) (post : Int32 → CS → Prop)  (Kx : CS → Int32 → Prop) (x3 x4 : Int32) (Kb : CS → Int32 → Prop) (σ : CS) (x5 : Int32) : Prop :=
  (((σ.1 1) ≤ x5 → Kx σ x5) ∧ (¬ (σ.1 1) ≤ x5 → (vp_in x5 (ln 11) ∧ ((x4 ≤ ((σ.2 11) x5.toNatClampNeg) → Kx σ x5) ∧ (¬ x4 ≤ ((σ.2 11) x5.toNatClampNeg) → Kb σ (x5 + 1))))))
def lp_X5_places_76 (ln : Nat → Nat) (post : Int32 → CS → Prop)  (Kx : CS → Int32 → Prop) (x3 x4 : Int32) : Nat → CS → Int32 → Prop
  | 0 => fun _ _ => False
  | n + 1 => lb_X5_places_76 ln post  Kx x3 x4 (lp_X5_places_76 ln post  Kx x3 x4 n)
def lb_X5_places_52 (ln : Nat → Nat) (post : Int32 → CS → Prop)  (Kx : CS → Prop)  (Kb : CS → Int32 → Prop) (σ : CS) (x3 : Int32) : Prop :=
  (((σ.1 6) ≤ x3 → Kx σ) ∧ (¬ (σ.1 6) ≤ x3 → (vp_in x3 (ln 9) ∧ (vp_in ((σ.2 9) x3.toNatClampNeg) (ln 1) ∧ (∃ n21 : Nat, lp_X5_places_76 ln post  (fun σ22 x5_23 => ((¬ x5_23 = (σ22.1 1) → (vp_in x5_23 (ln 1) ∧ (vp_in x5_23 (ln 11) ∧ (vp_in x3 (ln 10) ∧ Kb (setA (setA σ22 10 x3.toNatClampNeg ((x5_23 + ((σ22.2 1) x5_23.toNatClampNeg)) - ((σ22.2 11) x5_23.toNatClampNeg))) 11 x5_23.toNatClampNeg (((σ22.2 11) x5_23.toNatClampNeg) - ((σ.2 1) ((σ.2 9) x3.toNatClampNeg).toNatClampNeg))) (x3 + 1))))) ∧ (x5_23 = (σ22.1 1) → post 0 σ22))) x3 ((σ.2 1) ((σ.2 9) x3.toNatClampNeg).toNatClampNeg) n21 σ 0)))))
def lp_X5_places_52 (ln : Nat → Nat) (post : Int32 → CS → Prop)  (Kx : CS → Prop)  : Nat → CS → Int32 → Prop
  | 0 => fun _ _ => False
  | n + 1 => lb_X5_places_52 ln post  Kx  (lp_X5_places_52 ln post  Kx  n)
def wp_X5_places (ln : Nat → Nat) (σ : CS) (p1 p2 : Int32) (post : Int32 → CS → Prop) : Prop :=
  (∃ n13 : Nat, lp_X5_places_2 ln post  (fun σ14 => (∃ n28 : Nat, lp_X5_places_52 ln post  (fun σ29 => post 1 σ29)  n28 σ14 0)) p1 p2 n13 σ 0)
set_option maxHeartbeats 4000000 in
set_option maxRecDepth 100000 in
theorem wl_X5_places_2 {p : Program} {l : Launch} {e : Env} {s : State} {m : MethodId} {args : Array Value} {below : List Frame} {meth : Method} {c : Code} {D : va_G} {ad ln : Nat → Nat} {cI cZ : ClassId} {A : Nat → Prop} {post : Int32 → CS → Prop}  {Kx : CS → Prop} {x1 x2 : Int32} (hB : MB p s m args meth c cX5_places 6 (some .boolean) RX5)  (hKx : ∀ (σ : CS) (H : Heap) (locs : List Loc) (ls : Array Slot), Kx σ  → WD D (tyM cI cZ) (cellsM ad ln cI cZ σ) A s H locs → lv_has ls 6 [(0, .ref (ad 0))] → W p l e (rmK 1) s m args below meth c H locs 0 0 (MQ below (va_Qi post (Pos0 D (tyM cI cZ) (cellsM ad ln cI cZ) A) A) args s 0 0 A) (F0 m 50 ls [])) :
    ∀ (n : Nat) (σ : CS) (x3 : Int32) (H : Heap) (locs : List Loc) (ls : Array Slot), lp_X5_places_2 ln post  Kx x1 x2 n σ x3 → WD D (tyM cI cZ) (cellsM ad ln cI cZ σ) A s H locs → lv_has ls 6 [(0, .ref (ad 0)), (1, .int x1), (2, .int x2), (3, .int x3)] → W p l e (rmK 1) s m args below meth c H locs 0 0 (MQ below (va_Qi post (Pos0 D (tyM cI cZ) (cellsM ad ln cI cZ) A) A) args s 0 0 A) (F0 m 2 ls []) := by
  obtain ⟨hx, hb, hr, hml, hown, hts, hlk⟩ := id hB
  intro n
  induction n with
  | zero => intro σ x3 H locs ls hq hw hl; exact hq.elim
  | succ n ih =>
    intro σ x3 H locs ls hq hw hl
    replace hq : lb_X5_places_2 ln post  Kx x1 x2 (lp_X5_places_2 ln post  Kx x1 x2 n) σ x3 := hq
    refine lv_iload_n hx hb dX5_places_2 rfl (lv_at hl 3 rfl) ?_
    refine lv_aload_n hx hb dX5_places_3 rfl (lv_at hl 0 rfl) ?_
    refine gM_0_1 (x := σ.1 1) hB hw m170 rfl dX5_places_4 ?_
    refine lv_icmp_ge (tgt := 50) hx hb dX5_places_7 (by decide) (fun c1 => ?_) (fun c1 => ?_)
    · replace hq := hq.1 c1
      exact hKx σ _ _ _ hq hw (lv_sub hl [0] rfl)
    · replace hq := hq.2 c1
      refine lv_aload_n hx hb dX5_places_10 rfl (lv_at hl 0 rfl) ?_
      refine gM_0_17 hB hw m169 dX5_places_11 ?_
      refine lv_iload_n hx hb dX5_places_14 rfl (lv_at hl 3 rfl) ?_
      refine lv_aload_n hx hb dX5_places_15 rfl (lv_at hl 0 rfl) ?_
      refine lv_iload_n hx hb dX5_places_16 rfl (lv_at hl 3 rfl) ?_
      refine w_cVI (As := [.int x3]) (rest := [.int x3, .ref (ad 11)]) hB hw hl.1 (c_X5_isFree l D ad ln cI cZ σ x3 _ hq) m398 m265 m479 m188 m100 rfl ok_X5_isFree (okR_K (by decide) (by decide)) (q0 := 0) (ci := 5) rfl rfl rfl rfl (Nat.le_of_ble_eq_true rfl) dX5_places_17 (fun r3 σ2 H locs hq hw => ?_)
      refine lv_if_eq (tgt := 42) hx hb dX5_places_20 (by decide) (fun c4 => ?_) (fun c4 => ?_)
      · replace hq := hq.1 c4
        refine lv_iconst (v := 0) hx hb dX5_places_42 (by decide) ?_
        obtain ⟨h5, hq⟩ := hq
        refine sM_11 hB hw h5 dX5_places_43 (fun H locs hw => ?_)
        refine lv_iinc (v := x3 + 1) (lv' := [(3, .int (x3 + 1)), (0, .ref (ad 0)), (1, .int x1), (2, .int x2)]) hx hb dX5_places_44 hl (k := 3) rfl rfl (by decide) rfl (fun ls hl => ?_)
        refine lv_goto (tgt := 2) hx hb dX5_places_47 (by decide) ?_
        exact ih (setA σ2 11 x3.toNatClampNeg 0) (x3 + 1) _ _ _ hq hw (lv_sub hl [1, 2, 3, 0] rfl)
      · replace hq := hq.2 c4
        refine lv_iload_n hx hb dX5_places_23 rfl (lv_at hl 3 rfl) ?_
        refine lv_iload_n hx hb dX5_places_24 rfl (lv_at hl 1 rfl) ?_
        refine lv_icmp_lt (tgt := 33) hx hb dX5_places_25 (by decide) (fun c6 => ?_) (fun c6 => ?_)
        · replace hq := hq.1 c6
          refine lv_aload_n hx hb dX5_places_33 rfl (lv_at hl 0 rfl) ?_
          refine gM_0_2 hB hw m172 dX5_places_34 ?_
          refine lv_iload_n hx hb dX5_places_37 rfl (lv_at hl 3 rfl) ?_
          obtain ⟨h7, hq⟩ := hq
          refine aM_1 (f := (σ2.2 1)) hB hw rfl h7 dX5_places_38 ?_
          refine lv_goto (tgt := 43) hx hb dX5_places_39 (by decide) ?_
          obtain ⟨h8, hq⟩ := hq
          refine sM_11 hB hw h8 dX5_places_43 (fun H locs hw => ?_)
          refine lv_iinc (v := x3 + 1) (lv' := [(3, .int (x3 + 1)), (0, .ref (ad 0)), (1, .int x1), (2, .int x2)]) hx hb dX5_places_44 hl (k := 3) rfl rfl (by decide) rfl (fun ls hl => ?_)
          refine lv_goto (tgt := 2) hx hb dX5_places_47 (by decide) ?_
          exact ih (setA σ2 11 x3.toNatClampNeg ((σ2.2 1) x3.toNatClampNeg)) (x3 + 1) _ _ _ hq hw (lv_sub hl [1, 2, 3, 0] rfl)
        · replace hq := hq.2 c6
          refine lv_iload_n hx hb dX5_places_28 rfl (lv_at hl 3 rfl) ?_
          refine lv_iload_n hx hb dX5_places_29 rfl (lv_at hl 2 rfl) ?_
          refine lv_icmp_lt (tgt := 42) hx hb dX5_places_30 (by decide) (fun c9 => ?_) (fun c9 => ?_)
          · replace hq := hq.1 c9
            refine lv_iconst (v := 0) hx hb dX5_places_42 (by decide) ?_
            obtain ⟨h10, hq⟩ := hq
            refine sM_11 hB hw h10 dX5_places_43 (fun H locs hw => ?_)
            refine lv_iinc (v := x3 + 1) (lv' := [(3, .int (x3 + 1)), (0, .ref (ad 0)), (1, .int x1), (2, .int x2)]) hx hb dX5_places_44 hl (k := 3) rfl rfl (by decide) rfl (fun ls hl => ?_)
            refine lv_goto (tgt := 2) hx hb dX5_places_47 (by decide) ?_
            exact ih (setA σ2 11 x3.toNatClampNeg 0) (x3 + 1) _ _ _ hq hw (lv_sub hl [1, 2, 3, 0] rfl)
          · replace hq := hq.2 c9
            refine lv_aload_n hx hb dX5_places_33 rfl (lv_at hl 0 rfl) ?_
            refine gM_0_2 hB hw m172 dX5_places_34 ?_
            refine lv_iload_n hx hb dX5_places_37 rfl (lv_at hl 3 rfl) ?_
            obtain ⟨h11, hq⟩ := hq
            refine aM_1 (f := (σ2.2 1)) hB hw rfl h11 dX5_places_38 ?_
            refine lv_goto (tgt := 43) hx hb dX5_places_39 (by decide) ?_
            obtain ⟨h12, hq⟩ := hq
            refine sM_11 hB hw h12 dX5_places_43 (fun H locs hw => ?_)
            refine lv_iinc (v := x3 + 1) (lv' := [(3, .int (x3 + 1)), (0, .ref (ad 0)), (1, .int x1), (2, .int x2)]) hx hb dX5_places_44 hl (k := 3) rfl rfl (by decide) rfl (fun ls hl => ?_)
            refine lv_goto (tgt := 2) hx hb dX5_places_47 (by decide) ?_
            exact ih (setA σ2 11 x3.toNatClampNeg ((σ2.2 1) x3.toNatClampNeg)) (x3 + 1) _ _ _ hq hw (lv_sub hl [1, 2, 3, 0] rfl)
set_option maxHeartbeats 4000000 in
set_option maxRecDepth 100000 in
theorem wl_X5_places_76 {p : Program} {l : Launch} {e : Env} {s : State} {m : MethodId} {args : Array Value} {below : List Frame} {meth : Method} {c : Code} {D : va_G} {ad ln : Nat → Nat} {cI cZ : ClassId} {A : Nat → Prop} {post : Int32 → CS → Prop}  {Kx : CS → Int32 → Prop} {x3 x4 : Int32} (hB : MB p s m args meth c cX5_places 6 (some .boolean) RX5)  (hKx : ∀ (σ : CS) (x5 : Int32) (H : Heap) (locs : List Loc) (ls : Array Slot), Kx σ x5 → WD D (tyM cI cZ) (cellsM ad ln cI cZ σ) A s H locs → lv_has ls 6 [(0, .ref (ad 0)), (3, .int x3), (4, .int x4), (5, .int x5)] → W p l e (rmK 1) s m args below meth c H locs 0 0 (MQ below (va_Qi post (Pos0 D (tyM cI cZ) (cellsM ad ln cI cZ) A) A) args s 0 0 A) (F0 m 103 ls [])) :
    ∀ (n : Nat) (σ : CS) (x5 : Int32) (H : Heap) (locs : List Loc) (ls : Array Slot), lp_X5_places_76 ln post  Kx x3 x4 n σ x5 → WD D (tyM cI cZ) (cellsM ad ln cI cZ σ) A s H locs → lv_has ls 6 [(0, .ref (ad 0)), (3, .int x3), (4, .int x4), (5, .int x5)] → W p l e (rmK 1) s m args below meth c H locs 0 0 (MQ below (va_Qi post (Pos0 D (tyM cI cZ) (cellsM ad ln cI cZ) A) A) args s 0 0 A) (F0 m 76 ls []) := by
  obtain ⟨hx, hb, hr, hml, hown, hts, hlk⟩ := id hB
  intro n
  induction n with
  | zero => intro σ x5 H locs ls hq hw hl; exact hq.elim
  | succ n ih =>
    intro σ x5 H locs ls hq hw hl
    replace hq : lb_X5_places_76 ln post  Kx x3 x4 (lp_X5_places_76 ln post  Kx x3 x4 n) σ x5 := hq
    refine lv_iload hx hb dX5_places_76 (lv_at hl 3 rfl) ?_
    refine lv_aload_n hx hb dX5_places_78 rfl (lv_at hl 0 rfl) ?_
    refine gM_0_1 (x := σ.1 1) hB hw m170 rfl dX5_places_79 ?_
    refine lv_icmp_ge (tgt := 103) hx hb dX5_places_82 (by decide) (fun c18 => ?_) (fun c18 => ?_)
    · replace hq := hq.1 c18
      exact hKx σ x5 _ _ _ hq hw (lv_sub hl [0, 1, 2, 3] rfl)
    · replace hq := hq.2 c18
      refine lv_aload_n hx hb dX5_places_85 rfl (lv_at hl 0 rfl) ?_
      refine gM_0_17 hB hw m169 dX5_places_86 ?_
      refine lv_iload hx hb dX5_places_89 (lv_at hl 3 rfl) ?_
      obtain ⟨h19, hq⟩ := hq
      refine aM_11 (f := (σ.2 11)) hB hw rfl h19 dX5_places_91 ?_
      refine lv_iload hx hb dX5_places_92 (lv_at hl 2 rfl) ?_
      refine lv_icmp_ge (tgt := 103) hx hb dX5_places_94 (by decide) (fun c20 => ?_) (fun c20 => ?_)
      · replace hq := hq.1 c20
        exact hKx σ x5 _ _ _ hq hw (lv_sub hl [0, 1, 2, 3] rfl)
      · replace hq := hq.2 c20
        refine lv_iinc (v := x5 + 1) (lv' := [(5, .int (x5 + 1)), (0, .ref (ad 0)), (3, .int x3), (4, .int x4)]) hx hb dX5_places_97 hl (k := 3) rfl rfl (by decide) rfl (fun ls hl => ?_)
        refine lv_goto (tgt := 76) hx hb dX5_places_100 (by decide) ?_
        exact ih σ (x5 + 1) _ _ _ hq hw (lv_sub hl [1, 2, 3, 0] rfl)
set_option maxHeartbeats 4000000 in
set_option maxRecDepth 100000 in
theorem wl_X5_places_52 {p : Program} {l : Launch} {e : Env} {s : State} {m : MethodId} {args : Array Value} {below : List Frame} {meth : Method} {c : Code} {D : va_G} {ad ln : Nat → Nat} {cI cZ : ClassId} {A : Nat → Prop} {post : Int32 → CS → Prop}  {Kx : CS → Prop}  (hB : MB p s m args meth c cX5_places 6 (some .boolean) RX5)  (hKx : ∀ (σ : CS) (H : Heap) (locs : List Loc) (ls : Array Slot), Kx σ  → WD D (tyM cI cZ) (cellsM ad ln cI cZ σ) A s H locs → lv_has ls 6 [] → W p l e (rmK 1) s m args below meth c H locs 0 0 (MQ below (va_Qi post (Pos0 D (tyM cI cZ) (cellsM ad ln cI cZ) A) A) args s 0 0 A) (F0 m 156 ls [])) :
    ∀ (n : Nat) (σ : CS) (x3 : Int32) (H : Heap) (locs : List Loc) (ls : Array Slot), lp_X5_places_52 ln post  Kx  n σ x3 → WD D (tyM cI cZ) (cellsM ad ln cI cZ σ) A s H locs → lv_has ls 6 [(0, .ref (ad 0)), (3, .int x3)] → W p l e (rmK 1) s m args below meth c H locs 0 0 (MQ below (va_Qi post (Pos0 D (tyM cI cZ) (cellsM ad ln cI cZ) A) A) args s 0 0 A) (F0 m 52 ls []) := by
  obtain ⟨hx, hb, hr, hml, hown, hts, hlk⟩ := id hB
  intro n
  induction n with
  | zero => intro σ x3 H locs ls hq hw hl; exact hq.elim
  | succ n ih =>
    intro σ x3 H locs ls hq hw hl
    replace hq : lb_X5_places_52 ln post  Kx  (lp_X5_places_52 ln post  Kx  n) σ x3 := hq
    refine lv_iload_n hx hb dX5_places_52 rfl (lv_at hl 1 rfl) ?_
    refine lv_aload_n hx hb dX5_places_53 rfl (lv_at hl 0 rfl) ?_
    refine gM_0_14 (x := σ.1 6) hB hw m175 rfl dX5_places_54 ?_
    refine lv_icmp_ge (tgt := 156) hx hb dX5_places_57 (by decide) (fun c15 => ?_) (fun c15 => ?_)
    · replace hq := hq.1 c15
      exact hKx σ _ _ _ hq hw (lv_sub hl [] rfl)
    · replace hq := hq.2 c15
      refine lv_aload_n hx hb dX5_places_60 rfl (lv_at hl 0 rfl) ?_
      refine gM_0_2 hB hw m172 dX5_places_61 ?_
      refine lv_aload_n hx hb dX5_places_64 rfl (lv_at hl 0 rfl) ?_
      refine gM_0_15 hB hw m167 dX5_places_65 ?_
      refine lv_iload_n hx hb dX5_places_68 rfl (lv_at hl 1 rfl) ?_
      obtain ⟨h16, hq⟩ := hq
      refine aM_9 (f := (σ.2 9)) hB hw rfl h16 dX5_places_69 ?_
      obtain ⟨h17, hq⟩ := hq
      refine aM_1 (f := (σ.2 1)) hB hw rfl h17 dX5_places_70 ?_
      refine lv_istore (lv' := [(4, .int ((σ.2 1) ((σ.2 9) x3.toNatClampNeg).toNatClampNeg)), (0, .ref (ad 0)), (3, .int x3)]) hx hb dX5_places_71 hl (by decide) rfl (fun ls hl => ?_)
      refine lv_iconst (v := 0) hx hb dX5_places_73 (by decide) ?_
      refine lv_istore (lv' := [(5, .int 0), (4, .int ((σ.2 1) ((σ.2 9) x3.toNatClampNeg).toNatClampNeg)), (0, .ref (ad 0)), (3, .int x3)]) hx hb dX5_places_74 hl (by decide) rfl (fun ls hl => ?_)
      obtain ⟨n21, hq⟩ := hq
      refine wl_X5_places_76 hB  (fun σ22 x5_23 H locs ls hq hw hl => ?_) n21 σ 0 _ _ _ hq hw (lv_sub hl [2, 3, 1, 0] rfl)
      refine lv_iload hx hb dX5_places_103 (lv_at hl 3 rfl) ?_
      refine lv_aload_n hx hb dX5_places_105 rfl (lv_at hl 0 rfl) ?_
      refine gM_0_1 (x := σ22.1 1) hB hw m170 rfl dX5_places_106 ?_
      refine lv_icmp_ne (tgt := 114) hx hb dX5_places_109 (by decide) (fun c24 => ?_) (fun c24 => ?_)
      · replace hq := hq.1 c24
        refine lv_aload_n hx hb dX5_places_114 rfl (lv_at hl 0 rfl) ?_
        refine gM_0_16 hB hw m168 dX5_places_115 ?_
        refine lv_iload_n hx hb dX5_places_118 rfl (lv_at hl 1 rfl) ?_
        refine lv_iload hx hb dX5_places_119 (lv_at hl 3 rfl) ?_
        refine lv_aload_n hx hb dX5_places_121 rfl (lv_at hl 0 rfl) ?_
        refine gM_0_2 hB hw m172 dX5_places_122 ?_
        refine lv_iload hx hb dX5_places_125 (lv_at hl 3 rfl) ?_
        obtain ⟨h25, hq⟩ := hq
        refine aM_1 (f := (σ22.2 1)) hB hw rfl h25 dX5_places_127 ?_
        refine lv_iadd hx hb dX5_places_128 ?_
        refine lv_aload_n hx hb dX5_places_129 rfl (lv_at hl 0 rfl) ?_
        refine gM_0_17 hB hw m169 dX5_places_130 ?_
        refine lv_iload hx hb dX5_places_133 (lv_at hl 3 rfl) ?_
        obtain ⟨h26, hq⟩ := hq
        refine aM_11 (f := (σ22.2 11)) hB hw rfl h26 dX5_places_135 ?_
        refine lv_isub hx hb dX5_places_136 ?_
        obtain ⟨h27, hq⟩ := hq
        refine sM_10 hB hw h27 dX5_places_137 (fun H locs hw => ?_)
        refine lv_aload_n hx hb dX5_places_138 rfl (lv_at hl 0 rfl) ?_
        refine gM_0_17 hB hw m169 dX5_places_139 ?_
        refine lv_iload hx hb dX5_places_142 (lv_at hl 3 rfl) ?_
        refine lv_dup2_11 hx hb dX5_places_144 rfl rfl ?_
        refine aM_11 (f := (σ22.2 11)) hB hw rfl h26 dX5_places_145 ?_
        refine lv_iload hx hb dX5_places_146 (lv_at hl 2 rfl) ?_
        refine lv_isub hx hb dX5_places_148 ?_
        refine sM_11 hB hw h26 dX5_places_149 (fun H locs hw => ?_)
        refine lv_iinc (v := x3 + 1) (lv' := [(3, .int (x3 + 1)), (0, .ref (ad 0)), (4, .int ((σ.2 1) ((σ.2 9) x3.toNatClampNeg).toNatClampNeg)), (5, .int x5_23)]) hx hb dX5_places_150 hl (k := 1) rfl rfl (by decide) rfl (fun ls hl => ?_)
        refine lv_goto (tgt := 52) hx hb dX5_places_153 (by decide) ?_
        exact ih (setA (setA σ22 10 x3.toNatClampNeg ((x5_23 + ((σ22.2 1) x5_23.toNatClampNeg)) - ((σ22.2 11) x5_23.toNatClampNeg))) 11 x5_23.toNatClampNeg (((σ22.2 11) x5_23.toNatClampNeg) - ((σ.2 1) ((σ.2 9) x3.toNatClampNeg).toNatClampNeg))) (x3 + 1) _ _ _ hq hw (lv_sub hl [1, 0] rfl)
      · replace hq := hq.2 c24
        refine lv_iconst (v := 0) hx hb dX5_places_112 (by decide) ?_
        exact w_zret hB hw rfl hq dX5_places_113
set_option maxHeartbeats 4000000 in
set_option maxRecDepth 100000 in
theorem c_X5_places (l : Launch) (D : va_G) (ad ln : Nat → Nat) (cI cZ : ClassId) (σ : CS) (p1 p2 : Int32) (post : Int32 → CS → Prop) (hq : wp_X5_places ln σ p1 p2 post) : MtI l D (tyM cI cZ) (cellsM ad ln cI cZ) yX5_places cX5_places 6 (some .boolean) (rmK 1) [.ref (ad 0), .int p1, .int p2] σ post := by
  refine MtI_of (by decide) (Nat.le_of_ble_eq_true rfl) ?_
  intro p e s m below meth c A ls hB hw hl
  replace hB : MB p s m _ meth c cX5_places 6 (some .boolean) RX5 := hB
  replace hl : lv_has ls 6 [(0, .ref (ad 0)), (1, .int p1), (2, .int p2)] := hl
  obtain ⟨hx, hb, hr, hml, hown, hts, hlk⟩ := id hB
  unfold wp_X5_places at hq
  refine lv_iconst (v := 0) hx hb dX5_places_0 (by decide) ?_
  refine lv_istore_n (lv' := [(3, .int 0), (0, .ref (ad 0)), (1, .int p1), (2, .int p2)]) hx hb dX5_places_1 rfl hl (by decide) rfl (fun ls hl => ?_)
  obtain ⟨n13, hq⟩ := hq
  refine wl_X5_places_2 hB  (fun σ14 H locs ls hq hw hl => ?_) n13 σ 0 _ _ _ hq hw (lv_sub hl [1, 2, 3, 0] rfl)
  refine lv_iconst (v := 0) hx hb dX5_places_50 (by decide) ?_
  refine lv_istore_n (lv' := [(3, .int 0), (0, .ref (ad 0))]) hx hb dX5_places_51 rfl hl (by decide) rfl (fun ls hl => ?_)
  obtain ⟨n28, hq⟩ := hq
  refine wl_X5_places_52 hB  (fun σ29 H locs ls hq hw hl => ?_) n28 σ14 0 _ _ _ hq hw (lv_sub hl [1, 0] rfl)
  refine lv_iconst (v := 1) hx hb dX5_places_156 (by decide) ?_
  exact w_zret hB hw rfl hq dX5_places_157
theorem ok_X5_places : okY yX5_places 2 := ⟨by decide, by decide, by decide +kernel⟩
/-! X5_advise -/
def lb_X5_advise_117 (ln : Nat → Nat) (post : Int32 → CS → Prop)  (Kx : CS → Prop) (x1 x2 : Int32) (Kb : CS → Int32 → Prop) (σ : CS) (x4 : Int32) : Prop :=
  (((σ.1 6) ≤ x4 → Kx σ) ∧ (¬ (σ.1 6) ≤ x4 → (vp_in x4 (ln 9) ∧ (vp_in x4 (ln 5) ∧ (vp_in x4 (ln 10) ∧ (vp_in x4 (ln 6) ∧ Kb (setA (setA σ 5 x4.toNatClampNeg ((σ.2 9) x4.toNatClampNeg)) 6 x4.toNatClampNeg ((σ.2 10) x4.toNatClampNeg)) (x4 + 1)))))))
def lp_X5_advise_117 (ln : Nat → Nat) (post : Int32 → CS → Prop)  (Kx : CS → Prop) (x1 x2 : Int32) : Nat → CS → Int32 → Prop
  | 0 => fun _ _ => False
  | n + 1 => lb_X5_advise_117 ln post  Kx x1 x2 (lp_X5_advise_117 ln post  Kx x1 x2 n)
def jp_X5_advise_87 (ln : Nat → Nat) (post : Int32 → CS → Prop) (K1 : CS → Int32 → Prop) (σ : CS) (x1 x2 x3 : Int32) : Prop :=
  wp_X5_places ln σ x2 x3 (fun r12 σ11 => ((r12 = 0 → K1 σ11 (x2 + 1)) ∧ (¬ r12 = 0 → (∃ n19 : Nat, lp_X5_advise_117 ln post  (fun σ20 => K1 σ20 (x2 + 1)) x1 x2 n19 (setF (setF (setF σ11 2 1) 3 x2) 4 (σ11.1 6)) 0))))
def jp_X5_advise_58 (ln : Nat → Nat) (post : Int32 → CS → Prop) (K1 : CS → Int32 → Prop) (σ : CS) (x1 x2 x3 : Int32) : Prop :=
  ((x3 = (-1) → K1 σ (x2 + 1)) ∧ (¬ x3 = (-1) → wp_X5_gathers ln σ x2 x3 (fun σ9 => (((σ9.1 2) = 0 → jp_X5_advise_87 ln post K1 σ9 x1 x2 x3) ∧ (¬ (σ9.1 2) = 0 → (((σ9.1 4) ≤ (σ9.1 6) → K1 σ9 (x2 + 1)) ∧ (¬ (σ9.1 4) ≤ (σ9.1 6) → jp_X5_advise_87 ln post K1 σ9 x1 x2 x3)))))))
def lb_X5_advise_30 (ln : Nat → Nat) (post : Int32 → CS → Prop)  (Kx : CS → Prop) (x1 : Int32) (Kb : CS → Int32 → Prop) (σ : CS) (x2 : Int32) : Prop :=
  (((σ.1 1) ≤ x2 → Kx σ) ∧ (¬ (σ.1 1) ≤ x2 → (vp_in x2 (ln 1) ∧ ((((σ.2 1) x2.toNatClampNeg) ≤ 0 → jp_X5_advise_58 ln post Kb σ x1 x2 (-1)) ∧ (¬ ((σ.2 1) x2.toNatClampNeg) ≤ 0 → wp_X5_windowEnd ln σ x2 x1 (fun r23 σ22 => jp_X5_advise_58 ln post Kb σ22 x1 x2 r23))))))
def lp_X5_advise_30 (ln : Nat → Nat) (post : Int32 → CS → Prop)  (Kx : CS → Prop) (x1 : Int32) : Nat → CS → Int32 → Prop
  | 0 => fun _ _ => False
  | n + 1 => lb_X5_advise_30 ln post  Kx x1 (lp_X5_advise_30 ln post  Kx x1 n)
def wp_X5_advise (ln : Nat → Nat) (σ : CS) (p1 : Int32) (post : Int32 → CS → Prop) : Prop :=
  ((p1 < 1 → post (-1) (setF (setF σ 0 0) 2 0)) ∧ (¬ p1 < 1 → wp_X5_count ln (setF (setF σ 0 0) 2 0) 2 (fun r3 σ2 => ((r3 ≤ 128 → (∃ n24 : Nat, lp_X5_advise_30 ln post  (fun σ25 => (((σ25.1 2) = 0 → post (-1) σ25) ∧ (¬ (σ25.1 2) = 0 → post (σ25.1 4) σ25))) p1 n24 σ2 0)) ∧ (¬ r3 ≤ 128 → post (-1) σ2)))))
set_option maxHeartbeats 4000000 in
set_option maxRecDepth 100000 in
theorem wl_X5_advise_117 {p : Program} {l : Launch} {e : Env} {s : State} {m : MethodId} {args : Array Value} {below : List Frame} {meth : Method} {c : Code} {D : va_G} {ad ln : Nat → Nat} {cI cZ : ClassId} {A : Nat → Prop} {post : Int32 → CS → Prop}  {Kx : CS → Prop} {x1 x2 : Int32} (hB : MB p s m args meth c cX5_advise 5 (some .int) RX5)  (hKx : ∀ (σ : CS) (H : Heap) (locs : List Loc) (ls : Array Slot), Kx σ  → WD D (tyM cI cZ) (cellsM ad ln cI cZ σ) A s H locs → lv_has ls 5 [(0, .ref (ad 0)), (1, .int x1), (2, .int x2)] → W p l e (rmK 4) s m args below meth c H locs 0 0 (MQ below (va_Qi post (Pos0 D (tyM cI cZ) (cellsM ad ln cI cZ) A) A) args s 0 0 A) (F0 m 160 ls [])) :
    ∀ (n : Nat) (σ : CS) (x4 : Int32) (H : Heap) (locs : List Loc) (ls : Array Slot), lp_X5_advise_117 ln post  Kx x1 x2 n σ x4 → WD D (tyM cI cZ) (cellsM ad ln cI cZ σ) A s H locs → lv_has ls 5 [(0, .ref (ad 0)), (1, .int x1), (2, .int x2), (4, .int x4)] → W p l e (rmK 4) s m args below meth c H locs 0 0 (MQ below (va_Qi post (Pos0 D (tyM cI cZ) (cellsM ad ln cI cZ) A) A) args s 0 0 A) (F0 m 117 ls []) := by
  obtain ⟨hx, hb, hr, hml, hown, hts, hlk⟩ := id hB
  intro n
  induction n with
  | zero => intro σ x4 H locs ls hq hw hl; exact hq.elim
  | succ n ih =>
    intro σ x4 H locs ls hq hw hl
    replace hq : lb_X5_advise_117 ln post  Kx x1 x2 (lp_X5_advise_117 ln post  Kx x1 x2 n) σ x4 := hq
    refine lv_iload hx hb dX5_advise_117 (lv_at hl 3 rfl) ?_
    refine lv_aload_n hx hb dX5_advise_119 rfl (lv_at hl 0 rfl) ?_
    refine gM_0_14 (x := σ.1 6) hB hw m175 rfl dX5_advise_120 ?_
    refine lv_icmp_ge (tgt := 160) hx hb dX5_advise_123 (by decide) (fun c14 => ?_) (fun c14 => ?_)
    · replace hq := hq.1 c14
      exact hKx σ _ _ _ hq hw (lv_sub hl [0, 1, 2] rfl)
    · replace hq := hq.2 c14
      refine lv_aload_n hx hb dX5_advise_126 rfl (lv_at hl 0 rfl) ?_
      refine gM_0_9 hB hw m163 dX5_advise_127 ?_
      refine lv_iload hx hb dX5_advise_130 (lv_at hl 3 rfl) ?_
      refine lv_aload_n hx hb dX5_advise_132 rfl (lv_at hl 0 rfl) ?_
      refine gM_0_15 hB hw m167 dX5_advise_133 ?_
      refine lv_iload hx hb dX5_advise_136 (lv_at hl 3 rfl) ?_
      obtain ⟨h15, hq⟩ := hq
      refine aM_9 (f := (σ.2 9)) hB hw rfl h15 dX5_advise_138 ?_
      obtain ⟨h16, hq⟩ := hq
      refine sM_5 hB hw h16 dX5_advise_139 (fun H locs hw => ?_)
      refine lv_aload_n hx hb dX5_advise_140 rfl (lv_at hl 0 rfl) ?_
      refine gM_0_10 hB hw m164 dX5_advise_141 ?_
      refine lv_iload hx hb dX5_advise_144 (lv_at hl 3 rfl) ?_
      refine lv_aload_n hx hb dX5_advise_146 rfl (lv_at hl 0 rfl) ?_
      refine gM_0_16 hB hw m168 dX5_advise_147 ?_
      refine lv_iload hx hb dX5_advise_150 (lv_at hl 3 rfl) ?_
      obtain ⟨h17, hq⟩ := hq
      refine aM_10 (f := (σ.2 10)) hB hw rfl h17 dX5_advise_152 ?_
      obtain ⟨h18, hq⟩ := hq
      refine sM_6 hB hw h18 dX5_advise_153 (fun H locs hw => ?_)
      refine lv_iinc (v := x4 + 1) (lv' := [(4, .int (x4 + 1)), (0, .ref (ad 0)), (1, .int x1), (2, .int x2)]) hx hb dX5_advise_154 hl (k := 3) rfl rfl (by decide) rfl (fun ls hl => ?_)
      refine lv_goto (tgt := 117) hx hb dX5_advise_157 (by decide) ?_
      exact ih (setA (setA σ 5 x4.toNatClampNeg ((σ.2 9) x4.toNatClampNeg)) 6 x4.toNatClampNeg ((σ.2 10) x4.toNatClampNeg)) (x4 + 1) _ _ _ hq hw (lv_sub hl [1, 2, 3, 0] rfl)
set_option maxHeartbeats 4000000 in
set_option maxRecDepth 100000 in
theorem wj_X5_advise_87 {p : Program} {l : Launch} {e : Env} {s : State} {m : MethodId} {args : Array Value} {below : List Frame} {meth : Method} {c : Code} {D : va_G} {ad ln : Nat → Nat} {cI cZ : ClassId} {A : Nat → Prop} {post : Int32 → CS → Prop} {K1 : CS → Int32 → Prop} (hB : MB p s m args meth c cX5_advise 5 (some .int) RX5) (σ : CS) (x1 x2 x3 : Int32) (H : Heap) (locs : List Loc) (ls : Array Slot) (hK1 : ∀ (σ : CS) (x2 : Int32) (H : Heap) (locs : List Loc) (ls : Array Slot), K1 σ x2 → WD D (tyM cI cZ) (cellsM ad ln cI cZ σ) A s H locs → lv_has ls 5 [(0, .ref (ad 0)), (1, .int x1), (2, .int x2)] → W p l e (rmK 4) s m args below meth c H locs 0 0 (MQ below (va_Qi post (Pos0 D (tyM cI cZ) (cellsM ad ln cI cZ) A) A) args s 0 0 A) (F0 m 30 ls [])) (hq : jp_X5_advise_87 ln post K1 σ x1 x2 x3) (hw : WD D (tyM cI cZ) (cellsM ad ln cI cZ σ) A s H locs) (hl : lv_has ls 5 [(0, .ref (ad 0)), (1, .int x1), (2, .int x2), (3, .int x3)]) : W p l e (rmK 4) s m args below meth c H locs 0 0 (MQ below (va_Qi post (Pos0 D (tyM cI cZ) (cellsM ad ln cI cZ) A) A) args s 0 0 A) (F0 m 87 ls []) := by
  obtain ⟨hx, hb, hr, hml, hown, hts, hlk⟩ := id hB
  unfold jp_X5_advise_87 at hq
  refine lv_aload_n hx hb dX5_advise_87 rfl (lv_at hl 0 rfl) ?_
  refine lv_iload_n hx hb dX5_advise_88 rfl (lv_at hl 2 rfl) ?_
  refine lv_iload_n hx hb dX5_advise_89 rfl (lv_at hl 3 rfl) ?_
  refine w_cVI (As := [.int x2, .int x3]) (rest := []) hB hw hl.1 (c_X5_places l D ad ln cI cZ σ x2 x3 _ hq) m396 m271 m485 m188 m106 rfl ok_X5_places (okR_K (by decide) (by decide)) (q0 := 0) (ci := 5) rfl rfl rfl rfl (Nat.le_of_ble_eq_true rfl) dX5_advise_90 (fun r12 σ11 H locs hq hw => ?_)
  refine lv_if_eq (tgt := 160) hx hb dX5_advise_93 (by decide) (fun c13 => ?_) (fun c13 => ?_)
  · replace hq := hq.1 c13
    refine lv_iinc (v := x2 + 1) (lv' := [(2, .int (x2 + 1)), (0, .ref (ad 0)), (1, .int x1), (3, .int x3)]) hx hb dX5_advise_160 hl (k := 2) rfl rfl (by decide) rfl (fun ls hl => ?_)
    refine lv_goto (tgt := 30) hx hb dX5_advise_163 (by decide) ?_
    exact hK1 σ11 (x2 + 1) _ _ _ hq hw (lv_sub hl [1, 2, 0] rfl)
  · replace hq := hq.2 c13
    refine lv_aload_n hx hb dX5_advise_96 rfl (lv_at hl 0 rfl) ?_
    refine lv_iconst (v := 1) hx hb dX5_advise_97 (by decide) ?_
    refine pM_0_6 hB hw m173 rfl rfl dX5_advise_98 (fun H locs hw => ?_)
    refine lv_aload_n hx hb dX5_advise_101 rfl (lv_at hl 0 rfl) ?_
    refine lv_iload_n hx hb dX5_advise_102 rfl (lv_at hl 2 rfl) ?_
    refine pM_0_7 hB hw m158 dX5_advise_103 (fun H locs hw => ?_)
    refine lv_aload_n hx hb dX5_advise_106 rfl (lv_at hl 0 rfl) ?_
    refine lv_aload_n hx hb dX5_advise_107 rfl (lv_at hl 0 rfl) ?_
    refine gM_0_14 (x := σ11.1 6) hB hw m175 rfl dX5_advise_108 ?_
    refine pM_0_8 hB hw m174 dX5_advise_111 (fun H locs hw => ?_)
    refine lv_iconst (v := 0) hx hb dX5_advise_114 (by decide) ?_
    refine lv_istore (lv' := [(4, .int 0), (0, .ref (ad 0)), (1, .int x1), (2, .int x2), (3, .int x3)]) hx hb dX5_advise_115 hl (by decide) rfl (fun ls hl => ?_)
    obtain ⟨n19, hq⟩ := hq
    refine wl_X5_advise_117 hB  (fun σ20 H locs ls hq hw hl => ?_) n19 (setF (setF (setF σ11 2 1) 3 x2) 4 (σ11.1 6)) 0 _ _ _ hq hw (lv_sub hl [1, 2, 3, 0] rfl)
    refine lv_iinc (v := x2 + 1) (lv' := [(2, .int (x2 + 1)), (0, .ref (ad 0)), (1, .int x1)]) hx hb dX5_advise_160 hl (k := 2) rfl rfl (by decide) rfl (fun ls hl => ?_)
    refine lv_goto (tgt := 30) hx hb dX5_advise_163 (by decide) ?_
    exact hK1 σ20 (x2 + 1) _ _ _ hq hw (lv_sub hl [1, 2, 0] rfl)
set_option maxHeartbeats 4000000 in
set_option maxRecDepth 100000 in
theorem wj_X5_advise_58 {p : Program} {l : Launch} {e : Env} {s : State} {m : MethodId} {args : Array Value} {below : List Frame} {meth : Method} {c : Code} {D : va_G} {ad ln : Nat → Nat} {cI cZ : ClassId} {A : Nat → Prop} {post : Int32 → CS → Prop} {K1 : CS → Int32 → Prop} (hB : MB p s m args meth c cX5_advise 5 (some .int) RX5) (σ : CS) (x1 x2 x3 : Int32) (H : Heap) (locs : List Loc) (ls : Array Slot) (hK1 : ∀ (σ : CS) (x2 : Int32) (H : Heap) (locs : List Loc) (ls : Array Slot), K1 σ x2 → WD D (tyM cI cZ) (cellsM ad ln cI cZ σ) A s H locs → lv_has ls 5 [(0, .ref (ad 0)), (1, .int x1), (2, .int x2)] → W p l e (rmK 4) s m args below meth c H locs 0 0 (MQ below (va_Qi post (Pos0 D (tyM cI cZ) (cellsM ad ln cI cZ) A) A) args s 0 0 A) (F0 m 30 ls [])) (hq : jp_X5_advise_58 ln post K1 σ x1 x2 x3) (hw : WD D (tyM cI cZ) (cellsM ad ln cI cZ σ) A s H locs) (hl : lv_has ls 5 [(0, .ref (ad 0)), (1, .int x1), (2, .int x2), (3, .int x3)]) : W p l e (rmK 4) s m args below meth c H locs 0 0 (MQ below (va_Qi post (Pos0 D (tyM cI cZ) (cellsM ad ln cI cZ) A) A) args s 0 0 A) (F0 m 58 ls []) := by
  obtain ⟨hx, hb, hr, hml, hown, hts, hlk⟩ := id hB
  unfold jp_X5_advise_58 at hq
  refine lv_iload_n hx hb dX5_advise_58 rfl (lv_at hl 3 rfl) ?_
  refine lv_iconst (v := (-1)) hx hb dX5_advise_59 (by decide) ?_
  refine lv_icmp_eq (tgt := 160) hx hb dX5_advise_60 (by decide) (fun c8 => ?_) (fun c8 => ?_)
  · replace hq := hq.1 c8
    refine lv_iinc (v := x2 + 1) (lv' := [(2, .int (x2 + 1)), (0, .ref (ad 0)), (1, .int x1), (3, .int x3)]) hx hb dX5_advise_160 hl (k := 2) rfl rfl (by decide) rfl (fun ls hl => ?_)
    refine lv_goto (tgt := 30) hx hb dX5_advise_163 (by decide) ?_
    exact hK1 σ (x2 + 1) _ _ _ hq hw (lv_sub hl [1, 2, 0] rfl)
  · replace hq := hq.2 c8
    refine lv_aload_n hx hb dX5_advise_63 rfl (lv_at hl 0 rfl) ?_
    refine lv_iload_n hx hb dX5_advise_64 rfl (lv_at hl 2 rfl) ?_
    refine lv_iload_n hx hb dX5_advise_65 rfl (lv_at hl 3 rfl) ?_
    refine w_cVV (As := [.int x2, .int x3]) (rest := []) hB hw hl.1 (c_X5_gathers l D ad ln cI cZ σ x2 x3 _ hq) m395 m256 m471 m188 m91 rfl ok_X5_gathers (okR_K (by decide) (by decide)) (q0 := 0) (ci := 5) rfl rfl rfl rfl (Nat.le_of_ble_eq_true rfl) dX5_advise_66 (fun σ9 H locs hq hw => ?_)
    refine lv_aload_n hx hb dX5_advise_69 rfl (lv_at hl 0 rfl) ?_
    refine gM_0_6 (x := σ9.1 2) hB hw m173 rfl dX5_advise_70 ?_
    refine lv_if_eq (tgt := 87) hx hb dX5_advise_73 (by decide) (fun c10 => ?_) (fun c10 => ?_)
    · replace hq := hq.1 c10
      exact wj_X5_advise_87 hB σ9 x1 x2 x3 _ _ _ hK1 hq hw (lv_sub hl [0, 1, 2, 3] rfl)
    · replace hq := hq.2 c10
      refine lv_aload_n hx hb dX5_advise_76 rfl (lv_at hl 0 rfl) ?_
      refine gM_0_14 (x := σ9.1 6) hB hw m175 rfl dX5_advise_77 ?_
      refine lv_aload_n hx hb dX5_advise_80 rfl (lv_at hl 0 rfl) ?_
      refine gM_0_8 (x := σ9.1 4) hB hw m174 rfl dX5_advise_81 ?_
      refine lv_icmp_ge (tgt := 160) hx hb dX5_advise_84 (by decide) (fun c21 => ?_) (fun c21 => ?_)
      · replace hq := hq.1 c21
        refine lv_iinc (v := x2 + 1) (lv' := [(2, .int (x2 + 1)), (0, .ref (ad 0)), (1, .int x1), (3, .int x3)]) hx hb dX5_advise_160 hl (k := 2) rfl rfl (by decide) rfl (fun ls hl => ?_)
        refine lv_goto (tgt := 30) hx hb dX5_advise_163 (by decide) ?_
        exact hK1 σ9 (x2 + 1) _ _ _ hq hw (lv_sub hl [1, 2, 0] rfl)
      · replace hq := hq.2 c21
        exact wj_X5_advise_87 hB σ9 x1 x2 x3 _ _ _ hK1 hq hw (lv_sub hl [0, 1, 2, 3] rfl)
set_option maxHeartbeats 4000000 in
set_option maxRecDepth 100000 in
theorem wl_X5_advise_30 {p : Program} {l : Launch} {e : Env} {s : State} {m : MethodId} {args : Array Value} {below : List Frame} {meth : Method} {c : Code} {D : va_G} {ad ln : Nat → Nat} {cI cZ : ClassId} {A : Nat → Prop} {post : Int32 → CS → Prop}  {Kx : CS → Prop} {x1 : Int32} (hB : MB p s m args meth c cX5_advise 5 (some .int) RX5)  (hKx : ∀ (σ : CS) (H : Heap) (locs : List Loc) (ls : Array Slot), Kx σ  → WD D (tyM cI cZ) (cellsM ad ln cI cZ σ) A s H locs → lv_has ls 5 [(0, .ref (ad 0))] → W p l e (rmK 4) s m args below meth c H locs 0 0 (MQ below (va_Qi post (Pos0 D (tyM cI cZ) (cellsM ad ln cI cZ) A) A) args s 0 0 A) (F0 m 166 ls [])) :
    ∀ (n : Nat) (σ : CS) (x2 : Int32) (H : Heap) (locs : List Loc) (ls : Array Slot), lp_X5_advise_30 ln post  Kx x1 n σ x2 → WD D (tyM cI cZ) (cellsM ad ln cI cZ σ) A s H locs → lv_has ls 5 [(0, .ref (ad 0)), (1, .int x1), (2, .int x2)] → W p l e (rmK 4) s m args below meth c H locs 0 0 (MQ below (va_Qi post (Pos0 D (tyM cI cZ) (cellsM ad ln cI cZ) A) A) args s 0 0 A) (F0 m 30 ls []) := by
  obtain ⟨hx, hb, hr, hml, hown, hts, hlk⟩ := id hB
  intro n
  induction n with
  | zero => intro σ x2 H locs ls hq hw hl; exact hq.elim
  | succ n ih =>
    intro σ x2 H locs ls hq hw hl
    replace hq : lb_X5_advise_30 ln post  Kx x1 (lp_X5_advise_30 ln post  Kx x1 n) σ x2 := hq
    refine lv_iload_n hx hb dX5_advise_30 rfl (lv_at hl 2 rfl) ?_
    refine lv_aload_n hx hb dX5_advise_31 rfl (lv_at hl 0 rfl) ?_
    refine gM_0_1 (x := σ.1 1) hB hw m170 rfl dX5_advise_32 ?_
    refine lv_icmp_ge (tgt := 166) hx hb dX5_advise_35 (by decide) (fun c5 => ?_) (fun c5 => ?_)
    · replace hq := hq.1 c5
      exact hKx σ _ _ _ hq hw (lv_sub hl [0] rfl)
    · replace hq := hq.2 c5
      refine lv_aload_n hx hb dX5_advise_38 rfl (lv_at hl 0 rfl) ?_
      refine gM_0_2 hB hw m172 dX5_advise_39 ?_
      refine lv_iload_n hx hb dX5_advise_42 rfl (lv_at hl 2 rfl) ?_
      obtain ⟨h6, hq⟩ := hq
      refine aM_1 (f := (σ.2 1)) hB hw rfl h6 dX5_advise_43 ?_
      refine lv_if_le (tgt := 56) hx hb dX5_advise_44 (by decide) (fun c7 => ?_) (fun c7 => ?_)
      · replace hq := hq.1 c7
        refine lv_iconst (v := (-1)) hx hb dX5_advise_56 (by decide) ?_
        refine lv_istore_n (lv' := [(3, .int (-1)), (0, .ref (ad 0)), (1, .int x1), (2, .int x2)]) hx hb dX5_advise_57 rfl hl (by decide) rfl (fun ls hl => ?_)
        exact wj_X5_advise_58 hB σ x1 x2 (-1) _ _ _ ih hq hw (lv_sub hl [1, 2, 3, 0] rfl)
      · replace hq := hq.2 c7
        refine lv_aload_n hx hb dX5_advise_47 rfl (lv_at hl 0 rfl) ?_
        refine lv_iload_n hx hb dX5_advise_48 rfl (lv_at hl 2 rfl) ?_
        refine lv_iload_n hx hb dX5_advise_49 rfl (lv_at hl 1 rfl) ?_
        refine w_cVI (As := [.int x2, .int x1]) (rest := []) hB hw hl.1 (c_X5_windowEnd l D ad ln cI cZ σ x2 x1 _ hq) m394 m279 m493 m188 m114 rfl ok_X5_windowEnd (okR_K (by decide) (by decide)) (q0 := 0) (ci := 5) rfl rfl rfl rfl (Nat.le_of_ble_eq_true rfl) dX5_advise_50 (fun r23 σ22 H locs hq hw => ?_)
        refine lv_goto (tgt := 57) hx hb dX5_advise_53 (by decide) ?_
        refine lv_istore_n (lv' := [(3, .int r23), (0, .ref (ad 0)), (1, .int x1), (2, .int x2)]) hx hb dX5_advise_57 rfl hl (by decide) rfl (fun ls hl => ?_)
        exact wj_X5_advise_58 hB σ22 x1 x2 r23 _ _ _ ih hq hw (lv_sub hl [1, 2, 3, 0] rfl)
set_option maxHeartbeats 4000000 in
set_option maxRecDepth 100000 in
theorem c_X5_advise (l : Launch) (D : va_G) (ad ln : Nat → Nat) (cI cZ : ClassId) (σ : CS) (p1 : Int32) (post : Int32 → CS → Prop) (hq : wp_X5_advise ln σ p1 post) : MtI l D (tyM cI cZ) (cellsM ad ln cI cZ) yX5_advise cX5_advise 5 (some .int) (rmK 4) [.ref (ad 0), .int p1] σ post := by
  refine MtI_of (by decide) (Nat.le_of_ble_eq_true rfl) ?_
  intro p e s m below meth c A ls hB hw hl
  replace hB : MB p s m _ meth c cX5_advise 5 (some .int) RX5 := hB
  replace hl : lv_has ls 5 [(0, .ref (ad 0)), (1, .int p1)] := hl
  obtain ⟨hx, hb, hr, hml, hown, hts, hlk⟩ := id hB
  unfold wp_X5_advise at hq
  refine lv_aload_n hx hb dX5_advise_0 rfl (lv_at hl 0 rfl) ?_
  refine lv_iconst (v := 0) hx hb dX5_advise_1 (by decide) ?_
  refine pM_0_0 hB hw m171 dX5_advise_2 (fun H locs hw => ?_)
  refine lv_aload_n hx hb dX5_advise_5 rfl (lv_at hl 0 rfl) ?_
  refine lv_iconst (v := 0) hx hb dX5_advise_6 (by decide) ?_
  refine pM_0_6 hB hw m173 rfl rfl dX5_advise_7 (fun H locs hw => ?_)
  refine lv_iload_n hx hb dX5_advise_10 rfl (lv_at hl 1 rfl) ?_
  refine lv_iconst (v := 1) hx hb dX5_advise_11 (by decide) ?_
  refine lv_icmp_lt (tgt := 26) hx hb dX5_advise_12 (by decide) (fun c1 => ?_) (fun c1 => ?_)
  · replace hq := hq.1 c1
    refine lv_iconst (v := (-1)) hx hb dX5_advise_26 (by decide) ?_
    exact w_iret hB hw hq dX5_advise_27
  · replace hq := hq.2 c1
    refine lv_aload_n hx hb dX5_advise_15 rfl (lv_at hl 0 rfl) ?_
    refine lv_iconst (v := 2) hx hb dX5_advise_16 (by decide) ?_
    refine w_cVI (As := [.int 2]) (rest := []) hB hw hl.1 (c_X5_count l D ad ln cI cZ (setF (setF σ 0 0) 2 0) 2 _ hq) m408 m251 m466 m188 m86 rfl ok_X5_count (okR_K (by decide) (by decide)) (q0 := 0) (ci := 5) rfl rfl rfl rfl (Nat.le_of_ble_eq_true rfl) dX5_advise_17 (fun r3 σ2 H locs hq hw => ?_)
    refine lv_sipush (v := 128) hx hb dX5_advise_20 (by decide) ?_
    refine lv_icmp_le (tgt := 28) hx hb dX5_advise_23 (by decide) (fun c4 => ?_) (fun c4 => ?_)
    · replace hq := hq.1 c4
      refine lv_iconst (v := 0) hx hb dX5_advise_28 (by decide) ?_
      refine lv_istore_n (lv' := [(2, .int 0), (0, .ref (ad 0)), (1, .int p1)]) hx hb dX5_advise_29 rfl hl (by decide) rfl (fun ls hl => ?_)
      obtain ⟨n24, hq⟩ := hq
      refine wl_X5_advise_30 hB  (fun σ25 H locs ls hq hw hl => ?_) n24 σ2 0 _ _ _ hq hw (lv_sub hl [1, 2, 0] rfl)
      refine lv_aload_n hx hb dX5_advise_166 rfl (lv_at hl 0 rfl) ?_
      refine gM_0_6 (x := σ25.1 2) hB hw m173 rfl dX5_advise_167 ?_
      refine lv_if_eq (tgt := 180) hx hb dX5_advise_170 (by decide) (fun c26 => ?_) (fun c26 => ?_)
      · replace hq := hq.1 c26
        refine lv_iconst (v := (-1)) hx hb dX5_advise_180 (by decide) ?_
        exact w_iret hB hw hq dX5_advise_181
      · replace hq := hq.2 c26
        refine lv_aload_n hx hb dX5_advise_173 rfl (lv_at hl 0 rfl) ?_
        refine gM_0_8 (x := σ25.1 4) hB hw m174 rfl dX5_advise_174 ?_
        refine lv_goto (tgt := 181) hx hb dX5_advise_177 (by decide) ?_
        exact w_iret hB hw hq dX5_advise_181
    · replace hq := hq.2 c4
      refine lv_iconst (v := (-1)) hx hb dX5_advise_26 (by decide) ?_
      exact w_iret hB hw hq dX5_advise_27
theorem ok_X5_advise : okY yX5_advise 1 := ⟨by decide, by decide, by decide +kernel⟩
/-! X5_window -/
def wp_X5_window (ln : Nat → Nat) (σ : CS) (post : Int32 → CS → Prop) : Prop :=
  (((σ.1 2) = 0 → post (-1) (setF σ 0 0)) ∧ (¬ (σ.1 2) = 0 → wp_X5_address ln (setF σ 0 0) (σ.1 3) (fun r3 σ2 => post r3 σ2)))
set_option maxHeartbeats 4000000 in
set_option maxRecDepth 100000 in
theorem c_X5_window (l : Launch) (D : va_G) (ad ln : Nat → Nat) (cI cZ : ClassId) (σ : CS) (post : Int32 → CS → Prop) (hq : wp_X5_window ln σ  post) : MtI l D (tyM cI cZ) (cellsM ad ln cI cZ) yX5_window cX5_window 1 (some .int) (rmK 1) [.ref (ad 0)] σ post := by
  refine MtI_of (by decide) (Nat.le_of_ble_eq_true rfl) ?_
  intro p e s m below meth c A ls hB hw hl
  replace hB : MB p s m _ meth c cX5_window 1 (some .int) RX5 := hB
  replace hl : lv_has ls 1 [(0, .ref (ad 0))] := hl
  obtain ⟨hx, hb, hr, hml, hown, hts, hlk⟩ := id hB
  unfold wp_X5_window at hq
  refine lv_aload_n hx hb dX5_window_0 rfl (lv_at hl 0 rfl) ?_
  refine lv_iconst (v := 0) hx hb dX5_window_1 (by decide) ?_
  refine pM_0_0 hB hw m171 dX5_window_2 (fun H locs hw => ?_)
  refine lv_aload_n hx hb dX5_window_5 rfl (lv_at hl 0 rfl) ?_
  refine gM_0_6 (x := σ.1 2) hB hw m173 rfl dX5_window_6 ?_
  refine lv_if_eq (tgt := 22) hx hb dX5_window_9 (by decide) (fun c1 => ?_) (fun c1 => ?_)
  · replace hq := hq.1 c1
    refine lv_iconst (v := (-1)) hx hb dX5_window_22 (by decide) ?_
    exact w_iret hB hw hq dX5_window_23
  · replace hq := hq.2 c1
    refine lv_aload_n hx hb dX5_window_12 rfl (lv_at hl 0 rfl) ?_
    refine gM_0_7 (x := σ.1 3) hB hw m158 rfl dX5_window_13 ?_
    refine w_cSI (As := [.int (σ.1 3)]) (rest := []) hB hw hl.1 (c_X5_address l D ad ln cI cZ (setF σ 0 0) (σ.1 3) _ hq) m399 m506 m188 m82 ok_X5_address (okR_K (by decide) (by decide)) rfl rfl (Nat.le_of_ble_eq_true rfl) dX5_window_16 (fun r3 σ2 H locs hq hw => ?_)
    refine lv_goto (tgt := 23) hx hb dX5_window_19 (by decide) ?_
    exact w_iret hB hw hq dX5_window_23
theorem ok_X5_window : okY yX5_window 0 := ⟨by decide, by decide, by decide +kernel⟩
/-! X5_move -/
def jp_X5_move_41 (ln : Nat → Nat) (post : Int32 → CS → Prop)  (σ : CS) (x1 x2 : Int32) : Prop :=
  (((σ.1 0) = 0 → ((¬ x2 = 0 → (vp_in x1 (ln 6) ∧ wp_X5_address ln σ ((σ.2 6) x1.toNatClampNeg) (fun r6 σ5 => post r6 σ5))) ∧ (x2 = 0 → (vp_in x1 (ln 5) ∧ wp_X5_address ln σ ((σ.2 5) x1.toNatClampNeg) (fun r9 σ8 => post r9 σ8))))) ∧ (¬ (σ.1 0) = 0 → post 0 σ))
def wp_X5_move (ln : Nat → Nat) (σ : CS) (p1 p2 : Int32) (post : Int32 → CS → Prop) : Prop :=
  (((σ.1 2) = 0 → jp_X5_move_41 ln post  (setF σ 0 1) p1 p2) ∧ (¬ (σ.1 2) = 0 → ((p1 < 0 → jp_X5_move_41 ln post  (setF σ 0 1) p1 p2) ∧ (¬ p1 < 0 → ((p1 < (σ.1 4) → ((p2 < 0 → jp_X5_move_41 ln post  (setF σ 0 2) p1 p2) ∧ (¬ p2 < 0 → ((p2 ≤ 1 → jp_X5_move_41 ln post  (setF σ 0 0) p1 p2) ∧ (¬ p2 ≤ 1 → jp_X5_move_41 ln post  (setF σ 0 2) p1 p2))))) ∧ (¬ p1 < (σ.1 4) → jp_X5_move_41 ln post  (setF σ 0 1) p1 p2))))))
set_option maxHeartbeats 4000000 in
set_option maxRecDepth 100000 in
theorem wj_X5_move_41 {p : Program} {l : Launch} {e : Env} {s : State} {m : MethodId} {args : Array Value} {below : List Frame} {meth : Method} {c : Code} {D : va_G} {ad ln : Nat → Nat} {cI cZ : ClassId} {A : Nat → Prop} {post : Int32 → CS → Prop}  (hB : MB p s m args meth c cX5_move 3 (some .int) RX5) (σ : CS) (x1 x2 : Int32) (H : Heap) (locs : List Loc) (ls : Array Slot)  (hq : jp_X5_move_41 ln post  σ x1 x2) (hw : WD D (tyM cI cZ) (cellsM ad ln cI cZ σ) A s H locs) (hl : lv_has ls 3 [(0, .ref (ad 0)), (1, .int x1), (2, .int x2)]) : W p l e (rmK 1) s m args below meth c H locs 0 0 (MQ below (va_Qi post (Pos0 D (tyM cI cZ) (cellsM ad ln cI cZ) A) A) args s 0 0 A) (F0 m 41 ls []) := by
  obtain ⟨hx, hb, hr, hml, hown, hts, hlk⟩ := id hB
  unfold jp_X5_move_41 at hq
  refine lv_aload_n hx hb dX5_move_41 rfl (lv_at hl 0 rfl) ?_
  refine gM_0_0 (x := σ.1 0) hB hw m171 rfl dX5_move_42 ?_
  refine lv_if_eq (tgt := 52) hx hb dX5_move_45 (by decide) (fun c2 => ?_) (fun c2 => ?_)
  · replace hq := hq.1 c2
    refine lv_iload_n hx hb dX5_move_52 rfl (lv_at hl 2 rfl) ?_
    refine lv_if_ne (tgt := 65) hx hb dX5_move_53 (by decide) (fun c3 => ?_) (fun c3 => ?_)
    · replace hq := hq.1 c3
      refine lv_aload_n hx hb dX5_move_65 rfl (lv_at hl 0 rfl) ?_
      refine gM_0_10 hB hw m164 dX5_move_66 ?_
      refine lv_iload_n hx hb dX5_move_69 rfl (lv_at hl 1 rfl) ?_
      obtain ⟨h4, hq⟩ := hq
      refine aM_6 (f := (σ.2 6)) hB hw rfl h4 dX5_move_70 ?_
      refine w_cSI (As := [.int ((σ.2 6) x1.toNatClampNeg)]) (rest := []) hB hw hl.1 (c_X5_address l D ad ln cI cZ σ ((σ.2 6) x1.toNatClampNeg) _ hq) m399 m506 m188 m82 ok_X5_address (okR_K (by decide) (by decide)) rfl rfl (Nat.le_of_ble_eq_true rfl) dX5_move_71 (fun r6 σ5 H locs hq hw => ?_)
      exact w_iret hB hw hq dX5_move_74
    · replace hq := hq.2 c3
      refine lv_aload_n hx hb dX5_move_56 rfl (lv_at hl 0 rfl) ?_
      refine gM_0_9 hB hw m163 dX5_move_57 ?_
      refine lv_iload_n hx hb dX5_move_60 rfl (lv_at hl 1 rfl) ?_
      obtain ⟨h7, hq⟩ := hq
      refine aM_5 (f := (σ.2 5)) hB hw rfl h7 dX5_move_61 ?_
      refine lv_goto (tgt := 71) hx hb dX5_move_62 (by decide) ?_
      refine w_cSI (As := [.int ((σ.2 5) x1.toNatClampNeg)]) (rest := []) hB hw hl.1 (c_X5_address l D ad ln cI cZ σ ((σ.2 5) x1.toNatClampNeg) _ hq) m399 m506 m188 m82 ok_X5_address (okR_K (by decide) (by decide)) rfl rfl (Nat.le_of_ble_eq_true rfl) dX5_move_71 (fun r9 σ8 H locs hq hw => ?_)
      exact w_iret hB hw hq dX5_move_74
  · replace hq := hq.2 c2
    refine lv_iconst (v := 0) hx hb dX5_move_48 (by decide) ?_
    refine lv_goto (tgt := 74) hx hb dX5_move_49 (by decide) ?_
    exact w_iret hB hw hq dX5_move_74
set_option maxHeartbeats 4000000 in
set_option maxRecDepth 100000 in
theorem c_X5_move (l : Launch) (D : va_G) (ad ln : Nat → Nat) (cI cZ : ClassId) (σ : CS) (p1 p2 : Int32) (post : Int32 → CS → Prop) (hq : wp_X5_move ln σ p1 p2 post) : MtI l D (tyM cI cZ) (cellsM ad ln cI cZ) yX5_move cX5_move 3 (some .int) (rmK 1) [.ref (ad 0), .int p1, .int p2] σ post := by
  refine MtI_of (by decide) (Nat.le_of_ble_eq_true rfl) ?_
  intro p e s m below meth c A ls hB hw hl
  replace hB : MB p s m _ meth c cX5_move 3 (some .int) RX5 := hB
  replace hl : lv_has ls 3 [(0, .ref (ad 0)), (1, .int p1), (2, .int p2)] := hl
  obtain ⟨hx, hb, hr, hml, hown, hts, hlk⟩ := id hB
  unfold wp_X5_move at hq
  refine lv_aload_n hx hb dX5_move_0 rfl (lv_at hl 0 rfl) ?_
  refine lv_aload_n hx hb dX5_move_1 rfl (lv_at hl 0 rfl) ?_
  refine gM_0_6 (x := σ.1 2) hB hw m173 rfl dX5_move_2 ?_
  refine lv_if_eq (tgt := 20) hx hb dX5_move_5 (by decide) (fun c1 => ?_) (fun c1 => ?_)
  · replace hq := hq.1 c1
    refine lv_iconst (v := 1) hx hb dX5_move_20 (by decide) ?_
    refine lv_goto (tgt := 38) hx hb dX5_move_21 (by decide) ?_
    refine pM_0_0 hB hw m171 dX5_move_38 (fun H locs hw => ?_)
    exact wj_X5_move_41 hB (setF σ 0 1) p1 p2 _ _ _  hq hw (lv_sub hl [0, 1, 2] rfl)
  · replace hq := hq.2 c1
    refine lv_iload_n hx hb dX5_move_8 rfl (lv_at hl 1 rfl) ?_
    refine lv_if_lt (tgt := 20) hx hb dX5_move_9 (by decide) (fun c10 => ?_) (fun c10 => ?_)
    · replace hq := hq.1 c10
      refine lv_iconst (v := 1) hx hb dX5_move_20 (by decide) ?_
      refine lv_goto (tgt := 38) hx hb dX5_move_21 (by decide) ?_
      refine pM_0_0 hB hw m171 dX5_move_38 (fun H locs hw => ?_)
      exact wj_X5_move_41 hB (setF σ 0 1) p1 p2 _ _ _  hq hw (lv_sub hl [0, 1, 2] rfl)
    · replace hq := hq.2 c10
      refine lv_iload_n hx hb dX5_move_12 rfl (lv_at hl 1 rfl) ?_
      refine lv_aload_n hx hb dX5_move_13 rfl (lv_at hl 0 rfl) ?_
      refine gM_0_8 (x := σ.1 4) hB hw m174 rfl dX5_move_14 ?_
      refine lv_icmp_lt (tgt := 24) hx hb dX5_move_17 (by decide) (fun c11 => ?_) (fun c11 => ?_)
      · replace hq := hq.1 c11
        refine lv_iload_n hx hb dX5_move_24 rfl (lv_at hl 2 rfl) ?_
        refine lv_if_lt (tgt := 33) hx hb dX5_move_25 (by decide) (fun c12 => ?_) (fun c12 => ?_)
        · replace hq := hq.1 c12
          refine lv_iconst (v := 2) hx hb dX5_move_33 (by decide) ?_
          refine lv_goto (tgt := 38) hx hb dX5_move_34 (by decide) ?_
          refine pM_0_0 hB hw m171 dX5_move_38 (fun H locs hw => ?_)
          exact wj_X5_move_41 hB (setF σ 0 2) p1 p2 _ _ _  hq hw (lv_sub hl [0, 1, 2] rfl)
        · replace hq := hq.2 c12
          refine lv_iload_n hx hb dX5_move_28 rfl (lv_at hl 2 rfl) ?_
          refine lv_iconst (v := 1) hx hb dX5_move_29 (by decide) ?_
          refine lv_icmp_le (tgt := 37) hx hb dX5_move_30 (by decide) (fun c13 => ?_) (fun c13 => ?_)
          · replace hq := hq.1 c13
            refine lv_iconst (v := 0) hx hb dX5_move_37 (by decide) ?_
            refine pM_0_0 hB hw m171 dX5_move_38 (fun H locs hw => ?_)
            exact wj_X5_move_41 hB (setF σ 0 0) p1 p2 _ _ _  hq hw (lv_sub hl [0, 1, 2] rfl)
          · replace hq := hq.2 c13
            refine lv_iconst (v := 2) hx hb dX5_move_33 (by decide) ?_
            refine lv_goto (tgt := 38) hx hb dX5_move_34 (by decide) ?_
            refine pM_0_0 hB hw m171 dX5_move_38 (fun H locs hw => ?_)
            exact wj_X5_move_41 hB (setF σ 0 2) p1 p2 _ _ _  hq hw (lv_sub hl [0, 1, 2] rfl)
      · replace hq := hq.2 c11
        refine lv_iconst (v := 1) hx hb dX5_move_20 (by decide) ?_
        refine lv_goto (tgt := 38) hx hb dX5_move_21 (by decide) ?_
        refine pM_0_0 hB hw m171 dX5_move_38 (fun H locs hw => ?_)
        exact wj_X5_move_41 hB (setF σ 0 1) p1 p2 _ _ _  hq hw (lv_sub hl [0, 1, 2] rfl)
theorem ok_X5_move : okY yX5_move 2 := ⟨by decide, by decide, by decide +kernel⟩
/-! X5_goes -/
def lb_X5_goes_10 (ln : Nat → Nat) (post : CS → Prop)  (Kx : CS → Int32 → Prop) (x1 x2 x3 : Int32) (Kb : CS → Int32 → Prop) (σ : CS) (x4 : Int32) : Prop :=
  (vp_in x4 (ln 1) ∧ ((¬ ((σ.2 1) x4.toNatClampNeg) = 0 → Kx σ x4) ∧ (((σ.2 1) x4.toNatClampNeg) = 0 → Kb σ (x4 + (-1)))))
def lp_X5_goes_10 (ln : Nat → Nat) (post : CS → Prop)  (Kx : CS → Int32 → Prop) (x1 x2 x3 : Int32) : Nat → CS → Int32 → Prop
  | 0 => fun _ _ => False
  | n + 1 => lb_X5_goes_10 ln post  Kx x1 x2 x3 (lp_X5_goes_10 ln post  Kx x1 x2 x3 n)
def lb_X5_goes_37 (ln : Nat → Nat) (post : CS → Prop)  (Kx : CS → Prop) (x1 x2 x3 : Int32) (Kb : CS → Int32 → Prop) (σ : CS) (x5 : Int32) : Prop :=
  ((((4 * x3) - 1) ≤ x5 → Kx σ) ∧ (¬ ((4 * x3) - 1) ≤ x5 → wp_X5_address ln σ x2 (fun r10 σ9 => wp_X5_address ln σ9 x1 (fun r12 σ11 => (vp_in (r12 + x5) (ln 4) ∧ (vp_in (r10 + x5) (ln 4) ∧ Kb (setA σ11 4 (r10 + x5).toNatClampNeg ((σ11.2 4) (r12 + x5).toNatClampNeg)) (x5 + 1)))))))
def lp_X5_goes_37 (ln : Nat → Nat) (post : CS → Prop)  (Kx : CS → Prop) (x1 x2 x3 : Int32) : Nat → CS → Int32 → Prop
  | 0 => fun _ _ => False
  | n + 1 => lb_X5_goes_37 ln post  Kx x1 x2 x3 (lp_X5_goes_37 ln post  Kx x1 x2 x3 n)
def wp_X5_goes (ln : Nat → Nat) (σ : CS) (p1 p2 : Int32) (post : CS → Prop) : Prop :=
  (vp_in p1 (ln 1) ∧ (∃ n4 : Nat, lp_X5_goes_10 ln post  (fun σ5 x4_6 => wp_X5_takes ln σ5 x4_6 p2 ((σ.2 1) p1.toNatClampNeg) (fun σ7 => (∃ n15 : Nat, lp_X5_goes_37 ln post  (fun σ16 => (vp_in p1 (ln 2) ∧ post (setA σ16 2 p1.toNatClampNeg (vp_nar .boolean 0)))) p1 p2 ((σ.2 1) p1.toNatClampNeg) n15 σ7 0))) p1 p2 ((σ.2 1) p1.toNatClampNeg) n4 σ p2))
set_option maxHeartbeats 4000000 in
set_option maxRecDepth 100000 in
theorem wl_X5_goes_10 {p : Program} {l : Launch} {e : Env} {s : State} {m : MethodId} {args : Array Value} {below : List Frame} {meth : Method} {c : Code} {D : va_G} {ad ln : Nat → Nat} {cI cZ : ClassId} {A : Nat → Prop} {post : CS → Prop}  {Kx : CS → Int32 → Prop} {x1 x2 x3 : Int32} (hB : MB p s m args meth c cX5_goes 6 none RX5)  (hKx : ∀ (σ : CS) (x4 : Int32) (H : Heap) (locs : List Loc) (ls : Array Slot), Kx σ x4 → WD D (tyM cI cZ) (cellsM ad ln cI cZ σ) A s H locs → lv_has ls 6 [(0, .ref (ad 0)), (1, .int x1), (2, .int x2), (3, .int x3), (4, .int x4)] → W p l e (rmK 2) s m args below meth c H locs 0 0 (MQ below (va_Qv post (Pos0 D (tyM cI cZ) (cellsM ad ln cI cZ) A) A) args s 0 0 A) (F0 m 26 ls [])) :
    ∀ (n : Nat) (σ : CS) (x4 : Int32) (H : Heap) (locs : List Loc) (ls : Array Slot), lp_X5_goes_10 ln post  Kx x1 x2 x3 n σ x4 → WD D (tyM cI cZ) (cellsM ad ln cI cZ σ) A s H locs → lv_has ls 6 [(0, .ref (ad 0)), (1, .int x1), (2, .int x2), (3, .int x3), (4, .int x4)] → W p l e (rmK 2) s m args below meth c H locs 0 0 (MQ below (va_Qv post (Pos0 D (tyM cI cZ) (cellsM ad ln cI cZ) A) A) args s 0 0 A) (F0 m 10 ls []) := by
  obtain ⟨hx, hb, hr, hml, hown, hts, hlk⟩ := id hB
  intro n
  induction n with
  | zero => intro σ x4 H locs ls hq hw hl; exact hq.elim
  | succ n ih =>
    intro σ x4 H locs ls hq hw hl
    replace hq : lb_X5_goes_10 ln post  Kx x1 x2 x3 (lp_X5_goes_10 ln post  Kx x1 x2 x3 n) σ x4 := hq
    refine lv_aload_n hx hb dX5_goes_10 rfl (lv_at hl 0 rfl) ?_
    refine gM_0_2 hB hw m172 dX5_goes_11 ?_
    refine lv_iload hx hb dX5_goes_14 (lv_at hl 4 rfl) ?_
    obtain ⟨h2, hq⟩ := hq
    refine aM_1 (f := (σ.2 1)) hB hw rfl h2 dX5_goes_16 ?_
    refine lv_if_ne (tgt := 26) hx hb dX5_goes_17 (by decide) (fun c3 => ?_) (fun c3 => ?_)
    · replace hq := hq.1 c3
      exact hKx σ x4 _ _ _ hq hw (lv_sub hl [0, 1, 2, 3, 4] rfl)
    · replace hq := hq.2 c3
      refine lv_iinc (v := x4 + (-1)) (lv' := [(4, .int (x4 + (-1))), (0, .ref (ad 0)), (1, .int x1), (2, .int x2), (3, .int x3)]) hx hb dX5_goes_20 hl (k := 4) rfl rfl (by decide) rfl (fun ls hl => ?_)
      refine lv_goto (tgt := 10) hx hb dX5_goes_23 (by decide) ?_
      exact ih σ (x4 + (-1)) _ _ _ hq hw (lv_sub hl [1, 2, 3, 4, 0] rfl)
set_option maxHeartbeats 4000000 in
set_option maxRecDepth 100000 in
theorem wl_X5_goes_37 {p : Program} {l : Launch} {e : Env} {s : State} {m : MethodId} {args : Array Value} {below : List Frame} {meth : Method} {c : Code} {D : va_G} {ad ln : Nat → Nat} {cI cZ : ClassId} {A : Nat → Prop} {post : CS → Prop}  {Kx : CS → Prop} {x1 x2 x3 : Int32} (hB : MB p s m args meth c cX5_goes 6 none RX5)  (hKx : ∀ (σ : CS) (H : Heap) (locs : List Loc) (ls : Array Slot), Kx σ  → WD D (tyM cI cZ) (cellsM ad ln cI cZ σ) A s H locs → lv_has ls 6 [(0, .ref (ad 0)), (1, .int x1)] → W p l e (rmK 2) s m args below meth c H locs 0 0 (MQ below (va_Qv post (Pos0 D (tyM cI cZ) (cellsM ad ln cI cZ) A) A) args s 0 0 A) (F0 m 77 ls [])) :
    ∀ (n : Nat) (σ : CS) (x5 : Int32) (H : Heap) (locs : List Loc) (ls : Array Slot), lp_X5_goes_37 ln post  Kx x1 x2 x3 n σ x5 → WD D (tyM cI cZ) (cellsM ad ln cI cZ σ) A s H locs → lv_has ls 6 [(0, .ref (ad 0)), (1, .int x1), (2, .int x2), (3, .int x3), (5, .int x5)] → W p l e (rmK 2) s m args below meth c H locs 0 0 (MQ below (va_Qv post (Pos0 D (tyM cI cZ) (cellsM ad ln cI cZ) A) A) args s 0 0 A) (F0 m 37 ls []) := by
  obtain ⟨hx, hb, hr, hml, hown, hts, hlk⟩ := id hB
  intro n
  induction n with
  | zero => intro σ x5 H locs ls hq hw hl; exact hq.elim
  | succ n ih =>
    intro σ x5 H locs ls hq hw hl
    replace hq : lb_X5_goes_37 ln post  Kx x1 x2 x3 (lp_X5_goes_37 ln post  Kx x1 x2 x3 n) σ x5 := hq
    refine lv_iload hx hb dX5_goes_37 (lv_at hl 4 rfl) ?_
    refine lv_iconst (v := 4) hx hb dX5_goes_39 (by decide) ?_
    refine lv_iload_n hx hb dX5_goes_40 rfl (lv_at hl 3 rfl) ?_
    refine lv_imul hx hb dX5_goes_41 ?_
    refine lv_iconst (v := 1) hx hb dX5_goes_42 (by decide) ?_
    refine lv_isub hx hb dX5_goes_43 ?_
    refine lv_icmp_ge (tgt := 77) hx hb dX5_goes_44 (by decide) (fun c8 => ?_) (fun c8 => ?_)
    · replace hq := hq.1 c8
      exact hKx σ _ _ _ hq hw (lv_sub hl [0, 1] rfl)
    · replace hq := hq.2 c8
      refine lv_aload_n hx hb dX5_goes_47 rfl (lv_at hl 0 rfl) ?_
      refine gM_0_5 hB hw m162 dX5_goes_48 ?_
      refine lv_iload_n hx hb dX5_goes_51 rfl (lv_at hl 2 rfl) ?_
      refine w_cSI (As := [.int x2]) (rest := [.ref (ad 4)]) hB hw hl.1 (c_X5_address l D ad ln cI cZ σ x2 _ hq) m399 m506 m188 m82 ok_X5_address (okR_K (by decide) (by decide)) rfl rfl (Nat.le_of_ble_eq_true rfl) dX5_goes_52 (fun r10 σ9 H locs hq hw => ?_)
      refine lv_iload hx hb dX5_goes_55 (lv_at hl 4 rfl) ?_
      refine lv_iadd hx hb dX5_goes_57 ?_
      refine lv_aload_n hx hb dX5_goes_58 rfl (lv_at hl 0 rfl) ?_
      refine gM_0_5 hB hw m162 dX5_goes_59 ?_
      refine lv_iload_n hx hb dX5_goes_62 rfl (lv_at hl 1 rfl) ?_
      refine w_cSI (As := [.int x1]) (rest := [.ref (ad 4), .int (r10 + x5), .ref (ad 4)]) hB hw hl.1 (c_X5_address l D ad ln cI cZ σ9 x1 _ hq) m399 m506 m188 m82 ok_X5_address (okR_K (by decide) (by decide)) rfl rfl (Nat.le_of_ble_eq_true rfl) dX5_goes_63 (fun r12 σ11 H locs hq hw => ?_)
      refine lv_iload hx hb dX5_goes_66 (lv_at hl 4 rfl) ?_
      refine lv_iadd hx hb dX5_goes_68 ?_
      obtain ⟨h13, hq⟩ := hq
      refine aM_4 (f := (σ11.2 4)) hB hw rfl h13 dX5_goes_69 ?_
      obtain ⟨h14, hq⟩ := hq
      refine sM_4 hB hw h14 dX5_goes_70 (fun H locs hw => ?_)
      refine lv_iinc (v := x5 + 1) (lv' := [(5, .int (x5 + 1)), (0, .ref (ad 0)), (1, .int x1), (2, .int x2), (3, .int x3)]) hx hb dX5_goes_71 hl (k := 4) rfl rfl (by decide) rfl (fun ls hl => ?_)
      refine lv_goto (tgt := 37) hx hb dX5_goes_74 (by decide) ?_
      exact ih (setA σ11 4 (r10 + x5).toNatClampNeg ((σ11.2 4) (r12 + x5).toNatClampNeg)) (x5 + 1) _ _ _ hq hw (lv_sub hl [1, 2, 3, 4, 0] rfl)
set_option maxHeartbeats 4000000 in
set_option maxRecDepth 100000 in
theorem c_X5_goes (l : Launch) (D : va_G) (ad ln : Nat → Nat) (cI cZ : ClassId) (σ : CS) (p1 p2 : Int32) (post : CS → Prop) (hq : wp_X5_goes ln σ p1 p2 post) : MtV l D (tyM cI cZ) (cellsM ad ln cI cZ) yX5_goes cX5_goes 6 none (rmK 2) [.ref (ad 0), .int p1, .int p2] σ post := by
  refine MtV_of (by decide) (Nat.le_of_ble_eq_true rfl) ?_
  intro p e s m below meth c A ls hB hw hl
  replace hB : MB p s m _ meth c cX5_goes 6 none RX5 := hB
  replace hl : lv_has ls 6 [(0, .ref (ad 0)), (1, .int p1), (2, .int p2)] := hl
  obtain ⟨hx, hb, hr, hml, hown, hts, hlk⟩ := id hB
  unfold wp_X5_goes at hq
  refine lv_aload_n hx hb dX5_goes_0 rfl (lv_at hl 0 rfl) ?_
  refine gM_0_2 hB hw m172 dX5_goes_1 ?_
  refine lv_iload_n hx hb dX5_goes_4 rfl (lv_at hl 1 rfl) ?_
  obtain ⟨h1, hq⟩ := hq
  refine aM_1 (f := (σ.2 1)) hB hw rfl h1 dX5_goes_5 ?_
  refine lv_istore_n (lv' := [(3, .int ((σ.2 1) p1.toNatClampNeg)), (0, .ref (ad 0)), (1, .int p1), (2, .int p2)]) hx hb dX5_goes_6 rfl hl (by decide) rfl (fun ls hl => ?_)
  refine lv_iload_n hx hb dX5_goes_7 rfl (lv_at hl 3 rfl) ?_
  refine lv_istore (lv' := [(4, .int p2), (3, .int ((σ.2 1) p1.toNatClampNeg)), (0, .ref (ad 0)), (1, .int p1), (2, .int p2)]) hx hb dX5_goes_8 hl (by decide) rfl (fun ls hl => ?_)
  obtain ⟨n4, hq⟩ := hq
  refine wl_X5_goes_10 hB  (fun σ5 x4_6 H locs ls hq hw hl => ?_) n4 σ p2 _ _ _ hq hw (lv_sub hl [2, 3, 4, 1, 0] rfl)
  refine lv_aload_n hx hb dX5_goes_26 rfl (lv_at hl 0 rfl) ?_
  refine lv_iload hx hb dX5_goes_27 (lv_at hl 4 rfl) ?_
  refine lv_iload_n hx hb dX5_goes_29 rfl (lv_at hl 2 rfl) ?_
  refine lv_iload_n hx hb dX5_goes_30 rfl (lv_at hl 3 rfl) ?_
  refine w_cVV (As := [.int x4_6, .int p2, .int ((σ.2 1) p1.toNatClampNeg)]) (rest := []) hB hw hl.1 (c_X5_takes l D ad ln cI cZ σ5 x4_6 p2 ((σ.2 1) p1.toNatClampNeg) _ hq) m402 m274 m488 m188 m109 rfl ok_X5_takes (okR_K (by decide) (by decide)) (q0 := 0) (ci := 5) rfl rfl rfl rfl (Nat.le_of_ble_eq_true rfl) dX5_goes_31 (fun σ7 H locs hq hw => ?_)
  refine lv_iconst (v := 0) hx hb dX5_goes_34 (by decide) ?_
  refine lv_istore (lv' := [(5, .int 0), (0, .ref (ad 0)), (1, .int p1), (2, .int p2), (3, .int ((σ.2 1) p1.toNatClampNeg)), (4, .int x4_6)]) hx hb dX5_goes_35 hl (by decide) rfl (fun ls hl => ?_)
  obtain ⟨n15, hq⟩ := hq
  refine wl_X5_goes_37 hB  (fun σ16 H locs ls hq hw hl => ?_) n15 σ7 0 _ _ _ hq hw (lv_sub hl [1, 2, 3, 4, 0] rfl)
  refine lv_aload_n hx hb dX5_goes_77 rfl (lv_at hl 0 rfl) ?_
  refine gM_0_3 hB hw m160 dX5_goes_78 ?_
  refine lv_iload_n hx hb dX5_goes_81 rfl (lv_at hl 1 rfl) ?_
  refine lv_iconst (v := 0) hx hb dX5_goes_82 (by decide) ?_
  obtain ⟨h17, hq⟩ := hq
  refine sM_2 hB hw h17 dX5_goes_83 (fun H locs hw => ?_)
  exact w_vret hB hw hq dX5_goes_84
theorem ok_X5_goes : okY yX5_goes 2 := ⟨by decide, by decide, by decide +kernel⟩
/-! X5_apply -/
def lb_X5_apply_24 (ln : Nat → Nat) (post : Int32 → CS → Prop)  (Kx : CS → Prop)  (Kb : CS → Int32 → Prop) (σ : CS) (x1 : Int32) : Prop :=
  (((σ.1 4) ≤ x1 → Kx σ) ∧ (¬ (σ.1 4) ≤ x1 → (vp_in x1 (ln 5) ∧ wp_X5_address ln σ ((σ.2 5) x1.toNatClampNeg) (fun r5 σ4 => (vp_in x1 (ln 7) ∧ (vp_in x1 (ln 6) ∧ wp_X5_address ln (setA σ4 7 x1.toNatClampNeg r5) ((σ4.2 6) x1.toNatClampNeg) (fun r9 σ8 => (vp_in x1 (ln 8) ∧ wp_X5_goes ln (setA σ8 8 x1.toNatClampNeg r9) ((σ8.2 5) x1.toNatClampNeg) ((σ8.2 6) x1.toNatClampNeg) (fun σ11 => Kb σ11 (x1 + 1))))))))))
def lp_X5_apply_24 (ln : Nat → Nat) (post : Int32 → CS → Prop)  (Kx : CS → Prop)  : Nat → CS → Int32 → Prop
  | 0 => fun _ _ => False
  | n + 1 => lb_X5_apply_24 ln post  Kx  (lp_X5_apply_24 ln post  Kx  n)
def wp_X5_apply (ln : Nat → Nat) (σ : CS) (post : Int32 → CS → Prop) : Prop :=
  ((¬ (σ.1 2) = 0 → (∃ n12 : Nat, lp_X5_apply_24 ln post  (fun σ13 => wp_X5_joins ln σ13 (fun σ14 => post (σ14.1 5) (setF σ14 2 0)))  n12 (setF (setF σ 0 0) 5 (σ.1 4)) 0)) ∧ ((σ.1 2) = 0 → post (-1) (setF σ 0 0)))
set_option maxHeartbeats 4000000 in
set_option maxRecDepth 100000 in
theorem wl_X5_apply_24 {p : Program} {l : Launch} {e : Env} {s : State} {m : MethodId} {args : Array Value} {below : List Frame} {meth : Method} {c : Code} {D : va_G} {ad ln : Nat → Nat} {cI cZ : ClassId} {A : Nat → Prop} {post : Int32 → CS → Prop}  {Kx : CS → Prop}  (hB : MB p s m args meth c cX5_apply 2 (some .int) RX5)  (hKx : ∀ (σ : CS) (H : Heap) (locs : List Loc) (ls : Array Slot), Kx σ  → WD D (tyM cI cZ) (cellsM ad ln cI cZ σ) A s H locs → lv_has ls 2 [(0, .ref (ad 0))] → W p l e (rmK 3) s m args below meth c H locs 0 0 (MQ below (va_Qi post (Pos0 D (tyM cI cZ) (cellsM ad ln cI cZ) A) A) args s 0 0 A) (F0 m 84 ls [])) :
    ∀ (n : Nat) (σ : CS) (x1 : Int32) (H : Heap) (locs : List Loc) (ls : Array Slot), lp_X5_apply_24 ln post  Kx  n σ x1 → WD D (tyM cI cZ) (cellsM ad ln cI cZ σ) A s H locs → lv_has ls 2 [(0, .ref (ad 0)), (1, .int x1)] → W p l e (rmK 3) s m args below meth c H locs 0 0 (MQ below (va_Qi post (Pos0 D (tyM cI cZ) (cellsM ad ln cI cZ) A) A) args s 0 0 A) (F0 m 24 ls []) := by
  obtain ⟨hx, hb, hr, hml, hown, hts, hlk⟩ := id hB
  intro n
  induction n with
  | zero => intro σ x1 H locs ls hq hw hl; exact hq.elim
  | succ n ih =>
    intro σ x1 H locs ls hq hw hl
    replace hq : lb_X5_apply_24 ln post  Kx  (lp_X5_apply_24 ln post  Kx  n) σ x1 := hq
    refine lv_iload_n hx hb dX5_apply_24 rfl (lv_at hl 1 rfl) ?_
    refine lv_aload_n hx hb dX5_apply_25 rfl (lv_at hl 0 rfl) ?_
    refine gM_0_8 (x := σ.1 4) hB hw m174 rfl dX5_apply_26 ?_
    refine lv_icmp_ge (tgt := 84) hx hb dX5_apply_29 (by decide) (fun c2 => ?_) (fun c2 => ?_)
    · replace hq := hq.1 c2
      exact hKx σ _ _ _ hq hw (lv_sub hl [0] rfl)
    · replace hq := hq.2 c2
      refine lv_aload_n hx hb dX5_apply_32 rfl (lv_at hl 0 rfl) ?_
      refine gM_0_12 hB hw m165 dX5_apply_33 ?_
      refine lv_iload_n hx hb dX5_apply_36 rfl (lv_at hl 1 rfl) ?_
      refine lv_aload_n hx hb dX5_apply_37 rfl (lv_at hl 0 rfl) ?_
      refine gM_0_9 hB hw m163 dX5_apply_38 ?_
      refine lv_iload_n hx hb dX5_apply_41 rfl (lv_at hl 1 rfl) ?_
      obtain ⟨h3, hq⟩ := hq
      refine aM_5 (f := (σ.2 5)) hB hw rfl h3 dX5_apply_42 ?_
      refine w_cSI (As := [.int ((σ.2 5) x1.toNatClampNeg)]) (rest := [.int x1, .ref (ad 7)]) hB hw hl.1 (c_X5_address l D ad ln cI cZ σ ((σ.2 5) x1.toNatClampNeg) _ hq) m399 m506 m188 m82 ok_X5_address (okR_K (by decide) (by decide)) rfl rfl (Nat.le_of_ble_eq_true rfl) dX5_apply_43 (fun r5 σ4 H locs hq hw => ?_)
      obtain ⟨h6, hq⟩ := hq
      refine sM_7 hB hw h6 dX5_apply_46 (fun H locs hw => ?_)
      refine lv_aload_n hx hb dX5_apply_47 rfl (lv_at hl 0 rfl) ?_
      refine gM_0_13 hB hw m166 dX5_apply_48 ?_
      refine lv_iload_n hx hb dX5_apply_51 rfl (lv_at hl 1 rfl) ?_
      refine lv_aload_n hx hb dX5_apply_52 rfl (lv_at hl 0 rfl) ?_
      refine gM_0_10 hB hw m164 dX5_apply_53 ?_
      refine lv_iload_n hx hb dX5_apply_56 rfl (lv_at hl 1 rfl) ?_
      obtain ⟨h7, hq⟩ := hq
      refine aM_6 (f := (σ4.2 6)) hB hw rfl h7 dX5_apply_57 ?_
      refine w_cSI (As := [.int ((σ4.2 6) x1.toNatClampNeg)]) (rest := [.int x1, .ref (ad 8)]) hB hw hl.1 (c_X5_address l D ad ln cI cZ (setA σ4 7 x1.toNatClampNeg r5) ((σ4.2 6) x1.toNatClampNeg) _ hq) m399 m506 m188 m82 ok_X5_address (okR_K (by decide) (by decide)) rfl rfl (Nat.le_of_ble_eq_true rfl) dX5_apply_58 (fun r9 σ8 H locs hq hw => ?_)
      obtain ⟨h10, hq⟩ := hq
      refine sM_8 hB hw h10 dX5_apply_61 (fun H locs hw => ?_)
      refine lv_aload_n hx hb dX5_apply_62 rfl (lv_at hl 0 rfl) ?_
      refine lv_aload_n hx hb dX5_apply_63 rfl (lv_at hl 0 rfl) ?_
      refine gM_0_9 hB hw m163 dX5_apply_64 ?_
      refine lv_iload_n hx hb dX5_apply_67 rfl (lv_at hl 1 rfl) ?_
      refine aM_5 (f := (σ8.2 5)) hB hw rfl h3 dX5_apply_68 ?_
      refine lv_aload_n hx hb dX5_apply_69 rfl (lv_at hl 0 rfl) ?_
      refine gM_0_10 hB hw m164 dX5_apply_70 ?_
      refine lv_iload_n hx hb dX5_apply_73 rfl (lv_at hl 1 rfl) ?_
      refine aM_6 (f := (σ8.2 6)) hB hw rfl h7 dX5_apply_74 ?_
      refine w_cVV (As := [.int ((σ8.2 5) x1.toNatClampNeg), .int ((σ8.2 6) x1.toNatClampNeg)]) (rest := []) hB hw hl.1 (c_X5_goes l D ad ln cI cZ (setA σ8 8 x1.toNatClampNeg r9) ((σ8.2 5) x1.toNatClampNeg) ((σ8.2 6) x1.toNatClampNeg) _ hq) m397 m261 m476 m188 m96 rfl ok_X5_goes (okR_K (by decide) (by decide)) (q0 := 0) (ci := 5) rfl rfl rfl rfl (Nat.le_of_ble_eq_true rfl) dX5_apply_75 (fun σ11 H locs hq hw => ?_)
      refine lv_iinc (v := x1 + 1) (lv' := [(1, .int (x1 + 1)), (0, .ref (ad 0))]) hx hb dX5_apply_78 hl (k := 1) rfl rfl (by decide) rfl (fun ls hl => ?_)
      refine lv_goto (tgt := 24) hx hb dX5_apply_81 (by decide) ?_
      exact ih σ11 (x1 + 1) _ _ _ hq hw (lv_sub hl [1, 0] rfl)
set_option maxHeartbeats 4000000 in
set_option maxRecDepth 100000 in
theorem c_X5_apply (l : Launch) (D : va_G) (ad ln : Nat → Nat) (cI cZ : ClassId) (σ : CS) (post : Int32 → CS → Prop) (hq : wp_X5_apply ln σ  post) : MtI l D (tyM cI cZ) (cellsM ad ln cI cZ) yX5_apply cX5_apply 2 (some .int) (rmK 3) [.ref (ad 0)] σ post := by
  refine MtI_of (by decide) (Nat.le_of_ble_eq_true rfl) ?_
  intro p e s m below meth c A ls hB hw hl
  replace hB : MB p s m _ meth c cX5_apply 2 (some .int) RX5 := hB
  replace hl : lv_has ls 2 [(0, .ref (ad 0))] := hl
  obtain ⟨hx, hb, hr, hml, hown, hts, hlk⟩ := id hB
  unfold wp_X5_apply at hq
  refine lv_aload_n hx hb dX5_apply_0 rfl (lv_at hl 0 rfl) ?_
  refine lv_iconst (v := 0) hx hb dX5_apply_1 (by decide) ?_
  refine pM_0_0 hB hw m171 dX5_apply_2 (fun H locs hw => ?_)
  refine lv_aload_n hx hb dX5_apply_5 rfl (lv_at hl 0 rfl) ?_
  refine gM_0_6 (x := σ.1 2) hB hw m173 rfl dX5_apply_6 ?_
  refine lv_if_ne (tgt := 14) hx hb dX5_apply_9 (by decide) (fun c1 => ?_) (fun c1 => ?_)
  · replace hq := hq.1 c1
    refine lv_aload_n hx hb dX5_apply_14 rfl (lv_at hl 0 rfl) ?_
    refine lv_aload_n hx hb dX5_apply_15 rfl (lv_at hl 0 rfl) ?_
    refine gM_0_8 (x := σ.1 4) hB hw m174 rfl dX5_apply_16 ?_
    refine pM_0_11 hB hw m159 dX5_apply_19 (fun H locs hw => ?_)
    refine lv_iconst (v := 0) hx hb dX5_apply_22 (by decide) ?_
    refine lv_istore_n (lv' := [(1, .int 0), (0, .ref (ad 0))]) hx hb dX5_apply_23 rfl hl (by decide) rfl (fun ls hl => ?_)
    obtain ⟨n12, hq⟩ := hq
    refine wl_X5_apply_24 hB  (fun σ13 H locs ls hq hw hl => ?_) n12 (setF (setF σ 0 0) 5 (σ.1 4)) 0 _ _ _ hq hw (lv_sub hl [1, 0] rfl)
    refine lv_aload_n hx hb dX5_apply_84 rfl (lv_at hl 0 rfl) ?_
    refine w_cVV (As := []) (rest := []) hB hw hl.1 (c_X5_joins l D ad ln cI cZ σ13 _ hq) m404 m266 m480 m188 m101 rfl ok_X5_joins (okR_K (by decide) (by decide)) (q0 := 0) (ci := 5) rfl rfl rfl rfl (Nat.le_of_ble_eq_true rfl) dX5_apply_85 (fun σ14 H locs hq hw => ?_)
    refine lv_aload_n hx hb dX5_apply_88 rfl (lv_at hl 0 rfl) ?_
    refine lv_iconst (v := 0) hx hb dX5_apply_89 (by decide) ?_
    refine pM_0_6 hB hw m173 rfl rfl dX5_apply_90 (fun H locs hw => ?_)
    refine lv_aload_n hx hb dX5_apply_93 rfl (lv_at hl 0 rfl) ?_
    refine gM_0_11 (x := σ14.1 5) hB hw m159 rfl dX5_apply_94 ?_
    exact w_iret hB hw hq dX5_apply_97
  · replace hq := hq.2 c1
    refine lv_iconst (v := (-1)) hx hb dX5_apply_12 (by decide) ?_
    exact w_iret hB hw hq dX5_apply_13
theorem ok_X5_apply : okY yX5_apply 0 := ⟨by decide, by decide, by decide +kernel⟩
/-! X5_moved -/
def lb_X5_moved_7 (ln : Nat → Nat) (post : Int32 → CS → Prop)  (Kx : CS → Prop) (x1 : Int32) (Kb : CS → Int32 → Prop) (σ : CS) (x2 : Int32) : Prop :=
  (((σ.1 5) ≤ x2 → Kx σ) ∧ (¬ (σ.1 5) ≤ x2 → (vp_in x2 (ln 7) ∧ ((¬ ((σ.2 7) x2.toNatClampNeg) = x1 → Kb σ (x2 + 1)) ∧ (((σ.2 7) x2.toNatClampNeg) = x1 → (vp_in x2 (ln 8) ∧ post ((σ.2 8) x2.toNatClampNeg) σ))))))
def lp_X5_moved_7 (ln : Nat → Nat) (post : Int32 → CS → Prop)  (Kx : CS → Prop) (x1 : Int32) : Nat → CS → Int32 → Prop
  | 0 => fun _ _ => False
  | n + 1 => lb_X5_moved_7 ln post  Kx x1 (lp_X5_moved_7 ln post  Kx x1 n)
def wp_X5_moved (ln : Nat → Nat) (σ : CS) (p1 : Int32) (post : Int32 → CS → Prop) : Prop :=
  (∃ n5 : Nat, lp_X5_moved_7 ln post  (fun σ6 => post (-1) σ6) p1 n5 (setF σ 0 0) 0)
set_option maxHeartbeats 4000000 in
set_option maxRecDepth 100000 in
theorem wl_X5_moved_7 {p : Program} {l : Launch} {e : Env} {s : State} {m : MethodId} {args : Array Value} {below : List Frame} {meth : Method} {c : Code} {D : va_G} {ad ln : Nat → Nat} {cI cZ : ClassId} {A : Nat → Prop} {post : Int32 → CS → Prop}  {Kx : CS → Prop} {x1 : Int32} (hB : MB p s m args meth c cX5_moved 3 (some .int) RX5)  (hKx : ∀ (σ : CS) (H : Heap) (locs : List Loc) (ls : Array Slot), Kx σ  → WD D (tyM cI cZ) (cellsM ad ln cI cZ σ) A s H locs → lv_has ls 3 [] → W p l e (rmK 0) s m args below meth c H locs 0 0 (MQ below (va_Qi post (Pos0 D (tyM cI cZ) (cellsM ad ln cI cZ) A) A) args s 0 0 A) (F0 m 38 ls [])) :
    ∀ (n : Nat) (σ : CS) (x2 : Int32) (H : Heap) (locs : List Loc) (ls : Array Slot), lp_X5_moved_7 ln post  Kx x1 n σ x2 → WD D (tyM cI cZ) (cellsM ad ln cI cZ σ) A s H locs → lv_has ls 3 [(0, .ref (ad 0)), (1, .int x1), (2, .int x2)] → W p l e (rmK 0) s m args below meth c H locs 0 0 (MQ below (va_Qi post (Pos0 D (tyM cI cZ) (cellsM ad ln cI cZ) A) A) args s 0 0 A) (F0 m 7 ls []) := by
  obtain ⟨hx, hb, hr, hml, hown, hts, hlk⟩ := id hB
  intro n
  induction n with
  | zero => intro σ x2 H locs ls hq hw hl; exact hq.elim
  | succ n ih =>
    intro σ x2 H locs ls hq hw hl
    replace hq : lb_X5_moved_7 ln post  Kx x1 (lp_X5_moved_7 ln post  Kx x1 n) σ x2 := hq
    refine lv_iload_n hx hb dX5_moved_7 rfl (lv_at hl 2 rfl) ?_
    refine lv_aload_n hx hb dX5_moved_8 rfl (lv_at hl 0 rfl) ?_
    refine gM_0_11 (x := σ.1 5) hB hw m159 rfl dX5_moved_9 ?_
    refine lv_icmp_ge (tgt := 38) hx hb dX5_moved_12 (by decide) (fun c1 => ?_) (fun c1 => ?_)
    · replace hq := hq.1 c1
      exact hKx σ _ _ _ hq hw (lv_sub hl [] rfl)
    · replace hq := hq.2 c1
      refine lv_aload_n hx hb dX5_moved_15 rfl (lv_at hl 0 rfl) ?_
      refine gM_0_12 hB hw m165 dX5_moved_16 ?_
      refine lv_iload_n hx hb dX5_moved_19 rfl (lv_at hl 2 rfl) ?_
      obtain ⟨h2, hq⟩ := hq
      refine aM_7 (f := (σ.2 7)) hB hw rfl h2 dX5_moved_20 ?_
      refine lv_iload_n hx hb dX5_moved_21 rfl (lv_at hl 1 rfl) ?_
      refine lv_icmp_ne (tgt := 32) hx hb dX5_moved_22 (by decide) (fun c3 => ?_) (fun c3 => ?_)
      · replace hq := hq.1 c3
        refine lv_iinc (v := x2 + 1) (lv' := [(2, .int (x2 + 1)), (0, .ref (ad 0)), (1, .int x1)]) hx hb dX5_moved_32 hl (k := 2) rfl rfl (by decide) rfl (fun ls hl => ?_)
        refine lv_goto (tgt := 7) hx hb dX5_moved_35 (by decide) ?_
        exact ih σ (x2 + 1) _ _ _ hq hw (lv_sub hl [1, 2, 0] rfl)
      · replace hq := hq.2 c3
        refine lv_aload_n hx hb dX5_moved_25 rfl (lv_at hl 0 rfl) ?_
        refine gM_0_13 hB hw m166 dX5_moved_26 ?_
        refine lv_iload_n hx hb dX5_moved_29 rfl (lv_at hl 2 rfl) ?_
        obtain ⟨h4, hq⟩ := hq
        refine aM_8 (f := (σ.2 8)) hB hw rfl h4 dX5_moved_30 ?_
        exact w_iret hB hw hq dX5_moved_31
set_option maxHeartbeats 4000000 in
set_option maxRecDepth 100000 in
theorem c_X5_moved (l : Launch) (D : va_G) (ad ln : Nat → Nat) (cI cZ : ClassId) (σ : CS) (p1 : Int32) (post : Int32 → CS → Prop) (hq : wp_X5_moved ln σ p1 post) : MtI l D (tyM cI cZ) (cellsM ad ln cI cZ) yX5_moved cX5_moved 3 (some .int) (rmK 0) [.ref (ad 0), .int p1] σ post := by
  refine MtI_of (by decide) (Nat.le_of_ble_eq_true rfl) ?_
  intro p e s m below meth c A ls hB hw hl
  replace hB : MB p s m _ meth c cX5_moved 3 (some .int) RX5 := hB
  replace hl : lv_has ls 3 [(0, .ref (ad 0)), (1, .int p1)] := hl
  obtain ⟨hx, hb, hr, hml, hown, hts, hlk⟩ := id hB
  unfold wp_X5_moved at hq
  refine lv_aload_n hx hb dX5_moved_0 rfl (lv_at hl 0 rfl) ?_
  refine lv_iconst (v := 0) hx hb dX5_moved_1 (by decide) ?_
  refine pM_0_0 hB hw m171 dX5_moved_2 (fun H locs hw => ?_)
  refine lv_iconst (v := 0) hx hb dX5_moved_5 (by decide) ?_
  refine lv_istore_n (lv' := [(2, .int 0), (0, .ref (ad 0)), (1, .int p1)]) hx hb dX5_moved_6 rfl hl (by decide) rfl (fun ls hl => ?_)
  obtain ⟨n5, hq⟩ := hq
  refine wl_X5_moved_7 hB  (fun σ6 H locs ls hq hw hl => ?_) n5 (setF σ 0 0) 0 _ _ _ hq hw (lv_sub hl [1, 2, 0] rfl)
  refine lv_iconst (v := (-1)) hx hb dX5_moved_38 (by decide) ?_
  exact w_iret hB hw hq dX5_moved_39
theorem ok_X5_moved : okY yX5_moved 1 := ⟨by decide, by decide, by decide +kernel⟩
