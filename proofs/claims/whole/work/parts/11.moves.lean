/-! X1_put_10 -/
def wp_X1_put_10 (ln : Nat → Nat) (σ : CS) (p1 p2 : Int32) (post : CS → Prop) : Prop :=
  (((nI (ln 11)) ≤ (σ.1 4) → post σ) ∧ (¬ (nI (ln 11)) ≤ (σ.1 4) → (vp_in (σ.1 4) (ln 11) ∧ (vp_in (σ.1 4) (ln 12) ∧ post (setF (setA (setA σ 11 (σ.1 4).toNatClampNeg p1) 12 (σ.1 4).toNatClampNeg p2) 4 ((σ.1 4) + 1))))))
set_option maxHeartbeats 4000000 in
set_option maxRecDepth 100000 in
theorem c_X1_put_10 (l : Launch) (D : va_G) (ad ln : Nat → Nat) (cI : ClassId) (σ : CS) (p1 p2 : Int32) (post : CS → Prop) (hq : wp_X1_put_10 ln σ p1 p2 post) : MtV l D (tyC cI) (cellsC ad ln cI) yX1_put cX1_put 3 none (rmK 0) [.ref (ad 10), .int p1, .int p2] σ post := by
  refine MtV_of (by decide) (Nat.le_of_ble_eq_true rfl) ?_
  intro p e s m below meth c A ls hB hw hl
  replace hB : MB p s m _ meth c cX1_put 3 none RX1 := hB
  replace hl : lv_has ls 3 [(0, .ref (ad 10)), (1, .int p1), (2, .int p2)] := hl
  obtain ⟨hx, hb, hr, hml, hown, hts, hlk⟩ := id hB
  unfold wp_X1_put_10 at hq
  refine lv_aload_n hx hb dX1_put_0 rfl (lv_at hl 0 rfl) ?_
  refine gC_10_2 (x := σ.1 4) hB hw m130 rfl dX1_put_1 ?_
  refine lv_aload_n hx hb dX1_put_4 rfl (lv_at hl 0 rfl) ?_
  refine gC_10_0 hB hw m131 dX1_put_5 ?_
  refine nC_11 (x := nI (ln 11)) hB hw rfl dX1_put_8 ?_
  refine lv_icmp_ge (tgt := 42) hx hb dX1_put_9 (by decide) (fun c1 => ?_) (fun c1 => ?_)
  · replace hq := hq.1 c1
    exact w_vret hB hw hq dX1_put_42
  · replace hq := hq.2 c1
    refine lv_aload_n hx hb dX1_put_12 rfl (lv_at hl 0 rfl) ?_
    refine gC_10_0 hB hw m131 dX1_put_13 ?_
    refine lv_aload_n hx hb dX1_put_16 rfl (lv_at hl 0 rfl) ?_
    refine gC_10_2 (x := σ.1 4) hB hw m130 rfl dX1_put_17 ?_
    refine lv_iload_n hx hb dX1_put_20 rfl (lv_at hl 1 rfl) ?_
    obtain ⟨h2, hq⟩ := hq
    refine sC_11 hB hw h2 dX1_put_21 (fun H locs hw => ?_)
    refine lv_aload_n hx hb dX1_put_22 rfl (lv_at hl 0 rfl) ?_
    refine gC_10_1 hB hw m129 dX1_put_23 ?_
    refine lv_aload_n hx hb dX1_put_26 rfl (lv_at hl 0 rfl) ?_
    refine gC_10_2 (x := σ.1 4) hB hw m130 rfl dX1_put_27 ?_
    refine lv_iload_n hx hb dX1_put_30 rfl (lv_at hl 2 rfl) ?_
    obtain ⟨h3, hq⟩ := hq
    refine sC_12 hB hw h3 dX1_put_31 (fun H locs hw => ?_)
    refine lv_aload_n hx hb dX1_put_32 rfl (lv_at hl 0 rfl) ?_
    refine lv_dup hx hb dX1_put_33 rfl ?_
    refine gC_10_2 (x := σ.1 4) hB hw m130 rfl dX1_put_34 ?_
    refine lv_iconst (v := 1) hx hb dX1_put_37 (by decide) ?_
    refine lv_iadd hx hb dX1_put_38 ?_
    refine pC_10_2 hB hw m130 dX1_put_39 (fun H locs hw => ?_)
    exact w_vret hB hw hq dX1_put_42
theorem ok_X1_put_10 : okY yX1_put 2 := ⟨by decide, by decide, by decide +kernel⟩
/-! X1_put_13 -/
def wp_X1_put_13 (ln : Nat → Nat) (σ : CS) (p1 p2 : Int32) (post : CS → Prop) : Prop :=
  (((nI (ln 14)) ≤ (σ.1 5) → post σ) ∧ (¬ (nI (ln 14)) ≤ (σ.1 5) → (vp_in (σ.1 5) (ln 14) ∧ (vp_in (σ.1 5) (ln 15) ∧ post (setF (setA (setA σ 14 (σ.1 5).toNatClampNeg p1) 15 (σ.1 5).toNatClampNeg p2) 5 ((σ.1 5) + 1))))))
set_option maxHeartbeats 4000000 in
set_option maxRecDepth 100000 in
theorem c_X1_put_13 (l : Launch) (D : va_G) (ad ln : Nat → Nat) (cI : ClassId) (σ : CS) (p1 p2 : Int32) (post : CS → Prop) (hq : wp_X1_put_13 ln σ p1 p2 post) : MtV l D (tyC cI) (cellsC ad ln cI) yX1_put cX1_put 3 none (rmK 0) [.ref (ad 13), .int p1, .int p2] σ post := by
  refine MtV_of (by decide) (Nat.le_of_ble_eq_true rfl) ?_
  intro p e s m below meth c A ls hB hw hl
  replace hB : MB p s m _ meth c cX1_put 3 none RX1 := hB
  replace hl : lv_has ls 3 [(0, .ref (ad 13)), (1, .int p1), (2, .int p2)] := hl
  obtain ⟨hx, hb, hr, hml, hown, hts, hlk⟩ := id hB
  unfold wp_X1_put_13 at hq
  refine lv_aload_n hx hb dX1_put_0 rfl (lv_at hl 0 rfl) ?_
  refine gC_13_2 (x := σ.1 5) hB hw m130 rfl dX1_put_1 ?_
  refine lv_aload_n hx hb dX1_put_4 rfl (lv_at hl 0 rfl) ?_
  refine gC_13_0 hB hw m131 dX1_put_5 ?_
  refine nC_14 (x := nI (ln 14)) hB hw rfl dX1_put_8 ?_
  refine lv_icmp_ge (tgt := 42) hx hb dX1_put_9 (by decide) (fun c1 => ?_) (fun c1 => ?_)
  · replace hq := hq.1 c1
    exact w_vret hB hw hq dX1_put_42
  · replace hq := hq.2 c1
    refine lv_aload_n hx hb dX1_put_12 rfl (lv_at hl 0 rfl) ?_
    refine gC_13_0 hB hw m131 dX1_put_13 ?_
    refine lv_aload_n hx hb dX1_put_16 rfl (lv_at hl 0 rfl) ?_
    refine gC_13_2 (x := σ.1 5) hB hw m130 rfl dX1_put_17 ?_
    refine lv_iload_n hx hb dX1_put_20 rfl (lv_at hl 1 rfl) ?_
    obtain ⟨h2, hq⟩ := hq
    refine sC_14 hB hw h2 dX1_put_21 (fun H locs hw => ?_)
    refine lv_aload_n hx hb dX1_put_22 rfl (lv_at hl 0 rfl) ?_
    refine gC_13_1 hB hw m129 dX1_put_23 ?_
    refine lv_aload_n hx hb dX1_put_26 rfl (lv_at hl 0 rfl) ?_
    refine gC_13_2 (x := σ.1 5) hB hw m130 rfl dX1_put_27 ?_
    refine lv_iload_n hx hb dX1_put_30 rfl (lv_at hl 2 rfl) ?_
    obtain ⟨h3, hq⟩ := hq
    refine sC_15 hB hw h3 dX1_put_31 (fun H locs hw => ?_)
    refine lv_aload_n hx hb dX1_put_32 rfl (lv_at hl 0 rfl) ?_
    refine lv_dup hx hb dX1_put_33 rfl ?_
    refine gC_13_2 (x := σ.1 5) hB hw m130 rfl dX1_put_34 ?_
    refine lv_iconst (v := 1) hx hb dX1_put_37 (by decide) ?_
    refine lv_iadd hx hb dX1_put_38 ?_
    refine pC_13_2 hB hw m130 dX1_put_39 (fun H locs hw => ?_)
    exact w_vret hB hw hq dX1_put_42
theorem ok_X1_put_13 : okY yX1_put 2 := ⟨by decide, by decide, by decide +kernel⟩
/-! X1_put_18 -/
def wp_X1_put_18 (ln : Nat → Nat) (σ : CS) (p1 p2 : Int32) (post : CS → Prop) : Prop :=
  (((nI (ln 19)) ≤ (σ.1 6) → post σ) ∧ (¬ (nI (ln 19)) ≤ (σ.1 6) → (vp_in (σ.1 6) (ln 19) ∧ (vp_in (σ.1 6) (ln 20) ∧ post (setF (setA (setA σ 19 (σ.1 6).toNatClampNeg p1) 20 (σ.1 6).toNatClampNeg p2) 6 ((σ.1 6) + 1))))))
set_option maxHeartbeats 4000000 in
set_option maxRecDepth 100000 in
theorem c_X1_put_18 (l : Launch) (D : va_G) (ad ln : Nat → Nat) (cI : ClassId) (σ : CS) (p1 p2 : Int32) (post : CS → Prop) (hq : wp_X1_put_18 ln σ p1 p2 post) : MtV l D (tyC cI) (cellsC ad ln cI) yX1_put cX1_put 3 none (rmK 0) [.ref (ad 18), .int p1, .int p2] σ post := by
  refine MtV_of (by decide) (Nat.le_of_ble_eq_true rfl) ?_
  intro p e s m below meth c A ls hB hw hl
  replace hB : MB p s m _ meth c cX1_put 3 none RX1 := hB
  replace hl : lv_has ls 3 [(0, .ref (ad 18)), (1, .int p1), (2, .int p2)] := hl
  obtain ⟨hx, hb, hr, hml, hown, hts, hlk⟩ := id hB
  unfold wp_X1_put_18 at hq
  refine lv_aload_n hx hb dX1_put_0 rfl (lv_at hl 0 rfl) ?_
  refine gC_18_2 (x := σ.1 6) hB hw m130 rfl dX1_put_1 ?_
  refine lv_aload_n hx hb dX1_put_4 rfl (lv_at hl 0 rfl) ?_
  refine gC_18_0 hB hw m131 dX1_put_5 ?_
  refine nC_19 (x := nI (ln 19)) hB hw rfl dX1_put_8 ?_
  refine lv_icmp_ge (tgt := 42) hx hb dX1_put_9 (by decide) (fun c1 => ?_) (fun c1 => ?_)
  · replace hq := hq.1 c1
    exact w_vret hB hw hq dX1_put_42
  · replace hq := hq.2 c1
    refine lv_aload_n hx hb dX1_put_12 rfl (lv_at hl 0 rfl) ?_
    refine gC_18_0 hB hw m131 dX1_put_13 ?_
    refine lv_aload_n hx hb dX1_put_16 rfl (lv_at hl 0 rfl) ?_
    refine gC_18_2 (x := σ.1 6) hB hw m130 rfl dX1_put_17 ?_
    refine lv_iload_n hx hb dX1_put_20 rfl (lv_at hl 1 rfl) ?_
    obtain ⟨h2, hq⟩ := hq
    refine sC_19 hB hw h2 dX1_put_21 (fun H locs hw => ?_)
    refine lv_aload_n hx hb dX1_put_22 rfl (lv_at hl 0 rfl) ?_
    refine gC_18_1 hB hw m129 dX1_put_23 ?_
    refine lv_aload_n hx hb dX1_put_26 rfl (lv_at hl 0 rfl) ?_
    refine gC_18_2 (x := σ.1 6) hB hw m130 rfl dX1_put_27 ?_
    refine lv_iload_n hx hb dX1_put_30 rfl (lv_at hl 2 rfl) ?_
    obtain ⟨h3, hq⟩ := hq
    refine sC_20 hB hw h3 dX1_put_31 (fun H locs hw => ?_)
    refine lv_aload_n hx hb dX1_put_32 rfl (lv_at hl 0 rfl) ?_
    refine lv_dup hx hb dX1_put_33 rfl ?_
    refine gC_18_2 (x := σ.1 6) hB hw m130 rfl dX1_put_34 ?_
    refine lv_iconst (v := 1) hx hb dX1_put_37 (by decide) ?_
    refine lv_iadd hx hb dX1_put_38 ?_
    refine pC_18_2 hB hw m130 dX1_put_39 (fun H locs hw => ?_)
    exact w_vret hB hw hq dX1_put_42
theorem ok_X1_put_18 : okY yX1_put 2 := ⟨by decide, by decide, by decide +kernel⟩
/-! X1_takeOver_10 -/
def lb_X1_takeOver_10_7 (ln : Nat → Nat) (post : CS → Prop)  (Kx : CS → Prop)  (Kb : CS → Int32 → Prop) (σ : CS) (x2 : Int32) : Prop :=
  (((σ.1 5) ≤ x2 → Kx σ) ∧ (¬ (σ.1 5) ≤ x2 → (vp_in x2 (ln 14) ∧ (vp_in x2 (ln 15) ∧ wp_X1_put_10 ln σ ((σ.2 14) x2.toNatClampNeg) ((σ.2 15) x2.toNatClampNeg) (fun σ4 => Kb σ4 (x2 + 1))))))
def lp_X1_takeOver_10_7 (ln : Nat → Nat) (post : CS → Prop)  (Kx : CS → Prop)  : Nat → CS → Int32 → Prop
  | 0 => fun _ _ => False
  | n + 1 => lb_X1_takeOver_10_7 ln post  Kx  (lp_X1_takeOver_10_7 ln post  Kx  n)
def wp_X1_takeOver_10 (ln : Nat → Nat) (σ : CS) (post : CS → Prop) : Prop :=
  (∃ n5 : Nat, lp_X1_takeOver_10_7 ln post  (fun σ6 => post σ6)  n5 (setF σ 4 0) 0)
set_option maxHeartbeats 4000000 in
set_option maxRecDepth 100000 in
theorem wl_X1_takeOver_10_7 {p : Program} {l : Launch} {e : Env} {s : State} {m : MethodId} {args : Array Value} {below : List Frame} {meth : Method} {c : Code} {D : va_G} {ad ln : Nat → Nat} {cI : ClassId} {A : Nat → Prop} {post : CS → Prop}  {Kx : CS → Prop}  (hB : MB p s m args meth c cX1_takeOver 3 none RX1)  (hKx : ∀ (σ : CS) (H : Heap) (locs : List Loc) (ls : Array Slot), Kx σ  → WD D (tyC cI) (cellsC ad ln cI σ) A s H locs → lv_has ls 3 [] → W p l e (rmK 1) s m args below meth c H locs 0 0 (MQ below (va_Qv post (Pos0 D (tyC cI) (cellsC ad ln cI) A) A) args s 0 0 A) (F0 m 37 ls [])) :
    ∀ (n : Nat) (σ : CS) (x2 : Int32) (H : Heap) (locs : List Loc) (ls : Array Slot), lp_X1_takeOver_10_7 ln post  Kx  n σ x2 → WD D (tyC cI) (cellsC ad ln cI σ) A s H locs → lv_has ls 3 [(0, .ref (ad 10)), (1, .ref (ad 13)), (2, .int x2)] → W p l e (rmK 1) s m args below meth c H locs 0 0 (MQ below (va_Qv post (Pos0 D (tyC cI) (cellsC ad ln cI) A) A) args s 0 0 A) (F0 m 7 ls []) := by
  obtain ⟨hx, hb, hr, hml, hown, hts, hlk⟩ := id hB
  intro n
  induction n with
  | zero => intro σ x2 H locs ls hq hw hl; exact hq.elim
  | succ n ih =>
    intro σ x2 H locs ls hq hw hl
    replace hq : lb_X1_takeOver_10_7 ln post  Kx  (lp_X1_takeOver_10_7 ln post  Kx  n) σ x2 := hq
    refine lv_iload_n hx hb dX1_takeOver_7 rfl (lv_at hl 2 rfl) ?_
    refine lv_aload_n hx hb dX1_takeOver_8 rfl (lv_at hl 1 rfl) ?_
    refine gC_13_2 (x := σ.1 5) hB hw m130 rfl dX1_takeOver_9 ?_
    refine lv_icmp_ge (tgt := 37) hx hb dX1_takeOver_12 (by decide) (fun c1 => ?_) (fun c1 => ?_)
    · replace hq := hq.1 c1
      exact hKx σ _ _ _ hq hw (lv_sub hl [] rfl)
    · replace hq := hq.2 c1
      refine lv_aload_n hx hb dX1_takeOver_15 rfl (lv_at hl 0 rfl) ?_
      refine lv_aload_n hx hb dX1_takeOver_16 rfl (lv_at hl 1 rfl) ?_
      refine gC_13_0 hB hw m131 dX1_takeOver_17 ?_
      refine lv_iload_n hx hb dX1_takeOver_20 rfl (lv_at hl 2 rfl) ?_
      obtain ⟨h2, hq⟩ := hq
      refine aC_14 (f := (σ.2 14)) hB hw rfl h2 dX1_takeOver_21 ?_
      refine lv_aload_n hx hb dX1_takeOver_22 rfl (lv_at hl 1 rfl) ?_
      refine gC_13_1 hB hw m129 dX1_takeOver_23 ?_
      refine lv_iload_n hx hb dX1_takeOver_26 rfl (lv_at hl 2 rfl) ?_
      obtain ⟨h3, hq⟩ := hq
      refine aC_15 (f := (σ.2 15)) hB hw rfl h3 dX1_takeOver_27 ?_
      refine w_cVV (As := [.int ((σ.2 14) x2.toNatClampNeg), .int ((σ.2 15) x2.toNatClampNeg)]) (rest := []) hB hw hl.1 (c_X1_put_10 l D ad ln cI σ ((σ.2 14) x2.toNatClampNeg) ((σ.2 15) x2.toNatClampNeg) _ hq) m342 m198 m416 m184 m30 rfl ok_X1_put_10 (okR_K (by decide) (by decide)) (q0 := 10) (ci := 1) rfl rfl rfl rfl (Nat.le_of_ble_eq_true rfl) dX1_takeOver_28 (fun σ4 H locs hq hw => ?_)
      refine lv_iinc (v := x2 + 1) (lv' := [(2, .int (x2 + 1)), (0, .ref (ad 10)), (1, .ref (ad 13))]) hx hb dX1_takeOver_31 hl (k := 2) rfl rfl (by decide) rfl (fun ls hl => ?_)
      refine lv_goto (tgt := 7) hx hb dX1_takeOver_34 (by decide) ?_
      exact ih σ4 (x2 + 1) _ _ _ hq hw (lv_sub hl [1, 2, 0] rfl)
set_option maxHeartbeats 4000000 in
set_option maxRecDepth 100000 in
theorem c_X1_takeOver_10 (l : Launch) (D : va_G) (ad ln : Nat → Nat) (cI : ClassId) (σ : CS) (post : CS → Prop) (hq : wp_X1_takeOver_10 ln σ  post) : MtV l D (tyC cI) (cellsC ad ln cI) yX1_takeOver cX1_takeOver 3 none (rmK 1) [.ref (ad 10), .ref (ad 13)] σ post := by
  refine MtV_of (by decide) (Nat.le_of_ble_eq_true rfl) ?_
  intro p e s m below meth c A ls hB hw hl
  replace hB : MB p s m _ meth c cX1_takeOver 3 none RX1 := hB
  replace hl : lv_has ls 3 [(0, .ref (ad 10)), (1, .ref (ad 13))] := hl
  obtain ⟨hx, hb, hr, hml, hown, hts, hlk⟩ := id hB
  unfold wp_X1_takeOver_10 at hq
  refine lv_aload_n hx hb dX1_takeOver_0 rfl (lv_at hl 0 rfl) ?_
  refine lv_iconst (v := 0) hx hb dX1_takeOver_1 (by decide) ?_
  refine pC_10_2 hB hw m130 dX1_takeOver_2 (fun H locs hw => ?_)
  refine lv_iconst (v := 0) hx hb dX1_takeOver_5 (by decide) ?_
  refine lv_istore_n (lv' := [(2, .int 0), (0, .ref (ad 10)), (1, .ref (ad 13))]) hx hb dX1_takeOver_6 rfl hl (by decide) rfl (fun ls hl => ?_)
  obtain ⟨n5, hq⟩ := hq
  refine wl_X1_takeOver_10_7 hB  (fun σ6 H locs ls hq hw hl => ?_) n5 (setF σ 4 0) 0 _ _ _ hq hw (lv_sub hl [1, 2, 0] rfl)
  exact w_vret hB hw hq dX1_takeOver_37
theorem ok_X1_takeOver_10 : okY yX1_takeOver 1 := ⟨by decide, by decide, by decide +kernel⟩
/-! X1_takeOver_18 -/
def lb_X1_takeOver_18_7 (ln : Nat → Nat) (post : CS → Prop)  (Kx : CS → Prop)  (Kb : CS → Int32 → Prop) (σ : CS) (x2 : Int32) : Prop :=
  (((σ.1 4) ≤ x2 → Kx σ) ∧ (¬ (σ.1 4) ≤ x2 → (vp_in x2 (ln 11) ∧ (vp_in x2 (ln 12) ∧ wp_X1_put_18 ln σ ((σ.2 11) x2.toNatClampNeg) ((σ.2 12) x2.toNatClampNeg) (fun σ4 => Kb σ4 (x2 + 1))))))
def lp_X1_takeOver_18_7 (ln : Nat → Nat) (post : CS → Prop)  (Kx : CS → Prop)  : Nat → CS → Int32 → Prop
  | 0 => fun _ _ => False
  | n + 1 => lb_X1_takeOver_18_7 ln post  Kx  (lp_X1_takeOver_18_7 ln post  Kx  n)
def wp_X1_takeOver_18 (ln : Nat → Nat) (σ : CS) (post : CS → Prop) : Prop :=
  (∃ n5 : Nat, lp_X1_takeOver_18_7 ln post  (fun σ6 => post σ6)  n5 (setF σ 6 0) 0)
set_option maxHeartbeats 4000000 in
set_option maxRecDepth 100000 in
theorem wl_X1_takeOver_18_7 {p : Program} {l : Launch} {e : Env} {s : State} {m : MethodId} {args : Array Value} {below : List Frame} {meth : Method} {c : Code} {D : va_G} {ad ln : Nat → Nat} {cI : ClassId} {A : Nat → Prop} {post : CS → Prop}  {Kx : CS → Prop}  (hB : MB p s m args meth c cX1_takeOver 3 none RX1)  (hKx : ∀ (σ : CS) (H : Heap) (locs : List Loc) (ls : Array Slot), Kx σ  → WD D (tyC cI) (cellsC ad ln cI σ) A s H locs → lv_has ls 3 [] → W p l e (rmK 1) s m args below meth c H locs 0 0 (MQ below (va_Qv post (Pos0 D (tyC cI) (cellsC ad ln cI) A) A) args s 0 0 A) (F0 m 37 ls [])) :
    ∀ (n : Nat) (σ : CS) (x2 : Int32) (H : Heap) (locs : List Loc) (ls : Array Slot), lp_X1_takeOver_18_7 ln post  Kx  n σ x2 → WD D (tyC cI) (cellsC ad ln cI σ) A s H locs → lv_has ls 3 [(0, .ref (ad 18)), (1, .ref (ad 10)), (2, .int x2)] → W p l e (rmK 1) s m args below meth c H locs 0 0 (MQ below (va_Qv post (Pos0 D (tyC cI) (cellsC ad ln cI) A) A) args s 0 0 A) (F0 m 7 ls []) := by
  obtain ⟨hx, hb, hr, hml, hown, hts, hlk⟩ := id hB
  intro n
  induction n with
  | zero => intro σ x2 H locs ls hq hw hl; exact hq.elim
  | succ n ih =>
    intro σ x2 H locs ls hq hw hl
    replace hq : lb_X1_takeOver_18_7 ln post  Kx  (lp_X1_takeOver_18_7 ln post  Kx  n) σ x2 := hq
    refine lv_iload_n hx hb dX1_takeOver_7 rfl (lv_at hl 2 rfl) ?_
    refine lv_aload_n hx hb dX1_takeOver_8 rfl (lv_at hl 1 rfl) ?_
    refine gC_10_2 (x := σ.1 4) hB hw m130 rfl dX1_takeOver_9 ?_
    refine lv_icmp_ge (tgt := 37) hx hb dX1_takeOver_12 (by decide) (fun c1 => ?_) (fun c1 => ?_)
    · replace hq := hq.1 c1
      exact hKx σ _ _ _ hq hw (lv_sub hl [] rfl)
    · replace hq := hq.2 c1
      refine lv_aload_n hx hb dX1_takeOver_15 rfl (lv_at hl 0 rfl) ?_
      refine lv_aload_n hx hb dX1_takeOver_16 rfl (lv_at hl 1 rfl) ?_
      refine gC_10_0 hB hw m131 dX1_takeOver_17 ?_
      refine lv_iload_n hx hb dX1_takeOver_20 rfl (lv_at hl 2 rfl) ?_
      obtain ⟨h2, hq⟩ := hq
      refine aC_11 (f := (σ.2 11)) hB hw rfl h2 dX1_takeOver_21 ?_
      refine lv_aload_n hx hb dX1_takeOver_22 rfl (lv_at hl 1 rfl) ?_
      refine gC_10_1 hB hw m129 dX1_takeOver_23 ?_
      refine lv_iload_n hx hb dX1_takeOver_26 rfl (lv_at hl 2 rfl) ?_
      obtain ⟨h3, hq⟩ := hq
      refine aC_12 (f := (σ.2 12)) hB hw rfl h3 dX1_takeOver_27 ?_
      refine w_cVV (As := [.int ((σ.2 11) x2.toNatClampNeg), .int ((σ.2 12) x2.toNatClampNeg)]) (rest := []) hB hw hl.1 (c_X1_put_18 l D ad ln cI σ ((σ.2 11) x2.toNatClampNeg) ((σ.2 12) x2.toNatClampNeg) _ hq) m342 m198 m416 m184 m30 rfl ok_X1_put_18 (okR_K (by decide) (by decide)) (q0 := 18) (ci := 1) rfl rfl rfl rfl (Nat.le_of_ble_eq_true rfl) dX1_takeOver_28 (fun σ4 H locs hq hw => ?_)
      refine lv_iinc (v := x2 + 1) (lv' := [(2, .int (x2 + 1)), (0, .ref (ad 18)), (1, .ref (ad 10))]) hx hb dX1_takeOver_31 hl (k := 2) rfl rfl (by decide) rfl (fun ls hl => ?_)
      refine lv_goto (tgt := 7) hx hb dX1_takeOver_34 (by decide) ?_
      exact ih σ4 (x2 + 1) _ _ _ hq hw (lv_sub hl [1, 2, 0] rfl)
set_option maxHeartbeats 4000000 in
set_option maxRecDepth 100000 in
theorem c_X1_takeOver_18 (l : Launch) (D : va_G) (ad ln : Nat → Nat) (cI : ClassId) (σ : CS) (post : CS → Prop) (hq : wp_X1_takeOver_18 ln σ  post) : MtV l D (tyC cI) (cellsC ad ln cI) yX1_takeOver cX1_takeOver 3 none (rmK 1) [.ref (ad 18), .ref (ad 10)] σ post := by
  refine MtV_of (by decide) (Nat.le_of_ble_eq_true rfl) ?_
  intro p e s m below meth c A ls hB hw hl
  replace hB : MB p s m _ meth c cX1_takeOver 3 none RX1 := hB
  replace hl : lv_has ls 3 [(0, .ref (ad 18)), (1, .ref (ad 10))] := hl
  obtain ⟨hx, hb, hr, hml, hown, hts, hlk⟩ := id hB
  unfold wp_X1_takeOver_18 at hq
  refine lv_aload_n hx hb dX1_takeOver_0 rfl (lv_at hl 0 rfl) ?_
  refine lv_iconst (v := 0) hx hb dX1_takeOver_1 (by decide) ?_
  refine pC_18_2 hB hw m130 dX1_takeOver_2 (fun H locs hw => ?_)
  refine lv_iconst (v := 0) hx hb dX1_takeOver_5 (by decide) ?_
  refine lv_istore_n (lv' := [(2, .int 0), (0, .ref (ad 18)), (1, .ref (ad 10))]) hx hb dX1_takeOver_6 rfl hl (by decide) rfl (fun ls hl => ?_)
  obtain ⟨n5, hq⟩ := hq
  refine wl_X1_takeOver_18_7 hB  (fun σ6 H locs ls hq hw hl => ?_) n5 (setF σ 6 0) 0 _ _ _ hq hw (lv_sub hl [1, 2, 0] rfl)
  exact w_vret hB hw hq dX1_takeOver_37
theorem ok_X1_takeOver_18 : okY yX1_takeOver 1 := ⟨by decide, by decide, by decide +kernel⟩
/-! X1_placeOf_18 -/
def lb_X1_placeOf_18_2 (ln : Nat → Nat) (post : Int32 → CS → Prop)  (Kx : CS → Prop) (x1 : Int32) (Kb : CS → Int32 → Prop) (σ : CS) (x2 : Int32) : Prop :=
  (((σ.1 6) ≤ x2 → Kx σ) ∧ (¬ (σ.1 6) ≤ x2 → (vp_in x2 (ln 19) ∧ ((¬ ((σ.2 19) x2.toNatClampNeg) = x1 → Kb σ (x2 + 1)) ∧ (((σ.2 19) x2.toNatClampNeg) = x1 → (vp_in x2 (ln 20) ∧ post ((σ.2 20) x2.toNatClampNeg) σ))))))
def lp_X1_placeOf_18_2 (ln : Nat → Nat) (post : Int32 → CS → Prop)  (Kx : CS → Prop) (x1 : Int32) : Nat → CS → Int32 → Prop
  | 0 => fun _ _ => False
  | n + 1 => lb_X1_placeOf_18_2 ln post  Kx x1 (lp_X1_placeOf_18_2 ln post  Kx x1 n)
def wp_X1_placeOf_18 (ln : Nat → Nat) (σ : CS) (p1 : Int32) (post : Int32 → CS → Prop) : Prop :=
  (∃ n5 : Nat, lp_X1_placeOf_18_2 ln post  (fun σ6 => post (-1) σ6) p1 n5 σ 0)
set_option maxHeartbeats 4000000 in
set_option maxRecDepth 100000 in
theorem wl_X1_placeOf_18_2 {p : Program} {l : Launch} {e : Env} {s : State} {m : MethodId} {args : Array Value} {below : List Frame} {meth : Method} {c : Code} {D : va_G} {ad ln : Nat → Nat} {cI : ClassId} {A : Nat → Prop} {post : Int32 → CS → Prop}  {Kx : CS → Prop} {x1 : Int32} (hB : MB p s m args meth c cX1_placeOf 3 (some .int) RX1)  (hKx : ∀ (σ : CS) (H : Heap) (locs : List Loc) (ls : Array Slot), Kx σ  → WD D (tyC cI) (cellsC ad ln cI σ) A s H locs → lv_has ls 3 [] → W p l e (rmK 0) s m args below meth c H locs 0 0 (MQ below (va_Qi post (Pos0 D (tyC cI) (cellsC ad ln cI) A) A) args s 0 0 A) (F0 m 33 ls [])) :
    ∀ (n : Nat) (σ : CS) (x2 : Int32) (H : Heap) (locs : List Loc) (ls : Array Slot), lp_X1_placeOf_18_2 ln post  Kx x1 n σ x2 → WD D (tyC cI) (cellsC ad ln cI σ) A s H locs → lv_has ls 3 [(0, .ref (ad 18)), (1, .int x1), (2, .int x2)] → W p l e (rmK 0) s m args below meth c H locs 0 0 (MQ below (va_Qi post (Pos0 D (tyC cI) (cellsC ad ln cI) A) A) args s 0 0 A) (F0 m 2 ls []) := by
  obtain ⟨hx, hb, hr, hml, hown, hts, hlk⟩ := id hB
  intro n
  induction n with
  | zero => intro σ x2 H locs ls hq hw hl; exact hq.elim
  | succ n ih =>
    intro σ x2 H locs ls hq hw hl
    replace hq : lb_X1_placeOf_18_2 ln post  Kx x1 (lp_X1_placeOf_18_2 ln post  Kx x1 n) σ x2 := hq
    refine lv_iload_n hx hb dX1_placeOf_2 rfl (lv_at hl 2 rfl) ?_
    refine lv_aload_n hx hb dX1_placeOf_3 rfl (lv_at hl 0 rfl) ?_
    refine gC_18_2 (x := σ.1 6) hB hw m130 rfl dX1_placeOf_4 ?_
    refine lv_icmp_ge (tgt := 33) hx hb dX1_placeOf_7 (by decide) (fun c1 => ?_) (fun c1 => ?_)
    · replace hq := hq.1 c1
      exact hKx σ _ _ _ hq hw (lv_sub hl [] rfl)
    · replace hq := hq.2 c1
      refine lv_aload_n hx hb dX1_placeOf_10 rfl (lv_at hl 0 rfl) ?_
      refine gC_18_0 hB hw m131 dX1_placeOf_11 ?_
      refine lv_iload_n hx hb dX1_placeOf_14 rfl (lv_at hl 2 rfl) ?_
      obtain ⟨h2, hq⟩ := hq
      refine aC_19 (f := (σ.2 19)) hB hw rfl h2 dX1_placeOf_15 ?_
      refine lv_iload_n hx hb dX1_placeOf_16 rfl (lv_at hl 1 rfl) ?_
      refine lv_icmp_ne (tgt := 27) hx hb dX1_placeOf_17 (by decide) (fun c3 => ?_) (fun c3 => ?_)
      · replace hq := hq.1 c3
        refine lv_iinc (v := x2 + 1) (lv' := [(2, .int (x2 + 1)), (0, .ref (ad 18)), (1, .int x1)]) hx hb dX1_placeOf_27 hl (k := 2) rfl rfl (by decide) rfl (fun ls hl => ?_)
        refine lv_goto (tgt := 2) hx hb dX1_placeOf_30 (by decide) ?_
        exact ih σ (x2 + 1) _ _ _ hq hw (lv_sub hl [1, 2, 0] rfl)
      · replace hq := hq.2 c3
        refine lv_aload_n hx hb dX1_placeOf_20 rfl (lv_at hl 0 rfl) ?_
        refine gC_18_1 hB hw m129 dX1_placeOf_21 ?_
        refine lv_iload_n hx hb dX1_placeOf_24 rfl (lv_at hl 2 rfl) ?_
        obtain ⟨h4, hq⟩ := hq
        refine aC_20 (f := (σ.2 20)) hB hw rfl h4 dX1_placeOf_25 ?_
        exact w_iret hB hw hq dX1_placeOf_26
set_option maxHeartbeats 4000000 in
set_option maxRecDepth 100000 in
theorem c_X1_placeOf_18 (l : Launch) (D : va_G) (ad ln : Nat → Nat) (cI : ClassId) (σ : CS) (p1 : Int32) (post : Int32 → CS → Prop) (hq : wp_X1_placeOf_18 ln σ p1 post) : MtI l D (tyC cI) (cellsC ad ln cI) yX1_placeOf cX1_placeOf 3 (some .int) (rmK 0) [.ref (ad 18), .int p1] σ post := by
  refine MtI_of (by decide) (Nat.le_of_ble_eq_true rfl) ?_
  intro p e s m below meth c A ls hB hw hl
  replace hB : MB p s m _ meth c cX1_placeOf 3 (some .int) RX1 := hB
  replace hl : lv_has ls 3 [(0, .ref (ad 18)), (1, .int p1)] := hl
  obtain ⟨hx, hb, hr, hml, hown, hts, hlk⟩ := id hB
  unfold wp_X1_placeOf_18 at hq
  refine lv_iconst (v := 0) hx hb dX1_placeOf_0 (by decide) ?_
  refine lv_istore_n (lv' := [(2, .int 0), (0, .ref (ad 18)), (1, .int p1)]) hx hb dX1_placeOf_1 rfl hl (by decide) rfl (fun ls hl => ?_)
  obtain ⟨n5, hq⟩ := hq
  refine wl_X1_placeOf_18_2 hB  (fun σ6 H locs ls hq hw hl => ?_) n5 σ 0 _ _ _ hq hw (lv_sub hl [1, 2, 0] rfl)
  refine lv_iconst (v := (-1)) hx hb dX1_placeOf_33 (by decide) ?_
  exact w_iret hB hw hq dX1_placeOf_34
theorem ok_X1_placeOf_18 : okY yX1_placeOf 1 := ⟨by decide, by decide, by decide +kernel⟩
