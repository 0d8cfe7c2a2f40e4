/-! X2_end -/
def wp_X2_end (ln : Nat → Nat) (σ : CS) (p1 : Int32) (post : Int32 → CS → Prop) : Prop :=
  (vp_in p1 (ln 3) ∧ (vp_in p1 (ln 4) ∧ post (((σ.2 3) p1.toNatClampNeg) + ((σ.2 4) p1.toNatClampNeg)) σ))
set_option maxHeartbeats 4000000 in
set_option maxRecDepth 100000 in
theorem c_X2_end (l : Launch) (D : va_G) (ad ln : Nat → Nat) (cI : ClassId) (σ : CS) (p1 : Int32) (post : Int32 → CS → Prop) (hq : wp_X2_end ln σ p1 post) : MtI l D (tyC cI) (cellsC ad ln cI) yX2_end cX2_end 2 (some .int) (rmK 0) [.ref (ad 2), .int p1] σ post := by
  refine MtI_of (by decide) (Nat.le_of_ble_eq_true rfl) ?_
  intro p e s m below meth c A ls hB hw hl
  replace hB : MB p s m _ meth c cX2_end 2 (some .int) RX2 := hB
  replace hl : lv_has ls 2 [(0, .ref (ad 2)), (1, .int p1)] := hl
  obtain ⟨hx, hb, hr, hml, hown, hts, hlk⟩ := id hB
  unfold wp_X2_end at hq
  refine lv_aload_n hx hb dX2_end_0 rfl (lv_at hl 0 rfl) ?_
  refine gC_2_0 hB hw m135 dX2_end_1 ?_
  refine lv_iload_n hx hb dX2_end_4 rfl (lv_at hl 1 rfl) ?_
  obtain ⟨h1, hq⟩ := hq
  refine aC_3 (f := (σ.2 3)) hB hw rfl h1 dX2_end_5 ?_
  refine lv_aload_n hx hb dX2_end_6 rfl (lv_at hl 0 rfl) ?_
  refine gC_2_1 hB hw m132 dX2_end_7 ?_
  refine lv_iload_n hx hb dX2_end_10 rfl (lv_at hl 1 rfl) ?_
  obtain ⟨h2, hq⟩ := hq
  refine aC_4 (f := (σ.2 4)) hB hw rfl h2 dX2_end_11 ?_
  refine lv_iadd hx hb dX2_end_12 ?_
  exact w_iret hB hw hq dX2_end_13
theorem ok_X2_end : okY yX2_end 1 := ⟨by decide, by decide, by decide +kernel⟩
/-! X2_indexOf -/
def lb_X2_indexOf_2 (ln : Nat → Nat) (post : Int32 → CS → Prop)  (Kx : CS → Prop) (x1 : Int32) (Kb : CS → Int32 → Prop) (σ : CS) (x2 : Int32) : Prop :=
  (((σ.1 0) ≤ x2 → Kx σ) ∧ (¬ (σ.1 0) ≤ x2 → (vp_in x2 (ln 3) ∧ ((¬ ((σ.2 3) x2.toNatClampNeg) = x1 → Kb σ (x2 + 1)) ∧ (((σ.2 3) x2.toNatClampNeg) = x1 → post x2 σ)))))
def lp_X2_indexOf_2 (ln : Nat → Nat) (post : Int32 → CS → Prop)  (Kx : CS → Prop) (x1 : Int32) : Nat → CS → Int32 → Prop
  | 0 => fun _ _ => False
  | n + 1 => lb_X2_indexOf_2 ln post  Kx x1 (lp_X2_indexOf_2 ln post  Kx x1 n)
def wp_X2_indexOf (ln : Nat → Nat) (σ : CS) (p1 : Int32) (post : Int32 → CS → Prop) : Prop :=
  (∃ n4 : Nat, lp_X2_indexOf_2 ln post  (fun σ5 => post (-1) σ5) p1 n4 σ 0)
set_option maxHeartbeats 4000000 in
set_option maxRecDepth 100000 in
theorem wl_X2_indexOf_2 {p : Program} {l : Launch} {e : Env} {s : State} {m : MethodId} {args : Array Value} {below : List Frame} {meth : Method} {c : Code} {D : va_G} {ad ln : Nat → Nat} {cI : ClassId} {A : Nat → Prop} {post : Int32 → CS → Prop}  {Kx : CS → Prop} {x1 : Int32} (hB : MB p s m args meth c cX2_indexOf 3 (some .int) RX2)  (hKx : ∀ (σ : CS) (H : Heap) (locs : List Loc) (ls : Array Slot), Kx σ  → WD D (tyC cI) (cellsC ad ln cI σ) A s H locs → lv_has ls 3 [] → W p l e (rmK 0) s m args below meth c H locs 0 0 (MQ below (va_Qi post (Pos0 D (tyC cI) (cellsC ad ln cI) A) A) args s 0 0 A) (F0 m 28 ls [])) :
    ∀ (n : Nat) (σ : CS) (x2 : Int32) (H : Heap) (locs : List Loc) (ls : Array Slot), lp_X2_indexOf_2 ln post  Kx x1 n σ x2 → WD D (tyC cI) (cellsC ad ln cI σ) A s H locs → lv_has ls 3 [(0, .ref (ad 2)), (1, .int x1), (2, .int x2)] → W p l e (rmK 0) s m args below meth c H locs 0 0 (MQ below (va_Qi post (Pos0 D (tyC cI) (cellsC ad ln cI) A) A) args s 0 0 A) (F0 m 2 ls []) := by
  obtain ⟨hx, hb, hr, hml, hown, hts, hlk⟩ := id hB
  intro n
  induction n with
  | zero => intro σ x2 H locs ls hq hw hl; exact hq.elim
  | succ n ih =>
    intro σ x2 H locs ls hq hw hl
    replace hq : lb_X2_indexOf_2 ln post  Kx x1 (lp_X2_indexOf_2 ln post  Kx x1 n) σ x2 := hq
    refine lv_iload_n hx hb dX2_indexOf_2 rfl (lv_at hl 2 rfl) ?_
    refine lv_aload_n hx hb dX2_indexOf_3 rfl (lv_at hl 0 rfl) ?_
    refine gC_2_3 (x := σ.1 0) hB hw m134 rfl dX2_indexOf_4 ?_
    refine lv_icmp_ge (tgt := 28) hx hb dX2_indexOf_7 (by decide) (fun c1 => ?_) (fun c1 => ?_)
    · replace hq := hq.1 c1
      exact hKx σ _ _ _ hq hw (lv_sub hl [] rfl)
    · replace hq := hq.2 c1
      refine lv_aload_n hx hb dX2_indexOf_10 rfl (lv_at hl 0 rfl) ?_
      refine gC_2_0 hB hw m135 dX2_indexOf_11 ?_
      refine lv_iload_n hx hb dX2_indexOf_14 rfl (lv_at hl 2 rfl) ?_
      obtain ⟨h2, hq⟩ := hq
      refine aC_3 (f := (σ.2 3)) hB hw rfl h2 dX2_indexOf_15 ?_
      refine lv_iload_n hx hb dX2_indexOf_16 rfl (lv_at hl 1 rfl) ?_
      refine lv_icmp_ne (tgt := 22) hx hb dX2_indexOf_17 (by decide) (fun c3 => ?_) (fun c3 => ?_)
      · replace hq := hq.1 c3
        refine lv_iinc (v := x2 + 1) (lv' := [(2, .int (x2 + 1)), (0, .ref (ad 2)), (1, .int x1)]) hx hb dX2_indexOf_22 hl (k := 2) rfl rfl (by decide) rfl (fun ls hl => ?_)
        refine lv_goto (tgt := 2) hx hb dX2_indexOf_25 (by decide) ?_
        exact ih σ (x2 + 1) _ _ _ hq hw (lv_sub hl [1, 2, 0] rfl)
      · replace hq := hq.2 c3
        refine lv_iload_n hx hb dX2_indexOf_20 rfl (lv_at hl 2 rfl) ?_
        exact w_iret hB hw hq dX2_indexOf_21
set_option maxHeartbeats 4000000 in
set_option maxRecDepth 100000 in
theorem c_X2_indexOf (l : Launch) (D : va_G) (ad ln : Nat → Nat) (cI : ClassId) (σ : CS) (p1 : Int32) (post : Int32 → CS → Prop) (hq : wp_X2_indexOf ln σ p1 post) : MtI l D (tyC cI) (cellsC ad ln cI) yX2_indexOf cX2_indexOf 3 (some .int) (rmK 0) [.ref (ad 2), .int p1] σ post := by
  refine MtI_of (by decide) (Nat.le_of_ble_eq_true rfl) ?_
  intro p e s m below meth c A ls hB hw hl
  replace hB : MB p s m _ meth c cX2_indexOf 3 (some .int) RX2 := hB
  replace hl : lv_has ls 3 [(0, .ref (ad 2)), (1, .int p1)] := hl
  obtain ⟨hx, hb, hr, hml, hown, hts, hlk⟩ := id hB
  unfold wp_X2_indexOf at hq
  refine lv_iconst (v := 0) hx hb dX2_indexOf_0 (by decide) ?_
  refine lv_istore_n (lv' := [(2, .int 0), (0, .ref (ad 2)), (1, .int p1)]) hx hb dX2_indexOf_1 rfl hl (by decide) rfl (fun ls hl => ?_)
  obtain ⟨n4, hq⟩ := hq
  refine wl_X2_indexOf_2 hB  (fun σ5 H locs ls hq hw hl => ?_) n4 σ 0 _ _ _ hq hw (lv_sub hl [1, 2, 0] rfl)
  refine lv_iconst (v := (-1)) hx hb dX2_indexOf_28 (by decide) ?_
  exact w_iret hB hw hq dX2_indexOf_29
theorem ok_X2_indexOf : okY yX2_indexOf 1 := ⟨by decide, by decide, by decide +kernel⟩
/-! X2_liveIndex -/
def wp_X2_liveIndex (ln : Nat → Nat) (σ : CS) (p1 : Int32) (post : Int32 → CS → Prop) : Prop :=
  wp_X2_indexOf ln σ p1 (fun r2 σ1 => ((r2 = (-1) → post (-1) σ1) ∧ (¬ r2 = (-1) → (vp_in r2 (ln 5) ∧ ((((σ1.2 5) r2.toNatClampNeg) = 0 → post (-1) σ1) ∧ (¬ ((σ1.2 5) r2.toNatClampNeg) = 0 → post r2 σ1))))))
set_option maxHeartbeats 4000000 in
set_option maxRecDepth 100000 in
theorem c_X2_liveIndex (l : Launch) (D : va_G) (ad ln : Nat → Nat) (cI : ClassId) (σ : CS) (p1 : Int32) (post : Int32 → CS → Prop) (hq : wp_X2_liveIndex ln σ p1 post) : MtI l D (tyC cI) (cellsC ad ln cI) yX2_liveIndex cX2_liveIndex 3 (some .int) (rmK 1) [.ref (ad 2), .int p1] σ post := by
  refine MtI_of (by decide) (Nat.le_of_ble_eq_true rfl) ?_
  intro p e s m below meth c A ls hB hw hl
  replace hB : MB p s m _ meth c cX2_liveIndex 3 (some .int) RX2 := hB
  replace hl : lv_has ls 3 [(0, .ref (ad 2)), (1, .int p1)] := hl
  obtain ⟨hx, hb, hr, hml, hown, hts, hlk⟩ := id hB
  unfold wp_X2_liveIndex at hq
  refine lv_aload_n hx hb dX2_liveIndex_0 rfl (lv_at hl 0 rfl) ?_
  refine lv_iload_n hx hb dX2_liveIndex_1 rfl (lv_at hl 1 rfl) ?_
  refine w_cVI (As := [.int p1]) (rest := []) hB hw hl.1 (c_X2_indexOf l D ad ln cI σ p1 _ hq) m344 m208 m426 m185 m40 rfl ok_X2_indexOf (okR_K (by decide) (by decide)) (q0 := 2) (ci := 2) rfl rfl rfl rfl (Nat.le_of_ble_eq_true rfl) dX2_liveIndex_2 (fun r2 σ1 H locs hq hw => ?_)
  refine lv_istore_n (lv' := [(2, .int r2), (0, .ref (ad 2)), (1, .int p1)]) hx hb dX2_liveIndex_5 rfl hl (by decide) rfl (fun ls hl => ?_)
  refine lv_iload_n hx hb dX2_liveIndex_6 rfl (lv_at hl 0 rfl) ?_
  refine lv_iconst (v := (-1)) hx hb dX2_liveIndex_7 (by decide) ?_
  refine lv_icmp_eq (tgt := 24) hx hb dX2_liveIndex_8 (by decide) (fun c3 => ?_) (fun c3 => ?_)
  · replace hq := hq.1 c3
    refine lv_iconst (v := (-1)) hx hb dX2_liveIndex_24 (by decide) ?_
    exact w_iret hB hw hq dX2_liveIndex_25
  · replace hq := hq.2 c3
    refine lv_aload_n hx hb dX2_liveIndex_11 rfl (lv_at hl 1 rfl) ?_
    refine gC_2_2 hB hw m133 dX2_liveIndex_12 ?_
    refine lv_iload_n hx hb dX2_liveIndex_15 rfl (lv_at hl 0 rfl) ?_
    obtain ⟨h4, hq⟩ := hq
    refine aC_5 (f := (σ1.2 5)) hB hw rfl h4 dX2_liveIndex_16 ?_
    refine lv_if_eq (tgt := 24) hx hb dX2_liveIndex_17 (by decide) (fun c5 => ?_) (fun c5 => ?_)
    · replace hq := hq.1 c5
      refine lv_iconst (v := (-1)) hx hb dX2_liveIndex_24 (by decide) ?_
      exact w_iret hB hw hq dX2_liveIndex_25
    · replace hq := hq.2 c5
      refine lv_iload_n hx hb dX2_liveIndex_20 rfl (lv_at hl 0 rfl) ?_
      refine lv_goto (tgt := 25) hx hb dX2_liveIndex_21 (by decide) ?_
      exact w_iret hB hw hq dX2_liveIndex_25
theorem ok_X2_liveIndex : okY yX2_liveIndex 1 := ⟨by decide, by decide, by decide +kernel⟩
/-! X2_freeIndex -/
def wp_X2_freeIndex (ln : Nat → Nat) (σ : CS) (p1 : Int32) (post : Int32 → CS → Prop) : Prop :=
  wp_X2_indexOf ln σ p1 (fun r2 σ1 => ((r2 = (-1) → post (-1) σ1) ∧ (¬ r2 = (-1) → (vp_in r2 (ln 5) ∧ ((¬ ((σ1.2 5) r2.toNatClampNeg) = 0 → post (-1) σ1) ∧ (((σ1.2 5) r2.toNatClampNeg) = 0 → post r2 σ1))))))
set_option maxHeartbeats 4000000 in
set_option maxRecDepth 100000 in
theorem c_X2_freeIndex (l : Launch) (D : va_G) (ad ln : Nat → Nat) (cI : ClassId) (σ : CS) (p1 : Int32) (post : Int32 → CS → Prop) (hq : wp_X2_freeIndex ln σ p1 post) : MtI l D (tyC cI) (cellsC ad ln cI) yX2_freeIndex cX2_freeIndex 3 (some .int) (rmK 1) [.ref (ad 2), .int p1] σ post := by
  refine MtI_of (by decide) (Nat.le_of_ble_eq_true rfl) ?_
  intro p e s m below meth c A ls hB hw hl
  replace hB : MB p s m _ meth c cX2_freeIndex 3 (some .int) RX2 := hB
  replace hl : lv_has ls 3 [(0, .ref (ad 2)), (1, .int p1)] := hl
  obtain ⟨hx, hb, hr, hml, hown, hts, hlk⟩ := id hB
  unfold wp_X2_freeIndex at hq
  refine lv_aload_n hx hb dX2_freeIndex_0 rfl (lv_at hl 0 rfl) ?_
  refine lv_iload_n hx hb dX2_freeIndex_1 rfl (lv_at hl 1 rfl) ?_
  refine w_cVI (As := [.int p1]) (rest := []) hB hw hl.1 (c_X2_indexOf l D ad ln cI σ p1 _ hq) m344 m208 m426 m185 m40 rfl ok_X2_indexOf (okR_K (by decide) (by decide)) (q0 := 2) (ci := 2) rfl rfl rfl rfl (Nat.le_of_ble_eq_true rfl) dX2_freeIndex_2 (fun r2 σ1 H locs hq hw => ?_)
  refine lv_istore_n (lv' := [(2, .int r2), (0, .ref (ad 2)), (1, .int p1)]) hx hb dX2_freeIndex_5 rfl hl (by decide) rfl (fun ls hl => ?_)
  refine lv_iload_n hx hb dX2_freeIndex_6 rfl (lv_at hl 0 rfl) ?_
  refine lv_iconst (v := (-1)) hx hb dX2_freeIndex_7 (by decide) ?_
  refine lv_icmp_eq (tgt := 24) hx hb dX2_freeIndex_8 (by decide) (fun c3 => ?_) (fun c3 => ?_)
  · replace hq := hq.1 c3
    refine lv_iconst (v := (-1)) hx hb dX2_freeIndex_24 (by decide) ?_
    exact w_iret hB hw hq dX2_freeIndex_25
  · replace hq := hq.2 c3
    refine lv_aload_n hx hb dX2_freeIndex_11 rfl (lv_at hl 1 rfl) ?_
    refine gC_2_2 hB hw m133 dX2_freeIndex_12 ?_
    refine lv_iload_n hx hb dX2_freeIndex_15 rfl (lv_at hl 0 rfl) ?_
    obtain ⟨h4, hq⟩ := hq
    refine aC_5 (f := (σ1.2 5)) hB hw rfl h4 dX2_freeIndex_16 ?_
    refine lv_if_ne (tgt := 24) hx hb dX2_freeIndex_17 (by decide) (fun c5 => ?_) (fun c5 => ?_)
    · replace hq := hq.1 c5
      refine lv_iconst (v := (-1)) hx hb dX2_freeIndex_24 (by decide) ?_
      exact w_iret hB hw hq dX2_freeIndex_25
    · replace hq := hq.2 c5
      refine lv_iload_n hx hb dX2_freeIndex_20 rfl (lv_at hl 0 rfl) ?_
      refine lv_goto (tgt := 25) hx hb dX2_freeIndex_21 (by decide) ?_
      exact w_iret hB hw hq dX2_freeIndex_25
theorem ok_X2_freeIndex : okY yX2_freeIndex 1 := ⟨by decide, by decide, by decide +kernel⟩
/-! X2_freeBlocks -/
def lb_X2_freeBlocks_4 (ln : Nat → Nat) (post : Int32 → CS → Prop)  (Kx : CS → Int32 → Prop)  (Kb : CS → Int32 → Int32 → Prop) (σ : CS) (x1 x2 : Int32) : Prop :=
  (((σ.1 0) ≤ x2 → Kx σ x1) ∧ (¬ (σ.1 0) ≤ x2 → (vp_in x2 (ln 5) ∧ ((¬ ((σ.2 5) x2.toNatClampNeg) = 0 → Kb σ (x1 + 0) (x2 + 1)) ∧ (((σ.2 5) x2.toNatClampNeg) = 0 → Kb σ (x1 + 1) (x2 + 1))))))
def lp_X2_freeBlocks_4 (ln : Nat → Nat) (post : Int32 → CS → Prop)  (Kx : CS → Int32 → Prop)  : Nat → CS → Int32 → Int32 → Prop
  | 0 => fun _ _ _ => False
  | n + 1 => lb_X2_freeBlocks_4 ln post  Kx  (lp_X2_freeBlocks_4 ln post  Kx  n)
def wp_X2_freeBlocks (ln : Nat → Nat) (σ : CS) (post : Int32 → CS → Prop) : Prop :=
  (∃ n4 : Nat, lp_X2_freeBlocks_4 ln post  (fun σ5 x1_6 => post x1_6 σ5)  n4 σ 0 0)
set_option maxHeartbeats 4000000 in
set_option maxRecDepth 100000 in
theorem wl_X2_freeBlocks_4 {p : Program} {l : Launch} {e : Env} {s : State} {m : MethodId} {args : Array Value} {below : List Frame} {meth : Method} {c : Code} {D : va_G} {ad ln : Nat → Nat} {cI : ClassId} {A : Nat → Prop} {post : Int32 → CS → Prop}  {Kx : CS → Int32 → Prop}  (hB : MB p s m args meth c cX2_freeBlocks 3 (some .int) RX2)  (hKx : ∀ (σ : CS) (x1 : Int32) (H : Heap) (locs : List Loc) (ls : Array Slot), Kx σ x1 → WD D (tyC cI) (cellsC ad ln cI σ) A s H locs → lv_has ls 3 [(1, .int x1)] → W p l e (rmK 0) s m args below meth c H locs 0 0 (MQ below (va_Qi post (Pos0 D (tyC cI) (cellsC ad ln cI) A) A) args s 0 0 A) (F0 m 35 ls [])) :
    ∀ (n : Nat) (σ : CS) (x1 x2 : Int32) (H : Heap) (locs : List Loc) (ls : Array Slot), lp_X2_freeBlocks_4 ln post  Kx  n σ x1 x2 → WD D (tyC cI) (cellsC ad ln cI σ) A s H locs → lv_has ls 3 [(0, .ref (ad 2)), (1, .int x1), (2, .int x2)] → W p l e (rmK 0) s m args below meth c H locs 0 0 (MQ below (va_Qi post (Pos0 D (tyC cI) (cellsC ad ln cI) A) A) args s 0 0 A) (F0 m 4 ls []) := by
  obtain ⟨hx, hb, hr, hml, hown, hts, hlk⟩ := id hB
  intro n
  induction n with
  | zero => intro σ x1 x2 H locs ls hq hw hl; exact hq.elim
  | succ n ih =>
    intro σ x1 x2 H locs ls hq hw hl
    replace hq : lb_X2_freeBlocks_4 ln post  Kx  (lp_X2_freeBlocks_4 ln post  Kx  n) σ x1 x2 := hq
    refine lv_iload_n hx hb dX2_freeBlocks_4 rfl (lv_at hl 2 rfl) ?_
    refine lv_aload_n hx hb dX2_freeBlocks_5 rfl (lv_at hl 0 rfl) ?_
    refine gC_2_3 (x := σ.1 0) hB hw m134 rfl dX2_freeBlocks_6 ?_
    refine lv_icmp_ge (tgt := 35) hx hb dX2_freeBlocks_9 (by decide) (fun c1 => ?_) (fun c1 => ?_)
    · replace hq := hq.1 c1
      exact hKx σ x1 _ _ _ hq hw (lv_sub hl [1] rfl)
    · replace hq := hq.2 c1
      refine lv_iload_n hx hb dX2_freeBlocks_12 rfl (lv_at hl 1 rfl) ?_
      refine lv_aload_n hx hb dX2_freeBlocks_13 rfl (lv_at hl 0 rfl) ?_
      refine gC_2_2 hB hw m133 dX2_freeBlocks_14 ?_
      refine lv_iload_n hx hb dX2_freeBlocks_17 rfl (lv_at hl 2 rfl) ?_
      obtain ⟨h2, hq⟩ := hq
      refine aC_5 (f := (σ.2 5)) hB hw rfl h2 dX2_freeBlocks_18 ?_
      refine lv_if_ne (tgt := 26) hx hb dX2_freeBlocks_19 (by decide) (fun c3 => ?_) (fun c3 => ?_)
      · replace hq := hq.1 c3
        refine lv_iconst (v := 0) hx hb dX2_freeBlocks_26 (by decide) ?_
        refine lv_iadd hx hb dX2_freeBlocks_27 ?_
        refine lv_istore_n (lv' := [(1, .int (x1 + 0)), (0, .ref (ad 2)), (2, .int x2)]) hx hb dX2_freeBlocks_28 rfl hl (by decide) rfl (fun ls hl => ?_)
        refine lv_iinc (v := x2 + 1) (lv' := [(2, .int (x2 + 1)), (1, .int (x1 + 0)), (0, .ref (ad 2))]) hx hb dX2_freeBlocks_29 hl (k := 2) rfl rfl (by decide) rfl (fun ls hl => ?_)
        refine lv_goto (tgt := 4) hx hb dX2_freeBlocks_32 (by decide) ?_
        exact ih σ (x1 + 0) (x2 + 1) _ _ _ hq hw (lv_sub hl [2, 1, 0] rfl)
      · replace hq := hq.2 c3
        refine lv_iconst (v := 1) hx hb dX2_freeBlocks_22 (by decide) ?_
        refine lv_goto (tgt := 27) hx hb dX2_freeBlocks_23 (by decide) ?_
        refine lv_iadd hx hb dX2_freeBlocks_27 ?_
        refine lv_istore_n (lv' := [(1, .int (x1 + 1)), (0, .ref (ad 2)), (2, .int x2)]) hx hb dX2_freeBlocks_28 rfl hl (by decide) rfl (fun ls hl => ?_)
        refine lv_iinc (v := x2 + 1) (lv' := [(2, .int (x2 + 1)), (1, .int (x1 + 1)), (0, .ref (ad 2))]) hx hb dX2_freeBlocks_29 hl (k := 2) rfl rfl (by decide) rfl (fun ls hl => ?_)
        refine lv_goto (tgt := 4) hx hb dX2_freeBlocks_32 (by decide) ?_
        exact ih σ (x1 + 1) (x2 + 1) _ _ _ hq hw (lv_sub hl [2, 1, 0] rfl)
set_option maxHeartbeats 4000000 in
set_option maxRecDepth 100000 in
theorem c_X2_freeBlocks (l : Launch) (D : va_G) (ad ln : Nat → Nat) (cI : ClassId) (σ : CS) (post : Int32 → CS → Prop) (hq : wp_X2_freeBlocks ln σ  post) : MtI l D (tyC cI) (cellsC ad ln cI) yX2_freeBlocks cX2_freeBlocks 3 (some .int) (rmK 0) [.ref (ad 2)] σ post := by
  refine MtI_of (by decide) (Nat.le_of_ble_eq_true rfl) ?_
  intro p e s m below meth c A ls hB hw hl
  replace hB : MB p s m _ meth c cX2_freeBlocks 3 (some .int) RX2 := hB
  replace hl : lv_has ls 3 [(0, .ref (ad 2))] := hl
  obtain ⟨hx, hb, hr, hml, hown, hts, hlk⟩ := id hB
  unfold wp_X2_freeBlocks at hq
  refine lv_iconst (v := 0) hx hb dX2_freeBlocks_0 (by decide) ?_
  refine lv_istore_n (lv' := [(1, .int 0), (0, .ref (ad 2))]) hx hb dX2_freeBlocks_1 rfl hl (by decide) rfl (fun ls hl => ?_)
  refine lv_iconst (v := 0) hx hb dX2_freeBlocks_2 (by decide) ?_
  refine lv_istore_n (lv' := [(2, .int 0), (1, .int 0), (0, .ref (ad 2))]) hx hb dX2_freeBlocks_3 rfl hl (by decide) rfl (fun ls hl => ?_)
  obtain ⟨n4, hq⟩ := hq
  refine wl_X2_freeBlocks_4 hB  (fun σ5 x1_6 H locs ls hq hw hl => ?_) n4 σ 0 0 _ _ _ hq hw (lv_sub hl [2, 1, 0] rfl)
  refine lv_iload_n hx hb dX2_freeBlocks_35 rfl (lv_at hl 0 rfl) ?_
  exact w_iret hB hw hq dX2_freeBlocks_36
theorem ok_X2_freeBlocks : okY yX2_freeBlocks 0 := ⟨by decide, by decide, by decide +kernel⟩
/-! X2_liveBlocks -/
def wp_X2_liveBlocks (ln : Nat → Nat) (σ : CS) (post : Int32 → CS → Prop) : Prop :=
  wp_X2_freeBlocks ln σ (fun r2 σ1 => post ((σ.1 0) - r2) σ1)
set_option maxHeartbeats 4000000 in
set_option maxRecDepth 100000 in
theorem c_X2_liveBlocks (l : Launch) (D : va_G) (ad ln : Nat → Nat) (cI : ClassId) (σ : CS) (post : Int32 → CS → Prop) (hq : wp_X2_liveBlocks ln σ  post) : MtI l D (tyC cI) (cellsC ad ln cI) yX2_liveBlocks cX2_liveBlocks 1 (some .int) (rmK 1) [.ref (ad 2)] σ post := by
  refine MtI_of (by decide) (Nat.le_of_ble_eq_true rfl) ?_
  intro p e s m below meth c A ls hB hw hl
  replace hB : MB p s m _ meth c cX2_liveBlocks 1 (some .int) RX2 := hB
  replace hl : lv_has ls 1 [(0, .ref (ad 2))] := hl
  obtain ⟨hx, hb, hr, hml, hown, hts, hlk⟩ := id hB
  unfold wp_X2_liveBlocks at hq
  refine lv_aload_n hx hb dX2_liveBlocks_0 rfl (lv_at hl 0 rfl) ?_
  refine gC_2_3 (x := σ.1 0) hB hw m134 rfl dX2_liveBlocks_1 ?_
  refine lv_aload_n hx hb dX2_liveBlocks_4 rfl (lv_at hl 0 rfl) ?_
  refine w_cVI (As := []) (rest := [.int (σ.1 0)]) hB hw hl.1 (c_X2_freeBlocks l D ad ln cI σ _ hq) m345 m205 m423 m185 m37 rfl ok_X2_freeBlocks (okR_K (by decide) (by decide)) (q0 := 2) (ci := 2) rfl rfl rfl rfl (Nat.le_of_ble_eq_true rfl) dX2_liveBlocks_5 (fun r2 σ1 H locs hq hw => ?_)
  refine lv_isub hx hb dX2_liveBlocks_8 ?_
  exact w_iret hB hw hq dX2_liveBlocks_9
theorem ok_X2_liveBlocks : okY yX2_liveBlocks 0 := ⟨by decide, by decide, by decide +kernel⟩
/-! X2_freeWords -/
def lb_X2_freeWords_4 (ln : Nat → Nat) (post : Int32 → CS → Prop)  (Kx : CS → Int32 → Prop)  (Kb : CS → Int32 → Int32 → Prop) (σ : CS) (x1 x2 : Int32) : Prop :=
  (((σ.1 0) ≤ x2 → Kx σ x1) ∧ (¬ (σ.1 0) ≤ x2 → (vp_in x2 (ln 5) ∧ ((¬ ((σ.2 5) x2.toNatClampNeg) = 0 → Kb σ (x1 + 0) (x2 + 1)) ∧ (((σ.2 5) x2.toNatClampNeg) = 0 → (vp_in x2 (ln 4) ∧ Kb σ (x1 + ((σ.2 4) x2.toNatClampNeg)) (x2 + 1)))))))
def lp_X2_freeWords_4 (ln : Nat → Nat) (post : Int32 → CS → Prop)  (Kx : CS → Int32 → Prop)  : Nat → CS → Int32 → Int32 → Prop
  | 0 => fun _ _ _ => False
  | n + 1 => lb_X2_freeWords_4 ln post  Kx  (lp_X2_freeWords_4 ln post  Kx  n)
def wp_X2_freeWords (ln : Nat → Nat) (σ : CS) (post : Int32 → CS → Prop) : Prop :=
  (∃ n5 : Nat, lp_X2_freeWords_4 ln post  (fun σ6 x1_7 => post x1_7 σ6)  n5 σ 0 0)
set_option maxHeartbeats 4000000 in
set_option maxRecDepth 100000 in
theorem wl_X2_freeWords_4 {p : Program} {l : Launch} {e : Env} {s : State} {m : MethodId} {args : Array Value} {below : List Frame} {meth : Method} {c : Code} {D : va_G} {ad ln : Nat → Nat} {cI : ClassId} {A : Nat → Prop} {post : Int32 → CS → Prop}  {Kx : CS → Int32 → Prop}  (hB : MB p s m args meth c cX2_freeWords 3 (some .int) RX2)  (hKx : ∀ (σ : CS) (x1 : Int32) (H : Heap) (locs : List Loc) (ls : Array Slot), Kx σ x1 → WD D (tyC cI) (cellsC ad ln cI σ) A s H locs → lv_has ls 3 [(1, .int x1)] → W p l e (rmK 0) s m args below meth c H locs 0 0 (MQ below (va_Qi post (Pos0 D (tyC cI) (cellsC ad ln cI) A) A) args s 0 0 A) (F0 m 40 ls [])) :
    ∀ (n : Nat) (σ : CS) (x1 x2 : Int32) (H : Heap) (locs : List Loc) (ls : Array Slot), lp_X2_freeWords_4 ln post  Kx  n σ x1 x2 → WD D (tyC cI) (cellsC ad ln cI σ) A s H locs → lv_has ls 3 [(0, .ref (ad 2)), (1, .int x1), (2, .int x2)] → W p l e (rmK 0) s m args below meth c H locs 0 0 (MQ below (va_Qi post (Pos0 D (tyC cI) (cellsC ad ln cI) A) A) args s 0 0 A) (F0 m 4 ls []) := by
  obtain ⟨hx, hb, hr, hml, hown, hts, hlk⟩ := id hB
  intro n
  induction n with
  | zero => intro σ x1 x2 H locs ls hq hw hl; exact hq.elim
  | succ n ih =>
    intro σ x1 x2 H locs ls hq hw hl
    replace hq : lb_X2_freeWords_4 ln post  Kx  (lp_X2_freeWords_4 ln post  Kx  n) σ x1 x2 := hq
    refine lv_iload_n hx hb dX2_freeWords_4 rfl (lv_at hl 2 rfl) ?_
    refine lv_aload_n hx hb dX2_freeWords_5 rfl (lv_at hl 0 rfl) ?_
    refine gC_2_3 (x := σ.1 0) hB hw m134 rfl dX2_freeWords_6 ?_
    refine lv_icmp_ge (tgt := 40) hx hb dX2_freeWords_9 (by decide) (fun c1 => ?_) (fun c1 => ?_)
    · replace hq := hq.1 c1
      exact hKx σ x1 _ _ _ hq hw (lv_sub hl [1] rfl)
    · replace hq := hq.2 c1
      refine lv_iload_n hx hb dX2_freeWords_12 rfl (lv_at hl 1 rfl) ?_
      refine lv_aload_n hx hb dX2_freeWords_13 rfl (lv_at hl 0 rfl) ?_
      refine gC_2_2 hB hw m133 dX2_freeWords_14 ?_
      refine lv_iload_n hx hb dX2_freeWords_17 rfl (lv_at hl 2 rfl) ?_
      obtain ⟨h2, hq⟩ := hq
      refine aC_5 (f := (σ.2 5)) hB hw rfl h2 dX2_freeWords_18 ?_
      refine lv_if_ne (tgt := 31) hx hb dX2_freeWords_19 (by decide) (fun c3 => ?_) (fun c3 => ?_)
      · replace hq := hq.1 c3
        refine lv_iconst (v := 0) hx hb dX2_freeWords_31 (by decide) ?_
        refine lv_iadd hx hb dX2_freeWords_32 ?_
        refine lv_istore_n (lv' := [(1, .int (x1 + 0)), (0, .ref (ad 2)), (2, .int x2)]) hx hb dX2_freeWords_33 rfl hl (by decide) rfl (fun ls hl => ?_)
        refine lv_iinc (v := x2 + 1) (lv' := [(2, .int (x2 + 1)), (1, .int (x1 + 0)), (0, .ref (ad 2))]) hx hb dX2_freeWords_34 hl (k := 2) rfl rfl (by decide) rfl (fun ls hl => ?_)
        refine lv_goto (tgt := 4) hx hb dX2_freeWords_37 (by decide) ?_
        exact ih σ (x1 + 0) (x2 + 1) _ _ _ hq hw (lv_sub hl [2, 1, 0] rfl)
      · replace hq := hq.2 c3
        refine lv_aload_n hx hb dX2_freeWords_22 rfl (lv_at hl 0 rfl) ?_
        refine gC_2_1 hB hw m132 dX2_freeWords_23 ?_
        refine lv_iload_n hx hb dX2_freeWords_26 rfl (lv_at hl 2 rfl) ?_
        obtain ⟨h4, hq⟩ := hq
        refine aC_4 (f := (σ.2 4)) hB hw rfl h4 dX2_freeWords_27 ?_
        refine lv_goto (tgt := 32) hx hb dX2_freeWords_28 (by decide) ?_
        refine lv_iadd hx hb dX2_freeWords_32 ?_
        refine lv_istore_n (lv' := [(1, .int (x1 + ((σ.2 4) x2.toNatClampNeg))), (0, .ref (ad 2)), (2, .int x2)]) hx hb dX2_freeWords_33 rfl hl (by decide) rfl (fun ls hl => ?_)
        refine lv_iinc (v := x2 + 1) (lv' := [(2, .int (x2 + 1)), (1, .int (x1 + ((σ.2 4) x2.toNatClampNeg))), (0, .ref (ad 2))]) hx hb dX2_freeWords_34 hl (k := 2) rfl rfl (by decide) rfl (fun ls hl => ?_)
        refine lv_goto (tgt := 4) hx hb dX2_freeWords_37 (by decide) ?_
        exact ih σ (x1 + ((σ.2 4) x2.toNatClampNeg)) (x2 + 1) _ _ _ hq hw (lv_sub hl [2, 1, 0] rfl)
set_option maxHeartbeats 4000000 in
set_option maxRecDepth 100000 in
theorem c_X2_freeWords (l : Launch) (D : va_G) (ad ln : Nat → Nat) (cI : ClassId) (σ : CS) (post : Int32 → CS → Prop) (hq : wp_X2_freeWords ln σ  post) : MtI l D (tyC cI) (cellsC ad ln cI) yX2_freeWords cX2_freeWords 3 (some .int) (rmK 0) [.ref (ad 2)] σ post := by
  refine MtI_of (by decide) (Nat.le_of_ble_eq_true rfl) ?_
  intro p e s m below meth c A ls hB hw hl
  replace hB : MB p s m _ meth c cX2_freeWords 3 (some .int) RX2 := hB
  replace hl : lv_has ls 3 [(0, .ref (ad 2))] := hl
  obtain ⟨hx, hb, hr, hml, hown, hts, hlk⟩ := id hB
  unfold wp_X2_freeWords at hq
  refine lv_iconst (v := 0) hx hb dX2_freeWords_0 (by decide) ?_
  refine lv_istore_n (lv' := [(1, .int 0), (0, .ref (ad 2))]) hx hb dX2_freeWords_1 rfl hl (by decide) rfl (fun ls hl => ?_)
  refine lv_iconst (v := 0) hx hb dX2_freeWords_2 (by decide) ?_
  refine lv_istore_n (lv' := [(2, .int 0), (1, .int 0), (0, .ref (ad 2))]) hx hb dX2_freeWords_3 rfl hl (by decide) rfl (fun ls hl => ?_)
  obtain ⟨n5, hq⟩ := hq
  refine wl_X2_freeWords_4 hB  (fun σ6 x1_7 H locs ls hq hw hl => ?_) n5 σ 0 0 _ _ _ hq hw (lv_sub hl [2, 1, 0] rfl)
  refine lv_iload_n hx hb dX2_freeWords_40 rfl (lv_at hl 0 rfl) ?_
  exact w_iret hB hw hq dX2_freeWords_41
theorem ok_X2_freeWords : okY yX2_freeWords 0 := ⟨by decide, by decide, by decide +kernel⟩
/-! X2_largestFree -/
def lb_X2_largestFree_4 (ln : Nat → Nat) (post : Int32 → CS → Prop)  (Kx : CS → Int32 → Prop)  (Kb : CS → Int32 → Int32 → Prop) (σ : CS) (x1 x2 : Int32) : Prop :=
  (((σ.1 0) ≤ x2 → Kx σ x1) ∧ (¬ (σ.1 0) ≤ x2 → (vp_in x2 (ln 5) ∧ ((¬ ((σ.2 5) x2.toNatClampNeg) = 0 → Kb σ x1 (x2 + 1)) ∧ (((σ.2 5) x2.toNatClampNeg) = 0 → (vp_in x2 (ln 4) ∧ Kb σ (if x1 < ((σ.2 4) x2.toNatClampNeg) then ((σ.2 4) x2.toNatClampNeg) else x1) (x2 + 1)))))))
def lp_X2_largestFree_4 (ln : Nat → Nat) (post : Int32 → CS → Prop)  (Kx : CS → Int32 → Prop)  : Nat → CS → Int32 → Int32 → Prop
  | 0 => fun _ _ _ => False
  | n + 1 => lb_X2_largestFree_4 ln post  Kx  (lp_X2_largestFree_4 ln post  Kx  n)
def wp_X2_largestFree (ln : Nat → Nat) (σ : CS) (post : Int32 → CS → Prop) : Prop :=
  (∃ n5 : Nat, lp_X2_largestFree_4 ln post  (fun σ6 x1_7 => post x1_7 σ6)  n5 σ 0 0)
set_option maxHeartbeats 4000000 in
set_option maxRecDepth 100000 in
theorem wl_X2_largestFree_4 {p : Program} {l : Launch} {e : Env} {s : State} {m : MethodId} {args : Array Value} {below : List Frame} {meth : Method} {c : Code} {D : va_G} {ad ln : Nat → Nat} {cI : ClassId} {A : Nat → Prop} {post : Int32 → CS → Prop}  {Kx : CS → Int32 → Prop}  (hB : MB p s m args meth c cX2_largestFree 3 (some .int) RX2)  (hKx : ∀ (σ : CS) (x1 : Int32) (H : Heap) (locs : List Loc) (ls : Array Slot), Kx σ x1 → WD D (tyC cI) (cellsC ad ln cI σ) A s H locs → lv_has ls 3 [(1, .int x1)] → W p l e (rmK 0) s m args below meth c H locs 0 0 (MQ below (va_Qi post (Pos0 D (tyC cI) (cellsC ad ln cI) A) A) args s 0 0 A) (F0 m 42 ls [])) :
    ∀ (n : Nat) (σ : CS) (x1 x2 : Int32) (H : Heap) (locs : List Loc) (ls : Array Slot), lp_X2_largestFree_4 ln post  Kx  n σ x1 x2 → WD D (tyC cI) (cellsC ad ln cI σ) A s H locs → lv_has ls 3 [(0, .ref (ad 2)), (1, .int x1), (2, .int x2)] → W p l e (rmK 0) s m args below meth c H locs 0 0 (MQ below (va_Qi post (Pos0 D (tyC cI) (cellsC ad ln cI) A) A) args s 0 0 A) (F0 m 4 ls []) := by
  obtain ⟨hx, hb, hr, hml, hown, hts, hlk⟩ := id hB
  intro n
  induction n with
  | zero => intro σ x1 x2 H locs ls hq hw hl; exact hq.elim
  | succ n ih =>
    intro σ x1 x2 H locs ls hq hw hl
    replace hq : lb_X2_largestFree_4 ln post  Kx  (lp_X2_largestFree_4 ln post  Kx  n) σ x1 x2 := hq
    refine lv_iload_n hx hb dX2_largestFree_4 rfl (lv_at hl 2 rfl) ?_
    refine lv_aload_n hx hb dX2_largestFree_5 rfl (lv_at hl 0 rfl) ?_
    refine gC_2_3 (x := σ.1 0) hB hw m134 rfl dX2_largestFree_6 ?_
    refine lv_icmp_ge (tgt := 42) hx hb dX2_largestFree_9 (by decide) (fun c1 => ?_) (fun c1 => ?_)
    · replace hq := hq.1 c1
      exact hKx σ x1 _ _ _ hq hw (lv_sub hl [1] rfl)
    · replace hq := hq.2 c1
      refine lv_aload_n hx hb dX2_largestFree_12 rfl (lv_at hl 0 rfl) ?_
      refine gC_2_2 hB hw m133 dX2_largestFree_13 ?_
      refine lv_iload_n hx hb dX2_largestFree_16 rfl (lv_at hl 2 rfl) ?_
      obtain ⟨h2, hq⟩ := hq
      refine aC_5 (f := (σ.2 5)) hB hw rfl h2 dX2_largestFree_17 ?_
      refine lv_if_ne (tgt := 34) hx hb dX2_largestFree_18 (by decide) (fun c3 => ?_) (fun c3 => ?_)
      · replace hq := hq.1 c3
        refine lv_iload_n hx hb dX2_largestFree_34 rfl (lv_at hl 1 rfl) ?_
        refine lv_istore_n (lv' := [(1, .int x1), (0, .ref (ad 2)), (2, .int x2)]) hx hb dX2_largestFree_35 rfl hl (by decide) rfl (fun ls hl => ?_)
        refine lv_iinc (v := x2 + 1) (lv' := [(2, .int (x2 + 1)), (1, .int x1), (0, .ref (ad 2))]) hx hb dX2_largestFree_36 hl (k := 2) rfl rfl (by decide) rfl (fun ls hl => ?_)
        refine lv_goto (tgt := 4) hx hb dX2_largestFree_39 (by decide) ?_
        exact ih σ x1 (x2 + 1) _ _ _ hq hw (lv_sub hl [2, 1, 0] rfl)
      · replace hq := hq.2 c3
        refine lv_iload_n hx hb dX2_largestFree_21 rfl (lv_at hl 1 rfl) ?_
        refine lv_aload_n hx hb dX2_largestFree_22 rfl (lv_at hl 0 rfl) ?_
        refine gC_2_1 hB hw m132 dX2_largestFree_23 ?_
        refine lv_iload_n hx hb dX2_largestFree_26 rfl (lv_at hl 2 rfl) ?_
        obtain ⟨h4, hq⟩ := hq
        refine aC_4 (f := (σ.2 4)) hB hw rfl h4 dX2_largestFree_27 ?_
        refine m_max hB hl.1 m347 (Nat.le_of_ble_eq_true rfl) (Nat.le_of_ble_eq_true rfl) (Nat.zero_le _) (Nat.zero_le _) dX2_largestFree_28 ?_
        refine lv_goto (tgt := 35) hx hb dX2_largestFree_31 (by decide) ?_
        refine lv_istore_n (lv' := [(1, .int (if x1 < ((σ.2 4) x2.toNatClampNeg) then ((σ.2 4) x2.toNatClampNeg) else x1)), (0, .ref (ad 2)), (2, .int x2)]) hx hb dX2_largestFree_35 rfl hl (by decide) rfl (fun ls hl => ?_)
        refine lv_iinc (v := x2 + 1) (lv' := [(2, .int (x2 + 1)), (1, .int (if x1 < ((σ.2 4) x2.toNatClampNeg) then ((σ.2 4) x2.toNatClampNeg) else x1)), (0, .ref (ad 2))]) hx hb dX2_largestFree_36 hl (k := 2) rfl rfl (by decide) rfl (fun ls hl => ?_)
        refine lv_goto (tgt := 4) hx hb dX2_largestFree_39 (by decide) ?_
        exact ih σ (if x1 < ((σ.2 4) x2.toNatClampNeg) then ((σ.2 4) x2.toNatClampNeg) else x1) (x2 + 1) _ _ _ hq hw (lv_sub hl [2, 1, 0] rfl)
set_option maxHeartbeats 4000000 in
set_option maxRecDepth 100000 in
theorem c_X2_largestFree (l : Launch) (D : va_G) (ad ln : Nat → Nat) (cI : ClassId) (σ : CS) (post : Int32 → CS → Prop) (hq : wp_X2_largestFree ln σ  post) : MtI l D (tyC cI) (cellsC ad ln cI) yX2_largestFree cX2_largestFree 3 (some .int) (rmK 0) [.ref (ad 2)] σ post := by
  refine MtI_of (by decide) (Nat.le_of_ble_eq_true rfl) ?_
  intro p e s m below meth c A ls hB hw hl
  replace hB : MB p s m _ meth c cX2_largestFree 3 (some .int) RX2 := hB
  replace hl : lv_has ls 3 [(0, .ref (ad 2))] := hl
  obtain ⟨hx, hb, hr, hml, hown, hts, hlk⟩ := id hB
  unfold wp_X2_largestFree at hq
  refine lv_iconst (v := 0) hx hb dX2_largestFree_0 (by decide) ?_
  refine lv_istore_n (lv' := [(1, .int 0), (0, .ref (ad 2))]) hx hb dX2_largestFree_1 rfl hl (by decide) rfl (fun ls hl => ?_)
  refine lv_iconst (v := 0) hx hb dX2_largestFree_2 (by decide) ?_
  refine lv_istore_n (lv' := [(2, .int 0), (1, .int 0), (0, .ref (ad 2))]) hx hb dX2_largestFree_3 rfl hl (by decide) rfl (fun ls hl => ?_)
  obtain ⟨n5, hq⟩ := hq
  refine wl_X2_largestFree_4 hB  (fun σ6 x1_7 H locs ls hq hw hl => ?_) n5 σ 0 0 _ _ _ hq hw (lv_sub hl [2, 1, 0] rfl)
  refine lv_iload_n hx hb dX2_largestFree_42 rfl (lv_at hl 0 rfl) ?_
  exact w_iret hB hw hq dX2_largestFree_43
theorem ok_X2_largestFree : okY yX2_largestFree 0 := ⟨by decide, by decide, by decide +kernel⟩
/-! X2_freeAddress -/
def lb_X2_freeAddress_4 (ln : Nat → Nat) (post : Int32 → CS → Prop)  (Kx : CS → Prop) (x1 : Int32) (Kb : CS → Int32 → Int32 → Prop) (σ : CS) (x2 x3 : Int32) : Prop :=
  (((σ.1 0) ≤ x3 → Kx σ) ∧ (¬ (σ.1 0) ≤ x3 → (vp_in x3 (ln 5) ∧ ((¬ ((σ.2 5) x3.toNatClampNeg) = 0 → Kb σ x2 (x3 + 1)) ∧ (((σ.2 5) x3.toNatClampNeg) = 0 → ((¬ x2 = x1 → Kb σ (x2 + 1) (x3 + 1)) ∧ (x2 = x1 → (vp_in x3 (ln 3) ∧ post ((σ.2 3) x3.toNatClampNeg) σ))))))))
def lp_X2_freeAddress_4 (ln : Nat → Nat) (post : Int32 → CS → Prop)  (Kx : CS → Prop) (x1 : Int32) : Nat → CS → Int32 → Int32 → Prop
  | 0 => fun _ _ _ => False
  | n + 1 => lb_X2_freeAddress_4 ln post  Kx x1 (lp_X2_freeAddress_4 ln post  Kx x1 n)
def wp_X2_freeAddress (ln : Nat → Nat) (σ : CS) (p1 : Int32) (post : Int32 → CS → Prop) : Prop :=
  (∃ n6 : Nat, lp_X2_freeAddress_4 ln post  (fun σ7 => post (-1) σ7) p1 n6 σ 0 0)
set_option maxHeartbeats 4000000 in
set_option maxRecDepth 100000 in
theorem wl_X2_freeAddress_4 {p : Program} {l : Launch} {e : Env} {s : State} {m : MethodId} {args : Array Value} {below : List Frame} {meth : Method} {c : Code} {D : va_G} {ad ln : Nat → Nat} {cI : ClassId} {A : Nat → Prop} {post : Int32 → CS → Prop}  {Kx : CS → Prop} {x1 : Int32} (hB : MB p s m args meth c cX2_freeAddress 4 (some .int) RX2)  (hKx : ∀ (σ : CS) (H : Heap) (locs : List Loc) (ls : Array Slot), Kx σ  → WD D (tyC cI) (cellsC ad ln cI σ) A s H locs → lv_has ls 4 [] → W p l e (rmK 0) s m args below meth c H locs 0 0 (MQ below (va_Qi post (Pos0 D (tyC cI) (cellsC ad ln cI) A) A) args s 0 0 A) (F0 m 42 ls [])) :
    ∀ (n : Nat) (σ : CS) (x2 x3 : Int32) (H : Heap) (locs : List Loc) (ls : Array Slot), lp_X2_freeAddress_4 ln post  Kx x1 n σ x2 x3 → WD D (tyC cI) (cellsC ad ln cI σ) A s H locs → lv_has ls 4 [(0, .ref (ad 2)), (1, .int x1), (2, .int x2), (3, .int x3)] → W p l e (rmK 0) s m args below meth c H locs 0 0 (MQ below (va_Qi post (Pos0 D (tyC cI) (cellsC ad ln cI) A) A) args s 0 0 A) (F0 m 4 ls []) := by
  obtain ⟨hx, hb, hr, hml, hown, hts, hlk⟩ := id hB
  intro n
  induction n with
  | zero => intro σ x2 x3 H locs ls hq hw hl; exact hq.elim
  | succ n ih =>
    intro σ x2 x3 H locs ls hq hw hl
    replace hq : lb_X2_freeAddress_4 ln post  Kx x1 (lp_X2_freeAddress_4 ln post  Kx x1 n) σ x2 x3 := hq
    refine lv_iload_n hx hb dX2_freeAddress_4 rfl (lv_at hl 3 rfl) ?_
    refine lv_aload_n hx hb dX2_freeAddress_5 rfl (lv_at hl 0 rfl) ?_
    refine gC_2_3 (x := σ.1 0) hB hw m134 rfl dX2_freeAddress_6 ?_
    refine lv_icmp_ge (tgt := 42) hx hb dX2_freeAddress_9 (by decide) (fun c1 => ?_) (fun c1 => ?_)
    · replace hq := hq.1 c1
      exact hKx σ _ _ _ hq hw (lv_sub hl [] rfl)
    · replace hq := hq.2 c1
      refine lv_aload_n hx hb dX2_freeAddress_12 rfl (lv_at hl 0 rfl) ?_
      refine gC_2_2 hB hw m133 dX2_freeAddress_13 ?_
      refine lv_iload_n hx hb dX2_freeAddress_16 rfl (lv_at hl 3 rfl) ?_
      obtain ⟨h2, hq⟩ := hq
      refine aC_5 (f := (σ.2 5)) hB hw rfl h2 dX2_freeAddress_17 ?_
      refine lv_if_ne (tgt := 36) hx hb dX2_freeAddress_18 (by decide) (fun c3 => ?_) (fun c3 => ?_)
      · replace hq := hq.1 c3
        refine lv_iinc (v := x3 + 1) (lv' := [(3, .int (x3 + 1)), (0, .ref (ad 2)), (1, .int x1), (2, .int x2)]) hx hb dX2_freeAddress_36 hl (k := 3) rfl rfl (by decide) rfl (fun ls hl => ?_)
        refine lv_goto (tgt := 4) hx hb dX2_freeAddress_39 (by decide) ?_
        exact ih σ x2 (x3 + 1) _ _ _ hq hw (lv_sub hl [1, 2, 3, 0] rfl)
      · replace hq := hq.2 c3
        refine lv_iload_n hx hb dX2_freeAddress_21 rfl (lv_at hl 2 rfl) ?_
        refine lv_iload_n hx hb dX2_freeAddress_22 rfl (lv_at hl 1 rfl) ?_
        refine lv_icmp_ne (tgt := 33) hx hb dX2_freeAddress_23 (by decide) (fun c4 => ?_) (fun c4 => ?_)
        · replace hq := hq.1 c4
          refine lv_iinc (v := x2 + 1) (lv' := [(2, .int (x2 + 1)), (0, .ref (ad 2)), (1, .int x1), (3, .int x3)]) hx hb dX2_freeAddress_33 hl (k := 2) rfl rfl (by decide) rfl (fun ls hl => ?_)
          refine lv_iinc (v := x3 + 1) (lv' := [(3, .int (x3 + 1)), (2, .int (x2 + 1)), (0, .ref (ad 2)), (1, .int x1)]) hx hb dX2_freeAddress_36 hl (k := 3) rfl rfl (by decide) rfl (fun ls hl => ?_)
          refine lv_goto (tgt := 4) hx hb dX2_freeAddress_39 (by decide) ?_
          exact ih σ (x2 + 1) (x3 + 1) _ _ _ hq hw (lv_sub hl [2, 3, 1, 0] rfl)
        · replace hq := hq.2 c4
          refine lv_aload_n hx hb dX2_freeAddress_26 rfl (lv_at hl 0 rfl) ?_
          refine gC_2_0 hB hw m135 dX2_freeAddress_27 ?_
          refine lv_iload_n hx hb dX2_freeAddress_30 rfl (lv_at hl 3 rfl) ?_
          obtain ⟨h5, hq⟩ := hq
          refine aC_3 (f := (σ.2 3)) hB hw rfl h5 dX2_freeAddress_31 ?_
          exact w_iret hB hw hq dX2_freeAddress_32
set_option maxHeartbeats 4000000 in
set_option maxRecDepth 100000 in
theorem c_X2_freeAddress (l : Launch) (D : va_G) (ad ln : Nat → Nat) (cI : ClassId) (σ : CS) (p1 : Int32) (post : Int32 → CS → Prop) (hq : wp_X2_freeAddress ln σ p1 post) : MtI l D (tyC cI) (cellsC ad ln cI) yX2_freeAddress cX2_freeAddress 4 (some .int) (rmK 0) [.ref (ad 2), .int p1] σ post := by
  refine MtI_of (by decide) (Nat.le_of_ble_eq_true rfl) ?_
  intro p e s m below meth c A ls hB hw hl
  replace hB : MB p s m _ meth c cX2_freeAddress 4 (some .int) RX2 := hB
  replace hl : lv_has ls 4 [(0, .ref (ad 2)), (1, .int p1)] := hl
  obtain ⟨hx, hb, hr, hml, hown, hts, hlk⟩ := id hB
  unfold wp_X2_freeAddress at hq
  refine lv_iconst (v := 0) hx hb dX2_freeAddress_0 (by decide) ?_
  refine lv_istore_n (lv' := [(2, .int 0), (0, .ref (ad 2)), (1, .int p1)]) hx hb dX2_freeAddress_1 rfl hl (by decide) rfl (fun ls hl => ?_)
  refine lv_iconst (v := 0) hx hb dX2_freeAddress_2 (by decide) ?_
  refine lv_istore_n (lv' := [(3, .int 0), (2, .int 0), (0, .ref (ad 2)), (1, .int p1)]) hx hb dX2_freeAddress_3 rfl hl (by decide) rfl (fun ls hl => ?_)
  obtain ⟨n6, hq⟩ := hq
  refine wl_X2_freeAddress_4 hB  (fun σ7 H locs ls hq hw hl => ?_) n6 σ 0 0 _ _ _ hq hw (lv_sub hl [2, 3, 1, 0] rfl)
  refine lv_iconst (v := (-1)) hx hb dX2_freeAddress_42 (by decide) ?_
  exact w_iret hB hw hq dX2_freeAddress_43
theorem ok_X2_freeAddress : okY yX2_freeAddress 1 := ⟨by decide, by decide, by decide +kernel⟩
/-! X2_isFree -/
def wp_X2_isFree (ln : Nat → Nat) (σ : CS) (p1 : Int32) (post : Int32 → CS → Prop) : Prop :=
  ((p1 < 0 → post 0 σ) ∧ (¬ p1 < 0 → (((σ.1 0) ≤ p1 → post 0 σ) ∧ (¬ (σ.1 0) ≤ p1 → (vp_in p1 (ln 5) ∧ ((¬ ((σ.2 5) p1.toNatClampNeg) = 0 → post 0 σ) ∧ (((σ.2 5) p1.toNatClampNeg) = 0 → post 1 σ)))))))
set_option maxHeartbeats 4000000 in
set_option maxRecDepth 100000 in
theorem c_X2_isFree (l : Launch) (D : va_G) (ad ln : Nat → Nat) (cI : ClassId) (σ : CS) (p1 : Int32) (post : Int32 → CS → Prop) (hq : wp_X2_isFree ln σ p1 post) : MtI l D (tyC cI) (cellsC ad ln cI) yX2_isFree cX2_isFree 2 (some .boolean) (rmK 0) [.ref (ad 2), .int p1] σ post := by
  refine MtI_of (by decide) (Nat.le_of_ble_eq_true rfl) ?_
  intro p e s m below meth c A ls hB hw hl
  replace hB : MB p s m _ meth c cX2_isFree 2 (some .boolean) RX2 := hB
  replace hl : lv_has ls 2 [(0, .ref (ad 2)), (1, .int p1)] := hl
  obtain ⟨hx, hb, hr, hml, hown, hts, hlk⟩ := id hB
  unfold wp_X2_isFree at hq
  refine lv_iload_n hx hb dX2_isFree_0 rfl (lv_at hl 1 rfl) ?_
  refine lv_if_lt (tgt := 25) hx hb dX2_isFree_1 (by decide) (fun c1 => ?_) (fun c1 => ?_)
  · replace hq := hq.1 c1
    refine lv_iconst (v := 0) hx hb dX2_isFree_25 (by decide) ?_
    exact w_zret hB hw rfl hq dX2_isFree_26
  · replace hq := hq.2 c1
    refine lv_iload_n hx hb dX2_isFree_4 rfl (lv_at hl 1 rfl) ?_
    refine lv_aload_n hx hb dX2_isFree_5 rfl (lv_at hl 0 rfl) ?_
    refine gC_2_3 (x := σ.1 0) hB hw m134 rfl dX2_isFree_6 ?_
    refine lv_icmp_ge (tgt := 25) hx hb dX2_isFree_9 (by decide) (fun c2 => ?_) (fun c2 => ?_)
    · replace hq := hq.1 c2
      refine lv_iconst (v := 0) hx hb dX2_isFree_25 (by decide) ?_
      exact w_zret hB hw rfl hq dX2_isFree_26
    · replace hq := hq.2 c2
      refine lv_aload_n hx hb dX2_isFree_12 rfl (lv_at hl 0 rfl) ?_
      refine gC_2_2 hB hw m133 dX2_isFree_13 ?_
      refine lv_iload_n hx hb dX2_isFree_16 rfl (lv_at hl 1 rfl) ?_
      obtain ⟨h3, hq⟩ := hq
      refine aC_5 (f := (σ.2 5)) hB hw rfl h3 dX2_isFree_17 ?_
      refine lv_if_ne (tgt := 25) hx hb dX2_isFree_18 (by decide) (fun c4 => ?_) (fun c4 => ?_)
      · replace hq := hq.1 c4
        refine lv_iconst (v := 0) hx hb dX2_isFree_25 (by decide) ?_
        exact w_zret hB hw rfl hq dX2_isFree_26
      · replace hq := hq.2 c4
        refine lv_iconst (v := 1) hx hb dX2_isFree_21 (by decide) ?_
        refine lv_goto (tgt := 26) hx hb dX2_isFree_22 (by decide) ?_
        exact w_zret hB hw rfl hq dX2_isFree_26
theorem ok_X2_isFree : okY yX2_isFree 1 := ⟨by decide, by decide, by decide +kernel⟩
/-! X2_freeBehind -/
def wp_X2_freeBehind (ln : Nat → Nat) (σ : CS) (p1 : Int32) (post : Int32 → CS → Prop) : Prop :=
  wp_X2_isFree ln σ (p1 + 1) (fun r2 σ1 => ((r2 = 0 → post 0 σ1) ∧ (¬ r2 = 0 → (vp_in (p1 + 1) (ln 4) ∧ post ((σ1.2 4) (p1 + 1).toNatClampNeg) σ1))))
set_option maxHeartbeats 4000000 in
set_option maxRecDepth 100000 in
theorem c_X2_freeBehind (l : Launch) (D : va_G) (ad ln : Nat → Nat) (cI : ClassId) (σ : CS) (p1 : Int32) (post : Int32 → CS → Prop) (hq : wp_X2_freeBehind ln σ p1 post) : MtI l D (tyC cI) (cellsC ad ln cI) yX2_freeBehind cX2_freeBehind 2 (some .int) (rmK 1) [.ref (ad 2), .int p1] σ post := by
  refine MtI_of (by decide) (Nat.le_of_ble_eq_true rfl) ?_
  intro p e s m below meth c A ls hB hw hl
  replace hB : MB p s m _ meth c cX2_freeBehind 2 (some .int) RX2 := hB
  replace hl : lv_has ls 2 [(0, .ref (ad 2)), (1, .int p1)] := hl
  obtain ⟨hx, hb, hr, hml, hown, hts, hlk⟩ := id hB
  unfold wp_X2_freeBehind at hq
  refine lv_aload_n hx hb dX2_freeBehind_0 rfl (lv_at hl 0 rfl) ?_
  refine lv_iload_n hx hb dX2_freeBehind_1 rfl (lv_at hl 1 rfl) ?_
  refine lv_iconst (v := 1) hx hb dX2_freeBehind_2 (by decide) ?_
  refine lv_iadd hx hb dX2_freeBehind_3 ?_
  refine w_cVI (As := [.int (p1 + 1)]) (rest := []) hB hw hl.1 (c_X2_isFree l D ad ln cI σ (p1 + 1) _ hq) m348 m210 m427 m185 m42 rfl ok_X2_isFree (okR_K (by decide) (by decide)) (q0 := 2) (ci := 2) rfl rfl rfl rfl (Nat.le_of_ble_eq_true rfl) dX2_freeBehind_4 (fun r2 σ1 H locs hq hw => ?_)
  refine lv_if_eq (tgt := 21) hx hb dX2_freeBehind_7 (by decide) (fun c3 => ?_) (fun c3 => ?_)
  · replace hq := hq.1 c3
    refine lv_iconst (v := 0) hx hb dX2_freeBehind_21 (by decide) ?_
    exact w_iret hB hw hq dX2_freeBehind_22
  · replace hq := hq.2 c3
    refine lv_aload_n hx hb dX2_freeBehind_10 rfl (lv_at hl 0 rfl) ?_
    refine gC_2_1 hB hw m132 dX2_freeBehind_11 ?_
    refine lv_iload_n hx hb dX2_freeBehind_14 rfl (lv_at hl 1 rfl) ?_
    refine lv_iconst (v := 1) hx hb dX2_freeBehind_15 (by decide) ?_
    refine lv_iadd hx hb dX2_freeBehind_16 ?_
    obtain ⟨h4, hq⟩ := hq
    refine aC_4 (f := (σ1.2 4)) hB hw rfl h4 dX2_freeBehind_17 ?_
    refine lv_goto (tgt := 22) hx hb dX2_freeBehind_18 (by decide) ?_
    exact w_iret hB hw hq dX2_freeBehind_22
theorem ok_X2_freeBehind : okY yX2_freeBehind 1 := ⟨by decide, by decide, by decide +kernel⟩
/-! X2_shift -/
def wp_X2_shift (ln : Nat → Nat) (σ : CS) (p1 p2 : Int32) (post : CS → Prop) : Prop :=
  ((¬ p1 < 0) ∧ ((¬ p2 < 0) ∧ ((¬ ((σ.1 0) - p1) < 0) ∧ ((p1.toNatClampNeg + ((σ.1 0) - p1).toNatClampNeg ≤ ln 3) ∧ ((p2.toNatClampNeg + ((σ.1 0) - p1).toNatClampNeg ≤ ln 3) ∧ ((p1.toNatClampNeg + ((σ.1 0) - p1).toNatClampNeg ≤ ln 4) ∧ ((p2.toNatClampNeg + ((σ.1 0) - p1).toNatClampNeg ≤ ln 4) ∧ ((p1.toNatClampNeg + ((σ.1 0) - p1).toNatClampNeg ≤ ln 5) ∧ ((p2.toNatClampNeg + ((σ.1 0) - p1).toNatClampNeg ≤ ln 5) ∧ post (setF (setR (setR (setR σ 3 (va_cpy (σ.2 3) (σ.2 3) p1.toNatClampNeg p2.toNatClampNeg ((σ.1 0) - p1).toNatClampNeg)) 4 (va_cpy (σ.2 4) (σ.2 4) p1.toNatClampNeg p2.toNatClampNeg ((σ.1 0) - p1).toNatClampNeg)) 5 (va_cpy (σ.2 5) (σ.2 5) p1.toNatClampNeg p2.toNatClampNeg ((σ.1 0) - p1).toNatClampNeg)) 0 ((σ.1 0) + (p2 - p1))))))))))))
set_option maxHeartbeats 4000000 in
set_option maxRecDepth 100000 in
theorem c_X2_shift (l : Launch) (D : va_G) (ad ln : Nat → Nat) (cI : ClassId) (σ : CS) (p1 p2 : Int32) (post : CS → Prop) (hq : wp_X2_shift ln σ p1 p2 post) : MtV l D (tyC cI) (cellsC ad ln cI) yX2_shift cX2_shift 4 none (rmK 0) [.ref (ad 2), .int p1, .int p2] σ post := by
  refine MtV_of (by decide) (Nat.le_of_ble_eq_true rfl) ?_
  intro p e s m below meth c A ls hB hw hl
  replace hB : MB p s m _ meth c cX2_shift 4 none RX2 := hB
  replace hl : lv_has ls 4 [(0, .ref (ad 2)), (1, .int p1), (2, .int p2)] := hl
  obtain ⟨hx, hb, hr, hml, hown, hts, hlk⟩ := id hB
  unfold wp_X2_shift at hq
  refine lv_aload_n hx hb dX2_shift_0 rfl (lv_at hl 0 rfl) ?_
  refine gC_2_3 (x := σ.1 0) hB hw m134 rfl dX2_shift_1 ?_
  refine lv_iload_n hx hb dX2_shift_4 rfl (lv_at hl 1 rfl) ?_
  refine lv_isub hx hb dX2_shift_5 ?_
  refine lv_istore_n (lv' := [(3, .int ((σ.1 0) - p1)), (0, .ref (ad 2)), (1, .int p1), (2, .int p2)]) hx hb dX2_shift_6 rfl hl (by decide) rfl (fun ls hl => ?_)
  refine lv_aload_n hx hb dX2_shift_7 rfl (lv_at hl 1 rfl) ?_
  refine gC_2_0 hB hw m135 dX2_shift_8 ?_
  refine lv_iload_n hx hb dX2_shift_11 rfl (lv_at hl 2 rfl) ?_
  refine lv_aload_n hx hb dX2_shift_12 rfl (lv_at hl 1 rfl) ?_
  refine gC_2_0 hB hw m135 dX2_shift_13 ?_
  refine lv_iload_n hx hb dX2_shift_16 rfl (lv_at hl 3 rfl) ?_
  refine lv_iload_n hx hb dX2_shift_17 rfl (lv_at hl 0 rfl) ?_
  obtain ⟨h1, hq⟩ := hq
  obtain ⟨h2, hq⟩ := hq
  obtain ⟨h3, hq⟩ := hq
  obtain ⟨h4, hq⟩ := hq
  obtain ⟨h5, hq⟩ := hq
  refine yC_3 (f := (σ.2 3)) hB hw hl.1 m353 (Nat.le_of_ble_eq_true rfl) (Nat.le_of_ble_eq_true rfl) rfl h1 h2 h3 h4 h5 dX2_shift_18 (fun H locs hw => ?_)
  refine lv_aload_n hx hb dX2_shift_21 rfl (lv_at hl 1 rfl) ?_
  refine gC_2_1 hB hw m132 dX2_shift_22 ?_
  refine lv_iload_n hx hb dX2_shift_25 rfl (lv_at hl 2 rfl) ?_
  refine lv_aload_n hx hb dX2_shift_26 rfl (lv_at hl 1 rfl) ?_
  refine gC_2_1 hB hw m132 dX2_shift_27 ?_
  refine lv_iload_n hx hb dX2_shift_30 rfl (lv_at hl 3 rfl) ?_
  refine lv_iload_n hx hb dX2_shift_31 rfl (lv_at hl 0 rfl) ?_
  obtain ⟨h9, hq⟩ := hq
  obtain ⟨h10, hq⟩ := hq
  refine yC_4 (f := (σ.2 4)) hB hw hl.1 m353 (Nat.le_of_ble_eq_true rfl) (Nat.le_of_ble_eq_true rfl) rfl h1 h2 h3 h9 h10 dX2_shift_32 (fun H locs hw => ?_)
  refine lv_aload_n hx hb dX2_shift_35 rfl (lv_at hl 1 rfl) ?_
  refine gC_2_2 hB hw m133 dX2_shift_36 ?_
  refine lv_iload_n hx hb dX2_shift_39 rfl (lv_at hl 2 rfl) ?_
  refine lv_aload_n hx hb dX2_shift_40 rfl (lv_at hl 1 rfl) ?_
  refine gC_2_2 hB hw m133 dX2_shift_41 ?_
  refine lv_iload_n hx hb dX2_shift_44 rfl (lv_at hl 3 rfl) ?_
  refine lv_iload_n hx hb dX2_shift_45 rfl (lv_at hl 0 rfl) ?_
  obtain ⟨h14, hq⟩ := hq
  obtain ⟨h15, hq⟩ := hq
  refine yC_5 (f := (σ.2 5)) hB hw hl.1 m353 (Nat.le_of_ble_eq_true rfl) (Nat.le_of_ble_eq_true rfl) rfl h1 h2 h3 h14 h15 dX2_shift_46 (fun H locs hw => ?_)
  refine lv_aload_n hx hb dX2_shift_49 rfl (lv_at hl 1 rfl) ?_
  refine lv_dup hx hb dX2_shift_50 rfl ?_
  refine gC_2_3 (x := σ.1 0) hB hw m134 rfl dX2_shift_51 ?_
  refine lv_iload_n hx hb dX2_shift_54 rfl (lv_at hl 3 rfl) ?_
  refine lv_iload_n hx hb dX2_shift_55 rfl (lv_at hl 2 rfl) ?_
  refine lv_isub hx hb dX2_shift_56 ?_
  refine lv_iadd hx hb dX2_shift_57 ?_
  refine pC_2_3 hB hw m134 dX2_shift_58 (fun H locs hw => ?_)
  exact w_vret hB hw hq dX2_shift_61
theorem ok_X2_shift : okY yX2_shift 2 := ⟨by decide, by decide, by decide +kernel⟩
/-! X2_join -/
def wp_X2_join (ln : Nat → Nat) (σ : CS) (p1 : Int32) (post : CS → Prop) : Prop :=
  (vp_in p1 (ln 4) ∧ (vp_in (p1 + 1) (ln 4) ∧ wp_X2_shift ln (setA σ 4 p1.toNatClampNeg (((σ.2 4) p1.toNatClampNeg) + ((σ.2 4) (p1 + 1).toNatClampNeg))) (p1 + 2) (p1 + 1) (fun σ3 => post σ3)))
set_option maxHeartbeats 4000000 in
set_option maxRecDepth 100000 in
theorem c_X2_join (l : Launch) (D : va_G) (ad ln : Nat → Nat) (cI : ClassId) (σ : CS) (p1 : Int32) (post : CS → Prop) (hq : wp_X2_join ln σ p1 post) : MtV l D (tyC cI) (cellsC ad ln cI) yX2_join cX2_join 2 none (rmK 1) [.ref (ad 2), .int p1] σ post := by
  refine MtV_of (by decide) (Nat.le_of_ble_eq_true rfl) ?_
  intro p e s m below meth c A ls hB hw hl
  replace hB : MB p s m _ meth c cX2_join 2 none RX2 := hB
  replace hl : lv_has ls 2 [(0, .ref (ad 2)), (1, .int p1)] := hl
  obtain ⟨hx, hb, hr, hml, hown, hts, hlk⟩ := id hB
  unfold wp_X2_join at hq
  refine lv_aload_n hx hb dX2_join_0 rfl (lv_at hl 0 rfl) ?_
  refine gC_2_1 hB hw m132 dX2_join_1 ?_
  refine lv_iload_n hx hb dX2_join_4 rfl (lv_at hl 1 rfl) ?_
  refine lv_dup2_11 hx hb dX2_join_5 rfl rfl ?_
  obtain ⟨h1, hq⟩ := hq
  refine aC_4 (f := (σ.2 4)) hB hw rfl h1 dX2_join_6 ?_
  refine lv_aload_n hx hb dX2_join_7 rfl (lv_at hl 0 rfl) ?_
  refine gC_2_1 hB hw m132 dX2_join_8 ?_
  refine lv_iload_n hx hb dX2_join_11 rfl (lv_at hl 1 rfl) ?_
  refine lv_iconst (v := 1) hx hb dX2_join_12 (by decide) ?_
  refine lv_iadd hx hb dX2_join_13 ?_
  obtain ⟨h2, hq⟩ := hq
  refine aC_4 (f := (σ.2 4)) hB hw rfl h2 dX2_join_14 ?_
  refine lv_iadd hx hb dX2_join_15 ?_
  refine sC_4 hB hw h1 dX2_join_16 (fun H locs hw => ?_)
  refine lv_aload_n hx hb dX2_join_17 rfl (lv_at hl 0 rfl) ?_
  refine lv_iload_n hx hb dX2_join_18 rfl (lv_at hl 1 rfl) ?_
  refine lv_iconst (v := 2) hx hb dX2_join_19 (by decide) ?_
  refine lv_iadd hx hb dX2_join_20 ?_
  refine lv_iload_n hx hb dX2_join_21 rfl (lv_at hl 1 rfl) ?_
  refine lv_iconst (v := 1) hx hb dX2_join_22 (by decide) ?_
  refine lv_iadd hx hb dX2_join_23 ?_
  refine w_cVV (As := [.int (p1 + 2), .int (p1 + 1)]) (rest := []) hB hw hl.1 (c_X2_shift l D ad ln cI (setA σ 4 p1.toNatClampNeg (((σ.2 4) p1.toNatClampNeg) + ((σ.2 4) (p1 + 1).toNatClampNeg))) (p1 + 2) (p1 + 1) _ hq) m352 m216 m433 m185 m48 rfl ok_X2_shift (okR_K (by decide) (by decide)) (q0 := 2) (ci := 2) rfl rfl rfl rfl (Nat.le_of_ble_eq_true rfl) dX2_join_24 (fun σ3 H locs hq hw => ?_)
  exact w_vret hB hw hq dX2_join_27
theorem ok_X2_join : okY yX2_join 1 := ⟨by decide, by decide, by decide +kernel⟩
/-! X2_split -/
def wp_X2_split (ln : Nat → Nat) (σ : CS) (p1 p2 : Int32) (post : CS → Prop) : Prop :=
  (vp_in p1 (ln 4) ∧ ((0 < (((σ.2 4) p1.toNatClampNeg) - p2) → wp_X2_shift ln σ (p1 + 1) (p1 + 2) (fun σ3 => (vp_in p1 (ln 3) ∧ (vp_in (p1 + 1) (ln 3) ∧ (vp_in (p1 + 1) (ln 4) ∧ (vp_in p1 (ln 5) ∧ (vp_in (p1 + 1) (ln 5) ∧ post (setA (setA (setA (setA σ3 3 (p1 + 1).toNatClampNeg (((σ3.2 3) p1.toNatClampNeg) + p2)) 4 (p1 + 1).toNatClampNeg (((σ.2 4) p1.toNatClampNeg) - p2)) 5 (p1 + 1).toNatClampNeg ((σ3.2 5) p1.toNatClampNeg)) 4 p1.toNatClampNeg p2)))))))) ∧ (¬ 0 < (((σ.2 4) p1.toNatClampNeg) - p2) → post σ)))
set_option maxHeartbeats 4000000 in
set_option maxRecDepth 100000 in
theorem c_X2_split (l : Launch) (D : va_G) (ad ln : Nat → Nat) (cI : ClassId) (σ : CS) (p1 p2 : Int32) (post : CS → Prop) (hq : wp_X2_split ln σ p1 p2 post) : MtV l D (tyC cI) (cellsC ad ln cI) yX2_split cX2_split 4 none (rmK 1) [.ref (ad 2), .int p1, .int p2] σ post := by
  refine MtV_of (by decide) (Nat.le_of_ble_eq_true rfl) ?_
  intro p e s m below meth c A ls hB hw hl
  replace hB : MB p s m _ meth c cX2_split 4 none RX2 := hB
  replace hl : lv_has ls 4 [(0, .ref (ad 2)), (1, .int p1), (2, .int p2)] := hl
  obtain ⟨hx, hb, hr, hml, hown, hts, hlk⟩ := id hB
  unfold wp_X2_split at hq
  refine lv_aload_n hx hb dX2_split_0 rfl (lv_at hl 0 rfl) ?_
  refine gC_2_1 hB hw m132 dX2_split_1 ?_
  refine lv_iload_n hx hb dX2_split_4 rfl (lv_at hl 1 rfl) ?_
  obtain ⟨h1, hq⟩ := hq
  refine aC_4 (f := (σ.2 4)) hB hw rfl h1 dX2_split_5 ?_
  refine lv_iload_n hx hb dX2_split_6 rfl (lv_at hl 2 rfl) ?_
  refine lv_isub hx hb dX2_split_7 ?_
  refine lv_istore_n (lv' := [(3, .int (((σ.2 4) p1.toNatClampNeg) - p2)), (0, .ref (ad 2)), (1, .int p1), (2, .int p2)]) hx hb dX2_split_8 rfl hl (by decide) rfl (fun ls hl => ?_)
  refine lv_iload_n hx hb dX2_split_9 rfl (lv_at hl 0 rfl) ?_
  refine lv_if_gt (tgt := 14) hx hb dX2_split_10 (by decide) (fun c2 => ?_) (fun c2 => ?_)
  · replace hq := hq.1 c2
    refine lv_aload_n hx hb dX2_split_14 rfl (lv_at hl 1 rfl) ?_
    refine lv_iload_n hx hb dX2_split_15 rfl (lv_at hl 2 rfl) ?_
    refine lv_iconst (v := 1) hx hb dX2_split_16 (by decide) ?_
    refine lv_iadd hx hb dX2_split_17 ?_
    refine lv_iload_n hx hb dX2_split_18 rfl (lv_at hl 2 rfl) ?_
    refine lv_iconst (v := 2) hx hb dX2_split_19 (by decide) ?_
    refine lv_iadd hx hb dX2_split_20 ?_
    refine w_cVV (As := [.int (p1 + 1), .int (p1 + 2)]) (rest := []) hB hw hl.1 (c_X2_shift l D ad ln cI σ (p1 + 1) (p1 + 2) _ hq) m352 m216 m433 m185 m48 rfl ok_X2_shift (okR_K (by decide) (by decide)) (q0 := 2) (ci := 2) rfl rfl rfl rfl (Nat.le_of_ble_eq_true rfl) dX2_split_21 (fun σ3 H locs hq hw => ?_)
    refine lv_aload_n hx hb dX2_split_24 rfl (lv_at hl 1 rfl) ?_
    refine gC_2_0 hB hw m135 dX2_split_25 ?_
    refine lv_iload_n hx hb dX2_split_28 rfl (lv_at hl 2 rfl) ?_
    refine lv_iconst (v := 1) hx hb dX2_split_29 (by decide) ?_
    refine lv_iadd hx hb dX2_split_30 ?_
    refine lv_aload_n hx hb dX2_split_31 rfl (lv_at hl 1 rfl) ?_
    refine gC_2_0 hB hw m135 dX2_split_32 ?_
    refine lv_iload_n hx hb dX2_split_35 rfl (lv_at hl 2 rfl) ?_
    obtain ⟨h4, hq⟩ := hq
    refine aC_3 (f := (σ3.2 3)) hB hw rfl h4 dX2_split_36 ?_
    refine lv_iload_n hx hb dX2_split_37 rfl (lv_at hl 3 rfl) ?_
    refine lv_iadd hx hb dX2_split_38 ?_
    obtain ⟨h5, hq⟩ := hq
    refine sC_3 hB hw h5 dX2_split_39 (fun H locs hw => ?_)
    refine lv_aload_n hx hb dX2_split_40 rfl (lv_at hl 1 rfl) ?_
    refine gC_2_1 hB hw m132 dX2_split_41 ?_
    refine lv_iload_n hx hb dX2_split_44 rfl (lv_at hl 2 rfl) ?_
    refine lv_iconst (v := 1) hx hb dX2_split_45 (by decide) ?_
    refine lv_iadd hx hb dX2_split_46 ?_
    refine lv_iload_n hx hb dX2_split_47 rfl (lv_at hl 0 rfl) ?_
    obtain ⟨h6, hq⟩ := hq
    refine sC_4 hB hw h6 dX2_split_48 (fun H locs hw => ?_)
    refine lv_aload_n hx hb dX2_split_49 rfl (lv_at hl 1 rfl) ?_
    refine gC_2_2 hB hw m133 dX2_split_50 ?_
    refine lv_iload_n hx hb dX2_split_53 rfl (lv_at hl 2 rfl) ?_
    refine lv_iconst (v := 1) hx hb dX2_split_54 (by decide) ?_
    refine lv_iadd hx hb dX2_split_55 ?_
    refine lv_aload_n hx hb dX2_split_56 rfl (lv_at hl 1 rfl) ?_
    refine gC_2_2 hB hw m133 dX2_split_57 ?_
    refine lv_iload_n hx hb dX2_split_60 rfl (lv_at hl 2 rfl) ?_
    obtain ⟨h7, hq⟩ := hq
    refine aC_5 (f := (σ3.2 5)) hB hw rfl h7 dX2_split_61 ?_
    obtain ⟨h8, hq⟩ := hq
    refine sC_5 hB hw h8 dX2_split_62 (fun H locs hw => ?_)
    refine lv_aload_n hx hb dX2_split_63 rfl (lv_at hl 1 rfl) ?_
    refine gC_2_1 hB hw m132 dX2_split_64 ?_
    refine lv_iload_n hx hb dX2_split_67 rfl (lv_at hl 2 rfl) ?_
    refine lv_iload_n hx hb dX2_split_68 rfl (lv_at hl 3 rfl) ?_
    refine sC_4 hB hw h1 dX2_split_69 (fun H locs hw => ?_)
    exact w_vret hB hw hq dX2_split_70
  · replace hq := hq.2 c2
    exact w_vret hB hw hq dX2_split_13
theorem ok_X2_split : okY yX2_split 2 := ⟨by decide, by decide, by decide +kernel⟩
/-! X2_release -/
def wp_X2_release (ln : Nat → Nat) (σ : CS) (p1 : Int32) (post : CS → Prop) : Prop :=
  (vp_in p1 (ln 5) ∧ wp_X2_isFree ln (setA σ 5 p1.toNatClampNeg 0) (p1 + 1) (fun r3 σ2 => ((r3 = 0 → wp_X2_isFree ln σ2 (p1 - 1) (fun r6 σ5 => ((r6 = 0 → post σ5) ∧ (¬ r6 = 0 → wp_X2_join ln σ5 (p1 - 1) (fun σ8 => post σ8))))) ∧ (¬ r3 = 0 → wp_X2_join ln σ2 p1 (fun σ9 => wp_X2_isFree ln σ9 (p1 - 1) (fun r11 σ10 => ((r11 = 0 → post σ10) ∧ (¬ r11 = 0 → wp_X2_join ln σ10 (p1 - 1) (fun σ13 => post σ13)))))))))
set_option maxHeartbeats 4000000 in
set_option maxRecDepth 100000 in
theorem c_X2_release (l : Launch) (D : va_G) (ad ln : Nat → Nat) (cI : ClassId) (σ : CS) (p1 : Int32) (post : CS → Prop) (hq : wp_X2_release ln σ p1 post) : MtV l D (tyC cI) (cellsC ad ln cI) yX2_release cX2_release 2 none (rmK 2) [.ref (ad 2), .int p1] σ post := by
  refine MtV_of (by decide) (Nat.le_of_ble_eq_true rfl) ?_
  intro p e s m below meth c A ls hB hw hl
  replace hB : MB p s m _ meth c cX2_release 2 none RX2 := hB
  replace hl : lv_has ls 2 [(0, .ref (ad 2)), (1, .int p1)] := hl
  obtain ⟨hx, hb, hr, hml, hown, hts, hlk⟩ := id hB
  unfold wp_X2_release at hq
  refine lv_aload_n hx hb dX2_release_0 rfl (lv_at hl 0 rfl) ?_
  refine gC_2_2 hB hw m133 dX2_release_1 ?_
  refine lv_iload_n hx hb dX2_release_4 rfl (lv_at hl 1 rfl) ?_
  refine lv_iconst (v := 0) hx hb dX2_release_5 (by decide) ?_
  obtain ⟨h1, hq⟩ := hq
  refine sC_5 hB hw h1 dX2_release_6 (fun H locs hw => ?_)
  refine lv_aload_n hx hb dX2_release_7 rfl (lv_at hl 0 rfl) ?_
  refine lv_iload_n hx hb dX2_release_8 rfl (lv_at hl 1 rfl) ?_
  refine lv_iconst (v := 1) hx hb dX2_release_9 (by decide) ?_
  refine lv_iadd hx hb dX2_release_10 ?_
  refine w_cVI (As := [.int (p1 + 1)]) (rest := []) hB hw hl.1 (c_X2_isFree l D ad ln cI (setA σ 5 p1.toNatClampNeg 0) (p1 + 1) _ hq) m348 m210 m427 m185 m42 rfl ok_X2_isFree (okR_K (by decide) (by decide)) (q0 := 2) (ci := 2) rfl rfl rfl rfl (Nat.le_of_ble_eq_true rfl) dX2_release_11 (fun r3 σ2 H locs hq hw => ?_)
  refine lv_if_eq (tgt := 22) hx hb dX2_release_14 (by decide) (fun c4 => ?_) (fun c4 => ?_)
  · replace hq := hq.1 c4
    refine lv_aload_n hx hb dX2_release_22 rfl (lv_at hl 0 rfl) ?_
    refine lv_iload_n hx hb dX2_release_23 rfl (lv_at hl 1 rfl) ?_
    refine lv_iconst (v := 1) hx hb dX2_release_24 (by decide) ?_
    refine lv_isub hx hb dX2_release_25 ?_
    refine w_cVI (As := [.int (p1 - 1)]) (rest := []) hB hw hl.1 (c_X2_isFree l D ad ln cI σ2 (p1 - 1) _ hq) m348 m210 m427 m185 m42 rfl ok_X2_isFree (okR_K (by decide) (by decide)) (q0 := 2) (ci := 2) rfl rfl rfl rfl (Nat.le_of_ble_eq_true rfl) dX2_release_26 (fun r6 σ5 H locs hq hw => ?_)
    refine lv_if_eq (tgt := 39) hx hb dX2_release_29 (by decide) (fun c7 => ?_) (fun c7 => ?_)
    · replace hq := hq.1 c7
      exact w_vret hB hw hq dX2_release_39
    · replace hq := hq.2 c7
      refine lv_aload_n hx hb dX2_release_32 rfl (lv_at hl 0 rfl) ?_
      refine lv_iload_n hx hb dX2_release_33 rfl (lv_at hl 1 rfl) ?_
      refine lv_iconst (v := 1) hx hb dX2_release_34 (by decide) ?_
      refine lv_isub hx hb dX2_release_35 ?_
      refine w_cVV (As := [.int (p1 - 1)]) (rest := []) hB hw hl.1 (c_X2_join l D ad ln cI σ5 (p1 - 1) _ hq) m350 m211 m428 m185 m43 rfl ok_X2_join (okR_K (by decide) (by decide)) (q0 := 2) (ci := 2) rfl rfl rfl rfl (Nat.le_of_ble_eq_true rfl) dX2_release_36 (fun σ8 H locs hq hw => ?_)
      exact w_vret hB hw hq dX2_release_39
  · replace hq := hq.2 c4
    refine lv_aload_n hx hb dX2_release_17 rfl (lv_at hl 0 rfl) ?_
    refine lv_iload_n hx hb dX2_release_18 rfl (lv_at hl 1 rfl) ?_
    refine w_cVV (As := [.int p1]) (rest := []) hB hw hl.1 (c_X2_join l D ad ln cI σ2 p1 _ hq) m350 m211 m428 m185 m43 rfl ok_X2_join (okR_K (by decide) (by decide)) (q0 := 2) (ci := 2) rfl rfl rfl rfl (Nat.le_of_ble_eq_true rfl) dX2_release_19 (fun σ9 H locs hq hw => ?_)
    refine lv_aload_n hx hb dX2_release_22 rfl (lv_at hl 0 rfl) ?_
    refine lv_iload_n hx hb dX2_release_23 rfl (lv_at hl 1 rfl) ?_
    refine lv_iconst (v := 1) hx hb dX2_release_24 (by decide) ?_
    refine lv_isub hx hb dX2_release_25 ?_
    refine w_cVI (As := [.int (p1 - 1)]) (rest := []) hB hw hl.1 (c_X2_isFree l D ad ln cI σ9 (p1 - 1) _ hq) m348 m210 m427 m185 m42 rfl ok_X2_isFree (okR_K (by decide) (by decide)) (q0 := 2) (ci := 2) rfl rfl rfl rfl (Nat.le_of_ble_eq_true rfl) dX2_release_26 (fun r11 σ10 H locs hq hw => ?_)
    refine lv_if_eq (tgt := 39) hx hb dX2_release_29 (by decide) (fun c12 => ?_) (fun c12 => ?_)
    · replace hq := hq.1 c12
      exact w_vret hB hw hq dX2_release_39
    · replace hq := hq.2 c12
      refine lv_aload_n hx hb dX2_release_32 rfl (lv_at hl 0 rfl) ?_
      refine lv_iload_n hx hb dX2_release_33 rfl (lv_at hl 1 rfl) ?_
      refine lv_iconst (v := 1) hx hb dX2_release_34 (by decide) ?_
      refine lv_isub hx hb dX2_release_35 ?_
      refine w_cVV (As := [.int (p1 - 1)]) (rest := []) hB hw hl.1 (c_X2_join l D ad ln cI σ10 (p1 - 1) _ hq) m350 m211 m428 m185 m43 rfl ok_X2_join (okR_K (by decide) (by decide)) (q0 := 2) (ci := 2) rfl rfl rfl rfl (Nat.le_of_ble_eq_true rfl) dX2_release_36 (fun σ13 H locs hq hw => ?_)
      exact w_vret hB hw hq dX2_release_39
theorem ok_X2_release : okY yX2_release 1 := ⟨by decide, by decide, by decide +kernel⟩
/-! X2_carve -/
def wp_X2_carve (ln : Nat → Nat) (σ : CS) (p1 p2 p3 : Int32) (post : CS → Prop) : Prop :=
  (vp_in p1 (ln 3) ∧ (((p2 - ((σ.2 3) p1.toNatClampNeg)) ≤ 0 → wp_X2_split ln σ p1 p3 (fun σ3 => (vp_in p1 (ln 5) ∧ post (setA σ3 5 p1.toNatClampNeg 1)))) ∧ (¬ (p2 - ((σ.2 3) p1.toNatClampNeg)) ≤ 0 → wp_X2_split ln σ p1 (p2 - ((σ.2 3) p1.toNatClampNeg)) (fun σ5 => wp_X2_split ln σ5 (p1 + 1) p3 (fun σ6 => (vp_in (p1 + 1) (ln 5) ∧ post (setA σ6 5 (p1 + 1).toNatClampNeg 1)))))))
set_option maxHeartbeats 4000000 in
set_option maxRecDepth 100000 in
theorem c_X2_carve (l : Launch) (D : va_G) (ad ln : Nat → Nat) (cI : ClassId) (σ : CS) (p1 p2 p3 : Int32) (post : CS → Prop) (hq : wp_X2_carve ln σ p1 p2 p3 post) : MtV l D (tyC cI) (cellsC ad ln cI) yX2_carve cX2_carve 6 none (rmK 2) [.ref (ad 2), .int p1, .int p2, .int p3] σ post := by
  refine MtV_of (by decide) (Nat.le_of_ble_eq_true rfl) ?_
  intro p e s m below meth c A ls hB hw hl
  replace hB : MB p s m _ meth c cX2_carve 6 none RX2 := hB
  replace hl : lv_has ls 6 [(0, .ref (ad 2)), (1, .int p1), (2, .int p2), (3, .int p3)] := hl
  obtain ⟨hx, hb, hr, hml, hown, hts, hlk⟩ := id hB
  unfold wp_X2_carve at hq
  refine lv_iload_n hx hb dX2_carve_0 rfl (lv_at hl 2 rfl) ?_
  refine lv_aload_n hx hb dX2_carve_1 rfl (lv_at hl 0 rfl) ?_
  refine gC_2_0 hB hw m135 dX2_carve_2 ?_
  refine lv_iload_n hx hb dX2_carve_5 rfl (lv_at hl 1 rfl) ?_
  obtain ⟨h1, hq⟩ := hq
  refine aC_3 (f := (σ.2 3)) hB hw rfl h1 dX2_carve_6 ?_
  refine lv_isub hx hb dX2_carve_7 ?_
  refine lv_istore (lv' := [(4, .int (p2 - ((σ.2 3) p1.toNatClampNeg))), (0, .ref (ad 2)), (1, .int p1), (2, .int p2), (3, .int p3)]) hx hb dX2_carve_8 hl (by decide) rfl (fun ls hl => ?_)
  refine lv_iload_n hx hb dX2_carve_10 rfl (lv_at hl 2 rfl) ?_
  refine lv_istore (lv' := [(5, .int p1), (4, .int (p2 - ((σ.2 3) p1.toNatClampNeg))), (0, .ref (ad 2)), (1, .int p1), (2, .int p2), (3, .int p3)]) hx hb dX2_carve_11 hl (by decide) rfl (fun ls hl => ?_)
  refine lv_iload hx hb dX2_carve_13 (lv_at hl 1 rfl) ?_
  refine lv_if_le (tgt := 30) hx hb dX2_carve_15 (by decide) (fun c2 => ?_) (fun c2 => ?_)
  · replace hq := hq.1 c2
    refine lv_aload_n hx hb dX2_carve_30 rfl (lv_at hl 2 rfl) ?_
    refine lv_iload hx hb dX2_carve_31 (lv_at hl 0 rfl) ?_
    refine lv_iload_n hx hb dX2_carve_33 rfl (lv_at hl 5 rfl) ?_
    refine w_cVV (As := [.int p1, .int p3]) (rest := []) hB hw hl.1 (c_X2_split l D ad ln cI σ p1 p3 _ hq) m349 m218 m435 m185 m50 rfl ok_X2_split (okR_K (by decide) (by decide)) (q0 := 2) (ci := 2) rfl rfl rfl rfl (Nat.le_of_ble_eq_true rfl) dX2_carve_34 (fun σ3 H locs hq hw => ?_)
    refine lv_aload_n hx hb dX2_carve_37 rfl (lv_at hl 2 rfl) ?_
    refine gC_2_2 hB hw m133 dX2_carve_38 ?_
    refine lv_iload hx hb dX2_carve_41 (lv_at hl 0 rfl) ?_
    refine lv_iconst (v := 1) hx hb dX2_carve_43 (by decide) ?_
    obtain ⟨h4, hq⟩ := hq
    refine sC_5 hB hw h4 dX2_carve_44 (fun H locs hw => ?_)
    exact w_vret hB hw hq dX2_carve_45
  · replace hq := hq.2 c2
    refine lv_aload_n hx hb dX2_carve_18 rfl (lv_at hl 2 rfl) ?_
    refine lv_iload_n hx hb dX2_carve_19 rfl (lv_at hl 3 rfl) ?_
    refine lv_iload hx hb dX2_carve_20 (lv_at hl 1 rfl) ?_
    refine w_cVV (As := [.int p1, .int (p2 - ((σ.2 3) p1.toNatClampNeg))]) (rest := []) hB hw hl.1 (c_X2_split l D ad ln cI σ p1 (p2 - ((σ.2 3) p1.toNatClampNeg)) _ hq) m349 m218 m435 m185 m50 rfl ok_X2_split (okR_K (by decide) (by decide)) (q0 := 2) (ci := 2) rfl rfl rfl rfl (Nat.le_of_ble_eq_true rfl) dX2_carve_22 (fun σ5 H locs hq hw => ?_)
    refine lv_iload_n hx hb dX2_carve_25 rfl (lv_at hl 3 rfl) ?_
    refine lv_iconst (v := 1) hx hb dX2_carve_26 (by decide) ?_
    refine lv_iadd hx hb dX2_carve_27 ?_
    refine lv_istore (lv' := [(5, .int (p1 + 1)), (4, .int (p2 - ((σ.2 3) p1.toNatClampNeg))), (0, .ref (ad 2)), (1, .int p1), (2, .int p2), (3, .int p3)]) hx hb dX2_carve_28 hl (by decide) rfl (fun ls hl => ?_)
    refine lv_aload_n hx hb dX2_carve_30 rfl (lv_at hl 2 rfl) ?_
    refine lv_iload hx hb dX2_carve_31 (lv_at hl 0 rfl) ?_
    refine lv_iload_n hx hb dX2_carve_33 rfl (lv_at hl 5 rfl) ?_
    refine w_cVV (As := [.int (p1 + 1), .int p3]) (rest := []) hB hw hl.1 (c_X2_split l D ad ln cI σ5 (p1 + 1) p3 _ hq) m349 m218 m435 m185 m50 rfl ok_X2_split (okR_K (by decide) (by decide)) (q0 := 2) (ci := 2) rfl rfl rfl rfl (Nat.le_of_ble_eq_true rfl) dX2_carve_34 (fun σ6 H locs hq hw => ?_)
    refine lv_aload_n hx hb dX2_carve_37 rfl (lv_at hl 2 rfl) ?_
    refine gC_2_2 hB hw m133 dX2_carve_38 ?_
    refine lv_iload hx hb dX2_carve_41 (lv_at hl 0 rfl) ?_
    refine lv_iconst (v := 1) hx hb dX2_carve_43 (by decide) ?_
    obtain ⟨h7, hq⟩ := hq
    refine sC_5 hB hw h7 dX2_carve_44 (fun H locs hw => ?_)
    exact w_vret hB hw hq dX2_carve_45
theorem ok_X2_carve : okY yX2_carve 3 := ⟨by decide, by decide, by decide +kernel⟩
/-! X2_extend -/
def wp_X2_extend (ln : Nat → Nat) (σ : CS) (p1 p2 : Int32) (post : CS → Prop) : Prop :=
  (vp_in p1 (ln 4) ∧ wp_X2_split ln σ (p1 + 1) (p2 - ((σ.2 4) p1.toNatClampNeg)) (fun σ2 => wp_X2_join ln σ2 p1 (fun σ3 => post σ3)))
set_option maxHeartbeats 4000000 in
set_option maxRecDepth 100000 in
theorem c_X2_extend (l : Launch) (D : va_G) (ad ln : Nat → Nat) (cI : ClassId) (σ : CS) (p1 p2 : Int32) (post : CS → Prop) (hq : wp_X2_extend ln σ p1 p2 post) : MtV l D (tyC cI) (cellsC ad ln cI) yX2_extend cX2_extend 3 none (rmK 2) [.ref (ad 2), .int p1, .int p2] σ post := by
  refine MtV_of (by decide) (Nat.le_of_ble_eq_true rfl) ?_
  intro p e s m below meth c A ls hB hw hl
  replace hB : MB p s m _ meth c cX2_extend 3 none RX2 := hB
  replace hl : lv_has ls 3 [(0, .ref (ad 2)), (1, .int p1), (2, .int p2)] := hl
  obtain ⟨hx, hb, hr, hml, hown, hts, hlk⟩ := id hB
  unfold wp_X2_extend at hq
  refine lv_aload_n hx hb dX2_extend_0 rfl (lv_at hl 0 rfl) ?_
  refine lv_iload_n hx hb dX2_extend_1 rfl (lv_at hl 1 rfl) ?_
  refine lv_iconst (v := 1) hx hb dX2_extend_2 (by decide) ?_
  refine lv_iadd hx hb dX2_extend_3 ?_
  refine lv_iload_n hx hb dX2_extend_4 rfl (lv_at hl 2 rfl) ?_
  refine lv_aload_n hx hb dX2_extend_5 rfl (lv_at hl 0 rfl) ?_
  refine gC_2_1 hB hw m132 dX2_extend_6 ?_
  refine lv_iload_n hx hb dX2_extend_9 rfl (lv_at hl 1 rfl) ?_
  obtain ⟨h1, hq⟩ := hq
  refine aC_4 (f := (σ.2 4)) hB hw rfl h1 dX2_extend_10 ?_
  refine lv_isub hx hb dX2_extend_11 ?_
  refine w_cVV (As := [.int (p1 + 1), .int (p2 - ((σ.2 4) p1.toNatClampNeg))]) (rest := []) hB hw hl.1 (c_X2_split l D ad ln cI σ (p1 + 1) (p2 - ((σ.2 4) p1.toNatClampNeg)) _ hq) m349 m218 m435 m185 m50 rfl ok_X2_split (okR_K (by decide) (by decide)) (q0 := 2) (ci := 2) rfl rfl rfl rfl (Nat.le_of_ble_eq_true rfl) dX2_extend_12 (fun σ2 H locs hq hw => ?_)
  refine lv_aload_n hx hb dX2_extend_15 rfl (lv_at hl 0 rfl) ?_
  refine lv_iload_n hx hb dX2_extend_16 rfl (lv_at hl 1 rfl) ?_
  refine w_cVV (As := [.int p1]) (rest := []) hB hw hl.1 (c_X2_join l D ad ln cI σ2 p1 _ hq) m350 m211 m428 m185 m43 rfl ok_X2_join (okR_K (by decide) (by decide)) (q0 := 2) (ci := 2) rfl rfl rfl rfl (Nat.le_of_ble_eq_true rfl) dX2_extend_17 (fun σ3 H locs hq hw => ?_)
  exact w_vret hB hw hq dX2_extend_20
theorem ok_X2_extend : okY yX2_extend 2 := ⟨by decide, by decide, by decide +kernel⟩
/-! X2_shorten -/
def wp_X2_shorten (ln : Nat → Nat) (σ : CS) (p1 p2 : Int32) (post : CS → Prop) : Prop :=
  (vp_in p1 (ln 4) ∧ ((((σ.2 4) p1.toNatClampNeg) ≤ p2 → post σ) ∧ (¬ ((σ.2 4) p1.toNatClampNeg) ≤ p2 → wp_X2_split ln σ p1 p2 (fun σ3 => wp_X2_release ln σ3 (p1 + 1) (fun σ4 => post σ4)))))
set_option maxHeartbeats 4000000 in
set_option maxRecDepth 100000 in
theorem c_X2_shorten (l : Launch) (D : va_G) (ad ln : Nat → Nat) (cI : ClassId) (σ : CS) (p1 p2 : Int32) (post : CS → Prop) (hq : wp_X2_shorten ln σ p1 p2 post) : MtV l D (tyC cI) (cellsC ad ln cI) yX2_shorten cX2_shorten 3 none (rmK 3) [.ref (ad 2), .int p1, .int p2] σ post := by
  refine MtV_of (by decide) (Nat.le_of_ble_eq_true rfl) ?_
  intro p e s m below meth c A ls hB hw hl
  replace hB : MB p s m _ meth c cX2_shorten 3 none RX2 := hB
  replace hl : lv_has ls 3 [(0, .ref (ad 2)), (1, .int p1), (2, .int p2)] := hl
  obtain ⟨hx, hb, hr, hml, hown, hts, hlk⟩ := id hB
  unfold wp_X2_shorten at hq
  refine lv_iload_n hx hb dX2_shorten_0 rfl (lv_at hl 2 rfl) ?_
  refine lv_aload_n hx hb dX2_shorten_1 rfl (lv_at hl 0 rfl) ?_
  refine gC_2_1 hB hw m132 dX2_shorten_2 ?_
  refine lv_iload_n hx hb dX2_shorten_5 rfl (lv_at hl 1 rfl) ?_
  obtain ⟨h1, hq⟩ := hq
  refine aC_4 (f := (σ.2 4)) hB hw rfl h1 dX2_shorten_6 ?_
  refine lv_icmp_ge (tgt := 23) hx hb dX2_shorten_7 (by decide) (fun c2 => ?_) (fun c2 => ?_)
  · replace hq := hq.1 c2
    exact w_vret hB hw hq dX2_shorten_23
  · replace hq := hq.2 c2
    refine lv_aload_n hx hb dX2_shorten_10 rfl (lv_at hl 0 rfl) ?_
    refine lv_iload_n hx hb dX2_shorten_11 rfl (lv_at hl 1 rfl) ?_
    refine lv_iload_n hx hb dX2_shorten_12 rfl (lv_at hl 2 rfl) ?_
    refine w_cVV (As := [.int p1, .int p2]) (rest := []) hB hw hl.1 (c_X2_split l D ad ln cI σ p1 p2 _ hq) m349 m218 m435 m185 m50 rfl ok_X2_split (okR_K (by decide) (by decide)) (q0 := 2) (ci := 2) rfl rfl rfl rfl (Nat.le_of_ble_eq_true rfl) dX2_shorten_13 (fun σ3 H locs hq hw => ?_)
    refine lv_aload_n hx hb dX2_shorten_16 rfl (lv_at hl 0 rfl) ?_
    refine lv_iload_n hx hb dX2_shorten_17 rfl (lv_at hl 1 rfl) ?_
    refine lv_iconst (v := 1) hx hb dX2_shorten_18 (by decide) ?_
    refine lv_iadd hx hb dX2_shorten_19 ?_
    refine w_cVV (As := [.int (p1 + 1)]) (rest := []) hB hw hl.1 (c_X2_release l D ad ln cI σ3 (p1 + 1) _ hq) m351 m215 m432 m185 m47 rfl ok_X2_release (okR_K (by decide) (by decide)) (q0 := 2) (ci := 2) rfl rfl rfl rfl (Nat.le_of_ble_eq_true rfl) dX2_shorten_20 (fun σ4 H locs hq hw => ?_)
    exact w_vret hB hw hq dX2_shorten_23
theorem ok_X2_shorten : okY yX2_shorten 2 := ⟨by decide, by decide, by decide +kernel⟩
