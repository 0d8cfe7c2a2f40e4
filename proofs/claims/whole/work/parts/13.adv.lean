/-! X0_drop -/
def wp_X0_drop (ln : Nat → Nat) (σ : CS) (post : CS → Prop) : Prop :=
  post (setF (setF σ 1 0) 4 0)
set_option maxHeartbeats 4000000 in
set_option maxRecDepth 100000 in
theorem c_X0_drop (l : Launch) (D : va_G) (ad ln : Nat → Nat) (cI : ClassId) (σ : CS) (post : CS → Prop) (hq : wp_X0_drop ln σ  post) : MtV l D (tyC cI) (cellsC ad ln cI) yX0_drop cX0_drop 1 none (rmK 0) [.ref (ad 9)] σ post := by
  refine MtV_of (by decide) (Nat.le_of_ble_eq_true rfl) ?_
  intro p e s m below meth c A ls hB hw hl
  replace hB : MB p s m _ meth c cX0_drop 1 none RX0 := hB
  replace hl : lv_has ls 1 [(0, .ref (ad 9))] := hl
  obtain ⟨hx, hb, hr, hml, hown, hts, hlk⟩ := id hB
  unfold wp_X0_drop at hq
  refine lv_aload_n hx hb dX0_drop_0 rfl (lv_at hl 0 rfl) ?_
  refine lv_iconst (v := 0) hx hb dX0_drop_1 (by decide) ?_
  refine pC_9_1 hB hw m121 rfl rfl dX0_drop_2 (fun H locs hw => ?_)
  refine lv_aload_n hx hb dX0_drop_5 rfl (lv_at hl 0 rfl) ?_
  refine gC_9_0 hB hw m117 dX0_drop_6 ?_
  refine lv_iconst (v := 0) hx hb dX0_drop_9 (by decide) ?_
  refine pC_10_2 hB hw m122 dX0_drop_10 (fun H locs hw => ?_)
  exact w_vret hB hw hq dX0_drop_13
theorem ok_X0_drop : okY yX0_drop 0 := ⟨by decide, by decide, by decide +kernel⟩
/-! X0_lowestPlace -/
def lb_X0_lowestPlace_2 (ln : Nat → Nat) (post : Int32 → CS → Prop)  (Kx : CS → Prop) (x2 : Int32) (Kb : CS → Int32 → Prop) (σ : CS) (x3 : Int32) : Prop :=
  (((σ.1 0) ≤ x3 → Kx σ) ∧ (¬ (σ.1 0) ≤ x3 → (vp_in x3 (ln 17) ∧ ((((σ.2 17) x3.toNatClampNeg) < x2 → Kb σ (x3 + 1)) ∧ (¬ ((σ.2 17) x3.toNatClampNeg) < x2 → post x3 σ)))))
def lp_X0_lowestPlace_2 (ln : Nat → Nat) (post : Int32 → CS → Prop)  (Kx : CS → Prop) (x2 : Int32) : Nat → CS → Int32 → Prop
  | 0 => fun _ _ => False
  | n + 1 => lb_X0_lowestPlace_2 ln post  Kx x2 (lp_X0_lowestPlace_2 ln post  Kx x2 n)
def wp_X0_lowestPlace (ln : Nat → Nat) (σ : CS) (p1 p2 : Int32) (post : Int32 → CS → Prop) : Prop :=
  (∃ n4 : Nat, lp_X0_lowestPlace_2 ln post  (fun σ5 => post (-1) σ5) p2 n4 σ p1)
set_option maxHeartbeats 4000000 in
set_option maxRecDepth 100000 in
theorem wl_X0_lowestPlace_2 {p : Program} {l : Launch} {e : Env} {s : State} {m : MethodId} {args : Array Value} {below : List Frame} {meth : Method} {c : Code} {D : va_G} {ad ln : Nat → Nat} {cI : ClassId} {A : Nat → Prop} {post : Int32 → CS → Prop}  {Kx : CS → Prop} {x2 : Int32} (hB : MB p s m args meth c cX0_lowestPlace 4 (some .int) RX0)  (hKx : ∀ (σ : CS) (H : Heap) (locs : List Loc) (ls : Array Slot), Kx σ  → WD D (tyC cI) (cellsC ad ln cI σ) A s H locs → lv_has ls 4 [] → W p l e (rmK 0) s m args below meth c H locs 0 0 (MQ below (va_Qi post (Pos0 D (tyC cI) (cellsC ad ln cI) A) A) args s 0 0 A) (F0 m 31 ls [])) :
    ∀ (n : Nat) (σ : CS) (x3 : Int32) (H : Heap) (locs : List Loc) (ls : Array Slot), lp_X0_lowestPlace_2 ln post  Kx x2 n σ x3 → WD D (tyC cI) (cellsC ad ln cI σ) A s H locs → lv_has ls 4 [(0, .ref (ad 9)), (2, .int x2), (3, .int x3)] → W p l e (rmK 0) s m args below meth c H locs 0 0 (MQ below (va_Qi post (Pos0 D (tyC cI) (cellsC ad ln cI) A) A) args s 0 0 A) (F0 m 2 ls []) := by
  obtain ⟨hx, hb, hr, hml, hown, hts, hlk⟩ := id hB
  intro n
  induction n with
  | zero => intro σ x3 H locs ls hq hw hl; exact hq.elim
  | succ n ih =>
    intro σ x3 H locs ls hq hw hl
    replace hq : lb_X0_lowestPlace_2 ln post  Kx x2 (lp_X0_lowestPlace_2 ln post  Kx x2 n) σ x3 := hq
    refine lv_iload_n hx hb dX0_lowestPlace_2 rfl (lv_at hl 2 rfl) ?_
    refine lv_aload_n hx hb dX0_lowestPlace_3 rfl (lv_at hl 0 rfl) ?_
    refine gC_9_3 hB hw m116 dX0_lowestPlace_4 ?_
    refine gC_2_3 (x := σ.1 0) hB hw m123 rfl dX0_lowestPlace_7 ?_
    refine lv_icmp_ge (tgt := 31) hx hb dX0_lowestPlace_10 (by decide) (fun c1 => ?_) (fun c1 => ?_)
    · replace hq := hq.1 c1
      exact hKx σ _ _ _ hq hw (lv_sub hl [] rfl)
    · replace hq := hq.2 c1
      refine lv_aload_n hx hb dX0_lowestPlace_13 rfl (lv_at hl 0 rfl) ?_
      refine gC_9_7 hB hw m120 dX0_lowestPlace_14 ?_
      refine lv_iload_n hx hb dX0_lowestPlace_17 rfl (lv_at hl 2 rfl) ?_
      obtain ⟨h2, hq⟩ := hq
      refine aC_17 (f := (σ.2 17)) hB hw rfl h2 dX0_lowestPlace_18 ?_
      refine lv_iload_n hx hb dX0_lowestPlace_19 rfl (lv_at hl 1 rfl) ?_
      refine lv_icmp_lt (tgt := 25) hx hb dX0_lowestPlace_20 (by decide) (fun c3 => ?_) (fun c3 => ?_)
      · replace hq := hq.1 c3
        refine lv_iinc (v := x3 + 1) (lv' := [(3, .int (x3 + 1)), (0, .ref (ad 9)), (2, .int x2)]) hx hb dX0_lowestPlace_25 hl (k := 2) rfl rfl (by decide) rfl (fun ls hl => ?_)
        refine lv_goto (tgt := 2) hx hb dX0_lowestPlace_28 (by decide) ?_
        exact ih σ (x3 + 1) _ _ _ hq hw (lv_sub hl [1, 2, 0] rfl)
      · replace hq := hq.2 c3
        refine lv_iload_n hx hb dX0_lowestPlace_23 rfl (lv_at hl 2 rfl) ?_
        exact w_iret hB hw hq dX0_lowestPlace_24
set_option maxHeartbeats 4000000 in
set_option maxRecDepth 100000 in
theorem c_X0_lowestPlace (l : Launch) (D : va_G) (ad ln : Nat → Nat) (cI : ClassId) (σ : CS) (p1 p2 : Int32) (post : Int32 → CS → Prop) (hq : wp_X0_lowestPlace ln σ p1 p2 post) : MtI l D (tyC cI) (cellsC ad ln cI) yX0_lowestPlace cX0_lowestPlace 4 (some .int) (rmK 0) [.ref (ad 9), .int p1, .int p2] σ post := by
  refine MtI_of (by decide) (Nat.le_of_ble_eq_true rfl) ?_
  intro p e s m below meth c A ls hB hw hl
  replace hB : MB p s m _ meth c cX0_lowestPlace 4 (some .int) RX0 := hB
  replace hl : lv_has ls 4 [(0, .ref (ad 9)), (1, .int p1), (2, .int p2)] := hl
  obtain ⟨hx, hb, hr, hml, hown, hts, hlk⟩ := id hB
  unfold wp_X0_lowestPlace at hq
  refine lv_iload_n hx hb dX0_lowestPlace_0 rfl (lv_at hl 1 rfl) ?_
  refine lv_istore_n (lv' := [(3, .int p1), (0, .ref (ad 9)), (1, .int p1), (2, .int p2)]) hx hb dX0_lowestPlace_1 rfl hl (by decide) rfl (fun ls hl => ?_)
  obtain ⟨n4, hq⟩ := hq
  refine wl_X0_lowestPlace_2 hB  (fun σ5 H locs ls hq hw hl => ?_) n4 σ p1 _ _ _ hq hw (lv_sub hl [1, 3, 0] rfl)
  refine lv_iconst (v := (-1)) hx hb dX0_lowestPlace_31 (by decide) ?_
  exact w_iret hB hw hq dX0_lowestPlace_32
theorem ok_X0_lowestPlace : okY yX0_lowestPlace 2 := ⟨by decide, by decide, by decide +kernel⟩
/-! X0_rankMovables -/
def lb_X0_rankMovables_48 (ln : Nat → Nat) (post : CS → Prop)  (Kx : CS → Int32 → Prop) (x1 : Int32) (Kb : CS → Int32 → Prop) (σ : CS) (x2 : Int32) : Prop :=
  ((x2 ≤ 0 → Kx σ x2) ∧ (¬ x2 ≤ 0 → (vp_in (x2 - 1) (ln 16) ∧ (vp_in ((σ.2 16) (x2 - 1).toNatClampNeg) (ln 4) ∧ (vp_in x1 (ln 4) ∧ ((((σ.2 4) x1.toNatClampNeg) ≤ ((σ.2 4) ((σ.2 16) (x2 - 1).toNatClampNeg).toNatClampNeg) → Kx σ x2) ∧ (¬ ((σ.2 4) x1.toNatClampNeg) ≤ ((σ.2 4) ((σ.2 16) (x2 - 1).toNatClampNeg).toNatClampNeg) → (vp_in x2 (ln 16) ∧ Kb (setA σ 16 x2.toNatClampNeg ((σ.2 16) (x2 - 1).toNatClampNeg)) (x2 + (-1))))))))))
def lp_X0_rankMovables_48 (ln : Nat → Nat) (post : CS → Prop)  (Kx : CS → Int32 → Prop) (x1 : Int32) : Nat → CS → Int32 → Prop
  | 0 => fun _ _ => False
  | n + 1 => lb_X0_rankMovables_48 ln post  Kx x1 (lp_X0_rankMovables_48 ln post  Kx x1 n)
def lb_X0_rankMovables_7 (ln : Nat → Nat) (post : CS → Prop)  (Kx : CS → Prop)  (Kb : CS → Int32 → Prop) (σ : CS) (x1 : Int32) : Prop :=
  (((σ.1 0) ≤ x1 → Kx σ) ∧ (¬ (σ.1 0) ≤ x1 → (((nI (ln 16)) ≤ (σ.1 3) → Kx σ) ∧ (¬ (nI (ln 16)) ≤ (σ.1 3) → (vp_in x1 (ln 5) ∧ ((¬ ((σ.2 5) x1.toNatClampNeg) = 1 → Kb σ (x1 + 1)) ∧ (((σ.2 5) x1.toNatClampNeg) = 1 → (∃ n11 : Nat, lp_X0_rankMovables_48 ln post  (fun σ12 x2_13 => (vp_in x2_13 (ln 16) ∧ Kb (setF (setA σ12 16 x2_13.toNatClampNeg x1) 3 ((σ12.1 3) + 1)) (x1 + 1))) x1 n11 σ (σ.1 3)))))))))
def lp_X0_rankMovables_7 (ln : Nat → Nat) (post : CS → Prop)  (Kx : CS → Prop)  : Nat → CS → Int32 → Prop
  | 0 => fun _ _ => False
  | n + 1 => lb_X0_rankMovables_7 ln post  Kx  (lp_X0_rankMovables_7 ln post  Kx  n)
def wp_X0_rankMovables (ln : Nat → Nat) (σ : CS) (post : CS → Prop) : Prop :=
  (∃ n15 : Nat, lp_X0_rankMovables_7 ln post  (fun σ16 => post σ16)  n15 (setF σ 3 0) 0)
set_option maxHeartbeats 4000000 in
set_option maxRecDepth 100000 in
theorem wl_X0_rankMovables_48 {p : Program} {l : Launch} {e : Env} {s : State} {m : MethodId} {args : Array Value} {below : List Frame} {meth : Method} {c : Code} {D : va_G} {ad ln : Nat → Nat} {cI : ClassId} {A : Nat → Prop} {post : CS → Prop}  {Kx : CS → Int32 → Prop} {x1 : Int32} (hB : MB p s m args meth c cX0_rankMovables 3 none RX0)  (hKx : ∀ (σ : CS) (x2 : Int32) (H : Heap) (locs : List Loc) (ls : Array Slot), Kx σ x2 → WD D (tyC cI) (cellsC ad ln cI σ) A s H locs → lv_has ls 3 [(0, .ref (ad 9)), (1, .int x1), (2, .int x2)] → W p l e (rmK 0) s m args below meth c H locs 0 0 (MQ below (va_Qv post (Pos0 D (tyC cI) (cellsC ad ln cI) A) A) args s 0 0 A) (F0 m 100 ls [])) :
    ∀ (n : Nat) (σ : CS) (x2 : Int32) (H : Heap) (locs : List Loc) (ls : Array Slot), lp_X0_rankMovables_48 ln post  Kx x1 n σ x2 → WD D (tyC cI) (cellsC ad ln cI σ) A s H locs → lv_has ls 3 [(0, .ref (ad 9)), (1, .int x1), (2, .int x2)] → W p l e (rmK 0) s m args below meth c H locs 0 0 (MQ below (va_Qv post (Pos0 D (tyC cI) (cellsC ad ln cI) A) A) args s 0 0 A) (F0 m 48 ls []) := by
  obtain ⟨hx, hb, hr, hml, hown, hts, hlk⟩ := id hB
  intro n
  induction n with
  | zero => intro σ x2 H locs ls hq hw hl; exact hq.elim
  | succ n ih =>
    intro σ x2 H locs ls hq hw hl
    replace hq : lb_X0_rankMovables_48 ln post  Kx x1 (lp_X0_rankMovables_48 ln post  Kx x1 n) σ x2 := hq
    refine lv_iload_n hx hb dX0_rankMovables_48 rfl (lv_at hl 2 rfl) ?_
    refine lv_if_le (tgt := 100) hx hb dX0_rankMovables_49 (by decide) (fun c5 => ?_) (fun c5 => ?_)
    · replace hq := hq.1 c5
      exact hKx σ x2 _ _ _ hq hw (lv_sub hl [0, 1, 2] rfl)
    · replace hq := hq.2 c5
      refine lv_aload_n hx hb dX0_rankMovables_52 rfl (lv_at hl 0 rfl) ?_
      refine gC_9_3 hB hw m116 dX0_rankMovables_53 ?_
      refine gC_2_1 hB hw m125 dX0_rankMovables_56 ?_
      refine lv_aload_n hx hb dX0_rankMovables_59 rfl (lv_at hl 0 rfl) ?_
      refine gC_9_5 hB hw m119 dX0_rankMovables_60 ?_
      refine lv_iload_n hx hb dX0_rankMovables_63 rfl (lv_at hl 2 rfl) ?_
      refine lv_iconst (v := 1) hx hb dX0_rankMovables_64 (by decide) ?_
      refine lv_isub hx hb dX0_rankMovables_65 ?_
      obtain ⟨h6, hq⟩ := hq
      refine aC_16 (f := (σ.2 16)) hB hw rfl h6 dX0_rankMovables_66 ?_
      obtain ⟨h7, hq⟩ := hq
      refine aC_4 (f := (σ.2 4)) hB hw rfl h7 dX0_rankMovables_67 ?_
      refine lv_aload_n hx hb dX0_rankMovables_68 rfl (lv_at hl 0 rfl) ?_
      refine gC_9_3 hB hw m116 dX0_rankMovables_69 ?_
      refine gC_2_1 hB hw m125 dX0_rankMovables_72 ?_
      refine lv_iload_n hx hb dX0_rankMovables_75 rfl (lv_at hl 1 rfl) ?_
      obtain ⟨h8, hq⟩ := hq
      refine aC_4 (f := (σ.2 4)) hB hw rfl h8 dX0_rankMovables_76 ?_
      refine lv_icmp_ge (tgt := 100) hx hb dX0_rankMovables_77 (by decide) (fun c9 => ?_) (fun c9 => ?_)
      · replace hq := hq.1 c9
        exact hKx σ x2 _ _ _ hq hw (lv_sub hl [0, 1, 2] rfl)
      · replace hq := hq.2 c9
        refine lv_aload_n hx hb dX0_rankMovables_80 rfl (lv_at hl 0 rfl) ?_
        refine gC_9_5 hB hw m119 dX0_rankMovables_81 ?_
        refine lv_iload_n hx hb dX0_rankMovables_84 rfl (lv_at hl 2 rfl) ?_
        refine lv_aload_n hx hb dX0_rankMovables_85 rfl (lv_at hl 0 rfl) ?_
        refine gC_9_5 hB hw m119 dX0_rankMovables_86 ?_
        refine lv_iload_n hx hb dX0_rankMovables_89 rfl (lv_at hl 2 rfl) ?_
        refine lv_iconst (v := 1) hx hb dX0_rankMovables_90 (by decide) ?_
        refine lv_isub hx hb dX0_rankMovables_91 ?_
        refine aC_16 (f := (σ.2 16)) hB hw rfl h6 dX0_rankMovables_92 ?_
        obtain ⟨h10, hq⟩ := hq
        refine sC_16 hB hw h10 dX0_rankMovables_93 (fun H locs hw => ?_)
        refine lv_iinc (v := x2 + (-1)) (lv' := [(2, .int (x2 + (-1))), (0, .ref (ad 9)), (1, .int x1)]) hx hb dX0_rankMovables_94 hl (k := 2) rfl rfl (by decide) rfl (fun ls hl => ?_)
        refine lv_goto (tgt := 48) hx hb dX0_rankMovables_97 (by decide) ?_
        exact ih (setA σ 16 x2.toNatClampNeg ((σ.2 16) (x2 - 1).toNatClampNeg)) (x2 + (-1)) _ _ _ hq hw (lv_sub hl [1, 2, 0] rfl)
set_option maxHeartbeats 4000000 in
set_option maxRecDepth 100000 in
theorem wl_X0_rankMovables_7 {p : Program} {l : Launch} {e : Env} {s : State} {m : MethodId} {args : Array Value} {below : List Frame} {meth : Method} {c : Code} {D : va_G} {ad ln : Nat → Nat} {cI : ClassId} {A : Nat → Prop} {post : CS → Prop}  {Kx : CS → Prop}  (hB : MB p s m args meth c cX0_rankMovables 3 none RX0)  (hKx : ∀ (σ : CS) (H : Heap) (locs : List Loc) (ls : Array Slot), Kx σ  → WD D (tyC cI) (cellsC ad ln cI σ) A s H locs → lv_has ls 3 [] → W p l e (rmK 0) s m args below meth c H locs 0 0 (MQ below (va_Qv post (Pos0 D (tyC cI) (cellsC ad ln cI) A) A) args s 0 0 A) (F0 m 123 ls [])) :
    ∀ (n : Nat) (σ : CS) (x1 : Int32) (H : Heap) (locs : List Loc) (ls : Array Slot), lp_X0_rankMovables_7 ln post  Kx  n σ x1 → WD D (tyC cI) (cellsC ad ln cI σ) A s H locs → lv_has ls 3 [(0, .ref (ad 9)), (1, .int x1)] → W p l e (rmK 0) s m args below meth c H locs 0 0 (MQ below (va_Qv post (Pos0 D (tyC cI) (cellsC ad ln cI) A) A) args s 0 0 A) (F0 m 7 ls []) := by
  obtain ⟨hx, hb, hr, hml, hown, hts, hlk⟩ := id hB
  intro n
  induction n with
  | zero => intro σ x1 H locs ls hq hw hl; exact hq.elim
  | succ n ih =>
    intro σ x1 H locs ls hq hw hl
    replace hq : lb_X0_rankMovables_7 ln post  Kx  (lp_X0_rankMovables_7 ln post  Kx  n) σ x1 := hq
    refine lv_iload_n hx hb dX0_rankMovables_7 rfl (lv_at hl 1 rfl) ?_
    refine lv_aload_n hx hb dX0_rankMovables_8 rfl (lv_at hl 0 rfl) ?_
    refine gC_9_3 hB hw m116 dX0_rankMovables_9 ?_
    refine gC_2_3 (x := σ.1 0) hB hw m123 rfl dX0_rankMovables_12 ?_
    refine lv_icmp_ge (tgt := 123) hx hb dX0_rankMovables_15 (by decide) (fun c1 => ?_) (fun c1 => ?_)
    · replace hq := hq.1 c1
      exact hKx σ _ _ _ hq hw (lv_sub hl [] rfl)
    · replace hq := hq.2 c1
      refine lv_aload_n hx hb dX0_rankMovables_18 rfl (lv_at hl 0 rfl) ?_
      refine gC_9_6 (x := σ.1 3) hB hw m128 rfl dX0_rankMovables_19 ?_
      refine lv_aload_n hx hb dX0_rankMovables_22 rfl (lv_at hl 0 rfl) ?_
      refine gC_9_5 hB hw m119 dX0_rankMovables_23 ?_
      refine nC_16 (x := nI (ln 16)) hB hw rfl dX0_rankMovables_26 ?_
      refine lv_icmp_ge (tgt := 123) hx hb dX0_rankMovables_27 (by decide) (fun c2 => ?_) (fun c2 => ?_)
      · replace hq := hq.1 c2
        exact hKx σ _ _ _ hq hw (lv_sub hl [] rfl)
      · replace hq := hq.2 c2
        refine lv_aload_n hx hb dX0_rankMovables_30 rfl (lv_at hl 0 rfl) ?_
        refine gC_9_3 hB hw m116 dX0_rankMovables_31 ?_
        refine gC_2_2 hB hw m124 dX0_rankMovables_34 ?_
        refine lv_iload_n hx hb dX0_rankMovables_37 rfl (lv_at hl 1 rfl) ?_
        obtain ⟨h3, hq⟩ := hq
        refine aC_5 (f := (σ.2 5)) hB hw rfl h3 dX0_rankMovables_38 ?_
        refine lv_iconst (v := 1) hx hb dX0_rankMovables_39 (by decide) ?_
        refine lv_icmp_ne (tgt := 117) hx hb dX0_rankMovables_40 (by decide) (fun c4 => ?_) (fun c4 => ?_)
        · replace hq := hq.1 c4
          refine lv_iinc (v := x1 + 1) (lv' := [(1, .int (x1 + 1)), (0, .ref (ad 9))]) hx hb dX0_rankMovables_117 hl (k := 1) rfl rfl (by decide) rfl (fun ls hl => ?_)
          refine lv_goto (tgt := 7) hx hb dX0_rankMovables_120 (by decide) ?_
          exact ih σ (x1 + 1) _ _ _ hq hw (lv_sub hl [1, 0] rfl)
        · replace hq := hq.2 c4
          refine lv_aload_n hx hb dX0_rankMovables_43 rfl (lv_at hl 0 rfl) ?_
          refine gC_9_6 (x := σ.1 3) hB hw m128 rfl dX0_rankMovables_44 ?_
          refine lv_istore_n (lv' := [(2, .int (σ.1 3)), (0, .ref (ad 9)), (1, .int x1)]) hx hb dX0_rankMovables_47 rfl hl (by decide) rfl (fun ls hl => ?_)
          obtain ⟨n11, hq⟩ := hq
          refine wl_X0_rankMovables_48 hB  (fun σ12 x2_13 H locs ls hq hw hl => ?_) n11 σ (σ.1 3) _ _ _ hq hw (lv_sub hl [1, 2, 0] rfl)
          refine lv_aload_n hx hb dX0_rankMovables_100 rfl (lv_at hl 0 rfl) ?_
          refine gC_9_5 hB hw m119 dX0_rankMovables_101 ?_
          refine lv_iload_n hx hb dX0_rankMovables_104 rfl (lv_at hl 2 rfl) ?_
          refine lv_iload_n hx hb dX0_rankMovables_105 rfl (lv_at hl 1 rfl) ?_
          obtain ⟨h14, hq⟩ := hq
          refine sC_16 hB hw h14 dX0_rankMovables_106 (fun H locs hw => ?_)
          refine lv_aload_n hx hb dX0_rankMovables_107 rfl (lv_at hl 0 rfl) ?_
          refine lv_dup hx hb dX0_rankMovables_108 rfl ?_
          refine gC_9_6 (x := σ12.1 3) hB hw m128 rfl dX0_rankMovables_109 ?_
          refine lv_iconst (v := 1) hx hb dX0_rankMovables_112 (by decide) ?_
          refine lv_iadd hx hb dX0_rankMovables_113 ?_
          refine pC_9_6 hB hw m128 dX0_rankMovables_114 (fun H locs hw => ?_)
          refine lv_iinc (v := x1 + 1) (lv' := [(1, .int (x1 + 1)), (0, .ref (ad 9)), (2, .int x2_13)]) hx hb dX0_rankMovables_117 hl (k := 1) rfl rfl (by decide) rfl (fun ls hl => ?_)
          refine lv_goto (tgt := 7) hx hb dX0_rankMovables_120 (by decide) ?_
          exact ih (setF (setA σ12 16 x2_13.toNatClampNeg x1) 3 ((σ12.1 3) + 1)) (x1 + 1) _ _ _ hq hw (lv_sub hl [1, 0] rfl)
set_option maxHeartbeats 4000000 in
set_option maxRecDepth 100000 in
theorem c_X0_rankMovables (l : Launch) (D : va_G) (ad ln : Nat → Nat) (cI : ClassId) (σ : CS) (post : CS → Prop) (hq : wp_X0_rankMovables ln σ  post) : MtV l D (tyC cI) (cellsC ad ln cI) yX0_rankMovables cX0_rankMovables 3 none (rmK 0) [.ref (ad 9)] σ post := by
  refine MtV_of (by decide) (Nat.le_of_ble_eq_true rfl) ?_
  intro p e s m below meth c A ls hB hw hl
  replace hB : MB p s m _ meth c cX0_rankMovables 3 none RX0 := hB
  replace hl : lv_has ls 3 [(0, .ref (ad 9))] := hl
  obtain ⟨hx, hb, hr, hml, hown, hts, hlk⟩ := id hB
  unfold wp_X0_rankMovables at hq
  refine lv_aload_n hx hb dX0_rankMovables_0 rfl (lv_at hl 0 rfl) ?_
  refine lv_iconst (v := 0) hx hb dX0_rankMovables_1 (by decide) ?_
  refine pC_9_6 hB hw m128 dX0_rankMovables_2 (fun H locs hw => ?_)
  refine lv_iconst (v := 0) hx hb dX0_rankMovables_5 (by decide) ?_
  refine lv_istore_n (lv' := [(1, .int 0), (0, .ref (ad 9))]) hx hb dX0_rankMovables_6 rfl hl (by decide) rfl (fun ls hl => ?_)
  obtain ⟨n15, hq⟩ := hq
  refine wl_X0_rankMovables_7 hB  (fun σ16 H locs ls hq hw hl => ?_) n15 (setF σ 3 0) 0 _ _ _ hq hw (lv_sub hl [1, 0] rfl)
  exact w_vret hB hw hq dX0_rankMovables_123
theorem ok_X0_rankMovables : okY yX0_rankMovables 0 := ⟨by decide, by decide, by decide +kernel⟩
/-! X0_placeVictims -/
def jp_X0_placeVictims_38 (ln : Nat → Nat) (post : Int32 → CS → Prop) (K1 : CS → Int32 → Prop) (σ : CS) (x1 x2 x3 x4 : Int32) : Prop :=
  ((x4 = 0 → (vp_in x3 (ln 17) ∧ K1 (setA σ 17 x3.toNatClampNeg 0) (x3 + 1))) ∧ (¬ x4 = 0 → (vp_in x3 (ln 5) ∧ ((¬ ((σ.2 5) x3.toNatClampNeg) = 0 → (vp_in x3 (ln 17) ∧ K1 (setA σ 17 x3.toNatClampNeg 0) (x3 + 1))) ∧ (((σ.2 5) x3.toNatClampNeg) = 0 → (vp_in x3 (ln 4) ∧ (vp_in x3 (ln 17) ∧ K1 (setA σ 17 x3.toNatClampNeg ((σ.2 4) x3.toNatClampNeg)) (x3 + 1))))))))
def lb_X0_placeVictims_10 (ln : Nat → Nat) (post : Int32 → CS → Prop)  (Kx : CS → Prop) (x1 x2 : Int32) (Kb : CS → Int32 → Prop) (σ : CS) (x3 : Int32) : Prop :=
  (((σ.1 0) ≤ x3 → Kx σ) ∧ (¬ (σ.1 0) ≤ x3 → ((x3 < x1 → jp_X0_placeVictims_38 ln post Kb σ x1 x2 x3 1) ∧ (¬ x3 < x1 → ((x3 < x2 → jp_X0_placeVictims_38 ln post Kb σ x1 x2 x3 0) ∧ (¬ x3 < x2 → jp_X0_placeVictims_38 ln post Kb σ x1 x2 x3 1))))))
def lp_X0_placeVictims_10 (ln : Nat → Nat) (post : Int32 → CS → Prop)  (Kx : CS → Prop) (x1 x2 : Int32) : Nat → CS → Int32 → Prop
  | 0 => fun _ _ => False
  | n + 1 => lb_X0_placeVictims_10 ln post  Kx x1 x2 (lp_X0_placeVictims_10 ln post  Kx x1 x2 n)
def jp_X0_placeVictims_139 (ln : Nat → Nat) (post : Int32 → CS → Prop) (K1 : CS → Int32 → Int32 → Int32 → Prop) (σ : CS) (x1 x2 x5 x6 y0 : Int32) : Prop :=
  (vp_in x6 (ln 4) ∧ wp_X0_lowestPlace ln σ y0 ((σ.2 4) x6.toNatClampNeg) (fun r21 σ20 => ((¬ r21 = (-1) → (vp_in x6 (ln 3) ∧ wp_X2_end ln σ20 r21 (fun r25 σ24 => (vp_in r21 (ln 17) ∧ wp_X1_put_13 ln σ24 ((σ20.2 3) x6.toNatClampNeg) (r25 - ((σ24.2 17) r21.toNatClampNeg)) (fun σ27 => K1 (setA σ27 17 r21.toNatClampNeg (((σ27.2 17) r21.toNatClampNeg) - ((σ20.2 4) x6.toNatClampNeg))) ((σ20.2 4) x6.toNatClampNeg) r21 (x5 + 1)))))) ∧ (r21 = (-1) → post 0 σ20))))
def lb_X0_placeVictims_88 (ln : Nat → Nat) (post : Int32 → CS → Prop)  (Kx : CS → Prop) (x1 x2 : Int32) (Kb : CS → Int32 → Int32 → Int32 → Prop) (σ : CS) (x3 x4 x5 : Int32) : Prop :=
  (((σ.1 3) ≤ x5 → Kx σ) ∧ (¬ (σ.1 3) ≤ x5 → (vp_in x5 (ln 16) ∧ ((((σ.2 16) x5.toNatClampNeg) < x1 → Kb σ x3 x4 (x5 + 1)) ∧ (¬ ((σ.2 16) x5.toNatClampNeg) < x1 → ((x2 ≤ ((σ.2 16) x5.toNatClampNeg) → Kb σ x3 x4 (x5 + 1)) ∧ (¬ x2 ≤ ((σ.2 16) x5.toNatClampNeg) → (vp_in ((σ.2 16) x5.toNatClampNeg) (ln 4) ∧ ((¬ ((σ.2 4) ((σ.2 16) x5.toNatClampNeg).toNatClampNeg) = x3 → jp_X0_placeVictims_139 ln post Kb σ x1 x2 x5 ((σ.2 16) x5.toNatClampNeg) 0) ∧ (((σ.2 4) ((σ.2 16) x5.toNatClampNeg).toNatClampNeg) = x3 → jp_X0_placeVictims_139 ln post Kb σ x1 x2 x5 ((σ.2 16) x5.toNatClampNeg) x4))))))))))
def lp_X0_placeVictims_88 (ln : Nat → Nat) (post : Int32 → CS → Prop)  (Kx : CS → Prop) (x1 x2 : Int32) : Nat → CS → Int32 → Int32 → Int32 → Prop
  | 0 => fun _ _ _ _ => False
  | n + 1 => lb_X0_placeVictims_88 ln post  Kx x1 x2 (lp_X0_placeVictims_88 ln post  Kx x1 x2 n)
def wp_X0_placeVictims (ln : Nat → Nat) (σ : CS) (p1 p2 : Int32) (post : Int32 → CS → Prop) : Prop :=
  (∃ n11 : Nat, lp_X0_placeVictims_10 ln post  (fun σ12 => (∃ n28 : Nat, lp_X0_placeVictims_88 ln post  (fun σ29 => post 1 σ29) p1 p2 n28 σ12 0 0 0)) p1 p2 n11 (setF σ 5 0) 0)
set_option maxHeartbeats 4000000 in
set_option maxRecDepth 100000 in
theorem wj_X0_placeVictims_38 {p : Program} {l : Launch} {e : Env} {s : State} {m : MethodId} {args : Array Value} {below : List Frame} {meth : Method} {c : Code} {D : va_G} {ad ln : Nat → Nat} {cI : ClassId} {A : Nat → Prop} {post : Int32 → CS → Prop} {K1 : CS → Int32 → Prop} (hB : MB p s m args meth c cX0_placeVictims 7 (some .boolean) RX0) (σ : CS) (x1 x2 x3 x4 : Int32) (H : Heap) (locs : List Loc) (ls : Array Slot) (hK1 : ∀ (σ : CS) (x3 : Int32) (H : Heap) (locs : List Loc) (ls : Array Slot), K1 σ x3 → WD D (tyC cI) (cellsC ad ln cI σ) A s H locs → lv_has ls 7 [(0, .ref (ad 9)), (1, .int x1), (2, .int x2), (3, .int x3)] → W p l e (rmK 1) s m args below meth c H locs 0 0 (MQ below (va_Qi post (Pos0 D (tyC cI) (cellsC ad ln cI) A) A) args s 0 0 A) (F0 m 10 ls [])) (hq : jp_X0_placeVictims_38 ln post K1 σ x1 x2 x3 x4) (hw : WD D (tyC cI) (cellsC ad ln cI σ) A s H locs) (hl : lv_has ls 7 [(0, .ref (ad 9)), (1, .int x1), (2, .int x2), (3, .int x3), (4, .int x4)]) : W p l e (rmK 1) s m args below meth c H locs 0 0 (MQ below (va_Qi post (Pos0 D (tyC cI) (cellsC ad ln cI) A) A) args s 0 0 A) (F0 m 38 ls []) := by
  obtain ⟨hx, hb, hr, hml, hown, hts, hlk⟩ := id hB
  unfold jp_X0_placeVictims_38 at hq
  refine lv_aload_n hx hb dX0_placeVictims_38 rfl (lv_at hl 0 rfl) ?_
  refine gC_9_7 hB hw m120 dX0_placeVictims_39 ?_
  refine lv_iload_n hx hb dX0_placeVictims_42 rfl (lv_at hl 3 rfl) ?_
  refine lv_iload hx hb dX0_placeVictims_43 (lv_at hl 4 rfl) ?_
  refine lv_if_eq (tgt := 72) hx hb dX0_placeVictims_45 (by decide) (fun c3 => ?_) (fun c3 => ?_)
  · replace hq := hq.1 c3
    refine lv_iconst (v := 0) hx hb dX0_placeVictims_72 (by decide) ?_
    obtain ⟨h4, hq⟩ := hq
    refine sC_17 hB hw h4 dX0_placeVictims_73 (fun H locs hw => ?_)
    refine lv_iinc (v := x3 + 1) (lv' := [(3, .int (x3 + 1)), (0, .ref (ad 9)), (1, .int x1), (2, .int x2), (4, .int x4)]) hx hb dX0_placeVictims_74 hl (k := 3) rfl rfl (by decide) rfl (fun ls hl => ?_)
    refine lv_goto (tgt := 10) hx hb dX0_placeVictims_77 (by decide) ?_
    exact hK1 (setA σ 17 x3.toNatClampNeg 0) (x3 + 1) _ _ _ hq hw (lv_sub hl [1, 2, 3, 0] rfl)
  · replace hq := hq.2 c3
    refine lv_aload_n hx hb dX0_placeVictims_48 rfl (lv_at hl 0 rfl) ?_
    refine gC_9_3 hB hw m116 dX0_placeVictims_49 ?_
    refine gC_2_2 hB hw m124 dX0_placeVictims_52 ?_
    refine lv_iload_n hx hb dX0_placeVictims_55 rfl (lv_at hl 3 rfl) ?_
    obtain ⟨h5, hq⟩ := hq
    refine aC_5 (f := (σ.2 5)) hB hw rfl h5 dX0_placeVictims_56 ?_
    refine lv_if_ne (tgt := 72) hx hb dX0_placeVictims_57 (by decide) (fun c6 => ?_) (fun c6 => ?_)
    · replace hq := hq.1 c6
      refine lv_iconst (v := 0) hx hb dX0_placeVictims_72 (by decide) ?_
      obtain ⟨h7, hq⟩ := hq
      refine sC_17 hB hw h7 dX0_placeVictims_73 (fun H locs hw => ?_)
      refine lv_iinc (v := x3 + 1) (lv' := [(3, .int (x3 + 1)), (0, .ref (ad 9)), (1, .int x1), (2, .int x2), (4, .int x4)]) hx hb dX0_placeVictims_74 hl (k := 3) rfl rfl (by decide) rfl (fun ls hl => ?_)
      refine lv_goto (tgt := 10) hx hb dX0_placeVictims_77 (by decide) ?_
      exact hK1 (setA σ 17 x3.toNatClampNeg 0) (x3 + 1) _ _ _ hq hw (lv_sub hl [1, 2, 3, 0] rfl)
    · replace hq := hq.2 c6
      refine lv_aload_n hx hb dX0_placeVictims_60 rfl (lv_at hl 0 rfl) ?_
      refine gC_9_3 hB hw m116 dX0_placeVictims_61 ?_
      refine gC_2_1 hB hw m125 dX0_placeVictims_64 ?_
      refine lv_iload_n hx hb dX0_placeVictims_67 rfl (lv_at hl 3 rfl) ?_
      obtain ⟨h8, hq⟩ := hq
      refine aC_4 (f := (σ.2 4)) hB hw rfl h8 dX0_placeVictims_68 ?_
      refine lv_goto (tgt := 73) hx hb dX0_placeVictims_69 (by decide) ?_
      obtain ⟨h9, hq⟩ := hq
      refine sC_17 hB hw h9 dX0_placeVictims_73 (fun H locs hw => ?_)
      refine lv_iinc (v := x3 + 1) (lv' := [(3, .int (x3 + 1)), (0, .ref (ad 9)), (1, .int x1), (2, .int x2), (4, .int x4)]) hx hb dX0_placeVictims_74 hl (k := 3) rfl rfl (by decide) rfl (fun ls hl => ?_)
      refine lv_goto (tgt := 10) hx hb dX0_placeVictims_77 (by decide) ?_
      exact hK1 (setA σ 17 x3.toNatClampNeg ((σ.2 4) x3.toNatClampNeg)) (x3 + 1) _ _ _ hq hw (lv_sub hl [1, 2, 3, 0] rfl)
set_option maxHeartbeats 4000000 in
set_option maxRecDepth 100000 in
theorem wl_X0_placeVictims_10 {p : Program} {l : Launch} {e : Env} {s : State} {m : MethodId} {args : Array Value} {below : List Frame} {meth : Method} {c : Code} {D : va_G} {ad ln : Nat → Nat} {cI : ClassId} {A : Nat → Prop} {post : Int32 → CS → Prop}  {Kx : CS → Prop} {x1 x2 : Int32} (hB : MB p s m args meth c cX0_placeVictims 7 (some .boolean) RX0)  (hKx : ∀ (σ : CS) (H : Heap) (locs : List Loc) (ls : Array Slot), Kx σ  → WD D (tyC cI) (cellsC ad ln cI σ) A s H locs → lv_has ls 7 [(0, .ref (ad 9)), (1, .int x1), (2, .int x2)] → W p l e (rmK 1) s m args below meth c H locs 0 0 (MQ below (va_Qi post (Pos0 D (tyC cI) (cellsC ad ln cI) A) A) args s 0 0 A) (F0 m 80 ls [])) :
    ∀ (n : Nat) (σ : CS) (x3 : Int32) (H : Heap) (locs : List Loc) (ls : Array Slot), lp_X0_placeVictims_10 ln post  Kx x1 x2 n σ x3 → WD D (tyC cI) (cellsC ad ln cI σ) A s H locs → lv_has ls 7 [(0, .ref (ad 9)), (1, .int x1), (2, .int x2), (3, .int x3)] → W p l e (rmK 1) s m args below meth c H locs 0 0 (MQ below (va_Qi post (Pos0 D (tyC cI) (cellsC ad ln cI) A) A) args s 0 0 A) (F0 m 10 ls []) := by
  obtain ⟨hx, hb, hr, hml, hown, hts, hlk⟩ := id hB
  intro n
  induction n with
  | zero => intro σ x3 H locs ls hq hw hl; exact hq.elim
  | succ n ih =>
    intro σ x3 H locs ls hq hw hl
    replace hq : lb_X0_placeVictims_10 ln post  Kx x1 x2 (lp_X0_placeVictims_10 ln post  Kx x1 x2 n) σ x3 := hq
    refine lv_iload_n hx hb dX0_placeVictims_10 rfl (lv_at hl 3 rfl) ?_
    refine lv_aload_n hx hb dX0_placeVictims_11 rfl (lv_at hl 0 rfl) ?_
    refine gC_9_3 hB hw m116 dX0_placeVictims_12 ?_
    refine gC_2_3 (x := σ.1 0) hB hw m123 rfl dX0_placeVictims_15 ?_
    refine lv_icmp_ge (tgt := 80) hx hb dX0_placeVictims_18 (by decide) (fun c1 => ?_) (fun c1 => ?_)
    · replace hq := hq.1 c1
      exact hKx σ _ _ _ hq hw (lv_sub hl [0, 1, 2] rfl)
    · replace hq := hq.2 c1
      refine lv_iload_n hx hb dX0_placeVictims_21 rfl (lv_at hl 3 rfl) ?_
      refine lv_iload_n hx hb dX0_placeVictims_22 rfl (lv_at hl 1 rfl) ?_
      refine lv_icmp_lt (tgt := 31) hx hb dX0_placeVictims_23 (by decide) (fun c2 => ?_) (fun c2 => ?_)
      · replace hq := hq.1 c2
        refine lv_iconst (v := 1) hx hb dX0_placeVictims_31 (by decide) ?_
        refine lv_goto (tgt := 36) hx hb dX0_placeVictims_32 (by decide) ?_
        refine lv_istore (lv' := [(4, .int 1), (0, .ref (ad 9)), (1, .int x1), (2, .int x2), (3, .int x3)]) hx hb dX0_placeVictims_36 hl (by decide) rfl (fun ls hl => ?_)
        exact wj_X0_placeVictims_38 hB σ x1 x2 x3 1 _ _ _ ih hq hw (lv_sub hl [1, 2, 3, 4, 0] rfl)
      · replace hq := hq.2 c2
        refine lv_iload_n hx hb dX0_placeVictims_26 rfl (lv_at hl 3 rfl) ?_
        refine lv_iload_n hx hb dX0_placeVictims_27 rfl (lv_at hl 2 rfl) ?_
        refine lv_icmp_lt (tgt := 35) hx hb dX0_placeVictims_28 (by decide) (fun c10 => ?_) (fun c10 => ?_)
        · replace hq := hq.1 c10
          refine lv_iconst (v := 0) hx hb dX0_placeVictims_35 (by decide) ?_
          refine lv_istore (lv' := [(4, .int 0), (0, .ref (ad 9)), (1, .int x1), (2, .int x2), (3, .int x3)]) hx hb dX0_placeVictims_36 hl (by decide) rfl (fun ls hl => ?_)
          exact wj_X0_placeVictims_38 hB σ x1 x2 x3 0 _ _ _ ih hq hw (lv_sub hl [1, 2, 3, 4, 0] rfl)
        · replace hq := hq.2 c10
          refine lv_iconst (v := 1) hx hb dX0_placeVictims_31 (by decide) ?_
          refine lv_goto (tgt := 36) hx hb dX0_placeVictims_32 (by decide) ?_
          refine lv_istore (lv' := [(4, .int 1), (0, .ref (ad 9)), (1, .int x1), (2, .int x2), (3, .int x3)]) hx hb dX0_placeVictims_36 hl (by decide) rfl (fun ls hl => ?_)
          exact wj_X0_placeVictims_38 hB σ x1 x2 x3 1 _ _ _ ih hq hw (lv_sub hl [1, 2, 3, 4, 0] rfl)
set_option maxHeartbeats 4000000 in
set_option maxRecDepth 100000 in
theorem wj_X0_placeVictims_139 {p : Program} {l : Launch} {e : Env} {s : State} {m : MethodId} {args : Array Value} {below : List Frame} {meth : Method} {c : Code} {D : va_G} {ad ln : Nat → Nat} {cI : ClassId} {A : Nat → Prop} {post : Int32 → CS → Prop} {K1 : CS → Int32 → Int32 → Int32 → Prop} (hB : MB p s m args meth c cX0_placeVictims 7 (some .boolean) RX0) (σ : CS) (x1 x2 x5 x6 y0 : Int32) (H : Heap) (locs : List Loc) (ls : Array Slot) (hK1 : ∀ (σ : CS) (x3 x4 x5 : Int32) (H : Heap) (locs : List Loc) (ls : Array Slot), K1 σ x3 x4 x5 → WD D (tyC cI) (cellsC ad ln cI σ) A s H locs → lv_has ls 7 [(0, .ref (ad 9)), (1, .int x1), (2, .int x2), (3, .int x3), (4, .int x4), (5, .int x5)] → W p l e (rmK 1) s m args below meth c H locs 0 0 (MQ below (va_Qi post (Pos0 D (tyC cI) (cellsC ad ln cI) A) A) args s 0 0 A) (F0 m 88 ls [])) (hq : jp_X0_placeVictims_139 ln post K1 σ x1 x2 x5 x6 y0) (hw : WD D (tyC cI) (cellsC ad ln cI σ) A s H locs) (hl : lv_has ls 7 [(0, .ref (ad 9)), (1, .int x1), (2, .int x2), (5, .int x5), (6, .int x6)]) : W p l e (rmK 1) s m args below meth c H locs 0 0 (MQ below (va_Qi post (Pos0 D (tyC cI) (cellsC ad ln cI) A) A) args s 0 0 A) (F0 m 139 ls [.int y0, .ref (ad 9)]) := by
  obtain ⟨hx, hb, hr, hml, hown, hts, hlk⟩ := id hB
  unfold jp_X0_placeVictims_139 at hq
  refine lv_aload_n hx hb dX0_placeVictims_139 rfl (lv_at hl 0 rfl) ?_
  refine gC_9_3 hB hw m116 dX0_placeVictims_140 ?_
  refine gC_2_1 hB hw m125 dX0_placeVictims_143 ?_
  refine lv_iload hx hb dX0_placeVictims_146 (lv_at hl 4 rfl) ?_
  obtain ⟨h19, hq⟩ := hq
  refine aC_4 (f := (σ.2 4)) hB hw rfl h19 dX0_placeVictims_148 ?_
  refine w_cVI (As := [.int y0, .int ((σ.2 4) x6.toNatClampNeg)]) (rest := []) hB hw hl.1 (c_X0_lowestPlace l D ad ln cI σ y0 ((σ.2 4) x6.toNatClampNeg) _ hq) m338 m192 m411 m183 m24 rfl ok_X0_lowestPlace (okR_K (by decide) (by decide)) (q0 := 9) (ci := 0) rfl rfl rfl rfl (Nat.le_of_ble_eq_true rfl) dX0_placeVictims_149 (fun r21 σ20 H locs hq hw => ?_)
  refine lv_istore (lv' := [(4, .int r21), (0, .ref (ad 9)), (1, .int x1), (2, .int x2), (5, .int x5), (6, .int x6)]) hx hb dX0_placeVictims_152 hl (by decide) rfl (fun ls hl => ?_)
  refine lv_iload hx hb dX0_placeVictims_154 (lv_at hl 0 rfl) ?_
  refine lv_iconst (v := (-1)) hx hb dX0_placeVictims_156 (by decide) ?_
  refine lv_icmp_ne (tgt := 162) hx hb dX0_placeVictims_157 (by decide) (fun c22 => ?_) (fun c22 => ?_)
  · replace hq := hq.1 c22
    refine lv_aload_n hx hb dX0_placeVictims_162 rfl (lv_at hl 1 rfl) ?_
    refine gC_9_3 hB hw m116 dX0_placeVictims_163 ?_
    refine gC_2_1 hB hw m125 dX0_placeVictims_166 ?_
    refine lv_iload hx hb dX0_placeVictims_169 (lv_at hl 5 rfl) ?_
    refine aC_4 (f := (σ20.2 4)) hB hw rfl h19 dX0_placeVictims_171 ?_
    refine lv_istore_n (lv' := [(3, .int ((σ20.2 4) x6.toNatClampNeg)), (4, .int r21), (0, .ref (ad 9)), (1, .int x1), (2, .int x2), (5, .int x5), (6, .int x6)]) hx hb dX0_placeVictims_172 rfl hl (by decide) rfl (fun ls hl => ?_)
    refine lv_aload_n hx hb dX0_placeVictims_173 rfl (lv_at hl 2 rfl) ?_
    refine gC_9_4 hB hw m118 dX0_placeVictims_174 ?_
    refine lv_aload_n hx hb dX0_placeVictims_177 rfl (lv_at hl 2 rfl) ?_
    refine gC_9_3 hB hw m116 dX0_placeVictims_178 ?_
    refine gC_2_0 hB hw m126 dX0_placeVictims_181 ?_
    refine lv_iload hx hb dX0_placeVictims_184 (lv_at hl 6 rfl) ?_
    obtain ⟨h23, hq⟩ := hq
    refine aC_3 (f := (σ20.2 3)) hB hw rfl h23 dX0_placeVictims_186 ?_
    refine lv_aload_n hx hb dX0_placeVictims_187 rfl (lv_at hl 2 rfl) ?_
    refine gC_9_3 hB hw m116 dX0_placeVictims_188 ?_
    refine lv_iload hx hb dX0_placeVictims_191 (lv_at hl 1 rfl) ?_
    refine w_cVI (As := [.int r21]) (rest := [.int ((σ20.2 3) x6.toNatClampNeg), .ref (ad 13)]) hB hw hl.1 (c_X2_end l D ad ln cI σ20 r21 _ hq) m339 m201 m419 m185 m33 rfl ok_X2_end (okR_K (by decide) (by decide)) (q0 := 2) (ci := 2) rfl rfl rfl rfl (Nat.le_of_ble_eq_true rfl) dX0_placeVictims_193 (fun r25 σ24 H locs hq hw => ?_)
    refine lv_aload_n hx hb dX0_placeVictims_196 rfl (lv_at hl 2 rfl) ?_
    refine gC_9_7 hB hw m120 dX0_placeVictims_197 ?_
    refine lv_iload hx hb dX0_placeVictims_200 (lv_at hl 1 rfl) ?_
    obtain ⟨h26, hq⟩ := hq
    refine aC_17 (f := (σ24.2 17)) hB hw rfl h26 dX0_placeVictims_202 ?_
    refine lv_isub hx hb dX0_placeVictims_203 ?_
    refine w_cVV (As := [.int ((σ20.2 3) x6.toNatClampNeg), .int (r25 - ((σ24.2 17) r21.toNatClampNeg))]) (rest := []) hB hw hl.1 (c_X1_put_13 l D ad ln cI σ24 ((σ20.2 3) x6.toNatClampNeg) (r25 - ((σ24.2 17) r21.toNatClampNeg)) _ hq) m341 m198 m416 m184 m30 rfl ok_X1_put_13 (okR_K (by decide) (by decide)) (q0 := 13) (ci := 1) rfl rfl rfl rfl (Nat.le_of_ble_eq_true rfl) dX0_placeVictims_204 (fun σ27 H locs hq hw => ?_)
    refine lv_aload_n hx hb dX0_placeVictims_207 rfl (lv_at hl 2 rfl) ?_
    refine gC_9_7 hB hw m120 dX0_placeVictims_208 ?_
    refine lv_iload hx hb dX0_placeVictims_211 (lv_at hl 1 rfl) ?_
    refine lv_dup2_11 hx hb dX0_placeVictims_213 rfl rfl ?_
    refine aC_17 (f := (σ27.2 17)) hB hw rfl h26 dX0_placeVictims_214 ?_
    refine lv_iload_n hx hb dX0_placeVictims_215 rfl (lv_at hl 0 rfl) ?_
    refine lv_isub hx hb dX0_placeVictims_216 ?_
    refine sC_17 hB hw h26 dX0_placeVictims_217 (fun H locs hw => ?_)
    refine lv_iinc (v := x5 + 1) (lv' := [(5, .int (x5 + 1)), (3, .int ((σ20.2 4) x6.toNatClampNeg)), (4, .int r21), (0, .ref (ad 9)), (1, .int x1), (2, .int x2), (6, .int x6)]) hx hb dX0_placeVictims_218 hl (k := 5) rfl rfl (by decide) rfl (fun ls hl => ?_)
    refine lv_goto (tgt := 88) hx hb dX0_placeVictims_221 (by decide) ?_
    exact hK1 (setA σ27 17 r21.toNatClampNeg (((σ27.2 17) r21.toNatClampNeg) - ((σ20.2 4) x6.toNatClampNeg))) ((σ20.2 4) x6.toNatClampNeg) r21 (x5 + 1) _ _ _ hq hw (lv_sub hl [3, 4, 5, 1, 2, 0] rfl)
  · replace hq := hq.2 c22
    refine lv_iconst (v := 0) hx hb dX0_placeVictims_160 (by decide) ?_
    exact w_zret hB hw rfl hq dX0_placeVictims_161
set_option maxHeartbeats 4000000 in
set_option maxRecDepth 100000 in
theorem wl_X0_placeVictims_88 {p : Program} {l : Launch} {e : Env} {s : State} {m : MethodId} {args : Array Value} {below : List Frame} {meth : Method} {c : Code} {D : va_G} {ad ln : Nat → Nat} {cI : ClassId} {A : Nat → Prop} {post : Int32 → CS → Prop}  {Kx : CS → Prop} {x1 x2 : Int32} (hB : MB p s m args meth c cX0_placeVictims 7 (some .boolean) RX0)  (hKx : ∀ (σ : CS) (H : Heap) (locs : List Loc) (ls : Array Slot), Kx σ  → WD D (tyC cI) (cellsC ad ln cI σ) A s H locs → lv_has ls 7 [] → W p l e (rmK 1) s m args below meth c H locs 0 0 (MQ below (va_Qi post (Pos0 D (tyC cI) (cellsC ad ln cI) A) A) args s 0 0 A) (F0 m 224 ls [])) :
    ∀ (n : Nat) (σ : CS) (x3 x4 x5 : Int32) (H : Heap) (locs : List Loc) (ls : Array Slot), lp_X0_placeVictims_88 ln post  Kx x1 x2 n σ x3 x4 x5 → WD D (tyC cI) (cellsC ad ln cI σ) A s H locs → lv_has ls 7 [(0, .ref (ad 9)), (1, .int x1), (2, .int x2), (3, .int x3), (4, .int x4), (5, .int x5)] → W p l e (rmK 1) s m args below meth c H locs 0 0 (MQ below (va_Qi post (Pos0 D (tyC cI) (cellsC ad ln cI) A) A) args s 0 0 A) (F0 m 88 ls []) := by
  obtain ⟨hx, hb, hr, hml, hown, hts, hlk⟩ := id hB
  intro n
  induction n with
  | zero => intro σ x3 x4 x5 H locs ls hq hw hl; exact hq.elim
  | succ n ih =>
    intro σ x3 x4 x5 H locs ls hq hw hl
    replace hq : lb_X0_placeVictims_88 ln post  Kx x1 x2 (lp_X0_placeVictims_88 ln post  Kx x1 x2 n) σ x3 x4 x5 := hq
    refine lv_iload hx hb dX0_placeVictims_88 (lv_at hl 5 rfl) ?_
    refine lv_aload_n hx hb dX0_placeVictims_90 rfl (lv_at hl 0 rfl) ?_
    refine gC_9_6 (x := σ.1 3) hB hw m128 rfl dX0_placeVictims_91 ?_
    refine lv_icmp_ge (tgt := 224) hx hb dX0_placeVictims_94 (by decide) (fun c13 => ?_) (fun c13 => ?_)
    · replace hq := hq.1 c13
      exact hKx σ _ _ _ hq hw (lv_sub hl [] rfl)
    · replace hq := hq.2 c13
      refine lv_aload_n hx hb dX0_placeVictims_97 rfl (lv_at hl 0 rfl) ?_
      refine gC_9_5 hB hw m119 dX0_placeVictims_98 ?_
      refine lv_iload hx hb dX0_placeVictims_101 (lv_at hl 5 rfl) ?_
      obtain ⟨h14, hq⟩ := hq
      refine aC_16 (f := (σ.2 16)) hB hw rfl h14 dX0_placeVictims_103 ?_
      refine lv_istore (lv' := [(6, .int ((σ.2 16) x5.toNatClampNeg)), (0, .ref (ad 9)), (1, .int x1), (2, .int x2), (3, .int x3), (4, .int x4), (5, .int x5)]) hx hb dX0_placeVictims_104 hl (by decide) rfl (fun ls hl => ?_)
      refine lv_iload hx hb dX0_placeVictims_106 (lv_at hl 0 rfl) ?_
      refine lv_iload_n hx hb dX0_placeVictims_108 rfl (lv_at hl 2 rfl) ?_
      refine lv_icmp_lt (tgt := 218) hx hb dX0_placeVictims_109 (by decide) (fun c15 => ?_) (fun c15 => ?_)
      · replace hq := hq.1 c15
        refine lv_iinc (v := x5 + 1) (lv' := [(5, .int (x5 + 1)), (6, .int ((σ.2 16) x5.toNatClampNeg)), (0, .ref (ad 9)), (1, .int x1), (2, .int x2), (3, .int x3), (4, .int x4)]) hx hb dX0_placeVictims_218 hl (k := 6) rfl rfl (by decide) rfl (fun ls hl => ?_)
        refine lv_goto (tgt := 88) hx hb dX0_placeVictims_221 (by decide) ?_
        exact ih σ x3 x4 (x5 + 1) _ _ _ hq hw (lv_sub hl [2, 3, 4, 5, 6, 0] rfl)
      · replace hq := hq.2 c15
        refine lv_iload hx hb dX0_placeVictims_112 (lv_at hl 0 rfl) ?_
        refine lv_iload_n hx hb dX0_placeVictims_114 rfl (lv_at hl 3 rfl) ?_
        refine lv_icmp_ge (tgt := 218) hx hb dX0_placeVictims_115 (by decide) (fun c16 => ?_) (fun c16 => ?_)
        · replace hq := hq.1 c16
          refine lv_iinc (v := x5 + 1) (lv' := [(5, .int (x5 + 1)), (6, .int ((σ.2 16) x5.toNatClampNeg)), (0, .ref (ad 9)), (1, .int x1), (2, .int x2), (3, .int x3), (4, .int x4)]) hx hb dX0_placeVictims_218 hl (k := 6) rfl rfl (by decide) rfl (fun ls hl => ?_)
          refine lv_goto (tgt := 88) hx hb dX0_placeVictims_221 (by decide) ?_
          exact ih σ x3 x4 (x5 + 1) _ _ _ hq hw (lv_sub hl [2, 3, 4, 5, 6, 0] rfl)
        · replace hq := hq.2 c16
          refine lv_aload_n hx hb dX0_placeVictims_118 rfl (lv_at hl 1 rfl) ?_
          refine lv_aload_n hx hb dX0_placeVictims_119 rfl (lv_at hl 1 rfl) ?_
          refine gC_9_3 hB hw m116 dX0_placeVictims_120 ?_
          refine gC_2_1 hB hw m125 dX0_placeVictims_123 ?_
          refine lv_iload hx hb dX0_placeVictims_126 (lv_at hl 0 rfl) ?_
          obtain ⟨h17, hq⟩ := hq
          refine aC_4 (f := (σ.2 4)) hB hw rfl h17 dX0_placeVictims_128 ?_
          refine lv_iload_n hx hb dX0_placeVictims_129 rfl (lv_at hl 4 rfl) ?_
          refine lv_icmp_ne (tgt := 138) hx hb dX0_placeVictims_130 (by decide) (fun c18 => ?_) (fun c18 => ?_)
          · replace hq := hq.1 c18
            refine lv_iconst (v := 0) hx hb dX0_placeVictims_138 (by decide) ?_
            exact wj_X0_placeVictims_139 hB σ x1 x2 x5 ((σ.2 16) x5.toNatClampNeg) 0 _ _ _ ih hq hw (lv_sub hl [1, 2, 3, 6, 0] rfl)
          · replace hq := hq.2 c18
            refine lv_iload hx hb dX0_placeVictims_133 (lv_at hl 5 rfl) ?_
            refine lv_goto (tgt := 139) hx hb dX0_placeVictims_135 (by decide) ?_
            exact wj_X0_placeVictims_139 hB σ x1 x2 x5 ((σ.2 16) x5.toNatClampNeg) x4 _ _ _ ih hq hw (lv_sub hl [1, 2, 3, 6, 0] rfl)
set_option maxHeartbeats 4000000 in
set_option maxRecDepth 100000 in
theorem c_X0_placeVictims (l : Launch) (D : va_G) (ad ln : Nat → Nat) (cI : ClassId) (σ : CS) (p1 p2 : Int32) (post : Int32 → CS → Prop) (hq : wp_X0_placeVictims ln σ p1 p2 post) : MtI l D (tyC cI) (cellsC ad ln cI) yX0_placeVictims cX0_placeVictims 7 (some .boolean) (rmK 1) [.ref (ad 9), .int p1, .int p2] σ post := by
  refine MtI_of (by decide) (Nat.le_of_ble_eq_true rfl) ?_
  intro p e s m below meth c A ls hB hw hl
  replace hB : MB p s m _ meth c cX0_placeVictims 7 (some .boolean) RX0 := hB
  replace hl : lv_has ls 7 [(0, .ref (ad 9)), (1, .int p1), (2, .int p2)] := hl
  obtain ⟨hx, hb, hr, hml, hown, hts, hlk⟩ := id hB
  unfold wp_X0_placeVictims at hq
  refine lv_aload_n hx hb dX0_placeVictims_0 rfl (lv_at hl 0 rfl) ?_
  refine gC_9_4 hB hw m118 dX0_placeVictims_1 ?_
  refine lv_iconst (v := 0) hx hb dX0_placeVictims_4 (by decide) ?_
  refine pC_13_2 hB hw m122 dX0_placeVictims_5 (fun H locs hw => ?_)
  refine lv_iconst (v := 0) hx hb dX0_placeVictims_8 (by decide) ?_
  refine lv_istore_n (lv' := [(3, .int 0), (0, .ref (ad 9)), (1, .int p1), (2, .int p2)]) hx hb dX0_placeVictims_9 rfl hl (by decide) rfl (fun ls hl => ?_)
  obtain ⟨n11, hq⟩ := hq
  refine wl_X0_placeVictims_10 hB  (fun σ12 H locs ls hq hw hl => ?_) n11 (setF σ 5 0) 0 _ _ _ hq hw (lv_sub hl [1, 2, 3, 0] rfl)
  refine lv_iconst (v := 0) hx hb dX0_placeVictims_80 (by decide) ?_
  refine lv_istore_n (lv' := [(3, .int 0), (0, .ref (ad 9)), (1, .int p1), (2, .int p2)]) hx hb dX0_placeVictims_81 rfl hl (by decide) rfl (fun ls hl => ?_)
  refine lv_iconst (v := 0) hx hb dX0_placeVictims_82 (by decide) ?_
  refine lv_istore (lv' := [(4, .int 0), (3, .int 0), (0, .ref (ad 9)), (1, .int p1), (2, .int p2)]) hx hb dX0_placeVictims_83 hl (by decide) rfl (fun ls hl => ?_)
  refine lv_iconst (v := 0) hx hb dX0_placeVictims_85 (by decide) ?_
  refine lv_istore (lv' := [(5, .int 0), (4, .int 0), (3, .int 0), (0, .ref (ad 9)), (1, .int p1), (2, .int p2)]) hx hb dX0_placeVictims_86 hl (by decide) rfl (fun ls hl => ?_)
  obtain ⟨n28, hq⟩ := hq
  refine wl_X0_placeVictims_88 hB  (fun σ29 H locs ls hq hw hl => ?_) n28 σ12 0 0 0 _ _ _ hq hw (lv_sub hl [3, 4, 5, 2, 1, 0] rfl)
  refine lv_iconst (v := 1) hx hb dX0_placeVictims_224 (by decide) ?_
  exact w_zret hB hw rfl hq dX0_placeVictims_225
theorem ok_X0_placeVictims : okY yX0_placeVictims 2 := ⟨by decide, by decide, by decide +kernel⟩
/-! X0_search -/
def lb_X0_search_42 (ln : Nat → Nat) (post : CS → Prop)  (Kx : CS → Int32 → Int32 → Int32 → Prop) (x1 x2 x6 : Int32) (Kb : CS → Int32 → Int32 → Int32 → Prop) (σ : CS) (x3 x4 x5 : Int32) : Prop :=
  (((σ.1 0) ≤ x3 → Kx σ x3 x4 x5) ∧ (¬ (σ.1 0) ≤ x3 → ((x1 ≤ x4 → Kx σ x3 x4 x5) ∧ (¬ x1 ≤ x4 → (vp_in x3 (ln 5) ∧ ((((σ.2 5) x3.toNatClampNeg) = 2 → Kx σ x3 x4 x5) ∧ (¬ ((σ.2 5) x3.toNatClampNeg) = 2 → (vp_in x3 (ln 4) ∧ ((¬ ((σ.2 5) x3.toNatClampNeg) = 1 → Kb σ (x3 + 1) (x4 + ((σ.2 4) x3.toNatClampNeg)) (x5 + 0)) ∧ (((σ.2 5) x3.toNatClampNeg) = 1 → Kb σ (x3 + 1) (x4 + ((σ.2 4) x3.toNatClampNeg)) (x5 + 1)))))))))))
def lp_X0_search_42 (ln : Nat → Nat) (post : CS → Prop)  (Kx : CS → Int32 → Int32 → Int32 → Prop) (x1 x2 x6 : Int32) : Nat → CS → Int32 → Int32 → Int32 → Prop
  | 0 => fun _ _ _ _ => False
  | n + 1 => lb_X0_search_42 ln post  Kx x1 x2 x6 (lp_X0_search_42 ln post  Kx x1 x2 x6 n)
def jp_X0_search_210 (ln : Nat → Nat) (post : CS → Prop) (K1 : CS → Int32 → Int32 → Int32 → Int32 → Prop) (σ : CS) (x1 x2 x3 x4 x5 x6 : Int32) : Prop :=
  ((x3 ≤ x6 → K1 σ x3 x4 x5 (x6 + 1)) ∧ (¬ x3 ≤ x6 → (vp_in x6 (ln 4) ∧ (vp_in x6 (ln 5) ∧ ((¬ ((σ.2 5) x6.toNatClampNeg) = 1 → K1 σ x3 (x4 - ((σ.2 4) x6.toNatClampNeg)) (x5 - 0) (x6 + 1)) ∧ (((σ.2 5) x6.toNatClampNeg) = 1 → K1 σ x3 (x4 - ((σ.2 4) x6.toNatClampNeg)) (x5 - 1) (x6 + 1)))))))
def jp_X0_search_160 (ln : Nat → Nat) (post : CS → Prop) (K1 : CS → Int32 → Int32 → Int32 → Int32 → Prop) (σ : CS) (x1 x2 x3 x4 x5 x6 x7 x8 : Int32) : Prop :=
  ((x7 = 0 → jp_X0_search_210 ln post K1 σ x1 x2 x3 x4 x5 x6) ∧ (¬ x7 = 0 → ((x8 = 0 → jp_X0_search_210 ln post K1 σ x1 x2 x3 x4 x5 x6) ∧ (¬ x8 = 0 → wp_X0_placeVictims ln σ x6 x3 (fun r25 σ24 => ((r25 = 0 → jp_X0_search_210 ln post K1 σ24 x1 x2 x3 x4 x5 x6) ∧ (¬ r25 = 0 → (vp_in x6 (ln 3) ∧ wp_X1_takeOver_10 ln (setF (setF σ24 1 1) 2 ((σ24.2 3) x6.toNatClampNeg)) (fun σ28 => jp_X0_search_210 ln post K1 σ28 x1 x2 x3 x4 x5 x6)))))))))
def jp_X0_search_134 (ln : Nat → Nat) (post : CS → Prop) (K1 : CS → Int32 → Int32 → Int32 → Int32 → Prop) (σ : CS) (x1 x2 x3 x4 x5 x6 x7 : Int32) : Prop :=
  (((σ.1 1) = 0 → jp_X0_search_160 ln post K1 σ x1 x2 x3 x4 x5 x6 x7 1) ∧ (¬ (σ.1 1) = 0 → (((σ.1 4) ≤ x5 → jp_X0_search_160 ln post K1 σ x1 x2 x3 x4 x5 x6 x7 0) ∧ (¬ (σ.1 4) ≤ x5 → jp_X0_search_160 ln post K1 σ x1 x2 x3 x4 x5 x6 x7 1))))
def lb_X0_search_23 (ln : Nat → Nat) (post : CS → Prop)  (Kx : CS → Prop) (x1 x2 : Int32) (Kb : CS → Int32 → Int32 → Int32 → Int32 → Prop) (σ : CS) (x3 x4 x5 x6 : Int32) : Prop :=
  (((σ.1 0) ≤ x6 → Kx σ) ∧ (¬ (σ.1 0) ≤ x6 → (∃ n11 : Nat, lp_X0_search_42 ln post  (fun σ12 x3_13 x4_14 x5_15 => ((x4_14 < x1 → jp_X0_search_134 ln post Kb σ12 x1 x2 x3_13 x4_14 x5_15 x6 0) ∧ (¬ x4_14 < x1 → ((x2 < x4_14 → jp_X0_search_134 ln post Kb σ12 x1 x2 x3_13 x4_14 x5_15 x6 0) ∧ (¬ x2 < x4_14 → jp_X0_search_134 ln post Kb σ12 x1 x2 x3_13 x4_14 x5_15 x6 1))))) x1 x2 x6 n11 σ (if x3 < x6 then x6 else x3) x4 x5)))
def lp_X0_search_23 (ln : Nat → Nat) (post : CS → Prop)  (Kx : CS → Prop) (x1 x2 : Int32) : Nat → CS → Int32 → Int32 → Int32 → Int32 → Prop
  | 0 => fun _ _ _ _ _ => False
  | n + 1 => lb_X0_search_23 ln post  Kx x1 x2 (lp_X0_search_23 ln post  Kx x1 x2 n)
def wp_X0_search (ln : Nat → Nat) (σ : CS) (p1 : Int32) (post : CS → Prop) : Prop :=
  wp_X0_rankMovables ln σ (fun σ1 => wp_X2_freeWords ln σ1 (fun r3 σ2 => (∃ n31 : Nat, lp_X0_search_23 ln post  (fun σ32 => post σ32) p1 r3 n31 σ2 0 0 0 0)))
set_option maxHeartbeats 4000000 in
set_option maxRecDepth 100000 in
theorem wl_X0_search_42 {p : Program} {l : Launch} {e : Env} {s : State} {m : MethodId} {args : Array Value} {below : List Frame} {meth : Method} {c : Code} {D : va_G} {ad ln : Nat → Nat} {cI : ClassId} {A : Nat → Prop} {post : CS → Prop}  {Kx : CS → Int32 → Int32 → Int32 → Prop} {x1 x2 x6 : Int32} (hB : MB p s m args meth c cX0_search 9 none RX0)  (hKx : ∀ (σ : CS) (x3 x4 x5 : Int32) (H : Heap) (locs : List Loc) (ls : Array Slot), Kx σ x3 x4 x5 → WD D (tyC cI) (cellsC ad ln cI σ) A s H locs → lv_has ls 9 [(0, .ref (ad 9)), (1, .int x1), (2, .int x2), (3, .int x3), (4, .int x4), (5, .int x5), (6, .int x6)] → W p l e (rmK 2) s m args below meth c H locs 0 0 (MQ below (va_Qv post (Pos0 D (tyC cI) (cellsC ad ln cI) A) A) args s 0 0 A) (F0 m 115 ls [])) :
    ∀ (n : Nat) (σ : CS) (x3 x4 x5 : Int32) (H : Heap) (locs : List Loc) (ls : Array Slot), lp_X0_search_42 ln post  Kx x1 x2 x6 n σ x3 x4 x5 → WD D (tyC cI) (cellsC ad ln cI σ) A s H locs → lv_has ls 9 [(0, .ref (ad 9)), (1, .int x1), (2, .int x2), (3, .int x3), (4, .int x4), (5, .int x5), (6, .int x6)] → W p l e (rmK 2) s m args below meth c H locs 0 0 (MQ below (va_Qv post (Pos0 D (tyC cI) (cellsC ad ln cI) A) A) args s 0 0 A) (F0 m 42 ls []) := by
  obtain ⟨hx, hb, hr, hml, hown, hts, hlk⟩ := id hB
  intro n
  induction n with
  | zero => intro σ x3 x4 x5 H locs ls hq hw hl; exact hq.elim
  | succ n ih =>
    intro σ x3 x4 x5 H locs ls hq hw hl
    replace hq : lb_X0_search_42 ln post  Kx x1 x2 x6 (lp_X0_search_42 ln post  Kx x1 x2 x6 n) σ x3 x4 x5 := hq
    refine lv_iload_n hx hb dX0_search_42 rfl (lv_at hl 3 rfl) ?_
    refine lv_aload_n hx hb dX0_search_43 rfl (lv_at hl 0 rfl) ?_
    refine gC_9_3 hB hw m116 dX0_search_44 ?_
    refine gC_2_3 (x := σ.1 0) hB hw m123 rfl dX0_search_47 ?_
    refine lv_icmp_ge (tgt := 115) hx hb dX0_search_50 (by decide) (fun c5 => ?_) (fun c5 => ?_)
    · replace hq := hq.1 c5
      exact hKx σ x3 x4 x5 _ _ _ hq hw (lv_sub hl [0, 1, 2, 3, 4, 5, 6] rfl)
    · replace hq := hq.2 c5
      refine lv_iload hx hb dX0_search_53 (lv_at hl 4 rfl) ?_
      refine lv_iload_n hx hb dX0_search_55 rfl (lv_at hl 1 rfl) ?_
      refine lv_icmp_ge (tgt := 115) hx hb dX0_search_56 (by decide) (fun c6 => ?_) (fun c6 => ?_)
      · replace hq := hq.1 c6
        exact hKx σ x3 x4 x5 _ _ _ hq hw (lv_sub hl [0, 1, 2, 3, 4, 5, 6] rfl)
      · replace hq := hq.2 c6
        refine lv_aload_n hx hb dX0_search_59 rfl (lv_at hl 0 rfl) ?_
        refine gC_9_3 hB hw m116 dX0_search_60 ?_
        refine gC_2_2 hB hw m124 dX0_search_63 ?_
        refine lv_iload_n hx hb dX0_search_66 rfl (lv_at hl 3 rfl) ?_
        obtain ⟨h7, hq⟩ := hq
        refine aC_5 (f := (σ.2 5)) hB hw rfl h7 dX0_search_67 ?_
        refine lv_iconst (v := 2) hx hb dX0_search_68 (by decide) ?_
        refine lv_icmp_eq (tgt := 115) hx hb dX0_search_69 (by decide) (fun c8 => ?_) (fun c8 => ?_)
        · replace hq := hq.1 c8
          exact hKx σ x3 x4 x5 _ _ _ hq hw (lv_sub hl [0, 1, 2, 3, 4, 5, 6] rfl)
        · replace hq := hq.2 c8
          refine lv_iload hx hb dX0_search_72 (lv_at hl 4 rfl) ?_
          refine lv_aload_n hx hb dX0_search_74 rfl (lv_at hl 0 rfl) ?_
          refine gC_9_3 hB hw m116 dX0_search_75 ?_
          refine gC_2_1 hB hw m125 dX0_search_78 ?_
          refine lv_iload_n hx hb dX0_search_81 rfl (lv_at hl 3 rfl) ?_
          obtain ⟨h9, hq⟩ := hq
          refine aC_4 (f := (σ.2 4)) hB hw rfl h9 dX0_search_82 ?_
          refine lv_iadd hx hb dX0_search_83 ?_
          refine lv_istore (lv' := [(4, .int (x4 + ((σ.2 4) x3.toNatClampNeg))), (0, .ref (ad 9)), (1, .int x1), (2, .int x2), (3, .int x3), (5, .int x5), (6, .int x6)]) hx hb dX0_search_84 hl (by decide) rfl (fun ls hl => ?_)
          refine lv_iload hx hb dX0_search_86 (lv_at hl 5 rfl) ?_
          refine lv_aload_n hx hb dX0_search_88 rfl (lv_at hl 1 rfl) ?_
          refine gC_9_3 hB hw m116 dX0_search_89 ?_
          refine gC_2_2 hB hw m124 dX0_search_92 ?_
          refine lv_iload_n hx hb dX0_search_95 rfl (lv_at hl 4 rfl) ?_
          refine aC_5 (f := (σ.2 5)) hB hw rfl h7 dX0_search_96 ?_
          refine lv_iconst (v := 1) hx hb dX0_search_97 (by decide) ?_
          refine lv_icmp_ne (tgt := 105) hx hb dX0_search_98 (by decide) (fun c10 => ?_) (fun c10 => ?_)
          · replace hq := hq.1 c10
            refine lv_iconst (v := 0) hx hb dX0_search_105 (by decide) ?_
            refine lv_iadd hx hb dX0_search_106 ?_
            refine lv_istore (lv' := [(5, .int (x5 + 0)), (4, .int (x4 + ((σ.2 4) x3.toNatClampNeg))), (0, .ref (ad 9)), (1, .int x1), (2, .int x2), (3, .int x3), (6, .int x6)]) hx hb dX0_search_107 hl (by decide) rfl (fun ls hl => ?_)
            refine lv_iinc (v := x3 + 1) (lv' := [(3, .int (x3 + 1)), (5, .int (x5 + 0)), (4, .int (x4 + ((σ.2 4) x3.toNatClampNeg))), (0, .ref (ad 9)), (1, .int x1), (2, .int x2), (6, .int x6)]) hx hb dX0_search_109 hl (k := 5) rfl rfl (by decide) rfl (fun ls hl => ?_)
            refine lv_goto (tgt := 42) hx hb dX0_search_112 (by decide) ?_
            exact ih σ (x3 + 1) (x4 + ((σ.2 4) x3.toNatClampNeg)) (x5 + 0) _ _ _ hq hw (lv_sub hl [3, 4, 5, 0, 2, 1, 6] rfl)
          · replace hq := hq.2 c10
            refine lv_iconst (v := 1) hx hb dX0_search_101 (by decide) ?_
            refine lv_goto (tgt := 106) hx hb dX0_search_102 (by decide) ?_
            refine lv_iadd hx hb dX0_search_106 ?_
            refine lv_istore (lv' := [(5, .int (x5 + 1)), (4, .int (x4 + ((σ.2 4) x3.toNatClampNeg))), (0, .ref (ad 9)), (1, .int x1), (2, .int x2), (3, .int x3), (6, .int x6)]) hx hb dX0_search_107 hl (by decide) rfl (fun ls hl => ?_)
            refine lv_iinc (v := x3 + 1) (lv' := [(3, .int (x3 + 1)), (5, .int (x5 + 1)), (4, .int (x4 + ((σ.2 4) x3.toNatClampNeg))), (0, .ref (ad 9)), (1, .int x1), (2, .int x2), (6, .int x6)]) hx hb dX0_search_109 hl (k := 5) rfl rfl (by decide) rfl (fun ls hl => ?_)
            refine lv_goto (tgt := 42) hx hb dX0_search_112 (by decide) ?_
            exact ih σ (x3 + 1) (x4 + ((σ.2 4) x3.toNatClampNeg)) (x5 + 1) _ _ _ hq hw (lv_sub hl [3, 4, 5, 0, 2, 1, 6] rfl)
set_option maxHeartbeats 4000000 in
set_option maxRecDepth 100000 in
theorem wj_X0_search_210 {p : Program} {l : Launch} {e : Env} {s : State} {m : MethodId} {args : Array Value} {below : List Frame} {meth : Method} {c : Code} {D : va_G} {ad ln : Nat → Nat} {cI : ClassId} {A : Nat → Prop} {post : CS → Prop} {K1 : CS → Int32 → Int32 → Int32 → Int32 → Prop} (hB : MB p s m args meth c cX0_search 9 none RX0) (σ : CS) (x1 x2 x3 x4 x5 x6 : Int32) (H : Heap) (locs : List Loc) (ls : Array Slot) (hK1 : ∀ (σ : CS) (x3 x4 x5 x6 : Int32) (H : Heap) (locs : List Loc) (ls : Array Slot), K1 σ x3 x4 x5 x6 → WD D (tyC cI) (cellsC ad ln cI σ) A s H locs → lv_has ls 9 [(0, .ref (ad 9)), (1, .int x1), (2, .int x2), (3, .int x3), (4, .int x4), (5, .int x5), (6, .int x6)] → W p l e (rmK 2) s m args below meth c H locs 0 0 (MQ below (va_Qv post (Pos0 D (tyC cI) (cellsC ad ln cI) A) A) args s 0 0 A) (F0 m 23 ls [])) (hq : jp_X0_search_210 ln post K1 σ x1 x2 x3 x4 x5 x6) (hw : WD D (tyC cI) (cellsC ad ln cI σ) A s H locs) (hl : lv_has ls 9 [(0, .ref (ad 9)), (1, .int x1), (2, .int x2), (3, .int x3), (4, .int x4), (5, .int x5), (6, .int x6)]) : W p l e (rmK 2) s m args below meth c H locs 0 0 (MQ below (va_Qv post (Pos0 D (tyC cI) (cellsC ad ln cI) A) A) args s 0 0 A) (F0 m 210 ls []) := by
  obtain ⟨hx, hb, hr, hml, hown, hts, hlk⟩ := id hB
  unfold jp_X0_search_210 at hq
  refine lv_iload hx hb dX0_search_210 (lv_at hl 6 rfl) ?_
  refine lv_iload_n hx hb dX0_search_212 rfl (lv_at hl 3 rfl) ?_
  refine lv_icmp_ge (tgt := 255) hx hb dX0_search_213 (by decide) (fun c19 => ?_) (fun c19 => ?_)
  · replace hq := hq.1 c19
    refine lv_iinc (v := x6 + 1) (lv' := [(6, .int (x6 + 1)), (0, .ref (ad 9)), (1, .int x1), (2, .int x2), (3, .int x3), (4, .int x4), (5, .int x5)]) hx hb dX0_search_255 hl (k := 6) rfl rfl (by decide) rfl (fun ls hl => ?_)
    refine lv_goto (tgt := 23) hx hb dX0_search_258 (by decide) ?_
    exact hK1 σ x3 x4 x5 (x6 + 1) _ _ _ hq hw (lv_sub hl [1, 2, 3, 4, 5, 6, 0] rfl)
  · replace hq := hq.2 c19
    refine lv_iload hx hb dX0_search_216 (lv_at hl 4 rfl) ?_
    refine lv_aload_n hx hb dX0_search_218 rfl (lv_at hl 0 rfl) ?_
    refine gC_9_3 hB hw m116 dX0_search_219 ?_
    refine gC_2_1 hB hw m125 dX0_search_222 ?_
    refine lv_iload hx hb dX0_search_225 (lv_at hl 6 rfl) ?_
    obtain ⟨h20, hq⟩ := hq
    refine aC_4 (f := (σ.2 4)) hB hw rfl h20 dX0_search_227 ?_
    refine lv_isub hx hb dX0_search_228 ?_
    refine lv_istore (lv' := [(4, .int (x4 - ((σ.2 4) x6.toNatClampNeg))), (0, .ref (ad 9)), (1, .int x1), (2, .int x2), (3, .int x3), (5, .int x5), (6, .int x6)]) hx hb dX0_search_229 hl (by decide) rfl (fun ls hl => ?_)
    refine lv_iload hx hb dX0_search_231 (lv_at hl 5 rfl) ?_
    refine lv_aload_n hx hb dX0_search_233 rfl (lv_at hl 1 rfl) ?_
    refine gC_9_3 hB hw m116 dX0_search_234 ?_
    refine gC_2_2 hB hw m124 dX0_search_237 ?_
    refine lv_iload hx hb dX0_search_240 (lv_at hl 6 rfl) ?_
    obtain ⟨h21, hq⟩ := hq
    refine aC_5 (f := (σ.2 5)) hB hw rfl h21 dX0_search_242 ?_
    refine lv_iconst (v := 1) hx hb dX0_search_243 (by decide) ?_
    refine lv_icmp_ne (tgt := 251) hx hb dX0_search_244 (by decide) (fun c22 => ?_) (fun c22 => ?_)
    · replace hq := hq.1 c22
      refine lv_iconst (v := 0) hx hb dX0_search_251 (by decide) ?_
      refine lv_isub hx hb dX0_search_252 ?_
      refine lv_istore (lv' := [(5, .int (x5 - 0)), (4, .int (x4 - ((σ.2 4) x6.toNatClampNeg))), (0, .ref (ad 9)), (1, .int x1), (2, .int x2), (3, .int x3), (6, .int x6)]) hx hb dX0_search_253 hl (by decide) rfl (fun ls hl => ?_)
      refine lv_iinc (v := x6 + 1) (lv' := [(6, .int (x6 + 1)), (5, .int (x5 - 0)), (4, .int (x4 - ((σ.2 4) x6.toNatClampNeg))), (0, .ref (ad 9)), (1, .int x1), (2, .int x2), (3, .int x3)]) hx hb dX0_search_255 hl (k := 6) rfl rfl (by decide) rfl (fun ls hl => ?_)
      refine lv_goto (tgt := 23) hx hb dX0_search_258 (by decide) ?_
      exact hK1 σ x3 (x4 - ((σ.2 4) x6.toNatClampNeg)) (x5 - 0) (x6 + 1) _ _ _ hq hw (lv_sub hl [3, 4, 5, 6, 2, 1, 0] rfl)
    · replace hq := hq.2 c22
      refine lv_iconst (v := 1) hx hb dX0_search_247 (by decide) ?_
      refine lv_goto (tgt := 252) hx hb dX0_search_248 (by decide) ?_
      refine lv_isub hx hb dX0_search_252 ?_
      refine lv_istore (lv' := [(5, .int (x5 - 1)), (4, .int (x4 - ((σ.2 4) x6.toNatClampNeg))), (0, .ref (ad 9)), (1, .int x1), (2, .int x2), (3, .int x3), (6, .int x6)]) hx hb dX0_search_253 hl (by decide) rfl (fun ls hl => ?_)
      refine lv_iinc (v := x6 + 1) (lv' := [(6, .int (x6 + 1)), (5, .int (x5 - 1)), (4, .int (x4 - ((σ.2 4) x6.toNatClampNeg))), (0, .ref (ad 9)), (1, .int x1), (2, .int x2), (3, .int x3)]) hx hb dX0_search_255 hl (k := 6) rfl rfl (by decide) rfl (fun ls hl => ?_)
      refine lv_goto (tgt := 23) hx hb dX0_search_258 (by decide) ?_
      exact hK1 σ x3 (x4 - ((σ.2 4) x6.toNatClampNeg)) (x5 - 1) (x6 + 1) _ _ _ hq hw (lv_sub hl [3, 4, 5, 6, 2, 1, 0] rfl)
set_option maxHeartbeats 4000000 in
set_option maxRecDepth 100000 in
theorem wj_X0_search_160 {p : Program} {l : Launch} {e : Env} {s : State} {m : MethodId} {args : Array Value} {below : List Frame} {meth : Method} {c : Code} {D : va_G} {ad ln : Nat → Nat} {cI : ClassId} {A : Nat → Prop} {post : CS → Prop} {K1 : CS → Int32 → Int32 → Int32 → Int32 → Prop} (hB : MB p s m args meth c cX0_search 9 none RX0) (σ : CS) (x1 x2 x3 x4 x5 x6 x7 x8 : Int32) (H : Heap) (locs : List Loc) (ls : Array Slot) (hK1 : ∀ (σ : CS) (x3 x4 x5 x6 : Int32) (H : Heap) (locs : List Loc) (ls : Array Slot), K1 σ x3 x4 x5 x6 → WD D (tyC cI) (cellsC ad ln cI σ) A s H locs → lv_has ls 9 [(0, .ref (ad 9)), (1, .int x1), (2, .int x2), (3, .int x3), (4, .int x4), (5, .int x5), (6, .int x6)] → W p l e (rmK 2) s m args below meth c H locs 0 0 (MQ below (va_Qv post (Pos0 D (tyC cI) (cellsC ad ln cI) A) A) args s 0 0 A) (F0 m 23 ls [])) (hq : jp_X0_search_160 ln post K1 σ x1 x2 x3 x4 x5 x6 x7 x8) (hw : WD D (tyC cI) (cellsC ad ln cI σ) A s H locs) (hl : lv_has ls 9 [(0, .ref (ad 9)), (1, .int x1), (2, .int x2), (3, .int x3), (4, .int x4), (5, .int x5), (6, .int x6), (7, .int x7), (8, .int x8)]) : W p l e (rmK 2) s m args below meth c H locs 0 0 (MQ below (va_Qv post (Pos0 D (tyC cI) (cellsC ad ln cI) A) A) args s 0 0 A) (F0 m 160 ls []) := by
  obtain ⟨hx, hb, hr, hml, hown, hts, hlk⟩ := id hB
  unfold jp_X0_search_160 at hq
  refine lv_iload hx hb dX0_search_160 (lv_at hl 7 rfl) ?_
  refine lv_if_eq (tgt := 210) hx hb dX0_search_162 (by decide) (fun c18 => ?_) (fun c18 => ?_)
  · replace hq := hq.1 c18
    exact wj_X0_search_210 hB σ x1 x2 x3 x4 x5 x6 _ _ _ hK1 hq hw (lv_sub hl [0, 1, 2, 3, 4, 5, 6] rfl)
  · replace hq := hq.2 c18
    refine lv_iload hx hb dX0_search_165 (lv_at hl 8 rfl) ?_
    refine lv_if_eq (tgt := 210) hx hb dX0_search_167 (by decide) (fun c23 => ?_) (fun c23 => ?_)
    · replace hq := hq.1 c23
      exact wj_X0_search_210 hB σ x1 x2 x3 x4 x5 x6 _ _ _ hK1 hq hw (lv_sub hl [0, 1, 2, 3, 4, 5, 6] rfl)
    · replace hq := hq.2 c23
      refine lv_aload_n hx hb dX0_search_170 rfl (lv_at hl 0 rfl) ?_
      refine lv_iload hx hb dX0_search_171 (lv_at hl 6 rfl) ?_
      refine lv_iload_n hx hb dX0_search_173 rfl (lv_at hl 3 rfl) ?_
      refine w_cVI (As := [.int x6, .int x3]) (rest := []) hB hw hl.1 (c_X0_placeVictims l D ad ln cI σ x6 x3 _ hq) m336 m193 m412 m183 m25 rfl ok_X0_placeVictims (okR_K (by decide) (by decide)) (q0 := 9) (ci := 0) rfl rfl rfl rfl (Nat.le_of_ble_eq_true rfl) dX0_search_174 (fun r25 σ24 H locs hq hw => ?_)
      refine lv_if_eq (tgt := 210) hx hb dX0_search_177 (by decide) (fun c26 => ?_) (fun c26 => ?_)
      · replace hq := hq.1 c26
        exact wj_X0_search_210 hB σ24 x1 x2 x3 x4 x5 x6 _ _ _ hK1 hq hw (lv_sub hl [0, 1, 2, 3, 4, 5, 6] rfl)
      · replace hq := hq.2 c26
        refine lv_aload_n hx hb dX0_search_180 rfl (lv_at hl 0 rfl) ?_
        refine lv_iconst (v := 1) hx hb dX0_search_181 (by decide) ?_
        refine pC_9_1 hB hw m121 rfl rfl dX0_search_182 (fun H locs hw => ?_)
        refine lv_aload_n hx hb dX0_search_185 rfl (lv_at hl 0 rfl) ?_
        refine lv_aload_n hx hb dX0_search_186 rfl (lv_at hl 0 rfl) ?_
        refine gC_9_3 hB hw m116 dX0_search_187 ?_
        refine gC_2_0 hB hw m126 dX0_search_190 ?_
        refine lv_iload hx hb dX0_search_193 (lv_at hl 6 rfl) ?_
        obtain ⟨h27, hq⟩ := hq
        refine aC_3 (f := (σ24.2 3)) hB hw rfl h27 dX0_search_195 ?_
        refine pC_9_2 hB hw m127 dX0_search_196 (fun H locs hw => ?_)
        refine lv_aload_n hx hb dX0_search_199 rfl (lv_at hl 0 rfl) ?_
        refine gC_9_0 hB hw m117 dX0_search_200 ?_
        refine lv_aload_n hx hb dX0_search_203 rfl (lv_at hl 0 rfl) ?_
        refine gC_9_4 hB hw m118 dX0_search_204 ?_
        refine w_cVV (As := [.ref (ad 13)]) (rest := []) hB hw hl.1 (c_X1_takeOver_10 l D ad ln cI (setF (setF σ24 1 1) 2 ((σ24.2 3) x6.toNatClampNeg)) _ hq) m337 m199 m417 m184 m31 rfl ok_X1_takeOver_10 (okR_K (by decide) (by decide)) (q0 := 10) (ci := 1) rfl rfl rfl rfl (Nat.le_of_ble_eq_true rfl) dX0_search_207 (fun σ28 H locs hq hw => ?_)
        exact wj_X0_search_210 hB σ28 x1 x2 x3 x4 x5 x6 _ _ _ hK1 hq hw (lv_sub hl [0, 1, 2, 3, 4, 5, 6] rfl)
set_option maxHeartbeats 4000000 in
set_option maxRecDepth 100000 in
theorem wj_X0_search_134 {p : Program} {l : Launch} {e : Env} {s : State} {m : MethodId} {args : Array Value} {below : List Frame} {meth : Method} {c : Code} {D : va_G} {ad ln : Nat → Nat} {cI : ClassId} {A : Nat → Prop} {post : CS → Prop} {K1 : CS → Int32 → Int32 → Int32 → Int32 → Prop} (hB : MB p s m args meth c cX0_search 9 none RX0) (σ : CS) (x1 x2 x3 x4 x5 x6 x7 : Int32) (H : Heap) (locs : List Loc) (ls : Array Slot) (hK1 : ∀ (σ : CS) (x3 x4 x5 x6 : Int32) (H : Heap) (locs : List Loc) (ls : Array Slot), K1 σ x3 x4 x5 x6 → WD D (tyC cI) (cellsC ad ln cI σ) A s H locs → lv_has ls 9 [(0, .ref (ad 9)), (1, .int x1), (2, .int x2), (3, .int x3), (4, .int x4), (5, .int x5), (6, .int x6)] → W p l e (rmK 2) s m args below meth c H locs 0 0 (MQ below (va_Qv post (Pos0 D (tyC cI) (cellsC ad ln cI) A) A) args s 0 0 A) (F0 m 23 ls [])) (hq : jp_X0_search_134 ln post K1 σ x1 x2 x3 x4 x5 x6 x7) (hw : WD D (tyC cI) (cellsC ad ln cI σ) A s H locs) (hl : lv_has ls 9 [(0, .ref (ad 9)), (1, .int x1), (2, .int x2), (3, .int x3), (4, .int x4), (5, .int x5), (6, .int x6), (7, .int x7)]) : W p l e (rmK 2) s m args below meth c H locs 0 0 (MQ below (va_Qv post (Pos0 D (tyC cI) (cellsC ad ln cI) A) A) args s 0 0 A) (F0 m 134 ls []) := by
  obtain ⟨hx, hb, hr, hml, hown, hts, hlk⟩ := id hB
  unfold jp_X0_search_134 at hq
  refine lv_aload_n hx hb dX0_search_134 rfl (lv_at hl 0 rfl) ?_
  refine gC_9_1 (x := σ.1 1) hB hw m121 rfl dX0_search_135 ?_
  refine lv_if_eq (tgt := 153) hx hb dX0_search_138 (by decide) (fun c17 => ?_) (fun c17 => ?_)
  · replace hq := hq.1 c17
    refine lv_iconst (v := 1) hx hb dX0_search_153 (by decide) ?_
    refine lv_goto (tgt := 158) hx hb dX0_search_154 (by decide) ?_
    refine lv_istore (lv' := [(8, .int 1), (0, .ref (ad 9)), (1, .int x1), (2, .int x2), (3, .int x3), (4, .int x4), (5, .int x5), (6, .int x6), (7, .int x7)]) hx hb dX0_search_158 hl (by decide) rfl (fun ls hl => ?_)
    exact wj_X0_search_160 hB σ x1 x2 x3 x4 x5 x6 x7 1 _ _ _ hK1 hq hw (lv_sub hl [1, 2, 3, 4, 5, 6, 7, 8, 0] rfl)
  · replace hq := hq.2 c17
    refine lv_iload hx hb dX0_search_141 (lv_at hl 5 rfl) ?_
    refine lv_aload_n hx hb dX0_search_143 rfl (lv_at hl 0 rfl) ?_
    refine gC_9_0 hB hw m117 dX0_search_144 ?_
    refine gC_10_2 (x := σ.1 4) hB hw m122 rfl dX0_search_147 ?_
    refine lv_icmp_ge (tgt := 157) hx hb dX0_search_150 (by decide) (fun c29 => ?_) (fun c29 => ?_)
    · replace hq := hq.1 c29
      refine lv_iconst (v := 0) hx hb dX0_search_157 (by decide) ?_
      refine lv_istore (lv' := [(8, .int 0), (0, .ref (ad 9)), (1, .int x1), (2, .int x2), (3, .int x3), (4, .int x4), (5, .int x5), (6, .int x6), (7, .int x7)]) hx hb dX0_search_158 hl (by decide) rfl (fun ls hl => ?_)
      exact wj_X0_search_160 hB σ x1 x2 x3 x4 x5 x6 x7 0 _ _ _ hK1 hq hw (lv_sub hl [1, 2, 3, 4, 5, 6, 7, 8, 0] rfl)
    · replace hq := hq.2 c29
      refine lv_iconst (v := 1) hx hb dX0_search_153 (by decide) ?_
      refine lv_goto (tgt := 158) hx hb dX0_search_154 (by decide) ?_
      refine lv_istore (lv' := [(8, .int 1), (0, .ref (ad 9)), (1, .int x1), (2, .int x2), (3, .int x3), (4, .int x4), (5, .int x5), (6, .int x6), (7, .int x7)]) hx hb dX0_search_158 hl (by decide) rfl (fun ls hl => ?_)
      exact wj_X0_search_160 hB σ x1 x2 x3 x4 x5 x6 x7 1 _ _ _ hK1 hq hw (lv_sub hl [1, 2, 3, 4, 5, 6, 7, 8, 0] rfl)
set_option maxHeartbeats 4000000 in
set_option maxRecDepth 100000 in
theorem wl_X0_search_23 {p : Program} {l : Launch} {e : Env} {s : State} {m : MethodId} {args : Array Value} {below : List Frame} {meth : Method} {c : Code} {D : va_G} {ad ln : Nat → Nat} {cI : ClassId} {A : Nat → Prop} {post : CS → Prop}  {Kx : CS → Prop} {x1 x2 : Int32} (hB : MB p s m args meth c cX0_search 9 none RX0)  (hKx : ∀ (σ : CS) (H : Heap) (locs : List Loc) (ls : Array Slot), Kx σ  → WD D (tyC cI) (cellsC ad ln cI σ) A s H locs → lv_has ls 9 [] → W p l e (rmK 2) s m args below meth c H locs 0 0 (MQ below (va_Qv post (Pos0 D (tyC cI) (cellsC ad ln cI) A) A) args s 0 0 A) (F0 m 261 ls [])) :
    ∀ (n : Nat) (σ : CS) (x3 x4 x5 x6 : Int32) (H : Heap) (locs : List Loc) (ls : Array Slot), lp_X0_search_23 ln post  Kx x1 x2 n σ x3 x4 x5 x6 → WD D (tyC cI) (cellsC ad ln cI σ) A s H locs → lv_has ls 9 [(0, .ref (ad 9)), (1, .int x1), (2, .int x2), (3, .int x3), (4, .int x4), (5, .int x5), (6, .int x6)] → W p l e (rmK 2) s m args below meth c H locs 0 0 (MQ below (va_Qv post (Pos0 D (tyC cI) (cellsC ad ln cI) A) A) args s 0 0 A) (F0 m 23 ls []) := by
  obtain ⟨hx, hb, hr, hml, hown, hts, hlk⟩ := id hB
  intro n
  induction n with
  | zero => intro σ x3 x4 x5 x6 H locs ls hq hw hl; exact hq.elim
  | succ n ih =>
    intro σ x3 x4 x5 x6 H locs ls hq hw hl
    replace hq : lb_X0_search_23 ln post  Kx x1 x2 (lp_X0_search_23 ln post  Kx x1 x2 n) σ x3 x4 x5 x6 := hq
    refine lv_iload hx hb dX0_search_23 (lv_at hl 6 rfl) ?_
    refine lv_aload_n hx hb dX0_search_25 rfl (lv_at hl 0 rfl) ?_
    refine gC_9_3 hB hw m116 dX0_search_26 ?_
    refine gC_2_3 (x := σ.1 0) hB hw m123 rfl dX0_search_29 ?_
    refine lv_icmp_ge (tgt := 261) hx hb dX0_search_32 (by decide) (fun c4 => ?_) (fun c4 => ?_)
    · replace hq := hq.1 c4
      exact hKx σ _ _ _ hq hw (lv_sub hl [] rfl)
    · replace hq := hq.2 c4
      refine lv_iload_n hx hb dX0_search_35 rfl (lv_at hl 3 rfl) ?_
      refine lv_iload hx hb dX0_search_36 (lv_at hl 6 rfl) ?_
      refine m_max hB hl.1 m335 (Nat.le_of_ble_eq_true rfl) (Nat.le_of_ble_eq_true rfl) (Nat.zero_le _) (Nat.zero_le _) dX0_search_38 ?_
      refine lv_istore_n (lv' := [(3, .int (if x3 < x6 then x6 else x3)), (0, .ref (ad 9)), (1, .int x1), (2, .int x2), (4, .int x4), (5, .int x5), (6, .int x6)]) hx hb dX0_search_41 rfl hl (by decide) rfl (fun ls hl => ?_)
      obtain ⟨n11, hq⟩ := hq
      refine wl_X0_search_42 hB  (fun σ12 x3_13 x4_14 x5_15 H locs ls hq hw hl => ?_) n11 σ (if x3 < x6 then x6 else x3) x4 x5 _ _ _ hq hw (lv_sub hl [1, 2, 3, 0, 4, 5, 6] rfl)
      refine lv_iload hx hb dX0_search_115 (lv_at hl 4 rfl) ?_
      refine lv_iload_n hx hb dX0_search_117 rfl (lv_at hl 1 rfl) ?_
      refine lv_icmp_lt (tgt := 131) hx hb dX0_search_118 (by decide) (fun c16 => ?_) (fun c16 => ?_)
      · replace hq := hq.1 c16
        refine lv_iconst (v := 0) hx hb dX0_search_131 (by decide) ?_
        refine lv_istore (lv' := [(7, .int 0), (0, .ref (ad 9)), (1, .int x1), (2, .int x2), (3, .int x3_13), (4, .int x4_14), (5, .int x5_15), (6, .int x6)]) hx hb dX0_search_132 hl (by decide) rfl (fun ls hl => ?_)
        exact wj_X0_search_134 hB σ12 x1 x2 x3_13 x4_14 x5_15 x6 0 _ _ _ ih hq hw (lv_sub hl [1, 2, 3, 4, 5, 6, 7, 0] rfl)
      · replace hq := hq.2 c16
        refine lv_iload hx hb dX0_search_121 (lv_at hl 4 rfl) ?_
        refine lv_iload_n hx hb dX0_search_123 rfl (lv_at hl 2 rfl) ?_
        refine lv_icmp_gt (tgt := 131) hx hb dX0_search_124 (by decide) (fun c30 => ?_) (fun c30 => ?_)
        · replace hq := hq.1 c30
          refine lv_iconst (v := 0) hx hb dX0_search_131 (by decide) ?_
          refine lv_istore (lv' := [(7, .int 0), (0, .ref (ad 9)), (1, .int x1), (2, .int x2), (3, .int x3_13), (4, .int x4_14), (5, .int x5_15), (6, .int x6)]) hx hb dX0_search_132 hl (by decide) rfl (fun ls hl => ?_)
          exact wj_X0_search_134 hB σ12 x1 x2 x3_13 x4_14 x5_15 x6 0 _ _ _ ih hq hw (lv_sub hl [1, 2, 3, 4, 5, 6, 7, 0] rfl)
        · replace hq := hq.2 c30
          refine lv_iconst (v := 1) hx hb dX0_search_127 (by decide) ?_
          refine lv_goto (tgt := 132) hx hb dX0_search_128 (by decide) ?_
          refine lv_istore (lv' := [(7, .int 1), (0, .ref (ad 9)), (1, .int x1), (2, .int x2), (3, .int x3_13), (4, .int x4_14), (5, .int x5_15), (6, .int x6)]) hx hb dX0_search_132 hl (by decide) rfl (fun ls hl => ?_)
          exact wj_X0_search_134 hB σ12 x1 x2 x3_13 x4_14 x5_15 x6 1 _ _ _ ih hq hw (lv_sub hl [1, 2, 3, 4, 5, 6, 7, 0] rfl)
set_option maxHeartbeats 4000000 in
set_option maxRecDepth 100000 in
theorem c_X0_search (l : Launch) (D : va_G) (ad ln : Nat → Nat) (cI : ClassId) (σ : CS) (p1 : Int32) (post : CS → Prop) (hq : wp_X0_search ln σ p1 post) : MtV l D (tyC cI) (cellsC ad ln cI) yX0_search cX0_search 9 none (rmK 2) [.ref (ad 9), .int p1] σ post := by
  refine MtV_of (by decide) (Nat.le_of_ble_eq_true rfl) ?_
  intro p e s m below meth c A ls hB hw hl
  replace hB : MB p s m _ meth c cX0_search 9 none RX0 := hB
  replace hl : lv_has ls 9 [(0, .ref (ad 9)), (1, .int p1)] := hl
  obtain ⟨hx, hb, hr, hml, hown, hts, hlk⟩ := id hB
  unfold wp_X0_search at hq
  refine lv_aload_n hx hb dX0_search_0 rfl (lv_at hl 0 rfl) ?_
  refine w_cVV (As := []) (rest := []) hB hw hl.1 (c_X0_rankMovables l D ad ln cI σ _ hq) m333 m194 m413 m183 m26 rfl ok_X0_rankMovables (okR_K (by decide) (by decide)) (q0 := 9) (ci := 0) rfl rfl rfl rfl (Nat.le_of_ble_eq_true rfl) dX0_search_1 (fun σ1 H locs hq hw => ?_)
  refine lv_aload_n hx hb dX0_search_4 rfl (lv_at hl 0 rfl) ?_
  refine gC_9_3 hB hw m116 dX0_search_5 ?_
  refine w_cVI (As := []) (rest := []) hB hw hl.1 (c_X2_freeWords l D ad ln cI σ1 _ hq) m334 m207 m425 m185 m39 rfl ok_X2_freeWords (okR_K (by decide) (by decide)) (q0 := 2) (ci := 2) rfl rfl rfl rfl (Nat.le_of_ble_eq_true rfl) dX0_search_8 (fun r3 σ2 H locs hq hw => ?_)
  refine lv_istore_n (lv' := [(2, .int r3), (0, .ref (ad 9)), (1, .int p1)]) hx hb dX0_search_11 rfl hl (by decide) rfl (fun ls hl => ?_)
  refine lv_iconst (v := 0) hx hb dX0_search_12 (by decide) ?_
  refine lv_istore_n (lv' := [(3, .int 0), (2, .int r3), (0, .ref (ad 9)), (1, .int p1)]) hx hb dX0_search_13 rfl hl (by decide) rfl (fun ls hl => ?_)
  refine lv_iconst (v := 0) hx hb dX0_search_14 (by decide) ?_
  refine lv_istore (lv' := [(4, .int 0), (3, .int 0), (2, .int r3), (0, .ref (ad 9)), (1, .int p1)]) hx hb dX0_search_15 hl (by decide) rfl (fun ls hl => ?_)
  refine lv_iconst (v := 0) hx hb dX0_search_17 (by decide) ?_
  refine lv_istore (lv' := [(5, .int 0), (4, .int 0), (3, .int 0), (2, .int r3), (0, .ref (ad 9)), (1, .int p1)]) hx hb dX0_search_18 hl (by decide) rfl (fun ls hl => ?_)
  refine lv_iconst (v := 0) hx hb dX0_search_20 (by decide) ?_
  refine lv_istore (lv' := [(6, .int 0), (5, .int 0), (4, .int 0), (3, .int 0), (2, .int r3), (0, .ref (ad 9)), (1, .int p1)]) hx hb dX0_search_21 hl (by decide) rfl (fun ls hl => ?_)
  obtain ⟨n31, hq⟩ := hq
  refine wl_X0_search_23 hB  (fun σ32 H locs ls hq hw hl => ?_) n31 σ2 0 0 0 0 _ _ _ hq hw (lv_sub hl [5, 6, 4, 3, 2, 1, 0] rfl)
  exact w_vret hB hw hq dX0_search_261
theorem ok_X0_search : okY yX0_search 1 := ⟨by decide, by decide, by decide +kernel⟩
