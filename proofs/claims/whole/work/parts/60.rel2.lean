/-! PURE: the other calls keep the relation. -/
theorem lg_out {f : Nat → Int64} {k : Nat} {x y : Int32} (h : x = y) : lg_cmp (vp_updL f k x.toInt64 k) y.toInt64 = 0 := by rw [pk_uLs, lg_cmp_eq, h]
section REL2
variable {Hd N K : Nat} {σ τ : CS} {bs A B : List Blk} {n k m : Nat} {KK : S2 → CS → Prop} {f : Nat → Int64} {p p1 p2 p3 : Int32}
theorem RR_words {i : Nat} {v w : Int32} (h : RR N K σ τ) : RR N K (setA σ 1 i v) (setA (setF τ 0 w) 4 i v) := by
  obtain ⟨bs, st, va, ta, h1, h2, h3, h4, h5, h6, h7, h8, h9, h10, h11, h12⟩ := h
  refine ⟨bs, st, va, ta, RC_other h1 rfl rfl rfl rfl, RM_other h3 h2 rfl rfl rfl rfl, h3, h4, ?_, bC_other h6 rfl rfl rfl rfl rfl, bM_other h7 rfl rfl rfl rfl rfl, h8, h9, h10, TG_other h11 rfl rfl rfl, TG_other h12 rfl rfl rfl⟩
  simp only [setA_2, if_true, setF_2]
  rw [h5]
theorem R_get (hN : 4 * N + 3 ≤ Hd) (hr : RR N K σ τ) (hk : ∀ u' τ', RR N K u'.1 τ' → KK u' τ') : wp_L_get (lnC Hd N K) (σ, f) p1 p2 (fun r51 u52 => wp_X5_get lnM τ p1 p2 (fun r53 τ54 => wp_X5_thrown lnM τ54 (fun r55 τ56 => ((r55 = r51) ∧ ((¬ r51 = 0 → KK u52 τ56) ∧ (r51 = 0 → (((lg_cmp (u52.2 (0 : Int32).toNatClampNeg) r53.toInt64) = 0) ∧ KK u52 τ56))))))) := by
  have hrt := fun v => RR_t hr v
  obtain ⟨bs, st, va, ta, h1, h2, h3, h4, h5, h6, h7, h8, h9, h10, h11, h12⟩ := hr
  unfold wp_L_get wp_X4_get
  refine C_payload h1 h3 (fun A n k B h j e hj => ?_) (fun A n k B h hj => ?_) (fun h => ?_)
  · have a := shp_at (by rw [h.1] at h3; exact h3)
    refine ⟨(vpI (by omega)).mpr (by show _ < Hd; omega), ?_⟩
    rw [nI_clamp (by omega)]
    refine M_get h2 h3 (fun A' n' k' B' h' j' e' hj' => ⟨rfl, fun q => absurd rfl q, fun _ => ⟨?_, hk _ _ (hrt 0)⟩⟩) (fun A' n' k' B' h' hj' => ?_) (fun h' => absurd h' (fun q => liv_no h q))
    · obtain ⟨rfl, rfl, rfl, rfl⟩ := liv_two h3 h h'
      rw [e, nI_eq (by omega) (by omega)] at e'
      subst e'
      exact lg_out (congrFun h5 _)
    · obtain ⟨rfl, rfl, rfl, rfl⟩ := liv_two h3 h h'
      exact absurd e (hj' j hj)
  · refine ⟨fun q => absurd q (by decide), fun _ => ?_, Or.inr rfl⟩
    refine M_get h2 h3 (fun A' n' k' B' h' j' e' hj' => ?_) (fun A' n' k' B' h' hj' => ⟨rfl, fun _ => hk _ _ (hrt 2), fun q => absurd q (by decide)⟩) (fun h' => absurd h' (fun q => liv_no h q))
    obtain ⟨rfl, rfl, rfl, rfl⟩ := liv_two h3 h h'
    exact absurd e' (hj j' hj')
  · refine ⟨fun _ => ?_, fun q => absurd q (by decide), Or.inl rfl⟩
    exact M_get h2 h3 (fun A' n' k' B' h' => absurd h (fun q => liv_no h' q)) (fun A' n' k' B' h' => absurd h (fun q => liv_no h' q)) (fun _ => ⟨rfl, fun _ => hk _ _ (hrt 1), fun q => absurd q (by decide)⟩)
theorem R_set (hN : 4 * N + 3 ≤ Hd) (hr : RR N K σ τ) (hk : ∀ u' τ', RR N K u'.1 τ' → KK u' τ') : wp_L_set (lnC Hd N K) (σ, f) p1 p2 p3 (fun r51 u52 => wp_X5_set lnM τ p1 p2 p3 (fun r53 τ54 => wp_X5_thrown lnM τ54 (fun r55 τ56 => ((r55 = r51) ∧ ((¬ r51 = 0 → KK u52 τ56) ∧ (r51 = 0 → (((lg_cmp (u52.2 (0 : Int32).toNatClampNeg) r53.toInt64) = 0) ∧ KK u52 τ56))))))) := by
  have hrt := fun v => RR_t hr v
  have hrw := fun i => RR_words (i := i) (v := p3) (w := 0) hr
  obtain ⟨bs, st, va, ta, h1, h2, h3, h4, h5, h6, h7, h8, h9, h10, h11, h12⟩ := hr
  unfold wp_L_set wp_X4_set
  refine C_payload h1 h3 (fun A n k B h j e hj => ?_) (fun A n k B h hj => ?_) (fun h => ?_)
  · have a := shp_at (by rw [h.1] at h3; exact h3)
    refine ⟨(vpI (by omega)).mpr (by show _ < Hd; omega), ?_⟩
    rw [nI_clamp (by omega)]
    refine M_set h2 h3 (fun A' n' k' B' h' j' e' hj' => ?_) (fun A' n' k' B' h' hj' => ?_) (fun h' => absurd h' (fun q => liv_no h q))
    · obtain ⟨rfl, rfl, rfl, rfl⟩ := liv_two h3 h h'
      rw [e, nI_eq (by omega) (by omega)] at e'
      subst e'
      refine ⟨rfl, fun q => absurd rfl q, fun _ => ⟨?_, hk _ _ (hrw _)⟩⟩
      exact lg_out (congrFun h5 _)
    · obtain ⟨rfl, rfl, rfl, rfl⟩ := liv_two h3 h h'
      exact absurd e (hj' j hj)
  · refine ⟨fun q => absurd q (by decide), fun _ => ?_, Or.inr rfl⟩
    refine M_set h2 h3 (fun A' n' k' B' h' j' e' hj' => ?_) (fun A' n' k' B' h' hj' => ⟨rfl, fun _ => hk _ _ (hrt 2), fun q => absurd q (by decide)⟩) (fun h' => absurd h' (fun q => liv_no h q))
    obtain ⟨rfl, rfl, rfl, rfl⟩ := liv_two h3 h h'
    exact absurd e' (hj j' hj')
  · refine ⟨fun _ => ?_, fun q => absurd q (by decide), Or.inl rfl⟩
    exact M_set h2 h3 (fun A' n' k' B' h' => absurd h (fun q => liv_no h' q)) (fun A' n' k' B' h' => absurd h (fun q => liv_no h' q)) (fun _ => ⟨rfl, fun _ => hk _ _ (hrt 1), fun q => absurd q (by decide)⟩)
theorem R_sizeOf (hr : RR N K σ τ) (hk : ∀ u' τ', RR N K u'.1 τ' → KK u' τ') : wp_X4_sizeOf (lnC Hd N K) σ p (fun r σ' => wp_X5_sizeOf lnM τ p (fun r' τ' => r = r' ∧ KK (σ', f) τ')) := by
  have hrt := fun v => RR_t hr v
  obtain ⟨bs, st, va, ta, h1, h2, h3, h4, h5, h6, h7, h8, h9, h10, h11, h12⟩ := hr
  refine C_sizeOf h1 h3 (fun A n k B h => M_sizeOf h2 h3 (fun A' n' k' B' h' => ?_) (fun h' => absurd h' (fun q => liv_no h q))) (fun h => M_sizeOf h2 h3 (fun A' n' k' B' h' => absurd h (fun q => liv_no h' q)) (fun _ => ⟨rfl, hk _ _ (hrt 0)⟩))
  obtain ⟨rfl, rfl, rfl, rfl⟩ := liv_two h3 h h'
  exact ⟨rfl, hk _ _ (hrt 0)⟩
theorem R_largest (hr : RR N K σ τ) (hk : ∀ u' τ', RR N K u'.1 τ' → KK u' τ') : wp_X4_largest (lnC Hd N K) σ (fun r σ' => wp_X5_largest lnM τ (fun r' τ' => r = r' ∧ KK (σ', f) τ')) := by
  have hrt := fun v => RR_t hr v
  obtain ⟨bs, st, va, ta, h1, h2, h3, h4, h5, h6, h7, h8, h9, h10, h11, h12⟩ := hr
  exact s_largestFree h1 h3 (M_largest h2 h3 ⟨rfl, hk _ _ (hrt 0)⟩)
theorem R_freeAt (hr : RR N K σ τ) (hk : ∀ u' τ', RR N K u'.1 τ' → KK u' τ') : wp_X4_freeAt (lnC Hd N K) σ p (fun r σ' => wp_X5_freeAt lnM τ p (fun r' τ' => r = r' ∧ KK (σ', f) τ')) := by
  have hrt := fun v => RR_t hr v
  obtain ⟨bs, st, va, ta, h1, h2, h3, h4, h5, h6, h7, h8, h9, h10, h11, h12⟩ := hr
  exact s_freeAddress h1 h3 (M_freeAt h2 h3 ⟨rfl, hk _ _ (hrt 0)⟩)
theorem R_count (hr : RR N K σ τ) (hk : ∀ u' τ', RR N K u'.1 τ' → KK u' τ') : wp_X4_count (lnC Hd N K) σ p (fun r σ' => wp_X5_count lnM τ p (fun r' τ' => r = r' ∧ KK (σ', f) τ')) := by
  have hrt := fun v => RR_t hr v
  have hrs : ∀ σ', spOnly σ σ' → RR N K σ' (setF τ 0 0) := by
    intro σ' ho
    obtain ⟨bs, st, va, ta, h1, h2, h3, h4, h5, h6, h7, h8, h9, h10, h11, h12⟩ := hrt 0
    exact ⟨bs, st, va, ta, RC_other h1 (ho.1 0) (ho.2 3 (by decide) (by decide)) (ho.2 4 (by decide) (by decide)) (ho.2 5 (by decide) (by decide)), h2, h3, h4, by rw [ho.2 1 (by decide) (by decide)]; exact h5, bC_other h6 (ho.1 1) (ho.1 2) (ho.1 4) (ho.2 11 (by decide) (by decide)) (ho.2 12 (by decide) (by decide)), h7, h8, h9, h10, TG_other h11 (ho.1 6) (ho.2 19 (by decide) (by decide)) (ho.2 20 (by decide) (by decide)), h12⟩
  obtain ⟨bs, st, va, ta, h1, h2, h3, h4, h5, h6, h7, h8, h9, h10, h11, h12⟩ := hr
  have ne : ∀ {a b : Int32}, p = a → a ≠ b → ¬ p = b := fun e h q => h (e.symm.trans q)
  refine ⟨fun e => ?_, fun e => ?_, fun e => ?_, fun e => ?_, fun e => ?_, fun e => ?_⟩
  · exact s_freeBlocks h1 h3 (M_count h2 h3 (fun _ => ⟨rfl, hk _ _ (hrt 0)⟩) (fun q => absurd q (ne e (by decide))) (fun q => absurd q (ne e (by decide))) (fun q => absurd q (ne e (by decide))) (fun q => absurd q (ne e (by decide))) (fun q => absurd e q.1))
  · exact s_freeWords h1 h3 (M_count h2 h3 (fun q => absurd q (ne e (by decide))) (fun _ => ⟨rfl, hk _ _ (hrt 0)⟩) (fun q => absurd q (ne e (by decide))) (fun q => absurd q (ne e (by decide))) (fun q => absurd q (ne e (by decide))) (fun q => absurd e q.2.1))
  · exact s_liveBlocks h1 h3 (M_count h2 h3 (fun q => absurd q (ne e (by decide))) (fun q => absurd q (ne e (by decide))) (fun _ => ⟨rfl, hk _ _ (hrt 0)⟩) (fun q => absurd q (ne e (by decide))) (fun q => absurd q (ne e (by decide))) (fun q => absurd e q.2.2.1))
  · refine M_count h2 h3 (fun q => absurd q (ne e (by decide))) (fun q => absurd q (ne e (by decide))) (fun q => absurd q (ne e (by decide))) (fun _ => ?_) (fun q => absurd q (ne e (by decide))) (fun q => absurd e q.2.2.2.1)
    cases st with
    | none => exact ⟨fun _ => ⟨h6.2, hk _ _ (hrt 0)⟩, fun q => absurd h7 q⟩
    | some z =>
      obtain ⟨g, vs, ts⟩ := z
      exact ⟨fun q => absurd q (by rw [h7.1]; decide), fun _ => ⟨by rw [h6.2.2.1, h7.2.2.1], hk _ _ (hrt 0)⟩⟩
  · exact C_depth h1 h3 (fun σ' ho => M_count h2 h3 (fun q => absurd q (ne e (by decide))) (fun q => absurd q (ne e (by decide))) (fun q => absurd q (ne e (by decide))) (fun q => absurd q (ne e (by decide))) (fun _ => ⟨rfl, hk _ _ (hrs σ' ho)⟩) (fun q => absurd e q.2.2.2.2))
  · exact M_count h2 h3 (fun q => absurd q e.1) (fun q => absurd q e.2.1) (fun q => absurd q e.2.2.1) (fun q => absurd q e.2.2.2.1) (fun q => absurd q e.2.2.2.2) (fun _ => ⟨rfl, hk _ _ (hrt 0)⟩)
theorem R_branch (hr : RR N K σ τ) (hk : ∀ u' τ', RR N K u'.1 τ' → KK u' τ') : wp_L_branch (lnC Hd N K) (σ, f) p1 p2 (fun r51 u52 => wp_X5_branch lnM τ p1 p2 (fun r53 τ54 => wp_X5_thrown lnM τ54 (fun r55 τ56 => ((r55 = r51) ∧ ((¬ r51 = 0 → KK u52 τ56) ∧ (r51 = 0 → (((lg_cmp (u52.2 (0 : Int32).toNatClampNeg) r53.toInt64) = 0) ∧ KK u52 τ56))))))) := by
  have hrt := fun v => RR_t hr v
  obtain ⟨bs, st, va, ta, h1, h2, h3, h4, h5, h6, h7, h8, h9, h10, h11, h12⟩ := hr
  have ne : ∀ {a b : Int32}, p2 = a → a ≠ b → ¬ p2 = b := fun e h q => h (e.symm.trans q)
  unfold wp_L_branch wp_X4_branch
  refine s_freeIndex h1 h3 (fun A n B hb hp => ?_) (fun hno => ⟨fun q => absurd rfl q, fun _ => ⟨fun _ => ?_, fun q => absurd q (by decide), Or.inl rfl⟩⟩)
  · have hf : fre bs p1 A n B := ⟨hb, hp⟩
    have nof : ¬ nofre bs p1 := fun q => fre_no h3 hf q
    refine ⟨fun _ => ⟨fun e => ?_, fun e => ?_, fun e => ?_, fun e => ?_⟩, fun q => absurd q (not_m1 h3 hb)⟩
    · refine C_left h1 h3 hb (fun r hr => ?_)
      refine M_branch h2 h3 (fun q => absurd q nof) (fun A' n' B' h' q => absurd e q.1) (fun A' n' B' h' _ r' hr' => ?_) (fun A' n' B' h' q => absurd q (ne e (by decide))) (fun A' n' B' h' q => absurd q (ne e (by decide)))
      obtain ⟨rfl, rfl, rfl⟩ := fre_one h3 hf h'
      refine ⟨rfl, fun q => absurd rfl q, fun _ => ⟨?_, hk _ _ (hrt 0)⟩⟩
      exact lg_out (lft_one hr hr')
    · refine C_right h1 h3 hb (fun r hr => ?_)
      refine M_branch h2 h3 (fun q => absurd q nof) (fun A' n' B' h' q => absurd e q.2.1) (fun A' n' B' h' q => absurd q (ne e (by decide))) (fun A' n' B' h' _ r' hr' => ?_) (fun A' n' B' h' q => absurd q (ne e (by decide)))
      obtain ⟨rfl, rfl, rfl⟩ := fre_one h3 hf h'
      refine ⟨rfl, fun q => absurd rfl q, fun _ => ⟨?_, hk _ _ (hrt 0)⟩⟩
      exact lg_out (rgt_one hr hr')
    · refine ⟨(c_go h1 h3 hb).2.1, ?_⟩
      rw [r4 h1 h3 hb]
      refine M_branch h2 h3 (fun q => absurd q nof) (fun A' n' B' h' q => absurd e q.2.2) (fun A' n' B' h' q => absurd q (ne e (by decide))) (fun A' n' B' h' q => absurd q (ne e (by decide))) (fun A' n' B' h' _ => ?_)
      obtain ⟨rfl, rfl, rfl⟩ := fre_one h3 hf h'
      refine ⟨rfl, fun q => absurd rfl q, fun _ => ⟨?_, hk _ _ (hrt 0)⟩⟩
      exact lg_out rfl
    · refine ⟨fun q => absurd q (by decide), fun _ => ?_, Or.inr rfl⟩
      exact M_branch h2 h3 (fun q => absurd q nof) (fun A' n' B' h' q => ⟨rfl, fun _ => hk _ _ (hrt 2), fun q => absurd q (by decide)⟩) (fun A' n' B' h' q => absurd q e.1) (fun A' n' B' h' q => absurd q e.2.1) (fun A' n' B' h' q => absurd q e.2.2)
  · exact M_branch h2 h3 (fun _ => ⟨rfl, fun _ => hk _ _ (hrt 1), fun q => absurd q (by decide)⟩) (fun A' n' B' h' => absurd hno (fun q => fre_no h3 h' q)) (fun A' n' B' h' => absurd hno (fun q => fre_no h3 h' q)) (fun A' n' B' h' => absurd hno (fun q => fre_no h3 h' q)) (fun A' n' B' h' => absurd hno (fun q => fre_no h3 h' q))
theorem stL_of {st : Adv} (hS : shp N bs) (hK : K = min N 128) (h : bs.length - nf bs ≤ 128) (hok : advOK bs st) : stL K st := by
  intro z hz
  subst hz
  obtain ⟨g, vs, ts⟩ := z
  obtain ⟨A, W, C, q1, q2, q3, q4, q5⟩ := hok
  have e := (adv_vics hS q1 q4).2.2.2
  have e2 : nl bs = nl A + (nl W + nl C) := by rw [q1, nl_app, nl_app]
  have e3 := nl_le bs
  have e4 := shp_len hS
  show vs.length ≤ K
  omega
theorem R_advise (hK : K = min N 128) (hr : RR N K σ τ) (hk : ∀ u' τ', RR N K u'.1 τ' → KK u' τ') : wp_X4_advise (lnC Hd N K) σ p (fun r σ' => wp_X5_advise lnM τ p (fun r' τ' => r = r' ∧ KK (σ', f) τ')) := by
  obtain ⟨bs, st, va, ta, h1, h2, h3, h4, h5, h6, h7, h8, h9, h10, h11, h12⟩ := hr
  have hno : ∀ τ', chg [0, 2] [] τ τ' → τ'.1 2 = 0 → RR N K (setF (setF σ 1 0) 4 0) τ' := fun τ' hO h20 =>
    ⟨bs, none, va, ta, RC_other h1 rfl rfl rfl rfl, hO.RM h3 h2 (by decide) (by decide) (by decide) (by decide), h3, h4, by rw [hO.2 4 (by decide)]; exact h5, ⟨rfl, rfl⟩, h20, trivial, (fun a h => by cases h), h10, TG_other h11 rfl rfl rfl, TG_other h12 (hO.1 5 (by decide)) (hO.2 7 (by decide)) (hO.2 8 (by decide))⟩
  have hO0 : chg [0, 2] [] τ (setF (setF τ 0 0) 2 0) := (chg.rf.F (k := 0) (0 : Int32) (by decide)).F (k := 2) (0 : Int32) (by decide)
  refine C_advise hK h1 h3 (fun hp => ?_) (fun hp hl => ?_) (fun v hv1 hv e hl σ' hO hb => ?_)
  · exact M_advise h2 h3 (fun _ => ⟨rfl, hk _ _ (hno _ hO0 rfl)⟩) (fun q => absurd hp q) (fun v hv1 hv e => by
      exfalso
      rw [e, iLit 1, nI_ltI hv (by decide)] at hp
      omega)
  · exact M_advise h2 h3 (fun q => absurd q hp) (fun _ _ τ' q1 q2 => ⟨rfl, hk _ _ (hno τ' q1 q2)⟩) (fun v hv1 hv e q => by omega)
  · refine M_advise h2 h3 (fun q => ?_) (fun _ q => by omega) (fun v' hv1' hv' e' _ τ' hO' hb' => ?_)
    · exfalso
      rw [e, iLit 1, nI_ltI hv (by decide)] at q
      omega
    · rw [e, nI_eq hv hv'] at e'
      subst e'
      have hok : advOK bs (advL v [] bs none) := advL_OK h3 rfl trivial
      exact ⟨rfl, hk _ _ ⟨bs, advL v [] bs none, va, ta, hO.RC h1 (by decide) (by decide) (by decide) (by decide), hO'.RM h3 h2 (by decide) (by decide) (by decide) (by decide), h3, h4, by rw [hO.2 1 (by decide), hO'.2 4 (by decide)]; exact h5, hb, hb', hok, stL_of h3 hK hl hok, h10, TG_other h11 (hO.1 6 (by decide)) (hO.2 19 (by decide)) (hO.2 20 (by decide)), TG_other h12 (hO'.1 5 (by decide)) (hO'.2 7 (by decide)) (hO'.2 8 (by decide))⟩⟩
theorem R_window (hr : RR N K σ τ) (hk : ∀ u' τ', RR N K u'.1 τ' → KK u' τ') : wp_X4_window (lnC Hd N K) σ (fun r σ' => wp_X5_window lnM τ (fun r' τ' => r = r' ∧ KK (σ', f) τ')) := by
  have hrt := fun v => RR_t hr v
  obtain ⟨bs, st, va, ta, h1, h2, h3, h4, h5, h6, h7, h8, h9, h10, h11, h12⟩ := hr
  cases st with
  | none => exact ⟨fun _ => ⟨fun _ => ⟨rfl, hk _ _ (hrt 0)⟩, fun q => absurd h7 q⟩, fun q => absurd h6.1 q⟩
  | some z =>
    obtain ⟨g, vs, ts⟩ := z
    refine ⟨fun q => absurd q (by rw [h6.1]; decide), fun _ => ⟨fun q => absurd q (by rw [h7.1]; decide), fun _ => ?_⟩⟩
    rw [h7.2.1]
    exact m_address ⟨h6.2.1, hk _ _ (hrt 0)⟩
theorem R_apply (hN : 4 * N + 3 ≤ Hd) (hH : Hd ≤ 4096) (hK : K = min N 128) (hr : RR N K σ τ) (hk : ∀ u' τ', RR N K u'.1 τ' → KK u' τ') : wp_X4_apply (lnC Hd N K) σ (fun r σ' => wp_X5_apply lnM τ (fun r' τ' => r = r' ∧ KK (σ', f) τ')) := by
  have hrt := fun v => RR_t hr v
  obtain ⟨bs, st, va, ta, h1, h2, h3, h4, h5, h6, h7, h8, h9, h10, h11, h12⟩ := hr
  cases st with
  | none => exact ⟨fun q => absurd h6.1 q, fun _ => ⟨fun q => absurd h7 q, fun _ => ⟨rfl, hk _ _ (hrt 0)⟩⟩⟩
  | some z =>
    obtain ⟨g, vs, ts⟩ := z
    obtain ⟨A, W, C, q1, q2, q3, q4, q5⟩ := h8
    have hvK : vs.length ≤ K := h9 _ rfl
    refine C_apply hN hH (by omega) hvK h1 h3 h4 h6 q1 q4 q5 (fun σ' c1 c2 c3 c4 c5 => ?_)
    refine M_apply (by omega) h2 h3 h4 h7 q1 q4 q5 (fun τ' m1 m2 m3 m4 m5 => ?_)
    exact ⟨rfl, hk _ _ ⟨aft vs ts bs, none, vs, ts, c1, m1, m5, nadj_norm _, by rw [c2, m2, h5], ⟨c3, c4⟩, m3, trivial, (fun a h => by cases h), hvK, c5, m4⟩⟩
/-- where a block came -/
def fm (p : Int32) : List Vic → List Nat → Int32
  | x :: va, t :: ta => if nI (4 + 4 * x.2.1) = p then nI (4 + 4 * t) else fm p va ta
  | _, _ => -1
theorem lpx_po {post : Int32 → CS → Prop} {vs : List Vic} {ts : List Nat} (hK : K ≤ 1023) (hv : vs.length ≤ K) (hT : TG 6 19 20 σ vs ts) : ∀ (v2 v1 : List Vic) (t2 t1 : List Nat), vs = v1 ++ v2 → ts = t1 ++ t2 → t1.length = v1.length → post (fm p v2 t2) σ → lp_X1_placeOf_18_2 (lnC Hd N K) post (fun σ6 => post (-1) σ6) p (v2.length + 1) σ (nI v1.length)
  | [], v1, t2, t1, h1, h2, h3, hp => by
    rw [List.append_nil] at h1
    refine ⟨fun _ => hp, fun q => absurd ?_ q⟩
    rw [hT.1, h1]
    exact Int32.le_refl _
  | x :: v2, v1, [], t1, h1, h2, h3, hp => by
    exfalso
    have q1 := hT.2.1
    rw [h1, h2] at q1
    simp at q1
    omega
  | x :: v2, v1, t :: t2, t1, h1, h2, h3, hp => by
    have hlen : v1.length + 1 + v2.length = vs.length := by rw [h1]; simp; omega
    have hcl : (nI v1.length).toNatClampNeg = v1.length := nI_clamp (by omega)
    have hgo : ¬ σ.1 6 ≤ nI v1.length := by rw [hT.1, nI_leI (by omega) (by omega)]; omega
    have e19 : σ.2 19 v1.length = nI (4 + 4 * x.2.1) := hT.2.2.1 v1 x v2 h1
    have e20 : σ.2 20 v1.length = nI (4 + 4 * t) := by rw [← h3]; exact hT.2.2.2 t1 t t2 h2
    have hin : vp_in (nI v1.length) K := (vpI (by omega)).mpr (by omega)
    rw [fm] at hp
    refine ⟨fun q => absurd q hgo, fun _ => ⟨hin, fun q => ?_, fun q => ⟨hin, ?_⟩⟩⟩
    · rw [hcl, e19] at q
      rw [if_neg q] at hp
      rw [nI_1]
      have := lpx_po (post := post) hK hv hT v2 (v1 ++ [x]) t2 (t1 ++ [t]) (by rw [h1]; simp) (by rw [h2]; simp) (by simp [h3]) hp
      rw [List.length_append] at this
      exact this
    · rw [hcl, e19] at q
      rw [if_pos q] at hp
      rw [hcl, e20]
      exact hp
theorem lpx_mv {post : Int32 → CS → Prop} {vs : List Vic} {ts : List Nat} (hv : vs.length ≤ 128) (hT : TG 5 7 8 τ vs ts) : ∀ (v2 v1 : List Vic) (t2 t1 : List Nat), vs = v1 ++ v2 → ts = t1 ++ t2 → t1.length = v1.length → post (fm p v2 t2) τ → lp_X5_moved_7 lnM post (fun σ6 => post (-1) σ6) p (v2.length + 1) τ (nI v1.length)
  | [], v1, t2, t1, h1, h2, h3, hp => by
    rw [List.append_nil] at h1
    refine ⟨fun _ => hp, fun q => absurd ?_ q⟩
    rw [hT.1, h1]
    exact Int32.le_refl _
  | x :: v2, v1, [], t1, h1, h2, h3, hp => by
    exfalso
    have q1 := hT.2.1
    rw [h1, h2] at q1
    simp at q1
    omega
  | x :: v2, v1, t :: t2, t1, h1, h2, h3, hp => by
    have hlen : v1.length + 1 + v2.length = vs.length := by rw [h1]; simp; omega
    have hcl : (nI v1.length).toNatClampNeg = v1.length := nI_clamp (by omega)
    have hgo : ¬ τ.1 5 ≤ nI v1.length := by rw [hT.1, nI_leI (by omega) (by omega)]; omega
    have e19 : τ.2 7 v1.length = nI (4 + 4 * x.2.1) := hT.2.2.1 v1 x v2 h1
    have e20 : τ.2 8 v1.length = nI (4 + 4 * t) := by rw [← h3]; exact hT.2.2.2 t1 t t2 h2
    have hin : vp_in (nI v1.length) 128 := (vpI (by omega)).mpr (by omega)
    rw [fm] at hp
    refine ⟨fun q => absurd q hgo, fun _ => ⟨hin, fun q => ?_, fun q => ⟨hin, ?_⟩⟩⟩
    · rw [hcl, e19] at q
      rw [if_neg q] at hp
      rw [nI_1]
      have := lpx_mv (post := post) hv hT v2 (v1 ++ [x]) t2 (t1 ++ [t]) (by rw [h1]; simp) (by rw [h2]; simp) (by simp [h3]) hp
      rw [List.length_append] at this
      exact this
    · rw [hcl, e19] at q
      rw [if_pos q] at hp
      rw [hcl, e20]
      exact hp
theorem R_moved (hK : K = min N 128) (hr : RR N K σ τ) (hk : ∀ u' τ', RR N K u'.1 τ' → KK u' τ') : wp_X4_moved (lnC Hd N K) σ p (fun r σ' => wp_X5_moved lnM τ p (fun r' τ' => r = r' ∧ KK (σ', f) τ')) := by
  have hrt := fun v => RR_t hr v
  obtain ⟨bs, st, va, ta, h1, h2, h3, h4, h5, h6, h7, h8, h9, h10, h11, h12⟩ := hr
  refine ⟨va.length + 1, ?_⟩
  refine lpx_po (p := p) (by omega) h10 h11 va [] ta [] rfl rfl rfl ?_
  refine ⟨va.length + 1, ?_⟩
  exact lpx_mv (p := p) (τ := setF τ 0 0) (by omega) (TG_other h12 rfl rfl rfl) va [] ta [] rfl rfl rfl ⟨rfl, hk _ _ (hrt 0)⟩
theorem R_move (hK : K = min N 128) (hr : RR N K σ τ) (hk : ∀ u' τ', RR N K u'.1 τ' → KK u' τ') : wp_L_move (lnC Hd N K) (σ, f) p1 p2 (fun r51 u52 => wp_X5_move lnM τ p1 p2 (fun r53 τ54 => wp_X5_thrown lnM τ54 (fun r55 τ56 => ((r55 = r51) ∧ ((¬ r51 = 0 → KK u52 τ56) ∧ (r51 = 0 → (((lg_cmp (u52.2 (0 : Int32).toNatClampNeg) r53.toInt64) = 0) ∧ KK u52 τ56))))))) := by
  have hrt := fun v => RR_t hr v
  obtain ⟨bs, st, va, ta, h1, h2, h3, h4, h5, h6, h7, h8, h9, h10, h11, h12⟩ := hr
  have m1 : jp_X5_move_41 lnM (fun r53 τ54 => wp_X5_thrown lnM τ54 (fun r55 τ56 => ((r55 = (1 : Int32)) ∧ ((¬ (1 : Int32) = 0 → KK (σ, f) τ56) ∧ ((1 : Int32) = 0 → (((lg_cmp (f (0 : Int32).toNatClampNeg) r53.toInt64) = 0) ∧ KK (σ, f) τ56)))))) (setF τ 0 1) p1 p2 := ⟨fun q => absurd q (show ¬ (1 : Int32) = 0 by decide), fun _ => ⟨rfl, fun _ => hk _ _ (hrt 1), fun q => absurd q (by decide)⟩⟩
  have m2 : jp_X5_move_41 lnM (fun r53 τ54 => wp_X5_thrown lnM τ54 (fun r55 τ56 => ((r55 = (2 : Int32)) ∧ ((¬ (2 : Int32) = 0 → KK (σ, f) τ56) ∧ ((2 : Int32) = 0 → (((lg_cmp (f (0 : Int32).toNatClampNeg) r53.toInt64) = 0) ∧ KK (σ, f) τ56)))))) (setF τ 0 2) p1 p2 := ⟨fun q => absurd q (show ¬ (2 : Int32) = 0 by decide), fun _ => ⟨rfl, fun _ => hk _ _ (hrt 2), fun q => absurd q (by decide)⟩⟩
  cases st with
  | none =>
    have e4 : σ.1 4 = 0 := h6.2
    have all : wp_X5_move lnM τ p1 p2 (fun r53 τ54 => wp_X5_thrown lnM τ54 (fun r55 τ56 => ((r55 = (1 : Int32)) ∧ ((¬ (1 : Int32) = 0 → KK (σ, f) τ56) ∧ ((1 : Int32) = 0 → (((lg_cmp (f (0 : Int32).toNatClampNeg) r53.toInt64) = 0) ∧ KK (σ, f) τ56)))))) := ⟨fun _ => m1, fun q => absurd h7 q⟩
    have x1 : (eIO = eIO → wp_X5_move lnM τ p1 p2 (fun r53 τ54 => wp_X5_thrown lnM τ54 (fun r55 τ56 => ((r55 = (1 : Int32)) ∧ ((¬ (1 : Int32) = 0 → KK (σ, f) τ56) ∧ ((1 : Int32) = 0 → (((lg_cmp (f (0 : Int32).toNatClampNeg) r53.toInt64) = 0) ∧ KK (σ, f) τ56))))))) := fun _ => all
    refine ⟨fun _ => ⟨x1, fun q => absurd q (by decide), Or.inl rfl⟩, fun q => ⟨fun q2 => absurd q2 ?_, fun _ => ⟨x1, fun q => absurd q (by decide), Or.inl rfl⟩⟩⟩
    show ¬ p1 < σ.1 4
    rw [e4]; exact q
  | some z =>
    obtain ⟨g, vs, ts⟩ := z
    have hvK : vs.length ≤ K := h9 _ rfl
    obtain ⟨b1, b2, b3, b4, b5, b6⟩ := h7
    obtain ⟨c1, c2, c3, c4, c5, c6⟩ := h6
    have hadv : ¬ τ.1 2 = 0 := by rw [b1]; decide
    have x1 : ∀ {Φ : Prop}, (p1 < 0 ∨ ¬ p1 < σ.1 4) → (wp_X5_move lnM τ p1 p2 (fun r53 τ54 => wp_X5_thrown lnM τ54 (fun r55 τ56 => ((r55 = (1 : Int32)) ∧ ((¬ (1 : Int32) = 0 → KK (σ, f) τ56) ∧ ((1 : Int32) = 0 → (((lg_cmp (f (0 : Int32).toNatClampNeg) r53.toInt64) = 0) ∧ KK (σ, f) τ56)))))) → Φ) → Φ := by
      intro Φ hor hΦ
      refine hΦ ⟨fun q => absurd q hadv, fun _ => ⟨fun _ => m1, fun q => ⟨fun q2 => ?_, fun _ => m1⟩⟩⟩
      rcases hor with h | h
      · exact absurd h q
      · rw [c3] at h; rw [b3] at q2; exact absurd q2 h
    refine ⟨fun hlt => x1 (Or.inl hlt) (fun w => ⟨fun _ => w, fun q => absurd q (by decide), Or.inl rfl⟩), fun hge => ⟨fun hin => ?_, fun hnin => x1 (Or.inr hnin) (fun w => ⟨fun _ => w, fun q => absurd q (by decide), Or.inl rfl⟩)⟩⟩
    obtain ⟨j, hj, rfl⟩ := nI_of hge
    have hin : nI j < σ.1 4 := hin
    have hinM : nI j < τ.1 4 := by rw [b3, ← c3]; exact hin
    rw [c3, nI_ltI hj (by omega)] at hin
    obtain ⟨v1, x, v2, s1, s2⟩ := sp_len (bs := vs) (i := j) hin
    obtain ⟨t1, t, t2, s3, s4⟩ := sp_len (bs := ts) (i := j) (by omega)
    have inK : vp_in (nI j) K := (vpI hj).mpr (by omega)
    have inM : vp_in (nI j) 128 := (vpI hj).mpr (by omega)
    have hcl : (nI j).toNatClampNeg = j := nI_clamp hj
    have d11 : σ.2 11 j = nI (4 + 4 * x.2.1) := by rw [← s2]; exact c5 v1 x v2 s1
    have d12 : σ.2 12 j = nI (4 + 4 * t) := by rw [← s4]; exact c6 t1 t t2 s3
    have d5 : τ.2 5 j = nI x.2.1 := by rw [← s2]; exact b5 v1 x v2 s1
    have d6 : τ.2 6 j = nI t := by rw [← s4]; exact b6 t1 t t2 s3
    -- the reference, where the move is there
    have ref : ∀ (k : Int32) (u' : S2), (p2 = 0 ∨ p2 = 1) → u'.1 = σ → u'.2 (0 : Int32).toNatClampNeg = k.toInt64 → k = (if p2 = 0 then nI (4 + 4 * x.2.1) else nI (4 + 4 * t)) → wp_X5_move lnM τ (nI j) p2 (fun r53 τ54 => wp_X5_thrown lnM τ54 (fun r55 τ56 => ((r55 = (0 : Int32)) ∧ ((¬ (0 : Int32) = 0 → KK u' τ56) ∧ ((0 : Int32) = 0 → (((lg_cmp (u'.2 (0 : Int32).toNatClampNeg) r53.toInt64) = 0) ∧ KK u' τ56)))))) := by
      intro k u' h01 hu1 hu2 hkk
      refine ⟨fun q => absurd q hadv, fun _ => ⟨fun q => absurd q hge, fun _ => ⟨fun _ => ⟨fun q => ?_, fun _ => ⟨fun _ => ⟨fun _ => ⟨fun q => ⟨inM, ?_⟩, fun q => ⟨inM, ?_⟩⟩, fun q => absurd rfl q⟩, fun q => ?_⟩⟩, fun q => absurd hinM q⟩⟩⟩
      · rcases h01 with e | e <;> (rw [e] at q; exact absurd q (by decide))
      · show wp_X5_address lnM (setF τ 0 0) (τ.2 6 (nI j).toNatClampNeg) _
        rw [hcl, d6]
        refine m_address ⟨rfl, fun q => absurd rfl q, fun _ => ⟨?_, hk _ _ (by rw [hu1]; exact hrt 0)⟩⟩
        rw [hu2, lg_cmp_eq, hkk, if_neg q]
      · show wp_X5_address lnM (setF τ 0 0) (τ.2 5 (nI j).toNatClampNeg) _
        rw [hcl, d5]
        refine m_address ⟨rfl, fun q => absurd rfl q, fun _ => ⟨?_, hk _ _ (by rw [hu1]; exact hrt 0)⟩⟩
        rw [hu2, lg_cmp_eq, hkk, if_pos q]
      · rcases h01 with e | e <;> (rw [e] at q; exact absurd (by decide) q)
    refine ⟨fun e => ⟨fun q => absurd e q, fun _ => ⟨inK, ?_⟩⟩, fun e0 => ⟨fun e1 => ⟨fun _ => ⟨inK, ?_⟩, fun q => absurd q e0⟩, fun e1 => ⟨fun q => absurd q (by decide), fun _ => ?_, Or.inr rfl⟩⟩⟩
    · rw [hcl]
      exact ref (σ.2 11 j) _ (Or.inl e) rfl (by show vp_updL f (0 : Int32).toNatClampNeg (σ.2 11 j).toInt64 (0 : Int32).toNatClampNeg = _; exact pk_uLs) (by rw [if_pos e, d11])
    · rw [hcl]
      exact ref (σ.2 12 j) _ (Or.inr e1) rfl (by show vp_updL f (0 : Int32).toNatClampNeg (σ.2 12 j).toInt64 (0 : Int32).toNatClampNeg = _; exact pk_uLs) (by rw [if_neg e0, d12])
    · refine ⟨fun q => absurd q hadv, fun _ => ⟨fun q => absurd q hge, fun _ => ⟨fun _ => ⟨fun _ => m2, fun q => ⟨fun q2 => ?_, fun _ => m2⟩⟩, fun q => absurd hinM q⟩⟩⟩
      obtain ⟨w, hw, rfl⟩ := nI_of q
      exfalso
      rw [iLit 1, nI_leI hw (by decide)] at q2
      rcases (show w = 0 ∨ w = 1 by omega) with rfl | rfl
      · exact e0 rfl
      · exact e1 rfl
end REL2
