/-! PURE: the reference: windows, victims, places. -/
def VM (τ : CS) (vs : List Vic) : Prop := τ.1 6 = nI vs.length ∧ AR (fun x => nI x.2.1) (τ.2 9) vs
def LM (τ : CS) (ps : List Blk) : Prop := ∀ P x Q, ps = P ++ x :: Q → τ.2 11 (tot P) = nI x.2 ∧ ∀ j, 0 < j → j < x.1 → τ.2 11 (tot P + j) = 0
def PM (τ : CS) (ts : List Nat) : Prop := ∀ a t b, ts = a ++ t :: b → τ.2 10 a.length = nI t
theorem chg.RM {ns rs : List Nat} {a b : CS} {N : Nat} {bs : List Blk} (h : chg ns rs a b) (hS : shp N bs) (hR : RM a bs) (h1 : 1 ∉ ns) (r1 : 1 ∉ rs) (r2 : 2 ∉ rs) (r3 : 3 ∉ rs) : RM b bs := RM_other hS hR (h.1 1 h1) (h.2 1 r1) (h.2 2 r2) (h.2 3 r3)
section MADV
variable {N : Nat} {τ : CS} {bs A B : List Blk} {n k m : Nat}
theorem cmp_w {A' W v : Nat} (h : A' + W ≤ 1023) (hv : v < 2 ^ 31) : ((0 ≤ lg_cmp (4 * ((nI (A' + W) - nI A').toInt64)) (nI v).toInt64) ↔ v ≤ 4 * W) ∧ ((lg_cmp (4 * ((nI (A' + W) - nI A').toInt64)) (nI v).toInt64 < 0) ↔ ¬ v ≤ 4 * W) := by
  have e : (4 : Int64) = lN 4 := rfl
  rw [pk_sub (by omega), Nat.add_sub_cancel_left, nI_l (by omega), nI_l hv, e, lN_mul, lg_cmp_ge, lg_cmp_lt, lN_le hv (by omega), lN_lt (by omega) hv]
  omega
theorem lpx_we {post : Int32 → CS → Prop} {v : Nat} (hv : v < 2 ^ 31) (hR : RM τ bs) (hS : shp N bs) (hb : bs = A ++ B) (hyes : ∀ W C, wnd v [] B = some (W, C) → post (nI (tot A + tot W)) τ) (hno : wnd v [] B = none → post (-1) τ) :
    ∀ (C W : List Blk), B = W ++ C → wnd v [] B = wnd v W C → ∃ c, lp_X5_windowEnd_2 lnM post (fun σ10 x3_11 => (((lg_cmp (4 * ((x3_11 - nI (tot A)).toInt64)) (nI v).toInt64) < 0 → post (-1) σ10) ∧ (¬ (lg_cmp (4 * ((x3_11 - nI (tot A)).toInt64)) (nI v).toInt64) < 0 → post x3_11 σ10))) (nI (tot A)) (nI v) c τ (nI (tot A + tot W))
  | [], W, hB, hw => by
    have hN := hS.2.2
    have ht : tot A + tot W = N := by
      have := hS.1
      rw [hb, hB, List.append_nil, tot_app] at this
      exact this
    have hcm := cmp_w (A' := tot A) (W := tot W) (v := v) (by omega) hv
    refine ⟨1, fun _ => ⟨fun q => hno ?_, fun q => hyes W [] ?_⟩, fun q => absurd (m_end hR hS (by omega) (by omega)) q⟩
    · rw [hcm.2] at q
      rw [hw, wnd, if_neg q]
    · rw [hcm.2] at q
      rw [hw, wnd, if_pos (Classical.not_not.mp q)]
  | (m, j) :: C, W, hB, hw => by
    have hN := hS.2.2
    have hb' : bs = (A ++ W) ++ (m, j) :: C := by rw [hb, hB]; simp
    have a := shp_at (by rw [hb'] at hS; exact hS)
    rw [tot_app] at a
    have hcm := cmp_w (A' := tot A) (W := tot W) (v := v) (by omega) hv
    obtain ⟨g1, g2, g3⟩ := m_go hR hS (g := tot A + tot W) (by omega)
    have he : E1 τ (tot A + tot W) m j := by rw [hb'] at hR; have := RM_mid hR; rw [tot_app] at this; exact this
    by_cases hc : v ≤ 4 * tot W
    · refine ⟨1, fun q => absurd q g1, fun _ => ⟨fun _ => ⟨fun q => absurd hc (hcm.2.mp q), fun _ => hyes W ((m, j) :: C) ?_⟩, fun q => absurd (hcm.1.mpr hc) q⟩⟩
      rw [hw, wnd, if_pos hc]
    · have hc1 : ¬ (0 ≤ lg_cmp (4 * ((nI (tot A + tot W) - nI (tot A)).toInt64)) (nI v).toInt64) := fun q => hc (hcm.1.mp q)
      by_cases hj : j = 2
      · refine ⟨1, fun q => absurd q g1, fun _ => ⟨fun q => absurd q hc1, fun _ => ⟨g2, fun q => absurd q ?_, fun _ => ⟨g2, fun q => absurd q ?_, fun _ => hno ?_⟩⟩⟩⟩
        · rw [g3, he.2.2.1, if_neg (by omega)]; decide
        · rw [g3, he.2.2.2 (by omega), if_pos hj]; decide
        · rw [hw, wnd, if_neg hc, if_pos hj]
      · obtain ⟨c, hcc⟩ := lpx_we (post := post) hv hR hS hb hyes hno C (W ++ [(m, j)]) (app_one hB) (by rw [hw, wnd, if_neg hc, if_neg hj])
        rw [tot_app, tot_cons, tot_nil] at hcc
        have hnext : lp_X5_windowEnd_2 lnM post (fun σ10 x3_11 => (((lg_cmp (4 * ((x3_11 - nI (tot A)).toInt64)) (nI v).toInt64) < 0 → post (-1) σ10) ∧ (¬ (lg_cmp (4 * ((x3_11 - nI (tot A)).toInt64)) (nI v).toInt64) < 0 → post x3_11 σ10))) (nI (tot A)) (nI v) c τ (nI (tot A + tot W) + τ.2 1 (nI (tot A + tot W)).toNatClampNeg) := by
          rw [g3, he.1, nI_add, Nat.add_assoc]
          exact hcc
        refine ⟨c + 1, fun q => absurd q g1, fun _ => ⟨fun q => absurd q hc1, fun _ => ⟨g2, fun _ => ⟨g2, hnext⟩, fun q => ⟨g2, fun _ => ⟨g2, hnext⟩, fun q2 => absurd ?_ q2⟩⟩⟩⟩
        rw [g3, he.2.2.1] at q
        have hj0 : j ≠ 0 := fun e => q (by rw [if_pos e])
        rw [g3, he.2.2.2 hj0, if_neg hj]
theorem m_windowEnd {post : Int32 → CS → Prop} {v : Nat} (hv : v < 2 ^ 31) (hR : RM τ bs) (hS : shp N bs) (hb : bs = A ++ B) (hyes : ∀ W C, wnd v [] B = some (W, C) → post (nI (tot A + tot W)) τ) (hno : wnd v [] B = none → post (-1) τ) : wp_X5_windowEnd lnM τ (nI (tot A)) (nI v) post :=
  lpx_we hv hR hS hb hyes hno B [] rfl rfl
theorem lpx_27 {post : CS → Prop} {Kx : CS → Int32 → Prop} {L : List Vic} {x2 : Int32} (hR : RM τ bs) (hS : shp N bs) (hb : bs = A ++ (m, 1) :: B) (hL : L.length < 128) (hV : ∀ x, x ∈ L → VB bs x)
    (hp : ∀ l1 l2 τ2, l1 ++ l2 = L → chg [] [9] τ τ2 → GP (fun x => nI x.2.1) (τ2.2 9) l1 l2 → (∀ y, y ∈ l2 → y.2.2 < m) → (∀ l y, l1 = l ++ [y] → m ≤ y.2.2) → Kx τ2 (nI l1.length)) :
    ∀ (len : Nat) (l1 l2 : List Vic) (τ1 : CS), l1.length = len → l1 ++ l2 = L → chg [] [9] τ τ1 → GP (fun x => nI x.2.1) (τ1.2 9) l1 l2 → (∀ y, y ∈ l2 → y.2.2 < m) → ∃ c, lp_X5_gathers_27 lnM post Kx x2 (nI (tot A)) c τ1 (nI l1.length)
  | 0, l1, l2, τ1, hl, hLL, hO, hG, hs => by
    have h0 : l1 = [] := List.eq_nil_of_length_eq_zero hl
    subst h0
    exact ⟨1, fun _ => hp [] l2 τ1 hLL hO hG hs (fun l y q => absurd q.symm (by simp)), fun q => absurd (by decide) q⟩
  | len + 1, l1, l2, τ1, hl, hLL, hO, hG, hs => by
    rcases lst l1 with h0 | ⟨M, x, h0⟩
    · rw [h0] at hl; simp at hl
    · have a := shp_at (by rw [hb] at hS; exact hS)
      have hR1 : RM τ1 bs := hO.RM hS hR (by decide) (by decide) (by decide) (by decide)
      have hM : M.length = len := by rw [h0] at hl; simpa using hl
      have hLK : M.length + 1 < 128 := by rw [← hLL, h0] at hL; simp at hL; omega
      obtain ⟨P, Q, q1, q2, q3⟩ := hV x (by rw [← hLL, h0]; simp)
      have a2 := shp_at (by rw [q1] at hS; exact hS)
      have e1 : nI l1.length - 1 = nI M.length := by rw [h0, List.length_append]; exact nI_pred _
      have e2 : nI l1.length + (-1) = nI M.length := by rw [subm]; exact e1
      have e3 : (nI l1.length).toNatClampNeg = M.length + 1 := by rw [nI_clamp (by rw [h0]; simp; omega), h0]; simp
      have hpos : ¬ nI l1.length ≤ 0 := nI_nle (by omega) (by rw [h0]; simp; omega)
      have hx : τ1.2 9 M.length = nI (tot P) := by rw [q3]; exact hG.1 M x [] (by rw [h0])
      have heP : E1 τ1 (tot P) x.2.2 1 := by rw [q1] at hR1; exact RM_mid hR1
      have heA : E1 τ1 (tot A) m 1 := by rw [hb] at hR1; exact RM_mid hR1
      have gP := m_go hR1 hS (g := tot P) (by omega)
      have gA := m_go hR1 hS (g := tot A) (by omega)
      by_cases hc : m ≤ x.2.2
      · have hcc := hp l1 l2 τ1 hLL hO hG hs (fun l' y q => by
          have := List.append_inj' (h0.symm.trans q) rfl
          injection this.2 with q2
          rw [← q2]; exact hc)
        refine ⟨1, fun q => absurd q hpos, fun _ => ?_⟩
        rw [e1, nI_clamp (show M.length < 2 ^ 31 by omega), hx, gP.2.2, gA.2.2, heP.1, heA.1, nI_nleI (by omega) (by omega)]
        exact ⟨(vpI (by omega)).mpr (by show _ < 128; omega), gP.2.1, gA.2.1, fun _ => hcc, fun q => absurd (by omega) q⟩
      · have hG' : GP (fun x => nI x.2.1) ((setA τ1 9 (M.length + 1) (nI (tot P))).2 9) M (x :: l2) := by
          rw [h0] at hG
          have := GP_shift hG
          rw [hx] at this
          simp only [setA_2, if_true]
          exact this
        obtain ⟨c, hcc⟩ := lpx_27 (post := post) (x2 := x2) hR hS hb hL hV hp len M (x :: l2) (setA τ1 9 (M.length + 1) (nI (tot P))) hM (by rw [← hLL, h0]; simp) (hO.A _ _ (by decide)) hG' (fun y hy => by
          rcases List.mem_cons.mp hy with rfl | hy
          · omega
          · exact hs y hy)
        refine ⟨c + 1, fun q => absurd q hpos, fun _ => ?_⟩
        rw [e1, e2, e3, nI_clamp (show M.length < 2 ^ 31 by omega), hx, gP.2.2, gA.2.2, heP.1, heA.1, nI_nleI (by omega) (by omega)]
        refine ⟨(vpI (by omega)).mpr (by show _ < 128; omega), gP.2.1, gA.2.1, fun q => absurd q (by omega), fun _ => ⟨?_, hcc⟩⟩
        rw [h0, List.length_append]
        exact (vpI (by simp; omega)).mpr (by show _ < 128; simp; omega)
theorem lpx_gath {post : CS → Prop} {W C : List Blk} (hR : RM τ bs) (hS : shp N bs) (hb : bs = A ++ (W ++ C)) (hnp : nopin W) :
    ∀ (W2 W1 : List Blk) (acc : List Vic) (τ1 : CS), W = W1 ++ W2 → chg [6] [9] τ τ1 → VM τ1 acc → dsc acc → (∀ x, x ∈ acc → VB bs x) → acc.length + nl W2 ≤ 128 → (∀ τ', chg [6] [9] τ τ' → VM τ' (srt acc (vic (A.length + W1.length) (tot A + tot W1) W2)) → post τ') → lp_X5_gathers_7 lnM post (fun σ => post σ) (nI (tot A + tot W)) (W2.length + 1) τ1 (nI (tot A + tot W1))
  | [], W1, acc, τ1, hW, hO, hM, hd, hV, hl, hp => by
    rw [List.append_nil] at hW
    subst hW
    exact ⟨fun _ => hp τ1 hO hM, fun q => absurd (Int32.le_refl _) q⟩
  | (m, j) :: W2, W1, acc, τ1, hW, hO, hM, hd, hV, hl, hp => by
    have hR1 : RM τ1 bs := hO.RM hS hR (by decide) (by decide) (by decide) (by decide)
    have hb' : bs = (A ++ W1) ++ (m, j) :: (W2 ++ C) := by rw [hb, hW]; simp
    have a := shp_at (by rw [hb'] at hS; exact hS)
    have htW : tot W = tot W1 + (m + tot W2) := by rw [hW, tot_app, tot_cons]
    have htN : tot A + tot W ≤ 1023 := by
      have q1 := hS.1
      have q2 := hS.2.2
      rw [hb, tot_app, tot_app] at q1
      omega
    have htA : tot (A ++ W1) = tot A + tot W1 := tot_app A W1
    rw [htA] at a
    obtain ⟨g1, g2, g3⟩ := m_go hR1 hS (g := tot A + tot W1) (by omega)
    have he : E1 τ1 (tot A + tot W1) m j := by rw [hb'] at hR1; have := RM_mid hR1; rw [htA] at this; exact this
    have hA1 : A.length + (W1 ++ [(m, j)]).length = A.length + W1.length + 1 := by simp; omega
    have hA2 : tot A + tot (W1 ++ [(m, j)]) = tot A + tot W1 + m := by rw [tot_app, tot_cons, tot_nil]; show tot A + (tot W1 + (m + 0)) = _; omega
    refine ⟨fun q => absurd q ?_, fun _ => ⟨g2, fun hk => ⟨g2, ?_⟩, fun hk => ?_⟩⟩
    · rw [nI_leI (by omega) (by omega)]; omega
    · have hj : ¬ j = 1 := by
        intro e
        rw [g3, he.2.2.1, e] at hk
        exact absurd hk (by decide)
      rw [nl, if_neg (show ¬ (m, j).2 = 1 from hj)] at hl
      rw [vic, if_neg (show ¬ (m, j).2 = 1 from hj)] at hp
      rw [g3, he.1, nI_add, ← hA2]
      exact lpx_gath hR hS hb hnp W2 (W1 ++ [(m, j)]) acc τ1 (app_one hW) hO hM hd hV (by omega) (by rw [hA1, hA2]; exact hp)
    · have hj : j = 1 := by
        have q1 := hnp (m, j) (by rw [hW]; simp)
        have q1 : j ≠ 2 := q1
        have q2 : j ≠ 0 := by
          intro e
          rw [g3, he.2.2.1, if_pos e] at hk
          exact hk rfl
        omega
      subst hj
      rw [nl, if_pos (show (m, 1).2 = 1 from rfl)] at hl
      rw [vic, if_pos (show (m, 1).2 = 1 from rfl), srt] at hp
      rw [hM.1, ← htA]
      refine lpx_27 (post := post) (x2 := nI (tot A + tot W)) (L := acc) hR1 hS hb' (by omega) hV (fun l1 l2 τ2 hLL hO2 hG s1 s2 => ?_) acc.length acc [] τ1 rfl (by simp) chg.rf (GP_0 hM.2) (fun y hy => by cases hy)
      have hl1 : l1.length ≤ acc.length := by rw [← hLL]; simp
      rw [htA]
      have hR2 : RM τ2 bs := hO2.RM hS hR1 (by decide) (by decide) (by decide) (by decide)
      have he2 : E1 τ2 (tot A + tot W1) m 1 := by rw [hb'] at hR2; have := RM_mid hR2; rw [htA] at this; exact this
      refine ⟨(vpI (by omega)).mpr (by show _ < 128; omega), g2, ?_⟩
      have hins : ins (A.length + W1.length, tot A + tot W1, m) acc = l1 ++ (A.length + W1.length, tot A + tot W1, m) :: l2 := by
        rw [← hLL]
        exact ins_end s1 (by rw [hLL]; exact hd) s2
      rw [g3, he2.1, nI_add, ← hA2]
      refine lpx_gath hR hS hb hnp W2 (W1 ++ [(m, 1)]) (ins (A.length + W1.length, tot A + tot W1, m) acc) _ (app_one hW) ?_ ⟨?_, ?_⟩ (ins_dsc hd) (fun x hx => ?_) (by rw [ins_len]; omega) (by rw [hA1, hA2]; exact hp)
      · exact ((hO.tr (hO2.w (by simp) (by simp))).A _ _ (by decide)).F _ (by decide)
      · simp only [setF_1, if_true, setA_1]
        rw [hO2.1 6 (by decide), hM.1, nI_1, ins_len]
      · simp only [setF_2, setA_2, if_true]
        rw [nI_clamp (by omega), hins]
        exact GP_fill (enc := fun x => nI x.2.1) (x := (A.length + W1.length, tot A + tot W1, m)) hG
      · rcases ins_mem.mp hx with rfl | hx
        · exact ⟨A ++ W1, W2 ++ C, hb', by simp, htA⟩
        · exact hV x hx
theorem m_gathers {post : CS → Prop} {W C : List Blk} (hR : RM τ bs) (hS : shp N bs) (hb : bs = A ++ (W ++ C)) (hnp : nopin W) (hl : nl W ≤ 128) (hp : ∀ τ', chg [6] [9] τ τ' → VM τ' (srt [] (vic A.length (tot A) W)) → post τ') : wp_X5_gathers lnM τ (nI (tot A)) (nI (tot A + tot W)) post :=
  ⟨W.length + 1, lpx_gath (τ := τ) hR hS hb hnp W [] [] (setF τ 6 0) rfl (chg.rf.F _ (by decide)) ⟨rfl, fun a x b q => absurd q.symm (by simp)⟩ trivial (fun x hx => by cases hx) (by simpa using hl) hp⟩
/-- where a block lies against a cut -/
theorem cut_pos {A' R P Q : List Blk} {b : Blk} (hk : okB bs) (h1 : bs = A' ++ R) (h2 : bs = P ++ b :: Q) : (P.length < A'.length ↔ tot P < tot A') := by
  have hb1 : 1 ≤ b.1 := by rw [h2] at hk; exact (okB_cons.mp (okB_app.mp hk).2).1.1
  rcases sp_cases (h2.symm.trans h1) with ⟨c, e1, e2⟩ | ⟨c, e1, e2⟩
  · constructor
    · intro _; rw [e1, tot_app, tot_cons]; omega
    · intro _; rw [e1]; simp
  · constructor
    · intro q; rw [e1] at q; simp at q
      omega
    · intro q; rw [e1, tot_app] at q; omega
theorem pz_split {a e : Nat} : ∀ {bs P Q : List Blk} {x : Blk} {i : Nat}, pz a e i bs = P ++ x :: Q → ∃ P' b Q', bs = P' ++ b :: Q' ∧ P'.length = P.length ∧ tot P' = tot P ∧ x = (if i + P.length < a ∨ e ≤ i + P.length then fF b else fZ b)
  | [], P, Q, x, i, h => by rw [pz] at h; exact absurd h.symm (by simp)
  | b :: bs, [], Q, x, i, h => by
    rw [pz] at h
    injection h with h1 h2
    exact ⟨[], b, bs, rfl, rfl, rfl, by rw [← h1]; simp⟩
  | b :: bs, y :: P, Q, x, i, h => by
    rw [pz] at h
    injection h with h1 h2
    obtain ⟨P', b', Q', e1, e2, e3, e4⟩ := pz_split h2
    refine ⟨b :: P', b', Q', by rw [e1]; rfl, by rw [List.length_cons, List.length_cons, e2], ?_, by rw [e4, List.length_cons, show i + 1 + P.length = i + (P.length + 1) by omega]⟩
    rw [tot_cons, tot_cons, e3, ← h1]
    congr 1
    split <;> rfl
theorem lpx_p2 {post : Int32 → CS → Prop} {Kx : CS → Prop} {a e : Nat} (ha : a ≤ 1023) (he : e ≤ 1023) (hR : RM τ bs) (hS : shp N bs) (hp : ∀ τ', chg [] [11] τ τ' → (∀ g, g < N → τ'.2 11 g = nI (if g < a ∨ e ≤ g then fz bs g else 0)) → Kx τ') :
    ∀ (d g : Nat) (τ1 : CS), g + d = N → chg [] [11] τ τ1 → (∀ h, h < g → τ1.2 11 h = nI (if h < a ∨ e ≤ h then fz bs h else 0)) → lp_X5_places_2 lnM post Kx (nI a) (nI e) (d + 1) τ1 (nI g)
  | 0, g, τ1, hd, hO, hL => by
    have hN := hS.2.2
    have hR1 : RM τ1 bs := hO.RM hS hR (by decide) (by decide) (by decide) (by decide)
    have hg : g = N := by omega
    subst hg
    exact ⟨fun _ => hp τ1 hO hL, fun q => absurd (m_end hR1 hS (Nat.le_refl _) (by omega)) q⟩
  | d + 1, g, τ1, hd, hO, hL => by
    have hN := hS.2.2
    have hR1 : RM τ1 bs := hO.RM hS hR (by decide) (by decide) (by decide) (by decide)
    obtain ⟨g1, g2, g3⟩ := m_go hR1 hS (g := g) (by omega)
    have go : ∀ w, w = (if g < a ∨ e ≤ g then fz bs g else 0) → lp_X5_places_2 lnM post Kx (nI a) (nI e) (d + 1) (setA τ1 11 g (nI w)) (nI g + 1) := by
      intro w hw
      rw [nI_1]
      refine lpx_p2 ha he hR hS hp d (g + 1) _ (by omega) (hO.A _ _ (by decide)) (fun h hh => ?_)
      simp only [setA_2, if_true, upd_at]
      by_cases q : h = g
      · rw [if_pos q, q, hw]
      · rw [if_neg q]; exact hL h (by omega)
    refine ⟨fun q => absurd q g1, fun _ => m_fz hR1 hS (by omega) (fun hpos hsz => ⟨fun q => absurd q (by decide), fun _ => ⟨fun q => ⟨g2, g2, ?_⟩, fun q => ⟨fun q2 => ⟨g2, ?_⟩, fun q2 => ⟨g2, g2, ?_⟩⟩⟩⟩) (fun h0 => ⟨fun _ => ⟨g2, ?_⟩, fun q => absurd rfl q⟩)⟩
    · rw [nI_ltI (by omega) (by omega)] at q
      rw [g3, hsz]
      exact go _ (by rw [if_pos (Or.inl q)])
    · rw [nI_ltI (by omega) (by omega)] at q q2
      rw [g3]
      exact go 0 (by rw [if_neg (by omega)])
    · rw [nI_ltI (by omega) (by omega)] at q q2
      rw [g3, hsz]
      exact go _ (by rw [if_pos (Or.inr (by omega))])
    · rw [g3]
      exact go 0 (by rw [h0]; split <;> rfl)
theorem LM_ps0 {W C : List Blk} (hS : shp N bs) (hb : bs = A ++ (W ++ C)) (h : ∀ g, g < N → τ.2 11 g = nI (if g < tot A ∨ tot A + tot W ≤ g then fz bs g else 0)) : LM τ (ps0 A W C) := by
  intro P x Q q
  rw [← pz_ps0, ← hb] at q
  obtain ⟨P', b, Q', e1, e2, e3, e4⟩ := pz_split q
  obtain ⟨n, k⟩ := b
  have a := shp_at (by rw [e1] at hS; exact hS)
  have c1 := cut_pos hS.2.1 hb e1
  have c2 := cut_pos (A' := A ++ W) (R := C) hS.2.1 (by rw [hb]; simp) e1
  rw [List.length_append, tot_app] at c2
  have hx1 : x.1 = n := by rw [e4]; split <;> rfl
  rw [← e3]
  refine ⟨?_, fun j j1 j2 => ?_⟩
  · rw [h _ (by omega), fz_beg hS e1, e4, Nat.zero_add, ← e2]
    by_cases hc : P'.length < A.length ∨ A.length + W.length ≤ P'.length
    · rw [if_pos hc, if_pos (by omega)]
      rfl
    · rw [if_neg hc, if_neg (by omega)]
      rfl
  · rw [h _ (by omega), fz_blk e1 (by omega) (by omega)]
    split <;> rfl
end MADV
