/-! PURE: the reference: apply. -/
section MAPP
variable {N : Nat} {τ : CS} {bs cs ms A W B L R P Q ps X1 X2 Y1 Y2 Z1 Z2 : List Blk} {n k m g t : Nat} {x : Vic} {y : Blk}
theorem cpy_next {F : Nat → Int32} {lo : Nat} (hlo : lo < 4 * m - 1) (hd : t + m ≤ g ∨ g + m ≤ t) : upd (va_cpy F F (4 + 4 * g) (4 + 4 * t) lo) (4 + 4 * t + lo) (va_cpy F F (4 + 4 * g) (4 + 4 * t) lo (4 + 4 * g + lo)) = va_cpy F F (4 + 4 * g) (4 + 4 * t) (lo + 1) := by
  funext j
  rw [upd_at]
  unfold va_cpy
  by_cases h1 : j = 4 + 4 * t + lo
  · rw [if_pos h1, if_neg (by omega), if_pos (by omega), h1]
    exact congrArg F (by omega)
  · rw [if_neg h1]
    by_cases h2 : 4 + 4 * t ≤ j ∧ j < 4 + 4 * t + lo
    · rw [if_pos h2, if_pos (by omega)]
    · rw [if_neg h2, if_neg (by omega)]
theorem cpy_zf (f : Nat → Int32) (hd : t + m ≤ g ∨ g + m ≤ t) : va_cpy (zf f (4 + 4 * t) (4 + 4 * t + (4 * m - 1))) (zf f (4 + 4 * t) (4 + 4 * t + (4 * m - 1))) (4 + 4 * g) (4 + 4 * t) (4 * m - 1) = va_cpy f f (4 + 4 * g) (4 + 4 * t) (4 * m - 1) := by
  funext j
  unfold va_cpy zf
  by_cases h : 4 + 4 * t ≤ j ∧ j < 4 + 4 * t + (4 * m - 1)
  · rw [if_pos h, if_pos h, if_neg (by omega)]
  · rw [if_neg h, if_neg h, if_neg h]
theorem lpx_37 {post : CS → Prop} {Kx : CS → Prop} {F : Nat → Int32} (hg : g + m ≤ 1023) (ht : t + m ≤ 1023) (hm : 1 ≤ m) (hd : t + m ≤ g ∨ g + m ≤ t) (hp : ∀ τ', chg [] [4] τ τ' → τ'.2 4 = va_cpy F F (4 + 4 * g) (4 + 4 * t) (4 * m - 1) → Kx τ') :
    ∀ (d lo : Nat) (τ1 : CS), lo + d = 4 * m - 1 → chg [] [4] τ τ1 → τ1.2 4 = va_cpy F F (4 + 4 * g) (4 + 4 * t) lo → lp_X5_goes_37 lnM post Kx (nI g) (nI t) (nI m) (d + 1) τ1 (nI lo)
  | 0, lo, τ1, h, hO, hF => by
    refine ⟨fun _ => hp τ1 hO (by rw [hF, show lo = 4 * m - 1 by omega]), fun q => absurd ?_ q⟩
    rw [iLit 4, iLit 1, pk_mul, pk_sub (by omega), nI_leI (by omega) (by omega)]
    omega
  | d + 1, lo, τ1, h, hO, hF => by
    refine ⟨fun q => absurd q ?_, fun _ => m_address (m_address ?_)⟩
    · rw [iLit 4, iLit 1, pk_mul, pk_sub (by omega), nI_leI (by omega) (by omega)]
      omega
    · rw [nI_add, nI_add, nI_clamp (by omega), nI_clamp (by omega), nI_1]
      refine ⟨(vpI (by omega)).mpr (by show _ < 4097; omega), (vpI (by omega)).mpr (by show _ < 4097; omega), ?_⟩
      refine lpx_37 hg ht hm hd hp d (lo + 1) _ (by omega) (hO.A _ _ (by decide)) ?_
      simp only [setA_2, if_true]
      rw [hF]
      exact cpy_next (m := m) (by omega) hd
theorem m_goes {post : CS → Prop} (hR : RM τ ms) (hS : shp N ms) (h1 : ms = X1 ++ (m, k) :: X2) (hg : tot X1 = g) (h2 : ms = Y1 ++ (n, 0) :: Y2) (ht : tot Y1 = t) (hmn : m ≤ n) (h3 : Y1 ++ gvn 0 m n Y2 = Z1 ++ (m, 1) :: Z2) (hz : tot Z1 = g) (hd : t + m ≤ g ∨ g + m ≤ t)
    (hp : ∀ τ', RM τ' (Z1 ++ (m, 0) :: Z2) → τ'.2 4 = va_cpy (τ.2 4) (τ.2 4) (4 + 4 * g) (4 + 4 * t) (4 * m - 1) → chg [] [0, 1, 2, 3, 4] τ τ' → post τ') : wp_X5_goes lnM τ (nI g) (nI t) post := by
  have a := shp_at (by rw [h1] at hS; exact hS)
  have b := shp_at (by rw [h2] at hS; exact hS)
  obtain ⟨g1, g2, g3⟩ := m_go hR hS (g := g) (by omega)
  obtain ⟨f1, f2, f3⟩ := m_go hR hS (g := t) (by omega)
  have heX : E1 τ (tot X1) m k := by rw [h1] at hR; exact RM_mid hR
  have heY : E1 τ (tot Y1) n 0 := by rw [h2] at hR; exact RM_mid hR
  rw [hg] at heX
  rw [ht] at heY
  refine ⟨g2, 1, f2, fun _ => ?_, fun q => absurd q ?_⟩
  · rw [g3, heX.1]
    have htk := m_takes (post := fun σ7 => (∃ n15 : Nat, lp_X5_goes_37 lnM post (fun σ16 => (vp_in (nI g) (lnM 2) ∧ post (setA σ16 2 g (vp_nar .boolean 0)))) (nI g) (nI t) (nI m) n15 σ7 0)) (d := 0) (m := m) hR hS h2 (by omega) (by omega) (fun τ2 hR2 hM2 hn2 hr2 => ?_)
    · rw [Nat.add_zero, ht] at htk
      exact htk
    · rw [Nat.add_zero, ht] at hM2
      refine ⟨4 * m - 1 + 1, ?_⟩
      refine lpx_37 (τ := τ2) (post := post) (F := zf (τ.2 4) (4 + 4 * t) (4 + 4 * t + (4 * m - 1))) (by omega) (by omega) (by omega) hd (fun τ3 hO3 hM3 => ⟨g2, ?_⟩) (4 * m - 1) 0 τ2 (by omega) chg.rf ?_
      · rw [hM2]
        funext j
        unfold va_cpy
        rw [if_neg (by omega)]
      · rw [cpy_zf _ hd] at hM3
        rw [b00]
        have hS2 : shp N (Y1 ++ gvn 0 m n Y2) := shp_gv (by rw [← h2]; exact hS) (by omega) (by omega)
        have hR3 : RM τ3 (Y1 ++ gvn 0 m n Y2) := hO3.RM hS2 hR2 (by decide) (by decide) (by decide) (by decide)
        rw [h3] at hR3 hS2
        refine hp _ ?_ ?_ ⟨fun j _ => ?_, fun j hj => ?_⟩
        · refine RM_one (τ := τ3) (k := 1) hS2 hR3 rfl rfl (fun h q => ?_) (fun h q => rfl) ?_ (fun q => absurd rfl q)
          · simp only [setA_2, if_true, upd_at]
            rw [hz] at q
            rw [if_neg q]
          · simp only [setA_2, if_true, upd_at, hz]
        · show τ3.2 4 = _
          exact hM3
        · show τ3.1 j = τ.1 j
          rw [hO3.1 j (by simp), hn2 j]
        · have hj4 : 4 < j := by
            simp at hj
            omega
          rw [setA_2, if_neg (fun e => hj (by rw [e]; decide)), hO3.2 j (fun e => hj (by simp at e; rw [e]; decide))]
          exact hr2 j hj4
  · rw [f3, heY.1, iLit 0, nI_eq (by omega) (by decide)]
    omega
/-- the marked blocks, where all marks lie in the window -/
theorem mk_LWR {S : List Nat} {g0 : Nat} (hk : okB cs) (h : cs = L ++ (W ++ R)) (hL : tot L = g0) (hs : ∀ s, s ∈ S → g0 ≤ s ∧ s < g0 + tot W) : mk S 0 cs = L ++ (mk S g0 W ++ R) := by
  rw [h] at hk
  have k1 := okB_app.mp hk
  have k2 := okB_app.mp k1.2
  rw [h, mk_app, mk_app, Nat.zero_add, hL, mk_out k1.1 (fun s q => by have := hs s q; omega), mk_out k2.2 (fun s q => by have := hs s q; omega)]
theorem lpx_24 {post : Int32 → CS → Prop} {Kx : CS → Prop} {vs : List Vic} {ts : List Nat} (hl : vs.length ≤ 128) (h4 : τ.1 4 = nI vs.length) (h5 : AR (fun x => nI x.2.1) (τ.2 5) vs) (h6 : ∀ a t b, ts = a ++ t :: b → τ.2 6 a.length = nI t) (hV : ∀ x, x ∈ vs → VW A W x) (hm : ∀ x, x ∈ vs → 1 ≤ x.2.2) (hnd : nd vs) :
    ∀ (v2 v1 : List Vic) (t2 t1 : List Nat) (ps cs L R : List Blk) (τ1 : CS), vs = v1 ++ v2 → ts = t1 ++ t2 → t1.length = v1.length → INV A W N ps cs L R → plA v2 ps = some t2 → RM τ1 (mk (v1.map (fun x => x.2.1)) 0 cs) → chg [] [0, 1, 2, 3, 4, 7, 8] τ τ1 → AR (fun x => nI (4 + 4 * x.2.1)) (τ1.2 7) v1 → (∀ a t b, t1 = a ++ t :: b → τ1.2 8 a.length = nI (4 + 4 * t)) →
      (∀ τ', RM τ' (mk (vs.map (fun x => x.2.1)) 0 (appl v2 t2 cs)) → shp N (appl v2 t2 cs) → τ'.2 4 = cms v2 t2 (τ1.2 4) → chg [] [0, 1, 2, 3, 4, 7, 8] τ τ' → AR (fun x => nI (4 + 4 * x.2.1)) (τ'.2 7) vs → (∀ a t b, ts = a ++ t :: b → τ'.2 8 a.length = nI (4 + 4 * t)) → Kx τ') → lp_X5_apply_24 lnM post Kx (v2.length + 1) τ1 (nI v1.length)
  | [], v1, t2, t1, ps, cs, L, R, τ1, h1, h2, h3, hI, hp, hR, hO, h7, h8, hk => by
    rw [List.append_nil] at h1
    have ht2 : t2 = [] := by
      injection hp with hp
      exact hp.symm
    rw [ht2, List.append_nil] at h2
    subst h1 h2 ht2
    refine ⟨fun _ => hk τ1 hR hI.2.2.2.2 rfl hO h7 h8, fun q => absurd ?_ q⟩
    rw [hO.1 4 (by decide), h4]
    exact Int32.le_refl _
  | x :: v2, v1, t2, t1, ps, cs, L, R, τ1, h1, h2, h3, hI, hp, hR, hO, h7, h8, hk => by
    obtain ⟨P, y, Q, ts', e1, e2, e3, e4⟩ := plA_inv hp
    have hx : x ∈ vs := by rw [h1]; simp
    have hx1 := hm x hx
    obtain ⟨L', R', hI', hcase⟩ := INV_step hI e2 hx1 e3 rfl
    have hlen : v1.length + 1 + v2.length = vs.length := by rw [h1]; simp; omega
    have hcl : (nI v1.length).toNatClampNeg = v1.length := nI_clamp (by omega)
    have hgo : ¬ τ1.1 4 ≤ nI v1.length := by rw [hO.1 4 (by decide), h4, nI_leI (by omega) (by omega)]; omega
    have hin : vp_in (nI v1.length) 128 := (vpI (by omega)).mpr (by omega)
    have e5 : τ1.2 5 v1.length = nI x.2.1 := by rw [hO.2 5 (by decide)]; exact h5 v1 x v2 h1
    have e6 : τ1.2 6 v1.length = nI (tot P + y.1 - y.2) := by rw [hO.2 6 (by decide), ← h3]; exact h6 t1 _ ts' (by rw [h2, e1])
    generalize htt : tot P + y.1 - y.2 = t at *
    subst e1
    obtain ⟨W1, W2, w1, w2⟩ := hV x hx
    have hS := hI.2.2.2.2
    have hWt : tot W = tot W1 + (x.2.2 + tot W2) := by rw [w1, tot_app, tot_cons]
    have hrng : ∀ s, s ∈ v1.map (fun x => x.2.1) → tot A ≤ s ∧ s < tot A + tot W := by
      intro s hs
      obtain ⟨z, z1, z2⟩ := List.mem_map.mp hs
      have hzv : z ∈ vs := by rw [h1]; simp [z1]
      obtain ⟨U1, U2, u1, u2⟩ := hV z hzv
      have := hm z hzv
      have hUt : tot W = tot U1 + (z.2.2 + tot U2) := by rw [u1, tot_app, tot_cons]
      have z2 : z.2.1 = s := z2
      omega
    have hns : tot A + tot W1 ∉ v1.map (fun x => x.2.1) := by
      intro q
      obtain ⟨z, z1, z2⟩ := List.mem_map.mp q
      have z2 : z.2.1 = tot A + tot W1 := z2
      exact nd_app (by rw [← h1]; exact hnd) z z1 (by rw [z2, w2])
    have hrng2 : ∀ s, s ∈ (v1 ++ [x]).map (fun x => x.2.1) → tot A ≤ s ∧ s < tot A + tot W := by
      intro s hs
      rw [List.map_append] at hs
      rcases List.mem_append.mp hs with q | q
      · exact hrng s q
      · have : s = x.2.1 := by simpa using q
        omega
    have hmkW : mk (v1.map (fun x => x.2.1)) (tot A) W = mk (v1.map (fun x => x.2.1)) (tot A) W1 ++ (x.2.2, 1) :: mk (v1.map (fun x => x.2.1)) (tot A + tot W1 + x.2.2) W2 := by rw [w1]; exact mk_was hns
    have hoW : okB W := by
      have := hS.2.1
      rw [hI.1] at this
      exact (okB_app.mp (okB_app.mp this).2).1
    have hmkW2 : mk ((v1 ++ [x]).map (fun x => x.2.1)) (tot A) W = mk (v1.map (fun x => x.2.1)) (tot A) W1 ++ (x.2.2, 0) :: mk (v1.map (fun x => x.2.1)) (tot A + tot W1 + x.2.2) W2 := by
      have := mk_one (S := v1.map (fun x => x.2.1)) (g := tot A) (m := x.2.2) (k := 1) (W1 := W1) (W2 := W2) (by rw [← w1]; exact hoW)
      rw [← w1] at this
      rw [← this, List.map_append, ← w2]
      rfl
    have hms := mk_LWR (S := v1.map (fun x => x.2.1)) hS.2.1 hI.1 hI.2.2.1 hrng
    have hms2 := mk_LWR (S := (v1 ++ [x]).map (fun x => x.2.1)) hI'.2.2.2.2.2.1 hI'.1 hI'.2.2.1 hrng2
    have hSm : shp N (mk (v1.map (fun x => x.2.1)) 0 cs) := ⟨by rw [mk_tot]; exact hS.1, mk_okB hS.2.1, hS.2.2⟩
    have hLt := hI.2.2.1
    have hLt' := hI'.2.2.1
    refine ⟨fun q => absurd q hgo, fun _ => ⟨hin, ?_⟩⟩
    rw [hcl, e5]
    refine m_address ⟨hin, hin, ?_⟩
    rw [e6]
    refine m_address (τ := setA τ1 7 v1.length (nI (4 + 4 * x.2.1))) ⟨hin, ?_⟩
    have e5' : (setA τ1 7 v1.length (nI (4 + 4 * x.2.1))).2 5 v1.length = nI x.2.1 := e5
    have e6' : (setA τ1 7 v1.length (nI (4 + 4 * x.2.1))).2 6 v1.length = nI t := e6
    rw [e5', e6', nI_1]
    generalize hτ2 : setA (setA τ1 7 v1.length (nI (4 + 4 * x.2.1))) 8 v1.length (nI (4 + 4 * t)) = τ2
    have hO2 : chg [] [0, 1, 2, 3, 4, 7, 8] τ τ2 := by rw [← hτ2]; exact (hO.A _ _ (by decide)).A _ _ (by decide)
    have hR2 : RM τ2 (mk (v1.map (fun x => x.2.1)) 0 cs) := by rw [← hτ2]; exact RM_other hSm hR rfl rfl rfl rfl
    have hM2 : τ2.2 4 = τ1.2 4 := by rw [← hτ2]; rfl
    have h72 : AR (fun x => nI (4 + 4 * x.2.1)) (τ2.2 7) (v1 ++ [x]) := by
      rw [← hτ2]
      intro a z b q
      simp only [setA_2, Nat.reduceEqDiff, if_true, if_false, upd_at]
      rcases sp_cases q.symm with ⟨c, f1, f2⟩ | ⟨c, f1, f2⟩
      · have hl' : a.length < v1.length := by rw [f1]; simp
        rw [if_neg (by omega)]
        exact h7 a z c f1
      · rcases sp_cons f2.symm with ⟨rfl, f3, f4⟩ | ⟨c2, rfl, f3⟩
        · rw [List.append_nil] at f1
          rw [if_pos (by rw [f1]), f3]
        · exact absurd f3.symm (by simp)
    have h82 : ∀ a t' b, t1 ++ [t] = a ++ t' :: b → τ2.2 8 a.length = nI (4 + 4 * t') := by
      rw [← hτ2]
      intro a z b q
      simp only [setA_2, if_true, upd_at]
      rcases sp_cases q.symm with ⟨c, f1, f2⟩ | ⟨c, f1, f2⟩
      · have hl' : a.length < t1.length := by rw [f1]; simp
        rw [if_neg (by omega)]
        exact h8 a z c f1
      · rcases sp_cons f2.symm with ⟨rfl, f3, f4⟩ | ⟨c2, rfl, f3⟩
        · rw [List.append_nil] at f1
          rw [if_pos (by rw [f1, h3]), f3]
        · exact absurd f3.symm (by simp)
    have next : ∀ τ', RM τ' (mk ((v1 ++ [x]).map (fun x => x.2.1)) 0 (putB x.2.2 t cs)) → τ'.2 4 = va_cpy (τ2.2 4) (τ2.2 4) (4 + 4 * x.2.1) (4 + 4 * t) (4 * x.2.2 - 1) → chg [] [0, 1, 2, 3, 4] τ2 τ' → lp_X5_apply_24 lnM post Kx (v2.length + 1) τ' (nI (v1.length + 1)) := by
      intro τ' q1 q2 q3
      have := lpx_24 (post := post) hl h4 h5 h6 hV hm hnd v2 (v1 ++ [x]) ts' (t1 ++ [t]) _ _ L' R' τ' (by rw [h1]; simp) (by rw [h2]; simp) (by simp [h3]) hI' e4 q1 (hO2.tr (q3.w (by simp) (by simp))) (by rw [q3.2 7 (by decide)]; exact h72) (by rw [q3.2 8 (by decide)]; exact h82) (fun τ4 p1 p2 p3 p4 p5 p6 => hk τ4 p1 p2 (by rw [p3, q2, hM2]; rfl) p4 p5 p6)
      rw [List.length_append] at this
      exact this
    rcases hcase with ⟨P', Q', f1, f2, f3, f4⟩ | ⟨P', Q', f1, f2, f3, f4⟩
    · refine m_goes (N := N) (m := x.2.2) (k := 1) (n := y.2) (X1 := L ++ mk (v1.map (fun x => x.2.1)) (tot A) W1) (X2 := mk (v1.map (fun x => x.2.1)) (tot A + tot W1 + x.2.2) W2 ++ R) (Y1 := P') (Y2 := Q' ++ (mk (v1.map (fun x => x.2.1)) (tot A) W ++ R)) (Z1 := L' ++ mk (v1.map (fun x => x.2.1)) (tot A) W1) (Z2 := mk (v1.map (fun x => x.2.1)) (tot A + tot W1 + x.2.2) W2 ++ R) hR2 hSm ?_ ?_ ?_ f2 e3 ?_ ?_ ?_ (fun τ' q1 q2 q3 => next τ' ?_ q2 q3)
      · rw [hms, hmkW]; simp
      · rw [tot_app, mk_tot]; omega
      · rw [hms, f1]; simp
      · rw [gvn_app, f3, hmkW]; simp
      · rw [tot_app, mk_tot]; omega
      · have : tot L = t + (y.2 + tot Q') := by rw [f1, tot_app, tot_cons, f2]
        omega
      · rw [hms2, hmkW2, f4]
        simpa using q1
    · have htL : tot (L ++ (mk (v1.map (fun x => x.2.1)) (tot A) W ++ P')) = t := by rw [tot_app, tot_app, mk_tot]; omega
      refine m_goes (N := N) (m := x.2.2) (k := 1) (n := y.2) (X1 := L ++ mk (v1.map (fun x => x.2.1)) (tot A) W1) (X2 := mk (v1.map (fun x => x.2.1)) (tot A + tot W1 + x.2.2) W2 ++ R) (Y1 := L ++ (mk (v1.map (fun x => x.2.1)) (tot A) W ++ P')) (Y2 := Q') (Z1 := L ++ mk (v1.map (fun x => x.2.1)) (tot A) W1) (Z2 := mk (v1.map (fun x => x.2.1)) (tot A + tot W1 + x.2.2) W2 ++ R') hR2 hSm ?_ ?_ ?_ htL e3 ?_ ?_ ?_ (fun τ' q1 q2 q3 => next τ' ?_ q2 q3)
      · rw [hms, hmkW]; simp
      · rw [tot_app, mk_tot]; omega
      · rw [hms, f1]; simp
      · rw [f3, hmkW]; simp
      · rw [tot_app, mk_tot]; omega
      · omega
      · rw [hms2, hmkW2, f4]
        simpa using q1
theorem M_apply {post : Int32 → CS → Prop} {C : List Blk} {g : Nat} {vs : List Vic} {ts : List Nat} (hl : vs.length ≤ 128) (hR : RM τ bs) (hS : shp N bs) (hj : nadj bs) (hbm : bM τ (some (g, vs, ts))) (hb : bs = A ++ (W ++ C)) (hv : vs = srt [] (vic A.length (tot A) W)) (hp : plA vs (ps0 A W C) = some ts)
    (hpost : ∀ τ', RM τ' (aft vs ts bs) → τ'.2 4 = cms vs ts (τ.2 4) → τ'.1 2 = 0 → TG 5 7 8 τ' vs ts → shp N (aft vs ts bs) → post (nI vs.length) τ') : wp_X5_apply lnM τ post := by
  obtain ⟨hV, hm, hnd, hvl⟩ := adv_vics hS hb hv
  obtain ⟨b1, b2, b3, b4, b5, b6⟩ := hbm
  refine ⟨fun _ => ⟨vs.length + 1, ?_⟩, fun q => absurd q (by rw [b1]; decide)⟩
  have hI0 : INV A W N (ps0 A W C) bs A C := by rw [hb] at hS hj ⊢; exact INV_0 hS hj
  refine lpx_24 (τ := setF (setF τ 0 0) 5 (τ.1 4)) (post := post) hl b3 b5 b6 hV hm hnd vs [] ts [] (ps0 A W C) bs A C _ rfl rfl rfl hI0 hp (by rw [List.map_nil, mk_none]; exact RM_other hS hR rfl rfl rfl rfl) chg.rf (fun a z b q => absurd q.symm (by simp)) (fun a z b q => absurd q.symm (by simp)) (fun τ2 hR2 hS2 hM2 hO2 h7 h8 => ?_)
  have hSm : shp N (mk (vs.map (fun x => x.2.1)) 0 (appl vs ts bs)) := ⟨by rw [mk_tot]; exact hS2.1, mk_okB hS2.2.1, hS2.2.2⟩
  refine m_joins hR2 hSm (fun τ3 hR3 hO3 => ?_)
  have e5 : τ3.1 5 = nI vs.length := by rw [hO3.1, hO2.1 5 (by simp)]; exact b3
  rw [e5]
  have hSa : shp N (aft vs ts bs) := shp_norm hSm
  refine hpost _ (RM_other hSa hR3 rfl rfl rfl rfl) ?_ rfl ⟨e5, b4, ?_, ?_⟩ hSa
  · show τ3.2 4 = _
    rw [hO3.2 4 (by decide) (by decide) (by decide), hM2]
    rfl
  · show AR _ (τ3.2 7) _
    rw [hO3.2 7 (by decide) (by decide) (by decide)]
    exact h7
  · show ∀ a t b, ts = a ++ t :: b → τ3.2 8 a.length = _
    rw [hO3.2 8 (by decide) (by decide) (by decide)]
    exact h8
end MAPP
