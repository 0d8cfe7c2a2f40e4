/-! PURE: depth, in the class and in the reference; count. -/
def spOnly (σ σ' : CS) : Prop := (∀ k, σ'.1 k = σ.1 k) ∧ ∀ k, k ≠ 7 → k ≠ 8 → σ'.2 k = σ.2 k
def SA (σ : CS) (l : List (Nat × Nat)) : Prop := ∀ l1 x l2, l = l1 ++ x :: l2 → σ.2 7 l1.length = nI (4 * x.1) ∧ σ.2 8 l1.length = nI x.2
section DC
variable {Hd N K : Nat} {σ : CS} {bs A B : List Blk} {n k m : Nat}
theorem lpx_dos {post : Int32 → CS → Prop} {Kx : CS → Int32 → Prop} {l l1 l2 : List (Nat × Nat)} (hN : N ≤ 1023) (hA : SA σ l) (hl : l = l1 ++ l2) (hlen : l.length ≤ N) (hm : ∀ x, x ∈ l → x.2 ≤ 1023) (hp : Kx σ (nI (dl l2))) :
    ∀ (len : Nat) (M R : List (Nat × Nat)), M.length = len → l2 = M ++ R → ∃ c, lp_X3_depthOfSpine_7 (lnC Hd N K) post Kx (nI l1.length) c σ (nI (dl R)) (nI (l1.length + M.length) - 1)
  | 0, M, R, hM, h2 => by
    have h0 : M = [] := List.eq_nil_of_length_eq_zero hM
    subst h0
    rw [List.nil_append] at h2
    subst h2
    have hlen2 : l1.length ≤ 1023 := by rw [hl] at hlen; simp at hlen; omega
    refine ⟨1, fun _ => hp, fun q => absurd ?_ q⟩
    rw [Int32.lt_iff_toInt_lt]
    rcases Nat.eq_zero_or_pos l1.length with e | e
    · rw [show l1.length + ([] : List (Nat × Nat)).length = 0 by simp [e], e]; decide
    · rw [iLit 1, pk_sub (by simp; omega), nI_toInt (by simp; omega), nI_toInt (by omega)]
      simp
      omega
  | len + 1, M, R, hM, h2 => by
    rcases lst M with h0 | ⟨M', x, h0⟩
    · rw [h0] at hM; simp at hM
    · have hM' : M'.length = len := by rw [h0] at hM; simpa using hM
      have hR2 : l2 = M' ++ (x :: R) := by rw [h2, h0]; simp
      obtain ⟨c, hc⟩ := lpx_dos (post := post) hN hA hl hlen hm hp len M' (x :: R) hM' hR2
      have hlx : l = (l1 ++ M') ++ x :: R := by rw [hl, hR2]; simp
      have hq := hA (l1 ++ M') x R hlx
      have hL : (l1 ++ M').length = l1.length + M'.length := by simp
      have hb : l1.length + M'.length < N := by rw [hlx] at hlen; simp at hlen; omega
      have e : nI (l1.length + M.length) - 1 = nI (l1.length + M'.length) := by
        rw [h0, show l1.length + (M' ++ [x]).length = (l1.length + M'.length) + 1 by simp; omega]; exact nI_pred _
      have hRm : dl R ≤ R.length + 1023 := dl_le (fun y hy => hm y (by rw [hlx]; simp [hy]))
      have hRl : R.length ≤ N := by rw [hlx] at hlen; simp at hlen; omega
      have hx2 : x.2 ≤ 1023 := hm x (by rw [hlx]; simp)
      rw [e]
      refine ⟨c + 1, fun q => absurd q ?_, fun _ => ⟨(vpI (by omega)).mpr hb, ?_⟩⟩
      · rw [nI_ltI (by omega) (by omega)]; omega
      · rw [nI_clamp (by omega), ← hL, hq.2, nI_max (by omega) (by omega), hL, subm, show (1 : Int32) + nI (max (dl R) x.2) = nI (dl (x :: R)) by rw [iLit 1, nI_add, dl]; exact congrArg nI (by omega)]
        exact hc
theorem s_dos {post : Int32 → CS → Prop} {l l1 l2 : List (Nat × Nat)} (hN : N ≤ 1023) (hA : SA σ l) (hl : l = l1 ++ l2) (hlen : l.length ≤ N) (hm : ∀ x, x ∈ l → x.2 ≤ 1023) (hp : post (nI (dl l2)) σ) : wp_X3_depthOfSpine (lnC Hd N K) σ (nI l1.length) (nI l.length) post := by
  have h := lpx_dos (Hd := Hd) (K := K) (post := post) (Kx := fun σ x => post x σ) hN hA hl hlen hm hp l2.length l2 [] rfl (by simp)
  unfold wp_X3_depthOfSpine
  rw [show l.length = l1.length + l2.length by rw [hl]; simp]
  exact h
theorem lpx_pop {post : Int32 → CS → Prop} {Kx : CS → Int32 → Prop} {l : List (Nat × Nat)} {x1 : Int32} {m : Nat} (hR : RC σ bs) (hS : shp N bs) (hb : bs = A ++ (m, k) :: B) (hA : SA σ l) (hlen : l.length ≤ N) (hm : ∀ x, x ∈ l → x.1 ≤ 1023)
    (hp : ∀ l1 l2, l = l1 ++ l2 → (∀ x, x ∈ l2 → x.1 < m) → (∀ l' x, l1 = l' ++ [x] → m ≤ x.1) → Kx σ (nI l1.length)) :
    ∀ (len : Nat) (l1 l2 : List (Nat × Nat)), l1.length = len → l = l1 ++ l2 → (∀ x, x ∈ l2 → x.1 < m) → ∃ c, lp_X3_depth_29 (lnC Hd N K) post Kx x1 (nI A.length) c σ (nI l1.length)
  | 0, l1, l2, hl1, hl, hs => by
    have h0 : l1 = [] := List.eq_nil_of_length_eq_zero hl1
    subst h0
    exact ⟨1, fun _ => hp [] l2 hl hs (fun l' x q => absurd q.symm (by simp)), fun q => absurd (by decide) q⟩
  | len + 1, l1, l2, hl1, hl, hs => by
    rcases lst l1 with h0 | ⟨M, x, h0⟩
    · rw [h0] at hl1; simp at hl1
    · have a := shp_at (by rw [hb] at hS; exact hS)
      have hM : M.length = len := by rw [h0] at hl1; simpa using hl1
      have hlx : l = M ++ x :: l2 := by rw [hl, h0]; simp
      have hq := hA M x l2 hlx
      have hbd : M.length < N := by rw [hlx] at hlen; simp at hlen; omega
      have hx := hm x (by rw [hlx]; simp)
      have e1 : nI l1.length - 1 = nI M.length := by rw [h0, List.length_append]; exact nI_pred _
      have e2 : nI l1.length + (-1) = nI M.length := by rw [subm]; exact e1
      have hpos : ¬ nI l1.length ≤ 0 := nI_nle (by omega) (by omega)
      by_cases hc : m ≤ x.1
      · have hcc := hp l1 l2 hl hs (fun l' y q => by
          have := List.append_inj' (h0.symm.trans q) rfl
          injection this.2 with q2
          rw [← q2]; exact hc)
        refine ⟨1, fun q => absurd q hpos, fun _ => ?_⟩
        rw [e1, r4 hR hS hb, nI_clamp (by omega), hq.1, nI_nleI (by omega) (by omega)]
        exact ⟨(vpI (by omega)).mpr hbd, (c_go hR hS hb).2.1, fun _ => hcc, fun q => absurd (by omega) q⟩
      · obtain ⟨c, hcc⟩ := lpx_pop (post := post) (x1 := x1) hR hS hb hA hlen hm hp len M (x :: l2) hM hlx (fun y hy => by
          rcases List.mem_cons.mp hy with rfl | hy
          · omega
          · exact hs y hy)
        refine ⟨c + 1, fun q => absurd q hpos, fun _ => ?_⟩
        rw [e1, e2, r4 hR hS hb, nI_clamp (by omega), hq.1, nI_nleI (by omega) (by omega)]
        exact ⟨(vpI (by omega)).mpr hbd, (c_go hR hS hb).2.1, fun q => absurd q (by omega), fun _ => hcc⟩
theorem SA_ins {l1 l2 : List (Nat × Nat)} {s d : Nat} (h : SA σ (l1 ++ l2)) : SA (setA (setA σ 8 l1.length (nI d)) 7 l1.length (nI (4 * s))) (l1 ++ [(s, d)]) := by
  intro a x b hab
  simp only [setA_2, Nat.reduceEqDiff, if_true, if_false, upd_at]
  rcases sp_cases hab.symm with ⟨c, h1, h2⟩ | ⟨c, h1, h2⟩
  · have hl : a.length < l1.length := by rw [h1]; simp
    rw [if_neg (by omega), if_neg (by omega)]
    exact h a x (c ++ l2) (by rw [h1]; simp)
  · rcases sp_cons h2.symm with ⟨rfl, h3, h4⟩ | ⟨c2, rfl, h3⟩
    · rw [List.append_nil] at h1
      subst h1
      subst h3
      rw [if_pos rfl, if_pos rfl]
      exact ⟨rfl, rfl⟩
    · exact absurd h3.symm (by simp)
theorem lpx_depth {post : Int32 → CS → Prop} {Kx : CS → Int32 → Prop} (hS : shp N bs) (hp : ∀ σ' l, spOnly σ σ' → SA σ' l → l.length ≤ N → Sp (fz bs) N l 0 → Kx σ' (nI l.length)) :
    ∀ (B A : List Blk) (l : List (Nat × Nat)) (σ1 : CS), bs = A ++ B → RC σ1 bs → spOnly σ σ1 → SA σ1 l → l.length ≤ A.length → Sp (fz bs) (tot A) l 0 → ∃ c, lp_X3_depth_4 (lnC Hd N K) post Kx c σ1 (nI l.length) (nI A.length)
  | [], A, l, σ1, hb, hR, hO, hA, hl, hs => by
    have h2 := shp_len hS
    have ht : tot A = N := by rw [List.append_nil] at hb; rw [← hb]; exact hS.1
    rw [ht] at hs
    exact ⟨1, fun _ => hp σ1 l hO hA (by have : A.length = bs.length := by rw [hb]; simp
                                         omega) hs, fun q => absurd (c_end hR hb) q⟩
  | (m, j) :: B, A, l, σ1, hb, hR, hO, hA, hl, hs => by
    have a := shp_at (by rw [hb] at hS; exact hS)
    obtain ⟨g1, g2, g3⟩ := c_go hR hS hb
    have zbeg := fz_beg hS hb
    have zin : ∀ i, tot A < i → i < tot A + m → fz bs i = 0 := fun i q1 q2 => fz_blk hb q1 q2
    have ht : tot (A ++ [(m, j)]) = tot A + m := by rw [tot_app, tot_cons, tot_nil]; show tot A + (m + 0) = _; omega
    by_cases hj : j = 0
    · subst hj
      rw [if_pos rfl] at zbeg
      have hk0 : σ1.2 5 (nI A.length).toNatClampNeg = 0 := (r5 hR hS hb).trans rfl
      have hmx : ∀ x, x ∈ l → x.1 ≤ 1023 := fun x hx => by
        obtain ⟨h, -, -, q3⟩ := Sp_mem hs x hx
        rw [q3]; exact fz_N hS h
      have hmd : ∀ x, x ∈ l → x.2 ≤ 1023 := Sp_bnd (by omega) hs
      -- the next turn, for the split that the popping finds
      have next : ∀ l1 l2, l = l1 ++ l2 → (∀ x, x ∈ l2 → x.1 < m) → (∀ l' x, l1 = l' ++ [x] → m ≤ x.1) → ∃ c, lp_X3_depth_4 (lnC Hd N K) post Kx c (setA (setA σ1 8 l1.length (nI (dl l2))) 7 l1.length (nI (4 * m))) (nI (l1 ++ [(m, dl l2)]).length) (nI (A ++ [(m, 0)]).length) := by
        intro l1 l2 hl2 h2 h1
        refine lpx_depth hS hp B (A ++ [(m, 0)]) (l1 ++ [(m, dl l2)]) _ (app_one hb) (RC_other hR rfl rfl rfl rfl) ⟨fun i => hO.1 i, fun i i1 i2 => ?_⟩ (SA_ins (by rw [← hl2]; exact hA)) ?_ ?_
        · simp only [setA_2, if_neg i1, if_neg i2]; exact hO.2 i i1 i2
        · rw [hl2] at hl; simp at hl ⊢; omega
        · rw [ht]
          have hs' := Sp_ins (F := fz bs) (p := tot A) (l2 := l2) (by rw [zbeg]; omega) (fun x hx => by rw [zbeg]; exact h2 x hx) (l1 := l1) (a := 0) (Nat.zero_le _) (by rw [← hl2]; exact hs) (fun l' x q => by rw [zbeg]; exact h1 l' x q)
          rw [zbeg] at hs'
          have := Sp_zeros hs' (m - 1) (fun i q1 q2 => zin i (by omega) (by omega))
          rw [show tot A + 1 + (m - 1) = tot A + m by omega] at this
          exact this
      -- the split itself
      have hfin : ∀ (len : Nat) (l1 l2 : List (Nat × Nat)), l1.length = len → l = l1 ++ l2 → (∀ x, x ∈ l2 → x.1 < m) → ∃ l1 l2, l = l1 ++ l2 ∧ (∀ x, x ∈ l2 → x.1 < m) ∧ (∀ l' x, l1 = l' ++ [x] → m ≤ x.1) := by
        intro len
        induction len with
        | zero =>
          intro l1 l2 q1 q2 q3
          exact ⟨l1, l2, q2, q3, fun l' x q => by rw [List.eq_nil_of_length_eq_zero q1] at q; exact absurd q.symm (by simp)⟩
        | succ len ih =>
          intro l1 l2 q1 q2 q3
          rcases lst l1 with h0 | ⟨M, x, h0⟩
          · rw [h0] at q1; simp at q1
          · by_cases hc : m ≤ x.1
            · exact ⟨l1, l2, q2, q3, fun l' y q => by
                have := List.append_inj' (h0.symm.trans q) rfl
                injection this.2 with q4
                rw [← q4]; exact hc⟩
            · exact ih M (x :: l2) (by rw [h0] at q1; simpa using q1) (by rw [q2, h0]; simp) (fun y hy => by
                rcases List.mem_cons.mp hy with rfl | hy
                · omega
                · exact q3 y hy)
      obtain ⟨l1, l2, s1, s2, s3⟩ := hfin l.length l [] rfl (by simp) (fun x hx => by cases hx)
      obtain ⟨c, hc⟩ := next l1 l2 s1 s2 s3
      have uniq : ∀ l1' l2', l = l1' ++ l2' → (∀ x, x ∈ l2' → x.1 < m) → (∀ l' x, l1' = l' ++ [x] → m ≤ x.1) → l1' = l1 ∧ l2' = l2 := by
        intro l1' l2' t1 t2 t3
        have hlen : l1'.length = l1.length := by
          rcases Nat.lt_trichotomy l1'.length l1.length with q | q | q
          · exfalso
            rcases lst l1 with e | ⟨M, x, e⟩
            · rw [e] at q; simp at q
            · have u1 := s3 M x e
              have u2 : M ++ x :: l2 = l1' ++ l2' := by rw [← t1, s1, e]; simp
              rcases sp_cases u2 with ⟨d, v1, v2⟩ | ⟨d, v1, v2⟩
              · rw [v1] at q; rw [e] at q; simp at q
              · have := t2 x (by rw [v2]; simp)
                omega
          · exact q
          · exfalso
            rcases lst l1' with e | ⟨M, x, e⟩
            · rw [e] at q; simp at q
            · have u1 := t3 M x e
              have u2 : M ++ x :: l2' = l1 ++ l2 := by rw [← s1, t1, e]; simp
              rcases sp_cases u2 with ⟨d, v1, v2⟩ | ⟨d, v1, v2⟩
              · rw [v1] at q; rw [e] at q; simp at q
              · have := s2 x (by rw [v2]; simp)
                omega
        exact List.append_inj (t1.symm.trans s1) hlen
      refine ⟨c + 1, fun q => absurd q g1, fun _ => ⟨g2, fun q => absurd hk0 q, fun _ => ?_⟩⟩
      have hlN : l.length < N := by omega
      refine lpx_pop (post := post) (x1 := nI l.length) hR hS hb hA (by omega) hmx (fun l1' l2' t1 t2 t3 => ?_) l.length l [] rfl (by simp) (fun x hx => by cases hx)
      obtain ⟨rfl, rfl⟩ := uniq l1' l2' t1 t2 t3
      have hl1 : l1'.length ≤ l.length := by rw [s1]; simp
      refine s_dos hS.2.2 hA s1 (by omega) hmd ⟨(vpI (by omega)).mpr (by show l1'.length < N; omega), g2, (vpI (by omega)).mpr (by show l1'.length < N; omega), ?_⟩
      rw [nI_clamp (by omega), r4 hR hS hb, g3, nI_1]
      simp only [List.length_append, List.length_cons, List.length_nil, Nat.zero_add] at hc ⊢
      exact hc
    · rw [if_neg hj] at zbeg
      have zall : ∀ i, tot A ≤ i → i < tot A + m → fz bs i = 0 := by
        intro i q1 q2
        by_cases q4 : i = tot A
        · rw [q4]; exact zbeg
        · exact zin i (by omega) q2
      obtain ⟨c, hc⟩ := lpx_depth (post := post) hS hp B (A ++ [(m, j)]) l σ1 (app_one hb) hR hO hA (by simp; omega) (by rw [ht]; exact Sp_zeros hs m zall)
      refine ⟨c + 1, fun q => absurd q g1, fun _ => ⟨g2, fun _ => by rw [g3]; exact hc, fun q => absurd ((k0 hS hb).mp (by rw [r5 hR hS hb] at q; exact q)) hj⟩⟩
theorem C_depth {post : Int32 → CS → Prop} (hR : RC σ bs) (hS : shp N bs) (hp : ∀ σ', spOnly σ σ' → post (nI (MD (fz bs) 0 N)) σ') : wp_X3_depth (lnC Hd N K) σ post := by
  have hN := hS.2.2
  refine lpx_depth (post := post) (Kx := fun σ17 x1_18 => wp_X3_depthOfSpine (lnC Hd N K) σ17 0 x1_18 (fun r20 σ19 => post r20 σ19)) hS (fun σ' l hO hA hl hs => ?_) bs [] [] σ rfl hR ⟨fun _ => rfl, fun _ _ _ => rfl⟩ (fun l1 x l2 h => absurd h.symm (by simp)) (Nat.le_refl _) (fun j q1 q2 => by rw [tot_nil] at q2; omega)
  have e := Sp_dl (Nat.zero_le N) hs
  rw [Nat.sub_zero] at e
  refine s_dos (l1 := []) (l2 := l) hN hA rfl hl (Sp_bnd (by omega) hs) ?_
  rw [← e]
  exact hp σ' hO
end DC
section DM
variable {N : Nat} {τ : CS} {bs A B : List Blk} {n k m : Nat}
theorem lpx_mdepth {post : Int32 → CS → Prop} {Kx : CS → Int32 → Prop} {g : Nat} (hR : RM τ bs) (hS : shp N bs) (hg : g < N) (hp : Kx τ (nI (anc (fz bs) 0 N g))) :
    ∀ (d k : Nat), k + d = N → ∃ c, lp_X5_depth_4 lnM post Kx (nI g) c τ (nI (rs (fun k => one (isTop (fz bs) (min k g) (max k g + 1) k)) 0 k)) (nI k)
  | 0, k, hd => by
    have hN := hS.2.2
    have : k = N := by omega
    subst this
    exact ⟨1, fun _ => hp, fun q => absurd (m_end hR hS (Nat.le_refl _) (by omega)) q⟩
  | d + 1, k, hd => by
    have hN := hS.2.2
    obtain ⟨c, hc⟩ := lpx_mdepth (post := post) hR hS hg hp d (k + 1) (by omega)
    obtain ⟨g1, g2, g3⟩ := m_go hR hS (g := k) (by omega)
    rw [rs, Nat.zero_add] at hc
    have e1 : nI k + 1 = nI (k + 1) := nI_1 _
    refine ⟨c + 1, fun q => absurd q g1, fun _ => m_fz hR hS (by omega) (fun hpos _ => ⟨fun q => absurd q (by decide), fun _ => ⟨fun hle => ⟨fun _ => ?_, fun q => absurd hle q⟩, fun hle => ⟨fun q => absurd q hle, fun _ => ?_⟩⟩⟩) (fun h0 => ⟨fun _ => ?_, fun q => absurd rfl q⟩)⟩
    · rw [nI_leI (by omega) (by omega)] at hle
      rw [Nat.min_eq_right hle, Nat.max_eq_left hle] at hc
      rw [e1]
      refine m_top hR hS (by omega) (by omega) (fun t ht => ⟨fun q => ?_, fun q => ?_⟩) (fun hno => ?_)
      · rw [nI_eq (by have := ht.2.1; omega) (by omega)] at q
        rw [one_neg (fun h => q (top_one ht h)), Nat.add_zero] at hc
        rw [iLit 0, nI_add, Nat.add_zero]
        exact hc
      · rw [nI_eq (by have := ht.2.1; omega) (by omega)] at q
        subst q
        rw [one_pos ht] at hc
        rw [nI_1]
        exact hc
      · have := hno k hle (by omega)
        omega
    · rw [nI_leI (by omega) (by omega)] at hle
      rw [Nat.min_eq_left (by omega), Nat.max_eq_right (by omega)] at hc
      rw [e1, nI_1]
      refine m_top hR hS (by omega) (by omega) (fun t ht => ⟨fun q => ?_, fun q => ?_⟩) (fun hno => ?_)
      · rw [nI_eq (by have := ht.2.1; omega) (by omega)] at q
        rw [one_neg (fun h => q (top_one ht h)), Nat.add_zero] at hc
        rw [iLit 0, nI_add, Nat.add_zero]
        exact hc
      · rw [nI_eq (by have := ht.2.1; omega) (by omega)] at q
        subst q
        rw [one_pos ht] at hc
        rw [nI_1]
        exact hc
      · have := hno k (Nat.le_refl _) (by omega)
        omega
    · rw [one_neg (fun h => by have := h.2.2.1; omega), Nat.add_zero] at hc
      rw [iLit 0, nI_add, Nat.add_zero, e1]
      exact hc
theorem m_depth {post : Int32 → CS → Prop} {g : Nat} (hR : RM τ bs) (hS : shp N bs) (hg : g < N) (hp : post (nI (anc (fz bs) 0 N g)) τ) : wp_X5_depth lnM τ (nI g) post := lpx_mdepth (Kx := fun σ x => post x σ) hR hS hg hp N 0 (by omega)
end DM
