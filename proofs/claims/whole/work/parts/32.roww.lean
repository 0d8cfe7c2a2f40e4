/-! PURE: the class's row, its writers. -/
theorem nI_subs (a : Nat) : nI a - nI (a + 1) = -1 := by
  have h : nI a - nI (a + 1) = (nI (a + 1) + (-1)) - nI (a + 1) := by rw [pk_m1]
  rw [h, Int32.add_comm]
  exact Int32.add_sub_cancel _ _
section ROWW
variable {Hd N K : Nat} {σ : CS} {bs A B : List Blk} {n k m : Nat}
theorem s_split {post : CS → Prop} (hR : RC σ bs) (hS : shp N bs) (hb : bs = A ++ (n, k) :: B) (hm : 0 < m) (hmn : m ≤ n) (hsame : m = n → post σ) (hp : m < n → ∀ σ', RC σ' (A ++ (m, k) :: (n - m, k) :: B) → RowOnly σ σ' → post σ') : wp_X2_split (lnC Hd N K) σ (nI A.length) (nI (4 * m)) post := by
  have a := shp_at (by rw [hb] at hS; exact hS)
  obtain ⟨g1, g2, g3⟩ := c_go hR hS hb
  have hlen : bs.length = A.length + 1 + B.length := by rw [hb]; simp; omega
  refine ⟨g2, fun h => ?_, fun h => ?_⟩
  · rw [r4 hR hS hb, pk_sub (by omega), iLit 0, nI_ltI (by decide) (by omega)] at h
    have hlt : m < n := by omega
    have hbig : A.length + 1 + B.length + 1 ≤ N := by omega
    have e0 : (nI A.length).toNatClampNeg = A.length := nI_clamp (by omega)
    have e1 : nI A.length + 1 = nI (A.length + 1) := nI_1 _
    have e2 : nI A.length + 2 = nI (A.length + 2) := by rw [iLit 2, nI_add]
    have e3 : (nI (A.length + 1)).toNatClampNeg = A.length + 1 := nI_clamp (by omega)
    have e4 : (nI (A.length + 2)).toNatClampNeg = A.length + 2 := nI_clamp (by omega)
    have e5 : σ.1 0 - nI (A.length + 1) = nI B.length := by rw [hR.1, hlen, pk_sub (by omega)]; congr 1; omega
    have e6 : (nI B.length).toNatClampNeg = B.length := nI_clamp (by omega)
    have e7 : nI (A.length + 2) - nI (A.length + 1) = nI 1 := by rw [pk_sub (by omega)]; congr 1; omega
    have r3' := (hR.2 _ _ _ _ hb).1
    have r4' := (hR.2 _ _ _ _ hb).2.1
    have r5' := (hR.2 _ _ _ _ hb).2.2
    have i1 : vp_in (nI A.length) N := g2
    have i2 : vp_in (nI (A.length + 1)) N := (vpI (by omega)).mpr (by omega)
    rw [e1, e2]
    unfold wp_X2_shift
    rw [e5, e3, e4, e6]
    refine ⟨nI_pos (by omega), nI_pos (by omega), nI_pos (by omega), ?_, ?_, ?_, ?_, ?_, ?_, i1, i2, i2, i1, i2, ?_⟩
    · show A.length + 1 + B.length ≤ N; omega
    · show A.length + 2 + B.length ≤ N; omega
    · show A.length + 1 + B.length ≤ N; omega
    · show A.length + 2 + B.length ≤ N; omega
    · show A.length + 1 + B.length ≤ N; omega
    · show A.length + 2 + B.length ≤ N; omega
    refine hp hlt _ ⟨?_, ?_⟩ ⟨fun j hj => ?_, fun j h3 h4 h5 => ?_⟩
    · simp only [setA_1, setF_1, if_true, e7, hR.1, nI_add, hlen]
      congr 1
      simp
      omega
    · intro l1 n' k' l2 hs
      simp only [setA_2, setF_2, setR_2, setA_1, upd_at, va_cpy, e0, e3, r4', r3', r5', reduceCtorEq, Nat.reduceEqDiff, if_true, if_false, pk_sub (show 4 * m ≤ 4 * n by omega)]
      rcases sp_cases hs.symm with ⟨c, h1, h2⟩ | ⟨c, h1, h2⟩
      · have hl : l1.length < A.length := by rw [h1]; simp
        have q := hR.2 l1 n' k' (c ++ (n, k) :: B) (by rw [hb, h1]; simp)
        refine ⟨?_, ?_, ?_⟩
        · rw [if_neg (by omega), if_neg (by omega)]; exact q.1
        · rw [if_neg (by omega), if_neg (by omega), if_neg (by omega)]; exact q.2.1
        · rw [if_neg (by omega), if_neg (by omega)]; exact q.2.2
      · rcases sp_cons h2.symm with ⟨rfl, h3, h4⟩ | ⟨c2, rfl, h3⟩
        · injection h3 with h5 h6
          rw [List.append_nil] at h1
          subst h1 h5 h6
          refine ⟨?_, ?_, ?_⟩
          · rw [if_neg (by omega), if_neg (by omega)]; exact r3'
          · rw [if_pos rfl]
          · rw [if_neg (by omega), if_neg (by omega)]; exact r5'
        · rcases sp_cons h3.symm with ⟨rfl, h4, h5⟩ | ⟨c3, rfl, h4⟩
          · injection h4 with h6 h7
            subst h6 h7
            have hl : l1.length = A.length + 1 := by rw [h1]; simp
            have ht : tot l1 = tot A + m := by rw [h1, tot_app, tot_cons, tot_nil]; omega
            rw [hl, ht]
            refine ⟨?_, ?_, ?_⟩
            · rw [if_pos rfl, if_neg (by omega), nI_add]; congr 1; omega
            · rw [if_neg (by omega), if_pos rfl]; congr 1; omega
            · rw [if_pos rfl, if_neg (by omega)]
          · have hl : l1.length = A.length + 2 + c3.length := by rw [h1]; simp; omega
            have ht : tot l1 = tot A + n + tot c3 := by rw [h1, tot_app, tot_cons, tot_cons]; show tot A + (m + (n - m + tot c3)) = _; omega
            have hc : c3.length < B.length := by rw [h4]; simp
            have q := hR.2 (A ++ (n, k) :: c3) n' k' l2 (by rw [hb, h4]; simp)
            have hq : (A ++ (n, k) :: c3).length = A.length + 1 + c3.length := by simp; omega
            have hqt : tot (A ++ (n, k) :: c3) = tot A + n + tot c3 := by rw [tot_app, tot_cons]; show tot A + (n + tot c3) = _; omega
            rw [hq, hqt] at q
            rw [hl, ht]
            have hx : A.length + 1 + (A.length + 2 + c3.length - (A.length + 2)) = A.length + 1 + c3.length := by omega
            refine ⟨?_, ?_, ?_⟩
            · rw [if_neg (by omega), if_pos (by omega), hx]; exact q.1
            · rw [if_neg (by omega), if_neg (by omega), if_pos (by omega), hx]; exact q.2.1
            · rw [if_neg (by omega), if_pos (by omega), hx]; exact q.2.2
    · simp only [setA_1, setF_1, setR_1, if_neg hj]
    · simp only [setA_2, setF_2, setR_2, if_neg h3, if_neg h4, if_neg h5]
  · rw [r4 hR hS hb, pk_sub (by omega), iLit 0, nI_ltI (by decide) (by omega)] at h
    exact hsame (by omega)
theorem s_join {post : CS → Prop} {n' : Nat} (hR : RC σ bs) (hS : shp N bs) (hb : bs = A ++ (n, k) :: (n', m) :: B) (hp : ∀ σ', RC σ' (A ++ (n + n', k) :: B) → RowOnly σ σ' → post σ') : wp_X2_join (lnC Hd N K) σ (nI A.length) post := by
  have hb2 : bs = (A ++ [(n, k)]) ++ (n', m) :: B := app_one hb
  have a := shp_at (by rw [hb] at hS; exact hS)
  have a2 := shp_at (by rw [hb2] at hS; exact hS)
  obtain ⟨g1, g2, g3⟩ := c_go hR hS hb
  have hAl : (A ++ [(n, k)]).length = A.length + 1 := by simp
  rw [hAl] at a2
  have hlen : bs.length = A.length + 2 + B.length := by rw [hb]; simp; omega
  have hN : A.length + 2 + B.length ≤ N := by omega
  have e0 : (nI A.length).toNatClampNeg = A.length := nI_clamp (by omega)
  have e1 : nI A.length + 1 = nI (A.length + 1) := nI_1 _
  have e2 : nI A.length + 2 = nI (A.length + 2) := by rw [iLit 2, nI_add]
  have e3 : (nI (A.length + 1)).toNatClampNeg = A.length + 1 := nI_clamp (by omega)
  have e4 : (nI (A.length + 2)).toNatClampNeg = A.length + 2 := nI_clamp (by omega)
  have e5 : σ.1 0 - nI (A.length + 2) = nI B.length := by rw [hR.1, hlen, pk_sub (by omega)]; congr 1; omega
  have e6 : (nI B.length).toNatClampNeg = B.length := nI_clamp (by omega)
  have q0 := hR.2 _ _ _ _ hb
  have q1 := hR.2 _ _ _ _ hb2
  rw [hAl, tot_app, tot_cons, tot_nil] at q1
  refine ⟨g2, ?_⟩
  rw [e1, e2]
  refine ⟨(vpI (by omega)).mpr (by show A.length + 1 < N; omega), ?_⟩
  unfold wp_X2_shift
  simp only [setA_1]
  rw [e5, e3, e4, e6, e0]
  refine ⟨nI_pos (by omega), nI_pos (by omega), nI_pos (by omega), ?_, ?_, ?_, ?_, ?_, ?_, ?_⟩
  · show A.length + 2 + B.length ≤ N; omega
  · show A.length + 1 + B.length ≤ N; omega
  · show A.length + 2 + B.length ≤ N; omega
  · show A.length + 1 + B.length ≤ N; omega
  · show A.length + 2 + B.length ≤ N; omega
  · show A.length + 1 + B.length ≤ N; omega
  refine hp _ ⟨?_, ?_⟩ ⟨fun j hj => ?_, fun j h3 h4 h5 => ?_⟩
  · simp only [setF_1, if_true, hR.1, hlen]
    rw [nI_subs (A.length + 1)]
    rw [show A.length + 2 + B.length = (A.length + 1 + B.length) + 1 by omega, pk_m1]
    congr 1
    simp
    omega
  · intro l1 x' k' l2 hs
    simp only [setA_2, setF_2, setR_2, setA_1, upd_at, va_cpy, Nat.reduceEqDiff, if_true, if_false]
    rcases sp_cases hs.symm with ⟨c, h1, h2⟩ | ⟨c, h1, h2⟩
    · have hl : l1.length < A.length := by rw [h1]; simp
      have q := hR.2 l1 x' k' (c ++ (n, k) :: (n', m) :: B) (by rw [hb, h1]; simp)
      refine ⟨?_, ?_, ?_⟩
      · rw [if_neg (by omega)]; exact q.1
      · rw [if_neg (by omega), if_neg (by omega)]; exact q.2.1
      · rw [if_neg (by omega)]; exact q.2.2
    · rcases sp_cons h2.symm with ⟨rfl, h3, h4⟩ | ⟨c2, rfl, h3⟩
      · injection h3 with h5 h6
        rw [List.append_nil] at h1
        subst h1 h5 h6
        refine ⟨?_, ?_, ?_⟩
        · rw [if_neg (by omega)]; exact q0.1
        · rw [if_neg (by omega), if_pos rfl, q0.2.1, q1.2.1, nI_add]; congr 1; omega
        · rw [if_neg (by omega)]; exact q0.2.2
      · have hl : l1.length = A.length + 1 + c2.length := by rw [h1]; simp; omega
        have ht : tot l1 = tot A + (n + n') + tot c2 := by rw [h1, tot_app, tot_cons]; show tot A + (n + n' + tot c2) = _; omega
        have hc : c2.length < B.length := by rw [h3]; simp
        have q := hR.2 (A ++ (n, k) :: (n', m) :: c2) x' k' l2 (by rw [hb, h3]; simp)
        have hq : (A ++ (n, k) :: (n', m) :: c2).length = A.length + 2 + c2.length := by simp; omega
        have hqt : tot (A ++ (n, k) :: (n', m) :: c2) = tot A + (n + n') + tot c2 := by rw [tot_app, tot_cons, tot_cons]; show tot A + (n + (n' + tot c2)) = _; omega
        rw [hq, hqt] at q
        rw [hl, ht]
        have hx : A.length + 2 + (A.length + 1 + c2.length - (A.length + 1)) = A.length + 2 + c2.length := by omega
        refine ⟨?_, ?_, ?_⟩
        · rw [if_pos (by omega), hx]; exact q.1
        · rw [if_pos (by omega), hx, if_neg (by omega)]; exact q.2.1
        · rw [if_pos (by omega), hx]; exact q.2.2
  · simp only [setA_1, setF_1, setR_1, if_neg hj]
  · simp only [setA_2, setF_2, setR_2, if_neg h3, if_neg h4, if_neg h5]
/-- a kind is written -/
theorem RC_kind (hR : RC σ bs) (hb : bs = A ++ (n, k) :: B) (k' : Nat) : RC (setA σ 5 A.length (nI k')) (A ++ (n, k') :: B) := by
  refine ⟨by rw [setA_1, hR.1, hb]; congr 1; simp, fun l1 x j l2 hs => ?_⟩
  simp only [setA_2, Nat.reduceEqDiff, if_true, if_false, upd_at]
  rcases sp_cases hs.symm with ⟨c, h1, h2⟩ | ⟨c, h1, h2⟩
  · have hl : l1.length < A.length := by rw [h1]; simp
    have q := hR.2 l1 x j (c ++ (n, k) :: B) (by rw [hb, h1]; simp)
    rw [if_neg (by omega)]
    exact q
  · rcases sp_cons h2.symm with ⟨rfl, h3, h4⟩ | ⟨c2, rfl, h3⟩
    · injection h3 with h5 h6
      rw [List.append_nil] at h1
      subst h1 h5 h6
      rw [if_pos rfl]
      have q := hR.2 _ _ _ _ hb
      exact ⟨q.1, q.2.1, rfl⟩
    · have hl : l1.length = A.length + 1 + c2.length := by rw [h1]; simp; omega
      have q := hR.2 (A ++ (n, k) :: c2) x j l2 (by rw [hb, h3]; simp)
      have hq : (A ++ (n, k) :: c2).length = A.length + 1 + c2.length := by simp; omega
      have ht : tot (A ++ (n, k) :: c2) = tot l1 := by rw [h1, tot_app, tot_app, tot_cons, tot_cons]
      rw [hq, ht] at q
      rw [hl, if_neg (by omega)]
      exact q
theorem RowOnly_kind (i : Nat) (v : Int32) : RowOnly σ (setA σ 5 i v) := ⟨fun _ _ => rfl, fun j _ _ h => by rw [setA_2, if_neg h]⟩
def isF (l : List Blk) : Prop := ∃ n b, l = (n, 0) :: b
theorem s_carve0 {post : CS → Prop} (hR : RC σ bs) (hS : shp N bs) (hb : bs = A ++ (n, k) :: B) (hm : 0 < m) (hmn : m ≤ n) (hp : ∀ σ', RC σ' (A ++ (m, 1) :: (if m < n then (n - m, k) :: B else B)) → RowOnly σ σ' → post σ') : wp_X2_carve (lnC Hd N K) σ (nI A.length) (nI (4 + 4 * tot A)) (nI (4 * m)) post := by
  have a := shp_at (by rw [hb] at hS; exact hS)
  obtain ⟨g1, g2, g3⟩ := c_go hR hS hb
  have e0 : (nI A.length).toNatClampNeg = A.length := nI_clamp (by omega)
  refine ⟨g2, fun h => ?_, fun h => ?_⟩
  · refine s_split hR hS hb hm hmn (fun he => ⟨g2, ?_⟩) (fun hlt σ' hR' hO => ⟨g2, ?_⟩)
    · rw [e0]
      refine hp _ ?_ (RowOnly_kind _ _)
      rw [if_neg (by omega), he]
      exact RC_kind hR hb 1
    · rw [e0]
      refine hp _ ?_ (hO.tr (RowOnly_kind _ _))
      rw [if_pos hlt]
      exact RC_kind hR' rfl 1
  · rw [r3 hR hS hb, pk_sub (Nat.le_refl _), Nat.sub_self] at h
    exact absurd (by decide) h
theorem shp_re {A B M M' : List Blk} (hS : shp N (A ++ (M ++ B))) (ht : tot M' = tot M) (ho : okB M') : shp N (A ++ (M' ++ B)) := by
  obtain ⟨h1, h2, h3⟩ := hS
  refine ⟨?_, okB_app.mpr ⟨(okB_app.mp h2).1, okB_app.mpr ⟨ho, (okB_app.mp (okB_app.mp h2).2).2⟩⟩, h3⟩
  rw [tot_app, tot_app] at h1 ⊢
  omega
theorem okB_one {n k : Nat} (h1 : 1 ≤ n) (h2 : k ≤ 2) : okB [(n, k)] := okB_cons.mpr ⟨⟨h1, h2⟩, okB_nil⟩
theorem okB_two {n k n' k' : Nat} (h1 : 1 ≤ n) (h2 : k ≤ 2) (h3 : 1 ≤ n') (h4 : k' ≤ 2) : okB [(n, k), (n', k')] := okB_cons.mpr ⟨⟨h1, h2⟩, okB_one h3 h4⟩
theorem shp_split (hS : shp N (A ++ (n, k) :: B)) (hm : 0 < m) (hlt : m < n) : shp N (A ++ (m, k) :: (n - m, k) :: B) := by
  have a := shp_at hS
  refine shp_re (M := [(n, k)]) (M' := [(m, k), (n - m, k)]) hS ?_ (okB_two hm a.2.1 (by omega) a.2.1)
  show m + (n - m + 0) = n + 0
  omega
theorem s_carve1 {post : CS → Prop} {d : Nat} (hR : RC σ bs) (hS : shp N bs) (hb : bs = A ++ (n, k) :: B) (hd : 0 < d) (hm : 0 < m) (hmn : d + m ≤ n) (hp : ∀ σ', RC σ' (A ++ (d, k) :: (m, 1) :: (if d + m < n then (n - d - m, k) :: B else B)) → RowOnly σ σ' → post σ') : wp_X2_carve (lnC Hd N K) σ (nI A.length) (nI (4 + 4 * (tot A + d))) (nI (4 * m)) post := by
  have a := shp_at (by rw [hb] at hS; exact hS)
  obtain ⟨g1, g2, g3⟩ := c_go hR hS hb
  have e0 : (nI A.length).toNatClampNeg = A.length := nI_clamp (by omega)
  have e1 : nI A.length + 1 = nI (A.length + 1) := nI_1 _
  have hsub : nI (4 + 4 * (tot A + d)) - nI (4 + 4 * tot A) = nI (4 * d) := by rw [pk_sub (by omega)]; congr 1; omega
  refine ⟨g2, fun h => ?_, fun h => ?_⟩
  · rw [r3 hR hS hb, hsub, iLit 0, nI_leI (by omega) (by decide)] at h
    omega
  · rw [r3 hR hS hb, hsub]
    refine s_split hR hS hb hd (by omega) (fun he => by omega) (fun hlt σ' hR' hO => ?_)
    have hS' : shp N (A ++ (d, k) :: (n - d, k) :: B) := shp_split (by rw [← hb]; exact hS) hd hlt
    have hb' : A ++ (d, k) :: (n - d, k) :: B = (A ++ [(d, k)]) ++ (n - d, k) :: B := by simp
    have hl : nI A.length + 1 = nI (A ++ [(d, k)]).length := by rw [e1]; simp
    rw [hl]
    have g2' := (c_go hR' hS' hb').2.1
    have e0' : (nI (A ++ [(d, k)]).length).toNatClampNeg = (A ++ [(d, k)]).length := r_c hS' hb'
    refine s_split hR' hS' hb' hm (by omega) (fun he => ⟨g2', ?_⟩) (fun hlt2 σ2 hR2 hO2 => ⟨g2', ?_⟩)
    · rw [e0']
      refine hp _ ?_ (hO.tr (RowOnly_kind _ _))
      rw [if_neg (by omega)]
      have := RC_kind hR' hb' 1
      rw [← he] at this
      simpa [show nI 1 = (1 : Int32) from rfl] using this
    · rw [e0']
      refine hp _ ?_ (hO.tr (hO2.tr (RowOnly_kind _ _)))
      rw [if_pos (by omega)]
      have := RC_kind hR2 rfl 1
      simpa [show nI 1 = (1 : Int32) from rfl] using this
end ROWW
