/-! PURE: the reference: advise. -/
section MAD
variable {N : Nat} {τ : CS} {bs A B : List Blk} {n k m : Nat}
theorem lpx_adv {post : Int32 → CS → Prop} {Kx : CS → Prop} {v : Nat} (hv : v < 2 ^ 31) (hR : RM τ bs) (hS : shp N bs) (hl : nl bs ≤ 128) (hp : ∀ τ', chg [0, 2, 3, 4, 6] [5, 6, 9, 10, 11] τ τ' → bM τ' (advL v [] bs none) → Kx τ') (h2 : τ.1 2 = 0) : lp_X5_advise_30 lnM post Kx (nI v) (N + 1) τ 0 := by
  have hN := hS.2.2
  have key := grp_scan (bs := bs) (fun g A => ∀ B st τ1, bs = A ++ B → chg [0, 2, 3, 4, 6] [5, 6, 9, 10, 11] τ τ1 → bM τ1 st → stL 128 st → (∀ τ', chg [0, 2, 3, 4, 6] [5, 6, 9, 10, 11] τ τ' → bM τ' (advL v A B st) → Kx τ') → lp_X5_advise_30 lnM post Kx (nI v) (N - g + 1) τ1 (nI g)) hS.2.1 ?_ ?_ ?_
  · exact key bs none τ rfl chg.rf h2 (fun a h => by cases h) hp
  · intro B st τ1 hb hO hbm hsl hp
    have hR1 : RM τ1 bs := hO.RM hS hR (by decide) (by decide) (by decide) (by decide)
    have hB0 : B = [] := by
      have := congrArg List.length hb
      simp at this
      exact this
    subst hB0
    rw [hS.1, Nat.sub_self]
    exact ⟨fun _ => hp τ1 hO hbm, fun q => absurd (m_end hR1 hS (Nat.le_refl _) (by omega)) q⟩
  · intro A n k B g hb q1 q2 hnext B' st τ1 hB' hO hbm hsl hp
    have hR1 : RM τ1 bs := hO.RM hS hR (by decide) (by decide) (by decide) (by decide)
    have a := shp_at (by rw [hb] at hS; exact hS)
    obtain ⟨g1, g2, g3⟩ := m_go hR1 hS (g := g) (by omega)
    have hsz : τ1.2 1 g = 0 := by
      have he : E1 τ1 (tot A) n k := by rw [hb] at hR1; exact RM_mid hR1
      have := he.2.1 (g - tot A) (by omega) (by omega)
      rw [show tot A + (g - tot A) = g by omega] at this
      exact this
    have hn := hnext B' st τ1 hB' hO hbm hsl hp
    rw [show N - g + 1 = N - (g + 1) + 1 + 1 by omega]
    refine ⟨fun q => absurd q g1, fun _ => ⟨g2, fun _ => ⟨fun _ => by rw [nI_1]; exact hn, fun q => absurd rfl q⟩, fun q => absurd ?_ q⟩⟩
    rw [g3, hsz]; decide
  · intro A n k B hb hnext B' st τ1 hB' hO hbm hsl hp
    have hR1 : RM τ1 bs := hO.RM hS hR (by decide) (by decide) (by decide) (by decide)
    have a := shp_at (by rw [hb] at hS; exact hS)
    obtain ⟨g1, g2, g3⟩ := m_go hR1 hS (g := tot A) (by omega)
    have he : E1 τ1 (tot A) n k := by rw [hb] at hR1; exact RM_mid hR1
    have hBB : B' = (n, k) :: B := List.append_cancel_left (hB'.symm.trans hb)
    subst hBB
    have fin : ∀ τ2 st2, chg [0, 2, 3, 4, 6] [5, 6, 9, 10, 11] τ τ2 → bM τ2 st2 → stL 128 st2 → advS v A ((n, k) :: B) st = st2 → lp_X5_advise_30 lnM post Kx (nI v) (N - (tot A + 1) + 1) τ2 (nI (tot A) + 1) := by
      intro τ2 st2 hO2 hb2 hs2 hst
      rw [nI_1]
      refine hnext B st2 τ2 (app_one hb) hO2 hb2 hs2 (fun τ' q1 q2 => hp τ' q1 ?_)
      rw [advL, hst]
      exact q2
    rw [show N - tot A + 1 = N - (tot A + 1) + 1 + 1 by omega]
    refine ⟨fun q => absurd q g1, fun _ => ⟨g2, fun q => absurd q ?_, fun _ => ?_⟩⟩
    · rw [g3, he.1]; exact nI_nle (by omega) (by omega)
    refine m_windowEnd hv hR1 hS hB' (fun W C hw => ⟨fun q => absurd q ?_, fun _ => ?_⟩) (fun hw => ⟨fun _ => fin τ1 st hO hbm hsl (advS_none hw), fun q => absurd rfl q⟩)
    · obtain ⟨e1, e2, e3⟩ := wnd_some hw
      have : tot W + tot C = tot ((n, k) :: B) := by rw [← tot_app, e1]; rfl
      rw [tot_cons] at this
      have this : tot W + tot C = n + tot B := this
      exact fun q => (nI_m1 (by omega)).mp q
    · obtain ⟨e1, e2, e3⟩ := wnd_some hw
      have hb2 : bs = A ++ (W ++ C) := by rw [hB', e1]; rfl
      have hnp : nopin W := e3 (fun y hy => by cases hy)
      have hnW : nl W ≤ 128 := by
        have : nl bs = nl A + (nl W + nl C) := by rw [hb2, nl_app, nl_app]
        omega
      have hlv : (srt [] (vic A.length (tot A) W)).length = nl W := by rw [srt_len, vic_len]; simp
      have hVB : ∀ x, x ∈ srt [] (vic A.length (tot A) W) → VB bs x := fun x hx => by
        rcases srt_mem.mp hx with h | h
        · cases h
        · obtain ⟨P, Q, p1, p2, p3⟩ := vic_at h
          exact ⟨A ++ P, Q ++ C, by rw [hb2, p1]; simp, by rw [List.length_append]; omega, by rw [tot_app]; omega⟩
      refine m_gathers hR1 hS hb2 hnp hnW (fun τ2 hO2 hV => ?_)
      have hO2' : chg [0, 2, 3, 4, 6] [5, 6, 9, 10, 11] τ τ2 := hO.tr (hO2.w (by simp) (by simp))
      have hR2 : RM τ2 bs := hO2'.RM hS hR (by decide) (by decide) (by decide) (by decide)
      have hbm2 : bM τ2 st := bM_other hbm (hO2.1 2 (by decide)) (hO2.1 3 (by decide)) (hO2.1 4 (by decide)) (hO2.2 5 (by decide)) (hO2.2 6 (by decide))
      have yes : fewer (srt [] (vic A.length (tot A) W)) st → jp_X5_advise_87 lnM post (lp_X5_advise_30 lnM post Kx (nI v) (N - (tot A + 1) + 1)) τ2 (nI v) (nI (tot A)) (nI (tot A + tot W)) := by
        intro hf
        refine m_places hR2 hS hb2 hV hVB (by omega) (fun ts hts τ3 hO3 hP => ⟨fun q => absurd q (by decide), fun _ => ?_⟩) (fun hts τ3 hO3 => ⟨fun _ => ?_, fun q => absurd rfl q⟩)
        · have htl := (plA_sum hts).2
          have h6 : τ3.1 6 = nI (srt [] (vic A.length (tot A) W)).length := (hO3.1 6 (by decide)).trans hV.1
          refine ⟨(srt [] (vic A.length (tot A) W)).length + 1, ?_⟩
          refine lpx_117 (τ := setF (setF (setF τ3 2 1) 3 (nI (tot A))) 4 (τ3.1 6)) (post := post) (vs := srt [] (vic A.length (tot A) W)) (ts := ts) ⟨h6, by show AR _ (τ3.2 9) _; rw [hO3.2 9 (by decide)]; exact hV.2⟩ hP htl (by omega) (fun τ4 hO4 hA4 hT4 => ?_) _ [] ts [] _ rfl rfl rfl chg.rf (fun a x b q => absurd q.symm (by simp)) (fun a x b q => absurd q.symm (by simp))
          refine fin τ4 (some (tot A, srt [] (vic A.length (tot A) W), ts)) ?_ ⟨?_, ?_, ?_, htl, hA4, hT4⟩ (fun z hz => by injection hz with hz; rw [← hz]; show (srt [] (vic A.length (tot A) W)).length ≤ 128; omega) (advS_yes hw hf hts)
          · have q3 : chg [0, 2, 3, 4, 6] [5, 6, 9, 10, 11] τ τ3 := hO2'.tr (hO3.w (by simp) (by simp))
            exact (((q3.F (k := 2) 1 (by decide)).F (k := 3) (nI (tot A)) (by decide)).F (k := 4) (τ3.1 6) (by decide)).tr (hO4.w (by simp) (by simp))
          · rw [hO4.1 2 (by decide)]; rfl
          · rw [hO4.1 3 (by decide)]; rfl
          · rw [hO4.1 4 (by decide)]; exact h6
        · exact fin τ3 st (hO2'.tr (hO3.w (by simp) (by simp))) (bM_other hbm2 (hO3.1 2 (by decide)) (hO3.1 3 (by decide)) (hO3.1 4 (by decide)) (hO3.2 5 (by decide)) (hO3.2 6 (by decide))) hsl (advS_no hw hts)
      cases hst : st with
      | none =>
        rw [hst] at hbm2 yes
        exact ⟨fun _ => yes trivial, fun q => absurd hbm2 q⟩
      | some z =>
        obtain ⟨g, vs, ts⟩ := z
        rw [hst] at hbm2 yes fin hsl
        have h10 : ¬ τ2.1 2 = 0 := by rw [hbm2.1]; decide
        have hvl : τ2.1 4 = nI vs.length := hbm2.2.2.1
        have hvK : vs.length ≤ 128 := hsl _ rfl
        have h6 := hV.1
        rw [hlv] at h6
        refine ⟨fun q => absurd q h10, fun _ => ⟨fun q => ?_, fun q => ?_⟩⟩
        · rw [hvl, h6, nI_leI (by omega) (by omega)] at q
          refine fin τ2 _ hO2' hbm2 hsl (advS_few hw (fun hf => ?_))
          have hf' : nl W < vs.length := by rw [← hlv]; exact hf
          omega
        · refine yes ?_
          show (srt [] (vic A.length (tot A) W)).length < vs.length
          rw [hvl, h6, nI_leI (by omega) (by omega)] at q
          omega
theorem M_advise {post : Int32 → CS → Prop} {p : Int32} (hR : RM τ bs) (hS : shp N bs)
    (h1 : p < 1 → post (-1) (setF (setF τ 0 0) 2 0))
    (h2 : ¬ p < 1 → 128 < bs.length - nf bs → ∀ τ', chg [0, 2] [] τ τ' → τ'.1 2 = 0 → post (-1) τ')
    (h3 : ∀ v, 1 ≤ v → v < 2 ^ 31 → p = nI v → bs.length - nf bs ≤ 128 → ∀ τ', chg [0, 2, 3, 4, 6] [5, 6, 9, 10, 11] τ τ' → bM τ' (advL v [] bs none) → post (advI (advL v [] bs none)) τ') : wp_X5_advise lnM τ p post := by
  have hbl := shp_len hS
  have hnl := nl_le bs
  have hR' : RM (setF (setF τ 0 0) 2 0) bs := RM_other hS hR rfl rfl rfl rfl
  have hO0 : chg [0, 2] [] τ (setF (setF (setF τ 0 0) 2 0) 0 0) := ((chg.rf.F (k := 0) (0 : Int32) (by decide)).F (k := 2) (0 : Int32) (by decide)).F (k := 0) (0 : Int32) (by decide)
  refine ⟨h1, fun hp => M_count hR' hS (fun q => absurd q (by decide)) (fun q => absurd q (by decide)) (fun _ => ?_) (fun q => absurd q (by decide)) (fun q => absurd q (by decide)) (fun q => absurd rfl q.2.2.1)⟩
  rw [iLit 128, nI_nleI (by omega) (by decide)]
  refine ⟨fun hle => ?_, fun hgt => h2 hp (by omega) _ hO0 rfl⟩
  obtain ⟨v, hv1, hv, rfl⟩ := ge1 (p := p) (by rw [ge1_not] at hp; exact Classical.not_not.mp hp)
  refine ⟨N + 1, lpx_adv (τ := setF (setF (setF τ 0 0) 2 0) 0 0) hv (RM_t hS hR' 0) hS (by omega) (fun τ' hO hb => ?_) rfl⟩
  have h := h3 v hv1 hv rfl hle τ' ((hO0.w (by simp) (by simp)).tr hO) hb
  cases hst : advL v [] bs none with
  | none =>
    rw [hst] at hb h
    exact ⟨fun _ => h, fun q => absurd hb q⟩
  | some z =>
    obtain ⟨g, vs, ts⟩ := z
    rw [hst] at hb h
    refine ⟨fun q => absurd q (by rw [hb.1]; decide), fun _ => ?_⟩
    rw [hb.2.2.1]
    exact h
end MAD
