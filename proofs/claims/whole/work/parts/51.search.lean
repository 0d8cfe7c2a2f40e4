/-! PURE: the class places the victims of a window; its search. -/
section SEARCH
variable {Hd N K : Nat} {σ : CS} {bs A B : List Blk} {n k m : Nat}
theorem lpx_88 {post : Int32 → CS → Prop} {a e : Nat} {ms : List Vic} (ha : a ≤ 1023) (he : e ≤ 1023) (hK : K ≤ 1023) (hR : RC σ bs) (hS : shp N bs) (hM : MV σ ms) (hV : ∀ x, x ∈ ms → VB bs x) (hms : ms.length ≤ K) :
    ∀ (ms2 ms1 vd : List Vic) (td : List Nat) (ps : List Blk) (s pl : Nat) (σ1 : CS), ms = ms1 ++ ms2 → chg [5] [14, 15, 17] σ σ1 → LC σ1 ps → bs.map Prod.fst = ps.map Prod.fst → (∀ x, x ∈ ps → x.2 ≤ x.1) → TG 5 14 15 σ1 vd td → vd.length ≤ ms1.length → s ≤ 1023 → pl ≤ ps.length → (∀ P x Q, ps = P ++ x :: Q → P.length < pl → x.2 < s) →
    (∀ ts, plA (ms2.filter (fun x => decide (a ≤ x.1 ∧ x.1 < e))) ps = some ts → ∀ σ', chg [5] [14, 15, 17] σ σ' → TG 5 14 15 σ' (vd ++ ms2.filter (fun x => decide (a ≤ x.1 ∧ x.1 < e))) (td ++ ts) → post 1 σ') →
    (plA (ms2.filter (fun x => decide (a ≤ x.1 ∧ x.1 < e))) ps = none → ∀ σ', chg [5] [14, 15, 17] σ σ' → post 0 σ') →
    lp_X0_placeVictims_88 (lnC Hd N K) post (fun σ => post 1 σ) (nI a) (nI e) (ms2.length + 1) σ1 (nI (4 * s)) (nI pl) (nI ms1.length)
  | [], ms1, vd, td, ps, s, pl, σ1, hb, hO, hL, hal, hle, hT, hvd, hs, hpl, hlo, hyes, hno => by
    refine ⟨fun _ => hyes [] rfl σ1 hO (by simpa using hT), fun q => absurd ?_ q⟩
    rw [hO.1 3 (by decide), hM.1, hb, List.append_nil]
    exact Int32.le_refl _
  | x :: ms2, ms1, vd, td, ps, s, pl, σ1, hb, hO, hL, hal, hle, hT, hvd, hs, hpl, hlo, hyes, hno => by
    have hR1 : RC σ1 bs := hO.RC hR (by decide) (by decide) (by decide) (by decide)
    obtain ⟨P0, Q0, q1, q2, q3⟩ := hV x (by rw [hb]; simp)
    have a1 := shp_at (by rw [q1] at hS; exact hS)
    have hlen : ms1.length + 1 + ms2.length = ms.length := by rw [hb]; simp; omega
    have hcl : (nI ms1.length).toNatClampNeg = ms1.length := nI_clamp (by omega)
    have h16 : σ1.2 16 ms1.length = nI P0.length := by rw [hO.2 16 (by decide), q2]; exact hM.2 ms1 x ms2 hb
    have hgo : ¬ σ1.1 3 ≤ nI ms1.length := by rw [hO.1 3 (by decide), hM.1, nI_leI (by omega) (by omega)]; omega
    have gx := (c_go hR1 hS q1).2.1
    have hpsl : ps.length = bs.length := by
      have := congrArg List.length hal
      rw [List.length_map, List.length_map] at this
      exact this.symm
    have hbl := shp_len hS
    have skip : decide (a ≤ x.1 ∧ x.1 < e) = false → lp_X0_placeVictims_88 (lnC Hd N K) post (fun σ => post 1 σ) (nI a) (nI e) (ms2.length + 1) σ1 (nI (4 * s)) (nI pl) (nI ms1.length + 1) := by
      intro hd
      have hf : (x :: ms2).filter (fun x => decide (a ≤ x.1 ∧ x.1 < e)) = ms2.filter (fun x => decide (a ≤ x.1 ∧ x.1 < e)) := by rw [List.filter_cons, if_neg (by rw [hd]; decide)]
      rw [hf] at hyes hno
      have := lpx_88 (post := post) ha he hK hR hS hM hV hms ms2 (ms1 ++ [x]) vd td ps s pl σ1 (by rw [hb]; simp) hO hL hal hle hT (by simp; omega) hs hpl hlo hyes hno
      rw [nI_1]
      rw [List.length_append] at this
      exact this
    refine ⟨fun q => absurd q hgo, fun _ => ⟨(vpI (by omega)).mpr (by show _ < K; omega), ?_⟩⟩
    rw [hcl, h16, nI_nltI (by omega) (by omega), nI_nleI (by omega) (by omega), r4 hR1 hS q1]
    refine ⟨fun q => skip (decide_eq_false (by omega)), fun qa => ⟨fun q => skip (decide_eq_false (by omega)), fun qe => ⟨gx, ?_⟩⟩⟩
    have hd : decide (a ≤ x.1 ∧ x.1 < e) = true := decide_eq_true (by omega)
    have hf : (x :: ms2).filter (fun x => decide (a ≤ x.1 ∧ x.1 < e)) = x :: ms2.filter (fun x => decide (a ≤ x.1 ∧ x.1 < e)) := by rw [List.filter_cons, if_pos hd]
    rw [hf] at hyes hno
    have body : ∀ pl0, pl0 ≤ ps.length → (∀ P y Q, ps = P ++ y :: Q → P.length < pl0 → y.2 < x.2.2) → jp_X0_placeVictims_139 (lnC Hd N K) post (lp_X0_placeVictims_88 (lnC Hd N K) post (fun σ => post 1 σ) (nI a) (nI e) (ms2.length + 1)) σ1 (nI a) (nI e) (nI ms1.length) (nI P0.length) (nI pl0) := by
      intro pl0 hpl0 hlo0
      refine ⟨gx, ?_⟩
      rw [r4 hR1 hS q1]
      refine s_low (by omega) hR1 hS hal hle hL hpl0 hlo0 (fun P y Q hy hsm hm => ⟨fun _ => ⟨gx, ?_⟩, fun q => absurd q ?_⟩) (fun hsm => ⟨fun q => absurd rfl q, fun _ => hno (plA_no hsm) σ1 hO⟩)
      · obtain ⟨P', k, Q', e1, e2, e3⟩ := al_split hal hy
        have a2 := shp_at (by rw [e1] at hS; exact hS)
        have gy := (c_go hR1 hS e1).2.1
        have r3y := r3 hR1 hS e1
        have r4y := r4 hR1 hS e1
        rw [e2] at gy r3y r4y
        have hcy : (nI P.length).toNatClampNeg = P.length := nI_clamp (by omega)
        have hyl := hle y (by rw [hy]; simp)
        have h17 : σ1.2 17 P.length = nI (4 * y.2) := hL P y Q hy
        refine ⟨gy, gy, gy, ?_⟩
        rw [r3y, r4y, hcy, h17, r3 hR1 hS q1, nI_add, pk_sub (by omega), q3, e3, show 4 + 4 * tot P + 4 * y.1 - 4 * y.2 = 4 + 4 * (tot P + y.1 - y.2) by omega]
        have hvK : vd.length < K := by omega
        refine ⟨fun q => absurd q ?_, fun _ => ⟨?_, ?_, ?_⟩⟩
        · show ¬ nI K ≤ σ1.1 5
          rw [hT.1, nI_leI (by omega) (by omega)]; omega
        · rw [hT.1]; exact (vpI (by omega)).mpr hvK
        · rw [hT.1]; exact (vpI (by omega)).mpr hvK
        · have hTp := TG_put (σ := σ1) (x := x) (t := tot P + y.1 - y.2) (show (14 : Nat) ≠ 15 by decide) (by omega) hT
          generalize hσ2 : setF (setA (setA σ1 14 (σ1.1 5).toNatClampNeg (nI (4 + 4 * x.2.1))) 15 (σ1.1 5).toNatClampNeg (nI (4 + 4 * (tot P + y.1 - y.2)))) 5 (σ1.1 5 + 1) = σ2 at hTp
          have h172 : σ2.2 17 = σ1.2 17 := by rw [← hσ2]; rfl
          have hO2 : chg [5] [14, 15, 17] σ σ2 := by rw [← hσ2]; exact ((hO.A _ _ (by decide)).A _ _ (by decide)).F _ (by decide)
          have hL2 : LC σ2 (P ++ y :: Q) := by unfold LC; rw [h172, ← hy]; exact hL
          show lp_X0_placeVictims_88 (lnC Hd N K) post (fun σ => post 1 σ) (nI a) (nI e) (ms2.length + 1) (setA σ2 17 P.length (σ2.2 17 P.length - σ1.2 4 (nI P0.length).toNatClampNeg)) (σ1.2 4 (nI P0.length).toNatClampNeg) (nI P.length) (nI ms1.length + 1)
          rw [r4 hR1 hS q1, h172, h17, pk_sub (by omega), ← Nat.mul_sub, nI_1]
          have hal' : bs.map Prod.fst = (P ++ (y.1, y.2 - x.2.2) :: Q).map Prod.fst := by rw [hal, hy]; simp
          have := lpx_88 (post := post) ha he hK hR hS hM hV hms ms2 (ms1 ++ [x]) (vd ++ [x]) (td ++ [tot P + y.1 - y.2]) (P ++ (y.1, y.2 - x.2.2) :: Q) x.2.2 P.length _ (by rw [hb]; simp) (hO2.A (k := 17) P.length (nI (4 * (y.2 - x.2.2))) (by decide)) (LC_upd hL2) hal' (fun z hz => by
              rcases List.mem_append.mp hz with h | h
              · exact hle z (by rw [hy]; simp [h])
              · rcases List.mem_cons.mp h with rfl | h
                · show y.2 - x.2.2 ≤ y.1; omega
                · exact hle z (by rw [hy]; simp [h])) (TG_other hTp rfl rfl rfl) (by simp; omega) (by omega) (by simp) (fun P2 z Q2 hz hl2 => by
              rcases sp_cases hz.symm with ⟨c, h1, h2⟩ | ⟨c, h1, h2⟩
              · exact hsm z (by rw [h1]; simp)
              · rw [h1] at hl2; simp at hl2; omega) (fun ts hts σ' hO' hT' => hyes ((tot P + y.1 - y.2) :: ts) (by rw [hy]; exact plA_ys hsm hm hts) σ' hO' (by simpa using hT')) (fun hts σ' hO' => hno (by rw [hy]; exact plA_yn hsm hm hts) σ' hO')
          rw [List.length_append] at this
          exact this
      · exact fun q => (nI_m1 (by
          have : P.length < ps.length := by rw [hy]; simp
          omega)).mp q
    rw [nI_neqI (by omega) (by omega)]
    refine ⟨fun _ => body 0 (Nat.zero_le _) (fun P y Q _ h => absurd h (Nat.not_lt_zero _)), fun q => body pl hpl (fun P y Q h1 h2 => by
      have := hlo P y Q h1 h2
      omega)⟩
theorem VB_all {x : Vic} (h : x ∈ srt [] (vic 0 0 bs)) : VB bs x := by
  rcases srt_mem.mp h with h | h
  · cases h
  · obtain ⟨P, Q, q1, q2, q3⟩ := vic_at h
    exact ⟨P, Q, q1, by omega, by omega⟩
theorem s_place {post : Int32 → CS → Prop} {W C : List Blk} (hK : K ≤ 1023) (hR : RC σ bs) (hS : shp N bs) (hb : bs = A ++ (W ++ C)) (hM : MV σ (srt [] (vic 0 0 bs))) (hl : nl bs ≤ K)
    (hyes : ∀ ts, plA (srt [] (vic A.length (tot A) W)) (ps0 A W C) = some ts → ∀ σ', chg [5] [14, 15, 17] σ σ' → TG 5 14 15 σ' (srt [] (vic A.length (tot A) W)) ts → post 1 σ')
    (hno : plA (srt [] (vic A.length (tot A) W)) (ps0 A W C) = none → ∀ σ', chg [5] [14, 15, 17] σ σ' → post 0 σ') : wp_X0_placeVictims (lnC Hd N K) σ (nI A.length) (nI (A.length + W.length)) post := by
  have hbl := shp_len hS
  have hAW : A.length + W.length ≤ bs.length := by rw [hb]; simp
  refine ⟨bs.length + 1, ?_⟩
  refine lpx_f17 (σ := setF σ 5 0) (post := post) (by omega) (by omega) (RC_other hR rfl rfl rfl rfl) hS (fun σ' hO hL => ?_) bs [] (setF σ 5 0) rfl chg.rf (fun P x Q q => absurd q.symm (by simp [pz]))
  rw [hb, pz_ps0] at hL
  have hO1 : chg [5] [14, 15, 17] σ σ' := (chg.rf.F (k := 5) (0 : Int32) (by decide)).tr (hO.w (by simp) (by simp))
  have hwin := srt_win A W C
  rw [← hb] at hwin
  refine ⟨(srt [] (vic 0 0 bs)).length + 1, ?_⟩
  refine lpx_88 (σ := σ) (post := post) (a := A.length) (e := A.length + W.length) (by omega) (by omega) hK hR hS hM (fun x hx => VB_all hx) (by rw [srt_len, vic_len]; simpa using hl) (srt [] (vic 0 0 bs)) [] [] [] (ps0 A W C) 0 0 σ' rfl hO1 hL (by rw [hb]; exact ps0_al A W C) (ps0_le A W C) ⟨hO.1 5 (by decide), rfl, fun a x b q => absurd q.symm (by simp), fun a x b q => absurd q.symm (by simp)⟩ (Nat.le_refl _) (by omega) (Nat.zero_le _) (fun P x Q _ h => absurd h (Nat.not_lt_zero _)) ?_ ?_
  · rw [hwin]
    intro ts hts σ2 hO2 hT
    exact hyes ts hts σ2 hO2 hT
  · rw [hwin]
    intro hts σ2 hO2
    exact hno hts σ2 hO2
theorem lpx_to10 {post : CS → Prop} {vs : List Vic} {ts : List Nat} (hK : K ≤ 1023) (hT : TG 5 14 15 σ vs ts) (hv : vs.length ≤ K) (hp : ∀ σ', chg [4] [11, 12] σ σ' → TG 4 11 12 σ' vs ts → post σ') :
    ∀ (v2 v1 : List Vic) (t2 t1 : List Nat) (σ1 : CS), vs = v1 ++ v2 → ts = t1 ++ t2 → chg [4] [11, 12] σ σ1 → TG 4 11 12 σ1 v1 t1 → lp_X1_takeOver_10_7 (lnC Hd N K) post (fun σ => post σ) (v2.length + 1) σ1 (nI v1.length)
  | [], v1, t2, t1, σ1, h1, h2, hO, hG => by
    rw [List.append_nil] at h1
    have ht : t2 = [] := by
      have q1 := hT.2.1
      have q2 := hG.2.1
      have q3 := congrArg List.length h2
      rw [List.length_append] at q3
      rw [h1] at q1
      exact List.eq_nil_of_length_eq_zero (by omega)
    rw [ht, List.append_nil] at h2
    subst h1 h2
    refine ⟨fun _ => hp σ1 hO hG, fun q => absurd ?_ q⟩
    rw [hO.1 5 (by decide), hT.1]
    exact Int32.le_refl _
  | x :: v2, v1, [], t1, σ1, h1, h2, hO, hG => by
    exfalso
    have q1 := hT.2.1
    have q2 := hG.2.1
    rw [h1, h2] at q1
    simp at q1
    omega
  | x :: v2, v1, t :: t2, t1, σ1, h1, h2, hO, hG => by
    have hlen : v1.length + 1 + v2.length = vs.length := by rw [h1]; simp; omega
    have hcl : (nI v1.length).toNatClampNeg = v1.length := nI_clamp (by omega)
    have hgo : ¬ σ1.1 5 ≤ nI v1.length := by rw [hO.1 5 (by decide), hT.1, nI_leI (by omega) (by omega)]; omega
    have e14 : σ1.2 14 v1.length = nI (4 + 4 * x.2.1) := by rw [hO.2 14 (by decide)]; exact hT.2.2.1 v1 x v2 h1
    have e15 : σ1.2 15 v1.length = nI (4 + 4 * t) := by rw [hO.2 15 (by decide), ← hG.2.1]; exact hT.2.2.2 t1 t t2 h2
    have hin : vp_in (nI v1.length) K := (vpI (by omega)).mpr (by omega)
    refine ⟨fun q => absurd q hgo, fun _ => ⟨hin, hin, fun q => absurd q ?_, fun _ => ⟨by rw [hG.1]; exact hin, by rw [hG.1]; exact hin, ?_⟩⟩⟩
    · show ¬ nI K ≤ σ1.1 4
      rw [hG.1, nI_leI (by omega) (by omega)]; omega
    · rw [hcl, e14, e15, nI_1]
      have := lpx_to10 (post := post) hK hT hv hp v2 (v1 ++ [x]) t2 (t1 ++ [t]) _ (by rw [h1]; simp) (by rw [h2]; simp) (((hO.A (k := 11) (σ1.1 4).toNatClampNeg (nI (4 + 4 * x.2.1)) (by decide)).A (k := 12) (σ1.1 4).toNatClampNeg (nI (4 + 4 * t)) (by decide)).F (k := 4) (σ1.1 4 + 1) (by decide)) (TG_put (show (11 : Nat) ≠ 12 by decide) (by omega) hG)
      rw [List.length_append] at this
      exact this
theorem s_to10 {post : CS → Prop} {vs : List Vic} {ts : List Nat} (hK : K ≤ 1023) (hT : TG 5 14 15 σ vs ts) (hv : vs.length ≤ K) (hp : ∀ σ', chg [4] [11, 12] σ σ' → TG 4 11 12 σ' vs ts → post σ') : wp_X1_takeOver_10 (lnC Hd N K) σ post :=
  ⟨vs.length + 1, lpx_to10 (σ := σ) (post := post) hK hT hv hp vs [] ts [] (setF σ 4 0) rfl rfl (chg.rf.F _ (by decide)) ⟨rfl, rfl, fun a x b q => absurd q.symm (by simp), fun a x b q => absurd q.symm (by simp)⟩⟩
end SEARCH
