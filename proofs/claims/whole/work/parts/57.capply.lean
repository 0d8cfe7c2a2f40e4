/-! PURE: the class: apply. -/
theorem plA_inv {v : Vic} {vs : List Vic} {ps : List Blk} {ts : List Nat} (h : plA (v :: vs) ps = some ts) : ∃ P y Q ts', ts = (tot P + y.1 - y.2) :: ts' ∧ ps = P ++ y :: Q ∧ v.2.2 ≤ y.2 ∧ plA vs (P ++ (y.1, y.2 - v.2.2) :: Q) = some ts' := by
  rcases pl1_or v.2.2 ps with q | ⟨P, x, R, q1, q2, q3⟩
  · rw [plA_no q] at h; cases h
  · cases hr : plA vs (P ++ (x.1, x.2 - v.2.2) :: R) with
    | none => rw [q1, plA_yn q2 q3 hr] at h; cases h
    | some l =>
      rw [q1, plA_ys q2 q3 hr] at h
      injection h with h
      exact ⟨P, x, R, l, h.symm, q1, q3, hr⟩
/-- no two victims of one group -/
def nd : List Vic → Prop
  | [] => True
  | x :: l => (∀ y, y ∈ l → y.2.1 ≠ x.2.1) ∧ nd l
theorem nd_app {x : Vic} {v2 : List Vic} : ∀ {v1 : List Vic}, nd (v1 ++ x :: v2) → ∀ y, y ∈ v1 → y.2.1 ≠ x.2.1
  | [], _, y, hy => by cases hy
  | z :: v1, h, y, hy => by
    rcases List.mem_cons.mp hy with rfl | hy
    · exact fun q => h.1 x (by simp) q.symm
    · exact nd_app h.2 y hy
theorem ins_nd {x : Vic} : ∀ {l : List Vic}, nd l → (∀ y, y ∈ l → y.2.1 ≠ x.2.1) → nd (ins x l)
  | [], _, _ => ⟨fun y h => (by cases h), trivial⟩
  | z :: l, h, hx => by
    rw [ins]
    by_cases hz : z.2.2 < x.2.2
    · rw [if_pos hz]; exact ⟨hx, h⟩
    · rw [if_neg hz]
      refine ⟨fun y hy => ?_, ins_nd h.2 (fun y hy => hx y (List.mem_cons_of_mem _ hy))⟩
      rcases ins_mem.mp hy with rfl | hy
      · exact fun q => hx z List.mem_cons_self q.symm
      · exact h.1 y hy
theorem srt_nd : ∀ {l acc : List Vic}, nd acc → nd l → (∀ x, x ∈ acc → ∀ y, y ∈ l → x.2.1 ≠ y.2.1) → nd (srt acc l)
  | [], acc, h, _, _ => h
  | x :: l, acc, h, hl, hx => by
    rw [srt]
    refine srt_nd (ins_nd h (fun y hy => hx y hy x List.mem_cons_self)) hl.2 (fun y hy z hz => ?_)
    rcases ins_mem.mp hy with rfl | hy
    · exact fun q => hl.1 z hz q.symm
    · exact hx y hy z (List.mem_cons_of_mem _ hz)
theorem vic_nd : ∀ {l : List Blk} {i g : Nat}, okB l → nd (vic i g l)
  | [], _, _, _ => trivial
  | b :: l, i, g, h => by
    have h1 := okB_cons.mp h
    rw [vic]
    by_cases hb : b.2 = 1
    · rw [if_pos hb]
      refine ⟨fun y hy => ?_, vic_nd h1.2⟩
      obtain ⟨P, Q, q1, q2, q3⟩ := vic_at hy
      show y.2.1 ≠ g
      omega
    · rw [if_neg hb]; exact vic_nd h1.2
section CAPP
variable {Hd N K : Nat} {σ : CS} {bs cs A W B L R P Q ps : List Blk} {n k m t : Nat} {x : Vic} {y : Blk}
theorem INV_at (h : INV A W N ps cs L R) (hp : ps = P ++ y :: Q) (hm1 : 1 ≤ m) (hm : m ≤ y.2) (ht : t = tot P + y.1 - y.2) : ∃ X Y, cs = X ++ (y.2, 0) :: Y ∧ tot X = t ∧ putB m t cs = X ++ gvn 0 m y.2 Y := by
  obtain ⟨L', R', hI, hc⟩ := INV_step h hp hm1 hm ht
  have hS := h.2.2.2.2
  rcases hc with ⟨P', Q', e1, e2, e3, e4⟩ | ⟨P', Q', e1, e2, e3, e4⟩
  · have hcs : cs = P' ++ (y.2, 0) :: (Q' ++ (W ++ R)) := by rw [h.1, e1]; simp
    refine ⟨P', _, hcs, e2, ?_⟩
    have := hS.2.1
    rw [hcs] at this ⊢
    rw [← e2, putB_at (okB_app.mp this).1]
  · have hcs : cs = (L ++ W ++ P') ++ (y.2, 0) :: Q' := by rw [h.1, e1]; simp
    have htt : tot (L ++ W ++ P') = t := by rw [tot_app, tot_app]; omega
    refine ⟨_, _, hcs, htt, ?_⟩
    have := hS.2.1
    rw [hcs] at this ⊢
    rw [← htt, putB_at (okB_app.mp this).1]
theorem INV_src (h : INV A W N ps cs L R) (hV : VW A W x) : ∃ X1 X2, cs = X1 ++ (x.2.2, 1) :: X2 ∧ tot X1 = x.2.1 := by
  obtain ⟨W1, W2, e1, e2⟩ := hV
  refine ⟨L ++ W1, W2 ++ R, by rw [h.1, e1]; simp, ?_⟩
  rw [tot_app, h.2.2.1, e2]
theorem s_copy {post : CS → Prop} (hR : RC σ cs) (hI : INV A W N ps cs L R) (hN : 4 * N + 3 ≤ Hd) (hH : Hd ≤ 4096) (hV : VW A W x) (hp : ps = P ++ y :: Q) (hm1 : 1 ≤ x.2.2) (hm : x.2.2 ≤ y.2) (ht : t = tot P + y.1 - y.2)
    (hpost : ∀ σ', RC σ' (putB x.2.2 t cs) → σ'.2 1 = va_cpy (σ.2 1) (σ.2 1) (4 + 4 * x.2.1) (4 + 4 * t) (4 * x.2.2 - 1) → chg [0] [1, 3, 4, 5] σ σ' → post σ') : wp_X4_copyBlock (lnC Hd N K) σ (nI (4 + 4 * x.2.1)) (nI (4 + 4 * t)) post := by
  have hS := hI.2.2.2.2
  obtain ⟨X, Y, e1, e2, e3⟩ := INV_at hI hp hm1 hm ht
  obtain ⟨X1, X2, f1, f2⟩ := INV_src hI hV
  have a := shp_at (by rw [e1] at hS; exact hS)
  have b := shp_at (by rw [f1] at hS; exact hS)
  have hl : liv cs (nI (4 + 4 * x.2.1)) X1 x.2.2 1 X2 := ⟨f1, by rw [f2], by decide⟩
  refine s_live hR hS hl ?_
  refine s_freeIndex hR hS (fun X' n' Y' hx hpx => ?_) (fun hno => absurd rfl (hno X y.2 0 Y e1 (by rw [e2])))
  have c := shp_at (by rw [hx] at hS; exact hS)
  rw [nI_eq (by omega) (by omega)] at hpx
  obtain ⟨r1, r2, r3⟩ := sp_tot hS.2.1 hx e1 (by omega)
  injection r2 with r4' r5'
  subst r1 r4' r3
  refine ⟨fun q => absurd q (not_m1 hS f1), fun _ => ⟨fun q => absurd q (not_m1 hS hx), fun _ => ⟨(c_go hR hS f1).2.1, ?_⟩⟩⟩
  rw [r4 hR hS f1]
  have hcar := s_carveG (Hd := Hd) (K := K) (d := 0) (m := x.2.2) (post := fun σ8 => ((¬ nI (4 + 4 * x.2.1) < 0) ∧ ((¬ nI (4 + 4 * t) < 0) ∧ ((¬ (nI (4 * x.2.2) - 1) < 0) ∧ (((nI (4 + 4 * x.2.1)).toNatClampNeg + (nI (4 * x.2.2) - 1).toNatClampNeg ≤ lnC Hd N K 1) ∧ (((nI (4 + 4 * t)).toNatClampNeg + (nI (4 * x.2.2) - 1).toNatClampNeg ≤ lnC Hd N K 1) ∧ post (setR σ8 1 (va_cpy (σ8.2 1) (σ8.2 1) (nI (4 + 4 * x.2.1)).toNatClampNeg (nI (4 + 4 * t)).toNatClampNeg (nI (4 * x.2.2) - 1).toNatClampNeg)))))))) hR hS hx hm1 (by omega) (fun σ' hR' hO => ?_)
  · rw [Nat.add_zero, e2] at hcar
    exact hcar
  · have h1 : σ'.2 1 = σ.2 1 := hO.2 1 (by decide) (by decide) (by decide)
    rw [iLit 1, pk_sub (by omega), nI_clamp (by omega), nI_clamp (by omega), nI_clamp (by omega), h1]
    refine ⟨nI_pos (by omega), nI_pos (by omega), nI_pos (by omega), by show _ ≤ Hd; omega, by show _ ≤ Hd; omega, hpost _ ?_ rfl ⟨fun j hj => ?_, fun j hj => ?_⟩⟩
    · rw [e3]
      exact RC_other hR' rfl rfl rfl rfl
    · exact hO.1 j (fun e => hj (by rw [e]; decide))
    · rw [setR_2, if_neg (fun e => hj (by rw [e]; decide))]
      exact hO.2 j (fun e => hj (by rw [e]; decide)) (fun e => hj (by rw [e]; decide)) (fun e => hj (by rw [e]; decide))
theorem lpx_35 {post : Int32 → CS → Prop} {Kx : CS → Prop} {vs : List Vic} {ts : List Nat} (hN : 4 * N + 3 ≤ Hd) (hH : Hd ≤ 4096) (hK : K ≤ 1023) (hvK : vs.length ≤ K) (hT : TG 6 19 20 σ vs ts) (hV : ∀ x, x ∈ vs → VW A W x) (hm : ∀ x, x ∈ vs → 1 ≤ x.2.2) :
    ∀ (v2 v1 : List Vic) (t2 t1 : List Nat) (ps cs L R : List Blk) (σ1 : CS), vs = v1 ++ v2 → ts = t1 ++ t2 → t1.length = v1.length → INV A W N ps cs L R → plA v2 ps = some t2 → RC σ1 cs → chg [0] [1, 3, 4, 5] σ σ1 →
      (∀ σ' ps' L' R', INV A W N ps' (appl v2 t2 cs) L' R' → RC σ' (appl v2 t2 cs) → σ'.2 1 = cms v2 t2 (σ1.2 1) → chg [0] [1, 3, 4, 5] σ σ' → Kx σ') → lp_X4_apply_35 (lnC Hd N K) post Kx (v2.length + 1) σ1 (nI v1.length)
  | [], v1, t2, t1, ps, cs, L, R, σ1, h1, h2, h3, hI, hp, hR, hO, hk => by
    rw [List.append_nil] at h1
    refine ⟨fun _ => hk σ1 ps L R hI hR rfl hO, fun q => absurd ?_ q⟩
    rw [hO.1 6 (by decide), hT.1, h1]
    exact Int32.le_refl _
  | x :: v2, v1, t2, t1, ps, cs, L, R, σ1, h1, h2, h3, hI, hp, hR, hO, hk => by
    obtain ⟨P, y, Q, ts', e1, e2, e3, e4⟩ := plA_inv hp
    have hx : x ∈ vs := by rw [h1]; simp
    have hx1 := hm x hx
    obtain ⟨L', R', hI', -⟩ := INV_step hI e2 hx1 e3 rfl
    have hlen : v1.length + 1 + v2.length = vs.length := by rw [h1]; simp; omega
    have hcl : (nI v1.length).toNatClampNeg = v1.length := nI_clamp (by omega)
    have hgo : ¬ σ1.1 6 ≤ nI v1.length := by rw [hO.1 6 (by decide), hT.1, nI_leI (by omega) (by omega)]; omega
    have hin : vp_in (nI v1.length) K := (vpI (by omega)).mpr (by omega)
    have e19 : σ1.2 19 v1.length = nI (4 + 4 * x.2.1) := by rw [hO.2 19 (by decide)]; exact hT.2.2.1 v1 x v2 h1
    have e20 : σ1.2 20 v1.length = nI (4 + 4 * (tot P + y.1 - y.2)) := by rw [hO.2 20 (by decide), ← h3]; exact hT.2.2.2 t1 _ ts' (by rw [h2, e1])
    refine ⟨fun q => absurd q hgo, fun _ => ⟨hin, hin, ?_⟩⟩
    rw [hcl, e19, e20, nI_1]
    subst e1
    refine s_copy hR hI hN hH (hV x hx) e2 hx1 e3 rfl (fun σ2 hR2 hM2 hO2 => ?_)
    have := lpx_35 (post := post) hN hH hK hvK hT hV hm v2 (v1 ++ [x]) ts' (t1 ++ [tot P + y.1 - y.2]) _ _ L' R' σ2 (by rw [h1]; simp) (by rw [h2]; simp) (by simp [h3]) hI' e4 hR2 (hO.tr hO2) (fun σ' ps' L'' R'' q1 q2 q3 q4 => hk σ' ps' L'' R'' q1 q2 (by rw [q3, hM2]; rfl) q4)
    rw [List.length_append] at this
    exact this
theorem lpx_76c {post : Int32 → CS → Prop} {Kx : CS → Prop} {vs : List Vic} {ts : List Nat} (hK : K ≤ 1023) (hvK : vs.length ≤ K) (hT : TG 6 19 20 σ vs ts) (hnd : nd vs) (hS : shp N cs) (hV : ∀ x, x ∈ vs → ∃ X1 X2, cs = X1 ++ (x.2.2, 1) :: X2 ∧ tot X1 = x.2.1) (hp : ∀ σ', RC σ' (norm (mk (vs.map (fun x => x.2.1)) 0 cs)) → chg [0] [3, 4, 5] σ σ' → Kx σ') :
    ∀ (v2 v1 : List Vic) (σ1 : CS), vs = v1 ++ v2 → RC σ1 (norm (mk (v1.map (fun x => x.2.1)) 0 cs)) → chg [0] [3, 4, 5] σ σ1 → lp_X4_apply_76 (lnC Hd N K) post Kx (v2.length + 1) σ1 (nI v1.length)
  | [], v1, σ1, h1, hR, hO => by
    rw [List.append_nil] at h1
    subst h1
    refine ⟨fun _ => hp σ1 hR hO, fun q => absurd ?_ q⟩
    rw [hO.1 6 (by decide), hT.1]
    exact Int32.le_refl _
  | x :: v2, v1, σ1, h1, hR, hO => by
    obtain ⟨X1, X2, f1, f2⟩ := hV x (by rw [h1]; simp)
    have hSm : shp N (mk (v1.map (fun x => x.2.1)) 0 cs) := ⟨by rw [mk_tot]; exact hS.1, mk_okB hS.2.1, hS.2.2⟩
    have b := shp_at (by rw [f1] at hS; exact hS)
    have hns : 0 + tot X1 ∉ v1.map (fun x => x.2.1) := by
      intro q
      obtain ⟨z, z1, z2⟩ := List.mem_map.mp q
      exact nd_app (by rw [← h1]; exact hnd) z z1 (by rw [← f2]; omega)
    have hmk : mk (v1.map (fun x => x.2.1)) 0 cs = mk (v1.map (fun x => x.2.1)) 0 X1 ++ (x.2.2, 1) :: mk (v1.map (fun x => x.2.1)) (0 + tot X1 + x.2.2) X2 := by
      rw [f1]; exact mk_was hns
    have hmk2 : mk ((v1 ++ [x]).map (fun x => x.2.1)) 0 cs = mk (v1.map (fun x => x.2.1)) 0 X1 ++ (x.2.2, 0) :: mk (v1.map (fun x => x.2.1)) (0 + tot X1 + x.2.2) X2 := by
      have := mk_one (S := v1.map (fun x => x.2.1)) (g := 0) (m := x.2.2) (k := 1) (W1 := X1) (W2 := X2) (by rw [← f1]; exact hS.2.1)
      rw [← f1] at this
      rw [← this, List.map_append, Nat.zero_add, f2]
      rfl
    rw [hmk, norm_live (by decide)] at hR
    have hSn : shp N (norm (mk (v1.map (fun x => x.2.1)) 0 X1) ++ (x.2.2, 1) :: norm (mk (v1.map (fun x => x.2.1)) (0 + tot X1 + x.2.2) X2)) := by
      have := shp_norm hSm
      rw [hmk, norm_live (by decide)] at this
      exact this
    have hjn : nadj (norm (mk (v1.map (fun x => x.2.1)) 0 X1) ++ (x.2.2, 1) :: norm (mk (v1.map (fun x => x.2.1)) (0 + tot X1 + x.2.2) X2)) := by
      have := nadj_norm (mk (v1.map (fun x => x.2.1)) 0 cs)
      rw [hmk, norm_live (by decide)] at this
      exact this
    have hlen : v1.length + 1 + v2.length = vs.length := by rw [h1]; simp; omega
    have hcl : (nI v1.length).toNatClampNeg = v1.length := nI_clamp (by omega)
    have hgo : ¬ σ1.1 6 ≤ nI v1.length := by rw [hO.1 6 (by decide), hT.1, nI_leI (by omega) (by omega)]; omega
    have hin : vp_in (nI v1.length) K := (vpI (by omega)).mpr (by omega)
    have e19 : σ1.2 19 v1.length = nI (4 + 4 * x.2.1) := by rw [hO.2 19 (by decide)]; exact hT.2.2.1 v1 x v2 h1
    refine ⟨fun q => absurd q hgo, fun _ => ⟨hin, ?_⟩⟩
    rw [hcl, e19, nI_1]
    have hl : liv (norm (mk (v1.map (fun x => x.2.1)) 0 X1) ++ (x.2.2, 1) :: norm (mk (v1.map (fun x => x.2.1)) (0 + tot X1 + x.2.2) X2)) (nI (4 + 4 * x.2.1)) (norm (mk (v1.map (fun x => x.2.1)) 0 X1)) x.2.2 1 (norm (mk (v1.map (fun x => x.2.1)) (0 + tot X1 + x.2.2) X2)) := ⟨rfl, by rw [tot_norm, mk_tot, f2], by decide⟩
    refine s_live hR hSn hl ⟨fun q => absurd q (not_m1 hSn rfl), fun _ => ?_⟩
    refine s_release hR hSn hjn rfl (fun σ2 hR2 hO2 => ?_)
    rw [norm_rel, ← hmk2] at hR2
    have := lpx_76c (post := post) hK hvK hT hnd hS hV hp v2 (v1 ++ [x]) σ2 (by rw [h1]; simp) hR2 ⟨fun j hj => (hO2.1 j (fun e => hj (by rw [e]; decide))).trans (hO.1 j hj), fun j hj => (hO2.2 j (fun e => hj (by rw [e]; decide)) (fun e => hj (by rw [e]; decide)) (fun e => hj (by rw [e]; decide))).trans (hO.2 j hj)⟩
    rw [List.length_append] at this
    exact this
theorem lpx_to18 {post : CS → Prop} {vs : List Vic} {ts : List Nat} (hK : K ≤ 1023) (hT : TG 4 11 12 σ vs ts) (hv : vs.length ≤ K) (hp : ∀ σ', chg [6] [19, 20] σ σ' → TG 6 19 20 σ' vs ts → post σ') :
    ∀ (v2 v1 : List Vic) (t2 t1 : List Nat) (σ1 : CS), vs = v1 ++ v2 → ts = t1 ++ t2 → chg [6] [19, 20] σ σ1 → TG 6 19 20 σ1 v1 t1 → lp_X1_takeOver_18_7 (lnC Hd N K) post (fun σ => post σ) (v2.length + 1) σ1 (nI v1.length)
  | [], v1, t2, t1, σ1, h1, h2, hO, hG => by
    rw [List.append_nil] at h1
    have ht : t2 = [] := by
      have q1 := hT.2.1
      have q2 := hG.2.1
      have q3 := congrArg List.length h2
      rw [List.length_append] at q3
      rw [h1] at q1
      exact List.eq_nil_of_length_eq_zero (by omega)
    rw [ht, List.append_nil] at h2
    subst h1 h2
    refine ⟨fun _ => hp σ1 hO hG, fun q => absurd ?_ q⟩
    rw [hO.1 4 (by decide), hT.1]
    exact Int32.le_refl _
  | x :: v2, v1, [], t1, σ1, h1, h2, hO, hG => by
    exfalso
    have q1 := hT.2.1
    have q2 := hG.2.1
    rw [h1, h2] at q1
    simp at q1
    omega
  | x :: v2, v1, t :: t2, t1, σ1, h1, h2, hO, hG => by
    have hlen : v1.length + 1 + v2.length = vs.length := by rw [h1]; simp; omega
    have hcl : (nI v1.length).toNatClampNeg = v1.length := nI_clamp (by omega)
    have hgo : ¬ σ1.1 4 ≤ nI v1.length := by rw [hO.1 4 (by decide), hT.1, nI_leI (by omega) (by omega)]; omega
    have e14 : σ1.2 11 v1.length = nI (4 + 4 * x.2.1) := by rw [hO.2 11 (by decide)]; exact hT.2.2.1 v1 x v2 h1
    have e15 : σ1.2 12 v1.length = nI (4 + 4 * t) := by rw [hO.2 12 (by decide), ← hG.2.1]; exact hT.2.2.2 t1 t t2 h2
    have hin : vp_in (nI v1.length) K := (vpI (by omega)).mpr (by omega)
    refine ⟨fun q => absurd q hgo, fun _ => ⟨hin, hin, fun q => absurd q ?_, fun _ => ⟨by rw [hG.1]; exact hin, by rw [hG.1]; exact hin, ?_⟩⟩⟩
    · show ¬ nI K ≤ σ1.1 6
      rw [hG.1, nI_leI (by omega) (by omega)]; omega
    · rw [hcl, e14, e15, nI_1]
      have := lpx_to18 (post := post) hK hT hv hp v2 (v1 ++ [x]) t2 (t1 ++ [t]) _ (by rw [h1]; simp) (by rw [h2]; simp) (((hO.A (k := 19) (σ1.1 6).toNatClampNeg (nI (4 + 4 * x.2.1)) (by decide)).A (k := 20) (σ1.1 6).toNatClampNeg (nI (4 + 4 * t)) (by decide)).F (k := 6) (σ1.1 6 + 1) (by decide)) (TG_put (show (19 : Nat) ≠ 20 by decide) (by omega) hG)
      rw [List.length_append] at this
      exact this
theorem s_to18 {post : CS → Prop} {vs : List Vic} {ts : List Nat} (hK : K ≤ 1023) (hT : TG 4 11 12 σ vs ts) (hv : vs.length ≤ K) (hp : ∀ σ', chg [6] [19, 20] σ σ' → TG 6 19 20 σ' vs ts → post σ') : wp_X1_takeOver_18 (lnC Hd N K) σ post :=
  ⟨vs.length + 1, lpx_to18 (σ := σ) (post := post) hK hT hv hp vs [] ts [] (setF σ 6 0) rfl rfl (chg.rf.F _ (by decide)) ⟨rfl, rfl, fun a x b q => absurd q.symm (by simp), fun a x b q => absurd q.symm (by simp)⟩⟩
/-- what an advice says of its victims -/
theorem adv_vics {C : List Blk} {vs : List Vic} (hS : shp N bs) (hb : bs = A ++ (W ++ C)) (hv : vs = srt [] (vic A.length (tot A) W)) : (∀ x, x ∈ vs → VW A W x) ∧ (∀ x, x ∈ vs → 1 ≤ x.2.2) ∧ nd vs ∧ vs.length = nl W := by
  have hW : okB W := by
    have := hS.2.1
    rw [hb] at this
    exact (okB_app.mp (okB_app.mp this).2).1
  have hVW : ∀ x, x ∈ vs → VW A W x := by
    intro x hx
    rw [hv] at hx
    rcases srt_mem.mp hx with h | h
    · cases h
    · obtain ⟨P, Q, p1, p2, p3⟩ := vic_at h
      exact ⟨P, Q, p1, p3⟩
  refine ⟨hVW, fun x hx => ?_, ?_, ?_⟩
  · obtain ⟨W1, W2, e1, e2⟩ := hVW x hx
    rw [e1] at hW
    exact (okB_cons.mp (okB_app.mp hW).2).1.1
  · rw [hv]; exact srt_nd trivial (vic_nd hW) (fun x hx => by cases hx)
  · rw [hv, srt_len, vic_len]; simp
theorem C_apply {post : Int32 → CS → Prop} {C : List Blk} {g : Nat} {vs : List Vic} {ts : List Nat} (hN : 4 * N + 3 ≤ Hd) (hH : Hd ≤ 4096) (hK : K ≤ 1023) (hvK : vs.length ≤ K) (hR : RC σ bs) (hS : shp N bs) (hj : nadj bs) (hbc : bC σ (some (g, vs, ts))) (hb : bs = A ++ (W ++ C)) (hv : vs = srt [] (vic A.length (tot A) W)) (hp : plA vs (ps0 A W C) = some ts)
    (hpost : ∀ σ', RC σ' (aft vs ts bs) → σ'.2 1 = cms vs ts (σ.2 1) → σ'.1 1 = 0 → σ'.1 4 = 0 → TG 6 19 20 σ' vs ts → post (nI vs.length) σ') : wp_X4_apply (lnC Hd N K) σ post := by
  obtain ⟨hV, hm, hnd, hvl⟩ := adv_vics hS hb hv
  refine ⟨fun _ => s_to18 hK hbc.2.2 hvK (fun σ1 hO1 hT1 => ?_), fun q => absurd q (by rw [hbc.1]; decide)⟩
  refine ⟨vs.length + 1, ?_⟩
  have hR1 : RC (setF (setF σ1 1 0) 4 0) bs := RC_other (hO1.RC hR (by decide) (by decide) (by decide) (by decide)) rfl rfl rfl rfl
  have hI0 : INV A W N (ps0 A W C) bs A C := by rw [hb] at hS hj ⊢; exact INV_0 hS hj
  refine lpx_35 (σ := setF (setF σ1 1 0) 4 0) (post := post) hN hH hK hvK (TG_other hT1 rfl rfl rfl) hV hm vs [] ts [] (ps0 A W C) bs A C _ rfl rfl rfl hI0 hp hR1 chg.rf (fun σ2 ps' L' R' hI hR2 hM hO2 => ?_)
  refine ⟨vs.length + 1, ?_⟩
  have hT2 : TG 6 19 20 σ2 vs ts := TG_other hT1 (hO2.1 6 (by decide)) (hO2.2 19 (by decide)) (hO2.2 20 (by decide))
  refine lpx_76c (σ := σ2) (post := post) (cs := appl vs ts bs) hK hvK hT2 hnd hI.2.2.2.2 (fun x hx => INV_src hI (hV x hx)) (fun σ3 hR3 hO3 => ?_) vs [] σ2 rfl (by
    rw [List.map_nil, mk_none, norm_id hI.2.2.2.1]; exact hR2) chg.rf
  have hT3 : TG 6 19 20 σ3 vs ts := TG_other hT2 (hO3.1 6 (by decide)) (hO3.2 19 (by decide)) (hO3.2 20 (by decide))
  show post (σ3.1 6) σ3
  rw [hT3.1]
  refine hpost σ3 hR3 ?_ ?_ ?_ hT3
  · rw [hO3.2 1 (by decide), hM]
    show cms vs ts (σ1.2 1) = _
    rw [hO1.2 1 (by decide)]
  · rw [hO3.1 1 (by decide), hO2.1 1 (by decide)]; rfl
  · rw [hO3.1 4 (by decide), hO2.1 4 (by decide)]; rfl
end CAPP
