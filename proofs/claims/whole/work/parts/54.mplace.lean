/-! PURE: the reference: places, advise. -/
theorem al_tot : ∀ {ps bs : List Blk}, bs.map Prod.fst = ps.map Prod.fst → tot bs = tot ps
  | [], [], _ => rfl
  | [], b :: bs, h => by simp at h
  | p :: ps, [], h => by simp at h
  | p :: ps, b :: bs, h => by
    simp only [List.map_cons] at h
    injection h with h1 h2
    rw [tot_cons, tot_cons, al_tot h2, h1]
section MPL
variable {N : Nat} {τ : CS} {bs A B : List Blk} {n k m : Nat}
theorem lpx_76 {post : Int32 → CS → Prop} {Kx : CS → Int32 → Prop} {ps : List Blk} {m : Nat} {x3 : Int32} (hm1 : 1 ≤ m) (hm : m ≤ 1023) (hR : RM τ bs) (hS : shp N bs) (hal : bs.map Prod.fst = ps.map Prod.fst) (hle : ∀ x, x ∈ ps → x.2 ≤ x.1) (hL : LM τ ps)
    (hyes : ∀ P x Q, ps = P ++ x :: Q → (∀ y, y ∈ P → y.2 < m) → m ≤ x.2 → Kx τ (nI (tot P))) (hno : (∀ x, x ∈ ps → x.2 < m) → Kx τ (nI N)) :
    ∀ (Q P : List Blk), ps = P ++ Q → (∀ y, y ∈ P → y.2 < m) → ∃ c, lp_X5_places_76 lnM post Kx x3 (nI m) c τ (nI (tot P))
  | [], P, hb, hs => by
    have hN := hS.2.2
    rw [List.append_nil] at hb
    have ht : tot P = N := by rw [← hb, ← al_tot hal]; exact hS.1
    rw [ht]
    exact ⟨1, fun _ => hno (by rw [hb]; exact hs), fun q => absurd (m_end hR hS (Nat.le_refl _) (by omega)) q⟩
  | x :: Q, P, hb, hs => by
    have hN := hS.2.2
    obtain ⟨P', k, Q', e1, e2, e3⟩ := al_split hal hb
    have a := shp_at (by rw [e1] at hS; exact hS)
    rw [e3] at a
    have hx := hle x (by rw [hb]; simp)
    obtain ⟨l1, l2⟩ := hL P x Q hb
    obtain ⟨g1, g2, g3⟩ := m_go hR hS (g := tot P) (by omega)
    by_cases hc : m ≤ x.2
    · refine ⟨1, fun q => absurd q g1, fun _ => ⟨g2, fun _ => hyes P x Q hb hs hc, fun q => absurd ?_ q⟩⟩
      rw [g3, l1, nI_leI (by omega) (by omega)]; exact hc
    · have hend := lpx_76 (post := post) (x3 := x3) hm1 hm hR hS hal hle hL hyes hno Q (P ++ [x]) (app_one hb) (fun y hy => by
        rcases List.mem_append.mp hy with q | q
        · exact hs y q
        · rcases List.mem_cons.mp q with rfl | q
          · omega
          · cases q)
      rw [tot_app, tot_cons, tot_nil, Nat.add_zero] at hend
      have down : ∀ d, d < x.1 → ∃ c, lp_X5_places_76 lnM post Kx x3 (nI m) c τ (nI (tot P + x.1 - d)) := by
        intro d
        induction d with
        | zero => intro _; exact hend
        | succ d ih =>
          intro hd
          obtain ⟨c, hcc⟩ := ih (by omega)
          obtain ⟨f1, f2, f3⟩ := m_go hR hS (g := tot P + x.1 - (d + 1)) (by omega)
          have hz := l2 (x.1 - (d + 1)) (by omega) (by omega)
          rw [show tot P + (x.1 - (d + 1)) = tot P + x.1 - (d + 1) by omega] at hz
          refine ⟨c + 1, fun q => absurd q f1, fun _ => ⟨f2, fun q => absurd q ?_, fun _ => ?_⟩⟩
          · rw [f3, hz, iLit 0, nI_leI (by omega) (by decide)]; omega
          · rw [nI_1, show tot P + x.1 - (d + 1) + 1 = tot P + x.1 - d by omega]
            exact hcc
      obtain ⟨c, hcc⟩ := down (x.1 - 1) (by omega)
      rw [show tot P + x.1 - (x.1 - 1) = tot P + 1 by omega] at hcc
      refine ⟨c + 1, fun q => absurd q g1, fun _ => ⟨g2, fun q => absurd q ?_, fun _ => ?_⟩⟩
      · rw [g3, l1, nI_leI (by omega) (by omega)]; omega
      · rw [nI_1]; exact hcc
theorem LM_upd {P Q : List Blk} {y : Blk} {v : Nat} (hpos : ∀ x, x ∈ P ++ y :: Q → 1 ≤ x.1) (h : LM τ (P ++ y :: Q)) : LM (setA τ 11 (tot P) (nI v)) (P ++ (y.1, v) :: Q) := by
  intro P' x Q' q
  simp only [setA_2, if_true, upd_at]
  rcases sp_cases q.symm with ⟨c, h1, h2⟩ | ⟨c, h1, h2⟩
  · have hx := hpos x (by rw [h1]; simp)
    have ht : tot P = tot P' + (x.1 + tot c) := by rw [h1, tot_app, tot_cons]
    have h0 := h P' x (c ++ y :: Q) (by rw [h1]; simp)
    refine ⟨by rw [if_neg (by omega)]; exact h0.1, fun j j1 j2 => by rw [if_neg (by omega)]; exact h0.2 j j1 j2⟩
  · rcases sp_cons h2.symm with ⟨rfl, h3, h4⟩ | ⟨c2, rfl, h3⟩
    · rw [List.append_nil] at h1
      subst h1
      subst h3
      have h0 := h P' y Q rfl
      refine ⟨by rw [if_pos rfl], fun j j1 j2 => by rw [if_neg (by omega)]; exact h0.2 j j1 j2⟩
    · have hy := hpos y (by simp)
      have ht : tot P' = tot P + (y.1 + tot c2) := by rw [h1, tot_app, tot_cons]
      have h0 := h (P ++ y :: c2) x Q' (by rw [h3]; simp)
      rw [show tot (P ++ y :: c2) = tot P' by rw [ht, tot_app, tot_cons]] at h0
      refine ⟨by rw [if_neg (by omega)]; exact h0.1, fun j j1 j2 => by rw [if_neg (by omega)]; exact h0.2 j j1 j2⟩
theorem lpx_52 {post : Int32 → CS → Prop} {vs : List Vic} (hR : RM τ bs) (hS : shp N bs) (hV : VM τ vs) (hB : ∀ x, x ∈ vs → VB bs x) (hl : vs.length ≤ 128) :
    ∀ (v2 v1 : List Vic) (td : List Nat) (ps : List Blk) (τ1 : CS), vs = v1 ++ v2 → chg [] [10, 11] τ τ1 → LM τ1 ps → bs.map Prod.fst = ps.map Prod.fst → (∀ x, x ∈ ps → x.2 ≤ x.1) → PM τ1 td → td.length = v1.length →
    (∀ ts, plA v2 ps = some ts → ∀ τ', chg [] [10, 11] τ τ' → PM τ' (td ++ ts) → post 1 τ') → (plA v2 ps = none → ∀ τ', chg [] [10, 11] τ τ' → post 0 τ') → lp_X5_places_52 lnM post (fun σ => post 1 σ) (v2.length + 1) τ1 (nI v1.length)
  | [], v1, td, ps, τ1, hb, hO, hL, hal, hle, hP, htd, hyes, hno => by
    refine ⟨fun _ => hyes [] rfl τ1 hO (by simpa using hP), fun q => absurd ?_ q⟩
    rw [hO.1 6 (by decide), hV.1, hb, List.append_nil]
    exact Int32.le_refl _
  | x :: v2, v1, td, ps, τ1, hb, hO, hL, hal, hle, hP, htd, hyes, hno => by
    have hN := hS.2.2
    have hR1 : RM τ1 bs := hO.RM hS hR (by decide) (by decide) (by decide) (by decide)
    obtain ⟨P0, Q0, q1, q2, q3⟩ := hB x (by rw [hb]; simp)
    have a1 := shp_at (by rw [q1] at hS; exact hS)
    have hlen : v1.length + 1 + v2.length = vs.length := by rw [hb]; simp; omega
    have hcl : (nI v1.length).toNatClampNeg = v1.length := nI_clamp (by omega)
    have h9 : τ1.2 9 v1.length = nI (tot P0) := by rw [hO.2 9 (by decide), q3]; exact hV.2 v1 x v2 hb
    have hgo : ¬ τ1.1 6 ≤ nI v1.length := by rw [hO.1 6 (by decide), hV.1, nI_leI (by omega) (by omega)]; omega
    have gP := m_go hR1 hS (g := tot P0) (by omega)
    have heP : E1 τ1 (tot P0) x.2.2 1 := by rw [q1] at hR1; exact RM_mid hR1
    have h128 : vp_in (nI v1.length) 128 := (vpI (by omega)).mpr (by omega)
    have hposall : ∀ y, y ∈ ps → 1 ≤ y.1 := fun y hy => by
      obtain ⟨P, Q, hpq⟩ := List.append_of_mem hy
      obtain ⟨P', k, Q', e1, e2, e3⟩ := al_split hal hpq
      exact (shp_at (by rw [e1] at hS; exact hS)).1
    refine ⟨fun q => absurd q hgo, fun _ => ⟨h128, ?_⟩⟩
    rw [hcl, h9, gP.2.2, heP.1]
    refine ⟨gP.2.1, ?_⟩
    refine lpx_76 (post := post) (x3 := nI v1.length) (by omega) (by omega) hR1 hS hal hle hL (fun P y Q hy hsm hm => ⟨fun _ => ?_, fun q => absurd q ?_⟩) (fun hsm => ⟨fun q => absurd ?_ q, fun _ => hno (plA_no hsm) τ1 hO⟩) ps [] rfl (fun y hy => by cases hy)
    · obtain ⟨P', k, Q', e1, e2, e3⟩ := al_split hal hy
      have a2 := shp_at (by rw [e1] at hS; exact hS)
      have heY : E1 τ1 (tot P') y.1 k := by rw [e1] at hR1; exact RM_mid hR1
      rw [e3] at a2 heY
      have gY := m_go hR1 hS (g := tot P) (by omega)
      have hyl := hle y (by rw [hy]; simp)
      have hlY := (hL P y Q hy).1
      refine ⟨gY.2.1, gY.2.1, h128, ?_⟩
      rw [gY.2.2, heY.1, hlY, nI_add, pk_sub (by omega), pk_sub (by omega), nI_1]
      have hPn : PM (setA τ1 10 v1.length (nI (tot P + y.1 - y.2))) (td ++ [tot P + y.1 - y.2]) := by
        intro a t b q
        simp only [setA_2, if_true, upd_at]
        rcases sp_cases q.symm with ⟨c, h1, h2⟩ | ⟨c, h1, h2⟩
        · have hl' : a.length < td.length := by rw [h1]; simp
          rw [if_neg (by omega)]
          exact hP a t c h1
        · rcases sp_cons h2.symm with ⟨rfl, h3, h4⟩ | ⟨c2, rfl, h3⟩
          · rw [List.append_nil] at h1
            rw [if_pos (by rw [h1, htd]), h3]
          · exact absurd h3.symm (by simp)
      have := lpx_52 (post := post) hR hS hV hB hl v2 (v1 ++ [x]) (td ++ [tot P + y.1 - y.2]) (P ++ (y.1, y.2 - x.2.2) :: Q) (setA (setA τ1 10 v1.length (nI (tot P + y.1 - y.2))) 11 (tot P) (nI (y.2 - x.2.2))) (by rw [hb]; simp) ((hO.A _ _ (by decide)).A _ _ (by decide)) (LM_upd (τ := setA τ1 10 v1.length (nI (tot P + y.1 - y.2))) (by rw [← hy]; exact hposall) (by rw [← hy]; exact hL)) (by rw [hal, hy]; simp) (fun z hz => by
          rcases List.mem_append.mp hz with h | h
          · exact hle z (by rw [hy]; simp [h])
          · rcases List.mem_cons.mp h with rfl | h
            · show y.2 - x.2.2 ≤ y.1; omega
            · exact hle z (by rw [hy]; simp [h])) hPn (by simp [htd]) (fun ts hts τ' hO' hP' => hyes ((tot P + y.1 - y.2) :: ts) (by rw [hy]; exact plA_ys hsm hm hts) τ' hO' (by simpa using hP')) (fun hts τ' hO' => hno (by rw [hy]; exact plA_yn hsm hm hts) τ' hO')
      rw [List.length_append] at this
      exact this
    · obtain ⟨P', k, Q', e1, e2, e3⟩ := al_split hal hy
      have a2 := shp_at (by rw [e1] at hS; exact hS)
      rw [hR1.1, hS.1, nI_eq (by omega) (by omega)]
      omega
    · rw [hR1.1, hS.1]
theorem m_places {post : Int32 → CS → Prop} {W C : List Blk} {vs : List Vic} (hR : RM τ bs) (hS : shp N bs) (hb : bs = A ++ (W ++ C)) (hV : VM τ vs) (hB : ∀ x, x ∈ vs → VB bs x) (hl : vs.length ≤ 128)
    (hyes : ∀ ts, plA vs (ps0 A W C) = some ts → ∀ τ', chg [] [10, 11] τ τ' → PM τ' ts → post 1 τ') (hno : plA vs (ps0 A W C) = none → ∀ τ', chg [] [10, 11] τ τ' → post 0 τ') : wp_X5_places lnM τ (nI (tot A)) (nI (tot A + tot W)) post := by
  have hN := hS.2.2
  have htN : tot A + tot W ≤ N := by
    have q1 := hS.1
    rw [hb, tot_app, tot_app] at q1
    omega
  refine ⟨N + 1, ?_⟩
  refine lpx_p2 (post := post) (by omega) (by omega) hR hS (fun τ' hO hL => ⟨vs.length + 1, ?_⟩) N 0 τ (by omega) chg.rf (fun h hh => absurd hh (Nat.not_lt_zero _))
  exact lpx_52 (post := post) hR hS hV hB hl vs [] [] (ps0 A W C) τ' rfl (hO.w (by simp) (by simp)) (LM_ps0 hS hb hL) (by rw [hb]; exact ps0_al A W C) (ps0_le A W C) (fun a t b q => absurd q.symm (by simp)) rfl (fun ts hts τ2 q1 q2 => hyes ts hts τ2 q1 q2) hno
/-- what the reference holds of the advice -/
def bM (τ : CS) (st : Adv) : Prop := match st with
  | none => τ.1 2 = 0
  | some (g, vs, ts) => τ.1 2 = 1 ∧ τ.1 3 = nI g ∧ τ.1 4 = nI vs.length ∧ ts.length = vs.length ∧ AR (fun x => nI x.2.1) (τ.2 5) vs ∧ ∀ a t b, ts = a ++ t :: b → τ.2 6 a.length = nI t
theorem bM_other {τ' : CS} {st : Adv} (h : bM τ st) (h2 : τ'.1 2 = τ.1 2) (h3 : τ'.1 3 = τ.1 3) (h4 : τ'.1 4 = τ.1 4) (r5 : τ'.2 5 = τ.2 5) (r6 : τ'.2 6 = τ.2 6) : bM τ' st := by
  cases st with
  | none => exact h2.trans h
  | some a =>
    obtain ⟨g, vs, ts⟩ := a
    refine ⟨h2.trans h.1, h3.trans h.2.1, h4.trans h.2.2.1, h.2.2.2.1, ?_, ?_⟩
    · rw [r5]; exact h.2.2.2.2.1
    · rw [r6]; exact h.2.2.2.2.2
theorem lpx_117 {post : Int32 → CS → Prop} {Kx : CS → Prop} {x1 x2 : Int32} {vs : List Vic} {ts : List Nat} (hV : VM τ vs) (hP : PM τ ts) (ht : ts.length = vs.length) (hl : vs.length ≤ 128) (hp : ∀ τ', chg [] [5, 6] τ τ' → AR (fun x => nI x.2.1) (τ'.2 5) vs → (∀ a t b, ts = a ++ t :: b → τ'.2 6 a.length = nI t) → Kx τ') :
    ∀ (v2 v1 : List Vic) (t2 t1 : List Nat) (τ1 : CS), vs = v1 ++ v2 → ts = t1 ++ t2 → t1.length = v1.length → chg [] [5, 6] τ τ1 → AR (fun x => nI x.2.1) (τ1.2 5) v1 → (∀ a t b, t1 = a ++ t :: b → τ1.2 6 a.length = nI t) → lp_X5_advise_117 lnM post Kx x1 x2 (v2.length + 1) τ1 (nI v1.length)
  | [], v1, t2, t1, τ1, h1, h2, h3, hO, hA, hT => by
    rw [List.append_nil] at h1
    have ht0 : t2 = [] := by
      have q3 := congrArg List.length h2
      rw [List.length_append] at q3
      rw [h1] at ht
      exact List.eq_nil_of_length_eq_zero (by omega)
    rw [ht0, List.append_nil] at h2
    subst h1 h2
    refine ⟨fun _ => hp τ1 hO hA hT, fun q => absurd ?_ q⟩
    rw [hO.1 6 (by decide), hV.1]
    exact Int32.le_refl _
  | x :: v2, v1, [], t1, τ1, h1, h2, h3, hO, hA, hT => by
    exfalso
    rw [h1, h2] at ht
    simp at ht
    omega
  | x :: v2, v1, t :: t2, t1, τ1, h1, h2, h3, hO, hA, hT => by
    have hlen : v1.length + 1 + v2.length = vs.length := by rw [h1]; simp; omega
    have hcl : (nI v1.length).toNatClampNeg = v1.length := nI_clamp (by omega)
    have hgo : ¬ τ1.1 6 ≤ nI v1.length := by rw [hO.1 6 (by decide), hV.1, nI_leI (by omega) (by omega)]; omega
    have e9 : τ1.2 9 v1.length = nI x.2.1 := by rw [hO.2 9 (by decide)]; exact hV.2 v1 x v2 h1
    have e10 : τ1.2 10 v1.length = nI t := by rw [hO.2 10 (by decide), ← h3]; exact hP t1 t t2 h2
    have hin : vp_in (nI v1.length) 128 := (vpI (by omega)).mpr (by omega)
    refine ⟨fun q => absurd q hgo, fun _ => ⟨hin, hin, hin, hin, ?_⟩⟩
    rw [hcl, e9, e10, nI_1]
    have := lpx_117 (post := post) (x1 := x1) (x2 := x2) hV hP ht hl hp v2 (v1 ++ [x]) t2 (t1 ++ [t]) (setA (setA τ1 5 v1.length (nI x.2.1)) 6 v1.length (nI t)) (by rw [h1]; simp) (by rw [h2]; simp) (by simp [h3]) ((hO.A _ _ (by decide)).A _ _ (by decide)) (fun a y b q => by
        simp only [setA_2, Nat.reduceEqDiff, if_true, if_false, upd_at]
        rcases sp_cases q.symm with ⟨c, h1', h2'⟩ | ⟨c, h1', h2'⟩
        · have hl' : a.length < v1.length := by rw [h1']; simp
          rw [if_neg (by omega)]
          exact hA a y c h1'
        · rcases sp_cons h2'.symm with ⟨rfl, h3', h4⟩ | ⟨c2, rfl, h3'⟩
          · rw [List.append_nil] at h1'
            rw [if_pos (by rw [h1']), h3']
          · exact absurd h3'.symm (by simp)) (fun a y b q => by
        simp only [setA_2, if_true, upd_at]
        rcases sp_cases q.symm with ⟨c, h1', h2'⟩ | ⟨c, h1', h2'⟩
        · have hl' : a.length < t1.length := by rw [h1']; simp
          rw [if_neg (by omega)]
          exact hT a y c h1'
        · rcases sp_cons h2'.symm with ⟨rfl, h3', h4⟩ | ⟨c2, rfl, h3'⟩
          · rw [List.append_nil] at h1'
            rw [if_pos (by rw [h1', h3]), h3']
          · exact absurd h3'.symm (by simp))
    rw [List.length_append] at this
    exact this
end MPL
