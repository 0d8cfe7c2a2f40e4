/-! PURE: the class places victims. -/
def LC (σ : CS) (ps : List Blk) : Prop := ∀ P x Q, ps = P ++ x :: Q → σ.2 17 P.length = nI (4 * x.2)
/-- a list of moves: its number, its two rows -/
def TG (c r1 r2 : Nat) (σ : CS) (vs : List Vic) (ts : List Nat) : Prop := σ.1 c = nI vs.length ∧ ts.length = vs.length ∧ AR (fun x => nI (4 + 4 * x.2.1)) (σ.2 r1) vs ∧ ∀ a t b, ts = a ++ t :: b → σ.2 r2 a.length = nI (4 + 4 * t)
def pz (a e : Nat) : Nat → List Blk → List Blk
  | _, [] => []
  | i, b :: l => (if i < a ∨ e ≤ i then fF b else fZ b) :: pz a e (i + 1) l
theorem pz_app (a e : Nat) (B : List Blk) : ∀ (A : List Blk) (i : Nat), pz a e i (A ++ B) = pz a e i A ++ pz a e (i + A.length) B
  | [], i => rfl
  | x :: A, i => by rw [List.cons_append, pz, pz, pz_app a e B A, List.length_cons, show i + (A.length + 1) = i + 1 + A.length by omega]; rfl
theorem pz_len (a e : Nat) : ∀ (A : List Blk) (i : Nat), (pz a e i A).length = A.length
  | [], i => rfl
  | x :: A, i => by rw [pz, List.length_cons, pz_len a e A, List.length_cons]
theorem pz_out (a e : Nat) : ∀ (A : List Blk) (i : Nat), (i + A.length ≤ a ∨ e ≤ i) → pz a e i A = A.map fF
  | [], i, _ => rfl
  | x :: A, i, h => by
    rw [List.length_cons] at h
    rw [pz, List.map_cons, if_pos (by omega), pz_out a e A _ (by omega)]
theorem pz_in (a e : Nat) : ∀ (A : List Blk) (i : Nat), a ≤ i → i + A.length ≤ e → pz a e i A = A.map fZ
  | [], i, _, _ => rfl
  | x :: A, i, h, h2 => by
    rw [List.length_cons] at h2
    rw [pz, List.map_cons, if_neg (by omega), pz_in a e A _ (by omega) (by omega)]
theorem pz_ps0 (A W C : List Blk) : pz A.length (A.length + W.length) 0 (A ++ (W ++ C)) = ps0 A W C := by
  rw [pz_app, pz_app, pz_out _ _ A 0 (Or.inl (by omega)), pz_in _ _ W _ (by omega) (by omega), pz_out _ _ C _ (Or.inr (by omega))]
  rfl
theorem fF_1 (b : Blk) : (fF b).1 = b.1 := rfl
theorem fZ_1 (b : Blk) : (fZ b).1 = b.1 := rfl
theorem ps0_al (A W C : List Blk) : (A ++ (W ++ C)).map Prod.fst = (ps0 A W C).map Prod.fst := by
  unfold ps0
  simp only [List.map_append, List.map_map]
  rfl
theorem ps0_le (A W C : List Blk) : ∀ x, x ∈ ps0 A W C → x.2 ≤ x.1 := by
  intro x hx
  have hF : ∀ b : Blk, (fF b).2 ≤ (fF b).1 := fun b => by show (if b.2 = 0 then b.1 else 0) ≤ b.1; split <;> omega
  unfold ps0 at hx
  rcases List.mem_append.mp hx with h | h
  · obtain ⟨b, -, rfl⟩ := List.mem_map.mp h
    exact hF b
  · rcases List.mem_append.mp h with h | h
    · obtain ⟨b, -, rfl⟩ := List.mem_map.mp h
      exact Nat.zero_le _
    · obtain ⟨b, -, rfl⟩ := List.mem_map.mp h
      exact hF b
/-- a place among the places is a block -/
theorem al_split : ∀ {ps bs P Q : List Blk} {x : Blk}, bs.map Prod.fst = ps.map Prod.fst → ps = P ++ x :: Q → ∃ P' k Q', bs = P' ++ (x.1, k) :: Q' ∧ P'.length = P.length ∧ tot P' = tot P
  | ps, [], P, Q, x, h, hp => by rw [hp] at h; simp at h
  | ps, b :: bs, [], Q, x, h, hp => by
    rw [hp] at h
    simp only [List.map_cons, List.nil_append] at h
    injection h with h1 h2
    exact ⟨[], b.2, bs, by rw [← h1]; rfl, rfl, rfl⟩
  | ps, b :: bs, y :: P, Q, x, h, hp => by
    rw [hp] at h
    simp only [List.map_cons, List.cons_append] at h
    injection h with h1 h2
    obtain ⟨P', k, Q', e1, e2, e3⟩ := al_split (ps := P ++ x :: Q) h2 rfl
    exact ⟨b :: P', k, Q', by rw [e1]; rfl, by rw [List.length_cons, List.length_cons, e2], by rw [tot_cons, tot_cons, e3, h1]⟩
section PLACE
variable {Hd N K : Nat} {σ : CS} {bs A B : List Blk} {n k m : Nat}
theorem LC_add {ps : List Blk} {y : Blk} (h : LC σ ps) : LC (setA σ 17 ps.length (nI (4 * y.2))) (ps ++ [y]) := by
  intro P x Q q
  simp only [setA_2, if_true, upd_at]
  rcases sp_cases q.symm with ⟨c, h1, h2⟩ | ⟨c, h1, h2⟩
  · have hl : P.length < ps.length := by rw [h1]; simp
    rw [if_neg (by omega)]
    exact h P x c h1
  · rcases sp_cons h2.symm with ⟨rfl, h3, h4⟩ | ⟨c2, rfl, h3⟩
    · rw [List.append_nil] at h1
      rw [if_pos (by rw [h1]), h3]
    · exact absurd h3.symm (by simp)
theorem LC_upd {P Q : List Blk} {y : Blk} {v : Nat} (h : LC σ (P ++ y :: Q)) : LC (setA σ 17 P.length (nI (4 * v))) (P ++ (y.1, v) :: Q) := by
  intro P' x Q' q
  simp only [setA_2, if_true, upd_at]
  rcases sp_cases q.symm with ⟨c, h1, h2⟩ | ⟨c, h1, h2⟩
  · have hl : P'.length < P.length := by rw [h1]; simp
    rw [if_neg (by omega)]
    exact h P' x (c ++ y :: Q) (by rw [h1]; simp)
  · rcases sp_cons h2.symm with ⟨rfl, h3, h4⟩ | ⟨c2, rfl, h3⟩
    · rw [List.append_nil] at h1
      rw [if_pos (by rw [h1]), h3]
    · have hl : P'.length = P.length + 1 + c2.length := by rw [h1]; simp; omega
      have := h (P ++ y :: c2) x Q' (by rw [h3]; simp)
      rw [show (P ++ y :: c2).length = P'.length by rw [h1]; simp] at this
      rw [if_neg (by omega)]
      exact this
theorem lpx_f17 {post : Int32 → CS → Prop} {Kx : CS → Prop} {a e : Nat} (ha : a ≤ 1023) (he : e ≤ 1023) (hR : RC σ bs) (hS : shp N bs) (hp : ∀ σ', chg [] [17] σ σ' → LC σ' (pz a e 0 bs) → Kx σ') :
    ∀ (B D : List Blk) (σ1 : CS), bs = D ++ B → chg [] [17] σ σ1 → LC σ1 (pz a e 0 D) → lp_X0_placeVictims_10 (lnC Hd N K) post Kx (nI a) (nI e) (B.length + 1) σ1 (nI D.length)
  | [], D, σ1, hb, hO, hL => by
    have hR1 : RC σ1 bs := hO.RC hR (by decide) (by decide) (by decide) (by decide)
    refine ⟨fun _ => hp σ1 hO ?_, fun q => absurd (c_end hR1 hb) q⟩
    rw [hb, List.append_nil]
    exact hL
  | (m, j) :: B, D, σ1, hb, hO, hL => by
    have a1 := shp_at (by rw [hb] at hS; exact hS)
    have hR1 : RC σ1 bs := hO.RC hR (by decide) (by decide) (by decide) (by decide)
    obtain ⟨g1, g2, g3⟩ := c_go hR1 hS hb
    have hcl : (nI D.length).toNatClampNeg = D.length := nI_clamp (by omega)
    have go : ∀ v, (if D.length < a ∨ e ≤ D.length then fF (m, j) else fZ (m, j)).2 = v → lp_X0_placeVictims_10 (lnC Hd N K) post Kx (nI a) (nI e) (B.length + 1) (setA σ1 17 D.length (nI (4 * v))) (nI D.length + 1) := by
      intro v hv
      rw [g3]
      refine lpx_f17 ha he hR hS hp B (D ++ [(m, j)]) _ (app_one hb) (hO.A _ _ (by decide)) ?_
      have := LC_add (y := if D.length < a ∨ e ≤ D.length then fF (m, j) else fZ (m, j)) hL
      rw [pz_app, pz, pz, Nat.zero_add]
      rw [hv, pz_len] at this
      exact this
    have out : (D.length < a ∨ e ≤ D.length) → jp_X0_placeVictims_38 (lnC Hd N K) post (lp_X0_placeVictims_10 (lnC Hd N K) post Kx (nI a) (nI e) (B.length + 1)) σ1 (nI a) (nI e) (nI D.length) 1 := by
      intro ho
      refine ⟨fun q => absurd q (by decide), fun _ => ⟨g2, fun hk => ⟨g2, ?_⟩, fun hk => ⟨g2, g2, ?_⟩⟩⟩
      · rw [hcl]
        refine go 0 ?_
        rw [if_pos ho]
        rw [r5 hR1 hS hb, k0 hS hb] at hk
        show (if j = 0 then m else 0) = 0
        rw [if_neg hk]
      · rw [r4 hR1 hS hb, hcl]
        refine go m ?_
        rw [if_pos ho]
        rw [r5 hR1 hS hb, k0 hS hb] at hk
        show (if j = 0 then m else 0) = m
        rw [if_pos hk]
    refine ⟨fun q => absurd q g1, fun _ => ⟨fun q => ?_, fun q => ⟨fun q2 => ⟨fun _ => ⟨g2, ?_⟩, fun q => absurd rfl q⟩, fun q2 => ?_⟩⟩⟩
    · rw [nI_ltI (by omega) (by omega)] at q
      exact out (Or.inl q)
    · rw [hcl]
      refine go 0 ?_
      rw [nI_ltI (by omega) (by omega)] at q q2
      rw [if_neg (by omega)]
      rfl
    · rw [nI_ltI (by omega) (by omega)] at q2
      exact out (Or.inr (by omega))
theorem lpx_low {post : Int32 → CS → Prop} {Kx : CS → Prop} {ps : List Blk} {m : Nat} (hm : m ≤ 1023) (hR : RC σ bs) (hS : shp N bs) (hal : bs.map Prod.fst = ps.map Prod.fst) (hle : ∀ x, x ∈ ps → x.2 ≤ x.1) (hL : LC σ ps)
    (hyes : ∀ P x Q, ps = P ++ x :: Q → (∀ y, y ∈ P → y.2 < m) → m ≤ x.2 → post (nI P.length) σ) (hno : (∀ x, x ∈ ps → x.2 < m) → Kx σ) :
    ∀ (Q P : List Blk), ps = P ++ Q → (∀ y, y ∈ P → y.2 < m) → ∃ c, lp_X0_lowestPlace_2 (lnC Hd N K) post Kx (nI (4 * m)) c σ (nI P.length)
  | [], P, hb, hs => by
    rw [List.append_nil] at hb
    refine ⟨1, fun _ => hno (by rw [hb]; exact hs), fun q => absurd ?_ q⟩
    have := congrArg List.length hal
    rw [List.length_map, List.length_map] at this
    rw [hR.1, this, hb]
    exact Int32.le_refl _
  | x :: Q, P, hb, hs => by
    obtain ⟨P', k, Q', e1, e2, e3⟩ := al_split hal hb
    have a1 := shp_at (by rw [e1] at hS; exact hS)
    obtain ⟨g1, g2, g3⟩ := c_go hR hS e1
    have hx := hle x (by rw [hb]; simp)
    have hlx := hL P x Q hb
    have hcl : (nI P.length).toNatClampNeg = P.length := nI_clamp (by omega)
    rw [e2] at g1 g2
    by_cases hc : m ≤ x.2
    · refine ⟨1, fun q => absurd q g1, fun _ => ⟨g2, fun q => absurd q ?_, fun _ => hyes P x Q hb hs hc⟩⟩
      rw [hcl, hlx, nI_ltI (by omega) (by omega)]; omega
    · obtain ⟨c, hcc⟩ := lpx_low (post := post) hm hR hS hal hle hL hyes hno Q (P ++ [x]) (app_one hb) (fun y hy => by
        rcases List.mem_append.mp hy with q | q
        · exact hs y q
        · rcases List.mem_cons.mp q with rfl | q
          · omega
          · cases q)
      refine ⟨c + 1, fun q => absurd q g1, fun _ => ⟨g2, fun _ => ?_, fun q => absurd ?_ q⟩⟩
      · rw [nI_1]
        rw [List.length_append] at hcc
        exact hcc
      · rw [hcl, hlx, nI_ltI (by omega) (by omega)]; omega
theorem s_low {post : Int32 → CS → Prop} {ps : List Blk} {m pl : Nat} (hm : m ≤ 1023) (hR : RC σ bs) (hS : shp N bs) (hal : bs.map Prod.fst = ps.map Prod.fst) (hle : ∀ x, x ∈ ps → x.2 ≤ x.1) (hL : LC σ ps) (hpl : pl ≤ ps.length) (hlo : ∀ P x Q, ps = P ++ x :: Q → P.length < pl → x.2 < m)
    (hyes : ∀ P x Q, ps = P ++ x :: Q → (∀ y, y ∈ P → y.2 < m) → m ≤ x.2 → post (nI P.length) σ) (hno : (∀ x, x ∈ ps → x.2 < m) → post (-1) σ) : wp_X0_lowestPlace (lnC Hd N K) σ (nI pl) (nI (4 * m)) post := by
  have h := lpx_low (Hd := Hd) (K := K) (post := post) (Kx := fun σ5 => post (-1) σ5) hm hR hS hal hle hL hyes hno (ps.drop pl) (ps.take pl) (List.take_append_drop pl ps).symm (fun y hy => by
    obtain ⟨a, b, hab⟩ := List.append_of_mem hy
    have hl : a.length < pl := by
      have := congrArg List.length hab
      rw [List.length_take, Nat.min_eq_left hpl] at this
      simp at this
      omega
    refine hlo a y (b ++ ps.drop pl) ?_ hl
    rw [← List.cons_append, ← List.append_assoc, ← hab, List.take_append_drop])
  rw [List.length_take, Nat.min_eq_left hpl] at h
  exact h
theorem TG_put {c r1 r2 : Nat} (hr : r1 ≠ r2) {vs : List Vic} {ts : List Nat} {x : Vic} {t : Nat} (hv : vs.length ≤ 1023) (h : TG c r1 r2 σ vs ts) : TG c r1 r2 (setF (setA (setA σ r1 (σ.1 c).toNatClampNeg (nI (4 + 4 * x.2.1))) r2 (σ.1 c).toNatClampNeg (nI (4 + 4 * t))) c ((σ.1 c) + 1)) (vs ++ [x]) (ts ++ [t]) := by
  have e : (σ.1 c).toNatClampNeg = vs.length := by rw [h.1, nI_clamp (by omega)]
  refine ⟨?_, by simp [h.2.1], fun a y b q => ?_, fun a y b q => ?_⟩
  · simp only [setF_1, if_true, h.1, nI_1]
    simp
  · simp only [setF_2, setA_2, if_neg hr, if_true, upd_at, e]
    rcases sp_cases q.symm with ⟨c, h1, h2⟩ | ⟨c, h1, h2⟩
    · have hl : a.length < vs.length := by rw [h1]; simp
      rw [if_neg (by omega)]
      exact h.2.2.1 a y c h1
    · rcases sp_cons h2.symm with ⟨rfl, h3, h4⟩ | ⟨c2, rfl, h3⟩
      · rw [List.append_nil] at h1
        rw [if_pos (by rw [h1]), h3]
      · exact absurd h3.symm (by simp)
  · simp only [setF_2, setA_2, if_neg (Ne.symm hr), if_true, upd_at, e]
    rcases sp_cases q.symm with ⟨c, h1, h2⟩ | ⟨c, h1, h2⟩
    · have hl : a.length < ts.length := by rw [h1]; simp
      rw [if_neg (by have := h.2.1; omega)]
      exact h.2.2.2 a y c h1
    · rcases sp_cons h2.symm with ⟨rfl, h3, h4⟩ | ⟨c2, rfl, h3⟩
      · rw [List.append_nil] at h1
        rw [if_pos (by rw [h1, h.2.1]), h3]
      · exact absurd h3.symm (by simp)
theorem TG_other {c r1 r2 : Nat} {σ' : CS} {vs : List Vic} {ts : List Nat} (h : TG c r1 r2 σ vs ts) (h1 : σ'.1 c = σ.1 c) (h2 : σ'.2 r1 = σ.2 r1) (h3 : σ'.2 r2 = σ.2 r2) : TG c r1 r2 σ' vs ts := by
  unfold TG at *
  rw [h1, h2, h3]
  exact h
theorem plA_ys {v : Vic} {vs : List Vic} {P R : List Blk} {x : Blk} {l : List Nat} (h : ∀ y, y ∈ P → y.2 < v.2.2) (hx : v.2.2 ≤ x.2) (hl : plA vs (P ++ (x.1, x.2 - v.2.2) :: R) = some l) : plA (v :: vs) (P ++ x :: R) = some ((tot P + x.1 - x.2) :: l) := by
  rw [plA, pl1_yes hx h]
  simp only [List.nil_append, tot_nil, Nat.zero_add, hl]
theorem plA_yn {v : Vic} {vs : List Vic} {P R : List Blk} {x : Blk} (h : ∀ y, y ∈ P → y.2 < v.2.2) (hx : v.2.2 ≤ x.2) (hl : plA vs (P ++ (x.1, x.2 - v.2.2) :: R) = none) : plA (v :: vs) (P ++ x :: R) = none := by
  rw [plA, pl1_yes hx h]
  simp only [List.nil_append, hl]
theorem plA_no {v : Vic} {vs : List Vic} {ps : List Blk} (h : ∀ y, y ∈ ps → y.2 < v.2.2) : plA (v :: vs) ps = none := by rw [plA, pl1_no h]
end PLACE
