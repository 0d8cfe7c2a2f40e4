/-! PURE: the reference's branch. -/
def fre (bs : List Blk) (p : Int32) (A : List Blk) (n : Nat) (B : List Blk) : Prop := bs = A ++ (n, 0) :: B ∧ p = nI (4 + 4 * tot A)
def nofre (bs : List Blk) (p : Int32) : Prop := ∀ A n k B, bs = A ++ (n, k) :: B → p = nI (4 + 4 * tot A) → k ≠ 0
def lowB (F : Nat → Nat) (G a : Nat) : Prop := a = 0 ∨ ∃ l, a = l + 1 ∧ F G ≤ F l
section MBR
variable {N : Nat} {τ : CS} {bs A B : List Blk} {n k m : Nat}
theorem fre_one {p : Int32} {A' B' : List Blk} {n' : Nat} (hS : shp N bs) (h : fre bs p A n B) (h' : fre bs p A' n' B') : A' = A ∧ n' = n ∧ B' = B := by
  have h1 := shp_at (by rw [h.1] at hS; exact hS)
  have h2 := shp_at (by rw [h'.1] at hS; exact hS)
  have h3 := h'.2.symm.trans h.2
  rw [nI_eq (by omega) (by omega)] at h3
  obtain ⟨h5, h6, h7⟩ := sp_tot hS.2.1 h'.1 h.1 (by omega)
  injection h6 with h8 h9
  exact ⟨h5, h8, h7⟩
theorem fre_no {p : Int32} (hS : shp N bs) (h : fre bs p A n B) (h' : nofre bs p) : False := h' A n 0 B h.1 h.2 rfl
theorem m_address {post : Int32 → CS → Prop} {g : Nat} (hp : post (nI (4 + 4 * g)) τ) : wp_X5_address lnM τ (nI g) post := by
  show post (4 * nI g + 4) τ
  rw [iLit 4, pk_mul, nI_add, Nat.add_comm]
  exact hp
theorem lpx_100 {post : Int32 → CS → Prop} {Kx : CS → Int32 → Int32 → Prop} {x2 : Int32} {G : Nat} (hR : RM τ bs) (hS : shp N bs) (hG : 0 < fz bs G) (hp : ∀ a b, LO (fz bs) G a → HI (fz bs) N G b → Kx τ (nI a) (nI b)) :
    ∀ (d a b t : Nat), b - a ≤ d → a ≤ G → G < b → b ≤ N → isTop (fz bs) a b t → lowB (fz bs) G a → (b = N ∨ fz bs G < fz bs b) → ∃ c, lp_X5_branch_100 lnM post Kx x2 (nI G) c τ (nI a) (nI b) (nI t)
  | 0, a, b, t, hd, h1, h2, _, _, _, _ => by omega
  | d + 1, a, b, t, hd, h1, h2, h3, ht, ha, hb => by
    have hN := hS.2.2
    have t1 := ht.1
    have t2 := ht.2.1
    by_cases he : t = G
    · subst he
      refine ⟨1, fun _ => hp a b ⟨h1, ht.2.2.2.1, ha⟩ ⟨h2, h3, ht.2.2.2.2, hb⟩, fun q => absurd rfl q⟩
    · have hne : ¬ nI t = nI G := by rw [nI_eq (by omega) (by omega)]; exact he
      by_cases hle : G ≤ t
      · have hle' : nI G ≤ nI t := by rw [nI_leI (by omega) (by omega)]; exact hle
        have hlt : G < t := by omega
        have hFt : fz bs G < fz bs t := ht.2.2.2.1 G h1 hlt
        rcases top_or' (fz bs) (a := a) (b := t) t1 with ⟨g, hg⟩ | hno
        · obtain ⟨c, hc⟩ := lpx_100 (post := post) (x2 := x2) hR hS hG hp d a t g (by omega) h1 hlt (by omega) hg ha (Or.inr hFt)
          refine ⟨c + 1, fun q => absurd q hne, fun _ => ⟨fun _ => ⟨fun _ => m_top hR hS (by omega) t1 (fun g' hg' => by rw [top_one hg' hg]; exact hc) (fun q => absurd q (fun q => top_no hg q)), fun q => absurd hle' q⟩, fun q => absurd hle' q⟩⟩
        · have := hno G h1 hlt
          omega
      · have hle' : ¬ nI G ≤ nI t := by rw [nI_leI (by omega) (by omega)]; exact hle
        have hFt : fz bs G ≤ fz bs t := top_le ht h1 h2
        have e1 : nI t + 1 = nI (t + 1) := nI_1 _
        rcases top_or' (fz bs) (a := t + 1) (b := b) t2 with ⟨g, hg⟩ | hno
        · obtain ⟨c, hc⟩ := lpx_100 (post := post) (x2 := x2) hR hS hG hp d (t + 1) b g (by omega) (by omega) h2 h3 hg (Or.inr ⟨t, rfl, hFt⟩) hb
          refine ⟨c + 1, fun q => absurd q hne, fun _ => ⟨fun q => absurd q hle', fun _ => ⟨fun q => absurd q hle', fun _ => ?_⟩⟩⟩
          rw [e1]
          exact m_top hR hS h3 t2 (fun g' hg' => by rw [top_one hg' hg]; exact hc) (fun q => absurd q (fun q => top_no hg q))
        · have := hno G (by omega) h2
          omega
theorem m_tpR {post : Int32 → CS → Prop} {a b : Nat} (hR : RM τ bs) (hS : shp N bs) (hb : b ≤ N) (hab : a ≤ b) (hp : ∀ r, tpR (fz bs) a b r → post r τ) : wp_X5_top lnM τ (nI a) (nI b) (fun r26 σ25 => ((¬ r26 = (-1) → wp_X5_address lnM σ25 r26 (fun r29 σ28 => post r29 σ28)) ∧ (r26 = (-1) → post 0 σ25))) := by
  have hN := hS.2.2
  refine m_top hR hS hb hab (fun g hg => ⟨fun _ => m_address (hp _ (Or.inl ⟨g, hg, rfl⟩)), fun q => absurd q (fun q => (nI_m1 (by have := hg.2.1; omega)).mp q)⟩) (fun h => ⟨fun q => absurd rfl q, fun _ => hp _ (Or.inr ⟨h, rfl⟩)⟩)
theorem m_b65 {post : Int32 → CS → Prop} {p p2 : Int32} (hR : RM τ bs) (hS : shp N bs) (h : fre bs p A n B) (ht : τ.1 0 = 0)
    (h0 : p2 = 0 → ∀ r, lft (fz bs) (tot A) r → post r τ) (h1 : p2 ≠ 0 → p2 ≠ 2 → ∀ r, rgt (fz bs) N (tot A) r → post r τ) (h2 : p2 = 2 → post (nI (4 * n)) τ) : jp_X5_branch_65 lnM post τ p p2 := by
  have hN := hS.2.2
  have a := shp_at (by rw [h.1] at hS; exact hS)
  have hF : fz bs (tot A) = n := by rw [fz_beg hS h.1, if_pos rfl]
  have e4 : p / 4 - 1 = nI (tot A) := by
    rw [h.2, iLit 4, iLit 1, pk_div (by omega) (by decide) (by decide), pk_sub (by omega)]; congr 1; omega
  refine ⟨fun _ => ?_, fun q => absurd ht q⟩
  rw [e4, hR.1, hS.1]
  rcases top_or' (fz bs) (a := 0) (b := N) (Nat.zero_le _) with ⟨t, hg⟩ | hno
  · have key : ∀ lo hi, LO (fz bs) (tot A) lo → HI (fz bs) N (tot A) hi → ((¬ p2 = 2 → ((¬ p2 = 0 → wp_X5_top lnM τ (nI (tot A) + 1) (nI hi) (fun r26 σ25 => ((¬ r26 = (-1) → wp_X5_address lnM σ25 r26 (fun r29 σ28 => post r29 σ28)) ∧ (r26 = (-1) → post 0 σ25)))) ∧ (p2 = 0 → wp_X5_top lnM τ (nI lo) (nI (tot A)) (fun r31 σ30 => ((¬ r31 = (-1) → wp_X5_address lnM σ30 r31 (fun r34 σ33 => post r34 σ33)) ∧ (r31 = (-1) → post 0 σ30)))))) ∧ (p2 = 2 → (vp_in (nI (tot A)) (lnM 1) ∧ post (4 * ((τ.2 1) (nI (tot A)).toNatClampNeg)) τ))) := by
      intro lo hi q1 q2
      have q3 := q1.1
      have q4 := q2.1
      have q5 := q2.2.1
      refine ⟨fun n2 => ⟨fun n0 => ?_, fun n0 => m_tpR hR hS (by omega) q3 (fun r hr => h0 n0 r ⟨lo, q1, hr⟩)⟩, fun n2 => ⟨(vpI (by omega)).mpr (by show _ < 1024; omega), ?_⟩⟩
      · rw [nI_1]
        exact m_tpR hR hS q5 q4 (fun r hr => h1 n0 n2 r ⟨hi, q2, hr⟩)
      · rw [nI_clamp (by omega), (m_szf hR hS (by rw [hF]; omega)).1, hF, iLit 4, pk_mul]
        exact h2 n2
    obtain ⟨c, hc⟩ := lpx_100 (post := post) (x2 := p2) (G := tot A) (Kx := fun σ20 x5_21 x6_22 => ((¬ p2 = 2 → ((¬ p2 = 0 → wp_X5_top lnM σ20 (nI (tot A) + 1) x6_22 (fun r26 σ25 => ((¬ r26 = (-1) → wp_X5_address lnM σ25 r26 (fun r29 σ28 => post r29 σ28)) ∧ (r26 = (-1) → post 0 σ25)))) ∧ (p2 = 0 → wp_X5_top lnM σ20 x5_21 (nI (tot A)) (fun r31 σ30 => ((¬ r31 = (-1) → wp_X5_address lnM σ30 r31 (fun r34 σ33 => post r34 σ33)) ∧ (r31 = (-1) → post 0 σ30)))))) ∧ (p2 = 2 → (vp_in (nI (tot A)) (lnM 1) ∧ post (4 * ((σ20.2 1) (nI (tot A)).toNatClampNeg)) σ20)))) hR hS (by rw [hF]; omega) key N 0 N t (by omega) (Nat.zero_le _) (by omega) (Nat.le_refl _) hg (Or.inl rfl) (Or.inl rfl)
    exact m_top hR hS (Nat.le_refl _) (Nat.zero_le _) (fun g' hg' => ⟨c, by rw [top_one hg' hg]; exact hc⟩) (fun q => absurd q (fun q => top_no hg q))
  · have := hno (tot A) (Nat.zero_le _) (by omega)
    omega
theorem le2 {p : Int32} (h1 : ¬ p < 0) (h2 : p ≤ 2) : p = 0 ∨ p = 1 ∨ p = 2 := by
  obtain ⟨v, hv, rfl⟩ := nI_of h1
  rw [iLit 2, nI_leI hv (by decide)] at h2
  rcases (show v = 0 ∨ v = 1 ∨ v = 2 by omega) with rfl | rfl | rfl
  · exact Or.inl rfl
  · exact Or.inr (Or.inl rfl)
  · exact Or.inr (Or.inr rfl)
theorem M_branch {post : Int32 → CS → Prop} {p p2 : Int32} (hR : RM τ bs) (hS : shp N bs) (hno : nofre bs p → post 0 (setF τ 0 1))
    (hbad : ∀ A n B, fre bs p A n B → (¬ p2 = 0 ∧ ¬ p2 = 1 ∧ ¬ p2 = 2) → post 0 (setF τ 0 2))
    (h0 : ∀ A n B, fre bs p A n B → p2 = 0 → ∀ r, lft (fz bs) (tot A) r → post r (setF τ 0 0))
    (h1 : ∀ A n B, fre bs p A n B → p2 = 1 → ∀ r, rgt (fz bs) N (tot A) r → post r (setF τ 0 0))
    (h2 : ∀ A n B, fre bs p A n B → p2 = 2 → post (nI (4 * n)) (setF τ 0 0)) : wp_X5_branch lnM τ p p2 post := by
  have hN := hS.2.2
  have bad : nofre bs p → jp_X5_branch_39 lnM post τ p p2 0 := fun h => ⟨fun q => absurd rfl q, fun _ => ⟨fun q => absurd q (show ¬ (1 : Int32) = 0 by decide), fun _ => hno h⟩⟩
  refine ⟨fun hp => bad (fun A n k B hb hq => ?_), fun hp => ?_⟩
  · have a := shp_at (by rw [hb] at hS; exact hS)
    rw [hq, iLit 4, nI_ltI (by omega) (by decide)] at hp
    omega
  obtain ⟨v, hv, rfl⟩ := nI_of (x := p) (fun q => hp (by
    have a := Int32.lt_iff_toInt_lt.mp q
    have c : (0 : Int32).toInt = 0 := by decide
    have d : (4 : Int32).toInt = 4 := by decide
    exact Int32.lt_iff_toInt_lt.mpr (by omega)))
  rw [iLit 4, nI_ltI hv (by decide)] at hp
  rw [iLit 4, pk_rem hv (by decide) (by decide), pk_div hv (by decide) (by decide)]
  refine ⟨fun h4 => bad (fun A n k B hb hq => ?_), fun h4 => ⟨fun hle => bad (fun A n k B hb hq => ?_), fun hle => ?_⟩⟩
  · have a := shp_at (by rw [hb] at hS; exact hS)
    rw [nI_eq hv (by omega)] at hq
    exact absurd (by rw [iLit 0]; congr 1; omega) h4
  · have a := shp_at (by rw [hb] at hS; exact hS)
    rw [nI_eq hv (by omega)] at hq
    rw [hR.1, hS.1, nI_ltI (by omega) (by omega)] at hle
    omega
  · rw [iLit 0, nI_eq (by omega) (by decide)] at h4
    rw [hR.1, hS.1, nI_ltI (by omega) (by omega)] at hle
    rw [iLit 1, pk_sub (by omega)]
    refine m_isFree hR hS (by omega) (fun A n B hb ht => ⟨fun q => absurd q (by decide), fun _ => ?_⟩) (fun hn => ⟨fun _ => bad (fun A n k B hb hq hk => ?_), fun q => absurd rfl q⟩)
    · have hf : fre bs (nI v) A n B := ⟨hb, by congr 1; omega⟩
      refine ⟨fun _ => ⟨fun q => ?_, fun q => ⟨fun q2 => ?_, fun q2 => ?_⟩⟩, fun q => absurd q (by decide)⟩
      · refine ⟨fun q => absurd q (show ¬ (2 : Int32) = 0 by decide), fun _ => hbad A n B hf ⟨?_, ?_, ?_⟩⟩
        · intro e; rw [e] at q; exact absurd q (by decide)
        · intro e; rw [e] at q; exact absurd q (by decide)
        · intro e; rw [e] at q; exact absurd q (by decide)
      · have h3 := le2 q q2
        refine m_b65 (τ := setF τ 0 0) (RM_t hS hR 0) hS hf rfl (fun e r hr => h0 A n B hf e r hr) (fun e1 e2 r hr => h1 A n B hf ?_ r hr) (fun e => h2 A n B hf e)
        rcases h3 with h3 | h3 | h3
        · exact absurd h3 e1
        · exact h3
        · exact absurd h3 e2
      · refine ⟨fun q => absurd q (show ¬ (2 : Int32) = 0 by decide), fun _ => hbad A n B hf ⟨?_, ?_, ?_⟩⟩
        · intro e; rw [e] at q2; exact absurd (by decide) q2
        · intro e; rw [e] at q2; exact absurd (by decide) q2
        · intro e; rw [e] at q2; exact absurd (by decide) q2
    · have a := shp_at (by rw [hb] at hS; exact hS)
      rw [nI_eq hv (by omega)] at hq
      exact hn A n B (by rw [hb, hk]) (by omega)
end MBR
