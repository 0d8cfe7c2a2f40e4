/-! PURE: the reference's rows. -/
/-- the reference's rows hold one block at a group -/
def E1 (τ : CS) (g n k : Nat) : Prop := τ.2 1 g = nI n ∧ (∀ j, 0 < j → j < n → τ.2 1 (g + j) = 0) ∧ τ.2 2 g = (if k = 0 then 0 else 1) ∧ (k ≠ 0 → τ.2 3 g = if k = 2 then 1 else 0)
def EM (τ : CS) : Nat → List Blk → Prop
  | _, [] => True
  | g, b :: l => E1 τ g b.1 b.2 ∧ EM τ (g + b.1) l
def RM (τ : CS) (bs : List Blk) : Prop := τ.1 1 = nI (tot bs) ∧ EM τ 0 bs
theorem EM_app {τ : CS} {B : List Blk} : ∀ {A : List Blk} {g : Nat}, EM τ g (A ++ B) ↔ EM τ g A ∧ EM τ (g + tot A) B
  | [], g => ⟨fun h => ⟨trivial, h⟩, fun h => h.2⟩
  | a :: A, g => by
    rw [List.cons_append, EM, EM, EM_app, tot_cons, Nat.add_assoc]
    exact ⟨fun h => ⟨⟨h.1, h.2.1⟩, h.2.2⟩, fun h => ⟨h.1.1, h.1.2, h.2⟩⟩
/-- two states alike over a stretch -/
def agr (τ τ' : CS) (lo hi : Nat) : Prop := ∀ g, lo ≤ g → g < hi → τ'.2 1 g = τ.2 1 g ∧ τ'.2 2 g = τ.2 2 g ∧ τ'.2 3 g = τ.2 3 g
theorem E1_agr {τ τ' : CS} {g n k : Nat} (hn : 1 ≤ n) (h : agr τ τ' g (g + n)) (he : E1 τ g n k) : E1 τ' g n k := by
  have h0 := h g (Nat.le_refl _) (by omega)
  refine ⟨h0.1.trans he.1, fun j h1 h2 => (h (g + j) (by omega) (by omega)).1.trans (he.2.1 j h1 h2), h0.2.1.trans he.2.2.1, fun hk => h0.2.2.trans (he.2.2.2 hk)⟩
theorem EM_agr {τ τ' : CS} : ∀ {l : List Blk} {g : Nat}, okB l → agr τ τ' g (g + tot l) → EM τ g l → EM τ' g l
  | [], _, _, _, _ => trivial
  | b :: l, g, ho, h, he => by
    have h1 := okB_cons.mp ho
    rw [tot_cons] at h
    exact ⟨E1_agr h1.1.1 (fun q a b => h q a (by omega)) he.1, EM_agr h1.2 (fun q a c => h q (by omega) (by omega)) he.2⟩
theorem RM_mid {τ : CS} {A B : List Blk} {n k : Nat} (h : RM τ (A ++ (n, k) :: B)) : E1 τ (tot A) n k := by
  have := (EM_app.mp h.2).2
  rw [Nat.zero_add] at this
  exact this.1
/-- a middle part is written anew -/
theorem RM_re {N : Nat} {τ τ' : CS} {A B M M' : List Blk} (hS : shp N (A ++ (M ++ B))) (h : RM τ (A ++ (M ++ B))) (ht : tot M' = tot M) (hg : τ'.1 1 = τ.1 1) (h1 : agr τ τ' 0 (tot A)) (h2 : agr τ τ' (tot A + tot M) (tot A + tot M + tot B)) (hM : EM τ' (tot A) M') : RM τ' (A ++ (M' ++ B)) := by
  obtain ⟨h3, h4⟩ := h
  have o1 := okB_app.mp hS.2.1
  have o2 := okB_app.mp o1.2
  refine ⟨?_, EM_app.mpr ⟨EM_agr o1.1 (by rw [Nat.zero_add]; exact h1) (EM_app.mp h4).1, ?_⟩⟩
  · rw [hg, h3]; simp only [tot_app]; rw [ht]
  · have h5 := EM_app.mp (EM_app.mp h4).2
    rw [Nat.zero_add] at h5 ⊢
    exact EM_app.mpr ⟨hM, by rw [ht]; exact EM_agr o2.2 h2 h5.2⟩
section MODB
variable {N : Nat} {τ : CS} {bs A B : List Blk} {n k m : Nat}
theorem m_go (hR : RM τ bs) (hS : shp N bs) {g : Nat} (hg : g < N) : ¬ (τ.1 1 ≤ nI g) ∧ vp_in (nI g) 1024 ∧ (nI g).toNatClampNeg = g := by
  have h := hS.2.2
  refine ⟨?_, (vpI (by omega)).mpr (by omega), nI_clamp (by omega)⟩
  rw [hR.1, hS.1, nI_leI (by omega) (by omega)]
  omega
theorem m_end (hR : RM τ bs) (hS : shp N bs) {g : Nat} (hg : N ≤ g) (h2 : g < 2 ^ 31) : τ.1 1 ≤ nI g := by
  have h := hS.2.2
  rw [hR.1, hS.1, nI_leI (by omega) h2]
  exact hg
theorem b10 : vp_nar .boolean 1 = 1 := by decide
theorem b00 : vp_nar .boolean 0 = 0 := by decide
/-- what the size row says of any group -/
theorem m_size (hR : RM τ bs) (hS : shp N bs) {g : Nat} (hg : g < N) : (∃ A n k B, bs = A ++ (n, k) :: B ∧ tot A = g ∧ E1 τ g n k ∧ 1 ≤ n) ∨ (τ.2 1 g = 0 ∧ ∀ A n k B, bs = A ++ (n, k) :: B → tot A ≠ g) := by
  obtain ⟨A, x, B, hb, h1, h2⟩ := sp_grp (bs := bs) (g := g) (by rw [hS.1]; exact hg)
  obtain ⟨n, k⟩ := x
  have h2 : g < tot A + n := h2
  have a := shp_at (by rw [hb] at hS; exact hS)
  rw [hb] at hR
  have he := RM_mid hR
  by_cases hq : tot A = g
  · exact Or.inl ⟨A, n, k, B, hb, hq, by rw [← hq]; exact he, a.1⟩
  · refine Or.inr ⟨?_, fun A' n' k' B' hb' ht => ?_⟩
    · have := he.2.1 (g - tot A) (by omega) (by omega)
      rw [show tot A + (g - tot A) = g by omega] at this
      exact this
    · have a' := shp_at (by rw [hb'] at hS; exact hS)
      rw [hb] at hb'
      rcases sp_cases hb' with ⟨c, h3, h4⟩ | ⟨c, h3, h4⟩
      · have := congrArg tot h3
        rw [tot_app, tot_cons] at this
        have e : (n, k).1 = n := rfl
        omega
      · cases c with
        | nil => rw [List.append_nil] at h3; rw [h3] at hq; exact hq ht
        | cons y c =>
          have := congrArg tot h3
          rw [tot_app, tot_cons] at this
          injection h4 with h5 h6
          rw [← h5] at this
          have e : (n', k').1 = n' := rfl
          omega
theorem m_isFree {post : Int32 → CS → Prop} {g : Nat} (hR : RM τ bs) (hS : shp N bs) (hg : g ≤ 3000) (hyes : ∀ A n B, bs = A ++ (n, 0) :: B → tot A = g → post 1 τ) (hno : (∀ A n B, bs = A ++ (n, 0) :: B → tot A ≠ g) → post 0 τ) : wp_X5_isFree lnM τ (nI g) post := by
  have hN := hS.2.2
  by_cases h : g < N
  · obtain ⟨g1, g2, g3⟩ := m_go hR hS h
    refine ⟨fun q => absurd q g1, fun _ => ⟨g2, ?_⟩⟩
    rw [g3]
    rcases m_size hR hS h with ⟨A, n, k, B, hb, ht, he, hn⟩ | ⟨h0, hn⟩
    · have a := shp_at (by rw [hb] at hS; exact hS)
      rw [he.1]
      refine ⟨fun q => absurd q (nI_nle (by omega) (by omega)), fun _ => ⟨g2, ?_⟩⟩
      rw [he.2.2.1]
      by_cases hk : k = 0
      · subst hk
        exact ⟨fun q => absurd rfl q, fun _ => hyes A n B hb ht⟩
      · rw [if_neg hk]
        refine ⟨fun _ => hno (fun A' n' B' hb' ht' => hk ?_), fun q => absurd q (by decide)⟩
        have := (sp_tot hS.2.1 hb' hb (ht'.trans ht.symm)).2.1
        injection this with h5 h6
        exact h6.symm
    · rw [h0]
      exact ⟨fun _ => hno (fun A n B hb => hn A n 0 B hb), fun q => absurd (by decide) q⟩
  · refine ⟨fun _ => hno (fun A n B hb ht => ?_), fun q => absurd (m_end hR hS (by omega) (by omega)) q⟩
    have a := shp_at (by rw [hb] at hS; exact hS)
    omega
theorem m_find {post : Int32 → CS → Prop} {p : Int32} (hR : RM τ bs) (hS : shp N bs) (hyes : ∀ A n k B, liv bs p A n k B → post (nI (tot A)) τ) (hno : noliv bs p → post (-1) τ) : wp_X5_find lnM τ p post := by
  have hN := hS.2.2
  have small : p < 4 → noliv bs p := by
    intro hp A n k B hb hq
    have a := shp_at (by rw [hb] at hS; exact hS)
    rw [hq, iLit 4, nI_ltI (by omega) (by decide)] at hp
    omega
  refine ⟨fun h => hno (small h), fun h => ?_⟩
  obtain ⟨v, hv, rfl⟩ := nI_of (x := p) (fun q => h (by
    have a := Int32.lt_iff_toInt_lt.mp q
    have c : (0 : Int32).toInt = 0 := by decide
    have d : (4 : Int32).toInt = 4 := by decide
    exact Int32.lt_iff_toInt_lt.mpr (by omega)))
  rw [iLit 4, nI_ltI hv (by decide)] at h
  rw [iLit 4, pk_rem hv (by decide) (by decide), pk_div hv (by decide) (by decide)]
  refine ⟨fun h4 => hno (fun A n k B hb hq => ?_), fun h4 => ⟨fun hle => ?_, fun hle => hno (fun A n k B hb hq => ?_)⟩⟩
  · have a := shp_at (by rw [hb] at hS; exact hS)
    rw [nI_eq hv (by omega)] at hq
    exact absurd (by rw [iLit 0]; congr 1; omega) h4
  · rw [iLit 0, nI_eq (by omega) (by decide)] at h4
    rw [hR.1, hS.1, nI_leI (by omega) (by omega)] at hle
    rw [iLit 1, pk_sub (by omega)]
    have hg : v / 4 - 1 < N := by omega
    obtain ⟨g1, g2, g3⟩ := m_go hR hS hg
    refine ⟨g2, ?_⟩
    rw [g3]
    rcases m_size hR hS hg with ⟨A, n, k, B, hb, ht, he, hn⟩ | ⟨h0, hn⟩
    · have a := shp_at (by rw [hb] at hS; exact hS)
      rw [he.1]
      refine ⟨fun q => absurd q (nI_nle (by omega) (by omega)), fun _ => ⟨g2, ?_⟩⟩
      rw [he.2.2.1]
      have hpv : nI v = nI (4 + 4 * tot A) := by congr 1; omega
      by_cases hk : k = 0
      · rw [if_pos hk]
        refine ⟨fun _ => hno (fun A' n' k' B' hb' hq' => ?_), fun q => absurd rfl q⟩
        have a' := shp_at (by rw [hb'] at hS; exact hS)
        rw [hpv, nI_eq (by omega) (by omega)] at hq'
        have := (sp_tot hS.2.1 hb' hb (by omega)).2.1
        injection this with h5 h6
        rw [h6, hk]
      · rw [if_neg hk]
        refine ⟨fun q => absurd q (by decide), fun _ => ?_⟩
        rw [← ht]
        exact hyes A n k B ⟨hb, hpv, hk⟩
    · rw [h0]
      refine ⟨fun _ => hno (fun A n k B hb hq => ?_), fun q => absurd (by decide) q⟩
      have a := shp_at (by rw [hb] at hS; exact hS)
      rw [nI_eq hv (by omega)] at hq
      exact absurd (by omega) (hn A n k B hb)
  · have a := shp_at (by rw [hb] at hS; exact hS)
    rw [nI_eq hv (by omega)] at hq
    rw [hR.1, hS.1, nI_leI (by omega) (by omega)] at hle
    omega
/-- a loop over all groups, as one over the blocks -/
theorem grp_scan (P : Nat → List Blk → Prop) (hb : okB bs) (hend : P (tot bs) bs) (hmid : ∀ A n k B g, bs = A ++ (n, k) :: B → tot A < g → g < tot A + n → P (g + 1) (A ++ [(n, k)]) → P g (A ++ [(n, k)])) (hstart : ∀ A n k B, bs = A ++ (n, k) :: B → P (tot A + 1) (A ++ [(n, k)]) → P (tot A) A) : P 0 [] := by
  have key : ∀ (B A : List Blk), bs = A ++ B → P (tot A) A := by
    intro B
    induction B with
    | nil => intro A h; rw [List.append_nil] at h; rw [← h]; exact hend
    | cons x B ih =>
      intro A h
      obtain ⟨n, k⟩ := x
      have h1 := ih (A ++ [(n, k)]) (app_one h)
      rw [tot_app, tot_cons, tot_nil] at h1
      have hn : 1 ≤ n := by
        rw [h] at hb
        exact (okB_cons.mp (okB_app.mp hb).2).1.1
      have h1 : P (tot A + n) (A ++ [(n, k)]) := h1
      have down : ∀ d, d < n → P (tot A + n - d) (A ++ [(n, k)]) := by
        intro d
        induction d with
        | zero => intro _; exact h1
        | succ d ihd =>
          intro hd
          refine hmid A n k B _ h (by omega) (by omega) ?_
          have := ihd (by omega)
          rw [show tot A + n - (d + 1) + 1 = tot A + n - d by omega]
          exact this
      have h2 := down (n - 1) (by omega)
      rw [show tot A + n - (n - 1) = tot A + 1 by omega] at h2
      exact hstart A n k B h h2
  exact key bs [] rfl
end MODB
