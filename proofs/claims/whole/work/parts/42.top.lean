/-! PURE: the free blocks by groups; the top of a stretch; the reference's readers. -/
/-- the groups of the free block that begins at a group; 0 if none does -/
def fz : List Blk → Nat → Nat
  | [], _ => 0
  | b :: l, g => if g < b.1 then (if g = 0 ∧ b.2 = 0 then b.1 else 0) else fz l (g - b.1)
theorem fz_app : ∀ (A B : List Blk) (j : Nat), fz (A ++ B) (tot A + j) = fz B j
  | [], B, j => by rw [tot_nil, Nat.zero_add]; rfl
  | a :: A, B, j => by
    rw [List.cons_append, fz, tot_cons, if_neg (by omega), show a.1 + tot A + j - a.1 = tot A + j by omega]
    exact fz_app A B j
theorem fz_at {A B : List Blk} {n k : Nat} (hn : 1 ≤ n) : fz (A ++ (n, k) :: B) (tot A) = if k = 0 then n else 0 := by
  have h := fz_app A ((n, k) :: B) 0
  rw [Nat.add_zero] at h
  rw [h, fz, if_pos (show 0 < (n, k).1 by show 0 < n; omega)]
  by_cases hk : k = 0
  · rw [if_pos ⟨rfl, hk⟩, if_pos hk]
  · rw [if_neg (fun q => hk q.2), if_neg hk]
theorem fz_in {A B : List Blk} {n k j : Nat} (h0 : 0 < j) (hj : j < n) : fz (A ++ (n, k) :: B) (tot A + j) = 0 := by
  rw [fz_app A, fz, if_pos (show j < (n, k).1 from hj), if_neg (by omega)]
theorem fz_out : ∀ (l : List Blk) (g : Nat), tot l ≤ g → fz l g = 0
  | [], _, _ => rfl
  | b :: l, g, h => by
    rw [tot_cons] at h
    rw [fz, if_neg (by omega)]
    exact fz_out l _ (by omega)
theorem fz_le : ∀ (l : List Blk) (g : Nat), fz l g ≤ mx l
  | [], _ => Nat.le_refl _
  | b :: l, g => by
    have := fz_le l (g - b.1)
    rw [fz, mx]
    by_cases h1 : g < b.1
    · rw [if_pos h1]
      by_cases h2 : g = 0 ∧ b.2 = 0
      · rw [if_pos h2, if_pos h2.2]; omega
      · rw [if_neg h2]; omega
    · rw [if_neg h1]; omega
theorem fz_mx : ∀ (l : List Blk), okB l → mx l = 0 ∨ ∃ g, g < tot l ∧ fz l g = mx l
  | [], _ => Or.inl rfl
  | b :: l, h => by
    have h1 := okB_cons.mp h
    rw [mx]
    by_cases hb : b.2 = 0 ∧ mx l ≤ b.1
    · refine Or.inr ⟨0, by rw [tot_cons]; omega, ?_⟩
      rw [fz, if_pos (by omega), if_pos ⟨rfl, hb.1⟩, if_pos hb.1]
      omega
    · have e : max (if b.2 = 0 then b.1 else 0) (mx l) = mx l := by
        by_cases h2 : b.2 = 0
        · rw [if_pos h2]; omega
        · rw [if_neg h2]; omega
      rw [e]
      rcases fz_mx l h1.2 with h3 | ⟨g, h3, h4⟩
      · exact Or.inl h3
      · refine Or.inr ⟨b.1 + g, by rw [tot_cons]; omega, ?_⟩
        rw [fz, if_neg (by omega), show b.1 + g - b.1 = g by omega]
        exact h4
section TOP
variable {F : Nat → Nat} {a b g h : Nat}
def isTop (F : Nat → Nat) (a b g : Nat) : Prop := a ≤ g ∧ g < b ∧ 0 < F g ∧ (∀ h, a ≤ h → h < g → F h < F g) ∧ (∀ h, g < h → h < b → F h ≤ F g)
def noTop (F : Nat → Nat) (a b : Nat) : Prop := ∀ h, a ≤ h → h < b → F h = 0
theorem top_one (h1 : isTop F a b g) (h2 : isTop F a b h) : g = h := by
  rcases Nat.lt_trichotomy g h with q | q | q
  · have e1 := h1.2.2.2.2 h q h2.2.1
    have e2 := h2.2.2.2.1 g h1.1 q
    omega
  · exact q
  · have e1 := h2.2.2.2.2 g q h1.2.1
    have e2 := h1.2.2.2.1 h h2.1 q
    omega
theorem top_no (h1 : isTop F a b g) (h2 : noTop F a b) : False := by
  have := h2 g h1.1 h1.2.1
  have := h1.2.2.1
  omega
theorem top_le (h1 : isTop F a b g) {j : Nat} (h2 : a ≤ j) (h3 : j < b) : F j ≤ F g := by
  rcases Nat.lt_trichotomy j g with q | q | q
  · exact Nat.le_of_lt (h1.2.2.2.1 j h2 q)
  · rw [q]; exact Nat.le_refl _
  · exact h1.2.2.2.2 j q h3
theorem no_s (h1 : noTop F a b) (h2 : F b = 0) : noTop F a (b + 1) := fun h q1 q2 => by
  by_cases q : h = b
  · rw [q]; exact h2
  · exact h1 h q1 (by omega)
theorem no_t (h1 : noTop F a b) (h2 : 0 < F b) (hab : a ≤ b) : isTop F a (b + 1) b :=
  ⟨hab, by omega, h2, fun h q1 q2 => by rw [h1 h q1 q2]; exact h2, fun h q1 q2 => by omega⟩
theorem top_s (h1 : isTop F a b g) (h2 : F b ≤ F g) : isTop F a (b + 1) g :=
  ⟨h1.1, by have := h1.2.1; omega, h1.2.2.1, h1.2.2.2.1, fun h q1 q2 => by
    by_cases q : h = b
    · rw [q]; exact h2
    · exact h1.2.2.2.2 h q1 (by omega)⟩
theorem top_t (h1 : isTop F a b g) (h2 : F g < F b) : isTop F a (b + 1) b :=
  ⟨by have := h1.1; have := h1.2.1; omega, by omega, by omega, fun h q1 q2 => by have := top_le h1 q1 q2; omega, fun h q1 q2 => by omega⟩
theorem top_or (F : Nat → Nat) (a : Nat) : ∀ d, (∃ g, isTop F a (a + d) g) ∨ noTop F a (a + d)
  | 0 => Or.inr (fun h q1 q2 => by omega)
  | d + 1 => by
    rcases top_or F a d with ⟨g, h⟩ | h
    · by_cases q : F (a + d) ≤ F g
      · exact Or.inl ⟨g, top_s (b := a + d) h q⟩
      · exact Or.inl ⟨a + d, top_t (b := a + d) h (by omega)⟩
    · by_cases q : F (a + d) = 0
      · exact Or.inr (no_s (b := a + d) h q)
      · exact Or.inl ⟨a + d, no_t (b := a + d) h (by omega) (by omega)⟩
theorem top_or' (F : Nat → Nat) {a b : Nat} (h : a ≤ b) : (∃ g, isTop F a b g) ∨ noTop F a b := by
  have := top_or F a (b - a)
  rw [show a + (b - a) = b by omega] at this
  exact this
end TOP
section MTOP
variable {N : Nat} {τ : CS} {bs A B : List Blk} {n k m : Nat}
theorem fz_N (hS : shp N bs) (g : Nat) : fz bs g ≤ 1023 := by
  have h1 := fz_le bs g
  have h2 := mx_le bs
  have h3 := gf_le bs
  have h4 := hS.1
  have h5 := hS.2.2
  omega
theorem m_fz {post : Int32 → CS → Prop} {g : Nat} (hR : RM τ bs) (hS : shp N bs) (hg : g < N) (hyes : 0 < fz bs g → τ.2 1 g = nI (fz bs g) → post 1 τ) (hno : fz bs g = 0 → post 0 τ) : wp_X5_isFree lnM τ (nI g) post := by
  have hN := hS.2.2
  refine m_isFree hR hS (by omega) (fun A n B hb ht => ?_) (fun h => hno ?_)
  · have a := shp_at (by rw [hb] at hS; exact hS)
    have he : E1 τ (tot A) n 0 := by rw [hb] at hR; exact RM_mid hR
    have e : fz bs g = n := by rw [hb, ← ht, fz_at a.1, if_pos rfl]
    refine hyes (by omega) ?_
    rw [e, ← ht]
    exact he.1
  · rcases m_size hR hS hg with ⟨A, n, k, B, hb, ht, he, hn⟩ | ⟨h0, hn⟩
    · rw [hb, ← ht, fz_at hn, if_neg]
      intro hk
      exact h A n B (by rw [hb, hk]) ht
    · obtain ⟨A, x, B, hb, h1, h2⟩ := sp_grp (bs := bs) (g := g) (by rw [hS.1]; exact hg)
      obtain ⟨n, k⟩ := x
      have h2 : g < tot A + n := h2
      have := hn A n k B hb
      rw [hb, show g = tot A + (g - tot A) by omega, fz_in (by omega) (by omega)]
theorem lpx_top {post : Int32 → CS → Prop} {Kx : CS → Int32 → Prop} {a b : Nat} (hR : RM τ bs) (hS : shp N bs) (hb : b ≤ N) (hyes : ∀ g, isTop (fz bs) a b g → Kx τ (nI g)) (hno : noTop (fz bs) a b → Kx τ (-1)) :
    ∀ (d x : Nat) (y : Int32), x + d = b → a ≤ x → ((y = -1 ∧ noTop (fz bs) a x) ∨ ∃ g, y = nI g ∧ isTop (fz bs) a x g) → ∃ c, lp_X5_top_5 lnM post Kx (nI b) c τ y (nI x)
  | 0, x, y, hd, ha, hy => by
    have hN := hS.2.2
    have hx : x = b := by omega
    subst hx
    refine ⟨1, fun _ => ?_, fun q => absurd (Int32.le_refl _) q⟩
    rcases hy with ⟨rfl, h⟩ | ⟨g, rfl, h⟩
    · exact hno h
    · exact hyes g h
  | d + 1, x, y, hd, ha, hy => by
    have hN := hS.2.2
    have hlt : ¬ nI b ≤ nI x := by rw [nI_leI (by omega) (by omega)]; omega
    have hx1 : nI x + 1 = nI (x + 1) := nI_1 _
    have go : ∀ y', ((y' = -1 ∧ noTop (fz bs) a (x + 1)) ∨ ∃ g, y' = nI g ∧ isTop (fz bs) a (x + 1) g) → ∃ c, lp_X5_top_5 lnM post Kx (nI b) c τ y' (nI x + 1) := by
      intro y' h
      rw [hx1]
      exact lpx_top hR hS hb hyes hno d (x + 1) y' (by omega) (by omega) h
    have hin : vp_in (nI x) 1024 := (vpI (by omega)).mpr (by omega)
    have hcl : (nI x).toNatClampNeg = x := nI_clamp (by omega)
    by_cases h0 : fz bs x = 0
    · obtain ⟨c, hc⟩ := go y (by
        rcases hy with ⟨e, h⟩ | ⟨g, e, h⟩
        · exact Or.inl ⟨e, no_s h h0⟩
        · exact Or.inr ⟨g, e, top_s h (by omega)⟩)
      exact ⟨c + 1, fun q => absurd q hlt, fun _ => m_fz hR hS (by omega) (fun q => absurd q (by omega)) (fun _ => ⟨fun _ => hc, fun q => absurd rfl q⟩)⟩
    · rcases hy with ⟨rfl, h⟩ | ⟨g, rfl, h⟩
      · obtain ⟨c, hc⟩ := go (nI x) (Or.inr ⟨x, rfl, no_t h (by omega) ha⟩)
        exact ⟨c + 1, fun q => absurd q hlt, fun _ => m_fz hR hS (by omega) (fun _ _ => ⟨fun q => absurd q (by decide), fun _ => ⟨fun _ => hc, fun q => absurd rfl q⟩⟩) (fun q => absurd q h0)⟩
      · have g1 := h.2.1
        have hgs : τ.2 1 g = nI (fz bs g) := by
          have hex := h.2.2.1
          obtain ⟨A, z, B, hz, z1, z2⟩ := sp_grp (bs := bs) (g := g) (by rw [hS.1]; omega)
          obtain ⟨n, k⟩ := z
          have z2 : g < tot A + n := z2
          have a1 := shp_at (by rw [hz] at hS; exact hS)
          have ez : tot A = g := by
            by_cases q : tot A = g
            · exact q
            · rw [hz, show g = tot A + (g - tot A) by omega, fz_in (by omega) (by omega)] at hex
              omega
          have he : E1 τ (tot A) n k := by rw [hz] at hR; exact RM_mid hR
          rw [hz, ← ez, fz_at a1.1] at hex ⊢
          by_cases hk : k = 0
          · rw [if_pos hk]; exact he.1
          · rw [if_neg hk] at hex; omega
        have f1 := fz_N hS x
        have f2 := fz_N hS g
        have hm : ¬ nI g = -1 := fun q => (nI_m1 (by omega)).mp q
        have hin2 : vp_in (nI g) 1024 := (vpI (by omega)).mpr (by omega)
        have hcl2 : (nI g).toNatClampNeg = g := nI_clamp (by omega)
        by_cases hc : fz bs x ≤ fz bs g
        · obtain ⟨c, hcc⟩ := go (nI g) (Or.inr ⟨g, rfl, top_s h hc⟩)
          refine ⟨c + 1, fun q => absurd q hlt, fun _ => m_fz hR hS (by omega) (fun _ e => ⟨fun q => absurd q (by decide), fun _ => ⟨fun q => absurd q hm, fun _ => ⟨hin, hin2, ?_⟩⟩⟩) (fun q => absurd q h0)⟩
          rw [hcl, hcl2, e, hgs, nI_nleI (by omega) (by omega)]
          exact ⟨fun _ => hcc, fun q => absurd hc q⟩
        · obtain ⟨c, hcc⟩ := go (nI x) (Or.inr ⟨x, rfl, top_t h (by omega)⟩)
          refine ⟨c + 1, fun q => absurd q hlt, fun _ => m_fz hR hS (by omega) (fun _ e => ⟨fun q => absurd q (by decide), fun _ => ⟨fun q => absurd q hm, fun _ => ⟨hin, hin2, ?_⟩⟩⟩) (fun q => absurd q h0)⟩
          rw [hcl, hcl2, e, hgs, nI_nleI (by omega) (by omega)]
          exact ⟨fun q => absurd q hc, fun _ => hcc⟩
theorem m_top {post : Int32 → CS → Prop} {a b : Nat} (hR : RM τ bs) (hS : shp N bs) (hb : b ≤ N) (hab : a ≤ b) (hyes : ∀ g, isTop (fz bs) a b g → post (nI g) τ) (hno : noTop (fz bs) a b → post (-1) τ) : wp_X5_top lnM τ (nI a) (nI b) post :=
  lpx_top (Kx := fun σ x => post x σ) hR hS hb hyes hno (b - a) a (-1) (by omega) (Nat.le_refl _) (Or.inl ⟨rfl, fun h q1 q2 => by omega⟩)
theorem m_szf (hR : RM τ bs) (hS : shp N bs) {g : Nat} (h : 0 < fz bs g) : τ.2 1 g = nI (fz bs g) ∧ g < N := by
  have hg : g < N := by
    by_cases q : g < N
    · exact q
    · rw [fz_out bs g (by rw [hS.1]; omega)] at h; omega
  refine ⟨?_, hg⟩
  obtain ⟨A, z, B, hz, z1, z2⟩ := sp_grp (bs := bs) (g := g) (by rw [hS.1]; exact hg)
  obtain ⟨n, k⟩ := z
  have z2 : g < tot A + n := z2
  have a1 := shp_at (by rw [hz] at hS; exact hS)
  have ez : tot A = g := by
    by_cases q : tot A = g
    · exact q
    · rw [hz, show g = tot A + (g - tot A) by omega, fz_in (by omega) (by omega)] at h
      omega
  have he : E1 τ (tot A) n k := by rw [hz] at hR; exact RM_mid hR
  rw [hz, ← ez, fz_at a1.1] at h ⊢
  by_cases hk : k = 0
  · rw [if_pos hk]; exact he.1
  · rw [if_neg hk] at h; omega
theorem M_largest {post : Int32 → CS → Prop} (hR : RM τ bs) (hS : shp N bs) (hp : post (nI (4 * mx bs)) (setF τ 0 0)) : wp_X5_largest lnM τ post := by
  have hN := hS.2.2
  have hR' := RM_t hS hR 0
  show wp_X5_top lnM (setF τ 0 0) (nI 0) (τ.1 1) _
  rw [hR.1, hS.1]
  refine m_top hR' hS (Nat.le_refl _) (Nat.zero_le _) (fun g hg => ⟨fun _ => ?_, fun q => absurd q (fun q => (nI_m1 (by have := hg.2.1; omega)).mp q)⟩) (fun h => ⟨fun q => absurd rfl q, fun _ => ?_⟩)
  · have h1 := m_szf hR' hS hg.2.2.1
    have e : fz bs g = mx bs := by
      have q1 := fz_le bs g
      rcases fz_mx bs hS.2.1 with q2 | ⟨j, q2, q3⟩
      · have := hg.2.2.1; omega
      · have := top_le hg (Nat.zero_le j) (by rw [← hS.1]; exact q2)
        omega
    refine ⟨(vpI (by omega)).mpr (by show g < 1024; omega), ?_⟩
    rw [nI_clamp (by omega), h1.1, e, iLit 4, pk_mul]
    exact hp
  · have e : mx bs = 0 := by
      rcases fz_mx bs hS.2.1 with q2 | ⟨j, q2, q3⟩
      · exact q2
      · rw [← q3]; exact h j (Nat.zero_le _) (by rw [← hS.1]; exact q2)
    rw [e] at hp
    exact hp
end MTOP
