/-! PURE: the class's row, its readers. -/
/-- numbers of a list of blocks: free ones, their groups, the largest -/
def nf : List Blk → Nat
  | [] => 0
  | b :: l => (if b.2 = 0 then 1 else 0) + nf l
def gf : List Blk → Nat
  | [] => 0
  | b :: l => (if b.2 = 0 then b.1 else 0) + gf l
def mx : List Blk → Nat
  | [] => 0
  | b :: l => max (if b.2 = 0 then b.1 else 0) (mx l)
theorem nf_app (a b : List Blk) : nf (a ++ b) = nf a + nf b := by
  induction a with
  | nil => simp [nf]
  | cons x a ih => rw [List.cons_append, nf, nf, ih]; omega
theorem gf_app (a b : List Blk) : gf (a ++ b) = gf a + gf b := by
  induction a with
  | nil => simp [gf]
  | cons x a ih => rw [List.cons_append, gf, gf, ih]; omega
theorem mx_app (a b : List Blk) : mx (a ++ b) = max (mx a) (mx b) := by
  induction a with
  | nil => simp [mx]
  | cons x a ih => rw [List.cons_append, mx, mx, ih]; omega
theorem nf_one (n k : Nat) : nf [(n, k)] = if k = 0 then 1 else 0 := rfl
theorem gf_one (n k : Nat) : gf [(n, k)] = if k = 0 then n else 0 := rfl
theorem mx_one (n k : Nat) : mx [(n, k)] = if k = 0 then n else 0 := by show max _ 0 = _; simp
theorem nf_le (l : List Blk) : nf l ≤ l.length := by
  induction l with
  | nil => exact Nat.le_refl _
  | cons x a ih => rw [nf, List.length_cons]; split <;> omega
theorem gf_le (l : List Blk) : gf l ≤ tot l := by
  induction l with
  | nil => exact Nat.le_refl _
  | cons x a ih => rw [gf, tot_cons]; split <;> omega
theorem mx_le (l : List Blk) : mx l ≤ gf l := by
  induction l with
  | nil => exact Nat.le_refl _
  | cons x a ih => rw [gf, mx]; split <;> omega
section ROWR
variable {Hd N K : Nat} {σ : CS} {bs l1 l2 : List Blk} {n k : Nat}
theorem app_one {l1 l2 : List Blk} {x : Blk} (h : bs = l1 ++ x :: l2) : bs = (l1 ++ [x]) ++ l2 := by rw [h]; simp
theorem c_end (hR : RC σ bs) (h : bs = l1 ++ []) : σ.1 0 ≤ nI l1.length := by
  rw [hR.1, h, List.append_nil]
  exact Int32.le_refl _
theorem c_go (hR : RC σ bs) (hS : shp N bs) (h : bs = l1 ++ (n, k) :: l2) : ¬ (σ.1 0 ≤ nI l1.length) ∧ vp_in (nI l1.length) N ∧ nI l1.length + 1 = nI (l1 ++ [(n, k)]).length := by
  have hS' := hS
  rw [h] at hS'
  have a := shp_at hS'
  refine ⟨?_, (vpI (by omega)).mpr (by omega), by rw [List.length_append, List.length_cons, List.length_nil]; exact (nI_succ _).symm⟩
  rw [hR.1, h, nI_leI (by simp; omega) (by omega)]
  simp
theorem r_c (hS : shp N bs) (h : bs = l1 ++ (n, k) :: l2) : (nI l1.length).toNatClampNeg = l1.length := by
  rw [h] at hS
  have a := shp_at hS
  exact nI_clamp (by omega)
theorem r3 (hR : RC σ bs) (hS : shp N bs) (h : bs = l1 ++ (n, k) :: l2) : σ.2 3 (nI l1.length).toNatClampNeg = nI (4 + 4 * tot l1) := by rw [r_c hS h]; exact (hR.2 _ _ _ _ h).1
theorem r4 (hR : RC σ bs) (hS : shp N bs) (h : bs = l1 ++ (n, k) :: l2) : σ.2 4 (nI l1.length).toNatClampNeg = nI (4 * n) := by rw [r_c hS h]; exact (hR.2 _ _ _ _ h).2.1
theorem r5 (hR : RC σ bs) (hS : shp N bs) (h : bs = l1 ++ (n, k) :: l2) : σ.2 5 (nI l1.length).toNatClampNeg = nI k := by rw [r_c hS h]; exact (hR.2 _ _ _ _ h).2.2
theorem k0 (hS : shp N bs) (h : bs = l1 ++ (n, k) :: l2) : (nI k = 0) ↔ k = 0 := by
  rw [h] at hS
  have a := shp_at hS
  rw [iLit 0, nI_eq (by omega) (by decide)]
theorem lpx_indexOf {post : Int32 → CS → Prop} {Kx : CS → Prop} {p : Int32} (hR : RC σ bs) (hS : shp N bs) (hyes : ∀ a n k b, bs = a ++ (n, k) :: b → p = nI (4 + 4 * tot a) → post (nI a.length) σ) (hno : (∀ a n k b, bs = a ++ (n, k) :: b → p ≠ nI (4 + 4 * tot a)) → Kx σ) :
    ∀ (l2 l1 : List Blk), bs = l1 ++ l2 → (∀ a n k b, bs = a ++ (n, k) :: b → a.length < l1.length → p ≠ nI (4 + 4 * tot a)) → ∃ m, lp_X2_indexOf_2 (lnC Hd N K) post Kx p m σ (nI l1.length)
  | [], l1, hb, hd => ⟨1, fun _ => hno (fun a n k b h => hd a n k b h (by
      have h2 := congrArg List.length (h.symm.trans hb)
      simp at h2
      omega)), fun h => absurd (c_end hR hb) h⟩
  | (n, k) :: l2, l1, hb, hd => by
    obtain ⟨g1, g2, g3⟩ := c_go hR hS hb
    by_cases hp : p = nI (4 + 4 * tot l1)
    · exact ⟨1, fun h => absurd h g1, fun _ => ⟨g2, fun h => absurd ((r3 hR hS hb).trans hp.symm) h, fun _ => hyes l1 n k l2 hb hp⟩⟩
    · obtain ⟨m, hm⟩ := lpx_indexOf hR hS hyes hno l2 (l1 ++ [(n, k)]) (app_one hb) (fun a n' k' b h hl => by
        by_cases he : a.length < l1.length
        · exact hd a n' k' b h he
        · have h2 : a.length = l1.length := by simp at hl; omega
          rw [(sp_uniq (h.symm.trans hb) h2).1]
          exact hp)
      refine ⟨m + 1, fun h => absurd h g1, fun _ => ⟨g2, fun _ => ?_, fun h => absurd (h.symm.trans (r3 hR hS hb)) hp⟩⟩
      rw [g3]
      exact hm
theorem s_indexOf {post : Int32 → CS → Prop} {p : Int32} (hR : RC σ bs) (hS : shp N bs) (hyes : ∀ a n k b, bs = a ++ (n, k) :: b → p = nI (4 + 4 * tot a) → post (nI a.length) σ) (hno : (∀ a n k b, bs = a ++ (n, k) :: b → p ≠ nI (4 + 4 * tot a)) → post (-1) σ) : wp_X2_indexOf (lnC Hd N K) σ p post :=
  lpx_indexOf (Kx := fun σ5 => post (-1) σ5) hR hS hyes hno bs [] rfl (fun a n k b h hl => absurd hl (Nat.not_lt_zero _))
theorem not_m1 (hS : shp N bs) (h : bs = l1 ++ (n, k) :: l2) : ¬ nI l1.length = -1 := by
  rw [h] at hS
  have a := shp_at hS
  exact fun q => (nI_m1 (by omega)).mp q
theorem s_liveIndex {post : Int32 → CS → Prop} {p : Int32} (hR : RC σ bs) (hS : shp N bs) (hyes : ∀ a n k b, bs = a ++ (n, k) :: b → p = nI (4 + 4 * tot a) → k ≠ 0 → post (nI a.length) σ) (hno : (∀ a n k b, bs = a ++ (n, k) :: b → p = nI (4 + 4 * tot a) → k = 0) → post (-1) σ) : wp_X2_liveIndex (lnC Hd N K) σ p post := by
  refine s_indexOf hR hS (fun a n k b hb hp => ⟨fun h => absurd h (not_m1 hS hb), fun _ => ⟨(c_go hR hS hb).2.1, fun h => ?_, fun h => ?_⟩⟩) (fun hn => ⟨fun _ => hno (fun a n k b h hp => absurd hp (hn a n k b h)), fun h => absurd rfl h⟩)
  · rw [r5 hR hS hb, k0 hS hb] at h
    refine hno (fun a' n' k' b' hb' hp' => ?_)
    have ht : tot a' = tot a := by
      have h1 := shp_at (by rw [hb] at hS; exact hS)
      have h2 := shp_at (by rw [hb'] at hS; exact hS)
      have h3 := hp'.symm.trans hp
      rw [nI_eq (by omega) (by omega)] at h3
      omega
    have h4 := (sp_tot hS.2.1 hb' hb ht).2.1
    injection h4 with h5 h6
    rw [h6, h]
  · rw [r5 hR hS hb, k0 hS hb] at h
    exact hyes a n k b hb hp h
theorem s_freeIndex {post : Int32 → CS → Prop} {p : Int32} (hR : RC σ bs) (hS : shp N bs) (hyes : ∀ a n b, bs = a ++ (n, 0) :: b → p = nI (4 + 4 * tot a) → post (nI a.length) σ) (hno : (∀ a n k b, bs = a ++ (n, k) :: b → p = nI (4 + 4 * tot a) → k ≠ 0) → post (-1) σ) : wp_X2_freeIndex (lnC Hd N K) σ p post := by
  refine s_indexOf hR hS (fun a n k b hb hp => ⟨fun h => absurd h (not_m1 hS hb), fun _ => ⟨(c_go hR hS hb).2.1, fun h => ?_, fun h => ?_⟩⟩) (fun hn => ⟨fun _ => hno (fun a n k b h hp => absurd hp (hn a n k b h)), fun h => absurd rfl h⟩)
  · rw [r5 hR hS hb, k0 hS hb] at h
    refine hno (fun a' n' k' b' hb' hp' => ?_)
    have ht : tot a' = tot a := by
      have h1 := shp_at (by rw [hb] at hS; exact hS)
      have h2 := shp_at (by rw [hb'] at hS; exact hS)
      have h3 := hp'.symm.trans hp
      rw [nI_eq (by omega) (by omega)] at h3
      omega
    have h4 := (sp_tot hS.2.1 hb' hb ht).2.1
    injection h4 with h5 h6
    rw [h6]
    exact h
  · rw [r5 hR hS hb, k0 hS hb] at h
    subst h
    exact hyes a n b hb hp
theorem s_isFree {post : Int32 → CS → Prop} {i : Nat} (hR : RC σ bs) (hS : shp N bs) (hi : i ≤ 2000) (hyes : ∀ a n b, bs = a ++ (n, 0) :: b → a.length = i → post 1 σ) (hno : (∀ a n b, bs = a ++ (n, 0) :: b → a.length ≠ i) → post 0 σ) : wp_X2_isFree (lnC Hd N K) σ (nI i) post := by
  have hl := shp_len hS
  refine ⟨fun h => absurd h (nI_pos (by omega)), fun _ => ⟨fun h => ?_, fun h => ?_⟩⟩
  · rw [hR.1, nI_leI (by omega) (by omega)] at h
    refine hno (fun a n b hb hl => ?_)
    rw [hb] at h
    simp at h
    omega
  · rw [hR.1, nI_leI (by omega) (by omega)] at h
    obtain ⟨a, x, b, hb, ha⟩ := sp_len (bs := bs) (i := i) (by omega)
    obtain ⟨n, k⟩ := x
    subst ha
    refine ⟨(c_go hR hS hb).2.1, fun h5 => ?_, fun h5 => ?_⟩
    · rw [r5 hR hS hb, k0 hS hb] at h5
      refine hno (fun a' n' b' hb' hl' => h5 ?_)
      have := (sp_uniq (hb'.symm.trans hb) hl').2.1
      injection this with h6 h7
      exact h7.symm
    · rw [r5 hR hS hb, k0 hS hb] at h5
      subst h5
      exact hyes a n b hb rfl
theorem lpx_freeBlocks {post : Int32 → CS → Prop} {Kx : CS → Int32 → Prop} (hR : RC σ bs) (hS : shp N bs) (hx : Kx σ (nI (nf bs))) : ∀ (l2 l1 : List Blk), bs = l1 ++ l2 → ∃ m, lp_X2_freeBlocks_4 (lnC Hd N K) post Kx m σ (nI (nf l1)) (nI l1.length)
  | [], l1, hb => ⟨1, fun _ => by rw [List.append_nil] at hb; rw [← hb]; exact hx, fun h => absurd (c_end hR hb) h⟩
  | (n, k) :: l2, l1, hb => by
    obtain ⟨g1, g2, g3⟩ := c_go hR hS hb
    obtain ⟨m, hm⟩ := lpx_freeBlocks hR hS hx l2 (l1 ++ [(n, k)]) (app_one hb)
    rw [nf_app, nf_one] at hm
    refine ⟨m + 1, fun h => absurd h g1, fun _ => ⟨g2, fun h => ?_, fun h => ?_⟩⟩
    · rw [r5 hR hS hb, k0 hS hb] at h
      rw [if_neg h] at hm
      rw [g3, iLit 0, nI_add]
      exact hm
    · rw [r5 hR hS hb, k0 hS hb] at h
      rw [if_pos h] at hm
      rw [g3, nI_1]
      exact hm
theorem s_freeBlocks {post : Int32 → CS → Prop} (hR : RC σ bs) (hS : shp N bs) (hp : post (nI (nf bs)) σ) : wp_X2_freeBlocks (lnC Hd N K) σ post := lpx_freeBlocks (Kx := fun σ5 x => post x σ5) hR hS hp bs [] rfl
theorem s_liveBlocks {post : Int32 → CS → Prop} (hR : RC σ bs) (hS : shp N bs) (hp : post (nI (bs.length - nf bs)) σ) : wp_X2_liveBlocks (lnC Hd N K) σ post := by
  refine s_freeBlocks hR hS ?_
  show post (σ.1 0 - nI (nf bs)) σ
  rw [hR.1, pk_sub (nf_le bs)]
  exact hp
theorem lpx_freeWords {post : Int32 → CS → Prop} {Kx : CS → Int32 → Prop} (hR : RC σ bs) (hS : shp N bs) (hx : Kx σ (nI (4 * gf bs))) : ∀ (l2 l1 : List Blk), bs = l1 ++ l2 → ∃ m, lp_X2_freeWords_4 (lnC Hd N K) post Kx m σ (nI (4 * gf l1)) (nI l1.length)
  | [], l1, hb => ⟨1, fun _ => by rw [List.append_nil] at hb; rw [← hb]; exact hx, fun h => absurd (c_end hR hb) h⟩
  | (n, k) :: l2, l1, hb => by
    obtain ⟨g1, g2, g3⟩ := c_go hR hS hb
    obtain ⟨m, hm⟩ := lpx_freeWords hR hS hx l2 (l1 ++ [(n, k)]) (app_one hb)
    rw [gf_app, gf_one] at hm
    refine ⟨m + 1, fun h => absurd h g1, fun _ => ⟨g2, fun h => ?_, fun h => ⟨g2, ?_⟩⟩⟩
    · rw [r5 hR hS hb, k0 hS hb] at h
      rw [if_neg h] at hm
      rw [g3, iLit 0, nI_add]
      exact hm
    · rw [r5 hR hS hb, k0 hS hb] at h
      rw [if_pos h, Nat.mul_add] at hm
      rw [g3, r4 hR hS hb, nI_add]
      exact hm
theorem s_freeWords {post : Int32 → CS → Prop} (hR : RC σ bs) (hS : shp N bs) (hp : post (nI (4 * gf bs)) σ) : wp_X2_freeWords (lnC Hd N K) σ post := lpx_freeWords (Kx := fun σ5 x => post x σ5) hR hS hp bs [] rfl
theorem lpx_largestFree {post : Int32 → CS → Prop} {Kx : CS → Int32 → Prop} (hR : RC σ bs) (hS : shp N bs) (hx : Kx σ (nI (4 * mx bs))) : ∀ (l2 l1 : List Blk), bs = l1 ++ l2 → ∃ m, lp_X2_largestFree_4 (lnC Hd N K) post Kx m σ (nI (4 * mx l1)) (nI l1.length)
  | [], l1, hb => ⟨1, fun _ => by rw [List.append_nil] at hb; rw [← hb]; exact hx, fun h => absurd (c_end hR hb) h⟩
  | (n, k) :: l2, l1, hb => by
    obtain ⟨g1, g2, g3⟩ := c_go hR hS hb
    obtain ⟨m, hm⟩ := lpx_largestFree (post := post) hR hS hx l2 (l1 ++ [(n, k)]) (app_one hb)
    rw [mx_app, mx_one] at hm
    have a := shp_at (by rw [hb] at hS; exact hS)
    have b1 := mx_le l1
    have b2 := gf_le l1
    refine ⟨m + 1, fun h => absurd h g1, fun _ => ⟨g2, fun h => ?_, fun h => ⟨g2, ?_⟩⟩⟩
    · rw [r5 hR hS hb, k0 hS hb] at h
      rw [if_neg h, Nat.max_eq_left (Nat.zero_le _)] at hm
      rw [g3]
      exact hm
    · rw [r5 hR hS hb, k0 hS hb] at h
      rw [if_pos h] at hm
      rw [g3, r4 hR hS hb, nI_max (by omega) (by omega), show max (4 * mx l1) (4 * n) = 4 * max (mx l1) n by omega]
      exact hm
theorem s_largestFree {post : Int32 → CS → Prop} (hR : RC σ bs) (hS : shp N bs) (hp : post (nI (4 * mx bs)) σ) : wp_X2_largestFree (lnC Hd N K) σ post := lpx_largestFree (Kx := fun σ5 x => post x σ5) hR hS hp bs [] rfl
/-- the group of the free block of a number p, from a group on, c of them passed -/
def fa : List Blk → Nat → Nat → Int32 → Option Nat
  | [], _, _, _ => none
  | b :: l, g, c, p => if b.2 = 0 then (if nI c = p then some g else fa l (g + b.1) (c + 1) p) else fa l (g + b.1) c p
def faI (o : Option Nat) : Int32 := match o with
  | none => -1
  | some g => nI (4 + 4 * g)
theorem lpx_freeAddress {post : Int32 → CS → Prop} {p : Int32} (hR : RC σ bs) (hS : shp N bs) : ∀ (l2 l1 : List Blk), bs = l1 ++ l2 → post (faI (fa l2 (tot l1) (nf l1) p)) σ → ∃ m, lp_X2_freeAddress_4 (lnC Hd N K) post (fun σ7 => post (-1) σ7) p m σ (nI (nf l1)) (nI l1.length)
  | [], l1, hb, h1 => ⟨1, fun _ => h1, fun h => absurd (c_end hR hb) h⟩
  | (n, k) :: l2, l1, hb, h1 => by
    obtain ⟨g1, g2, g3⟩ := c_go hR hS hb
    by_cases hk : k = 0
    · subst hk
      have h0 : σ.2 5 (nI l1.length).toNatClampNeg = 0 := (r5 hR hS hb).trans rfl
      rw [fa, if_pos rfl] at h1
      by_cases hp : nI (nf l1) = p
      · rw [if_pos hp] at h1
        refine ⟨1, fun h => absurd h g1, fun _ => ⟨g2, fun h => absurd h0 h, fun _ => ⟨fun h => absurd hp h, fun _ => ⟨g2, ?_⟩⟩⟩⟩
        rw [r3 hR hS hb]
        exact h1
      · rw [if_neg hp] at h1
        obtain ⟨m, hm⟩ := lpx_freeAddress (p := p) (post := post) hR hS l2 (l1 ++ [(n, 0)]) (app_one hb) (by rw [nf_app, nf_one, tot_app, tot_cons, tot_nil]; exact h1)
        rw [nf_app, nf_one, if_pos rfl] at hm
        refine ⟨m + 1, fun h => absurd h g1, fun _ => ⟨g2, fun h => absurd h0 h, fun _ => ⟨fun _ => ?_, fun h => absurd h hp⟩⟩⟩
        rw [g3, nI_1]
        exact hm
    · rw [fa, if_neg hk] at h1
      obtain ⟨m, hm⟩ := lpx_freeAddress (p := p) (post := post) hR hS l2 (l1 ++ [(n, k)]) (app_one hb) (by rw [nf_app, nf_one, tot_app, tot_cons, tot_nil, if_neg hk]; exact h1)
      rw [nf_app, nf_one, if_neg hk] at hm
      refine ⟨m + 1, fun h => absurd h g1, fun _ => ⟨g2, fun _ => ?_, fun h => absurd ((k0 hS hb).mp (by rw [r5 hR hS hb] at h; exact h)) hk⟩⟩
      rw [g3]
      exact hm
theorem s_freeAddress {post : Int32 → CS → Prop} {p : Int32} (hR : RC σ bs) (hS : shp N bs) (hp : post (faI (fa bs 0 0 p)) σ) : wp_X2_freeAddress (lnC Hd N K) σ p post := lpx_freeAddress hR hS bs [] rfl hp
end ROWR
