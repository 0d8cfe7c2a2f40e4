/-! PURE: blocks, numbers, what the two states hold. -/
theorem iLit (n : Nat) : (OfNat.ofNat n : Int32) = nI n := rfl
theorem vpI {a n : Nat} (ha : a < 2 ^ 31) : vp_in (nI a) n ↔ a < n := by
  rw [vp_in_iff, nI_toInt ha]
  omega
theorem nI_m1 {a : Nat} (ha : a < 2 ^ 31) : (nI a = -1) ↔ False := by
  refine ⟨fun h => ?_, fun h => h.elim⟩
  have h1 := congrArg Int32.toInt h
  rw [nI_toInt ha] at h1
  have h2 : (-1 : Int32).toInt = -1 := by decide
  omega
theorem m1_nI {a : Nat} (ha : a < 2 ^ 31) : ((-1 : Int32) = nI a) ↔ False := ⟨fun h => (nI_m1 ha).mp h.symm, fun h => h.elim⟩
theorem nI_max {a b : Nat} (ha : a < 2 ^ 31) (hb : b < 2 ^ 31) : (if nI a < nI b then nI b else nI a) = nI (max a b) := by
  by_cases h : a < b
  · rw [if_pos ((nI_ltI ha hb).mpr h), Nat.max_eq_right (Nat.le_of_lt h)]
  · rw [if_neg (fun q => h ((nI_ltI ha hb).mp q)), Nat.max_eq_left (Nat.le_of_not_lt h)]
theorem nI_nltI {a b : Nat} (ha : a < 2 ^ 31) (hb : b < 2 ^ 31) : (nI a < nI b) = (a < b) := propext (nI_ltI ha hb)
theorem nI_nleI {a b : Nat} (ha : a < 2 ^ 31) (hb : b < 2 ^ 31) : (nI a ≤ nI b) = (a ≤ b) := propext (nI_leI ha hb)
theorem nI_neqI {a b : Nat} (ha : a < 2 ^ 31) (hb : b < 2 ^ 31) : (nI a = nI b) = (a = b) := propext (nI_eq ha hb)
theorem upd_at (f : Nat → Int32) (k : Nat) (x : Int32) (j : Nat) : upd f k x j = if j = k then x else f j := rfl
theorem setF_1 (σ : CS) (k : Nat) (v : Int32) (j : Nat) : (setF σ k v).1 j = if j = k then v else σ.1 j := rfl
theorem setF_2 (σ : CS) (k : Nat) (v : Int32) (j : Nat) : (setF σ k v).2 j = σ.2 j := rfl
theorem setR_1 (σ : CS) (k : Nat) (f : Nat → Int32) (j : Nat) : (setR σ k f).1 j = σ.1 j := rfl
theorem setR_2 (σ : CS) (k : Nat) (f : Nat → Int32) (j : Nat) : (setR σ k f).2 j = if j = k then f else σ.2 j := rfl
theorem setA_1 (σ : CS) (k i : Nat) (v : Int32) (j : Nat) : (setA σ k i v).1 j = σ.1 j := rfl
theorem setA_2 (σ : CS) (k i : Nat) (v : Int32) (j : Nat) : (setA σ k i v).2 j = if j = k then upd (σ.2 k) i v else σ.2 j := rfl
abbrev Blk : Type := Nat × Nat
def tot : List Blk → Nat
  | [] => 0
  | b :: l => b.1 + tot l
theorem tot_nil : tot [] = 0 := rfl
theorem tot_cons (b : Blk) (l : List Blk) : tot (b :: l) = b.1 + tot l := rfl
theorem tot_app (a b : List Blk) : tot (a ++ b) = tot a + tot b := by
  induction a with
  | nil => simp [tot_nil]
  | cons x a ih => rw [List.cons_append, tot_cons, tot_cons, ih]; omega
def okB (bs : List Blk) : Prop := ∀ b ∈ bs, 1 ≤ b.1 ∧ b.2 ≤ 2
theorem okB_app {a b : List Blk} : okB (a ++ b) ↔ okB a ∧ okB b := by
  constructor
  · exact fun h => ⟨fun x hx => h x (List.mem_append_left _ hx), fun x hx => h x (List.mem_append_right _ hx)⟩
  · exact fun h x hx => (List.mem_append.mp hx).elim (h.1 x) (h.2 x)
theorem okB_cons {x : Blk} {b : List Blk} : okB (x :: b) ↔ (1 ≤ x.1 ∧ x.2 ≤ 2) ∧ okB b := by
  constructor
  · exact fun h => ⟨h x List.mem_cons_self, fun y hy => h y (List.mem_cons_of_mem _ hy)⟩
  · intro h y hy
    rcases List.mem_cons.mp hy with rfl | hy
    · exact h.1
    · exact h.2 y hy
theorem okB_nil : okB [] := fun _ h => by cases h
theorem len_tot {bs : List Blk} (h : okB bs) : bs.length ≤ tot bs := by
  induction bs with
  | nil => exact Nat.le_refl _
  | cons x b ih =>
    have h1 := (okB_cons.mp h)
    rw [tot_cons, List.length_cons]
    have := ih h1.2
    omega
/-- a place in a list of two parts lies in the one or in the other -/
theorem sp_cases {α : Type} {l1 l2 a b : List α} {x : α} (h : l1 ++ x :: l2 = a ++ b) : (∃ c, a = l1 ++ x :: c ∧ l2 = c ++ b) ∨ (∃ c, l1 = a ++ c ∧ b = c ++ x :: l2) := by
  induction a generalizing l1 with
  | nil => exact Or.inr ⟨l1, rfl, h.symm⟩
  | cons y a ih =>
    cases l1 with
    | nil =>
      rw [List.nil_append, List.cons_append] at h
      injection h with h1 h2
      exact Or.inl ⟨a, by rw [h1]; rfl, h2⟩
    | cons z l1 =>
      rw [List.cons_append, List.cons_append] at h
      injection h with h1 h2
      rcases ih h2 with ⟨c, h3, h4⟩ | ⟨c, h3, h4⟩
      · exact Or.inl ⟨c, by rw [h1, h3]; rfl, h4⟩
      · exact Or.inr ⟨c, by rw [h1, h3]; rfl, h4⟩
theorem sp_cons {α : Type} {l1 l2 b : List α} {x y : α} (h : l1 ++ x :: l2 = y :: b) : (l1 = [] ∧ x = y ∧ l2 = b) ∨ (∃ c, l1 = y :: c ∧ b = c ++ x :: l2) := by
  cases l1 with
  | nil =>
    injection h with h1 h2
    exact Or.inl ⟨rfl, h1, h2⟩
  | cons z l1 =>
    injection h with h1 h2
    exact Or.inr ⟨l1, by rw [h1], h2.symm⟩
/-- the block of an index -/
theorem sp_len {α : Type} : ∀ {bs : List α} {i : Nat}, i < bs.length → ∃ l1 x l2, bs = l1 ++ x :: l2 ∧ l1.length = i
  | x :: l, 0, _ => ⟨[], x, l, rfl, rfl⟩
  | x :: l, i + 1, h => by
    obtain ⟨l1, y, l2, h1, h2⟩ := sp_len (bs := l) (i := i) (by simpa using h)
    exact ⟨x :: l1, y, l2, by rw [h1]; rfl, by rw [List.length_cons, h2]⟩
/-- two places of one index are one -/
theorem sp_uniq {α : Type} {l1 l2 m1 m2 : List α} {x y : α} (h : l1 ++ x :: l2 = m1 ++ y :: m2) (hl : l1.length = m1.length) : l1 = m1 ∧ x = y ∧ l2 = m2 := by
  have h1 := List.append_inj h hl
  injection h1.2 with h2 h3
  exact ⟨h1.1, h2, h3⟩
/-- two places that begin at one group are one -/
theorem sp_tot {bs l1 l2 m1 m2 : List Blk} {x y : Blk} (hb : okB bs) (h : bs = l1 ++ x :: l2) (h' : bs = m1 ++ y :: m2) (ht : tot l1 = tot m1) : l1 = m1 ∧ x = y ∧ l2 = m2 := by
  rw [h] at h'
  rcases sp_cases h' with ⟨c, h3, h4⟩ | ⟨c, h3, h4⟩
  · rw [h3, tot_app, tot_cons] at ht
    have h5 : okB (l1 ++ x :: l2) := by rw [← h]; exact hb
    have := (okB_cons.mp (okB_app.mp h5).2).1.1
    omega
  · cases c with
    | nil =>
      rw [List.append_nil] at h3
      injection h4 with h5 h6
      exact ⟨h3, h5.symm, h6.symm⟩
    | cons z c =>
      exfalso
      rw [h3, tot_app, tot_cons] at ht
      have h5 : okB (l1 ++ x :: l2) := by rw [← h]; exact hb
      rw [h3] at h5
      have := (okB_cons.mp (okB_app.mp (okB_app.mp h5).1).2).1.1
      omega
/-- the block over a group -/
theorem sp_grp : ∀ {bs : List Blk} {g : Nat}, g < tot bs → ∃ l1 x l2, bs = l1 ++ x :: l2 ∧ tot l1 ≤ g ∧ g < tot l1 + x.1
  | [], g, h => absurd h (Nat.not_lt_zero _)
  | x :: l, g, h => by
    by_cases hx : g < x.1
    · exact ⟨[], x, l, rfl, Nat.zero_le _, by rw [tot_nil]; omega⟩
    · rw [tot_cons] at h
      obtain ⟨l1, y, l2, h1, h2, h3⟩ := sp_grp (bs := l) (g := g - x.1) (by omega)
      exact ⟨x :: l1, y, l2, by rw [h1]; rfl, by rw [tot_cons]; omega, by rw [tot_cons]; omega⟩
/-- the class's row holds the blocks -/
def RC (σ : CS) (bs : List Blk) : Prop := σ.1 0 = nI bs.length ∧ ∀ l1 n k l2, bs = l1 ++ (n, k) :: l2 → σ.2 3 l1.length = nI (4 + 4 * tot l1) ∧ σ.2 4 l1.length = nI (4 * n) ∧ σ.2 5 l1.length = nI k
/-- the heap's shape: N groups, whole blocks -/
def shp (N : Nat) (bs : List Blk) : Prop := tot bs = N ∧ okB bs ∧ N ≤ 1023
theorem shp_len {N : Nat} {bs : List Blk} (h : shp N bs) : bs.length ≤ N ∧ N ≤ 1023 := ⟨by have := len_tot h.2.1; rw [h.1] at this; exact this, h.2.2⟩
theorem shp_at {N : Nat} {l1 l2 : List Blk} {n k : Nat} (h : shp N (l1 ++ (n, k) :: l2)) : 1 ≤ n ∧ k ≤ 2 ∧ tot l1 + n + tot l2 = N ∧ l1.length + 1 + l2.length ≤ N ∧ l1.length ≤ tot l1 ∧ l2.length ≤ tot l2 ∧ N ≤ 1023 := by
  obtain ⟨h1, h2, h3⟩ := h
  have h4 := okB_app.mp h2
  have h5 := okB_cons.mp h4.2
  have a := len_tot h4.1
  have b := len_tot h5.2
  rw [tot_app, tot_cons] at h1
  have c1 : (n, k).1 = n := rfl
  have c2 : (n, k).2 = k := rfl
  rw [c1] at h5 h1
  rw [c2] at h5
  refine ⟨h5.1.1, h5.1.2, by omega, by omega, a, b, h3⟩
/-- only the row has changed -/
def RowOnly (σ σ' : CS) : Prop := (∀ k, k ≠ 0 → σ'.1 k = σ.1 k) ∧ ∀ k, k ≠ 3 → k ≠ 4 → k ≠ 5 → σ'.2 k = σ.2 k
theorem RowOnly.rf {σ : CS} : RowOnly σ σ := ⟨fun _ _ => rfl, fun _ _ _ _ => rfl⟩
theorem RowOnly.tr {a b c : CS} (h : RowOnly a b) (h2 : RowOnly b c) : RowOnly a c := ⟨fun k hk => (h2.1 k hk).trans (h.1 k hk), fun k h3 h4 h5 => (h2.2 k h3 h4 h5).trans (h.2 k h3 h4 h5)⟩
theorem ln3 (H N K : Nat) : lnC H N K 3 = N := rfl
theorem ln4 (H N K : Nat) : lnC H N K 4 = N := rfl
theorem ln5 (H N K : Nat) : lnC H N K 5 = N := rfl
theorem ln1 (H N K : Nat) : lnC H N K 1 = H := rfl
