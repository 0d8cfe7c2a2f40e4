/-! PURE: free neighbours become one. -/
def cj (b : Blk) (l : List Blk) : List Blk := match l with
  | [] => [b]
  | c :: l' => if b.2 = 0 ∧ c.2 = 0 then (b.1 + c.1, 0) :: l' else b :: c :: l'
def norm : List Blk → List Blk
  | [] => []
  | b :: l => cj b (norm l)
def nadj : List Blk → Prop
  | [] => True
  | b :: l => (∀ c l', l = c :: l' → ¬ (b.2 = 0 ∧ c.2 = 0)) ∧ nadj l
theorem norm_id : ∀ {l : List Blk}, nadj l → norm l = l
  | [], _ => rfl
  | b :: l, h => by
    rw [norm, norm_id h.2]
    cases l with
    | nil => rfl
    | cons c l' => show (if b.2 = 0 ∧ c.2 = 0 then _ else _) = _; rw [if_neg (h.1 c l' rfl)]
theorem nadj_app {A B : List Blk} : nadj (A ++ B) ↔ nadj A ∧ nadj B ∧ ∀ A' b c B', A = A' ++ [b] → B = c :: B' → ¬ (b.2 = 0 ∧ c.2 = 0) := by
  induction A with
  | nil =>
    refine ⟨fun h => ⟨trivial, h, fun A' b c B' h1 => ?_⟩, fun h => h.2.1⟩
    exact absurd h1.symm (by simp)
  | cons x A ih =>
    constructor
    · intro h
      obtain ⟨h1, h2, h3⟩ := ih.mp h.2
      refine ⟨⟨fun c l' hc => h.1 c (l' ++ B) (by rw [hc]; rfl), h1⟩, h2, fun A' b c B' ha hb => ?_⟩
      cases A' with
      | nil =>
        injection ha with h4 h5
        subst h4 h5
        exact h.1 c B' (by rw [hb]; rfl)
      | cons y A' =>
        injection ha with h4 h5
        exact h3 A' b c B' h5 hb
    · rintro ⟨⟨h1, h2⟩, h3, h4⟩
      refine ⟨fun c l' hc => ?_, ih.mpr ⟨h2, h3, fun A' b c B' ha hb => h4 (x :: A') b c B' (by rw [ha]; rfl) hb⟩⟩
      cases A with
      | nil => exact h4 [] x c l' rfl hc
      | cons y A =>
        injection hc with h5 h6
        exact h1 c A (by rw [h5])
theorem norm_two (A B : List Blk) (n n' : Nat) : norm (A ++ (n, 0) :: (n', 0) :: B) = norm (A ++ (n + n', 0) :: B) := by
  induction A with
  | cons x A ih => show cj x _ = cj x _; exact congrArg (cj x) ih
  | nil =>
    show cj (n, 0) (cj (n', 0) (norm B)) = cj (n + n', 0) (norm B)
    cases norm B with
    | nil => rfl
    | cons c l =>
      show cj (n, 0) (if (n', 0).2 = 0 ∧ c.2 = 0 then _ else _) = (if (n + n', 0).2 = 0 ∧ c.2 = 0 then _ else _)
      by_cases h : c.2 = 0
      · rw [if_pos ⟨rfl, h⟩, if_pos ⟨rfl, h⟩]
        show (if (n, 0).2 = 0 ∧ (n' + c.1, 0).2 = 0 then (n + (n' + c.1), 0) :: l else (n, 0) :: (n' + c.1, 0) :: l) = _
        rw [if_pos ⟨rfl, rfl⟩, Nat.add_assoc]
      · rw [if_neg (fun q => h q.2), if_neg (fun q => h q.2)]
        rfl
theorem tot_cj (b : Blk) (l : List Blk) : tot (cj b l) = b.1 + tot l := by
  cases l with
  | nil => rfl
  | cons c l =>
    show tot (if b.2 = 0 ∧ c.2 = 0 then _ else _) = _
    split
    · rw [tot_cons, tot_cons]; show b.1 + c.1 + tot l = _; omega
    · rw [tot_cons]
theorem tot_norm : ∀ l : List Blk, tot (norm l) = tot l
  | [] => rfl
  | b :: l => by rw [norm, tot_cj, tot_norm l, tot_cons]
theorem okB_norm : ∀ {l : List Blk}, okB l → okB (norm l)
  | [], h => h
  | b :: l, h => by
    have h1 := okB_cons.mp h
    have h2 := okB_norm h1.2
    rw [norm]
    cases hl : norm l with
    | nil => exact okB_cons.mpr ⟨h1.1, okB_nil⟩
    | cons c l' =>
      rw [hl] at h2
      have h3 := okB_cons.mp h2
      show okB (if b.2 = 0 ∧ c.2 = 0 then _ else _)
      split
      · exact okB_cons.mpr ⟨⟨by show 1 ≤ b.1 + c.1; omega, Nat.zero_le _⟩, h3.2⟩
      · exact okB_cons.mpr ⟨h1.1, h2⟩
theorem nadj_cj {b : Blk} {l : List Blk} (h : nadj l) : nadj (cj b l) := by
  cases l with
  | nil => exact ⟨fun c l' h => (by cases h), trivial⟩
  | cons c l =>
    show nadj (if b.2 = 0 ∧ c.2 = 0 then _ else _)
    by_cases hc : b.2 = 0 ∧ c.2 = 0
    · rw [if_pos hc]
      refine ⟨fun d l' hd q => h.1 d l' hd ⟨hc.2, q.2⟩, h.2⟩
    · rw [if_neg hc]
      exact ⟨fun d l' hd => by injection hd with h1 h2; rw [← h1]; exact hc, h⟩
theorem nadj_norm : ∀ l : List Blk, nadj (norm l)
  | [] => trivial
  | b :: l => by rw [norm]; exact nadj_cj (nadj_norm l)
theorem shp_norm {N : Nat} {l : List Blk} (h : shp N l) : shp N (norm l) := ⟨by rw [tot_norm]; exact h.1, okB_norm h.2.1, h.2.2⟩
/-- the end of a list -/
theorem lst {α : Type} (A : List α) : A = [] ∨ ∃ A' x, A = A' ++ [x] := by
  rcases List.eq_nil_or_concat A with h | ⟨A', x, h⟩
  · exact Or.inl h
  · exact Or.inr ⟨A', x, by rw [h, List.concat_eq_append]⟩
section REL
variable {Hd N K : Nat} {σ : CS} {bs A B : List Blk} {n k m : Nat}
theorem shp_kind (hS : shp N (A ++ (n, k) :: B)) {k' : Nat} (hk : k' ≤ 2) : shp N (A ++ (n, k') :: B) := by
  have a := shp_at hS
  exact shp_re (M := [(n, k)]) (M' := [(n, k')]) hS rfl (okB_one a.1 hk)
theorem s_release {post : CS → Prop} (hR : RC σ bs) (hS : shp N bs) (hj : nadj bs) (hb : bs = A ++ (n, k) :: B) (hp : ∀ σ', RC σ' (norm (A ++ (n, 0) :: B)) → RowOnly σ σ' → post σ') : wp_X2_release (lnC Hd N K) σ (nI A.length) post := by
  have a := shp_at (by rw [hb] at hS; exact hS)
  have g2 := (c_go hR hS hb).2.1
  have e0 : (nI A.length).toNatClampNeg = A.length := nI_clamp (by omega)
  have e1 : nI A.length + 1 = nI (A.length + 1) := nI_1 _
  have hR1 := RC_kind hR hb 0
  have hS1 : shp N (A ++ (n, 0) :: B) := shp_kind (by rw [← hb]; exact hS) (Nat.zero_le _)
  rw [hb] at hj
  obtain ⟨jA, jB, -⟩ := nadj_app.mp hj
  have jB' := jB.2
  have jA' : ∀ A' b c B', A = A' ++ [b] → B = c :: B' → True := fun _ _ _ _ _ _ => trivial
  -- the left side, for whatever stands on the right
  have left : ∀ (m : Nat) (C : List Blk) (σ1 : CS), RC σ1 (A ++ (m, 0) :: C) → shp N (A ++ (m, 0) :: C) → RowOnly σ σ1 → nadj C → (∀ c C', C = c :: C' → c.2 ≠ 0) → norm (A ++ (m, 0) :: C) = norm (A ++ (n, 0) :: B) →
      wp_X2_isFree (lnC Hd N K) σ1 (nI A.length - 1) (fun r6 σ5 => ((r6 = 0 → post σ5) ∧ (¬ r6 = 0 → wp_X2_join (lnC Hd N K) σ5 (nI A.length - 1) (fun σ8 => post σ8)))) := by
    intro m C σ1 hR1 hS1 hO jC hC hn
    rcases lst A with hA | ⟨A', x, hA⟩
    · subst hA
      refine ⟨fun _ => ⟨fun _ => ?_, fun h => absurd rfl h⟩, fun h => absurd (by decide) h⟩
      refine hp σ1 ?_ hO
      rw [← hn, norm_id]
      · exact hR1
      · exact ⟨fun c l' hc q => hC c l' hc q.2, jC⟩
    · have hl : nI A.length - 1 = nI A'.length := by rw [hA, List.length_append]; exact nI_pred _
      have hA2 : A ++ (m, 0) :: C = A' ++ x :: (m, 0) :: C := by rw [hA]; simp
      have hll : A'.length ≤ 1023 := by rw [hA, List.length_append, List.length_cons, List.length_nil] at a; omega
      rw [hl]
      refine s_isFree hR1 hS1 (by omega) (fun D y E hD hDl => ⟨fun h => absurd h (by decide), fun _ => ?_⟩) (fun hno => ⟨fun _ => ?_, fun h => absurd rfl h⟩)
      · have h5 := sp_uniq (hD.symm.trans hA2) hDl
        obtain ⟨-, h6, h7⟩ := h5
        subst h6
        rw [hA2] at hR1 hS1 hn
        refine s_join hR1 hS1 rfl (fun σ' hR' hO' => hp σ' ?_ (hO.tr hO'))
        rw [← hn, norm_two, norm_id]
        · exact hR'
        · rw [hA] at jA
          have j3 := nadj_app.mp jA
          refine nadj_app.mpr ⟨j3.1, ⟨fun c l' hc q => hC c l' hc q.2, jC⟩, fun A'' b c B' ha hb' q => ?_⟩
          injection hb' with h8 h9
          exact j3.2.2 A'' b (y, 0) [] ha rfl ⟨q.1, rfl⟩
      · refine hp σ1 ?_ hO
        rw [← hn, norm_id]
        · exact hR1
        · refine nadj_app.mpr ⟨jA, ⟨fun c l' hc q => hC c l' hc q.2, jC⟩, fun A'' b c B' ha hb' q => ?_⟩
          have h8 := List.append_inj' (hA.symm.trans ha) rfl
          injection h8.2 with h9
          obtain ⟨bn, bk⟩ := b
          have hbk : bk = 0 := q.1
          exact hno A' bn ((m, 0) :: C) (by rw [hA2, h9, hbk]) rfl
  refine ⟨g2, ?_⟩
  rw [e0, e1]
  refine s_isFree (σ := setA σ 5 A.length 0) hR1 hS1 (by omega) (fun D y E hD hDl => ⟨fun h => absurd h (by decide), fun _ => ?_⟩) (fun hno => ⟨fun _ => ?_, fun h => absurd rfl h⟩)
  · have h2 : A ++ (n, 0) :: B = (A ++ [(n, 0)]) ++ B := by simp
    rw [h2] at hD
    obtain ⟨h3, h4⟩ := List.append_inj hD (by rw [hDl]; simp)
    subst h4
    have hR1' : RC (setA σ 5 A.length 0) (A ++ (n, 0) :: (y, 0) :: E) := hR1
    refine s_join hR1' hS1 rfl (fun σ' hR' hO' => ?_)
    refine left (n + y) E σ' hR' (shp_re (M := [(n, 0), (y, 0)]) (M' := [(n + y, 0)]) hS1 (by show n + y + 0 = n + (y + 0); omega) (okB_one (by omega) (Nat.zero_le _))) ((RowOnly_kind _ _).tr hO') jB'.2 (fun c C' hc q => jB'.1 c C' hc ⟨rfl, q⟩) (norm_two A E n y).symm
  · refine left n B (setA σ 5 A.length 0) hR1 hS1 (RowOnly_kind _ _) jB' (fun c C' hc q => ?_) rfl
    obtain ⟨cn, ck⟩ := c
    have hck : ck = 0 := q
    exact hno (A ++ [(n, 0)]) cn C' (by rw [hc, hck]; simp) (by simp)
end REL
