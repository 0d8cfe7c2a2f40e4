/-! PURE: the reference's writers. -/
def MOnly (τ τ' : CS) : Prop := (∀ k, τ'.1 k = τ.1 k) ∧ ∀ k, k ≠ 1 → k ≠ 2 → k ≠ 3 → τ'.2 k = τ.2 k
theorem MOnly.rf {τ : CS} : MOnly τ τ := ⟨fun _ => rfl, fun _ _ _ _ => rfl⟩
theorem MOnly.tr {a b c : CS} (h : MOnly a b) (h2 : MOnly b c) : MOnly a c := ⟨fun k => (h2.1 k).trans (h.1 k), fun k h3 h4 h5 => (h2.2 k h3 h4 h5).trans (h.2 k h3 h4 h5)⟩
/-- a step of the reference -/
def stepM (τ τ' : CS) (bs' : List Blk) (f : Nat → Int32) : Prop := RM τ' bs' ∧ τ'.2 4 = f ∧ τ'.1 2 = 0 ∧ τ'.1 5 = τ.1 5 ∧ τ'.2 7 = τ.2 7 ∧ τ'.2 8 = τ.2 8
theorem RM_other {τ τ' : CS} {bs : List Blk} {N : Nat} (hS : shp N bs) (h : RM τ bs) (h1 : τ'.1 1 = τ.1 1) (h2 : τ'.2 1 = τ.2 1) (h3 : τ'.2 2 = τ.2 2) (h4 : τ'.2 3 = τ.2 3) : RM τ' bs :=
  ⟨h1.trans h.1, EM_agr hS.2.1 (fun g _ _ => by rw [h2, h3, h4]; exact ⟨rfl, rfl, rfl⟩) h.2⟩
theorem norm_hd (b : Blk) (l : List Blk) : ∃ n l', norm (b :: l) = (n, b.2) :: l' := by
  rw [norm]
  cases norm l with
  | nil => exact ⟨b.1, [], rfl⟩
  | cons c l' =>
    show ∃ n l'', (if b.2 = 0 ∧ c.2 = 0 then _ else _) = _
    by_cases h : b.2 = 0 ∧ c.2 = 0
    · rw [if_pos h, h.1]; exact ⟨_, _, rfl⟩
    · rw [if_neg h]; exact ⟨_, _, rfl⟩
/-- a block that doesn't join the next one stays -/
theorem norm_keep {n k : Nat} {B : List Blk} (h : ∀ n' B', B = (n', 0) :: B' → k ≠ 0) : norm ((n, k) :: B) = (n, k) :: norm B := by
  rw [norm]
  cases B with
  | nil => rfl
  | cons c B =>
    obtain ⟨c1, c2⟩ := c
    obtain ⟨m, l', hm⟩ := norm_hd (c1, c2) B
    rw [hm]
    show (if k = 0 ∧ c2 = 0 then _ else _) = _
    rw [if_neg (fun q => h c1 B (by rw [q.2]) q.1)]
section MODW
variable {N : Nat} {τ : CS} {bs A B : List Blk} {n k m : Nat}
theorem lpx_joins {post : CS → Prop} : ∀ (len : Nat) (B A : List Blk) (τ1 : CS), B.length ≤ len → RM τ1 (A ++ B) → shp N (A ++ B) → MOnly τ τ1 → (∀ τ', RM τ' (A ++ norm B) → MOnly τ τ' → post τ') → ∃ c, lp_X5_joins_2 lnM post (fun σ => post σ) c τ1 (nI (tot A))
  | len, [], A, τ1, _, hR, hS, hO, hp => by
    rw [List.append_nil] at hR hS
    have h1 := hS.2.2
    have h2 := hS.1
    refine ⟨1, fun _ => hp τ1 (by rw [norm, List.append_nil]; exact hR) hO, fun q => absurd (m_end hR hS (by omega) (by omega)) q⟩
  | 0, _ :: _, _, _, hl, _, _, _, _ => absurd hl (by simp)
  | len + 1, (n, k) :: B, A, τ1, hl, hR, hS, hO, hp => by
    have a := shp_at hS
    have hg : tot A < N := by omega
    obtain ⟨g1, g2, g3⟩ := m_go hR hS hg
    have he := RM_mid hR
    have hsz : τ1.2 1 (nI (tot A)).toNatClampNeg = nI n := by rw [g3]; exact he.1
    have hlB : B.length ≤ len := by simpa using hl
    -- going on with the next block
    have next : (∀ n' B', B = (n', 0) :: B' → k ≠ 0) → ∃ c, lp_X5_joins_2 lnM post (fun σ => post σ) c τ1 (nI (tot A) + nI n) := by
      intro hk
      have := lpx_joins len B (A ++ [(n, k)]) τ1 hlB (by simpa using hR) (by simpa using hS) hO (fun τ' hR' hO' => hp τ' (by rw [norm_keep hk]; simpa using hR') hO')
      rw [tot_app, tot_cons, tot_nil] at this
      rw [nI_add]
      exact this
    have one : ∀ {A' : List Blk} {n' : Nat} {B' : List Blk}, A ++ (n, k) :: B = A' ++ (n', 0) :: B' → tot A' = tot A → k = 0 := by
      intro A' n' B' h1 h2
      have := (sp_tot hS.2.1 rfl h1 h2.symm).2.1
      injection this with h3 h4
    by_cases hk : k = 0
    · subst hk
      by_cases hB : ∃ n' B', B = (n', 0) :: B'
      · obtain ⟨n', B', rfl⟩ := hB
        have hb2 : A ++ (n, 0) :: (n', 0) :: B' = (A ++ [(n, 0)]) ++ (n', 0) :: B' := by simp
        have a2 := shp_at (by rw [hb2] at hS; exact hS)
        have t2 : tot (A ++ [(n, 0)]) = tot A + n := by rw [tot_app, tot_cons, tot_nil]; show tot A + (n + 0) = _; omega
        rw [t2] at a2
        have hg' : tot A + n < N := by omega
        have he' : E1 τ1 (tot A + n) n' 0 := by rw [hb2] at hR; have := RM_mid hR; rw [t2] at this; exact this
        obtain ⟨f1, f2, f3⟩ := m_go hR hS hg'
        -- the state behind the joining
        have hR' : RM (setA (setA τ1 1 (tot A) (nI (n + n'))) 1 (tot A + n) 0) (A ++ (n + n', 0) :: B') := by
          refine RM_re (M := [(n, 0), (n', 0)]) (M' := [(n + n', 0)]) hS hR (by show n + n' + 0 = n + (n' + 0); omega) rfl (fun g q1 q2 => ?_) (fun g q1 q2 => ?_) ⟨⟨?_, fun j j1 j2 => ?_, ?_, fun q => absurd rfl q⟩, trivial⟩
          · simp only [setA_2, Nat.reduceEqDiff, if_true, if_false, upd_at]
            rw [if_neg (by omega), if_neg (by omega)]
            exact ⟨rfl, trivial, trivial⟩
          · have q1 : tot A + (n + (n' + 0)) ≤ g := q1
            simp only [setA_2, Nat.reduceEqDiff, if_true, if_false, upd_at]
            rw [if_neg (by omega), if_neg (by omega)]
            exact ⟨rfl, trivial, trivial⟩
          · simp only [setA_2, if_true, upd_at]
            rw [if_neg (by omega)]
          · have j2 : j < n + n' := j2
            simp only [setA_2, if_true, upd_at]
            by_cases hj : j = n
            · rw [if_pos (by omega)]
            · rw [if_neg (by omega), if_neg (by omega)]
              by_cases hj2 : j < n
              · exact he.2.1 j j1 hj2
              · have := he'.2.1 (j - n) (by omega) (by omega)
                rw [show tot A + n + (j - n) = tot A + j by omega] at this
                exact this
          · simp only [setA_2, Nat.reduceEqDiff, if_false]
            exact he.2.2.1
        have hS' : shp N (A ++ (n + n', 0) :: B') := shp_re (M := [(n, 0), (n', 0)]) (M' := [(n + n', 0)]) hS (by show n + n' + 0 = n + (n' + 0); omega) (okB_one (by omega) (Nat.zero_le _))
        have hO' : MOnly τ (setA (setA τ1 1 (tot A) (nI (n + n'))) 1 (tot A + n) 0) := ⟨fun k => hO.1 k, fun j h1 h2 h3 => by simp only [setA_2, if_neg h1]; exact hO.2 j h1 h2 h3⟩
        obtain ⟨c, hc⟩ := lpx_joins len ((n + n', 0) :: B') A _ (by simpa using hlB) hR' hS' hO' (fun τ' q1 q2 => hp τ' (by have := norm_two [] B' n n'; simp only [List.nil_append] at this; rw [this]; exact q1) q2)
        refine ⟨c + 1, fun q => absurd q g1, fun _ => ⟨g2, m_isFree hR hS (by omega) (fun A' x B'' hb ht => ⟨fun q => absurd q (by decide), fun _ => ?_⟩) (fun h => absurd rfl (h A n _ rfl))⟩⟩
        rw [hsz, nI_add]
        refine m_isFree hR hS (by omega) (fun A'' x' B''' hb' ht' => ⟨fun q => absurd q (by decide), fun _ => ⟨f2, ?_⟩⟩) (fun h => absurd t2 (h (A ++ [(n, 0)]) n' B' hb2))
        rw [g3, f3, he.1, he'.1, nI_add]
        exact hc
      · have hB' : ∀ n' B', B = (n', 0) :: B' → (0 : Nat) ≠ 0 := fun n' B' h => absurd ⟨n', B', h⟩ hB
        obtain ⟨c, hc⟩ := next hB'
        refine ⟨c + 1, fun q => absurd q g1, fun _ => ⟨g2, m_isFree hR hS (by omega) (fun A' x B'' hb ht => ⟨fun q => absurd q (by decide), fun _ => ?_⟩) (fun h => absurd rfl (h A n _ rfl))⟩⟩
        rw [hsz]
        have hfin : ∀ A' x B'', A ++ (n, 0) :: B = A' ++ (x, 0) :: B'' → tot A' ≠ tot A + n := by
          intro A' x B'' hb ht
          rcases sp_cases hb.symm with ⟨c', h3, h4⟩ | ⟨c', h3, h4⟩
          · have := congrArg tot h3
            rw [tot_app, tot_cons] at this
            omega
          · rcases sp_cons h4.symm with ⟨rfl, h5, h6⟩ | ⟨c2, rfl, h5⟩
            · rw [List.append_nil] at h3; rw [h3] at ht; omega
            · cases c2 with
              | nil => exact hB ⟨x, B'', by rw [h5]; rfl⟩
              | cons y c2 =>
                rw [h3, tot_app, tot_cons, tot_cons] at ht
                have hy : 1 ≤ y.1 := by
                  have o := hS.2.1
                  rw [h5] at o
                  exact (okB_cons.mp (okB_cons.mp (okB_app.mp o).2).2).1.1
                have e : (n, 0).1 = n := rfl
                omega
        have hc' := hc
        rw [nI_add] at hc' ⊢
        refine m_isFree hR hS (by omega) (fun A' x B'' hb ht => absurd ht (hfin A' x B'' hb)) (fun _ => ⟨fun _ => hc', fun q => absurd rfl q⟩)
    · obtain ⟨c, hc⟩ := next (fun _ _ _ => hk)
      refine ⟨c + 1, fun q => absurd q g1, fun _ => ⟨g2, m_isFree hR hS (by omega) (fun A' x B'' hb ht => absurd (one hb ht) hk) (fun _ => ⟨fun _ => ?_, fun q => absurd rfl q⟩)⟩⟩
      rw [hsz]
      exact hc
theorem m_joins {post : CS → Prop} (hR : RM τ bs) (hS : shp N bs) (hp : ∀ τ', RM τ' (norm bs) → MOnly τ τ' → post τ') : wp_X5_joins lnM τ post := lpx_joins bs.length bs [] τ (Nat.le_refl _) hR hS MOnly.rf hp
end MODW
