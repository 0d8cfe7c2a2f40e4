/-! PURE: the reference: takes, gives, free, pin, sizeOf, get, set. -/
section MODG
variable {N : Nat} {τ : CS} {bs A B : List Blk} {n k m : Nat}
theorem lpx_wfill {post : CS → Prop} {g m : Nat} (hg : g + m ≤ 1023) (hm : 0 < m) : ∀ (d lo : Nat) (τ : CS), lo + d = 4 * m - 1 → post (setR τ 4 (zf (τ.2 4) (4 + 4 * g + lo) (4 + 4 * g + (4 * m - 1)))) → ∃ c, lp_X5_takes_75 lnM post (fun σ => post σ) (nI g) (nI m) c τ (nI lo)
  | 0, lo, τ, hd, hp => ⟨1, fun _ => by
      rw [zf_nil _ (by omega), setR_same] at hp
      exact hp, fun h => absurd (by rw [iLit 4, iLit 1, pk_mul, pk_sub (by omega), nI_leI (by omega) (by omega)]; omega) h⟩
  | d + 1, lo, τ, hd, hp => by
    obtain ⟨c, hc⟩ := lpx_wfill (post := post) hg hm d (lo + 1) (setA τ 4 (4 + 4 * g + lo) 0) (by omega) (by
      unfold setA
      rw [setR_setR, setR_2, if_pos rfl]
      have : zf (upd (τ.2 4) (4 + 4 * g + lo) 0) (4 + 4 * g + (lo + 1)) (4 + 4 * g + (4 * m - 1)) = zf (τ.2 4) (4 + 4 * g + lo) (4 + 4 * g + (4 * m - 1)) := by
        funext j
        unfold zf
        rw [upd_at]
        by_cases h1 : j = 4 + 4 * g + lo
        · rw [if_pos h1, if_neg (by omega), if_pos (by omega)]
        · rw [if_neg h1]
          by_cases h2 : 4 + 4 * g + (lo + 1) ≤ j ∧ j < 4 + 4 * g + (4 * m - 1)
          · rw [if_pos h2, if_pos (by omega)]
          · rw [if_neg h2, if_neg (by omega)]
      rw [this]
      exact hp)
    refine ⟨c + 1, fun h => absurd h (by rw [iLit 4, iLit 1, pk_mul, pk_sub (by omega), nI_leI (by omega) (by omega)]; omega), fun _ => ?_⟩
    show vp_in _ 4097 ∧ _
    have e : 4 * nI g + 4 + nI lo = nI (4 + 4 * g + lo) := by rw [iLit 4, pk_mul, nI_add, nI_add]; congr 1; omega
    rw [e, nI_clamp (by omega), nI_1]
    exact ⟨(vpI (by omega)).mpr (by omega), hc⟩
/-- a block is taken out of a free one -/
theorem m_takes {post : CS → Prop} {d : Nat} (hR : RM τ bs) (hS : shp N bs) (hb : bs = A ++ (n, 0) :: B) (hm : 0 < m) (hd : d + m ≤ n) (hp : ∀ τ', RM τ' (A ++ gvn d m n B) → τ'.2 4 = zf (τ.2 4) (4 + 4 * (tot A + d)) (4 + 4 * (tot A + d) + (4 * m - 1)) → (∀ j, τ'.1 j = τ.1 j) → (∀ j, 4 < j → τ'.2 j = τ.2 j) → post τ') : wp_X5_takes lnM τ (nI (tot A)) (nI (tot A + d)) (nI m) post := by
  have a := shp_at (by rw [hb] at hS; exact hS)
  obtain ⟨g1, g2, g3⟩ := m_go hR hS (g := tot A) (by omega)
  obtain ⟨f1, f2, f3⟩ := m_go hR hS (g := tot A + d) (by omega)
  have he : E1 τ (tot A) n 0 := by rw [hb] at hR; exact RM_mid hR
  have e1 : nI (tot A + d) - nI (tot A) = nI d := by rw [pk_sub (by omega)]; congr 1; omega
  have e2 : nI (tot A) + τ.2 1 (tot A) - nI (tot A + d) - nI m = nI (n - d - m) := by
    rw [he.1, nI_add, pk_sub (by omega), pk_sub (by omega)]; congr 1; omega
  have hSb : shp N (A ++ ([(n, 0)] ++ B)) := by rw [hb] at hS; exact hS
  have hRb : RM τ (A ++ ([(n, 0)] ++ B)) := by rw [hb] at hR; exact hR
  refine ⟨g2, f2, f2, f2, ?_⟩
  rw [g3, f3, e1, e2, b10, b00]
  refine ⟨fun h => ?_, fun h => ?_⟩
  · rw [iLit 0, nI_leI (by omega) (by decide)] at h
    refine lpx_wfill (by omega) hm (4 * m - 1) 0 _ (by omega) ?_
    rw [Nat.add_zero]
    have hdm : d + m = n := by omega
    have hM : A ++ gvn d m n B = A ++ (((if 0 < d then [(d, 0)] else []) ++ [(m, 1)]) ++ B) := by
      unfold gvn; rw [if_neg (show ¬ d + m < n by omega)]; simp
    refine hp _ ?_ ?_ (fun j => rfl) (fun j hj => ?_)
    · rw [hM]
      refine RM_re (τ := τ) (M := [(n, 0)]) hSb hRb ?_ rfl (fun g q1 q2 => ?_) (fun g q1 q2 => ?_) ?_
      · rw [tot_app]
        show tot (if 0 < d then [(d, 0)] else []) + (m + 0) = n + 0
        by_cases hd0 : 0 < d
        · rw [if_pos hd0]; show d + 0 + (m + 0) = _; omega
        · rw [if_neg hd0, tot_nil]; omega
      · simp only [setR_2, setA_2, Nat.reduceEqDiff, if_true, if_false, upd_at]
        rw [if_neg (by omega), if_neg (by omega), if_neg (by omega), if_neg (by omega)]
        exact ⟨rfl, rfl, rfl⟩
      · have q1 : tot A + (n + 0) ≤ g := q1
        simp only [setR_2, setA_2, Nat.reduceEqDiff, if_true, if_false, upd_at]
        rw [if_neg (by omega), if_neg (by omega), if_neg (by omega), if_neg (by omega)]
        exact ⟨rfl, rfl, rfl⟩
      · have last : E1 (setR (setA (setA (setA (setA τ 1 (tot A) (nI d)) 1 (tot A + d) (nI m)) 2 (tot A + d) 1) 3 (tot A + d) 0) 4 (zf ((setA (setA (setA (setA τ 1 (tot A) (nI d)) 1 (tot A + d) (nI m)) 2 (tot A + d) 1) 3 (tot A + d) 0).2 4) (4 + 4 * (tot A + d)) (4 + 4 * (tot A + d) + (4 * m - 1)))) (tot A + d) m 1 := by
          refine ⟨?_, fun j j1 j2 => ?_, ?_, fun _ => ?_⟩
          · simp only [setR_2, setA_2, Nat.reduceEqDiff, if_true, if_false, upd_at]
          · simp only [setR_2, setA_2, Nat.reduceEqDiff, if_true, if_false, upd_at]
            rw [if_neg (by omega), if_neg (by omega)]
            have := he.2.1 (d + j) (by omega) (by omega)
            rw [← Nat.add_assoc] at this
            exact this
          · simp only [setR_2, setA_2, Nat.reduceEqDiff, if_true, if_false, upd_at]
          · simp only [setR_2, setA_2, Nat.reduceEqDiff, if_true, if_false, upd_at]
        by_cases hd0 : 0 < d
        · rw [if_pos hd0]
          refine ⟨⟨?_, fun j j1 j2 => ?_, ?_, fun q => absurd rfl q⟩, last, trivial⟩
          · simp only [setR_2, setA_2, Nat.reduceEqDiff, if_true, if_false, upd_at]
            rw [if_neg (by omega)]
          · have j2 : j < d := j2
            simp only [setR_2, setA_2, Nat.reduceEqDiff, if_true, if_false, upd_at]
            rw [if_neg (by omega), if_neg (by omega)]
            exact he.2.1 j j1 (by omega)
          · simp only [setR_2, setA_2, Nat.reduceEqDiff, if_true, if_false, upd_at]
            rw [if_neg (by omega)]
            exact he.2.2.1
        · have hd1 : d = 0 := by omega
          subst hd1
          rw [if_neg hd0]
          exact ⟨last, trivial⟩
    · show (setR _ 4 _).2 4 = _
      rw [setR_2, if_pos rfl]
      rfl
    · simp only [setR_2, setA_2]
      rw [if_neg (by omega), if_neg (by omega), if_neg (by omega), if_neg (by omega), if_neg (by omega)]
  · rw [iLit 0, nI_leI (by omega) (by decide)] at h
    obtain ⟨h1, h2, h3⟩ := m_go hR hS (g := tot A + d + m) (by omega)
    rw [nI_add, h3]
    refine ⟨h2, h2, ?_⟩
    refine lpx_wfill (by omega) hm (4 * m - 1) 0 _ (by omega) ?_
    rw [Nat.add_zero]
    have hM : A ++ gvn d m n B = A ++ (((if 0 < d then [(d, 0)] else []) ++ [(m, 1), (n - d - m, 0)]) ++ B) := by
      unfold gvn; rw [if_pos (show d + m < n by omega)]; simp
    refine hp _ ?_ ?_ (fun j => rfl) (fun j hj => ?_)
    · rw [hM]
      refine RM_re (τ := τ) (M := [(n, 0)]) hSb hRb ?_ rfl (fun g q1 q2 => ?_) (fun g q1 q2 => ?_) ?_
      · rw [tot_app]
        show tot (if 0 < d then [(d, 0)] else []) + (m + (n - d - m + 0)) = n + 0
        by_cases hd0 : 0 < d
        · rw [if_pos hd0]; show d + 0 + (m + (n - d - m + 0)) = _; omega
        · rw [if_neg hd0, tot_nil]; omega
      · simp only [setR_2, setA_2, Nat.reduceEqDiff, if_true, if_false, upd_at]
        rw [if_neg (by omega), if_neg (by omega), if_neg (by omega), if_neg (by omega), if_neg (by omega), if_neg (by omega)]
        exact ⟨rfl, rfl, rfl⟩
      · have q1 : tot A + (n + 0) ≤ g := q1
        simp only [setR_2, setA_2, Nat.reduceEqDiff, if_true, if_false, upd_at]
        rw [if_neg (by omega), if_neg (by omega), if_neg (by omega), if_neg (by omega), if_neg (by omega), if_neg (by omega)]
        exact ⟨rfl, rfl, rfl⟩
      · generalize hτ' : setR (setA (setA (setA (setA (setA (setA τ 1 (tot A) (nI d)) 1 (tot A + d) (nI m)) 2 (tot A + d) 1) 3 (tot A + d) 0) 1 (tot A + d + m) (nI (n - d - m))) 2 (tot A + d + m) 0) 4 _ = τ'
        have r1 : ∀ g, τ'.2 1 g = if g = tot A + d + m then nI (n - d - m) else if g = tot A + d then nI m else if g = tot A then nI d else τ.2 1 g := by
          intro g; rw [← hτ']; simp only [setR_2, setA_2, Nat.reduceEqDiff, if_true, if_false, upd_at]
        have r2 : ∀ g, τ'.2 2 g = if g = tot A + d + m then 0 else if g = tot A + d then 1 else τ.2 2 g := by
          intro g; rw [← hτ']; simp only [setR_2, setA_2, Nat.reduceEqDiff, if_true, if_false, upd_at]
        have r3 : ∀ g, τ'.2 3 g = if g = tot A + d then 0 else τ.2 3 g := by
          intro g; rw [← hτ']; simp only [setR_2, setA_2, Nat.reduceEqDiff, if_true, if_false, upd_at]
        have last : E1 τ' (tot A + d) m 1 := by
          refine ⟨by rw [r1, if_neg (by omega), if_pos rfl], fun j j1 j2 => ?_, by rw [r2, if_neg (by omega), if_pos rfl]; decide, fun _ => by rw [r3, if_pos rfl]; decide⟩
          rw [r1, if_neg (by omega), if_neg (by omega), if_neg (by omega)]
          have := he.2.1 (d + j) (by omega) (by omega)
          rw [← Nat.add_assoc] at this
          exact this
        have tail : E1 τ' (tot A + d + m) (n - d - m) 0 := by
          refine ⟨by rw [r1, if_pos rfl], fun j j1 j2 => ?_, by rw [r2, if_pos rfl]; rfl, fun q => absurd rfl q⟩
          rw [r1, if_neg (by omega), if_neg (by omega), if_neg (by omega)]
          have := he.2.1 (d + m + j) (by omega) (by omega)
          rw [show tot A + (d + m + j) = tot A + d + m + j by omega] at this
          exact this
        by_cases hd0 : 0 < d
        · rw [if_pos hd0]
          refine ⟨⟨?_, fun j j1 j2 => ?_, ?_, fun q => absurd rfl q⟩, last, tail, trivial⟩
          · rw [r1, if_neg (by omega), if_neg (by omega), if_pos rfl]
          · have j2 : j < d := j2
            rw [r1, if_neg (by omega), if_neg (by omega), if_neg (by omega)]
            exact he.2.1 j j1 (by omega)
          · rw [r2, if_neg (by omega), if_neg (by omega)]
            exact he.2.2.1
        · have hd1 : d = 0 := by omega
          subst hd1
          rw [if_neg hd0]
          exact ⟨last, tail, trivial⟩
    · show (setR _ 4 _).2 4 = _
      rw [setR_2, if_pos rfl]
      rfl
    · simp only [setR_2, setA_2]
      rw [if_neg (by omega), if_neg (by omega), if_neg (by omega), if_neg (by omega), if_neg (by omega), if_neg (by omega), if_neg (by omega)]
end MODG
