/-! PURE: the reference: grow; its readers. -/
section MODJ
variable {N : Nat} {τ : CS} {bs A B : List Blk} {n k m : Nat}
theorem lpx_gfill {post : Int32 → CS → Prop} {Kx : CS → Prop} {g m : Nat} {x3 x6 : Int32} (hg : g + m ≤ 1023) : ∀ (d lo : Nat) (τ : CS), lo + d = 4 * m → Kx (setR τ 4 (zf (τ.2 4) (4 * g + 3 + lo) (4 * g + 3 + 4 * m))) → ∃ c, lp_X5_grow_90 lnM post Kx x3 (nI m) (nI g) x6 c τ (nI lo)
  | 0, lo, τ, hd, hp => ⟨1, fun _ => by
      rw [zf_nil _ (by omega), setR_same] at hp
      exact hp, fun h => absurd (by rw [iLit 4, pk_mul, nI_leI (by omega) (by omega)]; omega) h⟩
  | d + 1, lo, τ, hd, hp => by
    obtain ⟨c, hc⟩ := lpx_gfill (post := post) (Kx := Kx) (x3 := x3) (x6 := x6) hg d (lo + 1) (setA τ 4 (4 * g + 3 + lo) 0) (by omega) (by
      unfold setA
      rw [setR_setR, setR_2, if_pos rfl]
      have : zf (upd (τ.2 4) (4 * g + 3 + lo) 0) (4 * g + 3 + (lo + 1)) (4 * g + 3 + 4 * m) = zf (τ.2 4) (4 * g + 3 + lo) (4 * g + 3 + 4 * m) := by
        funext j
        unfold zf
        rw [upd_at]
        by_cases h1 : j = 4 * g + 3 + lo
        · rw [if_pos h1, if_neg (by omega), if_pos (by omega)]
        · rw [if_neg h1]
          by_cases h2 : 4 * g + 3 + (lo + 1) ≤ j ∧ j < 4 * g + 3 + 4 * m
          · rw [if_pos h2, if_pos (by omega)]
          · rw [if_neg h2, if_neg (by omega)]
      rw [this]
      exact hp)
    refine ⟨c + 1, fun h => absurd h (by rw [iLit 4, pk_mul, nI_leI (by omega) (by omega)]; omega), fun _ => ?_⟩
    show vp_in _ 4097 ∧ _
    have e : 4 * nI g + 4 - 1 + nI lo = nI (4 * g + 3 + lo) := by rw [iLit 4, iLit 1, pk_mul, nI_add, pk_sub (by omega), nI_add]; exact congrArg nI (by omega)
    rw [e, nI_clamp (by omega), nI_1]
    exact ⟨(vpI (by omega)).mpr (by omega), hc⟩
theorem M_grow {post : Int32 → CS → Prop} {p w : Int32} (hR : RM τ bs) (hS : shp N bs)
    (h0 : noliv bs p → post 0 (setF τ 0 0)) (h1 : ¬ 1 ≤ w → post 0 (setF τ 0 0))
    (h2 : ∀ A n k B, liv bs p A n k B → 1 ≤ w → gw w ≤ n → ∀ τ', stepM τ τ' bs (τ.2 4) → post 1 τ')
    (h3 : ∀ A n k B f B', liv bs p A n k B → 1 ≤ w → n < gw w → B = (f, 0) :: B' → gw w - n ≤ f → ∀ τ', stepM τ τ' (A ++ (gw w, k) :: grw (gw w) n f B') (zf (τ.2 4) (4 + 4 * tot A + (4 * n - 1)) (4 + 4 * tot A + (4 * gw w - 1))) → post 1 τ')
    (h4 : ∀ A n k B, liv bs p A n k B → 1 ≤ w → n < gw w → (∀ f B', B = (f, 0) :: B' → f < gw w - n) → post 0 (setF τ 0 0)) : wp_X5_grow lnM τ p w post := by
  refine m_find (RM_t hS hR 0) hS (fun A n k B h => ⟨fun q => absurd q ?_, fun _ => ⟨fun hw => ?_, h1⟩⟩) (fun h => ⟨fun _ => h0 h, fun q => absurd rfl q⟩)
  · have a := shp_at (by rw [h.1] at hS; exact hS)
    exact fun q => (nI_m1 (by omega)).mp q
  · have a := shp_at (by rw [h.1] at hS; exact hS)
    have hg := gm_gw hw
    have hc := gm_cmp hw (n := n) (by omega)
    obtain ⟨g1, g2, g3⟩ := m_go hR hS (g := tot A) (by omega)
    have he : E1 τ (tot A) n k := by rw [h.1] at hR; exact RM_mid hR
    have ht : (setF τ 0 0).2 1 (tot A) = nI n := he.1
    have hRt := RM_t hS hR 0
    refine m_groupsFor hw ⟨g2, ?_⟩
    rw [g3, ht]
    refine ⟨fun hle => ?_, fun hle => ?_⟩
    · refine h2 A n k B h hw (hc.1.mp ?_) _ ⟨RM_other hS hR rfl rfl rfl rfl, rfl, rfl, rfl, rfl, rfl⟩
      by_cases hq : gm w ≤ n
      · exact hq
      · exfalso
        rw [pk_sub (by omega), iLit 0, nI_leI (by omega) (by decide)] at hle
        omega
    · have hlt : ¬ gm w ≤ n := by
        intro q
        have : nI (gm w) - nI n ≤ 0 := by
          rw [Int32.le_iff_toInt_le, pk_sub_toInt (by omega) (by omega)]
          have c0 : (0 : Int32).toInt = 0 := by decide
          omega
        exact hle this
      have hlt2 : n < gw w := by have := hc.1; omega
      rw [pk_sub (by omega), nI_add]
      have tB : tot A + n + tot B = N := a.2.2.1
      refine m_isFree hRt hS (by omega) (fun A' f B' hb' ht' => ⟨fun q => absurd q (by decide), fun _ => ?_⟩) (fun hno => ⟨fun _ => h4 A n k B h hw hlt2 (fun f B' hB => ?_), fun q => absurd rfl q⟩)
      · -- the free block behind
        have hb2 : bs = (A ++ [(n, k)]) ++ B := app_one h.1
        have t2 : tot (A ++ [(n, k)]) = tot A + n := by rw [tot_app, tot_cons, tot_nil]; show tot A + (n + 0) = _; omega
        have hB : B = (f, 0) :: B' := by
          cases B with
          | nil =>
            exfalso
            have a' := shp_at (by rw [hb'] at hS; exact hS)
            rw [tot_nil] at tB
            omega
          | cons x B =>
            have := sp_tot hS.2.1 hb' hb2 (by rw [ht', t2])
            rw [this.2.1, this.2.2]
        subst hB
        have a' := shp_at (by rw [hb2] at hS; exact hS)
        rw [t2] at a'
        have he' : E1 τ (tot A + n) f 0 := by rw [hb2] at hR; have := RM_mid hR; rw [t2] at this; exact this
        obtain ⟨f1, f2, f3⟩ := m_go hR hS (g := tot A + n) (by omega)
        refine ⟨f2, ?_⟩
        rw [f3]
        have htf : (setF τ 0 0).2 1 (tot A + n) = nI f := he'.1
        rw [htf]
        refine ⟨fun hf => ?_, fun hf => h4 A n k _ h hw hlt2 (fun f' B'' hB' => ?_)⟩
        · rw [nI_leI (by omega) (by omega)] at hf
          have e : gm w = gw w := by rcases hg.2.2 with e | ⟨e1, e2⟩ <;> omega
          rw [e] at hf ⊢
          have hS0 : shp N (A ++ ([(n, k), (f, 0)] ++ B')) := by rw [h.1] at hS; exact hS
          have hR0 : RM τ (A ++ ([(n, k), (f, 0)] ++ B')) := by rw [h.1] at hR; exact hR
          refine lpx_gfill (by omega) (4 * (gw w - n)) 0 _ (by omega) ?_
          rw [Nat.add_zero]
          have hzz : zf (τ.2 4) (4 * (tot A + n) + 3) (4 * (tot A + n) + 3 + 4 * (gw w - n)) = zf (τ.2 4) (4 + 4 * tot A + (4 * n - 1)) (4 + 4 * tot A + (4 * gw w - 1)) := by
            rw [show 4 * (tot A + n) + 3 = 4 + 4 * tot A + (4 * n - 1) by omega, show 4 + 4 * tot A + (4 * n - 1) + 4 * (gw w - n) = 4 + 4 * tot A + (4 * gw w - 1) by omega]
          generalize hτ1 : setR (setF τ 0 0) 4 (zf ((setF τ 0 0).2 4) (4 * (tot A + n) + 3) (4 * (tot A + n) + 3 + 4 * (gw w - n))) = τ1
          have w4 : τ1.2 4 = zf (τ.2 4) (4 + 4 * tot A + (4 * n - 1)) (4 + 4 * tot A + (4 * gw w - 1)) := by rw [← hτ1, setR_2, if_pos rfl, ← hzz]; rfl
          have wr : ∀ j, j ≠ 4 → τ1.2 j = τ.2 j := fun j hj => by rw [← hτ1, setR_2, if_neg hj]; rfl
          have wf : ∀ j, j ≠ 0 → τ1.1 j = τ.1 j := fun j hj => by rw [← hτ1]; show (setF τ 0 0).1 j = _; rw [setF_1, if_neg hj]
          have u1 : τ1.2 1 (tot A) = nI n := by rw [wr 1 (by decide)]; exact he.1
          simp only [upd_at, if_true]
          rw [if_neg (show ¬ tot A = tot A + n by omega), u1, nI_add, show n + (gw w - n) = gw w by omega, pk_sub (by omega)]
          refine ⟨fun q => ?_, fun q => ?_⟩
          · rw [iLit 0, nI_leI (by omega) (by decide)] at q
            refine h3 A n k _ f B' h hw hlt2 rfl (by omega) _ ⟨?_, ?_, rfl, ?_, ?_, ?_⟩
            · have key : A ++ (gw w, k) :: grw (gw w) n f B' = A ++ ([(gw w, k)] ++ B') := by unfold grw; rw [if_neg (by omega)]; rfl
              rw [key]
              refine RM_re (τ := τ) (M := [(n, k), (f, 0)]) hS0 hR0 (by show gw w + 0 = n + (f + 0); omega) (wf 1 (by decide)) (fun g q1 q2 => ?_) (fun g q1 q2 => ?_) ⟨⟨?_, fun j j1 j2 => ?_, ?_, fun hk => ?_⟩, trivial⟩
              · simp only [setF_2, setA_2, Nat.reduceEqDiff, if_true, if_false, upd_at]
                rw [if_neg (by omega), if_neg (by omega), wr 1 (by decide), wr 2 (by decide), wr 3 (by decide)]
                exact ⟨rfl, rfl, rfl⟩
              · have q1 : tot A + (n + (f + 0)) ≤ g := q1
                simp only [setF_2, setA_2, Nat.reduceEqDiff, if_true, if_false, upd_at]
                rw [if_neg (by omega), if_neg (by omega), wr 1 (by decide), wr 2 (by decide), wr 3 (by decide)]
                exact ⟨rfl, rfl, rfl⟩
              · simp only [setF_2, setA_2, Nat.reduceEqDiff, if_true, if_false, upd_at]
              · have j2 : j < gw w := j2
                simp only [setF_2, setA_2, Nat.reduceEqDiff, if_true, if_false, upd_at]
                rw [if_neg (by omega)]
                by_cases hj : j = n
                · rw [if_pos (by omega)]
                · rw [if_neg (by omega), wr 1 (by decide)]
                  by_cases hj2 : j < n
                  · exact he.2.1 j j1 hj2
                  · have := he'.2.1 (j - n) (by omega) (by omega)
                    rw [show tot A + n + (j - n) = tot A + j by omega] at this
                    exact this
              · simp only [setF_2, setA_2, Nat.reduceEqDiff, if_true, if_false, upd_at]
                rw [wr 2 (by decide)]
                exact he.2.2.1
              · simp only [setF_2, setA_2, Nat.reduceEqDiff, if_true, if_false, upd_at]
                rw [wr 3 (by decide)]
                exact he.2.2.2 hk
            · exact w4
            · exact wf 5 (by decide)
            · exact wr 7 (by decide)
            · exact wr 8 (by decide)
          · rw [iLit 0, nI_leI (by omega) (by decide)] at q
            obtain ⟨z1, z2, z3⟩ := m_go hR hS (g := tot A + gw w) (by omega)
            rw [nI_add, z3, if_neg (show ¬ tot A = tot A + gw w by omega), nI_add, z3, b00]
            refine ⟨z2, z2, ?_⟩
            refine h3 A n k _ f B' h hw hlt2 rfl (by omega) _ ⟨?_, ?_, rfl, ?_, ?_, ?_⟩
            · have key : A ++ (gw w, k) :: grw (gw w) n f B' = A ++ ([(gw w, k), (f - (gw w - n), 0)] ++ B') := by unfold grw; rw [if_pos (by omega)]; rfl
              rw [key]
              refine RM_re (τ := τ) (M := [(n, k), (f, 0)]) hS0 hR0 (by show gw w + (f - (gw w - n) + 0) = n + (f + 0); omega) (wf 1 (by decide)) (fun g q1 q2 => ?_) (fun g q1 q2 => ?_) ⟨⟨?_, fun j j1 j2 => ?_, ?_, fun hk => ?_⟩, ⟨?_, fun j j1 j2 => ?_, ?_, fun q => absurd rfl q⟩, trivial⟩
              · simp only [setF_2, setA_2, Nat.reduceEqDiff, if_true, if_false, upd_at]
                rw [if_neg (by omega), if_neg (by omega), if_neg (by omega), if_neg (by omega), wr 1 (by decide), wr 2 (by decide), wr 3 (by decide)]
                exact ⟨rfl, rfl, rfl⟩
              · have q1 : tot A + (n + (f + 0)) ≤ g := q1
                simp only [setF_2, setA_2, Nat.reduceEqDiff, if_true, if_false, upd_at]
                rw [if_neg (by omega), if_neg (by omega), if_neg (by omega), if_neg (by omega), wr 1 (by decide), wr 2 (by decide), wr 3 (by decide)]
                exact ⟨rfl, rfl, rfl⟩
              · simp only [setF_2, setA_2, Nat.reduceEqDiff, if_true, if_false, upd_at]
                rw [if_neg (by omega)]
              · have j2 : j < gw w := j2
                simp only [setF_2, setA_2, Nat.reduceEqDiff, if_true, if_false, upd_at]
                rw [if_neg (by omega), if_neg (by omega)]
                by_cases hj : j = n
                · rw [if_pos (by omega)]
                · rw [if_neg (by omega), wr 1 (by decide)]
                  by_cases hj2 : j < n
                  · exact he.2.1 j j1 hj2
                  · have := he'.2.1 (j - n) (by omega) (by omega)
                    rw [show tot A + n + (j - n) = tot A + j by omega] at this
                    exact this
              · simp only [setF_2, setA_2, Nat.reduceEqDiff, if_true, if_false, upd_at]
                rw [if_neg (by omega), wr 2 (by decide)]
                exact he.2.2.1
              · simp only [setF_2, setA_2, Nat.reduceEqDiff, if_true, if_false, upd_at]
                rw [wr 3 (by decide)]
                exact he.2.2.2 hk
              · simp only [setF_2, setA_2, Nat.reduceEqDiff, if_true, if_false, upd_at]
              · have j2 : j < f - (gw w - n) := j2
                simp only [setF_2, setA_2, Nat.reduceEqDiff, if_true, if_false, upd_at]
                rw [if_neg (by omega), if_neg (by omega), if_neg (by omega), wr 1 (by decide)]
                have := he'.2.1 (gw w - n + j) (by omega) (by omega)
                rw [show tot A + n + (gw w - n + j) = tot A + gw w + j by omega] at this
                exact this
              · simp only [setF_2, setA_2, Nat.reduceEqDiff, if_true, if_false, upd_at]
            · exact w4
            · exact wf 5 (by decide)
            · exact wr 7 (by decide)
            · exact wr 8 (by decide)
        · rw [nI_leI (by omega) (by omega)] at hf
          injection hB' with q1 q2
          injection q1 with q3 q4
          rcases hg.2.2 with e | ⟨e1, e2⟩ <;> omega
      · exfalso
        exact hno (A ++ [(n, k)]) f B' (by rw [h.1, hB]; simp) (by rw [tot_app, tot_cons, tot_nil]; show tot A + (n + 0) = _; omega)
end MODJ
