/-! PURE: the reference's count and freeAt. -/
theorem sub_m1 (p : Int32) (c : Nat) : p - nI c + (-1) = p - nI (c + 1) := by
  rw [← nI_1, subm]
  first
  | (rw [Int32.sub_sub]; done)
  | (apply Int32.toBitVec_inj.mp; simp only [Int32.toBitVec_sub, Int32.toBitVec_add]; bv_omega; done)
  | (simp [Int32.sub_eq_add_neg, Int32.neg_add, Int32.add_assoc]; done)
theorem sub_0 (p x : Int32) : p - x = 0 ↔ p = x := by
  first
  | (exact Int32.sub_eq_zero_iff_eq; done)
  | (exact Int32.sub_eq_zero; done)
  | (constructor
     · intro h
       have h2 : p - x + x = 0 + x := by rw [h]
       rw [Int32.sub_add_cancel, Int32.zero_add] at h2
       exact h2
     · intro h; rw [h]; exact Int32.sub_self _)
section MC
variable {N : Nat} {τ : CS} {bs A B : List Blk} {n k m : Nat}
noncomputable def dpo (F : Nat → Nat) (N : Nat) (p : Int32) (g : Nat) : Nat := if 0 < F g then (if p = 4 then anc F 0 N g else 0) else 0
theorem dpo_le (F : Nat → Nat) (N : Nat) (p : Int32) (g : Nat) : dpo F N p g ≤ N := by
  unfold dpo
  have := anc_le F 0 N g
  split
  · split
    · exact this
    · omega
  · omega
theorem M_count {post : Int32 → CS → Prop} {p : Int32} (hR : RM τ bs) (hS : shp N bs)
    (h0 : p = 0 → post (nI (nf bs)) (setF τ 0 0)) (h1 : p = 1 → post (nI (4 * gf bs)) (setF τ 0 0)) (h2 : p = 2 → post (nI (bs.length - nf bs)) (setF τ 0 0))
    (h3 : p = 3 → (τ.1 2 = 0 → post 0 (setF τ 0 0)) ∧ (¬ τ.1 2 = 0 → post (τ.1 4) (setF τ 0 0))) (h4 : p = 4 → post (nI (MD (fz bs) 0 N)) (setF τ 0 0))
    (h5 : (¬ p = 0 ∧ ¬ p = 1 ∧ ¬ p = 2 ∧ ¬ p = 3 ∧ ¬ p = 4) → post (-1) (setF τ 0 0)) : wp_X5_count lnM τ p post := by
  have hN := hS.2.2
  have hR' := RM_t hS hR 0
  unfold wp_X5_count
  generalize hKx : (fun σ15 x2_16 x3_17 x4_18 x5_19 => ((p = 0 → post x2_16 σ15) ∧ ((p = 1 → post x3_17 σ15) ∧ ((p = 2 → post x4_18 σ15) ∧ ((p = 3 → (((σ15.1 2) = 0 → post 0 σ15) ∧ (¬ (σ15.1 2) = 0 → post (σ15.1 4) σ15))) ∧ ((p = 4 → post x5_19 σ15) ∧ ((¬ p = 0 ∧ ¬ p = 1 ∧ ¬ p = 2 ∧ ¬ p = 3 ∧ ¬ p = 4) → post (-1) σ15))))))) = Kx
  have hfin : Kx (setF τ 0 0) (nI (nf bs)) (nI (4 * gf bs)) (nI (bs.length - nf bs)) (nI (rx (dpo (fz bs) N p) 0 N)) := by
    rw [← hKx]
    refine ⟨h0, h1, h2, h3, fun e => ?_, h5⟩
    have h := h4 e
    unfold MD at h
    rw [rx_cong (g := fun g => if 0 < fz bs g then anc (fz bs) 0 N g else 0) N (fun j _ _ => by unfold dpo; rw [if_pos e])]
    exact h
  clear hKx h0 h1 h2 h3 h4 h5
  generalize hτ : setF τ 0 0 = τ0 at *
  refine grp_scan (bs := bs) (fun g A => ∃ c, lp_X5_count_18 lnM post Kx p c τ0 (nI (nf A)) (nI (4 * gf A)) (nI (A.length - nf A)) (nI (rx (dpo (fz bs) N p) 0 g)) (nI g)) hS.2.1 ?_ ?_ ?_
  · rw [hS.1]
    exact ⟨1, fun _ => hfin, fun q => absurd (m_end hR' hS (Nat.le_refl _) (by omega)) q⟩
  · intro A n k B g hb q1 q2 ⟨c, hc⟩
    have a := shp_at (by rw [hb] at hS; exact hS)
    obtain ⟨g1, g2, g3⟩ := m_go hR' hS (g := g) (by omega)
    have hz : fz bs g = 0 := fz_blk hb q1 q2
    have hsz : τ0.2 1 g = 0 := by
      have he : E1 τ0 (tot A) n k := by rw [hb] at hR'; exact RM_mid hR'
      have := he.2.1 (g - tot A) (by omega) (by omega)
      rw [show tot A + (g - tot A) = g by omega] at this
      exact this
    rw [rx, Nat.zero_add, show dpo (fz bs) N p g = 0 by unfold dpo; rw [if_neg (by omega)], Nat.max_eq_left (Nat.zero_le _)] at hc
    refine ⟨c + 1, fun q => absurd q g1, fun _ => m_fz hR' hS (by omega) (fun q => absurd q (by omega)) (fun _ => ⟨fun _ => ⟨g2, fun _ => ?_, fun q => absurd ?_ q⟩, fun q => absurd rfl q⟩)⟩
    · show lp_X5_count_18 lnM post Kx p c τ0 _ _ _ _ _
      rw [iLit 0, nI_add, Nat.add_zero, nI_1]
      exact hc
    · rw [g3, hsz]; decide
  · intro A n k B hb ⟨c, hc⟩
    have a := shp_at (by rw [hb] at hS; exact hS)
    obtain ⟨g1, g2, g3⟩ := m_go hR' hS (g := tot A) (by omega)
    have he : E1 τ0 (tot A) n k := by rw [hb] at hR'; exact RM_mid hR'
    have zbeg := fz_beg hS hb
    have hsz : ¬ τ0.2 1 (nI (tot A)).toNatClampNeg ≤ 0 := by rw [g3, he.1]; exact nI_nle (by omega) (by omega)
    have hnl := nf_le A
    have hlen : A.length - nf A ≤ 1023 := by omega
    rw [nf_app, nf_one, gf_app, gf_one, rx, Nat.zero_add] at hc
    by_cases hk : k = 0
    · subst hk
      have eL : (A ++ [(n, 0)]).length - (nf A + 1) = A.length - nf A := by rw [List.length_append, List.length_cons, List.length_nil]; omega
      rw [if_pos rfl, if_pos rfl, Nat.mul_add, eL] at hc
      rw [if_pos rfl] at zbeg
      have hmx : rx (dpo (fz bs) N p) 0 (tot A) ≤ N := rx_le (fun j => dpo_le _ _ _ j) _
      -- behind the depth
      have key : ∀ v, dpo (fz bs) N p (tot A) = v → jp_X5_count_53 lnM post (lp_X5_count_18 lnM post Kx p c) τ0 p (nI (nf A)) (nI (4 * gf A)) (nI (A.length - nf A)) (nI (rx (dpo (fz bs) N p) 0 (tot A))) (nI (tot A)) (nI v) := by
        intro v hv
        have hvN : v ≤ N := by rw [← hv]; exact dpo_le _ _ _ _
        rw [hv] at hc
        have fin : jp_X5_count_69 lnM post (lp_X5_count_18 lnM post Kx p c) τ0 p (nI (nf A)) (nI (4 * gf A)) (nI (A.length - nf A)) (nI (max (rx (dpo (fz bs) N p) 0 (tot A)) v)) (nI (tot A)) := by
          refine ⟨g2, g2, fun q => absurd q hsz, fun _ => ⟨g2, fun _ => ?_, fun q => absurd ?_ q⟩⟩
          · show lp_X5_count_18 lnM post Kx p c τ0 _ _ _ _ _
            rw [g3, he.1, nI_1, iLit 4, pk_mul, nI_add, iLit 0, nI_add, Nat.add_zero, nI_1]
            exact hc
          · rw [g3, he.2.2.1]; rfl
        refine ⟨fun q => ?_, fun q => ?_⟩
        · rw [nI_leI (by omega) (by omega)] at q
          rw [Nat.max_eq_left q] at fin
          exact fin
        · rw [nI_leI (by omega) (by omega)] at q
          rw [Nat.max_eq_right (by omega)] at fin
          exact fin
      refine ⟨c + 1, fun q => absurd q g1, fun _ => m_fz hR' hS (by omega) (fun _ _ => ⟨fun q => absurd q (by decide), fun _ => ⟨fun e => ?_, fun e => ?_⟩⟩) (fun q => absurd q (by omega))⟩
      · exact key 0 (by unfold dpo; rw [if_pos (by omega), if_neg e])
      · exact m_depth hR' hS (by omega) (key _ (by unfold dpo; rw [if_pos (by omega), if_pos e]))
    · rw [if_neg hk] at zbeg
      rw [if_neg hk, if_neg hk, Nat.add_zero, Nat.add_zero, show dpo (fz bs) N p (tot A) = 0 by unfold dpo; rw [if_neg (by omega)], Nat.max_eq_left (Nat.zero_le _), show (A ++ [(n, k)]).length - nf A = A.length - nf A + 1 by rw [List.length_append, List.length_cons, List.length_nil]; omega] at hc
      refine ⟨c + 1, fun q => absurd q g1, fun _ => m_fz hR' hS (by omega) (fun q => absurd q (by omega)) (fun _ => ⟨fun _ => ⟨g2, fun q => absurd q hsz, fun _ => ⟨g2, fun q => absurd q ?_, fun _ => ?_⟩⟩, fun q => absurd rfl q⟩)⟩
      · rw [g3, he.2.2.1, if_neg hk]; decide
      · show lp_X5_count_18 lnM post Kx p c τ0 _ _ _ _ _
        rw [nI_1, nI_1]
        exact hc
theorem M_freeAt {post : Int32 → CS → Prop} {p : Int32} (hR : RM τ bs) (hS : shp N bs) (hp : post (faI (fa bs 0 0 p)) (setF τ 0 0)) : wp_X5_freeAt lnM τ p post := by
  have hN := hS.2.2
  have hR' := RM_t hS hR 0
  unfold wp_X5_freeAt
  generalize hτ : setF τ 0 0 = τ0 at *
  have key := grp_scan (bs := bs) (fun g A => ∀ B, bs = A ++ B → post (faI (fa B (tot A) (nf A) p)) τ0 → ∃ c, lp_X5_freeAt_9 lnM post (fun σ9 => post (-1) σ9) c τ0 (p - nI (nf A)) (nI g)) hS.2.1 ?_ ?_ ?_
  · have h := key bs rfl hp
    have e : p - nI (nf []) = p := by show p - 0 = p; exact Int32.sub_zero p
    rw [e] at h
    exact h
  · intro B hB hpo
    have hB0 : B = [] := by
      have := congrArg List.length hB
      simp at this
      exact this
    subst hB0
    rw [hS.1]
    exact ⟨1, fun _ => hpo, fun q => absurd (m_end hR' hS (Nat.le_refl _) (by omega)) q⟩
  · intro A n k B g hb q1 q2 hnext B' hB' hpo
    have a := shp_at (by rw [hb] at hS; exact hS)
    obtain ⟨g1, g2, g3⟩ := m_go hR' hS (g := g) (by omega)
    have hz : fz bs g = 0 := fz_blk hb q1 q2
    obtain ⟨c, hc⟩ := hnext B' hB' hpo
    refine ⟨c + 1, fun q => absurd q g1, fun _ => m_fz hR' hS (by omega) (fun q => absurd q (by omega)) (fun _ => ⟨fun _ => by rw [nI_1]; exact hc, fun q => absurd rfl q⟩)⟩
  · intro A n k B hb hnext B' hB' hpo
    have a := shp_at (by rw [hb] at hS; exact hS)
    obtain ⟨g1, g2, g3⟩ := m_go hR' hS (g := tot A) (by omega)
    have zbeg := fz_beg hS hb
    have hBB : B' = (n, k) :: B := List.append_cancel_left (hB'.symm.trans hb)
    subst hBB
    rw [fa] at hpo
    by_cases hk : k = 0
    · subst hk
      rw [if_pos rfl] at zbeg
      rw [if_pos rfl] at hpo
      by_cases hc : nI (nf A) = p
      · rw [if_pos hc] at hpo
        refine ⟨1, fun q => absurd q g1, fun _ => m_fz hR' hS (by omega) (fun _ _ => ⟨fun q => absurd q (by decide), fun _ => ⟨fun q => absurd ((sub_0 _ _).mpr hc.symm) q, fun _ => m_address hpo⟩⟩) (fun q => absurd q (by omega))⟩
      · rw [if_neg hc] at hpo
        obtain ⟨c, hcc⟩ := hnext B (app_one hb) (by rw [nf_app, nf_one, if_pos rfl, tot_app, tot_cons, tot_nil]; exact hpo)
        rw [nf_app, nf_one, if_pos rfl] at hcc
        refine ⟨c + 1, fun q => absurd q g1, fun _ => m_fz hR' hS (by omega) (fun _ _ => ⟨fun q => absurd q (by decide), fun _ => ⟨fun _ => by rw [sub_m1, nI_1]; exact hcc, fun q => absurd ((sub_0 _ _).mp q).symm hc⟩⟩) (fun q => absurd q (by omega))⟩
    · rw [if_neg hk] at zbeg
      rw [if_neg hk] at hpo
      obtain ⟨c, hcc⟩ := hnext B (app_one hb) (by rw [nf_app, nf_one, if_neg hk, tot_app, tot_cons, tot_nil]; exact hpo)
      rw [nf_app, nf_one, if_neg hk, Nat.add_zero] at hcc
      refine ⟨c + 1, fun q => absurd q g1, fun _ => m_fz hR' hS (by omega) (fun q => absurd q (by omega)) (fun _ => ⟨fun _ => by rw [nI_1]; exact hcc, fun q => absurd rfl q⟩)⟩
end MC
