/-! PURE: the reference: gives, giveAligned, free, pin, sizeOf, get, set. -/
def gm (p : Int32) : Nat := p.toNatClampNeg / 4 + 1
theorem ge1 {p : Int32} (h : 1 ≤ p) : ∃ v, 1 ≤ v ∧ v < 2 ^ 31 ∧ p = nI v := by
  obtain ⟨v, hv, rfl⟩ := nI_of (x := p) (fun q => by
    have a := Int32.lt_iff_toInt_lt.mp q
    have b := Int32.le_iff_toInt_le.mp h
    have c : (0 : Int32).toInt = 0 := by decide
    have d : (1 : Int32).toInt = 1 := by decide
    omega)
  rw [iLit 1, nI_leI (by decide) hv] at h
  exact ⟨v, h, hv, rfl⟩
theorem gm_gw {p : Int32} (h : 1 ≤ p) : 1 ≤ gm p ∧ gm p < 2 ^ 30 ∧ (gm p = gw p ∨ (1025 ≤ gm p ∧ gw p = 1025)) := by
  obtain ⟨v, h1, h2, rfl⟩ := ge1 h
  unfold gm gw
  rw [nI_clamp h2]
  omega
theorem ff_big {b m : Nat} (hm : 1024 ≤ m) : ∀ (l A : List Blk), (∀ x ∈ l, x.1 ≤ 1023) → ff b m A l = none
  | [], _, _ => rfl
  | x :: l, A, h => by
    have := h x List.mem_cons_self
    rw [ff, if_neg (by omega)]
    exact ff_big hm l _ (fun y hy => h y (List.mem_cons_of_mem _ hy))
theorem blk_le {N : Nat} {bs : List Blk} (hS : shp N bs) : ∀ x ∈ bs, x.1 ≤ 1023 := by
  intro x hx
  obtain ⟨A, B, hb⟩ := List.append_of_mem hx
  obtain ⟨n, k⟩ := x
  have a := shp_at (by rw [hb] at hS; exact hS)
  show n ≤ 1023
  omega
theorem ff_gm {N b : Nat} {bs : List Blk} {p : Int32} (hS : shp N bs) (h : 1 ≤ p) : ff b (gm p) [] bs = ff b (gw p) [] bs := by
  rcases (gm_gw h).2.2 with e | ⟨e1, e2⟩
  · rw [e]
  · rw [ff_big (by omega) bs [] (blk_le hS), ff_big (by omega) bs [] (blk_le hS)]
section MODH
variable {N : Nat} {τ : CS} {bs A B : List Blk} {n k m : Nat}
theorem m_groupsFor {post : Int32 → CS → Prop} {p : Int32} (h : 1 ≤ p) (hp : post (nI (gm p)) τ) : wp_X5_groupsFor lnM τ p post := by
  obtain ⟨v, h1, h2, rfl⟩ := ge1 h
  show post (nI v / 4 + 1) τ
  rw [iLit 4, iLit 1, pk_div h2 (by decide) (by decide), nI_add]
  unfold gm at hp
  rw [nI_clamp h2] at hp
  exact hp
theorem lpx_38 {post : Int32 → CS → Prop} {Kx : CS → Int32 → Prop} {b g : Nat} {x3 x4 : Int32} (hb : okby b) (hg : g ≤ 1023) (hx : Kx τ (nI (g + off g b))) : ∀ (d y : Nat), g ≤ y → y + d = g + off g b → ∃ c, lp_X5_gives_38 lnM post Kx (nI b) x3 x4 c τ (nI y)
  | 0, y, h1, h2 => by
    have hl := okby_le hb
    have ho := off_lt (g := g) hb
    refine ⟨1, ?_, fun _ => ?_, fun q => absurd ?_ q⟩
    · rw [iLit 0, nI_eq (by omega) (by decide)]; omega
    · rw [show y = g + off g b by omega]; exact hx
    · rw [nI_1, pk_rem (by omega) (by omega) (by omega), show y = g + off g b by omega, ho.2.1]; rfl
  | d + 1, y, h1, h2 => by
    have hl := okby_le hb
    have ho := off_lt (g := g) hb
    obtain ⟨c, hc⟩ := lpx_38 (post := post) (x3 := x3) (x4 := x4) hb hg hx d (y + 1) (by omega) (by omega)
    refine ⟨c + 1, ?_, fun q => absurd q ?_, fun _ => by rw [nI_1]; exact hc⟩
    · rw [iLit 0, nI_eq (by omega) (by decide)]; omega
    · rw [nI_1, pk_rem (by omega) (by omega) (by omega), iLit 0, nI_eq (by have := Nat.mod_lt (y + 1) (show 0 < b by omega); omega) (by decide)]
      have := ho.2.2 (y - g) (by omega)
      rw [show g + (y - g) + 1 = y + 1 by omega] at this
      exact this
theorem stepM_of {τ' : CS} {f : Nat → Int32} (hR : RM τ' bs) (hS : shp N bs) (hf : τ'.2 4 = f) (h1 : ∀ j, τ'.1 j = τ.1 j) (h7 : τ'.2 7 = τ.2 7) (h8 : τ'.2 8 = τ.2 8) : stepM τ (setF τ' 2 0) bs f :=
  ⟨RM_other hS hR rfl rfl rfl rfl, hf, rfl, h1 5, h7, h8⟩
theorem shp_gv {d : Nat} (hS : shp N (A ++ (n, 0) :: B)) (hm : 0 < m) (hd : d + m ≤ n) : shp N (A ++ gvn d m n B) := by
  have a := shp_at hS
  have key : A ++ gvn d m n B = A ++ (((if 0 < d then [(d, 0)] else []) ++ ((m, 1) :: (if d + m < n then [(n - d - m, 0)] else []))) ++ B) := by
    unfold gvn
    by_cases h : d + m < n
    · rw [if_pos h, if_pos h]; simp
    · rw [if_neg h, if_neg h]; simp
  rw [key]
  refine shp_re (M := [(n, 0)]) hS ?_ ?_
  · rw [tot_app, tot_cons]
    by_cases h : d + m < n
    · rw [if_pos h]
      by_cases h2 : 0 < d
      · rw [if_pos h2]; show d + 0 + (m + (n - d - m + 0)) = n + 0; omega
      · rw [if_neg h2]; show 0 + (m + (n - d - m + 0)) = n + 0; omega
    · rw [if_neg h]
      by_cases h2 : 0 < d
      · rw [if_pos h2]; show d + 0 + (m + 0) = n + 0; omega
      · rw [if_neg h2]; show 0 + (m + 0) = n + 0; omega
  · refine okB_app.mpr ⟨?_, okB_cons.mpr ⟨⟨hm, show (1 : Nat) ≤ 2 by decide⟩, ?_⟩⟩
    · by_cases h2 : 0 < d
      · rw [if_pos h2]; exact okB_one h2 (Nat.zero_le _)
      · rw [if_neg h2]; exact okB_nil
    · by_cases h : d + m < n
      · rw [if_pos h]; exact okB_one (by omega) (Nat.zero_le _)
      · rw [if_neg h]; exact okB_nil
theorem M_gives {post : Int32 → CS → Prop} {b : Nat} {w : Int32} (hR : RM τ bs) (hS : shp N bs) (hb : okby b) (h0 : ¬ 1 ≤ w → post 0 τ)
    (h1 : 1 ≤ w → (match ff b (gw w) [] bs with | none => post 0 τ | some (A, n, B) => ∀ τ', stepM τ τ' (A ++ gvn (off (tot A) b) (gw w) n B) (zf (τ.2 4) (4 + 4 * (tot A + off (tot A) b)) (4 + 4 * (tot A + off (tot A) b) + (4 * gw w - 1))) → post (nI (4 + 4 * (tot A + off (tot A) b))) τ')) : wp_X5_gives lnM τ w (nI b) post := by
  refine ⟨fun hw => m_groupsFor hw ?_, h0⟩
  have hm := gm_gw hw
  have h1 := h1 hw
  rw [← ff_gm hS hw] at h1
  have hl := okby_le hb
  have hN := hS.2.2
  have key := grp_scan (bs := bs) (fun g A => (∀ B, bs = A ++ B → (match ff b (gm w) A B with | none => post 0 τ | some (A, n, B) => ∀ τ', stepM τ τ' (A ++ gvn (off (tot A) b) (gw w) n B) (zf (τ.2 4) (4 + 4 * (tot A + off (tot A) b)) (4 + 4 * (tot A + off (tot A) b) + (4 * gw w - 1))) → post (nI (4 + 4 * (tot A + off (tot A) b))) τ')) → ∃ c, lp_X5_gives_16 lnM post (fun σ => post 0 σ) (nI b) (nI (gm w)) c τ (nI g)) hS.2.1 ?_ ?_ ?_
  · exact key (fun B hB => by rw [List.nil_append] at hB; rw [← hB]; exact h1)
  · intro h
    have := h [] (by simp)
    rw [hS.1]
    exact ⟨1, fun _ => this, fun q => absurd (m_end hR hS (Nat.le_refl _) (by omega)) q⟩
  · intro A n k B g hbs q1 q2 ih h
    have a := shp_at (by rw [hbs] at hS; exact hS)
    obtain ⟨c, hc⟩ := ih h
    obtain ⟨g1, g2, g3⟩ := m_go hR hS (g := g) (by omega)
    refine ⟨c + 1, fun q => absurd q g1, fun _ => m_isFree hR hS (by omega) (fun A' n' B' hb' ht' => ?_) (fun _ => ⟨fun _ => by rw [nI_1]; exact hc, fun q => absurd rfl q⟩)⟩
    exfalso
    have a' := shp_at (by rw [hb'] at hS; exact hS)
    rw [hbs] at hb'
    rcases sp_cases hb' with ⟨c', h3, h4⟩ | ⟨c', h3, h4⟩
    · have := congrArg tot h3
      rw [tot_app, tot_cons] at this
      have e : (n, k).1 = n := rfl
      omega
    · cases c' with
      | nil => rw [List.append_nil] at h3; rw [h3] at q1; omega
      | cons y c' =>
        have := congrArg tot h3
        rw [tot_app, tot_cons] at this
        injection h4 with h5 h6
        rw [← h5] at this
        have e : (n', 0).1 = n' := rfl
        omega
  · intro A n k B hbs ih h
    have a := shp_at (by rw [hbs] at hS; exact hS)
    have ho := off_lt (g := tot A) hb
    have hh := h ((n, k) :: B) hbs
    obtain ⟨g1, g2, g3⟩ := m_go hR hS (g := tot A) (by omega)
    have he : E1 τ (tot A) n k := by rw [hbs] at hR; exact RM_mid hR
    have rest : ¬ (k = 0 ∧ off (tot A) b + gm w ≤ n) → ∃ c, lp_X5_gives_16 lnM post (fun σ => post 0 σ) (nI b) (nI (gm w)) c τ (nI (tot A + 1)) := by
      intro hc
      refine ih (fun B' hB' => ?_)
      have hB2 : B' = B := by
        rw [hbs] at hB'
        have := List.append_inj (show (A ++ [(n, k)]) ++ B = (A ++ [(n, k)]) ++ B' by rw [← hB']; simp) rfl
        exact this.2.symm
      rw [ff, if_neg hc] at hh
      rw [hB2]
      exact hh
    by_cases hk : k = 0
    · subst hk
      by_cases hc : off (tot A) b + gm w ≤ n
      · rw [ff, if_pos ⟨rfl, hc⟩] at hh
        have hgw : gm w = gw w := by rcases hm.2.2 with e | ⟨e1, e2⟩ <;> omega
        rw [hgw] at hc
        refine ⟨1, fun q => absurd q g1, fun _ => m_isFree hR hS (by omega) (fun _ _ _ _ _ => ⟨fun q => absurd q (by decide), fun _ => lpx_38 hb (by omega) ⟨g2, fun q => absurd q ?_, fun _ => ?_⟩ (off (tot A) b) (tot A) (Nat.le_refl _) rfl⟩) (fun q => absurd rfl (q A n B hbs))⟩
        · rw [g3, he.1, pk_sub (by omega), Nat.add_sub_cancel_left, nI_l (by omega), nI_l (by omega), nI_l (by omega), lN_add, lg_cmp_gt, lN_lt (by omega) (by omega)]
          omega
        · rw [hgw]
          refine m_takes hR hS hbs (by omega) hc (fun τ' hR' hf hs hr => ?_)
          show post (4 * nI (tot A + off (tot A) b) + 4) _
          rw [iLit 4, pk_mul, nI_add, Nat.add_comm]
          exact hh _ (stepM_of hR' (shp_gv (by rw [← hbs]; exact hS) (by omega) hc) hf hs (hr 7 (by decide)) (hr 8 (by decide)))
      · obtain ⟨c, hcc⟩ := rest (fun q => hc q.2)
        refine ⟨c + 1, fun q => absurd q g1, fun _ => m_isFree hR hS (by omega) (fun _ _ _ _ _ => ⟨fun q => absurd q (by decide), fun _ => lpx_38 hb (by omega) ⟨g2, fun _ => by rw [nI_1]; exact hcc, fun q => absurd ?_ q⟩ (off (tot A) b) (tot A) (Nat.le_refl _) rfl⟩) (fun q => absurd rfl (q A n B hbs))⟩
        rw [g3, he.1, pk_sub (by omega), Nat.add_sub_cancel_left, nI_l (by omega), nI_l (by omega), nI_l (by omega), lN_add, lg_cmp_gt, lN_lt (by omega) (by omega)]
        omega
    · obtain ⟨c, hcc⟩ := rest (fun q => hk q.1)
      refine ⟨c + 1, fun q => absurd q g1, fun _ => m_isFree hR hS (by omega) (fun A' n' B' hb' ht' => ?_) (fun _ => ⟨fun _ => by rw [nI_1]; exact hcc, fun q => absurd rfl q⟩)⟩
      exfalso
      have := (sp_tot hS.2.1 hb' hbs ht').2.1
      injection this with h5 h6
      exact hk h6.symm
theorem lpx_ga {post : Int32 → CS → Prop} {p1 p2 : Int32} (hyes : ∀ i, i ≤ 8 → p2 = nI (4 * 2 ^ i) → wp_X5_gives lnM τ p1 (nI (2 ^ i)) (fun r σ => post r σ)) (hno : (∀ i, i ≤ 8 → p2 ≠ nI (4 * 2 ^ i)) → post 0 τ) : ∀ (d j : Nat), j + d = 9 → (∀ i, i < j → p2 ≠ nI (4 * 2 ^ i)) → ∃ c, lp_X5_giveAligned_7 lnM post (fun σ => post 0 σ) p1 p2 c τ (nI (4 * 2 ^ j))
  | 0, j, h1, h2 => ⟨1, fun _ => hno (fun i hi => h2 i (by omega)), fun q => absurd (by rw [show j = 9 by omega]; decide) q⟩
  | d + 1, j, h1, h2 => by
    have hp : 2 ^ j ≤ 256 := by
      have : 2 ^ j ≤ 2 ^ 8 := Nat.pow_le_pow_right (by decide) (by omega)
      omega
    have hlt : ¬ (1024 : Int32) < nI (4 * 2 ^ j) := by
      rw [iLit 1024, nI_ltI (by decide) (by omega)]; omega
    by_cases hq : p2 = nI (4 * 2 ^ j)
    · refine ⟨1, fun q => absurd q hlt, fun _ => ⟨fun q => absurd hq.symm q, fun _ => ?_⟩⟩
      have := hyes j (by omega) hq
      rw [hq, iLit 4, pk_div (by omega) (by decide) (by decide), show 4 * 2 ^ j / 4 = 2 ^ j by omega]
      exact this
    · obtain ⟨c, hc⟩ := lpx_ga hyes hno d (j + 1) (by omega) (fun i hi => by
        by_cases h : i = j
        · rw [h]; exact hq
        · exact h2 i (by omega))
      refine ⟨c + 1, fun q => absurd q hlt, fun _ => ⟨fun _ => ?_, fun q => absurd q.symm hq⟩⟩
      rw [iLit 2, pk_mul, show 2 * (4 * 2 ^ j) = 4 * 2 ^ (j + 1) by rw [Nat.pow_succ]; omega]
      exact hc
theorem okby_pow {i : Nat} (h : i ≤ 8) : okby (2 ^ i) := by
  have : ∀ i, i < 9 → okby (2 ^ i) := by unfold okby; decide
  exact this i (by omega)
theorem pow_okby {b : Nat} (h : okby b) : ∃ i, i ≤ 8 ∧ b = 2 ^ i := by
  rcases h with rfl | rfl | rfl | rfl | rfl | rfl | rfl | rfl | rfl
  · exact ⟨0, by decide, rfl⟩
  · exact ⟨1, by decide, rfl⟩
  · exact ⟨2, by decide, rfl⟩
  · exact ⟨3, by decide, rfl⟩
  · exact ⟨4, by decide, rfl⟩
  · exact ⟨5, by decide, rfl⟩
  · exact ⟨6, by decide, rfl⟩
  · exact ⟨7, by decide, rfl⟩
  · exact ⟨8, by decide, rfl⟩
theorem M_giveAligned {post : Int32 → CS → Prop} {p1 p2 : Int32} (hyes : ∀ b, okby b → p2 = nI (4 * b) → wp_X5_gives lnM (setF τ 0 0) p1 (nI b) (fun r σ => post r σ)) (hno : (∀ b, okby b → p2 ≠ nI (4 * b)) → post 0 (setF τ 0 0)) : wp_X5_giveAligned lnM τ p1 p2 post :=
  lpx_ga (τ := setF τ 0 0) (fun i hi h => hyes _ (okby_pow hi) h) (fun h => hno (fun b hb => by
    obtain ⟨i, hi, rfl⟩ := pow_okby hb
    exact h i hi)) 9 0 rfl (fun i hi => absurd hi (Nat.not_lt_zero _))
theorem pow2_all : (List.range 1025).all (fun v => decide (v < 4 ∨ (v &&& (v - 1)) ≠ 0 ∨ v = 4 ∨ v = 8 ∨ v = 16 ∨ v = 32 ∨ v = 64 ∨ v = 128 ∨ v = 256 ∨ v = 512 ∨ v = 1024)) = true := by decide +kernel
theorem pow2_and (v : Nat) (h1 : v < 1025) (h2 : 4 ≤ v) (h3 : v &&& (v - 1) = 0) : okby (v / 4) ∧ 4 * (v / 4) = v := by
  have h := of_decide_eq_true (List.all_eq_true.mp pow2_all v (List.mem_range.mpr h1))
  unfold okby
  rcases h with h | h | h
  · omega
  · exact absurd h3 h
  · omega
theorem and_pow2 {b : Nat} (h : okby b) : (4 * b) &&& (4 * b - 1) = 0 := by
  rcases h with rfl | rfl | rfl | rfl | rfl | rfl | rfl | rfl | rfl <;> decide
theorem nI_and (a b : Nat) : nI a &&& nI b = nI (a &&& b) := by
  apply Int32.toBitVec_inj.mp
  show (BitVec.ofNat 32 a) &&& (BitVec.ofNat 32 b) = BitVec.ofNat 32 (a &&& b)
  exact (BitVec.ofNat_and).symm
theorem C_giveAligned {Hd K : Nat} {σ : CS} {post : Int32 → CS → Prop} {p1 p2 : Int32} (hyes : ∀ b, okby b → p2 = nI (4 * b) → wp_X4_giveAtMultiple (lnC Hd N K) σ p1 p2 (fun r σ => post r σ)) (hno : (∀ b, okby b → p2 ≠ nI (4 * b)) → post 0 σ) : wp_X4_giveAligned (lnC Hd N K) σ p1 p2 post := by
  by_cases h : ∃ b, okby b ∧ p2 = nI (4 * b)
  · obtain ⟨b, hb, hp⟩ := h
    have hl := okby_le hb
    have h1 : (p2 &&& (p2 - 1)) = 0 := by rw [hp, iLit 1, pk_sub (by omega), nI_and, and_pow2 hb]; rfl
    have h2 : ¬ p2 < 4 := by rw [hp, iLit 4, nI_ltI (by omega) (by decide)]; omega
    have h3 : ¬ 1024 < p2 := by rw [hp, iLit 1024, nI_ltI (by decide) (by omega)]; omega
    exact ⟨fun q => absurd h1 q, fun _ => ⟨fun q => absurd q h2, fun _ => ⟨fun q => absurd q h3, fun _ => hyes b hb hp⟩⟩⟩
  · have h0 := hno (fun b hb hp => h ⟨b, hb, hp⟩)
    refine ⟨fun _ => ⟨fun _ => h0, fun _ => ⟨fun _ => h0, fun _ => h0⟩⟩, fun q => ⟨fun _ => h0, fun q2 => ⟨fun _ => h0, fun q3 => ?_⟩⟩⟩
    exfalso
    obtain ⟨v, hv, rfl⟩ := nI_of (x := p2) (fun q9 => q2 (by
      have a := Int32.lt_iff_toInt_lt.mp q9
      have c : (0 : Int32).toInt = 0 := by decide
      have d : (4 : Int32).toInt = 4 := by decide
      exact Int32.lt_iff_toInt_lt.mpr (by omega)))
    rw [iLit 4, nI_ltI hv (by decide)] at q2
    rw [iLit 1024, nI_ltI (by decide) hv] at q3
    rw [iLit 1, pk_sub (by omega), nI_and, iLit 0, nI_eq (by have := @Nat.and_le_left v (v - 1); omega) (by decide)] at q
    obtain ⟨h5, h6⟩ := pow2_and v (by omega) (by omega) q
    exact h ⟨v / 4, h5, by rw [h6]⟩
end MODH
