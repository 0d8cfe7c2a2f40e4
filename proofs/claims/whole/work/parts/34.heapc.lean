/-! PURE: the class's own methods over its row: sizes, fills, free, grow, trim, pin, give. -/
/-- zeros from one word on, before another -/
def zf (f : Nat → Int32) (lo hi : Nat) : Nat → Int32 := fun j => if lo ≤ j ∧ j < hi then 0 else f j
theorem zf_nil (f : Nat → Int32) {lo hi : Nat} (h : hi ≤ lo) : zf f lo hi = f := by
  funext j
  unfold zf
  rw [if_neg (by omega)]
/-- how many groups a block for w words has; beyond 4096 words more than there are -/
def gw (p : Int32) : Nat := (min p.toNatClampNeg 4096) / 4 + 1
theorem setR_same (σ : CS) (k : Nat) : setR σ k (σ.2 k) = σ := by
  unfold setR
  refine Prod.ext rfl ?_
  funext j
  show (if j = k then σ.2 k else σ.2 j) = σ.2 j
  split
  · rename_i h; rw [h]
  · rfl
theorem setR_setR (σ : CS) (k : Nat) (f g : Nat → Int32) : setR (setR σ k f) k g = setR σ k g := by
  unfold setR
  refine Prod.ext rfl ?_
  funext j
  show (if j = k then g else if j = k then f else σ.2 j) = if j = k then g else σ.2 j
  split <;> rfl
section HEAPC
variable {Hd N K : Nat} {σ : CS} {bs A B : List Blk} {n k m : Nat}
theorem lpx_fill {post : CS → Prop} {hi : Nat} (hh : hi ≤ Hd) (hH : Hd ≤ 4096) : ∀ (d lo : Nat) (σ : CS), lo + d = hi → post (setR σ 1 (zf (σ.2 1) lo hi)) → ∃ c, lp_J7_fill_fda19_10 (lnC Hd N K) post (fun σ5 => post σ5) (nI hi) 0 c σ (nI lo)
  | 0, lo, σ, hd, hp => ⟨1, fun _ => by
      rw [zf_nil _ (by omega), setR_same] at hp
      exact hp, fun h => absurd (by rw [nI_leI (by omega) (by omega)]; omega) h⟩
  | d + 1, lo, σ, hd, hp => by
    obtain ⟨c, hc⟩ := lpx_fill (post := post) hh hH d (lo + 1) (setA σ 1 lo 0) (by omega) (by
      unfold setA
      rw [setR_setR, setR_2, if_pos rfl]
      have : zf (upd (σ.2 1) lo 0) (lo + 1) hi = zf (σ.2 1) lo hi := by
        funext j
        unfold zf
        rw [upd_at]
        by_cases h1 : j = lo
        · rw [if_pos h1, if_neg (by omega), if_pos (by omega)]
        · rw [if_neg h1]
          by_cases h2 : lo + 1 ≤ j ∧ j < hi
          · rw [if_pos h2, if_pos (by omega)]
          · rw [if_neg h2, if_neg (by omega)]
      rw [this]
      exact hp)
    refine ⟨c + 1, fun h => absurd h (by rw [nI_leI (by omega) (by omega)]; omega), fun _ => ⟨(vpI (by omega)).mpr (by show lo < Hd; omega), ?_⟩⟩
    rw [nI_clamp (by omega), nI_1]
    exact hc
theorem s_clear {post : CS → Prop} {a lo hi : Nat} (hl : lo ≤ hi) (hh : a + hi ≤ Hd) (hH : Hd ≤ 4096) (hp : post (setR σ 1 (zf (σ.2 1) (a + lo) (a + hi)))) : wp_X4_clearPayload (lnC Hd N K) σ (nI a) (nI lo) (nI hi) post := by
  unfold wp_X4_clearPayload wp_J7_fill_fda19
  rw [nI_add, nI_add]
  refine ⟨fun _ => ⟨fun _ => ⟨fun _ => lpx_fill (N := N) (K := K) hh hH (hi - lo) (a + lo) σ (by omega) hp, fun h => absurd ?_ h⟩, fun h => absurd (nI_pos' (by omega)) h⟩, fun h => absurd ?_ h⟩
  · rw [nI_leI (by omega) (by show Hd < _; omega)]; exact hh
  · rw [nI_leI (by omega) (by omega)]; omega
theorem s_sizeFor {post : Int32 → CS → Prop} {p : Int32} (h1 : 1 ≤ p) (hp : post (nI (4 * gw p)) σ) : wp_X4_sizeFor (lnC Hd N K) σ p post := by
  obtain ⟨w, hw, rfl⟩ := nI_of (x := p) (fun h => by
    have a := Int32.lt_iff_toInt_lt.mp h
    have b := Int32.le_iff_toInt_le.mp h1
    have c : (0 : Int32).toInt = 0 := by decide
    have d : (1 : Int32).toInt = 1 := by decide
    omega)
  show post ((((if 4096 < nI w then 4096 else nI w) / 4) + 1) * 4) σ
  have e : (if 4096 < nI w then (4096 : Int32) else nI w) = nI (min w 4096) := by
    rw [iLit 4096]
    by_cases h : 4096 < w
    · rw [if_pos ((nI_ltI (by decide) hw).mpr h), Nat.min_eq_right (by omega)]
    · rw [if_neg (fun q => h ((nI_ltI (by decide) hw).mp q)), Nat.min_eq_left (by omega)]
  rw [e, iLit 4, iLit 1, pk_div (by omega) (by decide) (by decide), nI_add, pk_mul]
  unfold gw at hp
  rw [nI_clamp hw] at hp
  rw [Nat.mul_comm]
  exact hp
theorem gw_le (p : Int32) : 1 ≤ gw p ∧ gw p ≤ 1025 := by unfold gw; omega
theorem s_drop {post : CS → Prop} (hp : post (setF (setF σ 1 0) 4 0)) : wp_X0_drop (lnC Hd N K) σ post := hp
/-- a step of the class: the blocks, the words; the advice is gone, what was applied stands -/
def stepC (σ σ' : CS) (bs' : List Blk) (f : Nat → Int32) : Prop := RC σ' bs' ∧ σ'.2 1 = f ∧ σ'.1 1 = 0 ∧ σ'.1 4 = 0 ∧ σ'.1 6 = σ.1 6 ∧ σ'.2 19 = σ.2 19 ∧ σ'.2 20 = σ.2 20
theorem RC_other {σ' : CS} (h : RC σ bs) (h0 : σ'.1 0 = σ.1 0) (h3 : σ'.2 3 = σ.2 3) (h4 : σ'.2 4 = σ.2 4) (h5 : σ'.2 5 = σ.2 5) : RC σ' bs := by
  unfold RC at *
  rw [h0, h3, h4, h5]
  exact h
theorem stepC_drop {σ1 : CS} (hR : RC σ1 bs) (hO : RowOnly σ σ1) : stepC σ (setF (setF σ1 1 0) 4 0) bs (σ.2 1) :=
  ⟨RC_other hR rfl rfl rfl rfl, hO.2 1 (by decide) (by decide) (by decide), rfl, rfl, hO.1 6 (by decide), hO.2 19 (by decide) (by decide) (by decide), hO.2 20 (by decide) (by decide) (by decide)⟩
theorem stepC_fill {σ1 : CS} {lo hi : Nat} (hR : RC σ1 bs) (hO : RowOnly σ σ1) : stepC σ (setF (setF (setR σ1 1 (zf (σ1.2 1) lo hi)) 1 0) 4 0) bs (zf (σ.2 1) lo hi) :=
  ⟨RC_other hR rfl rfl rfl rfl, by show zf (σ1.2 1) lo hi = _; rw [hO.2 1 (by decide) (by decide) (by decide)], rfl, rfl, hO.1 6 (by decide), hO.2 19 (by decide) (by decide) (by decide), hO.2 20 (by decide) (by decide) (by decide)⟩
/-- the live block of an address -/
def liv (bs : List Blk) (p : Int32) (A : List Blk) (n k : Nat) (B : List Blk) : Prop := bs = A ++ (n, k) :: B ∧ p = nI (4 + 4 * tot A) ∧ k ≠ 0
def noliv (bs : List Blk) (p : Int32) : Prop := ∀ A n k B, bs = A ++ (n, k) :: B → p = nI (4 + 4 * tot A) → k = 0
theorem liv_or (bs : List Blk) (p : Int32) : (∃ A n k B, liv bs p A n k B) ∨ noliv bs p := by
  by_cases h : ∃ A n k B, liv bs p A n k B
  · exact Or.inl h
  · refine Or.inr (fun A n k B hb hp => ?_)
    by_cases hk : k = 0
    · exact hk
    · exact absurd ⟨A, n, k, B, hb, hp, hk⟩ h
theorem liv_one {p : Int32} {A' B' : List Blk} {n' k' : Nat} (hS : shp N bs) (h : liv bs p A n k B) (hb : bs = A' ++ (n', k') :: B') (hp : p = nI (4 + 4 * tot A')) : A' = A ∧ n' = n ∧ k' = k ∧ B' = B := by
  have h1 := shp_at (by rw [h.1] at hS; exact hS)
  have h2 := shp_at (by rw [hb] at hS; exact hS)
  have h3 := hp.symm.trans h.2.1
  rw [nI_eq (by omega) (by omega)] at h3
  have h4 := sp_tot hS.2.1 hb h.1 (by omega)
  obtain ⟨h5, h6, h7⟩ := h4
  injection h6 with h8 h9
  exact ⟨h5, h8, h9, h7⟩
theorem s_live {post : Int32 → CS → Prop} {p : Int32} (hR : RC σ bs) (hS : shp N bs) (h : liv bs p A n k B) (hp : post (nI A.length) σ) : wp_X2_liveIndex (lnC Hd N K) σ p post := by
  refine s_liveIndex hR hS (fun a' n' k' b' hb' hp' hk' => ?_) (fun hno => absurd (hno A n k B h.1 h.2.1) h.2.2)
  rw [(liv_one hS h hb' hp').1]
  exact hp
theorem s_nolive {post : Int32 → CS → Prop} {p : Int32} (hR : RC σ bs) (hS : shp N bs) (h : noliv bs p) (hp : post (-1) σ) : wp_X2_liveIndex (lnC Hd N K) σ p post :=
  s_liveIndex hR hS (fun a n k b hb hq hk => absurd (h a n k b hb hq) hk) (fun _ => hp)
theorem C_free {post : Int32 → CS → Prop} {p : Int32} (hR : RC σ bs) (hS : shp N bs) (hj : nadj bs) (hyes : ∀ A n k B, liv bs p A n k B → ∀ σ', stepC σ σ' (norm (A ++ (n, 0) :: B)) (σ.2 1) → post 1 σ') (hno : noliv bs p → post 0 σ) : wp_X4_free (lnC Hd N K) σ p post := by
  rcases liv_or bs p with ⟨A, n, k, B, h⟩ | h
  · refine s_live hR hS h ⟨fun _ => s_release hR hS hj h.1 (fun σ' hR' hO => hyes A n k B h _ (stepC_drop hR' hO)), fun q => absurd q (not_m1 hS h.1)⟩
  · exact s_nolive hR hS h ⟨fun q => absurd rfl q, fun _ => hno h⟩
theorem C_pin {post : Int32 → CS → Prop} {p q : Int32} (hR : RC σ bs) (hS : shp N bs) (hyes : ∀ A n k B, liv bs p A n k B → ∀ σ', stepC σ σ' (A ++ (n, if q = 0 then 1 else 2) :: B) (σ.2 1) → post 1 σ') (hno : noliv bs p → post 0 σ) : wp_X4_pin (lnC Hd N K) σ p q post := by
  rcases liv_or bs p with ⟨A, n, k, B, h⟩ | h
  · have g2 := (c_go hR hS h.1).2.1
    have e0 := r_c hS h.1
    refine s_live hR hS h ⟨fun _ => ⟨fun hq => ⟨g2, ?_⟩, fun hq => ⟨g2, ?_⟩⟩, fun q => absurd q (not_m1 hS h.1)⟩
    · rw [e0]
      refine hyes A n k B h _ (stepC_drop (σ1 := setA σ 5 A.length 1) ?_ (RowOnly_kind _ _))
      rw [if_pos hq]
      exact RC_kind hR h.1 1
    · rw [e0]
      refine hyes A n k B h _ (stepC_drop (σ1 := setA σ 5 A.length 2) ?_ (RowOnly_kind _ _))
      rw [if_neg hq]
      exact RC_kind hR h.1 2
  · exact s_nolive hR hS h ⟨fun q => absurd rfl q, fun _ => hno h⟩
theorem C_sizeOf {post : Int32 → CS → Prop} {p : Int32} (hR : RC σ bs) (hS : shp N bs) (hyes : ∀ A n k B, liv bs p A n k B → post (nI (4 * n - 1)) σ) (hno : noliv bs p → post (-1) σ) : wp_X4_sizeOf (lnC Hd N K) σ p post := by
  rcases liv_or bs p with ⟨A, n, k, B, h⟩ | h
  · have a := shp_at (by rw [h.1] at hS; exact hS)
    refine s_live hR hS h ⟨fun _ => ⟨(c_go hR hS h.1).2.1, ?_⟩, fun q => absurd q (not_m1 hS h.1)⟩
    rw [r4 hR hS h.1, iLit 1, pk_sub (by omega)]
    exact hyes A n k B h
  · exact s_nolive hR hS h ⟨fun q => absurd rfl q, fun _ => hno h⟩
theorem C_payload {post : Int32 → CS → Prop} {postX : String → CS → Prop} {p i : Int32} (hR : RC σ bs) (hS : shp N bs) (hyes : ∀ A n k B, liv bs p A n k B → ∀ j, i = nI j → j < 4 * n - 1 → post (nI (4 + 4 * tot A + j)) σ) (hout : ∀ A n k B, liv bs p A n k B → (∀ j, j < 4 * n - 1 → i ≠ nI j) → postX eIO σ) (hno : noliv bs p → postX eNS σ) : wp_X4_payloadWord (lnC Hd N K) σ p i post postX := by
  rcases liv_or bs p with ⟨A, n, k, B, h⟩ | h
  · have a := shp_at (by rw [h.1] at hS; exact hS)
    have hbad : i < 0 → postX eIO σ := fun hi => hout A n k B h (fun j hj e => by rw [e] at hi; exact nI_pos (by omega) hi)
    refine s_live hR hS h ⟨fun _ => ⟨hbad, fun hi => ⟨(c_go hR hS h.1).2.1, fun hlt => ?_, fun hlt => ?_⟩⟩, fun q => absurd q (not_m1 hS h.1)⟩
    · obtain ⟨j, hj, rfl⟩ := nI_of hi
      rw [r4 hR hS h.1, iLit 1, pk_sub (by omega), nI_ltI (by omega) (by omega)] at hlt
      rw [h.2.1, nI_add]
      exact hyes A n k B h j rfl hlt
    · obtain ⟨j, hj, rfl⟩ := nI_of hi
      rw [r4 hR hS h.1, iLit 1, pk_sub (by omega), nI_ltI (by omega) (by omega)] at hlt
      refine hout A n k B h (fun j' hj' e => ?_)
      rw [nI_eq (by omega) (by omega)] at e
      omega
  · exact s_nolive hR hS h ⟨fun q => absurd rfl q, fun _ => hno h⟩
end HEAPC
