/-! PURE: the reference: free, pin, sizeOf, get, set, trim, grow. -/
def sameM (τ τ' : CS) : Prop := (∀ k, k ≠ 0 → τ'.1 k = τ.1 k) ∧ τ'.2 = τ.2
theorem sameM_t (τ : CS) (v : Int32) : sameM τ (setF τ 0 v) := ⟨fun k hk => by rw [setF_1, if_neg hk], rfl⟩
section MODI
variable {N : Nat} {τ : CS} {bs A B : List Blk} {n k m : Nat}
theorem RM_t (hS : shp N bs) (hR : RM τ bs) (v : Int32) : RM (setF τ 0 v) bs := RM_other hS hR rfl rfl rfl rfl
theorem RM_one {τ' : CS} {k' : Nat} (hS : shp N (A ++ (n, k) :: B)) (hR : RM τ (A ++ (n, k) :: B)) (h1 : τ'.1 1 = τ.1 1) (r1 : τ'.2 1 = τ.2 1) (r2 : ∀ g, g ≠ tot A → τ'.2 2 g = τ.2 2 g) (r3 : ∀ g, g ≠ tot A → τ'.2 3 g = τ.2 3 g) (e2 : τ'.2 2 (tot A) = if k' = 0 then 0 else 1) (e3 : k' ≠ 0 → τ'.2 3 (tot A) = if k' = 2 then 1 else 0) : RM τ' (A ++ (n, k') :: B) := by
  have a := shp_at hS
  have he := RM_mid hR
  refine RM_re (M := [(n, k)]) (M' := [(n, k')]) hS hR rfl h1 (fun g q1 q2 => ⟨by rw [r1], r2 g (by omega), r3 g (by omega)⟩) (fun g q1 q2 => ?_) ⟨⟨by rw [r1]; exact he.1, fun j j1 j2 => by rw [r1]; exact he.2.1 j j1 j2, e2, e3⟩, trivial⟩
  have q1 : tot A + (n + 0) ≤ g := q1
  exact ⟨by rw [r1], r2 g (by omega), r3 g (by omega)⟩
theorem M_free {post : Int32 → CS → Prop} {p : Int32} (hR : RM τ bs) (hS : shp N bs) (hyes : ∀ A n k B, liv bs p A n k B → ∀ τ', stepM τ τ' (norm (A ++ (n, 0) :: B)) (τ.2 4) → post 1 τ') (hno : noliv bs p → post 0 (setF τ 0 0)) : wp_X5_free lnM τ p post := by
  refine m_find (RM_t hS hR 0) hS (fun A n k B h => ⟨fun _ => ?_, fun q => absurd q ?_⟩) (fun h => ⟨fun q => absurd rfl q, fun _ => hno h⟩)
  · have a := shp_at (by rw [h.1] at hS; exact hS)
    obtain ⟨g1, g2, g3⟩ := m_go hR hS (g := tot A) (by omega)
    refine ⟨g2, ?_⟩
    rw [g3, b00]
    have hS' : shp N (A ++ (n, 0) :: B) := shp_kind (by rw [← h.1]; exact hS) (Nat.zero_le _)
    have hR' : RM (setF (setA (setF τ 0 0) 2 (tot A) 0) 2 0) (A ++ (n, 0) :: B) := by
      refine RM_one (τ := τ) (k := k) (by rw [← h.1]; exact hS) (by rw [← h.1]; exact hR) rfl rfl (fun g q => ?_) (fun g q => rfl) ?_ (fun q => absurd rfl q)
      · simp only [setF_2, setA_2, if_true, upd_at, if_neg q]
      · simp only [setF_2, setA_2, if_true, upd_at]
    refine m_joins hR' hS' (fun τ' q1 q2 => hyes A n k B h τ' ⟨q1, ?_, ?_, ?_, ?_, ?_⟩)
    · rw [q2.2 4 (by decide) (by decide) (by decide)]; rfl
    · rw [q2.1]; rfl
    · rw [q2.1]; rfl
    · rw [q2.2 7 (by decide) (by decide) (by decide)]; rfl
    · rw [q2.2 8 (by decide) (by decide) (by decide)]; rfl
  · have a := shp_at (by rw [h.1] at hS; exact hS)
    exact fun q => (nI_m1 (by omega)).mp q
theorem M_pin {post : Int32 → CS → Prop} {p q : Int32} (hq : q = 0 ∨ q = 1) (hR : RM τ bs) (hS : shp N bs) (hyes : ∀ A n k B, liv bs p A n k B → ∀ τ', stepM τ τ' (A ++ (n, if q = 0 then 1 else 2) :: B) (τ.2 4) → post 1 τ') (hno : noliv bs p → post 0 (setF τ 0 0)) : wp_X5_pin lnM τ p q post := by
  refine m_find (RM_t hS hR 0) hS (fun A n k B h => ⟨fun _ => ?_, fun q => absurd q ?_⟩) (fun h => ⟨fun q => absurd rfl q, fun _ => hno h⟩)
  · have a := shp_at (by rw [h.1] at hS; exact hS)
    obtain ⟨g1, g2, g3⟩ := m_go hR hS (g := tot A) (by omega)
    refine ⟨g2, ?_⟩
    rw [g3]
    have he : E1 τ (tot A) n k := by rw [h.1] at hR; exact RM_mid hR
    have e2 := he.2.2.1
    rw [if_neg h.2.2] at e2
    refine hyes A n k B h _ ⟨?_, rfl, rfl, rfl, rfl, rfl⟩
    rcases hq with rfl | rfl
    · refine RM_one (τ := τ) (k := k) (by rw [← h.1]; exact hS) (by rw [← h.1]; exact hR) rfl rfl (fun g _ => rfl) (fun g q => ?_) ?_ (fun _ => ?_)
      · simp only [setF_2, setA_2, if_true, upd_at, if_neg q]
      · simp only [setF_2, setA_2, Nat.reduceEqDiff, if_false]; exact e2
      · simp only [setF_2, setA_2, if_true, upd_at]; decide
    · refine RM_one (τ := τ) (k := k) (by rw [← h.1]; exact hS) (by rw [← h.1]; exact hR) rfl rfl (fun g _ => rfl) (fun g q => ?_) ?_ (fun _ => ?_)
      · simp only [setF_2, setA_2, if_true, upd_at, if_neg q]
      · simp only [setF_2, setA_2, Nat.reduceEqDiff, if_false]; exact e2
      · simp only [setF_2, setA_2, if_true, upd_at]; decide
  · have a := shp_at (by rw [h.1] at hS; exact hS)
    exact fun q => (nI_m1 (by omega)).mp q
theorem M_sizeOf {post : Int32 → CS → Prop} {p : Int32} (hR : RM τ bs) (hS : shp N bs) (hyes : ∀ A n k B, liv bs p A n k B → post (nI (4 * n - 1)) (setF τ 0 0)) (hno : noliv bs p → post (-1) (setF τ 0 0)) : wp_X5_sizeOf lnM τ p post := by
  refine m_find (RM_t hS hR 0) hS (fun A n k B h => ⟨fun _ => ?_, fun q => absurd q ?_⟩) (fun h => ⟨fun q => absurd rfl q, fun _ => hno h⟩)
  · have a := shp_at (by rw [h.1] at hS; exact hS)
    obtain ⟨g1, g2, g3⟩ := m_go hR hS (g := tot A) (by omega)
    have he : E1 τ (tot A) n k := by rw [h.1] at hR; exact RM_mid hR
    refine ⟨g2, ?_⟩
    rw [g3]
    show post (4 * τ.2 1 (tot A) - 1) _
    rw [he.1, iLit 4, iLit 1, pk_mul, pk_sub (by omega)]
    exact hyes A n k B h
  · have a := shp_at (by rw [h.1] at hS; exact hS)
    exact fun q => (nI_m1 (by omega)).mp q
theorem M_get {post : Int32 → CS → Prop} {p i : Int32} (hR : RM τ bs) (hS : shp N bs) (hyes : ∀ A n k B, liv bs p A n k B → ∀ j, i = nI j → j < 4 * n - 1 → post (τ.2 4 (4 + 4 * tot A + j)) (setF τ 0 0)) (hout : ∀ A n k B, liv bs p A n k B → (∀ j, j < 4 * n - 1 → i ≠ nI j) → post 0 (setF τ 0 2)) (hno : noliv bs p → post 0 (setF τ 0 1)) : wp_X5_get lnM τ p i post := by
  have bad : ∀ v : Int32, v ≠ 0 → post 0 (setF τ 0 v) → jp_X5_get_42 lnM post (setF τ 0 v) p i := fun v hv hp => ⟨fun _ => hp, fun q => absurd q hv⟩
  refine m_find hR hS (fun A n k B h => ⟨fun _ => ⟨fun hi => ?_, fun hi => ?_⟩, fun q => absurd q ?_⟩) (fun h => ⟨fun q => absurd rfl q, fun _ => bad 1 (by decide) (hno h)⟩)
  · have a := shp_at (by rw [h.1] at hS; exact hS)
    exact bad 2 (by decide) (hout A n k B h (fun j hj e => by rw [e] at hi; exact nI_pos (by omega) hi))
  · have a := shp_at (by rw [h.1] at hS; exact hS)
    obtain ⟨g1, g2, g3⟩ := m_go hR hS (g := tot A) (by omega)
    have he : E1 τ (tot A) n k := by rw [h.1] at hR; exact RM_mid hR
    obtain ⟨j, hj, rfl⟩ := nI_of hi
    refine ⟨g2, ?_⟩
    rw [g3, he.1, iLit 4, iLit 1, pk_mul, pk_sub (by omega), nI_nltI (by omega) (by omega)]
    refine ⟨fun hlt => ⟨fun q => absurd rfl q, fun _ => ?_⟩, fun hlt => bad 2 (by decide) (hout A n k B h (fun j' hj' e => ?_))⟩
    · rw [h.2.1, nI_add, nI_clamp (by omega)]
      exact ⟨(vpI (by omega)).mpr (by show _ < 4097; omega), hyes A n k B h j rfl hlt⟩
    · rw [nI_eq (by omega) (by omega)] at e
      omega
  · have a := shp_at (by rw [h.1] at hS; exact hS)
    exact fun q => (nI_m1 (by omega)).mp q
theorem M_set {post : Int32 → CS → Prop} {p i v : Int32} (hR : RM τ bs) (hS : shp N bs) (hyes : ∀ A n k B, liv bs p A n k B → ∀ j, i = nI j → j < 4 * n - 1 → post (τ.2 4 (4 + 4 * tot A + j)) (setA (setF τ 0 0) 4 (4 + 4 * tot A + j) v)) (hout : ∀ A n k B, liv bs p A n k B → (∀ j, j < 4 * n - 1 → i ≠ nI j) → post 0 (setF τ 0 2)) (hno : noliv bs p → post 0 (setF τ 0 1)) : wp_X5_set lnM τ p i v post := by
  refine M_get hR hS (fun A n k B h j e hj => ⟨fun q => absurd rfl q, fun _ => ?_⟩) (fun A n k B h q => ⟨fun _ => hout A n k B h q, fun q => absurd q (show ¬ (2 : Int32) = 0 by decide)⟩) (fun h => ⟨fun _ => hno h, fun q => absurd q (show ¬ (1 : Int32) = 0 by decide)⟩)
  have a := shp_at (by rw [h.1] at hS; exact hS)
  rw [h.2.1, e, nI_add, nI_clamp (by omega)]
  exact ⟨(vpI (by omega)).mpr (by show _ < 4097; omega), hyes A n k B h j e hj⟩
theorem ge1_not {w : Int32} : (w < 1) ↔ ¬ 1 ≤ w := by
  rw [Int32.lt_iff_toInt_lt, Int32.le_iff_toInt_le]
  omega
theorem gm_cmp {w : Int32} (h : 1 ≤ w) {n : Nat} (hn : n ≤ 1023) : (gm w ≤ n ↔ gw w ≤ n) ∧ (gw w ≤ n → gm w = gw w) := by
  rcases (gm_gw h).2.2 with e | ⟨e1, e2⟩ <;> omega
theorem M_trim {post : Int32 → CS → Prop} {p w : Int32} (hR : RM τ bs) (hS : shp N bs)
    (h0 : noliv bs p → post 0 (setF τ 0 0)) (h1 : ¬ 1 ≤ w → post 0 (setF τ 0 0))
    (h2 : ∀ A n k B, liv bs p A n k B → 1 ≤ w → n < gw w → post 0 (setF τ 0 0))
    (h3 : ∀ A n k B, liv bs p A n k B → 1 ≤ w → gw w = n → ∀ τ', stepM τ τ' bs (τ.2 4) → post 1 τ')
    (h4 : ∀ A n k B, liv bs p A n k B → 1 ≤ w → gw w < n → ∀ τ', stepM τ τ' (norm (A ++ (gw w, k) :: (n - gw w, 0) :: B)) (τ.2 4) → post 1 τ') : wp_X5_trim lnM τ p w post := by
  refine m_find (RM_t hS hR 0) hS (fun A n k B h => ⟨fun q => absurd q ?_, fun _ => ⟨fun hw => h1 (ge1_not.mp hw), fun hw => ?_⟩⟩) (fun h => ⟨fun _ => h0 h, fun q => absurd rfl q⟩)
  · have a := shp_at (by rw [h.1] at hS; exact hS)
    exact fun q => (nI_m1 (by omega)).mp q
  · have hw : 1 ≤ w := by rw [ge1_not] at hw; exact Classical.not_not.mp hw
    have a := shp_at (by rw [h.1] at hS; exact hS)
    have hg := gm_gw hw
    have hc := gm_cmp hw (n := n) (by omega)
    obtain ⟨g1, g2, g3⟩ := m_go hR hS (g := tot A) (by omega)
    have he : E1 τ (tot A) n k := by rw [h.1] at hR; exact RM_mid hR
    have ht : (setF τ 0 0).2 1 (tot A) = nI n := he.1
    refine m_groupsFor hw ⟨g2, ?_⟩
    rw [g3, ht]
    refine ⟨fun hle => m_groupsFor hw ?_, fun hgt => ?_⟩
    · rw [nI_leI (by omega) (by omega)] at hle
      have e := hc.2 (hc.1.mp hle)
      rw [e, pk_sub (by omega)]
      refine ⟨fun q => ?_, fun q => ?_⟩
      · rw [iLit 0, nI_leI (by omega) (by decide)] at q
        exact h3 A n k B h hw (by omega) _ ⟨RM_other hS hR rfl rfl rfl rfl, rfl, rfl, rfl, rfl, rfl⟩
      · rw [iLit 0, nI_leI (by omega) (by decide)] at q
        have hlt : gw w < n := by omega
        have e1 : nI n - nI (n - gw w) = nI (gw w) := by rw [pk_sub (by omega)]; congr 1; omega
        rw [ht, e1]
        simp only [upd_at, if_true]
        rw [nI_add, if_neg (show ¬ tot A = (nI (tot A + gw w)).toNatClampNeg by rw [nI_clamp (by omega)]; omega), nI_add, nI_clamp (by omega), b00]
        obtain ⟨f1, f2, f3⟩ := m_go hR hS (g := tot A + gw w) (by omega)
        refine ⟨f2, f2, ?_⟩
        have hS0 : shp N (A ++ ([(n, k)] ++ B)) := by rw [h.1] at hS; exact hS
        have hR0 : RM τ (A ++ ([(n, k)] ++ B)) := by rw [h.1] at hR; exact hR
        have hS' : shp N (A ++ (gw w, k) :: (n - gw w, 0) :: B) := shp_re (M := [(n, k)]) (M' := [(gw w, k), (n - gw w, 0)]) hS0 (by show gw w + (n - gw w + 0) = n + 0; omega) (okB_two (by omega) a.2.1 (by omega) (Nat.zero_le _))
        have hR' : RM (setA (setA (setA (setF τ 0 0) 1 (tot A) (nI (gw w))) 1 (tot A + gw w) (nI (n - gw w))) 2 (tot A + gw w) 0) (A ++ (gw w, k) :: (n - gw w, 0) :: B) := by
          refine RM_re (τ := τ) (M := [(n, k)]) (M' := [(gw w, k), (n - gw w, 0)]) hS0 hR0 (by show gw w + (n - gw w + 0) = n + 0; omega) rfl (fun g q1 q2 => ?_) (fun g q1 q2 => ?_) ⟨⟨?_, fun j j1 j2 => ?_, ?_, fun hk => ?_⟩, ⟨?_, fun j j1 j2 => ?_, ?_, fun q => absurd rfl q⟩, trivial⟩
          · simp only [setF_2, setA_2, Nat.reduceEqDiff, if_true, if_false, upd_at]
            rw [if_neg (by omega), if_neg (by omega), if_neg (by omega)]
            exact ⟨rfl, rfl, trivial⟩
          · have q1 : tot A + (n + 0) ≤ g := q1
            simp only [setF_2, setA_2, Nat.reduceEqDiff, if_true, if_false, upd_at]
            rw [if_neg (by omega), if_neg (by omega), if_neg (by omega)]
            exact ⟨rfl, rfl, trivial⟩
          · simp only [setF_2, setA_2, Nat.reduceEqDiff, if_true, if_false, upd_at]
            rw [if_neg (by omega)]
          · have j2 : j < gw w := j2
            simp only [setF_2, setA_2, Nat.reduceEqDiff, if_true, if_false, upd_at]
            rw [if_neg (by omega), if_neg (by omega)]
            exact he.2.1 j j1 (by omega)
          · simp only [setF_2, setA_2, Nat.reduceEqDiff, if_true, if_false, upd_at]
            rw [if_neg (by omega)]
            exact he.2.2.1
          · simp only [setF_2, setA_2, Nat.reduceEqDiff, if_true, if_false, upd_at]
            exact he.2.2.2 hk
          · simp only [setF_2, setA_2, Nat.reduceEqDiff, if_true, if_false, upd_at]
          · have j2 : j < n - gw w := j2
            simp only [setF_2, setA_2, Nat.reduceEqDiff, if_true, if_false, upd_at]
            rw [if_neg (by omega), if_neg (by omega)]
            have := he.2.1 (gw w + j) (by omega) (by omega)
            rw [← Nat.add_assoc] at this
            exact this
          · simp only [setF_2, setA_2, Nat.reduceEqDiff, if_true, if_false, upd_at]
        refine m_joins hR' hS' (fun τ' q1 q2 => h4 A n k B h hw hlt _ ⟨RM_other (shp_norm hS') q1 rfl rfl rfl rfl, ?_, rfl, ?_, ?_, ?_⟩)
        · show τ'.2 4 = _; rw [q2.2 4 (by decide) (by decide) (by decide)]; rfl
        · show τ'.1 5 = _; rw [q2.1]; rfl
        · show τ'.2 7 = _; rw [q2.2 7 (by decide) (by decide) (by decide)]; rfl
        · show τ'.2 8 = _; rw [q2.2 8 (by decide) (by decide) (by decide)]; rfl
    · rw [nI_leI (by omega) (by omega)] at hgt
      exact h2 A n k B h hw (by have := hc.1; omega)
end MODI
