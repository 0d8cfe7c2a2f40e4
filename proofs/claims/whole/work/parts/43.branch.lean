/-! PURE: the branches of the tree. -/
section BR
variable {F : Nat → Nat} {N G : Nat}
def LO (F : Nat → Nat) (G lo : Nat) : Prop := lo ≤ G ∧ (∀ h, lo ≤ h → h < G → F h < F G) ∧ (lo = 0 ∨ ∃ l, lo = l + 1 ∧ F G ≤ F l)
def HI (F : Nat → Nat) (N G hi : Nat) : Prop := G < hi ∧ hi ≤ N ∧ (∀ h, G < h → h < hi → F h ≤ F G) ∧ (hi = N ∨ F G < F hi)
def tpR (F : Nat → Nat) (a b : Nat) (r : Int32) : Prop := (∃ g, isTop F a b g ∧ r = nI (4 + 4 * g)) ∨ (noTop F a b ∧ r = 0)
def lft (F : Nat → Nat) (G : Nat) (r : Int32) : Prop := ∃ lo, LO F G lo ∧ tpR F lo G r
def rgt (F : Nat → Nat) (N G : Nat) (r : Int32) : Prop := ∃ hi, HI F N G hi ∧ tpR F (G + 1) hi r
theorem LO_one {a b : Nat} (h1 : LO F G a) (h2 : LO F G b) : a = b := by
  obtain ⟨x1, x2, x3⟩ := h1
  obtain ⟨y1, y2, y3⟩ := h2
  rcases Nat.lt_trichotomy a b with q | q | q
  · rcases y3 with y3 | ⟨l, y3, y4⟩
    · omega
    · have := x2 l (by omega) (by omega)
      omega
  · exact q
  · rcases x3 with x3 | ⟨l, x3, x4⟩
    · omega
    · have := y2 l (by omega) (by omega)
      omega
theorem HI_one {a b : Nat} (h1 : HI F N G a) (h2 : HI F N G b) : a = b := by
  obtain ⟨x1, x2, x3, x4⟩ := h1
  obtain ⟨y1, y2, y3, y4⟩ := h2
  rcases Nat.lt_trichotomy a b with q | q | q
  · rcases x4 with x4 | x4
    · omega
    · have := y3 a x1 q
      omega
  · exact q
  · rcases y4 with y4 | y4
    · omega
    · have := x3 b y1 q
      omega
theorem tpR_one {a b : Nat} {r r' : Int32} (h1 : tpR F a b r) (h2 : tpR F a b r') : r = r' := by
  rcases h1 with ⟨g, t1, e1⟩ | ⟨t1, e1⟩ <;> rcases h2 with ⟨h, t2, e2⟩ | ⟨t2, e2⟩
  · rw [e1, e2, top_one t1 t2]
  · exact absurd t2 (fun q => top_no t1 q)
  · exact absurd t1 (fun q => top_no t2 q)
  · rw [e1, e2]
theorem lft_one {r r' : Int32} (h1 : lft F G r) (h2 : lft F G r') : r = r' := by
  obtain ⟨a, x1, x2⟩ := h1
  obtain ⟨b, y1, y2⟩ := h2
  rw [LO_one x1 y1] at x2
  exact tpR_one x2 y2
theorem rgt_one {r r' : Int32} (h1 : rgt F N G r) (h2 : rgt F N G r') : r = r' := by
  obtain ⟨a, x1, x2⟩ := h1
  obtain ⟨b, y1, y2⟩ := h2
  rw [HI_one x1 y1] at x2
  exact tpR_one x2 y2
theorem top_l {a a' b g : Nat} (h : isTop F a b g) (ha : a' ≤ a) (hz : ∀ j, a' ≤ j → j < a → F j < F g) : isTop F a' b g :=
  ⟨by have := h.1; omega, h.2.1, h.2.2.1, fun j q1 q2 => by
    by_cases q : a ≤ j
    · exact h.2.2.2.1 j q q2
    · exact hz j q1 (by omega), h.2.2.2.2⟩
theorem top_r {a b b' g : Nat} (h : isTop F a b g) (ha : b ≤ b') (hz : ∀ j, b ≤ j → j < b' → F j ≤ F g) : isTop F a b' g :=
  ⟨h.1, by have := h.2.1; omega, h.2.2.1, h.2.2.2.1, fun j q1 q2 => by
    by_cases q : j < b
    · exact h.2.2.2.2 j q1 q
    · exact hz j (by omega) q2⟩
/-- what a scan holds: the top's address and its words -/
def stt (F : Nat → Nat) (a b : Nat) (x y : Int32) : Prop := (x = 0 ∧ y = 0 ∧ noTop F a b) ∨ ∃ g, x = nI (4 + 4 * g) ∧ y = nI (4 * F g) ∧ isTop F a b g
theorem stt_t {a b : Nat} {x y : Int32} (h : stt F a b x y) : tpR F a b x := by
  rcases h with ⟨h1, h2, h3⟩ | ⟨g, h1, h2, h3⟩
  · exact Or.inr ⟨h3, h1⟩
  · exact Or.inl ⟨g, h3, h1⟩
theorem stt_l {a a' b : Nat} {x y : Int32} (h : stt F a b x y) (ha : a' ≤ a) (hz : ∀ j, a' ≤ j → j < a → F j = 0) : stt F a' b x y := by
  rcases h with ⟨h1, h2, h3⟩ | ⟨g, h1, h2, h3⟩
  · refine Or.inl ⟨h1, h2, fun j q1 q2 => ?_⟩
    by_cases q : a ≤ j
    · exact h3 j q q2
    · exact hz j q1 (by omega)
  · exact Or.inr ⟨g, h1, h2, top_l h3 ha (fun j q1 q2 => by rw [hz j q1 q2]; exact h3.2.2.1)⟩
theorem stt_r {a b b' : Nat} {x y : Int32} (h : stt F a b x y) (ha : b ≤ b') (hz : ∀ j, b ≤ j → j < b' → F j = 0) : stt F a b' x y := by
  rcases h with ⟨h1, h2, h3⟩ | ⟨g, h1, h2, h3⟩
  · refine Or.inl ⟨h1, h2, fun j q1 q2 => ?_⟩
    by_cases q : j < b
    · exact h3 j q1 q
    · exact hz j (by omega) q2
  · exact Or.inr ⟨g, h1, h2, top_r h3 ha (fun j q1 q2 => by rw [hz j q1 q2]; omega)⟩
end BR
theorem subm (x : Int32) : x + (-1) = x - 1 := (Int32.sub_eq_add_neg x 1).symm
section BRC
variable {Hd N K : Nat} {σ : CS} {bs A B : List Blk} {n k m : Nat}
theorem fz_blk (hb : bs = A ++ (n, k) :: B) {j : Nat} (h1 : tot A < j) (h2 : j < tot A + n) : fz bs j = 0 := by
  rw [hb, show j = tot A + (j - tot A) by omega, fz_in (by omega) (by omega)]
theorem fz_beg (hS : shp N bs) (hb : bs = A ++ (n, k) :: B) : fz bs (tot A) = if k = 0 then n else 0 := by
  have a := shp_at (by rw [hb] at hS; exact hS)
  rw [hb, fz_at a.1]
theorem lpx_left {post : Int32 → CS → Prop} {Kx : CS → Int32 → Prop} (hR : RC σ bs) (hS : shp N bs) (hb : bs = A ++ (n, 0) :: B) (hp : ∀ r, lft (fz bs) (tot A) r → Kx σ r) :
    ∀ (len : Nat) (A1 A2 : List Blk) (x y : Int32), A1.length = len → A = A1 ++ A2 → stt (fz bs) (tot A1) (tot A) x y → (∀ j, tot A1 ≤ j → j < tot A → fz bs j < n) → ∃ c, lp_X3_topToTheLeft_9 (lnC Hd N K) post Kx (nI A.length) c σ x y (nI A1.length - 1)
  | 0, A1, A2, x, y, hl, hA, hs, hz => by
    have hn := shp_at (by rw [hb] at hS; exact hS)
    have hF : fz bs (tot A) = n := by rw [fz_beg hS hb, if_pos rfl]
    have h0 : A1 = [] := List.eq_nil_of_length_eq_zero hl
    subst h0
    refine ⟨1, fun _ => hp x ⟨0, ⟨Nat.zero_le _, fun h q1 q2 => by rw [hF]; exact hz h (Nat.zero_le _) q2, Or.inl rfl⟩, stt_t hs⟩, fun q => absurd (by decide) q⟩
  | len + 1, A1, A2, x, y, hl, hA, hs, hz => by
    have hn := shp_at (by rw [hb] at hS; exact hS)
    have hF : fz bs (tot A) = n := by rw [fz_beg hS hb, if_pos rfl]
    rcases lst A1 with h0 | ⟨D, z, h0⟩
    · rw [h0] at hl; simp at hl
    · obtain ⟨m, j⟩ := z
      have hD : D.length = len := by rw [h0] at hl; simpa using hl
      have hb' : bs = D ++ (m, j) :: (A2 ++ (n, 0) :: B) := by rw [hb, hA, h0]; simp
      have a := shp_at (by rw [hb'] at hS; exact hS)
      have hidx : nI A1.length - 1 = nI D.length := by rw [h0, List.length_append]; exact nI_pred _
      have hidx2 : nI D.length + (-1) = nI D.length - 1 := subm _
      have ht : tot A1 = tot D + m := by rw [h0, tot_app, tot_cons, tot_nil]; show tot D + (m + 0) = _; omega
      have htA : tot A1 ≤ tot A := by rw [hA, tot_app]; omega
      obtain ⟨g1, g2, g3⟩ := c_go hR hS hb'
      have gA := (c_go hR hS hb).2.1
      have zin : ∀ i, tot D < i → i < tot A1 → fz bs i = 0 := fun i q1 q2 => fz_blk hb' q1 (by omega)
      have zbeg := fz_beg hS hb'
      have hAD : A = D ++ ((m, j) :: A2) := by rw [hA, h0]; simp
      rw [hidx]
      by_cases hj : j = 0
      · subst hj
        rw [if_pos rfl] at zbeg
        have hk0 : σ.2 5 (nI D.length).toNatClampNeg = 0 := (r5 hR hS hb').trans rfl
        by_cases hmn : m < n
        · have hall : ∀ i, tot D ≤ i → i < tot A → fz bs i < n := by
            intro i q1 q2
            by_cases q3 : tot A1 ≤ i
            · exact hz i q3 q2
            · by_cases q4 : i = tot D
              · rw [q4, zbeg]; exact hmn
              · rw [zin i (by omega) (by omega)]; omega
          have keep : nI (4 * m) < y → stt (fz bs) (tot D) (tot A) x y := by
            intro hy
            rcases hs with ⟨h1, h2, h3⟩ | ⟨g, h1, h2, h3⟩
            · rw [h2, iLit 0, nI_ltI (by omega) (by decide)] at hy; omega
            · have := fz_N hS g
              rw [h2, nI_ltI (by omega) (by omega)] at hy
              refine Or.inr ⟨g, h1, h2, top_l h3 (by omega) (fun i q1 q2 => ?_)⟩
              by_cases q4 : i = tot D
              · rw [q4, zbeg]; omega
              · rw [zin i (by omega) q2]; exact h3.2.2.1
          have take : ¬ nI (4 * m) < y → stt (fz bs) (tot D) (tot A) (nI (4 + 4 * tot D)) (nI (4 * m)) := by
            intro hy
            refine Or.inr ⟨tot D, rfl, by rw [zbeg], Nat.le_refl _, by omega, by rw [zbeg]; omega, fun i q1 q2 => by omega, fun i q1 q2 => ?_⟩
            rw [zbeg]
            by_cases q3 : tot A1 ≤ i
            · rcases hs with ⟨h1, h2, h3⟩ | ⟨g, h1, h2, h3⟩
              · rw [h3 i q3 q2]; omega
              · have := fz_N hS g
                rw [h2, nI_ltI (by omega) (by omega)] at hy
                have := top_le h3 q3 q2
                omega
            · rw [zin i q1 (by omega)]; omega
          have e4 := r4 hR hS hb'
          have e4' := r4 hR hS hb
          by_cases hy : nI (4 * m) < y
          · obtain ⟨c, hc⟩ := lpx_left (post := post) hR hS hb hp len D ((m, 0) :: A2) x y hD hAD (keep hy) hall
            refine ⟨c + 1, fun q => absurd q (nI_pos (by omega)), fun _ => ⟨g2, fun q => absurd hk0 q, fun _ => ⟨g2, gA, ?_⟩⟩⟩
            rw [e4, e4', nI_nltI (by omega) (by omega)]
            refine ⟨fun _ => ⟨fun _ => by rw [hidx2]; exact hc, fun q => absurd hy q⟩, fun q => absurd (by omega) q⟩
          · obtain ⟨c, hc⟩ := lpx_left (post := post) hR hS hb hp len D ((m, 0) :: A2) _ _ hD hAD (take hy) hall
            refine ⟨c + 1, fun q => absurd q (nI_pos (by omega)), fun _ => ⟨g2, fun q => absurd hk0 q, fun _ => ⟨g2, gA, ?_⟩⟩⟩
            rw [e4, e4', nI_nltI (by omega) (by omega)]
            refine ⟨fun _ => ⟨fun q => absurd q hy, fun _ => ⟨g2, by rw [hidx2, r3 hR hS hb']; exact hc⟩⟩, fun q => absurd (by omega) q⟩
        · refine ⟨1, fun q => absurd q (nI_pos (by omega)), fun _ => ⟨g2, fun q => absurd hk0 q, fun _ => ⟨g2, gA, ?_⟩⟩⟩
          rw [r4 hR hS hb', r4 hR hS hb, nI_nltI (by omega) (by omega)]
          refine ⟨fun q => absurd q (by omega), fun _ => hp x ⟨tot D + 1, ⟨by omega, fun h q1 q2 => ?_, Or.inr ⟨tot D, rfl, by rw [hF, zbeg]; omega⟩⟩, stt_t (stt_l hs (by omega) (fun i q1 q2 => zin i (by omega) q2))⟩⟩
          rw [hF]
          by_cases q3 : tot A1 ≤ h
          · exact hz h q3 q2
          · rw [zin h (by omega) (by omega)]; omega
      · rw [if_neg hj] at zbeg
        have zall : ∀ i, tot D ≤ i → i < tot A1 → fz bs i = 0 := by
          intro i q1 q2
          by_cases q4 : i = tot D
          · rw [q4]; exact zbeg
          · exact zin i (by omega) q2
        obtain ⟨c, hc⟩ := lpx_left (post := post) hR hS hb hp len D ((m, j) :: A2) x y hD hAD (stt_l hs (by omega) zall) (fun i q1 q2 => by
          by_cases q3 : tot A1 ≤ i
          · exact hz i q3 q2
          · rw [zall i q1 (by omega)]; omega)
        refine ⟨c + 1, fun q => absurd q (nI_pos (by omega)), fun _ => ⟨g2, fun _ => by rw [hidx2]; exact hc, fun q => absurd ((k0 hS hb').mp (by rw [r5 hR hS hb'] at q; exact q)) hj⟩⟩
theorem C_left {post : Int32 → CS → Prop} (hR : RC σ bs) (hS : shp N bs) (hb : bs = A ++ (n, 0) :: B) (hp : ∀ r, lft (fz bs) (tot A) r → post r σ) : wp_X3_topToTheLeft (lnC Hd N K) σ (nI A.length) post :=
  lpx_left (Kx := fun σ x => post x σ) hR hS hb hp A.length A [] 0 0 rfl (List.append_nil A).symm (Or.inl ⟨rfl, rfl, fun h q1 q2 => by omega⟩) (fun j q1 q2 => by omega)
theorem lpx_right {post : Int32 → CS → Prop} {Kx : CS → Int32 → Prop} (hR : RC σ bs) (hS : shp N bs) (hb : bs = A ++ (n, 0) :: B) (hp : ∀ r, rgt (fz bs) N (tot A) r → Kx σ r) :
    ∀ (B2 B1 : List Blk) (x y : Int32), B = B1 ++ B2 → stt (fz bs) (tot A + 1) (tot A + n + tot B1) x y → (∀ j, tot A < j → j < tot A + n + tot B1 → fz bs j ≤ n) → ∃ c, lp_X3_topToTheRight_9 (lnC Hd N K) post Kx (nI A.length) c σ x y (nI (A ++ (n, 0) :: B1).length)
  | [], B1, x, y, hB, hs, hz => by
    have hn := shp_at (by rw [hb] at hS; exact hS)
    have hF : fz bs (tot A) = n := by rw [fz_beg hS hb, if_pos rfl]
    rw [List.append_nil] at hB
    subst hB
    have he : bs = (A ++ (n, 0) :: B) ++ [] := by rw [hb]; simp
    refine ⟨1, fun _ => hp x ⟨tot A + n + tot B, ⟨by omega, by omega, fun h q1 q2 => by rw [hF]; exact hz h q1 q2, Or.inl (by omega)⟩, stt_t hs⟩, fun q => absurd (c_end hR he) q⟩
  | (m, j) :: B2, B1, x, y, hB, hs, hz => by
    have hn := shp_at (by rw [hb] at hS; exact hS)
    have hF : fz bs (tot A) = n := by rw [fz_beg hS hb, if_pos rfl]
    have hb' : bs = (A ++ (n, 0) :: B1) ++ (m, j) :: B2 := by rw [hb, hB]; simp
    have a := shp_at (by rw [hb'] at hS; exact hS)
    have htD : tot (A ++ (n, 0) :: B1) = tot A + n + tot B1 := by rw [tot_app, tot_cons]; show tot A + (n + tot B1) = _; omega
    have htE : tot A + n + tot (B1 ++ [(m, j)]) = tot A + n + tot B1 + m := by rw [tot_app, tot_cons, tot_nil]; show tot A + n + (tot B1 + (m + 0)) = _; omega
    obtain ⟨g1, g2, g3⟩ := c_go hR hS hb'
    have gA := (c_go hR hS hb).2.1
    have zbeg := fz_beg hS hb'
    rw [htD] at zbeg a
    have zin : ∀ i, tot A + n + tot B1 < i → i < tot A + n + tot B1 + m → fz bs i = 0 := fun i q1 q2 => fz_blk hb' (by rw [htD]; exact q1) (by rw [htD]; exact q2)
    have hBB : B = (B1 ++ [(m, j)]) ++ B2 := app_one hB
    have hidx : nI (A ++ (n, 0) :: B1).length + 1 = nI (A ++ (n, 0) :: (B1 ++ [(m, j)])).length := by rw [g3]; simp
    by_cases hj : j = 0
    · subst hj
      rw [if_pos rfl] at zbeg
      have hk0 : σ.2 5 (nI (A ++ (n, 0) :: B1).length).toNatClampNeg = 0 := (r5 hR hS hb').trans rfl
      have e4 := r4 hR hS hb'
      have e4' := r4 hR hS hb
      by_cases hmn : m ≤ n
      · have hall : ∀ i, tot A < i → i < tot A + n + tot (B1 ++ [(m, 0)]) → fz bs i ≤ n := by
          intro i q1 q2
          rw [htE] at q2
          by_cases q3 : i < tot A + n + tot B1
          · exact hz i q1 q3
          · by_cases q4 : i = tot A + n + tot B1
            · rw [q4, zbeg]; exact hmn
            · rw [zin i (by omega) q2]; omega
        have keep : nI (4 * m) ≤ y → stt (fz bs) (tot A + 1) (tot A + n + tot (B1 ++ [(m, 0)])) x y := by
          intro hy
          rw [htE]
          rcases hs with ⟨h1, h2, h3⟩ | ⟨g, h1, h2, h3⟩
          · rw [h2, iLit 0, nI_leI (by omega) (by decide)] at hy; omega
          · have := fz_N hS g
            rw [h2, nI_leI (by omega) (by omega)] at hy
            refine Or.inr ⟨g, h1, h2, top_r h3 (by omega) (fun i q1 q2 => ?_)⟩
            by_cases q4 : i = tot A + n + tot B1
            · rw [q4, zbeg]; omega
            · rw [zin i (by omega) q2]; omega
        have take : ¬ nI (4 * m) ≤ y → stt (fz bs) (tot A + 1) (tot A + n + tot (B1 ++ [(m, 0)])) (nI (4 + 4 * (tot A + n + tot B1))) (nI (4 * m)) := by
          intro hy
          rw [htE]
          refine Or.inr ⟨tot A + n + tot B1, rfl, by rw [zbeg], by omega, by omega, by rw [zbeg]; omega, fun i q1 q2 => ?_, fun i q1 q2 => by rw [zin i q1 q2]; omega⟩
          rw [zbeg]
          rcases hs with ⟨h1, h2, h3⟩ | ⟨g, h1, h2, h3⟩
          · rw [h3 i q1 q2]; omega
          · have := fz_N hS g
            rw [h2, nI_leI (by omega) (by omega)] at hy
            have := top_le h3 q1 q2
            omega
        by_cases hy : nI (4 * m) ≤ y
        · obtain ⟨c, hc⟩ := lpx_right (post := post) hR hS hb hp B2 (B1 ++ [(m, 0)]) x y hBB (keep hy) hall
          refine ⟨c + 1, fun q => absurd q g1, fun _ => ⟨g2, fun q => absurd hk0 q, fun _ => ⟨g2, gA, ?_⟩⟩⟩
          rw [e4, e4', nI_nleI (by omega) (by omega)]
          refine ⟨fun _ => ⟨fun _ => by rw [hidx]; exact hc, fun q => absurd hy q⟩, fun q => absurd (by omega) q⟩
        · obtain ⟨c, hc⟩ := lpx_right (post := post) hR hS hb hp B2 (B1 ++ [(m, 0)]) _ _ hBB (take hy) hall
          refine ⟨c + 1, fun q => absurd q g1, fun _ => ⟨g2, fun q => absurd hk0 q, fun _ => ⟨g2, gA, ?_⟩⟩⟩
          rw [e4, e4', nI_nleI (by omega) (by omega)]
          refine ⟨fun _ => ⟨fun q => absurd q hy, fun _ => ⟨g2, by rw [hidx, r3 hR hS hb', htD]; exact hc⟩⟩, fun q => absurd (by omega) q⟩
      · refine ⟨1, fun q => absurd q g1, fun _ => ⟨g2, fun q => absurd hk0 q, fun _ => ⟨g2, gA, ?_⟩⟩⟩
        rw [e4, e4', nI_nleI (by omega) (by omega)]
        exact ⟨fun q => absurd q (by omega), fun _ => hp x ⟨tot A + n + tot B1, ⟨by omega, by omega, fun h q1 q2 => by rw [hF]; exact hz h q1 q2, Or.inr (by rw [hF, zbeg]; omega)⟩, stt_t hs⟩⟩
    · rw [if_neg hj] at zbeg
      have zall : ∀ i, tot A + n + tot B1 ≤ i → i < tot A + n + tot (B1 ++ [(m, j)]) → fz bs i = 0 := by
        intro i q1 q2
        rw [htE] at q2
        by_cases q4 : i = tot A + n + tot B1
        · rw [q4]; exact zbeg
        · exact zin i (by omega) q2
      obtain ⟨c, hc⟩ := lpx_right (post := post) hR hS hb hp B2 (B1 ++ [(m, j)]) x y hBB (stt_r hs (by rw [htE]; omega) zall) (fun i q1 q2 => by
        by_cases q3 : i < tot A + n + tot B1
        · exact hz i q1 q3
        · rw [zall i (by omega) q2]; omega)
      refine ⟨c + 1, fun q => absurd q g1, fun _ => ⟨g2, fun _ => by rw [hidx]; exact hc, fun q => absurd ((k0 hS hb').mp (by rw [r5 hR hS hb'] at q; exact q)) hj⟩⟩
theorem C_right {post : Int32 → CS → Prop} (hR : RC σ bs) (hS : shp N bs) (hb : bs = A ++ (n, 0) :: B) (hp : ∀ r, rgt (fz bs) N (tot A) r → post r σ) : wp_X3_topToTheRight (lnC Hd N K) σ (nI A.length) post := by
  have h := lpx_right (Hd := Hd) (K := K) (post := post) (Kx := fun σ x => post x σ) hR hS hb hp B [] 0 0 rfl (Or.inl ⟨rfl, rfl, fun h q1 q2 => fz_blk hb (by omega) (by rw [tot_nil] at q2; omega)⟩) (fun j q1 q2 => by rw [fz_blk hb q1 (by rw [tot_nil] at q2; omega)]; omega)
  have e : nI A.length + 1 = nI (A ++ (n, 0) :: []).length := (c_go hR hS hb).2.2
  unfold wp_X3_topToTheRight
  rw [e]
  exact h
end BRC
