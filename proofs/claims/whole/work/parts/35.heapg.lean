/-! PURE: the class: grow, trim, give. -/
section HEAPG
variable {Hd N K : Nat} {σ : CS} {bs A B : List Blk} {n k m : Nat}
theorem s_freeBehind {post : Int32 → CS → Prop} (hR : RC σ bs) (hS : shp N bs) (hb : bs = A ++ (n, k) :: B) (hyes : ∀ f B', B = (f, 0) :: B' → post (nI (4 * f)) σ) (hno : (∀ f B', B ≠ (f, 0) :: B') → post 0 σ) : wp_X2_freeBehind (lnC Hd N K) σ (nI A.length) post := by
  have a := shp_at (by rw [hb] at hS; exact hS)
  have e1 : nI A.length + 1 = nI (A.length + 1) := nI_1 _
  unfold wp_X2_freeBehind
  rw [e1]
  refine s_isFree hR hS (by omega) (fun D y E hD hDl => ⟨fun h => absurd h (by decide), fun _ => ?_⟩) (fun h => ⟨fun _ => hno (fun f B' hB => ?_), fun q => absurd rfl q⟩)
  · have h2 : bs = (A ++ [(n, k)]) ++ B := app_one hb
    obtain ⟨h3, h4⟩ := List.append_inj (hD.symm.trans h2) (by rw [hDl]; simp)
    have hlen : nI (A.length + 1) = nI D.length := by rw [hDl]
    rw [hlen]
    refine ⟨(c_go hR hS hD).2.1, ?_⟩
    rw [r4 hR hS hD]
    exact hyes y E h4.symm
  · exact h (A ++ [(n, k)]) f B' (by rw [hb, hB]; simp) (by simp)
/-- the row behind a block that grows over the free one behind it -/
def grw (m n f : Nat) (B' : List Blk) : List Blk := if m - n < f then (f - (m - n), 0) :: B' else B'
theorem s_extend {post : CS → Prop} {f : Nat} {B' : List Blk} (hR : RC σ bs) (hS : shp N bs) (hb : bs = A ++ (n, k) :: (f, 0) :: B') (hm : n < m) (hf : m - n ≤ f) (hp : ∀ σ', RC σ' (A ++ (m, k) :: grw m n f B') → RowOnly σ σ' → post σ') : wp_X2_extend (lnC Hd N K) σ (nI A.length) (nI (4 * m)) post := by
  have a := shp_at (by rw [hb] at hS; exact hS)
  have hb2 : bs = (A ++ [(n, k)]) ++ (f, 0) :: B' := app_one hb
  have a2 := shp_at (by rw [hb2] at hS; exact hS)
  rw [tot_app, tot_cons, tot_nil] at a2
  have a3 : (n, k).1 = n := rfl
  rw [a3] at a2
  have e1 : nI A.length + 1 = nI (A ++ [(n, k)]).length := by rw [nI_1]; simp
  refine ⟨(c_go hR hS hb).2.1, ?_⟩
  rw [e1, r4 hR hS hb, pk_sub (by omega), ← Nat.mul_sub]
  refine s_split hR hS hb2 (by omega) hf (fun he => ?_) (fun hlt σ' hR' hO => ?_)
  · refine s_join hR hS hb (fun σ' hR' hO => hp σ' ?_ hO)
    unfold grw
    rw [if_neg (by omega)]
    have : n + f = m := by omega
    rw [this] at hR'
    exact hR'
  · have hS' := shp_split (by rw [← hb2]; exact hS) (by omega) hlt
    have hb3 : (A ++ [(n, k)]) ++ (m - n, 0) :: (f - (m - n), 0) :: B' = A ++ (n, k) :: (m - n, 0) :: (f - (m - n), 0) :: B' := by simp
    refine s_join hR' hS' hb3 (fun σ2 hR2 hO2 => hp σ2 ?_ (hO.tr hO2))
    unfold grw
    rw [if_pos hlt]
    have : n + (m - n) = m := by omega
    rw [this] at hR2
    exact hR2
theorem C_grow {post : Int32 → CS → Prop} {p w : Int32} (hR : RC σ bs) (hS : shp N bs) (hN : 4 * N + 3 ≤ Hd) (hH : Hd ≤ 4096)
    (h0 : noliv bs p → post 0 σ) (h1 : ¬ 1 ≤ w → post 0 σ)
    (h2 : ∀ A n k B, liv bs p A n k B → 1 ≤ w → gw w ≤ n → ∀ σ', stepC σ σ' bs (σ.2 1) → post 1 σ')
    (h3 : ∀ A n k B f B', liv bs p A n k B → 1 ≤ w → n < gw w → B = (f, 0) :: B' → gw w - n ≤ f → ∀ σ', stepC σ σ' (A ++ (gw w, k) :: grw (gw w) n f B') (zf (σ.2 1) (4 + 4 * tot A + (4 * n - 1)) (4 + 4 * tot A + (4 * gw w - 1))) → post 1 σ')
    (h4 : ∀ A n k B, liv bs p A n k B → 1 ≤ w → n < gw w → (∀ f B', B = (f, 0) :: B' → f < gw w - n) → post 0 σ) : wp_X4_grow (lnC Hd N K) σ p w post := by
  rcases liv_or bs p with ⟨A, n, k, B, h⟩ | h
  · have a := shp_at (by rw [h.1] at hS; exact hS)
    have hg := gw_le w
    refine s_live hR hS h ⟨fun q => absurd q (not_m1 hS h.1), fun _ => ⟨fun hw => ⟨(c_go hR hS h.1).2.1, s_sizeFor hw ?_⟩, h1⟩⟩
    rw [r4 hR hS h.1]
    refine ⟨fun hle => ?_, fun hle => ?_⟩
    · rw [nI_leI (by omega) (by omega)] at hle
      exact h2 A n k B h hw (by omega) _ (stepC_drop hR RowOnly.rf)
    · rw [nI_leI (by omega) (by omega)] at hle
      rw [pk_sub (by omega)]
      refine s_freeBehind hR hS h.1 (fun f B' hB => ⟨fun hf => ?_, fun hf => ?_⟩) (fun hnf => ⟨fun hf => ?_, fun hf => h4 A n k B h hw (by omega) (fun f B' hB => absurd hB (hnf f B'))⟩)
      · have a2 : tot A + n + (f + tot B') = N := by rw [hB, tot_cons] at a; exact a.2.2.1
        rw [nI_leI (by omega) (by omega)] at hf
        refine s_extend hR hS (by rw [h.1, hB]) (by omega) (by omega) (fun σ' hR' hO => ?_)
        have hE : σ'.2 1 = σ.2 1 := hO.2 1 (by decide) (by decide) (by decide)
        rw [h.2.1, iLit 1, pk_sub (by omega), pk_sub (by omega)]
        refine s_clear (by omega) (by omega) hH ?_
        exact h3 A n k B f B' h hw (by omega) hB (by omega) _ (stepC_fill hR' hO)
      · rw [nI_leI (by omega) (by rw [hB, tot_cons] at a; omega)] at hf
        exact h4 A n k B h hw (by omega) (fun f' B'' hB' => by
          rw [hB] at hB'
          injection hB' with q1 q2
          injection q1 with q3 q4
          omega)
      · rw [iLit 0, nI_leI (by omega) (by decide)] at hf
        omega
  · exact s_nolive hR hS h ⟨fun _ => h0 h, fun q => absurd rfl q⟩
theorem nadj_split (hj : nadj (A ++ (n, k) :: B)) (hk : k ≠ 0) {m m' : Nat} : nadj (A ++ (m, k) :: (m', k) :: B) := by
  obtain ⟨h1, h2, h3⟩ := nadj_app.mp hj
  refine nadj_app.mpr ⟨h1, ⟨fun c l' hc q => hk q.1, ⟨fun c l' hc q => hk q.1, h2.2⟩⟩, fun A' b c B' ha hb q => ?_⟩
  injection hb with q1 q2
  rw [← q1] at q
  exact hk q.2
theorem C_trim {post : Int32 → CS → Prop} {p w : Int32} (hR : RC σ bs) (hS : shp N bs) (hj : nadj bs)
    (h0 : noliv bs p → post 0 σ) (h1 : ¬ 1 ≤ w → post 0 σ)
    (h2 : ∀ A n k B, liv bs p A n k B → 1 ≤ w → n < gw w → post 0 σ)
    (h3 : ∀ A n k B, liv bs p A n k B → 1 ≤ w → gw w = n → ∀ σ', stepC σ σ' bs (σ.2 1) → post 1 σ')
    (h4 : ∀ A n k B, liv bs p A n k B → 1 ≤ w → gw w < n → ∀ σ', stepC σ σ' (norm (A ++ (gw w, k) :: (n - gw w, 0) :: B)) (σ.2 1) → post 1 σ') : wp_X4_trim (lnC Hd N K) σ p w post := by
  rcases liv_or bs p with ⟨A, n, k, B, h⟩ | h
  · have a := shp_at (by rw [h.1] at hS; exact hS)
    have hg := gw_le w
    have g2 := (c_go hR hS h.1).2.1
    refine s_live hR hS h ⟨fun q => absurd q (not_m1 hS h.1), fun _ => ⟨fun hw => s_sizeFor hw ⟨g2, fun hle => ⟨g2, fun hge => ?_, fun hlt => ?_⟩, fun hgt => ?_⟩, h1⟩⟩
    · rw [r4 hR hS h.1, nI_leI (by omega) (by omega)] at hle hge
      exact h3 A n k B h hw (by omega) _ (stepC_drop hR RowOnly.rf)
    · rw [r4 hR hS h.1, nI_leI (by omega) (by omega)] at hle hlt
      refine s_split hR hS h.1 (by omega) (by omega) (fun he => by omega) (fun hl σ' hR' hO => ?_)
      have hS' := shp_split (by rw [← h.1]; exact hS) (by omega) hl
      have hj' : nadj (A ++ (gw w, k) :: (n - gw w, k) :: B) := nadj_split (by rw [← h.1]; exact hj) h.2.2
      have hb' : A ++ (gw w, k) :: (n - gw w, k) :: B = (A ++ [(gw w, k)]) ++ (n - gw w, k) :: B := by simp
      have e1 : nI A.length + 1 = nI (A ++ [(gw w, k)]).length := by rw [nI_1]; simp
      rw [e1]
      refine s_release hR' hS' hj' hb' (fun σ2 hR2 hO2 => h4 A n k B h hw hl _ (stepC_drop ?_ (hO.tr hO2)))
      simpa using hR2
    · rw [r4 hR hS h.1, nI_leI (by omega) (by omega)] at hgt
      exact h2 A n k B h hw (by omega)
  · exact s_nolive hR hS h ⟨fun _ => h0 h, fun q => absurd rfl q⟩
/-- from a group on the least way to a place whose address is a multiple of four times a number -/
def off (g b : Nat) : Nat := (b - (g + 1) % b) % b
def okby (b : Nat) : Prop := b = 1 ∨ b = 2 ∨ b = 4 ∨ b = 8 ∨ b = 16 ∨ b = 32 ∨ b = 64 ∨ b = 128 ∨ b = 256
theorem off_lt {g b : Nat} (hb : okby b) : off g b < b ∧ (g + off g b + 1) % b = 0 ∧ ∀ d, d < off g b → (g + d + 1) % b ≠ 0 := by
  unfold off
  rcases hb with rfl | rfl | rfl | rfl | rfl | rfl | rfl | rfl | rfl <;> refine ⟨by omega, by omega, fun d hd => by omega⟩
theorem next_mul {g b : Nat} (hb : okby b) (hg : g ≤ 1100) : (4 + 4 * g + 4 * b - 1) / (4 * b) * (4 * b) = 4 + 4 * (g + off g b) := by
  unfold off
  rcases hb with rfl | rfl | rfl | rfl | rfl | rfl | rfl | rfl | rfl <;> omega
theorem okby_le {b : Nat} (hb : okby b) : 1 ≤ b ∧ b ≤ 256 := by rcases hb with rfl | rfl | rfl | rfl | rfl | rfl | rfl | rfl | rfl <;> omega
/-- the first free block with room for m groups at a multiple -/
def ff (b m : Nat) : List Blk → List Blk → Option (List Blk × Nat × List Blk)
  | _, [] => none
  | A, x :: l => if x.2 = 0 ∧ off (tot A) b + m ≤ x.1 then some (A, x.1, l) else ff b m (A ++ [x]) l
/-- the row behind a giving: d groups stay ahead of it, the rest behind it -/
def gvn (d m n : Nat) (B : List Blk) : List Blk := (if 0 < d then [(d, 0)] else []) ++ (m, 1) :: (if d + m < n then (n - d - m, 0) :: B else B)
theorem s_nextMul {post : Int32 → CS → Prop} {g b : Nat} (hb : okby b) (hg : g ≤ 1100) (hp : post (nI (4 + 4 * (g + off g b))) σ) : wp_X4_nextMultiple (lnC Hd N K) σ (nI (4 + 4 * g)) (nI (4 * b)) post := by
  have h1 := okby_le hb
  refine ⟨?_, ?_⟩
  · rw [iLit 0, nI_eq (by omega) (by decide)]; omega
  · rw [nI_add, iLit 1, pk_sub (by omega), pk_div (by omega) (by omega) (by omega), pk_mul, next_mul hb hg]
    exact hp
theorem s_carveG {post : CS → Prop} {d : Nat} (hR : RC σ bs) (hS : shp N bs) (hb : bs = A ++ (n, 0) :: B) (hm : 0 < m) (hmn : d + m ≤ n) (hp : ∀ σ', RC σ' (A ++ gvn d m n B) → RowOnly σ σ' → post σ') : wp_X2_carve (lnC Hd N K) σ (nI A.length) (nI (4 + 4 * (tot A + d))) (nI (4 * m)) post := by
  rcases Nat.eq_zero_or_pos d with rfl | hd
  · refine s_carve0 hR hS hb hm (by omega) (fun σ' hR' hO => hp σ' ?_ hO)
    unfold gvn
    rw [if_neg (by omega), Nat.zero_add, Nat.sub_zero]
    exact hR'
  · refine s_carve1 hR hS hb hd hm hmn (fun σ' hR' hO => hp σ' ?_ hO)
    unfold gvn
    rw [if_pos hd]
    exact hR'
theorem lpx_give {post : Int32 → CS → Prop} {b m : Nat} (hR : RC σ bs) (hS : shp N bs) (hN : 4 * N + 3 ≤ Hd) (hH : Hd ≤ 4096) (hb : okby b) (hm : 0 < m) (hm2 : m ≤ 1025) : ∀ (l2 l1 : List Blk), bs = l1 ++ l2 →
    (match ff b m l1 l2 with | none => post 0 σ | some (A, n, B) => ∀ σ', stepC σ σ' (A ++ gvn (off (tot A) b) m n B) (zf (σ.2 1) (4 + 4 * (tot A + off (tot A) b)) (4 + 4 * (tot A + off (tot A) b) + (4 * m - 1))) → post (nI (4 + 4 * (tot A + off (tot A) b))) σ') →
    ∃ c, lp_X4_giveAtMultiple_15 (lnC Hd N K) post (fun σ17 => post 0 σ17) (nI (4 * b)) (nI (4 * m)) c σ (nI l1.length)
  | [], l1, hl, h => ⟨1, fun _ => h, fun q => absurd (c_end hR hl) q⟩
  | (n, k) :: l2, l1, hl, h => by
    obtain ⟨g1, g2, g3⟩ := c_go hR hS hl
    have a := shp_at (by rw [hl] at hS; exact hS)
    have ho := (off_lt (g := tot l1) hb).1
    have hbl := okby_le hb
    by_cases hc : k = 0 ∧ off (tot l1) b + m ≤ n
    · refine ⟨1, fun q => absurd q g1, fun _ => ⟨g2, ?_⟩⟩
      rw [r3 hR hS hl]
      refine s_nextMul hb (by omega) ⟨g2, fun q => absurd ((k0 hS hl).mpr hc.1) (by rw [r5 hR hS hl] at q; exact q), fun _ => ⟨g2, g2, ?_⟩⟩
      rw [r3 hR hS hl, r4 hR hS hl, nI_add, nI_add]
      refine ⟨fun q => absurd q (by rw [nI_ltI (by omega) (by omega)]; omega), fun _ => ?_⟩
      obtain ⟨rfl, hc2⟩ := hc
      refine s_carveG hR hS hl hm hc2 (fun σ' hR' hO => ?_)
      rw [iLit 1, iLit 0, pk_sub (by omega)]
      refine s_clear (Nat.zero_le _) (by omega) hH ?_
      rw [ff, if_pos ⟨rfl, hc2⟩] at h
      exact h _ (stepC_fill hR' hO)
    · rw [ff, if_neg hc] at h
      obtain ⟨c, hcc⟩ := lpx_give hR hS hN hH hb hm hm2 l2 (l1 ++ [(n, k)]) (app_one hl) h
      refine ⟨c + 1, fun q => absurd q g1, fun _ => ⟨g2, ?_⟩⟩
      rw [r3 hR hS hl]
      refine s_nextMul hb (by omega) ⟨g2, fun q => ?_, fun q => ⟨g2, g2, ?_⟩⟩
      · rw [g3]; exact hcc
      · rw [r5 hR hS hl, k0 hS hl] at q
        rw [r3 hR hS hl, r4 hR hS hl, nI_add, nI_add]
        refine ⟨fun _ => by rw [g3]; exact hcc, fun q2 => absurd ?_ q2⟩
        rw [nI_ltI (by omega) (by omega)]
        have : ¬ off (tot l1) b + m ≤ n := fun q3 => hc ⟨q, q3⟩
        omega
theorem C_giveAt {post : Int32 → CS → Prop} {b : Nat} {w : Int32} (hR : RC σ bs) (hS : shp N bs) (hN : 4 * N + 3 ≤ Hd) (hH : Hd ≤ 4096) (hb : okby b) (h0 : ¬ 1 ≤ w → post 0 σ)
    (h1 : 1 ≤ w → (match ff b (gw w) [] bs with | none => post 0 σ | some (A, n, B) => ∀ σ', stepC σ σ' (A ++ gvn (off (tot A) b) (gw w) n B) (zf (σ.2 1) (4 + 4 * (tot A + off (tot A) b)) (4 + 4 * (tot A + off (tot A) b) + (4 * gw w - 1))) → post (nI (4 + 4 * (tot A + off (tot A) b))) σ')) : wp_X4_giveAtMultiple (lnC Hd N K) σ w (nI (4 * b)) post := by
  have hg := gw_le w
  exact ⟨fun hw => s_sizeFor hw (lpx_give hR hS hN hH hb (by omega) hg.2 bs [] rfl (h1 hw)), h0⟩
end HEAPG
