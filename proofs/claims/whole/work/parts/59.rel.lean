/-! PURE: the relation of the two; the calls that keep it. -/
def RR (N K : Nat) (σ τ : CS) : Prop := ∃ bs st va ta, RC σ bs ∧ RM τ bs ∧ shp N bs ∧ nadj bs ∧ σ.2 1 = τ.2 4 ∧ bC σ st ∧ bM τ st ∧ advOK bs st ∧ stL K st ∧ va.length ≤ K ∧ TG 6 19 20 σ va ta ∧ TG 5 7 8 τ va ta
theorem ff_some {b m : Nat} {A' B' : List Blk} {n : Nat} : ∀ {l A : List Blk}, ff b m A l = some (A', n, B') → A ++ l = A' ++ (n, 0) :: B' ∧ off (tot A') b + m ≤ n
  | [], A, h => by cases h
  | x :: l, A, h => by
    rw [ff] at h
    by_cases hc : x.2 = 0 ∧ off (tot A) b + m ≤ x.1
    · rw [if_pos hc] at h
      injection h with h
      injection h with h1 h2
      injection h2 with h3 h4
      subst h1 h3 h4
      refine ⟨?_, hc.2⟩
      obtain ⟨x1, x2⟩ := x
      rw [show x2 = 0 from hc.1]
    · rw [if_neg hc] at h
      have := ff_some h
      rw [List.append_assoc] at this
      exact this
section REL
variable {Hd N K : Nat} {σ τ : CS} {bs A B : List Blk} {n k m : Nat} {KK : S2 → CS → Prop} {f : Nat → Int64} {p p1 p2 p3 : Int32}
theorem RR_step {σ' τ' : CS} {bs' : List Blk} {g g' : Nat → Int32} {va : List Vic} {ta : List Nat} (hc : stepC σ σ' bs' g) (hm : stepM τ τ' bs' g') (hg : g = g') (hS : shp N bs') (hj : nadj bs') (hv : va.length ≤ K) (h1 : TG 6 19 20 σ va ta) (h2 : TG 5 7 8 τ va ta) : RR N K σ' τ' :=
  ⟨bs', none, va, ta, hc.1, hm.1, hS, hj, by rw [hc.2.1, hm.2.1, hg], ⟨hc.2.2.1, hc.2.2.2.1⟩, hm.2.2.1, trivial, (fun a h => by cases h), hv, TG_other h1 hc.2.2.2.2.1 hc.2.2.2.2.2.1 hc.2.2.2.2.2.2, TG_other h2 hm.2.2.2.1 hm.2.2.2.2.1 hm.2.2.2.2.2⟩
theorem RR_t (h : RR N K σ τ) (v : Int32) : RR N K σ (setF τ 0 v) := by
  obtain ⟨bs, st, va, ta, h1, h2, h3, h4, h5, h6, h7, h8, h9, h10, h11, h12⟩ := h
  exact ⟨bs, st, va, ta, h1, RM_t h3 h2 v, h3, h4, h5, h6, bM_other h7 rfl rfl rfl rfl rfl, h8, h9, h10, h11, TG_other h12 rfl rfl rfl⟩
theorem liv_no (h : liv bs p A n k B) (h' : noliv bs p) : False := h.2.2 (h' A n k B h.1 h.2.1)
theorem liv_two {A' B' : List Blk} {n' k' : Nat} (hS : shp N bs) (h : liv bs p A n k B) (h' : liv bs p A' n' k' B') : A' = A ∧ n' = n ∧ k' = k ∧ B' = B := liv_one hS h h'.1 h'.2.1
theorem R_giveAt {b : Nat} {MP : (Int32 → CS → Prop) → Prop} (hMP : ∀ post, wp_X5_gives lnM (setF τ 0 0) p (nI b) post → MP post) (hb : okby b) (hN : 4 * N + 3 ≤ Hd) (hH : Hd ≤ 4096) (hr : RR N K σ τ) (hk : ∀ u' τ', RR N K u'.1 τ' → KK u' τ') : wp_X4_giveAtMultiple (lnC Hd N K) σ p (nI (4 * b)) (fun r σ' => MP (fun r' τ' => r = r' ∧ KK (σ', f) τ')) := by
  have hr0 := RR_t hr 0
  obtain ⟨bs, st, va, ta, h1, h2, h3, h4, h5, h6, h7, h8, h9, h10, h11, h12⟩ := hr
  have h2' := RM_t h3 h2 0
  refine C_giveAt h1 h3 hN hH hb (fun hw => hMP _ (M_gives h2' h3 hb (fun _ => ⟨rfl, hk _ _ hr0⟩) (fun q => absurd q hw))) (fun hw => ?_)
  have hg := gw_le p
  cases hff : ff b (gw p) [] bs with
  | none =>
    refine hMP _ (M_gives h2' h3 hb (fun q => absurd hw q) (fun _ => ?_))
    rw [hff]
    exact ⟨rfl, hk _ _ hr0⟩
  | some r =>
    obtain ⟨A, n, B⟩ := r
    intro σ' hc
    refine hMP _ (M_gives h2' h3 hb (fun q => absurd hw q) (fun _ => ?_))
    rw [hff]
    intro τ' hm
    obtain ⟨e1, e2⟩ := ff_some hff
    have e1 : bs = A ++ (n, 0) :: B := e1
    refine ⟨rfl, hk _ _ (RR_step hc hm (by rw [h5]; rfl) (shp_gv (by rw [← e1]; exact h3) (by omega) e2) (nadj_gv (by rw [← e1]; exact h4)) h10 h11 (TG_other h12 rfl rfl rfl))⟩
theorem R_give (hN : 4 * N + 3 ≤ Hd) (hH : Hd ≤ 4096) (hr : RR N K σ τ) (hk : ∀ u' τ', RR N K u'.1 τ' → KK u' τ') : wp_X4_give (lnC Hd N K) σ p (fun r σ' => wp_X5_give lnM τ p (fun r' τ' => r = r' ∧ KK (σ', f) τ')) :=
  R_giveAt (b := 1) (MP := fun post => wp_X5_give lnM τ p post) (fun _ h => h) (Or.inl rfl) hN hH hr hk
theorem R_giveAligned (hN : 4 * N + 3 ≤ Hd) (hH : Hd ≤ 4096) (hr : RR N K σ τ) (hk : ∀ u' τ', RR N K u'.1 τ' → KK u' τ') : wp_X4_giveAligned (lnC Hd N K) σ p p2 (fun r σ' => wp_X5_giveAligned lnM τ p p2 (fun r' τ' => r = r' ∧ KK (σ', f) τ')) := by
  by_cases h : ∃ b, okby b ∧ p2 = nI (4 * b)
  · obtain ⟨b, hb, hp⟩ := h
    refine C_giveAligned (fun b' hb' hp' => ?_) (fun hno => absurd hp (hno b hb))
    have uniq : ∀ b', okby b' → p2 = nI (4 * b') → b' = b := by
      intro b' hb' hp'
      have := okby_le hb
      have := okby_le hb'
      rw [hp, nI_eq (by omega) (by omega)] at hp'
      omega
    rw [uniq b' hb' hp'] at hp'
    rw [hp']
    rw [hp'] at uniq
    exact R_giveAt (b := b) (MP := fun post => wp_X5_giveAligned lnM τ p (nI (4 * b)) post) (fun post h => M_giveAligned (fun b'' hb'' hp'' => by rw [uniq b'' hb'' hp'']; exact h) (fun hno => absurd rfl (hno b hb))) hb hN hH hr hk
  · refine C_giveAligned (fun b hb hp => absurd ⟨b, hb, hp⟩ h) (fun _ => M_giveAligned (fun b hb hp => absurd ⟨b, hb, hp⟩ h) (fun _ => ⟨rfl, hk _ _ (RR_t hr 0)⟩))
theorem R_free (hr : RR N K σ τ) (hk : ∀ u' τ', RR N K u'.1 τ' → KK u' τ') : wp_X4_free (lnC Hd N K) σ p (fun r σ' => wp_X5_free lnM τ p (fun r' τ' => r = r' ∧ KK (σ', f) τ')) := by
  have hr0 := RR_t hr 0
  obtain ⟨bs, st, va, ta, h1, h2, h3, h4, h5, h6, h7, h8, h9, h10, h11, h12⟩ := hr
  refine C_free h1 h3 h4 (fun A n k B h σ' hc => M_free h2 h3 (fun A' n' k' B' h' τ' hm => ?_) (fun h' => absurd h' (fun q => liv_no h q))) (fun h => M_free h2 h3 (fun A' n' k' B' h' τ' hm => absurd h (fun q => liv_no h' q)) (fun _ => ⟨rfl, hk _ _ hr0⟩))
  obtain ⟨rfl, rfl, rfl, rfl⟩ := liv_two h3 h h'
  exact ⟨rfl, hk _ _ (RR_step hc hm h5 (shp_norm (shp_kind (by rw [← h.1]; exact h3) (Nat.zero_le _))) (nadj_norm _) h10 h11 h12)⟩
theorem nadj_kind {k' : Nat} (hj : nadj (A ++ (n, k) :: B)) (hk' : k' ≠ 0) : nadj (A ++ (m, k') :: B) := by
  obtain ⟨h1, h2, h3⟩ := nadj_app.mp hj
  refine nadj_app.mpr ⟨h1, ⟨fun c l' hc q => hk' q.1, h2.2⟩, fun A' b c B' ha hb q => ?_⟩
  injection hb with q1 q2
  rw [← q1] at q
  exact hk' q.2
theorem R_pin (hq : p2 = 0 ∨ p2 = 1) (hr : RR N K σ τ) (hk : ∀ u' τ', RR N K u'.1 τ' → KK u' τ') : wp_X4_pin (lnC Hd N K) σ p p2 (fun r σ' => wp_X5_pin lnM τ p p2 (fun r' τ' => r = r' ∧ KK (σ', f) τ')) := by
  have hr0 := RR_t hr 0
  obtain ⟨bs, st, va, ta, h1, h2, h3, h4, h5, h6, h7, h8, h9, h10, h11, h12⟩ := hr
  refine C_pin h1 h3 (fun A n k B h σ' hc => M_pin hq h2 h3 (fun A' n' k' B' h' τ' hm => ?_) (fun h' => absurd h' (fun q => liv_no h q))) (fun h => M_pin hq h2 h3 (fun A' n' k' B' h' τ' hm => absurd h (fun q => liv_no h' q)) (fun _ => ⟨rfl, hk _ _ hr0⟩))
  obtain ⟨rfl, rfl, rfl, rfl⟩ := liv_two h3 h h'
  refine ⟨rfl, hk _ _ (RR_step hc hm h5 (shp_kind (by rw [← h.1]; exact h3) ?_) (nadj_kind (by rw [← h.1]; exact h4) ?_) h10 h11 h12)⟩
  · split <;> omega
  · split <;> omega
theorem shp_grw {g fr : Nat} {B' : List Blk} (hS : shp N (A ++ (n, k) :: (fr, 0) :: B')) (hg : n < g) (hf : g - n ≤ fr) : shp N (A ++ (g, k) :: grw g n fr B') := by
  have a := shp_at hS
  have key : A ++ (g, k) :: grw g n fr B' = A ++ (((g, k) :: (if g - n < fr then [(fr - (g - n), 0)] else [])) ++ B') := by
    unfold grw
    by_cases h : g - n < fr
    · rw [if_pos h, if_pos h]; simp
    · rw [if_neg h, if_neg h]; simp
  rw [key]
  refine shp_re (M := [(n, k), (fr, 0)]) hS ?_ ?_
  · rw [tot_cons]
    by_cases h : g - n < fr
    · rw [if_pos h]; show g + (fr - (g - n) + 0) = n + (fr + 0); omega
    · rw [if_neg h]; show g + 0 = n + (fr + 0); omega
  · refine okB_cons.mpr ⟨⟨by show 1 ≤ g; omega, a.2.1⟩, ?_⟩
    by_cases h : g - n < fr
    · rw [if_pos h]; exact okB_one (by omega) (Nat.zero_le _)
    · rw [if_neg h]; exact okB_nil
theorem nadj_grw {g fr : Nat} {B' : List Blk} (hj : nadj (A ++ (n, k) :: (fr, 0) :: B')) (hk : k ≠ 0) : nadj (A ++ (g, k) :: grw g n fr B') := by
  obtain ⟨h1, h2, h3⟩ := nadj_app.mp hj
  refine nadj_app.mpr ⟨h1, ⟨fun c l' hc q => hk q.1, ?_⟩, fun A' b c B'' ha hb q => ?_⟩
  · unfold grw
    by_cases h : g - n < fr
    · rw [if_pos h]; exact ⟨fun c l' hc q => h2.2.1 c l' hc ⟨rfl, q.2⟩, h2.2.2⟩
    · rw [if_neg h]; exact h2.2.2
  · injection hb with q1 q2
    rw [← q1] at q
    exact hk q.2
theorem R_grow (hN : 4 * N + 3 ≤ Hd) (hH : Hd ≤ 4096) (hr : RR N K σ τ) (hk : ∀ u' τ', RR N K u'.1 τ' → KK u' τ') : wp_X4_grow (lnC Hd N K) σ p p2 (fun r σ' => wp_X5_grow lnM τ p p2 (fun r' τ' => r = r' ∧ KK (σ', f) τ')) := by
  have hr0 := RR_t hr 0
  obtain ⟨bs, st, va, ta, h1, h2, h3, h4, h5, h6, h7, h8, h9, h10, h11, h12⟩ := hr
  have fine : (0 : Int32) = 0 ∧ KK (σ, f) (setF τ 0 0) := ⟨rfl, hk _ _ hr0⟩
  refine C_grow h1 h3 hN hH (fun h => ?_) (fun h => ?_) (fun A n k B h hw hle σ' hc => ?_) (fun A n k B fr B' h hw hlt hB hf σ' hc => ?_) (fun A n k B h hw hlt hf => ?_)
  · exact M_grow h2 h3 (fun _ => fine) (fun _ => fine) (fun A n k B h' => absurd h (fun q => liv_no h' q)) (fun A n k B fr B' h' => absurd h (fun q => liv_no h' q)) (fun A n k B h' => absurd h (fun q => liv_no h' q))
  · exact M_grow h2 h3 (fun _ => fine) (fun _ => fine) (fun A n k B h' hw => absurd hw h) (fun A n k B fr B' h' hw => absurd hw h) (fun A n k B h' hw => absurd hw h)
  · refine M_grow h2 h3 (fun h' => absurd h' (fun q => liv_no h q)) (fun h' => absurd hw h') (fun A' n' k' B' h' _ hle' τ' hm => ?_) (fun A' n' k' B' fr B'' h' _ hlt => ?_) (fun A' n' k' B' h' _ hlt => ?_)
    · exact ⟨rfl, hk _ _ (RR_step hc hm h5 h3 h4 h10 h11 h12)⟩
    · obtain ⟨rfl, rfl, rfl, rfl⟩ := liv_two h3 h h'
      omega
    · obtain ⟨rfl, rfl, rfl, rfl⟩ := liv_two h3 h h'
      omega
  · refine M_grow h2 h3 (fun h' => absurd h' (fun q => liv_no h q)) (fun h' => absurd hw h') (fun A' n' k' B'' h' _ hle' τ' hm => ?_) (fun A' n' k' C' fr' B'' h' _ hlt' hB' hf' τ' hm => ?_) (fun A' n' k' B'' h' _ hlt' hf' => ?_)
    · obtain ⟨rfl, rfl, rfl, rfl⟩ := liv_two h3 h h'
      omega
    · obtain ⟨rfl, rfl, rfl, rfl⟩ := liv_two h3 h h'
      rw [hB] at hB'
      injection hB' with q1 q2
      injection q1 with q3 q4
      subst q2 q3
      have hbb : bs = A' ++ (n', k') :: (fr, 0) :: B' := by rw [h.1, hB]
      exact ⟨rfl, hk _ _ (RR_step hc hm (by rw [h5]) (shp_grw (by rw [← hbb]; exact h3) hlt hf) (nadj_grw (by rw [← hbb]; exact h4) h.2.2) h10 h11 h12)⟩
    · obtain ⟨rfl, rfl, rfl, rfl⟩ := liv_two h3 h h'
      have := hf' fr B' hB
      omega
  · refine M_grow h2 h3 (fun h' => absurd h' (fun q => liv_no h q)) (fun h' => absurd hw h') (fun A' n' k' B'' h' _ hle' τ' hm => ?_) (fun A' n' k' C' fr' B'' h' _ hlt' hB' hf' τ' hm => ?_) (fun A' n' k' B'' h' _ hlt' hf' => fine)
    · obtain ⟨rfl, rfl, rfl, rfl⟩ := liv_two h3 h h'
      omega
    · obtain ⟨rfl, rfl, rfl, rfl⟩ := liv_two h3 h h'
      have := hf fr' B'' hB'
      omega
theorem R_trim (hr : RR N K σ τ) (hk : ∀ u' τ', RR N K u'.1 τ' → KK u' τ') : wp_X4_trim (lnC Hd N K) σ p p2 (fun r σ' => wp_X5_trim lnM τ p p2 (fun r' τ' => r = r' ∧ KK (σ', f) τ')) := by
  have hr0 := RR_t hr 0
  obtain ⟨bs, st, va, ta, h1, h2, h3, h4, h5, h6, h7, h8, h9, h10, h11, h12⟩ := hr
  have fine : (0 : Int32) = 0 ∧ KK (σ, f) (setF τ 0 0) := ⟨rfl, hk _ _ hr0⟩
  refine C_trim h1 h3 h4 (fun h => ?_) (fun h => ?_) (fun A n k B h hw hlt => ?_) (fun A n k B h hw he σ' hc => ?_) (fun A n k B h hw hlt σ' hc => ?_)
  · exact M_trim h2 h3 (fun _ => fine) (fun _ => fine) (fun A n k B h' => absurd h (fun q => liv_no h' q)) (fun A n k B h' => absurd h (fun q => liv_no h' q)) (fun A n k B h' => absurd h (fun q => liv_no h' q))
  · exact M_trim h2 h3 (fun _ => fine) (fun _ => fine) (fun A n k B h' hw => absurd hw h) (fun A n k B h' hw => absurd hw h) (fun A n k B h' hw => absurd hw h)
  · refine M_trim h2 h3 (fun h' => absurd h' (fun q => liv_no h q)) (fun h' => absurd hw h') (fun A' n' k' B' h' _ hl => fine) (fun A' n' k' B' h' _ hl => ?_) (fun A' n' k' B' h' _ hl => ?_)
    · obtain ⟨rfl, rfl, rfl, rfl⟩ := liv_two h3 h h'
      omega
    · obtain ⟨rfl, rfl, rfl, rfl⟩ := liv_two h3 h h'
      omega
  · refine M_trim h2 h3 (fun h' => absurd h' (fun q => liv_no h q)) (fun h' => absurd hw h') (fun A' n' k' B' h' _ hl => ?_) (fun A' n' k' B' h' _ hl τ' hm => ?_) (fun A' n' k' B' h' _ hl => ?_)
    · obtain ⟨rfl, rfl, rfl, rfl⟩ := liv_two h3 h h'
      omega
    · exact ⟨rfl, hk _ _ (RR_step hc hm h5 h3 h4 h10 h11 h12)⟩
    · obtain ⟨rfl, rfl, rfl, rfl⟩ := liv_two h3 h h'
      omega
  · refine M_trim h2 h3 (fun h' => absurd h' (fun q => liv_no h q)) (fun h' => absurd hw h') (fun A' n' k' B' h' _ hl => ?_) (fun A' n' k' B' h' _ hl τ' hm => ?_) (fun A' n' k' B' h' _ hl τ' hm => ?_)
    · obtain ⟨rfl, rfl, rfl, rfl⟩ := liv_two h3 h h'
      omega
    · obtain ⟨rfl, rfl, rfl, rfl⟩ := liv_two h3 h h'
      omega
    · obtain ⟨rfl, rfl, rfl, rfl⟩ := liv_two h3 h h'
      have hg := gw_le p2
      have a := shp_at (by rw [h.1] at h3; exact h3)
      refine ⟨rfl, hk _ _ (RR_step hc hm h5 (shp_norm (shp_re (M := [(n', k')]) (M' := [(gw p2, k'), (n' - gw p2, 0)]) (by rw [h.1] at h3; exact h3) (by show gw p2 + (n' - gw p2 + 0) = n' + 0; omega) (okB_two (by omega) a.2.1 (by omega) (Nat.zero_le _)))) (nadj_norm _) h10 h11 h12)⟩
end REL
