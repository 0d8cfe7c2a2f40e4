/-! PURE: the class's search, advise. -/
def bC (σ : CS) (st : Adv) : Prop := match st with
  | none => σ.1 1 = 0 ∧ σ.1 4 = 0
  | some (g, vs, ts) => σ.1 1 = 1 ∧ σ.1 2 = nI (4 + 4 * g) ∧ TG 4 11 12 σ vs ts
def advI (st : Adv) : Int32 := match st with
  | none => -1
  | some (_, vs, _) => nI vs.length
def shrt (v : Nat) (W : List Blk) : Prop := ∀ W1 b W2, W = W1 ++ b :: W2 → 4 * tot W1 < v
def nopin (W : List Blk) : Prop := ∀ b, b ∈ W → b.2 ≠ 2
def stL (K : Nat) (st : Adv) : Prop := ∀ a, st = some a → a.2.1.length ≤ K
section CADV
variable {Hd N K : Nat} {σ : CS} {bs A B : List Blk} {n k m : Nat}
theorem bC_other {σ' : CS} {st : Adv} (h : bC σ st) (h1 : σ'.1 1 = σ.1 1) (h2 : σ'.1 2 = σ.1 2) (h4 : σ'.1 4 = σ.1 4) (r1 : σ'.2 11 = σ.2 11) (r2 : σ'.2 12 = σ.2 12) : bC σ' st := by
  cases st with
  | none => exact ⟨h1.trans h.1, h4.trans h.2⟩
  | some a =>
    obtain ⟨g, vs, ts⟩ := a
    exact ⟨h1.trans h.1, h2.trans h.2.1, TG_other h.2.2 h4 r1 r2⟩
theorem lpx_42 {post : CS → Prop} {Kx : CS → Int32 → Int32 → Int32 → Prop} {x2 x6 : Int32} {v : Nat} (hv : v < 2 ^ 31) (hR : RC σ bs) (hS : shp N bs) (hb : bs = A ++ B)
    (hp : ∀ W C, B = W ++ C → nopin W → shrt v W → (v ≤ 4 * tot W ∨ wnd v W C = none) → Kx σ (nI (A.length + W.length)) (nI (4 * tot W)) (nI (nl W))) :
    ∀ (C W : List Blk), B = W ++ C → nopin W → shrt v W → ∃ c, lp_X0_search_42 (lnC Hd N K) post Kx (nI v) x2 x6 c σ (nI (A.length + W.length)) (nI (4 * tot W)) (nI (nl W))
  | [], W, hB, hn, hs => by
    have hbl : bs.length = A.length + W.length := by rw [hb, hB]; simp
    refine ⟨1, fun _ => hp W [] hB hn hs ?_, fun q => absurd (by rw [hR.1, hbl]; exact Int32.le_refl _) q⟩
    by_cases h : v ≤ 4 * tot W
    · exact Or.inl h
    · refine Or.inr ?_
      rw [wnd, if_neg h]
  | (m, j) :: C, W, hB, hn, hs => by
    have hb' : bs = (A ++ W) ++ (m, j) :: C := by rw [hb, hB]; simp
    have a := shp_at (by rw [hb'] at hS; exact hS)
    obtain ⟨g1, g2, g3⟩ := c_go hR hS hb'
    have r4' := r4 hR hS hb'
    have r5' := r5 hR hS hb'
    have htW : tot (A ++ W) = tot A + tot W := tot_app A W
    have hlW : (A ++ W).length = A.length + W.length := List.length_append
    rw [hlW] at g1 g2 g3 r4' r5' a
    by_cases hv2 : v ≤ 4 * tot W
    · refine ⟨1, fun q => absurd q g1, fun _ => ⟨fun _ => hp W _ hB hn hs (Or.inl hv2), fun q => absurd ?_ q⟩⟩
      rw [nI_leI hv (by omega)]; exact hv2
    · have hv3 : ¬ nI v ≤ nI (4 * tot W) := by rw [nI_leI hv (by omega)]; exact hv2
      by_cases hj : j = 2
      · refine ⟨1, fun q => absurd q g1, fun _ => ⟨fun q => absurd q hv3, fun _ => ⟨g2, fun _ => hp W _ hB hn hs (Or.inr ?_), fun q => absurd ?_ q⟩⟩⟩
        · rw [wnd, if_neg hv2, if_pos hj]
        · rw [r5', hj]; rfl
      · have ht1 : tot (W ++ [(m, j)]) = tot W + m := by rw [tot_app, tot_cons, tot_nil]; show tot W + (m + 0) = _; omega
        obtain ⟨c, hc⟩ := lpx_42 (post := post) (x2 := x2) (x6 := x6) hv hR hS hb hp C (W ++ [(m, j)]) (app_one hB) (fun b hbm => by
          rcases List.mem_append.mp hbm with h | h
          · exact hn b h
          · rcases List.mem_cons.mp h with rfl | h
            · exact hj
            · cases h) (fun W1 b W2 h => by
          rcases sp_cases h.symm with ⟨c, h1, h2⟩ | ⟨c, h1, h2⟩
          · exact hs W1 b c h1
          · rcases sp_cons h2.symm with ⟨rfl, h3, h4⟩ | ⟨c2, rfl, h3⟩
            · rw [List.append_nil] at h1
              rw [h1]; omega
            · exact absurd h3.symm (by simp))
        rw [ht1, nl_app, Nat.mul_add, List.length_append, List.length_cons, List.length_nil] at hc
        refine ⟨c + 1, fun q => absurd q g1, fun _ => ⟨fun q => absurd q hv3, fun _ => ⟨g2, fun q => absurd q ?_, fun _ => ⟨g2, fun hk => ?_, fun hk => ?_⟩⟩⟩⟩
        · rw [r5', iLit 2, nI_eq (by omega) (by decide)]; exact hj
        · have hj1 : ¬ j = 1 := fun e => hk (by rw [r5', e]; rfl)
          rw [show nl [(m, j)] = 0 by show (if j = 1 then 1 else 0) + 0 = 0; rw [if_neg hj1]] at hc
          rw [r4', nI_add, nI_1, iLit 0, nI_add]
          exact hc
        · have hj1 : j = 1 := by
            rw [r5', iLit 1, nI_eq (by omega) (by decide)] at hk
            exact hk
          rw [show nl [(m, j)] = 1 by show (if j = 1 then 1 else 0) + 0 = 1; rw [if_pos hj1]] at hc
          rw [r4', nI_add, nI_1, nI_1]
          exact hc
theorem lpx_search {post : CS → Prop} {v : Nat} (hv1 : 1 ≤ v) (hv : v < 2 ^ 31) (hK : K ≤ 1023) (hR : RC σ bs) (hS : shp N bs) (hM : MV σ (srt [] (vic 0 0 bs))) (hl : nl bs ≤ K) :
    ∀ (B A W C : List Blk) (σ1 : CS) (st : Adv) (x3 : Int32), bs = A ++ B → B = W ++ C → nopin W → shrt v W → chg [1, 2, 4, 5] [11, 12, 14, 15, 17] σ σ1 → bC σ1 st → stL K st → (if x3 < nI A.length then nI A.length else x3) = nI (A.length + W.length) → (∀ σ', chg [1, 2, 4, 5] [11, 12, 14, 15, 17] σ σ' → bC σ' (advL v A B st) → post σ') →
      lp_X0_search_23 (lnC Hd N K) post (fun σ => post σ) (nI v) (nI (4 * gf bs)) (B.length + 1) σ1 x3 (nI (4 * tot W)) (nI (nl W)) (nI A.length)
  | [], A, W, C, σ1, st, x3, hb, hB, hn, hs, hO, hbc, hsl, hx3, hp => by
    have hR1 : RC σ1 bs := hO.RC hR (by decide) (by decide) (by decide) (by decide)
    exact ⟨fun _ => hp σ1 hO hbc, fun q => absurd (c_end hR1 hb) q⟩
  | (m, j) :: B, A, W, C, σ1, st, x3, hb, hB, hn, hs, hO, hbc, hsl, hx3, hp => by
    have hR1 : RC σ1 bs := hO.RC hR (by decide) (by decide) (by decide) (by decide)
    have a := shp_at (by rw [hb] at hS; exact hS)
    obtain ⟨g1, g2, g3⟩ := c_go hR1 hS hb
    have hbl := shp_len hS
    have hgfb : gf bs ≤ N := by rw [← hS.1]; exact gf_le bs
    refine ⟨fun q => absurd q g1, fun _ => ?_⟩
    rw [hx3]
    refine lpx_42 (post := post) (B := (m, j) :: B) hv hR1 hS hb (fun W C hB hn hs hw => ?_) C W hB hn hs
    have hWl : A.length + W.length ≤ bs.length := by rw [hb, hB]; simp
    have hWt : tot A + tot W + tot C = N := by
      have := hS.1
      rw [hb, hB, tot_app, tot_app] at this
      omega
    have hWn : nl W ≤ W.length := by have := nl_le W; omega
    have hpre : wnd v [] ((m, j) :: B) = wnd v W C := by
      rw [hB]
      have := wnd_pre (v := v) (C := C) (W := W) (W0 := []) hn (fun W1 b W2 h => by rw [List.nil_append]; exact hs W1 b W2 h)
      rw [List.nil_append] at this
      exact this
    -- the turn's end
    have fin : ∀ σ2 st2, chg [1, 2, 4, 5] [11, 12, 14, 15, 17] σ σ2 → bC σ2 st2 → stL K st2 → advS v A ((m, j) :: B) st = st2 → jp_X0_search_210 (lnC Hd N K) post (lp_X0_search_23 (lnC Hd N K) post (fun σ => post σ) (nI v) (nI (4 * gf bs)) (B.length + 1)) σ2 (nI v) (nI (4 * gf bs)) (nI (A.length + W.length)) (nI (4 * tot W)) (nI (nl W)) (nI A.length) := by
      intro σ2 st2 hO2 hb2 hsl2 hst
      have hR2 : RC σ2 bs := hO2.RC hR (by decide) (by decide) (by decide) (by decide)
      have hp2 : ∀ σ', chg [1, 2, 4, 5] [11, 12, 14, 15, 17] σ σ' → bC σ' (advL v (A ++ [(m, j)]) B st2) → post σ' := by
        intro σ' q1 q2
        refine hp σ' q1 ?_
        rw [advL, hst]
        exact q2
      refine ⟨fun q => ?_, fun q => ⟨g2, g2, ?_⟩⟩
      · rw [nI_leI (by omega) (by omega)] at q
        have hW0 : W = [] := List.eq_nil_of_length_eq_zero (by omega)
        subst hW0
        rw [g3]
        refine lpx_search hv1 hv hK hR hS hM hl B (A ++ [(m, j)]) [] B σ2 st2 _ (app_one hb) rfl (fun b h => by cases h) (fun W1 b W2 h => absurd h.symm (by simp)) hO2 hb2 hsl2 ?_ hp2
        rw [if_pos]
        · simp
        · rw [nI_ltI (by simp; omega) (by simp; omega)]; simp
      · rw [nI_leI (by omega) (by omega)] at q
        cases W with
        | nil => simp at q
        | cons b W =>
          rw [List.cons_append] at hB
          injection hB with e1 e2
          subst e1
          have hA1 : (A ++ [(m, j)]).length = A.length + 1 := by simp
          have next : lp_X0_search_23 (lnC Hd N K) post (fun σ => post σ) (nI v) (nI (4 * gf bs)) (B.length + 1) σ2 (nI (A.length + (W.length + 1))) (nI (4 * tot W)) (nI (nl W)) (nI (A ++ [(m, j)]).length) := by
            refine lpx_search hv1 hv hK hR hS hM hl B (A ++ [(m, j)]) W C σ2 st2 _ (app_one hb) e2 (fun b h => hn b (List.mem_cons_of_mem _ h)) (fun W1 b W2 h => ?_) hO2 hb2 hsl2 ?_ hp2
            · have := hs ((m, j) :: W1) b W2 (by rw [h]; rfl)
              rw [tot_cons] at this
              omega
            · rw [List.length_cons] at hWl
              rw [if_neg]
              · rw [hA1, show A.length + (W.length + 1) = A.length + 1 + W.length by omega]
              · rw [nI_ltI (by omega) (by rw [hA1]; omega), hA1]; omega
          rw [r4 hR2 hS hb, r5 hR2 hS hb, g3, List.length_cons, tot_cons]
          have e4 : nI (4 * (((m, j) : Blk).1 + tot W)) - nI (4 * m) = nI (4 * tot W) := by
            rw [pk_sub (by show 4 * m ≤ 4 * (m + tot W); omega)]
            exact congrArg nI (by show 4 * (m + tot W) - 4 * m = _; omega)
          rw [e4, nl]
          refine ⟨fun hk => ?_, fun hk => ?_⟩
          · have hj1 : ¬ j = 1 := fun e => hk (by rw [e]; rfl)
            rw [if_neg (show ¬ ((m, j) : Blk).2 = 1 from hj1), iLit 0, pk_sub (by omega), Nat.sub_zero, Nat.zero_add]
            exact next
          · have hj1 : j = 1 := by
              rw [iLit 1, nI_eq (by omega) (by decide)] at hk
              exact hk
            rw [if_pos (show ((m, j) : Blk).2 = 1 from hj1), iLit 1, pk_sub (by omega), show 1 + nl W - 1 = nl W by omega]
            exact next
    have off : advS v A ((m, j) :: B) st = st → jp_X0_search_134 (lnC Hd N K) post (lp_X0_search_23 (lnC Hd N K) post (fun σ => post σ) (nI v) (nI (4 * gf bs)) (B.length + 1)) σ1 (nI v) (nI (4 * gf bs)) (nI (A.length + W.length)) (nI (4 * tot W)) (nI (nl W)) (nI A.length) 0 := by
      intro hst
      have h := fin σ1 st hO hbc hsl hst
      exact ⟨fun _ => ⟨fun _ => h, fun q => absurd rfl q⟩, fun _ => ⟨fun _ => ⟨fun _ => h, fun q => absurd rfl q⟩, fun _ => ⟨fun _ => h, fun q => absurd rfl q⟩⟩⟩
    rw [nI_nltI (by omega) hv, nI_nltI (by omega) (by omega)]
    refine ⟨fun q => off (advS_none ?_), fun q => ?_⟩
    · rcases hw with h | h
      · omega
      · rw [hpre]; exact h
    · have hwnd : wnd v [] ((m, j) :: B) = some (W, C) := by
        rw [hpre]
        cases C with
        | nil => rw [wnd, if_pos (by omega)]
        | cons c C => rw [wnd, if_pos (by omega)]
      have hb2 : bs = A ++ (W ++ C) := by rw [hb, hB]
      have hnp : noPin W := fun x hx => by
        have q1 := hn x hx
        have q2 := (hS.2.1 x (by rw [hb2]; simp [hx])).2
        omega
      refine ⟨fun q2 => off (advS_no hwnd (pl_prune hnp (by rw [← hb2]; omega))), fun q2 => ?_⟩
      -- the victims are placed
      have yes : fewer (srt [] (vic A.length (tot A) W)) st → jp_X0_search_160 (lnC Hd N K) post (lp_X0_search_23 (lnC Hd N K) post (fun σ => post σ) (nI v) (nI (4 * gf bs)) (B.length + 1)) σ1 (nI v) (nI (4 * gf bs)) (nI (A.length + W.length)) (nI (4 * tot W)) (nI (nl W)) (nI A.length) 1 1 := by
        intro hf
        refine ⟨fun q => absurd q (by decide), fun _ => ⟨fun q => absurd q (by decide), fun _ => ?_⟩⟩
        have hM1 : MV σ1 (srt [] (vic 0 0 bs)) := ⟨(hO.1 3 (by decide)).trans hM.1, by rw [hO.2 16 (by decide)]; exact hM.2⟩
        refine s_place hK hR1 hS hb2 hM1 hl (fun ts hts σ2 hO2 hT => ⟨fun q => absurd q (by decide), fun _ => ⟨g2, ?_⟩⟩) (fun hts σ2 hO2 => ⟨fun _ => ?_, fun q => absurd rfl q⟩)
        · have hO3 : chg [1, 2, 4, 5] [11, 12, 14, 15, 17] σ σ2 := hO.tr (hO2.w (by simp) (by simp))
          have hR2 : RC σ2 bs := hO3.RC hR (by decide) (by decide) (by decide) (by decide)
          rw [r3 hR2 hS hb]
          have hsK : (srt [] (vic A.length (tot A) W)).length ≤ K := by
            rw [srt_len, vic_len]
            have : nl bs = nl A + (nl W + nl C) := by rw [hb2, nl_app, nl_app]
            simp
            omega
          refine s_to10 (σ := setF (setF σ2 1 1) 2 (nI (4 + 4 * tot A))) hK (TG_other hT rfl rfl rfl) hsK (fun σ3 hO4 hT3 => ?_)
          · refine fin σ3 (some (tot A, srt [] (vic A.length (tot A) W), ts)) (((hO3.F (k := 1) 1 (by decide)).F (k := 2) (nI (4 + 4 * tot A)) (by decide)).tr (hO4.w (by simp) (by simp))) ⟨?_, ?_, hT3⟩ (fun z hz => by injection hz with hz; rw [← hz]; exact hsK) (advS_yes hwnd hf hts)
            · rw [hO4.1 1 (by decide)]; rfl
            · rw [hO4.1 2 (by decide)]; rfl
        · refine fin σ2 st (hO.tr (hO2.w (by simp) (by simp))) (bC_other hbc (hO2.1 1 (by decide)) (hO2.1 2 (by decide)) (hO2.1 4 (by decide)) (hO2.2 11 (by decide)) (hO2.2 12 (by decide))) hsl (advS_no hwnd hts)
      have hlv : (srt [] (vic A.length (tot A) W)).length = nl W := by rw [srt_len, vic_len]; simp
      cases hst : st with
      | none =>
        rw [hst] at hbc yes
        exact ⟨fun _ => yes trivial, fun q => absurd hbc.1 q⟩
      | some z =>
        obtain ⟨g, vs, ts⟩ := z
        rw [hst] at hbc yes fin hsl
        have h10 : ¬ σ1.1 1 = 0 := by rw [hbc.1]; decide
        have hvl : σ1.1 4 = nI vs.length := hbc.2.2.1
        have hvK : vs.length ≤ K := hsl _ rfl
        refine ⟨fun q => absurd q h10, fun _ => ⟨fun q => ?_, fun q => ?_⟩⟩
        · rw [hvl, nI_leI (by omega) (by omega)] at q
          refine ⟨fun q9 => absurd q9 (by decide), fun _ => ⟨fun _ => fin σ1 _ hO hbc hsl (advS_few hwnd (fun hf => ?_)), fun q9 => absurd rfl q9⟩⟩
          have hf' : nl W < vs.length := by rw [← hlv]; exact hf
          omega
        · refine yes ?_
          show (srt [] (vic A.length (tot A) W)).length < vs.length
          rw [hvl, nI_leI (by omega) (by omega)] at q
          omega
theorem s_search {post : CS → Prop} {v : Nat} (hv1 : 1 ≤ v) (hv : v < 2 ^ 31) (hK : K ≤ 1023) (hR : RC σ bs) (hS : shp N bs) (hl : nl bs ≤ K) (h1 : σ.1 1 = 0) (h4 : σ.1 4 = 0) (hp : ∀ σ', chg [1, 2, 3, 4, 5] [11, 12, 14, 15, 16, 17] σ σ' → bC σ' (advL v [] bs none) → post σ') : wp_X0_search (lnC Hd N K) σ (nI v) post := by
  refine s_rank hK hR hS hl (fun σ1 hO hM => ?_)
  have hR1 : RC σ1 bs := hO.RC hR (by decide) (by decide) (by decide) (by decide)
  refine s_freeWords hR1 hS ⟨bs.length + 1, ?_⟩
  exact lpx_search (σ := σ1) (post := post) hv1 hv hK hR1 hS hM hl bs [] [] bs σ1 none 0 rfl rfl (fun b h => by cases h) (fun W1 b W2 h => absurd h.symm (by simp)) chg.rf ⟨(hO.1 1 (by decide)).trans h1, (hO.1 4 (by decide)).trans h4⟩ (fun a h => by cases h) rfl (fun σ' q1 q2 => hp σ' ((hO.w (by simp) (by simp)).tr (q1.w (by simp) (by simp))) q2)
theorem C_advise {post : Int32 → CS → Prop} {p : Int32} (hN : K = min N 128) (hR : RC σ bs) (hS : shp N bs)
    (h1 : p < 1 → post (-1) (setF (setF σ 1 0) 4 0))
    (h2 : ¬ p < 1 → 128 < bs.length - nf bs → post (-1) (setF (setF σ 1 0) 4 0))
    (h3 : ∀ v, 1 ≤ v → v < 2 ^ 31 → p = nI v → bs.length - nf bs ≤ 128 → ∀ σ', chg [1, 2, 3, 4, 5] [11, 12, 14, 15, 16, 17] σ σ' → bC σ' (advL v [] bs none) → post (advI (advL v [] bs none)) σ') : wp_X4_advise (lnC Hd N K) σ p post := by
  have hbl := shp_len hS
  have hnl := nl_le bs
  have hR' : RC (setF (setF σ 1 0) 4 0) bs := RC_other hR rfl rfl rfl rfl
  refine ⟨h1, fun hp => s_liveBlocks hR' hS ?_⟩
  rw [iLit 128, nI_nleI (by omega) (by decide)]
  refine ⟨fun hle => ?_, fun hgt => h2 hp (by omega)⟩
  obtain ⟨v, hv1, hv, rfl⟩ := ge1 (p := p) (by rw [ge1_not] at hp; exact Classical.not_not.mp hp)
  refine s_search hv1 hv (by omega) hR' hS (by omega) rfl rfl (fun σ' hO hb => ?_)
  have h := h3 v hv1 hv rfl hle σ' (((chg.rf.F (k := 1) (0 : Int32) (by decide)).F (k := 4) (0 : Int32) (by decide)).tr hO) hb
  cases hst : advL v [] bs none with
  | none =>
    rw [hst] at hb h
    exact ⟨fun _ => h, fun q => absurd hb.1 q⟩
  | some z =>
    obtain ⟨g, vs, ts⟩ := z
    rw [hst] at hb h
    refine ⟨fun q => absurd q (by rw [hb.1]; decide), fun _ => ?_⟩
    rw [hb.2.2.1]
    exact h
end CADV
