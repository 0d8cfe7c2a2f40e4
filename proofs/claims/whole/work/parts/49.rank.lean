/-! PURE: the class's order of movables. -/
def AR (enc : Vic → Int32) (f : Nat → Int32) (l : List Vic) : Prop := ∀ a x b, l = a ++ x :: b → f a.length = enc x
def GP (enc : Vic → Int32) (f : Nat → Int32) (l1 l2 : List Vic) : Prop := AR enc f l1 ∧ ∀ a x b, l2 = a ++ x :: b → f (l1.length + 1 + a.length) = enc x
section GAP
variable {enc : Vic → Int32} {f : Nat → Int32} {l1 l2 M : List Vic} {x : Vic}
theorem GP_0 (h : AR enc f l1) : GP enc f l1 [] := ⟨h, fun a x b q => absurd q.symm (by simp)⟩
theorem GP_shift (h : GP enc f (M ++ [x]) l2) : GP enc (upd f (M.length + 1) (f M.length)) M (x :: l2) := by
  refine ⟨fun a y b q => ?_, fun a y b q => ?_⟩
  · have hl : a.length < M.length := by rw [q]; simp
    rw [upd_at, if_neg (by omega)]
    exact h.1 a y (b ++ [x]) (by rw [q]; simp)
  · cases a with
    | nil =>
      injection q with q1 q2
      rw [upd_at, if_pos (by simp), ← q1]
      exact h.1 M x [] (by simp)
    | cons z a =>
      injection q with q1 q2
      have := h.2 a y b q2
      rw [upd_at, if_neg (by simp), List.length_cons]
      rw [List.length_append, List.length_cons, List.length_nil] at this
      rw [show M.length + 1 + (a.length + 1) = M.length + (0 + 1) + 1 + a.length by omega]
      exact this
theorem GP_fill (h : GP enc f l1 l2) : AR enc (upd f l1.length (enc x)) (l1 ++ x :: l2) := by
  intro a y b q
  rcases sp_cases q.symm with ⟨c, h1, h2⟩ | ⟨c, h1, h2⟩
  · have hl : a.length < l1.length := by rw [h1]; simp
    rw [upd_at, if_neg (by omega)]
    exact h.1 a y c h1
  · rcases sp_cons h2.symm with ⟨rfl, h3, h4⟩ | ⟨c2, rfl, h3⟩
    · rw [List.append_nil] at h1
      rw [upd_at, if_pos (by rw [h1]), h3]
    · have hl : a.length = l1.length + 1 + c2.length := by rw [h1]; simp; omega
      rw [upd_at, if_neg (by omega), hl]
      exact h.2 c2 y b h3
end GAP
/-- what may have changed: numbers, rows -/
def chg (ns rs : List Nat) (σ σ' : CS) : Prop := (∀ k, k ∉ ns → σ'.1 k = σ.1 k) ∧ ∀ k, k ∉ rs → σ'.2 k = σ.2 k
theorem chg.rf {ns rs : List Nat} {σ : CS} : chg ns rs σ σ := ⟨fun _ _ => rfl, fun _ _ => rfl⟩
theorem chg.tr {ns rs : List Nat} {a b c : CS} (h : chg ns rs a b) (h2 : chg ns rs b c) : chg ns rs a c := ⟨fun k hk => (h2.1 k hk).trans (h.1 k hk), fun k hk => (h2.2 k hk).trans (h.2 k hk)⟩
theorem chg.F {ns rs : List Nat} {a b : CS} (h : chg ns rs a b) {k : Nat} (v : Int32) (hk : k ∈ ns) : chg ns rs a (setF b k v) := ⟨fun j hj => by rw [setF_1, if_neg (fun e => hj (by rw [e]; exact hk))]; exact h.1 j hj, h.2⟩
theorem chg.A {ns rs : List Nat} {a b : CS} (h : chg ns rs a b) {k : Nat} (i : Nat) (v : Int32) (hk : k ∈ rs) : chg ns rs a (setA b k i v) := ⟨h.1, fun j hj => by rw [setA_2, if_neg (fun e => hj (by rw [e]; exact hk))]; exact h.2 j hj⟩
theorem chg.w {ns rs ns' rs' : List Nat} {a b : CS} (h : chg ns rs a b) (h1 : ∀ k, k ∈ ns → k ∈ ns') (h2 : ∀ k, k ∈ rs → k ∈ rs') : chg ns' rs' a b := ⟨fun k hk => h.1 k (fun q => hk (h1 k q)), fun k hk => h.2 k (fun q => hk (h2 k q))⟩
theorem chg.RC {ns rs : List Nat} {a b : CS} {bs : List Blk} (h : chg ns rs a b) (hR : RC a bs) (h0 : 0 ∉ ns) (h3 : 3 ∉ rs) (h4 : 4 ∉ rs) (h5 : 5 ∉ rs) : RC b bs := RC_other hR (h.1 0 h0) (h.2 3 h3) (h.2 4 h4) (h.2 5 h5)
def VB (bs : List Blk) (x : Vic) : Prop := ∃ P Q, bs = P ++ (x.2.2, 1) :: Q ∧ P.length = x.1 ∧ tot P = x.2.1
def MV (σ : CS) (ms : List Vic) : Prop := σ.1 3 = nI ms.length ∧ AR (fun x => nI x.1) (σ.2 16) ms
section RANK
variable {Hd N K : Nat} {σ : CS} {bs A B : List Blk} {n k m : Nat}
theorem lpx_48 {post : CS → Prop} {Kx : CS → Int32 → Prop} {L : List Vic} (hK : K ≤ 1023) (hR : RC σ bs) (hS : shp N bs) (hb : bs = A ++ (m, 1) :: B) (hL : L.length < K) (hV : ∀ x, x ∈ L → VB bs x)
    (hp : ∀ l1 l2 σ2, l1 ++ l2 = L → chg [] [16] σ σ2 → GP (fun x => nI x.1) (σ2.2 16) l1 l2 → (∀ y, y ∈ l2 → y.2.2 < m) → (∀ l y, l1 = l ++ [y] → m ≤ y.2.2) → Kx σ2 (nI l1.length)) :
    ∀ (len : Nat) (l1 l2 : List Vic) (σ1 : CS), l1.length = len → l1 ++ l2 = L → chg [] [16] σ σ1 → GP (fun x => nI x.1) (σ1.2 16) l1 l2 → (∀ y, y ∈ l2 → y.2.2 < m) → ∃ c, lp_X0_rankMovables_48 (lnC Hd N K) post Kx (nI A.length) c σ1 (nI l1.length)
  | 0, l1, l2, σ1, hl, hLL, hO, hG, hs => by
    have h0 : l1 = [] := List.eq_nil_of_length_eq_zero hl
    subst h0
    exact ⟨1, fun _ => hp [] l2 σ1 hLL hO hG hs (fun l y q => absurd q.symm (by simp)), fun q => absurd (by decide) q⟩
  | len + 1, l1, l2, σ1, hl, hLL, hO, hG, hs => by
    rcases lst l1 with h0 | ⟨M, x, h0⟩
    · rw [h0] at hl; simp at hl
    · have a := shp_at (by rw [hb] at hS; exact hS)
      have hR1 : RC σ1 bs := hO.RC hR (by decide) (by decide) (by decide) (by decide)
      have hM : M.length = len := by rw [h0] at hl; simpa using hl
      have hLK : M.length + 1 < K := by rw [← hLL, h0] at hL; simp at hL; omega
      obtain ⟨P, Q, q1, q2, q3⟩ := hV x (by rw [← hLL, h0]; simp)
      have a2 := shp_at (by rw [q1] at hS; exact hS)
      have e1 : nI l1.length - 1 = nI M.length := by rw [h0, List.length_append]; exact nI_pred _
      have e2 : nI l1.length + (-1) = nI M.length := by rw [subm]; exact e1
      have e3 : (nI l1.length).toNatClampNeg = M.length + 1 := by rw [nI_clamp (by rw [h0]; simp; omega), h0]; simp
      have hpos : ¬ nI l1.length ≤ 0 := nI_nle (by omega) (by rw [h0]; simp; omega)
      have hx : σ1.2 16 M.length = nI P.length := by rw [q2]; exact hG.1 M x [] (by rw [h0])
      by_cases hc : m ≤ x.2.2
      · have hcc := hp l1 l2 σ1 hLL hO hG hs (fun l' y q => by
          have := List.append_inj' (h0.symm.trans q) rfl
          injection this.2 with q2
          rw [← q2]; exact hc)
        refine ⟨1, fun q => absurd q hpos, fun _ => ?_⟩
        rw [e1, r4 hR1 hS hb, nI_clamp (by omega), hx, r4 hR1 hS q1, nI_nleI (by omega) (by omega)]
        exact ⟨(vpI (by omega)).mpr (by show _ < K; omega), (c_go hR1 hS q1).2.1, (c_go hR1 hS hb).2.1, fun _ => hcc, fun q => absurd (by omega) q⟩
      · have hG' : GP (fun x => nI x.1) (setA σ1 16 (M.length + 1) (nI P.length) |>.2 16) M (x :: l2) := by
          rw [h0] at hG
          have := GP_shift hG
          rw [hx] at this
          simp only [setA_2, if_true]
          exact this
        obtain ⟨c, hcc⟩ := lpx_48 (post := post) hK hR hS hb hL hV hp len M (x :: l2) (setA σ1 16 (M.length + 1) (nI P.length)) hM (by rw [← hLL, h0]; simp) (hO.A _ _ (by decide)) hG' (fun y hy => by
          rcases List.mem_cons.mp hy with rfl | hy
          · omega
          · exact hs y hy)
        refine ⟨c + 1, fun q => absurd q hpos, fun _ => ?_⟩
        rw [e1, e2, e3, r4 hR1 hS hb, nI_clamp (by omega), hx, r4 hR1 hS q1, nI_nleI (by omega) (by omega)]
        refine ⟨(vpI (by omega)).mpr (by show _ < K; omega), (c_go hR1 hS q1).2.1, (c_go hR1 hS hb).2.1, fun q => absurd q (by omega), fun _ => ⟨?_, hcc⟩⟩
        rw [h0, List.length_append]
        exact (vpI (by simp; omega)).mpr (by show _ < K; simp; omega)
theorem vic_nil {l : List Blk} {i g : Nat} (h : nl l = 0) : vic i g l = [] := List.eq_nil_of_length_eq_zero (by rw [vic_len, h])
theorem lpx_rank {post : CS → Prop} (hK : K ≤ 1023) (hR : RC σ bs) (hS : shp N bs) :
    ∀ (B A : List Blk) (acc : List Vic) (σ1 : CS), bs = A ++ B → chg [3] [16] σ σ1 → MV σ1 acc → dsc acc → (∀ x, x ∈ acc → VB bs x) → acc.length + nl B ≤ K → (∀ σ', chg [3] [16] σ σ' → MV σ' (srt acc (vic A.length (tot A) B)) → post σ') → lp_X0_rankMovables_7 (lnC Hd N K) post (fun σ => post σ) (B.length + 1) σ1 (nI A.length)
  | [], A, acc, σ1, hb, hO, hM, hd, hV, hl, hp => by
    have hR1 : RC σ1 bs := hO.RC hR (by decide) (by decide) (by decide) (by decide)
    exact ⟨fun _ => hp σ1 hO hM, fun q => absurd (c_end hR1 hb) q⟩
  | (m, j) :: B, A, acc, σ1, hb, hO, hM, hd, hV, hl, hp => by
    have a := shp_at (by rw [hb] at hS; exact hS)
    have hR1 : RC σ1 bs := hO.RC hR (by decide) (by decide) (by decide) (by decide)
    obtain ⟨g1, g2, g3⟩ := c_go hR1 hS hb
    have hA1 : (A ++ [(m, j)]).length = A.length + 1 := by simp
    have hA2 : tot (A ++ [(m, j)]) = tot A + m := by rw [tot_app, tot_cons, tot_nil]; show tot A + (m + 0) = _; omega
    refine ⟨fun q => absurd q g1, fun _ => ⟨fun hfull => ?_, fun hfull => ⟨g2, fun hk => ?_, fun hk => ?_⟩⟩⟩
    · have hfull : nI K ≤ σ1.1 3 := hfull
      rw [hM.1, nI_leI (by omega) (by omega)] at hfull
      have : nl ((m, j) :: B) = 0 := by omega
      rw [vic_nil this] at hp
      exact hp σ1 hO hM
    · have hj : ¬ j = 1 := fun e => hk (by rw [r5 hR1 hS hb, e]; rfl)
      rw [nl, if_neg (show ¬ (m, j).2 = 1 from hj)] at hl
      rw [vic, if_neg (show ¬ (m, j).2 = 1 from hj)] at hp
      rw [g3]
      exact lpx_rank hK hR hS B (A ++ [(m, j)]) acc σ1 (app_one hb) hO hM hd hV (by omega) (by rw [hA1, hA2]; exact hp)
    · have hj : j = 1 := by
        rw [r5 hR1 hS hb, iLit 1, nI_eq (by omega) (by decide)] at hk
        exact hk
      subst hj
      rw [nl, if_pos (show (m, 1).2 = 1 from rfl)] at hl
      rw [vic, if_pos (show (m, 1).2 = 1 from rfl), srt] at hp
      rw [g3, hM.1]
      refine lpx_48 (post := post) (L := acc) hK hR1 hS hb (by omega) hV (fun l1 l2 σ2 hLL hO2 hG s1 s2 => ?_) acc.length acc [] σ1 rfl (by simp) chg.rf (GP_0 hM.2) (fun y hy => by cases hy)
      have hl1 : l1.length ≤ acc.length := by rw [← hLL]; simp
      refine ⟨(vpI (by omega)).mpr (by show _ < K; omega), ?_⟩
      have hins : ins (A.length, tot A, m) acc = l1 ++ (A.length, tot A, m) :: l2 := by
        rw [← hLL]
        exact ins_end s1 (by rw [hLL]; exact hd) s2
      refine lpx_rank hK hR hS B (A ++ [(m, 1)]) (ins (A.length, tot A, m) acc) _ (app_one hb) ?_ ⟨?_, ?_⟩ (ins_dsc hd) (fun x hx => ?_) (by rw [ins_len]; omega) (by rw [hA1, hA2]; exact hp)
      · exact ((hO.tr (hO2.w (by simp) (by simp))).A _ _ (by decide)).F _ (by decide)
      · simp only [setF_1, if_true, setA_1]
        rw [hO2.1 3 (by decide), hM.1, nI_1, ins_len]
      · simp only [setF_2, setA_2, if_true]
        rw [nI_clamp (by omega), hins]
        exact GP_fill (enc := fun x => nI x.1) (x := (A.length, tot A, m)) hG
      · rcases ins_mem.mp hx with rfl | hx
        · exact ⟨A, B, hb, rfl, rfl⟩
        · exact hV x hx
theorem s_rank {post : CS → Prop} (hK : K ≤ 1023) (hR : RC σ bs) (hS : shp N bs) (hl : nl bs ≤ K) (hp : ∀ σ', chg [3] [16] σ σ' → MV σ' (srt [] (vic 0 0 bs)) → post σ') : wp_X0_rankMovables (lnC Hd N K) σ post :=
  ⟨bs.length + 1, lpx_rank (σ := σ) hK hR hS bs [] [] (setF σ 3 0) rfl (chg.rf.F _ (by decide)) ⟨rfl, fun a x b q => absurd q.symm (by simp)⟩ trivial (fun x hx => by cases hx) (by simpa using hl) hp⟩
end RANK
