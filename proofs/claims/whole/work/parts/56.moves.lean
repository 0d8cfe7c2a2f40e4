/-! PURE: what moves do to the blocks. -/
theorem norm_cj (b : Blk) (l X : List Blk) : norm (cj b l ++ X) = cj b (norm (l ++ X)) := by
  cases l with
  | nil => rfl
  | cons c l =>
    show norm ((if b.2 = 0 ∧ c.2 = 0 then (b.1 + c.1, 0) :: l else b :: c :: l) ++ X) = norm (b :: c :: (l ++ X))
    by_cases h : b.2 = 0 ∧ c.2 = 0
    · rw [if_pos h]
      obtain ⟨b1, b2⟩ := b
      obtain ⟨c1, c2⟩ := c
      obtain ⟨h1, h2⟩ := h
      have h1 : b2 = 0 := h1
      have h2 : c2 = 0 := h2
      subst h1 h2
      exact (norm_two [] (l ++ X) b1 c1).symm
    · rw [if_neg h]; rfl
theorem norm_l (X : List Blk) : ∀ P : List Blk, norm (norm P ++ X) = norm (P ++ X)
  | [] => rfl
  | b :: P => by rw [norm, norm_cj, norm_l X P]; rfl
theorem norm_r (X : List Blk) : ∀ P : List Blk, norm (P ++ norm X) = norm (P ++ X)
  | [] => norm_id (nadj_norm X)
  | b :: P => by show cj b (norm (P ++ norm X)) = cj b (norm (P ++ X)); rw [norm_r X P]
theorem cj_live {b : Blk} {m k : Nat} {Z : List Blk} (hk : k ≠ 0) (l : List Blk) : cj b (l ++ (m, k) :: Z) = cj b l ++ (m, k) :: Z := by
  cases l with
  | nil => show (if b.2 = 0 ∧ k = 0 then _ else _) = _; rw [if_neg (fun q => hk q.2)]; rfl
  | cons c l =>
    show (if b.2 = 0 ∧ c.2 = 0 then _ else _) = (if b.2 = 0 ∧ c.2 = 0 then _ else _) ++ _
    by_cases h : b.2 = 0 ∧ c.2 = 0
    · rw [if_pos h, if_pos h]; rfl
    · rw [if_neg h, if_neg h]; rfl
theorem norm_live {m k : Nat} {Q : List Blk} (hk : k ≠ 0) : ∀ P : List Blk, norm (P ++ (m, k) :: Q) = norm P ++ (m, k) :: norm Q
  | [] => norm_keep (fun _ _ _ => hk)
  | b :: P => by show cj b (norm (P ++ (m, k) :: Q)) = cj b (norm P) ++ _; rw [norm_live hk P, cj_live hk]
theorem norm_rel (P Q : List Blk) (m : Nat) : norm (norm P ++ (m, 0) :: norm Q) = norm (P ++ (m, 0) :: Q) := by
  rw [norm_l, show P ++ (m, 0) :: norm Q = (P ++ [(m, 0)]) ++ norm Q by simp, norm_r]
  simp
theorem nadj_gv {A B : List Blk} {d m n : Nat} (hj : nadj (A ++ (n, 0) :: B)) : nadj (A ++ gvn d m n B) := by
  obtain ⟨h1, h2, h3⟩ := nadj_app.mp hj
  have hB : nadj (if d + m < n then (n - d - m, 0) :: B else B) := by
    by_cases h : d + m < n
    · rw [if_pos h]; exact ⟨fun c l' hc q => h2.1 c l' hc ⟨rfl, q.2⟩, h2.2⟩
    · rw [if_neg h]; exact h2.2
  unfold gvn
  by_cases hd : 0 < d
  · rw [if_pos hd]
    refine nadj_app.mpr ⟨h1, ⟨fun c l' hc q => ?_, fun c l' hc q => absurd q.1 (show ¬ (1 : Nat) = 0 by decide), hB⟩, fun A' b c B' ha hb q => ?_⟩
    · injection hc with e1 e2
      rw [← e1] at q
      exact absurd q.2 (show ¬ (1 : Nat) = 0 by decide)
    · injection hb with e1 e2
      rw [← e1] at q
      exact h3 A' b (n, 0) B ha rfl ⟨q.1, rfl⟩
  · rw [if_neg hd]
    refine nadj_app.mpr ⟨h1, ⟨fun c l' hc q => absurd q.1 (show ¬ (1 : Nat) = 0 by decide), hB⟩, fun A' b c B' ha hb q => ?_⟩
    injection hb with e1 e2
    rw [← e1] at q
    exact absurd q.2 (show ¬ (1 : Nat) = 0 by decide)
theorem gvn_app (d m n : Nat) (B X : List Blk) : gvn d m n (B ++ X) = gvn d m n B ++ X := by
  unfold gvn
  by_cases h : d + m < n
  · rw [if_pos h, if_pos h]; simp
  · rw [if_neg h, if_neg h]; simp
/-- a block for m groups is put at a group, where a free one begins -/
def putB (m : Nat) : Nat → List Blk → List Blk
  | _, [] => []
  | t, b :: l => if t = 0 then gvn 0 m b.1 l else b :: putB m (t - b.1) l
theorem putB_at {m n : Nat} {Q : List Blk} : ∀ {P : List Blk}, okB P → putB m (tot P) (P ++ (n, 0) :: Q) = P ++ gvn 0 m n Q
  | [], _ => rfl
  | b :: P, h => by
    have h1 := okB_cons.mp h
    rw [List.cons_append, putB, tot_cons, if_neg (by omega), show b.1 + tot P - b.1 = tot P by omega, putB_at h1.2]
    rfl
/-- the blocks that begin at certain groups are free -/
def mk (S : List Nat) : Nat → List Blk → List Blk
  | _, [] => []
  | g, b :: l => (b.1, if g ∈ S then 0 else b.2) :: mk S (g + b.1) l
theorem mk_app (S : List Nat) (B : List Blk) : ∀ (A : List Blk) (g : Nat), mk S g (A ++ B) = mk S g A ++ mk S (g + tot A) B
  | [], g => rfl
  | a :: A, g => by rw [List.cons_append, mk, mk, mk_app S B A, tot_cons, Nat.add_assoc]; rfl
theorem mk_tot (S : List Nat) : ∀ (l : List Blk) (g : Nat), tot (mk S g l) = tot l
  | [], g => rfl
  | a :: A, g => by rw [mk, tot_cons, tot_cons, mk_tot S A]
theorem mk_okB {S : List Nat} : ∀ {l : List Blk} {g : Nat}, okB l → okB (mk S g l)
  | [], g, h => okB_nil
  | a :: A, g, h => by
    have h1 := okB_cons.mp h
    rw [mk]
    refine okB_cons.mpr ⟨⟨h1.1.1, ?_⟩, mk_okB h1.2⟩
    show (if g ∈ S then 0 else a.2) ≤ 2
    split
    · omega
    · exact h1.1.2
theorem mk_out {S : List Nat} : ∀ {l : List Blk} {g : Nat}, okB l → (∀ s, s ∈ S → s < g ∨ g + tot l ≤ s) → mk S g l = l
  | [], g, _, _ => rfl
  | a :: A, g, h, hs => by
    have h1 := okB_cons.mp h
    rw [tot_cons] at hs
    rw [mk, if_neg (fun q => by have := hs g q; omega), mk_out h1.2 (fun s q => by have := hs s q; omega)]
theorem mk_ne {S : List Nat} {s : Nat} : ∀ {l : List Blk} {g : Nat}, okB l → (s < g ∨ g + tot l ≤ s) → mk (S ++ [s]) g l = mk S g l
  | [], g, _, _ => rfl
  | a :: A, g, h, hs => by
    have h1 := okB_cons.mp h
    rw [tot_cons] at hs
    rw [mk, mk, mk_ne h1.2 (by omega)]
    congr 2
    by_cases q : g ∈ S
    · rw [if_pos q, if_pos (List.mem_append_left _ q)]
    · rw [if_neg q, if_neg]
      intro q2
      rcases List.mem_append.mp q2 with q2 | q2
      · exact q q2
      · rcases List.mem_cons.mp q2 with rfl | q2
        · omega
        · cases q2
theorem mk_one {S : List Nat} {g m k : Nat} {W1 W2 : List Blk} (h : okB (W1 ++ (m, k) :: W2)) : mk (S ++ [g + tot W1]) g (W1 ++ (m, k) :: W2) = mk S g W1 ++ (m, 0) :: mk S (g + tot W1 + m) W2 := by
  obtain ⟨h1, h2⟩ := okB_app.mp h
  have h3 := okB_cons.mp h2
  have h4 : 1 ≤ m := h3.1.1
  rw [mk_app, mk_ne h1 (Or.inr (Nat.le_refl _)), mk]
  show _ ++ (m, _) :: mk _ (g + tot W1 + m) W2 = _
  rw [mk_ne h3.2 (Or.inl (by omega)), if_pos (by simp)]
theorem mk_was {S : List Nat} {g m k : Nat} {W1 W2 : List Blk} (h : g + tot W1 ∉ S) : mk S g (W1 ++ (m, k) :: W2) = mk S g W1 ++ (m, k) :: mk S (g + tot W1 + m) W2 := by
  rw [mk_app, mk]
  show _ ++ (m, if g + tot W1 ∈ S then 0 else k) :: _ = _
  rw [if_neg h]
theorem mk_none : ∀ (l : List Blk) (g : Nat), mk [] g l = l
  | [], _ => rfl
  | b :: l, g => by rw [mk, mk_none l]; simp
/-- the blocks over their places -/
def Xp : List Blk → List Blk → Prop
  | [], cs => cs = []
  | x :: ps, cs => ∃ D cs', cs = D ++ cs' ∧ tot D = x.1 ∧ (x.2 = 0 ∨ ∃ D', D = D' ++ [(x.2, 0)]) ∧ Xp ps cs'
theorem Xp_0 : ∀ l : List Blk, Xp (l.map fF) l
  | [] => rfl
  | b :: l => by
    refine ⟨[b], l, rfl, rfl, ?_, Xp_0 l⟩
    obtain ⟨n, k⟩ := b
    by_cases h : k = 0
    · refine Or.inr ⟨[], ?_⟩
      show [(n, k)] = [(if k = 0 then n else 0, 0)]
      rw [if_pos h, h]
    · refine Or.inl ?_
      show (if k = 0 then n else 0) = 0
      rw [if_neg h]
theorem Xp_tot : ∀ {ps cs : List Blk}, Xp ps cs → tot cs = tot ps
  | [], cs, h => by rw [show cs = [] from h]
  | x :: ps, cs, ⟨D, cs', h1, h2, h3, h4⟩ => by rw [h1, tot_app, h2, Xp_tot h4, tot_cons]
theorem Xp_step {x : Blk} {Q : List Blk} {m : Nat} (hm1 : 1 ≤ m) (hm : m ≤ x.2) : ∀ {P cs : List Blk}, Xp (P ++ x :: Q) cs → ∃ P' Q', cs = P' ++ (x.2, 0) :: Q' ∧ tot P' = tot P + x.1 - x.2 ∧ x.2 ≤ x.1 ∧ Xp (P ++ (x.1, x.2 - m) :: Q) (P' ++ gvn 0 m x.2 Q')
  | [], cs, ⟨D, cs', h1, h2, h3, h4⟩ => by
    rcases h3 with h3 | ⟨D', h3⟩
    · omega
    · have ht : tot D' + x.2 = x.1 := by
        rw [h3, tot_app, tot_cons, tot_nil] at h2
        exact h2
      refine ⟨D', cs', by rw [h1, h3]; simp, by rw [tot_nil]; omega, by omega, D' ++ (m, 1) :: (if m < x.2 then [(x.2 - m, 0)] else []), cs', ?_, ?_, ?_, h4⟩
      · unfold gvn
        rw [if_neg (by omega), Nat.zero_add, Nat.sub_zero]
        by_cases h : m < x.2
        · rw [if_pos h, if_pos h]; simp
        · rw [if_neg h, if_neg h]; simp
      · rw [tot_app, tot_cons]
        by_cases h : m < x.2
        · rw [if_pos h]; show tot D' + (m + (x.2 - m + 0)) = x.1; omega
        · rw [if_neg h]; show tot D' + (m + 0) = x.1; omega
      · by_cases h : m < x.2
        · refine Or.inr ⟨D' ++ [(m, 1)], ?_⟩
          rw [if_pos h]; simp
        · refine Or.inl ?_
          show x.2 - m = 0
          omega
  | y :: P, cs, ⟨D, cs', h1, h2, h3, h4⟩ => by
    obtain ⟨P', Q', e1, e2, e3, e4⟩ := Xp_step hm1 hm h4
    refine ⟨D ++ P', Q', by rw [h1, e1]; simp, by rw [tot_app, tot_cons, h2, e2]; omega, e3, D, P' ++ gvn 0 m x.2 Q', by simp, h2, h3, e4⟩
/-- the state between two moves: the places, the blocks -/
def INV (A W : List Blk) (N : Nat) (ps cs L R : List Blk) : Prop := cs = L ++ (W ++ R) ∧ (∃ pA pC, ps = pA ++ (W.map fZ ++ pC) ∧ Xp pA L ∧ Xp pC R) ∧ tot L = tot A ∧ nadj cs ∧ shp N cs
theorem tot_fZ (W : List Blk) : tot (W.map fZ) = tot W := by
  induction W with
  | nil => rfl
  | cons b W ih => rw [List.map_cons, tot_cons, tot_cons, ih]; rfl
theorem tot_fF (W : List Blk) : tot (W.map fF) = tot W := by
  induction W with
  | nil => rfl
  | cons b W ih => rw [List.map_cons, tot_cons, tot_cons, ih]; rfl
theorem INV_0 {A W C : List Blk} {N : Nat} (hS : shp N (A ++ (W ++ C))) (hj : nadj (A ++ (W ++ C))) : INV A W N (ps0 A W C) (A ++ (W ++ C)) A C := ⟨rfl, ⟨_, _, rfl, Xp_0 A, Xp_0 C⟩, rfl, hj, hS⟩
theorem INV_step {A W : List Blk} {N m t : Nat} {ps cs L R P Q : List Blk} {x : Blk} (h : INV A W N ps cs L R) (hp : ps = P ++ x :: Q) (hm1 : 1 ≤ m) (hm : m ≤ x.2) (ht : t = tot P + x.1 - x.2) :
    ∃ L' R', INV A W N (P ++ (x.1, x.2 - m) :: Q) (putB m t cs) L' R' ∧ ((∃ P' Q', L = P' ++ (x.2, 0) :: Q' ∧ tot P' = t ∧ L' = P' ++ gvn 0 m x.2 Q' ∧ R' = R) ∨ (∃ P' Q', R = P' ++ (x.2, 0) :: Q' ∧ tot L + tot W + tot P' = t ∧ R' = P' ++ gvn 0 m x.2 Q' ∧ L' = L)) := by
  obtain ⟨h1, ⟨pA, pC, h2, h3, h4⟩, h5, h6, h7⟩ := h
  have tA := Xp_tot h3
  rcases sp_cases (hp.symm.trans h2) with ⟨c, e1, e2⟩ | ⟨c, e1, e2⟩
  · rw [e1] at h3
    obtain ⟨P', Q', f1, f2, f3, f4⟩ := Xp_step hm1 hm h3
    have hcs : cs = P' ++ (x.2, 0) :: (Q' ++ (W ++ R)) := by rw [h1, f1]; simp
    have hput : putB m t cs = (P' ++ gvn 0 m x.2 Q') ++ (W ++ R) := by
      rw [hcs, ht, ← f2, putB_at (by have := h7.2.1; rw [hcs] at this; exact (okB_app.mp this).1), gvn_app]
      simp
    have hS' : shp N (P' ++ gvn 0 m x.2 (Q' ++ (W ++ R))) := shp_gv (by rw [← hcs]; exact h7) hm1 (by omega)
    have hj' : nadj (P' ++ gvn 0 m x.2 (Q' ++ (W ++ R))) := nadj_gv (by rw [← hcs]; exact h6)
    have hre : P' ++ gvn 0 m x.2 (Q' ++ (W ++ R)) = putB m t cs := by rw [hput, gvn_app]; simp
    rw [hre] at hS' hj'
    refine ⟨P' ++ gvn 0 m x.2 Q', R, ⟨hput, ⟨P ++ (x.1, x.2 - m) :: c, pC, by rw [e2]; simp, f4, h4⟩, ?_, hj', hS'⟩, Or.inl ⟨P', Q', f1, by rw [f2, ht], rfl, rfl⟩⟩
    have q1 := hS'.1
    have q2 := h7.1
    rw [hput, tot_app] at q1
    rw [h1, tot_app] at q2
    omega
  · rcases sp_cases e2.symm with ⟨c2, e3, e4⟩ | ⟨c2, e3, e4⟩
    · exfalso
      have : x ∈ W.map fZ := by rw [e3]; simp
      obtain ⟨b, -, hb⟩ := List.mem_map.mp this
      have : x.2 = 0 := by rw [← hb]; rfl
      omega
    · rw [e4] at h4
      obtain ⟨P', Q', f1, f2, f3, f4⟩ := Xp_step hm1 hm h4
      have tP : tot P = tot L + tot W + tot c2 := by rw [e1, e3, tot_app, tot_app, tot_fZ, tA]; omega
      have hcs : cs = (L ++ W ++ P') ++ (x.2, 0) :: Q' := by rw [h1, f1]; simp
      have htt : tot (L ++ W ++ P') = t := by rw [tot_app, tot_app, ht, f2, tP]; omega
      have hput : putB m t cs = (L ++ W ++ P') ++ gvn 0 m x.2 Q' := by
        rw [hcs, ← htt, putB_at (by have := h7.2.1; rw [hcs] at this; exact (okB_app.mp this).1)]
      have hS' : shp N ((L ++ W ++ P') ++ gvn 0 m x.2 Q') := shp_gv (by rw [← hcs]; exact h7) hm1 (by omega)
      have hj' : nadj ((L ++ W ++ P') ++ gvn 0 m x.2 Q') := nadj_gv (by rw [← hcs]; exact h6)
      rw [← hput] at hS' hj'
      refine ⟨L, P' ++ gvn 0 m x.2 Q', ⟨by rw [hput]; simp, ⟨pA, c2 ++ (x.1, x.2 - m) :: Q, by rw [e1, e3]; simp, h3, f4⟩, h5, hj', hS'⟩, Or.inr ⟨P', Q', f1, ?_, rfl, rfl⟩⟩
      rw [tot_app, tot_app] at htt
      omega
/-- the blocks behind all moves, the old places still live -/
def appl : List Vic → List Nat → List Blk → List Blk
  | v :: vs, t :: ts, cs => appl vs ts (putB v.2.2 t cs)
  | _, _, cs => cs
/-- the words behind all moves -/
def cms : List Vic → List Nat → (Nat → Int32) → Nat → Int32
  | v :: vs, t :: ts, f => cms vs ts (va_cpy f f (4 + 4 * v.2.1) (4 + 4 * t) (4 * v.2.2 - 1))
  | _, _, f => f
/-- the blocks behind an apply -/
def aft (vs : List Vic) (ts : List Nat) (bs : List Blk) : List Blk := norm (mk (vs.map (fun x => x.2.1)) 0 (appl vs ts bs))
/-- a victim in its window -/
def VW (A W : List Blk) (x : Vic) : Prop := ∃ W1 W2, W = W1 ++ (x.2.2, 1) :: W2 ∧ x.2.1 = tot A + tot W1
