/-! PURE: victims, their order, their places. -/
abbrev Vic : Type := Nat × Nat × Nat
/-- the movable blocks of a stretch: index, group, groups -/
def vic : Nat → Nat → List Blk → List Vic
  | _, _, [] => []
  | i, g, b :: l => if b.2 = 1 then (i, g, b.1) :: vic (i + 1) (g + b.1) l else vic (i + 1) (g + b.1) l
def nl : List Blk → Nat
  | [] => 0
  | b :: l => (if b.2 = 1 then 1 else 0) + nl l
def ins (x : Vic) : List Vic → List Vic
  | [] => [x]
  | y :: l => if y.2.2 < x.2.2 then x :: y :: l else y :: ins x l
def srt : List Vic → List Vic → List Vic
  | acc, [] => acc
  | acc, x :: l => srt (ins x acc) l
def dsc : List Vic → Prop
  | [] => True
  | x :: l => (∀ y, y ∈ l → y.2.2 ≤ x.2.2) ∧ dsc l
theorem nl_app (a b : List Blk) : nl (a ++ b) = nl a + nl b := by
  induction a with
  | nil => simp [nl]
  | cons x a ih => rw [List.cons_append, nl, nl, ih]; omega
theorem nl_le (l : List Blk) : nl l ≤ l.length - nf l := by
  induction l with
  | nil => exact Nat.le_refl _
  | cons x a ih =>
    have := nf_le a
    rw [nl, nf, List.length_cons]
    by_cases h : x.2 = 1
    · rw [if_pos h, if_neg (by omega)]; omega
    · rw [if_neg h]; split <;> omega
theorem vic_len : ∀ (l : List Blk) (i g : Nat), (vic i g l).length = nl l
  | [], _, _ => rfl
  | b :: l, i, g => by
    rw [vic, nl]
    by_cases h : b.2 = 1
    · rw [if_pos h, if_pos h, List.length_cons, vic_len l]; omega
    · rw [if_neg h, if_neg h, vic_len l]; omega
theorem vic_app (B : List Blk) : ∀ (A : List Blk) (i g : Nat), vic i g (A ++ B) = vic i g A ++ vic (i + A.length) (g + tot A) B
  | [], i, g => by simp [vic, tot]
  | a :: A, i, g => by
    have e1 : i + (a :: A).length = i + 1 + A.length := by rw [List.length_cons]; omega
    have e2 : g + tot (a :: A) = g + a.1 + tot A := by rw [tot_cons]; omega
    rw [List.cons_append, vic, vic, vic_app B A, e1, e2]
    by_cases h : a.2 = 1
    · rw [if_pos h, if_pos h]; rfl
    · rw [if_neg h, if_neg h]
theorem vic_at : ∀ {l : List Blk} {i g : Nat} {x : Vic}, x ∈ vic i g l → ∃ A B, l = A ++ (x.2.2, 1) :: B ∧ x.1 = i + A.length ∧ x.2.1 = g + tot A
  | [], i, g, x, h => by cases h
  | b :: l, i, g, x, h => by
    have hrec : x ∈ vic (i + 1) (g + b.1) l → ∃ A B, b :: l = A ++ (x.2.2, 1) :: B ∧ x.1 = i + A.length ∧ x.2.1 = g + tot A := by
      intro h
      obtain ⟨A, B, h1, h2, h3⟩ := vic_at h
      exact ⟨b :: A, B, by rw [h1]; rfl, by rw [List.length_cons]; omega, by rw [tot_cons]; omega⟩
    rw [vic] at h
    by_cases hb : b.2 = 1
    · rw [if_pos hb] at h
      rcases List.mem_cons.mp h with rfl | h
      · exact ⟨[], l, by obtain ⟨b1, b2⟩ := b; have hb : b2 = 1 := hb; rw [hb]; rfl, rfl, rfl⟩
      · exact hrec h
    · rw [if_neg hb] at h
      exact hrec h
theorem ins_mem {x y : Vic} : ∀ {l : List Vic}, y ∈ ins x l ↔ y = x ∨ y ∈ l
  | [] => by simp [ins]
  | z :: l => by
    rw [ins]
    by_cases h : z.2.2 < x.2.2
    · rw [if_pos h]; simp
    · rw [if_neg h, List.mem_cons, ins_mem, List.mem_cons]
      constructor
      · rintro (h | h | h)
        · exact Or.inr (Or.inl h)
        · exact Or.inl h
        · exact Or.inr (Or.inr h)
      · rintro (h | h | h)
        · exact Or.inr (Or.inl h)
        · exact Or.inl h
        · exact Or.inr (Or.inr h)
theorem ins_len (x : Vic) : ∀ l : List Vic, (ins x l).length = l.length + 1
  | [] => rfl
  | z :: l => by
    rw [ins]
    by_cases h : z.2.2 < x.2.2
    · rw [if_pos h]; rfl
    · rw [if_neg h, List.length_cons, ins_len x l, List.length_cons]
theorem ins_dsc {x : Vic} : ∀ {l : List Vic}, dsc l → dsc (ins x l)
  | [], _ => ⟨fun y h => (by cases h), trivial⟩
  | z :: l, h => by
    rw [ins]
    by_cases hz : z.2.2 < x.2.2
    · rw [if_pos hz]
      refine ⟨fun y hy => ?_, h⟩
      rcases List.mem_cons.mp hy with rfl | hy
      · omega
      · have := h.1 y hy; omega
    · rw [if_neg hz]
      refine ⟨fun y hy => ?_, ins_dsc h.2⟩
      rcases ins_mem.mp hy with rfl | hy
      · omega
      · exact h.1 y hy
theorem ins_end {x : Vic} {l2 : List Vic} (hs : ∀ y, y ∈ l2 → y.2.2 < x.2.2) : ∀ {l1 : List Vic}, dsc (l1 ++ l2) → (∀ l y, l1 = l ++ [y] → x.2.2 ≤ y.2.2) → ins x (l1 ++ l2) = l1 ++ x :: l2
  | [], _, _ => by
    cases l2 with
    | nil => rfl
    | cons y l => rw [List.nil_append, ins, if_pos (hs y List.mem_cons_self)]; rfl
  | z :: l1, h, hl => by
    have hz : ¬ z.2.2 < x.2.2 := by
      rcases lst l1 with q | ⟨l, y, q⟩
      · have := hl [] z (by rw [q]; rfl); omega
      · have e1 := hl (z :: l) y (by rw [q]; rfl)
        have e2 := h.1 y (by rw [q]; simp)
        omega
    rw [List.cons_append, ins, if_neg hz, ins_end hs h.2 (fun l y q => hl (z :: l) y (by rw [q]; rfl))]
    rfl
theorem ins_all {x : Vic} {l : List Vic} (h : ∀ y, y ∈ l → y.2.2 < x.2.2) : ins x l = x :: l := by
  cases l with
  | nil => rfl
  | cons y l => rw [ins, if_pos (h y List.mem_cons_self)]
theorem ins_flt {p : Vic → Bool} {x : Vic} : ∀ {l : List Vic}, dsc l → (ins x l).filter p = if p x = true then ins x (l.filter p) else l.filter p
  | [], _ => by
    by_cases h : p x = true
    · rw [if_pos h]; simp [ins, h]
    · rw [if_neg h]; simp [ins, h]
  | z :: l, hd => by
    rw [ins]
    by_cases hz : z.2.2 < x.2.2
    · rw [if_pos hz]
      have hall : ∀ y, y ∈ (z :: l).filter p → y.2.2 < x.2.2 := by
        intro y hy
        have := (List.mem_filter.mp hy).1
        rcases List.mem_cons.mp this with rfl | q
        · exact hz
        · have := hd.1 y q; omega
      by_cases h : p x = true
      · rw [if_pos h, ins_all hall, List.filter_cons, if_pos h]
      · rw [if_neg h, List.filter_cons, if_neg h]
    · rw [if_neg hz, List.filter_cons, ins_flt hd.2]
      by_cases h : p x = true
      · rw [if_pos h, if_pos h]
        by_cases h2 : p z = true
        · rw [if_pos h2, List.filter_cons, if_pos h2, ins, if_neg hz]
        · rw [if_neg h2, List.filter_cons, if_neg h2]
      · rw [if_neg h, if_neg h, List.filter_cons]
theorem srt_dsc : ∀ {l acc : List Vic}, dsc acc → dsc (srt acc l)
  | [], _, h => h
  | x :: l, _, h => srt_dsc (l := l) (ins_dsc h)
theorem srt_mem {y : Vic} : ∀ {l acc : List Vic}, y ∈ srt acc l ↔ y ∈ acc ∨ y ∈ l
  | [], acc => by simp [srt]
  | x :: l, acc => by
    rw [srt, srt_mem, ins_mem, List.mem_cons]
    constructor
    · rintro ((h | h) | h)
      · exact Or.inr (Or.inl h)
      · exact Or.inl h
      · exact Or.inr (Or.inr h)
    · rintro (h | h | h)
      · exact Or.inl (Or.inr h)
      · exact Or.inl (Or.inl h)
      · exact Or.inr h
theorem srt_len : ∀ (l acc : List Vic), (srt acc l).length = acc.length + l.length
  | [], acc => rfl
  | x :: l, acc => by rw [srt, srt_len l, ins_len, List.length_cons]; omega
theorem srt_flt {p : Vic → Bool} : ∀ {l acc : List Vic}, dsc acc → (srt acc l).filter p = srt (acc.filter p) (l.filter p)
  | [], acc, _ => rfl
  | x :: l, acc, h => by
    rw [srt, srt_flt (ins_dsc h), ins_flt h, List.filter_cons]
    by_cases hx : p x = true
    · rw [if_pos hx, if_pos hx, srt]
    · rw [if_neg hx, if_neg hx]
/-- the order of a window's victims is the order of all, cut down to it -/
theorem srt_win (A W C : List Blk) : (srt [] (vic 0 0 (A ++ (W ++ C)))).filter (fun x => decide (A.length ≤ x.1 ∧ x.1 < A.length + W.length)) = srt [] (vic A.length (tot A) W) := by
  rw [srt_flt (show dsc [] from trivial), vic_app, vic_app, List.filter_append, List.filter_append]
  congr 1
  have h1 : (vic 0 0 A).filter (fun x => decide (A.length ≤ x.1 ∧ x.1 < A.length + W.length)) = [] := by
    rw [List.filter_eq_nil_iff]
    intro x hx
    obtain ⟨A', B', q1, q2, q3⟩ := vic_at hx
    have : A'.length < A.length := by rw [q1]; simp
    simp
    omega
  have h2 : (vic (0 + A.length) (0 + tot A) W).filter (fun x => decide (A.length ≤ x.1 ∧ x.1 < A.length + W.length)) = vic A.length (tot A) W := by
    rw [Nat.zero_add, Nat.zero_add, List.filter_eq_self]
    intro x hx
    obtain ⟨A', B', q1, q2, q3⟩ := vic_at hx
    have : A'.length < W.length := by rw [q1]; simp
    simp
    omega
  have h3 : (vic (0 + A.length + W.length) (0 + tot A + tot W) C).filter (fun x => decide (A.length ≤ x.1 ∧ x.1 < A.length + W.length)) = [] := by
    rw [List.filter_eq_nil_iff]
    intro x hx
    obtain ⟨A', B', q1, q2, q3⟩ := vic_at hx
    simp
    omega
  rw [h1, h2, h3]
  simp
/-- places: of each block its groups and what is left of it -/
def pl1 (m : Nat) : List Blk → List Blk → Option (Nat × List Blk)
  | _, [] => none
  | P, x :: Q => if m ≤ x.2 then some (tot P + x.1 - x.2, P ++ (x.1, x.2 - m) :: Q) else pl1 m (P ++ [x]) Q
def plA : List Vic → List Blk → Option (List Nat)
  | [], _ => some []
  | v :: vs, ps => match pl1 v.2.2 [] ps with
    | none => none
    | some r => match plA vs r.2 with
      | none => none
      | some l => some (r.1 :: l)
theorem pl1_no {m : Nat} : ∀ {Q P : List Blk}, (∀ x, x ∈ Q → x.2 < m) → pl1 m P Q = none
  | [], _, _ => rfl
  | x :: Q, P, h => by
    have := h x List.mem_cons_self
    rw [pl1, if_neg (by omega)]
    exact pl1_no (fun y hy => h y (List.mem_cons_of_mem _ hy))
theorem pl1_yes {m : Nat} {x : Blk} {R : List Blk} (hx : m ≤ x.2) : ∀ {Q P : List Blk}, (∀ y, y ∈ Q → y.2 < m) → pl1 m P (Q ++ x :: R) = some (tot P + tot Q + x.1 - x.2, P ++ Q ++ (x.1, x.2 - m) :: R)
  | [], P, _ => by rw [List.nil_append, pl1, if_pos hx]; simp [tot]
  | y :: Q, P, h => by
    have := h y List.mem_cons_self
    rw [List.cons_append, pl1, if_neg (by omega), pl1_yes hx (fun z hz => h z (List.mem_cons_of_mem _ hz)), tot_app, tot_cons, tot_nil, tot_cons]
    simp [Nat.add_assoc]
theorem pl1_or (m : Nat) : ∀ Q : List Blk, (∀ x, x ∈ Q → x.2 < m) ∨ ∃ P x R, Q = P ++ x :: R ∧ (∀ y, y ∈ P → y.2 < m) ∧ m ≤ x.2
  | [] => Or.inl (fun x h => by cases h)
  | z :: Q => by
    by_cases hz : m ≤ z.2
    · exact Or.inr ⟨[], z, Q, rfl, fun y h => (by cases h), hz⟩
    · rcases pl1_or m Q with h | ⟨P, x, R, h1, h2, h3⟩
      · refine Or.inl (fun x hx => ?_)
        rcases List.mem_cons.mp hx with rfl | hx
        · omega
        · exact h x hx
      · refine Or.inr ⟨z :: P, x, R, by rw [h1]; rfl, fun y hy => ?_, h3⟩
        rcases List.mem_cons.mp hy with rfl | hy
        · omega
        · exact h2 y hy
def sl : List Blk → Nat
  | [] => 0
  | x :: l => x.2 + sl l
theorem sl_app (a b : List Blk) : sl (a ++ b) = sl a + sl b := by
  induction a with
  | nil => simp [sl]
  | cons x a ih => rw [List.cons_append, sl, sl, ih]; omega
def sv : List Vic → Nat
  | [] => 0
  | x :: l => x.2.2 + sv l
theorem plA_sum : ∀ {vs : List Vic} {ps : List Blk} {ts : List Nat}, plA vs ps = some ts → sv vs ≤ sl ps ∧ ts.length = vs.length
  | [], ps, ts, h => by
    injection h with h
    rw [← h]
    exact ⟨Nat.zero_le _, rfl⟩
  | v :: vs, ps, ts, h => by
    rw [plA] at h
    rcases pl1_or v.2.2 ps with q | ⟨P, x, R, q1, q2, q3⟩
    · rw [pl1_no q] at h
      cases h
    · rw [q1, pl1_yes q3 q2] at h
      simp only [] at h
      cases hr : plA vs ([] ++ P ++ (x.1, x.2 - v.2.2) :: R) with
      | none => rw [hr] at h; cases h
      | some l =>
        rw [hr] at h
        injection h with h
        obtain ⟨e1, e2⟩ := plA_sum hr
        rw [List.nil_append, sl_app, sl] at e1
        rw [← h, q1, sl_app, sl, sv]
        have e3 : ((x.1, x.2 - v.2.2) : Blk).2 = x.2 - v.2.2 := rfl
        exact ⟨by omega, by rw [List.length_cons, List.length_cons, e2]⟩
theorem sv_ins (x : Vic) : ∀ l : List Vic, sv (ins x l) = x.2.2 + sv l
  | [] => rfl
  | y :: l => by
    rw [ins]
    by_cases h : y.2.2 < x.2.2
    · rw [if_pos h]; rfl
    · rw [if_neg h, sv, sv_ins x l, sv]; omega
theorem sv_srt : ∀ (l acc : List Vic), sv (srt acc l) = sv acc + sv l
  | [], acc => rfl
  | x :: l, acc => by rw [srt, sv_srt l, sv_ins, sv]; omega
def noPin (W : List Blk) : Prop := ∀ b, b ∈ W → b.2 = 0 ∨ b.2 = 1
theorem sv_vic : ∀ (W : List Blk) (i g : Nat), noPin W → sv (vic i g W) + gf W = tot W
  | [], _, _, _ => rfl
  | b :: l, i, g, h => by
    have := sv_vic l (i + 1) (g + b.1) (fun x hx => h x (List.mem_cons_of_mem _ hx))
    rw [vic, gf, tot_cons]
    rcases h b List.mem_cons_self with q | q
    · rw [if_neg (by omega), if_pos q]; omega
    · rw [if_pos q, if_neg (by omega), sv]; show b.1 + _ + _ = _; omega
def fF (b : Blk) : Blk := (b.1, if b.2 = 0 then b.1 else 0)
def fZ (b : Blk) : Blk := (b.1, 0)
def ps0 (A W C : List Blk) : List Blk := A.map fF ++ (W.map fZ ++ C.map fF)
theorem sl_fF : ∀ l : List Blk, sl (l.map fF) = gf l
  | [] => rfl
  | b :: l => by rw [List.map_cons, sl, gf, sl_fF l]; rfl
theorem sl_fZ : ∀ l : List Blk, sl (l.map fZ) = 0
  | [] => rfl
  | b :: l => by rw [List.map_cons, sl, sl_fZ l]; rfl
/-- a window with more words than all free blocks have can't be cleared -/
theorem pl_prune {A W C : List Blk} (hW : noPin W) (h : gf (A ++ (W ++ C)) < tot W) : plA (srt [] (vic A.length (tot A) W)) (ps0 A W C) = none := by
  cases hp : plA (srt [] (vic A.length (tot A) W)) (ps0 A W C) with
  | none => rfl
  | some ts =>
    exfalso
    have e1 := (plA_sum hp).1
    have e2 := sv_vic W A.length (tot A) hW
    rw [sv_srt] at e1
    unfold ps0 at e1
    rw [sl_app, sl_app, sl_fF, sl_fF, sl_fZ] at e1
    rw [gf_app, gf_app] at h
    have e3 : sv [] = 0 := rfl
    omega
/-- the window from a block on: what it has, what is behind it -/
def wnd (v : Nat) : List Blk → List Blk → Option (List Blk × List Blk)
  | W, [] => if v ≤ 4 * tot W then some (W, []) else none
  | W, b :: B => if v ≤ 4 * tot W then some (W, b :: B) else if b.2 = 2 then none else wnd v (W ++ [b]) B
theorem wnd_pre {v : Nat} {C : List Blk} : ∀ {W W0 : List Blk}, (∀ b, b ∈ W → b.2 ≠ 2) → (∀ W1 b W2, W = W1 ++ b :: W2 → 4 * tot (W0 ++ W1) < v) → wnd v W0 (W ++ C) = wnd v (W0 ++ W) C
  | [], W0, _, _ => by simp
  | b :: W, W0, hp, hs => by
    have h1 := hs [] b W rfl
    rw [List.append_nil] at h1
    rw [List.cons_append, wnd, if_neg (by omega), if_neg (hp b List.mem_cons_self), wnd_pre (fun x hx => hp x (List.mem_cons_of_mem _ hx)) (fun W1 c W2 h => by
      have := hs (b :: W1) c W2 (by rw [h]; rfl)
      rw [show W0 ++ [b] ++ W1 = W0 ++ b :: W1 by simp]
      exact this)]
    simp
theorem wnd_some {v : Nat} {W' C' : List Blk} : ∀ {B W : List Blk}, wnd v W B = some (W', C') → W' ++ C' = W ++ B ∧ v ≤ 4 * tot W' ∧ ((∀ b, b ∈ W → b.2 ≠ 2) → ∀ b, b ∈ W' → b.2 ≠ 2)
  | [], W, h => by
    rw [wnd] at h
    by_cases hc : v ≤ 4 * tot W
    · rw [if_pos hc] at h
      injection h with h
      injection h with h1 h2
      subst h1 h2
      exact ⟨rfl, hc, fun h => h⟩
    · rw [if_neg hc] at h; cases h
  | b :: B, W, h => by
    rw [wnd] at h
    by_cases hc : v ≤ 4 * tot W
    · rw [if_pos hc] at h
      injection h with h
      injection h with h1 h2
      subst h1 h2
      exact ⟨rfl, hc, fun h => h⟩
    · rw [if_neg hc] at h
      by_cases hb : b.2 = 2
      · rw [if_pos hb] at h; cases h
      · rw [if_neg hb] at h
        obtain ⟨e1, e2, e3⟩ := wnd_some h
        refine ⟨by rw [e1]; simp, e2, fun hW => e3 (fun x hx => ?_)⟩
        rcases List.mem_append.mp hx with q | q
        · exact hW x q
        · rcases List.mem_cons.mp q with rfl | q
          · exact hb
          · cases q
/-- the advice so far: the window's group, the victims, their places -/
abbrev Adv : Type := Option (Nat × List Vic × List Nat)
def fewer (vs : List Vic) (st : Adv) : Prop := match st with
  | none => True
  | some a => vs.length < a.2.1.length
noncomputable def advS (v : Nat) (A B : List Blk) (st : Adv) : Adv := match wnd v [] B with
  | none => st
  | some (W, C) => @ite Adv (fewer (srt [] (vic A.length (tot A) W)) st) (Classical.propDecidable _) (match plA (srt [] (vic A.length (tot A) W)) (ps0 A W C) with
    | none => st
    | some ts => some (tot A, srt [] (vic A.length (tot A) W), ts)) st
noncomputable def advL (v : Nat) : List Blk → List Blk → Adv → Adv
  | _, [], st => st
  | A, b :: B, st => advL v (A ++ [b]) B (advS v A (b :: B) st)
def advOK (bs : List Blk) (st : Adv) : Prop := match st with
  | none => True
  | some (g, vs, ts) => ∃ A W C, bs = A ++ (W ++ C) ∧ noPin W ∧ g = tot A ∧ vs = srt [] (vic A.length (tot A) W) ∧ plA vs (ps0 A W C) = some ts
theorem advS_none {v : Nat} {A B : List Blk} {st : Adv} (h : wnd v [] B = none) : advS v A B st = st := by unfold advS; rw [h]
theorem advS_few {v : Nat} {A B W C : List Blk} {st : Adv} (h : wnd v [] B = some (W, C)) (hf : ¬ fewer (srt [] (vic A.length (tot A) W)) st) : advS v A B st = st := by unfold advS; rw [h]; exact if_neg hf
theorem advS_no {v : Nat} {A B W C : List Blk} {st : Adv} (h : wnd v [] B = some (W, C)) (hp : plA (srt [] (vic A.length (tot A) W)) (ps0 A W C) = none) : advS v A B st = st := by
  unfold advS
  rw [h]
  by_cases hf : fewer (srt [] (vic A.length (tot A) W)) st
  · simp only [hp]; exact if_pos hf
  · exact if_neg hf
theorem advS_yes {v : Nat} {A B W C : List Blk} {st : Adv} {ts : List Nat} (h : wnd v [] B = some (W, C)) (hf : fewer (srt [] (vic A.length (tot A) W)) st) (hp : plA (srt [] (vic A.length (tot A) W)) (ps0 A W C) = some ts) : advS v A B st = some (tot A, srt [] (vic A.length (tot A) W), ts) := by
  unfold advS
  rw [h]
  simp only [hp]
  exact if_pos hf
theorem advL_OK {N v : Nat} {bs : List Blk} (hS : shp N bs) : ∀ {B A : List Blk} {st : Adv}, bs = A ++ B → advOK bs st → advOK bs (advL v A B st)
  | [], A, st, _, h => h
  | b :: B, A, st, hb, h => by
    rw [advL]
    refine advL_OK hS (app_one hb) ?_
    cases hw : wnd v [] (b :: B) with
    | none => rw [advS_none hw]; exact h
    | some r =>
      obtain ⟨W, C⟩ := r
      obtain ⟨e1, e2, e3⟩ := wnd_some hw
      cases hp : plA (srt [] (vic A.length (tot A) W)) (ps0 A W C) with
      | none => rw [advS_no hw hp]; exact h
      | some ts =>
        by_cases hf : fewer (srt [] (vic A.length (tot A) W)) st
        · rw [advS_yes hw hf hp]
          refine ⟨A, W, C, by rw [hb, ← List.nil_append (b :: B), ← e1], fun x hx => ?_, rfl, rfl, hp⟩
          have q1 := e3 (fun y hy => by cases hy) x hx
          have q2 := (hS.2.1 x (by rw [hb, ← List.nil_append (b :: B), ← e1]; simp [hx])).2
          omega
        · rw [advS_few hw hf]; exact h
