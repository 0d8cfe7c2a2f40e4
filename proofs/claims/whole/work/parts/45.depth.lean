/-! PURE: how deep the tree is. -/
noncomputable def one (P : Prop) : Nat := @ite Nat P (Classical.propDecidable P) 1 0
theorem one_pos {P : Prop} (h : P) : one P = 1 := if_pos h
theorem one_neg {P : Prop} (h : ¬ P) : one P = 0 := if_neg h
theorem one_le (P : Prop) : one P ≤ 1 := by
  by_cases h : P
  · rw [one_pos h]; exact Nat.le_refl _
  · rw [one_neg h]; omega
def rs (f : Nat → Nat) (a : Nat) : Nat → Nat
  | 0 => 0
  | d + 1 => rs f a d + f (a + d)
def rx (f : Nat → Nat) (a : Nat) : Nat → Nat
  | 0 => 0
  | d + 1 => max (rx f a d) (f (a + d))
theorem rs_cong {f g : Nat → Nat} {a : Nat} : ∀ d, (∀ j, a ≤ j → j < a + d → f j = g j) → rs f a d = rs g a d
  | 0, _ => rfl
  | d + 1, h => by rw [rs, rs, rs_cong d (fun j q1 q2 => h j q1 (by omega)), h (a + d) (by omega) (by omega)]
theorem rx_cong {f g : Nat → Nat} {a : Nat} : ∀ d, (∀ j, a ≤ j → j < a + d → f j = g j) → rx f a d = rx g a d
  | 0, _ => rfl
  | d + 1, h => by rw [rx, rx, rx_cong d (fun j q1 q2 => h j q1 (by omega)), h (a + d) (by omega) (by omega)]
theorem rs_zero {f : Nat → Nat} {a : Nat} : ∀ d, (∀ j, a ≤ j → j < a + d → f j = 0) → rs f a d = 0
  | 0, _ => rfl
  | d + 1, h => by rw [rs, rs_zero d (fun j q1 q2 => h j q1 (by omega)), h (a + d) (by omega) (by omega)]
theorem rx_zero {f : Nat → Nat} {a : Nat} : ∀ d, (∀ j, a ≤ j → j < a + d → f j = 0) → rx f a d = 0
  | 0, _ => rfl
  | d + 1, h => by rw [rx, rx_zero d (fun j q1 q2 => h j q1 (by omega)), h (a + d) (by omega) (by omega)]; rfl
theorem rs_app (f : Nat → Nat) (a d : Nat) : ∀ e, rs f a (d + e) = rs f a d + rs f (a + d) e
  | 0 => rfl
  | e + 1 => by
    show rs f a (d + e) + f (a + (d + e)) = rs f a d + (rs f (a + d) e + f (a + d + e))
    rw [rs_app f a d e, Nat.add_assoc a d e]; omega
theorem rx_app (f : Nat → Nat) (a d : Nat) : ∀ e, rx f a (d + e) = max (rx f a d) (rx f (a + d) e)
  | 0 => (Nat.max_eq_left (Nat.zero_le _)).symm
  | e + 1 => by
    show max (rx f a (d + e)) (f (a + (d + e))) = max (rx f a d) (max (rx f (a + d) e) (f (a + d + e)))
    rw [rx_app f a d e, Nat.add_assoc a d e]; omega
theorem rs_le {f : Nat → Nat} {a : Nat} (h : ∀ j, f j ≤ 1) : ∀ d, rs f a d ≤ d
  | 0 => Nat.le_refl _
  | d + 1 => by
    have := rs_le (a := a) h d
    have := h (a + d)
    rw [rs]; omega
theorem rx_le {f : Nat → Nat} {a m : Nat} (h : ∀ j, f j ≤ m) : ∀ d, rx f a d ≤ m
  | 0 => Nat.zero_le _
  | d + 1 => by
    have := rx_le (a := a) h d
    have := h (a + d)
    rw [rx]; omega
theorem rx_succ {F h : Nat → Nat} {a : Nat} : ∀ d, max 1 (rx (fun g => if 0 < F g then h g + 1 else 0) a d) = 1 + rx (fun g => if 0 < F g then h g else 0) a d
  | 0 => rfl
  | d + 1 => by
    have := rx_succ (F := F) (h := h) (a := a) d
    rw [rx, rx]
    by_cases q : 0 < F (a + d)
    · rw [if_pos q, if_pos q]; omega
    · rw [if_neg q, if_neg q]; omega
noncomputable def anc (F : Nat → Nat) (a d g : Nat) : Nat := rs (fun k => one (isTop F (min k g) (max k g + 1) k)) a d
noncomputable def MD (F : Nat → Nat) (a d : Nat) : Nat := rx (fun g => if 0 < F g then anc F a d g else 0) a d
theorem anc_le (F : Nat → Nat) (a d g : Nat) : anc F a d g ≤ d := rs_le (fun _ => one_le _) d
theorem MD_le (F : Nat → Nat) (a d : Nat) : MD F a d ≤ d := rx_le (fun j => by
  have := anc_le F a d j
  by_cases q : 0 < F j
  · rw [if_pos q]; exact this
  · rw [if_neg q]; omega) d
theorem MD_no {F : Nat → Nat} {a d : Nat} (h : noTop F a (a + d)) : MD F a d = 0 := rx_zero d (fun j q1 q2 => by rw [if_neg (by rw [h j q1 q2]; omega)])
theorem MD_top {F : Nat → Nat} {a p q : Nat} (h : isTop F a (a + (p + (1 + q))) (a + p)) : MD F a (p + (1 + q)) = 1 + max (MD F a p) (MD F (a + p + 1) q) := by
  obtain ⟨h1, h2, h3, h4, h5⟩ := h
  have split : ∀ g, anc F a (p + (1 + q)) g = anc F a p g + (one (isTop F (min (a + p) g) (max (a + p) g + 1) (a + p)) + anc F (a + p + 1) q g) := by
    intro g
    unfold anc
    rw [rs_app, rs_app]
    congr 1
    congr 1
    show rs _ (a + p) 0 + one (isTop F (min (a + p + 0) g) (max (a + p + 0) g + 1) (a + p + 0)) = _
    rw [Nat.add_zero]
    show 0 + _ = _
    rw [Nat.zero_add]
  have lo : ∀ g, a ≤ g → g < a + p → anc F a (p + (1 + q)) g = anc F a p g + 1 := by
    intro g g1 g2
    rw [split, one_pos, show anc F (a + p + 1) q g = 0 from rs_zero q (fun k k1 k2 => one_neg (fun t => ?_))]
    · rw [Nat.min_eq_right (by omega), Nat.max_eq_left (by omega)] at t
      have e1 := t.2.2.2.1 (a + p) (by omega) (by omega)
      have e2 := h5 k (by omega) (by omega)
      omega
    · rw [Nat.min_eq_right (by omega), Nat.max_eq_left (by omega)]
      exact ⟨by omega, by omega, h3, fun j j1 j2 => h4 j (by omega) j2, fun j j1 j2 => by omega⟩
  have mid : anc F a (p + (1 + q)) (a + p) = 1 := by
    rw [split, one_pos, show anc F (a + p + 1) q (a + p) = 0 from rs_zero q (fun k k1 k2 => one_neg (fun t => ?_)), show anc F a p (a + p) = 0 from rs_zero p (fun k k1 k2 => one_neg (fun t => ?_))]
    · rw [Nat.min_eq_left (by omega), Nat.max_eq_right (by omega)] at t
      have e1 := t.2.2.2.2 (a + p) (by omega) (by omega)
      have e2 := h4 k (by omega) (by omega)
      omega
    · rw [Nat.min_eq_right (by omega), Nat.max_eq_left (by omega)] at t
      have e1 := t.2.2.2.1 (a + p) (by omega) (by omega)
      have e2 := h5 k (by omega) (by omega)
      omega
    · rw [Nat.min_self, Nat.max_self]
      exact ⟨Nat.le_refl _, by omega, h3, fun j j1 j2 => by omega, fun j j1 j2 => by omega⟩
  have hi : ∀ g, a + p + 1 ≤ g → g < a + p + 1 + q → anc F a (p + (1 + q)) g = anc F (a + p + 1) q g + 1 := by
    intro g g1 g2
    rw [split, one_pos, show anc F a p g = 0 from rs_zero p (fun k k1 k2 => one_neg (fun t => ?_))]
    · omega
    · rw [Nat.min_eq_left (by omega), Nat.max_eq_right (by omega)] at t
      have e1 := t.2.2.2.2 (a + p) (by omega) (by omega)
      have e2 := h4 k (by omega) (by omega)
      omega
    · rw [Nat.min_eq_left (by omega), Nat.max_eq_right (by omega)]
      exact ⟨Nat.le_refl _, by omega, h3, fun j j1 j2 => by omega, fun j j1 j2 => h5 j j1 (by omega)⟩
  have e1 := rx_succ (F := F) (h := fun g => anc F a p g) (a := a) p
  have e2 := rx_succ (F := F) (h := fun g => anc F (a + p + 1) q g) (a := a + p + 1) q
  have f1 : rx (fun g => if 0 < F g then anc F a (p + (1 + q)) g else 0) a p = rx (fun g => if 0 < F g then anc F a p g + 1 else 0) a p := rx_cong p (fun j j1 j2 => by rw [lo j j1 j2])
  have f2 : rx (fun g => if 0 < F g then anc F a (p + (1 + q)) g else 0) (a + p + 1) q = rx (fun g => if 0 < F g then anc F (a + p + 1) q g + 1 else 0) (a + p + 1) q := rx_cong q (fun j j1 j2 => by rw [hi j j1 j2])
  have f3 : rx (fun g => if 0 < F g then anc F a (p + (1 + q)) g else 0) (a + p) 1 = 1 := by
    show max 0 (if 0 < F (a + p + 0) then anc F a (p + (1 + q)) (a + p + 0) else 0) = 1
    rw [Nat.add_zero, if_pos h3, mid]
    rfl
  unfold MD
  rw [rx_app, rx_app, f1, f2, f3]
  omega
/-- the spine: of each its groups and how deep the tree to its left is -/
def dl : List (Nat × Nat) → Nat
  | [] => 0
  | x :: l => 1 + max x.2 (dl l)
def Sp (F : Nat → Nat) (p : Nat) : List (Nat × Nat) → Nat → Prop
  | [], a => noTop F a p
  | x :: l, a => ∃ t, isTop F a p t ∧ x.1 = F t ∧ x.2 = MD F a (t - a) ∧ Sp F p l (t + 1)
theorem Sp_dl {F : Nat → Nat} {p : Nat} : ∀ {l : List (Nat × Nat)} {a : Nat}, a ≤ p → Sp F p l a → MD F a (p - a) = dl l
  | [], a, ha, h => MD_no (by rw [show a + (p - a) = p by omega]; exact h)
  | x :: l, a, ha, ⟨t, h1, h2, h3, h4⟩ => by
    have t1 := h1.1
    have t2 := h1.2.1
    have e := MD_top (F := F) (a := a) (p := t - a) (q := p - (t + 1)) (by
      rw [show a + (t - a + (1 + (p - (t + 1)))) = p by omega, show a + (t - a) = t by omega]
      exact h1)
    rw [show t - a + (1 + (p - (t + 1))) = p - a by omega, show a + (t - a) + 1 = t + 1 by omega, Sp_dl (by omega) h4] at e
    rw [e, dl, h3]
theorem Sp_zero {F : Nat → Nat} {p : Nat} (h0 : F p = 0) : ∀ {l : List (Nat × Nat)} {a : Nat}, Sp F p l a → Sp F (p + 1) l a
  | [], a, h => no_s h h0
  | x :: l, a, ⟨t, h1, h2, h3, h4⟩ => ⟨t, top_s h1 (by omega), h2, h3, Sp_zero h0 h4⟩
theorem Sp_zeros {F : Nat → Nat} {p : Nat} {l : List (Nat × Nat)} {a : Nat} (h : Sp F p l a) : ∀ d, (∀ j, p ≤ j → j < p + d → F j = 0) → Sp F (p + d) l a
  | 0, _ => h
  | d + 1, hz => Sp_zero (hz (p + d) (by omega) (by omega)) (Sp_zeros h d (fun j q1 q2 => hz j q1 (by omega)))
theorem Sp_mem {F : Nat → Nat} {p : Nat} : ∀ {l : List (Nat × Nat)} {a : Nat}, Sp F p l a → ∀ x, x ∈ l → ∃ h, a ≤ h ∧ h < p ∧ x.1 = F h
  | [], a, _, x, hx => by cases hx
  | y :: l, a, ⟨t, h1, h2, h3, h4⟩, x, hx => by
    rcases List.mem_cons.mp hx with rfl | hx
    · exact ⟨t, h1.1, h1.2.1, h2⟩
    · obtain ⟨h, q1, q2, q3⟩ := Sp_mem h4 x hx
      exact ⟨h, by have := h1.1; omega, q2, q3⟩
theorem Sp_bnd {F : Nat → Nat} {p m : Nat} (hp : p ≤ m) : ∀ {l : List (Nat × Nat)} {a : Nat}, Sp F p l a → ∀ x, x ∈ l → x.2 ≤ m
  | [], a, _, x, hx => by cases hx
  | y :: l, a, ⟨t, h1, h2, h3, h4⟩, x, hx => by
    rcases List.mem_cons.mp hx with rfl | hx
    · rw [h3]
      have := MD_le F a (t - a)
      have := h1.2.1
      omega
    · exact Sp_bnd hp h4 x hx
theorem Sp_ins {F : Nat → Nat} {p : Nat} {l2 : List (Nat × Nat)} (h0 : 0 < F p) (hs : ∀ x, x ∈ l2 → x.1 < F p) : ∀ {l1 : List (Nat × Nat)} {a : Nat}, a ≤ p → Sp F p (l1 ++ l2) a → (∀ l x, l1 = l ++ [x] → F p ≤ x.1) → Sp F (p + 1) (l1 ++ [(F p, dl l2)]) a
  | [], a, ha, h, _ => by
    refine ⟨p, ⟨ha, by omega, h0, fun j q1 q2 => ?_, fun j q1 q2 => by omega⟩, rfl, (Sp_dl ha h).symm, fun j q1 q2 => by omega⟩
    cases l2 with
    | nil => rw [h j q1 q2]; exact h0
    | cons x l =>
      obtain ⟨t, h1, h2, h3, h4⟩ := h
      have e1 := top_le h1 q1 q2
      have e2 := hs x List.mem_cons_self
      omega
  | x :: l1, a, ha, ⟨t, h1, h2, h3, h4⟩, hl => by
    have t2 := h1.2.1
    refine ⟨t, top_s h1 ?_, h2, h3, Sp_ins h0 hs (by omega) h4 (fun l y hy => hl (x :: l) y (by rw [hy]; rfl))⟩
    rcases lst l1 with q | ⟨l, y, q⟩
    · have := hl [] x (by rw [q]; rfl)
      omega
    · have e1 := hl (x :: l) y (by rw [q]; rfl)
      obtain ⟨j, j1, j2, j3⟩ := Sp_mem h4 y (by rw [q]; simp)
      have e2 := top_le h1 (j := j) (by have := h1.1; omega) j2
      omega
theorem dl_le {m : Nat} : ∀ {l : List (Nat × Nat)}, (∀ x, x ∈ l → x.2 ≤ m) → dl l ≤ l.length + m
  | [], _ => Nat.zero_le _
  | x :: l, h => by
    have h1 := dl_le (l := l) (fun y hy => h y (List.mem_cons_of_mem _ hy))
    have h2 := h x List.mem_cons_self
    rw [dl, List.length_cons]
    omega
