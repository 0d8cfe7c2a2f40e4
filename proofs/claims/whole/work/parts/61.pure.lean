/-! PURE: the law's loop; PureLaw. -/
theorem pure_loop {Hd N K L : Nat} {xs : Nat → Int32} (hN : 4 * N + 3 ≤ Hd) (hH : Hd ≤ 4096) (hK : K = min N 128) (hL : L ≤ 2049) : ∀ (c i : Nat) (u : S2) (τ : CS), RR N K u.1 τ → i ≤ 3000 → L ≤ i + 4 * c → lp_law (lnC Hd N K) xs L (c + 1) u τ (nI i)
  | c, i, u, τ, hr, hi, hc => by
    intro h
    have hlt : i + 4 ≤ L := by
      by_cases q : i + 4 ≤ L
      · exact q
      · exfalso
        apply h
        show nI L - 4 < nI i
        rw [Int32.lt_iff_toInt_lt, iLit 4, pk_sub_toInt (by omega) (by decide), nI_toInt (by omega)]
        omega
    cases c with
    | zero => omega
    | succ c =>
      have e1 : nI i + 1 = nI (i + 1) := nI_1 i
      have e2 : nI i + 2 = nI (i + 2) := by rw [iLit 2, nI_add]
      have e3 : nI i + 3 = nI (i + 3) := by rw [iLit 3, nI_add]
      have e4 : nI i + 4 = nI (i + 4) := by rw [iLit 4, nI_add]
      have i0 : vp_in (nI i) L := (vpI (by omega)).mpr (by omega)
      have i1 : vp_in (nI i + 1) L := by rw [e1]; exact (vpI (by omega)).mpr (by omega)
      have i2 : vp_in (nI i + 2) L := by rw [e2]; exact (vpI (by omega)).mpr (by omega)
      have i3 : vp_in (nI i + 3) L := by rw [e3]; exact (vpI (by omega)).mpr (by omega)
      have hk : ∀ (u' : S2) (τ' : CS), RR N K u'.1 τ' → lp_law (lnC Hd N K) xs L (c + 1) u' τ' (nI i + 4) := by
        intro u' τ' hr'
        rw [e4]
        exact pure_loop hN hH hK hL c (i + 4) u' τ' hr' (by omega) (by omega)
      refine ⟨i0, fun _ => ?_, fun _ => ?_, fun _ => ?_, fun _ => ?_, fun _ => ?_, fun _ => ?_, fun _ => ?_, fun _ => ?_, fun _ => ?_, fun _ => ?_, fun _ => ?_, fun _ => ?_, fun _ => ?_, fun _ => ?_, fun _ => ?_, fun _ => ?_, fun _ => ?_, fun _ => ?_, fun _ => hk u τ hr⟩
      · exact ⟨i1, R_give (KK := fun u' τ' => lp_law (lnC Hd N K) xs L (c + 1) u' τ' (nI i + 4)) (f := u.2) hN hH hr hk⟩
      · exact ⟨i1, i2, R_giveAligned (KK := fun u' τ' => lp_law (lnC Hd N K) xs L (c + 1) u' τ' (nI i + 4)) (f := u.2) hN hH hr hk⟩
      · exact ⟨i1, R_free (KK := fun u' τ' => lp_law (lnC Hd N K) xs L (c + 1) u' τ' (nI i + 4)) (f := u.2) hr hk⟩
      · exact ⟨i1, i2, R_grow (KK := fun u' τ' => lp_law (lnC Hd N K) xs L (c + 1) u' τ' (nI i + 4)) (f := u.2) hN hH hr hk⟩
      · exact ⟨i1, i2, R_trim (KK := fun u' τ' => lp_law (lnC Hd N K) xs L (c + 1) u' τ' (nI i + 4)) (f := u.2) hr hk⟩
      · exact ⟨i1, i2, fun _ => R_pin (KK := fun u' τ' => lp_law (lnC Hd N K) xs L (c + 1) u' τ' (nI i + 4)) (f := u.2) (Or.inl rfl) hr hk, fun _ => R_pin (KK := fun u' τ' => lp_law (lnC Hd N K) xs L (c + 1) u' τ' (nI i + 4)) (f := u.2) (Or.inr rfl) hr hk⟩
      · exact ⟨i1, i2, R_get (KK := fun u' τ' => lp_law (lnC Hd N K) xs L (c + 1) u' τ' (nI i + 4)) (f := u.2) hN hr hk⟩
      · exact ⟨i1, i2, i3, R_set (KK := fun u' τ' => lp_law (lnC Hd N K) xs L (c + 1) u' τ' (nI i + 4)) (f := u.2) hN hr hk⟩
      · exact ⟨i1, R_sizeOf (KK := fun u' τ' => lp_law (lnC Hd N K) xs L (c + 1) u' τ' (nI i + 4)) (f := u.2) hr hk⟩
      · exact R_largest (KK := fun u' τ' => lp_law (lnC Hd N K) xs L (c + 1) u' τ' (nI i + 4)) (f := u.2) hr hk
      · exact ⟨i1, R_count (KK := fun u' τ' => lp_law (lnC Hd N K) xs L (c + 1) u' τ' (nI i + 4)) (f := u.2) hr hk⟩
      · exact ⟨i1, R_freeAt (KK := fun u' τ' => lp_law (lnC Hd N K) xs L (c + 1) u' τ' (nI i + 4)) (f := u.2) hr hk⟩
      · exact ⟨i1, i2, R_branch (KK := fun u' τ' => lp_law (lnC Hd N K) xs L (c + 1) u' τ' (nI i + 4)) (f := u.2) hr hk⟩
      · exact ⟨i1, R_advise (KK := fun u' τ' => lp_law (lnC Hd N K) xs L (c + 1) u' τ' (nI i + 4)) (f := u.2) hK hr hk⟩
      · exact R_window (KK := fun u' τ' => lp_law (lnC Hd N K) xs L (c + 1) u' τ' (nI i + 4)) (f := u.2) hr hk
      · exact ⟨i1, i2, R_move (KK := fun u' τ' => lp_law (lnC Hd N K) xs L (c + 1) u' τ' (nI i + 4)) (f := u.2) hK hr hk⟩
      · exact R_apply (KK := fun u' τ' => lp_law (lnC Hd N K) xs L (c + 1) u' τ' (nI i + 4)) (f := u.2) hN hH hK hr hk
      · exact ⟨i1, R_moved (KK := fun u' τ' => lp_law (lnC Hd N K) xs L (c + 1) u' τ' (nI i + 4)) (f := u.2) hK hr hk⟩
theorem RR_0 {N K : Nat} (h1 : 1 ≤ N) (h2 : N ≤ 1023) : RR N K (sig0 N) (tau0 (nI N)) := by
  have hz : (0 : Int32).toNatClampNeg = 0 := by decide
  refine ⟨[(N, 0)], none, [], [], ⟨rfl, fun l1 n k l2 h => ?_⟩, ⟨?_, ⟨?_, fun j j1 j2 => ?_, rfl, fun q => absurd rfl q⟩, trivial⟩, ⟨rfl, okB_one h1 (Nat.zero_le _), h2⟩, ⟨fun c l' hc => (by cases hc), trivial⟩, rfl, ⟨rfl, rfl⟩, rfl, trivial, fun a h => (by cases h), Nat.zero_le _, ⟨rfl, rfl, fun a x b q => absurd q.symm (by simp), fun a x b q => absurd q.symm (by simp)⟩, ⟨rfl, rfl, fun a x b q => absurd q.symm (by simp), fun a x b q => absurd q.symm (by simp)⟩⟩
  · rcases sp_cons h.symm with ⟨rfl, q1, q2⟩ | ⟨c, rfl, q1⟩
    · injection q1 with q3 q4
      subst q3 q4
      refine ⟨rfl, ?_, rfl⟩
      show upd (fun _ => 0) ((0 : Int32).toNatClampNeg) (nI n * 4) 0 = nI (4 * n)
      rw [hz, upd_at, if_pos rfl, iLit 4, pk_mul, Nat.mul_comm]
    · exact absurd q1.symm (by simp)
  · rfl
  · rfl
  · have j2 : j < N := j2
    show upd (fun _ => 0) ((0 : Int32).toNatClampNeg) (nI N) (0 + j) = 0
    rw [hz, upd_at, if_neg (by omega)]
theorem pure_of {L Hd N K : Nat} {xs : Nat → Int32} (hL : L ≤ 2049) (h16 : 16 ≤ Hd) (hH : Hd ≤ 4096) (hN : N = (Hd - 3) / 4) (hK : K = min N 128) : Hd ≤ 4096 ∧ (nI Hd - 3) / 4 = nI N ∧ 1 ≤ N ∧ N ≤ 1023 ∧ K ≤ 128 ∧ (if 128 < (nI N) then 128 else (nI N)) = nI K ∧ ∀ f : Nat → Int64, lp_law (lnC Hd N K) xs L 513 (sig0 N, f) (tau0 (nI N)) 1 := by
  refine ⟨hH, ?_, by omega, by omega, by omega, ?_, fun f => ?_⟩
  · rw [iLit 3, iLit 4, pk_sub (by omega), pk_div (by omega) (by decide) (by decide), hN]
  · rw [iLit 128]
    by_cases q : 128 < N
    · rw [if_pos ((nI_ltI (by decide) (by omega)).mpr q), hK, Nat.min_eq_right (by omega)]
    · rw [if_neg (fun h => q ((nI_ltI (by decide) (by omega)).mp h)), hK, Nat.min_eq_left (by omega)]
  · exact pure_loop (by omega) hH hK hL 512 1 (sig0 N, f) (tau0 (nI N)) (RR_0 (by omega) (by omega)) (by omega) (by omega)
theorem pure_law : PureLaw := by
  intro L hL xs p1
  by_cases ha : 16 ≤ p1
  · obtain ⟨v, hv, rfl⟩ := nI_of (x := p1) (fun q => by
      have a := Int32.lt_iff_toInt_lt.mp q
      have b := Int32.le_iff_toInt_le.mp ha
      have c : (0 : Int32).toInt = 0 := by decide
      have d : (16 : Int32).toInt = 16 := by decide
      omega)
    rw [iLit 16, nI_leI (by decide) hv] at ha
    by_cases hb : nI v ≤ 4096
    · rw [iLit 4096, nI_leI hv (by decide)] at hb
      obtain ⟨g1, g2, g3, g4, g5, g6, g7⟩ := pure_of (xs := xs) hL ha hb rfl rfl
      refine ⟨v, (v - 3) / 4, min ((v - 3) / 4) 128, 513, ?_, g1, g2, g3, g4, g5, g6, fun q => absurd ?_ q, fun _ q => absurd ?_ q, fun _ _ => g2, by omega, g7⟩
      · rw [iLit 4096, iLit 16]
        by_cases q : v < 4096
        · rw [if_pos ((nI_ltI hv (by decide)).mpr q)]
          by_cases q2 : 16 < v
          · rw [if_pos ((nI_ltI (by decide) hv).mpr q2)]
          · rw [if_neg (fun h => q2 ((nI_ltI (by decide) hv).mp h)), show v = 16 by omega]
        · rw [if_neg (fun h => q ((nI_ltI hv (by decide)).mp h)), show v = 4096 by omega]
          exact if_pos (by rw [nI_ltI (show 16 < 2 ^ 31 by decide) (show 4096 < 2 ^ 31 by decide)]; decide)
      · rw [iLit 16, nI_leI (by decide) hv]; exact ha
      · rw [iLit 4096, nI_leI hv (by decide)]; exact hb
    · have hb' := hb
      rw [iLit 4096, nI_leI hv (by decide)] at hb'
      obtain ⟨g1, g2, g3, g4, g5, g6, g7⟩ := pure_of (xs := xs) (Hd := 4096) hL (by decide) (by decide) rfl rfl
      refine ⟨4096, (4096 - 3) / 4, min ((4096 - 3) / 4) 128, 513, ?_, g1, g2, g3, g4, g5, g6, fun q => absurd ?_ q, fun _ _ => g2, fun _ q => absurd q hb, by omega, g7⟩
      · have hc : ¬ nI v < nI 4096 := by
          rw [nI_ltI hv (show 4096 < 2 ^ 31 by decide)]
          omega
        rw [iLit 4096, iLit 16, if_neg hc]
        exact if_pos (by rw [nI_ltI (show 16 < 2 ^ 31 by decide) (show 4096 < 2 ^ 31 by decide)]; decide)
      · rw [iLit 16, nI_leI (by decide) hv]; exact ha
  · obtain ⟨g1, g2, g3, g4, g5, g6, g7⟩ := pure_of (xs := xs) (Hd := 16) hL (by decide) (by decide) rfl rfl
    refine ⟨16, (16 - 3) / 4, min ((16 - 3) / 4) 128, 513, ?_, g1, g2, g3, g4, g5, g6, fun _ => g2, fun q => absurd q ha, fun q => absurd q ha, by omega, g7⟩
    have hlt : ¬ 16 < p1 := fun q => ha (by
      have a := Int32.lt_iff_toInt_lt.mp q
      exact Int32.le_iff_toInt_le.mpr (by omega))
    have hlt2 : p1 < 4096 := by
      have a : ¬ (16 : Int32).toInt ≤ p1.toInt := fun q => ha (Int32.le_iff_toInt_le.mpr q)
      have d : (16 : Int32).toInt = 16 := by decide
      have e : (4096 : Int32).toInt = 4096 := by decide
      exact Int32.lt_iff_toInt_lt.mpr (by omega)
    rw [if_pos hlt2, if_neg hlt]
    rfl
