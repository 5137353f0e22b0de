/-! ===== keys in order; what the tree of such keys has ===== -/
def Srt (KS KL : Nat → Nat) (n : Nat) : Prop := ∀ k, k + 1 < n → gapF KS KL k < 72 ∧ bitr (KS k) (KL k) (gapF KS KL k) = 0
theorem nd_eta (G : Nat → Nat) (n b : Nat) : nd G n b = ((nd G n b).1, (nd G n b).2.1, (nd G n b).2.2.1, (nd G n b).2.2.2) := rfl
theorem nd_depth (G : Nat → Nat) (n : Nat) : ∀ b, b + 1 < n → (nd G n b).2.2.1 ≤ b := by
  intro b
  induction b using Nat.strongRecOn with
  | ind b ih =>
    intro hb
    cases b with
    | zero => rw [nd_0]; exact Nat.le_refl _
    | succ b =>
      obtain ⟨p, pf, pm, pd, pu, a1, a2, a3, a4, a5, -⟩ := go_up G n 0 0 n 0 0 (b + 1) _ _ _ _ (Nat.le_refl _) (by omega) (by omega) (nd_eta G n (b + 1))
      have a4 : nd G n p = (pf, pm, pd, pu) := a4
      have h := ih p (by omega) (by omega)
      rw [a4] at h
      have h : pd ≤ p := h
      omega
section TF
variable {KS KL : Nat → Nat} {n : Nat} {BB BD BM BL BF BA BK : Nat → Nat}
theorem tf_node (hTr : TrX (gapF KS KL) n BB BD BM BL BF BA BK) {b : Nat} (hb : b + 1 < n) : nd (gapF KS KL) n b = (BF b, BM b, BD b, BA b) := (hTr.1 b hb).1.symm
theorem tf_BL (hTr : TrX (gapF KS KL) n BB BD BM BL BF BA BK) {b : Nat} (hb : b + 1 < n) : BL b = lef (gapF KS KL) (BF b) (BM b) := by
  have h := (hTr.1 b hb).2.2
  rw [tf_node hTr hb] at h
  exact h
theorem tf_BB (hTr : TrX (gapF KS KL) n BB BD BM BL BF BA BK) {b : Nat} (hb : b + 1 < n) : BB b = gapF KS KL (am (gapF KS KL) (BF b) (BM b - 2)) := by
  have h := (hTr.1 b hb).2.1
  rw [tf_node hTr hb] at h
  exact h
theorem tf_in (hTr : TrX (gapF KS KL) n BB BD BM BL BF BA BK) {b : Nat} (hb : b + 1 < n) : 2 ≤ BM b ∧ BF b + BM b ≤ n ∧ b + BM b ≤ n ∧ BA b ≤ b ∧ 1 ≤ BL b ∧ BL b < BM b ∧ BD b ≤ b := by
  have h := nd_prop hb (tf_node hTr hb)
  have hz := lef_in (gapF KS KL) (f := BF b) (m := BM b) h.1
  have hd := nd_depth (gapF KS KL) n b hb
  rw [tf_node hTr hb] at hd
  rw [tf_BL hTr hb]
  exact ⟨h.1, h.2.1, h.2.2.1, h.2.2.2, hz.1, hz.2, hd⟩
theorem tf_leaf (hTr : TrX (gapF KS KL) n BB BD BM BL BF BA BK) {k : Nat} (hk : k < n) (hn : 2 ≤ n) : ∃ p, p + 1 < n ∧ BK k = p + 1 ∧ lf (gapF KS KL) n k = (BD p + 1, p + 1) ∧ ((k = BF p ∧ BL p = 1) ∨ (k = BF p + BL p ∧ BM p - BL p = 1)) := by
  obtain ⟨p, pf, pm, pd, pu, a1, a2, a3, a4, a5⟩ := gol_up (gapF KS KL) n 0 0 n 0 0 k (Nat.le_refl _) hn (Nat.zero_le _) (by omega)
  have a1 : lf (gapF KS KL) n k = (pd + 1, p + 1) := a1
  have a4 : nd (gapF KS KL) n p = (pf, pm, pd, pu) := a4
  have hp : p + 1 < n := by omega
  have e := tf_node hTr hp
  rw [a4] at e
  have e2 := tf_BL hTr hp
  cases e
  refine ⟨p, hp, ?_, a1, ?_⟩
  · rw [hTr.2 k hk, a1]
  · rw [e2]; exact a5
theorem tf_BK (hTr : TrX (gapF KS KL) n BB BD BM BL BF BA BK) (hn : n ≤ 24) : ∀ k, k < n → BK k < n := by
  intro k hk
  rcases Nat.lt_or_ge n 2 with g | g
  · have e : n = 1 := by omega
    subst e
    rw [hTr.2 k hk, lf_1]
    exact Nat.zero_lt_one
  · obtain ⟨p, h1, h2, -⟩ := tf_leaf hTr hk g
    omega
theorem tf_DKe (hTr : TrX (gapF KS KL) n BB BD BM BL BF BA BK) : ∀ k, k < n → dok BK BD k = (lf (gapF KS KL) n k).1 := by
  intro k hk
  rcases Nat.lt_or_ge n 2 with g | g
  · have e : n = 1 := by omega
    subst e
    have h := hTr.2 k hk
    rw [lf_1] at h
    unfold dok
    rw [if_pos h, lf_1]
  · obtain ⟨p, h1, h2, h3, -⟩ := tf_leaf hTr hk g
    unfold dok
    rw [h2, if_neg (by omega), h3]
    rfl
theorem tf_DK (hTr : TrX (gapF KS KL) n BB BD BM BL BF BA BK) (hn : n ≤ 24) : ∀ k, k < n → dok BK BD k ≤ 24 := by
  intro k hk
  rcases Nat.lt_or_ge n 2 with g | g
  · have e : n = 1 := by omega
    subst e
    rw [tf_DKe hTr k hk, lf_1]
    exact Nat.zero_le _
  · obtain ⟨p, h1, h2, h3, -⟩ := tf_leaf hTr hk g
    have h := tf_in hTr h1
    rw [tf_DKe hTr k hk, h3]
    show BD p + 1 ≤ 24
    omega
theorem tf_B (hTr : TrX (gapF KS KL) n BB BD BM BL BF BA BK) : ∀ b, b + 1 < n → BB b ≤ 72 := fun b hb => by rw [tf_BB hTr hb]; exact unl_le _ _ _ _
theorem tf_BF (hTr : TrX (gapF KS KL) n BB BD BM BL BF BA BK) (hn : n ≤ 24) : ∀ j, j + 1 < n → BF j ≤ 24 ∧ BM j ≤ 24 := fun j hj => by have := tf_in hTr hj; omega
theorem tf_T (hTr : TrX (gapF KS KL) n BB BD BM BL BF BA BK) (hso : Srt KS KL n) : ∀ b, b + 1 < n → 1 ≤ BL b ∧ BL b < BM b ∧ b + BM b ≤ n ∧ BB b < 72 ∧ BF b + BM b ≤ n := fun b hb => by
  have h := tf_in hTr hb
  have a := am_in (gapF KS KL) (BF b) (BM b - 2)
  have g := (hso (am (gapF KS KL) (BF b) (BM b - 2)) (by omega)).1
  rw [← tf_BB hTr hb] at g
  omega
theorem tf_up (hTr : TrX (gapF KS KL) n BB BD BM BL BF BA BK) {b : Nat} (hb : b + 1 < n) (h0 : 0 < b) : ∃ p, BA b = p + 1 ∧ p < b ∧ BD b = BD p + 1 ∧ ((b = p + 1 ∧ 2 ≤ BL p ∧ BF b = BF p ∧ BM b = BL p) ∨ (b = p + BL p ∧ 2 ≤ BM p - BL p ∧ BF b = BF p + BL p ∧ BM b = BM p - BL p)) := by
  obtain ⟨p, pf, pm, pd, pu, a1, a2, a3, a4, a5, a6⟩ := go_up (gapF KS KL) n 0 0 n 0 0 b _ _ _ _ (Nat.le_refl _) h0 (by omega) (tf_node hTr hb)
  have a4 : nd (gapF KS KL) n p = (pf, pm, pd, pu) := a4
  have hp : p + 1 < n := by omega
  have e := tf_node hTr hp
  have e2 := tf_BL hTr hp
  rw [a4] at e
  cases e
  exact ⟨p, a1, a3, a5, by rw [e2]; exact a6⟩
theorem tf_root (hTr : TrX (gapF KS KL) n BB BD BM BL BF BA BK) (hn : 2 ≤ n) : BF 0 = 0 ∧ BM 0 = n ∧ BD 0 = 0 ∧ BA 0 = 0 := by
  have h := tf_node hTr (b := 0) (by omega)
  rw [nd_0] at h
  exact ⟨(congrArg (fun x : Nat × Nat × Nat × Nat => x.1) h).symm, (congrArg (fun x : Nat × Nat × Nat × Nat => x.2.1) h).symm, (congrArg (fun x : Nat × Nat × Nat × Nat => x.2.2.1) h).symm, (congrArg (fun x : Nat × Nat × Nat × Nat => x.2.2.2) h).symm⟩
theorem tf_anc (hTr : TrX (gapF KS KL) n BB BD BM BL BF BA BK) (hn : n ≤ 24) : ∀ k, k < n → ∀ j, j < dok BK BD k → 0 < anc BA j (BK k) ∧ anc BA j (BK k) < n := by
  intro k hk
  rcases Nat.lt_or_ge n 2 with g | g
  · intro j hj
    have e : n = 1 := by omega
    subst e
    rw [tf_DKe hTr k hk, lf_1] at hj
    exact absurd hj (Nat.not_lt_zero _)
  · obtain ⟨p, h1, h2, h3, -⟩ := tf_leaf hTr hk g
    have hd : dok BK BD k = BD p + 1 := by rw [tf_DKe hTr k hk, h3]
    have key : ∀ j, j < dok BK BD k → ∃ q, anc BA j (BK k) = q + 1 ∧ q + 1 < n ∧ BD q + 1 + j = dok BK BD k := by
      intro j
      induction j with
      | zero => intro _; exact ⟨p, h2, h1, by omega⟩
      | succ j ih =>
        intro hj
        obtain ⟨q, q1, q2, q3⟩ := ih (by omega)
        have q0 : 0 < q := by
          rcases Nat.eq_zero_or_pos q with z | z
          · subst z
            have := tf_root hTr g
            omega
          · exact z
        obtain ⟨p2, r1, r2, r3, -⟩ := tf_up hTr q2 q0
        refine ⟨p2, ?_, by omega, by omega⟩
        show BA (anc BA j (BK k) - 1) = p2 + 1
        rw [q1]
        exact r1
    intro j hj
    obtain ⟨q, q1, q2, -⟩ := key j hj
    omega
end TF
