/-! ===== words: letters, bits, the first unlike bit ===== -/
theorem n_max {a b : Nat} (ha : a < 2 ^ 31) (hb : b < 2 ^ 31) : (if nI a < nI b then nI b else nI a) = nI (max a b) := by
  by_cases h : a < b
  · rw [if_pos ((nI_ltI ha hb).mpr h), Nat.max_eq_right (by omega)]
  · rw [if_neg (fun q => h ((nI_ltI ha hb).mp q)), Nat.max_eq_left (by omega)]
theorem n_min {a b : Nat} (ha : a < 2 ^ 31) (hb : b < 2 ^ 31) : (if nI b < nI a then nI b else nI a) = nI (min a b) := by
  by_cases h : b < a
  · rw [if_pos ((nI_ltI hb ha).mpr h), Nat.min_eq_right (by omega)]
  · rw [if_neg (fun q => h ((nI_ltI hb ha).mp q)), Nat.min_eq_left (by omega)]
theorem sh_l : ∀ n, n < 32 → ((nI n &&& 31).toBitVec.smod 32).toNat = n := by decide +kernel
theorem sh_r {n k : Nat} (hn : n < 2 ^ 31) (hk : k < 32) : nI n >>> (nI k &&& 31) = nI (n / 2 ^ k) := pk_shrN hn _ k (sh_l k hk)
theorem first_is {p : Nat → Bool} {n k : Nat} (hk : k ≤ n) (h1 : ∀ j, j < k → p j = false) (h2 : k < n → p k = true) : fa_first p n = k := by
  rcases Nat.lt_trichotomy (fa_first p n) k with h | h | h
  · have a := fa_first_yes p n (by omega)
    rw [h1 _ h] at a
    cases a
  · exact h
  · have a := fa_first_no p n k h
    have b := fa_first_le p n
    rw [h2 (by omega)] at a
    cases a
def letr (A i : Nat) : Nat := A / 2 ^ (64 - 8 * (i + 1)) % 256
def bitr (s A i : Nat) : Nat := if i % 9 = 0 then (if i / 9 < s then 1 else 0) else letr A (i / 9) / 2 ^ (8 - i % 9) % 2
/-- a function that no unifier unfolds -/
theorem hide_ex {α : Type} (f : α) : ∃ g : α, g = f := ⟨f, rfl⟩
noncomputable def hide {α : Type} (f : α) : α := Classical.choose (hide_ex f)
theorem hide_eq {α : Type} (f : α) : hide f = f := Classical.choose_spec (hide_ex f)
noncomputable def unl (s A t B : Nat) : Nat := hide (fun s A t B => fa_first (fun i => decide (bitr s A i ≠ bitr t B i)) 72) s A t B
theorem unl_def (s A t B : Nat) : unl s A t B = fa_first (fun i => decide (bitr s A i ≠ bitr t B i)) 72 := by unfold unl; rw [hide_eq]
/-- zeros ahead of the first one in eight bits -/
noncomputable def zah (q : Nat) : Nat := hide (fun q => fa_first (fun z => decide (q / 2 ^ (7 - z) % 2 ≠ 0)) 8) q
theorem zah_def (q : Nat) : zah q = fa_first (fun z => decide (q / 2 ^ (7 - z) % 2 ≠ 0)) 8 := by unfold zah; rw [hide_eq]
def Wf (s A : Nat) : Prop := s ≤ 8 ∧ A < 2 ^ 64 ∧ ∀ i, s ≤ i → i < 8 → letr A i = 0
theorem letr_lt (A i : Nat) : letr A i < 256 := Nat.mod_lt _ (by decide)
theorem bitr_lt (s A i : Nat) : bitr s A i < 2 := by
  unfold bitr
  split
  · split <;> omega
  · exact Nat.mod_lt _ (by decide)
theorem unl_le (s A t B : Nat) : unl s A t B ≤ 72 := by rw [unl_def]; exact fa_first_le _ _
theorem unl_like {s A t B i : Nat} (h : i < unl s A t B) : bitr s A i = bitr t B i := by
  have a := of_decide_eq_false (fa_first_no (fun i => decide (bitr s A i ≠ bitr t B i)) 72 i (by rw [← unl_def]; exact h))
  exact Decidable.of_not_not a
theorem unl_at {s A t B : Nat} (h : unl s A t B < 72) : bitr s A (unl s A t B) ≠ bitr t B (unl s A t B) := by
  have a := fa_first_yes (fun i => decide (bitr s A i ≠ bitr t B i)) 72 (by rw [← unl_def]; exact h)
  rw [← unl_def] at a
  exact of_decide_eq_true a
theorem unl_is {s A t B k : Nat} (hk : k ≤ 72) (h1 : ∀ j, j < k → bitr s A j = bitr t B j) (h2 : k < 72 → bitr s A k ≠ bitr t B k) : unl s A t B = k := by rw [unl_def]; exact first_is hk (fun j hj => decide_eq_false (fun q => q (h1 j hj))) (fun q => decide_eq_true (h2 q))
theorem unl_comm (s A t B : Nat) : unl s A t B = unl t B s A := by
  refine unl_is (unl_le _ _ _ _) (fun j hj => (unl_like hj).symm) (fun h => (unl_at h).symm)
theorem unl_self (s A : Nat) : unl s A s A = 72 := unl_is (Nat.le_refl _) (fun _ _ => rfl) (fun h => absurd h (by omega))
theorem tb_xor (a b k : Nat) : (a ^^^ b) / 2 ^ k % 2 ≠ 0 ↔ a / 2 ^ k % 2 ≠ b / 2 ^ k % 2 := by
  have h := Nat.testBit_xor a b k
  rw [Nat.testBit_eq_decide_div_mod_eq, Nat.testBit_eq_decide_div_mod_eq, Nat.testBit_eq_decide_div_mod_eq] at h
  have h1 := Nat.mod_lt (a / 2 ^ k) (show 0 < 2 by decide)
  have h2 := Nat.mod_lt (b / 2 ^ k) (show 0 < 2 by decide)
  have h3 := Nat.mod_lt ((a ^^^ b) / 2 ^ k) (show 0 < 2 by decide)
  generalize a / 2 ^ k % 2 = x at *
  generalize b / 2 ^ k % 2 = y at *
  generalize (a ^^^ b) / 2 ^ k % 2 = z at *
  have e1 : x = 0 ∨ x = 1 := by omega
  have e2 : y = 0 ∨ y = 1 := by omega
  have e3 : z = 0 ∨ z = 1 := by omega
  rcases e1 with rfl | rfl <;> rcases e2 with rfl | rfl <;> rcases e3 with rfl | rfl <;> simp_all
theorem letr_xor (A B i : Nat) : letr (A ^^^ B) i = letr A i ^^^ letr B i := by
  unfold letr
  generalize 64 - 8 * (i + 1) = k
  rw [← Nat.shiftRight_eq_div_pow, ← Nat.shiftRight_eq_div_pow, ← Nat.shiftRight_eq_div_pow, Nat.shiftRight_xor_distrib]
  exact Nat.xor_mod_two_pow (n := 8)
theorem letr_eq0 (A B i : Nat) : letr (A ^^^ B) i = 0 ↔ letr A i = letr B i := by
  rw [letr_xor]
  constructor
  · intro h
    have h2 : letr A i ^^^ (letr A i ^^^ letr B i) = letr B i := by rw [← Nat.xor_assoc, Nat.xor_self, Nat.zero_xor]
    rw [h, Nat.xor_zero] at h2
    exact h2
  · intro h
    rw [h, Nat.xor_self]
/-- the bits of letter i -/
theorem bitr_in (s A i z : Nat) (hz : z < 8) : bitr s A (9 * i + 1 + z) = letr A i / 2 ^ (7 - z) % 2 := by
  unfold bitr
  rw [if_neg (by omega), show (9 * i + 1 + z) / 9 = i by omega, show 8 - (9 * i + 1 + z) % 9 = 7 - z by omega]
theorem bitr_0 (s A i : Nat) : bitr s A (9 * i) = if i < s then 1 else 0 := by
  unfold bitr
  rw [if_pos (by omega), show 9 * i / 9 = i by omega]
theorem ix9 (j : Nat) : j = 9 * (j / 9) ∨ ∃ z, z < 8 ∧ j = 9 * (j / 9) + 1 + z := by
  by_cases h : j % 9 = 0
  · left; omega
  · right; exact ⟨j % 9 - 1, by omega, by omega⟩
/-- like ahead of letter i -/
theorem like_upto {s A t B i : Nat} (h : ∀ j, j < i → letr A j = letr B j) (hs : i ≤ s) (ht : i ≤ t) (j : Nat) (hj : j < 9 * i) : bitr s A j = bitr t B j := by
  rcases ix9 j with e | ⟨z, hz, e⟩
  · rw [e, bitr_0, bitr_0, if_pos (by omega), if_pos (by omega)]
  · rw [e, bitr_in _ _ _ _ hz, bitr_in _ _ _ _ hz, h _ (by omega)]
theorem zah_ok {q : Nat} (h0 : q ≠ 0) (h : q < 256) : zah q < 8 := by
  have key : ∀ q, q < 256 → q ≠ 0 → fa_first (fun z => decide (q / 2 ^ (7 - z) % 2 ≠ 0)) 8 < 8 := by decide +kernel
  rw [zah_def]
  exact key q h h0
theorem unl_letter {s A t B i : Nat} (h : ∀ j, j < i → letr A j = letr B j) (hs : i < s) (ht : i < t) (hi : i < 8) (hne : letr (A ^^^ B) i ≠ 0) : unl s A t B = 9 * i + 1 + zah (letr (A ^^^ B) i) := by
  have hz := zah_ok hne (letr_lt _ _)
  refine unl_is (by omega) (fun j hj => ?_) (fun _ => ?_)
  · rcases Nat.lt_or_ge j (9 * i) with q | q
    · exact like_upto h (by omega) (by omega) j q
    · rcases ix9 j with e | ⟨z, hz2, e⟩
      · have e2 : j / 9 = i := by omega
        rw [e, e2, bitr_0, bitr_0, if_pos hs, if_pos ht]
      · have e2 : j / 9 = i := by omega
        rw [e2] at e
        have a := fa_first_no (fun z => decide (letr (A ^^^ B) i / 2 ^ (7 - z) % 2 ≠ 0)) 8 z (show z < _ by rw [← zah_def]; omega)
        rw [e, bitr_in _ _ _ _ hz2, bitr_in _ _ _ _ hz2]
        rw [letr_xor] at a
        have b := (tb_xor (letr A i) (letr B i) (7 - z))
        by_cases c : letr A i / 2 ^ (7 - z) % 2 = letr B i / 2 ^ (7 - z) % 2
        · exact c
        · have d := b.mpr c
          simp [d] at a
  · have a := fa_first_yes (fun z => decide (letr (A ^^^ B) i / 2 ^ (7 - z) % 2 ≠ 0)) 8 (by rw [← zah_def]; exact hz)
    rw [← zah_def] at a
    rw [bitr_in _ _ _ _ hz, bitr_in _ _ _ _ hz]
    have b := (tb_xor (letr A i) (letr B i) (7 - zah (letr (A ^^^ B) i)))
    rw [← letr_xor] at b
    exact b.mp (of_decide_eq_true a)
theorem unl_end {s A t B : Nat} (hA : Wf s A) (hB : Wf t B) (h : ∀ j, j < min s t → letr A j = letr B j) : unl s A t B = if s = t then 72 else 9 * min s t := by
  by_cases e : s = t
  · subst e
    rw [if_pos rfl]
    rw [Nat.min_self] at h
    have hh : ∀ j, j < 8 → letr A j = letr B j := fun j hj => by
      rcases Nat.lt_or_ge j s with q | q
      · exact h j q
      · rw [hA.2.2 j q hj, hB.2.2 j q hj]
    refine unl_is (Nat.le_refl _) (fun j hj => ?_) (fun q => absurd q (by omega))
    rcases ix9 j with e | ⟨z, hz, e⟩
    · rw [e, bitr_0, bitr_0]
    · rw [e, bitr_in _ _ _ _ hz, bitr_in _ _ _ _ hz, hh _ (by omega)]
  · rw [if_neg e]
    have h1 := hA.1
    have h2 := hB.1
    refine unl_is (by omega) (fun j hj => like_upto h (Nat.min_le_left _ _) (Nat.min_le_right _ _) j hj) (fun _ => ?_)
    rw [bitr_0, bitr_0]
    rcases Nat.lt_or_ge s t with q | q
    · rw [if_neg (by omega), if_pos (by omega)]; omega
    · rw [if_pos (by omega), if_neg (by omega)]; omega
