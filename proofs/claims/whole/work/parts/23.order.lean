/-! ===== words in order ===== -/
def Ls (s A t B : Nat) : Prop := unl s A t B < 72 ∧ bitr s A (unl s A t B) = 0
theorem ls_one {s A t B : Nat} (h : Ls s A t B) : bitr t B (unl s A t B) = 1 := by
  have h1 := unl_at h.1
  have h2 := bitr_lt t B (unl s A t B)
  have h3 := h.2
  omega
theorem ls_tri {s A t B r C : Nat} (h1 : Ls s A t B) (h2 : Ls t B r C) : unl s A r C = min (unl s A t B) (unl t B r C) ∧ Ls s A r C := by
  have a1 := h1.2
  have b1 := ls_one h1
  have b2 := h2.2
  have c2 := ls_one h2
  have hu := h1.1
  have hv := h2.1
  have key : unl s A r C = min (unl s A t B) (unl t B r C) := by
    rcases Nat.lt_trichotomy (unl s A t B) (unl t B r C) with g | g | g
    · rw [Nat.min_eq_left (by omega)]
      refine unl_is (by omega) (fun j hj => (unl_like hj).trans (unl_like (by omega))) (fun _ => ?_)
      rw [a1, ← unl_like g, b1]; omega
    · rw [g, b2] at b1; omega
    · rw [Nat.min_eq_right (by omega)]
      refine unl_is (by omega) (fun j hj => (unl_like (by omega)).trans (unl_like hj)) (fun _ => ?_)
      rw [unl_like g, b2, c2]; omega
  refine ⟨key, by rw [key]; omega, ?_⟩
  rw [key]
  rcases Nat.lt_trichotomy (unl s A t B) (unl t B r C) with g | g | g
  · rw [Nat.min_eq_left (by omega)]; exact a1
  · rw [g, b2] at b1; omega
  · rw [Nat.min_eq_right (by omega), unl_like g]; exact b2
theorem ls_irr {s A t B : Nat} (h : Ls s A t B) (h2 : Ls t B s A) : False := by
  have b := ls_one h
  have c := h2.2
  rw [unl_comm t B s A] at c
  omega
theorem ls_three {s A t B : Nat} : Ls s A t B ∨ unl s A t B = 72 ∨ Ls t B s A := by
  have h := unl_le s A t B
  rcases Nat.lt_or_ge (unl s A t B) 72 with g | g
  · have h1 := unl_at g
    have h2 := bitr_lt s A (unl s A t B)
    have h3 := bitr_lt t B (unl s A t B)
    rcases Nat.eq_zero_or_pos (bitr s A (unl s A t B)) with q | q
    · exact Or.inl ⟨g, q⟩
    · refine Or.inr (Or.inr ⟨by rw [unl_comm]; exact g, ?_⟩)
      rw [unl_comm]; omega
  · exact Or.inr (Or.inl (by omega))
/-- X's stop: not less -/
theorem stop_iff {s A t B : Nat} : (unl s A t B = 72 ∨ bitr t B (unl s A t B) = 0) ↔ ¬ Ls s A t B := by
  have h := unl_le s A t B
  constructor
  · rintro (g | g) q
    · have := q.1; omega
    · have := ls_one q; omega
  · intro q
    rcases Nat.lt_or_ge (unl s A t B) 72 with g | g
    · right
      have h1 := unl_at g
      have h2 := bitr_lt s A (unl s A t B)
      have h3 := bitr_lt t B (unl s A t B)
      have h4 : bitr s A (unl s A t B) ≠ 0 := fun z => q ⟨g, z⟩
      omega
    · left; omega
theorem plc_of {KS KL : Nat → Nat} {n s A k : Nat} (hk : k ≤ n) (h1 : ∀ j, j < k → Ls (KS j) (KL j) s A) (h2 : k < n → ¬ Ls (KS k) (KL k) s A) : plc KS KL n s A = k := plc_is hk (fun j hj q => (stop_iff.mp q) (h1 j hj)) (fun q => stop_iff.mpr (h2 q))
theorem plc_lt {KS KL : Nat → Nat} {n s A j : Nat} (h : j < plc KS KL n s A) : Ls (KS j) (KL j) s A := by
  have a := of_decide_eq_false (fa_first_no (fun k => decide (unl (KS k) (KL k) s A = 72 ∨ bitr s A (unl (KS k) (KL k) s A) = 0)) n j h)
  exact Classical.byContradiction (fun q => a (stop_iff.mpr q))
theorem plc_ge {KS KL : Nat → Nat} {n s A : Nat} (h : plc KS KL n s A < n) : ¬ Ls (KS (plc KS KL n s A)) (KL (plc KS KL n s A)) s A := by
  have a := of_decide_eq_true (fa_first_yes (fun k => decide (unl (KS k) (KL k) s A = 72 ∨ bitr s A (unl (KS k) (KL k) s A) = 0)) n h)
  exact stop_iff.mp a
/-- words with no unlike bit are the same -/
theorem wf_same {s A t B : Nat} (hA : Wf s A) (hB : Wf t B) (h : unl s A t B = 72) : s = t ∧ ∀ i, i < 8 → letr A i = letr B i := by
  have hl : ∀ j, j < 72 → bitr s A j = bitr t B j := fun j hj => unl_like (by omega)
  have e1 : s = t := by
    have hs := hA.1
    have ht := hB.1
    rcases Nat.lt_trichotomy s t with g | g | g
    · have := hl (9 * s) (by omega)
      rw [bitr_0, bitr_0, if_neg (by omega), if_pos g] at this; omega
    · exact g
    · have := hl (9 * t) (by omega)
      rw [bitr_0, bitr_0, if_pos g, if_neg (by omega)] at this; omega
  refine ⟨e1, fun i hi => ?_⟩
  have hb : ∀ z, z < 8 → letr A i / 2 ^ (7 - z) % 2 = letr B i / 2 ^ (7 - z) % 2 := fun z hz => by
    have := hl (9 * i + 1 + z) (by omega)
    rw [bitr_in _ _ _ _ hz, bitr_in _ _ _ _ hz] at this
    exact this
  by_cases q : letr A i = letr B i
  · exact q
  · have q2 : letr (A ^^^ B) i ≠ 0 := fun z => q ((letr_eq0 A B i).mp z)
    have hz := zah_ok q2 (letr_lt _ _)
    have a := fa_first_yes (fun z => decide (letr (A ^^^ B) i / 2 ^ (7 - z) % 2 ≠ 0)) 8 (by rw [← zah_def]; exact hz)
    rw [← zah_def] at a
    have b := (tb_xor (letr A i) (letr B i) (7 - zah (letr (A ^^^ B) i)))
    rw [← letr_xor] at b
    exact absurd (hb _ hz) (b.mp (of_decide_eq_true a))
/-- the same bits in eight: the same letter -/
theorem let_bits {s A t B i : Nat} (h : ∀ z, z < 8 → bitr s A (9 * i + 1 + z) = bitr t B (9 * i + 1 + z)) : letr A i = letr B i := by
  by_cases q : letr A i = letr B i
  · exact q
  · have q2 : letr (A ^^^ B) i ≠ 0 := fun z => q ((letr_eq0 A B i).mp z)
    have hz := zah_ok q2 (letr_lt _ _)
    have a := fa_first_yes (fun z => decide (letr (A ^^^ B) i / 2 ^ (7 - z) % 2 ≠ 0)) 8 (by rw [← zah_def]; exact hz)
    rw [← zah_def] at a
    have b := (tb_xor (letr A i) (letr B i) (7 - zah (letr (A ^^^ B) i)))
    rw [← letr_xor] at b
    have c := h _ hz
    rw [bitr_in _ _ _ _ hz, bitr_in _ _ _ _ hz] at c
    exact absurd c (b.mp (of_decide_eq_true a))
/-- one begins with another: the first 9 times its letters bits are alike -/
theorem begins_iff {s A t B : Nat} (hA : Wf s A) (hB : Wf t B) : 9 * t ≤ unl s A t B ↔ t ≤ s ∧ ∀ i, i < t → letr A i = letr B i := by
  have hs := hA.1
  have ht := hB.1
  constructor
  · intro h
    have hl : ∀ j, j < 9 * t → bitr s A j = bitr t B j := fun j hj => unl_like (by omega)
    refine ⟨?_, fun i hi => let_bits (fun z hz => hl _ (by omega))⟩
    rcases Nat.lt_or_ge s t with g | g
    · have := hl (9 * s) (by omega)
      rw [bitr_0, bitr_0, if_neg (by omega), if_pos g] at this; omega
    · exact g
  · rintro ⟨h1, h2⟩
    rcases Nat.lt_or_ge (unl s A t B) (9 * t) with g | g
    · exact absurd (like_upto h2 h1 (Nat.le_refl _) _ g) (unl_at (by omega))
    · exact g
theorem bitr_out {s A i : Nat} (hA : Wf s A) (hi : i < 72) (h : s ≤ i / 9) : bitr s A i = 0 := by
  unfold bitr
  by_cases g : i % 9 = 0
  · rw [if_pos g, if_neg (by omega)]
  · rw [if_neg g, hA.2.2 _ h (by omega), Nat.zero_div]
section SQ
variable {T B : Nat → Nat} {n : Nat}
theorem sq_ls (h : Srt T B n) : ∀ d f, 1 ≤ d → f + d < n → Ls (T f) (B f) (T (f + d)) (B (f + d)) := by
  intro d
  induction d with
  | zero => intro f h1; omega
  | succ d ih =>
    intro f _ hf
    rcases Nat.eq_zero_or_pos d with e | e
    · subst e
      exact h f (by omega)
    · have h1 := ih f e (by omega)
      have h2 : Ls (T (f + d)) (B (f + d)) (T (f + d + 1)) (B (f + d + 1)) := h (f + d) (by omega)
      exact (ls_tri h1 h2).2
theorem sq_lt (h : Srt T B n) {i j : Nat} (hij : i < j) (hj : j < n) : Ls (T i) (B i) (T j) (B j) := by
  have := sq_ls h (j - i) i (by omega) (by omega)
  rw [show i + (j - i) = j by omega] at this
  exact this
theorem sq_min (h : Srt T B n) (f : Nat) : ∀ i, f + i + 1 < n → unl (T f) (B f) (T (f + i + 1)) (B (f + i + 1)) = gapF T B (am (gapF T B) f i) := by
  intro i
  induction i with
  | zero => intro _; rfl
  | succ i ih =>
    intro hi
    have h1 := sq_ls h (i + 1) f (by omega) (by omega)
    have h2 : Ls (T (f + i + 1)) (B (f + i + 1)) (T (f + (i + 1) + 1)) (B (f + (i + 1) + 1)) := h (f + i + 1) (by omega)
    have e := (ls_tri (show Ls (T f) (B f) (T (f + i + 1)) (B (f + i + 1)) from h1) h2).1
    have e2 := ih (by omega)
    have e3 : unl (T (f + i + 1)) (B (f + i + 1)) (T (f + (i + 1) + 1)) (B (f + (i + 1) + 1)) = gapF T B (f + i + 1) := rfl
    rw [e, e2, e3]
    show _ = gapF T B (if gapF T B (f + i + 1) < gapF T B (am (gapF T B) f i) then f + i + 1 else am (gapF T B) f i)
    split
    · rw [Nat.min_eq_right (by omega)]
    · rw [Nat.min_eq_left (by omega)]
theorem sq_zero (h : Srt T B n) {f m i : Nat} (hm : 2 ≤ m) (hf : f + m ≤ n) (h1 : f ≤ i) (h2 : i ≤ am (gapF T B) f (m - 2)) : bitr (T i) (B i) (gapF T B (am (gapF T B) f (m - 2))) = 0 := by
  have ha := am_in (gapF T B) f (m - 2)
  have hz := (h (am (gapF T B) f (m - 2)) (by omega)).2
  rcases Nat.eq_or_lt_of_le h2 with e | e
  · rw [e]; exact hz
  · have hu := sq_min h i (am (gapF T B) f (m - 2) - i - 1) (by omega)
    rw [show i + (am (gapF T B) f (m - 2) - i - 1) + 1 = am (gapF T B) f (m - 2) by omega] at hu
    have hb := am_in (gapF T B) i (am (gapF T B) f (m - 2) - i - 1)
    have hg := am_first (gapF T B) f (m - 2) (am (gapF T B) i (am (gapF T B) f (m - 2) - i - 1)) (by omega) (by omega)
    rw [← hu] at hg
    rw [unl_like hg]
    exact hz
theorem sq_one (h : Srt T B n) {f m : Nat} (hm : 2 ≤ m) (hf : f + m ≤ n) : bitr (T (am (gapF T B) f (m - 2) + 1)) (B (am (gapF T B) f (m - 2) + 1)) (gapF T B (am (gapF T B) f (m - 2))) = 1 := by
  have ha := am_in (gapF T B) f (m - 2)
  exact ls_one (h (am (gapF T B) f (m - 2)) (by omega))
end SQ
/-! ===== how the reference holds keys and words ===== -/
def RN (NW KS KL KW : Nat → Nat) (n : Nat) : Prop := NW 0 = n ∧ ∀ k, k < n → NW (1 + k) = KS k ∧ NW (25 + k) = KW k ∧ ∀ i, i < KS k → NW (49 + 8 * k + i) = letr (KL k) i
def RW (WD : Nat → Nat) (s A : Nat) : Prop := ∀ i, i < s → WD i = letr A i
/-- place k (24: the word) holds the word (t, B) -/
def Hd (KS KL : Nat → Nat) (n s A k t B : Nat) : Prop := (k = 24 ∧ t = s ∧ B = A) ∨ (k < n ∧ t = KS k ∧ B = KL k)
theorem hd_wf {KS KL : Nat → Nat} {n s A k t B : Nat} (hk : ∀ k, k < n → Wf (KS k) (KL k)) (hw0 : Wf s A) (h : Hd KS KL n s A k t B) : Wf t B := by
  rcases h with ⟨-, rfl, rfl⟩ | ⟨h, rfl, rfl⟩
  · exact hw0
  · exact hk _ h
