/-! ===== the tree over a row of gaps: nodes by number, leaves by key ===== -/
/-- the first least gap of i + 1 from f on -/
def am (G : Nat → Nat) (f : Nat) : Nat → Nat
  | 0 => f
  | i + 1 => if G (f + i + 1) < G (am G f i) then f + i + 1 else am G f i
theorem am_in (G : Nat → Nat) (f : Nat) : ∀ i, f ≤ am G f i ∧ am G f i ≤ f + i
  | 0 => ⟨Nat.le_refl _, Nat.le_refl _⟩
  | i + 1 => by
    have h := am_in G f i
    unfold am
    split <;> omega
theorem am_least (G : Nat → Nat) (f : Nat) : ∀ i k, f ≤ k → k ≤ f + i → G (am G f i) ≤ G k
  | 0, k, h1, h2 => by
    have e : k = f := by omega
    subst e
    exact Nat.le_refl _
  | i + 1, k, h1, h2 => by
    have h := am_least G f i
    unfold am
    split
    · rename_i g
      rcases Nat.lt_or_ge (f + i) k with q | q
      · rw [show k = f + i + 1 by omega]; exact Nat.le_refl _
      · have := h k h1 q; omega
    · rename_i g
      rcases Nat.lt_or_ge (f + i) k with q | q
      · rw [show k = f + i + 1 by omega]; omega
      · exact h k h1 q
theorem am_first (G : Nat → Nat) (f : Nat) : ∀ i k, f ≤ k → k < am G f i → G (am G f i) < G k
  | 0, k, h1, h2 => absurd h2 (by unfold am; omega)
  | i + 1, k, h1, h2 => by
    have h := am_first G f i
    have hl := am_least G f i
    have hi := am_in G f i
    unfold am at h2 ⊢
    split
    · rename_i g
      rw [if_pos g] at h2
      have := hl k h1 (by omega)
      omega
    · rename_i g
      rw [if_neg g] at h2
      exact h k h1 h2
theorem am_is {G : Nat → Nat} {f i k : Nat} (h1 : f ≤ k) (h2 : k ≤ f + i) (h3 : ∀ j, f ≤ j → j ≤ f + i → G k ≤ G j) (h4 : ∀ j, f ≤ j → j < k → G k < G j) : am G f i = k := by
  have a := am_in G f i
  have b := am_least G f i k h1 h2
  have c := h3 _ a.1 a.2
  rcases Nat.lt_trichotomy (am G f i) k with q | q | q
  · have := h4 _ a.1 q; omega
  · exact q
  · have := am_first G f i k h1 q; omega
theorem am_congr {G G' : Nat → Nat} {f : Nat} : ∀ {i : Nat}, (∀ k, f ≤ k → k ≤ f + i → G k = G' k) → am G f i = am G' f i
  | 0, _ => rfl
  | i + 1, h => by
    have e := am_congr (G := G) (G' := G') (f := f) (i := i) (fun k h1 h2 => h k h1 (by omega))
    have a := am_in G' f i
    unfold am
    rw [e, h (f + i + 1) (by omega) (by omega), h (am G' f i) a.1 (by omega)]
/-- how many of m keys from f on are on the left side -/
def lef (G : Nat → Nat) (f m : Nat) : Nat := am G f (m - 2) + 1 - f
theorem lef_in (G : Nat → Nat) {f m : Nat} (h : 2 ≤ m) : 1 ≤ lef G f m ∧ lef G f m < m := by
  have a := am_in G f (m - 2)
  unfold lef
  omega
theorem lef_congr {G G' : Nat → Nat} {f m : Nat} (hm : 2 ≤ m) (h : ∀ k, f ≤ k → k + 1 < f + m → G k = G' k) : lef G f m = lef G' f m := by
  unfold lef
  rw [am_congr (fun k h1 h2 => h k h1 (by omega))]
/-- of node b below the node b0 (its first key, keys, depth, the one above and 1 more): the same -/
def go (G : Nat → Nat) : Nat → Nat → Nat → Nat → Nat → Nat → Nat → Nat × Nat × Nat × Nat
  | 0, _, f, m, d, u, _ => (f, m, d, u)
  | t + 1, b0, f, m, d, u, b => if b = b0 then (f, m, d, u) else if b < b0 + lef G f m then go G t (b0 + 1) f (lef G f m) (d + 1) (b0 + 1) b else go G t (b0 + lef G f m) (f + lef G f m) (m - lef G f m) (d + 1) (b0 + 1) b
theorem go_self (G : Nat → Nat) (t b0 f m d u : Nat) : go G t b0 f m d u b0 = (f, m, d, u) := by
  cases t with
  | zero => rfl
  | succ t => unfold go; rw [if_pos rfl]
theorem go_left (G : Nat → Nat) {t b0 f m d u b : Nat} (h1 : b0 < b) (h2 : b < b0 + lef G f m) : go G (t + 1) b0 f m d u b = go G t (b0 + 1) f (lef G f m) (d + 1) (b0 + 1) b := by
  show (if b = b0 then _ else if b < b0 + lef G f m then _ else _) = _
  rw [if_neg (by omega), if_pos h2]
theorem go_right (G : Nat → Nat) {t b0 f m d u b : Nat} (h1 : b0 < b) (h2 : b0 + lef G f m ≤ b) : go G (t + 1) b0 f m d u b = go G t (b0 + lef G f m) (f + lef G f m) (m - lef G f m) (d + 1) (b0 + 1) b := by
  show (if b = b0 then _ else if b < b0 + lef G f m then _ else _) = _
  rw [if_neg (by omega), if_neg (by omega)]
theorem go_prop (G : Nat → Nat) : ∀ (t b0 f m d u b rf rm rd ru : Nat), m ≤ t → b0 ≤ b → b + 1 < b0 + m → go G t b0 f m d u b = (rf, rm, rd, ru) → 2 ≤ rm ∧ f ≤ rf ∧ rf + rm ≤ f + m ∧ b + rm ≤ b0 + m ∧ d ≤ rd := by
  intro t
  induction t with
  | zero => intro b0 f m d u b rf rm rd ru h1 h2 h3; omega
  | succ t ih =>
    intro b0 f m d u b rf rm rd ru h1 h2 h3 h
    have hz := lef_in G (f := f) (m := m) (by omega)
    rcases Nat.eq_or_lt_of_le h2 with e | e
    · subst e
      rw [go_self] at h
      cases h
      omega
    · rcases Nat.lt_or_ge b (b0 + lef G f m) with q | q
      · rw [go_left G e q] at h
        have := ih _ _ _ _ _ _ _ _ _ _ (by omega) (by omega) (by omega) h
        omega
      · rw [go_right G e q] at h
        have := ih _ _ _ _ _ _ _ _ _ _ (by omega) (by omega) (by omega) h
        omega
theorem go_child (G : Nat → Nat) : ∀ (t b0 f m d u b rf rm rd ru : Nat), m ≤ t → b0 ≤ b → b + 1 < b0 + m → go G t b0 f m d u b = (rf, rm, rd, ru) → (2 ≤ lef G rf rm → go G t b0 f m d u (b + 1) = (rf, lef G rf rm, rd + 1, b + 1)) ∧ (2 ≤ rm - lef G rf rm → go G t b0 f m d u (b + lef G rf rm) = (rf + lef G rf rm, rm - lef G rf rm, rd + 1, b + 1)) := by
  intro t
  induction t with
  | zero => intro b0 f m d u b rf rm rd ru h1 h2 h3; omega
  | succ t ih =>
    intro b0 f m d u b rf rm rd ru h1 h2 h3 h
    have hz := lef_in G (f := f) (m := m) (by omega)
    have hp := go_prop G _ _ _ _ _ _ _ _ _ _ _ h1 h2 h3 h
    have hr := lef_in G (f := rf) (m := rm) hp.1
    rcases Nat.eq_or_lt_of_le h2 with e | e
    · subst e
      rw [go_self] at h
      cases h
      refine ⟨fun g => ?_, fun g => ?_⟩
      · rw [go_left G (by omega) (by omega), go_self]
      · rw [go_right G (by omega) (by omega), go_self]
    · rcases Nat.lt_or_ge b (b0 + lef G f m) with q | q
      · rw [go_left G e q] at h
        have hp2 := go_prop G _ _ _ _ _ _ _ _ _ _ _ (by omega) (by omega) (by omega) h
        have hi := ih _ _ _ _ _ _ _ _ _ _ (by omega) (by omega) (by omega) h
        refine ⟨fun g => ?_, fun g => ?_⟩
        · rw [go_left G (by omega) (by omega)]; exact hi.1 g
        · rw [go_left G (by omega) (by omega)]; exact hi.2 g
      · rw [go_right G e q] at h
        have hi := ih _ _ _ _ _ _ _ _ _ _ (by omega) (by omega) (by omega) h
        refine ⟨fun g => ?_, fun g => ?_⟩
        · rw [go_right G (by omega) (by omega)]; exact hi.1 g
        · rw [go_right G (by omega) (by omega)]; exact hi.2 g
theorem go_up (G : Nat → Nat) : ∀ (t b0 f m d u b rf rm rd ru : Nat), m ≤ t → b0 < b → b + 1 < b0 + m → go G t b0 f m d u b = (rf, rm, rd, ru) → ∃ p pf pm pd pu, ru = p + 1 ∧ b0 ≤ p ∧ p < b ∧ go G t b0 f m d u p = (pf, pm, pd, pu) ∧ rd = pd + 1 ∧ ((b = p + 1 ∧ 2 ≤ lef G pf pm ∧ rf = pf ∧ rm = lef G pf pm) ∨ (b = p + lef G pf pm ∧ 2 ≤ pm - lef G pf pm ∧ rf = pf + lef G pf pm ∧ rm = pm - lef G pf pm)) := by
  intro t
  induction t with
  | zero => intro b0 f m d u b rf rm rd ru h1 h2 h3; omega
  | succ t ih =>
    intro b0 f m d u b rf rm rd ru h1 h2 h3 h
    have hz := lef_in G (f := f) (m := m) (by omega)
    rcases Nat.lt_or_ge b (b0 + lef G f m) with q | q
    · rw [go_left G h2 q] at h
      rcases Nat.eq_or_lt_of_le (show b0 + 1 ≤ b by omega) with e | e
      · subst e
        rw [go_self] at h
        cases h
        exact ⟨b0, f, m, d, u, rfl, Nat.le_refl _, by omega, go_self _ _ _ _ _ _ _, rfl, Or.inl ⟨rfl, by omega, rfl, rfl⟩⟩
      · obtain ⟨p, pf, pm, pd, pu, a1, a2, a3, a4, a5⟩ := ih _ _ _ _ _ _ _ _ _ _ (by omega) e (by omega) h
        exact ⟨p, pf, pm, pd, pu, a1, by omega, a3, by rw [go_left G (by omega) (by omega)]; exact a4, a5⟩
    · rw [go_right G h2 q] at h
      rcases Nat.eq_or_lt_of_le q with e | e
      · rw [← e, go_self] at h
        cases h
        exact ⟨b0, f, m, d, u, rfl, Nat.le_refl _, by omega, go_self _ _ _ _ _ _ _, rfl, Or.inr ⟨e.symm, by omega, rfl, rfl⟩⟩
      · obtain ⟨p, pf, pm, pd, pu, a1, a2, a3, a4, a5⟩ := ih _ _ _ _ _ _ _ _ _ _ (by omega) e (by omega) h
        exact ⟨p, pf, pm, pd, pu, a1, by omega, a3, by rw [go_right G (by omega) (by omega)]; exact a4, a5⟩
/-- of key k below the node b0: its depth, the node above it and 1 more -/
def gol (G : Nat → Nat) : Nat → Nat → Nat → Nat → Nat → Nat → Nat → Nat × Nat
  | 0, _, _, _, d, u, _ => (d, u)
  | t + 1, b0, f, m, d, u, k => if m ≤ 1 then (d, u) else if k < f + lef G f m then gol G t (b0 + 1) f (lef G f m) (d + 1) (b0 + 1) k else gol G t (b0 + lef G f m) (f + lef G f m) (m - lef G f m) (d + 1) (b0 + 1) k
theorem gol_1 (G : Nat → Nat) {t b0 f m d u k : Nat} (h : m ≤ 1) : gol G t b0 f m d u k = (d, u) := by
  cases t with
  | zero => rfl
  | succ t => unfold gol; rw [if_pos h]
theorem gol_left (G : Nat → Nat) {t b0 f m d u k : Nat} (h : 2 ≤ m) (h2 : k < f + lef G f m) : gol G (t + 1) b0 f m d u k = gol G t (b0 + 1) f (lef G f m) (d + 1) (b0 + 1) k := by
  show (if m ≤ 1 then _ else if k < f + lef G f m then _ else _) = _
  rw [if_neg (by omega), if_pos h2]
theorem gol_right (G : Nat → Nat) {t b0 f m d u k : Nat} (h : 2 ≤ m) (h2 : f + lef G f m ≤ k) : gol G (t + 1) b0 f m d u k = gol G t (b0 + lef G f m) (f + lef G f m) (m - lef G f m) (d + 1) (b0 + 1) k := by
  show (if m ≤ 1 then _ else if k < f + lef G f m then _ else _) = _
  rw [if_neg (by omega), if_neg (by omega)]
theorem gol_up (G : Nat → Nat) : ∀ (t b0 f m d u k : Nat), m ≤ t → 2 ≤ m → f ≤ k → k < f + m → ∃ p pf pm pd pu, gol G t b0 f m d u k = (pd + 1, p + 1) ∧ b0 ≤ p ∧ p + 1 < b0 + m ∧ go G t b0 f m d u p = (pf, pm, pd, pu) ∧ ((k = pf ∧ lef G pf pm = 1) ∨ (k = pf + lef G pf pm ∧ pm - lef G pf pm = 1)) := by
  intro t
  induction t with
  | zero => intro b0 f m d u k h1 h2; omega
  | succ t ih =>
    intro b0 f m d u k h1 h2 h3 h4
    have hz := lef_in G (f := f) (m := m) h2
    rcases Nat.lt_or_ge k (f + lef G f m) with q | q
    · rw [gol_left G h2 q]
      rcases Nat.lt_or_ge (lef G f m) 2 with e | e
      · rw [gol_1 G (by omega)]
        exact ⟨b0, f, m, d, u, rfl, Nat.le_refl _, by omega, go_self _ _ _ _ _ _ _, Or.inl ⟨by omega, by omega⟩⟩
      · obtain ⟨p, pf, pm, pd, pu, a1, a2, a3, a4, a5⟩ := ih (b0 + 1) f (lef G f m) (d + 1) (b0 + 1) k (by omega) e h3 q
        exact ⟨p, pf, pm, pd, pu, a1, by omega, by omega, by rw [go_left G (by omega) (by omega)]; exact a4, a5⟩
    · rw [gol_right G h2 q]
      rcases Nat.lt_or_ge (m - lef G f m) 2 with e | e
      · rw [gol_1 G (by omega)]
        exact ⟨b0, f, m, d, u, rfl, Nat.le_refl _, by omega, go_self _ _ _ _ _ _ _, Or.inr ⟨by omega, by omega⟩⟩
      · obtain ⟨p, pf, pm, pd, pu, a1, a2, a3, a4, a5⟩ := ih (b0 + lef G f m) (f + lef G f m) (m - lef G f m) (d + 1) (b0 + 1) k (by omega) e q (by omega)
        exact ⟨p, pf, pm, pd, pu, a1, by omega, by omega, by rw [go_right G (by omega) (by omega)]; exact a4, a5⟩
theorem gol_down (G : Nat → Nat) : ∀ (t b0 f m d u b rf rm rd ru : Nat), m ≤ t → b0 ≤ b → b + 1 < b0 + m → go G t b0 f m d u b = (rf, rm, rd, ru) → (lef G rf rm = 1 → gol G t b0 f m d u rf = (rd + 1, b + 1)) ∧ (rm - lef G rf rm = 1 → gol G t b0 f m d u (rf + lef G rf rm) = (rd + 1, b + 1)) := by
  intro t
  induction t with
  | zero => intro b0 f m d u b rf rm rd ru h1 h2 h3; omega
  | succ t ih =>
    intro b0 f m d u b rf rm rd ru h1 h2 h3 h
    have hz := lef_in G (f := f) (m := m) (by omega)
    have hp := go_prop G _ _ _ _ _ _ _ _ _ _ _ h1 h2 h3 h
    have hr := lef_in G (f := rf) (m := rm) hp.1
    rcases Nat.eq_or_lt_of_le h2 with e | e
    · subst e
      rw [go_self] at h
      cases h
      refine ⟨fun g => ?_, fun g => ?_⟩
      · rw [gol_left G (by omega) (by omega), gol_1 G (by omega)]
      · rw [gol_right G (by omega) (by omega), gol_1 G (by omega)]
    · rcases Nat.lt_or_ge b (b0 + lef G f m) with q | q
      · rw [go_left G e q] at h
        have hp2 := go_prop G _ _ _ _ _ _ _ _ _ _ _ (by omega) (by omega) (by omega) h
        have hi := ih _ _ _ _ _ _ _ _ _ _ (by omega) (by omega) (by omega) h
        refine ⟨fun g => ?_, fun g => ?_⟩
        · rw [gol_left G (by omega) (by omega)]; exact hi.1 g
        · rw [gol_left G (by omega) (by omega)]; exact hi.2 g
      · rw [go_right G e q] at h
        have hp2 := go_prop G _ _ _ _ _ _ _ _ _ _ _ (by omega) (by omega) (by omega) h
        have hi := ih _ _ _ _ _ _ _ _ _ _ (by omega) (by omega) (by omega) h
        refine ⟨fun g => ?_, fun g => ?_⟩
        · rw [gol_right G (by omega) (by omega)]; exact hi.1 g
        · rw [gol_right G (by omega) (by omega)]; exact hi.2 g
theorem go_congr {G G' : Nat → Nat} : ∀ (t b0 f m d u b : Nat), m ≤ t → b0 ≤ b → b + 1 < b0 + m → (∀ k, f ≤ k → k + 1 < f + m → G k = G' k) → go G t b0 f m d u b = go G' t b0 f m d u b := by
  intro t
  induction t with
  | zero => intro b0 f m d u b h1 h2 h3; omega
  | succ t ih =>
    intro b0 f m d u b h1 h2 h3 h
    have hz := lef_in G (f := f) (m := m) (by omega)
    have ez := lef_congr (G := G) (G' := G') (f := f) (m := m) (by omega) h
    rcases Nat.eq_or_lt_of_le h2 with e | e
    · subst e
      rw [go_self, go_self]
    · rcases Nat.lt_or_ge b (b0 + lef G f m) with q | q
      · rw [go_left G e q, go_left G' e (by omega), ← ez]
        exact ih _ _ _ _ _ _ (by omega) (by omega) (by omega) (fun k a1 a2 => h k a1 (by omega))
      · rw [go_right G e q, go_right G' e (by omega), ← ez]
        exact ih _ _ _ _ _ _ (by omega) (by omega) (by omega) (fun k a1 a2 => h k (by omega) (by omega))
theorem gol_congr {G G' : Nat → Nat} : ∀ (t b0 f m d u k : Nat), m ≤ t → (∀ k, f ≤ k → k + 1 < f + m → G k = G' k) → gol G t b0 f m d u k = gol G' t b0 f m d u k := by
  intro t
  induction t with
  | zero => intro b0 f m d u k h1 h; rfl
  | succ t ih =>
    intro b0 f m d u k h1 h
    rcases Nat.lt_or_ge m 2 with g | g
    · rw [gol_1 G (by omega), gol_1 G' (by omega)]
    · have hz := lef_in G (f := f) (m := m) g
      have ez := lef_congr (G := G) (G' := G') (f := f) (m := m) g h
      rcases Nat.lt_or_ge k (f + lef G f m) with q | q
      · rw [gol_left G g q, gol_left G' g (by omega), ← ez]
        exact ih _ _ _ _ _ _ (by omega) (fun k a1 a2 => h k a1 (by omega))
      · rw [gol_right G g q, gol_right G' g (by omega), ← ez]
        exact ih _ _ _ _ _ _ (by omega) (fun k a1 a2 => h k (by omega) (by omega))
def nd (G : Nat → Nat) (n b : Nat) : Nat × Nat × Nat × Nat := go G n 0 0 n 0 0 b
def lf (G : Nat → Nat) (n k : Nat) : Nat × Nat := gol G n 0 0 n 0 0 k
