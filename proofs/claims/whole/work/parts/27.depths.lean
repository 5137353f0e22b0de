/-! ===== depths: counted, and without a key ===== -/
theorem gol_ge (G : Nat → Nat) : ∀ (t b0 f m d u k : Nat), d ≤ (gol G t b0 f m d u k).1 := by
  intro t
  induction t with
  | zero => intro b0 f m d u k; exact Nat.le_refl _
  | succ t ih =>
    intro b0 f m d u k
    rcases Nat.lt_or_ge m 2 with g | g
    · rw [gol_1 G (by omega)]; exact Nat.le_refl _
    · rcases Nat.lt_or_ge k (f + lef G f m) with q | q
      · rw [gol_left G g q]; have := ih (b0 + 1) f (lef G f m) (d + 1) (b0 + 1) k; omega
      · rw [gol_right G g q]; have := ih (b0 + lef G f m) (f + lef G f m) (m - lef G f m) (d + 1) (b0 + 1) k; omega
theorem ct_one (p : Nat → Bool) : fb_ct p 1 = if p 0 then 1 else 0 := by
  rw [fb_ct_succ]
  exact Nat.zero_add _
/-- how many nodes of a part of the tree hold key k -/
theorem cnt_go {G EF EW : Nat → Nat} : ∀ (t b0 f m d u : Nat), m ≤ t → 1 ≤ m → (∀ b, b0 ≤ b → b + 1 < b0 + m → EF b = (go G t b0 f m d u b).1 ∧ EW b = (go G t b0 f m d u b).2.1) → ∀ k, fb_ct (fun i => decide (EF (b0 + i) ≤ k ∧ k ≤ EF (b0 + i) + EW (b0 + i) - 1)) (m - 1) = if f ≤ k ∧ k < f + m then (gol G t b0 f m d u k).1 - d else 0 := by
  intro t
  induction t with
  | zero => intro b0 f m d u h1 h2; omega
  | succ t ih =>
    intro b0 f m d u h1 h2 hE k
    rcases Nat.lt_or_ge m 2 with g | g
    · rw [show m - 1 = 0 by omega, gol_1 G (by omega)]
      show 0 = _
      split
      · show 0 = d - d; omega
      · rfl
    · have hz := lef_in G (f := f) (m := m) g
      have e0 := hE b0 (Nat.le_refl _) (by omega)
      rw [go_self] at e0
      have eL := ih (b0 + 1) f (lef G f m) (d + 1) (b0 + 1) (by omega) hz.1 (fun b q1 q2 => by rw [← go_left G (show b0 < b by omega) (by omega)]; exact hE b (by omega) (by omega)) k
      have eR := ih (b0 + lef G f m) (f + lef G f m) (m - lef G f m) (d + 1) (b0 + 1) (by omega) (by omega) (fun b q1 q2 => by rw [← go_right G (show b0 < b by omega) q1]; exact hE b (by omega) (by omega)) k
      rw [show m - 1 = 1 + ((lef G f m - 1) + (m - lef G f m - 1)) by omega, fb_ct_split, fb_ct_split, ct_one]
      have sL : fb_ct (fun i => decide (EF (b0 + (1 + i)) ≤ k ∧ k ≤ EF (b0 + (1 + i)) + EW (b0 + (1 + i)) - 1)) (lef G f m - 1) = fb_ct (fun i => decide (EF (b0 + 1 + i) ≤ k ∧ k ≤ EF (b0 + 1 + i) + EW (b0 + 1 + i) - 1)) (lef G f m - 1) := fb_ct_cong (fun i _ => by rw [Nat.add_assoc b0 1 i])
      have sR : fb_ct (fun i => decide (EF (b0 + (1 + (lef G f m - 1 + i))) ≤ k ∧ k ≤ EF (b0 + (1 + (lef G f m - 1 + i))) + EW (b0 + (1 + (lef G f m - 1 + i))) - 1)) (m - lef G f m - 1) = fb_ct (fun i => decide (EF (b0 + lef G f m + i) ≤ k ∧ k ≤ EF (b0 + lef G f m + i) + EW (b0 + lef G f m + i) - 1)) (m - lef G f m - 1) := fb_ct_cong (fun i _ => by rw [show b0 + (1 + (lef G f m - 1 + i)) = b0 + lef G f m + i by omega])
      rw [sL, sR, eL, eR]
      have p0 : (decide (EF (b0 + 0) ≤ k ∧ k ≤ EF (b0 + 0) + EW (b0 + 0) - 1)) = decide (f ≤ k ∧ k < f + m) := by
        rw [Nat.add_zero, e0.1, e0.2]
        show decide (f ≤ k ∧ k ≤ f + m - 1) = _
        by_cases q : f ≤ k ∧ k < f + m
        · rw [decide_eq_true q, decide_eq_true (by omega)]
        · rw [decide_eq_false q, decide_eq_false (by omega)]
      rw [p0]
      by_cases q : f ≤ k ∧ k < f + m
      · rw [if_pos (decide_eq_true q), if_pos q]
        rcases Nat.lt_or_ge k (f + lef G f m) with w | w
        · rw [if_pos (by omega), if_neg (by omega), gol_left G g w]
          have := gol_ge G t (b0 + 1) f (lef G f m) (d + 1) (b0 + 1) k
          omega
        · rw [if_neg (by omega), if_pos (by omega), gol_right G g w]
          have := gol_ge G t (b0 + lef G f m) (f + lef G f m) (m - lef G f m) (d + 1) (b0 + 1) k
          omega
      · rw [if_neg (by rw [decide_eq_false q]; decide), if_neg (by omega), if_neg (by omega), if_neg q]
section DT
variable {KS KL : Nat → Nat} {n : Nat} {BB BD BM BL BF BA BK EB EA EF EW EL EU : Nat → Nat}
theorem tm_eq (hTr : TrX (gapF KS KL) n BB BD BM BL BF BA BK) (hTm : TrM (gapF KS KL) n EB EA EF EW EL EU) {b : Nat} (hb : b + 1 < n) : EF b = BF b ∧ EW b = BM b ∧ EA b = BD b ∧ EU b = BA b ∧ EB b = BB b ∧ EL b = BL b := by
  have a := (hTm b hb).1
  rw [tf_node hTr hb] at a
  have a1 := congrArg (fun x : Nat × Nat × Nat × Nat => x.1) a
  have a2 := congrArg (fun x : Nat × Nat × Nat × Nat => x.2.1) a
  have a3 := congrArg (fun x : Nat × Nat × Nat × Nat => x.2.2.1) a
  have a4 := congrArg (fun x : Nat × Nat × Nat × Nat => x.2.2.2) a
  have a1 : EF b = BF b := a1
  have a2 : EW b = BM b := a2
  refine ⟨a1, a2, a3, a4, ?_, ?_⟩
  · rw [(hTm b hb).2.1, tf_BB hTr hb, a1, a2]
  · rw [(hTm b hb).2.2, tf_BL hTr hb, a1, a2]
theorem tm_in {G : Nat → Nat} (hTm : TrM G n EB EA EF EW EL EU) {b : Nat} (hb : b + 1 < n) : 2 ≤ EW b ∧ EF b + EW b ≤ n := by
  have h := nd_prop hb (hTm b hb).1.symm
  exact ⟨h.1, h.2.1⟩
theorem tm_dpt {G : Nat → Nat} (hTm : TrM G n EB EA EF EW EL EU) {k : Nat} (hk : k < n) : dpt EF EW (n - 1) k = (lf G n k).1 := by
  have h := cnt_go (G := G) (EF := EF) (EW := EW) n 0 0 n 0 0 (Nat.le_refl _) (by omega) (fun b _ q => by
    have a := (hTm b (by omega)).1
    exact ⟨congrArg (fun x : Nat × Nat × Nat × Nat => x.1) a, congrArg (fun x : Nat × Nat × Nat × Nat => x.2.1) a⟩) k
  rw [if_pos (by omega)] at h
  unfold dpt
  have e : fb_ct (fun b => decide (EF b ≤ k ∧ k ≤ EF b + EW b - 1)) (n - 1) = fb_ct (fun i => decide (EF (0 + i) ≤ k ∧ k ≤ EF (0 + i) + EW (0 + i) - 1)) (n - 1) := fb_ct_cong (fun i _ => by rw [Nat.zero_add])
  rw [e, h]
  exact Nat.sub_zero _
theorem tm_dok (hTr : TrX (gapF KS KL) n BB BD BM BL BF BA BK) (hTm : TrM (gapF KS KL) n EB EA EF EW EL EU) {k : Nat} (hk : k < n) : dpt EF EW (n - 1) k = dok BK BD k := by rw [tm_dpt hTm hk, tf_DKe hTr k hk]
end DT
theorem mxd_congr {F F' : Nat → Nat} : ∀ {n : Nat}, (∀ i, i < n → F i = F' i) → mxd F n = mxd F' n
  | 0, _ => rfl
  | n + 1, h => by
    show max (mxd F n) (F n) = max (mxd F' n) (F' n)
    rw [mxd_congr (fun i hi => h i (by omega)), h n (by omega)]
theorem mxo_congr {F F' : Nat → Nat} : ∀ {n : Nat}, (∀ i, i < n → F i = F' i) → mxo F n = mxo F' n
  | 0, _ => rfl
  | n + 1, h => by
    show max (mxo F n) (F n + 1) = max (mxo F' n) (F' n + 1)
    rw [mxo_congr (fun i hi => h i (by omega)), h n (by omega)]
/-! a key taken out -/
/-- the depth of key k in m keys from f on -/
def gd (G : Nat → Nat) : Nat → Nat → Nat → Nat → Nat
  | 0, _, _, _ => 0
  | t + 1, f, m, k => if m ≤ 1 then 0 else if k < f + lef G f m then gd G t f (lef G f m) k + 1 else gd G t (f + lef G f m) (m - lef G f m) k + 1
theorem gd_1 (G : Nat → Nat) {t f m k : Nat} (h : m ≤ 1) : gd G t f m k = 0 := by
  cases t with
  | zero => rfl
  | succ t => unfold gd; rw [if_pos h]
theorem gd_left (G : Nat → Nat) {t f m k : Nat} (h : 2 ≤ m) (h2 : k < f + lef G f m) : gd G (t + 1) f m k = gd G t f (lef G f m) k + 1 := by
  show (if m ≤ 1 then _ else if k < f + lef G f m then _ else _) = _
  rw [if_neg (by omega), if_pos h2]
theorem gd_right (G : Nat → Nat) {t f m k : Nat} (h : 2 ≤ m) (h2 : f + lef G f m ≤ k) : gd G (t + 1) f m k = gd G t (f + lef G f m) (m - lef G f m) k + 1 := by
  show (if m ≤ 1 then _ else if k < f + lef G f m then _ else _) = _
  rw [if_neg (by omega), if_neg (by omega)]
theorem gol_gd (G : Nat → Nat) : ∀ (t b0 f m d u k : Nat), m ≤ t → (gol G t b0 f m d u k).1 = gd G t f m k + d := by
  intro t
  induction t with
  | zero => intro b0 f m d u k h; rw [gd_1 G (by omega)]; show d = 0 + d; omega
  | succ t ih =>
    intro b0 f m d u k h
    rcases Nat.lt_or_ge m 2 with g | g
    · rw [gol_1 G (by omega), gd_1 G (by omega)]; show d = 0 + d; omega
    · have hz := lef_in G (f := f) (m := m) g
      rcases Nat.lt_or_ge k (f + lef G f m) with q | q
      · rw [gol_left G g q, gd_left G g q, ih _ _ _ _ _ _ (by omega)]; omega
      · rw [gol_right G g q, gd_right G g q, ih _ _ _ _ _ _ (by omega)]; omega
theorem gd_fuel (G : Nat → Nat) : ∀ (t t' f m k : Nat), m ≤ t → m ≤ t' → gd G t f m k = gd G t' f m k := by
  intro t
  induction t with
  | zero => intro t' f m k h1 h2; rw [gd_1 G (by omega), gd_1 G (by omega)]
  | succ t ih =>
    intro t' f m k h1 h2
    rcases Nat.lt_or_ge m 2 with g | g
    · rw [gd_1 G (by omega), gd_1 G (by omega)]
    · have hz := lef_in G (f := f) (m := m) g
      cases t' with
      | zero => omega
      | succ t' =>
        rcases Nat.lt_or_ge k (f + lef G f m) with q | q
        · rw [gd_left G g q, gd_left G g q, ih t' _ _ _ (by omega) (by omega)]
        · rw [gd_right G g q, gd_right G g q, ih t' _ _ _ (by omega) (by omega)]
theorem gd_congr {G G' : Nat → Nat} : ∀ (t f m k : Nat), m ≤ t → (∀ y, f ≤ y → y + 1 < f + m → G y = G' y) → gd G t f m k = gd G' t f m k := by
  intro t
  induction t with
  | zero => intro f m k h1 h; rfl
  | succ t ih =>
    intro f m k h1 h
    rcases Nat.lt_or_ge m 2 with g | g
    · rw [gd_1 G (by omega), gd_1 G' (by omega)]
    · have hz := lef_in G (f := f) (m := m) g
      have ez := lef_congr (G := G) (G' := G') (f := f) (m := m) g h
      rcases Nat.lt_or_ge k (f + lef G f m) with q | q
      · rw [gd_left G g q, gd_left G' g (by omega), ← ez, ih _ _ _ (by omega) (fun y a1 a2 => h y a1 (by omega))]
      · rw [gd_right G g q, gd_right G' g (by omega), ← ez, ih _ _ _ (by omega) (fun y a1 a2 => h y (by omega) (by omega))]
theorem am_shift {G G' : Nat → Nat} {f : Nat} : ∀ {i : Nat}, (∀ y, f ≤ y → y ≤ f + i → G' y = G (y + 1)) → am G' f i + 1 = am G (f + 1) i
  | 0, _ => rfl
  | i + 1, h => by
    have e := am_shift (G := G) (G' := G') (f := f) (i := i) (fun y h1 h2 => h y h1 (by omega))
    have a := am_in G' f i
    show (if G' (f + i + 1) < G' (am G' f i) then f + i + 1 else am G' f i) + 1 = (if G (f + 1 + i + 1) < G (am G (f + 1) i) then f + 1 + i + 1 else am G (f + 1) i)
    rw [h (f + i + 1) (by omega) (by omega), h (am G' f i) a.1 (by omega), e, show f + 1 + i + 1 = f + i + 1 + 1 by omega]
    split
    · rfl
    · exact e
theorem lef_shift {G G' : Nat → Nat} {f m : Nat} (hm : 2 ≤ m) (h : ∀ y, f ≤ y → y + 1 < f + m → G' y = G (y + 1)) : lef G' f m = lef G (f + 1) m := by
  have e := am_shift (G := G) (G' := G') (f := f) (i := m - 2) (fun y h1 h2 => h y h1 (by omega))
  unfold lef
  omega
theorem gd_shift {G G' : Nat → Nat} : ∀ (t f m k : Nat), m ≤ t → (∀ y, f ≤ y → y + 1 < f + m → G' y = G (y + 1)) → gd G' t f m k = gd G t (f + 1) m (k + 1) := by
  intro t
  induction t with
  | zero => intro f m k h1 h; rfl
  | succ t ih =>
    intro f m k h1 h
    rcases Nat.lt_or_ge m 2 with g | g
    · rw [gd_1 G' (by omega), gd_1 G (by omega)]
    · have hz := lef_in G' (f := f) (m := m) g
      have ez := lef_shift (G := G) (G' := G') (f := f) (m := m) g h
      rcases Nat.lt_or_ge k (f + lef G' f m) with q | q
      · rw [gd_left G' g q, gd_left G g (by omega), ← ez, ih _ _ _ (by omega) (fun y a1 a2 => h y a1 (by omega))]
      · rw [gd_right G' g q, gd_right G g (by omega), ← ez, ih _ _ _ (by omega) (fun y a1 a2 => h y (by omega) (by omega)), show f + lef G' f m + 1 = f + 1 + lef G' f m by omega]
/-- the part right above key j: its first key, how many -/
def gp (G : Nat → Nat) : Nat → Nat → Nat → Nat → Nat × Nat
  | 0, f, m, _ => (f, m)
  | t + 1, f, m, j => if j < f + lef G f m then (if lef G f m = 1 then (f, m) else gp G t f (lef G f m) j) else (if m - lef G f m = 1 then (f, m) else gp G t (f + lef G f m) (m - lef G f m) j)
theorem gp_in (G : Nat → Nat) : ∀ (t f m j : Nat), m ≤ t → 2 ≤ m → f ≤ j → j < f + m → f ≤ (gp G t f m j).1 ∧ (gp G t f m j).1 + (gp G t f m j).2 ≤ f + m ∧ (gp G t f m j).1 ≤ j ∧ j < (gp G t f m j).1 + (gp G t f m j).2 := by
  intro t
  induction t with
  | zero => intro f m j h1 h2; omega
  | succ t ih =>
    intro f m j h1 h2 h3 h4
    have hz := lef_in G (f := f) (m := m) h2
    unfold gp
    split
    · split
      · exact ⟨Nat.le_refl _, Nat.le_refl _, h3, h4⟩
      · have := ih f (lef G f m) j (by omega) (by omega) h3 (by omega); omega
    · split
      · exact ⟨Nat.le_refl _, Nat.le_refl _, h3, h4⟩
      · have := ih (f + lef G f m) (m - lef G f m) j (by omega) (by omega) (by omega) (by omega); omega
