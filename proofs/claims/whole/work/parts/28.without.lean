/-! ===== the tree without a key; the way to a key ===== -/
def gmr (G : Nat → Nat) (j y : Nat) : Nat := if y + 1 < j then G y else if y + 1 = j then min (G y) (G (y + 1)) else G (y + 1)
theorem gmr_lo {G : Nat → Nat} {j y : Nat} (h : y + 1 < j) : gmr G j y = G y := by unfold gmr; rw [if_pos h]
theorem gmr_hi {G : Nat → Nat} {j y : Nat} (h : j < y + 1) : gmr G j y = G (y + 1) := by unfold gmr; rw [if_neg (by omega), if_neg (by omega)]
theorem gmr_ge {G : Nat → Nat} {j y x : Nat} (h1 : x ≤ G y) (h2 : x ≤ G (y + 1)) : x ≤ gmr G j y := by
  unfold gmr
  split
  · exact h1
  · split
    · omega
    · exact h2
theorem gmr_gt {G : Nat → Nat} {j y x : Nat} (h1 : x < G y) (h2 : x < G (y + 1)) : x < gmr G j y := by
  unfold gmr
  split
  · exact h1
  · split
    · omega
    · exact h2
theorem wo_left {G G' : Nat → Nat} {f m j : Nat} (hm : 2 ≤ m) (hz : 2 ≤ lef G f m) (hj : j < f + lef G f m) (h : ∀ y, f ≤ y → y + 1 < f + m - 1 → G' y = gmr G j y) : lef G' f (m - 1) = lef G f m - 1 := by
  have hi := lef_in G (f := f) (m := m) hm
  have ha := am_in G f (m - 2)
  have hl := am_least G f (m - 2)
  have hf := am_first G f (m - 2)
  have ez : lef G f m = am G f (m - 2) + 1 - f := rfl
  have e : am G' f (m - 1 - 2) = am G f (m - 2) - 1 := by
    have eA : G' (am G f (m - 2) - 1) = G (am G f (m - 2)) := by
      rw [h _ (by omega) (by omega)]
      have q := hf (am G f (m - 2) - 1) (by omega) (by omega)
      have e1 : am G f (m - 2) - 1 + 1 = am G f (m - 2) := by omega
      unfold gmr
      rw [e1, if_neg (by omega)]
      split
      · rw [Nat.min_eq_right (by omega)]
      · rfl
    refine am_is (by omega) (by omega) (fun y h1 h2 => ?_) (fun y h1 h2 => ?_)
    · rw [eA, h y h1 (by omega)]
      exact gmr_ge (hl y h1 (by omega)) (hl (y + 1) (by omega) (by omega))
    · rw [eA, h y h1 (by omega)]
      exact gmr_gt (hf y h1 (by omega)) (hf (y + 1) (by omega) (by omega))
  unfold lef
  rw [e]
  omega
theorem wo_right {G G' : Nat → Nat} {f m j : Nat} (hm : 2 ≤ m) (hz : 2 ≤ m - lef G f m) (hj : f + lef G f m ≤ j) (h : ∀ y, f ≤ y → y + 1 < f + m - 1 → G' y = gmr G j y) : lef G' f (m - 1) = lef G f m := by
  have hi := lef_in G (f := f) (m := m) hm
  have ha := am_in G f (m - 2)
  have hl := am_least G f (m - 2)
  have hf := am_first G f (m - 2)
  have ez : lef G f m = am G f (m - 2) + 1 - f := rfl
  have e : am G' f (m - 1 - 2) = am G f (m - 2) := by
    have eA : G' (am G f (m - 2)) = G (am G f (m - 2)) := by
      rw [h _ (by omega) (by omega)]
      have q := hl (am G f (m - 2) + 1) (by omega) (by omega)
      unfold gmr
      split
      · rfl
      · rw [if_pos (by omega), Nat.min_eq_left (by omega)]
    refine am_is (by omega) (by omega) (fun y h1 h2 => ?_) (fun y h1 h2 => ?_)
    · rw [eA, h y h1 (by omega)]
      exact gmr_ge (hl y h1 (by omega)) (hl (y + 1) (by omega) (by omega))
    · rw [eA, h y h1 (by omega), gmr_lo (by omega)]
      exact hf y h1 (by omega)
  unfold lef
  rw [e]
theorem skp_lo {j y : Nat} (h : y < j) : skp j y = y := by unfold skp; rw [if_pos h]
theorem skp_hi {j y : Nat} (h : j ≤ y) : skp j y = y + 1 := by unfold skp; rw [if_neg (by omega)]
theorem wo_key {G G' : Nat → Nat} : ∀ (t f m j : Nat), m ≤ t → 2 ≤ m → f ≤ j → j < f + m → (∀ y, f ≤ y → y + 1 < f + m - 1 → G' y = gmr G j y) → ∀ y, f ≤ y → y < f + m - 1 → gd G' t f (m - 1) y + (if (gp G t f m j).1 ≤ skp j y ∧ skp j y < (gp G t f m j).1 + (gp G t f m j).2 then 1 else 0) = gd G t f m (skp j y) := by
  intro t
  induction t with
  | zero => intro f m j h1 h2; omega
  | succ t ih =>
    intro f m j h1 h2 h3 h4 h y hy1 hy2
    have hi := lef_in G (f := f) (m := m) h2
    rcases Nat.lt_or_ge j (f + lef G f m) with q | q
    · rcases Nat.lt_or_ge (lef G f m) 2 with w | w
      · have ez : lef G f m = 1 := by omega
        have eg : gp G (t + 1) f m j = (f, m) := by
          show (if j < f + lef G f m then (if lef G f m = 1 then (f, m) else _) else _) = _
          rw [if_pos q, if_pos ez]
        rw [eg, skp_hi (by omega), if_pos (by show f ≤ y + 1 ∧ y + 1 < f + m; omega), gd_right G h2 (by omega), ez, gd_fuel G' (t + 1) t f (m - 1) y (by omega) (by omega), gd_shift t f (m - 1) y (by omega) (fun y a1 a2 => by rw [h y a1 (by omega), gmr_hi (by omega)])]
      · have eg : gp G (t + 1) f m j = gp G t f (lef G f m) j := by
          show (if j < f + lef G f m then (if lef G f m = 1 then (f, m) else _) else _) = _
          rw [if_pos q, if_neg (by omega)]
        have el := wo_left h2 w q h
        have hg := gp_in G t f (lef G f m) j (by omega) w h3 q
        rw [eg]
        rcases Nat.lt_or_ge y (f + (lef G f m - 1)) with r | r
        · have hs : skp j y < f + lef G f m := by unfold skp; split <;> omega
          rw [gd_left G' (by omega) (by rw [el]; exact r), el, gd_left G h2 hs]
          have := ih f (lef G f m) j (by omega) w h3 q (fun y a1 a2 => h y a1 (by omega)) y hy1 (by omega)
          omega
        · rw [skp_hi (by omega), if_neg (by omega), gd_right G' (by omega) (by rw [el]; exact r), el, gd_right G h2 (by omega), gd_shift t (f + (lef G f m - 1)) (m - 1 - (lef G f m - 1)) y (by omega) (fun y a1 a2 => by rw [h y (by omega) (by omega), gmr_hi (by omega)]), show f + (lef G f m - 1) + 1 = f + lef G f m by omega, show m - 1 - (lef G f m - 1) = m - lef G f m by omega]
    · rcases Nat.lt_or_ge (m - lef G f m) 2 with w | w
      · have ez : m - lef G f m = 1 := by omega
        have eg : gp G (t + 1) f m j = (f, m) := by
          show (if j < f + lef G f m then _ else (if m - lef G f m = 1 then (f, m) else _)) = _
          rw [if_neg (by omega), if_pos ez]
        rw [eg, skp_lo (by omega), if_pos (by show f ≤ y ∧ y < f + m; omega), gd_left G h2 (by omega), gd_fuel G' (t + 1) t f (m - 1) y (by omega) (by omega), show m - 1 = lef G f m by omega, gd_congr (G := G') (G' := G) t f (lef G f m) y (by omega) (fun y a1 a2 => by rw [h y a1 (by omega), gmr_lo (by omega)])]
      · have eg : gp G (t + 1) f m j = gp G t (f + lef G f m) (m - lef G f m) j := by
          show (if j < f + lef G f m then _ else (if m - lef G f m = 1 then (f, m) else _)) = _
          rw [if_neg (by omega), if_neg (by omega)]
        have el := wo_right h2 w q h
        have hg := gp_in G t (f + lef G f m) (m - lef G f m) j (by omega) w q (by omega)
        rw [eg]
        rcases Nat.lt_or_ge y (f + lef G f m) with r | r
        · rw [skp_lo (by omega), if_neg (by omega), gd_left G' (by omega) (by rw [el]; exact r), el, gd_left G h2 r, gd_congr (G := G') (G' := G) t f (lef G f m) y (by omega) (fun y a1 a2 => by rw [h y a1 (by omega), gmr_lo (by omega)])]
        · have hs : f + lef G f m ≤ skp j y := by unfold skp; split <;> omega
          rw [gd_right G' (by omega) (by rw [el]; exact r), el, gd_right G h2 hs, show m - 1 - lef G f m = m - lef G f m - 1 by omega]
          have := ih (f + lef G f m) (m - lef G f m) j (by omega) w q (by omega) (fun y a1 a2 => h y (by omega) (by omega)) y r (by omega)
          omega
/-- the part above a key is its node's -/
theorem gp_gol (G : Nat → Nat) : ∀ (t b0 f m d u j : Nat), m ≤ t → 2 ≤ m → f ≤ j → j < f + m → ∀ p pf pm pd pu, (gol G t b0 f m d u j).2 = p + 1 → b0 ≤ p → p + 1 < b0 + m → go G t b0 f m d u p = (pf, pm, pd, pu) → gp G t f m j = (pf, pm) := by
  intro t
  induction t with
  | zero => intro b0 f m d u j h1 h2; omega
  | succ t ih =>
    intro b0 f m d u j h1 h2 h3 h4 p pf pm pd pu e1 e2 e3 e4
    have hi := lef_in G (f := f) (m := m) h2
    rcases Nat.lt_or_ge j (f + lef G f m) with q | q
    · rw [gol_left G h2 q] at e1
      rcases Nat.lt_or_ge (lef G f m) 2 with w | w
      · rw [gol_1 G (by omega)] at e1
        have ep : p = b0 := by have : b0 + 1 = p + 1 := e1; omega
        subst ep
        rw [go_self] at e4
        cases e4
        show (if j < f + lef G f m then (if lef G f m = 1 then (f, m) else _) else _) = _
        rw [if_pos q, if_pos (by omega)]
      · obtain ⟨p', pf', pm', pd', pu', a1, a2, a3, a4, -⟩ := gol_up G t (b0 + 1) f (lef G f m) (d + 1) (b0 + 1) j (by omega) w h3 q
        rw [a1] at e1
        have ep : p' = p := by have : p' + 1 = p + 1 := e1; omega
        subst ep
        rw [go_left G (by omega) (by omega)] at e4
        show (if j < f + lef G f m then (if lef G f m = 1 then (f, m) else _) else _) = _
        rw [if_pos q, if_neg (by omega)]
        exact ih (b0 + 1) f (lef G f m) (d + 1) (b0 + 1) j (by omega) w h3 q p' pf pm pd pu (by rw [a1]) a2 a3 e4
    · rw [gol_right G h2 q] at e1
      rcases Nat.lt_or_ge (m - lef G f m) 2 with w | w
      · rw [gol_1 G (by omega)] at e1
        have ep : p = b0 := by have : b0 + 1 = p + 1 := e1; omega
        subst ep
        rw [go_self] at e4
        cases e4
        show (if j < f + lef G f m then _ else (if m - lef G f m = 1 then (f, m) else _)) = _
        rw [if_neg (by omega), if_pos (by omega)]
      · obtain ⟨p', pf', pm', pd', pu', a1, a2, a3, a4, -⟩ := gol_up G t (b0 + lef G f m) (f + lef G f m) (m - lef G f m) (d + 1) (b0 + 1) j (by omega) w q (by omega)
        rw [a1] at e1
        have ep : p' = p := by have : p' + 1 = p + 1 := e1; omega
        subst ep
        rw [go_right G (by omega) (by omega)] at e4
        show (if j < f + lef G f m then _ else (if m - lef G f m = 1 then (f, m) else _)) = _
        rw [if_neg (by omega), if_neg (by omega)]
        exact ih (b0 + lef G f m) (f + lef G f m) (m - lef G f m) (d + 1) (b0 + 1) j (by omega) w q (by omega) p' pf pm pd pu (by rw [a1]) a2 (by omega) e4
theorem gso_gmr {KS KL : Nat → Nat} {n j : Nat} (h : Srt KS KL n) (hj : j < n) : ∀ y, y + 1 < n - 1 → gso KS KL (skp j) y = gmr (gapF KS KL) j y := by
  intro y hy
  show unl (KS (skp j y)) (KL (skp j y)) (KS (skp j (y + 1))) (KL (skp j (y + 1))) = _
  rcases Nat.lt_trichotomy (y + 1) j with q | q | q
  · rw [skp_lo (by omega), skp_lo q, gmr_lo q]; rfl
  · rw [skp_lo (by omega), skp_hi (by omega)]
    unfold gmr
    rw [if_neg (by omega), if_pos q]
    have a : Ls (KS y) (KL y) (KS (y + 1)) (KL (y + 1)) := h y (by omega)
    have b : Ls (KS (y + 1)) (KL (y + 1)) (KS (y + 1 + 1)) (KL (y + 1 + 1)) := h (y + 1) (by omega)
    exact (ls_tri a b).1
  · rw [skp_hi (by omega), skp_hi (by omega), gmr_hi (by omega)]; rfl
theorem mxw_lo (F BF BM : Nat → Nat) (N j e : Nat) : ∀ i, i ≤ j → mxw F BF BM N j e i = mxd (fun y => F (skp j y) - (if 0 < e ∧ e < N ∧ BF (e - 1) ≤ skp j y ∧ skp j y < BF (e - 1) + BM (e - 1) then 1 else 0)) i
  | 0, _ => rfl
  | i + 1, h => by
    have ih := mxw_lo F BF BM N j e i (by omega)
    show (if i = j then _ else max (mxw F BF BM N j e i) _) = max (mxd _ i) _
    rw [if_neg (by omega), ih]
    dsimp only
    rw [skp_lo (show i < j by omega)]
theorem mxw_hi (F BF BM : Nat → Nat) (N j e : Nat) : ∀ i, j ≤ i → mxw F BF BM N j e (i + 1) = mxd (fun y => F (skp j y) - (if 0 < e ∧ e < N ∧ BF (e - 1) ≤ skp j y ∧ skp j y < BF (e - 1) + BM (e - 1) then 1 else 0)) i := by
  intro i
  induction i with
  | zero =>
    intro h
    have ej : j = 0 := by omega
    subst ej
    show (if 0 = 0 then mxw F BF BM N 0 e 0 else _) = _
    rw [if_pos rfl]; rfl
  | succ i ih =>
    intro h
    rcases Nat.eq_or_lt_of_le h with q | q
    · show (if i + 1 = j then mxw F BF BM N j e (i + 1) else _) = _
      rw [if_pos q.symm]
      exact mxw_lo F BF BM N j e (i + 1) (by omega)
    · have e1 := ih (by omega)
      show (if i + 1 = j then _ else max (mxw F BF BM N j e (i + 1)) _) = max (mxd _ i) _
      rw [if_neg (by omega), e1]
      dsimp only
      rw [skp_hi (show j ≤ i by omega)]
section WT
variable {KS KL : Nat → Nat} {n : Nat} {BB BD BM BL BF BA BK EB EA EF EW EL EU : Nat → Nat}
theorem wo_all (hso : Srt KS KL n) (hTr : TrX (gapF KS KL) n BB BD BM BL BF BA BK) {j : Nat} (hj : j < n) (hTm : TrM (gso KS KL (skp j)) (n - 1) EB EA EF EW EL EU) : mxd (dpt EF EW (n - 1 - 1)) (n - 1) = mxw (dok BK BD) BF BM n j (BK j) n := by
  have en : n = (n - 1) + 1 := by omega
  have e0 : mxw (dok BK BD) BF BM n j (BK j) n = mxd (fun y => dok BK BD (skp j y) - (if 0 < BK j ∧ BK j < n ∧ BF (BK j - 1) ≤ skp j y ∧ skp j y < BF (BK j - 1) + BM (BK j - 1) then 1 else 0)) (n - 1) := by
    have a := mxw_hi (dok BK BD) BF BM n j (BK j) (n - 1) (by omega)
    rw [show n - 1 + 1 = n by omega] at a
    exact a
  rw [e0]
  refine mxd_congr (fun y hy => ?_)
  have hn2 : 2 ≤ n := by omega
  have hs : skp j y < n := by unfold skp; split <;> omega
  obtain ⟨p, h1, h2, h3, -⟩ := tf_leaf hTr hj hn2
  have hg := gp_gol (gapF KS KL) n 0 0 n 0 0 j (Nat.le_refl _) hn2 (Nat.zero_le _) (by omega) p _ _ _ _ (show (lf (gapF KS KL) n j).2 = p + 1 by rw [h3]) (Nat.zero_le _) (by omega) (tf_node hTr h1)
  have hw := wo_key (G := gapF KS KL) (G' := gso KS KL (skp j)) n 0 n j (Nat.le_refl _) hn2 (Nat.zero_le _) (by omega) (fun y _ a2 => gso_gmr hso hj y (by omega)) y (Nat.zero_le _) (by omega)
  rw [hg] at hw
  have d1 : dpt EF EW (n - 1 - 1) y = gd (gso KS KL (skp j)) n 0 (n - 1) y := by
    rw [tm_dpt hTm hy]
    have := gol_gd (gso KS KL (skp j)) (n - 1) 0 0 (n - 1) 0 0 y (Nat.le_refl _)
    rw [gd_fuel _ n (n - 1) 0 (n - 1) y (by omega) (Nat.le_refl _)]
    exact this
  have d2 : dok BK BD (skp j y) = gd (gapF KS KL) n 0 n (skp j y) := by
    rw [tf_DKe hTr _ hs]
    exact gol_gd (gapF KS KL) n 0 0 n 0 0 (skp j y) (Nat.le_refl _)
  rw [d1, d2, h2, show p + 1 - 1 = p from rfl]
  have hw : gd (gso KS KL (skp j)) n 0 (n - 1) y + (if BF p ≤ skp j y ∧ skp j y < BF p + BM p then 1 else 0) = gd (gapF KS KL) n 0 n (skp j y) := hw
  by_cases g : BF p ≤ skp j y ∧ skp j y < BF p + BM p
  · rw [if_pos g] at hw
    rw [if_pos ⟨by omega, h1, g⟩]
    omega
  · rw [if_neg g] at hw
    rw [if_neg (fun q => g q.2.2)]
    omega
/-- how many nodes ahead of b hold key k, if b does: its depth -/
theorem cnt_upto {G : Nat → Nat} : ∀ (t b0 f m d u b k : Nat), m ≤ t → b0 ≤ b → b + 1 < b0 + m → (∀ c, b0 ≤ c → c + 1 < b0 + m → EF c = (go G t b0 f m d u c).1 ∧ EW c = (go G t b0 f m d u c).2.1) → EF b ≤ k → k ≤ EF b + EW b - 1 → fb_ct (fun i => decide (EF (b0 + i) ≤ k ∧ k ≤ EF (b0 + i) + EW (b0 + i) - 1)) (b - b0) + d = (go G t b0 f m d u b).2.2.1 := by
  intro t
  induction t with
  | zero => intro b0 f m d u b k h1 h2 h3; omega
  | succ t ih =>
    intro b0 f m d u b k h1 h2 h3 hE k1 k2
    have hz := lef_in G (f := f) (m := m) (by omega)
    have e0 := hE b0 (Nat.le_refl _) (by omega)
    rw [go_self] at e0
    have hpr := go_prop G (t + 1) b0 f m d u b _ _ _ _ h1 h2 h3 (show go G (t + 1) b0 f m d u b = ((go G (t + 1) b0 f m d u b).1, (go G (t + 1) b0 f m d u b).2.1, (go G (t + 1) b0 f m d u b).2.2.1, (go G (t + 1) b0 f m d u b).2.2.2) from rfl)
    have eb := hE b h2 h3
    rw [← eb.1, ← eb.2] at hpr
    have hEL : ∀ c, b0 + 1 ≤ c → c + 1 < b0 + 1 + lef G f m → EF c = (go G t (b0 + 1) f (lef G f m) (d + 1) (b0 + 1) c).1 ∧ EW c = (go G t (b0 + 1) f (lef G f m) (d + 1) (b0 + 1) c).2.1 := fun c q1 q2 => by rw [← go_left G (show b0 < c by omega) (by omega)]; exact hE c (by omega) (by omega)
    have hER : ∀ c, b0 + lef G f m ≤ c → c + 1 < b0 + lef G f m + (m - lef G f m) → EF c = (go G t (b0 + lef G f m) (f + lef G f m) (m - lef G f m) (d + 1) (b0 + 1) c).1 ∧ EW c = (go G t (b0 + lef G f m) (f + lef G f m) (m - lef G f m) (d + 1) (b0 + 1) c).2.1 := fun c q1 q2 => by rw [← go_right G (show b0 < c by omega) q1]; exact hE c (by omega) (by omega)
    rcases Nat.eq_or_lt_of_le h2 with e | e
    · subst e
      rw [go_self, Nat.sub_self]
      show 0 + d = d
      omega
    · have p0 : (decide (EF (b0 + 0) ≤ k ∧ k ≤ EF (b0 + 0) + EW (b0 + 0) - 1)) = true := by
        rw [Nat.add_zero, e0.1, e0.2]
        exact decide_eq_true (by show f ≤ k ∧ k ≤ f + m - 1; omega)
      rcases Nat.lt_or_ge b (b0 + lef G f m) with q | q
      · have hi := ih (b0 + 1) f (lef G f m) (d + 1) (b0 + 1) b k (by omega) (by omega) (by omega) hEL k1 k2
        rw [go_left G e q, ← hi, show b - b0 = 1 + (b - (b0 + 1)) by omega, fb_ct_split, ct_one, if_pos p0]
        have sL : fb_ct (fun i => decide (EF (b0 + (1 + i)) ≤ k ∧ k ≤ EF (b0 + (1 + i)) + EW (b0 + (1 + i)) - 1)) (b - (b0 + 1)) = fb_ct (fun i => decide (EF (b0 + 1 + i) ≤ k ∧ k ≤ EF (b0 + 1 + i) + EW (b0 + 1 + i) - 1)) (b - (b0 + 1)) := fb_ct_cong (fun i _ => by rw [Nat.add_assoc b0 1 i])
        rw [sL]; omega
      · have hi := ih (b0 + lef G f m) (f + lef G f m) (m - lef G f m) (d + 1) (b0 + 1) b k (by omega) q (by omega) hER k1 k2
        have hpr2 := go_prop G t (b0 + lef G f m) (f + lef G f m) (m - lef G f m) (d + 1) (b0 + 1) b _ _ _ _ (by omega) q (by omega) (show go G t (b0 + lef G f m) (f + lef G f m) (m - lef G f m) (d + 1) (b0 + 1) b = ((go G t (b0 + lef G f m) (f + lef G f m) (m - lef G f m) (d + 1) (b0 + 1) b).1, (go G t (b0 + lef G f m) (f + lef G f m) (m - lef G f m) (d + 1) (b0 + 1) b).2.1, (go G t (b0 + lef G f m) (f + lef G f m) (m - lef G f m) (d + 1) (b0 + 1) b).2.2.1, (go G t (b0 + lef G f m) (f + lef G f m) (m - lef G f m) (d + 1) (b0 + 1) b).2.2.2) from rfl)
        have eb2 := hER b q (by omega)
        rw [← eb2.1, ← eb2.2] at hpr2
        have cl := cnt_go (G := G) (EF := EF) (EW := EW) t (b0 + 1) f (lef G f m) (d + 1) (b0 + 1) (by omega) hz.1 hEL k
        rw [if_neg (by omega)] at cl
        rw [go_right G e q, ← hi, show b - b0 = 1 + ((lef G f m - 1) + (b - (b0 + lef G f m))) by omega, fb_ct_split, fb_ct_split, ct_one, if_pos p0]
        have sL : fb_ct (fun i => decide (EF (b0 + (1 + i)) ≤ k ∧ k ≤ EF (b0 + (1 + i)) + EW (b0 + (1 + i)) - 1)) (lef G f m - 1) = fb_ct (fun i => decide (EF (b0 + 1 + i) ≤ k ∧ k ≤ EF (b0 + 1 + i) + EW (b0 + 1 + i) - 1)) (lef G f m - 1) := fb_ct_cong (fun i _ => by rw [Nat.add_assoc b0 1 i])
        have sR : fb_ct (fun i => decide (EF (b0 + (1 + (lef G f m - 1 + i))) ≤ k ∧ k ≤ EF (b0 + (1 + (lef G f m - 1 + i))) + EW (b0 + (1 + (lef G f m - 1 + i))) - 1)) (b - (b0 + lef G f m)) = fb_ct (fun i => decide (EF (b0 + lef G f m + i) ≤ k ∧ k ≤ EF (b0 + lef G f m + i) + EW (b0 + lef G f m + i) - 1)) (b - (b0 + lef G f m)) := fb_ct_cong (fun i _ => by rw [show b0 + (1 + (lef G f m - 1 + i)) = b0 + lef G f m + i by omega])
        rw [sL, sR, cl]; omega
end WT
