/-! ===== the reference: below, way, blind ===== -/
section WB
variable {KS KL : Nat → Nat} {n : Nat} {BB BD BM BL BF BA BK EB EA EF EW EL EU : Nat → Nat}
theorem dpt_upto (hTr : TrX (gapF KS KL) n BB BD BM BL BF BA BK) {b k : Nat} (hb : b + 1 < n) (h1 : BF b ≤ k) (h2 : k ≤ BF b + BM b - 1) : dpt BF BM b k = BD b := by
  have h := cnt_upto (EF := BF) (EW := BM) (G := gapF KS KL) n 0 0 n 0 0 b k (Nat.le_refl _) (Nat.zero_le _) (by omega) (fun c _ q => by
    have a := tf_node hTr (b := c) (by omega)
    have a : go (gapF KS KL) n 0 0 n 0 0 c = _ := a
    rw [a]
    exact ⟨rfl, rfl⟩) h1 h2
  have a : go (gapF KS KL) n 0 0 n 0 0 b = _ := tf_node hTr hb
  rw [a] at h
  have h : fb_ct (fun i => decide (BF (0 + i) ≤ k ∧ k ≤ BF (0 + i) + BM (0 + i) - 1)) (b - 0) + 0 = BD b := h
  unfold dpt
  rw [← h]
  exact fb_ct_cong (fun i _ => by rw [Nat.zero_add])
theorem dpt_E (hTr : TrX (gapF KS KL) n BB BD BM BL BF BA BK) (hTm : TrM (gapF KS KL) n EB EA EF EW EL EU) {b k : Nat} (hb : b ≤ n - 1) : dpt EF EW b k = dpt BF BM b k := by
  unfold dpt
  exact fb_ct_cong (fun i hi => by have e := tm_eq hTr hTm (show i + 1 < n by omega); rw [e.1, e.2.1])
theorem anc_in (hTr : TrX (gapF KS KL) n BB BD BM BL BF BA BK) {k : Nat} (hk : k < n) : ∀ j, j < dok BK BD k → ∃ q, anc BA j (BK k) = q + 1 ∧ q + 1 < n ∧ BD q + 1 + j = dok BK BD k ∧ BF q ≤ k ∧ k < BF q + BM q := by
  intro j hj
  rcases Nat.lt_or_ge n 2 with g | g
  · have e : n = 1 := by omega
    subst e
    rw [tf_DKe hTr k hk, lf_1] at hj
    exact absurd hj (Nat.not_lt_zero _)
  · obtain ⟨p, h1, h2, h3, h4⟩ := tf_leaf hTr hk g
    have hd : dok BK BD k = BD p + 1 := by rw [tf_DKe hTr k hk, h3]
    induction j with
    | zero =>
      have a := tf_in hTr h1
      exact ⟨p, h2, h1, by omega, by omega, by omega⟩
    | succ j ih =>
      obtain ⟨q, q1, q2, q3, q4, q5⟩ := ih (by omega)
      have q0 : 0 < q := by
        rcases Nat.eq_zero_or_pos q with z | z
        · subst z
          have := tf_root hTr g
          omega
        · exact z
      obtain ⟨p2, r1, r2, r3, r4⟩ := tf_up hTr q2 q0
      have a := tf_in hTr (show p2 + 1 < n by omega)
      refine ⟨p2, ?_, by omega, by omega, by omega, by omega⟩
      show BA (anc BA j (BK k) - 1) = p2 + 1
      rw [q1]
      exact r1
theorem way_hit (hTr : TrX (gapF KS KL) n BB BD BM BL BF BA BK) (hTm : TrM (gapF KS KL) n EB EA EF EW EL EU) {j b t : Nat} (hj : j < n) (hb : b + 1 < n) (hP : EF b ≤ j ∧ j ≤ EF b + EW b - 1) (hc : dpt EF EW b j = t) : (if t < dok BK BD j then anc BA (dok BK BD j - 1 - t) (BK j) else 0) = b + 1 := by
  have e := tm_eq hTr hTm hb
  have d1 := tm_dok hTr hTm hj
  have d2 : dpt EF EW (b + 1) j = t + 1 := by rw [dpt_s, hc, if_pos hP]
  have d3 : dpt EF EW (b + 1) j ≤ dpt EF EW (n - 1) j := fb_ct_mono _ (by omega)
  rw [if_pos (by omega)]
  obtain ⟨c, c1, c2, c3, c4, c5⟩ := anc_in hTr hj (dok BK BD j - 1 - t) (by omega)
  rw [c1]
  have u1 := dpt_upto hTr c2 c4 (by omega)
  have u2 := dpt_upto hTr hb (k := j) (by omega) (by omega)
  rw [dpt_E hTr hTm (by omega)] at hc
  have hcb : c = b := by
    refine fb_ct_kth_one (p := fun b => decide (BF b ≤ j ∧ j ≤ BF b + BM b - 1)) (decide_eq_true ⟨c4, by omega⟩) (decide_eq_true ⟨by omega, by omega⟩) ?_
    show dpt BF BM c j = dpt BF BM b j
    omega
  rw [hcb]
/-! blind -/
theorem nd_inj (G : Nat → Nat) : ∀ (t b0 f m d u b c : Nat), m ≤ t → b0 ≤ b → b + 1 < b0 + m → b0 ≤ c → c + 1 < b0 + m → (go G t b0 f m d u b).1 = (go G t b0 f m d u c).1 → (go G t b0 f m d u b).2.1 = (go G t b0 f m d u c).2.1 → b = c := by
  intro t
  induction t with
  | zero => intro b0 f m d u b c h1 h2 h3; omega
  | succ t ih =>
    intro b0 f m d u b c h1 h2 h3 h4 h5 e1 e2
    have hz := lef_in G (f := f) (m := m) (by omega)
    have pl : ∀ x, b0 < x → x < b0 + lef G f m → (go G (t + 1) b0 f m d u x).1 + (go G (t + 1) b0 f m d u x).2.1 ≤ f + lef G f m ∧ f ≤ (go G (t + 1) b0 f m d u x).1 ∧ 2 ≤ (go G (t + 1) b0 f m d u x).2.1 := fun x q1 q2 => by
      rw [go_left G q1 q2]
      have := go_prop G t (b0 + 1) f (lef G f m) (d + 1) (b0 + 1) x _ _ _ _ (by omega) (by omega) (by omega) (show go G t (b0 + 1) f (lef G f m) (d + 1) (b0 + 1) x = ((go G t (b0 + 1) f (lef G f m) (d + 1) (b0 + 1) x).1, (go G t (b0 + 1) f (lef G f m) (d + 1) (b0 + 1) x).2.1, (go G t (b0 + 1) f (lef G f m) (d + 1) (b0 + 1) x).2.2.1, (go G t (b0 + 1) f (lef G f m) (d + 1) (b0 + 1) x).2.2.2) from rfl)
      omega
    have pr : ∀ x, b0 + lef G f m ≤ x → x + 1 < b0 + m → f + lef G f m ≤ (go G (t + 1) b0 f m d u x).1 ∧ 2 ≤ (go G (t + 1) b0 f m d u x).2.1 := fun x q1 q2 => by
      rw [go_right G (by omega) q1]
      have := go_prop G t (b0 + lef G f m) (f + lef G f m) (m - lef G f m) (d + 1) (b0 + 1) x _ _ _ _ (by omega) q1 (by omega) (show go G t (b0 + lef G f m) (f + lef G f m) (m - lef G f m) (d + 1) (b0 + 1) x = ((go G t (b0 + lef G f m) (f + lef G f m) (m - lef G f m) (d + 1) (b0 + 1) x).1, (go G t (b0 + lef G f m) (f + lef G f m) (m - lef G f m) (d + 1) (b0 + 1) x).2.1, (go G t (b0 + lef G f m) (f + lef G f m) (m - lef G f m) (d + 1) (b0 + 1) x).2.2.1, (go G t (b0 + lef G f m) (f + lef G f m) (m - lef G f m) (d + 1) (b0 + 1) x).2.2.2) from rfl)
      omega
    have s0 : (go G (t + 1) b0 f m d u b0).1 = f ∧ (go G (t + 1) b0 f m d u b0).2.1 = m := by rw [go_self]; exact ⟨rfl, rfl⟩
    rcases Nat.eq_or_lt_of_le h2 with eb | eb
    · rcases Nat.eq_or_lt_of_le h4 with ec | ec
      · omega
      · rw [← eb] at e1 e2
        rcases Nat.lt_or_ge c (b0 + lef G f m) with q | q
        · have := pl c ec q; omega
        · have := pr c q h5; omega
    · rcases Nat.eq_or_lt_of_le h4 with ec | ec
      · rw [← ec] at e1 e2
        rcases Nat.lt_or_ge b (b0 + lef G f m) with q | q
        · have := pl b eb q; omega
        · have := pr b q h3; omega
      · rcases Nat.lt_or_ge b (b0 + lef G f m) with q | q
        · rcases Nat.lt_or_ge c (b0 + lef G f m) with r | r
          · rw [go_left G eb q, go_left G ec r] at e1 e2
            exact ih _ _ _ _ _ b c (by omega) (by omega) (by omega) (by omega) (by omega) e1 e2
          · have := pl b eb q; have := pr c r h5; omega
        · rcases Nat.lt_or_ge c (b0 + lef G f m) with r | r
          · have := pr b q h3; have := pl c ec r; omega
          · rw [go_right G eb q, go_right G ec r] at e1 e2
            exact ih _ _ _ _ _ b c (by omega) q (by omega) r (by omega) e1 e2
theorem tf_inj (hTr : TrX (gapF KS KL) n BB BD BM BL BF BA BK) {b c : Nat} (hb : b + 1 < n) (hc : c + 1 < n) (e1 : BF b = BF c) (e2 : BM b = BM c) : b = c := by
  have nb : go (gapF KS KL) n 0 0 n 0 0 b = _ := tf_node hTr hb
  have nc : go (gapF KS KL) n 0 0 n 0 0 c = _ := tf_node hTr hc
  refine nd_inj (gapF KS KL) n 0 0 n 0 0 b c (Nat.le_refl _) (Nat.zero_le _) (by omega) (Nat.zero_le _) (by omega) ?_ ?_
  · rw [nb, nc]; exact e1
  · rw [nb, nc]; exact e2
theorem tf_child (hTr : TrX (gapF KS KL) n BB BD BM BL BF BA BK) {b : Nat} (hb : b + 1 < n) : (2 ≤ BL b → b + 1 + 1 < n ∧ BF (b + 1) = BF b ∧ BM (b + 1) = BL b ∧ BD (b + 1) = BD b + 1) ∧ (2 ≤ BM b - BL b → b + BL b + 1 < n ∧ BF (b + BL b) = BF b + BL b ∧ BM (b + BL b) = BM b - BL b ∧ BD (b + BL b) = BD b + 1) := by
  have h := go_child (gapF KS KL) n 0 0 n 0 0 b _ _ _ _ (Nat.le_refl _) (Nat.zero_le _) (by omega) (tf_node hTr hb)
  have hi := tf_in hTr hb
  rw [← tf_BL hTr hb] at h
  refine ⟨fun g => ?_, fun g => ?_⟩
  · have hb2 : b + 1 + 1 < n := by omega
    have a : go (gapF KS KL) n 0 0 n 0 0 (b + 1) = _ := tf_node hTr hb2
    have a2 := h.1 g
    rw [a] at a2
    exact ⟨hb2, congrArg (fun x : Nat × Nat × Nat × Nat => x.1) a2, congrArg (fun x : Nat × Nat × Nat × Nat => x.2.1) a2, congrArg (fun x : Nat × Nat × Nat × Nat => x.2.2.1) a2⟩
  · have hb2 : b + BL b + 1 < n := by omega
    have a : go (gapF KS KL) n 0 0 n 0 0 (b + BL b) = _ := tf_node hTr hb2
    have a2 := h.2 g
    rw [a] at a2
    exact ⟨hb2, congrArg (fun x : Nat × Nat × Nat × Nat => x.1) a2, congrArg (fun x : Nat × Nat × Nat × Nat => x.2.1) a2, congrArg (fun x : Nat × Nat × Nat × Nat => x.2.2.1) a2⟩
theorem tf_lone (hTr : TrX (gapF KS KL) n BB BD BM BL BF BA BK) {b : Nat} (hb : b + 1 < n) : (BL b = 1 → dok BK BD (BF b) = BD b + 1) ∧ (BM b - BL b = 1 → dok BK BD (BF b + BL b) = BD b + 1) := by
  have h := gol_down (gapF KS KL) n 0 0 n 0 0 b _ _ _ _ (Nat.le_refl _) (Nat.zero_le _) (by omega) (tf_node hTr hb)
  have hi := tf_in hTr hb
  rw [← tf_BL hTr hb] at h
  refine ⟨fun g => ?_, fun g => ?_⟩
  · rw [tf_DKe hTr _ (by omega)]; exact congrArg Prod.fst (h.1 g)
  · rw [tf_DKe hTr _ (by omega)]; exact congrArg Prod.fst (h.2 g)
/-- on the blind way: the node c is next, or the key fr is reached -/
def BI (BB BD BM BL BF BK : Nat → Nat) (s A n v b fr nn lk : Nat) : Prop := (∃ c t, b ≤ c ∧ c + 1 < n ∧ BF c = fr ∧ BM c = nn ∧ v = kr BB BM BL BF s A t c ∧ nn ≤ t + 1 ∧ lk = BD c) ∨ (nn = 1 ∧ v = fr + 1 ∧ fr < n ∧ lk = dok BK BD fr)
theorem bi_skip {s A v b fr nn lk : Nat} (h : BI BB BD BM BL BF BK s A n v b fr nn lk) (hne : ¬ (BF b = fr ∧ BM b = nn)) : BI BB BD BM BL BF BK s A n v (b + 1) fr nn lk := by
  rcases h with ⟨c, t, h1, h2, h3, h4, h5⟩ | h
  · refine Or.inl ⟨c, t, ?_, h2, h3, h4, h5⟩
    rcases Nat.eq_or_lt_of_le h1 with e | e
    · rw [e] at hne; exact absurd ⟨h3, h4⟩ hne
    · exact e
  · exact Or.inr h
theorem bi_at (hTr : TrX (gapF KS KL) n BB BD BM BL BF BA BK) {s A v b fr nn lk : Nat} (h : BI BB BD BM BL BF BK s A n v b fr nn lk) (hb : b + 1 < n) (e1 : BF b = fr) (e2 : BM b = nn) : lk = BD b ∧ ∃ t, v = kr BB BM BL BF s A (t + 1) b ∧ nn ≤ t + 2 := by
  have hi := tf_in hTr hb
  rcases h with ⟨c, t, h1, h2, h3, h4, h5, h6, h7⟩ | h
  · have ec := tf_inj hTr hb h2 (e1.trans h3.symm) (e2.trans h4.symm)
    subst ec
    refine ⟨h7, t - 1, ?_, by omega⟩
    rw [show t - 1 + 1 = t by omega]; exact h5
  · omega
theorem bi_right (hTr : TrX (gapF KS KL) n BB BD BM BL BF BA BK) {s A v b fr nn lk : Nat} (h : BI BB BD BM BL BF BK s A n v b fr nn lk) (hb : b + 1 < n) (e1 : BF b = fr) (e2 : BM b = nn) (hr : bitr s A (BB b) = 1) : BI BB BD BM BL BF BK s A n v (b + 1) (fr + BL b) (nn - BL b) (lk + 1) := by
  have hi := tf_in hTr hb
  obtain ⟨hl, t, h5, h6⟩ := bi_at hTr h hb e1 e2
  have h5 : v = if bitr s A (BB b) = 1 then (if BM b - BL b = 1 then BF b + BL b + 1 else kr BB BM BL BF s A t (b + BL b)) else (if BL b = 1 then BF b + 1 else kr BB BM BL BF s A t (b + 1)) := h5
  rw [if_pos hr] at h5
  by_cases g : BM b - BL b = 1
  · rw [if_pos g] at h5
    refine Or.inr ⟨by omega, by omega, by omega, ?_⟩
    rw [← e1, (tf_lone hTr hb).2 g, hl]
  · rw [if_neg g] at h5
    have hc := (tf_child hTr hb).2 (by omega)
    exact Or.inl ⟨b + BL b, t, by omega, hc.1, by omega, by omega, h5, by omega, by omega⟩
theorem bi_left (hTr : TrX (gapF KS KL) n BB BD BM BL BF BA BK) {s A v b fr nn lk : Nat} (h : BI BB BD BM BL BF BK s A n v b fr nn lk) (hb : b + 1 < n) (e1 : BF b = fr) (e2 : BM b = nn) (hr : ¬ bitr s A (BB b) = 1) : BI BB BD BM BL BF BK s A n v (b + 1) (fr + 0) (BL b) (lk + 1) := by
  have hi := tf_in hTr hb
  obtain ⟨hl, t, h5, h6⟩ := bi_at hTr h hb e1 e2
  have h5 : v = if bitr s A (BB b) = 1 then (if BM b - BL b = 1 then BF b + BL b + 1 else kr BB BM BL BF s A t (b + BL b)) else (if BL b = 1 then BF b + 1 else kr BB BM BL BF s A t (b + 1)) := h5
  rw [if_neg hr] at h5
  by_cases g : BL b = 1
  · rw [if_pos g] at h5
    refine Or.inr ⟨g, by omega, by omega, ?_⟩
    show lk + 1 = dok BK BD fr
    rw [← e1, (tf_lone hTr hb).1 g, hl]
  · rw [if_neg g] at h5
    have hc := (tf_child hTr hb).1 (by omega)
    exact Or.inl ⟨b + 1, t, Nat.le_refl _, hc.1, by omega, by omega, h5, by omega, by omega⟩
theorem bi_0 (hTr : TrX (gapF KS KL) n BB BD BM BL BF BA BK) (s A : Nat) (hn : 0 < n) : BI BB BD BM BL BF BK s A n (if n = 0 then 0 else if n = 1 then 1 else kr BB BM BL BF s A (n - 1) 0) 0 0 n 0 := by
  rw [if_neg (by omega)]
  by_cases g : n = 1
  · subst g
    rw [if_pos rfl]
    exact Or.inr ⟨rfl, rfl, by omega, by rw [tf_DKe hTr 0 (by omega), lf_1]⟩
  · rw [if_neg g]
    have hr := tf_root hTr (by omega)
    exact Or.inl ⟨0, n - 1, Nat.le_refl _, by omega, hr.1, hr.2.1, rfl, by omega, hr.2.2.1.symm⟩
theorem bi_end {s A v b fr nn lk : Nat} (h : BI BB BD BM BL BF BK s A n v b fr nn lk) (hb : n ≤ b + 1) : v = fr + 1 ∧ fr < n ∧ lk = dok BK BD fr := by
  rcases h with ⟨c, t, h1, h2, -⟩ | h
  · omega
  · exact h.2
end WB
theorem sm_step {KW : Nat → Nat} {P c i wv : Nat} (h : wv = fb_sm (fun y => KW (P + y)) c) (e : P + c = i) : wv + KW i = fb_sm (fun y => KW (P + y)) (c + 1) := by
  rw [fb_sm_succ, ← h, ← e]
set_option maxHeartbeats 4000000 in
set_option maxRecDepth 100000 in
theorem c_X6_below_neg (l : Launch) (D : va_G) (cI cJ cZ : ClassId) (m0 nw ps im mk wd so mb ma mf mw ml mu wt ty : Nat) (NW : Nat → Nat) (PS : Nat → Nat) (u : Nat) (IM : Nat → Nat) (MK : Nat → Nat) (sd : Nat) (WD : Nat → Nat) (s : Nat) (SO : Nat → Nat) (q : Nat) (EB : Nat → Nat) (EA : Nat → Nat) (EF : Nat → Nat) (EW : Nat → Nat) (EL : Nat → Nat) (EU : Nat → Nat) (br : Nat) (WT : Nat → Nat) (ww : Nat) (TY : Nat → Nat) (KS KL KW : Nat → Nat) (n A : Nat) (hn : n ≤ 24) (hk : ∀ k, k < n → Wf (KS k) (KL k)) (hw0 : Wf s A) (hR : RN NW KS KL KW n) (hRW : RW WD s A) (hso : Srt KS KL n) (BB BD BM BL BF BA BK : Nat → Nat) (hTr : TrX (gapF KS KL) n BB BD BM BL BF BA BK) (hv : ∀ k, k < n → KW k ≤ 9999) (x : Int32) (hx0 : x < 0) (sz : Nat) : WR l yX6_below cX6_below 7 (some .int) (rmN 2 46) D (ty3 cI cJ cZ) [.ref m0, .int x] [(m0, .inr (6, [.ref nw, .ref ps, .int (nI u), .ref im, .ref mk, .int (nI sd), .ref wd, .int (nI s), .ref so, .int (nI q), .ref mb, .ref ma, .ref mf, .ref mw, .ref ml, .ref mu, .int (nI br), .ref wt, .int (nI ww), .ref ty])), (nw, .inl (cI, 241, .inl (nF NW))), (ps, .inl (cI, 4820, .inl (nF PS))), (im, .inl (cI, 484, .inl (nF IM))), (mk, .inl (cZ, 2, .inl (nF MK))), (wd, .inl (cI, 8, .inl (nF WD))), (so, .inl (cI, 24, .inl (nF SO))), (mb, .inl (cI, 24, .inl (nF EB))), (ma, .inl (cI, 24, .inl (nF EA))), (mf, .inl (cI, 24, .inl (nF EF))), (mw, .inl (cI, 24, .inl (nF EW))), (ml, .inl (cI, 24, .inl (nF EL))), (mu, .inl (cI, 24, .inl (oF EU))), (wt, .inl (cI, 200, .inl (oF WT))), (ty, .inl (cI, 8, .inl (nF TY)))] sz (fun x w => x = some (.int (-1000000002)) ∧ ∃ (SO : Nat → Nat) (q : Nat) (EB EA EF EW EL EU : Nat → Nat) (br : Nat) (WT : Nat → Nat) (ww : Nat), w = [(m0, .inr (6, [.ref nw, .ref ps, .int (nI u), .ref im, .ref mk, .int (nI sd), .ref wd, .int (nI s), .ref so, .int (nI q), .ref mb, .ref ma, .ref mf, .ref mw, .ref ml, .ref mu, .int (nI br), .ref wt, .int (nI ww), .ref ty])), (nw, .inl (cI, 241, .inl (nF NW))), (ps, .inl (cI, 4820, .inl (nF PS))), (im, .inl (cI, 484, .inl (nF IM))), (mk, .inl (cZ, 2, .inl (nF MK))), (wd, .inl (cI, 8, .inl (nF WD))), (so, .inl (cI, 24, .inl (nF SO))), (mb, .inl (cI, 24, .inl (nF EB))), (ma, .inl (cI, 24, .inl (nF EA))), (mf, .inl (cI, 24, .inl (nF EF))), (mw, .inl (cI, 24, .inl (nF EW))), (ml, .inl (cI, 24, .inl (nF EL))), (mu, .inl (cI, 24, .inl (oF EU))), (wt, .inl (cI, 200, .inl (oF WT))), (ty, .inl (cI, 8, .inl (nF TY)))]) := by
  have hs8 := hw0.1
  have hA64 := hw0.2.1
  have hN0 := hR.1
  have hBK := tf_BK hTr hn
  have hDK := tf_DK hTr hn
  have hp := plc_le KS KL n s A
  have hcb := cbl_le KS KL n s A
  have hfl := fnd_le KS KL n s A
  refine wr_start (by decide) (Nat.le_of_ble_eq_true rfl) ?_
  intro pp ee ss mm below meth cd AA C0 hAA hP hK hD hS hN hnm ls hl
  obtain ⟨hx, hb, hr, hml, hown, hts, hlk⟩ := C0
  have hown : ss.vm.findClass RX6 = some mm.cls := hown
  have hl : lv_has ls 7 [(0, .ref m0), (1, .int x)] := hl
  have hP : va_P D vwCl [(m0, .inr (6, [.ref nw, .ref ps, .int (nI u), .ref im, .ref mk, .int (nI sd), .ref wd, .int (nI s), .ref so, .int (nI q), .ref mb, .ref ma, .ref mf, .ref mw, .ref ml, .ref mu, .int (nI br), .ref wt, .int (nI ww), .ref ty])), (nw, .inl (cI, 241, .inl (nF NW))), (ps, .inl (cI, 4820, .inl (nF PS))), (im, .inl (cI, 484, .inl (nF IM))), (mk, .inl (cZ, 2, .inl (nF MK))), (wd, .inl (cI, 8, .inl (nF WD))), (so, .inl (cI, 24, .inl (nF SO))), (mb, .inl (cI, 24, .inl (nF EB))), (ma, .inl (cI, 24, .inl (nF EA))), (mf, .inl (cI, 24, .inl (nF EF))), (mw, .inl (cI, 24, .inl (nF EW))), (ml, .inl (cI, 24, .inl (nF EL))), (mu, .inl (cI, 24, .inl (oF EU))), (wt, .inl (cI, 200, .inl (oF WT))), (ty, .inl (cI, 8, .inl (nF TY)))] ss.heap := hP
  refine lv_iload_n hx hb dX6_below_0 rfl (lv_at hl 1 rfl) ?_
  refine lv_iconst (v := nI 0) hx hb dX6_below_1 (by decide +kernel) ?_
  refine lv_iconst (v := nI 3) hx hb dX6_below_2 (by decide +kernel) ?_
  refine ro_S (As := [.int x, .int (nI 0), .int (nI 3)]) (rest := []) ⟨hx, hb, hml, hown, hts⟩ (c_X6_in_neg l D cI cJ cZ x ((nI 3)) 0 hx0 (by omega)) (k_X6_79 hts ⟨Nat.le_of_ble_eq_true rfl, Nat.le_of_ble_eq_true rfl⟩) hK hP [] rfl rfl hl.1 rfl (Nat.le_of_ble_eq_true rfl) dX6_below_3 ⟨Nat.le_of_ble_eq_true rfl, Nat.le_of_ble_eq_true rfl⟩ ?_
  refine n_if_ne (tgt := 12) hx hb dX6_below_6 (by decide) (by decide) (fun h9 => absurd rfl h9) (fun _ => ?_)
  refine lv_ldc hx hb hown (hts _ mk_X6_83) dX6_below_9 ?_
  exact wr_iret hx hb hr hlk hP hD hS dX6_below_11 (⟨rfl, SO, q, EB, EA, EF, EW, EL, EU, br, WT, ww, rfl⟩)
set_option maxHeartbeats 4000000 in
set_option maxRecDepth 100000 in
theorem c_X6_below_big (l : Launch) (D : va_G) (cI cJ cZ : ClassId) (m0 nw ps im mk wd so mb ma mf mw ml mu wt ty : Nat) (NW : Nat → Nat) (PS : Nat → Nat) (u : Nat) (IM : Nat → Nat) (MK : Nat → Nat) (sd : Nat) (WD : Nat → Nat) (s : Nat) (SO : Nat → Nat) (q : Nat) (EB : Nat → Nat) (EA : Nat → Nat) (EF : Nat → Nat) (EW : Nat → Nat) (EL : Nat → Nat) (EU : Nat → Nat) (br : Nat) (WT : Nat → Nat) (ww : Nat) (TY : Nat → Nat) (KS KL KW : Nat → Nat) (n A : Nat) (hn : n ≤ 24) (hk : ∀ k, k < n → Wf (KS k) (KL k)) (hw0 : Wf s A) (hR : RN NW KS KL KW n) (hRW : RW WD s A) (hso : Srt KS KL n) (BB BD BM BL BF BA BK : Nat → Nat) (hTr : TrX (gapF KS KL) n BB BD BM BL BF BA BK) (hv : ∀ k, k < n → KW k ≤ 9999) (j : Nat) (hj : j < 2 ^ 31) (hjb : 3 < j) (sz : Nat) : WR l yX6_below cX6_below 7 (some .int) (rmN 2 46) D (ty3 cI cJ cZ) [.ref m0, .int (nI j)] [(m0, .inr (6, [.ref nw, .ref ps, .int (nI u), .ref im, .ref mk, .int (nI sd), .ref wd, .int (nI s), .ref so, .int (nI q), .ref mb, .ref ma, .ref mf, .ref mw, .ref ml, .ref mu, .int (nI br), .ref wt, .int (nI ww), .ref ty])), (nw, .inl (cI, 241, .inl (nF NW))), (ps, .inl (cI, 4820, .inl (nF PS))), (im, .inl (cI, 484, .inl (nF IM))), (mk, .inl (cZ, 2, .inl (nF MK))), (wd, .inl (cI, 8, .inl (nF WD))), (so, .inl (cI, 24, .inl (nF SO))), (mb, .inl (cI, 24, .inl (nF EB))), (ma, .inl (cI, 24, .inl (nF EA))), (mf, .inl (cI, 24, .inl (nF EF))), (mw, .inl (cI, 24, .inl (nF EW))), (ml, .inl (cI, 24, .inl (nF EL))), (mu, .inl (cI, 24, .inl (oF EU))), (wt, .inl (cI, 200, .inl (oF WT))), (ty, .inl (cI, 8, .inl (nF TY)))] sz (fun x w => x = some (.int (-1000000002)) ∧ ∃ (SO : Nat → Nat) (q : Nat) (EB EA EF EW EL EU : Nat → Nat) (br : Nat) (WT : Nat → Nat) (ww : Nat), w = [(m0, .inr (6, [.ref nw, .ref ps, .int (nI u), .ref im, .ref mk, .int (nI sd), .ref wd, .int (nI s), .ref so, .int (nI q), .ref mb, .ref ma, .ref mf, .ref mw, .ref ml, .ref mu, .int (nI br), .ref wt, .int (nI ww), .ref ty])), (nw, .inl (cI, 241, .inl (nF NW))), (ps, .inl (cI, 4820, .inl (nF PS))), (im, .inl (cI, 484, .inl (nF IM))), (mk, .inl (cZ, 2, .inl (nF MK))), (wd, .inl (cI, 8, .inl (nF WD))), (so, .inl (cI, 24, .inl (nF SO))), (mb, .inl (cI, 24, .inl (nF EB))), (ma, .inl (cI, 24, .inl (nF EA))), (mf, .inl (cI, 24, .inl (nF EF))), (mw, .inl (cI, 24, .inl (nF EW))), (ml, .inl (cI, 24, .inl (nF EL))), (mu, .inl (cI, 24, .inl (oF EU))), (wt, .inl (cI, 200, .inl (oF WT))), (ty, .inl (cI, 8, .inl (nF TY)))]) := by
  have hs8 := hw0.1
  have hA64 := hw0.2.1
  have hN0 := hR.1
  have hBK := tf_BK hTr hn
  have hDK := tf_DK hTr hn
  have hp := plc_le KS KL n s A
  have hcb := cbl_le KS KL n s A
  have hfl := fnd_le KS KL n s A
  refine wr_start (by decide) (Nat.le_of_ble_eq_true rfl) ?_
  intro pp ee ss mm below meth cd AA C0 hAA hP hK hD hS hN hnm ls hl
  obtain ⟨hx, hb, hr, hml, hown, hts, hlk⟩ := C0
  have hown : ss.vm.findClass RX6 = some mm.cls := hown
  have hl : lv_has ls 7 [(0, .ref m0), (1, .int (nI j))] := hl
  have hP : va_P D vwCl [(m0, .inr (6, [.ref nw, .ref ps, .int (nI u), .ref im, .ref mk, .int (nI sd), .ref wd, .int (nI s), .ref so, .int (nI q), .ref mb, .ref ma, .ref mf, .ref mw, .ref ml, .ref mu, .int (nI br), .ref wt, .int (nI ww), .ref ty])), (nw, .inl (cI, 241, .inl (nF NW))), (ps, .inl (cI, 4820, .inl (nF PS))), (im, .inl (cI, 484, .inl (nF IM))), (mk, .inl (cZ, 2, .inl (nF MK))), (wd, .inl (cI, 8, .inl (nF WD))), (so, .inl (cI, 24, .inl (nF SO))), (mb, .inl (cI, 24, .inl (nF EB))), (ma, .inl (cI, 24, .inl (nF EA))), (mf, .inl (cI, 24, .inl (nF EF))), (mw, .inl (cI, 24, .inl (nF EW))), (ml, .inl (cI, 24, .inl (nF EL))), (mu, .inl (cI, 24, .inl (oF EU))), (wt, .inl (cI, 200, .inl (oF WT))), (ty, .inl (cI, 8, .inl (nF TY)))] ss.heap := hP
  refine lv_iload_n hx hb dX6_below_0 rfl (lv_at hl 1 rfl) ?_
  refine lv_iconst (v := nI 0) hx hb dX6_below_1 (by decide +kernel) ?_
  refine lv_iconst (v := nI 3) hx hb dX6_below_2 (by decide +kernel) ?_
  refine ro_S (As := [.int (nI j), .int (nI 0), .int (nI 3)]) (rest := []) ⟨hx, hb, hml, hown, hts⟩ (c_X6_in l D cI cJ cZ j 0 3 (by omega) (by omega) (by omega)) (k_X6_79 hts ⟨Nat.le_of_ble_eq_true rfl, Nat.le_of_ble_eq_true rfl⟩) hK hP [] rfl rfl hl.1 rfl (Nat.le_of_ble_eq_true rfl) dX6_below_3 ⟨Nat.le_of_ble_eq_true rfl, Nat.le_of_ble_eq_true rfl⟩ ?_
  refine b_if_ne (tgt := 12) hx hb dX6_below_6 (by decide) (fun c1 => ?_) (fun c1 => ?_)
  ·
    exact absurd c1 (by omega)
  ·
    refine lv_ldc hx hb hown (hts _ mk_X6_83) dX6_below_9 ?_
    exact wr_iret hx hb hr hlk hP hD hS dX6_below_11 (⟨rfl, SO, q, EB, EA, EF, EW, EL, EU, br, WT, ww, rfl⟩)
set_option maxHeartbeats 4000000 in
set_option maxRecDepth 100000 in
theorem c_X6_below_0 (l : Launch) (D : va_G) (cI cJ cZ : ClassId) (m0 nw ps im mk wd so mb ma mf mw ml mu wt ty : Nat) (NW : Nat → Nat) (PS : Nat → Nat) (u : Nat) (IM : Nat → Nat) (MK : Nat → Nat) (sd : Nat) (WD : Nat → Nat) (s : Nat) (SO : Nat → Nat) (q : Nat) (EB : Nat → Nat) (EA : Nat → Nat) (EF : Nat → Nat) (EW : Nat → Nat) (EL : Nat → Nat) (EU : Nat → Nat) (br : Nat) (WT : Nat → Nat) (ww : Nat) (TY : Nat → Nat) (KS KL KW : Nat → Nat) (n A : Nat) (hn : n ≤ 24) (hk : ∀ k, k < n → Wf (KS k) (KL k)) (hw0 : Wf s A) (hR : RN NW KS KL KW n) (hRW : RW WD s A) (hso : Srt KS KL n) (BB BD BM BL BF BA BK : Nat → Nat) (hTr : TrX (gapF KS KL) n BB BD BM BL BF BA BK) (hv : ∀ k, k < n → KW k ≤ 9999)  (sz : Nat) : WR l yX6_below cX6_below 7 (some .int) (rmN 2 46) D (ty3 cI cJ cZ) [.ref m0, .int (nI 0)] [(m0, .inr (6, [.ref nw, .ref ps, .int (nI u), .ref im, .ref mk, .int (nI sd), .ref wd, .int (nI s), .ref so, .int (nI q), .ref mb, .ref ma, .ref mf, .ref mw, .ref ml, .ref mu, .int (nI br), .ref wt, .int (nI ww), .ref ty])), (nw, .inl (cI, 241, .inl (nF NW))), (ps, .inl (cI, 4820, .inl (nF PS))), (im, .inl (cI, 484, .inl (nF IM))), (mk, .inl (cZ, 2, .inl (nF MK))), (wd, .inl (cI, 8, .inl (nF WD))), (so, .inl (cI, 24, .inl (nF SO))), (mb, .inl (cI, 24, .inl (nF EB))), (ma, .inl (cI, 24, .inl (nF EA))), (mf, .inl (cI, 24, .inl (nF EF))), (mw, .inl (cI, 24, .inl (nF EW))), (ml, .inl (cI, 24, .inl (nF EL))), (mu, .inl (cI, 24, .inl (oF EU))), (wt, .inl (cI, 200, .inl (oF WT))), (ty, .inl (cI, 8, .inl (nF TY)))] sz (fun x w => x = some (.int (nI (cbl KS KL n s A))) ∧ ∃ (SO : Nat → Nat) (q : Nat) (EB EA EF EW EL EU : Nat → Nat) (br : Nat) (WT : Nat → Nat) (ww : Nat), w = [(m0, .inr (6, [.ref nw, .ref ps, .int (nI u), .ref im, .ref mk, .int (nI sd), .ref wd, .int (nI s), .ref so, .int (nI q), .ref mb, .ref ma, .ref mf, .ref mw, .ref ml, .ref mu, .int (nI br), .ref wt, .int (nI ww), .ref ty])), (nw, .inl (cI, 241, .inl (nF NW))), (ps, .inl (cI, 4820, .inl (nF PS))), (im, .inl (cI, 484, .inl (nF IM))), (mk, .inl (cZ, 2, .inl (nF MK))), (wd, .inl (cI, 8, .inl (nF WD))), (so, .inl (cI, 24, .inl (nF SO))), (mb, .inl (cI, 24, .inl (nF EB))), (ma, .inl (cI, 24, .inl (nF EA))), (mf, .inl (cI, 24, .inl (nF EF))), (mw, .inl (cI, 24, .inl (nF EW))), (ml, .inl (cI, 24, .inl (nF EL))), (mu, .inl (cI, 24, .inl (oF EU))), (wt, .inl (cI, 200, .inl (oF WT))), (ty, .inl (cI, 8, .inl (nF TY)))]) := by
  have hs8 := hw0.1
  have hA64 := hw0.2.1
  have hN0 := hR.1
  have hBK := tf_BK hTr hn
  have hDK := tf_DK hTr hn
  have hp := plc_le KS KL n s A
  have hcb := cbl_le KS KL n s A
  have hfl := fnd_le KS KL n s A
  have hbi : ∀ y, y < n → (9 * s ≤ unl (KS y) (KL y) s A ↔ plc KS KL n s A ≤ y ∧ y < plc KS KL n s A + cbl KS KL n s A) := fun y hy => bel_iff hk hw0 hso hy
  refine wr_start (by decide) (Nat.le_of_ble_eq_true rfl) ?_
  intro pp ee ss mm below meth cd AA C0 hAA hP hK hD hS hN hnm ls hl
  obtain ⟨hx, hb, hr, hml, hown, hts, hlk⟩ := C0
  have hown : ss.vm.findClass RX6 = some mm.cls := hown
  have hl : lv_has ls 7 [(0, .ref m0), (1, .int (nI 0))] := hl
  have hP : va_P D vwCl [(m0, .inr (6, [.ref nw, .ref ps, .int (nI u), .ref im, .ref mk, .int (nI sd), .ref wd, .int (nI s), .ref so, .int (nI q), .ref mb, .ref ma, .ref mf, .ref mw, .ref ml, .ref mu, .int (nI br), .ref wt, .int (nI ww), .ref ty])), (nw, .inl (cI, 241, .inl (nF NW))), (ps, .inl (cI, 4820, .inl (nF PS))), (im, .inl (cI, 484, .inl (nF IM))), (mk, .inl (cZ, 2, .inl (nF MK))), (wd, .inl (cI, 8, .inl (nF WD))), (so, .inl (cI, 24, .inl (nF SO))), (mb, .inl (cI, 24, .inl (nF EB))), (ma, .inl (cI, 24, .inl (nF EA))), (mf, .inl (cI, 24, .inl (nF EF))), (mw, .inl (cI, 24, .inl (nF EW))), (ml, .inl (cI, 24, .inl (nF EL))), (mu, .inl (cI, 24, .inl (oF EU))), (wt, .inl (cI, 200, .inl (oF WT))), (ty, .inl (cI, 8, .inl (nF TY)))] ss.heap := hP
  refine lv_iload_n hx hb dX6_below_0 rfl (lv_at hl 1 rfl) ?_
  refine lv_iconst (v := nI 0) hx hb dX6_below_1 (by decide +kernel) ?_
  refine lv_iconst (v := nI 3) hx hb dX6_below_2 (by decide +kernel) ?_
  refine ro_S (As := [.int (nI 0), .int (nI 0), .int (nI 3)]) (rest := []) ⟨hx, hb, hml, hown, hts⟩ (c_X6_in l D cI cJ cZ 0 0 3 (by omega) (by omega) (by omega)) (k_X6_79 hts ⟨Nat.le_of_ble_eq_true rfl, Nat.le_of_ble_eq_true rfl⟩) hK hP [] rfl rfl hl.1 rfl (Nat.le_of_ble_eq_true rfl) dX6_below_3 ⟨Nat.le_of_ble_eq_true rfl, Nat.le_of_ble_eq_true rfl⟩ ?_
  refine b_if_ne (tgt := 12) hx hb dX6_below_6 (by decide) (fun c1 => ?_) (fun c1 => ?_)
  ·
    refine lv_iconst (v := nI 0) hx hb dX6_below_12 (by decide +kernel) ?_
    refine lv_istore_n (lv' := [(2, .int (nI 0)), (0, .ref m0), (1, .int (nI 0))]) hx hb dX6_below_13 rfl hl (by decide) rfl (fun ls hl => ?_)
    refine lv_iconst (v := oI 0) hx hb dX6_below_14 (by decide +kernel) ?_
    refine lv_istore_n (lv' := [(3, .int (oI 0)), (2, .int (nI 0)), (0, .ref m0), (1, .int (nI 0))]) hx hb dX6_below_15 rfl hl (by decide) rfl (fun ls hl => ?_)
    refine lv_iconst (v := nI 0) hx hb dX6_below_16 (by decide +kernel) ?_
    refine lv_istore (lv' := [(4, .int (nI 0)), (3, .int (oI 0)), (2, .int (nI 0)), (0, .ref m0), (1, .int (nI 0))]) hx hb dX6_below_17 hl (by decide) rfl (fun ls hl => ?_)
    refine lv_iconst (v := oI 0) hx hb dX6_below_19 (by decide +kernel) ?_
    refine lv_istore (lv' := [(5, .int (oI 0)), (4, .int (nI 0)), (3, .int (oI 0)), (2, .int (nI 0)), (0, .ref m0), (1, .int (nI 0))]) hx hb dX6_below_20 hl (by decide) rfl (fun ls hl => ?_)
    refine lv_iconst (v := nI 0) hx hb dX6_below_22 (by decide +kernel) ?_
    refine lv_istore (lv' := [(6, .int (nI 0)), (5, .int (oI 0)), (4, .int (nI 0)), (3, .int (oI 0)), (2, .int (nI 0)), (0, .ref m0), (1, .int (nI 0))]) hx hb dX6_below_23 hl (by decide) rfl (fun ls hl => ?_)
    have loop25 : ∀ (d : Nat) (i : Nat) (c : Nat) (lw : Nat) (wv : Nat) (b : Nat) (H : Heap) (locs : List Loc) (ls : Array Slot), n - i < d → (i ≤ n) → (c = min (i - plc KS KL n s A) (cbl KS KL n s A)) → (lw = if 0 < c then plc KS KL n s A + 1 else 0) → (wv = fb_sm (fun y => KW (plc KS KL n s A + y)) c) → (b = mwo KW (plc KS KL n s A) c) → va_P D vwCl [(m0, .inr (6, [.ref nw, .ref ps, .int (nI u), .ref im, .ref mk, .int (nI sd), .ref wd, .int (nI s), .ref so, .int (nI q), .ref mb, .ref ma, .ref mf, .ref mw, .ref ml, .ref mu, .int (nI br), .ref wt, .int (nI ww), .ref ty])), (nw, .inl (cI, 241, .inl (nF NW))), (ps, .inl (cI, 4820, .inl (nF PS))), (im, .inl (cI, 484, .inl (nF IM))), (mk, .inl (cZ, 2, .inl (nF MK))), (wd, .inl (cI, 8, .inl (nF WD))), (so, .inl (cI, 24, .inl (nF SO))), (mb, .inl (cI, 24, .inl (nF EB))), (ma, .inl (cI, 24, .inl (nF EA))), (mf, .inl (cI, 24, .inl (nF EF))), (mw, .inl (cI, 24, .inl (nF EW))), (ml, .inl (cI, 24, .inl (nF EL))), (mu, .inl (cI, 24, .inl (oF EU))), (wt, .inl (cI, 200, .inl (oF WT))), (ty, .inl (cI, 8, .inl (nF TY)))] H → va_D AA [(m0, .inr (6, [.ref nw, .ref ps, .int (nI u), .ref im, .ref mk, .int (nI sd), .ref wd, .int (nI s), .ref so, .int (nI q), .ref mb, .ref ma, .ref mf, .ref mw, .ref ml, .ref mu, .int (nI br), .ref wt, .int (nI ww), .ref ty])), (nw, .inl (cI, 241, .inl (nF NW))), (ps, .inl (cI, 4820, .inl (nF PS))), (im, .inl (cI, 484, .inl (nF IM))), (mk, .inl (cZ, 2, .inl (nF MK))), (wd, .inl (cI, 8, .inl (nF WD))), (so, .inl (cI, 24, .inl (nF SO))), (mb, .inl (cI, 24, .inl (nF EB))), (ma, .inl (cI, 24, .inl (nF EA))), (mf, .inl (cI, 24, .inl (nF EF))), (mw, .inl (cI, 24, .inl (nF EW))), (ml, .inl (cI, 24, .inl (nF EL))), (mu, .inl (cI, 24, .inl (oF EU))), (wt, .inl (cI, 200, .inl (oF WT))), (ty, .inl (cI, 8, .inl (nF TY)))] → va_S AA ss.heap H locs → lv_has ls 7 [(0, .ref m0), (1, .int (nI 0)), (2, .int (nI c)), (3, .int (oI lw)), (4, .int (nI wv)), (5, .int (oI b)), (6, .int (nI i))] → W pp l ee (rmN 2 46) ss mm [.ref m0, .int (nI 0)].toArray below meth cd H locs 0 0 (MQ below (QW D AA (fun x w => x = some (.int (nI (cbl KS KL n s A))) ∧ ∃ (SO : Nat → Nat) (q : Nat) (EB EA EF EW EL EU : Nat → Nat) (br : Nat) (WT : Nat → Nat) (ww : Nat), w = [(m0, .inr (6, [.ref nw, .ref ps, .int (nI u), .ref im, .ref mk, .int (nI sd), .ref wd, .int (nI s), .ref so, .int (nI q), .ref mb, .ref ma, .ref mf, .ref mw, .ref ml, .ref mu, .int (nI br), .ref wt, .int (nI ww), .ref ty])), (nw, .inl (cI, 241, .inl (nF NW))), (ps, .inl (cI, 4820, .inl (nF PS))), (im, .inl (cI, 484, .inl (nF IM))), (mk, .inl (cZ, 2, .inl (nF MK))), (wd, .inl (cI, 8, .inl (nF WD))), (so, .inl (cI, 24, .inl (nF SO))), (mb, .inl (cI, 24, .inl (nF EB))), (ma, .inl (cI, 24, .inl (nF EA))), (mf, .inl (cI, 24, .inl (nF EF))), (mw, .inl (cI, 24, .inl (nF EW))), (ml, .inl (cI, 24, .inl (nF EL))), (mu, .inl (cI, 24, .inl (oF EU))), (wt, .inl (cI, 200, .inl (oF WT))), (ty, .inl (cI, 8, .inl (nF TY)))])) [.ref m0, .int (nI 0)].toArray ss 0 0 AA) (F0 mm 25 ls []) := by
      intro d
      induction d with
      | zero => intro i c lw wv b H locs ls h; exact absurd h (Nat.not_lt_zero _)
      | succ d ih25 =>
        intro i c lw wv b H locs ls hd25 hi hc hlw hwv hb0 hP hD hS hl
        have hb1 := mwo_le KW (plc KS KL n s A) c
        have hcn : c ≤ n := by omega
        refine lv_iload hx hb dX6_below_25 (lv_at hl 6 rfl) ?_
        refine lv_aload_n hx hb dX6_below_27 rfl (lv_at hl 0 rfl) ?_
        refine va_get (D := D) (ci := 6) (v := .ref nw) (C := RX6) (T := TX6) (N := 20) hx hb hts inX6 hown hK hP 0 rfl rfl 0 (by decide) (hts _ mf_X6_7) (fun _ h9 => h9) rfl dX6_below_28 ?_
        refine lv_iconst (v := nI 0) hx hb dX6_below_31 (by decide +kernel) ?_
        refine n_iald hx hb hK hP 1 0 rfl rfl (k := 0) (by omega) (by decide) dX6_below_32 ?_
        refine tq (y := nI n) (congrArg nI (hN0)) ?_
        refine n_ge (tgt := 121) hx hb dX6_below_33 (by decide) (by omega) (by omega) (fun c2 => ?_) (fun c2 => ?_)
        ·
          refine lv_iload_n hx hb dX6_below_121 rfl (lv_at hl 1 rfl) ?_
          refine n_if_ne (tgt := 129) hx hb dX6_below_122 (by decide) (by decide) (fun h9 => absurd rfl h9) (fun _ => ?_)
          refine lv_iload_n hx hb dX6_below_125 rfl (lv_at hl 2 rfl) ?_
          refine lv_goto (tgt := 150) hx hb dX6_below_126 (by decide) ?_
          refine tq (y := (nI (cbl KS KL n s A))) (by rw [hc, show i = n by omega, Nat.min_eq_right (by omega)]) ?_
          exact wr_iret hx hb hr hlk hP hD hS dX6_below_150 (⟨rfl, SO, q, EB, EA, EF, EW, EL, EU, br, WT, ww, rfl⟩)
        ·
          refine lv_aload_n hx hb dX6_below_36 rfl (lv_at hl 0 rfl) ?_
          refine lv_iload hx hb dX6_below_37 (lv_at hl 6 rfl) ?_
          refine lv_bipush (v := nI 24) hx hb dX6_below_39 (by decide +kernel) ?_
          refine ro_V (As := [.int (nI i), .int (nI 24)]) (rest := []) ⟨hx, hb, hml, hown, hts⟩ (c_X6_begins l D cI cJ cZ m0 nw ps im mk wd so mb ma mf mw ml mu wt ty NW PS u IM MK sd WD s SO q EB EA EF EW EL EU br WT ww TY KS KL KW n A hn hk hw0 hR hRW i ((KS i)) ((KL i)) (Or.inr ⟨by omega, rfl, rfl⟩) 24 s A (Or.inl ⟨rfl, rfl, rfl⟩)) (k_X6_149 hts ⟨Nat.le_of_ble_eq_true rfl, Nat.le_of_ble_eq_true rfl⟩) hK hP 0 rfl rfl rfl [0, 1, 2, 3, 4, 5, 6, 7, 8, 9, 10, 11, 12, 13, 14] rfl rfl hl.1 rfl (Nat.le_of_ble_eq_true rfl) dX6_below_41 ⟨Nat.le_of_ble_eq_true rfl, Nat.le_of_ble_eq_true rfl⟩ ?_
          refine b_if_eq (tgt := 115) hx hb dX6_below_44 (by decide) (fun c4 => ?_) (fun c4 => ?_)
          ·
            have hpi : ¬ (plc KS KL n s A ≤ i ∧ i < plc KS KL n s A + cbl KS KL n s A) := fun z => c4 ((hbi i (by omega)).mpr z)
            refine lv_iinc (v := nI (i + 1)) (lv' := [(6, .int (nI (i + 1))), (0, .ref m0), (1, .int (nI 0)), (2, .int (nI c)), (3, .int (oI lw)), (4, .int (nI wv)), (5, .int (oI b))]) hx hb dX6_below_115 hl (k := 6) rfl (nI_add i 1) (by decide) rfl (fun ls hl => ?_)
            refine lv_goto (tgt := 25) hx hb dX6_below_118 (by decide) ?_
            exact ih25 (i + 1) c lw wv b _ _ ls (by omega) (by omega) (by omega) (by first | exact hlw | (exfalso; omega) | (rw [if_pos (by omega)]; rw [hlw]; rw [if_pos (by omega)]) | (rw [if_pos (by omega)]; omega)) (by first | exact hwv | exact sm_step hwv (by omega)) (by first | exact hb0 | (exfalso; omega) | (show _ = (if mwo KW (plc KS KL n s A) c = 0 ∨ KW (mwo KW (plc KS KL n s A) c - 1) < KW (plc KS KL n s A + c) then plc KS KL n s A + c + 1 else mwo KW (plc KS KL n s A) c); rw [← hb0, show plc KS KL n s A + c = i by omega]; first | rw [if_pos (by omega)] | rw [if_neg (by omega)])) hP hD hS (lv_sub hl [1, 2, 3, 4, 5, 6, 0] rfl)
          ·
            have hpi := (hbi i (by omega)).mp c4
            refine lv_iinc (v := nI (c + 1)) (lv' := [(2, .int (nI (c + 1))), (0, .ref m0), (1, .int (nI 0)), (3, .int (oI lw)), (4, .int (nI wv)), (5, .int (oI b)), (6, .int (nI i))]) hx hb dX6_below_47 hl (k := 2) rfl (nI_add c 1) (by decide) rfl (fun ls hl => ?_)
            refine lv_iload_n hx hb dX6_below_50 rfl (lv_at hl 3 rfl) ?_
            refine lv_iconst (v := oI 0) hx hb dX6_below_51 (by decide +kernel) ?_
            refine o_ne (tgt := 60) hx hb dX6_below_52 (by decide) (by rw [hlw]; split <;> omega) (fun c5 => ?_) (fun c5 => ?_)
            ·
              have e5 : 0 < c := by rcases Nat.eq_zero_or_pos c with z | z; rw [hlw, if_neg (by omega)] at c5; omega; exact z
              refine lv_iload_n hx hb dX6_below_60 rfl (lv_at hl 3 rfl) ?_
              refine lv_istore_n (lv' := [(3, .int (oI lw)), (2, .int (nI (c + 1))), (0, .ref m0), (1, .int (nI 0)), (4, .int (nI wv)), (5, .int (oI b)), (6, .int (nI i))]) hx hb dX6_below_61 rfl hl (by decide) rfl (fun ls hl => ?_)
              refine lv_iload hx hb dX6_below_62 (lv_at hl 4 rfl) ?_
              refine lv_aload_n hx hb dX6_below_64 rfl (lv_at hl 2 rfl) ?_
              refine va_get (D := D) (ci := 6) (v := .ref nw) (C := RX6) (T := TX6) (N := 20) hx hb hts inX6 hown hK hP 0 rfl rfl 0 (by decide) (hts _ mf_X6_7) (fun _ h9 => h9) rfl dX6_below_65 ?_
              refine lv_bipush (v := nI 25) hx hb dX6_below_68 (by decide +kernel) ?_
              refine lv_iload hx hb dX6_below_70 (lv_at hl 6 rfl) ?_
              refine n_iadd hx hb dX6_below_72 ?_
              refine n_iald hx hb hK hP 1 0 rfl rfl (k := (25 + i)) (by omega) (by decide) dX6_below_73 ?_
              refine tq (y := nI (KW i)) (congrArg nI ((hR.2 i (by omega)).2.1)) ?_
              refine n_iadd hx hb dX6_below_74 ?_
              refine lv_istore (lv' := [(4, .int (nI (wv + (KW i)))), (3, .int (oI lw)), (2, .int (nI (c + 1))), (0, .ref m0), (1, .int (nI 0)), (5, .int (oI b)), (6, .int (nI i))]) hx hb dX6_below_75 hl (by decide) rfl (fun ls hl => ?_)
              refine lv_iload hx hb dX6_below_77 (lv_at hl 5 rfl) ?_
              refine lv_iconst (v := oI 0) hx hb dX6_below_79 (by decide +kernel) ?_
              refine o_eq (tgt := 106) hx hb dX6_below_80 (by decide) (by omega) (fun c6 => ?_) (fun c6 => ?_)
              ·
                refine lv_iload hx hb dX6_below_106 (lv_at hl 6 rfl) ?_
                refine lv_goto (tgt := 113) hx hb dX6_below_108 (by decide) ?_
                refine tq (y := oI (i + 1)) (oI_s _).symm ?_
                refine lv_istore (lv' := [(5, .int (oI (i + 1))), (4, .int (nI (wv + (KW i)))), (3, .int (oI lw)), (2, .int (nI (c + 1))), (0, .ref m0), (1, .int (nI 0)), (6, .int (nI i))]) hx hb dX6_below_113 hl (by decide) rfl (fun ls hl => ?_)
                refine lv_iinc (v := nI (i + 1)) (lv' := [(6, .int (nI (i + 1))), (5, .int (oI (i + 1))), (4, .int (nI (wv + (KW i)))), (3, .int (oI lw)), (2, .int (nI (c + 1))), (0, .ref m0), (1, .int (nI 0))]) hx hb dX6_below_115 hl (k := 6) rfl (nI_add i 1) (by decide) rfl (fun ls hl => ?_)
                refine lv_goto (tgt := 25) hx hb dX6_below_118 (by decide) ?_
                exact ih25 (i + 1) (c + 1) lw (wv + (KW i)) (i + 1) _ _ ls (by omega) (by omega) (by omega) (by first | exact hlw | (exfalso; omega) | (rw [if_pos (by omega)]; rw [hlw]; rw [if_pos (by omega)]) | (rw [if_pos (by omega)]; omega)) (by first | exact hwv | exact sm_step hwv (by omega)) (by first | exact hb0 | (exfalso; omega) | (show _ = (if mwo KW (plc KS KL n s A) c = 0 ∨ KW (mwo KW (plc KS KL n s A) c - 1) < KW (plc KS KL n s A + c) then plc KS KL n s A + c + 1 else mwo KW (plc KS KL n s A) c); rw [← hb0, show plc KS KL n s A + c = i by omega]; first | rw [if_pos (by omega)] | rw [if_neg (by omega)])) hP hD hS (lv_sub hl [5, 6, 4, 3, 2, 1, 0] rfl)
              ·
                refine lv_aload_n hx hb dX6_below_83 rfl (lv_at hl 3 rfl) ?_
                refine va_get (D := D) (ci := 6) (v := .ref nw) (C := RX6) (T := TX6) (N := 20) hx hb hts inX6 hown hK hP 0 rfl rfl 0 (by decide) (hts _ mf_X6_7) (fun _ h9 => h9) rfl dX6_below_84 ?_
                refine lv_bipush (v := nI 25) hx hb dX6_below_87 (by decide +kernel) ?_
                refine lv_iload hx hb dX6_below_89 (lv_at hl 6 rfl) ?_
                refine n_iadd hx hb dX6_below_91 ?_
                refine n_iald hx hb hK hP 1 0 rfl rfl (k := (25 + i)) (by omega) (by decide) dX6_below_92 ?_
                refine tq (y := nI (KW i)) (congrArg nI ((hR.2 i (by omega)).2.1)) ?_
                refine lv_aload_n hx hb dX6_below_93 rfl (lv_at hl 3 rfl) ?_
                refine va_get (D := D) (ci := 6) (v := .ref nw) (C := RX6) (T := TX6) (N := 20) hx hb hts inX6 hown hK hP 0 rfl rfl 0 (by decide) (hts _ mf_X6_7) (fun _ h9 => h9) rfl dX6_below_94 ?_
                refine lv_bipush (v := nI 25) hx hb dX6_below_97 (by decide +kernel) ?_
                refine lv_iload hx hb dX6_below_99 (lv_at hl 5 rfl) ?_
                refine tq (y := (nI (b - 1))) (oI_p (by omega)) ?_
                refine n_iadd hx hb dX6_below_101 ?_
                refine n_iald hx hb hK hP 1 0 rfl rfl (k := (25 + (b - 1))) (by omega) (by decide) dX6_below_102 ?_
                refine tq (y := nI (KW (b - 1))) (congrArg nI ((hR.2 (b - 1) (by omega)).2.1)) ?_
                refine n_le (tgt := 111) hx hb dX6_below_103 (by decide) (by have := hv i (by omega); omega) (by have := hv (b - 1) (by omega); omega) (fun c7 => ?_) (fun c7 => ?_)
                ·
                  refine lv_iload hx hb dX6_below_111 (lv_at hl 5 rfl) ?_
                  refine lv_istore (lv' := [(5, .int (oI b)), (4, .int (nI (wv + (KW i)))), (3, .int (oI lw)), (2, .int (nI (c + 1))), (0, .ref m0), (1, .int (nI 0)), (6, .int (nI i))]) hx hb dX6_below_113 hl (by decide) rfl (fun ls hl => ?_)
                  refine lv_iinc (v := nI (i + 1)) (lv' := [(6, .int (nI (i + 1))), (5, .int (oI b)), (4, .int (nI (wv + (KW i)))), (3, .int (oI lw)), (2, .int (nI (c + 1))), (0, .ref m0), (1, .int (nI 0))]) hx hb dX6_below_115 hl (k := 6) rfl (nI_add i 1) (by decide) rfl (fun ls hl => ?_)
                  refine lv_goto (tgt := 25) hx hb dX6_below_118 (by decide) ?_
                  exact ih25 (i + 1) (c + 1) lw (wv + (KW i)) b _ _ ls (by omega) (by omega) (by omega) (by first | exact hlw | (exfalso; omega) | (rw [if_pos (by omega)]; rw [hlw]; rw [if_pos (by omega)]) | (rw [if_pos (by omega)]; omega)) (by first | exact hwv | exact sm_step hwv (by omega)) (by first | exact hb0 | (exfalso; omega) | (show _ = (if mwo KW (plc KS KL n s A) c = 0 ∨ KW (mwo KW (plc KS KL n s A) c - 1) < KW (plc KS KL n s A + c) then plc KS KL n s A + c + 1 else mwo KW (plc KS KL n s A) c); rw [← hb0, show plc KS KL n s A + c = i by omega]; first | rw [if_pos (by omega)] | rw [if_neg (by omega)])) hP hD hS (lv_sub hl [5, 6, 4, 3, 2, 1, 0] rfl)
                ·
                  refine lv_iload hx hb dX6_below_106 (lv_at hl 6 rfl) ?_
                  refine lv_goto (tgt := 113) hx hb dX6_below_108 (by decide) ?_
                  refine tq (y := oI (i + 1)) (oI_s _).symm ?_
                  refine lv_istore (lv' := [(5, .int (oI (i + 1))), (4, .int (nI (wv + (KW i)))), (3, .int (oI lw)), (2, .int (nI (c + 1))), (0, .ref m0), (1, .int (nI 0)), (6, .int (nI i))]) hx hb dX6_below_113 hl (by decide) rfl (fun ls hl => ?_)
                  refine lv_iinc (v := nI (i + 1)) (lv' := [(6, .int (nI (i + 1))), (5, .int (oI (i + 1))), (4, .int (nI (wv + (KW i)))), (3, .int (oI lw)), (2, .int (nI (c + 1))), (0, .ref m0), (1, .int (nI 0))]) hx hb dX6_below_115 hl (k := 6) rfl (nI_add i 1) (by decide) rfl (fun ls hl => ?_)
                  refine lv_goto (tgt := 25) hx hb dX6_below_118 (by decide) ?_
                  exact ih25 (i + 1) (c + 1) lw (wv + (KW i)) (i + 1) _ _ ls (by omega) (by omega) (by omega) (by first | exact hlw | (exfalso; omega) | (rw [if_pos (by omega)]; rw [hlw]; rw [if_pos (by omega)]) | (rw [if_pos (by omega)]; omega)) (by first | exact hwv | exact sm_step hwv (by omega)) (by first | exact hb0 | (exfalso; omega) | (show _ = (if mwo KW (plc KS KL n s A) c = 0 ∨ KW (mwo KW (plc KS KL n s A) c - 1) < KW (plc KS KL n s A + c) then plc KS KL n s A + c + 1 else mwo KW (plc KS KL n s A) c); rw [← hb0, show plc KS KL n s A + c = i by omega]; first | rw [if_pos (by omega)] | rw [if_neg (by omega)])) hP hD hS (lv_sub hl [5, 6, 4, 3, 2, 1, 0] rfl)
            ·
              have e5 : c = 0 := by rcases Nat.eq_zero_or_pos c with z | z; exact z; rw [hlw, if_pos z] at c5; omega
              refine lv_iload hx hb dX6_below_55 (lv_at hl 6 rfl) ?_
              refine lv_goto (tgt := 61) hx hb dX6_below_57 (by decide) ?_
              refine tq (y := oI (i + 1)) (oI_s _).symm ?_
              refine lv_istore_n (lv' := [(3, .int (oI (i + 1))), (2, .int (nI (c + 1))), (0, .ref m0), (1, .int (nI 0)), (4, .int (nI wv)), (5, .int (oI b)), (6, .int (nI i))]) hx hb dX6_below_61 rfl hl (by decide) rfl (fun ls hl => ?_)
              refine lv_iload hx hb dX6_below_62 (lv_at hl 4 rfl) ?_
              refine lv_aload_n hx hb dX6_below_64 rfl (lv_at hl 2 rfl) ?_
              refine va_get (D := D) (ci := 6) (v := .ref nw) (C := RX6) (T := TX6) (N := 20) hx hb hts inX6 hown hK hP 0 rfl rfl 0 (by decide) (hts _ mf_X6_7) (fun _ h9 => h9) rfl dX6_below_65 ?_
              refine lv_bipush (v := nI 25) hx hb dX6_below_68 (by decide +kernel) ?_
              refine lv_iload hx hb dX6_below_70 (lv_at hl 6 rfl) ?_
              refine n_iadd hx hb dX6_below_72 ?_
              refine n_iald hx hb hK hP 1 0 rfl rfl (k := (25 + i)) (by omega) (by decide) dX6_below_73 ?_
              refine tq (y := nI (KW i)) (congrArg nI ((hR.2 i (by omega)).2.1)) ?_
              refine n_iadd hx hb dX6_below_74 ?_
              refine lv_istore (lv' := [(4, .int (nI (wv + (KW i)))), (3, .int (oI (i + 1))), (2, .int (nI (c + 1))), (0, .ref m0), (1, .int (nI 0)), (5, .int (oI b)), (6, .int (nI i))]) hx hb dX6_below_75 hl (by decide) rfl (fun ls hl => ?_)
              refine lv_iload hx hb dX6_below_77 (lv_at hl 5 rfl) ?_
              refine lv_iconst (v := oI 0) hx hb dX6_below_79 (by decide +kernel) ?_
              refine o_eq (tgt := 106) hx hb dX6_below_80 (by decide) (by omega) (fun c8 => ?_) (fun c8 => ?_)
              ·
                refine lv_iload hx hb dX6_below_106 (lv_at hl 6 rfl) ?_
                refine lv_goto (tgt := 113) hx hb dX6_below_108 (by decide) ?_
                refine tq (y := oI (i + 1)) (oI_s _).symm ?_
                refine lv_istore (lv' := [(5, .int (oI (i + 1))), (4, .int (nI (wv + (KW i)))), (3, .int (oI (i + 1))), (2, .int (nI (c + 1))), (0, .ref m0), (1, .int (nI 0)), (6, .int (nI i))]) hx hb dX6_below_113 hl (by decide) rfl (fun ls hl => ?_)
                refine lv_iinc (v := nI (i + 1)) (lv' := [(6, .int (nI (i + 1))), (5, .int (oI (i + 1))), (4, .int (nI (wv + (KW i)))), (3, .int (oI (i + 1))), (2, .int (nI (c + 1))), (0, .ref m0), (1, .int (nI 0))]) hx hb dX6_below_115 hl (k := 6) rfl (nI_add i 1) (by decide) rfl (fun ls hl => ?_)
                refine lv_goto (tgt := 25) hx hb dX6_below_118 (by decide) ?_
                exact ih25 (i + 1) (c + 1) (i + 1) (wv + (KW i)) (i + 1) _ _ ls (by omega) (by omega) (by omega) (by first | exact hlw | (exfalso; omega) | (rw [if_pos (by omega)]; rw [hlw]; rw [if_pos (by omega)]) | (rw [if_pos (by omega)]; omega)) (by first | exact hwv | exact sm_step hwv (by omega)) (by first | exact hb0 | (exfalso; omega) | (show _ = (if mwo KW (plc KS KL n s A) c = 0 ∨ KW (mwo KW (plc KS KL n s A) c - 1) < KW (plc KS KL n s A + c) then plc KS KL n s A + c + 1 else mwo KW (plc KS KL n s A) c); rw [← hb0, show plc KS KL n s A + c = i by omega]; first | rw [if_pos (by omega)] | rw [if_neg (by omega)])) hP hD hS (lv_sub hl [5, 6, 4, 3, 2, 1, 0] rfl)
              ·
                refine lv_aload_n hx hb dX6_below_83 rfl (lv_at hl 3 rfl) ?_
                refine va_get (D := D) (ci := 6) (v := .ref nw) (C := RX6) (T := TX6) (N := 20) hx hb hts inX6 hown hK hP 0 rfl rfl 0 (by decide) (hts _ mf_X6_7) (fun _ h9 => h9) rfl dX6_below_84 ?_
                refine lv_bipush (v := nI 25) hx hb dX6_below_87 (by decide +kernel) ?_
                refine lv_iload hx hb dX6_below_89 (lv_at hl 6 rfl) ?_
                refine n_iadd hx hb dX6_below_91 ?_
                refine n_iald hx hb hK hP 1 0 rfl rfl (k := (25 + i)) (by omega) (by decide) dX6_below_92 ?_
                refine tq (y := nI (KW i)) (congrArg nI ((hR.2 i (by omega)).2.1)) ?_
                refine lv_aload_n hx hb dX6_below_93 rfl (lv_at hl 3 rfl) ?_
                refine va_get (D := D) (ci := 6) (v := .ref nw) (C := RX6) (T := TX6) (N := 20) hx hb hts inX6 hown hK hP 0 rfl rfl 0 (by decide) (hts _ mf_X6_7) (fun _ h9 => h9) rfl dX6_below_94 ?_
                refine lv_bipush (v := nI 25) hx hb dX6_below_97 (by decide +kernel) ?_
                refine lv_iload hx hb dX6_below_99 (lv_at hl 5 rfl) ?_
                refine tq (y := (nI (b - 1))) (oI_p (by omega)) ?_
                refine n_iadd hx hb dX6_below_101 ?_
                refine n_iald hx hb hK hP 1 0 rfl rfl (k := (25 + (b - 1))) (by omega) (by decide) dX6_below_102 ?_
                refine tq (y := nI (KW (b - 1))) (congrArg nI ((hR.2 (b - 1) (by omega)).2.1)) ?_
                refine n_le (tgt := 111) hx hb dX6_below_103 (by decide) (by have := hv i (by omega); omega) (by have := hv (b - 1) (by omega); omega) (fun c9 => ?_) (fun c9 => ?_)
                ·
                  refine lv_iload hx hb dX6_below_111 (lv_at hl 5 rfl) ?_
                  refine lv_istore (lv' := [(5, .int (oI b)), (4, .int (nI (wv + (KW i)))), (3, .int (oI (i + 1))), (2, .int (nI (c + 1))), (0, .ref m0), (1, .int (nI 0)), (6, .int (nI i))]) hx hb dX6_below_113 hl (by decide) rfl (fun ls hl => ?_)
                  refine lv_iinc (v := nI (i + 1)) (lv' := [(6, .int (nI (i + 1))), (5, .int (oI b)), (4, .int (nI (wv + (KW i)))), (3, .int (oI (i + 1))), (2, .int (nI (c + 1))), (0, .ref m0), (1, .int (nI 0))]) hx hb dX6_below_115 hl (k := 6) rfl (nI_add i 1) (by decide) rfl (fun ls hl => ?_)
                  refine lv_goto (tgt := 25) hx hb dX6_below_118 (by decide) ?_
                  exact ih25 (i + 1) (c + 1) (i + 1) (wv + (KW i)) b _ _ ls (by omega) (by omega) (by omega) (by first | exact hlw | (exfalso; omega) | (rw [if_pos (by omega)]; rw [hlw]; rw [if_pos (by omega)]) | (rw [if_pos (by omega)]; omega)) (by first | exact hwv | exact sm_step hwv (by omega)) (by first | exact hb0 | (exfalso; omega) | (show _ = (if mwo KW (plc KS KL n s A) c = 0 ∨ KW (mwo KW (plc KS KL n s A) c - 1) < KW (plc KS KL n s A + c) then plc KS KL n s A + c + 1 else mwo KW (plc KS KL n s A) c); rw [← hb0, show plc KS KL n s A + c = i by omega]; first | rw [if_pos (by omega)] | rw [if_neg (by omega)])) hP hD hS (lv_sub hl [5, 6, 4, 3, 2, 1, 0] rfl)
                ·
                  refine lv_iload hx hb dX6_below_106 (lv_at hl 6 rfl) ?_
                  refine lv_goto (tgt := 113) hx hb dX6_below_108 (by decide) ?_
                  refine tq (y := oI (i + 1)) (oI_s _).symm ?_
                  refine lv_istore (lv' := [(5, .int (oI (i + 1))), (4, .int (nI (wv + (KW i)))), (3, .int (oI (i + 1))), (2, .int (nI (c + 1))), (0, .ref m0), (1, .int (nI 0)), (6, .int (nI i))]) hx hb dX6_below_113 hl (by decide) rfl (fun ls hl => ?_)
                  refine lv_iinc (v := nI (i + 1)) (lv' := [(6, .int (nI (i + 1))), (5, .int (oI (i + 1))), (4, .int (nI (wv + (KW i)))), (3, .int (oI (i + 1))), (2, .int (nI (c + 1))), (0, .ref m0), (1, .int (nI 0))]) hx hb dX6_below_115 hl (k := 6) rfl (nI_add i 1) (by decide) rfl (fun ls hl => ?_)
                  refine lv_goto (tgt := 25) hx hb dX6_below_118 (by decide) ?_
                  exact ih25 (i + 1) (c + 1) (i + 1) (wv + (KW i)) (i + 1) _ _ ls (by omega) (by omega) (by omega) (by first | exact hlw | (exfalso; omega) | (rw [if_pos (by omega)]; rw [hlw]; rw [if_pos (by omega)]) | (rw [if_pos (by omega)]; omega)) (by first | exact hwv | exact sm_step hwv (by omega)) (by first | exact hb0 | (exfalso; omega) | (show _ = (if mwo KW (plc KS KL n s A) c = 0 ∨ KW (mwo KW (plc KS KL n s A) c - 1) < KW (plc KS KL n s A + c) then plc KS KL n s A + c + 1 else mwo KW (plc KS KL n s A) c); rw [← hb0, show plc KS KL n s A + c = i by omega]; first | rw [if_pos (by omega)] | rw [if_neg (by omega)])) hP hD hS (lv_sub hl [5, 6, 4, 3, 2, 1, 0] rfl)
    exact loop25 _ 0 0 0 0 0 _ _ ls (Nat.lt_succ_self _) (Nat.zero_le _) (by rw [Nat.zero_sub, Nat.zero_min]) (by rw [if_neg (Nat.lt_irrefl 0)]) rfl rfl hP hD hS (lv_sub hl [5, 6, 4, 3, 2, 1, 0] rfl)
  ·
    exact (c1 (by decide)).elim
set_option maxHeartbeats 4000000 in
set_option maxRecDepth 100000 in
theorem c_X6_below_1y (l : Launch) (D : va_G) (cI cJ cZ : ClassId) (m0 nw ps im mk wd so mb ma mf mw ml mu wt ty : Nat) (NW : Nat → Nat) (PS : Nat → Nat) (u : Nat) (IM : Nat → Nat) (MK : Nat → Nat) (sd : Nat) (WD : Nat → Nat) (s : Nat) (SO : Nat → Nat) (q : Nat) (EB : Nat → Nat) (EA : Nat → Nat) (EF : Nat → Nat) (EW : Nat → Nat) (EL : Nat → Nat) (EU : Nat → Nat) (br : Nat) (WT : Nat → Nat) (ww : Nat) (TY : Nat → Nat) (KS KL KW : Nat → Nat) (n A : Nat) (hn : n ≤ 24) (hk : ∀ k, k < n → Wf (KS k) (KL k)) (hw0 : Wf s A) (hR : RN NW KS KL KW n) (hRW : RW WD s A) (hso : Srt KS KL n) (BB BD BM BL BF BA BK : Nat → Nat) (hTr : TrX (gapF KS KL) n BB BD BM BL BF BA BK) (hv : ∀ k, k < n → KW k ≤ 9999) (hc0 : 0 < cbl KS KL n s A) (sz : Nat) : WR l yX6_below cX6_below 7 (some .int) (rmN 2 46) D (ty3 cI cJ cZ) [.ref m0, .int (nI 1)] [(m0, .inr (6, [.ref nw, .ref ps, .int (nI u), .ref im, .ref mk, .int (nI sd), .ref wd, .int (nI s), .ref so, .int (nI q), .ref mb, .ref ma, .ref mf, .ref mw, .ref ml, .ref mu, .int (nI br), .ref wt, .int (nI ww), .ref ty])), (nw, .inl (cI, 241, .inl (nF NW))), (ps, .inl (cI, 4820, .inl (nF PS))), (im, .inl (cI, 484, .inl (nF IM))), (mk, .inl (cZ, 2, .inl (nF MK))), (wd, .inl (cI, 8, .inl (nF WD))), (so, .inl (cI, 24, .inl (nF SO))), (mb, .inl (cI, 24, .inl (nF EB))), (ma, .inl (cI, 24, .inl (nF EA))), (mf, .inl (cI, 24, .inl (nF EF))), (mw, .inl (cI, 24, .inl (nF EW))), (ml, .inl (cI, 24, .inl (nF EL))), (mu, .inl (cI, 24, .inl (oF EU))), (wt, .inl (cI, 200, .inl (oF WT))), (ty, .inl (cI, 8, .inl (nF TY)))] sz (fun x w => x = some (.int (nI (plc KS KL n s A))) ∧ ∃ (SO : Nat → Nat) (q : Nat) (EB EA EF EW EL EU : Nat → Nat) (br : Nat) (WT : Nat → Nat) (ww : Nat), w = [(m0, .inr (6, [.ref nw, .ref ps, .int (nI u), .ref im, .ref mk, .int (nI sd), .ref wd, .int (nI s), .ref so, .int (nI q), .ref mb, .ref ma, .ref mf, .ref mw, .ref ml, .ref mu, .int (nI br), .ref wt, .int (nI ww), .ref ty])), (nw, .inl (cI, 241, .inl (nF NW))), (ps, .inl (cI, 4820, .inl (nF PS))), (im, .inl (cI, 484, .inl (nF IM))), (mk, .inl (cZ, 2, .inl (nF MK))), (wd, .inl (cI, 8, .inl (nF WD))), (so, .inl (cI, 24, .inl (nF SO))), (mb, .inl (cI, 24, .inl (nF EB))), (ma, .inl (cI, 24, .inl (nF EA))), (mf, .inl (cI, 24, .inl (nF EF))), (mw, .inl (cI, 24, .inl (nF EW))), (ml, .inl (cI, 24, .inl (nF EL))), (mu, .inl (cI, 24, .inl (oF EU))), (wt, .inl (cI, 200, .inl (oF WT))), (ty, .inl (cI, 8, .inl (nF TY)))]) := by
  have hs8 := hw0.1
  have hA64 := hw0.2.1
  have hN0 := hR.1
  have hBK := tf_BK hTr hn
  have hDK := tf_DK hTr hn
  have hp := plc_le KS KL n s A
  have hcb := cbl_le KS KL n s A
  have hfl := fnd_le KS KL n s A
  have hbi : ∀ y, y < n → (9 * s ≤ unl (KS y) (KL y) s A ↔ plc KS KL n s A ≤ y ∧ y < plc KS KL n s A + cbl KS KL n s A) := fun y hy => bel_iff hk hw0 hso hy
  refine wr_start (by decide) (Nat.le_of_ble_eq_true rfl) ?_
  intro pp ee ss mm below meth cd AA C0 hAA hP hK hD hS hN hnm ls hl
  obtain ⟨hx, hb, hr, hml, hown, hts, hlk⟩ := C0
  have hown : ss.vm.findClass RX6 = some mm.cls := hown
  have hl : lv_has ls 7 [(0, .ref m0), (1, .int (nI 1))] := hl
  have hP : va_P D vwCl [(m0, .inr (6, [.ref nw, .ref ps, .int (nI u), .ref im, .ref mk, .int (nI sd), .ref wd, .int (nI s), .ref so, .int (nI q), .ref mb, .ref ma, .ref mf, .ref mw, .ref ml, .ref mu, .int (nI br), .ref wt, .int (nI ww), .ref ty])), (nw, .inl (cI, 241, .inl (nF NW))), (ps, .inl (cI, 4820, .inl (nF PS))), (im, .inl (cI, 484, .inl (nF IM))), (mk, .inl (cZ, 2, .inl (nF MK))), (wd, .inl (cI, 8, .inl (nF WD))), (so, .inl (cI, 24, .inl (nF SO))), (mb, .inl (cI, 24, .inl (nF EB))), (ma, .inl (cI, 24, .inl (nF EA))), (mf, .inl (cI, 24, .inl (nF EF))), (mw, .inl (cI, 24, .inl (nF EW))), (ml, .inl (cI, 24, .inl (nF EL))), (mu, .inl (cI, 24, .inl (oF EU))), (wt, .inl (cI, 200, .inl (oF WT))), (ty, .inl (cI, 8, .inl (nF TY)))] ss.heap := hP
  refine lv_iload_n hx hb dX6_below_0 rfl (lv_at hl 1 rfl) ?_
  refine lv_iconst (v := nI 0) hx hb dX6_below_1 (by decide +kernel) ?_
  refine lv_iconst (v := nI 3) hx hb dX6_below_2 (by decide +kernel) ?_
  refine ro_S (As := [.int (nI 1), .int (nI 0), .int (nI 3)]) (rest := []) ⟨hx, hb, hml, hown, hts⟩ (c_X6_in l D cI cJ cZ 1 0 3 (by omega) (by omega) (by omega)) (k_X6_79 hts ⟨Nat.le_of_ble_eq_true rfl, Nat.le_of_ble_eq_true rfl⟩) hK hP [] rfl rfl hl.1 rfl (Nat.le_of_ble_eq_true rfl) dX6_below_3 ⟨Nat.le_of_ble_eq_true rfl, Nat.le_of_ble_eq_true rfl⟩ ?_
  refine b_if_ne (tgt := 12) hx hb dX6_below_6 (by decide) (fun c1 => ?_) (fun c1 => ?_)
  ·
    refine lv_iconst (v := nI 0) hx hb dX6_below_12 (by decide +kernel) ?_
    refine lv_istore_n (lv' := [(2, .int (nI 0)), (0, .ref m0), (1, .int (nI 1))]) hx hb dX6_below_13 rfl hl (by decide) rfl (fun ls hl => ?_)
    refine lv_iconst (v := oI 0) hx hb dX6_below_14 (by decide +kernel) ?_
    refine lv_istore_n (lv' := [(3, .int (oI 0)), (2, .int (nI 0)), (0, .ref m0), (1, .int (nI 1))]) hx hb dX6_below_15 rfl hl (by decide) rfl (fun ls hl => ?_)
    refine lv_iconst (v := nI 0) hx hb dX6_below_16 (by decide +kernel) ?_
    refine lv_istore (lv' := [(4, .int (nI 0)), (3, .int (oI 0)), (2, .int (nI 0)), (0, .ref m0), (1, .int (nI 1))]) hx hb dX6_below_17 hl (by decide) rfl (fun ls hl => ?_)
    refine lv_iconst (v := oI 0) hx hb dX6_below_19 (by decide +kernel) ?_
    refine lv_istore (lv' := [(5, .int (oI 0)), (4, .int (nI 0)), (3, .int (oI 0)), (2, .int (nI 0)), (0, .ref m0), (1, .int (nI 1))]) hx hb dX6_below_20 hl (by decide) rfl (fun ls hl => ?_)
    refine lv_iconst (v := nI 0) hx hb dX6_below_22 (by decide +kernel) ?_
    refine lv_istore (lv' := [(6, .int (nI 0)), (5, .int (oI 0)), (4, .int (nI 0)), (3, .int (oI 0)), (2, .int (nI 0)), (0, .ref m0), (1, .int (nI 1))]) hx hb dX6_below_23 hl (by decide) rfl (fun ls hl => ?_)
    have loop25 : ∀ (d : Nat) (i : Nat) (c : Nat) (lw : Nat) (wv : Nat) (b : Nat) (H : Heap) (locs : List Loc) (ls : Array Slot), n - i < d → (i ≤ n) → (c = min (i - plc KS KL n s A) (cbl KS KL n s A)) → (lw = if 0 < c then plc KS KL n s A + 1 else 0) → (wv = fb_sm (fun y => KW (plc KS KL n s A + y)) c) → (b = mwo KW (plc KS KL n s A) c) → va_P D vwCl [(m0, .inr (6, [.ref nw, .ref ps, .int (nI u), .ref im, .ref mk, .int (nI sd), .ref wd, .int (nI s), .ref so, .int (nI q), .ref mb, .ref ma, .ref mf, .ref mw, .ref ml, .ref mu, .int (nI br), .ref wt, .int (nI ww), .ref ty])), (nw, .inl (cI, 241, .inl (nF NW))), (ps, .inl (cI, 4820, .inl (nF PS))), (im, .inl (cI, 484, .inl (nF IM))), (mk, .inl (cZ, 2, .inl (nF MK))), (wd, .inl (cI, 8, .inl (nF WD))), (so, .inl (cI, 24, .inl (nF SO))), (mb, .inl (cI, 24, .inl (nF EB))), (ma, .inl (cI, 24, .inl (nF EA))), (mf, .inl (cI, 24, .inl (nF EF))), (mw, .inl (cI, 24, .inl (nF EW))), (ml, .inl (cI, 24, .inl (nF EL))), (mu, .inl (cI, 24, .inl (oF EU))), (wt, .inl (cI, 200, .inl (oF WT))), (ty, .inl (cI, 8, .inl (nF TY)))] H → va_D AA [(m0, .inr (6, [.ref nw, .ref ps, .int (nI u), .ref im, .ref mk, .int (nI sd), .ref wd, .int (nI s), .ref so, .int (nI q), .ref mb, .ref ma, .ref mf, .ref mw, .ref ml, .ref mu, .int (nI br), .ref wt, .int (nI ww), .ref ty])), (nw, .inl (cI, 241, .inl (nF NW))), (ps, .inl (cI, 4820, .inl (nF PS))), (im, .inl (cI, 484, .inl (nF IM))), (mk, .inl (cZ, 2, .inl (nF MK))), (wd, .inl (cI, 8, .inl (nF WD))), (so, .inl (cI, 24, .inl (nF SO))), (mb, .inl (cI, 24, .inl (nF EB))), (ma, .inl (cI, 24, .inl (nF EA))), (mf, .inl (cI, 24, .inl (nF EF))), (mw, .inl (cI, 24, .inl (nF EW))), (ml, .inl (cI, 24, .inl (nF EL))), (mu, .inl (cI, 24, .inl (oF EU))), (wt, .inl (cI, 200, .inl (oF WT))), (ty, .inl (cI, 8, .inl (nF TY)))] → va_S AA ss.heap H locs → lv_has ls 7 [(0, .ref m0), (1, .int (nI 1)), (2, .int (nI c)), (3, .int (oI lw)), (4, .int (nI wv)), (5, .int (oI b)), (6, .int (nI i))] → W pp l ee (rmN 2 46) ss mm [.ref m0, .int (nI 1)].toArray below meth cd H locs 0 0 (MQ below (QW D AA (fun x w => x = some (.int (nI (plc KS KL n s A))) ∧ ∃ (SO : Nat → Nat) (q : Nat) (EB EA EF EW EL EU : Nat → Nat) (br : Nat) (WT : Nat → Nat) (ww : Nat), w = [(m0, .inr (6, [.ref nw, .ref ps, .int (nI u), .ref im, .ref mk, .int (nI sd), .ref wd, .int (nI s), .ref so, .int (nI q), .ref mb, .ref ma, .ref mf, .ref mw, .ref ml, .ref mu, .int (nI br), .ref wt, .int (nI ww), .ref ty])), (nw, .inl (cI, 241, .inl (nF NW))), (ps, .inl (cI, 4820, .inl (nF PS))), (im, .inl (cI, 484, .inl (nF IM))), (mk, .inl (cZ, 2, .inl (nF MK))), (wd, .inl (cI, 8, .inl (nF WD))), (so, .inl (cI, 24, .inl (nF SO))), (mb, .inl (cI, 24, .inl (nF EB))), (ma, .inl (cI, 24, .inl (nF EA))), (mf, .inl (cI, 24, .inl (nF EF))), (mw, .inl (cI, 24, .inl (nF EW))), (ml, .inl (cI, 24, .inl (nF EL))), (mu, .inl (cI, 24, .inl (oF EU))), (wt, .inl (cI, 200, .inl (oF WT))), (ty, .inl (cI, 8, .inl (nF TY)))])) [.ref m0, .int (nI 1)].toArray ss 0 0 AA) (F0 mm 25 ls []) := by
      intro d
      induction d with
      | zero => intro i c lw wv b H locs ls h; exact absurd h (Nat.not_lt_zero _)
      | succ d ih25 =>
        intro i c lw wv b H locs ls hd25 hi hc hlw hwv hb0 hP hD hS hl
        have hb1 := mwo_le KW (plc KS KL n s A) c
        have hcn : c ≤ n := by omega
        refine lv_iload hx hb dX6_below_25 (lv_at hl 6 rfl) ?_
        refine lv_aload_n hx hb dX6_below_27 rfl (lv_at hl 0 rfl) ?_
        refine va_get (D := D) (ci := 6) (v := .ref nw) (C := RX6) (T := TX6) (N := 20) hx hb hts inX6 hown hK hP 0 rfl rfl 0 (by decide) (hts _ mf_X6_7) (fun _ h9 => h9) rfl dX6_below_28 ?_
        refine lv_iconst (v := nI 0) hx hb dX6_below_31 (by decide +kernel) ?_
        refine n_iald hx hb hK hP 1 0 rfl rfl (k := 0) (by omega) (by decide) dX6_below_32 ?_
        refine tq (y := nI n) (congrArg nI (hN0)) ?_
        refine n_ge (tgt := 121) hx hb dX6_below_33 (by decide) (by omega) (by omega) (fun c2 => ?_) (fun c2 => ?_)
        ·
          refine lv_iload_n hx hb dX6_below_121 rfl (lv_at hl 1 rfl) ?_
          refine n_if_ne (tgt := 129) hx hb dX6_below_122 (by decide) (by decide) (fun _ => ?_) (fun h9 => absurd h9 (by decide))
          refine lv_iload_n hx hb dX6_below_129 rfl (lv_at hl 1 rfl) ?_
          refine lv_iconst (v := nI 1) hx hb dX6_below_130 (by decide +kernel) ?_
          refine n_ne (tgt := 138) hx hb dX6_below_131 (by decide) (by decide) (by decide) (fun h9 => absurd h9 (by decide)) (fun _ => ?_)
          refine lv_iload_n hx hb dX6_below_134 rfl (lv_at hl 3 rfl) ?_
          refine lv_goto (tgt := 150) hx hb dX6_below_135 (by decide) ?_
          refine tq (y := (nI (plc KS KL n s A))) (by rw [hlw, hc, show i = n by omega, Nat.min_eq_right (by omega), if_pos hc0, oI_s]) ?_
          exact wr_iret hx hb hr hlk hP hD hS dX6_below_150 (⟨rfl, SO, q, EB, EA, EF, EW, EL, EU, br, WT, ww, rfl⟩)
        ·
          refine lv_aload_n hx hb dX6_below_36 rfl (lv_at hl 0 rfl) ?_
          refine lv_iload hx hb dX6_below_37 (lv_at hl 6 rfl) ?_
          refine lv_bipush (v := nI 24) hx hb dX6_below_39 (by decide +kernel) ?_
          refine ro_V (As := [.int (nI i), .int (nI 24)]) (rest := []) ⟨hx, hb, hml, hown, hts⟩ (c_X6_begins l D cI cJ cZ m0 nw ps im mk wd so mb ma mf mw ml mu wt ty NW PS u IM MK sd WD s SO q EB EA EF EW EL EU br WT ww TY KS KL KW n A hn hk hw0 hR hRW i ((KS i)) ((KL i)) (Or.inr ⟨by omega, rfl, rfl⟩) 24 s A (Or.inl ⟨rfl, rfl, rfl⟩)) (k_X6_149 hts ⟨Nat.le_of_ble_eq_true rfl, Nat.le_of_ble_eq_true rfl⟩) hK hP 0 rfl rfl rfl [0, 1, 2, 3, 4, 5, 6, 7, 8, 9, 10, 11, 12, 13, 14] rfl rfl hl.1 rfl (Nat.le_of_ble_eq_true rfl) dX6_below_41 ⟨Nat.le_of_ble_eq_true rfl, Nat.le_of_ble_eq_true rfl⟩ ?_
          refine b_if_eq (tgt := 115) hx hb dX6_below_44 (by decide) (fun c5 => ?_) (fun c5 => ?_)
          ·
            have hpi : ¬ (plc KS KL n s A ≤ i ∧ i < plc KS KL n s A + cbl KS KL n s A) := fun z => c5 ((hbi i (by omega)).mpr z)
            refine lv_iinc (v := nI (i + 1)) (lv' := [(6, .int (nI (i + 1))), (0, .ref m0), (1, .int (nI 1)), (2, .int (nI c)), (3, .int (oI lw)), (4, .int (nI wv)), (5, .int (oI b))]) hx hb dX6_below_115 hl (k := 6) rfl (nI_add i 1) (by decide) rfl (fun ls hl => ?_)
            refine lv_goto (tgt := 25) hx hb dX6_below_118 (by decide) ?_
            exact ih25 (i + 1) c lw wv b _ _ ls (by omega) (by omega) (by omega) (by first | exact hlw | (exfalso; omega) | (rw [if_pos (by omega)]; rw [hlw]; rw [if_pos (by omega)]) | (rw [if_pos (by omega)]; omega)) (by first | exact hwv | exact sm_step hwv (by omega)) (by first | exact hb0 | (exfalso; omega) | (show _ = (if mwo KW (plc KS KL n s A) c = 0 ∨ KW (mwo KW (plc KS KL n s A) c - 1) < KW (plc KS KL n s A + c) then plc KS KL n s A + c + 1 else mwo KW (plc KS KL n s A) c); rw [← hb0, show plc KS KL n s A + c = i by omega]; first | rw [if_pos (by omega)] | rw [if_neg (by omega)])) hP hD hS (lv_sub hl [1, 2, 3, 4, 5, 6, 0] rfl)
          ·
            have hpi := (hbi i (by omega)).mp c5
            refine lv_iinc (v := nI (c + 1)) (lv' := [(2, .int (nI (c + 1))), (0, .ref m0), (1, .int (nI 1)), (3, .int (oI lw)), (4, .int (nI wv)), (5, .int (oI b)), (6, .int (nI i))]) hx hb dX6_below_47 hl (k := 2) rfl (nI_add c 1) (by decide) rfl (fun ls hl => ?_)
            refine lv_iload_n hx hb dX6_below_50 rfl (lv_at hl 3 rfl) ?_
            refine lv_iconst (v := oI 0) hx hb dX6_below_51 (by decide +kernel) ?_
            refine o_ne (tgt := 60) hx hb dX6_below_52 (by decide) (by rw [hlw]; split <;> omega) (fun c6 => ?_) (fun c6 => ?_)
            ·
              have e5 : 0 < c := by rcases Nat.eq_zero_or_pos c with z | z; rw [hlw, if_neg (by omega)] at c6; omega; exact z
              refine lv_iload_n hx hb dX6_below_60 rfl (lv_at hl 3 rfl) ?_
              refine lv_istore_n (lv' := [(3, .int (oI lw)), (2, .int (nI (c + 1))), (0, .ref m0), (1, .int (nI 1)), (4, .int (nI wv)), (5, .int (oI b)), (6, .int (nI i))]) hx hb dX6_below_61 rfl hl (by decide) rfl (fun ls hl => ?_)
              refine lv_iload hx hb dX6_below_62 (lv_at hl 4 rfl) ?_
              refine lv_aload_n hx hb dX6_below_64 rfl (lv_at hl 2 rfl) ?_
              refine va_get (D := D) (ci := 6) (v := .ref nw) (C := RX6) (T := TX6) (N := 20) hx hb hts inX6 hown hK hP 0 rfl rfl 0 (by decide) (hts _ mf_X6_7) (fun _ h9 => h9) rfl dX6_below_65 ?_
              refine lv_bipush (v := nI 25) hx hb dX6_below_68 (by decide +kernel) ?_
              refine lv_iload hx hb dX6_below_70 (lv_at hl 6 rfl) ?_
              refine n_iadd hx hb dX6_below_72 ?_
              refine n_iald hx hb hK hP 1 0 rfl rfl (k := (25 + i)) (by omega) (by decide) dX6_below_73 ?_
              refine tq (y := nI (KW i)) (congrArg nI ((hR.2 i (by omega)).2.1)) ?_
              refine n_iadd hx hb dX6_below_74 ?_
              refine lv_istore (lv' := [(4, .int (nI (wv + (KW i)))), (3, .int (oI lw)), (2, .int (nI (c + 1))), (0, .ref m0), (1, .int (nI 1)), (5, .int (oI b)), (6, .int (nI i))]) hx hb dX6_below_75 hl (by decide) rfl (fun ls hl => ?_)
              refine lv_iload hx hb dX6_below_77 (lv_at hl 5 rfl) ?_
              refine lv_iconst (v := oI 0) hx hb dX6_below_79 (by decide +kernel) ?_
              refine o_eq (tgt := 106) hx hb dX6_below_80 (by decide) (by omega) (fun c7 => ?_) (fun c7 => ?_)
              ·
                refine lv_iload hx hb dX6_below_106 (lv_at hl 6 rfl) ?_
                refine lv_goto (tgt := 113) hx hb dX6_below_108 (by decide) ?_
                refine tq (y := oI (i + 1)) (oI_s _).symm ?_
                refine lv_istore (lv' := [(5, .int (oI (i + 1))), (4, .int (nI (wv + (KW i)))), (3, .int (oI lw)), (2, .int (nI (c + 1))), (0, .ref m0), (1, .int (nI 1)), (6, .int (nI i))]) hx hb dX6_below_113 hl (by decide) rfl (fun ls hl => ?_)
                refine lv_iinc (v := nI (i + 1)) (lv' := [(6, .int (nI (i + 1))), (5, .int (oI (i + 1))), (4, .int (nI (wv + (KW i)))), (3, .int (oI lw)), (2, .int (nI (c + 1))), (0, .ref m0), (1, .int (nI 1))]) hx hb dX6_below_115 hl (k := 6) rfl (nI_add i 1) (by decide) rfl (fun ls hl => ?_)
                refine lv_goto (tgt := 25) hx hb dX6_below_118 (by decide) ?_
                exact ih25 (i + 1) (c + 1) lw (wv + (KW i)) (i + 1) _ _ ls (by omega) (by omega) (by omega) (by first | exact hlw | (exfalso; omega) | (rw [if_pos (by omega)]; rw [hlw]; rw [if_pos (by omega)]) | (rw [if_pos (by omega)]; omega)) (by first | exact hwv | exact sm_step hwv (by omega)) (by first | exact hb0 | (exfalso; omega) | (show _ = (if mwo KW (plc KS KL n s A) c = 0 ∨ KW (mwo KW (plc KS KL n s A) c - 1) < KW (plc KS KL n s A + c) then plc KS KL n s A + c + 1 else mwo KW (plc KS KL n s A) c); rw [← hb0, show plc KS KL n s A + c = i by omega]; first | rw [if_pos (by omega)] | rw [if_neg (by omega)])) hP hD hS (lv_sub hl [5, 6, 4, 3, 2, 1, 0] rfl)
              ·
                refine lv_aload_n hx hb dX6_below_83 rfl (lv_at hl 3 rfl) ?_
                refine va_get (D := D) (ci := 6) (v := .ref nw) (C := RX6) (T := TX6) (N := 20) hx hb hts inX6 hown hK hP 0 rfl rfl 0 (by decide) (hts _ mf_X6_7) (fun _ h9 => h9) rfl dX6_below_84 ?_
                refine lv_bipush (v := nI 25) hx hb dX6_below_87 (by decide +kernel) ?_
                refine lv_iload hx hb dX6_below_89 (lv_at hl 6 rfl) ?_
                refine n_iadd hx hb dX6_below_91 ?_
                refine n_iald hx hb hK hP 1 0 rfl rfl (k := (25 + i)) (by omega) (by decide) dX6_below_92 ?_
                refine tq (y := nI (KW i)) (congrArg nI ((hR.2 i (by omega)).2.1)) ?_
                refine lv_aload_n hx hb dX6_below_93 rfl (lv_at hl 3 rfl) ?_
                refine va_get (D := D) (ci := 6) (v := .ref nw) (C := RX6) (T := TX6) (N := 20) hx hb hts inX6 hown hK hP 0 rfl rfl 0 (by decide) (hts _ mf_X6_7) (fun _ h9 => h9) rfl dX6_below_94 ?_
                refine lv_bipush (v := nI 25) hx hb dX6_below_97 (by decide +kernel) ?_
                refine lv_iload hx hb dX6_below_99 (lv_at hl 5 rfl) ?_
                refine tq (y := (nI (b - 1))) (oI_p (by omega)) ?_
                refine n_iadd hx hb dX6_below_101 ?_
                refine n_iald hx hb hK hP 1 0 rfl rfl (k := (25 + (b - 1))) (by omega) (by decide) dX6_below_102 ?_
                refine tq (y := nI (KW (b - 1))) (congrArg nI ((hR.2 (b - 1) (by omega)).2.1)) ?_
                refine n_le (tgt := 111) hx hb dX6_below_103 (by decide) (by have := hv i (by omega); omega) (by have := hv (b - 1) (by omega); omega) (fun c8 => ?_) (fun c8 => ?_)
                ·
                  refine lv_iload hx hb dX6_below_111 (lv_at hl 5 rfl) ?_
                  refine lv_istore (lv' := [(5, .int (oI b)), (4, .int (nI (wv + (KW i)))), (3, .int (oI lw)), (2, .int (nI (c + 1))), (0, .ref m0), (1, .int (nI 1)), (6, .int (nI i))]) hx hb dX6_below_113 hl (by decide) rfl (fun ls hl => ?_)
                  refine lv_iinc (v := nI (i + 1)) (lv' := [(6, .int (nI (i + 1))), (5, .int (oI b)), (4, .int (nI (wv + (KW i)))), (3, .int (oI lw)), (2, .int (nI (c + 1))), (0, .ref m0), (1, .int (nI 1))]) hx hb dX6_below_115 hl (k := 6) rfl (nI_add i 1) (by decide) rfl (fun ls hl => ?_)
                  refine lv_goto (tgt := 25) hx hb dX6_below_118 (by decide) ?_
                  exact ih25 (i + 1) (c + 1) lw (wv + (KW i)) b _ _ ls (by omega) (by omega) (by omega) (by first | exact hlw | (exfalso; omega) | (rw [if_pos (by omega)]; rw [hlw]; rw [if_pos (by omega)]) | (rw [if_pos (by omega)]; omega)) (by first | exact hwv | exact sm_step hwv (by omega)) (by first | exact hb0 | (exfalso; omega) | (show _ = (if mwo KW (plc KS KL n s A) c = 0 ∨ KW (mwo KW (plc KS KL n s A) c - 1) < KW (plc KS KL n s A + c) then plc KS KL n s A + c + 1 else mwo KW (plc KS KL n s A) c); rw [← hb0, show plc KS KL n s A + c = i by omega]; first | rw [if_pos (by omega)] | rw [if_neg (by omega)])) hP hD hS (lv_sub hl [5, 6, 4, 3, 2, 1, 0] rfl)
                ·
                  refine lv_iload hx hb dX6_below_106 (lv_at hl 6 rfl) ?_
                  refine lv_goto (tgt := 113) hx hb dX6_below_108 (by decide) ?_
                  refine tq (y := oI (i + 1)) (oI_s _).symm ?_
                  refine lv_istore (lv' := [(5, .int (oI (i + 1))), (4, .int (nI (wv + (KW i)))), (3, .int (oI lw)), (2, .int (nI (c + 1))), (0, .ref m0), (1, .int (nI 1)), (6, .int (nI i))]) hx hb dX6_below_113 hl (by decide) rfl (fun ls hl => ?_)
                  refine lv_iinc (v := nI (i + 1)) (lv' := [(6, .int (nI (i + 1))), (5, .int (oI (i + 1))), (4, .int (nI (wv + (KW i)))), (3, .int (oI lw)), (2, .int (nI (c + 1))), (0, .ref m0), (1, .int (nI 1))]) hx hb dX6_below_115 hl (k := 6) rfl (nI_add i 1) (by decide) rfl (fun ls hl => ?_)
                  refine lv_goto (tgt := 25) hx hb dX6_below_118 (by decide) ?_
                  exact ih25 (i + 1) (c + 1) lw (wv + (KW i)) (i + 1) _ _ ls (by omega) (by omega) (by omega) (by first | exact hlw | (exfalso; omega) | (rw [if_pos (by omega)]; rw [hlw]; rw [if_pos (by omega)]) | (rw [if_pos (by omega)]; omega)) (by first | exact hwv | exact sm_step hwv (by omega)) (by first | exact hb0 | (exfalso; omega) | (show _ = (if mwo KW (plc KS KL n s A) c = 0 ∨ KW (mwo KW (plc KS KL n s A) c - 1) < KW (plc KS KL n s A + c) then plc KS KL n s A + c + 1 else mwo KW (plc KS KL n s A) c); rw [← hb0, show plc KS KL n s A + c = i by omega]; first | rw [if_pos (by omega)] | rw [if_neg (by omega)])) hP hD hS (lv_sub hl [5, 6, 4, 3, 2, 1, 0] rfl)
            ·
              have e5 : c = 0 := by rcases Nat.eq_zero_or_pos c with z | z; exact z; rw [hlw, if_pos z] at c6; omega
              refine lv_iload hx hb dX6_below_55 (lv_at hl 6 rfl) ?_
              refine lv_goto (tgt := 61) hx hb dX6_below_57 (by decide) ?_
              refine tq (y := oI (i + 1)) (oI_s _).symm ?_
              refine lv_istore_n (lv' := [(3, .int (oI (i + 1))), (2, .int (nI (c + 1))), (0, .ref m0), (1, .int (nI 1)), (4, .int (nI wv)), (5, .int (oI b)), (6, .int (nI i))]) hx hb dX6_below_61 rfl hl (by decide) rfl (fun ls hl => ?_)
              refine lv_iload hx hb dX6_below_62 (lv_at hl 4 rfl) ?_
              refine lv_aload_n hx hb dX6_below_64 rfl (lv_at hl 2 rfl) ?_
              refine va_get (D := D) (ci := 6) (v := .ref nw) (C := RX6) (T := TX6) (N := 20) hx hb hts inX6 hown hK hP 0 rfl rfl 0 (by decide) (hts _ mf_X6_7) (fun _ h9 => h9) rfl dX6_below_65 ?_
              refine lv_bipush (v := nI 25) hx hb dX6_below_68 (by decide +kernel) ?_
              refine lv_iload hx hb dX6_below_70 (lv_at hl 6 rfl) ?_
              refine n_iadd hx hb dX6_below_72 ?_
              refine n_iald hx hb hK hP 1 0 rfl rfl (k := (25 + i)) (by omega) (by decide) dX6_below_73 ?_
              refine tq (y := nI (KW i)) (congrArg nI ((hR.2 i (by omega)).2.1)) ?_
              refine n_iadd hx hb dX6_below_74 ?_
              refine lv_istore (lv' := [(4, .int (nI (wv + (KW i)))), (3, .int (oI (i + 1))), (2, .int (nI (c + 1))), (0, .ref m0), (1, .int (nI 1)), (5, .int (oI b)), (6, .int (nI i))]) hx hb dX6_below_75 hl (by decide) rfl (fun ls hl => ?_)
              refine lv_iload hx hb dX6_below_77 (lv_at hl 5 rfl) ?_
              refine lv_iconst (v := oI 0) hx hb dX6_below_79 (by decide +kernel) ?_
              refine o_eq (tgt := 106) hx hb dX6_below_80 (by decide) (by omega) (fun c9 => ?_) (fun c9 => ?_)
              ·
                refine lv_iload hx hb dX6_below_106 (lv_at hl 6 rfl) ?_
                refine lv_goto (tgt := 113) hx hb dX6_below_108 (by decide) ?_
                refine tq (y := oI (i + 1)) (oI_s _).symm ?_
                refine lv_istore (lv' := [(5, .int (oI (i + 1))), (4, .int (nI (wv + (KW i)))), (3, .int (oI (i + 1))), (2, .int (nI (c + 1))), (0, .ref m0), (1, .int (nI 1)), (6, .int (nI i))]) hx hb dX6_below_113 hl (by decide) rfl (fun ls hl => ?_)
                refine lv_iinc (v := nI (i + 1)) (lv' := [(6, .int (nI (i + 1))), (5, .int (oI (i + 1))), (4, .int (nI (wv + (KW i)))), (3, .int (oI (i + 1))), (2, .int (nI (c + 1))), (0, .ref m0), (1, .int (nI 1))]) hx hb dX6_below_115 hl (k := 6) rfl (nI_add i 1) (by decide) rfl (fun ls hl => ?_)
                refine lv_goto (tgt := 25) hx hb dX6_below_118 (by decide) ?_
                exact ih25 (i + 1) (c + 1) (i + 1) (wv + (KW i)) (i + 1) _ _ ls (by omega) (by omega) (by omega) (by first | exact hlw | (exfalso; omega) | (rw [if_pos (by omega)]; rw [hlw]; rw [if_pos (by omega)]) | (rw [if_pos (by omega)]; omega)) (by first | exact hwv | exact sm_step hwv (by omega)) (by first | exact hb0 | (exfalso; omega) | (show _ = (if mwo KW (plc KS KL n s A) c = 0 ∨ KW (mwo KW (plc KS KL n s A) c - 1) < KW (plc KS KL n s A + c) then plc KS KL n s A + c + 1 else mwo KW (plc KS KL n s A) c); rw [← hb0, show plc KS KL n s A + c = i by omega]; first | rw [if_pos (by omega)] | rw [if_neg (by omega)])) hP hD hS (lv_sub hl [5, 6, 4, 3, 2, 1, 0] rfl)
              ·
                refine lv_aload_n hx hb dX6_below_83 rfl (lv_at hl 3 rfl) ?_
                refine va_get (D := D) (ci := 6) (v := .ref nw) (C := RX6) (T := TX6) (N := 20) hx hb hts inX6 hown hK hP 0 rfl rfl 0 (by decide) (hts _ mf_X6_7) (fun _ h9 => h9) rfl dX6_below_84 ?_
                refine lv_bipush (v := nI 25) hx hb dX6_below_87 (by decide +kernel) ?_
                refine lv_iload hx hb dX6_below_89 (lv_at hl 6 rfl) ?_
                refine n_iadd hx hb dX6_below_91 ?_
                refine n_iald hx hb hK hP 1 0 rfl rfl (k := (25 + i)) (by omega) (by decide) dX6_below_92 ?_
                refine tq (y := nI (KW i)) (congrArg nI ((hR.2 i (by omega)).2.1)) ?_
                refine lv_aload_n hx hb dX6_below_93 rfl (lv_at hl 3 rfl) ?_
                refine va_get (D := D) (ci := 6) (v := .ref nw) (C := RX6) (T := TX6) (N := 20) hx hb hts inX6 hown hK hP 0 rfl rfl 0 (by decide) (hts _ mf_X6_7) (fun _ h9 => h9) rfl dX6_below_94 ?_
                refine lv_bipush (v := nI 25) hx hb dX6_below_97 (by decide +kernel) ?_
                refine lv_iload hx hb dX6_below_99 (lv_at hl 5 rfl) ?_
                refine tq (y := (nI (b - 1))) (oI_p (by omega)) ?_
                refine n_iadd hx hb dX6_below_101 ?_
                refine n_iald hx hb hK hP 1 0 rfl rfl (k := (25 + (b - 1))) (by omega) (by decide) dX6_below_102 ?_
                refine tq (y := nI (KW (b - 1))) (congrArg nI ((hR.2 (b - 1) (by omega)).2.1)) ?_
                refine n_le (tgt := 111) hx hb dX6_below_103 (by decide) (by have := hv i (by omega); omega) (by have := hv (b - 1) (by omega); omega) (fun c10 => ?_) (fun c10 => ?_)
                ·
                  refine lv_iload hx hb dX6_below_111 (lv_at hl 5 rfl) ?_
                  refine lv_istore (lv' := [(5, .int (oI b)), (4, .int (nI (wv + (KW i)))), (3, .int (oI (i + 1))), (2, .int (nI (c + 1))), (0, .ref m0), (1, .int (nI 1)), (6, .int (nI i))]) hx hb dX6_below_113 hl (by decide) rfl (fun ls hl => ?_)
                  refine lv_iinc (v := nI (i + 1)) (lv' := [(6, .int (nI (i + 1))), (5, .int (oI b)), (4, .int (nI (wv + (KW i)))), (3, .int (oI (i + 1))), (2, .int (nI (c + 1))), (0, .ref m0), (1, .int (nI 1))]) hx hb dX6_below_115 hl (k := 6) rfl (nI_add i 1) (by decide) rfl (fun ls hl => ?_)
                  refine lv_goto (tgt := 25) hx hb dX6_below_118 (by decide) ?_
                  exact ih25 (i + 1) (c + 1) (i + 1) (wv + (KW i)) b _ _ ls (by omega) (by omega) (by omega) (by first | exact hlw | (exfalso; omega) | (rw [if_pos (by omega)]; rw [hlw]; rw [if_pos (by omega)]) | (rw [if_pos (by omega)]; omega)) (by first | exact hwv | exact sm_step hwv (by omega)) (by first | exact hb0 | (exfalso; omega) | (show _ = (if mwo KW (plc KS KL n s A) c = 0 ∨ KW (mwo KW (plc KS KL n s A) c - 1) < KW (plc KS KL n s A + c) then plc KS KL n s A + c + 1 else mwo KW (plc KS KL n s A) c); rw [← hb0, show plc KS KL n s A + c = i by omega]; first | rw [if_pos (by omega)] | rw [if_neg (by omega)])) hP hD hS (lv_sub hl [5, 6, 4, 3, 2, 1, 0] rfl)
                ·
                  refine lv_iload hx hb dX6_below_106 (lv_at hl 6 rfl) ?_
                  refine lv_goto (tgt := 113) hx hb dX6_below_108 (by decide) ?_
                  refine tq (y := oI (i + 1)) (oI_s _).symm ?_
                  refine lv_istore (lv' := [(5, .int (oI (i + 1))), (4, .int (nI (wv + (KW i)))), (3, .int (oI (i + 1))), (2, .int (nI (c + 1))), (0, .ref m0), (1, .int (nI 1)), (6, .int (nI i))]) hx hb dX6_below_113 hl (by decide) rfl (fun ls hl => ?_)
                  refine lv_iinc (v := nI (i + 1)) (lv' := [(6, .int (nI (i + 1))), (5, .int (oI (i + 1))), (4, .int (nI (wv + (KW i)))), (3, .int (oI (i + 1))), (2, .int (nI (c + 1))), (0, .ref m0), (1, .int (nI 1))]) hx hb dX6_below_115 hl (k := 6) rfl (nI_add i 1) (by decide) rfl (fun ls hl => ?_)
                  refine lv_goto (tgt := 25) hx hb dX6_below_118 (by decide) ?_
                  exact ih25 (i + 1) (c + 1) (i + 1) (wv + (KW i)) (i + 1) _ _ ls (by omega) (by omega) (by omega) (by first | exact hlw | (exfalso; omega) | (rw [if_pos (by omega)]; rw [hlw]; rw [if_pos (by omega)]) | (rw [if_pos (by omega)]; omega)) (by first | exact hwv | exact sm_step hwv (by omega)) (by first | exact hb0 | (exfalso; omega) | (show _ = (if mwo KW (plc KS KL n s A) c = 0 ∨ KW (mwo KW (plc KS KL n s A) c - 1) < KW (plc KS KL n s A + c) then plc KS KL n s A + c + 1 else mwo KW (plc KS KL n s A) c); rw [← hb0, show plc KS KL n s A + c = i by omega]; first | rw [if_pos (by omega)] | rw [if_neg (by omega)])) hP hD hS (lv_sub hl [5, 6, 4, 3, 2, 1, 0] rfl)
    exact loop25 _ 0 0 0 0 0 _ _ ls (Nat.lt_succ_self _) (Nat.zero_le _) (by rw [Nat.zero_sub, Nat.zero_min]) (by rw [if_neg (Nat.lt_irrefl 0)]) rfl rfl hP hD hS (lv_sub hl [5, 6, 4, 3, 2, 1, 0] rfl)
  ·
    exact (c1 (by decide)).elim
set_option maxHeartbeats 4000000 in
set_option maxRecDepth 100000 in
theorem c_X6_below_1n (l : Launch) (D : va_G) (cI cJ cZ : ClassId) (m0 nw ps im mk wd so mb ma mf mw ml mu wt ty : Nat) (NW : Nat → Nat) (PS : Nat → Nat) (u : Nat) (IM : Nat → Nat) (MK : Nat → Nat) (sd : Nat) (WD : Nat → Nat) (s : Nat) (SO : Nat → Nat) (q : Nat) (EB : Nat → Nat) (EA : Nat → Nat) (EF : Nat → Nat) (EW : Nat → Nat) (EL : Nat → Nat) (EU : Nat → Nat) (br : Nat) (WT : Nat → Nat) (ww : Nat) (TY : Nat → Nat) (KS KL KW : Nat → Nat) (n A : Nat) (hn : n ≤ 24) (hk : ∀ k, k < n → Wf (KS k) (KL k)) (hw0 : Wf s A) (hR : RN NW KS KL KW n) (hRW : RW WD s A) (hso : Srt KS KL n) (BB BD BM BL BF BA BK : Nat → Nat) (hTr : TrX (gapF KS KL) n BB BD BM BL BF BA BK) (hv : ∀ k, k < n → KW k ≤ 9999) (hc0 : cbl KS KL n s A = 0) (sz : Nat) : WR l yX6_below cX6_below 7 (some .int) (rmN 2 46) D (ty3 cI cJ cZ) [.ref m0, .int (nI 1)] [(m0, .inr (6, [.ref nw, .ref ps, .int (nI u), .ref im, .ref mk, .int (nI sd), .ref wd, .int (nI s), .ref so, .int (nI q), .ref mb, .ref ma, .ref mf, .ref mw, .ref ml, .ref mu, .int (nI br), .ref wt, .int (nI ww), .ref ty])), (nw, .inl (cI, 241, .inl (nF NW))), (ps, .inl (cI, 4820, .inl (nF PS))), (im, .inl (cI, 484, .inl (nF IM))), (mk, .inl (cZ, 2, .inl (nF MK))), (wd, .inl (cI, 8, .inl (nF WD))), (so, .inl (cI, 24, .inl (nF SO))), (mb, .inl (cI, 24, .inl (nF EB))), (ma, .inl (cI, 24, .inl (nF EA))), (mf, .inl (cI, 24, .inl (nF EF))), (mw, .inl (cI, 24, .inl (nF EW))), (ml, .inl (cI, 24, .inl (nF EL))), (mu, .inl (cI, 24, .inl (oF EU))), (wt, .inl (cI, 200, .inl (oF WT))), (ty, .inl (cI, 8, .inl (nF TY)))] sz (fun x w => x = some (.int (oI 0)) ∧ ∃ (SO : Nat → Nat) (q : Nat) (EB EA EF EW EL EU : Nat → Nat) (br : Nat) (WT : Nat → Nat) (ww : Nat), w = [(m0, .inr (6, [.ref nw, .ref ps, .int (nI u), .ref im, .ref mk, .int (nI sd), .ref wd, .int (nI s), .ref so, .int (nI q), .ref mb, .ref ma, .ref mf, .ref mw, .ref ml, .ref mu, .int (nI br), .ref wt, .int (nI ww), .ref ty])), (nw, .inl (cI, 241, .inl (nF NW))), (ps, .inl (cI, 4820, .inl (nF PS))), (im, .inl (cI, 484, .inl (nF IM))), (mk, .inl (cZ, 2, .inl (nF MK))), (wd, .inl (cI, 8, .inl (nF WD))), (so, .inl (cI, 24, .inl (nF SO))), (mb, .inl (cI, 24, .inl (nF EB))), (ma, .inl (cI, 24, .inl (nF EA))), (mf, .inl (cI, 24, .inl (nF EF))), (mw, .inl (cI, 24, .inl (nF EW))), (ml, .inl (cI, 24, .inl (nF EL))), (mu, .inl (cI, 24, .inl (oF EU))), (wt, .inl (cI, 200, .inl (oF WT))), (ty, .inl (cI, 8, .inl (nF TY)))]) := by
  have hs8 := hw0.1
  have hA64 := hw0.2.1
  have hN0 := hR.1
  have hBK := tf_BK hTr hn
  have hDK := tf_DK hTr hn
  have hp := plc_le KS KL n s A
  have hcb := cbl_le KS KL n s A
  have hfl := fnd_le KS KL n s A
  have hbi : ∀ y, y < n → (9 * s ≤ unl (KS y) (KL y) s A ↔ plc KS KL n s A ≤ y ∧ y < plc KS KL n s A + cbl KS KL n s A) := fun y hy => bel_iff hk hw0 hso hy
  refine wr_start (by decide) (Nat.le_of_ble_eq_true rfl) ?_
  intro pp ee ss mm below meth cd AA C0 hAA hP hK hD hS hN hnm ls hl
  obtain ⟨hx, hb, hr, hml, hown, hts, hlk⟩ := C0
  have hown : ss.vm.findClass RX6 = some mm.cls := hown
  have hl : lv_has ls 7 [(0, .ref m0), (1, .int (nI 1))] := hl
  have hP : va_P D vwCl [(m0, .inr (6, [.ref nw, .ref ps, .int (nI u), .ref im, .ref mk, .int (nI sd), .ref wd, .int (nI s), .ref so, .int (nI q), .ref mb, .ref ma, .ref mf, .ref mw, .ref ml, .ref mu, .int (nI br), .ref wt, .int (nI ww), .ref ty])), (nw, .inl (cI, 241, .inl (nF NW))), (ps, .inl (cI, 4820, .inl (nF PS))), (im, .inl (cI, 484, .inl (nF IM))), (mk, .inl (cZ, 2, .inl (nF MK))), (wd, .inl (cI, 8, .inl (nF WD))), (so, .inl (cI, 24, .inl (nF SO))), (mb, .inl (cI, 24, .inl (nF EB))), (ma, .inl (cI, 24, .inl (nF EA))), (mf, .inl (cI, 24, .inl (nF EF))), (mw, .inl (cI, 24, .inl (nF EW))), (ml, .inl (cI, 24, .inl (nF EL))), (mu, .inl (cI, 24, .inl (oF EU))), (wt, .inl (cI, 200, .inl (oF WT))), (ty, .inl (cI, 8, .inl (nF TY)))] ss.heap := hP
  refine lv_iload_n hx hb dX6_below_0 rfl (lv_at hl 1 rfl) ?_
  refine lv_iconst (v := nI 0) hx hb dX6_below_1 (by decide +kernel) ?_
  refine lv_iconst (v := nI 3) hx hb dX6_below_2 (by decide +kernel) ?_
  refine ro_S (As := [.int (nI 1), .int (nI 0), .int (nI 3)]) (rest := []) ⟨hx, hb, hml, hown, hts⟩ (c_X6_in l D cI cJ cZ 1 0 3 (by omega) (by omega) (by omega)) (k_X6_79 hts ⟨Nat.le_of_ble_eq_true rfl, Nat.le_of_ble_eq_true rfl⟩) hK hP [] rfl rfl hl.1 rfl (Nat.le_of_ble_eq_true rfl) dX6_below_3 ⟨Nat.le_of_ble_eq_true rfl, Nat.le_of_ble_eq_true rfl⟩ ?_
  refine b_if_ne (tgt := 12) hx hb dX6_below_6 (by decide) (fun c1 => ?_) (fun c1 => ?_)
  ·
    refine lv_iconst (v := nI 0) hx hb dX6_below_12 (by decide +kernel) ?_
    refine lv_istore_n (lv' := [(2, .int (nI 0)), (0, .ref m0), (1, .int (nI 1))]) hx hb dX6_below_13 rfl hl (by decide) rfl (fun ls hl => ?_)
    refine lv_iconst (v := oI 0) hx hb dX6_below_14 (by decide +kernel) ?_
    refine lv_istore_n (lv' := [(3, .int (oI 0)), (2, .int (nI 0)), (0, .ref m0), (1, .int (nI 1))]) hx hb dX6_below_15 rfl hl (by decide) rfl (fun ls hl => ?_)
    refine lv_iconst (v := nI 0) hx hb dX6_below_16 (by decide +kernel) ?_
    refine lv_istore (lv' := [(4, .int (nI 0)), (3, .int (oI 0)), (2, .int (nI 0)), (0, .ref m0), (1, .int (nI 1))]) hx hb dX6_below_17 hl (by decide) rfl (fun ls hl => ?_)
    refine lv_iconst (v := oI 0) hx hb dX6_below_19 (by decide +kernel) ?_
    refine lv_istore (lv' := [(5, .int (oI 0)), (4, .int (nI 0)), (3, .int (oI 0)), (2, .int (nI 0)), (0, .ref m0), (1, .int (nI 1))]) hx hb dX6_below_20 hl (by decide) rfl (fun ls hl => ?_)
    refine lv_iconst (v := nI 0) hx hb dX6_below_22 (by decide +kernel) ?_
    refine lv_istore (lv' := [(6, .int (nI 0)), (5, .int (oI 0)), (4, .int (nI 0)), (3, .int (oI 0)), (2, .int (nI 0)), (0, .ref m0), (1, .int (nI 1))]) hx hb dX6_below_23 hl (by decide) rfl (fun ls hl => ?_)
    have loop25 : ∀ (d : Nat) (i : Nat) (c : Nat) (lw : Nat) (wv : Nat) (b : Nat) (H : Heap) (locs : List Loc) (ls : Array Slot), n - i < d → (i ≤ n) → (c = min (i - plc KS KL n s A) (cbl KS KL n s A)) → (lw = if 0 < c then plc KS KL n s A + 1 else 0) → (wv = fb_sm (fun y => KW (plc KS KL n s A + y)) c) → (b = mwo KW (plc KS KL n s A) c) → va_P D vwCl [(m0, .inr (6, [.ref nw, .ref ps, .int (nI u), .ref im, .ref mk, .int (nI sd), .ref wd, .int (nI s), .ref so, .int (nI q), .ref mb, .ref ma, .ref mf, .ref mw, .ref ml, .ref mu, .int (nI br), .ref wt, .int (nI ww), .ref ty])), (nw, .inl (cI, 241, .inl (nF NW))), (ps, .inl (cI, 4820, .inl (nF PS))), (im, .inl (cI, 484, .inl (nF IM))), (mk, .inl (cZ, 2, .inl (nF MK))), (wd, .inl (cI, 8, .inl (nF WD))), (so, .inl (cI, 24, .inl (nF SO))), (mb, .inl (cI, 24, .inl (nF EB))), (ma, .inl (cI, 24, .inl (nF EA))), (mf, .inl (cI, 24, .inl (nF EF))), (mw, .inl (cI, 24, .inl (nF EW))), (ml, .inl (cI, 24, .inl (nF EL))), (mu, .inl (cI, 24, .inl (oF EU))), (wt, .inl (cI, 200, .inl (oF WT))), (ty, .inl (cI, 8, .inl (nF TY)))] H → va_D AA [(m0, .inr (6, [.ref nw, .ref ps, .int (nI u), .ref im, .ref mk, .int (nI sd), .ref wd, .int (nI s), .ref so, .int (nI q), .ref mb, .ref ma, .ref mf, .ref mw, .ref ml, .ref mu, .int (nI br), .ref wt, .int (nI ww), .ref ty])), (nw, .inl (cI, 241, .inl (nF NW))), (ps, .inl (cI, 4820, .inl (nF PS))), (im, .inl (cI, 484, .inl (nF IM))), (mk, .inl (cZ, 2, .inl (nF MK))), (wd, .inl (cI, 8, .inl (nF WD))), (so, .inl (cI, 24, .inl (nF SO))), (mb, .inl (cI, 24, .inl (nF EB))), (ma, .inl (cI, 24, .inl (nF EA))), (mf, .inl (cI, 24, .inl (nF EF))), (mw, .inl (cI, 24, .inl (nF EW))), (ml, .inl (cI, 24, .inl (nF EL))), (mu, .inl (cI, 24, .inl (oF EU))), (wt, .inl (cI, 200, .inl (oF WT))), (ty, .inl (cI, 8, .inl (nF TY)))] → va_S AA ss.heap H locs → lv_has ls 7 [(0, .ref m0), (1, .int (nI 1)), (2, .int (nI c)), (3, .int (oI lw)), (4, .int (nI wv)), (5, .int (oI b)), (6, .int (nI i))] → W pp l ee (rmN 2 46) ss mm [.ref m0, .int (nI 1)].toArray below meth cd H locs 0 0 (MQ below (QW D AA (fun x w => x = some (.int (oI 0)) ∧ ∃ (SO : Nat → Nat) (q : Nat) (EB EA EF EW EL EU : Nat → Nat) (br : Nat) (WT : Nat → Nat) (ww : Nat), w = [(m0, .inr (6, [.ref nw, .ref ps, .int (nI u), .ref im, .ref mk, .int (nI sd), .ref wd, .int (nI s), .ref so, .int (nI q), .ref mb, .ref ma, .ref mf, .ref mw, .ref ml, .ref mu, .int (nI br), .ref wt, .int (nI ww), .ref ty])), (nw, .inl (cI, 241, .inl (nF NW))), (ps, .inl (cI, 4820, .inl (nF PS))), (im, .inl (cI, 484, .inl (nF IM))), (mk, .inl (cZ, 2, .inl (nF MK))), (wd, .inl (cI, 8, .inl (nF WD))), (so, .inl (cI, 24, .inl (nF SO))), (mb, .inl (cI, 24, .inl (nF EB))), (ma, .inl (cI, 24, .inl (nF EA))), (mf, .inl (cI, 24, .inl (nF EF))), (mw, .inl (cI, 24, .inl (nF EW))), (ml, .inl (cI, 24, .inl (nF EL))), (mu, .inl (cI, 24, .inl (oF EU))), (wt, .inl (cI, 200, .inl (oF WT))), (ty, .inl (cI, 8, .inl (nF TY)))])) [.ref m0, .int (nI 1)].toArray ss 0 0 AA) (F0 mm 25 ls []) := by
      intro d
      induction d with
      | zero => intro i c lw wv b H locs ls h; exact absurd h (Nat.not_lt_zero _)
      | succ d ih25 =>
        intro i c lw wv b H locs ls hd25 hi hc hlw hwv hb0 hP hD hS hl
        have hb1 := mwo_le KW (plc KS KL n s A) c
        have hcn : c ≤ n := by omega
        refine lv_iload hx hb dX6_below_25 (lv_at hl 6 rfl) ?_
        refine lv_aload_n hx hb dX6_below_27 rfl (lv_at hl 0 rfl) ?_
        refine va_get (D := D) (ci := 6) (v := .ref nw) (C := RX6) (T := TX6) (N := 20) hx hb hts inX6 hown hK hP 0 rfl rfl 0 (by decide) (hts _ mf_X6_7) (fun _ h9 => h9) rfl dX6_below_28 ?_
        refine lv_iconst (v := nI 0) hx hb dX6_below_31 (by decide +kernel) ?_
        refine n_iald hx hb hK hP 1 0 rfl rfl (k := 0) (by omega) (by decide) dX6_below_32 ?_
        refine tq (y := nI n) (congrArg nI (hN0)) ?_
        refine n_ge (tgt := 121) hx hb dX6_below_33 (by decide) (by omega) (by omega) (fun c2 => ?_) (fun c2 => ?_)
        ·
          refine lv_iload_n hx hb dX6_below_121 rfl (lv_at hl 1 rfl) ?_
          refine n_if_ne (tgt := 129) hx hb dX6_below_122 (by decide) (by decide) (fun _ => ?_) (fun h9 => absurd h9 (by decide))
          refine lv_iload_n hx hb dX6_below_129 rfl (lv_at hl 1 rfl) ?_
          refine lv_iconst (v := nI 1) hx hb dX6_below_130 (by decide +kernel) ?_
          refine n_ne (tgt := 138) hx hb dX6_below_131 (by decide) (by decide) (by decide) (fun h9 => absurd h9 (by decide)) (fun _ => ?_)
          refine lv_iload_n hx hb dX6_below_134 rfl (lv_at hl 3 rfl) ?_
          refine lv_goto (tgt := 150) hx hb dX6_below_135 (by decide) ?_
          refine tq (y := (oI 0)) (by rw [hlw, hc, show i = n by omega, Nat.min_eq_right (by omega), if_neg (by omega)]) ?_
          exact wr_iret hx hb hr hlk hP hD hS dX6_below_150 (⟨rfl, SO, q, EB, EA, EF, EW, EL, EU, br, WT, ww, rfl⟩)
        ·
          refine lv_aload_n hx hb dX6_below_36 rfl (lv_at hl 0 rfl) ?_
          refine lv_iload hx hb dX6_below_37 (lv_at hl 6 rfl) ?_
          refine lv_bipush (v := nI 24) hx hb dX6_below_39 (by decide +kernel) ?_
          refine ro_V (As := [.int (nI i), .int (nI 24)]) (rest := []) ⟨hx, hb, hml, hown, hts⟩ (c_X6_begins l D cI cJ cZ m0 nw ps im mk wd so mb ma mf mw ml mu wt ty NW PS u IM MK sd WD s SO q EB EA EF EW EL EU br WT ww TY KS KL KW n A hn hk hw0 hR hRW i ((KS i)) ((KL i)) (Or.inr ⟨by omega, rfl, rfl⟩) 24 s A (Or.inl ⟨rfl, rfl, rfl⟩)) (k_X6_149 hts ⟨Nat.le_of_ble_eq_true rfl, Nat.le_of_ble_eq_true rfl⟩) hK hP 0 rfl rfl rfl [0, 1, 2, 3, 4, 5, 6, 7, 8, 9, 10, 11, 12, 13, 14] rfl rfl hl.1 rfl (Nat.le_of_ble_eq_true rfl) dX6_below_41 ⟨Nat.le_of_ble_eq_true rfl, Nat.le_of_ble_eq_true rfl⟩ ?_
          refine b_if_eq (tgt := 115) hx hb dX6_below_44 (by decide) (fun c5 => ?_) (fun c5 => ?_)
          ·
            have hpi : ¬ (plc KS KL n s A ≤ i ∧ i < plc KS KL n s A + cbl KS KL n s A) := fun z => c5 ((hbi i (by omega)).mpr z)
            refine lv_iinc (v := nI (i + 1)) (lv' := [(6, .int (nI (i + 1))), (0, .ref m0), (1, .int (nI 1)), (2, .int (nI c)), (3, .int (oI lw)), (4, .int (nI wv)), (5, .int (oI b))]) hx hb dX6_below_115 hl (k := 6) rfl (nI_add i 1) (by decide) rfl (fun ls hl => ?_)
            refine lv_goto (tgt := 25) hx hb dX6_below_118 (by decide) ?_
            exact ih25 (i + 1) c lw wv b _ _ ls (by omega) (by omega) (by omega) (by first | exact hlw | (exfalso; omega) | (rw [if_pos (by omega)]; rw [hlw]; rw [if_pos (by omega)]) | (rw [if_pos (by omega)]; omega)) (by first | exact hwv | exact sm_step hwv (by omega)) (by first | exact hb0 | (exfalso; omega) | (show _ = (if mwo KW (plc KS KL n s A) c = 0 ∨ KW (mwo KW (plc KS KL n s A) c - 1) < KW (plc KS KL n s A + c) then plc KS KL n s A + c + 1 else mwo KW (plc KS KL n s A) c); rw [← hb0, show plc KS KL n s A + c = i by omega]; first | rw [if_pos (by omega)] | rw [if_neg (by omega)])) hP hD hS (lv_sub hl [1, 2, 3, 4, 5, 6, 0] rfl)
          ·
            have hpi := (hbi i (by omega)).mp c5
            refine lv_iinc (v := nI (c + 1)) (lv' := [(2, .int (nI (c + 1))), (0, .ref m0), (1, .int (nI 1)), (3, .int (oI lw)), (4, .int (nI wv)), (5, .int (oI b)), (6, .int (nI i))]) hx hb dX6_below_47 hl (k := 2) rfl (nI_add c 1) (by decide) rfl (fun ls hl => ?_)
            refine lv_iload_n hx hb dX6_below_50 rfl (lv_at hl 3 rfl) ?_
            refine lv_iconst (v := oI 0) hx hb dX6_below_51 (by decide +kernel) ?_
            refine o_ne (tgt := 60) hx hb dX6_below_52 (by decide) (by rw [hlw]; split <;> omega) (fun c6 => ?_) (fun c6 => ?_)
            ·
              have e5 : 0 < c := by rcases Nat.eq_zero_or_pos c with z | z; rw [hlw, if_neg (by omega)] at c6; omega; exact z
              refine lv_iload_n hx hb dX6_below_60 rfl (lv_at hl 3 rfl) ?_
              refine lv_istore_n (lv' := [(3, .int (oI lw)), (2, .int (nI (c + 1))), (0, .ref m0), (1, .int (nI 1)), (4, .int (nI wv)), (5, .int (oI b)), (6, .int (nI i))]) hx hb dX6_below_61 rfl hl (by decide) rfl (fun ls hl => ?_)
              refine lv_iload hx hb dX6_below_62 (lv_at hl 4 rfl) ?_
              refine lv_aload_n hx hb dX6_below_64 rfl (lv_at hl 2 rfl) ?_
              refine va_get (D := D) (ci := 6) (v := .ref nw) (C := RX6) (T := TX6) (N := 20) hx hb hts inX6 hown hK hP 0 rfl rfl 0 (by decide) (hts _ mf_X6_7) (fun _ h9 => h9) rfl dX6_below_65 ?_
              refine lv_bipush (v := nI 25) hx hb dX6_below_68 (by decide +kernel) ?_
              refine lv_iload hx hb dX6_below_70 (lv_at hl 6 rfl) ?_
              refine n_iadd hx hb dX6_below_72 ?_
              refine n_iald hx hb hK hP 1 0 rfl rfl (k := (25 + i)) (by omega) (by decide) dX6_below_73 ?_
              refine tq (y := nI (KW i)) (congrArg nI ((hR.2 i (by omega)).2.1)) ?_
              refine n_iadd hx hb dX6_below_74 ?_
              refine lv_istore (lv' := [(4, .int (nI (wv + (KW i)))), (3, .int (oI lw)), (2, .int (nI (c + 1))), (0, .ref m0), (1, .int (nI 1)), (5, .int (oI b)), (6, .int (nI i))]) hx hb dX6_below_75 hl (by decide) rfl (fun ls hl => ?_)
              refine lv_iload hx hb dX6_below_77 (lv_at hl 5 rfl) ?_
              refine lv_iconst (v := oI 0) hx hb dX6_below_79 (by decide +kernel) ?_
              refine o_eq (tgt := 106) hx hb dX6_below_80 (by decide) (by omega) (fun c7 => ?_) (fun c7 => ?_)
              ·
                refine lv_iload hx hb dX6_below_106 (lv_at hl 6 rfl) ?_
                refine lv_goto (tgt := 113) hx hb dX6_below_108 (by decide) ?_
                refine tq (y := oI (i + 1)) (oI_s _).symm ?_
                refine lv_istore (lv' := [(5, .int (oI (i + 1))), (4, .int (nI (wv + (KW i)))), (3, .int (oI lw)), (2, .int (nI (c + 1))), (0, .ref m0), (1, .int (nI 1)), (6, .int (nI i))]) hx hb dX6_below_113 hl (by decide) rfl (fun ls hl => ?_)
                refine lv_iinc (v := nI (i + 1)) (lv' := [(6, .int (nI (i + 1))), (5, .int (oI (i + 1))), (4, .int (nI (wv + (KW i)))), (3, .int (oI lw)), (2, .int (nI (c + 1))), (0, .ref m0), (1, .int (nI 1))]) hx hb dX6_below_115 hl (k := 6) rfl (nI_add i 1) (by decide) rfl (fun ls hl => ?_)
                refine lv_goto (tgt := 25) hx hb dX6_below_118 (by decide) ?_
                exact ih25 (i + 1) (c + 1) lw (wv + (KW i)) (i + 1) _ _ ls (by omega) (by omega) (by omega) (by first | exact hlw | (exfalso; omega) | (rw [if_pos (by omega)]; rw [hlw]; rw [if_pos (by omega)]) | (rw [if_pos (by omega)]; omega)) (by first | exact hwv | exact sm_step hwv (by omega)) (by first | exact hb0 | (exfalso; omega) | (show _ = (if mwo KW (plc KS KL n s A) c = 0 ∨ KW (mwo KW (plc KS KL n s A) c - 1) < KW (plc KS KL n s A + c) then plc KS KL n s A + c + 1 else mwo KW (plc KS KL n s A) c); rw [← hb0, show plc KS KL n s A + c = i by omega]; first | rw [if_pos (by omega)] | rw [if_neg (by omega)])) hP hD hS (lv_sub hl [5, 6, 4, 3, 2, 1, 0] rfl)
              ·
                refine lv_aload_n hx hb dX6_below_83 rfl (lv_at hl 3 rfl) ?_
                refine va_get (D := D) (ci := 6) (v := .ref nw) (C := RX6) (T := TX6) (N := 20) hx hb hts inX6 hown hK hP 0 rfl rfl 0 (by decide) (hts _ mf_X6_7) (fun _ h9 => h9) rfl dX6_below_84 ?_
                refine lv_bipush (v := nI 25) hx hb dX6_below_87 (by decide +kernel) ?_
                refine lv_iload hx hb dX6_below_89 (lv_at hl 6 rfl) ?_
                refine n_iadd hx hb dX6_below_91 ?_
                refine n_iald hx hb hK hP 1 0 rfl rfl (k := (25 + i)) (by omega) (by decide) dX6_below_92 ?_
                refine tq (y := nI (KW i)) (congrArg nI ((hR.2 i (by omega)).2.1)) ?_
                refine lv_aload_n hx hb dX6_below_93 rfl (lv_at hl 3 rfl) ?_
                refine va_get (D := D) (ci := 6) (v := .ref nw) (C := RX6) (T := TX6) (N := 20) hx hb hts inX6 hown hK hP 0 rfl rfl 0 (by decide) (hts _ mf_X6_7) (fun _ h9 => h9) rfl dX6_below_94 ?_
                refine lv_bipush (v := nI 25) hx hb dX6_below_97 (by decide +kernel) ?_
                refine lv_iload hx hb dX6_below_99 (lv_at hl 5 rfl) ?_
                refine tq (y := (nI (b - 1))) (oI_p (by omega)) ?_
                refine n_iadd hx hb dX6_below_101 ?_
                refine n_iald hx hb hK hP 1 0 rfl rfl (k := (25 + (b - 1))) (by omega) (by decide) dX6_below_102 ?_
                refine tq (y := nI (KW (b - 1))) (congrArg nI ((hR.2 (b - 1) (by omega)).2.1)) ?_
                refine n_le (tgt := 111) hx hb dX6_below_103 (by decide) (by have := hv i (by omega); omega) (by have := hv (b - 1) (by omega); omega) (fun c8 => ?_) (fun c8 => ?_)
                ·
                  refine lv_iload hx hb dX6_below_111 (lv_at hl 5 rfl) ?_
                  refine lv_istore (lv' := [(5, .int (oI b)), (4, .int (nI (wv + (KW i)))), (3, .int (oI lw)), (2, .int (nI (c + 1))), (0, .ref m0), (1, .int (nI 1)), (6, .int (nI i))]) hx hb dX6_below_113 hl (by decide) rfl (fun ls hl => ?_)
                  refine lv_iinc (v := nI (i + 1)) (lv' := [(6, .int (nI (i + 1))), (5, .int (oI b)), (4, .int (nI (wv + (KW i)))), (3, .int (oI lw)), (2, .int (nI (c + 1))), (0, .ref m0), (1, .int (nI 1))]) hx hb dX6_below_115 hl (k := 6) rfl (nI_add i 1) (by decide) rfl (fun ls hl => ?_)
                  refine lv_goto (tgt := 25) hx hb dX6_below_118 (by decide) ?_
                  exact ih25 (i + 1) (c + 1) lw (wv + (KW i)) b _ _ ls (by omega) (by omega) (by omega) (by first | exact hlw | (exfalso; omega) | (rw [if_pos (by omega)]; rw [hlw]; rw [if_pos (by omega)]) | (rw [if_pos (by omega)]; omega)) (by first | exact hwv | exact sm_step hwv (by omega)) (by first | exact hb0 | (exfalso; omega) | (show _ = (if mwo KW (plc KS KL n s A) c = 0 ∨ KW (mwo KW (plc KS KL n s A) c - 1) < KW (plc KS KL n s A + c) then plc KS KL n s A + c + 1 else mwo KW (plc KS KL n s A) c); rw [← hb0, show plc KS KL n s A + c = i by omega]; first | rw [if_pos (by omega)] | rw [if_neg (by omega)])) hP hD hS (lv_sub hl [5, 6, 4, 3, 2, 1, 0] rfl)
                ·
                  refine lv_iload hx hb dX6_below_106 (lv_at hl 6 rfl) ?_
                  refine lv_goto (tgt := 113) hx hb dX6_below_108 (by decide) ?_
                  refine tq (y := oI (i + 1)) (oI_s _).symm ?_
                  refine lv_istore (lv' := [(5, .int (oI (i + 1))), (4, .int (nI (wv + (KW i)))), (3, .int (oI lw)), (2, .int (nI (c + 1))), (0, .ref m0), (1, .int (nI 1)), (6, .int (nI i))]) hx hb dX6_below_113 hl (by decide) rfl (fun ls hl => ?_)
                  refine lv_iinc (v := nI (i + 1)) (lv' := [(6, .int (nI (i + 1))), (5, .int (oI (i + 1))), (4, .int (nI (wv + (KW i)))), (3, .int (oI lw)), (2, .int (nI (c + 1))), (0, .ref m0), (1, .int (nI 1))]) hx hb dX6_below_115 hl (k := 6) rfl (nI_add i 1) (by decide) rfl (fun ls hl => ?_)
                  refine lv_goto (tgt := 25) hx hb dX6_below_118 (by decide) ?_
                  exact ih25 (i + 1) (c + 1) lw (wv + (KW i)) (i + 1) _ _ ls (by omega) (by omega) (by omega) (by first | exact hlw | (exfalso; omega) | (rw [if_pos (by omega)]; rw [hlw]; rw [if_pos (by omega)]) | (rw [if_pos (by omega)]; omega)) (by first | exact hwv | exact sm_step hwv (by omega)) (by first | exact hb0 | (exfalso; omega) | (show _ = (if mwo KW (plc KS KL n s A) c = 0 ∨ KW (mwo KW (plc KS KL n s A) c - 1) < KW (plc KS KL n s A + c) then plc KS KL n s A + c + 1 else mwo KW (plc KS KL n s A) c); rw [← hb0, show plc KS KL n s A + c = i by omega]; first | rw [if_pos (by omega)] | rw [if_neg (by omega)])) hP hD hS (lv_sub hl [5, 6, 4, 3, 2, 1, 0] rfl)
            ·
              have e5 : c = 0 := by rcases Nat.eq_zero_or_pos c with z | z; exact z; rw [hlw, if_pos z] at c6; omega
              refine lv_iload hx hb dX6_below_55 (lv_at hl 6 rfl) ?_
              refine lv_goto (tgt := 61) hx hb dX6_below_57 (by decide) ?_
              refine tq (y := oI (i + 1)) (oI_s _).symm ?_
              refine lv_istore_n (lv' := [(3, .int (oI (i + 1))), (2, .int (nI (c + 1))), (0, .ref m0), (1, .int (nI 1)), (4, .int (nI wv)), (5, .int (oI b)), (6, .int (nI i))]) hx hb dX6_below_61 rfl hl (by decide) rfl (fun ls hl => ?_)
              refine lv_iload hx hb dX6_below_62 (lv_at hl 4 rfl) ?_
              refine lv_aload_n hx hb dX6_below_64 rfl (lv_at hl 2 rfl) ?_
              refine va_get (D := D) (ci := 6) (v := .ref nw) (C := RX6) (T := TX6) (N := 20) hx hb hts inX6 hown hK hP 0 rfl rfl 0 (by decide) (hts _ mf_X6_7) (fun _ h9 => h9) rfl dX6_below_65 ?_
              refine lv_bipush (v := nI 25) hx hb dX6_below_68 (by decide +kernel) ?_
              refine lv_iload hx hb dX6_below_70 (lv_at hl 6 rfl) ?_
              refine n_iadd hx hb dX6_below_72 ?_
              refine n_iald hx hb hK hP 1 0 rfl rfl (k := (25 + i)) (by omega) (by decide) dX6_below_73 ?_
              refine tq (y := nI (KW i)) (congrArg nI ((hR.2 i (by omega)).2.1)) ?_
              refine n_iadd hx hb dX6_below_74 ?_
              refine lv_istore (lv' := [(4, .int (nI (wv + (KW i)))), (3, .int (oI (i + 1))), (2, .int (nI (c + 1))), (0, .ref m0), (1, .int (nI 1)), (5, .int (oI b)), (6, .int (nI i))]) hx hb dX6_below_75 hl (by decide) rfl (fun ls hl => ?_)
              refine lv_iload hx hb dX6_below_77 (lv_at hl 5 rfl) ?_
              refine lv_iconst (v := oI 0) hx hb dX6_below_79 (by decide +kernel) ?_
              refine o_eq (tgt := 106) hx hb dX6_below_80 (by decide) (by omega) (fun c9 => ?_) (fun c9 => ?_)
              ·
                refine lv_iload hx hb dX6_below_106 (lv_at hl 6 rfl) ?_
                refine lv_goto (tgt := 113) hx hb dX6_below_108 (by decide) ?_
                refine tq (y := oI (i + 1)) (oI_s _).symm ?_
                refine lv_istore (lv' := [(5, .int (oI (i + 1))), (4, .int (nI (wv + (KW i)))), (3, .int (oI (i + 1))), (2, .int (nI (c + 1))), (0, .ref m0), (1, .int (nI 1)), (6, .int (nI i))]) hx hb dX6_below_113 hl (by decide) rfl (fun ls hl => ?_)
                refine lv_iinc (v := nI (i + 1)) (lv' := [(6, .int (nI (i + 1))), (5, .int (oI (i + 1))), (4, .int (nI (wv + (KW i)))), (3, .int (oI (i + 1))), (2, .int (nI (c + 1))), (0, .ref m0), (1, .int (nI 1))]) hx hb dX6_below_115 hl (k := 6) rfl (nI_add i 1) (by decide) rfl (fun ls hl => ?_)
                refine lv_goto (tgt := 25) hx hb dX6_below_118 (by decide) ?_
                exact ih25 (i + 1) (c + 1) (i + 1) (wv + (KW i)) (i + 1) _ _ ls (by omega) (by omega) (by omega) (by first | exact hlw | (exfalso; omega) | (rw [if_pos (by omega)]; rw [hlw]; rw [if_pos (by omega)]) | (rw [if_pos (by omega)]; omega)) (by first | exact hwv | exact sm_step hwv (by omega)) (by first | exact hb0 | (exfalso; omega) | (show _ = (if mwo KW (plc KS KL n s A) c = 0 ∨ KW (mwo KW (plc KS KL n s A) c - 1) < KW (plc KS KL n s A + c) then plc KS KL n s A + c + 1 else mwo KW (plc KS KL n s A) c); rw [← hb0, show plc KS KL n s A + c = i by omega]; first | rw [if_pos (by omega)] | rw [if_neg (by omega)])) hP hD hS (lv_sub hl [5, 6, 4, 3, 2, 1, 0] rfl)
              ·
                refine lv_aload_n hx hb dX6_below_83 rfl (lv_at hl 3 rfl) ?_
                refine va_get (D := D) (ci := 6) (v := .ref nw) (C := RX6) (T := TX6) (N := 20) hx hb hts inX6 hown hK hP 0 rfl rfl 0 (by decide) (hts _ mf_X6_7) (fun _ h9 => h9) rfl dX6_below_84 ?_
                refine lv_bipush (v := nI 25) hx hb dX6_below_87 (by decide +kernel) ?_
                refine lv_iload hx hb dX6_below_89 (lv_at hl 6 rfl) ?_
                refine n_iadd hx hb dX6_below_91 ?_
                refine n_iald hx hb hK hP 1 0 rfl rfl (k := (25 + i)) (by omega) (by decide) dX6_below_92 ?_
                refine tq (y := nI (KW i)) (congrArg nI ((hR.2 i (by omega)).2.1)) ?_
                refine lv_aload_n hx hb dX6_below_93 rfl (lv_at hl 3 rfl) ?_
                refine va_get (D := D) (ci := 6) (v := .ref nw) (C := RX6) (T := TX6) (N := 20) hx hb hts inX6 hown hK hP 0 rfl rfl 0 (by decide) (hts _ mf_X6_7) (fun _ h9 => h9) rfl dX6_below_94 ?_
                refine lv_bipush (v := nI 25) hx hb dX6_below_97 (by decide +kernel) ?_
                refine lv_iload hx hb dX6_below_99 (lv_at hl 5 rfl) ?_
                refine tq (y := (nI (b - 1))) (oI_p (by omega)) ?_
                refine n_iadd hx hb dX6_below_101 ?_
                refine n_iald hx hb hK hP 1 0 rfl rfl (k := (25 + (b - 1))) (by omega) (by decide) dX6_below_102 ?_
                refine tq (y := nI (KW (b - 1))) (congrArg nI ((hR.2 (b - 1) (by omega)).2.1)) ?_
                refine n_le (tgt := 111) hx hb dX6_below_103 (by decide) (by have := hv i (by omega); omega) (by have := hv (b - 1) (by omega); omega) (fun c10 => ?_) (fun c10 => ?_)
                ·
                  refine lv_iload hx hb dX6_below_111 (lv_at hl 5 rfl) ?_
                  refine lv_istore (lv' := [(5, .int (oI b)), (4, .int (nI (wv + (KW i)))), (3, .int (oI (i + 1))), (2, .int (nI (c + 1))), (0, .ref m0), (1, .int (nI 1)), (6, .int (nI i))]) hx hb dX6_below_113 hl (by decide) rfl (fun ls hl => ?_)
                  refine lv_iinc (v := nI (i + 1)) (lv' := [(6, .int (nI (i + 1))), (5, .int (oI b)), (4, .int (nI (wv + (KW i)))), (3, .int (oI (i + 1))), (2, .int (nI (c + 1))), (0, .ref m0), (1, .int (nI 1))]) hx hb dX6_below_115 hl (k := 6) rfl (nI_add i 1) (by decide) rfl (fun ls hl => ?_)
                  refine lv_goto (tgt := 25) hx hb dX6_below_118 (by decide) ?_
                  exact ih25 (i + 1) (c + 1) (i + 1) (wv + (KW i)) b _ _ ls (by omega) (by omega) (by omega) (by first | exact hlw | (exfalso; omega) | (rw [if_pos (by omega)]; rw [hlw]; rw [if_pos (by omega)]) | (rw [if_pos (by omega)]; omega)) (by first | exact hwv | exact sm_step hwv (by omega)) (by first | exact hb0 | (exfalso; omega) | (show _ = (if mwo KW (plc KS KL n s A) c = 0 ∨ KW (mwo KW (plc KS KL n s A) c - 1) < KW (plc KS KL n s A + c) then plc KS KL n s A + c + 1 else mwo KW (plc KS KL n s A) c); rw [← hb0, show plc KS KL n s A + c = i by omega]; first | rw [if_pos (by omega)] | rw [if_neg (by omega)])) hP hD hS (lv_sub hl [5, 6, 4, 3, 2, 1, 0] rfl)
                ·
                  refine lv_iload hx hb dX6_below_106 (lv_at hl 6 rfl) ?_
                  refine lv_goto (tgt := 113) hx hb dX6_below_108 (by decide) ?_
                  refine tq (y := oI (i + 1)) (oI_s _).symm ?_
                  refine lv_istore (lv' := [(5, .int (oI (i + 1))), (4, .int (nI (wv + (KW i)))), (3, .int (oI (i + 1))), (2, .int (nI (c + 1))), (0, .ref m0), (1, .int (nI 1)), (6, .int (nI i))]) hx hb dX6_below_113 hl (by decide) rfl (fun ls hl => ?_)
                  refine lv_iinc (v := nI (i + 1)) (lv' := [(6, .int (nI (i + 1))), (5, .int (oI (i + 1))), (4, .int (nI (wv + (KW i)))), (3, .int (oI (i + 1))), (2, .int (nI (c + 1))), (0, .ref m0), (1, .int (nI 1))]) hx hb dX6_below_115 hl (k := 6) rfl (nI_add i 1) (by decide) rfl (fun ls hl => ?_)
                  refine lv_goto (tgt := 25) hx hb dX6_below_118 (by decide) ?_
                  exact ih25 (i + 1) (c + 1) (i + 1) (wv + (KW i)) (i + 1) _ _ ls (by omega) (by omega) (by omega) (by first | exact hlw | (exfalso; omega) | (rw [if_pos (by omega)]; rw [hlw]; rw [if_pos (by omega)]) | (rw [if_pos (by omega)]; omega)) (by first | exact hwv | exact sm_step hwv (by omega)) (by first | exact hb0 | (exfalso; omega) | (show _ = (if mwo KW (plc KS KL n s A) c = 0 ∨ KW (mwo KW (plc KS KL n s A) c - 1) < KW (plc KS KL n s A + c) then plc KS KL n s A + c + 1 else mwo KW (plc KS KL n s A) c); rw [← hb0, show plc KS KL n s A + c = i by omega]; first | rw [if_pos (by omega)] | rw [if_neg (by omega)])) hP hD hS (lv_sub hl [5, 6, 4, 3, 2, 1, 0] rfl)
    exact loop25 _ 0 0 0 0 0 _ _ ls (Nat.lt_succ_self _) (Nat.zero_le _) (by rw [Nat.zero_sub, Nat.zero_min]) (by rw [if_neg (Nat.lt_irrefl 0)]) rfl rfl hP hD hS (lv_sub hl [5, 6, 4, 3, 2, 1, 0] rfl)
  ·
    exact (c1 (by decide)).elim
set_option maxHeartbeats 4000000 in
set_option maxRecDepth 100000 in
theorem c_X6_below_2 (l : Launch) (D : va_G) (cI cJ cZ : ClassId) (m0 nw ps im mk wd so mb ma mf mw ml mu wt ty : Nat) (NW : Nat → Nat) (PS : Nat → Nat) (u : Nat) (IM : Nat → Nat) (MK : Nat → Nat) (sd : Nat) (WD : Nat → Nat) (s : Nat) (SO : Nat → Nat) (q : Nat) (EB : Nat → Nat) (EA : Nat → Nat) (EF : Nat → Nat) (EW : Nat → Nat) (EL : Nat → Nat) (EU : Nat → Nat) (br : Nat) (WT : Nat → Nat) (ww : Nat) (TY : Nat → Nat) (KS KL KW : Nat → Nat) (n A : Nat) (hn : n ≤ 24) (hk : ∀ k, k < n → Wf (KS k) (KL k)) (hw0 : Wf s A) (hR : RN NW KS KL KW n) (hRW : RW WD s A) (hso : Srt KS KL n) (BB BD BM BL BF BA BK : Nat → Nat) (hTr : TrX (gapF KS KL) n BB BD BM BL BF BA BK) (hv : ∀ k, k < n → KW k ≤ 9999)  (sz : Nat) : WR l yX6_below cX6_below 7 (some .int) (rmN 2 46) D (ty3 cI cJ cZ) [.ref m0, .int (nI 2)] [(m0, .inr (6, [.ref nw, .ref ps, .int (nI u), .ref im, .ref mk, .int (nI sd), .ref wd, .int (nI s), .ref so, .int (nI q), .ref mb, .ref ma, .ref mf, .ref mw, .ref ml, .ref mu, .int (nI br), .ref wt, .int (nI ww), .ref ty])), (nw, .inl (cI, 241, .inl (nF NW))), (ps, .inl (cI, 4820, .inl (nF PS))), (im, .inl (cI, 484, .inl (nF IM))), (mk, .inl (cZ, 2, .inl (nF MK))), (wd, .inl (cI, 8, .inl (nF WD))), (so, .inl (cI, 24, .inl (nF SO))), (mb, .inl (cI, 24, .inl (nF EB))), (ma, .inl (cI, 24, .inl (nF EA))), (mf, .inl (cI, 24, .inl (nF EF))), (mw, .inl (cI, 24, .inl (nF EW))), (ml, .inl (cI, 24, .inl (nF EL))), (mu, .inl (cI, 24, .inl (oF EU))), (wt, .inl (cI, 200, .inl (oF WT))), (ty, .inl (cI, 8, .inl (nF TY)))] sz (fun x w => x = some (.int (nI (fb_sm (fun i => KW ((plc KS KL n s A) + i)) (cbl KS KL n s A)))) ∧ ∃ (SO : Nat → Nat) (q : Nat) (EB EA EF EW EL EU : Nat → Nat) (br : Nat) (WT : Nat → Nat) (ww : Nat), w = [(m0, .inr (6, [.ref nw, .ref ps, .int (nI u), .ref im, .ref mk, .int (nI sd), .ref wd, .int (nI s), .ref so, .int (nI q), .ref mb, .ref ma, .ref mf, .ref mw, .ref ml, .ref mu, .int (nI br), .ref wt, .int (nI ww), .ref ty])), (nw, .inl (cI, 241, .inl (nF NW))), (ps, .inl (cI, 4820, .inl (nF PS))), (im, .inl (cI, 484, .inl (nF IM))), (mk, .inl (cZ, 2, .inl (nF MK))), (wd, .inl (cI, 8, .inl (nF WD))), (so, .inl (cI, 24, .inl (nF SO))), (mb, .inl (cI, 24, .inl (nF EB))), (ma, .inl (cI, 24, .inl (nF EA))), (mf, .inl (cI, 24, .inl (nF EF))), (mw, .inl (cI, 24, .inl (nF EW))), (ml, .inl (cI, 24, .inl (nF EL))), (mu, .inl (cI, 24, .inl (oF EU))), (wt, .inl (cI, 200, .inl (oF WT))), (ty, .inl (cI, 8, .inl (nF TY)))]) := by
  have hs8 := hw0.1
  have hA64 := hw0.2.1
  have hN0 := hR.1
  have hBK := tf_BK hTr hn
  have hDK := tf_DK hTr hn
  have hp := plc_le KS KL n s A
  have hcb := cbl_le KS KL n s A
  have hfl := fnd_le KS KL n s A
  have hbi : ∀ y, y < n → (9 * s ≤ unl (KS y) (KL y) s A ↔ plc KS KL n s A ≤ y ∧ y < plc KS KL n s A + cbl KS KL n s A) := fun y hy => bel_iff hk hw0 hso hy
  refine wr_start (by decide) (Nat.le_of_ble_eq_true rfl) ?_
  intro pp ee ss mm below meth cd AA C0 hAA hP hK hD hS hN hnm ls hl
  obtain ⟨hx, hb, hr, hml, hown, hts, hlk⟩ := C0
  have hown : ss.vm.findClass RX6 = some mm.cls := hown
  have hl : lv_has ls 7 [(0, .ref m0), (1, .int (nI 2))] := hl
  have hP : va_P D vwCl [(m0, .inr (6, [.ref nw, .ref ps, .int (nI u), .ref im, .ref mk, .int (nI sd), .ref wd, .int (nI s), .ref so, .int (nI q), .ref mb, .ref ma, .ref mf, .ref mw, .ref ml, .ref mu, .int (nI br), .ref wt, .int (nI ww), .ref ty])), (nw, .inl (cI, 241, .inl (nF NW))), (ps, .inl (cI, 4820, .inl (nF PS))), (im, .inl (cI, 484, .inl (nF IM))), (mk, .inl (cZ, 2, .inl (nF MK))), (wd, .inl (cI, 8, .inl (nF WD))), (so, .inl (cI, 24, .inl (nF SO))), (mb, .inl (cI, 24, .inl (nF EB))), (ma, .inl (cI, 24, .inl (nF EA))), (mf, .inl (cI, 24, .inl (nF EF))), (mw, .inl (cI, 24, .inl (nF EW))), (ml, .inl (cI, 24, .inl (nF EL))), (mu, .inl (cI, 24, .inl (oF EU))), (wt, .inl (cI, 200, .inl (oF WT))), (ty, .inl (cI, 8, .inl (nF TY)))] ss.heap := hP
  refine lv_iload_n hx hb dX6_below_0 rfl (lv_at hl 1 rfl) ?_
  refine lv_iconst (v := nI 0) hx hb dX6_below_1 (by decide +kernel) ?_
  refine lv_iconst (v := nI 3) hx hb dX6_below_2 (by decide +kernel) ?_
  refine ro_S (As := [.int (nI 2), .int (nI 0), .int (nI 3)]) (rest := []) ⟨hx, hb, hml, hown, hts⟩ (c_X6_in l D cI cJ cZ 2 0 3 (by omega) (by omega) (by omega)) (k_X6_79 hts ⟨Nat.le_of_ble_eq_true rfl, Nat.le_of_ble_eq_true rfl⟩) hK hP [] rfl rfl hl.1 rfl (Nat.le_of_ble_eq_true rfl) dX6_below_3 ⟨Nat.le_of_ble_eq_true rfl, Nat.le_of_ble_eq_true rfl⟩ ?_
  refine b_if_ne (tgt := 12) hx hb dX6_below_6 (by decide) (fun c1 => ?_) (fun c1 => ?_)
  ·
    refine lv_iconst (v := nI 0) hx hb dX6_below_12 (by decide +kernel) ?_
    refine lv_istore_n (lv' := [(2, .int (nI 0)), (0, .ref m0), (1, .int (nI 2))]) hx hb dX6_below_13 rfl hl (by decide) rfl (fun ls hl => ?_)
    refine lv_iconst (v := oI 0) hx hb dX6_below_14 (by decide +kernel) ?_
    refine lv_istore_n (lv' := [(3, .int (oI 0)), (2, .int (nI 0)), (0, .ref m0), (1, .int (nI 2))]) hx hb dX6_below_15 rfl hl (by decide) rfl (fun ls hl => ?_)
    refine lv_iconst (v := nI 0) hx hb dX6_below_16 (by decide +kernel) ?_
    refine lv_istore (lv' := [(4, .int (nI 0)), (3, .int (oI 0)), (2, .int (nI 0)), (0, .ref m0), (1, .int (nI 2))]) hx hb dX6_below_17 hl (by decide) rfl (fun ls hl => ?_)
    refine lv_iconst (v := oI 0) hx hb dX6_below_19 (by decide +kernel) ?_
    refine lv_istore (lv' := [(5, .int (oI 0)), (4, .int (nI 0)), (3, .int (oI 0)), (2, .int (nI 0)), (0, .ref m0), (1, .int (nI 2))]) hx hb dX6_below_20 hl (by decide) rfl (fun ls hl => ?_)
    refine lv_iconst (v := nI 0) hx hb dX6_below_22 (by decide +kernel) ?_
    refine lv_istore (lv' := [(6, .int (nI 0)), (5, .int (oI 0)), (4, .int (nI 0)), (3, .int (oI 0)), (2, .int (nI 0)), (0, .ref m0), (1, .int (nI 2))]) hx hb dX6_below_23 hl (by decide) rfl (fun ls hl => ?_)
    have loop25 : ∀ (d : Nat) (i : Nat) (c : Nat) (lw : Nat) (wv : Nat) (b : Nat) (H : Heap) (locs : List Loc) (ls : Array Slot), n - i < d → (i ≤ n) → (c = min (i - plc KS KL n s A) (cbl KS KL n s A)) → (lw = if 0 < c then plc KS KL n s A + 1 else 0) → (wv = fb_sm (fun y => KW (plc KS KL n s A + y)) c) → (b = mwo KW (plc KS KL n s A) c) → va_P D vwCl [(m0, .inr (6, [.ref nw, .ref ps, .int (nI u), .ref im, .ref mk, .int (nI sd), .ref wd, .int (nI s), .ref so, .int (nI q), .ref mb, .ref ma, .ref mf, .ref mw, .ref ml, .ref mu, .int (nI br), .ref wt, .int (nI ww), .ref ty])), (nw, .inl (cI, 241, .inl (nF NW))), (ps, .inl (cI, 4820, .inl (nF PS))), (im, .inl (cI, 484, .inl (nF IM))), (mk, .inl (cZ, 2, .inl (nF MK))), (wd, .inl (cI, 8, .inl (nF WD))), (so, .inl (cI, 24, .inl (nF SO))), (mb, .inl (cI, 24, .inl (nF EB))), (ma, .inl (cI, 24, .inl (nF EA))), (mf, .inl (cI, 24, .inl (nF EF))), (mw, .inl (cI, 24, .inl (nF EW))), (ml, .inl (cI, 24, .inl (nF EL))), (mu, .inl (cI, 24, .inl (oF EU))), (wt, .inl (cI, 200, .inl (oF WT))), (ty, .inl (cI, 8, .inl (nF TY)))] H → va_D AA [(m0, .inr (6, [.ref nw, .ref ps, .int (nI u), .ref im, .ref mk, .int (nI sd), .ref wd, .int (nI s), .ref so, .int (nI q), .ref mb, .ref ma, .ref mf, .ref mw, .ref ml, .ref mu, .int (nI br), .ref wt, .int (nI ww), .ref ty])), (nw, .inl (cI, 241, .inl (nF NW))), (ps, .inl (cI, 4820, .inl (nF PS))), (im, .inl (cI, 484, .inl (nF IM))), (mk, .inl (cZ, 2, .inl (nF MK))), (wd, .inl (cI, 8, .inl (nF WD))), (so, .inl (cI, 24, .inl (nF SO))), (mb, .inl (cI, 24, .inl (nF EB))), (ma, .inl (cI, 24, .inl (nF EA))), (mf, .inl (cI, 24, .inl (nF EF))), (mw, .inl (cI, 24, .inl (nF EW))), (ml, .inl (cI, 24, .inl (nF EL))), (mu, .inl (cI, 24, .inl (oF EU))), (wt, .inl (cI, 200, .inl (oF WT))), (ty, .inl (cI, 8, .inl (nF TY)))] → va_S AA ss.heap H locs → lv_has ls 7 [(0, .ref m0), (1, .int (nI 2)), (2, .int (nI c)), (3, .int (oI lw)), (4, .int (nI wv)), (5, .int (oI b)), (6, .int (nI i))] → W pp l ee (rmN 2 46) ss mm [.ref m0, .int (nI 2)].toArray below meth cd H locs 0 0 (MQ below (QW D AA (fun x w => x = some (.int (nI (fb_sm (fun i => KW ((plc KS KL n s A) + i)) (cbl KS KL n s A)))) ∧ ∃ (SO : Nat → Nat) (q : Nat) (EB EA EF EW EL EU : Nat → Nat) (br : Nat) (WT : Nat → Nat) (ww : Nat), w = [(m0, .inr (6, [.ref nw, .ref ps, .int (nI u), .ref im, .ref mk, .int (nI sd), .ref wd, .int (nI s), .ref so, .int (nI q), .ref mb, .ref ma, .ref mf, .ref mw, .ref ml, .ref mu, .int (nI br), .ref wt, .int (nI ww), .ref ty])), (nw, .inl (cI, 241, .inl (nF NW))), (ps, .inl (cI, 4820, .inl (nF PS))), (im, .inl (cI, 484, .inl (nF IM))), (mk, .inl (cZ, 2, .inl (nF MK))), (wd, .inl (cI, 8, .inl (nF WD))), (so, .inl (cI, 24, .inl (nF SO))), (mb, .inl (cI, 24, .inl (nF EB))), (ma, .inl (cI, 24, .inl (nF EA))), (mf, .inl (cI, 24, .inl (nF EF))), (mw, .inl (cI, 24, .inl (nF EW))), (ml, .inl (cI, 24, .inl (nF EL))), (mu, .inl (cI, 24, .inl (oF EU))), (wt, .inl (cI, 200, .inl (oF WT))), (ty, .inl (cI, 8, .inl (nF TY)))])) [.ref m0, .int (nI 2)].toArray ss 0 0 AA) (F0 mm 25 ls []) := by
      intro d
      induction d with
      | zero => intro i c lw wv b H locs ls h; exact absurd h (Nat.not_lt_zero _)
      | succ d ih25 =>
        intro i c lw wv b H locs ls hd25 hi hc hlw hwv hb0 hP hD hS hl
        have hb1 := mwo_le KW (plc KS KL n s A) c
        have hcn : c ≤ n := by omega
        refine lv_iload hx hb dX6_below_25 (lv_at hl 6 rfl) ?_
        refine lv_aload_n hx hb dX6_below_27 rfl (lv_at hl 0 rfl) ?_
        refine va_get (D := D) (ci := 6) (v := .ref nw) (C := RX6) (T := TX6) (N := 20) hx hb hts inX6 hown hK hP 0 rfl rfl 0 (by decide) (hts _ mf_X6_7) (fun _ h9 => h9) rfl dX6_below_28 ?_
        refine lv_iconst (v := nI 0) hx hb dX6_below_31 (by decide +kernel) ?_
        refine n_iald hx hb hK hP 1 0 rfl rfl (k := 0) (by omega) (by decide) dX6_below_32 ?_
        refine tq (y := nI n) (congrArg nI (hN0)) ?_
        refine n_ge (tgt := 121) hx hb dX6_below_33 (by decide) (by omega) (by omega) (fun c2 => ?_) (fun c2 => ?_)
        ·
          refine lv_iload_n hx hb dX6_below_121 rfl (lv_at hl 1 rfl) ?_
          refine n_if_ne (tgt := 129) hx hb dX6_below_122 (by decide) (by decide) (fun _ => ?_) (fun h9 => absurd h9 (by decide))
          refine lv_iload_n hx hb dX6_below_129 rfl (lv_at hl 1 rfl) ?_
          refine lv_iconst (v := nI 1) hx hb dX6_below_130 (by decide +kernel) ?_
          refine n_ne (tgt := 138) hx hb dX6_below_131 (by decide) (by decide) (by decide) (fun _ => ?_) (fun h9 => absurd h9 (by decide))
          refine lv_iload_n hx hb dX6_below_138 rfl (lv_at hl 1 rfl) ?_
          refine lv_iconst (v := nI 2) hx hb dX6_below_139 (by decide +kernel) ?_
          refine n_ne (tgt := 148) hx hb dX6_below_140 (by decide) (by decide) (by decide) (fun h9 => absurd h9 (by decide)) (fun _ => ?_)
          refine lv_iload hx hb dX6_below_143 (lv_at hl 4 rfl) ?_
          refine lv_goto (tgt := 150) hx hb dX6_below_145 (by decide) ?_
          refine tq (y := (nI (fb_sm (fun i => KW ((plc KS KL n s A) + i)) (cbl KS KL n s A)))) (by rw [hwv, hc, show i = n by omega, Nat.min_eq_right (by omega)]) ?_
          exact wr_iret hx hb hr hlk hP hD hS dX6_below_150 (⟨rfl, SO, q, EB, EA, EF, EW, EL, EU, br, WT, ww, rfl⟩)
        ·
          refine lv_aload_n hx hb dX6_below_36 rfl (lv_at hl 0 rfl) ?_
          refine lv_iload hx hb dX6_below_37 (lv_at hl 6 rfl) ?_
          refine lv_bipush (v := nI 24) hx hb dX6_below_39 (by decide +kernel) ?_
          refine ro_V (As := [.int (nI i), .int (nI 24)]) (rest := []) ⟨hx, hb, hml, hown, hts⟩ (c_X6_begins l D cI cJ cZ m0 nw ps im mk wd so mb ma mf mw ml mu wt ty NW PS u IM MK sd WD s SO q EB EA EF EW EL EU br WT ww TY KS KL KW n A hn hk hw0 hR hRW i ((KS i)) ((KL i)) (Or.inr ⟨by omega, rfl, rfl⟩) 24 s A (Or.inl ⟨rfl, rfl, rfl⟩)) (k_X6_149 hts ⟨Nat.le_of_ble_eq_true rfl, Nat.le_of_ble_eq_true rfl⟩) hK hP 0 rfl rfl rfl [0, 1, 2, 3, 4, 5, 6, 7, 8, 9, 10, 11, 12, 13, 14] rfl rfl hl.1 rfl (Nat.le_of_ble_eq_true rfl) dX6_below_41 ⟨Nat.le_of_ble_eq_true rfl, Nat.le_of_ble_eq_true rfl⟩ ?_
          refine b_if_eq (tgt := 115) hx hb dX6_below_44 (by decide) (fun c6 => ?_) (fun c6 => ?_)
          ·
            have hpi : ¬ (plc KS KL n s A ≤ i ∧ i < plc KS KL n s A + cbl KS KL n s A) := fun z => c6 ((hbi i (by omega)).mpr z)
            refine lv_iinc (v := nI (i + 1)) (lv' := [(6, .int (nI (i + 1))), (0, .ref m0), (1, .int (nI 2)), (2, .int (nI c)), (3, .int (oI lw)), (4, .int (nI wv)), (5, .int (oI b))]) hx hb dX6_below_115 hl (k := 6) rfl (nI_add i 1) (by decide) rfl (fun ls hl => ?_)
            refine lv_goto (tgt := 25) hx hb dX6_below_118 (by decide) ?_
            exact ih25 (i + 1) c lw wv b _ _ ls (by omega) (by omega) (by omega) (by first | exact hlw | (exfalso; omega) | (rw [if_pos (by omega)]; rw [hlw]; rw [if_pos (by omega)]) | (rw [if_pos (by omega)]; omega)) (by first | exact hwv | exact sm_step hwv (by omega)) (by first | exact hb0 | (exfalso; omega) | (show _ = (if mwo KW (plc KS KL n s A) c = 0 ∨ KW (mwo KW (plc KS KL n s A) c - 1) < KW (plc KS KL n s A + c) then plc KS KL n s A + c + 1 else mwo KW (plc KS KL n s A) c); rw [← hb0, show plc KS KL n s A + c = i by omega]; first | rw [if_pos (by omega)] | rw [if_neg (by omega)])) hP hD hS (lv_sub hl [1, 2, 3, 4, 5, 6, 0] rfl)
          ·
            have hpi := (hbi i (by omega)).mp c6
            refine lv_iinc (v := nI (c + 1)) (lv' := [(2, .int (nI (c + 1))), (0, .ref m0), (1, .int (nI 2)), (3, .int (oI lw)), (4, .int (nI wv)), (5, .int (oI b)), (6, .int (nI i))]) hx hb dX6_below_47 hl (k := 2) rfl (nI_add c 1) (by decide) rfl (fun ls hl => ?_)
            refine lv_iload_n hx hb dX6_below_50 rfl (lv_at hl 3 rfl) ?_
            refine lv_iconst (v := oI 0) hx hb dX6_below_51 (by decide +kernel) ?_
            refine o_ne (tgt := 60) hx hb dX6_below_52 (by decide) (by rw [hlw]; split <;> omega) (fun c7 => ?_) (fun c7 => ?_)
            ·
              have e5 : 0 < c := by rcases Nat.eq_zero_or_pos c with z | z; rw [hlw, if_neg (by omega)] at c7; omega; exact z
              refine lv_iload_n hx hb dX6_below_60 rfl (lv_at hl 3 rfl) ?_
              refine lv_istore_n (lv' := [(3, .int (oI lw)), (2, .int (nI (c + 1))), (0, .ref m0), (1, .int (nI 2)), (4, .int (nI wv)), (5, .int (oI b)), (6, .int (nI i))]) hx hb dX6_below_61 rfl hl (by decide) rfl (fun ls hl => ?_)
              refine lv_iload hx hb dX6_below_62 (lv_at hl 4 rfl) ?_
              refine lv_aload_n hx hb dX6_below_64 rfl (lv_at hl 2 rfl) ?_
              refine va_get (D := D) (ci := 6) (v := .ref nw) (C := RX6) (T := TX6) (N := 20) hx hb hts inX6 hown hK hP 0 rfl rfl 0 (by decide) (hts _ mf_X6_7) (fun _ h9 => h9) rfl dX6_below_65 ?_
              refine lv_bipush (v := nI 25) hx hb dX6_below_68 (by decide +kernel) ?_
              refine lv_iload hx hb dX6_below_70 (lv_at hl 6 rfl) ?_
              refine n_iadd hx hb dX6_below_72 ?_
              refine n_iald hx hb hK hP 1 0 rfl rfl (k := (25 + i)) (by omega) (by decide) dX6_below_73 ?_
              refine tq (y := nI (KW i)) (congrArg nI ((hR.2 i (by omega)).2.1)) ?_
              refine n_iadd hx hb dX6_below_74 ?_
              refine lv_istore (lv' := [(4, .int (nI (wv + (KW i)))), (3, .int (oI lw)), (2, .int (nI (c + 1))), (0, .ref m0), (1, .int (nI 2)), (5, .int (oI b)), (6, .int (nI i))]) hx hb dX6_below_75 hl (by decide) rfl (fun ls hl => ?_)
              refine lv_iload hx hb dX6_below_77 (lv_at hl 5 rfl) ?_
              refine lv_iconst (v := oI 0) hx hb dX6_below_79 (by decide +kernel) ?_
              refine o_eq (tgt := 106) hx hb dX6_below_80 (by decide) (by omega) (fun c8 => ?_) (fun c8 => ?_)
              ·
                refine lv_iload hx hb dX6_below_106 (lv_at hl 6 rfl) ?_
                refine lv_goto (tgt := 113) hx hb dX6_below_108 (by decide) ?_
                refine tq (y := oI (i + 1)) (oI_s _).symm ?_
                refine lv_istore (lv' := [(5, .int (oI (i + 1))), (4, .int (nI (wv + (KW i)))), (3, .int (oI lw)), (2, .int (nI (c + 1))), (0, .ref m0), (1, .int (nI 2)), (6, .int (nI i))]) hx hb dX6_below_113 hl (by decide) rfl (fun ls hl => ?_)
                refine lv_iinc (v := nI (i + 1)) (lv' := [(6, .int (nI (i + 1))), (5, .int (oI (i + 1))), (4, .int (nI (wv + (KW i)))), (3, .int (oI lw)), (2, .int (nI (c + 1))), (0, .ref m0), (1, .int (nI 2))]) hx hb dX6_below_115 hl (k := 6) rfl (nI_add i 1) (by decide) rfl (fun ls hl => ?_)
                refine lv_goto (tgt := 25) hx hb dX6_below_118 (by decide) ?_
                exact ih25 (i + 1) (c + 1) lw (wv + (KW i)) (i + 1) _ _ ls (by omega) (by omega) (by omega) (by first | exact hlw | (exfalso; omega) | (rw [if_pos (by omega)]; rw [hlw]; rw [if_pos (by omega)]) | (rw [if_pos (by omega)]; omega)) (by first | exact hwv | exact sm_step hwv (by omega)) (by first | exact hb0 | (exfalso; omega) | (show _ = (if mwo KW (plc KS KL n s A) c = 0 ∨ KW (mwo KW (plc KS KL n s A) c - 1) < KW (plc KS KL n s A + c) then plc KS KL n s A + c + 1 else mwo KW (plc KS KL n s A) c); rw [← hb0, show plc KS KL n s A + c = i by omega]; first | rw [if_pos (by omega)] | rw [if_neg (by omega)])) hP hD hS (lv_sub hl [5, 6, 4, 3, 2, 1, 0] rfl)
              ·
                refine lv_aload_n hx hb dX6_below_83 rfl (lv_at hl 3 rfl) ?_
                refine va_get (D := D) (ci := 6) (v := .ref nw) (C := RX6) (T := TX6) (N := 20) hx hb hts inX6 hown hK hP 0 rfl rfl 0 (by decide) (hts _ mf_X6_7) (fun _ h9 => h9) rfl dX6_below_84 ?_
                refine lv_bipush (v := nI 25) hx hb dX6_below_87 (by decide +kernel) ?_
                refine lv_iload hx hb dX6_below_89 (lv_at hl 6 rfl) ?_
                refine n_iadd hx hb dX6_below_91 ?_
                refine n_iald hx hb hK hP 1 0 rfl rfl (k := (25 + i)) (by omega) (by decide) dX6_below_92 ?_
                refine tq (y := nI (KW i)) (congrArg nI ((hR.2 i (by omega)).2.1)) ?_
                refine lv_aload_n hx hb dX6_below_93 rfl (lv_at hl 3 rfl) ?_
                refine va_get (D := D) (ci := 6) (v := .ref nw) (C := RX6) (T := TX6) (N := 20) hx hb hts inX6 hown hK hP 0 rfl rfl 0 (by decide) (hts _ mf_X6_7) (fun _ h9 => h9) rfl dX6_below_94 ?_
                refine lv_bipush (v := nI 25) hx hb dX6_below_97 (by decide +kernel) ?_
                refine lv_iload hx hb dX6_below_99 (lv_at hl 5 rfl) ?_
                refine tq (y := (nI (b - 1))) (oI_p (by omega)) ?_
                refine n_iadd hx hb dX6_below_101 ?_
                refine n_iald hx hb hK hP 1 0 rfl rfl (k := (25 + (b - 1))) (by omega) (by decide) dX6_below_102 ?_
                refine tq (y := nI (KW (b - 1))) (congrArg nI ((hR.2 (b - 1) (by omega)).2.1)) ?_
                refine n_le (tgt := 111) hx hb dX6_below_103 (by decide) (by have := hv i (by omega); omega) (by have := hv (b - 1) (by omega); omega) (fun c9 => ?_) (fun c9 => ?_)
                ·
                  refine lv_iload hx hb dX6_below_111 (lv_at hl 5 rfl) ?_
                  refine lv_istore (lv' := [(5, .int (oI b)), (4, .int (nI (wv + (KW i)))), (3, .int (oI lw)), (2, .int (nI (c + 1))), (0, .ref m0), (1, .int (nI 2)), (6, .int (nI i))]) hx hb dX6_below_113 hl (by decide) rfl (fun ls hl => ?_)
                  refine lv_iinc (v := nI (i + 1)) (lv' := [(6, .int (nI (i + 1))), (5, .int (oI b)), (4, .int (nI (wv + (KW i)))), (3, .int (oI lw)), (2, .int (nI (c + 1))), (0, .ref m0), (1, .int (nI 2))]) hx hb dX6_below_115 hl (k := 6) rfl (nI_add i 1) (by decide) rfl (fun ls hl => ?_)
                  refine lv_goto (tgt := 25) hx hb dX6_below_118 (by decide) ?_
                  exact ih25 (i + 1) (c + 1) lw (wv + (KW i)) b _ _ ls (by omega) (by omega) (by omega) (by first | exact hlw | (exfalso; omega) | (rw [if_pos (by omega)]; rw [hlw]; rw [if_pos (by omega)]) | (rw [if_pos (by omega)]; omega)) (by first | exact hwv | exact sm_step hwv (by omega)) (by first | exact hb0 | (exfalso; omega) | (show _ = (if mwo KW (plc KS KL n s A) c = 0 ∨ KW (mwo KW (plc KS KL n s A) c - 1) < KW (plc KS KL n s A + c) then plc KS KL n s A + c + 1 else mwo KW (plc KS KL n s A) c); rw [← hb0, show plc KS KL n s A + c = i by omega]; first | rw [if_pos (by omega)] | rw [if_neg (by omega)])) hP hD hS (lv_sub hl [5, 6, 4, 3, 2, 1, 0] rfl)
                ·
                  refine lv_iload hx hb dX6_below_106 (lv_at hl 6 rfl) ?_
                  refine lv_goto (tgt := 113) hx hb dX6_below_108 (by decide) ?_
                  refine tq (y := oI (i + 1)) (oI_s _).symm ?_
                  refine lv_istore (lv' := [(5, .int (oI (i + 1))), (4, .int (nI (wv + (KW i)))), (3, .int (oI lw)), (2, .int (nI (c + 1))), (0, .ref m0), (1, .int (nI 2)), (6, .int (nI i))]) hx hb dX6_below_113 hl (by decide) rfl (fun ls hl => ?_)
                  refine lv_iinc (v := nI (i + 1)) (lv' := [(6, .int (nI (i + 1))), (5, .int (oI (i + 1))), (4, .int (nI (wv + (KW i)))), (3, .int (oI lw)), (2, .int (nI (c + 1))), (0, .ref m0), (1, .int (nI 2))]) hx hb dX6_below_115 hl (k := 6) rfl (nI_add i 1) (by decide) rfl (fun ls hl => ?_)
                  refine lv_goto (tgt := 25) hx hb dX6_below_118 (by decide) ?_
                  exact ih25 (i + 1) (c + 1) lw (wv + (KW i)) (i + 1) _ _ ls (by omega) (by omega) (by omega) (by first | exact hlw | (exfalso; omega) | (rw [if_pos (by omega)]; rw [hlw]; rw [if_pos (by omega)]) | (rw [if_pos (by omega)]; omega)) (by first | exact hwv | exact sm_step hwv (by omega)) (by first | exact hb0 | (exfalso; omega) | (show _ = (if mwo KW (plc KS KL n s A) c = 0 ∨ KW (mwo KW (plc KS KL n s A) c - 1) < KW (plc KS KL n s A + c) then plc KS KL n s A + c + 1 else mwo KW (plc KS KL n s A) c); rw [← hb0, show plc KS KL n s A + c = i by omega]; first | rw [if_pos (by omega)] | rw [if_neg (by omega)])) hP hD hS (lv_sub hl [5, 6, 4, 3, 2, 1, 0] rfl)
            ·
              have e5 : c = 0 := by rcases Nat.eq_zero_or_pos c with z | z; exact z; rw [hlw, if_pos z] at c7; omega
              refine lv_iload hx hb dX6_below_55 (lv_at hl 6 rfl) ?_
              refine lv_goto (tgt := 61) hx hb dX6_below_57 (by decide) ?_
              refine tq (y := oI (i + 1)) (oI_s _).symm ?_
              refine lv_istore_n (lv' := [(3, .int (oI (i + 1))), (2, .int (nI (c + 1))), (0, .ref m0), (1, .int (nI 2)), (4, .int (nI wv)), (5, .int (oI b)), (6, .int (nI i))]) hx hb dX6_below_61 rfl hl (by decide) rfl (fun ls hl => ?_)
              refine lv_iload hx hb dX6_below_62 (lv_at hl 4 rfl) ?_
              refine lv_aload_n hx hb dX6_below_64 rfl (lv_at hl 2 rfl) ?_
              refine va_get (D := D) (ci := 6) (v := .ref nw) (C := RX6) (T := TX6) (N := 20) hx hb hts inX6 hown hK hP 0 rfl rfl 0 (by decide) (hts _ mf_X6_7) (fun _ h9 => h9) rfl dX6_below_65 ?_
              refine lv_bipush (v := nI 25) hx hb dX6_below_68 (by decide +kernel) ?_
              refine lv_iload hx hb dX6_below_70 (lv_at hl 6 rfl) ?_
              refine n_iadd hx hb dX6_below_72 ?_
              refine n_iald hx hb hK hP 1 0 rfl rfl (k := (25 + i)) (by omega) (by decide) dX6_below_73 ?_
              refine tq (y := nI (KW i)) (congrArg nI ((hR.2 i (by omega)).2.1)) ?_
              refine n_iadd hx hb dX6_below_74 ?_
              refine lv_istore (lv' := [(4, .int (nI (wv + (KW i)))), (3, .int (oI (i + 1))), (2, .int (nI (c + 1))), (0, .ref m0), (1, .int (nI 2)), (5, .int (oI b)), (6, .int (nI i))]) hx hb dX6_below_75 hl (by decide) rfl (fun ls hl => ?_)
              refine lv_iload hx hb dX6_below_77 (lv_at hl 5 rfl) ?_
              refine lv_iconst (v := oI 0) hx hb dX6_below_79 (by decide +kernel) ?_
              refine o_eq (tgt := 106) hx hb dX6_below_80 (by decide) (by omega) (fun c10 => ?_) (fun c10 => ?_)
              ·
                refine lv_iload hx hb dX6_below_106 (lv_at hl 6 rfl) ?_
                refine lv_goto (tgt := 113) hx hb dX6_below_108 (by decide) ?_
                refine tq (y := oI (i + 1)) (oI_s _).symm ?_
                refine lv_istore (lv' := [(5, .int (oI (i + 1))), (4, .int (nI (wv + (KW i)))), (3, .int (oI (i + 1))), (2, .int (nI (c + 1))), (0, .ref m0), (1, .int (nI 2)), (6, .int (nI i))]) hx hb dX6_below_113 hl (by decide) rfl (fun ls hl => ?_)
                refine lv_iinc (v := nI (i + 1)) (lv' := [(6, .int (nI (i + 1))), (5, .int (oI (i + 1))), (4, .int (nI (wv + (KW i)))), (3, .int (oI (i + 1))), (2, .int (nI (c + 1))), (0, .ref m0), (1, .int (nI 2))]) hx hb dX6_below_115 hl (k := 6) rfl (nI_add i 1) (by decide) rfl (fun ls hl => ?_)
                refine lv_goto (tgt := 25) hx hb dX6_below_118 (by decide) ?_
                exact ih25 (i + 1) (c + 1) (i + 1) (wv + (KW i)) (i + 1) _ _ ls (by omega) (by omega) (by omega) (by first | exact hlw | (exfalso; omega) | (rw [if_pos (by omega)]; rw [hlw]; rw [if_pos (by omega)]) | (rw [if_pos (by omega)]; omega)) (by first | exact hwv | exact sm_step hwv (by omega)) (by first | exact hb0 | (exfalso; omega) | (show _ = (if mwo KW (plc KS KL n s A) c = 0 ∨ KW (mwo KW (plc KS KL n s A) c - 1) < KW (plc KS KL n s A + c) then plc KS KL n s A + c + 1 else mwo KW (plc KS KL n s A) c); rw [← hb0, show plc KS KL n s A + c = i by omega]; first | rw [if_pos (by omega)] | rw [if_neg (by omega)])) hP hD hS (lv_sub hl [5, 6, 4, 3, 2, 1, 0] rfl)
              ·
                refine lv_aload_n hx hb dX6_below_83 rfl (lv_at hl 3 rfl) ?_
                refine va_get (D := D) (ci := 6) (v := .ref nw) (C := RX6) (T := TX6) (N := 20) hx hb hts inX6 hown hK hP 0 rfl rfl 0 (by decide) (hts _ mf_X6_7) (fun _ h9 => h9) rfl dX6_below_84 ?_
                refine lv_bipush (v := nI 25) hx hb dX6_below_87 (by decide +kernel) ?_
                refine lv_iload hx hb dX6_below_89 (lv_at hl 6 rfl) ?_
                refine n_iadd hx hb dX6_below_91 ?_
                refine n_iald hx hb hK hP 1 0 rfl rfl (k := (25 + i)) (by omega) (by decide) dX6_below_92 ?_
                refine tq (y := nI (KW i)) (congrArg nI ((hR.2 i (by omega)).2.1)) ?_
                refine lv_aload_n hx hb dX6_below_93 rfl (lv_at hl 3 rfl) ?_
                refine va_get (D := D) (ci := 6) (v := .ref nw) (C := RX6) (T := TX6) (N := 20) hx hb hts inX6 hown hK hP 0 rfl rfl 0 (by decide) (hts _ mf_X6_7) (fun _ h9 => h9) rfl dX6_below_94 ?_
                refine lv_bipush (v := nI 25) hx hb dX6_below_97 (by decide +kernel) ?_
                refine lv_iload hx hb dX6_below_99 (lv_at hl 5 rfl) ?_
                refine tq (y := (nI (b - 1))) (oI_p (by omega)) ?_
                refine n_iadd hx hb dX6_below_101 ?_
                refine n_iald hx hb hK hP 1 0 rfl rfl (k := (25 + (b - 1))) (by omega) (by decide) dX6_below_102 ?_
                refine tq (y := nI (KW (b - 1))) (congrArg nI ((hR.2 (b - 1) (by omega)).2.1)) ?_
                refine n_le (tgt := 111) hx hb dX6_below_103 (by decide) (by have := hv i (by omega); omega) (by have := hv (b - 1) (by omega); omega) (fun c11 => ?_) (fun c11 => ?_)
                ·
                  refine lv_iload hx hb dX6_below_111 (lv_at hl 5 rfl) ?_
                  refine lv_istore (lv' := [(5, .int (oI b)), (4, .int (nI (wv + (KW i)))), (3, .int (oI (i + 1))), (2, .int (nI (c + 1))), (0, .ref m0), (1, .int (nI 2)), (6, .int (nI i))]) hx hb dX6_below_113 hl (by decide) rfl (fun ls hl => ?_)
                  refine lv_iinc (v := nI (i + 1)) (lv' := [(6, .int (nI (i + 1))), (5, .int (oI b)), (4, .int (nI (wv + (KW i)))), (3, .int (oI (i + 1))), (2, .int (nI (c + 1))), (0, .ref m0), (1, .int (nI 2))]) hx hb dX6_below_115 hl (k := 6) rfl (nI_add i 1) (by decide) rfl (fun ls hl => ?_)
                  refine lv_goto (tgt := 25) hx hb dX6_below_118 (by decide) ?_
                  exact ih25 (i + 1) (c + 1) (i + 1) (wv + (KW i)) b _ _ ls (by omega) (by omega) (by omega) (by first | exact hlw | (exfalso; omega) | (rw [if_pos (by omega)]; rw [hlw]; rw [if_pos (by omega)]) | (rw [if_pos (by omega)]; omega)) (by first | exact hwv | exact sm_step hwv (by omega)) (by first | exact hb0 | (exfalso; omega) | (show _ = (if mwo KW (plc KS KL n s A) c = 0 ∨ KW (mwo KW (plc KS KL n s A) c - 1) < KW (plc KS KL n s A + c) then plc KS KL n s A + c + 1 else mwo KW (plc KS KL n s A) c); rw [← hb0, show plc KS KL n s A + c = i by omega]; first | rw [if_pos (by omega)] | rw [if_neg (by omega)])) hP hD hS (lv_sub hl [5, 6, 4, 3, 2, 1, 0] rfl)
                ·
                  refine lv_iload hx hb dX6_below_106 (lv_at hl 6 rfl) ?_
                  refine lv_goto (tgt := 113) hx hb dX6_below_108 (by decide) ?_
                  refine tq (y := oI (i + 1)) (oI_s _).symm ?_
                  refine lv_istore (lv' := [(5, .int (oI (i + 1))), (4, .int (nI (wv + (KW i)))), (3, .int (oI (i + 1))), (2, .int (nI (c + 1))), (0, .ref m0), (1, .int (nI 2)), (6, .int (nI i))]) hx hb dX6_below_113 hl (by decide) rfl (fun ls hl => ?_)
                  refine lv_iinc (v := nI (i + 1)) (lv' := [(6, .int (nI (i + 1))), (5, .int (oI (i + 1))), (4, .int (nI (wv + (KW i)))), (3, .int (oI (i + 1))), (2, .int (nI (c + 1))), (0, .ref m0), (1, .int (nI 2))]) hx hb dX6_below_115 hl (k := 6) rfl (nI_add i 1) (by decide) rfl (fun ls hl => ?_)
                  refine lv_goto (tgt := 25) hx hb dX6_below_118 (by decide) ?_
                  exact ih25 (i + 1) (c + 1) (i + 1) (wv + (KW i)) (i + 1) _ _ ls (by omega) (by omega) (by omega) (by first | exact hlw | (exfalso; omega) | (rw [if_pos (by omega)]; rw [hlw]; rw [if_pos (by omega)]) | (rw [if_pos (by omega)]; omega)) (by first | exact hwv | exact sm_step hwv (by omega)) (by first | exact hb0 | (exfalso; omega) | (show _ = (if mwo KW (plc KS KL n s A) c = 0 ∨ KW (mwo KW (plc KS KL n s A) c - 1) < KW (plc KS KL n s A + c) then plc KS KL n s A + c + 1 else mwo KW (plc KS KL n s A) c); rw [← hb0, show plc KS KL n s A + c = i by omega]; first | rw [if_pos (by omega)] | rw [if_neg (by omega)])) hP hD hS (lv_sub hl [5, 6, 4, 3, 2, 1, 0] rfl)
    exact loop25 _ 0 0 0 0 0 _ _ ls (Nat.lt_succ_self _) (Nat.zero_le _) (by rw [Nat.zero_sub, Nat.zero_min]) (by rw [if_neg (Nat.lt_irrefl 0)]) rfl rfl hP hD hS (lv_sub hl [5, 6, 4, 3, 2, 1, 0] rfl)
  ·
    exact (c1 (by decide)).elim
set_option maxHeartbeats 4000000 in
set_option maxRecDepth 100000 in
theorem c_X6_below_3 (l : Launch) (D : va_G) (cI cJ cZ : ClassId) (m0 nw ps im mk wd so mb ma mf mw ml mu wt ty : Nat) (NW : Nat → Nat) (PS : Nat → Nat) (u : Nat) (IM : Nat → Nat) (MK : Nat → Nat) (sd : Nat) (WD : Nat → Nat) (s : Nat) (SO : Nat → Nat) (q : Nat) (EB : Nat → Nat) (EA : Nat → Nat) (EF : Nat → Nat) (EW : Nat → Nat) (EL : Nat → Nat) (EU : Nat → Nat) (br : Nat) (WT : Nat → Nat) (ww : Nat) (TY : Nat → Nat) (KS KL KW : Nat → Nat) (n A : Nat) (hn : n ≤ 24) (hk : ∀ k, k < n → Wf (KS k) (KL k)) (hw0 : Wf s A) (hR : RN NW KS KL KW n) (hRW : RW WD s A) (hso : Srt KS KL n) (BB BD BM BL BF BA BK : Nat → Nat) (hTr : TrX (gapF KS KL) n BB BD BM BL BF BA BK) (hv : ∀ k, k < n → KW k ≤ 9999)  (sz : Nat) : WR l yX6_below cX6_below 7 (some .int) (rmN 2 46) D (ty3 cI cJ cZ) [.ref m0, .int (nI 3)] [(m0, .inr (6, [.ref nw, .ref ps, .int (nI u), .ref im, .ref mk, .int (nI sd), .ref wd, .int (nI s), .ref so, .int (nI q), .ref mb, .ref ma, .ref mf, .ref mw, .ref ml, .ref mu, .int (nI br), .ref wt, .int (nI ww), .ref ty])), (nw, .inl (cI, 241, .inl (nF NW))), (ps, .inl (cI, 4820, .inl (nF PS))), (im, .inl (cI, 484, .inl (nF IM))), (mk, .inl (cZ, 2, .inl (nF MK))), (wd, .inl (cI, 8, .inl (nF WD))), (so, .inl (cI, 24, .inl (nF SO))), (mb, .inl (cI, 24, .inl (nF EB))), (ma, .inl (cI, 24, .inl (nF EA))), (mf, .inl (cI, 24, .inl (nF EF))), (mw, .inl (cI, 24, .inl (nF EW))), (ml, .inl (cI, 24, .inl (nF EL))), (mu, .inl (cI, 24, .inl (oF EU))), (wt, .inl (cI, 200, .inl (oF WT))), (ty, .inl (cI, 8, .inl (nF TY)))] sz (fun x w => x = some (.int (oI (mwo KW (plc KS KL n s A) (cbl KS KL n s A)))) ∧ ∃ (SO : Nat → Nat) (q : Nat) (EB EA EF EW EL EU : Nat → Nat) (br : Nat) (WT : Nat → Nat) (ww : Nat), w = [(m0, .inr (6, [.ref nw, .ref ps, .int (nI u), .ref im, .ref mk, .int (nI sd), .ref wd, .int (nI s), .ref so, .int (nI q), .ref mb, .ref ma, .ref mf, .ref mw, .ref ml, .ref mu, .int (nI br), .ref wt, .int (nI ww), .ref ty])), (nw, .inl (cI, 241, .inl (nF NW))), (ps, .inl (cI, 4820, .inl (nF PS))), (im, .inl (cI, 484, .inl (nF IM))), (mk, .inl (cZ, 2, .inl (nF MK))), (wd, .inl (cI, 8, .inl (nF WD))), (so, .inl (cI, 24, .inl (nF SO))), (mb, .inl (cI, 24, .inl (nF EB))), (ma, .inl (cI, 24, .inl (nF EA))), (mf, .inl (cI, 24, .inl (nF EF))), (mw, .inl (cI, 24, .inl (nF EW))), (ml, .inl (cI, 24, .inl (nF EL))), (mu, .inl (cI, 24, .inl (oF EU))), (wt, .inl (cI, 200, .inl (oF WT))), (ty, .inl (cI, 8, .inl (nF TY)))]) := by
  have hs8 := hw0.1
  have hA64 := hw0.2.1
  have hN0 := hR.1
  have hBK := tf_BK hTr hn
  have hDK := tf_DK hTr hn
  have hp := plc_le KS KL n s A
  have hcb := cbl_le KS KL n s A
  have hfl := fnd_le KS KL n s A
  have hbi : ∀ y, y < n → (9 * s ≤ unl (KS y) (KL y) s A ↔ plc KS KL n s A ≤ y ∧ y < plc KS KL n s A + cbl KS KL n s A) := fun y hy => bel_iff hk hw0 hso hy
  refine wr_start (by decide) (Nat.le_of_ble_eq_true rfl) ?_
  intro pp ee ss mm below meth cd AA C0 hAA hP hK hD hS hN hnm ls hl
  obtain ⟨hx, hb, hr, hml, hown, hts, hlk⟩ := C0
  have hown : ss.vm.findClass RX6 = some mm.cls := hown
  have hl : lv_has ls 7 [(0, .ref m0), (1, .int (nI 3))] := hl
  have hP : va_P D vwCl [(m0, .inr (6, [.ref nw, .ref ps, .int (nI u), .ref im, .ref mk, .int (nI sd), .ref wd, .int (nI s), .ref so, .int (nI q), .ref mb, .ref ma, .ref mf, .ref mw, .ref ml, .ref mu, .int (nI br), .ref wt, .int (nI ww), .ref ty])), (nw, .inl (cI, 241, .inl (nF NW))), (ps, .inl (cI, 4820, .inl (nF PS))), (im, .inl (cI, 484, .inl (nF IM))), (mk, .inl (cZ, 2, .inl (nF MK))), (wd, .inl (cI, 8, .inl (nF WD))), (so, .inl (cI, 24, .inl (nF SO))), (mb, .inl (cI, 24, .inl (nF EB))), (ma, .inl (cI, 24, .inl (nF EA))), (mf, .inl (cI, 24, .inl (nF EF))), (mw, .inl (cI, 24, .inl (nF EW))), (ml, .inl (cI, 24, .inl (nF EL))), (mu, .inl (cI, 24, .inl (oF EU))), (wt, .inl (cI, 200, .inl (oF WT))), (ty, .inl (cI, 8, .inl (nF TY)))] ss.heap := hP
  refine lv_iload_n hx hb dX6_below_0 rfl (lv_at hl 1 rfl) ?_
  refine lv_iconst (v := nI 0) hx hb dX6_below_1 (by decide +kernel) ?_
  refine lv_iconst (v := nI 3) hx hb dX6_below_2 (by decide +kernel) ?_
  refine ro_S (As := [.int (nI 3), .int (nI 0), .int (nI 3)]) (rest := []) ⟨hx, hb, hml, hown, hts⟩ (c_X6_in l D cI cJ cZ 3 0 3 (by omega) (by omega) (by omega)) (k_X6_79 hts ⟨Nat.le_of_ble_eq_true rfl, Nat.le_of_ble_eq_true rfl⟩) hK hP [] rfl rfl hl.1 rfl (Nat.le_of_ble_eq_true rfl) dX6_below_3 ⟨Nat.le_of_ble_eq_true rfl, Nat.le_of_ble_eq_true rfl⟩ ?_
  refine b_if_ne (tgt := 12) hx hb dX6_below_6 (by decide) (fun c1 => ?_) (fun c1 => ?_)
  ·
    refine lv_iconst (v := nI 0) hx hb dX6_below_12 (by decide +kernel) ?_
    refine lv_istore_n (lv' := [(2, .int (nI 0)), (0, .ref m0), (1, .int (nI 3))]) hx hb dX6_below_13 rfl hl (by decide) rfl (fun ls hl => ?_)
    refine lv_iconst (v := oI 0) hx hb dX6_below_14 (by decide +kernel) ?_
    refine lv_istore_n (lv' := [(3, .int (oI 0)), (2, .int (nI 0)), (0, .ref m0), (1, .int (nI 3))]) hx hb dX6_below_15 rfl hl (by decide) rfl (fun ls hl => ?_)
    refine lv_iconst (v := nI 0) hx hb dX6_below_16 (by decide +kernel) ?_
    refine lv_istore (lv' := [(4, .int (nI 0)), (3, .int (oI 0)), (2, .int (nI 0)), (0, .ref m0), (1, .int (nI 3))]) hx hb dX6_below_17 hl (by decide) rfl (fun ls hl => ?_)
    refine lv_iconst (v := oI 0) hx hb dX6_below_19 (by decide +kernel) ?_
    refine lv_istore (lv' := [(5, .int (oI 0)), (4, .int (nI 0)), (3, .int (oI 0)), (2, .int (nI 0)), (0, .ref m0), (1, .int (nI 3))]) hx hb dX6_below_20 hl (by decide) rfl (fun ls hl => ?_)
    refine lv_iconst (v := nI 0) hx hb dX6_below_22 (by decide +kernel) ?_
    refine lv_istore (lv' := [(6, .int (nI 0)), (5, .int (oI 0)), (4, .int (nI 0)), (3, .int (oI 0)), (2, .int (nI 0)), (0, .ref m0), (1, .int (nI 3))]) hx hb dX6_below_23 hl (by decide) rfl (fun ls hl => ?_)
    have loop25 : ∀ (d : Nat) (i : Nat) (c : Nat) (lw : Nat) (wv : Nat) (b : Nat) (H : Heap) (locs : List Loc) (ls : Array Slot), n - i < d → (i ≤ n) → (c = min (i - plc KS KL n s A) (cbl KS KL n s A)) → (lw = if 0 < c then plc KS KL n s A + 1 else 0) → (wv = fb_sm (fun y => KW (plc KS KL n s A + y)) c) → (b = mwo KW (plc KS KL n s A) c) → va_P D vwCl [(m0, .inr (6, [.ref nw, .ref ps, .int (nI u), .ref im, .ref mk, .int (nI sd), .ref wd, .int (nI s), .ref so, .int (nI q), .ref mb, .ref ma, .ref mf, .ref mw, .ref ml, .ref mu, .int (nI br), .ref wt, .int (nI ww), .ref ty])), (nw, .inl (cI, 241, .inl (nF NW))), (ps, .inl (cI, 4820, .inl (nF PS))), (im, .inl (cI, 484, .inl (nF IM))), (mk, .inl (cZ, 2, .inl (nF MK))), (wd, .inl (cI, 8, .inl (nF WD))), (so, .inl (cI, 24, .inl (nF SO))), (mb, .inl (cI, 24, .inl (nF EB))), (ma, .inl (cI, 24, .inl (nF EA))), (mf, .inl (cI, 24, .inl (nF EF))), (mw, .inl (cI, 24, .inl (nF EW))), (ml, .inl (cI, 24, .inl (nF EL))), (mu, .inl (cI, 24, .inl (oF EU))), (wt, .inl (cI, 200, .inl (oF WT))), (ty, .inl (cI, 8, .inl (nF TY)))] H → va_D AA [(m0, .inr (6, [.ref nw, .ref ps, .int (nI u), .ref im, .ref mk, .int (nI sd), .ref wd, .int (nI s), .ref so, .int (nI q), .ref mb, .ref ma, .ref mf, .ref mw, .ref ml, .ref mu, .int (nI br), .ref wt, .int (nI ww), .ref ty])), (nw, .inl (cI, 241, .inl (nF NW))), (ps, .inl (cI, 4820, .inl (nF PS))), (im, .inl (cI, 484, .inl (nF IM))), (mk, .inl (cZ, 2, .inl (nF MK))), (wd, .inl (cI, 8, .inl (nF WD))), (so, .inl (cI, 24, .inl (nF SO))), (mb, .inl (cI, 24, .inl (nF EB))), (ma, .inl (cI, 24, .inl (nF EA))), (mf, .inl (cI, 24, .inl (nF EF))), (mw, .inl (cI, 24, .inl (nF EW))), (ml, .inl (cI, 24, .inl (nF EL))), (mu, .inl (cI, 24, .inl (oF EU))), (wt, .inl (cI, 200, .inl (oF WT))), (ty, .inl (cI, 8, .inl (nF TY)))] → va_S AA ss.heap H locs → lv_has ls 7 [(0, .ref m0), (1, .int (nI 3)), (2, .int (nI c)), (3, .int (oI lw)), (4, .int (nI wv)), (5, .int (oI b)), (6, .int (nI i))] → W pp l ee (rmN 2 46) ss mm [.ref m0, .int (nI 3)].toArray below meth cd H locs 0 0 (MQ below (QW D AA (fun x w => x = some (.int (oI (mwo KW (plc KS KL n s A) (cbl KS KL n s A)))) ∧ ∃ (SO : Nat → Nat) (q : Nat) (EB EA EF EW EL EU : Nat → Nat) (br : Nat) (WT : Nat → Nat) (ww : Nat), w = [(m0, .inr (6, [.ref nw, .ref ps, .int (nI u), .ref im, .ref mk, .int (nI sd), .ref wd, .int (nI s), .ref so, .int (nI q), .ref mb, .ref ma, .ref mf, .ref mw, .ref ml, .ref mu, .int (nI br), .ref wt, .int (nI ww), .ref ty])), (nw, .inl (cI, 241, .inl (nF NW))), (ps, .inl (cI, 4820, .inl (nF PS))), (im, .inl (cI, 484, .inl (nF IM))), (mk, .inl (cZ, 2, .inl (nF MK))), (wd, .inl (cI, 8, .inl (nF WD))), (so, .inl (cI, 24, .inl (nF SO))), (mb, .inl (cI, 24, .inl (nF EB))), (ma, .inl (cI, 24, .inl (nF EA))), (mf, .inl (cI, 24, .inl (nF EF))), (mw, .inl (cI, 24, .inl (nF EW))), (ml, .inl (cI, 24, .inl (nF EL))), (mu, .inl (cI, 24, .inl (oF EU))), (wt, .inl (cI, 200, .inl (oF WT))), (ty, .inl (cI, 8, .inl (nF TY)))])) [.ref m0, .int (nI 3)].toArray ss 0 0 AA) (F0 mm 25 ls []) := by
      intro d
      induction d with
      | zero => intro i c lw wv b H locs ls h; exact absurd h (Nat.not_lt_zero _)
      | succ d ih25 =>
        intro i c lw wv b H locs ls hd25 hi hc hlw hwv hb0 hP hD hS hl
        have hb1 := mwo_le KW (plc KS KL n s A) c
        have hcn : c ≤ n := by omega
        refine lv_iload hx hb dX6_below_25 (lv_at hl 6 rfl) ?_
        refine lv_aload_n hx hb dX6_below_27 rfl (lv_at hl 0 rfl) ?_
        refine va_get (D := D) (ci := 6) (v := .ref nw) (C := RX6) (T := TX6) (N := 20) hx hb hts inX6 hown hK hP 0 rfl rfl 0 (by decide) (hts _ mf_X6_7) (fun _ h9 => h9) rfl dX6_below_28 ?_
        refine lv_iconst (v := nI 0) hx hb dX6_below_31 (by decide +kernel) ?_
        refine n_iald hx hb hK hP 1 0 rfl rfl (k := 0) (by omega) (by decide) dX6_below_32 ?_
        refine tq (y := nI n) (congrArg nI (hN0)) ?_
        refine n_ge (tgt := 121) hx hb dX6_below_33 (by decide) (by omega) (by omega) (fun c2 => ?_) (fun c2 => ?_)
        ·
          refine lv_iload_n hx hb dX6_below_121 rfl (lv_at hl 1 rfl) ?_
          refine n_if_ne (tgt := 129) hx hb dX6_below_122 (by decide) (by decide) (fun _ => ?_) (fun h9 => absurd h9 (by decide))
          refine lv_iload_n hx hb dX6_below_129 rfl (lv_at hl 1 rfl) ?_
          refine lv_iconst (v := nI 1) hx hb dX6_below_130 (by decide +kernel) ?_
          refine n_ne (tgt := 138) hx hb dX6_below_131 (by decide) (by decide) (by decide) (fun _ => ?_) (fun h9 => absurd h9 (by decide))
          refine lv_iload_n hx hb dX6_below_138 rfl (lv_at hl 1 rfl) ?_
          refine lv_iconst (v := nI 2) hx hb dX6_below_139 (by decide +kernel) ?_
          refine n_ne (tgt := 148) hx hb dX6_below_140 (by decide) (by decide) (by decide) (fun _ => ?_) (fun h9 => absurd h9 (by decide))
          refine lv_iload hx hb dX6_below_148 (lv_at hl 5 rfl) ?_
          refine tq (y := (oI (mwo KW (plc KS KL n s A) (cbl KS KL n s A)))) (by rw [hb0, hc, show i = n by omega, Nat.min_eq_right (by omega)]) ?_
          exact wr_iret hx hb hr hlk hP hD hS dX6_below_150 (⟨rfl, SO, q, EB, EA, EF, EW, EL, EU, br, WT, ww, rfl⟩)
        ·
          refine lv_aload_n hx hb dX6_below_36 rfl (lv_at hl 0 rfl) ?_
          refine lv_iload hx hb dX6_below_37 (lv_at hl 6 rfl) ?_
          refine lv_bipush (v := nI 24) hx hb dX6_below_39 (by decide +kernel) ?_
          refine ro_V (As := [.int (nI i), .int (nI 24)]) (rest := []) ⟨hx, hb, hml, hown, hts⟩ (c_X6_begins l D cI cJ cZ m0 nw ps im mk wd so mb ma mf mw ml mu wt ty NW PS u IM MK sd WD s SO q EB EA EF EW EL EU br WT ww TY KS KL KW n A hn hk hw0 hR hRW i ((KS i)) ((KL i)) (Or.inr ⟨by omega, rfl, rfl⟩) 24 s A (Or.inl ⟨rfl, rfl, rfl⟩)) (k_X6_149 hts ⟨Nat.le_of_ble_eq_true rfl, Nat.le_of_ble_eq_true rfl⟩) hK hP 0 rfl rfl rfl [0, 1, 2, 3, 4, 5, 6, 7, 8, 9, 10, 11, 12, 13, 14] rfl rfl hl.1 rfl (Nat.le_of_ble_eq_true rfl) dX6_below_41 ⟨Nat.le_of_ble_eq_true rfl, Nat.le_of_ble_eq_true rfl⟩ ?_
          refine b_if_eq (tgt := 115) hx hb dX6_below_44 (by decide) (fun c6 => ?_) (fun c6 => ?_)
          ·
            have hpi : ¬ (plc KS KL n s A ≤ i ∧ i < plc KS KL n s A + cbl KS KL n s A) := fun z => c6 ((hbi i (by omega)).mpr z)
            refine lv_iinc (v := nI (i + 1)) (lv' := [(6, .int (nI (i + 1))), (0, .ref m0), (1, .int (nI 3)), (2, .int (nI c)), (3, .int (oI lw)), (4, .int (nI wv)), (5, .int (oI b))]) hx hb dX6_below_115 hl (k := 6) rfl (nI_add i 1) (by decide) rfl (fun ls hl => ?_)
            refine lv_goto (tgt := 25) hx hb dX6_below_118 (by decide) ?_
            exact ih25 (i + 1) c lw wv b _ _ ls (by omega) (by omega) (by omega) (by first | exact hlw | (exfalso; omega) | (rw [if_pos (by omega)]; rw [hlw]; rw [if_pos (by omega)]) | (rw [if_pos (by omega)]; omega)) (by first | exact hwv | exact sm_step hwv (by omega)) (by first | exact hb0 | (exfalso; omega) | (show _ = (if mwo KW (plc KS KL n s A) c = 0 ∨ KW (mwo KW (plc KS KL n s A) c - 1) < KW (plc KS KL n s A + c) then plc KS KL n s A + c + 1 else mwo KW (plc KS KL n s A) c); rw [← hb0, show plc KS KL n s A + c = i by omega]; first | rw [if_pos (by omega)] | rw [if_neg (by omega)])) hP hD hS (lv_sub hl [1, 2, 3, 4, 5, 6, 0] rfl)
          ·
            have hpi := (hbi i (by omega)).mp c6
            refine lv_iinc (v := nI (c + 1)) (lv' := [(2, .int (nI (c + 1))), (0, .ref m0), (1, .int (nI 3)), (3, .int (oI lw)), (4, .int (nI wv)), (5, .int (oI b)), (6, .int (nI i))]) hx hb dX6_below_47 hl (k := 2) rfl (nI_add c 1) (by decide) rfl (fun ls hl => ?_)
            refine lv_iload_n hx hb dX6_below_50 rfl (lv_at hl 3 rfl) ?_
            refine lv_iconst (v := oI 0) hx hb dX6_below_51 (by decide +kernel) ?_
            refine o_ne (tgt := 60) hx hb dX6_below_52 (by decide) (by rw [hlw]; split <;> omega) (fun c7 => ?_) (fun c7 => ?_)
            ·
              have e5 : 0 < c := by rcases Nat.eq_zero_or_pos c with z | z; rw [hlw, if_neg (by omega)] at c7; omega; exact z
              refine lv_iload_n hx hb dX6_below_60 rfl (lv_at hl 3 rfl) ?_
              refine lv_istore_n (lv' := [(3, .int (oI lw)), (2, .int (nI (c + 1))), (0, .ref m0), (1, .int (nI 3)), (4, .int (nI wv)), (5, .int (oI b)), (6, .int (nI i))]) hx hb dX6_below_61 rfl hl (by decide) rfl (fun ls hl => ?_)
              refine lv_iload hx hb dX6_below_62 (lv_at hl 4 rfl) ?_
              refine lv_aload_n hx hb dX6_below_64 rfl (lv_at hl 2 rfl) ?_
              refine va_get (D := D) (ci := 6) (v := .ref nw) (C := RX6) (T := TX6) (N := 20) hx hb hts inX6 hown hK hP 0 rfl rfl 0 (by decide) (hts _ mf_X6_7) (fun _ h9 => h9) rfl dX6_below_65 ?_
              refine lv_bipush (v := nI 25) hx hb dX6_below_68 (by decide +kernel) ?_
              refine lv_iload hx hb dX6_below_70 (lv_at hl 6 rfl) ?_
              refine n_iadd hx hb dX6_below_72 ?_
              refine n_iald hx hb hK hP 1 0 rfl rfl (k := (25 + i)) (by omega) (by decide) dX6_below_73 ?_
              refine tq (y := nI (KW i)) (congrArg nI ((hR.2 i (by omega)).2.1)) ?_
              refine n_iadd hx hb dX6_below_74 ?_
              refine lv_istore (lv' := [(4, .int (nI (wv + (KW i)))), (3, .int (oI lw)), (2, .int (nI (c + 1))), (0, .ref m0), (1, .int (nI 3)), (5, .int (oI b)), (6, .int (nI i))]) hx hb dX6_below_75 hl (by decide) rfl (fun ls hl => ?_)
              refine lv_iload hx hb dX6_below_77 (lv_at hl 5 rfl) ?_
              refine lv_iconst (v := oI 0) hx hb dX6_below_79 (by decide +kernel) ?_
              refine o_eq (tgt := 106) hx hb dX6_below_80 (by decide) (by omega) (fun c8 => ?_) (fun c8 => ?_)
              ·
                refine lv_iload hx hb dX6_below_106 (lv_at hl 6 rfl) ?_
                refine lv_goto (tgt := 113) hx hb dX6_below_108 (by decide) ?_
                refine tq (y := oI (i + 1)) (oI_s _).symm ?_
                refine lv_istore (lv' := [(5, .int (oI (i + 1))), (4, .int (nI (wv + (KW i)))), (3, .int (oI lw)), (2, .int (nI (c + 1))), (0, .ref m0), (1, .int (nI 3)), (6, .int (nI i))]) hx hb dX6_below_113 hl (by decide) rfl (fun ls hl => ?_)
                refine lv_iinc (v := nI (i + 1)) (lv' := [(6, .int (nI (i + 1))), (5, .int (oI (i + 1))), (4, .int (nI (wv + (KW i)))), (3, .int (oI lw)), (2, .int (nI (c + 1))), (0, .ref m0), (1, .int (nI 3))]) hx hb dX6_below_115 hl (k := 6) rfl (nI_add i 1) (by decide) rfl (fun ls hl => ?_)
                refine lv_goto (tgt := 25) hx hb dX6_below_118 (by decide) ?_
                exact ih25 (i + 1) (c + 1) lw (wv + (KW i)) (i + 1) _ _ ls (by omega) (by omega) (by omega) (by first | exact hlw | (exfalso; omega) | (rw [if_pos (by omega)]; rw [hlw]; rw [if_pos (by omega)]) | (rw [if_pos (by omega)]; omega)) (by first | exact hwv | exact sm_step hwv (by omega)) (by first | exact hb0 | (exfalso; omega) | (show _ = (if mwo KW (plc KS KL n s A) c = 0 ∨ KW (mwo KW (plc KS KL n s A) c - 1) < KW (plc KS KL n s A + c) then plc KS KL n s A + c + 1 else mwo KW (plc KS KL n s A) c); rw [← hb0, show plc KS KL n s A + c = i by omega]; first | rw [if_pos (by omega)] | rw [if_neg (by omega)])) hP hD hS (lv_sub hl [5, 6, 4, 3, 2, 1, 0] rfl)
              ·
                refine lv_aload_n hx hb dX6_below_83 rfl (lv_at hl 3 rfl) ?_
                refine va_get (D := D) (ci := 6) (v := .ref nw) (C := RX6) (T := TX6) (N := 20) hx hb hts inX6 hown hK hP 0 rfl rfl 0 (by decide) (hts _ mf_X6_7) (fun _ h9 => h9) rfl dX6_below_84 ?_
                refine lv_bipush (v := nI 25) hx hb dX6_below_87 (by decide +kernel) ?_
                refine lv_iload hx hb dX6_below_89 (lv_at hl 6 rfl) ?_
                refine n_iadd hx hb dX6_below_91 ?_
                refine n_iald hx hb hK hP 1 0 rfl rfl (k := (25 + i)) (by omega) (by decide) dX6_below_92 ?_
                refine tq (y := nI (KW i)) (congrArg nI ((hR.2 i (by omega)).2.1)) ?_
                refine lv_aload_n hx hb dX6_below_93 rfl (lv_at hl 3 rfl) ?_
                refine va_get (D := D) (ci := 6) (v := .ref nw) (C := RX6) (T := TX6) (N := 20) hx hb hts inX6 hown hK hP 0 rfl rfl 0 (by decide) (hts _ mf_X6_7) (fun _ h9 => h9) rfl dX6_below_94 ?_
                refine lv_bipush (v := nI 25) hx hb dX6_below_97 (by decide +kernel) ?_
                refine lv_iload hx hb dX6_below_99 (lv_at hl 5 rfl) ?_
                refine tq (y := (nI (b - 1))) (oI_p (by omega)) ?_
                refine n_iadd hx hb dX6_below_101 ?_
                refine n_iald hx hb hK hP 1 0 rfl rfl (k := (25 + (b - 1))) (by omega) (by decide) dX6_below_102 ?_
                refine tq (y := nI (KW (b - 1))) (congrArg nI ((hR.2 (b - 1) (by omega)).2.1)) ?_
                refine n_le (tgt := 111) hx hb dX6_below_103 (by decide) (by have := hv i (by omega); omega) (by have := hv (b - 1) (by omega); omega) (fun c9 => ?_) (fun c9 => ?_)
                ·
                  refine lv_iload hx hb dX6_below_111 (lv_at hl 5 rfl) ?_
                  refine lv_istore (lv' := [(5, .int (oI b)), (4, .int (nI (wv + (KW i)))), (3, .int (oI lw)), (2, .int (nI (c + 1))), (0, .ref m0), (1, .int (nI 3)), (6, .int (nI i))]) hx hb dX6_below_113 hl (by decide) rfl (fun ls hl => ?_)
                  refine lv_iinc (v := nI (i + 1)) (lv' := [(6, .int (nI (i + 1))), (5, .int (oI b)), (4, .int (nI (wv + (KW i)))), (3, .int (oI lw)), (2, .int (nI (c + 1))), (0, .ref m0), (1, .int (nI 3))]) hx hb dX6_below_115 hl (k := 6) rfl (nI_add i 1) (by decide) rfl (fun ls hl => ?_)
                  refine lv_goto (tgt := 25) hx hb dX6_below_118 (by decide) ?_
                  exact ih25 (i + 1) (c + 1) lw (wv + (KW i)) b _ _ ls (by omega) (by omega) (by omega) (by first | exact hlw | (exfalso; omega) | (rw [if_pos (by omega)]; rw [hlw]; rw [if_pos (by omega)]) | (rw [if_pos (by omega)]; omega)) (by first | exact hwv | exact sm_step hwv (by omega)) (by first | exact hb0 | (exfalso; omega) | (show _ = (if mwo KW (plc KS KL n s A) c = 0 ∨ KW (mwo KW (plc KS KL n s A) c - 1) < KW (plc KS KL n s A + c) then plc KS KL n s A + c + 1 else mwo KW (plc KS KL n s A) c); rw [← hb0, show plc KS KL n s A + c = i by omega]; first | rw [if_pos (by omega)] | rw [if_neg (by omega)])) hP hD hS (lv_sub hl [5, 6, 4, 3, 2, 1, 0] rfl)
                ·
                  refine lv_iload hx hb dX6_below_106 (lv_at hl 6 rfl) ?_
                  refine lv_goto (tgt := 113) hx hb dX6_below_108 (by decide) ?_
                  refine tq (y := oI (i + 1)) (oI_s _).symm ?_
                  refine lv_istore (lv' := [(5, .int (oI (i + 1))), (4, .int (nI (wv + (KW i)))), (3, .int (oI lw)), (2, .int (nI (c + 1))), (0, .ref m0), (1, .int (nI 3)), (6, .int (nI i))]) hx hb dX6_below_113 hl (by decide) rfl (fun ls hl => ?_)
                  refine lv_iinc (v := nI (i + 1)) (lv' := [(6, .int (nI (i + 1))), (5, .int (oI (i + 1))), (4, .int (nI (wv + (KW i)))), (3, .int (oI lw)), (2, .int (nI (c + 1))), (0, .ref m0), (1, .int (nI 3))]) hx hb dX6_below_115 hl (k := 6) rfl (nI_add i 1) (by decide) rfl (fun ls hl => ?_)
                  refine lv_goto (tgt := 25) hx hb dX6_below_118 (by decide) ?_
                  exact ih25 (i + 1) (c + 1) lw (wv + (KW i)) (i + 1) _ _ ls (by omega) (by omega) (by omega) (by first | exact hlw | (exfalso; omega) | (rw [if_pos (by omega)]; rw [hlw]; rw [if_pos (by omega)]) | (rw [if_pos (by omega)]; omega)) (by first | exact hwv | exact sm_step hwv (by omega)) (by first | exact hb0 | (exfalso; omega) | (show _ = (if mwo KW (plc KS KL n s A) c = 0 ∨ KW (mwo KW (plc KS KL n s A) c - 1) < KW (plc KS KL n s A + c) then plc KS KL n s A + c + 1 else mwo KW (plc KS KL n s A) c); rw [← hb0, show plc KS KL n s A + c = i by omega]; first | rw [if_pos (by omega)] | rw [if_neg (by omega)])) hP hD hS (lv_sub hl [5, 6, 4, 3, 2, 1, 0] rfl)
            ·
              have e5 : c = 0 := by rcases Nat.eq_zero_or_pos c with z | z; exact z; rw [hlw, if_pos z] at c7; omega
              refine lv_iload hx hb dX6_below_55 (lv_at hl 6 rfl) ?_
              refine lv_goto (tgt := 61) hx hb dX6_below_57 (by decide) ?_
              refine tq (y := oI (i + 1)) (oI_s _).symm ?_
              refine lv_istore_n (lv' := [(3, .int (oI (i + 1))), (2, .int (nI (c + 1))), (0, .ref m0), (1, .int (nI 3)), (4, .int (nI wv)), (5, .int (oI b)), (6, .int (nI i))]) hx hb dX6_below_61 rfl hl (by decide) rfl (fun ls hl => ?_)
              refine lv_iload hx hb dX6_below_62 (lv_at hl 4 rfl) ?_
              refine lv_aload_n hx hb dX6_below_64 rfl (lv_at hl 2 rfl) ?_
              refine va_get (D := D) (ci := 6) (v := .ref nw) (C := RX6) (T := TX6) (N := 20) hx hb hts inX6 hown hK hP 0 rfl rfl 0 (by decide) (hts _ mf_X6_7) (fun _ h9 => h9) rfl dX6_below_65 ?_
              refine lv_bipush (v := nI 25) hx hb dX6_below_68 (by decide +kernel) ?_
              refine lv_iload hx hb dX6_below_70 (lv_at hl 6 rfl) ?_
              refine n_iadd hx hb dX6_below_72 ?_
              refine n_iald hx hb hK hP 1 0 rfl rfl (k := (25 + i)) (by omega) (by decide) dX6_below_73 ?_
              refine tq (y := nI (KW i)) (congrArg nI ((hR.2 i (by omega)).2.1)) ?_
              refine n_iadd hx hb dX6_below_74 ?_
              refine lv_istore (lv' := [(4, .int (nI (wv + (KW i)))), (3, .int (oI (i + 1))), (2, .int (nI (c + 1))), (0, .ref m0), (1, .int (nI 3)), (5, .int (oI b)), (6, .int (nI i))]) hx hb dX6_below_75 hl (by decide) rfl (fun ls hl => ?_)
              refine lv_iload hx hb dX6_below_77 (lv_at hl 5 rfl) ?_
              refine lv_iconst (v := oI 0) hx hb dX6_below_79 (by decide +kernel) ?_
              refine o_eq (tgt := 106) hx hb dX6_below_80 (by decide) (by omega) (fun c10 => ?_) (fun c10 => ?_)
              ·
                refine lv_iload hx hb dX6_below_106 (lv_at hl 6 rfl) ?_
                refine lv_goto (tgt := 113) hx hb dX6_below_108 (by decide) ?_
                refine tq (y := oI (i + 1)) (oI_s _).symm ?_
                refine lv_istore (lv' := [(5, .int (oI (i + 1))), (4, .int (nI (wv + (KW i)))), (3, .int (oI (i + 1))), (2, .int (nI (c + 1))), (0, .ref m0), (1, .int (nI 3)), (6, .int (nI i))]) hx hb dX6_below_113 hl (by decide) rfl (fun ls hl => ?_)
                refine lv_iinc (v := nI (i + 1)) (lv' := [(6, .int (nI (i + 1))), (5, .int (oI (i + 1))), (4, .int (nI (wv + (KW i)))), (3, .int (oI (i + 1))), (2, .int (nI (c + 1))), (0, .ref m0), (1, .int (nI 3))]) hx hb dX6_below_115 hl (k := 6) rfl (nI_add i 1) (by decide) rfl (fun ls hl => ?_)
                refine lv_goto (tgt := 25) hx hb dX6_below_118 (by decide) ?_
                exact ih25 (i + 1) (c + 1) (i + 1) (wv + (KW i)) (i + 1) _ _ ls (by omega) (by omega) (by omega) (by first | exact hlw | (exfalso; omega) | (rw [if_pos (by omega)]; rw [hlw]; rw [if_pos (by omega)]) | (rw [if_pos (by omega)]; omega)) (by first | exact hwv | exact sm_step hwv (by omega)) (by first | exact hb0 | (exfalso; omega) | (show _ = (if mwo KW (plc KS KL n s A) c = 0 ∨ KW (mwo KW (plc KS KL n s A) c - 1) < KW (plc KS KL n s A + c) then plc KS KL n s A + c + 1 else mwo KW (plc KS KL n s A) c); rw [← hb0, show plc KS KL n s A + c = i by omega]; first | rw [if_pos (by omega)] | rw [if_neg (by omega)])) hP hD hS (lv_sub hl [5, 6, 4, 3, 2, 1, 0] rfl)
              ·
                refine lv_aload_n hx hb dX6_below_83 rfl (lv_at hl 3 rfl) ?_
                refine va_get (D := D) (ci := 6) (v := .ref nw) (C := RX6) (T := TX6) (N := 20) hx hb hts inX6 hown hK hP 0 rfl rfl 0 (by decide) (hts _ mf_X6_7) (fun _ h9 => h9) rfl dX6_below_84 ?_
                refine lv_bipush (v := nI 25) hx hb dX6_below_87 (by decide +kernel) ?_
                refine lv_iload hx hb dX6_below_89 (lv_at hl 6 rfl) ?_
                refine n_iadd hx hb dX6_below_91 ?_
                refine n_iald hx hb hK hP 1 0 rfl rfl (k := (25 + i)) (by omega) (by decide) dX6_below_92 ?_
                refine tq (y := nI (KW i)) (congrArg nI ((hR.2 i (by omega)).2.1)) ?_
                refine lv_aload_n hx hb dX6_below_93 rfl (lv_at hl 3 rfl) ?_
                refine va_get (D := D) (ci := 6) (v := .ref nw) (C := RX6) (T := TX6) (N := 20) hx hb hts inX6 hown hK hP 0 rfl rfl 0 (by decide) (hts _ mf_X6_7) (fun _ h9 => h9) rfl dX6_below_94 ?_
                refine lv_bipush (v := nI 25) hx hb dX6_below_97 (by decide +kernel) ?_
                refine lv_iload hx hb dX6_below_99 (lv_at hl 5 rfl) ?_
                refine tq (y := (nI (b - 1))) (oI_p (by omega)) ?_
                refine n_iadd hx hb dX6_below_101 ?_
                refine n_iald hx hb hK hP 1 0 rfl rfl (k := (25 + (b - 1))) (by omega) (by decide) dX6_below_102 ?_
                refine tq (y := nI (KW (b - 1))) (congrArg nI ((hR.2 (b - 1) (by omega)).2.1)) ?_
                refine n_le (tgt := 111) hx hb dX6_below_103 (by decide) (by have := hv i (by omega); omega) (by have := hv (b - 1) (by omega); omega) (fun c11 => ?_) (fun c11 => ?_)
                ·
                  refine lv_iload hx hb dX6_below_111 (lv_at hl 5 rfl) ?_
                  refine lv_istore (lv' := [(5, .int (oI b)), (4, .int (nI (wv + (KW i)))), (3, .int (oI (i + 1))), (2, .int (nI (c + 1))), (0, .ref m0), (1, .int (nI 3)), (6, .int (nI i))]) hx hb dX6_below_113 hl (by decide) rfl (fun ls hl => ?_)
                  refine lv_iinc (v := nI (i + 1)) (lv' := [(6, .int (nI (i + 1))), (5, .int (oI b)), (4, .int (nI (wv + (KW i)))), (3, .int (oI (i + 1))), (2, .int (nI (c + 1))), (0, .ref m0), (1, .int (nI 3))]) hx hb dX6_below_115 hl (k := 6) rfl (nI_add i 1) (by decide) rfl (fun ls hl => ?_)
                  refine lv_goto (tgt := 25) hx hb dX6_below_118 (by decide) ?_
                  exact ih25 (i + 1) (c + 1) (i + 1) (wv + (KW i)) b _ _ ls (by omega) (by omega) (by omega) (by first | exact hlw | (exfalso; omega) | (rw [if_pos (by omega)]; rw [hlw]; rw [if_pos (by omega)]) | (rw [if_pos (by omega)]; omega)) (by first | exact hwv | exact sm_step hwv (by omega)) (by first | exact hb0 | (exfalso; omega) | (show _ = (if mwo KW (plc KS KL n s A) c = 0 ∨ KW (mwo KW (plc KS KL n s A) c - 1) < KW (plc KS KL n s A + c) then plc KS KL n s A + c + 1 else mwo KW (plc KS KL n s A) c); rw [← hb0, show plc KS KL n s A + c = i by omega]; first | rw [if_pos (by omega)] | rw [if_neg (by omega)])) hP hD hS (lv_sub hl [5, 6, 4, 3, 2, 1, 0] rfl)
                ·
                  refine lv_iload hx hb dX6_below_106 (lv_at hl 6 rfl) ?_
                  refine lv_goto (tgt := 113) hx hb dX6_below_108 (by decide) ?_
                  refine tq (y := oI (i + 1)) (oI_s _).symm ?_
                  refine lv_istore (lv' := [(5, .int (oI (i + 1))), (4, .int (nI (wv + (KW i)))), (3, .int (oI (i + 1))), (2, .int (nI (c + 1))), (0, .ref m0), (1, .int (nI 3)), (6, .int (nI i))]) hx hb dX6_below_113 hl (by decide) rfl (fun ls hl => ?_)
                  refine lv_iinc (v := nI (i + 1)) (lv' := [(6, .int (nI (i + 1))), (5, .int (oI (i + 1))), (4, .int (nI (wv + (KW i)))), (3, .int (oI (i + 1))), (2, .int (nI (c + 1))), (0, .ref m0), (1, .int (nI 3))]) hx hb dX6_below_115 hl (k := 6) rfl (nI_add i 1) (by decide) rfl (fun ls hl => ?_)
                  refine lv_goto (tgt := 25) hx hb dX6_below_118 (by decide) ?_
                  exact ih25 (i + 1) (c + 1) (i + 1) (wv + (KW i)) (i + 1) _ _ ls (by omega) (by omega) (by omega) (by first | exact hlw | (exfalso; omega) | (rw [if_pos (by omega)]; rw [hlw]; rw [if_pos (by omega)]) | (rw [if_pos (by omega)]; omega)) (by first | exact hwv | exact sm_step hwv (by omega)) (by first | exact hb0 | (exfalso; omega) | (show _ = (if mwo KW (plc KS KL n s A) c = 0 ∨ KW (mwo KW (plc KS KL n s A) c - 1) < KW (plc KS KL n s A + c) then plc KS KL n s A + c + 1 else mwo KW (plc KS KL n s A) c); rw [← hb0, show plc KS KL n s A + c = i by omega]; first | rw [if_pos (by omega)] | rw [if_neg (by omega)])) hP hD hS (lv_sub hl [5, 6, 4, 3, 2, 1, 0] rfl)
    exact loop25 _ 0 0 0 0 0 _ _ ls (Nat.lt_succ_self _) (Nat.zero_le _) (by rw [Nat.zero_sub, Nat.zero_min]) (by rw [if_neg (Nat.lt_irrefl 0)]) rfl rfl hP hD hS (lv_sub hl [5, 6, 4, 3, 2, 1, 0] rfl)
  ·
    exact (c1 (by decide)).elim
set_option maxHeartbeats 4000000 in
set_option maxRecDepth 100000 in
theorem c_X6_way_kneg (l : Launch) (D : va_G) (cI cJ cZ : ClassId) (m0 nw ps im mk wd so mb ma mf mw ml mu wt ty : Nat) (NW : Nat → Nat) (PS : Nat → Nat) (u : Nat) (IM : Nat → Nat) (MK : Nat → Nat) (sd : Nat) (WD : Nat → Nat) (s : Nat) (SO : Nat → Nat) (q : Nat) (EB : Nat → Nat) (EA : Nat → Nat) (EF : Nat → Nat) (EW : Nat → Nat) (EL : Nat → Nat) (EU : Nat → Nat) (br : Nat) (WT : Nat → Nat) (ww : Nat) (TY : Nat → Nat) (KS KL KW : Nat → Nat) (n A : Nat) (hn : n ≤ 24) (hk : ∀ k, k < n → Wf (KS k) (KL k)) (hw0 : Wf s A) (hR : RN NW KS KL KW n) (hRW : RW WD s A) (hso : Srt KS KL n) (BB BD BM BL BF BA BK : Nat → Nat) (hTr : TrX (gapF KS KL) n BB BD BM BL BF BA BK) (hv : ∀ k, k < n → KW k ≤ 9999) (x y : Int32) (hx0 : x < 0) (sz : Nat) : WR l yX6_way cX6_way 5 (some .int) (rmN 5 116) D (ty3 cI cJ cZ) [.ref m0, .int x, .int y] [(m0, .inr (6, [.ref nw, .ref ps, .int (nI u), .ref im, .ref mk, .int (nI sd), .ref wd, .int (nI s), .ref so, .int (nI q), .ref mb, .ref ma, .ref mf, .ref mw, .ref ml, .ref mu, .int (nI br), .ref wt, .int (nI ww), .ref ty])), (nw, .inl (cI, 241, .inl (nF NW))), (ps, .inl (cI, 4820, .inl (nF PS))), (im, .inl (cI, 484, .inl (nF IM))), (mk, .inl (cZ, 2, .inl (nF MK))), (wd, .inl (cI, 8, .inl (nF WD))), (so, .inl (cI, 24, .inl (nF SO))), (mb, .inl (cI, 24, .inl (nF EB))), (ma, .inl (cI, 24, .inl (nF EA))), (mf, .inl (cI, 24, .inl (nF EF))), (mw, .inl (cI, 24, .inl (nF EW))), (ml, .inl (cI, 24, .inl (nF EL))), (mu, .inl (cI, 24, .inl (oF EU))), (wt, .inl (cI, 200, .inl (oF WT))), (ty, .inl (cI, 8, .inl (nF TY)))] sz (fun x w => x = some (.int (-1000000001)) ∧ ∃ (SO : Nat → Nat) (q : Nat) (EB EA EF EW EL EU : Nat → Nat) (br : Nat) (WT : Nat → Nat) (ww : Nat), w = [(m0, .inr (6, [.ref nw, .ref ps, .int (nI u), .ref im, .ref mk, .int (nI sd), .ref wd, .int (nI s), .ref so, .int (nI q), .ref mb, .ref ma, .ref mf, .ref mw, .ref ml, .ref mu, .int (nI br), .ref wt, .int (nI ww), .ref ty])), (nw, .inl (cI, 241, .inl (nF NW))), (ps, .inl (cI, 4820, .inl (nF PS))), (im, .inl (cI, 484, .inl (nF IM))), (mk, .inl (cZ, 2, .inl (nF MK))), (wd, .inl (cI, 8, .inl (nF WD))), (so, .inl (cI, 24, .inl (nF SO))), (mb, .inl (cI, 24, .inl (nF EB))), (ma, .inl (cI, 24, .inl (nF EA))), (mf, .inl (cI, 24, .inl (nF EF))), (mw, .inl (cI, 24, .inl (nF EW))), (ml, .inl (cI, 24, .inl (nF EL))), (mu, .inl (cI, 24, .inl (oF EU))), (wt, .inl (cI, 200, .inl (oF WT))), (ty, .inl (cI, 8, .inl (nF TY)))]) := by
  have hs8 := hw0.1
  have hA64 := hw0.2.1
  have hN0 := hR.1
  have hBK := tf_BK hTr hn
  have hDK := tf_DK hTr hn
  have hp := plc_le KS KL n s A
  have hcb := cbl_le KS KL n s A
  have hfl := fnd_le KS KL n s A
  refine wr_start (by decide) (Nat.le_of_ble_eq_true rfl) ?_
  intro pp ee ss mm below meth cd AA C0 hAA hP hK hD hS hN hnm ls hl
  obtain ⟨hx, hb, hr, hml, hown, hts, hlk⟩ := C0
  have hown : ss.vm.findClass RX6 = some mm.cls := hown
  have hl : lv_has ls 5 [(0, .ref m0), (1, .int x), (2, .int y)] := hl
  have hP : va_P D vwCl [(m0, .inr (6, [.ref nw, .ref ps, .int (nI u), .ref im, .ref mk, .int (nI sd), .ref wd, .int (nI s), .ref so, .int (nI q), .ref mb, .ref ma, .ref mf, .ref mw, .ref ml, .ref mu, .int (nI br), .ref wt, .int (nI ww), .ref ty])), (nw, .inl (cI, 241, .inl (nF NW))), (ps, .inl (cI, 4820, .inl (nF PS))), (im, .inl (cI, 484, .inl (nF IM))), (mk, .inl (cZ, 2, .inl (nF MK))), (wd, .inl (cI, 8, .inl (nF WD))), (so, .inl (cI, 24, .inl (nF SO))), (mb, .inl (cI, 24, .inl (nF EB))), (ma, .inl (cI, 24, .inl (nF EA))), (mf, .inl (cI, 24, .inl (nF EF))), (mw, .inl (cI, 24, .inl (nF EW))), (ml, .inl (cI, 24, .inl (nF EL))), (mu, .inl (cI, 24, .inl (oF EU))), (wt, .inl (cI, 200, .inl (oF WT))), (ty, .inl (cI, 8, .inl (nF TY)))] ss.heap := hP
  refine lv_aload_n hx hb dX6_way_0 rfl (lv_at hl 0 rfl) ?_
  refine lv_iload_n hx hb dX6_way_1 rfl (lv_at hl 1 rfl) ?_
  refine ro_V (As := [.int x]) (rest := []) ⟨hx, hb, hml, hown, hts⟩ (c_X6_isKey_neg l D cI cJ cZ m0 nw ps im mk wd so mb ma mf mw ml mu wt ty NW PS u IM MK sd WD s SO q EB EA EF EW EL EU br WT ww TY KS KL KW n A hn hk hw0 hR hRW x hx0) (k_X6_85 hts ⟨Nat.le_of_ble_eq_true rfl, Nat.le_of_ble_eq_true rfl⟩) hK hP 0 rfl rfl rfl [0, 1, 2, 3, 4, 5, 6, 7, 8, 9, 10, 11, 12, 13, 14] rfl rfl hl.1 rfl (Nat.le_of_ble_eq_true rfl) dX6_way_2 ⟨Nat.le_of_ble_eq_true rfl, Nat.le_of_ble_eq_true rfl⟩ ?_
  refine n_if_ne (tgt := 11) hx hb dX6_way_5 (by decide) (by decide) (fun h9 => absurd rfl h9) (fun _ => ?_)
  refine lv_ldc hx hb hown (hts _ mk_X6_89) dX6_way_8 ?_
  exact wr_iret hx hb hr hlk hP hD hS dX6_way_10 (⟨rfl, SO, q, EB, EA, EF, EW, EL, EU, br, WT, ww, rfl⟩)
set_option maxHeartbeats 4000000 in
set_option maxRecDepth 100000 in
theorem c_X6_way_kout (l : Launch) (D : va_G) (cI cJ cZ : ClassId) (m0 nw ps im mk wd so mb ma mf mw ml mu wt ty : Nat) (NW : Nat → Nat) (PS : Nat → Nat) (u : Nat) (IM : Nat → Nat) (MK : Nat → Nat) (sd : Nat) (WD : Nat → Nat) (s : Nat) (SO : Nat → Nat) (q : Nat) (EB : Nat → Nat) (EA : Nat → Nat) (EF : Nat → Nat) (EW : Nat → Nat) (EL : Nat → Nat) (EU : Nat → Nat) (br : Nat) (WT : Nat → Nat) (ww : Nat) (TY : Nat → Nat) (KS KL KW : Nat → Nat) (n A : Nat) (hn : n ≤ 24) (hk : ∀ k, k < n → Wf (KS k) (KL k)) (hw0 : Wf s A) (hR : RN NW KS KL KW n) (hRW : RW WD s A) (hso : Srt KS KL n) (BB BD BM BL BF BA BK : Nat → Nat) (hTr : TrX (gapF KS KL) n BB BD BM BL BF BA BK) (hv : ∀ k, k < n → KW k ≤ 9999) (j : Nat) (y : Int32) (hj : j < 2 ^ 31) (hjo : n ≤ j) (sz : Nat) : WR l yX6_way cX6_way 5 (some .int) (rmN 5 116) D (ty3 cI cJ cZ) [.ref m0, .int (nI j), .int y] [(m0, .inr (6, [.ref nw, .ref ps, .int (nI u), .ref im, .ref mk, .int (nI sd), .ref wd, .int (nI s), .ref so, .int (nI q), .ref mb, .ref ma, .ref mf, .ref mw, .ref ml, .ref mu, .int (nI br), .ref wt, .int (nI ww), .ref ty])), (nw, .inl (cI, 241, .inl (nF NW))), (ps, .inl (cI, 4820, .inl (nF PS))), (im, .inl (cI, 484, .inl (nF IM))), (mk, .inl (cZ, 2, .inl (nF MK))), (wd, .inl (cI, 8, .inl (nF WD))), (so, .inl (cI, 24, .inl (nF SO))), (mb, .inl (cI, 24, .inl (nF EB))), (ma, .inl (cI, 24, .inl (nF EA))), (mf, .inl (cI, 24, .inl (nF EF))), (mw, .inl (cI, 24, .inl (nF EW))), (ml, .inl (cI, 24, .inl (nF EL))), (mu, .inl (cI, 24, .inl (oF EU))), (wt, .inl (cI, 200, .inl (oF WT))), (ty, .inl (cI, 8, .inl (nF TY)))] sz (fun x w => x = some (.int (-1000000001)) ∧ ∃ (SO : Nat → Nat) (q : Nat) (EB EA EF EW EL EU : Nat → Nat) (br : Nat) (WT : Nat → Nat) (ww : Nat), w = [(m0, .inr (6, [.ref nw, .ref ps, .int (nI u), .ref im, .ref mk, .int (nI sd), .ref wd, .int (nI s), .ref so, .int (nI q), .ref mb, .ref ma, .ref mf, .ref mw, .ref ml, .ref mu, .int (nI br), .ref wt, .int (nI ww), .ref ty])), (nw, .inl (cI, 241, .inl (nF NW))), (ps, .inl (cI, 4820, .inl (nF PS))), (im, .inl (cI, 484, .inl (nF IM))), (mk, .inl (cZ, 2, .inl (nF MK))), (wd, .inl (cI, 8, .inl (nF WD))), (so, .inl (cI, 24, .inl (nF SO))), (mb, .inl (cI, 24, .inl (nF EB))), (ma, .inl (cI, 24, .inl (nF EA))), (mf, .inl (cI, 24, .inl (nF EF))), (mw, .inl (cI, 24, .inl (nF EW))), (ml, .inl (cI, 24, .inl (nF EL))), (mu, .inl (cI, 24, .inl (oF EU))), (wt, .inl (cI, 200, .inl (oF WT))), (ty, .inl (cI, 8, .inl (nF TY)))]) := by
  have hs8 := hw0.1
  have hA64 := hw0.2.1
  have hN0 := hR.1
  have hBK := tf_BK hTr hn
  have hDK := tf_DK hTr hn
  have hp := plc_le KS KL n s A
  have hcb := cbl_le KS KL n s A
  have hfl := fnd_le KS KL n s A
  refine wr_start (by decide) (Nat.le_of_ble_eq_true rfl) ?_
  intro pp ee ss mm below meth cd AA C0 hAA hP hK hD hS hN hnm ls hl
  obtain ⟨hx, hb, hr, hml, hown, hts, hlk⟩ := C0
  have hown : ss.vm.findClass RX6 = some mm.cls := hown
  have hl : lv_has ls 5 [(0, .ref m0), (1, .int (nI j)), (2, .int y)] := hl
  have hP : va_P D vwCl [(m0, .inr (6, [.ref nw, .ref ps, .int (nI u), .ref im, .ref mk, .int (nI sd), .ref wd, .int (nI s), .ref so, .int (nI q), .ref mb, .ref ma, .ref mf, .ref mw, .ref ml, .ref mu, .int (nI br), .ref wt, .int (nI ww), .ref ty])), (nw, .inl (cI, 241, .inl (nF NW))), (ps, .inl (cI, 4820, .inl (nF PS))), (im, .inl (cI, 484, .inl (nF IM))), (mk, .inl (cZ, 2, .inl (nF MK))), (wd, .inl (cI, 8, .inl (nF WD))), (so, .inl (cI, 24, .inl (nF SO))), (mb, .inl (cI, 24, .inl (nF EB))), (ma, .inl (cI, 24, .inl (nF EA))), (mf, .inl (cI, 24, .inl (nF EF))), (mw, .inl (cI, 24, .inl (nF EW))), (ml, .inl (cI, 24, .inl (nF EL))), (mu, .inl (cI, 24, .inl (oF EU))), (wt, .inl (cI, 200, .inl (oF WT))), (ty, .inl (cI, 8, .inl (nF TY)))] ss.heap := hP
  refine lv_aload_n hx hb dX6_way_0 rfl (lv_at hl 0 rfl) ?_
  refine lv_iload_n hx hb dX6_way_1 rfl (lv_at hl 1 rfl) ?_
  refine ro_V (As := [.int (nI j)]) (rest := []) ⟨hx, hb, hml, hown, hts⟩ (c_X6_isKey l D cI cJ cZ m0 nw ps im mk wd so mb ma mf mw ml mu wt ty NW PS u IM MK sd WD s SO q EB EA EF EW EL EU br WT ww TY KS KL KW n A hn hk hw0 hR hRW j (by omega)) (k_X6_85 hts ⟨Nat.le_of_ble_eq_true rfl, Nat.le_of_ble_eq_true rfl⟩) hK hP 0 rfl rfl rfl [0, 1, 2, 3, 4, 5, 6, 7, 8, 9, 10, 11, 12, 13, 14] rfl rfl hl.1 rfl (Nat.le_of_ble_eq_true rfl) dX6_way_2 ⟨Nat.le_of_ble_eq_true rfl, Nat.le_of_ble_eq_true rfl⟩ ?_
  refine b_if_ne (tgt := 11) hx hb dX6_way_5 (by decide) (fun c1 => ?_) (fun c1 => ?_)
  ·
    exact absurd c1 (by omega)
  ·
    refine lv_ldc hx hb hown (hts _ mk_X6_89) dX6_way_8 ?_
    exact wr_iret hx hb hr hlk hP hD hS dX6_way_10 (⟨rfl, SO, q, EB, EA, EF, EW, EL, EU, br, WT, ww, rfl⟩)
set_option maxHeartbeats 4000000 in
set_option maxRecDepth 100000 in
theorem c_X6_way_ok (l : Launch) (D : va_G) (cI cJ cZ : ClassId) (m0 nw ps im mk wd so mb ma mf mw ml mu wt ty : Nat) (NW : Nat → Nat) (PS : Nat → Nat) (u : Nat) (IM : Nat → Nat) (MK : Nat → Nat) (sd : Nat) (WD : Nat → Nat) (s : Nat) (SO : Nat → Nat) (q : Nat) (EB : Nat → Nat) (EA : Nat → Nat) (EF : Nat → Nat) (EW : Nat → Nat) (EL : Nat → Nat) (EU : Nat → Nat) (br : Nat) (WT : Nat → Nat) (ww : Nat) (TY : Nat → Nat) (KS KL KW : Nat → Nat) (n A : Nat) (hn : n ≤ 24) (hk : ∀ k, k < n → Wf (KS k) (KL k)) (hw0 : Wf s A) (hR : RN NW KS KL KW n) (hRW : RW WD s A) (hso : Srt KS KL n) (BB BD BM BL BF BA BK : Nat → Nat) (hTr : TrX (gapF KS KL) n BB BD BM BL BF BA BK) (hv : ∀ k, k < n → KW k ≤ 9999) (j : Nat) (hj : j < n) (t : Nat) (ht : t < 2 ^ 31) (sz : Nat) : WR l yX6_way cX6_way 5 (some .int) (rmN 5 116) D (ty3 cI cJ cZ) [.ref m0, .int (nI j), .int (nI t)] [(m0, .inr (6, [.ref nw, .ref ps, .int (nI u), .ref im, .ref mk, .int (nI sd), .ref wd, .int (nI s), .ref so, .int (nI q), .ref mb, .ref ma, .ref mf, .ref mw, .ref ml, .ref mu, .int (nI br), .ref wt, .int (nI ww), .ref ty])), (nw, .inl (cI, 241, .inl (nF NW))), (ps, .inl (cI, 4820, .inl (nF PS))), (im, .inl (cI, 484, .inl (nF IM))), (mk, .inl (cZ, 2, .inl (nF MK))), (wd, .inl (cI, 8, .inl (nF WD))), (so, .inl (cI, 24, .inl (nF SO))), (mb, .inl (cI, 24, .inl (nF EB))), (ma, .inl (cI, 24, .inl (nF EA))), (mf, .inl (cI, 24, .inl (nF EF))), (mw, .inl (cI, 24, .inl (nF EW))), (ml, .inl (cI, 24, .inl (nF EL))), (mu, .inl (cI, 24, .inl (oF EU))), (wt, .inl (cI, 200, .inl (oF WT))), (ty, .inl (cI, 8, .inl (nF TY)))] sz (fun x w => x = some (.int (oI (if t < dok BK BD j then anc BA (dok BK BD j - 1 - t) (BK j) else 0))) ∧ ∃ (SO : Nat → Nat) (q : Nat) (EB EA EF EW EL EU : Nat → Nat) (br : Nat) (WT : Nat → Nat) (ww : Nat), w = [(m0, .inr (6, [.ref nw, .ref ps, .int (nI u), .ref im, .ref mk, .int (nI sd), .ref wd, .int (nI s), .ref so, .int (nI q), .ref mb, .ref ma, .ref mf, .ref mw, .ref ml, .ref mu, .int (nI br), .ref wt, .int (nI ww), .ref ty])), (nw, .inl (cI, 241, .inl (nF NW))), (ps, .inl (cI, 4820, .inl (nF PS))), (im, .inl (cI, 484, .inl (nF IM))), (mk, .inl (cZ, 2, .inl (nF MK))), (wd, .inl (cI, 8, .inl (nF WD))), (so, .inl (cI, 24, .inl (nF SO))), (mb, .inl (cI, 24, .inl (nF EB))), (ma, .inl (cI, 24, .inl (nF EA))), (mf, .inl (cI, 24, .inl (nF EF))), (mw, .inl (cI, 24, .inl (nF EW))), (ml, .inl (cI, 24, .inl (nF EL))), (mu, .inl (cI, 24, .inl (oF EU))), (wt, .inl (cI, 200, .inl (oF WT))), (ty, .inl (cI, 8, .inl (nF TY)))]) := by
  have hs8 := hw0.1
  have hA64 := hw0.2.1
  have hN0 := hR.1
  have hBK := tf_BK hTr hn
  have hDK := tf_DK hTr hn
  have hp := plc_le KS KL n s A
  have hcb := cbl_le KS KL n s A
  have hfl := fnd_le KS KL n s A
  refine wr_start (by decide) (Nat.le_of_ble_eq_true rfl) ?_
  intro pp ee ss mm below meth cd AA C0 hAA hP hK hD hS hN hnm ls hl
  obtain ⟨hx, hb, hr, hml, hown, hts, hlk⟩ := C0
  have hown : ss.vm.findClass RX6 = some mm.cls := hown
  have hl : lv_has ls 5 [(0, .ref m0), (1, .int (nI j)), (2, .int (nI t))] := hl
  have hP : va_P D vwCl [(m0, .inr (6, [.ref nw, .ref ps, .int (nI u), .ref im, .ref mk, .int (nI sd), .ref wd, .int (nI s), .ref so, .int (nI q), .ref mb, .ref ma, .ref mf, .ref mw, .ref ml, .ref mu, .int (nI br), .ref wt, .int (nI ww), .ref ty])), (nw, .inl (cI, 241, .inl (nF NW))), (ps, .inl (cI, 4820, .inl (nF PS))), (im, .inl (cI, 484, .inl (nF IM))), (mk, .inl (cZ, 2, .inl (nF MK))), (wd, .inl (cI, 8, .inl (nF WD))), (so, .inl (cI, 24, .inl (nF SO))), (mb, .inl (cI, 24, .inl (nF EB))), (ma, .inl (cI, 24, .inl (nF EA))), (mf, .inl (cI, 24, .inl (nF EF))), (mw, .inl (cI, 24, .inl (nF EW))), (ml, .inl (cI, 24, .inl (nF EL))), (mu, .inl (cI, 24, .inl (oF EU))), (wt, .inl (cI, 200, .inl (oF WT))), (ty, .inl (cI, 8, .inl (nF TY)))] ss.heap := hP
  refine lv_aload_n hx hb dX6_way_0 rfl (lv_at hl 0 rfl) ?_
  refine lv_iload_n hx hb dX6_way_1 rfl (lv_at hl 1 rfl) ?_
  refine ro_V (As := [.int (nI j)]) (rest := []) ⟨hx, hb, hml, hown, hts⟩ (c_X6_isKey l D cI cJ cZ m0 nw ps im mk wd so mb ma mf mw ml mu wt ty NW PS u IM MK sd WD s SO q EB EA EF EW EL EU br WT ww TY KS KL KW n A hn hk hw0 hR hRW j (by omega)) (k_X6_85 hts ⟨Nat.le_of_ble_eq_true rfl, Nat.le_of_ble_eq_true rfl⟩) hK hP 0 rfl rfl rfl [0, 1, 2, 3, 4, 5, 6, 7, 8, 9, 10, 11, 12, 13, 14] rfl rfl hl.1 rfl (Nat.le_of_ble_eq_true rfl) dX6_way_2 ⟨Nat.le_of_ble_eq_true rfl, Nat.le_of_ble_eq_true rfl⟩ ?_
  refine b_if_ne (tgt := 11) hx hb dX6_way_5 (by decide) (fun c1 => ?_) (fun c1 => ?_)
  ·
    refine lv_aload_n hx hb dX6_way_11 rfl (lv_at hl 0 rfl) ?_
    refine lv_iconst (v := oI 0) hx hb dX6_way_12 (by decide +kernel) ?_
    refine wr_V (As := [.int (oI 0)]) (rest := []) (wc := [(m0, .inr (6, [.ref nw, .ref ps, .int (nI u), .ref im, .ref mk, .int (nI sd), .ref wd, .int (nI s), .ref so, .int (nI q), .ref mb, .ref ma, .ref mf, .ref mw, .ref ml, .ref mu, .int (nI br), .ref wt, .int (nI ww), .ref ty])), (nw, .inl (cI, 241, .inl (nF NW))), (ps, .inl (cI, 4820, .inl (nF PS))), (im, .inl (cI, 484, .inl (nF IM))), (mk, .inl (cZ, 2, .inl (nF MK))), (wd, .inl (cI, 8, .inl (nF WD))), (so, .inl (cI, 24, .inl (nF SO))), (mb, .inl (cI, 24, .inl (nF EB))), (ma, .inl (cI, 24, .inl (nF EA))), (mf, .inl (cI, 24, .inl (nF EF))), (mw, .inl (cI, 24, .inl (nF EW))), (ml, .inl (cI, 24, .inl (nF EL))), (mu, .inl (cI, 24, .inl (oF EU))), (wt, .inl (cI, 200, .inl (oF WT))), (ty, .inl (cI, 8, .inl (nF TY)))]) (wr := []) ⟨hx, hb, hml, hown, hts⟩ (c_X6_findsBut_all l D cI cJ cZ m0 nw ps im mk wd so mb ma mf mw ml mu wt ty NW PS u IM MK sd WD s SO q EB EA EF EW EL EU br WT ww TY KS KL KW n A hn hk hw0 hR hRW hso _) (k_X6_119 hts ⟨Nat.le_of_ble_eq_true rfl, Nat.le_of_ble_eq_true rfl⟩) hK hN hP hD hS hAA 0 rfl rfl rfl [0, 1, 2, 3, 4, 5, 6, 7, 8, 9, 10, 11, 12, 13, 14] [] rfl rfl (by decide) (by decide) (by decide) rfl hl.1 rfl (Nat.le_of_ble_eq_true rfl) dX6_way_13 ⟨Nat.le_of_ble_eq_true rfl, Nat.le_of_ble_eq_true rfl⟩ (fun v4 w5 H locs hp3 hP hD hS => ?_)
    obtain ⟨rfl, SOh2, EBh2, EAh2, EFh2, EWh2, ELh2, EUh2, WTh2, rfl, hTmh2⟩ := hp3
    have hE : ∀ b, b < n - 1 → EFh2 b ≤ 24 ∧ 1 ≤ EWh2 b ∧ EWh2 b ≤ 24 := fun b hb2 => by have := tm_in hTmh2 (b := b) (by omega); omega
    have hTm := hTmh2
    have hP : va_P D vwCl [(m0, .inr (6, [.ref nw, .ref ps, .int (nI u), .ref im, .ref mk, .int (nI sd), .ref wd, .int (nI s), .ref so, .int (nI n), .ref mb, .ref ma, .ref mf, .ref mw, .ref ml, .ref mu, .int (nI (n - 1)), .ref wt, .int (nI 0), .ref ty])), (nw, .inl (cI, 241, .inl (nF NW))), (ps, .inl (cI, 4820, .inl (nF PS))), (im, .inl (cI, 484, .inl (nF IM))), (mk, .inl (cZ, 2, .inl (nF MK))), (wd, .inl (cI, 8, .inl (nF WD))), (so, .inl (cI, 24, .inl (nF SOh2))), (mb, .inl (cI, 24, .inl (nF EBh2))), (ma, .inl (cI, 24, .inl (nF EAh2))), (mf, .inl (cI, 24, .inl (nF EFh2))), (mw, .inl (cI, 24, .inl (nF EWh2))), (ml, .inl (cI, 24, .inl (nF ELh2))), (mu, .inl (cI, 24, .inl (oF EUh2))), (wt, .inl (cI, 200, .inl (oF WTh2))), (ty, .inl (cI, 8, .inl (nF TY)))] H := hP.sub [0, 1, 2, 3, 4, 5, 6, 7, 8, 9, 10, 11, 12, 13, 14] rfl
    have hD : va_D AA [(m0, .inr (6, [.ref nw, .ref ps, .int (nI u), .ref im, .ref mk, .int (nI sd), .ref wd, .int (nI s), .ref so, .int (nI n), .ref mb, .ref ma, .ref mf, .ref mw, .ref ml, .ref mu, .int (nI (n - 1)), .ref wt, .int (nI 0), .ref ty])), (nw, .inl (cI, 241, .inl (nF NW))), (ps, .inl (cI, 4820, .inl (nF PS))), (im, .inl (cI, 484, .inl (nF IM))), (mk, .inl (cZ, 2, .inl (nF MK))), (wd, .inl (cI, 8, .inl (nF WD))), (so, .inl (cI, 24, .inl (nF SOh2))), (mb, .inl (cI, 24, .inl (nF EBh2))), (ma, .inl (cI, 24, .inl (nF EAh2))), (mf, .inl (cI, 24, .inl (nF EFh2))), (mw, .inl (cI, 24, .inl (nF EWh2))), (ml, .inl (cI, 24, .inl (nF ELh2))), (mu, .inl (cI, 24, .inl (oF EUh2))), (wt, .inl (cI, 200, .inl (oF WTh2))), (ty, .inl (cI, 8, .inl (nF TY)))] := hD.sub [0, 1, 2, 3, 4, 5, 6, 7, 8, 9, 10, 11, 12, 13, 14] (by decide) rfl
    refine lv_iconst (v := nI 0) hx hb dX6_way_16 (by decide +kernel) ?_
    refine lv_istore_n (lv' := [(3, .int (nI 0)), (0, .ref m0), (1, .int (nI j)), (2, .int (nI t))]) hx hb dX6_way_17 rfl hl (by decide) rfl (fun ls hl => ?_)
    refine lv_iconst (v := nI 0) hx hb dX6_way_18 (by decide +kernel) ?_
    refine lv_istore (lv' := [(4, .int (nI 0)), (3, .int (nI 0)), (0, .ref m0), (1, .int (nI j)), (2, .int (nI t))]) hx hb dX6_way_19 hl (by decide) rfl (fun ls hl => ?_)
    have loop21 : ∀ (d : Nat) (b : Nat) (g : Nat) (H : Heap) (locs : List Loc) (ls : Array Slot), n - 1 - b < d → (b ≤ n - 1) → (g = dpt EFh2 EWh2 b j) → (g ≤ t) → va_P D vwCl [(m0, .inr (6, [.ref nw, .ref ps, .int (nI u), .ref im, .ref mk, .int (nI sd), .ref wd, .int (nI s), .ref so, .int (nI n), .ref mb, .ref ma, .ref mf, .ref mw, .ref ml, .ref mu, .int (nI (n - 1)), .ref wt, .int (nI 0), .ref ty])), (nw, .inl (cI, 241, .inl (nF NW))), (ps, .inl (cI, 4820, .inl (nF PS))), (im, .inl (cI, 484, .inl (nF IM))), (mk, .inl (cZ, 2, .inl (nF MK))), (wd, .inl (cI, 8, .inl (nF WD))), (so, .inl (cI, 24, .inl (nF SOh2))), (mb, .inl (cI, 24, .inl (nF EBh2))), (ma, .inl (cI, 24, .inl (nF EAh2))), (mf, .inl (cI, 24, .inl (nF EFh2))), (mw, .inl (cI, 24, .inl (nF EWh2))), (ml, .inl (cI, 24, .inl (nF ELh2))), (mu, .inl (cI, 24, .inl (oF EUh2))), (wt, .inl (cI, 200, .inl (oF WTh2))), (ty, .inl (cI, 8, .inl (nF TY)))] H → va_D AA [(m0, .inr (6, [.ref nw, .ref ps, .int (nI u), .ref im, .ref mk, .int (nI sd), .ref wd, .int (nI s), .ref so, .int (nI n), .ref mb, .ref ma, .ref mf, .ref mw, .ref ml, .ref mu, .int (nI (n - 1)), .ref wt, .int (nI 0), .ref ty])), (nw, .inl (cI, 241, .inl (nF NW))), (ps, .inl (cI, 4820, .inl (nF PS))), (im, .inl (cI, 484, .inl (nF IM))), (mk, .inl (cZ, 2, .inl (nF MK))), (wd, .inl (cI, 8, .inl (nF WD))), (so, .inl (cI, 24, .inl (nF SOh2))), (mb, .inl (cI, 24, .inl (nF EBh2))), (ma, .inl (cI, 24, .inl (nF EAh2))), (mf, .inl (cI, 24, .inl (nF EFh2))), (mw, .inl (cI, 24, .inl (nF EWh2))), (ml, .inl (cI, 24, .inl (nF ELh2))), (mu, .inl (cI, 24, .inl (oF EUh2))), (wt, .inl (cI, 200, .inl (oF WTh2))), (ty, .inl (cI, 8, .inl (nF TY)))] → va_S AA ss.heap H locs → lv_has ls 5 [(0, .ref m0), (1, .int (nI j)), (2, .int (nI t)), (3, .int (nI g)), (4, .int (nI b))] → W pp l ee (rmN 5 116) ss mm [.ref m0, .int (nI j), .int (nI t)].toArray below meth cd H locs 0 0 (MQ below (QW D AA (fun x w => x = some (.int (oI (if t < dok BK BD j then anc BA (dok BK BD j - 1 - t) (BK j) else 0))) ∧ ∃ (SO : Nat → Nat) (q : Nat) (EB EA EF EW EL EU : Nat → Nat) (br : Nat) (WT : Nat → Nat) (ww : Nat), w = [(m0, .inr (6, [.ref nw, .ref ps, .int (nI u), .ref im, .ref mk, .int (nI sd), .ref wd, .int (nI s), .ref so, .int (nI q), .ref mb, .ref ma, .ref mf, .ref mw, .ref ml, .ref mu, .int (nI br), .ref wt, .int (nI ww), .ref ty])), (nw, .inl (cI, 241, .inl (nF NW))), (ps, .inl (cI, 4820, .inl (nF PS))), (im, .inl (cI, 484, .inl (nF IM))), (mk, .inl (cZ, 2, .inl (nF MK))), (wd, .inl (cI, 8, .inl (nF WD))), (so, .inl (cI, 24, .inl (nF SO))), (mb, .inl (cI, 24, .inl (nF EB))), (ma, .inl (cI, 24, .inl (nF EA))), (mf, .inl (cI, 24, .inl (nF EF))), (mw, .inl (cI, 24, .inl (nF EW))), (ml, .inl (cI, 24, .inl (nF EL))), (mu, .inl (cI, 24, .inl (oF EU))), (wt, .inl (cI, 200, .inl (oF WT))), (ty, .inl (cI, 8, .inl (nF TY)))])) [.ref m0, .int (nI j), .int (nI t)].toArray ss 0 0 AA) (F0 mm 21 ls []) := by
      intro d
      induction d with
      | zero => intro b g H locs ls h; exact absurd h (Nat.not_lt_zero _)
      | succ d ih21 =>
        intro b g H locs ls hd21 hbn hg hgt hP hD hS hl
        have hg1 := dpt_le EFh2 EWh2 b j
        refine lv_iload hx hb dX6_way_21 (lv_at hl 4 rfl) ?_
        refine lv_aload_n hx hb dX6_way_23 rfl (lv_at hl 0 rfl) ?_
        refine va_get (D := D) (ci := 6) (v := .int (nI (n - 1))) (C := RX6) (T := TX6) (N := 20) hx hb hts inX6 hown hK hP 0 rfl rfl 16 (by decide) (hts _ mf_X6_97) (fun _ h9 => h9) rfl dX6_way_24 ?_
        refine n_ge (tgt := 57) hx hb dX6_way_27 (by decide) (by omega) (by omega) (fun c6 => ?_) (fun c6 => ?_)
        ·
          refine lv_iconst (v := oI 0) hx hb dX6_way_57 (by decide +kernel) ?_
          refine tq (y := (oI (if t < dok BK BD j then anc BA (dok BK BD j - 1 - t) (BK j) else 0))) (by rw [if_neg (by have d1 := tm_dok hTr hTm hj; rw [← show b = n - 1 by omega] at d1; omega)]) ?_
          exact wr_iret hx hb hr hlk hP hD hS dX6_way_58 (⟨rfl, SOh2, n, EBh2, EAh2, EFh2, EWh2, ELh2, EUh2, n - 1, WTh2, 0, rfl⟩)
        ·
          refine lv_aload_n hx hb dX6_way_30 rfl (lv_at hl 0 rfl) ?_
          refine lv_iload hx hb dX6_way_31 (lv_at hl 4 rfl) ?_
          refine lv_iload_n hx hb dX6_way_33 rfl (lv_at hl 1 rfl) ?_
          refine ro_V (As := [.int (nI b), .int (nI j)]) (rest := []) ⟨hx, hb, hml, hown, hts⟩ (c_X6_isBelow l D cI cJ cZ m0 nw ps im mk wd so mb ma mf mw ml mu wt ty NW PS u IM MK sd WD s SOh2 n EBh2 EAh2 EFh2 EWh2 ELh2 EUh2 (n - 1) WTh2 0 TY (by omega) hE b j (by omega) (by omega)) (k_X6_110 hts ⟨Nat.le_of_ble_eq_true rfl, Nat.le_of_ble_eq_true rfl⟩) hK hP 0 rfl rfl rfl [0, 1, 2, 3, 4, 5, 6, 7, 8, 9, 10, 11, 12, 13, 14] rfl rfl hl.1 rfl (Nat.le_of_ble_eq_true rfl) dX6_way_34 ⟨Nat.le_of_ble_eq_true rfl, Nat.le_of_ble_eq_true rfl⟩ ?_
          refine b_if_eq (tgt := 51) hx hb dX6_way_37 (by decide) (fun c7 => ?_) (fun c7 => ?_)
          ·
            have e1 := c7
            refine lv_iinc (v := nI (b + 1)) (lv' := [(4, .int (nI (b + 1))), (0, .ref m0), (1, .int (nI j)), (2, .int (nI t)), (3, .int (nI g))]) hx hb dX6_way_51 hl (k := 4) rfl (nI_add b 1) (by decide) rfl (fun ls hl => ?_)
            refine lv_goto (tgt := 21) hx hb dX6_way_54 (by decide) ?_
            exact ih21 (b + 1) g _ _ ls (by omega) (by omega) (by rw [dpt_s, ← hg]; first | rw [if_pos e1] | (rw [if_neg e1]; rfl) | rw [if_neg e1]) (by omega) hP hD hS (lv_sub hl [1, 2, 3, 4, 0] rfl)
          ·
            have e1 := c7
            refine lv_iload_n hx hb dX6_way_40 rfl (lv_at hl 3 rfl) ?_
            refine lv_iload_n hx hb dX6_way_41 rfl (lv_at hl 2 rfl) ?_
            refine n_ne (tgt := 48) hx hb dX6_way_42 (by decide) (by omega) (by omega) (fun c8 => ?_) (fun c8 => ?_)
            ·
              refine lv_iinc (v := nI (g + 1)) (lv' := [(3, .int (nI (g + 1))), (0, .ref m0), (1, .int (nI j)), (2, .int (nI t)), (4, .int (nI b))]) hx hb dX6_way_48 hl (k := 3) rfl (nI_add g 1) (by decide) rfl (fun ls hl => ?_)
              refine lv_iinc (v := nI (b + 1)) (lv' := [(4, .int (nI (b + 1))), (3, .int (nI (g + 1))), (0, .ref m0), (1, .int (nI j)), (2, .int (nI t))]) hx hb dX6_way_51 hl (k := 4) rfl (nI_add b 1) (by decide) rfl (fun ls hl => ?_)
              refine lv_goto (tgt := 21) hx hb dX6_way_54 (by decide) ?_
              exact ih21 (b + 1) (g + 1) _ _ ls (by omega) (by omega) (by rw [dpt_s, ← hg]; first | rw [if_pos e1] | (rw [if_neg e1]; rfl) | rw [if_neg e1]) (by omega) hP hD hS (lv_sub hl [2, 3, 4, 1, 0] rfl)
            ·
              refine lv_iload hx hb dX6_way_45 (lv_at hl 4 rfl) ?_
              refine tq (y := (oI (if t < dok BK BD j then anc BA (dok BK BD j - 1 - t) (BK j) else 0))) (by rw [way_hit hTr hTm hj (show b + 1 < n by omega) e1 (hg.symm.trans (by omega)), oI_s]) ?_
              exact wr_iret hx hb hr hlk hP hD hS dX6_way_47 (⟨rfl, SOh2, n, EBh2, EAh2, EFh2, EWh2, ELh2, EUh2, n - 1, WTh2, 0, rfl⟩)
    exact loop21 _ 0 0 _ _ ls (Nat.lt_succ_self _) (Nat.zero_le _) rfl (by omega) hP hD hS (lv_sub hl [2, 3, 4, 1, 0] rfl)
  ·
    exact (c1 (by omega)).elim
set_option maxHeartbeats 4000000 in
set_option maxRecDepth 100000 in
theorem c_X6_way_neg (l : Launch) (D : va_G) (cI cJ cZ : ClassId) (m0 nw ps im mk wd so mb ma mf mw ml mu wt ty : Nat) (NW : Nat → Nat) (PS : Nat → Nat) (u : Nat) (IM : Nat → Nat) (MK : Nat → Nat) (sd : Nat) (WD : Nat → Nat) (s : Nat) (SO : Nat → Nat) (q : Nat) (EB : Nat → Nat) (EA : Nat → Nat) (EF : Nat → Nat) (EW : Nat → Nat) (EL : Nat → Nat) (EU : Nat → Nat) (br : Nat) (WT : Nat → Nat) (ww : Nat) (TY : Nat → Nat) (KS KL KW : Nat → Nat) (n A : Nat) (hn : n ≤ 24) (hk : ∀ k, k < n → Wf (KS k) (KL k)) (hw0 : Wf s A) (hR : RN NW KS KL KW n) (hRW : RW WD s A) (hso : Srt KS KL n) (BB BD BM BL BF BA BK : Nat → Nat) (hTr : TrX (gapF KS KL) n BB BD BM BL BF BA BK) (hv : ∀ k, k < n → KW k ≤ 9999) (j : Nat) (hj : j < n) (x : Int32) (hx0 : x < 0) (sz : Nat) : WR l yX6_way cX6_way 5 (some .int) (rmN 5 116) D (ty3 cI cJ cZ) [.ref m0, .int (nI j), .int x] [(m0, .inr (6, [.ref nw, .ref ps, .int (nI u), .ref im, .ref mk, .int (nI sd), .ref wd, .int (nI s), .ref so, .int (nI q), .ref mb, .ref ma, .ref mf, .ref mw, .ref ml, .ref mu, .int (nI br), .ref wt, .int (nI ww), .ref ty])), (nw, .inl (cI, 241, .inl (nF NW))), (ps, .inl (cI, 4820, .inl (nF PS))), (im, .inl (cI, 484, .inl (nF IM))), (mk, .inl (cZ, 2, .inl (nF MK))), (wd, .inl (cI, 8, .inl (nF WD))), (so, .inl (cI, 24, .inl (nF SO))), (mb, .inl (cI, 24, .inl (nF EB))), (ma, .inl (cI, 24, .inl (nF EA))), (mf, .inl (cI, 24, .inl (nF EF))), (mw, .inl (cI, 24, .inl (nF EW))), (ml, .inl (cI, 24, .inl (nF EL))), (mu, .inl (cI, 24, .inl (oF EU))), (wt, .inl (cI, 200, .inl (oF WT))), (ty, .inl (cI, 8, .inl (nF TY)))] sz (fun x w => x = some (.int (oI 0)) ∧ ∃ (SO : Nat → Nat) (q : Nat) (EB EA EF EW EL EU : Nat → Nat) (br : Nat) (WT : Nat → Nat) (ww : Nat), w = [(m0, .inr (6, [.ref nw, .ref ps, .int (nI u), .ref im, .ref mk, .int (nI sd), .ref wd, .int (nI s), .ref so, .int (nI q), .ref mb, .ref ma, .ref mf, .ref mw, .ref ml, .ref mu, .int (nI br), .ref wt, .int (nI ww), .ref ty])), (nw, .inl (cI, 241, .inl (nF NW))), (ps, .inl (cI, 4820, .inl (nF PS))), (im, .inl (cI, 484, .inl (nF IM))), (mk, .inl (cZ, 2, .inl (nF MK))), (wd, .inl (cI, 8, .inl (nF WD))), (so, .inl (cI, 24, .inl (nF SO))), (mb, .inl (cI, 24, .inl (nF EB))), (ma, .inl (cI, 24, .inl (nF EA))), (mf, .inl (cI, 24, .inl (nF EF))), (mw, .inl (cI, 24, .inl (nF EW))), (ml, .inl (cI, 24, .inl (nF EL))), (mu, .inl (cI, 24, .inl (oF EU))), (wt, .inl (cI, 200, .inl (oF WT))), (ty, .inl (cI, 8, .inl (nF TY)))]) := by
  have hs8 := hw0.1
  have hA64 := hw0.2.1
  have hN0 := hR.1
  have hBK := tf_BK hTr hn
  have hDK := tf_DK hTr hn
  have hp := plc_le KS KL n s A
  have hcb := cbl_le KS KL n s A
  have hfl := fnd_le KS KL n s A
  refine wr_start (by decide) (Nat.le_of_ble_eq_true rfl) ?_
  intro pp ee ss mm below meth cd AA C0 hAA hP hK hD hS hN hnm ls hl
  obtain ⟨hx, hb, hr, hml, hown, hts, hlk⟩ := C0
  have hown : ss.vm.findClass RX6 = some mm.cls := hown
  have hl : lv_has ls 5 [(0, .ref m0), (1, .int (nI j)), (2, .int x)] := hl
  have hP : va_P D vwCl [(m0, .inr (6, [.ref nw, .ref ps, .int (nI u), .ref im, .ref mk, .int (nI sd), .ref wd, .int (nI s), .ref so, .int (nI q), .ref mb, .ref ma, .ref mf, .ref mw, .ref ml, .ref mu, .int (nI br), .ref wt, .int (nI ww), .ref ty])), (nw, .inl (cI, 241, .inl (nF NW))), (ps, .inl (cI, 4820, .inl (nF PS))), (im, .inl (cI, 484, .inl (nF IM))), (mk, .inl (cZ, 2, .inl (nF MK))), (wd, .inl (cI, 8, .inl (nF WD))), (so, .inl (cI, 24, .inl (nF SO))), (mb, .inl (cI, 24, .inl (nF EB))), (ma, .inl (cI, 24, .inl (nF EA))), (mf, .inl (cI, 24, .inl (nF EF))), (mw, .inl (cI, 24, .inl (nF EW))), (ml, .inl (cI, 24, .inl (nF EL))), (mu, .inl (cI, 24, .inl (oF EU))), (wt, .inl (cI, 200, .inl (oF WT))), (ty, .inl (cI, 8, .inl (nF TY)))] ss.heap := hP
  refine lv_aload_n hx hb dX6_way_0 rfl (lv_at hl 0 rfl) ?_
  refine lv_iload_n hx hb dX6_way_1 rfl (lv_at hl 1 rfl) ?_
  refine ro_V (As := [.int (nI j)]) (rest := []) ⟨hx, hb, hml, hown, hts⟩ (c_X6_isKey l D cI cJ cZ m0 nw ps im mk wd so mb ma mf mw ml mu wt ty NW PS u IM MK sd WD s SO q EB EA EF EW EL EU br WT ww TY KS KL KW n A hn hk hw0 hR hRW j (by omega)) (k_X6_85 hts ⟨Nat.le_of_ble_eq_true rfl, Nat.le_of_ble_eq_true rfl⟩) hK hP 0 rfl rfl rfl [0, 1, 2, 3, 4, 5, 6, 7, 8, 9, 10, 11, 12, 13, 14] rfl rfl hl.1 rfl (Nat.le_of_ble_eq_true rfl) dX6_way_2 ⟨Nat.le_of_ble_eq_true rfl, Nat.le_of_ble_eq_true rfl⟩ ?_
  refine b_if_ne (tgt := 11) hx hb dX6_way_5 (by decide) (fun c1 => ?_) (fun c1 => ?_)
  ·
    refine lv_aload_n hx hb dX6_way_11 rfl (lv_at hl 0 rfl) ?_
    refine lv_iconst (v := oI 0) hx hb dX6_way_12 (by decide +kernel) ?_
    refine wr_V (As := [.int (oI 0)]) (rest := []) (wc := [(m0, .inr (6, [.ref nw, .ref ps, .int (nI u), .ref im, .ref mk, .int (nI sd), .ref wd, .int (nI s), .ref so, .int (nI q), .ref mb, .ref ma, .ref mf, .ref mw, .ref ml, .ref mu, .int (nI br), .ref wt, .int (nI ww), .ref ty])), (nw, .inl (cI, 241, .inl (nF NW))), (ps, .inl (cI, 4820, .inl (nF PS))), (im, .inl (cI, 484, .inl (nF IM))), (mk, .inl (cZ, 2, .inl (nF MK))), (wd, .inl (cI, 8, .inl (nF WD))), (so, .inl (cI, 24, .inl (nF SO))), (mb, .inl (cI, 24, .inl (nF EB))), (ma, .inl (cI, 24, .inl (nF EA))), (mf, .inl (cI, 24, .inl (nF EF))), (mw, .inl (cI, 24, .inl (nF EW))), (ml, .inl (cI, 24, .inl (nF EL))), (mu, .inl (cI, 24, .inl (oF EU))), (wt, .inl (cI, 200, .inl (oF WT))), (ty, .inl (cI, 8, .inl (nF TY)))]) (wr := []) ⟨hx, hb, hml, hown, hts⟩ (c_X6_findsBut_all l D cI cJ cZ m0 nw ps im mk wd so mb ma mf mw ml mu wt ty NW PS u IM MK sd WD s SO q EB EA EF EW EL EU br WT ww TY KS KL KW n A hn hk hw0 hR hRW hso _) (k_X6_119 hts ⟨Nat.le_of_ble_eq_true rfl, Nat.le_of_ble_eq_true rfl⟩) hK hN hP hD hS hAA 0 rfl rfl rfl [0, 1, 2, 3, 4, 5, 6, 7, 8, 9, 10, 11, 12, 13, 14] [] rfl rfl (by decide) (by decide) (by decide) rfl hl.1 rfl (Nat.le_of_ble_eq_true rfl) dX6_way_13 ⟨Nat.le_of_ble_eq_true rfl, Nat.le_of_ble_eq_true rfl⟩ (fun v4 w5 H locs hp3 hP hD hS => ?_)
    obtain ⟨rfl, SOh2, EBh2, EAh2, EFh2, EWh2, ELh2, EUh2, WTh2, rfl, hTmh2⟩ := hp3
    have hE : ∀ b, b < n - 1 → EFh2 b ≤ 24 ∧ 1 ≤ EWh2 b ∧ EWh2 b ≤ 24 := fun b hb2 => by have := tm_in hTmh2 (b := b) (by omega); omega
    have hTm := hTmh2
    have hP : va_P D vwCl [(m0, .inr (6, [.ref nw, .ref ps, .int (nI u), .ref im, .ref mk, .int (nI sd), .ref wd, .int (nI s), .ref so, .int (nI n), .ref mb, .ref ma, .ref mf, .ref mw, .ref ml, .ref mu, .int (nI (n - 1)), .ref wt, .int (nI 0), .ref ty])), (nw, .inl (cI, 241, .inl (nF NW))), (ps, .inl (cI, 4820, .inl (nF PS))), (im, .inl (cI, 484, .inl (nF IM))), (mk, .inl (cZ, 2, .inl (nF MK))), (wd, .inl (cI, 8, .inl (nF WD))), (so, .inl (cI, 24, .inl (nF SOh2))), (mb, .inl (cI, 24, .inl (nF EBh2))), (ma, .inl (cI, 24, .inl (nF EAh2))), (mf, .inl (cI, 24, .inl (nF EFh2))), (mw, .inl (cI, 24, .inl (nF EWh2))), (ml, .inl (cI, 24, .inl (nF ELh2))), (mu, .inl (cI, 24, .inl (oF EUh2))), (wt, .inl (cI, 200, .inl (oF WTh2))), (ty, .inl (cI, 8, .inl (nF TY)))] H := hP.sub [0, 1, 2, 3, 4, 5, 6, 7, 8, 9, 10, 11, 12, 13, 14] rfl
    have hD : va_D AA [(m0, .inr (6, [.ref nw, .ref ps, .int (nI u), .ref im, .ref mk, .int (nI sd), .ref wd, .int (nI s), .ref so, .int (nI n), .ref mb, .ref ma, .ref mf, .ref mw, .ref ml, .ref mu, .int (nI (n - 1)), .ref wt, .int (nI 0), .ref ty])), (nw, .inl (cI, 241, .inl (nF NW))), (ps, .inl (cI, 4820, .inl (nF PS))), (im, .inl (cI, 484, .inl (nF IM))), (mk, .inl (cZ, 2, .inl (nF MK))), (wd, .inl (cI, 8, .inl (nF WD))), (so, .inl (cI, 24, .inl (nF SOh2))), (mb, .inl (cI, 24, .inl (nF EBh2))), (ma, .inl (cI, 24, .inl (nF EAh2))), (mf, .inl (cI, 24, .inl (nF EFh2))), (mw, .inl (cI, 24, .inl (nF EWh2))), (ml, .inl (cI, 24, .inl (nF ELh2))), (mu, .inl (cI, 24, .inl (oF EUh2))), (wt, .inl (cI, 200, .inl (oF WTh2))), (ty, .inl (cI, 8, .inl (nF TY)))] := hD.sub [0, 1, 2, 3, 4, 5, 6, 7, 8, 9, 10, 11, 12, 13, 14] (by decide) rfl
    refine lv_iconst (v := nI 0) hx hb dX6_way_16 (by decide +kernel) ?_
    refine lv_istore_n (lv' := [(3, .int (nI 0)), (0, .ref m0), (1, .int (nI j)), (2, .int x)]) hx hb dX6_way_17 rfl hl (by decide) rfl (fun ls hl => ?_)
    refine lv_iconst (v := nI 0) hx hb dX6_way_18 (by decide +kernel) ?_
    refine lv_istore (lv' := [(4, .int (nI 0)), (3, .int (nI 0)), (0, .ref m0), (1, .int (nI j)), (2, .int x)]) hx hb dX6_way_19 hl (by decide) rfl (fun ls hl => ?_)
    have loop21 : ∀ (d : Nat) (b : Nat) (g : Nat) (H : Heap) (locs : List Loc) (ls : Array Slot), n - 1 - b < d → (b ≤ n - 1) → (g = dpt EFh2 EWh2 b j) → va_P D vwCl [(m0, .inr (6, [.ref nw, .ref ps, .int (nI u), .ref im, .ref mk, .int (nI sd), .ref wd, .int (nI s), .ref so, .int (nI n), .ref mb, .ref ma, .ref mf, .ref mw, .ref ml, .ref mu, .int (nI (n - 1)), .ref wt, .int (nI 0), .ref ty])), (nw, .inl (cI, 241, .inl (nF NW))), (ps, .inl (cI, 4820, .inl (nF PS))), (im, .inl (cI, 484, .inl (nF IM))), (mk, .inl (cZ, 2, .inl (nF MK))), (wd, .inl (cI, 8, .inl (nF WD))), (so, .inl (cI, 24, .inl (nF SOh2))), (mb, .inl (cI, 24, .inl (nF EBh2))), (ma, .inl (cI, 24, .inl (nF EAh2))), (mf, .inl (cI, 24, .inl (nF EFh2))), (mw, .inl (cI, 24, .inl (nF EWh2))), (ml, .inl (cI, 24, .inl (nF ELh2))), (mu, .inl (cI, 24, .inl (oF EUh2))), (wt, .inl (cI, 200, .inl (oF WTh2))), (ty, .inl (cI, 8, .inl (nF TY)))] H → va_D AA [(m0, .inr (6, [.ref nw, .ref ps, .int (nI u), .ref im, .ref mk, .int (nI sd), .ref wd, .int (nI s), .ref so, .int (nI n), .ref mb, .ref ma, .ref mf, .ref mw, .ref ml, .ref mu, .int (nI (n - 1)), .ref wt, .int (nI 0), .ref ty])), (nw, .inl (cI, 241, .inl (nF NW))), (ps, .inl (cI, 4820, .inl (nF PS))), (im, .inl (cI, 484, .inl (nF IM))), (mk, .inl (cZ, 2, .inl (nF MK))), (wd, .inl (cI, 8, .inl (nF WD))), (so, .inl (cI, 24, .inl (nF SOh2))), (mb, .inl (cI, 24, .inl (nF EBh2))), (ma, .inl (cI, 24, .inl (nF EAh2))), (mf, .inl (cI, 24, .inl (nF EFh2))), (mw, .inl (cI, 24, .inl (nF EWh2))), (ml, .inl (cI, 24, .inl (nF ELh2))), (mu, .inl (cI, 24, .inl (oF EUh2))), (wt, .inl (cI, 200, .inl (oF WTh2))), (ty, .inl (cI, 8, .inl (nF TY)))] → va_S AA ss.heap H locs → lv_has ls 5 [(0, .ref m0), (1, .int (nI j)), (2, .int x), (3, .int (nI g)), (4, .int (nI b))] → W pp l ee (rmN 5 116) ss mm [.ref m0, .int (nI j), .int x].toArray below meth cd H locs 0 0 (MQ below (QW D AA (fun x w => x = some (.int (oI 0)) ∧ ∃ (SO : Nat → Nat) (q : Nat) (EB EA EF EW EL EU : Nat → Nat) (br : Nat) (WT : Nat → Nat) (ww : Nat), w = [(m0, .inr (6, [.ref nw, .ref ps, .int (nI u), .ref im, .ref mk, .int (nI sd), .ref wd, .int (nI s), .ref so, .int (nI q), .ref mb, .ref ma, .ref mf, .ref mw, .ref ml, .ref mu, .int (nI br), .ref wt, .int (nI ww), .ref ty])), (nw, .inl (cI, 241, .inl (nF NW))), (ps, .inl (cI, 4820, .inl (nF PS))), (im, .inl (cI, 484, .inl (nF IM))), (mk, .inl (cZ, 2, .inl (nF MK))), (wd, .inl (cI, 8, .inl (nF WD))), (so, .inl (cI, 24, .inl (nF SO))), (mb, .inl (cI, 24, .inl (nF EB))), (ma, .inl (cI, 24, .inl (nF EA))), (mf, .inl (cI, 24, .inl (nF EF))), (mw, .inl (cI, 24, .inl (nF EW))), (ml, .inl (cI, 24, .inl (nF EL))), (mu, .inl (cI, 24, .inl (oF EU))), (wt, .inl (cI, 200, .inl (oF WT))), (ty, .inl (cI, 8, .inl (nF TY)))])) [.ref m0, .int (nI j), .int x].toArray ss 0 0 AA) (F0 mm 21 ls []) := by
      intro d
      induction d with
      | zero => intro b g H locs ls h; exact absurd h (Nat.not_lt_zero _)
      | succ d ih21 =>
        intro b g H locs ls hd21 hbn hg hP hD hS hl
        have hg1 := dpt_le EFh2 EWh2 b j
        refine lv_iload hx hb dX6_way_21 (lv_at hl 4 rfl) ?_
        refine lv_aload_n hx hb dX6_way_23 rfl (lv_at hl 0 rfl) ?_
        refine va_get (D := D) (ci := 6) (v := .int (nI (n - 1))) (C := RX6) (T := TX6) (N := 20) hx hb hts inX6 hown hK hP 0 rfl rfl 16 (by decide) (hts _ mf_X6_97) (fun _ h9 => h9) rfl dX6_way_24 ?_
        refine n_ge (tgt := 57) hx hb dX6_way_27 (by decide) (by omega) (by omega) (fun c6 => ?_) (fun c6 => ?_)
        ·
          refine lv_iconst (v := oI 0) hx hb dX6_way_57 (by decide +kernel) ?_
          exact wr_iret hx hb hr hlk hP hD hS dX6_way_58 (⟨rfl, SOh2, n, EBh2, EAh2, EFh2, EWh2, ELh2, EUh2, n - 1, WTh2, 0, rfl⟩)
        ·
          refine lv_aload_n hx hb dX6_way_30 rfl (lv_at hl 0 rfl) ?_
          refine lv_iload hx hb dX6_way_31 (lv_at hl 4 rfl) ?_
          refine lv_iload_n hx hb dX6_way_33 rfl (lv_at hl 1 rfl) ?_
          refine ro_V (As := [.int (nI b), .int (nI j)]) (rest := []) ⟨hx, hb, hml, hown, hts⟩ (c_X6_isBelow l D cI cJ cZ m0 nw ps im mk wd so mb ma mf mw ml mu wt ty NW PS u IM MK sd WD s SOh2 n EBh2 EAh2 EFh2 EWh2 ELh2 EUh2 (n - 1) WTh2 0 TY (by omega) hE b j (by omega) (by omega)) (k_X6_110 hts ⟨Nat.le_of_ble_eq_true rfl, Nat.le_of_ble_eq_true rfl⟩) hK hP 0 rfl rfl rfl [0, 1, 2, 3, 4, 5, 6, 7, 8, 9, 10, 11, 12, 13, 14] rfl rfl hl.1 rfl (Nat.le_of_ble_eq_true rfl) dX6_way_34 ⟨Nat.le_of_ble_eq_true rfl, Nat.le_of_ble_eq_true rfl⟩ ?_
          refine b_if_eq (tgt := 51) hx hb dX6_way_37 (by decide) (fun c7 => ?_) (fun c7 => ?_)
          ·
            have e1 := c7
            refine lv_iinc (v := nI (b + 1)) (lv' := [(4, .int (nI (b + 1))), (0, .ref m0), (1, .int (nI j)), (2, .int x), (3, .int (nI g))]) hx hb dX6_way_51 hl (k := 4) rfl (nI_add b 1) (by decide) rfl (fun ls hl => ?_)
            refine lv_goto (tgt := 21) hx hb dX6_way_54 (by decide) ?_
            exact ih21 (b + 1) g _ _ ls (by omega) (by omega) (by rw [dpt_s, ← hg]; first | rw [if_pos e1] | (rw [if_neg e1]; rfl) | rw [if_neg e1]) hP hD hS (lv_sub hl [1, 2, 3, 4, 0] rfl)
          ·
            have e1 := c7
            refine lv_iload_n hx hb dX6_way_40 rfl (lv_at hl 3 rfl) ?_
            refine lv_iload_n hx hb dX6_way_41 rfl (lv_at hl 2 rfl) ?_
            refine lv_icmp_ne (tgt := 48) hx hb dX6_way_42 (by decide) (fun c8 => ?_) (fun c8 => ?_)
            ·
              refine lv_iinc (v := nI (g + 1)) (lv' := [(3, .int (nI (g + 1))), (0, .ref m0), (1, .int (nI j)), (2, .int x), (4, .int (nI b))]) hx hb dX6_way_48 hl (k := 3) rfl (nI_add g 1) (by decide) rfl (fun ls hl => ?_)
              refine lv_iinc (v := nI (b + 1)) (lv' := [(4, .int (nI (b + 1))), (3, .int (nI (g + 1))), (0, .ref m0), (1, .int (nI j)), (2, .int x)]) hx hb dX6_way_51 hl (k := 4) rfl (nI_add b 1) (by decide) rfl (fun ls hl => ?_)
              refine lv_goto (tgt := 21) hx hb dX6_way_54 (by decide) ?_
              exact ih21 (b + 1) (g + 1) _ _ ls (by omega) (by omega) (by rw [dpt_s, ← hg]; first | rw [if_pos e1] | (rw [if_neg e1]; rfl) | rw [if_neg e1]) hP hD hS (lv_sub hl [2, 3, 4, 1, 0] rfl)
            ·
              exact absurd (by rw [c8]; exact hx0) (nI_pos (show g < 2 ^ 31 by omega))
    exact loop21 _ 0 0 _ _ ls (Nat.lt_succ_self _) (Nat.zero_le _) rfl hP hD hS (lv_sub hl [2, 3, 4, 1, 0] rfl)
  ·
    exact (c1 (by omega)).elim
set_option maxHeartbeats 4000000 in
set_option maxRecDepth 100000 in
theorem c_X6_blind_neg (l : Launch) (D : va_G) (cI cJ cZ : ClassId) (m0 nw ps im mk wd so mb ma mf mw ml mu wt ty : Nat) (NW : Nat → Nat) (PS : Nat → Nat) (u : Nat) (IM : Nat → Nat) (MK : Nat → Nat) (sd : Nat) (WD : Nat → Nat) (s : Nat) (SO : Nat → Nat) (q : Nat) (EB : Nat → Nat) (EA : Nat → Nat) (EF : Nat → Nat) (EW : Nat → Nat) (EL : Nat → Nat) (EU : Nat → Nat) (br : Nat) (WT : Nat → Nat) (ww : Nat) (TY : Nat → Nat) (KS KL KW : Nat → Nat) (n A : Nat) (hn : n ≤ 24) (hk : ∀ k, k < n → Wf (KS k) (KL k)) (hw0 : Wf s A) (hR : RN NW KS KL KW n) (hRW : RW WD s A) (hso : Srt KS KL n) (BB BD BM BL BF BA BK : Nat → Nat) (hTr : TrX (gapF KS KL) n BB BD BM BL BF BA BK) (hv : ∀ k, k < n → KW k ≤ 9999) (x : Int32) (hx0 : x < 0) (sz : Nat) : WR l yX6_blind cX6_blind 7 (some .int) (rmN 5 116) D (ty3 cI cJ cZ) [.ref m0, .int x] [(m0, .inr (6, [.ref nw, .ref ps, .int (nI u), .ref im, .ref mk, .int (nI sd), .ref wd, .int (nI s), .ref so, .int (nI q), .ref mb, .ref ma, .ref mf, .ref mw, .ref ml, .ref mu, .int (nI br), .ref wt, .int (nI ww), .ref ty])), (nw, .inl (cI, 241, .inl (nF NW))), (ps, .inl (cI, 4820, .inl (nF PS))), (im, .inl (cI, 484, .inl (nF IM))), (mk, .inl (cZ, 2, .inl (nF MK))), (wd, .inl (cI, 8, .inl (nF WD))), (so, .inl (cI, 24, .inl (nF SO))), (mb, .inl (cI, 24, .inl (nF EB))), (ma, .inl (cI, 24, .inl (nF EA))), (mf, .inl (cI, 24, .inl (nF EF))), (mw, .inl (cI, 24, .inl (nF EW))), (ml, .inl (cI, 24, .inl (nF EL))), (mu, .inl (cI, 24, .inl (oF EU))), (wt, .inl (cI, 200, .inl (oF WT))), (ty, .inl (cI, 8, .inl (nF TY)))] sz (fun x w => x = some (.int (-1000000002)) ∧ ∃ (SO : Nat → Nat) (q : Nat) (EB EA EF EW EL EU : Nat → Nat) (br : Nat) (WT : Nat → Nat) (ww : Nat), w = [(m0, .inr (6, [.ref nw, .ref ps, .int (nI u), .ref im, .ref mk, .int (nI sd), .ref wd, .int (nI s), .ref so, .int (nI q), .ref mb, .ref ma, .ref mf, .ref mw, .ref ml, .ref mu, .int (nI br), .ref wt, .int (nI ww), .ref ty])), (nw, .inl (cI, 241, .inl (nF NW))), (ps, .inl (cI, 4820, .inl (nF PS))), (im, .inl (cI, 484, .inl (nF IM))), (mk, .inl (cZ, 2, .inl (nF MK))), (wd, .inl (cI, 8, .inl (nF WD))), (so, .inl (cI, 24, .inl (nF SO))), (mb, .inl (cI, 24, .inl (nF EB))), (ma, .inl (cI, 24, .inl (nF EA))), (mf, .inl (cI, 24, .inl (nF EF))), (mw, .inl (cI, 24, .inl (nF EW))), (ml, .inl (cI, 24, .inl (nF EL))), (mu, .inl (cI, 24, .inl (oF EU))), (wt, .inl (cI, 200, .inl (oF WT))), (ty, .inl (cI, 8, .inl (nF TY)))]) := by
  have hs8 := hw0.1
  have hA64 := hw0.2.1
  have hN0 := hR.1
  have hBK := tf_BK hTr hn
  have hDK := tf_DK hTr hn
  have hp := plc_le KS KL n s A
  have hcb := cbl_le KS KL n s A
  have hfl := fnd_le KS KL n s A
  refine wr_start (by decide) (Nat.le_of_ble_eq_true rfl) ?_
  intro pp ee ss mm below meth cd AA C0 hAA hP hK hD hS hN hnm ls hl
  obtain ⟨hx, hb, hr, hml, hown, hts, hlk⟩ := C0
  have hown : ss.vm.findClass RX6 = some mm.cls := hown
  have hl : lv_has ls 7 [(0, .ref m0), (1, .int x)] := hl
  have hP : va_P D vwCl [(m0, .inr (6, [.ref nw, .ref ps, .int (nI u), .ref im, .ref mk, .int (nI sd), .ref wd, .int (nI s), .ref so, .int (nI q), .ref mb, .ref ma, .ref mf, .ref mw, .ref ml, .ref mu, .int (nI br), .ref wt, .int (nI ww), .ref ty])), (nw, .inl (cI, 241, .inl (nF NW))), (ps, .inl (cI, 4820, .inl (nF PS))), (im, .inl (cI, 484, .inl (nF IM))), (mk, .inl (cZ, 2, .inl (nF MK))), (wd, .inl (cI, 8, .inl (nF WD))), (so, .inl (cI, 24, .inl (nF SO))), (mb, .inl (cI, 24, .inl (nF EB))), (ma, .inl (cI, 24, .inl (nF EA))), (mf, .inl (cI, 24, .inl (nF EF))), (mw, .inl (cI, 24, .inl (nF EW))), (ml, .inl (cI, 24, .inl (nF EL))), (mu, .inl (cI, 24, .inl (oF EU))), (wt, .inl (cI, 200, .inl (oF WT))), (ty, .inl (cI, 8, .inl (nF TY)))] ss.heap := hP
  refine lv_iload_n hx hb dX6_blind_0 rfl (lv_at hl 1 rfl) ?_
  refine lv_iconst (v := nI 0) hx hb dX6_blind_1 (by decide +kernel) ?_
  refine lv_iconst (v := nI 1) hx hb dX6_blind_2 (by decide +kernel) ?_
  refine ro_S (As := [.int x, .int (nI 0), .int (nI 1)]) (rest := []) ⟨hx, hb, hml, hown, hts⟩ (c_X6_in_neg l D cI cJ cZ x ((nI 1)) 0 hx0 (by omega)) (k_X6_79 hts ⟨Nat.le_of_ble_eq_true rfl, Nat.le_of_ble_eq_true rfl⟩) hK hP [] rfl rfl hl.1 rfl (Nat.le_of_ble_eq_true rfl) dX6_blind_3 ⟨Nat.le_of_ble_eq_true rfl, Nat.le_of_ble_eq_true rfl⟩ ?_
  refine n_if_ne (tgt := 12) hx hb dX6_blind_6 (by decide) (by decide) (fun h9 => absurd rfl h9) (fun _ => ?_)
  refine lv_ldc hx hb hown (hts _ mk_X6_83) dX6_blind_9 ?_
  exact wr_iret hx hb hr hlk hP hD hS dX6_blind_11 (⟨rfl, SO, q, EB, EA, EF, EW, EL, EU, br, WT, ww, rfl⟩)
set_option maxHeartbeats 4000000 in
set_option maxRecDepth 100000 in
theorem c_X6_blind_big (l : Launch) (D : va_G) (cI cJ cZ : ClassId) (m0 nw ps im mk wd so mb ma mf mw ml mu wt ty : Nat) (NW : Nat → Nat) (PS : Nat → Nat) (u : Nat) (IM : Nat → Nat) (MK : Nat → Nat) (sd : Nat) (WD : Nat → Nat) (s : Nat) (SO : Nat → Nat) (q : Nat) (EB : Nat → Nat) (EA : Nat → Nat) (EF : Nat → Nat) (EW : Nat → Nat) (EL : Nat → Nat) (EU : Nat → Nat) (br : Nat) (WT : Nat → Nat) (ww : Nat) (TY : Nat → Nat) (KS KL KW : Nat → Nat) (n A : Nat) (hn : n ≤ 24) (hk : ∀ k, k < n → Wf (KS k) (KL k)) (hw0 : Wf s A) (hR : RN NW KS KL KW n) (hRW : RW WD s A) (hso : Srt KS KL n) (BB BD BM BL BF BA BK : Nat → Nat) (hTr : TrX (gapF KS KL) n BB BD BM BL BF BA BK) (hv : ∀ k, k < n → KW k ≤ 9999) (j : Nat) (hj : j < 2 ^ 31) (hjb : 1 < j) (sz : Nat) : WR l yX6_blind cX6_blind 7 (some .int) (rmN 5 116) D (ty3 cI cJ cZ) [.ref m0, .int (nI j)] [(m0, .inr (6, [.ref nw, .ref ps, .int (nI u), .ref im, .ref mk, .int (nI sd), .ref wd, .int (nI s), .ref so, .int (nI q), .ref mb, .ref ma, .ref mf, .ref mw, .ref ml, .ref mu, .int (nI br), .ref wt, .int (nI ww), .ref ty])), (nw, .inl (cI, 241, .inl (nF NW))), (ps, .inl (cI, 4820, .inl (nF PS))), (im, .inl (cI, 484, .inl (nF IM))), (mk, .inl (cZ, 2, .inl (nF MK))), (wd, .inl (cI, 8, .inl (nF WD))), (so, .inl (cI, 24, .inl (nF SO))), (mb, .inl (cI, 24, .inl (nF EB))), (ma, .inl (cI, 24, .inl (nF EA))), (mf, .inl (cI, 24, .inl (nF EF))), (mw, .inl (cI, 24, .inl (nF EW))), (ml, .inl (cI, 24, .inl (nF EL))), (mu, .inl (cI, 24, .inl (oF EU))), (wt, .inl (cI, 200, .inl (oF WT))), (ty, .inl (cI, 8, .inl (nF TY)))] sz (fun x w => x = some (.int (-1000000002)) ∧ ∃ (SO : Nat → Nat) (q : Nat) (EB EA EF EW EL EU : Nat → Nat) (br : Nat) (WT : Nat → Nat) (ww : Nat), w = [(m0, .inr (6, [.ref nw, .ref ps, .int (nI u), .ref im, .ref mk, .int (nI sd), .ref wd, .int (nI s), .ref so, .int (nI q), .ref mb, .ref ma, .ref mf, .ref mw, .ref ml, .ref mu, .int (nI br), .ref wt, .int (nI ww), .ref ty])), (nw, .inl (cI, 241, .inl (nF NW))), (ps, .inl (cI, 4820, .inl (nF PS))), (im, .inl (cI, 484, .inl (nF IM))), (mk, .inl (cZ, 2, .inl (nF MK))), (wd, .inl (cI, 8, .inl (nF WD))), (so, .inl (cI, 24, .inl (nF SO))), (mb, .inl (cI, 24, .inl (nF EB))), (ma, .inl (cI, 24, .inl (nF EA))), (mf, .inl (cI, 24, .inl (nF EF))), (mw, .inl (cI, 24, .inl (nF EW))), (ml, .inl (cI, 24, .inl (nF EL))), (mu, .inl (cI, 24, .inl (oF EU))), (wt, .inl (cI, 200, .inl (oF WT))), (ty, .inl (cI, 8, .inl (nF TY)))]) := by
  have hs8 := hw0.1
  have hA64 := hw0.2.1
  have hN0 := hR.1
  have hBK := tf_BK hTr hn
  have hDK := tf_DK hTr hn
  have hp := plc_le KS KL n s A
  have hcb := cbl_le KS KL n s A
  have hfl := fnd_le KS KL n s A
  refine wr_start (by decide) (Nat.le_of_ble_eq_true rfl) ?_
  intro pp ee ss mm below meth cd AA C0 hAA hP hK hD hS hN hnm ls hl
  obtain ⟨hx, hb, hr, hml, hown, hts, hlk⟩ := C0
  have hown : ss.vm.findClass RX6 = some mm.cls := hown
  have hl : lv_has ls 7 [(0, .ref m0), (1, .int (nI j))] := hl
  have hP : va_P D vwCl [(m0, .inr (6, [.ref nw, .ref ps, .int (nI u), .ref im, .ref mk, .int (nI sd), .ref wd, .int (nI s), .ref so, .int (nI q), .ref mb, .ref ma, .ref mf, .ref mw, .ref ml, .ref mu, .int (nI br), .ref wt, .int (nI ww), .ref ty])), (nw, .inl (cI, 241, .inl (nF NW))), (ps, .inl (cI, 4820, .inl (nF PS))), (im, .inl (cI, 484, .inl (nF IM))), (mk, .inl (cZ, 2, .inl (nF MK))), (wd, .inl (cI, 8, .inl (nF WD))), (so, .inl (cI, 24, .inl (nF SO))), (mb, .inl (cI, 24, .inl (nF EB))), (ma, .inl (cI, 24, .inl (nF EA))), (mf, .inl (cI, 24, .inl (nF EF))), (mw, .inl (cI, 24, .inl (nF EW))), (ml, .inl (cI, 24, .inl (nF EL))), (mu, .inl (cI, 24, .inl (oF EU))), (wt, .inl (cI, 200, .inl (oF WT))), (ty, .inl (cI, 8, .inl (nF TY)))] ss.heap := hP
  refine lv_iload_n hx hb dX6_blind_0 rfl (lv_at hl 1 rfl) ?_
  refine lv_iconst (v := nI 0) hx hb dX6_blind_1 (by decide +kernel) ?_
  refine lv_iconst (v := nI 1) hx hb dX6_blind_2 (by decide +kernel) ?_
  refine ro_S (As := [.int (nI j), .int (nI 0), .int (nI 1)]) (rest := []) ⟨hx, hb, hml, hown, hts⟩ (c_X6_in l D cI cJ cZ j 0 1 (by omega) (by omega) (by omega)) (k_X6_79 hts ⟨Nat.le_of_ble_eq_true rfl, Nat.le_of_ble_eq_true rfl⟩) hK hP [] rfl rfl hl.1 rfl (Nat.le_of_ble_eq_true rfl) dX6_blind_3 ⟨Nat.le_of_ble_eq_true rfl, Nat.le_of_ble_eq_true rfl⟩ ?_
  refine b_if_ne (tgt := 12) hx hb dX6_blind_6 (by decide) (fun c1 => ?_) (fun c1 => ?_)
  ·
    exact absurd c1 (by omega)
  ·
    refine lv_ldc hx hb hown (hts _ mk_X6_83) dX6_blind_9 ?_
    exact wr_iret hx hb hr hlk hP hD hS dX6_blind_11 (⟨rfl, SO, q, EB, EA, EF, EW, EL, EU, br, WT, ww, rfl⟩)
set_option maxHeartbeats 4000000 in
set_option maxRecDepth 100000 in
theorem c_X6_blind_0 (l : Launch) (D : va_G) (cI cJ cZ : ClassId) (m0 nw ps im mk wd so mb ma mf mw ml mu wt ty : Nat) (NW : Nat → Nat) (PS : Nat → Nat) (u : Nat) (IM : Nat → Nat) (MK : Nat → Nat) (sd : Nat) (WD : Nat → Nat) (s : Nat) (SO : Nat → Nat) (q : Nat) (EB : Nat → Nat) (EA : Nat → Nat) (EF : Nat → Nat) (EW : Nat → Nat) (EL : Nat → Nat) (EU : Nat → Nat) (br : Nat) (WT : Nat → Nat) (ww : Nat) (TY : Nat → Nat) (KS KL KW : Nat → Nat) (n A : Nat) (hn : n ≤ 24) (hk : ∀ k, k < n → Wf (KS k) (KL k)) (hw0 : Wf s A) (hR : RN NW KS KL KW n) (hRW : RW WD s A) (hso : Srt KS KL n) (BB BD BM BL BF BA BK : Nat → Nat) (hTr : TrX (gapF KS KL) n BB BD BM BL BF BA BK) (hv : ∀ k, k < n → KW k ≤ 9999)  (sz : Nat) : WR l yX6_blind cX6_blind 7 (some .int) (rmN 5 116) D (ty3 cI cJ cZ) [.ref m0, .int (nI 0)] [(m0, .inr (6, [.ref nw, .ref ps, .int (nI u), .ref im, .ref mk, .int (nI sd), .ref wd, .int (nI s), .ref so, .int (nI q), .ref mb, .ref ma, .ref mf, .ref mw, .ref ml, .ref mu, .int (nI br), .ref wt, .int (nI ww), .ref ty])), (nw, .inl (cI, 241, .inl (nF NW))), (ps, .inl (cI, 4820, .inl (nF PS))), (im, .inl (cI, 484, .inl (nF IM))), (mk, .inl (cZ, 2, .inl (nF MK))), (wd, .inl (cI, 8, .inl (nF WD))), (so, .inl (cI, 24, .inl (nF SO))), (mb, .inl (cI, 24, .inl (nF EB))), (ma, .inl (cI, 24, .inl (nF EA))), (mf, .inl (cI, 24, .inl (nF EF))), (mw, .inl (cI, 24, .inl (nF EW))), (ml, .inl (cI, 24, .inl (nF EL))), (mu, .inl (cI, 24, .inl (oF EU))), (wt, .inl (cI, 200, .inl (oF WT))), (ty, .inl (cI, 8, .inl (nF TY)))] sz (fun x w => x = some (.int (oI (if n = 0 then 0 else if n = 1 then 1 else kr BB BM BL BF s A (n - 1) 0))) ∧ ∃ (SO : Nat → Nat) (q : Nat) (EB EA EF EW EL EU : Nat → Nat) (br : Nat) (WT : Nat → Nat) (ww : Nat), w = [(m0, .inr (6, [.ref nw, .ref ps, .int (nI u), .ref im, .ref mk, .int (nI sd), .ref wd, .int (nI s), .ref so, .int (nI q), .ref mb, .ref ma, .ref mf, .ref mw, .ref ml, .ref mu, .int (nI br), .ref wt, .int (nI ww), .ref ty])), (nw, .inl (cI, 241, .inl (nF NW))), (ps, .inl (cI, 4820, .inl (nF PS))), (im, .inl (cI, 484, .inl (nF IM))), (mk, .inl (cZ, 2, .inl (nF MK))), (wd, .inl (cI, 8, .inl (nF WD))), (so, .inl (cI, 24, .inl (nF SO))), (mb, .inl (cI, 24, .inl (nF EB))), (ma, .inl (cI, 24, .inl (nF EA))), (mf, .inl (cI, 24, .inl (nF EF))), (mw, .inl (cI, 24, .inl (nF EW))), (ml, .inl (cI, 24, .inl (nF EL))), (mu, .inl (cI, 24, .inl (oF EU))), (wt, .inl (cI, 200, .inl (oF WT))), (ty, .inl (cI, 8, .inl (nF TY)))]) := by
  have hs8 := hw0.1
  have hA64 := hw0.2.1
  have hN0 := hR.1
  have hBK := tf_BK hTr hn
  have hDK := tf_DK hTr hn
  have hp := plc_le KS KL n s A
  have hcb := cbl_le KS KL n s A
  have hfl := fnd_le KS KL n s A
  refine wr_start (by decide) (Nat.le_of_ble_eq_true rfl) ?_
  intro pp ee ss mm below meth cd AA C0 hAA hP hK hD hS hN hnm ls hl
  obtain ⟨hx, hb, hr, hml, hown, hts, hlk⟩ := C0
  have hown : ss.vm.findClass RX6 = some mm.cls := hown
  have hl : lv_has ls 7 [(0, .ref m0), (1, .int (nI 0))] := hl
  have hP : va_P D vwCl [(m0, .inr (6, [.ref nw, .ref ps, .int (nI u), .ref im, .ref mk, .int (nI sd), .ref wd, .int (nI s), .ref so, .int (nI q), .ref mb, .ref ma, .ref mf, .ref mw, .ref ml, .ref mu, .int (nI br), .ref wt, .int (nI ww), .ref ty])), (nw, .inl (cI, 241, .inl (nF NW))), (ps, .inl (cI, 4820, .inl (nF PS))), (im, .inl (cI, 484, .inl (nF IM))), (mk, .inl (cZ, 2, .inl (nF MK))), (wd, .inl (cI, 8, .inl (nF WD))), (so, .inl (cI, 24, .inl (nF SO))), (mb, .inl (cI, 24, .inl (nF EB))), (ma, .inl (cI, 24, .inl (nF EA))), (mf, .inl (cI, 24, .inl (nF EF))), (mw, .inl (cI, 24, .inl (nF EW))), (ml, .inl (cI, 24, .inl (nF EL))), (mu, .inl (cI, 24, .inl (oF EU))), (wt, .inl (cI, 200, .inl (oF WT))), (ty, .inl (cI, 8, .inl (nF TY)))] ss.heap := hP
  refine lv_iload_n hx hb dX6_blind_0 rfl (lv_at hl 1 rfl) ?_
  refine lv_iconst (v := nI 0) hx hb dX6_blind_1 (by decide +kernel) ?_
  refine lv_iconst (v := nI 1) hx hb dX6_blind_2 (by decide +kernel) ?_
  refine ro_S (As := [.int (nI 0), .int (nI 0), .int (nI 1)]) (rest := []) ⟨hx, hb, hml, hown, hts⟩ (c_X6_in l D cI cJ cZ 0 0 1 (by omega) (by omega) (by omega)) (k_X6_79 hts ⟨Nat.le_of_ble_eq_true rfl, Nat.le_of_ble_eq_true rfl⟩) hK hP [] rfl rfl hl.1 rfl (Nat.le_of_ble_eq_true rfl) dX6_blind_3 ⟨Nat.le_of_ble_eq_true rfl, Nat.le_of_ble_eq_true rfl⟩ ?_
  refine b_if_ne (tgt := 12) hx hb dX6_blind_6 (by decide) (fun c1 => ?_) (fun c1 => ?_)
  ·
    refine lv_aload_n hx hb dX6_blind_12 rfl (lv_at hl 0 rfl) ?_
    refine va_get (D := D) (ci := 6) (v := .ref nw) (C := RX6) (T := TX6) (N := 20) hx hb hts inX6 hown hK hP 0 rfl rfl 0 (by decide) (hts _ mf_X6_7) (fun _ h9 => h9) rfl dX6_blind_13 ?_
    refine lv_iconst (v := nI 0) hx hb dX6_blind_16 (by decide +kernel) ?_
    refine n_iald hx hb hK hP 1 0 rfl rfl (k := 0) (by omega) (by decide) dX6_blind_17 ?_
    refine tq (y := nI n) (congrArg nI (hN0)) ?_
    refine n_if_ne (tgt := 31) hx hb dX6_blind_18 (by decide) (by omega) (fun c2 => ?_) (fun c2 => ?_)
    ·
      refine lv_aload_n hx hb dX6_blind_31 rfl (lv_at hl 0 rfl) ?_
      refine lv_iconst (v := oI 0) hx hb dX6_blind_32 (by decide +kernel) ?_
      refine wr_V (As := [.int (oI 0)]) (rest := []) (wc := [(m0, .inr (6, [.ref nw, .ref ps, .int (nI u), .ref im, .ref mk, .int (nI sd), .ref wd, .int (nI s), .ref so, .int (nI q), .ref mb, .ref ma, .ref mf, .ref mw, .ref ml, .ref mu, .int (nI br), .ref wt, .int (nI ww), .ref ty])), (nw, .inl (cI, 241, .inl (nF NW))), (ps, .inl (cI, 4820, .inl (nF PS))), (im, .inl (cI, 484, .inl (nF IM))), (mk, .inl (cZ, 2, .inl (nF MK))), (wd, .inl (cI, 8, .inl (nF WD))), (so, .inl (cI, 24, .inl (nF SO))), (mb, .inl (cI, 24, .inl (nF EB))), (ma, .inl (cI, 24, .inl (nF EA))), (mf, .inl (cI, 24, .inl (nF EF))), (mw, .inl (cI, 24, .inl (nF EW))), (ml, .inl (cI, 24, .inl (nF EL))), (mu, .inl (cI, 24, .inl (oF EU))), (wt, .inl (cI, 200, .inl (oF WT))), (ty, .inl (cI, 8, .inl (nF TY)))]) (wr := []) ⟨hx, hb, hml, hown, hts⟩ (c_X6_findsBut_all l D cI cJ cZ m0 nw ps im mk wd so mb ma mf mw ml mu wt ty NW PS u IM MK sd WD s SO q EB EA EF EW EL EU br WT ww TY KS KL KW n A hn hk hw0 hR hRW hso _) (k_X6_119 hts ⟨Nat.le_of_ble_eq_true rfl, Nat.le_of_ble_eq_true rfl⟩) hK hN hP hD hS hAA 0 rfl rfl rfl [0, 1, 2, 3, 4, 5, 6, 7, 8, 9, 10, 11, 12, 13, 14] [] rfl rfl (by decide) (by decide) (by decide) rfl hl.1 rfl (Nat.le_of_ble_eq_true rfl) dX6_blind_33 ⟨Nat.le_of_ble_eq_true rfl, Nat.le_of_ble_eq_true rfl⟩ (fun v5 w6 H locs hp4 hP hD hS => ?_)
      obtain ⟨rfl, SOh3, EBh3, EAh3, EFh3, EWh3, ELh3, EUh3, WTh3, rfl, hTmh3⟩ := hp4
      have hE : ∀ b, b < n - 1 → EFh3 b ≤ 24 ∧ 1 ≤ EWh3 b ∧ EWh3 b ≤ 24 := fun b hb2 => by have := tm_in hTmh3 (b := b) (by omega); omega
      have hTm := hTmh3
      have hP : va_P D vwCl [(m0, .inr (6, [.ref nw, .ref ps, .int (nI u), .ref im, .ref mk, .int (nI sd), .ref wd, .int (nI s), .ref so, .int (nI n), .ref mb, .ref ma, .ref mf, .ref mw, .ref ml, .ref mu, .int (nI (n - 1)), .ref wt, .int (nI 0), .ref ty])), (nw, .inl (cI, 241, .inl (nF NW))), (ps, .inl (cI, 4820, .inl (nF PS))), (im, .inl (cI, 484, .inl (nF IM))), (mk, .inl (cZ, 2, .inl (nF MK))), (wd, .inl (cI, 8, .inl (nF WD))), (so, .inl (cI, 24, .inl (nF SOh3))), (mb, .inl (cI, 24, .inl (nF EBh3))), (ma, .inl (cI, 24, .inl (nF EAh3))), (mf, .inl (cI, 24, .inl (nF EFh3))), (mw, .inl (cI, 24, .inl (nF EWh3))), (ml, .inl (cI, 24, .inl (nF ELh3))), (mu, .inl (cI, 24, .inl (oF EUh3))), (wt, .inl (cI, 200, .inl (oF WTh3))), (ty, .inl (cI, 8, .inl (nF TY)))] H := hP.sub [0, 1, 2, 3, 4, 5, 6, 7, 8, 9, 10, 11, 12, 13, 14] rfl
      have hD : va_D AA [(m0, .inr (6, [.ref nw, .ref ps, .int (nI u), .ref im, .ref mk, .int (nI sd), .ref wd, .int (nI s), .ref so, .int (nI n), .ref mb, .ref ma, .ref mf, .ref mw, .ref ml, .ref mu, .int (nI (n - 1)), .ref wt, .int (nI 0), .ref ty])), (nw, .inl (cI, 241, .inl (nF NW))), (ps, .inl (cI, 4820, .inl (nF PS))), (im, .inl (cI, 484, .inl (nF IM))), (mk, .inl (cZ, 2, .inl (nF MK))), (wd, .inl (cI, 8, .inl (nF WD))), (so, .inl (cI, 24, .inl (nF SOh3))), (mb, .inl (cI, 24, .inl (nF EBh3))), (ma, .inl (cI, 24, .inl (nF EAh3))), (mf, .inl (cI, 24, .inl (nF EFh3))), (mw, .inl (cI, 24, .inl (nF EWh3))), (ml, .inl (cI, 24, .inl (nF ELh3))), (mu, .inl (cI, 24, .inl (oF EUh3))), (wt, .inl (cI, 200, .inl (oF WTh3))), (ty, .inl (cI, 8, .inl (nF TY)))] := hD.sub [0, 1, 2, 3, 4, 5, 6, 7, 8, 9, 10, 11, 12, 13, 14] (by decide) rfl
      refine lv_iconst (v := nI 0) hx hb dX6_blind_36 (by decide +kernel) ?_
      refine lv_istore_n (lv' := [(2, .int (nI 0)), (0, .ref m0), (1, .int (nI 0))]) hx hb dX6_blind_37 rfl hl (by decide) rfl (fun ls hl => ?_)
      refine lv_aload_n hx hb dX6_blind_38 rfl (lv_at hl 1 rfl) ?_
      refine va_get (D := D) (ci := 6) (v := .ref nw) (C := RX6) (T := TX6) (N := 20) hx hb hts inX6 hown hK hP 0 rfl rfl 0 (by decide) (hts _ mf_X6_7) (fun _ h9 => h9) rfl dX6_blind_39 ?_
      refine lv_iconst (v := nI 0) hx hb dX6_blind_42 (by decide +kernel) ?_
      refine n_iald hx hb hK hP 1 0 rfl rfl (k := 0) (by omega) (by decide) dX6_blind_43 ?_
      refine tq (y := nI n) (congrArg nI (hN0)) ?_
      refine lv_istore_n (lv' := [(3, .int (nI n)), (2, .int (nI 0)), (0, .ref m0), (1, .int (nI 0))]) hx hb dX6_blind_44 rfl hl (by decide) rfl (fun ls hl => ?_)
      refine lv_iconst (v := nI 0) hx hb dX6_blind_45 (by decide +kernel) ?_
      refine lv_istore (lv' := [(4, .int (nI 0)), (3, .int (nI n)), (2, .int (nI 0)), (0, .ref m0), (1, .int (nI 0))]) hx hb dX6_blind_46 hl (by decide) rfl (fun ls hl => ?_)
      refine lv_iconst (v := nI 0) hx hb dX6_blind_48 (by decide +kernel) ?_
      refine lv_istore (lv' := [(5, .int (nI 0)), (4, .int (nI 0)), (3, .int (nI n)), (2, .int (nI 0)), (0, .ref m0), (1, .int (nI 0))]) hx hb dX6_blind_49 hl (by decide) rfl (fun ls hl => ?_)
      have loop51 : ∀ (d : Nat) (b : Nat) (fr : Nat) (nn : Nat) (lk : Nat) (H : Heap) (locs : List Loc) (ls : Array Slot), n - 1 - b < d → (b ≤ n - 1) → (fr + nn ≤ n) → (lk ≤ b) → (BI BB BD BM BL BF BK s A n (if n = 0 then 0 else if n = 1 then 1 else kr BB BM BL BF s A (n - 1) 0) b fr nn lk) → va_P D vwCl [(m0, .inr (6, [.ref nw, .ref ps, .int (nI u), .ref im, .ref mk, .int (nI sd), .ref wd, .int (nI s), .ref so, .int (nI n), .ref mb, .ref ma, .ref mf, .ref mw, .ref ml, .ref mu, .int (nI (n - 1)), .ref wt, .int (nI 0), .ref ty])), (nw, .inl (cI, 241, .inl (nF NW))), (ps, .inl (cI, 4820, .inl (nF PS))), (im, .inl (cI, 484, .inl (nF IM))), (mk, .inl (cZ, 2, .inl (nF MK))), (wd, .inl (cI, 8, .inl (nF WD))), (so, .inl (cI, 24, .inl (nF SOh3))), (mb, .inl (cI, 24, .inl (nF EBh3))), (ma, .inl (cI, 24, .inl (nF EAh3))), (mf, .inl (cI, 24, .inl (nF EFh3))), (mw, .inl (cI, 24, .inl (nF EWh3))), (ml, .inl (cI, 24, .inl (nF ELh3))), (mu, .inl (cI, 24, .inl (oF EUh3))), (wt, .inl (cI, 200, .inl (oF WTh3))), (ty, .inl (cI, 8, .inl (nF TY)))] H → va_D AA [(m0, .inr (6, [.ref nw, .ref ps, .int (nI u), .ref im, .ref mk, .int (nI sd), .ref wd, .int (nI s), .ref so, .int (nI n), .ref mb, .ref ma, .ref mf, .ref mw, .ref ml, .ref mu, .int (nI (n - 1)), .ref wt, .int (nI 0), .ref ty])), (nw, .inl (cI, 241, .inl (nF NW))), (ps, .inl (cI, 4820, .inl (nF PS))), (im, .inl (cI, 484, .inl (nF IM))), (mk, .inl (cZ, 2, .inl (nF MK))), (wd, .inl (cI, 8, .inl (nF WD))), (so, .inl (cI, 24, .inl (nF SOh3))), (mb, .inl (cI, 24, .inl (nF EBh3))), (ma, .inl (cI, 24, .inl (nF EAh3))), (mf, .inl (cI, 24, .inl (nF EFh3))), (mw, .inl (cI, 24, .inl (nF EWh3))), (ml, .inl (cI, 24, .inl (nF ELh3))), (mu, .inl (cI, 24, .inl (oF EUh3))), (wt, .inl (cI, 200, .inl (oF WTh3))), (ty, .inl (cI, 8, .inl (nF TY)))] → va_S AA ss.heap H locs → lv_has ls 7 [(0, .ref m0), (1, .int (nI 0)), (2, .int (nI fr)), (3, .int (nI nn)), (4, .int (nI lk)), (5, .int (nI b))] → W pp l ee (rmN 5 116) ss mm [.ref m0, .int (nI 0)].toArray below meth cd H locs 0 0 (MQ below (QW D AA (fun x w => x = some (.int (oI (if n = 0 then 0 else if n = 1 then 1 else kr BB BM BL BF s A (n - 1) 0))) ∧ ∃ (SO : Nat → Nat) (q : Nat) (EB EA EF EW EL EU : Nat → Nat) (br : Nat) (WT : Nat → Nat) (ww : Nat), w = [(m0, .inr (6, [.ref nw, .ref ps, .int (nI u), .ref im, .ref mk, .int (nI sd), .ref wd, .int (nI s), .ref so, .int (nI q), .ref mb, .ref ma, .ref mf, .ref mw, .ref ml, .ref mu, .int (nI br), .ref wt, .int (nI ww), .ref ty])), (nw, .inl (cI, 241, .inl (nF NW))), (ps, .inl (cI, 4820, .inl (nF PS))), (im, .inl (cI, 484, .inl (nF IM))), (mk, .inl (cZ, 2, .inl (nF MK))), (wd, .inl (cI, 8, .inl (nF WD))), (so, .inl (cI, 24, .inl (nF SO))), (mb, .inl (cI, 24, .inl (nF EB))), (ma, .inl (cI, 24, .inl (nF EA))), (mf, .inl (cI, 24, .inl (nF EF))), (mw, .inl (cI, 24, .inl (nF EW))), (ml, .inl (cI, 24, .inl (nF EL))), (mu, .inl (cI, 24, .inl (oF EU))), (wt, .inl (cI, 200, .inl (oF WT))), (ty, .inl (cI, 8, .inl (nF TY)))])) [.ref m0, .int (nI 0)].toArray ss 0 0 AA) (F0 mm 51 ls []) := by
        intro d
        induction d with
        | zero => intro b fr nn lk H locs ls h; exact absurd h (Nat.not_lt_zero _)
        | succ d ih51 =>
          intro b fr nn lk H locs ls hd51 hbn hfn hlkb hBI hP hD hS hl
          refine lv_iload hx hb dX6_blind_51 (lv_at hl 5 rfl) ?_
          refine lv_aload_n hx hb dX6_blind_53 rfl (lv_at hl 0 rfl) ?_
          refine va_get (D := D) (ci := 6) (v := .int (nI (n - 1))) (C := RX6) (T := TX6) (N := 20) hx hb hts inX6 hown hK hP 0 rfl rfl 16 (by decide) (hts _ mf_X6_97) (fun _ h9 => h9) rfl dX6_blind_54 ?_
          refine n_ge (tgt := 159) hx hb dX6_blind_57 (by decide) (by omega) (by omega) (fun c7 => ?_) (fun c7 => ?_)
          ·
            have hend := bi_end hBI (by omega)
            refine lv_iload_n hx hb dX6_blind_159 rfl (lv_at hl 1 rfl) ?_
            refine n_if_ne (tgt := 167) hx hb dX6_blind_160 (by decide) (by decide) (fun h9 => absurd rfl h9) (fun _ => ?_)
            refine lv_iload_n hx hb dX6_blind_163 rfl (lv_at hl 2 rfl) ?_
            refine lv_goto (tgt := 169) hx hb dX6_blind_164 (by decide) ?_
            refine tq (y := (oI (if n = 0 then 0 else if n = 1 then 1 else kr BB BM BL BF s A (n - 1) 0))) (by rw [hend.1, oI_s]) ?_
            exact wr_iret hx hb hr hlk hP hD hS dX6_blind_169 (⟨rfl, SOh3, n, EBh3, EAh3, EFh3, EWh3, ELh3, EUh3, n - 1, WTh3, 0, rfl⟩)
          ·
            have hb2 : b + 1 < n := by omega
            have hte := tm_eq hTr hTm hb2
            have hti := tf_in hTr hb2
            have htb := tf_T hTr hso b hb2
            refine lv_aload_n hx hb dX6_blind_60 rfl (lv_at hl 0 rfl) ?_
            refine va_get (D := D) (ci := 6) (v := .ref mf) (C := RX6) (T := TX6) (N := 20) hx hb hts inX6 hown hK hP 0 rfl rfl 12 (by decide) (hts _ mf_X6_35) (fun _ h9 => h9) rfl dX6_blind_61 ?_
            refine lv_iload hx hb dX6_blind_64 (lv_at hl 5 rfl) ?_
            refine n_iald hx hb hK hP 9 0 rfl rfl (k := b) (by omega) (by decide) dX6_blind_66 ?_
            refine tq (y := nI (BF b)) (congrArg nI (hte.1)) ?_
            refine lv_iload_n hx hb dX6_blind_67 rfl (lv_at hl 2 rfl) ?_
            refine n_ne (tgt := 153) hx hb dX6_blind_68 (by decide) (by omega) (by omega) (fun c9 => ?_) (fun c9 => ?_)
            ·
              have hB2 := bi_skip hBI (fun z => c9 z.1)
              refine lv_iinc (v := nI (b + 1)) (lv' := [(5, .int (nI (b + 1))), (0, .ref m0), (1, .int (nI 0)), (2, .int (nI fr)), (3, .int (nI nn)), (4, .int (nI lk))]) hx hb dX6_blind_153 hl (k := 5) rfl (nI_add b 1) (by decide) rfl (fun ls hl => ?_)
              refine lv_goto (tgt := 51) hx hb dX6_blind_156 (by decide) ?_
              exact ih51 (b + 1) fr nn lk _ _ ls (by omega) (by omega) (by omega) (by omega) hB2 hP hD hS (lv_sub hl [1, 2, 3, 4, 5, 0] rfl)
            ·
              have ef := c9
              refine lv_aload_n hx hb dX6_blind_71 rfl (lv_at hl 0 rfl) ?_
              refine va_get (D := D) (ci := 6) (v := .ref mw) (C := RX6) (T := TX6) (N := 20) hx hb hts inX6 hown hK hP 0 rfl rfl 13 (by decide) (hts _ mf_X6_38) (fun _ h9 => h9) rfl dX6_blind_72 ?_
              refine lv_iload hx hb dX6_blind_75 (lv_at hl 5 rfl) ?_
              refine n_iald hx hb hK hP 10 0 rfl rfl (k := b) (by omega) (by decide) dX6_blind_77 ?_
              refine tq (y := nI (BM b)) (congrArg nI (hte.2.1)) ?_
              refine lv_iload_n hx hb dX6_blind_78 rfl (lv_at hl 3 rfl) ?_
              refine n_ne (tgt := 153) hx hb dX6_blind_79 (by decide) (by omega) (by omega) (fun c10 => ?_) (fun c10 => ?_)
              ·
                have hB2 := bi_skip hBI (fun z => c10 z.2)
                refine lv_iinc (v := nI (b + 1)) (lv' := [(5, .int (nI (b + 1))), (0, .ref m0), (1, .int (nI 0)), (2, .int (nI fr)), (3, .int (nI nn)), (4, .int (nI lk))]) hx hb dX6_blind_153 hl (k := 5) rfl (nI_add b 1) (by decide) rfl (fun ls hl => ?_)
                refine lv_goto (tgt := 51) hx hb dX6_blind_156 (by decide) ?_
                exact ih51 (b + 1) fr nn lk _ _ ls (by omega) (by omega) (by omega) (by omega) hB2 hP hD hS (lv_sub hl [1, 2, 3, 4, 5, 0] rfl)
              ·
                have en := c10
                refine lv_aload_n hx hb dX6_blind_82 rfl (lv_at hl 0 rfl) ?_
                refine lv_bipush (v := nI 24) hx hb dX6_blind_83 (by decide +kernel) ?_
                refine lv_aload_n hx hb dX6_blind_85 rfl (lv_at hl 0 rfl) ?_
                refine va_get (D := D) (ci := 6) (v := .ref mb) (C := RX6) (T := TX6) (N := 20) hx hb hts inX6 hown hK hP 0 rfl rfl 10 (by decide) (hts _ mf_X6_29) (fun _ h9 => h9) rfl dX6_blind_86 ?_
                refine lv_iload hx hb dX6_blind_89 (lv_at hl 5 rfl) ?_
                refine n_iald hx hb hK hP 7 0 rfl rfl (k := b) (by omega) (by decide) dX6_blind_91 ?_
                refine tq (y := nI (BB b)) (congrArg nI (hte.2.2.2.2.1)) ?_
                refine ro_V (As := [.int (nI 24), .int (nI (BB b))]) (rest := []) ⟨hx, hb, hml, hown, hts⟩ (c_X6_bitOf l D cI cJ cZ m0 nw ps im mk wd so mb ma mf mw ml mu wt ty NW PS u IM MK sd WD s SOh3 n EBh3 EAh3 EFh3 EWh3 ELh3 EUh3 (n - 1) WTh3 0 TY KS KL KW n A hn hk hw0 hR hRW 24 s A (Or.inl ⟨rfl, rfl, rfl⟩) (BB b) (by omega)) (k_X6_65 hts ⟨Nat.le_of_ble_eq_true rfl, Nat.le_of_ble_eq_true rfl⟩) hK hP 0 rfl rfl rfl [0, 1, 2, 3, 4, 5, 6, 7, 8, 9, 10, 11, 12, 13, 14] rfl rfl hl.1 rfl (Nat.le_of_ble_eq_true rfl) dX6_blind_92 ⟨Nat.le_of_ble_eq_true rfl, Nat.le_of_ble_eq_true rfl⟩ ?_
                refine lv_iconst (v := nI 1) hx hb dX6_blind_95 (by decide +kernel) ?_
                refine n_ne (tgt := 103) hx hb dX6_blind_96 (by decide) (Nat.lt_trans (bitr_lt _ _ _) (by decide)) (by decide) (fun c11 => ?_) (fun c11 => ?_)
                ·
                  have hB2 := bi_left hTr hBI hb2 ef en c11
                  refine lv_iconst (v := nI 0) hx hb dX6_blind_103 (by decide +kernel) ?_
                  refine lv_istore (lv' := [(6, .int (nI 0)), (0, .ref m0), (1, .int (nI 0)), (2, .int (nI fr)), (3, .int (nI nn)), (4, .int (nI lk)), (5, .int (nI b))]) hx hb dX6_blind_104 hl (by decide) rfl (fun ls hl => ?_)
                  refine lv_iload_n hx hb dX6_blind_106 rfl (lv_at hl 3 rfl) ?_
                  refine lv_iload hx hb dX6_blind_107 (lv_at hl 0 rfl) ?_
                  refine n_if_eq (tgt := 122) hx hb dX6_blind_109 (by decide) (by decide) (fun _ => ?_) (fun h9 => absurd rfl h9)
                  refine lv_iconst (v := nI 0) hx hb dX6_blind_122 (by decide +kernel) ?_
                  refine n_iadd hx hb dX6_blind_123 ?_
                  refine lv_istore_n (lv' := [(2, .int (nI (fr + 0))), (6, .int (nI 0)), (0, .ref m0), (1, .int (nI 0)), (3, .int (nI nn)), (4, .int (nI lk)), (5, .int (nI b))]) hx hb dX6_blind_124 rfl hl (by decide) rfl (fun ls hl => ?_)
                  refine lv_iload hx hb dX6_blind_125 (lv_at hl 1 rfl) ?_
                  refine n_if_eq (tgt := 142) hx hb dX6_blind_127 (by decide) (by decide) (fun _ => ?_) (fun h9 => absurd rfl h9)
                  refine lv_aload_n hx hb dX6_blind_142 rfl (lv_at hl 2 rfl) ?_
                  refine va_get (D := D) (ci := 6) (v := .ref ml) (C := RX6) (T := TX6) (N := 20) hx hb hts inX6 hown hK hP 0 rfl rfl 14 (by decide) (hts _ mf_X6_41) (fun _ h9 => h9) rfl dX6_blind_143 ?_
                  refine lv_iload hx hb dX6_blind_146 (lv_at hl 6 rfl) ?_
                  refine n_iald hx hb hK hP 11 0 rfl rfl (k := b) (by omega) (by decide) dX6_blind_148 ?_
                  refine tq (y := nI (BL b)) (congrArg nI (hte.2.2.2.2.2)) ?_
                  refine lv_istore_n (lv' := [(3, .int (nI (BL b))), (2, .int (nI (fr + 0))), (6, .int (nI 0)), (0, .ref m0), (1, .int (nI 0)), (4, .int (nI lk)), (5, .int (nI b))]) hx hb dX6_blind_149 rfl hl (by decide) rfl (fun ls hl => ?_)
                  refine lv_iinc (v := nI (lk + 1)) (lv' := [(4, .int (nI (lk + 1))), (3, .int (nI (BL b))), (2, .int (nI (fr + 0))), (6, .int (nI 0)), (0, .ref m0), (1, .int (nI 0)), (5, .int (nI b))]) hx hb dX6_blind_150 hl (k := 5) rfl (nI_add lk 1) (by decide) rfl (fun ls hl => ?_)
                  refine lv_iinc (v := nI (b + 1)) (lv' := [(5, .int (nI (b + 1))), (4, .int (nI (lk + 1))), (3, .int (nI (BL b))), (2, .int (nI (fr + 0))), (6, .int (nI 0)), (0, .ref m0), (1, .int (nI 0))]) hx hb dX6_blind_153 hl (k := 6) rfl (nI_add b 1) (by decide) rfl (fun ls hl => ?_)
                  refine lv_goto (tgt := 51) hx hb dX6_blind_156 (by decide) ?_
                  exact ih51 (b + 1) (fr + 0) (BL b) (lk + 1) _ _ ls (by omega) (by omega) (by omega) (by omega) hB2 hP hD hS (lv_sub hl [5, 6, 3, 2, 1, 0] rfl)
                ·
                  have hB2 := bi_right hTr hBI hb2 ef en c11
                  refine lv_iconst (v := nI 1) hx hb dX6_blind_99 (by decide +kernel) ?_
                  refine lv_goto (tgt := 104) hx hb dX6_blind_100 (by decide) ?_
                  refine lv_istore (lv' := [(6, .int (nI 1)), (0, .ref m0), (1, .int (nI 0)), (2, .int (nI fr)), (3, .int (nI nn)), (4, .int (nI lk)), (5, .int (nI b))]) hx hb dX6_blind_104 hl (by decide) rfl (fun ls hl => ?_)
                  refine lv_iload_n hx hb dX6_blind_106 rfl (lv_at hl 3 rfl) ?_
                  refine lv_iload hx hb dX6_blind_107 (lv_at hl 0 rfl) ?_
                  refine n_if_eq (tgt := 122) hx hb dX6_blind_109 (by decide) (by decide) (fun h9 => absurd h9 (by decide)) (fun _ => ?_)
                  refine lv_aload_n hx hb dX6_blind_112 rfl (lv_at hl 1 rfl) ?_
                  refine va_get (D := D) (ci := 6) (v := .ref ml) (C := RX6) (T := TX6) (N := 20) hx hb hts inX6 hown hK hP 0 rfl rfl 14 (by decide) (hts _ mf_X6_41) (fun _ h9 => h9) rfl dX6_blind_113 ?_
                  refine lv_iload hx hb dX6_blind_116 (lv_at hl 6 rfl) ?_
                  refine n_iald hx hb hK hP 11 0 rfl rfl (k := b) (by omega) (by decide) dX6_blind_118 ?_
                  refine tq (y := nI (BL b)) (congrArg nI (hte.2.2.2.2.2)) ?_
                  refine lv_goto (tgt := 123) hx hb dX6_blind_119 (by decide) ?_
                  refine n_iadd hx hb dX6_blind_123 ?_
                  refine lv_istore_n (lv' := [(2, .int (nI (fr + (BL b)))), (6, .int (nI 1)), (0, .ref m0), (1, .int (nI 0)), (3, .int (nI nn)), (4, .int (nI lk)), (5, .int (nI b))]) hx hb dX6_blind_124 rfl hl (by decide) rfl (fun ls hl => ?_)
                  refine lv_iload hx hb dX6_blind_125 (lv_at hl 1 rfl) ?_
                  refine n_if_eq (tgt := 142) hx hb dX6_blind_127 (by decide) (by decide) (fun h9 => absurd h9 (by decide)) (fun _ => ?_)
                  refine lv_iload_n hx hb dX6_blind_130 rfl (lv_at hl 4 rfl) ?_
                  refine lv_aload_n hx hb dX6_blind_131 rfl (lv_at hl 2 rfl) ?_
                  refine va_get (D := D) (ci := 6) (v := .ref ml) (C := RX6) (T := TX6) (N := 20) hx hb hts inX6 hown hK hP 0 rfl rfl 14 (by decide) (hts _ mf_X6_41) (fun _ h9 => h9) rfl dX6_blind_132 ?_
                  refine lv_iload hx hb dX6_blind_135 (lv_at hl 6 rfl) ?_
                  refine n_iald hx hb hK hP 11 0 rfl rfl (k := b) (by omega) (by decide) dX6_blind_137 ?_
                  refine tq (y := nI (BL b)) (congrArg nI (hte.2.2.2.2.2)) ?_
                  refine n_isub hx hb dX6_blind_138 (by omega) ?_
                  refine lv_goto (tgt := 149) hx hb dX6_blind_139 (by decide) ?_
                  refine lv_istore_n (lv' := [(3, .int (nI (nn - (BL b)))), (2, .int (nI (fr + (BL b)))), (6, .int (nI 1)), (0, .ref m0), (1, .int (nI 0)), (4, .int (nI lk)), (5, .int (nI b))]) hx hb dX6_blind_149 rfl hl (by decide) rfl (fun ls hl => ?_)
                  refine lv_iinc (v := nI (lk + 1)) (lv' := [(4, .int (nI (lk + 1))), (3, .int (nI (nn - (BL b)))), (2, .int (nI (fr + (BL b)))), (6, .int (nI 1)), (0, .ref m0), (1, .int (nI 0)), (5, .int (nI b))]) hx hb dX6_blind_150 hl (k := 5) rfl (nI_add lk 1) (by decide) rfl (fun ls hl => ?_)
                  refine lv_iinc (v := nI (b + 1)) (lv' := [(5, .int (nI (b + 1))), (4, .int (nI (lk + 1))), (3, .int (nI (nn - (BL b)))), (2, .int (nI (fr + (BL b)))), (6, .int (nI 1)), (0, .ref m0), (1, .int (nI 0))]) hx hb dX6_blind_153 hl (k := 6) rfl (nI_add b 1) (by decide) rfl (fun ls hl => ?_)
                  refine lv_goto (tgt := 51) hx hb dX6_blind_156 (by decide) ?_
                  exact ih51 (b + 1) (fr + (BL b)) (nn - (BL b)) (lk + 1) _ _ ls (by omega) (by omega) (by omega) (by omega) hB2 hP hD hS (lv_sub hl [5, 6, 3, 2, 1, 0] rfl)
      exact loop51 _ 0 0 n 0 _ _ ls (Nat.lt_succ_self _) (Nat.zero_le _) (by omega) (by omega) (bi_0 hTr s A (by omega)) hP hD hS (lv_sub hl [4, 5, 3, 2, 1, 0] rfl)
    ·
      refine lv_iload_n hx hb dX6_blind_21 rfl (lv_at hl 1 rfl) ?_
      refine n_if_ne (tgt := 29) hx hb dX6_blind_22 (by decide) (by decide) (fun h9 => absurd rfl h9) (fun _ => ?_)
      refine lv_iconst (v := oI 0) hx hb dX6_blind_25 (by decide +kernel) ?_
      refine lv_goto (tgt := 30) hx hb dX6_blind_26 (by decide) ?_
      refine tq (y := (oI (if n = 0 then 0 else if n = 1 then 1 else kr BB BM BL BF s A (n - 1) 0))) (by rw [if_pos (by omega)]) ?_
      exact wr_iret hx hb hr hlk hP hD hS dX6_blind_30 (⟨rfl, SO, q, EB, EA, EF, EW, EL, EU, br, WT, ww, rfl⟩)
  ·
    exact (c1 (by decide)).elim
theorem kr_pos {KS KL BB BD BM BL BF BA BK : Nat → Nat} {n s A : Nat} (hTr : TrX (gapF KS KL) n BB BD BM BL BF BA BK) (hn : ¬ n = 0) : ¬ (if n = 0 then 0 else if n = 1 then 1 else kr BB BM BL BF s A (n - 1) 0) = 0 := by
  rw [if_neg hn]
  by_cases g : n = 1
  · rw [if_pos g]; omega
  · rw [if_neg g]
    have key : ∀ t b, b + 1 < n → BM b ≤ t + 1 → ¬ kr BB BM BL BF s A t b = 0 := by
      intro t
      induction t with
      | zero => intro b hb h; have := tf_in hTr hb; omega
      | succ t ih =>
        intro b hb h
        have hi := tf_in hTr hb
        show ¬ (if bitr s A (BB b) = 1 then (if BM b - BL b = 1 then BF b + BL b + 1 else kr BB BM BL BF s A t (b + BL b)) else (if BL b = 1 then BF b + 1 else kr BB BM BL BF s A t (b + 1))) = 0
        split
        · split
          · omega
          · have hc := (tf_child hTr hb).2 (by omega)
            exact ih _ hc.1 (by omega)
        · split
          · omega
          · have hc := (tf_child hTr hb).1 (by omega)
            exact ih _ hc.1 (by omega)
    have hr := tf_root hTr (by omega)
    exact key (n - 1) 0 (by omega) (by omega)
set_option maxHeartbeats 4000000 in
set_option maxRecDepth 100000 in
theorem c_X6_blind_1n (l : Launch) (D : va_G) (cI cJ cZ : ClassId) (m0 nw ps im mk wd so mb ma mf mw ml mu wt ty : Nat) (NW : Nat → Nat) (PS : Nat → Nat) (u : Nat) (IM : Nat → Nat) (MK : Nat → Nat) (sd : Nat) (WD : Nat → Nat) (s : Nat) (SO : Nat → Nat) (q : Nat) (EB : Nat → Nat) (EA : Nat → Nat) (EF : Nat → Nat) (EW : Nat → Nat) (EL : Nat → Nat) (EU : Nat → Nat) (br : Nat) (WT : Nat → Nat) (ww : Nat) (TY : Nat → Nat) (KS KL KW : Nat → Nat) (n A : Nat) (hn : n ≤ 24) (hk : ∀ k, k < n → Wf (KS k) (KL k)) (hw0 : Wf s A) (hR : RN NW KS KL KW n) (hRW : RW WD s A) (hso : Srt KS KL n) (BB BD BM BL BF BA BK : Nat → Nat) (hTr : TrX (gapF KS KL) n BB BD BM BL BF BA BK) (hv : ∀ k, k < n → KW k ≤ 9999) (hc : (if n = 0 then 0 else if n = 1 then 1 else kr BB BM BL BF s A (n - 1) 0) = 0) (sz : Nat) : WR l yX6_blind cX6_blind 7 (some .int) (rmN 5 116) D (ty3 cI cJ cZ) [.ref m0, .int (nI 1)] [(m0, .inr (6, [.ref nw, .ref ps, .int (nI u), .ref im, .ref mk, .int (nI sd), .ref wd, .int (nI s), .ref so, .int (nI q), .ref mb, .ref ma, .ref mf, .ref mw, .ref ml, .ref mu, .int (nI br), .ref wt, .int (nI ww), .ref ty])), (nw, .inl (cI, 241, .inl (nF NW))), (ps, .inl (cI, 4820, .inl (nF PS))), (im, .inl (cI, 484, .inl (nF IM))), (mk, .inl (cZ, 2, .inl (nF MK))), (wd, .inl (cI, 8, .inl (nF WD))), (so, .inl (cI, 24, .inl (nF SO))), (mb, .inl (cI, 24, .inl (nF EB))), (ma, .inl (cI, 24, .inl (nF EA))), (mf, .inl (cI, 24, .inl (nF EF))), (mw, .inl (cI, 24, .inl (nF EW))), (ml, .inl (cI, 24, .inl (nF EL))), (mu, .inl (cI, 24, .inl (oF EU))), (wt, .inl (cI, 200, .inl (oF WT))), (ty, .inl (cI, 8, .inl (nF TY)))] sz (fun x w => x = some (.int (nI 0)) ∧ ∃ (SO : Nat → Nat) (q : Nat) (EB EA EF EW EL EU : Nat → Nat) (br : Nat) (WT : Nat → Nat) (ww : Nat), w = [(m0, .inr (6, [.ref nw, .ref ps, .int (nI u), .ref im, .ref mk, .int (nI sd), .ref wd, .int (nI s), .ref so, .int (nI q), .ref mb, .ref ma, .ref mf, .ref mw, .ref ml, .ref mu, .int (nI br), .ref wt, .int (nI ww), .ref ty])), (nw, .inl (cI, 241, .inl (nF NW))), (ps, .inl (cI, 4820, .inl (nF PS))), (im, .inl (cI, 484, .inl (nF IM))), (mk, .inl (cZ, 2, .inl (nF MK))), (wd, .inl (cI, 8, .inl (nF WD))), (so, .inl (cI, 24, .inl (nF SO))), (mb, .inl (cI, 24, .inl (nF EB))), (ma, .inl (cI, 24, .inl (nF EA))), (mf, .inl (cI, 24, .inl (nF EF))), (mw, .inl (cI, 24, .inl (nF EW))), (ml, .inl (cI, 24, .inl (nF EL))), (mu, .inl (cI, 24, .inl (oF EU))), (wt, .inl (cI, 200, .inl (oF WT))), (ty, .inl (cI, 8, .inl (nF TY)))]) := by
  have hs8 := hw0.1
  have hA64 := hw0.2.1
  have hN0 := hR.1
  have hBK := tf_BK hTr hn
  have hDK := tf_DK hTr hn
  have hp := plc_le KS KL n s A
  have hcb := cbl_le KS KL n s A
  have hfl := fnd_le KS KL n s A
  refine wr_start (by decide) (Nat.le_of_ble_eq_true rfl) ?_
  intro pp ee ss mm below meth cd AA C0 hAA hP hK hD hS hN hnm ls hl
  obtain ⟨hx, hb, hr, hml, hown, hts, hlk⟩ := C0
  have hown : ss.vm.findClass RX6 = some mm.cls := hown
  have hl : lv_has ls 7 [(0, .ref m0), (1, .int (nI 1))] := hl
  have hP : va_P D vwCl [(m0, .inr (6, [.ref nw, .ref ps, .int (nI u), .ref im, .ref mk, .int (nI sd), .ref wd, .int (nI s), .ref so, .int (nI q), .ref mb, .ref ma, .ref mf, .ref mw, .ref ml, .ref mu, .int (nI br), .ref wt, .int (nI ww), .ref ty])), (nw, .inl (cI, 241, .inl (nF NW))), (ps, .inl (cI, 4820, .inl (nF PS))), (im, .inl (cI, 484, .inl (nF IM))), (mk, .inl (cZ, 2, .inl (nF MK))), (wd, .inl (cI, 8, .inl (nF WD))), (so, .inl (cI, 24, .inl (nF SO))), (mb, .inl (cI, 24, .inl (nF EB))), (ma, .inl (cI, 24, .inl (nF EA))), (mf, .inl (cI, 24, .inl (nF EF))), (mw, .inl (cI, 24, .inl (nF EW))), (ml, .inl (cI, 24, .inl (nF EL))), (mu, .inl (cI, 24, .inl (oF EU))), (wt, .inl (cI, 200, .inl (oF WT))), (ty, .inl (cI, 8, .inl (nF TY)))] ss.heap := hP
  refine lv_iload_n hx hb dX6_blind_0 rfl (lv_at hl 1 rfl) ?_
  refine lv_iconst (v := nI 0) hx hb dX6_blind_1 (by decide +kernel) ?_
  refine lv_iconst (v := nI 1) hx hb dX6_blind_2 (by decide +kernel) ?_
  refine ro_S (As := [.int (nI 1), .int (nI 0), .int (nI 1)]) (rest := []) ⟨hx, hb, hml, hown, hts⟩ (c_X6_in l D cI cJ cZ 1 0 1 (by omega) (by omega) (by omega)) (k_X6_79 hts ⟨Nat.le_of_ble_eq_true rfl, Nat.le_of_ble_eq_true rfl⟩) hK hP [] rfl rfl hl.1 rfl (Nat.le_of_ble_eq_true rfl) dX6_blind_3 ⟨Nat.le_of_ble_eq_true rfl, Nat.le_of_ble_eq_true rfl⟩ ?_
  refine b_if_ne (tgt := 12) hx hb dX6_blind_6 (by decide) (fun c1 => ?_) (fun c1 => ?_)
  ·
    refine lv_aload_n hx hb dX6_blind_12 rfl (lv_at hl 0 rfl) ?_
    refine va_get (D := D) (ci := 6) (v := .ref nw) (C := RX6) (T := TX6) (N := 20) hx hb hts inX6 hown hK hP 0 rfl rfl 0 (by decide) (hts _ mf_X6_7) (fun _ h9 => h9) rfl dX6_blind_13 ?_
    refine lv_iconst (v := nI 0) hx hb dX6_blind_16 (by decide +kernel) ?_
    refine n_iald hx hb hK hP 1 0 rfl rfl (k := 0) (by omega) (by decide) dX6_blind_17 ?_
    refine tq (y := nI n) (congrArg nI (hN0)) ?_
    refine n_if_ne (tgt := 31) hx hb dX6_blind_18 (by decide) (by omega) (fun c2 => ?_) (fun c2 => ?_)
    ·
      exact absurd (kr_pos hTr c2) (fun z => z hc)
    ·
      refine lv_iload_n hx hb dX6_blind_21 rfl (lv_at hl 1 rfl) ?_
      refine n_if_ne (tgt := 29) hx hb dX6_blind_22 (by decide) (by decide) (fun _ => ?_) (fun h9 => absurd h9 (by decide))
      refine lv_iconst (v := nI 0) hx hb dX6_blind_29 (by decide +kernel) ?_
      exact wr_iret hx hb hr hlk hP hD hS dX6_blind_30 (⟨rfl, SO, q, EB, EA, EF, EW, EL, EU, br, WT, ww, rfl⟩)
  ·
    exact (c1 (by decide)).elim
set_option maxHeartbeats 4000000 in
set_option maxRecDepth 100000 in
theorem c_X6_blind_1y (l : Launch) (D : va_G) (cI cJ cZ : ClassId) (m0 nw ps im mk wd so mb ma mf mw ml mu wt ty : Nat) (NW : Nat → Nat) (PS : Nat → Nat) (u : Nat) (IM : Nat → Nat) (MK : Nat → Nat) (sd : Nat) (WD : Nat → Nat) (s : Nat) (SO : Nat → Nat) (q : Nat) (EB : Nat → Nat) (EA : Nat → Nat) (EF : Nat → Nat) (EW : Nat → Nat) (EL : Nat → Nat) (EU : Nat → Nat) (br : Nat) (WT : Nat → Nat) (ww : Nat) (TY : Nat → Nat) (KS KL KW : Nat → Nat) (n A : Nat) (hn : n ≤ 24) (hk : ∀ k, k < n → Wf (KS k) (KL k)) (hw0 : Wf s A) (hR : RN NW KS KL KW n) (hRW : RW WD s A) (hso : Srt KS KL n) (BB BD BM BL BF BA BK : Nat → Nat) (hTr : TrX (gapF KS KL) n BB BD BM BL BF BA BK) (hv : ∀ k, k < n → KW k ≤ 9999) (p : Nat) (hp2 : p < n) (hc : (if n = 0 then 0 else if n = 1 then 1 else kr BB BM BL BF s A (n - 1) 0) = p + 1) (sz : Nat) : WR l yX6_blind cX6_blind 7 (some .int) (rmN 5 116) D (ty3 cI cJ cZ) [.ref m0, .int (nI 1)] [(m0, .inr (6, [.ref nw, .ref ps, .int (nI u), .ref im, .ref mk, .int (nI sd), .ref wd, .int (nI s), .ref so, .int (nI q), .ref mb, .ref ma, .ref mf, .ref mw, .ref ml, .ref mu, .int (nI br), .ref wt, .int (nI ww), .ref ty])), (nw, .inl (cI, 241, .inl (nF NW))), (ps, .inl (cI, 4820, .inl (nF PS))), (im, .inl (cI, 484, .inl (nF IM))), (mk, .inl (cZ, 2, .inl (nF MK))), (wd, .inl (cI, 8, .inl (nF WD))), (so, .inl (cI, 24, .inl (nF SO))), (mb, .inl (cI, 24, .inl (nF EB))), (ma, .inl (cI, 24, .inl (nF EA))), (mf, .inl (cI, 24, .inl (nF EF))), (mw, .inl (cI, 24, .inl (nF EW))), (ml, .inl (cI, 24, .inl (nF EL))), (mu, .inl (cI, 24, .inl (oF EU))), (wt, .inl (cI, 200, .inl (oF WT))), (ty, .inl (cI, 8, .inl (nF TY)))] sz (fun x w => x = some (.int (nI (dok BK BD p))) ∧ ∃ (SO : Nat → Nat) (q : Nat) (EB EA EF EW EL EU : Nat → Nat) (br : Nat) (WT : Nat → Nat) (ww : Nat), w = [(m0, .inr (6, [.ref nw, .ref ps, .int (nI u), .ref im, .ref mk, .int (nI sd), .ref wd, .int (nI s), .ref so, .int (nI q), .ref mb, .ref ma, .ref mf, .ref mw, .ref ml, .ref mu, .int (nI br), .ref wt, .int (nI ww), .ref ty])), (nw, .inl (cI, 241, .inl (nF NW))), (ps, .inl (cI, 4820, .inl (nF PS))), (im, .inl (cI, 484, .inl (nF IM))), (mk, .inl (cZ, 2, .inl (nF MK))), (wd, .inl (cI, 8, .inl (nF WD))), (so, .inl (cI, 24, .inl (nF SO))), (mb, .inl (cI, 24, .inl (nF EB))), (ma, .inl (cI, 24, .inl (nF EA))), (mf, .inl (cI, 24, .inl (nF EF))), (mw, .inl (cI, 24, .inl (nF EW))), (ml, .inl (cI, 24, .inl (nF EL))), (mu, .inl (cI, 24, .inl (oF EU))), (wt, .inl (cI, 200, .inl (oF WT))), (ty, .inl (cI, 8, .inl (nF TY)))]) := by
  have hs8 := hw0.1
  have hA64 := hw0.2.1
  have hN0 := hR.1
  have hBK := tf_BK hTr hn
  have hDK := tf_DK hTr hn
  have hp := plc_le KS KL n s A
  have hcb := cbl_le KS KL n s A
  have hfl := fnd_le KS KL n s A
  refine wr_start (by decide) (Nat.le_of_ble_eq_true rfl) ?_
  intro pp ee ss mm below meth cd AA C0 hAA hP hK hD hS hN hnm ls hl
  obtain ⟨hx, hb, hr, hml, hown, hts, hlk⟩ := C0
  have hown : ss.vm.findClass RX6 = some mm.cls := hown
  have hl : lv_has ls 7 [(0, .ref m0), (1, .int (nI 1))] := hl
  have hP : va_P D vwCl [(m0, .inr (6, [.ref nw, .ref ps, .int (nI u), .ref im, .ref mk, .int (nI sd), .ref wd, .int (nI s), .ref so, .int (nI q), .ref mb, .ref ma, .ref mf, .ref mw, .ref ml, .ref mu, .int (nI br), .ref wt, .int (nI ww), .ref ty])), (nw, .inl (cI, 241, .inl (nF NW))), (ps, .inl (cI, 4820, .inl (nF PS))), (im, .inl (cI, 484, .inl (nF IM))), (mk, .inl (cZ, 2, .inl (nF MK))), (wd, .inl (cI, 8, .inl (nF WD))), (so, .inl (cI, 24, .inl (nF SO))), (mb, .inl (cI, 24, .inl (nF EB))), (ma, .inl (cI, 24, .inl (nF EA))), (mf, .inl (cI, 24, .inl (nF EF))), (mw, .inl (cI, 24, .inl (nF EW))), (ml, .inl (cI, 24, .inl (nF EL))), (mu, .inl (cI, 24, .inl (oF EU))), (wt, .inl (cI, 200, .inl (oF WT))), (ty, .inl (cI, 8, .inl (nF TY)))] ss.heap := hP
  refine lv_iload_n hx hb dX6_blind_0 rfl (lv_at hl 1 rfl) ?_
  refine lv_iconst (v := nI 0) hx hb dX6_blind_1 (by decide +kernel) ?_
  refine lv_iconst (v := nI 1) hx hb dX6_blind_2 (by decide +kernel) ?_
  refine ro_S (As := [.int (nI 1), .int (nI 0), .int (nI 1)]) (rest := []) ⟨hx, hb, hml, hown, hts⟩ (c_X6_in l D cI cJ cZ 1 0 1 (by omega) (by omega) (by omega)) (k_X6_79 hts ⟨Nat.le_of_ble_eq_true rfl, Nat.le_of_ble_eq_true rfl⟩) hK hP [] rfl rfl hl.1 rfl (Nat.le_of_ble_eq_true rfl) dX6_blind_3 ⟨Nat.le_of_ble_eq_true rfl, Nat.le_of_ble_eq_true rfl⟩ ?_
  refine b_if_ne (tgt := 12) hx hb dX6_blind_6 (by decide) (fun c1 => ?_) (fun c1 => ?_)
  ·
    refine lv_aload_n hx hb dX6_blind_12 rfl (lv_at hl 0 rfl) ?_
    refine va_get (D := D) (ci := 6) (v := .ref nw) (C := RX6) (T := TX6) (N := 20) hx hb hts inX6 hown hK hP 0 rfl rfl 0 (by decide) (hts _ mf_X6_7) (fun _ h9 => h9) rfl dX6_blind_13 ?_
    refine lv_iconst (v := nI 0) hx hb dX6_blind_16 (by decide +kernel) ?_
    refine n_iald hx hb hK hP 1 0 rfl rfl (k := 0) (by omega) (by decide) dX6_blind_17 ?_
    refine tq (y := nI n) (congrArg nI (hN0)) ?_
    refine n_if_ne (tgt := 31) hx hb dX6_blind_18 (by decide) (by omega) (fun c2 => ?_) (fun c2 => ?_)
    ·
      refine lv_aload_n hx hb dX6_blind_31 rfl (lv_at hl 0 rfl) ?_
      refine lv_iconst (v := oI 0) hx hb dX6_blind_32 (by decide +kernel) ?_
      refine wr_V (As := [.int (oI 0)]) (rest := []) (wc := [(m0, .inr (6, [.ref nw, .ref ps, .int (nI u), .ref im, .ref mk, .int (nI sd), .ref wd, .int (nI s), .ref so, .int (nI q), .ref mb, .ref ma, .ref mf, .ref mw, .ref ml, .ref mu, .int (nI br), .ref wt, .int (nI ww), .ref ty])), (nw, .inl (cI, 241, .inl (nF NW))), (ps, .inl (cI, 4820, .inl (nF PS))), (im, .inl (cI, 484, .inl (nF IM))), (mk, .inl (cZ, 2, .inl (nF MK))), (wd, .inl (cI, 8, .inl (nF WD))), (so, .inl (cI, 24, .inl (nF SO))), (mb, .inl (cI, 24, .inl (nF EB))), (ma, .inl (cI, 24, .inl (nF EA))), (mf, .inl (cI, 24, .inl (nF EF))), (mw, .inl (cI, 24, .inl (nF EW))), (ml, .inl (cI, 24, .inl (nF EL))), (mu, .inl (cI, 24, .inl (oF EU))), (wt, .inl (cI, 200, .inl (oF WT))), (ty, .inl (cI, 8, .inl (nF TY)))]) (wr := []) ⟨hx, hb, hml, hown, hts⟩ (c_X6_findsBut_all l D cI cJ cZ m0 nw ps im mk wd so mb ma mf mw ml mu wt ty NW PS u IM MK sd WD s SO q EB EA EF EW EL EU br WT ww TY KS KL KW n A hn hk hw0 hR hRW hso _) (k_X6_119 hts ⟨Nat.le_of_ble_eq_true rfl, Nat.le_of_ble_eq_true rfl⟩) hK hN hP hD hS hAA 0 rfl rfl rfl [0, 1, 2, 3, 4, 5, 6, 7, 8, 9, 10, 11, 12, 13, 14] [] rfl rfl (by decide) (by decide) (by decide) rfl hl.1 rfl (Nat.le_of_ble_eq_true rfl) dX6_blind_33 ⟨Nat.le_of_ble_eq_true rfl, Nat.le_of_ble_eq_true rfl⟩ (fun v5 w6 H locs hp4 hP hD hS => ?_)
      obtain ⟨rfl, SOh3, EBh3, EAh3, EFh3, EWh3, ELh3, EUh3, WTh3, rfl, hTmh3⟩ := hp4
      have hE : ∀ b, b < n - 1 → EFh3 b ≤ 24 ∧ 1 ≤ EWh3 b ∧ EWh3 b ≤ 24 := fun b hb2 => by have := tm_in hTmh3 (b := b) (by omega); omega
      have hTm := hTmh3
      have hP : va_P D vwCl [(m0, .inr (6, [.ref nw, .ref ps, .int (nI u), .ref im, .ref mk, .int (nI sd), .ref wd, .int (nI s), .ref so, .int (nI n), .ref mb, .ref ma, .ref mf, .ref mw, .ref ml, .ref mu, .int (nI (n - 1)), .ref wt, .int (nI 0), .ref ty])), (nw, .inl (cI, 241, .inl (nF NW))), (ps, .inl (cI, 4820, .inl (nF PS))), (im, .inl (cI, 484, .inl (nF IM))), (mk, .inl (cZ, 2, .inl (nF MK))), (wd, .inl (cI, 8, .inl (nF WD))), (so, .inl (cI, 24, .inl (nF SOh3))), (mb, .inl (cI, 24, .inl (nF EBh3))), (ma, .inl (cI, 24, .inl (nF EAh3))), (mf, .inl (cI, 24, .inl (nF EFh3))), (mw, .inl (cI, 24, .inl (nF EWh3))), (ml, .inl (cI, 24, .inl (nF ELh3))), (mu, .inl (cI, 24, .inl (oF EUh3))), (wt, .inl (cI, 200, .inl (oF WTh3))), (ty, .inl (cI, 8, .inl (nF TY)))] H := hP.sub [0, 1, 2, 3, 4, 5, 6, 7, 8, 9, 10, 11, 12, 13, 14] rfl
      have hD : va_D AA [(m0, .inr (6, [.ref nw, .ref ps, .int (nI u), .ref im, .ref mk, .int (nI sd), .ref wd, .int (nI s), .ref so, .int (nI n), .ref mb, .ref ma, .ref mf, .ref mw, .ref ml, .ref mu, .int (nI (n - 1)), .ref wt, .int (nI 0), .ref ty])), (nw, .inl (cI, 241, .inl (nF NW))), (ps, .inl (cI, 4820, .inl (nF PS))), (im, .inl (cI, 484, .inl (nF IM))), (mk, .inl (cZ, 2, .inl (nF MK))), (wd, .inl (cI, 8, .inl (nF WD))), (so, .inl (cI, 24, .inl (nF SOh3))), (mb, .inl (cI, 24, .inl (nF EBh3))), (ma, .inl (cI, 24, .inl (nF EAh3))), (mf, .inl (cI, 24, .inl (nF EFh3))), (mw, .inl (cI, 24, .inl (nF EWh3))), (ml, .inl (cI, 24, .inl (nF ELh3))), (mu, .inl (cI, 24, .inl (oF EUh3))), (wt, .inl (cI, 200, .inl (oF WTh3))), (ty, .inl (cI, 8, .inl (nF TY)))] := hD.sub [0, 1, 2, 3, 4, 5, 6, 7, 8, 9, 10, 11, 12, 13, 14] (by decide) rfl
      refine lv_iconst (v := nI 0) hx hb dX6_blind_36 (by decide +kernel) ?_
      refine lv_istore_n (lv' := [(2, .int (nI 0)), (0, .ref m0), (1, .int (nI 1))]) hx hb dX6_blind_37 rfl hl (by decide) rfl (fun ls hl => ?_)
      refine lv_aload_n hx hb dX6_blind_38 rfl (lv_at hl 1 rfl) ?_
      refine va_get (D := D) (ci := 6) (v := .ref nw) (C := RX6) (T := TX6) (N := 20) hx hb hts inX6 hown hK hP 0 rfl rfl 0 (by decide) (hts _ mf_X6_7) (fun _ h9 => h9) rfl dX6_blind_39 ?_
      refine lv_iconst (v := nI 0) hx hb dX6_blind_42 (by decide +kernel) ?_
      refine n_iald hx hb hK hP 1 0 rfl rfl (k := 0) (by omega) (by decide) dX6_blind_43 ?_
      refine tq (y := nI n) (congrArg nI (hN0)) ?_
      refine lv_istore_n (lv' := [(3, .int (nI n)), (2, .int (nI 0)), (0, .ref m0), (1, .int (nI 1))]) hx hb dX6_blind_44 rfl hl (by decide) rfl (fun ls hl => ?_)
      refine lv_iconst (v := nI 0) hx hb dX6_blind_45 (by decide +kernel) ?_
      refine lv_istore (lv' := [(4, .int (nI 0)), (3, .int (nI n)), (2, .int (nI 0)), (0, .ref m0), (1, .int (nI 1))]) hx hb dX6_blind_46 hl (by decide) rfl (fun ls hl => ?_)
      refine lv_iconst (v := nI 0) hx hb dX6_blind_48 (by decide +kernel) ?_
      refine lv_istore (lv' := [(5, .int (nI 0)), (4, .int (nI 0)), (3, .int (nI n)), (2, .int (nI 0)), (0, .ref m0), (1, .int (nI 1))]) hx hb dX6_blind_49 hl (by decide) rfl (fun ls hl => ?_)
      have loop51 : ∀ (d : Nat) (b : Nat) (fr : Nat) (nn : Nat) (lk : Nat) (H : Heap) (locs : List Loc) (ls : Array Slot), n - 1 - b < d → (b ≤ n - 1) → (fr + nn ≤ n) → (lk ≤ b) → (BI BB BD BM BL BF BK s A n (if n = 0 then 0 else if n = 1 then 1 else kr BB BM BL BF s A (n - 1) 0) b fr nn lk) → va_P D vwCl [(m0, .inr (6, [.ref nw, .ref ps, .int (nI u), .ref im, .ref mk, .int (nI sd), .ref wd, .int (nI s), .ref so, .int (nI n), .ref mb, .ref ma, .ref mf, .ref mw, .ref ml, .ref mu, .int (nI (n - 1)), .ref wt, .int (nI 0), .ref ty])), (nw, .inl (cI, 241, .inl (nF NW))), (ps, .inl (cI, 4820, .inl (nF PS))), (im, .inl (cI, 484, .inl (nF IM))), (mk, .inl (cZ, 2, .inl (nF MK))), (wd, .inl (cI, 8, .inl (nF WD))), (so, .inl (cI, 24, .inl (nF SOh3))), (mb, .inl (cI, 24, .inl (nF EBh3))), (ma, .inl (cI, 24, .inl (nF EAh3))), (mf, .inl (cI, 24, .inl (nF EFh3))), (mw, .inl (cI, 24, .inl (nF EWh3))), (ml, .inl (cI, 24, .inl (nF ELh3))), (mu, .inl (cI, 24, .inl (oF EUh3))), (wt, .inl (cI, 200, .inl (oF WTh3))), (ty, .inl (cI, 8, .inl (nF TY)))] H → va_D AA [(m0, .inr (6, [.ref nw, .ref ps, .int (nI u), .ref im, .ref mk, .int (nI sd), .ref wd, .int (nI s), .ref so, .int (nI n), .ref mb, .ref ma, .ref mf, .ref mw, .ref ml, .ref mu, .int (nI (n - 1)), .ref wt, .int (nI 0), .ref ty])), (nw, .inl (cI, 241, .inl (nF NW))), (ps, .inl (cI, 4820, .inl (nF PS))), (im, .inl (cI, 484, .inl (nF IM))), (mk, .inl (cZ, 2, .inl (nF MK))), (wd, .inl (cI, 8, .inl (nF WD))), (so, .inl (cI, 24, .inl (nF SOh3))), (mb, .inl (cI, 24, .inl (nF EBh3))), (ma, .inl (cI, 24, .inl (nF EAh3))), (mf, .inl (cI, 24, .inl (nF EFh3))), (mw, .inl (cI, 24, .inl (nF EWh3))), (ml, .inl (cI, 24, .inl (nF ELh3))), (mu, .inl (cI, 24, .inl (oF EUh3))), (wt, .inl (cI, 200, .inl (oF WTh3))), (ty, .inl (cI, 8, .inl (nF TY)))] → va_S AA ss.heap H locs → lv_has ls 7 [(0, .ref m0), (1, .int (nI 1)), (2, .int (nI fr)), (3, .int (nI nn)), (4, .int (nI lk)), (5, .int (nI b))] → W pp l ee (rmN 5 116) ss mm [.ref m0, .int (nI 1)].toArray below meth cd H locs 0 0 (MQ below (QW D AA (fun x w => x = some (.int (nI (dok BK BD p))) ∧ ∃ (SO : Nat → Nat) (q : Nat) (EB EA EF EW EL EU : Nat → Nat) (br : Nat) (WT : Nat → Nat) (ww : Nat), w = [(m0, .inr (6, [.ref nw, .ref ps, .int (nI u), .ref im, .ref mk, .int (nI sd), .ref wd, .int (nI s), .ref so, .int (nI q), .ref mb, .ref ma, .ref mf, .ref mw, .ref ml, .ref mu, .int (nI br), .ref wt, .int (nI ww), .ref ty])), (nw, .inl (cI, 241, .inl (nF NW))), (ps, .inl (cI, 4820, .inl (nF PS))), (im, .inl (cI, 484, .inl (nF IM))), (mk, .inl (cZ, 2, .inl (nF MK))), (wd, .inl (cI, 8, .inl (nF WD))), (so, .inl (cI, 24, .inl (nF SO))), (mb, .inl (cI, 24, .inl (nF EB))), (ma, .inl (cI, 24, .inl (nF EA))), (mf, .inl (cI, 24, .inl (nF EF))), (mw, .inl (cI, 24, .inl (nF EW))), (ml, .inl (cI, 24, .inl (nF EL))), (mu, .inl (cI, 24, .inl (oF EU))), (wt, .inl (cI, 200, .inl (oF WT))), (ty, .inl (cI, 8, .inl (nF TY)))])) [.ref m0, .int (nI 1)].toArray ss 0 0 AA) (F0 mm 51 ls []) := by
        intro d
        induction d with
        | zero => intro b fr nn lk H locs ls h; exact absurd h (Nat.not_lt_zero _)
        | succ d ih51 =>
          intro b fr nn lk H locs ls hd51 hbn hfn hlkb hBI hP hD hS hl
          refine lv_iload hx hb dX6_blind_51 (lv_at hl 5 rfl) ?_
          refine lv_aload_n hx hb dX6_blind_53 rfl (lv_at hl 0 rfl) ?_
          refine va_get (D := D) (ci := 6) (v := .int (nI (n - 1))) (C := RX6) (T := TX6) (N := 20) hx hb hts inX6 hown hK hP 0 rfl rfl 16 (by decide) (hts _ mf_X6_97) (fun _ h9 => h9) rfl dX6_blind_54 ?_
          refine n_ge (tgt := 159) hx hb dX6_blind_57 (by decide) (by omega) (by omega) (fun c7 => ?_) (fun c7 => ?_)
          ·
            have hend := bi_end hBI (by omega)
            refine lv_iload_n hx hb dX6_blind_159 rfl (lv_at hl 1 rfl) ?_
            refine n_if_ne (tgt := 167) hx hb dX6_blind_160 (by decide) (by decide) (fun _ => ?_) (fun h9 => absurd h9 (by decide))
            refine lv_iload hx hb dX6_blind_167 (lv_at hl 4 rfl) ?_
            refine tq (y := (nI (dok BK BD p))) (by rw [hend.2.2, show fr = p by omega]) ?_
            exact wr_iret hx hb hr hlk hP hD hS dX6_blind_169 (⟨rfl, SOh3, n, EBh3, EAh3, EFh3, EWh3, ELh3, EUh3, n - 1, WTh3, 0, rfl⟩)
          ·
            have hb2 : b + 1 < n := by omega
            have hte := tm_eq hTr hTm hb2
            have hti := tf_in hTr hb2
            have htb := tf_T hTr hso b hb2
            refine lv_aload_n hx hb dX6_blind_60 rfl (lv_at hl 0 rfl) ?_
            refine va_get (D := D) (ci := 6) (v := .ref mf) (C := RX6) (T := TX6) (N := 20) hx hb hts inX6 hown hK hP 0 rfl rfl 12 (by decide) (hts _ mf_X6_35) (fun _ h9 => h9) rfl dX6_blind_61 ?_
            refine lv_iload hx hb dX6_blind_64 (lv_at hl 5 rfl) ?_
            refine n_iald hx hb hK hP 9 0 rfl rfl (k := b) (by omega) (by decide) dX6_blind_66 ?_
            refine tq (y := nI (BF b)) (congrArg nI (hte.1)) ?_
            refine lv_iload_n hx hb dX6_blind_67 rfl (lv_at hl 2 rfl) ?_
            refine n_ne (tgt := 153) hx hb dX6_blind_68 (by decide) (by omega) (by omega) (fun c9 => ?_) (fun c9 => ?_)
            ·
              have hB2 := bi_skip hBI (fun z => c9 z.1)
              refine lv_iinc (v := nI (b + 1)) (lv' := [(5, .int (nI (b + 1))), (0, .ref m0), (1, .int (nI 1)), (2, .int (nI fr)), (3, .int (nI nn)), (4, .int (nI lk))]) hx hb dX6_blind_153 hl (k := 5) rfl (nI_add b 1) (by decide) rfl (fun ls hl => ?_)
              refine lv_goto (tgt := 51) hx hb dX6_blind_156 (by decide) ?_
              exact ih51 (b + 1) fr nn lk _ _ ls (by omega) (by omega) (by omega) (by omega) hB2 hP hD hS (lv_sub hl [1, 2, 3, 4, 5, 0] rfl)
            ·
              have ef := c9
              refine lv_aload_n hx hb dX6_blind_71 rfl (lv_at hl 0 rfl) ?_
              refine va_get (D := D) (ci := 6) (v := .ref mw) (C := RX6) (T := TX6) (N := 20) hx hb hts inX6 hown hK hP 0 rfl rfl 13 (by decide) (hts _ mf_X6_38) (fun _ h9 => h9) rfl dX6_blind_72 ?_
              refine lv_iload hx hb dX6_blind_75 (lv_at hl 5 rfl) ?_
              refine n_iald hx hb hK hP 10 0 rfl rfl (k := b) (by omega) (by decide) dX6_blind_77 ?_
              refine tq (y := nI (BM b)) (congrArg nI (hte.2.1)) ?_
              refine lv_iload_n hx hb dX6_blind_78 rfl (lv_at hl 3 rfl) ?_
              refine n_ne (tgt := 153) hx hb dX6_blind_79 (by decide) (by omega) (by omega) (fun c10 => ?_) (fun c10 => ?_)
              ·
                have hB2 := bi_skip hBI (fun z => c10 z.2)
                refine lv_iinc (v := nI (b + 1)) (lv' := [(5, .int (nI (b + 1))), (0, .ref m0), (1, .int (nI 1)), (2, .int (nI fr)), (3, .int (nI nn)), (4, .int (nI lk))]) hx hb dX6_blind_153 hl (k := 5) rfl (nI_add b 1) (by decide) rfl (fun ls hl => ?_)
                refine lv_goto (tgt := 51) hx hb dX6_blind_156 (by decide) ?_
                exact ih51 (b + 1) fr nn lk _ _ ls (by omega) (by omega) (by omega) (by omega) hB2 hP hD hS (lv_sub hl [1, 2, 3, 4, 5, 0] rfl)
              ·
                have en := c10
                refine lv_aload_n hx hb dX6_blind_82 rfl (lv_at hl 0 rfl) ?_
                refine lv_bipush (v := nI 24) hx hb dX6_blind_83 (by decide +kernel) ?_
                refine lv_aload_n hx hb dX6_blind_85 rfl (lv_at hl 0 rfl) ?_
                refine va_get (D := D) (ci := 6) (v := .ref mb) (C := RX6) (T := TX6) (N := 20) hx hb hts inX6 hown hK hP 0 rfl rfl 10 (by decide) (hts _ mf_X6_29) (fun _ h9 => h9) rfl dX6_blind_86 ?_
                refine lv_iload hx hb dX6_blind_89 (lv_at hl 5 rfl) ?_
                refine n_iald hx hb hK hP 7 0 rfl rfl (k := b) (by omega) (by decide) dX6_blind_91 ?_
                refine tq (y := nI (BB b)) (congrArg nI (hte.2.2.2.2.1)) ?_
                refine ro_V (As := [.int (nI 24), .int (nI (BB b))]) (rest := []) ⟨hx, hb, hml, hown, hts⟩ (c_X6_bitOf l D cI cJ cZ m0 nw ps im mk wd so mb ma mf mw ml mu wt ty NW PS u IM MK sd WD s SOh3 n EBh3 EAh3 EFh3 EWh3 ELh3 EUh3 (n - 1) WTh3 0 TY KS KL KW n A hn hk hw0 hR hRW 24 s A (Or.inl ⟨rfl, rfl, rfl⟩) (BB b) (by omega)) (k_X6_65 hts ⟨Nat.le_of_ble_eq_true rfl, Nat.le_of_ble_eq_true rfl⟩) hK hP 0 rfl rfl rfl [0, 1, 2, 3, 4, 5, 6, 7, 8, 9, 10, 11, 12, 13, 14] rfl rfl hl.1 rfl (Nat.le_of_ble_eq_true rfl) dX6_blind_92 ⟨Nat.le_of_ble_eq_true rfl, Nat.le_of_ble_eq_true rfl⟩ ?_
                refine lv_iconst (v := nI 1) hx hb dX6_blind_95 (by decide +kernel) ?_
                refine n_ne (tgt := 103) hx hb dX6_blind_96 (by decide) (Nat.lt_trans (bitr_lt _ _ _) (by decide)) (by decide) (fun c11 => ?_) (fun c11 => ?_)
                ·
                  have hB2 := bi_left hTr hBI hb2 ef en c11
                  refine lv_iconst (v := nI 0) hx hb dX6_blind_103 (by decide +kernel) ?_
                  refine lv_istore (lv' := [(6, .int (nI 0)), (0, .ref m0), (1, .int (nI 1)), (2, .int (nI fr)), (3, .int (nI nn)), (4, .int (nI lk)), (5, .int (nI b))]) hx hb dX6_blind_104 hl (by decide) rfl (fun ls hl => ?_)
                  refine lv_iload_n hx hb dX6_blind_106 rfl (lv_at hl 3 rfl) ?_
                  refine lv_iload hx hb dX6_blind_107 (lv_at hl 0 rfl) ?_
                  refine n_if_eq (tgt := 122) hx hb dX6_blind_109 (by decide) (by decide) (fun _ => ?_) (fun h9 => absurd rfl h9)
                  refine lv_iconst (v := nI 0) hx hb dX6_blind_122 (by decide +kernel) ?_
                  refine n_iadd hx hb dX6_blind_123 ?_
                  refine lv_istore_n (lv' := [(2, .int (nI (fr + 0))), (6, .int (nI 0)), (0, .ref m0), (1, .int (nI 1)), (3, .int (nI nn)), (4, .int (nI lk)), (5, .int (nI b))]) hx hb dX6_blind_124 rfl hl (by decide) rfl (fun ls hl => ?_)
                  refine lv_iload hx hb dX6_blind_125 (lv_at hl 1 rfl) ?_
                  refine n_if_eq (tgt := 142) hx hb dX6_blind_127 (by decide) (by decide) (fun _ => ?_) (fun h9 => absurd rfl h9)
                  refine lv_aload_n hx hb dX6_blind_142 rfl (lv_at hl 2 rfl) ?_
                  refine va_get (D := D) (ci := 6) (v := .ref ml) (C := RX6) (T := TX6) (N := 20) hx hb hts inX6 hown hK hP 0 rfl rfl 14 (by decide) (hts _ mf_X6_41) (fun _ h9 => h9) rfl dX6_blind_143 ?_
                  refine lv_iload hx hb dX6_blind_146 (lv_at hl 6 rfl) ?_
                  refine n_iald hx hb hK hP 11 0 rfl rfl (k := b) (by omega) (by decide) dX6_blind_148 ?_
                  refine tq (y := nI (BL b)) (congrArg nI (hte.2.2.2.2.2)) ?_
                  refine lv_istore_n (lv' := [(3, .int (nI (BL b))), (2, .int (nI (fr + 0))), (6, .int (nI 0)), (0, .ref m0), (1, .int (nI 1)), (4, .int (nI lk)), (5, .int (nI b))]) hx hb dX6_blind_149 rfl hl (by decide) rfl (fun ls hl => ?_)
                  refine lv_iinc (v := nI (lk + 1)) (lv' := [(4, .int (nI (lk + 1))), (3, .int (nI (BL b))), (2, .int (nI (fr + 0))), (6, .int (nI 0)), (0, .ref m0), (1, .int (nI 1)), (5, .int (nI b))]) hx hb dX6_blind_150 hl (k := 5) rfl (nI_add lk 1) (by decide) rfl (fun ls hl => ?_)
                  refine lv_iinc (v := nI (b + 1)) (lv' := [(5, .int (nI (b + 1))), (4, .int (nI (lk + 1))), (3, .int (nI (BL b))), (2, .int (nI (fr + 0))), (6, .int (nI 0)), (0, .ref m0), (1, .int (nI 1))]) hx hb dX6_blind_153 hl (k := 6) rfl (nI_add b 1) (by decide) rfl (fun ls hl => ?_)
                  refine lv_goto (tgt := 51) hx hb dX6_blind_156 (by decide) ?_
                  exact ih51 (b + 1) (fr + 0) (BL b) (lk + 1) _ _ ls (by omega) (by omega) (by omega) (by omega) hB2 hP hD hS (lv_sub hl [5, 6, 3, 2, 1, 0] rfl)
                ·
                  have hB2 := bi_right hTr hBI hb2 ef en c11
                  refine lv_iconst (v := nI 1) hx hb dX6_blind_99 (by decide +kernel) ?_
                  refine lv_goto (tgt := 104) hx hb dX6_blind_100 (by decide) ?_
                  refine lv_istore (lv' := [(6, .int (nI 1)), (0, .ref m0), (1, .int (nI 1)), (2, .int (nI fr)), (3, .int (nI nn)), (4, .int (nI lk)), (5, .int (nI b))]) hx hb dX6_blind_104 hl (by decide) rfl (fun ls hl => ?_)
                  refine lv_iload_n hx hb dX6_blind_106 rfl (lv_at hl 3 rfl) ?_
                  refine lv_iload hx hb dX6_blind_107 (lv_at hl 0 rfl) ?_
                  refine n_if_eq (tgt := 122) hx hb dX6_blind_109 (by decide) (by decide) (fun h9 => absurd h9 (by decide)) (fun _ => ?_)
                  refine lv_aload_n hx hb dX6_blind_112 rfl (lv_at hl 1 rfl) ?_
                  refine va_get (D := D) (ci := 6) (v := .ref ml) (C := RX6) (T := TX6) (N := 20) hx hb hts inX6 hown hK hP 0 rfl rfl 14 (by decide) (hts _ mf_X6_41) (fun _ h9 => h9) rfl dX6_blind_113 ?_
                  refine lv_iload hx hb dX6_blind_116 (lv_at hl 6 rfl) ?_
                  refine n_iald hx hb hK hP 11 0 rfl rfl (k := b) (by omega) (by decide) dX6_blind_118 ?_
                  refine tq (y := nI (BL b)) (congrArg nI (hte.2.2.2.2.2)) ?_
                  refine lv_goto (tgt := 123) hx hb dX6_blind_119 (by decide) ?_
                  refine n_iadd hx hb dX6_blind_123 ?_
                  refine lv_istore_n (lv' := [(2, .int (nI (fr + (BL b)))), (6, .int (nI 1)), (0, .ref m0), (1, .int (nI 1)), (3, .int (nI nn)), (4, .int (nI lk)), (5, .int (nI b))]) hx hb dX6_blind_124 rfl hl (by decide) rfl (fun ls hl => ?_)
                  refine lv_iload hx hb dX6_blind_125 (lv_at hl 1 rfl) ?_
                  refine n_if_eq (tgt := 142) hx hb dX6_blind_127 (by decide) (by decide) (fun h9 => absurd h9 (by decide)) (fun _ => ?_)
                  refine lv_iload_n hx hb dX6_blind_130 rfl (lv_at hl 4 rfl) ?_
                  refine lv_aload_n hx hb dX6_blind_131 rfl (lv_at hl 2 rfl) ?_
                  refine va_get (D := D) (ci := 6) (v := .ref ml) (C := RX6) (T := TX6) (N := 20) hx hb hts inX6 hown hK hP 0 rfl rfl 14 (by decide) (hts _ mf_X6_41) (fun _ h9 => h9) rfl dX6_blind_132 ?_
                  refine lv_iload hx hb dX6_blind_135 (lv_at hl 6 rfl) ?_
                  refine n_iald hx hb hK hP 11 0 rfl rfl (k := b) (by omega) (by decide) dX6_blind_137 ?_
                  refine tq (y := nI (BL b)) (congrArg nI (hte.2.2.2.2.2)) ?_
                  refine n_isub hx hb dX6_blind_138 (by omega) ?_
                  refine lv_goto (tgt := 149) hx hb dX6_blind_139 (by decide) ?_
                  refine lv_istore_n (lv' := [(3, .int (nI (nn - (BL b)))), (2, .int (nI (fr + (BL b)))), (6, .int (nI 1)), (0, .ref m0), (1, .int (nI 1)), (4, .int (nI lk)), (5, .int (nI b))]) hx hb dX6_blind_149 rfl hl (by decide) rfl (fun ls hl => ?_)
                  refine lv_iinc (v := nI (lk + 1)) (lv' := [(4, .int (nI (lk + 1))), (3, .int (nI (nn - (BL b)))), (2, .int (nI (fr + (BL b)))), (6, .int (nI 1)), (0, .ref m0), (1, .int (nI 1)), (5, .int (nI b))]) hx hb dX6_blind_150 hl (k := 5) rfl (nI_add lk 1) (by decide) rfl (fun ls hl => ?_)
                  refine lv_iinc (v := nI (b + 1)) (lv' := [(5, .int (nI (b + 1))), (4, .int (nI (lk + 1))), (3, .int (nI (nn - (BL b)))), (2, .int (nI (fr + (BL b)))), (6, .int (nI 1)), (0, .ref m0), (1, .int (nI 1))]) hx hb dX6_blind_153 hl (k := 6) rfl (nI_add b 1) (by decide) rfl (fun ls hl => ?_)
                  refine lv_goto (tgt := 51) hx hb dX6_blind_156 (by decide) ?_
                  exact ih51 (b + 1) (fr + (BL b)) (nn - (BL b)) (lk + 1) _ _ ls (by omega) (by omega) (by omega) (by omega) hB2 hP hD hS (lv_sub hl [5, 6, 3, 2, 1, 0] rfl)
      exact loop51 _ 0 0 n 0 _ _ ls (Nat.lt_succ_self _) (Nat.zero_le _) (by omega) (by omega) (bi_0 hTr s A (by omega)) hP hD hS (lv_sub hl [4, 5, 3, 2, 1, 0] rfl)
    ·
      exact absurd hc (by rw [if_pos c2]; omega)
  ·
    exact (c1 (by decide)).elim
