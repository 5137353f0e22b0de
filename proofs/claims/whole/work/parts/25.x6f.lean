/-! ===== the reference finds its branches ===== -/
noncomputable def gso (KS KL SO : Nat → Nat) : Nat → Nat := gapF (fun i => KS (SO i)) (fun i => KL (SO i))
def TrM (G : Nat → Nat) (n : Nat) (EB EA EF EW EL EU : Nat → Nat) : Prop := ∀ b, b + 1 < n → (EF b, EW b, EA b, EU b) = nd G n b ∧ EB b = G (am G (EF b) (EW b - 2)) ∧ EL b = lef G (EF b) (EW b)
theorem TrM_congr {G G' : Nat → Nat} {n : Nat} {EB EA EF EW EL EU : Nat → Nat} (h : ∀ k, k + 1 < n → G k = G' k) (hT : TrM G n EB EA EF EW EL EU) : TrM G' n EB EA EF EW EL EU := by
  intro b hb
  obtain ⟨a1, a2, a3⟩ := hT b hb
  have e : nd G n b = nd G' n b := go_congr n 0 0 n 0 0 b (Nat.le_refl _) (Nat.zero_le _) (by omega) (fun k _ q => h k (by omega))
  have hp := nd_prop hb a1.symm
  have hz := am_in G (EF b) (EW b - 2)
  refine ⟨a1.trans e, ?_, ?_⟩
  · rw [a2, h _ (by omega), am_congr (fun k q1 q2 => h k (by omega))]
  · rw [a3, lef_congr hp.1 (fun k q1 q2 => h k (by omega))]
def push (WT : Nat → Nat) (w f m d v : Nat) : Nat → Nat := up (up (up (up WT (4 * w) (f + 1)) ((4 * w) + 1) (m + 1)) ((4 * w) + 2) (d + 1)) ((4 * w) + 3) v
theorem push_at (WT : Nat → Nat) (w f m d v : Nat) : push WT w f m d v (4 * w) = f + 1 ∧ push WT w f m d v (4 * w + 1) = m + 1 ∧ push WT w f m d v (4 * w + 2) = d + 1 ∧ push WT w f m d v (4 * w + 3) = v := by
  unfold push
  refine ⟨?_, ?_, ?_, up_eq _ _ _⟩
  · rw [up_ne _ _ (by omega), up_ne _ _ (by omega), up_ne _ _ (by omega), up_eq]
  · rw [up_ne _ _ (by omega), up_ne _ _ (by omega), up_eq]
  · rw [up_ne _ _ (by omega), up_eq]
theorem push_lo (WT : Nat → Nat) {w f m d v x : Nat} (h : x < 4 * w) : push WT w f m d v x = WT x := by
  unfold push
  rw [up_ne _ _ (by omega), up_ne _ _ (by omega), up_ne _ _ (by omega), up_ne _ _ (by omega)]
/-- what waits: the nodes NN 0 .. of which the next is numbered x -/
def Stk (G : Nat → Nat) (q : Nat) (NN WT : Nat → Nat) (w x : Nat) : Prop :=
  (∀ p, p < w → NN p + 1 < q ∧ WT (4 * p) = (nd G q (NN p)).1 + 1 ∧ WT (4 * p + 1) = (nd G q (NN p)).2.1 + 1 ∧ WT (4 * p + 2) = (nd G q (NN p)).2.2.1 + 1 ∧ WT (4 * p + 3) = (nd G q (NN p)).2.2.2) ∧
  (∀ p, p + 1 < w → NN p + 1 = NN (p + 1) + (nd G q (NN (p + 1))).2.1) ∧ (0 < w → NN (w - 1) = x ∧ NN 0 + (nd G q (NN 0)).2.1 = q) ∧ (w = 0 → x = q - 1)
theorem stk_push {G : Nat → Nat} {q : Nat} {NN WT : Nat → Nat} {w x c f m d v : Nat} (h : Stk G q NN WT w x) (hc : c + 1 < q) (hnd : nd G q c = (f, m, d, v)) (hx : c + m = x + 1) : Stk G q (up NN w c) (push WT w f m d v) (w + 1) c := by
  obtain ⟨h1, h2, h3, h4⟩ := h
  have hp := nd_prop hc hnd
  refine ⟨fun p hpw => ?_, fun p hpw => ?_, fun _ => ⟨by rw [show w + 1 - 1 = w by omega, up_eq], ?_⟩, fun e => by omega⟩
  · rcases Nat.lt_or_ge p w with g | g
    · rw [up_ne _ _ (by omega), push_lo _ (by omega), push_lo _ (by omega), push_lo _ (by omega), push_lo _ (by omega)]
      exact h1 p g
    · have e : p = w := by omega
      subst e
      rw [up_eq, hnd]
      exact ⟨hc, push_at WT p f m d v⟩
  · rcases Nat.lt_or_ge (p + 1) w with g | g
    · rw [up_ne _ _ (by omega), up_ne _ _ (by omega)]
      exact h2 p g
    · have e : p + 1 = w := by omega
      rw [up_ne _ _ (by omega), e, up_eq, hnd]
      have := (h3 (by omega)).1
      rw [show w - 1 = p by omega] at this
      show NN p + 1 = c + m
      omega
  · rcases Nat.eq_zero_or_pos w with g | g
    · subst g
      rw [up_eq, hnd]
      have := h4 rfl
      show c + m = q
      omega
    · rw [up_ne _ _ (by omega)]
      exact (h3 g).2
theorem stk_pop {G : Nat → Nat} {q : Nat} {NN WT : Nat → Nat} {w x f m d v : Nat} (h : Stk G q NN WT (w + 1) x) (hnd : nd G q x = (f, m, d, v)) : Stk G q NN WT w (x + m - 1) := by
  obtain ⟨h1, h2, h3, h4⟩ := h
  have hx := (h3 (by omega)).1
  rw [show w + 1 - 1 = w by omega] at hx
  have hb := (h1 w (by omega)).1
  rw [hx] at hb
  have hp := nd_prop hb hnd
  refine ⟨fun p hpw => h1 p (by omega), fun p hpw => h2 p (by omega), fun g => ⟨?_, (h3 (by omega)).2⟩, fun g => ?_⟩
  · have := h2 (w - 1) (by omega)
    rw [show w - 1 + 1 = w by omega, hx, hnd] at this
    have this : NN (w - 1) + 1 = x + m := this
    omega
  · subst g
    have := (h3 (by omega)).2
    rw [hx, hnd] at this
    have this : x + m = q := this
    omega
theorem stk_top {G : Nat → Nat} {q : Nat} {NN WT : Nat → Nat} {w x : Nat} (h : Stk G q NN WT w x) (hw : 0 < w) : ∃ f m d v, nd G q x = (f, m, d, v) ∧ x + 1 < q ∧ WT (4 * (w - 1)) = f + 1 ∧ WT (4 * (w - 1) + 1) = m + 1 ∧ WT (4 * (w - 1) + 2) = d + 1 ∧ WT (4 * (w - 1) + 3) = v := by
  obtain ⟨h1, h2, h3, h4⟩ := h
  have hx := (h3 hw).1
  have h5 := h1 (w - 1) (by omega)
  rw [hx] at h5
  exact ⟨_, _, _, _, rfl, h5⟩
theorem stk_le {G : Nat → Nat} {q : Nat} {NN WT : Nat → Nat} {w x : Nat} (h : Stk G q NN WT w x) : w ≤ q := by
  obtain ⟨h1, h2, h3, h4⟩ := h
  have key : ∀ d p, p + d + 1 = w → d ≤ NN p := by
    intro d
    induction d with
    | zero => intro p _; exact Nat.zero_le _
    | succ d ih =>
      intro p hp
      have a := ih (p + 1) (by omega)
      have b := h2 p (by omega)
      have c := nd_prop (h1 (p + 1) (by omega)).1 (nd_eta G q (NN (p + 1)))
      omega
  rcases Nat.eq_zero_or_pos w with g | g
  · omega
  · have a := key (w - 1) 0 (by omega)
    have b := (h1 0 g).1
    omega
/-- a node is taken off, its sides are put on (the right one first) -/
theorem stk_step {G : Nat → Nat} {q : Nat} {NN WT : Nat → Nat} {w x f m d v : Nat} (h : Stk G q NN WT w x) (hw : 0 < w) (hx : x + 1 < q) (hnd : nd G q x = (f, m, d, v)) :
    (∃ N1, Stk G q N1 (if m - lef G f m ≤ 1 then WT else push WT (w - 1) (f + lef G f m) (m - lef G f m) (d + 1) (x + 1)) (if m - lef G f m ≤ 1 then w - 1 else w - 1 + 1) (x + lef G f m)) ∧
    ∃ N2, Stk G q N2 (if lef G f m ≤ 1 then (if m - lef G f m ≤ 1 then WT else push WT (w - 1) (f + lef G f m) (m - lef G f m) (d + 1) (x + 1)) else push (if m - lef G f m ≤ 1 then WT else push WT (w - 1) (f + lef G f m) (m - lef G f m) (d + 1) (x + 1)) (if m - lef G f m ≤ 1 then w - 1 else w - 1 + 1) f (lef G f m) (d + 1) (x + 1)) (if lef G f m ≤ 1 then (if m - lef G f m ≤ 1 then w - 1 else w - 1 + 1) else (if m - lef G f m ≤ 1 then w - 1 else w - 1 + 1) + 1) (x + 1) := by
  have hp := nd_prop hx hnd
  have hz := lef_in G (f := f) (m := m) hp.1
  have hch := go_child G q 0 0 q 0 0 x _ _ _ _ (Nat.le_refl _) (Nat.zero_le _) (by omega) hnd
  have h0 : Stk G q NN WT (w - 1) (x + m - 1) := stk_pop (by rw [show w - 1 + 1 = w by omega]; exact h) hnd
  have s1 : ∃ N1, Stk G q N1 (if m - lef G f m ≤ 1 then WT else push WT (w - 1) (f + lef G f m) (m - lef G f m) (d + 1) (x + 1)) (if m - lef G f m ≤ 1 then w - 1 else w - 1 + 1) (x + lef G f m) := by
    by_cases g : m - lef G f m ≤ 1
    · rw [if_pos g, if_pos g]
      exact ⟨NN, by rw [show x + lef G f m = x + m - 1 by omega]; exact h0⟩
    · rw [if_neg g, if_neg g]
      exact ⟨_, stk_push h0 (by omega) (hch.2 (by omega)) (by omega)⟩
  refine ⟨s1, ?_⟩
  obtain ⟨N1, s1⟩ := s1
  by_cases g : lef G f m ≤ 1
  · rw [if_pos g, if_pos g]
    have e : x + lef G f m = x + 1 := by omega
    rw [e] at s1
    exact ⟨N1, s1⟩
  · rw [if_neg g, if_neg g]
    exact ⟨_, stk_push s1 (by omega) (hch.1 (by omega)) (by omega)⟩
section FB
variable {KS KL SO : Nat → Nat} {q : Nat}
theorem fm_bit (h : Srt (fun i => KS (SO i)) (fun i => KL (SO i)) q) {f m : Nat} (hm : 2 ≤ m) (hf : f + m ≤ q) : unl (KS (SO f)) (KL (SO f)) (KS (SO (f + m - 1))) (KL (SO (f + m - 1))) = gso KS KL SO (am (gso KS KL SO) f (m - 2)) := by
  have a := sq_min h f (m - 2) (by omega)
  rw [show f + (m - 2) + 1 = f + m - 1 by omega] at a
  exact a
theorem fm_72 (h : Srt (fun i => KS (SO i)) (fun i => KL (SO i)) q) {f m : Nat} (hm : 2 ≤ m) (hf : f + m ≤ q) : gso KS KL SO (am (gso KS KL SO) f (m - 2)) < 72 := by
  have a := am_in (gso KS KL SO) f (m - 2)
  exact (h (am (gso KS KL SO) f (m - 2)) (by omega)).1
theorem fm_lo (h : Srt (fun i => KS (SO i)) (fun i => KL (SO i)) q) {f m y : Nat} (hm : 2 ≤ m) (hf : f + m ≤ q) (hy : y < lef (gso KS KL SO) f m) : bitr (KS (SO (f + y))) (KL (SO (f + y))) (gso KS KL SO (am (gso KS KL SO) f (m - 2))) = 0 := by
  have a := am_in (gso KS KL SO) f (m - 2)
  unfold lef at hy
  exact sq_zero h (i := f + y) hm hf (by omega) (show f + y ≤ am (gso KS KL SO) f (m - 2) by omega)
theorem fm_hi (h : Srt (fun i => KS (SO i)) (fun i => KL (SO i)) q) {f m : Nat} (hm : 2 ≤ m) (hf : f + m ≤ q) : bitr (KS (SO (f + lef (gso KS KL SO) f m))) (KL (SO (f + lef (gso KS KL SO) f m))) (gso KS KL SO (am (gso KS KL SO) f (m - 2))) = 1 := by
  have a := am_in (gso KS KL SO) f (m - 2)
  have b := sq_one h hm hf
  have e : f + lef (gso KS KL SO) f m = am (gso KS KL SO) f (m - 2) + 1 := by unfold lef; omega
  rw [e]
  exact b
end FB
set_option maxHeartbeats 4000000 in
set_option maxRecDepth 100000 in
theorem c_X6_waitsFor (l : Launch) (D : va_G) (cI cJ cZ : ClassId) (m0 nw ps im mk wd so mb ma mf mw ml mu wt ty : Nat) (NW : Nat → Nat) (PS : Nat → Nat) (u : Nat) (IM : Nat → Nat) (MK : Nat → Nat) (sd : Nat) (WD : Nat → Nat) (s : Nat) (SO : Nat → Nat) (q : Nat) (EB : Nat → Nat) (EA : Nat → Nat) (EF : Nat → Nat) (EW : Nat → Nat) (EL : Nat → Nat) (EU : Nat → Nat) (br : Nat) (WT : Nat → Nat) (ww : Nat) (TY : Nat → Nat) (f m d v : Nat) (hm : m < 2 ^ 31) (hww : ww ≤ 49) (sz : Nat) : WR l yX6_waitsFor cX6_waitsFor 5 none (rmN 0 0) D (ty3 cI cJ cZ) [.ref m0, .int (nI f), .int (nI m), .int (nI d), .int (oI v)] [(m0, .inr (6, [.ref nw, .ref ps, .int (nI u), .ref im, .ref mk, .int (nI sd), .ref wd, .int (nI s), .ref so, .int (nI q), .ref mb, .ref ma, .ref mf, .ref mw, .ref ml, .ref mu, .int (nI br), .ref wt, .int (nI ww), .ref ty])), (nw, .inl (cI, 241, .inl (nF NW))), (ps, .inl (cI, 4820, .inl (nF PS))), (im, .inl (cI, 484, .inl (nF IM))), (mk, .inl (cZ, 2, .inl (nF MK))), (wd, .inl (cI, 8, .inl (nF WD))), (so, .inl (cI, 24, .inl (nF SO))), (mb, .inl (cI, 24, .inl (nF EB))), (ma, .inl (cI, 24, .inl (nF EA))), (mf, .inl (cI, 24, .inl (nF EF))), (mw, .inl (cI, 24, .inl (nF EW))), (ml, .inl (cI, 24, .inl (nF EL))), (mu, .inl (cI, 24, .inl (oF EU))), (wt, .inl (cI, 200, .inl (oF WT))), (ty, .inl (cI, 8, .inl (nF TY)))] sz (fun x w => x = none ∧ w = [(m0, .inr (6, [.ref nw, .ref ps, .int (nI u), .ref im, .ref mk, .int (nI sd), .ref wd, .int (nI s), .ref so, .int (nI q), .ref mb, .ref ma, .ref mf, .ref mw, .ref ml, .ref mu, .int (nI br), .ref wt, .int (nI (if m ≤ 1 then ww else ww + 1)), .ref ty])), (nw, .inl (cI, 241, .inl (nF NW))), (ps, .inl (cI, 4820, .inl (nF PS))), (im, .inl (cI, 484, .inl (nF IM))), (mk, .inl (cZ, 2, .inl (nF MK))), (wd, .inl (cI, 8, .inl (nF WD))), (so, .inl (cI, 24, .inl (nF SO))), (mb, .inl (cI, 24, .inl (nF EB))), (ma, .inl (cI, 24, .inl (nF EA))), (mf, .inl (cI, 24, .inl (nF EF))), (mw, .inl (cI, 24, .inl (nF EW))), (ml, .inl (cI, 24, .inl (nF EL))), (mu, .inl (cI, 24, .inl (oF EU))), (wt, .inl (cI, 200, .inl (oF (if m ≤ 1 then WT else push WT ww f m d v)))), (ty, .inl (cI, 8, .inl (nF TY)))]) := by
  refine wr_start (by decide) (Nat.le_of_ble_eq_true rfl) ?_
  intro pp ee ss mm below meth cd AA C0 hAA hP hK hD hS hN hnm ls hl
  obtain ⟨hx, hb, hr, hml, hown, hts, hlk⟩ := C0
  have hown : ss.vm.findClass RX6 = some mm.cls := hown
  have hl : lv_has ls 5 [(0, .ref m0), (1, .int (nI f)), (2, .int (nI m)), (3, .int (nI d)), (4, .int (oI v))] := hl
  have hP : va_P D vwCl [(m0, .inr (6, [.ref nw, .ref ps, .int (nI u), .ref im, .ref mk, .int (nI sd), .ref wd, .int (nI s), .ref so, .int (nI q), .ref mb, .ref ma, .ref mf, .ref mw, .ref ml, .ref mu, .int (nI br), .ref wt, .int (nI ww), .ref ty])), (nw, .inl (cI, 241, .inl (nF NW))), (ps, .inl (cI, 4820, .inl (nF PS))), (im, .inl (cI, 484, .inl (nF IM))), (mk, .inl (cZ, 2, .inl (nF MK))), (wd, .inl (cI, 8, .inl (nF WD))), (so, .inl (cI, 24, .inl (nF SO))), (mb, .inl (cI, 24, .inl (nF EB))), (ma, .inl (cI, 24, .inl (nF EA))), (mf, .inl (cI, 24, .inl (nF EF))), (mw, .inl (cI, 24, .inl (nF EW))), (ml, .inl (cI, 24, .inl (nF EL))), (mu, .inl (cI, 24, .inl (oF EU))), (wt, .inl (cI, 200, .inl (oF WT))), (ty, .inl (cI, 8, .inl (nF TY)))] ss.heap := hP
  refine lv_iload_n hx hb dX6_waitsFor_0 rfl (lv_at hl 2 rfl) ?_
  refine lv_iconst (v := nI 1) hx hb dX6_waitsFor_1 (by decide +kernel) ?_
  refine n_le (tgt := 70) hx hb dX6_waitsFor_2 (by decide) (by omega) (by omega) (fun c1 => ?_) (fun c1 => ?_)
  ·
    exact wr_vret hx hb hr hlk hP hD hS dX6_waitsFor_70 (⟨rfl, by rw [if_pos c1, if_pos c1]⟩)
  ·
    refine lv_aload_n hx hb dX6_waitsFor_5 rfl (lv_at hl 0 rfl) ?_
    refine va_get (D := D) (ci := 6) (v := .ref wt) (C := RX6) (T := TX6) (N := 20) hx hb hts inX6 hown hK hP 0 rfl rfl 17 (by decide) (hts _ mf_X6_47) (fun _ h9 => h9) rfl dX6_waitsFor_6 ?_
    refine lv_iconst (v := nI 4) hx hb dX6_waitsFor_9 (by decide +kernel) ?_
    refine lv_aload_n hx hb dX6_waitsFor_10 rfl (lv_at hl 0 rfl) ?_
    refine va_get (D := D) (ci := 6) (v := .int (nI ww)) (C := RX6) (T := TX6) (N := 20) hx hb hts inX6 hown hK hP 0 rfl rfl 18 (by decide) (hts _ mf_X6_94) (fun _ h9 => h9) rfl dX6_waitsFor_11 ?_
    refine n_imul hx hb dX6_waitsFor_14 ?_
    refine lv_iload_n hx hb dX6_waitsFor_15 rfl (lv_at hl 1 rfl) ?_
    refine tq (y := oI (f + 1)) (oI_s _).symm ?_
    refine o_iast hx hb hK hP hD hS 13 0 rfl rfl (k := (4 * ww)) (v := (f + 1)) (by omega) (by decide) dX6_waitsFor_16 (fun H locs hP hD hS => ?_)
    have hP : va_P D vwCl [(m0, .inr (6, [.ref nw, .ref ps, .int (nI u), .ref im, .ref mk, .int (nI sd), .ref wd, .int (nI s), .ref so, .int (nI q), .ref mb, .ref ma, .ref mf, .ref mw, .ref ml, .ref mu, .int (nI br), .ref wt, .int (nI ww), .ref ty])), (nw, .inl (cI, 241, .inl (nF NW))), (ps, .inl (cI, 4820, .inl (nF PS))), (im, .inl (cI, 484, .inl (nF IM))), (mk, .inl (cZ, 2, .inl (nF MK))), (wd, .inl (cI, 8, .inl (nF WD))), (so, .inl (cI, 24, .inl (nF SO))), (mb, .inl (cI, 24, .inl (nF EB))), (ma, .inl (cI, 24, .inl (nF EA))), (mf, .inl (cI, 24, .inl (nF EF))), (mw, .inl (cI, 24, .inl (nF EW))), (ml, .inl (cI, 24, .inl (nF EL))), (mu, .inl (cI, 24, .inl (oF EU))), (wt, .inl (cI, 200, .inl (oF (up WT (4 * ww) (f + 1))))), (ty, .inl (cI, 8, .inl (nF TY)))] H := hP
    have hD : va_D AA [(m0, .inr (6, [.ref nw, .ref ps, .int (nI u), .ref im, .ref mk, .int (nI sd), .ref wd, .int (nI s), .ref so, .int (nI q), .ref mb, .ref ma, .ref mf, .ref mw, .ref ml, .ref mu, .int (nI br), .ref wt, .int (nI ww), .ref ty])), (nw, .inl (cI, 241, .inl (nF NW))), (ps, .inl (cI, 4820, .inl (nF PS))), (im, .inl (cI, 484, .inl (nF IM))), (mk, .inl (cZ, 2, .inl (nF MK))), (wd, .inl (cI, 8, .inl (nF WD))), (so, .inl (cI, 24, .inl (nF SO))), (mb, .inl (cI, 24, .inl (nF EB))), (ma, .inl (cI, 24, .inl (nF EA))), (mf, .inl (cI, 24, .inl (nF EF))), (mw, .inl (cI, 24, .inl (nF EW))), (ml, .inl (cI, 24, .inl (nF EL))), (mu, .inl (cI, 24, .inl (oF EU))), (wt, .inl (cI, 200, .inl (oF (up WT (4 * ww) (f + 1))))), (ty, .inl (cI, 8, .inl (nF TY)))] := hD
    refine lv_aload_n hx hb dX6_waitsFor_17 rfl (lv_at hl 0 rfl) ?_
    refine va_get (D := D) (ci := 6) (v := .ref wt) (C := RX6) (T := TX6) (N := 20) hx hb hts inX6 hown hK hP 0 rfl rfl 17 (by decide) (hts _ mf_X6_47) (fun _ h9 => h9) rfl dX6_waitsFor_18 ?_
    refine lv_iconst (v := nI 4) hx hb dX6_waitsFor_21 (by decide +kernel) ?_
    refine lv_aload_n hx hb dX6_waitsFor_22 rfl (lv_at hl 0 rfl) ?_
    refine va_get (D := D) (ci := 6) (v := .int (nI ww)) (C := RX6) (T := TX6) (N := 20) hx hb hts inX6 hown hK hP 0 rfl rfl 18 (by decide) (hts _ mf_X6_94) (fun _ h9 => h9) rfl dX6_waitsFor_23 ?_
    refine n_imul hx hb dX6_waitsFor_26 ?_
    refine lv_iconst (v := nI 1) hx hb dX6_waitsFor_27 (by decide +kernel) ?_
    refine n_iadd hx hb dX6_waitsFor_28 ?_
    refine lv_iload_n hx hb dX6_waitsFor_29 rfl (lv_at hl 2 rfl) ?_
    refine tq (y := oI (m + 1)) (oI_s _).symm ?_
    refine o_iast hx hb hK hP hD hS 13 0 rfl rfl (k := ((4 * ww) + 1)) (v := (m + 1)) (by omega) (by decide) dX6_waitsFor_30 (fun H locs hP hD hS => ?_)
    have hP : va_P D vwCl [(m0, .inr (6, [.ref nw, .ref ps, .int (nI u), .ref im, .ref mk, .int (nI sd), .ref wd, .int (nI s), .ref so, .int (nI q), .ref mb, .ref ma, .ref mf, .ref mw, .ref ml, .ref mu, .int (nI br), .ref wt, .int (nI ww), .ref ty])), (nw, .inl (cI, 241, .inl (nF NW))), (ps, .inl (cI, 4820, .inl (nF PS))), (im, .inl (cI, 484, .inl (nF IM))), (mk, .inl (cZ, 2, .inl (nF MK))), (wd, .inl (cI, 8, .inl (nF WD))), (so, .inl (cI, 24, .inl (nF SO))), (mb, .inl (cI, 24, .inl (nF EB))), (ma, .inl (cI, 24, .inl (nF EA))), (mf, .inl (cI, 24, .inl (nF EF))), (mw, .inl (cI, 24, .inl (nF EW))), (ml, .inl (cI, 24, .inl (nF EL))), (mu, .inl (cI, 24, .inl (oF EU))), (wt, .inl (cI, 200, .inl (oF (up (up WT (4 * ww) (f + 1)) ((4 * ww) + 1) (m + 1))))), (ty, .inl (cI, 8, .inl (nF TY)))] H := hP
    have hD : va_D AA [(m0, .inr (6, [.ref nw, .ref ps, .int (nI u), .ref im, .ref mk, .int (nI sd), .ref wd, .int (nI s), .ref so, .int (nI q), .ref mb, .ref ma, .ref mf, .ref mw, .ref ml, .ref mu, .int (nI br), .ref wt, .int (nI ww), .ref ty])), (nw, .inl (cI, 241, .inl (nF NW))), (ps, .inl (cI, 4820, .inl (nF PS))), (im, .inl (cI, 484, .inl (nF IM))), (mk, .inl (cZ, 2, .inl (nF MK))), (wd, .inl (cI, 8, .inl (nF WD))), (so, .inl (cI, 24, .inl (nF SO))), (mb, .inl (cI, 24, .inl (nF EB))), (ma, .inl (cI, 24, .inl (nF EA))), (mf, .inl (cI, 24, .inl (nF EF))), (mw, .inl (cI, 24, .inl (nF EW))), (ml, .inl (cI, 24, .inl (nF EL))), (mu, .inl (cI, 24, .inl (oF EU))), (wt, .inl (cI, 200, .inl (oF (up (up WT (4 * ww) (f + 1)) ((4 * ww) + 1) (m + 1))))), (ty, .inl (cI, 8, .inl (nF TY)))] := hD
    refine lv_aload_n hx hb dX6_waitsFor_31 rfl (lv_at hl 0 rfl) ?_
    refine va_get (D := D) (ci := 6) (v := .ref wt) (C := RX6) (T := TX6) (N := 20) hx hb hts inX6 hown hK hP 0 rfl rfl 17 (by decide) (hts _ mf_X6_47) (fun _ h9 => h9) rfl dX6_waitsFor_32 ?_
    refine lv_iconst (v := nI 4) hx hb dX6_waitsFor_35 (by decide +kernel) ?_
    refine lv_aload_n hx hb dX6_waitsFor_36 rfl (lv_at hl 0 rfl) ?_
    refine va_get (D := D) (ci := 6) (v := .int (nI ww)) (C := RX6) (T := TX6) (N := 20) hx hb hts inX6 hown hK hP 0 rfl rfl 18 (by decide) (hts _ mf_X6_94) (fun _ h9 => h9) rfl dX6_waitsFor_37 ?_
    refine n_imul hx hb dX6_waitsFor_40 ?_
    refine lv_iconst (v := nI 2) hx hb dX6_waitsFor_41 (by decide +kernel) ?_
    refine n_iadd hx hb dX6_waitsFor_42 ?_
    refine lv_iload_n hx hb dX6_waitsFor_43 rfl (lv_at hl 3 rfl) ?_
    refine tq (y := oI (d + 1)) (oI_s _).symm ?_
    refine o_iast hx hb hK hP hD hS 13 0 rfl rfl (k := ((4 * ww) + 2)) (v := (d + 1)) (by omega) (by decide) dX6_waitsFor_44 (fun H locs hP hD hS => ?_)
    have hP : va_P D vwCl [(m0, .inr (6, [.ref nw, .ref ps, .int (nI u), .ref im, .ref mk, .int (nI sd), .ref wd, .int (nI s), .ref so, .int (nI q), .ref mb, .ref ma, .ref mf, .ref mw, .ref ml, .ref mu, .int (nI br), .ref wt, .int (nI ww), .ref ty])), (nw, .inl (cI, 241, .inl (nF NW))), (ps, .inl (cI, 4820, .inl (nF PS))), (im, .inl (cI, 484, .inl (nF IM))), (mk, .inl (cZ, 2, .inl (nF MK))), (wd, .inl (cI, 8, .inl (nF WD))), (so, .inl (cI, 24, .inl (nF SO))), (mb, .inl (cI, 24, .inl (nF EB))), (ma, .inl (cI, 24, .inl (nF EA))), (mf, .inl (cI, 24, .inl (nF EF))), (mw, .inl (cI, 24, .inl (nF EW))), (ml, .inl (cI, 24, .inl (nF EL))), (mu, .inl (cI, 24, .inl (oF EU))), (wt, .inl (cI, 200, .inl (oF (up (up (up WT (4 * ww) (f + 1)) ((4 * ww) + 1) (m + 1)) ((4 * ww) + 2) (d + 1))))), (ty, .inl (cI, 8, .inl (nF TY)))] H := hP
    have hD : va_D AA [(m0, .inr (6, [.ref nw, .ref ps, .int (nI u), .ref im, .ref mk, .int (nI sd), .ref wd, .int (nI s), .ref so, .int (nI q), .ref mb, .ref ma, .ref mf, .ref mw, .ref ml, .ref mu, .int (nI br), .ref wt, .int (nI ww), .ref ty])), (nw, .inl (cI, 241, .inl (nF NW))), (ps, .inl (cI, 4820, .inl (nF PS))), (im, .inl (cI, 484, .inl (nF IM))), (mk, .inl (cZ, 2, .inl (nF MK))), (wd, .inl (cI, 8, .inl (nF WD))), (so, .inl (cI, 24, .inl (nF SO))), (mb, .inl (cI, 24, .inl (nF EB))), (ma, .inl (cI, 24, .inl (nF EA))), (mf, .inl (cI, 24, .inl (nF EF))), (mw, .inl (cI, 24, .inl (nF EW))), (ml, .inl (cI, 24, .inl (nF EL))), (mu, .inl (cI, 24, .inl (oF EU))), (wt, .inl (cI, 200, .inl (oF (up (up (up WT (4 * ww) (f + 1)) ((4 * ww) + 1) (m + 1)) ((4 * ww) + 2) (d + 1))))), (ty, .inl (cI, 8, .inl (nF TY)))] := hD
    refine lv_aload_n hx hb dX6_waitsFor_45 rfl (lv_at hl 0 rfl) ?_
    refine va_get (D := D) (ci := 6) (v := .ref wt) (C := RX6) (T := TX6) (N := 20) hx hb hts inX6 hown hK hP 0 rfl rfl 17 (by decide) (hts _ mf_X6_47) (fun _ h9 => h9) rfl dX6_waitsFor_46 ?_
    refine lv_iconst (v := nI 4) hx hb dX6_waitsFor_49 (by decide +kernel) ?_
    refine lv_aload_n hx hb dX6_waitsFor_50 rfl (lv_at hl 0 rfl) ?_
    refine va_get (D := D) (ci := 6) (v := .int (nI ww)) (C := RX6) (T := TX6) (N := 20) hx hb hts inX6 hown hK hP 0 rfl rfl 18 (by decide) (hts _ mf_X6_94) (fun _ h9 => h9) rfl dX6_waitsFor_51 ?_
    refine n_imul hx hb dX6_waitsFor_54 ?_
    refine lv_iconst (v := nI 3) hx hb dX6_waitsFor_55 (by decide +kernel) ?_
    refine n_iadd hx hb dX6_waitsFor_56 ?_
    refine lv_iload hx hb dX6_waitsFor_57 (lv_at hl 4 rfl) ?_
    refine o_iast hx hb hK hP hD hS 13 0 rfl rfl (k := ((4 * ww) + 3)) (v := v) (by omega) (by decide) dX6_waitsFor_59 (fun H locs hP hD hS => ?_)
    have hP : va_P D vwCl [(m0, .inr (6, [.ref nw, .ref ps, .int (nI u), .ref im, .ref mk, .int (nI sd), .ref wd, .int (nI s), .ref so, .int (nI q), .ref mb, .ref ma, .ref mf, .ref mw, .ref ml, .ref mu, .int (nI br), .ref wt, .int (nI ww), .ref ty])), (nw, .inl (cI, 241, .inl (nF NW))), (ps, .inl (cI, 4820, .inl (nF PS))), (im, .inl (cI, 484, .inl (nF IM))), (mk, .inl (cZ, 2, .inl (nF MK))), (wd, .inl (cI, 8, .inl (nF WD))), (so, .inl (cI, 24, .inl (nF SO))), (mb, .inl (cI, 24, .inl (nF EB))), (ma, .inl (cI, 24, .inl (nF EA))), (mf, .inl (cI, 24, .inl (nF EF))), (mw, .inl (cI, 24, .inl (nF EW))), (ml, .inl (cI, 24, .inl (nF EL))), (mu, .inl (cI, 24, .inl (oF EU))), (wt, .inl (cI, 200, .inl (oF (up (up (up (up WT (4 * ww) (f + 1)) ((4 * ww) + 1) (m + 1)) ((4 * ww) + 2) (d + 1)) ((4 * ww) + 3) v)))), (ty, .inl (cI, 8, .inl (nF TY)))] H := hP
    have hD : va_D AA [(m0, .inr (6, [.ref nw, .ref ps, .int (nI u), .ref im, .ref mk, .int (nI sd), .ref wd, .int (nI s), .ref so, .int (nI q), .ref mb, .ref ma, .ref mf, .ref mw, .ref ml, .ref mu, .int (nI br), .ref wt, .int (nI ww), .ref ty])), (nw, .inl (cI, 241, .inl (nF NW))), (ps, .inl (cI, 4820, .inl (nF PS))), (im, .inl (cI, 484, .inl (nF IM))), (mk, .inl (cZ, 2, .inl (nF MK))), (wd, .inl (cI, 8, .inl (nF WD))), (so, .inl (cI, 24, .inl (nF SO))), (mb, .inl (cI, 24, .inl (nF EB))), (ma, .inl (cI, 24, .inl (nF EA))), (mf, .inl (cI, 24, .inl (nF EF))), (mw, .inl (cI, 24, .inl (nF EW))), (ml, .inl (cI, 24, .inl (nF EL))), (mu, .inl (cI, 24, .inl (oF EU))), (wt, .inl (cI, 200, .inl (oF (up (up (up (up WT (4 * ww) (f + 1)) ((4 * ww) + 1) (m + 1)) ((4 * ww) + 2) (d + 1)) ((4 * ww) + 3) v)))), (ty, .inl (cI, 8, .inl (nF TY)))] := hD
    refine lv_aload_n hx hb dX6_waitsFor_60 rfl (lv_at hl 0 rfl) ?_
    refine lv_dup hx hb dX6_waitsFor_61 rfl ?_
    refine va_get (D := D) (ci := 6) (v := .int (nI ww)) (C := RX6) (T := TX6) (N := 20) hx hb hts inX6 hown hK hP 0 rfl rfl 18 (by decide) (hts _ mf_X6_94) (fun _ h9 => h9) rfl dX6_waitsFor_62 ?_
    refine lv_iconst (v := nI 1) hx hb dX6_waitsFor_65 (by decide +kernel) ?_
    refine n_iadd hx hb dX6_waitsFor_66 ?_
    refine va_put (D := D) (ci := 6) (v := .int (nI (ww + 1))) (ty := .int) (C := RX6) (T := TX6) (N := 20) hx hb hts inX6 tyX6 tyX6_ok nmX6 hown hK hP hD hS 0 rfl rfl 18 (by decide) (hts _ mf_X6_94) (fun _ h9 => h9) rfl (by decide +kernel) rfl rfl (Nat.le_of_ble_eq_true rfl) dX6_waitsFor_67 (fun H locs hP hD hS => ?_)
    have hP : va_P D vwCl [(m0, .inr (6, [.ref nw, .ref ps, .int (nI u), .ref im, .ref mk, .int (nI sd), .ref wd, .int (nI s), .ref so, .int (nI q), .ref mb, .ref ma, .ref mf, .ref mw, .ref ml, .ref mu, .int (nI br), .ref wt, .int (nI (ww + 1)), .ref ty])), (nw, .inl (cI, 241, .inl (nF NW))), (ps, .inl (cI, 4820, .inl (nF PS))), (im, .inl (cI, 484, .inl (nF IM))), (mk, .inl (cZ, 2, .inl (nF MK))), (wd, .inl (cI, 8, .inl (nF WD))), (so, .inl (cI, 24, .inl (nF SO))), (mb, .inl (cI, 24, .inl (nF EB))), (ma, .inl (cI, 24, .inl (nF EA))), (mf, .inl (cI, 24, .inl (nF EF))), (mw, .inl (cI, 24, .inl (nF EW))), (ml, .inl (cI, 24, .inl (nF EL))), (mu, .inl (cI, 24, .inl (oF EU))), (wt, .inl (cI, 200, .inl (oF (up (up (up (up WT (4 * ww) (f + 1)) ((4 * ww) + 1) (m + 1)) ((4 * ww) + 2) (d + 1)) ((4 * ww) + 3) v)))), (ty, .inl (cI, 8, .inl (nF TY)))] H := hP
    have hD : va_D AA [(m0, .inr (6, [.ref nw, .ref ps, .int (nI u), .ref im, .ref mk, .int (nI sd), .ref wd, .int (nI s), .ref so, .int (nI q), .ref mb, .ref ma, .ref mf, .ref mw, .ref ml, .ref mu, .int (nI br), .ref wt, .int (nI (ww + 1)), .ref ty])), (nw, .inl (cI, 241, .inl (nF NW))), (ps, .inl (cI, 4820, .inl (nF PS))), (im, .inl (cI, 484, .inl (nF IM))), (mk, .inl (cZ, 2, .inl (nF MK))), (wd, .inl (cI, 8, .inl (nF WD))), (so, .inl (cI, 24, .inl (nF SO))), (mb, .inl (cI, 24, .inl (nF EB))), (ma, .inl (cI, 24, .inl (nF EA))), (mf, .inl (cI, 24, .inl (nF EF))), (mw, .inl (cI, 24, .inl (nF EW))), (ml, .inl (cI, 24, .inl (nF EL))), (mu, .inl (cI, 24, .inl (oF EU))), (wt, .inl (cI, 200, .inl (oF (up (up (up (up WT (4 * ww) (f + 1)) ((4 * ww) + 1) (m + 1)) ((4 * ww) + 2) (d + 1)) ((4 * ww) + 3) v)))), (ty, .inl (cI, 8, .inl (nF TY)))] := hD
    exact wr_vret hx hb hr hlk hP hD hS dX6_waitsFor_70 (⟨rfl, by rw [if_neg (by omega), if_neg (by omega)]; rfl⟩)
set_option maxHeartbeats 4000000 in
set_option maxRecDepth 100000 in
theorem c_X6_finds (l : Launch) (D : va_G) (cI cJ cZ : ClassId) (m0 nw ps im mk wd so mb ma mf mw ml mu wt ty : Nat) (NW : Nat → Nat) (PS : Nat → Nat) (u : Nat) (IM : Nat → Nat) (MK : Nat → Nat) (sd : Nat) (WD : Nat → Nat) (s : Nat) (SO : Nat → Nat) (q : Nat) (EB : Nat → Nat) (EA : Nat → Nat) (EF : Nat → Nat) (EW : Nat → Nat) (EL : Nat → Nat) (EU : Nat → Nat) (br : Nat) (WT : Nat → Nat) (ww : Nat) (TY : Nat → Nat) (KS KL KW : Nat → Nat) (n A : Nat) (hn : n ≤ 24) (hk : ∀ k, k < n → Wf (KS k) (KL k)) (hw0 : Wf s A) (hR : RN NW KS KL KW n) (hRW : RW WD s A) (hq : q ≤ 24) (hSO : ∀ i, i < q → SO i < n) (hsr : Srt (fun i => KS (SO i)) (fun i => KL (SO i)) q) (sz : Nat) : WR l yX6_finds cX6_finds 7 none (rmN 3 68) D (ty3 cI cJ cZ) [.ref m0] [(m0, .inr (6, [.ref nw, .ref ps, .int (nI u), .ref im, .ref mk, .int (nI sd), .ref wd, .int (nI s), .ref so, .int (nI q), .ref mb, .ref ma, .ref mf, .ref mw, .ref ml, .ref mu, .int (nI br), .ref wt, .int (nI ww), .ref ty])), (nw, .inl (cI, 241, .inl (nF NW))), (ps, .inl (cI, 4820, .inl (nF PS))), (im, .inl (cI, 484, .inl (nF IM))), (mk, .inl (cZ, 2, .inl (nF MK))), (wd, .inl (cI, 8, .inl (nF WD))), (so, .inl (cI, 24, .inl (nF SO))), (mb, .inl (cI, 24, .inl (nF EB))), (ma, .inl (cI, 24, .inl (nF EA))), (mf, .inl (cI, 24, .inl (nF EF))), (mw, .inl (cI, 24, .inl (nF EW))), (ml, .inl (cI, 24, .inl (nF EL))), (mu, .inl (cI, 24, .inl (oF EU))), (wt, .inl (cI, 200, .inl (oF WT))), (ty, .inl (cI, 8, .inl (nF TY)))] sz (fun x w => x = none ∧ ∃ EB EA EF EW EL EU WT : Nat → Nat, w = [(m0, .inr (6, [.ref nw, .ref ps, .int (nI u), .ref im, .ref mk, .int (nI sd), .ref wd, .int (nI s), .ref so, .int (nI q), .ref mb, .ref ma, .ref mf, .ref mw, .ref ml, .ref mu, .int (nI (q - 1)), .ref wt, .int (nI 0), .ref ty])), (nw, .inl (cI, 241, .inl (nF NW))), (ps, .inl (cI, 4820, .inl (nF PS))), (im, .inl (cI, 484, .inl (nF IM))), (mk, .inl (cZ, 2, .inl (nF MK))), (wd, .inl (cI, 8, .inl (nF WD))), (so, .inl (cI, 24, .inl (nF SO))), (mb, .inl (cI, 24, .inl (nF EB))), (ma, .inl (cI, 24, .inl (nF EA))), (mf, .inl (cI, 24, .inl (nF EF))), (mw, .inl (cI, 24, .inl (nF EW))), (ml, .inl (cI, 24, .inl (nF EL))), (mu, .inl (cI, 24, .inl (oF EU))), (wt, .inl (cI, 200, .inl (oF WT))), (ty, .inl (cI, 8, .inl (nF TY)))] ∧ TrM (gso KS KL SO) q EB EA EF EW EL EU) := by
  have hs8 := hw0.1
  have hA64 := hw0.2.1
  have hN0 := hR.1
  refine wr_start (by decide) (Nat.le_of_ble_eq_true rfl) ?_
  intro pp ee ss mm below meth cd AA C0 hAA hP hK hD hS hN hnm ls hl
  obtain ⟨hx, hb, hr, hml, hown, hts, hlk⟩ := C0
  have hown : ss.vm.findClass RX6 = some mm.cls := hown
  have hl : lv_has ls 7 [(0, .ref m0)] := hl
  have hP : va_P D vwCl [(m0, .inr (6, [.ref nw, .ref ps, .int (nI u), .ref im, .ref mk, .int (nI sd), .ref wd, .int (nI s), .ref so, .int (nI q), .ref mb, .ref ma, .ref mf, .ref mw, .ref ml, .ref mu, .int (nI br), .ref wt, .int (nI ww), .ref ty])), (nw, .inl (cI, 241, .inl (nF NW))), (ps, .inl (cI, 4820, .inl (nF PS))), (im, .inl (cI, 484, .inl (nF IM))), (mk, .inl (cZ, 2, .inl (nF MK))), (wd, .inl (cI, 8, .inl (nF WD))), (so, .inl (cI, 24, .inl (nF SO))), (mb, .inl (cI, 24, .inl (nF EB))), (ma, .inl (cI, 24, .inl (nF EA))), (mf, .inl (cI, 24, .inl (nF EF))), (mw, .inl (cI, 24, .inl (nF EW))), (ml, .inl (cI, 24, .inl (nF EL))), (mu, .inl (cI, 24, .inl (oF EU))), (wt, .inl (cI, 200, .inl (oF WT))), (ty, .inl (cI, 8, .inl (nF TY)))] ss.heap := hP
  refine lv_aload_n hx hb dX6_finds_0 rfl (lv_at hl 0 rfl) ?_
  refine lv_iconst (v := nI 0) hx hb dX6_finds_1 (by decide +kernel) ?_
  refine va_put (D := D) (ci := 6) (v := .int (nI 0)) (ty := .int) (C := RX6) (T := TX6) (N := 20) hx hb hts inX6 tyX6 tyX6_ok nmX6 hown hK hP hD hS 0 rfl rfl 16 (by decide) (hts _ mf_X6_97) (fun _ h9 => h9) rfl (by decide +kernel) rfl rfl (Nat.le_of_ble_eq_true rfl) dX6_finds_2 (fun H locs hP hD hS => ?_)
  have hP : va_P D vwCl [(m0, .inr (6, [.ref nw, .ref ps, .int (nI u), .ref im, .ref mk, .int (nI sd), .ref wd, .int (nI s), .ref so, .int (nI q), .ref mb, .ref ma, .ref mf, .ref mw, .ref ml, .ref mu, .int (nI 0), .ref wt, .int (nI ww), .ref ty])), (nw, .inl (cI, 241, .inl (nF NW))), (ps, .inl (cI, 4820, .inl (nF PS))), (im, .inl (cI, 484, .inl (nF IM))), (mk, .inl (cZ, 2, .inl (nF MK))), (wd, .inl (cI, 8, .inl (nF WD))), (so, .inl (cI, 24, .inl (nF SO))), (mb, .inl (cI, 24, .inl (nF EB))), (ma, .inl (cI, 24, .inl (nF EA))), (mf, .inl (cI, 24, .inl (nF EF))), (mw, .inl (cI, 24, .inl (nF EW))), (ml, .inl (cI, 24, .inl (nF EL))), (mu, .inl (cI, 24, .inl (oF EU))), (wt, .inl (cI, 200, .inl (oF WT))), (ty, .inl (cI, 8, .inl (nF TY)))] H := hP
  have hD : va_D AA [(m0, .inr (6, [.ref nw, .ref ps, .int (nI u), .ref im, .ref mk, .int (nI sd), .ref wd, .int (nI s), .ref so, .int (nI q), .ref mb, .ref ma, .ref mf, .ref mw, .ref ml, .ref mu, .int (nI 0), .ref wt, .int (nI ww), .ref ty])), (nw, .inl (cI, 241, .inl (nF NW))), (ps, .inl (cI, 4820, .inl (nF PS))), (im, .inl (cI, 484, .inl (nF IM))), (mk, .inl (cZ, 2, .inl (nF MK))), (wd, .inl (cI, 8, .inl (nF WD))), (so, .inl (cI, 24, .inl (nF SO))), (mb, .inl (cI, 24, .inl (nF EB))), (ma, .inl (cI, 24, .inl (nF EA))), (mf, .inl (cI, 24, .inl (nF EF))), (mw, .inl (cI, 24, .inl (nF EW))), (ml, .inl (cI, 24, .inl (nF EL))), (mu, .inl (cI, 24, .inl (oF EU))), (wt, .inl (cI, 200, .inl (oF WT))), (ty, .inl (cI, 8, .inl (nF TY)))] := hD
  refine lv_aload_n hx hb dX6_finds_5 rfl (lv_at hl 0 rfl) ?_
  refine lv_iconst (v := nI 0) hx hb dX6_finds_6 (by decide +kernel) ?_
  refine va_put (D := D) (ci := 6) (v := .int (nI 0)) (ty := .int) (C := RX6) (T := TX6) (N := 20) hx hb hts inX6 tyX6 tyX6_ok nmX6 hown hK hP hD hS 0 rfl rfl 18 (by decide) (hts _ mf_X6_94) (fun _ h9 => h9) rfl (by decide +kernel) rfl rfl (Nat.le_of_ble_eq_true rfl) dX6_finds_7 (fun H locs hP hD hS => ?_)
  have hP : va_P D vwCl [(m0, .inr (6, [.ref nw, .ref ps, .int (nI u), .ref im, .ref mk, .int (nI sd), .ref wd, .int (nI s), .ref so, .int (nI q), .ref mb, .ref ma, .ref mf, .ref mw, .ref ml, .ref mu, .int (nI 0), .ref wt, .int (nI 0), .ref ty])), (nw, .inl (cI, 241, .inl (nF NW))), (ps, .inl (cI, 4820, .inl (nF PS))), (im, .inl (cI, 484, .inl (nF IM))), (mk, .inl (cZ, 2, .inl (nF MK))), (wd, .inl (cI, 8, .inl (nF WD))), (so, .inl (cI, 24, .inl (nF SO))), (mb, .inl (cI, 24, .inl (nF EB))), (ma, .inl (cI, 24, .inl (nF EA))), (mf, .inl (cI, 24, .inl (nF EF))), (mw, .inl (cI, 24, .inl (nF EW))), (ml, .inl (cI, 24, .inl (nF EL))), (mu, .inl (cI, 24, .inl (oF EU))), (wt, .inl (cI, 200, .inl (oF WT))), (ty, .inl (cI, 8, .inl (nF TY)))] H := hP
  have hD : va_D AA [(m0, .inr (6, [.ref nw, .ref ps, .int (nI u), .ref im, .ref mk, .int (nI sd), .ref wd, .int (nI s), .ref so, .int (nI q), .ref mb, .ref ma, .ref mf, .ref mw, .ref ml, .ref mu, .int (nI 0), .ref wt, .int (nI 0), .ref ty])), (nw, .inl (cI, 241, .inl (nF NW))), (ps, .inl (cI, 4820, .inl (nF PS))), (im, .inl (cI, 484, .inl (nF IM))), (mk, .inl (cZ, 2, .inl (nF MK))), (wd, .inl (cI, 8, .inl (nF WD))), (so, .inl (cI, 24, .inl (nF SO))), (mb, .inl (cI, 24, .inl (nF EB))), (ma, .inl (cI, 24, .inl (nF EA))), (mf, .inl (cI, 24, .inl (nF EF))), (mw, .inl (cI, 24, .inl (nF EW))), (ml, .inl (cI, 24, .inl (nF EL))), (mu, .inl (cI, 24, .inl (oF EU))), (wt, .inl (cI, 200, .inl (oF WT))), (ty, .inl (cI, 8, .inl (nF TY)))] := hD
  refine lv_aload_n hx hb dX6_finds_10 rfl (lv_at hl 0 rfl) ?_
  refine lv_iconst (v := nI 0) hx hb dX6_finds_11 (by decide +kernel) ?_
  refine lv_aload_n hx hb dX6_finds_12 rfl (lv_at hl 0 rfl) ?_
  refine va_get (D := D) (ci := 6) (v := .int (nI q)) (C := RX6) (T := TX6) (N := 20) hx hb hts inX6 hown hK hP 0 rfl rfl 9 (by decide) (hts _ mf_X6_100) (fun _ h9 => h9) rfl dX6_finds_13 ?_
  refine lv_iconst (v := nI 0) hx hb dX6_finds_16 (by decide +kernel) ?_
  refine lv_iconst (v := oI 0) hx hb dX6_finds_17 (by decide +kernel) ?_
  refine wr_V (As := [.int (nI 0), .int (nI q), .int (nI 0), .int (oI 0)]) (rest := []) (wc := [(m0, .inr (6, [.ref nw, .ref ps, .int (nI u), .ref im, .ref mk, .int (nI sd), .ref wd, .int (nI s), .ref so, .int (nI q), .ref mb, .ref ma, .ref mf, .ref mw, .ref ml, .ref mu, .int (nI 0), .ref wt, .int (nI 0), .ref ty])), (nw, .inl (cI, 241, .inl (nF NW))), (ps, .inl (cI, 4820, .inl (nF PS))), (im, .inl (cI, 484, .inl (nF IM))), (mk, .inl (cZ, 2, .inl (nF MK))), (wd, .inl (cI, 8, .inl (nF WD))), (so, .inl (cI, 24, .inl (nF SO))), (mb, .inl (cI, 24, .inl (nF EB))), (ma, .inl (cI, 24, .inl (nF EA))), (mf, .inl (cI, 24, .inl (nF EF))), (mw, .inl (cI, 24, .inl (nF EW))), (ml, .inl (cI, 24, .inl (nF EL))), (mu, .inl (cI, 24, .inl (oF EU))), (wt, .inl (cI, 200, .inl (oF WT))), (ty, .inl (cI, 8, .inl (nF TY)))]) (wr := []) ⟨hx, hb, hml, hown, hts⟩ (c_X6_waitsFor l D cI cJ cZ m0 nw ps im mk wd so mb ma mf mw ml mu wt ty NW PS u IM MK sd WD s SO q EB EA EF EW EL EU 0 WT 0 TY 0 q 0 0 (by omega) (by omega) _) (k_X6_103 hts ⟨Nat.le_of_ble_eq_true rfl, Nat.le_of_ble_eq_true rfl⟩) hK hN hP hD hS hAA 0 rfl rfl rfl [0, 1, 2, 3, 4, 5, 6, 7, 8, 9, 10, 11, 12, 13, 14] [] rfl rfl (by decide) (by decide) (by decide) rfl hl.1 rfl (Nat.le_of_ble_eq_true rfl) dX6_finds_18 ⟨Nat.le_of_ble_eq_true rfl, Nat.le_of_ble_eq_true rfl⟩ (fun v2 w3 H locs hp1 hP hD hS => ?_)
  obtain ⟨rfl, rfl⟩ := hp1
  have hP : va_P D vwCl [(m0, .inr (6, [.ref nw, .ref ps, .int (nI u), .ref im, .ref mk, .int (nI sd), .ref wd, .int (nI s), .ref so, .int (nI q), .ref mb, .ref ma, .ref mf, .ref mw, .ref ml, .ref mu, .int (nI 0), .ref wt, .int (nI (if q ≤ 1 then 0 else 0 + 1)), .ref ty])), (nw, .inl (cI, 241, .inl (nF NW))), (ps, .inl (cI, 4820, .inl (nF PS))), (im, .inl (cI, 484, .inl (nF IM))), (mk, .inl (cZ, 2, .inl (nF MK))), (wd, .inl (cI, 8, .inl (nF WD))), (so, .inl (cI, 24, .inl (nF SO))), (mb, .inl (cI, 24, .inl (nF EB))), (ma, .inl (cI, 24, .inl (nF EA))), (mf, .inl (cI, 24, .inl (nF EF))), (mw, .inl (cI, 24, .inl (nF EW))), (ml, .inl (cI, 24, .inl (nF EL))), (mu, .inl (cI, 24, .inl (oF EU))), (wt, .inl (cI, 200, .inl (oF (if q ≤ 1 then WT else push WT 0 0 q 0 0)))), (ty, .inl (cI, 8, .inl (nF TY)))] H := hP.sub [0, 1, 2, 3, 4, 5, 6, 7, 8, 9, 10, 11, 12, 13, 14] rfl
  have hD : va_D AA [(m0, .inr (6, [.ref nw, .ref ps, .int (nI u), .ref im, .ref mk, .int (nI sd), .ref wd, .int (nI s), .ref so, .int (nI q), .ref mb, .ref ma, .ref mf, .ref mw, .ref ml, .ref mu, .int (nI 0), .ref wt, .int (nI (if q ≤ 1 then 0 else 0 + 1)), .ref ty])), (nw, .inl (cI, 241, .inl (nF NW))), (ps, .inl (cI, 4820, .inl (nF PS))), (im, .inl (cI, 484, .inl (nF IM))), (mk, .inl (cZ, 2, .inl (nF MK))), (wd, .inl (cI, 8, .inl (nF WD))), (so, .inl (cI, 24, .inl (nF SO))), (mb, .inl (cI, 24, .inl (nF EB))), (ma, .inl (cI, 24, .inl (nF EA))), (mf, .inl (cI, 24, .inl (nF EF))), (mw, .inl (cI, 24, .inl (nF EW))), (ml, .inl (cI, 24, .inl (nF EL))), (mu, .inl (cI, 24, .inl (oF EU))), (wt, .inl (cI, 200, .inl (oF (if q ≤ 1 then WT else push WT 0 0 q 0 0)))), (ty, .inl (cI, 8, .inl (nF TY)))] := hD.sub [0, 1, 2, 3, 4, 5, 6, 7, 8, 9, 10, 11, 12, 13, 14] (by decide) rfl
  have loop21 : ∀ (d : Nat) (br : Nat) (ww : Nat) (EB : Nat → Nat) (EA : Nat → Nat) (EF : Nat → Nat) (EW : Nat → Nat) (EL : Nat → Nat) (EU : Nat → Nat) (WT : Nat → Nat) (H : Heap) (locs : List Loc) (ls : Array Slot), q - br < d → (br ≤ q - 1) → (∃ NN, Stk (gso KS KL SO) q NN WT ww br) → (∀ b, b < br → (EF b, EW b, EA b, EU b) = nd (gso KS KL SO) q b ∧ EB b = gso KS KL SO (am (gso KS KL SO) (EF b) (EW b - 2)) ∧ EL b = lef (gso KS KL SO) (EF b) (EW b)) → va_P D vwCl [(m0, .inr (6, [.ref nw, .ref ps, .int (nI u), .ref im, .ref mk, .int (nI sd), .ref wd, .int (nI s), .ref so, .int (nI q), .ref mb, .ref ma, .ref mf, .ref mw, .ref ml, .ref mu, .int (nI br), .ref wt, .int (nI ww), .ref ty])), (nw, .inl (cI, 241, .inl (nF NW))), (ps, .inl (cI, 4820, .inl (nF PS))), (im, .inl (cI, 484, .inl (nF IM))), (mk, .inl (cZ, 2, .inl (nF MK))), (wd, .inl (cI, 8, .inl (nF WD))), (so, .inl (cI, 24, .inl (nF SO))), (mb, .inl (cI, 24, .inl (nF EB))), (ma, .inl (cI, 24, .inl (nF EA))), (mf, .inl (cI, 24, .inl (nF EF))), (mw, .inl (cI, 24, .inl (nF EW))), (ml, .inl (cI, 24, .inl (nF EL))), (mu, .inl (cI, 24, .inl (oF EU))), (wt, .inl (cI, 200, .inl (oF WT))), (ty, .inl (cI, 8, .inl (nF TY)))] H → va_D AA [(m0, .inr (6, [.ref nw, .ref ps, .int (nI u), .ref im, .ref mk, .int (nI sd), .ref wd, .int (nI s), .ref so, .int (nI q), .ref mb, .ref ma, .ref mf, .ref mw, .ref ml, .ref mu, .int (nI br), .ref wt, .int (nI ww), .ref ty])), (nw, .inl (cI, 241, .inl (nF NW))), (ps, .inl (cI, 4820, .inl (nF PS))), (im, .inl (cI, 484, .inl (nF IM))), (mk, .inl (cZ, 2, .inl (nF MK))), (wd, .inl (cI, 8, .inl (nF WD))), (so, .inl (cI, 24, .inl (nF SO))), (mb, .inl (cI, 24, .inl (nF EB))), (ma, .inl (cI, 24, .inl (nF EA))), (mf, .inl (cI, 24, .inl (nF EF))), (mw, .inl (cI, 24, .inl (nF EW))), (ml, .inl (cI, 24, .inl (nF EL))), (mu, .inl (cI, 24, .inl (oF EU))), (wt, .inl (cI, 200, .inl (oF WT))), (ty, .inl (cI, 8, .inl (nF TY)))] → va_S AA ss.heap H locs → lv_has ls 7 [(0, .ref m0)] → W pp l ee (rmN 3 68) ss mm [.ref m0].toArray below meth cd H locs 0 0 (MQ below (QW D AA (fun x w => x = none ∧ ∃ EB EA EF EW EL EU WT : Nat → Nat, w = [(m0, .inr (6, [.ref nw, .ref ps, .int (nI u), .ref im, .ref mk, .int (nI sd), .ref wd, .int (nI s), .ref so, .int (nI q), .ref mb, .ref ma, .ref mf, .ref mw, .ref ml, .ref mu, .int (nI (q - 1)), .ref wt, .int (nI 0), .ref ty])), (nw, .inl (cI, 241, .inl (nF NW))), (ps, .inl (cI, 4820, .inl (nF PS))), (im, .inl (cI, 484, .inl (nF IM))), (mk, .inl (cZ, 2, .inl (nF MK))), (wd, .inl (cI, 8, .inl (nF WD))), (so, .inl (cI, 24, .inl (nF SO))), (mb, .inl (cI, 24, .inl (nF EB))), (ma, .inl (cI, 24, .inl (nF EA))), (mf, .inl (cI, 24, .inl (nF EF))), (mw, .inl (cI, 24, .inl (nF EW))), (ml, .inl (cI, 24, .inl (nF EL))), (mu, .inl (cI, 24, .inl (oF EU))), (wt, .inl (cI, 200, .inl (oF WT))), (ty, .inl (cI, 8, .inl (nF TY)))] ∧ TrM (gso KS KL SO) q EB EA EF EW EL EU)) [.ref m0].toArray ss 0 0 AA) (F0 mm 21 ls []) := by
    intro d
    induction d with
    | zero => intro br ww EB EA EF EW EL EU WT H locs ls h; exact absurd h (Nat.not_lt_zero _)
    | succ d ih21 =>
      intro br ww EB EA EF EW EL EU WT H locs ls hd21 hbr hS1 hT1 hP hD hS hl
      refine lv_aload_n hx hb dX6_finds_21 rfl (lv_at hl 0 rfl) ?_
      refine va_get (D := D) (ci := 6) (v := .int (nI ww)) (C := RX6) (T := TX6) (N := 20) hx hb hts inX6 hown hK hP 0 rfl rfl 18 (by decide) (hts _ mf_X6_94) (fun _ h9 => h9) rfl dX6_finds_22 ?_
      refine n_if_le (tgt := 237) hx hb dX6_finds_25 (by decide) (by obtain ⟨NN, hSt⟩ := hS1; have := stk_le hSt; omega) (fun c4 => ?_) (fun c4 => ?_)
      ·
        obtain ⟨NN, hSt⟩ := hS1
        have hbq := hSt.2.2.2 c4
        have hww0 := c4
        exact wr_vret hx hb hr hlk hP hD hS dX6_finds_237 (⟨rfl, EB, EA, EF, EW, EL, EU, WT, by rw [hbq, hww0], fun b hb2 => hT1 b (by omega)⟩)
      ·
        obtain ⟨NN, hSt⟩ := hS1
        have hwq := stk_le hSt
        obtain ⟨f, m, d, v, hnd, hx1, w1, w2, w3, w4⟩ := stk_top hSt c4
        have hpr := nd_prop hx1 hnd
        have hzz := lef_in (gso KS KL SO) (f := f) (m := m) hpr.1
        obtain ⟨gb, hgb⟩ : ∃ gb, gb = gso KS KL SO (am (gso KS KL SO) f (m - 2)) := ⟨_, rfl⟩
        obtain ⟨z, hz⟩ : ∃ z, z = lef (gso KS KL SO) f m := ⟨_, rfl⟩
        have hg72 : gb < 72 := by rw [hgb]; exact fm_72 hsr hpr.1 hpr.2.1
        have hlo : ∀ y, y < z → bitr (KS (SO (f + y))) (KL (SO (f + y))) gb = 0 := fun y hy => by rw [hgb]; exact fm_lo hsr hpr.1 hpr.2.1 (by omega)
        have hhi : bitr (KS (SO (f + z))) (KL (SO (f + z))) gb = 1 := by rw [hgb, hz]; exact fm_hi hsr hpr.1 hpr.2.1
        have hst := stk_step hSt c4 hx1 hnd
        rw [← hz] at hst hzz
        obtain ⟨⟨N1, hS3⟩, hS2⟩ := hst
        have hw3 := stk_le hS3
        refine lv_aload_n hx hb dX6_finds_28 rfl (lv_at hl 0 rfl) ?_
        refine lv_dup hx hb dX6_finds_29 rfl ?_
        refine va_get (D := D) (ci := 6) (v := .int (nI ww)) (C := RX6) (T := TX6) (N := 20) hx hb hts inX6 hown hK hP 0 rfl rfl 18 (by decide) (hts _ mf_X6_94) (fun _ h9 => h9) rfl dX6_finds_30 ?_
        refine lv_iconst (v := nI 1) hx hb dX6_finds_33 (by decide +kernel) ?_
        refine n_isub hx hb dX6_finds_34 (by omega) ?_
        refine va_put (D := D) (ci := 6) (v := .int (nI (ww - 1))) (ty := .int) (C := RX6) (T := TX6) (N := 20) hx hb hts inX6 tyX6 tyX6_ok nmX6 hown hK hP hD hS 0 rfl rfl 18 (by decide) (hts _ mf_X6_94) (fun _ h9 => h9) rfl (by decide +kernel) rfl rfl (Nat.le_of_ble_eq_true rfl) dX6_finds_35 (fun H locs hP hD hS => ?_)
        have hP : va_P D vwCl [(m0, .inr (6, [.ref nw, .ref ps, .int (nI u), .ref im, .ref mk, .int (nI sd), .ref wd, .int (nI s), .ref so, .int (nI q), .ref mb, .ref ma, .ref mf, .ref mw, .ref ml, .ref mu, .int (nI br), .ref wt, .int (nI (ww - 1)), .ref ty])), (nw, .inl (cI, 241, .inl (nF NW))), (ps, .inl (cI, 4820, .inl (nF PS))), (im, .inl (cI, 484, .inl (nF IM))), (mk, .inl (cZ, 2, .inl (nF MK))), (wd, .inl (cI, 8, .inl (nF WD))), (so, .inl (cI, 24, .inl (nF SO))), (mb, .inl (cI, 24, .inl (nF EB))), (ma, .inl (cI, 24, .inl (nF EA))), (mf, .inl (cI, 24, .inl (nF EF))), (mw, .inl (cI, 24, .inl (nF EW))), (ml, .inl (cI, 24, .inl (nF EL))), (mu, .inl (cI, 24, .inl (oF EU))), (wt, .inl (cI, 200, .inl (oF WT))), (ty, .inl (cI, 8, .inl (nF TY)))] H := hP
        have hD : va_D AA [(m0, .inr (6, [.ref nw, .ref ps, .int (nI u), .ref im, .ref mk, .int (nI sd), .ref wd, .int (nI s), .ref so, .int (nI q), .ref mb, .ref ma, .ref mf, .ref mw, .ref ml, .ref mu, .int (nI br), .ref wt, .int (nI (ww - 1)), .ref ty])), (nw, .inl (cI, 241, .inl (nF NW))), (ps, .inl (cI, 4820, .inl (nF PS))), (im, .inl (cI, 484, .inl (nF IM))), (mk, .inl (cZ, 2, .inl (nF MK))), (wd, .inl (cI, 8, .inl (nF WD))), (so, .inl (cI, 24, .inl (nF SO))), (mb, .inl (cI, 24, .inl (nF EB))), (ma, .inl (cI, 24, .inl (nF EA))), (mf, .inl (cI, 24, .inl (nF EF))), (mw, .inl (cI, 24, .inl (nF EW))), (ml, .inl (cI, 24, .inl (nF EL))), (mu, .inl (cI, 24, .inl (oF EU))), (wt, .inl (cI, 200, .inl (oF WT))), (ty, .inl (cI, 8, .inl (nF TY)))] := hD
        refine lv_aload_n hx hb dX6_finds_38 rfl (lv_at hl 0 rfl) ?_
        refine va_get (D := D) (ci := 6) (v := .ref wt) (C := RX6) (T := TX6) (N := 20) hx hb hts inX6 hown hK hP 0 rfl rfl 17 (by decide) (hts _ mf_X6_47) (fun _ h9 => h9) rfl dX6_finds_39 ?_
        refine lv_iconst (v := nI 4) hx hb dX6_finds_42 (by decide +kernel) ?_
        refine lv_aload_n hx hb dX6_finds_43 rfl (lv_at hl 0 rfl) ?_
        refine va_get (D := D) (ci := 6) (v := .int (nI (ww - 1))) (C := RX6) (T := TX6) (N := 20) hx hb hts inX6 hown hK hP 0 rfl rfl 18 (by decide) (hts _ mf_X6_94) (fun _ h9 => h9) rfl dX6_finds_44 ?_
        refine n_imul hx hb dX6_finds_47 ?_
        refine o_iald hx hb hK hP 13 0 rfl rfl (k := (4 * (ww - 1))) (by omega) (by decide) dX6_finds_48 ?_
        refine tq (y := (nI f)) (by rw [w1, oI_s]) ?_
        refine lv_istore_n (lv' := [(1, .int (nI f)), (0, .ref m0)]) hx hb dX6_finds_49 rfl hl (by decide) rfl (fun ls hl => ?_)
        refine lv_aload_n hx hb dX6_finds_50 rfl (lv_at hl 1 rfl) ?_
        refine va_get (D := D) (ci := 6) (v := .ref wt) (C := RX6) (T := TX6) (N := 20) hx hb hts inX6 hown hK hP 0 rfl rfl 17 (by decide) (hts _ mf_X6_47) (fun _ h9 => h9) rfl dX6_finds_51 ?_
        refine lv_iconst (v := nI 4) hx hb dX6_finds_54 (by decide +kernel) ?_
        refine lv_aload_n hx hb dX6_finds_55 rfl (lv_at hl 1 rfl) ?_
        refine va_get (D := D) (ci := 6) (v := .int (nI (ww - 1))) (C := RX6) (T := TX6) (N := 20) hx hb hts inX6 hown hK hP 0 rfl rfl 18 (by decide) (hts _ mf_X6_94) (fun _ h9 => h9) rfl dX6_finds_56 ?_
        refine n_imul hx hb dX6_finds_59 ?_
        refine lv_iconst (v := nI 1) hx hb dX6_finds_60 (by decide +kernel) ?_
        refine n_iadd hx hb dX6_finds_61 ?_
        refine o_iald hx hb hK hP 13 0 rfl rfl (k := ((4 * (ww - 1)) + 1)) (by omega) (by decide) dX6_finds_62 ?_
        refine tq (y := (nI m)) (by rw [w2, oI_s]) ?_
        refine lv_istore_n (lv' := [(2, .int (nI m)), (1, .int (nI f)), (0, .ref m0)]) hx hb dX6_finds_63 rfl hl (by decide) rfl (fun ls hl => ?_)
        refine lv_aload_n hx hb dX6_finds_64 rfl (lv_at hl 2 rfl) ?_
        refine va_get (D := D) (ci := 6) (v := .ref wt) (C := RX6) (T := TX6) (N := 20) hx hb hts inX6 hown hK hP 0 rfl rfl 17 (by decide) (hts _ mf_X6_47) (fun _ h9 => h9) rfl dX6_finds_65 ?_
        refine lv_iconst (v := nI 4) hx hb dX6_finds_68 (by decide +kernel) ?_
        refine lv_aload_n hx hb dX6_finds_69 rfl (lv_at hl 2 rfl) ?_
        refine va_get (D := D) (ci := 6) (v := .int (nI (ww - 1))) (C := RX6) (T := TX6) (N := 20) hx hb hts inX6 hown hK hP 0 rfl rfl 18 (by decide) (hts _ mf_X6_94) (fun _ h9 => h9) rfl dX6_finds_70 ?_
        refine n_imul hx hb dX6_finds_73 ?_
        refine lv_iconst (v := nI 2) hx hb dX6_finds_74 (by decide +kernel) ?_
        refine n_iadd hx hb dX6_finds_75 ?_
        refine o_iald hx hb hK hP 13 0 rfl rfl (k := ((4 * (ww - 1)) + 2)) (by omega) (by decide) dX6_finds_76 ?_
        refine tq (y := (nI d)) (by rw [w3, oI_s]) ?_
        refine lv_istore_n (lv' := [(3, .int (nI d)), (2, .int (nI m)), (1, .int (nI f)), (0, .ref m0)]) hx hb dX6_finds_77 rfl hl (by decide) rfl (fun ls hl => ?_)
        refine lv_aload_n hx hb dX6_finds_78 rfl (lv_at hl 3 rfl) ?_
        refine lv_aload_n hx hb dX6_finds_79 rfl (lv_at hl 3 rfl) ?_
        refine va_get (D := D) (ci := 6) (v := .ref so) (C := RX6) (T := TX6) (N := 20) hx hb hts inX6 hown hK hP 0 rfl rfl 8 (by decide) (hts _ mf_X6_26) (fun _ h9 => h9) rfl dX6_finds_80 ?_
        refine lv_iload_n hx hb dX6_finds_83 rfl (lv_at hl 2 rfl) ?_
        refine n_iald hx hb hK hP 6 0 rfl rfl (k := f) (by omega) (by decide) dX6_finds_84 ?_
        refine lv_aload_n hx hb dX6_finds_85 rfl (lv_at hl 3 rfl) ?_
        refine va_get (D := D) (ci := 6) (v := .ref so) (C := RX6) (T := TX6) (N := 20) hx hb hts inX6 hown hK hP 0 rfl rfl 8 (by decide) (hts _ mf_X6_26) (fun _ h9 => h9) rfl dX6_finds_86 ?_
        refine lv_iload_n hx hb dX6_finds_89 rfl (lv_at hl 2 rfl) ?_
        refine lv_iload_n hx hb dX6_finds_90 rfl (lv_at hl 1 rfl) ?_
        refine n_iadd hx hb dX6_finds_91 ?_
        refine lv_iconst (v := nI 1) hx hb dX6_finds_92 (by decide +kernel) ?_
        refine n_isub hx hb dX6_finds_93 (by omega) ?_
        refine n_iald hx hb hK hP 6 0 rfl rfl (k := ((f + m) - 1)) (by omega) (by decide) dX6_finds_94 ?_
        refine ro_V (As := [.int (nI (SO f)), .int (nI (SO ((f + m) - 1)))]) (rest := []) ⟨hx, hb, hml, hown, hts⟩ (c_X6_unlikeAt l D cI cJ cZ m0 nw ps im mk wd so mb ma mf mw ml mu wt ty NW PS u IM MK sd WD s SO q EB EA EF EW EL EU br WT (ww - 1) TY KS KL KW n A hn hk hw0 hR hRW (SO f) ((KS (SO f))) ((KL (SO f))) (Or.inr ⟨hSO _ (by omega), rfl, rfl⟩) (SO ((f + m) - 1)) ((KS (SO ((f + m) - 1)))) ((KL (SO ((f + m) - 1)))) (Or.inr ⟨hSO _ (by omega), rfl, rfl⟩)) (k_X6_68 hts ⟨Nat.le_of_ble_eq_true rfl, Nat.le_of_ble_eq_true rfl⟩) hK hP 0 rfl rfl rfl [0, 1, 2, 3, 4, 5, 6, 7, 8, 9, 10, 11, 12, 13, 14] rfl rfl hl.1 rfl (Nat.le_of_ble_eq_true rfl) dX6_finds_95 ⟨Nat.le_of_ble_eq_true rfl, Nat.le_of_ble_eq_true rfl⟩ ?_
        refine tq (y := (nI gb)) (congrArg nI (by rw [hgb]; exact fm_bit hsr hpr.1 hpr.2.1)) ?_
        refine lv_istore (lv' := [(4, .int (nI gb)), (3, .int (nI d)), (2, .int (nI m)), (1, .int (nI f)), (0, .ref m0)]) hx hb dX6_finds_98 hl (by decide) rfl (fun ls hl => ?_)
        refine lv_iconst (v := nI 0) hx hb dX6_finds_100 (by decide +kernel) ?_
        refine lv_istore (lv' := [(5, .int (nI 0)), (4, .int (nI gb)), (3, .int (nI d)), (2, .int (nI m)), (1, .int (nI f)), (0, .ref m0)]) hx hb dX6_finds_101 hl (by decide) rfl (fun ls hl => ?_)
        have loop103 : ∀ (dq : Nat) (y : Nat) (H : Heap) (locs : List Loc) (ls : Array Slot), z - y < dq → (y ≤ z) → va_P D vwCl [(m0, .inr (6, [.ref nw, .ref ps, .int (nI u), .ref im, .ref mk, .int (nI sd), .ref wd, .int (nI s), .ref so, .int (nI q), .ref mb, .ref ma, .ref mf, .ref mw, .ref ml, .ref mu, .int (nI br), .ref wt, .int (nI (ww - 1)), .ref ty])), (nw, .inl (cI, 241, .inl (nF NW))), (ps, .inl (cI, 4820, .inl (nF PS))), (im, .inl (cI, 484, .inl (nF IM))), (mk, .inl (cZ, 2, .inl (nF MK))), (wd, .inl (cI, 8, .inl (nF WD))), (so, .inl (cI, 24, .inl (nF SO))), (mb, .inl (cI, 24, .inl (nF EB))), (ma, .inl (cI, 24, .inl (nF EA))), (mf, .inl (cI, 24, .inl (nF EF))), (mw, .inl (cI, 24, .inl (nF EW))), (ml, .inl (cI, 24, .inl (nF EL))), (mu, .inl (cI, 24, .inl (oF EU))), (wt, .inl (cI, 200, .inl (oF WT))), (ty, .inl (cI, 8, .inl (nF TY)))] H → va_D AA [(m0, .inr (6, [.ref nw, .ref ps, .int (nI u), .ref im, .ref mk, .int (nI sd), .ref wd, .int (nI s), .ref so, .int (nI q), .ref mb, .ref ma, .ref mf, .ref mw, .ref ml, .ref mu, .int (nI br), .ref wt, .int (nI (ww - 1)), .ref ty])), (nw, .inl (cI, 241, .inl (nF NW))), (ps, .inl (cI, 4820, .inl (nF PS))), (im, .inl (cI, 484, .inl (nF IM))), (mk, .inl (cZ, 2, .inl (nF MK))), (wd, .inl (cI, 8, .inl (nF WD))), (so, .inl (cI, 24, .inl (nF SO))), (mb, .inl (cI, 24, .inl (nF EB))), (ma, .inl (cI, 24, .inl (nF EA))), (mf, .inl (cI, 24, .inl (nF EF))), (mw, .inl (cI, 24, .inl (nF EW))), (ml, .inl (cI, 24, .inl (nF EL))), (mu, .inl (cI, 24, .inl (oF EU))), (wt, .inl (cI, 200, .inl (oF WT))), (ty, .inl (cI, 8, .inl (nF TY)))] → va_S AA ss.heap H locs → lv_has ls 7 [(0, .ref m0), (1, .int (nI f)), (2, .int (nI m)), (3, .int (nI d)), (4, .int (nI gb)), (5, .int (nI y))] → W pp l ee (rmN 3 68) ss mm [.ref m0].toArray below meth cd H locs 0 0 (MQ below (QW D AA (fun x w => x = none ∧ ∃ EB EA EF EW EL EU WT : Nat → Nat, w = [(m0, .inr (6, [.ref nw, .ref ps, .int (nI u), .ref im, .ref mk, .int (nI sd), .ref wd, .int (nI s), .ref so, .int (nI q), .ref mb, .ref ma, .ref mf, .ref mw, .ref ml, .ref mu, .int (nI (q - 1)), .ref wt, .int (nI 0), .ref ty])), (nw, .inl (cI, 241, .inl (nF NW))), (ps, .inl (cI, 4820, .inl (nF PS))), (im, .inl (cI, 484, .inl (nF IM))), (mk, .inl (cZ, 2, .inl (nF MK))), (wd, .inl (cI, 8, .inl (nF WD))), (so, .inl (cI, 24, .inl (nF SO))), (mb, .inl (cI, 24, .inl (nF EB))), (ma, .inl (cI, 24, .inl (nF EA))), (mf, .inl (cI, 24, .inl (nF EF))), (mw, .inl (cI, 24, .inl (nF EW))), (ml, .inl (cI, 24, .inl (nF EL))), (mu, .inl (cI, 24, .inl (oF EU))), (wt, .inl (cI, 200, .inl (oF WT))), (ty, .inl (cI, 8, .inl (nF TY)))] ∧ TrM (gso KS KL SO) q EB EA EF EW EL EU)) [.ref m0].toArray ss 0 0 AA) (F0 mm 103 ls []) := by
          intro dq
          induction dq with
          | zero => intro y H locs ls h; exact absurd h (Nat.not_lt_zero _)
          | succ dq ih103 =>
            intro y H locs ls hd103 hy hP hD hS hl
            refine lv_aload_n hx hb dX6_finds_103 rfl (lv_at hl 0 rfl) ?_
            refine lv_aload_n hx hb dX6_finds_104 rfl (lv_at hl 0 rfl) ?_
            refine va_get (D := D) (ci := 6) (v := .ref so) (C := RX6) (T := TX6) (N := 20) hx hb hts inX6 hown hK hP 0 rfl rfl 8 (by decide) (hts _ mf_X6_26) (fun _ h9 => h9) rfl dX6_finds_105 ?_
            refine lv_iload_n hx hb dX6_finds_108 rfl (lv_at hl 1 rfl) ?_
            refine lv_iload hx hb dX6_finds_109 (lv_at hl 5 rfl) ?_
            refine n_iadd hx hb dX6_finds_111 ?_
            refine n_iald hx hb hK hP 6 0 rfl rfl (k := (f + y)) (by omega) (by decide) dX6_finds_112 ?_
            refine lv_iload hx hb dX6_finds_113 (lv_at hl 4 rfl) ?_
            refine ro_V (As := [.int (nI (SO (f + y))), .int (nI gb)]) (rest := []) ⟨hx, hb, hml, hown, hts⟩ (c_X6_bitOf l D cI cJ cZ m0 nw ps im mk wd so mb ma mf mw ml mu wt ty NW PS u IM MK sd WD s SO q EB EA EF EW EL EU br WT (ww - 1) TY KS KL KW n A hn hk hw0 hR hRW (SO (f + y)) ((KS (SO (f + y)))) ((KL (SO (f + y)))) (Or.inr ⟨hSO _ (by omega), rfl, rfl⟩) gb hg72) (k_X6_65 hts ⟨Nat.le_of_ble_eq_true rfl, Nat.le_of_ble_eq_true rfl⟩) hK hP 0 rfl rfl rfl [0, 1, 2, 3, 4, 5, 6, 7, 8, 9, 10, 11, 12, 13, 14] rfl rfl hl.1 rfl (Nat.le_of_ble_eq_true rfl) dX6_finds_115 ⟨Nat.le_of_ble_eq_true rfl, Nat.le_of_ble_eq_true rfl⟩ ?_
            refine n_if_ne (tgt := 127) hx hb dX6_finds_118 (by decide) (Nat.lt_trans (bitr_lt _ _ _) (by decide)) (fun c5 => ?_) (fun c5 => ?_)
            ·
              have hyz : y = z := by rcases Nat.lt_or_ge y z with g | g; exact absurd (hlo y g) c5; omega
              subst hyz
              refine lv_aload_n hx hb dX6_finds_127 rfl (lv_at hl 0 rfl) ?_
              refine va_get (D := D) (ci := 6) (v := .int (nI br)) (C := RX6) (T := TX6) (N := 20) hx hb hts inX6 hown hK hP 0 rfl rfl 16 (by decide) (hts _ mf_X6_97) (fun _ h9 => h9) rfl dX6_finds_128 ?_
              refine lv_istore (lv' := [(6, .int (nI br)), (0, .ref m0), (1, .int (nI f)), (2, .int (nI m)), (3, .int (nI d)), (4, .int (nI gb)), (5, .int (nI y))]) hx hb dX6_finds_131 hl (by decide) rfl (fun ls hl => ?_)
              refine lv_aload_n hx hb dX6_finds_133 rfl (lv_at hl 1 rfl) ?_
              refine va_get (D := D) (ci := 6) (v := .ref mb) (C := RX6) (T := TX6) (N := 20) hx hb hts inX6 hown hK hP 0 rfl rfl 10 (by decide) (hts _ mf_X6_29) (fun _ h9 => h9) rfl dX6_finds_134 ?_
              refine lv_iload hx hb dX6_finds_137 (lv_at hl 0 rfl) ?_
              refine lv_iload hx hb dX6_finds_139 (lv_at hl 5 rfl) ?_
              refine n_iast hx hb hK hP hD hS 7 0 rfl rfl (k := br) (v := gb) (by omega) (by decide) dX6_finds_141 (fun H locs hP hD hS => ?_)
              have hP : va_P D vwCl [(m0, .inr (6, [.ref nw, .ref ps, .int (nI u), .ref im, .ref mk, .int (nI sd), .ref wd, .int (nI s), .ref so, .int (nI q), .ref mb, .ref ma, .ref mf, .ref mw, .ref ml, .ref mu, .int (nI br), .ref wt, .int (nI (ww - 1)), .ref ty])), (nw, .inl (cI, 241, .inl (nF NW))), (ps, .inl (cI, 4820, .inl (nF PS))), (im, .inl (cI, 484, .inl (nF IM))), (mk, .inl (cZ, 2, .inl (nF MK))), (wd, .inl (cI, 8, .inl (nF WD))), (so, .inl (cI, 24, .inl (nF SO))), (mb, .inl (cI, 24, .inl (nF (up EB br gb)))), (ma, .inl (cI, 24, .inl (nF EA))), (mf, .inl (cI, 24, .inl (nF EF))), (mw, .inl (cI, 24, .inl (nF EW))), (ml, .inl (cI, 24, .inl (nF EL))), (mu, .inl (cI, 24, .inl (oF EU))), (wt, .inl (cI, 200, .inl (oF WT))), (ty, .inl (cI, 8, .inl (nF TY)))] H := hP
              have hD : va_D AA [(m0, .inr (6, [.ref nw, .ref ps, .int (nI u), .ref im, .ref mk, .int (nI sd), .ref wd, .int (nI s), .ref so, .int (nI q), .ref mb, .ref ma, .ref mf, .ref mw, .ref ml, .ref mu, .int (nI br), .ref wt, .int (nI (ww - 1)), .ref ty])), (nw, .inl (cI, 241, .inl (nF NW))), (ps, .inl (cI, 4820, .inl (nF PS))), (im, .inl (cI, 484, .inl (nF IM))), (mk, .inl (cZ, 2, .inl (nF MK))), (wd, .inl (cI, 8, .inl (nF WD))), (so, .inl (cI, 24, .inl (nF SO))), (mb, .inl (cI, 24, .inl (nF (up EB br gb)))), (ma, .inl (cI, 24, .inl (nF EA))), (mf, .inl (cI, 24, .inl (nF EF))), (mw, .inl (cI, 24, .inl (nF EW))), (ml, .inl (cI, 24, .inl (nF EL))), (mu, .inl (cI, 24, .inl (oF EU))), (wt, .inl (cI, 200, .inl (oF WT))), (ty, .inl (cI, 8, .inl (nF TY)))] := hD
              refine lv_aload_n hx hb dX6_finds_142 rfl (lv_at hl 1 rfl) ?_
              refine va_get (D := D) (ci := 6) (v := .ref ma) (C := RX6) (T := TX6) (N := 20) hx hb hts inX6 hown hK hP 0 rfl rfl 11 (by decide) (hts _ mf_X6_32) (fun _ h9 => h9) rfl dX6_finds_143 ?_
              refine lv_iload hx hb dX6_finds_146 (lv_at hl 0 rfl) ?_
              refine lv_iload_n hx hb dX6_finds_148 rfl (lv_at hl 4 rfl) ?_
              refine n_iast hx hb hK hP hD hS 8 0 rfl rfl (k := br) (v := d) (by omega) (by decide) dX6_finds_149 (fun H locs hP hD hS => ?_)
              have hP : va_P D vwCl [(m0, .inr (6, [.ref nw, .ref ps, .int (nI u), .ref im, .ref mk, .int (nI sd), .ref wd, .int (nI s), .ref so, .int (nI q), .ref mb, .ref ma, .ref mf, .ref mw, .ref ml, .ref mu, .int (nI br), .ref wt, .int (nI (ww - 1)), .ref ty])), (nw, .inl (cI, 241, .inl (nF NW))), (ps, .inl (cI, 4820, .inl (nF PS))), (im, .inl (cI, 484, .inl (nF IM))), (mk, .inl (cZ, 2, .inl (nF MK))), (wd, .inl (cI, 8, .inl (nF WD))), (so, .inl (cI, 24, .inl (nF SO))), (mb, .inl (cI, 24, .inl (nF (up EB br gb)))), (ma, .inl (cI, 24, .inl (nF (up EA br d)))), (mf, .inl (cI, 24, .inl (nF EF))), (mw, .inl (cI, 24, .inl (nF EW))), (ml, .inl (cI, 24, .inl (nF EL))), (mu, .inl (cI, 24, .inl (oF EU))), (wt, .inl (cI, 200, .inl (oF WT))), (ty, .inl (cI, 8, .inl (nF TY)))] H := hP
              have hD : va_D AA [(m0, .inr (6, [.ref nw, .ref ps, .int (nI u), .ref im, .ref mk, .int (nI sd), .ref wd, .int (nI s), .ref so, .int (nI q), .ref mb, .ref ma, .ref mf, .ref mw, .ref ml, .ref mu, .int (nI br), .ref wt, .int (nI (ww - 1)), .ref ty])), (nw, .inl (cI, 241, .inl (nF NW))), (ps, .inl (cI, 4820, .inl (nF PS))), (im, .inl (cI, 484, .inl (nF IM))), (mk, .inl (cZ, 2, .inl (nF MK))), (wd, .inl (cI, 8, .inl (nF WD))), (so, .inl (cI, 24, .inl (nF SO))), (mb, .inl (cI, 24, .inl (nF (up EB br gb)))), (ma, .inl (cI, 24, .inl (nF (up EA br d)))), (mf, .inl (cI, 24, .inl (nF EF))), (mw, .inl (cI, 24, .inl (nF EW))), (ml, .inl (cI, 24, .inl (nF EL))), (mu, .inl (cI, 24, .inl (oF EU))), (wt, .inl (cI, 200, .inl (oF WT))), (ty, .inl (cI, 8, .inl (nF TY)))] := hD
              refine lv_aload_n hx hb dX6_finds_150 rfl (lv_at hl 1 rfl) ?_
              refine va_get (D := D) (ci := 6) (v := .ref mf) (C := RX6) (T := TX6) (N := 20) hx hb hts inX6 hown hK hP 0 rfl rfl 12 (by decide) (hts _ mf_X6_35) (fun _ h9 => h9) rfl dX6_finds_151 ?_
              refine lv_iload hx hb dX6_finds_154 (lv_at hl 0 rfl) ?_
              refine lv_iload_n hx hb dX6_finds_156 rfl (lv_at hl 2 rfl) ?_
              refine n_iast hx hb hK hP hD hS 9 0 rfl rfl (k := br) (v := f) (by omega) (by decide) dX6_finds_157 (fun H locs hP hD hS => ?_)
              have hP : va_P D vwCl [(m0, .inr (6, [.ref nw, .ref ps, .int (nI u), .ref im, .ref mk, .int (nI sd), .ref wd, .int (nI s), .ref so, .int (nI q), .ref mb, .ref ma, .ref mf, .ref mw, .ref ml, .ref mu, .int (nI br), .ref wt, .int (nI (ww - 1)), .ref ty])), (nw, .inl (cI, 241, .inl (nF NW))), (ps, .inl (cI, 4820, .inl (nF PS))), (im, .inl (cI, 484, .inl (nF IM))), (mk, .inl (cZ, 2, .inl (nF MK))), (wd, .inl (cI, 8, .inl (nF WD))), (so, .inl (cI, 24, .inl (nF SO))), (mb, .inl (cI, 24, .inl (nF (up EB br gb)))), (ma, .inl (cI, 24, .inl (nF (up EA br d)))), (mf, .inl (cI, 24, .inl (nF (up EF br f)))), (mw, .inl (cI, 24, .inl (nF EW))), (ml, .inl (cI, 24, .inl (nF EL))), (mu, .inl (cI, 24, .inl (oF EU))), (wt, .inl (cI, 200, .inl (oF WT))), (ty, .inl (cI, 8, .inl (nF TY)))] H := hP
              have hD : va_D AA [(m0, .inr (6, [.ref nw, .ref ps, .int (nI u), .ref im, .ref mk, .int (nI sd), .ref wd, .int (nI s), .ref so, .int (nI q), .ref mb, .ref ma, .ref mf, .ref mw, .ref ml, .ref mu, .int (nI br), .ref wt, .int (nI (ww - 1)), .ref ty])), (nw, .inl (cI, 241, .inl (nF NW))), (ps, .inl (cI, 4820, .inl (nF PS))), (im, .inl (cI, 484, .inl (nF IM))), (mk, .inl (cZ, 2, .inl (nF MK))), (wd, .inl (cI, 8, .inl (nF WD))), (so, .inl (cI, 24, .inl (nF SO))), (mb, .inl (cI, 24, .inl (nF (up EB br gb)))), (ma, .inl (cI, 24, .inl (nF (up EA br d)))), (mf, .inl (cI, 24, .inl (nF (up EF br f)))), (mw, .inl (cI, 24, .inl (nF EW))), (ml, .inl (cI, 24, .inl (nF EL))), (mu, .inl (cI, 24, .inl (oF EU))), (wt, .inl (cI, 200, .inl (oF WT))), (ty, .inl (cI, 8, .inl (nF TY)))] := hD
              refine lv_aload_n hx hb dX6_finds_158 rfl (lv_at hl 1 rfl) ?_
              refine va_get (D := D) (ci := 6) (v := .ref mw) (C := RX6) (T := TX6) (N := 20) hx hb hts inX6 hown hK hP 0 rfl rfl 13 (by decide) (hts _ mf_X6_38) (fun _ h9 => h9) rfl dX6_finds_159 ?_
              refine lv_iload hx hb dX6_finds_162 (lv_at hl 0 rfl) ?_
              refine lv_iload_n hx hb dX6_finds_164 rfl (lv_at hl 3 rfl) ?_
              refine n_iast hx hb hK hP hD hS 10 0 rfl rfl (k := br) (v := m) (by omega) (by decide) dX6_finds_165 (fun H locs hP hD hS => ?_)
              have hP : va_P D vwCl [(m0, .inr (6, [.ref nw, .ref ps, .int (nI u), .ref im, .ref mk, .int (nI sd), .ref wd, .int (nI s), .ref so, .int (nI q), .ref mb, .ref ma, .ref mf, .ref mw, .ref ml, .ref mu, .int (nI br), .ref wt, .int (nI (ww - 1)), .ref ty])), (nw, .inl (cI, 241, .inl (nF NW))), (ps, .inl (cI, 4820, .inl (nF PS))), (im, .inl (cI, 484, .inl (nF IM))), (mk, .inl (cZ, 2, .inl (nF MK))), (wd, .inl (cI, 8, .inl (nF WD))), (so, .inl (cI, 24, .inl (nF SO))), (mb, .inl (cI, 24, .inl (nF (up EB br gb)))), (ma, .inl (cI, 24, .inl (nF (up EA br d)))), (mf, .inl (cI, 24, .inl (nF (up EF br f)))), (mw, .inl (cI, 24, .inl (nF (up EW br m)))), (ml, .inl (cI, 24, .inl (nF EL))), (mu, .inl (cI, 24, .inl (oF EU))), (wt, .inl (cI, 200, .inl (oF WT))), (ty, .inl (cI, 8, .inl (nF TY)))] H := hP
              have hD : va_D AA [(m0, .inr (6, [.ref nw, .ref ps, .int (nI u), .ref im, .ref mk, .int (nI sd), .ref wd, .int (nI s), .ref so, .int (nI q), .ref mb, .ref ma, .ref mf, .ref mw, .ref ml, .ref mu, .int (nI br), .ref wt, .int (nI (ww - 1)), .ref ty])), (nw, .inl (cI, 241, .inl (nF NW))), (ps, .inl (cI, 4820, .inl (nF PS))), (im, .inl (cI, 484, .inl (nF IM))), (mk, .inl (cZ, 2, .inl (nF MK))), (wd, .inl (cI, 8, .inl (nF WD))), (so, .inl (cI, 24, .inl (nF SO))), (mb, .inl (cI, 24, .inl (nF (up EB br gb)))), (ma, .inl (cI, 24, .inl (nF (up EA br d)))), (mf, .inl (cI, 24, .inl (nF (up EF br f)))), (mw, .inl (cI, 24, .inl (nF (up EW br m)))), (ml, .inl (cI, 24, .inl (nF EL))), (mu, .inl (cI, 24, .inl (oF EU))), (wt, .inl (cI, 200, .inl (oF WT))), (ty, .inl (cI, 8, .inl (nF TY)))] := hD
              refine lv_aload_n hx hb dX6_finds_166 rfl (lv_at hl 1 rfl) ?_
              refine va_get (D := D) (ci := 6) (v := .ref ml) (C := RX6) (T := TX6) (N := 20) hx hb hts inX6 hown hK hP 0 rfl rfl 14 (by decide) (hts _ mf_X6_41) (fun _ h9 => h9) rfl dX6_finds_167 ?_
              refine lv_iload hx hb dX6_finds_170 (lv_at hl 0 rfl) ?_
              refine lv_iload hx hb dX6_finds_172 (lv_at hl 6 rfl) ?_
              refine n_iast hx hb hK hP hD hS 11 0 rfl rfl (k := br) (v := y) (by omega) (by decide) dX6_finds_174 (fun H locs hP hD hS => ?_)
              have hP : va_P D vwCl [(m0, .inr (6, [.ref nw, .ref ps, .int (nI u), .ref im, .ref mk, .int (nI sd), .ref wd, .int (nI s), .ref so, .int (nI q), .ref mb, .ref ma, .ref mf, .ref mw, .ref ml, .ref mu, .int (nI br), .ref wt, .int (nI (ww - 1)), .ref ty])), (nw, .inl (cI, 241, .inl (nF NW))), (ps, .inl (cI, 4820, .inl (nF PS))), (im, .inl (cI, 484, .inl (nF IM))), (mk, .inl (cZ, 2, .inl (nF MK))), (wd, .inl (cI, 8, .inl (nF WD))), (so, .inl (cI, 24, .inl (nF SO))), (mb, .inl (cI, 24, .inl (nF (up EB br gb)))), (ma, .inl (cI, 24, .inl (nF (up EA br d)))), (mf, .inl (cI, 24, .inl (nF (up EF br f)))), (mw, .inl (cI, 24, .inl (nF (up EW br m)))), (ml, .inl (cI, 24, .inl (nF (up EL br y)))), (mu, .inl (cI, 24, .inl (oF EU))), (wt, .inl (cI, 200, .inl (oF WT))), (ty, .inl (cI, 8, .inl (nF TY)))] H := hP
              have hD : va_D AA [(m0, .inr (6, [.ref nw, .ref ps, .int (nI u), .ref im, .ref mk, .int (nI sd), .ref wd, .int (nI s), .ref so, .int (nI q), .ref mb, .ref ma, .ref mf, .ref mw, .ref ml, .ref mu, .int (nI br), .ref wt, .int (nI (ww - 1)), .ref ty])), (nw, .inl (cI, 241, .inl (nF NW))), (ps, .inl (cI, 4820, .inl (nF PS))), (im, .inl (cI, 484, .inl (nF IM))), (mk, .inl (cZ, 2, .inl (nF MK))), (wd, .inl (cI, 8, .inl (nF WD))), (so, .inl (cI, 24, .inl (nF SO))), (mb, .inl (cI, 24, .inl (nF (up EB br gb)))), (ma, .inl (cI, 24, .inl (nF (up EA br d)))), (mf, .inl (cI, 24, .inl (nF (up EF br f)))), (mw, .inl (cI, 24, .inl (nF (up EW br m)))), (ml, .inl (cI, 24, .inl (nF (up EL br y)))), (mu, .inl (cI, 24, .inl (oF EU))), (wt, .inl (cI, 200, .inl (oF WT))), (ty, .inl (cI, 8, .inl (nF TY)))] := hD
              refine lv_aload_n hx hb dX6_finds_175 rfl (lv_at hl 1 rfl) ?_
              refine va_get (D := D) (ci := 6) (v := .ref mu) (C := RX6) (T := TX6) (N := 20) hx hb hts inX6 hown hK hP 0 rfl rfl 15 (by decide) (hts _ mf_X6_44) (fun _ h9 => h9) rfl dX6_finds_176 ?_
              refine lv_iload hx hb dX6_finds_179 (lv_at hl 0 rfl) ?_
              refine lv_aload_n hx hb dX6_finds_181 rfl (lv_at hl 1 rfl) ?_
              refine va_get (D := D) (ci := 6) (v := .ref wt) (C := RX6) (T := TX6) (N := 20) hx hb hts inX6 hown hK hP 0 rfl rfl 17 (by decide) (hts _ mf_X6_47) (fun _ h9 => h9) rfl dX6_finds_182 ?_
              refine lv_iconst (v := nI 4) hx hb dX6_finds_185 (by decide +kernel) ?_
              refine lv_aload_n hx hb dX6_finds_186 rfl (lv_at hl 1 rfl) ?_
              refine va_get (D := D) (ci := 6) (v := .int (nI (ww - 1))) (C := RX6) (T := TX6) (N := 20) hx hb hts inX6 hown hK hP 0 rfl rfl 18 (by decide) (hts _ mf_X6_94) (fun _ h9 => h9) rfl dX6_finds_187 ?_
              refine n_imul hx hb dX6_finds_190 ?_
              refine lv_iconst (v := nI 3) hx hb dX6_finds_191 (by decide +kernel) ?_
              refine n_iadd hx hb dX6_finds_192 ?_
              refine o_iald hx hb hK hP 13 0 rfl rfl (k := ((4 * (ww - 1)) + 3)) (by omega) (by decide) dX6_finds_193 ?_
              refine tq (y := oI v) (congrArg oI (w4)) ?_
              refine o_iast hx hb hK hP hD hS 12 0 rfl rfl (k := br) (v := v) (by omega) (by decide) dX6_finds_194 (fun H locs hP hD hS => ?_)
              have hP : va_P D vwCl [(m0, .inr (6, [.ref nw, .ref ps, .int (nI u), .ref im, .ref mk, .int (nI sd), .ref wd, .int (nI s), .ref so, .int (nI q), .ref mb, .ref ma, .ref mf, .ref mw, .ref ml, .ref mu, .int (nI br), .ref wt, .int (nI (ww - 1)), .ref ty])), (nw, .inl (cI, 241, .inl (nF NW))), (ps, .inl (cI, 4820, .inl (nF PS))), (im, .inl (cI, 484, .inl (nF IM))), (mk, .inl (cZ, 2, .inl (nF MK))), (wd, .inl (cI, 8, .inl (nF WD))), (so, .inl (cI, 24, .inl (nF SO))), (mb, .inl (cI, 24, .inl (nF (up EB br gb)))), (ma, .inl (cI, 24, .inl (nF (up EA br d)))), (mf, .inl (cI, 24, .inl (nF (up EF br f)))), (mw, .inl (cI, 24, .inl (nF (up EW br m)))), (ml, .inl (cI, 24, .inl (nF (up EL br y)))), (mu, .inl (cI, 24, .inl (oF (up EU br v)))), (wt, .inl (cI, 200, .inl (oF WT))), (ty, .inl (cI, 8, .inl (nF TY)))] H := hP
              have hD : va_D AA [(m0, .inr (6, [.ref nw, .ref ps, .int (nI u), .ref im, .ref mk, .int (nI sd), .ref wd, .int (nI s), .ref so, .int (nI q), .ref mb, .ref ma, .ref mf, .ref mw, .ref ml, .ref mu, .int (nI br), .ref wt, .int (nI (ww - 1)), .ref ty])), (nw, .inl (cI, 241, .inl (nF NW))), (ps, .inl (cI, 4820, .inl (nF PS))), (im, .inl (cI, 484, .inl (nF IM))), (mk, .inl (cZ, 2, .inl (nF MK))), (wd, .inl (cI, 8, .inl (nF WD))), (so, .inl (cI, 24, .inl (nF SO))), (mb, .inl (cI, 24, .inl (nF (up EB br gb)))), (ma, .inl (cI, 24, .inl (nF (up EA br d)))), (mf, .inl (cI, 24, .inl (nF (up EF br f)))), (mw, .inl (cI, 24, .inl (nF (up EW br m)))), (ml, .inl (cI, 24, .inl (nF (up EL br y)))), (mu, .inl (cI, 24, .inl (oF (up EU br v)))), (wt, .inl (cI, 200, .inl (oF WT))), (ty, .inl (cI, 8, .inl (nF TY)))] := hD
              refine lv_aload_n hx hb dX6_finds_195 rfl (lv_at hl 1 rfl) ?_
              refine lv_dup hx hb dX6_finds_196 rfl ?_
              refine va_get (D := D) (ci := 6) (v := .int (nI br)) (C := RX6) (T := TX6) (N := 20) hx hb hts inX6 hown hK hP 0 rfl rfl 16 (by decide) (hts _ mf_X6_97) (fun _ h9 => h9) rfl dX6_finds_197 ?_
              refine lv_iconst (v := nI 1) hx hb dX6_finds_200 (by decide +kernel) ?_
              refine n_iadd hx hb dX6_finds_201 ?_
              refine va_put (D := D) (ci := 6) (v := .int (nI (br + 1))) (ty := .int) (C := RX6) (T := TX6) (N := 20) hx hb hts inX6 tyX6 tyX6_ok nmX6 hown hK hP hD hS 0 rfl rfl 16 (by decide) (hts _ mf_X6_97) (fun _ h9 => h9) rfl (by decide +kernel) rfl rfl (Nat.le_of_ble_eq_true rfl) dX6_finds_202 (fun H locs hP hD hS => ?_)
              have hP : va_P D vwCl [(m0, .inr (6, [.ref nw, .ref ps, .int (nI u), .ref im, .ref mk, .int (nI sd), .ref wd, .int (nI s), .ref so, .int (nI q), .ref mb, .ref ma, .ref mf, .ref mw, .ref ml, .ref mu, .int (nI (br + 1)), .ref wt, .int (nI (ww - 1)), .ref ty])), (nw, .inl (cI, 241, .inl (nF NW))), (ps, .inl (cI, 4820, .inl (nF PS))), (im, .inl (cI, 484, .inl (nF IM))), (mk, .inl (cZ, 2, .inl (nF MK))), (wd, .inl (cI, 8, .inl (nF WD))), (so, .inl (cI, 24, .inl (nF SO))), (mb, .inl (cI, 24, .inl (nF (up EB br gb)))), (ma, .inl (cI, 24, .inl (nF (up EA br d)))), (mf, .inl (cI, 24, .inl (nF (up EF br f)))), (mw, .inl (cI, 24, .inl (nF (up EW br m)))), (ml, .inl (cI, 24, .inl (nF (up EL br y)))), (mu, .inl (cI, 24, .inl (oF (up EU br v)))), (wt, .inl (cI, 200, .inl (oF WT))), (ty, .inl (cI, 8, .inl (nF TY)))] H := hP
              have hD : va_D AA [(m0, .inr (6, [.ref nw, .ref ps, .int (nI u), .ref im, .ref mk, .int (nI sd), .ref wd, .int (nI s), .ref so, .int (nI q), .ref mb, .ref ma, .ref mf, .ref mw, .ref ml, .ref mu, .int (nI (br + 1)), .ref wt, .int (nI (ww - 1)), .ref ty])), (nw, .inl (cI, 241, .inl (nF NW))), (ps, .inl (cI, 4820, .inl (nF PS))), (im, .inl (cI, 484, .inl (nF IM))), (mk, .inl (cZ, 2, .inl (nF MK))), (wd, .inl (cI, 8, .inl (nF WD))), (so, .inl (cI, 24, .inl (nF SO))), (mb, .inl (cI, 24, .inl (nF (up EB br gb)))), (ma, .inl (cI, 24, .inl (nF (up EA br d)))), (mf, .inl (cI, 24, .inl (nF (up EF br f)))), (mw, .inl (cI, 24, .inl (nF (up EW br m)))), (ml, .inl (cI, 24, .inl (nF (up EL br y)))), (mu, .inl (cI, 24, .inl (oF (up EU br v)))), (wt, .inl (cI, 200, .inl (oF WT))), (ty, .inl (cI, 8, .inl (nF TY)))] := hD
              refine lv_aload_n hx hb dX6_finds_205 rfl (lv_at hl 1 rfl) ?_
              refine lv_iload_n hx hb dX6_finds_206 rfl (lv_at hl 2 rfl) ?_
              refine lv_iload hx hb dX6_finds_207 (lv_at hl 6 rfl) ?_
              refine n_iadd hx hb dX6_finds_209 ?_
              refine lv_iload_n hx hb dX6_finds_210 rfl (lv_at hl 3 rfl) ?_
              refine lv_iload hx hb dX6_finds_211 (lv_at hl 6 rfl) ?_
              refine n_isub hx hb dX6_finds_213 (by omega) ?_
              refine lv_iload_n hx hb dX6_finds_214 rfl (lv_at hl 4 rfl) ?_
              refine lv_iconst (v := nI 1) hx hb dX6_finds_215 (by decide +kernel) ?_
              refine n_iadd hx hb dX6_finds_216 ?_
              refine lv_iload hx hb dX6_finds_217 (lv_at hl 0 rfl) ?_
              refine tq (y := oI (br + 1)) (oI_s _).symm ?_
              refine wr_V (As := [.int (nI (f + y)), .int (nI (m - y)), .int (nI (d + 1)), .int (oI (br + 1))]) (rest := []) (wc := [(m0, .inr (6, [.ref nw, .ref ps, .int (nI u), .ref im, .ref mk, .int (nI sd), .ref wd, .int (nI s), .ref so, .int (nI q), .ref mb, .ref ma, .ref mf, .ref mw, .ref ml, .ref mu, .int (nI (br + 1)), .ref wt, .int (nI (ww - 1)), .ref ty])), (nw, .inl (cI, 241, .inl (nF NW))), (ps, .inl (cI, 4820, .inl (nF PS))), (im, .inl (cI, 484, .inl (nF IM))), (mk, .inl (cZ, 2, .inl (nF MK))), (wd, .inl (cI, 8, .inl (nF WD))), (so, .inl (cI, 24, .inl (nF SO))), (mb, .inl (cI, 24, .inl (nF (up EB br gb)))), (ma, .inl (cI, 24, .inl (nF (up EA br d)))), (mf, .inl (cI, 24, .inl (nF (up EF br f)))), (mw, .inl (cI, 24, .inl (nF (up EW br m)))), (ml, .inl (cI, 24, .inl (nF (up EL br y)))), (mu, .inl (cI, 24, .inl (oF (up EU br v)))), (wt, .inl (cI, 200, .inl (oF WT))), (ty, .inl (cI, 8, .inl (nF TY)))]) (wr := []) ⟨hx, hb, hml, hown, hts⟩ (c_X6_waitsFor l D cI cJ cZ m0 nw ps im mk wd so mb ma mf mw ml mu wt ty NW PS u IM MK sd WD s SO q (up EB br gb) (up EA br d) (up EF br f) (up EW br m) (up EL br y) (up EU br v) (br + 1) WT (ww - 1) TY (f + y) (m - y) (d + 1) (br + 1) (by omega) (by omega) _) (k_X6_103 hts ⟨Nat.le_of_ble_eq_true rfl, Nat.le_of_ble_eq_true rfl⟩) hK hN hP hD hS hAA 0 rfl rfl rfl [0, 1, 2, 3, 4, 5, 6, 7, 8, 9, 10, 11, 12, 13, 14] [] rfl rfl (by decide) (by decide) (by decide) rfl hl.1 rfl (Nat.le_of_ble_eq_true rfl) dX6_finds_219 ⟨Nat.le_of_ble_eq_true rfl, Nat.le_of_ble_eq_true rfl⟩ (fun v7 w8 H locs hp6 hP hD hS => ?_)
              obtain ⟨rfl, rfl⟩ := hp6
              have hP : va_P D vwCl [(m0, .inr (6, [.ref nw, .ref ps, .int (nI u), .ref im, .ref mk, .int (nI sd), .ref wd, .int (nI s), .ref so, .int (nI q), .ref mb, .ref ma, .ref mf, .ref mw, .ref ml, .ref mu, .int (nI (br + 1)), .ref wt, .int (nI (if (m - y) ≤ 1 then (ww - 1) else (ww - 1) + 1)), .ref ty])), (nw, .inl (cI, 241, .inl (nF NW))), (ps, .inl (cI, 4820, .inl (nF PS))), (im, .inl (cI, 484, .inl (nF IM))), (mk, .inl (cZ, 2, .inl (nF MK))), (wd, .inl (cI, 8, .inl (nF WD))), (so, .inl (cI, 24, .inl (nF SO))), (mb, .inl (cI, 24, .inl (nF (up EB br gb)))), (ma, .inl (cI, 24, .inl (nF (up EA br d)))), (mf, .inl (cI, 24, .inl (nF (up EF br f)))), (mw, .inl (cI, 24, .inl (nF (up EW br m)))), (ml, .inl (cI, 24, .inl (nF (up EL br y)))), (mu, .inl (cI, 24, .inl (oF (up EU br v)))), (wt, .inl (cI, 200, .inl (oF (if (m - y) ≤ 1 then WT else push WT (ww - 1) (f + y) (m - y) (d + 1) (br + 1))))), (ty, .inl (cI, 8, .inl (nF TY)))] H := hP.sub [0, 1, 2, 3, 4, 5, 6, 7, 8, 9, 10, 11, 12, 13, 14] rfl
              have hD : va_D AA [(m0, .inr (6, [.ref nw, .ref ps, .int (nI u), .ref im, .ref mk, .int (nI sd), .ref wd, .int (nI s), .ref so, .int (nI q), .ref mb, .ref ma, .ref mf, .ref mw, .ref ml, .ref mu, .int (nI (br + 1)), .ref wt, .int (nI (if (m - y) ≤ 1 then (ww - 1) else (ww - 1) + 1)), .ref ty])), (nw, .inl (cI, 241, .inl (nF NW))), (ps, .inl (cI, 4820, .inl (nF PS))), (im, .inl (cI, 484, .inl (nF IM))), (mk, .inl (cZ, 2, .inl (nF MK))), (wd, .inl (cI, 8, .inl (nF WD))), (so, .inl (cI, 24, .inl (nF SO))), (mb, .inl (cI, 24, .inl (nF (up EB br gb)))), (ma, .inl (cI, 24, .inl (nF (up EA br d)))), (mf, .inl (cI, 24, .inl (nF (up EF br f)))), (mw, .inl (cI, 24, .inl (nF (up EW br m)))), (ml, .inl (cI, 24, .inl (nF (up EL br y)))), (mu, .inl (cI, 24, .inl (oF (up EU br v)))), (wt, .inl (cI, 200, .inl (oF (if (m - y) ≤ 1 then WT else push WT (ww - 1) (f + y) (m - y) (d + 1) (br + 1))))), (ty, .inl (cI, 8, .inl (nF TY)))] := hD.sub [0, 1, 2, 3, 4, 5, 6, 7, 8, 9, 10, 11, 12, 13, 14] (by decide) rfl
              refine lv_aload_n hx hb dX6_finds_222 rfl (lv_at hl 1 rfl) ?_
              refine lv_iload_n hx hb dX6_finds_223 rfl (lv_at hl 2 rfl) ?_
              refine lv_iload hx hb dX6_finds_224 (lv_at hl 6 rfl) ?_
              refine lv_iload_n hx hb dX6_finds_226 rfl (lv_at hl 4 rfl) ?_
              refine lv_iconst (v := nI 1) hx hb dX6_finds_227 (by decide +kernel) ?_
              refine n_iadd hx hb dX6_finds_228 ?_
              refine lv_iload hx hb dX6_finds_229 (lv_at hl 0 rfl) ?_
              refine tq (y := oI (br + 1)) (oI_s _).symm ?_
              refine wr_V (As := [.int (nI f), .int (nI y), .int (nI (d + 1)), .int (oI (br + 1))]) (rest := []) (wc := [(m0, .inr (6, [.ref nw, .ref ps, .int (nI u), .ref im, .ref mk, .int (nI sd), .ref wd, .int (nI s), .ref so, .int (nI q), .ref mb, .ref ma, .ref mf, .ref mw, .ref ml, .ref mu, .int (nI (br + 1)), .ref wt, .int (nI (if (m - y) ≤ 1 then (ww - 1) else (ww - 1) + 1)), .ref ty])), (nw, .inl (cI, 241, .inl (nF NW))), (ps, .inl (cI, 4820, .inl (nF PS))), (im, .inl (cI, 484, .inl (nF IM))), (mk, .inl (cZ, 2, .inl (nF MK))), (wd, .inl (cI, 8, .inl (nF WD))), (so, .inl (cI, 24, .inl (nF SO))), (mb, .inl (cI, 24, .inl (nF (up EB br gb)))), (ma, .inl (cI, 24, .inl (nF (up EA br d)))), (mf, .inl (cI, 24, .inl (nF (up EF br f)))), (mw, .inl (cI, 24, .inl (nF (up EW br m)))), (ml, .inl (cI, 24, .inl (nF (up EL br y)))), (mu, .inl (cI, 24, .inl (oF (up EU br v)))), (wt, .inl (cI, 200, .inl (oF (if (m - y) ≤ 1 then WT else push WT (ww - 1) (f + y) (m - y) (d + 1) (br + 1))))), (ty, .inl (cI, 8, .inl (nF TY)))]) (wr := []) ⟨hx, hb, hml, hown, hts⟩ (c_X6_waitsFor l D cI cJ cZ m0 nw ps im mk wd so mb ma mf mw ml mu wt ty NW PS u IM MK sd WD s SO q (up EB br gb) (up EA br d) (up EF br f) (up EW br m) (up EL br y) (up EU br v) (br + 1) (if (m - y) ≤ 1 then WT else push WT (ww - 1) (f + y) (m - y) (d + 1) (br + 1)) (if (m - y) ≤ 1 then (ww - 1) else (ww - 1) + 1) TY f y (d + 1) (br + 1) (by omega) (by omega) _) (k_X6_103 hts ⟨Nat.le_of_ble_eq_true rfl, Nat.le_of_ble_eq_true rfl⟩) hK hN hP hD hS hAA 0 rfl rfl rfl [0, 1, 2, 3, 4, 5, 6, 7, 8, 9, 10, 11, 12, 13, 14] [] rfl rfl (by decide) (by decide) (by decide) rfl hl.1 rfl (Nat.le_of_ble_eq_true rfl) dX6_finds_231 ⟨Nat.le_of_ble_eq_true rfl, Nat.le_of_ble_eq_true rfl⟩ (fun v10 w11 H locs hp9 hP hD hS => ?_)
              obtain ⟨rfl, rfl⟩ := hp9
              have hP : va_P D vwCl [(m0, .inr (6, [.ref nw, .ref ps, .int (nI u), .ref im, .ref mk, .int (nI sd), .ref wd, .int (nI s), .ref so, .int (nI q), .ref mb, .ref ma, .ref mf, .ref mw, .ref ml, .ref mu, .int (nI (br + 1)), .ref wt, .int (nI (if y ≤ 1 then (if (m - y) ≤ 1 then (ww - 1) else (ww - 1) + 1) else (if (m - y) ≤ 1 then (ww - 1) else (ww - 1) + 1) + 1)), .ref ty])), (nw, .inl (cI, 241, .inl (nF NW))), (ps, .inl (cI, 4820, .inl (nF PS))), (im, .inl (cI, 484, .inl (nF IM))), (mk, .inl (cZ, 2, .inl (nF MK))), (wd, .inl (cI, 8, .inl (nF WD))), (so, .inl (cI, 24, .inl (nF SO))), (mb, .inl (cI, 24, .inl (nF (up EB br gb)))), (ma, .inl (cI, 24, .inl (nF (up EA br d)))), (mf, .inl (cI, 24, .inl (nF (up EF br f)))), (mw, .inl (cI, 24, .inl (nF (up EW br m)))), (ml, .inl (cI, 24, .inl (nF (up EL br y)))), (mu, .inl (cI, 24, .inl (oF (up EU br v)))), (wt, .inl (cI, 200, .inl (oF (if y ≤ 1 then (if (m - y) ≤ 1 then WT else push WT (ww - 1) (f + y) (m - y) (d + 1) (br + 1)) else push (if (m - y) ≤ 1 then WT else push WT (ww - 1) (f + y) (m - y) (d + 1) (br + 1)) (if (m - y) ≤ 1 then (ww - 1) else (ww - 1) + 1) f y (d + 1) (br + 1))))), (ty, .inl (cI, 8, .inl (nF TY)))] H := hP.sub [0, 1, 2, 3, 4, 5, 6, 7, 8, 9, 10, 11, 12, 13, 14] rfl
              have hD : va_D AA [(m0, .inr (6, [.ref nw, .ref ps, .int (nI u), .ref im, .ref mk, .int (nI sd), .ref wd, .int (nI s), .ref so, .int (nI q), .ref mb, .ref ma, .ref mf, .ref mw, .ref ml, .ref mu, .int (nI (br + 1)), .ref wt, .int (nI (if y ≤ 1 then (if (m - y) ≤ 1 then (ww - 1) else (ww - 1) + 1) else (if (m - y) ≤ 1 then (ww - 1) else (ww - 1) + 1) + 1)), .ref ty])), (nw, .inl (cI, 241, .inl (nF NW))), (ps, .inl (cI, 4820, .inl (nF PS))), (im, .inl (cI, 484, .inl (nF IM))), (mk, .inl (cZ, 2, .inl (nF MK))), (wd, .inl (cI, 8, .inl (nF WD))), (so, .inl (cI, 24, .inl (nF SO))), (mb, .inl (cI, 24, .inl (nF (up EB br gb)))), (ma, .inl (cI, 24, .inl (nF (up EA br d)))), (mf, .inl (cI, 24, .inl (nF (up EF br f)))), (mw, .inl (cI, 24, .inl (nF (up EW br m)))), (ml, .inl (cI, 24, .inl (nF (up EL br y)))), (mu, .inl (cI, 24, .inl (oF (up EU br v)))), (wt, .inl (cI, 200, .inl (oF (if y ≤ 1 then (if (m - y) ≤ 1 then WT else push WT (ww - 1) (f + y) (m - y) (d + 1) (br + 1)) else push (if (m - y) ≤ 1 then WT else push WT (ww - 1) (f + y) (m - y) (d + 1) (br + 1)) (if (m - y) ≤ 1 then (ww - 1) else (ww - 1) + 1) f y (d + 1) (br + 1))))), (ty, .inl (cI, 8, .inl (nF TY)))] := hD.sub [0, 1, 2, 3, 4, 5, 6, 7, 8, 9, 10, 11, 12, 13, 14] (by decide) rfl
              refine lv_goto (tgt := 21) hx hb dX6_finds_234 (by decide) ?_
              exact ih21 (br + 1) (if y ≤ 1 then (if (m - y) ≤ 1 then (ww - 1) else (ww - 1) + 1) else (if (m - y) ≤ 1 then (ww - 1) else (ww - 1) + 1) + 1) (up EB br gb) (up EA br d) (up EF br f) (up EW br m) (up EL br y) (up EU br v) (if y ≤ 1 then (if (m - y) ≤ 1 then WT else push WT (ww - 1) (f + y) (m - y) (d + 1) (br + 1)) else push (if (m - y) ≤ 1 then WT else push WT (ww - 1) (f + y) (m - y) (d + 1) (br + 1)) (if (m - y) ≤ 1 then (ww - 1) else (ww - 1) + 1) f y (d + 1) (br + 1)) _ _ ls (by omega) (by omega) hS2 (fun b hb2 => by by_cases e : b = br; (subst e; rw [up_eq, up_eq, up_eq, up_eq, up_eq, up_eq, hnd]; exact ⟨rfl, hgb, hz⟩); (rw [up_ne _ _ e, up_ne _ _ e, up_ne _ _ e, up_ne _ _ e, up_ne _ _ e, up_ne _ _ e]; exact hT1 b (by omega))) hP hD hS (lv_sub hl [1] rfl)
            ·
              have hyz : y < z := by rcases Nat.lt_or_ge y z with g | g; exact g; rw [show y = z by omega, hhi] at c5; omega
              refine lv_iinc (v := nI (y + 1)) (lv' := [(5, .int (nI (y + 1))), (0, .ref m0), (1, .int (nI f)), (2, .int (nI m)), (3, .int (nI d)), (4, .int (nI gb))]) hx hb dX6_finds_121 hl (k := 5) rfl (nI_add y 1) (by decide) rfl (fun ls hl => ?_)
              refine lv_goto (tgt := 103) hx hb dX6_finds_124 (by decide) ?_
              exact ih103 (y + 1) _ _ ls (by omega) (by omega) hP hD hS (lv_sub hl [1, 2, 3, 4, 5, 0] rfl)
        exact loop103 _ 0 _ _ ls (Nat.lt_succ_self _) (Nat.zero_le _) hP hD hS (lv_sub hl [5, 4, 3, 2, 1, 0] rfl)
  exact loop21 _ 0 (if q ≤ 1 then 0 else 0 + 1) EB EA EF EW EL EU (if q ≤ 1 then WT else push WT 0 0 q 0 0) _ _ ls (Nat.lt_succ_self _) (Nat.zero_le _) (by by_cases g : q ≤ 1; rw [if_pos g, if_pos g]; exact ⟨fun _ => 0, fun p h => absurd h (Nat.not_lt_zero _), fun p h => absurd h (Nat.not_lt_zero _), fun h => absurd h (Nat.not_lt_zero _), fun _ => by omega⟩; rw [if_neg g, if_neg g]; exact ⟨_, stk_push (NN := fun _ => 0) (x := q - 1) ⟨fun p h => absurd h (Nat.not_lt_zero _), fun p h => absurd h (Nat.not_lt_zero _), fun h => absurd h (Nat.not_lt_zero _), fun _ => rfl⟩ (by omega) (nd_0 _ _) (by omega)⟩) (fun b h => absurd h (Nat.not_lt_zero _)) hP hD hS (lv_sub hl [0] rfl)
