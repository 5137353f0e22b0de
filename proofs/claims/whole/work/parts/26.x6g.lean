/-! ===== the reference: branches of all keys, or of all but one; depths ===== -/
theorem srt_congr {T B T' B' : Nat → Nat} {n : Nat} (h1 : ∀ i, i < n → T i = T' i) (h2 : ∀ i, i < n → B i = B' i) (h : Srt T B n) : Srt T' B' n := by
  intro k hk
  have a := h k hk
  unfold gapF at a ⊢
  rw [h1 k (by omega), h1 (k + 1) (by omega), h2 k (by omega), h2 (k + 1) (by omega)] at a
  exact a
theorem gap_congr {T B T' B' : Nat → Nat} {n : Nat} (h1 : ∀ i, i < n → T i = T' i) (h2 : ∀ i, i < n → B i = B' i) : ∀ k, k + 1 < n → gapF T B k = gapF T' B' k := by
  intro k hk
  unfold gapF
  rw [h1 k (by omega), h1 (k + 1) (by omega), h2 k (by omega), h2 (k + 1) (by omega)]
def skp (j y : Nat) : Nat := if y < j then y else y + 1
theorem srt_skp {KS KL : Nat → Nat} {n j : Nat} (h : Srt KS KL n) (hj : j < n) : Srt (fun i => KS (skp j i)) (fun i => KL (skp j i)) (n - 1) := by
  intro k hk
  have h1 : skp j k < skp j (k + 1) := by unfold skp; split <;> split <;> omega
  have h2 : skp j (k + 1) < n := by unfold skp; split <;> omega
  exact sq_lt h h1 h2
noncomputable def dpt (EF EW : Nat → Nat) (br k : Nat) : Nat := fb_ct (fun b => decide (EF b ≤ k ∧ k ≤ EF b + EW b - 1)) br
theorem dpt_s (EF EW : Nat → Nat) (br k : Nat) : dpt EF EW (br + 1) k = dpt EF EW br k + (if EF br ≤ k ∧ k ≤ EF br + EW br - 1 then 1 else 0) := by
  unfold dpt
  rw [fb_ct_succ]
  by_cases g : EF br ≤ k ∧ k ≤ EF br + EW br - 1
  · rw [if_pos (decide_eq_true g), if_pos g]
  · rw [if_neg (by rw [decide_eq_false g]; decide), if_neg g]
theorem dpt_le (EF EW : Nat → Nat) (br k : Nat) : dpt EF EW br k ≤ br := fb_ct_le _ _
set_option maxHeartbeats 4000000 in
set_option maxRecDepth 100000 in
theorem c_X6_findsBut_all (l : Launch) (D : va_G) (cI cJ cZ : ClassId) (m0 nw ps im mk wd so mb ma mf mw ml mu wt ty : Nat) (NW : Nat → Nat) (PS : Nat → Nat) (u : Nat) (IM : Nat → Nat) (MK : Nat → Nat) (sd : Nat) (WD : Nat → Nat) (s : Nat) (SO : Nat → Nat) (q : Nat) (EB : Nat → Nat) (EA : Nat → Nat) (EF : Nat → Nat) (EW : Nat → Nat) (EL : Nat → Nat) (EU : Nat → Nat) (br : Nat) (WT : Nat → Nat) (ww : Nat) (TY : Nat → Nat) (KS KL KW : Nat → Nat) (n A : Nat) (hn : n ≤ 24) (hk : ∀ k, k < n → Wf (KS k) (KL k)) (hw0 : Wf s A) (hR : RN NW KS KL KW n) (hRW : RW WD s A) (hso : Srt KS KL n) (sz : Nat) : WR l yX6_findsBut cX6_findsBut 3 none (rmN 4 94) D (ty3 cI cJ cZ) [.ref m0, .int (oI 0)] [(m0, .inr (6, [.ref nw, .ref ps, .int (nI u), .ref im, .ref mk, .int (nI sd), .ref wd, .int (nI s), .ref so, .int (nI q), .ref mb, .ref ma, .ref mf, .ref mw, .ref ml, .ref mu, .int (nI br), .ref wt, .int (nI ww), .ref ty])), (nw, .inl (cI, 241, .inl (nF NW))), (ps, .inl (cI, 4820, .inl (nF PS))), (im, .inl (cI, 484, .inl (nF IM))), (mk, .inl (cZ, 2, .inl (nF MK))), (wd, .inl (cI, 8, .inl (nF WD))), (so, .inl (cI, 24, .inl (nF SO))), (mb, .inl (cI, 24, .inl (nF EB))), (ma, .inl (cI, 24, .inl (nF EA))), (mf, .inl (cI, 24, .inl (nF EF))), (mw, .inl (cI, 24, .inl (nF EW))), (ml, .inl (cI, 24, .inl (nF EL))), (mu, .inl (cI, 24, .inl (oF EU))), (wt, .inl (cI, 200, .inl (oF WT))), (ty, .inl (cI, 8, .inl (nF TY)))] sz (fun x w => x = none ∧ ∃ SO EB EA EF EW EL EU WT : Nat → Nat, w = [(m0, .inr (6, [.ref nw, .ref ps, .int (nI u), .ref im, .ref mk, .int (nI sd), .ref wd, .int (nI s), .ref so, .int (nI n), .ref mb, .ref ma, .ref mf, .ref mw, .ref ml, .ref mu, .int (nI (n - 1)), .ref wt, .int (nI 0), .ref ty])), (nw, .inl (cI, 241, .inl (nF NW))), (ps, .inl (cI, 4820, .inl (nF PS))), (im, .inl (cI, 484, .inl (nF IM))), (mk, .inl (cZ, 2, .inl (nF MK))), (wd, .inl (cI, 8, .inl (nF WD))), (so, .inl (cI, 24, .inl (nF SO))), (mb, .inl (cI, 24, .inl (nF EB))), (ma, .inl (cI, 24, .inl (nF EA))), (mf, .inl (cI, 24, .inl (nF EF))), (mw, .inl (cI, 24, .inl (nF EW))), (ml, .inl (cI, 24, .inl (nF EL))), (mu, .inl (cI, 24, .inl (oF EU))), (wt, .inl (cI, 200, .inl (oF WT))), (ty, .inl (cI, 8, .inl (nF TY)))] ∧ TrM (gapF KS KL) (n) EB EA EF EW EL EU) := by
  have hs8 := hw0.1
  have hA64 := hw0.2.1
  have hN0 := hR.1
  refine wr_start (by decide) (Nat.le_of_ble_eq_true rfl) ?_
  intro pp ee ss mm below meth cd AA C0 hAA hP hK hD hS hN hnm ls hl
  obtain ⟨hx, hb, hr, hml, hown, hts, hlk⟩ := C0
  have hown : ss.vm.findClass RX6 = some mm.cls := hown
  have hl : lv_has ls 3 [(0, .ref m0), (1, .int (oI 0))] := hl
  have hP : va_P D vwCl [(m0, .inr (6, [.ref nw, .ref ps, .int (nI u), .ref im, .ref mk, .int (nI sd), .ref wd, .int (nI s), .ref so, .int (nI q), .ref mb, .ref ma, .ref mf, .ref mw, .ref ml, .ref mu, .int (nI br), .ref wt, .int (nI ww), .ref ty])), (nw, .inl (cI, 241, .inl (nF NW))), (ps, .inl (cI, 4820, .inl (nF PS))), (im, .inl (cI, 484, .inl (nF IM))), (mk, .inl (cZ, 2, .inl (nF MK))), (wd, .inl (cI, 8, .inl (nF WD))), (so, .inl (cI, 24, .inl (nF SO))), (mb, .inl (cI, 24, .inl (nF EB))), (ma, .inl (cI, 24, .inl (nF EA))), (mf, .inl (cI, 24, .inl (nF EF))), (mw, .inl (cI, 24, .inl (nF EW))), (ml, .inl (cI, 24, .inl (nF EL))), (mu, .inl (cI, 24, .inl (oF EU))), (wt, .inl (cI, 200, .inl (oF WT))), (ty, .inl (cI, 8, .inl (nF TY)))] ss.heap := hP
  refine lv_aload_n hx hb dX6_findsBut_0 rfl (lv_at hl 0 rfl) ?_
  refine lv_iconst (v := nI 0) hx hb dX6_findsBut_1 (by decide +kernel) ?_
  refine va_put (D := D) (ci := 6) (v := .int (nI 0)) (ty := .int) (C := RX6) (T := TX6) (N := 20) hx hb hts inX6 tyX6 tyX6_ok nmX6 hown hK hP hD hS 0 rfl rfl 9 (by decide) (hts _ mf_X6_100) (fun _ h9 => h9) rfl (by decide +kernel) rfl rfl (Nat.le_of_ble_eq_true rfl) dX6_findsBut_2 (fun H locs hP hD hS => ?_)
  have hP : va_P D vwCl [(m0, .inr (6, [.ref nw, .ref ps, .int (nI u), .ref im, .ref mk, .int (nI sd), .ref wd, .int (nI s), .ref so, .int (nI 0), .ref mb, .ref ma, .ref mf, .ref mw, .ref ml, .ref mu, .int (nI br), .ref wt, .int (nI ww), .ref ty])), (nw, .inl (cI, 241, .inl (nF NW))), (ps, .inl (cI, 4820, .inl (nF PS))), (im, .inl (cI, 484, .inl (nF IM))), (mk, .inl (cZ, 2, .inl (nF MK))), (wd, .inl (cI, 8, .inl (nF WD))), (so, .inl (cI, 24, .inl (nF SO))), (mb, .inl (cI, 24, .inl (nF EB))), (ma, .inl (cI, 24, .inl (nF EA))), (mf, .inl (cI, 24, .inl (nF EF))), (mw, .inl (cI, 24, .inl (nF EW))), (ml, .inl (cI, 24, .inl (nF EL))), (mu, .inl (cI, 24, .inl (oF EU))), (wt, .inl (cI, 200, .inl (oF WT))), (ty, .inl (cI, 8, .inl (nF TY)))] H := hP
  have hD : va_D AA [(m0, .inr (6, [.ref nw, .ref ps, .int (nI u), .ref im, .ref mk, .int (nI sd), .ref wd, .int (nI s), .ref so, .int (nI 0), .ref mb, .ref ma, .ref mf, .ref mw, .ref ml, .ref mu, .int (nI br), .ref wt, .int (nI ww), .ref ty])), (nw, .inl (cI, 241, .inl (nF NW))), (ps, .inl (cI, 4820, .inl (nF PS))), (im, .inl (cI, 484, .inl (nF IM))), (mk, .inl (cZ, 2, .inl (nF MK))), (wd, .inl (cI, 8, .inl (nF WD))), (so, .inl (cI, 24, .inl (nF SO))), (mb, .inl (cI, 24, .inl (nF EB))), (ma, .inl (cI, 24, .inl (nF EA))), (mf, .inl (cI, 24, .inl (nF EF))), (mw, .inl (cI, 24, .inl (nF EW))), (ml, .inl (cI, 24, .inl (nF EL))), (mu, .inl (cI, 24, .inl (oF EU))), (wt, .inl (cI, 200, .inl (oF WT))), (ty, .inl (cI, 8, .inl (nF TY)))] := hD
  refine lv_iconst (v := nI 0) hx hb dX6_findsBut_5 (by decide +kernel) ?_
  refine lv_istore_n (lv' := [(2, .int (nI 0)), (0, .ref m0), (1, .int (oI 0))]) hx hb dX6_findsBut_6 rfl hl (by decide) rfl (fun ls hl => ?_)
  have loop7 : ∀ (d : Nat) (i : Nat) (q : Nat) (SO : Nat → Nat) (H : Heap) (locs : List Loc) (ls : Array Slot), n - i < d → (i ≤ n) → (q = i) → (∀ y, y < i → SO y = y) → va_P D vwCl [(m0, .inr (6, [.ref nw, .ref ps, .int (nI u), .ref im, .ref mk, .int (nI sd), .ref wd, .int (nI s), .ref so, .int (nI q), .ref mb, .ref ma, .ref mf, .ref mw, .ref ml, .ref mu, .int (nI br), .ref wt, .int (nI ww), .ref ty])), (nw, .inl (cI, 241, .inl (nF NW))), (ps, .inl (cI, 4820, .inl (nF PS))), (im, .inl (cI, 484, .inl (nF IM))), (mk, .inl (cZ, 2, .inl (nF MK))), (wd, .inl (cI, 8, .inl (nF WD))), (so, .inl (cI, 24, .inl (nF SO))), (mb, .inl (cI, 24, .inl (nF EB))), (ma, .inl (cI, 24, .inl (nF EA))), (mf, .inl (cI, 24, .inl (nF EF))), (mw, .inl (cI, 24, .inl (nF EW))), (ml, .inl (cI, 24, .inl (nF EL))), (mu, .inl (cI, 24, .inl (oF EU))), (wt, .inl (cI, 200, .inl (oF WT))), (ty, .inl (cI, 8, .inl (nF TY)))] H → va_D AA [(m0, .inr (6, [.ref nw, .ref ps, .int (nI u), .ref im, .ref mk, .int (nI sd), .ref wd, .int (nI s), .ref so, .int (nI q), .ref mb, .ref ma, .ref mf, .ref mw, .ref ml, .ref mu, .int (nI br), .ref wt, .int (nI ww), .ref ty])), (nw, .inl (cI, 241, .inl (nF NW))), (ps, .inl (cI, 4820, .inl (nF PS))), (im, .inl (cI, 484, .inl (nF IM))), (mk, .inl (cZ, 2, .inl (nF MK))), (wd, .inl (cI, 8, .inl (nF WD))), (so, .inl (cI, 24, .inl (nF SO))), (mb, .inl (cI, 24, .inl (nF EB))), (ma, .inl (cI, 24, .inl (nF EA))), (mf, .inl (cI, 24, .inl (nF EF))), (mw, .inl (cI, 24, .inl (nF EW))), (ml, .inl (cI, 24, .inl (nF EL))), (mu, .inl (cI, 24, .inl (oF EU))), (wt, .inl (cI, 200, .inl (oF WT))), (ty, .inl (cI, 8, .inl (nF TY)))] → va_S AA ss.heap H locs → lv_has ls 3 [(0, .ref m0), (1, .int (oI 0)), (2, .int (nI i))] → W pp l ee (rmN 4 94) ss mm [.ref m0, .int (oI 0)].toArray below meth cd H locs 0 0 (MQ below (QW D AA (fun x w => x = none ∧ ∃ SO EB EA EF EW EL EU WT : Nat → Nat, w = [(m0, .inr (6, [.ref nw, .ref ps, .int (nI u), .ref im, .ref mk, .int (nI sd), .ref wd, .int (nI s), .ref so, .int (nI n), .ref mb, .ref ma, .ref mf, .ref mw, .ref ml, .ref mu, .int (nI (n - 1)), .ref wt, .int (nI 0), .ref ty])), (nw, .inl (cI, 241, .inl (nF NW))), (ps, .inl (cI, 4820, .inl (nF PS))), (im, .inl (cI, 484, .inl (nF IM))), (mk, .inl (cZ, 2, .inl (nF MK))), (wd, .inl (cI, 8, .inl (nF WD))), (so, .inl (cI, 24, .inl (nF SO))), (mb, .inl (cI, 24, .inl (nF EB))), (ma, .inl (cI, 24, .inl (nF EA))), (mf, .inl (cI, 24, .inl (nF EF))), (mw, .inl (cI, 24, .inl (nF EW))), (ml, .inl (cI, 24, .inl (nF EL))), (mu, .inl (cI, 24, .inl (oF EU))), (wt, .inl (cI, 200, .inl (oF WT))), (ty, .inl (cI, 8, .inl (nF TY)))] ∧ TrM (gapF KS KL) (n) EB EA EF EW EL EU)) [.ref m0, .int (oI 0)].toArray ss 0 0 AA) (F0 mm 7 ls []) := by
    intro d
    induction d with
    | zero => intro i q SO H locs ls h; exact absurd h (Nat.not_lt_zero _)
    | succ d ih7 =>
      intro i q SO H locs ls hd7 hi hqi hSo hP hD hS hl
      refine lv_iload_n hx hb dX6_findsBut_7 rfl (lv_at hl 2 rfl) ?_
      refine lv_aload_n hx hb dX6_findsBut_8 rfl (lv_at hl 0 rfl) ?_
      refine va_get (D := D) (ci := 6) (v := .ref nw) (C := RX6) (T := TX6) (N := 20) hx hb hts inX6 hown hK hP 0 rfl rfl 0 (by decide) (hts _ mf_X6_7) (fun _ h9 => h9) rfl dX6_findsBut_9 ?_
      refine lv_iconst (v := nI 0) hx hb dX6_findsBut_12 (by decide +kernel) ?_
      refine n_iald hx hb hK hP 1 0 rfl rfl (k := 0) (by omega) (by decide) dX6_findsBut_13 ?_
      refine tq (y := nI n) (congrArg nI (hN0)) ?_
      refine n_ge (tgt := 48) hx hb dX6_findsBut_14 (by decide) (by omega) (by omega) (fun c1 => ?_) (fun c1 => ?_)
      ·
        have hqn : q = n := by omega
        have hq24 : q ≤ 24 := by omega
        have hSO2 : ∀ i, i < q → SO i < n := fun y hy => by rw [hSo y (by omega)]; omega
        have hsr2 : Srt (fun i => KS (SO i)) (fun i => KL (SO i)) q := by rw [hqn]; exact srt_congr (fun y hy => by rw [hSo y (by omega)]) (fun y hy => by rw [hSo y (by omega)]) hso
        refine lv_aload_n hx hb dX6_findsBut_48 rfl (lv_at hl 0 rfl) ?_
        refine wr_V (As := []) (rest := []) (wc := [(m0, .inr (6, [.ref nw, .ref ps, .int (nI u), .ref im, .ref mk, .int (nI sd), .ref wd, .int (nI s), .ref so, .int (nI q), .ref mb, .ref ma, .ref mf, .ref mw, .ref ml, .ref mu, .int (nI br), .ref wt, .int (nI ww), .ref ty])), (nw, .inl (cI, 241, .inl (nF NW))), (ps, .inl (cI, 4820, .inl (nF PS))), (im, .inl (cI, 484, .inl (nF IM))), (mk, .inl (cZ, 2, .inl (nF MK))), (wd, .inl (cI, 8, .inl (nF WD))), (so, .inl (cI, 24, .inl (nF SO))), (mb, .inl (cI, 24, .inl (nF EB))), (ma, .inl (cI, 24, .inl (nF EA))), (mf, .inl (cI, 24, .inl (nF EF))), (mw, .inl (cI, 24, .inl (nF EW))), (ml, .inl (cI, 24, .inl (nF EL))), (mu, .inl (cI, 24, .inl (oF EU))), (wt, .inl (cI, 200, .inl (oF WT))), (ty, .inl (cI, 8, .inl (nF TY)))]) (wr := []) ⟨hx, hb, hml, hown, hts⟩ (c_X6_finds l D cI cJ cZ m0 nw ps im mk wd so mb ma mf mw ml mu wt ty NW PS u IM MK sd WD s SO q EB EA EF EW EL EU br WT ww TY KS KL KW n A hn hk hw0 hR hRW hq24 hSO2 hsr2 _) (k_X6_107 hts ⟨Nat.le_of_ble_eq_true rfl, Nat.le_of_ble_eq_true rfl⟩) hK hN hP hD hS hAA 0 rfl rfl rfl [0, 1, 2, 3, 4, 5, 6, 7, 8, 9, 10, 11, 12, 13, 14] [] rfl rfl (by decide) (by decide) (by decide) rfl hl.1 rfl (Nat.le_of_ble_eq_true rfl) dX6_findsBut_49 ⟨Nat.le_of_ble_eq_true rfl, Nat.le_of_ble_eq_true rfl⟩ (fun v4 w5 H locs hp3 hP hD hS => ?_)
        obtain ⟨rfl, EBf2, EAf2, EFf2, EWf2, ELf2, EUf2, WTf2, rfl, hTmf2⟩ := hp3
        have hP : va_P D vwCl [(m0, .inr (6, [.ref nw, .ref ps, .int (nI u), .ref im, .ref mk, .int (nI sd), .ref wd, .int (nI s), .ref so, .int (nI q), .ref mb, .ref ma, .ref mf, .ref mw, .ref ml, .ref mu, .int (nI (q - 1)), .ref wt, .int (nI 0), .ref ty])), (nw, .inl (cI, 241, .inl (nF NW))), (ps, .inl (cI, 4820, .inl (nF PS))), (im, .inl (cI, 484, .inl (nF IM))), (mk, .inl (cZ, 2, .inl (nF MK))), (wd, .inl (cI, 8, .inl (nF WD))), (so, .inl (cI, 24, .inl (nF SO))), (mb, .inl (cI, 24, .inl (nF EBf2))), (ma, .inl (cI, 24, .inl (nF EAf2))), (mf, .inl (cI, 24, .inl (nF EFf2))), (mw, .inl (cI, 24, .inl (nF EWf2))), (ml, .inl (cI, 24, .inl (nF ELf2))), (mu, .inl (cI, 24, .inl (oF EUf2))), (wt, .inl (cI, 200, .inl (oF WTf2))), (ty, .inl (cI, 8, .inl (nF TY)))] H := hP.sub [0, 1, 2, 3, 4, 5, 6, 7, 8, 9, 10, 11, 12, 13, 14] rfl
        have hD : va_D AA [(m0, .inr (6, [.ref nw, .ref ps, .int (nI u), .ref im, .ref mk, .int (nI sd), .ref wd, .int (nI s), .ref so, .int (nI q), .ref mb, .ref ma, .ref mf, .ref mw, .ref ml, .ref mu, .int (nI (q - 1)), .ref wt, .int (nI 0), .ref ty])), (nw, .inl (cI, 241, .inl (nF NW))), (ps, .inl (cI, 4820, .inl (nF PS))), (im, .inl (cI, 484, .inl (nF IM))), (mk, .inl (cZ, 2, .inl (nF MK))), (wd, .inl (cI, 8, .inl (nF WD))), (so, .inl (cI, 24, .inl (nF SO))), (mb, .inl (cI, 24, .inl (nF EBf2))), (ma, .inl (cI, 24, .inl (nF EAf2))), (mf, .inl (cI, 24, .inl (nF EFf2))), (mw, .inl (cI, 24, .inl (nF EWf2))), (ml, .inl (cI, 24, .inl (nF ELf2))), (mu, .inl (cI, 24, .inl (oF EUf2))), (wt, .inl (cI, 200, .inl (oF WTf2))), (ty, .inl (cI, 8, .inl (nF TY)))] := hD.sub [0, 1, 2, 3, 4, 5, 6, 7, 8, 9, 10, 11, 12, 13, 14] (by decide) rfl
        exact wr_vret hx hb hr hlk hP hD hS dX6_findsBut_52 (⟨rfl, SO, EBf2, EAf2, EFf2, EWf2, ELf2, EUf2, WTf2, by rw [hqn], TrM_congr (G := gso KS KL SO) (fun k hk2 => gap_congr (T := fun i => KS (SO i)) (B := fun i => KL (SO i)) (n := n) (fun y hy => by rw [hSo y (by omega)]) (fun y hy => by rw [hSo y (by omega)]) k hk2) (by rw [← hqn]; exact hTmf2)⟩)
      ·
        refine lv_iload_n hx hb dX6_findsBut_17 rfl (lv_at hl 2 rfl) ?_
        refine lv_iload_n hx hb dX6_findsBut_18 rfl (lv_at hl 1 rfl) ?_
        refine no_eq (tgt := 42) hx hb dX6_findsBut_19 (by decide) (by omega) ?_
        refine lv_aload_n hx hb dX6_findsBut_22 rfl (lv_at hl 0 rfl) ?_
        refine va_get (D := D) (ci := 6) (v := .ref so) (C := RX6) (T := TX6) (N := 20) hx hb hts inX6 hown hK hP 0 rfl rfl 8 (by decide) (hts _ mf_X6_26) (fun _ h9 => h9) rfl dX6_findsBut_23 ?_
        refine lv_aload_n hx hb dX6_findsBut_26 rfl (lv_at hl 0 rfl) ?_
        refine va_get (D := D) (ci := 6) (v := .int (nI q)) (C := RX6) (T := TX6) (N := 20) hx hb hts inX6 hown hK hP 0 rfl rfl 9 (by decide) (hts _ mf_X6_100) (fun _ h9 => h9) rfl dX6_findsBut_27 ?_
        refine lv_iload_n hx hb dX6_findsBut_30 rfl (lv_at hl 2 rfl) ?_
        refine n_iast hx hb hK hP hD hS 6 0 rfl rfl (k := q) (v := i) (by omega) (by decide) dX6_findsBut_31 (fun H locs hP hD hS => ?_)
        have hP : va_P D vwCl [(m0, .inr (6, [.ref nw, .ref ps, .int (nI u), .ref im, .ref mk, .int (nI sd), .ref wd, .int (nI s), .ref so, .int (nI q), .ref mb, .ref ma, .ref mf, .ref mw, .ref ml, .ref mu, .int (nI br), .ref wt, .int (nI ww), .ref ty])), (nw, .inl (cI, 241, .inl (nF NW))), (ps, .inl (cI, 4820, .inl (nF PS))), (im, .inl (cI, 484, .inl (nF IM))), (mk, .inl (cZ, 2, .inl (nF MK))), (wd, .inl (cI, 8, .inl (nF WD))), (so, .inl (cI, 24, .inl (nF (up SO q i)))), (mb, .inl (cI, 24, .inl (nF EB))), (ma, .inl (cI, 24, .inl (nF EA))), (mf, .inl (cI, 24, .inl (nF EF))), (mw, .inl (cI, 24, .inl (nF EW))), (ml, .inl (cI, 24, .inl (nF EL))), (mu, .inl (cI, 24, .inl (oF EU))), (wt, .inl (cI, 200, .inl (oF WT))), (ty, .inl (cI, 8, .inl (nF TY)))] H := hP
        have hD : va_D AA [(m0, .inr (6, [.ref nw, .ref ps, .int (nI u), .ref im, .ref mk, .int (nI sd), .ref wd, .int (nI s), .ref so, .int (nI q), .ref mb, .ref ma, .ref mf, .ref mw, .ref ml, .ref mu, .int (nI br), .ref wt, .int (nI ww), .ref ty])), (nw, .inl (cI, 241, .inl (nF NW))), (ps, .inl (cI, 4820, .inl (nF PS))), (im, .inl (cI, 484, .inl (nF IM))), (mk, .inl (cZ, 2, .inl (nF MK))), (wd, .inl (cI, 8, .inl (nF WD))), (so, .inl (cI, 24, .inl (nF (up SO q i)))), (mb, .inl (cI, 24, .inl (nF EB))), (ma, .inl (cI, 24, .inl (nF EA))), (mf, .inl (cI, 24, .inl (nF EF))), (mw, .inl (cI, 24, .inl (nF EW))), (ml, .inl (cI, 24, .inl (nF EL))), (mu, .inl (cI, 24, .inl (oF EU))), (wt, .inl (cI, 200, .inl (oF WT))), (ty, .inl (cI, 8, .inl (nF TY)))] := hD
        refine lv_aload_n hx hb dX6_findsBut_32 rfl (lv_at hl 0 rfl) ?_
        refine lv_dup hx hb dX6_findsBut_33 rfl ?_
        refine va_get (D := D) (ci := 6) (v := .int (nI q)) (C := RX6) (T := TX6) (N := 20) hx hb hts inX6 hown hK hP 0 rfl rfl 9 (by decide) (hts _ mf_X6_100) (fun _ h9 => h9) rfl dX6_findsBut_34 ?_
        refine lv_iconst (v := nI 1) hx hb dX6_findsBut_37 (by decide +kernel) ?_
        refine n_iadd hx hb dX6_findsBut_38 ?_
        refine va_put (D := D) (ci := 6) (v := .int (nI (q + 1))) (ty := .int) (C := RX6) (T := TX6) (N := 20) hx hb hts inX6 tyX6 tyX6_ok nmX6 hown hK hP hD hS 0 rfl rfl 9 (by decide) (hts _ mf_X6_100) (fun _ h9 => h9) rfl (by decide +kernel) rfl rfl (Nat.le_of_ble_eq_true rfl) dX6_findsBut_39 (fun H locs hP hD hS => ?_)
        have hP : va_P D vwCl [(m0, .inr (6, [.ref nw, .ref ps, .int (nI u), .ref im, .ref mk, .int (nI sd), .ref wd, .int (nI s), .ref so, .int (nI (q + 1)), .ref mb, .ref ma, .ref mf, .ref mw, .ref ml, .ref mu, .int (nI br), .ref wt, .int (nI ww), .ref ty])), (nw, .inl (cI, 241, .inl (nF NW))), (ps, .inl (cI, 4820, .inl (nF PS))), (im, .inl (cI, 484, .inl (nF IM))), (mk, .inl (cZ, 2, .inl (nF MK))), (wd, .inl (cI, 8, .inl (nF WD))), (so, .inl (cI, 24, .inl (nF (up SO q i)))), (mb, .inl (cI, 24, .inl (nF EB))), (ma, .inl (cI, 24, .inl (nF EA))), (mf, .inl (cI, 24, .inl (nF EF))), (mw, .inl (cI, 24, .inl (nF EW))), (ml, .inl (cI, 24, .inl (nF EL))), (mu, .inl (cI, 24, .inl (oF EU))), (wt, .inl (cI, 200, .inl (oF WT))), (ty, .inl (cI, 8, .inl (nF TY)))] H := hP
        have hD : va_D AA [(m0, .inr (6, [.ref nw, .ref ps, .int (nI u), .ref im, .ref mk, .int (nI sd), .ref wd, .int (nI s), .ref so, .int (nI (q + 1)), .ref mb, .ref ma, .ref mf, .ref mw, .ref ml, .ref mu, .int (nI br), .ref wt, .int (nI ww), .ref ty])), (nw, .inl (cI, 241, .inl (nF NW))), (ps, .inl (cI, 4820, .inl (nF PS))), (im, .inl (cI, 484, .inl (nF IM))), (mk, .inl (cZ, 2, .inl (nF MK))), (wd, .inl (cI, 8, .inl (nF WD))), (so, .inl (cI, 24, .inl (nF (up SO q i)))), (mb, .inl (cI, 24, .inl (nF EB))), (ma, .inl (cI, 24, .inl (nF EA))), (mf, .inl (cI, 24, .inl (nF EF))), (mw, .inl (cI, 24, .inl (nF EW))), (ml, .inl (cI, 24, .inl (nF EL))), (mu, .inl (cI, 24, .inl (oF EU))), (wt, .inl (cI, 200, .inl (oF WT))), (ty, .inl (cI, 8, .inl (nF TY)))] := hD
        refine lv_iinc (v := nI (i + 1)) (lv' := [(2, .int (nI (i + 1))), (0, .ref m0), (1, .int (oI 0))]) hx hb dX6_findsBut_42 hl (k := 2) rfl (nI_add i 1) (by decide) rfl (fun ls hl => ?_)
        refine lv_goto (tgt := 7) hx hb dX6_findsBut_45 (by decide) ?_
        exact ih7 (i + 1) (q + 1) (up SO q i) _ _ ls (by omega) (by omega) (by omega) (fun y hy => by by_cases e : y = q; (rw [e, up_eq]; omega); (rw [up_ne _ _ e]; exact hSo y (by omega))) hP hD hS (lv_sub hl [1, 2, 0] rfl)
  exact loop7 _ 0 0 SO _ _ ls (Nat.lt_succ_self _) (Nat.zero_le _) rfl (fun y hy => absurd hy (Nat.not_lt_zero _)) hP hD hS (lv_sub hl [1, 2, 0] rfl)
set_option maxHeartbeats 4000000 in
set_option maxRecDepth 100000 in
theorem c_X6_findsBut_but (l : Launch) (D : va_G) (cI cJ cZ : ClassId) (m0 nw ps im mk wd so mb ma mf mw ml mu wt ty : Nat) (NW : Nat → Nat) (PS : Nat → Nat) (u : Nat) (IM : Nat → Nat) (MK : Nat → Nat) (sd : Nat) (WD : Nat → Nat) (s : Nat) (SO : Nat → Nat) (q : Nat) (EB : Nat → Nat) (EA : Nat → Nat) (EF : Nat → Nat) (EW : Nat → Nat) (EL : Nat → Nat) (EU : Nat → Nat) (br : Nat) (WT : Nat → Nat) (ww : Nat) (TY : Nat → Nat) (KS KL KW : Nat → Nat) (n A : Nat) (hn : n ≤ 24) (hk : ∀ k, k < n → Wf (KS k) (KL k)) (hw0 : Wf s A) (hR : RN NW KS KL KW n) (hRW : RW WD s A) (hso : Srt KS KL n) (j : Nat) (hj : j < n) (sz : Nat) : WR l yX6_findsBut cX6_findsBut 3 none (rmN 4 94) D (ty3 cI cJ cZ) [.ref m0, .int (nI j)] [(m0, .inr (6, [.ref nw, .ref ps, .int (nI u), .ref im, .ref mk, .int (nI sd), .ref wd, .int (nI s), .ref so, .int (nI q), .ref mb, .ref ma, .ref mf, .ref mw, .ref ml, .ref mu, .int (nI br), .ref wt, .int (nI ww), .ref ty])), (nw, .inl (cI, 241, .inl (nF NW))), (ps, .inl (cI, 4820, .inl (nF PS))), (im, .inl (cI, 484, .inl (nF IM))), (mk, .inl (cZ, 2, .inl (nF MK))), (wd, .inl (cI, 8, .inl (nF WD))), (so, .inl (cI, 24, .inl (nF SO))), (mb, .inl (cI, 24, .inl (nF EB))), (ma, .inl (cI, 24, .inl (nF EA))), (mf, .inl (cI, 24, .inl (nF EF))), (mw, .inl (cI, 24, .inl (nF EW))), (ml, .inl (cI, 24, .inl (nF EL))), (mu, .inl (cI, 24, .inl (oF EU))), (wt, .inl (cI, 200, .inl (oF WT))), (ty, .inl (cI, 8, .inl (nF TY)))] sz (fun x w => x = none ∧ ∃ SO EB EA EF EW EL EU WT : Nat → Nat, w = [(m0, .inr (6, [.ref nw, .ref ps, .int (nI u), .ref im, .ref mk, .int (nI sd), .ref wd, .int (nI s), .ref so, .int (nI (n - 1)), .ref mb, .ref ma, .ref mf, .ref mw, .ref ml, .ref mu, .int (nI ((n - 1) - 1)), .ref wt, .int (nI 0), .ref ty])), (nw, .inl (cI, 241, .inl (nF NW))), (ps, .inl (cI, 4820, .inl (nF PS))), (im, .inl (cI, 484, .inl (nF IM))), (mk, .inl (cZ, 2, .inl (nF MK))), (wd, .inl (cI, 8, .inl (nF WD))), (so, .inl (cI, 24, .inl (nF SO))), (mb, .inl (cI, 24, .inl (nF EB))), (ma, .inl (cI, 24, .inl (nF EA))), (mf, .inl (cI, 24, .inl (nF EF))), (mw, .inl (cI, 24, .inl (nF EW))), (ml, .inl (cI, 24, .inl (nF EL))), (mu, .inl (cI, 24, .inl (oF EU))), (wt, .inl (cI, 200, .inl (oF WT))), (ty, .inl (cI, 8, .inl (nF TY)))] ∧ TrM (gso KS KL (skp j)) (n - 1) EB EA EF EW EL EU) := by
  have hs8 := hw0.1
  have hA64 := hw0.2.1
  have hN0 := hR.1
  refine wr_start (by decide) (Nat.le_of_ble_eq_true rfl) ?_
  intro pp ee ss mm below meth cd AA C0 hAA hP hK hD hS hN hnm ls hl
  obtain ⟨hx, hb, hr, hml, hown, hts, hlk⟩ := C0
  have hown : ss.vm.findClass RX6 = some mm.cls := hown
  have hl : lv_has ls 3 [(0, .ref m0), (1, .int (nI j))] := hl
  have hP : va_P D vwCl [(m0, .inr (6, [.ref nw, .ref ps, .int (nI u), .ref im, .ref mk, .int (nI sd), .ref wd, .int (nI s), .ref so, .int (nI q), .ref mb, .ref ma, .ref mf, .ref mw, .ref ml, .ref mu, .int (nI br), .ref wt, .int (nI ww), .ref ty])), (nw, .inl (cI, 241, .inl (nF NW))), (ps, .inl (cI, 4820, .inl (nF PS))), (im, .inl (cI, 484, .inl (nF IM))), (mk, .inl (cZ, 2, .inl (nF MK))), (wd, .inl (cI, 8, .inl (nF WD))), (so, .inl (cI, 24, .inl (nF SO))), (mb, .inl (cI, 24, .inl (nF EB))), (ma, .inl (cI, 24, .inl (nF EA))), (mf, .inl (cI, 24, .inl (nF EF))), (mw, .inl (cI, 24, .inl (nF EW))), (ml, .inl (cI, 24, .inl (nF EL))), (mu, .inl (cI, 24, .inl (oF EU))), (wt, .inl (cI, 200, .inl (oF WT))), (ty, .inl (cI, 8, .inl (nF TY)))] ss.heap := hP
  refine lv_aload_n hx hb dX6_findsBut_0 rfl (lv_at hl 0 rfl) ?_
  refine lv_iconst (v := nI 0) hx hb dX6_findsBut_1 (by decide +kernel) ?_
  refine va_put (D := D) (ci := 6) (v := .int (nI 0)) (ty := .int) (C := RX6) (T := TX6) (N := 20) hx hb hts inX6 tyX6 tyX6_ok nmX6 hown hK hP hD hS 0 rfl rfl 9 (by decide) (hts _ mf_X6_100) (fun _ h9 => h9) rfl (by decide +kernel) rfl rfl (Nat.le_of_ble_eq_true rfl) dX6_findsBut_2 (fun H locs hP hD hS => ?_)
  have hP : va_P D vwCl [(m0, .inr (6, [.ref nw, .ref ps, .int (nI u), .ref im, .ref mk, .int (nI sd), .ref wd, .int (nI s), .ref so, .int (nI 0), .ref mb, .ref ma, .ref mf, .ref mw, .ref ml, .ref mu, .int (nI br), .ref wt, .int (nI ww), .ref ty])), (nw, .inl (cI, 241, .inl (nF NW))), (ps, .inl (cI, 4820, .inl (nF PS))), (im, .inl (cI, 484, .inl (nF IM))), (mk, .inl (cZ, 2, .inl (nF MK))), (wd, .inl (cI, 8, .inl (nF WD))), (so, .inl (cI, 24, .inl (nF SO))), (mb, .inl (cI, 24, .inl (nF EB))), (ma, .inl (cI, 24, .inl (nF EA))), (mf, .inl (cI, 24, .inl (nF EF))), (mw, .inl (cI, 24, .inl (nF EW))), (ml, .inl (cI, 24, .inl (nF EL))), (mu, .inl (cI, 24, .inl (oF EU))), (wt, .inl (cI, 200, .inl (oF WT))), (ty, .inl (cI, 8, .inl (nF TY)))] H := hP
  have hD : va_D AA [(m0, .inr (6, [.ref nw, .ref ps, .int (nI u), .ref im, .ref mk, .int (nI sd), .ref wd, .int (nI s), .ref so, .int (nI 0), .ref mb, .ref ma, .ref mf, .ref mw, .ref ml, .ref mu, .int (nI br), .ref wt, .int (nI ww), .ref ty])), (nw, .inl (cI, 241, .inl (nF NW))), (ps, .inl (cI, 4820, .inl (nF PS))), (im, .inl (cI, 484, .inl (nF IM))), (mk, .inl (cZ, 2, .inl (nF MK))), (wd, .inl (cI, 8, .inl (nF WD))), (so, .inl (cI, 24, .inl (nF SO))), (mb, .inl (cI, 24, .inl (nF EB))), (ma, .inl (cI, 24, .inl (nF EA))), (mf, .inl (cI, 24, .inl (nF EF))), (mw, .inl (cI, 24, .inl (nF EW))), (ml, .inl (cI, 24, .inl (nF EL))), (mu, .inl (cI, 24, .inl (oF EU))), (wt, .inl (cI, 200, .inl (oF WT))), (ty, .inl (cI, 8, .inl (nF TY)))] := hD
  refine lv_iconst (v := nI 0) hx hb dX6_findsBut_5 (by decide +kernel) ?_
  refine lv_istore_n (lv' := [(2, .int (nI 0)), (0, .ref m0), (1, .int (nI j))]) hx hb dX6_findsBut_6 rfl hl (by decide) rfl (fun ls hl => ?_)
  have loop7 : ∀ (d : Nat) (i : Nat) (q : Nat) (SO : Nat → Nat) (H : Heap) (locs : List Loc) (ls : Array Slot), n - i < d → (i ≤ n) → (q = if i ≤ j then i else i - 1) → (∀ y, y < q → SO y = skp j y) → va_P D vwCl [(m0, .inr (6, [.ref nw, .ref ps, .int (nI u), .ref im, .ref mk, .int (nI sd), .ref wd, .int (nI s), .ref so, .int (nI q), .ref mb, .ref ma, .ref mf, .ref mw, .ref ml, .ref mu, .int (nI br), .ref wt, .int (nI ww), .ref ty])), (nw, .inl (cI, 241, .inl (nF NW))), (ps, .inl (cI, 4820, .inl (nF PS))), (im, .inl (cI, 484, .inl (nF IM))), (mk, .inl (cZ, 2, .inl (nF MK))), (wd, .inl (cI, 8, .inl (nF WD))), (so, .inl (cI, 24, .inl (nF SO))), (mb, .inl (cI, 24, .inl (nF EB))), (ma, .inl (cI, 24, .inl (nF EA))), (mf, .inl (cI, 24, .inl (nF EF))), (mw, .inl (cI, 24, .inl (nF EW))), (ml, .inl (cI, 24, .inl (nF EL))), (mu, .inl (cI, 24, .inl (oF EU))), (wt, .inl (cI, 200, .inl (oF WT))), (ty, .inl (cI, 8, .inl (nF TY)))] H → va_D AA [(m0, .inr (6, [.ref nw, .ref ps, .int (nI u), .ref im, .ref mk, .int (nI sd), .ref wd, .int (nI s), .ref so, .int (nI q), .ref mb, .ref ma, .ref mf, .ref mw, .ref ml, .ref mu, .int (nI br), .ref wt, .int (nI ww), .ref ty])), (nw, .inl (cI, 241, .inl (nF NW))), (ps, .inl (cI, 4820, .inl (nF PS))), (im, .inl (cI, 484, .inl (nF IM))), (mk, .inl (cZ, 2, .inl (nF MK))), (wd, .inl (cI, 8, .inl (nF WD))), (so, .inl (cI, 24, .inl (nF SO))), (mb, .inl (cI, 24, .inl (nF EB))), (ma, .inl (cI, 24, .inl (nF EA))), (mf, .inl (cI, 24, .inl (nF EF))), (mw, .inl (cI, 24, .inl (nF EW))), (ml, .inl (cI, 24, .inl (nF EL))), (mu, .inl (cI, 24, .inl (oF EU))), (wt, .inl (cI, 200, .inl (oF WT))), (ty, .inl (cI, 8, .inl (nF TY)))] → va_S AA ss.heap H locs → lv_has ls 3 [(0, .ref m0), (1, .int (nI j)), (2, .int (nI i))] → W pp l ee (rmN 4 94) ss mm [.ref m0, .int (nI j)].toArray below meth cd H locs 0 0 (MQ below (QW D AA (fun x w => x = none ∧ ∃ SO EB EA EF EW EL EU WT : Nat → Nat, w = [(m0, .inr (6, [.ref nw, .ref ps, .int (nI u), .ref im, .ref mk, .int (nI sd), .ref wd, .int (nI s), .ref so, .int (nI (n - 1)), .ref mb, .ref ma, .ref mf, .ref mw, .ref ml, .ref mu, .int (nI ((n - 1) - 1)), .ref wt, .int (nI 0), .ref ty])), (nw, .inl (cI, 241, .inl (nF NW))), (ps, .inl (cI, 4820, .inl (nF PS))), (im, .inl (cI, 484, .inl (nF IM))), (mk, .inl (cZ, 2, .inl (nF MK))), (wd, .inl (cI, 8, .inl (nF WD))), (so, .inl (cI, 24, .inl (nF SO))), (mb, .inl (cI, 24, .inl (nF EB))), (ma, .inl (cI, 24, .inl (nF EA))), (mf, .inl (cI, 24, .inl (nF EF))), (mw, .inl (cI, 24, .inl (nF EW))), (ml, .inl (cI, 24, .inl (nF EL))), (mu, .inl (cI, 24, .inl (oF EU))), (wt, .inl (cI, 200, .inl (oF WT))), (ty, .inl (cI, 8, .inl (nF TY)))] ∧ TrM (gso KS KL (skp j)) (n - 1) EB EA EF EW EL EU)) [.ref m0, .int (nI j)].toArray ss 0 0 AA) (F0 mm 7 ls []) := by
    intro d
    induction d with
    | zero => intro i q SO H locs ls h; exact absurd h (Nat.not_lt_zero _)
    | succ d ih7 =>
      intro i q SO H locs ls hd7 hi hqi hSo hP hD hS hl
      have hq3 : q ≤ i := by rw [hqi]; split <;> omega
      refine lv_iload_n hx hb dX6_findsBut_7 rfl (lv_at hl 2 rfl) ?_
      refine lv_aload_n hx hb dX6_findsBut_8 rfl (lv_at hl 0 rfl) ?_
      refine va_get (D := D) (ci := 6) (v := .ref nw) (C := RX6) (T := TX6) (N := 20) hx hb hts inX6 hown hK hP 0 rfl rfl 0 (by decide) (hts _ mf_X6_7) (fun _ h9 => h9) rfl dX6_findsBut_9 ?_
      refine lv_iconst (v := nI 0) hx hb dX6_findsBut_12 (by decide +kernel) ?_
      refine n_iald hx hb hK hP 1 0 rfl rfl (k := 0) (by omega) (by decide) dX6_findsBut_13 ?_
      refine tq (y := nI n) (congrArg nI (hN0)) ?_
      refine n_ge (tgt := 48) hx hb dX6_findsBut_14 (by decide) (by omega) (by omega) (fun c1 => ?_) (fun c1 => ?_)
      ·
        have hqn : q = n - 1 := by rw [hqi, if_neg (by omega)]; omega
        have hq24 : q ≤ 24 := by omega
        have hSO2 : ∀ i, i < q → SO i < n := fun y hy => by rw [hSo y hy]; unfold skp; split <;> omega
        have hsr2 : Srt (fun i => KS (SO i)) (fun i => KL (SO i)) q := by rw [hqn]; exact srt_congr (fun y hy => by rw [hSo y (by omega)]) (fun y hy => by rw [hSo y (by omega)]) (srt_skp hso hj)
        refine lv_aload_n hx hb dX6_findsBut_48 rfl (lv_at hl 0 rfl) ?_
        refine wr_V (As := []) (rest := []) (wc := [(m0, .inr (6, [.ref nw, .ref ps, .int (nI u), .ref im, .ref mk, .int (nI sd), .ref wd, .int (nI s), .ref so, .int (nI q), .ref mb, .ref ma, .ref mf, .ref mw, .ref ml, .ref mu, .int (nI br), .ref wt, .int (nI ww), .ref ty])), (nw, .inl (cI, 241, .inl (nF NW))), (ps, .inl (cI, 4820, .inl (nF PS))), (im, .inl (cI, 484, .inl (nF IM))), (mk, .inl (cZ, 2, .inl (nF MK))), (wd, .inl (cI, 8, .inl (nF WD))), (so, .inl (cI, 24, .inl (nF SO))), (mb, .inl (cI, 24, .inl (nF EB))), (ma, .inl (cI, 24, .inl (nF EA))), (mf, .inl (cI, 24, .inl (nF EF))), (mw, .inl (cI, 24, .inl (nF EW))), (ml, .inl (cI, 24, .inl (nF EL))), (mu, .inl (cI, 24, .inl (oF EU))), (wt, .inl (cI, 200, .inl (oF WT))), (ty, .inl (cI, 8, .inl (nF TY)))]) (wr := []) ⟨hx, hb, hml, hown, hts⟩ (c_X6_finds l D cI cJ cZ m0 nw ps im mk wd so mb ma mf mw ml mu wt ty NW PS u IM MK sd WD s SO q EB EA EF EW EL EU br WT ww TY KS KL KW n A hn hk hw0 hR hRW hq24 hSO2 hsr2 _) (k_X6_107 hts ⟨Nat.le_of_ble_eq_true rfl, Nat.le_of_ble_eq_true rfl⟩) hK hN hP hD hS hAA 0 rfl rfl rfl [0, 1, 2, 3, 4, 5, 6, 7, 8, 9, 10, 11, 12, 13, 14] [] rfl rfl (by decide) (by decide) (by decide) rfl hl.1 rfl (Nat.le_of_ble_eq_true rfl) dX6_findsBut_49 ⟨Nat.le_of_ble_eq_true rfl, Nat.le_of_ble_eq_true rfl⟩ (fun v4 w5 H locs hp3 hP hD hS => ?_)
        obtain ⟨rfl, EBf2, EAf2, EFf2, EWf2, ELf2, EUf2, WTf2, rfl, hTmf2⟩ := hp3
        have hP : va_P D vwCl [(m0, .inr (6, [.ref nw, .ref ps, .int (nI u), .ref im, .ref mk, .int (nI sd), .ref wd, .int (nI s), .ref so, .int (nI q), .ref mb, .ref ma, .ref mf, .ref mw, .ref ml, .ref mu, .int (nI (q - 1)), .ref wt, .int (nI 0), .ref ty])), (nw, .inl (cI, 241, .inl (nF NW))), (ps, .inl (cI, 4820, .inl (nF PS))), (im, .inl (cI, 484, .inl (nF IM))), (mk, .inl (cZ, 2, .inl (nF MK))), (wd, .inl (cI, 8, .inl (nF WD))), (so, .inl (cI, 24, .inl (nF SO))), (mb, .inl (cI, 24, .inl (nF EBf2))), (ma, .inl (cI, 24, .inl (nF EAf2))), (mf, .inl (cI, 24, .inl (nF EFf2))), (mw, .inl (cI, 24, .inl (nF EWf2))), (ml, .inl (cI, 24, .inl (nF ELf2))), (mu, .inl (cI, 24, .inl (oF EUf2))), (wt, .inl (cI, 200, .inl (oF WTf2))), (ty, .inl (cI, 8, .inl (nF TY)))] H := hP.sub [0, 1, 2, 3, 4, 5, 6, 7, 8, 9, 10, 11, 12, 13, 14] rfl
        have hD : va_D AA [(m0, .inr (6, [.ref nw, .ref ps, .int (nI u), .ref im, .ref mk, .int (nI sd), .ref wd, .int (nI s), .ref so, .int (nI q), .ref mb, .ref ma, .ref mf, .ref mw, .ref ml, .ref mu, .int (nI (q - 1)), .ref wt, .int (nI 0), .ref ty])), (nw, .inl (cI, 241, .inl (nF NW))), (ps, .inl (cI, 4820, .inl (nF PS))), (im, .inl (cI, 484, .inl (nF IM))), (mk, .inl (cZ, 2, .inl (nF MK))), (wd, .inl (cI, 8, .inl (nF WD))), (so, .inl (cI, 24, .inl (nF SO))), (mb, .inl (cI, 24, .inl (nF EBf2))), (ma, .inl (cI, 24, .inl (nF EAf2))), (mf, .inl (cI, 24, .inl (nF EFf2))), (mw, .inl (cI, 24, .inl (nF EWf2))), (ml, .inl (cI, 24, .inl (nF ELf2))), (mu, .inl (cI, 24, .inl (oF EUf2))), (wt, .inl (cI, 200, .inl (oF WTf2))), (ty, .inl (cI, 8, .inl (nF TY)))] := hD.sub [0, 1, 2, 3, 4, 5, 6, 7, 8, 9, 10, 11, 12, 13, 14] (by decide) rfl
        exact wr_vret hx hb hr hlk hP hD hS dX6_findsBut_52 (⟨rfl, SO, EBf2, EAf2, EFf2, EWf2, ELf2, EUf2, WTf2, by rw [hqn], TrM_congr (G := gso KS KL SO) (fun k hk2 => gap_congr (T := fun i => KS (SO i)) (B := fun i => KL (SO i)) (n := n - 1) (fun y hy => by rw [hSo y (by omega)]) (fun y hy => by rw [hSo y (by omega)]) k hk2) (by rw [← hqn]; exact hTmf2)⟩)
      ·
        refine lv_iload_n hx hb dX6_findsBut_17 rfl (lv_at hl 2 rfl) ?_
        refine lv_iload_n hx hb dX6_findsBut_18 rfl (lv_at hl 1 rfl) ?_
        refine n_eq (tgt := 42) hx hb dX6_findsBut_19 (by decide) (by omega) (by omega) (fun c6 => ?_) (fun c6 => ?_)
        ·
          refine lv_iinc (v := nI (i + 1)) (lv' := [(2, .int (nI (i + 1))), (0, .ref m0), (1, .int (nI j))]) hx hb dX6_findsBut_42 hl (k := 2) rfl (nI_add i 1) (by decide) rfl (fun ls hl => ?_)
          refine lv_goto (tgt := 7) hx hb dX6_findsBut_45 (by decide) ?_
          exact ih7 (i + 1) q SO _ _ ls (by omega) (by omega) (by rw [hqi]; split <;> split <;> omega) (by first | exact hSo | exact (fun y hy => by by_cases e : y = q; (rw [e, up_eq]; unfold skp; rw [hqi]; split <;> split <;> omega); (rw [up_ne _ _ e]; exact hSo y (by omega)))) hP hD hS (lv_sub hl [1, 2, 0] rfl)
        ·
          refine lv_aload_n hx hb dX6_findsBut_22 rfl (lv_at hl 0 rfl) ?_
          refine va_get (D := D) (ci := 6) (v := .ref so) (C := RX6) (T := TX6) (N := 20) hx hb hts inX6 hown hK hP 0 rfl rfl 8 (by decide) (hts _ mf_X6_26) (fun _ h9 => h9) rfl dX6_findsBut_23 ?_
          refine lv_aload_n hx hb dX6_findsBut_26 rfl (lv_at hl 0 rfl) ?_
          refine va_get (D := D) (ci := 6) (v := .int (nI q)) (C := RX6) (T := TX6) (N := 20) hx hb hts inX6 hown hK hP 0 rfl rfl 9 (by decide) (hts _ mf_X6_100) (fun _ h9 => h9) rfl dX6_findsBut_27 ?_
          refine lv_iload_n hx hb dX6_findsBut_30 rfl (lv_at hl 2 rfl) ?_
          refine n_iast hx hb hK hP hD hS 6 0 rfl rfl (k := q) (v := i) (by omega) (by decide) dX6_findsBut_31 (fun H locs hP hD hS => ?_)
          have hP : va_P D vwCl [(m0, .inr (6, [.ref nw, .ref ps, .int (nI u), .ref im, .ref mk, .int (nI sd), .ref wd, .int (nI s), .ref so, .int (nI q), .ref mb, .ref ma, .ref mf, .ref mw, .ref ml, .ref mu, .int (nI br), .ref wt, .int (nI ww), .ref ty])), (nw, .inl (cI, 241, .inl (nF NW))), (ps, .inl (cI, 4820, .inl (nF PS))), (im, .inl (cI, 484, .inl (nF IM))), (mk, .inl (cZ, 2, .inl (nF MK))), (wd, .inl (cI, 8, .inl (nF WD))), (so, .inl (cI, 24, .inl (nF (up SO q i)))), (mb, .inl (cI, 24, .inl (nF EB))), (ma, .inl (cI, 24, .inl (nF EA))), (mf, .inl (cI, 24, .inl (nF EF))), (mw, .inl (cI, 24, .inl (nF EW))), (ml, .inl (cI, 24, .inl (nF EL))), (mu, .inl (cI, 24, .inl (oF EU))), (wt, .inl (cI, 200, .inl (oF WT))), (ty, .inl (cI, 8, .inl (nF TY)))] H := hP
          have hD : va_D AA [(m0, .inr (6, [.ref nw, .ref ps, .int (nI u), .ref im, .ref mk, .int (nI sd), .ref wd, .int (nI s), .ref so, .int (nI q), .ref mb, .ref ma, .ref mf, .ref mw, .ref ml, .ref mu, .int (nI br), .ref wt, .int (nI ww), .ref ty])), (nw, .inl (cI, 241, .inl (nF NW))), (ps, .inl (cI, 4820, .inl (nF PS))), (im, .inl (cI, 484, .inl (nF IM))), (mk, .inl (cZ, 2, .inl (nF MK))), (wd, .inl (cI, 8, .inl (nF WD))), (so, .inl (cI, 24, .inl (nF (up SO q i)))), (mb, .inl (cI, 24, .inl (nF EB))), (ma, .inl (cI, 24, .inl (nF EA))), (mf, .inl (cI, 24, .inl (nF EF))), (mw, .inl (cI, 24, .inl (nF EW))), (ml, .inl (cI, 24, .inl (nF EL))), (mu, .inl (cI, 24, .inl (oF EU))), (wt, .inl (cI, 200, .inl (oF WT))), (ty, .inl (cI, 8, .inl (nF TY)))] := hD
          refine lv_aload_n hx hb dX6_findsBut_32 rfl (lv_at hl 0 rfl) ?_
          refine lv_dup hx hb dX6_findsBut_33 rfl ?_
          refine va_get (D := D) (ci := 6) (v := .int (nI q)) (C := RX6) (T := TX6) (N := 20) hx hb hts inX6 hown hK hP 0 rfl rfl 9 (by decide) (hts _ mf_X6_100) (fun _ h9 => h9) rfl dX6_findsBut_34 ?_
          refine lv_iconst (v := nI 1) hx hb dX6_findsBut_37 (by decide +kernel) ?_
          refine n_iadd hx hb dX6_findsBut_38 ?_
          refine va_put (D := D) (ci := 6) (v := .int (nI (q + 1))) (ty := .int) (C := RX6) (T := TX6) (N := 20) hx hb hts inX6 tyX6 tyX6_ok nmX6 hown hK hP hD hS 0 rfl rfl 9 (by decide) (hts _ mf_X6_100) (fun _ h9 => h9) rfl (by decide +kernel) rfl rfl (Nat.le_of_ble_eq_true rfl) dX6_findsBut_39 (fun H locs hP hD hS => ?_)
          have hP : va_P D vwCl [(m0, .inr (6, [.ref nw, .ref ps, .int (nI u), .ref im, .ref mk, .int (nI sd), .ref wd, .int (nI s), .ref so, .int (nI (q + 1)), .ref mb, .ref ma, .ref mf, .ref mw, .ref ml, .ref mu, .int (nI br), .ref wt, .int (nI ww), .ref ty])), (nw, .inl (cI, 241, .inl (nF NW))), (ps, .inl (cI, 4820, .inl (nF PS))), (im, .inl (cI, 484, .inl (nF IM))), (mk, .inl (cZ, 2, .inl (nF MK))), (wd, .inl (cI, 8, .inl (nF WD))), (so, .inl (cI, 24, .inl (nF (up SO q i)))), (mb, .inl (cI, 24, .inl (nF EB))), (ma, .inl (cI, 24, .inl (nF EA))), (mf, .inl (cI, 24, .inl (nF EF))), (mw, .inl (cI, 24, .inl (nF EW))), (ml, .inl (cI, 24, .inl (nF EL))), (mu, .inl (cI, 24, .inl (oF EU))), (wt, .inl (cI, 200, .inl (oF WT))), (ty, .inl (cI, 8, .inl (nF TY)))] H := hP
          have hD : va_D AA [(m0, .inr (6, [.ref nw, .ref ps, .int (nI u), .ref im, .ref mk, .int (nI sd), .ref wd, .int (nI s), .ref so, .int (nI (q + 1)), .ref mb, .ref ma, .ref mf, .ref mw, .ref ml, .ref mu, .int (nI br), .ref wt, .int (nI ww), .ref ty])), (nw, .inl (cI, 241, .inl (nF NW))), (ps, .inl (cI, 4820, .inl (nF PS))), (im, .inl (cI, 484, .inl (nF IM))), (mk, .inl (cZ, 2, .inl (nF MK))), (wd, .inl (cI, 8, .inl (nF WD))), (so, .inl (cI, 24, .inl (nF (up SO q i)))), (mb, .inl (cI, 24, .inl (nF EB))), (ma, .inl (cI, 24, .inl (nF EA))), (mf, .inl (cI, 24, .inl (nF EF))), (mw, .inl (cI, 24, .inl (nF EW))), (ml, .inl (cI, 24, .inl (nF EL))), (mu, .inl (cI, 24, .inl (oF EU))), (wt, .inl (cI, 200, .inl (oF WT))), (ty, .inl (cI, 8, .inl (nF TY)))] := hD
          refine lv_iinc (v := nI (i + 1)) (lv' := [(2, .int (nI (i + 1))), (0, .ref m0), (1, .int (nI j))]) hx hb dX6_findsBut_42 hl (k := 2) rfl (nI_add i 1) (by decide) rfl (fun ls hl => ?_)
          refine lv_goto (tgt := 7) hx hb dX6_findsBut_45 (by decide) ?_
          exact ih7 (i + 1) (q + 1) (up SO q i) _ _ ls (by omega) (by omega) (by rw [hqi]; split <;> split <;> omega) (by first | exact hSo | exact (fun y hy => by by_cases e : y = q; (rw [e, up_eq]; unfold skp; rw [hqi]; split <;> split <;> omega); (rw [up_ne _ _ e]; exact hSo y (by omega)))) hP hD hS (lv_sub hl [1, 2, 0] rfl)
  exact loop7 _ 0 0 SO _ _ ls (Nat.lt_succ_self _) (Nat.zero_le _) (by rw [if_pos (Nat.zero_le _)]) (fun y hy => absurd hy (Nat.not_lt_zero _)) hP hD hS (lv_sub hl [1, 2, 0] rfl)
set_option maxHeartbeats 4000000 in
set_option maxRecDepth 100000 in
theorem c_X6_isBelow (l : Launch) (D : va_G) (cI cJ cZ : ClassId) (m0 nw ps im mk wd so mb ma mf mw ml mu wt ty : Nat) (NW : Nat → Nat) (PS : Nat → Nat) (u : Nat) (IM : Nat → Nat) (MK : Nat → Nat) (sd : Nat) (WD : Nat → Nat) (s : Nat) (SO : Nat → Nat) (q : Nat) (EB : Nat → Nat) (EA : Nat → Nat) (EF : Nat → Nat) (EW : Nat → Nat) (EL : Nat → Nat) (EU : Nat → Nat) (br : Nat) (WT : Nat → Nat) (ww : Nat) (TY : Nat → Nat) (hbr : br ≤ 24) (hE : ∀ b, b < br → EF b ≤ 24 ∧ 1 ≤ EW b ∧ EW b ≤ 24) (b k : Nat) (hbb : b < br) (hk31 : k < 2 ^ 31) : RO l yX6_isBelow cX6_isBelow 3 (some .boolean) (rmN 1 22) D (ty3 cI cJ cZ) [.ref m0, .int (nI b), .int (nI k)] [(m0, .inr (6, [.ref nw, .ref ps, .int (nI u), .ref im, .ref mk, .int (nI sd), .ref wd, .int (nI s), .ref so, .int (nI q), .ref mb, .ref ma, .ref mf, .ref mw, .ref ml, .ref mu, .int (nI br), .ref wt, .int (nI ww), .ref ty])), (nw, .inl (cI, 241, .inl (nF NW))), (ps, .inl (cI, 4820, .inl (nF PS))), (im, .inl (cI, 484, .inl (nF IM))), (mk, .inl (cZ, 2, .inl (nF MK))), (wd, .inl (cI, 8, .inl (nF WD))), (so, .inl (cI, 24, .inl (nF SO))), (mb, .inl (cI, 24, .inl (nF EB))), (ma, .inl (cI, 24, .inl (nF EA))), (mf, .inl (cI, 24, .inl (nF EF))), (mw, .inl (cI, 24, .inl (nF EW))), (ml, .inl (cI, 24, .inl (nF EL))), (mu, .inl (cI, 24, .inl (oF EU))), (wt, .inl (cI, 200, .inl (oF WT))), (ty, .inl (cI, 8, .inl (nF TY)))] (.int (if EF b ≤ k ∧ k ≤ EF b + EW b - 1 then 1 else 0)) := by
  have hEb := hE b hbb
  refine ro_start (by decide) (Nat.le_of_ble_eq_true rfl) ?_
  intro pp ee ss mm below meth cd C0 hP hK ls hl
  obtain ⟨hx, hb, hr, hml, hown, hts, hlk⟩ := C0
  have hown : ss.vm.findClass RX6 = some mm.cls := hown
  have hl : lv_has ls 3 [(0, .ref m0), (1, .int (nI b)), (2, .int (nI k))] := hl
  have hP : va_P D vwCl [(m0, .inr (6, [.ref nw, .ref ps, .int (nI u), .ref im, .ref mk, .int (nI sd), .ref wd, .int (nI s), .ref so, .int (nI q), .ref mb, .ref ma, .ref mf, .ref mw, .ref ml, .ref mu, .int (nI br), .ref wt, .int (nI ww), .ref ty])), (nw, .inl (cI, 241, .inl (nF NW))), (ps, .inl (cI, 4820, .inl (nF PS))), (im, .inl (cI, 484, .inl (nF IM))), (mk, .inl (cZ, 2, .inl (nF MK))), (wd, .inl (cI, 8, .inl (nF WD))), (so, .inl (cI, 24, .inl (nF SO))), (mb, .inl (cI, 24, .inl (nF EB))), (ma, .inl (cI, 24, .inl (nF EA))), (mf, .inl (cI, 24, .inl (nF EF))), (mw, .inl (cI, 24, .inl (nF EW))), (ml, .inl (cI, 24, .inl (nF EL))), (mu, .inl (cI, 24, .inl (oF EU))), (wt, .inl (cI, 200, .inl (oF WT))), (ty, .inl (cI, 8, .inl (nF TY)))] ss.heap := hP
  refine lv_iload_n hx hb dX6_isBelow_0 rfl (lv_at hl 2 rfl) ?_
  refine lv_aload_n hx hb dX6_isBelow_1 rfl (lv_at hl 0 rfl) ?_
  refine va_get (D := D) (ci := 6) (v := .ref mf) (C := RX6) (T := TX6) (N := 20) hx hb hts inX6 hown hK hP 0 rfl rfl 12 (by decide) (hts _ mf_X6_35) (fun _ h9 => h9) rfl dX6_isBelow_2 ?_
  refine lv_iload_n hx hb dX6_isBelow_5 rfl (lv_at hl 1 rfl) ?_
  refine n_iald hx hb hK hP 9 0 rfl rfl (k := b) (by omega) (by decide) dX6_isBelow_6 ?_
  refine lv_aload_n hx hb dX6_isBelow_7 rfl (lv_at hl 0 rfl) ?_
  refine va_get (D := D) (ci := 6) (v := .ref mf) (C := RX6) (T := TX6) (N := 20) hx hb hts inX6 hown hK hP 0 rfl rfl 12 (by decide) (hts _ mf_X6_35) (fun _ h9 => h9) rfl dX6_isBelow_8 ?_
  refine lv_iload_n hx hb dX6_isBelow_11 rfl (lv_at hl 1 rfl) ?_
  refine n_iald hx hb hK hP 9 0 rfl rfl (k := b) (by omega) (by decide) dX6_isBelow_12 ?_
  refine lv_aload_n hx hb dX6_isBelow_13 rfl (lv_at hl 0 rfl) ?_
  refine va_get (D := D) (ci := 6) (v := .ref mw) (C := RX6) (T := TX6) (N := 20) hx hb hts inX6 hown hK hP 0 rfl rfl 13 (by decide) (hts _ mf_X6_38) (fun _ h9 => h9) rfl dX6_isBelow_14 ?_
  refine lv_iload_n hx hb dX6_isBelow_17 rfl (lv_at hl 1 rfl) ?_
  refine n_iald hx hb hK hP 10 0 rfl rfl (k := b) (by omega) (by decide) dX6_isBelow_18 ?_
  refine n_iadd hx hb dX6_isBelow_19 ?_
  refine lv_iconst (v := nI 1) hx hb dX6_isBelow_20 (by decide +kernel) ?_
  refine n_isub hx hb dX6_isBelow_21 (by omega) ?_
  refine ro_S (As := [.int (nI k), .int (nI (EF b)), .int (nI (((EF b) + (EW b)) - 1))]) (rest := []) ⟨hx, hb, hml, hown, hts⟩ (c_X6_in l D cI cJ cZ k (EF b) (((EF b) + (EW b)) - 1) (by omega) (by omega) (by omega)) (k_X6_79 hts ⟨Nat.le_of_ble_eq_true rfl, Nat.le_of_ble_eq_true rfl⟩) hK hP [] rfl rfl hl.1 rfl (Nat.le_of_ble_eq_true rfl) dX6_isBelow_22 ⟨Nat.le_of_ble_eq_true rfl, Nat.le_of_ble_eq_true rfl⟩ ?_
  exact ro_zret hx hb hr hlk dX6_isBelow_25 (by split <;> decide +kernel) (rfl)
set_option maxHeartbeats 4000000 in
set_option maxRecDepth 100000 in
theorem c_X6_depthOf (l : Launch) (D : va_G) (cI cJ cZ : ClassId) (m0 nw ps im mk wd so mb ma mf mw ml mu wt ty : Nat) (NW : Nat → Nat) (PS : Nat → Nat) (u : Nat) (IM : Nat → Nat) (MK : Nat → Nat) (sd : Nat) (WD : Nat → Nat) (s : Nat) (SO : Nat → Nat) (q : Nat) (EB : Nat → Nat) (EA : Nat → Nat) (EF : Nat → Nat) (EW : Nat → Nat) (EL : Nat → Nat) (EU : Nat → Nat) (br : Nat) (WT : Nat → Nat) (ww : Nat) (TY : Nat → Nat) (hbr : br ≤ 24) (hE : ∀ b, b < br → EF b ≤ 24 ∧ 1 ≤ EW b ∧ EW b ≤ 24) (k : Nat) (hk31 : k < 2 ^ 31) : RO l yX6_depthOf cX6_depthOf 4 (some .int) (rmN 2 44) D (ty3 cI cJ cZ) [.ref m0, .int (nI k)] [(m0, .inr (6, [.ref nw, .ref ps, .int (nI u), .ref im, .ref mk, .int (nI sd), .ref wd, .int (nI s), .ref so, .int (nI q), .ref mb, .ref ma, .ref mf, .ref mw, .ref ml, .ref mu, .int (nI br), .ref wt, .int (nI ww), .ref ty])), (nw, .inl (cI, 241, .inl (nF NW))), (ps, .inl (cI, 4820, .inl (nF PS))), (im, .inl (cI, 484, .inl (nF IM))), (mk, .inl (cZ, 2, .inl (nF MK))), (wd, .inl (cI, 8, .inl (nF WD))), (so, .inl (cI, 24, .inl (nF SO))), (mb, .inl (cI, 24, .inl (nF EB))), (ma, .inl (cI, 24, .inl (nF EA))), (mf, .inl (cI, 24, .inl (nF EF))), (mw, .inl (cI, 24, .inl (nF EW))), (ml, .inl (cI, 24, .inl (nF EL))), (mu, .inl (cI, 24, .inl (oF EU))), (wt, .inl (cI, 200, .inl (oF WT))), (ty, .inl (cI, 8, .inl (nF TY)))] (.int (nI (dpt EF EW br k))) := by
  refine ro_start (by decide) (Nat.le_of_ble_eq_true rfl) ?_
  intro pp ee ss mm below meth cd C0 hP hK ls hl
  obtain ⟨hx, hb, hr, hml, hown, hts, hlk⟩ := C0
  have hown : ss.vm.findClass RX6 = some mm.cls := hown
  have hl : lv_has ls 4 [(0, .ref m0), (1, .int (nI k))] := hl
  have hP : va_P D vwCl [(m0, .inr (6, [.ref nw, .ref ps, .int (nI u), .ref im, .ref mk, .int (nI sd), .ref wd, .int (nI s), .ref so, .int (nI q), .ref mb, .ref ma, .ref mf, .ref mw, .ref ml, .ref mu, .int (nI br), .ref wt, .int (nI ww), .ref ty])), (nw, .inl (cI, 241, .inl (nF NW))), (ps, .inl (cI, 4820, .inl (nF PS))), (im, .inl (cI, 484, .inl (nF IM))), (mk, .inl (cZ, 2, .inl (nF MK))), (wd, .inl (cI, 8, .inl (nF WD))), (so, .inl (cI, 24, .inl (nF SO))), (mb, .inl (cI, 24, .inl (nF EB))), (ma, .inl (cI, 24, .inl (nF EA))), (mf, .inl (cI, 24, .inl (nF EF))), (mw, .inl (cI, 24, .inl (nF EW))), (ml, .inl (cI, 24, .inl (nF EL))), (mu, .inl (cI, 24, .inl (oF EU))), (wt, .inl (cI, 200, .inl (oF WT))), (ty, .inl (cI, 8, .inl (nF TY)))] ss.heap := hP
  refine lv_iconst (v := nI 0) hx hb dX6_depthOf_0 (by decide +kernel) ?_
  refine lv_istore_n (lv' := [(2, .int (nI 0)), (0, .ref m0), (1, .int (nI k))]) hx hb dX6_depthOf_1 rfl hl (by decide) rfl (fun ls hl => ?_)
  refine lv_iconst (v := nI 0) hx hb dX6_depthOf_2 (by decide +kernel) ?_
  refine lv_istore_n (lv' := [(3, .int (nI 0)), (2, .int (nI 0)), (0, .ref m0), (1, .int (nI k))]) hx hb dX6_depthOf_3 rfl hl (by decide) rfl (fun ls hl => ?_)
  have loop4 : ∀ (d : Nat) (i : Nat) (g : Nat) (ls : Array Slot), br - i < d → (i ≤ br) → (g = dpt EF EW i k) → lv_has ls 4 [(0, .ref m0), (1, .int (nI k)), (2, .int (nI g)), (3, .int (nI i))] → W pp l ee (rmN 2 44) ss mm [.ref m0, .int (nI k)].toArray below meth cd ss.heap [] 0 0 (MQ below (QR (.int (nI (dpt EF EW br k)))) [.ref m0, .int (nI k)].toArray ss 0 0 (fun _ => False)) (F0 mm 4 ls []) := by
    intro d
    induction d with
    | zero => intro i g ls h; exact absurd h (Nat.not_lt_zero _)
    | succ d ih4 =>
      intro i g ls hd4 hi hg hl
      refine lv_iload_n hx hb dX6_depthOf_4 rfl (lv_at hl 3 rfl) ?_
      refine lv_aload_n hx hb dX6_depthOf_5 rfl (lv_at hl 0 rfl) ?_
      refine va_get (D := D) (ci := 6) (v := .int (nI br)) (C := RX6) (T := TX6) (N := 20) hx hb hts inX6 hown hK hP 0 rfl rfl 16 (by decide) (hts _ mf_X6_97) (fun _ h9 => h9) rfl dX6_depthOf_6 ?_
      refine n_ge (tgt := 35) hx hb dX6_depthOf_9 (by decide) (by omega) (by omega) (fun c1 => ?_) (fun c1 => ?_)
      ·
        refine lv_iload_n hx hb dX6_depthOf_35 rfl (lv_at hl 2 rfl) ?_
        exact ro_iret hx hb hr hlk dX6_depthOf_36 (by rw [hg, show i = br by omega])
      ·
        refine lv_iload_n hx hb dX6_depthOf_12 rfl (lv_at hl 2 rfl) ?_
        refine lv_aload_n hx hb dX6_depthOf_13 rfl (lv_at hl 0 rfl) ?_
        refine lv_iload_n hx hb dX6_depthOf_14 rfl (lv_at hl 3 rfl) ?_
        refine lv_iload_n hx hb dX6_depthOf_15 rfl (lv_at hl 1 rfl) ?_
        refine ro_V (As := [.int (nI i), .int (nI k)]) (rest := [.int (nI g)]) ⟨hx, hb, hml, hown, hts⟩ (c_X6_isBelow l D cI cJ cZ m0 nw ps im mk wd so mb ma mf mw ml mu wt ty NW PS u IM MK sd WD s SO q EB EA EF EW EL EU br WT ww TY (by omega) hE i k (by omega) (by omega)) (k_X6_110 hts ⟨Nat.le_of_ble_eq_true rfl, Nat.le_of_ble_eq_true rfl⟩) hK hP 0 rfl rfl rfl [0, 1, 2, 3, 4, 5, 6, 7, 8, 9, 10, 11, 12, 13, 14] rfl rfl hl.1 rfl (Nat.le_of_ble_eq_true rfl) dX6_depthOf_16 ⟨Nat.le_of_ble_eq_true rfl, Nat.le_of_ble_eq_true rfl⟩ ?_
        refine b_if_eq (tgt := 26) hx hb dX6_depthOf_19 (by decide) (fun c2 => ?_) (fun c2 => ?_)
        ·
          have e1 := c2
          refine lv_iconst (v := nI 0) hx hb dX6_depthOf_26 (by decide +kernel) ?_
          refine n_iadd hx hb dX6_depthOf_27 ?_
          refine lv_istore_n (lv' := [(2, .int (nI (g + 0))), (0, .ref m0), (1, .int (nI k)), (3, .int (nI i))]) hx hb dX6_depthOf_28 rfl hl (by decide) rfl (fun ls hl => ?_)
          refine lv_iinc (v := nI (i + 1)) (lv' := [(3, .int (nI (i + 1))), (2, .int (nI (g + 0))), (0, .ref m0), (1, .int (nI k))]) hx hb dX6_depthOf_29 hl (k := 3) rfl (nI_add i 1) (by decide) rfl (fun ls hl => ?_)
          refine lv_goto (tgt := 4) hx hb dX6_depthOf_32 (by decide) ?_
          exact ih4 (i + 1) (g + 0) ls (by omega) (by omega) (by rw [dpt_s, ← hg]; first | rw [if_pos e1] | rw [if_neg e1]) (lv_sub hl [2, 3, 1, 0] rfl)
        ·
          have e1 := c2
          refine lv_iconst (v := nI 1) hx hb dX6_depthOf_22 (by decide +kernel) ?_
          refine lv_goto (tgt := 27) hx hb dX6_depthOf_23 (by decide) ?_
          refine n_iadd hx hb dX6_depthOf_27 ?_
          refine lv_istore_n (lv' := [(2, .int (nI (g + 1))), (0, .ref m0), (1, .int (nI k)), (3, .int (nI i))]) hx hb dX6_depthOf_28 rfl hl (by decide) rfl (fun ls hl => ?_)
          refine lv_iinc (v := nI (i + 1)) (lv' := [(3, .int (nI (i + 1))), (2, .int (nI (g + 1))), (0, .ref m0), (1, .int (nI k))]) hx hb dX6_depthOf_29 hl (k := 3) rfl (nI_add i 1) (by decide) rfl (fun ls hl => ?_)
          refine lv_goto (tgt := 4) hx hb dX6_depthOf_32 (by decide) ?_
          exact ih4 (i + 1) (g + 1) ls (by omega) (by omega) (by rw [dpt_s, ← hg]; first | rw [if_pos e1] | rw [if_neg e1]) (lv_sub hl [2, 3, 1, 0] rfl)
  exact loop4 _ 0 0 ls (Nat.lt_succ_self _) (Nat.zero_le _) rfl (lv_sub hl [2, 3, 1, 0] rfl)
set_option maxHeartbeats 4000000 in
set_option maxRecDepth 100000 in
theorem c_X6_deepest (l : Launch) (D : va_G) (cI cJ cZ : ClassId) (m0 nw ps im mk wd so mb ma mf mw ml mu wt ty : Nat) (NW : Nat → Nat) (PS : Nat → Nat) (u : Nat) (IM : Nat → Nat) (MK : Nat → Nat) (sd : Nat) (WD : Nat → Nat) (s : Nat) (SO : Nat → Nat) (q : Nat) (EB : Nat → Nat) (EA : Nat → Nat) (EF : Nat → Nat) (EW : Nat → Nat) (EL : Nat → Nat) (EU : Nat → Nat) (br : Nat) (WT : Nat → Nat) (ww : Nat) (TY : Nat → Nat) (hbr : br ≤ 24) (hE : ∀ b, b < br → EF b ≤ 24 ∧ 1 ≤ EW b ∧ EW b ≤ 24) (hq24 : q ≤ 24) : RO l yX6_deepest cX6_deepest 3 (some .int) (rmN 3 67) D (ty3 cI cJ cZ) [.ref m0] [(m0, .inr (6, [.ref nw, .ref ps, .int (nI u), .ref im, .ref mk, .int (nI sd), .ref wd, .int (nI s), .ref so, .int (nI q), .ref mb, .ref ma, .ref mf, .ref mw, .ref ml, .ref mu, .int (nI br), .ref wt, .int (nI ww), .ref ty])), (nw, .inl (cI, 241, .inl (nF NW))), (ps, .inl (cI, 4820, .inl (nF PS))), (im, .inl (cI, 484, .inl (nF IM))), (mk, .inl (cZ, 2, .inl (nF MK))), (wd, .inl (cI, 8, .inl (nF WD))), (so, .inl (cI, 24, .inl (nF SO))), (mb, .inl (cI, 24, .inl (nF EB))), (ma, .inl (cI, 24, .inl (nF EA))), (mf, .inl (cI, 24, .inl (nF EF))), (mw, .inl (cI, 24, .inl (nF EW))), (ml, .inl (cI, 24, .inl (nF EL))), (mu, .inl (cI, 24, .inl (oF EU))), (wt, .inl (cI, 200, .inl (oF WT))), (ty, .inl (cI, 8, .inl (nF TY)))] (.int (nI (mxd (dpt EF EW br) q))) := by
  refine ro_start (by decide) (Nat.le_of_ble_eq_true rfl) ?_
  intro pp ee ss mm below meth cd C0 hP hK ls hl
  obtain ⟨hx, hb, hr, hml, hown, hts, hlk⟩ := C0
  have hown : ss.vm.findClass RX6 = some mm.cls := hown
  have hl : lv_has ls 3 [(0, .ref m0)] := hl
  have hP : va_P D vwCl [(m0, .inr (6, [.ref nw, .ref ps, .int (nI u), .ref im, .ref mk, .int (nI sd), .ref wd, .int (nI s), .ref so, .int (nI q), .ref mb, .ref ma, .ref mf, .ref mw, .ref ml, .ref mu, .int (nI br), .ref wt, .int (nI ww), .ref ty])), (nw, .inl (cI, 241, .inl (nF NW))), (ps, .inl (cI, 4820, .inl (nF PS))), (im, .inl (cI, 484, .inl (nF IM))), (mk, .inl (cZ, 2, .inl (nF MK))), (wd, .inl (cI, 8, .inl (nF WD))), (so, .inl (cI, 24, .inl (nF SO))), (mb, .inl (cI, 24, .inl (nF EB))), (ma, .inl (cI, 24, .inl (nF EA))), (mf, .inl (cI, 24, .inl (nF EF))), (mw, .inl (cI, 24, .inl (nF EW))), (ml, .inl (cI, 24, .inl (nF EL))), (mu, .inl (cI, 24, .inl (oF EU))), (wt, .inl (cI, 200, .inl (oF WT))), (ty, .inl (cI, 8, .inl (nF TY)))] ss.heap := hP
  refine lv_iconst (v := nI 0) hx hb dX6_deepest_0 (by decide +kernel) ?_
  refine lv_istore_n (lv' := [(1, .int (nI 0)), (0, .ref m0)]) hx hb dX6_deepest_1 rfl hl (by decide) rfl (fun ls hl => ?_)
  refine lv_iconst (v := nI 0) hx hb dX6_deepest_2 (by decide +kernel) ?_
  refine lv_istore_n (lv' := [(2, .int (nI 0)), (1, .int (nI 0)), (0, .ref m0)]) hx hb dX6_deepest_3 rfl hl (by decide) rfl (fun ls hl => ?_)
  have loop4 : ∀ (d : Nat) (i : Nat) (g : Nat) (ls : Array Slot), q - i < d → (i ≤ q) → (g = mxd (dpt EF EW br) i) → lv_has ls 3 [(0, .ref m0), (1, .int (nI g)), (2, .int (nI i))] → W pp l ee (rmN 3 67) ss mm [.ref m0].toArray below meth cd ss.heap [] 0 0 (MQ below (QR (.int (nI (mxd (dpt EF EW br) q)))) [.ref m0].toArray ss 0 0 (fun _ => False)) (F0 mm 4 ls []) := by
    intro d
    induction d with
    | zero => intro i g ls h; exact absurd h (Nat.not_lt_zero _)
    | succ d ih4 =>
      intro i g ls hd4 hi hg hl
      have hg1 : g ≤ 24 := by rw [hg]; exact mxd_le (fun j hj => by have := dpt_le EF EW br j; omega)
      have hdi := dpt_le EF EW br i
      refine lv_iload_n hx hb dX6_deepest_4 rfl (lv_at hl 2 rfl) ?_
      refine lv_aload_n hx hb dX6_deepest_5 rfl (lv_at hl 0 rfl) ?_
      refine va_get (D := D) (ci := 6) (v := .int (nI q)) (C := RX6) (T := TX6) (N := 20) hx hb hts inX6 hown hK hP 0 rfl rfl 9 (by decide) (hts _ mf_X6_100) (fun _ h9 => h9) rfl dX6_deepest_6 ?_
      refine n_ge (tgt := 28) hx hb dX6_deepest_9 (by decide) (by omega) (by omega) (fun c1 => ?_) (fun c1 => ?_)
      ·
        refine lv_iload_n hx hb dX6_deepest_28 rfl (lv_at hl 1 rfl) ?_
        exact ro_iret hx hb hr hlk dX6_deepest_29 (by rw [hg, show i = q by omega])
      ·
        refine lv_iload_n hx hb dX6_deepest_12 rfl (lv_at hl 1 rfl) ?_
        refine lv_aload_n hx hb dX6_deepest_13 rfl (lv_at hl 0 rfl) ?_
        refine lv_iload_n hx hb dX6_deepest_14 rfl (lv_at hl 2 rfl) ?_
        refine ro_V (As := [.int (nI i)]) (rest := [.int (nI g)]) ⟨hx, hb, hml, hown, hts⟩ (c_X6_depthOf l D cI cJ cZ m0 nw ps im mk wd so mb ma mf mw ml mu wt ty NW PS u IM MK sd WD s SO q EB EA EF EW EL EU br WT ww TY (by omega) hE i (by omega)) (k_X6_113 hts ⟨Nat.le_of_ble_eq_true rfl, Nat.le_of_ble_eq_true rfl⟩) hK hP 0 rfl rfl rfl [0, 1, 2, 3, 4, 5, 6, 7, 8, 9, 10, 11, 12, 13, 14] rfl rfl hl.1 rfl (Nat.le_of_ble_eq_true rfl) dX6_deepest_15 ⟨Nat.le_of_ble_eq_true rfl, Nat.le_of_ble_eq_true rfl⟩ ?_
        refine ro_S (As := [.int (nI g), .int (nI (dpt EF EW br i))]) (rest := []) ⟨hx, hb, hml, hown, hts⟩ (c_X6_more l D cI cJ cZ g (dpt EF EW br i) (by omega) (by omega)) (k_X6_116 hts ⟨Nat.le_of_ble_eq_true rfl, Nat.le_of_ble_eq_true rfl⟩) hK hP [] rfl rfl hl.1 rfl (Nat.le_of_ble_eq_true rfl) dX6_deepest_18 ⟨Nat.le_of_ble_eq_true rfl, Nat.le_of_ble_eq_true rfl⟩ ?_
        refine lv_istore_n (lv' := [(1, .int (nI (max g (dpt EF EW br i)))), (0, .ref m0), (2, .int (nI i))]) hx hb dX6_deepest_21 rfl hl (by decide) rfl (fun ls hl => ?_)
        refine lv_iinc (v := nI (i + 1)) (lv' := [(2, .int (nI (i + 1))), (1, .int (nI (max g (dpt EF EW br i)))), (0, .ref m0)]) hx hb dX6_deepest_22 hl (k := 2) rfl (nI_add i 1) (by decide) rfl (fun ls hl => ?_)
        refine lv_goto (tgt := 4) hx hb dX6_deepest_25 (by decide) ?_
        exact ih4 (i + 1) (max g (dpt EF EW br i)) ls (by omega) (by omega) (by rw [hg]; rfl) (lv_sub hl [2, 1, 0] rfl)
  exact loop4 _ 0 0 ls (Nat.lt_succ_self _) (Nat.zero_le _) rfl (lv_sub hl [2, 1, 0] rfl)
set_option maxHeartbeats 4000000 in
set_option maxRecDepth 100000 in
theorem c_X6_sum_0 (l : Launch) (D : va_G) (cI cJ cZ : ClassId) (m0 nw ps im mk wd so mb ma mf mw ml mu wt ty : Nat) (NW : Nat → Nat) (PS : Nat → Nat) (u : Nat) (IM : Nat → Nat) (MK : Nat → Nat) (sd : Nat) (WD : Nat → Nat) (s : Nat) (SO : Nat → Nat) (q : Nat) (EB : Nat → Nat) (EA : Nat → Nat) (EF : Nat → Nat) (EW : Nat → Nat) (EL : Nat → Nat) (EU : Nat → Nat) (br : Nat) (WT : Nat → Nat) (ww : Nat) (TY : Nat → Nat) (KS KL KW : Nat → Nat) (n A : Nat) (hn : n ≤ 24) (hk : ∀ k, k < n → Wf (KS k) (KL k)) (hw0 : Wf s A) (hR : RN NW KS KL KW n) (hRW : RW WD s A) (hbr : br ≤ 24) (hE : ∀ b, b < br → EF b ≤ 24 ∧ 1 ≤ EW b ∧ EW b ≤ 24) : RO l yX6_sum cX6_sum 4 (some .int) (rmN 3 67) D (ty3 cI cJ cZ) [.ref m0, .int (nI 0)] [(m0, .inr (6, [.ref nw, .ref ps, .int (nI u), .ref im, .ref mk, .int (nI sd), .ref wd, .int (nI s), .ref so, .int (nI q), .ref mb, .ref ma, .ref mf, .ref mw, .ref ml, .ref mu, .int (nI br), .ref wt, .int (nI ww), .ref ty])), (nw, .inl (cI, 241, .inl (nF NW))), (ps, .inl (cI, 4820, .inl (nF PS))), (im, .inl (cI, 484, .inl (nF IM))), (mk, .inl (cZ, 2, .inl (nF MK))), (wd, .inl (cI, 8, .inl (nF WD))), (so, .inl (cI, 24, .inl (nF SO))), (mb, .inl (cI, 24, .inl (nF EB))), (ma, .inl (cI, 24, .inl (nF EA))), (mf, .inl (cI, 24, .inl (nF EF))), (mw, .inl (cI, 24, .inl (nF EW))), (ml, .inl (cI, 24, .inl (nF EL))), (mu, .inl (cI, 24, .inl (oF EU))), (wt, .inl (cI, 200, .inl (oF WT))), (ty, .inl (cI, 8, .inl (nF TY)))] (.int (nI (fb_sm (dpt EF EW br) n))) := by
  have hs8 := hw0.1
  have hA64 := hw0.2.1
  have hN0 := hR.1
  refine ro_start (by decide) (Nat.le_of_ble_eq_true rfl) ?_
  intro pp ee ss mm below meth cd C0 hP hK ls hl
  obtain ⟨hx, hb, hr, hml, hown, hts, hlk⟩ := C0
  have hown : ss.vm.findClass RX6 = some mm.cls := hown
  have hl : lv_has ls 4 [(0, .ref m0), (1, .int (nI 0))] := hl
  have hP : va_P D vwCl [(m0, .inr (6, [.ref nw, .ref ps, .int (nI u), .ref im, .ref mk, .int (nI sd), .ref wd, .int (nI s), .ref so, .int (nI q), .ref mb, .ref ma, .ref mf, .ref mw, .ref ml, .ref mu, .int (nI br), .ref wt, .int (nI ww), .ref ty])), (nw, .inl (cI, 241, .inl (nF NW))), (ps, .inl (cI, 4820, .inl (nF PS))), (im, .inl (cI, 484, .inl (nF IM))), (mk, .inl (cZ, 2, .inl (nF MK))), (wd, .inl (cI, 8, .inl (nF WD))), (so, .inl (cI, 24, .inl (nF SO))), (mb, .inl (cI, 24, .inl (nF EB))), (ma, .inl (cI, 24, .inl (nF EA))), (mf, .inl (cI, 24, .inl (nF EF))), (mw, .inl (cI, 24, .inl (nF EW))), (ml, .inl (cI, 24, .inl (nF EL))), (mu, .inl (cI, 24, .inl (oF EU))), (wt, .inl (cI, 200, .inl (oF WT))), (ty, .inl (cI, 8, .inl (nF TY)))] ss.heap := hP
  refine lv_iconst (v := nI 0) hx hb dX6_sum_0 (by decide +kernel) ?_
  refine lv_istore_n (lv' := [(2, .int (nI 0)), (0, .ref m0), (1, .int (nI 0))]) hx hb dX6_sum_1 rfl hl (by decide) rfl (fun ls hl => ?_)
  refine lv_iconst (v := nI 0) hx hb dX6_sum_2 (by decide +kernel) ?_
  refine lv_istore_n (lv' := [(3, .int (nI 0)), (2, .int (nI 0)), (0, .ref m0), (1, .int (nI 0))]) hx hb dX6_sum_3 rfl hl (by decide) rfl (fun ls hl => ?_)
  have loop4 : ∀ (d : Nat) (i : Nat) (ls : Array Slot), n - i < d → (i ≤ n) → lv_has ls 4 [(0, .ref m0), (1, .int (nI 0)), (2, .int (nI (fb_sm (dpt EF EW br) i))), (3, .int (nI i))] → W pp l ee (rmN 3 67) ss mm [.ref m0, .int (nI 0)].toArray below meth cd ss.heap [] 0 0 (MQ below (QR (.int (nI (fb_sm (dpt EF EW br) n)))) [.ref m0, .int (nI 0)].toArray ss 0 0 (fun _ => False)) (F0 mm 4 ls []) := by
    intro d
    induction d with
    | zero => intro i ls h; exact absurd h (Nat.not_lt_zero _)
    | succ d ih4 =>
      intro i ls hd4 hi hl
      refine lv_iload_n hx hb dX6_sum_4 rfl (lv_at hl 3 rfl) ?_
      refine lv_aload_n hx hb dX6_sum_5 rfl (lv_at hl 0 rfl) ?_
      refine va_get (D := D) (ci := 6) (v := .ref nw) (C := RX6) (T := TX6) (N := 20) hx hb hts inX6 hown hK hP 0 rfl rfl 0 (by decide) (hts _ mf_X6_7) (fun _ h9 => h9) rfl dX6_sum_6 ?_
      refine lv_iconst (v := nI 0) hx hb dX6_sum_9 (by decide +kernel) ?_
      refine n_iald hx hb hK hP 1 0 rfl rfl (k := 0) (by omega) (by decide) dX6_sum_10 ?_
      refine tq (y := nI n) (congrArg nI (hN0)) ?_
      refine n_ge (tgt := 44) hx hb dX6_sum_11 (by decide) (by omega) (by omega) (fun c1 => ?_) (fun c1 => ?_)
      ·
        refine lv_iload_n hx hb dX6_sum_44 rfl (lv_at hl 2 rfl) ?_
        exact ro_iret hx hb hr hlk dX6_sum_45 (by rw [show i = n by omega])
      ·
        refine lv_iload_n hx hb dX6_sum_14 rfl (lv_at hl 2 rfl) ?_
        refine lv_iload_n hx hb dX6_sum_15 rfl (lv_at hl 1 rfl) ?_
        refine n_if_ne (tgt := 27) hx hb dX6_sum_16 (by decide) (by decide) (fun h9 => absurd rfl h9) (fun _ => ?_)
        refine lv_aload_n hx hb dX6_sum_19 rfl (lv_at hl 0 rfl) ?_
        refine lv_iload_n hx hb dX6_sum_20 rfl (lv_at hl 3 rfl) ?_
        refine ro_V (As := [.int (nI i)]) (rest := [.int (nI (fb_sm (dpt EF EW br) i))]) ⟨hx, hb, hml, hown, hts⟩ (c_X6_depthOf l D cI cJ cZ m0 nw ps im mk wd so mb ma mf mw ml mu wt ty NW PS u IM MK sd WD s SO q EB EA EF EW EL EU br WT ww TY (by omega) hE i (by omega)) (k_X6_113 hts ⟨Nat.le_of_ble_eq_true rfl, Nat.le_of_ble_eq_true rfl⟩) hK hP 0 rfl rfl rfl [0, 1, 2, 3, 4, 5, 6, 7, 8, 9, 10, 11, 12, 13, 14] rfl rfl hl.1 rfl (Nat.le_of_ble_eq_true rfl) dX6_sum_21 ⟨Nat.le_of_ble_eq_true rfl, Nat.le_of_ble_eq_true rfl⟩ ?_
        refine lv_goto (tgt := 36) hx hb dX6_sum_24 (by decide) ?_
        refine n_iadd hx hb dX6_sum_36 ?_
        refine lv_istore_n (lv' := [(2, .int (nI ((fb_sm (dpt EF EW br) i) + (dpt EF EW br i)))), (0, .ref m0), (1, .int (nI 0)), (3, .int (nI i))]) hx hb dX6_sum_37 rfl hl (by decide) rfl (fun ls hl => ?_)
        refine lv_iinc (v := nI (i + 1)) (lv' := [(3, .int (nI (i + 1))), (2, .int (nI ((fb_sm (dpt EF EW br) i) + (dpt EF EW br i)))), (0, .ref m0), (1, .int (nI 0))]) hx hb dX6_sum_38 hl (k := 3) rfl (nI_add i 1) (by decide) rfl (fun ls hl => ?_)
        refine lv_goto (tgt := 4) hx hb dX6_sum_41 (by decide) ?_
        exact ih4 (i + 1) ls (by omega) (by omega) (lv_sub hl [2, 3, 1, 0] rfl)
  exact loop4 _ 0 ls (Nat.lt_succ_self _) (Nat.zero_le _) (lv_sub hl [2, 3, 1, 0] rfl)
set_option maxHeartbeats 4000000 in
set_option maxRecDepth 100000 in
theorem c_X6_sum_1 (l : Launch) (D : va_G) (cI cJ cZ : ClassId) (m0 nw ps im mk wd so mb ma mf mw ml mu wt ty : Nat) (NW : Nat → Nat) (PS : Nat → Nat) (u : Nat) (IM : Nat → Nat) (MK : Nat → Nat) (sd : Nat) (WD : Nat → Nat) (s : Nat) (SO : Nat → Nat) (q : Nat) (EB : Nat → Nat) (EA : Nat → Nat) (EF : Nat → Nat) (EW : Nat → Nat) (EL : Nat → Nat) (EU : Nat → Nat) (br : Nat) (WT : Nat → Nat) (ww : Nat) (TY : Nat → Nat) (KS KL KW : Nat → Nat) (n A : Nat) (hn : n ≤ 24) (hk : ∀ k, k < n → Wf (KS k) (KL k)) (hw0 : Wf s A) (hR : RN NW KS KL KW n) (hRW : RW WD s A) : RO l yX6_sum cX6_sum 4 (some .int) (rmN 3 67) D (ty3 cI cJ cZ) [.ref m0, .int (nI 1)] [(m0, .inr (6, [.ref nw, .ref ps, .int (nI u), .ref im, .ref mk, .int (nI sd), .ref wd, .int (nI s), .ref so, .int (nI q), .ref mb, .ref ma, .ref mf, .ref mw, .ref ml, .ref mu, .int (nI br), .ref wt, .int (nI ww), .ref ty])), (nw, .inl (cI, 241, .inl (nF NW))), (ps, .inl (cI, 4820, .inl (nF PS))), (im, .inl (cI, 484, .inl (nF IM))), (mk, .inl (cZ, 2, .inl (nF MK))), (wd, .inl (cI, 8, .inl (nF WD))), (so, .inl (cI, 24, .inl (nF SO))), (mb, .inl (cI, 24, .inl (nF EB))), (ma, .inl (cI, 24, .inl (nF EA))), (mf, .inl (cI, 24, .inl (nF EF))), (mw, .inl (cI, 24, .inl (nF EW))), (ml, .inl (cI, 24, .inl (nF EL))), (mu, .inl (cI, 24, .inl (oF EU))), (wt, .inl (cI, 200, .inl (oF WT))), (ty, .inl (cI, 8, .inl (nF TY)))] (.int (nI (fb_sm KW n))) := by
  have hs8 := hw0.1
  have hA64 := hw0.2.1
  have hN0 := hR.1
  refine ro_start (by decide) (Nat.le_of_ble_eq_true rfl) ?_
  intro pp ee ss mm below meth cd C0 hP hK ls hl
  obtain ⟨hx, hb, hr, hml, hown, hts, hlk⟩ := C0
  have hown : ss.vm.findClass RX6 = some mm.cls := hown
  have hl : lv_has ls 4 [(0, .ref m0), (1, .int (nI 1))] := hl
  have hP : va_P D vwCl [(m0, .inr (6, [.ref nw, .ref ps, .int (nI u), .ref im, .ref mk, .int (nI sd), .ref wd, .int (nI s), .ref so, .int (nI q), .ref mb, .ref ma, .ref mf, .ref mw, .ref ml, .ref mu, .int (nI br), .ref wt, .int (nI ww), .ref ty])), (nw, .inl (cI, 241, .inl (nF NW))), (ps, .inl (cI, 4820, .inl (nF PS))), (im, .inl (cI, 484, .inl (nF IM))), (mk, .inl (cZ, 2, .inl (nF MK))), (wd, .inl (cI, 8, .inl (nF WD))), (so, .inl (cI, 24, .inl (nF SO))), (mb, .inl (cI, 24, .inl (nF EB))), (ma, .inl (cI, 24, .inl (nF EA))), (mf, .inl (cI, 24, .inl (nF EF))), (mw, .inl (cI, 24, .inl (nF EW))), (ml, .inl (cI, 24, .inl (nF EL))), (mu, .inl (cI, 24, .inl (oF EU))), (wt, .inl (cI, 200, .inl (oF WT))), (ty, .inl (cI, 8, .inl (nF TY)))] ss.heap := hP
  refine lv_iconst (v := nI 0) hx hb dX6_sum_0 (by decide +kernel) ?_
  refine lv_istore_n (lv' := [(2, .int (nI 0)), (0, .ref m0), (1, .int (nI 1))]) hx hb dX6_sum_1 rfl hl (by decide) rfl (fun ls hl => ?_)
  refine lv_iconst (v := nI 0) hx hb dX6_sum_2 (by decide +kernel) ?_
  refine lv_istore_n (lv' := [(3, .int (nI 0)), (2, .int (nI 0)), (0, .ref m0), (1, .int (nI 1))]) hx hb dX6_sum_3 rfl hl (by decide) rfl (fun ls hl => ?_)
  have loop4 : ∀ (d : Nat) (i : Nat) (ls : Array Slot), n - i < d → (i ≤ n) → lv_has ls 4 [(0, .ref m0), (1, .int (nI 1)), (2, .int (nI (fb_sm KW i))), (3, .int (nI i))] → W pp l ee (rmN 3 67) ss mm [.ref m0, .int (nI 1)].toArray below meth cd ss.heap [] 0 0 (MQ below (QR (.int (nI (fb_sm KW n)))) [.ref m0, .int (nI 1)].toArray ss 0 0 (fun _ => False)) (F0 mm 4 ls []) := by
    intro d
    induction d with
    | zero => intro i ls h; exact absurd h (Nat.not_lt_zero _)
    | succ d ih4 =>
      intro i ls hd4 hi hl
      refine lv_iload_n hx hb dX6_sum_4 rfl (lv_at hl 3 rfl) ?_
      refine lv_aload_n hx hb dX6_sum_5 rfl (lv_at hl 0 rfl) ?_
      refine va_get (D := D) (ci := 6) (v := .ref nw) (C := RX6) (T := TX6) (N := 20) hx hb hts inX6 hown hK hP 0 rfl rfl 0 (by decide) (hts _ mf_X6_7) (fun _ h9 => h9) rfl dX6_sum_6 ?_
      refine lv_iconst (v := nI 0) hx hb dX6_sum_9 (by decide +kernel) ?_
      refine n_iald hx hb hK hP 1 0 rfl rfl (k := 0) (by omega) (by decide) dX6_sum_10 ?_
      refine tq (y := nI n) (congrArg nI (hN0)) ?_
      refine n_ge (tgt := 44) hx hb dX6_sum_11 (by decide) (by omega) (by omega) (fun c1 => ?_) (fun c1 => ?_)
      ·
        refine lv_iload_n hx hb dX6_sum_44 rfl (lv_at hl 2 rfl) ?_
        exact ro_iret hx hb hr hlk dX6_sum_45 (by rw [show i = n by omega])
      ·
        refine lv_iload_n hx hb dX6_sum_14 rfl (lv_at hl 2 rfl) ?_
        refine lv_iload_n hx hb dX6_sum_15 rfl (lv_at hl 1 rfl) ?_
        refine n_if_ne (tgt := 27) hx hb dX6_sum_16 (by decide) (by decide) (fun _ => ?_) (fun h9 => absurd h9 (by decide))
        refine lv_aload_n hx hb dX6_sum_27 rfl (lv_at hl 0 rfl) ?_
        refine va_get (D := D) (ci := 6) (v := .ref nw) (C := RX6) (T := TX6) (N := 20) hx hb hts inX6 hown hK hP 0 rfl rfl 0 (by decide) (hts _ mf_X6_7) (fun _ h9 => h9) rfl dX6_sum_28 ?_
        refine lv_bipush (v := nI 25) hx hb dX6_sum_31 (by decide +kernel) ?_
        refine lv_iload_n hx hb dX6_sum_33 rfl (lv_at hl 3 rfl) ?_
        refine n_iadd hx hb dX6_sum_34 ?_
        refine n_iald hx hb hK hP 1 0 rfl rfl (k := (25 + i)) (by omega) (by decide) dX6_sum_35 ?_
        refine tq (y := nI (KW i)) (congrArg nI ((hR.2 i (by omega)).2.1)) ?_
        refine n_iadd hx hb dX6_sum_36 ?_
        refine lv_istore_n (lv' := [(2, .int (nI ((fb_sm KW i) + (KW i)))), (0, .ref m0), (1, .int (nI 1)), (3, .int (nI i))]) hx hb dX6_sum_37 rfl hl (by decide) rfl (fun ls hl => ?_)
        refine lv_iinc (v := nI (i + 1)) (lv' := [(3, .int (nI (i + 1))), (2, .int (nI ((fb_sm KW i) + (KW i)))), (0, .ref m0), (1, .int (nI 1))]) hx hb dX6_sum_38 hl (k := 3) rfl (nI_add i 1) (by decide) rfl (fun ls hl => ?_)
        refine lv_goto (tgt := 4) hx hb dX6_sum_41 (by decide) ?_
        exact ih4 (i + 1) ls (by omega) (by omega) (lv_sub hl [2, 3, 1, 0] rfl)
  exact loop4 _ 0 ls (Nat.lt_succ_self _) (Nat.zero_le _) (lv_sub hl [2, 3, 1, 0] rfl)
