/-! ===== the reference's reading calls ===== -/
/-- those that begin with the word stand together, from its place on -/
theorem bel_iff {KS KL : Nat → Nat} {n s A k : Nat} (hk : ∀ k, k < n → Wf (KS k) (KL k)) (hw0 : Wf s A) (hso : Srt KS KL n) (hkn : k < n) : 9 * s ≤ unl (KS k) (KL k) s A ↔ plc KS KL n s A ≤ k ∧ k < plc KS KL n s A + cbl KS KL n s A := by
  have hs := hw0.1
  have hp := plc_le KS KL n s A
  have hc : cbl KS KL n s A = fa_first (fun m => decide (¬ 9 * s ≤ unl (KS (plc KS KL n s A + m)) (KL (plc KS KL n s A + m)) s A)) (n - plc KS KL n s A) := rfl
  have hle := cbl_le KS KL n s A
  constructor
  · intro h
    have h1 : plc KS KL n s A ≤ k := by
      rcases Nat.lt_or_ge k (plc KS KL n s A) with q | q
      · have a := plc_lt q
        have b := ls_one a
        have c := a.1
        rw [bitr_out hw0 c (by omega)] at b
        omega
      · exact q
    refine ⟨h1, ?_⟩
    rcases Nat.lt_or_ge k (plc KS KL n s A + cbl KS KL n s A) with q | q
    · exact q
    · have hlt : cbl KS KL n s A < n - plc KS KL n s A := by omega
      rw [hc] at hlt
      have a := of_decide_eq_true (fa_first_yes _ _ hlt)
      rw [← hc] at a
      exfalso
      apply a
      have hj : plc KS KL n s A + cbl KS KL n s A < n := by omega
      have hnl : ¬ Ls (KS (plc KS KL n s A + cbl KS KL n s A)) (KL (plc KS KL n s A + cbl KS KL n s A)) s A := by
        intro z
        rcases Nat.eq_zero_or_pos (cbl KS KL n s A) with w | w
        · rw [w, Nat.add_zero] at z
          exact plc_ge (by omega) z
        · have l1 := sq_lt hso (i := plc KS KL n s A) (j := plc KS KL n s A + cbl KS KL n s A) (by omega) hj
          exact plc_ge (by omega) (ls_tri l1 z).2
      rcases Nat.eq_or_lt_of_le q with w | w
      · rw [w]; exact h
      · have l1 := sq_lt hso w hkn
        rcases ls_three (s := KS (plc KS KL n s A + cbl KS KL n s A)) (A := KL (plc KS KL n s A + cbl KS KL n s A)) (t := s) (B := A) with z | z | z
        · exact absurd z hnl
        · rw [z]; omega
        · have t := (ls_tri z l1).1
          rw [unl_comm (KS k) (KL k) s A] at h
          rw [unl_comm]
          omega
  · rintro ⟨h1, h2⟩
    have a := fa_first_no (fun m => decide (¬ 9 * s ≤ unl (KS (plc KS KL n s A + m)) (KL (plc KS KL n s A + m)) s A)) (n - plc KS KL n s A) (k - plc KS KL n s A) (by rw [← hc]; omega)
    have b := of_decide_eq_false a
    rw [show plc KS KL n s A + (k - plc KS KL n s A) = k by omega] at b
    exact Decidable.of_not_not b
set_option maxHeartbeats 4000000 in
set_option maxRecDepth 100000 in
theorem c_X6_told_neg (l : Launch) (D : va_G) (cI cJ cZ : ClassId) (m0 nw ps im mk wd so mb ma mf mw ml mu wt ty : Nat) (NW : Nat → Nat) (PS : Nat → Nat) (u : Nat) (IM : Nat → Nat) (MK : Nat → Nat) (sd : Nat) (WD : Nat → Nat) (s : Nat) (SO : Nat → Nat) (q : Nat) (EB : Nat → Nat) (EA : Nat → Nat) (EF : Nat → Nat) (EW : Nat → Nat) (EL : Nat → Nat) (EU : Nat → Nat) (br : Nat) (WT : Nat → Nat) (ww : Nat) (TY : Nat → Nat) (KS KL KW : Nat → Nat) (n A : Nat) (hn : n ≤ 24) (hk : ∀ k, k < n → Wf (KS k) (KL k)) (hw0 : Wf s A) (hR : RN NW KS KL KW n) (hRW : RW WD s A) (hso : Srt KS KL n) (BB BD BM BL BF BA BK : Nat → Nat) (hTr : TrX (gapF KS KL) n BB BD BM BL BF BA BK) (hv : ∀ k, k < n → KW k ≤ 9999) (x : Int32) (hx0 : x < 0) (sz : Nat) : WR l yX6_told cX6_told 4 (some .int) (rmN 6 133) D (ty3 cI cJ cZ) [.ref m0, .int x] [(m0, .inr (6, [.ref nw, .ref ps, .int (nI u), .ref im, .ref mk, .int (nI sd), .ref wd, .int (nI s), .ref so, .int (nI q), .ref mb, .ref ma, .ref mf, .ref mw, .ref ml, .ref mu, .int (nI br), .ref wt, .int (nI ww), .ref ty])), (nw, .inl (cI, 241, .inl (nF NW))), (ps, .inl (cI, 4820, .inl (nF PS))), (im, .inl (cI, 484, .inl (nF IM))), (mk, .inl (cZ, 2, .inl (nF MK))), (wd, .inl (cI, 8, .inl (nF WD))), (so, .inl (cI, 24, .inl (nF SO))), (mb, .inl (cI, 24, .inl (nF EB))), (ma, .inl (cI, 24, .inl (nF EA))), (mf, .inl (cI, 24, .inl (nF EF))), (mw, .inl (cI, 24, .inl (nF EW))), (ml, .inl (cI, 24, .inl (nF EL))), (mu, .inl (cI, 24, .inl (oF EU))), (wt, .inl (cI, 200, .inl (oF WT))), (ty, .inl (cI, 8, .inl (nF TY)))] sz (fun x w => x = some (.int (-1000000002)) ∧ ∃ (SO : Nat → Nat) (q : Nat) (EB EA EF EW EL EU : Nat → Nat) (br : Nat) (WT : Nat → Nat) (ww : Nat), w = [(m0, .inr (6, [.ref nw, .ref ps, .int (nI u), .ref im, .ref mk, .int (nI sd), .ref wd, .int (nI s), .ref so, .int (nI q), .ref mb, .ref ma, .ref mf, .ref mw, .ref ml, .ref mu, .int (nI br), .ref wt, .int (nI ww), .ref ty])), (nw, .inl (cI, 241, .inl (nF NW))), (ps, .inl (cI, 4820, .inl (nF PS))), (im, .inl (cI, 484, .inl (nF IM))), (mk, .inl (cZ, 2, .inl (nF MK))), (wd, .inl (cI, 8, .inl (nF WD))), (so, .inl (cI, 24, .inl (nF SO))), (mb, .inl (cI, 24, .inl (nF EB))), (ma, .inl (cI, 24, .inl (nF EA))), (mf, .inl (cI, 24, .inl (nF EF))), (mw, .inl (cI, 24, .inl (nF EW))), (ml, .inl (cI, 24, .inl (nF EL))), (mu, .inl (cI, 24, .inl (oF EU))), (wt, .inl (cI, 200, .inl (oF WT))), (ty, .inl (cI, 8, .inl (nF TY)))]) := by
  have hs8 := hw0.1
  have hA64 := hw0.2.1
  have hN0 := hR.1
  have hBK := tf_BK hTr hn
  have hDK := tf_DK hTr hn
  have hp := plc_le KS KL n s A
  have hcb := cbl_le KS KL n s A
  have hfl := fnd_le KS KL n s A
  refine wr_start (by decide) (Nat.le_of_ble_eq_true rfl) ?_
  intro pp ee ss mm below meth cd AA C0 hAA hP hK hD hS hN hnm ls hl
  obtain ⟨hx, hb, hr, hml, hown, hts, hlk⟩ := C0
  have hown : ss.vm.findClass RX6 = some mm.cls := hown
  have hl : lv_has ls 4 [(0, .ref m0), (1, .int x)] := hl
  have hP : va_P D vwCl [(m0, .inr (6, [.ref nw, .ref ps, .int (nI u), .ref im, .ref mk, .int (nI sd), .ref wd, .int (nI s), .ref so, .int (nI q), .ref mb, .ref ma, .ref mf, .ref mw, .ref ml, .ref mu, .int (nI br), .ref wt, .int (nI ww), .ref ty])), (nw, .inl (cI, 241, .inl (nF NW))), (ps, .inl (cI, 4820, .inl (nF PS))), (im, .inl (cI, 484, .inl (nF IM))), (mk, .inl (cZ, 2, .inl (nF MK))), (wd, .inl (cI, 8, .inl (nF WD))), (so, .inl (cI, 24, .inl (nF SO))), (mb, .inl (cI, 24, .inl (nF EB))), (ma, .inl (cI, 24, .inl (nF EA))), (mf, .inl (cI, 24, .inl (nF EF))), (mw, .inl (cI, 24, .inl (nF EW))), (ml, .inl (cI, 24, .inl (nF EL))), (mu, .inl (cI, 24, .inl (oF EU))), (wt, .inl (cI, 200, .inl (oF WT))), (ty, .inl (cI, 8, .inl (nF TY)))] ss.heap := hP
  refine lv_iload_n hx hb dX6_told_0 rfl (lv_at hl 1 rfl) ?_
  refine lv_iconst (v := nI 0) hx hb dX6_told_1 (by decide +kernel) ?_
  refine lv_bipush (v := nI 10) hx hb dX6_told_2 (by decide +kernel) ?_
  refine ro_S (As := [.int x, .int (nI 0), .int (nI 10)]) (rest := []) ⟨hx, hb, hml, hown, hts⟩ (c_X6_in_neg l D cI cJ cZ x ((nI 10)) 0 hx0 (by omega)) (k_X6_79 hts ⟨Nat.le_of_ble_eq_true rfl, Nat.le_of_ble_eq_true rfl⟩) hK hP [] rfl rfl hl.1 rfl (Nat.le_of_ble_eq_true rfl) dX6_told_4 ⟨Nat.le_of_ble_eq_true rfl, Nat.le_of_ble_eq_true rfl⟩ ?_
  refine n_if_ne (tgt := 13) hx hb dX6_told_7 (by decide) (by decide) (fun h9 => absurd rfl h9) (fun _ => ?_)
  refine lv_ldc hx hb hown (hts _ mk_X6_83) dX6_told_10 ?_
  exact wr_iret hx hb hr hlk hP hD hS dX6_told_12 (⟨rfl, SO, q, EB, EA, EF, EW, EL, EU, br, WT, ww, rfl⟩)
set_option maxHeartbeats 4000000 in
set_option maxRecDepth 100000 in
theorem c_X6_told_big (l : Launch) (D : va_G) (cI cJ cZ : ClassId) (m0 nw ps im mk wd so mb ma mf mw ml mu wt ty : Nat) (NW : Nat → Nat) (PS : Nat → Nat) (u : Nat) (IM : Nat → Nat) (MK : Nat → Nat) (sd : Nat) (WD : Nat → Nat) (s : Nat) (SO : Nat → Nat) (q : Nat) (EB : Nat → Nat) (EA : Nat → Nat) (EF : Nat → Nat) (EW : Nat → Nat) (EL : Nat → Nat) (EU : Nat → Nat) (br : Nat) (WT : Nat → Nat) (ww : Nat) (TY : Nat → Nat) (KS KL KW : Nat → Nat) (n A : Nat) (hn : n ≤ 24) (hk : ∀ k, k < n → Wf (KS k) (KL k)) (hw0 : Wf s A) (hR : RN NW KS KL KW n) (hRW : RW WD s A) (hso : Srt KS KL n) (BB BD BM BL BF BA BK : Nat → Nat) (hTr : TrX (gapF KS KL) n BB BD BM BL BF BA BK) (hv : ∀ k, k < n → KW k ≤ 9999) (j : Nat) (hj : j < 2 ^ 31) (hjb : 10 < j) (sz : Nat) : WR l yX6_told cX6_told 4 (some .int) (rmN 6 133) D (ty3 cI cJ cZ) [.ref m0, .int (nI j)] [(m0, .inr (6, [.ref nw, .ref ps, .int (nI u), .ref im, .ref mk, .int (nI sd), .ref wd, .int (nI s), .ref so, .int (nI q), .ref mb, .ref ma, .ref mf, .ref mw, .ref ml, .ref mu, .int (nI br), .ref wt, .int (nI ww), .ref ty])), (nw, .inl (cI, 241, .inl (nF NW))), (ps, .inl (cI, 4820, .inl (nF PS))), (im, .inl (cI, 484, .inl (nF IM))), (mk, .inl (cZ, 2, .inl (nF MK))), (wd, .inl (cI, 8, .inl (nF WD))), (so, .inl (cI, 24, .inl (nF SO))), (mb, .inl (cI, 24, .inl (nF EB))), (ma, .inl (cI, 24, .inl (nF EA))), (mf, .inl (cI, 24, .inl (nF EF))), (mw, .inl (cI, 24, .inl (nF EW))), (ml, .inl (cI, 24, .inl (nF EL))), (mu, .inl (cI, 24, .inl (oF EU))), (wt, .inl (cI, 200, .inl (oF WT))), (ty, .inl (cI, 8, .inl (nF TY)))] sz (fun x w => x = some (.int (-1000000002)) ∧ ∃ (SO : Nat → Nat) (q : Nat) (EB EA EF EW EL EU : Nat → Nat) (br : Nat) (WT : Nat → Nat) (ww : Nat), w = [(m0, .inr (6, [.ref nw, .ref ps, .int (nI u), .ref im, .ref mk, .int (nI sd), .ref wd, .int (nI s), .ref so, .int (nI q), .ref mb, .ref ma, .ref mf, .ref mw, .ref ml, .ref mu, .int (nI br), .ref wt, .int (nI ww), .ref ty])), (nw, .inl (cI, 241, .inl (nF NW))), (ps, .inl (cI, 4820, .inl (nF PS))), (im, .inl (cI, 484, .inl (nF IM))), (mk, .inl (cZ, 2, .inl (nF MK))), (wd, .inl (cI, 8, .inl (nF WD))), (so, .inl (cI, 24, .inl (nF SO))), (mb, .inl (cI, 24, .inl (nF EB))), (ma, .inl (cI, 24, .inl (nF EA))), (mf, .inl (cI, 24, .inl (nF EF))), (mw, .inl (cI, 24, .inl (nF EW))), (ml, .inl (cI, 24, .inl (nF EL))), (mu, .inl (cI, 24, .inl (oF EU))), (wt, .inl (cI, 200, .inl (oF WT))), (ty, .inl (cI, 8, .inl (nF TY)))]) := by
  have hs8 := hw0.1
  have hA64 := hw0.2.1
  have hN0 := hR.1
  have hBK := tf_BK hTr hn
  have hDK := tf_DK hTr hn
  have hp := plc_le KS KL n s A
  have hcb := cbl_le KS KL n s A
  have hfl := fnd_le KS KL n s A
  refine wr_start (by decide) (Nat.le_of_ble_eq_true rfl) ?_
  intro pp ee ss mm below meth cd AA C0 hAA hP hK hD hS hN hnm ls hl
  obtain ⟨hx, hb, hr, hml, hown, hts, hlk⟩ := C0
  have hown : ss.vm.findClass RX6 = some mm.cls := hown
  have hl : lv_has ls 4 [(0, .ref m0), (1, .int (nI j))] := hl
  have hP : va_P D vwCl [(m0, .inr (6, [.ref nw, .ref ps, .int (nI u), .ref im, .ref mk, .int (nI sd), .ref wd, .int (nI s), .ref so, .int (nI q), .ref mb, .ref ma, .ref mf, .ref mw, .ref ml, .ref mu, .int (nI br), .ref wt, .int (nI ww), .ref ty])), (nw, .inl (cI, 241, .inl (nF NW))), (ps, .inl (cI, 4820, .inl (nF PS))), (im, .inl (cI, 484, .inl (nF IM))), (mk, .inl (cZ, 2, .inl (nF MK))), (wd, .inl (cI, 8, .inl (nF WD))), (so, .inl (cI, 24, .inl (nF SO))), (mb, .inl (cI, 24, .inl (nF EB))), (ma, .inl (cI, 24, .inl (nF EA))), (mf, .inl (cI, 24, .inl (nF EF))), (mw, .inl (cI, 24, .inl (nF EW))), (ml, .inl (cI, 24, .inl (nF EL))), (mu, .inl (cI, 24, .inl (oF EU))), (wt, .inl (cI, 200, .inl (oF WT))), (ty, .inl (cI, 8, .inl (nF TY)))] ss.heap := hP
  refine lv_iload_n hx hb dX6_told_0 rfl (lv_at hl 1 rfl) ?_
  refine lv_iconst (v := nI 0) hx hb dX6_told_1 (by decide +kernel) ?_
  refine lv_bipush (v := nI 10) hx hb dX6_told_2 (by decide +kernel) ?_
  refine ro_S (As := [.int (nI j), .int (nI 0), .int (nI 10)]) (rest := []) ⟨hx, hb, hml, hown, hts⟩ (c_X6_in l D cI cJ cZ j 0 10 (by omega) (by omega) (by omega)) (k_X6_79 hts ⟨Nat.le_of_ble_eq_true rfl, Nat.le_of_ble_eq_true rfl⟩) hK hP [] rfl rfl hl.1 rfl (Nat.le_of_ble_eq_true rfl) dX6_told_4 ⟨Nat.le_of_ble_eq_true rfl, Nat.le_of_ble_eq_true rfl⟩ ?_
  refine b_if_ne (tgt := 13) hx hb dX6_told_7 (by decide) (fun c1 => ?_) (fun c1 => ?_)
  ·
    exact absurd c1 (by omega)
  ·
    refine lv_ldc hx hb hown (hts _ mk_X6_83) dX6_told_10 ?_
    exact wr_iret hx hb hr hlk hP hD hS dX6_told_12 (⟨rfl, SO, q, EB, EA, EF, EW, EL, EU, br, WT, ww, rfl⟩)
set_option maxHeartbeats 4000000 in
set_option maxRecDepth 100000 in
theorem c_X6_told_0 (l : Launch) (D : va_G) (cI cJ cZ : ClassId) (m0 nw ps im mk wd so mb ma mf mw ml mu wt ty : Nat) (NW : Nat → Nat) (PS : Nat → Nat) (u : Nat) (IM : Nat → Nat) (MK : Nat → Nat) (sd : Nat) (WD : Nat → Nat) (s : Nat) (SO : Nat → Nat) (q : Nat) (EB : Nat → Nat) (EA : Nat → Nat) (EF : Nat → Nat) (EW : Nat → Nat) (EL : Nat → Nat) (EU : Nat → Nat) (br : Nat) (WT : Nat → Nat) (ww : Nat) (TY : Nat → Nat) (KS KL KW : Nat → Nat) (n A : Nat) (hn : n ≤ 24) (hk : ∀ k, k < n → Wf (KS k) (KL k)) (hw0 : Wf s A) (hR : RN NW KS KL KW n) (hRW : RW WD s A) (hso : Srt KS KL n) (BB BD BM BL BF BA BK : Nat → Nat) (hTr : TrX (gapF KS KL) n BB BD BM BL BF BA BK) (hv : ∀ k, k < n → KW k ≤ 9999)  (sz : Nat) : WR l yX6_told cX6_told 4 (some .int) (rmN 6 133) D (ty3 cI cJ cZ) [.ref m0, .int (nI 0)] [(m0, .inr (6, [.ref nw, .ref ps, .int (nI u), .ref im, .ref mk, .int (nI sd), .ref wd, .int (nI s), .ref so, .int (nI q), .ref mb, .ref ma, .ref mf, .ref mw, .ref ml, .ref mu, .int (nI br), .ref wt, .int (nI ww), .ref ty])), (nw, .inl (cI, 241, .inl (nF NW))), (ps, .inl (cI, 4820, .inl (nF PS))), (im, .inl (cI, 484, .inl (nF IM))), (mk, .inl (cZ, 2, .inl (nF MK))), (wd, .inl (cI, 8, .inl (nF WD))), (so, .inl (cI, 24, .inl (nF SO))), (mb, .inl (cI, 24, .inl (nF EB))), (ma, .inl (cI, 24, .inl (nF EA))), (mf, .inl (cI, 24, .inl (nF EF))), (mw, .inl (cI, 24, .inl (nF EW))), (ml, .inl (cI, 24, .inl (nF EL))), (mu, .inl (cI, 24, .inl (oF EU))), (wt, .inl (cI, 200, .inl (oF WT))), (ty, .inl (cI, 8, .inl (nF TY)))] sz (fun x w => x = some (.int (nI n)) ∧ ∃ (SO : Nat → Nat) (q : Nat) (EB EA EF EW EL EU : Nat → Nat) (br : Nat) (WT : Nat → Nat) (ww : Nat), w = [(m0, .inr (6, [.ref nw, .ref ps, .int (nI u), .ref im, .ref mk, .int (nI sd), .ref wd, .int (nI s), .ref so, .int (nI q), .ref mb, .ref ma, .ref mf, .ref mw, .ref ml, .ref mu, .int (nI br), .ref wt, .int (nI ww), .ref ty])), (nw, .inl (cI, 241, .inl (nF NW))), (ps, .inl (cI, 4820, .inl (nF PS))), (im, .inl (cI, 484, .inl (nF IM))), (mk, .inl (cZ, 2, .inl (nF MK))), (wd, .inl (cI, 8, .inl (nF WD))), (so, .inl (cI, 24, .inl (nF SO))), (mb, .inl (cI, 24, .inl (nF EB))), (ma, .inl (cI, 24, .inl (nF EA))), (mf, .inl (cI, 24, .inl (nF EF))), (mw, .inl (cI, 24, .inl (nF EW))), (ml, .inl (cI, 24, .inl (nF EL))), (mu, .inl (cI, 24, .inl (oF EU))), (wt, .inl (cI, 200, .inl (oF WT))), (ty, .inl (cI, 8, .inl (nF TY)))]) := by
  have hs8 := hw0.1
  have hA64 := hw0.2.1
  have hN0 := hR.1
  have hBK := tf_BK hTr hn
  have hDK := tf_DK hTr hn
  have hp := plc_le KS KL n s A
  have hcb := cbl_le KS KL n s A
  have hfl := fnd_le KS KL n s A
  refine wr_start (by decide) (Nat.le_of_ble_eq_true rfl) ?_
  intro pp ee ss mm below meth cd AA C0 hAA hP hK hD hS hN hnm ls hl
  obtain ⟨hx, hb, hr, hml, hown, hts, hlk⟩ := C0
  have hown : ss.vm.findClass RX6 = some mm.cls := hown
  have hl : lv_has ls 4 [(0, .ref m0), (1, .int (nI 0))] := hl
  have hP : va_P D vwCl [(m0, .inr (6, [.ref nw, .ref ps, .int (nI u), .ref im, .ref mk, .int (nI sd), .ref wd, .int (nI s), .ref so, .int (nI q), .ref mb, .ref ma, .ref mf, .ref mw, .ref ml, .ref mu, .int (nI br), .ref wt, .int (nI ww), .ref ty])), (nw, .inl (cI, 241, .inl (nF NW))), (ps, .inl (cI, 4820, .inl (nF PS))), (im, .inl (cI, 484, .inl (nF IM))), (mk, .inl (cZ, 2, .inl (nF MK))), (wd, .inl (cI, 8, .inl (nF WD))), (so, .inl (cI, 24, .inl (nF SO))), (mb, .inl (cI, 24, .inl (nF EB))), (ma, .inl (cI, 24, .inl (nF EA))), (mf, .inl (cI, 24, .inl (nF EF))), (mw, .inl (cI, 24, .inl (nF EW))), (ml, .inl (cI, 24, .inl (nF EL))), (mu, .inl (cI, 24, .inl (oF EU))), (wt, .inl (cI, 200, .inl (oF WT))), (ty, .inl (cI, 8, .inl (nF TY)))] ss.heap := hP
  refine lv_iload_n hx hb dX6_told_0 rfl (lv_at hl 1 rfl) ?_
  refine lv_iconst (v := nI 0) hx hb dX6_told_1 (by decide +kernel) ?_
  refine lv_bipush (v := nI 10) hx hb dX6_told_2 (by decide +kernel) ?_
  refine ro_S (As := [.int (nI 0), .int (nI 0), .int (nI 10)]) (rest := []) ⟨hx, hb, hml, hown, hts⟩ (c_X6_in l D cI cJ cZ 0 0 10 (by omega) (by omega) (by omega)) (k_X6_79 hts ⟨Nat.le_of_ble_eq_true rfl, Nat.le_of_ble_eq_true rfl⟩) hK hP [] rfl rfl hl.1 rfl (Nat.le_of_ble_eq_true rfl) dX6_told_4 ⟨Nat.le_of_ble_eq_true rfl, Nat.le_of_ble_eq_true rfl⟩ ?_
  refine b_if_ne (tgt := 13) hx hb dX6_told_7 (by decide) (fun c1 => ?_) (fun c1 => ?_)
  ·
    refine lv_aload_n hx hb dX6_told_13 rfl (lv_at hl 0 rfl) ?_
    refine lv_iconst (v := oI 0) hx hb dX6_told_14 (by decide +kernel) ?_
    refine wr_V (As := [.int (oI 0)]) (rest := []) (wc := [(m0, .inr (6, [.ref nw, .ref ps, .int (nI u), .ref im, .ref mk, .int (nI sd), .ref wd, .int (nI s), .ref so, .int (nI q), .ref mb, .ref ma, .ref mf, .ref mw, .ref ml, .ref mu, .int (nI br), .ref wt, .int (nI ww), .ref ty])), (nw, .inl (cI, 241, .inl (nF NW))), (ps, .inl (cI, 4820, .inl (nF PS))), (im, .inl (cI, 484, .inl (nF IM))), (mk, .inl (cZ, 2, .inl (nF MK))), (wd, .inl (cI, 8, .inl (nF WD))), (so, .inl (cI, 24, .inl (nF SO))), (mb, .inl (cI, 24, .inl (nF EB))), (ma, .inl (cI, 24, .inl (nF EA))), (mf, .inl (cI, 24, .inl (nF EF))), (mw, .inl (cI, 24, .inl (nF EW))), (ml, .inl (cI, 24, .inl (nF EL))), (mu, .inl (cI, 24, .inl (oF EU))), (wt, .inl (cI, 200, .inl (oF WT))), (ty, .inl (cI, 8, .inl (nF TY)))]) (wr := []) ⟨hx, hb, hml, hown, hts⟩ (c_X6_findsBut_all l D cI cJ cZ m0 nw ps im mk wd so mb ma mf mw ml mu wt ty NW PS u IM MK sd WD s SO q EB EA EF EW EL EU br WT ww TY KS KL KW n A hn hk hw0 hR hRW hso _) (k_X6_119 hts ⟨Nat.le_of_ble_eq_true rfl, Nat.le_of_ble_eq_true rfl⟩) hK hN hP hD hS hAA 0 rfl rfl rfl [0, 1, 2, 3, 4, 5, 6, 7, 8, 9, 10, 11, 12, 13, 14] [] rfl rfl (by decide) (by decide) (by decide) rfl hl.1 rfl (Nat.le_of_ble_eq_true rfl) dX6_told_15 ⟨Nat.le_of_ble_eq_true rfl, Nat.le_of_ble_eq_true rfl⟩ (fun v4 w5 H locs hp3 hP hD hS => ?_)
    obtain ⟨rfl, SOh2, EBh2, EAh2, EFh2, EWh2, ELh2, EUh2, WTh2, rfl, hTmh2⟩ := hp3
    have hE : ∀ b, b < n - 1 → EFh2 b ≤ 24 ∧ 1 ≤ EWh2 b ∧ EWh2 b ≤ 24 := fun b hb2 => by have := tm_in hTmh2 (b := b) (by omega); omega
    have hTm := hTmh2
    have hP : va_P D vwCl [(m0, .inr (6, [.ref nw, .ref ps, .int (nI u), .ref im, .ref mk, .int (nI sd), .ref wd, .int (nI s), .ref so, .int (nI n), .ref mb, .ref ma, .ref mf, .ref mw, .ref ml, .ref mu, .int (nI (n - 1)), .ref wt, .int (nI 0), .ref ty])), (nw, .inl (cI, 241, .inl (nF NW))), (ps, .inl (cI, 4820, .inl (nF PS))), (im, .inl (cI, 484, .inl (nF IM))), (mk, .inl (cZ, 2, .inl (nF MK))), (wd, .inl (cI, 8, .inl (nF WD))), (so, .inl (cI, 24, .inl (nF SOh2))), (mb, .inl (cI, 24, .inl (nF EBh2))), (ma, .inl (cI, 24, .inl (nF EAh2))), (mf, .inl (cI, 24, .inl (nF EFh2))), (mw, .inl (cI, 24, .inl (nF EWh2))), (ml, .inl (cI, 24, .inl (nF ELh2))), (mu, .inl (cI, 24, .inl (oF EUh2))), (wt, .inl (cI, 200, .inl (oF WTh2))), (ty, .inl (cI, 8, .inl (nF TY)))] H := hP.sub [0, 1, 2, 3, 4, 5, 6, 7, 8, 9, 10, 11, 12, 13, 14] rfl
    have hD : va_D AA [(m0, .inr (6, [.ref nw, .ref ps, .int (nI u), .ref im, .ref mk, .int (nI sd), .ref wd, .int (nI s), .ref so, .int (nI n), .ref mb, .ref ma, .ref mf, .ref mw, .ref ml, .ref mu, .int (nI (n - 1)), .ref wt, .int (nI 0), .ref ty])), (nw, .inl (cI, 241, .inl (nF NW))), (ps, .inl (cI, 4820, .inl (nF PS))), (im, .inl (cI, 484, .inl (nF IM))), (mk, .inl (cZ, 2, .inl (nF MK))), (wd, .inl (cI, 8, .inl (nF WD))), (so, .inl (cI, 24, .inl (nF SOh2))), (mb, .inl (cI, 24, .inl (nF EBh2))), (ma, .inl (cI, 24, .inl (nF EAh2))), (mf, .inl (cI, 24, .inl (nF EFh2))), (mw, .inl (cI, 24, .inl (nF EWh2))), (ml, .inl (cI, 24, .inl (nF ELh2))), (mu, .inl (cI, 24, .inl (oF EUh2))), (wt, .inl (cI, 200, .inl (oF WTh2))), (ty, .inl (cI, 8, .inl (nF TY)))] := hD.sub [0, 1, 2, 3, 4, 5, 6, 7, 8, 9, 10, 11, 12, 13, 14] (by decide) rfl
    refine lv_iload_n hx hb dX6_told_18 rfl (lv_at hl 1 rfl) ?_
    refine lv_tableIn (tgt := 72) (off := 53) hx hb dX6_told_19 (by decide +kernel) (by decide +kernel) (by decide +kernel) (by decide) ?_
    refine lv_aload_n hx hb dX6_told_72 rfl (lv_at hl 0 rfl) ?_
    refine va_get (D := D) (ci := 6) (v := .ref nw) (C := RX6) (T := TX6) (N := 20) hx hb hts inX6 hown hK hP 0 rfl rfl 0 (by decide) (hts _ mf_X6_7) (fun _ h9 => h9) rfl dX6_told_73 ?_
    refine lv_iconst (v := nI 0) hx hb dX6_told_76 (by decide +kernel) ?_
    refine n_iald hx hb hK hP 1 0 rfl rfl (k := 0) (by omega) (by decide) dX6_told_77 ?_
    refine tq (y := nI n) (congrArg nI (hN0)) ?_
    exact wr_iret hx hb hr hlk hP hD hS dX6_told_78 (⟨rfl, SOh2, n, EBh2, EAh2, EFh2, EWh2, ELh2, EUh2, n - 1, WTh2, 0, rfl⟩)
  ·
    exact (c1 (by decide)).elim
set_option maxHeartbeats 4000000 in
set_option maxRecDepth 100000 in
theorem c_X6_told_1 (l : Launch) (D : va_G) (cI cJ cZ : ClassId) (m0 nw ps im mk wd so mb ma mf mw ml mu wt ty : Nat) (NW : Nat → Nat) (PS : Nat → Nat) (u : Nat) (IM : Nat → Nat) (MK : Nat → Nat) (sd : Nat) (WD : Nat → Nat) (s : Nat) (SO : Nat → Nat) (q : Nat) (EB : Nat → Nat) (EA : Nat → Nat) (EF : Nat → Nat) (EW : Nat → Nat) (EL : Nat → Nat) (EU : Nat → Nat) (br : Nat) (WT : Nat → Nat) (ww : Nat) (TY : Nat → Nat) (KS KL KW : Nat → Nat) (n A : Nat) (hn : n ≤ 24) (hk : ∀ k, k < n → Wf (KS k) (KL k)) (hw0 : Wf s A) (hR : RN NW KS KL KW n) (hRW : RW WD s A) (hso : Srt KS KL n) (BB BD BM BL BF BA BK : Nat → Nat) (hTr : TrX (gapF KS KL) n BB BD BM BL BF BA BK) (hv : ∀ k, k < n → KW k ≤ 9999)  (sz : Nat) : WR l yX6_told cX6_told 4 (some .int) (rmN 6 133) D (ty3 cI cJ cZ) [.ref m0, .int (nI 1)] [(m0, .inr (6, [.ref nw, .ref ps, .int (nI u), .ref im, .ref mk, .int (nI sd), .ref wd, .int (nI s), .ref so, .int (nI q), .ref mb, .ref ma, .ref mf, .ref mw, .ref ml, .ref mu, .int (nI br), .ref wt, .int (nI ww), .ref ty])), (nw, .inl (cI, 241, .inl (nF NW))), (ps, .inl (cI, 4820, .inl (nF PS))), (im, .inl (cI, 484, .inl (nF IM))), (mk, .inl (cZ, 2, .inl (nF MK))), (wd, .inl (cI, 8, .inl (nF WD))), (so, .inl (cI, 24, .inl (nF SO))), (mb, .inl (cI, 24, .inl (nF EB))), (ma, .inl (cI, 24, .inl (nF EA))), (mf, .inl (cI, 24, .inl (nF EF))), (mw, .inl (cI, 24, .inl (nF EW))), (ml, .inl (cI, 24, .inl (nF EL))), (mu, .inl (cI, 24, .inl (oF EU))), (wt, .inl (cI, 200, .inl (oF WT))), (ty, .inl (cI, 8, .inl (nF TY)))] sz (fun x w => x = some (.int (nI (n - 1))) ∧ ∃ (SO : Nat → Nat) (q : Nat) (EB EA EF EW EL EU : Nat → Nat) (br : Nat) (WT : Nat → Nat) (ww : Nat), w = [(m0, .inr (6, [.ref nw, .ref ps, .int (nI u), .ref im, .ref mk, .int (nI sd), .ref wd, .int (nI s), .ref so, .int (nI q), .ref mb, .ref ma, .ref mf, .ref mw, .ref ml, .ref mu, .int (nI br), .ref wt, .int (nI ww), .ref ty])), (nw, .inl (cI, 241, .inl (nF NW))), (ps, .inl (cI, 4820, .inl (nF PS))), (im, .inl (cI, 484, .inl (nF IM))), (mk, .inl (cZ, 2, .inl (nF MK))), (wd, .inl (cI, 8, .inl (nF WD))), (so, .inl (cI, 24, .inl (nF SO))), (mb, .inl (cI, 24, .inl (nF EB))), (ma, .inl (cI, 24, .inl (nF EA))), (mf, .inl (cI, 24, .inl (nF EF))), (mw, .inl (cI, 24, .inl (nF EW))), (ml, .inl (cI, 24, .inl (nF EL))), (mu, .inl (cI, 24, .inl (oF EU))), (wt, .inl (cI, 200, .inl (oF WT))), (ty, .inl (cI, 8, .inl (nF TY)))]) := by
  have hs8 := hw0.1
  have hA64 := hw0.2.1
  have hN0 := hR.1
  have hBK := tf_BK hTr hn
  have hDK := tf_DK hTr hn
  have hp := plc_le KS KL n s A
  have hcb := cbl_le KS KL n s A
  have hfl := fnd_le KS KL n s A
  refine wr_start (by decide) (Nat.le_of_ble_eq_true rfl) ?_
  intro pp ee ss mm below meth cd AA C0 hAA hP hK hD hS hN hnm ls hl
  obtain ⟨hx, hb, hr, hml, hown, hts, hlk⟩ := C0
  have hown : ss.vm.findClass RX6 = some mm.cls := hown
  have hl : lv_has ls 4 [(0, .ref m0), (1, .int (nI 1))] := hl
  have hP : va_P D vwCl [(m0, .inr (6, [.ref nw, .ref ps, .int (nI u), .ref im, .ref mk, .int (nI sd), .ref wd, .int (nI s), .ref so, .int (nI q), .ref mb, .ref ma, .ref mf, .ref mw, .ref ml, .ref mu, .int (nI br), .ref wt, .int (nI ww), .ref ty])), (nw, .inl (cI, 241, .inl (nF NW))), (ps, .inl (cI, 4820, .inl (nF PS))), (im, .inl (cI, 484, .inl (nF IM))), (mk, .inl (cZ, 2, .inl (nF MK))), (wd, .inl (cI, 8, .inl (nF WD))), (so, .inl (cI, 24, .inl (nF SO))), (mb, .inl (cI, 24, .inl (nF EB))), (ma, .inl (cI, 24, .inl (nF EA))), (mf, .inl (cI, 24, .inl (nF EF))), (mw, .inl (cI, 24, .inl (nF EW))), (ml, .inl (cI, 24, .inl (nF EL))), (mu, .inl (cI, 24, .inl (oF EU))), (wt, .inl (cI, 200, .inl (oF WT))), (ty, .inl (cI, 8, .inl (nF TY)))] ss.heap := hP
  refine lv_iload_n hx hb dX6_told_0 rfl (lv_at hl 1 rfl) ?_
  refine lv_iconst (v := nI 0) hx hb dX6_told_1 (by decide +kernel) ?_
  refine lv_bipush (v := nI 10) hx hb dX6_told_2 (by decide +kernel) ?_
  refine ro_S (As := [.int (nI 1), .int (nI 0), .int (nI 10)]) (rest := []) ⟨hx, hb, hml, hown, hts⟩ (c_X6_in l D cI cJ cZ 1 0 10 (by omega) (by omega) (by omega)) (k_X6_79 hts ⟨Nat.le_of_ble_eq_true rfl, Nat.le_of_ble_eq_true rfl⟩) hK hP [] rfl rfl hl.1 rfl (Nat.le_of_ble_eq_true rfl) dX6_told_4 ⟨Nat.le_of_ble_eq_true rfl, Nat.le_of_ble_eq_true rfl⟩ ?_
  refine b_if_ne (tgt := 13) hx hb dX6_told_7 (by decide) (fun c1 => ?_) (fun c1 => ?_)
  ·
    refine lv_aload_n hx hb dX6_told_13 rfl (lv_at hl 0 rfl) ?_
    refine lv_iconst (v := oI 0) hx hb dX6_told_14 (by decide +kernel) ?_
    refine wr_V (As := [.int (oI 0)]) (rest := []) (wc := [(m0, .inr (6, [.ref nw, .ref ps, .int (nI u), .ref im, .ref mk, .int (nI sd), .ref wd, .int (nI s), .ref so, .int (nI q), .ref mb, .ref ma, .ref mf, .ref mw, .ref ml, .ref mu, .int (nI br), .ref wt, .int (nI ww), .ref ty])), (nw, .inl (cI, 241, .inl (nF NW))), (ps, .inl (cI, 4820, .inl (nF PS))), (im, .inl (cI, 484, .inl (nF IM))), (mk, .inl (cZ, 2, .inl (nF MK))), (wd, .inl (cI, 8, .inl (nF WD))), (so, .inl (cI, 24, .inl (nF SO))), (mb, .inl (cI, 24, .inl (nF EB))), (ma, .inl (cI, 24, .inl (nF EA))), (mf, .inl (cI, 24, .inl (nF EF))), (mw, .inl (cI, 24, .inl (nF EW))), (ml, .inl (cI, 24, .inl (nF EL))), (mu, .inl (cI, 24, .inl (oF EU))), (wt, .inl (cI, 200, .inl (oF WT))), (ty, .inl (cI, 8, .inl (nF TY)))]) (wr := []) ⟨hx, hb, hml, hown, hts⟩ (c_X6_findsBut_all l D cI cJ cZ m0 nw ps im mk wd so mb ma mf mw ml mu wt ty NW PS u IM MK sd WD s SO q EB EA EF EW EL EU br WT ww TY KS KL KW n A hn hk hw0 hR hRW hso _) (k_X6_119 hts ⟨Nat.le_of_ble_eq_true rfl, Nat.le_of_ble_eq_true rfl⟩) hK hN hP hD hS hAA 0 rfl rfl rfl [0, 1, 2, 3, 4, 5, 6, 7, 8, 9, 10, 11, 12, 13, 14] [] rfl rfl (by decide) (by decide) (by decide) rfl hl.1 rfl (Nat.le_of_ble_eq_true rfl) dX6_told_15 ⟨Nat.le_of_ble_eq_true rfl, Nat.le_of_ble_eq_true rfl⟩ (fun v4 w5 H locs hp3 hP hD hS => ?_)
    obtain ⟨rfl, SOh2, EBh2, EAh2, EFh2, EWh2, ELh2, EUh2, WTh2, rfl, hTmh2⟩ := hp3
    have hE : ∀ b, b < n - 1 → EFh2 b ≤ 24 ∧ 1 ≤ EWh2 b ∧ EWh2 b ≤ 24 := fun b hb2 => by have := tm_in hTmh2 (b := b) (by omega); omega
    have hTm := hTmh2
    have hP : va_P D vwCl [(m0, .inr (6, [.ref nw, .ref ps, .int (nI u), .ref im, .ref mk, .int (nI sd), .ref wd, .int (nI s), .ref so, .int (nI n), .ref mb, .ref ma, .ref mf, .ref mw, .ref ml, .ref mu, .int (nI (n - 1)), .ref wt, .int (nI 0), .ref ty])), (nw, .inl (cI, 241, .inl (nF NW))), (ps, .inl (cI, 4820, .inl (nF PS))), (im, .inl (cI, 484, .inl (nF IM))), (mk, .inl (cZ, 2, .inl (nF MK))), (wd, .inl (cI, 8, .inl (nF WD))), (so, .inl (cI, 24, .inl (nF SOh2))), (mb, .inl (cI, 24, .inl (nF EBh2))), (ma, .inl (cI, 24, .inl (nF EAh2))), (mf, .inl (cI, 24, .inl (nF EFh2))), (mw, .inl (cI, 24, .inl (nF EWh2))), (ml, .inl (cI, 24, .inl (nF ELh2))), (mu, .inl (cI, 24, .inl (oF EUh2))), (wt, .inl (cI, 200, .inl (oF WTh2))), (ty, .inl (cI, 8, .inl (nF TY)))] H := hP.sub [0, 1, 2, 3, 4, 5, 6, 7, 8, 9, 10, 11, 12, 13, 14] rfl
    have hD : va_D AA [(m0, .inr (6, [.ref nw, .ref ps, .int (nI u), .ref im, .ref mk, .int (nI sd), .ref wd, .int (nI s), .ref so, .int (nI n), .ref mb, .ref ma, .ref mf, .ref mw, .ref ml, .ref mu, .int (nI (n - 1)), .ref wt, .int (nI 0), .ref ty])), (nw, .inl (cI, 241, .inl (nF NW))), (ps, .inl (cI, 4820, .inl (nF PS))), (im, .inl (cI, 484, .inl (nF IM))), (mk, .inl (cZ, 2, .inl (nF MK))), (wd, .inl (cI, 8, .inl (nF WD))), (so, .inl (cI, 24, .inl (nF SOh2))), (mb, .inl (cI, 24, .inl (nF EBh2))), (ma, .inl (cI, 24, .inl (nF EAh2))), (mf, .inl (cI, 24, .inl (nF EFh2))), (mw, .inl (cI, 24, .inl (nF EWh2))), (ml, .inl (cI, 24, .inl (nF ELh2))), (mu, .inl (cI, 24, .inl (oF EUh2))), (wt, .inl (cI, 200, .inl (oF WTh2))), (ty, .inl (cI, 8, .inl (nF TY)))] := hD.sub [0, 1, 2, 3, 4, 5, 6, 7, 8, 9, 10, 11, 12, 13, 14] (by decide) rfl
    refine lv_iload_n hx hb dX6_told_18 rfl (lv_at hl 1 rfl) ?_
    refine lv_tableIn (tgt := 79) (off := 60) hx hb dX6_told_19 (by decide +kernel) (by decide +kernel) (by decide +kernel) (by decide) ?_
    refine lv_aload_n hx hb dX6_told_79 rfl (lv_at hl 0 rfl) ?_
    refine va_get (D := D) (ci := 6) (v := .int (nI (n - 1))) (C := RX6) (T := TX6) (N := 20) hx hb hts inX6 hown hK hP 0 rfl rfl 16 (by decide) (hts _ mf_X6_97) (fun _ h9 => h9) rfl dX6_told_80 ?_
    exact wr_iret hx hb hr hlk hP hD hS dX6_told_83 (⟨rfl, SOh2, n, EBh2, EAh2, EFh2, EWh2, ELh2, EUh2, n - 1, WTh2, 0, rfl⟩)
  ·
    exact (c1 (by decide)).elim
set_option maxHeartbeats 4000000 in
set_option maxRecDepth 100000 in
theorem c_X6_told_2 (l : Launch) (D : va_G) (cI cJ cZ : ClassId) (m0 nw ps im mk wd so mb ma mf mw ml mu wt ty : Nat) (NW : Nat → Nat) (PS : Nat → Nat) (u : Nat) (IM : Nat → Nat) (MK : Nat → Nat) (sd : Nat) (WD : Nat → Nat) (s : Nat) (SO : Nat → Nat) (q : Nat) (EB : Nat → Nat) (EA : Nat → Nat) (EF : Nat → Nat) (EW : Nat → Nat) (EL : Nat → Nat) (EU : Nat → Nat) (br : Nat) (WT : Nat → Nat) (ww : Nat) (TY : Nat → Nat) (KS KL KW : Nat → Nat) (n A : Nat) (hn : n ≤ 24) (hk : ∀ k, k < n → Wf (KS k) (KL k)) (hw0 : Wf s A) (hR : RN NW KS KL KW n) (hRW : RW WD s A) (hso : Srt KS KL n) (BB BD BM BL BF BA BK : Nat → Nat) (hTr : TrX (gapF KS KL) n BB BD BM BL BF BA BK) (hv : ∀ k, k < n → KW k ≤ 9999)  (sz : Nat) : WR l yX6_told cX6_told 4 (some .int) (rmN 6 133) D (ty3 cI cJ cZ) [.ref m0, .int (nI 2)] [(m0, .inr (6, [.ref nw, .ref ps, .int (nI u), .ref im, .ref mk, .int (nI sd), .ref wd, .int (nI s), .ref so, .int (nI q), .ref mb, .ref ma, .ref mf, .ref mw, .ref ml, .ref mu, .int (nI br), .ref wt, .int (nI ww), .ref ty])), (nw, .inl (cI, 241, .inl (nF NW))), (ps, .inl (cI, 4820, .inl (nF PS))), (im, .inl (cI, 484, .inl (nF IM))), (mk, .inl (cZ, 2, .inl (nF MK))), (wd, .inl (cI, 8, .inl (nF WD))), (so, .inl (cI, 24, .inl (nF SO))), (mb, .inl (cI, 24, .inl (nF EB))), (ma, .inl (cI, 24, .inl (nF EA))), (mf, .inl (cI, 24, .inl (nF EF))), (mw, .inl (cI, 24, .inl (nF EW))), (ml, .inl (cI, 24, .inl (nF EL))), (mu, .inl (cI, 24, .inl (oF EU))), (wt, .inl (cI, 200, .inl (oF WT))), (ty, .inl (cI, 8, .inl (nF TY)))] sz (fun x w => x = some (.int (nI s)) ∧ ∃ (SO : Nat → Nat) (q : Nat) (EB EA EF EW EL EU : Nat → Nat) (br : Nat) (WT : Nat → Nat) (ww : Nat), w = [(m0, .inr (6, [.ref nw, .ref ps, .int (nI u), .ref im, .ref mk, .int (nI sd), .ref wd, .int (nI s), .ref so, .int (nI q), .ref mb, .ref ma, .ref mf, .ref mw, .ref ml, .ref mu, .int (nI br), .ref wt, .int (nI ww), .ref ty])), (nw, .inl (cI, 241, .inl (nF NW))), (ps, .inl (cI, 4820, .inl (nF PS))), (im, .inl (cI, 484, .inl (nF IM))), (mk, .inl (cZ, 2, .inl (nF MK))), (wd, .inl (cI, 8, .inl (nF WD))), (so, .inl (cI, 24, .inl (nF SO))), (mb, .inl (cI, 24, .inl (nF EB))), (ma, .inl (cI, 24, .inl (nF EA))), (mf, .inl (cI, 24, .inl (nF EF))), (mw, .inl (cI, 24, .inl (nF EW))), (ml, .inl (cI, 24, .inl (nF EL))), (mu, .inl (cI, 24, .inl (oF EU))), (wt, .inl (cI, 200, .inl (oF WT))), (ty, .inl (cI, 8, .inl (nF TY)))]) := by
  have hs8 := hw0.1
  have hA64 := hw0.2.1
  have hN0 := hR.1
  have hBK := tf_BK hTr hn
  have hDK := tf_DK hTr hn
  have hp := plc_le KS KL n s A
  have hcb := cbl_le KS KL n s A
  have hfl := fnd_le KS KL n s A
  refine wr_start (by decide) (Nat.le_of_ble_eq_true rfl) ?_
  intro pp ee ss mm below meth cd AA C0 hAA hP hK hD hS hN hnm ls hl
  obtain ⟨hx, hb, hr, hml, hown, hts, hlk⟩ := C0
  have hown : ss.vm.findClass RX6 = some mm.cls := hown
  have hl : lv_has ls 4 [(0, .ref m0), (1, .int (nI 2))] := hl
  have hP : va_P D vwCl [(m0, .inr (6, [.ref nw, .ref ps, .int (nI u), .ref im, .ref mk, .int (nI sd), .ref wd, .int (nI s), .ref so, .int (nI q), .ref mb, .ref ma, .ref mf, .ref mw, .ref ml, .ref mu, .int (nI br), .ref wt, .int (nI ww), .ref ty])), (nw, .inl (cI, 241, .inl (nF NW))), (ps, .inl (cI, 4820, .inl (nF PS))), (im, .inl (cI, 484, .inl (nF IM))), (mk, .inl (cZ, 2, .inl (nF MK))), (wd, .inl (cI, 8, .inl (nF WD))), (so, .inl (cI, 24, .inl (nF SO))), (mb, .inl (cI, 24, .inl (nF EB))), (ma, .inl (cI, 24, .inl (nF EA))), (mf, .inl (cI, 24, .inl (nF EF))), (mw, .inl (cI, 24, .inl (nF EW))), (ml, .inl (cI, 24, .inl (nF EL))), (mu, .inl (cI, 24, .inl (oF EU))), (wt, .inl (cI, 200, .inl (oF WT))), (ty, .inl (cI, 8, .inl (nF TY)))] ss.heap := hP
  refine lv_iload_n hx hb dX6_told_0 rfl (lv_at hl 1 rfl) ?_
  refine lv_iconst (v := nI 0) hx hb dX6_told_1 (by decide +kernel) ?_
  refine lv_bipush (v := nI 10) hx hb dX6_told_2 (by decide +kernel) ?_
  refine ro_S (As := [.int (nI 2), .int (nI 0), .int (nI 10)]) (rest := []) ⟨hx, hb, hml, hown, hts⟩ (c_X6_in l D cI cJ cZ 2 0 10 (by omega) (by omega) (by omega)) (k_X6_79 hts ⟨Nat.le_of_ble_eq_true rfl, Nat.le_of_ble_eq_true rfl⟩) hK hP [] rfl rfl hl.1 rfl (Nat.le_of_ble_eq_true rfl) dX6_told_4 ⟨Nat.le_of_ble_eq_true rfl, Nat.le_of_ble_eq_true rfl⟩ ?_
  refine b_if_ne (tgt := 13) hx hb dX6_told_7 (by decide) (fun c1 => ?_) (fun c1 => ?_)
  ·
    refine lv_aload_n hx hb dX6_told_13 rfl (lv_at hl 0 rfl) ?_
    refine lv_iconst (v := oI 0) hx hb dX6_told_14 (by decide +kernel) ?_
    refine wr_V (As := [.int (oI 0)]) (rest := []) (wc := [(m0, .inr (6, [.ref nw, .ref ps, .int (nI u), .ref im, .ref mk, .int (nI sd), .ref wd, .int (nI s), .ref so, .int (nI q), .ref mb, .ref ma, .ref mf, .ref mw, .ref ml, .ref mu, .int (nI br), .ref wt, .int (nI ww), .ref ty])), (nw, .inl (cI, 241, .inl (nF NW))), (ps, .inl (cI, 4820, .inl (nF PS))), (im, .inl (cI, 484, .inl (nF IM))), (mk, .inl (cZ, 2, .inl (nF MK))), (wd, .inl (cI, 8, .inl (nF WD))), (so, .inl (cI, 24, .inl (nF SO))), (mb, .inl (cI, 24, .inl (nF EB))), (ma, .inl (cI, 24, .inl (nF EA))), (mf, .inl (cI, 24, .inl (nF EF))), (mw, .inl (cI, 24, .inl (nF EW))), (ml, .inl (cI, 24, .inl (nF EL))), (mu, .inl (cI, 24, .inl (oF EU))), (wt, .inl (cI, 200, .inl (oF WT))), (ty, .inl (cI, 8, .inl (nF TY)))]) (wr := []) ⟨hx, hb, hml, hown, hts⟩ (c_X6_findsBut_all l D cI cJ cZ m0 nw ps im mk wd so mb ma mf mw ml mu wt ty NW PS u IM MK sd WD s SO q EB EA EF EW EL EU br WT ww TY KS KL KW n A hn hk hw0 hR hRW hso _) (k_X6_119 hts ⟨Nat.le_of_ble_eq_true rfl, Nat.le_of_ble_eq_true rfl⟩) hK hN hP hD hS hAA 0 rfl rfl rfl [0, 1, 2, 3, 4, 5, 6, 7, 8, 9, 10, 11, 12, 13, 14] [] rfl rfl (by decide) (by decide) (by decide) rfl hl.1 rfl (Nat.le_of_ble_eq_true rfl) dX6_told_15 ⟨Nat.le_of_ble_eq_true rfl, Nat.le_of_ble_eq_true rfl⟩ (fun v4 w5 H locs hp3 hP hD hS => ?_)
    obtain ⟨rfl, SOh2, EBh2, EAh2, EFh2, EWh2, ELh2, EUh2, WTh2, rfl, hTmh2⟩ := hp3
    have hE : ∀ b, b < n - 1 → EFh2 b ≤ 24 ∧ 1 ≤ EWh2 b ∧ EWh2 b ≤ 24 := fun b hb2 => by have := tm_in hTmh2 (b := b) (by omega); omega
    have hTm := hTmh2
    have hP : va_P D vwCl [(m0, .inr (6, [.ref nw, .ref ps, .int (nI u), .ref im, .ref mk, .int (nI sd), .ref wd, .int (nI s), .ref so, .int (nI n), .ref mb, .ref ma, .ref mf, .ref mw, .ref ml, .ref mu, .int (nI (n - 1)), .ref wt, .int (nI 0), .ref ty])), (nw, .inl (cI, 241, .inl (nF NW))), (ps, .inl (cI, 4820, .inl (nF PS))), (im, .inl (cI, 484, .inl (nF IM))), (mk, .inl (cZ, 2, .inl (nF MK))), (wd, .inl (cI, 8, .inl (nF WD))), (so, .inl (cI, 24, .inl (nF SOh2))), (mb, .inl (cI, 24, .inl (nF EBh2))), (ma, .inl (cI, 24, .inl (nF EAh2))), (mf, .inl (cI, 24, .inl (nF EFh2))), (mw, .inl (cI, 24, .inl (nF EWh2))), (ml, .inl (cI, 24, .inl (nF ELh2))), (mu, .inl (cI, 24, .inl (oF EUh2))), (wt, .inl (cI, 200, .inl (oF WTh2))), (ty, .inl (cI, 8, .inl (nF TY)))] H := hP.sub [0, 1, 2, 3, 4, 5, 6, 7, 8, 9, 10, 11, 12, 13, 14] rfl
    have hD : va_D AA [(m0, .inr (6, [.ref nw, .ref ps, .int (nI u), .ref im, .ref mk, .int (nI sd), .ref wd, .int (nI s), .ref so, .int (nI n), .ref mb, .ref ma, .ref mf, .ref mw, .ref ml, .ref mu, .int (nI (n - 1)), .ref wt, .int (nI 0), .ref ty])), (nw, .inl (cI, 241, .inl (nF NW))), (ps, .inl (cI, 4820, .inl (nF PS))), (im, .inl (cI, 484, .inl (nF IM))), (mk, .inl (cZ, 2, .inl (nF MK))), (wd, .inl (cI, 8, .inl (nF WD))), (so, .inl (cI, 24, .inl (nF SOh2))), (mb, .inl (cI, 24, .inl (nF EBh2))), (ma, .inl (cI, 24, .inl (nF EAh2))), (mf, .inl (cI, 24, .inl (nF EFh2))), (mw, .inl (cI, 24, .inl (nF EWh2))), (ml, .inl (cI, 24, .inl (nF ELh2))), (mu, .inl (cI, 24, .inl (oF EUh2))), (wt, .inl (cI, 200, .inl (oF WTh2))), (ty, .inl (cI, 8, .inl (nF TY)))] := hD.sub [0, 1, 2, 3, 4, 5, 6, 7, 8, 9, 10, 11, 12, 13, 14] (by decide) rfl
    refine lv_iload_n hx hb dX6_told_18 rfl (lv_at hl 1 rfl) ?_
    refine lv_tableIn (tgt := 84) (off := 65) hx hb dX6_told_19 (by decide +kernel) (by decide +kernel) (by decide +kernel) (by decide) ?_
    refine lv_aload_n hx hb dX6_told_84 rfl (lv_at hl 0 rfl) ?_
    refine va_get (D := D) (ci := 6) (v := .int (nI s)) (C := RX6) (T := TX6) (N := 20) hx hb hts inX6 hown hK hP 0 rfl rfl 7 (by decide) (hts _ mf_X6_53) (fun _ h9 => h9) rfl dX6_told_85 ?_
    exact wr_iret hx hb hr hlk hP hD hS dX6_told_88 (⟨rfl, SOh2, n, EBh2, EAh2, EFh2, EWh2, ELh2, EUh2, n - 1, WTh2, 0, rfl⟩)
  ·
    exact (c1 (by decide)).elim
set_option maxHeartbeats 4000000 in
set_option maxRecDepth 100000 in
theorem c_X6_told_3 (l : Launch) (D : va_G) (cI cJ cZ : ClassId) (m0 nw ps im mk wd so mb ma mf mw ml mu wt ty : Nat) (NW : Nat → Nat) (PS : Nat → Nat) (u : Nat) (IM : Nat → Nat) (MK : Nat → Nat) (sd : Nat) (WD : Nat → Nat) (s : Nat) (SO : Nat → Nat) (q : Nat) (EB : Nat → Nat) (EA : Nat → Nat) (EF : Nat → Nat) (EW : Nat → Nat) (EL : Nat → Nat) (EU : Nat → Nat) (br : Nat) (WT : Nat → Nat) (ww : Nat) (TY : Nat → Nat) (KS KL KW : Nat → Nat) (n A : Nat) (hn : n ≤ 24) (hk : ∀ k, k < n → Wf (KS k) (KL k)) (hw0 : Wf s A) (hR : RN NW KS KL KW n) (hRW : RW WD s A) (hso : Srt KS KL n) (BB BD BM BL BF BA BK : Nat → Nat) (hTr : TrX (gapF KS KL) n BB BD BM BL BF BA BK) (hv : ∀ k, k < n → KW k ≤ 9999)  (sz : Nat) : WR l yX6_told cX6_told 4 (some .int) (rmN 6 133) D (ty3 cI cJ cZ) [.ref m0, .int (nI 3)] [(m0, .inr (6, [.ref nw, .ref ps, .int (nI u), .ref im, .ref mk, .int (nI sd), .ref wd, .int (nI s), .ref so, .int (nI q), .ref mb, .ref ma, .ref mf, .ref mw, .ref ml, .ref mu, .int (nI br), .ref wt, .int (nI ww), .ref ty])), (nw, .inl (cI, 241, .inl (nF NW))), (ps, .inl (cI, 4820, .inl (nF PS))), (im, .inl (cI, 484, .inl (nF IM))), (mk, .inl (cZ, 2, .inl (nF MK))), (wd, .inl (cI, 8, .inl (nF WD))), (so, .inl (cI, 24, .inl (nF SO))), (mb, .inl (cI, 24, .inl (nF EB))), (ma, .inl (cI, 24, .inl (nF EA))), (mf, .inl (cI, 24, .inl (nF EF))), (mw, .inl (cI, 24, .inl (nF EW))), (ml, .inl (cI, 24, .inl (nF EL))), (mu, .inl (cI, 24, .inl (oF EU))), (wt, .inl (cI, 200, .inl (oF WT))), (ty, .inl (cI, 8, .inl (nF TY)))] sz (fun x w => x = some (.int (nI (mxd (dok BK BD) n))) ∧ ∃ (SO : Nat → Nat) (q : Nat) (EB EA EF EW EL EU : Nat → Nat) (br : Nat) (WT : Nat → Nat) (ww : Nat), w = [(m0, .inr (6, [.ref nw, .ref ps, .int (nI u), .ref im, .ref mk, .int (nI sd), .ref wd, .int (nI s), .ref so, .int (nI q), .ref mb, .ref ma, .ref mf, .ref mw, .ref ml, .ref mu, .int (nI br), .ref wt, .int (nI ww), .ref ty])), (nw, .inl (cI, 241, .inl (nF NW))), (ps, .inl (cI, 4820, .inl (nF PS))), (im, .inl (cI, 484, .inl (nF IM))), (mk, .inl (cZ, 2, .inl (nF MK))), (wd, .inl (cI, 8, .inl (nF WD))), (so, .inl (cI, 24, .inl (nF SO))), (mb, .inl (cI, 24, .inl (nF EB))), (ma, .inl (cI, 24, .inl (nF EA))), (mf, .inl (cI, 24, .inl (nF EF))), (mw, .inl (cI, 24, .inl (nF EW))), (ml, .inl (cI, 24, .inl (nF EL))), (mu, .inl (cI, 24, .inl (oF EU))), (wt, .inl (cI, 200, .inl (oF WT))), (ty, .inl (cI, 8, .inl (nF TY)))]) := by
  have hs8 := hw0.1
  have hA64 := hw0.2.1
  have hN0 := hR.1
  have hBK := tf_BK hTr hn
  have hDK := tf_DK hTr hn
  have hp := plc_le KS KL n s A
  have hcb := cbl_le KS KL n s A
  have hfl := fnd_le KS KL n s A
  refine wr_start (by decide) (Nat.le_of_ble_eq_true rfl) ?_
  intro pp ee ss mm below meth cd AA C0 hAA hP hK hD hS hN hnm ls hl
  obtain ⟨hx, hb, hr, hml, hown, hts, hlk⟩ := C0
  have hown : ss.vm.findClass RX6 = some mm.cls := hown
  have hl : lv_has ls 4 [(0, .ref m0), (1, .int (nI 3))] := hl
  have hP : va_P D vwCl [(m0, .inr (6, [.ref nw, .ref ps, .int (nI u), .ref im, .ref mk, .int (nI sd), .ref wd, .int (nI s), .ref so, .int (nI q), .ref mb, .ref ma, .ref mf, .ref mw, .ref ml, .ref mu, .int (nI br), .ref wt, .int (nI ww), .ref ty])), (nw, .inl (cI, 241, .inl (nF NW))), (ps, .inl (cI, 4820, .inl (nF PS))), (im, .inl (cI, 484, .inl (nF IM))), (mk, .inl (cZ, 2, .inl (nF MK))), (wd, .inl (cI, 8, .inl (nF WD))), (so, .inl (cI, 24, .inl (nF SO))), (mb, .inl (cI, 24, .inl (nF EB))), (ma, .inl (cI, 24, .inl (nF EA))), (mf, .inl (cI, 24, .inl (nF EF))), (mw, .inl (cI, 24, .inl (nF EW))), (ml, .inl (cI, 24, .inl (nF EL))), (mu, .inl (cI, 24, .inl (oF EU))), (wt, .inl (cI, 200, .inl (oF WT))), (ty, .inl (cI, 8, .inl (nF TY)))] ss.heap := hP
  refine lv_iload_n hx hb dX6_told_0 rfl (lv_at hl 1 rfl) ?_
  refine lv_iconst (v := nI 0) hx hb dX6_told_1 (by decide +kernel) ?_
  refine lv_bipush (v := nI 10) hx hb dX6_told_2 (by decide +kernel) ?_
  refine ro_S (As := [.int (nI 3), .int (nI 0), .int (nI 10)]) (rest := []) ⟨hx, hb, hml, hown, hts⟩ (c_X6_in l D cI cJ cZ 3 0 10 (by omega) (by omega) (by omega)) (k_X6_79 hts ⟨Nat.le_of_ble_eq_true rfl, Nat.le_of_ble_eq_true rfl⟩) hK hP [] rfl rfl hl.1 rfl (Nat.le_of_ble_eq_true rfl) dX6_told_4 ⟨Nat.le_of_ble_eq_true rfl, Nat.le_of_ble_eq_true rfl⟩ ?_
  refine b_if_ne (tgt := 13) hx hb dX6_told_7 (by decide) (fun c1 => ?_) (fun c1 => ?_)
  ·
    refine lv_aload_n hx hb dX6_told_13 rfl (lv_at hl 0 rfl) ?_
    refine lv_iconst (v := oI 0) hx hb dX6_told_14 (by decide +kernel) ?_
    refine wr_V (As := [.int (oI 0)]) (rest := []) (wc := [(m0, .inr (6, [.ref nw, .ref ps, .int (nI u), .ref im, .ref mk, .int (nI sd), .ref wd, .int (nI s), .ref so, .int (nI q), .ref mb, .ref ma, .ref mf, .ref mw, .ref ml, .ref mu, .int (nI br), .ref wt, .int (nI ww), .ref ty])), (nw, .inl (cI, 241, .inl (nF NW))), (ps, .inl (cI, 4820, .inl (nF PS))), (im, .inl (cI, 484, .inl (nF IM))), (mk, .inl (cZ, 2, .inl (nF MK))), (wd, .inl (cI, 8, .inl (nF WD))), (so, .inl (cI, 24, .inl (nF SO))), (mb, .inl (cI, 24, .inl (nF EB))), (ma, .inl (cI, 24, .inl (nF EA))), (mf, .inl (cI, 24, .inl (nF EF))), (mw, .inl (cI, 24, .inl (nF EW))), (ml, .inl (cI, 24, .inl (nF EL))), (mu, .inl (cI, 24, .inl (oF EU))), (wt, .inl (cI, 200, .inl (oF WT))), (ty, .inl (cI, 8, .inl (nF TY)))]) (wr := []) ⟨hx, hb, hml, hown, hts⟩ (c_X6_findsBut_all l D cI cJ cZ m0 nw ps im mk wd so mb ma mf mw ml mu wt ty NW PS u IM MK sd WD s SO q EB EA EF EW EL EU br WT ww TY KS KL KW n A hn hk hw0 hR hRW hso _) (k_X6_119 hts ⟨Nat.le_of_ble_eq_true rfl, Nat.le_of_ble_eq_true rfl⟩) hK hN hP hD hS hAA 0 rfl rfl rfl [0, 1, 2, 3, 4, 5, 6, 7, 8, 9, 10, 11, 12, 13, 14] [] rfl rfl (by decide) (by decide) (by decide) rfl hl.1 rfl (Nat.le_of_ble_eq_true rfl) dX6_told_15 ⟨Nat.le_of_ble_eq_true rfl, Nat.le_of_ble_eq_true rfl⟩ (fun v4 w5 H locs hp3 hP hD hS => ?_)
    obtain ⟨rfl, SOh2, EBh2, EAh2, EFh2, EWh2, ELh2, EUh2, WTh2, rfl, hTmh2⟩ := hp3
    have hE : ∀ b, b < n - 1 → EFh2 b ≤ 24 ∧ 1 ≤ EWh2 b ∧ EWh2 b ≤ 24 := fun b hb2 => by have := tm_in hTmh2 (b := b) (by omega); omega
    have hTm := hTmh2
    have hP : va_P D vwCl [(m0, .inr (6, [.ref nw, .ref ps, .int (nI u), .ref im, .ref mk, .int (nI sd), .ref wd, .int (nI s), .ref so, .int (nI n), .ref mb, .ref ma, .ref mf, .ref mw, .ref ml, .ref mu, .int (nI (n - 1)), .ref wt, .int (nI 0), .ref ty])), (nw, .inl (cI, 241, .inl (nF NW))), (ps, .inl (cI, 4820, .inl (nF PS))), (im, .inl (cI, 484, .inl (nF IM))), (mk, .inl (cZ, 2, .inl (nF MK))), (wd, .inl (cI, 8, .inl (nF WD))), (so, .inl (cI, 24, .inl (nF SOh2))), (mb, .inl (cI, 24, .inl (nF EBh2))), (ma, .inl (cI, 24, .inl (nF EAh2))), (mf, .inl (cI, 24, .inl (nF EFh2))), (mw, .inl (cI, 24, .inl (nF EWh2))), (ml, .inl (cI, 24, .inl (nF ELh2))), (mu, .inl (cI, 24, .inl (oF EUh2))), (wt, .inl (cI, 200, .inl (oF WTh2))), (ty, .inl (cI, 8, .inl (nF TY)))] H := hP.sub [0, 1, 2, 3, 4, 5, 6, 7, 8, 9, 10, 11, 12, 13, 14] rfl
    have hD : va_D AA [(m0, .inr (6, [.ref nw, .ref ps, .int (nI u), .ref im, .ref mk, .int (nI sd), .ref wd, .int (nI s), .ref so, .int (nI n), .ref mb, .ref ma, .ref mf, .ref mw, .ref ml, .ref mu, .int (nI (n - 1)), .ref wt, .int (nI 0), .ref ty])), (nw, .inl (cI, 241, .inl (nF NW))), (ps, .inl (cI, 4820, .inl (nF PS))), (im, .inl (cI, 484, .inl (nF IM))), (mk, .inl (cZ, 2, .inl (nF MK))), (wd, .inl (cI, 8, .inl (nF WD))), (so, .inl (cI, 24, .inl (nF SOh2))), (mb, .inl (cI, 24, .inl (nF EBh2))), (ma, .inl (cI, 24, .inl (nF EAh2))), (mf, .inl (cI, 24, .inl (nF EFh2))), (mw, .inl (cI, 24, .inl (nF EWh2))), (ml, .inl (cI, 24, .inl (nF ELh2))), (mu, .inl (cI, 24, .inl (oF EUh2))), (wt, .inl (cI, 200, .inl (oF WTh2))), (ty, .inl (cI, 8, .inl (nF TY)))] := hD.sub [0, 1, 2, 3, 4, 5, 6, 7, 8, 9, 10, 11, 12, 13, 14] (by decide) rfl
    refine lv_iload_n hx hb dX6_told_18 rfl (lv_at hl 1 rfl) ?_
    refine lv_tableIn (tgt := 89) (off := 70) hx hb dX6_told_19 (by decide +kernel) (by decide +kernel) (by decide +kernel) (by decide) ?_
    refine lv_aload_n hx hb dX6_told_89 rfl (lv_at hl 0 rfl) ?_
    refine ro_V (As := []) (rest := []) ⟨hx, hb, hml, hown, hts⟩ (c_X6_deepest l D cI cJ cZ m0 nw ps im mk wd so mb ma mf mw ml mu wt ty NW PS u IM MK sd WD s SOh2 n EBh2 EAh2 EFh2 EWh2 ELh2 EUh2 (n - 1) WTh2 0 TY (by omega) hE (by omega)) (k_X6_123 hts ⟨Nat.le_of_ble_eq_true rfl, Nat.le_of_ble_eq_true rfl⟩) hK hP 0 rfl rfl rfl [0, 1, 2, 3, 4, 5, 6, 7, 8, 9, 10, 11, 12, 13, 14] rfl rfl hl.1 rfl (Nat.le_of_ble_eq_true rfl) dX6_told_90 ⟨Nat.le_of_ble_eq_true rfl, Nat.le_of_ble_eq_true rfl⟩ ?_
    refine tq (y := (nI (mxd (dok BK BD) n))) (congrArg nI (mxd_congr (fun k hk2 => tm_dok hTr hTm hk2))) ?_
    exact wr_iret hx hb hr hlk hP hD hS dX6_told_93 (⟨rfl, SOh2, n, EBh2, EAh2, EFh2, EWh2, ELh2, EUh2, n - 1, WTh2, 0, rfl⟩)
  ·
    exact (c1 (by decide)).elim
set_option maxHeartbeats 4000000 in
set_option maxRecDepth 100000 in
theorem c_X6_told_4 (l : Launch) (D : va_G) (cI cJ cZ : ClassId) (m0 nw ps im mk wd so mb ma mf mw ml mu wt ty : Nat) (NW : Nat → Nat) (PS : Nat → Nat) (u : Nat) (IM : Nat → Nat) (MK : Nat → Nat) (sd : Nat) (WD : Nat → Nat) (s : Nat) (SO : Nat → Nat) (q : Nat) (EB : Nat → Nat) (EA : Nat → Nat) (EF : Nat → Nat) (EW : Nat → Nat) (EL : Nat → Nat) (EU : Nat → Nat) (br : Nat) (WT : Nat → Nat) (ww : Nat) (TY : Nat → Nat) (KS KL KW : Nat → Nat) (n A : Nat) (hn : n ≤ 24) (hk : ∀ k, k < n → Wf (KS k) (KL k)) (hw0 : Wf s A) (hR : RN NW KS KL KW n) (hRW : RW WD s A) (hso : Srt KS KL n) (BB BD BM BL BF BA BK : Nat → Nat) (hTr : TrX (gapF KS KL) n BB BD BM BL BF BA BK) (hv : ∀ k, k < n → KW k ≤ 9999)  (sz : Nat) : WR l yX6_told cX6_told 4 (some .int) (rmN 6 133) D (ty3 cI cJ cZ) [.ref m0, .int (nI 4)] [(m0, .inr (6, [.ref nw, .ref ps, .int (nI u), .ref im, .ref mk, .int (nI sd), .ref wd, .int (nI s), .ref so, .int (nI q), .ref mb, .ref ma, .ref mf, .ref mw, .ref ml, .ref mu, .int (nI br), .ref wt, .int (nI ww), .ref ty])), (nw, .inl (cI, 241, .inl (nF NW))), (ps, .inl (cI, 4820, .inl (nF PS))), (im, .inl (cI, 484, .inl (nF IM))), (mk, .inl (cZ, 2, .inl (nF MK))), (wd, .inl (cI, 8, .inl (nF WD))), (so, .inl (cI, 24, .inl (nF SO))), (mb, .inl (cI, 24, .inl (nF EB))), (ma, .inl (cI, 24, .inl (nF EA))), (mf, .inl (cI, 24, .inl (nF EF))), (mw, .inl (cI, 24, .inl (nF EW))), (ml, .inl (cI, 24, .inl (nF EL))), (mu, .inl (cI, 24, .inl (oF EU))), (wt, .inl (cI, 200, .inl (oF WT))), (ty, .inl (cI, 8, .inl (nF TY)))] sz (fun x w => x = some (.int (nI (fb_sm (dok BK BD) n))) ∧ ∃ (SO : Nat → Nat) (q : Nat) (EB EA EF EW EL EU : Nat → Nat) (br : Nat) (WT : Nat → Nat) (ww : Nat), w = [(m0, .inr (6, [.ref nw, .ref ps, .int (nI u), .ref im, .ref mk, .int (nI sd), .ref wd, .int (nI s), .ref so, .int (nI q), .ref mb, .ref ma, .ref mf, .ref mw, .ref ml, .ref mu, .int (nI br), .ref wt, .int (nI ww), .ref ty])), (nw, .inl (cI, 241, .inl (nF NW))), (ps, .inl (cI, 4820, .inl (nF PS))), (im, .inl (cI, 484, .inl (nF IM))), (mk, .inl (cZ, 2, .inl (nF MK))), (wd, .inl (cI, 8, .inl (nF WD))), (so, .inl (cI, 24, .inl (nF SO))), (mb, .inl (cI, 24, .inl (nF EB))), (ma, .inl (cI, 24, .inl (nF EA))), (mf, .inl (cI, 24, .inl (nF EF))), (mw, .inl (cI, 24, .inl (nF EW))), (ml, .inl (cI, 24, .inl (nF EL))), (mu, .inl (cI, 24, .inl (oF EU))), (wt, .inl (cI, 200, .inl (oF WT))), (ty, .inl (cI, 8, .inl (nF TY)))]) := by
  have hs8 := hw0.1
  have hA64 := hw0.2.1
  have hN0 := hR.1
  have hBK := tf_BK hTr hn
  have hDK := tf_DK hTr hn
  have hp := plc_le KS KL n s A
  have hcb := cbl_le KS KL n s A
  have hfl := fnd_le KS KL n s A
  refine wr_start (by decide) (Nat.le_of_ble_eq_true rfl) ?_
  intro pp ee ss mm below meth cd AA C0 hAA hP hK hD hS hN hnm ls hl
  obtain ⟨hx, hb, hr, hml, hown, hts, hlk⟩ := C0
  have hown : ss.vm.findClass RX6 = some mm.cls := hown
  have hl : lv_has ls 4 [(0, .ref m0), (1, .int (nI 4))] := hl
  have hP : va_P D vwCl [(m0, .inr (6, [.ref nw, .ref ps, .int (nI u), .ref im, .ref mk, .int (nI sd), .ref wd, .int (nI s), .ref so, .int (nI q), .ref mb, .ref ma, .ref mf, .ref mw, .ref ml, .ref mu, .int (nI br), .ref wt, .int (nI ww), .ref ty])), (nw, .inl (cI, 241, .inl (nF NW))), (ps, .inl (cI, 4820, .inl (nF PS))), (im, .inl (cI, 484, .inl (nF IM))), (mk, .inl (cZ, 2, .inl (nF MK))), (wd, .inl (cI, 8, .inl (nF WD))), (so, .inl (cI, 24, .inl (nF SO))), (mb, .inl (cI, 24, .inl (nF EB))), (ma, .inl (cI, 24, .inl (nF EA))), (mf, .inl (cI, 24, .inl (nF EF))), (mw, .inl (cI, 24, .inl (nF EW))), (ml, .inl (cI, 24, .inl (nF EL))), (mu, .inl (cI, 24, .inl (oF EU))), (wt, .inl (cI, 200, .inl (oF WT))), (ty, .inl (cI, 8, .inl (nF TY)))] ss.heap := hP
  refine lv_iload_n hx hb dX6_told_0 rfl (lv_at hl 1 rfl) ?_
  refine lv_iconst (v := nI 0) hx hb dX6_told_1 (by decide +kernel) ?_
  refine lv_bipush (v := nI 10) hx hb dX6_told_2 (by decide +kernel) ?_
  refine ro_S (As := [.int (nI 4), .int (nI 0), .int (nI 10)]) (rest := []) ⟨hx, hb, hml, hown, hts⟩ (c_X6_in l D cI cJ cZ 4 0 10 (by omega) (by omega) (by omega)) (k_X6_79 hts ⟨Nat.le_of_ble_eq_true rfl, Nat.le_of_ble_eq_true rfl⟩) hK hP [] rfl rfl hl.1 rfl (Nat.le_of_ble_eq_true rfl) dX6_told_4 ⟨Nat.le_of_ble_eq_true rfl, Nat.le_of_ble_eq_true rfl⟩ ?_
  refine b_if_ne (tgt := 13) hx hb dX6_told_7 (by decide) (fun c1 => ?_) (fun c1 => ?_)
  ·
    refine lv_aload_n hx hb dX6_told_13 rfl (lv_at hl 0 rfl) ?_
    refine lv_iconst (v := oI 0) hx hb dX6_told_14 (by decide +kernel) ?_
    refine wr_V (As := [.int (oI 0)]) (rest := []) (wc := [(m0, .inr (6, [.ref nw, .ref ps, .int (nI u), .ref im, .ref mk, .int (nI sd), .ref wd, .int (nI s), .ref so, .int (nI q), .ref mb, .ref ma, .ref mf, .ref mw, .ref ml, .ref mu, .int (nI br), .ref wt, .int (nI ww), .ref ty])), (nw, .inl (cI, 241, .inl (nF NW))), (ps, .inl (cI, 4820, .inl (nF PS))), (im, .inl (cI, 484, .inl (nF IM))), (mk, .inl (cZ, 2, .inl (nF MK))), (wd, .inl (cI, 8, .inl (nF WD))), (so, .inl (cI, 24, .inl (nF SO))), (mb, .inl (cI, 24, .inl (nF EB))), (ma, .inl (cI, 24, .inl (nF EA))), (mf, .inl (cI, 24, .inl (nF EF))), (mw, .inl (cI, 24, .inl (nF EW))), (ml, .inl (cI, 24, .inl (nF EL))), (mu, .inl (cI, 24, .inl (oF EU))), (wt, .inl (cI, 200, .inl (oF WT))), (ty, .inl (cI, 8, .inl (nF TY)))]) (wr := []) ⟨hx, hb, hml, hown, hts⟩ (c_X6_findsBut_all l D cI cJ cZ m0 nw ps im mk wd so mb ma mf mw ml mu wt ty NW PS u IM MK sd WD s SO q EB EA EF EW EL EU br WT ww TY KS KL KW n A hn hk hw0 hR hRW hso _) (k_X6_119 hts ⟨Nat.le_of_ble_eq_true rfl, Nat.le_of_ble_eq_true rfl⟩) hK hN hP hD hS hAA 0 rfl rfl rfl [0, 1, 2, 3, 4, 5, 6, 7, 8, 9, 10, 11, 12, 13, 14] [] rfl rfl (by decide) (by decide) (by decide) rfl hl.1 rfl (Nat.le_of_ble_eq_true rfl) dX6_told_15 ⟨Nat.le_of_ble_eq_true rfl, Nat.le_of_ble_eq_true rfl⟩ (fun v4 w5 H locs hp3 hP hD hS => ?_)
    obtain ⟨rfl, SOh2, EBh2, EAh2, EFh2, EWh2, ELh2, EUh2, WTh2, rfl, hTmh2⟩ := hp3
    have hE : ∀ b, b < n - 1 → EFh2 b ≤ 24 ∧ 1 ≤ EWh2 b ∧ EWh2 b ≤ 24 := fun b hb2 => by have := tm_in hTmh2 (b := b) (by omega); omega
    have hTm := hTmh2
    have hP : va_P D vwCl [(m0, .inr (6, [.ref nw, .ref ps, .int (nI u), .ref im, .ref mk, .int (nI sd), .ref wd, .int (nI s), .ref so, .int (nI n), .ref mb, .ref ma, .ref mf, .ref mw, .ref ml, .ref mu, .int (nI (n - 1)), .ref wt, .int (nI 0), .ref ty])), (nw, .inl (cI, 241, .inl (nF NW))), (ps, .inl (cI, 4820, .inl (nF PS))), (im, .inl (cI, 484, .inl (nF IM))), (mk, .inl (cZ, 2, .inl (nF MK))), (wd, .inl (cI, 8, .inl (nF WD))), (so, .inl (cI, 24, .inl (nF SOh2))), (mb, .inl (cI, 24, .inl (nF EBh2))), (ma, .inl (cI, 24, .inl (nF EAh2))), (mf, .inl (cI, 24, .inl (nF EFh2))), (mw, .inl (cI, 24, .inl (nF EWh2))), (ml, .inl (cI, 24, .inl (nF ELh2))), (mu, .inl (cI, 24, .inl (oF EUh2))), (wt, .inl (cI, 200, .inl (oF WTh2))), (ty, .inl (cI, 8, .inl (nF TY)))] H := hP.sub [0, 1, 2, 3, 4, 5, 6, 7, 8, 9, 10, 11, 12, 13, 14] rfl
    have hD : va_D AA [(m0, .inr (6, [.ref nw, .ref ps, .int (nI u), .ref im, .ref mk, .int (nI sd), .ref wd, .int (nI s), .ref so, .int (nI n), .ref mb, .ref ma, .ref mf, .ref mw, .ref ml, .ref mu, .int (nI (n - 1)), .ref wt, .int (nI 0), .ref ty])), (nw, .inl (cI, 241, .inl (nF NW))), (ps, .inl (cI, 4820, .inl (nF PS))), (im, .inl (cI, 484, .inl (nF IM))), (mk, .inl (cZ, 2, .inl (nF MK))), (wd, .inl (cI, 8, .inl (nF WD))), (so, .inl (cI, 24, .inl (nF SOh2))), (mb, .inl (cI, 24, .inl (nF EBh2))), (ma, .inl (cI, 24, .inl (nF EAh2))), (mf, .inl (cI, 24, .inl (nF EFh2))), (mw, .inl (cI, 24, .inl (nF EWh2))), (ml, .inl (cI, 24, .inl (nF ELh2))), (mu, .inl (cI, 24, .inl (oF EUh2))), (wt, .inl (cI, 200, .inl (oF WTh2))), (ty, .inl (cI, 8, .inl (nF TY)))] := hD.sub [0, 1, 2, 3, 4, 5, 6, 7, 8, 9, 10, 11, 12, 13, 14] (by decide) rfl
    refine lv_iload_n hx hb dX6_told_18 rfl (lv_at hl 1 rfl) ?_
    refine lv_tableIn (tgt := 94) (off := 75) hx hb dX6_told_19 (by decide +kernel) (by decide +kernel) (by decide +kernel) (by decide) ?_
    refine lv_aload_n hx hb dX6_told_94 rfl (lv_at hl 0 rfl) ?_
    refine lv_iload_n hx hb dX6_told_95 rfl (lv_at hl 1 rfl) ?_
    refine lv_iconst (v := nI 4) hx hb dX6_told_96 (by decide +kernel) ?_
    refine n_isub hx hb dX6_told_97 (by omega) ?_
    refine tq (y := nI 0) (congrArg nI (rfl)) ?_
    refine ro_V (As := [.int (nI 0)]) (rest := []) ⟨hx, hb, hml, hown, hts⟩ (c_X6_sum_0 l D cI cJ cZ m0 nw ps im mk wd so mb ma mf mw ml mu wt ty NW PS u IM MK sd WD s SOh2 n EBh2 EAh2 EFh2 EWh2 ELh2 EUh2 (n - 1) WTh2 0 TY KS KL KW n A hn hk hw0 hR hRW (by omega) hE) (k_X6_126 hts ⟨Nat.le_of_ble_eq_true rfl, Nat.le_of_ble_eq_true rfl⟩) hK hP 0 rfl rfl rfl [0, 1, 2, 3, 4, 5, 6, 7, 8, 9, 10, 11, 12, 13, 14] rfl rfl hl.1 rfl (Nat.le_of_ble_eq_true rfl) dX6_told_98 ⟨Nat.le_of_ble_eq_true rfl, Nat.le_of_ble_eq_true rfl⟩ ?_
    refine tq (y := (nI (fb_sm (dok BK BD) n))) (congrArg nI (fb_sm_cong (fun k hk2 => tm_dok hTr hTm hk2))) ?_
    exact wr_iret hx hb hr hlk hP hD hS dX6_told_101 (⟨rfl, SOh2, n, EBh2, EAh2, EFh2, EWh2, ELh2, EUh2, n - 1, WTh2, 0, rfl⟩)
  ·
    exact (c1 (by decide)).elim
set_option maxHeartbeats 4000000 in
set_option maxRecDepth 100000 in
theorem c_X6_told_5 (l : Launch) (D : va_G) (cI cJ cZ : ClassId) (m0 nw ps im mk wd so mb ma mf mw ml mu wt ty : Nat) (NW : Nat → Nat) (PS : Nat → Nat) (u : Nat) (IM : Nat → Nat) (MK : Nat → Nat) (sd : Nat) (WD : Nat → Nat) (s : Nat) (SO : Nat → Nat) (q : Nat) (EB : Nat → Nat) (EA : Nat → Nat) (EF : Nat → Nat) (EW : Nat → Nat) (EL : Nat → Nat) (EU : Nat → Nat) (br : Nat) (WT : Nat → Nat) (ww : Nat) (TY : Nat → Nat) (KS KL KW : Nat → Nat) (n A : Nat) (hn : n ≤ 24) (hk : ∀ k, k < n → Wf (KS k) (KL k)) (hw0 : Wf s A) (hR : RN NW KS KL KW n) (hRW : RW WD s A) (hso : Srt KS KL n) (BB BD BM BL BF BA BK : Nat → Nat) (hTr : TrX (gapF KS KL) n BB BD BM BL BF BA BK) (hv : ∀ k, k < n → KW k ≤ 9999)  (sz : Nat) : WR l yX6_told cX6_told 4 (some .int) (rmN 6 133) D (ty3 cI cJ cZ) [.ref m0, .int (nI 5)] [(m0, .inr (6, [.ref nw, .ref ps, .int (nI u), .ref im, .ref mk, .int (nI sd), .ref wd, .int (nI s), .ref so, .int (nI q), .ref mb, .ref ma, .ref mf, .ref mw, .ref ml, .ref mu, .int (nI br), .ref wt, .int (nI ww), .ref ty])), (nw, .inl (cI, 241, .inl (nF NW))), (ps, .inl (cI, 4820, .inl (nF PS))), (im, .inl (cI, 484, .inl (nF IM))), (mk, .inl (cZ, 2, .inl (nF MK))), (wd, .inl (cI, 8, .inl (nF WD))), (so, .inl (cI, 24, .inl (nF SO))), (mb, .inl (cI, 24, .inl (nF EB))), (ma, .inl (cI, 24, .inl (nF EA))), (mf, .inl (cI, 24, .inl (nF EF))), (mw, .inl (cI, 24, .inl (nF EW))), (ml, .inl (cI, 24, .inl (nF EL))), (mu, .inl (cI, 24, .inl (oF EU))), (wt, .inl (cI, 200, .inl (oF WT))), (ty, .inl (cI, 8, .inl (nF TY)))] sz (fun x w => x = some (.int (nI (fb_sm (fun i => KW (0 + i)) n))) ∧ ∃ (SO : Nat → Nat) (q : Nat) (EB EA EF EW EL EU : Nat → Nat) (br : Nat) (WT : Nat → Nat) (ww : Nat), w = [(m0, .inr (6, [.ref nw, .ref ps, .int (nI u), .ref im, .ref mk, .int (nI sd), .ref wd, .int (nI s), .ref so, .int (nI q), .ref mb, .ref ma, .ref mf, .ref mw, .ref ml, .ref mu, .int (nI br), .ref wt, .int (nI ww), .ref ty])), (nw, .inl (cI, 241, .inl (nF NW))), (ps, .inl (cI, 4820, .inl (nF PS))), (im, .inl (cI, 484, .inl (nF IM))), (mk, .inl (cZ, 2, .inl (nF MK))), (wd, .inl (cI, 8, .inl (nF WD))), (so, .inl (cI, 24, .inl (nF SO))), (mb, .inl (cI, 24, .inl (nF EB))), (ma, .inl (cI, 24, .inl (nF EA))), (mf, .inl (cI, 24, .inl (nF EF))), (mw, .inl (cI, 24, .inl (nF EW))), (ml, .inl (cI, 24, .inl (nF EL))), (mu, .inl (cI, 24, .inl (oF EU))), (wt, .inl (cI, 200, .inl (oF WT))), (ty, .inl (cI, 8, .inl (nF TY)))]) := by
  have hs8 := hw0.1
  have hA64 := hw0.2.1
  have hN0 := hR.1
  have hBK := tf_BK hTr hn
  have hDK := tf_DK hTr hn
  have hp := plc_le KS KL n s A
  have hcb := cbl_le KS KL n s A
  have hfl := fnd_le KS KL n s A
  refine wr_start (by decide) (Nat.le_of_ble_eq_true rfl) ?_
  intro pp ee ss mm below meth cd AA C0 hAA hP hK hD hS hN hnm ls hl
  obtain ⟨hx, hb, hr, hml, hown, hts, hlk⟩ := C0
  have hown : ss.vm.findClass RX6 = some mm.cls := hown
  have hl : lv_has ls 4 [(0, .ref m0), (1, .int (nI 5))] := hl
  have hP : va_P D vwCl [(m0, .inr (6, [.ref nw, .ref ps, .int (nI u), .ref im, .ref mk, .int (nI sd), .ref wd, .int (nI s), .ref so, .int (nI q), .ref mb, .ref ma, .ref mf, .ref mw, .ref ml, .ref mu, .int (nI br), .ref wt, .int (nI ww), .ref ty])), (nw, .inl (cI, 241, .inl (nF NW))), (ps, .inl (cI, 4820, .inl (nF PS))), (im, .inl (cI, 484, .inl (nF IM))), (mk, .inl (cZ, 2, .inl (nF MK))), (wd, .inl (cI, 8, .inl (nF WD))), (so, .inl (cI, 24, .inl (nF SO))), (mb, .inl (cI, 24, .inl (nF EB))), (ma, .inl (cI, 24, .inl (nF EA))), (mf, .inl (cI, 24, .inl (nF EF))), (mw, .inl (cI, 24, .inl (nF EW))), (ml, .inl (cI, 24, .inl (nF EL))), (mu, .inl (cI, 24, .inl (oF EU))), (wt, .inl (cI, 200, .inl (oF WT))), (ty, .inl (cI, 8, .inl (nF TY)))] ss.heap := hP
  refine lv_iload_n hx hb dX6_told_0 rfl (lv_at hl 1 rfl) ?_
  refine lv_iconst (v := nI 0) hx hb dX6_told_1 (by decide +kernel) ?_
  refine lv_bipush (v := nI 10) hx hb dX6_told_2 (by decide +kernel) ?_
  refine ro_S (As := [.int (nI 5), .int (nI 0), .int (nI 10)]) (rest := []) ⟨hx, hb, hml, hown, hts⟩ (c_X6_in l D cI cJ cZ 5 0 10 (by omega) (by omega) (by omega)) (k_X6_79 hts ⟨Nat.le_of_ble_eq_true rfl, Nat.le_of_ble_eq_true rfl⟩) hK hP [] rfl rfl hl.1 rfl (Nat.le_of_ble_eq_true rfl) dX6_told_4 ⟨Nat.le_of_ble_eq_true rfl, Nat.le_of_ble_eq_true rfl⟩ ?_
  refine b_if_ne (tgt := 13) hx hb dX6_told_7 (by decide) (fun c1 => ?_) (fun c1 => ?_)
  ·
    refine lv_aload_n hx hb dX6_told_13 rfl (lv_at hl 0 rfl) ?_
    refine lv_iconst (v := oI 0) hx hb dX6_told_14 (by decide +kernel) ?_
    refine wr_V (As := [.int (oI 0)]) (rest := []) (wc := [(m0, .inr (6, [.ref nw, .ref ps, .int (nI u), .ref im, .ref mk, .int (nI sd), .ref wd, .int (nI s), .ref so, .int (nI q), .ref mb, .ref ma, .ref mf, .ref mw, .ref ml, .ref mu, .int (nI br), .ref wt, .int (nI ww), .ref ty])), (nw, .inl (cI, 241, .inl (nF NW))), (ps, .inl (cI, 4820, .inl (nF PS))), (im, .inl (cI, 484, .inl (nF IM))), (mk, .inl (cZ, 2, .inl (nF MK))), (wd, .inl (cI, 8, .inl (nF WD))), (so, .inl (cI, 24, .inl (nF SO))), (mb, .inl (cI, 24, .inl (nF EB))), (ma, .inl (cI, 24, .inl (nF EA))), (mf, .inl (cI, 24, .inl (nF EF))), (mw, .inl (cI, 24, .inl (nF EW))), (ml, .inl (cI, 24, .inl (nF EL))), (mu, .inl (cI, 24, .inl (oF EU))), (wt, .inl (cI, 200, .inl (oF WT))), (ty, .inl (cI, 8, .inl (nF TY)))]) (wr := []) ⟨hx, hb, hml, hown, hts⟩ (c_X6_findsBut_all l D cI cJ cZ m0 nw ps im mk wd so mb ma mf mw ml mu wt ty NW PS u IM MK sd WD s SO q EB EA EF EW EL EU br WT ww TY KS KL KW n A hn hk hw0 hR hRW hso _) (k_X6_119 hts ⟨Nat.le_of_ble_eq_true rfl, Nat.le_of_ble_eq_true rfl⟩) hK hN hP hD hS hAA 0 rfl rfl rfl [0, 1, 2, 3, 4, 5, 6, 7, 8, 9, 10, 11, 12, 13, 14] [] rfl rfl (by decide) (by decide) (by decide) rfl hl.1 rfl (Nat.le_of_ble_eq_true rfl) dX6_told_15 ⟨Nat.le_of_ble_eq_true rfl, Nat.le_of_ble_eq_true rfl⟩ (fun v4 w5 H locs hp3 hP hD hS => ?_)
    obtain ⟨rfl, SOh2, EBh2, EAh2, EFh2, EWh2, ELh2, EUh2, WTh2, rfl, hTmh2⟩ := hp3
    have hE : ∀ b, b < n - 1 → EFh2 b ≤ 24 ∧ 1 ≤ EWh2 b ∧ EWh2 b ≤ 24 := fun b hb2 => by have := tm_in hTmh2 (b := b) (by omega); omega
    have hTm := hTmh2
    have hP : va_P D vwCl [(m0, .inr (6, [.ref nw, .ref ps, .int (nI u), .ref im, .ref mk, .int (nI sd), .ref wd, .int (nI s), .ref so, .int (nI n), .ref mb, .ref ma, .ref mf, .ref mw, .ref ml, .ref mu, .int (nI (n - 1)), .ref wt, .int (nI 0), .ref ty])), (nw, .inl (cI, 241, .inl (nF NW))), (ps, .inl (cI, 4820, .inl (nF PS))), (im, .inl (cI, 484, .inl (nF IM))), (mk, .inl (cZ, 2, .inl (nF MK))), (wd, .inl (cI, 8, .inl (nF WD))), (so, .inl (cI, 24, .inl (nF SOh2))), (mb, .inl (cI, 24, .inl (nF EBh2))), (ma, .inl (cI, 24, .inl (nF EAh2))), (mf, .inl (cI, 24, .inl (nF EFh2))), (mw, .inl (cI, 24, .inl (nF EWh2))), (ml, .inl (cI, 24, .inl (nF ELh2))), (mu, .inl (cI, 24, .inl (oF EUh2))), (wt, .inl (cI, 200, .inl (oF WTh2))), (ty, .inl (cI, 8, .inl (nF TY)))] H := hP.sub [0, 1, 2, 3, 4, 5, 6, 7, 8, 9, 10, 11, 12, 13, 14] rfl
    have hD : va_D AA [(m0, .inr (6, [.ref nw, .ref ps, .int (nI u), .ref im, .ref mk, .int (nI sd), .ref wd, .int (nI s), .ref so, .int (nI n), .ref mb, .ref ma, .ref mf, .ref mw, .ref ml, .ref mu, .int (nI (n - 1)), .ref wt, .int (nI 0), .ref ty])), (nw, .inl (cI, 241, .inl (nF NW))), (ps, .inl (cI, 4820, .inl (nF PS))), (im, .inl (cI, 484, .inl (nF IM))), (mk, .inl (cZ, 2, .inl (nF MK))), (wd, .inl (cI, 8, .inl (nF WD))), (so, .inl (cI, 24, .inl (nF SOh2))), (mb, .inl (cI, 24, .inl (nF EBh2))), (ma, .inl (cI, 24, .inl (nF EAh2))), (mf, .inl (cI, 24, .inl (nF EFh2))), (mw, .inl (cI, 24, .inl (nF EWh2))), (ml, .inl (cI, 24, .inl (nF ELh2))), (mu, .inl (cI, 24, .inl (oF EUh2))), (wt, .inl (cI, 200, .inl (oF WTh2))), (ty, .inl (cI, 8, .inl (nF TY)))] := hD.sub [0, 1, 2, 3, 4, 5, 6, 7, 8, 9, 10, 11, 12, 13, 14] (by decide) rfl
    refine lv_iload_n hx hb dX6_told_18 rfl (lv_at hl 1 rfl) ?_
    refine lv_tableIn (tgt := 94) (off := 75) hx hb dX6_told_19 (by decide +kernel) (by decide +kernel) (by decide +kernel) (by decide) ?_
    refine lv_aload_n hx hb dX6_told_94 rfl (lv_at hl 0 rfl) ?_
    refine lv_iload_n hx hb dX6_told_95 rfl (lv_at hl 1 rfl) ?_
    refine lv_iconst (v := nI 4) hx hb dX6_told_96 (by decide +kernel) ?_
    refine n_isub hx hb dX6_told_97 (by omega) ?_
    refine tq (y := nI 1) (congrArg nI (rfl)) ?_
    refine ro_V (As := [.int (nI 1)]) (rest := []) ⟨hx, hb, hml, hown, hts⟩ (c_X6_sum_1 l D cI cJ cZ m0 nw ps im mk wd so mb ma mf mw ml mu wt ty NW PS u IM MK sd WD s SOh2 n EBh2 EAh2 EFh2 EWh2 ELh2 EUh2 (n - 1) WTh2 0 TY KS KL KW n A hn hk hw0 hR hRW) (k_X6_126 hts ⟨Nat.le_of_ble_eq_true rfl, Nat.le_of_ble_eq_true rfl⟩) hK hP 0 rfl rfl rfl [0, 1, 2, 3, 4, 5, 6, 7, 8, 9, 10, 11, 12, 13, 14] rfl rfl hl.1 rfl (Nat.le_of_ble_eq_true rfl) dX6_told_98 ⟨Nat.le_of_ble_eq_true rfl, Nat.le_of_ble_eq_true rfl⟩ ?_
    refine tq (y := (nI (fb_sm (fun i => KW (0 + i)) n))) (congrArg nI (fb_sm_cong (fun k hk2 => by rw [Nat.zero_add]))) ?_
    exact wr_iret hx hb hr hlk hP hD hS dX6_told_101 (⟨rfl, SOh2, n, EBh2, EAh2, EFh2, EWh2, ELh2, EUh2, n - 1, WTh2, 0, rfl⟩)
  ·
    exact (c1 (by decide)).elim
set_option maxHeartbeats 4000000 in
set_option maxRecDepth 100000 in
theorem c_X6_told_6 (l : Launch) (D : va_G) (cI cJ cZ : ClassId) (m0 nw ps im mk wd so mb ma mf mw ml mu wt ty : Nat) (NW : Nat → Nat) (PS : Nat → Nat) (u : Nat) (IM : Nat → Nat) (MK : Nat → Nat) (sd : Nat) (WD : Nat → Nat) (s : Nat) (SO : Nat → Nat) (q : Nat) (EB : Nat → Nat) (EA : Nat → Nat) (EF : Nat → Nat) (EW : Nat → Nat) (EL : Nat → Nat) (EU : Nat → Nat) (br : Nat) (WT : Nat → Nat) (ww : Nat) (TY : Nat → Nat) (KS KL KW : Nat → Nat) (n A : Nat) (hn : n ≤ 24) (hk : ∀ k, k < n → Wf (KS k) (KL k)) (hw0 : Wf s A) (hR : RN NW KS KL KW n) (hRW : RW WD s A) (hso : Srt KS KL n) (BB BD BM BL BF BA BK : Nat → Nat) (hTr : TrX (gapF KS KL) n BB BD BM BL BF BA BK) (hv : ∀ k, k < n → KW k ≤ 9999)  (sz : Nat) : WR l yX6_told cX6_told 4 (some .int) (rmN 6 133) D (ty3 cI cJ cZ) [.ref m0, .int (nI 6)] [(m0, .inr (6, [.ref nw, .ref ps, .int (nI u), .ref im, .ref mk, .int (nI sd), .ref wd, .int (nI s), .ref so, .int (nI q), .ref mb, .ref ma, .ref mf, .ref mw, .ref ml, .ref mu, .int (nI br), .ref wt, .int (nI ww), .ref ty])), (nw, .inl (cI, 241, .inl (nF NW))), (ps, .inl (cI, 4820, .inl (nF PS))), (im, .inl (cI, 484, .inl (nF IM))), (mk, .inl (cZ, 2, .inl (nF MK))), (wd, .inl (cI, 8, .inl (nF WD))), (so, .inl (cI, 24, .inl (nF SO))), (mb, .inl (cI, 24, .inl (nF EB))), (ma, .inl (cI, 24, .inl (nF EA))), (mf, .inl (cI, 24, .inl (nF EF))), (mw, .inl (cI, 24, .inl (nF EW))), (ml, .inl (cI, 24, .inl (nF EL))), (mu, .inl (cI, 24, .inl (oF EU))), (wt, .inl (cI, 200, .inl (oF WT))), (ty, .inl (cI, 8, .inl (nF TY)))] sz (fun x w => x = some (.int (oI (if 1 < n then BB 0 + 1 else 0))) ∧ ∃ (SO : Nat → Nat) (q : Nat) (EB EA EF EW EL EU : Nat → Nat) (br : Nat) (WT : Nat → Nat) (ww : Nat), w = [(m0, .inr (6, [.ref nw, .ref ps, .int (nI u), .ref im, .ref mk, .int (nI sd), .ref wd, .int (nI s), .ref so, .int (nI q), .ref mb, .ref ma, .ref mf, .ref mw, .ref ml, .ref mu, .int (nI br), .ref wt, .int (nI ww), .ref ty])), (nw, .inl (cI, 241, .inl (nF NW))), (ps, .inl (cI, 4820, .inl (nF PS))), (im, .inl (cI, 484, .inl (nF IM))), (mk, .inl (cZ, 2, .inl (nF MK))), (wd, .inl (cI, 8, .inl (nF WD))), (so, .inl (cI, 24, .inl (nF SO))), (mb, .inl (cI, 24, .inl (nF EB))), (ma, .inl (cI, 24, .inl (nF EA))), (mf, .inl (cI, 24, .inl (nF EF))), (mw, .inl (cI, 24, .inl (nF EW))), (ml, .inl (cI, 24, .inl (nF EL))), (mu, .inl (cI, 24, .inl (oF EU))), (wt, .inl (cI, 200, .inl (oF WT))), (ty, .inl (cI, 8, .inl (nF TY)))]) := by
  have hs8 := hw0.1
  have hA64 := hw0.2.1
  have hN0 := hR.1
  have hBK := tf_BK hTr hn
  have hDK := tf_DK hTr hn
  have hp := plc_le KS KL n s A
  have hcb := cbl_le KS KL n s A
  have hfl := fnd_le KS KL n s A
  refine wr_start (by decide) (Nat.le_of_ble_eq_true rfl) ?_
  intro pp ee ss mm below meth cd AA C0 hAA hP hK hD hS hN hnm ls hl
  obtain ⟨hx, hb, hr, hml, hown, hts, hlk⟩ := C0
  have hown : ss.vm.findClass RX6 = some mm.cls := hown
  have hl : lv_has ls 4 [(0, .ref m0), (1, .int (nI 6))] := hl
  have hP : va_P D vwCl [(m0, .inr (6, [.ref nw, .ref ps, .int (nI u), .ref im, .ref mk, .int (nI sd), .ref wd, .int (nI s), .ref so, .int (nI q), .ref mb, .ref ma, .ref mf, .ref mw, .ref ml, .ref mu, .int (nI br), .ref wt, .int (nI ww), .ref ty])), (nw, .inl (cI, 241, .inl (nF NW))), (ps, .inl (cI, 4820, .inl (nF PS))), (im, .inl (cI, 484, .inl (nF IM))), (mk, .inl (cZ, 2, .inl (nF MK))), (wd, .inl (cI, 8, .inl (nF WD))), (so, .inl (cI, 24, .inl (nF SO))), (mb, .inl (cI, 24, .inl (nF EB))), (ma, .inl (cI, 24, .inl (nF EA))), (mf, .inl (cI, 24, .inl (nF EF))), (mw, .inl (cI, 24, .inl (nF EW))), (ml, .inl (cI, 24, .inl (nF EL))), (mu, .inl (cI, 24, .inl (oF EU))), (wt, .inl (cI, 200, .inl (oF WT))), (ty, .inl (cI, 8, .inl (nF TY)))] ss.heap := hP
  refine lv_iload_n hx hb dX6_told_0 rfl (lv_at hl 1 rfl) ?_
  refine lv_iconst (v := nI 0) hx hb dX6_told_1 (by decide +kernel) ?_
  refine lv_bipush (v := nI 10) hx hb dX6_told_2 (by decide +kernel) ?_
  refine ro_S (As := [.int (nI 6), .int (nI 0), .int (nI 10)]) (rest := []) ⟨hx, hb, hml, hown, hts⟩ (c_X6_in l D cI cJ cZ 6 0 10 (by omega) (by omega) (by omega)) (k_X6_79 hts ⟨Nat.le_of_ble_eq_true rfl, Nat.le_of_ble_eq_true rfl⟩) hK hP [] rfl rfl hl.1 rfl (Nat.le_of_ble_eq_true rfl) dX6_told_4 ⟨Nat.le_of_ble_eq_true rfl, Nat.le_of_ble_eq_true rfl⟩ ?_
  refine b_if_ne (tgt := 13) hx hb dX6_told_7 (by decide) (fun c1 => ?_) (fun c1 => ?_)
  ·
    refine lv_aload_n hx hb dX6_told_13 rfl (lv_at hl 0 rfl) ?_
    refine lv_iconst (v := oI 0) hx hb dX6_told_14 (by decide +kernel) ?_
    refine wr_V (As := [.int (oI 0)]) (rest := []) (wc := [(m0, .inr (6, [.ref nw, .ref ps, .int (nI u), .ref im, .ref mk, .int (nI sd), .ref wd, .int (nI s), .ref so, .int (nI q), .ref mb, .ref ma, .ref mf, .ref mw, .ref ml, .ref mu, .int (nI br), .ref wt, .int (nI ww), .ref ty])), (nw, .inl (cI, 241, .inl (nF NW))), (ps, .inl (cI, 4820, .inl (nF PS))), (im, .inl (cI, 484, .inl (nF IM))), (mk, .inl (cZ, 2, .inl (nF MK))), (wd, .inl (cI, 8, .inl (nF WD))), (so, .inl (cI, 24, .inl (nF SO))), (mb, .inl (cI, 24, .inl (nF EB))), (ma, .inl (cI, 24, .inl (nF EA))), (mf, .inl (cI, 24, .inl (nF EF))), (mw, .inl (cI, 24, .inl (nF EW))), (ml, .inl (cI, 24, .inl (nF EL))), (mu, .inl (cI, 24, .inl (oF EU))), (wt, .inl (cI, 200, .inl (oF WT))), (ty, .inl (cI, 8, .inl (nF TY)))]) (wr := []) ⟨hx, hb, hml, hown, hts⟩ (c_X6_findsBut_all l D cI cJ cZ m0 nw ps im mk wd so mb ma mf mw ml mu wt ty NW PS u IM MK sd WD s SO q EB EA EF EW EL EU br WT ww TY KS KL KW n A hn hk hw0 hR hRW hso _) (k_X6_119 hts ⟨Nat.le_of_ble_eq_true rfl, Nat.le_of_ble_eq_true rfl⟩) hK hN hP hD hS hAA 0 rfl rfl rfl [0, 1, 2, 3, 4, 5, 6, 7, 8, 9, 10, 11, 12, 13, 14] [] rfl rfl (by decide) (by decide) (by decide) rfl hl.1 rfl (Nat.le_of_ble_eq_true rfl) dX6_told_15 ⟨Nat.le_of_ble_eq_true rfl, Nat.le_of_ble_eq_true rfl⟩ (fun v4 w5 H locs hp3 hP hD hS => ?_)
    obtain ⟨rfl, SOh2, EBh2, EAh2, EFh2, EWh2, ELh2, EUh2, WTh2, rfl, hTmh2⟩ := hp3
    have hE : ∀ b, b < n - 1 → EFh2 b ≤ 24 ∧ 1 ≤ EWh2 b ∧ EWh2 b ≤ 24 := fun b hb2 => by have := tm_in hTmh2 (b := b) (by omega); omega
    have hTm := hTmh2
    have hP : va_P D vwCl [(m0, .inr (6, [.ref nw, .ref ps, .int (nI u), .ref im, .ref mk, .int (nI sd), .ref wd, .int (nI s), .ref so, .int (nI n), .ref mb, .ref ma, .ref mf, .ref mw, .ref ml, .ref mu, .int (nI (n - 1)), .ref wt, .int (nI 0), .ref ty])), (nw, .inl (cI, 241, .inl (nF NW))), (ps, .inl (cI, 4820, .inl (nF PS))), (im, .inl (cI, 484, .inl (nF IM))), (mk, .inl (cZ, 2, .inl (nF MK))), (wd, .inl (cI, 8, .inl (nF WD))), (so, .inl (cI, 24, .inl (nF SOh2))), (mb, .inl (cI, 24, .inl (nF EBh2))), (ma, .inl (cI, 24, .inl (nF EAh2))), (mf, .inl (cI, 24, .inl (nF EFh2))), (mw, .inl (cI, 24, .inl (nF EWh2))), (ml, .inl (cI, 24, .inl (nF ELh2))), (mu, .inl (cI, 24, .inl (oF EUh2))), (wt, .inl (cI, 200, .inl (oF WTh2))), (ty, .inl (cI, 8, .inl (nF TY)))] H := hP.sub [0, 1, 2, 3, 4, 5, 6, 7, 8, 9, 10, 11, 12, 13, 14] rfl
    have hD : va_D AA [(m0, .inr (6, [.ref nw, .ref ps, .int (nI u), .ref im, .ref mk, .int (nI sd), .ref wd, .int (nI s), .ref so, .int (nI n), .ref mb, .ref ma, .ref mf, .ref mw, .ref ml, .ref mu, .int (nI (n - 1)), .ref wt, .int (nI 0), .ref ty])), (nw, .inl (cI, 241, .inl (nF NW))), (ps, .inl (cI, 4820, .inl (nF PS))), (im, .inl (cI, 484, .inl (nF IM))), (mk, .inl (cZ, 2, .inl (nF MK))), (wd, .inl (cI, 8, .inl (nF WD))), (so, .inl (cI, 24, .inl (nF SOh2))), (mb, .inl (cI, 24, .inl (nF EBh2))), (ma, .inl (cI, 24, .inl (nF EAh2))), (mf, .inl (cI, 24, .inl (nF EFh2))), (mw, .inl (cI, 24, .inl (nF EWh2))), (ml, .inl (cI, 24, .inl (nF ELh2))), (mu, .inl (cI, 24, .inl (oF EUh2))), (wt, .inl (cI, 200, .inl (oF WTh2))), (ty, .inl (cI, 8, .inl (nF TY)))] := hD.sub [0, 1, 2, 3, 4, 5, 6, 7, 8, 9, 10, 11, 12, 13, 14] (by decide) rfl
    refine lv_iload_n hx hb dX6_told_18 rfl (lv_at hl 1 rfl) ?_
    refine lv_tableIn (tgt := 102) (off := 83) hx hb dX6_told_19 (by decide +kernel) (by decide +kernel) (by decide +kernel) (by decide) ?_
    refine lv_aload_n hx hb dX6_told_102 rfl (lv_at hl 0 rfl) ?_
    refine va_get (D := D) (ci := 6) (v := .int (nI (n - 1))) (C := RX6) (T := TX6) (N := 20) hx hb hts inX6 hown hK hP 0 rfl rfl 16 (by decide) (hts _ mf_X6_97) (fun _ h9 => h9) rfl dX6_told_103 ?_
    refine n_if_ne (tgt := 113) hx hb dX6_told_106 (by decide) (by omega) (fun c6 => ?_) (fun c6 => ?_)
    ·
      refine lv_aload_n hx hb dX6_told_113 rfl (lv_at hl 0 rfl) ?_
      refine va_get (D := D) (ci := 6) (v := .ref mb) (C := RX6) (T := TX6) (N := 20) hx hb hts inX6 hown hK hP 0 rfl rfl 10 (by decide) (hts _ mf_X6_29) (fun _ h9 => h9) rfl dX6_told_114 ?_
      refine lv_iconst (v := nI 0) hx hb dX6_told_117 (by decide +kernel) ?_
      refine n_iald hx hb hK hP 7 0 rfl rfl (k := 0) (by omega) (by decide) dX6_told_118 ?_
      refine tq (y := (oI (if 1 < n then BB 0 + 1 else 0))) (by rw [if_pos (by omega), oI_s, (tm_eq hTr hTm (show 0 + 1 < n by omega)).2.2.2.2.1]) ?_
      exact wr_iret hx hb hr hlk hP hD hS dX6_told_119 (⟨rfl, SOh2, n, EBh2, EAh2, EFh2, EWh2, ELh2, EUh2, n - 1, WTh2, 0, rfl⟩)
    ·
      refine lv_iconst (v := oI 0) hx hb dX6_told_109 (by decide +kernel) ?_
      refine lv_goto (tgt := 119) hx hb dX6_told_110 (by decide) ?_
      refine tq (y := (oI (if 1 < n then BB 0 + 1 else 0))) (by rw [if_neg (by omega)]) ?_
      exact wr_iret hx hb hr hlk hP hD hS dX6_told_119 (⟨rfl, SOh2, n, EBh2, EAh2, EFh2, EWh2, ELh2, EUh2, n - 1, WTh2, 0, rfl⟩)
  ·
    exact (c1 (by decide)).elim
set_option maxHeartbeats 4000000 in
set_option maxRecDepth 100000 in
theorem c_X6_told_7 (l : Launch) (D : va_G) (cI cJ cZ : ClassId) (m0 nw ps im mk wd so mb ma mf mw ml mu wt ty : Nat) (NW : Nat → Nat) (PS : Nat → Nat) (u : Nat) (IM : Nat → Nat) (MK : Nat → Nat) (sd : Nat) (WD : Nat → Nat) (s : Nat) (SO : Nat → Nat) (q : Nat) (EB : Nat → Nat) (EA : Nat → Nat) (EF : Nat → Nat) (EW : Nat → Nat) (EL : Nat → Nat) (EU : Nat → Nat) (br : Nat) (WT : Nat → Nat) (ww : Nat) (TY : Nat → Nat) (KS KL KW : Nat → Nat) (n A : Nat) (hn : n ≤ 24) (hk : ∀ k, k < n → Wf (KS k) (KL k)) (hw0 : Wf s A) (hR : RN NW KS KL KW n) (hRW : RW WD s A) (hso : Srt KS KL n) (BB BD BM BL BF BA BK : Nat → Nat) (hTr : TrX (gapF KS KL) n BB BD BM BL BF BA BK) (hv : ∀ k, k < n → KW k ≤ 9999) (sz : Nat) : WR l yX6_told cX6_told 4 (some .int) (rmN 6 133) D (ty3 cI cJ cZ) [.ref m0, .int (nI 7)] [(m0, .inr (6, [.ref nw, .ref ps, .int (nI u), .ref im, .ref mk, .int (nI sd), .ref wd, .int (nI s), .ref so, .int (nI q), .ref mb, .ref ma, .ref mf, .ref mw, .ref ml, .ref mu, .int (nI br), .ref wt, .int (nI ww), .ref ty])), (nw, .inl (cI, 241, .inl (nF NW))), (ps, .inl (cI, 4820, .inl (nF PS))), (im, .inl (cI, 484, .inl (nF IM))), (mk, .inl (cZ, 2, .inl (nF MK))), (wd, .inl (cI, 8, .inl (nF WD))), (so, .inl (cI, 24, .inl (nF SO))), (mb, .inl (cI, 24, .inl (nF EB))), (ma, .inl (cI, 24, .inl (nF EA))), (mf, .inl (cI, 24, .inl (nF EF))), (mw, .inl (cI, 24, .inl (nF EW))), (ml, .inl (cI, 24, .inl (nF EL))), (mu, .inl (cI, 24, .inl (oF EU))), (wt, .inl (cI, 200, .inl (oF WT))), (ty, .inl (cI, 8, .inl (nF TY)))] sz (fun x w => x = some (.int (oI (mxo BB (n - 1)))) ∧ ∃ (SO : Nat → Nat) (q : Nat) (EB EA EF EW EL EU : Nat → Nat) (br : Nat) (WT : Nat → Nat) (ww : Nat), w = [(m0, .inr (6, [.ref nw, .ref ps, .int (nI u), .ref im, .ref mk, .int (nI sd), .ref wd, .int (nI s), .ref so, .int (nI q), .ref mb, .ref ma, .ref mf, .ref mw, .ref ml, .ref mu, .int (nI br), .ref wt, .int (nI ww), .ref ty])), (nw, .inl (cI, 241, .inl (nF NW))), (ps, .inl (cI, 4820, .inl (nF PS))), (im, .inl (cI, 484, .inl (nF IM))), (mk, .inl (cZ, 2, .inl (nF MK))), (wd, .inl (cI, 8, .inl (nF WD))), (so, .inl (cI, 24, .inl (nF SO))), (mb, .inl (cI, 24, .inl (nF EB))), (ma, .inl (cI, 24, .inl (nF EA))), (mf, .inl (cI, 24, .inl (nF EF))), (mw, .inl (cI, 24, .inl (nF EW))), (ml, .inl (cI, 24, .inl (nF EL))), (mu, .inl (cI, 24, .inl (oF EU))), (wt, .inl (cI, 200, .inl (oF WT))), (ty, .inl (cI, 8, .inl (nF TY)))]) := by
  have hs8 := hw0.1
  have hA64 := hw0.2.1
  have hN0 := hR.1
  have hBK := tf_BK hTr hn
  have hDK := tf_DK hTr hn
  have hp := plc_le KS KL n s A
  have hcb := cbl_le KS KL n s A
  have hfl := fnd_le KS KL n s A
  refine wr_start (by decide) (Nat.le_of_ble_eq_true rfl) ?_
  intro pp ee ss mm below meth cd AA C0 hAA hP hK hD hS hN hnm ls hl
  obtain ⟨hx, hb, hr, hml, hown, hts, hlk⟩ := C0
  have hown : ss.vm.findClass RX6 = some mm.cls := hown
  have hl : lv_has ls 4 [(0, .ref m0), (1, .int (nI 7))] := hl
  have hP : va_P D vwCl [(m0, .inr (6, [.ref nw, .ref ps, .int (nI u), .ref im, .ref mk, .int (nI sd), .ref wd, .int (nI s), .ref so, .int (nI q), .ref mb, .ref ma, .ref mf, .ref mw, .ref ml, .ref mu, .int (nI br), .ref wt, .int (nI ww), .ref ty])), (nw, .inl (cI, 241, .inl (nF NW))), (ps, .inl (cI, 4820, .inl (nF PS))), (im, .inl (cI, 484, .inl (nF IM))), (mk, .inl (cZ, 2, .inl (nF MK))), (wd, .inl (cI, 8, .inl (nF WD))), (so, .inl (cI, 24, .inl (nF SO))), (mb, .inl (cI, 24, .inl (nF EB))), (ma, .inl (cI, 24, .inl (nF EA))), (mf, .inl (cI, 24, .inl (nF EF))), (mw, .inl (cI, 24, .inl (nF EW))), (ml, .inl (cI, 24, .inl (nF EL))), (mu, .inl (cI, 24, .inl (oF EU))), (wt, .inl (cI, 200, .inl (oF WT))), (ty, .inl (cI, 8, .inl (nF TY)))] ss.heap := hP
  refine lv_iload_n hx hb dX6_told_0 rfl (lv_at hl 1 rfl) ?_
  refine lv_iconst (v := nI 0) hx hb dX6_told_1 (by decide +kernel) ?_
  refine lv_bipush (v := nI 10) hx hb dX6_told_2 (by decide +kernel) ?_
  refine ro_S (As := [.int (nI 7), .int (nI 0), .int (nI 10)]) (rest := []) ⟨hx, hb, hml, hown, hts⟩ (c_X6_in l D cI cJ cZ 7 0 10 (by omega) (by omega) (by omega)) (k_X6_79 hts ⟨Nat.le_of_ble_eq_true rfl, Nat.le_of_ble_eq_true rfl⟩) hK hP [] rfl rfl hl.1 rfl (Nat.le_of_ble_eq_true rfl) dX6_told_4 ⟨Nat.le_of_ble_eq_true rfl, Nat.le_of_ble_eq_true rfl⟩ ?_
  refine b_if_ne (tgt := 13) hx hb dX6_told_7 (by decide) (fun c1 => ?_) (fun c1 => ?_)
  ·
    refine lv_aload_n hx hb dX6_told_13 rfl (lv_at hl 0 rfl) ?_
    refine lv_iconst (v := oI 0) hx hb dX6_told_14 (by decide +kernel) ?_
    refine wr_V (As := [.int (oI 0)]) (rest := []) (wc := [(m0, .inr (6, [.ref nw, .ref ps, .int (nI u), .ref im, .ref mk, .int (nI sd), .ref wd, .int (nI s), .ref so, .int (nI q), .ref mb, .ref ma, .ref mf, .ref mw, .ref ml, .ref mu, .int (nI br), .ref wt, .int (nI ww), .ref ty])), (nw, .inl (cI, 241, .inl (nF NW))), (ps, .inl (cI, 4820, .inl (nF PS))), (im, .inl (cI, 484, .inl (nF IM))), (mk, .inl (cZ, 2, .inl (nF MK))), (wd, .inl (cI, 8, .inl (nF WD))), (so, .inl (cI, 24, .inl (nF SO))), (mb, .inl (cI, 24, .inl (nF EB))), (ma, .inl (cI, 24, .inl (nF EA))), (mf, .inl (cI, 24, .inl (nF EF))), (mw, .inl (cI, 24, .inl (nF EW))), (ml, .inl (cI, 24, .inl (nF EL))), (mu, .inl (cI, 24, .inl (oF EU))), (wt, .inl (cI, 200, .inl (oF WT))), (ty, .inl (cI, 8, .inl (nF TY)))]) (wr := []) ⟨hx, hb, hml, hown, hts⟩ (c_X6_findsBut_all l D cI cJ cZ m0 nw ps im mk wd so mb ma mf mw ml mu wt ty NW PS u IM MK sd WD s SO q EB EA EF EW EL EU br WT ww TY KS KL KW n A hn hk hw0 hR hRW hso _) (k_X6_119 hts ⟨Nat.le_of_ble_eq_true rfl, Nat.le_of_ble_eq_true rfl⟩) hK hN hP hD hS hAA 0 rfl rfl rfl [0, 1, 2, 3, 4, 5, 6, 7, 8, 9, 10, 11, 12, 13, 14] [] rfl rfl (by decide) (by decide) (by decide) rfl hl.1 rfl (Nat.le_of_ble_eq_true rfl) dX6_told_15 ⟨Nat.le_of_ble_eq_true rfl, Nat.le_of_ble_eq_true rfl⟩ (fun v4 w5 H locs hp3 hP hD hS => ?_)
    obtain ⟨rfl, SOh2, EBh2, EAh2, EFh2, EWh2, ELh2, EUh2, WTh2, rfl, hTmh2⟩ := hp3
    have hE : ∀ b, b < n - 1 → EFh2 b ≤ 24 ∧ 1 ≤ EWh2 b ∧ EWh2 b ≤ 24 := fun b hb2 => by have := tm_in hTmh2 (b := b) (by omega); omega
    have hTm := hTmh2
    have hP : va_P D vwCl [(m0, .inr (6, [.ref nw, .ref ps, .int (nI u), .ref im, .ref mk, .int (nI sd), .ref wd, .int (nI s), .ref so, .int (nI n), .ref mb, .ref ma, .ref mf, .ref mw, .ref ml, .ref mu, .int (nI (n - 1)), .ref wt, .int (nI 0), .ref ty])), (nw, .inl (cI, 241, .inl (nF NW))), (ps, .inl (cI, 4820, .inl (nF PS))), (im, .inl (cI, 484, .inl (nF IM))), (mk, .inl (cZ, 2, .inl (nF MK))), (wd, .inl (cI, 8, .inl (nF WD))), (so, .inl (cI, 24, .inl (nF SOh2))), (mb, .inl (cI, 24, .inl (nF EBh2))), (ma, .inl (cI, 24, .inl (nF EAh2))), (mf, .inl (cI, 24, .inl (nF EFh2))), (mw, .inl (cI, 24, .inl (nF EWh2))), (ml, .inl (cI, 24, .inl (nF ELh2))), (mu, .inl (cI, 24, .inl (oF EUh2))), (wt, .inl (cI, 200, .inl (oF WTh2))), (ty, .inl (cI, 8, .inl (nF TY)))] H := hP.sub [0, 1, 2, 3, 4, 5, 6, 7, 8, 9, 10, 11, 12, 13, 14] rfl
    have hD : va_D AA [(m0, .inr (6, [.ref nw, .ref ps, .int (nI u), .ref im, .ref mk, .int (nI sd), .ref wd, .int (nI s), .ref so, .int (nI n), .ref mb, .ref ma, .ref mf, .ref mw, .ref ml, .ref mu, .int (nI (n - 1)), .ref wt, .int (nI 0), .ref ty])), (nw, .inl (cI, 241, .inl (nF NW))), (ps, .inl (cI, 4820, .inl (nF PS))), (im, .inl (cI, 484, .inl (nF IM))), (mk, .inl (cZ, 2, .inl (nF MK))), (wd, .inl (cI, 8, .inl (nF WD))), (so, .inl (cI, 24, .inl (nF SOh2))), (mb, .inl (cI, 24, .inl (nF EBh2))), (ma, .inl (cI, 24, .inl (nF EAh2))), (mf, .inl (cI, 24, .inl (nF EFh2))), (mw, .inl (cI, 24, .inl (nF EWh2))), (ml, .inl (cI, 24, .inl (nF ELh2))), (mu, .inl (cI, 24, .inl (oF EUh2))), (wt, .inl (cI, 200, .inl (oF WTh2))), (ty, .inl (cI, 8, .inl (nF TY)))] := hD.sub [0, 1, 2, 3, 4, 5, 6, 7, 8, 9, 10, 11, 12, 13, 14] (by decide) rfl
    refine lv_iload_n hx hb dX6_told_18 rfl (lv_at hl 1 rfl) ?_
    refine lv_tableIn (tgt := 120) (off := 101) hx hb dX6_told_19 (by decide +kernel) (by decide +kernel) (by decide +kernel) (by decide) ?_
    refine lv_iconst (v := oI 0) hx hb dX6_told_120 (by decide +kernel) ?_
    refine lv_istore_n (lv' := [(2, .int (oI 0)), (0, .ref m0), (1, .int (nI 7))]) hx hb dX6_told_121 rfl hl (by decide) rfl (fun ls hl => ?_)
    refine lv_iconst (v := nI 0) hx hb dX6_told_122 (by decide +kernel) ?_
    refine lv_istore_n (lv' := [(3, .int (nI 0)), (2, .int (oI 0)), (0, .ref m0), (1, .int (nI 7))]) hx hb dX6_told_123 rfl hl (by decide) rfl (fun ls hl => ?_)
    have loop124 : ∀ (d : Nat) (i : Nat) (g : Nat) (H : Heap) (locs : List Loc) (ls : Array Slot), n - 1 - i < d → (i ≤ n - 1) → (g = mxo EBh2 i) → va_P D vwCl [(m0, .inr (6, [.ref nw, .ref ps, .int (nI u), .ref im, .ref mk, .int (nI sd), .ref wd, .int (nI s), .ref so, .int (nI n), .ref mb, .ref ma, .ref mf, .ref mw, .ref ml, .ref mu, .int (nI (n - 1)), .ref wt, .int (nI 0), .ref ty])), (nw, .inl (cI, 241, .inl (nF NW))), (ps, .inl (cI, 4820, .inl (nF PS))), (im, .inl (cI, 484, .inl (nF IM))), (mk, .inl (cZ, 2, .inl (nF MK))), (wd, .inl (cI, 8, .inl (nF WD))), (so, .inl (cI, 24, .inl (nF SOh2))), (mb, .inl (cI, 24, .inl (nF EBh2))), (ma, .inl (cI, 24, .inl (nF EAh2))), (mf, .inl (cI, 24, .inl (nF EFh2))), (mw, .inl (cI, 24, .inl (nF EWh2))), (ml, .inl (cI, 24, .inl (nF ELh2))), (mu, .inl (cI, 24, .inl (oF EUh2))), (wt, .inl (cI, 200, .inl (oF WTh2))), (ty, .inl (cI, 8, .inl (nF TY)))] H → va_D AA [(m0, .inr (6, [.ref nw, .ref ps, .int (nI u), .ref im, .ref mk, .int (nI sd), .ref wd, .int (nI s), .ref so, .int (nI n), .ref mb, .ref ma, .ref mf, .ref mw, .ref ml, .ref mu, .int (nI (n - 1)), .ref wt, .int (nI 0), .ref ty])), (nw, .inl (cI, 241, .inl (nF NW))), (ps, .inl (cI, 4820, .inl (nF PS))), (im, .inl (cI, 484, .inl (nF IM))), (mk, .inl (cZ, 2, .inl (nF MK))), (wd, .inl (cI, 8, .inl (nF WD))), (so, .inl (cI, 24, .inl (nF SOh2))), (mb, .inl (cI, 24, .inl (nF EBh2))), (ma, .inl (cI, 24, .inl (nF EAh2))), (mf, .inl (cI, 24, .inl (nF EFh2))), (mw, .inl (cI, 24, .inl (nF EWh2))), (ml, .inl (cI, 24, .inl (nF ELh2))), (mu, .inl (cI, 24, .inl (oF EUh2))), (wt, .inl (cI, 200, .inl (oF WTh2))), (ty, .inl (cI, 8, .inl (nF TY)))] → va_S AA ss.heap H locs → lv_has ls 4 [(0, .ref m0), (2, .int (oI g)), (3, .int (nI i))] → W pp l ee (rmN 6 133) ss mm [.ref m0, .int (nI 7)].toArray below meth cd H locs 0 0 (MQ below (QW D AA (fun x w => x = some (.int (oI (mxo BB (n - 1)))) ∧ ∃ (SO : Nat → Nat) (q : Nat) (EB EA EF EW EL EU : Nat → Nat) (br : Nat) (WT : Nat → Nat) (ww : Nat), w = [(m0, .inr (6, [.ref nw, .ref ps, .int (nI u), .ref im, .ref mk, .int (nI sd), .ref wd, .int (nI s), .ref so, .int (nI q), .ref mb, .ref ma, .ref mf, .ref mw, .ref ml, .ref mu, .int (nI br), .ref wt, .int (nI ww), .ref ty])), (nw, .inl (cI, 241, .inl (nF NW))), (ps, .inl (cI, 4820, .inl (nF PS))), (im, .inl (cI, 484, .inl (nF IM))), (mk, .inl (cZ, 2, .inl (nF MK))), (wd, .inl (cI, 8, .inl (nF WD))), (so, .inl (cI, 24, .inl (nF SO))), (mb, .inl (cI, 24, .inl (nF EB))), (ma, .inl (cI, 24, .inl (nF EA))), (mf, .inl (cI, 24, .inl (nF EF))), (mw, .inl (cI, 24, .inl (nF EW))), (ml, .inl (cI, 24, .inl (nF EL))), (mu, .inl (cI, 24, .inl (oF EU))), (wt, .inl (cI, 200, .inl (oF WT))), (ty, .inl (cI, 8, .inl (nF TY)))])) [.ref m0, .int (nI 7)].toArray ss 0 0 AA) (F0 mm 124 ls []) := by
      intro d
      induction d with
      | zero => intro i g H locs ls h; exact absurd h (Nat.not_lt_zero _)
      | succ d ih124 =>
        intro i g H locs ls hd124 hi hg hP hD hS hl
        have hEB : ∀ y, y < n - 1 → EBh2 y ≤ 72 := fun y hy => by rw [(tm_eq hTr hTm (show y + 1 < n by omega)).2.2.2.2.1]; exact tf_B hTr y (by omega)
        have hg1 : g ≤ 73 := by rw [hg]; exact mxo_le (fun y hy => by have := hEB y (by omega); omega)
        refine lv_iload_n hx hb dX6_told_124 rfl (lv_at hl 2 rfl) ?_
        refine lv_aload_n hx hb dX6_told_125 rfl (lv_at hl 0 rfl) ?_
        refine va_get (D := D) (ci := 6) (v := .int (nI (n - 1))) (C := RX6) (T := TX6) (N := 20) hx hb hts inX6 hown hK hP 0 rfl rfl 16 (by decide) (hts _ mf_X6_97) (fun _ h9 => h9) rfl dX6_told_126 ?_
        refine n_ge (tgt := 149) hx hb dX6_told_129 (by decide) (by omega) (by omega) (fun c6 => ?_) (fun c6 => ?_)
        ·
          refine lv_iload_n hx hb dX6_told_149 rfl (lv_at hl 1 rfl) ?_
          refine tq (y := (oI (mxo BB (n - 1)))) (by rw [hg, show i = n - 1 by omega, mxo_congr (fun y hy => (tm_eq hTr hTm (show y + 1 < n by omega)).2.2.2.2.1)]) ?_
          exact wr_iret hx hb hr hlk hP hD hS dX6_told_150 (⟨rfl, SOh2, n, EBh2, EAh2, EFh2, EWh2, ELh2, EUh2, n - 1, WTh2, 0, rfl⟩)
        ·
          have hebi := hEB i (by omega)
          refine lv_iload_n hx hb dX6_told_132 rfl (lv_at hl 1 rfl) ?_
          refine lv_aload_n hx hb dX6_told_133 rfl (lv_at hl 0 rfl) ?_
          refine va_get (D := D) (ci := 6) (v := .ref mb) (C := RX6) (T := TX6) (N := 20) hx hb hts inX6 hown hK hP 0 rfl rfl 10 (by decide) (hts _ mf_X6_29) (fun _ h9 => h9) rfl dX6_told_134 ?_
          refine lv_iload_n hx hb dX6_told_137 rfl (lv_at hl 2 rfl) ?_
          refine n_iald hx hb hK hP 7 0 rfl rfl (k := i) (by omega) (by decide) dX6_told_138 ?_
          refine ro_S (As := [.int (oI g), .int (nI (EBh2 i))]) (rest := []) ⟨hx, hb, hml, hown, hts⟩ (c_X6_more_o l D cI cJ cZ g (EBh2 i) (by omega) (by omega)) (k_X6_116 hts ⟨Nat.le_of_ble_eq_true rfl, Nat.le_of_ble_eq_true rfl⟩) hK hP [] rfl rfl hl.1 rfl (Nat.le_of_ble_eq_true rfl) dX6_told_139 ⟨Nat.le_of_ble_eq_true rfl, Nat.le_of_ble_eq_true rfl⟩ ?_
          refine lv_istore_n (lv' := [(2, .int (oI (max g ((EBh2 i) + 1)))), (0, .ref m0), (3, .int (nI i))]) hx hb dX6_told_142 rfl hl (by decide) rfl (fun ls hl => ?_)
          refine lv_iinc (v := nI (i + 1)) (lv' := [(3, .int (nI (i + 1))), (2, .int (oI (max g ((EBh2 i) + 1)))), (0, .ref m0)]) hx hb dX6_told_143 hl (k := 2) rfl (nI_add i 1) (by decide) rfl (fun ls hl => ?_)
          refine lv_goto (tgt := 124) hx hb dX6_told_146 (by decide) ?_
          exact ih124 (i + 1) (max g ((EBh2 i) + 1)) _ _ ls (by omega) (by omega) (by rw [hg]; rfl) hP hD hS (lv_sub hl [2, 1, 0] rfl)
    exact loop124 _ 0 0 _ _ ls (Nat.lt_succ_self _) (Nat.zero_le _) rfl hP hD hS (lv_sub hl [2, 1, 0] rfl)
  ·
    exact (c1 (by decide)).elim
set_option maxHeartbeats 4000000 in
set_option maxRecDepth 100000 in
theorem c_X6_told_8 (l : Launch) (D : va_G) (cI cJ cZ : ClassId) (m0 nw ps im mk wd so mb ma mf mw ml mu wt ty : Nat) (NW : Nat → Nat) (PS : Nat → Nat) (u : Nat) (IM : Nat → Nat) (MK : Nat → Nat) (sd : Nat) (WD : Nat → Nat) (s : Nat) (SO : Nat → Nat) (q : Nat) (EB : Nat → Nat) (EA : Nat → Nat) (EF : Nat → Nat) (EW : Nat → Nat) (EL : Nat → Nat) (EU : Nat → Nat) (br : Nat) (WT : Nat → Nat) (ww : Nat) (TY : Nat → Nat) (KS KL KW : Nat → Nat) (n A : Nat) (hn : n ≤ 24) (hk : ∀ k, k < n → Wf (KS k) (KL k)) (hw0 : Wf s A) (hR : RN NW KS KL KW n) (hRW : RW WD s A) (hso : Srt KS KL n) (BB BD BM BL BF BA BK : Nat → Nat) (hTr : TrX (gapF KS KL) n BB BD BM BL BF BA BK) (hv : ∀ k, k < n → KW k ≤ 9999)  (sz : Nat) : WR l yX6_told cX6_told 4 (some .int) (rmN 6 133) D (ty3 cI cJ cZ) [.ref m0, .int (nI 8)] [(m0, .inr (6, [.ref nw, .ref ps, .int (nI u), .ref im, .ref mk, .int (nI sd), .ref wd, .int (nI s), .ref so, .int (nI q), .ref mb, .ref ma, .ref mf, .ref mw, .ref ml, .ref mu, .int (nI br), .ref wt, .int (nI ww), .ref ty])), (nw, .inl (cI, 241, .inl (nF NW))), (ps, .inl (cI, 4820, .inl (nF PS))), (im, .inl (cI, 484, .inl (nF IM))), (mk, .inl (cZ, 2, .inl (nF MK))), (wd, .inl (cI, 8, .inl (nF WD))), (so, .inl (cI, 24, .inl (nF SO))), (mb, .inl (cI, 24, .inl (nF EB))), (ma, .inl (cI, 24, .inl (nF EA))), (mf, .inl (cI, 24, .inl (nF EF))), (mw, .inl (cI, 24, .inl (nF EW))), (ml, .inl (cI, 24, .inl (nF EL))), (mu, .inl (cI, 24, .inl (oF EU))), (wt, .inl (cI, 200, .inl (oF WT))), (ty, .inl (cI, 8, .inl (nF TY)))] sz (fun x w => x = some (.int (nI (plc KS KL n s A))) ∧ ∃ (SO : Nat → Nat) (q : Nat) (EB EA EF EW EL EU : Nat → Nat) (br : Nat) (WT : Nat → Nat) (ww : Nat), w = [(m0, .inr (6, [.ref nw, .ref ps, .int (nI u), .ref im, .ref mk, .int (nI sd), .ref wd, .int (nI s), .ref so, .int (nI q), .ref mb, .ref ma, .ref mf, .ref mw, .ref ml, .ref mu, .int (nI br), .ref wt, .int (nI ww), .ref ty])), (nw, .inl (cI, 241, .inl (nF NW))), (ps, .inl (cI, 4820, .inl (nF PS))), (im, .inl (cI, 484, .inl (nF IM))), (mk, .inl (cZ, 2, .inl (nF MK))), (wd, .inl (cI, 8, .inl (nF WD))), (so, .inl (cI, 24, .inl (nF SO))), (mb, .inl (cI, 24, .inl (nF EB))), (ma, .inl (cI, 24, .inl (nF EA))), (mf, .inl (cI, 24, .inl (nF EF))), (mw, .inl (cI, 24, .inl (nF EW))), (ml, .inl (cI, 24, .inl (nF EL))), (mu, .inl (cI, 24, .inl (oF EU))), (wt, .inl (cI, 200, .inl (oF WT))), (ty, .inl (cI, 8, .inl (nF TY)))]) := by
  have hs8 := hw0.1
  have hA64 := hw0.2.1
  have hN0 := hR.1
  have hBK := tf_BK hTr hn
  have hDK := tf_DK hTr hn
  have hp := plc_le KS KL n s A
  have hcb := cbl_le KS KL n s A
  have hfl := fnd_le KS KL n s A
  refine wr_start (by decide) (Nat.le_of_ble_eq_true rfl) ?_
  intro pp ee ss mm below meth cd AA C0 hAA hP hK hD hS hN hnm ls hl
  obtain ⟨hx, hb, hr, hml, hown, hts, hlk⟩ := C0
  have hown : ss.vm.findClass RX6 = some mm.cls := hown
  have hl : lv_has ls 4 [(0, .ref m0), (1, .int (nI 8))] := hl
  have hP : va_P D vwCl [(m0, .inr (6, [.ref nw, .ref ps, .int (nI u), .ref im, .ref mk, .int (nI sd), .ref wd, .int (nI s), .ref so, .int (nI q), .ref mb, .ref ma, .ref mf, .ref mw, .ref ml, .ref mu, .int (nI br), .ref wt, .int (nI ww), .ref ty])), (nw, .inl (cI, 241, .inl (nF NW))), (ps, .inl (cI, 4820, .inl (nF PS))), (im, .inl (cI, 484, .inl (nF IM))), (mk, .inl (cZ, 2, .inl (nF MK))), (wd, .inl (cI, 8, .inl (nF WD))), (so, .inl (cI, 24, .inl (nF SO))), (mb, .inl (cI, 24, .inl (nF EB))), (ma, .inl (cI, 24, .inl (nF EA))), (mf, .inl (cI, 24, .inl (nF EF))), (mw, .inl (cI, 24, .inl (nF EW))), (ml, .inl (cI, 24, .inl (nF EL))), (mu, .inl (cI, 24, .inl (oF EU))), (wt, .inl (cI, 200, .inl (oF WT))), (ty, .inl (cI, 8, .inl (nF TY)))] ss.heap := hP
  refine lv_iload_n hx hb dX6_told_0 rfl (lv_at hl 1 rfl) ?_
  refine lv_iconst (v := nI 0) hx hb dX6_told_1 (by decide +kernel) ?_
  refine lv_bipush (v := nI 10) hx hb dX6_told_2 (by decide +kernel) ?_
  refine ro_S (As := [.int (nI 8), .int (nI 0), .int (nI 10)]) (rest := []) ⟨hx, hb, hml, hown, hts⟩ (c_X6_in l D cI cJ cZ 8 0 10 (by omega) (by omega) (by omega)) (k_X6_79 hts ⟨Nat.le_of_ble_eq_true rfl, Nat.le_of_ble_eq_true rfl⟩) hK hP [] rfl rfl hl.1 rfl (Nat.le_of_ble_eq_true rfl) dX6_told_4 ⟨Nat.le_of_ble_eq_true rfl, Nat.le_of_ble_eq_true rfl⟩ ?_
  refine b_if_ne (tgt := 13) hx hb dX6_told_7 (by decide) (fun c1 => ?_) (fun c1 => ?_)
  ·
    refine lv_aload_n hx hb dX6_told_13 rfl (lv_at hl 0 rfl) ?_
    refine lv_iconst (v := oI 0) hx hb dX6_told_14 (by decide +kernel) ?_
    refine wr_V (As := [.int (oI 0)]) (rest := []) (wc := [(m0, .inr (6, [.ref nw, .ref ps, .int (nI u), .ref im, .ref mk, .int (nI sd), .ref wd, .int (nI s), .ref so, .int (nI q), .ref mb, .ref ma, .ref mf, .ref mw, .ref ml, .ref mu, .int (nI br), .ref wt, .int (nI ww), .ref ty])), (nw, .inl (cI, 241, .inl (nF NW))), (ps, .inl (cI, 4820, .inl (nF PS))), (im, .inl (cI, 484, .inl (nF IM))), (mk, .inl (cZ, 2, .inl (nF MK))), (wd, .inl (cI, 8, .inl (nF WD))), (so, .inl (cI, 24, .inl (nF SO))), (mb, .inl (cI, 24, .inl (nF EB))), (ma, .inl (cI, 24, .inl (nF EA))), (mf, .inl (cI, 24, .inl (nF EF))), (mw, .inl (cI, 24, .inl (nF EW))), (ml, .inl (cI, 24, .inl (nF EL))), (mu, .inl (cI, 24, .inl (oF EU))), (wt, .inl (cI, 200, .inl (oF WT))), (ty, .inl (cI, 8, .inl (nF TY)))]) (wr := []) ⟨hx, hb, hml, hown, hts⟩ (c_X6_findsBut_all l D cI cJ cZ m0 nw ps im mk wd so mb ma mf mw ml mu wt ty NW PS u IM MK sd WD s SO q EB EA EF EW EL EU br WT ww TY KS KL KW n A hn hk hw0 hR hRW hso _) (k_X6_119 hts ⟨Nat.le_of_ble_eq_true rfl, Nat.le_of_ble_eq_true rfl⟩) hK hN hP hD hS hAA 0 rfl rfl rfl [0, 1, 2, 3, 4, 5, 6, 7, 8, 9, 10, 11, 12, 13, 14] [] rfl rfl (by decide) (by decide) (by decide) rfl hl.1 rfl (Nat.le_of_ble_eq_true rfl) dX6_told_15 ⟨Nat.le_of_ble_eq_true rfl, Nat.le_of_ble_eq_true rfl⟩ (fun v4 w5 H locs hp3 hP hD hS => ?_)
    obtain ⟨rfl, SOh2, EBh2, EAh2, EFh2, EWh2, ELh2, EUh2, WTh2, rfl, hTmh2⟩ := hp3
    have hE : ∀ b, b < n - 1 → EFh2 b ≤ 24 ∧ 1 ≤ EWh2 b ∧ EWh2 b ≤ 24 := fun b hb2 => by have := tm_in hTmh2 (b := b) (by omega); omega
    have hTm := hTmh2
    have hP : va_P D vwCl [(m0, .inr (6, [.ref nw, .ref ps, .int (nI u), .ref im, .ref mk, .int (nI sd), .ref wd, .int (nI s), .ref so, .int (nI n), .ref mb, .ref ma, .ref mf, .ref mw, .ref ml, .ref mu, .int (nI (n - 1)), .ref wt, .int (nI 0), .ref ty])), (nw, .inl (cI, 241, .inl (nF NW))), (ps, .inl (cI, 4820, .inl (nF PS))), (im, .inl (cI, 484, .inl (nF IM))), (mk, .inl (cZ, 2, .inl (nF MK))), (wd, .inl (cI, 8, .inl (nF WD))), (so, .inl (cI, 24, .inl (nF SOh2))), (mb, .inl (cI, 24, .inl (nF EBh2))), (ma, .inl (cI, 24, .inl (nF EAh2))), (mf, .inl (cI, 24, .inl (nF EFh2))), (mw, .inl (cI, 24, .inl (nF EWh2))), (ml, .inl (cI, 24, .inl (nF ELh2))), (mu, .inl (cI, 24, .inl (oF EUh2))), (wt, .inl (cI, 200, .inl (oF WTh2))), (ty, .inl (cI, 8, .inl (nF TY)))] H := hP.sub [0, 1, 2, 3, 4, 5, 6, 7, 8, 9, 10, 11, 12, 13, 14] rfl
    have hD : va_D AA [(m0, .inr (6, [.ref nw, .ref ps, .int (nI u), .ref im, .ref mk, .int (nI sd), .ref wd, .int (nI s), .ref so, .int (nI n), .ref mb, .ref ma, .ref mf, .ref mw, .ref ml, .ref mu, .int (nI (n - 1)), .ref wt, .int (nI 0), .ref ty])), (nw, .inl (cI, 241, .inl (nF NW))), (ps, .inl (cI, 4820, .inl (nF PS))), (im, .inl (cI, 484, .inl (nF IM))), (mk, .inl (cZ, 2, .inl (nF MK))), (wd, .inl (cI, 8, .inl (nF WD))), (so, .inl (cI, 24, .inl (nF SOh2))), (mb, .inl (cI, 24, .inl (nF EBh2))), (ma, .inl (cI, 24, .inl (nF EAh2))), (mf, .inl (cI, 24, .inl (nF EFh2))), (mw, .inl (cI, 24, .inl (nF EWh2))), (ml, .inl (cI, 24, .inl (nF ELh2))), (mu, .inl (cI, 24, .inl (oF EUh2))), (wt, .inl (cI, 200, .inl (oF WTh2))), (ty, .inl (cI, 8, .inl (nF TY)))] := hD.sub [0, 1, 2, 3, 4, 5, 6, 7, 8, 9, 10, 11, 12, 13, 14] (by decide) rfl
    refine lv_iload_n hx hb dX6_told_18 rfl (lv_at hl 1 rfl) ?_
    refine lv_tableIn (tgt := 151) (off := 132) hx hb dX6_told_19 (by decide +kernel) (by decide +kernel) (by decide +kernel) (by decide) ?_
    refine lv_aload_n hx hb dX6_told_151 rfl (lv_at hl 0 rfl) ?_
    refine ro_V (As := []) (rest := []) ⟨hx, hb, hml, hown, hts⟩ (c_X6_place l D cI cJ cZ m0 nw ps im mk wd so mb ma mf mw ml mu wt ty NW PS u IM MK sd WD s SOh2 n EBh2 EAh2 EFh2 EWh2 ELh2 EUh2 (n - 1) WTh2 0 TY KS KL KW n A hn hk hw0 hR hRW) (k_X6_75 hts ⟨Nat.le_of_ble_eq_true rfl, Nat.le_of_ble_eq_true rfl⟩) hK hP 0 rfl rfl rfl [0, 1, 2, 3, 4, 5, 6, 7, 8, 9, 10, 11, 12, 13, 14] rfl rfl hl.1 rfl (Nat.le_of_ble_eq_true rfl) dX6_told_152 ⟨Nat.le_of_ble_eq_true rfl, Nat.le_of_ble_eq_true rfl⟩ ?_
    exact wr_iret hx hb hr hlk hP hD hS dX6_told_155 (⟨rfl, SOh2, n, EBh2, EAh2, EFh2, EWh2, ELh2, EUh2, n - 1, WTh2, 0, rfl⟩)
  ·
    exact (c1 (by decide)).elim
set_option maxHeartbeats 4000000 in
set_option maxRecDepth 100000 in
theorem c_X6_told_9 (l : Launch) (D : va_G) (cI cJ cZ : ClassId) (m0 nw ps im mk wd so mb ma mf mw ml mu wt ty : Nat) (NW : Nat → Nat) (PS : Nat → Nat) (u : Nat) (IM : Nat → Nat) (MK : Nat → Nat) (sd : Nat) (WD : Nat → Nat) (s : Nat) (SO : Nat → Nat) (q : Nat) (EB : Nat → Nat) (EA : Nat → Nat) (EF : Nat → Nat) (EW : Nat → Nat) (EL : Nat → Nat) (EU : Nat → Nat) (br : Nat) (WT : Nat → Nat) (ww : Nat) (TY : Nat → Nat) (KS KL KW : Nat → Nat) (n A : Nat) (hn : n ≤ 24) (hk : ∀ k, k < n → Wf (KS k) (KL k)) (hw0 : Wf s A) (hR : RN NW KS KL KW n) (hRW : RW WD s A) (hso : Srt KS KL n) (BB BD BM BL BF BA BK : Nat → Nat) (hTr : TrX (gapF KS KL) n BB BD BM BL BF BA BK) (hv : ∀ k, k < n → KW k ≤ 9999)  (sz : Nat) : WR l yX6_told cX6_told 4 (some .int) (rmN 6 133) D (ty3 cI cJ cZ) [.ref m0, .int (nI 9)] [(m0, .inr (6, [.ref nw, .ref ps, .int (nI u), .ref im, .ref mk, .int (nI sd), .ref wd, .int (nI s), .ref so, .int (nI q), .ref mb, .ref ma, .ref mf, .ref mw, .ref ml, .ref mu, .int (nI br), .ref wt, .int (nI ww), .ref ty])), (nw, .inl (cI, 241, .inl (nF NW))), (ps, .inl (cI, 4820, .inl (nF PS))), (im, .inl (cI, 484, .inl (nF IM))), (mk, .inl (cZ, 2, .inl (nF MK))), (wd, .inl (cI, 8, .inl (nF WD))), (so, .inl (cI, 24, .inl (nF SO))), (mb, .inl (cI, 24, .inl (nF EB))), (ma, .inl (cI, 24, .inl (nF EA))), (mf, .inl (cI, 24, .inl (nF EF))), (mw, .inl (cI, 24, .inl (nF EW))), (ml, .inl (cI, 24, .inl (nF EL))), (mu, .inl (cI, 24, .inl (oF EU))), (wt, .inl (cI, 200, .inl (oF WT))), (ty, .inl (cI, 8, .inl (nF TY)))] sz (fun x w => x = some (.int (oI (fnd KS KL n s A))) ∧ ∃ (SO : Nat → Nat) (q : Nat) (EB EA EF EW EL EU : Nat → Nat) (br : Nat) (WT : Nat → Nat) (ww : Nat), w = [(m0, .inr (6, [.ref nw, .ref ps, .int (nI u), .ref im, .ref mk, .int (nI sd), .ref wd, .int (nI s), .ref so, .int (nI q), .ref mb, .ref ma, .ref mf, .ref mw, .ref ml, .ref mu, .int (nI br), .ref wt, .int (nI ww), .ref ty])), (nw, .inl (cI, 241, .inl (nF NW))), (ps, .inl (cI, 4820, .inl (nF PS))), (im, .inl (cI, 484, .inl (nF IM))), (mk, .inl (cZ, 2, .inl (nF MK))), (wd, .inl (cI, 8, .inl (nF WD))), (so, .inl (cI, 24, .inl (nF SO))), (mb, .inl (cI, 24, .inl (nF EB))), (ma, .inl (cI, 24, .inl (nF EA))), (mf, .inl (cI, 24, .inl (nF EF))), (mw, .inl (cI, 24, .inl (nF EW))), (ml, .inl (cI, 24, .inl (nF EL))), (mu, .inl (cI, 24, .inl (oF EU))), (wt, .inl (cI, 200, .inl (oF WT))), (ty, .inl (cI, 8, .inl (nF TY)))]) := by
  have hs8 := hw0.1
  have hA64 := hw0.2.1
  have hN0 := hR.1
  have hBK := tf_BK hTr hn
  have hDK := tf_DK hTr hn
  have hp := plc_le KS KL n s A
  have hcb := cbl_le KS KL n s A
  have hfl := fnd_le KS KL n s A
  refine wr_start (by decide) (Nat.le_of_ble_eq_true rfl) ?_
  intro pp ee ss mm below meth cd AA C0 hAA hP hK hD hS hN hnm ls hl
  obtain ⟨hx, hb, hr, hml, hown, hts, hlk⟩ := C0
  have hown : ss.vm.findClass RX6 = some mm.cls := hown
  have hl : lv_has ls 4 [(0, .ref m0), (1, .int (nI 9))] := hl
  have hP : va_P D vwCl [(m0, .inr (6, [.ref nw, .ref ps, .int (nI u), .ref im, .ref mk, .int (nI sd), .ref wd, .int (nI s), .ref so, .int (nI q), .ref mb, .ref ma, .ref mf, .ref mw, .ref ml, .ref mu, .int (nI br), .ref wt, .int (nI ww), .ref ty])), (nw, .inl (cI, 241, .inl (nF NW))), (ps, .inl (cI, 4820, .inl (nF PS))), (im, .inl (cI, 484, .inl (nF IM))), (mk, .inl (cZ, 2, .inl (nF MK))), (wd, .inl (cI, 8, .inl (nF WD))), (so, .inl (cI, 24, .inl (nF SO))), (mb, .inl (cI, 24, .inl (nF EB))), (ma, .inl (cI, 24, .inl (nF EA))), (mf, .inl (cI, 24, .inl (nF EF))), (mw, .inl (cI, 24, .inl (nF EW))), (ml, .inl (cI, 24, .inl (nF EL))), (mu, .inl (cI, 24, .inl (oF EU))), (wt, .inl (cI, 200, .inl (oF WT))), (ty, .inl (cI, 8, .inl (nF TY)))] ss.heap := hP
  refine lv_iload_n hx hb dX6_told_0 rfl (lv_at hl 1 rfl) ?_
  refine lv_iconst (v := nI 0) hx hb dX6_told_1 (by decide +kernel) ?_
  refine lv_bipush (v := nI 10) hx hb dX6_told_2 (by decide +kernel) ?_
  refine ro_S (As := [.int (nI 9), .int (nI 0), .int (nI 10)]) (rest := []) ⟨hx, hb, hml, hown, hts⟩ (c_X6_in l D cI cJ cZ 9 0 10 (by omega) (by omega) (by omega)) (k_X6_79 hts ⟨Nat.le_of_ble_eq_true rfl, Nat.le_of_ble_eq_true rfl⟩) hK hP [] rfl rfl hl.1 rfl (Nat.le_of_ble_eq_true rfl) dX6_told_4 ⟨Nat.le_of_ble_eq_true rfl, Nat.le_of_ble_eq_true rfl⟩ ?_
  refine b_if_ne (tgt := 13) hx hb dX6_told_7 (by decide) (fun c1 => ?_) (fun c1 => ?_)
  ·
    refine lv_aload_n hx hb dX6_told_13 rfl (lv_at hl 0 rfl) ?_
    refine lv_iconst (v := oI 0) hx hb dX6_told_14 (by decide +kernel) ?_
    refine wr_V (As := [.int (oI 0)]) (rest := []) (wc := [(m0, .inr (6, [.ref nw, .ref ps, .int (nI u), .ref im, .ref mk, .int (nI sd), .ref wd, .int (nI s), .ref so, .int (nI q), .ref mb, .ref ma, .ref mf, .ref mw, .ref ml, .ref mu, .int (nI br), .ref wt, .int (nI ww), .ref ty])), (nw, .inl (cI, 241, .inl (nF NW))), (ps, .inl (cI, 4820, .inl (nF PS))), (im, .inl (cI, 484, .inl (nF IM))), (mk, .inl (cZ, 2, .inl (nF MK))), (wd, .inl (cI, 8, .inl (nF WD))), (so, .inl (cI, 24, .inl (nF SO))), (mb, .inl (cI, 24, .inl (nF EB))), (ma, .inl (cI, 24, .inl (nF EA))), (mf, .inl (cI, 24, .inl (nF EF))), (mw, .inl (cI, 24, .inl (nF EW))), (ml, .inl (cI, 24, .inl (nF EL))), (mu, .inl (cI, 24, .inl (oF EU))), (wt, .inl (cI, 200, .inl (oF WT))), (ty, .inl (cI, 8, .inl (nF TY)))]) (wr := []) ⟨hx, hb, hml, hown, hts⟩ (c_X6_findsBut_all l D cI cJ cZ m0 nw ps im mk wd so mb ma mf mw ml mu wt ty NW PS u IM MK sd WD s SO q EB EA EF EW EL EU br WT ww TY KS KL KW n A hn hk hw0 hR hRW hso _) (k_X6_119 hts ⟨Nat.le_of_ble_eq_true rfl, Nat.le_of_ble_eq_true rfl⟩) hK hN hP hD hS hAA 0 rfl rfl rfl [0, 1, 2, 3, 4, 5, 6, 7, 8, 9, 10, 11, 12, 13, 14] [] rfl rfl (by decide) (by decide) (by decide) rfl hl.1 rfl (Nat.le_of_ble_eq_true rfl) dX6_told_15 ⟨Nat.le_of_ble_eq_true rfl, Nat.le_of_ble_eq_true rfl⟩ (fun v4 w5 H locs hp3 hP hD hS => ?_)
    obtain ⟨rfl, SOh2, EBh2, EAh2, EFh2, EWh2, ELh2, EUh2, WTh2, rfl, hTmh2⟩ := hp3
    have hE : ∀ b, b < n - 1 → EFh2 b ≤ 24 ∧ 1 ≤ EWh2 b ∧ EWh2 b ≤ 24 := fun b hb2 => by have := tm_in hTmh2 (b := b) (by omega); omega
    have hTm := hTmh2
    have hP : va_P D vwCl [(m0, .inr (6, [.ref nw, .ref ps, .int (nI u), .ref im, .ref mk, .int (nI sd), .ref wd, .int (nI s), .ref so, .int (nI n), .ref mb, .ref ma, .ref mf, .ref mw, .ref ml, .ref mu, .int (nI (n - 1)), .ref wt, .int (nI 0), .ref ty])), (nw, .inl (cI, 241, .inl (nF NW))), (ps, .inl (cI, 4820, .inl (nF PS))), (im, .inl (cI, 484, .inl (nF IM))), (mk, .inl (cZ, 2, .inl (nF MK))), (wd, .inl (cI, 8, .inl (nF WD))), (so, .inl (cI, 24, .inl (nF SOh2))), (mb, .inl (cI, 24, .inl (nF EBh2))), (ma, .inl (cI, 24, .inl (nF EAh2))), (mf, .inl (cI, 24, .inl (nF EFh2))), (mw, .inl (cI, 24, .inl (nF EWh2))), (ml, .inl (cI, 24, .inl (nF ELh2))), (mu, .inl (cI, 24, .inl (oF EUh2))), (wt, .inl (cI, 200, .inl (oF WTh2))), (ty, .inl (cI, 8, .inl (nF TY)))] H := hP.sub [0, 1, 2, 3, 4, 5, 6, 7, 8, 9, 10, 11, 12, 13, 14] rfl
    have hD : va_D AA [(m0, .inr (6, [.ref nw, .ref ps, .int (nI u), .ref im, .ref mk, .int (nI sd), .ref wd, .int (nI s), .ref so, .int (nI n), .ref mb, .ref ma, .ref mf, .ref mw, .ref ml, .ref mu, .int (nI (n - 1)), .ref wt, .int (nI 0), .ref ty])), (nw, .inl (cI, 241, .inl (nF NW))), (ps, .inl (cI, 4820, .inl (nF PS))), (im, .inl (cI, 484, .inl (nF IM))), (mk, .inl (cZ, 2, .inl (nF MK))), (wd, .inl (cI, 8, .inl (nF WD))), (so, .inl (cI, 24, .inl (nF SOh2))), (mb, .inl (cI, 24, .inl (nF EBh2))), (ma, .inl (cI, 24, .inl (nF EAh2))), (mf, .inl (cI, 24, .inl (nF EFh2))), (mw, .inl (cI, 24, .inl (nF EWh2))), (ml, .inl (cI, 24, .inl (nF ELh2))), (mu, .inl (cI, 24, .inl (oF EUh2))), (wt, .inl (cI, 200, .inl (oF WTh2))), (ty, .inl (cI, 8, .inl (nF TY)))] := hD.sub [0, 1, 2, 3, 4, 5, 6, 7, 8, 9, 10, 11, 12, 13, 14] (by decide) rfl
    refine lv_iload_n hx hb dX6_told_18 rfl (lv_at hl 1 rfl) ?_
    refine lv_tableIn (tgt := 156) (off := 137) hx hb dX6_told_19 (by decide +kernel) (by decide +kernel) (by decide +kernel) (by decide) ?_
    refine lv_aload_n hx hb dX6_told_156 rfl (lv_at hl 0 rfl) ?_
    refine ro_V (As := []) (rest := []) ⟨hx, hb, hml, hown, hts⟩ (c_X6_keyNow l D cI cJ cZ m0 nw ps im mk wd so mb ma mf mw ml mu wt ty NW PS u IM MK sd WD s SOh2 n EBh2 EAh2 EFh2 EWh2 ELh2 EUh2 (n - 1) WTh2 0 TY KS KL KW n A hn hk hw0 hR hRW) (k_X6_129 hts ⟨Nat.le_of_ble_eq_true rfl, Nat.le_of_ble_eq_true rfl⟩) hK hP 0 rfl rfl rfl [0, 1, 2, 3, 4, 5, 6, 7, 8, 9, 10, 11, 12, 13, 14] rfl rfl hl.1 rfl (Nat.le_of_ble_eq_true rfl) dX6_told_157 ⟨Nat.le_of_ble_eq_true rfl, Nat.le_of_ble_eq_true rfl⟩ ?_
    exact wr_iret hx hb hr hlk hP hD hS dX6_told_160 (⟨rfl, SOh2, n, EBh2, EAh2, EFh2, EWh2, ELh2, EUh2, n - 1, WTh2, 0, rfl⟩)
  ·
    exact (c1 (by decide)).elim
set_option maxHeartbeats 4000000 in
set_option maxRecDepth 100000 in
theorem c_X6_told_10 (l : Launch) (D : va_G) (cI cJ cZ : ClassId) (m0 nw ps im mk wd so mb ma mf mw ml mu wt ty : Nat) (NW : Nat → Nat) (PS : Nat → Nat) (u : Nat) (IM : Nat → Nat) (MK : Nat → Nat) (sd : Nat) (WD : Nat → Nat) (s : Nat) (SO : Nat → Nat) (q : Nat) (EB : Nat → Nat) (EA : Nat → Nat) (EF : Nat → Nat) (EW : Nat → Nat) (EL : Nat → Nat) (EU : Nat → Nat) (br : Nat) (WT : Nat → Nat) (ww : Nat) (TY : Nat → Nat) (KS KL KW : Nat → Nat) (n A : Nat) (hn : n ≤ 24) (hk : ∀ k, k < n → Wf (KS k) (KL k)) (hw0 : Wf s A) (hR : RN NW KS KL KW n) (hRW : RW WD s A) (hso : Srt KS KL n) (BB BD BM BL BF BA BK : Nat → Nat) (hTr : TrX (gapF KS KL) n BB BD BM BL BF BA BK) (hv : ∀ k, k < n → KW k ≤ 9999)  (sz : Nat) : WR l yX6_told cX6_told 4 (some .int) (rmN 6 133) D (ty3 cI cJ cZ) [.ref m0, .int (nI 10)] [(m0, .inr (6, [.ref nw, .ref ps, .int (nI u), .ref im, .ref mk, .int (nI sd), .ref wd, .int (nI s), .ref so, .int (nI q), .ref mb, .ref ma, .ref mf, .ref mw, .ref ml, .ref mu, .int (nI br), .ref wt, .int (nI ww), .ref ty])), (nw, .inl (cI, 241, .inl (nF NW))), (ps, .inl (cI, 4820, .inl (nF PS))), (im, .inl (cI, 484, .inl (nF IM))), (mk, .inl (cZ, 2, .inl (nF MK))), (wd, .inl (cI, 8, .inl (nF WD))), (so, .inl (cI, 24, .inl (nF SO))), (mb, .inl (cI, 24, .inl (nF EB))), (ma, .inl (cI, 24, .inl (nF EA))), (mf, .inl (cI, 24, .inl (nF EF))), (mw, .inl (cI, 24, .inl (nF EW))), (ml, .inl (cI, 24, .inl (nF EL))), (mu, .inl (cI, 24, .inl (oF EU))), (wt, .inl (cI, 200, .inl (oF WT))), (ty, .inl (cI, 8, .inl (nF TY)))] sz (fun x w => x = some (.int (nI u)) ∧ ∃ (SO : Nat → Nat) (q : Nat) (EB EA EF EW EL EU : Nat → Nat) (br : Nat) (WT : Nat → Nat) (ww : Nat), w = [(m0, .inr (6, [.ref nw, .ref ps, .int (nI u), .ref im, .ref mk, .int (nI sd), .ref wd, .int (nI s), .ref so, .int (nI q), .ref mb, .ref ma, .ref mf, .ref mw, .ref ml, .ref mu, .int (nI br), .ref wt, .int (nI ww), .ref ty])), (nw, .inl (cI, 241, .inl (nF NW))), (ps, .inl (cI, 4820, .inl (nF PS))), (im, .inl (cI, 484, .inl (nF IM))), (mk, .inl (cZ, 2, .inl (nF MK))), (wd, .inl (cI, 8, .inl (nF WD))), (so, .inl (cI, 24, .inl (nF SO))), (mb, .inl (cI, 24, .inl (nF EB))), (ma, .inl (cI, 24, .inl (nF EA))), (mf, .inl (cI, 24, .inl (nF EF))), (mw, .inl (cI, 24, .inl (nF EW))), (ml, .inl (cI, 24, .inl (nF EL))), (mu, .inl (cI, 24, .inl (oF EU))), (wt, .inl (cI, 200, .inl (oF WT))), (ty, .inl (cI, 8, .inl (nF TY)))]) := by
  have hs8 := hw0.1
  have hA64 := hw0.2.1
  have hN0 := hR.1
  have hBK := tf_BK hTr hn
  have hDK := tf_DK hTr hn
  have hp := plc_le KS KL n s A
  have hcb := cbl_le KS KL n s A
  have hfl := fnd_le KS KL n s A
  refine wr_start (by decide) (Nat.le_of_ble_eq_true rfl) ?_
  intro pp ee ss mm below meth cd AA C0 hAA hP hK hD hS hN hnm ls hl
  obtain ⟨hx, hb, hr, hml, hown, hts, hlk⟩ := C0
  have hown : ss.vm.findClass RX6 = some mm.cls := hown
  have hl : lv_has ls 4 [(0, .ref m0), (1, .int (nI 10))] := hl
  have hP : va_P D vwCl [(m0, .inr (6, [.ref nw, .ref ps, .int (nI u), .ref im, .ref mk, .int (nI sd), .ref wd, .int (nI s), .ref so, .int (nI q), .ref mb, .ref ma, .ref mf, .ref mw, .ref ml, .ref mu, .int (nI br), .ref wt, .int (nI ww), .ref ty])), (nw, .inl (cI, 241, .inl (nF NW))), (ps, .inl (cI, 4820, .inl (nF PS))), (im, .inl (cI, 484, .inl (nF IM))), (mk, .inl (cZ, 2, .inl (nF MK))), (wd, .inl (cI, 8, .inl (nF WD))), (so, .inl (cI, 24, .inl (nF SO))), (mb, .inl (cI, 24, .inl (nF EB))), (ma, .inl (cI, 24, .inl (nF EA))), (mf, .inl (cI, 24, .inl (nF EF))), (mw, .inl (cI, 24, .inl (nF EW))), (ml, .inl (cI, 24, .inl (nF EL))), (mu, .inl (cI, 24, .inl (oF EU))), (wt, .inl (cI, 200, .inl (oF WT))), (ty, .inl (cI, 8, .inl (nF TY)))] ss.heap := hP
  refine lv_iload_n hx hb dX6_told_0 rfl (lv_at hl 1 rfl) ?_
  refine lv_iconst (v := nI 0) hx hb dX6_told_1 (by decide +kernel) ?_
  refine lv_bipush (v := nI 10) hx hb dX6_told_2 (by decide +kernel) ?_
  refine ro_S (As := [.int (nI 10), .int (nI 0), .int (nI 10)]) (rest := []) ⟨hx, hb, hml, hown, hts⟩ (c_X6_in l D cI cJ cZ 10 0 10 (by omega) (by omega) (by omega)) (k_X6_79 hts ⟨Nat.le_of_ble_eq_true rfl, Nat.le_of_ble_eq_true rfl⟩) hK hP [] rfl rfl hl.1 rfl (Nat.le_of_ble_eq_true rfl) dX6_told_4 ⟨Nat.le_of_ble_eq_true rfl, Nat.le_of_ble_eq_true rfl⟩ ?_
  refine b_if_ne (tgt := 13) hx hb dX6_told_7 (by decide) (fun c1 => ?_) (fun c1 => ?_)
  ·
    refine lv_aload_n hx hb dX6_told_13 rfl (lv_at hl 0 rfl) ?_
    refine lv_iconst (v := oI 0) hx hb dX6_told_14 (by decide +kernel) ?_
    refine wr_V (As := [.int (oI 0)]) (rest := []) (wc := [(m0, .inr (6, [.ref nw, .ref ps, .int (nI u), .ref im, .ref mk, .int (nI sd), .ref wd, .int (nI s), .ref so, .int (nI q), .ref mb, .ref ma, .ref mf, .ref mw, .ref ml, .ref mu, .int (nI br), .ref wt, .int (nI ww), .ref ty])), (nw, .inl (cI, 241, .inl (nF NW))), (ps, .inl (cI, 4820, .inl (nF PS))), (im, .inl (cI, 484, .inl (nF IM))), (mk, .inl (cZ, 2, .inl (nF MK))), (wd, .inl (cI, 8, .inl (nF WD))), (so, .inl (cI, 24, .inl (nF SO))), (mb, .inl (cI, 24, .inl (nF EB))), (ma, .inl (cI, 24, .inl (nF EA))), (mf, .inl (cI, 24, .inl (nF EF))), (mw, .inl (cI, 24, .inl (nF EW))), (ml, .inl (cI, 24, .inl (nF EL))), (mu, .inl (cI, 24, .inl (oF EU))), (wt, .inl (cI, 200, .inl (oF WT))), (ty, .inl (cI, 8, .inl (nF TY)))]) (wr := []) ⟨hx, hb, hml, hown, hts⟩ (c_X6_findsBut_all l D cI cJ cZ m0 nw ps im mk wd so mb ma mf mw ml mu wt ty NW PS u IM MK sd WD s SO q EB EA EF EW EL EU br WT ww TY KS KL KW n A hn hk hw0 hR hRW hso _) (k_X6_119 hts ⟨Nat.le_of_ble_eq_true rfl, Nat.le_of_ble_eq_true rfl⟩) hK hN hP hD hS hAA 0 rfl rfl rfl [0, 1, 2, 3, 4, 5, 6, 7, 8, 9, 10, 11, 12, 13, 14] [] rfl rfl (by decide) (by decide) (by decide) rfl hl.1 rfl (Nat.le_of_ble_eq_true rfl) dX6_told_15 ⟨Nat.le_of_ble_eq_true rfl, Nat.le_of_ble_eq_true rfl⟩ (fun v4 w5 H locs hp3 hP hD hS => ?_)
    obtain ⟨rfl, SOh2, EBh2, EAh2, EFh2, EWh2, ELh2, EUh2, WTh2, rfl, hTmh2⟩ := hp3
    have hE : ∀ b, b < n - 1 → EFh2 b ≤ 24 ∧ 1 ≤ EWh2 b ∧ EWh2 b ≤ 24 := fun b hb2 => by have := tm_in hTmh2 (b := b) (by omega); omega
    have hTm := hTmh2
    have hP : va_P D vwCl [(m0, .inr (6, [.ref nw, .ref ps, .int (nI u), .ref im, .ref mk, .int (nI sd), .ref wd, .int (nI s), .ref so, .int (nI n), .ref mb, .ref ma, .ref mf, .ref mw, .ref ml, .ref mu, .int (nI (n - 1)), .ref wt, .int (nI 0), .ref ty])), (nw, .inl (cI, 241, .inl (nF NW))), (ps, .inl (cI, 4820, .inl (nF PS))), (im, .inl (cI, 484, .inl (nF IM))), (mk, .inl (cZ, 2, .inl (nF MK))), (wd, .inl (cI, 8, .inl (nF WD))), (so, .inl (cI, 24, .inl (nF SOh2))), (mb, .inl (cI, 24, .inl (nF EBh2))), (ma, .inl (cI, 24, .inl (nF EAh2))), (mf, .inl (cI, 24, .inl (nF EFh2))), (mw, .inl (cI, 24, .inl (nF EWh2))), (ml, .inl (cI, 24, .inl (nF ELh2))), (mu, .inl (cI, 24, .inl (oF EUh2))), (wt, .inl (cI, 200, .inl (oF WTh2))), (ty, .inl (cI, 8, .inl (nF TY)))] H := hP.sub [0, 1, 2, 3, 4, 5, 6, 7, 8, 9, 10, 11, 12, 13, 14] rfl
    have hD : va_D AA [(m0, .inr (6, [.ref nw, .ref ps, .int (nI u), .ref im, .ref mk, .int (nI sd), .ref wd, .int (nI s), .ref so, .int (nI n), .ref mb, .ref ma, .ref mf, .ref mw, .ref ml, .ref mu, .int (nI (n - 1)), .ref wt, .int (nI 0), .ref ty])), (nw, .inl (cI, 241, .inl (nF NW))), (ps, .inl (cI, 4820, .inl (nF PS))), (im, .inl (cI, 484, .inl (nF IM))), (mk, .inl (cZ, 2, .inl (nF MK))), (wd, .inl (cI, 8, .inl (nF WD))), (so, .inl (cI, 24, .inl (nF SOh2))), (mb, .inl (cI, 24, .inl (nF EBh2))), (ma, .inl (cI, 24, .inl (nF EAh2))), (mf, .inl (cI, 24, .inl (nF EFh2))), (mw, .inl (cI, 24, .inl (nF EWh2))), (ml, .inl (cI, 24, .inl (nF ELh2))), (mu, .inl (cI, 24, .inl (oF EUh2))), (wt, .inl (cI, 200, .inl (oF WTh2))), (ty, .inl (cI, 8, .inl (nF TY)))] := hD.sub [0, 1, 2, 3, 4, 5, 6, 7, 8, 9, 10, 11, 12, 13, 14] (by decide) rfl
    refine lv_iload_n hx hb dX6_told_18 rfl (lv_at hl 1 rfl) ?_
    refine lv_tableOut (tgt := 161) hx hb dX6_told_19 (Or.inr (tn_big (by omega) (by omega))) (by decide) ?_
    refine lv_aload_n hx hb dX6_told_161 rfl (lv_at hl 0 rfl) ?_
    refine va_get (D := D) (ci := 6) (v := .int (nI u)) (C := RX6) (T := TX6) (N := 20) hx hb hts inX6 hown hK hP 0 rfl rfl 2 (by decide) (hts _ mf_X6_132) (fun _ h9 => h9) rfl dX6_told_162 ?_
    exact wr_iret hx hb hr hlk hP hD hS dX6_told_165 (⟨rfl, SOh2, n, EBh2, EAh2, EFh2, EWh2, ELh2, EUh2, n - 1, WTh2, 0, rfl⟩)
  ·
    exact (c1 (by decide)).elim
set_option maxHeartbeats 4000000 in
set_option maxRecDepth 100000 in
theorem c_X6_key_kneg (l : Launch) (D : va_G) (cI cJ cZ : ClassId) (m0 nw ps im mk wd so mb ma mf mw ml mu wt ty : Nat) (NW : Nat → Nat) (PS : Nat → Nat) (u : Nat) (IM : Nat → Nat) (MK : Nat → Nat) (sd : Nat) (WD : Nat → Nat) (s : Nat) (SO : Nat → Nat) (q : Nat) (EB : Nat → Nat) (EA : Nat → Nat) (EF : Nat → Nat) (EW : Nat → Nat) (EL : Nat → Nat) (EU : Nat → Nat) (br : Nat) (WT : Nat → Nat) (ww : Nat) (TY : Nat → Nat) (KS KL KW : Nat → Nat) (n A : Nat) (hn : n ≤ 24) (hk : ∀ k, k < n → Wf (KS k) (KL k)) (hw0 : Wf s A) (hR : RN NW KS KL KW n) (hRW : RW WD s A) (hso : Srt KS KL n) (BB BD BM BL BF BA BK : Nat → Nat) (hTr : TrX (gapF KS KL) n BB BD BM BL BF BA BK) (hv : ∀ k, k < n → KW k ≤ 9999) (x y : Int32) (hx0 : x < 0) (sz : Nat) : WR l yX6_key cX6_key 3 (some .int) (rmN 5 116) D (ty3 cI cJ cZ) [.ref m0, .int x, .int y] [(m0, .inr (6, [.ref nw, .ref ps, .int (nI u), .ref im, .ref mk, .int (nI sd), .ref wd, .int (nI s), .ref so, .int (nI q), .ref mb, .ref ma, .ref mf, .ref mw, .ref ml, .ref mu, .int (nI br), .ref wt, .int (nI ww), .ref ty])), (nw, .inl (cI, 241, .inl (nF NW))), (ps, .inl (cI, 4820, .inl (nF PS))), (im, .inl (cI, 484, .inl (nF IM))), (mk, .inl (cZ, 2, .inl (nF MK))), (wd, .inl (cI, 8, .inl (nF WD))), (so, .inl (cI, 24, .inl (nF SO))), (mb, .inl (cI, 24, .inl (nF EB))), (ma, .inl (cI, 24, .inl (nF EA))), (mf, .inl (cI, 24, .inl (nF EF))), (mw, .inl (cI, 24, .inl (nF EW))), (ml, .inl (cI, 24, .inl (nF EL))), (mu, .inl (cI, 24, .inl (oF EU))), (wt, .inl (cI, 200, .inl (oF WT))), (ty, .inl (cI, 8, .inl (nF TY)))] sz (fun x w => x = some (.int (-1000000001)) ∧ ∃ (SO : Nat → Nat) (q : Nat) (EB EA EF EW EL EU : Nat → Nat) (br : Nat) (WT : Nat → Nat) (ww : Nat), w = [(m0, .inr (6, [.ref nw, .ref ps, .int (nI u), .ref im, .ref mk, .int (nI sd), .ref wd, .int (nI s), .ref so, .int (nI q), .ref mb, .ref ma, .ref mf, .ref mw, .ref ml, .ref mu, .int (nI br), .ref wt, .int (nI ww), .ref ty])), (nw, .inl (cI, 241, .inl (nF NW))), (ps, .inl (cI, 4820, .inl (nF PS))), (im, .inl (cI, 484, .inl (nF IM))), (mk, .inl (cZ, 2, .inl (nF MK))), (wd, .inl (cI, 8, .inl (nF WD))), (so, .inl (cI, 24, .inl (nF SO))), (mb, .inl (cI, 24, .inl (nF EB))), (ma, .inl (cI, 24, .inl (nF EA))), (mf, .inl (cI, 24, .inl (nF EF))), (mw, .inl (cI, 24, .inl (nF EW))), (ml, .inl (cI, 24, .inl (nF EL))), (mu, .inl (cI, 24, .inl (oF EU))), (wt, .inl (cI, 200, .inl (oF WT))), (ty, .inl (cI, 8, .inl (nF TY)))]) := by
  have hs8 := hw0.1
  have hA64 := hw0.2.1
  have hN0 := hR.1
  have hBK := tf_BK hTr hn
  have hDK := tf_DK hTr hn
  have hp := plc_le KS KL n s A
  have hcb := cbl_le KS KL n s A
  have hfl := fnd_le KS KL n s A
  refine wr_start (by decide) (Nat.le_of_ble_eq_true rfl) ?_
  intro pp ee ss mm below meth cd AA C0 hAA hP hK hD hS hN hnm ls hl
  obtain ⟨hx, hb, hr, hml, hown, hts, hlk⟩ := C0
  have hown : ss.vm.findClass RX6 = some mm.cls := hown
  have hl : lv_has ls 3 [(0, .ref m0), (1, .int x), (2, .int y)] := hl
  have hP : va_P D vwCl [(m0, .inr (6, [.ref nw, .ref ps, .int (nI u), .ref im, .ref mk, .int (nI sd), .ref wd, .int (nI s), .ref so, .int (nI q), .ref mb, .ref ma, .ref mf, .ref mw, .ref ml, .ref mu, .int (nI br), .ref wt, .int (nI ww), .ref ty])), (nw, .inl (cI, 241, .inl (nF NW))), (ps, .inl (cI, 4820, .inl (nF PS))), (im, .inl (cI, 484, .inl (nF IM))), (mk, .inl (cZ, 2, .inl (nF MK))), (wd, .inl (cI, 8, .inl (nF WD))), (so, .inl (cI, 24, .inl (nF SO))), (mb, .inl (cI, 24, .inl (nF EB))), (ma, .inl (cI, 24, .inl (nF EA))), (mf, .inl (cI, 24, .inl (nF EF))), (mw, .inl (cI, 24, .inl (nF EW))), (ml, .inl (cI, 24, .inl (nF EL))), (mu, .inl (cI, 24, .inl (oF EU))), (wt, .inl (cI, 200, .inl (oF WT))), (ty, .inl (cI, 8, .inl (nF TY)))] ss.heap := hP
  refine lv_aload_n hx hb dX6_key_0 rfl (lv_at hl 0 rfl) ?_
  refine lv_iload_n hx hb dX6_key_1 rfl (lv_at hl 1 rfl) ?_
  refine ro_V (As := [.int x]) (rest := []) ⟨hx, hb, hml, hown, hts⟩ (c_X6_isKey_neg l D cI cJ cZ m0 nw ps im mk wd so mb ma mf mw ml mu wt ty NW PS u IM MK sd WD s SO q EB EA EF EW EL EU br WT ww TY KS KL KW n A hn hk hw0 hR hRW x hx0) (k_X6_85 hts ⟨Nat.le_of_ble_eq_true rfl, Nat.le_of_ble_eq_true rfl⟩) hK hP 0 rfl rfl rfl [0, 1, 2, 3, 4, 5, 6, 7, 8, 9, 10, 11, 12, 13, 14] rfl rfl hl.1 rfl (Nat.le_of_ble_eq_true rfl) dX6_key_2 ⟨Nat.le_of_ble_eq_true rfl, Nat.le_of_ble_eq_true rfl⟩ ?_
  refine n_if_ne (tgt := 11) hx hb dX6_key_5 (by decide) (by decide) (fun h9 => absurd rfl h9) (fun _ => ?_)
  refine lv_ldc hx hb hown (hts _ mk_X6_89) dX6_key_8 ?_
  exact wr_iret hx hb hr hlk hP hD hS dX6_key_10 (⟨rfl, SO, q, EB, EA, EF, EW, EL, EU, br, WT, ww, rfl⟩)
set_option maxHeartbeats 4000000 in
set_option maxRecDepth 100000 in
theorem c_X6_key_kout (l : Launch) (D : va_G) (cI cJ cZ : ClassId) (m0 nw ps im mk wd so mb ma mf mw ml mu wt ty : Nat) (NW : Nat → Nat) (PS : Nat → Nat) (u : Nat) (IM : Nat → Nat) (MK : Nat → Nat) (sd : Nat) (WD : Nat → Nat) (s : Nat) (SO : Nat → Nat) (q : Nat) (EB : Nat → Nat) (EA : Nat → Nat) (EF : Nat → Nat) (EW : Nat → Nat) (EL : Nat → Nat) (EU : Nat → Nat) (br : Nat) (WT : Nat → Nat) (ww : Nat) (TY : Nat → Nat) (KS KL KW : Nat → Nat) (n A : Nat) (hn : n ≤ 24) (hk : ∀ k, k < n → Wf (KS k) (KL k)) (hw0 : Wf s A) (hR : RN NW KS KL KW n) (hRW : RW WD s A) (hso : Srt KS KL n) (BB BD BM BL BF BA BK : Nat → Nat) (hTr : TrX (gapF KS KL) n BB BD BM BL BF BA BK) (hv : ∀ k, k < n → KW k ≤ 9999) (j : Nat) (y : Int32) (hj : j < 2 ^ 31) (hjo : n ≤ j) (sz : Nat) : WR l yX6_key cX6_key 3 (some .int) (rmN 5 116) D (ty3 cI cJ cZ) [.ref m0, .int (nI j), .int y] [(m0, .inr (6, [.ref nw, .ref ps, .int (nI u), .ref im, .ref mk, .int (nI sd), .ref wd, .int (nI s), .ref so, .int (nI q), .ref mb, .ref ma, .ref mf, .ref mw, .ref ml, .ref mu, .int (nI br), .ref wt, .int (nI ww), .ref ty])), (nw, .inl (cI, 241, .inl (nF NW))), (ps, .inl (cI, 4820, .inl (nF PS))), (im, .inl (cI, 484, .inl (nF IM))), (mk, .inl (cZ, 2, .inl (nF MK))), (wd, .inl (cI, 8, .inl (nF WD))), (so, .inl (cI, 24, .inl (nF SO))), (mb, .inl (cI, 24, .inl (nF EB))), (ma, .inl (cI, 24, .inl (nF EA))), (mf, .inl (cI, 24, .inl (nF EF))), (mw, .inl (cI, 24, .inl (nF EW))), (ml, .inl (cI, 24, .inl (nF EL))), (mu, .inl (cI, 24, .inl (oF EU))), (wt, .inl (cI, 200, .inl (oF WT))), (ty, .inl (cI, 8, .inl (nF TY)))] sz (fun x w => x = some (.int (-1000000001)) ∧ ∃ (SO : Nat → Nat) (q : Nat) (EB EA EF EW EL EU : Nat → Nat) (br : Nat) (WT : Nat → Nat) (ww : Nat), w = [(m0, .inr (6, [.ref nw, .ref ps, .int (nI u), .ref im, .ref mk, .int (nI sd), .ref wd, .int (nI s), .ref so, .int (nI q), .ref mb, .ref ma, .ref mf, .ref mw, .ref ml, .ref mu, .int (nI br), .ref wt, .int (nI ww), .ref ty])), (nw, .inl (cI, 241, .inl (nF NW))), (ps, .inl (cI, 4820, .inl (nF PS))), (im, .inl (cI, 484, .inl (nF IM))), (mk, .inl (cZ, 2, .inl (nF MK))), (wd, .inl (cI, 8, .inl (nF WD))), (so, .inl (cI, 24, .inl (nF SO))), (mb, .inl (cI, 24, .inl (nF EB))), (ma, .inl (cI, 24, .inl (nF EA))), (mf, .inl (cI, 24, .inl (nF EF))), (mw, .inl (cI, 24, .inl (nF EW))), (ml, .inl (cI, 24, .inl (nF EL))), (mu, .inl (cI, 24, .inl (oF EU))), (wt, .inl (cI, 200, .inl (oF WT))), (ty, .inl (cI, 8, .inl (nF TY)))]) := by
  have hs8 := hw0.1
  have hA64 := hw0.2.1
  have hN0 := hR.1
  have hBK := tf_BK hTr hn
  have hDK := tf_DK hTr hn
  have hp := plc_le KS KL n s A
  have hcb := cbl_le KS KL n s A
  have hfl := fnd_le KS KL n s A
  refine wr_start (by decide) (Nat.le_of_ble_eq_true rfl) ?_
  intro pp ee ss mm below meth cd AA C0 hAA hP hK hD hS hN hnm ls hl
  obtain ⟨hx, hb, hr, hml, hown, hts, hlk⟩ := C0
  have hown : ss.vm.findClass RX6 = some mm.cls := hown
  have hl : lv_has ls 3 [(0, .ref m0), (1, .int (nI j)), (2, .int y)] := hl
  have hP : va_P D vwCl [(m0, .inr (6, [.ref nw, .ref ps, .int (nI u), .ref im, .ref mk, .int (nI sd), .ref wd, .int (nI s), .ref so, .int (nI q), .ref mb, .ref ma, .ref mf, .ref mw, .ref ml, .ref mu, .int (nI br), .ref wt, .int (nI ww), .ref ty])), (nw, .inl (cI, 241, .inl (nF NW))), (ps, .inl (cI, 4820, .inl (nF PS))), (im, .inl (cI, 484, .inl (nF IM))), (mk, .inl (cZ, 2, .inl (nF MK))), (wd, .inl (cI, 8, .inl (nF WD))), (so, .inl (cI, 24, .inl (nF SO))), (mb, .inl (cI, 24, .inl (nF EB))), (ma, .inl (cI, 24, .inl (nF EA))), (mf, .inl (cI, 24, .inl (nF EF))), (mw, .inl (cI, 24, .inl (nF EW))), (ml, .inl (cI, 24, .inl (nF EL))), (mu, .inl (cI, 24, .inl (oF EU))), (wt, .inl (cI, 200, .inl (oF WT))), (ty, .inl (cI, 8, .inl (nF TY)))] ss.heap := hP
  refine lv_aload_n hx hb dX6_key_0 rfl (lv_at hl 0 rfl) ?_
  refine lv_iload_n hx hb dX6_key_1 rfl (lv_at hl 1 rfl) ?_
  refine ro_V (As := [.int (nI j)]) (rest := []) ⟨hx, hb, hml, hown, hts⟩ (c_X6_isKey l D cI cJ cZ m0 nw ps im mk wd so mb ma mf mw ml mu wt ty NW PS u IM MK sd WD s SO q EB EA EF EW EL EU br WT ww TY KS KL KW n A hn hk hw0 hR hRW j (by omega)) (k_X6_85 hts ⟨Nat.le_of_ble_eq_true rfl, Nat.le_of_ble_eq_true rfl⟩) hK hP 0 rfl rfl rfl [0, 1, 2, 3, 4, 5, 6, 7, 8, 9, 10, 11, 12, 13, 14] rfl rfl hl.1 rfl (Nat.le_of_ble_eq_true rfl) dX6_key_2 ⟨Nat.le_of_ble_eq_true rfl, Nat.le_of_ble_eq_true rfl⟩ ?_
  refine b_if_ne (tgt := 11) hx hb dX6_key_5 (by decide) (fun c1 => ?_) (fun c1 => ?_)
  ·
    exact absurd c1 (by omega)
  ·
    refine lv_ldc hx hb hown (hts _ mk_X6_89) dX6_key_8 ?_
    exact wr_iret hx hb hr hlk hP hD hS dX6_key_10 (⟨rfl, SO, q, EB, EA, EF, EW, EL, EU, br, WT, ww, rfl⟩)
set_option maxHeartbeats 4000000 in
set_option maxRecDepth 100000 in
theorem c_X6_key_neg (l : Launch) (D : va_G) (cI cJ cZ : ClassId) (m0 nw ps im mk wd so mb ma mf mw ml mu wt ty : Nat) (NW : Nat → Nat) (PS : Nat → Nat) (u : Nat) (IM : Nat → Nat) (MK : Nat → Nat) (sd : Nat) (WD : Nat → Nat) (s : Nat) (SO : Nat → Nat) (q : Nat) (EB : Nat → Nat) (EA : Nat → Nat) (EF : Nat → Nat) (EW : Nat → Nat) (EL : Nat → Nat) (EU : Nat → Nat) (br : Nat) (WT : Nat → Nat) (ww : Nat) (TY : Nat → Nat) (KS KL KW : Nat → Nat) (n A : Nat) (hn : n ≤ 24) (hk : ∀ k, k < n → Wf (KS k) (KL k)) (hw0 : Wf s A) (hR : RN NW KS KL KW n) (hRW : RW WD s A) (hso : Srt KS KL n) (BB BD BM BL BF BA BK : Nat → Nat) (hTr : TrX (gapF KS KL) n BB BD BM BL BF BA BK) (hv : ∀ k, k < n → KW k ≤ 9999) (j : Nat) (hj : j < n) (x : Int32) (hx0 : x < 0) (sz : Nat) : WR l yX6_key cX6_key 3 (some .int) (rmN 5 116) D (ty3 cI cJ cZ) [.ref m0, .int (nI j), .int x] [(m0, .inr (6, [.ref nw, .ref ps, .int (nI u), .ref im, .ref mk, .int (nI sd), .ref wd, .int (nI s), .ref so, .int (nI q), .ref mb, .ref ma, .ref mf, .ref mw, .ref ml, .ref mu, .int (nI br), .ref wt, .int (nI ww), .ref ty])), (nw, .inl (cI, 241, .inl (nF NW))), (ps, .inl (cI, 4820, .inl (nF PS))), (im, .inl (cI, 484, .inl (nF IM))), (mk, .inl (cZ, 2, .inl (nF MK))), (wd, .inl (cI, 8, .inl (nF WD))), (so, .inl (cI, 24, .inl (nF SO))), (mb, .inl (cI, 24, .inl (nF EB))), (ma, .inl (cI, 24, .inl (nF EA))), (mf, .inl (cI, 24, .inl (nF EF))), (mw, .inl (cI, 24, .inl (nF EW))), (ml, .inl (cI, 24, .inl (nF EL))), (mu, .inl (cI, 24, .inl (oF EU))), (wt, .inl (cI, 200, .inl (oF WT))), (ty, .inl (cI, 8, .inl (nF TY)))] sz (fun x w => x = some (.int (-1000000002)) ∧ ∃ (SO : Nat → Nat) (q : Nat) (EB EA EF EW EL EU : Nat → Nat) (br : Nat) (WT : Nat → Nat) (ww : Nat), w = [(m0, .inr (6, [.ref nw, .ref ps, .int (nI u), .ref im, .ref mk, .int (nI sd), .ref wd, .int (nI s), .ref so, .int (nI q), .ref mb, .ref ma, .ref mf, .ref mw, .ref ml, .ref mu, .int (nI br), .ref wt, .int (nI ww), .ref ty])), (nw, .inl (cI, 241, .inl (nF NW))), (ps, .inl (cI, 4820, .inl (nF PS))), (im, .inl (cI, 484, .inl (nF IM))), (mk, .inl (cZ, 2, .inl (nF MK))), (wd, .inl (cI, 8, .inl (nF WD))), (so, .inl (cI, 24, .inl (nF SO))), (mb, .inl (cI, 24, .inl (nF EB))), (ma, .inl (cI, 24, .inl (nF EA))), (mf, .inl (cI, 24, .inl (nF EF))), (mw, .inl (cI, 24, .inl (nF EW))), (ml, .inl (cI, 24, .inl (nF EL))), (mu, .inl (cI, 24, .inl (oF EU))), (wt, .inl (cI, 200, .inl (oF WT))), (ty, .inl (cI, 8, .inl (nF TY)))]) := by
  have hs8 := hw0.1
  have hA64 := hw0.2.1
  have hN0 := hR.1
  have hBK := tf_BK hTr hn
  have hDK := tf_DK hTr hn
  have hp := plc_le KS KL n s A
  have hcb := cbl_le KS KL n s A
  have hfl := fnd_le KS KL n s A
  refine wr_start (by decide) (Nat.le_of_ble_eq_true rfl) ?_
  intro pp ee ss mm below meth cd AA C0 hAA hP hK hD hS hN hnm ls hl
  obtain ⟨hx, hb, hr, hml, hown, hts, hlk⟩ := C0
  have hown : ss.vm.findClass RX6 = some mm.cls := hown
  have hl : lv_has ls 3 [(0, .ref m0), (1, .int (nI j)), (2, .int x)] := hl
  have hP : va_P D vwCl [(m0, .inr (6, [.ref nw, .ref ps, .int (nI u), .ref im, .ref mk, .int (nI sd), .ref wd, .int (nI s), .ref so, .int (nI q), .ref mb, .ref ma, .ref mf, .ref mw, .ref ml, .ref mu, .int (nI br), .ref wt, .int (nI ww), .ref ty])), (nw, .inl (cI, 241, .inl (nF NW))), (ps, .inl (cI, 4820, .inl (nF PS))), (im, .inl (cI, 484, .inl (nF IM))), (mk, .inl (cZ, 2, .inl (nF MK))), (wd, .inl (cI, 8, .inl (nF WD))), (so, .inl (cI, 24, .inl (nF SO))), (mb, .inl (cI, 24, .inl (nF EB))), (ma, .inl (cI, 24, .inl (nF EA))), (mf, .inl (cI, 24, .inl (nF EF))), (mw, .inl (cI, 24, .inl (nF EW))), (ml, .inl (cI, 24, .inl (nF EL))), (mu, .inl (cI, 24, .inl (oF EU))), (wt, .inl (cI, 200, .inl (oF WT))), (ty, .inl (cI, 8, .inl (nF TY)))] ss.heap := hP
  refine lv_aload_n hx hb dX6_key_0 rfl (lv_at hl 0 rfl) ?_
  refine lv_iload_n hx hb dX6_key_1 rfl (lv_at hl 1 rfl) ?_
  refine ro_V (As := [.int (nI j)]) (rest := []) ⟨hx, hb, hml, hown, hts⟩ (c_X6_isKey l D cI cJ cZ m0 nw ps im mk wd so mb ma mf mw ml mu wt ty NW PS u IM MK sd WD s SO q EB EA EF EW EL EU br WT ww TY KS KL KW n A hn hk hw0 hR hRW j (by omega)) (k_X6_85 hts ⟨Nat.le_of_ble_eq_true rfl, Nat.le_of_ble_eq_true rfl⟩) hK hP 0 rfl rfl rfl [0, 1, 2, 3, 4, 5, 6, 7, 8, 9, 10, 11, 12, 13, 14] rfl rfl hl.1 rfl (Nat.le_of_ble_eq_true rfl) dX6_key_2 ⟨Nat.le_of_ble_eq_true rfl, Nat.le_of_ble_eq_true rfl⟩ ?_
  refine b_if_ne (tgt := 11) hx hb dX6_key_5 (by decide) (fun c1 => ?_) (fun c1 => ?_)
  ·
    refine lv_iload_n hx hb dX6_key_11 rfl (lv_at hl 2 rfl) ?_
    refine lv_iconst (v := nI 0) hx hb dX6_key_12 (by decide +kernel) ?_
    refine lv_bipush (v := nI 12) hx hb dX6_key_13 (by decide +kernel) ?_
    refine ro_S (As := [.int x, .int (nI 0), .int (nI 12)]) (rest := []) ⟨hx, hb, hml, hown, hts⟩ (c_X6_in_neg l D cI cJ cZ x ((nI 12)) 0 hx0 (by omega)) (k_X6_79 hts ⟨Nat.le_of_ble_eq_true rfl, Nat.le_of_ble_eq_true rfl⟩) hK hP [] rfl rfl hl.1 rfl (Nat.le_of_ble_eq_true rfl) dX6_key_15 ⟨Nat.le_of_ble_eq_true rfl, Nat.le_of_ble_eq_true rfl⟩ ?_
    refine n_if_ne (tgt := 24) hx hb dX6_key_18 (by decide) (by decide) (fun h9 => absurd rfl h9) (fun _ => ?_)
    refine lv_ldc hx hb hown (hts _ mk_X6_83) dX6_key_21 ?_
    exact wr_iret hx hb hr hlk hP hD hS dX6_key_23 (⟨rfl, SO, q, EB, EA, EF, EW, EL, EU, br, WT, ww, rfl⟩)
  ·
    exact (c1 (by omega)).elim
set_option maxHeartbeats 4000000 in
set_option maxRecDepth 100000 in
theorem c_X6_key_let (l : Launch) (D : va_G) (cI cJ cZ : ClassId) (m0 nw ps im mk wd so mb ma mf mw ml mu wt ty : Nat) (NW : Nat → Nat) (PS : Nat → Nat) (u : Nat) (IM : Nat → Nat) (MK : Nat → Nat) (sd : Nat) (WD : Nat → Nat) (s : Nat) (SO : Nat → Nat) (q : Nat) (EB : Nat → Nat) (EA : Nat → Nat) (EF : Nat → Nat) (EW : Nat → Nat) (EL : Nat → Nat) (EU : Nat → Nat) (br : Nat) (WT : Nat → Nat) (ww : Nat) (TY : Nat → Nat) (KS KL KW : Nat → Nat) (n A : Nat) (hn : n ≤ 24) (hk : ∀ k, k < n → Wf (KS k) (KL k)) (hw0 : Wf s A) (hR : RN NW KS KL KW n) (hRW : RW WD s A) (hso : Srt KS KL n) (BB BD BM BL BF BA BK : Nat → Nat) (hTr : TrX (gapF KS KL) n BB BD BM BL BF BA BK) (hv : ∀ k, k < n → KW k ≤ 9999) (j : Nat) (hj : j < n) (t : Nat) (ht8 : t < 8) (hts2 : t < KS j) (sz : Nat) : WR l yX6_key cX6_key 3 (some .int) (rmN 5 116) D (ty3 cI cJ cZ) [.ref m0, .int (nI j), .int (nI t)] [(m0, .inr (6, [.ref nw, .ref ps, .int (nI u), .ref im, .ref mk, .int (nI sd), .ref wd, .int (nI s), .ref so, .int (nI q), .ref mb, .ref ma, .ref mf, .ref mw, .ref ml, .ref mu, .int (nI br), .ref wt, .int (nI ww), .ref ty])), (nw, .inl (cI, 241, .inl (nF NW))), (ps, .inl (cI, 4820, .inl (nF PS))), (im, .inl (cI, 484, .inl (nF IM))), (mk, .inl (cZ, 2, .inl (nF MK))), (wd, .inl (cI, 8, .inl (nF WD))), (so, .inl (cI, 24, .inl (nF SO))), (mb, .inl (cI, 24, .inl (nF EB))), (ma, .inl (cI, 24, .inl (nF EA))), (mf, .inl (cI, 24, .inl (nF EF))), (mw, .inl (cI, 24, .inl (nF EW))), (ml, .inl (cI, 24, .inl (nF EL))), (mu, .inl (cI, 24, .inl (oF EU))), (wt, .inl (cI, 200, .inl (oF WT))), (ty, .inl (cI, 8, .inl (nF TY)))] sz (fun x w => x = some (.int (nI (letr (KL j) t))) ∧ ∃ (SO : Nat → Nat) (q : Nat) (EB EA EF EW EL EU : Nat → Nat) (br : Nat) (WT : Nat → Nat) (ww : Nat), w = [(m0, .inr (6, [.ref nw, .ref ps, .int (nI u), .ref im, .ref mk, .int (nI sd), .ref wd, .int (nI s), .ref so, .int (nI q), .ref mb, .ref ma, .ref mf, .ref mw, .ref ml, .ref mu, .int (nI br), .ref wt, .int (nI ww), .ref ty])), (nw, .inl (cI, 241, .inl (nF NW))), (ps, .inl (cI, 4820, .inl (nF PS))), (im, .inl (cI, 484, .inl (nF IM))), (mk, .inl (cZ, 2, .inl (nF MK))), (wd, .inl (cI, 8, .inl (nF WD))), (so, .inl (cI, 24, .inl (nF SO))), (mb, .inl (cI, 24, .inl (nF EB))), (ma, .inl (cI, 24, .inl (nF EA))), (mf, .inl (cI, 24, .inl (nF EF))), (mw, .inl (cI, 24, .inl (nF EW))), (ml, .inl (cI, 24, .inl (nF EL))), (mu, .inl (cI, 24, .inl (oF EU))), (wt, .inl (cI, 200, .inl (oF WT))), (ty, .inl (cI, 8, .inl (nF TY)))]) := by
  have hs8 := hw0.1
  have hA64 := hw0.2.1
  have hN0 := hR.1
  have hBK := tf_BK hTr hn
  have hDK := tf_DK hTr hn
  have hp := plc_le KS KL n s A
  have hcb := cbl_le KS KL n s A
  have hfl := fnd_le KS KL n s A
  have hkj8 := (hk j hj).1
  refine wr_start (by decide) (Nat.le_of_ble_eq_true rfl) ?_
  intro pp ee ss mm below meth cd AA C0 hAA hP hK hD hS hN hnm ls hl
  obtain ⟨hx, hb, hr, hml, hown, hts, hlk⟩ := C0
  have hown : ss.vm.findClass RX6 = some mm.cls := hown
  have hl : lv_has ls 3 [(0, .ref m0), (1, .int (nI j)), (2, .int (nI t))] := hl
  have hP : va_P D vwCl [(m0, .inr (6, [.ref nw, .ref ps, .int (nI u), .ref im, .ref mk, .int (nI sd), .ref wd, .int (nI s), .ref so, .int (nI q), .ref mb, .ref ma, .ref mf, .ref mw, .ref ml, .ref mu, .int (nI br), .ref wt, .int (nI ww), .ref ty])), (nw, .inl (cI, 241, .inl (nF NW))), (ps, .inl (cI, 4820, .inl (nF PS))), (im, .inl (cI, 484, .inl (nF IM))), (mk, .inl (cZ, 2, .inl (nF MK))), (wd, .inl (cI, 8, .inl (nF WD))), (so, .inl (cI, 24, .inl (nF SO))), (mb, .inl (cI, 24, .inl (nF EB))), (ma, .inl (cI, 24, .inl (nF EA))), (mf, .inl (cI, 24, .inl (nF EF))), (mw, .inl (cI, 24, .inl (nF EW))), (ml, .inl (cI, 24, .inl (nF EL))), (mu, .inl (cI, 24, .inl (oF EU))), (wt, .inl (cI, 200, .inl (oF WT))), (ty, .inl (cI, 8, .inl (nF TY)))] ss.heap := hP
  refine lv_aload_n hx hb dX6_key_0 rfl (lv_at hl 0 rfl) ?_
  refine lv_iload_n hx hb dX6_key_1 rfl (lv_at hl 1 rfl) ?_
  refine ro_V (As := [.int (nI j)]) (rest := []) ⟨hx, hb, hml, hown, hts⟩ (c_X6_isKey l D cI cJ cZ m0 nw ps im mk wd so mb ma mf mw ml mu wt ty NW PS u IM MK sd WD s SO q EB EA EF EW EL EU br WT ww TY KS KL KW n A hn hk hw0 hR hRW j (by omega)) (k_X6_85 hts ⟨Nat.le_of_ble_eq_true rfl, Nat.le_of_ble_eq_true rfl⟩) hK hP 0 rfl rfl rfl [0, 1, 2, 3, 4, 5, 6, 7, 8, 9, 10, 11, 12, 13, 14] rfl rfl hl.1 rfl (Nat.le_of_ble_eq_true rfl) dX6_key_2 ⟨Nat.le_of_ble_eq_true rfl, Nat.le_of_ble_eq_true rfl⟩ ?_
  refine b_if_ne (tgt := 11) hx hb dX6_key_5 (by decide) (fun c1 => ?_) (fun c1 => ?_)
  ·
    refine lv_iload_n hx hb dX6_key_11 rfl (lv_at hl 2 rfl) ?_
    refine lv_iconst (v := nI 0) hx hb dX6_key_12 (by decide +kernel) ?_
    refine lv_bipush (v := nI 12) hx hb dX6_key_13 (by decide +kernel) ?_
    refine ro_S (As := [.int (nI t), .int (nI 0), .int (nI 12)]) (rest := []) ⟨hx, hb, hml, hown, hts⟩ (c_X6_in l D cI cJ cZ t 0 12 (by omega) (by omega) (by omega)) (k_X6_79 hts ⟨Nat.le_of_ble_eq_true rfl, Nat.le_of_ble_eq_true rfl⟩) hK hP [] rfl rfl hl.1 rfl (Nat.le_of_ble_eq_true rfl) dX6_key_15 ⟨Nat.le_of_ble_eq_true rfl, Nat.le_of_ble_eq_true rfl⟩ ?_
    refine b_if_ne (tgt := 24) hx hb dX6_key_18 (by decide) (fun c2 => ?_) (fun c2 => ?_)
    ·
      refine lv_iload_n hx hb dX6_key_24 rfl (lv_at hl 2 rfl) ?_
      refine lv_tableOut (tgt := 108) hx hb dX6_key_25 (Or.inl (tn_lo (by omega) (by omega))) (by decide) ?_
      refine lv_iload_n hx hb dX6_key_108 rfl (lv_at hl 2 rfl) ?_
      refine lv_aload_n hx hb dX6_key_109 rfl (lv_at hl 0 rfl) ?_
      refine va_get (D := D) (ci := 6) (v := .ref nw) (C := RX6) (T := TX6) (N := 20) hx hb hts inX6 hown hK hP 0 rfl rfl 0 (by decide) (hts _ mf_X6_7) (fun _ h9 => h9) rfl dX6_key_110 ?_
      refine lv_iconst (v := nI 1) hx hb dX6_key_113 (by decide +kernel) ?_
      refine lv_iload_n hx hb dX6_key_114 rfl (lv_at hl 1 rfl) ?_
      refine n_iadd hx hb dX6_key_115 ?_
      refine n_iald hx hb hK hP 1 0 rfl rfl (k := (1 + j)) (by omega) (by decide) dX6_key_116 ?_
      refine tq (y := nI (KS j)) (congrArg nI ((hR.2 j hj).1)) ?_
      refine n_ge (tgt := 137) hx hb dX6_key_117 (by decide) (by omega) (by omega) (fun c3 => ?_) (fun c3 => ?_)
      ·
        exact absurd c3 (by omega)
      ·
        refine lv_aload_n hx hb dX6_key_120 rfl (lv_at hl 0 rfl) ?_
        refine va_get (D := D) (ci := 6) (v := .ref nw) (C := RX6) (T := TX6) (N := 20) hx hb hts inX6 hown hK hP 0 rfl rfl 0 (by decide) (hts _ mf_X6_7) (fun _ h9 => h9) rfl dX6_key_121 ?_
        refine lv_bipush (v := nI 49) hx hb dX6_key_124 (by decide +kernel) ?_
        refine lv_bipush (v := nI 8) hx hb dX6_key_126 (by decide +kernel) ?_
        refine lv_iload_n hx hb dX6_key_128 rfl (lv_at hl 1 rfl) ?_
        refine n_imul hx hb dX6_key_129 ?_
        refine n_iadd hx hb dX6_key_130 ?_
        refine lv_iload_n hx hb dX6_key_131 rfl (lv_at hl 2 rfl) ?_
        refine n_iadd hx hb dX6_key_132 ?_
        refine n_iald hx hb hK hP 1 0 rfl rfl (k := ((49 + (8 * j)) + t)) (by omega) (by decide) dX6_key_133 ?_
        refine tq (y := nI (letr (KL j) t)) (congrArg nI ((hR.2 j hj).2.2 t hts2)) ?_
        refine lv_goto (tgt := 138) hx hb dX6_key_134 (by decide) ?_
        exact wr_iret hx hb hr hlk hP hD hS dX6_key_138 (⟨rfl, SO, q, EB, EA, EF, EW, EL, EU, br, WT, ww, rfl⟩)
    ·
      exact (c2 (by omega)).elim
  ·
    exact (c1 (by omega)).elim
set_option maxHeartbeats 4000000 in
set_option maxRecDepth 100000 in
theorem c_X6_key_nolet (l : Launch) (D : va_G) (cI cJ cZ : ClassId) (m0 nw ps im mk wd so mb ma mf mw ml mu wt ty : Nat) (NW : Nat → Nat) (PS : Nat → Nat) (u : Nat) (IM : Nat → Nat) (MK : Nat → Nat) (sd : Nat) (WD : Nat → Nat) (s : Nat) (SO : Nat → Nat) (q : Nat) (EB : Nat → Nat) (EA : Nat → Nat) (EF : Nat → Nat) (EW : Nat → Nat) (EL : Nat → Nat) (EU : Nat → Nat) (br : Nat) (WT : Nat → Nat) (ww : Nat) (TY : Nat → Nat) (KS KL KW : Nat → Nat) (n A : Nat) (hn : n ≤ 24) (hk : ∀ k, k < n → Wf (KS k) (KL k)) (hw0 : Wf s A) (hR : RN NW KS KL KW n) (hRW : RW WD s A) (hso : Srt KS KL n) (BB BD BM BL BF BA BK : Nat → Nat) (hTr : TrX (gapF KS KL) n BB BD BM BL BF BA BK) (hv : ∀ k, k < n → KW k ≤ 9999) (j : Nat) (hj : j < n) (t : Nat) (ht8 : t < 8) (hts2 : ¬ t < KS j) (sz : Nat) : WR l yX6_key cX6_key 3 (some .int) (rmN 5 116) D (ty3 cI cJ cZ) [.ref m0, .int (nI j), .int (nI t)] [(m0, .inr (6, [.ref nw, .ref ps, .int (nI u), .ref im, .ref mk, .int (nI sd), .ref wd, .int (nI s), .ref so, .int (nI q), .ref mb, .ref ma, .ref mf, .ref mw, .ref ml, .ref mu, .int (nI br), .ref wt, .int (nI ww), .ref ty])), (nw, .inl (cI, 241, .inl (nF NW))), (ps, .inl (cI, 4820, .inl (nF PS))), (im, .inl (cI, 484, .inl (nF IM))), (mk, .inl (cZ, 2, .inl (nF MK))), (wd, .inl (cI, 8, .inl (nF WD))), (so, .inl (cI, 24, .inl (nF SO))), (mb, .inl (cI, 24, .inl (nF EB))), (ma, .inl (cI, 24, .inl (nF EA))), (mf, .inl (cI, 24, .inl (nF EF))), (mw, .inl (cI, 24, .inl (nF EW))), (ml, .inl (cI, 24, .inl (nF EL))), (mu, .inl (cI, 24, .inl (oF EU))), (wt, .inl (cI, 200, .inl (oF WT))), (ty, .inl (cI, 8, .inl (nF TY)))] sz (fun x w => x = some (.int (oI 0)) ∧ ∃ (SO : Nat → Nat) (q : Nat) (EB EA EF EW EL EU : Nat → Nat) (br : Nat) (WT : Nat → Nat) (ww : Nat), w = [(m0, .inr (6, [.ref nw, .ref ps, .int (nI u), .ref im, .ref mk, .int (nI sd), .ref wd, .int (nI s), .ref so, .int (nI q), .ref mb, .ref ma, .ref mf, .ref mw, .ref ml, .ref mu, .int (nI br), .ref wt, .int (nI ww), .ref ty])), (nw, .inl (cI, 241, .inl (nF NW))), (ps, .inl (cI, 4820, .inl (nF PS))), (im, .inl (cI, 484, .inl (nF IM))), (mk, .inl (cZ, 2, .inl (nF MK))), (wd, .inl (cI, 8, .inl (nF WD))), (so, .inl (cI, 24, .inl (nF SO))), (mb, .inl (cI, 24, .inl (nF EB))), (ma, .inl (cI, 24, .inl (nF EA))), (mf, .inl (cI, 24, .inl (nF EF))), (mw, .inl (cI, 24, .inl (nF EW))), (ml, .inl (cI, 24, .inl (nF EL))), (mu, .inl (cI, 24, .inl (oF EU))), (wt, .inl (cI, 200, .inl (oF WT))), (ty, .inl (cI, 8, .inl (nF TY)))]) := by
  have hs8 := hw0.1
  have hA64 := hw0.2.1
  have hN0 := hR.1
  have hBK := tf_BK hTr hn
  have hDK := tf_DK hTr hn
  have hp := plc_le KS KL n s A
  have hcb := cbl_le KS KL n s A
  have hfl := fnd_le KS KL n s A
  have hkj8 := (hk j hj).1
  refine wr_start (by decide) (Nat.le_of_ble_eq_true rfl) ?_
  intro pp ee ss mm below meth cd AA C0 hAA hP hK hD hS hN hnm ls hl
  obtain ⟨hx, hb, hr, hml, hown, hts, hlk⟩ := C0
  have hown : ss.vm.findClass RX6 = some mm.cls := hown
  have hl : lv_has ls 3 [(0, .ref m0), (1, .int (nI j)), (2, .int (nI t))] := hl
  have hP : va_P D vwCl [(m0, .inr (6, [.ref nw, .ref ps, .int (nI u), .ref im, .ref mk, .int (nI sd), .ref wd, .int (nI s), .ref so, .int (nI q), .ref mb, .ref ma, .ref mf, .ref mw, .ref ml, .ref mu, .int (nI br), .ref wt, .int (nI ww), .ref ty])), (nw, .inl (cI, 241, .inl (nF NW))), (ps, .inl (cI, 4820, .inl (nF PS))), (im, .inl (cI, 484, .inl (nF IM))), (mk, .inl (cZ, 2, .inl (nF MK))), (wd, .inl (cI, 8, .inl (nF WD))), (so, .inl (cI, 24, .inl (nF SO))), (mb, .inl (cI, 24, .inl (nF EB))), (ma, .inl (cI, 24, .inl (nF EA))), (mf, .inl (cI, 24, .inl (nF EF))), (mw, .inl (cI, 24, .inl (nF EW))), (ml, .inl (cI, 24, .inl (nF EL))), (mu, .inl (cI, 24, .inl (oF EU))), (wt, .inl (cI, 200, .inl (oF WT))), (ty, .inl (cI, 8, .inl (nF TY)))] ss.heap := hP
  refine lv_aload_n hx hb dX6_key_0 rfl (lv_at hl 0 rfl) ?_
  refine lv_iload_n hx hb dX6_key_1 rfl (lv_at hl 1 rfl) ?_
  refine ro_V (As := [.int (nI j)]) (rest := []) ⟨hx, hb, hml, hown, hts⟩ (c_X6_isKey l D cI cJ cZ m0 nw ps im mk wd so mb ma mf mw ml mu wt ty NW PS u IM MK sd WD s SO q EB EA EF EW EL EU br WT ww TY KS KL KW n A hn hk hw0 hR hRW j (by omega)) (k_X6_85 hts ⟨Nat.le_of_ble_eq_true rfl, Nat.le_of_ble_eq_true rfl⟩) hK hP 0 rfl rfl rfl [0, 1, 2, 3, 4, 5, 6, 7, 8, 9, 10, 11, 12, 13, 14] rfl rfl hl.1 rfl (Nat.le_of_ble_eq_true rfl) dX6_key_2 ⟨Nat.le_of_ble_eq_true rfl, Nat.le_of_ble_eq_true rfl⟩ ?_
  refine b_if_ne (tgt := 11) hx hb dX6_key_5 (by decide) (fun c1 => ?_) (fun c1 => ?_)
  ·
    refine lv_iload_n hx hb dX6_key_11 rfl (lv_at hl 2 rfl) ?_
    refine lv_iconst (v := nI 0) hx hb dX6_key_12 (by decide +kernel) ?_
    refine lv_bipush (v := nI 12) hx hb dX6_key_13 (by decide +kernel) ?_
    refine ro_S (As := [.int (nI t), .int (nI 0), .int (nI 12)]) (rest := []) ⟨hx, hb, hml, hown, hts⟩ (c_X6_in l D cI cJ cZ t 0 12 (by omega) (by omega) (by omega)) (k_X6_79 hts ⟨Nat.le_of_ble_eq_true rfl, Nat.le_of_ble_eq_true rfl⟩) hK hP [] rfl rfl hl.1 rfl (Nat.le_of_ble_eq_true rfl) dX6_key_15 ⟨Nat.le_of_ble_eq_true rfl, Nat.le_of_ble_eq_true rfl⟩ ?_
    refine b_if_ne (tgt := 24) hx hb dX6_key_18 (by decide) (fun c2 => ?_) (fun c2 => ?_)
    ·
      refine lv_iload_n hx hb dX6_key_24 rfl (lv_at hl 2 rfl) ?_
      refine lv_tableOut (tgt := 108) hx hb dX6_key_25 (Or.inl (tn_lo (by omega) (by omega))) (by decide) ?_
      refine lv_iload_n hx hb dX6_key_108 rfl (lv_at hl 2 rfl) ?_
      refine lv_aload_n hx hb dX6_key_109 rfl (lv_at hl 0 rfl) ?_
      refine va_get (D := D) (ci := 6) (v := .ref nw) (C := RX6) (T := TX6) (N := 20) hx hb hts inX6 hown hK hP 0 rfl rfl 0 (by decide) (hts _ mf_X6_7) (fun _ h9 => h9) rfl dX6_key_110 ?_
      refine lv_iconst (v := nI 1) hx hb dX6_key_113 (by decide +kernel) ?_
      refine lv_iload_n hx hb dX6_key_114 rfl (lv_at hl 1 rfl) ?_
      refine n_iadd hx hb dX6_key_115 ?_
      refine n_iald hx hb hK hP 1 0 rfl rfl (k := (1 + j)) (by omega) (by decide) dX6_key_116 ?_
      refine tq (y := nI (KS j)) (congrArg nI ((hR.2 j hj).1)) ?_
      refine n_ge (tgt := 137) hx hb dX6_key_117 (by decide) (by omega) (by omega) (fun c3 => ?_) (fun c3 => ?_)
      ·
        refine lv_iconst (v := oI 0) hx hb dX6_key_137 (by decide +kernel) ?_
        exact wr_iret hx hb hr hlk hP hD hS dX6_key_138 (⟨rfl, SO, q, EB, EA, EF, EW, EL, EU, br, WT, ww, rfl⟩)
      ·
        exact absurd c3 (by omega)
    ·
      exact (c2 (by omega)).elim
  ·
    exact (c1 (by omega)).elim
set_option maxHeartbeats 4000000 in
set_option maxRecDepth 100000 in
theorem c_X6_key_8 (l : Launch) (D : va_G) (cI cJ cZ : ClassId) (m0 nw ps im mk wd so mb ma mf mw ml mu wt ty : Nat) (NW : Nat → Nat) (PS : Nat → Nat) (u : Nat) (IM : Nat → Nat) (MK : Nat → Nat) (sd : Nat) (WD : Nat → Nat) (s : Nat) (SO : Nat → Nat) (q : Nat) (EB : Nat → Nat) (EA : Nat → Nat) (EF : Nat → Nat) (EW : Nat → Nat) (EL : Nat → Nat) (EU : Nat → Nat) (br : Nat) (WT : Nat → Nat) (ww : Nat) (TY : Nat → Nat) (KS KL KW : Nat → Nat) (n A : Nat) (hn : n ≤ 24) (hk : ∀ k, k < n → Wf (KS k) (KL k)) (hw0 : Wf s A) (hR : RN NW KS KL KW n) (hRW : RW WD s A) (hso : Srt KS KL n) (BB BD BM BL BF BA BK : Nat → Nat) (hTr : TrX (gapF KS KL) n BB BD BM BL BF BA BK) (hv : ∀ k, k < n → KW k ≤ 9999) (j : Nat) (hj : j < n) (sz : Nat) : WR l yX6_key cX6_key 3 (some .int) (rmN 5 116) D (ty3 cI cJ cZ) [.ref m0, .int (nI j), .int (nI 8)] [(m0, .inr (6, [.ref nw, .ref ps, .int (nI u), .ref im, .ref mk, .int (nI sd), .ref wd, .int (nI s), .ref so, .int (nI q), .ref mb, .ref ma, .ref mf, .ref mw, .ref ml, .ref mu, .int (nI br), .ref wt, .int (nI ww), .ref ty])), (nw, .inl (cI, 241, .inl (nF NW))), (ps, .inl (cI, 4820, .inl (nF PS))), (im, .inl (cI, 484, .inl (nF IM))), (mk, .inl (cZ, 2, .inl (nF MK))), (wd, .inl (cI, 8, .inl (nF WD))), (so, .inl (cI, 24, .inl (nF SO))), (mb, .inl (cI, 24, .inl (nF EB))), (ma, .inl (cI, 24, .inl (nF EA))), (mf, .inl (cI, 24, .inl (nF EF))), (mw, .inl (cI, 24, .inl (nF EW))), (ml, .inl (cI, 24, .inl (nF EL))), (mu, .inl (cI, 24, .inl (oF EU))), (wt, .inl (cI, 200, .inl (oF WT))), (ty, .inl (cI, 8, .inl (nF TY)))] sz (fun x w => x = some (.int (nI (KS j))) ∧ ∃ (SO : Nat → Nat) (q : Nat) (EB EA EF EW EL EU : Nat → Nat) (br : Nat) (WT : Nat → Nat) (ww : Nat), w = [(m0, .inr (6, [.ref nw, .ref ps, .int (nI u), .ref im, .ref mk, .int (nI sd), .ref wd, .int (nI s), .ref so, .int (nI q), .ref mb, .ref ma, .ref mf, .ref mw, .ref ml, .ref mu, .int (nI br), .ref wt, .int (nI ww), .ref ty])), (nw, .inl (cI, 241, .inl (nF NW))), (ps, .inl (cI, 4820, .inl (nF PS))), (im, .inl (cI, 484, .inl (nF IM))), (mk, .inl (cZ, 2, .inl (nF MK))), (wd, .inl (cI, 8, .inl (nF WD))), (so, .inl (cI, 24, .inl (nF SO))), (mb, .inl (cI, 24, .inl (nF EB))), (ma, .inl (cI, 24, .inl (nF EA))), (mf, .inl (cI, 24, .inl (nF EF))), (mw, .inl (cI, 24, .inl (nF EW))), (ml, .inl (cI, 24, .inl (nF EL))), (mu, .inl (cI, 24, .inl (oF EU))), (wt, .inl (cI, 200, .inl (oF WT))), (ty, .inl (cI, 8, .inl (nF TY)))]) := by
  have hs8 := hw0.1
  have hA64 := hw0.2.1
  have hN0 := hR.1
  have hBK := tf_BK hTr hn
  have hDK := tf_DK hTr hn
  have hp := plc_le KS KL n s A
  have hcb := cbl_le KS KL n s A
  have hfl := fnd_le KS KL n s A
  refine wr_start (by decide) (Nat.le_of_ble_eq_true rfl) ?_
  intro pp ee ss mm below meth cd AA C0 hAA hP hK hD hS hN hnm ls hl
  obtain ⟨hx, hb, hr, hml, hown, hts, hlk⟩ := C0
  have hown : ss.vm.findClass RX6 = some mm.cls := hown
  have hl : lv_has ls 3 [(0, .ref m0), (1, .int (nI j)), (2, .int (nI 8))] := hl
  have hP : va_P D vwCl [(m0, .inr (6, [.ref nw, .ref ps, .int (nI u), .ref im, .ref mk, .int (nI sd), .ref wd, .int (nI s), .ref so, .int (nI q), .ref mb, .ref ma, .ref mf, .ref mw, .ref ml, .ref mu, .int (nI br), .ref wt, .int (nI ww), .ref ty])), (nw, .inl (cI, 241, .inl (nF NW))), (ps, .inl (cI, 4820, .inl (nF PS))), (im, .inl (cI, 484, .inl (nF IM))), (mk, .inl (cZ, 2, .inl (nF MK))), (wd, .inl (cI, 8, .inl (nF WD))), (so, .inl (cI, 24, .inl (nF SO))), (mb, .inl (cI, 24, .inl (nF EB))), (ma, .inl (cI, 24, .inl (nF EA))), (mf, .inl (cI, 24, .inl (nF EF))), (mw, .inl (cI, 24, .inl (nF EW))), (ml, .inl (cI, 24, .inl (nF EL))), (mu, .inl (cI, 24, .inl (oF EU))), (wt, .inl (cI, 200, .inl (oF WT))), (ty, .inl (cI, 8, .inl (nF TY)))] ss.heap := hP
  refine lv_aload_n hx hb dX6_key_0 rfl (lv_at hl 0 rfl) ?_
  refine lv_iload_n hx hb dX6_key_1 rfl (lv_at hl 1 rfl) ?_
  refine ro_V (As := [.int (nI j)]) (rest := []) ⟨hx, hb, hml, hown, hts⟩ (c_X6_isKey l D cI cJ cZ m0 nw ps im mk wd so mb ma mf mw ml mu wt ty NW PS u IM MK sd WD s SO q EB EA EF EW EL EU br WT ww TY KS KL KW n A hn hk hw0 hR hRW j (by omega)) (k_X6_85 hts ⟨Nat.le_of_ble_eq_true rfl, Nat.le_of_ble_eq_true rfl⟩) hK hP 0 rfl rfl rfl [0, 1, 2, 3, 4, 5, 6, 7, 8, 9, 10, 11, 12, 13, 14] rfl rfl hl.1 rfl (Nat.le_of_ble_eq_true rfl) dX6_key_2 ⟨Nat.le_of_ble_eq_true rfl, Nat.le_of_ble_eq_true rfl⟩ ?_
  refine b_if_ne (tgt := 11) hx hb dX6_key_5 (by decide) (fun c1 => ?_) (fun c1 => ?_)
  ·
    refine lv_iload_n hx hb dX6_key_11 rfl (lv_at hl 2 rfl) ?_
    refine lv_iconst (v := nI 0) hx hb dX6_key_12 (by decide +kernel) ?_
    refine lv_bipush (v := nI 12) hx hb dX6_key_13 (by decide +kernel) ?_
    refine ro_S (As := [.int (nI 8), .int (nI 0), .int (nI 12)]) (rest := []) ⟨hx, hb, hml, hown, hts⟩ (c_X6_in l D cI cJ cZ 8 0 12 (by omega) (by omega) (by omega)) (k_X6_79 hts ⟨Nat.le_of_ble_eq_true rfl, Nat.le_of_ble_eq_true rfl⟩) hK hP [] rfl rfl hl.1 rfl (Nat.le_of_ble_eq_true rfl) dX6_key_15 ⟨Nat.le_of_ble_eq_true rfl, Nat.le_of_ble_eq_true rfl⟩ ?_
    refine b_if_ne (tgt := 24) hx hb dX6_key_18 (by decide) (fun c2 => ?_) (fun c2 => ?_)
    ·
      refine lv_iload_n hx hb dX6_key_24 rfl (lv_at hl 2 rfl) ?_
      refine lv_tableIn (tgt := 60) (off := 35) hx hb dX6_key_25 (by decide +kernel) (by decide +kernel) (by decide +kernel) (by decide) ?_
      refine lv_aload_n hx hb dX6_key_60 rfl (lv_at hl 0 rfl) ?_
      refine va_get (D := D) (ci := 6) (v := .ref nw) (C := RX6) (T := TX6) (N := 20) hx hb hts inX6 hown hK hP 0 rfl rfl 0 (by decide) (hts _ mf_X6_7) (fun _ h9 => h9) rfl dX6_key_61 ?_
      refine lv_iconst (v := nI 1) hx hb dX6_key_64 (by decide +kernel) ?_
      refine lv_iload_n hx hb dX6_key_65 rfl (lv_at hl 1 rfl) ?_
      refine n_iadd hx hb dX6_key_66 ?_
      refine n_iald hx hb hK hP 1 0 rfl rfl (k := (1 + j)) (by omega) (by decide) dX6_key_67 ?_
      refine tq (y := nI (KS j)) (congrArg nI ((hR.2 j hj).1)) ?_
      exact wr_iret hx hb hr hlk hP hD hS dX6_key_68 (⟨rfl, SO, q, EB, EA, EF, EW, EL, EU, br, WT, ww, rfl⟩)
    ·
      exact (c2 (by decide)).elim
  ·
    exact (c1 (by omega)).elim
set_option maxHeartbeats 4000000 in
set_option maxRecDepth 100000 in
theorem c_X6_key_9 (l : Launch) (D : va_G) (cI cJ cZ : ClassId) (m0 nw ps im mk wd so mb ma mf mw ml mu wt ty : Nat) (NW : Nat → Nat) (PS : Nat → Nat) (u : Nat) (IM : Nat → Nat) (MK : Nat → Nat) (sd : Nat) (WD : Nat → Nat) (s : Nat) (SO : Nat → Nat) (q : Nat) (EB : Nat → Nat) (EA : Nat → Nat) (EF : Nat → Nat) (EW : Nat → Nat) (EL : Nat → Nat) (EU : Nat → Nat) (br : Nat) (WT : Nat → Nat) (ww : Nat) (TY : Nat → Nat) (KS KL KW : Nat → Nat) (n A : Nat) (hn : n ≤ 24) (hk : ∀ k, k < n → Wf (KS k) (KL k)) (hw0 : Wf s A) (hR : RN NW KS KL KW n) (hRW : RW WD s A) (hso : Srt KS KL n) (BB BD BM BL BF BA BK : Nat → Nat) (hTr : TrX (gapF KS KL) n BB BD BM BL BF BA BK) (hv : ∀ k, k < n → KW k ≤ 9999) (j : Nat) (hj : j < n) (sz : Nat) : WR l yX6_key cX6_key 3 (some .int) (rmN 5 116) D (ty3 cI cJ cZ) [.ref m0, .int (nI j), .int (nI 9)] [(m0, .inr (6, [.ref nw, .ref ps, .int (nI u), .ref im, .ref mk, .int (nI sd), .ref wd, .int (nI s), .ref so, .int (nI q), .ref mb, .ref ma, .ref mf, .ref mw, .ref ml, .ref mu, .int (nI br), .ref wt, .int (nI ww), .ref ty])), (nw, .inl (cI, 241, .inl (nF NW))), (ps, .inl (cI, 4820, .inl (nF PS))), (im, .inl (cI, 484, .inl (nF IM))), (mk, .inl (cZ, 2, .inl (nF MK))), (wd, .inl (cI, 8, .inl (nF WD))), (so, .inl (cI, 24, .inl (nF SO))), (mb, .inl (cI, 24, .inl (nF EB))), (ma, .inl (cI, 24, .inl (nF EA))), (mf, .inl (cI, 24, .inl (nF EF))), (mw, .inl (cI, 24, .inl (nF EW))), (ml, .inl (cI, 24, .inl (nF EL))), (mu, .inl (cI, 24, .inl (oF EU))), (wt, .inl (cI, 200, .inl (oF WT))), (ty, .inl (cI, 8, .inl (nF TY)))] sz (fun x w => x = some (.int (nI (KW j))) ∧ ∃ (SO : Nat → Nat) (q : Nat) (EB EA EF EW EL EU : Nat → Nat) (br : Nat) (WT : Nat → Nat) (ww : Nat), w = [(m0, .inr (6, [.ref nw, .ref ps, .int (nI u), .ref im, .ref mk, .int (nI sd), .ref wd, .int (nI s), .ref so, .int (nI q), .ref mb, .ref ma, .ref mf, .ref mw, .ref ml, .ref mu, .int (nI br), .ref wt, .int (nI ww), .ref ty])), (nw, .inl (cI, 241, .inl (nF NW))), (ps, .inl (cI, 4820, .inl (nF PS))), (im, .inl (cI, 484, .inl (nF IM))), (mk, .inl (cZ, 2, .inl (nF MK))), (wd, .inl (cI, 8, .inl (nF WD))), (so, .inl (cI, 24, .inl (nF SO))), (mb, .inl (cI, 24, .inl (nF EB))), (ma, .inl (cI, 24, .inl (nF EA))), (mf, .inl (cI, 24, .inl (nF EF))), (mw, .inl (cI, 24, .inl (nF EW))), (ml, .inl (cI, 24, .inl (nF EL))), (mu, .inl (cI, 24, .inl (oF EU))), (wt, .inl (cI, 200, .inl (oF WT))), (ty, .inl (cI, 8, .inl (nF TY)))]) := by
  have hs8 := hw0.1
  have hA64 := hw0.2.1
  have hN0 := hR.1
  have hBK := tf_BK hTr hn
  have hDK := tf_DK hTr hn
  have hp := plc_le KS KL n s A
  have hcb := cbl_le KS KL n s A
  have hfl := fnd_le KS KL n s A
  refine wr_start (by decide) (Nat.le_of_ble_eq_true rfl) ?_
  intro pp ee ss mm below meth cd AA C0 hAA hP hK hD hS hN hnm ls hl
  obtain ⟨hx, hb, hr, hml, hown, hts, hlk⟩ := C0
  have hown : ss.vm.findClass RX6 = some mm.cls := hown
  have hl : lv_has ls 3 [(0, .ref m0), (1, .int (nI j)), (2, .int (nI 9))] := hl
  have hP : va_P D vwCl [(m0, .inr (6, [.ref nw, .ref ps, .int (nI u), .ref im, .ref mk, .int (nI sd), .ref wd, .int (nI s), .ref so, .int (nI q), .ref mb, .ref ma, .ref mf, .ref mw, .ref ml, .ref mu, .int (nI br), .ref wt, .int (nI ww), .ref ty])), (nw, .inl (cI, 241, .inl (nF NW))), (ps, .inl (cI, 4820, .inl (nF PS))), (im, .inl (cI, 484, .inl (nF IM))), (mk, .inl (cZ, 2, .inl (nF MK))), (wd, .inl (cI, 8, .inl (nF WD))), (so, .inl (cI, 24, .inl (nF SO))), (mb, .inl (cI, 24, .inl (nF EB))), (ma, .inl (cI, 24, .inl (nF EA))), (mf, .inl (cI, 24, .inl (nF EF))), (mw, .inl (cI, 24, .inl (nF EW))), (ml, .inl (cI, 24, .inl (nF EL))), (mu, .inl (cI, 24, .inl (oF EU))), (wt, .inl (cI, 200, .inl (oF WT))), (ty, .inl (cI, 8, .inl (nF TY)))] ss.heap := hP
  refine lv_aload_n hx hb dX6_key_0 rfl (lv_at hl 0 rfl) ?_
  refine lv_iload_n hx hb dX6_key_1 rfl (lv_at hl 1 rfl) ?_
  refine ro_V (As := [.int (nI j)]) (rest := []) ⟨hx, hb, hml, hown, hts⟩ (c_X6_isKey l D cI cJ cZ m0 nw ps im mk wd so mb ma mf mw ml mu wt ty NW PS u IM MK sd WD s SO q EB EA EF EW EL EU br WT ww TY KS KL KW n A hn hk hw0 hR hRW j (by omega)) (k_X6_85 hts ⟨Nat.le_of_ble_eq_true rfl, Nat.le_of_ble_eq_true rfl⟩) hK hP 0 rfl rfl rfl [0, 1, 2, 3, 4, 5, 6, 7, 8, 9, 10, 11, 12, 13, 14] rfl rfl hl.1 rfl (Nat.le_of_ble_eq_true rfl) dX6_key_2 ⟨Nat.le_of_ble_eq_true rfl, Nat.le_of_ble_eq_true rfl⟩ ?_
  refine b_if_ne (tgt := 11) hx hb dX6_key_5 (by decide) (fun c1 => ?_) (fun c1 => ?_)
  ·
    refine lv_iload_n hx hb dX6_key_11 rfl (lv_at hl 2 rfl) ?_
    refine lv_iconst (v := nI 0) hx hb dX6_key_12 (by decide +kernel) ?_
    refine lv_bipush (v := nI 12) hx hb dX6_key_13 (by decide +kernel) ?_
    refine ro_S (As := [.int (nI 9), .int (nI 0), .int (nI 12)]) (rest := []) ⟨hx, hb, hml, hown, hts⟩ (c_X6_in l D cI cJ cZ 9 0 12 (by omega) (by omega) (by omega)) (k_X6_79 hts ⟨Nat.le_of_ble_eq_true rfl, Nat.le_of_ble_eq_true rfl⟩) hK hP [] rfl rfl hl.1 rfl (Nat.le_of_ble_eq_true rfl) dX6_key_15 ⟨Nat.le_of_ble_eq_true rfl, Nat.le_of_ble_eq_true rfl⟩ ?_
    refine b_if_ne (tgt := 24) hx hb dX6_key_18 (by decide) (fun c2 => ?_) (fun c2 => ?_)
    ·
      refine lv_iload_n hx hb dX6_key_24 rfl (lv_at hl 2 rfl) ?_
      refine lv_tableIn (tgt := 69) (off := 44) hx hb dX6_key_25 (by decide +kernel) (by decide +kernel) (by decide +kernel) (by decide) ?_
      refine lv_aload_n hx hb dX6_key_69 rfl (lv_at hl 0 rfl) ?_
      refine va_get (D := D) (ci := 6) (v := .ref nw) (C := RX6) (T := TX6) (N := 20) hx hb hts inX6 hown hK hP 0 rfl rfl 0 (by decide) (hts _ mf_X6_7) (fun _ h9 => h9) rfl dX6_key_70 ?_
      refine lv_bipush (v := nI 25) hx hb dX6_key_73 (by decide +kernel) ?_
      refine lv_iload_n hx hb dX6_key_75 rfl (lv_at hl 1 rfl) ?_
      refine n_iadd hx hb dX6_key_76 ?_
      refine n_iald hx hb hK hP 1 0 rfl rfl (k := (25 + j)) (by omega) (by decide) dX6_key_77 ?_
      refine tq (y := nI (KW j)) (congrArg nI ((hR.2 j hj).2.1)) ?_
      exact wr_iret hx hb hr hlk hP hD hS dX6_key_78 (⟨rfl, SO, q, EB, EA, EF, EW, EL, EU, br, WT, ww, rfl⟩)
    ·
      exact (c2 (by decide)).elim
  ·
    exact (c1 (by omega)).elim
set_option maxHeartbeats 4000000 in
set_option maxRecDepth 100000 in
theorem c_X6_key_10 (l : Launch) (D : va_G) (cI cJ cZ : ClassId) (m0 nw ps im mk wd so mb ma mf mw ml mu wt ty : Nat) (NW : Nat → Nat) (PS : Nat → Nat) (u : Nat) (IM : Nat → Nat) (MK : Nat → Nat) (sd : Nat) (WD : Nat → Nat) (s : Nat) (SO : Nat → Nat) (q : Nat) (EB : Nat → Nat) (EA : Nat → Nat) (EF : Nat → Nat) (EW : Nat → Nat) (EL : Nat → Nat) (EU : Nat → Nat) (br : Nat) (WT : Nat → Nat) (ww : Nat) (TY : Nat → Nat) (KS KL KW : Nat → Nat) (n A : Nat) (hn : n ≤ 24) (hk : ∀ k, k < n → Wf (KS k) (KL k)) (hw0 : Wf s A) (hR : RN NW KS KL KW n) (hRW : RW WD s A) (hso : Srt KS KL n) (BB BD BM BL BF BA BK : Nat → Nat) (hTr : TrX (gapF KS KL) n BB BD BM BL BF BA BK) (hv : ∀ k, k < n → KW k ≤ 9999) (j : Nat) (hj : j < n) (sz : Nat) : WR l yX6_key cX6_key 3 (some .int) (rmN 5 116) D (ty3 cI cJ cZ) [.ref m0, .int (nI j), .int (nI 10)] [(m0, .inr (6, [.ref nw, .ref ps, .int (nI u), .ref im, .ref mk, .int (nI sd), .ref wd, .int (nI s), .ref so, .int (nI q), .ref mb, .ref ma, .ref mf, .ref mw, .ref ml, .ref mu, .int (nI br), .ref wt, .int (nI ww), .ref ty])), (nw, .inl (cI, 241, .inl (nF NW))), (ps, .inl (cI, 4820, .inl (nF PS))), (im, .inl (cI, 484, .inl (nF IM))), (mk, .inl (cZ, 2, .inl (nF MK))), (wd, .inl (cI, 8, .inl (nF WD))), (so, .inl (cI, 24, .inl (nF SO))), (mb, .inl (cI, 24, .inl (nF EB))), (ma, .inl (cI, 24, .inl (nF EA))), (mf, .inl (cI, 24, .inl (nF EF))), (mw, .inl (cI, 24, .inl (nF EW))), (ml, .inl (cI, 24, .inl (nF EL))), (mu, .inl (cI, 24, .inl (oF EU))), (wt, .inl (cI, 200, .inl (oF WT))), (ty, .inl (cI, 8, .inl (nF TY)))] sz (fun x w => x = some (.int (nI (dok BK BD j))) ∧ ∃ (SO : Nat → Nat) (q : Nat) (EB EA EF EW EL EU : Nat → Nat) (br : Nat) (WT : Nat → Nat) (ww : Nat), w = [(m0, .inr (6, [.ref nw, .ref ps, .int (nI u), .ref im, .ref mk, .int (nI sd), .ref wd, .int (nI s), .ref so, .int (nI q), .ref mb, .ref ma, .ref mf, .ref mw, .ref ml, .ref mu, .int (nI br), .ref wt, .int (nI ww), .ref ty])), (nw, .inl (cI, 241, .inl (nF NW))), (ps, .inl (cI, 4820, .inl (nF PS))), (im, .inl (cI, 484, .inl (nF IM))), (mk, .inl (cZ, 2, .inl (nF MK))), (wd, .inl (cI, 8, .inl (nF WD))), (so, .inl (cI, 24, .inl (nF SO))), (mb, .inl (cI, 24, .inl (nF EB))), (ma, .inl (cI, 24, .inl (nF EA))), (mf, .inl (cI, 24, .inl (nF EF))), (mw, .inl (cI, 24, .inl (nF EW))), (ml, .inl (cI, 24, .inl (nF EL))), (mu, .inl (cI, 24, .inl (oF EU))), (wt, .inl (cI, 200, .inl (oF WT))), (ty, .inl (cI, 8, .inl (nF TY)))]) := by
  have hs8 := hw0.1
  have hA64 := hw0.2.1
  have hN0 := hR.1
  have hBK := tf_BK hTr hn
  have hDK := tf_DK hTr hn
  have hp := plc_le KS KL n s A
  have hcb := cbl_le KS KL n s A
  have hfl := fnd_le KS KL n s A
  refine wr_start (by decide) (Nat.le_of_ble_eq_true rfl) ?_
  intro pp ee ss mm below meth cd AA C0 hAA hP hK hD hS hN hnm ls hl
  obtain ⟨hx, hb, hr, hml, hown, hts, hlk⟩ := C0
  have hown : ss.vm.findClass RX6 = some mm.cls := hown
  have hl : lv_has ls 3 [(0, .ref m0), (1, .int (nI j)), (2, .int (nI 10))] := hl
  have hP : va_P D vwCl [(m0, .inr (6, [.ref nw, .ref ps, .int (nI u), .ref im, .ref mk, .int (nI sd), .ref wd, .int (nI s), .ref so, .int (nI q), .ref mb, .ref ma, .ref mf, .ref mw, .ref ml, .ref mu, .int (nI br), .ref wt, .int (nI ww), .ref ty])), (nw, .inl (cI, 241, .inl (nF NW))), (ps, .inl (cI, 4820, .inl (nF PS))), (im, .inl (cI, 484, .inl (nF IM))), (mk, .inl (cZ, 2, .inl (nF MK))), (wd, .inl (cI, 8, .inl (nF WD))), (so, .inl (cI, 24, .inl (nF SO))), (mb, .inl (cI, 24, .inl (nF EB))), (ma, .inl (cI, 24, .inl (nF EA))), (mf, .inl (cI, 24, .inl (nF EF))), (mw, .inl (cI, 24, .inl (nF EW))), (ml, .inl (cI, 24, .inl (nF EL))), (mu, .inl (cI, 24, .inl (oF EU))), (wt, .inl (cI, 200, .inl (oF WT))), (ty, .inl (cI, 8, .inl (nF TY)))] ss.heap := hP
  refine lv_aload_n hx hb dX6_key_0 rfl (lv_at hl 0 rfl) ?_
  refine lv_iload_n hx hb dX6_key_1 rfl (lv_at hl 1 rfl) ?_
  refine ro_V (As := [.int (nI j)]) (rest := []) ⟨hx, hb, hml, hown, hts⟩ (c_X6_isKey l D cI cJ cZ m0 nw ps im mk wd so mb ma mf mw ml mu wt ty NW PS u IM MK sd WD s SO q EB EA EF EW EL EU br WT ww TY KS KL KW n A hn hk hw0 hR hRW j (by omega)) (k_X6_85 hts ⟨Nat.le_of_ble_eq_true rfl, Nat.le_of_ble_eq_true rfl⟩) hK hP 0 rfl rfl rfl [0, 1, 2, 3, 4, 5, 6, 7, 8, 9, 10, 11, 12, 13, 14] rfl rfl hl.1 rfl (Nat.le_of_ble_eq_true rfl) dX6_key_2 ⟨Nat.le_of_ble_eq_true rfl, Nat.le_of_ble_eq_true rfl⟩ ?_
  refine b_if_ne (tgt := 11) hx hb dX6_key_5 (by decide) (fun c1 => ?_) (fun c1 => ?_)
  ·
    refine lv_iload_n hx hb dX6_key_11 rfl (lv_at hl 2 rfl) ?_
    refine lv_iconst (v := nI 0) hx hb dX6_key_12 (by decide +kernel) ?_
    refine lv_bipush (v := nI 12) hx hb dX6_key_13 (by decide +kernel) ?_
    refine ro_S (As := [.int (nI 10), .int (nI 0), .int (nI 12)]) (rest := []) ⟨hx, hb, hml, hown, hts⟩ (c_X6_in l D cI cJ cZ 10 0 12 (by omega) (by omega) (by omega)) (k_X6_79 hts ⟨Nat.le_of_ble_eq_true rfl, Nat.le_of_ble_eq_true rfl⟩) hK hP [] rfl rfl hl.1 rfl (Nat.le_of_ble_eq_true rfl) dX6_key_15 ⟨Nat.le_of_ble_eq_true rfl, Nat.le_of_ble_eq_true rfl⟩ ?_
    refine b_if_ne (tgt := 24) hx hb dX6_key_18 (by decide) (fun c2 => ?_) (fun c2 => ?_)
    ·
      refine lv_iload_n hx hb dX6_key_24 rfl (lv_at hl 2 rfl) ?_
      refine lv_tableIn (tgt := 79) (off := 54) hx hb dX6_key_25 (by decide +kernel) (by decide +kernel) (by decide +kernel) (by decide) ?_
      refine lv_aload_n hx hb dX6_key_79 rfl (lv_at hl 0 rfl) ?_
      refine lv_iconst (v := oI 0) hx hb dX6_key_80 (by decide +kernel) ?_
      refine wr_V (As := [.int (oI 0)]) (rest := []) (wc := [(m0, .inr (6, [.ref nw, .ref ps, .int (nI u), .ref im, .ref mk, .int (nI sd), .ref wd, .int (nI s), .ref so, .int (nI q), .ref mb, .ref ma, .ref mf, .ref mw, .ref ml, .ref mu, .int (nI br), .ref wt, .int (nI ww), .ref ty])), (nw, .inl (cI, 241, .inl (nF NW))), (ps, .inl (cI, 4820, .inl (nF PS))), (im, .inl (cI, 484, .inl (nF IM))), (mk, .inl (cZ, 2, .inl (nF MK))), (wd, .inl (cI, 8, .inl (nF WD))), (so, .inl (cI, 24, .inl (nF SO))), (mb, .inl (cI, 24, .inl (nF EB))), (ma, .inl (cI, 24, .inl (nF EA))), (mf, .inl (cI, 24, .inl (nF EF))), (mw, .inl (cI, 24, .inl (nF EW))), (ml, .inl (cI, 24, .inl (nF EL))), (mu, .inl (cI, 24, .inl (oF EU))), (wt, .inl (cI, 200, .inl (oF WT))), (ty, .inl (cI, 8, .inl (nF TY)))]) (wr := []) ⟨hx, hb, hml, hown, hts⟩ (c_X6_findsBut_all l D cI cJ cZ m0 nw ps im mk wd so mb ma mf mw ml mu wt ty NW PS u IM MK sd WD s SO q EB EA EF EW EL EU br WT ww TY KS KL KW n A hn hk hw0 hR hRW hso _) (k_X6_119 hts ⟨Nat.le_of_ble_eq_true rfl, Nat.le_of_ble_eq_true rfl⟩) hK hN hP hD hS hAA 0 rfl rfl rfl [0, 1, 2, 3, 4, 5, 6, 7, 8, 9, 10, 11, 12, 13, 14] [] rfl rfl (by decide) (by decide) (by decide) rfl hl.1 rfl (Nat.le_of_ble_eq_true rfl) dX6_key_81 ⟨Nat.le_of_ble_eq_true rfl, Nat.le_of_ble_eq_true rfl⟩ (fun v5 w6 H locs hp4 hP hD hS => ?_)
      obtain ⟨rfl, SOh3, EBh3, EAh3, EFh3, EWh3, ELh3, EUh3, WTh3, rfl, hTmh3⟩ := hp4
      have hE : ∀ b, b < n - 1 → EFh3 b ≤ 24 ∧ 1 ≤ EWh3 b ∧ EWh3 b ≤ 24 := fun b hb2 => by have := tm_in hTmh3 (b := b) (by omega); omega
      have hTm := hTmh3
      have hP : va_P D vwCl [(m0, .inr (6, [.ref nw, .ref ps, .int (nI u), .ref im, .ref mk, .int (nI sd), .ref wd, .int (nI s), .ref so, .int (nI n), .ref mb, .ref ma, .ref mf, .ref mw, .ref ml, .ref mu, .int (nI (n - 1)), .ref wt, .int (nI 0), .ref ty])), (nw, .inl (cI, 241, .inl (nF NW))), (ps, .inl (cI, 4820, .inl (nF PS))), (im, .inl (cI, 484, .inl (nF IM))), (mk, .inl (cZ, 2, .inl (nF MK))), (wd, .inl (cI, 8, .inl (nF WD))), (so, .inl (cI, 24, .inl (nF SOh3))), (mb, .inl (cI, 24, .inl (nF EBh3))), (ma, .inl (cI, 24, .inl (nF EAh3))), (mf, .inl (cI, 24, .inl (nF EFh3))), (mw, .inl (cI, 24, .inl (nF EWh3))), (ml, .inl (cI, 24, .inl (nF ELh3))), (mu, .inl (cI, 24, .inl (oF EUh3))), (wt, .inl (cI, 200, .inl (oF WTh3))), (ty, .inl (cI, 8, .inl (nF TY)))] H := hP.sub [0, 1, 2, 3, 4, 5, 6, 7, 8, 9, 10, 11, 12, 13, 14] rfl
      have hD : va_D AA [(m0, .inr (6, [.ref nw, .ref ps, .int (nI u), .ref im, .ref mk, .int (nI sd), .ref wd, .int (nI s), .ref so, .int (nI n), .ref mb, .ref ma, .ref mf, .ref mw, .ref ml, .ref mu, .int (nI (n - 1)), .ref wt, .int (nI 0), .ref ty])), (nw, .inl (cI, 241, .inl (nF NW))), (ps, .inl (cI, 4820, .inl (nF PS))), (im, .inl (cI, 484, .inl (nF IM))), (mk, .inl (cZ, 2, .inl (nF MK))), (wd, .inl (cI, 8, .inl (nF WD))), (so, .inl (cI, 24, .inl (nF SOh3))), (mb, .inl (cI, 24, .inl (nF EBh3))), (ma, .inl (cI, 24, .inl (nF EAh3))), (mf, .inl (cI, 24, .inl (nF EFh3))), (mw, .inl (cI, 24, .inl (nF EWh3))), (ml, .inl (cI, 24, .inl (nF ELh3))), (mu, .inl (cI, 24, .inl (oF EUh3))), (wt, .inl (cI, 200, .inl (oF WTh3))), (ty, .inl (cI, 8, .inl (nF TY)))] := hD.sub [0, 1, 2, 3, 4, 5, 6, 7, 8, 9, 10, 11, 12, 13, 14] (by decide) rfl
      refine lv_aload_n hx hb dX6_key_84 rfl (lv_at hl 0 rfl) ?_
      refine lv_iload_n hx hb dX6_key_85 rfl (lv_at hl 1 rfl) ?_
      refine ro_V (As := [.int (nI j)]) (rest := []) ⟨hx, hb, hml, hown, hts⟩ (c_X6_depthOf l D cI cJ cZ m0 nw ps im mk wd so mb ma mf mw ml mu wt ty NW PS u IM MK sd WD s SOh3 n EBh3 EAh3 EFh3 EWh3 ELh3 EUh3 (n - 1) WTh3 0 TY (by omega) hE j (by omega)) (k_X6_113 hts ⟨Nat.le_of_ble_eq_true rfl, Nat.le_of_ble_eq_true rfl⟩) hK hP 0 rfl rfl rfl [0, 1, 2, 3, 4, 5, 6, 7, 8, 9, 10, 11, 12, 13, 14] rfl rfl hl.1 rfl (Nat.le_of_ble_eq_true rfl) dX6_key_86 ⟨Nat.le_of_ble_eq_true rfl, Nat.le_of_ble_eq_true rfl⟩ ?_
      refine tq (y := (nI (dok BK BD j))) (congrArg nI (tm_dok hTr hTm hj)) ?_
      exact wr_iret hx hb hr hlk hP hD hS dX6_key_89 (⟨rfl, SOh3, n, EBh3, EAh3, EFh3, EWh3, ELh3, EUh3, n - 1, WTh3, 0, rfl⟩)
    ·
      exact (c2 (by decide)).elim
  ·
    exact (c1 (by omega)).elim
set_option maxHeartbeats 4000000 in
set_option maxRecDepth 100000 in
theorem c_X6_key_11 (l : Launch) (D : va_G) (cI cJ cZ : ClassId) (m0 nw ps im mk wd so mb ma mf mw ml mu wt ty : Nat) (NW : Nat → Nat) (PS : Nat → Nat) (u : Nat) (IM : Nat → Nat) (MK : Nat → Nat) (sd : Nat) (WD : Nat → Nat) (s : Nat) (SO : Nat → Nat) (q : Nat) (EB : Nat → Nat) (EA : Nat → Nat) (EF : Nat → Nat) (EW : Nat → Nat) (EL : Nat → Nat) (EU : Nat → Nat) (br : Nat) (WT : Nat → Nat) (ww : Nat) (TY : Nat → Nat) (KS KL KW : Nat → Nat) (n A : Nat) (hn : n ≤ 24) (hk : ∀ k, k < n → Wf (KS k) (KL k)) (hw0 : Wf s A) (hR : RN NW KS KL KW n) (hRW : RW WD s A) (hso : Srt KS KL n) (BB BD BM BL BF BA BK : Nat → Nat) (hTr : TrX (gapF KS KL) n BB BD BM BL BF BA BK) (hv : ∀ k, k < n → KW k ≤ 9999) (j : Nat) (hj : j < n) (sz : Nat) : WR l yX6_key cX6_key 3 (some .int) (rmN 5 116) D (ty3 cI cJ cZ) [.ref m0, .int (nI j), .int (nI 11)] [(m0, .inr (6, [.ref nw, .ref ps, .int (nI u), .ref im, .ref mk, .int (nI sd), .ref wd, .int (nI s), .ref so, .int (nI q), .ref mb, .ref ma, .ref mf, .ref mw, .ref ml, .ref mu, .int (nI br), .ref wt, .int (nI ww), .ref ty])), (nw, .inl (cI, 241, .inl (nF NW))), (ps, .inl (cI, 4820, .inl (nF PS))), (im, .inl (cI, 484, .inl (nF IM))), (mk, .inl (cZ, 2, .inl (nF MK))), (wd, .inl (cI, 8, .inl (nF WD))), (so, .inl (cI, 24, .inl (nF SO))), (mb, .inl (cI, 24, .inl (nF EB))), (ma, .inl (cI, 24, .inl (nF EA))), (mf, .inl (cI, 24, .inl (nF EF))), (mw, .inl (cI, 24, .inl (nF EW))), (ml, .inl (cI, 24, .inl (nF EL))), (mu, .inl (cI, 24, .inl (oF EU))), (wt, .inl (cI, 200, .inl (oF WT))), (ty, .inl (cI, 8, .inl (nF TY)))] sz (fun x w => x = some (.int (nI (unl (KS j) (KL j) s A))) ∧ ∃ (SO : Nat → Nat) (q : Nat) (EB EA EF EW EL EU : Nat → Nat) (br : Nat) (WT : Nat → Nat) (ww : Nat), w = [(m0, .inr (6, [.ref nw, .ref ps, .int (nI u), .ref im, .ref mk, .int (nI sd), .ref wd, .int (nI s), .ref so, .int (nI q), .ref mb, .ref ma, .ref mf, .ref mw, .ref ml, .ref mu, .int (nI br), .ref wt, .int (nI ww), .ref ty])), (nw, .inl (cI, 241, .inl (nF NW))), (ps, .inl (cI, 4820, .inl (nF PS))), (im, .inl (cI, 484, .inl (nF IM))), (mk, .inl (cZ, 2, .inl (nF MK))), (wd, .inl (cI, 8, .inl (nF WD))), (so, .inl (cI, 24, .inl (nF SO))), (mb, .inl (cI, 24, .inl (nF EB))), (ma, .inl (cI, 24, .inl (nF EA))), (mf, .inl (cI, 24, .inl (nF EF))), (mw, .inl (cI, 24, .inl (nF EW))), (ml, .inl (cI, 24, .inl (nF EL))), (mu, .inl (cI, 24, .inl (oF EU))), (wt, .inl (cI, 200, .inl (oF WT))), (ty, .inl (cI, 8, .inl (nF TY)))]) := by
  have hs8 := hw0.1
  have hA64 := hw0.2.1
  have hN0 := hR.1
  have hBK := tf_BK hTr hn
  have hDK := tf_DK hTr hn
  have hp := plc_le KS KL n s A
  have hcb := cbl_le KS KL n s A
  have hfl := fnd_le KS KL n s A
  refine wr_start (by decide) (Nat.le_of_ble_eq_true rfl) ?_
  intro pp ee ss mm below meth cd AA C0 hAA hP hK hD hS hN hnm ls hl
  obtain ⟨hx, hb, hr, hml, hown, hts, hlk⟩ := C0
  have hown : ss.vm.findClass RX6 = some mm.cls := hown
  have hl : lv_has ls 3 [(0, .ref m0), (1, .int (nI j)), (2, .int (nI 11))] := hl
  have hP : va_P D vwCl [(m0, .inr (6, [.ref nw, .ref ps, .int (nI u), .ref im, .ref mk, .int (nI sd), .ref wd, .int (nI s), .ref so, .int (nI q), .ref mb, .ref ma, .ref mf, .ref mw, .ref ml, .ref mu, .int (nI br), .ref wt, .int (nI ww), .ref ty])), (nw, .inl (cI, 241, .inl (nF NW))), (ps, .inl (cI, 4820, .inl (nF PS))), (im, .inl (cI, 484, .inl (nF IM))), (mk, .inl (cZ, 2, .inl (nF MK))), (wd, .inl (cI, 8, .inl (nF WD))), (so, .inl (cI, 24, .inl (nF SO))), (mb, .inl (cI, 24, .inl (nF EB))), (ma, .inl (cI, 24, .inl (nF EA))), (mf, .inl (cI, 24, .inl (nF EF))), (mw, .inl (cI, 24, .inl (nF EW))), (ml, .inl (cI, 24, .inl (nF EL))), (mu, .inl (cI, 24, .inl (oF EU))), (wt, .inl (cI, 200, .inl (oF WT))), (ty, .inl (cI, 8, .inl (nF TY)))] ss.heap := hP
  refine lv_aload_n hx hb dX6_key_0 rfl (lv_at hl 0 rfl) ?_
  refine lv_iload_n hx hb dX6_key_1 rfl (lv_at hl 1 rfl) ?_
  refine ro_V (As := [.int (nI j)]) (rest := []) ⟨hx, hb, hml, hown, hts⟩ (c_X6_isKey l D cI cJ cZ m0 nw ps im mk wd so mb ma mf mw ml mu wt ty NW PS u IM MK sd WD s SO q EB EA EF EW EL EU br WT ww TY KS KL KW n A hn hk hw0 hR hRW j (by omega)) (k_X6_85 hts ⟨Nat.le_of_ble_eq_true rfl, Nat.le_of_ble_eq_true rfl⟩) hK hP 0 rfl rfl rfl [0, 1, 2, 3, 4, 5, 6, 7, 8, 9, 10, 11, 12, 13, 14] rfl rfl hl.1 rfl (Nat.le_of_ble_eq_true rfl) dX6_key_2 ⟨Nat.le_of_ble_eq_true rfl, Nat.le_of_ble_eq_true rfl⟩ ?_
  refine b_if_ne (tgt := 11) hx hb dX6_key_5 (by decide) (fun c1 => ?_) (fun c1 => ?_)
  ·
    refine lv_iload_n hx hb dX6_key_11 rfl (lv_at hl 2 rfl) ?_
    refine lv_iconst (v := nI 0) hx hb dX6_key_12 (by decide +kernel) ?_
    refine lv_bipush (v := nI 12) hx hb dX6_key_13 (by decide +kernel) ?_
    refine ro_S (As := [.int (nI 11), .int (nI 0), .int (nI 12)]) (rest := []) ⟨hx, hb, hml, hown, hts⟩ (c_X6_in l D cI cJ cZ 11 0 12 (by omega) (by omega) (by omega)) (k_X6_79 hts ⟨Nat.le_of_ble_eq_true rfl, Nat.le_of_ble_eq_true rfl⟩) hK hP [] rfl rfl hl.1 rfl (Nat.le_of_ble_eq_true rfl) dX6_key_15 ⟨Nat.le_of_ble_eq_true rfl, Nat.le_of_ble_eq_true rfl⟩ ?_
    refine b_if_ne (tgt := 24) hx hb dX6_key_18 (by decide) (fun c2 => ?_) (fun c2 => ?_)
    ·
      refine lv_iload_n hx hb dX6_key_24 rfl (lv_at hl 2 rfl) ?_
      refine lv_tableIn (tgt := 90) (off := 65) hx hb dX6_key_25 (by decide +kernel) (by decide +kernel) (by decide +kernel) (by decide) ?_
      refine lv_aload_n hx hb dX6_key_90 rfl (lv_at hl 0 rfl) ?_
      refine lv_iload_n hx hb dX6_key_91 rfl (lv_at hl 1 rfl) ?_
      refine lv_bipush (v := nI 24) hx hb dX6_key_92 (by decide +kernel) ?_
      refine ro_V (As := [.int (nI j), .int (nI 24)]) (rest := []) ⟨hx, hb, hml, hown, hts⟩ (c_X6_unlikeAt l D cI cJ cZ m0 nw ps im mk wd so mb ma mf mw ml mu wt ty NW PS u IM MK sd WD s SO q EB EA EF EW EL EU br WT ww TY KS KL KW n A hn hk hw0 hR hRW j ((KS j)) ((KL j)) (Or.inr ⟨by omega, rfl, rfl⟩) 24 s A (Or.inl ⟨rfl, rfl, rfl⟩)) (k_X6_68 hts ⟨Nat.le_of_ble_eq_true rfl, Nat.le_of_ble_eq_true rfl⟩) hK hP 0 rfl rfl rfl [0, 1, 2, 3, 4, 5, 6, 7, 8, 9, 10, 11, 12, 13, 14] rfl rfl hl.1 rfl (Nat.le_of_ble_eq_true rfl) dX6_key_94 ⟨Nat.le_of_ble_eq_true rfl, Nat.le_of_ble_eq_true rfl⟩ ?_
      exact wr_iret hx hb hr hlk hP hD hS dX6_key_97 (⟨rfl, SO, q, EB, EA, EF, EW, EL, EU, br, WT, ww, rfl⟩)
    ·
      exact (c2 (by decide)).elim
  ·
    exact (c1 (by omega)).elim
set_option maxHeartbeats 4000000 in
set_option maxRecDepth 100000 in
theorem c_X6_key_12 (l : Launch) (D : va_G) (cI cJ cZ : ClassId) (m0 nw ps im mk wd so mb ma mf mw ml mu wt ty : Nat) (NW : Nat → Nat) (PS : Nat → Nat) (u : Nat) (IM : Nat → Nat) (MK : Nat → Nat) (sd : Nat) (WD : Nat → Nat) (s : Nat) (SO : Nat → Nat) (q : Nat) (EB : Nat → Nat) (EA : Nat → Nat) (EF : Nat → Nat) (EW : Nat → Nat) (EL : Nat → Nat) (EU : Nat → Nat) (br : Nat) (WT : Nat → Nat) (ww : Nat) (TY : Nat → Nat) (KS KL KW : Nat → Nat) (n A : Nat) (hn : n ≤ 24) (hk : ∀ k, k < n → Wf (KS k) (KL k)) (hw0 : Wf s A) (hR : RN NW KS KL KW n) (hRW : RW WD s A) (hso : Srt KS KL n) (BB BD BM BL BF BA BK : Nat → Nat) (hTr : TrX (gapF KS KL) n BB BD BM BL BF BA BK) (hv : ∀ k, k < n → KW k ≤ 9999) (j : Nat) (hj : j < n) (sz : Nat) : WR l yX6_key cX6_key 3 (some .int) (rmN 5 116) D (ty3 cI cJ cZ) [.ref m0, .int (nI j), .int (nI 12)] [(m0, .inr (6, [.ref nw, .ref ps, .int (nI u), .ref im, .ref mk, .int (nI sd), .ref wd, .int (nI s), .ref so, .int (nI q), .ref mb, .ref ma, .ref mf, .ref mw, .ref ml, .ref mu, .int (nI br), .ref wt, .int (nI ww), .ref ty])), (nw, .inl (cI, 241, .inl (nF NW))), (ps, .inl (cI, 4820, .inl (nF PS))), (im, .inl (cI, 484, .inl (nF IM))), (mk, .inl (cZ, 2, .inl (nF MK))), (wd, .inl (cI, 8, .inl (nF WD))), (so, .inl (cI, 24, .inl (nF SO))), (mb, .inl (cI, 24, .inl (nF EB))), (ma, .inl (cI, 24, .inl (nF EA))), (mf, .inl (cI, 24, .inl (nF EF))), (mw, .inl (cI, 24, .inl (nF EW))), (ml, .inl (cI, 24, .inl (nF EL))), (mu, .inl (cI, 24, .inl (oF EU))), (wt, .inl (cI, 200, .inl (oF WT))), (ty, .inl (cI, 8, .inl (nF TY)))] sz (fun x w => x = some (.int (nI (mxw (dok BK BD) BF BM n j (BK j) n))) ∧ ∃ (SO : Nat → Nat) (q : Nat) (EB EA EF EW EL EU : Nat → Nat) (br : Nat) (WT : Nat → Nat) (ww : Nat), w = [(m0, .inr (6, [.ref nw, .ref ps, .int (nI u), .ref im, .ref mk, .int (nI sd), .ref wd, .int (nI s), .ref so, .int (nI q), .ref mb, .ref ma, .ref mf, .ref mw, .ref ml, .ref mu, .int (nI br), .ref wt, .int (nI ww), .ref ty])), (nw, .inl (cI, 241, .inl (nF NW))), (ps, .inl (cI, 4820, .inl (nF PS))), (im, .inl (cI, 484, .inl (nF IM))), (mk, .inl (cZ, 2, .inl (nF MK))), (wd, .inl (cI, 8, .inl (nF WD))), (so, .inl (cI, 24, .inl (nF SO))), (mb, .inl (cI, 24, .inl (nF EB))), (ma, .inl (cI, 24, .inl (nF EA))), (mf, .inl (cI, 24, .inl (nF EF))), (mw, .inl (cI, 24, .inl (nF EW))), (ml, .inl (cI, 24, .inl (nF EL))), (mu, .inl (cI, 24, .inl (oF EU))), (wt, .inl (cI, 200, .inl (oF WT))), (ty, .inl (cI, 8, .inl (nF TY)))]) := by
  have hs8 := hw0.1
  have hA64 := hw0.2.1
  have hN0 := hR.1
  have hBK := tf_BK hTr hn
  have hDK := tf_DK hTr hn
  have hp := plc_le KS KL n s A
  have hcb := cbl_le KS KL n s A
  have hfl := fnd_le KS KL n s A
  refine wr_start (by decide) (Nat.le_of_ble_eq_true rfl) ?_
  intro pp ee ss mm below meth cd AA C0 hAA hP hK hD hS hN hnm ls hl
  obtain ⟨hx, hb, hr, hml, hown, hts, hlk⟩ := C0
  have hown : ss.vm.findClass RX6 = some mm.cls := hown
  have hl : lv_has ls 3 [(0, .ref m0), (1, .int (nI j)), (2, .int (nI 12))] := hl
  have hP : va_P D vwCl [(m0, .inr (6, [.ref nw, .ref ps, .int (nI u), .ref im, .ref mk, .int (nI sd), .ref wd, .int (nI s), .ref so, .int (nI q), .ref mb, .ref ma, .ref mf, .ref mw, .ref ml, .ref mu, .int (nI br), .ref wt, .int (nI ww), .ref ty])), (nw, .inl (cI, 241, .inl (nF NW))), (ps, .inl (cI, 4820, .inl (nF PS))), (im, .inl (cI, 484, .inl (nF IM))), (mk, .inl (cZ, 2, .inl (nF MK))), (wd, .inl (cI, 8, .inl (nF WD))), (so, .inl (cI, 24, .inl (nF SO))), (mb, .inl (cI, 24, .inl (nF EB))), (ma, .inl (cI, 24, .inl (nF EA))), (mf, .inl (cI, 24, .inl (nF EF))), (mw, .inl (cI, 24, .inl (nF EW))), (ml, .inl (cI, 24, .inl (nF EL))), (mu, .inl (cI, 24, .inl (oF EU))), (wt, .inl (cI, 200, .inl (oF WT))), (ty, .inl (cI, 8, .inl (nF TY)))] ss.heap := hP
  refine lv_aload_n hx hb dX6_key_0 rfl (lv_at hl 0 rfl) ?_
  refine lv_iload_n hx hb dX6_key_1 rfl (lv_at hl 1 rfl) ?_
  refine ro_V (As := [.int (nI j)]) (rest := []) ⟨hx, hb, hml, hown, hts⟩ (c_X6_isKey l D cI cJ cZ m0 nw ps im mk wd so mb ma mf mw ml mu wt ty NW PS u IM MK sd WD s SO q EB EA EF EW EL EU br WT ww TY KS KL KW n A hn hk hw0 hR hRW j (by omega)) (k_X6_85 hts ⟨Nat.le_of_ble_eq_true rfl, Nat.le_of_ble_eq_true rfl⟩) hK hP 0 rfl rfl rfl [0, 1, 2, 3, 4, 5, 6, 7, 8, 9, 10, 11, 12, 13, 14] rfl rfl hl.1 rfl (Nat.le_of_ble_eq_true rfl) dX6_key_2 ⟨Nat.le_of_ble_eq_true rfl, Nat.le_of_ble_eq_true rfl⟩ ?_
  refine b_if_ne (tgt := 11) hx hb dX6_key_5 (by decide) (fun c1 => ?_) (fun c1 => ?_)
  ·
    refine lv_iload_n hx hb dX6_key_11 rfl (lv_at hl 2 rfl) ?_
    refine lv_iconst (v := nI 0) hx hb dX6_key_12 (by decide +kernel) ?_
    refine lv_bipush (v := nI 12) hx hb dX6_key_13 (by decide +kernel) ?_
    refine ro_S (As := [.int (nI 12), .int (nI 0), .int (nI 12)]) (rest := []) ⟨hx, hb, hml, hown, hts⟩ (c_X6_in l D cI cJ cZ 12 0 12 (by omega) (by omega) (by omega)) (k_X6_79 hts ⟨Nat.le_of_ble_eq_true rfl, Nat.le_of_ble_eq_true rfl⟩) hK hP [] rfl rfl hl.1 rfl (Nat.le_of_ble_eq_true rfl) dX6_key_15 ⟨Nat.le_of_ble_eq_true rfl, Nat.le_of_ble_eq_true rfl⟩ ?_
    refine b_if_ne (tgt := 24) hx hb dX6_key_18 (by decide) (fun c2 => ?_) (fun c2 => ?_)
    ·
      refine lv_iload_n hx hb dX6_key_24 rfl (lv_at hl 2 rfl) ?_
      refine lv_tableIn (tgt := 98) (off := 73) hx hb dX6_key_25 (by decide +kernel) (by decide +kernel) (by decide +kernel) (by decide) ?_
      refine lv_aload_n hx hb dX6_key_98 rfl (lv_at hl 0 rfl) ?_
      refine lv_iload_n hx hb dX6_key_99 rfl (lv_at hl 1 rfl) ?_
      refine wr_V (As := [.int (nI j)]) (rest := []) (wc := [(m0, .inr (6, [.ref nw, .ref ps, .int (nI u), .ref im, .ref mk, .int (nI sd), .ref wd, .int (nI s), .ref so, .int (nI q), .ref mb, .ref ma, .ref mf, .ref mw, .ref ml, .ref mu, .int (nI br), .ref wt, .int (nI ww), .ref ty])), (nw, .inl (cI, 241, .inl (nF NW))), (ps, .inl (cI, 4820, .inl (nF PS))), (im, .inl (cI, 484, .inl (nF IM))), (mk, .inl (cZ, 2, .inl (nF MK))), (wd, .inl (cI, 8, .inl (nF WD))), (so, .inl (cI, 24, .inl (nF SO))), (mb, .inl (cI, 24, .inl (nF EB))), (ma, .inl (cI, 24, .inl (nF EA))), (mf, .inl (cI, 24, .inl (nF EF))), (mw, .inl (cI, 24, .inl (nF EW))), (ml, .inl (cI, 24, .inl (nF EL))), (mu, .inl (cI, 24, .inl (oF EU))), (wt, .inl (cI, 200, .inl (oF WT))), (ty, .inl (cI, 8, .inl (nF TY)))]) (wr := []) ⟨hx, hb, hml, hown, hts⟩ (c_X6_findsBut_but l D cI cJ cZ m0 nw ps im mk wd so mb ma mf mw ml mu wt ty NW PS u IM MK sd WD s SO q EB EA EF EW EL EU br WT ww TY KS KL KW n A hn hk hw0 hR hRW hso j (by omega) _) (k_X6_119 hts ⟨Nat.le_of_ble_eq_true rfl, Nat.le_of_ble_eq_true rfl⟩) hK hN hP hD hS hAA 0 rfl rfl rfl [0, 1, 2, 3, 4, 5, 6, 7, 8, 9, 10, 11, 12, 13, 14] [] rfl rfl (by decide) (by decide) (by decide) rfl hl.1 rfl (Nat.le_of_ble_eq_true rfl) dX6_key_100 ⟨Nat.le_of_ble_eq_true rfl, Nat.le_of_ble_eq_true rfl⟩ (fun v5 w6 H locs hp4 hP hD hS => ?_)
      obtain ⟨rfl, SOh3, EBh3, EAh3, EFh3, EWh3, ELh3, EUh3, WTh3, rfl, hTmh3⟩ := hp4
      have hE : ∀ b, b < (n - 1) - 1 → EFh3 b ≤ 24 ∧ 1 ≤ EWh3 b ∧ EWh3 b ≤ 24 := fun b hb2 => by have := tm_in hTmh3 (b := b) (by omega); omega
      have hTm := hTmh3
      have hP : va_P D vwCl [(m0, .inr (6, [.ref nw, .ref ps, .int (nI u), .ref im, .ref mk, .int (nI sd), .ref wd, .int (nI s), .ref so, .int (nI (n - 1)), .ref mb, .ref ma, .ref mf, .ref mw, .ref ml, .ref mu, .int (nI ((n - 1) - 1)), .ref wt, .int (nI 0), .ref ty])), (nw, .inl (cI, 241, .inl (nF NW))), (ps, .inl (cI, 4820, .inl (nF PS))), (im, .inl (cI, 484, .inl (nF IM))), (mk, .inl (cZ, 2, .inl (nF MK))), (wd, .inl (cI, 8, .inl (nF WD))), (so, .inl (cI, 24, .inl (nF SOh3))), (mb, .inl (cI, 24, .inl (nF EBh3))), (ma, .inl (cI, 24, .inl (nF EAh3))), (mf, .inl (cI, 24, .inl (nF EFh3))), (mw, .inl (cI, 24, .inl (nF EWh3))), (ml, .inl (cI, 24, .inl (nF ELh3))), (mu, .inl (cI, 24, .inl (oF EUh3))), (wt, .inl (cI, 200, .inl (oF WTh3))), (ty, .inl (cI, 8, .inl (nF TY)))] H := hP.sub [0, 1, 2, 3, 4, 5, 6, 7, 8, 9, 10, 11, 12, 13, 14] rfl
      have hD : va_D AA [(m0, .inr (6, [.ref nw, .ref ps, .int (nI u), .ref im, .ref mk, .int (nI sd), .ref wd, .int (nI s), .ref so, .int (nI (n - 1)), .ref mb, .ref ma, .ref mf, .ref mw, .ref ml, .ref mu, .int (nI ((n - 1) - 1)), .ref wt, .int (nI 0), .ref ty])), (nw, .inl (cI, 241, .inl (nF NW))), (ps, .inl (cI, 4820, .inl (nF PS))), (im, .inl (cI, 484, .inl (nF IM))), (mk, .inl (cZ, 2, .inl (nF MK))), (wd, .inl (cI, 8, .inl (nF WD))), (so, .inl (cI, 24, .inl (nF SOh3))), (mb, .inl (cI, 24, .inl (nF EBh3))), (ma, .inl (cI, 24, .inl (nF EAh3))), (mf, .inl (cI, 24, .inl (nF EFh3))), (mw, .inl (cI, 24, .inl (nF EWh3))), (ml, .inl (cI, 24, .inl (nF ELh3))), (mu, .inl (cI, 24, .inl (oF EUh3))), (wt, .inl (cI, 200, .inl (oF WTh3))), (ty, .inl (cI, 8, .inl (nF TY)))] := hD.sub [0, 1, 2, 3, 4, 5, 6, 7, 8, 9, 10, 11, 12, 13, 14] (by decide) rfl
      refine lv_aload_n hx hb dX6_key_103 rfl (lv_at hl 0 rfl) ?_
      refine ro_V (As := []) (rest := []) ⟨hx, hb, hml, hown, hts⟩ (c_X6_deepest l D cI cJ cZ m0 nw ps im mk wd so mb ma mf mw ml mu wt ty NW PS u IM MK sd WD s SOh3 (n - 1) EBh3 EAh3 EFh3 EWh3 ELh3 EUh3 ((n - 1) - 1) WTh3 0 TY (by omega) hE (by omega)) (k_X6_123 hts ⟨Nat.le_of_ble_eq_true rfl, Nat.le_of_ble_eq_true rfl⟩) hK hP 0 rfl rfl rfl [0, 1, 2, 3, 4, 5, 6, 7, 8, 9, 10, 11, 12, 13, 14] rfl rfl hl.1 rfl (Nat.le_of_ble_eq_true rfl) dX6_key_104 ⟨Nat.le_of_ble_eq_true rfl, Nat.le_of_ble_eq_true rfl⟩ ?_
      refine tq (y := (nI (mxw (dok BK BD) BF BM n j (BK j) n))) (congrArg nI (wo_all hso hTr hj hTm)) ?_
      exact wr_iret hx hb hr hlk hP hD hS dX6_key_107 (⟨rfl, SOh3, n - 1, EBh3, EAh3, EFh3, EWh3, ELh3, EUh3, (n - 1) - 1, WTh3, 0, rfl⟩)
    ·
      exact (c2 (by decide)).elim
  ·
    exact (c1 (by omega)).elim
set_option maxHeartbeats 4000000 in
set_option maxRecDepth 100000 in
theorem c_X6_key_big (l : Launch) (D : va_G) (cI cJ cZ : ClassId) (m0 nw ps im mk wd so mb ma mf mw ml mu wt ty : Nat) (NW : Nat → Nat) (PS : Nat → Nat) (u : Nat) (IM : Nat → Nat) (MK : Nat → Nat) (sd : Nat) (WD : Nat → Nat) (s : Nat) (SO : Nat → Nat) (q : Nat) (EB : Nat → Nat) (EA : Nat → Nat) (EF : Nat → Nat) (EW : Nat → Nat) (EL : Nat → Nat) (EU : Nat → Nat) (br : Nat) (WT : Nat → Nat) (ww : Nat) (TY : Nat → Nat) (KS KL KW : Nat → Nat) (n A : Nat) (hn : n ≤ 24) (hk : ∀ k, k < n → Wf (KS k) (KL k)) (hw0 : Wf s A) (hR : RN NW KS KL KW n) (hRW : RW WD s A) (hso : Srt KS KL n) (BB BD BM BL BF BA BK : Nat → Nat) (hTr : TrX (gapF KS KL) n BB BD BM BL BF BA BK) (hv : ∀ k, k < n → KW k ≤ 9999) (j : Nat) (hj : j < n) (t : Nat) (ht : t < 2 ^ 31) (htb : 12 < t) (sz : Nat) : WR l yX6_key cX6_key 3 (some .int) (rmN 5 116) D (ty3 cI cJ cZ) [.ref m0, .int (nI j), .int (nI t)] [(m0, .inr (6, [.ref nw, .ref ps, .int (nI u), .ref im, .ref mk, .int (nI sd), .ref wd, .int (nI s), .ref so, .int (nI q), .ref mb, .ref ma, .ref mf, .ref mw, .ref ml, .ref mu, .int (nI br), .ref wt, .int (nI ww), .ref ty])), (nw, .inl (cI, 241, .inl (nF NW))), (ps, .inl (cI, 4820, .inl (nF PS))), (im, .inl (cI, 484, .inl (nF IM))), (mk, .inl (cZ, 2, .inl (nF MK))), (wd, .inl (cI, 8, .inl (nF WD))), (so, .inl (cI, 24, .inl (nF SO))), (mb, .inl (cI, 24, .inl (nF EB))), (ma, .inl (cI, 24, .inl (nF EA))), (mf, .inl (cI, 24, .inl (nF EF))), (mw, .inl (cI, 24, .inl (nF EW))), (ml, .inl (cI, 24, .inl (nF EL))), (mu, .inl (cI, 24, .inl (oF EU))), (wt, .inl (cI, 200, .inl (oF WT))), (ty, .inl (cI, 8, .inl (nF TY)))] sz (fun x w => x = some (.int (-1000000002)) ∧ ∃ (SO : Nat → Nat) (q : Nat) (EB EA EF EW EL EU : Nat → Nat) (br : Nat) (WT : Nat → Nat) (ww : Nat), w = [(m0, .inr (6, [.ref nw, .ref ps, .int (nI u), .ref im, .ref mk, .int (nI sd), .ref wd, .int (nI s), .ref so, .int (nI q), .ref mb, .ref ma, .ref mf, .ref mw, .ref ml, .ref mu, .int (nI br), .ref wt, .int (nI ww), .ref ty])), (nw, .inl (cI, 241, .inl (nF NW))), (ps, .inl (cI, 4820, .inl (nF PS))), (im, .inl (cI, 484, .inl (nF IM))), (mk, .inl (cZ, 2, .inl (nF MK))), (wd, .inl (cI, 8, .inl (nF WD))), (so, .inl (cI, 24, .inl (nF SO))), (mb, .inl (cI, 24, .inl (nF EB))), (ma, .inl (cI, 24, .inl (nF EA))), (mf, .inl (cI, 24, .inl (nF EF))), (mw, .inl (cI, 24, .inl (nF EW))), (ml, .inl (cI, 24, .inl (nF EL))), (mu, .inl (cI, 24, .inl (oF EU))), (wt, .inl (cI, 200, .inl (oF WT))), (ty, .inl (cI, 8, .inl (nF TY)))]) := by
  have hs8 := hw0.1
  have hA64 := hw0.2.1
  have hN0 := hR.1
  have hBK := tf_BK hTr hn
  have hDK := tf_DK hTr hn
  have hp := plc_le KS KL n s A
  have hcb := cbl_le KS KL n s A
  have hfl := fnd_le KS KL n s A
  refine wr_start (by decide) (Nat.le_of_ble_eq_true rfl) ?_
  intro pp ee ss mm below meth cd AA C0 hAA hP hK hD hS hN hnm ls hl
  obtain ⟨hx, hb, hr, hml, hown, hts, hlk⟩ := C0
  have hown : ss.vm.findClass RX6 = some mm.cls := hown
  have hl : lv_has ls 3 [(0, .ref m0), (1, .int (nI j)), (2, .int (nI t))] := hl
  have hP : va_P D vwCl [(m0, .inr (6, [.ref nw, .ref ps, .int (nI u), .ref im, .ref mk, .int (nI sd), .ref wd, .int (nI s), .ref so, .int (nI q), .ref mb, .ref ma, .ref mf, .ref mw, .ref ml, .ref mu, .int (nI br), .ref wt, .int (nI ww), .ref ty])), (nw, .inl (cI, 241, .inl (nF NW))), (ps, .inl (cI, 4820, .inl (nF PS))), (im, .inl (cI, 484, .inl (nF IM))), (mk, .inl (cZ, 2, .inl (nF MK))), (wd, .inl (cI, 8, .inl (nF WD))), (so, .inl (cI, 24, .inl (nF SO))), (mb, .inl (cI, 24, .inl (nF EB))), (ma, .inl (cI, 24, .inl (nF EA))), (mf, .inl (cI, 24, .inl (nF EF))), (mw, .inl (cI, 24, .inl (nF EW))), (ml, .inl (cI, 24, .inl (nF EL))), (mu, .inl (cI, 24, .inl (oF EU))), (wt, .inl (cI, 200, .inl (oF WT))), (ty, .inl (cI, 8, .inl (nF TY)))] ss.heap := hP
  refine lv_aload_n hx hb dX6_key_0 rfl (lv_at hl 0 rfl) ?_
  refine lv_iload_n hx hb dX6_key_1 rfl (lv_at hl 1 rfl) ?_
  refine ro_V (As := [.int (nI j)]) (rest := []) ⟨hx, hb, hml, hown, hts⟩ (c_X6_isKey l D cI cJ cZ m0 nw ps im mk wd so mb ma mf mw ml mu wt ty NW PS u IM MK sd WD s SO q EB EA EF EW EL EU br WT ww TY KS KL KW n A hn hk hw0 hR hRW j (by omega)) (k_X6_85 hts ⟨Nat.le_of_ble_eq_true rfl, Nat.le_of_ble_eq_true rfl⟩) hK hP 0 rfl rfl rfl [0, 1, 2, 3, 4, 5, 6, 7, 8, 9, 10, 11, 12, 13, 14] rfl rfl hl.1 rfl (Nat.le_of_ble_eq_true rfl) dX6_key_2 ⟨Nat.le_of_ble_eq_true rfl, Nat.le_of_ble_eq_true rfl⟩ ?_
  refine b_if_ne (tgt := 11) hx hb dX6_key_5 (by decide) (fun c1 => ?_) (fun c1 => ?_)
  ·
    refine lv_iload_n hx hb dX6_key_11 rfl (lv_at hl 2 rfl) ?_
    refine lv_iconst (v := nI 0) hx hb dX6_key_12 (by decide +kernel) ?_
    refine lv_bipush (v := nI 12) hx hb dX6_key_13 (by decide +kernel) ?_
    refine ro_S (As := [.int (nI t), .int (nI 0), .int (nI 12)]) (rest := []) ⟨hx, hb, hml, hown, hts⟩ (c_X6_in l D cI cJ cZ t 0 12 (by omega) (by omega) (by omega)) (k_X6_79 hts ⟨Nat.le_of_ble_eq_true rfl, Nat.le_of_ble_eq_true rfl⟩) hK hP [] rfl rfl hl.1 rfl (Nat.le_of_ble_eq_true rfl) dX6_key_15 ⟨Nat.le_of_ble_eq_true rfl, Nat.le_of_ble_eq_true rfl⟩ ?_
    refine b_if_ne (tgt := 24) hx hb dX6_key_18 (by decide) (fun c2 => ?_) (fun c2 => ?_)
    ·
      exact absurd c2 (by omega)
    ·
      refine lv_ldc hx hb hown (hts _ mk_X6_83) dX6_key_21 ?_
      exact wr_iret hx hb hr hlk hP hD hS dX6_key_23 (⟨rfl, SO, q, EB, EA, EF, EW, EL, EU, br, WT, ww, rfl⟩)
  ·
    exact (c1 (by omega)).elim
set_option maxHeartbeats 4000000 in
set_option maxRecDepth 100000 in
theorem c_X6_branch_bneg (l : Launch) (D : va_G) (cI cJ cZ : ClassId) (m0 nw ps im mk wd so mb ma mf mw ml mu wt ty : Nat) (NW : Nat → Nat) (PS : Nat → Nat) (u : Nat) (IM : Nat → Nat) (MK : Nat → Nat) (sd : Nat) (WD : Nat → Nat) (s : Nat) (SO : Nat → Nat) (q : Nat) (EB : Nat → Nat) (EA : Nat → Nat) (EF : Nat → Nat) (EW : Nat → Nat) (EL : Nat → Nat) (EU : Nat → Nat) (br : Nat) (WT : Nat → Nat) (ww : Nat) (TY : Nat → Nat) (KS KL KW : Nat → Nat) (n A : Nat) (hn : n ≤ 24) (hk : ∀ k, k < n → Wf (KS k) (KL k)) (hw0 : Wf s A) (hR : RN NW KS KL KW n) (hRW : RW WD s A) (hso : Srt KS KL n) (BB BD BM BL BF BA BK : Nat → Nat) (hTr : TrX (gapF KS KL) n BB BD BM BL BF BA BK) (hv : ∀ k, k < n → KW k ≤ 9999) (x y : Int32) (hx0 : x < 0) (sz : Nat) : WR l yX6_branch cX6_branch 3 (some .int) (rmN 5 116) D (ty3 cI cJ cZ) [.ref m0, .int x, .int y] [(m0, .inr (6, [.ref nw, .ref ps, .int (nI u), .ref im, .ref mk, .int (nI sd), .ref wd, .int (nI s), .ref so, .int (nI q), .ref mb, .ref ma, .ref mf, .ref mw, .ref ml, .ref mu, .int (nI br), .ref wt, .int (nI ww), .ref ty])), (nw, .inl (cI, 241, .inl (nF NW))), (ps, .inl (cI, 4820, .inl (nF PS))), (im, .inl (cI, 484, .inl (nF IM))), (mk, .inl (cZ, 2, .inl (nF MK))), (wd, .inl (cI, 8, .inl (nF WD))), (so, .inl (cI, 24, .inl (nF SO))), (mb, .inl (cI, 24, .inl (nF EB))), (ma, .inl (cI, 24, .inl (nF EA))), (mf, .inl (cI, 24, .inl (nF EF))), (mw, .inl (cI, 24, .inl (nF EW))), (ml, .inl (cI, 24, .inl (nF EL))), (mu, .inl (cI, 24, .inl (oF EU))), (wt, .inl (cI, 200, .inl (oF WT))), (ty, .inl (cI, 8, .inl (nF TY)))] sz (fun x w => x = some (.int (-1000000001)) ∧ ∃ (SO : Nat → Nat) (q : Nat) (EB EA EF EW EL EU : Nat → Nat) (br : Nat) (WT : Nat → Nat) (ww : Nat), w = [(m0, .inr (6, [.ref nw, .ref ps, .int (nI u), .ref im, .ref mk, .int (nI sd), .ref wd, .int (nI s), .ref so, .int (nI q), .ref mb, .ref ma, .ref mf, .ref mw, .ref ml, .ref mu, .int (nI br), .ref wt, .int (nI ww), .ref ty])), (nw, .inl (cI, 241, .inl (nF NW))), (ps, .inl (cI, 4820, .inl (nF PS))), (im, .inl (cI, 484, .inl (nF IM))), (mk, .inl (cZ, 2, .inl (nF MK))), (wd, .inl (cI, 8, .inl (nF WD))), (so, .inl (cI, 24, .inl (nF SO))), (mb, .inl (cI, 24, .inl (nF EB))), (ma, .inl (cI, 24, .inl (nF EA))), (mf, .inl (cI, 24, .inl (nF EF))), (mw, .inl (cI, 24, .inl (nF EW))), (ml, .inl (cI, 24, .inl (nF EL))), (mu, .inl (cI, 24, .inl (oF EU))), (wt, .inl (cI, 200, .inl (oF WT))), (ty, .inl (cI, 8, .inl (nF TY)))]) := by
  have hs8 := hw0.1
  have hA64 := hw0.2.1
  have hN0 := hR.1
  have hBK := tf_BK hTr hn
  have hDK := tf_DK hTr hn
  have hp := plc_le KS KL n s A
  have hcb := cbl_le KS KL n s A
  have hfl := fnd_le KS KL n s A
  refine wr_start (by decide) (Nat.le_of_ble_eq_true rfl) ?_
  intro pp ee ss mm below meth cd AA C0 hAA hP hK hD hS hN hnm ls hl
  obtain ⟨hx, hb, hr, hml, hown, hts, hlk⟩ := C0
  have hown : ss.vm.findClass RX6 = some mm.cls := hown
  have hl : lv_has ls 3 [(0, .ref m0), (1, .int x), (2, .int y)] := hl
  have hP : va_P D vwCl [(m0, .inr (6, [.ref nw, .ref ps, .int (nI u), .ref im, .ref mk, .int (nI sd), .ref wd, .int (nI s), .ref so, .int (nI q), .ref mb, .ref ma, .ref mf, .ref mw, .ref ml, .ref mu, .int (nI br), .ref wt, .int (nI ww), .ref ty])), (nw, .inl (cI, 241, .inl (nF NW))), (ps, .inl (cI, 4820, .inl (nF PS))), (im, .inl (cI, 484, .inl (nF IM))), (mk, .inl (cZ, 2, .inl (nF MK))), (wd, .inl (cI, 8, .inl (nF WD))), (so, .inl (cI, 24, .inl (nF SO))), (mb, .inl (cI, 24, .inl (nF EB))), (ma, .inl (cI, 24, .inl (nF EA))), (mf, .inl (cI, 24, .inl (nF EF))), (mw, .inl (cI, 24, .inl (nF EW))), (ml, .inl (cI, 24, .inl (nF EL))), (mu, .inl (cI, 24, .inl (oF EU))), (wt, .inl (cI, 200, .inl (oF WT))), (ty, .inl (cI, 8, .inl (nF TY)))] ss.heap := hP
  refine lv_aload_n hx hb dX6_branch_0 rfl (lv_at hl 0 rfl) ?_
  refine lv_iconst (v := oI 0) hx hb dX6_branch_1 (by decide +kernel) ?_
  refine wr_V (As := [.int (oI 0)]) (rest := []) (wc := [(m0, .inr (6, [.ref nw, .ref ps, .int (nI u), .ref im, .ref mk, .int (nI sd), .ref wd, .int (nI s), .ref so, .int (nI q), .ref mb, .ref ma, .ref mf, .ref mw, .ref ml, .ref mu, .int (nI br), .ref wt, .int (nI ww), .ref ty])), (nw, .inl (cI, 241, .inl (nF NW))), (ps, .inl (cI, 4820, .inl (nF PS))), (im, .inl (cI, 484, .inl (nF IM))), (mk, .inl (cZ, 2, .inl (nF MK))), (wd, .inl (cI, 8, .inl (nF WD))), (so, .inl (cI, 24, .inl (nF SO))), (mb, .inl (cI, 24, .inl (nF EB))), (ma, .inl (cI, 24, .inl (nF EA))), (mf, .inl (cI, 24, .inl (nF EF))), (mw, .inl (cI, 24, .inl (nF EW))), (ml, .inl (cI, 24, .inl (nF EL))), (mu, .inl (cI, 24, .inl (oF EU))), (wt, .inl (cI, 200, .inl (oF WT))), (ty, .inl (cI, 8, .inl (nF TY)))]) (wr := []) ⟨hx, hb, hml, hown, hts⟩ (c_X6_findsBut_all l D cI cJ cZ m0 nw ps im mk wd so mb ma mf mw ml mu wt ty NW PS u IM MK sd WD s SO q EB EA EF EW EL EU br WT ww TY KS KL KW n A hn hk hw0 hR hRW hso _) (k_X6_119 hts ⟨Nat.le_of_ble_eq_true rfl, Nat.le_of_ble_eq_true rfl⟩) hK hN hP hD hS hAA 0 rfl rfl rfl [0, 1, 2, 3, 4, 5, 6, 7, 8, 9, 10, 11, 12, 13, 14] [] rfl rfl (by decide) (by decide) (by decide) rfl hl.1 rfl (Nat.le_of_ble_eq_true rfl) dX6_branch_2 ⟨Nat.le_of_ble_eq_true rfl, Nat.le_of_ble_eq_true rfl⟩ (fun v3 w4 H locs hp2 hP hD hS => ?_)
  obtain ⟨rfl, SOh1, EBh1, EAh1, EFh1, EWh1, ELh1, EUh1, WTh1, rfl, hTmh1⟩ := hp2
  have hE : ∀ b, b < n - 1 → EFh1 b ≤ 24 ∧ 1 ≤ EWh1 b ∧ EWh1 b ≤ 24 := fun b hb2 => by have := tm_in hTmh1 (b := b) (by omega); omega
  have hTm := hTmh1
  have hP : va_P D vwCl [(m0, .inr (6, [.ref nw, .ref ps, .int (nI u), .ref im, .ref mk, .int (nI sd), .ref wd, .int (nI s), .ref so, .int (nI n), .ref mb, .ref ma, .ref mf, .ref mw, .ref ml, .ref mu, .int (nI (n - 1)), .ref wt, .int (nI 0), .ref ty])), (nw, .inl (cI, 241, .inl (nF NW))), (ps, .inl (cI, 4820, .inl (nF PS))), (im, .inl (cI, 484, .inl (nF IM))), (mk, .inl (cZ, 2, .inl (nF MK))), (wd, .inl (cI, 8, .inl (nF WD))), (so, .inl (cI, 24, .inl (nF SOh1))), (mb, .inl (cI, 24, .inl (nF EBh1))), (ma, .inl (cI, 24, .inl (nF EAh1))), (mf, .inl (cI, 24, .inl (nF EFh1))), (mw, .inl (cI, 24, .inl (nF EWh1))), (ml, .inl (cI, 24, .inl (nF ELh1))), (mu, .inl (cI, 24, .inl (oF EUh1))), (wt, .inl (cI, 200, .inl (oF WTh1))), (ty, .inl (cI, 8, .inl (nF TY)))] H := hP.sub [0, 1, 2, 3, 4, 5, 6, 7, 8, 9, 10, 11, 12, 13, 14] rfl
  have hD : va_D AA [(m0, .inr (6, [.ref nw, .ref ps, .int (nI u), .ref im, .ref mk, .int (nI sd), .ref wd, .int (nI s), .ref so, .int (nI n), .ref mb, .ref ma, .ref mf, .ref mw, .ref ml, .ref mu, .int (nI (n - 1)), .ref wt, .int (nI 0), .ref ty])), (nw, .inl (cI, 241, .inl (nF NW))), (ps, .inl (cI, 4820, .inl (nF PS))), (im, .inl (cI, 484, .inl (nF IM))), (mk, .inl (cZ, 2, .inl (nF MK))), (wd, .inl (cI, 8, .inl (nF WD))), (so, .inl (cI, 24, .inl (nF SOh1))), (mb, .inl (cI, 24, .inl (nF EBh1))), (ma, .inl (cI, 24, .inl (nF EAh1))), (mf, .inl (cI, 24, .inl (nF EFh1))), (mw, .inl (cI, 24, .inl (nF EWh1))), (ml, .inl (cI, 24, .inl (nF ELh1))), (mu, .inl (cI, 24, .inl (oF EUh1))), (wt, .inl (cI, 200, .inl (oF WTh1))), (ty, .inl (cI, 8, .inl (nF TY)))] := hD.sub [0, 1, 2, 3, 4, 5, 6, 7, 8, 9, 10, 11, 12, 13, 14] (by decide) rfl
  refine lv_iload_n hx hb dX6_branch_5 rfl (lv_at hl 1 rfl) ?_
  refine lv_iconst (v := nI 0) hx hb dX6_branch_6 (by decide +kernel) ?_
  refine lv_aload_n hx hb dX6_branch_7 rfl (lv_at hl 0 rfl) ?_
  refine va_get (D := D) (ci := 6) (v := .int (nI (n - 1))) (C := RX6) (T := TX6) (N := 20) hx hb hts inX6 hown hK hP 0 rfl rfl 16 (by decide) (hts _ mf_X6_97) (fun _ h9 => h9) rfl dX6_branch_8 ?_
  refine lv_iconst (v := nI 1) hx hb dX6_branch_11 (by decide +kernel) ?_
  refine lv_isub hx hb dX6_branch_12 ?_
  refine tq (y := (oI (n - 1))) (by show nI (n - 1) - nI 1 = nI (n - 1) - 1; rw [nI_one]) ?_
  refine ro_S (As := [.int x, .int (nI 0), .int (oI (n - 1))]) (rest := []) ⟨hx, hb, hml, hown, hts⟩ (c_X6_in_neg l D cI cJ cZ x ((oI (n - 1))) 0 hx0 (by omega)) (k_X6_79 hts ⟨Nat.le_of_ble_eq_true rfl, Nat.le_of_ble_eq_true rfl⟩) hK hP [] rfl rfl hl.1 rfl (Nat.le_of_ble_eq_true rfl) dX6_branch_13 ⟨Nat.le_of_ble_eq_true rfl, Nat.le_of_ble_eq_true rfl⟩ ?_
  refine n_if_ne (tgt := 22) hx hb dX6_branch_16 (by decide) (by decide) (fun h9 => absurd rfl h9) (fun _ => ?_)
  refine lv_ldc hx hb hown (hts _ mk_X6_89) dX6_branch_19 ?_
  exact wr_iret hx hb hr hlk hP hD hS dX6_branch_21 (⟨rfl, SOh1, n, EBh1, EAh1, EFh1, EWh1, ELh1, EUh1, n - 1, WTh1, 0, rfl⟩)
set_option maxHeartbeats 4000000 in
set_option maxRecDepth 100000 in
theorem c_X6_branch_bout (l : Launch) (D : va_G) (cI cJ cZ : ClassId) (m0 nw ps im mk wd so mb ma mf mw ml mu wt ty : Nat) (NW : Nat → Nat) (PS : Nat → Nat) (u : Nat) (IM : Nat → Nat) (MK : Nat → Nat) (sd : Nat) (WD : Nat → Nat) (s : Nat) (SO : Nat → Nat) (q : Nat) (EB : Nat → Nat) (EA : Nat → Nat) (EF : Nat → Nat) (EW : Nat → Nat) (EL : Nat → Nat) (EU : Nat → Nat) (br : Nat) (WT : Nat → Nat) (ww : Nat) (TY : Nat → Nat) (KS KL KW : Nat → Nat) (n A : Nat) (hn : n ≤ 24) (hk : ∀ k, k < n → Wf (KS k) (KL k)) (hw0 : Wf s A) (hR : RN NW KS KL KW n) (hRW : RW WD s A) (hso : Srt KS KL n) (BB BD BM BL BF BA BK : Nat → Nat) (hTr : TrX (gapF KS KL) n BB BD BM BL BF BA BK) (hv : ∀ k, k < n → KW k ≤ 9999) (j : Nat) (y : Int32) (hj : j < 2 ^ 31) (hjo : n - 1 ≤ j) (sz : Nat) : WR l yX6_branch cX6_branch 3 (some .int) (rmN 5 116) D (ty3 cI cJ cZ) [.ref m0, .int (nI j), .int y] [(m0, .inr (6, [.ref nw, .ref ps, .int (nI u), .ref im, .ref mk, .int (nI sd), .ref wd, .int (nI s), .ref so, .int (nI q), .ref mb, .ref ma, .ref mf, .ref mw, .ref ml, .ref mu, .int (nI br), .ref wt, .int (nI ww), .ref ty])), (nw, .inl (cI, 241, .inl (nF NW))), (ps, .inl (cI, 4820, .inl (nF PS))), (im, .inl (cI, 484, .inl (nF IM))), (mk, .inl (cZ, 2, .inl (nF MK))), (wd, .inl (cI, 8, .inl (nF WD))), (so, .inl (cI, 24, .inl (nF SO))), (mb, .inl (cI, 24, .inl (nF EB))), (ma, .inl (cI, 24, .inl (nF EA))), (mf, .inl (cI, 24, .inl (nF EF))), (mw, .inl (cI, 24, .inl (nF EW))), (ml, .inl (cI, 24, .inl (nF EL))), (mu, .inl (cI, 24, .inl (oF EU))), (wt, .inl (cI, 200, .inl (oF WT))), (ty, .inl (cI, 8, .inl (nF TY)))] sz (fun x w => x = some (.int (-1000000001)) ∧ ∃ (SO : Nat → Nat) (q : Nat) (EB EA EF EW EL EU : Nat → Nat) (br : Nat) (WT : Nat → Nat) (ww : Nat), w = [(m0, .inr (6, [.ref nw, .ref ps, .int (nI u), .ref im, .ref mk, .int (nI sd), .ref wd, .int (nI s), .ref so, .int (nI q), .ref mb, .ref ma, .ref mf, .ref mw, .ref ml, .ref mu, .int (nI br), .ref wt, .int (nI ww), .ref ty])), (nw, .inl (cI, 241, .inl (nF NW))), (ps, .inl (cI, 4820, .inl (nF PS))), (im, .inl (cI, 484, .inl (nF IM))), (mk, .inl (cZ, 2, .inl (nF MK))), (wd, .inl (cI, 8, .inl (nF WD))), (so, .inl (cI, 24, .inl (nF SO))), (mb, .inl (cI, 24, .inl (nF EB))), (ma, .inl (cI, 24, .inl (nF EA))), (mf, .inl (cI, 24, .inl (nF EF))), (mw, .inl (cI, 24, .inl (nF EW))), (ml, .inl (cI, 24, .inl (nF EL))), (mu, .inl (cI, 24, .inl (oF EU))), (wt, .inl (cI, 200, .inl (oF WT))), (ty, .inl (cI, 8, .inl (nF TY)))]) := by
  have hs8 := hw0.1
  have hA64 := hw0.2.1
  have hN0 := hR.1
  have hBK := tf_BK hTr hn
  have hDK := tf_DK hTr hn
  have hp := plc_le KS KL n s A
  have hcb := cbl_le KS KL n s A
  have hfl := fnd_le KS KL n s A
  refine wr_start (by decide) (Nat.le_of_ble_eq_true rfl) ?_
  intro pp ee ss mm below meth cd AA C0 hAA hP hK hD hS hN hnm ls hl
  obtain ⟨hx, hb, hr, hml, hown, hts, hlk⟩ := C0
  have hown : ss.vm.findClass RX6 = some mm.cls := hown
  have hl : lv_has ls 3 [(0, .ref m0), (1, .int (nI j)), (2, .int y)] := hl
  have hP : va_P D vwCl [(m0, .inr (6, [.ref nw, .ref ps, .int (nI u), .ref im, .ref mk, .int (nI sd), .ref wd, .int (nI s), .ref so, .int (nI q), .ref mb, .ref ma, .ref mf, .ref mw, .ref ml, .ref mu, .int (nI br), .ref wt, .int (nI ww), .ref ty])), (nw, .inl (cI, 241, .inl (nF NW))), (ps, .inl (cI, 4820, .inl (nF PS))), (im, .inl (cI, 484, .inl (nF IM))), (mk, .inl (cZ, 2, .inl (nF MK))), (wd, .inl (cI, 8, .inl (nF WD))), (so, .inl (cI, 24, .inl (nF SO))), (mb, .inl (cI, 24, .inl (nF EB))), (ma, .inl (cI, 24, .inl (nF EA))), (mf, .inl (cI, 24, .inl (nF EF))), (mw, .inl (cI, 24, .inl (nF EW))), (ml, .inl (cI, 24, .inl (nF EL))), (mu, .inl (cI, 24, .inl (oF EU))), (wt, .inl (cI, 200, .inl (oF WT))), (ty, .inl (cI, 8, .inl (nF TY)))] ss.heap := hP
  refine lv_aload_n hx hb dX6_branch_0 rfl (lv_at hl 0 rfl) ?_
  refine lv_iconst (v := oI 0) hx hb dX6_branch_1 (by decide +kernel) ?_
  refine wr_V (As := [.int (oI 0)]) (rest := []) (wc := [(m0, .inr (6, [.ref nw, .ref ps, .int (nI u), .ref im, .ref mk, .int (nI sd), .ref wd, .int (nI s), .ref so, .int (nI q), .ref mb, .ref ma, .ref mf, .ref mw, .ref ml, .ref mu, .int (nI br), .ref wt, .int (nI ww), .ref ty])), (nw, .inl (cI, 241, .inl (nF NW))), (ps, .inl (cI, 4820, .inl (nF PS))), (im, .inl (cI, 484, .inl (nF IM))), (mk, .inl (cZ, 2, .inl (nF MK))), (wd, .inl (cI, 8, .inl (nF WD))), (so, .inl (cI, 24, .inl (nF SO))), (mb, .inl (cI, 24, .inl (nF EB))), (ma, .inl (cI, 24, .inl (nF EA))), (mf, .inl (cI, 24, .inl (nF EF))), (mw, .inl (cI, 24, .inl (nF EW))), (ml, .inl (cI, 24, .inl (nF EL))), (mu, .inl (cI, 24, .inl (oF EU))), (wt, .inl (cI, 200, .inl (oF WT))), (ty, .inl (cI, 8, .inl (nF TY)))]) (wr := []) ⟨hx, hb, hml, hown, hts⟩ (c_X6_findsBut_all l D cI cJ cZ m0 nw ps im mk wd so mb ma mf mw ml mu wt ty NW PS u IM MK sd WD s SO q EB EA EF EW EL EU br WT ww TY KS KL KW n A hn hk hw0 hR hRW hso _) (k_X6_119 hts ⟨Nat.le_of_ble_eq_true rfl, Nat.le_of_ble_eq_true rfl⟩) hK hN hP hD hS hAA 0 rfl rfl rfl [0, 1, 2, 3, 4, 5, 6, 7, 8, 9, 10, 11, 12, 13, 14] [] rfl rfl (by decide) (by decide) (by decide) rfl hl.1 rfl (Nat.le_of_ble_eq_true rfl) dX6_branch_2 ⟨Nat.le_of_ble_eq_true rfl, Nat.le_of_ble_eq_true rfl⟩ (fun v3 w4 H locs hp2 hP hD hS => ?_)
  obtain ⟨rfl, SOh1, EBh1, EAh1, EFh1, EWh1, ELh1, EUh1, WTh1, rfl, hTmh1⟩ := hp2
  have hE : ∀ b, b < n - 1 → EFh1 b ≤ 24 ∧ 1 ≤ EWh1 b ∧ EWh1 b ≤ 24 := fun b hb2 => by have := tm_in hTmh1 (b := b) (by omega); omega
  have hTm := hTmh1
  have hP : va_P D vwCl [(m0, .inr (6, [.ref nw, .ref ps, .int (nI u), .ref im, .ref mk, .int (nI sd), .ref wd, .int (nI s), .ref so, .int (nI n), .ref mb, .ref ma, .ref mf, .ref mw, .ref ml, .ref mu, .int (nI (n - 1)), .ref wt, .int (nI 0), .ref ty])), (nw, .inl (cI, 241, .inl (nF NW))), (ps, .inl (cI, 4820, .inl (nF PS))), (im, .inl (cI, 484, .inl (nF IM))), (mk, .inl (cZ, 2, .inl (nF MK))), (wd, .inl (cI, 8, .inl (nF WD))), (so, .inl (cI, 24, .inl (nF SOh1))), (mb, .inl (cI, 24, .inl (nF EBh1))), (ma, .inl (cI, 24, .inl (nF EAh1))), (mf, .inl (cI, 24, .inl (nF EFh1))), (mw, .inl (cI, 24, .inl (nF EWh1))), (ml, .inl (cI, 24, .inl (nF ELh1))), (mu, .inl (cI, 24, .inl (oF EUh1))), (wt, .inl (cI, 200, .inl (oF WTh1))), (ty, .inl (cI, 8, .inl (nF TY)))] H := hP.sub [0, 1, 2, 3, 4, 5, 6, 7, 8, 9, 10, 11, 12, 13, 14] rfl
  have hD : va_D AA [(m0, .inr (6, [.ref nw, .ref ps, .int (nI u), .ref im, .ref mk, .int (nI sd), .ref wd, .int (nI s), .ref so, .int (nI n), .ref mb, .ref ma, .ref mf, .ref mw, .ref ml, .ref mu, .int (nI (n - 1)), .ref wt, .int (nI 0), .ref ty])), (nw, .inl (cI, 241, .inl (nF NW))), (ps, .inl (cI, 4820, .inl (nF PS))), (im, .inl (cI, 484, .inl (nF IM))), (mk, .inl (cZ, 2, .inl (nF MK))), (wd, .inl (cI, 8, .inl (nF WD))), (so, .inl (cI, 24, .inl (nF SOh1))), (mb, .inl (cI, 24, .inl (nF EBh1))), (ma, .inl (cI, 24, .inl (nF EAh1))), (mf, .inl (cI, 24, .inl (nF EFh1))), (mw, .inl (cI, 24, .inl (nF EWh1))), (ml, .inl (cI, 24, .inl (nF ELh1))), (mu, .inl (cI, 24, .inl (oF EUh1))), (wt, .inl (cI, 200, .inl (oF WTh1))), (ty, .inl (cI, 8, .inl (nF TY)))] := hD.sub [0, 1, 2, 3, 4, 5, 6, 7, 8, 9, 10, 11, 12, 13, 14] (by decide) rfl
  refine lv_iload_n hx hb dX6_branch_5 rfl (lv_at hl 1 rfl) ?_
  refine lv_iconst (v := nI 0) hx hb dX6_branch_6 (by decide +kernel) ?_
  refine lv_aload_n hx hb dX6_branch_7 rfl (lv_at hl 0 rfl) ?_
  refine va_get (D := D) (ci := 6) (v := .int (nI (n - 1))) (C := RX6) (T := TX6) (N := 20) hx hb hts inX6 hown hK hP 0 rfl rfl 16 (by decide) (hts _ mf_X6_97) (fun _ h9 => h9) rfl dX6_branch_8 ?_
  refine lv_iconst (v := nI 1) hx hb dX6_branch_11 (by decide +kernel) ?_
  refine lv_isub hx hb dX6_branch_12 ?_
  refine tq (y := (oI (n - 1))) (by show nI (n - 1) - nI 1 = nI (n - 1) - 1; rw [nI_one]) ?_
  refine ro_S (As := [.int (nI j), .int (nI 0), .int (oI (n - 1))]) (rest := []) ⟨hx, hb, hml, hown, hts⟩ (c_X6_in_o l D cI cJ cZ j 0 (n - 1) (by omega) (by omega) (by omega)) (k_X6_79 hts ⟨Nat.le_of_ble_eq_true rfl, Nat.le_of_ble_eq_true rfl⟩) hK hP [] rfl rfl hl.1 rfl (Nat.le_of_ble_eq_true rfl) dX6_branch_13 ⟨Nat.le_of_ble_eq_true rfl, Nat.le_of_ble_eq_true rfl⟩ ?_
  refine b_if_ne (tgt := 22) hx hb dX6_branch_16 (by decide) (fun c5 => ?_) (fun c5 => ?_)
  ·
    exact absurd c5 (by omega)
  ·
    refine lv_ldc hx hb hown (hts _ mk_X6_89) dX6_branch_19 ?_
    exact wr_iret hx hb hr hlk hP hD hS dX6_branch_21 (⟨rfl, SOh1, n, EBh1, EAh1, EFh1, EWh1, ELh1, EUh1, n - 1, WTh1, 0, rfl⟩)
set_option maxHeartbeats 4000000 in
set_option maxRecDepth 100000 in
theorem c_X6_branch_neg (l : Launch) (D : va_G) (cI cJ cZ : ClassId) (m0 nw ps im mk wd so mb ma mf mw ml mu wt ty : Nat) (NW : Nat → Nat) (PS : Nat → Nat) (u : Nat) (IM : Nat → Nat) (MK : Nat → Nat) (sd : Nat) (WD : Nat → Nat) (s : Nat) (SO : Nat → Nat) (q : Nat) (EB : Nat → Nat) (EA : Nat → Nat) (EF : Nat → Nat) (EW : Nat → Nat) (EL : Nat → Nat) (EU : Nat → Nat) (br : Nat) (WT : Nat → Nat) (ww : Nat) (TY : Nat → Nat) (KS KL KW : Nat → Nat) (n A : Nat) (hn : n ≤ 24) (hk : ∀ k, k < n → Wf (KS k) (KL k)) (hw0 : Wf s A) (hR : RN NW KS KL KW n) (hRW : RW WD s A) (hso : Srt KS KL n) (BB BD BM BL BF BA BK : Nat → Nat) (hTr : TrX (gapF KS KL) n BB BD BM BL BF BA BK) (hv : ∀ k, k < n → KW k ≤ 9999) (j : Nat) (hj : j < n - 1) (x : Int32) (hx0 : x < 0) (sz : Nat) : WR l yX6_branch cX6_branch 3 (some .int) (rmN 5 116) D (ty3 cI cJ cZ) [.ref m0, .int (nI j), .int x] [(m0, .inr (6, [.ref nw, .ref ps, .int (nI u), .ref im, .ref mk, .int (nI sd), .ref wd, .int (nI s), .ref so, .int (nI q), .ref mb, .ref ma, .ref mf, .ref mw, .ref ml, .ref mu, .int (nI br), .ref wt, .int (nI ww), .ref ty])), (nw, .inl (cI, 241, .inl (nF NW))), (ps, .inl (cI, 4820, .inl (nF PS))), (im, .inl (cI, 484, .inl (nF IM))), (mk, .inl (cZ, 2, .inl (nF MK))), (wd, .inl (cI, 8, .inl (nF WD))), (so, .inl (cI, 24, .inl (nF SO))), (mb, .inl (cI, 24, .inl (nF EB))), (ma, .inl (cI, 24, .inl (nF EA))), (mf, .inl (cI, 24, .inl (nF EF))), (mw, .inl (cI, 24, .inl (nF EW))), (ml, .inl (cI, 24, .inl (nF EL))), (mu, .inl (cI, 24, .inl (oF EU))), (wt, .inl (cI, 200, .inl (oF WT))), (ty, .inl (cI, 8, .inl (nF TY)))] sz (fun x w => x = some (.int (-1000000002)) ∧ ∃ (SO : Nat → Nat) (q : Nat) (EB EA EF EW EL EU : Nat → Nat) (br : Nat) (WT : Nat → Nat) (ww : Nat), w = [(m0, .inr (6, [.ref nw, .ref ps, .int (nI u), .ref im, .ref mk, .int (nI sd), .ref wd, .int (nI s), .ref so, .int (nI q), .ref mb, .ref ma, .ref mf, .ref mw, .ref ml, .ref mu, .int (nI br), .ref wt, .int (nI ww), .ref ty])), (nw, .inl (cI, 241, .inl (nF NW))), (ps, .inl (cI, 4820, .inl (nF PS))), (im, .inl (cI, 484, .inl (nF IM))), (mk, .inl (cZ, 2, .inl (nF MK))), (wd, .inl (cI, 8, .inl (nF WD))), (so, .inl (cI, 24, .inl (nF SO))), (mb, .inl (cI, 24, .inl (nF EB))), (ma, .inl (cI, 24, .inl (nF EA))), (mf, .inl (cI, 24, .inl (nF EF))), (mw, .inl (cI, 24, .inl (nF EW))), (ml, .inl (cI, 24, .inl (nF EL))), (mu, .inl (cI, 24, .inl (oF EU))), (wt, .inl (cI, 200, .inl (oF WT))), (ty, .inl (cI, 8, .inl (nF TY)))]) := by
  have hs8 := hw0.1
  have hA64 := hw0.2.1
  have hN0 := hR.1
  have hBK := tf_BK hTr hn
  have hDK := tf_DK hTr hn
  have hp := plc_le KS KL n s A
  have hcb := cbl_le KS KL n s A
  have hfl := fnd_le KS KL n s A
  refine wr_start (by decide) (Nat.le_of_ble_eq_true rfl) ?_
  intro pp ee ss mm below meth cd AA C0 hAA hP hK hD hS hN hnm ls hl
  obtain ⟨hx, hb, hr, hml, hown, hts, hlk⟩ := C0
  have hown : ss.vm.findClass RX6 = some mm.cls := hown
  have hl : lv_has ls 3 [(0, .ref m0), (1, .int (nI j)), (2, .int x)] := hl
  have hP : va_P D vwCl [(m0, .inr (6, [.ref nw, .ref ps, .int (nI u), .ref im, .ref mk, .int (nI sd), .ref wd, .int (nI s), .ref so, .int (nI q), .ref mb, .ref ma, .ref mf, .ref mw, .ref ml, .ref mu, .int (nI br), .ref wt, .int (nI ww), .ref ty])), (nw, .inl (cI, 241, .inl (nF NW))), (ps, .inl (cI, 4820, .inl (nF PS))), (im, .inl (cI, 484, .inl (nF IM))), (mk, .inl (cZ, 2, .inl (nF MK))), (wd, .inl (cI, 8, .inl (nF WD))), (so, .inl (cI, 24, .inl (nF SO))), (mb, .inl (cI, 24, .inl (nF EB))), (ma, .inl (cI, 24, .inl (nF EA))), (mf, .inl (cI, 24, .inl (nF EF))), (mw, .inl (cI, 24, .inl (nF EW))), (ml, .inl (cI, 24, .inl (nF EL))), (mu, .inl (cI, 24, .inl (oF EU))), (wt, .inl (cI, 200, .inl (oF WT))), (ty, .inl (cI, 8, .inl (nF TY)))] ss.heap := hP
  refine lv_aload_n hx hb dX6_branch_0 rfl (lv_at hl 0 rfl) ?_
  refine lv_iconst (v := oI 0) hx hb dX6_branch_1 (by decide +kernel) ?_
  refine wr_V (As := [.int (oI 0)]) (rest := []) (wc := [(m0, .inr (6, [.ref nw, .ref ps, .int (nI u), .ref im, .ref mk, .int (nI sd), .ref wd, .int (nI s), .ref so, .int (nI q), .ref mb, .ref ma, .ref mf, .ref mw, .ref ml, .ref mu, .int (nI br), .ref wt, .int (nI ww), .ref ty])), (nw, .inl (cI, 241, .inl (nF NW))), (ps, .inl (cI, 4820, .inl (nF PS))), (im, .inl (cI, 484, .inl (nF IM))), (mk, .inl (cZ, 2, .inl (nF MK))), (wd, .inl (cI, 8, .inl (nF WD))), (so, .inl (cI, 24, .inl (nF SO))), (mb, .inl (cI, 24, .inl (nF EB))), (ma, .inl (cI, 24, .inl (nF EA))), (mf, .inl (cI, 24, .inl (nF EF))), (mw, .inl (cI, 24, .inl (nF EW))), (ml, .inl (cI, 24, .inl (nF EL))), (mu, .inl (cI, 24, .inl (oF EU))), (wt, .inl (cI, 200, .inl (oF WT))), (ty, .inl (cI, 8, .inl (nF TY)))]) (wr := []) ⟨hx, hb, hml, hown, hts⟩ (c_X6_findsBut_all l D cI cJ cZ m0 nw ps im mk wd so mb ma mf mw ml mu wt ty NW PS u IM MK sd WD s SO q EB EA EF EW EL EU br WT ww TY KS KL KW n A hn hk hw0 hR hRW hso _) (k_X6_119 hts ⟨Nat.le_of_ble_eq_true rfl, Nat.le_of_ble_eq_true rfl⟩) hK hN hP hD hS hAA 0 rfl rfl rfl [0, 1, 2, 3, 4, 5, 6, 7, 8, 9, 10, 11, 12, 13, 14] [] rfl rfl (by decide) (by decide) (by decide) rfl hl.1 rfl (Nat.le_of_ble_eq_true rfl) dX6_branch_2 ⟨Nat.le_of_ble_eq_true rfl, Nat.le_of_ble_eq_true rfl⟩ (fun v3 w4 H locs hp2 hP hD hS => ?_)
  obtain ⟨rfl, SOh1, EBh1, EAh1, EFh1, EWh1, ELh1, EUh1, WTh1, rfl, hTmh1⟩ := hp2
  have hE : ∀ b, b < n - 1 → EFh1 b ≤ 24 ∧ 1 ≤ EWh1 b ∧ EWh1 b ≤ 24 := fun b hb2 => by have := tm_in hTmh1 (b := b) (by omega); omega
  have hTm := hTmh1
  have hP : va_P D vwCl [(m0, .inr (6, [.ref nw, .ref ps, .int (nI u), .ref im, .ref mk, .int (nI sd), .ref wd, .int (nI s), .ref so, .int (nI n), .ref mb, .ref ma, .ref mf, .ref mw, .ref ml, .ref mu, .int (nI (n - 1)), .ref wt, .int (nI 0), .ref ty])), (nw, .inl (cI, 241, .inl (nF NW))), (ps, .inl (cI, 4820, .inl (nF PS))), (im, .inl (cI, 484, .inl (nF IM))), (mk, .inl (cZ, 2, .inl (nF MK))), (wd, .inl (cI, 8, .inl (nF WD))), (so, .inl (cI, 24, .inl (nF SOh1))), (mb, .inl (cI, 24, .inl (nF EBh1))), (ma, .inl (cI, 24, .inl (nF EAh1))), (mf, .inl (cI, 24, .inl (nF EFh1))), (mw, .inl (cI, 24, .inl (nF EWh1))), (ml, .inl (cI, 24, .inl (nF ELh1))), (mu, .inl (cI, 24, .inl (oF EUh1))), (wt, .inl (cI, 200, .inl (oF WTh1))), (ty, .inl (cI, 8, .inl (nF TY)))] H := hP.sub [0, 1, 2, 3, 4, 5, 6, 7, 8, 9, 10, 11, 12, 13, 14] rfl
  have hD : va_D AA [(m0, .inr (6, [.ref nw, .ref ps, .int (nI u), .ref im, .ref mk, .int (nI sd), .ref wd, .int (nI s), .ref so, .int (nI n), .ref mb, .ref ma, .ref mf, .ref mw, .ref ml, .ref mu, .int (nI (n - 1)), .ref wt, .int (nI 0), .ref ty])), (nw, .inl (cI, 241, .inl (nF NW))), (ps, .inl (cI, 4820, .inl (nF PS))), (im, .inl (cI, 484, .inl (nF IM))), (mk, .inl (cZ, 2, .inl (nF MK))), (wd, .inl (cI, 8, .inl (nF WD))), (so, .inl (cI, 24, .inl (nF SOh1))), (mb, .inl (cI, 24, .inl (nF EBh1))), (ma, .inl (cI, 24, .inl (nF EAh1))), (mf, .inl (cI, 24, .inl (nF EFh1))), (mw, .inl (cI, 24, .inl (nF EWh1))), (ml, .inl (cI, 24, .inl (nF ELh1))), (mu, .inl (cI, 24, .inl (oF EUh1))), (wt, .inl (cI, 200, .inl (oF WTh1))), (ty, .inl (cI, 8, .inl (nF TY)))] := hD.sub [0, 1, 2, 3, 4, 5, 6, 7, 8, 9, 10, 11, 12, 13, 14] (by decide) rfl
  refine lv_iload_n hx hb dX6_branch_5 rfl (lv_at hl 1 rfl) ?_
  refine lv_iconst (v := nI 0) hx hb dX6_branch_6 (by decide +kernel) ?_
  refine lv_aload_n hx hb dX6_branch_7 rfl (lv_at hl 0 rfl) ?_
  refine va_get (D := D) (ci := 6) (v := .int (nI (n - 1))) (C := RX6) (T := TX6) (N := 20) hx hb hts inX6 hown hK hP 0 rfl rfl 16 (by decide) (hts _ mf_X6_97) (fun _ h9 => h9) rfl dX6_branch_8 ?_
  refine lv_iconst (v := nI 1) hx hb dX6_branch_11 (by decide +kernel) ?_
  refine lv_isub hx hb dX6_branch_12 ?_
  refine tq (y := (oI (n - 1))) (by show nI (n - 1) - nI 1 = nI (n - 1) - 1; rw [nI_one]) ?_
  refine ro_S (As := [.int (nI j), .int (nI 0), .int (oI (n - 1))]) (rest := []) ⟨hx, hb, hml, hown, hts⟩ (c_X6_in_o l D cI cJ cZ j 0 (n - 1) (by omega) (by omega) (by omega)) (k_X6_79 hts ⟨Nat.le_of_ble_eq_true rfl, Nat.le_of_ble_eq_true rfl⟩) hK hP [] rfl rfl hl.1 rfl (Nat.le_of_ble_eq_true rfl) dX6_branch_13 ⟨Nat.le_of_ble_eq_true rfl, Nat.le_of_ble_eq_true rfl⟩ ?_
  refine b_if_ne (tgt := 22) hx hb dX6_branch_16 (by decide) (fun c5 => ?_) (fun c5 => ?_)
  ·
    refine lv_iload_n hx hb dX6_branch_22 rfl (lv_at hl 2 rfl) ?_
    refine lv_tableOut (tgt := 102) hx hb dX6_branch_23 (Or.inl (tn_neg hx0)) (by decide) ?_
    refine lv_ldc hx hb hown (hts _ mk_X6_83) dX6_branch_102 ?_
    exact wr_iret hx hb hr hlk hP hD hS dX6_branch_104 (⟨rfl, SOh1, n, EBh1, EAh1, EFh1, EWh1, ELh1, EUh1, n - 1, WTh1, 0, rfl⟩)
  ·
    exact (c5 (by omega)).elim
set_option maxHeartbeats 4000000 in
set_option maxRecDepth 100000 in
theorem c_X6_branch_0 (l : Launch) (D : va_G) (cI cJ cZ : ClassId) (m0 nw ps im mk wd so mb ma mf mw ml mu wt ty : Nat) (NW : Nat → Nat) (PS : Nat → Nat) (u : Nat) (IM : Nat → Nat) (MK : Nat → Nat) (sd : Nat) (WD : Nat → Nat) (s : Nat) (SO : Nat → Nat) (q : Nat) (EB : Nat → Nat) (EA : Nat → Nat) (EF : Nat → Nat) (EW : Nat → Nat) (EL : Nat → Nat) (EU : Nat → Nat) (br : Nat) (WT : Nat → Nat) (ww : Nat) (TY : Nat → Nat) (KS KL KW : Nat → Nat) (n A : Nat) (hn : n ≤ 24) (hk : ∀ k, k < n → Wf (KS k) (KL k)) (hw0 : Wf s A) (hR : RN NW KS KL KW n) (hRW : RW WD s A) (hso : Srt KS KL n) (BB BD BM BL BF BA BK : Nat → Nat) (hTr : TrX (gapF KS KL) n BB BD BM BL BF BA BK) (hv : ∀ k, k < n → KW k ≤ 9999) (j : Nat) (hj : j < n - 1) (sz : Nat) : WR l yX6_branch cX6_branch 3 (some .int) (rmN 5 116) D (ty3 cI cJ cZ) [.ref m0, .int (nI j), .int (nI 0)] [(m0, .inr (6, [.ref nw, .ref ps, .int (nI u), .ref im, .ref mk, .int (nI sd), .ref wd, .int (nI s), .ref so, .int (nI q), .ref mb, .ref ma, .ref mf, .ref mw, .ref ml, .ref mu, .int (nI br), .ref wt, .int (nI ww), .ref ty])), (nw, .inl (cI, 241, .inl (nF NW))), (ps, .inl (cI, 4820, .inl (nF PS))), (im, .inl (cI, 484, .inl (nF IM))), (mk, .inl (cZ, 2, .inl (nF MK))), (wd, .inl (cI, 8, .inl (nF WD))), (so, .inl (cI, 24, .inl (nF SO))), (mb, .inl (cI, 24, .inl (nF EB))), (ma, .inl (cI, 24, .inl (nF EA))), (mf, .inl (cI, 24, .inl (nF EF))), (mw, .inl (cI, 24, .inl (nF EW))), (ml, .inl (cI, 24, .inl (nF EL))), (mu, .inl (cI, 24, .inl (oF EU))), (wt, .inl (cI, 200, .inl (oF WT))), (ty, .inl (cI, 8, .inl (nF TY)))] sz (fun x w => x = some (.int (nI (BB j))) ∧ ∃ (SO : Nat → Nat) (q : Nat) (EB EA EF EW EL EU : Nat → Nat) (br : Nat) (WT : Nat → Nat) (ww : Nat), w = [(m0, .inr (6, [.ref nw, .ref ps, .int (nI u), .ref im, .ref mk, .int (nI sd), .ref wd, .int (nI s), .ref so, .int (nI q), .ref mb, .ref ma, .ref mf, .ref mw, .ref ml, .ref mu, .int (nI br), .ref wt, .int (nI ww), .ref ty])), (nw, .inl (cI, 241, .inl (nF NW))), (ps, .inl (cI, 4820, .inl (nF PS))), (im, .inl (cI, 484, .inl (nF IM))), (mk, .inl (cZ, 2, .inl (nF MK))), (wd, .inl (cI, 8, .inl (nF WD))), (so, .inl (cI, 24, .inl (nF SO))), (mb, .inl (cI, 24, .inl (nF EB))), (ma, .inl (cI, 24, .inl (nF EA))), (mf, .inl (cI, 24, .inl (nF EF))), (mw, .inl (cI, 24, .inl (nF EW))), (ml, .inl (cI, 24, .inl (nF EL))), (mu, .inl (cI, 24, .inl (oF EU))), (wt, .inl (cI, 200, .inl (oF WT))), (ty, .inl (cI, 8, .inl (nF TY)))]) := by
  have hs8 := hw0.1
  have hA64 := hw0.2.1
  have hN0 := hR.1
  have hBK := tf_BK hTr hn
  have hDK := tf_DK hTr hn
  have hp := plc_le KS KL n s A
  have hcb := cbl_le KS KL n s A
  have hfl := fnd_le KS KL n s A
  refine wr_start (by decide) (Nat.le_of_ble_eq_true rfl) ?_
  intro pp ee ss mm below meth cd AA C0 hAA hP hK hD hS hN hnm ls hl
  obtain ⟨hx, hb, hr, hml, hown, hts, hlk⟩ := C0
  have hown : ss.vm.findClass RX6 = some mm.cls := hown
  have hl : lv_has ls 3 [(0, .ref m0), (1, .int (nI j)), (2, .int (nI 0))] := hl
  have hP : va_P D vwCl [(m0, .inr (6, [.ref nw, .ref ps, .int (nI u), .ref im, .ref mk, .int (nI sd), .ref wd, .int (nI s), .ref so, .int (nI q), .ref mb, .ref ma, .ref mf, .ref mw, .ref ml, .ref mu, .int (nI br), .ref wt, .int (nI ww), .ref ty])), (nw, .inl (cI, 241, .inl (nF NW))), (ps, .inl (cI, 4820, .inl (nF PS))), (im, .inl (cI, 484, .inl (nF IM))), (mk, .inl (cZ, 2, .inl (nF MK))), (wd, .inl (cI, 8, .inl (nF WD))), (so, .inl (cI, 24, .inl (nF SO))), (mb, .inl (cI, 24, .inl (nF EB))), (ma, .inl (cI, 24, .inl (nF EA))), (mf, .inl (cI, 24, .inl (nF EF))), (mw, .inl (cI, 24, .inl (nF EW))), (ml, .inl (cI, 24, .inl (nF EL))), (mu, .inl (cI, 24, .inl (oF EU))), (wt, .inl (cI, 200, .inl (oF WT))), (ty, .inl (cI, 8, .inl (nF TY)))] ss.heap := hP
  refine lv_aload_n hx hb dX6_branch_0 rfl (lv_at hl 0 rfl) ?_
  refine lv_iconst (v := oI 0) hx hb dX6_branch_1 (by decide +kernel) ?_
  refine wr_V (As := [.int (oI 0)]) (rest := []) (wc := [(m0, .inr (6, [.ref nw, .ref ps, .int (nI u), .ref im, .ref mk, .int (nI sd), .ref wd, .int (nI s), .ref so, .int (nI q), .ref mb, .ref ma, .ref mf, .ref mw, .ref ml, .ref mu, .int (nI br), .ref wt, .int (nI ww), .ref ty])), (nw, .inl (cI, 241, .inl (nF NW))), (ps, .inl (cI, 4820, .inl (nF PS))), (im, .inl (cI, 484, .inl (nF IM))), (mk, .inl (cZ, 2, .inl (nF MK))), (wd, .inl (cI, 8, .inl (nF WD))), (so, .inl (cI, 24, .inl (nF SO))), (mb, .inl (cI, 24, .inl (nF EB))), (ma, .inl (cI, 24, .inl (nF EA))), (mf, .inl (cI, 24, .inl (nF EF))), (mw, .inl (cI, 24, .inl (nF EW))), (ml, .inl (cI, 24, .inl (nF EL))), (mu, .inl (cI, 24, .inl (oF EU))), (wt, .inl (cI, 200, .inl (oF WT))), (ty, .inl (cI, 8, .inl (nF TY)))]) (wr := []) ⟨hx, hb, hml, hown, hts⟩ (c_X6_findsBut_all l D cI cJ cZ m0 nw ps im mk wd so mb ma mf mw ml mu wt ty NW PS u IM MK sd WD s SO q EB EA EF EW EL EU br WT ww TY KS KL KW n A hn hk hw0 hR hRW hso _) (k_X6_119 hts ⟨Nat.le_of_ble_eq_true rfl, Nat.le_of_ble_eq_true rfl⟩) hK hN hP hD hS hAA 0 rfl rfl rfl [0, 1, 2, 3, 4, 5, 6, 7, 8, 9, 10, 11, 12, 13, 14] [] rfl rfl (by decide) (by decide) (by decide) rfl hl.1 rfl (Nat.le_of_ble_eq_true rfl) dX6_branch_2 ⟨Nat.le_of_ble_eq_true rfl, Nat.le_of_ble_eq_true rfl⟩ (fun v3 w4 H locs hp2 hP hD hS => ?_)
  obtain ⟨rfl, SOh1, EBh1, EAh1, EFh1, EWh1, ELh1, EUh1, WTh1, rfl, hTmh1⟩ := hp2
  have hE : ∀ b, b < n - 1 → EFh1 b ≤ 24 ∧ 1 ≤ EWh1 b ∧ EWh1 b ≤ 24 := fun b hb2 => by have := tm_in hTmh1 (b := b) (by omega); omega
  have hTm := hTmh1
  have hP : va_P D vwCl [(m0, .inr (6, [.ref nw, .ref ps, .int (nI u), .ref im, .ref mk, .int (nI sd), .ref wd, .int (nI s), .ref so, .int (nI n), .ref mb, .ref ma, .ref mf, .ref mw, .ref ml, .ref mu, .int (nI (n - 1)), .ref wt, .int (nI 0), .ref ty])), (nw, .inl (cI, 241, .inl (nF NW))), (ps, .inl (cI, 4820, .inl (nF PS))), (im, .inl (cI, 484, .inl (nF IM))), (mk, .inl (cZ, 2, .inl (nF MK))), (wd, .inl (cI, 8, .inl (nF WD))), (so, .inl (cI, 24, .inl (nF SOh1))), (mb, .inl (cI, 24, .inl (nF EBh1))), (ma, .inl (cI, 24, .inl (nF EAh1))), (mf, .inl (cI, 24, .inl (nF EFh1))), (mw, .inl (cI, 24, .inl (nF EWh1))), (ml, .inl (cI, 24, .inl (nF ELh1))), (mu, .inl (cI, 24, .inl (oF EUh1))), (wt, .inl (cI, 200, .inl (oF WTh1))), (ty, .inl (cI, 8, .inl (nF TY)))] H := hP.sub [0, 1, 2, 3, 4, 5, 6, 7, 8, 9, 10, 11, 12, 13, 14] rfl
  have hD : va_D AA [(m0, .inr (6, [.ref nw, .ref ps, .int (nI u), .ref im, .ref mk, .int (nI sd), .ref wd, .int (nI s), .ref so, .int (nI n), .ref mb, .ref ma, .ref mf, .ref mw, .ref ml, .ref mu, .int (nI (n - 1)), .ref wt, .int (nI 0), .ref ty])), (nw, .inl (cI, 241, .inl (nF NW))), (ps, .inl (cI, 4820, .inl (nF PS))), (im, .inl (cI, 484, .inl (nF IM))), (mk, .inl (cZ, 2, .inl (nF MK))), (wd, .inl (cI, 8, .inl (nF WD))), (so, .inl (cI, 24, .inl (nF SOh1))), (mb, .inl (cI, 24, .inl (nF EBh1))), (ma, .inl (cI, 24, .inl (nF EAh1))), (mf, .inl (cI, 24, .inl (nF EFh1))), (mw, .inl (cI, 24, .inl (nF EWh1))), (ml, .inl (cI, 24, .inl (nF ELh1))), (mu, .inl (cI, 24, .inl (oF EUh1))), (wt, .inl (cI, 200, .inl (oF WTh1))), (ty, .inl (cI, 8, .inl (nF TY)))] := hD.sub [0, 1, 2, 3, 4, 5, 6, 7, 8, 9, 10, 11, 12, 13, 14] (by decide) rfl
  refine lv_iload_n hx hb dX6_branch_5 rfl (lv_at hl 1 rfl) ?_
  refine lv_iconst (v := nI 0) hx hb dX6_branch_6 (by decide +kernel) ?_
  refine lv_aload_n hx hb dX6_branch_7 rfl (lv_at hl 0 rfl) ?_
  refine va_get (D := D) (ci := 6) (v := .int (nI (n - 1))) (C := RX6) (T := TX6) (N := 20) hx hb hts inX6 hown hK hP 0 rfl rfl 16 (by decide) (hts _ mf_X6_97) (fun _ h9 => h9) rfl dX6_branch_8 ?_
  refine lv_iconst (v := nI 1) hx hb dX6_branch_11 (by decide +kernel) ?_
  refine lv_isub hx hb dX6_branch_12 ?_
  refine tq (y := (oI (n - 1))) (by show nI (n - 1) - nI 1 = nI (n - 1) - 1; rw [nI_one]) ?_
  refine ro_S (As := [.int (nI j), .int (nI 0), .int (oI (n - 1))]) (rest := []) ⟨hx, hb, hml, hown, hts⟩ (c_X6_in_o l D cI cJ cZ j 0 (n - 1) (by omega) (by omega) (by omega)) (k_X6_79 hts ⟨Nat.le_of_ble_eq_true rfl, Nat.le_of_ble_eq_true rfl⟩) hK hP [] rfl rfl hl.1 rfl (Nat.le_of_ble_eq_true rfl) dX6_branch_13 ⟨Nat.le_of_ble_eq_true rfl, Nat.le_of_ble_eq_true rfl⟩ ?_
  refine b_if_ne (tgt := 22) hx hb dX6_branch_16 (by decide) (fun c5 => ?_) (fun c5 => ?_)
  ·
    refine lv_iload_n hx hb dX6_branch_22 rfl (lv_at hl 2 rfl) ?_
    refine lv_tableIn (tgt := 60) (off := 37) hx hb dX6_branch_23 (by decide +kernel) (by decide +kernel) (by decide +kernel) (by decide) ?_
    refine lv_aload_n hx hb dX6_branch_60 rfl (lv_at hl 0 rfl) ?_
    refine va_get (D := D) (ci := 6) (v := .ref mb) (C := RX6) (T := TX6) (N := 20) hx hb hts inX6 hown hK hP 0 rfl rfl 10 (by decide) (hts _ mf_X6_29) (fun _ h9 => h9) rfl dX6_branch_61 ?_
    refine lv_iload_n hx hb dX6_branch_64 rfl (lv_at hl 1 rfl) ?_
    refine n_iald hx hb hK hP 7 0 rfl rfl (k := j) (by omega) (by decide) dX6_branch_65 ?_
    refine tq (y := nI (BB j)) (congrArg nI ((tm_eq hTr hTm (show j + 1 < n by omega)).2.2.2.2.1)) ?_
    exact wr_iret hx hb hr hlk hP hD hS dX6_branch_66 (⟨rfl, SOh1, n, EBh1, EAh1, EFh1, EWh1, ELh1, EUh1, n - 1, WTh1, 0, rfl⟩)
  ·
    exact (c5 (by omega)).elim
set_option maxHeartbeats 4000000 in
set_option maxRecDepth 100000 in
theorem c_X6_branch_1 (l : Launch) (D : va_G) (cI cJ cZ : ClassId) (m0 nw ps im mk wd so mb ma mf mw ml mu wt ty : Nat) (NW : Nat → Nat) (PS : Nat → Nat) (u : Nat) (IM : Nat → Nat) (MK : Nat → Nat) (sd : Nat) (WD : Nat → Nat) (s : Nat) (SO : Nat → Nat) (q : Nat) (EB : Nat → Nat) (EA : Nat → Nat) (EF : Nat → Nat) (EW : Nat → Nat) (EL : Nat → Nat) (EU : Nat → Nat) (br : Nat) (WT : Nat → Nat) (ww : Nat) (TY : Nat → Nat) (KS KL KW : Nat → Nat) (n A : Nat) (hn : n ≤ 24) (hk : ∀ k, k < n → Wf (KS k) (KL k)) (hw0 : Wf s A) (hR : RN NW KS KL KW n) (hRW : RW WD s A) (hso : Srt KS KL n) (BB BD BM BL BF BA BK : Nat → Nat) (hTr : TrX (gapF KS KL) n BB BD BM BL BF BA BK) (hv : ∀ k, k < n → KW k ≤ 9999) (j : Nat) (hj : j < n - 1) (sz : Nat) : WR l yX6_branch cX6_branch 3 (some .int) (rmN 5 116) D (ty3 cI cJ cZ) [.ref m0, .int (nI j), .int (nI 1)] [(m0, .inr (6, [.ref nw, .ref ps, .int (nI u), .ref im, .ref mk, .int (nI sd), .ref wd, .int (nI s), .ref so, .int (nI q), .ref mb, .ref ma, .ref mf, .ref mw, .ref ml, .ref mu, .int (nI br), .ref wt, .int (nI ww), .ref ty])), (nw, .inl (cI, 241, .inl (nF NW))), (ps, .inl (cI, 4820, .inl (nF PS))), (im, .inl (cI, 484, .inl (nF IM))), (mk, .inl (cZ, 2, .inl (nF MK))), (wd, .inl (cI, 8, .inl (nF WD))), (so, .inl (cI, 24, .inl (nF SO))), (mb, .inl (cI, 24, .inl (nF EB))), (ma, .inl (cI, 24, .inl (nF EA))), (mf, .inl (cI, 24, .inl (nF EF))), (mw, .inl (cI, 24, .inl (nF EW))), (ml, .inl (cI, 24, .inl (nF EL))), (mu, .inl (cI, 24, .inl (oF EU))), (wt, .inl (cI, 200, .inl (oF WT))), (ty, .inl (cI, 8, .inl (nF TY)))] sz (fun x w => x = some (.int (nI (BD j))) ∧ ∃ (SO : Nat → Nat) (q : Nat) (EB EA EF EW EL EU : Nat → Nat) (br : Nat) (WT : Nat → Nat) (ww : Nat), w = [(m0, .inr (6, [.ref nw, .ref ps, .int (nI u), .ref im, .ref mk, .int (nI sd), .ref wd, .int (nI s), .ref so, .int (nI q), .ref mb, .ref ma, .ref mf, .ref mw, .ref ml, .ref mu, .int (nI br), .ref wt, .int (nI ww), .ref ty])), (nw, .inl (cI, 241, .inl (nF NW))), (ps, .inl (cI, 4820, .inl (nF PS))), (im, .inl (cI, 484, .inl (nF IM))), (mk, .inl (cZ, 2, .inl (nF MK))), (wd, .inl (cI, 8, .inl (nF WD))), (so, .inl (cI, 24, .inl (nF SO))), (mb, .inl (cI, 24, .inl (nF EB))), (ma, .inl (cI, 24, .inl (nF EA))), (mf, .inl (cI, 24, .inl (nF EF))), (mw, .inl (cI, 24, .inl (nF EW))), (ml, .inl (cI, 24, .inl (nF EL))), (mu, .inl (cI, 24, .inl (oF EU))), (wt, .inl (cI, 200, .inl (oF WT))), (ty, .inl (cI, 8, .inl (nF TY)))]) := by
  have hs8 := hw0.1
  have hA64 := hw0.2.1
  have hN0 := hR.1
  have hBK := tf_BK hTr hn
  have hDK := tf_DK hTr hn
  have hp := plc_le KS KL n s A
  have hcb := cbl_le KS KL n s A
  have hfl := fnd_le KS KL n s A
  refine wr_start (by decide) (Nat.le_of_ble_eq_true rfl) ?_
  intro pp ee ss mm below meth cd AA C0 hAA hP hK hD hS hN hnm ls hl
  obtain ⟨hx, hb, hr, hml, hown, hts, hlk⟩ := C0
  have hown : ss.vm.findClass RX6 = some mm.cls := hown
  have hl : lv_has ls 3 [(0, .ref m0), (1, .int (nI j)), (2, .int (nI 1))] := hl
  have hP : va_P D vwCl [(m0, .inr (6, [.ref nw, .ref ps, .int (nI u), .ref im, .ref mk, .int (nI sd), .ref wd, .int (nI s), .ref so, .int (nI q), .ref mb, .ref ma, .ref mf, .ref mw, .ref ml, .ref mu, .int (nI br), .ref wt, .int (nI ww), .ref ty])), (nw, .inl (cI, 241, .inl (nF NW))), (ps, .inl (cI, 4820, .inl (nF PS))), (im, .inl (cI, 484, .inl (nF IM))), (mk, .inl (cZ, 2, .inl (nF MK))), (wd, .inl (cI, 8, .inl (nF WD))), (so, .inl (cI, 24, .inl (nF SO))), (mb, .inl (cI, 24, .inl (nF EB))), (ma, .inl (cI, 24, .inl (nF EA))), (mf, .inl (cI, 24, .inl (nF EF))), (mw, .inl (cI, 24, .inl (nF EW))), (ml, .inl (cI, 24, .inl (nF EL))), (mu, .inl (cI, 24, .inl (oF EU))), (wt, .inl (cI, 200, .inl (oF WT))), (ty, .inl (cI, 8, .inl (nF TY)))] ss.heap := hP
  refine lv_aload_n hx hb dX6_branch_0 rfl (lv_at hl 0 rfl) ?_
  refine lv_iconst (v := oI 0) hx hb dX6_branch_1 (by decide +kernel) ?_
  refine wr_V (As := [.int (oI 0)]) (rest := []) (wc := [(m0, .inr (6, [.ref nw, .ref ps, .int (nI u), .ref im, .ref mk, .int (nI sd), .ref wd, .int (nI s), .ref so, .int (nI q), .ref mb, .ref ma, .ref mf, .ref mw, .ref ml, .ref mu, .int (nI br), .ref wt, .int (nI ww), .ref ty])), (nw, .inl (cI, 241, .inl (nF NW))), (ps, .inl (cI, 4820, .inl (nF PS))), (im, .inl (cI, 484, .inl (nF IM))), (mk, .inl (cZ, 2, .inl (nF MK))), (wd, .inl (cI, 8, .inl (nF WD))), (so, .inl (cI, 24, .inl (nF SO))), (mb, .inl (cI, 24, .inl (nF EB))), (ma, .inl (cI, 24, .inl (nF EA))), (mf, .inl (cI, 24, .inl (nF EF))), (mw, .inl (cI, 24, .inl (nF EW))), (ml, .inl (cI, 24, .inl (nF EL))), (mu, .inl (cI, 24, .inl (oF EU))), (wt, .inl (cI, 200, .inl (oF WT))), (ty, .inl (cI, 8, .inl (nF TY)))]) (wr := []) ⟨hx, hb, hml, hown, hts⟩ (c_X6_findsBut_all l D cI cJ cZ m0 nw ps im mk wd so mb ma mf mw ml mu wt ty NW PS u IM MK sd WD s SO q EB EA EF EW EL EU br WT ww TY KS KL KW n A hn hk hw0 hR hRW hso _) (k_X6_119 hts ⟨Nat.le_of_ble_eq_true rfl, Nat.le_of_ble_eq_true rfl⟩) hK hN hP hD hS hAA 0 rfl rfl rfl [0, 1, 2, 3, 4, 5, 6, 7, 8, 9, 10, 11, 12, 13, 14] [] rfl rfl (by decide) (by decide) (by decide) rfl hl.1 rfl (Nat.le_of_ble_eq_true rfl) dX6_branch_2 ⟨Nat.le_of_ble_eq_true rfl, Nat.le_of_ble_eq_true rfl⟩ (fun v3 w4 H locs hp2 hP hD hS => ?_)
  obtain ⟨rfl, SOh1, EBh1, EAh1, EFh1, EWh1, ELh1, EUh1, WTh1, rfl, hTmh1⟩ := hp2
  have hE : ∀ b, b < n - 1 → EFh1 b ≤ 24 ∧ 1 ≤ EWh1 b ∧ EWh1 b ≤ 24 := fun b hb2 => by have := tm_in hTmh1 (b := b) (by omega); omega
  have hTm := hTmh1
  have hP : va_P D vwCl [(m0, .inr (6, [.ref nw, .ref ps, .int (nI u), .ref im, .ref mk, .int (nI sd), .ref wd, .int (nI s), .ref so, .int (nI n), .ref mb, .ref ma, .ref mf, .ref mw, .ref ml, .ref mu, .int (nI (n - 1)), .ref wt, .int (nI 0), .ref ty])), (nw, .inl (cI, 241, .inl (nF NW))), (ps, .inl (cI, 4820, .inl (nF PS))), (im, .inl (cI, 484, .inl (nF IM))), (mk, .inl (cZ, 2, .inl (nF MK))), (wd, .inl (cI, 8, .inl (nF WD))), (so, .inl (cI, 24, .inl (nF SOh1))), (mb, .inl (cI, 24, .inl (nF EBh1))), (ma, .inl (cI, 24, .inl (nF EAh1))), (mf, .inl (cI, 24, .inl (nF EFh1))), (mw, .inl (cI, 24, .inl (nF EWh1))), (ml, .inl (cI, 24, .inl (nF ELh1))), (mu, .inl (cI, 24, .inl (oF EUh1))), (wt, .inl (cI, 200, .inl (oF WTh1))), (ty, .inl (cI, 8, .inl (nF TY)))] H := hP.sub [0, 1, 2, 3, 4, 5, 6, 7, 8, 9, 10, 11, 12, 13, 14] rfl
  have hD : va_D AA [(m0, .inr (6, [.ref nw, .ref ps, .int (nI u), .ref im, .ref mk, .int (nI sd), .ref wd, .int (nI s), .ref so, .int (nI n), .ref mb, .ref ma, .ref mf, .ref mw, .ref ml, .ref mu, .int (nI (n - 1)), .ref wt, .int (nI 0), .ref ty])), (nw, .inl (cI, 241, .inl (nF NW))), (ps, .inl (cI, 4820, .inl (nF PS))), (im, .inl (cI, 484, .inl (nF IM))), (mk, .inl (cZ, 2, .inl (nF MK))), (wd, .inl (cI, 8, .inl (nF WD))), (so, .inl (cI, 24, .inl (nF SOh1))), (mb, .inl (cI, 24, .inl (nF EBh1))), (ma, .inl (cI, 24, .inl (nF EAh1))), (mf, .inl (cI, 24, .inl (nF EFh1))), (mw, .inl (cI, 24, .inl (nF EWh1))), (ml, .inl (cI, 24, .inl (nF ELh1))), (mu, .inl (cI, 24, .inl (oF EUh1))), (wt, .inl (cI, 200, .inl (oF WTh1))), (ty, .inl (cI, 8, .inl (nF TY)))] := hD.sub [0, 1, 2, 3, 4, 5, 6, 7, 8, 9, 10, 11, 12, 13, 14] (by decide) rfl
  refine lv_iload_n hx hb dX6_branch_5 rfl (lv_at hl 1 rfl) ?_
  refine lv_iconst (v := nI 0) hx hb dX6_branch_6 (by decide +kernel) ?_
  refine lv_aload_n hx hb dX6_branch_7 rfl (lv_at hl 0 rfl) ?_
  refine va_get (D := D) (ci := 6) (v := .int (nI (n - 1))) (C := RX6) (T := TX6) (N := 20) hx hb hts inX6 hown hK hP 0 rfl rfl 16 (by decide) (hts _ mf_X6_97) (fun _ h9 => h9) rfl dX6_branch_8 ?_
  refine lv_iconst (v := nI 1) hx hb dX6_branch_11 (by decide +kernel) ?_
  refine lv_isub hx hb dX6_branch_12 ?_
  refine tq (y := (oI (n - 1))) (by show nI (n - 1) - nI 1 = nI (n - 1) - 1; rw [nI_one]) ?_
  refine ro_S (As := [.int (nI j), .int (nI 0), .int (oI (n - 1))]) (rest := []) ⟨hx, hb, hml, hown, hts⟩ (c_X6_in_o l D cI cJ cZ j 0 (n - 1) (by omega) (by omega) (by omega)) (k_X6_79 hts ⟨Nat.le_of_ble_eq_true rfl, Nat.le_of_ble_eq_true rfl⟩) hK hP [] rfl rfl hl.1 rfl (Nat.le_of_ble_eq_true rfl) dX6_branch_13 ⟨Nat.le_of_ble_eq_true rfl, Nat.le_of_ble_eq_true rfl⟩ ?_
  refine b_if_ne (tgt := 22) hx hb dX6_branch_16 (by decide) (fun c5 => ?_) (fun c5 => ?_)
  ·
    refine lv_iload_n hx hb dX6_branch_22 rfl (lv_at hl 2 rfl) ?_
    refine lv_tableIn (tgt := 67) (off := 44) hx hb dX6_branch_23 (by decide +kernel) (by decide +kernel) (by decide +kernel) (by decide) ?_
    refine lv_aload_n hx hb dX6_branch_67 rfl (lv_at hl 0 rfl) ?_
    refine va_get (D := D) (ci := 6) (v := .ref ma) (C := RX6) (T := TX6) (N := 20) hx hb hts inX6 hown hK hP 0 rfl rfl 11 (by decide) (hts _ mf_X6_32) (fun _ h9 => h9) rfl dX6_branch_68 ?_
    refine lv_iload_n hx hb dX6_branch_71 rfl (lv_at hl 1 rfl) ?_
    refine n_iald hx hb hK hP 8 0 rfl rfl (k := j) (by omega) (by decide) dX6_branch_72 ?_
    refine tq (y := nI (BD j)) (congrArg nI ((tm_eq hTr hTm (show j + 1 < n by omega)).2.2.1)) ?_
    exact wr_iret hx hb hr hlk hP hD hS dX6_branch_73 (⟨rfl, SOh1, n, EBh1, EAh1, EFh1, EWh1, ELh1, EUh1, n - 1, WTh1, 0, rfl⟩)
  ·
    exact (c5 (by omega)).elim
set_option maxHeartbeats 4000000 in
set_option maxRecDepth 100000 in
theorem c_X6_branch_2 (l : Launch) (D : va_G) (cI cJ cZ : ClassId) (m0 nw ps im mk wd so mb ma mf mw ml mu wt ty : Nat) (NW : Nat → Nat) (PS : Nat → Nat) (u : Nat) (IM : Nat → Nat) (MK : Nat → Nat) (sd : Nat) (WD : Nat → Nat) (s : Nat) (SO : Nat → Nat) (q : Nat) (EB : Nat → Nat) (EA : Nat → Nat) (EF : Nat → Nat) (EW : Nat → Nat) (EL : Nat → Nat) (EU : Nat → Nat) (br : Nat) (WT : Nat → Nat) (ww : Nat) (TY : Nat → Nat) (KS KL KW : Nat → Nat) (n A : Nat) (hn : n ≤ 24) (hk : ∀ k, k < n → Wf (KS k) (KL k)) (hw0 : Wf s A) (hR : RN NW KS KL KW n) (hRW : RW WD s A) (hso : Srt KS KL n) (BB BD BM BL BF BA BK : Nat → Nat) (hTr : TrX (gapF KS KL) n BB BD BM BL BF BA BK) (hv : ∀ k, k < n → KW k ≤ 9999) (j : Nat) (hj : j < n - 1) (sz : Nat) : WR l yX6_branch cX6_branch 3 (some .int) (rmN 5 116) D (ty3 cI cJ cZ) [.ref m0, .int (nI j), .int (nI 2)] [(m0, .inr (6, [.ref nw, .ref ps, .int (nI u), .ref im, .ref mk, .int (nI sd), .ref wd, .int (nI s), .ref so, .int (nI q), .ref mb, .ref ma, .ref mf, .ref mw, .ref ml, .ref mu, .int (nI br), .ref wt, .int (nI ww), .ref ty])), (nw, .inl (cI, 241, .inl (nF NW))), (ps, .inl (cI, 4820, .inl (nF PS))), (im, .inl (cI, 484, .inl (nF IM))), (mk, .inl (cZ, 2, .inl (nF MK))), (wd, .inl (cI, 8, .inl (nF WD))), (so, .inl (cI, 24, .inl (nF SO))), (mb, .inl (cI, 24, .inl (nF EB))), (ma, .inl (cI, 24, .inl (nF EA))), (mf, .inl (cI, 24, .inl (nF EF))), (mw, .inl (cI, 24, .inl (nF EW))), (ml, .inl (cI, 24, .inl (nF EL))), (mu, .inl (cI, 24, .inl (oF EU))), (wt, .inl (cI, 200, .inl (oF WT))), (ty, .inl (cI, 8, .inl (nF TY)))] sz (fun x w => x = some (.int (nI (BM j))) ∧ ∃ (SO : Nat → Nat) (q : Nat) (EB EA EF EW EL EU : Nat → Nat) (br : Nat) (WT : Nat → Nat) (ww : Nat), w = [(m0, .inr (6, [.ref nw, .ref ps, .int (nI u), .ref im, .ref mk, .int (nI sd), .ref wd, .int (nI s), .ref so, .int (nI q), .ref mb, .ref ma, .ref mf, .ref mw, .ref ml, .ref mu, .int (nI br), .ref wt, .int (nI ww), .ref ty])), (nw, .inl (cI, 241, .inl (nF NW))), (ps, .inl (cI, 4820, .inl (nF PS))), (im, .inl (cI, 484, .inl (nF IM))), (mk, .inl (cZ, 2, .inl (nF MK))), (wd, .inl (cI, 8, .inl (nF WD))), (so, .inl (cI, 24, .inl (nF SO))), (mb, .inl (cI, 24, .inl (nF EB))), (ma, .inl (cI, 24, .inl (nF EA))), (mf, .inl (cI, 24, .inl (nF EF))), (mw, .inl (cI, 24, .inl (nF EW))), (ml, .inl (cI, 24, .inl (nF EL))), (mu, .inl (cI, 24, .inl (oF EU))), (wt, .inl (cI, 200, .inl (oF WT))), (ty, .inl (cI, 8, .inl (nF TY)))]) := by
  have hs8 := hw0.1
  have hA64 := hw0.2.1
  have hN0 := hR.1
  have hBK := tf_BK hTr hn
  have hDK := tf_DK hTr hn
  have hp := plc_le KS KL n s A
  have hcb := cbl_le KS KL n s A
  have hfl := fnd_le KS KL n s A
  refine wr_start (by decide) (Nat.le_of_ble_eq_true rfl) ?_
  intro pp ee ss mm below meth cd AA C0 hAA hP hK hD hS hN hnm ls hl
  obtain ⟨hx, hb, hr, hml, hown, hts, hlk⟩ := C0
  have hown : ss.vm.findClass RX6 = some mm.cls := hown
  have hl : lv_has ls 3 [(0, .ref m0), (1, .int (nI j)), (2, .int (nI 2))] := hl
  have hP : va_P D vwCl [(m0, .inr (6, [.ref nw, .ref ps, .int (nI u), .ref im, .ref mk, .int (nI sd), .ref wd, .int (nI s), .ref so, .int (nI q), .ref mb, .ref ma, .ref mf, .ref mw, .ref ml, .ref mu, .int (nI br), .ref wt, .int (nI ww), .ref ty])), (nw, .inl (cI, 241, .inl (nF NW))), (ps, .inl (cI, 4820, .inl (nF PS))), (im, .inl (cI, 484, .inl (nF IM))), (mk, .inl (cZ, 2, .inl (nF MK))), (wd, .inl (cI, 8, .inl (nF WD))), (so, .inl (cI, 24, .inl (nF SO))), (mb, .inl (cI, 24, .inl (nF EB))), (ma, .inl (cI, 24, .inl (nF EA))), (mf, .inl (cI, 24, .inl (nF EF))), (mw, .inl (cI, 24, .inl (nF EW))), (ml, .inl (cI, 24, .inl (nF EL))), (mu, .inl (cI, 24, .inl (oF EU))), (wt, .inl (cI, 200, .inl (oF WT))), (ty, .inl (cI, 8, .inl (nF TY)))] ss.heap := hP
  refine lv_aload_n hx hb dX6_branch_0 rfl (lv_at hl 0 rfl) ?_
  refine lv_iconst (v := oI 0) hx hb dX6_branch_1 (by decide +kernel) ?_
  refine wr_V (As := [.int (oI 0)]) (rest := []) (wc := [(m0, .inr (6, [.ref nw, .ref ps, .int (nI u), .ref im, .ref mk, .int (nI sd), .ref wd, .int (nI s), .ref so, .int (nI q), .ref mb, .ref ma, .ref mf, .ref mw, .ref ml, .ref mu, .int (nI br), .ref wt, .int (nI ww), .ref ty])), (nw, .inl (cI, 241, .inl (nF NW))), (ps, .inl (cI, 4820, .inl (nF PS))), (im, .inl (cI, 484, .inl (nF IM))), (mk, .inl (cZ, 2, .inl (nF MK))), (wd, .inl (cI, 8, .inl (nF WD))), (so, .inl (cI, 24, .inl (nF SO))), (mb, .inl (cI, 24, .inl (nF EB))), (ma, .inl (cI, 24, .inl (nF EA))), (mf, .inl (cI, 24, .inl (nF EF))), (mw, .inl (cI, 24, .inl (nF EW))), (ml, .inl (cI, 24, .inl (nF EL))), (mu, .inl (cI, 24, .inl (oF EU))), (wt, .inl (cI, 200, .inl (oF WT))), (ty, .inl (cI, 8, .inl (nF TY)))]) (wr := []) ⟨hx, hb, hml, hown, hts⟩ (c_X6_findsBut_all l D cI cJ cZ m0 nw ps im mk wd so mb ma mf mw ml mu wt ty NW PS u IM MK sd WD s SO q EB EA EF EW EL EU br WT ww TY KS KL KW n A hn hk hw0 hR hRW hso _) (k_X6_119 hts ⟨Nat.le_of_ble_eq_true rfl, Nat.le_of_ble_eq_true rfl⟩) hK hN hP hD hS hAA 0 rfl rfl rfl [0, 1, 2, 3, 4, 5, 6, 7, 8, 9, 10, 11, 12, 13, 14] [] rfl rfl (by decide) (by decide) (by decide) rfl hl.1 rfl (Nat.le_of_ble_eq_true rfl) dX6_branch_2 ⟨Nat.le_of_ble_eq_true rfl, Nat.le_of_ble_eq_true rfl⟩ (fun v3 w4 H locs hp2 hP hD hS => ?_)
  obtain ⟨rfl, SOh1, EBh1, EAh1, EFh1, EWh1, ELh1, EUh1, WTh1, rfl, hTmh1⟩ := hp2
  have hE : ∀ b, b < n - 1 → EFh1 b ≤ 24 ∧ 1 ≤ EWh1 b ∧ EWh1 b ≤ 24 := fun b hb2 => by have := tm_in hTmh1 (b := b) (by omega); omega
  have hTm := hTmh1
  have hP : va_P D vwCl [(m0, .inr (6, [.ref nw, .ref ps, .int (nI u), .ref im, .ref mk, .int (nI sd), .ref wd, .int (nI s), .ref so, .int (nI n), .ref mb, .ref ma, .ref mf, .ref mw, .ref ml, .ref mu, .int (nI (n - 1)), .ref wt, .int (nI 0), .ref ty])), (nw, .inl (cI, 241, .inl (nF NW))), (ps, .inl (cI, 4820, .inl (nF PS))), (im, .inl (cI, 484, .inl (nF IM))), (mk, .inl (cZ, 2, .inl (nF MK))), (wd, .inl (cI, 8, .inl (nF WD))), (so, .inl (cI, 24, .inl (nF SOh1))), (mb, .inl (cI, 24, .inl (nF EBh1))), (ma, .inl (cI, 24, .inl (nF EAh1))), (mf, .inl (cI, 24, .inl (nF EFh1))), (mw, .inl (cI, 24, .inl (nF EWh1))), (ml, .inl (cI, 24, .inl (nF ELh1))), (mu, .inl (cI, 24, .inl (oF EUh1))), (wt, .inl (cI, 200, .inl (oF WTh1))), (ty, .inl (cI, 8, .inl (nF TY)))] H := hP.sub [0, 1, 2, 3, 4, 5, 6, 7, 8, 9, 10, 11, 12, 13, 14] rfl
  have hD : va_D AA [(m0, .inr (6, [.ref nw, .ref ps, .int (nI u), .ref im, .ref mk, .int (nI sd), .ref wd, .int (nI s), .ref so, .int (nI n), .ref mb, .ref ma, .ref mf, .ref mw, .ref ml, .ref mu, .int (nI (n - 1)), .ref wt, .int (nI 0), .ref ty])), (nw, .inl (cI, 241, .inl (nF NW))), (ps, .inl (cI, 4820, .inl (nF PS))), (im, .inl (cI, 484, .inl (nF IM))), (mk, .inl (cZ, 2, .inl (nF MK))), (wd, .inl (cI, 8, .inl (nF WD))), (so, .inl (cI, 24, .inl (nF SOh1))), (mb, .inl (cI, 24, .inl (nF EBh1))), (ma, .inl (cI, 24, .inl (nF EAh1))), (mf, .inl (cI, 24, .inl (nF EFh1))), (mw, .inl (cI, 24, .inl (nF EWh1))), (ml, .inl (cI, 24, .inl (nF ELh1))), (mu, .inl (cI, 24, .inl (oF EUh1))), (wt, .inl (cI, 200, .inl (oF WTh1))), (ty, .inl (cI, 8, .inl (nF TY)))] := hD.sub [0, 1, 2, 3, 4, 5, 6, 7, 8, 9, 10, 11, 12, 13, 14] (by decide) rfl
  refine lv_iload_n hx hb dX6_branch_5 rfl (lv_at hl 1 rfl) ?_
  refine lv_iconst (v := nI 0) hx hb dX6_branch_6 (by decide +kernel) ?_
  refine lv_aload_n hx hb dX6_branch_7 rfl (lv_at hl 0 rfl) ?_
  refine va_get (D := D) (ci := 6) (v := .int (nI (n - 1))) (C := RX6) (T := TX6) (N := 20) hx hb hts inX6 hown hK hP 0 rfl rfl 16 (by decide) (hts _ mf_X6_97) (fun _ h9 => h9) rfl dX6_branch_8 ?_
  refine lv_iconst (v := nI 1) hx hb dX6_branch_11 (by decide +kernel) ?_
  refine lv_isub hx hb dX6_branch_12 ?_
  refine tq (y := (oI (n - 1))) (by show nI (n - 1) - nI 1 = nI (n - 1) - 1; rw [nI_one]) ?_
  refine ro_S (As := [.int (nI j), .int (nI 0), .int (oI (n - 1))]) (rest := []) ⟨hx, hb, hml, hown, hts⟩ (c_X6_in_o l D cI cJ cZ j 0 (n - 1) (by omega) (by omega) (by omega)) (k_X6_79 hts ⟨Nat.le_of_ble_eq_true rfl, Nat.le_of_ble_eq_true rfl⟩) hK hP [] rfl rfl hl.1 rfl (Nat.le_of_ble_eq_true rfl) dX6_branch_13 ⟨Nat.le_of_ble_eq_true rfl, Nat.le_of_ble_eq_true rfl⟩ ?_
  refine b_if_ne (tgt := 22) hx hb dX6_branch_16 (by decide) (fun c5 => ?_) (fun c5 => ?_)
  ·
    refine lv_iload_n hx hb dX6_branch_22 rfl (lv_at hl 2 rfl) ?_
    refine lv_tableIn (tgt := 74) (off := 51) hx hb dX6_branch_23 (by decide +kernel) (by decide +kernel) (by decide +kernel) (by decide) ?_
    refine lv_aload_n hx hb dX6_branch_74 rfl (lv_at hl 0 rfl) ?_
    refine va_get (D := D) (ci := 6) (v := .ref mw) (C := RX6) (T := TX6) (N := 20) hx hb hts inX6 hown hK hP 0 rfl rfl 13 (by decide) (hts _ mf_X6_38) (fun _ h9 => h9) rfl dX6_branch_75 ?_
    refine lv_iload_n hx hb dX6_branch_78 rfl (lv_at hl 1 rfl) ?_
    refine n_iald hx hb hK hP 10 0 rfl rfl (k := j) (by omega) (by decide) dX6_branch_79 ?_
    refine tq (y := nI (BM j)) (congrArg nI ((tm_eq hTr hTm (show j + 1 < n by omega)).2.1)) ?_
    exact wr_iret hx hb hr hlk hP hD hS dX6_branch_80 (⟨rfl, SOh1, n, EBh1, EAh1, EFh1, EWh1, ELh1, EUh1, n - 1, WTh1, 0, rfl⟩)
  ·
    exact (c5 (by omega)).elim
set_option maxHeartbeats 4000000 in
set_option maxRecDepth 100000 in
theorem c_X6_branch_3 (l : Launch) (D : va_G) (cI cJ cZ : ClassId) (m0 nw ps im mk wd so mb ma mf mw ml mu wt ty : Nat) (NW : Nat → Nat) (PS : Nat → Nat) (u : Nat) (IM : Nat → Nat) (MK : Nat → Nat) (sd : Nat) (WD : Nat → Nat) (s : Nat) (SO : Nat → Nat) (q : Nat) (EB : Nat → Nat) (EA : Nat → Nat) (EF : Nat → Nat) (EW : Nat → Nat) (EL : Nat → Nat) (EU : Nat → Nat) (br : Nat) (WT : Nat → Nat) (ww : Nat) (TY : Nat → Nat) (KS KL KW : Nat → Nat) (n A : Nat) (hn : n ≤ 24) (hk : ∀ k, k < n → Wf (KS k) (KL k)) (hw0 : Wf s A) (hR : RN NW KS KL KW n) (hRW : RW WD s A) (hso : Srt KS KL n) (BB BD BM BL BF BA BK : Nat → Nat) (hTr : TrX (gapF KS KL) n BB BD BM BL BF BA BK) (hv : ∀ k, k < n → KW k ≤ 9999) (j : Nat) (hj : j < n - 1) (sz : Nat) : WR l yX6_branch cX6_branch 3 (some .int) (rmN 5 116) D (ty3 cI cJ cZ) [.ref m0, .int (nI j), .int (nI 3)] [(m0, .inr (6, [.ref nw, .ref ps, .int (nI u), .ref im, .ref mk, .int (nI sd), .ref wd, .int (nI s), .ref so, .int (nI q), .ref mb, .ref ma, .ref mf, .ref mw, .ref ml, .ref mu, .int (nI br), .ref wt, .int (nI ww), .ref ty])), (nw, .inl (cI, 241, .inl (nF NW))), (ps, .inl (cI, 4820, .inl (nF PS))), (im, .inl (cI, 484, .inl (nF IM))), (mk, .inl (cZ, 2, .inl (nF MK))), (wd, .inl (cI, 8, .inl (nF WD))), (so, .inl (cI, 24, .inl (nF SO))), (mb, .inl (cI, 24, .inl (nF EB))), (ma, .inl (cI, 24, .inl (nF EA))), (mf, .inl (cI, 24, .inl (nF EF))), (mw, .inl (cI, 24, .inl (nF EW))), (ml, .inl (cI, 24, .inl (nF EL))), (mu, .inl (cI, 24, .inl (oF EU))), (wt, .inl (cI, 200, .inl (oF WT))), (ty, .inl (cI, 8, .inl (nF TY)))] sz (fun x w => x = some (.int (nI (BL j))) ∧ ∃ (SO : Nat → Nat) (q : Nat) (EB EA EF EW EL EU : Nat → Nat) (br : Nat) (WT : Nat → Nat) (ww : Nat), w = [(m0, .inr (6, [.ref nw, .ref ps, .int (nI u), .ref im, .ref mk, .int (nI sd), .ref wd, .int (nI s), .ref so, .int (nI q), .ref mb, .ref ma, .ref mf, .ref mw, .ref ml, .ref mu, .int (nI br), .ref wt, .int (nI ww), .ref ty])), (nw, .inl (cI, 241, .inl (nF NW))), (ps, .inl (cI, 4820, .inl (nF PS))), (im, .inl (cI, 484, .inl (nF IM))), (mk, .inl (cZ, 2, .inl (nF MK))), (wd, .inl (cI, 8, .inl (nF WD))), (so, .inl (cI, 24, .inl (nF SO))), (mb, .inl (cI, 24, .inl (nF EB))), (ma, .inl (cI, 24, .inl (nF EA))), (mf, .inl (cI, 24, .inl (nF EF))), (mw, .inl (cI, 24, .inl (nF EW))), (ml, .inl (cI, 24, .inl (nF EL))), (mu, .inl (cI, 24, .inl (oF EU))), (wt, .inl (cI, 200, .inl (oF WT))), (ty, .inl (cI, 8, .inl (nF TY)))]) := by
  have hs8 := hw0.1
  have hA64 := hw0.2.1
  have hN0 := hR.1
  have hBK := tf_BK hTr hn
  have hDK := tf_DK hTr hn
  have hp := plc_le KS KL n s A
  have hcb := cbl_le KS KL n s A
  have hfl := fnd_le KS KL n s A
  refine wr_start (by decide) (Nat.le_of_ble_eq_true rfl) ?_
  intro pp ee ss mm below meth cd AA C0 hAA hP hK hD hS hN hnm ls hl
  obtain ⟨hx, hb, hr, hml, hown, hts, hlk⟩ := C0
  have hown : ss.vm.findClass RX6 = some mm.cls := hown
  have hl : lv_has ls 3 [(0, .ref m0), (1, .int (nI j)), (2, .int (nI 3))] := hl
  have hP : va_P D vwCl [(m0, .inr (6, [.ref nw, .ref ps, .int (nI u), .ref im, .ref mk, .int (nI sd), .ref wd, .int (nI s), .ref so, .int (nI q), .ref mb, .ref ma, .ref mf, .ref mw, .ref ml, .ref mu, .int (nI br), .ref wt, .int (nI ww), .ref ty])), (nw, .inl (cI, 241, .inl (nF NW))), (ps, .inl (cI, 4820, .inl (nF PS))), (im, .inl (cI, 484, .inl (nF IM))), (mk, .inl (cZ, 2, .inl (nF MK))), (wd, .inl (cI, 8, .inl (nF WD))), (so, .inl (cI, 24, .inl (nF SO))), (mb, .inl (cI, 24, .inl (nF EB))), (ma, .inl (cI, 24, .inl (nF EA))), (mf, .inl (cI, 24, .inl (nF EF))), (mw, .inl (cI, 24, .inl (nF EW))), (ml, .inl (cI, 24, .inl (nF EL))), (mu, .inl (cI, 24, .inl (oF EU))), (wt, .inl (cI, 200, .inl (oF WT))), (ty, .inl (cI, 8, .inl (nF TY)))] ss.heap := hP
  refine lv_aload_n hx hb dX6_branch_0 rfl (lv_at hl 0 rfl) ?_
  refine lv_iconst (v := oI 0) hx hb dX6_branch_1 (by decide +kernel) ?_
  refine wr_V (As := [.int (oI 0)]) (rest := []) (wc := [(m0, .inr (6, [.ref nw, .ref ps, .int (nI u), .ref im, .ref mk, .int (nI sd), .ref wd, .int (nI s), .ref so, .int (nI q), .ref mb, .ref ma, .ref mf, .ref mw, .ref ml, .ref mu, .int (nI br), .ref wt, .int (nI ww), .ref ty])), (nw, .inl (cI, 241, .inl (nF NW))), (ps, .inl (cI, 4820, .inl (nF PS))), (im, .inl (cI, 484, .inl (nF IM))), (mk, .inl (cZ, 2, .inl (nF MK))), (wd, .inl (cI, 8, .inl (nF WD))), (so, .inl (cI, 24, .inl (nF SO))), (mb, .inl (cI, 24, .inl (nF EB))), (ma, .inl (cI, 24, .inl (nF EA))), (mf, .inl (cI, 24, .inl (nF EF))), (mw, .inl (cI, 24, .inl (nF EW))), (ml, .inl (cI, 24, .inl (nF EL))), (mu, .inl (cI, 24, .inl (oF EU))), (wt, .inl (cI, 200, .inl (oF WT))), (ty, .inl (cI, 8, .inl (nF TY)))]) (wr := []) ⟨hx, hb, hml, hown, hts⟩ (c_X6_findsBut_all l D cI cJ cZ m0 nw ps im mk wd so mb ma mf mw ml mu wt ty NW PS u IM MK sd WD s SO q EB EA EF EW EL EU br WT ww TY KS KL KW n A hn hk hw0 hR hRW hso _) (k_X6_119 hts ⟨Nat.le_of_ble_eq_true rfl, Nat.le_of_ble_eq_true rfl⟩) hK hN hP hD hS hAA 0 rfl rfl rfl [0, 1, 2, 3, 4, 5, 6, 7, 8, 9, 10, 11, 12, 13, 14] [] rfl rfl (by decide) (by decide) (by decide) rfl hl.1 rfl (Nat.le_of_ble_eq_true rfl) dX6_branch_2 ⟨Nat.le_of_ble_eq_true rfl, Nat.le_of_ble_eq_true rfl⟩ (fun v3 w4 H locs hp2 hP hD hS => ?_)
  obtain ⟨rfl, SOh1, EBh1, EAh1, EFh1, EWh1, ELh1, EUh1, WTh1, rfl, hTmh1⟩ := hp2
  have hE : ∀ b, b < n - 1 → EFh1 b ≤ 24 ∧ 1 ≤ EWh1 b ∧ EWh1 b ≤ 24 := fun b hb2 => by have := tm_in hTmh1 (b := b) (by omega); omega
  have hTm := hTmh1
  have hP : va_P D vwCl [(m0, .inr (6, [.ref nw, .ref ps, .int (nI u), .ref im, .ref mk, .int (nI sd), .ref wd, .int (nI s), .ref so, .int (nI n), .ref mb, .ref ma, .ref mf, .ref mw, .ref ml, .ref mu, .int (nI (n - 1)), .ref wt, .int (nI 0), .ref ty])), (nw, .inl (cI, 241, .inl (nF NW))), (ps, .inl (cI, 4820, .inl (nF PS))), (im, .inl (cI, 484, .inl (nF IM))), (mk, .inl (cZ, 2, .inl (nF MK))), (wd, .inl (cI, 8, .inl (nF WD))), (so, .inl (cI, 24, .inl (nF SOh1))), (mb, .inl (cI, 24, .inl (nF EBh1))), (ma, .inl (cI, 24, .inl (nF EAh1))), (mf, .inl (cI, 24, .inl (nF EFh1))), (mw, .inl (cI, 24, .inl (nF EWh1))), (ml, .inl (cI, 24, .inl (nF ELh1))), (mu, .inl (cI, 24, .inl (oF EUh1))), (wt, .inl (cI, 200, .inl (oF WTh1))), (ty, .inl (cI, 8, .inl (nF TY)))] H := hP.sub [0, 1, 2, 3, 4, 5, 6, 7, 8, 9, 10, 11, 12, 13, 14] rfl
  have hD : va_D AA [(m0, .inr (6, [.ref nw, .ref ps, .int (nI u), .ref im, .ref mk, .int (nI sd), .ref wd, .int (nI s), .ref so, .int (nI n), .ref mb, .ref ma, .ref mf, .ref mw, .ref ml, .ref mu, .int (nI (n - 1)), .ref wt, .int (nI 0), .ref ty])), (nw, .inl (cI, 241, .inl (nF NW))), (ps, .inl (cI, 4820, .inl (nF PS))), (im, .inl (cI, 484, .inl (nF IM))), (mk, .inl (cZ, 2, .inl (nF MK))), (wd, .inl (cI, 8, .inl (nF WD))), (so, .inl (cI, 24, .inl (nF SOh1))), (mb, .inl (cI, 24, .inl (nF EBh1))), (ma, .inl (cI, 24, .inl (nF EAh1))), (mf, .inl (cI, 24, .inl (nF EFh1))), (mw, .inl (cI, 24, .inl (nF EWh1))), (ml, .inl (cI, 24, .inl (nF ELh1))), (mu, .inl (cI, 24, .inl (oF EUh1))), (wt, .inl (cI, 200, .inl (oF WTh1))), (ty, .inl (cI, 8, .inl (nF TY)))] := hD.sub [0, 1, 2, 3, 4, 5, 6, 7, 8, 9, 10, 11, 12, 13, 14] (by decide) rfl
  refine lv_iload_n hx hb dX6_branch_5 rfl (lv_at hl 1 rfl) ?_
  refine lv_iconst (v := nI 0) hx hb dX6_branch_6 (by decide +kernel) ?_
  refine lv_aload_n hx hb dX6_branch_7 rfl (lv_at hl 0 rfl) ?_
  refine va_get (D := D) (ci := 6) (v := .int (nI (n - 1))) (C := RX6) (T := TX6) (N := 20) hx hb hts inX6 hown hK hP 0 rfl rfl 16 (by decide) (hts _ mf_X6_97) (fun _ h9 => h9) rfl dX6_branch_8 ?_
  refine lv_iconst (v := nI 1) hx hb dX6_branch_11 (by decide +kernel) ?_
  refine lv_isub hx hb dX6_branch_12 ?_
  refine tq (y := (oI (n - 1))) (by show nI (n - 1) - nI 1 = nI (n - 1) - 1; rw [nI_one]) ?_
  refine ro_S (As := [.int (nI j), .int (nI 0), .int (oI (n - 1))]) (rest := []) ⟨hx, hb, hml, hown, hts⟩ (c_X6_in_o l D cI cJ cZ j 0 (n - 1) (by omega) (by omega) (by omega)) (k_X6_79 hts ⟨Nat.le_of_ble_eq_true rfl, Nat.le_of_ble_eq_true rfl⟩) hK hP [] rfl rfl hl.1 rfl (Nat.le_of_ble_eq_true rfl) dX6_branch_13 ⟨Nat.le_of_ble_eq_true rfl, Nat.le_of_ble_eq_true rfl⟩ ?_
  refine b_if_ne (tgt := 22) hx hb dX6_branch_16 (by decide) (fun c5 => ?_) (fun c5 => ?_)
  ·
    refine lv_iload_n hx hb dX6_branch_22 rfl (lv_at hl 2 rfl) ?_
    refine lv_tableIn (tgt := 81) (off := 58) hx hb dX6_branch_23 (by decide +kernel) (by decide +kernel) (by decide +kernel) (by decide) ?_
    refine lv_aload_n hx hb dX6_branch_81 rfl (lv_at hl 0 rfl) ?_
    refine va_get (D := D) (ci := 6) (v := .ref ml) (C := RX6) (T := TX6) (N := 20) hx hb hts inX6 hown hK hP 0 rfl rfl 14 (by decide) (hts _ mf_X6_41) (fun _ h9 => h9) rfl dX6_branch_82 ?_
    refine lv_iload_n hx hb dX6_branch_85 rfl (lv_at hl 1 rfl) ?_
    refine n_iald hx hb hK hP 11 0 rfl rfl (k := j) (by omega) (by decide) dX6_branch_86 ?_
    refine tq (y := nI (BL j)) (congrArg nI ((tm_eq hTr hTm (show j + 1 < n by omega)).2.2.2.2.2)) ?_
    exact wr_iret hx hb hr hlk hP hD hS dX6_branch_87 (⟨rfl, SOh1, n, EBh1, EAh1, EFh1, EWh1, ELh1, EUh1, n - 1, WTh1, 0, rfl⟩)
  ·
    exact (c5 (by omega)).elim
set_option maxHeartbeats 4000000 in
set_option maxRecDepth 100000 in
theorem c_X6_branch_4 (l : Launch) (D : va_G) (cI cJ cZ : ClassId) (m0 nw ps im mk wd so mb ma mf mw ml mu wt ty : Nat) (NW : Nat → Nat) (PS : Nat → Nat) (u : Nat) (IM : Nat → Nat) (MK : Nat → Nat) (sd : Nat) (WD : Nat → Nat) (s : Nat) (SO : Nat → Nat) (q : Nat) (EB : Nat → Nat) (EA : Nat → Nat) (EF : Nat → Nat) (EW : Nat → Nat) (EL : Nat → Nat) (EU : Nat → Nat) (br : Nat) (WT : Nat → Nat) (ww : Nat) (TY : Nat → Nat) (KS KL KW : Nat → Nat) (n A : Nat) (hn : n ≤ 24) (hk : ∀ k, k < n → Wf (KS k) (KL k)) (hw0 : Wf s A) (hR : RN NW KS KL KW n) (hRW : RW WD s A) (hso : Srt KS KL n) (BB BD BM BL BF BA BK : Nat → Nat) (hTr : TrX (gapF KS KL) n BB BD BM BL BF BA BK) (hv : ∀ k, k < n → KW k ≤ 9999) (j : Nat) (hj : j < n - 1) (sz : Nat) : WR l yX6_branch cX6_branch 3 (some .int) (rmN 5 116) D (ty3 cI cJ cZ) [.ref m0, .int (nI j), .int (nI 4)] [(m0, .inr (6, [.ref nw, .ref ps, .int (nI u), .ref im, .ref mk, .int (nI sd), .ref wd, .int (nI s), .ref so, .int (nI q), .ref mb, .ref ma, .ref mf, .ref mw, .ref ml, .ref mu, .int (nI br), .ref wt, .int (nI ww), .ref ty])), (nw, .inl (cI, 241, .inl (nF NW))), (ps, .inl (cI, 4820, .inl (nF PS))), (im, .inl (cI, 484, .inl (nF IM))), (mk, .inl (cZ, 2, .inl (nF MK))), (wd, .inl (cI, 8, .inl (nF WD))), (so, .inl (cI, 24, .inl (nF SO))), (mb, .inl (cI, 24, .inl (nF EB))), (ma, .inl (cI, 24, .inl (nF EA))), (mf, .inl (cI, 24, .inl (nF EF))), (mw, .inl (cI, 24, .inl (nF EW))), (ml, .inl (cI, 24, .inl (nF EL))), (mu, .inl (cI, 24, .inl (oF EU))), (wt, .inl (cI, 200, .inl (oF WT))), (ty, .inl (cI, 8, .inl (nF TY)))] sz (fun x w => x = some (.int (nI (BF j))) ∧ ∃ (SO : Nat → Nat) (q : Nat) (EB EA EF EW EL EU : Nat → Nat) (br : Nat) (WT : Nat → Nat) (ww : Nat), w = [(m0, .inr (6, [.ref nw, .ref ps, .int (nI u), .ref im, .ref mk, .int (nI sd), .ref wd, .int (nI s), .ref so, .int (nI q), .ref mb, .ref ma, .ref mf, .ref mw, .ref ml, .ref mu, .int (nI br), .ref wt, .int (nI ww), .ref ty])), (nw, .inl (cI, 241, .inl (nF NW))), (ps, .inl (cI, 4820, .inl (nF PS))), (im, .inl (cI, 484, .inl (nF IM))), (mk, .inl (cZ, 2, .inl (nF MK))), (wd, .inl (cI, 8, .inl (nF WD))), (so, .inl (cI, 24, .inl (nF SO))), (mb, .inl (cI, 24, .inl (nF EB))), (ma, .inl (cI, 24, .inl (nF EA))), (mf, .inl (cI, 24, .inl (nF EF))), (mw, .inl (cI, 24, .inl (nF EW))), (ml, .inl (cI, 24, .inl (nF EL))), (mu, .inl (cI, 24, .inl (oF EU))), (wt, .inl (cI, 200, .inl (oF WT))), (ty, .inl (cI, 8, .inl (nF TY)))]) := by
  have hs8 := hw0.1
  have hA64 := hw0.2.1
  have hN0 := hR.1
  have hBK := tf_BK hTr hn
  have hDK := tf_DK hTr hn
  have hp := plc_le KS KL n s A
  have hcb := cbl_le KS KL n s A
  have hfl := fnd_le KS KL n s A
  refine wr_start (by decide) (Nat.le_of_ble_eq_true rfl) ?_
  intro pp ee ss mm below meth cd AA C0 hAA hP hK hD hS hN hnm ls hl
  obtain ⟨hx, hb, hr, hml, hown, hts, hlk⟩ := C0
  have hown : ss.vm.findClass RX6 = some mm.cls := hown
  have hl : lv_has ls 3 [(0, .ref m0), (1, .int (nI j)), (2, .int (nI 4))] := hl
  have hP : va_P D vwCl [(m0, .inr (6, [.ref nw, .ref ps, .int (nI u), .ref im, .ref mk, .int (nI sd), .ref wd, .int (nI s), .ref so, .int (nI q), .ref mb, .ref ma, .ref mf, .ref mw, .ref ml, .ref mu, .int (nI br), .ref wt, .int (nI ww), .ref ty])), (nw, .inl (cI, 241, .inl (nF NW))), (ps, .inl (cI, 4820, .inl (nF PS))), (im, .inl (cI, 484, .inl (nF IM))), (mk, .inl (cZ, 2, .inl (nF MK))), (wd, .inl (cI, 8, .inl (nF WD))), (so, .inl (cI, 24, .inl (nF SO))), (mb, .inl (cI, 24, .inl (nF EB))), (ma, .inl (cI, 24, .inl (nF EA))), (mf, .inl (cI, 24, .inl (nF EF))), (mw, .inl (cI, 24, .inl (nF EW))), (ml, .inl (cI, 24, .inl (nF EL))), (mu, .inl (cI, 24, .inl (oF EU))), (wt, .inl (cI, 200, .inl (oF WT))), (ty, .inl (cI, 8, .inl (nF TY)))] ss.heap := hP
  refine lv_aload_n hx hb dX6_branch_0 rfl (lv_at hl 0 rfl) ?_
  refine lv_iconst (v := oI 0) hx hb dX6_branch_1 (by decide +kernel) ?_
  refine wr_V (As := [.int (oI 0)]) (rest := []) (wc := [(m0, .inr (6, [.ref nw, .ref ps, .int (nI u), .ref im, .ref mk, .int (nI sd), .ref wd, .int (nI s), .ref so, .int (nI q), .ref mb, .ref ma, .ref mf, .ref mw, .ref ml, .ref mu, .int (nI br), .ref wt, .int (nI ww), .ref ty])), (nw, .inl (cI, 241, .inl (nF NW))), (ps, .inl (cI, 4820, .inl (nF PS))), (im, .inl (cI, 484, .inl (nF IM))), (mk, .inl (cZ, 2, .inl (nF MK))), (wd, .inl (cI, 8, .inl (nF WD))), (so, .inl (cI, 24, .inl (nF SO))), (mb, .inl (cI, 24, .inl (nF EB))), (ma, .inl (cI, 24, .inl (nF EA))), (mf, .inl (cI, 24, .inl (nF EF))), (mw, .inl (cI, 24, .inl (nF EW))), (ml, .inl (cI, 24, .inl (nF EL))), (mu, .inl (cI, 24, .inl (oF EU))), (wt, .inl (cI, 200, .inl (oF WT))), (ty, .inl (cI, 8, .inl (nF TY)))]) (wr := []) ⟨hx, hb, hml, hown, hts⟩ (c_X6_findsBut_all l D cI cJ cZ m0 nw ps im mk wd so mb ma mf mw ml mu wt ty NW PS u IM MK sd WD s SO q EB EA EF EW EL EU br WT ww TY KS KL KW n A hn hk hw0 hR hRW hso _) (k_X6_119 hts ⟨Nat.le_of_ble_eq_true rfl, Nat.le_of_ble_eq_true rfl⟩) hK hN hP hD hS hAA 0 rfl rfl rfl [0, 1, 2, 3, 4, 5, 6, 7, 8, 9, 10, 11, 12, 13, 14] [] rfl rfl (by decide) (by decide) (by decide) rfl hl.1 rfl (Nat.le_of_ble_eq_true rfl) dX6_branch_2 ⟨Nat.le_of_ble_eq_true rfl, Nat.le_of_ble_eq_true rfl⟩ (fun v3 w4 H locs hp2 hP hD hS => ?_)
  obtain ⟨rfl, SOh1, EBh1, EAh1, EFh1, EWh1, ELh1, EUh1, WTh1, rfl, hTmh1⟩ := hp2
  have hE : ∀ b, b < n - 1 → EFh1 b ≤ 24 ∧ 1 ≤ EWh1 b ∧ EWh1 b ≤ 24 := fun b hb2 => by have := tm_in hTmh1 (b := b) (by omega); omega
  have hTm := hTmh1
  have hP : va_P D vwCl [(m0, .inr (6, [.ref nw, .ref ps, .int (nI u), .ref im, .ref mk, .int (nI sd), .ref wd, .int (nI s), .ref so, .int (nI n), .ref mb, .ref ma, .ref mf, .ref mw, .ref ml, .ref mu, .int (nI (n - 1)), .ref wt, .int (nI 0), .ref ty])), (nw, .inl (cI, 241, .inl (nF NW))), (ps, .inl (cI, 4820, .inl (nF PS))), (im, .inl (cI, 484, .inl (nF IM))), (mk, .inl (cZ, 2, .inl (nF MK))), (wd, .inl (cI, 8, .inl (nF WD))), (so, .inl (cI, 24, .inl (nF SOh1))), (mb, .inl (cI, 24, .inl (nF EBh1))), (ma, .inl (cI, 24, .inl (nF EAh1))), (mf, .inl (cI, 24, .inl (nF EFh1))), (mw, .inl (cI, 24, .inl (nF EWh1))), (ml, .inl (cI, 24, .inl (nF ELh1))), (mu, .inl (cI, 24, .inl (oF EUh1))), (wt, .inl (cI, 200, .inl (oF WTh1))), (ty, .inl (cI, 8, .inl (nF TY)))] H := hP.sub [0, 1, 2, 3, 4, 5, 6, 7, 8, 9, 10, 11, 12, 13, 14] rfl
  have hD : va_D AA [(m0, .inr (6, [.ref nw, .ref ps, .int (nI u), .ref im, .ref mk, .int (nI sd), .ref wd, .int (nI s), .ref so, .int (nI n), .ref mb, .ref ma, .ref mf, .ref mw, .ref ml, .ref mu, .int (nI (n - 1)), .ref wt, .int (nI 0), .ref ty])), (nw, .inl (cI, 241, .inl (nF NW))), (ps, .inl (cI, 4820, .inl (nF PS))), (im, .inl (cI, 484, .inl (nF IM))), (mk, .inl (cZ, 2, .inl (nF MK))), (wd, .inl (cI, 8, .inl (nF WD))), (so, .inl (cI, 24, .inl (nF SOh1))), (mb, .inl (cI, 24, .inl (nF EBh1))), (ma, .inl (cI, 24, .inl (nF EAh1))), (mf, .inl (cI, 24, .inl (nF EFh1))), (mw, .inl (cI, 24, .inl (nF EWh1))), (ml, .inl (cI, 24, .inl (nF ELh1))), (mu, .inl (cI, 24, .inl (oF EUh1))), (wt, .inl (cI, 200, .inl (oF WTh1))), (ty, .inl (cI, 8, .inl (nF TY)))] := hD.sub [0, 1, 2, 3, 4, 5, 6, 7, 8, 9, 10, 11, 12, 13, 14] (by decide) rfl
  refine lv_iload_n hx hb dX6_branch_5 rfl (lv_at hl 1 rfl) ?_
  refine lv_iconst (v := nI 0) hx hb dX6_branch_6 (by decide +kernel) ?_
  refine lv_aload_n hx hb dX6_branch_7 rfl (lv_at hl 0 rfl) ?_
  refine va_get (D := D) (ci := 6) (v := .int (nI (n - 1))) (C := RX6) (T := TX6) (N := 20) hx hb hts inX6 hown hK hP 0 rfl rfl 16 (by decide) (hts _ mf_X6_97) (fun _ h9 => h9) rfl dX6_branch_8 ?_
  refine lv_iconst (v := nI 1) hx hb dX6_branch_11 (by decide +kernel) ?_
  refine lv_isub hx hb dX6_branch_12 ?_
  refine tq (y := (oI (n - 1))) (by show nI (n - 1) - nI 1 = nI (n - 1) - 1; rw [nI_one]) ?_
  refine ro_S (As := [.int (nI j), .int (nI 0), .int (oI (n - 1))]) (rest := []) ⟨hx, hb, hml, hown, hts⟩ (c_X6_in_o l D cI cJ cZ j 0 (n - 1) (by omega) (by omega) (by omega)) (k_X6_79 hts ⟨Nat.le_of_ble_eq_true rfl, Nat.le_of_ble_eq_true rfl⟩) hK hP [] rfl rfl hl.1 rfl (Nat.le_of_ble_eq_true rfl) dX6_branch_13 ⟨Nat.le_of_ble_eq_true rfl, Nat.le_of_ble_eq_true rfl⟩ ?_
  refine b_if_ne (tgt := 22) hx hb dX6_branch_16 (by decide) (fun c5 => ?_) (fun c5 => ?_)
  ·
    refine lv_iload_n hx hb dX6_branch_22 rfl (lv_at hl 2 rfl) ?_
    refine lv_tableIn (tgt := 88) (off := 65) hx hb dX6_branch_23 (by decide +kernel) (by decide +kernel) (by decide +kernel) (by decide) ?_
    refine lv_aload_n hx hb dX6_branch_88 rfl (lv_at hl 0 rfl) ?_
    refine va_get (D := D) (ci := 6) (v := .ref mf) (C := RX6) (T := TX6) (N := 20) hx hb hts inX6 hown hK hP 0 rfl rfl 12 (by decide) (hts _ mf_X6_35) (fun _ h9 => h9) rfl dX6_branch_89 ?_
    refine lv_iload_n hx hb dX6_branch_92 rfl (lv_at hl 1 rfl) ?_
    refine n_iald hx hb hK hP 9 0 rfl rfl (k := j) (by omega) (by decide) dX6_branch_93 ?_
    refine tq (y := nI (BF j)) (congrArg nI ((tm_eq hTr hTm (show j + 1 < n by omega)).1)) ?_
    exact wr_iret hx hb hr hlk hP hD hS dX6_branch_94 (⟨rfl, SOh1, n, EBh1, EAh1, EFh1, EWh1, ELh1, EUh1, n - 1, WTh1, 0, rfl⟩)
  ·
    exact (c5 (by omega)).elim
set_option maxHeartbeats 4000000 in
set_option maxRecDepth 100000 in
theorem c_X6_branch_5 (l : Launch) (D : va_G) (cI cJ cZ : ClassId) (m0 nw ps im mk wd so mb ma mf mw ml mu wt ty : Nat) (NW : Nat → Nat) (PS : Nat → Nat) (u : Nat) (IM : Nat → Nat) (MK : Nat → Nat) (sd : Nat) (WD : Nat → Nat) (s : Nat) (SO : Nat → Nat) (q : Nat) (EB : Nat → Nat) (EA : Nat → Nat) (EF : Nat → Nat) (EW : Nat → Nat) (EL : Nat → Nat) (EU : Nat → Nat) (br : Nat) (WT : Nat → Nat) (ww : Nat) (TY : Nat → Nat) (KS KL KW : Nat → Nat) (n A : Nat) (hn : n ≤ 24) (hk : ∀ k, k < n → Wf (KS k) (KL k)) (hw0 : Wf s A) (hR : RN NW KS KL KW n) (hRW : RW WD s A) (hso : Srt KS KL n) (BB BD BM BL BF BA BK : Nat → Nat) (hTr : TrX (gapF KS KL) n BB BD BM BL BF BA BK) (hv : ∀ k, k < n → KW k ≤ 9999) (j : Nat) (hj : j < n - 1) (sz : Nat) : WR l yX6_branch cX6_branch 3 (some .int) (rmN 5 116) D (ty3 cI cJ cZ) [.ref m0, .int (nI j), .int (nI 5)] [(m0, .inr (6, [.ref nw, .ref ps, .int (nI u), .ref im, .ref mk, .int (nI sd), .ref wd, .int (nI s), .ref so, .int (nI q), .ref mb, .ref ma, .ref mf, .ref mw, .ref ml, .ref mu, .int (nI br), .ref wt, .int (nI ww), .ref ty])), (nw, .inl (cI, 241, .inl (nF NW))), (ps, .inl (cI, 4820, .inl (nF PS))), (im, .inl (cI, 484, .inl (nF IM))), (mk, .inl (cZ, 2, .inl (nF MK))), (wd, .inl (cI, 8, .inl (nF WD))), (so, .inl (cI, 24, .inl (nF SO))), (mb, .inl (cI, 24, .inl (nF EB))), (ma, .inl (cI, 24, .inl (nF EA))), (mf, .inl (cI, 24, .inl (nF EF))), (mw, .inl (cI, 24, .inl (nF EW))), (ml, .inl (cI, 24, .inl (nF EL))), (mu, .inl (cI, 24, .inl (oF EU))), (wt, .inl (cI, 200, .inl (oF WT))), (ty, .inl (cI, 8, .inl (nF TY)))] sz (fun x w => x = some (.int (oI (BA j))) ∧ ∃ (SO : Nat → Nat) (q : Nat) (EB EA EF EW EL EU : Nat → Nat) (br : Nat) (WT : Nat → Nat) (ww : Nat), w = [(m0, .inr (6, [.ref nw, .ref ps, .int (nI u), .ref im, .ref mk, .int (nI sd), .ref wd, .int (nI s), .ref so, .int (nI q), .ref mb, .ref ma, .ref mf, .ref mw, .ref ml, .ref mu, .int (nI br), .ref wt, .int (nI ww), .ref ty])), (nw, .inl (cI, 241, .inl (nF NW))), (ps, .inl (cI, 4820, .inl (nF PS))), (im, .inl (cI, 484, .inl (nF IM))), (mk, .inl (cZ, 2, .inl (nF MK))), (wd, .inl (cI, 8, .inl (nF WD))), (so, .inl (cI, 24, .inl (nF SO))), (mb, .inl (cI, 24, .inl (nF EB))), (ma, .inl (cI, 24, .inl (nF EA))), (mf, .inl (cI, 24, .inl (nF EF))), (mw, .inl (cI, 24, .inl (nF EW))), (ml, .inl (cI, 24, .inl (nF EL))), (mu, .inl (cI, 24, .inl (oF EU))), (wt, .inl (cI, 200, .inl (oF WT))), (ty, .inl (cI, 8, .inl (nF TY)))]) := by
  have hs8 := hw0.1
  have hA64 := hw0.2.1
  have hN0 := hR.1
  have hBK := tf_BK hTr hn
  have hDK := tf_DK hTr hn
  have hp := plc_le KS KL n s A
  have hcb := cbl_le KS KL n s A
  have hfl := fnd_le KS KL n s A
  refine wr_start (by decide) (Nat.le_of_ble_eq_true rfl) ?_
  intro pp ee ss mm below meth cd AA C0 hAA hP hK hD hS hN hnm ls hl
  obtain ⟨hx, hb, hr, hml, hown, hts, hlk⟩ := C0
  have hown : ss.vm.findClass RX6 = some mm.cls := hown
  have hl : lv_has ls 3 [(0, .ref m0), (1, .int (nI j)), (2, .int (nI 5))] := hl
  have hP : va_P D vwCl [(m0, .inr (6, [.ref nw, .ref ps, .int (nI u), .ref im, .ref mk, .int (nI sd), .ref wd, .int (nI s), .ref so, .int (nI q), .ref mb, .ref ma, .ref mf, .ref mw, .ref ml, .ref mu, .int (nI br), .ref wt, .int (nI ww), .ref ty])), (nw, .inl (cI, 241, .inl (nF NW))), (ps, .inl (cI, 4820, .inl (nF PS))), (im, .inl (cI, 484, .inl (nF IM))), (mk, .inl (cZ, 2, .inl (nF MK))), (wd, .inl (cI, 8, .inl (nF WD))), (so, .inl (cI, 24, .inl (nF SO))), (mb, .inl (cI, 24, .inl (nF EB))), (ma, .inl (cI, 24, .inl (nF EA))), (mf, .inl (cI, 24, .inl (nF EF))), (mw, .inl (cI, 24, .inl (nF EW))), (ml, .inl (cI, 24, .inl (nF EL))), (mu, .inl (cI, 24, .inl (oF EU))), (wt, .inl (cI, 200, .inl (oF WT))), (ty, .inl (cI, 8, .inl (nF TY)))] ss.heap := hP
  refine lv_aload_n hx hb dX6_branch_0 rfl (lv_at hl 0 rfl) ?_
  refine lv_iconst (v := oI 0) hx hb dX6_branch_1 (by decide +kernel) ?_
  refine wr_V (As := [.int (oI 0)]) (rest := []) (wc := [(m0, .inr (6, [.ref nw, .ref ps, .int (nI u), .ref im, .ref mk, .int (nI sd), .ref wd, .int (nI s), .ref so, .int (nI q), .ref mb, .ref ma, .ref mf, .ref mw, .ref ml, .ref mu, .int (nI br), .ref wt, .int (nI ww), .ref ty])), (nw, .inl (cI, 241, .inl (nF NW))), (ps, .inl (cI, 4820, .inl (nF PS))), (im, .inl (cI, 484, .inl (nF IM))), (mk, .inl (cZ, 2, .inl (nF MK))), (wd, .inl (cI, 8, .inl (nF WD))), (so, .inl (cI, 24, .inl (nF SO))), (mb, .inl (cI, 24, .inl (nF EB))), (ma, .inl (cI, 24, .inl (nF EA))), (mf, .inl (cI, 24, .inl (nF EF))), (mw, .inl (cI, 24, .inl (nF EW))), (ml, .inl (cI, 24, .inl (nF EL))), (mu, .inl (cI, 24, .inl (oF EU))), (wt, .inl (cI, 200, .inl (oF WT))), (ty, .inl (cI, 8, .inl (nF TY)))]) (wr := []) ⟨hx, hb, hml, hown, hts⟩ (c_X6_findsBut_all l D cI cJ cZ m0 nw ps im mk wd so mb ma mf mw ml mu wt ty NW PS u IM MK sd WD s SO q EB EA EF EW EL EU br WT ww TY KS KL KW n A hn hk hw0 hR hRW hso _) (k_X6_119 hts ⟨Nat.le_of_ble_eq_true rfl, Nat.le_of_ble_eq_true rfl⟩) hK hN hP hD hS hAA 0 rfl rfl rfl [0, 1, 2, 3, 4, 5, 6, 7, 8, 9, 10, 11, 12, 13, 14] [] rfl rfl (by decide) (by decide) (by decide) rfl hl.1 rfl (Nat.le_of_ble_eq_true rfl) dX6_branch_2 ⟨Nat.le_of_ble_eq_true rfl, Nat.le_of_ble_eq_true rfl⟩ (fun v3 w4 H locs hp2 hP hD hS => ?_)
  obtain ⟨rfl, SOh1, EBh1, EAh1, EFh1, EWh1, ELh1, EUh1, WTh1, rfl, hTmh1⟩ := hp2
  have hE : ∀ b, b < n - 1 → EFh1 b ≤ 24 ∧ 1 ≤ EWh1 b ∧ EWh1 b ≤ 24 := fun b hb2 => by have := tm_in hTmh1 (b := b) (by omega); omega
  have hTm := hTmh1
  have hP : va_P D vwCl [(m0, .inr (6, [.ref nw, .ref ps, .int (nI u), .ref im, .ref mk, .int (nI sd), .ref wd, .int (nI s), .ref so, .int (nI n), .ref mb, .ref ma, .ref mf, .ref mw, .ref ml, .ref mu, .int (nI (n - 1)), .ref wt, .int (nI 0), .ref ty])), (nw, .inl (cI, 241, .inl (nF NW))), (ps, .inl (cI, 4820, .inl (nF PS))), (im, .inl (cI, 484, .inl (nF IM))), (mk, .inl (cZ, 2, .inl (nF MK))), (wd, .inl (cI, 8, .inl (nF WD))), (so, .inl (cI, 24, .inl (nF SOh1))), (mb, .inl (cI, 24, .inl (nF EBh1))), (ma, .inl (cI, 24, .inl (nF EAh1))), (mf, .inl (cI, 24, .inl (nF EFh1))), (mw, .inl (cI, 24, .inl (nF EWh1))), (ml, .inl (cI, 24, .inl (nF ELh1))), (mu, .inl (cI, 24, .inl (oF EUh1))), (wt, .inl (cI, 200, .inl (oF WTh1))), (ty, .inl (cI, 8, .inl (nF TY)))] H := hP.sub [0, 1, 2, 3, 4, 5, 6, 7, 8, 9, 10, 11, 12, 13, 14] rfl
  have hD : va_D AA [(m0, .inr (6, [.ref nw, .ref ps, .int (nI u), .ref im, .ref mk, .int (nI sd), .ref wd, .int (nI s), .ref so, .int (nI n), .ref mb, .ref ma, .ref mf, .ref mw, .ref ml, .ref mu, .int (nI (n - 1)), .ref wt, .int (nI 0), .ref ty])), (nw, .inl (cI, 241, .inl (nF NW))), (ps, .inl (cI, 4820, .inl (nF PS))), (im, .inl (cI, 484, .inl (nF IM))), (mk, .inl (cZ, 2, .inl (nF MK))), (wd, .inl (cI, 8, .inl (nF WD))), (so, .inl (cI, 24, .inl (nF SOh1))), (mb, .inl (cI, 24, .inl (nF EBh1))), (ma, .inl (cI, 24, .inl (nF EAh1))), (mf, .inl (cI, 24, .inl (nF EFh1))), (mw, .inl (cI, 24, .inl (nF EWh1))), (ml, .inl (cI, 24, .inl (nF ELh1))), (mu, .inl (cI, 24, .inl (oF EUh1))), (wt, .inl (cI, 200, .inl (oF WTh1))), (ty, .inl (cI, 8, .inl (nF TY)))] := hD.sub [0, 1, 2, 3, 4, 5, 6, 7, 8, 9, 10, 11, 12, 13, 14] (by decide) rfl
  refine lv_iload_n hx hb dX6_branch_5 rfl (lv_at hl 1 rfl) ?_
  refine lv_iconst (v := nI 0) hx hb dX6_branch_6 (by decide +kernel) ?_
  refine lv_aload_n hx hb dX6_branch_7 rfl (lv_at hl 0 rfl) ?_
  refine va_get (D := D) (ci := 6) (v := .int (nI (n - 1))) (C := RX6) (T := TX6) (N := 20) hx hb hts inX6 hown hK hP 0 rfl rfl 16 (by decide) (hts _ mf_X6_97) (fun _ h9 => h9) rfl dX6_branch_8 ?_
  refine lv_iconst (v := nI 1) hx hb dX6_branch_11 (by decide +kernel) ?_
  refine lv_isub hx hb dX6_branch_12 ?_
  refine tq (y := (oI (n - 1))) (by show nI (n - 1) - nI 1 = nI (n - 1) - 1; rw [nI_one]) ?_
  refine ro_S (As := [.int (nI j), .int (nI 0), .int (oI (n - 1))]) (rest := []) ⟨hx, hb, hml, hown, hts⟩ (c_X6_in_o l D cI cJ cZ j 0 (n - 1) (by omega) (by omega) (by omega)) (k_X6_79 hts ⟨Nat.le_of_ble_eq_true rfl, Nat.le_of_ble_eq_true rfl⟩) hK hP [] rfl rfl hl.1 rfl (Nat.le_of_ble_eq_true rfl) dX6_branch_13 ⟨Nat.le_of_ble_eq_true rfl, Nat.le_of_ble_eq_true rfl⟩ ?_
  refine b_if_ne (tgt := 22) hx hb dX6_branch_16 (by decide) (fun c5 => ?_) (fun c5 => ?_)
  ·
    refine lv_iload_n hx hb dX6_branch_22 rfl (lv_at hl 2 rfl) ?_
    refine lv_tableIn (tgt := 95) (off := 72) hx hb dX6_branch_23 (by decide +kernel) (by decide +kernel) (by decide +kernel) (by decide) ?_
    refine lv_aload_n hx hb dX6_branch_95 rfl (lv_at hl 0 rfl) ?_
    refine va_get (D := D) (ci := 6) (v := .ref mu) (C := RX6) (T := TX6) (N := 20) hx hb hts inX6 hown hK hP 0 rfl rfl 15 (by decide) (hts _ mf_X6_44) (fun _ h9 => h9) rfl dX6_branch_96 ?_
    refine lv_iload_n hx hb dX6_branch_99 rfl (lv_at hl 1 rfl) ?_
    refine o_iald hx hb hK hP 12 0 rfl rfl (k := j) (by omega) (by decide) dX6_branch_100 ?_
    refine tq (y := oI (BA j)) (congrArg oI ((tm_eq hTr hTm (show j + 1 < n by omega)).2.2.2.1)) ?_
    exact wr_iret hx hb hr hlk hP hD hS dX6_branch_101 (⟨rfl, SOh1, n, EBh1, EAh1, EFh1, EWh1, ELh1, EUh1, n - 1, WTh1, 0, rfl⟩)
  ·
    exact (c5 (by omega)).elim
set_option maxHeartbeats 4000000 in
set_option maxRecDepth 100000 in
theorem c_X6_branch_big (l : Launch) (D : va_G) (cI cJ cZ : ClassId) (m0 nw ps im mk wd so mb ma mf mw ml mu wt ty : Nat) (NW : Nat → Nat) (PS : Nat → Nat) (u : Nat) (IM : Nat → Nat) (MK : Nat → Nat) (sd : Nat) (WD : Nat → Nat) (s : Nat) (SO : Nat → Nat) (q : Nat) (EB : Nat → Nat) (EA : Nat → Nat) (EF : Nat → Nat) (EW : Nat → Nat) (EL : Nat → Nat) (EU : Nat → Nat) (br : Nat) (WT : Nat → Nat) (ww : Nat) (TY : Nat → Nat) (KS KL KW : Nat → Nat) (n A : Nat) (hn : n ≤ 24) (hk : ∀ k, k < n → Wf (KS k) (KL k)) (hw0 : Wf s A) (hR : RN NW KS KL KW n) (hRW : RW WD s A) (hso : Srt KS KL n) (BB BD BM BL BF BA BK : Nat → Nat) (hTr : TrX (gapF KS KL) n BB BD BM BL BF BA BK) (hv : ∀ k, k < n → KW k ≤ 9999) (j : Nat) (hj : j < n - 1) (t : Nat) (ht : t < 2 ^ 31) (htb : 5 < t) (sz : Nat) : WR l yX6_branch cX6_branch 3 (some .int) (rmN 5 116) D (ty3 cI cJ cZ) [.ref m0, .int (nI j), .int (nI t)] [(m0, .inr (6, [.ref nw, .ref ps, .int (nI u), .ref im, .ref mk, .int (nI sd), .ref wd, .int (nI s), .ref so, .int (nI q), .ref mb, .ref ma, .ref mf, .ref mw, .ref ml, .ref mu, .int (nI br), .ref wt, .int (nI ww), .ref ty])), (nw, .inl (cI, 241, .inl (nF NW))), (ps, .inl (cI, 4820, .inl (nF PS))), (im, .inl (cI, 484, .inl (nF IM))), (mk, .inl (cZ, 2, .inl (nF MK))), (wd, .inl (cI, 8, .inl (nF WD))), (so, .inl (cI, 24, .inl (nF SO))), (mb, .inl (cI, 24, .inl (nF EB))), (ma, .inl (cI, 24, .inl (nF EA))), (mf, .inl (cI, 24, .inl (nF EF))), (mw, .inl (cI, 24, .inl (nF EW))), (ml, .inl (cI, 24, .inl (nF EL))), (mu, .inl (cI, 24, .inl (oF EU))), (wt, .inl (cI, 200, .inl (oF WT))), (ty, .inl (cI, 8, .inl (nF TY)))] sz (fun x w => x = some (.int (-1000000002)) ∧ ∃ (SO : Nat → Nat) (q : Nat) (EB EA EF EW EL EU : Nat → Nat) (br : Nat) (WT : Nat → Nat) (ww : Nat), w = [(m0, .inr (6, [.ref nw, .ref ps, .int (nI u), .ref im, .ref mk, .int (nI sd), .ref wd, .int (nI s), .ref so, .int (nI q), .ref mb, .ref ma, .ref mf, .ref mw, .ref ml, .ref mu, .int (nI br), .ref wt, .int (nI ww), .ref ty])), (nw, .inl (cI, 241, .inl (nF NW))), (ps, .inl (cI, 4820, .inl (nF PS))), (im, .inl (cI, 484, .inl (nF IM))), (mk, .inl (cZ, 2, .inl (nF MK))), (wd, .inl (cI, 8, .inl (nF WD))), (so, .inl (cI, 24, .inl (nF SO))), (mb, .inl (cI, 24, .inl (nF EB))), (ma, .inl (cI, 24, .inl (nF EA))), (mf, .inl (cI, 24, .inl (nF EF))), (mw, .inl (cI, 24, .inl (nF EW))), (ml, .inl (cI, 24, .inl (nF EL))), (mu, .inl (cI, 24, .inl (oF EU))), (wt, .inl (cI, 200, .inl (oF WT))), (ty, .inl (cI, 8, .inl (nF TY)))]) := by
  have hs8 := hw0.1
  have hA64 := hw0.2.1
  have hN0 := hR.1
  have hBK := tf_BK hTr hn
  have hDK := tf_DK hTr hn
  have hp := plc_le KS KL n s A
  have hcb := cbl_le KS KL n s A
  have hfl := fnd_le KS KL n s A
  refine wr_start (by decide) (Nat.le_of_ble_eq_true rfl) ?_
  intro pp ee ss mm below meth cd AA C0 hAA hP hK hD hS hN hnm ls hl
  obtain ⟨hx, hb, hr, hml, hown, hts, hlk⟩ := C0
  have hown : ss.vm.findClass RX6 = some mm.cls := hown
  have hl : lv_has ls 3 [(0, .ref m0), (1, .int (nI j)), (2, .int (nI t))] := hl
  have hP : va_P D vwCl [(m0, .inr (6, [.ref nw, .ref ps, .int (nI u), .ref im, .ref mk, .int (nI sd), .ref wd, .int (nI s), .ref so, .int (nI q), .ref mb, .ref ma, .ref mf, .ref mw, .ref ml, .ref mu, .int (nI br), .ref wt, .int (nI ww), .ref ty])), (nw, .inl (cI, 241, .inl (nF NW))), (ps, .inl (cI, 4820, .inl (nF PS))), (im, .inl (cI, 484, .inl (nF IM))), (mk, .inl (cZ, 2, .inl (nF MK))), (wd, .inl (cI, 8, .inl (nF WD))), (so, .inl (cI, 24, .inl (nF SO))), (mb, .inl (cI, 24, .inl (nF EB))), (ma, .inl (cI, 24, .inl (nF EA))), (mf, .inl (cI, 24, .inl (nF EF))), (mw, .inl (cI, 24, .inl (nF EW))), (ml, .inl (cI, 24, .inl (nF EL))), (mu, .inl (cI, 24, .inl (oF EU))), (wt, .inl (cI, 200, .inl (oF WT))), (ty, .inl (cI, 8, .inl (nF TY)))] ss.heap := hP
  refine lv_aload_n hx hb dX6_branch_0 rfl (lv_at hl 0 rfl) ?_
  refine lv_iconst (v := oI 0) hx hb dX6_branch_1 (by decide +kernel) ?_
  refine wr_V (As := [.int (oI 0)]) (rest := []) (wc := [(m0, .inr (6, [.ref nw, .ref ps, .int (nI u), .ref im, .ref mk, .int (nI sd), .ref wd, .int (nI s), .ref so, .int (nI q), .ref mb, .ref ma, .ref mf, .ref mw, .ref ml, .ref mu, .int (nI br), .ref wt, .int (nI ww), .ref ty])), (nw, .inl (cI, 241, .inl (nF NW))), (ps, .inl (cI, 4820, .inl (nF PS))), (im, .inl (cI, 484, .inl (nF IM))), (mk, .inl (cZ, 2, .inl (nF MK))), (wd, .inl (cI, 8, .inl (nF WD))), (so, .inl (cI, 24, .inl (nF SO))), (mb, .inl (cI, 24, .inl (nF EB))), (ma, .inl (cI, 24, .inl (nF EA))), (mf, .inl (cI, 24, .inl (nF EF))), (mw, .inl (cI, 24, .inl (nF EW))), (ml, .inl (cI, 24, .inl (nF EL))), (mu, .inl (cI, 24, .inl (oF EU))), (wt, .inl (cI, 200, .inl (oF WT))), (ty, .inl (cI, 8, .inl (nF TY)))]) (wr := []) ⟨hx, hb, hml, hown, hts⟩ (c_X6_findsBut_all l D cI cJ cZ m0 nw ps im mk wd so mb ma mf mw ml mu wt ty NW PS u IM MK sd WD s SO q EB EA EF EW EL EU br WT ww TY KS KL KW n A hn hk hw0 hR hRW hso _) (k_X6_119 hts ⟨Nat.le_of_ble_eq_true rfl, Nat.le_of_ble_eq_true rfl⟩) hK hN hP hD hS hAA 0 rfl rfl rfl [0, 1, 2, 3, 4, 5, 6, 7, 8, 9, 10, 11, 12, 13, 14] [] rfl rfl (by decide) (by decide) (by decide) rfl hl.1 rfl (Nat.le_of_ble_eq_true rfl) dX6_branch_2 ⟨Nat.le_of_ble_eq_true rfl, Nat.le_of_ble_eq_true rfl⟩ (fun v3 w4 H locs hp2 hP hD hS => ?_)
  obtain ⟨rfl, SOh1, EBh1, EAh1, EFh1, EWh1, ELh1, EUh1, WTh1, rfl, hTmh1⟩ := hp2
  have hE : ∀ b, b < n - 1 → EFh1 b ≤ 24 ∧ 1 ≤ EWh1 b ∧ EWh1 b ≤ 24 := fun b hb2 => by have := tm_in hTmh1 (b := b) (by omega); omega
  have hTm := hTmh1
  have hP : va_P D vwCl [(m0, .inr (6, [.ref nw, .ref ps, .int (nI u), .ref im, .ref mk, .int (nI sd), .ref wd, .int (nI s), .ref so, .int (nI n), .ref mb, .ref ma, .ref mf, .ref mw, .ref ml, .ref mu, .int (nI (n - 1)), .ref wt, .int (nI 0), .ref ty])), (nw, .inl (cI, 241, .inl (nF NW))), (ps, .inl (cI, 4820, .inl (nF PS))), (im, .inl (cI, 484, .inl (nF IM))), (mk, .inl (cZ, 2, .inl (nF MK))), (wd, .inl (cI, 8, .inl (nF WD))), (so, .inl (cI, 24, .inl (nF SOh1))), (mb, .inl (cI, 24, .inl (nF EBh1))), (ma, .inl (cI, 24, .inl (nF EAh1))), (mf, .inl (cI, 24, .inl (nF EFh1))), (mw, .inl (cI, 24, .inl (nF EWh1))), (ml, .inl (cI, 24, .inl (nF ELh1))), (mu, .inl (cI, 24, .inl (oF EUh1))), (wt, .inl (cI, 200, .inl (oF WTh1))), (ty, .inl (cI, 8, .inl (nF TY)))] H := hP.sub [0, 1, 2, 3, 4, 5, 6, 7, 8, 9, 10, 11, 12, 13, 14] rfl
  have hD : va_D AA [(m0, .inr (6, [.ref nw, .ref ps, .int (nI u), .ref im, .ref mk, .int (nI sd), .ref wd, .int (nI s), .ref so, .int (nI n), .ref mb, .ref ma, .ref mf, .ref mw, .ref ml, .ref mu, .int (nI (n - 1)), .ref wt, .int (nI 0), .ref ty])), (nw, .inl (cI, 241, .inl (nF NW))), (ps, .inl (cI, 4820, .inl (nF PS))), (im, .inl (cI, 484, .inl (nF IM))), (mk, .inl (cZ, 2, .inl (nF MK))), (wd, .inl (cI, 8, .inl (nF WD))), (so, .inl (cI, 24, .inl (nF SOh1))), (mb, .inl (cI, 24, .inl (nF EBh1))), (ma, .inl (cI, 24, .inl (nF EAh1))), (mf, .inl (cI, 24, .inl (nF EFh1))), (mw, .inl (cI, 24, .inl (nF EWh1))), (ml, .inl (cI, 24, .inl (nF ELh1))), (mu, .inl (cI, 24, .inl (oF EUh1))), (wt, .inl (cI, 200, .inl (oF WTh1))), (ty, .inl (cI, 8, .inl (nF TY)))] := hD.sub [0, 1, 2, 3, 4, 5, 6, 7, 8, 9, 10, 11, 12, 13, 14] (by decide) rfl
  refine lv_iload_n hx hb dX6_branch_5 rfl (lv_at hl 1 rfl) ?_
  refine lv_iconst (v := nI 0) hx hb dX6_branch_6 (by decide +kernel) ?_
  refine lv_aload_n hx hb dX6_branch_7 rfl (lv_at hl 0 rfl) ?_
  refine va_get (D := D) (ci := 6) (v := .int (nI (n - 1))) (C := RX6) (T := TX6) (N := 20) hx hb hts inX6 hown hK hP 0 rfl rfl 16 (by decide) (hts _ mf_X6_97) (fun _ h9 => h9) rfl dX6_branch_8 ?_
  refine lv_iconst (v := nI 1) hx hb dX6_branch_11 (by decide +kernel) ?_
  refine lv_isub hx hb dX6_branch_12 ?_
  refine tq (y := (oI (n - 1))) (by show nI (n - 1) - nI 1 = nI (n - 1) - 1; rw [nI_one]) ?_
  refine ro_S (As := [.int (nI j), .int (nI 0), .int (oI (n - 1))]) (rest := []) ⟨hx, hb, hml, hown, hts⟩ (c_X6_in_o l D cI cJ cZ j 0 (n - 1) (by omega) (by omega) (by omega)) (k_X6_79 hts ⟨Nat.le_of_ble_eq_true rfl, Nat.le_of_ble_eq_true rfl⟩) hK hP [] rfl rfl hl.1 rfl (Nat.le_of_ble_eq_true rfl) dX6_branch_13 ⟨Nat.le_of_ble_eq_true rfl, Nat.le_of_ble_eq_true rfl⟩ ?_
  refine b_if_ne (tgt := 22) hx hb dX6_branch_16 (by decide) (fun c5 => ?_) (fun c5 => ?_)
  ·
    refine lv_iload_n hx hb dX6_branch_22 rfl (lv_at hl 2 rfl) ?_
    refine lv_tableOut (tgt := 102) hx hb dX6_branch_23 (Or.inr (tn_big (by omega) (by omega))) (by decide) ?_
    refine lv_ldc hx hb hown (hts _ mk_X6_83) dX6_branch_102 ?_
    exact wr_iret hx hb hr hlk hP hD hS dX6_branch_104 (⟨rfl, SOh1, n, EBh1, EAh1, EFh1, EWh1, ELh1, EUh1, n - 1, WTh1, 0, rfl⟩)
  ·
    exact (c5 (by omega)).elim
set_option maxHeartbeats 4000000 in
set_option maxRecDepth 100000 in
theorem c_X6_beside_neg (l : Launch) (D : va_G) (cI cJ cZ : ClassId) (m0 nw ps im mk wd so mb ma mf mw ml mu wt ty : Nat) (NW : Nat → Nat) (PS : Nat → Nat) (u : Nat) (IM : Nat → Nat) (MK : Nat → Nat) (sd : Nat) (WD : Nat → Nat) (s : Nat) (SO : Nat → Nat) (q : Nat) (EB : Nat → Nat) (EA : Nat → Nat) (EF : Nat → Nat) (EW : Nat → Nat) (EL : Nat → Nat) (EU : Nat → Nat) (br : Nat) (WT : Nat → Nat) (ww : Nat) (TY : Nat → Nat) (KS KL KW : Nat → Nat) (n A : Nat) (hn : n ≤ 24) (hk : ∀ k, k < n → Wf (KS k) (KL k)) (hw0 : Wf s A) (hR : RN NW KS KL KW n) (hRW : RW WD s A) (hso : Srt KS KL n) (BB BD BM BL BF BA BK : Nat → Nat) (hTr : TrX (gapF KS KL) n BB BD BM BL BF BA BK) (hv : ∀ k, k < n → KW k ≤ 9999) (x : Int32) (hx0 : x < 0) (sz : Nat) : WR l yX6_beside cX6_beside 4 (some .int) (rmN 6 133) D (ty3 cI cJ cZ) [.ref m0, .int x] [(m0, .inr (6, [.ref nw, .ref ps, .int (nI u), .ref im, .ref mk, .int (nI sd), .ref wd, .int (nI s), .ref so, .int (nI q), .ref mb, .ref ma, .ref mf, .ref mw, .ref ml, .ref mu, .int (nI br), .ref wt, .int (nI ww), .ref ty])), (nw, .inl (cI, 241, .inl (nF NW))), (ps, .inl (cI, 4820, .inl (nF PS))), (im, .inl (cI, 484, .inl (nF IM))), (mk, .inl (cZ, 2, .inl (nF MK))), (wd, .inl (cI, 8, .inl (nF WD))), (so, .inl (cI, 24, .inl (nF SO))), (mb, .inl (cI, 24, .inl (nF EB))), (ma, .inl (cI, 24, .inl (nF EA))), (mf, .inl (cI, 24, .inl (nF EF))), (mw, .inl (cI, 24, .inl (nF EW))), (ml, .inl (cI, 24, .inl (nF EL))), (mu, .inl (cI, 24, .inl (oF EU))), (wt, .inl (cI, 200, .inl (oF WT))), (ty, .inl (cI, 8, .inl (nF TY)))] sz (fun x w => x = some (.int (-1000000002)) ∧ ∃ (SO : Nat → Nat) (q : Nat) (EB EA EF EW EL EU : Nat → Nat) (br : Nat) (WT : Nat → Nat) (ww : Nat), w = [(m0, .inr (6, [.ref nw, .ref ps, .int (nI u), .ref im, .ref mk, .int (nI sd), .ref wd, .int (nI s), .ref so, .int (nI q), .ref mb, .ref ma, .ref mf, .ref mw, .ref ml, .ref mu, .int (nI br), .ref wt, .int (nI ww), .ref ty])), (nw, .inl (cI, 241, .inl (nF NW))), (ps, .inl (cI, 4820, .inl (nF PS))), (im, .inl (cI, 484, .inl (nF IM))), (mk, .inl (cZ, 2, .inl (nF MK))), (wd, .inl (cI, 8, .inl (nF WD))), (so, .inl (cI, 24, .inl (nF SO))), (mb, .inl (cI, 24, .inl (nF EB))), (ma, .inl (cI, 24, .inl (nF EA))), (mf, .inl (cI, 24, .inl (nF EF))), (mw, .inl (cI, 24, .inl (nF EW))), (ml, .inl (cI, 24, .inl (nF EL))), (mu, .inl (cI, 24, .inl (oF EU))), (wt, .inl (cI, 200, .inl (oF WT))), (ty, .inl (cI, 8, .inl (nF TY)))]) := by
  have hs8 := hw0.1
  have hA64 := hw0.2.1
  have hN0 := hR.1
  have hBK := tf_BK hTr hn
  have hDK := tf_DK hTr hn
  have hp := plc_le KS KL n s A
  have hcb := cbl_le KS KL n s A
  have hfl := fnd_le KS KL n s A
  refine wr_start (by decide) (Nat.le_of_ble_eq_true rfl) ?_
  intro pp ee ss mm below meth cd AA C0 hAA hP hK hD hS hN hnm ls hl
  obtain ⟨hx, hb, hr, hml, hown, hts, hlk⟩ := C0
  have hown : ss.vm.findClass RX6 = some mm.cls := hown
  have hl : lv_has ls 4 [(0, .ref m0), (1, .int x)] := hl
  have hP : va_P D vwCl [(m0, .inr (6, [.ref nw, .ref ps, .int (nI u), .ref im, .ref mk, .int (nI sd), .ref wd, .int (nI s), .ref so, .int (nI q), .ref mb, .ref ma, .ref mf, .ref mw, .ref ml, .ref mu, .int (nI br), .ref wt, .int (nI ww), .ref ty])), (nw, .inl (cI, 241, .inl (nF NW))), (ps, .inl (cI, 4820, .inl (nF PS))), (im, .inl (cI, 484, .inl (nF IM))), (mk, .inl (cZ, 2, .inl (nF MK))), (wd, .inl (cI, 8, .inl (nF WD))), (so, .inl (cI, 24, .inl (nF SO))), (mb, .inl (cI, 24, .inl (nF EB))), (ma, .inl (cI, 24, .inl (nF EA))), (mf, .inl (cI, 24, .inl (nF EF))), (mw, .inl (cI, 24, .inl (nF EW))), (ml, .inl (cI, 24, .inl (nF EL))), (mu, .inl (cI, 24, .inl (oF EU))), (wt, .inl (cI, 200, .inl (oF WT))), (ty, .inl (cI, 8, .inl (nF TY)))] ss.heap := hP
  refine lv_iload_n hx hb dX6_beside_0 rfl (lv_at hl 1 rfl) ?_
  refine lv_iconst (v := nI 0) hx hb dX6_beside_1 (by decide +kernel) ?_
  refine lv_iconst (v := nI 1) hx hb dX6_beside_2 (by decide +kernel) ?_
  refine ro_S (As := [.int x, .int (nI 0), .int (nI 1)]) (rest := []) ⟨hx, hb, hml, hown, hts⟩ (c_X6_in_neg l D cI cJ cZ x ((nI 1)) 0 hx0 (by omega)) (k_X6_79 hts ⟨Nat.le_of_ble_eq_true rfl, Nat.le_of_ble_eq_true rfl⟩) hK hP [] rfl rfl hl.1 rfl (Nat.le_of_ble_eq_true rfl) dX6_beside_3 ⟨Nat.le_of_ble_eq_true rfl, Nat.le_of_ble_eq_true rfl⟩ ?_
  refine n_if_ne (tgt := 12) hx hb dX6_beside_6 (by decide) (by decide) (fun h9 => absurd rfl h9) (fun _ => ?_)
  refine lv_ldc hx hb hown (hts _ mk_X6_83) dX6_beside_9 ?_
  exact wr_iret hx hb hr hlk hP hD hS dX6_beside_11 (⟨rfl, SO, q, EB, EA, EF, EW, EL, EU, br, WT, ww, rfl⟩)
set_option maxHeartbeats 4000000 in
set_option maxRecDepth 100000 in
theorem c_X6_beside_big (l : Launch) (D : va_G) (cI cJ cZ : ClassId) (m0 nw ps im mk wd so mb ma mf mw ml mu wt ty : Nat) (NW : Nat → Nat) (PS : Nat → Nat) (u : Nat) (IM : Nat → Nat) (MK : Nat → Nat) (sd : Nat) (WD : Nat → Nat) (s : Nat) (SO : Nat → Nat) (q : Nat) (EB : Nat → Nat) (EA : Nat → Nat) (EF : Nat → Nat) (EW : Nat → Nat) (EL : Nat → Nat) (EU : Nat → Nat) (br : Nat) (WT : Nat → Nat) (ww : Nat) (TY : Nat → Nat) (KS KL KW : Nat → Nat) (n A : Nat) (hn : n ≤ 24) (hk : ∀ k, k < n → Wf (KS k) (KL k)) (hw0 : Wf s A) (hR : RN NW KS KL KW n) (hRW : RW WD s A) (hso : Srt KS KL n) (BB BD BM BL BF BA BK : Nat → Nat) (hTr : TrX (gapF KS KL) n BB BD BM BL BF BA BK) (hv : ∀ k, k < n → KW k ≤ 9999) (j : Nat) (hj : j < 2 ^ 31) (hjb : 1 < j) (sz : Nat) : WR l yX6_beside cX6_beside 4 (some .int) (rmN 6 133) D (ty3 cI cJ cZ) [.ref m0, .int (nI j)] [(m0, .inr (6, [.ref nw, .ref ps, .int (nI u), .ref im, .ref mk, .int (nI sd), .ref wd, .int (nI s), .ref so, .int (nI q), .ref mb, .ref ma, .ref mf, .ref mw, .ref ml, .ref mu, .int (nI br), .ref wt, .int (nI ww), .ref ty])), (nw, .inl (cI, 241, .inl (nF NW))), (ps, .inl (cI, 4820, .inl (nF PS))), (im, .inl (cI, 484, .inl (nF IM))), (mk, .inl (cZ, 2, .inl (nF MK))), (wd, .inl (cI, 8, .inl (nF WD))), (so, .inl (cI, 24, .inl (nF SO))), (mb, .inl (cI, 24, .inl (nF EB))), (ma, .inl (cI, 24, .inl (nF EA))), (mf, .inl (cI, 24, .inl (nF EF))), (mw, .inl (cI, 24, .inl (nF EW))), (ml, .inl (cI, 24, .inl (nF EL))), (mu, .inl (cI, 24, .inl (oF EU))), (wt, .inl (cI, 200, .inl (oF WT))), (ty, .inl (cI, 8, .inl (nF TY)))] sz (fun x w => x = some (.int (-1000000002)) ∧ ∃ (SO : Nat → Nat) (q : Nat) (EB EA EF EW EL EU : Nat → Nat) (br : Nat) (WT : Nat → Nat) (ww : Nat), w = [(m0, .inr (6, [.ref nw, .ref ps, .int (nI u), .ref im, .ref mk, .int (nI sd), .ref wd, .int (nI s), .ref so, .int (nI q), .ref mb, .ref ma, .ref mf, .ref mw, .ref ml, .ref mu, .int (nI br), .ref wt, .int (nI ww), .ref ty])), (nw, .inl (cI, 241, .inl (nF NW))), (ps, .inl (cI, 4820, .inl (nF PS))), (im, .inl (cI, 484, .inl (nF IM))), (mk, .inl (cZ, 2, .inl (nF MK))), (wd, .inl (cI, 8, .inl (nF WD))), (so, .inl (cI, 24, .inl (nF SO))), (mb, .inl (cI, 24, .inl (nF EB))), (ma, .inl (cI, 24, .inl (nF EA))), (mf, .inl (cI, 24, .inl (nF EF))), (mw, .inl (cI, 24, .inl (nF EW))), (ml, .inl (cI, 24, .inl (nF EL))), (mu, .inl (cI, 24, .inl (oF EU))), (wt, .inl (cI, 200, .inl (oF WT))), (ty, .inl (cI, 8, .inl (nF TY)))]) := by
  have hs8 := hw0.1
  have hA64 := hw0.2.1
  have hN0 := hR.1
  have hBK := tf_BK hTr hn
  have hDK := tf_DK hTr hn
  have hp := plc_le KS KL n s A
  have hcb := cbl_le KS KL n s A
  have hfl := fnd_le KS KL n s A
  refine wr_start (by decide) (Nat.le_of_ble_eq_true rfl) ?_
  intro pp ee ss mm below meth cd AA C0 hAA hP hK hD hS hN hnm ls hl
  obtain ⟨hx, hb, hr, hml, hown, hts, hlk⟩ := C0
  have hown : ss.vm.findClass RX6 = some mm.cls := hown
  have hl : lv_has ls 4 [(0, .ref m0), (1, .int (nI j))] := hl
  have hP : va_P D vwCl [(m0, .inr (6, [.ref nw, .ref ps, .int (nI u), .ref im, .ref mk, .int (nI sd), .ref wd, .int (nI s), .ref so, .int (nI q), .ref mb, .ref ma, .ref mf, .ref mw, .ref ml, .ref mu, .int (nI br), .ref wt, .int (nI ww), .ref ty])), (nw, .inl (cI, 241, .inl (nF NW))), (ps, .inl (cI, 4820, .inl (nF PS))), (im, .inl (cI, 484, .inl (nF IM))), (mk, .inl (cZ, 2, .inl (nF MK))), (wd, .inl (cI, 8, .inl (nF WD))), (so, .inl (cI, 24, .inl (nF SO))), (mb, .inl (cI, 24, .inl (nF EB))), (ma, .inl (cI, 24, .inl (nF EA))), (mf, .inl (cI, 24, .inl (nF EF))), (mw, .inl (cI, 24, .inl (nF EW))), (ml, .inl (cI, 24, .inl (nF EL))), (mu, .inl (cI, 24, .inl (oF EU))), (wt, .inl (cI, 200, .inl (oF WT))), (ty, .inl (cI, 8, .inl (nF TY)))] ss.heap := hP
  refine lv_iload_n hx hb dX6_beside_0 rfl (lv_at hl 1 rfl) ?_
  refine lv_iconst (v := nI 0) hx hb dX6_beside_1 (by decide +kernel) ?_
  refine lv_iconst (v := nI 1) hx hb dX6_beside_2 (by decide +kernel) ?_
  refine ro_S (As := [.int (nI j), .int (nI 0), .int (nI 1)]) (rest := []) ⟨hx, hb, hml, hown, hts⟩ (c_X6_in l D cI cJ cZ j 0 1 (by omega) (by omega) (by omega)) (k_X6_79 hts ⟨Nat.le_of_ble_eq_true rfl, Nat.le_of_ble_eq_true rfl⟩) hK hP [] rfl rfl hl.1 rfl (Nat.le_of_ble_eq_true rfl) dX6_beside_3 ⟨Nat.le_of_ble_eq_true rfl, Nat.le_of_ble_eq_true rfl⟩ ?_
  refine b_if_ne (tgt := 12) hx hb dX6_beside_6 (by decide) (fun c1 => ?_) (fun c1 => ?_)
  ·
    exact absurd c1 (by omega)
  ·
    refine lv_ldc hx hb hown (hts _ mk_X6_83) dX6_beside_9 ?_
    exact wr_iret hx hb hr hlk hP hD hS dX6_beside_11 (⟨rfl, SO, q, EB, EA, EF, EW, EL, EU, br, WT, ww, rfl⟩)
set_option maxHeartbeats 4000000 in
set_option maxRecDepth 100000 in
theorem c_X6_beside_0z (l : Launch) (D : va_G) (cI cJ cZ : ClassId) (m0 nw ps im mk wd so mb ma mf mw ml mu wt ty : Nat) (NW : Nat → Nat) (PS : Nat → Nat) (u : Nat) (IM : Nat → Nat) (MK : Nat → Nat) (sd : Nat) (WD : Nat → Nat) (s : Nat) (SO : Nat → Nat) (q : Nat) (EB : Nat → Nat) (EA : Nat → Nat) (EF : Nat → Nat) (EW : Nat → Nat) (EL : Nat → Nat) (EU : Nat → Nat) (br : Nat) (WT : Nat → Nat) (ww : Nat) (TY : Nat → Nat) (KS KL KW : Nat → Nat) (n A : Nat) (hn : n ≤ 24) (hk : ∀ k, k < n → Wf (KS k) (KL k)) (hw0 : Wf s A) (hR : RN NW KS KL KW n) (hRW : RW WD s A) (hso : Srt KS KL n) (BB BD BM BL BF BA BK : Nat → Nat) (hTr : TrX (gapF KS KL) n BB BD BM BL BF BA BK) (hv : ∀ k, k < n → KW k ≤ 9999) (hc : plc KS KL n s A = 0) (sz : Nat) : WR l yX6_beside cX6_beside 4 (some .int) (rmN 6 133) D (ty3 cI cJ cZ) [.ref m0, .int (nI 0)] [(m0, .inr (6, [.ref nw, .ref ps, .int (nI u), .ref im, .ref mk, .int (nI sd), .ref wd, .int (nI s), .ref so, .int (nI q), .ref mb, .ref ma, .ref mf, .ref mw, .ref ml, .ref mu, .int (nI br), .ref wt, .int (nI ww), .ref ty])), (nw, .inl (cI, 241, .inl (nF NW))), (ps, .inl (cI, 4820, .inl (nF PS))), (im, .inl (cI, 484, .inl (nF IM))), (mk, .inl (cZ, 2, .inl (nF MK))), (wd, .inl (cI, 8, .inl (nF WD))), (so, .inl (cI, 24, .inl (nF SO))), (mb, .inl (cI, 24, .inl (nF EB))), (ma, .inl (cI, 24, .inl (nF EA))), (mf, .inl (cI, 24, .inl (nF EF))), (mw, .inl (cI, 24, .inl (nF EW))), (ml, .inl (cI, 24, .inl (nF EL))), (mu, .inl (cI, 24, .inl (oF EU))), (wt, .inl (cI, 200, .inl (oF WT))), (ty, .inl (cI, 8, .inl (nF TY)))] sz (fun x w => x = some (.int (oI 0)) ∧ ∃ (SO : Nat → Nat) (q : Nat) (EB EA EF EW EL EU : Nat → Nat) (br : Nat) (WT : Nat → Nat) (ww : Nat), w = [(m0, .inr (6, [.ref nw, .ref ps, .int (nI u), .ref im, .ref mk, .int (nI sd), .ref wd, .int (nI s), .ref so, .int (nI q), .ref mb, .ref ma, .ref mf, .ref mw, .ref ml, .ref mu, .int (nI br), .ref wt, .int (nI ww), .ref ty])), (nw, .inl (cI, 241, .inl (nF NW))), (ps, .inl (cI, 4820, .inl (nF PS))), (im, .inl (cI, 484, .inl (nF IM))), (mk, .inl (cZ, 2, .inl (nF MK))), (wd, .inl (cI, 8, .inl (nF WD))), (so, .inl (cI, 24, .inl (nF SO))), (mb, .inl (cI, 24, .inl (nF EB))), (ma, .inl (cI, 24, .inl (nF EA))), (mf, .inl (cI, 24, .inl (nF EF))), (mw, .inl (cI, 24, .inl (nF EW))), (ml, .inl (cI, 24, .inl (nF EL))), (mu, .inl (cI, 24, .inl (oF EU))), (wt, .inl (cI, 200, .inl (oF WT))), (ty, .inl (cI, 8, .inl (nF TY)))]) := by
  have hs8 := hw0.1
  have hA64 := hw0.2.1
  have hN0 := hR.1
  have hBK := tf_BK hTr hn
  have hDK := tf_DK hTr hn
  have hp := plc_le KS KL n s A
  have hcb := cbl_le KS KL n s A
  have hfl := fnd_le KS KL n s A
  refine wr_start (by decide) (Nat.le_of_ble_eq_true rfl) ?_
  intro pp ee ss mm below meth cd AA C0 hAA hP hK hD hS hN hnm ls hl
  obtain ⟨hx, hb, hr, hml, hown, hts, hlk⟩ := C0
  have hown : ss.vm.findClass RX6 = some mm.cls := hown
  have hl : lv_has ls 4 [(0, .ref m0), (1, .int (nI 0))] := hl
  have hP : va_P D vwCl [(m0, .inr (6, [.ref nw, .ref ps, .int (nI u), .ref im, .ref mk, .int (nI sd), .ref wd, .int (nI s), .ref so, .int (nI q), .ref mb, .ref ma, .ref mf, .ref mw, .ref ml, .ref mu, .int (nI br), .ref wt, .int (nI ww), .ref ty])), (nw, .inl (cI, 241, .inl (nF NW))), (ps, .inl (cI, 4820, .inl (nF PS))), (im, .inl (cI, 484, .inl (nF IM))), (mk, .inl (cZ, 2, .inl (nF MK))), (wd, .inl (cI, 8, .inl (nF WD))), (so, .inl (cI, 24, .inl (nF SO))), (mb, .inl (cI, 24, .inl (nF EB))), (ma, .inl (cI, 24, .inl (nF EA))), (mf, .inl (cI, 24, .inl (nF EF))), (mw, .inl (cI, 24, .inl (nF EW))), (ml, .inl (cI, 24, .inl (nF EL))), (mu, .inl (cI, 24, .inl (oF EU))), (wt, .inl (cI, 200, .inl (oF WT))), (ty, .inl (cI, 8, .inl (nF TY)))] ss.heap := hP
  refine lv_iload_n hx hb dX6_beside_0 rfl (lv_at hl 1 rfl) ?_
  refine lv_iconst (v := nI 0) hx hb dX6_beside_1 (by decide +kernel) ?_
  refine lv_iconst (v := nI 1) hx hb dX6_beside_2 (by decide +kernel) ?_
  refine ro_S (As := [.int (nI 0), .int (nI 0), .int (nI 1)]) (rest := []) ⟨hx, hb, hml, hown, hts⟩ (c_X6_in l D cI cJ cZ 0 0 1 (by omega) (by omega) (by omega)) (k_X6_79 hts ⟨Nat.le_of_ble_eq_true rfl, Nat.le_of_ble_eq_true rfl⟩) hK hP [] rfl rfl hl.1 rfl (Nat.le_of_ble_eq_true rfl) dX6_beside_3 ⟨Nat.le_of_ble_eq_true rfl, Nat.le_of_ble_eq_true rfl⟩ ?_
  refine b_if_ne (tgt := 12) hx hb dX6_beside_6 (by decide) (fun c1 => ?_) (fun c1 => ?_)
  ·
    refine lv_aload_n hx hb dX6_beside_12 rfl (lv_at hl 0 rfl) ?_
    refine ro_V (As := []) (rest := []) ⟨hx, hb, hml, hown, hts⟩ (c_X6_place l D cI cJ cZ m0 nw ps im mk wd so mb ma mf mw ml mu wt ty NW PS u IM MK sd WD s SO q EB EA EF EW EL EU br WT ww TY KS KL KW n A hn hk hw0 hR hRW) (k_X6_75 hts ⟨Nat.le_of_ble_eq_true rfl, Nat.le_of_ble_eq_true rfl⟩) hK hP 0 rfl rfl rfl [0, 1, 2, 3, 4, 5, 6, 7, 8, 9, 10, 11, 12, 13, 14] rfl rfl hl.1 rfl (Nat.le_of_ble_eq_true rfl) dX6_beside_13 ⟨Nat.le_of_ble_eq_true rfl, Nat.le_of_ble_eq_true rfl⟩ ?_
    refine lv_istore_n (lv' := [(2, .int (nI (plc KS KL n s A))), (0, .ref m0), (1, .int (nI 0))]) hx hb dX6_beside_16 rfl hl (by decide) rfl (fun ls hl => ?_)
    refine lv_iload_n hx hb dX6_beside_17 rfl (lv_at hl 2 rfl) ?_
    refine n_if_ne (tgt := 25) hx hb dX6_beside_18 (by decide) (by decide) (fun h9 => absurd rfl h9) (fun _ => ?_)
    refine lv_iload_n hx hb dX6_beside_21 rfl (lv_at hl 0 rfl) ?_
    refine lv_iconst (v := nI 1) hx hb dX6_beside_22 (by decide +kernel) ?_
    refine lv_isub hx hb dX6_beside_23 ?_
    refine tq (y := (oI 0)) (by rw [hc]; decide +kernel) ?_
    exact wr_iret hx hb hr hlk hP hD hS dX6_beside_24 (⟨rfl, SO, q, EB, EA, EF, EW, EL, EU, br, WT, ww, rfl⟩)
  ·
    exact (c1 (by decide)).elim
set_option maxHeartbeats 4000000 in
set_option maxRecDepth 100000 in
theorem c_X6_beside_0p (l : Launch) (D : va_G) (cI cJ cZ : ClassId) (m0 nw ps im mk wd so mb ma mf mw ml mu wt ty : Nat) (NW : Nat → Nat) (PS : Nat → Nat) (u : Nat) (IM : Nat → Nat) (MK : Nat → Nat) (sd : Nat) (WD : Nat → Nat) (s : Nat) (SO : Nat → Nat) (q : Nat) (EB : Nat → Nat) (EA : Nat → Nat) (EF : Nat → Nat) (EW : Nat → Nat) (EL : Nat → Nat) (EU : Nat → Nat) (br : Nat) (WT : Nat → Nat) (ww : Nat) (TY : Nat → Nat) (KS KL KW : Nat → Nat) (n A : Nat) (hn : n ≤ 24) (hk : ∀ k, k < n → Wf (KS k) (KL k)) (hw0 : Wf s A) (hR : RN NW KS KL KW n) (hRW : RW WD s A) (hso : Srt KS KL n) (BB BD BM BL BF BA BK : Nat → Nat) (hTr : TrX (gapF KS KL) n BB BD BM BL BF BA BK) (hv : ∀ k, k < n → KW k ≤ 9999) (hc : 0 < plc KS KL n s A) (sz : Nat) : WR l yX6_beside cX6_beside 4 (some .int) (rmN 6 133) D (ty3 cI cJ cZ) [.ref m0, .int (nI 0)] [(m0, .inr (6, [.ref nw, .ref ps, .int (nI u), .ref im, .ref mk, .int (nI sd), .ref wd, .int (nI s), .ref so, .int (nI q), .ref mb, .ref ma, .ref mf, .ref mw, .ref ml, .ref mu, .int (nI br), .ref wt, .int (nI ww), .ref ty])), (nw, .inl (cI, 241, .inl (nF NW))), (ps, .inl (cI, 4820, .inl (nF PS))), (im, .inl (cI, 484, .inl (nF IM))), (mk, .inl (cZ, 2, .inl (nF MK))), (wd, .inl (cI, 8, .inl (nF WD))), (so, .inl (cI, 24, .inl (nF SO))), (mb, .inl (cI, 24, .inl (nF EB))), (ma, .inl (cI, 24, .inl (nF EA))), (mf, .inl (cI, 24, .inl (nF EF))), (mw, .inl (cI, 24, .inl (nF EW))), (ml, .inl (cI, 24, .inl (nF EL))), (mu, .inl (cI, 24, .inl (oF EU))), (wt, .inl (cI, 200, .inl (oF WT))), (ty, .inl (cI, 8, .inl (nF TY)))] sz (fun x w => x = some (.int (oI (if ((plc KS KL n s A) - 1) < n then ((plc KS KL n s A) - 1) + 1 else 0))) ∧ ∃ (SO : Nat → Nat) (q : Nat) (EB EA EF EW EL EU : Nat → Nat) (br : Nat) (WT : Nat → Nat) (ww : Nat), w = [(m0, .inr (6, [.ref nw, .ref ps, .int (nI u), .ref im, .ref mk, .int (nI sd), .ref wd, .int (nI s), .ref so, .int (nI q), .ref mb, .ref ma, .ref mf, .ref mw, .ref ml, .ref mu, .int (nI br), .ref wt, .int (nI ww), .ref ty])), (nw, .inl (cI, 241, .inl (nF NW))), (ps, .inl (cI, 4820, .inl (nF PS))), (im, .inl (cI, 484, .inl (nF IM))), (mk, .inl (cZ, 2, .inl (nF MK))), (wd, .inl (cI, 8, .inl (nF WD))), (so, .inl (cI, 24, .inl (nF SO))), (mb, .inl (cI, 24, .inl (nF EB))), (ma, .inl (cI, 24, .inl (nF EA))), (mf, .inl (cI, 24, .inl (nF EF))), (mw, .inl (cI, 24, .inl (nF EW))), (ml, .inl (cI, 24, .inl (nF EL))), (mu, .inl (cI, 24, .inl (oF EU))), (wt, .inl (cI, 200, .inl (oF WT))), (ty, .inl (cI, 8, .inl (nF TY)))]) := by
  have hs8 := hw0.1
  have hA64 := hw0.2.1
  have hN0 := hR.1
  have hBK := tf_BK hTr hn
  have hDK := tf_DK hTr hn
  have hp := plc_le KS KL n s A
  have hcb := cbl_le KS KL n s A
  have hfl := fnd_le KS KL n s A
  refine wr_start (by decide) (Nat.le_of_ble_eq_true rfl) ?_
  intro pp ee ss mm below meth cd AA C0 hAA hP hK hD hS hN hnm ls hl
  obtain ⟨hx, hb, hr, hml, hown, hts, hlk⟩ := C0
  have hown : ss.vm.findClass RX6 = some mm.cls := hown
  have hl : lv_has ls 4 [(0, .ref m0), (1, .int (nI 0))] := hl
  have hP : va_P D vwCl [(m0, .inr (6, [.ref nw, .ref ps, .int (nI u), .ref im, .ref mk, .int (nI sd), .ref wd, .int (nI s), .ref so, .int (nI q), .ref mb, .ref ma, .ref mf, .ref mw, .ref ml, .ref mu, .int (nI br), .ref wt, .int (nI ww), .ref ty])), (nw, .inl (cI, 241, .inl (nF NW))), (ps, .inl (cI, 4820, .inl (nF PS))), (im, .inl (cI, 484, .inl (nF IM))), (mk, .inl (cZ, 2, .inl (nF MK))), (wd, .inl (cI, 8, .inl (nF WD))), (so, .inl (cI, 24, .inl (nF SO))), (mb, .inl (cI, 24, .inl (nF EB))), (ma, .inl (cI, 24, .inl (nF EA))), (mf, .inl (cI, 24, .inl (nF EF))), (mw, .inl (cI, 24, .inl (nF EW))), (ml, .inl (cI, 24, .inl (nF EL))), (mu, .inl (cI, 24, .inl (oF EU))), (wt, .inl (cI, 200, .inl (oF WT))), (ty, .inl (cI, 8, .inl (nF TY)))] ss.heap := hP
  refine lv_iload_n hx hb dX6_beside_0 rfl (lv_at hl 1 rfl) ?_
  refine lv_iconst (v := nI 0) hx hb dX6_beside_1 (by decide +kernel) ?_
  refine lv_iconst (v := nI 1) hx hb dX6_beside_2 (by decide +kernel) ?_
  refine ro_S (As := [.int (nI 0), .int (nI 0), .int (nI 1)]) (rest := []) ⟨hx, hb, hml, hown, hts⟩ (c_X6_in l D cI cJ cZ 0 0 1 (by omega) (by omega) (by omega)) (k_X6_79 hts ⟨Nat.le_of_ble_eq_true rfl, Nat.le_of_ble_eq_true rfl⟩) hK hP [] rfl rfl hl.1 rfl (Nat.le_of_ble_eq_true rfl) dX6_beside_3 ⟨Nat.le_of_ble_eq_true rfl, Nat.le_of_ble_eq_true rfl⟩ ?_
  refine b_if_ne (tgt := 12) hx hb dX6_beside_6 (by decide) (fun c1 => ?_) (fun c1 => ?_)
  ·
    refine lv_aload_n hx hb dX6_beside_12 rfl (lv_at hl 0 rfl) ?_
    refine ro_V (As := []) (rest := []) ⟨hx, hb, hml, hown, hts⟩ (c_X6_place l D cI cJ cZ m0 nw ps im mk wd so mb ma mf mw ml mu wt ty NW PS u IM MK sd WD s SO q EB EA EF EW EL EU br WT ww TY KS KL KW n A hn hk hw0 hR hRW) (k_X6_75 hts ⟨Nat.le_of_ble_eq_true rfl, Nat.le_of_ble_eq_true rfl⟩) hK hP 0 rfl rfl rfl [0, 1, 2, 3, 4, 5, 6, 7, 8, 9, 10, 11, 12, 13, 14] rfl rfl hl.1 rfl (Nat.le_of_ble_eq_true rfl) dX6_beside_13 ⟨Nat.le_of_ble_eq_true rfl, Nat.le_of_ble_eq_true rfl⟩ ?_
    refine lv_istore_n (lv' := [(2, .int (nI (plc KS KL n s A))), (0, .ref m0), (1, .int (nI 0))]) hx hb dX6_beside_16 rfl hl (by decide) rfl (fun ls hl => ?_)
    refine lv_iload_n hx hb dX6_beside_17 rfl (lv_at hl 2 rfl) ?_
    refine n_if_ne (tgt := 25) hx hb dX6_beside_18 (by decide) (by decide) (fun h9 => absurd rfl h9) (fun _ => ?_)
    refine lv_iload_n hx hb dX6_beside_21 rfl (lv_at hl 0 rfl) ?_
    refine lv_iconst (v := nI 1) hx hb dX6_beside_22 (by decide +kernel) ?_
    refine lv_isub hx hb dX6_beside_23 ?_
    refine tq (y := (oI (if ((plc KS KL n s A) - 1) < n then ((plc KS KL n s A) - 1) + 1 else 0))) (by rw [if_pos (by omega), oI_s, pk_sub (by omega)]) ?_
    exact wr_iret hx hb hr hlk hP hD hS dX6_beside_24 (⟨rfl, SO, q, EB, EA, EF, EW, EL, EU, br, WT, ww, rfl⟩)
  ·
    exact (c1 (by decide)).elim
set_option maxHeartbeats 4000000 in
set_option maxRecDepth 100000 in
theorem c_X6_beside_1y (l : Launch) (D : va_G) (cI cJ cZ : ClassId) (m0 nw ps im mk wd so mb ma mf mw ml mu wt ty : Nat) (NW : Nat → Nat) (PS : Nat → Nat) (u : Nat) (IM : Nat → Nat) (MK : Nat → Nat) (sd : Nat) (WD : Nat → Nat) (s : Nat) (SO : Nat → Nat) (q : Nat) (EB : Nat → Nat) (EA : Nat → Nat) (EF : Nat → Nat) (EW : Nat → Nat) (EL : Nat → Nat) (EU : Nat → Nat) (br : Nat) (WT : Nat → Nat) (ww : Nat) (TY : Nat → Nat) (KS KL KW : Nat → Nat) (n A : Nat) (hn : n ≤ 24) (hk : ∀ k, k < n → Wf (KS k) (KL k)) (hw0 : Wf s A) (hR : RN NW KS KL KW n) (hRW : RW WD s A) (hso : Srt KS KL n) (BB BD BM BL BF BA BK : Nat → Nat) (hTr : TrX (gapF KS KL) n BB BD BM BL BF BA BK) (hv : ∀ k, k < n → KW k ≤ 9999) (ha : plc KS KL n s A < n ∧ unl (KS (plc KS KL n s A)) (KL (plc KS KL n s A)) s A = 72) (sz : Nat) : WR l yX6_beside cX6_beside 4 (some .int) (rmN 6 133) D (ty3 cI cJ cZ) [.ref m0, .int (nI 1)] [(m0, .inr (6, [.ref nw, .ref ps, .int (nI u), .ref im, .ref mk, .int (nI sd), .ref wd, .int (nI s), .ref so, .int (nI q), .ref mb, .ref ma, .ref mf, .ref mw, .ref ml, .ref mu, .int (nI br), .ref wt, .int (nI ww), .ref ty])), (nw, .inl (cI, 241, .inl (nF NW))), (ps, .inl (cI, 4820, .inl (nF PS))), (im, .inl (cI, 484, .inl (nF IM))), (mk, .inl (cZ, 2, .inl (nF MK))), (wd, .inl (cI, 8, .inl (nF WD))), (so, .inl (cI, 24, .inl (nF SO))), (mb, .inl (cI, 24, .inl (nF EB))), (ma, .inl (cI, 24, .inl (nF EA))), (mf, .inl (cI, 24, .inl (nF EF))), (mw, .inl (cI, 24, .inl (nF EW))), (ml, .inl (cI, 24, .inl (nF EL))), (mu, .inl (cI, 24, .inl (oF EU))), (wt, .inl (cI, 200, .inl (oF WT))), (ty, .inl (cI, 8, .inl (nF TY)))] sz (fun x w => x = some (.int (oI (if ((plc KS KL n s A) + 1) < n then ((plc KS KL n s A) + 1) + 1 else 0))) ∧ ∃ (SO : Nat → Nat) (q : Nat) (EB EA EF EW EL EU : Nat → Nat) (br : Nat) (WT : Nat → Nat) (ww : Nat), w = [(m0, .inr (6, [.ref nw, .ref ps, .int (nI u), .ref im, .ref mk, .int (nI sd), .ref wd, .int (nI s), .ref so, .int (nI q), .ref mb, .ref ma, .ref mf, .ref mw, .ref ml, .ref mu, .int (nI br), .ref wt, .int (nI ww), .ref ty])), (nw, .inl (cI, 241, .inl (nF NW))), (ps, .inl (cI, 4820, .inl (nF PS))), (im, .inl (cI, 484, .inl (nF IM))), (mk, .inl (cZ, 2, .inl (nF MK))), (wd, .inl (cI, 8, .inl (nF WD))), (so, .inl (cI, 24, .inl (nF SO))), (mb, .inl (cI, 24, .inl (nF EB))), (ma, .inl (cI, 24, .inl (nF EA))), (mf, .inl (cI, 24, .inl (nF EF))), (mw, .inl (cI, 24, .inl (nF EW))), (ml, .inl (cI, 24, .inl (nF EL))), (mu, .inl (cI, 24, .inl (oF EU))), (wt, .inl (cI, 200, .inl (oF WT))), (ty, .inl (cI, 8, .inl (nF TY)))]) := by
  have hs8 := hw0.1
  have hA64 := hw0.2.1
  have hN0 := hR.1
  have hBK := tf_BK hTr hn
  have hDK := tf_DK hTr hn
  have hp := plc_le KS KL n s A
  have hcb := cbl_le KS KL n s A
  have hfl := fnd_le KS KL n s A
  refine wr_start (by decide) (Nat.le_of_ble_eq_true rfl) ?_
  intro pp ee ss mm below meth cd AA C0 hAA hP hK hD hS hN hnm ls hl
  obtain ⟨hx, hb, hr, hml, hown, hts, hlk⟩ := C0
  have hown : ss.vm.findClass RX6 = some mm.cls := hown
  have hl : lv_has ls 4 [(0, .ref m0), (1, .int (nI 1))] := hl
  have hP : va_P D vwCl [(m0, .inr (6, [.ref nw, .ref ps, .int (nI u), .ref im, .ref mk, .int (nI sd), .ref wd, .int (nI s), .ref so, .int (nI q), .ref mb, .ref ma, .ref mf, .ref mw, .ref ml, .ref mu, .int (nI br), .ref wt, .int (nI ww), .ref ty])), (nw, .inl (cI, 241, .inl (nF NW))), (ps, .inl (cI, 4820, .inl (nF PS))), (im, .inl (cI, 484, .inl (nF IM))), (mk, .inl (cZ, 2, .inl (nF MK))), (wd, .inl (cI, 8, .inl (nF WD))), (so, .inl (cI, 24, .inl (nF SO))), (mb, .inl (cI, 24, .inl (nF EB))), (ma, .inl (cI, 24, .inl (nF EA))), (mf, .inl (cI, 24, .inl (nF EF))), (mw, .inl (cI, 24, .inl (nF EW))), (ml, .inl (cI, 24, .inl (nF EL))), (mu, .inl (cI, 24, .inl (oF EU))), (wt, .inl (cI, 200, .inl (oF WT))), (ty, .inl (cI, 8, .inl (nF TY)))] ss.heap := hP
  refine lv_iload_n hx hb dX6_beside_0 rfl (lv_at hl 1 rfl) ?_
  refine lv_iconst (v := nI 0) hx hb dX6_beside_1 (by decide +kernel) ?_
  refine lv_iconst (v := nI 1) hx hb dX6_beside_2 (by decide +kernel) ?_
  refine ro_S (As := [.int (nI 1), .int (nI 0), .int (nI 1)]) (rest := []) ⟨hx, hb, hml, hown, hts⟩ (c_X6_in l D cI cJ cZ 1 0 1 (by omega) (by omega) (by omega)) (k_X6_79 hts ⟨Nat.le_of_ble_eq_true rfl, Nat.le_of_ble_eq_true rfl⟩) hK hP [] rfl rfl hl.1 rfl (Nat.le_of_ble_eq_true rfl) dX6_beside_3 ⟨Nat.le_of_ble_eq_true rfl, Nat.le_of_ble_eq_true rfl⟩ ?_
  refine b_if_ne (tgt := 12) hx hb dX6_beside_6 (by decide) (fun c1 => ?_) (fun c1 => ?_)
  ·
    refine lv_aload_n hx hb dX6_beside_12 rfl (lv_at hl 0 rfl) ?_
    refine ro_V (As := []) (rest := []) ⟨hx, hb, hml, hown, hts⟩ (c_X6_place l D cI cJ cZ m0 nw ps im mk wd so mb ma mf mw ml mu wt ty NW PS u IM MK sd WD s SO q EB EA EF EW EL EU br WT ww TY KS KL KW n A hn hk hw0 hR hRW) (k_X6_75 hts ⟨Nat.le_of_ble_eq_true rfl, Nat.le_of_ble_eq_true rfl⟩) hK hP 0 rfl rfl rfl [0, 1, 2, 3, 4, 5, 6, 7, 8, 9, 10, 11, 12, 13, 14] rfl rfl hl.1 rfl (Nat.le_of_ble_eq_true rfl) dX6_beside_13 ⟨Nat.le_of_ble_eq_true rfl, Nat.le_of_ble_eq_true rfl⟩ ?_
    refine lv_istore_n (lv' := [(2, .int (nI (plc KS KL n s A))), (0, .ref m0), (1, .int (nI 1))]) hx hb dX6_beside_16 rfl hl (by decide) rfl (fun ls hl => ?_)
    refine lv_iload_n hx hb dX6_beside_17 rfl (lv_at hl 2 rfl) ?_
    refine n_if_ne (tgt := 25) hx hb dX6_beside_18 (by decide) (by decide) (fun _ => ?_) (fun h9 => absurd h9 (by decide))
    refine lv_aload_n hx hb dX6_beside_25 rfl (lv_at hl 1 rfl) ?_
    refine ro_V (As := []) (rest := []) ⟨hx, hb, hml, hown, hts⟩ (c_X6_keyNow l D cI cJ cZ m0 nw ps im mk wd so mb ma mf mw ml mu wt ty NW PS u IM MK sd WD s SO q EB EA EF EW EL EU br WT ww TY KS KL KW n A hn hk hw0 hR hRW) (k_X6_129 hts ⟨Nat.le_of_ble_eq_true rfl, Nat.le_of_ble_eq_true rfl⟩) hK hP 0 rfl rfl rfl [0, 1, 2, 3, 4, 5, 6, 7, 8, 9, 10, 11, 12, 13, 14] rfl rfl hl.1 rfl (Nat.le_of_ble_eq_true rfl) dX6_beside_26 ⟨Nat.le_of_ble_eq_true rfl, Nat.le_of_ble_eq_true rfl⟩ ?_
    refine tq (y := nI (plc KS KL n s A)) (by rw [fnd_yes ha, oI_s]) ?_
    refine lv_iconst (v := oI 0) hx hb dX6_beside_29 (by decide +kernel) ?_
    refine no_ne (tgt := 37) hx hb dX6_beside_30 (by decide) (by omega) ?_
    refine lv_iload_n hx hb dX6_beside_37 rfl (lv_at hl 0 rfl) ?_
    refine lv_iconst (v := nI 1) hx hb dX6_beside_38 (by decide +kernel) ?_
    refine n_iadd hx hb dX6_beside_39 ?_
    refine lv_istore_n (lv' := [(3, .int (nI ((plc KS KL n s A) + 1))), (2, .int (nI (plc KS KL n s A))), (0, .ref m0), (1, .int (nI 1))]) hx hb dX6_beside_40 rfl hl (by decide) rfl (fun ls hl => ?_)
    refine lv_iload_n hx hb dX6_beside_41 rfl (lv_at hl 0 rfl) ?_
    refine lv_aload_n hx hb dX6_beside_42 rfl (lv_at hl 2 rfl) ?_
    refine va_get (D := D) (ci := 6) (v := .ref nw) (C := RX6) (T := TX6) (N := 20) hx hb hts inX6 hown hK hP 0 rfl rfl 0 (by decide) (hts _ mf_X6_7) (fun _ h9 => h9) rfl dX6_beside_43 ?_
    refine lv_iconst (v := nI 0) hx hb dX6_beside_46 (by decide +kernel) ?_
    refine n_iald hx hb hK hP 1 0 rfl rfl (k := 0) (by omega) (by decide) dX6_beside_47 ?_
    refine tq (y := nI n) (congrArg nI (hN0)) ?_
    refine n_ge (tgt := 55) hx hb dX6_beside_48 (by decide) (by omega) (by omega) (fun c4 => ?_) (fun c4 => ?_)
    ·
      refine lv_iconst (v := oI 0) hx hb dX6_beside_55 (by decide +kernel) ?_
      refine tq (y := (oI (if ((plc KS KL n s A) + 1) < n then ((plc KS KL n s A) + 1) + 1 else 0))) (by rw [if_neg (by omega)]) ?_
      exact wr_iret hx hb hr hlk hP hD hS dX6_beside_56 (⟨rfl, SO, q, EB, EA, EF, EW, EL, EU, br, WT, ww, rfl⟩)
    ·
      refine lv_iload_n hx hb dX6_beside_51 rfl (lv_at hl 0 rfl) ?_
      refine lv_goto (tgt := 56) hx hb dX6_beside_52 (by decide) ?_
      refine tq (y := (oI (if ((plc KS KL n s A) + 1) < n then ((plc KS KL n s A) + 1) + 1 else 0))) (by rw [if_pos (by omega), oI_s]) ?_
      exact wr_iret hx hb hr hlk hP hD hS dX6_beside_56 (⟨rfl, SO, q, EB, EA, EF, EW, EL, EU, br, WT, ww, rfl⟩)
  ·
    exact (c1 (by decide)).elim
set_option maxHeartbeats 4000000 in
set_option maxRecDepth 100000 in
theorem c_X6_beside_1n (l : Launch) (D : va_G) (cI cJ cZ : ClassId) (m0 nw ps im mk wd so mb ma mf mw ml mu wt ty : Nat) (NW : Nat → Nat) (PS : Nat → Nat) (u : Nat) (IM : Nat → Nat) (MK : Nat → Nat) (sd : Nat) (WD : Nat → Nat) (s : Nat) (SO : Nat → Nat) (q : Nat) (EB : Nat → Nat) (EA : Nat → Nat) (EF : Nat → Nat) (EW : Nat → Nat) (EL : Nat → Nat) (EU : Nat → Nat) (br : Nat) (WT : Nat → Nat) (ww : Nat) (TY : Nat → Nat) (KS KL KW : Nat → Nat) (n A : Nat) (hn : n ≤ 24) (hk : ∀ k, k < n → Wf (KS k) (KL k)) (hw0 : Wf s A) (hR : RN NW KS KL KW n) (hRW : RW WD s A) (hso : Srt KS KL n) (BB BD BM BL BF BA BK : Nat → Nat) (hTr : TrX (gapF KS KL) n BB BD BM BL BF BA BK) (hv : ∀ k, k < n → KW k ≤ 9999) (ha : ¬ (plc KS KL n s A < n ∧ unl (KS (plc KS KL n s A)) (KL (plc KS KL n s A)) s A = 72)) (sz : Nat) : WR l yX6_beside cX6_beside 4 (some .int) (rmN 6 133) D (ty3 cI cJ cZ) [.ref m0, .int (nI 1)] [(m0, .inr (6, [.ref nw, .ref ps, .int (nI u), .ref im, .ref mk, .int (nI sd), .ref wd, .int (nI s), .ref so, .int (nI q), .ref mb, .ref ma, .ref mf, .ref mw, .ref ml, .ref mu, .int (nI br), .ref wt, .int (nI ww), .ref ty])), (nw, .inl (cI, 241, .inl (nF NW))), (ps, .inl (cI, 4820, .inl (nF PS))), (im, .inl (cI, 484, .inl (nF IM))), (mk, .inl (cZ, 2, .inl (nF MK))), (wd, .inl (cI, 8, .inl (nF WD))), (so, .inl (cI, 24, .inl (nF SO))), (mb, .inl (cI, 24, .inl (nF EB))), (ma, .inl (cI, 24, .inl (nF EA))), (mf, .inl (cI, 24, .inl (nF EF))), (mw, .inl (cI, 24, .inl (nF EW))), (ml, .inl (cI, 24, .inl (nF EL))), (mu, .inl (cI, 24, .inl (oF EU))), (wt, .inl (cI, 200, .inl (oF WT))), (ty, .inl (cI, 8, .inl (nF TY)))] sz (fun x w => x = some (.int (oI (if (plc KS KL n s A) < n then (plc KS KL n s A) + 1 else 0))) ∧ ∃ (SO : Nat → Nat) (q : Nat) (EB EA EF EW EL EU : Nat → Nat) (br : Nat) (WT : Nat → Nat) (ww : Nat), w = [(m0, .inr (6, [.ref nw, .ref ps, .int (nI u), .ref im, .ref mk, .int (nI sd), .ref wd, .int (nI s), .ref so, .int (nI q), .ref mb, .ref ma, .ref mf, .ref mw, .ref ml, .ref mu, .int (nI br), .ref wt, .int (nI ww), .ref ty])), (nw, .inl (cI, 241, .inl (nF NW))), (ps, .inl (cI, 4820, .inl (nF PS))), (im, .inl (cI, 484, .inl (nF IM))), (mk, .inl (cZ, 2, .inl (nF MK))), (wd, .inl (cI, 8, .inl (nF WD))), (so, .inl (cI, 24, .inl (nF SO))), (mb, .inl (cI, 24, .inl (nF EB))), (ma, .inl (cI, 24, .inl (nF EA))), (mf, .inl (cI, 24, .inl (nF EF))), (mw, .inl (cI, 24, .inl (nF EW))), (ml, .inl (cI, 24, .inl (nF EL))), (mu, .inl (cI, 24, .inl (oF EU))), (wt, .inl (cI, 200, .inl (oF WT))), (ty, .inl (cI, 8, .inl (nF TY)))]) := by
  have hs8 := hw0.1
  have hA64 := hw0.2.1
  have hN0 := hR.1
  have hBK := tf_BK hTr hn
  have hDK := tf_DK hTr hn
  have hp := plc_le KS KL n s A
  have hcb := cbl_le KS KL n s A
  have hfl := fnd_le KS KL n s A
  refine wr_start (by decide) (Nat.le_of_ble_eq_true rfl) ?_
  intro pp ee ss mm below meth cd AA C0 hAA hP hK hD hS hN hnm ls hl
  obtain ⟨hx, hb, hr, hml, hown, hts, hlk⟩ := C0
  have hown : ss.vm.findClass RX6 = some mm.cls := hown
  have hl : lv_has ls 4 [(0, .ref m0), (1, .int (nI 1))] := hl
  have hP : va_P D vwCl [(m0, .inr (6, [.ref nw, .ref ps, .int (nI u), .ref im, .ref mk, .int (nI sd), .ref wd, .int (nI s), .ref so, .int (nI q), .ref mb, .ref ma, .ref mf, .ref mw, .ref ml, .ref mu, .int (nI br), .ref wt, .int (nI ww), .ref ty])), (nw, .inl (cI, 241, .inl (nF NW))), (ps, .inl (cI, 4820, .inl (nF PS))), (im, .inl (cI, 484, .inl (nF IM))), (mk, .inl (cZ, 2, .inl (nF MK))), (wd, .inl (cI, 8, .inl (nF WD))), (so, .inl (cI, 24, .inl (nF SO))), (mb, .inl (cI, 24, .inl (nF EB))), (ma, .inl (cI, 24, .inl (nF EA))), (mf, .inl (cI, 24, .inl (nF EF))), (mw, .inl (cI, 24, .inl (nF EW))), (ml, .inl (cI, 24, .inl (nF EL))), (mu, .inl (cI, 24, .inl (oF EU))), (wt, .inl (cI, 200, .inl (oF WT))), (ty, .inl (cI, 8, .inl (nF TY)))] ss.heap := hP
  refine lv_iload_n hx hb dX6_beside_0 rfl (lv_at hl 1 rfl) ?_
  refine lv_iconst (v := nI 0) hx hb dX6_beside_1 (by decide +kernel) ?_
  refine lv_iconst (v := nI 1) hx hb dX6_beside_2 (by decide +kernel) ?_
  refine ro_S (As := [.int (nI 1), .int (nI 0), .int (nI 1)]) (rest := []) ⟨hx, hb, hml, hown, hts⟩ (c_X6_in l D cI cJ cZ 1 0 1 (by omega) (by omega) (by omega)) (k_X6_79 hts ⟨Nat.le_of_ble_eq_true rfl, Nat.le_of_ble_eq_true rfl⟩) hK hP [] rfl rfl hl.1 rfl (Nat.le_of_ble_eq_true rfl) dX6_beside_3 ⟨Nat.le_of_ble_eq_true rfl, Nat.le_of_ble_eq_true rfl⟩ ?_
  refine b_if_ne (tgt := 12) hx hb dX6_beside_6 (by decide) (fun c1 => ?_) (fun c1 => ?_)
  ·
    refine lv_aload_n hx hb dX6_beside_12 rfl (lv_at hl 0 rfl) ?_
    refine ro_V (As := []) (rest := []) ⟨hx, hb, hml, hown, hts⟩ (c_X6_place l D cI cJ cZ m0 nw ps im mk wd so mb ma mf mw ml mu wt ty NW PS u IM MK sd WD s SO q EB EA EF EW EL EU br WT ww TY KS KL KW n A hn hk hw0 hR hRW) (k_X6_75 hts ⟨Nat.le_of_ble_eq_true rfl, Nat.le_of_ble_eq_true rfl⟩) hK hP 0 rfl rfl rfl [0, 1, 2, 3, 4, 5, 6, 7, 8, 9, 10, 11, 12, 13, 14] rfl rfl hl.1 rfl (Nat.le_of_ble_eq_true rfl) dX6_beside_13 ⟨Nat.le_of_ble_eq_true rfl, Nat.le_of_ble_eq_true rfl⟩ ?_
    refine lv_istore_n (lv' := [(2, .int (nI (plc KS KL n s A))), (0, .ref m0), (1, .int (nI 1))]) hx hb dX6_beside_16 rfl hl (by decide) rfl (fun ls hl => ?_)
    refine lv_iload_n hx hb dX6_beside_17 rfl (lv_at hl 2 rfl) ?_
    refine n_if_ne (tgt := 25) hx hb dX6_beside_18 (by decide) (by decide) (fun _ => ?_) (fun h9 => absurd h9 (by decide))
    refine lv_aload_n hx hb dX6_beside_25 rfl (lv_at hl 1 rfl) ?_
    refine ro_V (As := []) (rest := []) ⟨hx, hb, hml, hown, hts⟩ (c_X6_keyNow l D cI cJ cZ m0 nw ps im mk wd so mb ma mf mw ml mu wt ty NW PS u IM MK sd WD s SO q EB EA EF EW EL EU br WT ww TY KS KL KW n A hn hk hw0 hR hRW) (k_X6_129 hts ⟨Nat.le_of_ble_eq_true rfl, Nat.le_of_ble_eq_true rfl⟩) hK hP 0 rfl rfl rfl [0, 1, 2, 3, 4, 5, 6, 7, 8, 9, 10, 11, 12, 13, 14] rfl rfl hl.1 rfl (Nat.le_of_ble_eq_true rfl) dX6_beside_26 ⟨Nat.le_of_ble_eq_true rfl, Nat.le_of_ble_eq_true rfl⟩ ?_
    refine tq (y := oI 0) (by rw [fnd_no ha]) ?_
    refine lv_iconst (v := oI 0) hx hb dX6_beside_29 (by decide +kernel) ?_
    refine o_ne (tgt := 37) hx hb dX6_beside_30 (by decide) (by omega) (fun c3 => ?_) (fun c3 => ?_)
    ·
      exact absurd rfl c3
    ·
      refine lv_iload_n hx hb dX6_beside_33 rfl (lv_at hl 0 rfl) ?_
      refine lv_goto (tgt := 40) hx hb dX6_beside_34 (by decide) ?_
      refine lv_istore_n (lv' := [(3, .int (nI (plc KS KL n s A))), (2, .int (nI (plc KS KL n s A))), (0, .ref m0), (1, .int (nI 1))]) hx hb dX6_beside_40 rfl hl (by decide) rfl (fun ls hl => ?_)
      refine lv_iload_n hx hb dX6_beside_41 rfl (lv_at hl 0 rfl) ?_
      refine lv_aload_n hx hb dX6_beside_42 rfl (lv_at hl 2 rfl) ?_
      refine va_get (D := D) (ci := 6) (v := .ref nw) (C := RX6) (T := TX6) (N := 20) hx hb hts inX6 hown hK hP 0 rfl rfl 0 (by decide) (hts _ mf_X6_7) (fun _ h9 => h9) rfl dX6_beside_43 ?_
      refine lv_iconst (v := nI 0) hx hb dX6_beside_46 (by decide +kernel) ?_
      refine n_iald hx hb hK hP 1 0 rfl rfl (k := 0) (by omega) (by decide) dX6_beside_47 ?_
      refine tq (y := nI n) (congrArg nI (hN0)) ?_
      refine n_ge (tgt := 55) hx hb dX6_beside_48 (by decide) (by omega) (by omega) (fun c4 => ?_) (fun c4 => ?_)
      ·
        refine lv_iconst (v := oI 0) hx hb dX6_beside_55 (by decide +kernel) ?_
        refine tq (y := (oI (if (plc KS KL n s A) < n then (plc KS KL n s A) + 1 else 0))) (by rw [if_neg (by omega)]) ?_
        exact wr_iret hx hb hr hlk hP hD hS dX6_beside_56 (⟨rfl, SO, q, EB, EA, EF, EW, EL, EU, br, WT, ww, rfl⟩)
      ·
        refine lv_iload_n hx hb dX6_beside_51 rfl (lv_at hl 0 rfl) ?_
        refine lv_goto (tgt := 56) hx hb dX6_beside_52 (by decide) ?_
        refine tq (y := (oI (if (plc KS KL n s A) < n then (plc KS KL n s A) + 1 else 0))) (by rw [if_pos (by omega), oI_s]) ?_
        exact wr_iret hx hb hr hlk hP hD hS dX6_beside_56 (⟨rfl, SO, q, EB, EA, EF, EW, EL, EU, br, WT, ww, rfl⟩)
  ·
    exact (c1 (by decide)).elim
set_option maxHeartbeats 4000000 in
set_option maxRecDepth 100000 in
theorem c_X6_stem (l : Launch) (D : va_G) (cI cJ cZ : ClassId) (m0 nw ps im mk wd so mb ma mf mw ml mu wt ty : Nat) (NW : Nat → Nat) (PS : Nat → Nat) (u : Nat) (IM : Nat → Nat) (MK : Nat → Nat) (sd : Nat) (WD : Nat → Nat) (s : Nat) (SO : Nat → Nat) (q : Nat) (EB : Nat → Nat) (EA : Nat → Nat) (EF : Nat → Nat) (EW : Nat → Nat) (EL : Nat → Nat) (EU : Nat → Nat) (br : Nat) (WT : Nat → Nat) (ww : Nat) (TY : Nat → Nat) (KS KL KW : Nat → Nat) (n A : Nat) (hn : n ≤ 24) (hk : ∀ k, k < n → Wf (KS k) (KL k)) (hw0 : Wf s A) (hR : RN NW KS KL KW n) (hRW : RW WD s A) (hso : Srt KS KL n) (BB BD BM BL BF BA BK : Nat → Nat) (hTr : TrX (gapF KS KL) n BB BD BM BL BF BA BK) (hv : ∀ k, k < n → KW k ≤ 9999)  (sz : Nat) : WR l yX6_stem cX6_stem 3 (some .int) (rmN 2 46) D (ty3 cI cJ cZ) [.ref m0] [(m0, .inr (6, [.ref nw, .ref ps, .int (nI u), .ref im, .ref mk, .int (nI sd), .ref wd, .int (nI s), .ref so, .int (nI q), .ref mb, .ref ma, .ref mf, .ref mw, .ref ml, .ref mu, .int (nI br), .ref wt, .int (nI ww), .ref ty])), (nw, .inl (cI, 241, .inl (nF NW))), (ps, .inl (cI, 4820, .inl (nF PS))), (im, .inl (cI, 484, .inl (nF IM))), (mk, .inl (cZ, 2, .inl (nF MK))), (wd, .inl (cI, 8, .inl (nF WD))), (so, .inl (cI, 24, .inl (nF SO))), (mb, .inl (cI, 24, .inl (nF EB))), (ma, .inl (cI, 24, .inl (nF EA))), (mf, .inl (cI, 24, .inl (nF EF))), (mw, .inl (cI, 24, .inl (nF EW))), (ml, .inl (cI, 24, .inl (nF EL))), (mu, .inl (cI, 24, .inl (oF EU))), (wt, .inl (cI, 200, .inl (oF WT))), (ty, .inl (cI, 8, .inl (nF TY)))] sz (fun x w => x = some (.int (oI (lso KS KL s A n))) ∧ ∃ (SO : Nat → Nat) (q : Nat) (EB EA EF EW EL EU : Nat → Nat) (br : Nat) (WT : Nat → Nat) (ww : Nat), w = [(m0, .inr (6, [.ref nw, .ref ps, .int (nI u), .ref im, .ref mk, .int (nI sd), .ref wd, .int (nI s), .ref so, .int (nI q), .ref mb, .ref ma, .ref mf, .ref mw, .ref ml, .ref mu, .int (nI br), .ref wt, .int (nI ww), .ref ty])), (nw, .inl (cI, 241, .inl (nF NW))), (ps, .inl (cI, 4820, .inl (nF PS))), (im, .inl (cI, 484, .inl (nF IM))), (mk, .inl (cZ, 2, .inl (nF MK))), (wd, .inl (cI, 8, .inl (nF WD))), (so, .inl (cI, 24, .inl (nF SO))), (mb, .inl (cI, 24, .inl (nF EB))), (ma, .inl (cI, 24, .inl (nF EA))), (mf, .inl (cI, 24, .inl (nF EF))), (mw, .inl (cI, 24, .inl (nF EW))), (ml, .inl (cI, 24, .inl (nF EL))), (mu, .inl (cI, 24, .inl (oF EU))), (wt, .inl (cI, 200, .inl (oF WT))), (ty, .inl (cI, 8, .inl (nF TY)))]) := by
  have hs8 := hw0.1
  have hA64 := hw0.2.1
  have hN0 := hR.1
  have hBK := tf_BK hTr hn
  have hDK := tf_DK hTr hn
  have hp := plc_le KS KL n s A
  have hcb := cbl_le KS KL n s A
  have hfl := fnd_le KS KL n s A
  refine wr_start (by decide) (Nat.le_of_ble_eq_true rfl) ?_
  intro pp ee ss mm below meth cd AA C0 hAA hP hK hD hS hN hnm ls hl
  obtain ⟨hx, hb, hr, hml, hown, hts, hlk⟩ := C0
  have hown : ss.vm.findClass RX6 = some mm.cls := hown
  have hl : lv_has ls 3 [(0, .ref m0)] := hl
  have hP : va_P D vwCl [(m0, .inr (6, [.ref nw, .ref ps, .int (nI u), .ref im, .ref mk, .int (nI sd), .ref wd, .int (nI s), .ref so, .int (nI q), .ref mb, .ref ma, .ref mf, .ref mw, .ref ml, .ref mu, .int (nI br), .ref wt, .int (nI ww), .ref ty])), (nw, .inl (cI, 241, .inl (nF NW))), (ps, .inl (cI, 4820, .inl (nF PS))), (im, .inl (cI, 484, .inl (nF IM))), (mk, .inl (cZ, 2, .inl (nF MK))), (wd, .inl (cI, 8, .inl (nF WD))), (so, .inl (cI, 24, .inl (nF SO))), (mb, .inl (cI, 24, .inl (nF EB))), (ma, .inl (cI, 24, .inl (nF EA))), (mf, .inl (cI, 24, .inl (nF EF))), (mw, .inl (cI, 24, .inl (nF EW))), (ml, .inl (cI, 24, .inl (nF EL))), (mu, .inl (cI, 24, .inl (oF EU))), (wt, .inl (cI, 200, .inl (oF WT))), (ty, .inl (cI, 8, .inl (nF TY)))] ss.heap := hP
  refine lv_iconst (v := oI 0) hx hb dX6_stem_0 (by decide +kernel) ?_
  refine lv_istore_n (lv' := [(1, .int (oI 0)), (0, .ref m0)]) hx hb dX6_stem_1 rfl hl (by decide) rfl (fun ls hl => ?_)
  refine lv_iconst (v := nI 0) hx hb dX6_stem_2 (by decide +kernel) ?_
  refine lv_istore_n (lv' := [(2, .int (nI 0)), (1, .int (oI 0)), (0, .ref m0)]) hx hb dX6_stem_3 rfl hl (by decide) rfl (fun ls hl => ?_)
  have loop4 : ∀ (d : Nat) (i : Nat) (b : Nat) (H : Heap) (locs : List Loc) (ls : Array Slot), n - i < d → (i ≤ n) → (b = lso KS KL s A i) → va_P D vwCl [(m0, .inr (6, [.ref nw, .ref ps, .int (nI u), .ref im, .ref mk, .int (nI sd), .ref wd, .int (nI s), .ref so, .int (nI q), .ref mb, .ref ma, .ref mf, .ref mw, .ref ml, .ref mu, .int (nI br), .ref wt, .int (nI ww), .ref ty])), (nw, .inl (cI, 241, .inl (nF NW))), (ps, .inl (cI, 4820, .inl (nF PS))), (im, .inl (cI, 484, .inl (nF IM))), (mk, .inl (cZ, 2, .inl (nF MK))), (wd, .inl (cI, 8, .inl (nF WD))), (so, .inl (cI, 24, .inl (nF SO))), (mb, .inl (cI, 24, .inl (nF EB))), (ma, .inl (cI, 24, .inl (nF EA))), (mf, .inl (cI, 24, .inl (nF EF))), (mw, .inl (cI, 24, .inl (nF EW))), (ml, .inl (cI, 24, .inl (nF EL))), (mu, .inl (cI, 24, .inl (oF EU))), (wt, .inl (cI, 200, .inl (oF WT))), (ty, .inl (cI, 8, .inl (nF TY)))] H → va_D AA [(m0, .inr (6, [.ref nw, .ref ps, .int (nI u), .ref im, .ref mk, .int (nI sd), .ref wd, .int (nI s), .ref so, .int (nI q), .ref mb, .ref ma, .ref mf, .ref mw, .ref ml, .ref mu, .int (nI br), .ref wt, .int (nI ww), .ref ty])), (nw, .inl (cI, 241, .inl (nF NW))), (ps, .inl (cI, 4820, .inl (nF PS))), (im, .inl (cI, 484, .inl (nF IM))), (mk, .inl (cZ, 2, .inl (nF MK))), (wd, .inl (cI, 8, .inl (nF WD))), (so, .inl (cI, 24, .inl (nF SO))), (mb, .inl (cI, 24, .inl (nF EB))), (ma, .inl (cI, 24, .inl (nF EA))), (mf, .inl (cI, 24, .inl (nF EF))), (mw, .inl (cI, 24, .inl (nF EW))), (ml, .inl (cI, 24, .inl (nF EL))), (mu, .inl (cI, 24, .inl (oF EU))), (wt, .inl (cI, 200, .inl (oF WT))), (ty, .inl (cI, 8, .inl (nF TY)))] → va_S AA ss.heap H locs → lv_has ls 3 [(0, .ref m0), (1, .int (oI b)), (2, .int (nI i))] → W pp l ee (rmN 2 46) ss mm [.ref m0].toArray below meth cd H locs 0 0 (MQ below (QW D AA (fun x w => x = some (.int (oI (lso KS KL s A n))) ∧ ∃ (SO : Nat → Nat) (q : Nat) (EB EA EF EW EL EU : Nat → Nat) (br : Nat) (WT : Nat → Nat) (ww : Nat), w = [(m0, .inr (6, [.ref nw, .ref ps, .int (nI u), .ref im, .ref mk, .int (nI sd), .ref wd, .int (nI s), .ref so, .int (nI q), .ref mb, .ref ma, .ref mf, .ref mw, .ref ml, .ref mu, .int (nI br), .ref wt, .int (nI ww), .ref ty])), (nw, .inl (cI, 241, .inl (nF NW))), (ps, .inl (cI, 4820, .inl (nF PS))), (im, .inl (cI, 484, .inl (nF IM))), (mk, .inl (cZ, 2, .inl (nF MK))), (wd, .inl (cI, 8, .inl (nF WD))), (so, .inl (cI, 24, .inl (nF SO))), (mb, .inl (cI, 24, .inl (nF EB))), (ma, .inl (cI, 24, .inl (nF EA))), (mf, .inl (cI, 24, .inl (nF EF))), (mw, .inl (cI, 24, .inl (nF EW))), (ml, .inl (cI, 24, .inl (nF EL))), (mu, .inl (cI, 24, .inl (oF EU))), (wt, .inl (cI, 200, .inl (oF WT))), (ty, .inl (cI, 8, .inl (nF TY)))])) [.ref m0].toArray ss 0 0 AA) (F0 mm 4 ls []) := by
    intro d
    induction d with
    | zero => intro i b H locs ls h; exact absurd h (Nat.not_lt_zero _)
    | succ d ih4 =>
      intro i b H locs ls hd4 hi hb0 hP hD hS hl
      have hb1 := lso_le KS KL s A i
      refine lv_iload_n hx hb dX6_stem_4 rfl (lv_at hl 2 rfl) ?_
      refine lv_aload_n hx hb dX6_stem_5 rfl (lv_at hl 0 rfl) ?_
      refine va_get (D := D) (ci := 6) (v := .ref nw) (C := RX6) (T := TX6) (N := 20) hx hb hts inX6 hown hK hP 0 rfl rfl 0 (by decide) (hts _ mf_X6_7) (fun _ h9 => h9) rfl dX6_stem_6 ?_
      refine lv_iconst (v := nI 0) hx hb dX6_stem_9 (by decide +kernel) ?_
      refine n_iald hx hb hK hP 1 0 rfl rfl (k := 0) (by omega) (by decide) dX6_stem_10 ?_
      refine tq (y := nI n) (congrArg nI (hN0)) ?_
      refine n_ge (tgt := 60) hx hb dX6_stem_11 (by decide) (by omega) (by omega) (fun c1 => ?_) (fun c1 => ?_)
      ·
        refine lv_iload_n hx hb dX6_stem_60 rfl (lv_at hl 1 rfl) ?_
        refine tq (y := (oI (lso KS KL s A n))) (by rw [hb0, show i = n by omega]) ?_
        exact wr_iret hx hb hr hlk hP hD hS dX6_stem_61 (⟨rfl, SO, q, EB, EA, EF, EW, EL, EU, br, WT, ww, rfl⟩)
      ·
        have hki := (hk i (by omega)).1
        have hcm := unl_comm (KS i) (KL i) s A
        refine lv_aload_n hx hb dX6_stem_14 rfl (lv_at hl 0 rfl) ?_
        refine lv_bipush (v := nI 24) hx hb dX6_stem_15 (by decide +kernel) ?_
        refine lv_iload_n hx hb dX6_stem_17 rfl (lv_at hl 2 rfl) ?_
        refine ro_V (As := [.int (nI 24), .int (nI i)]) (rest := []) ⟨hx, hb, hml, hown, hts⟩ (c_X6_begins l D cI cJ cZ m0 nw ps im mk wd so mb ma mf mw ml mu wt ty NW PS u IM MK sd WD s SO q EB EA EF EW EL EU br WT ww TY KS KL KW n A hn hk hw0 hR hRW 24 s A (Or.inl ⟨rfl, rfl, rfl⟩) i ((KS i)) ((KL i)) (Or.inr ⟨by omega, rfl, rfl⟩)) (k_X6_149 hts ⟨Nat.le_of_ble_eq_true rfl, Nat.le_of_ble_eq_true rfl⟩) hK hP 0 rfl rfl rfl [0, 1, 2, 3, 4, 5, 6, 7, 8, 9, 10, 11, 12, 13, 14] rfl rfl hl.1 rfl (Nat.le_of_ble_eq_true rfl) dX6_stem_18 ⟨Nat.le_of_ble_eq_true rfl, Nat.le_of_ble_eq_true rfl⟩ ?_
        refine b_if_eq (tgt := 52) hx hb dX6_stem_21 (by decide) (fun c2 => ?_) (fun c2 => ?_)
        ·
          refine lv_iload_n hx hb dX6_stem_52 rfl (lv_at hl 1 rfl) ?_
          refine lv_istore_n (lv' := [(1, .int (oI b)), (0, .ref m0), (2, .int (nI i))]) hx hb dX6_stem_53 rfl hl (by decide) rfl (fun ls hl => ?_)
          refine lv_iinc (v := nI (i + 1)) (lv' := [(2, .int (nI (i + 1))), (1, .int (oI b)), (0, .ref m0)]) hx hb dX6_stem_54 hl (k := 2) rfl (nI_add i 1) (by decide) rfl (fun ls hl => ?_)
          refine lv_goto (tgt := 4) hx hb dX6_stem_57 (by decide) ?_
          exact ih4 (i + 1) b _ _ ls (by omega) (by omega) (by show _ = (if 9 * KS i ≤ unl (KS i) (KL i) s A ∧ (lso KS KL s A i = 0 ∨ KS (lso KS KL s A i - 1) < KS i) then i + 1 else lso KS KL s A i); rw [← hb0]; first | rw [if_pos (by omega)] | rw [if_neg (by omega)]) hP hD hS (lv_sub hl [2, 1, 0] rfl)
        ·
          refine lv_iload_n hx hb dX6_stem_24 rfl (lv_at hl 1 rfl) ?_
          refine lv_iconst (v := oI 0) hx hb dX6_stem_25 (by decide +kernel) ?_
          refine o_eq (tgt := 48) hx hb dX6_stem_26 (by decide) (by omega) (fun c3 => ?_) (fun c3 => ?_)
          ·
            refine lv_iload_n hx hb dX6_stem_48 rfl (lv_at hl 2 rfl) ?_
            refine lv_goto (tgt := 53) hx hb dX6_stem_49 (by decide) ?_
            refine tq (y := oI (i + 1)) (oI_s _).symm ?_
            refine lv_istore_n (lv' := [(1, .int (oI (i + 1))), (0, .ref m0), (2, .int (nI i))]) hx hb dX6_stem_53 rfl hl (by decide) rfl (fun ls hl => ?_)
            refine lv_iinc (v := nI (i + 1)) (lv' := [(2, .int (nI (i + 1))), (1, .int (oI (i + 1))), (0, .ref m0)]) hx hb dX6_stem_54 hl (k := 2) rfl (nI_add i 1) (by decide) rfl (fun ls hl => ?_)
            refine lv_goto (tgt := 4) hx hb dX6_stem_57 (by decide) ?_
            exact ih4 (i + 1) (i + 1) _ _ ls (by omega) (by omega) (by show _ = (if 9 * KS i ≤ unl (KS i) (KL i) s A ∧ (lso KS KL s A i = 0 ∨ KS (lso KS KL s A i - 1) < KS i) then i + 1 else lso KS KL s A i); rw [← hb0]; first | rw [if_pos (by omega)] | rw [if_neg (by omega)]) hP hD hS (lv_sub hl [2, 1, 0] rfl)
          ·
            refine lv_aload_n hx hb dX6_stem_29 rfl (lv_at hl 0 rfl) ?_
            refine va_get (D := D) (ci := 6) (v := .ref nw) (C := RX6) (T := TX6) (N := 20) hx hb hts inX6 hown hK hP 0 rfl rfl 0 (by decide) (hts _ mf_X6_7) (fun _ h9 => h9) rfl dX6_stem_30 ?_
            refine lv_iconst (v := nI 1) hx hb dX6_stem_33 (by decide +kernel) ?_
            refine lv_iload_n hx hb dX6_stem_34 rfl (lv_at hl 2 rfl) ?_
            refine n_iadd hx hb dX6_stem_35 ?_
            refine n_iald hx hb hK hP 1 0 rfl rfl (k := (1 + i)) (by omega) (by decide) dX6_stem_36 ?_
            refine tq (y := nI (KS i)) (congrArg nI ((hR.2 i (by omega)).1)) ?_
            refine lv_aload_n hx hb dX6_stem_37 rfl (lv_at hl 0 rfl) ?_
            refine va_get (D := D) (ci := 6) (v := .ref nw) (C := RX6) (T := TX6) (N := 20) hx hb hts inX6 hown hK hP 0 rfl rfl 0 (by decide) (hts _ mf_X6_7) (fun _ h9 => h9) rfl dX6_stem_38 ?_
            refine lv_iconst (v := nI 1) hx hb dX6_stem_41 (by decide +kernel) ?_
            refine lv_iload_n hx hb dX6_stem_42 rfl (lv_at hl 1 rfl) ?_
            refine tq (y := (nI (b - 1))) (oI_p (by omega)) ?_
            refine n_iadd hx hb dX6_stem_43 ?_
            refine n_iald hx hb hK hP 1 0 rfl rfl (k := (1 + (b - 1))) (by omega) (by decide) dX6_stem_44 ?_
            refine tq (y := nI (KS (b - 1))) (congrArg nI ((hR.2 (b - 1) (by omega)).1)) ?_
            refine n_le (tgt := 52) hx hb dX6_stem_45 (by decide) (by omega) (by have := (hk (b - 1) (by omega)).1; omega) (fun c4 => ?_) (fun c4 => ?_)
            ·
              refine lv_iload_n hx hb dX6_stem_52 rfl (lv_at hl 1 rfl) ?_
              refine lv_istore_n (lv' := [(1, .int (oI b)), (0, .ref m0), (2, .int (nI i))]) hx hb dX6_stem_53 rfl hl (by decide) rfl (fun ls hl => ?_)
              refine lv_iinc (v := nI (i + 1)) (lv' := [(2, .int (nI (i + 1))), (1, .int (oI b)), (0, .ref m0)]) hx hb dX6_stem_54 hl (k := 2) rfl (nI_add i 1) (by decide) rfl (fun ls hl => ?_)
              refine lv_goto (tgt := 4) hx hb dX6_stem_57 (by decide) ?_
              exact ih4 (i + 1) b _ _ ls (by omega) (by omega) (by show _ = (if 9 * KS i ≤ unl (KS i) (KL i) s A ∧ (lso KS KL s A i = 0 ∨ KS (lso KS KL s A i - 1) < KS i) then i + 1 else lso KS KL s A i); rw [← hb0]; first | rw [if_pos (by omega)] | rw [if_neg (by omega)]) hP hD hS (lv_sub hl [2, 1, 0] rfl)
            ·
              refine lv_iload_n hx hb dX6_stem_48 rfl (lv_at hl 2 rfl) ?_
              refine lv_goto (tgt := 53) hx hb dX6_stem_49 (by decide) ?_
              refine tq (y := oI (i + 1)) (oI_s _).symm ?_
              refine lv_istore_n (lv' := [(1, .int (oI (i + 1))), (0, .ref m0), (2, .int (nI i))]) hx hb dX6_stem_53 rfl hl (by decide) rfl (fun ls hl => ?_)
              refine lv_iinc (v := nI (i + 1)) (lv' := [(2, .int (nI (i + 1))), (1, .int (oI (i + 1))), (0, .ref m0)]) hx hb dX6_stem_54 hl (k := 2) rfl (nI_add i 1) (by decide) rfl (fun ls hl => ?_)
              refine lv_goto (tgt := 4) hx hb dX6_stem_57 (by decide) ?_
              exact ih4 (i + 1) (i + 1) _ _ ls (by omega) (by omega) (by show _ = (if 9 * KS i ≤ unl (KS i) (KL i) s A ∧ (lso KS KL s A i = 0 ∨ KS (lso KS KL s A i - 1) < KS i) then i + 1 else lso KS KL s A i); rw [← hb0]; first | rw [if_pos (by omega)] | rw [if_neg (by omega)]) hP hD hS (lv_sub hl [2, 1, 0] rfl)
  exact loop4 _ 0 0 _ _ ls (Nat.lt_succ_self _) (Nat.zero_le _) rfl hP hD hS (lv_sub hl [2, 1, 0] rfl)
set_option maxHeartbeats 4000000 in
set_option maxRecDepth 100000 in
theorem c_X6_closest (l : Launch) (D : va_G) (cI cJ cZ : ClassId) (m0 nw ps im mk wd so mb ma mf mw ml mu wt ty : Nat) (NW : Nat → Nat) (PS : Nat → Nat) (u : Nat) (IM : Nat → Nat) (MK : Nat → Nat) (sd : Nat) (WD : Nat → Nat) (s : Nat) (SO : Nat → Nat) (q : Nat) (EB : Nat → Nat) (EA : Nat → Nat) (EF : Nat → Nat) (EW : Nat → Nat) (EL : Nat → Nat) (EU : Nat → Nat) (br : Nat) (WT : Nat → Nat) (ww : Nat) (TY : Nat → Nat) (KS KL KW : Nat → Nat) (n A : Nat) (hn : n ≤ 24) (hk : ∀ k, k < n → Wf (KS k) (KL k)) (hw0 : Wf s A) (hR : RN NW KS KL KW n) (hRW : RW WD s A) : RO l yX6_closest cX6_closest 3 (some .int) (rmN 3 68) D (ty3 cI cJ cZ) [.ref m0] [(m0, .inr (6, [.ref nw, .ref ps, .int (nI u), .ref im, .ref mk, .int (nI sd), .ref wd, .int (nI s), .ref so, .int (nI q), .ref mb, .ref ma, .ref mf, .ref mw, .ref ml, .ref mu, .int (nI br), .ref wt, .int (nI ww), .ref ty])), (nw, .inl (cI, 241, .inl (nF NW))), (ps, .inl (cI, 4820, .inl (nF PS))), (im, .inl (cI, 484, .inl (nF IM))), (mk, .inl (cZ, 2, .inl (nF MK))), (wd, .inl (cI, 8, .inl (nF WD))), (so, .inl (cI, 24, .inl (nF SO))), (mb, .inl (cI, 24, .inl (nF EB))), (ma, .inl (cI, 24, .inl (nF EA))), (mf, .inl (cI, 24, .inl (nF EF))), (mw, .inl (cI, 24, .inl (nF EW))), (ml, .inl (cI, 24, .inl (nF EL))), (mu, .inl (cI, 24, .inl (oF EU))), (wt, .inl (cI, 200, .inl (oF WT))), (ty, .inl (cI, 8, .inl (nF TY)))] (.int (oI (mso KS KL s A n))) := by
  have hs8 := hw0.1
  have hA64 := hw0.2.1
  have hN0 := hR.1
  refine ro_start (by decide) (Nat.le_of_ble_eq_true rfl) ?_
  intro pp ee ss mm below meth cd C0 hP hK ls hl
  obtain ⟨hx, hb, hr, hml, hown, hts, hlk⟩ := C0
  have hown : ss.vm.findClass RX6 = some mm.cls := hown
  have hl : lv_has ls 3 [(0, .ref m0)] := hl
  have hP : va_P D vwCl [(m0, .inr (6, [.ref nw, .ref ps, .int (nI u), .ref im, .ref mk, .int (nI sd), .ref wd, .int (nI s), .ref so, .int (nI q), .ref mb, .ref ma, .ref mf, .ref mw, .ref ml, .ref mu, .int (nI br), .ref wt, .int (nI ww), .ref ty])), (nw, .inl (cI, 241, .inl (nF NW))), (ps, .inl (cI, 4820, .inl (nF PS))), (im, .inl (cI, 484, .inl (nF IM))), (mk, .inl (cZ, 2, .inl (nF MK))), (wd, .inl (cI, 8, .inl (nF WD))), (so, .inl (cI, 24, .inl (nF SO))), (mb, .inl (cI, 24, .inl (nF EB))), (ma, .inl (cI, 24, .inl (nF EA))), (mf, .inl (cI, 24, .inl (nF EF))), (mw, .inl (cI, 24, .inl (nF EW))), (ml, .inl (cI, 24, .inl (nF EL))), (mu, .inl (cI, 24, .inl (oF EU))), (wt, .inl (cI, 200, .inl (oF WT))), (ty, .inl (cI, 8, .inl (nF TY)))] ss.heap := hP
  refine lv_iconst (v := oI 0) hx hb dX6_closest_0 (by decide +kernel) ?_
  refine lv_istore_n (lv' := [(1, .int (oI 0)), (0, .ref m0)]) hx hb dX6_closest_1 rfl hl (by decide) rfl (fun ls hl => ?_)
  refine lv_iconst (v := nI 0) hx hb dX6_closest_2 (by decide +kernel) ?_
  refine lv_istore_n (lv' := [(2, .int (nI 0)), (1, .int (oI 0)), (0, .ref m0)]) hx hb dX6_closest_3 rfl hl (by decide) rfl (fun ls hl => ?_)
  have loop4 : ∀ (d : Nat) (i : Nat) (b : Nat) (ls : Array Slot), n - i < d → (i ≤ n) → (b = mso KS KL s A i) → lv_has ls 3 [(0, .ref m0), (1, .int (oI b)), (2, .int (nI i))] → W pp l ee (rmN 3 68) ss mm [.ref m0].toArray below meth cd ss.heap [] 0 0 (MQ below (QR (.int (oI (mso KS KL s A n)))) [.ref m0].toArray ss 0 0 (fun _ => False)) (F0 mm 4 ls []) := by
    intro d
    induction d with
    | zero => intro i b ls h; exact absurd h (Nat.not_lt_zero _)
    | succ d ih4 =>
      intro i b ls hd4 hi hb0 hl
      have hb1 := mso_le KS KL s A i
      refine lv_iload_n hx hb dX6_closest_4 rfl (lv_at hl 2 rfl) ?_
      refine lv_aload_n hx hb dX6_closest_5 rfl (lv_at hl 0 rfl) ?_
      refine va_get (D := D) (ci := 6) (v := .ref nw) (C := RX6) (T := TX6) (N := 20) hx hb hts inX6 hown hK hP 0 rfl rfl 0 (by decide) (hts _ mf_X6_7) (fun _ h9 => h9) rfl dX6_closest_6 ?_
      refine lv_iconst (v := nI 0) hx hb dX6_closest_9 (by decide +kernel) ?_
      refine n_iald hx hb hK hP 1 0 rfl rfl (k := 0) (by omega) (by decide) dX6_closest_10 ?_
      refine tq (y := nI n) (congrArg nI (hN0)) ?_
      refine n_ge (tgt := 48) hx hb dX6_closest_11 (by decide) (by omega) (by omega) (fun c1 => ?_) (fun c1 => ?_)
      ·
        refine lv_iload_n hx hb dX6_closest_48 rfl (lv_at hl 1 rfl) ?_
        exact ro_iret hx hb hr hlk dX6_closest_49 (by rw [hb0, show i = n by omega])
      ·
        refine lv_iload_n hx hb dX6_closest_14 rfl (lv_at hl 1 rfl) ?_
        refine lv_iconst (v := oI 0) hx hb dX6_closest_15 (by decide +kernel) ?_
        refine o_eq (tgt := 36) hx hb dX6_closest_16 (by decide) (by omega) (fun c2 => ?_) (fun c2 => ?_)
        ·
          refine lv_iload_n hx hb dX6_closest_36 rfl (lv_at hl 2 rfl) ?_
          refine lv_goto (tgt := 41) hx hb dX6_closest_37 (by decide) ?_
          refine tq (y := oI (i + 1)) (oI_s _).symm ?_
          refine lv_istore_n (lv' := [(1, .int (oI (i + 1))), (0, .ref m0), (2, .int (nI i))]) hx hb dX6_closest_41 rfl hl (by decide) rfl (fun ls hl => ?_)
          refine lv_iinc (v := nI (i + 1)) (lv' := [(2, .int (nI (i + 1))), (1, .int (oI (i + 1))), (0, .ref m0)]) hx hb dX6_closest_42 hl (k := 2) rfl (nI_add i 1) (by decide) rfl (fun ls hl => ?_)
          refine lv_goto (tgt := 4) hx hb dX6_closest_45 (by decide) ?_
          exact ih4 (i + 1) (i + 1) ls (by omega) (by omega) (by show _ = (if mso KS KL s A i = 0 ∨ unl (KS (mso KS KL s A i - 1)) (KL (mso KS KL s A i - 1)) s A < unl (KS i) (KL i) s A then i + 1 else mso KS KL s A i); rw [← hb0]; first | rw [if_pos (by omega)] | rw [if_neg (by omega)]) (lv_sub hl [2, 1, 0] rfl)
        ·
          refine lv_aload_n hx hb dX6_closest_19 rfl (lv_at hl 0 rfl) ?_
          refine lv_iload_n hx hb dX6_closest_20 rfl (lv_at hl 2 rfl) ?_
          refine lv_bipush (v := nI 24) hx hb dX6_closest_21 (by decide +kernel) ?_
          refine ro_V (As := [.int (nI i), .int (nI 24)]) (rest := []) ⟨hx, hb, hml, hown, hts⟩ (c_X6_unlikeAt l D cI cJ cZ m0 nw ps im mk wd so mb ma mf mw ml mu wt ty NW PS u IM MK sd WD s SO q EB EA EF EW EL EU br WT ww TY KS KL KW n A hn hk hw0 hR hRW i ((KS i)) ((KL i)) (Or.inr ⟨by omega, rfl, rfl⟩) 24 s A (Or.inl ⟨rfl, rfl, rfl⟩)) (k_X6_68 hts ⟨Nat.le_of_ble_eq_true rfl, Nat.le_of_ble_eq_true rfl⟩) hK hP 0 rfl rfl rfl [0, 1, 2, 3, 4, 5, 6, 7, 8, 9, 10, 11, 12, 13, 14] rfl rfl hl.1 rfl (Nat.le_of_ble_eq_true rfl) dX6_closest_23 ⟨Nat.le_of_ble_eq_true rfl, Nat.le_of_ble_eq_true rfl⟩ ?_
          refine lv_aload_n hx hb dX6_closest_26 rfl (lv_at hl 0 rfl) ?_
          refine lv_iload_n hx hb dX6_closest_27 rfl (lv_at hl 1 rfl) ?_
          refine tq (y := (nI (b - 1))) (oI_p (by omega)) ?_
          refine lv_bipush (v := nI 24) hx hb dX6_closest_28 (by decide +kernel) ?_
          refine ro_V (As := [.int (nI (b - 1)), .int (nI 24)]) (rest := [.int (nI (unl ((KS i)) ((KL i)) s A))]) ⟨hx, hb, hml, hown, hts⟩ (c_X6_unlikeAt l D cI cJ cZ m0 nw ps im mk wd so mb ma mf mw ml mu wt ty NW PS u IM MK sd WD s SO q EB EA EF EW EL EU br WT ww TY KS KL KW n A hn hk hw0 hR hRW (b - 1) ((KS (b - 1))) ((KL (b - 1))) (Or.inr ⟨by omega, rfl, rfl⟩) 24 s A (Or.inl ⟨rfl, rfl, rfl⟩)) (k_X6_68 hts ⟨Nat.le_of_ble_eq_true rfl, Nat.le_of_ble_eq_true rfl⟩) hK hP 0 rfl rfl rfl [0, 1, 2, 3, 4, 5, 6, 7, 8, 9, 10, 11, 12, 13, 14] rfl rfl hl.1 rfl (Nat.le_of_ble_eq_true rfl) dX6_closest_30 ⟨Nat.le_of_ble_eq_true rfl, Nat.le_of_ble_eq_true rfl⟩ ?_
          refine n_le (tgt := 40) hx hb dX6_closest_33 (by decide) (by have := unl_le (KS i) (KL i) s A; omega) (by have := unl_le (KS (b - 1)) (KL (b - 1)) s A; omega) (fun c3 => ?_) (fun c3 => ?_)
          ·
            refine lv_iload_n hx hb dX6_closest_40 rfl (lv_at hl 1 rfl) ?_
            refine lv_istore_n (lv' := [(1, .int (oI b)), (0, .ref m0), (2, .int (nI i))]) hx hb dX6_closest_41 rfl hl (by decide) rfl (fun ls hl => ?_)
            refine lv_iinc (v := nI (i + 1)) (lv' := [(2, .int (nI (i + 1))), (1, .int (oI b)), (0, .ref m0)]) hx hb dX6_closest_42 hl (k := 2) rfl (nI_add i 1) (by decide) rfl (fun ls hl => ?_)
            refine lv_goto (tgt := 4) hx hb dX6_closest_45 (by decide) ?_
            exact ih4 (i + 1) b ls (by omega) (by omega) (by show _ = (if mso KS KL s A i = 0 ∨ unl (KS (mso KS KL s A i - 1)) (KL (mso KS KL s A i - 1)) s A < unl (KS i) (KL i) s A then i + 1 else mso KS KL s A i); rw [← hb0]; first | rw [if_pos (by omega)] | rw [if_neg (by omega)]) (lv_sub hl [2, 1, 0] rfl)
          ·
            refine lv_iload_n hx hb dX6_closest_36 rfl (lv_at hl 2 rfl) ?_
            refine lv_goto (tgt := 41) hx hb dX6_closest_37 (by decide) ?_
            refine tq (y := oI (i + 1)) (oI_s _).symm ?_
            refine lv_istore_n (lv' := [(1, .int (oI (i + 1))), (0, .ref m0), (2, .int (nI i))]) hx hb dX6_closest_41 rfl hl (by decide) rfl (fun ls hl => ?_)
            refine lv_iinc (v := nI (i + 1)) (lv' := [(2, .int (nI (i + 1))), (1, .int (oI (i + 1))), (0, .ref m0)]) hx hb dX6_closest_42 hl (k := 2) rfl (nI_add i 1) (by decide) rfl (fun ls hl => ?_)
            refine lv_goto (tgt := 4) hx hb dX6_closest_45 (by decide) ?_
            exact ih4 (i + 1) (i + 1) ls (by omega) (by omega) (by show _ = (if mso KS KL s A i = 0 ∨ unl (KS (mso KS KL s A i - 1)) (KL (mso KS KL s A i - 1)) s A < unl (KS i) (KL i) s A then i + 1 else mso KS KL s A i); rw [← hb0]; first | rw [if_pos (by omega)] | rw [if_neg (by omega)]) (lv_sub hl [2, 1, 0] rfl)
  exact loop4 _ 0 0 ls (Nat.lt_succ_self _) (Nat.zero_le _) rfl (lv_sub hl [2, 1, 0] rfl)
set_option maxHeartbeats 4000000 in
set_option maxRecDepth 100000 in
theorem c_X6_off_none (l : Launch) (D : va_G) (cI cJ cZ : ClassId) (m0 nw ps im mk wd so mb ma mf mw ml mu wt ty : Nat) (NW : Nat → Nat) (PS : Nat → Nat) (u : Nat) (IM : Nat → Nat) (MK : Nat → Nat) (sd : Nat) (WD : Nat → Nat) (s : Nat) (SO : Nat → Nat) (q : Nat) (EB : Nat → Nat) (EA : Nat → Nat) (EF : Nat → Nat) (EW : Nat → Nat) (EL : Nat → Nat) (EU : Nat → Nat) (br : Nat) (WT : Nat → Nat) (ww : Nat) (TY : Nat → Nat) (KS KL KW : Nat → Nat) (n A : Nat) (hn : n ≤ 24) (hk : ∀ k, k < n → Wf (KS k) (KL k)) (hw0 : Wf s A) (hR : RN NW KS KL KW n) (hRW : RW WD s A) (hso : Srt KS KL n) (BB BD BM BL BF BA BK : Nat → Nat) (hTr : TrX (gapF KS KL) n BB BD BM BL BF BA BK) (hv : ∀ k, k < n → KW k ≤ 9999) (hc : mso KS KL s A n = 0) (sz : Nat) : WR l yX6_off cX6_off 2 (some .int) (rmN 4 90) D (ty3 cI cJ cZ) [.ref m0] [(m0, .inr (6, [.ref nw, .ref ps, .int (nI u), .ref im, .ref mk, .int (nI sd), .ref wd, .int (nI s), .ref so, .int (nI q), .ref mb, .ref ma, .ref mf, .ref mw, .ref ml, .ref mu, .int (nI br), .ref wt, .int (nI ww), .ref ty])), (nw, .inl (cI, 241, .inl (nF NW))), (ps, .inl (cI, 4820, .inl (nF PS))), (im, .inl (cI, 484, .inl (nF IM))), (mk, .inl (cZ, 2, .inl (nF MK))), (wd, .inl (cI, 8, .inl (nF WD))), (so, .inl (cI, 24, .inl (nF SO))), (mb, .inl (cI, 24, .inl (nF EB))), (ma, .inl (cI, 24, .inl (nF EA))), (mf, .inl (cI, 24, .inl (nF EF))), (mw, .inl (cI, 24, .inl (nF EW))), (ml, .inl (cI, 24, .inl (nF EL))), (mu, .inl (cI, 24, .inl (oF EU))), (wt, .inl (cI, 200, .inl (oF WT))), (ty, .inl (cI, 8, .inl (nF TY)))] sz (fun x w => x = some (.int (oI 0)) ∧ ∃ (SO : Nat → Nat) (q : Nat) (EB EA EF EW EL EU : Nat → Nat) (br : Nat) (WT : Nat → Nat) (ww : Nat), w = [(m0, .inr (6, [.ref nw, .ref ps, .int (nI u), .ref im, .ref mk, .int (nI sd), .ref wd, .int (nI s), .ref so, .int (nI q), .ref mb, .ref ma, .ref mf, .ref mw, .ref ml, .ref mu, .int (nI br), .ref wt, .int (nI ww), .ref ty])), (nw, .inl (cI, 241, .inl (nF NW))), (ps, .inl (cI, 4820, .inl (nF PS))), (im, .inl (cI, 484, .inl (nF IM))), (mk, .inl (cZ, 2, .inl (nF MK))), (wd, .inl (cI, 8, .inl (nF WD))), (so, .inl (cI, 24, .inl (nF SO))), (mb, .inl (cI, 24, .inl (nF EB))), (ma, .inl (cI, 24, .inl (nF EA))), (mf, .inl (cI, 24, .inl (nF EF))), (mw, .inl (cI, 24, .inl (nF EW))), (ml, .inl (cI, 24, .inl (nF EL))), (mu, .inl (cI, 24, .inl (oF EU))), (wt, .inl (cI, 200, .inl (oF WT))), (ty, .inl (cI, 8, .inl (nF TY)))]) := by
  have hs8 := hw0.1
  have hA64 := hw0.2.1
  have hN0 := hR.1
  have hBK := tf_BK hTr hn
  have hDK := tf_DK hTr hn
  have hp := plc_le KS KL n s A
  have hcb := cbl_le KS KL n s A
  have hfl := fnd_le KS KL n s A
  have hm := mso_le KS KL s A n
  refine wr_start (by decide) (Nat.le_of_ble_eq_true rfl) ?_
  intro pp ee ss mm below meth cd AA C0 hAA hP hK hD hS hN hnm ls hl
  obtain ⟨hx, hb, hr, hml, hown, hts, hlk⟩ := C0
  have hown : ss.vm.findClass RX6 = some mm.cls := hown
  have hl : lv_has ls 2 [(0, .ref m0)] := hl
  have hP : va_P D vwCl [(m0, .inr (6, [.ref nw, .ref ps, .int (nI u), .ref im, .ref mk, .int (nI sd), .ref wd, .int (nI s), .ref so, .int (nI q), .ref mb, .ref ma, .ref mf, .ref mw, .ref ml, .ref mu, .int (nI br), .ref wt, .int (nI ww), .ref ty])), (nw, .inl (cI, 241, .inl (nF NW))), (ps, .inl (cI, 4820, .inl (nF PS))), (im, .inl (cI, 484, .inl (nF IM))), (mk, .inl (cZ, 2, .inl (nF MK))), (wd, .inl (cI, 8, .inl (nF WD))), (so, .inl (cI, 24, .inl (nF SO))), (mb, .inl (cI, 24, .inl (nF EB))), (ma, .inl (cI, 24, .inl (nF EA))), (mf, .inl (cI, 24, .inl (nF EF))), (mw, .inl (cI, 24, .inl (nF EW))), (ml, .inl (cI, 24, .inl (nF EL))), (mu, .inl (cI, 24, .inl (oF EU))), (wt, .inl (cI, 200, .inl (oF WT))), (ty, .inl (cI, 8, .inl (nF TY)))] ss.heap := hP
  refine lv_aload_n hx hb dX6_off_0 rfl (lv_at hl 0 rfl) ?_
  refine ro_V (As := []) (rest := []) ⟨hx, hb, hml, hown, hts⟩ (c_X6_closest l D cI cJ cZ m0 nw ps im mk wd so mb ma mf mw ml mu wt ty NW PS u IM MK sd WD s SO q EB EA EF EW EL EU br WT ww TY KS KL KW n A hn hk hw0 hR hRW) (k_X6_168 hts ⟨Nat.le_of_ble_eq_true rfl, Nat.le_of_ble_eq_true rfl⟩) hK hP 0 rfl rfl rfl [0, 1, 2, 3, 4, 5, 6, 7, 8, 9, 10, 11, 12, 13, 14] rfl rfl hl.1 rfl (Nat.le_of_ble_eq_true rfl) dX6_off_1 ⟨Nat.le_of_ble_eq_true rfl, Nat.le_of_ble_eq_true rfl⟩ ?_
  refine lv_istore_n (lv' := [(1, .int (oI (mso KS KL s A n))), (0, .ref m0)]) hx hb dX6_off_4 rfl hl (by decide) rfl (fun ls hl => ?_)
  refine lv_iload_n hx hb dX6_off_5 rfl (lv_at hl 0 rfl) ?_
  refine lv_iconst (v := oI 0) hx hb dX6_off_6 (by decide +kernel) ?_
  refine o_eq (tgt := 22) hx hb dX6_off_7 (by decide) (by omega) (fun c1 => ?_) (fun c1 => ?_)
  ·
    refine lv_iconst (v := oI 0) hx hb dX6_off_22 (by decide +kernel) ?_
    refine lv_goto (tgt := 33) hx hb dX6_off_23 (by decide) ?_
    exact wr_iret hx hb hr hlk hP hD hS dX6_off_33 (⟨rfl, SO, q, EB, EA, EF, EW, EL, EU, br, WT, ww, rfl⟩)
  ·
    exact absurd hc c1
set_option maxHeartbeats 4000000 in
set_option maxRecDepth 100000 in
theorem c_X6_off_same (l : Launch) (D : va_G) (cI cJ cZ : ClassId) (m0 nw ps im mk wd so mb ma mf mw ml mu wt ty : Nat) (NW : Nat → Nat) (PS : Nat → Nat) (u : Nat) (IM : Nat → Nat) (MK : Nat → Nat) (sd : Nat) (WD : Nat → Nat) (s : Nat) (SO : Nat → Nat) (q : Nat) (EB : Nat → Nat) (EA : Nat → Nat) (EF : Nat → Nat) (EW : Nat → Nat) (EL : Nat → Nat) (EU : Nat → Nat) (br : Nat) (WT : Nat → Nat) (ww : Nat) (TY : Nat → Nat) (KS KL KW : Nat → Nat) (n A : Nat) (hn : n ≤ 24) (hk : ∀ k, k < n → Wf (KS k) (KL k)) (hw0 : Wf s A) (hR : RN NW KS KL KW n) (hRW : RW WD s A) (hso : Srt KS KL n) (BB BD BM BL BF BA BK : Nat → Nat) (hTr : TrX (gapF KS KL) n BB BD BM BL BF BA BK) (hv : ∀ k, k < n → KW k ≤ 9999) (hc : 0 < mso KS KL s A n) (hu : unl (KS (mso KS KL s A n - 1)) (KL (mso KS KL s A n - 1)) s A = 72) (sz : Nat) : WR l yX6_off cX6_off 2 (some .int) (rmN 4 90) D (ty3 cI cJ cZ) [.ref m0] [(m0, .inr (6, [.ref nw, .ref ps, .int (nI u), .ref im, .ref mk, .int (nI sd), .ref wd, .int (nI s), .ref so, .int (nI q), .ref mb, .ref ma, .ref mf, .ref mw, .ref ml, .ref mu, .int (nI br), .ref wt, .int (nI ww), .ref ty])), (nw, .inl (cI, 241, .inl (nF NW))), (ps, .inl (cI, 4820, .inl (nF PS))), (im, .inl (cI, 484, .inl (nF IM))), (mk, .inl (cZ, 2, .inl (nF MK))), (wd, .inl (cI, 8, .inl (nF WD))), (so, .inl (cI, 24, .inl (nF SO))), (mb, .inl (cI, 24, .inl (nF EB))), (ma, .inl (cI, 24, .inl (nF EA))), (mf, .inl (cI, 24, .inl (nF EF))), (mw, .inl (cI, 24, .inl (nF EW))), (ml, .inl (cI, 24, .inl (nF EL))), (mu, .inl (cI, 24, .inl (oF EU))), (wt, .inl (cI, 200, .inl (oF WT))), (ty, .inl (cI, 8, .inl (nF TY)))] sz (fun x w => x = some (.int (oI 0)) ∧ ∃ (SO : Nat → Nat) (q : Nat) (EB EA EF EW EL EU : Nat → Nat) (br : Nat) (WT : Nat → Nat) (ww : Nat), w = [(m0, .inr (6, [.ref nw, .ref ps, .int (nI u), .ref im, .ref mk, .int (nI sd), .ref wd, .int (nI s), .ref so, .int (nI q), .ref mb, .ref ma, .ref mf, .ref mw, .ref ml, .ref mu, .int (nI br), .ref wt, .int (nI ww), .ref ty])), (nw, .inl (cI, 241, .inl (nF NW))), (ps, .inl (cI, 4820, .inl (nF PS))), (im, .inl (cI, 484, .inl (nF IM))), (mk, .inl (cZ, 2, .inl (nF MK))), (wd, .inl (cI, 8, .inl (nF WD))), (so, .inl (cI, 24, .inl (nF SO))), (mb, .inl (cI, 24, .inl (nF EB))), (ma, .inl (cI, 24, .inl (nF EA))), (mf, .inl (cI, 24, .inl (nF EF))), (mw, .inl (cI, 24, .inl (nF EW))), (ml, .inl (cI, 24, .inl (nF EL))), (mu, .inl (cI, 24, .inl (oF EU))), (wt, .inl (cI, 200, .inl (oF WT))), (ty, .inl (cI, 8, .inl (nF TY)))]) := by
  have hs8 := hw0.1
  have hA64 := hw0.2.1
  have hN0 := hR.1
  have hBK := tf_BK hTr hn
  have hDK := tf_DK hTr hn
  have hp := plc_le KS KL n s A
  have hcb := cbl_le KS KL n s A
  have hfl := fnd_le KS KL n s A
  have hm := mso_le KS KL s A n
  refine wr_start (by decide) (Nat.le_of_ble_eq_true rfl) ?_
  intro pp ee ss mm below meth cd AA C0 hAA hP hK hD hS hN hnm ls hl
  obtain ⟨hx, hb, hr, hml, hown, hts, hlk⟩ := C0
  have hown : ss.vm.findClass RX6 = some mm.cls := hown
  have hl : lv_has ls 2 [(0, .ref m0)] := hl
  have hP : va_P D vwCl [(m0, .inr (6, [.ref nw, .ref ps, .int (nI u), .ref im, .ref mk, .int (nI sd), .ref wd, .int (nI s), .ref so, .int (nI q), .ref mb, .ref ma, .ref mf, .ref mw, .ref ml, .ref mu, .int (nI br), .ref wt, .int (nI ww), .ref ty])), (nw, .inl (cI, 241, .inl (nF NW))), (ps, .inl (cI, 4820, .inl (nF PS))), (im, .inl (cI, 484, .inl (nF IM))), (mk, .inl (cZ, 2, .inl (nF MK))), (wd, .inl (cI, 8, .inl (nF WD))), (so, .inl (cI, 24, .inl (nF SO))), (mb, .inl (cI, 24, .inl (nF EB))), (ma, .inl (cI, 24, .inl (nF EA))), (mf, .inl (cI, 24, .inl (nF EF))), (mw, .inl (cI, 24, .inl (nF EW))), (ml, .inl (cI, 24, .inl (nF EL))), (mu, .inl (cI, 24, .inl (oF EU))), (wt, .inl (cI, 200, .inl (oF WT))), (ty, .inl (cI, 8, .inl (nF TY)))] ss.heap := hP
  refine lv_aload_n hx hb dX6_off_0 rfl (lv_at hl 0 rfl) ?_
  refine ro_V (As := []) (rest := []) ⟨hx, hb, hml, hown, hts⟩ (c_X6_closest l D cI cJ cZ m0 nw ps im mk wd so mb ma mf mw ml mu wt ty NW PS u IM MK sd WD s SO q EB EA EF EW EL EU br WT ww TY KS KL KW n A hn hk hw0 hR hRW) (k_X6_168 hts ⟨Nat.le_of_ble_eq_true rfl, Nat.le_of_ble_eq_true rfl⟩) hK hP 0 rfl rfl rfl [0, 1, 2, 3, 4, 5, 6, 7, 8, 9, 10, 11, 12, 13, 14] rfl rfl hl.1 rfl (Nat.le_of_ble_eq_true rfl) dX6_off_1 ⟨Nat.le_of_ble_eq_true rfl, Nat.le_of_ble_eq_true rfl⟩ ?_
  refine lv_istore_n (lv' := [(1, .int (oI (mso KS KL s A n))), (0, .ref m0)]) hx hb dX6_off_4 rfl hl (by decide) rfl (fun ls hl => ?_)
  refine lv_iload_n hx hb dX6_off_5 rfl (lv_at hl 0 rfl) ?_
  refine lv_iconst (v := oI 0) hx hb dX6_off_6 (by decide +kernel) ?_
  refine o_eq (tgt := 22) hx hb dX6_off_7 (by decide) (by omega) (fun c1 => ?_) (fun c1 => ?_)
  ·
    exact absurd c1 (by omega)
  ·
    refine lv_aload_n hx hb dX6_off_10 rfl (lv_at hl 1 rfl) ?_
    refine lv_iload_n hx hb dX6_off_11 rfl (lv_at hl 0 rfl) ?_
    refine tq (y := (nI (mso KS KL s A n - 1))) (oI_p hc) ?_
    refine lv_bipush (v := nI 24) hx hb dX6_off_12 (by decide +kernel) ?_
    refine ro_V (As := [.int (nI (mso KS KL s A n - 1)), .int (nI 24)]) (rest := []) ⟨hx, hb, hml, hown, hts⟩ (c_X6_unlikeAt l D cI cJ cZ m0 nw ps im mk wd so mb ma mf mw ml mu wt ty NW PS u IM MK sd WD s SO q EB EA EF EW EL EU br WT ww TY KS KL KW n A hn hk hw0 hR hRW (mso KS KL s A n - 1) ((KS (mso KS KL s A n - 1))) ((KL (mso KS KL s A n - 1))) (Or.inr ⟨by omega, rfl, rfl⟩) 24 s A (Or.inl ⟨rfl, rfl, rfl⟩)) (k_X6_68 hts ⟨Nat.le_of_ble_eq_true rfl, Nat.le_of_ble_eq_true rfl⟩) hK hP 0 rfl rfl rfl [0, 1, 2, 3, 4, 5, 6, 7, 8, 9, 10, 11, 12, 13, 14] rfl rfl hl.1 rfl (Nat.le_of_ble_eq_true rfl) dX6_off_14 ⟨Nat.le_of_ble_eq_true rfl, Nat.le_of_ble_eq_true rfl⟩ ?_
    refine lv_bipush (v := nI 72) hx hb dX6_off_17 (by decide +kernel) ?_
    refine n_ne (tgt := 26) hx hb dX6_off_19 (by decide) (by omega) (by omega) (fun c2 => ?_) (fun c2 => ?_)
    ·
      exact absurd c2 (by omega)
    ·
      refine lv_iconst (v := oI 0) hx hb dX6_off_22 (by decide +kernel) ?_
      refine lv_goto (tgt := 33) hx hb dX6_off_23 (by decide) ?_
      exact wr_iret hx hb hr hlk hP hD hS dX6_off_33 (⟨rfl, SO, q, EB, EA, EF, EW, EL, EU, br, WT, ww, rfl⟩)
set_option maxHeartbeats 4000000 in
set_option maxRecDepth 100000 in
theorem c_X6_off_some (l : Launch) (D : va_G) (cI cJ cZ : ClassId) (m0 nw ps im mk wd so mb ma mf mw ml mu wt ty : Nat) (NW : Nat → Nat) (PS : Nat → Nat) (u : Nat) (IM : Nat → Nat) (MK : Nat → Nat) (sd : Nat) (WD : Nat → Nat) (s : Nat) (SO : Nat → Nat) (q : Nat) (EB : Nat → Nat) (EA : Nat → Nat) (EF : Nat → Nat) (EW : Nat → Nat) (EL : Nat → Nat) (EU : Nat → Nat) (br : Nat) (WT : Nat → Nat) (ww : Nat) (TY : Nat → Nat) (KS KL KW : Nat → Nat) (n A : Nat) (hn : n ≤ 24) (hk : ∀ k, k < n → Wf (KS k) (KL k)) (hw0 : Wf s A) (hR : RN NW KS KL KW n) (hRW : RW WD s A) (hso : Srt KS KL n) (BB BD BM BL BF BA BK : Nat → Nat) (hTr : TrX (gapF KS KL) n BB BD BM BL BF BA BK) (hv : ∀ k, k < n → KW k ≤ 9999) (hc : 0 < mso KS KL s A n) (hu : unl (KS (mso KS KL s A n - 1)) (KL (mso KS KL s A n - 1)) s A ≠ 72) (sz : Nat) : WR l yX6_off cX6_off 2 (some .int) (rmN 4 90) D (ty3 cI cJ cZ) [.ref m0] [(m0, .inr (6, [.ref nw, .ref ps, .int (nI u), .ref im, .ref mk, .int (nI sd), .ref wd, .int (nI s), .ref so, .int (nI q), .ref mb, .ref ma, .ref mf, .ref mw, .ref ml, .ref mu, .int (nI br), .ref wt, .int (nI ww), .ref ty])), (nw, .inl (cI, 241, .inl (nF NW))), (ps, .inl (cI, 4820, .inl (nF PS))), (im, .inl (cI, 484, .inl (nF IM))), (mk, .inl (cZ, 2, .inl (nF MK))), (wd, .inl (cI, 8, .inl (nF WD))), (so, .inl (cI, 24, .inl (nF SO))), (mb, .inl (cI, 24, .inl (nF EB))), (ma, .inl (cI, 24, .inl (nF EA))), (mf, .inl (cI, 24, .inl (nF EF))), (mw, .inl (cI, 24, .inl (nF EW))), (ml, .inl (cI, 24, .inl (nF EL))), (mu, .inl (cI, 24, .inl (oF EU))), (wt, .inl (cI, 200, .inl (oF WT))), (ty, .inl (cI, 8, .inl (nF TY)))] sz (fun x w => x = some (.int (nI (unl (KS (mso KS KL s A n - 1)) (KL (mso KS KL s A n - 1)) s A))) ∧ ∃ (SO : Nat → Nat) (q : Nat) (EB EA EF EW EL EU : Nat → Nat) (br : Nat) (WT : Nat → Nat) (ww : Nat), w = [(m0, .inr (6, [.ref nw, .ref ps, .int (nI u), .ref im, .ref mk, .int (nI sd), .ref wd, .int (nI s), .ref so, .int (nI q), .ref mb, .ref ma, .ref mf, .ref mw, .ref ml, .ref mu, .int (nI br), .ref wt, .int (nI ww), .ref ty])), (nw, .inl (cI, 241, .inl (nF NW))), (ps, .inl (cI, 4820, .inl (nF PS))), (im, .inl (cI, 484, .inl (nF IM))), (mk, .inl (cZ, 2, .inl (nF MK))), (wd, .inl (cI, 8, .inl (nF WD))), (so, .inl (cI, 24, .inl (nF SO))), (mb, .inl (cI, 24, .inl (nF EB))), (ma, .inl (cI, 24, .inl (nF EA))), (mf, .inl (cI, 24, .inl (nF EF))), (mw, .inl (cI, 24, .inl (nF EW))), (ml, .inl (cI, 24, .inl (nF EL))), (mu, .inl (cI, 24, .inl (oF EU))), (wt, .inl (cI, 200, .inl (oF WT))), (ty, .inl (cI, 8, .inl (nF TY)))]) := by
  have hs8 := hw0.1
  have hA64 := hw0.2.1
  have hN0 := hR.1
  have hBK := tf_BK hTr hn
  have hDK := tf_DK hTr hn
  have hp := plc_le KS KL n s A
  have hcb := cbl_le KS KL n s A
  have hfl := fnd_le KS KL n s A
  have hm := mso_le KS KL s A n
  have hul := unl_le (KS (mso KS KL s A n - 1)) (KL (mso KS KL s A n - 1)) s A
  refine wr_start (by decide) (Nat.le_of_ble_eq_true rfl) ?_
  intro pp ee ss mm below meth cd AA C0 hAA hP hK hD hS hN hnm ls hl
  obtain ⟨hx, hb, hr, hml, hown, hts, hlk⟩ := C0
  have hown : ss.vm.findClass RX6 = some mm.cls := hown
  have hl : lv_has ls 2 [(0, .ref m0)] := hl
  have hP : va_P D vwCl [(m0, .inr (6, [.ref nw, .ref ps, .int (nI u), .ref im, .ref mk, .int (nI sd), .ref wd, .int (nI s), .ref so, .int (nI q), .ref mb, .ref ma, .ref mf, .ref mw, .ref ml, .ref mu, .int (nI br), .ref wt, .int (nI ww), .ref ty])), (nw, .inl (cI, 241, .inl (nF NW))), (ps, .inl (cI, 4820, .inl (nF PS))), (im, .inl (cI, 484, .inl (nF IM))), (mk, .inl (cZ, 2, .inl (nF MK))), (wd, .inl (cI, 8, .inl (nF WD))), (so, .inl (cI, 24, .inl (nF SO))), (mb, .inl (cI, 24, .inl (nF EB))), (ma, .inl (cI, 24, .inl (nF EA))), (mf, .inl (cI, 24, .inl (nF EF))), (mw, .inl (cI, 24, .inl (nF EW))), (ml, .inl (cI, 24, .inl (nF EL))), (mu, .inl (cI, 24, .inl (oF EU))), (wt, .inl (cI, 200, .inl (oF WT))), (ty, .inl (cI, 8, .inl (nF TY)))] ss.heap := hP
  refine lv_aload_n hx hb dX6_off_0 rfl (lv_at hl 0 rfl) ?_
  refine ro_V (As := []) (rest := []) ⟨hx, hb, hml, hown, hts⟩ (c_X6_closest l D cI cJ cZ m0 nw ps im mk wd so mb ma mf mw ml mu wt ty NW PS u IM MK sd WD s SO q EB EA EF EW EL EU br WT ww TY KS KL KW n A hn hk hw0 hR hRW) (k_X6_168 hts ⟨Nat.le_of_ble_eq_true rfl, Nat.le_of_ble_eq_true rfl⟩) hK hP 0 rfl rfl rfl [0, 1, 2, 3, 4, 5, 6, 7, 8, 9, 10, 11, 12, 13, 14] rfl rfl hl.1 rfl (Nat.le_of_ble_eq_true rfl) dX6_off_1 ⟨Nat.le_of_ble_eq_true rfl, Nat.le_of_ble_eq_true rfl⟩ ?_
  refine lv_istore_n (lv' := [(1, .int (oI (mso KS KL s A n))), (0, .ref m0)]) hx hb dX6_off_4 rfl hl (by decide) rfl (fun ls hl => ?_)
  refine lv_iload_n hx hb dX6_off_5 rfl (lv_at hl 0 rfl) ?_
  refine lv_iconst (v := oI 0) hx hb dX6_off_6 (by decide +kernel) ?_
  refine o_eq (tgt := 22) hx hb dX6_off_7 (by decide) (by omega) (fun c1 => ?_) (fun c1 => ?_)
  ·
    exact absurd c1 (by omega)
  ·
    refine lv_aload_n hx hb dX6_off_10 rfl (lv_at hl 1 rfl) ?_
    refine lv_iload_n hx hb dX6_off_11 rfl (lv_at hl 0 rfl) ?_
    refine tq (y := (nI (mso KS KL s A n - 1))) (oI_p hc) ?_
    refine lv_bipush (v := nI 24) hx hb dX6_off_12 (by decide +kernel) ?_
    refine ro_V (As := [.int (nI (mso KS KL s A n - 1)), .int (nI 24)]) (rest := []) ⟨hx, hb, hml, hown, hts⟩ (c_X6_unlikeAt l D cI cJ cZ m0 nw ps im mk wd so mb ma mf mw ml mu wt ty NW PS u IM MK sd WD s SO q EB EA EF EW EL EU br WT ww TY KS KL KW n A hn hk hw0 hR hRW (mso KS KL s A n - 1) ((KS (mso KS KL s A n - 1))) ((KL (mso KS KL s A n - 1))) (Or.inr ⟨by omega, rfl, rfl⟩) 24 s A (Or.inl ⟨rfl, rfl, rfl⟩)) (k_X6_68 hts ⟨Nat.le_of_ble_eq_true rfl, Nat.le_of_ble_eq_true rfl⟩) hK hP 0 rfl rfl rfl [0, 1, 2, 3, 4, 5, 6, 7, 8, 9, 10, 11, 12, 13, 14] rfl rfl hl.1 rfl (Nat.le_of_ble_eq_true rfl) dX6_off_14 ⟨Nat.le_of_ble_eq_true rfl, Nat.le_of_ble_eq_true rfl⟩ ?_
    refine lv_bipush (v := nI 72) hx hb dX6_off_17 (by decide +kernel) ?_
    refine n_ne (tgt := 26) hx hb dX6_off_19 (by decide) (by omega) (by omega) (fun c2 => ?_) (fun c2 => ?_)
    ·
      refine lv_aload_n hx hb dX6_off_26 rfl (lv_at hl 1 rfl) ?_
      refine lv_iload_n hx hb dX6_off_27 rfl (lv_at hl 0 rfl) ?_
      refine tq (y := (nI (mso KS KL s A n - 1))) (oI_p hc) ?_
      refine lv_bipush (v := nI 24) hx hb dX6_off_28 (by decide +kernel) ?_
      refine ro_V (As := [.int (nI (mso KS KL s A n - 1)), .int (nI 24)]) (rest := []) ⟨hx, hb, hml, hown, hts⟩ (c_X6_unlikeAt l D cI cJ cZ m0 nw ps im mk wd so mb ma mf mw ml mu wt ty NW PS u IM MK sd WD s SO q EB EA EF EW EL EU br WT ww TY KS KL KW n A hn hk hw0 hR hRW (mso KS KL s A n - 1) ((KS (mso KS KL s A n - 1))) ((KL (mso KS KL s A n - 1))) (Or.inr ⟨by omega, rfl, rfl⟩) 24 s A (Or.inl ⟨rfl, rfl, rfl⟩)) (k_X6_68 hts ⟨Nat.le_of_ble_eq_true rfl, Nat.le_of_ble_eq_true rfl⟩) hK hP 0 rfl rfl rfl [0, 1, 2, 3, 4, 5, 6, 7, 8, 9, 10, 11, 12, 13, 14] rfl rfl hl.1 rfl (Nat.le_of_ble_eq_true rfl) dX6_off_30 ⟨Nat.le_of_ble_eq_true rfl, Nat.le_of_ble_eq_true rfl⟩ ?_
      exact wr_iret hx hb hr hlk hP hD hS dX6_off_33 (⟨rfl, SO, q, EB, EA, EF, EW, EL, EU, br, WT, ww, rfl⟩)
    ·
      exact absurd c2 (by omega)
set_option maxHeartbeats 4000000 in
set_option maxRecDepth 100000 in
theorem c_X6_unlike_kneg (l : Launch) (D : va_G) (cI cJ cZ : ClassId) (m0 nw ps im mk wd so mb ma mf mw ml mu wt ty : Nat) (NW : Nat → Nat) (PS : Nat → Nat) (u : Nat) (IM : Nat → Nat) (MK : Nat → Nat) (sd : Nat) (WD : Nat → Nat) (s : Nat) (SO : Nat → Nat) (q : Nat) (EB : Nat → Nat) (EA : Nat → Nat) (EF : Nat → Nat) (EW : Nat → Nat) (EL : Nat → Nat) (EU : Nat → Nat) (br : Nat) (WT : Nat → Nat) (ww : Nat) (TY : Nat → Nat) (KS KL KW : Nat → Nat) (n A : Nat) (hn : n ≤ 24) (hk : ∀ k, k < n → Wf (KS k) (KL k)) (hw0 : Wf s A) (hR : RN NW KS KL KW n) (hRW : RW WD s A) (hso : Srt KS KL n) (BB BD BM BL BF BA BK : Nat → Nat) (hTr : TrX (gapF KS KL) n BB BD BM BL BF BA BK) (hv : ∀ k, k < n → KW k ≤ 9999) (x y : Int32) (hx0 : x < 0) (sz : Nat) : WR l yX6_unlike cX6_unlike 3 (some .int) (rmN 3 68) D (ty3 cI cJ cZ) [.ref m0, .int x, .int y] [(m0, .inr (6, [.ref nw, .ref ps, .int (nI u), .ref im, .ref mk, .int (nI sd), .ref wd, .int (nI s), .ref so, .int (nI q), .ref mb, .ref ma, .ref mf, .ref mw, .ref ml, .ref mu, .int (nI br), .ref wt, .int (nI ww), .ref ty])), (nw, .inl (cI, 241, .inl (nF NW))), (ps, .inl (cI, 4820, .inl (nF PS))), (im, .inl (cI, 484, .inl (nF IM))), (mk, .inl (cZ, 2, .inl (nF MK))), (wd, .inl (cI, 8, .inl (nF WD))), (so, .inl (cI, 24, .inl (nF SO))), (mb, .inl (cI, 24, .inl (nF EB))), (ma, .inl (cI, 24, .inl (nF EA))), (mf, .inl (cI, 24, .inl (nF EF))), (mw, .inl (cI, 24, .inl (nF EW))), (ml, .inl (cI, 24, .inl (nF EL))), (mu, .inl (cI, 24, .inl (oF EU))), (wt, .inl (cI, 200, .inl (oF WT))), (ty, .inl (cI, 8, .inl (nF TY)))] sz (fun x w => x = some (.int (-1000000001)) ∧ ∃ (SO : Nat → Nat) (q : Nat) (EB EA EF EW EL EU : Nat → Nat) (br : Nat) (WT : Nat → Nat) (ww : Nat), w = [(m0, .inr (6, [.ref nw, .ref ps, .int (nI u), .ref im, .ref mk, .int (nI sd), .ref wd, .int (nI s), .ref so, .int (nI q), .ref mb, .ref ma, .ref mf, .ref mw, .ref ml, .ref mu, .int (nI br), .ref wt, .int (nI ww), .ref ty])), (nw, .inl (cI, 241, .inl (nF NW))), (ps, .inl (cI, 4820, .inl (nF PS))), (im, .inl (cI, 484, .inl (nF IM))), (mk, .inl (cZ, 2, .inl (nF MK))), (wd, .inl (cI, 8, .inl (nF WD))), (so, .inl (cI, 24, .inl (nF SO))), (mb, .inl (cI, 24, .inl (nF EB))), (ma, .inl (cI, 24, .inl (nF EA))), (mf, .inl (cI, 24, .inl (nF EF))), (mw, .inl (cI, 24, .inl (nF EW))), (ml, .inl (cI, 24, .inl (nF EL))), (mu, .inl (cI, 24, .inl (oF EU))), (wt, .inl (cI, 200, .inl (oF WT))), (ty, .inl (cI, 8, .inl (nF TY)))]) := by
  have hs8 := hw0.1
  have hA64 := hw0.2.1
  have hN0 := hR.1
  have hBK := tf_BK hTr hn
  have hDK := tf_DK hTr hn
  have hp := plc_le KS KL n s A
  have hcb := cbl_le KS KL n s A
  have hfl := fnd_le KS KL n s A
  refine wr_start (by decide) (Nat.le_of_ble_eq_true rfl) ?_
  intro pp ee ss mm below meth cd AA C0 hAA hP hK hD hS hN hnm ls hl
  obtain ⟨hx, hb, hr, hml, hown, hts, hlk⟩ := C0
  have hown : ss.vm.findClass RX6 = some mm.cls := hown
  have hl : lv_has ls 3 [(0, .ref m0), (1, .int x), (2, .int y)] := hl
  have hP : va_P D vwCl [(m0, .inr (6, [.ref nw, .ref ps, .int (nI u), .ref im, .ref mk, .int (nI sd), .ref wd, .int (nI s), .ref so, .int (nI q), .ref mb, .ref ma, .ref mf, .ref mw, .ref ml, .ref mu, .int (nI br), .ref wt, .int (nI ww), .ref ty])), (nw, .inl (cI, 241, .inl (nF NW))), (ps, .inl (cI, 4820, .inl (nF PS))), (im, .inl (cI, 484, .inl (nF IM))), (mk, .inl (cZ, 2, .inl (nF MK))), (wd, .inl (cI, 8, .inl (nF WD))), (so, .inl (cI, 24, .inl (nF SO))), (mb, .inl (cI, 24, .inl (nF EB))), (ma, .inl (cI, 24, .inl (nF EA))), (mf, .inl (cI, 24, .inl (nF EF))), (mw, .inl (cI, 24, .inl (nF EW))), (ml, .inl (cI, 24, .inl (nF EL))), (mu, .inl (cI, 24, .inl (oF EU))), (wt, .inl (cI, 200, .inl (oF WT))), (ty, .inl (cI, 8, .inl (nF TY)))] ss.heap := hP
  refine lv_aload_n hx hb dX6_unlike_0 rfl (lv_at hl 0 rfl) ?_
  refine lv_iload_n hx hb dX6_unlike_1 rfl (lv_at hl 1 rfl) ?_
  refine ro_V (As := [.int x]) (rest := []) ⟨hx, hb, hml, hown, hts⟩ (c_X6_isKey_neg l D cI cJ cZ m0 nw ps im mk wd so mb ma mf mw ml mu wt ty NW PS u IM MK sd WD s SO q EB EA EF EW EL EU br WT ww TY KS KL KW n A hn hk hw0 hR hRW x hx0) (k_X6_85 hts ⟨Nat.le_of_ble_eq_true rfl, Nat.le_of_ble_eq_true rfl⟩) hK hP 0 rfl rfl rfl [0, 1, 2, 3, 4, 5, 6, 7, 8, 9, 10, 11, 12, 13, 14] rfl rfl hl.1 rfl (Nat.le_of_ble_eq_true rfl) dX6_unlike_2 ⟨Nat.le_of_ble_eq_true rfl, Nat.le_of_ble_eq_true rfl⟩ ?_
  refine n_if_eq (tgt := 30) hx hb dX6_unlike_5 (by decide) (by decide) (fun _ => ?_) (fun h9 => absurd rfl h9)
  refine lv_ldc hx hb hown (hts _ mk_X6_89) dX6_unlike_30 ?_
  exact wr_iret hx hb hr hlk hP hD hS dX6_unlike_32 (⟨rfl, SO, q, EB, EA, EF, EW, EL, EU, br, WT, ww, rfl⟩)
set_option maxHeartbeats 4000000 in
set_option maxRecDepth 100000 in
theorem c_X6_unlike_kout (l : Launch) (D : va_G) (cI cJ cZ : ClassId) (m0 nw ps im mk wd so mb ma mf mw ml mu wt ty : Nat) (NW : Nat → Nat) (PS : Nat → Nat) (u : Nat) (IM : Nat → Nat) (MK : Nat → Nat) (sd : Nat) (WD : Nat → Nat) (s : Nat) (SO : Nat → Nat) (q : Nat) (EB : Nat → Nat) (EA : Nat → Nat) (EF : Nat → Nat) (EW : Nat → Nat) (EL : Nat → Nat) (EU : Nat → Nat) (br : Nat) (WT : Nat → Nat) (ww : Nat) (TY : Nat → Nat) (KS KL KW : Nat → Nat) (n A : Nat) (hn : n ≤ 24) (hk : ∀ k, k < n → Wf (KS k) (KL k)) (hw0 : Wf s A) (hR : RN NW KS KL KW n) (hRW : RW WD s A) (hso : Srt KS KL n) (BB BD BM BL BF BA BK : Nat → Nat) (hTr : TrX (gapF KS KL) n BB BD BM BL BF BA BK) (hv : ∀ k, k < n → KW k ≤ 9999) (j : Nat) (y : Int32) (hj : j < 2 ^ 31) (hjo : n ≤ j) (sz : Nat) : WR l yX6_unlike cX6_unlike 3 (some .int) (rmN 3 68) D (ty3 cI cJ cZ) [.ref m0, .int (nI j), .int y] [(m0, .inr (6, [.ref nw, .ref ps, .int (nI u), .ref im, .ref mk, .int (nI sd), .ref wd, .int (nI s), .ref so, .int (nI q), .ref mb, .ref ma, .ref mf, .ref mw, .ref ml, .ref mu, .int (nI br), .ref wt, .int (nI ww), .ref ty])), (nw, .inl (cI, 241, .inl (nF NW))), (ps, .inl (cI, 4820, .inl (nF PS))), (im, .inl (cI, 484, .inl (nF IM))), (mk, .inl (cZ, 2, .inl (nF MK))), (wd, .inl (cI, 8, .inl (nF WD))), (so, .inl (cI, 24, .inl (nF SO))), (mb, .inl (cI, 24, .inl (nF EB))), (ma, .inl (cI, 24, .inl (nF EA))), (mf, .inl (cI, 24, .inl (nF EF))), (mw, .inl (cI, 24, .inl (nF EW))), (ml, .inl (cI, 24, .inl (nF EL))), (mu, .inl (cI, 24, .inl (oF EU))), (wt, .inl (cI, 200, .inl (oF WT))), (ty, .inl (cI, 8, .inl (nF TY)))] sz (fun x w => x = some (.int (-1000000001)) ∧ ∃ (SO : Nat → Nat) (q : Nat) (EB EA EF EW EL EU : Nat → Nat) (br : Nat) (WT : Nat → Nat) (ww : Nat), w = [(m0, .inr (6, [.ref nw, .ref ps, .int (nI u), .ref im, .ref mk, .int (nI sd), .ref wd, .int (nI s), .ref so, .int (nI q), .ref mb, .ref ma, .ref mf, .ref mw, .ref ml, .ref mu, .int (nI br), .ref wt, .int (nI ww), .ref ty])), (nw, .inl (cI, 241, .inl (nF NW))), (ps, .inl (cI, 4820, .inl (nF PS))), (im, .inl (cI, 484, .inl (nF IM))), (mk, .inl (cZ, 2, .inl (nF MK))), (wd, .inl (cI, 8, .inl (nF WD))), (so, .inl (cI, 24, .inl (nF SO))), (mb, .inl (cI, 24, .inl (nF EB))), (ma, .inl (cI, 24, .inl (nF EA))), (mf, .inl (cI, 24, .inl (nF EF))), (mw, .inl (cI, 24, .inl (nF EW))), (ml, .inl (cI, 24, .inl (nF EL))), (mu, .inl (cI, 24, .inl (oF EU))), (wt, .inl (cI, 200, .inl (oF WT))), (ty, .inl (cI, 8, .inl (nF TY)))]) := by
  have hs8 := hw0.1
  have hA64 := hw0.2.1
  have hN0 := hR.1
  have hBK := tf_BK hTr hn
  have hDK := tf_DK hTr hn
  have hp := plc_le KS KL n s A
  have hcb := cbl_le KS KL n s A
  have hfl := fnd_le KS KL n s A
  refine wr_start (by decide) (Nat.le_of_ble_eq_true rfl) ?_
  intro pp ee ss mm below meth cd AA C0 hAA hP hK hD hS hN hnm ls hl
  obtain ⟨hx, hb, hr, hml, hown, hts, hlk⟩ := C0
  have hown : ss.vm.findClass RX6 = some mm.cls := hown
  have hl : lv_has ls 3 [(0, .ref m0), (1, .int (nI j)), (2, .int y)] := hl
  have hP : va_P D vwCl [(m0, .inr (6, [.ref nw, .ref ps, .int (nI u), .ref im, .ref mk, .int (nI sd), .ref wd, .int (nI s), .ref so, .int (nI q), .ref mb, .ref ma, .ref mf, .ref mw, .ref ml, .ref mu, .int (nI br), .ref wt, .int (nI ww), .ref ty])), (nw, .inl (cI, 241, .inl (nF NW))), (ps, .inl (cI, 4820, .inl (nF PS))), (im, .inl (cI, 484, .inl (nF IM))), (mk, .inl (cZ, 2, .inl (nF MK))), (wd, .inl (cI, 8, .inl (nF WD))), (so, .inl (cI, 24, .inl (nF SO))), (mb, .inl (cI, 24, .inl (nF EB))), (ma, .inl (cI, 24, .inl (nF EA))), (mf, .inl (cI, 24, .inl (nF EF))), (mw, .inl (cI, 24, .inl (nF EW))), (ml, .inl (cI, 24, .inl (nF EL))), (mu, .inl (cI, 24, .inl (oF EU))), (wt, .inl (cI, 200, .inl (oF WT))), (ty, .inl (cI, 8, .inl (nF TY)))] ss.heap := hP
  refine lv_aload_n hx hb dX6_unlike_0 rfl (lv_at hl 0 rfl) ?_
  refine lv_iload_n hx hb dX6_unlike_1 rfl (lv_at hl 1 rfl) ?_
  refine ro_V (As := [.int (nI j)]) (rest := []) ⟨hx, hb, hml, hown, hts⟩ (c_X6_isKey l D cI cJ cZ m0 nw ps im mk wd so mb ma mf mw ml mu wt ty NW PS u IM MK sd WD s SO q EB EA EF EW EL EU br WT ww TY KS KL KW n A hn hk hw0 hR hRW j (by omega)) (k_X6_85 hts ⟨Nat.le_of_ble_eq_true rfl, Nat.le_of_ble_eq_true rfl⟩) hK hP 0 rfl rfl rfl [0, 1, 2, 3, 4, 5, 6, 7, 8, 9, 10, 11, 12, 13, 14] rfl rfl hl.1 rfl (Nat.le_of_ble_eq_true rfl) dX6_unlike_2 ⟨Nat.le_of_ble_eq_true rfl, Nat.le_of_ble_eq_true rfl⟩ ?_
  refine b_if_eq (tgt := 30) hx hb dX6_unlike_5 (by decide) (fun c1 => ?_) (fun c1 => ?_)
  ·
    refine lv_ldc hx hb hown (hts _ mk_X6_89) dX6_unlike_30 ?_
    exact wr_iret hx hb hr hlk hP hD hS dX6_unlike_32 (⟨rfl, SO, q, EB, EA, EF, EW, EL, EU, br, WT, ww, rfl⟩)
  ·
    exact absurd c1 (by omega)
set_option maxHeartbeats 4000000 in
set_option maxRecDepth 100000 in
theorem c_X6_unlike_jneg (l : Launch) (D : va_G) (cI cJ cZ : ClassId) (m0 nw ps im mk wd so mb ma mf mw ml mu wt ty : Nat) (NW : Nat → Nat) (PS : Nat → Nat) (u : Nat) (IM : Nat → Nat) (MK : Nat → Nat) (sd : Nat) (WD : Nat → Nat) (s : Nat) (SO : Nat → Nat) (q : Nat) (EB : Nat → Nat) (EA : Nat → Nat) (EF : Nat → Nat) (EW : Nat → Nat) (EL : Nat → Nat) (EU : Nat → Nat) (br : Nat) (WT : Nat → Nat) (ww : Nat) (TY : Nat → Nat) (KS KL KW : Nat → Nat) (n A : Nat) (hn : n ≤ 24) (hk : ∀ k, k < n → Wf (KS k) (KL k)) (hw0 : Wf s A) (hR : RN NW KS KL KW n) (hRW : RW WD s A) (hso : Srt KS KL n) (BB BD BM BL BF BA BK : Nat → Nat) (hTr : TrX (gapF KS KL) n BB BD BM BL BF BA BK) (hv : ∀ k, k < n → KW k ≤ 9999) (j : Nat) (hj : j < n) (x : Int32) (hx0 : x < 0) (sz : Nat) : WR l yX6_unlike cX6_unlike 3 (some .int) (rmN 3 68) D (ty3 cI cJ cZ) [.ref m0, .int (nI j), .int x] [(m0, .inr (6, [.ref nw, .ref ps, .int (nI u), .ref im, .ref mk, .int (nI sd), .ref wd, .int (nI s), .ref so, .int (nI q), .ref mb, .ref ma, .ref mf, .ref mw, .ref ml, .ref mu, .int (nI br), .ref wt, .int (nI ww), .ref ty])), (nw, .inl (cI, 241, .inl (nF NW))), (ps, .inl (cI, 4820, .inl (nF PS))), (im, .inl (cI, 484, .inl (nF IM))), (mk, .inl (cZ, 2, .inl (nF MK))), (wd, .inl (cI, 8, .inl (nF WD))), (so, .inl (cI, 24, .inl (nF SO))), (mb, .inl (cI, 24, .inl (nF EB))), (ma, .inl (cI, 24, .inl (nF EA))), (mf, .inl (cI, 24, .inl (nF EF))), (mw, .inl (cI, 24, .inl (nF EW))), (ml, .inl (cI, 24, .inl (nF EL))), (mu, .inl (cI, 24, .inl (oF EU))), (wt, .inl (cI, 200, .inl (oF WT))), (ty, .inl (cI, 8, .inl (nF TY)))] sz (fun x w => x = some (.int (-1000000001)) ∧ ∃ (SO : Nat → Nat) (q : Nat) (EB EA EF EW EL EU : Nat → Nat) (br : Nat) (WT : Nat → Nat) (ww : Nat), w = [(m0, .inr (6, [.ref nw, .ref ps, .int (nI u), .ref im, .ref mk, .int (nI sd), .ref wd, .int (nI s), .ref so, .int (nI q), .ref mb, .ref ma, .ref mf, .ref mw, .ref ml, .ref mu, .int (nI br), .ref wt, .int (nI ww), .ref ty])), (nw, .inl (cI, 241, .inl (nF NW))), (ps, .inl (cI, 4820, .inl (nF PS))), (im, .inl (cI, 484, .inl (nF IM))), (mk, .inl (cZ, 2, .inl (nF MK))), (wd, .inl (cI, 8, .inl (nF WD))), (so, .inl (cI, 24, .inl (nF SO))), (mb, .inl (cI, 24, .inl (nF EB))), (ma, .inl (cI, 24, .inl (nF EA))), (mf, .inl (cI, 24, .inl (nF EF))), (mw, .inl (cI, 24, .inl (nF EW))), (ml, .inl (cI, 24, .inl (nF EL))), (mu, .inl (cI, 24, .inl (oF EU))), (wt, .inl (cI, 200, .inl (oF WT))), (ty, .inl (cI, 8, .inl (nF TY)))]) := by
  have hs8 := hw0.1
  have hA64 := hw0.2.1
  have hN0 := hR.1
  have hBK := tf_BK hTr hn
  have hDK := tf_DK hTr hn
  have hp := plc_le KS KL n s A
  have hcb := cbl_le KS KL n s A
  have hfl := fnd_le KS KL n s A
  refine wr_start (by decide) (Nat.le_of_ble_eq_true rfl) ?_
  intro pp ee ss mm below meth cd AA C0 hAA hP hK hD hS hN hnm ls hl
  obtain ⟨hx, hb, hr, hml, hown, hts, hlk⟩ := C0
  have hown : ss.vm.findClass RX6 = some mm.cls := hown
  have hl : lv_has ls 3 [(0, .ref m0), (1, .int (nI j)), (2, .int x)] := hl
  have hP : va_P D vwCl [(m0, .inr (6, [.ref nw, .ref ps, .int (nI u), .ref im, .ref mk, .int (nI sd), .ref wd, .int (nI s), .ref so, .int (nI q), .ref mb, .ref ma, .ref mf, .ref mw, .ref ml, .ref mu, .int (nI br), .ref wt, .int (nI ww), .ref ty])), (nw, .inl (cI, 241, .inl (nF NW))), (ps, .inl (cI, 4820, .inl (nF PS))), (im, .inl (cI, 484, .inl (nF IM))), (mk, .inl (cZ, 2, .inl (nF MK))), (wd, .inl (cI, 8, .inl (nF WD))), (so, .inl (cI, 24, .inl (nF SO))), (mb, .inl (cI, 24, .inl (nF EB))), (ma, .inl (cI, 24, .inl (nF EA))), (mf, .inl (cI, 24, .inl (nF EF))), (mw, .inl (cI, 24, .inl (nF EW))), (ml, .inl (cI, 24, .inl (nF EL))), (mu, .inl (cI, 24, .inl (oF EU))), (wt, .inl (cI, 200, .inl (oF WT))), (ty, .inl (cI, 8, .inl (nF TY)))] ss.heap := hP
  refine lv_aload_n hx hb dX6_unlike_0 rfl (lv_at hl 0 rfl) ?_
  refine lv_iload_n hx hb dX6_unlike_1 rfl (lv_at hl 1 rfl) ?_
  refine ro_V (As := [.int (nI j)]) (rest := []) ⟨hx, hb, hml, hown, hts⟩ (c_X6_isKey l D cI cJ cZ m0 nw ps im mk wd so mb ma mf mw ml mu wt ty NW PS u IM MK sd WD s SO q EB EA EF EW EL EU br WT ww TY KS KL KW n A hn hk hw0 hR hRW j (by omega)) (k_X6_85 hts ⟨Nat.le_of_ble_eq_true rfl, Nat.le_of_ble_eq_true rfl⟩) hK hP 0 rfl rfl rfl [0, 1, 2, 3, 4, 5, 6, 7, 8, 9, 10, 11, 12, 13, 14] rfl rfl hl.1 rfl (Nat.le_of_ble_eq_true rfl) dX6_unlike_2 ⟨Nat.le_of_ble_eq_true rfl, Nat.le_of_ble_eq_true rfl⟩ ?_
  refine b_if_eq (tgt := 30) hx hb dX6_unlike_5 (by decide) (fun c1 => ?_) (fun c1 => ?_)
  ·
    exact (c1 (by omega)).elim
  ·
    refine lv_aload_n hx hb dX6_unlike_8 rfl (lv_at hl 0 rfl) ?_
    refine lv_iload_n hx hb dX6_unlike_9 rfl (lv_at hl 2 rfl) ?_
    refine ro_V (As := [.int x]) (rest := []) ⟨hx, hb, hml, hown, hts⟩ (c_X6_isKey_neg l D cI cJ cZ m0 nw ps im mk wd so mb ma mf mw ml mu wt ty NW PS u IM MK sd WD s SO q EB EA EF EW EL EU br WT ww TY KS KL KW n A hn hk hw0 hR hRW x hx0) (k_X6_85 hts ⟨Nat.le_of_ble_eq_true rfl, Nat.le_of_ble_eq_true rfl⟩) hK hP 0 rfl rfl rfl [0, 1, 2, 3, 4, 5, 6, 7, 8, 9, 10, 11, 12, 13, 14] rfl rfl hl.1 rfl (Nat.le_of_ble_eq_true rfl) dX6_unlike_10 ⟨Nat.le_of_ble_eq_true rfl, Nat.le_of_ble_eq_true rfl⟩ ?_
    refine n_if_eq (tgt := 30) hx hb dX6_unlike_13 (by decide) (by decide) (fun _ => ?_) (fun h9 => absurd rfl h9)
    refine lv_ldc hx hb hown (hts _ mk_X6_89) dX6_unlike_30 ?_
    exact wr_iret hx hb hr hlk hP hD hS dX6_unlike_32 (⟨rfl, SO, q, EB, EA, EF, EW, EL, EU, br, WT, ww, rfl⟩)
set_option maxHeartbeats 4000000 in
set_option maxRecDepth 100000 in
theorem c_X6_unlike_jout (l : Launch) (D : va_G) (cI cJ cZ : ClassId) (m0 nw ps im mk wd so mb ma mf mw ml mu wt ty : Nat) (NW : Nat → Nat) (PS : Nat → Nat) (u : Nat) (IM : Nat → Nat) (MK : Nat → Nat) (sd : Nat) (WD : Nat → Nat) (s : Nat) (SO : Nat → Nat) (q : Nat) (EB : Nat → Nat) (EA : Nat → Nat) (EF : Nat → Nat) (EW : Nat → Nat) (EL : Nat → Nat) (EU : Nat → Nat) (br : Nat) (WT : Nat → Nat) (ww : Nat) (TY : Nat → Nat) (KS KL KW : Nat → Nat) (n A : Nat) (hn : n ≤ 24) (hk : ∀ k, k < n → Wf (KS k) (KL k)) (hw0 : Wf s A) (hR : RN NW KS KL KW n) (hRW : RW WD s A) (hso : Srt KS KL n) (BB BD BM BL BF BA BK : Nat → Nat) (hTr : TrX (gapF KS KL) n BB BD BM BL BF BA BK) (hv : ∀ k, k < n → KW k ≤ 9999) (j : Nat) (hj : j < n) (t : Nat) (ht : t < 2 ^ 31) (hto : n ≤ t) (sz : Nat) : WR l yX6_unlike cX6_unlike 3 (some .int) (rmN 3 68) D (ty3 cI cJ cZ) [.ref m0, .int (nI j), .int (nI t)] [(m0, .inr (6, [.ref nw, .ref ps, .int (nI u), .ref im, .ref mk, .int (nI sd), .ref wd, .int (nI s), .ref so, .int (nI q), .ref mb, .ref ma, .ref mf, .ref mw, .ref ml, .ref mu, .int (nI br), .ref wt, .int (nI ww), .ref ty])), (nw, .inl (cI, 241, .inl (nF NW))), (ps, .inl (cI, 4820, .inl (nF PS))), (im, .inl (cI, 484, .inl (nF IM))), (mk, .inl (cZ, 2, .inl (nF MK))), (wd, .inl (cI, 8, .inl (nF WD))), (so, .inl (cI, 24, .inl (nF SO))), (mb, .inl (cI, 24, .inl (nF EB))), (ma, .inl (cI, 24, .inl (nF EA))), (mf, .inl (cI, 24, .inl (nF EF))), (mw, .inl (cI, 24, .inl (nF EW))), (ml, .inl (cI, 24, .inl (nF EL))), (mu, .inl (cI, 24, .inl (oF EU))), (wt, .inl (cI, 200, .inl (oF WT))), (ty, .inl (cI, 8, .inl (nF TY)))] sz (fun x w => x = some (.int (-1000000001)) ∧ ∃ (SO : Nat → Nat) (q : Nat) (EB EA EF EW EL EU : Nat → Nat) (br : Nat) (WT : Nat → Nat) (ww : Nat), w = [(m0, .inr (6, [.ref nw, .ref ps, .int (nI u), .ref im, .ref mk, .int (nI sd), .ref wd, .int (nI s), .ref so, .int (nI q), .ref mb, .ref ma, .ref mf, .ref mw, .ref ml, .ref mu, .int (nI br), .ref wt, .int (nI ww), .ref ty])), (nw, .inl (cI, 241, .inl (nF NW))), (ps, .inl (cI, 4820, .inl (nF PS))), (im, .inl (cI, 484, .inl (nF IM))), (mk, .inl (cZ, 2, .inl (nF MK))), (wd, .inl (cI, 8, .inl (nF WD))), (so, .inl (cI, 24, .inl (nF SO))), (mb, .inl (cI, 24, .inl (nF EB))), (ma, .inl (cI, 24, .inl (nF EA))), (mf, .inl (cI, 24, .inl (nF EF))), (mw, .inl (cI, 24, .inl (nF EW))), (ml, .inl (cI, 24, .inl (nF EL))), (mu, .inl (cI, 24, .inl (oF EU))), (wt, .inl (cI, 200, .inl (oF WT))), (ty, .inl (cI, 8, .inl (nF TY)))]) := by
  have hs8 := hw0.1
  have hA64 := hw0.2.1
  have hN0 := hR.1
  have hBK := tf_BK hTr hn
  have hDK := tf_DK hTr hn
  have hp := plc_le KS KL n s A
  have hcb := cbl_le KS KL n s A
  have hfl := fnd_le KS KL n s A
  refine wr_start (by decide) (Nat.le_of_ble_eq_true rfl) ?_
  intro pp ee ss mm below meth cd AA C0 hAA hP hK hD hS hN hnm ls hl
  obtain ⟨hx, hb, hr, hml, hown, hts, hlk⟩ := C0
  have hown : ss.vm.findClass RX6 = some mm.cls := hown
  have hl : lv_has ls 3 [(0, .ref m0), (1, .int (nI j)), (2, .int (nI t))] := hl
  have hP : va_P D vwCl [(m0, .inr (6, [.ref nw, .ref ps, .int (nI u), .ref im, .ref mk, .int (nI sd), .ref wd, .int (nI s), .ref so, .int (nI q), .ref mb, .ref ma, .ref mf, .ref mw, .ref ml, .ref mu, .int (nI br), .ref wt, .int (nI ww), .ref ty])), (nw, .inl (cI, 241, .inl (nF NW))), (ps, .inl (cI, 4820, .inl (nF PS))), (im, .inl (cI, 484, .inl (nF IM))), (mk, .inl (cZ, 2, .inl (nF MK))), (wd, .inl (cI, 8, .inl (nF WD))), (so, .inl (cI, 24, .inl (nF SO))), (mb, .inl (cI, 24, .inl (nF EB))), (ma, .inl (cI, 24, .inl (nF EA))), (mf, .inl (cI, 24, .inl (nF EF))), (mw, .inl (cI, 24, .inl (nF EW))), (ml, .inl (cI, 24, .inl (nF EL))), (mu, .inl (cI, 24, .inl (oF EU))), (wt, .inl (cI, 200, .inl (oF WT))), (ty, .inl (cI, 8, .inl (nF TY)))] ss.heap := hP
  refine lv_aload_n hx hb dX6_unlike_0 rfl (lv_at hl 0 rfl) ?_
  refine lv_iload_n hx hb dX6_unlike_1 rfl (lv_at hl 1 rfl) ?_
  refine ro_V (As := [.int (nI j)]) (rest := []) ⟨hx, hb, hml, hown, hts⟩ (c_X6_isKey l D cI cJ cZ m0 nw ps im mk wd so mb ma mf mw ml mu wt ty NW PS u IM MK sd WD s SO q EB EA EF EW EL EU br WT ww TY KS KL KW n A hn hk hw0 hR hRW j (by omega)) (k_X6_85 hts ⟨Nat.le_of_ble_eq_true rfl, Nat.le_of_ble_eq_true rfl⟩) hK hP 0 rfl rfl rfl [0, 1, 2, 3, 4, 5, 6, 7, 8, 9, 10, 11, 12, 13, 14] rfl rfl hl.1 rfl (Nat.le_of_ble_eq_true rfl) dX6_unlike_2 ⟨Nat.le_of_ble_eq_true rfl, Nat.le_of_ble_eq_true rfl⟩ ?_
  refine b_if_eq (tgt := 30) hx hb dX6_unlike_5 (by decide) (fun c1 => ?_) (fun c1 => ?_)
  ·
    exact (c1 (by omega)).elim
  ·
    refine lv_aload_n hx hb dX6_unlike_8 rfl (lv_at hl 0 rfl) ?_
    refine lv_iload_n hx hb dX6_unlike_9 rfl (lv_at hl 2 rfl) ?_
    refine ro_V (As := [.int (nI t)]) (rest := []) ⟨hx, hb, hml, hown, hts⟩ (c_X6_isKey l D cI cJ cZ m0 nw ps im mk wd so mb ma mf mw ml mu wt ty NW PS u IM MK sd WD s SO q EB EA EF EW EL EU br WT ww TY KS KL KW n A hn hk hw0 hR hRW t (by omega)) (k_X6_85 hts ⟨Nat.le_of_ble_eq_true rfl, Nat.le_of_ble_eq_true rfl⟩) hK hP 0 rfl rfl rfl [0, 1, 2, 3, 4, 5, 6, 7, 8, 9, 10, 11, 12, 13, 14] rfl rfl hl.1 rfl (Nat.le_of_ble_eq_true rfl) dX6_unlike_10 ⟨Nat.le_of_ble_eq_true rfl, Nat.le_of_ble_eq_true rfl⟩ ?_
    refine b_if_eq (tgt := 30) hx hb dX6_unlike_13 (by decide) (fun c2 => ?_) (fun c2 => ?_)
    ·
      refine lv_ldc hx hb hown (hts _ mk_X6_89) dX6_unlike_30 ?_
      exact wr_iret hx hb hr hlk hP hD hS dX6_unlike_32 (⟨rfl, SO, q, EB, EA, EF, EW, EL, EU, br, WT, ww, rfl⟩)
    ·
      exact absurd c2 (by omega)
set_option maxHeartbeats 4000000 in
set_option maxRecDepth 100000 in
theorem c_X6_unlike_same (l : Launch) (D : va_G) (cI cJ cZ : ClassId) (m0 nw ps im mk wd so mb ma mf mw ml mu wt ty : Nat) (NW : Nat → Nat) (PS : Nat → Nat) (u : Nat) (IM : Nat → Nat) (MK : Nat → Nat) (sd : Nat) (WD : Nat → Nat) (s : Nat) (SO : Nat → Nat) (q : Nat) (EB : Nat → Nat) (EA : Nat → Nat) (EF : Nat → Nat) (EW : Nat → Nat) (EL : Nat → Nat) (EU : Nat → Nat) (br : Nat) (WT : Nat → Nat) (ww : Nat) (TY : Nat → Nat) (KS KL KW : Nat → Nat) (n A : Nat) (hn : n ≤ 24) (hk : ∀ k, k < n → Wf (KS k) (KL k)) (hw0 : Wf s A) (hR : RN NW KS KL KW n) (hRW : RW WD s A) (hso : Srt KS KL n) (BB BD BM BL BF BA BK : Nat → Nat) (hTr : TrX (gapF KS KL) n BB BD BM BL BF BA BK) (hv : ∀ k, k < n → KW k ≤ 9999) (j : Nat) (hj : j < n) (sz : Nat) : WR l yX6_unlike cX6_unlike 3 (some .int) (rmN 3 68) D (ty3 cI cJ cZ) [.ref m0, .int (nI j), .int (nI j)] [(m0, .inr (6, [.ref nw, .ref ps, .int (nI u), .ref im, .ref mk, .int (nI sd), .ref wd, .int (nI s), .ref so, .int (nI q), .ref mb, .ref ma, .ref mf, .ref mw, .ref ml, .ref mu, .int (nI br), .ref wt, .int (nI ww), .ref ty])), (nw, .inl (cI, 241, .inl (nF NW))), (ps, .inl (cI, 4820, .inl (nF PS))), (im, .inl (cI, 484, .inl (nF IM))), (mk, .inl (cZ, 2, .inl (nF MK))), (wd, .inl (cI, 8, .inl (nF WD))), (so, .inl (cI, 24, .inl (nF SO))), (mb, .inl (cI, 24, .inl (nF EB))), (ma, .inl (cI, 24, .inl (nF EA))), (mf, .inl (cI, 24, .inl (nF EF))), (mw, .inl (cI, 24, .inl (nF EW))), (ml, .inl (cI, 24, .inl (nF EL))), (mu, .inl (cI, 24, .inl (oF EU))), (wt, .inl (cI, 200, .inl (oF WT))), (ty, .inl (cI, 8, .inl (nF TY)))] sz (fun x w => x = some (.int (-1000000001)) ∧ ∃ (SO : Nat → Nat) (q : Nat) (EB EA EF EW EL EU : Nat → Nat) (br : Nat) (WT : Nat → Nat) (ww : Nat), w = [(m0, .inr (6, [.ref nw, .ref ps, .int (nI u), .ref im, .ref mk, .int (nI sd), .ref wd, .int (nI s), .ref so, .int (nI q), .ref mb, .ref ma, .ref mf, .ref mw, .ref ml, .ref mu, .int (nI br), .ref wt, .int (nI ww), .ref ty])), (nw, .inl (cI, 241, .inl (nF NW))), (ps, .inl (cI, 4820, .inl (nF PS))), (im, .inl (cI, 484, .inl (nF IM))), (mk, .inl (cZ, 2, .inl (nF MK))), (wd, .inl (cI, 8, .inl (nF WD))), (so, .inl (cI, 24, .inl (nF SO))), (mb, .inl (cI, 24, .inl (nF EB))), (ma, .inl (cI, 24, .inl (nF EA))), (mf, .inl (cI, 24, .inl (nF EF))), (mw, .inl (cI, 24, .inl (nF EW))), (ml, .inl (cI, 24, .inl (nF EL))), (mu, .inl (cI, 24, .inl (oF EU))), (wt, .inl (cI, 200, .inl (oF WT))), (ty, .inl (cI, 8, .inl (nF TY)))]) := by
  have hs8 := hw0.1
  have hA64 := hw0.2.1
  have hN0 := hR.1
  have hBK := tf_BK hTr hn
  have hDK := tf_DK hTr hn
  have hp := plc_le KS KL n s A
  have hcb := cbl_le KS KL n s A
  have hfl := fnd_le KS KL n s A
  refine wr_start (by decide) (Nat.le_of_ble_eq_true rfl) ?_
  intro pp ee ss mm below meth cd AA C0 hAA hP hK hD hS hN hnm ls hl
  obtain ⟨hx, hb, hr, hml, hown, hts, hlk⟩ := C0
  have hown : ss.vm.findClass RX6 = some mm.cls := hown
  have hl : lv_has ls 3 [(0, .ref m0), (1, .int (nI j)), (2, .int (nI j))] := hl
  have hP : va_P D vwCl [(m0, .inr (6, [.ref nw, .ref ps, .int (nI u), .ref im, .ref mk, .int (nI sd), .ref wd, .int (nI s), .ref so, .int (nI q), .ref mb, .ref ma, .ref mf, .ref mw, .ref ml, .ref mu, .int (nI br), .ref wt, .int (nI ww), .ref ty])), (nw, .inl (cI, 241, .inl (nF NW))), (ps, .inl (cI, 4820, .inl (nF PS))), (im, .inl (cI, 484, .inl (nF IM))), (mk, .inl (cZ, 2, .inl (nF MK))), (wd, .inl (cI, 8, .inl (nF WD))), (so, .inl (cI, 24, .inl (nF SO))), (mb, .inl (cI, 24, .inl (nF EB))), (ma, .inl (cI, 24, .inl (nF EA))), (mf, .inl (cI, 24, .inl (nF EF))), (mw, .inl (cI, 24, .inl (nF EW))), (ml, .inl (cI, 24, .inl (nF EL))), (mu, .inl (cI, 24, .inl (oF EU))), (wt, .inl (cI, 200, .inl (oF WT))), (ty, .inl (cI, 8, .inl (nF TY)))] ss.heap := hP
  refine lv_aload_n hx hb dX6_unlike_0 rfl (lv_at hl 0 rfl) ?_
  refine lv_iload_n hx hb dX6_unlike_1 rfl (lv_at hl 1 rfl) ?_
  refine ro_V (As := [.int (nI j)]) (rest := []) ⟨hx, hb, hml, hown, hts⟩ (c_X6_isKey l D cI cJ cZ m0 nw ps im mk wd so mb ma mf mw ml mu wt ty NW PS u IM MK sd WD s SO q EB EA EF EW EL EU br WT ww TY KS KL KW n A hn hk hw0 hR hRW j (by omega)) (k_X6_85 hts ⟨Nat.le_of_ble_eq_true rfl, Nat.le_of_ble_eq_true rfl⟩) hK hP 0 rfl rfl rfl [0, 1, 2, 3, 4, 5, 6, 7, 8, 9, 10, 11, 12, 13, 14] rfl rfl hl.1 rfl (Nat.le_of_ble_eq_true rfl) dX6_unlike_2 ⟨Nat.le_of_ble_eq_true rfl, Nat.le_of_ble_eq_true rfl⟩ ?_
  refine b_if_eq (tgt := 30) hx hb dX6_unlike_5 (by decide) (fun c1 => ?_) (fun c1 => ?_)
  ·
    exact (c1 (by omega)).elim
  ·
    refine lv_aload_n hx hb dX6_unlike_8 rfl (lv_at hl 0 rfl) ?_
    refine lv_iload_n hx hb dX6_unlike_9 rfl (lv_at hl 2 rfl) ?_
    refine ro_V (As := [.int (nI j)]) (rest := []) ⟨hx, hb, hml, hown, hts⟩ (c_X6_isKey l D cI cJ cZ m0 nw ps im mk wd so mb ma mf mw ml mu wt ty NW PS u IM MK sd WD s SO q EB EA EF EW EL EU br WT ww TY KS KL KW n A hn hk hw0 hR hRW j (by omega)) (k_X6_85 hts ⟨Nat.le_of_ble_eq_true rfl, Nat.le_of_ble_eq_true rfl⟩) hK hP 0 rfl rfl rfl [0, 1, 2, 3, 4, 5, 6, 7, 8, 9, 10, 11, 12, 13, 14] rfl rfl hl.1 rfl (Nat.le_of_ble_eq_true rfl) dX6_unlike_10 ⟨Nat.le_of_ble_eq_true rfl, Nat.le_of_ble_eq_true rfl⟩ ?_
    refine b_if_eq (tgt := 30) hx hb dX6_unlike_13 (by decide) (fun c2 => ?_) (fun c2 => ?_)
    ·
      exact (c2 (by omega)).elim
    ·
      refine lv_iload_n hx hb dX6_unlike_16 rfl (lv_at hl 1 rfl) ?_
      refine lv_iload_n hx hb dX6_unlike_17 rfl (lv_at hl 2 rfl) ?_
      refine n_eq (tgt := 30) hx hb dX6_unlike_18 (by decide) (by omega) (by omega) (fun c3 => ?_) (fun c3 => ?_)
      ·
        refine lv_ldc hx hb hown (hts _ mk_X6_89) dX6_unlike_30 ?_
        exact wr_iret hx hb hr hlk hP hD hS dX6_unlike_32 (⟨rfl, SO, q, EB, EA, EF, EW, EL, EU, br, WT, ww, rfl⟩)
      ·
        exact absurd rfl c3
set_option maxHeartbeats 4000000 in
set_option maxRecDepth 100000 in
theorem c_X6_unlike_ok (l : Launch) (D : va_G) (cI cJ cZ : ClassId) (m0 nw ps im mk wd so mb ma mf mw ml mu wt ty : Nat) (NW : Nat → Nat) (PS : Nat → Nat) (u : Nat) (IM : Nat → Nat) (MK : Nat → Nat) (sd : Nat) (WD : Nat → Nat) (s : Nat) (SO : Nat → Nat) (q : Nat) (EB : Nat → Nat) (EA : Nat → Nat) (EF : Nat → Nat) (EW : Nat → Nat) (EL : Nat → Nat) (EU : Nat → Nat) (br : Nat) (WT : Nat → Nat) (ww : Nat) (TY : Nat → Nat) (KS KL KW : Nat → Nat) (n A : Nat) (hn : n ≤ 24) (hk : ∀ k, k < n → Wf (KS k) (KL k)) (hw0 : Wf s A) (hR : RN NW KS KL KW n) (hRW : RW WD s A) (hso : Srt KS KL n) (BB BD BM BL BF BA BK : Nat → Nat) (hTr : TrX (gapF KS KL) n BB BD BM BL BF BA BK) (hv : ∀ k, k < n → KW k ≤ 9999) (j : Nat) (hj : j < n) (t : Nat) (ht : t < n) (hne : j ≠ t) (sz : Nat) : WR l yX6_unlike cX6_unlike 3 (some .int) (rmN 3 68) D (ty3 cI cJ cZ) [.ref m0, .int (nI j), .int (nI t)] [(m0, .inr (6, [.ref nw, .ref ps, .int (nI u), .ref im, .ref mk, .int (nI sd), .ref wd, .int (nI s), .ref so, .int (nI q), .ref mb, .ref ma, .ref mf, .ref mw, .ref ml, .ref mu, .int (nI br), .ref wt, .int (nI ww), .ref ty])), (nw, .inl (cI, 241, .inl (nF NW))), (ps, .inl (cI, 4820, .inl (nF PS))), (im, .inl (cI, 484, .inl (nF IM))), (mk, .inl (cZ, 2, .inl (nF MK))), (wd, .inl (cI, 8, .inl (nF WD))), (so, .inl (cI, 24, .inl (nF SO))), (mb, .inl (cI, 24, .inl (nF EB))), (ma, .inl (cI, 24, .inl (nF EA))), (mf, .inl (cI, 24, .inl (nF EF))), (mw, .inl (cI, 24, .inl (nF EW))), (ml, .inl (cI, 24, .inl (nF EL))), (mu, .inl (cI, 24, .inl (oF EU))), (wt, .inl (cI, 200, .inl (oF WT))), (ty, .inl (cI, 8, .inl (nF TY)))] sz (fun x w => x = some (.int (nI (unl (KS j) (KL j) (KS t) (KL t)))) ∧ ∃ (SO : Nat → Nat) (q : Nat) (EB EA EF EW EL EU : Nat → Nat) (br : Nat) (WT : Nat → Nat) (ww : Nat), w = [(m0, .inr (6, [.ref nw, .ref ps, .int (nI u), .ref im, .ref mk, .int (nI sd), .ref wd, .int (nI s), .ref so, .int (nI q), .ref mb, .ref ma, .ref mf, .ref mw, .ref ml, .ref mu, .int (nI br), .ref wt, .int (nI ww), .ref ty])), (nw, .inl (cI, 241, .inl (nF NW))), (ps, .inl (cI, 4820, .inl (nF PS))), (im, .inl (cI, 484, .inl (nF IM))), (mk, .inl (cZ, 2, .inl (nF MK))), (wd, .inl (cI, 8, .inl (nF WD))), (so, .inl (cI, 24, .inl (nF SO))), (mb, .inl (cI, 24, .inl (nF EB))), (ma, .inl (cI, 24, .inl (nF EA))), (mf, .inl (cI, 24, .inl (nF EF))), (mw, .inl (cI, 24, .inl (nF EW))), (ml, .inl (cI, 24, .inl (nF EL))), (mu, .inl (cI, 24, .inl (oF EU))), (wt, .inl (cI, 200, .inl (oF WT))), (ty, .inl (cI, 8, .inl (nF TY)))]) := by
  have hs8 := hw0.1
  have hA64 := hw0.2.1
  have hN0 := hR.1
  have hBK := tf_BK hTr hn
  have hDK := tf_DK hTr hn
  have hp := plc_le KS KL n s A
  have hcb := cbl_le KS KL n s A
  have hfl := fnd_le KS KL n s A
  refine wr_start (by decide) (Nat.le_of_ble_eq_true rfl) ?_
  intro pp ee ss mm below meth cd AA C0 hAA hP hK hD hS hN hnm ls hl
  obtain ⟨hx, hb, hr, hml, hown, hts, hlk⟩ := C0
  have hown : ss.vm.findClass RX6 = some mm.cls := hown
  have hl : lv_has ls 3 [(0, .ref m0), (1, .int (nI j)), (2, .int (nI t))] := hl
  have hP : va_P D vwCl [(m0, .inr (6, [.ref nw, .ref ps, .int (nI u), .ref im, .ref mk, .int (nI sd), .ref wd, .int (nI s), .ref so, .int (nI q), .ref mb, .ref ma, .ref mf, .ref mw, .ref ml, .ref mu, .int (nI br), .ref wt, .int (nI ww), .ref ty])), (nw, .inl (cI, 241, .inl (nF NW))), (ps, .inl (cI, 4820, .inl (nF PS))), (im, .inl (cI, 484, .inl (nF IM))), (mk, .inl (cZ, 2, .inl (nF MK))), (wd, .inl (cI, 8, .inl (nF WD))), (so, .inl (cI, 24, .inl (nF SO))), (mb, .inl (cI, 24, .inl (nF EB))), (ma, .inl (cI, 24, .inl (nF EA))), (mf, .inl (cI, 24, .inl (nF EF))), (mw, .inl (cI, 24, .inl (nF EW))), (ml, .inl (cI, 24, .inl (nF EL))), (mu, .inl (cI, 24, .inl (oF EU))), (wt, .inl (cI, 200, .inl (oF WT))), (ty, .inl (cI, 8, .inl (nF TY)))] ss.heap := hP
  refine lv_aload_n hx hb dX6_unlike_0 rfl (lv_at hl 0 rfl) ?_
  refine lv_iload_n hx hb dX6_unlike_1 rfl (lv_at hl 1 rfl) ?_
  refine ro_V (As := [.int (nI j)]) (rest := []) ⟨hx, hb, hml, hown, hts⟩ (c_X6_isKey l D cI cJ cZ m0 nw ps im mk wd so mb ma mf mw ml mu wt ty NW PS u IM MK sd WD s SO q EB EA EF EW EL EU br WT ww TY KS KL KW n A hn hk hw0 hR hRW j (by omega)) (k_X6_85 hts ⟨Nat.le_of_ble_eq_true rfl, Nat.le_of_ble_eq_true rfl⟩) hK hP 0 rfl rfl rfl [0, 1, 2, 3, 4, 5, 6, 7, 8, 9, 10, 11, 12, 13, 14] rfl rfl hl.1 rfl (Nat.le_of_ble_eq_true rfl) dX6_unlike_2 ⟨Nat.le_of_ble_eq_true rfl, Nat.le_of_ble_eq_true rfl⟩ ?_
  refine b_if_eq (tgt := 30) hx hb dX6_unlike_5 (by decide) (fun c1 => ?_) (fun c1 => ?_)
  ·
    exact (c1 (by omega)).elim
  ·
    refine lv_aload_n hx hb dX6_unlike_8 rfl (lv_at hl 0 rfl) ?_
    refine lv_iload_n hx hb dX6_unlike_9 rfl (lv_at hl 2 rfl) ?_
    refine ro_V (As := [.int (nI t)]) (rest := []) ⟨hx, hb, hml, hown, hts⟩ (c_X6_isKey l D cI cJ cZ m0 nw ps im mk wd so mb ma mf mw ml mu wt ty NW PS u IM MK sd WD s SO q EB EA EF EW EL EU br WT ww TY KS KL KW n A hn hk hw0 hR hRW t (by omega)) (k_X6_85 hts ⟨Nat.le_of_ble_eq_true rfl, Nat.le_of_ble_eq_true rfl⟩) hK hP 0 rfl rfl rfl [0, 1, 2, 3, 4, 5, 6, 7, 8, 9, 10, 11, 12, 13, 14] rfl rfl hl.1 rfl (Nat.le_of_ble_eq_true rfl) dX6_unlike_10 ⟨Nat.le_of_ble_eq_true rfl, Nat.le_of_ble_eq_true rfl⟩ ?_
    refine b_if_eq (tgt := 30) hx hb dX6_unlike_13 (by decide) (fun c2 => ?_) (fun c2 => ?_)
    ·
      exact (c2 (by omega)).elim
    ·
      refine lv_iload_n hx hb dX6_unlike_16 rfl (lv_at hl 1 rfl) ?_
      refine lv_iload_n hx hb dX6_unlike_17 rfl (lv_at hl 2 rfl) ?_
      refine n_eq (tgt := 30) hx hb dX6_unlike_18 (by decide) (by omega) (by omega) (fun c3 => ?_) (fun c3 => ?_)
      ·
        exact absurd c3 hne
      ·
        refine lv_aload_n hx hb dX6_unlike_21 rfl (lv_at hl 0 rfl) ?_
        refine lv_iload_n hx hb dX6_unlike_22 rfl (lv_at hl 1 rfl) ?_
        refine lv_iload_n hx hb dX6_unlike_23 rfl (lv_at hl 2 rfl) ?_
        refine ro_V (As := [.int (nI j), .int (nI t)]) (rest := []) ⟨hx, hb, hml, hown, hts⟩ (c_X6_unlikeAt l D cI cJ cZ m0 nw ps im mk wd so mb ma mf mw ml mu wt ty NW PS u IM MK sd WD s SO q EB EA EF EW EL EU br WT ww TY KS KL KW n A hn hk hw0 hR hRW j ((KS j)) ((KL j)) (Or.inr ⟨by omega, rfl, rfl⟩) t ((KS t)) ((KL t)) (Or.inr ⟨by omega, rfl, rfl⟩)) (k_X6_68 hts ⟨Nat.le_of_ble_eq_true rfl, Nat.le_of_ble_eq_true rfl⟩) hK hP 0 rfl rfl rfl [0, 1, 2, 3, 4, 5, 6, 7, 8, 9, 10, 11, 12, 13, 14] rfl rfl hl.1 rfl (Nat.le_of_ble_eq_true rfl) dX6_unlike_24 ⟨Nat.le_of_ble_eq_true rfl, Nat.le_of_ble_eq_true rfl⟩ ?_
        refine lv_goto (tgt := 32) hx hb dX6_unlike_27 (by decide) ?_
        exact wr_iret hx hb hr hlk hP hD hS dX6_unlike_32 (⟨rfl, SO, q, EB, EA, EF, EW, EL, EU, br, WT, ww, rfl⟩)
set_option maxHeartbeats 4000000 in
set_option maxRecDepth 100000 in
theorem c_X6_bit_neg (l : Launch) (D : va_G) (cI cJ cZ : ClassId) (m0 nw ps im mk wd so mb ma mf mw ml mu wt ty : Nat) (NW : Nat → Nat) (PS : Nat → Nat) (u : Nat) (IM : Nat → Nat) (MK : Nat → Nat) (sd : Nat) (WD : Nat → Nat) (s : Nat) (SO : Nat → Nat) (q : Nat) (EB : Nat → Nat) (EA : Nat → Nat) (EF : Nat → Nat) (EW : Nat → Nat) (EL : Nat → Nat) (EU : Nat → Nat) (br : Nat) (WT : Nat → Nat) (ww : Nat) (TY : Nat → Nat) (KS KL KW : Nat → Nat) (n A : Nat) (hn : n ≤ 24) (hk : ∀ k, k < n → Wf (KS k) (KL k)) (hw0 : Wf s A) (hR : RN NW KS KL KW n) (hRW : RW WD s A) (hso : Srt KS KL n) (BB BD BM BL BF BA BK : Nat → Nat) (hTr : TrX (gapF KS KL) n BB BD BM BL BF BA BK) (hv : ∀ k, k < n → KW k ≤ 9999) (x : Int32) (hx0 : x < 0) (sz : Nat) : WR l yX6_bit cX6_bit 2 (some .int) (rmN 2 45) D (ty3 cI cJ cZ) [.ref m0, .int x] [(m0, .inr (6, [.ref nw, .ref ps, .int (nI u), .ref im, .ref mk, .int (nI sd), .ref wd, .int (nI s), .ref so, .int (nI q), .ref mb, .ref ma, .ref mf, .ref mw, .ref ml, .ref mu, .int (nI br), .ref wt, .int (nI ww), .ref ty])), (nw, .inl (cI, 241, .inl (nF NW))), (ps, .inl (cI, 4820, .inl (nF PS))), (im, .inl (cI, 484, .inl (nF IM))), (mk, .inl (cZ, 2, .inl (nF MK))), (wd, .inl (cI, 8, .inl (nF WD))), (so, .inl (cI, 24, .inl (nF SO))), (mb, .inl (cI, 24, .inl (nF EB))), (ma, .inl (cI, 24, .inl (nF EA))), (mf, .inl (cI, 24, .inl (nF EF))), (mw, .inl (cI, 24, .inl (nF EW))), (ml, .inl (cI, 24, .inl (nF EL))), (mu, .inl (cI, 24, .inl (oF EU))), (wt, .inl (cI, 200, .inl (oF WT))), (ty, .inl (cI, 8, .inl (nF TY)))] sz (fun x w => x = some (.int (-1000000002)) ∧ ∃ (SO : Nat → Nat) (q : Nat) (EB EA EF EW EL EU : Nat → Nat) (br : Nat) (WT : Nat → Nat) (ww : Nat), w = [(m0, .inr (6, [.ref nw, .ref ps, .int (nI u), .ref im, .ref mk, .int (nI sd), .ref wd, .int (nI s), .ref so, .int (nI q), .ref mb, .ref ma, .ref mf, .ref mw, .ref ml, .ref mu, .int (nI br), .ref wt, .int (nI ww), .ref ty])), (nw, .inl (cI, 241, .inl (nF NW))), (ps, .inl (cI, 4820, .inl (nF PS))), (im, .inl (cI, 484, .inl (nF IM))), (mk, .inl (cZ, 2, .inl (nF MK))), (wd, .inl (cI, 8, .inl (nF WD))), (so, .inl (cI, 24, .inl (nF SO))), (mb, .inl (cI, 24, .inl (nF EB))), (ma, .inl (cI, 24, .inl (nF EA))), (mf, .inl (cI, 24, .inl (nF EF))), (mw, .inl (cI, 24, .inl (nF EW))), (ml, .inl (cI, 24, .inl (nF EL))), (mu, .inl (cI, 24, .inl (oF EU))), (wt, .inl (cI, 200, .inl (oF WT))), (ty, .inl (cI, 8, .inl (nF TY)))]) := by
  have hs8 := hw0.1
  have hA64 := hw0.2.1
  have hN0 := hR.1
  have hBK := tf_BK hTr hn
  have hDK := tf_DK hTr hn
  have hp := plc_le KS KL n s A
  have hcb := cbl_le KS KL n s A
  have hfl := fnd_le KS KL n s A
  refine wr_start (by decide) (Nat.le_of_ble_eq_true rfl) ?_
  intro pp ee ss mm below meth cd AA C0 hAA hP hK hD hS hN hnm ls hl
  obtain ⟨hx, hb, hr, hml, hown, hts, hlk⟩ := C0
  have hown : ss.vm.findClass RX6 = some mm.cls := hown
  have hl : lv_has ls 2 [(0, .ref m0), (1, .int x)] := hl
  have hP : va_P D vwCl [(m0, .inr (6, [.ref nw, .ref ps, .int (nI u), .ref im, .ref mk, .int (nI sd), .ref wd, .int (nI s), .ref so, .int (nI q), .ref mb, .ref ma, .ref mf, .ref mw, .ref ml, .ref mu, .int (nI br), .ref wt, .int (nI ww), .ref ty])), (nw, .inl (cI, 241, .inl (nF NW))), (ps, .inl (cI, 4820, .inl (nF PS))), (im, .inl (cI, 484, .inl (nF IM))), (mk, .inl (cZ, 2, .inl (nF MK))), (wd, .inl (cI, 8, .inl (nF WD))), (so, .inl (cI, 24, .inl (nF SO))), (mb, .inl (cI, 24, .inl (nF EB))), (ma, .inl (cI, 24, .inl (nF EA))), (mf, .inl (cI, 24, .inl (nF EF))), (mw, .inl (cI, 24, .inl (nF EW))), (ml, .inl (cI, 24, .inl (nF EL))), (mu, .inl (cI, 24, .inl (oF EU))), (wt, .inl (cI, 200, .inl (oF WT))), (ty, .inl (cI, 8, .inl (nF TY)))] ss.heap := hP
  refine lv_iload_n hx hb dX6_bit_0 rfl (lv_at hl 1 rfl) ?_
  refine lv_iconst (v := nI 0) hx hb dX6_bit_1 (by decide +kernel) ?_
  refine lv_bipush (v := nI 71) hx hb dX6_bit_2 (by decide +kernel) ?_
  refine ro_S (As := [.int x, .int (nI 0), .int (nI 71)]) (rest := []) ⟨hx, hb, hml, hown, hts⟩ (c_X6_in_neg l D cI cJ cZ x ((nI 71)) 0 hx0 (by omega)) (k_X6_79 hts ⟨Nat.le_of_ble_eq_true rfl, Nat.le_of_ble_eq_true rfl⟩) hK hP [] rfl rfl hl.1 rfl (Nat.le_of_ble_eq_true rfl) dX6_bit_4 ⟨Nat.le_of_ble_eq_true rfl, Nat.le_of_ble_eq_true rfl⟩ ?_
  refine n_if_eq (tgt := 20) hx hb dX6_bit_7 (by decide) (by decide) (fun _ => ?_) (fun h9 => absurd rfl h9)
  refine lv_ldc hx hb hown (hts _ mk_X6_83) dX6_bit_20 ?_
  exact wr_iret hx hb hr hlk hP hD hS dX6_bit_22 (⟨rfl, SO, q, EB, EA, EF, EW, EL, EU, br, WT, ww, rfl⟩)
set_option maxHeartbeats 4000000 in
set_option maxRecDepth 100000 in
theorem c_X6_bit_big (l : Launch) (D : va_G) (cI cJ cZ : ClassId) (m0 nw ps im mk wd so mb ma mf mw ml mu wt ty : Nat) (NW : Nat → Nat) (PS : Nat → Nat) (u : Nat) (IM : Nat → Nat) (MK : Nat → Nat) (sd : Nat) (WD : Nat → Nat) (s : Nat) (SO : Nat → Nat) (q : Nat) (EB : Nat → Nat) (EA : Nat → Nat) (EF : Nat → Nat) (EW : Nat → Nat) (EL : Nat → Nat) (EU : Nat → Nat) (br : Nat) (WT : Nat → Nat) (ww : Nat) (TY : Nat → Nat) (KS KL KW : Nat → Nat) (n A : Nat) (hn : n ≤ 24) (hk : ∀ k, k < n → Wf (KS k) (KL k)) (hw0 : Wf s A) (hR : RN NW KS KL KW n) (hRW : RW WD s A) (hso : Srt KS KL n) (BB BD BM BL BF BA BK : Nat → Nat) (hTr : TrX (gapF KS KL) n BB BD BM BL BF BA BK) (hv : ∀ k, k < n → KW k ≤ 9999) (j : Nat) (hj : j < 2 ^ 31) (hjb : 72 ≤ j) (sz : Nat) : WR l yX6_bit cX6_bit 2 (some .int) (rmN 2 45) D (ty3 cI cJ cZ) [.ref m0, .int (nI j)] [(m0, .inr (6, [.ref nw, .ref ps, .int (nI u), .ref im, .ref mk, .int (nI sd), .ref wd, .int (nI s), .ref so, .int (nI q), .ref mb, .ref ma, .ref mf, .ref mw, .ref ml, .ref mu, .int (nI br), .ref wt, .int (nI ww), .ref ty])), (nw, .inl (cI, 241, .inl (nF NW))), (ps, .inl (cI, 4820, .inl (nF PS))), (im, .inl (cI, 484, .inl (nF IM))), (mk, .inl (cZ, 2, .inl (nF MK))), (wd, .inl (cI, 8, .inl (nF WD))), (so, .inl (cI, 24, .inl (nF SO))), (mb, .inl (cI, 24, .inl (nF EB))), (ma, .inl (cI, 24, .inl (nF EA))), (mf, .inl (cI, 24, .inl (nF EF))), (mw, .inl (cI, 24, .inl (nF EW))), (ml, .inl (cI, 24, .inl (nF EL))), (mu, .inl (cI, 24, .inl (oF EU))), (wt, .inl (cI, 200, .inl (oF WT))), (ty, .inl (cI, 8, .inl (nF TY)))] sz (fun x w => x = some (.int (-1000000002)) ∧ ∃ (SO : Nat → Nat) (q : Nat) (EB EA EF EW EL EU : Nat → Nat) (br : Nat) (WT : Nat → Nat) (ww : Nat), w = [(m0, .inr (6, [.ref nw, .ref ps, .int (nI u), .ref im, .ref mk, .int (nI sd), .ref wd, .int (nI s), .ref so, .int (nI q), .ref mb, .ref ma, .ref mf, .ref mw, .ref ml, .ref mu, .int (nI br), .ref wt, .int (nI ww), .ref ty])), (nw, .inl (cI, 241, .inl (nF NW))), (ps, .inl (cI, 4820, .inl (nF PS))), (im, .inl (cI, 484, .inl (nF IM))), (mk, .inl (cZ, 2, .inl (nF MK))), (wd, .inl (cI, 8, .inl (nF WD))), (so, .inl (cI, 24, .inl (nF SO))), (mb, .inl (cI, 24, .inl (nF EB))), (ma, .inl (cI, 24, .inl (nF EA))), (mf, .inl (cI, 24, .inl (nF EF))), (mw, .inl (cI, 24, .inl (nF EW))), (ml, .inl (cI, 24, .inl (nF EL))), (mu, .inl (cI, 24, .inl (oF EU))), (wt, .inl (cI, 200, .inl (oF WT))), (ty, .inl (cI, 8, .inl (nF TY)))]) := by
  have hs8 := hw0.1
  have hA64 := hw0.2.1
  have hN0 := hR.1
  have hBK := tf_BK hTr hn
  have hDK := tf_DK hTr hn
  have hp := plc_le KS KL n s A
  have hcb := cbl_le KS KL n s A
  have hfl := fnd_le KS KL n s A
  refine wr_start (by decide) (Nat.le_of_ble_eq_true rfl) ?_
  intro pp ee ss mm below meth cd AA C0 hAA hP hK hD hS hN hnm ls hl
  obtain ⟨hx, hb, hr, hml, hown, hts, hlk⟩ := C0
  have hown : ss.vm.findClass RX6 = some mm.cls := hown
  have hl : lv_has ls 2 [(0, .ref m0), (1, .int (nI j))] := hl
  have hP : va_P D vwCl [(m0, .inr (6, [.ref nw, .ref ps, .int (nI u), .ref im, .ref mk, .int (nI sd), .ref wd, .int (nI s), .ref so, .int (nI q), .ref mb, .ref ma, .ref mf, .ref mw, .ref ml, .ref mu, .int (nI br), .ref wt, .int (nI ww), .ref ty])), (nw, .inl (cI, 241, .inl (nF NW))), (ps, .inl (cI, 4820, .inl (nF PS))), (im, .inl (cI, 484, .inl (nF IM))), (mk, .inl (cZ, 2, .inl (nF MK))), (wd, .inl (cI, 8, .inl (nF WD))), (so, .inl (cI, 24, .inl (nF SO))), (mb, .inl (cI, 24, .inl (nF EB))), (ma, .inl (cI, 24, .inl (nF EA))), (mf, .inl (cI, 24, .inl (nF EF))), (mw, .inl (cI, 24, .inl (nF EW))), (ml, .inl (cI, 24, .inl (nF EL))), (mu, .inl (cI, 24, .inl (oF EU))), (wt, .inl (cI, 200, .inl (oF WT))), (ty, .inl (cI, 8, .inl (nF TY)))] ss.heap := hP
  refine lv_iload_n hx hb dX6_bit_0 rfl (lv_at hl 1 rfl) ?_
  refine lv_iconst (v := nI 0) hx hb dX6_bit_1 (by decide +kernel) ?_
  refine lv_bipush (v := nI 71) hx hb dX6_bit_2 (by decide +kernel) ?_
  refine ro_S (As := [.int (nI j), .int (nI 0), .int (nI 71)]) (rest := []) ⟨hx, hb, hml, hown, hts⟩ (c_X6_in l D cI cJ cZ j 0 71 (by omega) (by omega) (by omega)) (k_X6_79 hts ⟨Nat.le_of_ble_eq_true rfl, Nat.le_of_ble_eq_true rfl⟩) hK hP [] rfl rfl hl.1 rfl (Nat.le_of_ble_eq_true rfl) dX6_bit_4 ⟨Nat.le_of_ble_eq_true rfl, Nat.le_of_ble_eq_true rfl⟩ ?_
  refine b_if_eq (tgt := 20) hx hb dX6_bit_7 (by decide) (fun c1 => ?_) (fun c1 => ?_)
  ·
    refine lv_ldc hx hb hown (hts _ mk_X6_83) dX6_bit_20 ?_
    exact wr_iret hx hb hr hlk hP hD hS dX6_bit_22 (⟨rfl, SO, q, EB, EA, EF, EW, EL, EU, br, WT, ww, rfl⟩)
  ·
    exact absurd c1 (by omega)
set_option maxHeartbeats 4000000 in
set_option maxRecDepth 100000 in
theorem c_X6_bit_ok (l : Launch) (D : va_G) (cI cJ cZ : ClassId) (m0 nw ps im mk wd so mb ma mf mw ml mu wt ty : Nat) (NW : Nat → Nat) (PS : Nat → Nat) (u : Nat) (IM : Nat → Nat) (MK : Nat → Nat) (sd : Nat) (WD : Nat → Nat) (s : Nat) (SO : Nat → Nat) (q : Nat) (EB : Nat → Nat) (EA : Nat → Nat) (EF : Nat → Nat) (EW : Nat → Nat) (EL : Nat → Nat) (EU : Nat → Nat) (br : Nat) (WT : Nat → Nat) (ww : Nat) (TY : Nat → Nat) (KS KL KW : Nat → Nat) (n A : Nat) (hn : n ≤ 24) (hk : ∀ k, k < n → Wf (KS k) (KL k)) (hw0 : Wf s A) (hR : RN NW KS KL KW n) (hRW : RW WD s A) (hso : Srt KS KL n) (BB BD BM BL BF BA BK : Nat → Nat) (hTr : TrX (gapF KS KL) n BB BD BM BL BF BA BK) (hv : ∀ k, k < n → KW k ≤ 9999) (j : Nat) (hj : j < 72) (sz : Nat) : WR l yX6_bit cX6_bit 2 (some .int) (rmN 2 45) D (ty3 cI cJ cZ) [.ref m0, .int (nI j)] [(m0, .inr (6, [.ref nw, .ref ps, .int (nI u), .ref im, .ref mk, .int (nI sd), .ref wd, .int (nI s), .ref so, .int (nI q), .ref mb, .ref ma, .ref mf, .ref mw, .ref ml, .ref mu, .int (nI br), .ref wt, .int (nI ww), .ref ty])), (nw, .inl (cI, 241, .inl (nF NW))), (ps, .inl (cI, 4820, .inl (nF PS))), (im, .inl (cI, 484, .inl (nF IM))), (mk, .inl (cZ, 2, .inl (nF MK))), (wd, .inl (cI, 8, .inl (nF WD))), (so, .inl (cI, 24, .inl (nF SO))), (mb, .inl (cI, 24, .inl (nF EB))), (ma, .inl (cI, 24, .inl (nF EA))), (mf, .inl (cI, 24, .inl (nF EF))), (mw, .inl (cI, 24, .inl (nF EW))), (ml, .inl (cI, 24, .inl (nF EL))), (mu, .inl (cI, 24, .inl (oF EU))), (wt, .inl (cI, 200, .inl (oF WT))), (ty, .inl (cI, 8, .inl (nF TY)))] sz (fun x w => x = some (.int (nI (bitr s A j))) ∧ ∃ (SO : Nat → Nat) (q : Nat) (EB EA EF EW EL EU : Nat → Nat) (br : Nat) (WT : Nat → Nat) (ww : Nat), w = [(m0, .inr (6, [.ref nw, .ref ps, .int (nI u), .ref im, .ref mk, .int (nI sd), .ref wd, .int (nI s), .ref so, .int (nI q), .ref mb, .ref ma, .ref mf, .ref mw, .ref ml, .ref mu, .int (nI br), .ref wt, .int (nI ww), .ref ty])), (nw, .inl (cI, 241, .inl (nF NW))), (ps, .inl (cI, 4820, .inl (nF PS))), (im, .inl (cI, 484, .inl (nF IM))), (mk, .inl (cZ, 2, .inl (nF MK))), (wd, .inl (cI, 8, .inl (nF WD))), (so, .inl (cI, 24, .inl (nF SO))), (mb, .inl (cI, 24, .inl (nF EB))), (ma, .inl (cI, 24, .inl (nF EA))), (mf, .inl (cI, 24, .inl (nF EF))), (mw, .inl (cI, 24, .inl (nF EW))), (ml, .inl (cI, 24, .inl (nF EL))), (mu, .inl (cI, 24, .inl (oF EU))), (wt, .inl (cI, 200, .inl (oF WT))), (ty, .inl (cI, 8, .inl (nF TY)))]) := by
  have hs8 := hw0.1
  have hA64 := hw0.2.1
  have hN0 := hR.1
  have hBK := tf_BK hTr hn
  have hDK := tf_DK hTr hn
  have hp := plc_le KS KL n s A
  have hcb := cbl_le KS KL n s A
  have hfl := fnd_le KS KL n s A
  refine wr_start (by decide) (Nat.le_of_ble_eq_true rfl) ?_
  intro pp ee ss mm below meth cd AA C0 hAA hP hK hD hS hN hnm ls hl
  obtain ⟨hx, hb, hr, hml, hown, hts, hlk⟩ := C0
  have hown : ss.vm.findClass RX6 = some mm.cls := hown
  have hl : lv_has ls 2 [(0, .ref m0), (1, .int (nI j))] := hl
  have hP : va_P D vwCl [(m0, .inr (6, [.ref nw, .ref ps, .int (nI u), .ref im, .ref mk, .int (nI sd), .ref wd, .int (nI s), .ref so, .int (nI q), .ref mb, .ref ma, .ref mf, .ref mw, .ref ml, .ref mu, .int (nI br), .ref wt, .int (nI ww), .ref ty])), (nw, .inl (cI, 241, .inl (nF NW))), (ps, .inl (cI, 4820, .inl (nF PS))), (im, .inl (cI, 484, .inl (nF IM))), (mk, .inl (cZ, 2, .inl (nF MK))), (wd, .inl (cI, 8, .inl (nF WD))), (so, .inl (cI, 24, .inl (nF SO))), (mb, .inl (cI, 24, .inl (nF EB))), (ma, .inl (cI, 24, .inl (nF EA))), (mf, .inl (cI, 24, .inl (nF EF))), (mw, .inl (cI, 24, .inl (nF EW))), (ml, .inl (cI, 24, .inl (nF EL))), (mu, .inl (cI, 24, .inl (oF EU))), (wt, .inl (cI, 200, .inl (oF WT))), (ty, .inl (cI, 8, .inl (nF TY)))] ss.heap := hP
  refine lv_iload_n hx hb dX6_bit_0 rfl (lv_at hl 1 rfl) ?_
  refine lv_iconst (v := nI 0) hx hb dX6_bit_1 (by decide +kernel) ?_
  refine lv_bipush (v := nI 71) hx hb dX6_bit_2 (by decide +kernel) ?_
  refine ro_S (As := [.int (nI j), .int (nI 0), .int (nI 71)]) (rest := []) ⟨hx, hb, hml, hown, hts⟩ (c_X6_in l D cI cJ cZ j 0 71 (by omega) (by omega) (by omega)) (k_X6_79 hts ⟨Nat.le_of_ble_eq_true rfl, Nat.le_of_ble_eq_true rfl⟩) hK hP [] rfl rfl hl.1 rfl (Nat.le_of_ble_eq_true rfl) dX6_bit_4 ⟨Nat.le_of_ble_eq_true rfl, Nat.le_of_ble_eq_true rfl⟩ ?_
  refine b_if_eq (tgt := 20) hx hb dX6_bit_7 (by decide) (fun c1 => ?_) (fun c1 => ?_)
  ·
    exact (c1 (by omega)).elim
  ·
    refine lv_aload_n hx hb dX6_bit_10 rfl (lv_at hl 0 rfl) ?_
    refine lv_bipush (v := nI 24) hx hb dX6_bit_11 (by decide +kernel) ?_
    refine lv_iload_n hx hb dX6_bit_13 rfl (lv_at hl 1 rfl) ?_
    refine ro_V (As := [.int (nI 24), .int (nI j)]) (rest := []) ⟨hx, hb, hml, hown, hts⟩ (c_X6_bitOf l D cI cJ cZ m0 nw ps im mk wd so mb ma mf mw ml mu wt ty NW PS u IM MK sd WD s SO q EB EA EF EW EL EU br WT ww TY KS KL KW n A hn hk hw0 hR hRW 24 s A (Or.inl ⟨rfl, rfl, rfl⟩) j (by omega)) (k_X6_65 hts ⟨Nat.le_of_ble_eq_true rfl, Nat.le_of_ble_eq_true rfl⟩) hK hP 0 rfl rfl rfl [0, 1, 2, 3, 4, 5, 6, 7, 8, 9, 10, 11, 12, 13, 14] rfl rfl hl.1 rfl (Nat.le_of_ble_eq_true rfl) dX6_bit_14 ⟨Nat.le_of_ble_eq_true rfl, Nat.le_of_ble_eq_true rfl⟩ ?_
    refine lv_goto (tgt := 22) hx hb dX6_bit_17 (by decide) ?_
    exact wr_iret hx hb hr hlk hP hD hS dX6_bit_22 (⟨rfl, SO, q, EB, EA, EF, EW, EL, EU, br, WT, ww, rfl⟩)
set_option maxHeartbeats 4000000 in
set_option maxRecDepth 100000 in
theorem c_X6_seed_neg (l : Launch) (D : va_G) (cI cJ cZ : ClassId) (m0 nw ps im mk wd so mb ma mf mw ml mu wt ty : Nat) (NW : Nat → Nat) (PS : Nat → Nat) (u : Nat) (IM : Nat → Nat) (MK : Nat → Nat) (sd : Nat) (WD : Nat → Nat) (s : Nat) (SO : Nat → Nat) (q : Nat) (EB : Nat → Nat) (EA : Nat → Nat) (EF : Nat → Nat) (EW : Nat → Nat) (EL : Nat → Nat) (EU : Nat → Nat) (br : Nat) (WT : Nat → Nat) (ww : Nat) (TY : Nat → Nat) (KS KL KW : Nat → Nat) (n A : Nat) (hn : n ≤ 24) (hk : ∀ k, k < n → Wf (KS k) (KL k)) (hw0 : Wf s A) (hR : RN NW KS KL KW n) (hRW : RW WD s A) (hso : Srt KS KL n) (BB BD BM BL BF BA BK : Nat → Nat) (hTr : TrX (gapF KS KL) n BB BD BM BL BF BA BK) (hv : ∀ k, k < n → KW k ≤ 9999) (x : Int32) (hx0 : x < 0) (sz : Nat) : WR l yX6_seed cX6_seed 3 (some .int) (rmN 0 0) D (ty3 cI cJ cZ) [.ref m0, .int x] [(m0, .inr (6, [.ref nw, .ref ps, .int (nI u), .ref im, .ref mk, .int (nI sd), .ref wd, .int (nI s), .ref so, .int (nI q), .ref mb, .ref ma, .ref mf, .ref mw, .ref ml, .ref mu, .int (nI br), .ref wt, .int (nI ww), .ref ty])), (nw, .inl (cI, 241, .inl (nF NW))), (ps, .inl (cI, 4820, .inl (nF PS))), (im, .inl (cI, 484, .inl (nF IM))), (mk, .inl (cZ, 2, .inl (nF MK))), (wd, .inl (cI, 8, .inl (nF WD))), (so, .inl (cI, 24, .inl (nF SO))), (mb, .inl (cI, 24, .inl (nF EB))), (ma, .inl (cI, 24, .inl (nF EA))), (mf, .inl (cI, 24, .inl (nF EF))), (mw, .inl (cI, 24, .inl (nF EW))), (ml, .inl (cI, 24, .inl (nF EL))), (mu, .inl (cI, 24, .inl (oF EU))), (wt, .inl (cI, 200, .inl (oF WT))), (ty, .inl (cI, 8, .inl (nF TY)))] sz (fun x w => x = some (.int (-1000000002)) ∧ ∃ (SO : Nat → Nat) (q : Nat) (EB EA EF EW EL EU : Nat → Nat) (br : Nat) (WT : Nat → Nat) (ww : Nat), w = [(m0, .inr (6, [.ref nw, .ref ps, .int (nI u), .ref im, .ref mk, .int (nI sd), .ref wd, .int (nI s), .ref so, .int (nI q), .ref mb, .ref ma, .ref mf, .ref mw, .ref ml, .ref mu, .int (nI br), .ref wt, .int (nI ww), .ref ty])), (nw, .inl (cI, 241, .inl (nF NW))), (ps, .inl (cI, 4820, .inl (nF PS))), (im, .inl (cI, 484, .inl (nF IM))), (mk, .inl (cZ, 2, .inl (nF MK))), (wd, .inl (cI, 8, .inl (nF WD))), (so, .inl (cI, 24, .inl (nF SO))), (mb, .inl (cI, 24, .inl (nF EB))), (ma, .inl (cI, 24, .inl (nF EA))), (mf, .inl (cI, 24, .inl (nF EF))), (mw, .inl (cI, 24, .inl (nF EW))), (ml, .inl (cI, 24, .inl (nF EL))), (mu, .inl (cI, 24, .inl (oF EU))), (wt, .inl (cI, 200, .inl (oF WT))), (ty, .inl (cI, 8, .inl (nF TY)))]) := by
  have hs8 := hw0.1
  have hA64 := hw0.2.1
  have hN0 := hR.1
  have hBK := tf_BK hTr hn
  have hDK := tf_DK hTr hn
  have hp := plc_le KS KL n s A
  have hcb := cbl_le KS KL n s A
  have hfl := fnd_le KS KL n s A
  refine wr_start (by decide) (Nat.le_of_ble_eq_true rfl) ?_
  intro pp ee ss mm below meth cd AA C0 hAA hP hK hD hS hN hnm ls hl
  obtain ⟨hx, hb, hr, hml, hown, hts, hlk⟩ := C0
  have hown : ss.vm.findClass RX6 = some mm.cls := hown
  have hl : lv_has ls 3 [(0, .ref m0), (1, .int x)] := hl
  have hP : va_P D vwCl [(m0, .inr (6, [.ref nw, .ref ps, .int (nI u), .ref im, .ref mk, .int (nI sd), .ref wd, .int (nI s), .ref so, .int (nI q), .ref mb, .ref ma, .ref mf, .ref mw, .ref ml, .ref mu, .int (nI br), .ref wt, .int (nI ww), .ref ty])), (nw, .inl (cI, 241, .inl (nF NW))), (ps, .inl (cI, 4820, .inl (nF PS))), (im, .inl (cI, 484, .inl (nF IM))), (mk, .inl (cZ, 2, .inl (nF MK))), (wd, .inl (cI, 8, .inl (nF WD))), (so, .inl (cI, 24, .inl (nF SO))), (mb, .inl (cI, 24, .inl (nF EB))), (ma, .inl (cI, 24, .inl (nF EA))), (mf, .inl (cI, 24, .inl (nF EF))), (mw, .inl (cI, 24, .inl (nF EW))), (ml, .inl (cI, 24, .inl (nF EL))), (mu, .inl (cI, 24, .inl (oF EU))), (wt, .inl (cI, 200, .inl (oF WT))), (ty, .inl (cI, 8, .inl (nF TY)))] ss.heap := hP
  refine lv_iload_n hx hb dX6_seed_0 rfl (lv_at hl 1 rfl) ?_
  refine lv_if_ge (tgt := 7) hx hb dX6_seed_1 (by decide) (fun c1 => ?_) (fun c1 => ?_)
  ·
    exact absurd hx0 (fun q => by rw [Int32.lt_iff_toInt_lt] at q; rw [Int32.le_iff_toInt_le] at c1; omega)
  ·
    refine lv_ldc hx hb hown (hts _ mk_X6_83) dX6_seed_4 ?_
    exact wr_iret hx hb hr hlk hP hD hS dX6_seed_6 (⟨rfl, SO, q, EB, EA, EF, EW, EL, EU, br, WT, ww, rfl⟩)
set_option maxHeartbeats 4000000 in
set_option maxRecDepth 100000 in
theorem c_X6_seed_ok (l : Launch) (D : va_G) (cI cJ cZ : ClassId) (m0 nw ps im mk wd so mb ma mf mw ml mu wt ty : Nat) (NW : Nat → Nat) (PS : Nat → Nat) (u : Nat) (IM : Nat → Nat) (MK : Nat → Nat) (sd : Nat) (WD : Nat → Nat) (s : Nat) (SO : Nat → Nat) (q : Nat) (EB : Nat → Nat) (EA : Nat → Nat) (EF : Nat → Nat) (EW : Nat → Nat) (EL : Nat → Nat) (EU : Nat → Nat) (br : Nat) (WT : Nat → Nat) (ww : Nat) (TY : Nat → Nat) (KS KL KW : Nat → Nat) (n A : Nat) (hn : n ≤ 24) (hk : ∀ k, k < n → Wf (KS k) (KL k)) (hw0 : Wf s A) (hR : RN NW KS KL KW n) (hRW : RW WD s A) (hso : Srt KS KL n) (BB BD BM BL BF BA BK : Nat → Nat) (hTr : TrX (gapF KS KL) n BB BD BM BL BF BA BK) (hv : ∀ k, k < n → KW k ≤ 9999) (j : Nat) (hj : j < 2 ^ 31) (sz : Nat) : WR l yX6_seed cX6_seed 3 (some .int) (rmN 0 0) D (ty3 cI cJ cZ) [.ref m0, .int (nI j)] [(m0, .inr (6, [.ref nw, .ref ps, .int (nI u), .ref im, .ref mk, .int (nI sd), .ref wd, .int (nI s), .ref so, .int (nI q), .ref mb, .ref ma, .ref mf, .ref mw, .ref ml, .ref mu, .int (nI br), .ref wt, .int (nI ww), .ref ty])), (nw, .inl (cI, 241, .inl (nF NW))), (ps, .inl (cI, 4820, .inl (nF PS))), (im, .inl (cI, 484, .inl (nF IM))), (mk, .inl (cZ, 2, .inl (nF MK))), (wd, .inl (cI, 8, .inl (nF WD))), (so, .inl (cI, 24, .inl (nF SO))), (mb, .inl (cI, 24, .inl (nF EB))), (ma, .inl (cI, 24, .inl (nF EA))), (mf, .inl (cI, 24, .inl (nF EF))), (mw, .inl (cI, 24, .inl (nF EW))), (ml, .inl (cI, 24, .inl (nF EL))), (mu, .inl (cI, 24, .inl (oF EU))), (wt, .inl (cI, 200, .inl (oF WT))), (ty, .inl (cI, 8, .inl (nF TY)))] sz (fun x w => x = some (.int (nI sd)) ∧ ∃ (SO : Nat → Nat) (q : Nat) (EB EA EF EW EL EU : Nat → Nat) (br : Nat) (WT : Nat → Nat) (ww : Nat), w = [(m0, .inr (6, [.ref nw, .ref ps, .int (nI u), .ref im, .ref mk, .int (nI j), .ref wd, .int (nI s), .ref so, .int (nI q), .ref mb, .ref ma, .ref mf, .ref mw, .ref ml, .ref mu, .int (nI br), .ref wt, .int (nI ww), .ref ty])), (nw, .inl (cI, 241, .inl (nF NW))), (ps, .inl (cI, 4820, .inl (nF PS))), (im, .inl (cI, 484, .inl (nF IM))), (mk, .inl (cZ, 2, .inl (nF MK))), (wd, .inl (cI, 8, .inl (nF WD))), (so, .inl (cI, 24, .inl (nF SO))), (mb, .inl (cI, 24, .inl (nF EB))), (ma, .inl (cI, 24, .inl (nF EA))), (mf, .inl (cI, 24, .inl (nF EF))), (mw, .inl (cI, 24, .inl (nF EW))), (ml, .inl (cI, 24, .inl (nF EL))), (mu, .inl (cI, 24, .inl (oF EU))), (wt, .inl (cI, 200, .inl (oF WT))), (ty, .inl (cI, 8, .inl (nF TY)))]) := by
  have hs8 := hw0.1
  have hA64 := hw0.2.1
  have hN0 := hR.1
  have hBK := tf_BK hTr hn
  have hDK := tf_DK hTr hn
  have hp := plc_le KS KL n s A
  have hcb := cbl_le KS KL n s A
  have hfl := fnd_le KS KL n s A
  refine wr_start (by decide) (Nat.le_of_ble_eq_true rfl) ?_
  intro pp ee ss mm below meth cd AA C0 hAA hP hK hD hS hN hnm ls hl
  obtain ⟨hx, hb, hr, hml, hown, hts, hlk⟩ := C0
  have hown : ss.vm.findClass RX6 = some mm.cls := hown
  have hl : lv_has ls 3 [(0, .ref m0), (1, .int (nI j))] := hl
  have hP : va_P D vwCl [(m0, .inr (6, [.ref nw, .ref ps, .int (nI u), .ref im, .ref mk, .int (nI sd), .ref wd, .int (nI s), .ref so, .int (nI q), .ref mb, .ref ma, .ref mf, .ref mw, .ref ml, .ref mu, .int (nI br), .ref wt, .int (nI ww), .ref ty])), (nw, .inl (cI, 241, .inl (nF NW))), (ps, .inl (cI, 4820, .inl (nF PS))), (im, .inl (cI, 484, .inl (nF IM))), (mk, .inl (cZ, 2, .inl (nF MK))), (wd, .inl (cI, 8, .inl (nF WD))), (so, .inl (cI, 24, .inl (nF SO))), (mb, .inl (cI, 24, .inl (nF EB))), (ma, .inl (cI, 24, .inl (nF EA))), (mf, .inl (cI, 24, .inl (nF EF))), (mw, .inl (cI, 24, .inl (nF EW))), (ml, .inl (cI, 24, .inl (nF EL))), (mu, .inl (cI, 24, .inl (oF EU))), (wt, .inl (cI, 200, .inl (oF WT))), (ty, .inl (cI, 8, .inl (nF TY)))] ss.heap := hP
  refine lv_iload_n hx hb dX6_seed_0 rfl (lv_at hl 1 rfl) ?_
  refine n_if_ge (tgt := 7) hx hb dX6_seed_1 (by decide) (by omega) ?_
  refine lv_aload_n hx hb dX6_seed_7 rfl (lv_at hl 0 rfl) ?_
  refine va_get (D := D) (ci := 6) (v := .int (nI sd)) (C := RX6) (T := TX6) (N := 20) hx hb hts inX6 hown hK hP 0 rfl rfl 5 (by decide) (hts _ mf_X6_152) (fun _ h9 => h9) rfl dX6_seed_8 ?_
  refine lv_istore_n (lv' := [(2, .int (nI sd)), (0, .ref m0), (1, .int (nI j))]) hx hb dX6_seed_11 rfl hl (by decide) rfl (fun ls hl => ?_)
  refine lv_aload_n hx hb dX6_seed_12 rfl (lv_at hl 1 rfl) ?_
  refine lv_iload_n hx hb dX6_seed_13 rfl (lv_at hl 2 rfl) ?_
  refine va_put (D := D) (ci := 6) (v := .int (nI j)) (ty := .int) (C := RX6) (T := TX6) (N := 20) hx hb hts inX6 tyX6 tyX6_ok nmX6 hown hK hP hD hS 0 rfl rfl 5 (by decide) (hts _ mf_X6_152) (fun _ h9 => h9) rfl (by decide +kernel) rfl rfl (Nat.le_of_ble_eq_true rfl) dX6_seed_14 (fun H locs hP hD hS => ?_)
  have hP : va_P D vwCl [(m0, .inr (6, [.ref nw, .ref ps, .int (nI u), .ref im, .ref mk, .int (nI j), .ref wd, .int (nI s), .ref so, .int (nI q), .ref mb, .ref ma, .ref mf, .ref mw, .ref ml, .ref mu, .int (nI br), .ref wt, .int (nI ww), .ref ty])), (nw, .inl (cI, 241, .inl (nF NW))), (ps, .inl (cI, 4820, .inl (nF PS))), (im, .inl (cI, 484, .inl (nF IM))), (mk, .inl (cZ, 2, .inl (nF MK))), (wd, .inl (cI, 8, .inl (nF WD))), (so, .inl (cI, 24, .inl (nF SO))), (mb, .inl (cI, 24, .inl (nF EB))), (ma, .inl (cI, 24, .inl (nF EA))), (mf, .inl (cI, 24, .inl (nF EF))), (mw, .inl (cI, 24, .inl (nF EW))), (ml, .inl (cI, 24, .inl (nF EL))), (mu, .inl (cI, 24, .inl (oF EU))), (wt, .inl (cI, 200, .inl (oF WT))), (ty, .inl (cI, 8, .inl (nF TY)))] H := hP
  have hD : va_D AA [(m0, .inr (6, [.ref nw, .ref ps, .int (nI u), .ref im, .ref mk, .int (nI j), .ref wd, .int (nI s), .ref so, .int (nI q), .ref mb, .ref ma, .ref mf, .ref mw, .ref ml, .ref mu, .int (nI br), .ref wt, .int (nI ww), .ref ty])), (nw, .inl (cI, 241, .inl (nF NW))), (ps, .inl (cI, 4820, .inl (nF PS))), (im, .inl (cI, 484, .inl (nF IM))), (mk, .inl (cZ, 2, .inl (nF MK))), (wd, .inl (cI, 8, .inl (nF WD))), (so, .inl (cI, 24, .inl (nF SO))), (mb, .inl (cI, 24, .inl (nF EB))), (ma, .inl (cI, 24, .inl (nF EA))), (mf, .inl (cI, 24, .inl (nF EF))), (mw, .inl (cI, 24, .inl (nF EW))), (ml, .inl (cI, 24, .inl (nF EL))), (mu, .inl (cI, 24, .inl (oF EU))), (wt, .inl (cI, 200, .inl (oF WT))), (ty, .inl (cI, 8, .inl (nF TY)))] := hD
  refine lv_iload_n hx hb dX6_seed_17 rfl (lv_at hl 0 rfl) ?_
  exact wr_iret hx hb hr hlk hP hD hS dX6_seed_18 (⟨rfl, SO, q, EB, EA, EF, EW, EL, EU, br, WT, ww, rfl⟩)
set_option maxHeartbeats 4000000 in
set_option maxRecDepth 100000 in
theorem c_X6_feed_neg (l : Launch) (D : va_G) (cI cJ cZ : ClassId) (m0 nw ps im mk wd so mb ma mf mw ml mu wt ty : Nat) (NW : Nat → Nat) (PS : Nat → Nat) (u : Nat) (IM : Nat → Nat) (MK : Nat → Nat) (sd : Nat) (WD : Nat → Nat) (s : Nat) (SO : Nat → Nat) (q : Nat) (EB : Nat → Nat) (EA : Nat → Nat) (EF : Nat → Nat) (EW : Nat → Nat) (EL : Nat → Nat) (EU : Nat → Nat) (br : Nat) (WT : Nat → Nat) (ww : Nat) (TY : Nat → Nat) (KS KL KW : Nat → Nat) (n A : Nat) (hn : n ≤ 24) (hk : ∀ k, k < n → Wf (KS k) (KL k)) (hw0 : Wf s A) (hR : RN NW KS KL KW n) (hRW : RW WD s A) (hso : Srt KS KL n) (BB BD BM BL BF BA BK : Nat → Nat) (hTr : TrX (gapF KS KL) n BB BD BM BL BF BA BK) (hv : ∀ k, k < n → KW k ≤ 9999) (x : Int32) (hx0 : x < 0) (sz : Nat) : WR l yX6_feed cX6_feed 2 (some .int) (rmN 1 22) D (ty3 cI cJ cZ) [.ref m0, .int x] [(m0, .inr (6, [.ref nw, .ref ps, .int (nI u), .ref im, .ref mk, .int (nI sd), .ref wd, .int (nI s), .ref so, .int (nI q), .ref mb, .ref ma, .ref mf, .ref mw, .ref ml, .ref mu, .int (nI br), .ref wt, .int (nI ww), .ref ty])), (nw, .inl (cI, 241, .inl (nF NW))), (ps, .inl (cI, 4820, .inl (nF PS))), (im, .inl (cI, 484, .inl (nF IM))), (mk, .inl (cZ, 2, .inl (nF MK))), (wd, .inl (cI, 8, .inl (nF WD))), (so, .inl (cI, 24, .inl (nF SO))), (mb, .inl (cI, 24, .inl (nF EB))), (ma, .inl (cI, 24, .inl (nF EA))), (mf, .inl (cI, 24, .inl (nF EF))), (mw, .inl (cI, 24, .inl (nF EW))), (ml, .inl (cI, 24, .inl (nF EL))), (mu, .inl (cI, 24, .inl (oF EU))), (wt, .inl (cI, 200, .inl (oF WT))), (ty, .inl (cI, 8, .inl (nF TY)))] sz (fun x w => x = some (.int (-1000000002)) ∧ ∃ (SO : Nat → Nat) (q : Nat) (EB EA EF EW EL EU : Nat → Nat) (br : Nat) (WT : Nat → Nat) (ww : Nat), w = [(m0, .inr (6, [.ref nw, .ref ps, .int (nI u), .ref im, .ref mk, .int (nI sd), .ref wd, .int (nI s), .ref so, .int (nI q), .ref mb, .ref ma, .ref mf, .ref mw, .ref ml, .ref mu, .int (nI br), .ref wt, .int (nI ww), .ref ty])), (nw, .inl (cI, 241, .inl (nF NW))), (ps, .inl (cI, 4820, .inl (nF PS))), (im, .inl (cI, 484, .inl (nF IM))), (mk, .inl (cZ, 2, .inl (nF MK))), (wd, .inl (cI, 8, .inl (nF WD))), (so, .inl (cI, 24, .inl (nF SO))), (mb, .inl (cI, 24, .inl (nF EB))), (ma, .inl (cI, 24, .inl (nF EA))), (mf, .inl (cI, 24, .inl (nF EF))), (mw, .inl (cI, 24, .inl (nF EW))), (ml, .inl (cI, 24, .inl (nF EL))), (mu, .inl (cI, 24, .inl (oF EU))), (wt, .inl (cI, 200, .inl (oF WT))), (ty, .inl (cI, 8, .inl (nF TY)))]) := by
  have hs8 := hw0.1
  have hA64 := hw0.2.1
  have hN0 := hR.1
  have hBK := tf_BK hTr hn
  have hDK := tf_DK hTr hn
  have hp := plc_le KS KL n s A
  have hcb := cbl_le KS KL n s A
  have hfl := fnd_le KS KL n s A
  refine wr_start (by decide) (Nat.le_of_ble_eq_true rfl) ?_
  intro pp ee ss mm below meth cd AA C0 hAA hP hK hD hS hN hnm ls hl
  obtain ⟨hx, hb, hr, hml, hown, hts, hlk⟩ := C0
  have hown : ss.vm.findClass RX6 = some mm.cls := hown
  have hl : lv_has ls 2 [(0, .ref m0), (1, .int x)] := hl
  have hP : va_P D vwCl [(m0, .inr (6, [.ref nw, .ref ps, .int (nI u), .ref im, .ref mk, .int (nI sd), .ref wd, .int (nI s), .ref so, .int (nI q), .ref mb, .ref ma, .ref mf, .ref mw, .ref ml, .ref mu, .int (nI br), .ref wt, .int (nI ww), .ref ty])), (nw, .inl (cI, 241, .inl (nF NW))), (ps, .inl (cI, 4820, .inl (nF PS))), (im, .inl (cI, 484, .inl (nF IM))), (mk, .inl (cZ, 2, .inl (nF MK))), (wd, .inl (cI, 8, .inl (nF WD))), (so, .inl (cI, 24, .inl (nF SO))), (mb, .inl (cI, 24, .inl (nF EB))), (ma, .inl (cI, 24, .inl (nF EA))), (mf, .inl (cI, 24, .inl (nF EF))), (mw, .inl (cI, 24, .inl (nF EW))), (ml, .inl (cI, 24, .inl (nF EL))), (mu, .inl (cI, 24, .inl (oF EU))), (wt, .inl (cI, 200, .inl (oF WT))), (ty, .inl (cI, 8, .inl (nF TY)))] ss.heap := hP
  refine lv_iload_n hx hb dX6_feed_0 rfl (lv_at hl 1 rfl) ?_
  refine lv_iconst (v := nI 0) hx hb dX6_feed_1 (by decide +kernel) ?_
  refine lv_sipush (v := nI 255) hx hb dX6_feed_2 (by decide +kernel) ?_
  refine ro_S (As := [.int x, .int (nI 0), .int (nI 255)]) (rest := []) ⟨hx, hb, hml, hown, hts⟩ (c_X6_in_neg l D cI cJ cZ x ((nI 255)) 0 hx0 (by omega)) (k_X6_79 hts ⟨Nat.le_of_ble_eq_true rfl, Nat.le_of_ble_eq_true rfl⟩) hK hP [] rfl rfl hl.1 rfl (Nat.le_of_ble_eq_true rfl) dX6_feed_5 ⟨Nat.le_of_ble_eq_true rfl, Nat.le_of_ble_eq_true rfl⟩ ?_
  refine n_if_ne (tgt := 14) hx hb dX6_feed_8 (by decide) (by decide) (fun h9 => absurd rfl h9) (fun _ => ?_)
  refine lv_ldc hx hb hown (hts _ mk_X6_83) dX6_feed_11 ?_
  exact wr_iret hx hb hr hlk hP hD hS dX6_feed_13 (⟨rfl, SO, q, EB, EA, EF, EW, EL, EU, br, WT, ww, rfl⟩)
set_option maxHeartbeats 4000000 in
set_option maxRecDepth 100000 in
theorem c_X6_feed_big (l : Launch) (D : va_G) (cI cJ cZ : ClassId) (m0 nw ps im mk wd so mb ma mf mw ml mu wt ty : Nat) (NW : Nat → Nat) (PS : Nat → Nat) (u : Nat) (IM : Nat → Nat) (MK : Nat → Nat) (sd : Nat) (WD : Nat → Nat) (s : Nat) (SO : Nat → Nat) (q : Nat) (EB : Nat → Nat) (EA : Nat → Nat) (EF : Nat → Nat) (EW : Nat → Nat) (EL : Nat → Nat) (EU : Nat → Nat) (br : Nat) (WT : Nat → Nat) (ww : Nat) (TY : Nat → Nat) (KS KL KW : Nat → Nat) (n A : Nat) (hn : n ≤ 24) (hk : ∀ k, k < n → Wf (KS k) (KL k)) (hw0 : Wf s A) (hR : RN NW KS KL KW n) (hRW : RW WD s A) (hso : Srt KS KL n) (BB BD BM BL BF BA BK : Nat → Nat) (hTr : TrX (gapF KS KL) n BB BD BM BL BF BA BK) (hv : ∀ k, k < n → KW k ≤ 9999) (j : Nat) (hj : j < 2 ^ 31) (hjb : 255 < j) (sz : Nat) : WR l yX6_feed cX6_feed 2 (some .int) (rmN 1 22) D (ty3 cI cJ cZ) [.ref m0, .int (nI j)] [(m0, .inr (6, [.ref nw, .ref ps, .int (nI u), .ref im, .ref mk, .int (nI sd), .ref wd, .int (nI s), .ref so, .int (nI q), .ref mb, .ref ma, .ref mf, .ref mw, .ref ml, .ref mu, .int (nI br), .ref wt, .int (nI ww), .ref ty])), (nw, .inl (cI, 241, .inl (nF NW))), (ps, .inl (cI, 4820, .inl (nF PS))), (im, .inl (cI, 484, .inl (nF IM))), (mk, .inl (cZ, 2, .inl (nF MK))), (wd, .inl (cI, 8, .inl (nF WD))), (so, .inl (cI, 24, .inl (nF SO))), (mb, .inl (cI, 24, .inl (nF EB))), (ma, .inl (cI, 24, .inl (nF EA))), (mf, .inl (cI, 24, .inl (nF EF))), (mw, .inl (cI, 24, .inl (nF EW))), (ml, .inl (cI, 24, .inl (nF EL))), (mu, .inl (cI, 24, .inl (oF EU))), (wt, .inl (cI, 200, .inl (oF WT))), (ty, .inl (cI, 8, .inl (nF TY)))] sz (fun x w => x = some (.int (-1000000002)) ∧ ∃ (SO : Nat → Nat) (q : Nat) (EB EA EF EW EL EU : Nat → Nat) (br : Nat) (WT : Nat → Nat) (ww : Nat), w = [(m0, .inr (6, [.ref nw, .ref ps, .int (nI u), .ref im, .ref mk, .int (nI sd), .ref wd, .int (nI s), .ref so, .int (nI q), .ref mb, .ref ma, .ref mf, .ref mw, .ref ml, .ref mu, .int (nI br), .ref wt, .int (nI ww), .ref ty])), (nw, .inl (cI, 241, .inl (nF NW))), (ps, .inl (cI, 4820, .inl (nF PS))), (im, .inl (cI, 484, .inl (nF IM))), (mk, .inl (cZ, 2, .inl (nF MK))), (wd, .inl (cI, 8, .inl (nF WD))), (so, .inl (cI, 24, .inl (nF SO))), (mb, .inl (cI, 24, .inl (nF EB))), (ma, .inl (cI, 24, .inl (nF EA))), (mf, .inl (cI, 24, .inl (nF EF))), (mw, .inl (cI, 24, .inl (nF EW))), (ml, .inl (cI, 24, .inl (nF EL))), (mu, .inl (cI, 24, .inl (oF EU))), (wt, .inl (cI, 200, .inl (oF WT))), (ty, .inl (cI, 8, .inl (nF TY)))]) := by
  have hs8 := hw0.1
  have hA64 := hw0.2.1
  have hN0 := hR.1
  have hBK := tf_BK hTr hn
  have hDK := tf_DK hTr hn
  have hp := plc_le KS KL n s A
  have hcb := cbl_le KS KL n s A
  have hfl := fnd_le KS KL n s A
  refine wr_start (by decide) (Nat.le_of_ble_eq_true rfl) ?_
  intro pp ee ss mm below meth cd AA C0 hAA hP hK hD hS hN hnm ls hl
  obtain ⟨hx, hb, hr, hml, hown, hts, hlk⟩ := C0
  have hown : ss.vm.findClass RX6 = some mm.cls := hown
  have hl : lv_has ls 2 [(0, .ref m0), (1, .int (nI j))] := hl
  have hP : va_P D vwCl [(m0, .inr (6, [.ref nw, .ref ps, .int (nI u), .ref im, .ref mk, .int (nI sd), .ref wd, .int (nI s), .ref so, .int (nI q), .ref mb, .ref ma, .ref mf, .ref mw, .ref ml, .ref mu, .int (nI br), .ref wt, .int (nI ww), .ref ty])), (nw, .inl (cI, 241, .inl (nF NW))), (ps, .inl (cI, 4820, .inl (nF PS))), (im, .inl (cI, 484, .inl (nF IM))), (mk, .inl (cZ, 2, .inl (nF MK))), (wd, .inl (cI, 8, .inl (nF WD))), (so, .inl (cI, 24, .inl (nF SO))), (mb, .inl (cI, 24, .inl (nF EB))), (ma, .inl (cI, 24, .inl (nF EA))), (mf, .inl (cI, 24, .inl (nF EF))), (mw, .inl (cI, 24, .inl (nF EW))), (ml, .inl (cI, 24, .inl (nF EL))), (mu, .inl (cI, 24, .inl (oF EU))), (wt, .inl (cI, 200, .inl (oF WT))), (ty, .inl (cI, 8, .inl (nF TY)))] ss.heap := hP
  refine lv_iload_n hx hb dX6_feed_0 rfl (lv_at hl 1 rfl) ?_
  refine lv_iconst (v := nI 0) hx hb dX6_feed_1 (by decide +kernel) ?_
  refine lv_sipush (v := nI 255) hx hb dX6_feed_2 (by decide +kernel) ?_
  refine ro_S (As := [.int (nI j), .int (nI 0), .int (nI 255)]) (rest := []) ⟨hx, hb, hml, hown, hts⟩ (c_X6_in l D cI cJ cZ j 0 255 (by omega) (by omega) (by omega)) (k_X6_79 hts ⟨Nat.le_of_ble_eq_true rfl, Nat.le_of_ble_eq_true rfl⟩) hK hP [] rfl rfl hl.1 rfl (Nat.le_of_ble_eq_true rfl) dX6_feed_5 ⟨Nat.le_of_ble_eq_true rfl, Nat.le_of_ble_eq_true rfl⟩ ?_
  refine b_if_ne (tgt := 14) hx hb dX6_feed_8 (by decide) (fun c1 => ?_) (fun c1 => ?_)
  ·
    exact absurd c1 (by omega)
  ·
    refine lv_ldc hx hb hown (hts _ mk_X6_83) dX6_feed_11 ?_
    exact wr_iret hx hb hr hlk hP hD hS dX6_feed_13 (⟨rfl, SO, q, EB, EA, EF, EW, EL, EU, br, WT, ww, rfl⟩)
set_option maxHeartbeats 4000000 in
set_option maxRecDepth 100000 in
theorem c_X6_feed_full (l : Launch) (D : va_G) (cI cJ cZ : ClassId) (m0 nw ps im mk wd so mb ma mf mw ml mu wt ty : Nat) (NW : Nat → Nat) (PS : Nat → Nat) (u : Nat) (IM : Nat → Nat) (MK : Nat → Nat) (sd : Nat) (WD : Nat → Nat) (s : Nat) (SO : Nat → Nat) (q : Nat) (EB : Nat → Nat) (EA : Nat → Nat) (EF : Nat → Nat) (EW : Nat → Nat) (EL : Nat → Nat) (EU : Nat → Nat) (br : Nat) (WT : Nat → Nat) (ww : Nat) (TY : Nat → Nat) (KS KL KW : Nat → Nat) (n A : Nat) (hn : n ≤ 24) (hk : ∀ k, k < n → Wf (KS k) (KL k)) (hw0 : Wf s A) (hR : RN NW KS KL KW n) (hRW : RW WD s A) (hso : Srt KS KL n) (BB BD BM BL BF BA BK : Nat → Nat) (hTr : TrX (gapF KS KL) n BB BD BM BL BF BA BK) (hv : ∀ k, k < n → KW k ≤ 9999) (j : Nat) (hj : j ≤ 255) (hs : s = 8) (sz : Nat) : WR l yX6_feed cX6_feed 2 (some .int) (rmN 1 22) D (ty3 cI cJ cZ) [.ref m0, .int (nI j)] [(m0, .inr (6, [.ref nw, .ref ps, .int (nI u), .ref im, .ref mk, .int (nI sd), .ref wd, .int (nI s), .ref so, .int (nI q), .ref mb, .ref ma, .ref mf, .ref mw, .ref ml, .ref mu, .int (nI br), .ref wt, .int (nI ww), .ref ty])), (nw, .inl (cI, 241, .inl (nF NW))), (ps, .inl (cI, 4820, .inl (nF PS))), (im, .inl (cI, 484, .inl (nF IM))), (mk, .inl (cZ, 2, .inl (nF MK))), (wd, .inl (cI, 8, .inl (nF WD))), (so, .inl (cI, 24, .inl (nF SO))), (mb, .inl (cI, 24, .inl (nF EB))), (ma, .inl (cI, 24, .inl (nF EA))), (mf, .inl (cI, 24, .inl (nF EF))), (mw, .inl (cI, 24, .inl (nF EW))), (ml, .inl (cI, 24, .inl (nF EL))), (mu, .inl (cI, 24, .inl (oF EU))), (wt, .inl (cI, 200, .inl (oF WT))), (ty, .inl (cI, 8, .inl (nF TY)))] sz (fun x w => x = some (.int (-1000000004)) ∧ ∃ (SO : Nat → Nat) (q : Nat) (EB EA EF EW EL EU : Nat → Nat) (br : Nat) (WT : Nat → Nat) (ww : Nat), w = [(m0, .inr (6, [.ref nw, .ref ps, .int (nI u), .ref im, .ref mk, .int (nI sd), .ref wd, .int (nI s), .ref so, .int (nI q), .ref mb, .ref ma, .ref mf, .ref mw, .ref ml, .ref mu, .int (nI br), .ref wt, .int (nI ww), .ref ty])), (nw, .inl (cI, 241, .inl (nF NW))), (ps, .inl (cI, 4820, .inl (nF PS))), (im, .inl (cI, 484, .inl (nF IM))), (mk, .inl (cZ, 2, .inl (nF MK))), (wd, .inl (cI, 8, .inl (nF WD))), (so, .inl (cI, 24, .inl (nF SO))), (mb, .inl (cI, 24, .inl (nF EB))), (ma, .inl (cI, 24, .inl (nF EA))), (mf, .inl (cI, 24, .inl (nF EF))), (mw, .inl (cI, 24, .inl (nF EW))), (ml, .inl (cI, 24, .inl (nF EL))), (mu, .inl (cI, 24, .inl (oF EU))), (wt, .inl (cI, 200, .inl (oF WT))), (ty, .inl (cI, 8, .inl (nF TY)))]) := by
  have hs8 := hw0.1
  have hA64 := hw0.2.1
  have hN0 := hR.1
  have hBK := tf_BK hTr hn
  have hDK := tf_DK hTr hn
  have hp := plc_le KS KL n s A
  have hcb := cbl_le KS KL n s A
  have hfl := fnd_le KS KL n s A
  refine wr_start (by decide) (Nat.le_of_ble_eq_true rfl) ?_
  intro pp ee ss mm below meth cd AA C0 hAA hP hK hD hS hN hnm ls hl
  obtain ⟨hx, hb, hr, hml, hown, hts, hlk⟩ := C0
  have hown : ss.vm.findClass RX6 = some mm.cls := hown
  have hl : lv_has ls 2 [(0, .ref m0), (1, .int (nI j))] := hl
  have hP : va_P D vwCl [(m0, .inr (6, [.ref nw, .ref ps, .int (nI u), .ref im, .ref mk, .int (nI sd), .ref wd, .int (nI s), .ref so, .int (nI q), .ref mb, .ref ma, .ref mf, .ref mw, .ref ml, .ref mu, .int (nI br), .ref wt, .int (nI ww), .ref ty])), (nw, .inl (cI, 241, .inl (nF NW))), (ps, .inl (cI, 4820, .inl (nF PS))), (im, .inl (cI, 484, .inl (nF IM))), (mk, .inl (cZ, 2, .inl (nF MK))), (wd, .inl (cI, 8, .inl (nF WD))), (so, .inl (cI, 24, .inl (nF SO))), (mb, .inl (cI, 24, .inl (nF EB))), (ma, .inl (cI, 24, .inl (nF EA))), (mf, .inl (cI, 24, .inl (nF EF))), (mw, .inl (cI, 24, .inl (nF EW))), (ml, .inl (cI, 24, .inl (nF EL))), (mu, .inl (cI, 24, .inl (oF EU))), (wt, .inl (cI, 200, .inl (oF WT))), (ty, .inl (cI, 8, .inl (nF TY)))] ss.heap := hP
  refine lv_iload_n hx hb dX6_feed_0 rfl (lv_at hl 1 rfl) ?_
  refine lv_iconst (v := nI 0) hx hb dX6_feed_1 (by decide +kernel) ?_
  refine lv_sipush (v := nI 255) hx hb dX6_feed_2 (by decide +kernel) ?_
  refine ro_S (As := [.int (nI j), .int (nI 0), .int (nI 255)]) (rest := []) ⟨hx, hb, hml, hown, hts⟩ (c_X6_in l D cI cJ cZ j 0 255 (by omega) (by omega) (by omega)) (k_X6_79 hts ⟨Nat.le_of_ble_eq_true rfl, Nat.le_of_ble_eq_true rfl⟩) hK hP [] rfl rfl hl.1 rfl (Nat.le_of_ble_eq_true rfl) dX6_feed_5 ⟨Nat.le_of_ble_eq_true rfl, Nat.le_of_ble_eq_true rfl⟩ ?_
  refine b_if_ne (tgt := 14) hx hb dX6_feed_8 (by decide) (fun c1 => ?_) (fun c1 => ?_)
  ·
    refine lv_aload_n hx hb dX6_feed_14 rfl (lv_at hl 0 rfl) ?_
    refine va_get (D := D) (ci := 6) (v := .int (nI s)) (C := RX6) (T := TX6) (N := 20) hx hb hts inX6 hown hK hP 0 rfl rfl 7 (by decide) (hts _ mf_X6_53) (fun _ h9 => h9) rfl dX6_feed_15 ?_
    refine lv_bipush (v := nI 8) hx hb dX6_feed_18 (by decide +kernel) ?_
    refine n_ne (tgt := 26) hx hb dX6_feed_20 (by decide) (by omega) (by omega) (fun c2 => ?_) (fun c2 => ?_)
    ·
      exact absurd c2 (by omega)
    ·
      refine lv_ldc hx hb hown (hts _ mk_X6_84) dX6_feed_23 ?_
      exact wr_iret hx hb hr hlk hP hD hS dX6_feed_25 (⟨rfl, SO, q, EB, EA, EF, EW, EL, EU, br, WT, ww, rfl⟩)
  ·
    exact (c1 (by omega)).elim
set_option maxHeartbeats 4000000 in
set_option maxRecDepth 100000 in
theorem c_X6_feed_ok (l : Launch) (D : va_G) (cI cJ cZ : ClassId) (m0 nw ps im mk wd so mb ma mf mw ml mu wt ty : Nat) (NW : Nat → Nat) (PS : Nat → Nat) (u : Nat) (IM : Nat → Nat) (MK : Nat → Nat) (sd : Nat) (WD : Nat → Nat) (s : Nat) (SO : Nat → Nat) (q : Nat) (EB : Nat → Nat) (EA : Nat → Nat) (EF : Nat → Nat) (EW : Nat → Nat) (EL : Nat → Nat) (EU : Nat → Nat) (br : Nat) (WT : Nat → Nat) (ww : Nat) (TY : Nat → Nat) (KS KL KW : Nat → Nat) (n A : Nat) (hn : n ≤ 24) (hk : ∀ k, k < n → Wf (KS k) (KL k)) (hw0 : Wf s A) (hR : RN NW KS KL KW n) (hRW : RW WD s A) (hso : Srt KS KL n) (BB BD BM BL BF BA BK : Nat → Nat) (hTr : TrX (gapF KS KL) n BB BD BM BL BF BA BK) (hv : ∀ k, k < n → KW k ≤ 9999) (j : Nat) (hj : j ≤ 255) (hs : s < 8) (sz : Nat) : WR l yX6_feed cX6_feed 2 (some .int) (rmN 1 22) D (ty3 cI cJ cZ) [.ref m0, .int (nI j)] [(m0, .inr (6, [.ref nw, .ref ps, .int (nI u), .ref im, .ref mk, .int (nI sd), .ref wd, .int (nI s), .ref so, .int (nI q), .ref mb, .ref ma, .ref mf, .ref mw, .ref ml, .ref mu, .int (nI br), .ref wt, .int (nI ww), .ref ty])), (nw, .inl (cI, 241, .inl (nF NW))), (ps, .inl (cI, 4820, .inl (nF PS))), (im, .inl (cI, 484, .inl (nF IM))), (mk, .inl (cZ, 2, .inl (nF MK))), (wd, .inl (cI, 8, .inl (nF WD))), (so, .inl (cI, 24, .inl (nF SO))), (mb, .inl (cI, 24, .inl (nF EB))), (ma, .inl (cI, 24, .inl (nF EA))), (mf, .inl (cI, 24, .inl (nF EF))), (mw, .inl (cI, 24, .inl (nF EW))), (ml, .inl (cI, 24, .inl (nF EL))), (mu, .inl (cI, 24, .inl (oF EU))), (wt, .inl (cI, 200, .inl (oF WT))), (ty, .inl (cI, 8, .inl (nF TY)))] sz (fun x w => x = some (.int (nI (s + 1))) ∧ ∃ (SO : Nat → Nat) (q : Nat) (EB EA EF EW EL EU : Nat → Nat) (br : Nat) (WT : Nat → Nat) (ww : Nat), w = [(m0, .inr (6, [.ref nw, .ref ps, .int (nI u), .ref im, .ref mk, .int (nI sd), .ref wd, .int (nI (s + 1)), .ref so, .int (nI q), .ref mb, .ref ma, .ref mf, .ref mw, .ref ml, .ref mu, .int (nI br), .ref wt, .int (nI ww), .ref ty])), (nw, .inl (cI, 241, .inl (nF NW))), (ps, .inl (cI, 4820, .inl (nF PS))), (im, .inl (cI, 484, .inl (nF IM))), (mk, .inl (cZ, 2, .inl (nF MK))), (wd, .inl (cI, 8, .inl (nF (up WD s j)))), (so, .inl (cI, 24, .inl (nF SO))), (mb, .inl (cI, 24, .inl (nF EB))), (ma, .inl (cI, 24, .inl (nF EA))), (mf, .inl (cI, 24, .inl (nF EF))), (mw, .inl (cI, 24, .inl (nF EW))), (ml, .inl (cI, 24, .inl (nF EL))), (mu, .inl (cI, 24, .inl (oF EU))), (wt, .inl (cI, 200, .inl (oF WT))), (ty, .inl (cI, 8, .inl (nF TY)))]) := by
  have hs8 := hw0.1
  have hA64 := hw0.2.1
  have hN0 := hR.1
  have hBK := tf_BK hTr hn
  have hDK := tf_DK hTr hn
  have hp := plc_le KS KL n s A
  have hcb := cbl_le KS KL n s A
  have hfl := fnd_le KS KL n s A
  refine wr_start (by decide) (Nat.le_of_ble_eq_true rfl) ?_
  intro pp ee ss mm below meth cd AA C0 hAA hP hK hD hS hN hnm ls hl
  obtain ⟨hx, hb, hr, hml, hown, hts, hlk⟩ := C0
  have hown : ss.vm.findClass RX6 = some mm.cls := hown
  have hl : lv_has ls 2 [(0, .ref m0), (1, .int (nI j))] := hl
  have hP : va_P D vwCl [(m0, .inr (6, [.ref nw, .ref ps, .int (nI u), .ref im, .ref mk, .int (nI sd), .ref wd, .int (nI s), .ref so, .int (nI q), .ref mb, .ref ma, .ref mf, .ref mw, .ref ml, .ref mu, .int (nI br), .ref wt, .int (nI ww), .ref ty])), (nw, .inl (cI, 241, .inl (nF NW))), (ps, .inl (cI, 4820, .inl (nF PS))), (im, .inl (cI, 484, .inl (nF IM))), (mk, .inl (cZ, 2, .inl (nF MK))), (wd, .inl (cI, 8, .inl (nF WD))), (so, .inl (cI, 24, .inl (nF SO))), (mb, .inl (cI, 24, .inl (nF EB))), (ma, .inl (cI, 24, .inl (nF EA))), (mf, .inl (cI, 24, .inl (nF EF))), (mw, .inl (cI, 24, .inl (nF EW))), (ml, .inl (cI, 24, .inl (nF EL))), (mu, .inl (cI, 24, .inl (oF EU))), (wt, .inl (cI, 200, .inl (oF WT))), (ty, .inl (cI, 8, .inl (nF TY)))] ss.heap := hP
  refine lv_iload_n hx hb dX6_feed_0 rfl (lv_at hl 1 rfl) ?_
  refine lv_iconst (v := nI 0) hx hb dX6_feed_1 (by decide +kernel) ?_
  refine lv_sipush (v := nI 255) hx hb dX6_feed_2 (by decide +kernel) ?_
  refine ro_S (As := [.int (nI j), .int (nI 0), .int (nI 255)]) (rest := []) ⟨hx, hb, hml, hown, hts⟩ (c_X6_in l D cI cJ cZ j 0 255 (by omega) (by omega) (by omega)) (k_X6_79 hts ⟨Nat.le_of_ble_eq_true rfl, Nat.le_of_ble_eq_true rfl⟩) hK hP [] rfl rfl hl.1 rfl (Nat.le_of_ble_eq_true rfl) dX6_feed_5 ⟨Nat.le_of_ble_eq_true rfl, Nat.le_of_ble_eq_true rfl⟩ ?_
  refine b_if_ne (tgt := 14) hx hb dX6_feed_8 (by decide) (fun c1 => ?_) (fun c1 => ?_)
  ·
    refine lv_aload_n hx hb dX6_feed_14 rfl (lv_at hl 0 rfl) ?_
    refine va_get (D := D) (ci := 6) (v := .int (nI s)) (C := RX6) (T := TX6) (N := 20) hx hb hts inX6 hown hK hP 0 rfl rfl 7 (by decide) (hts _ mf_X6_53) (fun _ h9 => h9) rfl dX6_feed_15 ?_
    refine lv_bipush (v := nI 8) hx hb dX6_feed_18 (by decide +kernel) ?_
    refine n_ne (tgt := 26) hx hb dX6_feed_20 (by decide) (by omega) (by omega) (fun c2 => ?_) (fun c2 => ?_)
    ·
      refine lv_aload_n hx hb dX6_feed_26 rfl (lv_at hl 0 rfl) ?_
      refine va_get (D := D) (ci := 6) (v := .ref wd) (C := RX6) (T := TX6) (N := 20) hx hb hts inX6 hown hK hP 0 rfl rfl 6 (by decide) (hts _ mf_X6_23) (fun _ h9 => h9) rfl dX6_feed_27 ?_
      refine lv_aload_n hx hb dX6_feed_30 rfl (lv_at hl 0 rfl) ?_
      refine va_get (D := D) (ci := 6) (v := .int (nI s)) (C := RX6) (T := TX6) (N := 20) hx hb hts inX6 hown hK hP 0 rfl rfl 7 (by decide) (hts _ mf_X6_53) (fun _ h9 => h9) rfl dX6_feed_31 ?_
      refine lv_iload_n hx hb dX6_feed_34 rfl (lv_at hl 1 rfl) ?_
      refine n_iast hx hb hK hP hD hS 5 0 rfl rfl (k := s) (v := j) (by omega) (by decide) dX6_feed_35 (fun H locs hP hD hS => ?_)
      have hP : va_P D vwCl [(m0, .inr (6, [.ref nw, .ref ps, .int (nI u), .ref im, .ref mk, .int (nI sd), .ref wd, .int (nI s), .ref so, .int (nI q), .ref mb, .ref ma, .ref mf, .ref mw, .ref ml, .ref mu, .int (nI br), .ref wt, .int (nI ww), .ref ty])), (nw, .inl (cI, 241, .inl (nF NW))), (ps, .inl (cI, 4820, .inl (nF PS))), (im, .inl (cI, 484, .inl (nF IM))), (mk, .inl (cZ, 2, .inl (nF MK))), (wd, .inl (cI, 8, .inl (nF (up WD s j)))), (so, .inl (cI, 24, .inl (nF SO))), (mb, .inl (cI, 24, .inl (nF EB))), (ma, .inl (cI, 24, .inl (nF EA))), (mf, .inl (cI, 24, .inl (nF EF))), (mw, .inl (cI, 24, .inl (nF EW))), (ml, .inl (cI, 24, .inl (nF EL))), (mu, .inl (cI, 24, .inl (oF EU))), (wt, .inl (cI, 200, .inl (oF WT))), (ty, .inl (cI, 8, .inl (nF TY)))] H := hP
      have hD : va_D AA [(m0, .inr (6, [.ref nw, .ref ps, .int (nI u), .ref im, .ref mk, .int (nI sd), .ref wd, .int (nI s), .ref so, .int (nI q), .ref mb, .ref ma, .ref mf, .ref mw, .ref ml, .ref mu, .int (nI br), .ref wt, .int (nI ww), .ref ty])), (nw, .inl (cI, 241, .inl (nF NW))), (ps, .inl (cI, 4820, .inl (nF PS))), (im, .inl (cI, 484, .inl (nF IM))), (mk, .inl (cZ, 2, .inl (nF MK))), (wd, .inl (cI, 8, .inl (nF (up WD s j)))), (so, .inl (cI, 24, .inl (nF SO))), (mb, .inl (cI, 24, .inl (nF EB))), (ma, .inl (cI, 24, .inl (nF EA))), (mf, .inl (cI, 24, .inl (nF EF))), (mw, .inl (cI, 24, .inl (nF EW))), (ml, .inl (cI, 24, .inl (nF EL))), (mu, .inl (cI, 24, .inl (oF EU))), (wt, .inl (cI, 200, .inl (oF WT))), (ty, .inl (cI, 8, .inl (nF TY)))] := hD
      refine lv_aload_n hx hb dX6_feed_36 rfl (lv_at hl 0 rfl) ?_
      refine lv_dup hx hb dX6_feed_37 rfl ?_
      refine va_get (D := D) (ci := 6) (v := .int (nI s)) (C := RX6) (T := TX6) (N := 20) hx hb hts inX6 hown hK hP 0 rfl rfl 7 (by decide) (hts _ mf_X6_53) (fun _ h9 => h9) rfl dX6_feed_38 ?_
      refine lv_iconst (v := nI 1) hx hb dX6_feed_41 (by decide +kernel) ?_
      refine n_iadd hx hb dX6_feed_42 ?_
      refine va_put (D := D) (ci := 6) (v := .int (nI (s + 1))) (ty := .int) (C := RX6) (T := TX6) (N := 20) hx hb hts inX6 tyX6 tyX6_ok nmX6 hown hK hP hD hS 0 rfl rfl 7 (by decide) (hts _ mf_X6_53) (fun _ h9 => h9) rfl (by decide +kernel) rfl rfl (Nat.le_of_ble_eq_true rfl) dX6_feed_43 (fun H locs hP hD hS => ?_)
      have hP : va_P D vwCl [(m0, .inr (6, [.ref nw, .ref ps, .int (nI u), .ref im, .ref mk, .int (nI sd), .ref wd, .int (nI (s + 1)), .ref so, .int (nI q), .ref mb, .ref ma, .ref mf, .ref mw, .ref ml, .ref mu, .int (nI br), .ref wt, .int (nI ww), .ref ty])), (nw, .inl (cI, 241, .inl (nF NW))), (ps, .inl (cI, 4820, .inl (nF PS))), (im, .inl (cI, 484, .inl (nF IM))), (mk, .inl (cZ, 2, .inl (nF MK))), (wd, .inl (cI, 8, .inl (nF (up WD s j)))), (so, .inl (cI, 24, .inl (nF SO))), (mb, .inl (cI, 24, .inl (nF EB))), (ma, .inl (cI, 24, .inl (nF EA))), (mf, .inl (cI, 24, .inl (nF EF))), (mw, .inl (cI, 24, .inl (nF EW))), (ml, .inl (cI, 24, .inl (nF EL))), (mu, .inl (cI, 24, .inl (oF EU))), (wt, .inl (cI, 200, .inl (oF WT))), (ty, .inl (cI, 8, .inl (nF TY)))] H := hP
      have hD : va_D AA [(m0, .inr (6, [.ref nw, .ref ps, .int (nI u), .ref im, .ref mk, .int (nI sd), .ref wd, .int (nI (s + 1)), .ref so, .int (nI q), .ref mb, .ref ma, .ref mf, .ref mw, .ref ml, .ref mu, .int (nI br), .ref wt, .int (nI ww), .ref ty])), (nw, .inl (cI, 241, .inl (nF NW))), (ps, .inl (cI, 4820, .inl (nF PS))), (im, .inl (cI, 484, .inl (nF IM))), (mk, .inl (cZ, 2, .inl (nF MK))), (wd, .inl (cI, 8, .inl (nF (up WD s j)))), (so, .inl (cI, 24, .inl (nF SO))), (mb, .inl (cI, 24, .inl (nF EB))), (ma, .inl (cI, 24, .inl (nF EA))), (mf, .inl (cI, 24, .inl (nF EF))), (mw, .inl (cI, 24, .inl (nF EW))), (ml, .inl (cI, 24, .inl (nF EL))), (mu, .inl (cI, 24, .inl (oF EU))), (wt, .inl (cI, 200, .inl (oF WT))), (ty, .inl (cI, 8, .inl (nF TY)))] := hD
      refine lv_aload_n hx hb dX6_feed_46 rfl (lv_at hl 0 rfl) ?_
      refine va_get (D := D) (ci := 6) (v := .int (nI (s + 1))) (C := RX6) (T := TX6) (N := 20) hx hb hts inX6 hown hK hP 0 rfl rfl 7 (by decide) (hts _ mf_X6_53) (fun _ h9 => h9) rfl dX6_feed_47 ?_
      exact wr_iret hx hb hr hlk hP hD hS dX6_feed_50 (⟨rfl, SO, q, EB, EA, EF, EW, EL, EU, br, WT, ww, rfl⟩)
    ·
      exact absurd c2 (by omega)
  ·
    exact (c1 (by omega)).elim
set_option maxHeartbeats 4000000 in
set_option maxRecDepth 100000 in
theorem c_X6_wipe (l : Launch) (D : va_G) (cI cJ cZ : ClassId) (m0 nw ps im mk wd so mb ma mf mw ml mu wt ty : Nat) (NW : Nat → Nat) (PS : Nat → Nat) (u : Nat) (IM : Nat → Nat) (MK : Nat → Nat) (sd : Nat) (WD : Nat → Nat) (s : Nat) (SO : Nat → Nat) (q : Nat) (EB : Nat → Nat) (EA : Nat → Nat) (EF : Nat → Nat) (EW : Nat → Nat) (EL : Nat → Nat) (EU : Nat → Nat) (br : Nat) (WT : Nat → Nat) (ww : Nat) (TY : Nat → Nat) (KS KL KW : Nat → Nat) (n A : Nat) (hn : n ≤ 24) (hk : ∀ k, k < n → Wf (KS k) (KL k)) (hw0 : Wf s A) (hR : RN NW KS KL KW n) (hRW : RW WD s A) (hso : Srt KS KL n) (BB BD BM BL BF BA BK : Nat → Nat) (hTr : TrX (gapF KS KL) n BB BD BM BL BF BA BK) (hv : ∀ k, k < n → KW k ≤ 9999)  (sz : Nat) : WR l yX6_wipe cX6_wipe 2 (some .int) (rmN 0 0) D (ty3 cI cJ cZ) [.ref m0] [(m0, .inr (6, [.ref nw, .ref ps, .int (nI u), .ref im, .ref mk, .int (nI sd), .ref wd, .int (nI s), .ref so, .int (nI q), .ref mb, .ref ma, .ref mf, .ref mw, .ref ml, .ref mu, .int (nI br), .ref wt, .int (nI ww), .ref ty])), (nw, .inl (cI, 241, .inl (nF NW))), (ps, .inl (cI, 4820, .inl (nF PS))), (im, .inl (cI, 484, .inl (nF IM))), (mk, .inl (cZ, 2, .inl (nF MK))), (wd, .inl (cI, 8, .inl (nF WD))), (so, .inl (cI, 24, .inl (nF SO))), (mb, .inl (cI, 24, .inl (nF EB))), (ma, .inl (cI, 24, .inl (nF EA))), (mf, .inl (cI, 24, .inl (nF EF))), (mw, .inl (cI, 24, .inl (nF EW))), (ml, .inl (cI, 24, .inl (nF EL))), (mu, .inl (cI, 24, .inl (oF EU))), (wt, .inl (cI, 200, .inl (oF WT))), (ty, .inl (cI, 8, .inl (nF TY)))] sz (fun x w => x = some (.int (nI s)) ∧ ∃ (SO : Nat → Nat) (q : Nat) (EB EA EF EW EL EU : Nat → Nat) (br : Nat) (WT : Nat → Nat) (ww : Nat), w = [(m0, .inr (6, [.ref nw, .ref ps, .int (nI u), .ref im, .ref mk, .int (nI sd), .ref wd, .int (nI 0), .ref so, .int (nI q), .ref mb, .ref ma, .ref mf, .ref mw, .ref ml, .ref mu, .int (nI br), .ref wt, .int (nI ww), .ref ty])), (nw, .inl (cI, 241, .inl (nF NW))), (ps, .inl (cI, 4820, .inl (nF PS))), (im, .inl (cI, 484, .inl (nF IM))), (mk, .inl (cZ, 2, .inl (nF MK))), (wd, .inl (cI, 8, .inl (nF WD))), (so, .inl (cI, 24, .inl (nF SO))), (mb, .inl (cI, 24, .inl (nF EB))), (ma, .inl (cI, 24, .inl (nF EA))), (mf, .inl (cI, 24, .inl (nF EF))), (mw, .inl (cI, 24, .inl (nF EW))), (ml, .inl (cI, 24, .inl (nF EL))), (mu, .inl (cI, 24, .inl (oF EU))), (wt, .inl (cI, 200, .inl (oF WT))), (ty, .inl (cI, 8, .inl (nF TY)))]) := by
  have hs8 := hw0.1
  have hA64 := hw0.2.1
  have hN0 := hR.1
  have hBK := tf_BK hTr hn
  have hDK := tf_DK hTr hn
  have hp := plc_le KS KL n s A
  have hcb := cbl_le KS KL n s A
  have hfl := fnd_le KS KL n s A
  refine wr_start (by decide) (Nat.le_of_ble_eq_true rfl) ?_
  intro pp ee ss mm below meth cd AA C0 hAA hP hK hD hS hN hnm ls hl
  obtain ⟨hx, hb, hr, hml, hown, hts, hlk⟩ := C0
  have hown : ss.vm.findClass RX6 = some mm.cls := hown
  have hl : lv_has ls 2 [(0, .ref m0)] := hl
  have hP : va_P D vwCl [(m0, .inr (6, [.ref nw, .ref ps, .int (nI u), .ref im, .ref mk, .int (nI sd), .ref wd, .int (nI s), .ref so, .int (nI q), .ref mb, .ref ma, .ref mf, .ref mw, .ref ml, .ref mu, .int (nI br), .ref wt, .int (nI ww), .ref ty])), (nw, .inl (cI, 241, .inl (nF NW))), (ps, .inl (cI, 4820, .inl (nF PS))), (im, .inl (cI, 484, .inl (nF IM))), (mk, .inl (cZ, 2, .inl (nF MK))), (wd, .inl (cI, 8, .inl (nF WD))), (so, .inl (cI, 24, .inl (nF SO))), (mb, .inl (cI, 24, .inl (nF EB))), (ma, .inl (cI, 24, .inl (nF EA))), (mf, .inl (cI, 24, .inl (nF EF))), (mw, .inl (cI, 24, .inl (nF EW))), (ml, .inl (cI, 24, .inl (nF EL))), (mu, .inl (cI, 24, .inl (oF EU))), (wt, .inl (cI, 200, .inl (oF WT))), (ty, .inl (cI, 8, .inl (nF TY)))] ss.heap := hP
  refine lv_aload_n hx hb dX6_wipe_0 rfl (lv_at hl 0 rfl) ?_
  refine va_get (D := D) (ci := 6) (v := .int (nI s)) (C := RX6) (T := TX6) (N := 20) hx hb hts inX6 hown hK hP 0 rfl rfl 7 (by decide) (hts _ mf_X6_53) (fun _ h9 => h9) rfl dX6_wipe_1 ?_
  refine lv_istore_n (lv' := [(1, .int (nI s)), (0, .ref m0)]) hx hb dX6_wipe_4 rfl hl (by decide) rfl (fun ls hl => ?_)
  refine lv_aload_n hx hb dX6_wipe_5 rfl (lv_at hl 1 rfl) ?_
  refine lv_iconst (v := nI 0) hx hb dX6_wipe_6 (by decide +kernel) ?_
  refine va_put (D := D) (ci := 6) (v := .int (nI 0)) (ty := .int) (C := RX6) (T := TX6) (N := 20) hx hb hts inX6 tyX6 tyX6_ok nmX6 hown hK hP hD hS 0 rfl rfl 7 (by decide) (hts _ mf_X6_53) (fun _ h9 => h9) rfl (by decide +kernel) rfl rfl (Nat.le_of_ble_eq_true rfl) dX6_wipe_7 (fun H locs hP hD hS => ?_)
  have hP : va_P D vwCl [(m0, .inr (6, [.ref nw, .ref ps, .int (nI u), .ref im, .ref mk, .int (nI sd), .ref wd, .int (nI 0), .ref so, .int (nI q), .ref mb, .ref ma, .ref mf, .ref mw, .ref ml, .ref mu, .int (nI br), .ref wt, .int (nI ww), .ref ty])), (nw, .inl (cI, 241, .inl (nF NW))), (ps, .inl (cI, 4820, .inl (nF PS))), (im, .inl (cI, 484, .inl (nF IM))), (mk, .inl (cZ, 2, .inl (nF MK))), (wd, .inl (cI, 8, .inl (nF WD))), (so, .inl (cI, 24, .inl (nF SO))), (mb, .inl (cI, 24, .inl (nF EB))), (ma, .inl (cI, 24, .inl (nF EA))), (mf, .inl (cI, 24, .inl (nF EF))), (mw, .inl (cI, 24, .inl (nF EW))), (ml, .inl (cI, 24, .inl (nF EL))), (mu, .inl (cI, 24, .inl (oF EU))), (wt, .inl (cI, 200, .inl (oF WT))), (ty, .inl (cI, 8, .inl (nF TY)))] H := hP
  have hD : va_D AA [(m0, .inr (6, [.ref nw, .ref ps, .int (nI u), .ref im, .ref mk, .int (nI sd), .ref wd, .int (nI 0), .ref so, .int (nI q), .ref mb, .ref ma, .ref mf, .ref mw, .ref ml, .ref mu, .int (nI br), .ref wt, .int (nI ww), .ref ty])), (nw, .inl (cI, 241, .inl (nF NW))), (ps, .inl (cI, 4820, .inl (nF PS))), (im, .inl (cI, 484, .inl (nF IM))), (mk, .inl (cZ, 2, .inl (nF MK))), (wd, .inl (cI, 8, .inl (nF WD))), (so, .inl (cI, 24, .inl (nF SO))), (mb, .inl (cI, 24, .inl (nF EB))), (ma, .inl (cI, 24, .inl (nF EA))), (mf, .inl (cI, 24, .inl (nF EF))), (mw, .inl (cI, 24, .inl (nF EW))), (ml, .inl (cI, 24, .inl (nF EL))), (mu, .inl (cI, 24, .inl (oF EU))), (wt, .inl (cI, 200, .inl (oF WT))), (ty, .inl (cI, 8, .inl (nF TY)))] := hD
  refine lv_iload_n hx hb dX6_wipe_10 rfl (lv_at hl 0 rfl) ?_
  exact wr_iret hx hb hr hlk hP hD hS dX6_wipe_11 (⟨rfl, SO, q, EB, EA, EF, EW, EL, EU, br, WT, ww, rfl⟩)
set_option maxHeartbeats 4000000 in
set_option maxRecDepth 100000 in
theorem c_X6_type_neg (l : Launch) (D : va_G) (cI cJ cZ : ClassId) (m0 nw ps im mk wd so mb ma mf mw ml mu wt ty : Nat) (NW : Nat → Nat) (PS : Nat → Nat) (u : Nat) (IM : Nat → Nat) (MK : Nat → Nat) (sd : Nat) (WD : Nat → Nat) (s : Nat) (SO : Nat → Nat) (q : Nat) (EB : Nat → Nat) (EA : Nat → Nat) (EF : Nat → Nat) (EW : Nat → Nat) (EL : Nat → Nat) (EU : Nat → Nat) (br : Nat) (WT : Nat → Nat) (ww : Nat) (TY : Nat → Nat) (KS KL KW : Nat → Nat) (n A : Nat) (hn : n ≤ 24) (hk : ∀ k, k < n → Wf (KS k) (KL k)) (hw0 : Wf s A) (hR : RN NW KS KL KW n) (hRW : RW WD s A) (hso : Srt KS KL n) (BB BD BM BL BF BA BK : Nat → Nat) (hTr : TrX (gapF KS KL) n BB BD BM BL BF BA BK) (hv : ∀ k, k < n → KW k ≤ 9999) (x : Int32) (hx0 : x < 0) (sz : Nat) : WR l yX6_type cX6_type 2 (some .int) (rmN 2 43) D (ty3 cI cJ cZ) [.ref m0, .int x] [(m0, .inr (6, [.ref nw, .ref ps, .int (nI u), .ref im, .ref mk, .int (nI sd), .ref wd, .int (nI s), .ref so, .int (nI q), .ref mb, .ref ma, .ref mf, .ref mw, .ref ml, .ref mu, .int (nI br), .ref wt, .int (nI ww), .ref ty])), (nw, .inl (cI, 241, .inl (nF NW))), (ps, .inl (cI, 4820, .inl (nF PS))), (im, .inl (cI, 484, .inl (nF IM))), (mk, .inl (cZ, 2, .inl (nF MK))), (wd, .inl (cI, 8, .inl (nF WD))), (so, .inl (cI, 24, .inl (nF SO))), (mb, .inl (cI, 24, .inl (nF EB))), (ma, .inl (cI, 24, .inl (nF EA))), (mf, .inl (cI, 24, .inl (nF EF))), (mw, .inl (cI, 24, .inl (nF EW))), (ml, .inl (cI, 24, .inl (nF EL))), (mu, .inl (cI, 24, .inl (oF EU))), (wt, .inl (cI, 200, .inl (oF WT))), (ty, .inl (cI, 8, .inl (nF TY)))] sz (fun x w => x = some (.int (-1000000001)) ∧ ∃ (SO : Nat → Nat) (q : Nat) (EB EA EF EW EL EU : Nat → Nat) (br : Nat) (WT : Nat → Nat) (ww : Nat), w = [(m0, .inr (6, [.ref nw, .ref ps, .int (nI u), .ref im, .ref mk, .int (nI sd), .ref wd, .int (nI s), .ref so, .int (nI q), .ref mb, .ref ma, .ref mf, .ref mw, .ref ml, .ref mu, .int (nI br), .ref wt, .int (nI ww), .ref ty])), (nw, .inl (cI, 241, .inl (nF NW))), (ps, .inl (cI, 4820, .inl (nF PS))), (im, .inl (cI, 484, .inl (nF IM))), (mk, .inl (cZ, 2, .inl (nF MK))), (wd, .inl (cI, 8, .inl (nF WD))), (so, .inl (cI, 24, .inl (nF SO))), (mb, .inl (cI, 24, .inl (nF EB))), (ma, .inl (cI, 24, .inl (nF EA))), (mf, .inl (cI, 24, .inl (nF EF))), (mw, .inl (cI, 24, .inl (nF EW))), (ml, .inl (cI, 24, .inl (nF EL))), (mu, .inl (cI, 24, .inl (oF EU))), (wt, .inl (cI, 200, .inl (oF WT))), (ty, .inl (cI, 8, .inl (nF TY)))]) := by
  have hs8 := hw0.1
  have hA64 := hw0.2.1
  have hN0 := hR.1
  have hBK := tf_BK hTr hn
  have hDK := tf_DK hTr hn
  have hp := plc_le KS KL n s A
  have hcb := cbl_le KS KL n s A
  have hfl := fnd_le KS KL n s A
  refine wr_start (by decide) (Nat.le_of_ble_eq_true rfl) ?_
  intro pp ee ss mm below meth cd AA C0 hAA hP hK hD hS hN hnm ls hl
  obtain ⟨hx, hb, hr, hml, hown, hts, hlk⟩ := C0
  have hown : ss.vm.findClass RX6 = some mm.cls := hown
  have hl : lv_has ls 2 [(0, .ref m0), (1, .int x)] := hl
  have hP : va_P D vwCl [(m0, .inr (6, [.ref nw, .ref ps, .int (nI u), .ref im, .ref mk, .int (nI sd), .ref wd, .int (nI s), .ref so, .int (nI q), .ref mb, .ref ma, .ref mf, .ref mw, .ref ml, .ref mu, .int (nI br), .ref wt, .int (nI ww), .ref ty])), (nw, .inl (cI, 241, .inl (nF NW))), (ps, .inl (cI, 4820, .inl (nF PS))), (im, .inl (cI, 484, .inl (nF IM))), (mk, .inl (cZ, 2, .inl (nF MK))), (wd, .inl (cI, 8, .inl (nF WD))), (so, .inl (cI, 24, .inl (nF SO))), (mb, .inl (cI, 24, .inl (nF EB))), (ma, .inl (cI, 24, .inl (nF EA))), (mf, .inl (cI, 24, .inl (nF EF))), (mw, .inl (cI, 24, .inl (nF EW))), (ml, .inl (cI, 24, .inl (nF EL))), (mu, .inl (cI, 24, .inl (oF EU))), (wt, .inl (cI, 200, .inl (oF WT))), (ty, .inl (cI, 8, .inl (nF TY)))] ss.heap := hP
  refine lv_aload_n hx hb dX6_type_0 rfl (lv_at hl 0 rfl) ?_
  refine lv_iload_n hx hb dX6_type_1 rfl (lv_at hl 1 rfl) ?_
  refine ro_V (As := [.int x]) (rest := []) ⟨hx, hb, hml, hown, hts⟩ (c_X6_isKey_neg l D cI cJ cZ m0 nw ps im mk wd so mb ma mf mw ml mu wt ty NW PS u IM MK sd WD s SO q EB EA EF EW EL EU br WT ww TY KS KL KW n A hn hk hw0 hR hRW x hx0) (k_X6_85 hts ⟨Nat.le_of_ble_eq_true rfl, Nat.le_of_ble_eq_true rfl⟩) hK hP 0 rfl rfl rfl [0, 1, 2, 3, 4, 5, 6, 7, 8, 9, 10, 11, 12, 13, 14] rfl rfl hl.1 rfl (Nat.le_of_ble_eq_true rfl) dX6_type_2 ⟨Nat.le_of_ble_eq_true rfl, Nat.le_of_ble_eq_true rfl⟩ ?_
  refine n_if_ne (tgt := 11) hx hb dX6_type_5 (by decide) (by decide) (fun h9 => absurd rfl h9) (fun _ => ?_)
  refine lv_ldc hx hb hown (hts _ mk_X6_89) dX6_type_8 ?_
  exact wr_iret hx hb hr hlk hP hD hS dX6_type_10 (⟨rfl, SO, q, EB, EA, EF, EW, EL, EU, br, WT, ww, rfl⟩)
set_option maxHeartbeats 4000000 in
set_option maxRecDepth 100000 in
theorem c_X6_type_out (l : Launch) (D : va_G) (cI cJ cZ : ClassId) (m0 nw ps im mk wd so mb ma mf mw ml mu wt ty : Nat) (NW : Nat → Nat) (PS : Nat → Nat) (u : Nat) (IM : Nat → Nat) (MK : Nat → Nat) (sd : Nat) (WD : Nat → Nat) (s : Nat) (SO : Nat → Nat) (q : Nat) (EB : Nat → Nat) (EA : Nat → Nat) (EF : Nat → Nat) (EW : Nat → Nat) (EL : Nat → Nat) (EU : Nat → Nat) (br : Nat) (WT : Nat → Nat) (ww : Nat) (TY : Nat → Nat) (KS KL KW : Nat → Nat) (n A : Nat) (hn : n ≤ 24) (hk : ∀ k, k < n → Wf (KS k) (KL k)) (hw0 : Wf s A) (hR : RN NW KS KL KW n) (hRW : RW WD s A) (hso : Srt KS KL n) (BB BD BM BL BF BA BK : Nat → Nat) (hTr : TrX (gapF KS KL) n BB BD BM BL BF BA BK) (hv : ∀ k, k < n → KW k ≤ 9999) (j : Nat) (hj : j < 2 ^ 31) (hjo : n ≤ j) (sz : Nat) : WR l yX6_type cX6_type 2 (some .int) (rmN 2 43) D (ty3 cI cJ cZ) [.ref m0, .int (nI j)] [(m0, .inr (6, [.ref nw, .ref ps, .int (nI u), .ref im, .ref mk, .int (nI sd), .ref wd, .int (nI s), .ref so, .int (nI q), .ref mb, .ref ma, .ref mf, .ref mw, .ref ml, .ref mu, .int (nI br), .ref wt, .int (nI ww), .ref ty])), (nw, .inl (cI, 241, .inl (nF NW))), (ps, .inl (cI, 4820, .inl (nF PS))), (im, .inl (cI, 484, .inl (nF IM))), (mk, .inl (cZ, 2, .inl (nF MK))), (wd, .inl (cI, 8, .inl (nF WD))), (so, .inl (cI, 24, .inl (nF SO))), (mb, .inl (cI, 24, .inl (nF EB))), (ma, .inl (cI, 24, .inl (nF EA))), (mf, .inl (cI, 24, .inl (nF EF))), (mw, .inl (cI, 24, .inl (nF EW))), (ml, .inl (cI, 24, .inl (nF EL))), (mu, .inl (cI, 24, .inl (oF EU))), (wt, .inl (cI, 200, .inl (oF WT))), (ty, .inl (cI, 8, .inl (nF TY)))] sz (fun x w => x = some (.int (-1000000001)) ∧ ∃ (SO : Nat → Nat) (q : Nat) (EB EA EF EW EL EU : Nat → Nat) (br : Nat) (WT : Nat → Nat) (ww : Nat), w = [(m0, .inr (6, [.ref nw, .ref ps, .int (nI u), .ref im, .ref mk, .int (nI sd), .ref wd, .int (nI s), .ref so, .int (nI q), .ref mb, .ref ma, .ref mf, .ref mw, .ref ml, .ref mu, .int (nI br), .ref wt, .int (nI ww), .ref ty])), (nw, .inl (cI, 241, .inl (nF NW))), (ps, .inl (cI, 4820, .inl (nF PS))), (im, .inl (cI, 484, .inl (nF IM))), (mk, .inl (cZ, 2, .inl (nF MK))), (wd, .inl (cI, 8, .inl (nF WD))), (so, .inl (cI, 24, .inl (nF SO))), (mb, .inl (cI, 24, .inl (nF EB))), (ma, .inl (cI, 24, .inl (nF EA))), (mf, .inl (cI, 24, .inl (nF EF))), (mw, .inl (cI, 24, .inl (nF EW))), (ml, .inl (cI, 24, .inl (nF EL))), (mu, .inl (cI, 24, .inl (oF EU))), (wt, .inl (cI, 200, .inl (oF WT))), (ty, .inl (cI, 8, .inl (nF TY)))]) := by
  have hs8 := hw0.1
  have hA64 := hw0.2.1
  have hN0 := hR.1
  have hBK := tf_BK hTr hn
  have hDK := tf_DK hTr hn
  have hp := plc_le KS KL n s A
  have hcb := cbl_le KS KL n s A
  have hfl := fnd_le KS KL n s A
  refine wr_start (by decide) (Nat.le_of_ble_eq_true rfl) ?_
  intro pp ee ss mm below meth cd AA C0 hAA hP hK hD hS hN hnm ls hl
  obtain ⟨hx, hb, hr, hml, hown, hts, hlk⟩ := C0
  have hown : ss.vm.findClass RX6 = some mm.cls := hown
  have hl : lv_has ls 2 [(0, .ref m0), (1, .int (nI j))] := hl
  have hP : va_P D vwCl [(m0, .inr (6, [.ref nw, .ref ps, .int (nI u), .ref im, .ref mk, .int (nI sd), .ref wd, .int (nI s), .ref so, .int (nI q), .ref mb, .ref ma, .ref mf, .ref mw, .ref ml, .ref mu, .int (nI br), .ref wt, .int (nI ww), .ref ty])), (nw, .inl (cI, 241, .inl (nF NW))), (ps, .inl (cI, 4820, .inl (nF PS))), (im, .inl (cI, 484, .inl (nF IM))), (mk, .inl (cZ, 2, .inl (nF MK))), (wd, .inl (cI, 8, .inl (nF WD))), (so, .inl (cI, 24, .inl (nF SO))), (mb, .inl (cI, 24, .inl (nF EB))), (ma, .inl (cI, 24, .inl (nF EA))), (mf, .inl (cI, 24, .inl (nF EF))), (mw, .inl (cI, 24, .inl (nF EW))), (ml, .inl (cI, 24, .inl (nF EL))), (mu, .inl (cI, 24, .inl (oF EU))), (wt, .inl (cI, 200, .inl (oF WT))), (ty, .inl (cI, 8, .inl (nF TY)))] ss.heap := hP
  refine lv_aload_n hx hb dX6_type_0 rfl (lv_at hl 0 rfl) ?_
  refine lv_iload_n hx hb dX6_type_1 rfl (lv_at hl 1 rfl) ?_
  refine ro_V (As := [.int (nI j)]) (rest := []) ⟨hx, hb, hml, hown, hts⟩ (c_X6_isKey l D cI cJ cZ m0 nw ps im mk wd so mb ma mf mw ml mu wt ty NW PS u IM MK sd WD s SO q EB EA EF EW EL EU br WT ww TY KS KL KW n A hn hk hw0 hR hRW j (by omega)) (k_X6_85 hts ⟨Nat.le_of_ble_eq_true rfl, Nat.le_of_ble_eq_true rfl⟩) hK hP 0 rfl rfl rfl [0, 1, 2, 3, 4, 5, 6, 7, 8, 9, 10, 11, 12, 13, 14] rfl rfl hl.1 rfl (Nat.le_of_ble_eq_true rfl) dX6_type_2 ⟨Nat.le_of_ble_eq_true rfl, Nat.le_of_ble_eq_true rfl⟩ ?_
  refine b_if_ne (tgt := 11) hx hb dX6_type_5 (by decide) (fun c1 => ?_) (fun c1 => ?_)
  ·
    exact absurd c1 (by omega)
  ·
    refine lv_ldc hx hb hown (hts _ mk_X6_89) dX6_type_8 ?_
    exact wr_iret hx hb hr hlk hP hD hS dX6_type_10 (⟨rfl, SO, q, EB, EA, EF, EW, EL, EU, br, WT, ww, rfl⟩)
set_option maxHeartbeats 4000000 in
set_option maxRecDepth 100000 in
theorem c_X6_type_ok (l : Launch) (D : va_G) (cI cJ cZ : ClassId) (m0 nw ps im mk wd so mb ma mf mw ml mu wt ty : Nat) (NW : Nat → Nat) (PS : Nat → Nat) (u : Nat) (IM : Nat → Nat) (MK : Nat → Nat) (sd : Nat) (WD : Nat → Nat) (s : Nat) (SO : Nat → Nat) (q : Nat) (EB : Nat → Nat) (EA : Nat → Nat) (EF : Nat → Nat) (EW : Nat → Nat) (EL : Nat → Nat) (EU : Nat → Nat) (br : Nat) (WT : Nat → Nat) (ww : Nat) (TY : Nat → Nat) (KS KL KW : Nat → Nat) (n A : Nat) (hn : n ≤ 24) (hk : ∀ k, k < n → Wf (KS k) (KL k)) (hw0 : Wf s A) (hR : RN NW KS KL KW n) (hRW : RW WD s A) (hso : Srt KS KL n) (BB BD BM BL BF BA BK : Nat → Nat) (hTr : TrX (gapF KS KL) n BB BD BM BL BF BA BK) (hv : ∀ k, k < n → KW k ≤ 9999) (j : Nat) (hj : j < n) (sz : Nat) : WR l yX6_type cX6_type 2 (some .int) (rmN 2 43) D (ty3 cI cJ cZ) [.ref m0, .int (nI j)] [(m0, .inr (6, [.ref nw, .ref ps, .int (nI u), .ref im, .ref mk, .int (nI sd), .ref wd, .int (nI s), .ref so, .int (nI q), .ref mb, .ref ma, .ref mf, .ref mw, .ref ml, .ref mu, .int (nI br), .ref wt, .int (nI ww), .ref ty])), (nw, .inl (cI, 241, .inl (nF NW))), (ps, .inl (cI, 4820, .inl (nF PS))), (im, .inl (cI, 484, .inl (nF IM))), (mk, .inl (cZ, 2, .inl (nF MK))), (wd, .inl (cI, 8, .inl (nF WD))), (so, .inl (cI, 24, .inl (nF SO))), (mb, .inl (cI, 24, .inl (nF EB))), (ma, .inl (cI, 24, .inl (nF EA))), (mf, .inl (cI, 24, .inl (nF EF))), (mw, .inl (cI, 24, .inl (nF EW))), (ml, .inl (cI, 24, .inl (nF EL))), (mu, .inl (cI, 24, .inl (oF EU))), (wt, .inl (cI, 200, .inl (oF WT))), (ty, .inl (cI, 8, .inl (nF TY)))] sz (fun x w => x = some (.int (nI (KS j))) ∧ ∃ (SO : Nat → Nat) (q : Nat) (EB EA EF EW EL EU : Nat → Nat) (br : Nat) (WT : Nat → Nat) (ww : Nat), w = [(m0, .inr (6, [.ref nw, .ref ps, .int (nI u), .ref im, .ref mk, .int (nI sd), .ref wd, .int (nI (KS j)), .ref so, .int (nI q), .ref mb, .ref ma, .ref mf, .ref mw, .ref ml, .ref mu, .int (nI br), .ref wt, .int (nI ww), .ref ty])), (nw, .inl (cI, 241, .inl (nF NW))), (ps, .inl (cI, 4820, .inl (nF PS))), (im, .inl (cI, 484, .inl (nF IM))), (mk, .inl (cZ, 2, .inl (nF MK))), (wd, .inl (cI, 8, .inl (nF (va_cpy NW WD (49 + (8 * j)) 0 8)))), (so, .inl (cI, 24, .inl (nF SO))), (mb, .inl (cI, 24, .inl (nF EB))), (ma, .inl (cI, 24, .inl (nF EA))), (mf, .inl (cI, 24, .inl (nF EF))), (mw, .inl (cI, 24, .inl (nF EW))), (ml, .inl (cI, 24, .inl (nF EL))), (mu, .inl (cI, 24, .inl (oF EU))), (wt, .inl (cI, 200, .inl (oF WT))), (ty, .inl (cI, 8, .inl (nF TY)))]) := by
  have hs8 := hw0.1
  have hA64 := hw0.2.1
  have hN0 := hR.1
  have hBK := tf_BK hTr hn
  have hDK := tf_DK hTr hn
  have hp := plc_le KS KL n s A
  have hcb := cbl_le KS KL n s A
  have hfl := fnd_le KS KL n s A
  refine wr_start (by decide) (Nat.le_of_ble_eq_true rfl) ?_
  intro pp ee ss mm below meth cd AA C0 hAA hP hK hD hS hN hnm ls hl
  obtain ⟨hx, hb, hr, hml, hown, hts, hlk⟩ := C0
  have hown : ss.vm.findClass RX6 = some mm.cls := hown
  have hl : lv_has ls 2 [(0, .ref m0), (1, .int (nI j))] := hl
  have hP : va_P D vwCl [(m0, .inr (6, [.ref nw, .ref ps, .int (nI u), .ref im, .ref mk, .int (nI sd), .ref wd, .int (nI s), .ref so, .int (nI q), .ref mb, .ref ma, .ref mf, .ref mw, .ref ml, .ref mu, .int (nI br), .ref wt, .int (nI ww), .ref ty])), (nw, .inl (cI, 241, .inl (nF NW))), (ps, .inl (cI, 4820, .inl (nF PS))), (im, .inl (cI, 484, .inl (nF IM))), (mk, .inl (cZ, 2, .inl (nF MK))), (wd, .inl (cI, 8, .inl (nF WD))), (so, .inl (cI, 24, .inl (nF SO))), (mb, .inl (cI, 24, .inl (nF EB))), (ma, .inl (cI, 24, .inl (nF EA))), (mf, .inl (cI, 24, .inl (nF EF))), (mw, .inl (cI, 24, .inl (nF EW))), (ml, .inl (cI, 24, .inl (nF EL))), (mu, .inl (cI, 24, .inl (oF EU))), (wt, .inl (cI, 200, .inl (oF WT))), (ty, .inl (cI, 8, .inl (nF TY)))] ss.heap := hP
  refine lv_aload_n hx hb dX6_type_0 rfl (lv_at hl 0 rfl) ?_
  refine lv_iload_n hx hb dX6_type_1 rfl (lv_at hl 1 rfl) ?_
  refine ro_V (As := [.int (nI j)]) (rest := []) ⟨hx, hb, hml, hown, hts⟩ (c_X6_isKey l D cI cJ cZ m0 nw ps im mk wd so mb ma mf mw ml mu wt ty NW PS u IM MK sd WD s SO q EB EA EF EW EL EU br WT ww TY KS KL KW n A hn hk hw0 hR hRW j (by omega)) (k_X6_85 hts ⟨Nat.le_of_ble_eq_true rfl, Nat.le_of_ble_eq_true rfl⟩) hK hP 0 rfl rfl rfl [0, 1, 2, 3, 4, 5, 6, 7, 8, 9, 10, 11, 12, 13, 14] rfl rfl hl.1 rfl (Nat.le_of_ble_eq_true rfl) dX6_type_2 ⟨Nat.le_of_ble_eq_true rfl, Nat.le_of_ble_eq_true rfl⟩ ?_
  refine b_if_ne (tgt := 11) hx hb dX6_type_5 (by decide) (fun c1 => ?_) (fun c1 => ?_)
  ·
    refine lv_aload_n hx hb dX6_type_11 rfl (lv_at hl 0 rfl) ?_
    refine va_get (D := D) (ci := 6) (v := .ref nw) (C := RX6) (T := TX6) (N := 20) hx hb hts inX6 hown hK hP 0 rfl rfl 0 (by decide) (hts _ mf_X6_7) (fun _ h9 => h9) rfl dX6_type_12 ?_
    refine lv_bipush (v := nI 49) hx hb dX6_type_15 (by decide +kernel) ?_
    refine lv_bipush (v := nI 8) hx hb dX6_type_17 (by decide +kernel) ?_
    refine lv_iload_n hx hb dX6_type_19 rfl (lv_at hl 1 rfl) ?_
    refine n_imul hx hb dX6_type_20 ?_
    refine n_iadd hx hb dX6_type_21 ?_
    refine lv_aload_n hx hb dX6_type_22 rfl (lv_at hl 0 rfl) ?_
    refine va_get (D := D) (ci := 6) (v := .ref wd) (C := RX6) (T := TX6) (N := 20) hx hb hts inX6 hown hK hP 0 rfl rfl 6 (by decide) (hts _ mf_X6_23) (fun _ h9 => h9) rfl dX6_type_23 ?_
    refine lv_iconst (v := nI 0) hx hb dX6_type_26 (by decide +kernel) ?_
    refine lv_bipush (v := nI 8) hx hb dX6_type_27 (by decide +kernel) ?_
    refine wr_S (As := [.ref nw, .int (nI (49 + (8 * j))), .ref wd, .int (nI 0), .int (nI 8)]) (rest := []) (wc := [(nw, .inl (cI, 241, .inl (nF NW))), (wd, .inl (cI, 8, .inl (nF WD)))]) (wr := [(m0, .inr (6, [.ref nw, .ref ps, .int (nI u), .ref im, .ref mk, .int (nI sd), .ref wd, .int (nI s), .ref so, .int (nI q), .ref mb, .ref ma, .ref mf, .ref mw, .ref ml, .ref mu, .int (nI br), .ref wt, .int (nI ww), .ref ty])), (ps, .inl (cI, 4820, .inl (nF PS))), (im, .inl (cI, 484, .inl (nF IM))), (mk, .inl (cZ, 2, .inl (nF MK))), (so, .inl (cI, 24, .inl (nF SO))), (mb, .inl (cI, 24, .inl (nF EB))), (ma, .inl (cI, 24, .inl (nF EA))), (mf, .inl (cI, 24, .inl (nF EF))), (mw, .inl (cI, 24, .inl (nF EW))), (ml, .inl (cI, 24, .inl (nF EL))), (mu, .inl (cI, 24, .inl (oF EU))), (wt, .inl (cI, 200, .inl (oF WT))), (ty, .inl (cI, 8, .inl (nF TY)))]) ⟨hx, hb, hml, hown, hts⟩ (c_X6_copies l D cI cJ cZ nw wd 241 8 (49 + (8 * j)) 0 8 NW WD (by decide) (by decide) (by omega) (by omega) _) (k_X6_90 hts ⟨Nat.le_of_ble_eq_true rfl, Nat.le_of_ble_eq_true rfl⟩) hK hN hP hD hS hAA [1, 5] [0, 2, 3, 4, 6, 7, 8, 9, 10, 11, 12, 13, 14] rfl rfl (by decide) (by decide) (by decide) rfl hl.1 rfl (Nat.le_of_ble_eq_true rfl) dX6_type_29 ⟨Nat.le_of_ble_eq_true rfl, Nat.le_of_ble_eq_true rfl⟩ (fun v3 w4 H locs hp2 hP hD hS => ?_)
    obtain ⟨rfl, rfl⟩ := hp2
    have hP : va_P D vwCl [(m0, .inr (6, [.ref nw, .ref ps, .int (nI u), .ref im, .ref mk, .int (nI sd), .ref wd, .int (nI s), .ref so, .int (nI q), .ref mb, .ref ma, .ref mf, .ref mw, .ref ml, .ref mu, .int (nI br), .ref wt, .int (nI ww), .ref ty])), (nw, .inl (cI, 241, .inl (nF NW))), (ps, .inl (cI, 4820, .inl (nF PS))), (im, .inl (cI, 484, .inl (nF IM))), (mk, .inl (cZ, 2, .inl (nF MK))), (wd, .inl (cI, 8, .inl (nF (va_cpy NW WD (49 + (8 * j)) 0 8)))), (so, .inl (cI, 24, .inl (nF SO))), (mb, .inl (cI, 24, .inl (nF EB))), (ma, .inl (cI, 24, .inl (nF EA))), (mf, .inl (cI, 24, .inl (nF EF))), (mw, .inl (cI, 24, .inl (nF EW))), (ml, .inl (cI, 24, .inl (nF EL))), (mu, .inl (cI, 24, .inl (oF EU))), (wt, .inl (cI, 200, .inl (oF WT))), (ty, .inl (cI, 8, .inl (nF TY)))] H := hP.sub [0, 13, 1, 2, 3, 14, 4, 5, 6, 7, 8, 9, 10, 11, 12] rfl
    have hD : va_D AA [(m0, .inr (6, [.ref nw, .ref ps, .int (nI u), .ref im, .ref mk, .int (nI sd), .ref wd, .int (nI s), .ref so, .int (nI q), .ref mb, .ref ma, .ref mf, .ref mw, .ref ml, .ref mu, .int (nI br), .ref wt, .int (nI ww), .ref ty])), (nw, .inl (cI, 241, .inl (nF NW))), (ps, .inl (cI, 4820, .inl (nF PS))), (im, .inl (cI, 484, .inl (nF IM))), (mk, .inl (cZ, 2, .inl (nF MK))), (wd, .inl (cI, 8, .inl (nF (va_cpy NW WD (49 + (8 * j)) 0 8)))), (so, .inl (cI, 24, .inl (nF SO))), (mb, .inl (cI, 24, .inl (nF EB))), (ma, .inl (cI, 24, .inl (nF EA))), (mf, .inl (cI, 24, .inl (nF EF))), (mw, .inl (cI, 24, .inl (nF EW))), (ml, .inl (cI, 24, .inl (nF EL))), (mu, .inl (cI, 24, .inl (oF EU))), (wt, .inl (cI, 200, .inl (oF WT))), (ty, .inl (cI, 8, .inl (nF TY)))] := hD.sub [0, 13, 1, 2, 3, 14, 4, 5, 6, 7, 8, 9, 10, 11, 12] (by decide) rfl
    refine lv_aload_n hx hb dX6_type_32 rfl (lv_at hl 0 rfl) ?_
    refine lv_aload_n hx hb dX6_type_33 rfl (lv_at hl 0 rfl) ?_
    refine va_get (D := D) (ci := 6) (v := .ref nw) (C := RX6) (T := TX6) (N := 20) hx hb hts inX6 hown hK hP 0 rfl rfl 0 (by decide) (hts _ mf_X6_7) (fun _ h9 => h9) rfl dX6_type_34 ?_
    refine lv_iconst (v := nI 1) hx hb dX6_type_37 (by decide +kernel) ?_
    refine lv_iload_n hx hb dX6_type_38 rfl (lv_at hl 1 rfl) ?_
    refine n_iadd hx hb dX6_type_39 ?_
    refine n_iald hx hb hK hP 1 0 rfl rfl (k := (1 + j)) (by omega) (by decide) dX6_type_40 ?_
    refine tq (y := nI (KS j)) (congrArg nI ((hR.2 j hj).1)) ?_
    refine va_put (D := D) (ci := 6) (v := .int (nI (KS j))) (ty := .int) (C := RX6) (T := TX6) (N := 20) hx hb hts inX6 tyX6 tyX6_ok nmX6 hown hK hP hD hS 0 rfl rfl 7 (by decide) (hts _ mf_X6_53) (fun _ h9 => h9) rfl (by decide +kernel) rfl rfl (Nat.le_of_ble_eq_true rfl) dX6_type_41 (fun H locs hP hD hS => ?_)
    have hP : va_P D vwCl [(m0, .inr (6, [.ref nw, .ref ps, .int (nI u), .ref im, .ref mk, .int (nI sd), .ref wd, .int (nI (KS j)), .ref so, .int (nI q), .ref mb, .ref ma, .ref mf, .ref mw, .ref ml, .ref mu, .int (nI br), .ref wt, .int (nI ww), .ref ty])), (nw, .inl (cI, 241, .inl (nF NW))), (ps, .inl (cI, 4820, .inl (nF PS))), (im, .inl (cI, 484, .inl (nF IM))), (mk, .inl (cZ, 2, .inl (nF MK))), (wd, .inl (cI, 8, .inl (nF (va_cpy NW WD (49 + (8 * j)) 0 8)))), (so, .inl (cI, 24, .inl (nF SO))), (mb, .inl (cI, 24, .inl (nF EB))), (ma, .inl (cI, 24, .inl (nF EA))), (mf, .inl (cI, 24, .inl (nF EF))), (mw, .inl (cI, 24, .inl (nF EW))), (ml, .inl (cI, 24, .inl (nF EL))), (mu, .inl (cI, 24, .inl (oF EU))), (wt, .inl (cI, 200, .inl (oF WT))), (ty, .inl (cI, 8, .inl (nF TY)))] H := hP
    have hD : va_D AA [(m0, .inr (6, [.ref nw, .ref ps, .int (nI u), .ref im, .ref mk, .int (nI sd), .ref wd, .int (nI (KS j)), .ref so, .int (nI q), .ref mb, .ref ma, .ref mf, .ref mw, .ref ml, .ref mu, .int (nI br), .ref wt, .int (nI ww), .ref ty])), (nw, .inl (cI, 241, .inl (nF NW))), (ps, .inl (cI, 4820, .inl (nF PS))), (im, .inl (cI, 484, .inl (nF IM))), (mk, .inl (cZ, 2, .inl (nF MK))), (wd, .inl (cI, 8, .inl (nF (va_cpy NW WD (49 + (8 * j)) 0 8)))), (so, .inl (cI, 24, .inl (nF SO))), (mb, .inl (cI, 24, .inl (nF EB))), (ma, .inl (cI, 24, .inl (nF EA))), (mf, .inl (cI, 24, .inl (nF EF))), (mw, .inl (cI, 24, .inl (nF EW))), (ml, .inl (cI, 24, .inl (nF EL))), (mu, .inl (cI, 24, .inl (oF EU))), (wt, .inl (cI, 200, .inl (oF WT))), (ty, .inl (cI, 8, .inl (nF TY)))] := hD
    refine lv_aload_n hx hb dX6_type_44 rfl (lv_at hl 0 rfl) ?_
    refine va_get (D := D) (ci := 6) (v := .int (nI (KS j))) (C := RX6) (T := TX6) (N := 20) hx hb hts inX6 hown hK hP 0 rfl rfl 7 (by decide) (hts _ mf_X6_53) (fun _ h9 => h9) rfl dX6_type_45 ?_
    exact wr_iret hx hb hr hlk hP hD hS dX6_type_48 (⟨rfl, SO, q, EB, EA, EF, EW, EL, EU, br, WT, ww, rfl⟩)
  ·
    exact (c1 (by omega)).elim
