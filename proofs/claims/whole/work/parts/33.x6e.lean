/-! ===== keys that are in order stay so; the ring and the row of what was ===== -/
def KOK (KS KL KW : Nat → Nat) (n : Nat) : Prop := n ≤ 24 ∧ (∀ k, k < n → Wf (KS k) (KL k)) ∧ (∀ k, k < n → KW k ≤ 9999) ∧ Srt KS KL n
theorem kok_congr {KS KL KW KS' KL' KW' : Nat → Nat} {n : Nat} (h : KOK KS KL KW n) (h1 : ∀ k, k < n → KS k = KS' k ∧ KL k = KL' k ∧ KW k = KW' k) : KOK KS' KL' KW' n := by
  refine ⟨h.1, fun k hk => ?_, fun k hk => ?_, srt_congr (fun k hk => (h1 k hk).1) (fun k hk => (h1 k hk).2.1) h.2.2.2⟩
  · rw [← (h1 k hk).1, ← (h1 k hk).2.1]; exact h.2.1 k hk
  · rw [← (h1 k hk).2.2]; exact h.2.2.1 k hk
theorem kok_ins {KS KL KW : Nat → Nat} {n s A v : Nat} (h : KOK KS KL KW n) (hw : Wf s A) (ha : ¬ (plc KS KL n s A < n ∧ unl (KS (plc KS KL n s A)) (KL (plc KS KL n s A)) s A = 72)) (hn : n < 24) (hv : v ≤ 9999) : KOK (insF (plc KS KL n s A) s n KS) (insF (plc KS KL n s A) A n KL) (insF (plc KS KL n s A) v n KW) (n + 1) := by
  obtain ⟨-, h2, h3, h4⟩ := h
  have hp := plc_le KS KL n s A
  have i1 : ∀ (S : Nat → Nat) (x k : Nat), k < plc KS KL n s A → insF (plc KS KL n s A) x n S k = S k := fun S x k q => by unfold insF; rw [if_pos q]
  have i2 : ∀ (S : Nat → Nat) (x : Nat), insF (plc KS KL n s A) x n S (plc KS KL n s A) = x := fun S x => by unfold insF; rw [if_neg (by omega), if_pos rfl]
  have i3 : ∀ (S : Nat → Nat) (x k : Nat), plc KS KL n s A < k → k ≤ n → insF (plc KS KL n s A) x n S k = S (k - 1) := fun S x k q1 q2 => by unfold insF; rw [if_neg (show ¬ k < plc KS KL n s A by omega), if_neg (show ¬ k = plc KS KL n s A by omega), if_pos q2]
  refine ⟨by omega, wf_ins h2 hw hp, fun k hk => ?_, fun k hk => ?_⟩
  · rcases Nat.lt_trichotomy k (plc KS KL n s A) with q | q | q
    · rw [i1 _ _ _ q]; exact h3 k (by omega)
    · rw [q, i2]; exact hv
    · rw [i3 _ _ _ q (by omega)]; exact h3 _ (by omega)
  · show Ls (insF (plc KS KL n s A) s n KS k) (insF (plc KS KL n s A) A n KL k) (insF (plc KS KL n s A) s n KS (k + 1)) (insF (plc KS KL n s A) A n KL (k + 1))
    rcases Nat.lt_trichotomy (k + 1) (plc KS KL n s A) with q | q | q
    · rw [i1 _ _ _ (by omega), i1 _ _ _ (by omega), i1 _ _ _ q, i1 _ _ _ q]; exact h4 k (by omega)
    · rw [i1 _ _ _ (by omega), i1 _ _ _ (by omega), q, i2, i2]; exact plc_lt (n := n) (by omega)
    · rcases Nat.eq_or_lt_of_le (show plc KS KL n s A ≤ k by omega) with e | e
      · rw [← e, i2, i2, i3 _ _ _ (by omega) (by omega), i3 _ _ _ (by omega) (by omega), show plc KS KL n s A + 1 - 1 = plc KS KL n s A from rfl]
        have hlt : plc KS KL n s A < n := by omega
        rcases ls_three (s := KS (plc KS KL n s A)) (A := KL (plc KS KL n s A)) (t := s) (B := A) with z | z | z
        · exact absurd z (plc_ge hlt)
        · exact absurd ⟨hlt, z⟩ ha
        · exact z
      · rw [i3 _ _ _ e (by omega), i3 _ _ _ e (by omega), i3 _ _ _ (by omega) (by omega), i3 _ _ _ (by omega) (by omega), show k + 1 - 1 = k - 1 + 1 by omega]
        exact h4 (k - 1) (by omega)
theorem kok_rmv {KS KL KW : Nat → Nat} {n f q : Nat} (h : KOK KS KL KW n) : KOK (rmvF f q n KS) (rmvF f q n KL) (rmvF f q n KW) (n - q) := by
  obtain ⟨h1, h2, h3, h4⟩ := h
  refine ⟨by omega, wf_rmv h2, fun k hk => ?_, fun k hk => ?_⟩
  · rw [rmv_at hk]; exact h3 _ (by split <;> omega)
  · show Ls (rmvF f q n KS k) (rmvF f q n KL k) (rmvF f q n KS (k + 1)) (rmvF f q n KL (k + 1))
    rw [rmv_at (by omega), rmv_at (by omega), rmv_at (by omega), rmv_at (by omega)]
    exact sq_lt h4 (by split <;> split <;> omega) (by split <;> omega)
theorem kok_up {KS KL KW : Nat → Nat} {n p v : Nat} (h : KOK KS KL KW n) (hv : v ≤ 9999) : KOK KS KL (up KW p v) n := by
  refine ⟨h.1, h.2.1, fun k hk => ?_, h.2.2.2⟩
  by_cases e : k = p
  · rw [e, up_eq]; exact hv
  · rw [up_ne _ _ e]; exact h.2.2.1 k hk
theorem kok_adw {KS KL KW : Nat → Nat} {n f q v : Nat} (h : KOK KS KL KW n) : KOK KS KL (adwF f q v KW) n := by
  refine ⟨h.1, h.2.1, fun k hk => ?_, h.2.2.2⟩
  unfold adwF
  split
  · exact Nat.min_le_left _ _
  · exact h.2.2.1 k hk
theorem kok_deed {KS KL KW : Nat → Nat} {n sd : Nat} (h : KOK KS KL KW n) : KOK (deed KL KS KW n sd).2.1 (deed KL KS KW n sd).1 (deed KL KS KW n sd).2.2.1 (deed KL KS KW n sd).2.2.2.1 := by
  unfold deed
  have hv : ∀ q, q / 65536 % 1000 ≤ 9999 := fun q => by have := Nat.mod_lt (q / 65536) (show 0 < 1000 by decide); omega
  split
  · exact kok_rmv h
  · split
    · exact kok_up h (hv _)
    · rename_i ha
      split
      · rename_i hn
        exact kok_ins h (wf_dw sd _ (by have := dwc_lt sd; omega)) ha hn (hv _)
      · exact h
theorem rn_pt {F G KS KL KW : Nat → Nat} {n : Nat} (hn : n ≤ 24) (hk : ∀ k, k < n → Wf (KS k) (KL k)) (h : RN G KS KL KW n) (e : ∀ x, x < 241 → F x = G x) : RN F KS KL KW n := by
  refine ⟨by rw [e 0 (by decide)]; exact h.1, fun k hk2 => ?_⟩
  obtain ⟨a, b, c⟩ := h.2 k hk2
  have h8 := (hk k hk2).1
  exact ⟨by rw [e _ (by omega)]; exact a, by rw [e _ (by omega)]; exact b, fun i hi => by rw [e _ (by omega)]; exact c i hi⟩
def slt (nx pz j : Nat) : Nat := (nx + 20 - pz + j) % 20
def SimP (nx pz : Nat) (HL HS HW HC PS : Nat → Nat) : Prop := ∀ j, j < pz → KOK (fun k => HS (slt nx pz j * 24 + k)) (fun k => HL (slt nx pz j * 24 + k)) (fun k => HW (slt nx pz j * 24 + k)) (HC (slt nx pz j)) ∧ RN (fun x => PS (241 * j + x)) (fun k => HS (slt nx pz j * 24 + k)) (fun k => HL (slt nx pz j * 24 + k)) (fun k => HW (slt nx pz j * 24 + k)) (HC (slt nx pz j))
theorem cpy_in {F G : Nat → Nat} {a n k : Nat} (h : k < n) : va_cpy F G 0 a n (a + k) = F k := by
  unfold va_cpy
  rw [if_pos (by omega), show 0 + (a + k - a) = k by omega]
theorem cpy_out {F G : Nat → Nat} {a n b k : Nat} (hab : a ≠ b) (hn : n ≤ 24) (hk : k < 24) : va_cpy F G 0 (a * 24) n (b * 24 + k) = G (b * 24 + k) := by
  unfold va_cpy
  rw [if_neg]
  omega
theorem note_sim {nx pz n : Nat} {HL HS HW HC PS Q NW KS KL KW : Nat → Nat} (h : SimP nx pz HL HS HW HC PS) (hnx : nx < 20) (hpz : pz ≤ 20) (hK : KOK KS KL KW n) (hR : RN NW KS KL KW n) (hN : NoteR NW PS pz Q) : SimP ((nx + 1) % 20) (min 20 (pz + 1)) (va_cpy KL HL 0 (nx * 24) n) (va_cpy KS HS 0 (nx * 24) n) (va_cpy KW HW 0 (nx * 24) n) (up HC nx n) Q := by
  intro j hj
  have hn := hK.1
  by_cases e : j + 1 = min 20 (pz + 1)
  · have es : slt ((nx + 1) % 20) (min 20 (pz + 1)) j = nx := by unfold slt; omega
    rw [es, up_eq]
    have c : ∀ k, k < n → KS k = va_cpy KS HS 0 (nx * 24) n (nx * 24 + k) ∧ KL k = va_cpy KL HL 0 (nx * 24) n (nx * 24 + k) ∧ KW k = va_cpy KW HW 0 (nx * 24) n (nx * 24 + k) := fun k hk => ⟨(cpy_in hk).symm, (cpy_in hk).symm, (cpy_in hk).symm⟩
    refine ⟨kok_congr hK c, rn_congr (rn_pt hn hK.2.1 hR (fun x hx => ?_)) c⟩
    rw [hN j hj x hx, if_pos e]
  · have hne : slt ((nx + 1) % 20) (min 20 (pz + 1)) j ≠ nx := by unfold slt; omega
    have ho : ∃ j0, j0 < pz ∧ slt nx pz j0 = slt ((nx + 1) % 20) (min 20 (pz + 1)) j ∧ j0 = if pz = 20 then j + 1 else j := by
      by_cases g : pz = 20
      · exact ⟨j + 1, by omega, by unfold slt; omega, by rw [if_pos g]⟩
      · exact ⟨j, by omega, by unfold slt; omega, by rw [if_neg g]⟩
    obtain ⟨j0, h1, h2, h3⟩ := ho
    obtain ⟨a, b⟩ := h j0 h1
    rw [h2] at a b
    generalize slt ((nx + 1) % 20) (min 20 (pz + 1)) j = t at *
    rw [up_ne _ _ hne]
    have hn2 := a.1
    have c : ∀ k, k < HC t → HS (t * 24 + k) = va_cpy KS HS 0 (nx * 24) n (t * 24 + k) ∧ HL (t * 24 + k) = va_cpy KL HL 0 (nx * 24) n (t * 24 + k) ∧ HW (t * 24 + k) = va_cpy KW HW 0 (nx * 24) n (t * 24 + k) := fun k hk => ⟨(cpy_out (Ne.symm hne) hn (by omega)).symm, (cpy_out (Ne.symm hne) hn (by omega)).symm, (cpy_out (Ne.symm hne) hn (by omega)).symm⟩
    refine ⟨kok_congr a c, rn_congr (rn_pt hn2 a.2.1 b (fun x hx => ?_)) c⟩
    rw [hN j hj x hx, if_neg e, h3]
set_option maxHeartbeats 4000000 in
set_option maxRecDepth 100000 in
theorem c_X6_drift_neg (l : Launch) (D : va_G) (cI cJ cZ : ClassId) (m0 nw ps im mk wd so mb ma mf mw ml mu wt ty : Nat) (NW : Nat → Nat) (PS : Nat → Nat) (u : Nat) (IM : Nat → Nat) (MK : Nat → Nat) (sd : Nat) (WD : Nat → Nat) (s : Nat) (SO : Nat → Nat) (q : Nat) (EB : Nat → Nat) (EA : Nat → Nat) (EF : Nat → Nat) (EW : Nat → Nat) (EL : Nat → Nat) (EU : Nat → Nat) (br : Nat) (WT : Nat → Nat) (ww : Nat) (TY : Nat → Nat) (KS KL KW : Nat → Nat) (n A : Nat) (hn : n ≤ 24) (hk : ∀ k, k < n → Wf (KS k) (KL k)) (hw0 : Wf s A) (hR : RN NW KS KL KW n) (hRW : RW WD s A) (hso : Srt KS KL n) (BB BD BM BL BF BA BK : Nat → Nat) (hTr : TrX (gapF KS KL) n BB BD BM BL BF BA BK) (hv : ∀ k, k < n → KW k ≤ 9999) (x : Int32) (hx0 : x < 0) (sz : Nat) : WR l yX6_drift cX6_drift 4 (some .int) (rmN 8 179) D (ty3 cI cJ cZ) [.ref m0, .int x] [(m0, .inr (6, [.ref nw, .ref ps, .int (nI u), .ref im, .ref mk, .int (nI sd), .ref wd, .int (nI s), .ref so, .int (nI q), .ref mb, .ref ma, .ref mf, .ref mw, .ref ml, .ref mu, .int (nI br), .ref wt, .int (nI ww), .ref ty])), (nw, .inl (cI, 241, .inl (nF NW))), (ps, .inl (cI, 4820, .inl (nF PS))), (im, .inl (cI, 484, .inl (nF IM))), (mk, .inl (cZ, 2, .inl (nF MK))), (wd, .inl (cI, 8, .inl (nF WD))), (so, .inl (cI, 24, .inl (nF SO))), (mb, .inl (cI, 24, .inl (nF EB))), (ma, .inl (cI, 24, .inl (nF EA))), (mf, .inl (cI, 24, .inl (nF EF))), (mw, .inl (cI, 24, .inl (nF EW))), (ml, .inl (cI, 24, .inl (nF EL))), (mu, .inl (cI, 24, .inl (oF EU))), (wt, .inl (cI, 200, .inl (oF WT))), (ty, .inl (cI, 8, .inl (nF TY)))] sz (fun x w => x = some (.int (-1000000002)) ∧ ∃ (SO : Nat → Nat) (q : Nat) (EB EA EF EW EL EU : Nat → Nat) (br : Nat) (WT : Nat → Nat) (ww : Nat), w = [(m0, .inr (6, [.ref nw, .ref ps, .int (nI u), .ref im, .ref mk, .int (nI sd), .ref wd, .int (nI s), .ref so, .int (nI q), .ref mb, .ref ma, .ref mf, .ref mw, .ref ml, .ref mu, .int (nI br), .ref wt, .int (nI ww), .ref ty])), (nw, .inl (cI, 241, .inl (nF NW))), (ps, .inl (cI, 4820, .inl (nF PS))), (im, .inl (cI, 484, .inl (nF IM))), (mk, .inl (cZ, 2, .inl (nF MK))), (wd, .inl (cI, 8, .inl (nF WD))), (so, .inl (cI, 24, .inl (nF SO))), (mb, .inl (cI, 24, .inl (nF EB))), (ma, .inl (cI, 24, .inl (nF EA))), (mf, .inl (cI, 24, .inl (nF EF))), (mw, .inl (cI, 24, .inl (nF EW))), (ml, .inl (cI, 24, .inl (nF EL))), (mu, .inl (cI, 24, .inl (oF EU))), (wt, .inl (cI, 200, .inl (oF WT))), (ty, .inl (cI, 8, .inl (nF TY)))]) := by
  have hs8 := hw0.1
  have hA64 := hw0.2.1
  have hN0 := hR.1
  have hBK := tf_BK hTr hn
  have hDK := tf_DK hTr hn
  have hp := plc_le KS KL n s A
  have hcb := cbl_le KS KL n s A
  have hfl := fnd_le KS KL n s A
  refine wr_start (by decide) (Nat.le_of_ble_eq_true rfl) ?_
  intro pp ee ss mm below meth cd AA C0 hAA hP hK hD hS hN hnm ls hl
  obtain ⟨hx, hb, hr, hml, hown, hts, hlk⟩ := C0
  have hown : ss.vm.findClass RX6 = some mm.cls := hown
  have hl : lv_has ls 4 [(0, .ref m0), (1, .int x)] := hl
  have hP : va_P D vwCl [(m0, .inr (6, [.ref nw, .ref ps, .int (nI u), .ref im, .ref mk, .int (nI sd), .ref wd, .int (nI s), .ref so, .int (nI q), .ref mb, .ref ma, .ref mf, .ref mw, .ref ml, .ref mu, .int (nI br), .ref wt, .int (nI ww), .ref ty])), (nw, .inl (cI, 241, .inl (nF NW))), (ps, .inl (cI, 4820, .inl (nF PS))), (im, .inl (cI, 484, .inl (nF IM))), (mk, .inl (cZ, 2, .inl (nF MK))), (wd, .inl (cI, 8, .inl (nF WD))), (so, .inl (cI, 24, .inl (nF SO))), (mb, .inl (cI, 24, .inl (nF EB))), (ma, .inl (cI, 24, .inl (nF EA))), (mf, .inl (cI, 24, .inl (nF EF))), (mw, .inl (cI, 24, .inl (nF EW))), (ml, .inl (cI, 24, .inl (nF EL))), (mu, .inl (cI, 24, .inl (oF EU))), (wt, .inl (cI, 200, .inl (oF WT))), (ty, .inl (cI, 8, .inl (nF TY)))] ss.heap := hP
  refine lv_iload_n hx hb dX6_drift_0 rfl (lv_at hl 1 rfl) ?_
  refine lv_iconst (v := nI 1) hx hb dX6_drift_1 (by decide +kernel) ?_
  refine lv_bipush (v := nI 20) hx hb dX6_drift_2 (by decide +kernel) ?_
  refine ro_S (As := [.int x, .int (nI 1), .int (nI 20)]) (rest := []) ⟨hx, hb, hml, hown, hts⟩ (c_X6_in_neg l D cI cJ cZ x ((nI 20)) 1 hx0 (by omega)) (k_X6_79 hts ⟨Nat.le_of_ble_eq_true rfl, Nat.le_of_ble_eq_true rfl⟩) hK hP [] rfl rfl hl.1 rfl (Nat.le_of_ble_eq_true rfl) dX6_drift_4 ⟨Nat.le_of_ble_eq_true rfl, Nat.le_of_ble_eq_true rfl⟩ ?_
  refine n_if_ne (tgt := 13) hx hb dX6_drift_7 (by decide) (by decide) (fun h9 => absurd rfl h9) (fun _ => ?_)
  refine lv_ldc hx hb hown (hts _ mk_X6_83) dX6_drift_10 ?_
  exact wr_iret hx hb hr hlk hP hD hS dX6_drift_12 (⟨rfl, SO, q, EB, EA, EF, EW, EL, EU, br, WT, ww, rfl⟩)
set_option maxHeartbeats 4000000 in
set_option maxRecDepth 100000 in
theorem c_X6_drift_zero (l : Launch) (D : va_G) (cI cJ cZ : ClassId) (m0 nw ps im mk wd so mb ma mf mw ml mu wt ty : Nat) (NW : Nat → Nat) (PS : Nat → Nat) (u : Nat) (IM : Nat → Nat) (MK : Nat → Nat) (sd : Nat) (WD : Nat → Nat) (s : Nat) (SO : Nat → Nat) (q : Nat) (EB : Nat → Nat) (EA : Nat → Nat) (EF : Nat → Nat) (EW : Nat → Nat) (EL : Nat → Nat) (EU : Nat → Nat) (br : Nat) (WT : Nat → Nat) (ww : Nat) (TY : Nat → Nat) (KS KL KW : Nat → Nat) (n A : Nat) (hn : n ≤ 24) (hk : ∀ k, k < n → Wf (KS k) (KL k)) (hw0 : Wf s A) (hR : RN NW KS KL KW n) (hRW : RW WD s A) (hso : Srt KS KL n) (BB BD BM BL BF BA BK : Nat → Nat) (hTr : TrX (gapF KS KL) n BB BD BM BL BF BA BK) (hv : ∀ k, k < n → KW k ≤ 9999)  (sz : Nat) : WR l yX6_drift cX6_drift 4 (some .int) (rmN 8 179) D (ty3 cI cJ cZ) [.ref m0, .int (nI 0)] [(m0, .inr (6, [.ref nw, .ref ps, .int (nI u), .ref im, .ref mk, .int (nI sd), .ref wd, .int (nI s), .ref so, .int (nI q), .ref mb, .ref ma, .ref mf, .ref mw, .ref ml, .ref mu, .int (nI br), .ref wt, .int (nI ww), .ref ty])), (nw, .inl (cI, 241, .inl (nF NW))), (ps, .inl (cI, 4820, .inl (nF PS))), (im, .inl (cI, 484, .inl (nF IM))), (mk, .inl (cZ, 2, .inl (nF MK))), (wd, .inl (cI, 8, .inl (nF WD))), (so, .inl (cI, 24, .inl (nF SO))), (mb, .inl (cI, 24, .inl (nF EB))), (ma, .inl (cI, 24, .inl (nF EA))), (mf, .inl (cI, 24, .inl (nF EF))), (mw, .inl (cI, 24, .inl (nF EW))), (ml, .inl (cI, 24, .inl (nF EL))), (mu, .inl (cI, 24, .inl (oF EU))), (wt, .inl (cI, 200, .inl (oF WT))), (ty, .inl (cI, 8, .inl (nF TY)))] sz (fun x w => x = some (.int (-1000000002)) ∧ ∃ (SO : Nat → Nat) (q : Nat) (EB EA EF EW EL EU : Nat → Nat) (br : Nat) (WT : Nat → Nat) (ww : Nat), w = [(m0, .inr (6, [.ref nw, .ref ps, .int (nI u), .ref im, .ref mk, .int (nI sd), .ref wd, .int (nI s), .ref so, .int (nI q), .ref mb, .ref ma, .ref mf, .ref mw, .ref ml, .ref mu, .int (nI br), .ref wt, .int (nI ww), .ref ty])), (nw, .inl (cI, 241, .inl (nF NW))), (ps, .inl (cI, 4820, .inl (nF PS))), (im, .inl (cI, 484, .inl (nF IM))), (mk, .inl (cZ, 2, .inl (nF MK))), (wd, .inl (cI, 8, .inl (nF WD))), (so, .inl (cI, 24, .inl (nF SO))), (mb, .inl (cI, 24, .inl (nF EB))), (ma, .inl (cI, 24, .inl (nF EA))), (mf, .inl (cI, 24, .inl (nF EF))), (mw, .inl (cI, 24, .inl (nF EW))), (ml, .inl (cI, 24, .inl (nF EL))), (mu, .inl (cI, 24, .inl (oF EU))), (wt, .inl (cI, 200, .inl (oF WT))), (ty, .inl (cI, 8, .inl (nF TY)))]) := by
  have hs8 := hw0.1
  have hA64 := hw0.2.1
  have hN0 := hR.1
  have hBK := tf_BK hTr hn
  have hDK := tf_DK hTr hn
  have hp := plc_le KS KL n s A
  have hcb := cbl_le KS KL n s A
  have hfl := fnd_le KS KL n s A
  refine wr_start (by decide) (Nat.le_of_ble_eq_true rfl) ?_
  intro pp ee ss mm below meth cd AA C0 hAA hP hK hD hS hN hnm ls hl
  obtain ⟨hx, hb, hr, hml, hown, hts, hlk⟩ := C0
  have hown : ss.vm.findClass RX6 = some mm.cls := hown
  have hl : lv_has ls 4 [(0, .ref m0), (1, .int (nI 0))] := hl
  have hP : va_P D vwCl [(m0, .inr (6, [.ref nw, .ref ps, .int (nI u), .ref im, .ref mk, .int (nI sd), .ref wd, .int (nI s), .ref so, .int (nI q), .ref mb, .ref ma, .ref mf, .ref mw, .ref ml, .ref mu, .int (nI br), .ref wt, .int (nI ww), .ref ty])), (nw, .inl (cI, 241, .inl (nF NW))), (ps, .inl (cI, 4820, .inl (nF PS))), (im, .inl (cI, 484, .inl (nF IM))), (mk, .inl (cZ, 2, .inl (nF MK))), (wd, .inl (cI, 8, .inl (nF WD))), (so, .inl (cI, 24, .inl (nF SO))), (mb, .inl (cI, 24, .inl (nF EB))), (ma, .inl (cI, 24, .inl (nF EA))), (mf, .inl (cI, 24, .inl (nF EF))), (mw, .inl (cI, 24, .inl (nF EW))), (ml, .inl (cI, 24, .inl (nF EL))), (mu, .inl (cI, 24, .inl (oF EU))), (wt, .inl (cI, 200, .inl (oF WT))), (ty, .inl (cI, 8, .inl (nF TY)))] ss.heap := hP
  refine lv_iload_n hx hb dX6_drift_0 rfl (lv_at hl 1 rfl) ?_
  refine lv_iconst (v := nI 1) hx hb dX6_drift_1 (by decide +kernel) ?_
  refine lv_bipush (v := nI 20) hx hb dX6_drift_2 (by decide +kernel) ?_
  refine ro_S (As := [.int (nI 0), .int (nI 1), .int (nI 20)]) (rest := []) ⟨hx, hb, hml, hown, hts⟩ (c_X6_in l D cI cJ cZ 0 1 20 (by omega) (by omega) (by omega)) (k_X6_79 hts ⟨Nat.le_of_ble_eq_true rfl, Nat.le_of_ble_eq_true rfl⟩) hK hP [] rfl rfl hl.1 rfl (Nat.le_of_ble_eq_true rfl) dX6_drift_4 ⟨Nat.le_of_ble_eq_true rfl, Nat.le_of_ble_eq_true rfl⟩ ?_
  refine b_if_ne (tgt := 13) hx hb dX6_drift_7 (by decide) (fun c1 => ?_) (fun c1 => ?_)
  ·
    exact absurd c1 (by decide)
  ·
    refine lv_ldc hx hb hown (hts _ mk_X6_83) dX6_drift_10 ?_
    exact wr_iret hx hb hr hlk hP hD hS dX6_drift_12 (⟨rfl, SO, q, EB, EA, EF, EW, EL, EU, br, WT, ww, rfl⟩)
set_option maxHeartbeats 4000000 in
set_option maxRecDepth 100000 in
theorem c_X6_drift_big (l : Launch) (D : va_G) (cI cJ cZ : ClassId) (m0 nw ps im mk wd so mb ma mf mw ml mu wt ty : Nat) (NW : Nat → Nat) (PS : Nat → Nat) (u : Nat) (IM : Nat → Nat) (MK : Nat → Nat) (sd : Nat) (WD : Nat → Nat) (s : Nat) (SO : Nat → Nat) (q : Nat) (EB : Nat → Nat) (EA : Nat → Nat) (EF : Nat → Nat) (EW : Nat → Nat) (EL : Nat → Nat) (EU : Nat → Nat) (br : Nat) (WT : Nat → Nat) (ww : Nat) (TY : Nat → Nat) (KS KL KW : Nat → Nat) (n A : Nat) (hn : n ≤ 24) (hk : ∀ k, k < n → Wf (KS k) (KL k)) (hw0 : Wf s A) (hR : RN NW KS KL KW n) (hRW : RW WD s A) (hso : Srt KS KL n) (BB BD BM BL BF BA BK : Nat → Nat) (hTr : TrX (gapF KS KL) n BB BD BM BL BF BA BK) (hv : ∀ k, k < n → KW k ≤ 9999) (j : Nat) (hj : j < 2 ^ 31) (hjb : 20 < j) (sz : Nat) : WR l yX6_drift cX6_drift 4 (some .int) (rmN 8 179) D (ty3 cI cJ cZ) [.ref m0, .int (nI j)] [(m0, .inr (6, [.ref nw, .ref ps, .int (nI u), .ref im, .ref mk, .int (nI sd), .ref wd, .int (nI s), .ref so, .int (nI q), .ref mb, .ref ma, .ref mf, .ref mw, .ref ml, .ref mu, .int (nI br), .ref wt, .int (nI ww), .ref ty])), (nw, .inl (cI, 241, .inl (nF NW))), (ps, .inl (cI, 4820, .inl (nF PS))), (im, .inl (cI, 484, .inl (nF IM))), (mk, .inl (cZ, 2, .inl (nF MK))), (wd, .inl (cI, 8, .inl (nF WD))), (so, .inl (cI, 24, .inl (nF SO))), (mb, .inl (cI, 24, .inl (nF EB))), (ma, .inl (cI, 24, .inl (nF EA))), (mf, .inl (cI, 24, .inl (nF EF))), (mw, .inl (cI, 24, .inl (nF EW))), (ml, .inl (cI, 24, .inl (nF EL))), (mu, .inl (cI, 24, .inl (oF EU))), (wt, .inl (cI, 200, .inl (oF WT))), (ty, .inl (cI, 8, .inl (nF TY)))] sz (fun x w => x = some (.int (-1000000002)) ∧ ∃ (SO : Nat → Nat) (q : Nat) (EB EA EF EW EL EU : Nat → Nat) (br : Nat) (WT : Nat → Nat) (ww : Nat), w = [(m0, .inr (6, [.ref nw, .ref ps, .int (nI u), .ref im, .ref mk, .int (nI sd), .ref wd, .int (nI s), .ref so, .int (nI q), .ref mb, .ref ma, .ref mf, .ref mw, .ref ml, .ref mu, .int (nI br), .ref wt, .int (nI ww), .ref ty])), (nw, .inl (cI, 241, .inl (nF NW))), (ps, .inl (cI, 4820, .inl (nF PS))), (im, .inl (cI, 484, .inl (nF IM))), (mk, .inl (cZ, 2, .inl (nF MK))), (wd, .inl (cI, 8, .inl (nF WD))), (so, .inl (cI, 24, .inl (nF SO))), (mb, .inl (cI, 24, .inl (nF EB))), (ma, .inl (cI, 24, .inl (nF EA))), (mf, .inl (cI, 24, .inl (nF EF))), (mw, .inl (cI, 24, .inl (nF EW))), (ml, .inl (cI, 24, .inl (nF EL))), (mu, .inl (cI, 24, .inl (oF EU))), (wt, .inl (cI, 200, .inl (oF WT))), (ty, .inl (cI, 8, .inl (nF TY)))]) := by
  have hs8 := hw0.1
  have hA64 := hw0.2.1
  have hN0 := hR.1
  have hBK := tf_BK hTr hn
  have hDK := tf_DK hTr hn
  have hp := plc_le KS KL n s A
  have hcb := cbl_le KS KL n s A
  have hfl := fnd_le KS KL n s A
  refine wr_start (by decide) (Nat.le_of_ble_eq_true rfl) ?_
  intro pp ee ss mm below meth cd AA C0 hAA hP hK hD hS hN hnm ls hl
  obtain ⟨hx, hb, hr, hml, hown, hts, hlk⟩ := C0
  have hown : ss.vm.findClass RX6 = some mm.cls := hown
  have hl : lv_has ls 4 [(0, .ref m0), (1, .int (nI j))] := hl
  have hP : va_P D vwCl [(m0, .inr (6, [.ref nw, .ref ps, .int (nI u), .ref im, .ref mk, .int (nI sd), .ref wd, .int (nI s), .ref so, .int (nI q), .ref mb, .ref ma, .ref mf, .ref mw, .ref ml, .ref mu, .int (nI br), .ref wt, .int (nI ww), .ref ty])), (nw, .inl (cI, 241, .inl (nF NW))), (ps, .inl (cI, 4820, .inl (nF PS))), (im, .inl (cI, 484, .inl (nF IM))), (mk, .inl (cZ, 2, .inl (nF MK))), (wd, .inl (cI, 8, .inl (nF WD))), (so, .inl (cI, 24, .inl (nF SO))), (mb, .inl (cI, 24, .inl (nF EB))), (ma, .inl (cI, 24, .inl (nF EA))), (mf, .inl (cI, 24, .inl (nF EF))), (mw, .inl (cI, 24, .inl (nF EW))), (ml, .inl (cI, 24, .inl (nF EL))), (mu, .inl (cI, 24, .inl (oF EU))), (wt, .inl (cI, 200, .inl (oF WT))), (ty, .inl (cI, 8, .inl (nF TY)))] ss.heap := hP
  refine lv_iload_n hx hb dX6_drift_0 rfl (lv_at hl 1 rfl) ?_
  refine lv_iconst (v := nI 1) hx hb dX6_drift_1 (by decide +kernel) ?_
  refine lv_bipush (v := nI 20) hx hb dX6_drift_2 (by decide +kernel) ?_
  refine ro_S (As := [.int (nI j), .int (nI 1), .int (nI 20)]) (rest := []) ⟨hx, hb, hml, hown, hts⟩ (c_X6_in l D cI cJ cZ j 1 20 (by omega) (by omega) (by omega)) (k_X6_79 hts ⟨Nat.le_of_ble_eq_true rfl, Nat.le_of_ble_eq_true rfl⟩) hK hP [] rfl rfl hl.1 rfl (Nat.le_of_ble_eq_true rfl) dX6_drift_4 ⟨Nat.le_of_ble_eq_true rfl, Nat.le_of_ble_eq_true rfl⟩ ?_
  refine b_if_ne (tgt := 13) hx hb dX6_drift_7 (by decide) (fun c1 => ?_) (fun c1 => ?_)
  ·
    exact absurd c1 (by omega)
  ·
    refine lv_ldc hx hb hown (hts _ mk_X6_83) dX6_drift_10 ?_
    exact wr_iret hx hb hr hlk hP hD hS dX6_drift_12 (⟨rfl, SO, q, EB, EA, EF, EW, EL, EU, br, WT, ww, rfl⟩)
set_option maxHeartbeats 4000000 in
set_option maxRecDepth 100000 in
theorem c_X6_drift_ok (l : Launch) (D : va_G) (cI cJ cZ : ClassId) (m0 nw ps im mk wd so mb ma mf mw ml mu wt ty : Nat) (NW : Nat → Nat) (PS : Nat → Nat) (u : Nat) (IM : Nat → Nat) (MK : Nat → Nat) (sd : Nat) (WD : Nat → Nat) (s : Nat) (SO : Nat → Nat) (q : Nat) (EB : Nat → Nat) (EA : Nat → Nat) (EF : Nat → Nat) (EW : Nat → Nat) (EL : Nat → Nat) (EU : Nat → Nat) (br : Nat) (WT : Nat → Nat) (ww : Nat) (TY : Nat → Nat) (KS KL KW : Nat → Nat) (n A : Nat) (hn : n ≤ 24) (hk : ∀ k, k < n → Wf (KS k) (KL k)) (hw0 : Wf s A) (hR : RN NW KS KL KW n) (hRW : RW WD s A) (hso : Srt KS KL n) (BB BD BM BL BF BA BK : Nat → Nat) (hTr : TrX (gapF KS KL) n BB BD BM BL BF BA BK) (hv : ∀ k, k < n → KW k ≤ 9999) (hu : u ≤ 20) (hsd : sd < 2 ^ 31) (nx : Nat) (hnx : nx < 20) (HL HS HW HC : Nat → Nat) (hSP : SimP nx u HL HS HW HC PS) (j : Nat) (hj1 : 1 ≤ j) (hj : j ≤ 20) (sz : Nat) : WR l yX6_drift cX6_drift 4 (some .int) (rmN 8 179) D (ty3 cI cJ cZ) [.ref m0, .int (nI j)] [(m0, .inr (6, [.ref nw, .ref ps, .int (nI u), .ref im, .ref mk, .int (nI sd), .ref wd, .int (nI s), .ref so, .int (nI q), .ref mb, .ref ma, .ref mf, .ref mw, .ref ml, .ref mu, .int (nI br), .ref wt, .int (nI ww), .ref ty])), (nw, .inl (cI, 241, .inl (nF NW))), (ps, .inl (cI, 4820, .inl (nF PS))), (im, .inl (cI, 484, .inl (nF IM))), (mk, .inl (cZ, 2, .inl (nF MK))), (wd, .inl (cI, 8, .inl (nF WD))), (so, .inl (cI, 24, .inl (nF SO))), (mb, .inl (cI, 24, .inl (nF EB))), (ma, .inl (cI, 24, .inl (nF EA))), (mf, .inl (cI, 24, .inl (nF EF))), (mw, .inl (cI, 24, .inl (nF EW))), (ml, .inl (cI, 24, .inl (nF EL))), (mu, .inl (cI, 24, .inl (oF EU))), (wt, .inl (cI, 200, .inl (oF WT))), (ty, .inl (cI, 8, .inl (nF TY)))] sz (fun x w => x = some (.int (nI (dit j (KL, KS, KW, n, sd, nx, u, HL, HS, HW, HC)).2.2.2.1)) ∧ ∃ N Q WZ TZ : Nat → Nat, w = [(m0, .inr (6, [.ref nw, .ref ps, .int (nI ((dit j (KL, KS, KW, n, sd, nx, u, HL, HS, HW, HC)).2.2.2.2.2.2.1)), .ref im, .ref mk, .int (nI ((dit j (KL, KS, KW, n, sd, nx, u, HL, HS, HW, HC)).2.2.2.2.1)), .ref wd, .int (nI s), .ref so, .int (nI q), .ref mb, .ref ma, .ref mf, .ref mw, .ref ml, .ref mu, .int (nI br), .ref wt, .int (nI ww), .ref ty])), (nw, .inl (cI, 241, .inl (nF N))), (ps, .inl (cI, 4820, .inl (nF Q))), (im, .inl (cI, 484, .inl (nF IM))), (mk, .inl (cZ, 2, .inl (nF MK))), (wd, .inl (cI, 8, .inl (nF WZ))), (so, .inl (cI, 24, .inl (nF SO))), (mb, .inl (cI, 24, .inl (nF EB))), (ma, .inl (cI, 24, .inl (nF EA))), (mf, .inl (cI, 24, .inl (nF EF))), (mw, .inl (cI, 24, .inl (nF EW))), (ml, .inl (cI, 24, .inl (nF EL))), (mu, .inl (cI, 24, .inl (oF EU))), (wt, .inl (cI, 200, .inl (oF WT))), (ty, .inl (cI, 8, .inl (nF TZ)))] ∧ RN N (dit j (KL, KS, KW, n, sd, nx, u, HL, HS, HW, HC)).2.1 (dit j (KL, KS, KW, n, sd, nx, u, HL, HS, HW, HC)).1 (dit j (KL, KS, KW, n, sd, nx, u, HL, HS, HW, HC)).2.2.1 (dit j (KL, KS, KW, n, sd, nx, u, HL, HS, HW, HC)).2.2.2.1 ∧ SimP (dit j (KL, KS, KW, n, sd, nx, u, HL, HS, HW, HC)).2.2.2.2.2.1 (dit j (KL, KS, KW, n, sd, nx, u, HL, HS, HW, HC)).2.2.2.2.2.2.1 (dit j (KL, KS, KW, n, sd, nx, u, HL, HS, HW, HC)).2.2.2.2.2.2.2.1 (dit j (KL, KS, KW, n, sd, nx, u, HL, HS, HW, HC)).2.2.2.2.2.2.2.2.1 (dit j (KL, KS, KW, n, sd, nx, u, HL, HS, HW, HC)).2.2.2.2.2.2.2.2.2.1 (dit j (KL, KS, KW, n, sd, nx, u, HL, HS, HW, HC)).2.2.2.2.2.2.2.2.2.2 Q ∧ RW WZ s A) := by
  have hs8 := hw0.1
  have hA64 := hw0.2.1
  have hN0 := hR.1
  have hBK := tf_BK hTr hn
  have hDK := tf_DK hTr hn
  have hp := plc_le KS KL n s A
  have hcb := cbl_le KS KL n s A
  have hfl := fnd_le KS KL n s A
  have hZ0 : Zok (KL, KS, KW, n, sd, nx, u, HL, HS, HW, HC) := ⟨hn, hk, hsd, hnx, hu⟩
  refine wr_start (by decide) (Nat.le_of_ble_eq_true rfl) ?_
  intro pp ee ss mm below meth cd AA C0 hAA hP hK hD hS hN hnm ls hl
  obtain ⟨hx, hb, hr, hml, hown, hts, hlk⟩ := C0
  have hown : ss.vm.findClass RX6 = some mm.cls := hown
  have hl : lv_has ls 4 [(0, .ref m0), (1, .int (nI j))] := hl
  have hP : va_P D vwCl [(m0, .inr (6, [.ref nw, .ref ps, .int (nI u), .ref im, .ref mk, .int (nI sd), .ref wd, .int (nI s), .ref so, .int (nI q), .ref mb, .ref ma, .ref mf, .ref mw, .ref ml, .ref mu, .int (nI br), .ref wt, .int (nI ww), .ref ty])), (nw, .inl (cI, 241, .inl (nF NW))), (ps, .inl (cI, 4820, .inl (nF PS))), (im, .inl (cI, 484, .inl (nF IM))), (mk, .inl (cZ, 2, .inl (nF MK))), (wd, .inl (cI, 8, .inl (nF WD))), (so, .inl (cI, 24, .inl (nF SO))), (mb, .inl (cI, 24, .inl (nF EB))), (ma, .inl (cI, 24, .inl (nF EA))), (mf, .inl (cI, 24, .inl (nF EF))), (mw, .inl (cI, 24, .inl (nF EW))), (ml, .inl (cI, 24, .inl (nF EL))), (mu, .inl (cI, 24, .inl (oF EU))), (wt, .inl (cI, 200, .inl (oF WT))), (ty, .inl (cI, 8, .inl (nF TY)))] ss.heap := hP
  refine lv_iload_n hx hb dX6_drift_0 rfl (lv_at hl 1 rfl) ?_
  refine lv_iconst (v := nI 1) hx hb dX6_drift_1 (by decide +kernel) ?_
  refine lv_bipush (v := nI 20) hx hb dX6_drift_2 (by decide +kernel) ?_
  refine ro_S (As := [.int (nI j), .int (nI 1), .int (nI 20)]) (rest := []) ⟨hx, hb, hml, hown, hts⟩ (c_X6_in l D cI cJ cZ j 1 20 (by omega) (by omega) (by omega)) (k_X6_79 hts ⟨Nat.le_of_ble_eq_true rfl, Nat.le_of_ble_eq_true rfl⟩) hK hP [] rfl rfl hl.1 rfl (Nat.le_of_ble_eq_true rfl) dX6_drift_4 ⟨Nat.le_of_ble_eq_true rfl, Nat.le_of_ble_eq_true rfl⟩ ?_
  refine b_if_ne (tgt := 13) hx hb dX6_drift_7 (by decide) (fun c1 => ?_) (fun c1 => ?_)
  ·
    refine lv_aload_n hx hb dX6_drift_13 rfl (lv_at hl 0 rfl) ?_
    refine va_get (D := D) (ci := 6) (v := .int (nI s)) (C := RX6) (T := TX6) (N := 20) hx hb hts inX6 hown hK hP 0 rfl rfl 7 (by decide) (hts _ mf_X6_53) (fun _ h9 => h9) rfl dX6_drift_14 ?_
    refine lv_istore_n (lv' := [(2, .int (nI s)), (0, .ref m0), (1, .int (nI j))]) hx hb dX6_drift_17 rfl hl (by decide) rfl (fun ls hl => ?_)
    refine lv_aload_n hx hb dX6_drift_18 rfl (lv_at hl 1 rfl) ?_
    refine va_get (D := D) (ci := 6) (v := .ref wd) (C := RX6) (T := TX6) (N := 20) hx hb hts inX6 hown hK hP 0 rfl rfl 6 (by decide) (hts _ mf_X6_23) (fun _ h9 => h9) rfl dX6_drift_19 ?_
    refine lv_iconst (v := nI 0) hx hb dX6_drift_22 (by decide +kernel) ?_
    refine lv_aload_n hx hb dX6_drift_23 rfl (lv_at hl 1 rfl) ?_
    refine va_get (D := D) (ci := 6) (v := .ref ty) (C := RX6) (T := TX6) (N := 20) hx hb hts inX6 hown hK hP 0 rfl rfl 19 (by decide) (hts _ mf_X6_50) (fun _ h9 => h9) rfl dX6_drift_24 ?_
    refine lv_iconst (v := nI 0) hx hb dX6_drift_27 (by decide +kernel) ?_
    refine lv_bipush (v := nI 8) hx hb dX6_drift_28 (by decide +kernel) ?_
    refine wr_S (As := [.ref wd, .int (nI 0), .ref ty, .int (nI 0), .int (nI 8)]) (rest := []) (wc := [(wd, .inl (cI, 8, .inl (nF WD))), (ty, .inl (cI, 8, .inl (nF TY)))]) (wr := [(m0, .inr (6, [.ref nw, .ref ps, .int (nI u), .ref im, .ref mk, .int (nI sd), .ref wd, .int (nI s), .ref so, .int (nI q), .ref mb, .ref ma, .ref mf, .ref mw, .ref ml, .ref mu, .int (nI br), .ref wt, .int (nI ww), .ref ty])), (nw, .inl (cI, 241, .inl (nF NW))), (ps, .inl (cI, 4820, .inl (nF PS))), (im, .inl (cI, 484, .inl (nF IM))), (mk, .inl (cZ, 2, .inl (nF MK))), (so, .inl (cI, 24, .inl (nF SO))), (mb, .inl (cI, 24, .inl (nF EB))), (ma, .inl (cI, 24, .inl (nF EA))), (mf, .inl (cI, 24, .inl (nF EF))), (mw, .inl (cI, 24, .inl (nF EW))), (ml, .inl (cI, 24, .inl (nF EL))), (mu, .inl (cI, 24, .inl (oF EU))), (wt, .inl (cI, 200, .inl (oF WT)))]) ⟨hx, hb, hml, hown, hts⟩ (c_X6_copies l D cI cJ cZ wd ty 8 8 0 0 8 WD TY (by decide) (by decide) (by omega) (by omega) _) (k_X6_90 hts ⟨Nat.le_of_ble_eq_true rfl, Nat.le_of_ble_eq_true rfl⟩) hK hN hP hD hS hAA [5, 14] [0, 1, 2, 3, 4, 6, 7, 8, 9, 10, 11, 12, 13] rfl rfl (by decide) (by decide) (by decide) rfl hl.1 rfl (Nat.le_of_ble_eq_true rfl) dX6_drift_30 ⟨Nat.le_of_ble_eq_true rfl, Nat.le_of_ble_eq_true rfl⟩ (fun v3 w4 H locs hp2 hP hD hS => ?_)
    obtain ⟨rfl, rfl⟩ := hp2
    have hP : va_P D vwCl [(m0, .inr (6, [.ref nw, .ref ps, .int (nI u), .ref im, .ref mk, .int (nI sd), .ref wd, .int (nI s), .ref so, .int (nI q), .ref mb, .ref ma, .ref mf, .ref mw, .ref ml, .ref mu, .int (nI br), .ref wt, .int (nI ww), .ref ty])), (nw, .inl (cI, 241, .inl (nF NW))), (ps, .inl (cI, 4820, .inl (nF PS))), (im, .inl (cI, 484, .inl (nF IM))), (mk, .inl (cZ, 2, .inl (nF MK))), (wd, .inl (cI, 8, .inl (nF WD))), (so, .inl (cI, 24, .inl (nF SO))), (mb, .inl (cI, 24, .inl (nF EB))), (ma, .inl (cI, 24, .inl (nF EA))), (mf, .inl (cI, 24, .inl (nF EF))), (mw, .inl (cI, 24, .inl (nF EW))), (ml, .inl (cI, 24, .inl (nF EL))), (mu, .inl (cI, 24, .inl (oF EU))), (wt, .inl (cI, 200, .inl (oF WT))), (ty, .inl (cI, 8, .inl (nF (va_cpy WD TY 0 0 8))))] H := hP.sub [0, 1, 2, 3, 4, 13, 5, 6, 7, 8, 9, 10, 11, 12, 14] rfl
    have hD : va_D AA [(m0, .inr (6, [.ref nw, .ref ps, .int (nI u), .ref im, .ref mk, .int (nI sd), .ref wd, .int (nI s), .ref so, .int (nI q), .ref mb, .ref ma, .ref mf, .ref mw, .ref ml, .ref mu, .int (nI br), .ref wt, .int (nI ww), .ref ty])), (nw, .inl (cI, 241, .inl (nF NW))), (ps, .inl (cI, 4820, .inl (nF PS))), (im, .inl (cI, 484, .inl (nF IM))), (mk, .inl (cZ, 2, .inl (nF MK))), (wd, .inl (cI, 8, .inl (nF WD))), (so, .inl (cI, 24, .inl (nF SO))), (mb, .inl (cI, 24, .inl (nF EB))), (ma, .inl (cI, 24, .inl (nF EA))), (mf, .inl (cI, 24, .inl (nF EF))), (mw, .inl (cI, 24, .inl (nF EW))), (ml, .inl (cI, 24, .inl (nF EL))), (mu, .inl (cI, 24, .inl (oF EU))), (wt, .inl (cI, 200, .inl (oF WT))), (ty, .inl (cI, 8, .inl (nF (va_cpy WD TY 0 0 8))))] := hD.sub [0, 1, 2, 3, 4, 13, 5, 6, 7, 8, 9, 10, 11, 12, 14] (by decide) rfl
    refine lv_iconst (v := nI 0) hx hb dX6_drift_33 (by decide +kernel) ?_
    refine lv_istore_n (lv' := [(3, .int (nI 0)), (2, .int (nI s)), (0, .ref m0), (1, .int (nI j))]) hx hb dX6_drift_34 rfl hl (by decide) rfl (fun ls hl => ?_)
    have loop35 : ∀ (d : Nat) (i : Nat) (Z : ZT) (N : Nat → Nat) (Q : Nat → Nat) (WZ : Nat → Nat) (zl : Nat) (H : Heap) (locs : List Loc) (ls : Array Slot), j - i < d → (i ≤ j) → (Z = dit i (KL, KS, KW, n, sd, nx, u, HL, HS, HW, HC)) → (KOK Z.2.1 Z.1 Z.2.2.1 Z.2.2.2.1) → (RN N Z.2.1 Z.1 Z.2.2.1 Z.2.2.2.1) → (SimP Z.2.2.2.2.2.1 Z.2.2.2.2.2.2.1 Z.2.2.2.2.2.2.2.1 Z.2.2.2.2.2.2.2.2.1 Z.2.2.2.2.2.2.2.2.2.1 Z.2.2.2.2.2.2.2.2.2.2 Q) → va_P D vwCl [(m0, .inr (6, [.ref nw, .ref ps, .int (nI Z.2.2.2.2.2.2.1), .ref im, .ref mk, .int (nI Z.2.2.2.2.1), .ref wd, .int (nI zl), .ref so, .int (nI q), .ref mb, .ref ma, .ref mf, .ref mw, .ref ml, .ref mu, .int (nI br), .ref wt, .int (nI ww), .ref ty])), (nw, .inl (cI, 241, .inl (nF N))), (ps, .inl (cI, 4820, .inl (nF Q))), (im, .inl (cI, 484, .inl (nF IM))), (mk, .inl (cZ, 2, .inl (nF MK))), (wd, .inl (cI, 8, .inl (nF WZ))), (so, .inl (cI, 24, .inl (nF SO))), (mb, .inl (cI, 24, .inl (nF EB))), (ma, .inl (cI, 24, .inl (nF EA))), (mf, .inl (cI, 24, .inl (nF EF))), (mw, .inl (cI, 24, .inl (nF EW))), (ml, .inl (cI, 24, .inl (nF EL))), (mu, .inl (cI, 24, .inl (oF EU))), (wt, .inl (cI, 200, .inl (oF WT))), (ty, .inl (cI, 8, .inl (nF (va_cpy WD TY 0 0 8))))] H → va_D AA [(m0, .inr (6, [.ref nw, .ref ps, .int (nI Z.2.2.2.2.2.2.1), .ref im, .ref mk, .int (nI Z.2.2.2.2.1), .ref wd, .int (nI zl), .ref so, .int (nI q), .ref mb, .ref ma, .ref mf, .ref mw, .ref ml, .ref mu, .int (nI br), .ref wt, .int (nI ww), .ref ty])), (nw, .inl (cI, 241, .inl (nF N))), (ps, .inl (cI, 4820, .inl (nF Q))), (im, .inl (cI, 484, .inl (nF IM))), (mk, .inl (cZ, 2, .inl (nF MK))), (wd, .inl (cI, 8, .inl (nF WZ))), (so, .inl (cI, 24, .inl (nF SO))), (mb, .inl (cI, 24, .inl (nF EB))), (ma, .inl (cI, 24, .inl (nF EA))), (mf, .inl (cI, 24, .inl (nF EF))), (mw, .inl (cI, 24, .inl (nF EW))), (ml, .inl (cI, 24, .inl (nF EL))), (mu, .inl (cI, 24, .inl (oF EU))), (wt, .inl (cI, 200, .inl (oF WT))), (ty, .inl (cI, 8, .inl (nF (va_cpy WD TY 0 0 8))))] → va_S AA ss.heap H locs → lv_has ls 4 [(0, .ref m0), (1, .int (nI j)), (2, .int (nI s)), (3, .int (nI i))] → W pp l ee (rmN 8 179) ss mm [.ref m0, .int (nI j)].toArray below meth cd H locs 0 0 (MQ below (QW D AA (fun x w => x = some (.int (nI (dit j (KL, KS, KW, n, sd, nx, u, HL, HS, HW, HC)).2.2.2.1)) ∧ ∃ N Q WZ TZ : Nat → Nat, w = [(m0, .inr (6, [.ref nw, .ref ps, .int (nI ((dit j (KL, KS, KW, n, sd, nx, u, HL, HS, HW, HC)).2.2.2.2.2.2.1)), .ref im, .ref mk, .int (nI ((dit j (KL, KS, KW, n, sd, nx, u, HL, HS, HW, HC)).2.2.2.2.1)), .ref wd, .int (nI s), .ref so, .int (nI q), .ref mb, .ref ma, .ref mf, .ref mw, .ref ml, .ref mu, .int (nI br), .ref wt, .int (nI ww), .ref ty])), (nw, .inl (cI, 241, .inl (nF N))), (ps, .inl (cI, 4820, .inl (nF Q))), (im, .inl (cI, 484, .inl (nF IM))), (mk, .inl (cZ, 2, .inl (nF MK))), (wd, .inl (cI, 8, .inl (nF WZ))), (so, .inl (cI, 24, .inl (nF SO))), (mb, .inl (cI, 24, .inl (nF EB))), (ma, .inl (cI, 24, .inl (nF EA))), (mf, .inl (cI, 24, .inl (nF EF))), (mw, .inl (cI, 24, .inl (nF EW))), (ml, .inl (cI, 24, .inl (nF EL))), (mu, .inl (cI, 24, .inl (oF EU))), (wt, .inl (cI, 200, .inl (oF WT))), (ty, .inl (cI, 8, .inl (nF TZ)))] ∧ RN N (dit j (KL, KS, KW, n, sd, nx, u, HL, HS, HW, HC)).2.1 (dit j (KL, KS, KW, n, sd, nx, u, HL, HS, HW, HC)).1 (dit j (KL, KS, KW, n, sd, nx, u, HL, HS, HW, HC)).2.2.1 (dit j (KL, KS, KW, n, sd, nx, u, HL, HS, HW, HC)).2.2.2.1 ∧ SimP (dit j (KL, KS, KW, n, sd, nx, u, HL, HS, HW, HC)).2.2.2.2.2.1 (dit j (KL, KS, KW, n, sd, nx, u, HL, HS, HW, HC)).2.2.2.2.2.2.1 (dit j (KL, KS, KW, n, sd, nx, u, HL, HS, HW, HC)).2.2.2.2.2.2.2.1 (dit j (KL, KS, KW, n, sd, nx, u, HL, HS, HW, HC)).2.2.2.2.2.2.2.2.1 (dit j (KL, KS, KW, n, sd, nx, u, HL, HS, HW, HC)).2.2.2.2.2.2.2.2.2.1 (dit j (KL, KS, KW, n, sd, nx, u, HL, HS, HW, HC)).2.2.2.2.2.2.2.2.2.2 Q ∧ RW WZ s A)) [.ref m0, .int (nI j)].toArray ss 0 0 AA) (F0 mm 35 ls []) := by
      intro d
      induction d with
      | zero => intro i Z N Q WZ zl H locs ls h; exact absurd h (Nat.not_lt_zero _)
      | succ d ih35 =>
        intro i Z N Q WZ zl H locs ls hd35 hi hZ hKO hRN hSQ hP hD hS hl
        obtain ⟨hZ1, hZ2, hZ3, hZ4, hZ5⟩ : Zok Z := by rw [hZ]; exact Zok_it hZ0 i
        refine lv_iload_n hx hb dX6_drift_35 rfl (lv_at hl 3 rfl) ?_
        refine lv_iload_n hx hb dX6_drift_36 rfl (lv_at hl 1 rfl) ?_
        refine n_ge (tgt := 50) hx hb dX6_drift_37 (by decide) (by omega) (by omega) (fun c5 => ?_) (fun c5 => ?_)
        ·
          have hij : i = j := by omega
          refine lv_aload_n hx hb dX6_drift_50 rfl (lv_at hl 0 rfl) ?_
          refine lv_iload_n hx hb dX6_drift_51 rfl (lv_at hl 2 rfl) ?_
          refine va_put (D := D) (ci := 6) (v := .int (nI s)) (ty := .int) (C := RX6) (T := TX6) (N := 20) hx hb hts inX6 tyX6 tyX6_ok nmX6 hown hK hP hD hS 0 rfl rfl 7 (by decide) (hts _ mf_X6_53) (fun _ h9 => h9) rfl (by decide +kernel) rfl rfl (Nat.le_of_ble_eq_true rfl) dX6_drift_52 (fun H locs hP hD hS => ?_)
          have hP : va_P D vwCl [(m0, .inr (6, [.ref nw, .ref ps, .int (nI Z.2.2.2.2.2.2.1), .ref im, .ref mk, .int (nI Z.2.2.2.2.1), .ref wd, .int (nI s), .ref so, .int (nI q), .ref mb, .ref ma, .ref mf, .ref mw, .ref ml, .ref mu, .int (nI br), .ref wt, .int (nI ww), .ref ty])), (nw, .inl (cI, 241, .inl (nF N))), (ps, .inl (cI, 4820, .inl (nF Q))), (im, .inl (cI, 484, .inl (nF IM))), (mk, .inl (cZ, 2, .inl (nF MK))), (wd, .inl (cI, 8, .inl (nF WZ))), (so, .inl (cI, 24, .inl (nF SO))), (mb, .inl (cI, 24, .inl (nF EB))), (ma, .inl (cI, 24, .inl (nF EA))), (mf, .inl (cI, 24, .inl (nF EF))), (mw, .inl (cI, 24, .inl (nF EW))), (ml, .inl (cI, 24, .inl (nF EL))), (mu, .inl (cI, 24, .inl (oF EU))), (wt, .inl (cI, 200, .inl (oF WT))), (ty, .inl (cI, 8, .inl (nF (va_cpy WD TY 0 0 8))))] H := hP
          have hD : va_D AA [(m0, .inr (6, [.ref nw, .ref ps, .int (nI Z.2.2.2.2.2.2.1), .ref im, .ref mk, .int (nI Z.2.2.2.2.1), .ref wd, .int (nI s), .ref so, .int (nI q), .ref mb, .ref ma, .ref mf, .ref mw, .ref ml, .ref mu, .int (nI br), .ref wt, .int (nI ww), .ref ty])), (nw, .inl (cI, 241, .inl (nF N))), (ps, .inl (cI, 4820, .inl (nF Q))), (im, .inl (cI, 484, .inl (nF IM))), (mk, .inl (cZ, 2, .inl (nF MK))), (wd, .inl (cI, 8, .inl (nF WZ))), (so, .inl (cI, 24, .inl (nF SO))), (mb, .inl (cI, 24, .inl (nF EB))), (ma, .inl (cI, 24, .inl (nF EA))), (mf, .inl (cI, 24, .inl (nF EF))), (mw, .inl (cI, 24, .inl (nF EW))), (ml, .inl (cI, 24, .inl (nF EL))), (mu, .inl (cI, 24, .inl (oF EU))), (wt, .inl (cI, 200, .inl (oF WT))), (ty, .inl (cI, 8, .inl (nF (va_cpy WD TY 0 0 8))))] := hD
          refine lv_aload_n hx hb dX6_drift_55 rfl (lv_at hl 0 rfl) ?_
          refine va_get (D := D) (ci := 6) (v := .ref ty) (C := RX6) (T := TX6) (N := 20) hx hb hts inX6 hown hK hP 0 rfl rfl 19 (by decide) (hts _ mf_X6_50) (fun _ h9 => h9) rfl dX6_drift_56 ?_
          refine lv_iconst (v := nI 0) hx hb dX6_drift_59 (by decide +kernel) ?_
          refine lv_aload_n hx hb dX6_drift_60 rfl (lv_at hl 0 rfl) ?_
          refine va_get (D := D) (ci := 6) (v := .ref wd) (C := RX6) (T := TX6) (N := 20) hx hb hts inX6 hown hK hP 0 rfl rfl 6 (by decide) (hts _ mf_X6_23) (fun _ h9 => h9) rfl dX6_drift_61 ?_
          refine lv_iconst (v := nI 0) hx hb dX6_drift_64 (by decide +kernel) ?_
          refine lv_bipush (v := nI 8) hx hb dX6_drift_65 (by decide +kernel) ?_
          refine wr_S (As := [.ref ty, .int (nI 0), .ref wd, .int (nI 0), .int (nI 8)]) (rest := []) (wc := [(ty, .inl (cI, 8, .inl (nF (va_cpy WD TY 0 0 8)))), (wd, .inl (cI, 8, .inl (nF WZ)))]) (wr := [(m0, .inr (6, [.ref nw, .ref ps, .int (nI Z.2.2.2.2.2.2.1), .ref im, .ref mk, .int (nI Z.2.2.2.2.1), .ref wd, .int (nI s), .ref so, .int (nI q), .ref mb, .ref ma, .ref mf, .ref mw, .ref ml, .ref mu, .int (nI br), .ref wt, .int (nI ww), .ref ty])), (nw, .inl (cI, 241, .inl (nF N))), (ps, .inl (cI, 4820, .inl (nF Q))), (im, .inl (cI, 484, .inl (nF IM))), (mk, .inl (cZ, 2, .inl (nF MK))), (so, .inl (cI, 24, .inl (nF SO))), (mb, .inl (cI, 24, .inl (nF EB))), (ma, .inl (cI, 24, .inl (nF EA))), (mf, .inl (cI, 24, .inl (nF EF))), (mw, .inl (cI, 24, .inl (nF EW))), (ml, .inl (cI, 24, .inl (nF EL))), (mu, .inl (cI, 24, .inl (oF EU))), (wt, .inl (cI, 200, .inl (oF WT)))]) ⟨hx, hb, hml, hown, hts⟩ (c_X6_copies l D cI cJ cZ ty wd 8 8 0 0 8 (va_cpy WD TY 0 0 8) WZ (by decide) (by decide) (by omega) (by omega) _) (k_X6_90 hts ⟨Nat.le_of_ble_eq_true rfl, Nat.le_of_ble_eq_true rfl⟩) hK hN hP hD hS hAA [14, 5] [0, 1, 2, 3, 4, 6, 7, 8, 9, 10, 11, 12, 13] rfl rfl (by decide) (by decide) (by decide) rfl hl.1 rfl (Nat.le_of_ble_eq_true rfl) dX6_drift_67 ⟨Nat.le_of_ble_eq_true rfl, Nat.le_of_ble_eq_true rfl⟩ (fun v7 w8 H locs hp6 hP hD hS => ?_)
          obtain ⟨rfl, rfl⟩ := hp6
          have hP : va_P D vwCl [(m0, .inr (6, [.ref nw, .ref ps, .int (nI Z.2.2.2.2.2.2.1), .ref im, .ref mk, .int (nI Z.2.2.2.2.1), .ref wd, .int (nI s), .ref so, .int (nI q), .ref mb, .ref ma, .ref mf, .ref mw, .ref ml, .ref mu, .int (nI br), .ref wt, .int (nI ww), .ref ty])), (nw, .inl (cI, 241, .inl (nF N))), (ps, .inl (cI, 4820, .inl (nF Q))), (im, .inl (cI, 484, .inl (nF IM))), (mk, .inl (cZ, 2, .inl (nF MK))), (wd, .inl (cI, 8, .inl (nF (va_cpy (va_cpy WD TY 0 0 8) WZ 0 0 8)))), (so, .inl (cI, 24, .inl (nF SO))), (mb, .inl (cI, 24, .inl (nF EB))), (ma, .inl (cI, 24, .inl (nF EA))), (mf, .inl (cI, 24, .inl (nF EF))), (mw, .inl (cI, 24, .inl (nF EW))), (ml, .inl (cI, 24, .inl (nF EL))), (mu, .inl (cI, 24, .inl (oF EU))), (wt, .inl (cI, 200, .inl (oF WT))), (ty, .inl (cI, 8, .inl (nF (va_cpy WD TY 0 0 8))))] H := hP.sub [0, 1, 2, 3, 4, 14, 5, 6, 7, 8, 9, 10, 11, 12, 13] rfl
          have hD : va_D AA [(m0, .inr (6, [.ref nw, .ref ps, .int (nI Z.2.2.2.2.2.2.1), .ref im, .ref mk, .int (nI Z.2.2.2.2.1), .ref wd, .int (nI s), .ref so, .int (nI q), .ref mb, .ref ma, .ref mf, .ref mw, .ref ml, .ref mu, .int (nI br), .ref wt, .int (nI ww), .ref ty])), (nw, .inl (cI, 241, .inl (nF N))), (ps, .inl (cI, 4820, .inl (nF Q))), (im, .inl (cI, 484, .inl (nF IM))), (mk, .inl (cZ, 2, .inl (nF MK))), (wd, .inl (cI, 8, .inl (nF (va_cpy (va_cpy WD TY 0 0 8) WZ 0 0 8)))), (so, .inl (cI, 24, .inl (nF SO))), (mb, .inl (cI, 24, .inl (nF EB))), (ma, .inl (cI, 24, .inl (nF EA))), (mf, .inl (cI, 24, .inl (nF EF))), (mw, .inl (cI, 24, .inl (nF EW))), (ml, .inl (cI, 24, .inl (nF EL))), (mu, .inl (cI, 24, .inl (oF EU))), (wt, .inl (cI, 200, .inl (oF WT))), (ty, .inl (cI, 8, .inl (nF (va_cpy WD TY 0 0 8))))] := hD.sub [0, 1, 2, 3, 4, 14, 5, 6, 7, 8, 9, 10, 11, 12, 13] (by decide) rfl
          refine lv_aload_n hx hb dX6_drift_70 rfl (lv_at hl 0 rfl) ?_
          refine va_get (D := D) (ci := 6) (v := .ref nw) (C := RX6) (T := TX6) (N := 20) hx hb hts inX6 hown hK hP 0 rfl rfl 0 (by decide) (hts _ mf_X6_7) (fun _ h9 => h9) rfl dX6_drift_71 ?_
          refine lv_iconst (v := nI 0) hx hb dX6_drift_74 (by decide +kernel) ?_
          refine n_iald hx hb hK hP 1 0 rfl rfl (k := 0) (by omega) (by decide) dX6_drift_75 ?_
          refine tq (y := nI Z.2.2.2.1) (congrArg nI (hRN.1)) ?_
          exact wr_iret hx hb hr hlk hP hD hS dX6_drift_76 (by rw [← hij, ← hZ]; exact ⟨rfl, N, Q, _, _, rfl, hRN, hSQ, fun y hy => by rw [cpy0 (by omega), Nat.zero_add, cpy0 (by omega), Nat.zero_add]; exact hRW y hy⟩)
        ·
          refine lv_aload_n hx hb dX6_drift_40 rfl (lv_at hl 0 rfl) ?_
          refine wr_V (As := []) (rest := []) (wc := [(m0, .inr (6, [.ref nw, .ref ps, .int (nI Z.2.2.2.2.2.2.1), .ref im, .ref mk, .int (nI Z.2.2.2.2.1), .ref wd, .int (nI zl), .ref so, .int (nI q), .ref mb, .ref ma, .ref mf, .ref mw, .ref ml, .ref mu, .int (nI br), .ref wt, .int (nI ww), .ref ty])), (nw, .inl (cI, 241, .inl (nF N))), (ps, .inl (cI, 4820, .inl (nF Q))), (im, .inl (cI, 484, .inl (nF IM))), (mk, .inl (cZ, 2, .inl (nF MK))), (wd, .inl (cI, 8, .inl (nF WZ))), (so, .inl (cI, 24, .inl (nF SO))), (mb, .inl (cI, 24, .inl (nF EB))), (ma, .inl (cI, 24, .inl (nF EA))), (mf, .inl (cI, 24, .inl (nF EF))), (mw, .inl (cI, 24, .inl (nF EW))), (ml, .inl (cI, 24, .inl (nF EL))), (mu, .inl (cI, 24, .inl (oF EU))), (wt, .inl (cI, 200, .inl (oF WT))), (ty, .inl (cI, 8, .inl (nF (va_cpy WD TY 0 0 8))))]) (wr := []) ⟨hx, hb, hml, hown, hts⟩ (c_X6_drifts l D cI cJ cZ m0 nw ps im mk wd so mb ma mf mw ml mu wt ty N Q Z.2.2.2.2.2.2.1 IM MK Z.2.2.2.2.1 WZ zl SO q EB EA EF EW EL EU br WT ww (va_cpy WD TY 0 0 8) Z.2.1 Z.1 Z.2.2.1 Z.2.2.2.1 hZ1 hZ2 hRN hZ5 hZ3 _) (k_X6_165 hts ⟨Nat.le_of_ble_eq_true rfl, Nat.le_of_ble_eq_true rfl⟩) hK hN hP hD hS hAA 0 rfl rfl rfl [0, 1, 2, 3, 4, 5, 6, 7, 8, 9, 10, 11, 12, 13, 14] [] rfl rfl (by decide) (by decide) (by decide) rfl hl.1 rfl (Nat.le_of_ble_eq_true rfl) dX6_drift_41 ⟨Nat.le_of_ble_eq_true rfl, Nat.le_of_ble_eq_true rfl⟩ (fun v10 w11 H locs hp9 hP hD hS => ?_)
          obtain ⟨rfl, N2, Q2, W2, rfl, hRNd, hNd⟩ := hp9
          have hP : va_P D vwCl [(m0, .inr (6, [.ref nw, .ref ps, .int (nI (min 20 (Z.2.2.2.2.2.2.1 + 1))), .ref im, .ref mk, .int (nI ((deed Z.1 Z.2.1 Z.2.2.1 Z.2.2.2.1 Z.2.2.2.2.1).2.2.2.2)), .ref wd, .int (nI (dwc Z.2.2.2.2.1)), .ref so, .int (nI q), .ref mb, .ref ma, .ref mf, .ref mw, .ref ml, .ref mu, .int (nI br), .ref wt, .int (nI ww), .ref ty])), (nw, .inl (cI, 241, .inl (nF N2))), (ps, .inl (cI, 4820, .inl (nF Q2))), (im, .inl (cI, 484, .inl (nF IM))), (mk, .inl (cZ, 2, .inl (nF MK))), (wd, .inl (cI, 8, .inl (nF W2))), (so, .inl (cI, 24, .inl (nF SO))), (mb, .inl (cI, 24, .inl (nF EB))), (ma, .inl (cI, 24, .inl (nF EA))), (mf, .inl (cI, 24, .inl (nF EF))), (mw, .inl (cI, 24, .inl (nF EW))), (ml, .inl (cI, 24, .inl (nF EL))), (mu, .inl (cI, 24, .inl (oF EU))), (wt, .inl (cI, 200, .inl (oF WT))), (ty, .inl (cI, 8, .inl (nF (va_cpy WD TY 0 0 8))))] H := hP.sub [0, 1, 2, 3, 4, 5, 6, 7, 8, 9, 10, 11, 12, 13, 14] rfl
          have hD : va_D AA [(m0, .inr (6, [.ref nw, .ref ps, .int (nI (min 20 (Z.2.2.2.2.2.2.1 + 1))), .ref im, .ref mk, .int (nI ((deed Z.1 Z.2.1 Z.2.2.1 Z.2.2.2.1 Z.2.2.2.2.1).2.2.2.2)), .ref wd, .int (nI (dwc Z.2.2.2.2.1)), .ref so, .int (nI q), .ref mb, .ref ma, .ref mf, .ref mw, .ref ml, .ref mu, .int (nI br), .ref wt, .int (nI ww), .ref ty])), (nw, .inl (cI, 241, .inl (nF N2))), (ps, .inl (cI, 4820, .inl (nF Q2))), (im, .inl (cI, 484, .inl (nF IM))), (mk, .inl (cZ, 2, .inl (nF MK))), (wd, .inl (cI, 8, .inl (nF W2))), (so, .inl (cI, 24, .inl (nF SO))), (mb, .inl (cI, 24, .inl (nF EB))), (ma, .inl (cI, 24, .inl (nF EA))), (mf, .inl (cI, 24, .inl (nF EF))), (mw, .inl (cI, 24, .inl (nF EW))), (ml, .inl (cI, 24, .inl (nF EL))), (mu, .inl (cI, 24, .inl (oF EU))), (wt, .inl (cI, 200, .inl (oF WT))), (ty, .inl (cI, 8, .inl (nF (va_cpy WD TY 0 0 8))))] := hD.sub [0, 1, 2, 3, 4, 5, 6, 7, 8, 9, 10, 11, 12, 13, 14] (by decide) rfl
          refine lv_iinc (v := nI (i + 1)) (lv' := [(3, .int (nI (i + 1))), (0, .ref m0), (1, .int (nI j)), (2, .int (nI s))]) hx hb dX6_drift_44 hl (k := 3) rfl (nI_add i 1) (by decide) rfl (fun ls hl => ?_)
          refine lv_goto (tgt := 35) hx hb dX6_drift_47 (by decide) ?_
          exact ih35 (i + 1) (dstep Z) N2 Q2 W2 (dwc Z.2.2.2.2.1) _ _ ls (by omega) (by omega) (by rw [hZ]; rfl) (kok_deed hKO) hRNd (note_sim hSQ hZ4 hZ5 hKO hRN hNd) hP hD hS (lv_sub hl [1, 2, 3, 0] rfl)
    exact loop35 _ 0 ((KL, KS, KW, n, sd, nx, u, HL, HS, HW, HC)) NW PS WD s _ _ ls (Nat.lt_succ_self _) (Nat.zero_le _) rfl ⟨hn, hk, hv, hso⟩ hR hSP hP hD hS (lv_sub hl [2, 3, 1, 0] rfl)
  ·
    exact (c1 (by omega)).elim
