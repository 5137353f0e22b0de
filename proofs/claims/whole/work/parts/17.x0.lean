/-! ===== Branches ===== -/
theorem mx_o {N : Nat} (h : N < 2 ^ 31) : (if nI 0 < oI N then oI N else nI 0) = nI (N - 1) := by
  have h1 := oI_toInt h
  have h2 := nI_toInt (n := 0) (by decide)
  by_cases g : nI 0 < oI N
  · rw [if_pos g]
    rw [Int32.lt_iff_toInt_lt, h1, h2] at g
    exact oI_p (by omega)
  · rw [if_neg g]
    rw [Int32.lt_iff_toInt_lt, h1, h2] at g
    rw [show N - 1 = 0 by omega]
theorem mx_on {g x : Nat} (hg : g < 2 ^ 31) (hx : x + 1 < 2 ^ 31) : (if oI g < nI x then nI x else oI g) = oI (max g (x + 1)) := by
  have h1 := oI_toInt hg
  have h2 := nI_toInt (n := x) (by omega)
  by_cases q : oI g < nI x
  · rw [if_pos q]
    rw [Int32.lt_iff_toInt_lt, h1, h2] at q
    rw [Nat.max_eq_right (by omega), oI_s]
  · rw [if_neg q]
    rw [Int32.lt_iff_toInt_lt, h1, h2] at q
    rw [Nat.max_eq_left (by omega)]
theorem mx_s {g a r : Nat} (hg : g < 2 ^ 31) (ha : a < 2 ^ 30) (hr : r ≤ 1) : (if nI g < nI a - nI r then nI a - nI r else nI g) = nI (max g (a - r)) := by
  have h1 := pk_sub_toInt ha (show r < 2 ^ 30 by omega)
  have h2 := nI_toInt hg
  by_cases q : nI g < nI a - nI r
  · rw [if_pos q]
    rw [Int32.lt_iff_toInt_lt, h1, h2] at q
    rw [Nat.max_eq_right (by omega), pk_sub (by omega)]
  · rw [if_neg q]
    rw [Int32.lt_iff_toInt_lt, h1, h2] at q
    rw [Nat.max_eq_left (by omega)]
def mxo (BB : Nat → Nat) : Nat → Nat
  | 0 => 0
  | i + 1 => max (mxo BB i) (BB i + 1)
theorem mxo_le {BB : Nat → Nat} {M : Nat} : ∀ {n : Nat}, (∀ i, i < n → BB i + 1 ≤ M) → mxo BB n ≤ M
  | 0, _ => Nat.zero_le _
  | n + 1, h => by
    have a := mxo_le (n := n) (fun i hi => h i (by omega))
    have b := h n (by omega)
    show max (mxo BB n) (BB n + 1) ≤ M
    omega
def dok (BK BD : Nat → Nat) (k : Nat) : Nat := if BK k = 0 then 0 else BD (BK k - 1) + 1
def mxd (F : Nat → Nat) : Nat → Nat
  | 0 => 0
  | i + 1 => max (mxd F i) (F i)
theorem mxd_le {F : Nat → Nat} {M : Nat} : ∀ {n : Nat}, (∀ i, i < n → F i ≤ M) → mxd F n ≤ M
  | 0, _ => Nat.zero_le _
  | n + 1, h => by
    have a := mxd_le (n := n) (fun i hi => h i (by omega))
    have b := h n (by omega)
    show max (mxd F n) (F n) ≤ M
    omega
def blw (BF BM : Nat → Nat) (N e k : Nat) : Prop := 0 < e ∧ e < N ∧ BF (e - 1) ≤ k ∧ k < BF (e - 1) + BM (e - 1)
theorem blw_def (BF BM : Nat → Nat) (N e k : Nat) : blw BF BM N e k ↔ 0 < e ∧ e < N ∧ BF (e - 1) ≤ k ∧ k < BF (e - 1) + BM (e - 1) := Iff.rfl
/-- the greatest depth but of key j, those below e one less -/
def mxw (F BF BM : Nat → Nat) (N j e : Nat) : Nat → Nat
  | 0 => 0
  | i + 1 => if i = j then mxw F BF BM N j e i else max (mxw F BF BM N j e i) (F i - (if 0 < e ∧ e < N ∧ BF (e - 1) ≤ i ∧ i < BF (e - 1) + BM (e - 1) then 1 else 0))
theorem mxw_le {F BF BM : Nat → Nat} {N j e M : Nat} : ∀ {n : Nat}, (∀ i, i < n → F i ≤ M) → mxw F BF BM N j e n ≤ M
  | 0, _ => Nat.zero_le _
  | n + 1, h => by
    have a := mxw_le (F := F) (BF := BF) (BM := BM) (N := N) (j := j) (e := e) (n := n) (fun i hi => h i (by omega))
    have b := h n (by omega)
    unfold mxw
    split
    · exact a
    · omega
noncomputable def kr (BB BM BL BF : Nat → Nat) (s A : Nat) : Nat → Nat → Nat
  | 0, _ => 0
  | t + 1, b => if bitr s A (BB b) = 1 then (if BM b - BL b = 1 then BF b + BL b + 1 else kr BB BM BL BF s A t (b + BL b)) else (if BL b = 1 then BF b + 1 else kr BB BM BL BF s A t (b + 1))
def anc (BA : Nat → Nat) : Nat → Nat → Nat
  | 0, x => x
  | j + 1, x => BA (anc BA j x - 1) 
set_option maxHeartbeats 4000000 in
set_option maxRecDepth 100000 in
theorem c_X0_count (l : Launch) (D : va_G) (cI cJ cZ : ClassId) (b0 bb bd bm bl bf ba bk bg : Nat) (BB BD BM BL BF BA BK BG : Nat → Nat) (N : Nat) (hN : N ≤ 24) : RO l yX0_count cX0_count 1 (some .int) (rmN 1 21) D (ty3 cI cJ cZ) [.ref b0] [(b0, .inr (0, [.ref bb, .ref bd, .ref bm, .ref bl, .ref bf, .ref ba, .ref bk, .ref bg, .int (nI N)])), (bb, .inl (cI, 24, .inl (nF BB))), (bd, .inl (cI, 24, .inl (nF BD))), (bm, .inl (cI, 24, .inl (nF BM))), (bl, .inl (cI, 24, .inl (nF BL))), (bf, .inl (cI, 24, .inl (nF BF))), (ba, .inl (cI, 24, .inl (oF BA))), (bk, .inl (cI, 24, .inl (oF BK))), (bg, .inl (cI, 24, .inl (nF BG)))] (.int (nI (N - 1))) := by
  refine ro_start (by decide) (Nat.le_of_ble_eq_true rfl) ?_
  intro pp ee ss mm below meth cd C0 hP hK ls hl
  obtain ⟨hx, hb, hr, hml, hown, hts, hlk⟩ := C0
  have hown : ss.vm.findClass RX0 = some mm.cls := hown
  have hl : lv_has ls 1 [(0, .ref b0)] := hl
  have hP : va_P D vwCl [(b0, .inr (0, [.ref bb, .ref bd, .ref bm, .ref bl, .ref bf, .ref ba, .ref bk, .ref bg, .int (nI N)])), (bb, .inl (cI, 24, .inl (nF BB))), (bd, .inl (cI, 24, .inl (nF BD))), (bm, .inl (cI, 24, .inl (nF BM))), (bl, .inl (cI, 24, .inl (nF BL))), (bf, .inl (cI, 24, .inl (nF BF))), (ba, .inl (cI, 24, .inl (oF BA))), (bk, .inl (cI, 24, .inl (oF BK))), (bg, .inl (cI, 24, .inl (nF BG)))] ss.heap := hP
  refine lv_iconst (v := nI 0) hx hb dX0_count_0 (by decide +kernel) ?_
  refine lv_aload_n hx hb dX0_count_1 rfl (lv_at hl 0 rfl) ?_
  refine va_get (D := D) (ci := 0) (v := .int (nI N)) (C := RX0) (T := TX0) (N := 9) hx hb hts inX0 hown hK hP 0 rfl rfl 8 (by decide) (hts _ mf_X0_36) (fun _ h9 => h9) rfl dX0_count_2 ?_
  refine lv_iconst (v := nI 1) hx hb dX0_count_5 (by decide +kernel) ?_
  refine lv_isub hx hb dX0_count_6 ?_
  refine tq (y := (oI N)) (by show nI N - nI 1 = nI N - 1; rw [nI_one]) ?_
  refine va_mmax hx hb (hml.trans hl.1.symm) hown (hts _ ml_X0_40) (hts _ ms_Math_max) (hts _ mn_Math) (hts _ mc_Math_max) (Nat.le_of_ble_eq_true rfl) (Nat.le_of_ble_eq_true rfl) (Nat.le_of_ble_eq_true rfl) (Nat.le_of_ble_eq_true rfl) dX0_count_7 ?_
  refine tq (y := (nI (N - 1))) (mx_o (by omega)) ?_
  exact ro_iret hx hb hr hlk dX0_count_10 (rfl)
set_option maxHeartbeats 4000000 in
set_option maxRecDepth 100000 in
theorem c_X0_has (l : Launch) (D : va_G) (cI cJ cZ : ClassId) (b0 bb bd bm bl bf ba bk bg : Nat) (BB BD BM BL BF BA BK BG : Nat → Nat) (N : Nat) (hN : N ≤ 24) (j : Nat) (hj : j < 2 ^ 31) : RO l yX0_has cX0_has 2 (some .boolean) (rmN 2 41) D (ty3 cI cJ cZ) [.ref b0, .int (nI j)] [(b0, .inr (0, [.ref bb, .ref bd, .ref bm, .ref bl, .ref bf, .ref ba, .ref bk, .ref bg, .int (nI N)])), (bb, .inl (cI, 24, .inl (nF BB))), (bd, .inl (cI, 24, .inl (nF BD))), (bm, .inl (cI, 24, .inl (nF BM))), (bl, .inl (cI, 24, .inl (nF BL))), (bf, .inl (cI, 24, .inl (nF BF))), (ba, .inl (cI, 24, .inl (oF BA))), (bk, .inl (cI, 24, .inl (oF BK))), (bg, .inl (cI, 24, .inl (nF BG)))] (.int (if j < N - 1 then 1 else 0)) := by
  refine ro_start (by decide) (Nat.le_of_ble_eq_true rfl) ?_
  intro pp ee ss mm below meth cd C0 hP hK ls hl
  obtain ⟨hx, hb, hr, hml, hown, hts, hlk⟩ := C0
  have hown : ss.vm.findClass RX0 = some mm.cls := hown
  have hl : lv_has ls 2 [(0, .ref b0), (1, .int (nI j))] := hl
  have hP : va_P D vwCl [(b0, .inr (0, [.ref bb, .ref bd, .ref bm, .ref bl, .ref bf, .ref ba, .ref bk, .ref bg, .int (nI N)])), (bb, .inl (cI, 24, .inl (nF BB))), (bd, .inl (cI, 24, .inl (nF BD))), (bm, .inl (cI, 24, .inl (nF BM))), (bl, .inl (cI, 24, .inl (nF BL))), (bf, .inl (cI, 24, .inl (nF BF))), (ba, .inl (cI, 24, .inl (oF BA))), (bk, .inl (cI, 24, .inl (oF BK))), (bg, .inl (cI, 24, .inl (nF BG)))] ss.heap := hP
  refine lv_iload_n hx hb dX0_has_0 rfl (lv_at hl 1 rfl) ?_
  refine n_if_lt (tgt := 16) hx hb dX0_has_1 (by decide) (by omega) ?_
  refine lv_iload_n hx hb dX0_has_4 rfl (lv_at hl 1 rfl) ?_
  refine lv_aload_n hx hb dX0_has_5 rfl (lv_at hl 0 rfl) ?_
  refine ro_V (As := []) (rest := [.int (nI j)]) ⟨hx, hb, hml, hown, hts⟩ (c_X0_count l D cI cJ cZ b0 bb bd bm bl bf ba bk bg BB BD BM BL BF BA BK BG N (by omega) ) (k_X0_46 hts ⟨Nat.le_of_ble_eq_true rfl, Nat.le_of_ble_eq_true rfl⟩) hK hP 0 rfl rfl rfl [0, 1, 2, 3, 4, 5, 6, 7, 8] rfl rfl hl.1 rfl (Nat.le_of_ble_eq_true rfl) dX0_has_6 ⟨Nat.le_of_ble_eq_true rfl, Nat.le_of_ble_eq_true rfl⟩ ?_
  refine n_ge (tgt := 16) hx hb dX0_has_9 (by decide) (by omega) (by omega) (fun c2 => ?_) (fun c2 => ?_)
  ·
    refine lv_iconst (v := nI 0) hx hb dX0_has_16 (by decide +kernel) ?_
    exact ro_zret hx hb hr hlk dX0_has_17 nar_b0 (by rw [if_neg (by omega), nI_0])
  ·
    refine lv_iconst (v := nI 1) hx hb dX0_has_12 (by decide +kernel) ?_
    refine lv_goto (tgt := 17) hx hb dX0_has_13 (by decide) ?_
    exact ro_zret hx hb hr hlk dX0_has_17 nar_b1 (by rw [if_pos (by omega), nI_one])
set_option maxHeartbeats 4000000 in
set_option maxRecDepth 100000 in
theorem c_X0_has_neg (l : Launch) (D : va_G) (cI cJ cZ : ClassId) (b0 bb bd bm bl bf ba bk bg : Nat) (BB BD BM BL BF BA BK BG : Nat → Nat) (N : Nat) (hN : N ≤ 24) (x : Int32) (hx0 : x < 0) : RO l yX0_has cX0_has 2 (some .boolean) (rmN 2 41) D (ty3 cI cJ cZ) [.ref b0, .int x] [(b0, .inr (0, [.ref bb, .ref bd, .ref bm, .ref bl, .ref bf, .ref ba, .ref bk, .ref bg, .int (nI N)])), (bb, .inl (cI, 24, .inl (nF BB))), (bd, .inl (cI, 24, .inl (nF BD))), (bm, .inl (cI, 24, .inl (nF BM))), (bl, .inl (cI, 24, .inl (nF BL))), (bf, .inl (cI, 24, .inl (nF BF))), (ba, .inl (cI, 24, .inl (oF BA))), (bk, .inl (cI, 24, .inl (oF BK))), (bg, .inl (cI, 24, .inl (nF BG)))] (.int (nI 0)) := by
  refine ro_start (by decide) (Nat.le_of_ble_eq_true rfl) ?_
  intro pp ee ss mm below meth cd C0 hP hK ls hl
  obtain ⟨hx, hb, hr, hml, hown, hts, hlk⟩ := C0
  have hown : ss.vm.findClass RX0 = some mm.cls := hown
  have hl : lv_has ls 2 [(0, .ref b0), (1, .int x)] := hl
  have hP : va_P D vwCl [(b0, .inr (0, [.ref bb, .ref bd, .ref bm, .ref bl, .ref bf, .ref ba, .ref bk, .ref bg, .int (nI N)])), (bb, .inl (cI, 24, .inl (nF BB))), (bd, .inl (cI, 24, .inl (nF BD))), (bm, .inl (cI, 24, .inl (nF BM))), (bl, .inl (cI, 24, .inl (nF BL))), (bf, .inl (cI, 24, .inl (nF BF))), (ba, .inl (cI, 24, .inl (oF BA))), (bk, .inl (cI, 24, .inl (oF BK))), (bg, .inl (cI, 24, .inl (nF BG)))] ss.heap := hP
  refine lv_iload_n hx hb dX0_has_0 rfl (lv_at hl 1 rfl) ?_
  refine lv_if_lt (tgt := 16) hx hb dX0_has_1 (by decide) (fun c1 => ?_) (fun c1 => ?_)
  ·
    refine lv_iconst (v := nI 0) hx hb dX0_has_16 (by decide +kernel) ?_
    exact ro_zret hx hb hr hlk dX0_has_17 nar_b0 (rfl)
  ·
    exact absurd hx0 c1
theorem c_X0_has_o (l : Launch) (D : va_G) (cI cJ cZ : ClassId) (b0 bb bd bm bl bf ba bk bg : Nat) (BB BD BM BL BF BA BK BG : Nat → Nat) (N : Nat) (hN : N ≤ 24) (e : Nat) (he : e < 2 ^ 31) : RO l yX0_has cX0_has 2 (some .boolean) (rmN 2 41) D (ty3 cI cJ cZ) [.ref b0, .int (oI e)] [(b0, .inr (0, [.ref bb, .ref bd, .ref bm, .ref bl, .ref bf, .ref ba, .ref bk, .ref bg, .int (nI N)])), (bb, .inl (cI, 24, .inl (nF BB))), (bd, .inl (cI, 24, .inl (nF BD))), (bm, .inl (cI, 24, .inl (nF BM))), (bl, .inl (cI, 24, .inl (nF BL))), (bf, .inl (cI, 24, .inl (nF BF))), (ba, .inl (cI, 24, .inl (oF BA))), (bk, .inl (cI, 24, .inl (oF BK))), (bg, .inl (cI, 24, .inl (nF BG)))] (.int (if 0 < e ∧ e < N then 1 else 0)) := by
  cases e with
  | zero =>
    have hx0 : oI 0 < 0 := by decide +kernel
    have h := c_X0_has_neg l D cI cJ cZ b0 bb bd bm bl bf ba bk bg BB BD BM BL BF BA BK BG N hN (oI 0) hx0
    rw [if_neg (by omega), ← nI_0]
    exact h
  | succ e =>
    have h := c_X0_has l D cI cJ cZ b0 bb bd bm bl bf ba bk bg BB BD BM BL BF BA BK BG N hN e (by omega)
    rw [oI_s]
    by_cases g : e < N - 1
    · rw [if_pos g] at h
      rw [if_pos (by omega)]
      exact h
    · rw [if_neg g] at h
      rw [if_neg (by omega)]
      exact h
set_option maxHeartbeats 4000000 in
set_option maxRecDepth 100000 in
theorem c_X0_bitOf (l : Launch) (D : va_G) (cI cJ cZ : ClassId) (b0 bb bd bm bl bf ba bk bg : Nat) (BB BD BM BL BF BA BK BG : Nat → Nat) (N : Nat) (hN : N ≤ 24) (j : Nat) (hj : j < 24) : RO l yX0_bitOf cX0_bitOf 2 (some .int) (rmN 0 0) D (ty3 cI cJ cZ) [.ref b0, .int (nI j)] [(b0, .inr (0, [.ref bb, .ref bd, .ref bm, .ref bl, .ref bf, .ref ba, .ref bk, .ref bg, .int (nI N)])), (bb, .inl (cI, 24, .inl (nF BB))), (bd, .inl (cI, 24, .inl (nF BD))), (bm, .inl (cI, 24, .inl (nF BM))), (bl, .inl (cI, 24, .inl (nF BL))), (bf, .inl (cI, 24, .inl (nF BF))), (ba, .inl (cI, 24, .inl (oF BA))), (bk, .inl (cI, 24, .inl (oF BK))), (bg, .inl (cI, 24, .inl (nF BG)))] (.int (nI (BB j))) := by
  refine ro_start (by decide) (Nat.le_of_ble_eq_true rfl) ?_
  intro pp ee ss mm below meth cd C0 hP hK ls hl
  obtain ⟨hx, hb, hr, hml, hown, hts, hlk⟩ := C0
  have hown : ss.vm.findClass RX0 = some mm.cls := hown
  have hl : lv_has ls 2 [(0, .ref b0), (1, .int (nI j))] := hl
  have hP : va_P D vwCl [(b0, .inr (0, [.ref bb, .ref bd, .ref bm, .ref bl, .ref bf, .ref ba, .ref bk, .ref bg, .int (nI N)])), (bb, .inl (cI, 24, .inl (nF BB))), (bd, .inl (cI, 24, .inl (nF BD))), (bm, .inl (cI, 24, .inl (nF BM))), (bl, .inl (cI, 24, .inl (nF BL))), (bf, .inl (cI, 24, .inl (nF BF))), (ba, .inl (cI, 24, .inl (oF BA))), (bk, .inl (cI, 24, .inl (oF BK))), (bg, .inl (cI, 24, .inl (nF BG)))] ss.heap := hP
  refine lv_aload_n hx hb dX0_bitOf_0 rfl (lv_at hl 0 rfl) ?_
  refine va_get (D := D) (ci := 0) (v := .ref bb) (C := RX0) (T := TX0) (N := 9) hx hb hts inX0 hown hK hP 0 rfl rfl 0 (by decide) (hts _ mf_X0_9) (fun _ h9 => h9) rfl dX0_bitOf_1 ?_
  refine lv_iload_n hx hb dX0_bitOf_4 rfl (lv_at hl 1 rfl) ?_
  refine n_iald hx hb hK hP 1 0 rfl rfl (k := j) (by omega) (by decide) dX0_bitOf_5 ?_
  exact ro_iret hx hb hr hlk dX0_bitOf_6 (rfl)
set_option maxHeartbeats 4000000 in
set_option maxRecDepth 100000 in
theorem c_X0_depthOf (l : Launch) (D : va_G) (cI cJ cZ : ClassId) (b0 bb bd bm bl bf ba bk bg : Nat) (BB BD BM BL BF BA BK BG : Nat → Nat) (N : Nat) (hN : N ≤ 24) (j : Nat) (hj : j < 24) : RO l yX0_depthOf cX0_depthOf 2 (some .int) (rmN 0 0) D (ty3 cI cJ cZ) [.ref b0, .int (nI j)] [(b0, .inr (0, [.ref bb, .ref bd, .ref bm, .ref bl, .ref bf, .ref ba, .ref bk, .ref bg, .int (nI N)])), (bb, .inl (cI, 24, .inl (nF BB))), (bd, .inl (cI, 24, .inl (nF BD))), (bm, .inl (cI, 24, .inl (nF BM))), (bl, .inl (cI, 24, .inl (nF BL))), (bf, .inl (cI, 24, .inl (nF BF))), (ba, .inl (cI, 24, .inl (oF BA))), (bk, .inl (cI, 24, .inl (oF BK))), (bg, .inl (cI, 24, .inl (nF BG)))] (.int (nI (BD j))) := by
  refine ro_start (by decide) (Nat.le_of_ble_eq_true rfl) ?_
  intro pp ee ss mm below meth cd C0 hP hK ls hl
  obtain ⟨hx, hb, hr, hml, hown, hts, hlk⟩ := C0
  have hown : ss.vm.findClass RX0 = some mm.cls := hown
  have hl : lv_has ls 2 [(0, .ref b0), (1, .int (nI j))] := hl
  have hP : va_P D vwCl [(b0, .inr (0, [.ref bb, .ref bd, .ref bm, .ref bl, .ref bf, .ref ba, .ref bk, .ref bg, .int (nI N)])), (bb, .inl (cI, 24, .inl (nF BB))), (bd, .inl (cI, 24, .inl (nF BD))), (bm, .inl (cI, 24, .inl (nF BM))), (bl, .inl (cI, 24, .inl (nF BL))), (bf, .inl (cI, 24, .inl (nF BF))), (ba, .inl (cI, 24, .inl (oF BA))), (bk, .inl (cI, 24, .inl (oF BK))), (bg, .inl (cI, 24, .inl (nF BG)))] ss.heap := hP
  refine lv_aload_n hx hb dX0_depthOf_0 rfl (lv_at hl 0 rfl) ?_
  refine va_get (D := D) (ci := 0) (v := .ref bd) (C := RX0) (T := TX0) (N := 9) hx hb hts inX0 hown hK hP 0 rfl rfl 1 (by decide) (hts _ mf_X0_15) (fun _ h9 => h9) rfl dX0_depthOf_1 ?_
  refine lv_iload_n hx hb dX0_depthOf_4 rfl (lv_at hl 1 rfl) ?_
  refine n_iald hx hb hK hP 2 0 rfl rfl (k := j) (by omega) (by decide) dX0_depthOf_5 ?_
  exact ro_iret hx hb hr hlk dX0_depthOf_6 (rfl)
set_option maxHeartbeats 4000000 in
set_option maxRecDepth 100000 in
theorem c_X0_keysBelow (l : Launch) (D : va_G) (cI cJ cZ : ClassId) (b0 bb bd bm bl bf ba bk bg : Nat) (BB BD BM BL BF BA BK BG : Nat → Nat) (N : Nat) (hN : N ≤ 24) (j : Nat) (hj : j < 24) : RO l yX0_keysBelow cX0_keysBelow 2 (some .int) (rmN 0 0) D (ty3 cI cJ cZ) [.ref b0, .int (nI j)] [(b0, .inr (0, [.ref bb, .ref bd, .ref bm, .ref bl, .ref bf, .ref ba, .ref bk, .ref bg, .int (nI N)])), (bb, .inl (cI, 24, .inl (nF BB))), (bd, .inl (cI, 24, .inl (nF BD))), (bm, .inl (cI, 24, .inl (nF BM))), (bl, .inl (cI, 24, .inl (nF BL))), (bf, .inl (cI, 24, .inl (nF BF))), (ba, .inl (cI, 24, .inl (oF BA))), (bk, .inl (cI, 24, .inl (oF BK))), (bg, .inl (cI, 24, .inl (nF BG)))] (.int (nI (BM j))) := by
  refine ro_start (by decide) (Nat.le_of_ble_eq_true rfl) ?_
  intro pp ee ss mm below meth cd C0 hP hK ls hl
  obtain ⟨hx, hb, hr, hml, hown, hts, hlk⟩ := C0
  have hown : ss.vm.findClass RX0 = some mm.cls := hown
  have hl : lv_has ls 2 [(0, .ref b0), (1, .int (nI j))] := hl
  have hP : va_P D vwCl [(b0, .inr (0, [.ref bb, .ref bd, .ref bm, .ref bl, .ref bf, .ref ba, .ref bk, .ref bg, .int (nI N)])), (bb, .inl (cI, 24, .inl (nF BB))), (bd, .inl (cI, 24, .inl (nF BD))), (bm, .inl (cI, 24, .inl (nF BM))), (bl, .inl (cI, 24, .inl (nF BL))), (bf, .inl (cI, 24, .inl (nF BF))), (ba, .inl (cI, 24, .inl (oF BA))), (bk, .inl (cI, 24, .inl (oF BK))), (bg, .inl (cI, 24, .inl (nF BG)))] ss.heap := hP
  refine lv_aload_n hx hb dX0_keysBelow_0 rfl (lv_at hl 0 rfl) ?_
  refine va_get (D := D) (ci := 0) (v := .ref bm) (C := RX0) (T := TX0) (N := 9) hx hb hts inX0 hown hK hP 0 rfl rfl 2 (by decide) (hts _ mf_X0_18) (fun _ h9 => h9) rfl dX0_keysBelow_1 ?_
  refine lv_iload_n hx hb dX0_keysBelow_4 rfl (lv_at hl 1 rfl) ?_
  refine n_iald hx hb hK hP 3 0 rfl rfl (k := j) (by omega) (by decide) dX0_keysBelow_5 ?_
  exact ro_iret hx hb hr hlk dX0_keysBelow_6 (rfl)
set_option maxHeartbeats 4000000 in
set_option maxRecDepth 100000 in
theorem c_X0_keysLeft (l : Launch) (D : va_G) (cI cJ cZ : ClassId) (b0 bb bd bm bl bf ba bk bg : Nat) (BB BD BM BL BF BA BK BG : Nat → Nat) (N : Nat) (hN : N ≤ 24) (j : Nat) (hj : j < 24) : RO l yX0_keysLeft cX0_keysLeft 2 (some .int) (rmN 0 0) D (ty3 cI cJ cZ) [.ref b0, .int (nI j)] [(b0, .inr (0, [.ref bb, .ref bd, .ref bm, .ref bl, .ref bf, .ref ba, .ref bk, .ref bg, .int (nI N)])), (bb, .inl (cI, 24, .inl (nF BB))), (bd, .inl (cI, 24, .inl (nF BD))), (bm, .inl (cI, 24, .inl (nF BM))), (bl, .inl (cI, 24, .inl (nF BL))), (bf, .inl (cI, 24, .inl (nF BF))), (ba, .inl (cI, 24, .inl (oF BA))), (bk, .inl (cI, 24, .inl (oF BK))), (bg, .inl (cI, 24, .inl (nF BG)))] (.int (nI (BL j))) := by
  refine ro_start (by decide) (Nat.le_of_ble_eq_true rfl) ?_
  intro pp ee ss mm below meth cd C0 hP hK ls hl
  obtain ⟨hx, hb, hr, hml, hown, hts, hlk⟩ := C0
  have hown : ss.vm.findClass RX0 = some mm.cls := hown
  have hl : lv_has ls 2 [(0, .ref b0), (1, .int (nI j))] := hl
  have hP : va_P D vwCl [(b0, .inr (0, [.ref bb, .ref bd, .ref bm, .ref bl, .ref bf, .ref ba, .ref bk, .ref bg, .int (nI N)])), (bb, .inl (cI, 24, .inl (nF BB))), (bd, .inl (cI, 24, .inl (nF BD))), (bm, .inl (cI, 24, .inl (nF BM))), (bl, .inl (cI, 24, .inl (nF BL))), (bf, .inl (cI, 24, .inl (nF BF))), (ba, .inl (cI, 24, .inl (oF BA))), (bk, .inl (cI, 24, .inl (oF BK))), (bg, .inl (cI, 24, .inl (nF BG)))] ss.heap := hP
  refine lv_aload_n hx hb dX0_keysLeft_0 rfl (lv_at hl 0 rfl) ?_
  refine va_get (D := D) (ci := 0) (v := .ref bl) (C := RX0) (T := TX0) (N := 9) hx hb hts inX0 hown hK hP 0 rfl rfl 3 (by decide) (hts _ mf_X0_21) (fun _ h9 => h9) rfl dX0_keysLeft_1 ?_
  refine lv_iload_n hx hb dX0_keysLeft_4 rfl (lv_at hl 1 rfl) ?_
  refine n_iald hx hb hK hP 4 0 rfl rfl (k := j) (by omega) (by decide) dX0_keysLeft_5 ?_
  exact ro_iret hx hb hr hlk dX0_keysLeft_6 (rfl)
set_option maxHeartbeats 4000000 in
set_option maxRecDepth 100000 in
theorem c_X0_firstKey (l : Launch) (D : va_G) (cI cJ cZ : ClassId) (b0 bb bd bm bl bf ba bk bg : Nat) (BB BD BM BL BF BA BK BG : Nat → Nat) (N : Nat) (hN : N ≤ 24) (j : Nat) (hj : j < 24) : RO l yX0_firstKey cX0_firstKey 2 (some .int) (rmN 0 0) D (ty3 cI cJ cZ) [.ref b0, .int (nI j)] [(b0, .inr (0, [.ref bb, .ref bd, .ref bm, .ref bl, .ref bf, .ref ba, .ref bk, .ref bg, .int (nI N)])), (bb, .inl (cI, 24, .inl (nF BB))), (bd, .inl (cI, 24, .inl (nF BD))), (bm, .inl (cI, 24, .inl (nF BM))), (bl, .inl (cI, 24, .inl (nF BL))), (bf, .inl (cI, 24, .inl (nF BF))), (ba, .inl (cI, 24, .inl (oF BA))), (bk, .inl (cI, 24, .inl (oF BK))), (bg, .inl (cI, 24, .inl (nF BG)))] (.int (nI (BF j))) := by
  refine ro_start (by decide) (Nat.le_of_ble_eq_true rfl) ?_
  intro pp ee ss mm below meth cd C0 hP hK ls hl
  obtain ⟨hx, hb, hr, hml, hown, hts, hlk⟩ := C0
  have hown : ss.vm.findClass RX0 = some mm.cls := hown
  have hl : lv_has ls 2 [(0, .ref b0), (1, .int (nI j))] := hl
  have hP : va_P D vwCl [(b0, .inr (0, [.ref bb, .ref bd, .ref bm, .ref bl, .ref bf, .ref ba, .ref bk, .ref bg, .int (nI N)])), (bb, .inl (cI, 24, .inl (nF BB))), (bd, .inl (cI, 24, .inl (nF BD))), (bm, .inl (cI, 24, .inl (nF BM))), (bl, .inl (cI, 24, .inl (nF BL))), (bf, .inl (cI, 24, .inl (nF BF))), (ba, .inl (cI, 24, .inl (oF BA))), (bk, .inl (cI, 24, .inl (oF BK))), (bg, .inl (cI, 24, .inl (nF BG)))] ss.heap := hP
  refine lv_aload_n hx hb dX0_firstKey_0 rfl (lv_at hl 0 rfl) ?_
  refine va_get (D := D) (ci := 0) (v := .ref bf) (C := RX0) (T := TX0) (N := 9) hx hb hts inX0 hown hK hP 0 rfl rfl 4 (by decide) (hts _ mf_X0_24) (fun _ h9 => h9) rfl dX0_firstKey_1 ?_
  refine lv_iload_n hx hb dX0_firstKey_4 rfl (lv_at hl 1 rfl) ?_
  refine n_iald hx hb hK hP 5 0 rfl rfl (k := j) (by omega) (by decide) dX0_firstKey_5 ?_
  exact ro_iret hx hb hr hlk dX0_firstKey_6 (rfl)
set_option maxHeartbeats 4000000 in
set_option maxRecDepth 100000 in
theorem c_X0_aboveOf (l : Launch) (D : va_G) (cI cJ cZ : ClassId) (b0 bb bd bm bl bf ba bk bg : Nat) (BB BD BM BL BF BA BK BG : Nat → Nat) (N : Nat) (hN : N ≤ 24) (j : Nat) (hj : j < 24) : RO l yX0_aboveOf cX0_aboveOf 2 (some .int) (rmN 0 0) D (ty3 cI cJ cZ) [.ref b0, .int (nI j)] [(b0, .inr (0, [.ref bb, .ref bd, .ref bm, .ref bl, .ref bf, .ref ba, .ref bk, .ref bg, .int (nI N)])), (bb, .inl (cI, 24, .inl (nF BB))), (bd, .inl (cI, 24, .inl (nF BD))), (bm, .inl (cI, 24, .inl (nF BM))), (bl, .inl (cI, 24, .inl (nF BL))), (bf, .inl (cI, 24, .inl (nF BF))), (ba, .inl (cI, 24, .inl (oF BA))), (bk, .inl (cI, 24, .inl (oF BK))), (bg, .inl (cI, 24, .inl (nF BG)))] (.int (oI (BA j))) := by
  refine ro_start (by decide) (Nat.le_of_ble_eq_true rfl) ?_
  intro pp ee ss mm below meth cd C0 hP hK ls hl
  obtain ⟨hx, hb, hr, hml, hown, hts, hlk⟩ := C0
  have hown : ss.vm.findClass RX0 = some mm.cls := hown
  have hl : lv_has ls 2 [(0, .ref b0), (1, .int (nI j))] := hl
  have hP : va_P D vwCl [(b0, .inr (0, [.ref bb, .ref bd, .ref bm, .ref bl, .ref bf, .ref ba, .ref bk, .ref bg, .int (nI N)])), (bb, .inl (cI, 24, .inl (nF BB))), (bd, .inl (cI, 24, .inl (nF BD))), (bm, .inl (cI, 24, .inl (nF BM))), (bl, .inl (cI, 24, .inl (nF BL))), (bf, .inl (cI, 24, .inl (nF BF))), (ba, .inl (cI, 24, .inl (oF BA))), (bk, .inl (cI, 24, .inl (oF BK))), (bg, .inl (cI, 24, .inl (nF BG)))] ss.heap := hP
  refine lv_aload_n hx hb dX0_aboveOf_0 rfl (lv_at hl 0 rfl) ?_
  refine va_get (D := D) (ci := 0) (v := .ref ba) (C := RX0) (T := TX0) (N := 9) hx hb hts inX0 hown hK hP 0 rfl rfl 5 (by decide) (hts _ mf_X0_27) (fun _ h9 => h9) rfl dX0_aboveOf_1 ?_
  refine lv_iload_n hx hb dX0_aboveOf_4 rfl (lv_at hl 1 rfl) ?_
  refine o_iald hx hb hK hP 6 0 rfl rfl (k := j) (by omega) (by decide) dX0_aboveOf_5 ?_
  exact ro_iret hx hb hr hlk dX0_aboveOf_6 (rfl)
set_option maxHeartbeats 4000000 in
set_option maxRecDepth 100000 in
theorem c_X0_topBit (l : Launch) (D : va_G) (cI cJ cZ : ClassId) (b0 bb bd bm bl bf ba bk bg : Nat) (BB BD BM BL BF BA BK BG : Nat → Nat) (N : Nat) (hN : N ≤ 24) : RO l yX0_topBit cX0_topBit 1 (some .int) (rmN 2 41) D (ty3 cI cJ cZ) [.ref b0] [(b0, .inr (0, [.ref bb, .ref bd, .ref bm, .ref bl, .ref bf, .ref ba, .ref bk, .ref bg, .int (nI N)])), (bb, .inl (cI, 24, .inl (nF BB))), (bd, .inl (cI, 24, .inl (nF BD))), (bm, .inl (cI, 24, .inl (nF BM))), (bl, .inl (cI, 24, .inl (nF BL))), (bf, .inl (cI, 24, .inl (nF BF))), (ba, .inl (cI, 24, .inl (oF BA))), (bk, .inl (cI, 24, .inl (oF BK))), (bg, .inl (cI, 24, .inl (nF BG)))] (.int (oI (if 1 < N then BB 0 + 1 else 0))) := by
  refine ro_start (by decide) (Nat.le_of_ble_eq_true rfl) ?_
  intro pp ee ss mm below meth cd C0 hP hK ls hl
  obtain ⟨hx, hb, hr, hml, hown, hts, hlk⟩ := C0
  have hown : ss.vm.findClass RX0 = some mm.cls := hown
  have hl : lv_has ls 1 [(0, .ref b0)] := hl
  have hP : va_P D vwCl [(b0, .inr (0, [.ref bb, .ref bd, .ref bm, .ref bl, .ref bf, .ref ba, .ref bk, .ref bg, .int (nI N)])), (bb, .inl (cI, 24, .inl (nF BB))), (bd, .inl (cI, 24, .inl (nF BD))), (bm, .inl (cI, 24, .inl (nF BM))), (bl, .inl (cI, 24, .inl (nF BL))), (bf, .inl (cI, 24, .inl (nF BF))), (ba, .inl (cI, 24, .inl (oF BA))), (bk, .inl (cI, 24, .inl (oF BK))), (bg, .inl (cI, 24, .inl (nF BG)))] ss.heap := hP
  refine lv_aload_n hx hb dX0_topBit_0 rfl (lv_at hl 0 rfl) ?_
  refine ro_V (As := []) (rest := []) ⟨hx, hb, hml, hown, hts⟩ (c_X0_count l D cI cJ cZ b0 bb bd bm bl bf ba bk bg BB BD BM BL BF BA BK BG N (by omega) ) (k_X0_46 hts ⟨Nat.le_of_ble_eq_true rfl, Nat.le_of_ble_eq_true rfl⟩) hK hP 0 rfl rfl rfl [0, 1, 2, 3, 4, 5, 6, 7, 8] rfl rfl hl.1 rfl (Nat.le_of_ble_eq_true rfl) dX0_topBit_1 ⟨Nat.le_of_ble_eq_true rfl, Nat.le_of_ble_eq_true rfl⟩ ?_
  refine n_if_le (tgt := 16) hx hb dX0_topBit_4 (by decide) (by omega) (fun c1 => ?_) (fun c1 => ?_)
  ·
    refine lv_iconst (v := oI 0) hx hb dX0_topBit_16 (by decide +kernel) ?_
    exact ro_iret hx hb hr hlk dX0_topBit_17 (by rw [if_neg (by omega)])
  ·
    refine lv_aload_n hx hb dX0_topBit_7 rfl (lv_at hl 0 rfl) ?_
    refine va_get (D := D) (ci := 0) (v := .ref bb) (C := RX0) (T := TX0) (N := 9) hx hb hts inX0 hown hK hP 0 rfl rfl 0 (by decide) (hts _ mf_X0_9) (fun _ h9 => h9) rfl dX0_topBit_8 ?_
    refine lv_iconst (v := nI 0) hx hb dX0_topBit_11 (by decide +kernel) ?_
    refine n_iald hx hb hK hP 1 0 rfl rfl (k := 0) (by omega) (by decide) dX0_topBit_12 ?_
    refine lv_goto (tgt := 17) hx hb dX0_topBit_13 (by decide) ?_
    exact ro_iret hx hb hr hlk dX0_topBit_17 (by rw [if_pos (by omega), oI_s])
set_option maxHeartbeats 4000000 in
set_option maxRecDepth 100000 in
theorem c_X0_greatestBit (l : Launch) (D : va_G) (cI cJ cZ : ClassId) (b0 bb bd bm bl bf ba bk bg : Nat) (BB BD BM BL BF BA BK BG : Nat → Nat) (N : Nat) (hN : N ≤ 24) (hB : ∀ b, b + 1 < N → BB b ≤ 72) : RO l yX0_greatestBit cX0_greatestBit 3 (some .int) (rmN 2 41) D (ty3 cI cJ cZ) [.ref b0] [(b0, .inr (0, [.ref bb, .ref bd, .ref bm, .ref bl, .ref bf, .ref ba, .ref bk, .ref bg, .int (nI N)])), (bb, .inl (cI, 24, .inl (nF BB))), (bd, .inl (cI, 24, .inl (nF BD))), (bm, .inl (cI, 24, .inl (nF BM))), (bl, .inl (cI, 24, .inl (nF BL))), (bf, .inl (cI, 24, .inl (nF BF))), (ba, .inl (cI, 24, .inl (oF BA))), (bk, .inl (cI, 24, .inl (oF BK))), (bg, .inl (cI, 24, .inl (nF BG)))] (.int (oI (mxo BB (N - 1)))) := by
  refine ro_start (by decide) (Nat.le_of_ble_eq_true rfl) ?_
  intro pp ee ss mm below meth cd C0 hP hK ls hl
  obtain ⟨hx, hb, hr, hml, hown, hts, hlk⟩ := C0
  have hown : ss.vm.findClass RX0 = some mm.cls := hown
  have hl : lv_has ls 3 [(0, .ref b0)] := hl
  have hP : va_P D vwCl [(b0, .inr (0, [.ref bb, .ref bd, .ref bm, .ref bl, .ref bf, .ref ba, .ref bk, .ref bg, .int (nI N)])), (bb, .inl (cI, 24, .inl (nF BB))), (bd, .inl (cI, 24, .inl (nF BD))), (bm, .inl (cI, 24, .inl (nF BM))), (bl, .inl (cI, 24, .inl (nF BL))), (bf, .inl (cI, 24, .inl (nF BF))), (ba, .inl (cI, 24, .inl (oF BA))), (bk, .inl (cI, 24, .inl (oF BK))), (bg, .inl (cI, 24, .inl (nF BG)))] ss.heap := hP
  refine lv_iconst (v := oI 0) hx hb dX0_greatestBit_0 (by decide +kernel) ?_
  refine lv_istore_n (lv' := [(1, .int (oI 0)), (0, .ref b0)]) hx hb dX0_greatestBit_1 rfl hl (by decide) rfl (fun ls hl => ?_)
  refine lv_iconst (v := nI 0) hx hb dX0_greatestBit_2 (by decide +kernel) ?_
  refine lv_istore_n (lv' := [(2, .int (nI 0)), (1, .int (oI 0)), (0, .ref b0)]) hx hb dX0_greatestBit_3 rfl hl (by decide) rfl (fun ls hl => ?_)
  have loop4 : ∀ (d : Nat) (i : Nat) (g : Nat) (ls : Array Slot), N - 1 - i < d → (i ≤ N - 1) → (g = mxo BB i) → lv_has ls 3 [(0, .ref b0), (1, .int (oI g)), (2, .int (nI i))] → W pp l ee (rmN 2 41) ss mm [.ref b0].toArray below meth cd ss.heap [] 0 0 (MQ below (QR (.int (oI (mxo BB (N - 1))))) [.ref b0].toArray ss 0 0 (fun _ => False)) (F0 mm 4 ls []) := by
    intro d
    induction d with
    | zero => intro i g ls h; exact absurd h (Nat.not_lt_zero _)
    | succ d ih4 =>
      intro i g ls hd4 hi hg hl
      have hg1 : g ≤ 73 := by rw [hg]; exact mxo_le (fun j hj => by have := hB j (by omega); omega)
      refine lv_iload_n hx hb dX0_greatestBit_4 rfl (lv_at hl 2 rfl) ?_
      refine lv_aload_n hx hb dX0_greatestBit_5 rfl (lv_at hl 0 rfl) ?_
      refine ro_V (As := []) (rest := [.int (nI i)]) ⟨hx, hb, hml, hown, hts⟩ (c_X0_count l D cI cJ cZ b0 bb bd bm bl bf ba bk bg BB BD BM BL BF BA BK BG N (by omega) ) (k_X0_46 hts ⟨Nat.le_of_ble_eq_true rfl, Nat.le_of_ble_eq_true rfl⟩) hK hP 0 rfl rfl rfl [0, 1, 2, 3, 4, 5, 6, 7, 8] rfl rfl hl.1 rfl (Nat.le_of_ble_eq_true rfl) dX0_greatestBit_6 ⟨Nat.le_of_ble_eq_true rfl, Nat.le_of_ble_eq_true rfl⟩ ?_
      refine n_ge (tgt := 29) hx hb dX0_greatestBit_9 (by decide) (by omega) (by omega) (fun c1 => ?_) (fun c1 => ?_)
      ·
        refine lv_iload_n hx hb dX0_greatestBit_29 rfl (lv_at hl 1 rfl) ?_
        exact ro_iret hx hb hr hlk dX0_greatestBit_30 (by rw [hg, show i = N - 1 by omega])
      ·
        have hbi := hB i (by omega)
        refine lv_iload_n hx hb dX0_greatestBit_12 rfl (lv_at hl 1 rfl) ?_
        refine lv_aload_n hx hb dX0_greatestBit_13 rfl (lv_at hl 0 rfl) ?_
        refine va_get (D := D) (ci := 0) (v := .ref bb) (C := RX0) (T := TX0) (N := 9) hx hb hts inX0 hown hK hP 0 rfl rfl 0 (by decide) (hts _ mf_X0_9) (fun _ h9 => h9) rfl dX0_greatestBit_14 ?_
        refine lv_iload_n hx hb dX0_greatestBit_17 rfl (lv_at hl 2 rfl) ?_
        refine n_iald hx hb hK hP 1 0 rfl rfl (k := i) (by omega) (by decide) dX0_greatestBit_18 ?_
        refine va_mmax hx hb (hml.trans hl.1.symm) hown (hts _ ml_X0_40) (hts _ ms_Math_max) (hts _ mn_Math) (hts _ mc_Math_max) (Nat.le_of_ble_eq_true rfl) (Nat.le_of_ble_eq_true rfl) (Nat.le_of_ble_eq_true rfl) (Nat.le_of_ble_eq_true rfl) dX0_greatestBit_19 ?_
        refine tq (y := (oI (max g ((BB i) + 1)))) (mx_on (by omega) (by omega)) ?_
        refine lv_istore_n (lv' := [(1, .int (oI (max g ((BB i) + 1)))), (0, .ref b0), (2, .int (nI i))]) hx hb dX0_greatestBit_22 rfl hl (by decide) rfl (fun ls hl => ?_)
        refine lv_iinc (v := nI (i + 1)) (lv' := [(2, .int (nI (i + 1))), (1, .int (oI (max g ((BB i) + 1)))), (0, .ref b0)]) hx hb dX0_greatestBit_23 hl (k := 2) rfl (nI_add i 1) (by decide) rfl (fun ls hl => ?_)
        refine lv_goto (tgt := 4) hx hb dX0_greatestBit_26 (by decide) ?_
        exact ih4 (i + 1) (max g ((BB i) + 1)) ls (by omega) (by omega) (by rw [hg]; rfl) (lv_sub hl [2, 1, 0] rfl)
  exact loop4 _ 0 0 ls (Nat.lt_succ_self _) (Nat.zero_le _) rfl (lv_sub hl [2, 1, 0] rfl)
set_option maxHeartbeats 4000000 in
set_option maxRecDepth 100000 in
theorem c_X0_depthOfKey (l : Launch) (D : va_G) (cI cJ cZ : ClassId) (b0 bb bd bm bl bf ba bk bg : Nat) (BB BD BM BL BF BA BK BG : Nat → Nat) (N : Nat) (hN : N ≤ 24) (k : Nat) (hk : k < 24) (hBK : BK k < N) : RO l yX0_depthOfKey cX0_depthOfKey 3 (some .int) (rmN 3 62) D (ty3 cI cJ cZ) [.ref b0, .int (nI k)] [(b0, .inr (0, [.ref bb, .ref bd, .ref bm, .ref bl, .ref bf, .ref ba, .ref bk, .ref bg, .int (nI N)])), (bb, .inl (cI, 24, .inl (nF BB))), (bd, .inl (cI, 24, .inl (nF BD))), (bm, .inl (cI, 24, .inl (nF BM))), (bl, .inl (cI, 24, .inl (nF BL))), (bf, .inl (cI, 24, .inl (nF BF))), (ba, .inl (cI, 24, .inl (oF BA))), (bk, .inl (cI, 24, .inl (oF BK))), (bg, .inl (cI, 24, .inl (nF BG)))] (.int (nI (dok BK BD k))) := by
  refine ro_start (by decide) (Nat.le_of_ble_eq_true rfl) ?_
  intro pp ee ss mm below meth cd C0 hP hK ls hl
  obtain ⟨hx, hb, hr, hml, hown, hts, hlk⟩ := C0
  have hown : ss.vm.findClass RX0 = some mm.cls := hown
  have hl : lv_has ls 3 [(0, .ref b0), (1, .int (nI k))] := hl
  have hP : va_P D vwCl [(b0, .inr (0, [.ref bb, .ref bd, .ref bm, .ref bl, .ref bf, .ref ba, .ref bk, .ref bg, .int (nI N)])), (bb, .inl (cI, 24, .inl (nF BB))), (bd, .inl (cI, 24, .inl (nF BD))), (bm, .inl (cI, 24, .inl (nF BM))), (bl, .inl (cI, 24, .inl (nF BL))), (bf, .inl (cI, 24, .inl (nF BF))), (ba, .inl (cI, 24, .inl (oF BA))), (bk, .inl (cI, 24, .inl (oF BK))), (bg, .inl (cI, 24, .inl (nF BG)))] ss.heap := hP
  refine lv_aload_n hx hb dX0_depthOfKey_0 rfl (lv_at hl 0 rfl) ?_
  refine va_get (D := D) (ci := 0) (v := .ref bk) (C := RX0) (T := TX0) (N := 9) hx hb hts inX0 hown hK hP 0 rfl rfl 6 (by decide) (hts _ mf_X0_30) (fun _ h9 => h9) rfl dX0_depthOfKey_1 ?_
  refine lv_iload_n hx hb dX0_depthOfKey_4 rfl (lv_at hl 1 rfl) ?_
  refine o_iald hx hb hK hP 7 0 rfl rfl (k := k) (by omega) (by decide) dX0_depthOfKey_5 ?_
  refine lv_istore_n (lv' := [(2, .int (oI (BK k))), (0, .ref b0), (1, .int (nI k))]) hx hb dX0_depthOfKey_6 rfl hl (by decide) rfl (fun ls hl => ?_)
  refine lv_aload_n hx hb dX0_depthOfKey_7 rfl (lv_at hl 1 rfl) ?_
  refine lv_iload_n hx hb dX0_depthOfKey_8 rfl (lv_at hl 0 rfl) ?_
  refine ro_V (As := [.int (oI (BK k))]) (rest := []) ⟨hx, hb, hml, hown, hts⟩ (c_X0_has_o l D cI cJ cZ b0 bb bd bm bl bf ba bk bg BB BD BM BL BF BA BK BG N (by omega) (BK k) (by omega)) (k_X0_64 hts ⟨Nat.le_of_ble_eq_true rfl, Nat.le_of_ble_eq_true rfl⟩) hK hP 0 rfl rfl rfl [0, 1, 2, 3, 4, 5, 6, 7, 8] rfl rfl hl.1 rfl (Nat.le_of_ble_eq_true rfl) dX0_depthOfKey_9 ⟨Nat.le_of_ble_eq_true rfl, Nat.le_of_ble_eq_true rfl⟩ ?_
  refine b_if_eq (tgt := 26) hx hb dX0_depthOfKey_12 (by decide) (fun c1 => ?_) (fun c1 => ?_)
  ·
    refine lv_iconst (v := nI 0) hx hb dX0_depthOfKey_26 (by decide +kernel) ?_
    exact ro_iret hx hb hr hlk dX0_depthOfKey_27 (by unfold dok; rw [if_pos (by omega)])
  ·
    refine lv_aload_n hx hb dX0_depthOfKey_15 rfl (lv_at hl 1 rfl) ?_
    refine va_get (D := D) (ci := 0) (v := .ref bd) (C := RX0) (T := TX0) (N := 9) hx hb hts inX0 hown hK hP 0 rfl rfl 1 (by decide) (hts _ mf_X0_15) (fun _ h9 => h9) rfl dX0_depthOfKey_16 ?_
    refine lv_iload_n hx hb dX0_depthOfKey_19 rfl (lv_at hl 0 rfl) ?_
    refine tq (y := nI ((BK k) - 1)) (oI_p (by omega)) ?_
    refine n_iald hx hb hK hP 2 0 rfl rfl (k := ((BK k) - 1)) (by omega) (by decide) dX0_depthOfKey_20 ?_
    refine lv_iconst (v := nI 1) hx hb dX0_depthOfKey_21 (by decide +kernel) ?_
    refine n_iadd hx hb dX0_depthOfKey_22 ?_
    refine lv_goto (tgt := 27) hx hb dX0_depthOfKey_23 (by decide) ?_
    exact ro_iret hx hb hr hlk dX0_depthOfKey_27 (by unfold dok; rw [if_neg (by omega)])
set_option maxHeartbeats 4000000 in
set_option maxRecDepth 100000 in
theorem c_X0_greatestDepth (l : Launch) (D : va_G) (cI cJ cZ : ClassId) (b0 bb bd bm bl bf ba bk bg : Nat) (BB BD BM BL BF BA BK BG : Nat → Nat) (N : Nat) (hN : N ≤ 24) (hBK : ∀ k, k < N → BK k < N) (hDK : ∀ k, k < N → dok BK BD k ≤ 24) : RO l yX0_greatestDepth cX0_greatestDepth 3 (some .int) (rmN 4 84) D (ty3 cI cJ cZ) [.ref b0] [(b0, .inr (0, [.ref bb, .ref bd, .ref bm, .ref bl, .ref bf, .ref ba, .ref bk, .ref bg, .int (nI N)])), (bb, .inl (cI, 24, .inl (nF BB))), (bd, .inl (cI, 24, .inl (nF BD))), (bm, .inl (cI, 24, .inl (nF BM))), (bl, .inl (cI, 24, .inl (nF BL))), (bf, .inl (cI, 24, .inl (nF BF))), (ba, .inl (cI, 24, .inl (oF BA))), (bk, .inl (cI, 24, .inl (oF BK))), (bg, .inl (cI, 24, .inl (nF BG)))] (.int (nI (mxd (dok BK BD) N))) := by
  refine ro_start (by decide) (Nat.le_of_ble_eq_true rfl) ?_
  intro pp ee ss mm below meth cd C0 hP hK ls hl
  obtain ⟨hx, hb, hr, hml, hown, hts, hlk⟩ := C0
  have hown : ss.vm.findClass RX0 = some mm.cls := hown
  have hl : lv_has ls 3 [(0, .ref b0)] := hl
  have hP : va_P D vwCl [(b0, .inr (0, [.ref bb, .ref bd, .ref bm, .ref bl, .ref bf, .ref ba, .ref bk, .ref bg, .int (nI N)])), (bb, .inl (cI, 24, .inl (nF BB))), (bd, .inl (cI, 24, .inl (nF BD))), (bm, .inl (cI, 24, .inl (nF BM))), (bl, .inl (cI, 24, .inl (nF BL))), (bf, .inl (cI, 24, .inl (nF BF))), (ba, .inl (cI, 24, .inl (oF BA))), (bk, .inl (cI, 24, .inl (oF BK))), (bg, .inl (cI, 24, .inl (nF BG)))] ss.heap := hP
  refine lv_iconst (v := nI 0) hx hb dX0_greatestDepth_0 (by decide +kernel) ?_
  refine lv_istore_n (lv' := [(1, .int (nI 0)), (0, .ref b0)]) hx hb dX0_greatestDepth_1 rfl hl (by decide) rfl (fun ls hl => ?_)
  refine lv_iconst (v := nI 0) hx hb dX0_greatestDepth_2 (by decide +kernel) ?_
  refine lv_istore_n (lv' := [(2, .int (nI 0)), (1, .int (nI 0)), (0, .ref b0)]) hx hb dX0_greatestDepth_3 rfl hl (by decide) rfl (fun ls hl => ?_)
  have loop4 : ∀ (d : Nat) (i : Nat) (g : Nat) (ls : Array Slot), N - i < d → (i ≤ N) → (g = mxd (dok BK BD) i) → lv_has ls 3 [(0, .ref b0), (1, .int (nI g)), (2, .int (nI i))] → W pp l ee (rmN 4 84) ss mm [.ref b0].toArray below meth cd ss.heap [] 0 0 (MQ below (QR (.int (nI (mxd (dok BK BD) N)))) [.ref b0].toArray ss 0 0 (fun _ => False)) (F0 mm 4 ls []) := by
    intro d
    induction d with
    | zero => intro i g ls h; exact absurd h (Nat.not_lt_zero _)
    | succ d ih4 =>
      intro i g ls hd4 hi hg hl
      have hg1 : g ≤ 24 := by rw [hg]; exact mxd_le (fun j hj => hDK j (by omega))
      refine lv_iload_n hx hb dX0_greatestDepth_4 rfl (lv_at hl 2 rfl) ?_
      refine lv_aload_n hx hb dX0_greatestDepth_5 rfl (lv_at hl 0 rfl) ?_
      refine va_get (D := D) (ci := 0) (v := .int (nI N)) (C := RX0) (T := TX0) (N := 9) hx hb hts inX0 hown hK hP 0 rfl rfl 8 (by decide) (hts _ mf_X0_36) (fun _ h9 => h9) rfl dX0_greatestDepth_6 ?_
      refine n_ge (tgt := 28) hx hb dX0_greatestDepth_9 (by decide) (by omega) (by omega) (fun c1 => ?_) (fun c1 => ?_)
      ·
        refine lv_iload_n hx hb dX0_greatestDepth_28 rfl (lv_at hl 1 rfl) ?_
        exact ro_iret hx hb hr hlk dX0_greatestDepth_29 (by rw [hg, show i = N by omega])
      ·
        have hdi := hDK i (by omega)
        refine lv_iload_n hx hb dX0_greatestDepth_12 rfl (lv_at hl 1 rfl) ?_
        refine lv_aload_n hx hb dX0_greatestDepth_13 rfl (lv_at hl 0 rfl) ?_
        refine lv_iload_n hx hb dX0_greatestDepth_14 rfl (lv_at hl 2 rfl) ?_
        refine ro_V (As := [.int (nI i)]) (rest := [.int (nI g)]) ⟨hx, hb, hml, hown, hts⟩ (c_X0_depthOfKey l D cI cJ cZ b0 bb bd bm bl bf ba bk bg BB BD BM BL BF BA BK BG N (by omega) i (by omega) (hBK _ (by omega))) (k_X0_68 hts ⟨Nat.le_of_ble_eq_true rfl, Nat.le_of_ble_eq_true rfl⟩) hK hP 0 rfl rfl rfl [0, 1, 2, 3, 4, 5, 6, 7, 8] rfl rfl hl.1 rfl (Nat.le_of_ble_eq_true rfl) dX0_greatestDepth_15 ⟨Nat.le_of_ble_eq_true rfl, Nat.le_of_ble_eq_true rfl⟩ ?_
        refine va_mmax hx hb (hml.trans hl.1.symm) hown (hts _ ml_X0_40) (hts _ ms_Math_max) (hts _ mn_Math) (hts _ mc_Math_max) (Nat.le_of_ble_eq_true rfl) (Nat.le_of_ble_eq_true rfl) (Nat.le_of_ble_eq_true rfl) (Nat.le_of_ble_eq_true rfl) dX0_greatestDepth_18 ?_
        refine tq (y := nI (max g (dok BK BD i))) (n_max (by omega) (by omega)) ?_
        refine lv_istore_n (lv' := [(1, .int (nI (max g (dok BK BD i)))), (0, .ref b0), (2, .int (nI i))]) hx hb dX0_greatestDepth_21 rfl hl (by decide) rfl (fun ls hl => ?_)
        refine lv_iinc (v := nI (i + 1)) (lv' := [(2, .int (nI (i + 1))), (1, .int (nI (max g (dok BK BD i)))), (0, .ref b0)]) hx hb dX0_greatestDepth_22 hl (k := 2) rfl (nI_add i 1) (by decide) rfl (fun ls hl => ?_)
        refine lv_goto (tgt := 4) hx hb dX0_greatestDepth_25 (by decide) ?_
        exact ih4 (i + 1) (max g (dok BK BD i)) ls (by omega) (by omega) (by rw [hg]; rfl) (lv_sub hl [2, 1, 0] rfl)
  exact loop4 _ 0 0 ls (Nat.lt_succ_self _) (Nat.zero_le _) rfl (lv_sub hl [2, 1, 0] rfl)
set_option maxHeartbeats 4000000 in
set_option maxRecDepth 100000 in
theorem c_X0_depthsTogether (l : Launch) (D : va_G) (cI cJ cZ : ClassId) (b0 bb bd bm bl bf ba bk bg : Nat) (BB BD BM BL BF BA BK BG : Nat → Nat) (N : Nat) (hN : N ≤ 24) (hBK : ∀ k, k < N → BK k < N) : RO l yX0_depthsTogether cX0_depthsTogether 3 (some .int) (rmN 4 84) D (ty3 cI cJ cZ) [.ref b0] [(b0, .inr (0, [.ref bb, .ref bd, .ref bm, .ref bl, .ref bf, .ref ba, .ref bk, .ref bg, .int (nI N)])), (bb, .inl (cI, 24, .inl (nF BB))), (bd, .inl (cI, 24, .inl (nF BD))), (bm, .inl (cI, 24, .inl (nF BM))), (bl, .inl (cI, 24, .inl (nF BL))), (bf, .inl (cI, 24, .inl (nF BF))), (ba, .inl (cI, 24, .inl (oF BA))), (bk, .inl (cI, 24, .inl (oF BK))), (bg, .inl (cI, 24, .inl (nF BG)))] (.int (nI (fb_sm (dok BK BD) N))) := by
  refine ro_start (by decide) (Nat.le_of_ble_eq_true rfl) ?_
  intro pp ee ss mm below meth cd C0 hP hK ls hl
  obtain ⟨hx, hb, hr, hml, hown, hts, hlk⟩ := C0
  have hown : ss.vm.findClass RX0 = some mm.cls := hown
  have hl : lv_has ls 3 [(0, .ref b0)] := hl
  have hP : va_P D vwCl [(b0, .inr (0, [.ref bb, .ref bd, .ref bm, .ref bl, .ref bf, .ref ba, .ref bk, .ref bg, .int (nI N)])), (bb, .inl (cI, 24, .inl (nF BB))), (bd, .inl (cI, 24, .inl (nF BD))), (bm, .inl (cI, 24, .inl (nF BM))), (bl, .inl (cI, 24, .inl (nF BL))), (bf, .inl (cI, 24, .inl (nF BF))), (ba, .inl (cI, 24, .inl (oF BA))), (bk, .inl (cI, 24, .inl (oF BK))), (bg, .inl (cI, 24, .inl (nF BG)))] ss.heap := hP
  refine lv_iconst (v := nI 0) hx hb dX0_depthsTogether_0 (by decide +kernel) ?_
  refine lv_istore_n (lv' := [(1, .int (nI 0)), (0, .ref b0)]) hx hb dX0_depthsTogether_1 rfl hl (by decide) rfl (fun ls hl => ?_)
  refine lv_iconst (v := nI 0) hx hb dX0_depthsTogether_2 (by decide +kernel) ?_
  refine lv_istore_n (lv' := [(2, .int (nI 0)), (1, .int (nI 0)), (0, .ref b0)]) hx hb dX0_depthsTogether_3 rfl hl (by decide) rfl (fun ls hl => ?_)
  have loop4 : ∀ (d : Nat) (i : Nat) (ls : Array Slot), N - i < d → (i ≤ N) → lv_has ls 3 [(0, .ref b0), (1, .int (nI (fb_sm (dok BK BD) i))), (2, .int (nI i))] → W pp l ee (rmN 4 84) ss mm [.ref b0].toArray below meth cd ss.heap [] 0 0 (MQ below (QR (.int (nI (fb_sm (dok BK BD) N)))) [.ref b0].toArray ss 0 0 (fun _ => False)) (F0 mm 4 ls []) := by
    intro d
    induction d with
    | zero => intro i ls h; exact absurd h (Nat.not_lt_zero _)
    | succ d ih4 =>
      intro i ls hd4 hi hl
      refine lv_iload_n hx hb dX0_depthsTogether_4 rfl (lv_at hl 2 rfl) ?_
      refine lv_aload_n hx hb dX0_depthsTogether_5 rfl (lv_at hl 0 rfl) ?_
      refine va_get (D := D) (ci := 0) (v := .int (nI N)) (C := RX0) (T := TX0) (N := 9) hx hb hts inX0 hown hK hP 0 rfl rfl 8 (by decide) (hts _ mf_X0_36) (fun _ h9 => h9) rfl dX0_depthsTogether_6 ?_
      refine n_ge (tgt := 26) hx hb dX0_depthsTogether_9 (by decide) (by omega) (by omega) (fun c1 => ?_) (fun c1 => ?_)
      ·
        refine lv_iload_n hx hb dX0_depthsTogether_26 rfl (lv_at hl 1 rfl) ?_
        exact ro_iret hx hb hr hlk dX0_depthsTogether_27 (by rw [show i = N by omega])
      ·
        refine lv_iload_n hx hb dX0_depthsTogether_12 rfl (lv_at hl 1 rfl) ?_
        refine lv_aload_n hx hb dX0_depthsTogether_13 rfl (lv_at hl 0 rfl) ?_
        refine lv_iload_n hx hb dX0_depthsTogether_14 rfl (lv_at hl 2 rfl) ?_
        refine ro_V (As := [.int (nI i)]) (rest := [.int (nI (fb_sm (dok BK BD) i))]) ⟨hx, hb, hml, hown, hts⟩ (c_X0_depthOfKey l D cI cJ cZ b0 bb bd bm bl bf ba bk bg BB BD BM BL BF BA BK BG N (by omega) i (by omega) (hBK _ (by omega))) (k_X0_68 hts ⟨Nat.le_of_ble_eq_true rfl, Nat.le_of_ble_eq_true rfl⟩) hK hP 0 rfl rfl rfl [0, 1, 2, 3, 4, 5, 6, 7, 8] rfl rfl hl.1 rfl (Nat.le_of_ble_eq_true rfl) dX0_depthsTogether_15 ⟨Nat.le_of_ble_eq_true rfl, Nat.le_of_ble_eq_true rfl⟩ ?_
        refine n_iadd hx hb dX0_depthsTogether_18 ?_
        refine lv_istore_n (lv' := [(1, .int (nI ((fb_sm (dok BK BD) i) + (dok BK BD i)))), (0, .ref b0), (2, .int (nI i))]) hx hb dX0_depthsTogether_19 rfl hl (by decide) rfl (fun ls hl => ?_)
        refine lv_iinc (v := nI (i + 1)) (lv' := [(2, .int (nI (i + 1))), (1, .int (nI ((fb_sm (dok BK BD) i) + (dok BK BD i)))), (0, .ref b0)]) hx hb dX0_depthsTogether_20 hl (k := 2) rfl (nI_add i 1) (by decide) rfl (fun ls hl => ?_)
        refine lv_goto (tgt := 4) hx hb dX0_depthsTogether_23 (by decide) ?_
        exact ih4 (i + 1) ls (by omega) (by omega) (lv_sub hl [2, 1, 0] rfl)
  exact loop4 _ 0 ls (Nat.lt_succ_self _) (Nat.zero_le _) (lv_sub hl [2, 1, 0] rfl)
set_option maxHeartbeats 4000000 in
set_option maxRecDepth 100000 in
theorem c_X0_isBelow_1 (l : Launch) (D : va_G) (cI cJ cZ : ClassId) (b0 bb bd bm bl bf ba bk bg : Nat) (BB BD BM BL BF BA BK BG : Nat → Nat) (N : Nat) (hN : N ≤ 24) (k j : Nat) (hk : k < 2 ^ 31) (hB : j + 1 < N → BF j ≤ 24 ∧ BM j ≤ 24) (hj : j < 2 ^ 31) : RO l yX0_isBelow cX0_isBelow 3 (some .boolean) (rmN 3 62) D (ty3 cI cJ cZ) [.ref b0, .int (nI k), .int (nI j)] [(b0, .inr (0, [.ref bb, .ref bd, .ref bm, .ref bl, .ref bf, .ref ba, .ref bk, .ref bg, .int (nI N)])), (bb, .inl (cI, 24, .inl (nF BB))), (bd, .inl (cI, 24, .inl (nF BD))), (bm, .inl (cI, 24, .inl (nF BM))), (bl, .inl (cI, 24, .inl (nF BL))), (bf, .inl (cI, 24, .inl (nF BF))), (ba, .inl (cI, 24, .inl (oF BA))), (bk, .inl (cI, 24, .inl (oF BK))), (bg, .inl (cI, 24, .inl (nF BG)))] (.int (if j < N - 1 ∧ BF j ≤ k ∧ k < BF j + BM j then 1 else 0)) := by
  refine ro_start (by decide) (Nat.le_of_ble_eq_true rfl) ?_
  intro pp ee ss mm below meth cd C0 hP hK ls hl
  obtain ⟨hx, hb, hr, hml, hown, hts, hlk⟩ := C0
  have hown : ss.vm.findClass RX0 = some mm.cls := hown
  have hl : lv_has ls 3 [(0, .ref b0), (1, .int (nI k)), (2, .int (nI j))] := hl
  have hP : va_P D vwCl [(b0, .inr (0, [.ref bb, .ref bd, .ref bm, .ref bl, .ref bf, .ref ba, .ref bk, .ref bg, .int (nI N)])), (bb, .inl (cI, 24, .inl (nF BB))), (bd, .inl (cI, 24, .inl (nF BD))), (bm, .inl (cI, 24, .inl (nF BM))), (bl, .inl (cI, 24, .inl (nF BL))), (bf, .inl (cI, 24, .inl (nF BF))), (ba, .inl (cI, 24, .inl (oF BA))), (bk, .inl (cI, 24, .inl (oF BK))), (bg, .inl (cI, 24, .inl (nF BG)))] ss.heap := hP
  refine lv_aload_n hx hb dX0_isBelow_0 rfl (lv_at hl 0 rfl) ?_
  refine lv_iload_n hx hb dX0_isBelow_1 rfl (lv_at hl 2 rfl) ?_
  refine ro_V (As := [.int (nI j)]) (rest := []) ⟨hx, hb, hml, hown, hts⟩ (c_X0_has l D cI cJ cZ b0 bb bd bm bl bf ba bk bg BB BD BM BL BF BA BK BG N (by omega) j (by omega)) (k_X0_64 hts ⟨Nat.le_of_ble_eq_true rfl, Nat.le_of_ble_eq_true rfl⟩) hK hP 0 rfl rfl rfl [0, 1, 2, 3, 4, 5, 6, 7, 8] rfl rfl hl.1 rfl (Nat.le_of_ble_eq_true rfl) dX0_isBelow_2 ⟨Nat.le_of_ble_eq_true rfl, Nat.le_of_ble_eq_true rfl⟩ ?_
  refine b_if_eq (tgt := 39) hx hb dX0_isBelow_5 (by decide) (fun c1 => ?_) (fun c1 => ?_)
  ·
    refine lv_iconst (v := nI 0) hx hb dX0_isBelow_39 (by decide +kernel) ?_
    exact ro_zret hx hb hr hlk dX0_isBelow_40 nar_b0 (by rw [if_neg (by omega), nI_0])
  ·
    have hb1 := hB (by omega)
    refine lv_iload_n hx hb dX0_isBelow_8 rfl (lv_at hl 1 rfl) ?_
    refine lv_aload_n hx hb dX0_isBelow_9 rfl (lv_at hl 0 rfl) ?_
    refine va_get (D := D) (ci := 0) (v := .ref bf) (C := RX0) (T := TX0) (N := 9) hx hb hts inX0 hown hK hP 0 rfl rfl 4 (by decide) (hts _ mf_X0_24) (fun _ h9 => h9) rfl dX0_isBelow_10 ?_
    refine lv_iload_n hx hb dX0_isBelow_13 rfl (lv_at hl 2 rfl) ?_
    refine n_iald hx hb hK hP 5 0 rfl rfl (k := j) (by omega) (by decide) dX0_isBelow_14 ?_
    refine n_lt (tgt := 39) hx hb dX0_isBelow_15 (by decide) (by omega) (by omega) (fun c2 => ?_) (fun c2 => ?_)
    ·
      refine lv_iconst (v := nI 0) hx hb dX0_isBelow_39 (by decide +kernel) ?_
      exact ro_zret hx hb hr hlk dX0_isBelow_40 nar_b0 (by rw [if_neg (by omega), nI_0])
    ·
      refine lv_iload_n hx hb dX0_isBelow_18 rfl (lv_at hl 1 rfl) ?_
      refine lv_aload_n hx hb dX0_isBelow_19 rfl (lv_at hl 0 rfl) ?_
      refine va_get (D := D) (ci := 0) (v := .ref bf) (C := RX0) (T := TX0) (N := 9) hx hb hts inX0 hown hK hP 0 rfl rfl 4 (by decide) (hts _ mf_X0_24) (fun _ h9 => h9) rfl dX0_isBelow_20 ?_
      refine lv_iload_n hx hb dX0_isBelow_23 rfl (lv_at hl 2 rfl) ?_
      refine n_iald hx hb hK hP 5 0 rfl rfl (k := j) (by omega) (by decide) dX0_isBelow_24 ?_
      refine lv_aload_n hx hb dX0_isBelow_25 rfl (lv_at hl 0 rfl) ?_
      refine va_get (D := D) (ci := 0) (v := .ref bm) (C := RX0) (T := TX0) (N := 9) hx hb hts inX0 hown hK hP 0 rfl rfl 2 (by decide) (hts _ mf_X0_18) (fun _ h9 => h9) rfl dX0_isBelow_26 ?_
      refine lv_iload_n hx hb dX0_isBelow_29 rfl (lv_at hl 2 rfl) ?_
      refine n_iald hx hb hK hP 3 0 rfl rfl (k := j) (by omega) (by decide) dX0_isBelow_30 ?_
      refine n_iadd hx hb dX0_isBelow_31 ?_
      refine n_ge (tgt := 39) hx hb dX0_isBelow_32 (by decide) (by omega) (by omega) (fun c3 => ?_) (fun c3 => ?_)
      ·
        refine lv_iconst (v := nI 0) hx hb dX0_isBelow_39 (by decide +kernel) ?_
        exact ro_zret hx hb hr hlk dX0_isBelow_40 nar_b0 (by rw [if_neg (by omega), nI_0])
      ·
        refine lv_iconst (v := nI 1) hx hb dX0_isBelow_35 (by decide +kernel) ?_
        refine lv_goto (tgt := 40) hx hb dX0_isBelow_36 (by decide) ?_
        exact ro_zret hx hb hr hlk dX0_isBelow_40 nar_b1 (by rw [if_pos (by omega), nI_one])
set_option maxHeartbeats 4000000 in
set_option maxRecDepth 100000 in
theorem c_X0_isBelow_0 (l : Launch) (D : va_G) (cI cJ cZ : ClassId) (b0 bb bd bm bl bf ba bk bg : Nat) (BB BD BM BL BF BA BK BG : Nat → Nat) (N : Nat) (hN : N ≤ 24) (k : Nat) : RO l yX0_isBelow cX0_isBelow 3 (some .boolean) (rmN 3 62) D (ty3 cI cJ cZ) [.ref b0, .int (nI k), .int (oI 0)] [(b0, .inr (0, [.ref bb, .ref bd, .ref bm, .ref bl, .ref bf, .ref ba, .ref bk, .ref bg, .int (nI N)])), (bb, .inl (cI, 24, .inl (nF BB))), (bd, .inl (cI, 24, .inl (nF BD))), (bm, .inl (cI, 24, .inl (nF BM))), (bl, .inl (cI, 24, .inl (nF BL))), (bf, .inl (cI, 24, .inl (nF BF))), (ba, .inl (cI, 24, .inl (oF BA))), (bk, .inl (cI, 24, .inl (oF BK))), (bg, .inl (cI, 24, .inl (nF BG)))] (.int (nI 0)) := by
  have hx0 : oI 0 < 0 := by decide +kernel
  refine ro_start (by decide) (Nat.le_of_ble_eq_true rfl) ?_
  intro pp ee ss mm below meth cd C0 hP hK ls hl
  obtain ⟨hx, hb, hr, hml, hown, hts, hlk⟩ := C0
  have hown : ss.vm.findClass RX0 = some mm.cls := hown
  have hl : lv_has ls 3 [(0, .ref b0), (1, .int (nI k)), (2, .int (oI 0))] := hl
  have hP : va_P D vwCl [(b0, .inr (0, [.ref bb, .ref bd, .ref bm, .ref bl, .ref bf, .ref ba, .ref bk, .ref bg, .int (nI N)])), (bb, .inl (cI, 24, .inl (nF BB))), (bd, .inl (cI, 24, .inl (nF BD))), (bm, .inl (cI, 24, .inl (nF BM))), (bl, .inl (cI, 24, .inl (nF BL))), (bf, .inl (cI, 24, .inl (nF BF))), (ba, .inl (cI, 24, .inl (oF BA))), (bk, .inl (cI, 24, .inl (oF BK))), (bg, .inl (cI, 24, .inl (nF BG)))] ss.heap := hP
  refine lv_aload_n hx hb dX0_isBelow_0 rfl (lv_at hl 0 rfl) ?_
  refine lv_iload_n hx hb dX0_isBelow_1 rfl (lv_at hl 2 rfl) ?_
  refine ro_V (As := [.int (oI 0)]) (rest := []) ⟨hx, hb, hml, hown, hts⟩ (c_X0_has_neg l D cI cJ cZ b0 bb bd bm bl bf ba bk bg BB BD BM BL BF BA BK BG N (by omega) ((oI 0)) hx0) (k_X0_64 hts ⟨Nat.le_of_ble_eq_true rfl, Nat.le_of_ble_eq_true rfl⟩) hK hP 0 rfl rfl rfl [0, 1, 2, 3, 4, 5, 6, 7, 8] rfl rfl hl.1 rfl (Nat.le_of_ble_eq_true rfl) dX0_isBelow_2 ⟨Nat.le_of_ble_eq_true rfl, Nat.le_of_ble_eq_true rfl⟩ ?_
  refine n_if_eq (tgt := 39) hx hb dX0_isBelow_5 (by decide) (by decide) (fun _ => ?_) (fun h9 => absurd rfl h9)
  refine lv_iconst (v := nI 0) hx hb dX0_isBelow_39 (by decide +kernel) ?_
  exact ro_zret hx hb hr hlk dX0_isBelow_40 nar_b0 (rfl)
theorem c_X0_isBelow (l : Launch) (D : va_G) (cI cJ cZ : ClassId) (b0 bb bd bm bl bf ba bk bg : Nat) (BB BD BM BL BF BA BK BG : Nat → Nat) (N : Nat) (hN : N ≤ 24) (k e : Nat) (hk : k < 2 ^ 31) (hB : ∀ j, j + 1 < N → BF j ≤ 24 ∧ BM j ≤ 24) (he : e < 2 ^ 31) : RO l yX0_isBelow cX0_isBelow 3 (some .boolean) (rmN 3 62) D (ty3 cI cJ cZ) [.ref b0, .int (nI k), .int (oI e)] [(b0, .inr (0, [.ref bb, .ref bd, .ref bm, .ref bl, .ref bf, .ref ba, .ref bk, .ref bg, .int (nI N)])), (bb, .inl (cI, 24, .inl (nF BB))), (bd, .inl (cI, 24, .inl (nF BD))), (bm, .inl (cI, 24, .inl (nF BM))), (bl, .inl (cI, 24, .inl (nF BL))), (bf, .inl (cI, 24, .inl (nF BF))), (ba, .inl (cI, 24, .inl (oF BA))), (bk, .inl (cI, 24, .inl (oF BK))), (bg, .inl (cI, 24, .inl (nF BG)))] (.int (if 0 < e ∧ e < N ∧ BF (e - 1) ≤ k ∧ k < BF (e - 1) + BM (e - 1) then 1 else 0)) := by
  cases e with
  | zero =>
    have h := c_X0_isBelow_0 l D cI cJ cZ b0 bb bd bm bl bf ba bk bg BB BD BM BL BF BA BK BG N hN k
    rw [if_neg (by omega), ← nI_0]
    exact h
  | succ e =>
    have h := c_X0_isBelow_1 l D cI cJ cZ b0 bb bd bm bl bf ba bk bg BB BD BM BL BF BA BK BG N hN k e hk (hB e) (by omega)
    rw [oI_s]
    have e1 : (e + 1 - 1) = e := rfl
    by_cases g : e < N - 1 ∧ BF e ≤ k ∧ k < BF e + BM e
    · rw [if_pos g] at h
      rw [if_pos (by rw [e1]; omega)]
      exact h
    · rw [if_neg g] at h
      rw [if_neg (by rw [e1]; omega)]
      exact h
set_option maxHeartbeats 4000000 in
set_option maxRecDepth 100000 in
theorem c_X0_greatestDepthWithout (l : Launch) (D : va_G) (cI cJ cZ : ClassId) (b0 bb bd bm bl bf ba bk bg : Nat) (BB BD BM BL BF BA BK BG : Nat → Nat) (N : Nat) (hN : N ≤ 24) (hBK : ∀ k, k < N → BK k < N) (hDK : ∀ k, k < N → dok BK BD k ≤ 24) (hB : ∀ j, j + 1 < N → BF j ≤ 24 ∧ BM j ≤ 24) (j : Nat) (hj : j < N) : RO l yX0_greatestDepthWithout cX0_greatestDepthWithout 6 (some .int) (rmN 4 84) D (ty3 cI cJ cZ) [.ref b0, .int (nI j)] [(b0, .inr (0, [.ref bb, .ref bd, .ref bm, .ref bl, .ref bf, .ref ba, .ref bk, .ref bg, .int (nI N)])), (bb, .inl (cI, 24, .inl (nF BB))), (bd, .inl (cI, 24, .inl (nF BD))), (bm, .inl (cI, 24, .inl (nF BM))), (bl, .inl (cI, 24, .inl (nF BL))), (bf, .inl (cI, 24, .inl (nF BF))), (ba, .inl (cI, 24, .inl (oF BA))), (bk, .inl (cI, 24, .inl (oF BK))), (bg, .inl (cI, 24, .inl (nF BG)))] (.int (nI (mxw (dok BK BD) BF BM N j (BK j) N))) := by
  have hkj := hBK j hj
  refine ro_start (by decide) (Nat.le_of_ble_eq_true rfl) ?_
  intro pp ee ss mm below meth cd C0 hP hK ls hl
  obtain ⟨hx, hb, hr, hml, hown, hts, hlk⟩ := C0
  have hown : ss.vm.findClass RX0 = some mm.cls := hown
  have hl : lv_has ls 6 [(0, .ref b0), (1, .int (nI j))] := hl
  have hP : va_P D vwCl [(b0, .inr (0, [.ref bb, .ref bd, .ref bm, .ref bl, .ref bf, .ref ba, .ref bk, .ref bg, .int (nI N)])), (bb, .inl (cI, 24, .inl (nF BB))), (bd, .inl (cI, 24, .inl (nF BD))), (bm, .inl (cI, 24, .inl (nF BM))), (bl, .inl (cI, 24, .inl (nF BL))), (bf, .inl (cI, 24, .inl (nF BF))), (ba, .inl (cI, 24, .inl (oF BA))), (bk, .inl (cI, 24, .inl (oF BK))), (bg, .inl (cI, 24, .inl (nF BG)))] ss.heap := hP
  refine lv_aload_n hx hb dX0_greatestDepthWithout_0 rfl (lv_at hl 0 rfl) ?_
  refine va_get (D := D) (ci := 0) (v := .ref bk) (C := RX0) (T := TX0) (N := 9) hx hb hts inX0 hown hK hP 0 rfl rfl 6 (by decide) (hts _ mf_X0_30) (fun _ h9 => h9) rfl dX0_greatestDepthWithout_1 ?_
  refine lv_iload_n hx hb dX0_greatestDepthWithout_4 rfl (lv_at hl 1 rfl) ?_
  refine o_iald hx hb hK hP 7 0 rfl rfl (k := j) (by omega) (by decide) dX0_greatestDepthWithout_5 ?_
  refine lv_istore_n (lv' := [(2, .int (oI (BK j))), (0, .ref b0), (1, .int (nI j))]) hx hb dX0_greatestDepthWithout_6 rfl hl (by decide) rfl (fun ls hl => ?_)
  refine lv_iconst (v := nI 0) hx hb dX0_greatestDepthWithout_7 (by decide +kernel) ?_
  refine lv_istore_n (lv' := [(3, .int (nI 0)), (2, .int (oI (BK j))), (0, .ref b0), (1, .int (nI j))]) hx hb dX0_greatestDepthWithout_8 rfl hl (by decide) rfl (fun ls hl => ?_)
  refine lv_iconst (v := nI 0) hx hb dX0_greatestDepthWithout_9 (by decide +kernel) ?_
  refine lv_istore (lv' := [(4, .int (nI 0)), (3, .int (nI 0)), (2, .int (oI (BK j))), (0, .ref b0), (1, .int (nI j))]) hx hb dX0_greatestDepthWithout_10 hl (by decide) rfl (fun ls hl => ?_)
  have loop12 : ∀ (d : Nat) (i : Nat) (g : Nat) (ls : Array Slot), N - i < d → (i ≤ N) → (g = mxw (dok BK BD) BF BM N j (BK j) i) → lv_has ls 6 [(0, .ref b0), (1, .int (nI j)), (2, .int (oI (BK j))), (3, .int (nI g)), (4, .int (nI i))] → W pp l ee (rmN 4 84) ss mm [.ref b0, .int (nI j)].toArray below meth cd ss.heap [] 0 0 (MQ below (QR (.int (nI (mxw (dok BK BD) BF BM N j (BK j) N)))) [.ref b0, .int (nI j)].toArray ss 0 0 (fun _ => False)) (F0 mm 12 ls []) := by
    intro d
    induction d with
    | zero => intro i g ls h; exact absurd h (Nat.not_lt_zero _)
    | succ d ih12 =>
      intro i g ls hd12 hi hg hl
      have hg1 : g ≤ 24 := by rw [hg]; exact mxw_le (fun j hj => hDK j (by omega))
      refine lv_iload hx hb dX0_greatestDepthWithout_12 (lv_at hl 4 rfl) ?_
      refine lv_aload_n hx hb dX0_greatestDepthWithout_14 rfl (lv_at hl 0 rfl) ?_
      refine va_get (D := D) (ci := 0) (v := .int (nI N)) (C := RX0) (T := TX0) (N := 9) hx hb hts inX0 hown hK hP 0 rfl rfl 8 (by decide) (hts _ mf_X0_36) (fun _ h9 => h9) rfl dX0_greatestDepthWithout_15 ?_
      refine n_ge (tgt := 64) hx hb dX0_greatestDepthWithout_18 (by decide) (by omega) (by omega) (fun c1 => ?_) (fun c1 => ?_)
      ·
        refine lv_iload_n hx hb dX0_greatestDepthWithout_64 rfl (lv_at hl 3 rfl) ?_
        exact ro_iret hx hb hr hlk dX0_greatestDepthWithout_65 (by rw [hg, show i = N by omega])
      ·
        have hdi := hDK i (by omega)
        refine lv_iload hx hb dX0_greatestDepthWithout_21 (lv_at hl 4 rfl) ?_
        refine lv_iload_n hx hb dX0_greatestDepthWithout_23 rfl (lv_at hl 1 rfl) ?_
        refine n_eq (tgt := 58) hx hb dX0_greatestDepthWithout_24 (by decide) (by omega) (by omega) (fun c2 => ?_) (fun c2 => ?_)
        ·
          have e0 := c2
          refine lv_iinc (v := nI (i + 1)) (lv' := [(4, .int (nI (i + 1))), (0, .ref b0), (1, .int (nI j)), (2, .int (oI (BK j))), (3, .int (nI g))]) hx hb dX0_greatestDepthWithout_58 hl (k := 4) rfl (nI_add i 1) (by decide) rfl (fun ls hl => ?_)
          refine lv_goto (tgt := 12) hx hb dX0_greatestDepthWithout_61 (by decide) ?_
          exact ih12 (i + 1) g ls (by omega) (by omega) (by show _ = (if i = j then mxw (dok BK BD) BF BM N j (BK j) i else max (mxw (dok BK BD) BF BM N j (BK j) i) (dok BK BD i - (if 0 < BK j ∧ BK j < N ∧ BF (BK j - 1) ≤ i ∧ i < BF (BK j - 1) + BM (BK j - 1) then 1 else 0))); rw [← hg]; first | rw [if_pos e0] | rw [if_neg e0, if_pos e1] | rw [if_neg e0, if_neg e1]) (lv_sub hl [1, 2, 3, 4, 0] rfl)
        ·
          have e0 := c2
          refine lv_aload_n hx hb dX0_greatestDepthWithout_27 rfl (lv_at hl 0 rfl) ?_
          refine lv_iload hx hb dX0_greatestDepthWithout_28 (lv_at hl 4 rfl) ?_
          refine lv_iload_n hx hb dX0_greatestDepthWithout_30 rfl (lv_at hl 2 rfl) ?_
          refine ro_V (As := [.int (nI i), .int (oI (BK j))]) (rest := []) ⟨hx, hb, hml, hown, hts⟩ (c_X0_isBelow l D cI cJ cZ b0 bb bd bm bl bf ba bk bg BB BD BM BL BF BA BK BG N (by omega) i (BK j) (by omega) hB (by omega)) (k_X0_72 hts ⟨Nat.le_of_ble_eq_true rfl, Nat.le_of_ble_eq_true rfl⟩) hK hP 0 rfl rfl rfl [0, 1, 2, 3, 4, 5, 6, 7, 8] rfl rfl hl.1 rfl (Nat.le_of_ble_eq_true rfl) dX0_greatestDepthWithout_31 ⟨Nat.le_of_ble_eq_true rfl, Nat.le_of_ble_eq_true rfl⟩ ?_
          refine b_if_eq (tgt := 41) hx hb dX0_greatestDepthWithout_34 (by decide) (fun c3 => ?_) (fun c3 => ?_)
          ·
            have e1 := c3
            refine lv_iconst (v := nI 0) hx hb dX0_greatestDepthWithout_41 (by decide +kernel) ?_
            refine lv_istore (lv' := [(5, .int (nI 0)), (0, .ref b0), (1, .int (nI j)), (2, .int (oI (BK j))), (3, .int (nI g)), (4, .int (nI i))]) hx hb dX0_greatestDepthWithout_42 hl (by decide) rfl (fun ls hl => ?_)
            refine lv_iload_n hx hb dX0_greatestDepthWithout_44 rfl (lv_at hl 4 rfl) ?_
            refine lv_aload_n hx hb dX0_greatestDepthWithout_45 rfl (lv_at hl 1 rfl) ?_
            refine lv_iload hx hb dX0_greatestDepthWithout_46 (lv_at hl 5 rfl) ?_
            refine ro_V (As := [.int (nI i)]) (rest := [.int (nI g)]) ⟨hx, hb, hml, hown, hts⟩ (c_X0_depthOfKey l D cI cJ cZ b0 bb bd bm bl bf ba bk bg BB BD BM BL BF BA BK BG N (by omega) i (by omega) (hBK _ (by omega))) (k_X0_68 hts ⟨Nat.le_of_ble_eq_true rfl, Nat.le_of_ble_eq_true rfl⟩) hK hP 0 rfl rfl rfl [0, 1, 2, 3, 4, 5, 6, 7, 8] rfl rfl hl.1 rfl (Nat.le_of_ble_eq_true rfl) dX0_greatestDepthWithout_48 ⟨Nat.le_of_ble_eq_true rfl, Nat.le_of_ble_eq_true rfl⟩ ?_
            refine lv_iload hx hb dX0_greatestDepthWithout_51 (lv_at hl 0 rfl) ?_
            refine lv_isub hx hb dX0_greatestDepthWithout_53 ?_
            refine tq (y := (nI (dok BK BD i) - nI 0)) (rfl) ?_
            refine va_mmax hx hb (hml.trans hl.1.symm) hown (hts _ ml_X0_40) (hts _ ms_Math_max) (hts _ mn_Math) (hts _ mc_Math_max) (Nat.le_of_ble_eq_true rfl) (Nat.le_of_ble_eq_true rfl) (Nat.le_of_ble_eq_true rfl) (Nat.le_of_ble_eq_true rfl) dX0_greatestDepthWithout_54 ?_
            refine tq (y := (nI (max g (dok BK BD i - 0)))) (mx_s (by omega) (by omega) (by omega)) ?_
            refine lv_istore_n (lv' := [(3, .int (nI (max g (dok BK BD i - 0)))), (5, .int (nI 0)), (0, .ref b0), (1, .int (nI j)), (2, .int (oI (BK j))), (4, .int (nI i))]) hx hb dX0_greatestDepthWithout_57 rfl hl (by decide) rfl (fun ls hl => ?_)
            refine lv_iinc (v := nI (i + 1)) (lv' := [(4, .int (nI (i + 1))), (3, .int (nI (max g (dok BK BD i - 0)))), (5, .int (nI 0)), (0, .ref b0), (1, .int (nI j)), (2, .int (oI (BK j)))]) hx hb dX0_greatestDepthWithout_58 hl (k := 5) rfl (nI_add i 1) (by decide) rfl (fun ls hl => ?_)
            refine lv_goto (tgt := 12) hx hb dX0_greatestDepthWithout_61 (by decide) ?_
            exact ih12 (i + 1) (max g (dok BK BD i - 0)) ls (by omega) (by omega) (by show _ = (if i = j then mxw (dok BK BD) BF BM N j (BK j) i else max (mxw (dok BK BD) BF BM N j (BK j) i) (dok BK BD i - (if 0 < BK j ∧ BK j < N ∧ BF (BK j - 1) ≤ i ∧ i < BF (BK j - 1) + BM (BK j - 1) then 1 else 0))); rw [← hg]; first | rw [if_pos e0] | rw [if_neg e0, if_pos e1] | rw [if_neg e0, if_neg e1]) (lv_sub hl [3, 4, 5, 1, 0] rfl)
          ·
            have e1 := c3
            refine lv_iconst (v := nI 1) hx hb dX0_greatestDepthWithout_37 (by decide +kernel) ?_
            refine lv_goto (tgt := 42) hx hb dX0_greatestDepthWithout_38 (by decide) ?_
            refine lv_istore (lv' := [(5, .int (nI 1)), (0, .ref b0), (1, .int (nI j)), (2, .int (oI (BK j))), (3, .int (nI g)), (4, .int (nI i))]) hx hb dX0_greatestDepthWithout_42 hl (by decide) rfl (fun ls hl => ?_)
            refine lv_iload_n hx hb dX0_greatestDepthWithout_44 rfl (lv_at hl 4 rfl) ?_
            refine lv_aload_n hx hb dX0_greatestDepthWithout_45 rfl (lv_at hl 1 rfl) ?_
            refine lv_iload hx hb dX0_greatestDepthWithout_46 (lv_at hl 5 rfl) ?_
            refine ro_V (As := [.int (nI i)]) (rest := [.int (nI g)]) ⟨hx, hb, hml, hown, hts⟩ (c_X0_depthOfKey l D cI cJ cZ b0 bb bd bm bl bf ba bk bg BB BD BM BL BF BA BK BG N (by omega) i (by omega) (hBK _ (by omega))) (k_X0_68 hts ⟨Nat.le_of_ble_eq_true rfl, Nat.le_of_ble_eq_true rfl⟩) hK hP 0 rfl rfl rfl [0, 1, 2, 3, 4, 5, 6, 7, 8] rfl rfl hl.1 rfl (Nat.le_of_ble_eq_true rfl) dX0_greatestDepthWithout_48 ⟨Nat.le_of_ble_eq_true rfl, Nat.le_of_ble_eq_true rfl⟩ ?_
            refine lv_iload hx hb dX0_greatestDepthWithout_51 (lv_at hl 0 rfl) ?_
            refine lv_isub hx hb dX0_greatestDepthWithout_53 ?_
            refine tq (y := (nI (dok BK BD i) - nI 1)) (rfl) ?_
            refine va_mmax hx hb (hml.trans hl.1.symm) hown (hts _ ml_X0_40) (hts _ ms_Math_max) (hts _ mn_Math) (hts _ mc_Math_max) (Nat.le_of_ble_eq_true rfl) (Nat.le_of_ble_eq_true rfl) (Nat.le_of_ble_eq_true rfl) (Nat.le_of_ble_eq_true rfl) dX0_greatestDepthWithout_54 ?_
            refine tq (y := (nI (max g (dok BK BD i - 1)))) (mx_s (by omega) (by omega) (by omega)) ?_
            refine lv_istore_n (lv' := [(3, .int (nI (max g (dok BK BD i - 1)))), (5, .int (nI 1)), (0, .ref b0), (1, .int (nI j)), (2, .int (oI (BK j))), (4, .int (nI i))]) hx hb dX0_greatestDepthWithout_57 rfl hl (by decide) rfl (fun ls hl => ?_)
            refine lv_iinc (v := nI (i + 1)) (lv' := [(4, .int (nI (i + 1))), (3, .int (nI (max g (dok BK BD i - 1)))), (5, .int (nI 1)), (0, .ref b0), (1, .int (nI j)), (2, .int (oI (BK j)))]) hx hb dX0_greatestDepthWithout_58 hl (k := 5) rfl (nI_add i 1) (by decide) rfl (fun ls hl => ?_)
            refine lv_goto (tgt := 12) hx hb dX0_greatestDepthWithout_61 (by decide) ?_
            exact ih12 (i + 1) (max g (dok BK BD i - 1)) ls (by omega) (by omega) (by show _ = (if i = j then mxw (dok BK BD) BF BM N j (BK j) i else max (mxw (dok BK BD) BF BM N j (BK j) i) (dok BK BD i - (if 0 < BK j ∧ BK j < N ∧ BF (BK j - 1) ≤ i ∧ i < BF (BK j - 1) + BM (BK j - 1) then 1 else 0))); rw [← hg]; first | rw [if_pos e0] | rw [if_neg e0, if_pos e1] | rw [if_neg e0, if_neg e1]) (lv_sub hl [3, 4, 5, 1, 0] rfl)
  exact loop12 _ 0 0 ls (Nat.lt_succ_self _) (Nat.zero_le _) rfl (lv_sub hl [3, 4, 2, 1, 0] rfl)
set_option maxHeartbeats 4000000 in
set_option maxRecDepth 100000 in
theorem c_X0_keyReachedBy (l : Launch) (D : va_G) (cI cJ cZ : ClassId) (b0 bb bd bm bl bf ba bk bg : Nat) (BB BD BM BL BF BA BK BG : Nat → Nat) (N : Nat) (hN : N ≤ 24) (hT : ∀ b, b + 1 < N → 1 ≤ BL b ∧ BL b < BM b ∧ b + BM b ≤ N ∧ BB b < 72 ∧ BF b + BM b ≤ N) (w0 A s : Nat) (hw0 : Wf s A) : RO l yX0_keyReachedBy cX0_keyReachedBy 6 (some .int) (rmN 3 68) D (ty3 cI cJ cZ) [.ref b0, .ref w0] [(b0, .inr (0, [.ref bb, .ref bd, .ref bm, .ref bl, .ref bf, .ref ba, .ref bk, .ref bg, .int (nI N)])), (bb, .inl (cI, 24, .inl (nF BB))), (bd, .inl (cI, 24, .inl (nF BD))), (bm, .inl (cI, 24, .inl (nF BM))), (bl, .inl (cI, 24, .inl (nF BL))), (bf, .inl (cI, 24, .inl (nF BF))), (ba, .inl (cI, 24, .inl (oF BA))), (bk, .inl (cI, 24, .inl (oF BK))), (bg, .inl (cI, 24, .inl (nF BG))), (w0, .inr (4, [.long (lN A), .int (nI s)]))] (.int (oI (if N = 0 then 0 else if N = 1 then 1 else kr BB BM BL BF s A (N - 1) 0))) := by
  have hs8 := hw0.1
  have hA64 := hw0.2.1
  refine ro_start (by decide) (Nat.le_of_ble_eq_true rfl) ?_
  intro pp ee ss mm below meth cd C0 hP hK ls hl
  obtain ⟨hx, hb, hr, hml, hown, hts, hlk⟩ := C0
  have hown : ss.vm.findClass RX0 = some mm.cls := hown
  have hl : lv_has ls 6 [(0, .ref b0), (1, .ref w0)] := hl
  have hP : va_P D vwCl [(b0, .inr (0, [.ref bb, .ref bd, .ref bm, .ref bl, .ref bf, .ref ba, .ref bk, .ref bg, .int (nI N)])), (bb, .inl (cI, 24, .inl (nF BB))), (bd, .inl (cI, 24, .inl (nF BD))), (bm, .inl (cI, 24, .inl (nF BM))), (bl, .inl (cI, 24, .inl (nF BL))), (bf, .inl (cI, 24, .inl (nF BF))), (ba, .inl (cI, 24, .inl (oF BA))), (bk, .inl (cI, 24, .inl (oF BK))), (bg, .inl (cI, 24, .inl (nF BG))), (w0, .inr (4, [.long (lN A), .int (nI s)]))] ss.heap := hP
  refine lv_aload_n hx hb dX0_keyReachedBy_0 rfl (lv_at hl 0 rfl) ?_
  refine va_get (D := D) (ci := 0) (v := .int (nI N)) (C := RX0) (T := TX0) (N := 9) hx hb hts inX0 hown hK hP 0 rfl rfl 8 (by decide) (hts _ mf_X0_36) (fun _ h9 => h9) rfl dX0_keyReachedBy_1 ?_
  refine lv_iconst (v := nI 2) hx hb dX0_keyReachedBy_4 (by decide +kernel) ?_
  refine n_ge (tgt := 22) hx hb dX0_keyReachedBy_5 (by decide) (by omega) (by omega) (fun c1 => ?_) (fun c1 => ?_)
  ·
    refine lv_iconst (v := nI 0) hx hb dX0_keyReachedBy_22 (by decide +kernel) ?_
    refine lv_istore_n (lv' := [(2, .int (nI 0)), (0, .ref b0), (1, .ref w0)]) hx hb dX0_keyReachedBy_23 rfl hl (by decide) rfl (fun ls hl => ?_)
    refine lv_iconst (v := nI 0) hx hb dX0_keyReachedBy_24 (by decide +kernel) ?_
    refine lv_istore_n (lv' := [(3, .int (nI 0)), (2, .int (nI 0)), (0, .ref b0), (1, .ref w0)]) hx hb dX0_keyReachedBy_25 rfl hl (by decide) rfl (fun ls hl => ?_)
    have loop26 : ∀ (d : Nat) (b : Nat) (i : Nat) (ls : Array Slot), N - 1 - i < d → (i ≤ N - 1) → (b + 1 < N) → (kr BB BM BL BF s A (N - 1) 0 = kr BB BM BL BF s A (N - 1 - i) b) → lv_has ls 6 [(0, .ref b0), (1, .ref w0), (2, .int (nI b)), (3, .int (nI i))] → W pp l ee (rmN 3 68) ss mm [.ref b0, .ref w0].toArray below meth cd ss.heap [] 0 0 (MQ below (QR (.int (oI (if N = 0 then 0 else if N = 1 then 1 else kr BB BM BL BF s A (N - 1) 0)))) [.ref b0, .ref w0].toArray ss 0 0 (fun _ => False)) (F0 mm 26 ls []) := by
      intro d
      induction d with
      | zero => intro b i ls h; exact absurd h (Nat.not_lt_zero _)
      | succ d ih26 =>
        intro b i ls hd26 hi hb1 hkr hl
        have hTb := hT b hb1
        refine lv_iload_n hx hb dX0_keyReachedBy_26 rfl (lv_at hl 3 rfl) ?_
        refine lv_aload_n hx hb dX0_keyReachedBy_27 rfl (lv_at hl 0 rfl) ?_
        refine ro_V (As := []) (rest := [.int (nI i)]) ⟨hx, hb, hml, hown, hts⟩ (c_X0_count l D cI cJ cZ b0 bb bd bm bl bf ba bk bg BB BD BM BL BF BA BK BG N (by omega) ) (k_X0_46 hts ⟨Nat.le_of_ble_eq_true rfl, Nat.le_of_ble_eq_true rfl⟩) hK hP 0 rfl rfl rfl [0, 1, 2, 3, 4, 5, 6, 7, 8] rfl rfl hl.1 rfl (Nat.le_of_ble_eq_true rfl) dX0_keyReachedBy_28 ⟨Nat.le_of_ble_eq_true rfl, Nat.le_of_ble_eq_true rfl⟩ ?_
        refine n_ge (tgt := 152) hx hb dX0_keyReachedBy_31 (by decide) (by omega) (by omega) (fun c2 => ?_) (fun c2 => ?_)
        ·
          refine lv_iconst (v := oI 0) hx hb dX0_keyReachedBy_152 (by decide +kernel) ?_
          exact ro_iret hx hb hr hlk dX0_keyReachedBy_153 (by rw [if_neg (by omega), if_neg (by omega), hkr, show N - 1 - i = 0 by omega]; rfl)
        ·
          have hk1 : kr BB BM BL BF s A (N - 1) 0 = if bitr s A (BB b) = 1 then (if BM b - BL b = 1 then BF b + BL b + 1 else kr BB BM BL BF s A (N - 1 - (i + 1)) (b + BL b)) else (if BL b = 1 then BF b + 1 else kr BB BM BL BF s A (N - 1 - (i + 1)) (b + 1)) := by rw [hkr, show N - 1 - i = (N - 1 - (i + 1)) + 1 by omega]; rfl
          refine lv_aload_n hx hb dX0_keyReachedBy_34 rfl (lv_at hl 0 rfl) ?_
          refine lv_iload_n hx hb dX0_keyReachedBy_35 rfl (lv_at hl 2 rfl) ?_
          refine ro_V (As := [.int (nI b)]) (rest := []) ⟨hx, hb, hml, hown, hts⟩ (c_X0_has l D cI cJ cZ b0 bb bd bm bl bf ba bk bg BB BD BM BL BF BA BK BG N (by omega) b (by omega)) (k_X0_64 hts ⟨Nat.le_of_ble_eq_true rfl, Nat.le_of_ble_eq_true rfl⟩) hK hP 0 rfl rfl rfl [0, 1, 2, 3, 4, 5, 6, 7, 8] rfl rfl hl.1 rfl (Nat.le_of_ble_eq_true rfl) dX0_keyReachedBy_36 ⟨Nat.le_of_ble_eq_true rfl, Nat.le_of_ble_eq_true rfl⟩ ?_
          refine b_if_eq (tgt := 152) hx hb dX0_keyReachedBy_39 (by decide) (fun c3 => ?_) (fun c3 => ?_)
          ·
            exact absurd c3 (by omega)
          ·
            refine lv_aload_n hx hb dX0_keyReachedBy_42 rfl (lv_at hl 1 rfl) ?_
            refine lv_aload_n hx hb dX0_keyReachedBy_43 rfl (lv_at hl 0 rfl) ?_
            refine va_get (D := D) (ci := 0) (v := .ref bb) (C := RX0) (T := TX0) (N := 9) hx hb hts inX0 hown hK hP 0 rfl rfl 0 (by decide) (hts _ mf_X0_9) (fun _ h9 => h9) rfl dX0_keyReachedBy_44 ?_
            refine lv_iload_n hx hb dX0_keyReachedBy_47 rfl (lv_at hl 2 rfl) ?_
            refine n_iald hx hb hK hP 1 0 rfl rfl (k := b) (by omega) (by decide) dX0_keyReachedBy_48 ?_
            refine ro_V (As := [.int (nI (BB b))]) (rest := []) ⟨hx, hb, hml, hown, hts⟩ (c_X4_bitAt l D cI cJ cZ w0 A s (BB b) hA64 (by omega) (by omega)) (k_X0_76 hts ⟨Nat.le_of_ble_eq_true rfl, Nat.le_of_ble_eq_true rfl⟩) hK hP 9 rfl rfl rfl [9] rfl rfl hl.1 rfl (Nat.le_of_ble_eq_true rfl) dX0_keyReachedBy_49 ⟨Nat.le_of_ble_eq_true rfl, Nat.le_of_ble_eq_true rfl⟩ ?_
            refine lv_iconst (v := nI 1) hx hb dX0_keyReachedBy_52 (by decide +kernel) ?_
            refine n_ne (tgt := 60) hx hb dX0_keyReachedBy_53 (by decide) (Nat.lt_trans (bitr_lt _ _ _) (by decide)) (by decide) (fun c4 => ?_) (fun c4 => ?_)
            ·
              have e0 := c4
              refine lv_iconst (v := nI 0) hx hb dX0_keyReachedBy_60 (by decide +kernel) ?_
              refine lv_istore (lv' := [(4, .int (nI 0)), (0, .ref b0), (1, .ref w0), (2, .int (nI b)), (3, .int (nI i))]) hx hb dX0_keyReachedBy_61 hl (by decide) rfl (fun ls hl => ?_)
              refine lv_iload hx hb dX0_keyReachedBy_63 (lv_at hl 0 rfl) ?_
              refine n_if_eq (tgt := 84) hx hb dX0_keyReachedBy_65 (by decide) (by decide) (fun _ => ?_) (fun h9 => absurd rfl h9)
              refine lv_aload_n hx hb dX0_keyReachedBy_84 rfl (lv_at hl 1 rfl) ?_
              refine va_get (D := D) (ci := 0) (v := .ref bl) (C := RX0) (T := TX0) (N := 9) hx hb hts inX0 hown hK hP 0 rfl rfl 3 (by decide) (hts _ mf_X0_21) (fun _ h9 => h9) rfl dX0_keyReachedBy_85 ?_
              refine lv_iload_n hx hb dX0_keyReachedBy_88 rfl (lv_at hl 3 rfl) ?_
              refine n_iald hx hb hK hP 4 0 rfl rfl (k := b) (by omega) (by decide) dX0_keyReachedBy_89 ?_
              refine lv_istore (lv' := [(5, .int (nI (BL b))), (4, .int (nI 0)), (0, .ref b0), (1, .ref w0), (2, .int (nI b)), (3, .int (nI i))]) hx hb dX0_keyReachedBy_90 hl (by decide) rfl (fun ls hl => ?_)
              refine lv_iload hx hb dX0_keyReachedBy_92 (lv_at hl 0 rfl) ?_
              refine lv_iconst (v := nI 1) hx hb dX0_keyReachedBy_94 (by decide +kernel) ?_
              refine n_ne (tgt := 126) hx hb dX0_keyReachedBy_95 (by decide) (by omega) (by omega) (fun c6 => ?_) (fun c6 => ?_)
              ·
                have e1 := c6
                refine lv_iload hx hb dX0_keyReachedBy_126 (lv_at hl 1 rfl) ?_
                refine n_if_eq (tgt := 142) hx hb dX0_keyReachedBy_128 (by decide) (by decide) (fun _ => ?_) (fun h9 => absurd rfl h9)
                refine lv_iload_n hx hb dX0_keyReachedBy_142 rfl (lv_at hl 4 rfl) ?_
                refine lv_iconst (v := nI 1) hx hb dX0_keyReachedBy_143 (by decide +kernel) ?_
                refine n_iadd hx hb dX0_keyReachedBy_144 ?_
                refine lv_istore_n (lv' := [(2, .int (nI (b + 1))), (5, .int (nI (BL b))), (4, .int (nI 0)), (0, .ref b0), (1, .ref w0), (3, .int (nI i))]) hx hb dX0_keyReachedBy_145 rfl hl (by decide) rfl (fun ls hl => ?_)
                refine lv_iinc (v := nI (i + 1)) (lv' := [(3, .int (nI (i + 1))), (2, .int (nI (b + 1))), (5, .int (nI (BL b))), (4, .int (nI 0)), (0, .ref b0), (1, .ref w0)]) hx hb dX0_keyReachedBy_146 hl (k := 5) rfl (nI_add i 1) (by decide) rfl (fun ls hl => ?_)
                refine lv_goto (tgt := 26) hx hb dX0_keyReachedBy_149 (by decide) ?_
                exact ih26 (b + 1) (i + 1) ls (by omega) (by omega) (by omega) (by rw [hk1]; first | rw [if_pos e0, if_neg e1] | rw [if_neg e0, if_neg e1]) (lv_sub hl [4, 5, 1, 0] rfl)
              ·
                have e1 := c6
                refine lv_iload hx hb dX0_keyReachedBy_98 (lv_at hl 1 rfl) ?_
                refine n_if_eq (tgt := 119) hx hb dX0_keyReachedBy_100 (by decide) (by decide) (fun _ => ?_) (fun h9 => absurd rfl h9)
                refine lv_aload_n hx hb dX0_keyReachedBy_119 rfl (lv_at hl 2 rfl) ?_
                refine va_get (D := D) (ci := 0) (v := .ref bf) (C := RX0) (T := TX0) (N := 9) hx hb hts inX0 hown hK hP 0 rfl rfl 4 (by decide) (hts _ mf_X0_24) (fun _ h9 => h9) rfl dX0_keyReachedBy_120 ?_
                refine lv_iload_n hx hb dX0_keyReachedBy_123 rfl (lv_at hl 4 rfl) ?_
                refine n_iald hx hb hK hP 5 0 rfl rfl (k := b) (by omega) (by decide) dX0_keyReachedBy_124 ?_
                exact ro_iret hx hb hr hlk dX0_keyReachedBy_125 (by rw [if_neg (by omega), if_neg (by omega), hk1]; first | rw [if_pos e0, if_pos e1, oI_s] | rw [if_neg e0, if_pos e1, oI_s])
            ·
              have e0 := c4
              refine lv_iconst (v := nI 1) hx hb dX0_keyReachedBy_56 (by decide +kernel) ?_
              refine lv_goto (tgt := 61) hx hb dX0_keyReachedBy_57 (by decide) ?_
              refine lv_istore (lv' := [(4, .int (nI 1)), (0, .ref b0), (1, .ref w0), (2, .int (nI b)), (3, .int (nI i))]) hx hb dX0_keyReachedBy_61 hl (by decide) rfl (fun ls hl => ?_)
              refine lv_iload hx hb dX0_keyReachedBy_63 (lv_at hl 0 rfl) ?_
              refine n_if_eq (tgt := 84) hx hb dX0_keyReachedBy_65 (by decide) (by decide) (fun h9 => absurd h9 (by decide)) (fun _ => ?_)
              refine lv_aload_n hx hb dX0_keyReachedBy_68 rfl (lv_at hl 1 rfl) ?_
              refine va_get (D := D) (ci := 0) (v := .ref bm) (C := RX0) (T := TX0) (N := 9) hx hb hts inX0 hown hK hP 0 rfl rfl 2 (by decide) (hts _ mf_X0_18) (fun _ h9 => h9) rfl dX0_keyReachedBy_69 ?_
              refine lv_iload_n hx hb dX0_keyReachedBy_72 rfl (lv_at hl 3 rfl) ?_
              refine n_iald hx hb hK hP 3 0 rfl rfl (k := b) (by omega) (by decide) dX0_keyReachedBy_73 ?_
              refine lv_aload_n hx hb dX0_keyReachedBy_74 rfl (lv_at hl 1 rfl) ?_
              refine va_get (D := D) (ci := 0) (v := .ref bl) (C := RX0) (T := TX0) (N := 9) hx hb hts inX0 hown hK hP 0 rfl rfl 3 (by decide) (hts _ mf_X0_21) (fun _ h9 => h9) rfl dX0_keyReachedBy_75 ?_
              refine lv_iload_n hx hb dX0_keyReachedBy_78 rfl (lv_at hl 3 rfl) ?_
              refine n_iald hx hb hK hP 4 0 rfl rfl (k := b) (by omega) (by decide) dX0_keyReachedBy_79 ?_
              refine n_isub hx hb dX0_keyReachedBy_80 (by omega) ?_
              refine lv_goto (tgt := 90) hx hb dX0_keyReachedBy_81 (by decide) ?_
              refine lv_istore (lv' := [(5, .int (nI ((BM b) - (BL b)))), (4, .int (nI 1)), (0, .ref b0), (1, .ref w0), (2, .int (nI b)), (3, .int (nI i))]) hx hb dX0_keyReachedBy_90 hl (by decide) rfl (fun ls hl => ?_)
              refine lv_iload hx hb dX0_keyReachedBy_92 (lv_at hl 0 rfl) ?_
              refine lv_iconst (v := nI 1) hx hb dX0_keyReachedBy_94 (by decide +kernel) ?_
              refine n_ne (tgt := 126) hx hb dX0_keyReachedBy_95 (by decide) (by omega) (by omega) (fun c10 => ?_) (fun c10 => ?_)
              ·
                have e1 := c10
                refine lv_iload hx hb dX0_keyReachedBy_126 (lv_at hl 1 rfl) ?_
                refine n_if_eq (tgt := 142) hx hb dX0_keyReachedBy_128 (by decide) (by decide) (fun h9 => absurd h9 (by decide)) (fun _ => ?_)
                refine lv_iload_n hx hb dX0_keyReachedBy_131 rfl (lv_at hl 4 rfl) ?_
                refine lv_aload_n hx hb dX0_keyReachedBy_132 rfl (lv_at hl 2 rfl) ?_
                refine va_get (D := D) (ci := 0) (v := .ref bl) (C := RX0) (T := TX0) (N := 9) hx hb hts inX0 hown hK hP 0 rfl rfl 3 (by decide) (hts _ mf_X0_21) (fun _ h9 => h9) rfl dX0_keyReachedBy_133 ?_
                refine lv_iload_n hx hb dX0_keyReachedBy_136 rfl (lv_at hl 4 rfl) ?_
                refine n_iald hx hb hK hP 4 0 rfl rfl (k := b) (by omega) (by decide) dX0_keyReachedBy_137 ?_
                refine n_iadd hx hb dX0_keyReachedBy_138 ?_
                refine lv_goto (tgt := 145) hx hb dX0_keyReachedBy_139 (by decide) ?_
                refine lv_istore_n (lv' := [(2, .int (nI (b + (BL b)))), (5, .int (nI ((BM b) - (BL b)))), (4, .int (nI 1)), (0, .ref b0), (1, .ref w0), (3, .int (nI i))]) hx hb dX0_keyReachedBy_145 rfl hl (by decide) rfl (fun ls hl => ?_)
                refine lv_iinc (v := nI (i + 1)) (lv' := [(3, .int (nI (i + 1))), (2, .int (nI (b + (BL b)))), (5, .int (nI ((BM b) - (BL b)))), (4, .int (nI 1)), (0, .ref b0), (1, .ref w0)]) hx hb dX0_keyReachedBy_146 hl (k := 5) rfl (nI_add i 1) (by decide) rfl (fun ls hl => ?_)
                refine lv_goto (tgt := 26) hx hb dX0_keyReachedBy_149 (by decide) ?_
                exact ih26 (b + (BL b)) (i + 1) ls (by omega) (by omega) (by omega) (by rw [hk1]; first | rw [if_pos e0, if_neg e1] | rw [if_neg e0, if_neg e1]) (lv_sub hl [4, 5, 1, 0] rfl)
              ·
                have e1 := c10
                refine lv_iload hx hb dX0_keyReachedBy_98 (lv_at hl 1 rfl) ?_
                refine n_if_eq (tgt := 119) hx hb dX0_keyReachedBy_100 (by decide) (by decide) (fun h9 => absurd h9 (by decide)) (fun _ => ?_)
                refine lv_aload_n hx hb dX0_keyReachedBy_103 rfl (lv_at hl 2 rfl) ?_
                refine va_get (D := D) (ci := 0) (v := .ref bf) (C := RX0) (T := TX0) (N := 9) hx hb hts inX0 hown hK hP 0 rfl rfl 4 (by decide) (hts _ mf_X0_24) (fun _ h9 => h9) rfl dX0_keyReachedBy_104 ?_
                refine lv_iload_n hx hb dX0_keyReachedBy_107 rfl (lv_at hl 4 rfl) ?_
                refine n_iald hx hb hK hP 5 0 rfl rfl (k := b) (by omega) (by decide) dX0_keyReachedBy_108 ?_
                refine lv_aload_n hx hb dX0_keyReachedBy_109 rfl (lv_at hl 2 rfl) ?_
                refine va_get (D := D) (ci := 0) (v := .ref bl) (C := RX0) (T := TX0) (N := 9) hx hb hts inX0 hown hK hP 0 rfl rfl 3 (by decide) (hts _ mf_X0_21) (fun _ h9 => h9) rfl dX0_keyReachedBy_110 ?_
                refine lv_iload_n hx hb dX0_keyReachedBy_113 rfl (lv_at hl 4 rfl) ?_
                refine n_iald hx hb hK hP 4 0 rfl rfl (k := b) (by omega) (by decide) dX0_keyReachedBy_114 ?_
                refine n_iadd hx hb dX0_keyReachedBy_115 ?_
                refine lv_goto (tgt := 125) hx hb dX0_keyReachedBy_116 (by decide) ?_
                exact ro_iret hx hb hr hlk dX0_keyReachedBy_125 (by rw [if_neg (by omega), if_neg (by omega), hk1]; first | rw [if_pos e0, if_pos e1, oI_s] | rw [if_neg e0, if_pos e1, oI_s])
    exact loop26 _ 0 0 ls (Nat.lt_succ_self _) (Nat.zero_le _) (by omega) rfl (lv_sub hl [2, 3, 1, 0] rfl)
  ·
    refine lv_aload_n hx hb dX0_keyReachedBy_8 rfl (lv_at hl 0 rfl) ?_
    refine va_get (D := D) (ci := 0) (v := .int (nI N)) (C := RX0) (T := TX0) (N := 9) hx hb hts inX0 hown hK hP 0 rfl rfl 8 (by decide) (hts _ mf_X0_36) (fun _ h9 => h9) rfl dX0_keyReachedBy_9 ?_
    refine lv_iconst (v := nI 1) hx hb dX0_keyReachedBy_12 (by decide +kernel) ?_
    refine n_ne (tgt := 20) hx hb dX0_keyReachedBy_13 (by decide) (by omega) (by omega) (fun c13 => ?_) (fun c13 => ?_)
    ·
      refine lv_iconst (v := oI 0) hx hb dX0_keyReachedBy_20 (by decide +kernel) ?_
      exact ro_iret hx hb hr hlk dX0_keyReachedBy_21 (by rw [if_pos (by omega)])
    ·
      refine lv_iconst (v := nI 0) hx hb dX0_keyReachedBy_16 (by decide +kernel) ?_
      refine lv_goto (tgt := 21) hx hb dX0_keyReachedBy_17 (by decide) ?_
      exact ro_iret hx hb hr hlk dX0_keyReachedBy_21 (by rw [if_neg (by omega), if_pos (by omega), oI_s])
set_option maxHeartbeats 4000000 in
set_option maxRecDepth 100000 in
theorem c_X0_onWay (l : Launch) (D : va_G) (cI cJ cZ : ClassId) (b0 bb bd bm bl bf ba bk bg : Nat) (BB BD BM BL BF BA BK BG : Nat → Nat) (N : Nat) (hN : N ≤ 24) (hBK : ∀ k, k < N → BK k < N) (k i : Nat) (hk : k < N) (hdk : dok BK BD k ≤ 24) (hi0 : i < 2 ^ 31) (hanc : ∀ j, j < dok BK BD k → 0 < anc BA j (BK k) ∧ anc BA j (BK k) < N) : RO l yX0_onWay cX0_onWay 6 (some .int) (rmN 4 84) D (ty3 cI cJ cZ) [.ref b0, .int (nI k), .int (nI i)] [(b0, .inr (0, [.ref bb, .ref bd, .ref bm, .ref bl, .ref bf, .ref ba, .ref bk, .ref bg, .int (nI N)])), (bb, .inl (cI, 24, .inl (nF BB))), (bd, .inl (cI, 24, .inl (nF BD))), (bm, .inl (cI, 24, .inl (nF BM))), (bl, .inl (cI, 24, .inl (nF BL))), (bf, .inl (cI, 24, .inl (nF BF))), (ba, .inl (cI, 24, .inl (oF BA))), (bk, .inl (cI, 24, .inl (oF BK))), (bg, .inl (cI, 24, .inl (nF BG)))] (.int (oI (if i < dok BK BD k then anc BA (dok BK BD k - 1 - i) (BK k) else 0))) := by
  refine ro_start (by decide) (Nat.le_of_ble_eq_true rfl) ?_
  intro pp ee ss mm below meth cd C0 hP hK ls hl
  obtain ⟨hx, hb, hr, hml, hown, hts, hlk⟩ := C0
  have hown : ss.vm.findClass RX0 = some mm.cls := hown
  have hl : lv_has ls 6 [(0, .ref b0), (1, .int (nI k)), (2, .int (nI i))] := hl
  have hP : va_P D vwCl [(b0, .inr (0, [.ref bb, .ref bd, .ref bm, .ref bl, .ref bf, .ref ba, .ref bk, .ref bg, .int (nI N)])), (bb, .inl (cI, 24, .inl (nF BB))), (bd, .inl (cI, 24, .inl (nF BD))), (bm, .inl (cI, 24, .inl (nF BM))), (bl, .inl (cI, 24, .inl (nF BL))), (bf, .inl (cI, 24, .inl (nF BF))), (ba, .inl (cI, 24, .inl (oF BA))), (bk, .inl (cI, 24, .inl (oF BK))), (bg, .inl (cI, 24, .inl (nF BG)))] ss.heap := hP
  refine lv_aload_n hx hb dX0_onWay_0 rfl (lv_at hl 0 rfl) ?_
  refine lv_iload_n hx hb dX0_onWay_1 rfl (lv_at hl 1 rfl) ?_
  refine ro_V (As := [.int (nI k)]) (rest := []) ⟨hx, hb, hml, hown, hts⟩ (c_X0_depthOfKey l D cI cJ cZ b0 bb bd bm bl bf ba bk bg BB BD BM BL BF BA BK BG N (by omega) k (by omega) (hBK _ (by omega))) (k_X0_68 hts ⟨Nat.le_of_ble_eq_true rfl, Nat.le_of_ble_eq_true rfl⟩) hK hP 0 rfl rfl rfl [0, 1, 2, 3, 4, 5, 6, 7, 8] rfl rfl hl.1 rfl (Nat.le_of_ble_eq_true rfl) dX0_onWay_2 ⟨Nat.le_of_ble_eq_true rfl, Nat.le_of_ble_eq_true rfl⟩ ?_
  refine lv_istore_n (lv' := [(3, .int (nI (dok BK BD k))), (0, .ref b0), (1, .int (nI k)), (2, .int (nI i))]) hx hb dX0_onWay_5 rfl hl (by decide) rfl (fun ls hl => ?_)
  refine lv_iload_n hx hb dX0_onWay_6 rfl (lv_at hl 3 rfl) ?_
  refine n_if_lt (tgt := 15) hx hb dX0_onWay_7 (by decide) (by omega) ?_
  refine lv_iload_n hx hb dX0_onWay_10 rfl (lv_at hl 3 rfl) ?_
  refine lv_iload_n hx hb dX0_onWay_11 rfl (lv_at hl 0 rfl) ?_
  refine n_lt (tgt := 17) hx hb dX0_onWay_12 (by decide) (by omega) (by omega) (fun c2 => ?_) (fun c2 => ?_)
  ·
    refine lv_aload_n hx hb dX0_onWay_17 rfl (lv_at hl 1 rfl) ?_
    refine va_get (D := D) (ci := 0) (v := .ref bk) (C := RX0) (T := TX0) (N := 9) hx hb hts inX0 hown hK hP 0 rfl rfl 6 (by decide) (hts _ mf_X0_30) (fun _ h9 => h9) rfl dX0_onWay_18 ?_
    refine lv_iload_n hx hb dX0_onWay_21 rfl (lv_at hl 2 rfl) ?_
    refine o_iald hx hb hK hP 7 0 rfl rfl (k := k) (by omega) (by decide) dX0_onWay_22 ?_
    refine lv_istore (lv' := [(4, .int (oI (BK k))), (3, .int (nI (dok BK BD k))), (0, .ref b0), (1, .int (nI k)), (2, .int (nI i))]) hx hb dX0_onWay_23 hl (by decide) rfl (fun ls hl => ?_)
    refine lv_iload_n hx hb dX0_onWay_25 rfl (lv_at hl 1 rfl) ?_
    refine lv_iconst (v := nI 1) hx hb dX0_onWay_26 (by decide +kernel) ?_
    refine n_isub hx hb dX0_onWay_27 (by omega) ?_
    refine lv_istore (lv' := [(5, .int (nI ((dok BK BD k) - 1))), (4, .int (oI (BK k))), (3, .int (nI (dok BK BD k))), (0, .ref b0), (1, .int (nI k)), (2, .int (nI i))]) hx hb dX0_onWay_28 hl (by decide) rfl (fun ls hl => ?_)
    have loop30 : ∀ (dd : Nat) (d : Nat) (x : Nat) (ls : Array Slot), d < dd → (i ≤ d) → (d + 1 ≤ dok BK BD k) → (x = anc BA (dok BK BD k - 1 - d) (BK k)) → lv_has ls 6 [(0, .ref b0), (2, .int (nI i)), (3, .int (nI (dok BK BD k))), (4, .int (oI x)), (5, .int (nI d))] → W pp l ee (rmN 4 84) ss mm [.ref b0, .int (nI k), .int (nI i)].toArray below meth cd ss.heap [] 0 0 (MQ below (QR (.int (oI (if i < dok BK BD k then anc BA (dok BK BD k - 1 - i) (BK k) else 0)))) [.ref b0, .int (nI k), .int (nI i)].toArray ss 0 0 (fun _ => False)) (F0 mm 30 ls []) := by
      intro d
      induction d with
      | zero => intro d x ls h; exact absurd h (Nat.not_lt_zero _)
      | succ dd ih30 =>
        intro d x ls hd30 h1 h2 hx1 hl
        have ha1 := hanc (dok BK BD k - 1 - d) (by omega)
        rw [← hx1] at ha1
        refine lv_iload hx hb dX0_onWay_30 (lv_at hl 4 rfl) ?_
        refine lv_iload_n hx hb dX0_onWay_32 rfl (lv_at hl 1 rfl) ?_
        refine n_le (tgt := 60) hx hb dX0_onWay_33 (by decide) (by omega) (by omega) (fun c3 => ?_) (fun c3 => ?_)
        ·
          refine lv_iload hx hb dX0_onWay_60 (lv_at hl 3 rfl) ?_
          exact ro_iret hx hb hr hlk dX0_onWay_62 (by rw [if_pos (by omega), hx1, show d = i by omega])
        ·
          refine lv_aload_n hx hb dX0_onWay_36 rfl (lv_at hl 0 rfl) ?_
          refine lv_iload hx hb dX0_onWay_37 (lv_at hl 3 rfl) ?_
          refine ro_V (As := [.int (oI x)]) (rest := []) ⟨hx, hb, hml, hown, hts⟩ (c_X0_has_o l D cI cJ cZ b0 bb bd bm bl bf ba bk bg BB BD BM BL BF BA BK BG N (by omega) x (by omega)) (k_X0_64 hts ⟨Nat.le_of_ble_eq_true rfl, Nat.le_of_ble_eq_true rfl⟩) hK hP 0 rfl rfl rfl [0, 1, 2, 3, 4, 5, 6, 7, 8] rfl rfl hl.1 rfl (Nat.le_of_ble_eq_true rfl) dX0_onWay_39 ⟨Nat.le_of_ble_eq_true rfl, Nat.le_of_ble_eq_true rfl⟩ ?_
          refine b_if_eq (tgt := 60) hx hb dX0_onWay_42 (by decide) (fun c4 => ?_) (fun c4 => ?_)
          ·
            exact absurd ha1 c4
          ·
            refine lv_aload_n hx hb dX0_onWay_45 rfl (lv_at hl 0 rfl) ?_
            refine va_get (D := D) (ci := 0) (v := .ref ba) (C := RX0) (T := TX0) (N := 9) hx hb hts inX0 hown hK hP 0 rfl rfl 5 (by decide) (hts _ mf_X0_27) (fun _ h9 => h9) rfl dX0_onWay_46 ?_
            refine lv_iload hx hb dX0_onWay_49 (lv_at hl 3 rfl) ?_
            refine tq (y := nI (x - 1)) (oI_p (by omega)) ?_
            refine o_iald hx hb hK hP 6 0 rfl rfl (k := (x - 1)) (by omega) (by decide) dX0_onWay_51 ?_
            refine lv_istore (lv' := [(4, .int (oI (BA (x - 1)))), (0, .ref b0), (2, .int (nI i)), (3, .int (nI (dok BK BD k))), (5, .int (nI d))]) hx hb dX0_onWay_52 hl (by decide) rfl (fun ls hl => ?_)
            refine lv_iinc (v := nI (d - 1)) (lv' := [(5, .int (nI (d - 1))), (4, .int (oI (BA (x - 1)))), (0, .ref b0), (2, .int (nI i)), (3, .int (nI (dok BK BD k)))]) hx hb dX0_onWay_54 hl (k := 4) rfl (sb_m1 (by omega)) (by decide) rfl (fun ls hl => ?_)
            refine lv_goto (tgt := 30) hx hb dX0_onWay_57 (by decide) ?_
            exact ih30 (d - 1) (BA (x - 1)) ls (by omega) (by omega) (by omega) (by rw [hx1, show dok BK BD k - 1 - (d - 1) = (dok BK BD k - 1 - d) + 1 by omega]; rfl) (lv_sub hl [2, 3, 4, 1, 0] rfl)
    exact loop30 _ ((dok BK BD k) - 1) (BK k) ls (Nat.lt_succ_self _) (by omega) (by omega) (by rw [show dok BK BD k - 1 - (dok BK BD k - 1) = 0 by omega]; rfl) (lv_sub hl [3, 5, 2, 1, 0] rfl)
  ·
    refine lv_iconst (v := oI 0) hx hb dX0_onWay_15 (by decide +kernel) ?_
    exact ro_iret hx hb hr hlk dX0_onWay_16 (by rw [if_neg (by omega)])
set_option maxHeartbeats 4000000 in
set_option maxRecDepth 100000 in
theorem c_X0_onWay_neg (l : Launch) (D : va_G) (cI cJ cZ : ClassId) (b0 bb bd bm bl bf ba bk bg : Nat) (BB BD BM BL BF BA BK BG : Nat → Nat) (N : Nat) (hN : N ≤ 24) (hBK : ∀ k, k < N → BK k < N) (k : Nat) (hk : k < N) (x : Int32) (hx0 : x < 0) : RO l yX0_onWay cX0_onWay 6 (some .int) (rmN 4 84) D (ty3 cI cJ cZ) [.ref b0, .int (nI k), .int x] [(b0, .inr (0, [.ref bb, .ref bd, .ref bm, .ref bl, .ref bf, .ref ba, .ref bk, .ref bg, .int (nI N)])), (bb, .inl (cI, 24, .inl (nF BB))), (bd, .inl (cI, 24, .inl (nF BD))), (bm, .inl (cI, 24, .inl (nF BM))), (bl, .inl (cI, 24, .inl (nF BL))), (bf, .inl (cI, 24, .inl (nF BF))), (ba, .inl (cI, 24, .inl (oF BA))), (bk, .inl (cI, 24, .inl (oF BK))), (bg, .inl (cI, 24, .inl (nF BG)))] (.int (oI 0)) := by
  refine ro_start (by decide) (Nat.le_of_ble_eq_true rfl) ?_
  intro pp ee ss mm below meth cd C0 hP hK ls hl
  obtain ⟨hx, hb, hr, hml, hown, hts, hlk⟩ := C0
  have hown : ss.vm.findClass RX0 = some mm.cls := hown
  have hl : lv_has ls 6 [(0, .ref b0), (1, .int (nI k)), (2, .int x)] := hl
  have hP : va_P D vwCl [(b0, .inr (0, [.ref bb, .ref bd, .ref bm, .ref bl, .ref bf, .ref ba, .ref bk, .ref bg, .int (nI N)])), (bb, .inl (cI, 24, .inl (nF BB))), (bd, .inl (cI, 24, .inl (nF BD))), (bm, .inl (cI, 24, .inl (nF BM))), (bl, .inl (cI, 24, .inl (nF BL))), (bf, .inl (cI, 24, .inl (nF BF))), (ba, .inl (cI, 24, .inl (oF BA))), (bk, .inl (cI, 24, .inl (oF BK))), (bg, .inl (cI, 24, .inl (nF BG)))] ss.heap := hP
  refine lv_aload_n hx hb dX0_onWay_0 rfl (lv_at hl 0 rfl) ?_
  refine lv_iload_n hx hb dX0_onWay_1 rfl (lv_at hl 1 rfl) ?_
  refine ro_V (As := [.int (nI k)]) (rest := []) ⟨hx, hb, hml, hown, hts⟩ (c_X0_depthOfKey l D cI cJ cZ b0 bb bd bm bl bf ba bk bg BB BD BM BL BF BA BK BG N (by omega) k (by omega) (hBK _ (by omega))) (k_X0_68 hts ⟨Nat.le_of_ble_eq_true rfl, Nat.le_of_ble_eq_true rfl⟩) hK hP 0 rfl rfl rfl [0, 1, 2, 3, 4, 5, 6, 7, 8] rfl rfl hl.1 rfl (Nat.le_of_ble_eq_true rfl) dX0_onWay_2 ⟨Nat.le_of_ble_eq_true rfl, Nat.le_of_ble_eq_true rfl⟩ ?_
  refine lv_istore_n (lv' := [(3, .int (nI (dok BK BD k))), (0, .ref b0), (1, .int (nI k)), (2, .int x)]) hx hb dX0_onWay_5 rfl hl (by decide) rfl (fun ls hl => ?_)
  refine lv_iload_n hx hb dX0_onWay_6 rfl (lv_at hl 3 rfl) ?_
  refine lv_if_lt (tgt := 15) hx hb dX0_onWay_7 (by decide) (fun c1 => ?_) (fun c1 => ?_)
  ·
    refine lv_iconst (v := oI 0) hx hb dX0_onWay_15 (by decide +kernel) ?_
    exact ro_iret hx hb hr hlk dX0_onWay_16 (rfl)
  ·
    exact absurd hx0 c1
