/-! ===== Keys ===== -/
noncomputable def plc (KS KL : Nat → Nat) (n s A : Nat) : Nat := fa_first (fun k => decide (unl (KS k) (KL k) s A = 72 ∨ bitr s A (unl (KS k) (KL k) s A) = 0)) n
theorem plc_le (KS KL : Nat → Nat) (n s A : Nat) : plc KS KL n s A ≤ n := fa_first_le _ _
theorem plc_is {KS KL : Nat → Nat} {n s A k : Nat} (hk : k ≤ n) (h1 : ∀ j, j < k → ¬ (unl (KS j) (KL j) s A = 72 ∨ bitr s A (unl (KS j) (KL j) s A) = 0)) (h2 : k < n → (unl (KS k) (KL k) s A = 72 ∨ bitr s A (unl (KS k) (KL k) s A) = 0)) : plc KS KL n s A = k := first_is hk (fun j hj => decide_eq_false (h1 j hj)) (fun q => decide_eq_true (h2 q))
def atp (KS KL : Nat → Nat) (n s A : Nat) : Prop := plc KS KL n s A < n ∧ unl (KS (plc KS KL n s A)) (KL (plc KS KL n s A)) s A = 72
theorem atp_def (KS KL : Nat → Nat) (n s A : Nat) : atp KS KL n s A = (plc KS KL n s A < n ∧ unl (KS (plc KS KL n s A)) (KL (plc KS KL n s A)) s A = 72) := rfl
/-- the key that the word is, and 1 more; none: 0 -/
noncomputable def fnd (KS KL : Nat → Nat) (n s A : Nat) : Nat := if plc KS KL n s A < n ∧ unl (KS (plc KS KL n s A)) (KL (plc KS KL n s A)) s A = 72 then plc KS KL n s A + 1 else 0
theorem fnd_le (KS KL : Nat → Nat) (n s A : Nat) : fnd KS KL n s A ≤ n := by
  unfold fnd
  split
  · omega
  · omega
noncomputable def cbl (KS KL : Nat → Nat) (n s A : Nat) : Nat := fa_first (fun m => decide (¬ 9 * s ≤ unl (KS (plc KS KL n s A + m)) (KL (plc KS KL n s A + m)) s A)) (n - plc KS KL n s A)
theorem cbl_le (KS KL : Nat → Nat) (n s A : Nat) : plc KS KL n s A + cbl KS KL n s A ≤ n := by
  have h1 := plc_le KS KL n s A
  have h2 : cbl KS KL n s A ≤ n - plc KS KL n s A := fa_first_le _ _
  omega
theorem cbl_is {KS KL : Nat → Nat} {n s A m : Nat} (hk : plc KS KL n s A + m ≤ n) (h1 : ∀ j, j < m → 9 * s ≤ unl (KS (plc KS KL n s A + j)) (KL (plc KS KL n s A + j)) s A) (h2 : plc KS KL n s A + m < n → ¬ 9 * s ≤ unl (KS (plc KS KL n s A + m)) (KL (plc KS KL n s A + m)) s A) : cbl KS KL n s A = m := first_is (by omega) (fun j hj => decide_eq_false (fun q => q (h1 j hj))) (fun q => decide_eq_true (h2 (by omega)))
/-- the most worth one of m from f on, and 1 more -/
def mwo (KW : Nat → Nat) (f : Nat) : Nat → Nat
  | 0 => 0
  | i + 1 => if mwo KW f i = 0 ∨ KW (mwo KW f i - 1) < KW (f + i) then f + i + 1 else mwo KW f i
theorem mwo_le (KW : Nat → Nat) (f : Nat) : ∀ i, mwo KW f i ≤ f + i
  | 0 => Nat.zero_le _
  | i + 1 => by
    have h := mwo_le KW f i
    unfold mwo
    split <;> omega
noncomputable def lso (KS KL : Nat → Nat) (s A : Nat) : Nat → Nat
  | 0 => 0
  | i + 1 => if 9 * KS i ≤ unl (KS i) (KL i) s A ∧ (lso KS KL s A i = 0 ∨ KS (lso KS KL s A i - 1) < KS i) then i + 1 else lso KS KL s A i
theorem lso_le (KS KL : Nat → Nat) (s A : Nat) : ∀ i, lso KS KL s A i ≤ i
  | 0 => Nat.zero_le _
  | i + 1 => by
    have h := lso_le KS KL s A i
    unfold lso
    split <;> omega
noncomputable def mso (KS KL : Nat → Nat) (s A : Nat) : Nat → Nat
  | 0 => 0
  | i + 1 => if mso KS KL s A i = 0 ∨ unl (KS (mso KS KL s A i - 1)) (KL (mso KS KL s A i - 1)) s A < unl (KS i) (KL i) s A then i + 1 else mso KS KL s A i
theorem mso_le (KS KL : Nat → Nat) (s A : Nat) : ∀ i, mso KS KL s A i ≤ i
  | 0 => Nat.zero_le _
  | i + 1 => by
    have h := mso_le KS KL s A i
    unfold mso
    split <;> omega
def insF (p v n : Nat) (S : Nat → Nat) : Nat → Nat := fun i => if i < p then S i else if i = p then v else if i ≤ n then S (i - 1) else S i
def rmvF (f m n : Nat) (S : Nat → Nat) : Nat → Nat := fun i => if f ≤ i ∧ i + m < n then S (i + m) else S i
def adwF (f m v : Nat) (S : Nat → Nat) : Nat → Nat := fun i => if f ≤ i ∧ i < f + m then min 9999 (S i + v) else S i
set_option maxHeartbeats 4000000 in
set_option maxRecDepth 100000 in
theorem c_X1_count (l : Launch) (D : va_G) (cI cJ cZ : ClassId) (k0 kl ks kw : Nat) (KL KS KW : Nat → Nat) (n : Nat) (hn : n ≤ 24) : RO l yX1_count cX1_count 1 (some .int) (rmN 0 0) D (ty3 cI cJ cZ) [.ref k0] [(k0, .inr (1, [.ref kl, .ref ks, .ref kw, .int (nI n)])), (kl, .inl (cJ, 24, .inr (.inl (lF KL)))), (ks, .inl (cI, 24, .inl (nF KS))), (kw, .inl (cI, 24, .inl (nF KW)))] (.int (nI n)) := by
  refine ro_start (by decide) (Nat.le_of_ble_eq_true rfl) ?_
  intro pp ee ss mm below meth cd C0 hP hK ls hl
  obtain ⟨hx, hb, hr, hml, hown, hts, hlk⟩ := C0
  have hown : ss.vm.findClass RX1 = some mm.cls := hown
  have hl : lv_has ls 1 [(0, .ref k0)] := hl
  have hP : va_P D vwCl [(k0, .inr (1, [.ref kl, .ref ks, .ref kw, .int (nI n)])), (kl, .inl (cJ, 24, .inr (.inl (lF KL)))), (ks, .inl (cI, 24, .inl (nF KS))), (kw, .inl (cI, 24, .inl (nF KW)))] ss.heap := hP
  refine lv_aload_n hx hb dX1_count_0 rfl (lv_at hl 0 rfl) ?_
  refine va_get (D := D) (ci := 1) (v := .int (nI n)) (C := RX1) (T := TX1) (N := 4) hx hb hts inX1 hown hK hP 0 rfl rfl 3 (by decide) (hts _ mf_X1_22) (fun _ h9 => h9) rfl dX1_count_1 ?_
  exact ro_iret hx hb hr hlk dX1_count_4 (rfl)
set_option maxHeartbeats 4000000 in
set_option maxRecDepth 100000 in
theorem c_X1_has (l : Launch) (D : va_G) (cI cJ cZ : ClassId) (k0 kl ks kw : Nat) (KL KS KW : Nat → Nat) (n : Nat) (hn : n ≤ 24) (j : Nat) (hj : j < 2 ^ 31) : RO l yX1_has cX1_has 2 (some .boolean) (rmN 0 0) D (ty3 cI cJ cZ) [.ref k0, .int (nI j)] [(k0, .inr (1, [.ref kl, .ref ks, .ref kw, .int (nI n)])), (kl, .inl (cJ, 24, .inr (.inl (lF KL)))), (ks, .inl (cI, 24, .inl (nF KS))), (kw, .inl (cI, 24, .inl (nF KW)))] (.int (if j < n then 1 else 0)) := by
  refine ro_start (by decide) (Nat.le_of_ble_eq_true rfl) ?_
  intro pp ee ss mm below meth cd C0 hP hK ls hl
  obtain ⟨hx, hb, hr, hml, hown, hts, hlk⟩ := C0
  have hown : ss.vm.findClass RX1 = some mm.cls := hown
  have hl : lv_has ls 2 [(0, .ref k0), (1, .int (nI j))] := hl
  have hP : va_P D vwCl [(k0, .inr (1, [.ref kl, .ref ks, .ref kw, .int (nI n)])), (kl, .inl (cJ, 24, .inr (.inl (lF KL)))), (ks, .inl (cI, 24, .inl (nF KS))), (kw, .inl (cI, 24, .inl (nF KW)))] ss.heap := hP
  refine lv_iload_n hx hb dX1_has_0 rfl (lv_at hl 1 rfl) ?_
  refine n_if_lt (tgt := 16) hx hb dX1_has_1 (by decide) (by omega) ?_
  refine lv_iload_n hx hb dX1_has_4 rfl (lv_at hl 1 rfl) ?_
  refine lv_aload_n hx hb dX1_has_5 rfl (lv_at hl 0 rfl) ?_
  refine va_get (D := D) (ci := 1) (v := .int (nI n)) (C := RX1) (T := TX1) (N := 4) hx hb hts inX1 hown hK hP 0 rfl rfl 3 (by decide) (hts _ mf_X1_22) (fun _ h9 => h9) rfl dX1_has_6 ?_
  refine n_ge (tgt := 16) hx hb dX1_has_9 (by decide) (by omega) (by omega) (fun c2 => ?_) (fun c2 => ?_)
  ·
    refine lv_iconst (v := nI 0) hx hb dX1_has_16 (by decide +kernel) ?_
    exact ro_zret hx hb hr hlk dX1_has_17 nar_b0 (by rw [if_neg (by omega), nI_0])
  ·
    refine lv_iconst (v := nI 1) hx hb dX1_has_12 (by decide +kernel) ?_
    refine lv_goto (tgt := 17) hx hb dX1_has_13 (by decide) ?_
    exact ro_zret hx hb hr hlk dX1_has_17 nar_b1 (by rw [if_pos (by omega), nI_one])
set_option maxHeartbeats 4000000 in
set_option maxRecDepth 100000 in
theorem c_X1_has_neg (l : Launch) (D : va_G) (cI cJ cZ : ClassId) (k0 kl ks kw : Nat) (KL KS KW : Nat → Nat) (n : Nat) (hn : n ≤ 24) (x : Int32) (hx0 : x < 0) : RO l yX1_has cX1_has 2 (some .boolean) (rmN 0 0) D (ty3 cI cJ cZ) [.ref k0, .int x] [(k0, .inr (1, [.ref kl, .ref ks, .ref kw, .int (nI n)])), (kl, .inl (cJ, 24, .inr (.inl (lF KL)))), (ks, .inl (cI, 24, .inl (nF KS))), (kw, .inl (cI, 24, .inl (nF KW)))] (.int (nI 0)) := by
  refine ro_start (by decide) (Nat.le_of_ble_eq_true rfl) ?_
  intro pp ee ss mm below meth cd C0 hP hK ls hl
  obtain ⟨hx, hb, hr, hml, hown, hts, hlk⟩ := C0
  have hown : ss.vm.findClass RX1 = some mm.cls := hown
  have hl : lv_has ls 2 [(0, .ref k0), (1, .int x)] := hl
  have hP : va_P D vwCl [(k0, .inr (1, [.ref kl, .ref ks, .ref kw, .int (nI n)])), (kl, .inl (cJ, 24, .inr (.inl (lF KL)))), (ks, .inl (cI, 24, .inl (nF KS))), (kw, .inl (cI, 24, .inl (nF KW)))] ss.heap := hP
  refine lv_iload_n hx hb dX1_has_0 rfl (lv_at hl 1 rfl) ?_
  refine lv_if_lt (tgt := 16) hx hb dX1_has_1 (by decide) (fun c1 => ?_) (fun c1 => ?_)
  ·
    refine lv_iconst (v := nI 0) hx hb dX1_has_16 (by decide +kernel) ?_
    exact ro_zret hx hb hr hlk dX1_has_17 nar_b0 (rfl)
  ·
    exact absurd hx0 c1
set_option maxHeartbeats 4000000 in
set_option maxRecDepth 100000 in
theorem c_X1_isFull (l : Launch) (D : va_G) (cI cJ cZ : ClassId) (k0 kl ks kw : Nat) (KL KS KW : Nat → Nat) (n : Nat) (hn : n ≤ 24) : RO l yX1_isFull cX1_isFull 1 (some .boolean) (rmN 0 0) D (ty3 cI cJ cZ) [.ref k0] [(k0, .inr (1, [.ref kl, .ref ks, .ref kw, .int (nI n)])), (kl, .inl (cJ, 24, .inr (.inl (lF KL)))), (ks, .inl (cI, 24, .inl (nF KS))), (kw, .inl (cI, 24, .inl (nF KW)))] (.int (if 24 ≤ n then 1 else 0)) := by
  refine ro_start (by decide) (Nat.le_of_ble_eq_true rfl) ?_
  intro pp ee ss mm below meth cd C0 hP hK ls hl
  obtain ⟨hx, hb, hr, hml, hown, hts, hlk⟩ := C0
  have hown : ss.vm.findClass RX1 = some mm.cls := hown
  have hl : lv_has ls 1 [(0, .ref k0)] := hl
  have hP : va_P D vwCl [(k0, .inr (1, [.ref kl, .ref ks, .ref kw, .int (nI n)])), (kl, .inl (cJ, 24, .inr (.inl (lF KL)))), (ks, .inl (cI, 24, .inl (nF KS))), (kw, .inl (cI, 24, .inl (nF KW)))] ss.heap := hP
  refine lv_aload_n hx hb dX1_isFull_0 rfl (lv_at hl 0 rfl) ?_
  refine va_get (D := D) (ci := 1) (v := .int (nI n)) (C := RX1) (T := TX1) (N := 4) hx hb hts inX1 hown hK hP 0 rfl rfl 3 (by decide) (hts _ mf_X1_22) (fun _ h9 => h9) rfl dX1_isFull_1 ?_
  refine lv_bipush (v := nI 24) hx hb dX1_isFull_4 (by decide +kernel) ?_
  refine n_lt (tgt := 13) hx hb dX1_isFull_6 (by decide) (by omega) (by omega) (fun c1 => ?_) (fun c1 => ?_)
  ·
    refine lv_iconst (v := nI 0) hx hb dX1_isFull_13 (by decide +kernel) ?_
    exact ro_zret hx hb hr hlk dX1_isFull_14 nar_b0 (by rw [if_neg (by omega), nI_0])
  ·
    refine lv_iconst (v := nI 1) hx hb dX1_isFull_9 (by decide +kernel) ?_
    refine lv_goto (tgt := 14) hx hb dX1_isFull_10 (by decide) ?_
    exact ro_zret hx hb hr hlk dX1_isFull_14 nar_b1 (by rw [if_pos (by omega), nI_one])
set_option maxHeartbeats 4000000 in
set_option maxRecDepth 100000 in
theorem c_X1_lettersOf (l : Launch) (D : va_G) (cI cJ cZ : ClassId) (k0 kl ks kw : Nat) (KL KS KW : Nat → Nat) (n : Nat) (hn : n ≤ 24) (j : Nat) (hj : j < 24) : RO l yX1_lettersOf cX1_lettersOf 2 (some .long) (rmN 0 0) D (ty3 cI cJ cZ) [.ref k0, .int (nI j)] [(k0, .inr (1, [.ref kl, .ref ks, .ref kw, .int (nI n)])), (kl, .inl (cJ, 24, .inr (.inl (lF KL)))), (ks, .inl (cI, 24, .inl (nF KS))), (kw, .inl (cI, 24, .inl (nF KW)))] (.long (lN (KL j))) := by
  refine ro_start (by decide) (Nat.le_of_ble_eq_true rfl) ?_
  intro pp ee ss mm below meth cd C0 hP hK ls hl
  obtain ⟨hx, hb, hr, hml, hown, hts, hlk⟩ := C0
  have hown : ss.vm.findClass RX1 = some mm.cls := hown
  have hl : lv_has ls 2 [(0, .ref k0), (1, .int (nI j))] := hl
  have hP : va_P D vwCl [(k0, .inr (1, [.ref kl, .ref ks, .ref kw, .int (nI n)])), (kl, .inl (cJ, 24, .inr (.inl (lF KL)))), (ks, .inl (cI, 24, .inl (nF KS))), (kw, .inl (cI, 24, .inl (nF KW)))] ss.heap := hP
  refine lv_aload_n hx hb dX1_lettersOf_0 rfl (lv_at hl 0 rfl) ?_
  refine va_get (D := D) (ci := 1) (v := .ref kl) (C := RX1) (T := TX1) (N := 4) hx hb hts inX1 hown hK hP 0 rfl rfl 0 (by decide) (hts _ mf_X1_9) (fun _ h9 => h9) rfl dX1_lettersOf_1 ?_
  refine lv_iload_n hx hb dX1_lettersOf_4 rfl (lv_at hl 1 rfl) ?_
  refine n_lald hx hb hK hP 1 1 rfl rfl (k := j) (by omega) (by decide) dX1_lettersOf_5 ?_
  exact ro_lret hx hb hr hlk dX1_lettersOf_6 (rfl)
set_option maxHeartbeats 4000000 in
set_option maxRecDepth 100000 in
theorem c_X1_sizeOf (l : Launch) (D : va_G) (cI cJ cZ : ClassId) (k0 kl ks kw : Nat) (KL KS KW : Nat → Nat) (n : Nat) (hn : n ≤ 24) (j : Nat) (hj : j < 24) : RO l yX1_sizeOf cX1_sizeOf 2 (some .int) (rmN 0 0) D (ty3 cI cJ cZ) [.ref k0, .int (nI j)] [(k0, .inr (1, [.ref kl, .ref ks, .ref kw, .int (nI n)])), (kl, .inl (cJ, 24, .inr (.inl (lF KL)))), (ks, .inl (cI, 24, .inl (nF KS))), (kw, .inl (cI, 24, .inl (nF KW)))] (.int (nI (KS j))) := by
  refine ro_start (by decide) (Nat.le_of_ble_eq_true rfl) ?_
  intro pp ee ss mm below meth cd C0 hP hK ls hl
  obtain ⟨hx, hb, hr, hml, hown, hts, hlk⟩ := C0
  have hown : ss.vm.findClass RX1 = some mm.cls := hown
  have hl : lv_has ls 2 [(0, .ref k0), (1, .int (nI j))] := hl
  have hP : va_P D vwCl [(k0, .inr (1, [.ref kl, .ref ks, .ref kw, .int (nI n)])), (kl, .inl (cJ, 24, .inr (.inl (lF KL)))), (ks, .inl (cI, 24, .inl (nF KS))), (kw, .inl (cI, 24, .inl (nF KW)))] ss.heap := hP
  refine lv_aload_n hx hb dX1_sizeOf_0 rfl (lv_at hl 0 rfl) ?_
  refine va_get (D := D) (ci := 1) (v := .ref ks) (C := RX1) (T := TX1) (N := 4) hx hb hts inX1 hown hK hP 0 rfl rfl 1 (by decide) (hts _ mf_X1_15) (fun _ h9 => h9) rfl dX1_sizeOf_1 ?_
  refine lv_iload_n hx hb dX1_sizeOf_4 rfl (lv_at hl 1 rfl) ?_
  refine n_iald hx hb hK hP 2 0 rfl rfl (k := j) (by omega) (by decide) dX1_sizeOf_5 ?_
  exact ro_iret hx hb hr hlk dX1_sizeOf_6 (rfl)
set_option maxHeartbeats 4000000 in
set_option maxRecDepth 100000 in
theorem c_X1_worthOf (l : Launch) (D : va_G) (cI cJ cZ : ClassId) (k0 kl ks kw : Nat) (KL KS KW : Nat → Nat) (n : Nat) (hn : n ≤ 24) (j : Nat) (hj : j < 24) : RO l yX1_worthOf cX1_worthOf 2 (some .int) (rmN 0 0) D (ty3 cI cJ cZ) [.ref k0, .int (nI j)] [(k0, .inr (1, [.ref kl, .ref ks, .ref kw, .int (nI n)])), (kl, .inl (cJ, 24, .inr (.inl (lF KL)))), (ks, .inl (cI, 24, .inl (nF KS))), (kw, .inl (cI, 24, .inl (nF KW)))] (.int (nI (KW j))) := by
  refine ro_start (by decide) (Nat.le_of_ble_eq_true rfl) ?_
  intro pp ee ss mm below meth cd C0 hP hK ls hl
  obtain ⟨hx, hb, hr, hml, hown, hts, hlk⟩ := C0
  have hown : ss.vm.findClass RX1 = some mm.cls := hown
  have hl : lv_has ls 2 [(0, .ref k0), (1, .int (nI j))] := hl
  have hP : va_P D vwCl [(k0, .inr (1, [.ref kl, .ref ks, .ref kw, .int (nI n)])), (kl, .inl (cJ, 24, .inr (.inl (lF KL)))), (ks, .inl (cI, 24, .inl (nF KS))), (kw, .inl (cI, 24, .inl (nF KW)))] ss.heap := hP
  refine lv_aload_n hx hb dX1_worthOf_0 rfl (lv_at hl 0 rfl) ?_
  refine va_get (D := D) (ci := 1) (v := .ref kw) (C := RX1) (T := TX1) (N := 4) hx hb hts inX1 hown hK hP 0 rfl rfl 2 (by decide) (hts _ mf_X1_19) (fun _ h9 => h9) rfl dX1_worthOf_1 ?_
  refine lv_iload_n hx hb dX1_worthOf_4 rfl (lv_at hl 1 rfl) ?_
  refine n_iald hx hb hK hP 3 0 rfl rfl (k := j) (by omega) (by decide) dX1_worthOf_5 ?_
  exact ro_iret hx hb hr hlk dX1_worthOf_6 (rfl)
set_option maxHeartbeats 4000000 in
set_option maxRecDepth 100000 in
theorem c_X1_sharedWith (l : Launch) (D : va_G) (cI cJ cZ : ClassId) (k0 kl ks kw : Nat) (KL KS KW : Nat → Nat) (n : Nat) (hn : n ≤ 24) (w0 A s : Nat) (hw0 : Wf s A) (j : Nat) (hj : j < 24) (hkj : Wf (KS j) (KL j)) : RO l yX1_sharedWith cX1_sharedWith 3 (some .int) (rmN 2 50) D (ty3 cI cJ cZ) [.ref k0, .int (nI j), .ref w0] [(k0, .inr (1, [.ref kl, .ref ks, .ref kw, .int (nI n)])), (kl, .inl (cJ, 24, .inr (.inl (lF KL)))), (ks, .inl (cI, 24, .inl (nF KS))), (kw, .inl (cI, 24, .inl (nF KW))), (w0, .inr (4, [.long (lN A), .int (nI s)]))] (.int (nI (unl (KS j) (KL j) s A))) := by
  refine ro_start (by decide) (Nat.le_of_ble_eq_true rfl) ?_
  intro pp ee ss mm below meth cd C0 hP hK ls hl
  obtain ⟨hx, hb, hr, hml, hown, hts, hlk⟩ := C0
  have hown : ss.vm.findClass RX1 = some mm.cls := hown
  have hl : lv_has ls 3 [(0, .ref k0), (1, .int (nI j)), (2, .ref w0)] := hl
  have hP : va_P D vwCl [(k0, .inr (1, [.ref kl, .ref ks, .ref kw, .int (nI n)])), (kl, .inl (cJ, 24, .inr (.inl (lF KL)))), (ks, .inl (cI, 24, .inl (nF KS))), (kw, .inl (cI, 24, .inl (nF KW))), (w0, .inr (4, [.long (lN A), .int (nI s)]))] ss.heap := hP
  refine lv_aload_n hx hb dX1_sharedWith_0 rfl (lv_at hl 0 rfl) ?_
  refine va_get (D := D) (ci := 1) (v := .ref kl) (C := RX1) (T := TX1) (N := 4) hx hb hts inX1 hown hK hP 0 rfl rfl 0 (by decide) (hts _ mf_X1_9) (fun _ h9 => h9) rfl dX1_sharedWith_1 ?_
  refine lv_iload_n hx hb dX1_sharedWith_4 rfl (lv_at hl 1 rfl) ?_
  refine n_lald hx hb hK hP 1 1 rfl rfl (k := j) (by omega) (by decide) dX1_sharedWith_5 ?_
  refine lv_aload_n hx hb dX1_sharedWith_6 rfl (lv_at hl 0 rfl) ?_
  refine va_get (D := D) (ci := 1) (v := .ref ks) (C := RX1) (T := TX1) (N := 4) hx hb hts inX1 hown hK hP 0 rfl rfl 1 (by decide) (hts _ mf_X1_15) (fun _ h9 => h9) rfl dX1_sharedWith_7 ?_
  refine lv_iload_n hx hb dX1_sharedWith_10 rfl (lv_at hl 1 rfl) ?_
  refine n_iald hx hb hK hP 2 0 rfl rfl (k := j) (by omega) (by decide) dX1_sharedWith_11 ?_
  refine lv_aload_n hx hb dX1_sharedWith_12 rfl (lv_at hl 2 rfl) ?_
  refine ro_V (As := []) (rest := [.int (nI (KS j)), .long (lN (KL j))]) ⟨hx, hb, hml, hown, hts⟩ (c_X4_letters l D cI cJ cZ w0 A s) (k_X1_26 hts ⟨Nat.le_of_ble_eq_true rfl, Nat.le_of_ble_eq_true rfl⟩) hK hP 4 rfl rfl rfl [4] rfl rfl hl.1 rfl (Nat.le_of_ble_eq_true rfl) dX1_sharedWith_13 ⟨Nat.le_of_ble_eq_true rfl, Nat.le_of_ble_eq_true rfl⟩ ?_
  refine lv_aload_n hx hb dX1_sharedWith_16 rfl (lv_at hl 2 rfl) ?_
  refine ro_V (As := []) (rest := [.long (lN A), .int (nI (KS j)), .long (lN (KL j))]) ⟨hx, hb, hml, hown, hts⟩ (c_X4_size l D cI cJ cZ w0 A s) (k_X1_31 hts ⟨Nat.le_of_ble_eq_true rfl, Nat.le_of_ble_eq_true rfl⟩) hK hP 4 rfl rfl rfl [4] rfl rfl hl.1 rfl (Nat.le_of_ble_eq_true rfl) dX1_sharedWith_17 ⟨Nat.le_of_ble_eq_true rfl, Nat.le_of_ble_eq_true rfl⟩ ?_
  refine ro_S (As := [.long (lN (KL j)), .int (nI (KS j)), .long (lN A), .int (nI s)]) (rest := []) ⟨hx, hb, hml, hown, hts⟩ (c_X4_firstUnlikeBit l D cI cJ cZ (KL j) (KS j) A s hkj hw0) (k_X1_35 hts ⟨Nat.le_of_ble_eq_true rfl, Nat.le_of_ble_eq_true rfl⟩) hK hP [] rfl rfl hl.1 rfl (Nat.le_of_ble_eq_true rfl) dX1_sharedWith_20 ⟨Nat.le_of_ble_eq_true rfl, Nat.le_of_ble_eq_true rfl⟩ ?_
  exact ro_iret hx hb hr hlk dX1_sharedWith_23 (rfl)
set_option maxHeartbeats 4000000 in
set_option maxRecDepth 100000 in
theorem c_X1_firstUnlike (l : Launch) (D : va_G) (cI cJ cZ : ClassId) (k0 kl ks kw : Nat) (KL KS KW : Nat → Nat) (n : Nat) (hn : n ≤ 24) (i j : Nat) (hi : i < 24) (hj : j < 24) (hki : Wf (KS i) (KL i)) (hkj : Wf (KS j) (KL j)) : RO l yX1_firstUnlike cX1_firstUnlike 3 (some .int) (rmN 2 50) D (ty3 cI cJ cZ) [.ref k0, .int (nI i), .int (nI j)] [(k0, .inr (1, [.ref kl, .ref ks, .ref kw, .int (nI n)])), (kl, .inl (cJ, 24, .inr (.inl (lF KL)))), (ks, .inl (cI, 24, .inl (nF KS))), (kw, .inl (cI, 24, .inl (nF KW)))] (.int (nI (unl (KS i) (KL i) (KS j) (KL j)))) := by
  refine ro_start (by decide) (Nat.le_of_ble_eq_true rfl) ?_
  intro pp ee ss mm below meth cd C0 hP hK ls hl
  obtain ⟨hx, hb, hr, hml, hown, hts, hlk⟩ := C0
  have hown : ss.vm.findClass RX1 = some mm.cls := hown
  have hl : lv_has ls 3 [(0, .ref k0), (1, .int (nI i)), (2, .int (nI j))] := hl
  have hP : va_P D vwCl [(k0, .inr (1, [.ref kl, .ref ks, .ref kw, .int (nI n)])), (kl, .inl (cJ, 24, .inr (.inl (lF KL)))), (ks, .inl (cI, 24, .inl (nF KS))), (kw, .inl (cI, 24, .inl (nF KW)))] ss.heap := hP
  refine lv_aload_n hx hb dX1_firstUnlike_0 rfl (lv_at hl 0 rfl) ?_
  refine va_get (D := D) (ci := 1) (v := .ref kl) (C := RX1) (T := TX1) (N := 4) hx hb hts inX1 hown hK hP 0 rfl rfl 0 (by decide) (hts _ mf_X1_9) (fun _ h9 => h9) rfl dX1_firstUnlike_1 ?_
  refine lv_iload_n hx hb dX1_firstUnlike_4 rfl (lv_at hl 1 rfl) ?_
  refine n_lald hx hb hK hP 1 1 rfl rfl (k := i) (by omega) (by decide) dX1_firstUnlike_5 ?_
  refine lv_aload_n hx hb dX1_firstUnlike_6 rfl (lv_at hl 0 rfl) ?_
  refine va_get (D := D) (ci := 1) (v := .ref ks) (C := RX1) (T := TX1) (N := 4) hx hb hts inX1 hown hK hP 0 rfl rfl 1 (by decide) (hts _ mf_X1_15) (fun _ h9 => h9) rfl dX1_firstUnlike_7 ?_
  refine lv_iload_n hx hb dX1_firstUnlike_10 rfl (lv_at hl 1 rfl) ?_
  refine n_iald hx hb hK hP 2 0 rfl rfl (k := i) (by omega) (by decide) dX1_firstUnlike_11 ?_
  refine lv_aload_n hx hb dX1_firstUnlike_12 rfl (lv_at hl 0 rfl) ?_
  refine va_get (D := D) (ci := 1) (v := .ref kl) (C := RX1) (T := TX1) (N := 4) hx hb hts inX1 hown hK hP 0 rfl rfl 0 (by decide) (hts _ mf_X1_9) (fun _ h9 => h9) rfl dX1_firstUnlike_13 ?_
  refine lv_iload_n hx hb dX1_firstUnlike_16 rfl (lv_at hl 2 rfl) ?_
  refine n_lald hx hb hK hP 1 1 rfl rfl (k := j) (by omega) (by decide) dX1_firstUnlike_17 ?_
  refine lv_aload_n hx hb dX1_firstUnlike_18 rfl (lv_at hl 0 rfl) ?_
  refine va_get (D := D) (ci := 1) (v := .ref ks) (C := RX1) (T := TX1) (N := 4) hx hb hts inX1 hown hK hP 0 rfl rfl 1 (by decide) (hts _ mf_X1_15) (fun _ h9 => h9) rfl dX1_firstUnlike_19 ?_
  refine lv_iload_n hx hb dX1_firstUnlike_22 rfl (lv_at hl 2 rfl) ?_
  refine n_iald hx hb hK hP 2 0 rfl rfl (k := j) (by omega) (by decide) dX1_firstUnlike_23 ?_
  refine ro_S (As := [.long (lN (KL i)), .int (nI (KS i)), .long (lN (KL j)), .int (nI (KS j))]) (rest := []) ⟨hx, hb, hml, hown, hts⟩ (c_X4_firstUnlikeBit l D cI cJ cZ (KL i) (KS i) (KL j) (KS j) hki hkj) (k_X1_35 hts ⟨Nat.le_of_ble_eq_true rfl, Nat.le_of_ble_eq_true rfl⟩) hK hP [] rfl rfl hl.1 rfl (Nat.le_of_ble_eq_true rfl) dX1_firstUnlike_24 ⟨Nat.le_of_ble_eq_true rfl, Nat.le_of_ble_eq_true rfl⟩ ?_
  exact ro_iret hx hb hr hlk dX1_firstUnlike_27 (rfl)
set_option maxHeartbeats 4000000 in
set_option maxRecDepth 100000 in
theorem c_X1_placeOf (l : Launch) (D : va_G) (cI cJ cZ : ClassId) (k0 kl ks kw : Nat) (KL KS KW : Nat → Nat) (n : Nat) (hn : n ≤ 24) (w0 A s : Nat) (hw0 : Wf s A) (hk : ∀ k, k < n → Wf (KS k) (KL k)) : RO l yX1_placeOf cX1_placeOf 4 (some .int) (rmN 3 72) D (ty3 cI cJ cZ) [.ref k0, .ref w0] [(k0, .inr (1, [.ref kl, .ref ks, .ref kw, .int (nI n)])), (kl, .inl (cJ, 24, .inr (.inl (lF KL)))), (ks, .inl (cI, 24, .inl (nF KS))), (kw, .inl (cI, 24, .inl (nF KW))), (w0, .inr (4, [.long (lN A), .int (nI s)]))] (.int (nI (plc KS KL n s A))) := by
  have hs8 := hw0.1
  have hA64 := hw0.2.1
  refine ro_start (by decide) (Nat.le_of_ble_eq_true rfl) ?_
  intro pp ee ss mm below meth cd C0 hP hK ls hl
  obtain ⟨hx, hb, hr, hml, hown, hts, hlk⟩ := C0
  have hown : ss.vm.findClass RX1 = some mm.cls := hown
  have hl : lv_has ls 4 [(0, .ref k0), (1, .ref w0)] := hl
  have hP : va_P D vwCl [(k0, .inr (1, [.ref kl, .ref ks, .ref kw, .int (nI n)])), (kl, .inl (cJ, 24, .inr (.inl (lF KL)))), (ks, .inl (cI, 24, .inl (nF KS))), (kw, .inl (cI, 24, .inl (nF KW))), (w0, .inr (4, [.long (lN A), .int (nI s)]))] ss.heap := hP
  refine lv_iconst (v := nI 0) hx hb dX1_placeOf_0 (by decide +kernel) ?_
  refine lv_istore_n (lv' := [(2, .int (nI 0)), (0, .ref k0), (1, .ref w0)]) hx hb dX1_placeOf_1 rfl hl (by decide) rfl (fun ls hl => ?_)
  have loop2 : ∀ (d : Nat) (i : Nat) (ls : Array Slot), n - i < d → (i ≤ n) → (∀ j, j < i → ¬ (unl (KS j) (KL j) s A = 72 ∨ bitr s A (unl (KS j) (KL j) s A) = 0)) → lv_has ls 4 [(0, .ref k0), (1, .ref w0), (2, .int (nI i))] → W pp l ee (rmN 3 72) ss mm [.ref k0, .ref w0].toArray below meth cd ss.heap [] 0 0 (MQ below (QR (.int (nI (plc KS KL n s A)))) [.ref k0, .ref w0].toArray ss 0 0 (fun _ => False)) (F0 mm 2 ls []) := by
    intro d
    induction d with
    | zero => intro i ls h; exact absurd h (Nat.not_lt_zero _)
    | succ d ih2 =>
      intro i ls hd2 hi hj hl
      have hj1 := hj
      refine lv_iload_n hx hb dX1_placeOf_2 rfl (lv_at hl 2 rfl) ?_
      refine lv_aload_n hx hb dX1_placeOf_3 rfl (lv_at hl 0 rfl) ?_
      refine va_get (D := D) (ci := 1) (v := .int (nI n)) (C := RX1) (T := TX1) (N := 4) hx hb hts inX1 hown hK hP 0 rfl rfl 3 (by decide) (hts _ mf_X1_22) (fun _ h9 => h9) rfl dX1_placeOf_4 ?_
      refine n_ge (tgt := 39) hx hb dX1_placeOf_7 (by decide) (by omega) (by omega) (fun c1 => ?_) (fun c1 => ?_)
      ·
        refine lv_aload_n hx hb dX1_placeOf_39 rfl (lv_at hl 0 rfl) ?_
        refine va_get (D := D) (ci := 1) (v := .int (nI n)) (C := RX1) (T := TX1) (N := 4) hx hb hts inX1 hown hK hP 0 rfl rfl 3 (by decide) (hts _ mf_X1_22) (fun _ h9 => h9) rfl dX1_placeOf_40 ?_
        exact ro_iret hx hb hr hlk dX1_placeOf_43 (by rw [plc_is (Nat.le_refl n) (fun j hj => hj1 j (by omega)) (fun h => absurd h (Nat.lt_irrefl _))])
      ·
        have hu := unl_le (KS i) (KL i) s A
        refine lv_aload_n hx hb dX1_placeOf_10 rfl (lv_at hl 0 rfl) ?_
        refine lv_iload_n hx hb dX1_placeOf_11 rfl (lv_at hl 2 rfl) ?_
        refine lv_aload_n hx hb dX1_placeOf_12 rfl (lv_at hl 1 rfl) ?_
        refine ro_V (As := [.int (nI i), .ref w0]) (rest := []) ⟨hx, hb, hml, hown, hts⟩ (c_X1_sharedWith l D cI cJ cZ k0 kl ks kw KL KS KW n (by omega) w0 A s hw0 i (by omega) (hk _ (by omega))) (k_X1_39 hts ⟨Nat.le_of_ble_eq_true rfl, Nat.le_of_ble_eq_true rfl⟩) hK hP 0 rfl rfl rfl [0, 1, 2, 3, 4] rfl rfl hl.1 rfl (Nat.le_of_ble_eq_true rfl) dX1_placeOf_13 ⟨Nat.le_of_ble_eq_true rfl, Nat.le_of_ble_eq_true rfl⟩ ?_
        refine lv_istore_n (lv' := [(3, .int (nI (unl (KS i) (KL i) s A))), (0, .ref k0), (1, .ref w0), (2, .int (nI i))]) hx hb dX1_placeOf_16 rfl hl (by decide) rfl (fun ls hl => ?_)
        refine lv_iload_n hx hb dX1_placeOf_17 rfl (lv_at hl 0 rfl) ?_
        refine lv_bipush (v := nI 72) hx hb dX1_placeOf_18 (by decide +kernel) ?_
        refine n_eq (tgt := 31) hx hb dX1_placeOf_20 (by decide) (by omega) (by omega) (fun c2 => ?_) (fun c2 => ?_)
        ·
          have e0 : (unl (KS i) (KL i) s A = 72 ∨ bitr s A (unl (KS i) (KL i) s A) = 0) := Or.inl c2
          refine lv_iload_n hx hb dX1_placeOf_31 rfl (lv_at hl 3 rfl) ?_
          exact ro_iret hx hb hr hlk dX1_placeOf_32 (by rw [plc_is hi hj1 (fun _ => e0)])
        ·
          have e1 := c2
          refine lv_aload_n hx hb dX1_placeOf_23 rfl (lv_at hl 2 rfl) ?_
          refine lv_iload_n hx hb dX1_placeOf_24 rfl (lv_at hl 0 rfl) ?_
          refine ro_V (As := [.int (nI (unl (KS i) (KL i) s A))]) (rest := []) ⟨hx, hb, hml, hown, hts⟩ (c_X4_bitAt l D cI cJ cZ w0 A s (unl (KS i) (KL i) s A) hA64 (by omega) (by omega)) (k_X1_43 hts ⟨Nat.le_of_ble_eq_true rfl, Nat.le_of_ble_eq_true rfl⟩) hK hP 4 rfl rfl rfl [4] rfl rfl hl.1 rfl (Nat.le_of_ble_eq_true rfl) dX1_placeOf_25 ⟨Nat.le_of_ble_eq_true rfl, Nat.le_of_ble_eq_true rfl⟩ ?_
          refine n_if_ne (tgt := 33) hx hb dX1_placeOf_28 (by decide) (Nat.lt_trans (bitr_lt _ _ _) (by decide)) (fun c3 => ?_) (fun c3 => ?_)
          ·
            have e2 := c3
            refine lv_iinc (v := nI (i + 1)) (lv' := [(2, .int (nI (i + 1))), (3, .int (nI (unl (KS i) (KL i) s A))), (0, .ref k0), (1, .ref w0)]) hx hb dX1_placeOf_33 hl (k := 3) rfl (nI_add i 1) (by decide) rfl (fun ls hl => ?_)
            refine lv_goto (tgt := 2) hx hb dX1_placeOf_36 (by decide) ?_
            exact ih2 (i + 1) ls (by omega) (by omega) (fun j hj => by rcases Nat.lt_or_ge j i with g | g; exact hj1 j g; rw [show j = i by omega]; exact fun q => q.elim e1 e2) (lv_sub hl [2, 3, 0] rfl)
          ·
            have e0 : (unl (KS i) (KL i) s A = 72 ∨ bitr s A (unl (KS i) (KL i) s A) = 0) := Or.inr c3
            refine lv_iload_n hx hb dX1_placeOf_31 rfl (lv_at hl 3 rfl) ?_
            exact ro_iret hx hb hr hlk dX1_placeOf_32 (by rw [plc_is hi hj1 (fun _ => e0)])
  exact loop2 _ 0 ls (Nat.lt_succ_self _) (Nat.zero_le _) (fun j hj => absurd hj (Nat.not_lt_zero _)) (lv_sub hl [1, 2, 0] rfl)
set_option maxHeartbeats 4000000 in
set_option maxRecDepth 100000 in
theorem c_X1_isAt (l : Launch) (D : va_G) (cI cJ cZ : ClassId) (k0 kl ks kw : Nat) (KL KS KW : Nat → Nat) (n : Nat) (hn : n ≤ 24) (w0 A s : Nat) (hw0 : Wf s A) (hk : ∀ k, k < n → Wf (KS k) (KL k)) (j : Nat) (hj : j ≤ 24) : RO l yX1_isAt cX1_isAt 3 (some .boolean) (rmN 3 72) D (ty3 cI cJ cZ) [.ref k0, .int (nI j), .ref w0] [(k0, .inr (1, [.ref kl, .ref ks, .ref kw, .int (nI n)])), (kl, .inl (cJ, 24, .inr (.inl (lF KL)))), (ks, .inl (cI, 24, .inl (nF KS))), (kw, .inl (cI, 24, .inl (nF KW))), (w0, .inr (4, [.long (lN A), .int (nI s)]))] (.int (if j < n ∧ unl (KS j) (KL j) s A = 72 then 1 else 0)) := by
  have hs8 := hw0.1
  have hA64 := hw0.2.1
  have hu := unl_le (KS j) (KL j) s A
  refine ro_start (by decide) (Nat.le_of_ble_eq_true rfl) ?_
  intro pp ee ss mm below meth cd C0 hP hK ls hl
  obtain ⟨hx, hb, hr, hml, hown, hts, hlk⟩ := C0
  have hown : ss.vm.findClass RX1 = some mm.cls := hown
  have hl : lv_has ls 3 [(0, .ref k0), (1, .int (nI j)), (2, .ref w0)] := hl
  have hP : va_P D vwCl [(k0, .inr (1, [.ref kl, .ref ks, .ref kw, .int (nI n)])), (kl, .inl (cJ, 24, .inr (.inl (lF KL)))), (ks, .inl (cI, 24, .inl (nF KS))), (kw, .inl (cI, 24, .inl (nF KW))), (w0, .inr (4, [.long (lN A), .int (nI s)]))] ss.heap := hP
  refine lv_aload_n hx hb dX1_isAt_0 rfl (lv_at hl 0 rfl) ?_
  refine lv_iload_n hx hb dX1_isAt_1 rfl (lv_at hl 1 rfl) ?_
  refine ro_V (As := [.int (nI j)]) (rest := []) ⟨hx, hb, hml, hown, hts⟩ (c_X1_has l D cI cJ cZ k0 kl ks kw KL KS KW n (by omega) j (by omega)) (k_X1_47 hts ⟨Nat.le_of_ble_eq_true rfl, Nat.le_of_ble_eq_true rfl⟩) hK hP 0 rfl rfl rfl [0, 1, 2, 3] rfl rfl hl.1 rfl (Nat.le_of_ble_eq_true rfl) dX1_isAt_2 ⟨Nat.le_of_ble_eq_true rfl, Nat.le_of_ble_eq_true rfl⟩ ?_
  refine b_if_eq (tgt := 23) hx hb dX1_isAt_5 (by decide) (fun c1 => ?_) (fun c1 => ?_)
  ·
    refine lv_iconst (v := nI 0) hx hb dX1_isAt_23 (by decide +kernel) ?_
    exact ro_zret hx hb hr hlk dX1_isAt_24 nar_b0 (by rw [if_neg (by omega), nI_0])
  ·
    refine lv_aload_n hx hb dX1_isAt_8 rfl (lv_at hl 0 rfl) ?_
    refine lv_iload_n hx hb dX1_isAt_9 rfl (lv_at hl 1 rfl) ?_
    refine lv_aload_n hx hb dX1_isAt_10 rfl (lv_at hl 2 rfl) ?_
    refine ro_V (As := [.int (nI j), .ref w0]) (rest := []) ⟨hx, hb, hml, hown, hts⟩ (c_X1_sharedWith l D cI cJ cZ k0 kl ks kw KL KS KW n (by omega) w0 A s hw0 j (by omega) (hk _ (by omega))) (k_X1_39 hts ⟨Nat.le_of_ble_eq_true rfl, Nat.le_of_ble_eq_true rfl⟩) hK hP 0 rfl rfl rfl [0, 1, 2, 3, 4] rfl rfl hl.1 rfl (Nat.le_of_ble_eq_true rfl) dX1_isAt_11 ⟨Nat.le_of_ble_eq_true rfl, Nat.le_of_ble_eq_true rfl⟩ ?_
    refine lv_bipush (v := nI 72) hx hb dX1_isAt_14 (by decide +kernel) ?_
    refine n_ne (tgt := 23) hx hb dX1_isAt_16 (by decide) (by omega) (by omega) (fun c2 => ?_) (fun c2 => ?_)
    ·
      refine lv_iconst (v := nI 0) hx hb dX1_isAt_23 (by decide +kernel) ?_
      exact ro_zret hx hb hr hlk dX1_isAt_24 nar_b0 (by rw [if_neg (by omega), nI_0])
    ·
      refine lv_iconst (v := nI 1) hx hb dX1_isAt_19 (by decide +kernel) ?_
      refine lv_goto (tgt := 24) hx hb dX1_isAt_20 (by decide) ?_
      exact ro_zret hx hb hr hlk dX1_isAt_24 nar_b1 (by rw [if_pos (by omega), nI_one])
set_option maxHeartbeats 4000000 in
set_option maxRecDepth 100000 in
theorem c_X1_find (l : Launch) (D : va_G) (cI cJ cZ : ClassId) (k0 kl ks kw : Nat) (KL KS KW : Nat → Nat) (n : Nat) (hn : n ≤ 24) (w0 A s : Nat) (hw0 : Wf s A) (hk : ∀ k, k < n → Wf (KS k) (KL k)) : RO l yX1_find cX1_find 3 (some .int) (rmN 4 95) D (ty3 cI cJ cZ) [.ref k0, .ref w0] [(k0, .inr (1, [.ref kl, .ref ks, .ref kw, .int (nI n)])), (kl, .inl (cJ, 24, .inr (.inl (lF KL)))), (ks, .inl (cI, 24, .inl (nF KS))), (kw, .inl (cI, 24, .inl (nF KW))), (w0, .inr (4, [.long (lN A), .int (nI s)]))] (.int (oI (fnd KS KL n s A))) := by
  have hs8 := hw0.1
  have hA64 := hw0.2.1
  have hp := plc_le KS KL n s A
  refine ro_start (by decide) (Nat.le_of_ble_eq_true rfl) ?_
  intro pp ee ss mm below meth cd C0 hP hK ls hl
  obtain ⟨hx, hb, hr, hml, hown, hts, hlk⟩ := C0
  have hown : ss.vm.findClass RX1 = some mm.cls := hown
  have hl : lv_has ls 3 [(0, .ref k0), (1, .ref w0)] := hl
  have hP : va_P D vwCl [(k0, .inr (1, [.ref kl, .ref ks, .ref kw, .int (nI n)])), (kl, .inl (cJ, 24, .inr (.inl (lF KL)))), (ks, .inl (cI, 24, .inl (nF KS))), (kw, .inl (cI, 24, .inl (nF KW))), (w0, .inr (4, [.long (lN A), .int (nI s)]))] ss.heap := hP
  refine lv_aload_n hx hb dX1_find_0 rfl (lv_at hl 0 rfl) ?_
  refine lv_aload_n hx hb dX1_find_1 rfl (lv_at hl 1 rfl) ?_
  refine ro_V (As := [.ref w0]) (rest := []) ⟨hx, hb, hml, hown, hts⟩ (c_X1_placeOf l D cI cJ cZ k0 kl ks kw KL KS KW n (by omega) w0 A s hw0 hk) (k_X1_51 hts ⟨Nat.le_of_ble_eq_true rfl, Nat.le_of_ble_eq_true rfl⟩) hK hP 0 rfl rfl rfl [0, 1, 2, 3, 4] rfl rfl hl.1 rfl (Nat.le_of_ble_eq_true rfl) dX1_find_2 ⟨Nat.le_of_ble_eq_true rfl, Nat.le_of_ble_eq_true rfl⟩ ?_
  refine lv_istore_n (lv' := [(2, .int (nI (plc KS KL n s A))), (0, .ref k0), (1, .ref w0)]) hx hb dX1_find_5 rfl hl (by decide) rfl (fun ls hl => ?_)
  refine lv_aload_n hx hb dX1_find_6 rfl (lv_at hl 1 rfl) ?_
  refine lv_iload_n hx hb dX1_find_7 rfl (lv_at hl 0 rfl) ?_
  refine lv_aload_n hx hb dX1_find_8 rfl (lv_at hl 2 rfl) ?_
  refine ro_V (As := [.int (nI (plc KS KL n s A)), .ref w0]) (rest := []) ⟨hx, hb, hml, hown, hts⟩ (c_X1_isAt l D cI cJ cZ k0 kl ks kw KL KS KW n (by omega) w0 A s hw0 hk (plc KS KL n s A) (by omega)) (k_X1_55 hts ⟨Nat.le_of_ble_eq_true rfl, Nat.le_of_ble_eq_true rfl⟩) hK hP 0 rfl rfl rfl [0, 1, 2, 3, 4] rfl rfl hl.1 rfl (Nat.le_of_ble_eq_true rfl) dX1_find_9 ⟨Nat.le_of_ble_eq_true rfl, Nat.le_of_ble_eq_true rfl⟩ ?_
  refine b_if_eq (tgt := 19) hx hb dX1_find_12 (by decide) (fun c1 => ?_) (fun c1 => ?_)
  ·
    refine lv_iconst (v := oI 0) hx hb dX1_find_19 (by decide +kernel) ?_
    exact ro_iret hx hb hr hlk dX1_find_20 (by unfold fnd; rw [if_neg c1])
  ·
    refine lv_iload_n hx hb dX1_find_15 rfl (lv_at hl 0 rfl) ?_
    refine lv_goto (tgt := 20) hx hb dX1_find_16 (by decide) ?_
    exact ro_iret hx hb hr hlk dX1_find_20 (by unfold fnd; rw [if_pos c1, oI_s])
set_option maxHeartbeats 4000000 in
set_option maxRecDepth 100000 in
theorem c_X1_orNone (l : Launch) (D : va_G) (cI cJ cZ : ClassId) (k0 kl ks kw : Nat) (KL KS KW : Nat → Nat) (n : Nat) (hn : n ≤ 24) (j : Nat) (hj : j < 2 ^ 31) : RO l yX1_orNone cX1_orNone 2 (some .int) (rmN 1 21) D (ty3 cI cJ cZ) [.ref k0, .int (nI j)] [(k0, .inr (1, [.ref kl, .ref ks, .ref kw, .int (nI n)])), (kl, .inl (cJ, 24, .inr (.inl (lF KL)))), (ks, .inl (cI, 24, .inl (nF KS))), (kw, .inl (cI, 24, .inl (nF KW)))] (.int (oI (if j < n then j + 1 else 0))) := by
  refine ro_start (by decide) (Nat.le_of_ble_eq_true rfl) ?_
  intro pp ee ss mm below meth cd C0 hP hK ls hl
  obtain ⟨hx, hb, hr, hml, hown, hts, hlk⟩ := C0
  have hown : ss.vm.findClass RX1 = some mm.cls := hown
  have hl : lv_has ls 2 [(0, .ref k0), (1, .int (nI j))] := hl
  have hP : va_P D vwCl [(k0, .inr (1, [.ref kl, .ref ks, .ref kw, .int (nI n)])), (kl, .inl (cJ, 24, .inr (.inl (lF KL)))), (ks, .inl (cI, 24, .inl (nF KS))), (kw, .inl (cI, 24, .inl (nF KW)))] ss.heap := hP
  refine lv_aload_n hx hb dX1_orNone_0 rfl (lv_at hl 0 rfl) ?_
  refine lv_iload_n hx hb dX1_orNone_1 rfl (lv_at hl 1 rfl) ?_
  refine ro_V (As := [.int (nI j)]) (rest := []) ⟨hx, hb, hml, hown, hts⟩ (c_X1_has l D cI cJ cZ k0 kl ks kw KL KS KW n (by omega) j (by omega)) (k_X1_47 hts ⟨Nat.le_of_ble_eq_true rfl, Nat.le_of_ble_eq_true rfl⟩) hK hP 0 rfl rfl rfl [0, 1, 2, 3] rfl rfl hl.1 rfl (Nat.le_of_ble_eq_true rfl) dX1_orNone_2 ⟨Nat.le_of_ble_eq_true rfl, Nat.le_of_ble_eq_true rfl⟩ ?_
  refine b_if_eq (tgt := 12) hx hb dX1_orNone_5 (by decide) (fun c1 => ?_) (fun c1 => ?_)
  ·
    refine lv_iconst (v := oI 0) hx hb dX1_orNone_12 (by decide +kernel) ?_
    exact ro_iret hx hb hr hlk dX1_orNone_13 (by rw [if_neg c1])
  ·
    refine lv_iload_n hx hb dX1_orNone_8 rfl (lv_at hl 1 rfl) ?_
    refine lv_goto (tgt := 13) hx hb dX1_orNone_9 (by decide) ?_
    exact ro_iret hx hb hr hlk dX1_orNone_13 (by rw [if_pos c1, oI_s])
set_option maxHeartbeats 4000000 in
set_option maxRecDepth 100000 in
theorem c_X1_orNone_neg (l : Launch) (D : va_G) (cI cJ cZ : ClassId) (k0 kl ks kw : Nat) (KL KS KW : Nat → Nat) (n : Nat) (hn : n ≤ 24) : RO l yX1_orNone cX1_orNone 2 (some .int) (rmN 1 21) D (ty3 cI cJ cZ) [.ref k0, .int ((-1))] [(k0, .inr (1, [.ref kl, .ref ks, .ref kw, .int (nI n)])), (kl, .inl (cJ, 24, .inr (.inl (lF KL)))), (ks, .inl (cI, 24, .inl (nF KS))), (kw, .inl (cI, 24, .inl (nF KW)))] (.int (oI 0)) := by
  have hx0 : (-1 : Int32) < 0 := by decide
  refine ro_start (by decide) (Nat.le_of_ble_eq_true rfl) ?_
  intro pp ee ss mm below meth cd C0 hP hK ls hl
  obtain ⟨hx, hb, hr, hml, hown, hts, hlk⟩ := C0
  have hown : ss.vm.findClass RX1 = some mm.cls := hown
  have hl : lv_has ls 2 [(0, .ref k0), (1, .int ((-1)))] := hl
  have hP : va_P D vwCl [(k0, .inr (1, [.ref kl, .ref ks, .ref kw, .int (nI n)])), (kl, .inl (cJ, 24, .inr (.inl (lF KL)))), (ks, .inl (cI, 24, .inl (nF KS))), (kw, .inl (cI, 24, .inl (nF KW)))] ss.heap := hP
  refine lv_aload_n hx hb dX1_orNone_0 rfl (lv_at hl 0 rfl) ?_
  refine lv_iload_n hx hb dX1_orNone_1 rfl (lv_at hl 1 rfl) ?_
  refine ro_V (As := [.int ((-1))]) (rest := []) ⟨hx, hb, hml, hown, hts⟩ (c_X1_has_neg l D cI cJ cZ k0 kl ks kw KL KS KW n (by omega) ((-1)) hx0) (k_X1_47 hts ⟨Nat.le_of_ble_eq_true rfl, Nat.le_of_ble_eq_true rfl⟩) hK hP 0 rfl rfl rfl [0, 1, 2, 3] rfl rfl hl.1 rfl (Nat.le_of_ble_eq_true rfl) dX1_orNone_2 ⟨Nat.le_of_ble_eq_true rfl, Nat.le_of_ble_eq_true rfl⟩ ?_
  refine n_if_eq (tgt := 12) hx hb dX1_orNone_5 (by decide) (by decide) (fun _ => ?_) (fun h9 => absurd rfl h9)
  refine lv_iconst (v := oI 0) hx hb dX1_orNone_12 (by decide +kernel) ?_
  exact ro_iret hx hb hr hlk dX1_orNone_13 (rfl)
set_option maxHeartbeats 4000000 in
set_option maxRecDepth 100000 in
theorem c_X1_countBelow (l : Launch) (D : va_G) (cI cJ cZ : ClassId) (k0 kl ks kw : Nat) (KL KS KW : Nat → Nat) (n : Nat) (hn : n ≤ 24) (w0 A s : Nat) (hw0 : Wf s A) (hk : ∀ k, k < n → Wf (KS k) (KL k)) : RO l yX1_countBelow cX1_countBelow 4 (some .int) (rmN 4 95) D (ty3 cI cJ cZ) [.ref k0, .ref w0] [(k0, .inr (1, [.ref kl, .ref ks, .ref kw, .int (nI n)])), (kl, .inl (cJ, 24, .inr (.inl (lF KL)))), (ks, .inl (cI, 24, .inl (nF KS))), (kw, .inl (cI, 24, .inl (nF KW))), (w0, .inr (4, [.long (lN A), .int (nI s)]))] (.int (nI (cbl KS KL n s A))) := by
  have hs8 := hw0.1
  have hA64 := hw0.2.1
  have hp := plc_le KS KL n s A
  refine ro_start (by decide) (Nat.le_of_ble_eq_true rfl) ?_
  intro pp ee ss mm below meth cd C0 hP hK ls hl
  obtain ⟨hx, hb, hr, hml, hown, hts, hlk⟩ := C0
  have hown : ss.vm.findClass RX1 = some mm.cls := hown
  have hl : lv_has ls 4 [(0, .ref k0), (1, .ref w0)] := hl
  have hP : va_P D vwCl [(k0, .inr (1, [.ref kl, .ref ks, .ref kw, .int (nI n)])), (kl, .inl (cJ, 24, .inr (.inl (lF KL)))), (ks, .inl (cI, 24, .inl (nF KS))), (kw, .inl (cI, 24, .inl (nF KW))), (w0, .inr (4, [.long (lN A), .int (nI s)]))] ss.heap := hP
  refine lv_aload_n hx hb dX1_countBelow_0 rfl (lv_at hl 0 rfl) ?_
  refine lv_aload_n hx hb dX1_countBelow_1 rfl (lv_at hl 1 rfl) ?_
  refine ro_V (As := [.ref w0]) (rest := []) ⟨hx, hb, hml, hown, hts⟩ (c_X1_placeOf l D cI cJ cZ k0 kl ks kw KL KS KW n (by omega) w0 A s hw0 hk) (k_X1_51 hts ⟨Nat.le_of_ble_eq_true rfl, Nat.le_of_ble_eq_true rfl⟩) hK hP 0 rfl rfl rfl [0, 1, 2, 3, 4] rfl rfl hl.1 rfl (Nat.le_of_ble_eq_true rfl) dX1_countBelow_2 ⟨Nat.le_of_ble_eq_true rfl, Nat.le_of_ble_eq_true rfl⟩ ?_
  refine lv_istore_n (lv' := [(2, .int (nI (plc KS KL n s A))), (0, .ref k0), (1, .ref w0)]) hx hb dX1_countBelow_5 rfl hl (by decide) rfl (fun ls hl => ?_)
  refine lv_iload_n hx hb dX1_countBelow_6 rfl (lv_at hl 0 rfl) ?_
  refine lv_istore_n (lv' := [(3, .int (nI (plc KS KL n s A))), (2, .int (nI (plc KS KL n s A))), (0, .ref k0), (1, .ref w0)]) hx hb dX1_countBelow_7 rfl hl (by decide) rfl (fun ls hl => ?_)
  have loop8 : ∀ (d : Nat) (i : Nat) (ls : Array Slot), n - i < d → (plc KS KL n s A ≤ i) → (i ≤ n) → (∀ j, plc KS KL n s A ≤ j → j < i → 9 * s ≤ unl (KS j) (KL j) s A) → lv_has ls 4 [(0, .ref k0), (1, .ref w0), (2, .int (nI (plc KS KL n s A))), (3, .int (nI i))] → W pp l ee (rmN 4 95) ss mm [.ref k0, .ref w0].toArray below meth cd ss.heap [] 0 0 (MQ below (QR (.int (nI (cbl KS KL n s A)))) [.ref k0, .ref w0].toArray ss 0 0 (fun _ => False)) (F0 mm 8 ls []) := by
    intro d
    induction d with
    | zero => intro i ls h; exact absurd h (Nat.not_lt_zero _)
    | succ d ih8 =>
      intro i ls hd8 h1 h2 hj hl
      have hj1 := hj
      refine lv_iload_n hx hb dX1_countBelow_8 rfl (lv_at hl 3 rfl) ?_
      refine lv_aload_n hx hb dX1_countBelow_9 rfl (lv_at hl 0 rfl) ?_
      refine va_get (D := D) (ci := 1) (v := .int (nI n)) (C := RX1) (T := TX1) (N := 4) hx hb hts inX1 hown hK hP 0 rfl rfl 3 (by decide) (hts _ mf_X1_22) (fun _ h9 => h9) rfl dX1_countBelow_10 ?_
      refine n_ge (tgt := 38) hx hb dX1_countBelow_13 (by decide) (by omega) (by omega) (fun c1 => ?_) (fun c1 => ?_)
      ·
        have e0 : plc KS KL n s A + (i - plc KS KL n s A) < n → ¬ 9 * s ≤ unl (KS (plc KS KL n s A + (i - plc KS KL n s A))) (KL (plc KS KL n s A + (i - plc KS KL n s A))) s A := fun h => absurd h (by omega)
        refine lv_iload_n hx hb dX1_countBelow_38 rfl (lv_at hl 3 rfl) ?_
        refine lv_iload_n hx hb dX1_countBelow_39 rfl (lv_at hl 2 rfl) ?_
        refine n_isub hx hb dX1_countBelow_40 (by omega) ?_
        exact ro_iret hx hb hr hlk dX1_countBelow_41 (by rw [cbl_is (m := i - plc KS KL n s A) (by omega) (fun j hj => hj1 _ (by omega) (by omega)) e0])
      ·
        have hu := unl_le (KS i) (KL i) s A
        refine lv_aload_n hx hb dX1_countBelow_16 rfl (lv_at hl 0 rfl) ?_
        refine lv_iload_n hx hb dX1_countBelow_17 rfl (lv_at hl 3 rfl) ?_
        refine lv_aload_n hx hb dX1_countBelow_18 rfl (lv_at hl 1 rfl) ?_
        refine ro_V (As := [.int (nI i), .ref w0]) (rest := []) ⟨hx, hb, hml, hown, hts⟩ (c_X1_sharedWith l D cI cJ cZ k0 kl ks kw KL KS KW n (by omega) w0 A s hw0 i (by omega) (hk _ (by omega))) (k_X1_39 hts ⟨Nat.le_of_ble_eq_true rfl, Nat.le_of_ble_eq_true rfl⟩) hK hP 0 rfl rfl rfl [0, 1, 2, 3, 4] rfl rfl hl.1 rfl (Nat.le_of_ble_eq_true rfl) dX1_countBelow_19 ⟨Nat.le_of_ble_eq_true rfl, Nat.le_of_ble_eq_true rfl⟩ ?_
        refine lv_bipush (v := nI 9) hx hb dX1_countBelow_22 (by decide +kernel) ?_
        refine lv_aload_n hx hb dX1_countBelow_24 rfl (lv_at hl 1 rfl) ?_
        refine ro_V (As := []) (rest := [.int (nI 9), .int (nI (unl (KS i) (KL i) s A))]) ⟨hx, hb, hml, hown, hts⟩ (c_X4_size l D cI cJ cZ w0 A s) (k_X1_31 hts ⟨Nat.le_of_ble_eq_true rfl, Nat.le_of_ble_eq_true rfl⟩) hK hP 4 rfl rfl rfl [4] rfl rfl hl.1 rfl (Nat.le_of_ble_eq_true rfl) dX1_countBelow_25 ⟨Nat.le_of_ble_eq_true rfl, Nat.le_of_ble_eq_true rfl⟩ ?_
        refine n_imul hx hb dX1_countBelow_28 ?_
        refine n_lt (tgt := 38) hx hb dX1_countBelow_29 (by decide) (by omega) (by omega) (fun c2 => ?_) (fun c2 => ?_)
        ·
          have e0 : plc KS KL n s A + (i - plc KS KL n s A) < n → ¬ 9 * s ≤ unl (KS (plc KS KL n s A + (i - plc KS KL n s A))) (KL (plc KS KL n s A + (i - plc KS KL n s A))) s A := fun _ => by rw [show plc KS KL n s A + (i - plc KS KL n s A) = i by omega]; omega
          refine lv_iload_n hx hb dX1_countBelow_38 rfl (lv_at hl 3 rfl) ?_
          refine lv_iload_n hx hb dX1_countBelow_39 rfl (lv_at hl 2 rfl) ?_
          refine n_isub hx hb dX1_countBelow_40 (by omega) ?_
          exact ro_iret hx hb hr hlk dX1_countBelow_41 (by rw [cbl_is (m := i - plc KS KL n s A) (by omega) (fun j hj => hj1 _ (by omega) (by omega)) e0])
        ·
          have e1 := c2
          refine lv_iinc (v := nI (i + 1)) (lv' := [(3, .int (nI (i + 1))), (0, .ref k0), (1, .ref w0), (2, .int (nI (plc KS KL n s A)))]) hx hb dX1_countBelow_32 hl (k := 3) rfl (nI_add i 1) (by decide) rfl (fun ls hl => ?_)
          refine lv_goto (tgt := 8) hx hb dX1_countBelow_35 (by decide) ?_
          exact ih8 (i + 1) ls (by omega) (by omega) (by omega) (fun j hj hj2 => by rcases Nat.lt_or_ge j i with g | g; exact hj1 j hj g; rw [show j = i by omega]; exact e1) (lv_sub hl [1, 2, 3, 0] rfl)
  exact loop8 _ (plc KS KL n s A) ls (Nat.lt_succ_self _) (Nat.le_refl _) hp (fun j h h2 => absurd h2 (by omega)) (lv_sub hl [2, 3, 1, 0] rfl)
set_option maxHeartbeats 4000000 in
set_option maxRecDepth 100000 in
theorem c_X1_worthsOf (l : Launch) (D : va_G) (cI cJ cZ : ClassId) (k0 kl ks kw : Nat) (KL KS KW : Nat → Nat) (n : Nat) (hn : n ≤ 24) (hv : ∀ k, k < n → KW k ≤ 9999) (f q : Nat) (hf : f + q ≤ n) : RO l yX1_worthsOf cX1_worthsOf 5 (some .int) (rmN 0 0) D (ty3 cI cJ cZ) [.ref k0, .int (nI f), .int (nI q)] [(k0, .inr (1, [.ref kl, .ref ks, .ref kw, .int (nI n)])), (kl, .inl (cJ, 24, .inr (.inl (lF KL)))), (ks, .inl (cI, 24, .inl (nF KS))), (kw, .inl (cI, 24, .inl (nF KW)))] (.int (nI (fb_sm (fun i => KW (f + i)) q))) := by
  refine ro_start (by decide) (Nat.le_of_ble_eq_true rfl) ?_
  intro pp ee ss mm below meth cd C0 hP hK ls hl
  obtain ⟨hx, hb, hr, hml, hown, hts, hlk⟩ := C0
  have hown : ss.vm.findClass RX1 = some mm.cls := hown
  have hl : lv_has ls 5 [(0, .ref k0), (1, .int (nI f)), (2, .int (nI q))] := hl
  have hP : va_P D vwCl [(k0, .inr (1, [.ref kl, .ref ks, .ref kw, .int (nI n)])), (kl, .inl (cJ, 24, .inr (.inl (lF KL)))), (ks, .inl (cI, 24, .inl (nF KS))), (kw, .inl (cI, 24, .inl (nF KW)))] ss.heap := hP
  refine lv_iconst (v := nI 0) hx hb dX1_worthsOf_0 (by decide +kernel) ?_
  refine lv_istore_n (lv' := [(3, .int (nI 0)), (0, .ref k0), (1, .int (nI f)), (2, .int (nI q))]) hx hb dX1_worthsOf_1 rfl hl (by decide) rfl (fun ls hl => ?_)
  refine lv_iload_n hx hb dX1_worthsOf_2 rfl (lv_at hl 2 rfl) ?_
  refine lv_istore (lv' := [(4, .int (nI f)), (3, .int (nI 0)), (0, .ref k0), (1, .int (nI f)), (2, .int (nI q))]) hx hb dX1_worthsOf_3 hl (by decide) rfl (fun ls hl => ?_)
  have loop5 : ∀ (d : Nat) (i : Nat) (ls : Array Slot), q - i < d → (i ≤ q) → lv_has ls 5 [(0, .ref k0), (1, .int (nI f)), (2, .int (nI q)), (3, .int (nI (fb_sm (fun i => KW (f + i)) i))), (4, .int (nI (f + i)))] → W pp l ee (rmN 0 0) ss mm [.ref k0, .int (nI f), .int (nI q)].toArray below meth cd ss.heap [] 0 0 (MQ below (QR (.int (nI (fb_sm (fun i => KW (f + i)) q)))) [.ref k0, .int (nI f), .int (nI q)].toArray ss 0 0 (fun _ => False)) (F0 mm 5 ls []) := by
    intro d
    induction d with
    | zero => intro i ls h; exact absurd h (Nat.not_lt_zero _)
    | succ d ih5 =>
      intro i ls hd5 hi hl
      refine lv_iload hx hb dX1_worthsOf_5 (lv_at hl 4 rfl) ?_
      refine lv_iload_n hx hb dX1_worthsOf_7 rfl (lv_at hl 1 rfl) ?_
      refine lv_iload_n hx hb dX1_worthsOf_8 rfl (lv_at hl 2 rfl) ?_
      refine n_iadd hx hb dX1_worthsOf_9 ?_
      refine n_ge (tgt := 38) hx hb dX1_worthsOf_10 (by decide) (by omega) (by omega) (fun c1 => ?_) (fun c1 => ?_)
      ·
        refine lv_iload_n hx hb dX1_worthsOf_38 rfl (lv_at hl 3 rfl) ?_
        exact ro_iret hx hb hr hlk dX1_worthsOf_39 (by rw [show i = q by omega])
      ·
        refine lv_iload hx hb dX1_worthsOf_13 (lv_at hl 4 rfl) ?_
        refine lv_aload_n hx hb dX1_worthsOf_15 rfl (lv_at hl 0 rfl) ?_
        refine va_get (D := D) (ci := 1) (v := .int (nI n)) (C := RX1) (T := TX1) (N := 4) hx hb hts inX1 hown hK hP 0 rfl rfl 3 (by decide) (hts _ mf_X1_22) (fun _ h9 => h9) rfl dX1_worthsOf_16 ?_
        refine n_ge (tgt := 38) hx hb dX1_worthsOf_19 (by decide) (by omega) (by omega) (fun c2 => ?_) (fun c2 => ?_)
        ·
          exact absurd c2 (by omega)
        ·
          refine lv_iload_n hx hb dX1_worthsOf_22 rfl (lv_at hl 3 rfl) ?_
          refine lv_aload_n hx hb dX1_worthsOf_23 rfl (lv_at hl 0 rfl) ?_
          refine va_get (D := D) (ci := 1) (v := .ref kw) (C := RX1) (T := TX1) (N := 4) hx hb hts inX1 hown hK hP 0 rfl rfl 2 (by decide) (hts _ mf_X1_19) (fun _ h9 => h9) rfl dX1_worthsOf_24 ?_
          refine lv_iload hx hb dX1_worthsOf_27 (lv_at hl 4 rfl) ?_
          refine n_iald hx hb hK hP 3 0 rfl rfl (k := (f + i)) (by omega) (by decide) dX1_worthsOf_29 ?_
          refine n_iadd hx hb dX1_worthsOf_30 ?_
          refine lv_istore_n (lv' := [(3, .int (nI ((fb_sm (fun i => KW (f + i)) i) + (KW (f + i))))), (0, .ref k0), (1, .int (nI f)), (2, .int (nI q)), (4, .int (nI (f + i)))]) hx hb dX1_worthsOf_31 rfl hl (by decide) rfl (fun ls hl => ?_)
          refine lv_iinc (v := nI ((f + i) + 1)) (lv' := [(4, .int (nI ((f + i) + 1))), (3, .int (nI ((fb_sm (fun i => KW (f + i)) i) + (KW (f + i))))), (0, .ref k0), (1, .int (nI f)), (2, .int (nI q))]) hx hb dX1_worthsOf_32 hl (k := 4) rfl (nI_add (f + i) 1) (by decide) rfl (fun ls hl => ?_)
          refine lv_goto (tgt := 5) hx hb dX1_worthsOf_35 (by decide) ?_
          exact ih5 (i + 1) ls (by omega) (by omega) (lv_sub hl [2, 3, 4, 1, 0] rfl)
  exact loop5 _ 0 ls (Nat.lt_succ_self _) (Nat.zero_le _) (lv_sub hl [2, 3, 4, 1, 0] rfl)
set_option maxHeartbeats 4000000 in
set_option maxRecDepth 100000 in
theorem c_X1_mostWorth (l : Launch) (D : va_G) (cI cJ cZ : ClassId) (k0 kl ks kw : Nat) (KL KS KW : Nat → Nat) (n : Nat) (hn : n ≤ 24) (hv : ∀ k, k < n → KW k ≤ 9999) (f q : Nat) (hf : f + q ≤ n) : RO l yX1_mostWorth cX1_mostWorth 5 (some .int) (rmN 0 0) D (ty3 cI cJ cZ) [.ref k0, .int (nI f), .int (nI q)] [(k0, .inr (1, [.ref kl, .ref ks, .ref kw, .int (nI n)])), (kl, .inl (cJ, 24, .inr (.inl (lF KL)))), (ks, .inl (cI, 24, .inl (nF KS))), (kw, .inl (cI, 24, .inl (nF KW)))] (.int (oI (mwo KW f q))) := by
  refine ro_start (by decide) (Nat.le_of_ble_eq_true rfl) ?_
  intro pp ee ss mm below meth cd C0 hP hK ls hl
  obtain ⟨hx, hb, hr, hml, hown, hts, hlk⟩ := C0
  have hown : ss.vm.findClass RX1 = some mm.cls := hown
  have hl : lv_has ls 5 [(0, .ref k0), (1, .int (nI f)), (2, .int (nI q))] := hl
  have hP : va_P D vwCl [(k0, .inr (1, [.ref kl, .ref ks, .ref kw, .int (nI n)])), (kl, .inl (cJ, 24, .inr (.inl (lF KL)))), (ks, .inl (cI, 24, .inl (nF KS))), (kw, .inl (cI, 24, .inl (nF KW)))] ss.heap := hP
  refine lv_iconst (v := oI 0) hx hb dX1_mostWorth_0 (by decide +kernel) ?_
  refine lv_istore_n (lv' := [(3, .int (oI 0)), (0, .ref k0), (1, .int (nI f)), (2, .int (nI q))]) hx hb dX1_mostWorth_1 rfl hl (by decide) rfl (fun ls hl => ?_)
  refine lv_iload_n hx hb dX1_mostWorth_2 rfl (lv_at hl 2 rfl) ?_
  refine lv_istore (lv' := [(4, .int (nI f)), (3, .int (oI 0)), (0, .ref k0), (1, .int (nI f)), (2, .int (nI q))]) hx hb dX1_mostWorth_3 hl (by decide) rfl (fun ls hl => ?_)
  have loop5 : ∀ (d : Nat) (i : Nat) (b : Nat) (ls : Array Slot), q - i < d → (i ≤ q) → (b = mwo KW f i) → lv_has ls 5 [(0, .ref k0), (1, .int (nI f)), (2, .int (nI q)), (3, .int (oI b)), (4, .int (nI (f + i)))] → W pp l ee (rmN 0 0) ss mm [.ref k0, .int (nI f), .int (nI q)].toArray below meth cd ss.heap [] 0 0 (MQ below (QR (.int (oI (mwo KW f q)))) [.ref k0, .int (nI f), .int (nI q)].toArray ss 0 0 (fun _ => False)) (F0 mm 5 ls []) := by
    intro d
    induction d with
    | zero => intro i b ls h; exact absurd h (Nat.not_lt_zero _)
    | succ d ih5 =>
      intro i b ls hd5 hi hb0 hl
      have hb1 := mwo_le KW f i
      refine lv_iload hx hb dX1_mostWorth_5 (lv_at hl 4 rfl) ?_
      refine lv_iload_n hx hb dX1_mostWorth_7 rfl (lv_at hl 1 rfl) ?_
      refine lv_iload_n hx hb dX1_mostWorth_8 rfl (lv_at hl 2 rfl) ?_
      refine n_iadd hx hb dX1_mostWorth_9 ?_
      refine n_ge (tgt := 52) hx hb dX1_mostWorth_10 (by decide) (by omega) (by omega) (fun c1 => ?_) (fun c1 => ?_)
      ·
        refine lv_iload_n hx hb dX1_mostWorth_52 rfl (lv_at hl 3 rfl) ?_
        exact ro_iret hx hb hr hlk dX1_mostWorth_53 (by rw [hb0, show i = q by omega])
      ·
        refine lv_iload hx hb dX1_mostWorth_13 (lv_at hl 4 rfl) ?_
        refine lv_aload_n hx hb dX1_mostWorth_15 rfl (lv_at hl 0 rfl) ?_
        refine va_get (D := D) (ci := 1) (v := .int (nI n)) (C := RX1) (T := TX1) (N := 4) hx hb hts inX1 hown hK hP 0 rfl rfl 3 (by decide) (hts _ mf_X1_22) (fun _ h9 => h9) rfl dX1_mostWorth_16 ?_
        refine n_ge (tgt := 52) hx hb dX1_mostWorth_19 (by decide) (by omega) (by omega) (fun c2 => ?_) (fun c2 => ?_)
        ·
          exact absurd c2 (by omega)
        ·
          refine lv_iload_n hx hb dX1_mostWorth_22 rfl (lv_at hl 3 rfl) ?_
          refine lv_iconst (v := oI 0) hx hb dX1_mostWorth_23 (by decide +kernel) ?_
          refine o_eq (tgt := 43) hx hb dX1_mostWorth_24 (by decide) (by omega) (fun c3 => ?_) (fun c3 => ?_)
          ·
            refine lv_iload hx hb dX1_mostWorth_43 (lv_at hl 4 rfl) ?_
            refine tq (y := oI ((f + i) + 1)) (oI_s _).symm ?_
            refine lv_istore_n (lv' := [(3, .int (oI ((f + i) + 1))), (0, .ref k0), (1, .int (nI f)), (2, .int (nI q)), (4, .int (nI (f + i)))]) hx hb dX1_mostWorth_45 rfl hl (by decide) rfl (fun ls hl => ?_)
            refine lv_iinc (v := nI ((f + i) + 1)) (lv' := [(4, .int (nI ((f + i) + 1))), (3, .int (oI ((f + i) + 1))), (0, .ref k0), (1, .int (nI f)), (2, .int (nI q))]) hx hb dX1_mostWorth_46 hl (k := 4) rfl (nI_add (f + i) 1) (by decide) rfl (fun ls hl => ?_)
            refine lv_goto (tgt := 5) hx hb dX1_mostWorth_49 (by decide) ?_
            exact ih5 (i + 1) ((f + i) + 1) ls (by omega) (by omega) (by show _ = (if mwo KW f i = 0 ∨ KW (mwo KW f i - 1) < KW (f + i) then f + i + 1 else mwo KW f i); rw [← hb0]; first | rw [if_pos (by omega)] | rw [if_neg (by omega)]) (lv_sub hl [2, 3, 4, 1, 0] rfl)
          ·
            refine lv_aload_n hx hb dX1_mostWorth_27 rfl (lv_at hl 0 rfl) ?_
            refine va_get (D := D) (ci := 1) (v := .ref kw) (C := RX1) (T := TX1) (N := 4) hx hb hts inX1 hown hK hP 0 rfl rfl 2 (by decide) (hts _ mf_X1_19) (fun _ h9 => h9) rfl dX1_mostWorth_28 ?_
            refine lv_iload hx hb dX1_mostWorth_31 (lv_at hl 4 rfl) ?_
            refine n_iald hx hb hK hP 3 0 rfl rfl (k := (f + i)) (by omega) (by decide) dX1_mostWorth_33 ?_
            refine lv_aload_n hx hb dX1_mostWorth_34 rfl (lv_at hl 0 rfl) ?_
            refine va_get (D := D) (ci := 1) (v := .ref kw) (C := RX1) (T := TX1) (N := 4) hx hb hts inX1 hown hK hP 0 rfl rfl 2 (by decide) (hts _ mf_X1_19) (fun _ h9 => h9) rfl dX1_mostWorth_35 ?_
            refine lv_iload_n hx hb dX1_mostWorth_38 rfl (lv_at hl 3 rfl) ?_
            refine tq (y := nI (b - 1)) (oI_p (by omega)) ?_
            refine n_iald hx hb hK hP 3 0 rfl rfl (k := (b - 1)) (by omega) (by decide) dX1_mostWorth_39 ?_
            refine n_le (tgt := 46) hx hb dX1_mostWorth_40 (by decide) (by have := hv (f + i) (by omega); omega) (by have := hv (b - 1) (by omega); omega) (fun c4 => ?_) (fun c4 => ?_)
            ·
              refine lv_iinc (v := nI ((f + i) + 1)) (lv' := [(4, .int (nI ((f + i) + 1))), (0, .ref k0), (1, .int (nI f)), (2, .int (nI q)), (3, .int (oI b))]) hx hb dX1_mostWorth_46 hl (k := 4) rfl (nI_add (f + i) 1) (by decide) rfl (fun ls hl => ?_)
              refine lv_goto (tgt := 5) hx hb dX1_mostWorth_49 (by decide) ?_
              exact ih5 (i + 1) b ls (by omega) (by omega) (by show _ = (if mwo KW f i = 0 ∨ KW (mwo KW f i - 1) < KW (f + i) then f + i + 1 else mwo KW f i); rw [← hb0]; first | rw [if_pos (by omega)] | rw [if_neg (by omega)]) (lv_sub hl [1, 2, 3, 4, 0] rfl)
            ·
              refine lv_iload hx hb dX1_mostWorth_43 (lv_at hl 4 rfl) ?_
              refine tq (y := oI ((f + i) + 1)) (oI_s _).symm ?_
              refine lv_istore_n (lv' := [(3, .int (oI ((f + i) + 1))), (0, .ref k0), (1, .int (nI f)), (2, .int (nI q)), (4, .int (nI (f + i)))]) hx hb dX1_mostWorth_45 rfl hl (by decide) rfl (fun ls hl => ?_)
              refine lv_iinc (v := nI ((f + i) + 1)) (lv' := [(4, .int (nI ((f + i) + 1))), (3, .int (oI ((f + i) + 1))), (0, .ref k0), (1, .int (nI f)), (2, .int (nI q))]) hx hb dX1_mostWorth_46 hl (k := 4) rfl (nI_add (f + i) 1) (by decide) rfl (fun ls hl => ?_)
              refine lv_goto (tgt := 5) hx hb dX1_mostWorth_49 (by decide) ?_
              exact ih5 (i + 1) ((f + i) + 1) ls (by omega) (by omega) (by show _ = (if mwo KW f i = 0 ∨ KW (mwo KW f i - 1) < KW (f + i) then f + i + 1 else mwo KW f i); rw [← hb0]; first | rw [if_pos (by omega)] | rw [if_neg (by omega)]) (lv_sub hl [2, 3, 4, 1, 0] rfl)
  exact loop5 _ 0 0 ls (Nat.lt_succ_self _) (Nat.zero_le _) rfl (lv_sub hl [2, 3, 4, 1, 0] rfl)
set_option maxHeartbeats 4000000 in
set_option maxRecDepth 100000 in
theorem c_X1_longestStem (l : Launch) (D : va_G) (cI cJ cZ : ClassId) (k0 kl ks kw : Nat) (KL KS KW : Nat → Nat) (n : Nat) (hn : n ≤ 24) (w0 A s : Nat) (hw0 : Wf s A) (hk : ∀ k, k < n → Wf (KS k) (KL k)) : RO l yX1_longestStem cX1_longestStem 5 (some .int) (rmN 3 72) D (ty3 cI cJ cZ) [.ref k0, .ref w0] [(k0, .inr (1, [.ref kl, .ref ks, .ref kw, .int (nI n)])), (kl, .inl (cJ, 24, .inr (.inl (lF KL)))), (ks, .inl (cI, 24, .inl (nF KS))), (kw, .inl (cI, 24, .inl (nF KW))), (w0, .inr (4, [.long (lN A), .int (nI s)]))] (.int (oI (lso KS KL s A n))) := by
  have hs8 := hw0.1
  have hA64 := hw0.2.1
  refine ro_start (by decide) (Nat.le_of_ble_eq_true rfl) ?_
  intro pp ee ss mm below meth cd C0 hP hK ls hl
  obtain ⟨hx, hb, hr, hml, hown, hts, hlk⟩ := C0
  have hown : ss.vm.findClass RX1 = some mm.cls := hown
  have hl : lv_has ls 5 [(0, .ref k0), (1, .ref w0)] := hl
  have hP : va_P D vwCl [(k0, .inr (1, [.ref kl, .ref ks, .ref kw, .int (nI n)])), (kl, .inl (cJ, 24, .inr (.inl (lF KL)))), (ks, .inl (cI, 24, .inl (nF KS))), (kw, .inl (cI, 24, .inl (nF KW))), (w0, .inr (4, [.long (lN A), .int (nI s)]))] ss.heap := hP
  refine lv_iconst (v := oI 0) hx hb dX1_longestStem_0 (by decide +kernel) ?_
  refine lv_istore_n (lv' := [(2, .int (oI 0)), (0, .ref k0), (1, .ref w0)]) hx hb dX1_longestStem_1 rfl hl (by decide) rfl (fun ls hl => ?_)
  refine lv_iconst (v := nI 0) hx hb dX1_longestStem_2 (by decide +kernel) ?_
  refine lv_istore_n (lv' := [(3, .int (nI 0)), (2, .int (oI 0)), (0, .ref k0), (1, .ref w0)]) hx hb dX1_longestStem_3 rfl hl (by decide) rfl (fun ls hl => ?_)
  have loop4 : ∀ (d : Nat) (i : Nat) (b : Nat) (ls : Array Slot), n - i < d → (i ≤ n) → (b = lso KS KL s A i) → lv_has ls 5 [(0, .ref k0), (1, .ref w0), (2, .int (oI b)), (3, .int (nI i))] → W pp l ee (rmN 3 72) ss mm [.ref k0, .ref w0].toArray below meth cd ss.heap [] 0 0 (MQ below (QR (.int (oI (lso KS KL s A n)))) [.ref k0, .ref w0].toArray ss 0 0 (fun _ => False)) (F0 mm 4 ls []) := by
    intro d
    induction d with
    | zero => intro i b ls h; exact absurd h (Nat.not_lt_zero _)
    | succ d ih4 =>
      intro i b ls hd4 hi hb0 hl
      have hb1 := lso_le KS KL s A i
      refine lv_iload_n hx hb dX1_longestStem_4 rfl (lv_at hl 3 rfl) ?_
      refine lv_aload_n hx hb dX1_longestStem_5 rfl (lv_at hl 0 rfl) ?_
      refine va_get (D := D) (ci := 1) (v := .int (nI n)) (C := RX1) (T := TX1) (N := 4) hx hb hts inX1 hown hK hP 0 rfl rfl 3 (by decide) (hts _ mf_X1_22) (fun _ h9 => h9) rfl dX1_longestStem_6 ?_
      refine n_ge (tgt := 70) hx hb dX1_longestStem_9 (by decide) (by omega) (by omega) (fun c1 => ?_) (fun c1 => ?_)
      ·
        refine lv_iload_n hx hb dX1_longestStem_70 rfl (lv_at hl 2 rfl) ?_
        exact ro_iret hx hb hr hlk dX1_longestStem_71 (by rw [hb0, show i = n by omega])
      ·
        have hu := unl_le (KS i) (KL i) s A
        have hki := (hk i (by omega)).1
        refine lv_aload_n hx hb dX1_longestStem_12 rfl (lv_at hl 0 rfl) ?_
        refine lv_iload_n hx hb dX1_longestStem_13 rfl (lv_at hl 3 rfl) ?_
        refine lv_aload_n hx hb dX1_longestStem_14 rfl (lv_at hl 1 rfl) ?_
        refine ro_V (As := [.int (nI i), .ref w0]) (rest := []) ⟨hx, hb, hml, hown, hts⟩ (c_X1_sharedWith l D cI cJ cZ k0 kl ks kw KL KS KW n (by omega) w0 A s hw0 i (by omega) (hk _ (by omega))) (k_X1_39 hts ⟨Nat.le_of_ble_eq_true rfl, Nat.le_of_ble_eq_true rfl⟩) hK hP 0 rfl rfl rfl [0, 1, 2, 3, 4] rfl rfl hl.1 rfl (Nat.le_of_ble_eq_true rfl) dX1_longestStem_15 ⟨Nat.le_of_ble_eq_true rfl, Nat.le_of_ble_eq_true rfl⟩ ?_
        refine lv_bipush (v := nI 9) hx hb dX1_longestStem_18 (by decide +kernel) ?_
        refine lv_aload_n hx hb dX1_longestStem_20 rfl (lv_at hl 0 rfl) ?_
        refine va_get (D := D) (ci := 1) (v := .ref ks) (C := RX1) (T := TX1) (N := 4) hx hb hts inX1 hown hK hP 0 rfl rfl 1 (by decide) (hts _ mf_X1_15) (fun _ h9 => h9) rfl dX1_longestStem_21 ?_
        refine lv_iload_n hx hb dX1_longestStem_24 rfl (lv_at hl 3 rfl) ?_
        refine n_iald hx hb hK hP 2 0 rfl rfl (k := i) (by omega) (by decide) dX1_longestStem_25 ?_
        refine n_imul hx hb dX1_longestStem_26 ?_
        refine n_lt (tgt := 34) hx hb dX1_longestStem_27 (by decide) (by omega) (by omega) (fun c2 => ?_) (fun c2 => ?_)
        ·
          refine lv_iconst (v := nI 0) hx hb dX1_longestStem_34 (by decide +kernel) ?_
          refine lv_istore (lv' := [(4, .int (nI 0)), (0, .ref k0), (1, .ref w0), (2, .int (oI b)), (3, .int (nI i))]) hx hb dX1_longestStem_35 hl (by decide) rfl (fun ls hl => ?_)
          refine lv_iload hx hb dX1_longestStem_37 (lv_at hl 0 rfl) ?_
          refine n_if_eq (tgt := 64) hx hb dX1_longestStem_39 (by decide) (by decide) (fun _ => ?_) (fun h9 => absurd rfl h9)
          refine lv_iinc (v := nI (i + 1)) (lv' := [(3, .int (nI (i + 1))), (4, .int (nI 0)), (0, .ref k0), (1, .ref w0), (2, .int (oI b))]) hx hb dX1_longestStem_64 hl (k := 4) rfl (nI_add i 1) (by decide) rfl (fun ls hl => ?_)
          refine lv_goto (tgt := 4) hx hb dX1_longestStem_67 (by decide) ?_
          exact ih4 (i + 1) b ls (by omega) (by omega) (by show _ = (if 9 * KS i ≤ unl (KS i) (KL i) s A ∧ (lso KS KL s A i = 0 ∨ KS (lso KS KL s A i - 1) < KS i) then i + 1 else lso KS KL s A i); rw [← hb0]; first | rw [if_pos (by omega)] | rw [if_neg (by omega)]) (lv_sub hl [2, 3, 4, 0] rfl)
        ·
          refine lv_iconst (v := nI 1) hx hb dX1_longestStem_30 (by decide +kernel) ?_
          refine lv_goto (tgt := 35) hx hb dX1_longestStem_31 (by decide) ?_
          refine lv_istore (lv' := [(4, .int (nI 1)), (0, .ref k0), (1, .ref w0), (2, .int (oI b)), (3, .int (nI i))]) hx hb dX1_longestStem_35 hl (by decide) rfl (fun ls hl => ?_)
          refine lv_iload hx hb dX1_longestStem_37 (lv_at hl 0 rfl) ?_
          refine n_if_eq (tgt := 64) hx hb dX1_longestStem_39 (by decide) (by decide) (fun h9 => absurd h9 (by decide)) (fun _ => ?_)
          refine lv_iload_n hx hb dX1_longestStem_42 rfl (lv_at hl 3 rfl) ?_
          refine lv_iconst (v := oI 0) hx hb dX1_longestStem_43 (by decide +kernel) ?_
          refine o_eq (tgt := 62) hx hb dX1_longestStem_44 (by decide) (by omega) (fun c5 => ?_) (fun c5 => ?_)
          ·
            refine lv_iload_n hx hb dX1_longestStem_62 rfl (lv_at hl 4 rfl) ?_
            refine tq (y := oI (i + 1)) (oI_s _).symm ?_
            refine lv_istore_n (lv' := [(2, .int (oI (i + 1))), (4, .int (nI 1)), (0, .ref k0), (1, .ref w0), (3, .int (nI i))]) hx hb dX1_longestStem_63 rfl hl (by decide) rfl (fun ls hl => ?_)
            refine lv_iinc (v := nI (i + 1)) (lv' := [(3, .int (nI (i + 1))), (2, .int (oI (i + 1))), (4, .int (nI 1)), (0, .ref k0), (1, .ref w0)]) hx hb dX1_longestStem_64 hl (k := 4) rfl (nI_add i 1) (by decide) rfl (fun ls hl => ?_)
            refine lv_goto (tgt := 4) hx hb dX1_longestStem_67 (by decide) ?_
            exact ih4 (i + 1) (i + 1) ls (by omega) (by omega) (by show _ = (if 9 * KS i ≤ unl (KS i) (KL i) s A ∧ (lso KS KL s A i = 0 ∨ KS (lso KS KL s A i - 1) < KS i) then i + 1 else lso KS KL s A i); rw [← hb0]; first | rw [if_pos (by omega)] | rw [if_neg (by omega)]) (lv_sub hl [3, 4, 1, 0] rfl)
          ·
            refine lv_aload_n hx hb dX1_longestStem_47 rfl (lv_at hl 1 rfl) ?_
            refine va_get (D := D) (ci := 1) (v := .ref ks) (C := RX1) (T := TX1) (N := 4) hx hb hts inX1 hown hK hP 0 rfl rfl 1 (by decide) (hts _ mf_X1_15) (fun _ h9 => h9) rfl dX1_longestStem_48 ?_
            refine lv_iload_n hx hb dX1_longestStem_51 rfl (lv_at hl 4 rfl) ?_
            refine n_iald hx hb hK hP 2 0 rfl rfl (k := i) (by omega) (by decide) dX1_longestStem_52 ?_
            refine lv_aload_n hx hb dX1_longestStem_53 rfl (lv_at hl 1 rfl) ?_
            refine va_get (D := D) (ci := 1) (v := .ref ks) (C := RX1) (T := TX1) (N := 4) hx hb hts inX1 hown hK hP 0 rfl rfl 1 (by decide) (hts _ mf_X1_15) (fun _ h9 => h9) rfl dX1_longestStem_54 ?_
            refine lv_iload_n hx hb dX1_longestStem_57 rfl (lv_at hl 3 rfl) ?_
            refine tq (y := nI (b - 1)) (oI_p (by omega)) ?_
            refine n_iald hx hb hK hP 2 0 rfl rfl (k := (b - 1)) (by omega) (by decide) dX1_longestStem_58 ?_
            refine n_le (tgt := 64) hx hb dX1_longestStem_59 (by decide) (by omega) (by have := (hk (b - 1) (by omega)).1; omega) (fun c6 => ?_) (fun c6 => ?_)
            ·
              refine lv_iinc (v := nI (i + 1)) (lv' := [(3, .int (nI (i + 1))), (4, .int (nI 1)), (0, .ref k0), (1, .ref w0), (2, .int (oI b))]) hx hb dX1_longestStem_64 hl (k := 4) rfl (nI_add i 1) (by decide) rfl (fun ls hl => ?_)
              refine lv_goto (tgt := 4) hx hb dX1_longestStem_67 (by decide) ?_
              exact ih4 (i + 1) b ls (by omega) (by omega) (by show _ = (if 9 * KS i ≤ unl (KS i) (KL i) s A ∧ (lso KS KL s A i = 0 ∨ KS (lso KS KL s A i - 1) < KS i) then i + 1 else lso KS KL s A i); rw [← hb0]; first | rw [if_pos (by omega)] | rw [if_neg (by omega)]) (lv_sub hl [2, 3, 4, 0] rfl)
            ·
              refine lv_iload_n hx hb dX1_longestStem_62 rfl (lv_at hl 4 rfl) ?_
              refine tq (y := oI (i + 1)) (oI_s _).symm ?_
              refine lv_istore_n (lv' := [(2, .int (oI (i + 1))), (4, .int (nI 1)), (0, .ref k0), (1, .ref w0), (3, .int (nI i))]) hx hb dX1_longestStem_63 rfl hl (by decide) rfl (fun ls hl => ?_)
              refine lv_iinc (v := nI (i + 1)) (lv' := [(3, .int (nI (i + 1))), (2, .int (oI (i + 1))), (4, .int (nI 1)), (0, .ref k0), (1, .ref w0)]) hx hb dX1_longestStem_64 hl (k := 4) rfl (nI_add i 1) (by decide) rfl (fun ls hl => ?_)
              refine lv_goto (tgt := 4) hx hb dX1_longestStem_67 (by decide) ?_
              exact ih4 (i + 1) (i + 1) ls (by omega) (by omega) (by show _ = (if 9 * KS i ≤ unl (KS i) (KL i) s A ∧ (lso KS KL s A i = 0 ∨ KS (lso KS KL s A i - 1) < KS i) then i + 1 else lso KS KL s A i); rw [← hb0]; first | rw [if_pos (by omega)] | rw [if_neg (by omega)]) (lv_sub hl [3, 4, 1, 0] rfl)
  exact loop4 _ 0 0 ls (Nat.lt_succ_self _) (Nat.zero_le _) rfl (lv_sub hl [2, 3, 1, 0] rfl)
set_option maxHeartbeats 4000000 in
set_option maxRecDepth 100000 in
theorem c_X1_mostShared (l : Launch) (D : va_G) (cI cJ cZ : ClassId) (k0 kl ks kw : Nat) (KL KS KW : Nat → Nat) (n : Nat) (hn : n ≤ 24) (w0 A s : Nat) (hw0 : Wf s A) (hk : ∀ k, k < n → Wf (KS k) (KL k)) : RO l yX1_mostShared cX1_mostShared 6 (some .int) (rmN 3 72) D (ty3 cI cJ cZ) [.ref k0, .ref w0] [(k0, .inr (1, [.ref kl, .ref ks, .ref kw, .int (nI n)])), (kl, .inl (cJ, 24, .inr (.inl (lF KL)))), (ks, .inl (cI, 24, .inl (nF KS))), (kw, .inl (cI, 24, .inl (nF KW))), (w0, .inr (4, [.long (lN A), .int (nI s)]))] (.int (oI (mso KS KL s A n))) := by
  have hs8 := hw0.1
  have hA64 := hw0.2.1
  refine ro_start (by decide) (Nat.le_of_ble_eq_true rfl) ?_
  intro pp ee ss mm below meth cd C0 hP hK ls hl
  obtain ⟨hx, hb, hr, hml, hown, hts, hlk⟩ := C0
  have hown : ss.vm.findClass RX1 = some mm.cls := hown
  have hl : lv_has ls 6 [(0, .ref k0), (1, .ref w0)] := hl
  have hP : va_P D vwCl [(k0, .inr (1, [.ref kl, .ref ks, .ref kw, .int (nI n)])), (kl, .inl (cJ, 24, .inr (.inl (lF KL)))), (ks, .inl (cI, 24, .inl (nF KS))), (kw, .inl (cI, 24, .inl (nF KW))), (w0, .inr (4, [.long (lN A), .int (nI s)]))] ss.heap := hP
  refine lv_iconst (v := oI 0) hx hb dX1_mostShared_0 (by decide +kernel) ?_
  refine lv_istore_n (lv' := [(2, .int (oI 0)), (0, .ref k0), (1, .ref w0)]) hx hb dX1_mostShared_1 rfl hl (by decide) rfl (fun ls hl => ?_)
  refine lv_iconst (v := oI 0) hx hb dX1_mostShared_2 (by decide +kernel) ?_
  refine lv_istore_n (lv' := [(3, .int (oI 0)), (2, .int (oI 0)), (0, .ref k0), (1, .ref w0)]) hx hb dX1_mostShared_3 rfl hl (by decide) rfl (fun ls hl => ?_)
  refine lv_iconst (v := nI 0) hx hb dX1_mostShared_4 (by decide +kernel) ?_
  refine lv_istore (lv' := [(4, .int (nI 0)), (3, .int (oI 0)), (2, .int (oI 0)), (0, .ref k0), (1, .ref w0)]) hx hb dX1_mostShared_5 hl (by decide) rfl (fun ls hl => ?_)
  have loop7 : ∀ (d : Nat) (i : Nat) (b : Nat) (q : Nat) (ls : Array Slot), n - i < d → (i ≤ n) → (b = mso KS KL s A i) → (q = if b = 0 then 0 else unl (KS (b - 1)) (KL (b - 1)) s A + 1) → lv_has ls 6 [(0, .ref k0), (1, .ref w0), (2, .int (oI b)), (3, .int (oI q)), (4, .int (nI i))] → W pp l ee (rmN 3 72) ss mm [.ref k0, .ref w0].toArray below meth cd ss.heap [] 0 0 (MQ below (QR (.int (oI (mso KS KL s A n)))) [.ref k0, .ref w0].toArray ss 0 0 (fun _ => False)) (F0 mm 7 ls []) := by
    intro d
    induction d with
    | zero => intro i b q ls h; exact absurd h (Nat.not_lt_zero _)
    | succ d ih7 =>
      intro i b q ls hd7 hi hb0 hq hl
      have hb1 := mso_le KS KL s A i
      have hq2 : q ≤ 73 := by rw [hq]; split; omega; have := unl_le (KS (b - 1)) (KL (b - 1)) s A; omega
      refine lv_iload hx hb dX1_mostShared_7 (lv_at hl 4 rfl) ?_
      refine lv_aload_n hx hb dX1_mostShared_9 rfl (lv_at hl 0 rfl) ?_
      refine va_get (D := D) (ci := 1) (v := .int (nI n)) (C := RX1) (T := TX1) (N := 4) hx hb hts inX1 hown hK hP 0 rfl rfl 3 (by decide) (hts _ mf_X1_22) (fun _ h9 => h9) rfl dX1_mostShared_10 ?_
      refine n_ge (tgt := 43) hx hb dX1_mostShared_13 (by decide) (by omega) (by omega) (fun c1 => ?_) (fun c1 => ?_)
      ·
        refine lv_iload_n hx hb dX1_mostShared_43 rfl (lv_at hl 2 rfl) ?_
        exact ro_iret hx hb hr hlk dX1_mostShared_44 (by rw [hb0, show i = n by omega])
      ·
        have hu := unl_le (KS i) (KL i) s A
        refine lv_aload_n hx hb dX1_mostShared_16 rfl (lv_at hl 0 rfl) ?_
        refine lv_iload hx hb dX1_mostShared_17 (lv_at hl 4 rfl) ?_
        refine lv_aload_n hx hb dX1_mostShared_19 rfl (lv_at hl 1 rfl) ?_
        refine ro_V (As := [.int (nI i), .ref w0]) (rest := []) ⟨hx, hb, hml, hown, hts⟩ (c_X1_sharedWith l D cI cJ cZ k0 kl ks kw KL KS KW n (by omega) w0 A s hw0 i (by omega) (hk _ (by omega))) (k_X1_39 hts ⟨Nat.le_of_ble_eq_true rfl, Nat.le_of_ble_eq_true rfl⟩) hK hP 0 rfl rfl rfl [0, 1, 2, 3, 4] rfl rfl hl.1 rfl (Nat.le_of_ble_eq_true rfl) dX1_mostShared_20 ⟨Nat.le_of_ble_eq_true rfl, Nat.le_of_ble_eq_true rfl⟩ ?_
        refine lv_istore (lv' := [(5, .int (nI (unl (KS i) (KL i) s A))), (0, .ref k0), (1, .ref w0), (2, .int (oI b)), (3, .int (oI q)), (4, .int (nI i))]) hx hb dX1_mostShared_23 hl (by decide) rfl (fun ls hl => ?_)
        refine lv_iload hx hb dX1_mostShared_25 (lv_at hl 0 rfl) ?_
        refine lv_iload_n hx hb dX1_mostShared_27 rfl (lv_at hl 4 rfl) ?_
        refine no_le (tgt := 37) hx hb dX1_mostShared_28 (by decide) (by omega) (by omega) (fun c2 => ?_) (fun c2 => ?_)
        ·
          have e1 : ¬ (b = 0 ∨ unl (KS (b - 1)) (KL (b - 1)) s A < unl (KS i) (KL i) s A) := by rw [hq] at c2; split at c2 <;> omega
          refine lv_iinc (v := nI (i + 1)) (lv' := [(4, .int (nI (i + 1))), (5, .int (nI (unl (KS i) (KL i) s A))), (0, .ref k0), (1, .ref w0), (2, .int (oI b)), (3, .int (oI q))]) hx hb dX1_mostShared_37 hl (k := 5) rfl (nI_add i 1) (by decide) rfl (fun ls hl => ?_)
          refine lv_goto (tgt := 7) hx hb dX1_mostShared_40 (by decide) ?_
          exact ih7 (i + 1) b q ls (by omega) (by omega) (by show _ = (if mso KS KL s A i = 0 ∨ unl (KS (mso KS KL s A i - 1)) (KL (mso KS KL s A i - 1)) s A < unl (KS i) (KL i) s A then i + 1 else mso KS KL s A i); rw [← hb0]; first | rw [if_pos (by omega)] | rw [if_neg (by omega)]) (by first | exact hq | simp) (lv_sub hl [2, 3, 4, 5, 0] rfl)
        ·
          have e1 : b = 0 ∨ unl (KS (b - 1)) (KL (b - 1)) s A < unl (KS i) (KL i) s A := by rw [hq] at c2; split at c2 <;> omega
          refine lv_iload hx hb dX1_mostShared_31 (lv_at hl 5 rfl) ?_
          refine tq (y := oI (i + 1)) (oI_s _).symm ?_
          refine lv_istore_n (lv' := [(2, .int (oI (i + 1))), (5, .int (nI (unl (KS i) (KL i) s A))), (0, .ref k0), (1, .ref w0), (3, .int (oI q)), (4, .int (nI i))]) hx hb dX1_mostShared_33 rfl hl (by decide) rfl (fun ls hl => ?_)
          refine lv_iload hx hb dX1_mostShared_34 (lv_at hl 1 rfl) ?_
          refine tq (y := oI ((unl (KS i) (KL i) s A) + 1)) (oI_s _).symm ?_
          refine lv_istore_n (lv' := [(3, .int (oI ((unl (KS i) (KL i) s A) + 1))), (2, .int (oI (i + 1))), (5, .int (nI (unl (KS i) (KL i) s A))), (0, .ref k0), (1, .ref w0), (4, .int (nI i))]) hx hb dX1_mostShared_36 rfl hl (by decide) rfl (fun ls hl => ?_)
          refine lv_iinc (v := nI (i + 1)) (lv' := [(4, .int (nI (i + 1))), (3, .int (oI ((unl (KS i) (KL i) s A) + 1))), (2, .int (oI (i + 1))), (5, .int (nI (unl (KS i) (KL i) s A))), (0, .ref k0), (1, .ref w0)]) hx hb dX1_mostShared_37 hl (k := 5) rfl (nI_add i 1) (by decide) rfl (fun ls hl => ?_)
          refine lv_goto (tgt := 7) hx hb dX1_mostShared_40 (by decide) ?_
          exact ih7 (i + 1) (i + 1) ((unl (KS i) (KL i) s A) + 1) ls (by omega) (by omega) (by show _ = (if mso KS KL s A i = 0 ∨ unl (KS (mso KS KL s A i - 1)) (KL (mso KS KL s A i - 1)) s A < unl (KS i) (KL i) s A then i + 1 else mso KS KL s A i); rw [← hb0]; first | rw [if_pos (by omega)] | rw [if_neg (by omega)]) (by first | exact hq | simp) (lv_sub hl [4, 5, 2, 1, 0] rfl)
  exact loop7 _ 0 0 0 ls (Nat.lt_succ_self _) (Nat.zero_le _) rfl rfl (lv_sub hl [3, 4, 2, 1, 0] rfl)
