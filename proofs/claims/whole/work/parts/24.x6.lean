/-! ===== the reference: its readers ===== -/
set_option maxHeartbeats 4000000 in
set_option maxRecDepth 100000 in
theorem c_X6_in (l : Launch) (D : va_G) (cI cJ cZ : ClassId) (v a b : Nat) (hv : v < 2 ^ 31) (ha : a < 2 ^ 31) (hb0 : b < 2 ^ 31) : RO l yX6_in cX6_in 3 (some .boolean) (rmN 0 0) D (ty3 cI cJ cZ) [.int (nI v), .int (nI a), .int (nI b)] [] (.int (if a ≤ v ∧ v ≤ b then 1 else 0)) := by
  refine ro_start (by decide) (Nat.le_of_ble_eq_true rfl) ?_
  intro pp ee ss mm below meth cd C0 hP hK ls hl
  obtain ⟨hx, hb, hr, hml, hown, hts, hlk⟩ := C0
  have hown : ss.vm.findClass RX6 = some mm.cls := hown
  have hl : lv_has ls 3 [(0, .int (nI v)), (1, .int (nI a)), (2, .int (nI b))] := hl
  have hP : va_P D vwCl [] ss.heap := hP
  refine lv_iload_n hx hb dX6_in_0 rfl (lv_at hl 0 rfl) ?_
  refine lv_iload_n hx hb dX6_in_1 rfl (lv_at hl 1 rfl) ?_
  refine n_lt (tgt := 14) hx hb dX6_in_2 (by decide) (by omega) (by omega) (fun c1 => ?_) (fun c1 => ?_)
  ·
    refine lv_iconst (v := nI 0) hx hb dX6_in_14 (by decide +kernel) ?_
    exact ro_zret hx hb hr hlk dX6_in_15 nar_b0 (by rw [if_neg (by omega), nI_0])
  ·
    refine lv_iload_n hx hb dX6_in_5 rfl (lv_at hl 0 rfl) ?_
    refine lv_iload_n hx hb dX6_in_6 rfl (lv_at hl 2 rfl) ?_
    refine n_gt (tgt := 14) hx hb dX6_in_7 (by decide) (by omega) (by omega) (fun c2 => ?_) (fun c2 => ?_)
    ·
      refine lv_iconst (v := nI 0) hx hb dX6_in_14 (by decide +kernel) ?_
      exact ro_zret hx hb hr hlk dX6_in_15 nar_b0 (by rw [if_neg (by omega), nI_0])
    ·
      refine lv_iconst (v := nI 1) hx hb dX6_in_10 (by decide +kernel) ?_
      refine lv_goto (tgt := 15) hx hb dX6_in_11 (by decide) ?_
      exact ro_zret hx hb hr hlk dX6_in_15 nar_b1 (by rw [if_pos (by omega), nI_one])
theorem no_gt_c {v b : Nat} (hv : v < 2 ^ 31) (hb : b < 2 ^ 31) : oI b < nI v ↔ b ≤ v := by
  rw [Int32.lt_iff_toInt_lt, nI_toInt hv, oI_toInt hb]; omega
set_option maxHeartbeats 4000000 in
set_option maxRecDepth 100000 in
theorem c_X6_in_o (l : Launch) (D : va_G) (cI cJ cZ : ClassId) (v a b : Nat) (hv : v < 2 ^ 31) (ha : a < 2 ^ 31) (hb0 : b < 2 ^ 31) : RO l yX6_in cX6_in 3 (some .boolean) (rmN 0 0) D (ty3 cI cJ cZ) [.int (nI v), .int (nI a), .int (oI b)] [] (.int (if a ≤ v ∧ v < b then 1 else 0)) := by
  refine ro_start (by decide) (Nat.le_of_ble_eq_true rfl) ?_
  intro pp ee ss mm below meth cd C0 hP hK ls hl
  obtain ⟨hx, hb, hr, hml, hown, hts, hlk⟩ := C0
  have hown : ss.vm.findClass RX6 = some mm.cls := hown
  have hl : lv_has ls 3 [(0, .int (nI v)), (1, .int (nI a)), (2, .int (oI b))] := hl
  have hP : va_P D vwCl [] ss.heap := hP
  refine lv_iload_n hx hb dX6_in_0 rfl (lv_at hl 0 rfl) ?_
  refine lv_iload_n hx hb dX6_in_1 rfl (lv_at hl 1 rfl) ?_
  refine n_lt (tgt := 14) hx hb dX6_in_2 (by decide) (by omega) (by omega) (fun c1 => ?_) (fun c1 => ?_)
  ·
    refine lv_iconst (v := nI 0) hx hb dX6_in_14 (by decide +kernel) ?_
    exact ro_zret hx hb hr hlk dX6_in_15 nar_b0 (by rw [if_neg (by omega), nI_0])
  ·
    refine lv_iload_n hx hb dX6_in_5 rfl (lv_at hl 0 rfl) ?_
    refine lv_iload_n hx hb dX6_in_6 rfl (lv_at hl 2 rfl) ?_
    refine lv_icmp_gt (tgt := 14) hx hb dX6_in_7 (by decide) (fun c2 => ?_) (fun c2 => ?_)
    ·
      rw [no_gt_c hv hb0] at c2
      refine lv_iconst (v := nI 0) hx hb dX6_in_14 (by decide +kernel) ?_
      exact ro_zret hx hb hr hlk dX6_in_15 nar_b0 (by rw [if_neg (by omega), nI_0])
    ·
      rw [no_gt_c hv hb0] at c2
      refine lv_iconst (v := nI 1) hx hb dX6_in_10 (by decide +kernel) ?_
      refine lv_goto (tgt := 15) hx hb dX6_in_11 (by decide) ?_
      exact ro_zret hx hb hr hlk dX6_in_15 nar_b1 (by rw [if_pos (by omega), nI_one])
theorem neg_ltn {x : Int32} {a : Nat} (h : x < 0) (ha : a < 2 ^ 31) : x < nI a := by
  rw [Int32.lt_iff_toInt_lt] at h ⊢
  rw [nI_toInt ha]
  have h0 : (0 : Int32).toInt = 0 := by decide +kernel
  omega
set_option maxHeartbeats 4000000 in
set_option maxRecDepth 100000 in
theorem c_X6_in_neg (l : Launch) (D : va_G) (cI cJ cZ : ClassId) (x y : Int32) (a : Nat) (hx0 : x < 0) (ha : a < 2 ^ 31) : RO l yX6_in cX6_in 3 (some .boolean) (rmN 0 0) D (ty3 cI cJ cZ) [.int x, .int (nI a), .int y] [] (.int (nI 0)) := by
  refine ro_start (by decide) (Nat.le_of_ble_eq_true rfl) ?_
  intro pp ee ss mm below meth cd C0 hP hK ls hl
  obtain ⟨hx, hb, hr, hml, hown, hts, hlk⟩ := C0
  have hown : ss.vm.findClass RX6 = some mm.cls := hown
  have hl : lv_has ls 3 [(0, .int x), (1, .int (nI a)), (2, .int y)] := hl
  have hP : va_P D vwCl [] ss.heap := hP
  refine lv_iload_n hx hb dX6_in_0 rfl (lv_at hl 0 rfl) ?_
  refine lv_iload_n hx hb dX6_in_1 rfl (lv_at hl 1 rfl) ?_
  refine lv_icmp_lt (tgt := 14) hx hb dX6_in_2 (by decide) (fun c1 => ?_) (fun c1 => ?_)
  ·
    refine lv_iconst (v := nI 0) hx hb dX6_in_14 (by decide +kernel) ?_
    exact ro_zret hx hb hr hlk dX6_in_15 nar_b0 (rfl)
  ·
    exact absurd (neg_ltn hx0 ha) c1
set_option maxHeartbeats 4000000 in
set_option maxRecDepth 100000 in
theorem c_X6_more (l : Launch) (D : va_G) (cI cJ cZ : ClassId) (a b : Nat) (ha : a < 2 ^ 31) (hb0 : b < 2 ^ 31) : RO l yX6_more cX6_more 2 (some .int) (rmN 0 0) D (ty3 cI cJ cZ) [.int (nI a), .int (nI b)] [] (.int (nI (max a b))) := by
  refine ro_start (by decide) (Nat.le_of_ble_eq_true rfl) ?_
  intro pp ee ss mm below meth cd C0 hP hK ls hl
  obtain ⟨hx, hb, hr, hml, hown, hts, hlk⟩ := C0
  have hown : ss.vm.findClass RX6 = some mm.cls := hown
  have hl : lv_has ls 2 [(0, .int (nI a)), (1, .int (nI b))] := hl
  have hP : va_P D vwCl [] ss.heap := hP
  refine lv_iload_n hx hb dX6_more_0 rfl (lv_at hl 0 rfl) ?_
  refine lv_iload_n hx hb dX6_more_1 rfl (lv_at hl 1 rfl) ?_
  refine n_le (tgt := 9) hx hb dX6_more_2 (by decide) (by omega) (by omega) (fun c1 => ?_) (fun c1 => ?_)
  ·
    refine lv_iload_n hx hb dX6_more_9 rfl (lv_at hl 1 rfl) ?_
    exact ro_iret hx hb hr hlk dX6_more_10 (by rw [Nat.max_eq_right (by omega)])
  ·
    refine lv_iload_n hx hb dX6_more_5 rfl (lv_at hl 0 rfl) ?_
    refine lv_goto (tgt := 10) hx hb dX6_more_6 (by decide) ?_
    exact ro_iret hx hb hr hlk dX6_more_10 (by rw [Nat.max_eq_left (by omega)])
theorem on_le_c {a b : Nat} (ha : a < 2 ^ 31) (hb : b + 1 < 2 ^ 31) : oI a ≤ nI b ↔ a ≤ b + 1 := by
  rw [Int32.le_iff_toInt_le, nI_toInt (by omega), oI_toInt ha]; omega
set_option maxHeartbeats 4000000 in
set_option maxRecDepth 100000 in
theorem c_X6_more_o (l : Launch) (D : va_G) (cI cJ cZ : ClassId) (a b : Nat) (ha : a < 2 ^ 31) (hb0 : b + 1 < 2 ^ 31) : RO l yX6_more cX6_more 2 (some .int) (rmN 0 0) D (ty3 cI cJ cZ) [.int (oI a), .int (nI b)] [] (.int (oI (max a (b + 1)))) := by
  refine ro_start (by decide) (Nat.le_of_ble_eq_true rfl) ?_
  intro pp ee ss mm below meth cd C0 hP hK ls hl
  obtain ⟨hx, hb, hr, hml, hown, hts, hlk⟩ := C0
  have hown : ss.vm.findClass RX6 = some mm.cls := hown
  have hl : lv_has ls 2 [(0, .int (oI a)), (1, .int (nI b))] := hl
  have hP : va_P D vwCl [] ss.heap := hP
  refine lv_iload_n hx hb dX6_more_0 rfl (lv_at hl 0 rfl) ?_
  refine lv_iload_n hx hb dX6_more_1 rfl (lv_at hl 1 rfl) ?_
  refine lv_icmp_le (tgt := 9) hx hb dX6_more_2 (by decide) (fun c1 => ?_) (fun c1 => ?_)
  ·
    rw [on_le_c ha hb0] at c1
    refine lv_iload_n hx hb dX6_more_9 rfl (lv_at hl 1 rfl) ?_
    exact ro_iret hx hb hr hlk dX6_more_10 (by rw [Nat.max_eq_right (by omega), oI_s])
  ·
    rw [on_le_c ha hb0] at c1
    refine lv_iload_n hx hb dX6_more_5 rfl (lv_at hl 0 rfl) ?_
    refine lv_goto (tgt := 10) hx hb dX6_more_6 (by decide) ?_
    exact ro_iret hx hb hr hlk dX6_more_10 (by rw [Nat.max_eq_left (by omega)])
theorem cp_0 (F G : Nat → Nat) (i j x : Nat) : va_cpy F G i j 0 x = G x := by unfold va_cpy; rw [if_neg (by omega)]
theorem cp_step {E F G : Nat → Nat} {i j k : Nat} (h : ∀ x, E x = va_cpy F G i j k x) : ∀ x, up E (j + k) (F (i + k)) x = va_cpy F G i j (k + 1) x := by
  intro x
  unfold up va_cpy
  by_cases e : x = j + k
  · rw [if_pos e, if_pos (by omega), show i + (x - j) = i + k by omega]
  · rw [if_neg e, h]
    unfold va_cpy
    by_cases g : j ≤ x ∧ x < j + k
    · rw [if_pos g, if_pos (by omega)]
    · rw [if_neg g, if_neg (by omega)]
theorem cp_step1 {E F : Nat → Nat} {i j k n : Nat} (hd : i + n ≤ j ∨ j + n ≤ i) (hk : k < n) (h : ∀ x, E x = va_cpy F F i j k x) : ∀ x, up E (j + k) (E (i + k)) x = va_cpy F F i j (k + 1) x := by
  have e : E (i + k) = F (i + k) := by
    rw [h]; unfold va_cpy; rw [if_neg (by omega)]
  rw [e]
  exact cp_step h
set_option maxHeartbeats 4000000 in
set_option maxRecDepth 100000 in
theorem c_X6_copies (l : Launch) (D : va_G) (cI cJ cZ : ClassId) (fr to N M i j n : Nat) (F G : Nat → Nat) (hN : N < 2 ^ 20) (hM : M < 2 ^ 20) (h1 : i + n ≤ N) (h2 : j + n ≤ M) (sz : Nat) : WR l yX6_copies cX6_copies 6 none (rmN 0 0) D (ty3 cI cJ cZ) [.ref fr, .int (nI i), .ref to, .int (nI j), .int (nI n)] [(fr, .inl (cI, N, .inl (nF F))), (to, .inl (cI, M, .inl (nF G)))] sz (fun x w => x = none ∧ w = [(fr, .inl (cI, N, .inl (nF F))), (to, .inl (cI, M, .inl (nF (va_cpy F G i j n))))]) := by
  refine wr_start (by decide) (Nat.le_of_ble_eq_true rfl) ?_
  intro pp ee ss mm below meth cd AA C0 hAA hP hK hD hS hN hnm ls hl
  obtain ⟨hx, hb, hr, hml, hown, hts, hlk⟩ := C0
  have hown : ss.vm.findClass RX6 = some mm.cls := hown
  have hl : lv_has ls 6 [(0, .ref fr), (1, .int (nI i)), (2, .ref to), (3, .int (nI j)), (4, .int (nI n))] := hl
  have hP : va_P D vwCl [(fr, .inl (cI, N, .inl (nF F))), (to, .inl (cI, M, .inl (nF G)))] ss.heap := hP
  refine lv_iconst (v := nI 0) hx hb dX6_copies_0 (by decide +kernel) ?_
  refine lv_istore (lv' := [(5, .int (nI 0)), (0, .ref fr), (1, .int (nI i)), (2, .ref to), (3, .int (nI j)), (4, .int (nI n))]) hx hb dX6_copies_1 hl (by decide) rfl (fun ls hl => ?_)
  have loop3 : ∀ (d : Nat) (k : Nat) (E : Nat → Nat) (H : Heap) (locs : List Loc) (ls : Array Slot), n - k < d → (k ≤ n) → (∀ x, E x = va_cpy F G i j k x) → va_P D vwCl [(fr, .inl (cI, N, .inl (nF F))), (to, .inl (cI, M, .inl (nF E)))] H → va_D AA [(fr, .inl (cI, N, .inl (nF F))), (to, .inl (cI, M, .inl (nF E)))] → va_S AA ss.heap H locs → lv_has ls 6 [(0, .ref fr), (1, .int (nI i)), (2, .ref to), (3, .int (nI j)), (4, .int (nI n)), (5, .int (nI k))] → W pp l ee (rmN 0 0) ss mm [.ref fr, .int (nI i), .ref to, .int (nI j), .int (nI n)].toArray below meth cd H locs 0 0 (MQ below (QW D AA (fun x w => x = none ∧ w = [(fr, .inl (cI, N, .inl (nF F))), (to, .inl (cI, M, .inl (nF (va_cpy F G i j n))))])) [.ref fr, .int (nI i), .ref to, .int (nI j), .int (nI n)].toArray ss 0 0 AA) (F0 mm 3 ls []) := by
    intro d
    induction d with
    | zero => intro k E H locs ls h; exact absurd h (Nat.not_lt_zero _)
    | succ d ih3 =>
      intro k E H locs ls hd3 hk hE hP hD hS hl
      refine lv_iload hx hb dX6_copies_3 (lv_at hl 5 rfl) ?_
      refine lv_iload hx hb dX6_copies_5 (lv_at hl 4 rfl) ?_
      refine n_ge (tgt := 28) hx hb dX6_copies_7 (by decide) (by omega) (by omega) (fun c1 => ?_) (fun c1 => ?_)
      ·
        exact wr_vret hx hb hr hlk hP hD hS dX6_copies_28 (⟨rfl, by rw [show E = va_cpy F G i j n from funext (fun x => by rw [hE, show k = n by omega])]⟩)
      ·
        refine lv_aload_n hx hb dX6_copies_10 rfl (lv_at hl 2 rfl) ?_
        refine lv_iload_n hx hb dX6_copies_11 rfl (lv_at hl 3 rfl) ?_
        refine lv_iload hx hb dX6_copies_12 (lv_at hl 5 rfl) ?_
        refine n_iadd hx hb dX6_copies_14 ?_
        refine lv_aload_n hx hb dX6_copies_15 rfl (lv_at hl 0 rfl) ?_
        refine lv_iload_n hx hb dX6_copies_16 rfl (lv_at hl 1 rfl) ?_
        refine lv_iload hx hb dX6_copies_17 (lv_at hl 5 rfl) ?_
        refine n_iadd hx hb dX6_copies_19 ?_
        refine n_iald hx hb hK hP 0 0 rfl rfl (k := (i + k)) (by omega) (by omega) dX6_copies_20 ?_
        refine n_iast hx hb hK hP hD hS 1 0 rfl rfl (k := (j + k)) (v := (F (i + k))) (by omega) (by omega) dX6_copies_21 (fun H locs hP hD hS => ?_)
        have hP : va_P D vwCl [(fr, .inl (cI, N, .inl (nF F))), (to, .inl (cI, M, .inl (nF (up E (j + k) (F (i + k))))))] H := hP
        have hD : va_D AA [(fr, .inl (cI, N, .inl (nF F))), (to, .inl (cI, M, .inl (nF (up E (j + k) (F (i + k))))))] := hD
        refine lv_iinc (v := nI (k + 1)) (lv' := [(5, .int (nI (k + 1))), (0, .ref fr), (1, .int (nI i)), (2, .ref to), (3, .int (nI j)), (4, .int (nI n))]) hx hb dX6_copies_22 hl (k := 5) rfl (nI_add k 1) (by decide) rfl (fun ls hl => ?_)
        refine lv_goto (tgt := 3) hx hb dX6_copies_25 (by decide) ?_
        exact ih3 (k + 1) (up E (j + k) (F (i + k))) _ _ ls (by omega) (by omega) (cp_step hE) hP hD hS (lv_sub hl [1, 2, 3, 4, 5, 0] rfl)
  exact loop3 _ 0 G _ _ ls (Nat.lt_succ_self _) (Nat.zero_le _) (fun x => (cp_0 F G i j x).symm) hP hD hS (lv_sub hl [1, 2, 3, 4, 5, 0] rfl)
set_option maxHeartbeats 4000000 in
set_option maxRecDepth 100000 in
theorem c_X6_copies_1 (l : Launch) (D : va_G) (cI cJ cZ : ClassId) (fr N i j n : Nat) (F : Nat → Nat) (hN : N < 2 ^ 20) (h1 : i + n ≤ N) (h2 : j + n ≤ N) (hd : i + n ≤ j ∨ j + n ≤ i) (sz : Nat) : WR l yX6_copies cX6_copies 6 none (rmN 0 0) D (ty3 cI cJ cZ) [.ref fr, .int (nI i), .ref fr, .int (nI j), .int (nI n)] [(fr, .inl (cI, N, .inl (nF F)))] sz (fun x w => x = none ∧ w = [(fr, .inl (cI, N, .inl (nF (va_cpy F F i j n))))]) := by
  refine wr_start (by decide) (Nat.le_of_ble_eq_true rfl) ?_
  intro pp ee ss mm below meth cd AA C0 hAA hP hK hD hS hN hnm ls hl
  obtain ⟨hx, hb, hr, hml, hown, hts, hlk⟩ := C0
  have hown : ss.vm.findClass RX6 = some mm.cls := hown
  have hl : lv_has ls 6 [(0, .ref fr), (1, .int (nI i)), (2, .ref fr), (3, .int (nI j)), (4, .int (nI n))] := hl
  have hP : va_P D vwCl [(fr, .inl (cI, N, .inl (nF F)))] ss.heap := hP
  refine lv_iconst (v := nI 0) hx hb dX6_copies_0 (by decide +kernel) ?_
  refine lv_istore (lv' := [(5, .int (nI 0)), (0, .ref fr), (1, .int (nI i)), (2, .ref fr), (3, .int (nI j)), (4, .int (nI n))]) hx hb dX6_copies_1 hl (by decide) rfl (fun ls hl => ?_)
  have loop3 : ∀ (d : Nat) (k : Nat) (E : Nat → Nat) (H : Heap) (locs : List Loc) (ls : Array Slot), n - k < d → (k ≤ n) → (∀ x, E x = va_cpy F F i j k x) → va_P D vwCl [(fr, .inl (cI, N, .inl (nF E)))] H → va_D AA [(fr, .inl (cI, N, .inl (nF E)))] → va_S AA ss.heap H locs → lv_has ls 6 [(0, .ref fr), (1, .int (nI i)), (2, .ref fr), (3, .int (nI j)), (4, .int (nI n)), (5, .int (nI k))] → W pp l ee (rmN 0 0) ss mm [.ref fr, .int (nI i), .ref fr, .int (nI j), .int (nI n)].toArray below meth cd H locs 0 0 (MQ below (QW D AA (fun x w => x = none ∧ w = [(fr, .inl (cI, N, .inl (nF (va_cpy F F i j n))))])) [.ref fr, .int (nI i), .ref fr, .int (nI j), .int (nI n)].toArray ss 0 0 AA) (F0 mm 3 ls []) := by
    intro d
    induction d with
    | zero => intro k E H locs ls h; exact absurd h (Nat.not_lt_zero _)
    | succ d ih3 =>
      intro k E H locs ls hd3 hk hE hP hD hS hl
      refine lv_iload hx hb dX6_copies_3 (lv_at hl 5 rfl) ?_
      refine lv_iload hx hb dX6_copies_5 (lv_at hl 4 rfl) ?_
      refine n_ge (tgt := 28) hx hb dX6_copies_7 (by decide) (by omega) (by omega) (fun c1 => ?_) (fun c1 => ?_)
      ·
        exact wr_vret hx hb hr hlk hP hD hS dX6_copies_28 (⟨rfl, by rw [show E = va_cpy F F i j n from funext (fun x => by rw [hE, show k = n by omega])]⟩)
      ·
        refine lv_aload_n hx hb dX6_copies_10 rfl (lv_at hl 2 rfl) ?_
        refine lv_iload_n hx hb dX6_copies_11 rfl (lv_at hl 3 rfl) ?_
        refine lv_iload hx hb dX6_copies_12 (lv_at hl 5 rfl) ?_
        refine n_iadd hx hb dX6_copies_14 ?_
        refine lv_aload_n hx hb dX6_copies_15 rfl (lv_at hl 0 rfl) ?_
        refine lv_iload_n hx hb dX6_copies_16 rfl (lv_at hl 1 rfl) ?_
        refine lv_iload hx hb dX6_copies_17 (lv_at hl 5 rfl) ?_
        refine n_iadd hx hb dX6_copies_19 ?_
        refine n_iald hx hb hK hP 0 0 rfl rfl (k := (i + k)) (by omega) (by omega) dX6_copies_20 ?_
        refine n_iast hx hb hK hP hD hS 0 0 rfl rfl (k := (j + k)) (v := (E (i + k))) (by omega) (by omega) dX6_copies_21 (fun H locs hP hD hS => ?_)
        have hP : va_P D vwCl [(fr, .inl (cI, N, .inl (nF (up E (j + k) (E (i + k))))))] H := hP
        have hD : va_D AA [(fr, .inl (cI, N, .inl (nF (up E (j + k) (E (i + k))))))] := hD
        refine lv_iinc (v := nI (k + 1)) (lv' := [(5, .int (nI (k + 1))), (0, .ref fr), (1, .int (nI i)), (2, .ref fr), (3, .int (nI j)), (4, .int (nI n))]) hx hb dX6_copies_22 hl (k := 5) rfl (nI_add k 1) (by decide) rfl (fun ls hl => ?_)
        refine lv_goto (tgt := 3) hx hb dX6_copies_25 (by decide) ?_
        exact ih3 (k + 1) (up E (j + k) (E (i + k))) _ _ ls (by omega) (by omega) (cp_step1 hd (by omega) hE) hP hD hS (lv_sub hl [1, 2, 3, 4, 5, 0] rfl)
  exact loop3 _ 0 F _ _ ls (Nat.lt_succ_self _) (Nat.zero_le _) (fun x => (cp_0 F F i j x).symm) hP hD hS (lv_sub hl [1, 2, 3, 4, 5, 0] rfl)
set_option maxHeartbeats 4000000 in
set_option maxRecDepth 100000 in
theorem c_X6_sizeOf (l : Launch) (D : va_G) (cI cJ cZ : ClassId) (m0 nw ps im mk wd so mb ma mf mw ml mu wt ty : Nat) (NW : Nat → Nat) (PS : Nat → Nat) (u : Nat) (IM : Nat → Nat) (MK : Nat → Nat) (sd : Nat) (WD : Nat → Nat) (s : Nat) (SO : Nat → Nat) (q : Nat) (EB : Nat → Nat) (EA : Nat → Nat) (EF : Nat → Nat) (EW : Nat → Nat) (EL : Nat → Nat) (EU : Nat → Nat) (br : Nat) (WT : Nat → Nat) (ww : Nat) (TY : Nat → Nat) (KS KL KW : Nat → Nat) (n A : Nat) (hn : n ≤ 24) (hk : ∀ k, k < n → Wf (KS k) (KL k)) (hw0 : Wf s A) (hR : RN NW KS KL KW n) (hRW : RW WD s A) (k t B : Nat) (hkw : Hd KS KL n s A k t B) : RO l yX6_sizeOf cX6_sizeOf 2 (some .int) (rmN 0 0) D (ty3 cI cJ cZ) [.ref m0, .int (nI k)] [(m0, .inr (6, [.ref nw, .ref ps, .int (nI u), .ref im, .ref mk, .int (nI sd), .ref wd, .int (nI s), .ref so, .int (nI q), .ref mb, .ref ma, .ref mf, .ref mw, .ref ml, .ref mu, .int (nI br), .ref wt, .int (nI ww), .ref ty])), (nw, .inl (cI, 241, .inl (nF NW))), (ps, .inl (cI, 4820, .inl (nF PS))), (im, .inl (cI, 484, .inl (nF IM))), (mk, .inl (cZ, 2, .inl (nF MK))), (wd, .inl (cI, 8, .inl (nF WD))), (so, .inl (cI, 24, .inl (nF SO))), (mb, .inl (cI, 24, .inl (nF EB))), (ma, .inl (cI, 24, .inl (nF EA))), (mf, .inl (cI, 24, .inl (nF EF))), (mw, .inl (cI, 24, .inl (nF EW))), (ml, .inl (cI, 24, .inl (nF EL))), (mu, .inl (cI, 24, .inl (oF EU))), (wt, .inl (cI, 200, .inl (oF WT))), (ty, .inl (cI, 8, .inl (nF TY)))] (.int (nI t)) := by
  have hs8 := hw0.1
  have hA64 := hw0.2.1
  have hN0 := hR.1
  have hk24 : k ≤ 24 := by rcases hkw with h | h <;> omega
  refine ro_start (by decide) (Nat.le_of_ble_eq_true rfl) ?_
  intro pp ee ss mm below meth cd C0 hP hK ls hl
  obtain ⟨hx, hb, hr, hml, hown, hts, hlk⟩ := C0
  have hown : ss.vm.findClass RX6 = some mm.cls := hown
  have hl : lv_has ls 2 [(0, .ref m0), (1, .int (nI k))] := hl
  have hP : va_P D vwCl [(m0, .inr (6, [.ref nw, .ref ps, .int (nI u), .ref im, .ref mk, .int (nI sd), .ref wd, .int (nI s), .ref so, .int (nI q), .ref mb, .ref ma, .ref mf, .ref mw, .ref ml, .ref mu, .int (nI br), .ref wt, .int (nI ww), .ref ty])), (nw, .inl (cI, 241, .inl (nF NW))), (ps, .inl (cI, 4820, .inl (nF PS))), (im, .inl (cI, 484, .inl (nF IM))), (mk, .inl (cZ, 2, .inl (nF MK))), (wd, .inl (cI, 8, .inl (nF WD))), (so, .inl (cI, 24, .inl (nF SO))), (mb, .inl (cI, 24, .inl (nF EB))), (ma, .inl (cI, 24, .inl (nF EA))), (mf, .inl (cI, 24, .inl (nF EF))), (mw, .inl (cI, 24, .inl (nF EW))), (ml, .inl (cI, 24, .inl (nF EL))), (mu, .inl (cI, 24, .inl (oF EU))), (wt, .inl (cI, 200, .inl (oF WT))), (ty, .inl (cI, 8, .inl (nF TY)))] ss.heap := hP
  refine lv_iload_n hx hb dX6_sizeOf_0 rfl (lv_at hl 1 rfl) ?_
  refine lv_bipush (v := nI 24) hx hb dX6_sizeOf_1 (by decide +kernel) ?_
  refine n_ne (tgt := 13) hx hb dX6_sizeOf_3 (by decide) (by omega) (by omega) (fun c1 => ?_) (fun c1 => ?_)
  ·
    obtain ⟨e1, e2, e3⟩ := hkw.resolve_left (fun h => c1 h.1)
    refine lv_aload_n hx hb dX6_sizeOf_13 rfl (lv_at hl 0 rfl) ?_
    refine va_get (D := D) (ci := 6) (v := .ref nw) (C := RX6) (T := TX6) (N := 20) hx hb hts inX6 hown hK hP 0 rfl rfl 0 (by decide) (hts _ mf_X6_7) (fun _ h9 => h9) rfl dX6_sizeOf_14 ?_
    refine lv_iconst (v := nI 1) hx hb dX6_sizeOf_17 (by decide +kernel) ?_
    refine lv_iload_n hx hb dX6_sizeOf_18 rfl (lv_at hl 1 rfl) ?_
    refine n_iadd hx hb dX6_sizeOf_19 ?_
    refine n_iald hx hb hK hP 1 0 rfl rfl (k := (1 + k)) (by omega) (by decide) dX6_sizeOf_20 ?_
    exact ro_iret hx hb hr hlk dX6_sizeOf_21 (by rw [(hR.2 k e1).1, e2])
  ·
    obtain ⟨e1, e2, e3⟩ := hkw.resolve_right (fun h => by have := h.1; omega)
    refine lv_aload_n hx hb dX6_sizeOf_6 rfl (lv_at hl 0 rfl) ?_
    refine va_get (D := D) (ci := 6) (v := .int (nI s)) (C := RX6) (T := TX6) (N := 20) hx hb hts inX6 hown hK hP 0 rfl rfl 7 (by decide) (hts _ mf_X6_53) (fun _ h9 => h9) rfl dX6_sizeOf_7 ?_
    refine lv_goto (tgt := 21) hx hb dX6_sizeOf_10 (by decide) ?_
    exact ro_iret hx hb hr hlk dX6_sizeOf_21 (by rw [e2])
set_option maxHeartbeats 4000000 in
set_option maxRecDepth 100000 in
theorem c_X6_letterOf (l : Launch) (D : va_G) (cI cJ cZ : ClassId) (m0 nw ps im mk wd so mb ma mf mw ml mu wt ty : Nat) (NW : Nat → Nat) (PS : Nat → Nat) (u : Nat) (IM : Nat → Nat) (MK : Nat → Nat) (sd : Nat) (WD : Nat → Nat) (s : Nat) (SO : Nat → Nat) (q : Nat) (EB : Nat → Nat) (EA : Nat → Nat) (EF : Nat → Nat) (EW : Nat → Nat) (EL : Nat → Nat) (EU : Nat → Nat) (br : Nat) (WT : Nat → Nat) (ww : Nat) (TY : Nat → Nat) (KS KL KW : Nat → Nat) (n A : Nat) (hn : n ≤ 24) (hk : ∀ k, k < n → Wf (KS k) (KL k)) (hw0 : Wf s A) (hR : RN NW KS KL KW n) (hRW : RW WD s A) (k t B : Nat) (hkw : Hd KS KL n s A k t B) (i : Nat) (hi : i < t) : RO l yX6_letterOf cX6_letterOf 3 (some .int) (rmN 0 0) D (ty3 cI cJ cZ) [.ref m0, .int (nI k), .int (nI i)] [(m0, .inr (6, [.ref nw, .ref ps, .int (nI u), .ref im, .ref mk, .int (nI sd), .ref wd, .int (nI s), .ref so, .int (nI q), .ref mb, .ref ma, .ref mf, .ref mw, .ref ml, .ref mu, .int (nI br), .ref wt, .int (nI ww), .ref ty])), (nw, .inl (cI, 241, .inl (nF NW))), (ps, .inl (cI, 4820, .inl (nF PS))), (im, .inl (cI, 484, .inl (nF IM))), (mk, .inl (cZ, 2, .inl (nF MK))), (wd, .inl (cI, 8, .inl (nF WD))), (so, .inl (cI, 24, .inl (nF SO))), (mb, .inl (cI, 24, .inl (nF EB))), (ma, .inl (cI, 24, .inl (nF EA))), (mf, .inl (cI, 24, .inl (nF EF))), (mw, .inl (cI, 24, .inl (nF EW))), (ml, .inl (cI, 24, .inl (nF EL))), (mu, .inl (cI, 24, .inl (oF EU))), (wt, .inl (cI, 200, .inl (oF WT))), (ty, .inl (cI, 8, .inl (nF TY)))] (.int (nI (letr B i))) := by
  have hs8 := hw0.1
  have hA64 := hw0.2.1
  have hN0 := hR.1
  have hk24 : k ≤ 24 := by rcases hkw with h | h <;> omega
  have ht8 := (hd_wf hk hw0 hkw).1
  refine ro_start (by decide) (Nat.le_of_ble_eq_true rfl) ?_
  intro pp ee ss mm below meth cd C0 hP hK ls hl
  obtain ⟨hx, hb, hr, hml, hown, hts, hlk⟩ := C0
  have hown : ss.vm.findClass RX6 = some mm.cls := hown
  have hl : lv_has ls 3 [(0, .ref m0), (1, .int (nI k)), (2, .int (nI i))] := hl
  have hP : va_P D vwCl [(m0, .inr (6, [.ref nw, .ref ps, .int (nI u), .ref im, .ref mk, .int (nI sd), .ref wd, .int (nI s), .ref so, .int (nI q), .ref mb, .ref ma, .ref mf, .ref mw, .ref ml, .ref mu, .int (nI br), .ref wt, .int (nI ww), .ref ty])), (nw, .inl (cI, 241, .inl (nF NW))), (ps, .inl (cI, 4820, .inl (nF PS))), (im, .inl (cI, 484, .inl (nF IM))), (mk, .inl (cZ, 2, .inl (nF MK))), (wd, .inl (cI, 8, .inl (nF WD))), (so, .inl (cI, 24, .inl (nF SO))), (mb, .inl (cI, 24, .inl (nF EB))), (ma, .inl (cI, 24, .inl (nF EA))), (mf, .inl (cI, 24, .inl (nF EF))), (mw, .inl (cI, 24, .inl (nF EW))), (ml, .inl (cI, 24, .inl (nF EL))), (mu, .inl (cI, 24, .inl (oF EU))), (wt, .inl (cI, 200, .inl (oF WT))), (ty, .inl (cI, 8, .inl (nF TY)))] ss.heap := hP
  refine lv_iload_n hx hb dX6_letterOf_0 rfl (lv_at hl 1 rfl) ?_
  refine lv_bipush (v := nI 24) hx hb dX6_letterOf_1 (by decide +kernel) ?_
  refine n_ne (tgt := 15) hx hb dX6_letterOf_3 (by decide) (by omega) (by omega) (fun c1 => ?_) (fun c1 => ?_)
  ·
    obtain ⟨e1, e2, e3⟩ := hkw.resolve_left (fun h => c1 h.1)
    refine lv_aload_n hx hb dX6_letterOf_15 rfl (lv_at hl 0 rfl) ?_
    refine va_get (D := D) (ci := 6) (v := .ref nw) (C := RX6) (T := TX6) (N := 20) hx hb hts inX6 hown hK hP 0 rfl rfl 0 (by decide) (hts _ mf_X6_7) (fun _ h9 => h9) rfl dX6_letterOf_16 ?_
    refine lv_bipush (v := nI 49) hx hb dX6_letterOf_19 (by decide +kernel) ?_
    refine lv_bipush (v := nI 8) hx hb dX6_letterOf_21 (by decide +kernel) ?_
    refine lv_iload_n hx hb dX6_letterOf_23 rfl (lv_at hl 1 rfl) ?_
    refine n_imul hx hb dX6_letterOf_24 ?_
    refine n_iadd hx hb dX6_letterOf_25 ?_
    refine lv_iload_n hx hb dX6_letterOf_26 rfl (lv_at hl 2 rfl) ?_
    refine n_iadd hx hb dX6_letterOf_27 ?_
    refine n_iald hx hb hK hP 1 0 rfl rfl (k := ((49 + (8 * k)) + i)) (by omega) (by decide) dX6_letterOf_28 ?_
    exact ro_iret hx hb hr hlk dX6_letterOf_29 (by rw [(hR.2 k e1).2.2 i (by omega), e3])
  ·
    obtain ⟨e1, e2, e3⟩ := hkw.resolve_right (fun h => by have := h.1; omega)
    refine lv_aload_n hx hb dX6_letterOf_6 rfl (lv_at hl 0 rfl) ?_
    refine va_get (D := D) (ci := 6) (v := .ref wd) (C := RX6) (T := TX6) (N := 20) hx hb hts inX6 hown hK hP 0 rfl rfl 6 (by decide) (hts _ mf_X6_23) (fun _ h9 => h9) rfl dX6_letterOf_7 ?_
    refine lv_iload_n hx hb dX6_letterOf_10 rfl (lv_at hl 2 rfl) ?_
    refine n_iald hx hb hK hP 5 0 rfl rfl (k := i) (by omega) (by decide) dX6_letterOf_11 ?_
    refine lv_goto (tgt := 29) hx hb dX6_letterOf_12 (by decide) ?_
    exact ro_iret hx hb hr hlk dX6_letterOf_29 (by rw [hRW i (by omega), e3])
set_option maxHeartbeats 4000000 in
set_option maxRecDepth 100000 in
theorem c_X6_bitOf (l : Launch) (D : va_G) (cI cJ cZ : ClassId) (m0 nw ps im mk wd so mb ma mf mw ml mu wt ty : Nat) (NW : Nat → Nat) (PS : Nat → Nat) (u : Nat) (IM : Nat → Nat) (MK : Nat → Nat) (sd : Nat) (WD : Nat → Nat) (s : Nat) (SO : Nat → Nat) (q : Nat) (EB : Nat → Nat) (EA : Nat → Nat) (EF : Nat → Nat) (EW : Nat → Nat) (EL : Nat → Nat) (EU : Nat → Nat) (br : Nat) (WT : Nat → Nat) (ww : Nat) (TY : Nat → Nat) (KS KL KW : Nat → Nat) (n A : Nat) (hn : n ≤ 24) (hk : ∀ k, k < n → Wf (KS k) (KL k)) (hw0 : Wf s A) (hR : RN NW KS KL KW n) (hRW : RW WD s A) (k t B : Nat) (hkw : Hd KS KL n s A k t B) (i : Nat) (hi : i < 72) : RO l yX6_bitOf cX6_bitOf 4 (some .int) (rmN 1 22) D (ty3 cI cJ cZ) [.ref m0, .int (nI k), .int (nI i)] [(m0, .inr (6, [.ref nw, .ref ps, .int (nI u), .ref im, .ref mk, .int (nI sd), .ref wd, .int (nI s), .ref so, .int (nI q), .ref mb, .ref ma, .ref mf, .ref mw, .ref ml, .ref mu, .int (nI br), .ref wt, .int (nI ww), .ref ty])), (nw, .inl (cI, 241, .inl (nF NW))), (ps, .inl (cI, 4820, .inl (nF PS))), (im, .inl (cI, 484, .inl (nF IM))), (mk, .inl (cZ, 2, .inl (nF MK))), (wd, .inl (cI, 8, .inl (nF WD))), (so, .inl (cI, 24, .inl (nF SO))), (mb, .inl (cI, 24, .inl (nF EB))), (ma, .inl (cI, 24, .inl (nF EA))), (mf, .inl (cI, 24, .inl (nF EF))), (mw, .inl (cI, 24, .inl (nF EW))), (ml, .inl (cI, 24, .inl (nF EL))), (mu, .inl (cI, 24, .inl (oF EU))), (wt, .inl (cI, 200, .inl (oF WT))), (ty, .inl (cI, 8, .inl (nF TY)))] (.int (nI (bitr t B i))) := by
  have hs8 := hw0.1
  have hA64 := hw0.2.1
  have hN0 := hR.1
  have hwt := hd_wf hk hw0 hkw
  have ht8 := hwt.1
  have hk24 : k ≤ 24 := by rcases hkw with h | h <;> omega
  refine ro_start (by decide) (Nat.le_of_ble_eq_true rfl) ?_
  intro pp ee ss mm below meth cd C0 hP hK ls hl
  obtain ⟨hx, hb, hr, hml, hown, hts, hlk⟩ := C0
  have hown : ss.vm.findClass RX6 = some mm.cls := hown
  have hl : lv_has ls 4 [(0, .ref m0), (1, .int (nI k)), (2, .int (nI i))] := hl
  have hP : va_P D vwCl [(m0, .inr (6, [.ref nw, .ref ps, .int (nI u), .ref im, .ref mk, .int (nI sd), .ref wd, .int (nI s), .ref so, .int (nI q), .ref mb, .ref ma, .ref mf, .ref mw, .ref ml, .ref mu, .int (nI br), .ref wt, .int (nI ww), .ref ty])), (nw, .inl (cI, 241, .inl (nF NW))), (ps, .inl (cI, 4820, .inl (nF PS))), (im, .inl (cI, 484, .inl (nF IM))), (mk, .inl (cZ, 2, .inl (nF MK))), (wd, .inl (cI, 8, .inl (nF WD))), (so, .inl (cI, 24, .inl (nF SO))), (mb, .inl (cI, 24, .inl (nF EB))), (ma, .inl (cI, 24, .inl (nF EA))), (mf, .inl (cI, 24, .inl (nF EF))), (mw, .inl (cI, 24, .inl (nF EW))), (ml, .inl (cI, 24, .inl (nF EL))), (mu, .inl (cI, 24, .inl (oF EU))), (wt, .inl (cI, 200, .inl (oF WT))), (ty, .inl (cI, 8, .inl (nF TY)))] ss.heap := hP
  refine lv_iload_n hx hb dX6_bitOf_0 rfl (lv_at hl 2 rfl) ?_
  refine lv_bipush (v := nI 9) hx hb dX6_bitOf_1 (by decide +kernel) ?_
  refine n_idiv hx hb dX6_bitOf_3 (by omega) (by decide) (by decide) ?_
  refine lv_istore_n (lv' := [(3, .int (nI (i / 9))), (0, .ref m0), (1, .int (nI k)), (2, .int (nI i))]) hx hb dX6_bitOf_4 rfl hl (by decide) rfl (fun ls hl => ?_)
  refine lv_iload_n hx hb dX6_bitOf_5 rfl (lv_at hl 0 rfl) ?_
  refine lv_aload_n hx hb dX6_bitOf_6 rfl (lv_at hl 1 rfl) ?_
  refine lv_iload_n hx hb dX6_bitOf_7 rfl (lv_at hl 2 rfl) ?_
  refine ro_V (As := [.int (nI k)]) (rest := [.int (nI (i / 9))]) ⟨hx, hb, hml, hown, hts⟩ (c_X6_sizeOf l D cI cJ cZ m0 nw ps im mk wd so mb ma mf mw ml mu wt ty NW PS u IM MK sd WD s SO q EB EA EF EW EL EU br WT ww TY KS KL KW n A hn hk hw0 hR hRW k t B hkw) (k_X6_57 hts ⟨Nat.le_of_ble_eq_true rfl, Nat.le_of_ble_eq_true rfl⟩) hK hP 0 rfl rfl rfl [0, 1, 2, 3, 4, 5, 6, 7, 8, 9, 10, 11, 12, 13, 14] rfl rfl hl.1 rfl (Nat.le_of_ble_eq_true rfl) dX6_bitOf_8 ⟨Nat.le_of_ble_eq_true rfl, Nat.le_of_ble_eq_true rfl⟩ ?_
  refine n_lt (tgt := 16) hx hb dX6_bitOf_11 (by decide) (by omega) (by omega) (fun c1 => ?_) (fun c1 => ?_)
  ·
    refine lv_iload_n hx hb dX6_bitOf_16 rfl (lv_at hl 3 rfl) ?_
    refine lv_bipush (v := nI 9) hx hb dX6_bitOf_17 (by decide +kernel) ?_
    refine n_irem hx hb dX6_bitOf_19 (by omega) (by decide) (by decide) ?_
    refine n_if_ne (tgt := 27) hx hb dX6_bitOf_20 (by decide) (by omega) (fun c2 => ?_) (fun c2 => ?_)
    ·
      refine lv_aload_n hx hb dX6_bitOf_27 rfl (lv_at hl 1 rfl) ?_
      refine lv_iload_n hx hb dX6_bitOf_28 rfl (lv_at hl 2 rfl) ?_
      refine lv_iload_n hx hb dX6_bitOf_29 rfl (lv_at hl 0 rfl) ?_
      refine ro_V (As := [.int (nI k), .int (nI (i / 9))]) (rest := []) ⟨hx, hb, hml, hown, hts⟩ (c_X6_letterOf l D cI cJ cZ m0 nw ps im mk wd so mb ma mf mw ml mu wt ty NW PS u IM MK sd WD s SO q EB EA EF EW EL EU br WT ww TY KS KL KW n A hn hk hw0 hR hRW k t B hkw (i / 9) (by omega)) (k_X6_61 hts ⟨Nat.le_of_ble_eq_true rfl, Nat.le_of_ble_eq_true rfl⟩) hK hP 0 rfl rfl rfl [0, 1, 2, 3, 4, 5, 6, 7, 8, 9, 10, 11, 12, 13, 14] rfl rfl hl.1 rfl (Nat.le_of_ble_eq_true rfl) dX6_bitOf_30 ⟨Nat.le_of_ble_eq_true rfl, Nat.le_of_ble_eq_true rfl⟩ ?_
      refine lv_bipush (v := nI 8) hx hb dX6_bitOf_33 (by decide +kernel) ?_
      refine lv_iload_n hx hb dX6_bitOf_35 rfl (lv_at hl 3 rfl) ?_
      refine lv_bipush (v := nI 9) hx hb dX6_bitOf_36 (by decide +kernel) ?_
      refine n_irem hx hb dX6_bitOf_38 (by omega) (by decide) (by decide) ?_
      refine n_isub hx hb dX6_bitOf_39 (by omega) ?_
      refine lv_ishr hx hb dX6_bitOf_40 ?_
      refine tq (y := nI ((letr B (i / 9)) / 2 ^ (8 - (i % 9)))) (sh_r (Nat.lt_trans (letr_lt _ _) (by decide)) (by omega)) ?_
      refine lv_iconst (v := nI 1) hx hb dX6_bitOf_41 (by decide +kernel) ?_
      refine lv_iand hx hb dX6_bitOf_42 ?_
      refine tq (y := nI (((letr B (i / 9)) / 2 ^ (8 - (i % 9))) % 2)) (fa_mask _ 1) ?_
      exact ro_iret hx hb hr hlk dX6_bitOf_43 (by unfold bitr; rw [if_neg c2])
    ·
      refine lv_iconst (v := nI 1) hx hb dX6_bitOf_23 (by decide +kernel) ?_
      refine lv_goto (tgt := 43) hx hb dX6_bitOf_24 (by decide) ?_
      exact ro_iret hx hb hr hlk dX6_bitOf_43 (by unfold bitr; rw [if_pos c2, if_pos (by omega)])
  ·
    refine lv_iconst (v := nI 0) hx hb dX6_bitOf_14 (by decide +kernel) ?_
    exact ro_iret hx hb hr hlk dX6_bitOf_15 (by rw [bitr_out hwt hi (by omega)])
set_option maxHeartbeats 4000000 in
set_option maxRecDepth 100000 in
theorem c_X6_unlikeAt (l : Launch) (D : va_G) (cI cJ cZ : ClassId) (m0 nw ps im mk wd so mb ma mf mw ml mu wt ty : Nat) (NW : Nat → Nat) (PS : Nat → Nat) (u : Nat) (IM : Nat → Nat) (MK : Nat → Nat) (sd : Nat) (WD : Nat → Nat) (s : Nat) (SO : Nat → Nat) (q : Nat) (EB : Nat → Nat) (EA : Nat → Nat) (EF : Nat → Nat) (EW : Nat → Nat) (EL : Nat → Nat) (EU : Nat → Nat) (br : Nat) (WT : Nat → Nat) (ww : Nat) (TY : Nat → Nat) (KS KL KW : Nat → Nat) (n A : Nat) (hn : n ≤ 24) (hk : ∀ k, k < n → Wf (KS k) (KL k)) (hw0 : Wf s A) (hR : RN NW KS KL KW n) (hRW : RW WD s A) (k t B : Nat) (hkw : Hd KS KL n s A k t B) (j r C : Nat) (hjw : Hd KS KL n s A j r C) : RO l yX6_unlikeAt cX6_unlikeAt 4 (some .int) (rmN 2 45) D (ty3 cI cJ cZ) [.ref m0, .int (nI k), .int (nI j)] [(m0, .inr (6, [.ref nw, .ref ps, .int (nI u), .ref im, .ref mk, .int (nI sd), .ref wd, .int (nI s), .ref so, .int (nI q), .ref mb, .ref ma, .ref mf, .ref mw, .ref ml, .ref mu, .int (nI br), .ref wt, .int (nI ww), .ref ty])), (nw, .inl (cI, 241, .inl (nF NW))), (ps, .inl (cI, 4820, .inl (nF PS))), (im, .inl (cI, 484, .inl (nF IM))), (mk, .inl (cZ, 2, .inl (nF MK))), (wd, .inl (cI, 8, .inl (nF WD))), (so, .inl (cI, 24, .inl (nF SO))), (mb, .inl (cI, 24, .inl (nF EB))), (ma, .inl (cI, 24, .inl (nF EA))), (mf, .inl (cI, 24, .inl (nF EF))), (mw, .inl (cI, 24, .inl (nF EW))), (ml, .inl (cI, 24, .inl (nF EL))), (mu, .inl (cI, 24, .inl (oF EU))), (wt, .inl (cI, 200, .inl (oF WT))), (ty, .inl (cI, 8, .inl (nF TY)))] (.int (nI (unl t B r C))) := by
  have hs8 := hw0.1
  have hA64 := hw0.2.1
  have hN0 := hR.1
  have hk24 : k ≤ 24 := by rcases hkw with h | h <;> omega
  have hj24 : j ≤ 24 := by rcases hjw with h | h <;> omega
  refine ro_start (by decide) (Nat.le_of_ble_eq_true rfl) ?_
  intro pp ee ss mm below meth cd C0 hP hK ls hl
  obtain ⟨hx, hb, hr, hml, hown, hts, hlk⟩ := C0
  have hown : ss.vm.findClass RX6 = some mm.cls := hown
  have hl : lv_has ls 4 [(0, .ref m0), (1, .int (nI k)), (2, .int (nI j))] := hl
  have hP : va_P D vwCl [(m0, .inr (6, [.ref nw, .ref ps, .int (nI u), .ref im, .ref mk, .int (nI sd), .ref wd, .int (nI s), .ref so, .int (nI q), .ref mb, .ref ma, .ref mf, .ref mw, .ref ml, .ref mu, .int (nI br), .ref wt, .int (nI ww), .ref ty])), (nw, .inl (cI, 241, .inl (nF NW))), (ps, .inl (cI, 4820, .inl (nF PS))), (im, .inl (cI, 484, .inl (nF IM))), (mk, .inl (cZ, 2, .inl (nF MK))), (wd, .inl (cI, 8, .inl (nF WD))), (so, .inl (cI, 24, .inl (nF SO))), (mb, .inl (cI, 24, .inl (nF EB))), (ma, .inl (cI, 24, .inl (nF EA))), (mf, .inl (cI, 24, .inl (nF EF))), (mw, .inl (cI, 24, .inl (nF EW))), (ml, .inl (cI, 24, .inl (nF EL))), (mu, .inl (cI, 24, .inl (oF EU))), (wt, .inl (cI, 200, .inl (oF WT))), (ty, .inl (cI, 8, .inl (nF TY)))] ss.heap := hP
  refine lv_iconst (v := nI 0) hx hb dX6_unlikeAt_0 (by decide +kernel) ?_
  refine lv_istore_n (lv' := [(3, .int (nI 0)), (0, .ref m0), (1, .int (nI k)), (2, .int (nI j))]) hx hb dX6_unlikeAt_1 rfl hl (by decide) rfl (fun ls hl => ?_)
  have loop2 : ∀ (d : Nat) (i : Nat) (ls : Array Slot), 72 - i < d → (i ≤ 72) → (∀ y, y < i → bitr t B y = bitr r C y) → lv_has ls 4 [(0, .ref m0), (1, .int (nI k)), (2, .int (nI j)), (3, .int (nI i))] → W pp l ee (rmN 2 45) ss mm [.ref m0, .int (nI k), .int (nI j)].toArray below meth cd ss.heap [] 0 0 (MQ below (QR (.int (nI (unl t B r C)))) [.ref m0, .int (nI k), .int (nI j)].toArray ss 0 0 (fun _ => False)) (F0 mm 2 ls []) := by
    intro d
    induction d with
    | zero => intro i ls h; exact absurd h (Nat.not_lt_zero _)
    | succ d ih2 =>
      intro i ls hd2 hi hb1 hl
      refine lv_iload_n hx hb dX6_unlikeAt_2 rfl (lv_at hl 3 rfl) ?_
      refine lv_bipush (v := nI 72) hx hb dX6_unlikeAt_3 (by decide +kernel) ?_
      refine n_ge (tgt := 29) hx hb dX6_unlikeAt_5 (by decide) (by omega) (by omega) (fun c1 => ?_) (fun c1 => ?_)
      ·
        have e1 : i < 72 → bitr t B i ≠ bitr r C i := fun h => absurd h (by omega)
        refine lv_iload_n hx hb dX6_unlikeAt_29 rfl (lv_at hl 3 rfl) ?_
        exact ro_iret hx hb hr hlk dX6_unlikeAt_30 (by rw [unl_is hi hb1 e1])
      ·
        refine lv_aload_n hx hb dX6_unlikeAt_8 rfl (lv_at hl 0 rfl) ?_
        refine lv_iload_n hx hb dX6_unlikeAt_9 rfl (lv_at hl 1 rfl) ?_
        refine lv_iload_n hx hb dX6_unlikeAt_10 rfl (lv_at hl 3 rfl) ?_
        refine ro_V (As := [.int (nI k), .int (nI i)]) (rest := []) ⟨hx, hb, hml, hown, hts⟩ (c_X6_bitOf l D cI cJ cZ m0 nw ps im mk wd so mb ma mf mw ml mu wt ty NW PS u IM MK sd WD s SO q EB EA EF EW EL EU br WT ww TY KS KL KW n A hn hk hw0 hR hRW k t B hkw i (by omega)) (k_X6_65 hts ⟨Nat.le_of_ble_eq_true rfl, Nat.le_of_ble_eq_true rfl⟩) hK hP 0 rfl rfl rfl [0, 1, 2, 3, 4, 5, 6, 7, 8, 9, 10, 11, 12, 13, 14] rfl rfl hl.1 rfl (Nat.le_of_ble_eq_true rfl) dX6_unlikeAt_11 ⟨Nat.le_of_ble_eq_true rfl, Nat.le_of_ble_eq_true rfl⟩ ?_
        refine lv_aload_n hx hb dX6_unlikeAt_14 rfl (lv_at hl 0 rfl) ?_
        refine lv_iload_n hx hb dX6_unlikeAt_15 rfl (lv_at hl 2 rfl) ?_
        refine lv_iload_n hx hb dX6_unlikeAt_16 rfl (lv_at hl 3 rfl) ?_
        refine ro_V (As := [.int (nI j), .int (nI i)]) (rest := [.int (nI (bitr t B i))]) ⟨hx, hb, hml, hown, hts⟩ (c_X6_bitOf l D cI cJ cZ m0 nw ps im mk wd so mb ma mf mw ml mu wt ty NW PS u IM MK sd WD s SO q EB EA EF EW EL EU br WT ww TY KS KL KW n A hn hk hw0 hR hRW j r C hjw i (by omega)) (k_X6_65 hts ⟨Nat.le_of_ble_eq_true rfl, Nat.le_of_ble_eq_true rfl⟩) hK hP 0 rfl rfl rfl [0, 1, 2, 3, 4, 5, 6, 7, 8, 9, 10, 11, 12, 13, 14] rfl rfl hl.1 rfl (Nat.le_of_ble_eq_true rfl) dX6_unlikeAt_17 ⟨Nat.le_of_ble_eq_true rfl, Nat.le_of_ble_eq_true rfl⟩ ?_
        refine n_ne (tgt := 29) hx hb dX6_unlikeAt_20 (by decide) (Nat.lt_trans (bitr_lt _ _ _) (by decide)) (Nat.lt_trans (bitr_lt _ _ _) (by decide)) (fun c2 => ?_) (fun c2 => ?_)
        ·
          have e1 : i < 72 → bitr t B i ≠ bitr r C i := fun _ => c2
          refine lv_iload_n hx hb dX6_unlikeAt_29 rfl (lv_at hl 3 rfl) ?_
          exact ro_iret hx hb hr hlk dX6_unlikeAt_30 (by rw [unl_is hi hb1 e1])
        ·
          have e0 := c2
          refine lv_iinc (v := nI (i + 1)) (lv' := [(3, .int (nI (i + 1))), (0, .ref m0), (1, .int (nI k)), (2, .int (nI j))]) hx hb dX6_unlikeAt_23 hl (k := 3) rfl (nI_add i 1) (by decide) rfl (fun ls hl => ?_)
          refine lv_goto (tgt := 2) hx hb dX6_unlikeAt_26 (by decide) ?_
          exact ih2 (i + 1) ls (by omega) (by omega) (fun y hy => by rcases Nat.lt_or_ge y i with g | g; exact hb1 y g; rw [show y = i by omega]; exact e0) (lv_sub hl [1, 2, 3, 0] rfl)
  exact loop2 _ 0 ls (Nat.lt_succ_self _) (Nat.zero_le _) (fun y hy => absurd hy (Nat.not_lt_zero _)) (lv_sub hl [1, 2, 3, 0] rfl)
set_option maxHeartbeats 4000000 in
set_option maxRecDepth 100000 in
theorem c_X6_isLess (l : Launch) (D : va_G) (cI cJ cZ : ClassId) (m0 nw ps im mk wd so mb ma mf mw ml mu wt ty : Nat) (NW : Nat → Nat) (PS : Nat → Nat) (u : Nat) (IM : Nat → Nat) (MK : Nat → Nat) (sd : Nat) (WD : Nat → Nat) (s : Nat) (SO : Nat → Nat) (q : Nat) (EB : Nat → Nat) (EA : Nat → Nat) (EF : Nat → Nat) (EW : Nat → Nat) (EL : Nat → Nat) (EU : Nat → Nat) (br : Nat) (WT : Nat → Nat) (ww : Nat) (TY : Nat → Nat) (KS KL KW : Nat → Nat) (n A : Nat) (hn : n ≤ 24) (hk : ∀ k, k < n → Wf (KS k) (KL k)) (hw0 : Wf s A) (hR : RN NW KS KL KW n) (hRW : RW WD s A) (k t B : Nat) (hkw : Hd KS KL n s A k t B) (j r C : Nat) (hjw : Hd KS KL n s A j r C) : RO l yX6_isLess cX6_isLess 4 (some .boolean) (rmN 3 68) D (ty3 cI cJ cZ) [.ref m0, .int (nI k), .int (nI j)] [(m0, .inr (6, [.ref nw, .ref ps, .int (nI u), .ref im, .ref mk, .int (nI sd), .ref wd, .int (nI s), .ref so, .int (nI q), .ref mb, .ref ma, .ref mf, .ref mw, .ref ml, .ref mu, .int (nI br), .ref wt, .int (nI ww), .ref ty])), (nw, .inl (cI, 241, .inl (nF NW))), (ps, .inl (cI, 4820, .inl (nF PS))), (im, .inl (cI, 484, .inl (nF IM))), (mk, .inl (cZ, 2, .inl (nF MK))), (wd, .inl (cI, 8, .inl (nF WD))), (so, .inl (cI, 24, .inl (nF SO))), (mb, .inl (cI, 24, .inl (nF EB))), (ma, .inl (cI, 24, .inl (nF EA))), (mf, .inl (cI, 24, .inl (nF EF))), (mw, .inl (cI, 24, .inl (nF EW))), (ml, .inl (cI, 24, .inl (nF EL))), (mu, .inl (cI, 24, .inl (oF EU))), (wt, .inl (cI, 200, .inl (oF WT))), (ty, .inl (cI, 8, .inl (nF TY)))] (.int (if unl t B r C < 72 ∧ bitr t B (unl t B r C) = 0 then 1 else 0)) := by
  have hs8 := hw0.1
  have hA64 := hw0.2.1
  have hN0 := hR.1
  have hk24 : k ≤ 24 := by rcases hkw with h | h <;> omega
  have hj24 : j ≤ 24 := by rcases hjw with h | h <;> omega
  have hul := unl_le t B r C
  refine ro_start (by decide) (Nat.le_of_ble_eq_true rfl) ?_
  intro pp ee ss mm below meth cd C0 hP hK ls hl
  obtain ⟨hx, hb, hr, hml, hown, hts, hlk⟩ := C0
  have hown : ss.vm.findClass RX6 = some mm.cls := hown
  have hl : lv_has ls 4 [(0, .ref m0), (1, .int (nI k)), (2, .int (nI j))] := hl
  have hP : va_P D vwCl [(m0, .inr (6, [.ref nw, .ref ps, .int (nI u), .ref im, .ref mk, .int (nI sd), .ref wd, .int (nI s), .ref so, .int (nI q), .ref mb, .ref ma, .ref mf, .ref mw, .ref ml, .ref mu, .int (nI br), .ref wt, .int (nI ww), .ref ty])), (nw, .inl (cI, 241, .inl (nF NW))), (ps, .inl (cI, 4820, .inl (nF PS))), (im, .inl (cI, 484, .inl (nF IM))), (mk, .inl (cZ, 2, .inl (nF MK))), (wd, .inl (cI, 8, .inl (nF WD))), (so, .inl (cI, 24, .inl (nF SO))), (mb, .inl (cI, 24, .inl (nF EB))), (ma, .inl (cI, 24, .inl (nF EA))), (mf, .inl (cI, 24, .inl (nF EF))), (mw, .inl (cI, 24, .inl (nF EW))), (ml, .inl (cI, 24, .inl (nF EL))), (mu, .inl (cI, 24, .inl (oF EU))), (wt, .inl (cI, 200, .inl (oF WT))), (ty, .inl (cI, 8, .inl (nF TY)))] ss.heap := hP
  refine lv_aload_n hx hb dX6_isLess_0 rfl (lv_at hl 0 rfl) ?_
  refine lv_iload_n hx hb dX6_isLess_1 rfl (lv_at hl 1 rfl) ?_
  refine lv_iload_n hx hb dX6_isLess_2 rfl (lv_at hl 2 rfl) ?_
  refine ro_V (As := [.int (nI k), .int (nI j)]) (rest := []) ⟨hx, hb, hml, hown, hts⟩ (c_X6_unlikeAt l D cI cJ cZ m0 nw ps im mk wd so mb ma mf mw ml mu wt ty NW PS u IM MK sd WD s SO q EB EA EF EW EL EU br WT ww TY KS KL KW n A hn hk hw0 hR hRW k t B hkw j r C hjw) (k_X6_68 hts ⟨Nat.le_of_ble_eq_true rfl, Nat.le_of_ble_eq_true rfl⟩) hK hP 0 rfl rfl rfl [0, 1, 2, 3, 4, 5, 6, 7, 8, 9, 10, 11, 12, 13, 14] rfl rfl hl.1 rfl (Nat.le_of_ble_eq_true rfl) dX6_isLess_3 ⟨Nat.le_of_ble_eq_true rfl, Nat.le_of_ble_eq_true rfl⟩ ?_
  refine lv_istore_n (lv' := [(3, .int (nI (unl t B r C))), (0, .ref m0), (1, .int (nI k)), (2, .int (nI j))]) hx hb dX6_isLess_6 rfl hl (by decide) rfl (fun ls hl => ?_)
  refine lv_iload_n hx hb dX6_isLess_7 rfl (lv_at hl 0 rfl) ?_
  refine lv_bipush (v := nI 72) hx hb dX6_isLess_8 (by decide +kernel) ?_
  refine n_ge (tgt := 26) hx hb dX6_isLess_10 (by decide) (by omega) (by omega) (fun c1 => ?_) (fun c1 => ?_)
  ·
    refine lv_iconst (v := nI 0) hx hb dX6_isLess_26 (by decide +kernel) ?_
    exact ro_zret hx hb hr hlk dX6_isLess_27 nar_b0 (by rw [if_neg (fun q => by have := q.1; omega), nI_0])
  ·
    refine lv_aload_n hx hb dX6_isLess_13 rfl (lv_at hl 1 rfl) ?_
    refine lv_iload_n hx hb dX6_isLess_14 rfl (lv_at hl 2 rfl) ?_
    refine lv_iload_n hx hb dX6_isLess_15 rfl (lv_at hl 0 rfl) ?_
    refine ro_V (As := [.int (nI k), .int (nI (unl t B r C))]) (rest := []) ⟨hx, hb, hml, hown, hts⟩ (c_X6_bitOf l D cI cJ cZ m0 nw ps im mk wd so mb ma mf mw ml mu wt ty NW PS u IM MK sd WD s SO q EB EA EF EW EL EU br WT ww TY KS KL KW n A hn hk hw0 hR hRW k t B hkw (unl t B r C) (by omega)) (k_X6_65 hts ⟨Nat.le_of_ble_eq_true rfl, Nat.le_of_ble_eq_true rfl⟩) hK hP 0 rfl rfl rfl [0, 1, 2, 3, 4, 5, 6, 7, 8, 9, 10, 11, 12, 13, 14] rfl rfl hl.1 rfl (Nat.le_of_ble_eq_true rfl) dX6_isLess_16 ⟨Nat.le_of_ble_eq_true rfl, Nat.le_of_ble_eq_true rfl⟩ ?_
    refine n_if_ne (tgt := 26) hx hb dX6_isLess_19 (by decide) (Nat.lt_trans (bitr_lt _ _ _) (by decide)) (fun c2 => ?_) (fun c2 => ?_)
    ·
      refine lv_iconst (v := nI 0) hx hb dX6_isLess_26 (by decide +kernel) ?_
      exact ro_zret hx hb hr hlk dX6_isLess_27 nar_b0 (by rw [if_neg (fun q => c2 q.2), nI_0])
    ·
      refine lv_iconst (v := nI 1) hx hb dX6_isLess_22 (by decide +kernel) ?_
      refine lv_goto (tgt := 27) hx hb dX6_isLess_23 (by decide) ?_
      exact ro_zret hx hb hr hlk dX6_isLess_27 nar_b1 (by rw [if_pos ⟨c1, c2⟩, nI_one])
theorem bg_no {s A t B i : Nat} (hA : Wf s A) (hB : Wf t B) (hi : i < t) (h : letr A i ≠ letr B i) : ¬ 9 * t ≤ unl s A t B := fun q => h (((begins_iff hA hB).mp q).2 i hi)
theorem bg_sz {s A t B : Nat} (hA : Wf s A) (hB : Wf t B) (h : s < t) : ¬ 9 * t ≤ unl s A t B := fun q => by have := ((begins_iff hA hB).mp q).1; omega
set_option maxHeartbeats 4000000 in
set_option maxRecDepth 100000 in
theorem c_X6_begins (l : Launch) (D : va_G) (cI cJ cZ : ClassId) (m0 nw ps im mk wd so mb ma mf mw ml mu wt ty : Nat) (NW : Nat → Nat) (PS : Nat → Nat) (u : Nat) (IM : Nat → Nat) (MK : Nat → Nat) (sd : Nat) (WD : Nat → Nat) (s : Nat) (SO : Nat → Nat) (q : Nat) (EB : Nat → Nat) (EA : Nat → Nat) (EF : Nat → Nat) (EW : Nat → Nat) (EL : Nat → Nat) (EU : Nat → Nat) (br : Nat) (WT : Nat → Nat) (ww : Nat) (TY : Nat → Nat) (KS KL KW : Nat → Nat) (n A : Nat) (hn : n ≤ 24) (hk : ∀ k, k < n → Wf (KS k) (KL k)) (hw0 : Wf s A) (hR : RN NW KS KL KW n) (hRW : RW WD s A) (k t B : Nat) (hkw : Hd KS KL n s A k t B) (j r C : Nat) (hjw : Hd KS KL n s A j r C) : RO l yX6_begins cX6_begins 5 (some .boolean) (rmN 1 22) D (ty3 cI cJ cZ) [.ref m0, .int (nI k), .int (nI j)] [(m0, .inr (6, [.ref nw, .ref ps, .int (nI u), .ref im, .ref mk, .int (nI sd), .ref wd, .int (nI s), .ref so, .int (nI q), .ref mb, .ref ma, .ref mf, .ref mw, .ref ml, .ref mu, .int (nI br), .ref wt, .int (nI ww), .ref ty])), (nw, .inl (cI, 241, .inl (nF NW))), (ps, .inl (cI, 4820, .inl (nF PS))), (im, .inl (cI, 484, .inl (nF IM))), (mk, .inl (cZ, 2, .inl (nF MK))), (wd, .inl (cI, 8, .inl (nF WD))), (so, .inl (cI, 24, .inl (nF SO))), (mb, .inl (cI, 24, .inl (nF EB))), (ma, .inl (cI, 24, .inl (nF EA))), (mf, .inl (cI, 24, .inl (nF EF))), (mw, .inl (cI, 24, .inl (nF EW))), (ml, .inl (cI, 24, .inl (nF EL))), (mu, .inl (cI, 24, .inl (oF EU))), (wt, .inl (cI, 200, .inl (oF WT))), (ty, .inl (cI, 8, .inl (nF TY)))] (.int (if 9 * r ≤ unl t B r C then 1 else 0)) := by
  have hs8 := hw0.1
  have hA64 := hw0.2.1
  have hN0 := hR.1
  have hk24 : k ≤ 24 := by rcases hkw with h | h <;> omega
  have hj24 : j ≤ 24 := by rcases hjw with h | h <;> omega
  have hwt := hd_wf hk hw0 hkw
  have hwr := hd_wf hk hw0 hjw
  have ht8 := hwt.1
  have hr8 := hwr.1
  refine ro_start (by decide) (Nat.le_of_ble_eq_true rfl) ?_
  intro pp ee ss mm below meth cd C0 hP hK ls hl
  obtain ⟨hx, hb, hr, hml, hown, hts, hlk⟩ := C0
  have hown : ss.vm.findClass RX6 = some mm.cls := hown
  have hl : lv_has ls 5 [(0, .ref m0), (1, .int (nI k)), (2, .int (nI j))] := hl
  have hP : va_P D vwCl [(m0, .inr (6, [.ref nw, .ref ps, .int (nI u), .ref im, .ref mk, .int (nI sd), .ref wd, .int (nI s), .ref so, .int (nI q), .ref mb, .ref ma, .ref mf, .ref mw, .ref ml, .ref mu, .int (nI br), .ref wt, .int (nI ww), .ref ty])), (nw, .inl (cI, 241, .inl (nF NW))), (ps, .inl (cI, 4820, .inl (nF PS))), (im, .inl (cI, 484, .inl (nF IM))), (mk, .inl (cZ, 2, .inl (nF MK))), (wd, .inl (cI, 8, .inl (nF WD))), (so, .inl (cI, 24, .inl (nF SO))), (mb, .inl (cI, 24, .inl (nF EB))), (ma, .inl (cI, 24, .inl (nF EA))), (mf, .inl (cI, 24, .inl (nF EF))), (mw, .inl (cI, 24, .inl (nF EW))), (ml, .inl (cI, 24, .inl (nF EL))), (mu, .inl (cI, 24, .inl (oF EU))), (wt, .inl (cI, 200, .inl (oF WT))), (ty, .inl (cI, 8, .inl (nF TY)))] ss.heap := hP
  refine lv_aload_n hx hb dX6_begins_0 rfl (lv_at hl 0 rfl) ?_
  refine lv_iload_n hx hb dX6_begins_1 rfl (lv_at hl 2 rfl) ?_
  refine ro_V (As := [.int (nI j)]) (rest := []) ⟨hx, hb, hml, hown, hts⟩ (c_X6_sizeOf l D cI cJ cZ m0 nw ps im mk wd so mb ma mf mw ml mu wt ty NW PS u IM MK sd WD s SO q EB EA EF EW EL EU br WT ww TY KS KL KW n A hn hk hw0 hR hRW j r C hjw) (k_X6_57 hts ⟨Nat.le_of_ble_eq_true rfl, Nat.le_of_ble_eq_true rfl⟩) hK hP 0 rfl rfl rfl [0, 1, 2, 3, 4, 5, 6, 7, 8, 9, 10, 11, 12, 13, 14] rfl rfl hl.1 rfl (Nat.le_of_ble_eq_true rfl) dX6_begins_2 ⟨Nat.le_of_ble_eq_true rfl, Nat.le_of_ble_eq_true rfl⟩ ?_
  refine lv_aload_n hx hb dX6_begins_5 rfl (lv_at hl 0 rfl) ?_
  refine lv_iload_n hx hb dX6_begins_6 rfl (lv_at hl 1 rfl) ?_
  refine ro_V (As := [.int (nI k)]) (rest := [.int (nI r)]) ⟨hx, hb, hml, hown, hts⟩ (c_X6_sizeOf l D cI cJ cZ m0 nw ps im mk wd so mb ma mf mw ml mu wt ty NW PS u IM MK sd WD s SO q EB EA EF EW EL EU br WT ww TY KS KL KW n A hn hk hw0 hR hRW k t B hkw) (k_X6_57 hts ⟨Nat.le_of_ble_eq_true rfl, Nat.le_of_ble_eq_true rfl⟩) hK hP 0 rfl rfl rfl [0, 1, 2, 3, 4, 5, 6, 7, 8, 9, 10, 11, 12, 13, 14] rfl rfl hl.1 rfl (Nat.le_of_ble_eq_true rfl) dX6_begins_7 ⟨Nat.le_of_ble_eq_true rfl, Nat.le_of_ble_eq_true rfl⟩ ?_
  refine n_gt (tgt := 17) hx hb dX6_begins_10 (by decide) (by omega) (by omega) (fun c1 => ?_) (fun c1 => ?_)
  ·
    have e9 := bg_sz hwt hwr c1
    refine lv_iconst (v := nI 0) hx hb dX6_begins_17 (by decide +kernel) ?_
    refine lv_istore_n (lv' := [(3, .int (nI 0)), (0, .ref m0), (1, .int (nI k)), (2, .int (nI j))]) hx hb dX6_begins_18 rfl hl (by decide) rfl (fun ls hl => ?_)
    refine lv_iconst (v := nI 0) hx hb dX6_begins_19 (by decide +kernel) ?_
    refine lv_istore (lv' := [(4, .int (nI 0)), (3, .int (nI 0)), (0, .ref m0), (1, .int (nI k)), (2, .int (nI j))]) hx hb dX6_begins_20 hl (by decide) rfl (fun ls hl => ?_)
    refine lv_iload hx hb dX6_begins_22 (lv_at hl 0 rfl) ?_
    refine lv_aload_n hx hb dX6_begins_24 rfl (lv_at hl 2 rfl) ?_
    refine lv_iload_n hx hb dX6_begins_25 rfl (lv_at hl 4 rfl) ?_
    refine ro_V (As := [.int (nI j)]) (rest := [.int (nI 0)]) ⟨hx, hb, hml, hown, hts⟩ (c_X6_sizeOf l D cI cJ cZ m0 nw ps im mk wd so mb ma mf mw ml mu wt ty NW PS u IM MK sd WD s SO q EB EA EF EW EL EU br WT ww TY KS KL KW n A hn hk hw0 hR hRW j r C hjw) (k_X6_57 hts ⟨Nat.le_of_ble_eq_true rfl, Nat.le_of_ble_eq_true rfl⟩) hK hP 0 rfl rfl rfl [0, 1, 2, 3, 4, 5, 6, 7, 8, 9, 10, 11, 12, 13, 14] rfl rfl hl.1 rfl (Nat.le_of_ble_eq_true rfl) dX6_begins_26 ⟨Nat.le_of_ble_eq_true rfl, Nat.le_of_ble_eq_true rfl⟩ ?_
    refine n_ge (tgt := 65) hx hb dX6_begins_29 (by decide) (by omega) (by omega) (fun c2 => ?_) (fun c2 => ?_)
    ·
      refine lv_iload_n hx hb dX6_begins_65 rfl (lv_at hl 1 rfl) ?_
      exact ro_zret hx hb hr hlk dX6_begins_66 nar_b0 (by rw [if_neg e9, nI_0])
    ·
      refine lv_iload_n hx hb dX6_begins_32 rfl (lv_at hl 1 rfl) ?_
      refine n_if_eq (tgt := 65) hx hb dX6_begins_33 (by decide) (by decide) (fun _ => ?_) (fun h9 => absurd rfl h9)
      refine lv_iload_n hx hb dX6_begins_65 rfl (lv_at hl 1 rfl) ?_
      exact ro_zret hx hb hr hlk dX6_begins_66 nar_b0 (by rw [if_neg e9, nI_0])
  ·
    have e8 := c1
    refine lv_iconst (v := nI 1) hx hb dX6_begins_13 (by decide +kernel) ?_
    refine lv_goto (tgt := 18) hx hb dX6_begins_14 (by decide) ?_
    refine lv_istore_n (lv' := [(3, .int (nI 1)), (0, .ref m0), (1, .int (nI k)), (2, .int (nI j))]) hx hb dX6_begins_18 rfl hl (by decide) rfl (fun ls hl => ?_)
    refine lv_iconst (v := nI 0) hx hb dX6_begins_19 (by decide +kernel) ?_
    refine lv_istore (lv' := [(4, .int (nI 0)), (3, .int (nI 1)), (0, .ref m0), (1, .int (nI k)), (2, .int (nI j))]) hx hb dX6_begins_20 hl (by decide) rfl (fun ls hl => ?_)
    have loop22 : ∀ (d : Nat) (i : Nat) (ls : Array Slot), r - i < d → (i ≤ r) → (∀ y, y < i → letr B y = letr C y) → lv_has ls 5 [(0, .ref m0), (1, .int (nI k)), (2, .int (nI j)), (3, .int (nI 1)), (4, .int (nI i))] → W pp l ee (rmN 1 22) ss mm [.ref m0, .int (nI k), .int (nI j)].toArray below meth cd ss.heap [] 0 0 (MQ below (QR (.int (if 9 * r ≤ unl t B r C then 1 else 0))) [.ref m0, .int (nI k), .int (nI j)].toArray ss 0 0 (fun _ => False)) (F0 mm 22 ls []) := by
      intro d
      induction d with
      | zero => intro i ls h; exact absurd h (Nat.not_lt_zero _)
      | succ d ih22 =>
        intro i ls hd22 hi hb1 hl
        refine lv_iload hx hb dX6_begins_22 (lv_at hl 4 rfl) ?_
        refine lv_aload_n hx hb dX6_begins_24 rfl (lv_at hl 0 rfl) ?_
        refine lv_iload_n hx hb dX6_begins_25 rfl (lv_at hl 2 rfl) ?_
        refine ro_V (As := [.int (nI j)]) (rest := [.int (nI i)]) ⟨hx, hb, hml, hown, hts⟩ (c_X6_sizeOf l D cI cJ cZ m0 nw ps im mk wd so mb ma mf mw ml mu wt ty NW PS u IM MK sd WD s SO q EB EA EF EW EL EU br WT ww TY KS KL KW n A hn hk hw0 hR hRW j r C hjw) (k_X6_57 hts ⟨Nat.le_of_ble_eq_true rfl, Nat.le_of_ble_eq_true rfl⟩) hK hP 0 rfl rfl rfl [0, 1, 2, 3, 4, 5, 6, 7, 8, 9, 10, 11, 12, 13, 14] rfl rfl hl.1 rfl (Nat.le_of_ble_eq_true rfl) dX6_begins_26 ⟨Nat.le_of_ble_eq_true rfl, Nat.le_of_ble_eq_true rfl⟩ ?_
        refine n_ge (tgt := 65) hx hb dX6_begins_29 (by decide) (by omega) (by omega) (fun c4 => ?_) (fun c4 => ?_)
        ·
          refine lv_iload_n hx hb dX6_begins_65 rfl (lv_at hl 3 rfl) ?_
          exact ro_zret hx hb hr hlk dX6_begins_66 nar_b1 (by rw [if_pos ((begins_iff hwt hwr).mpr ⟨e8, fun y hy => hb1 y (by omega)⟩), nI_one])
        ·
          refine lv_iload_n hx hb dX6_begins_32 rfl (lv_at hl 3 rfl) ?_
          refine n_if_eq (tgt := 65) hx hb dX6_begins_33 (by decide) (by decide) (fun h9 => absurd h9 (by decide)) (fun _ => ?_)
          refine lv_aload_n hx hb dX6_begins_36 rfl (lv_at hl 0 rfl) ?_
          refine lv_iload_n hx hb dX6_begins_37 rfl (lv_at hl 1 rfl) ?_
          refine lv_iload hx hb dX6_begins_38 (lv_at hl 4 rfl) ?_
          refine ro_V (As := [.int (nI k), .int (nI i)]) (rest := []) ⟨hx, hb, hml, hown, hts⟩ (c_X6_letterOf l D cI cJ cZ m0 nw ps im mk wd so mb ma mf mw ml mu wt ty NW PS u IM MK sd WD s SO q EB EA EF EW EL EU br WT ww TY KS KL KW n A hn hk hw0 hR hRW k t B hkw i (by omega)) (k_X6_61 hts ⟨Nat.le_of_ble_eq_true rfl, Nat.le_of_ble_eq_true rfl⟩) hK hP 0 rfl rfl rfl [0, 1, 2, 3, 4, 5, 6, 7, 8, 9, 10, 11, 12, 13, 14] rfl rfl hl.1 rfl (Nat.le_of_ble_eq_true rfl) dX6_begins_40 ⟨Nat.le_of_ble_eq_true rfl, Nat.le_of_ble_eq_true rfl⟩ ?_
          refine lv_aload_n hx hb dX6_begins_43 rfl (lv_at hl 0 rfl) ?_
          refine lv_iload_n hx hb dX6_begins_44 rfl (lv_at hl 2 rfl) ?_
          refine lv_iload hx hb dX6_begins_45 (lv_at hl 4 rfl) ?_
          refine ro_V (As := [.int (nI j), .int (nI i)]) (rest := [.int (nI (letr B i))]) ⟨hx, hb, hml, hown, hts⟩ (c_X6_letterOf l D cI cJ cZ m0 nw ps im mk wd so mb ma mf mw ml mu wt ty NW PS u IM MK sd WD s SO q EB EA EF EW EL EU br WT ww TY KS KL KW n A hn hk hw0 hR hRW j r C hjw i (by omega)) (k_X6_61 hts ⟨Nat.le_of_ble_eq_true rfl, Nat.le_of_ble_eq_true rfl⟩) hK hP 0 rfl rfl rfl [0, 1, 2, 3, 4, 5, 6, 7, 8, 9, 10, 11, 12, 13, 14] rfl rfl hl.1 rfl (Nat.le_of_ble_eq_true rfl) dX6_begins_47 ⟨Nat.le_of_ble_eq_true rfl, Nat.le_of_ble_eq_true rfl⟩ ?_
          refine n_ne (tgt := 57) hx hb dX6_begins_50 (by decide) (Nat.lt_trans (letr_lt _ _) (by decide)) (Nat.lt_trans (letr_lt _ _) (by decide)) (fun c6 => ?_) (fun c6 => ?_)
          ·
            have e9 := bg_no hwt hwr (by omega) c6
            refine lv_iconst (v := nI 0) hx hb dX6_begins_57 (by decide +kernel) ?_
            refine lv_istore_n (lv' := [(3, .int (nI 0)), (0, .ref m0), (1, .int (nI k)), (2, .int (nI j)), (4, .int (nI i))]) hx hb dX6_begins_58 rfl hl (by decide) rfl (fun ls hl => ?_)
            refine lv_iinc (v := nI (i + 1)) (lv' := [(4, .int (nI (i + 1))), (3, .int (nI 0)), (0, .ref m0), (1, .int (nI k)), (2, .int (nI j))]) hx hb dX6_begins_59 hl (k := 4) rfl (nI_add i 1) (by decide) rfl (fun ls hl => ?_)
            refine lv_goto (tgt := 22) hx hb dX6_begins_62 (by decide) ?_
            refine lv_iload hx hb dX6_begins_22 (lv_at hl 0 rfl) ?_
            refine lv_aload_n hx hb dX6_begins_24 rfl (lv_at hl 2 rfl) ?_
            refine lv_iload_n hx hb dX6_begins_25 rfl (lv_at hl 4 rfl) ?_
            refine ro_V (As := [.int (nI j)]) (rest := [.int (nI (i + 1))]) ⟨hx, hb, hml, hown, hts⟩ (c_X6_sizeOf l D cI cJ cZ m0 nw ps im mk wd so mb ma mf mw ml mu wt ty NW PS u IM MK sd WD s SO q EB EA EF EW EL EU br WT ww TY KS KL KW n A hn hk hw0 hR hRW j r C hjw) (k_X6_57 hts ⟨Nat.le_of_ble_eq_true rfl, Nat.le_of_ble_eq_true rfl⟩) hK hP 0 rfl rfl rfl [0, 1, 2, 3, 4, 5, 6, 7, 8, 9, 10, 11, 12, 13, 14] rfl rfl hl.1 rfl (Nat.le_of_ble_eq_true rfl) dX6_begins_26 ⟨Nat.le_of_ble_eq_true rfl, Nat.le_of_ble_eq_true rfl⟩ ?_
            refine n_ge (tgt := 65) hx hb dX6_begins_29 (by decide) (by omega) (by omega) (fun c7 => ?_) (fun c7 => ?_)
            ·
              refine lv_iload_n hx hb dX6_begins_65 rfl (lv_at hl 1 rfl) ?_
              exact ro_zret hx hb hr hlk dX6_begins_66 nar_b0 (by rw [if_neg e9, nI_0])
            ·
              refine lv_iload_n hx hb dX6_begins_32 rfl (lv_at hl 1 rfl) ?_
              refine n_if_eq (tgt := 65) hx hb dX6_begins_33 (by decide) (by decide) (fun _ => ?_) (fun h9 => absurd rfl h9)
              refine lv_iload_n hx hb dX6_begins_65 rfl (lv_at hl 1 rfl) ?_
              exact ro_zret hx hb hr hlk dX6_begins_66 nar_b0 (by rw [if_neg e9, nI_0])
          ·
            have e0 := c6
            refine lv_iconst (v := nI 1) hx hb dX6_begins_53 (by decide +kernel) ?_
            refine lv_goto (tgt := 58) hx hb dX6_begins_54 (by decide) ?_
            refine lv_istore_n (lv' := [(3, .int (nI 1)), (0, .ref m0), (1, .int (nI k)), (2, .int (nI j)), (4, .int (nI i))]) hx hb dX6_begins_58 rfl hl (by decide) rfl (fun ls hl => ?_)
            refine lv_iinc (v := nI (i + 1)) (lv' := [(4, .int (nI (i + 1))), (3, .int (nI 1)), (0, .ref m0), (1, .int (nI k)), (2, .int (nI j))]) hx hb dX6_begins_59 hl (k := 4) rfl (nI_add i 1) (by decide) rfl (fun ls hl => ?_)
            refine lv_goto (tgt := 22) hx hb dX6_begins_62 (by decide) ?_
            exact ih22 (i + 1) ls (by omega) (by omega) (fun y hy => by rcases Nat.lt_or_ge y i with g | g; exact hb1 y g; rw [show y = i by omega]; exact e0) (lv_sub hl [2, 3, 4, 1, 0] rfl)
    exact loop22 _ 0 ls (Nat.lt_succ_self _) (Nat.zero_le _) (fun y hy => absurd hy (Nat.not_lt_zero _)) (lv_sub hl [2, 3, 4, 1, 0] rfl)
set_option maxHeartbeats 4000000 in
set_option maxRecDepth 100000 in
theorem c_X6_place (l : Launch) (D : va_G) (cI cJ cZ : ClassId) (m0 nw ps im mk wd so mb ma mf mw ml mu wt ty : Nat) (NW : Nat → Nat) (PS : Nat → Nat) (u : Nat) (IM : Nat → Nat) (MK : Nat → Nat) (sd : Nat) (WD : Nat → Nat) (s : Nat) (SO : Nat → Nat) (q : Nat) (EB : Nat → Nat) (EA : Nat → Nat) (EF : Nat → Nat) (EW : Nat → Nat) (EL : Nat → Nat) (EU : Nat → Nat) (br : Nat) (WT : Nat → Nat) (ww : Nat) (TY : Nat → Nat) (KS KL KW : Nat → Nat) (n A : Nat) (hn : n ≤ 24) (hk : ∀ k, k < n → Wf (KS k) (KL k)) (hw0 : Wf s A) (hR : RN NW KS KL KW n) (hRW : RW WD s A) : RO l yX6_place cX6_place 2 (some .int) (rmN 4 91) D (ty3 cI cJ cZ) [.ref m0] [(m0, .inr (6, [.ref nw, .ref ps, .int (nI u), .ref im, .ref mk, .int (nI sd), .ref wd, .int (nI s), .ref so, .int (nI q), .ref mb, .ref ma, .ref mf, .ref mw, .ref ml, .ref mu, .int (nI br), .ref wt, .int (nI ww), .ref ty])), (nw, .inl (cI, 241, .inl (nF NW))), (ps, .inl (cI, 4820, .inl (nF PS))), (im, .inl (cI, 484, .inl (nF IM))), (mk, .inl (cZ, 2, .inl (nF MK))), (wd, .inl (cI, 8, .inl (nF WD))), (so, .inl (cI, 24, .inl (nF SO))), (mb, .inl (cI, 24, .inl (nF EB))), (ma, .inl (cI, 24, .inl (nF EA))), (mf, .inl (cI, 24, .inl (nF EF))), (mw, .inl (cI, 24, .inl (nF EW))), (ml, .inl (cI, 24, .inl (nF EL))), (mu, .inl (cI, 24, .inl (oF EU))), (wt, .inl (cI, 200, .inl (oF WT))), (ty, .inl (cI, 8, .inl (nF TY)))] (.int (nI (plc KS KL n s A))) := by
  have hs8 := hw0.1
  have hA64 := hw0.2.1
  have hN0 := hR.1
  refine ro_start (by decide) (Nat.le_of_ble_eq_true rfl) ?_
  intro pp ee ss mm below meth cd C0 hP hK ls hl
  obtain ⟨hx, hb, hr, hml, hown, hts, hlk⟩ := C0
  have hown : ss.vm.findClass RX6 = some mm.cls := hown
  have hl : lv_has ls 2 [(0, .ref m0)] := hl
  have hP : va_P D vwCl [(m0, .inr (6, [.ref nw, .ref ps, .int (nI u), .ref im, .ref mk, .int (nI sd), .ref wd, .int (nI s), .ref so, .int (nI q), .ref mb, .ref ma, .ref mf, .ref mw, .ref ml, .ref mu, .int (nI br), .ref wt, .int (nI ww), .ref ty])), (nw, .inl (cI, 241, .inl (nF NW))), (ps, .inl (cI, 4820, .inl (nF PS))), (im, .inl (cI, 484, .inl (nF IM))), (mk, .inl (cZ, 2, .inl (nF MK))), (wd, .inl (cI, 8, .inl (nF WD))), (so, .inl (cI, 24, .inl (nF SO))), (mb, .inl (cI, 24, .inl (nF EB))), (ma, .inl (cI, 24, .inl (nF EA))), (mf, .inl (cI, 24, .inl (nF EF))), (mw, .inl (cI, 24, .inl (nF EW))), (ml, .inl (cI, 24, .inl (nF EL))), (mu, .inl (cI, 24, .inl (oF EU))), (wt, .inl (cI, 200, .inl (oF WT))), (ty, .inl (cI, 8, .inl (nF TY)))] ss.heap := hP
  refine lv_iconst (v := nI 0) hx hb dX6_place_0 (by decide +kernel) ?_
  refine lv_istore_n (lv' := [(1, .int (nI 0)), (0, .ref m0)]) hx hb dX6_place_1 rfl hl (by decide) rfl (fun ls hl => ?_)
  have loop2 : ∀ (d : Nat) (i : Nat) (ls : Array Slot), n - i < d → (i ≤ n) → (∀ y, y < i → Ls (KS y) (KL y) s A) → lv_has ls 2 [(0, .ref m0), (1, .int (nI i))] → W pp l ee (rmN 4 91) ss mm [.ref m0].toArray below meth cd ss.heap [] 0 0 (MQ below (QR (.int (nI (plc KS KL n s A)))) [.ref m0].toArray ss 0 0 (fun _ => False)) (F0 mm 2 ls []) := by
    intro d
    induction d with
    | zero => intro i ls h; exact absurd h (Nat.not_lt_zero _)
    | succ d ih2 =>
      intro i ls hd2 hi hb1 hl
      refine lv_iload_n hx hb dX6_place_2 rfl (lv_at hl 1 rfl) ?_
      refine lv_aload_n hx hb dX6_place_3 rfl (lv_at hl 0 rfl) ?_
      refine va_get (D := D) (ci := 6) (v := .ref nw) (C := RX6) (T := TX6) (N := 20) hx hb hts inX6 hown hK hP 0 rfl rfl 0 (by decide) (hts _ mf_X6_7) (fun _ h9 => h9) rfl dX6_place_4 ?_
      refine lv_iconst (v := nI 0) hx hb dX6_place_7 (by decide +kernel) ?_
      refine n_iald hx hb hK hP 1 0 rfl rfl (k := 0) (by omega) (by decide) dX6_place_8 ?_
      refine tq (y := nI n) (congrArg nI (hN0)) ?_
      refine n_ge (tgt := 28) hx hb dX6_place_9 (by decide) (by omega) (by omega) (fun c1 => ?_) (fun c1 => ?_)
      ·
        have e1 : i < n → ¬ Ls (KS i) (KL i) s A := fun h => absurd h (by omega)
        refine lv_iload_n hx hb dX6_place_28 rfl (lv_at hl 1 rfl) ?_
        exact ro_iret hx hb hr hlk dX6_place_29 (by rw [plc_of hi hb1 e1])
      ·
        refine lv_aload_n hx hb dX6_place_12 rfl (lv_at hl 0 rfl) ?_
        refine lv_iload_n hx hb dX6_place_13 rfl (lv_at hl 1 rfl) ?_
        refine lv_bipush (v := nI 24) hx hb dX6_place_14 (by decide +kernel) ?_
        refine ro_V (As := [.int (nI i), .int (nI 24)]) (rest := []) ⟨hx, hb, hml, hown, hts⟩ (c_X6_isLess l D cI cJ cZ m0 nw ps im mk wd so mb ma mf mw ml mu wt ty NW PS u IM MK sd WD s SO q EB EA EF EW EL EU br WT ww TY KS KL KW n A hn hk hw0 hR hRW i ((KS i)) ((KL i)) (Or.inr ⟨by omega, rfl, rfl⟩) 24 s A (Or.inl ⟨rfl, rfl, rfl⟩)) (k_X6_71 hts ⟨Nat.le_of_ble_eq_true rfl, Nat.le_of_ble_eq_true rfl⟩) hK hP 0 rfl rfl rfl [0, 1, 2, 3, 4, 5, 6, 7, 8, 9, 10, 11, 12, 13, 14] rfl rfl hl.1 rfl (Nat.le_of_ble_eq_true rfl) dX6_place_16 ⟨Nat.le_of_ble_eq_true rfl, Nat.le_of_ble_eq_true rfl⟩ ?_
        refine b_if_eq (tgt := 28) hx hb dX6_place_19 (by decide) (fun c2 => ?_) (fun c2 => ?_)
        ·
          have e1 : i < n → ¬ Ls (KS i) (KL i) s A := fun _ => c2
          refine lv_iload_n hx hb dX6_place_28 rfl (lv_at hl 1 rfl) ?_
          exact ro_iret hx hb hr hlk dX6_place_29 (by rw [plc_of hi hb1 e1])
        ·
          have e0 : Ls (KS i) (KL i) s A := c2
          refine lv_iinc (v := nI (i + 1)) (lv' := [(1, .int (nI (i + 1))), (0, .ref m0)]) hx hb dX6_place_22 hl (k := 1) rfl (nI_add i 1) (by decide) rfl (fun ls hl => ?_)
          refine lv_goto (tgt := 2) hx hb dX6_place_25 (by decide) ?_
          exact ih2 (i + 1) ls (by omega) (by omega) (fun y hy => by rcases Nat.lt_or_ge y i with g | g; exact hb1 y g; rw [show y = i by omega]; exact e0) (lv_sub hl [1, 0] rfl)
  exact loop2 _ 0 ls (Nat.lt_succ_self _) (Nat.zero_le _) (fun y hy => absurd hy (Nat.not_lt_zero _)) (lv_sub hl [1, 0] rfl)
set_option maxHeartbeats 4000000 in
set_option maxRecDepth 100000 in
theorem c_X6_keyNow (l : Launch) (D : va_G) (cI cJ cZ : ClassId) (m0 nw ps im mk wd so mb ma mf mw ml mu wt ty : Nat) (NW : Nat → Nat) (PS : Nat → Nat) (u : Nat) (IM : Nat → Nat) (MK : Nat → Nat) (sd : Nat) (WD : Nat → Nat) (s : Nat) (SO : Nat → Nat) (q : Nat) (EB : Nat → Nat) (EA : Nat → Nat) (EF : Nat → Nat) (EW : Nat → Nat) (EL : Nat → Nat) (EU : Nat → Nat) (br : Nat) (WT : Nat → Nat) (ww : Nat) (TY : Nat → Nat) (KS KL KW : Nat → Nat) (n A : Nat) (hn : n ≤ 24) (hk : ∀ k, k < n → Wf (KS k) (KL k)) (hw0 : Wf s A) (hR : RN NW KS KL KW n) (hRW : RW WD s A) : RO l yX6_keyNow cX6_keyNow 2 (some .int) (rmN 5 112) D (ty3 cI cJ cZ) [.ref m0] [(m0, .inr (6, [.ref nw, .ref ps, .int (nI u), .ref im, .ref mk, .int (nI sd), .ref wd, .int (nI s), .ref so, .int (nI q), .ref mb, .ref ma, .ref mf, .ref mw, .ref ml, .ref mu, .int (nI br), .ref wt, .int (nI ww), .ref ty])), (nw, .inl (cI, 241, .inl (nF NW))), (ps, .inl (cI, 4820, .inl (nF PS))), (im, .inl (cI, 484, .inl (nF IM))), (mk, .inl (cZ, 2, .inl (nF MK))), (wd, .inl (cI, 8, .inl (nF WD))), (so, .inl (cI, 24, .inl (nF SO))), (mb, .inl (cI, 24, .inl (nF EB))), (ma, .inl (cI, 24, .inl (nF EA))), (mf, .inl (cI, 24, .inl (nF EF))), (mw, .inl (cI, 24, .inl (nF EW))), (ml, .inl (cI, 24, .inl (nF EL))), (mu, .inl (cI, 24, .inl (oF EU))), (wt, .inl (cI, 200, .inl (oF WT))), (ty, .inl (cI, 8, .inl (nF TY)))] (.int (oI (fnd KS KL n s A))) := by
  have hs8 := hw0.1
  have hA64 := hw0.2.1
  have hN0 := hR.1
  have hp := plc_le KS KL n s A
  have hul := unl_le (KS (plc KS KL n s A)) (KL (plc KS KL n s A)) s A
  refine ro_start (by decide) (Nat.le_of_ble_eq_true rfl) ?_
  intro pp ee ss mm below meth cd C0 hP hK ls hl
  obtain ⟨hx, hb, hr, hml, hown, hts, hlk⟩ := C0
  have hown : ss.vm.findClass RX6 = some mm.cls := hown
  have hl : lv_has ls 2 [(0, .ref m0)] := hl
  have hP : va_P D vwCl [(m0, .inr (6, [.ref nw, .ref ps, .int (nI u), .ref im, .ref mk, .int (nI sd), .ref wd, .int (nI s), .ref so, .int (nI q), .ref mb, .ref ma, .ref mf, .ref mw, .ref ml, .ref mu, .int (nI br), .ref wt, .int (nI ww), .ref ty])), (nw, .inl (cI, 241, .inl (nF NW))), (ps, .inl (cI, 4820, .inl (nF PS))), (im, .inl (cI, 484, .inl (nF IM))), (mk, .inl (cZ, 2, .inl (nF MK))), (wd, .inl (cI, 8, .inl (nF WD))), (so, .inl (cI, 24, .inl (nF SO))), (mb, .inl (cI, 24, .inl (nF EB))), (ma, .inl (cI, 24, .inl (nF EA))), (mf, .inl (cI, 24, .inl (nF EF))), (mw, .inl (cI, 24, .inl (nF EW))), (ml, .inl (cI, 24, .inl (nF EL))), (mu, .inl (cI, 24, .inl (oF EU))), (wt, .inl (cI, 200, .inl (oF WT))), (ty, .inl (cI, 8, .inl (nF TY)))] ss.heap := hP
  refine lv_aload_n hx hb dX6_keyNow_0 rfl (lv_at hl 0 rfl) ?_
  refine ro_V (As := []) (rest := []) ⟨hx, hb, hml, hown, hts⟩ (c_X6_place l D cI cJ cZ m0 nw ps im mk wd so mb ma mf mw ml mu wt ty NW PS u IM MK sd WD s SO q EB EA EF EW EL EU br WT ww TY KS KL KW n A hn hk hw0 hR hRW) (k_X6_75 hts ⟨Nat.le_of_ble_eq_true rfl, Nat.le_of_ble_eq_true rfl⟩) hK hP 0 rfl rfl rfl [0, 1, 2, 3, 4, 5, 6, 7, 8, 9, 10, 11, 12, 13, 14] rfl rfl hl.1 rfl (Nat.le_of_ble_eq_true rfl) dX6_keyNow_1 ⟨Nat.le_of_ble_eq_true rfl, Nat.le_of_ble_eq_true rfl⟩ ?_
  refine lv_istore_n (lv' := [(1, .int (nI (plc KS KL n s A))), (0, .ref m0)]) hx hb dX6_keyNow_4 rfl hl (by decide) rfl (fun ls hl => ?_)
  refine lv_iload_n hx hb dX6_keyNow_5 rfl (lv_at hl 0 rfl) ?_
  refine lv_aload_n hx hb dX6_keyNow_6 rfl (lv_at hl 1 rfl) ?_
  refine va_get (D := D) (ci := 6) (v := .ref nw) (C := RX6) (T := TX6) (N := 20) hx hb hts inX6 hown hK hP 0 rfl rfl 0 (by decide) (hts _ mf_X6_7) (fun _ h9 => h9) rfl dX6_keyNow_7 ?_
  refine lv_iconst (v := nI 0) hx hb dX6_keyNow_10 (by decide +kernel) ?_
  refine n_iald hx hb hK hP 1 0 rfl rfl (k := 0) (by omega) (by decide) dX6_keyNow_11 ?_
  refine tq (y := nI n) (congrArg nI (hN0)) ?_
  refine n_ge (tgt := 31) hx hb dX6_keyNow_12 (by decide) (by omega) (by omega) (fun c1 => ?_) (fun c1 => ?_)
  ·
    refine lv_iconst (v := oI 0) hx hb dX6_keyNow_31 (by decide +kernel) ?_
    exact ro_iret hx hb hr hlk dX6_keyNow_32 (by rw [fnd_no (fun q => by have := q.1; omega)])
  ·
    refine lv_aload_n hx hb dX6_keyNow_15 rfl (lv_at hl 1 rfl) ?_
    refine lv_iload_n hx hb dX6_keyNow_16 rfl (lv_at hl 0 rfl) ?_
    refine lv_bipush (v := nI 24) hx hb dX6_keyNow_17 (by decide +kernel) ?_
    refine ro_V (As := [.int (nI (plc KS KL n s A)), .int (nI 24)]) (rest := []) ⟨hx, hb, hml, hown, hts⟩ (c_X6_unlikeAt l D cI cJ cZ m0 nw ps im mk wd so mb ma mf mw ml mu wt ty NW PS u IM MK sd WD s SO q EB EA EF EW EL EU br WT ww TY KS KL KW n A hn hk hw0 hR hRW (plc KS KL n s A) ((KS (plc KS KL n s A))) ((KL (plc KS KL n s A))) (Or.inr ⟨by omega, rfl, rfl⟩) 24 s A (Or.inl ⟨rfl, rfl, rfl⟩)) (k_X6_68 hts ⟨Nat.le_of_ble_eq_true rfl, Nat.le_of_ble_eq_true rfl⟩) hK hP 0 rfl rfl rfl [0, 1, 2, 3, 4, 5, 6, 7, 8, 9, 10, 11, 12, 13, 14] rfl rfl hl.1 rfl (Nat.le_of_ble_eq_true rfl) dX6_keyNow_19 ⟨Nat.le_of_ble_eq_true rfl, Nat.le_of_ble_eq_true rfl⟩ ?_
    refine lv_bipush (v := nI 72) hx hb dX6_keyNow_22 (by decide +kernel) ?_
    refine n_ne (tgt := 31) hx hb dX6_keyNow_24 (by decide) (by omega) (by omega) (fun c2 => ?_) (fun c2 => ?_)
    ·
      refine lv_iconst (v := oI 0) hx hb dX6_keyNow_31 (by decide +kernel) ?_
      exact ro_iret hx hb hr hlk dX6_keyNow_32 (by rw [fnd_no (fun q => c2 q.2)])
    ·
      refine lv_iload_n hx hb dX6_keyNow_27 rfl (lv_at hl 0 rfl) ?_
      refine lv_goto (tgt := 32) hx hb dX6_keyNow_28 (by decide) ?_
      exact ro_iret hx hb hr hlk dX6_keyNow_32 (by rw [fnd_yes ⟨c1, c2⟩, oI_s])
set_option maxHeartbeats 4000000 in
set_option maxRecDepth 100000 in
theorem c_X6_isKey (l : Launch) (D : va_G) (cI cJ cZ : ClassId) (m0 nw ps im mk wd so mb ma mf mw ml mu wt ty : Nat) (NW : Nat → Nat) (PS : Nat → Nat) (u : Nat) (IM : Nat → Nat) (MK : Nat → Nat) (sd : Nat) (WD : Nat → Nat) (s : Nat) (SO : Nat → Nat) (q : Nat) (EB : Nat → Nat) (EA : Nat → Nat) (EF : Nat → Nat) (EW : Nat → Nat) (EL : Nat → Nat) (EU : Nat → Nat) (br : Nat) (WT : Nat → Nat) (ww : Nat) (TY : Nat → Nat) (KS KL KW : Nat → Nat) (n A : Nat) (hn : n ≤ 24) (hk : ∀ k, k < n → Wf (KS k) (KL k)) (hw0 : Wf s A) (hR : RN NW KS KL KW n) (hRW : RW WD s A) (j : Nat) (hj : j < 2 ^ 31) : RO l yX6_isKey cX6_isKey 2 (some .boolean) (rmN 1 22) D (ty3 cI cJ cZ) [.ref m0, .int (nI j)] [(m0, .inr (6, [.ref nw, .ref ps, .int (nI u), .ref im, .ref mk, .int (nI sd), .ref wd, .int (nI s), .ref so, .int (nI q), .ref mb, .ref ma, .ref mf, .ref mw, .ref ml, .ref mu, .int (nI br), .ref wt, .int (nI ww), .ref ty])), (nw, .inl (cI, 241, .inl (nF NW))), (ps, .inl (cI, 4820, .inl (nF PS))), (im, .inl (cI, 484, .inl (nF IM))), (mk, .inl (cZ, 2, .inl (nF MK))), (wd, .inl (cI, 8, .inl (nF WD))), (so, .inl (cI, 24, .inl (nF SO))), (mb, .inl (cI, 24, .inl (nF EB))), (ma, .inl (cI, 24, .inl (nF EA))), (mf, .inl (cI, 24, .inl (nF EF))), (mw, .inl (cI, 24, .inl (nF EW))), (ml, .inl (cI, 24, .inl (nF EL))), (mu, .inl (cI, 24, .inl (oF EU))), (wt, .inl (cI, 200, .inl (oF WT))), (ty, .inl (cI, 8, .inl (nF TY)))] (.int (if 0 ≤ j ∧ j < n then 1 else 0)) := by
  have hs8 := hw0.1
  have hA64 := hw0.2.1
  have hN0 := hR.1
  refine ro_start (by decide) (Nat.le_of_ble_eq_true rfl) ?_
  intro pp ee ss mm below meth cd C0 hP hK ls hl
  obtain ⟨hx, hb, hr, hml, hown, hts, hlk⟩ := C0
  have hown : ss.vm.findClass RX6 = some mm.cls := hown
  have hl : lv_has ls 2 [(0, .ref m0), (1, .int (nI j))] := hl
  have hP : va_P D vwCl [(m0, .inr (6, [.ref nw, .ref ps, .int (nI u), .ref im, .ref mk, .int (nI sd), .ref wd, .int (nI s), .ref so, .int (nI q), .ref mb, .ref ma, .ref mf, .ref mw, .ref ml, .ref mu, .int (nI br), .ref wt, .int (nI ww), .ref ty])), (nw, .inl (cI, 241, .inl (nF NW))), (ps, .inl (cI, 4820, .inl (nF PS))), (im, .inl (cI, 484, .inl (nF IM))), (mk, .inl (cZ, 2, .inl (nF MK))), (wd, .inl (cI, 8, .inl (nF WD))), (so, .inl (cI, 24, .inl (nF SO))), (mb, .inl (cI, 24, .inl (nF EB))), (ma, .inl (cI, 24, .inl (nF EA))), (mf, .inl (cI, 24, .inl (nF EF))), (mw, .inl (cI, 24, .inl (nF EW))), (ml, .inl (cI, 24, .inl (nF EL))), (mu, .inl (cI, 24, .inl (oF EU))), (wt, .inl (cI, 200, .inl (oF WT))), (ty, .inl (cI, 8, .inl (nF TY)))] ss.heap := hP
  refine lv_iload_n hx hb dX6_isKey_0 rfl (lv_at hl 1 rfl) ?_
  refine lv_iconst (v := nI 0) hx hb dX6_isKey_1 (by decide +kernel) ?_
  refine lv_aload_n hx hb dX6_isKey_2 rfl (lv_at hl 0 rfl) ?_
  refine va_get (D := D) (ci := 6) (v := .ref nw) (C := RX6) (T := TX6) (N := 20) hx hb hts inX6 hown hK hP 0 rfl rfl 0 (by decide) (hts _ mf_X6_7) (fun _ h9 => h9) rfl dX6_isKey_3 ?_
  refine lv_iconst (v := nI 0) hx hb dX6_isKey_6 (by decide +kernel) ?_
  refine n_iald hx hb hK hP 1 0 rfl rfl (k := 0) (by omega) (by decide) dX6_isKey_7 ?_
  refine tq (y := nI n) (congrArg nI (hN0)) ?_
  refine lv_iconst (v := nI 1) hx hb dX6_isKey_8 (by decide +kernel) ?_
  refine lv_isub hx hb dX6_isKey_9 ?_
  refine tq (y := (oI n)) (by show nI n - nI 1 = nI n - 1; rw [nI_one]) ?_
  refine ro_S (As := [.int (nI j), .int (nI 0), .int (oI n)]) (rest := []) ⟨hx, hb, hml, hown, hts⟩ (c_X6_in_o l D cI cJ cZ j 0 n (by omega) (by omega) (by omega)) (k_X6_79 hts ⟨Nat.le_of_ble_eq_true rfl, Nat.le_of_ble_eq_true rfl⟩) hK hP [] rfl rfl hl.1 rfl (Nat.le_of_ble_eq_true rfl) dX6_isKey_10 ⟨Nat.le_of_ble_eq_true rfl, Nat.le_of_ble_eq_true rfl⟩ ?_
  exact ro_zret hx hb hr hlk dX6_isKey_13 (by split <;> decide +kernel) (rfl)
set_option maxHeartbeats 4000000 in
set_option maxRecDepth 100000 in
theorem c_X6_isKey_neg (l : Launch) (D : va_G) (cI cJ cZ : ClassId) (m0 nw ps im mk wd so mb ma mf mw ml mu wt ty : Nat) (NW : Nat → Nat) (PS : Nat → Nat) (u : Nat) (IM : Nat → Nat) (MK : Nat → Nat) (sd : Nat) (WD : Nat → Nat) (s : Nat) (SO : Nat → Nat) (q : Nat) (EB : Nat → Nat) (EA : Nat → Nat) (EF : Nat → Nat) (EW : Nat → Nat) (EL : Nat → Nat) (EU : Nat → Nat) (br : Nat) (WT : Nat → Nat) (ww : Nat) (TY : Nat → Nat) (KS KL KW : Nat → Nat) (n A : Nat) (hn : n ≤ 24) (hk : ∀ k, k < n → Wf (KS k) (KL k)) (hw0 : Wf s A) (hR : RN NW KS KL KW n) (hRW : RW WD s A) (x : Int32) (hx0 : x < 0) : RO l yX6_isKey cX6_isKey 2 (some .boolean) (rmN 1 22) D (ty3 cI cJ cZ) [.ref m0, .int x] [(m0, .inr (6, [.ref nw, .ref ps, .int (nI u), .ref im, .ref mk, .int (nI sd), .ref wd, .int (nI s), .ref so, .int (nI q), .ref mb, .ref ma, .ref mf, .ref mw, .ref ml, .ref mu, .int (nI br), .ref wt, .int (nI ww), .ref ty])), (nw, .inl (cI, 241, .inl (nF NW))), (ps, .inl (cI, 4820, .inl (nF PS))), (im, .inl (cI, 484, .inl (nF IM))), (mk, .inl (cZ, 2, .inl (nF MK))), (wd, .inl (cI, 8, .inl (nF WD))), (so, .inl (cI, 24, .inl (nF SO))), (mb, .inl (cI, 24, .inl (nF EB))), (ma, .inl (cI, 24, .inl (nF EA))), (mf, .inl (cI, 24, .inl (nF EF))), (mw, .inl (cI, 24, .inl (nF EW))), (ml, .inl (cI, 24, .inl (nF EL))), (mu, .inl (cI, 24, .inl (oF EU))), (wt, .inl (cI, 200, .inl (oF WT))), (ty, .inl (cI, 8, .inl (nF TY)))] (.int (nI 0)) := by
  have hs8 := hw0.1
  have hA64 := hw0.2.1
  have hN0 := hR.1
  refine ro_start (by decide) (Nat.le_of_ble_eq_true rfl) ?_
  intro pp ee ss mm below meth cd C0 hP hK ls hl
  obtain ⟨hx, hb, hr, hml, hown, hts, hlk⟩ := C0
  have hown : ss.vm.findClass RX6 = some mm.cls := hown
  have hl : lv_has ls 2 [(0, .ref m0), (1, .int x)] := hl
  have hP : va_P D vwCl [(m0, .inr (6, [.ref nw, .ref ps, .int (nI u), .ref im, .ref mk, .int (nI sd), .ref wd, .int (nI s), .ref so, .int (nI q), .ref mb, .ref ma, .ref mf, .ref mw, .ref ml, .ref mu, .int (nI br), .ref wt, .int (nI ww), .ref ty])), (nw, .inl (cI, 241, .inl (nF NW))), (ps, .inl (cI, 4820, .inl (nF PS))), (im, .inl (cI, 484, .inl (nF IM))), (mk, .inl (cZ, 2, .inl (nF MK))), (wd, .inl (cI, 8, .inl (nF WD))), (so, .inl (cI, 24, .inl (nF SO))), (mb, .inl (cI, 24, .inl (nF EB))), (ma, .inl (cI, 24, .inl (nF EA))), (mf, .inl (cI, 24, .inl (nF EF))), (mw, .inl (cI, 24, .inl (nF EW))), (ml, .inl (cI, 24, .inl (nF EL))), (mu, .inl (cI, 24, .inl (oF EU))), (wt, .inl (cI, 200, .inl (oF WT))), (ty, .inl (cI, 8, .inl (nF TY)))] ss.heap := hP
  refine lv_iload_n hx hb dX6_isKey_0 rfl (lv_at hl 1 rfl) ?_
  refine lv_iconst (v := nI 0) hx hb dX6_isKey_1 (by decide +kernel) ?_
  refine lv_aload_n hx hb dX6_isKey_2 rfl (lv_at hl 0 rfl) ?_
  refine va_get (D := D) (ci := 6) (v := .ref nw) (C := RX6) (T := TX6) (N := 20) hx hb hts inX6 hown hK hP 0 rfl rfl 0 (by decide) (hts _ mf_X6_7) (fun _ h9 => h9) rfl dX6_isKey_3 ?_
  refine lv_iconst (v := nI 0) hx hb dX6_isKey_6 (by decide +kernel) ?_
  refine n_iald hx hb hK hP 1 0 rfl rfl (k := 0) (by omega) (by decide) dX6_isKey_7 ?_
  refine tq (y := nI n) (congrArg nI (hN0)) ?_
  refine lv_iconst (v := nI 1) hx hb dX6_isKey_8 (by decide +kernel) ?_
  refine lv_isub hx hb dX6_isKey_9 ?_
  refine tq (y := (oI n)) (by show nI n - nI 1 = nI n - 1; rw [nI_one]) ?_
  refine ro_S (As := [.int x, .int (nI 0), .int (oI n)]) (rest := []) ⟨hx, hb, hml, hown, hts⟩ (c_X6_in_neg l D cI cJ cZ x ((oI n)) 0 hx0 (by omega)) (k_X6_79 hts ⟨Nat.le_of_ble_eq_true rfl, Nat.le_of_ble_eq_true rfl⟩) hK hP [] rfl rfl hl.1 rfl (Nat.le_of_ble_eq_true rfl) dX6_isKey_10 ⟨Nat.le_of_ble_eq_true rfl, Nat.le_of_ble_eq_true rfl⟩ ?_
  exact ro_zret hx hb hr hlk dX6_isKey_13 nar_b0 (rfl)
