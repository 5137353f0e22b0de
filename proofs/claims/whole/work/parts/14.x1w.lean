theorem sh_step {F S : Nat → Nat} {i n : Nat} (h : ∀ j, F j = if i < j ∧ j ≤ n then S (j - 1) else S j) (h0 : 0 < i) (hn : i ≤ n) : ∀ j, up F i (F (i - 1)) j = if i - 1 < j ∧ j ≤ n then S (j - 1) else S j := by
  intro j
  unfold up
  by_cases e : j = i
  · subst e
    rw [if_pos rfl, h, if_neg (by omega), if_pos (by omega)]
  · rw [if_neg e, h]
    by_cases g : i < j ∧ j ≤ n
    · rw [if_pos g, if_pos (by omega)]
    · rw [if_neg g, if_neg (by omega)]
theorem sh_end {F S : Nat → Nat} {i n p v : Nat} (h : ∀ j, F j = if i < j ∧ j ≤ n then S (j - 1) else S j) (hip : i = p) : up F p v = insF p v n S := by
  funext j
  unfold up insF
  by_cases e : j = p
  · rw [if_pos e, if_neg (by omega), if_pos e]
  · rw [if_neg e, h]
    rcases Nat.lt_or_ge j p with g | g
    · rw [if_pos g, if_neg (show ¬ (i < j ∧ j ≤ n) by omega)]
    · rw [if_neg (show ¬ j < p by omega)]
      by_cases g2 : j ≤ n
      · rw [if_pos (show i < j ∧ j ≤ n by omega), if_neg (show ¬ j = p from e), if_pos g2]
      · rw [if_neg (show ¬ (i < j ∧ j ≤ n) by omega), if_neg (show ¬ j = p from e), if_neg g2]
theorem rm_step {F S : Nat → Nat} {f i q : Nat} (h : ∀ j, F j = if f ≤ j ∧ j < i then S (j + q) else S j) (hf : f ≤ i) : ∀ j, up F i (F (i + q)) j = if f ≤ j ∧ j < i + 1 then S (j + q) else S j := by
  intro j
  unfold up
  by_cases e : j = i
  · subst e
    rw [if_pos rfl, h, if_neg (by omega), if_pos (by omega)]
  · rw [if_neg e, h]
    by_cases g : f ≤ j ∧ j < i
    · rw [if_pos g, if_pos (by omega)]
    · rw [if_neg g, if_neg (by omega)]
theorem rm_end {F S : Nat → Nat} {f i q n : Nat} (h : ∀ j, F j = if f ≤ j ∧ j < i then S (j + q) else S j) (e : i + q = n) : F = rmvF f q n S := by
  funext j
  unfold rmvF
  rw [h]
  by_cases g : f ≤ j ∧ j < i
  · rw [if_pos g, if_pos (by omega)]
  · rw [if_neg g, if_neg (by omega)]
theorem rm_0 (f n : Nat) (S : Nat → Nat) : rmvF f 0 n S = S := by
  funext j
  unfold rmvF
  split <;> rfl
theorem aw_step {F S : Nat → Nat} {f i v : Nat} (h : ∀ j, F j = if f ≤ j ∧ j < f + i then min 9999 (S j + v) else S j) : ∀ j, up F (f + i) (min 9999 (F (f + i) + v)) j = if f ≤ j ∧ j < f + (i + 1) then min 9999 (S j + v) else S j := by
  intro j
  unfold up
  by_cases e : j = f + i
  · subst e
    rw [if_pos rfl, h, if_neg (by omega), if_pos (by omega)]
  · rw [if_neg e, h]
    by_cases g : f ≤ j ∧ j < f + i
    · rw [if_pos g, if_pos (by omega)]
    · rw [if_neg g, if_neg (by omega)]
theorem aw_end {F S : Nat → Nat} {f i v q : Nat} (h : ∀ j, F j = if f ≤ j ∧ j < f + i then min 9999 (S j + v) else S j) (e : i = q) : F = adwF f q v S := by
  subst e
  funext j
  rw [h]
  rfl
set_option maxHeartbeats 4000000 in
set_option maxRecDepth 100000 in
theorem c_X1_insert (l : Launch) (D : va_G) (cI cJ cZ : ClassId) (k0 kl ks kw : Nat) (KL KS KW : Nat → Nat) (n : Nat) (hn : n < 24) (w0 A s p v : Nat) (hp : p ≤ n) (sz : Nat) : WR l yX1_insert cX1_insert 5 none (rmN 1 20) D (ty3 cI cJ cZ) [.ref k0, .int (nI p), .ref w0, .int (nI v)] [(k0, .inr (1, [.ref kl, .ref ks, .ref kw, .int (nI n)])), (kl, .inl (cJ, 24, .inr (.inl (lF KL)))), (ks, .inl (cI, 24, .inl (nF KS))), (kw, .inl (cI, 24, .inl (nF KW))), (w0, .inr (4, [.long (lN A), .int (nI s)]))] sz (fun x w => x = none ∧ w = [(k0, .inr (1, [.ref kl, .ref ks, .ref kw, .int (nI (n + 1))])), (kl, .inl (cJ, 24, .inr (.inl (lF (insF p A n KL))))), (ks, .inl (cI, 24, .inl (nF (insF p s n KS)))), (kw, .inl (cI, 24, .inl (nF (insF p v n KW)))), (w0, .inr (4, [.long (lN A), .int (nI s)]))]) := by
  refine wr_start (by decide) (Nat.le_of_ble_eq_true rfl) ?_
  intro pp ee ss mm below meth cd AA C0 hAA hP hK hD hS hN hnm ls hl
  obtain ⟨hx, hb, hr, hml, hown, hts, hlk⟩ := C0
  have hown : ss.vm.findClass RX1 = some mm.cls := hown
  have hl : lv_has ls 5 [(0, .ref k0), (1, .int (nI p)), (2, .ref w0), (3, .int (nI v))] := hl
  have hP : va_P D vwCl [(k0, .inr (1, [.ref kl, .ref ks, .ref kw, .int (nI n)])), (kl, .inl (cJ, 24, .inr (.inl (lF KL)))), (ks, .inl (cI, 24, .inl (nF KS))), (kw, .inl (cI, 24, .inl (nF KW))), (w0, .inr (4, [.long (lN A), .int (nI s)]))] ss.heap := hP
  refine lv_aload_n hx hb dX1_insert_0 rfl (lv_at hl 0 rfl) ?_
  refine va_get (D := D) (ci := 1) (v := .int (nI n)) (C := RX1) (T := TX1) (N := 4) hx hb hts inX1 hown hK hP 0 rfl rfl 3 (by decide) (hts _ mf_X1_22) (fun _ h9 => h9) rfl dX1_insert_1 ?_
  refine lv_istore (lv' := [(4, .int (nI n)), (0, .ref k0), (1, .int (nI p)), (2, .ref w0), (3, .int (nI v))]) hx hb dX1_insert_4 hl (by decide) rfl (fun ls hl => ?_)
  have loop6 : ∀ (d : Nat) (i : Nat) (FL : Nat → Nat) (FS : Nat → Nat) (FW : Nat → Nat) (H : Heap) (locs : List Loc) (ls : Array Slot), i < d → (p ≤ i) → (i ≤ n) → (∀ j, FL j = if i < j ∧ j ≤ n then KL (j - 1) else KL j) → (∀ j, FS j = if i < j ∧ j ≤ n then KS (j - 1) else KS j) → (∀ j, FW j = if i < j ∧ j ≤ n then KW (j - 1) else KW j) → va_P D vwCl [(k0, .inr (1, [.ref kl, .ref ks, .ref kw, .int (nI n)])), (kl, .inl (cJ, 24, .inr (.inl (lF FL)))), (ks, .inl (cI, 24, .inl (nF FS))), (kw, .inl (cI, 24, .inl (nF FW))), (w0, .inr (4, [.long (lN A), .int (nI s)]))] H → va_D AA [(k0, .inr (1, [.ref kl, .ref ks, .ref kw, .int (nI n)])), (kl, .inl (cJ, 24, .inr (.inl (lF FL)))), (ks, .inl (cI, 24, .inl (nF FS))), (kw, .inl (cI, 24, .inl (nF FW))), (w0, .inr (4, [.long (lN A), .int (nI s)]))] → va_S AA ss.heap H locs → lv_has ls 5 [(0, .ref k0), (1, .int (nI p)), (2, .ref w0), (3, .int (nI v)), (4, .int (nI i))] → W pp l ee (rmN 1 20) ss mm [.ref k0, .int (nI p), .ref w0, .int (nI v)].toArray below meth cd H locs 0 0 (MQ below (QW D AA (fun x w => x = none ∧ w = [(k0, .inr (1, [.ref kl, .ref ks, .ref kw, .int (nI (n + 1))])), (kl, .inl (cJ, 24, .inr (.inl (lF (insF p A n KL))))), (ks, .inl (cI, 24, .inl (nF (insF p s n KS)))), (kw, .inl (cI, 24, .inl (nF (insF p v n KW)))), (w0, .inr (4, [.long (lN A), .int (nI s)]))])) [.ref k0, .int (nI p), .ref w0, .int (nI v)].toArray ss 0 0 AA) (F0 mm 6 ls []) := by
    intro d
    induction d with
    | zero => intro i FL FS FW H locs ls h; exact absurd h (Nat.not_lt_zero _)
    | succ d ih6 =>
      intro i FL FS FW H locs ls hd6 h1 h2 hL hZ hW hP hD hS hl
      refine lv_iload hx hb dX1_insert_6 (lv_at hl 4 rfl) ?_
      refine lv_iload_n hx hb dX1_insert_8 rfl (lv_at hl 1 rfl) ?_
      refine n_le (tgt := 66) hx hb dX1_insert_9 (by decide) (by omega) (by omega) (fun c1 => ?_) (fun c1 => ?_)
      ·
        refine lv_aload_n hx hb dX1_insert_66 rfl (lv_at hl 0 rfl) ?_
        refine va_get (D := D) (ci := 1) (v := .ref kl) (C := RX1) (T := TX1) (N := 4) hx hb hts inX1 hown hK hP 0 rfl rfl 0 (by decide) (hts _ mf_X1_9) (fun _ h9 => h9) rfl dX1_insert_67 ?_
        refine lv_iload_n hx hb dX1_insert_70 rfl (lv_at hl 1 rfl) ?_
        refine lv_aload_n hx hb dX1_insert_71 rfl (lv_at hl 2 rfl) ?_
        refine ro_V (As := []) (rest := [.int (nI p), .ref kl]) ⟨hx, hb, hml, hown, hts⟩ (c_X4_letters l D cI cJ cZ w0 A s) (k_X1_26 hts ⟨Nat.le_of_ble_eq_true rfl, Nat.le_of_ble_eq_true rfl⟩) hK hP 4 rfl rfl rfl [4] rfl rfl hl.1 rfl (Nat.le_of_ble_eq_true rfl) dX1_insert_72 ⟨Nat.le_of_ble_eq_true rfl, Nat.le_of_ble_eq_true rfl⟩ ?_
        refine n_last hx hb hK hP hD hS 1 1 rfl rfl (k := p) (v := A) (by omega) (by decide) dX1_insert_75 (fun H locs hP hD hS => ?_)
        have hP : va_P D vwCl [(k0, .inr (1, [.ref kl, .ref ks, .ref kw, .int (nI n)])), (kl, .inl (cJ, 24, .inr (.inl (lF (up FL p A))))), (ks, .inl (cI, 24, .inl (nF FS))), (kw, .inl (cI, 24, .inl (nF FW))), (w0, .inr (4, [.long (lN A), .int (nI s)]))] H := hP
        have hD : va_D AA [(k0, .inr (1, [.ref kl, .ref ks, .ref kw, .int (nI n)])), (kl, .inl (cJ, 24, .inr (.inl (lF (up FL p A))))), (ks, .inl (cI, 24, .inl (nF FS))), (kw, .inl (cI, 24, .inl (nF FW))), (w0, .inr (4, [.long (lN A), .int (nI s)]))] := hD
        refine lv_aload_n hx hb dX1_insert_76 rfl (lv_at hl 0 rfl) ?_
        refine va_get (D := D) (ci := 1) (v := .ref ks) (C := RX1) (T := TX1) (N := 4) hx hb hts inX1 hown hK hP 0 rfl rfl 1 (by decide) (hts _ mf_X1_15) (fun _ h9 => h9) rfl dX1_insert_77 ?_
        refine lv_iload_n hx hb dX1_insert_80 rfl (lv_at hl 1 rfl) ?_
        refine lv_aload_n hx hb dX1_insert_81 rfl (lv_at hl 2 rfl) ?_
        refine ro_V (As := []) (rest := [.int (nI p), .ref ks]) ⟨hx, hb, hml, hown, hts⟩ (c_X4_size l D cI cJ cZ w0 A s) (k_X1_31 hts ⟨Nat.le_of_ble_eq_true rfl, Nat.le_of_ble_eq_true rfl⟩) hK hP 4 rfl rfl rfl [4] rfl rfl hl.1 rfl (Nat.le_of_ble_eq_true rfl) dX1_insert_82 ⟨Nat.le_of_ble_eq_true rfl, Nat.le_of_ble_eq_true rfl⟩ ?_
        refine n_iast hx hb hK hP hD hS 2 0 rfl rfl (k := p) (v := s) (by omega) (by decide) dX1_insert_85 (fun H locs hP hD hS => ?_)
        have hP : va_P D vwCl [(k0, .inr (1, [.ref kl, .ref ks, .ref kw, .int (nI n)])), (kl, .inl (cJ, 24, .inr (.inl (lF (up FL p A))))), (ks, .inl (cI, 24, .inl (nF (up FS p s)))), (kw, .inl (cI, 24, .inl (nF FW))), (w0, .inr (4, [.long (lN A), .int (nI s)]))] H := hP
        have hD : va_D AA [(k0, .inr (1, [.ref kl, .ref ks, .ref kw, .int (nI n)])), (kl, .inl (cJ, 24, .inr (.inl (lF (up FL p A))))), (ks, .inl (cI, 24, .inl (nF (up FS p s)))), (kw, .inl (cI, 24, .inl (nF FW))), (w0, .inr (4, [.long (lN A), .int (nI s)]))] := hD
        refine lv_aload_n hx hb dX1_insert_86 rfl (lv_at hl 0 rfl) ?_
        refine va_get (D := D) (ci := 1) (v := .ref kw) (C := RX1) (T := TX1) (N := 4) hx hb hts inX1 hown hK hP 0 rfl rfl 2 (by decide) (hts _ mf_X1_19) (fun _ h9 => h9) rfl dX1_insert_87 ?_
        refine lv_iload_n hx hb dX1_insert_90 rfl (lv_at hl 1 rfl) ?_
        refine lv_iload_n hx hb dX1_insert_91 rfl (lv_at hl 3 rfl) ?_
        refine n_iast hx hb hK hP hD hS 3 0 rfl rfl (k := p) (v := v) (by omega) (by decide) dX1_insert_92 (fun H locs hP hD hS => ?_)
        have hP : va_P D vwCl [(k0, .inr (1, [.ref kl, .ref ks, .ref kw, .int (nI n)])), (kl, .inl (cJ, 24, .inr (.inl (lF (up FL p A))))), (ks, .inl (cI, 24, .inl (nF (up FS p s)))), (kw, .inl (cI, 24, .inl (nF (up FW p v)))), (w0, .inr (4, [.long (lN A), .int (nI s)]))] H := hP
        have hD : va_D AA [(k0, .inr (1, [.ref kl, .ref ks, .ref kw, .int (nI n)])), (kl, .inl (cJ, 24, .inr (.inl (lF (up FL p A))))), (ks, .inl (cI, 24, .inl (nF (up FS p s)))), (kw, .inl (cI, 24, .inl (nF (up FW p v)))), (w0, .inr (4, [.long (lN A), .int (nI s)]))] := hD
        refine lv_aload_n hx hb dX1_insert_93 rfl (lv_at hl 0 rfl) ?_
        refine lv_dup hx hb dX1_insert_94 rfl ?_
        refine va_get (D := D) (ci := 1) (v := .int (nI n)) (C := RX1) (T := TX1) (N := 4) hx hb hts inX1 hown hK hP 0 rfl rfl 3 (by decide) (hts _ mf_X1_22) (fun _ h9 => h9) rfl dX1_insert_95 ?_
        refine lv_iconst (v := nI 1) hx hb dX1_insert_98 (by decide +kernel) ?_
        refine n_iadd hx hb dX1_insert_99 ?_
        refine va_put (D := D) (ci := 1) (v := .int (nI (n + 1))) (ty := .int) (C := RX1) (T := TX1) (N := 4) hx hb hts inX1 tyX1 tyX1_ok nmX1 hown hK hP hD hS 0 rfl rfl 3 (by decide) (hts _ mf_X1_22) (fun _ h9 => h9) rfl (by decide +kernel) rfl rfl (Nat.le_of_ble_eq_true rfl) dX1_insert_100 (fun H locs hP hD hS => ?_)
        have hP : va_P D vwCl [(k0, .inr (1, [.ref kl, .ref ks, .ref kw, .int (nI (n + 1))])), (kl, .inl (cJ, 24, .inr (.inl (lF (up FL p A))))), (ks, .inl (cI, 24, .inl (nF (up FS p s)))), (kw, .inl (cI, 24, .inl (nF (up FW p v)))), (w0, .inr (4, [.long (lN A), .int (nI s)]))] H := hP
        have hD : va_D AA [(k0, .inr (1, [.ref kl, .ref ks, .ref kw, .int (nI (n + 1))])), (kl, .inl (cJ, 24, .inr (.inl (lF (up FL p A))))), (ks, .inl (cI, 24, .inl (nF (up FS p s)))), (kw, .inl (cI, 24, .inl (nF (up FW p v)))), (w0, .inr (4, [.long (lN A), .int (nI s)]))] := hD
        exact wr_vret hx hb hr hlk hP hD hS dX1_insert_103 (⟨rfl, by rw [sh_end hL (show i = p by omega), sh_end hZ (show i = p by omega), sh_end hW (show i = p by omega)]⟩)
      ·
        refine lv_aload_n hx hb dX1_insert_12 rfl (lv_at hl 0 rfl) ?_
        refine va_get (D := D) (ci := 1) (v := .ref kl) (C := RX1) (T := TX1) (N := 4) hx hb hts inX1 hown hK hP 0 rfl rfl 0 (by decide) (hts _ mf_X1_9) (fun _ h9 => h9) rfl dX1_insert_13 ?_
        refine lv_iload hx hb dX1_insert_16 (lv_at hl 4 rfl) ?_
        refine lv_aload_n hx hb dX1_insert_18 rfl (lv_at hl 0 rfl) ?_
        refine va_get (D := D) (ci := 1) (v := .ref kl) (C := RX1) (T := TX1) (N := 4) hx hb hts inX1 hown hK hP 0 rfl rfl 0 (by decide) (hts _ mf_X1_9) (fun _ h9 => h9) rfl dX1_insert_19 ?_
        refine lv_iload hx hb dX1_insert_22 (lv_at hl 4 rfl) ?_
        refine lv_iconst (v := nI 1) hx hb dX1_insert_24 (by decide +kernel) ?_
        refine n_isub hx hb dX1_insert_25 (by omega) ?_
        refine n_lald hx hb hK hP 1 1 rfl rfl (k := (i - 1)) (by omega) (by decide) dX1_insert_26 ?_
        refine n_last hx hb hK hP hD hS 1 1 rfl rfl (k := i) (v := (FL (i - 1))) (by omega) (by decide) dX1_insert_27 (fun H locs hP hD hS => ?_)
        have hP : va_P D vwCl [(k0, .inr (1, [.ref kl, .ref ks, .ref kw, .int (nI n)])), (kl, .inl (cJ, 24, .inr (.inl (lF (up FL i (FL (i - 1))))))), (ks, .inl (cI, 24, .inl (nF FS))), (kw, .inl (cI, 24, .inl (nF FW))), (w0, .inr (4, [.long (lN A), .int (nI s)]))] H := hP
        have hD : va_D AA [(k0, .inr (1, [.ref kl, .ref ks, .ref kw, .int (nI n)])), (kl, .inl (cJ, 24, .inr (.inl (lF (up FL i (FL (i - 1))))))), (ks, .inl (cI, 24, .inl (nF FS))), (kw, .inl (cI, 24, .inl (nF FW))), (w0, .inr (4, [.long (lN A), .int (nI s)]))] := hD
        refine lv_aload_n hx hb dX1_insert_28 rfl (lv_at hl 0 rfl) ?_
        refine va_get (D := D) (ci := 1) (v := .ref ks) (C := RX1) (T := TX1) (N := 4) hx hb hts inX1 hown hK hP 0 rfl rfl 1 (by decide) (hts _ mf_X1_15) (fun _ h9 => h9) rfl dX1_insert_29 ?_
        refine lv_iload hx hb dX1_insert_32 (lv_at hl 4 rfl) ?_
        refine lv_aload_n hx hb dX1_insert_34 rfl (lv_at hl 0 rfl) ?_
        refine va_get (D := D) (ci := 1) (v := .ref ks) (C := RX1) (T := TX1) (N := 4) hx hb hts inX1 hown hK hP 0 rfl rfl 1 (by decide) (hts _ mf_X1_15) (fun _ h9 => h9) rfl dX1_insert_35 ?_
        refine lv_iload hx hb dX1_insert_38 (lv_at hl 4 rfl) ?_
        refine lv_iconst (v := nI 1) hx hb dX1_insert_40 (by decide +kernel) ?_
        refine n_isub hx hb dX1_insert_41 (by omega) ?_
        refine n_iald hx hb hK hP 2 0 rfl rfl (k := (i - 1)) (by omega) (by decide) dX1_insert_42 ?_
        refine n_iast hx hb hK hP hD hS 2 0 rfl rfl (k := i) (v := (FS (i - 1))) (by omega) (by decide) dX1_insert_43 (fun H locs hP hD hS => ?_)
        have hP : va_P D vwCl [(k0, .inr (1, [.ref kl, .ref ks, .ref kw, .int (nI n)])), (kl, .inl (cJ, 24, .inr (.inl (lF (up FL i (FL (i - 1))))))), (ks, .inl (cI, 24, .inl (nF (up FS i (FS (i - 1)))))), (kw, .inl (cI, 24, .inl (nF FW))), (w0, .inr (4, [.long (lN A), .int (nI s)]))] H := hP
        have hD : va_D AA [(k0, .inr (1, [.ref kl, .ref ks, .ref kw, .int (nI n)])), (kl, .inl (cJ, 24, .inr (.inl (lF (up FL i (FL (i - 1))))))), (ks, .inl (cI, 24, .inl (nF (up FS i (FS (i - 1)))))), (kw, .inl (cI, 24, .inl (nF FW))), (w0, .inr (4, [.long (lN A), .int (nI s)]))] := hD
        refine lv_aload_n hx hb dX1_insert_44 rfl (lv_at hl 0 rfl) ?_
        refine va_get (D := D) (ci := 1) (v := .ref kw) (C := RX1) (T := TX1) (N := 4) hx hb hts inX1 hown hK hP 0 rfl rfl 2 (by decide) (hts _ mf_X1_19) (fun _ h9 => h9) rfl dX1_insert_45 ?_
        refine lv_iload hx hb dX1_insert_48 (lv_at hl 4 rfl) ?_
        refine lv_aload_n hx hb dX1_insert_50 rfl (lv_at hl 0 rfl) ?_
        refine va_get (D := D) (ci := 1) (v := .ref kw) (C := RX1) (T := TX1) (N := 4) hx hb hts inX1 hown hK hP 0 rfl rfl 2 (by decide) (hts _ mf_X1_19) (fun _ h9 => h9) rfl dX1_insert_51 ?_
        refine lv_iload hx hb dX1_insert_54 (lv_at hl 4 rfl) ?_
        refine lv_iconst (v := nI 1) hx hb dX1_insert_56 (by decide +kernel) ?_
        refine n_isub hx hb dX1_insert_57 (by omega) ?_
        refine n_iald hx hb hK hP 3 0 rfl rfl (k := (i - 1)) (by omega) (by decide) dX1_insert_58 ?_
        refine n_iast hx hb hK hP hD hS 3 0 rfl rfl (k := i) (v := (FW (i - 1))) (by omega) (by decide) dX1_insert_59 (fun H locs hP hD hS => ?_)
        have hP : va_P D vwCl [(k0, .inr (1, [.ref kl, .ref ks, .ref kw, .int (nI n)])), (kl, .inl (cJ, 24, .inr (.inl (lF (up FL i (FL (i - 1))))))), (ks, .inl (cI, 24, .inl (nF (up FS i (FS (i - 1)))))), (kw, .inl (cI, 24, .inl (nF (up FW i (FW (i - 1)))))), (w0, .inr (4, [.long (lN A), .int (nI s)]))] H := hP
        have hD : va_D AA [(k0, .inr (1, [.ref kl, .ref ks, .ref kw, .int (nI n)])), (kl, .inl (cJ, 24, .inr (.inl (lF (up FL i (FL (i - 1))))))), (ks, .inl (cI, 24, .inl (nF (up FS i (FS (i - 1)))))), (kw, .inl (cI, 24, .inl (nF (up FW i (FW (i - 1)))))), (w0, .inr (4, [.long (lN A), .int (nI s)]))] := hD
        refine lv_iinc (v := nI (i - 1)) (lv' := [(4, .int (nI (i - 1))), (0, .ref k0), (1, .int (nI p)), (2, .ref w0), (3, .int (nI v))]) hx hb dX1_insert_60 hl (k := 4) rfl (sb_m1 (by omega)) (by decide) rfl (fun ls hl => ?_)
        refine lv_goto (tgt := 6) hx hb dX1_insert_63 (by decide) ?_
        exact ih6 (i - 1) (up FL i (FL (i - 1))) (up FS i (FS (i - 1))) (up FW i (FW (i - 1))) _ _ ls (by omega) (by omega) (by omega) (sh_step hL (by omega) h2) (sh_step hZ (by omega) h2) (sh_step hW (by omega) h2) hP hD hS (lv_sub hl [1, 2, 3, 4, 0] rfl)
  exact loop6 _ n KL KS KW _ _ ls (Nat.lt_succ_self _) hp (Nat.le_refl _) (fun j => (if_neg (by omega)).symm) (fun j => (if_neg (by omega)).symm) (fun j => (if_neg (by omega)).symm) hP hD hS (lv_sub hl [1, 2, 3, 4, 0] rfl)
set_option maxHeartbeats 4000000 in
set_option maxRecDepth 100000 in
theorem c_X1_remove (l : Launch) (D : va_G) (cI cJ cZ : ClassId) (k0 kl ks kw : Nat) (KL KS KW : Nat → Nat) (n : Nat) (hn : n ≤ 24) (f q : Nat) (hf : f + q ≤ n) (sz : Nat) : WR l yX1_remove cX1_remove 4 none (rmN 0 0) D (ty3 cI cJ cZ) [.ref k0, .int (nI f), .int (nI q)] [(k0, .inr (1, [.ref kl, .ref ks, .ref kw, .int (nI n)])), (kl, .inl (cJ, 24, .inr (.inl (lF KL)))), (ks, .inl (cI, 24, .inl (nF KS))), (kw, .inl (cI, 24, .inl (nF KW)))] sz (fun x w => x = none ∧ w = [(k0, .inr (1, [.ref kl, .ref ks, .ref kw, .int (nI (n - q))])), (kl, .inl (cJ, 24, .inr (.inl (lF (rmvF f q n KL))))), (ks, .inl (cI, 24, .inl (nF (rmvF f q n KS)))), (kw, .inl (cI, 24, .inl (nF (rmvF f q n KW))))]) := by
  refine wr_start (by decide) (Nat.le_of_ble_eq_true rfl) ?_
  intro pp ee ss mm below meth cd AA C0 hAA hP hK hD hS hN hnm ls hl
  obtain ⟨hx, hb, hr, hml, hown, hts, hlk⟩ := C0
  have hown : ss.vm.findClass RX1 = some mm.cls := hown
  have hl : lv_has ls 4 [(0, .ref k0), (1, .int (nI f)), (2, .int (nI q))] := hl
  have hP : va_P D vwCl [(k0, .inr (1, [.ref kl, .ref ks, .ref kw, .int (nI n)])), (kl, .inl (cJ, 24, .inr (.inl (lF KL)))), (ks, .inl (cI, 24, .inl (nF KS))), (kw, .inl (cI, 24, .inl (nF KW)))] ss.heap := hP
  refine lv_iload_n hx hb dX1_remove_0 rfl (lv_at hl 2 rfl) ?_
  refine lv_iconst (v := nI 1) hx hb dX1_remove_1 (by decide +kernel) ?_
  refine n_lt (tgt := 19) hx hb dX1_remove_2 (by decide) (by omega) (by omega) (fun c1 => ?_) (fun c1 => ?_)
  ·
    exact wr_vret hx hb hr hlk hP hD hS dX1_remove_19 (⟨rfl, by rw [show q = 0 by omega, rm_0, rm_0, rm_0]; rfl⟩)
  ·
    refine lv_iload_n hx hb dX1_remove_5 rfl (lv_at hl 1 rfl) ?_
    refine n_if_lt (tgt := 19) hx hb dX1_remove_6 (by decide) (by omega) ?_
    refine lv_iload_n hx hb dX1_remove_9 rfl (lv_at hl 1 rfl) ?_
    refine lv_iload_n hx hb dX1_remove_10 rfl (lv_at hl 2 rfl) ?_
    refine n_iadd hx hb dX1_remove_11 ?_
    refine lv_aload_n hx hb dX1_remove_12 rfl (lv_at hl 0 rfl) ?_
    refine va_get (D := D) (ci := 1) (v := .int (nI n)) (C := RX1) (T := TX1) (N := 4) hx hb hts inX1 hown hK hP 0 rfl rfl 3 (by decide) (hts _ mf_X1_22) (fun _ h9 => h9) rfl dX1_remove_13 ?_
    refine n_le (tgt := 20) hx hb dX1_remove_16 (by decide) (by omega) (by omega) (fun c3 => ?_) (fun c3 => ?_)
    ·
      refine lv_iload_n hx hb dX1_remove_20 rfl (lv_at hl 1 rfl) ?_
      refine lv_istore_n (lv' := [(3, .int (nI f)), (0, .ref k0), (1, .int (nI f)), (2, .int (nI q))]) hx hb dX1_remove_21 rfl hl (by decide) rfl (fun ls hl => ?_)
      have loop22 : ∀ (d : Nat) (i : Nat) (FL : Nat → Nat) (FS : Nat → Nat) (FW : Nat → Nat) (H : Heap) (locs : List Loc) (ls : Array Slot), n - i < d → (f ≤ i) → (i + q ≤ n) → (∀ j, FL j = if f ≤ j ∧ j < i then KL (j + q) else KL j) → (∀ j, FS j = if f ≤ j ∧ j < i then KS (j + q) else KS j) → (∀ j, FW j = if f ≤ j ∧ j < i then KW (j + q) else KW j) → va_P D vwCl [(k0, .inr (1, [.ref kl, .ref ks, .ref kw, .int (nI n)])), (kl, .inl (cJ, 24, .inr (.inl (lF FL)))), (ks, .inl (cI, 24, .inl (nF FS))), (kw, .inl (cI, 24, .inl (nF FW)))] H → va_D AA [(k0, .inr (1, [.ref kl, .ref ks, .ref kw, .int (nI n)])), (kl, .inl (cJ, 24, .inr (.inl (lF FL)))), (ks, .inl (cI, 24, .inl (nF FS))), (kw, .inl (cI, 24, .inl (nF FW)))] → va_S AA ss.heap H locs → lv_has ls 4 [(0, .ref k0), (1, .int (nI f)), (2, .int (nI q)), (3, .int (nI i))] → W pp l ee (rmN 0 0) ss mm [.ref k0, .int (nI f), .int (nI q)].toArray below meth cd H locs 0 0 (MQ below (QW D AA (fun x w => x = none ∧ w = [(k0, .inr (1, [.ref kl, .ref ks, .ref kw, .int (nI (n - q))])), (kl, .inl (cJ, 24, .inr (.inl (lF (rmvF f q n KL))))), (ks, .inl (cI, 24, .inl (nF (rmvF f q n KS)))), (kw, .inl (cI, 24, .inl (nF (rmvF f q n KW))))])) [.ref k0, .int (nI f), .int (nI q)].toArray ss 0 0 AA) (F0 mm 22 ls []) := by
        intro d
        induction d with
        | zero => intro i FL FS FW H locs ls h; exact absurd h (Nat.not_lt_zero _)
        | succ d ih22 =>
          intro i FL FS FW H locs ls hd22 h1 h2 hL hZ hW hP hD hS hl
          refine lv_iload_n hx hb dX1_remove_22 rfl (lv_at hl 3 rfl) ?_
          refine lv_iload_n hx hb dX1_remove_23 rfl (lv_at hl 2 rfl) ?_
          refine n_iadd hx hb dX1_remove_24 ?_
          refine lv_aload_n hx hb dX1_remove_25 rfl (lv_at hl 0 rfl) ?_
          refine va_get (D := D) (ci := 1) (v := .int (nI n)) (C := RX1) (T := TX1) (N := 4) hx hb hts inX1 hown hK hP 0 rfl rfl 3 (by decide) (hts _ mf_X1_22) (fun _ h9 => h9) rfl dX1_remove_26 ?_
          refine n_ge (tgt := 80) hx hb dX1_remove_29 (by decide) (by omega) (by omega) (fun c4 => ?_) (fun c4 => ?_)
          ·
            refine lv_aload_n hx hb dX1_remove_80 rfl (lv_at hl 0 rfl) ?_
            refine lv_dup hx hb dX1_remove_81 rfl ?_
            refine va_get (D := D) (ci := 1) (v := .int (nI n)) (C := RX1) (T := TX1) (N := 4) hx hb hts inX1 hown hK hP 0 rfl rfl 3 (by decide) (hts _ mf_X1_22) (fun _ h9 => h9) rfl dX1_remove_82 ?_
            refine lv_iload_n hx hb dX1_remove_85 rfl (lv_at hl 2 rfl) ?_
            refine n_isub hx hb dX1_remove_86 (by omega) ?_
            refine va_put (D := D) (ci := 1) (v := .int (nI (n - q))) (ty := .int) (C := RX1) (T := TX1) (N := 4) hx hb hts inX1 tyX1 tyX1_ok nmX1 hown hK hP hD hS 0 rfl rfl 3 (by decide) (hts _ mf_X1_22) (fun _ h9 => h9) rfl (by decide +kernel) rfl rfl (Nat.le_of_ble_eq_true rfl) dX1_remove_87 (fun H locs hP hD hS => ?_)
            have hP : va_P D vwCl [(k0, .inr (1, [.ref kl, .ref ks, .ref kw, .int (nI (n - q))])), (kl, .inl (cJ, 24, .inr (.inl (lF FL)))), (ks, .inl (cI, 24, .inl (nF FS))), (kw, .inl (cI, 24, .inl (nF FW)))] H := hP
            have hD : va_D AA [(k0, .inr (1, [.ref kl, .ref ks, .ref kw, .int (nI (n - q))])), (kl, .inl (cJ, 24, .inr (.inl (lF FL)))), (ks, .inl (cI, 24, .inl (nF FS))), (kw, .inl (cI, 24, .inl (nF FW)))] := hD
            exact wr_vret hx hb hr hlk hP hD hS dX1_remove_90 (⟨rfl, by rw [rm_end hL (show i + q = n by omega), rm_end hZ (show i + q = n by omega), rm_end hW (show i + q = n by omega)]⟩)
          ·
            refine lv_aload_n hx hb dX1_remove_32 rfl (lv_at hl 0 rfl) ?_
            refine va_get (D := D) (ci := 1) (v := .ref kl) (C := RX1) (T := TX1) (N := 4) hx hb hts inX1 hown hK hP 0 rfl rfl 0 (by decide) (hts _ mf_X1_9) (fun _ h9 => h9) rfl dX1_remove_33 ?_
            refine lv_iload_n hx hb dX1_remove_36 rfl (lv_at hl 3 rfl) ?_
            refine lv_aload_n hx hb dX1_remove_37 rfl (lv_at hl 0 rfl) ?_
            refine va_get (D := D) (ci := 1) (v := .ref kl) (C := RX1) (T := TX1) (N := 4) hx hb hts inX1 hown hK hP 0 rfl rfl 0 (by decide) (hts _ mf_X1_9) (fun _ h9 => h9) rfl dX1_remove_38 ?_
            refine lv_iload_n hx hb dX1_remove_41 rfl (lv_at hl 3 rfl) ?_
            refine lv_iload_n hx hb dX1_remove_42 rfl (lv_at hl 2 rfl) ?_
            refine n_iadd hx hb dX1_remove_43 ?_
            refine n_lald hx hb hK hP 1 1 rfl rfl (k := (i + q)) (by omega) (by decide) dX1_remove_44 ?_
            refine n_last hx hb hK hP hD hS 1 1 rfl rfl (k := i) (v := (FL (i + q))) (by omega) (by decide) dX1_remove_45 (fun H locs hP hD hS => ?_)
            have hP : va_P D vwCl [(k0, .inr (1, [.ref kl, .ref ks, .ref kw, .int (nI n)])), (kl, .inl (cJ, 24, .inr (.inl (lF (up FL i (FL (i + q))))))), (ks, .inl (cI, 24, .inl (nF FS))), (kw, .inl (cI, 24, .inl (nF FW)))] H := hP
            have hD : va_D AA [(k0, .inr (1, [.ref kl, .ref ks, .ref kw, .int (nI n)])), (kl, .inl (cJ, 24, .inr (.inl (lF (up FL i (FL (i + q))))))), (ks, .inl (cI, 24, .inl (nF FS))), (kw, .inl (cI, 24, .inl (nF FW)))] := hD
            refine lv_aload_n hx hb dX1_remove_46 rfl (lv_at hl 0 rfl) ?_
            refine va_get (D := D) (ci := 1) (v := .ref ks) (C := RX1) (T := TX1) (N := 4) hx hb hts inX1 hown hK hP 0 rfl rfl 1 (by decide) (hts _ mf_X1_15) (fun _ h9 => h9) rfl dX1_remove_47 ?_
            refine lv_iload_n hx hb dX1_remove_50 rfl (lv_at hl 3 rfl) ?_
            refine lv_aload_n hx hb dX1_remove_51 rfl (lv_at hl 0 rfl) ?_
            refine va_get (D := D) (ci := 1) (v := .ref ks) (C := RX1) (T := TX1) (N := 4) hx hb hts inX1 hown hK hP 0 rfl rfl 1 (by decide) (hts _ mf_X1_15) (fun _ h9 => h9) rfl dX1_remove_52 ?_
            refine lv_iload_n hx hb dX1_remove_55 rfl (lv_at hl 3 rfl) ?_
            refine lv_iload_n hx hb dX1_remove_56 rfl (lv_at hl 2 rfl) ?_
            refine n_iadd hx hb dX1_remove_57 ?_
            refine n_iald hx hb hK hP 2 0 rfl rfl (k := (i + q)) (by omega) (by decide) dX1_remove_58 ?_
            refine n_iast hx hb hK hP hD hS 2 0 rfl rfl (k := i) (v := (FS (i + q))) (by omega) (by decide) dX1_remove_59 (fun H locs hP hD hS => ?_)
            have hP : va_P D vwCl [(k0, .inr (1, [.ref kl, .ref ks, .ref kw, .int (nI n)])), (kl, .inl (cJ, 24, .inr (.inl (lF (up FL i (FL (i + q))))))), (ks, .inl (cI, 24, .inl (nF (up FS i (FS (i + q)))))), (kw, .inl (cI, 24, .inl (nF FW)))] H := hP
            have hD : va_D AA [(k0, .inr (1, [.ref kl, .ref ks, .ref kw, .int (nI n)])), (kl, .inl (cJ, 24, .inr (.inl (lF (up FL i (FL (i + q))))))), (ks, .inl (cI, 24, .inl (nF (up FS i (FS (i + q)))))), (kw, .inl (cI, 24, .inl (nF FW)))] := hD
            refine lv_aload_n hx hb dX1_remove_60 rfl (lv_at hl 0 rfl) ?_
            refine va_get (D := D) (ci := 1) (v := .ref kw) (C := RX1) (T := TX1) (N := 4) hx hb hts inX1 hown hK hP 0 rfl rfl 2 (by decide) (hts _ mf_X1_19) (fun _ h9 => h9) rfl dX1_remove_61 ?_
            refine lv_iload_n hx hb dX1_remove_64 rfl (lv_at hl 3 rfl) ?_
            refine lv_aload_n hx hb dX1_remove_65 rfl (lv_at hl 0 rfl) ?_
            refine va_get (D := D) (ci := 1) (v := .ref kw) (C := RX1) (T := TX1) (N := 4) hx hb hts inX1 hown hK hP 0 rfl rfl 2 (by decide) (hts _ mf_X1_19) (fun _ h9 => h9) rfl dX1_remove_66 ?_
            refine lv_iload_n hx hb dX1_remove_69 rfl (lv_at hl 3 rfl) ?_
            refine lv_iload_n hx hb dX1_remove_70 rfl (lv_at hl 2 rfl) ?_
            refine n_iadd hx hb dX1_remove_71 ?_
            refine n_iald hx hb hK hP 3 0 rfl rfl (k := (i + q)) (by omega) (by decide) dX1_remove_72 ?_
            refine n_iast hx hb hK hP hD hS 3 0 rfl rfl (k := i) (v := (FW (i + q))) (by omega) (by decide) dX1_remove_73 (fun H locs hP hD hS => ?_)
            have hP : va_P D vwCl [(k0, .inr (1, [.ref kl, .ref ks, .ref kw, .int (nI n)])), (kl, .inl (cJ, 24, .inr (.inl (lF (up FL i (FL (i + q))))))), (ks, .inl (cI, 24, .inl (nF (up FS i (FS (i + q)))))), (kw, .inl (cI, 24, .inl (nF (up FW i (FW (i + q))))))] H := hP
            have hD : va_D AA [(k0, .inr (1, [.ref kl, .ref ks, .ref kw, .int (nI n)])), (kl, .inl (cJ, 24, .inr (.inl (lF (up FL i (FL (i + q))))))), (ks, .inl (cI, 24, .inl (nF (up FS i (FS (i + q)))))), (kw, .inl (cI, 24, .inl (nF (up FW i (FW (i + q))))))] := hD
            refine lv_iinc (v := nI (i + 1)) (lv' := [(3, .int (nI (i + 1))), (0, .ref k0), (1, .int (nI f)), (2, .int (nI q))]) hx hb dX1_remove_74 hl (k := 3) rfl (nI_add i 1) (by decide) rfl (fun ls hl => ?_)
            refine lv_goto (tgt := 22) hx hb dX1_remove_77 (by decide) ?_
            exact ih22 (i + 1) (up FL i (FL (i + q))) (up FS i (FS (i + q))) (up FW i (FW (i + q))) _ _ ls (by omega) (by omega) (by omega) (rm_step hL h1) (rm_step hZ h1) (rm_step hW h1) hP hD hS (lv_sub hl [1, 2, 3, 0] rfl)
      exact loop22 _ f KL KS KW _ _ ls (Nat.lt_succ_self _) (Nat.le_refl _) hf (fun j => (if_neg (by omega)).symm) (fun j => (if_neg (by omega)).symm) (fun j => (if_neg (by omega)).symm) hP hD hS (lv_sub hl [1, 2, 3, 0] rfl)
    ·
      exact absurd c3 (by omega)
set_option maxHeartbeats 4000000 in
set_option maxRecDepth 100000 in
theorem c_X1_addWorth (l : Launch) (D : va_G) (cI cJ cZ : ClassId) (k0 kl ks kw : Nat) (KL KS KW : Nat → Nat) (n : Nat) (hn : n ≤ 24) (hv : ∀ k, k < n → KW k ≤ 9999) (f q v : Nat) (hf : f + q ≤ n) (hv9 : v ≤ 9999) (sz : Nat) : WR l yX1_addWorth cX1_addWorth 5 none (rmN 1 21) D (ty3 cI cJ cZ) [.ref k0, .int (nI f), .int (nI q), .int (nI v)] [(k0, .inr (1, [.ref kl, .ref ks, .ref kw, .int (nI n)])), (kl, .inl (cJ, 24, .inr (.inl (lF KL)))), (ks, .inl (cI, 24, .inl (nF KS))), (kw, .inl (cI, 24, .inl (nF KW)))] sz (fun x w => x = none ∧ w = [(k0, .inr (1, [.ref kl, .ref ks, .ref kw, .int (nI n)])), (kl, .inl (cJ, 24, .inr (.inl (lF KL)))), (ks, .inl (cI, 24, .inl (nF KS))), (kw, .inl (cI, 24, .inl (nF (adwF f q v KW))))]) := by
  refine wr_start (by decide) (Nat.le_of_ble_eq_true rfl) ?_
  intro pp ee ss mm below meth cd AA C0 hAA hP hK hD hS hN hnm ls hl
  obtain ⟨hx, hb, hr, hml, hown, hts, hlk⟩ := C0
  have hown : ss.vm.findClass RX1 = some mm.cls := hown
  have hl : lv_has ls 5 [(0, .ref k0), (1, .int (nI f)), (2, .int (nI q)), (3, .int (nI v))] := hl
  have hP : va_P D vwCl [(k0, .inr (1, [.ref kl, .ref ks, .ref kw, .int (nI n)])), (kl, .inl (cJ, 24, .inr (.inl (lF KL)))), (ks, .inl (cI, 24, .inl (nF KS))), (kw, .inl (cI, 24, .inl (nF KW)))] ss.heap := hP
  refine lv_iload_n hx hb dX1_addWorth_0 rfl (lv_at hl 1 rfl) ?_
  refine lv_istore (lv' := [(4, .int (nI f)), (0, .ref k0), (1, .int (nI f)), (2, .int (nI q)), (3, .int (nI v))]) hx hb dX1_addWorth_1 hl (by decide) rfl (fun ls hl => ?_)
  have loop3 : ∀ (d : Nat) (i : Nat) (FW : Nat → Nat) (H : Heap) (locs : List Loc) (ls : Array Slot), q - i < d → (i ≤ q) → (∀ j, FW j = if f ≤ j ∧ j < f + i then min 9999 (KW j + v) else KW j) → va_P D vwCl [(k0, .inr (1, [.ref kl, .ref ks, .ref kw, .int (nI n)])), (kl, .inl (cJ, 24, .inr (.inl (lF KL)))), (ks, .inl (cI, 24, .inl (nF KS))), (kw, .inl (cI, 24, .inl (nF FW)))] H → va_D AA [(k0, .inr (1, [.ref kl, .ref ks, .ref kw, .int (nI n)])), (kl, .inl (cJ, 24, .inr (.inl (lF KL)))), (ks, .inl (cI, 24, .inl (nF KS))), (kw, .inl (cI, 24, .inl (nF FW)))] → va_S AA ss.heap H locs → lv_has ls 5 [(0, .ref k0), (1, .int (nI f)), (2, .int (nI q)), (3, .int (nI v)), (4, .int (nI (f + i)))] → W pp l ee (rmN 1 21) ss mm [.ref k0, .int (nI f), .int (nI q), .int (nI v)].toArray below meth cd H locs 0 0 (MQ below (QW D AA (fun x w => x = none ∧ w = [(k0, .inr (1, [.ref kl, .ref ks, .ref kw, .int (nI n)])), (kl, .inl (cJ, 24, .inr (.inl (lF KL)))), (ks, .inl (cI, 24, .inl (nF KS))), (kw, .inl (cI, 24, .inl (nF (adwF f q v KW))))])) [.ref k0, .int (nI f), .int (nI q), .int (nI v)].toArray ss 0 0 AA) (F0 mm 3 ls []) := by
    intro d
    induction d with
    | zero => intro i FW H locs ls h; exact absurd h (Nat.not_lt_zero _)
    | succ d ih3 =>
      intro i FW H locs ls hd3 h1 hW hP hD hS hl
      refine lv_iload hx hb dX1_addWorth_3 (lv_at hl 4 rfl) ?_
      refine lv_iload_n hx hb dX1_addWorth_5 rfl (lv_at hl 1 rfl) ?_
      refine lv_iload_n hx hb dX1_addWorth_6 rfl (lv_at hl 2 rfl) ?_
      refine n_iadd hx hb dX1_addWorth_7 ?_
      refine n_ge (tgt := 48) hx hb dX1_addWorth_8 (by decide) (by omega) (by omega) (fun c1 => ?_) (fun c1 => ?_)
      ·
        exact wr_vret hx hb hr hlk hP hD hS dX1_addWorth_48 (⟨rfl, by rw [aw_end hW (show i = q by omega)]⟩)
      ·
        refine lv_iload hx hb dX1_addWorth_11 (lv_at hl 4 rfl) ?_
        refine lv_aload_n hx hb dX1_addWorth_13 rfl (lv_at hl 0 rfl) ?_
        refine va_get (D := D) (ci := 1) (v := .int (nI n)) (C := RX1) (T := TX1) (N := 4) hx hb hts inX1 hown hK hP 0 rfl rfl 3 (by decide) (hts _ mf_X1_22) (fun _ h9 => h9) rfl dX1_addWorth_14 ?_
        refine n_ge (tgt := 48) hx hb dX1_addWorth_17 (by decide) (by omega) (by omega) (fun c2 => ?_) (fun c2 => ?_)
        ·
          exact absurd c2 (by omega)
        ·
          have e1 : FW (f + i) ≤ 9999 := by rw [hW, if_neg (by omega)]; exact hv _ (by omega)
          refine lv_aload_n hx hb dX1_addWorth_20 rfl (lv_at hl 0 rfl) ?_
          refine va_get (D := D) (ci := 1) (v := .ref kw) (C := RX1) (T := TX1) (N := 4) hx hb hts inX1 hown hK hP 0 rfl rfl 2 (by decide) (hts _ mf_X1_19) (fun _ h9 => h9) rfl dX1_addWorth_21 ?_
          refine lv_iload hx hb dX1_addWorth_24 (lv_at hl 4 rfl) ?_
          refine lv_sipush (v := nI 9999) hx hb dX1_addWorth_26 (by decide +kernel) ?_
          refine lv_aload_n hx hb dX1_addWorth_29 rfl (lv_at hl 0 rfl) ?_
          refine va_get (D := D) (ci := 1) (v := .ref kw) (C := RX1) (T := TX1) (N := 4) hx hb hts inX1 hown hK hP 0 rfl rfl 2 (by decide) (hts _ mf_X1_19) (fun _ h9 => h9) rfl dX1_addWorth_30 ?_
          refine lv_iload hx hb dX1_addWorth_33 (lv_at hl 4 rfl) ?_
          refine n_iald hx hb hK hP 3 0 rfl rfl (k := (f + i)) (by omega) (by decide) dX1_addWorth_35 ?_
          refine lv_iload_n hx hb dX1_addWorth_36 rfl (lv_at hl 3 rfl) ?_
          refine n_iadd hx hb dX1_addWorth_37 ?_
          refine va_mmin hx hb (hml.trans hl.1.symm) hown (hts _ ml_X1_67) (hts _ ms_Math_min) (hts _ mn_Math) (hts _ mc_Math_min) (Nat.le_of_ble_eq_true rfl) (Nat.le_of_ble_eq_true rfl) (Nat.le_of_ble_eq_true rfl) (Nat.le_of_ble_eq_true rfl) dX1_addWorth_38 ?_
          refine tq (y := nI (min 9999 ((FW (f + i)) + v))) (n_min (by omega) (by omega)) ?_
          refine n_iast hx hb hK hP hD hS 3 0 rfl rfl (k := (f + i)) (v := (min 9999 ((FW (f + i)) + v))) (by omega) (by decide) dX1_addWorth_41 (fun H locs hP hD hS => ?_)
          have hP : va_P D vwCl [(k0, .inr (1, [.ref kl, .ref ks, .ref kw, .int (nI n)])), (kl, .inl (cJ, 24, .inr (.inl (lF KL)))), (ks, .inl (cI, 24, .inl (nF KS))), (kw, .inl (cI, 24, .inl (nF (up FW (f + i) (min 9999 ((FW (f + i)) + v))))))] H := hP
          have hD : va_D AA [(k0, .inr (1, [.ref kl, .ref ks, .ref kw, .int (nI n)])), (kl, .inl (cJ, 24, .inr (.inl (lF KL)))), (ks, .inl (cI, 24, .inl (nF KS))), (kw, .inl (cI, 24, .inl (nF (up FW (f + i) (min 9999 ((FW (f + i)) + v))))))] := hD
          refine lv_iinc (v := nI ((f + i) + 1)) (lv' := [(4, .int (nI ((f + i) + 1))), (0, .ref k0), (1, .int (nI f)), (2, .int (nI q)), (3, .int (nI v))]) hx hb dX1_addWorth_42 hl (k := 4) rfl (nI_add (f + i) 1) (by decide) rfl (fun ls hl => ?_)
          refine lv_goto (tgt := 3) hx hb dX1_addWorth_45 (by decide) ?_
          exact ih3 (i + 1) (up FW (f + i) (min 9999 ((FW (f + i)) + v))) _ _ ls (by omega) (by omega) (aw_step hW) hP hD hS (lv_sub hl [1, 2, 3, 4, 0] rfl)
  exact loop3 _ 0 KW _ _ ls (Nat.lt_succ_self _) (Nat.zero_le _) (fun j => (if_neg (by omega)).symm) hP hD hS (lv_sub hl [1, 2, 3, 4, 0] rfl)
set_option maxHeartbeats 4000000 in
set_option maxRecDepth 100000 in
theorem c_X1_set_at (l : Launch) (D : va_G) (cI cJ cZ : ClassId) (k0 kl ks kw : Nat) (KL KS KW : Nat → Nat) (n : Nat) (hn : n ≤ 24) (w0 A s : Nat) (hw0 : Wf s A) (hk : ∀ k, k < n → Wf (KS k) (KL k)) (v : Nat) (sz : Nat) (ha : plc KS KL n s A < n ∧ unl (KS (plc KS KL n s A)) (KL (plc KS KL n s A)) s A = 72) : WR l yX1_set cX1_set 4 none (rmN 4 95) D (ty3 cI cJ cZ) [.ref k0, .ref w0, .int (nI v)] [(k0, .inr (1, [.ref kl, .ref ks, .ref kw, .int (nI n)])), (kl, .inl (cJ, 24, .inr (.inl (lF KL)))), (ks, .inl (cI, 24, .inl (nF KS))), (kw, .inl (cI, 24, .inl (nF KW))), (w0, .inr (4, [.long (lN A), .int (nI s)]))] sz (fun x w => x = none ∧ w = [(k0, .inr (1, [.ref kl, .ref ks, .ref kw, .int (nI n)])), (kl, .inl (cJ, 24, .inr (.inl (lF KL)))), (ks, .inl (cI, 24, .inl (nF KS))), (kw, .inl (cI, 24, .inl (nF (up KW (plc KS KL n s A) v)))), (w0, .inr (4, [.long (lN A), .int (nI s)]))]) := by
  have hs8 := hw0.1
  have hA64 := hw0.2.1
  have hp := plc_le KS KL n s A
  refine wr_start (by decide) (Nat.le_of_ble_eq_true rfl) ?_
  intro pp ee ss mm below meth cd AA C0 hAA hP hK hD hS hN hnm ls hl
  obtain ⟨hx, hb, hr, hml, hown, hts, hlk⟩ := C0
  have hown : ss.vm.findClass RX1 = some mm.cls := hown
  have hl : lv_has ls 4 [(0, .ref k0), (1, .ref w0), (2, .int (nI v))] := hl
  have hP : va_P D vwCl [(k0, .inr (1, [.ref kl, .ref ks, .ref kw, .int (nI n)])), (kl, .inl (cJ, 24, .inr (.inl (lF KL)))), (ks, .inl (cI, 24, .inl (nF KS))), (kw, .inl (cI, 24, .inl (nF KW))), (w0, .inr (4, [.long (lN A), .int (nI s)]))] ss.heap := hP
  refine lv_aload_n hx hb dX1_set_0 rfl (lv_at hl 0 rfl) ?_
  refine lv_aload_n hx hb dX1_set_1 rfl (lv_at hl 1 rfl) ?_
  refine ro_V (As := [.ref w0]) (rest := []) ⟨hx, hb, hml, hown, hts⟩ (c_X1_placeOf l D cI cJ cZ k0 kl ks kw KL KS KW n (by omega) w0 A s hw0 hk) (k_X1_51 hts ⟨Nat.le_of_ble_eq_true rfl, Nat.le_of_ble_eq_true rfl⟩) hK hP 0 rfl rfl rfl [0, 1, 2, 3, 4] rfl rfl hl.1 rfl (Nat.le_of_ble_eq_true rfl) dX1_set_2 ⟨Nat.le_of_ble_eq_true rfl, Nat.le_of_ble_eq_true rfl⟩ ?_
  refine lv_istore_n (lv' := [(3, .int (nI (plc KS KL n s A))), (0, .ref k0), (1, .ref w0), (2, .int (nI v))]) hx hb dX1_set_5 rfl hl (by decide) rfl (fun ls hl => ?_)
  refine lv_aload_n hx hb dX1_set_6 rfl (lv_at hl 1 rfl) ?_
  refine lv_iload_n hx hb dX1_set_7 rfl (lv_at hl 0 rfl) ?_
  refine lv_aload_n hx hb dX1_set_8 rfl (lv_at hl 2 rfl) ?_
  refine ro_V (As := [.int (nI (plc KS KL n s A)), .ref w0]) (rest := []) ⟨hx, hb, hml, hown, hts⟩ (c_X1_isAt l D cI cJ cZ k0 kl ks kw KL KS KW n (by omega) w0 A s hw0 hk (plc KS KL n s A) (by omega)) (k_X1_55 hts ⟨Nat.le_of_ble_eq_true rfl, Nat.le_of_ble_eq_true rfl⟩) hK hP 0 rfl rfl rfl [0, 1, 2, 3, 4] rfl rfl hl.1 rfl (Nat.le_of_ble_eq_true rfl) dX1_set_9 ⟨Nat.le_of_ble_eq_true rfl, Nat.le_of_ble_eq_true rfl⟩ ?_
  refine b_if_eq (tgt := 25) hx hb dX1_set_12 (by decide) (fun c1 => ?_) (fun c1 => ?_)
  ·
    exact absurd ha c1
  ·
    refine lv_aload_n hx hb dX1_set_15 rfl (lv_at hl 1 rfl) ?_
    refine va_get (D := D) (ci := 1) (v := .ref kw) (C := RX1) (T := TX1) (N := 4) hx hb hts inX1 hown hK hP 0 rfl rfl 2 (by decide) (hts _ mf_X1_19) (fun _ h9 => h9) rfl dX1_set_16 ?_
    refine lv_iload_n hx hb dX1_set_19 rfl (lv_at hl 0 rfl) ?_
    refine lv_iload_n hx hb dX1_set_20 rfl (lv_at hl 3 rfl) ?_
    refine n_iast hx hb hK hP hD hS 3 0 rfl rfl (k := (plc KS KL n s A)) (v := v) (by omega) (by decide) dX1_set_21 (fun H locs hP hD hS => ?_)
    have hP : va_P D vwCl [(k0, .inr (1, [.ref kl, .ref ks, .ref kw, .int (nI n)])), (kl, .inl (cJ, 24, .inr (.inl (lF KL)))), (ks, .inl (cI, 24, .inl (nF KS))), (kw, .inl (cI, 24, .inl (nF (up KW (plc KS KL n s A) v)))), (w0, .inr (4, [.long (lN A), .int (nI s)]))] H := hP
    have hD : va_D AA [(k0, .inr (1, [.ref kl, .ref ks, .ref kw, .int (nI n)])), (kl, .inl (cJ, 24, .inr (.inl (lF KL)))), (ks, .inl (cI, 24, .inl (nF KS))), (kw, .inl (cI, 24, .inl (nF (up KW (plc KS KL n s A) v)))), (w0, .inr (4, [.long (lN A), .int (nI s)]))] := hD
    refine lv_goto (tgt := 39) hx hb dX1_set_22 (by decide) ?_
    exact wr_vret hx hb hr hlk hP hD hS dX1_set_39 (⟨rfl, rfl⟩)
set_option maxHeartbeats 4000000 in
set_option maxRecDepth 100000 in
theorem c_X1_set_new (l : Launch) (D : va_G) (cI cJ cZ : ClassId) (k0 kl ks kw : Nat) (KL KS KW : Nat → Nat) (n : Nat) (hn : n ≤ 24) (w0 A s : Nat) (hw0 : Wf s A) (hk : ∀ k, k < n → Wf (KS k) (KL k)) (v : Nat) (sz : Nat) (ha : ¬ (plc KS KL n s A < n ∧ unl (KS (plc KS KL n s A)) (KL (plc KS KL n s A)) s A = 72)) (hn2 : n < 24) : WR l yX1_set cX1_set 4 none (rmN 4 95) D (ty3 cI cJ cZ) [.ref k0, .ref w0, .int (nI v)] [(k0, .inr (1, [.ref kl, .ref ks, .ref kw, .int (nI n)])), (kl, .inl (cJ, 24, .inr (.inl (lF KL)))), (ks, .inl (cI, 24, .inl (nF KS))), (kw, .inl (cI, 24, .inl (nF KW))), (w0, .inr (4, [.long (lN A), .int (nI s)]))] sz (fun x w => x = none ∧ w = [(k0, .inr (1, [.ref kl, .ref ks, .ref kw, .int (nI (n + 1))])), (kl, .inl (cJ, 24, .inr (.inl (lF (insF (plc KS KL n s A) A n KL))))), (ks, .inl (cI, 24, .inl (nF (insF (plc KS KL n s A) s n KS)))), (kw, .inl (cI, 24, .inl (nF (insF (plc KS KL n s A) v n KW)))), (w0, .inr (4, [.long (lN A), .int (nI s)]))]) := by
  have hs8 := hw0.1
  have hA64 := hw0.2.1
  have hp := plc_le KS KL n s A
  refine wr_start (by decide) (Nat.le_of_ble_eq_true rfl) ?_
  intro pp ee ss mm below meth cd AA C0 hAA hP hK hD hS hN hnm ls hl
  obtain ⟨hx, hb, hr, hml, hown, hts, hlk⟩ := C0
  have hown : ss.vm.findClass RX1 = some mm.cls := hown
  have hl : lv_has ls 4 [(0, .ref k0), (1, .ref w0), (2, .int (nI v))] := hl
  have hP : va_P D vwCl [(k0, .inr (1, [.ref kl, .ref ks, .ref kw, .int (nI n)])), (kl, .inl (cJ, 24, .inr (.inl (lF KL)))), (ks, .inl (cI, 24, .inl (nF KS))), (kw, .inl (cI, 24, .inl (nF KW))), (w0, .inr (4, [.long (lN A), .int (nI s)]))] ss.heap := hP
  refine lv_aload_n hx hb dX1_set_0 rfl (lv_at hl 0 rfl) ?_
  refine lv_aload_n hx hb dX1_set_1 rfl (lv_at hl 1 rfl) ?_
  refine ro_V (As := [.ref w0]) (rest := []) ⟨hx, hb, hml, hown, hts⟩ (c_X1_placeOf l D cI cJ cZ k0 kl ks kw KL KS KW n (by omega) w0 A s hw0 hk) (k_X1_51 hts ⟨Nat.le_of_ble_eq_true rfl, Nat.le_of_ble_eq_true rfl⟩) hK hP 0 rfl rfl rfl [0, 1, 2, 3, 4] rfl rfl hl.1 rfl (Nat.le_of_ble_eq_true rfl) dX1_set_2 ⟨Nat.le_of_ble_eq_true rfl, Nat.le_of_ble_eq_true rfl⟩ ?_
  refine lv_istore_n (lv' := [(3, .int (nI (plc KS KL n s A))), (0, .ref k0), (1, .ref w0), (2, .int (nI v))]) hx hb dX1_set_5 rfl hl (by decide) rfl (fun ls hl => ?_)
  refine lv_aload_n hx hb dX1_set_6 rfl (lv_at hl 1 rfl) ?_
  refine lv_iload_n hx hb dX1_set_7 rfl (lv_at hl 0 rfl) ?_
  refine lv_aload_n hx hb dX1_set_8 rfl (lv_at hl 2 rfl) ?_
  refine ro_V (As := [.int (nI (plc KS KL n s A)), .ref w0]) (rest := []) ⟨hx, hb, hml, hown, hts⟩ (c_X1_isAt l D cI cJ cZ k0 kl ks kw KL KS KW n (by omega) w0 A s hw0 hk (plc KS KL n s A) (by omega)) (k_X1_55 hts ⟨Nat.le_of_ble_eq_true rfl, Nat.le_of_ble_eq_true rfl⟩) hK hP 0 rfl rfl rfl [0, 1, 2, 3, 4] rfl rfl hl.1 rfl (Nat.le_of_ble_eq_true rfl) dX1_set_9 ⟨Nat.le_of_ble_eq_true rfl, Nat.le_of_ble_eq_true rfl⟩ ?_
  refine b_if_eq (tgt := 25) hx hb dX1_set_12 (by decide) (fun c1 => ?_) (fun c1 => ?_)
  ·
    refine lv_aload_n hx hb dX1_set_25 rfl (lv_at hl 1 rfl) ?_
    refine ro_V (As := []) (rest := []) ⟨hx, hb, hml, hown, hts⟩ (c_X1_isFull l D cI cJ cZ k0 kl ks kw KL KS KW n (by omega)) (k_X1_59 hts ⟨Nat.le_of_ble_eq_true rfl, Nat.le_of_ble_eq_true rfl⟩) hK hP 0 rfl rfl rfl [0, 1, 2, 3] rfl rfl hl.1 rfl (Nat.le_of_ble_eq_true rfl) dX1_set_26 ⟨Nat.le_of_ble_eq_true rfl, Nat.le_of_ble_eq_true rfl⟩ ?_
    refine b_if_ne (tgt := 39) hx hb dX1_set_29 (by decide) (fun c2 => ?_) (fun c2 => ?_)
    ·
      exact absurd c2 (by omega)
    ·
      refine lv_aload_n hx hb dX1_set_32 rfl (lv_at hl 1 rfl) ?_
      refine lv_iload_n hx hb dX1_set_33 rfl (lv_at hl 0 rfl) ?_
      refine lv_aload_n hx hb dX1_set_34 rfl (lv_at hl 2 rfl) ?_
      refine lv_iload_n hx hb dX1_set_35 rfl (lv_at hl 3 rfl) ?_
      refine wr_V (As := [.int (nI (plc KS KL n s A)), .ref w0, .int (nI v)]) (rest := []) (wc := [(k0, .inr (1, [.ref kl, .ref ks, .ref kw, .int (nI n)])), (kl, .inl (cJ, 24, .inr (.inl (lF KL)))), (ks, .inl (cI, 24, .inl (nF KS))), (kw, .inl (cI, 24, .inl (nF KW))), (w0, .inr (4, [.long (lN A), .int (nI s)]))]) (wr := []) ⟨hx, hb, hml, hown, hts⟩ (c_X1_insert l D cI cJ cZ k0 kl ks kw KL KS KW n (by omega) w0 A s (plc KS KL n s A) v (by omega) _) (k_X1_63 hts ⟨Nat.le_of_ble_eq_true rfl, Nat.le_of_ble_eq_true rfl⟩) hK hN hP hD hS hAA 0 rfl rfl rfl [0, 1, 2, 3, 4] [] rfl rfl (by decide) (by decide) (by decide) rfl hl.1 rfl (Nat.le_of_ble_eq_true rfl) dX1_set_36 ⟨Nat.le_of_ble_eq_true rfl, Nat.le_of_ble_eq_true rfl⟩ (fun v4 w5 H locs hp3 hP hD hS => ?_)
      obtain ⟨rfl, rfl⟩ := hp3
      have hP : va_P D vwCl [(k0, .inr (1, [.ref kl, .ref ks, .ref kw, .int (nI (n + 1))])), (kl, .inl (cJ, 24, .inr (.inl (lF (insF (plc KS KL n s A) A n KL))))), (ks, .inl (cI, 24, .inl (nF (insF (plc KS KL n s A) s n KS)))), (kw, .inl (cI, 24, .inl (nF (insF (plc KS KL n s A) v n KW)))), (w0, .inr (4, [.long (lN A), .int (nI s)]))] H := hP.sub [0, 1, 2, 3, 4] rfl
      have hD : va_D AA [(k0, .inr (1, [.ref kl, .ref ks, .ref kw, .int (nI (n + 1))])), (kl, .inl (cJ, 24, .inr (.inl (lF (insF (plc KS KL n s A) A n KL))))), (ks, .inl (cI, 24, .inl (nF (insF (plc KS KL n s A) s n KS)))), (kw, .inl (cI, 24, .inl (nF (insF (plc KS KL n s A) v n KW)))), (w0, .inr (4, [.long (lN A), .int (nI s)]))] := hD.sub [0, 1, 2, 3, 4] (by decide) rfl
      exact wr_vret hx hb hr hlk hP hD hS dX1_set_39 (⟨rfl, rfl⟩)
  ·
    exact absurd c1 ha
set_option maxHeartbeats 4000000 in
set_option maxRecDepth 100000 in
theorem c_X1_set_full (l : Launch) (D : va_G) (cI cJ cZ : ClassId) (k0 kl ks kw : Nat) (KL KS KW : Nat → Nat) (n : Nat) (hn : n ≤ 24) (w0 A s : Nat) (hw0 : Wf s A) (hk : ∀ k, k < n → Wf (KS k) (KL k)) (v : Nat) (sz : Nat) (ha : ¬ (plc KS KL n s A < n ∧ unl (KS (plc KS KL n s A)) (KL (plc KS KL n s A)) s A = 72)) (hn2 : ¬ n < 24) : WR l yX1_set cX1_set 4 none (rmN 4 95) D (ty3 cI cJ cZ) [.ref k0, .ref w0, .int (nI v)] [(k0, .inr (1, [.ref kl, .ref ks, .ref kw, .int (nI n)])), (kl, .inl (cJ, 24, .inr (.inl (lF KL)))), (ks, .inl (cI, 24, .inl (nF KS))), (kw, .inl (cI, 24, .inl (nF KW))), (w0, .inr (4, [.long (lN A), .int (nI s)]))] sz (fun x w => x = none ∧ w = [(k0, .inr (1, [.ref kl, .ref ks, .ref kw, .int (nI n)])), (kl, .inl (cJ, 24, .inr (.inl (lF KL)))), (ks, .inl (cI, 24, .inl (nF KS))), (kw, .inl (cI, 24, .inl (nF KW))), (w0, .inr (4, [.long (lN A), .int (nI s)]))]) := by
  have hs8 := hw0.1
  have hA64 := hw0.2.1
  have hp := plc_le KS KL n s A
  refine wr_start (by decide) (Nat.le_of_ble_eq_true rfl) ?_
  intro pp ee ss mm below meth cd AA C0 hAA hP hK hD hS hN hnm ls hl
  obtain ⟨hx, hb, hr, hml, hown, hts, hlk⟩ := C0
  have hown : ss.vm.findClass RX1 = some mm.cls := hown
  have hl : lv_has ls 4 [(0, .ref k0), (1, .ref w0), (2, .int (nI v))] := hl
  have hP : va_P D vwCl [(k0, .inr (1, [.ref kl, .ref ks, .ref kw, .int (nI n)])), (kl, .inl (cJ, 24, .inr (.inl (lF KL)))), (ks, .inl (cI, 24, .inl (nF KS))), (kw, .inl (cI, 24, .inl (nF KW))), (w0, .inr (4, [.long (lN A), .int (nI s)]))] ss.heap := hP
  refine lv_aload_n hx hb dX1_set_0 rfl (lv_at hl 0 rfl) ?_
  refine lv_aload_n hx hb dX1_set_1 rfl (lv_at hl 1 rfl) ?_
  refine ro_V (As := [.ref w0]) (rest := []) ⟨hx, hb, hml, hown, hts⟩ (c_X1_placeOf l D cI cJ cZ k0 kl ks kw KL KS KW n (by omega) w0 A s hw0 hk) (k_X1_51 hts ⟨Nat.le_of_ble_eq_true rfl, Nat.le_of_ble_eq_true rfl⟩) hK hP 0 rfl rfl rfl [0, 1, 2, 3, 4] rfl rfl hl.1 rfl (Nat.le_of_ble_eq_true rfl) dX1_set_2 ⟨Nat.le_of_ble_eq_true rfl, Nat.le_of_ble_eq_true rfl⟩ ?_
  refine lv_istore_n (lv' := [(3, .int (nI (plc KS KL n s A))), (0, .ref k0), (1, .ref w0), (2, .int (nI v))]) hx hb dX1_set_5 rfl hl (by decide) rfl (fun ls hl => ?_)
  refine lv_aload_n hx hb dX1_set_6 rfl (lv_at hl 1 rfl) ?_
  refine lv_iload_n hx hb dX1_set_7 rfl (lv_at hl 0 rfl) ?_
  refine lv_aload_n hx hb dX1_set_8 rfl (lv_at hl 2 rfl) ?_
  refine ro_V (As := [.int (nI (plc KS KL n s A)), .ref w0]) (rest := []) ⟨hx, hb, hml, hown, hts⟩ (c_X1_isAt l D cI cJ cZ k0 kl ks kw KL KS KW n (by omega) w0 A s hw0 hk (plc KS KL n s A) (by omega)) (k_X1_55 hts ⟨Nat.le_of_ble_eq_true rfl, Nat.le_of_ble_eq_true rfl⟩) hK hP 0 rfl rfl rfl [0, 1, 2, 3, 4] rfl rfl hl.1 rfl (Nat.le_of_ble_eq_true rfl) dX1_set_9 ⟨Nat.le_of_ble_eq_true rfl, Nat.le_of_ble_eq_true rfl⟩ ?_
  refine b_if_eq (tgt := 25) hx hb dX1_set_12 (by decide) (fun c1 => ?_) (fun c1 => ?_)
  ·
    refine lv_aload_n hx hb dX1_set_25 rfl (lv_at hl 1 rfl) ?_
    refine ro_V (As := []) (rest := []) ⟨hx, hb, hml, hown, hts⟩ (c_X1_isFull l D cI cJ cZ k0 kl ks kw KL KS KW n (by omega)) (k_X1_59 hts ⟨Nat.le_of_ble_eq_true rfl, Nat.le_of_ble_eq_true rfl⟩) hK hP 0 rfl rfl rfl [0, 1, 2, 3] rfl rfl hl.1 rfl (Nat.le_of_ble_eq_true rfl) dX1_set_26 ⟨Nat.le_of_ble_eq_true rfl, Nat.le_of_ble_eq_true rfl⟩ ?_
    refine b_if_ne (tgt := 39) hx hb dX1_set_29 (by decide) (fun c2 => ?_) (fun c2 => ?_)
    ·
      exact wr_vret hx hb hr hlk hP hD hS dX1_set_39 (⟨rfl, rfl⟩)
    ·
      exact absurd (show 24 ≤ n by omega) c2
  ·
    exact absurd c1 ha
