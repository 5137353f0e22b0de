theorem and_bit (q k : Nat) : q &&& 2 ^ k = 0 ↔ q / 2 ^ k % 2 = 0 := by
  rw [fb_bit_nat, Nat.testBit_eq_decide_div_mod_eq]
  have h := Nat.mod_lt (q / 2 ^ k) (show 0 < 2 by decide)
  simp
theorem zah_is {q z : Nat} (hz : z < 8) (h1 : ∀ j, j < z → q / 2 ^ (7 - j) % 2 = 0) (h2 : q / 2 ^ (7 - z) % 2 ≠ 0) : zah q = z := by rw [zah_def]; exact first_is (by omega) (fun j hj => by simp [h1 j hj]) (fun _ => by simpa using h2)
theorem zah_no {q : Nat} (hq : q < 256) (h0 : q ≠ 0) (h1 : ∀ j, j < 8 → q / 2 ^ (7 - j) % 2 = 0) : False := by
  have h := zah_ok h0 hq
  have h2 : zah q = 8 := by rw [zah_def]; exact first_is (Nat.le_refl _) (fun j hj => by simp [h1 j hj]) (fun q => absurd q (by omega))
  omega
theorem half_pow {z : Nat} (hz : z + 1 < 8) : nI (2 ^ (7 - z)) >>> (nI 1 &&& 31) = nI (2 ^ (7 - (z + 1))) := by
  rw [sh_r (Nat.pow_lt_pow_right (by decide) (by omega)) (by decide), show 7 - z = (7 - (z + 1)) + 1 by omega, Nat.pow_succ]
  congr 1
  omega
def app (A s c : Nat) : Nat := A ||| c * 2 ^ (64 - 8 * (s + 1))
set_option maxHeartbeats 4000000 in
set_option maxRecDepth 100000 in
theorem c_X4_letterOf (l : Launch) (D : va_G) (cI cJ cZ : ClassId) (A i : Nat) (hA64 : A < 2 ^ 64) (hi : i < 8) : RO l yX4_letterOf cX4_letterOf 3 (some .int) (rmN 0 0) D (ty3 cI cJ cZ) [.long (lN A), .int (nI i)] [] (.int (nI (letr A i))) := by
  refine ro_start (by decide) (Nat.le_of_ble_eq_true rfl) ?_
  intro pp ee ss mm below meth cd C0 hP hK ls hl
  obtain ⟨hx, hb, hr, hml, hown, hts, hlk⟩ := C0
  have hown : ss.vm.findClass RX4 = some mm.cls := hown
  have hl : lv_has ls 3 [(0, .long (lN A)), (2, .int (nI i))] := hl
  have hP : va_P D vwCl [] ss.heap := hP
  refine lv_lload_n hx hb dX4_letterOf_0 rfl (lv_at hl 0 rfl) ?_
  refine lv_bipush (v := nI 64) hx hb dX4_letterOf_1 (by decide +kernel) ?_
  refine lv_bipush (v := nI 8) hx hb dX4_letterOf_3 (by decide +kernel) ?_
  refine lv_iload_n hx hb dX4_letterOf_5 rfl (lv_at hl 1 rfl) ?_
  refine lv_iconst (v := nI 1) hx hb dX4_letterOf_6 (by decide +kernel) ?_
  refine n_iadd hx hb dX4_letterOf_7 ?_
  refine n_imul hx hb dX4_letterOf_8 ?_
  refine n_isub hx hb dX4_letterOf_9 (by omega) ?_
  refine lv_lushr (v := lN (A / 2 ^ (64 - (8 * (i + 1))))) hx hb dX4_letterOf_10 (wb_shr hA64 (by omega)) ?_
  refine lv_l2i (v := nI (A / 2 ^ (64 - (8 * (i + 1))))) hx hb dX4_letterOf_11 (lN_i _) ?_
  refine lv_sipush (v := nI 255) hx hb dX4_letterOf_12 (by decide +kernel) ?_
  refine lv_iand hx hb dX4_letterOf_15 ?_
  refine tq (y := nI ((A / 2 ^ (64 - (8 * (i + 1)))) % 256)) (fa_mask _ 8) ?_
  exact ro_iret hx hb hr hlk dX4_letterOf_16 (rfl)
set_option maxHeartbeats 4000000 in
set_option maxRecDepth 100000 in
theorem c_X4_zerosAheadOf (l : Launch) (D : va_G) (cI cJ cZ : ClassId) (q : Nat) (hq : q < 256) (h0 : q ≠ 0) : RO l yX4_zerosAheadOf cX4_zerosAheadOf 3 (some .int) (rmN 0 0) D (ty3 cI cJ cZ) [.int (nI q)] [] (.int (nI (zah q))) := by
  refine ro_start (by decide) (Nat.le_of_ble_eq_true rfl) ?_
  intro pp ee ss mm below meth cd C0 hP hK ls hl
  obtain ⟨hx, hb, hr, hml, hown, hts, hlk⟩ := C0
  have hown : ss.vm.findClass RX4 = some mm.cls := hown
  have hl : lv_has ls 3 [(0, .int (nI q))] := hl
  have hP : va_P D vwCl [] ss.heap := hP
  refine lv_iconst (v := nI 0) hx hb dX4_zerosAheadOf_0 (by decide +kernel) ?_
  refine lv_istore_n (lv' := [(1, .int (nI 0)), (0, .int (nI q))]) hx hb dX4_zerosAheadOf_1 rfl hl (by decide) rfl (fun ls hl => ?_)
  refine lv_sipush (v := nI 128) hx hb dX4_zerosAheadOf_2 (by decide +kernel) ?_
  refine lv_istore_n (lv' := [(2, .int (nI 128)), (1, .int (nI 0)), (0, .int (nI q))]) hx hb dX4_zerosAheadOf_5 rfl hl (by decide) rfl (fun ls hl => ?_)
  have loop6 : ∀ (d : Nat) (z : Nat) (ls : Array Slot), 8 - z < d → (z < 8) → (∀ j, j < z → q / 2 ^ (7 - j) % 2 = 0) → lv_has ls 3 [(0, .int (nI q)), (1, .int (nI z)), (2, .int (nI (2 ^ (7 - z))))] → W pp l ee (rmN 0 0) ss mm [.int (nI q)].toArray below meth cd ss.heap [] 0 0 (MQ below (QR (.int (nI (zah q)))) [.int (nI q)].toArray ss 0 0 (fun _ => False)) (F0 mm 6 ls []) := by
    intro d
    induction d with
    | zero => intro z ls h; exact absurd h (Nat.not_lt_zero _)
    | succ d ih6 =>
      intro z ls hd6 hz hj hl
      have hj1 := hj
      refine lv_iload_n hx hb dX4_zerosAheadOf_6 rfl (lv_at hl 2 rfl) ?_
      refine n_if_le (tgt := 26) hx hb dX4_zerosAheadOf_7 (by decide) (Nat.pow_lt_pow_right (by decide) (by omega)) (fun c1 => ?_) (fun c1 => ?_)
      ·
        exact absurd c1 (Nat.ne_of_gt (Nat.two_pow_pos _))
      ·
        refine lv_iload_n hx hb dX4_zerosAheadOf_10 rfl (lv_at hl 0 rfl) ?_
        refine lv_iload_n hx hb dX4_zerosAheadOf_11 rfl (lv_at hl 2 rfl) ?_
        refine lv_iand hx hb dX4_zerosAheadOf_12 (tq (y := nI (q &&& 2 ^ (7 - z))) (fa_and _ _) ?_)
        refine n_if_ne (tgt := 26) hx hb dX4_zerosAheadOf_13 (by decide) (Nat.lt_of_le_of_lt Nat.and_le_left (by omega)) (fun c2 => ?_) (fun c2 => ?_)
        ·
          have e0 := fun g => c2 ((and_bit _ _).mpr g)
          refine lv_iload_n hx hb dX4_zerosAheadOf_26 rfl (lv_at hl 1 rfl) ?_
          exact ro_iret hx hb hr hlk dX4_zerosAheadOf_27 (by rw [zah_is hz hj1 e0])
        ·
          have e0 := (and_bit _ _).mp c2
          have hz8 : z + 1 < 8 := by
            rcases Nat.lt_or_ge (z + 1) 8 with g | g
            · exact g
            · exact (zah_no hq h0 (fun j hj2 => by rcases Nat.lt_or_ge j z with g2 | g2; exact hj1 j g2; rw [show j = z by omega]; exact e0)).elim
          refine lv_iinc (v := nI (z + 1)) (lv' := [(1, .int (nI (z + 1))), (0, .int (nI q)), (2, .int (nI (2 ^ (7 - z))))]) hx hb dX4_zerosAheadOf_16 hl (k := 1) rfl (nI_add z 1) (by decide) rfl (fun ls hl => ?_)
          refine lv_iload_n hx hb dX4_zerosAheadOf_19 rfl (lv_at hl 2 rfl) ?_
          refine lv_iconst (v := nI 1) hx hb dX4_zerosAheadOf_20 (by decide +kernel) ?_
          refine lv_ishr hx hb dX4_zerosAheadOf_21 (tq (y := nI (2 ^ (7 - (z + 1)))) (half_pow hz8) ?_)
          refine lv_istore_n (lv' := [(2, .int (nI (2 ^ (7 - (z + 1))))), (1, .int (nI (z + 1))), (0, .int (nI q))]) hx hb dX4_zerosAheadOf_22 rfl hl (by decide) rfl (fun ls hl => ?_)
          refine lv_goto (tgt := 6) hx hb dX4_zerosAheadOf_23 (by decide) ?_
          exact ih6 (z + 1) ls (by omega) hz8 (fun j hj => by rcases Nat.lt_or_ge j z with g | g; exact hj1 j g; rw [show j = z by omega]; exact e0) (lv_sub hl [2, 1, 0] rfl)
  exact loop6 _ 0 ls (Nat.lt_succ_self _) (by decide) (fun j hj => absurd hj (Nat.not_lt_zero _)) (lv_sub hl [2, 1, 0] rfl)
set_option maxHeartbeats 4000000 in
set_option maxRecDepth 100000 in
theorem c_X4_bitOf (l : Launch) (D : va_G) (cI cJ cZ : ClassId) (A s i : Nat) (hA64 : A < 2 ^ 64) (hs : s ≤ 8) (hi : i < 72) : RO l yX4_bitOf cX4_bitOf 6 (some .int) (rmN 1 22) D (ty3 cI cJ cZ) [.long (lN A), .int (nI s), .int (nI i)] [] (.int (nI (bitr s A i))) := by
  refine ro_start (by decide) (Nat.le_of_ble_eq_true rfl) ?_
  intro pp ee ss mm below meth cd C0 hP hK ls hl
  obtain ⟨hx, hb, hr, hml, hown, hts, hlk⟩ := C0
  have hown : ss.vm.findClass RX4 = some mm.cls := hown
  have hl : lv_has ls 6 [(0, .long (lN A)), (2, .int (nI s)), (3, .int (nI i))] := hl
  have hP : va_P D vwCl [] ss.heap := hP
  refine lv_iload_n hx hb dX4_bitOf_0 rfl (lv_at hl 2 rfl) ?_
  refine lv_bipush (v := nI 9) hx hb dX4_bitOf_1 (by decide +kernel) ?_
  refine n_idiv hx hb dX4_bitOf_3 (by omega) (by decide) (by decide) ?_
  refine lv_istore (lv' := [(4, .int (nI (i / 9))), (0, .long (lN A)), (2, .int (nI s)), (3, .int (nI i))]) hx hb dX4_bitOf_4 hl (by decide) rfl (fun ls hl => ?_)
  refine lv_iload_n hx hb dX4_bitOf_6 rfl (lv_at hl 3 rfl) ?_
  refine lv_bipush (v := nI 9) hx hb dX4_bitOf_7 (by decide +kernel) ?_
  refine n_irem hx hb dX4_bitOf_9 (by omega) (by decide) (by decide) ?_
  refine lv_istore (lv' := [(5, .int (nI (i % 9))), (4, .int (nI (i / 9))), (0, .long (lN A)), (2, .int (nI s)), (3, .int (nI i))]) hx hb dX4_bitOf_10 hl (by decide) rfl (fun ls hl => ?_)
  refine lv_iload hx hb dX4_bitOf_12 (lv_at hl 0 rfl) ?_
  refine n_if_ne (tgt := 29) hx hb dX4_bitOf_14 (by decide) (by omega) (fun c1 => ?_) (fun c1 => ?_)
  ·
    refine lv_lload_n hx hb dX4_bitOf_29 rfl (lv_at hl 2 rfl) ?_
    refine lv_iload hx hb dX4_bitOf_30 (lv_at hl 1 rfl) ?_
    refine ro_S (As := [.long (lN A), .int (nI (i / 9))]) (rest := []) ⟨hx, hb, hml, hown, hts⟩ (c_X4_letterOf l D cI cJ cZ A (i / 9) hA64 (by omega)) (k_X4_23 hts ⟨Nat.le_of_ble_eq_true rfl, Nat.le_of_ble_eq_true rfl⟩) hK hP [] rfl rfl hl.1 rfl (Nat.le_of_ble_eq_true rfl) dX4_bitOf_32 ⟨Nat.le_of_ble_eq_true rfl, Nat.le_of_ble_eq_true rfl⟩ ?_
    refine lv_bipush (v := nI 8) hx hb dX4_bitOf_35 (by decide +kernel) ?_
    refine lv_iload hx hb dX4_bitOf_37 (lv_at hl 0 rfl) ?_
    refine n_isub hx hb dX4_bitOf_39 (by omega) ?_
    refine lv_ishr hx hb dX4_bitOf_40 ?_
    refine tq (y := nI ((letr A (i / 9)) / 2 ^ (8 - (i % 9)))) (sh_r (Nat.lt_trans (letr_lt _ _) (by decide)) (by omega)) ?_
    refine lv_iconst (v := nI 1) hx hb dX4_bitOf_41 (by decide +kernel) ?_
    refine lv_iand hx hb dX4_bitOf_42 ?_
    refine tq (y := nI (((letr A (i / 9)) / 2 ^ (8 - (i % 9))) % 2)) (fa_mask _ 1) ?_
    exact ro_iret hx hb hr hlk dX4_bitOf_43 (by unfold bitr; rw [if_neg c1])
  ·
    refine lv_iload hx hb dX4_bitOf_17 (lv_at hl 1 rfl) ?_
    refine lv_iload_n hx hb dX4_bitOf_19 rfl (lv_at hl 3 rfl) ?_
    refine n_ge (tgt := 27) hx hb dX4_bitOf_20 (by decide) (by omega) (by omega) (fun c2 => ?_) (fun c2 => ?_)
    ·
      refine lv_iconst (v := nI 0) hx hb dX4_bitOf_27 (by decide +kernel) ?_
      exact ro_iret hx hb hr hlk dX4_bitOf_28 (by unfold bitr; rw [if_pos c1, if_neg (by omega)])
    ·
      refine lv_iconst (v := nI 1) hx hb dX4_bitOf_23 (by decide +kernel) ?_
      refine lv_goto (tgt := 28) hx hb dX4_bitOf_24 (by decide) ?_
      exact ro_iret hx hb hr hlk dX4_bitOf_28 (by unfold bitr; rw [if_pos c1, if_pos (by omega)])
set_option maxHeartbeats 4000000 in
set_option maxRecDepth 100000 in
theorem c_X4_firstUnlikeBit (l : Launch) (D : va_G) (cI cJ cZ : ClassId) (A s B t : Nat) (hA : Wf s A) (hB : Wf t B) : RO l yX4_firstUnlikeBit cX4_firstUnlikeBit 9 (some .int) (rmN 1 22) D (ty3 cI cJ cZ) [.long (lN A), .int (nI s), .long (lN B), .int (nI t)] [] (.int (nI (unl s A t B))) := by
  have h1 := hA.1
  have h2 := hB.1
  have h3 := hA.2.1
  have h4 := hB.2.1
  have hA64 : A ^^^ B < 2 ^ 64 := Nat.xor_lt_two_pow h3 h4
  refine ro_start (by decide) (Nat.le_of_ble_eq_true rfl) ?_
  intro pp ee ss mm below meth cd C0 hP hK ls hl
  obtain ⟨hx, hb, hr, hml, hown, hts, hlk⟩ := C0
  have hown : ss.vm.findClass RX4 = some mm.cls := hown
  have hl : lv_has ls 9 [(0, .long (lN A)), (2, .int (nI s)), (3, .long (lN B)), (5, .int (nI t))] := hl
  have hP : va_P D vwCl [] ss.heap := hP
  refine lv_iload_n hx hb dX4_firstUnlikeBit_0 rfl (lv_at hl 1 rfl) ?_
  refine lv_iload hx hb dX4_firstUnlikeBit_1 (lv_at hl 3 rfl) ?_
  refine va_mmin hx hb (hml.trans hl.1.symm) hown (hts _ ml_X4_27) (hts _ ms_Math_min) (hts _ mn_Math) (hts _ mc_Math_min) (Nat.le_of_ble_eq_true rfl) (Nat.le_of_ble_eq_true rfl) (Nat.le_of_ble_eq_true rfl) (Nat.le_of_ble_eq_true rfl) dX4_firstUnlikeBit_3 ?_
  refine tq (y := nI (min s t)) (n_min (by omega) (by omega)) ?_
  refine lv_istore (lv' := [(6, .int (nI (min s t))), (0, .long (lN A)), (2, .int (nI s)), (3, .long (lN B)), (5, .int (nI t))]) hx hb dX4_firstUnlikeBit_6 hl (by decide) rfl (fun ls hl => ?_)
  refine lv_iconst (v := nI 0) hx hb dX4_firstUnlikeBit_8 (by decide +kernel) ?_
  refine lv_istore (lv' := [(7, .int (nI 0)), (6, .int (nI (min s t))), (0, .long (lN A)), (2, .int (nI s)), (3, .long (lN B)), (5, .int (nI t))]) hx hb dX4_firstUnlikeBit_9 hl (by decide) rfl (fun ls hl => ?_)
  have loop11 : ∀ (d : Nat) (i : Nat) (ls : Array Slot), min s t - i < d → (i ≤ min s t) → (∀ j, j < i → letr A j = letr B j) → lv_has ls 9 [(0, .long (lN A)), (2, .int (nI s)), (3, .long (lN B)), (5, .int (nI t)), (6, .int (nI (min s t))), (7, .int (nI i))] → W pp l ee (rmN 1 22) ss mm [.long (lN A), .int (nI s), .long (lN B), .int (nI t)].toArray below meth cd ss.heap [] 0 0 (MQ below (QR (.int (nI (unl s A t B)))) [.long (lN A), .int (nI s), .long (lN B), .int (nI t)].toArray ss 0 0 (fun _ => False)) (F0 mm 11 ls []) := by
    intro d
    induction d with
    | zero => intro i ls h; exact absurd h (Nat.not_lt_zero _)
    | succ d ih11 =>
      intro i ls hd11 hi hj hl
      have hj1 := hj
      refine lv_iload hx hb dX4_firstUnlikeBit_11 (lv_at hl 5 rfl) ?_
      refine lv_iload hx hb dX4_firstUnlikeBit_13 (lv_at hl 4 rfl) ?_
      refine n_ge (tgt := 53) hx hb dX4_firstUnlikeBit_15 (by decide) (by omega) (by omega) (fun c1 => ?_) (fun c1 => ?_)
      ·
        refine lv_iload_n hx hb dX4_firstUnlikeBit_53 rfl (lv_at hl 1 rfl) ?_
        refine lv_iload hx hb dX4_firstUnlikeBit_54 (lv_at hl 3 rfl) ?_
        refine n_ne (tgt := 64) hx hb dX4_firstUnlikeBit_56 (by decide) (by omega) (by omega) (fun c2 => ?_) (fun c2 => ?_)
        ·
          refine lv_bipush (v := nI 9) hx hb dX4_firstUnlikeBit_64 (by decide +kernel) ?_
          refine lv_iload hx hb dX4_firstUnlikeBit_66 (lv_at hl 4 rfl) ?_
          refine n_imul hx hb dX4_firstUnlikeBit_68 ?_
          exact ro_iret hx hb hr hlk dX4_firstUnlikeBit_69 (by rw [unl_end hA hB (fun j hj => hj1 j (by omega)), if_neg (by omega)])
        ·
          refine lv_bipush (v := nI 72) hx hb dX4_firstUnlikeBit_59 (by decide +kernel) ?_
          refine lv_goto (tgt := 69) hx hb dX4_firstUnlikeBit_61 (by decide) ?_
          exact ro_iret hx hb hr hlk dX4_firstUnlikeBit_69 (by rw [unl_end hA hB (fun j hj => hj1 j (by omega)), if_pos (by omega)])
      ·
        refine lv_lload_n hx hb dX4_firstUnlikeBit_18 rfl (lv_at hl 0 rfl) ?_
        refine lv_lload_n hx hb dX4_firstUnlikeBit_19 rfl (lv_at hl 2 rfl) ?_
        refine lv_lxor hx hb dX4_firstUnlikeBit_20 ?_
        refine tqL (y := lN (A ^^^ B)) (fb_xorL _ _) ?_
        refine lv_iload hx hb dX4_firstUnlikeBit_21 (lv_at hl 5 rfl) ?_
        refine ro_S (As := [.long (lN (A ^^^ B)), .int (nI i)]) (rest := []) ⟨hx, hb, hml, hown, hts⟩ (c_X4_letterOf l D cI cJ cZ (A ^^^ B) i hA64 (by omega)) (k_X4_23 hts ⟨Nat.le_of_ble_eq_true rfl, Nat.le_of_ble_eq_true rfl⟩) hK hP [] rfl rfl hl.1 rfl (Nat.le_of_ble_eq_true rfl) dX4_firstUnlikeBit_23 ⟨Nat.le_of_ble_eq_true rfl, Nat.le_of_ble_eq_true rfl⟩ ?_
        refine lv_istore (lv' := [(8, .int (nI (letr (A ^^^ B) i))), (0, .long (lN A)), (2, .int (nI s)), (3, .long (lN B)), (5, .int (nI t)), (6, .int (nI (min s t))), (7, .int (nI i))]) hx hb dX4_firstUnlikeBit_26 hl (by decide) rfl (fun ls hl => ?_)
        refine lv_iload hx hb dX4_firstUnlikeBit_28 (lv_at hl 0 rfl) ?_
        refine n_if_eq (tgt := 47) hx hb dX4_firstUnlikeBit_30 (by decide) (Nat.lt_trans (letr_lt _ _) (by decide)) (fun c3 => ?_) (fun c3 => ?_)
        ·
          have e0 := (letr_eq0 _ _ _).mp c3
          refine lv_iinc (v := nI (i + 1)) (lv' := [(7, .int (nI (i + 1))), (8, .int (nI (letr (A ^^^ B) i))), (0, .long (lN A)), (2, .int (nI s)), (3, .long (lN B)), (5, .int (nI t)), (6, .int (nI (min s t)))]) hx hb dX4_firstUnlikeBit_47 hl (k := 6) rfl (nI_add i 1) (by decide) rfl (fun ls hl => ?_)
          refine lv_goto (tgt := 11) hx hb dX4_firstUnlikeBit_50 (by decide) ?_
          exact ih11 (i + 1) ls (by omega) (by omega) (fun j hj => by rcases Nat.lt_or_ge j i with g | g; exact hj1 j g; rw [show j = i by omega]; exact e0) (lv_sub hl [2, 3, 4, 5, 6, 0] rfl)
        ·
          have e1 := c3
          refine lv_bipush (v := nI 9) hx hb dX4_firstUnlikeBit_33 (by decide +kernel) ?_
          refine lv_iload hx hb dX4_firstUnlikeBit_35 (lv_at hl 6 rfl) ?_
          refine n_imul hx hb dX4_firstUnlikeBit_37 ?_
          refine lv_iconst (v := nI 1) hx hb dX4_firstUnlikeBit_38 (by decide +kernel) ?_
          refine n_iadd hx hb dX4_firstUnlikeBit_39 ?_
          refine lv_iload hx hb dX4_firstUnlikeBit_40 (lv_at hl 0 rfl) ?_
          refine ro_S (As := [.int (nI (letr (A ^^^ B) i))]) (rest := [.int (nI ((9 * i) + 1))]) ⟨hx, hb, hml, hown, hts⟩ (c_X4_zerosAheadOf l D cI cJ cZ (letr (A ^^^ B) i) (letr_lt _ _) e1) (k_X4_33 hts ⟨Nat.le_of_ble_eq_true rfl, Nat.le_of_ble_eq_true rfl⟩) hK hP [] rfl rfl hl.1 rfl (Nat.le_of_ble_eq_true rfl) dX4_firstUnlikeBit_42 ⟨Nat.le_of_ble_eq_true rfl, Nat.le_of_ble_eq_true rfl⟩ ?_
          refine n_iadd hx hb dX4_firstUnlikeBit_45 ?_
          exact ro_iret hx hb hr hlk dX4_firstUnlikeBit_46 (by rw [unl_letter hj1 (by omega) (by omega) (by omega) e1])
  exact loop11 _ 0 ls (Nat.lt_succ_self _) (Nat.zero_le _) (fun j hj => absurd hj (Nat.not_lt_zero _)) (lv_sub hl [2, 3, 4, 5, 1, 0] rfl)
set_option maxHeartbeats 4000000 in
set_option maxRecDepth 100000 in
theorem c_X4_size (l : Launch) (D : va_G) (cI cJ cZ : ClassId) (a0 A s : Nat) : RO l yX4_size cX4_size 1 (some .int) (rmN 0 0) D (ty3 cI cJ cZ) [.ref a0] [(a0, .inr (4, [.long (lN A), .int (nI s)]))] (.int (nI s)) := by
  refine ro_start (by decide) (Nat.le_of_ble_eq_true rfl) ?_
  intro pp ee ss mm below meth cd C0 hP hK ls hl
  obtain ⟨hx, hb, hr, hml, hown, hts, hlk⟩ := C0
  have hown : ss.vm.findClass RX4 = some mm.cls := hown
  have hl : lv_has ls 1 [(0, .ref a0)] := hl
  have hP : va_P D vwCl [(a0, .inr (4, [.long (lN A), .int (nI s)]))] ss.heap := hP
  refine lv_aload_n hx hb dX4_size_0 rfl (lv_at hl 0 rfl) ?_
  refine va_get (D := D) (ci := 4) (v := .int (nI s)) (C := RX4) (T := TX4) (N := 2) hx hb hts inX4 hown hK hP 0 rfl rfl 1 (by decide) (hts _ mf_X4_9) (fun _ h9 => h9) rfl dX4_size_1 ?_
  exact ro_iret hx hb hr hlk dX4_size_4 (rfl)
set_option maxHeartbeats 4000000 in
set_option maxRecDepth 100000 in
theorem c_X4_letters (l : Launch) (D : va_G) (cI cJ cZ : ClassId) (a0 A s : Nat) : RO l yX4_letters cX4_letters 1 (some .long) (rmN 0 0) D (ty3 cI cJ cZ) [.ref a0] [(a0, .inr (4, [.long (lN A), .int (nI s)]))] (.long (lN A)) := by
  refine ro_start (by decide) (Nat.le_of_ble_eq_true rfl) ?_
  intro pp ee ss mm below meth cd C0 hP hK ls hl
  obtain ⟨hx, hb, hr, hml, hown, hts, hlk⟩ := C0
  have hown : ss.vm.findClass RX4 = some mm.cls := hown
  have hl : lv_has ls 1 [(0, .ref a0)] := hl
  have hP : va_P D vwCl [(a0, .inr (4, [.long (lN A), .int (nI s)]))] ss.heap := hP
  refine lv_aload_n hx hb dX4_letters_0 rfl (lv_at hl 0 rfl) ?_
  refine va_get (D := D) (ci := 4) (v := .long (lN A)) (C := RX4) (T := TX4) (N := 2) hx hb hts inX4 hown hK hP 0 rfl rfl 0 (by decide) (hts _ mf_X4_15) (fun _ h9 => h9) rfl dX4_letters_1 ?_
  exact ro_lret hx hb hr hlk dX4_letters_4 (rfl)
set_option maxHeartbeats 4000000 in
set_option maxRecDepth 100000 in
theorem c_X4_bitAt (l : Launch) (D : va_G) (cI cJ cZ : ClassId) (a0 A s i : Nat) (hA64 : A < 2 ^ 64) (hs : s ≤ 8) (hi : i < 72) : RO l yX4_bitAt cX4_bitAt 2 (some .int) (rmN 2 47) D (ty3 cI cJ cZ) [.ref a0, .int (nI i)] [(a0, .inr (4, [.long (lN A), .int (nI s)]))] (.int (nI (bitr s A i))) := by
  refine ro_start (by decide) (Nat.le_of_ble_eq_true rfl) ?_
  intro pp ee ss mm below meth cd C0 hP hK ls hl
  obtain ⟨hx, hb, hr, hml, hown, hts, hlk⟩ := C0
  have hown : ss.vm.findClass RX4 = some mm.cls := hown
  have hl : lv_has ls 2 [(0, .ref a0), (1, .int (nI i))] := hl
  have hP : va_P D vwCl [(a0, .inr (4, [.long (lN A), .int (nI s)]))] ss.heap := hP
  refine lv_aload_n hx hb dX4_bitAt_0 rfl (lv_at hl 0 rfl) ?_
  refine va_get (D := D) (ci := 4) (v := .long (lN A)) (C := RX4) (T := TX4) (N := 2) hx hb hts inX4 hown hK hP 0 rfl rfl 0 (by decide) (hts _ mf_X4_15) (fun _ h9 => h9) rfl dX4_bitAt_1 ?_
  refine lv_aload_n hx hb dX4_bitAt_4 rfl (lv_at hl 0 rfl) ?_
  refine va_get (D := D) (ci := 4) (v := .int (nI s)) (C := RX4) (T := TX4) (N := 2) hx hb hts inX4 hown hK hP 0 rfl rfl 1 (by decide) (hts _ mf_X4_9) (fun _ h9 => h9) rfl dX4_bitAt_5 ?_
  refine lv_iload_n hx hb dX4_bitAt_8 rfl (lv_at hl 1 rfl) ?_
  refine ro_S (As := [.long (lN A), .int (nI s), .int (nI i)]) (rest := []) ⟨hx, hb, hml, hown, hts⟩ (c_X4_bitOf l D cI cJ cZ A s i hA64 (by omega) (by omega)) (k_X4_19 hts ⟨Nat.le_of_ble_eq_true rfl, Nat.le_of_ble_eq_true rfl⟩) hK hP [] rfl rfl hl.1 rfl (Nat.le_of_ble_eq_true rfl) dX4_bitAt_9 ⟨Nat.le_of_ble_eq_true rfl, Nat.le_of_ble_eq_true rfl⟩ ?_
  exact ro_iret hx hb hr hlk dX4_bitAt_12 (rfl)
set_option maxHeartbeats 4000000 in
set_option maxRecDepth 100000 in
theorem c_X4_clear (l : Launch) (D : va_G) (cI cJ cZ : ClassId) (a0 A s sz : Nat) : WR l yX4_clear cX4_clear 1 none (rmN 0 0) D (ty3 cI cJ cZ) [.ref a0] [(a0, .inr (4, [.long (lN A), .int (nI s)]))] sz (fun v w => v = none ∧ w = [(a0, .inr (4, [.long (lN 0), .int (nI 0)]))]) := by
  refine wr_start (by decide) (Nat.le_of_ble_eq_true rfl) ?_
  intro pp ee ss mm below meth cd AA C0 hAA hP hK hD hS hN hnm ls hl
  obtain ⟨hx, hb, hr, hml, hown, hts, hlk⟩ := C0
  have hown : ss.vm.findClass RX4 = some mm.cls := hown
  have hl : lv_has ls 1 [(0, .ref a0)] := hl
  have hP : va_P D vwCl [(a0, .inr (4, [.long (lN A), .int (nI s)]))] ss.heap := hP
  refine lv_aload_n hx hb dX4_clear_0 rfl (lv_at hl 0 rfl) ?_
  refine lv_lconst (v := lN 0) hx hb dX4_clear_1 (by decide +kernel) ?_
  refine va_put (D := D) (ci := 4) (v := .long (lN 0)) (ty := .long) (C := RX4) (T := TX4) (N := 2) hx hb hts inX4 tyX4 tyX4_ok nmX4 hown hK hP hD hS 0 rfl rfl 0 (by decide) (hts _ mf_X4_15) (fun _ h9 => h9) rfl (by decide +kernel) rfl rfl (Nat.le_of_ble_eq_true rfl) dX4_clear_2 (fun H locs hP hD hS => ?_)
  have hP : va_P D vwCl [(a0, .inr (4, [.long (lN 0), .int (nI s)]))] H := hP
  have hD : va_D AA [(a0, .inr (4, [.long (lN 0), .int (nI s)]))] := hD
  refine lv_aload_n hx hb dX4_clear_5 rfl (lv_at hl 0 rfl) ?_
  refine lv_iconst (v := nI 0) hx hb dX4_clear_6 (by decide +kernel) ?_
  refine va_put (D := D) (ci := 4) (v := .int (nI 0)) (ty := .int) (C := RX4) (T := TX4) (N := 2) hx hb hts inX4 tyX4 tyX4_ok nmX4 hown hK hP hD hS 0 rfl rfl 1 (by decide) (hts _ mf_X4_9) (fun _ h9 => h9) rfl (by decide +kernel) rfl rfl (Nat.le_of_ble_eq_true rfl) dX4_clear_7 (fun H locs hP hD hS => ?_)
  have hP : va_P D vwCl [(a0, .inr (4, [.long (lN 0), .int (nI 0)]))] H := hP
  have hD : va_D AA [(a0, .inr (4, [.long (lN 0), .int (nI 0)]))] := hD
  exact wr_vret hx hb hr hlk hP hD hS dX4_clear_10 (⟨rfl, rfl⟩)
set_option maxHeartbeats 4000000 in
set_option maxRecDepth 100000 in
theorem c_X4_become (l : Launch) (D : va_G) (cI cJ cZ : ClassId) (a0 A s B t sz : Nat) : WR l yX4_become cX4_become 4 none (rmN 0 0) D (ty3 cI cJ cZ) [.ref a0, .long (lN B), .int (nI t)] [(a0, .inr (4, [.long (lN A), .int (nI s)]))] sz (fun v w => v = none ∧ w = [(a0, .inr (4, [.long (lN B), .int (nI t)]))]) := by
  refine wr_start (by decide) (Nat.le_of_ble_eq_true rfl) ?_
  intro pp ee ss mm below meth cd AA C0 hAA hP hK hD hS hN hnm ls hl
  obtain ⟨hx, hb, hr, hml, hown, hts, hlk⟩ := C0
  have hown : ss.vm.findClass RX4 = some mm.cls := hown
  have hl : lv_has ls 4 [(0, .ref a0), (1, .long (lN B)), (3, .int (nI t))] := hl
  have hP : va_P D vwCl [(a0, .inr (4, [.long (lN A), .int (nI s)]))] ss.heap := hP
  refine lv_aload_n hx hb dX4_become_0 rfl (lv_at hl 0 rfl) ?_
  refine lv_lload_n hx hb dX4_become_1 rfl (lv_at hl 1 rfl) ?_
  refine va_put (D := D) (ci := 4) (v := .long (lN B)) (ty := .long) (C := RX4) (T := TX4) (N := 2) hx hb hts inX4 tyX4 tyX4_ok nmX4 hown hK hP hD hS 0 rfl rfl 0 (by decide) (hts _ mf_X4_15) (fun _ h9 => h9) rfl (by decide +kernel) rfl rfl (Nat.le_of_ble_eq_true rfl) dX4_become_2 (fun H locs hP hD hS => ?_)
  have hP : va_P D vwCl [(a0, .inr (4, [.long (lN B), .int (nI s)]))] H := hP
  have hD : va_D AA [(a0, .inr (4, [.long (lN B), .int (nI s)]))] := hD
  refine lv_aload_n hx hb dX4_become_5 rfl (lv_at hl 0 rfl) ?_
  refine lv_iload_n hx hb dX4_become_6 rfl (lv_at hl 2 rfl) ?_
  refine va_put (D := D) (ci := 4) (v := .int (nI t)) (ty := .int) (C := RX4) (T := TX4) (N := 2) hx hb hts inX4 tyX4 tyX4_ok nmX4 hown hK hP hD hS 0 rfl rfl 1 (by decide) (hts _ mf_X4_9) (fun _ h9 => h9) rfl (by decide +kernel) rfl rfl (Nat.le_of_ble_eq_true rfl) dX4_become_7 (fun H locs hP hD hS => ?_)
  have hP : va_P D vwCl [(a0, .inr (4, [.long (lN B), .int (nI t)]))] H := hP
  have hD : va_D AA [(a0, .inr (4, [.long (lN B), .int (nI t)]))] := hD
  exact wr_vret hx hb hr hlk hP hD hS dX4_become_10 (⟨rfl, rfl⟩)
set_option maxHeartbeats 4000000 in
set_option maxRecDepth 100000 in
theorem c_X4_append (l : Launch) (D : va_G) (cI cJ cZ : ClassId) (a0 A s k sz : Nat) (hs : s < 8) (hk : k < 256) : WR l yX4_append cX4_append 2 none (rmN 0 0) D (ty3 cI cJ cZ) [.ref a0, .int (nI k)] [(a0, .inr (4, [.long (lN A), .int (nI s)]))] sz (fun v w => v = none ∧ w = [(a0, .inr (4, [.long (lN (app A s k)), .int (nI (s + 1))]))]) := by
  refine wr_start (by decide) (Nat.le_of_ble_eq_true rfl) ?_
  intro pp ee ss mm below meth cd AA C0 hAA hP hK hD hS hN hnm ls hl
  obtain ⟨hx, hb, hr, hml, hown, hts, hlk⟩ := C0
  have hown : ss.vm.findClass RX4 = some mm.cls := hown
  have hl : lv_has ls 2 [(0, .ref a0), (1, .int (nI k))] := hl
  have hP : va_P D vwCl [(a0, .inr (4, [.long (lN A), .int (nI s)]))] ss.heap := hP
  refine lv_aload_n hx hb dX4_append_0 rfl (lv_at hl 0 rfl) ?_
  refine va_get (D := D) (ci := 4) (v := .int (nI s)) (C := RX4) (T := TX4) (N := 2) hx hb hts inX4 hown hK hP 0 rfl rfl 1 (by decide) (hts _ mf_X4_9) (fun _ h9 => h9) rfl dX4_append_1 ?_
  refine lv_bipush (v := nI 8) hx hb dX4_append_4 (by decide +kernel) ?_
  refine n_lt (tgt := 10) hx hb dX4_append_6 (by decide) (by omega) (by omega) (fun c1 => ?_) (fun c1 => ?_)
  ·
    refine lv_aload_n hx hb dX4_append_10 rfl (lv_at hl 0 rfl) ?_
    refine lv_dup hx hb dX4_append_11 rfl ?_
    refine va_get (D := D) (ci := 4) (v := .long (lN A)) (C := RX4) (T := TX4) (N := 2) hx hb hts inX4 hown hK hP 0 rfl rfl 0 (by decide) (hts _ mf_X4_15) (fun _ h9 => h9) rfl dX4_append_12 ?_
    refine lv_iload_n hx hb dX4_append_15 rfl (lv_at hl 1 rfl) ?_
    refine lv_i2l (v := lN k) hx hb dX4_append_16 (nI_l (by omega)) ?_
    refine lv_bipush (v := nI 64) hx hb dX4_append_17 (by decide +kernel) ?_
    refine lv_bipush (v := nI 8) hx hb dX4_append_19 (by decide +kernel) ?_
    refine lv_aload_n hx hb dX4_append_21 rfl (lv_at hl 0 rfl) ?_
    refine va_get (D := D) (ci := 4) (v := .int (nI s)) (C := RX4) (T := TX4) (N := 2) hx hb hts inX4 hown hK hP 0 rfl rfl 1 (by decide) (hts _ mf_X4_9) (fun _ h9 => h9) rfl dX4_append_22 ?_
    refine lv_iconst (v := nI 1) hx hb dX4_append_25 (by decide +kernel) ?_
    refine n_iadd hx hb dX4_append_26 ?_
    refine n_imul hx hb dX4_append_27 ?_
    refine n_isub hx hb dX4_append_28 (by omega) ?_
    refine lv_lshl (v := lN (k * 2 ^ (64 - 8 * (s + 1)))) hx hb dX4_append_29 (wb_shl _ (by omega)) ?_
    refine lv_lor hx hb dX4_append_30 (tqL (y := lN (app A s k)) (fb_orL _ _) ?_)
    refine va_put (D := D) (ci := 4) (v := .long (lN (app A s k))) (ty := .long) (C := RX4) (T := TX4) (N := 2) hx hb hts inX4 tyX4 tyX4_ok nmX4 hown hK hP hD hS 0 rfl rfl 0 (by decide) (hts _ mf_X4_15) (fun _ h9 => h9) rfl (by decide +kernel) rfl rfl (Nat.le_of_ble_eq_true rfl) dX4_append_31 (fun H locs hP hD hS => ?_)
    have hP : va_P D vwCl [(a0, .inr (4, [.long (lN (app A s k)), .int (nI s)]))] H := hP
    have hD : va_D AA [(a0, .inr (4, [.long (lN (app A s k)), .int (nI s)]))] := hD
    refine lv_aload_n hx hb dX4_append_34 rfl (lv_at hl 0 rfl) ?_
    refine lv_dup hx hb dX4_append_35 rfl ?_
    refine va_get (D := D) (ci := 4) (v := .int (nI s)) (C := RX4) (T := TX4) (N := 2) hx hb hts inX4 hown hK hP 0 rfl rfl 1 (by decide) (hts _ mf_X4_9) (fun _ h9 => h9) rfl dX4_append_36 ?_
    refine lv_iconst (v := nI 1) hx hb dX4_append_39 (by decide +kernel) ?_
    refine n_iadd hx hb dX4_append_40 ?_
    refine va_put (D := D) (ci := 4) (v := .int (nI (s + 1))) (ty := .int) (C := RX4) (T := TX4) (N := 2) hx hb hts inX4 tyX4 tyX4_ok nmX4 hown hK hP hD hS 0 rfl rfl 1 (by decide) (hts _ mf_X4_9) (fun _ h9 => h9) rfl (by decide +kernel) rfl rfl (Nat.le_of_ble_eq_true rfl) dX4_append_41 (fun H locs hP hD hS => ?_)
    have hP : va_P D vwCl [(a0, .inr (4, [.long (lN (app A s k)), .int (nI (s + 1))]))] H := hP
    have hD : va_D AA [(a0, .inr (4, [.long (lN (app A s k)), .int (nI (s + 1))]))] := hD
    exact wr_vret hx hb hr hlk hP hD hS dX4_append_44 (⟨rfl, rfl⟩)
  ·
    exact absurd c1 (by omega)
