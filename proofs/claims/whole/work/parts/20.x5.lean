/-! ===== BitBranches: its calls, case by case ===== -/
theorem fnd_yes {KS KL : Nat → Nat} {n s A : Nat} (h : plc KS KL n s A < n ∧ unl (KS (plc KS KL n s A)) (KL (plc KS KL n s A)) s A = 72) : fnd KS KL n s A = plc KS KL n s A + 1 := by unfold fnd; rw [if_pos h]
theorem fnd_no {KS KL : Nat → Nat} {n s A : Nat} (h : ¬ (plc KS KL n s A < n ∧ unl (KS (plc KS KL n s A)) (KL (plc KS KL n s A)) s A = 72)) : fnd KS KL n s A = 0 := by unfold fnd; rw [if_neg h]
theorem tn_neg {x : Int32} (h : x < 0) : x.toInt < 0 := by
  rw [Int32.lt_iff_toInt_lt] at h
  exact h
theorem tn_big {j : Nat} {h : Int} (hj : j < 2 ^ 31) (hh : h < (j : Int)) : h < (nI j).toInt := by rw [nI_toInt hj]; exact hh
theorem tn_lo {j : Nat} {h : Int} (hj : j < 2 ^ 31) (hh : (j : Int) < h) : (nI j).toInt < h := by rw [nI_toInt hj]; exact hh
theorem tn_neg8 {x : Int32} (h : x < 0) : x.toInt < 8 := by have := tn_neg h; omega
theorem lk2 {x : Int32} {o0 o1 d : Int} (h0 : ¬ x = 0) (h1 : ¬ x = 1) : Op.lookupswitch.offset [(0, o0), (1, o1)] d x.toInt = d := by
  rw [lv_osw h0 (by decide +kernel), lv_osw h1 (by decide +kernel)]
  rfl
theorem lk_neg {x : Int32} {o0 o1 d : Int} (h : x < 0) : Op.lookupswitch.offset [(0, o0), (1, o1)] d x.toInt = d := lk2 (fun e => by subst e; exact absurd h (by decide)) (fun e => by subst e; exact absurd h (by decide))
theorem lk_big {j : Nat} {o0 o1 d : Int} (hj : j < 2 ^ 31) (h : 1 < j) : Op.lookupswitch.offset [(0, o0), (1, o1)] d (nI j).toInt = d := lk2 (fun e => by rw [nI_eq0 hj] at e; omega) (fun e => by rw [← nI_one, nI_eq hj (by decide)] at e; omega)
section ZS
variable {p : Program} {l : Launch} {e : Env} {R : Room} {s : State} {m : MethodId} {args : Array Value} {below : List Frame} {meth : Method} {c : Code} {H : Heap} {locs : List Loc} {cells slots : Nat} {Q : State → Prop}
variable {cc : ByteArray} {pc : Nat} {ls : Array Slot} {rest : List Value}
variable {D : va_G} {tys : List (ClassId × FieldType)} {ws : va_W} {A : Nat → Prop} {H0 : Heap} {ar : Nat} {cA : ClassId} {n : Nat} {S : Nat → Nat}
theorem n_zast1 (hx : p.tables.exec = Jvm.exec) (hb : c.code = cc) (hK : va_K D vwCl tys s) (hP : va_P D vwCl ws H) (hD : va_D A ws) (hS : va_S A H0 H locs) (q0 t0 : Nat) (ha : ws[q0]? = some (ar, .inl (cA, n, .inl (nF S)))) (ht : tys[t0]? = some (cA, .boolean)) {k : Nat} (hk : k < n) (hn : n < 2 ^ 31) (hdg : decode cc pc = .ok (.bastore, 1))
    (kk : ∀ (H1 : Heap) (locs1 : List Loc), va_P D vwCl (ws.set q0 (ar, .inl (cA, n, .inl (nF (up S k 1))))) H1 → va_D A (ws.set q0 (ar, .inl (cA, n, .inl (nF (up S k 1))))) → va_S A H0 H1 locs1 → W p l e R s m args below meth c H1 locs1 cells slots Q (F0 m (pc + 1) ls rest)) : W p l e R s m args below meth c H locs cells slots Q (F0 m pc ls (.int (nI 1) :: .int (nI k) :: .ref ar :: rest)) := by
  refine va_zast hx hb hK hP hD hS q0 t0 ha ht (vp_in_nI hk hn) hdg ?_
  have e1 : vp_nar .boolean (nI 1) = nI 1 := by decide +kernel
  rw [nI_clamp (by omega), e1, nF_up]
  exact kk
end ZS
set_option maxHeartbeats 4000000 in
set_option maxRecDepth 100000 in
theorem c_X5_feed_neg (l : Launch) (D : va_G) (cI cJ cZ : ClassId) (x0 w0 d0 k0 kl ks kw b0 bb bd bm bl bf ba bk bg p0 h0 hl1 hs1 hw1 hc1 i0 il1 is1 iw1 ic1 ik it : Nat) (A : Nat) (s : Nat) (dA : Nat) (dz : Nat) (KL : Nat → Nat) (KS : Nat → Nat) (KW : Nat → Nat) (n : Nat) (BB : Nat → Nat) (BD : Nat → Nat) (BM : Nat → Nat) (BL : Nat → Nat) (BF : Nat → Nat) (BA : Nat → Nat) (BK : Nat → Nat) (BG : Nat → Nat) (nx : Nat) (pz : Nat) (HL : Nat → Nat) (HS : Nat → Nat) (HW : Nat → Nat) (HC : Nat → Nat) (IL : Nat → Nat) (IS : Nat → Nat) (IW : Nat → Nat) (IC : Nat → Nat) (IK : Nat → Nat) (IT : Nat → Nat) (sd : Nat) (hn : n ≤ 24) (hw0 : Wf s A) (hk : ∀ k, k < n → Wf (KS k) (KL k)) (hv : ∀ k, k < n → KW k ≤ 9999) (hso : Srt KS KL n) (hTr : TrX (gapF KS KL) n BB BD BM BL BF BA BK) (hnx : nx < 20) (hpz : pz ≤ 20) (hsd : sd < 2 ^ 31) (x : Int32) (hx0 : x < 0) : RO l yX5_feed cX5_feed 2 (some .int) (rmN 1 21) D (ty3 cI cJ cZ) [.ref x0, .int x] [(x0, .inr (5, [.ref w0, .ref d0, .ref k0, .ref b0, .ref p0, .ref i0, .ref ik, .ref it, .int (nI sd)])), (w0, .inr (4, [.long (lN A), .int (nI s)])), (d0, .inr (4, [.long (lN dA), .int (nI dz)])), (k0, .inr (1, [.ref kl, .ref ks, .ref kw, .int (nI n)])), (kl, .inl (cJ, 24, .inr (.inl (lF KL)))), (ks, .inl (cI, 24, .inl (nF KS))), (kw, .inl (cI, 24, .inl (nF KW))), (b0, .inr (0, [.ref bb, .ref bd, .ref bm, .ref bl, .ref bf, .ref ba, .ref bk, .ref bg, .int (nI n)])), (bb, .inl (cI, 24, .inl (nF BB))), (bd, .inl (cI, 24, .inl (nF BD))), (bm, .inl (cI, 24, .inl (nF BM))), (bl, .inl (cI, 24, .inl (nF BL))), (bf, .inl (cI, 24, .inl (nF BF))), (ba, .inl (cI, 24, .inl (oF BA))), (bk, .inl (cI, 24, .inl (oF BK))), (bg, .inl (cI, 24, .inl (nF BG))), (p0, .inr (2, [.ref h0, .int (nI nx), .int (nI pz)])), (h0, .inr (3, [.int (nI 20), .ref hl1, .ref hs1, .ref hw1, .ref hc1])), (hl1, .inl (cJ, 20 * 24, .inr (.inl (lF HL)))), (hs1, .inl (cI, 20 * 24, .inl (nF HS))), (hw1, .inl (cI, 20 * 24, .inl (nF HW))), (hc1, .inl (cI, 20, .inl (nF HC))), (i0, .inr (3, [.int (nI 2), .ref il1, .ref is1, .ref iw1, .ref ic1])), (il1, .inl (cJ, 2 * 24, .inr (.inl (lF IL)))), (is1, .inl (cI, 2 * 24, .inl (nF IS))), (iw1, .inl (cI, 2 * 24, .inl (nF IW))), (ic1, .inl (cI, 2, .inl (nF IC))), (ik, .inl (cZ, 2, .inl (nF IK))), (it, .inl (cI, 2, .inl (nF IT)))] (.int (-1000000002)) := by
  have hs8 := hw0.1
  have hA64 := hw0.2.1
  have hBK := tf_BK hTr hn
  have hDK := tf_DK hTr hn
  have hB := tf_B hTr
  have hBF := tf_BF hTr hn
  have hT := tf_T hTr hso
  have hanc := tf_anc hTr hn
  have hp := plc_le KS KL n s A
  have hcb := cbl_le KS KL n s A
  have hfl := fnd_le KS KL n s A
  refine ro_start (by decide) (Nat.le_of_ble_eq_true rfl) ?_
  intro pp ee ss mm below meth cd C0 hP hK ls hl
  obtain ⟨hx, hb, hr, hml, hown, hts, hlk⟩ := C0
  have hown : ss.vm.findClass RX5 = some mm.cls := hown
  have hl : lv_has ls 2 [(0, .ref x0), (1, .int x)] := hl
  have hP : va_P D vwCl [(x0, .inr (5, [.ref w0, .ref d0, .ref k0, .ref b0, .ref p0, .ref i0, .ref ik, .ref it, .int (nI sd)])), (w0, .inr (4, [.long (lN A), .int (nI s)])), (d0, .inr (4, [.long (lN dA), .int (nI dz)])), (k0, .inr (1, [.ref kl, .ref ks, .ref kw, .int (nI n)])), (kl, .inl (cJ, 24, .inr (.inl (lF KL)))), (ks, .inl (cI, 24, .inl (nF KS))), (kw, .inl (cI, 24, .inl (nF KW))), (b0, .inr (0, [.ref bb, .ref bd, .ref bm, .ref bl, .ref bf, .ref ba, .ref bk, .ref bg, .int (nI n)])), (bb, .inl (cI, 24, .inl (nF BB))), (bd, .inl (cI, 24, .inl (nF BD))), (bm, .inl (cI, 24, .inl (nF BM))), (bl, .inl (cI, 24, .inl (nF BL))), (bf, .inl (cI, 24, .inl (nF BF))), (ba, .inl (cI, 24, .inl (oF BA))), (bk, .inl (cI, 24, .inl (oF BK))), (bg, .inl (cI, 24, .inl (nF BG))), (p0, .inr (2, [.ref h0, .int (nI nx), .int (nI pz)])), (h0, .inr (3, [.int (nI 20), .ref hl1, .ref hs1, .ref hw1, .ref hc1])), (hl1, .inl (cJ, 20 * 24, .inr (.inl (lF HL)))), (hs1, .inl (cI, 20 * 24, .inl (nF HS))), (hw1, .inl (cI, 20 * 24, .inl (nF HW))), (hc1, .inl (cI, 20, .inl (nF HC))), (i0, .inr (3, [.int (nI 2), .ref il1, .ref is1, .ref iw1, .ref ic1])), (il1, .inl (cJ, 2 * 24, .inr (.inl (lF IL)))), (is1, .inl (cI, 2 * 24, .inl (nF IS))), (iw1, .inl (cI, 2 * 24, .inl (nF IW))), (ic1, .inl (cI, 2, .inl (nF IC))), (ik, .inl (cZ, 2, .inl (nF IK))), (it, .inl (cI, 2, .inl (nF IT)))] ss.heap := hP
  refine lv_iload_n hx hb dX5_feed_0 rfl (lv_at hl 1 rfl) ?_
  refine lv_if_lt (tgt := 11) hx hb dX5_feed_1 (by decide) (fun c1 => ?_) (fun c1 => ?_)
  ·
    refine lv_ldc hx hb hown (hts _ mk_X5_57) dX5_feed_11 ?_
    exact ro_iret hx hb hr hlk dX5_feed_13 (rfl)
  ·
    exact absurd hx0 c1
set_option maxHeartbeats 4000000 in
set_option maxRecDepth 100000 in
theorem c_X5_feed_big (l : Launch) (D : va_G) (cI cJ cZ : ClassId) (x0 w0 d0 k0 kl ks kw b0 bb bd bm bl bf ba bk bg p0 h0 hl1 hs1 hw1 hc1 i0 il1 is1 iw1 ic1 ik it : Nat) (A : Nat) (s : Nat) (dA : Nat) (dz : Nat) (KL : Nat → Nat) (KS : Nat → Nat) (KW : Nat → Nat) (n : Nat) (BB : Nat → Nat) (BD : Nat → Nat) (BM : Nat → Nat) (BL : Nat → Nat) (BF : Nat → Nat) (BA : Nat → Nat) (BK : Nat → Nat) (BG : Nat → Nat) (nx : Nat) (pz : Nat) (HL : Nat → Nat) (HS : Nat → Nat) (HW : Nat → Nat) (HC : Nat → Nat) (IL : Nat → Nat) (IS : Nat → Nat) (IW : Nat → Nat) (IC : Nat → Nat) (IK : Nat → Nat) (IT : Nat → Nat) (sd : Nat) (hn : n ≤ 24) (hw0 : Wf s A) (hk : ∀ k, k < n → Wf (KS k) (KL k)) (hv : ∀ k, k < n → KW k ≤ 9999) (hso : Srt KS KL n) (hTr : TrX (gapF KS KL) n BB BD BM BL BF BA BK) (hnx : nx < 20) (hpz : pz ≤ 20) (hsd : sd < 2 ^ 31) (j : Nat) (hj : j < 2 ^ 31) (hjb : 255 < j) : RO l yX5_feed cX5_feed 2 (some .int) (rmN 1 21) D (ty3 cI cJ cZ) [.ref x0, .int (nI j)] [(x0, .inr (5, [.ref w0, .ref d0, .ref k0, .ref b0, .ref p0, .ref i0, .ref ik, .ref it, .int (nI sd)])), (w0, .inr (4, [.long (lN A), .int (nI s)])), (d0, .inr (4, [.long (lN dA), .int (nI dz)])), (k0, .inr (1, [.ref kl, .ref ks, .ref kw, .int (nI n)])), (kl, .inl (cJ, 24, .inr (.inl (lF KL)))), (ks, .inl (cI, 24, .inl (nF KS))), (kw, .inl (cI, 24, .inl (nF KW))), (b0, .inr (0, [.ref bb, .ref bd, .ref bm, .ref bl, .ref bf, .ref ba, .ref bk, .ref bg, .int (nI n)])), (bb, .inl (cI, 24, .inl (nF BB))), (bd, .inl (cI, 24, .inl (nF BD))), (bm, .inl (cI, 24, .inl (nF BM))), (bl, .inl (cI, 24, .inl (nF BL))), (bf, .inl (cI, 24, .inl (nF BF))), (ba, .inl (cI, 24, .inl (oF BA))), (bk, .inl (cI, 24, .inl (oF BK))), (bg, .inl (cI, 24, .inl (nF BG))), (p0, .inr (2, [.ref h0, .int (nI nx), .int (nI pz)])), (h0, .inr (3, [.int (nI 20), .ref hl1, .ref hs1, .ref hw1, .ref hc1])), (hl1, .inl (cJ, 20 * 24, .inr (.inl (lF HL)))), (hs1, .inl (cI, 20 * 24, .inl (nF HS))), (hw1, .inl (cI, 20 * 24, .inl (nF HW))), (hc1, .inl (cI, 20, .inl (nF HC))), (i0, .inr (3, [.int (nI 2), .ref il1, .ref is1, .ref iw1, .ref ic1])), (il1, .inl (cJ, 2 * 24, .inr (.inl (lF IL)))), (is1, .inl (cI, 2 * 24, .inl (nF IS))), (iw1, .inl (cI, 2 * 24, .inl (nF IW))), (ic1, .inl (cI, 2, .inl (nF IC))), (ik, .inl (cZ, 2, .inl (nF IK))), (it, .inl (cI, 2, .inl (nF IT)))] (.int (-1000000002)) := by
  have hs8 := hw0.1
  have hA64 := hw0.2.1
  have hBK := tf_BK hTr hn
  have hDK := tf_DK hTr hn
  have hB := tf_B hTr
  have hBF := tf_BF hTr hn
  have hT := tf_T hTr hso
  have hanc := tf_anc hTr hn
  have hp := plc_le KS KL n s A
  have hcb := cbl_le KS KL n s A
  have hfl := fnd_le KS KL n s A
  refine ro_start (by decide) (Nat.le_of_ble_eq_true rfl) ?_
  intro pp ee ss mm below meth cd C0 hP hK ls hl
  obtain ⟨hx, hb, hr, hml, hown, hts, hlk⟩ := C0
  have hown : ss.vm.findClass RX5 = some mm.cls := hown
  have hl : lv_has ls 2 [(0, .ref x0), (1, .int (nI j))] := hl
  have hP : va_P D vwCl [(x0, .inr (5, [.ref w0, .ref d0, .ref k0, .ref b0, .ref p0, .ref i0, .ref ik, .ref it, .int (nI sd)])), (w0, .inr (4, [.long (lN A), .int (nI s)])), (d0, .inr (4, [.long (lN dA), .int (nI dz)])), (k0, .inr (1, [.ref kl, .ref ks, .ref kw, .int (nI n)])), (kl, .inl (cJ, 24, .inr (.inl (lF KL)))), (ks, .inl (cI, 24, .inl (nF KS))), (kw, .inl (cI, 24, .inl (nF KW))), (b0, .inr (0, [.ref bb, .ref bd, .ref bm, .ref bl, .ref bf, .ref ba, .ref bk, .ref bg, .int (nI n)])), (bb, .inl (cI, 24, .inl (nF BB))), (bd, .inl (cI, 24, .inl (nF BD))), (bm, .inl (cI, 24, .inl (nF BM))), (bl, .inl (cI, 24, .inl (nF BL))), (bf, .inl (cI, 24, .inl (nF BF))), (ba, .inl (cI, 24, .inl (oF BA))), (bk, .inl (cI, 24, .inl (oF BK))), (bg, .inl (cI, 24, .inl (nF BG))), (p0, .inr (2, [.ref h0, .int (nI nx), .int (nI pz)])), (h0, .inr (3, [.int (nI 20), .ref hl1, .ref hs1, .ref hw1, .ref hc1])), (hl1, .inl (cJ, 20 * 24, .inr (.inl (lF HL)))), (hs1, .inl (cI, 20 * 24, .inl (nF HS))), (hw1, .inl (cI, 20 * 24, .inl (nF HW))), (hc1, .inl (cI, 20, .inl (nF HC))), (i0, .inr (3, [.int (nI 2), .ref il1, .ref is1, .ref iw1, .ref ic1])), (il1, .inl (cJ, 2 * 24, .inr (.inl (lF IL)))), (is1, .inl (cI, 2 * 24, .inl (nF IS))), (iw1, .inl (cI, 2 * 24, .inl (nF IW))), (ic1, .inl (cI, 2, .inl (nF IC))), (ik, .inl (cZ, 2, .inl (nF IK))), (it, .inl (cI, 2, .inl (nF IT)))] ss.heap := hP
  refine lv_iload_n hx hb dX5_feed_0 rfl (lv_at hl 1 rfl) ?_
  refine n_if_lt (tgt := 11) hx hb dX5_feed_1 (by decide) (by omega) ?_
  refine lv_iload_n hx hb dX5_feed_4 rfl (lv_at hl 1 rfl) ?_
  refine lv_sipush (v := nI 255) hx hb dX5_feed_5 (by decide +kernel) ?_
  refine n_le (tgt := 14) hx hb dX5_feed_8 (by decide) (by omega) (by omega) (fun c2 => ?_) (fun c2 => ?_)
  ·
    exact absurd c2 (by omega)
  ·
    refine lv_ldc hx hb hown (hts _ mk_X5_57) dX5_feed_11 ?_
    exact ro_iret hx hb hr hlk dX5_feed_13 (rfl)
set_option maxHeartbeats 4000000 in
set_option maxRecDepth 100000 in
theorem c_X5_feed_full (l : Launch) (D : va_G) (cI cJ cZ : ClassId) (x0 w0 d0 k0 kl ks kw b0 bb bd bm bl bf ba bk bg p0 h0 hl1 hs1 hw1 hc1 i0 il1 is1 iw1 ic1 ik it : Nat) (A : Nat) (s : Nat) (dA : Nat) (dz : Nat) (KL : Nat → Nat) (KS : Nat → Nat) (KW : Nat → Nat) (n : Nat) (BB : Nat → Nat) (BD : Nat → Nat) (BM : Nat → Nat) (BL : Nat → Nat) (BF : Nat → Nat) (BA : Nat → Nat) (BK : Nat → Nat) (BG : Nat → Nat) (nx : Nat) (pz : Nat) (HL : Nat → Nat) (HS : Nat → Nat) (HW : Nat → Nat) (HC : Nat → Nat) (IL : Nat → Nat) (IS : Nat → Nat) (IW : Nat → Nat) (IC : Nat → Nat) (IK : Nat → Nat) (IT : Nat → Nat) (sd : Nat) (hn : n ≤ 24) (hw0 : Wf s A) (hk : ∀ k, k < n → Wf (KS k) (KL k)) (hv : ∀ k, k < n → KW k ≤ 9999) (hso : Srt KS KL n) (hTr : TrX (gapF KS KL) n BB BD BM BL BF BA BK) (hnx : nx < 20) (hpz : pz ≤ 20) (hsd : sd < 2 ^ 31) (j : Nat) (hj : j ≤ 255) (hs : s = 8) : RO l yX5_feed cX5_feed 2 (some .int) (rmN 1 21) D (ty3 cI cJ cZ) [.ref x0, .int (nI j)] [(x0, .inr (5, [.ref w0, .ref d0, .ref k0, .ref b0, .ref p0, .ref i0, .ref ik, .ref it, .int (nI sd)])), (w0, .inr (4, [.long (lN A), .int (nI s)])), (d0, .inr (4, [.long (lN dA), .int (nI dz)])), (k0, .inr (1, [.ref kl, .ref ks, .ref kw, .int (nI n)])), (kl, .inl (cJ, 24, .inr (.inl (lF KL)))), (ks, .inl (cI, 24, .inl (nF KS))), (kw, .inl (cI, 24, .inl (nF KW))), (b0, .inr (0, [.ref bb, .ref bd, .ref bm, .ref bl, .ref bf, .ref ba, .ref bk, .ref bg, .int (nI n)])), (bb, .inl (cI, 24, .inl (nF BB))), (bd, .inl (cI, 24, .inl (nF BD))), (bm, .inl (cI, 24, .inl (nF BM))), (bl, .inl (cI, 24, .inl (nF BL))), (bf, .inl (cI, 24, .inl (nF BF))), (ba, .inl (cI, 24, .inl (oF BA))), (bk, .inl (cI, 24, .inl (oF BK))), (bg, .inl (cI, 24, .inl (nF BG))), (p0, .inr (2, [.ref h0, .int (nI nx), .int (nI pz)])), (h0, .inr (3, [.int (nI 20), .ref hl1, .ref hs1, .ref hw1, .ref hc1])), (hl1, .inl (cJ, 20 * 24, .inr (.inl (lF HL)))), (hs1, .inl (cI, 20 * 24, .inl (nF HS))), (hw1, .inl (cI, 20 * 24, .inl (nF HW))), (hc1, .inl (cI, 20, .inl (nF HC))), (i0, .inr (3, [.int (nI 2), .ref il1, .ref is1, .ref iw1, .ref ic1])), (il1, .inl (cJ, 2 * 24, .inr (.inl (lF IL)))), (is1, .inl (cI, 2 * 24, .inl (nF IS))), (iw1, .inl (cI, 2 * 24, .inl (nF IW))), (ic1, .inl (cI, 2, .inl (nF IC))), (ik, .inl (cZ, 2, .inl (nF IK))), (it, .inl (cI, 2, .inl (nF IT)))] (.int (-1000000004)) := by
  have hs8 := hw0.1
  have hA64 := hw0.2.1
  have hBK := tf_BK hTr hn
  have hDK := tf_DK hTr hn
  have hB := tf_B hTr
  have hBF := tf_BF hTr hn
  have hT := tf_T hTr hso
  have hanc := tf_anc hTr hn
  have hp := plc_le KS KL n s A
  have hcb := cbl_le KS KL n s A
  have hfl := fnd_le KS KL n s A
  refine ro_start (by decide) (Nat.le_of_ble_eq_true rfl) ?_
  intro pp ee ss mm below meth cd C0 hP hK ls hl
  obtain ⟨hx, hb, hr, hml, hown, hts, hlk⟩ := C0
  have hown : ss.vm.findClass RX5 = some mm.cls := hown
  have hl : lv_has ls 2 [(0, .ref x0), (1, .int (nI j))] := hl
  have hP : va_P D vwCl [(x0, .inr (5, [.ref w0, .ref d0, .ref k0, .ref b0, .ref p0, .ref i0, .ref ik, .ref it, .int (nI sd)])), (w0, .inr (4, [.long (lN A), .int (nI s)])), (d0, .inr (4, [.long (lN dA), .int (nI dz)])), (k0, .inr (1, [.ref kl, .ref ks, .ref kw, .int (nI n)])), (kl, .inl (cJ, 24, .inr (.inl (lF KL)))), (ks, .inl (cI, 24, .inl (nF KS))), (kw, .inl (cI, 24, .inl (nF KW))), (b0, .inr (0, [.ref bb, .ref bd, .ref bm, .ref bl, .ref bf, .ref ba, .ref bk, .ref bg, .int (nI n)])), (bb, .inl (cI, 24, .inl (nF BB))), (bd, .inl (cI, 24, .inl (nF BD))), (bm, .inl (cI, 24, .inl (nF BM))), (bl, .inl (cI, 24, .inl (nF BL))), (bf, .inl (cI, 24, .inl (nF BF))), (ba, .inl (cI, 24, .inl (oF BA))), (bk, .inl (cI, 24, .inl (oF BK))), (bg, .inl (cI, 24, .inl (nF BG))), (p0, .inr (2, [.ref h0, .int (nI nx), .int (nI pz)])), (h0, .inr (3, [.int (nI 20), .ref hl1, .ref hs1, .ref hw1, .ref hc1])), (hl1, .inl (cJ, 20 * 24, .inr (.inl (lF HL)))), (hs1, .inl (cI, 20 * 24, .inl (nF HS))), (hw1, .inl (cI, 20 * 24, .inl (nF HW))), (hc1, .inl (cI, 20, .inl (nF HC))), (i0, .inr (3, [.int (nI 2), .ref il1, .ref is1, .ref iw1, .ref ic1])), (il1, .inl (cJ, 2 * 24, .inr (.inl (lF IL)))), (is1, .inl (cI, 2 * 24, .inl (nF IS))), (iw1, .inl (cI, 2 * 24, .inl (nF IW))), (ic1, .inl (cI, 2, .inl (nF IC))), (ik, .inl (cZ, 2, .inl (nF IK))), (it, .inl (cI, 2, .inl (nF IT)))] ss.heap := hP
  refine lv_iload_n hx hb dX5_feed_0 rfl (lv_at hl 1 rfl) ?_
  refine n_if_lt (tgt := 11) hx hb dX5_feed_1 (by decide) (by omega) ?_
  refine lv_iload_n hx hb dX5_feed_4 rfl (lv_at hl 1 rfl) ?_
  refine lv_sipush (v := nI 255) hx hb dX5_feed_5 (by decide +kernel) ?_
  refine n_le (tgt := 14) hx hb dX5_feed_8 (by decide) (by omega) (by omega) (fun c2 => ?_) (fun c2 => ?_)
  ·
    refine lv_aload_n hx hb dX5_feed_14 rfl (lv_at hl 0 rfl) ?_
    refine va_get (D := D) (ci := 5) (v := .ref w0) (C := RX5) (T := TX5) (N := 9) hx hb hts inX5 hown hK hP 0 rfl rfl 0 (by decide) (hts _ mf_X5_10) (fun _ h9 => h9) rfl dX5_feed_15 ?_
    refine ro_V (As := []) (rest := []) ⟨hx, hb, hml, hown, hts⟩ (c_X4_size l D cI cJ cZ w0 A s) (k_X5_58 hts ⟨Nat.le_of_ble_eq_true rfl, Nat.le_of_ble_eq_true rfl⟩) hK hP 1 rfl rfl rfl [1] rfl rfl hl.1 rfl (Nat.le_of_ble_eq_true rfl) dX5_feed_18 ⟨Nat.le_of_ble_eq_true rfl, Nat.le_of_ble_eq_true rfl⟩ ?_
    refine lv_bipush (v := nI 8) hx hb dX5_feed_21 (by decide +kernel) ?_
    refine n_lt (tgt := 29) hx hb dX5_feed_23 (by decide) (by omega) (by omega) (fun c3 => ?_) (fun c3 => ?_)
    ·
      exact absurd c3 (by omega)
    ·
      refine lv_ldc hx hb hown (hts _ mk_X5_62) dX5_feed_26 ?_
      exact ro_iret hx hb hr hlk dX5_feed_28 (rfl)
  ·
    exact absurd c2 (by omega)
set_option maxHeartbeats 4000000 in
set_option maxRecDepth 100000 in
theorem c_X5_feed_ok (l : Launch) (D : va_G) (cI cJ cZ : ClassId) (x0 w0 d0 k0 kl ks kw b0 bb bd bm bl bf ba bk bg p0 h0 hl1 hs1 hw1 hc1 i0 il1 is1 iw1 ic1 ik it : Nat) (A : Nat) (s : Nat) (dA : Nat) (dz : Nat) (KL : Nat → Nat) (KS : Nat → Nat) (KW : Nat → Nat) (n : Nat) (BB : Nat → Nat) (BD : Nat → Nat) (BM : Nat → Nat) (BL : Nat → Nat) (BF : Nat → Nat) (BA : Nat → Nat) (BK : Nat → Nat) (BG : Nat → Nat) (nx : Nat) (pz : Nat) (HL : Nat → Nat) (HS : Nat → Nat) (HW : Nat → Nat) (HC : Nat → Nat) (IL : Nat → Nat) (IS : Nat → Nat) (IW : Nat → Nat) (IC : Nat → Nat) (IK : Nat → Nat) (IT : Nat → Nat) (sd : Nat) (hn : n ≤ 24) (hw0 : Wf s A) (hk : ∀ k, k < n → Wf (KS k) (KL k)) (hv : ∀ k, k < n → KW k ≤ 9999) (hso : Srt KS KL n) (hTr : TrX (gapF KS KL) n BB BD BM BL BF BA BK) (hnx : nx < 20) (hpz : pz ≤ 20) (hsd : sd < 2 ^ 31) (j : Nat) (hj : j ≤ 255) (hs : s < 8) (sz : Nat) : WR l yX5_feed cX5_feed 2 (some .int) (rmN 1 21) D (ty3 cI cJ cZ) [.ref x0, .int (nI j)] [(x0, .inr (5, [.ref w0, .ref d0, .ref k0, .ref b0, .ref p0, .ref i0, .ref ik, .ref it, .int (nI sd)])), (w0, .inr (4, [.long (lN A), .int (nI s)])), (d0, .inr (4, [.long (lN dA), .int (nI dz)])), (k0, .inr (1, [.ref kl, .ref ks, .ref kw, .int (nI n)])), (kl, .inl (cJ, 24, .inr (.inl (lF KL)))), (ks, .inl (cI, 24, .inl (nF KS))), (kw, .inl (cI, 24, .inl (nF KW))), (b0, .inr (0, [.ref bb, .ref bd, .ref bm, .ref bl, .ref bf, .ref ba, .ref bk, .ref bg, .int (nI n)])), (bb, .inl (cI, 24, .inl (nF BB))), (bd, .inl (cI, 24, .inl (nF BD))), (bm, .inl (cI, 24, .inl (nF BM))), (bl, .inl (cI, 24, .inl (nF BL))), (bf, .inl (cI, 24, .inl (nF BF))), (ba, .inl (cI, 24, .inl (oF BA))), (bk, .inl (cI, 24, .inl (oF BK))), (bg, .inl (cI, 24, .inl (nF BG))), (p0, .inr (2, [.ref h0, .int (nI nx), .int (nI pz)])), (h0, .inr (3, [.int (nI 20), .ref hl1, .ref hs1, .ref hw1, .ref hc1])), (hl1, .inl (cJ, 20 * 24, .inr (.inl (lF HL)))), (hs1, .inl (cI, 20 * 24, .inl (nF HS))), (hw1, .inl (cI, 20 * 24, .inl (nF HW))), (hc1, .inl (cI, 20, .inl (nF HC))), (i0, .inr (3, [.int (nI 2), .ref il1, .ref is1, .ref iw1, .ref ic1])), (il1, .inl (cJ, 2 * 24, .inr (.inl (lF IL)))), (is1, .inl (cI, 2 * 24, .inl (nF IS))), (iw1, .inl (cI, 2 * 24, .inl (nF IW))), (ic1, .inl (cI, 2, .inl (nF IC))), (ik, .inl (cZ, 2, .inl (nF IK))), (it, .inl (cI, 2, .inl (nF IT)))] sz (fun x w => x = some (.int (nI (s + 1))) ∧ w = [(x0, .inr (5, [.ref w0, .ref d0, .ref k0, .ref b0, .ref p0, .ref i0, .ref ik, .ref it, .int (nI sd)])), (w0, .inr (4, [.long (lN (app A s j)), .int (nI (s + 1))])), (d0, .inr (4, [.long (lN dA), .int (nI dz)])), (k0, .inr (1, [.ref kl, .ref ks, .ref kw, .int (nI n)])), (kl, .inl (cJ, 24, .inr (.inl (lF KL)))), (ks, .inl (cI, 24, .inl (nF KS))), (kw, .inl (cI, 24, .inl (nF KW))), (b0, .inr (0, [.ref bb, .ref bd, .ref bm, .ref bl, .ref bf, .ref ba, .ref bk, .ref bg, .int (nI n)])), (bb, .inl (cI, 24, .inl (nF BB))), (bd, .inl (cI, 24, .inl (nF BD))), (bm, .inl (cI, 24, .inl (nF BM))), (bl, .inl (cI, 24, .inl (nF BL))), (bf, .inl (cI, 24, .inl (nF BF))), (ba, .inl (cI, 24, .inl (oF BA))), (bk, .inl (cI, 24, .inl (oF BK))), (bg, .inl (cI, 24, .inl (nF BG))), (p0, .inr (2, [.ref h0, .int (nI nx), .int (nI pz)])), (h0, .inr (3, [.int (nI 20), .ref hl1, .ref hs1, .ref hw1, .ref hc1])), (hl1, .inl (cJ, 20 * 24, .inr (.inl (lF HL)))), (hs1, .inl (cI, 20 * 24, .inl (nF HS))), (hw1, .inl (cI, 20 * 24, .inl (nF HW))), (hc1, .inl (cI, 20, .inl (nF HC))), (i0, .inr (3, [.int (nI 2), .ref il1, .ref is1, .ref iw1, .ref ic1])), (il1, .inl (cJ, 2 * 24, .inr (.inl (lF IL)))), (is1, .inl (cI, 2 * 24, .inl (nF IS))), (iw1, .inl (cI, 2 * 24, .inl (nF IW))), (ic1, .inl (cI, 2, .inl (nF IC))), (ik, .inl (cZ, 2, .inl (nF IK))), (it, .inl (cI, 2, .inl (nF IT)))]) := by
  have hs8 := hw0.1
  have hA64 := hw0.2.1
  have hBK := tf_BK hTr hn
  have hDK := tf_DK hTr hn
  have hB := tf_B hTr
  have hBF := tf_BF hTr hn
  have hT := tf_T hTr hso
  have hanc := tf_anc hTr hn
  have hp := plc_le KS KL n s A
  have hcb := cbl_le KS KL n s A
  have hfl := fnd_le KS KL n s A
  refine wr_start (by decide) (Nat.le_of_ble_eq_true rfl) ?_
  intro pp ee ss mm below meth cd AA C0 hAA hP hK hD hS hN hnm ls hl
  obtain ⟨hx, hb, hr, hml, hown, hts, hlk⟩ := C0
  have hown : ss.vm.findClass RX5 = some mm.cls := hown
  have hl : lv_has ls 2 [(0, .ref x0), (1, .int (nI j))] := hl
  have hP : va_P D vwCl [(x0, .inr (5, [.ref w0, .ref d0, .ref k0, .ref b0, .ref p0, .ref i0, .ref ik, .ref it, .int (nI sd)])), (w0, .inr (4, [.long (lN A), .int (nI s)])), (d0, .inr (4, [.long (lN dA), .int (nI dz)])), (k0, .inr (1, [.ref kl, .ref ks, .ref kw, .int (nI n)])), (kl, .inl (cJ, 24, .inr (.inl (lF KL)))), (ks, .inl (cI, 24, .inl (nF KS))), (kw, .inl (cI, 24, .inl (nF KW))), (b0, .inr (0, [.ref bb, .ref bd, .ref bm, .ref bl, .ref bf, .ref ba, .ref bk, .ref bg, .int (nI n)])), (bb, .inl (cI, 24, .inl (nF BB))), (bd, .inl (cI, 24, .inl (nF BD))), (bm, .inl (cI, 24, .inl (nF BM))), (bl, .inl (cI, 24, .inl (nF BL))), (bf, .inl (cI, 24, .inl (nF BF))), (ba, .inl (cI, 24, .inl (oF BA))), (bk, .inl (cI, 24, .inl (oF BK))), (bg, .inl (cI, 24, .inl (nF BG))), (p0, .inr (2, [.ref h0, .int (nI nx), .int (nI pz)])), (h0, .inr (3, [.int (nI 20), .ref hl1, .ref hs1, .ref hw1, .ref hc1])), (hl1, .inl (cJ, 20 * 24, .inr (.inl (lF HL)))), (hs1, .inl (cI, 20 * 24, .inl (nF HS))), (hw1, .inl (cI, 20 * 24, .inl (nF HW))), (hc1, .inl (cI, 20, .inl (nF HC))), (i0, .inr (3, [.int (nI 2), .ref il1, .ref is1, .ref iw1, .ref ic1])), (il1, .inl (cJ, 2 * 24, .inr (.inl (lF IL)))), (is1, .inl (cI, 2 * 24, .inl (nF IS))), (iw1, .inl (cI, 2 * 24, .inl (nF IW))), (ic1, .inl (cI, 2, .inl (nF IC))), (ik, .inl (cZ, 2, .inl (nF IK))), (it, .inl (cI, 2, .inl (nF IT)))] ss.heap := hP
  refine lv_iload_n hx hb dX5_feed_0 rfl (lv_at hl 1 rfl) ?_
  refine n_if_lt (tgt := 11) hx hb dX5_feed_1 (by decide) (by omega) ?_
  refine lv_iload_n hx hb dX5_feed_4 rfl (lv_at hl 1 rfl) ?_
  refine lv_sipush (v := nI 255) hx hb dX5_feed_5 (by decide +kernel) ?_
  refine n_le (tgt := 14) hx hb dX5_feed_8 (by decide) (by omega) (by omega) (fun c2 => ?_) (fun c2 => ?_)
  ·
    refine lv_aload_n hx hb dX5_feed_14 rfl (lv_at hl 0 rfl) ?_
    refine va_get (D := D) (ci := 5) (v := .ref w0) (C := RX5) (T := TX5) (N := 9) hx hb hts inX5 hown hK hP 0 rfl rfl 0 (by decide) (hts _ mf_X5_10) (fun _ h9 => h9) rfl dX5_feed_15 ?_
    refine ro_V (As := []) (rest := []) ⟨hx, hb, hml, hown, hts⟩ (c_X4_size l D cI cJ cZ w0 A s) (k_X5_58 hts ⟨Nat.le_of_ble_eq_true rfl, Nat.le_of_ble_eq_true rfl⟩) hK hP 1 rfl rfl rfl [1] rfl rfl hl.1 rfl (Nat.le_of_ble_eq_true rfl) dX5_feed_18 ⟨Nat.le_of_ble_eq_true rfl, Nat.le_of_ble_eq_true rfl⟩ ?_
    refine lv_bipush (v := nI 8) hx hb dX5_feed_21 (by decide +kernel) ?_
    refine n_lt (tgt := 29) hx hb dX5_feed_23 (by decide) (by omega) (by omega) (fun c3 => ?_) (fun c3 => ?_)
    ·
      refine lv_aload_n hx hb dX5_feed_29 rfl (lv_at hl 0 rfl) ?_
      refine va_get (D := D) (ci := 5) (v := .ref w0) (C := RX5) (T := TX5) (N := 9) hx hb hts inX5 hown hK hP 0 rfl rfl 0 (by decide) (hts _ mf_X5_10) (fun _ h9 => h9) rfl dX5_feed_30 ?_
      refine lv_iload_n hx hb dX5_feed_33 rfl (lv_at hl 1 rfl) ?_
      refine wr_V (As := [.int (nI j)]) (rest := []) (wc := [(w0, .inr (4, [.long (lN A), .int (nI s)]))]) (wr := [(x0, .inr (5, [.ref w0, .ref d0, .ref k0, .ref b0, .ref p0, .ref i0, .ref ik, .ref it, .int (nI sd)])), (d0, .inr (4, [.long (lN dA), .int (nI dz)])), (k0, .inr (1, [.ref kl, .ref ks, .ref kw, .int (nI n)])), (kl, .inl (cJ, 24, .inr (.inl (lF KL)))), (ks, .inl (cI, 24, .inl (nF KS))), (kw, .inl (cI, 24, .inl (nF KW))), (b0, .inr (0, [.ref bb, .ref bd, .ref bm, .ref bl, .ref bf, .ref ba, .ref bk, .ref bg, .int (nI n)])), (bb, .inl (cI, 24, .inl (nF BB))), (bd, .inl (cI, 24, .inl (nF BD))), (bm, .inl (cI, 24, .inl (nF BM))), (bl, .inl (cI, 24, .inl (nF BL))), (bf, .inl (cI, 24, .inl (nF BF))), (ba, .inl (cI, 24, .inl (oF BA))), (bk, .inl (cI, 24, .inl (oF BK))), (bg, .inl (cI, 24, .inl (nF BG))), (p0, .inr (2, [.ref h0, .int (nI nx), .int (nI pz)])), (h0, .inr (3, [.int (nI 20), .ref hl1, .ref hs1, .ref hw1, .ref hc1])), (hl1, .inl (cJ, 20 * 24, .inr (.inl (lF HL)))), (hs1, .inl (cI, 20 * 24, .inl (nF HS))), (hw1, .inl (cI, 20 * 24, .inl (nF HW))), (hc1, .inl (cI, 20, .inl (nF HC))), (i0, .inr (3, [.int (nI 2), .ref il1, .ref is1, .ref iw1, .ref ic1])), (il1, .inl (cJ, 2 * 24, .inr (.inl (lF IL)))), (is1, .inl (cI, 2 * 24, .inl (nF IS))), (iw1, .inl (cI, 2 * 24, .inl (nF IW))), (ic1, .inl (cI, 2, .inl (nF IC))), (ik, .inl (cZ, 2, .inl (nF IK))), (it, .inl (cI, 2, .inl (nF IT)))]) ⟨hx, hb, hml, hown, hts⟩ (c_X4_append l D cI cJ cZ w0 A s j _ (by omega) (by omega)) (k_X5_63 hts ⟨Nat.le_of_ble_eq_true rfl, Nat.le_of_ble_eq_true rfl⟩) hK hN hP hD hS hAA 1 rfl rfl rfl [1] [0, 2, 3, 4, 5, 6, 7, 8, 9, 10, 11, 12, 13, 14, 15, 16, 17, 18, 19, 20, 21, 22, 23, 24, 25, 26, 27, 28] rfl rfl (by decide) (by decide) (by decide) rfl hl.1 rfl (Nat.le_of_ble_eq_true rfl) dX5_feed_34 ⟨Nat.le_of_ble_eq_true rfl, Nat.le_of_ble_eq_true rfl⟩ (fun v5 w6 H locs hp4 hP hD hS => ?_)
      obtain ⟨rfl, rfl⟩ := hp4
      have hP : va_P D vwCl [(x0, .inr (5, [.ref w0, .ref d0, .ref k0, .ref b0, .ref p0, .ref i0, .ref ik, .ref it, .int (nI sd)])), (w0, .inr (4, [.long (lN (app A s j)), .int (nI (s + 1))])), (d0, .inr (4, [.long (lN dA), .int (nI dz)])), (k0, .inr (1, [.ref kl, .ref ks, .ref kw, .int (nI n)])), (kl, .inl (cJ, 24, .inr (.inl (lF KL)))), (ks, .inl (cI, 24, .inl (nF KS))), (kw, .inl (cI, 24, .inl (nF KW))), (b0, .inr (0, [.ref bb, .ref bd, .ref bm, .ref bl, .ref bf, .ref ba, .ref bk, .ref bg, .int (nI n)])), (bb, .inl (cI, 24, .inl (nF BB))), (bd, .inl (cI, 24, .inl (nF BD))), (bm, .inl (cI, 24, .inl (nF BM))), (bl, .inl (cI, 24, .inl (nF BL))), (bf, .inl (cI, 24, .inl (nF BF))), (ba, .inl (cI, 24, .inl (oF BA))), (bk, .inl (cI, 24, .inl (oF BK))), (bg, .inl (cI, 24, .inl (nF BG))), (p0, .inr (2, [.ref h0, .int (nI nx), .int (nI pz)])), (h0, .inr (3, [.int (nI 20), .ref hl1, .ref hs1, .ref hw1, .ref hc1])), (hl1, .inl (cJ, 20 * 24, .inr (.inl (lF HL)))), (hs1, .inl (cI, 20 * 24, .inl (nF HS))), (hw1, .inl (cI, 20 * 24, .inl (nF HW))), (hc1, .inl (cI, 20, .inl (nF HC))), (i0, .inr (3, [.int (nI 2), .ref il1, .ref is1, .ref iw1, .ref ic1])), (il1, .inl (cJ, 2 * 24, .inr (.inl (lF IL)))), (is1, .inl (cI, 2 * 24, .inl (nF IS))), (iw1, .inl (cI, 2 * 24, .inl (nF IW))), (ic1, .inl (cI, 2, .inl (nF IC))), (ik, .inl (cZ, 2, .inl (nF IK))), (it, .inl (cI, 2, .inl (nF IT)))] H := hP.sub [0, 28, 1, 2, 3, 4, 5, 6, 7, 8, 9, 10, 11, 12, 13, 14, 15, 16, 17, 18, 19, 20, 21, 22, 23, 24, 25, 26, 27] rfl
      have hD : va_D AA [(x0, .inr (5, [.ref w0, .ref d0, .ref k0, .ref b0, .ref p0, .ref i0, .ref ik, .ref it, .int (nI sd)])), (w0, .inr (4, [.long (lN (app A s j)), .int (nI (s + 1))])), (d0, .inr (4, [.long (lN dA), .int (nI dz)])), (k0, .inr (1, [.ref kl, .ref ks, .ref kw, .int (nI n)])), (kl, .inl (cJ, 24, .inr (.inl (lF KL)))), (ks, .inl (cI, 24, .inl (nF KS))), (kw, .inl (cI, 24, .inl (nF KW))), (b0, .inr (0, [.ref bb, .ref bd, .ref bm, .ref bl, .ref bf, .ref ba, .ref bk, .ref bg, .int (nI n)])), (bb, .inl (cI, 24, .inl (nF BB))), (bd, .inl (cI, 24, .inl (nF BD))), (bm, .inl (cI, 24, .inl (nF BM))), (bl, .inl (cI, 24, .inl (nF BL))), (bf, .inl (cI, 24, .inl (nF BF))), (ba, .inl (cI, 24, .inl (oF BA))), (bk, .inl (cI, 24, .inl (oF BK))), (bg, .inl (cI, 24, .inl (nF BG))), (p0, .inr (2, [.ref h0, .int (nI nx), .int (nI pz)])), (h0, .inr (3, [.int (nI 20), .ref hl1, .ref hs1, .ref hw1, .ref hc1])), (hl1, .inl (cJ, 20 * 24, .inr (.inl (lF HL)))), (hs1, .inl (cI, 20 * 24, .inl (nF HS))), (hw1, .inl (cI, 20 * 24, .inl (nF HW))), (hc1, .inl (cI, 20, .inl (nF HC))), (i0, .inr (3, [.int (nI 2), .ref il1, .ref is1, .ref iw1, .ref ic1])), (il1, .inl (cJ, 2 * 24, .inr (.inl (lF IL)))), (is1, .inl (cI, 2 * 24, .inl (nF IS))), (iw1, .inl (cI, 2 * 24, .inl (nF IW))), (ic1, .inl (cI, 2, .inl (nF IC))), (ik, .inl (cZ, 2, .inl (nF IK))), (it, .inl (cI, 2, .inl (nF IT)))] := hD.sub [0, 28, 1, 2, 3, 4, 5, 6, 7, 8, 9, 10, 11, 12, 13, 14, 15, 16, 17, 18, 19, 20, 21, 22, 23, 24, 25, 26, 27] (by decide) rfl
      refine lv_aload_n hx hb dX5_feed_37 rfl (lv_at hl 0 rfl) ?_
      refine va_get (D := D) (ci := 5) (v := .ref w0) (C := RX5) (T := TX5) (N := 9) hx hb hts inX5 hown hK hP 0 rfl rfl 0 (by decide) (hts _ mf_X5_10) (fun _ h9 => h9) rfl dX5_feed_38 ?_
      refine ro_V (As := []) (rest := []) ⟨hx, hb, hml, hown, hts⟩ (c_X4_size l D cI cJ cZ w0 (app A s j) (s + 1)) (k_X5_58 hts ⟨Nat.le_of_ble_eq_true rfl, Nat.le_of_ble_eq_true rfl⟩) hK hP 1 rfl rfl rfl [1] rfl rfl hl.1 rfl (Nat.le_of_ble_eq_true rfl) dX5_feed_41 ⟨Nat.le_of_ble_eq_true rfl, Nat.le_of_ble_eq_true rfl⟩ ?_
      exact wr_iret hx hb hr hlk hP hD hS dX5_feed_44 (⟨rfl, rfl⟩)
    ·
      exact absurd c3 (by omega)
  ·
    exact absurd c2 (by omega)
set_option maxHeartbeats 4000000 in
set_option maxRecDepth 100000 in
theorem c_X5_wipe (l : Launch) (D : va_G) (cI cJ cZ : ClassId) (x0 w0 d0 k0 kl ks kw b0 bb bd bm bl bf ba bk bg p0 h0 hl1 hs1 hw1 hc1 i0 il1 is1 iw1 ic1 ik it : Nat) (A : Nat) (s : Nat) (dA : Nat) (dz : Nat) (KL : Nat → Nat) (KS : Nat → Nat) (KW : Nat → Nat) (n : Nat) (BB : Nat → Nat) (BD : Nat → Nat) (BM : Nat → Nat) (BL : Nat → Nat) (BF : Nat → Nat) (BA : Nat → Nat) (BK : Nat → Nat) (BG : Nat → Nat) (nx : Nat) (pz : Nat) (HL : Nat → Nat) (HS : Nat → Nat) (HW : Nat → Nat) (HC : Nat → Nat) (IL : Nat → Nat) (IS : Nat → Nat) (IW : Nat → Nat) (IC : Nat → Nat) (IK : Nat → Nat) (IT : Nat → Nat) (sd : Nat) (hn : n ≤ 24) (hw0 : Wf s A) (hk : ∀ k, k < n → Wf (KS k) (KL k)) (hv : ∀ k, k < n → KW k ≤ 9999) (hso : Srt KS KL n) (hTr : TrX (gapF KS KL) n BB BD BM BL BF BA BK) (hnx : nx < 20) (hpz : pz ≤ 20) (hsd : sd < 2 ^ 31)  (sz : Nat) : WR l yX5_wipe cX5_wipe 2 (some .int) (rmN 1 20) D (ty3 cI cJ cZ) [.ref x0] [(x0, .inr (5, [.ref w0, .ref d0, .ref k0, .ref b0, .ref p0, .ref i0, .ref ik, .ref it, .int (nI sd)])), (w0, .inr (4, [.long (lN A), .int (nI s)])), (d0, .inr (4, [.long (lN dA), .int (nI dz)])), (k0, .inr (1, [.ref kl, .ref ks, .ref kw, .int (nI n)])), (kl, .inl (cJ, 24, .inr (.inl (lF KL)))), (ks, .inl (cI, 24, .inl (nF KS))), (kw, .inl (cI, 24, .inl (nF KW))), (b0, .inr (0, [.ref bb, .ref bd, .ref bm, .ref bl, .ref bf, .ref ba, .ref bk, .ref bg, .int (nI n)])), (bb, .inl (cI, 24, .inl (nF BB))), (bd, .inl (cI, 24, .inl (nF BD))), (bm, .inl (cI, 24, .inl (nF BM))), (bl, .inl (cI, 24, .inl (nF BL))), (bf, .inl (cI, 24, .inl (nF BF))), (ba, .inl (cI, 24, .inl (oF BA))), (bk, .inl (cI, 24, .inl (oF BK))), (bg, .inl (cI, 24, .inl (nF BG))), (p0, .inr (2, [.ref h0, .int (nI nx), .int (nI pz)])), (h0, .inr (3, [.int (nI 20), .ref hl1, .ref hs1, .ref hw1, .ref hc1])), (hl1, .inl (cJ, 20 * 24, .inr (.inl (lF HL)))), (hs1, .inl (cI, 20 * 24, .inl (nF HS))), (hw1, .inl (cI, 20 * 24, .inl (nF HW))), (hc1, .inl (cI, 20, .inl (nF HC))), (i0, .inr (3, [.int (nI 2), .ref il1, .ref is1, .ref iw1, .ref ic1])), (il1, .inl (cJ, 2 * 24, .inr (.inl (lF IL)))), (is1, .inl (cI, 2 * 24, .inl (nF IS))), (iw1, .inl (cI, 2 * 24, .inl (nF IW))), (ic1, .inl (cI, 2, .inl (nF IC))), (ik, .inl (cZ, 2, .inl (nF IK))), (it, .inl (cI, 2, .inl (nF IT)))] sz (fun x w => x = some (.int (nI s)) ∧ w = [(x0, .inr (5, [.ref w0, .ref d0, .ref k0, .ref b0, .ref p0, .ref i0, .ref ik, .ref it, .int (nI sd)])), (w0, .inr (4, [.long (lN 0), .int (nI 0)])), (d0, .inr (4, [.long (lN dA), .int (nI dz)])), (k0, .inr (1, [.ref kl, .ref ks, .ref kw, .int (nI n)])), (kl, .inl (cJ, 24, .inr (.inl (lF KL)))), (ks, .inl (cI, 24, .inl (nF KS))), (kw, .inl (cI, 24, .inl (nF KW))), (b0, .inr (0, [.ref bb, .ref bd, .ref bm, .ref bl, .ref bf, .ref ba, .ref bk, .ref bg, .int (nI n)])), (bb, .inl (cI, 24, .inl (nF BB))), (bd, .inl (cI, 24, .inl (nF BD))), (bm, .inl (cI, 24, .inl (nF BM))), (bl, .inl (cI, 24, .inl (nF BL))), (bf, .inl (cI, 24, .inl (nF BF))), (ba, .inl (cI, 24, .inl (oF BA))), (bk, .inl (cI, 24, .inl (oF BK))), (bg, .inl (cI, 24, .inl (nF BG))), (p0, .inr (2, [.ref h0, .int (nI nx), .int (nI pz)])), (h0, .inr (3, [.int (nI 20), .ref hl1, .ref hs1, .ref hw1, .ref hc1])), (hl1, .inl (cJ, 20 * 24, .inr (.inl (lF HL)))), (hs1, .inl (cI, 20 * 24, .inl (nF HS))), (hw1, .inl (cI, 20 * 24, .inl (nF HW))), (hc1, .inl (cI, 20, .inl (nF HC))), (i0, .inr (3, [.int (nI 2), .ref il1, .ref is1, .ref iw1, .ref ic1])), (il1, .inl (cJ, 2 * 24, .inr (.inl (lF IL)))), (is1, .inl (cI, 2 * 24, .inl (nF IS))), (iw1, .inl (cI, 2 * 24, .inl (nF IW))), (ic1, .inl (cI, 2, .inl (nF IC))), (ik, .inl (cZ, 2, .inl (nF IK))), (it, .inl (cI, 2, .inl (nF IT)))]) := by
  have hs8 := hw0.1
  have hA64 := hw0.2.1
  have hBK := tf_BK hTr hn
  have hDK := tf_DK hTr hn
  have hB := tf_B hTr
  have hBF := tf_BF hTr hn
  have hT := tf_T hTr hso
  have hanc := tf_anc hTr hn
  have hp := plc_le KS KL n s A
  have hcb := cbl_le KS KL n s A
  have hfl := fnd_le KS KL n s A
  refine wr_start (by decide) (Nat.le_of_ble_eq_true rfl) ?_
  intro pp ee ss mm below meth cd AA C0 hAA hP hK hD hS hN hnm ls hl
  obtain ⟨hx, hb, hr, hml, hown, hts, hlk⟩ := C0
  have hown : ss.vm.findClass RX5 = some mm.cls := hown
  have hl : lv_has ls 2 [(0, .ref x0)] := hl
  have hP : va_P D vwCl [(x0, .inr (5, [.ref w0, .ref d0, .ref k0, .ref b0, .ref p0, .ref i0, .ref ik, .ref it, .int (nI sd)])), (w0, .inr (4, [.long (lN A), .int (nI s)])), (d0, .inr (4, [.long (lN dA), .int (nI dz)])), (k0, .inr (1, [.ref kl, .ref ks, .ref kw, .int (nI n)])), (kl, .inl (cJ, 24, .inr (.inl (lF KL)))), (ks, .inl (cI, 24, .inl (nF KS))), (kw, .inl (cI, 24, .inl (nF KW))), (b0, .inr (0, [.ref bb, .ref bd, .ref bm, .ref bl, .ref bf, .ref ba, .ref bk, .ref bg, .int (nI n)])), (bb, .inl (cI, 24, .inl (nF BB))), (bd, .inl (cI, 24, .inl (nF BD))), (bm, .inl (cI, 24, .inl (nF BM))), (bl, .inl (cI, 24, .inl (nF BL))), (bf, .inl (cI, 24, .inl (nF BF))), (ba, .inl (cI, 24, .inl (oF BA))), (bk, .inl (cI, 24, .inl (oF BK))), (bg, .inl (cI, 24, .inl (nF BG))), (p0, .inr (2, [.ref h0, .int (nI nx), .int (nI pz)])), (h0, .inr (3, [.int (nI 20), .ref hl1, .ref hs1, .ref hw1, .ref hc1])), (hl1, .inl (cJ, 20 * 24, .inr (.inl (lF HL)))), (hs1, .inl (cI, 20 * 24, .inl (nF HS))), (hw1, .inl (cI, 20 * 24, .inl (nF HW))), (hc1, .inl (cI, 20, .inl (nF HC))), (i0, .inr (3, [.int (nI 2), .ref il1, .ref is1, .ref iw1, .ref ic1])), (il1, .inl (cJ, 2 * 24, .inr (.inl (lF IL)))), (is1, .inl (cI, 2 * 24, .inl (nF IS))), (iw1, .inl (cI, 2 * 24, .inl (nF IW))), (ic1, .inl (cI, 2, .inl (nF IC))), (ik, .inl (cZ, 2, .inl (nF IK))), (it, .inl (cI, 2, .inl (nF IT)))] ss.heap := hP
  refine lv_aload_n hx hb dX5_wipe_0 rfl (lv_at hl 0 rfl) ?_
  refine va_get (D := D) (ci := 5) (v := .ref w0) (C := RX5) (T := TX5) (N := 9) hx hb hts inX5 hown hK hP 0 rfl rfl 0 (by decide) (hts _ mf_X5_10) (fun _ h9 => h9) rfl dX5_wipe_1 ?_
  refine ro_V (As := []) (rest := []) ⟨hx, hb, hml, hown, hts⟩ (c_X4_size l D cI cJ cZ w0 A s) (k_X5_58 hts ⟨Nat.le_of_ble_eq_true rfl, Nat.le_of_ble_eq_true rfl⟩) hK hP 1 rfl rfl rfl [1] rfl rfl hl.1 rfl (Nat.le_of_ble_eq_true rfl) dX5_wipe_4 ⟨Nat.le_of_ble_eq_true rfl, Nat.le_of_ble_eq_true rfl⟩ ?_
  refine lv_istore_n (lv' := [(1, .int (nI s)), (0, .ref x0)]) hx hb dX5_wipe_7 rfl hl (by decide) rfl (fun ls hl => ?_)
  refine lv_aload_n hx hb dX5_wipe_8 rfl (lv_at hl 1 rfl) ?_
  refine va_get (D := D) (ci := 5) (v := .ref w0) (C := RX5) (T := TX5) (N := 9) hx hb hts inX5 hown hK hP 0 rfl rfl 0 (by decide) (hts _ mf_X5_10) (fun _ h9 => h9) rfl dX5_wipe_9 ?_
  refine wr_V (As := []) (rest := []) (wc := [(w0, .inr (4, [.long (lN A), .int (nI s)]))]) (wr := [(x0, .inr (5, [.ref w0, .ref d0, .ref k0, .ref b0, .ref p0, .ref i0, .ref ik, .ref it, .int (nI sd)])), (d0, .inr (4, [.long (lN dA), .int (nI dz)])), (k0, .inr (1, [.ref kl, .ref ks, .ref kw, .int (nI n)])), (kl, .inl (cJ, 24, .inr (.inl (lF KL)))), (ks, .inl (cI, 24, .inl (nF KS))), (kw, .inl (cI, 24, .inl (nF KW))), (b0, .inr (0, [.ref bb, .ref bd, .ref bm, .ref bl, .ref bf, .ref ba, .ref bk, .ref bg, .int (nI n)])), (bb, .inl (cI, 24, .inl (nF BB))), (bd, .inl (cI, 24, .inl (nF BD))), (bm, .inl (cI, 24, .inl (nF BM))), (bl, .inl (cI, 24, .inl (nF BL))), (bf, .inl (cI, 24, .inl (nF BF))), (ba, .inl (cI, 24, .inl (oF BA))), (bk, .inl (cI, 24, .inl (oF BK))), (bg, .inl (cI, 24, .inl (nF BG))), (p0, .inr (2, [.ref h0, .int (nI nx), .int (nI pz)])), (h0, .inr (3, [.int (nI 20), .ref hl1, .ref hs1, .ref hw1, .ref hc1])), (hl1, .inl (cJ, 20 * 24, .inr (.inl (lF HL)))), (hs1, .inl (cI, 20 * 24, .inl (nF HS))), (hw1, .inl (cI, 20 * 24, .inl (nF HW))), (hc1, .inl (cI, 20, .inl (nF HC))), (i0, .inr (3, [.int (nI 2), .ref il1, .ref is1, .ref iw1, .ref ic1])), (il1, .inl (cJ, 2 * 24, .inr (.inl (lF IL)))), (is1, .inl (cI, 2 * 24, .inl (nF IS))), (iw1, .inl (cI, 2 * 24, .inl (nF IW))), (ic1, .inl (cI, 2, .inl (nF IC))), (ik, .inl (cZ, 2, .inl (nF IK))), (it, .inl (cI, 2, .inl (nF IT)))]) ⟨hx, hb, hml, hown, hts⟩ (c_X4_clear l D cI cJ cZ w0 A s _) (k_X5_66 hts ⟨Nat.le_of_ble_eq_true rfl, Nat.le_of_ble_eq_true rfl⟩) hK hN hP hD hS hAA 1 rfl rfl rfl [1] [0, 2, 3, 4, 5, 6, 7, 8, 9, 10, 11, 12, 13, 14, 15, 16, 17, 18, 19, 20, 21, 22, 23, 24, 25, 26, 27, 28] rfl rfl (by decide) (by decide) (by decide) rfl hl.1 rfl (Nat.le_of_ble_eq_true rfl) dX5_wipe_12 ⟨Nat.le_of_ble_eq_true rfl, Nat.le_of_ble_eq_true rfl⟩ (fun v2 w3 H locs hp1 hP hD hS => ?_)
  obtain ⟨rfl, rfl⟩ := hp1
  have hP : va_P D vwCl [(x0, .inr (5, [.ref w0, .ref d0, .ref k0, .ref b0, .ref p0, .ref i0, .ref ik, .ref it, .int (nI sd)])), (w0, .inr (4, [.long (lN 0), .int (nI 0)])), (d0, .inr (4, [.long (lN dA), .int (nI dz)])), (k0, .inr (1, [.ref kl, .ref ks, .ref kw, .int (nI n)])), (kl, .inl (cJ, 24, .inr (.inl (lF KL)))), (ks, .inl (cI, 24, .inl (nF KS))), (kw, .inl (cI, 24, .inl (nF KW))), (b0, .inr (0, [.ref bb, .ref bd, .ref bm, .ref bl, .ref bf, .ref ba, .ref bk, .ref bg, .int (nI n)])), (bb, .inl (cI, 24, .inl (nF BB))), (bd, .inl (cI, 24, .inl (nF BD))), (bm, .inl (cI, 24, .inl (nF BM))), (bl, .inl (cI, 24, .inl (nF BL))), (bf, .inl (cI, 24, .inl (nF BF))), (ba, .inl (cI, 24, .inl (oF BA))), (bk, .inl (cI, 24, .inl (oF BK))), (bg, .inl (cI, 24, .inl (nF BG))), (p0, .inr (2, [.ref h0, .int (nI nx), .int (nI pz)])), (h0, .inr (3, [.int (nI 20), .ref hl1, .ref hs1, .ref hw1, .ref hc1])), (hl1, .inl (cJ, 20 * 24, .inr (.inl (lF HL)))), (hs1, .inl (cI, 20 * 24, .inl (nF HS))), (hw1, .inl (cI, 20 * 24, .inl (nF HW))), (hc1, .inl (cI, 20, .inl (nF HC))), (i0, .inr (3, [.int (nI 2), .ref il1, .ref is1, .ref iw1, .ref ic1])), (il1, .inl (cJ, 2 * 24, .inr (.inl (lF IL)))), (is1, .inl (cI, 2 * 24, .inl (nF IS))), (iw1, .inl (cI, 2 * 24, .inl (nF IW))), (ic1, .inl (cI, 2, .inl (nF IC))), (ik, .inl (cZ, 2, .inl (nF IK))), (it, .inl (cI, 2, .inl (nF IT)))] H := hP.sub [0, 28, 1, 2, 3, 4, 5, 6, 7, 8, 9, 10, 11, 12, 13, 14, 15, 16, 17, 18, 19, 20, 21, 22, 23, 24, 25, 26, 27] rfl
  have hD : va_D AA [(x0, .inr (5, [.ref w0, .ref d0, .ref k0, .ref b0, .ref p0, .ref i0, .ref ik, .ref it, .int (nI sd)])), (w0, .inr (4, [.long (lN 0), .int (nI 0)])), (d0, .inr (4, [.long (lN dA), .int (nI dz)])), (k0, .inr (1, [.ref kl, .ref ks, .ref kw, .int (nI n)])), (kl, .inl (cJ, 24, .inr (.inl (lF KL)))), (ks, .inl (cI, 24, .inl (nF KS))), (kw, .inl (cI, 24, .inl (nF KW))), (b0, .inr (0, [.ref bb, .ref bd, .ref bm, .ref bl, .ref bf, .ref ba, .ref bk, .ref bg, .int (nI n)])), (bb, .inl (cI, 24, .inl (nF BB))), (bd, .inl (cI, 24, .inl (nF BD))), (bm, .inl (cI, 24, .inl (nF BM))), (bl, .inl (cI, 24, .inl (nF BL))), (bf, .inl (cI, 24, .inl (nF BF))), (ba, .inl (cI, 24, .inl (oF BA))), (bk, .inl (cI, 24, .inl (oF BK))), (bg, .inl (cI, 24, .inl (nF BG))), (p0, .inr (2, [.ref h0, .int (nI nx), .int (nI pz)])), (h0, .inr (3, [.int (nI 20), .ref hl1, .ref hs1, .ref hw1, .ref hc1])), (hl1, .inl (cJ, 20 * 24, .inr (.inl (lF HL)))), (hs1, .inl (cI, 20 * 24, .inl (nF HS))), (hw1, .inl (cI, 20 * 24, .inl (nF HW))), (hc1, .inl (cI, 20, .inl (nF HC))), (i0, .inr (3, [.int (nI 2), .ref il1, .ref is1, .ref iw1, .ref ic1])), (il1, .inl (cJ, 2 * 24, .inr (.inl (lF IL)))), (is1, .inl (cI, 2 * 24, .inl (nF IS))), (iw1, .inl (cI, 2 * 24, .inl (nF IW))), (ic1, .inl (cI, 2, .inl (nF IC))), (ik, .inl (cZ, 2, .inl (nF IK))), (it, .inl (cI, 2, .inl (nF IT)))] := hD.sub [0, 28, 1, 2, 3, 4, 5, 6, 7, 8, 9, 10, 11, 12, 13, 14, 15, 16, 17, 18, 19, 20, 21, 22, 23, 24, 25, 26, 27] (by decide) rfl
  refine lv_iload_n hx hb dX5_wipe_15 rfl (lv_at hl 0 rfl) ?_
  exact wr_iret hx hb hr hlk hP hD hS dX5_wipe_16 (⟨rfl, rfl⟩)
set_option maxHeartbeats 4000000 in
set_option maxRecDepth 100000 in
theorem c_X5_type_neg (l : Launch) (D : va_G) (cI cJ cZ : ClassId) (x0 w0 d0 k0 kl ks kw b0 bb bd bm bl bf ba bk bg p0 h0 hl1 hs1 hw1 hc1 i0 il1 is1 iw1 ic1 ik it : Nat) (A : Nat) (s : Nat) (dA : Nat) (dz : Nat) (KL : Nat → Nat) (KS : Nat → Nat) (KW : Nat → Nat) (n : Nat) (BB : Nat → Nat) (BD : Nat → Nat) (BM : Nat → Nat) (BL : Nat → Nat) (BF : Nat → Nat) (BA : Nat → Nat) (BK : Nat → Nat) (BG : Nat → Nat) (nx : Nat) (pz : Nat) (HL : Nat → Nat) (HS : Nat → Nat) (HW : Nat → Nat) (HC : Nat → Nat) (IL : Nat → Nat) (IS : Nat → Nat) (IW : Nat → Nat) (IC : Nat → Nat) (IK : Nat → Nat) (IT : Nat → Nat) (sd : Nat) (hn : n ≤ 24) (hw0 : Wf s A) (hk : ∀ k, k < n → Wf (KS k) (KL k)) (hv : ∀ k, k < n → KW k ≤ 9999) (hso : Srt KS KL n) (hTr : TrX (gapF KS KL) n BB BD BM BL BF BA BK) (hnx : nx < 20) (hpz : pz ≤ 20) (hsd : sd < 2 ^ 31) (x : Int32) (hx0 : x < 0) : RO l yX5_type cX5_type 2 (some .int) (rmN 1 23) D (ty3 cI cJ cZ) [.ref x0, .int x] [(x0, .inr (5, [.ref w0, .ref d0, .ref k0, .ref b0, .ref p0, .ref i0, .ref ik, .ref it, .int (nI sd)])), (w0, .inr (4, [.long (lN A), .int (nI s)])), (d0, .inr (4, [.long (lN dA), .int (nI dz)])), (k0, .inr (1, [.ref kl, .ref ks, .ref kw, .int (nI n)])), (kl, .inl (cJ, 24, .inr (.inl (lF KL)))), (ks, .inl (cI, 24, .inl (nF KS))), (kw, .inl (cI, 24, .inl (nF KW))), (b0, .inr (0, [.ref bb, .ref bd, .ref bm, .ref bl, .ref bf, .ref ba, .ref bk, .ref bg, .int (nI n)])), (bb, .inl (cI, 24, .inl (nF BB))), (bd, .inl (cI, 24, .inl (nF BD))), (bm, .inl (cI, 24, .inl (nF BM))), (bl, .inl (cI, 24, .inl (nF BL))), (bf, .inl (cI, 24, .inl (nF BF))), (ba, .inl (cI, 24, .inl (oF BA))), (bk, .inl (cI, 24, .inl (oF BK))), (bg, .inl (cI, 24, .inl (nF BG))), (p0, .inr (2, [.ref h0, .int (nI nx), .int (nI pz)])), (h0, .inr (3, [.int (nI 20), .ref hl1, .ref hs1, .ref hw1, .ref hc1])), (hl1, .inl (cJ, 20 * 24, .inr (.inl (lF HL)))), (hs1, .inl (cI, 20 * 24, .inl (nF HS))), (hw1, .inl (cI, 20 * 24, .inl (nF HW))), (hc1, .inl (cI, 20, .inl (nF HC))), (i0, .inr (3, [.int (nI 2), .ref il1, .ref is1, .ref iw1, .ref ic1])), (il1, .inl (cJ, 2 * 24, .inr (.inl (lF IL)))), (is1, .inl (cI, 2 * 24, .inl (nF IS))), (iw1, .inl (cI, 2 * 24, .inl (nF IW))), (ic1, .inl (cI, 2, .inl (nF IC))), (ik, .inl (cZ, 2, .inl (nF IK))), (it, .inl (cI, 2, .inl (nF IT)))] (.int (-1000000001)) := by
  have hs8 := hw0.1
  have hA64 := hw0.2.1
  have hBK := tf_BK hTr hn
  have hDK := tf_DK hTr hn
  have hB := tf_B hTr
  have hBF := tf_BF hTr hn
  have hT := tf_T hTr hso
  have hanc := tf_anc hTr hn
  have hp := plc_le KS KL n s A
  have hcb := cbl_le KS KL n s A
  have hfl := fnd_le KS KL n s A
  refine ro_start (by decide) (Nat.le_of_ble_eq_true rfl) ?_
  intro pp ee ss mm below meth cd C0 hP hK ls hl
  obtain ⟨hx, hb, hr, hml, hown, hts, hlk⟩ := C0
  have hown : ss.vm.findClass RX5 = some mm.cls := hown
  have hl : lv_has ls 2 [(0, .ref x0), (1, .int x)] := hl
  have hP : va_P D vwCl [(x0, .inr (5, [.ref w0, .ref d0, .ref k0, .ref b0, .ref p0, .ref i0, .ref ik, .ref it, .int (nI sd)])), (w0, .inr (4, [.long (lN A), .int (nI s)])), (d0, .inr (4, [.long (lN dA), .int (nI dz)])), (k0, .inr (1, [.ref kl, .ref ks, .ref kw, .int (nI n)])), (kl, .inl (cJ, 24, .inr (.inl (lF KL)))), (ks, .inl (cI, 24, .inl (nF KS))), (kw, .inl (cI, 24, .inl (nF KW))), (b0, .inr (0, [.ref bb, .ref bd, .ref bm, .ref bl, .ref bf, .ref ba, .ref bk, .ref bg, .int (nI n)])), (bb, .inl (cI, 24, .inl (nF BB))), (bd, .inl (cI, 24, .inl (nF BD))), (bm, .inl (cI, 24, .inl (nF BM))), (bl, .inl (cI, 24, .inl (nF BL))), (bf, .inl (cI, 24, .inl (nF BF))), (ba, .inl (cI, 24, .inl (oF BA))), (bk, .inl (cI, 24, .inl (oF BK))), (bg, .inl (cI, 24, .inl (nF BG))), (p0, .inr (2, [.ref h0, .int (nI nx), .int (nI pz)])), (h0, .inr (3, [.int (nI 20), .ref hl1, .ref hs1, .ref hw1, .ref hc1])), (hl1, .inl (cJ, 20 * 24, .inr (.inl (lF HL)))), (hs1, .inl (cI, 20 * 24, .inl (nF HS))), (hw1, .inl (cI, 20 * 24, .inl (nF HW))), (hc1, .inl (cI, 20, .inl (nF HC))), (i0, .inr (3, [.int (nI 2), .ref il1, .ref is1, .ref iw1, .ref ic1])), (il1, .inl (cJ, 2 * 24, .inr (.inl (lF IL)))), (is1, .inl (cI, 2 * 24, .inl (nF IS))), (iw1, .inl (cI, 2 * 24, .inl (nF IW))), (ic1, .inl (cI, 2, .inl (nF IC))), (ik, .inl (cZ, 2, .inl (nF IK))), (it, .inl (cI, 2, .inl (nF IT)))] ss.heap := hP
  refine lv_aload_n hx hb dX5_type_0 rfl (lv_at hl 0 rfl) ?_
  refine va_get (D := D) (ci := 5) (v := .ref k0) (C := RX5) (T := TX5) (N := 9) hx hb hts inX5 hown hK hP 0 rfl rfl 2 (by decide) (hts _ mf_X5_22) (fun _ h9 => h9) rfl dX5_type_1 ?_
  refine lv_iload_n hx hb dX5_type_4 rfl (lv_at hl 1 rfl) ?_
  refine ro_V (As := [.int x]) (rest := []) ⟨hx, hb, hml, hown, hts⟩ (c_X1_has_neg l D cI cJ cZ k0 kl ks kw KL KS KW n (by omega) x hx0) (k_X5_69 hts ⟨Nat.le_of_ble_eq_true rfl, Nat.le_of_ble_eq_true rfl⟩) hK hP 3 rfl rfl rfl [3, 4, 5, 6] rfl rfl hl.1 rfl (Nat.le_of_ble_eq_true rfl) dX5_type_5 ⟨Nat.le_of_ble_eq_true rfl, Nat.le_of_ble_eq_true rfl⟩ ?_
  refine n_if_ne (tgt := 14) hx hb dX5_type_8 (by decide) (by decide) (fun h9 => absurd rfl h9) (fun _ => ?_)
  refine lv_ldc hx hb hown (hts _ mk_X5_73) dX5_type_11 ?_
  exact ro_iret hx hb hr hlk dX5_type_13 (rfl)
set_option maxHeartbeats 4000000 in
set_option maxRecDepth 100000 in
theorem c_X5_type_out (l : Launch) (D : va_G) (cI cJ cZ : ClassId) (x0 w0 d0 k0 kl ks kw b0 bb bd bm bl bf ba bk bg p0 h0 hl1 hs1 hw1 hc1 i0 il1 is1 iw1 ic1 ik it : Nat) (A : Nat) (s : Nat) (dA : Nat) (dz : Nat) (KL : Nat → Nat) (KS : Nat → Nat) (KW : Nat → Nat) (n : Nat) (BB : Nat → Nat) (BD : Nat → Nat) (BM : Nat → Nat) (BL : Nat → Nat) (BF : Nat → Nat) (BA : Nat → Nat) (BK : Nat → Nat) (BG : Nat → Nat) (nx : Nat) (pz : Nat) (HL : Nat → Nat) (HS : Nat → Nat) (HW : Nat → Nat) (HC : Nat → Nat) (IL : Nat → Nat) (IS : Nat → Nat) (IW : Nat → Nat) (IC : Nat → Nat) (IK : Nat → Nat) (IT : Nat → Nat) (sd : Nat) (hn : n ≤ 24) (hw0 : Wf s A) (hk : ∀ k, k < n → Wf (KS k) (KL k)) (hv : ∀ k, k < n → KW k ≤ 9999) (hso : Srt KS KL n) (hTr : TrX (gapF KS KL) n BB BD BM BL BF BA BK) (hnx : nx < 20) (hpz : pz ≤ 20) (hsd : sd < 2 ^ 31) (j : Nat) (hj : j < 2 ^ 31) (hjo : n ≤ j) : RO l yX5_type cX5_type 2 (some .int) (rmN 1 23) D (ty3 cI cJ cZ) [.ref x0, .int (nI j)] [(x0, .inr (5, [.ref w0, .ref d0, .ref k0, .ref b0, .ref p0, .ref i0, .ref ik, .ref it, .int (nI sd)])), (w0, .inr (4, [.long (lN A), .int (nI s)])), (d0, .inr (4, [.long (lN dA), .int (nI dz)])), (k0, .inr (1, [.ref kl, .ref ks, .ref kw, .int (nI n)])), (kl, .inl (cJ, 24, .inr (.inl (lF KL)))), (ks, .inl (cI, 24, .inl (nF KS))), (kw, .inl (cI, 24, .inl (nF KW))), (b0, .inr (0, [.ref bb, .ref bd, .ref bm, .ref bl, .ref bf, .ref ba, .ref bk, .ref bg, .int (nI n)])), (bb, .inl (cI, 24, .inl (nF BB))), (bd, .inl (cI, 24, .inl (nF BD))), (bm, .inl (cI, 24, .inl (nF BM))), (bl, .inl (cI, 24, .inl (nF BL))), (bf, .inl (cI, 24, .inl (nF BF))), (ba, .inl (cI, 24, .inl (oF BA))), (bk, .inl (cI, 24, .inl (oF BK))), (bg, .inl (cI, 24, .inl (nF BG))), (p0, .inr (2, [.ref h0, .int (nI nx), .int (nI pz)])), (h0, .inr (3, [.int (nI 20), .ref hl1, .ref hs1, .ref hw1, .ref hc1])), (hl1, .inl (cJ, 20 * 24, .inr (.inl (lF HL)))), (hs1, .inl (cI, 20 * 24, .inl (nF HS))), (hw1, .inl (cI, 20 * 24, .inl (nF HW))), (hc1, .inl (cI, 20, .inl (nF HC))), (i0, .inr (3, [.int (nI 2), .ref il1, .ref is1, .ref iw1, .ref ic1])), (il1, .inl (cJ, 2 * 24, .inr (.inl (lF IL)))), (is1, .inl (cI, 2 * 24, .inl (nF IS))), (iw1, .inl (cI, 2 * 24, .inl (nF IW))), (ic1, .inl (cI, 2, .inl (nF IC))), (ik, .inl (cZ, 2, .inl (nF IK))), (it, .inl (cI, 2, .inl (nF IT)))] (.int (-1000000001)) := by
  have hs8 := hw0.1
  have hA64 := hw0.2.1
  have hBK := tf_BK hTr hn
  have hDK := tf_DK hTr hn
  have hB := tf_B hTr
  have hBF := tf_BF hTr hn
  have hT := tf_T hTr hso
  have hanc := tf_anc hTr hn
  have hp := plc_le KS KL n s A
  have hcb := cbl_le KS KL n s A
  have hfl := fnd_le KS KL n s A
  refine ro_start (by decide) (Nat.le_of_ble_eq_true rfl) ?_
  intro pp ee ss mm below meth cd C0 hP hK ls hl
  obtain ⟨hx, hb, hr, hml, hown, hts, hlk⟩ := C0
  have hown : ss.vm.findClass RX5 = some mm.cls := hown
  have hl : lv_has ls 2 [(0, .ref x0), (1, .int (nI j))] := hl
  have hP : va_P D vwCl [(x0, .inr (5, [.ref w0, .ref d0, .ref k0, .ref b0, .ref p0, .ref i0, .ref ik, .ref it, .int (nI sd)])), (w0, .inr (4, [.long (lN A), .int (nI s)])), (d0, .inr (4, [.long (lN dA), .int (nI dz)])), (k0, .inr (1, [.ref kl, .ref ks, .ref kw, .int (nI n)])), (kl, .inl (cJ, 24, .inr (.inl (lF KL)))), (ks, .inl (cI, 24, .inl (nF KS))), (kw, .inl (cI, 24, .inl (nF KW))), (b0, .inr (0, [.ref bb, .ref bd, .ref bm, .ref bl, .ref bf, .ref ba, .ref bk, .ref bg, .int (nI n)])), (bb, .inl (cI, 24, .inl (nF BB))), (bd, .inl (cI, 24, .inl (nF BD))), (bm, .inl (cI, 24, .inl (nF BM))), (bl, .inl (cI, 24, .inl (nF BL))), (bf, .inl (cI, 24, .inl (nF BF))), (ba, .inl (cI, 24, .inl (oF BA))), (bk, .inl (cI, 24, .inl (oF BK))), (bg, .inl (cI, 24, .inl (nF BG))), (p0, .inr (2, [.ref h0, .int (nI nx), .int (nI pz)])), (h0, .inr (3, [.int (nI 20), .ref hl1, .ref hs1, .ref hw1, .ref hc1])), (hl1, .inl (cJ, 20 * 24, .inr (.inl (lF HL)))), (hs1, .inl (cI, 20 * 24, .inl (nF HS))), (hw1, .inl (cI, 20 * 24, .inl (nF HW))), (hc1, .inl (cI, 20, .inl (nF HC))), (i0, .inr (3, [.int (nI 2), .ref il1, .ref is1, .ref iw1, .ref ic1])), (il1, .inl (cJ, 2 * 24, .inr (.inl (lF IL)))), (is1, .inl (cI, 2 * 24, .inl (nF IS))), (iw1, .inl (cI, 2 * 24, .inl (nF IW))), (ic1, .inl (cI, 2, .inl (nF IC))), (ik, .inl (cZ, 2, .inl (nF IK))), (it, .inl (cI, 2, .inl (nF IT)))] ss.heap := hP
  refine lv_aload_n hx hb dX5_type_0 rfl (lv_at hl 0 rfl) ?_
  refine va_get (D := D) (ci := 5) (v := .ref k0) (C := RX5) (T := TX5) (N := 9) hx hb hts inX5 hown hK hP 0 rfl rfl 2 (by decide) (hts _ mf_X5_22) (fun _ h9 => h9) rfl dX5_type_1 ?_
  refine lv_iload_n hx hb dX5_type_4 rfl (lv_at hl 1 rfl) ?_
  refine ro_V (As := [.int (nI j)]) (rest := []) ⟨hx, hb, hml, hown, hts⟩ (c_X1_has l D cI cJ cZ k0 kl ks kw KL KS KW n (by omega) j (by omega)) (k_X5_69 hts ⟨Nat.le_of_ble_eq_true rfl, Nat.le_of_ble_eq_true rfl⟩) hK hP 3 rfl rfl rfl [3, 4, 5, 6] rfl rfl hl.1 rfl (Nat.le_of_ble_eq_true rfl) dX5_type_5 ⟨Nat.le_of_ble_eq_true rfl, Nat.le_of_ble_eq_true rfl⟩ ?_
  refine b_if_ne (tgt := 14) hx hb dX5_type_8 (by decide) (fun c1 => ?_) (fun c1 => ?_)
  ·
    exact absurd c1 (by omega)
  ·
    refine lv_ldc hx hb hown (hts _ mk_X5_73) dX5_type_11 ?_
    exact ro_iret hx hb hr hlk dX5_type_13 (rfl)
set_option maxHeartbeats 4000000 in
set_option maxRecDepth 100000 in
theorem c_X5_type_ok (l : Launch) (D : va_G) (cI cJ cZ : ClassId) (x0 w0 d0 k0 kl ks kw b0 bb bd bm bl bf ba bk bg p0 h0 hl1 hs1 hw1 hc1 i0 il1 is1 iw1 ic1 ik it : Nat) (A : Nat) (s : Nat) (dA : Nat) (dz : Nat) (KL : Nat → Nat) (KS : Nat → Nat) (KW : Nat → Nat) (n : Nat) (BB : Nat → Nat) (BD : Nat → Nat) (BM : Nat → Nat) (BL : Nat → Nat) (BF : Nat → Nat) (BA : Nat → Nat) (BK : Nat → Nat) (BG : Nat → Nat) (nx : Nat) (pz : Nat) (HL : Nat → Nat) (HS : Nat → Nat) (HW : Nat → Nat) (HC : Nat → Nat) (IL : Nat → Nat) (IS : Nat → Nat) (IW : Nat → Nat) (IC : Nat → Nat) (IK : Nat → Nat) (IT : Nat → Nat) (sd : Nat) (hn : n ≤ 24) (hw0 : Wf s A) (hk : ∀ k, k < n → Wf (KS k) (KL k)) (hv : ∀ k, k < n → KW k ≤ 9999) (hso : Srt KS KL n) (hTr : TrX (gapF KS KL) n BB BD BM BL BF BA BK) (hnx : nx < 20) (hpz : pz ≤ 20) (hsd : sd < 2 ^ 31) (j : Nat) (hj : j < n) (sz : Nat) : WR l yX5_type cX5_type 2 (some .int) (rmN 1 23) D (ty3 cI cJ cZ) [.ref x0, .int (nI j)] [(x0, .inr (5, [.ref w0, .ref d0, .ref k0, .ref b0, .ref p0, .ref i0, .ref ik, .ref it, .int (nI sd)])), (w0, .inr (4, [.long (lN A), .int (nI s)])), (d0, .inr (4, [.long (lN dA), .int (nI dz)])), (k0, .inr (1, [.ref kl, .ref ks, .ref kw, .int (nI n)])), (kl, .inl (cJ, 24, .inr (.inl (lF KL)))), (ks, .inl (cI, 24, .inl (nF KS))), (kw, .inl (cI, 24, .inl (nF KW))), (b0, .inr (0, [.ref bb, .ref bd, .ref bm, .ref bl, .ref bf, .ref ba, .ref bk, .ref bg, .int (nI n)])), (bb, .inl (cI, 24, .inl (nF BB))), (bd, .inl (cI, 24, .inl (nF BD))), (bm, .inl (cI, 24, .inl (nF BM))), (bl, .inl (cI, 24, .inl (nF BL))), (bf, .inl (cI, 24, .inl (nF BF))), (ba, .inl (cI, 24, .inl (oF BA))), (bk, .inl (cI, 24, .inl (oF BK))), (bg, .inl (cI, 24, .inl (nF BG))), (p0, .inr (2, [.ref h0, .int (nI nx), .int (nI pz)])), (h0, .inr (3, [.int (nI 20), .ref hl1, .ref hs1, .ref hw1, .ref hc1])), (hl1, .inl (cJ, 20 * 24, .inr (.inl (lF HL)))), (hs1, .inl (cI, 20 * 24, .inl (nF HS))), (hw1, .inl (cI, 20 * 24, .inl (nF HW))), (hc1, .inl (cI, 20, .inl (nF HC))), (i0, .inr (3, [.int (nI 2), .ref il1, .ref is1, .ref iw1, .ref ic1])), (il1, .inl (cJ, 2 * 24, .inr (.inl (lF IL)))), (is1, .inl (cI, 2 * 24, .inl (nF IS))), (iw1, .inl (cI, 2 * 24, .inl (nF IW))), (ic1, .inl (cI, 2, .inl (nF IC))), (ik, .inl (cZ, 2, .inl (nF IK))), (it, .inl (cI, 2, .inl (nF IT)))] sz (fun x w => x = some (.int (nI (KS j))) ∧ w = [(x0, .inr (5, [.ref w0, .ref d0, .ref k0, .ref b0, .ref p0, .ref i0, .ref ik, .ref it, .int (nI sd)])), (w0, .inr (4, [.long (lN (KL j)), .int (nI (KS j))])), (d0, .inr (4, [.long (lN dA), .int (nI dz)])), (k0, .inr (1, [.ref kl, .ref ks, .ref kw, .int (nI n)])), (kl, .inl (cJ, 24, .inr (.inl (lF KL)))), (ks, .inl (cI, 24, .inl (nF KS))), (kw, .inl (cI, 24, .inl (nF KW))), (b0, .inr (0, [.ref bb, .ref bd, .ref bm, .ref bl, .ref bf, .ref ba, .ref bk, .ref bg, .int (nI n)])), (bb, .inl (cI, 24, .inl (nF BB))), (bd, .inl (cI, 24, .inl (nF BD))), (bm, .inl (cI, 24, .inl (nF BM))), (bl, .inl (cI, 24, .inl (nF BL))), (bf, .inl (cI, 24, .inl (nF BF))), (ba, .inl (cI, 24, .inl (oF BA))), (bk, .inl (cI, 24, .inl (oF BK))), (bg, .inl (cI, 24, .inl (nF BG))), (p0, .inr (2, [.ref h0, .int (nI nx), .int (nI pz)])), (h0, .inr (3, [.int (nI 20), .ref hl1, .ref hs1, .ref hw1, .ref hc1])), (hl1, .inl (cJ, 20 * 24, .inr (.inl (lF HL)))), (hs1, .inl (cI, 20 * 24, .inl (nF HS))), (hw1, .inl (cI, 20 * 24, .inl (nF HW))), (hc1, .inl (cI, 20, .inl (nF HC))), (i0, .inr (3, [.int (nI 2), .ref il1, .ref is1, .ref iw1, .ref ic1])), (il1, .inl (cJ, 2 * 24, .inr (.inl (lF IL)))), (is1, .inl (cI, 2 * 24, .inl (nF IS))), (iw1, .inl (cI, 2 * 24, .inl (nF IW))), (ic1, .inl (cI, 2, .inl (nF IC))), (ik, .inl (cZ, 2, .inl (nF IK))), (it, .inl (cI, 2, .inl (nF IT)))]) := by
  have hs8 := hw0.1
  have hA64 := hw0.2.1
  have hBK := tf_BK hTr hn
  have hDK := tf_DK hTr hn
  have hB := tf_B hTr
  have hBF := tf_BF hTr hn
  have hT := tf_T hTr hso
  have hanc := tf_anc hTr hn
  have hp := plc_le KS KL n s A
  have hcb := cbl_le KS KL n s A
  have hfl := fnd_le KS KL n s A
  refine wr_start (by decide) (Nat.le_of_ble_eq_true rfl) ?_
  intro pp ee ss mm below meth cd AA C0 hAA hP hK hD hS hN hnm ls hl
  obtain ⟨hx, hb, hr, hml, hown, hts, hlk⟩ := C0
  have hown : ss.vm.findClass RX5 = some mm.cls := hown
  have hl : lv_has ls 2 [(0, .ref x0), (1, .int (nI j))] := hl
  have hP : va_P D vwCl [(x0, .inr (5, [.ref w0, .ref d0, .ref k0, .ref b0, .ref p0, .ref i0, .ref ik, .ref it, .int (nI sd)])), (w0, .inr (4, [.long (lN A), .int (nI s)])), (d0, .inr (4, [.long (lN dA), .int (nI dz)])), (k0, .inr (1, [.ref kl, .ref ks, .ref kw, .int (nI n)])), (kl, .inl (cJ, 24, .inr (.inl (lF KL)))), (ks, .inl (cI, 24, .inl (nF KS))), (kw, .inl (cI, 24, .inl (nF KW))), (b0, .inr (0, [.ref bb, .ref bd, .ref bm, .ref bl, .ref bf, .ref ba, .ref bk, .ref bg, .int (nI n)])), (bb, .inl (cI, 24, .inl (nF BB))), (bd, .inl (cI, 24, .inl (nF BD))), (bm, .inl (cI, 24, .inl (nF BM))), (bl, .inl (cI, 24, .inl (nF BL))), (bf, .inl (cI, 24, .inl (nF BF))), (ba, .inl (cI, 24, .inl (oF BA))), (bk, .inl (cI, 24, .inl (oF BK))), (bg, .inl (cI, 24, .inl (nF BG))), (p0, .inr (2, [.ref h0, .int (nI nx), .int (nI pz)])), (h0, .inr (3, [.int (nI 20), .ref hl1, .ref hs1, .ref hw1, .ref hc1])), (hl1, .inl (cJ, 20 * 24, .inr (.inl (lF HL)))), (hs1, .inl (cI, 20 * 24, .inl (nF HS))), (hw1, .inl (cI, 20 * 24, .inl (nF HW))), (hc1, .inl (cI, 20, .inl (nF HC))), (i0, .inr (3, [.int (nI 2), .ref il1, .ref is1, .ref iw1, .ref ic1])), (il1, .inl (cJ, 2 * 24, .inr (.inl (lF IL)))), (is1, .inl (cI, 2 * 24, .inl (nF IS))), (iw1, .inl (cI, 2 * 24, .inl (nF IW))), (ic1, .inl (cI, 2, .inl (nF IC))), (ik, .inl (cZ, 2, .inl (nF IK))), (it, .inl (cI, 2, .inl (nF IT)))] ss.heap := hP
  refine lv_aload_n hx hb dX5_type_0 rfl (lv_at hl 0 rfl) ?_
  refine va_get (D := D) (ci := 5) (v := .ref k0) (C := RX5) (T := TX5) (N := 9) hx hb hts inX5 hown hK hP 0 rfl rfl 2 (by decide) (hts _ mf_X5_22) (fun _ h9 => h9) rfl dX5_type_1 ?_
  refine lv_iload_n hx hb dX5_type_4 rfl (lv_at hl 1 rfl) ?_
  refine ro_V (As := [.int (nI j)]) (rest := []) ⟨hx, hb, hml, hown, hts⟩ (c_X1_has l D cI cJ cZ k0 kl ks kw KL KS KW n (by omega) j (by omega)) (k_X5_69 hts ⟨Nat.le_of_ble_eq_true rfl, Nat.le_of_ble_eq_true rfl⟩) hK hP 3 rfl rfl rfl [3, 4, 5, 6] rfl rfl hl.1 rfl (Nat.le_of_ble_eq_true rfl) dX5_type_5 ⟨Nat.le_of_ble_eq_true rfl, Nat.le_of_ble_eq_true rfl⟩ ?_
  refine b_if_ne (tgt := 14) hx hb dX5_type_8 (by decide) (fun c1 => ?_) (fun c1 => ?_)
  ·
    refine lv_aload_n hx hb dX5_type_14 rfl (lv_at hl 0 rfl) ?_
    refine va_get (D := D) (ci := 5) (v := .ref w0) (C := RX5) (T := TX5) (N := 9) hx hb hts inX5 hown hK hP 0 rfl rfl 0 (by decide) (hts _ mf_X5_10) (fun _ h9 => h9) rfl dX5_type_15 ?_
    refine lv_aload_n hx hb dX5_type_18 rfl (lv_at hl 0 rfl) ?_
    refine va_get (D := D) (ci := 5) (v := .ref k0) (C := RX5) (T := TX5) (N := 9) hx hb hts inX5 hown hK hP 0 rfl rfl 2 (by decide) (hts _ mf_X5_22) (fun _ h9 => h9) rfl dX5_type_19 ?_
    refine lv_iload_n hx hb dX5_type_22 rfl (lv_at hl 1 rfl) ?_
    refine ro_V (As := [.int (nI j)]) (rest := [.ref w0]) ⟨hx, hb, hml, hown, hts⟩ (c_X1_lettersOf l D cI cJ cZ k0 kl ks kw KL KS KW n (by omega) j (by omega)) (k_X5_74 hts ⟨Nat.le_of_ble_eq_true rfl, Nat.le_of_ble_eq_true rfl⟩) hK hP 3 rfl rfl rfl [3, 4, 5, 6] rfl rfl hl.1 rfl (Nat.le_of_ble_eq_true rfl) dX5_type_23 ⟨Nat.le_of_ble_eq_true rfl, Nat.le_of_ble_eq_true rfl⟩ ?_
    refine lv_aload_n hx hb dX5_type_26 rfl (lv_at hl 0 rfl) ?_
    refine va_get (D := D) (ci := 5) (v := .ref k0) (C := RX5) (T := TX5) (N := 9) hx hb hts inX5 hown hK hP 0 rfl rfl 2 (by decide) (hts _ mf_X5_22) (fun _ h9 => h9) rfl dX5_type_27 ?_
    refine lv_iload_n hx hb dX5_type_30 rfl (lv_at hl 1 rfl) ?_
    refine ro_V (As := [.int (nI j)]) (rest := [.long (lN (KL j)), .ref w0]) ⟨hx, hb, hml, hown, hts⟩ (c_X1_sizeOf l D cI cJ cZ k0 kl ks kw KL KS KW n (by omega) j (by omega)) (k_X5_78 hts ⟨Nat.le_of_ble_eq_true rfl, Nat.le_of_ble_eq_true rfl⟩) hK hP 3 rfl rfl rfl [3, 4, 5, 6] rfl rfl hl.1 rfl (Nat.le_of_ble_eq_true rfl) dX5_type_31 ⟨Nat.le_of_ble_eq_true rfl, Nat.le_of_ble_eq_true rfl⟩ ?_
    refine wr_V (As := [.long (lN (KL j)), .int (nI (KS j))]) (rest := []) (wc := [(w0, .inr (4, [.long (lN A), .int (nI s)]))]) (wr := [(x0, .inr (5, [.ref w0, .ref d0, .ref k0, .ref b0, .ref p0, .ref i0, .ref ik, .ref it, .int (nI sd)])), (d0, .inr (4, [.long (lN dA), .int (nI dz)])), (k0, .inr (1, [.ref kl, .ref ks, .ref kw, .int (nI n)])), (kl, .inl (cJ, 24, .inr (.inl (lF KL)))), (ks, .inl (cI, 24, .inl (nF KS))), (kw, .inl (cI, 24, .inl (nF KW))), (b0, .inr (0, [.ref bb, .ref bd, .ref bm, .ref bl, .ref bf, .ref ba, .ref bk, .ref bg, .int (nI n)])), (bb, .inl (cI, 24, .inl (nF BB))), (bd, .inl (cI, 24, .inl (nF BD))), (bm, .inl (cI, 24, .inl (nF BM))), (bl, .inl (cI, 24, .inl (nF BL))), (bf, .inl (cI, 24, .inl (nF BF))), (ba, .inl (cI, 24, .inl (oF BA))), (bk, .inl (cI, 24, .inl (oF BK))), (bg, .inl (cI, 24, .inl (nF BG))), (p0, .inr (2, [.ref h0, .int (nI nx), .int (nI pz)])), (h0, .inr (3, [.int (nI 20), .ref hl1, .ref hs1, .ref hw1, .ref hc1])), (hl1, .inl (cJ, 20 * 24, .inr (.inl (lF HL)))), (hs1, .inl (cI, 20 * 24, .inl (nF HS))), (hw1, .inl (cI, 20 * 24, .inl (nF HW))), (hc1, .inl (cI, 20, .inl (nF HC))), (i0, .inr (3, [.int (nI 2), .ref il1, .ref is1, .ref iw1, .ref ic1])), (il1, .inl (cJ, 2 * 24, .inr (.inl (lF IL)))), (is1, .inl (cI, 2 * 24, .inl (nF IS))), (iw1, .inl (cI, 2 * 24, .inl (nF IW))), (ic1, .inl (cI, 2, .inl (nF IC))), (ik, .inl (cZ, 2, .inl (nF IK))), (it, .inl (cI, 2, .inl (nF IT)))]) ⟨hx, hb, hml, hown, hts⟩ (c_X4_become l D cI cJ cZ w0 A s (KL j) (KS j) _) (k_X5_82 hts ⟨Nat.le_of_ble_eq_true rfl, Nat.le_of_ble_eq_true rfl⟩) hK hN hP hD hS hAA 1 rfl rfl rfl [1] [0, 2, 3, 4, 5, 6, 7, 8, 9, 10, 11, 12, 13, 14, 15, 16, 17, 18, 19, 20, 21, 22, 23, 24, 25, 26, 27, 28] rfl rfl (by decide) (by decide) (by decide) rfl hl.1 rfl (Nat.le_of_ble_eq_true rfl) dX5_type_34 ⟨Nat.le_of_ble_eq_true rfl, Nat.le_of_ble_eq_true rfl⟩ (fun v3 w4 H locs hp2 hP hD hS => ?_)
    obtain ⟨rfl, rfl⟩ := hp2
    have hP : va_P D vwCl [(x0, .inr (5, [.ref w0, .ref d0, .ref k0, .ref b0, .ref p0, .ref i0, .ref ik, .ref it, .int (nI sd)])), (w0, .inr (4, [.long (lN (KL j)), .int (nI (KS j))])), (d0, .inr (4, [.long (lN dA), .int (nI dz)])), (k0, .inr (1, [.ref kl, .ref ks, .ref kw, .int (nI n)])), (kl, .inl (cJ, 24, .inr (.inl (lF KL)))), (ks, .inl (cI, 24, .inl (nF KS))), (kw, .inl (cI, 24, .inl (nF KW))), (b0, .inr (0, [.ref bb, .ref bd, .ref bm, .ref bl, .ref bf, .ref ba, .ref bk, .ref bg, .int (nI n)])), (bb, .inl (cI, 24, .inl (nF BB))), (bd, .inl (cI, 24, .inl (nF BD))), (bm, .inl (cI, 24, .inl (nF BM))), (bl, .inl (cI, 24, .inl (nF BL))), (bf, .inl (cI, 24, .inl (nF BF))), (ba, .inl (cI, 24, .inl (oF BA))), (bk, .inl (cI, 24, .inl (oF BK))), (bg, .inl (cI, 24, .inl (nF BG))), (p0, .inr (2, [.ref h0, .int (nI nx), .int (nI pz)])), (h0, .inr (3, [.int (nI 20), .ref hl1, .ref hs1, .ref hw1, .ref hc1])), (hl1, .inl (cJ, 20 * 24, .inr (.inl (lF HL)))), (hs1, .inl (cI, 20 * 24, .inl (nF HS))), (hw1, .inl (cI, 20 * 24, .inl (nF HW))), (hc1, .inl (cI, 20, .inl (nF HC))), (i0, .inr (3, [.int (nI 2), .ref il1, .ref is1, .ref iw1, .ref ic1])), (il1, .inl (cJ, 2 * 24, .inr (.inl (lF IL)))), (is1, .inl (cI, 2 * 24, .inl (nF IS))), (iw1, .inl (cI, 2 * 24, .inl (nF IW))), (ic1, .inl (cI, 2, .inl (nF IC))), (ik, .inl (cZ, 2, .inl (nF IK))), (it, .inl (cI, 2, .inl (nF IT)))] H := hP.sub [0, 28, 1, 2, 3, 4, 5, 6, 7, 8, 9, 10, 11, 12, 13, 14, 15, 16, 17, 18, 19, 20, 21, 22, 23, 24, 25, 26, 27] rfl
    have hD : va_D AA [(x0, .inr (5, [.ref w0, .ref d0, .ref k0, .ref b0, .ref p0, .ref i0, .ref ik, .ref it, .int (nI sd)])), (w0, .inr (4, [.long (lN (KL j)), .int (nI (KS j))])), (d0, .inr (4, [.long (lN dA), .int (nI dz)])), (k0, .inr (1, [.ref kl, .ref ks, .ref kw, .int (nI n)])), (kl, .inl (cJ, 24, .inr (.inl (lF KL)))), (ks, .inl (cI, 24, .inl (nF KS))), (kw, .inl (cI, 24, .inl (nF KW))), (b0, .inr (0, [.ref bb, .ref bd, .ref bm, .ref bl, .ref bf, .ref ba, .ref bk, .ref bg, .int (nI n)])), (bb, .inl (cI, 24, .inl (nF BB))), (bd, .inl (cI, 24, .inl (nF BD))), (bm, .inl (cI, 24, .inl (nF BM))), (bl, .inl (cI, 24, .inl (nF BL))), (bf, .inl (cI, 24, .inl (nF BF))), (ba, .inl (cI, 24, .inl (oF BA))), (bk, .inl (cI, 24, .inl (oF BK))), (bg, .inl (cI, 24, .inl (nF BG))), (p0, .inr (2, [.ref h0, .int (nI nx), .int (nI pz)])), (h0, .inr (3, [.int (nI 20), .ref hl1, .ref hs1, .ref hw1, .ref hc1])), (hl1, .inl (cJ, 20 * 24, .inr (.inl (lF HL)))), (hs1, .inl (cI, 20 * 24, .inl (nF HS))), (hw1, .inl (cI, 20 * 24, .inl (nF HW))), (hc1, .inl (cI, 20, .inl (nF HC))), (i0, .inr (3, [.int (nI 2), .ref il1, .ref is1, .ref iw1, .ref ic1])), (il1, .inl (cJ, 2 * 24, .inr (.inl (lF IL)))), (is1, .inl (cI, 2 * 24, .inl (nF IS))), (iw1, .inl (cI, 2 * 24, .inl (nF IW))), (ic1, .inl (cI, 2, .inl (nF IC))), (ik, .inl (cZ, 2, .inl (nF IK))), (it, .inl (cI, 2, .inl (nF IT)))] := hD.sub [0, 28, 1, 2, 3, 4, 5, 6, 7, 8, 9, 10, 11, 12, 13, 14, 15, 16, 17, 18, 19, 20, 21, 22, 23, 24, 25, 26, 27] (by decide) rfl
    refine lv_aload_n hx hb dX5_type_37 rfl (lv_at hl 0 rfl) ?_
    refine va_get (D := D) (ci := 5) (v := .ref w0) (C := RX5) (T := TX5) (N := 9) hx hb hts inX5 hown hK hP 0 rfl rfl 0 (by decide) (hts _ mf_X5_10) (fun _ h9 => h9) rfl dX5_type_38 ?_
    refine ro_V (As := []) (rest := []) ⟨hx, hb, hml, hown, hts⟩ (c_X4_size l D cI cJ cZ w0 (KL j) (KS j)) (k_X5_58 hts ⟨Nat.le_of_ble_eq_true rfl, Nat.le_of_ble_eq_true rfl⟩) hK hP 1 rfl rfl rfl [1] rfl rfl hl.1 rfl (Nat.le_of_ble_eq_true rfl) dX5_type_41 ⟨Nat.le_of_ble_eq_true rfl, Nat.le_of_ble_eq_true rfl⟩ ?_
    exact wr_iret hx hb hr hlk hP hD hS dX5_type_44 (⟨rfl, rfl⟩)
  ·
    exact absurd hj c1
set_option maxHeartbeats 4000000 in
set_option maxRecDepth 100000 in
theorem c_X5_told_neg (l : Launch) (D : va_G) (cI cJ cZ : ClassId) (x0 w0 d0 k0 kl ks kw b0 bb bd bm bl bf ba bk bg p0 h0 hl1 hs1 hw1 hc1 i0 il1 is1 iw1 ic1 ik it : Nat) (A : Nat) (s : Nat) (dA : Nat) (dz : Nat) (KL : Nat → Nat) (KS : Nat → Nat) (KW : Nat → Nat) (n : Nat) (BB : Nat → Nat) (BD : Nat → Nat) (BM : Nat → Nat) (BL : Nat → Nat) (BF : Nat → Nat) (BA : Nat → Nat) (BK : Nat → Nat) (BG : Nat → Nat) (nx : Nat) (pz : Nat) (HL : Nat → Nat) (HS : Nat → Nat) (HW : Nat → Nat) (HC : Nat → Nat) (IL : Nat → Nat) (IS : Nat → Nat) (IW : Nat → Nat) (IC : Nat → Nat) (IK : Nat → Nat) (IT : Nat → Nat) (sd : Nat) (hn : n ≤ 24) (hw0 : Wf s A) (hk : ∀ k, k < n → Wf (KS k) (KL k)) (hv : ∀ k, k < n → KW k ≤ 9999) (hso : Srt KS KL n) (hTr : TrX (gapF KS KL) n BB BD BM BL BF BA BK) (hnx : nx < 20) (hpz : pz ≤ 20) (hsd : sd < 2 ^ 31) (x : Int32) (hx0 : x < 0) : RO l yX5_told cX5_told 2 (some .int) (rmN 5 117) D (ty3 cI cJ cZ) [.ref x0, .int x] [(x0, .inr (5, [.ref w0, .ref d0, .ref k0, .ref b0, .ref p0, .ref i0, .ref ik, .ref it, .int (nI sd)])), (w0, .inr (4, [.long (lN A), .int (nI s)])), (d0, .inr (4, [.long (lN dA), .int (nI dz)])), (k0, .inr (1, [.ref kl, .ref ks, .ref kw, .int (nI n)])), (kl, .inl (cJ, 24, .inr (.inl (lF KL)))), (ks, .inl (cI, 24, .inl (nF KS))), (kw, .inl (cI, 24, .inl (nF KW))), (b0, .inr (0, [.ref bb, .ref bd, .ref bm, .ref bl, .ref bf, .ref ba, .ref bk, .ref bg, .int (nI n)])), (bb, .inl (cI, 24, .inl (nF BB))), (bd, .inl (cI, 24, .inl (nF BD))), (bm, .inl (cI, 24, .inl (nF BM))), (bl, .inl (cI, 24, .inl (nF BL))), (bf, .inl (cI, 24, .inl (nF BF))), (ba, .inl (cI, 24, .inl (oF BA))), (bk, .inl (cI, 24, .inl (oF BK))), (bg, .inl (cI, 24, .inl (nF BG))), (p0, .inr (2, [.ref h0, .int (nI nx), .int (nI pz)])), (h0, .inr (3, [.int (nI 20), .ref hl1, .ref hs1, .ref hw1, .ref hc1])), (hl1, .inl (cJ, 20 * 24, .inr (.inl (lF HL)))), (hs1, .inl (cI, 20 * 24, .inl (nF HS))), (hw1, .inl (cI, 20 * 24, .inl (nF HW))), (hc1, .inl (cI, 20, .inl (nF HC))), (i0, .inr (3, [.int (nI 2), .ref il1, .ref is1, .ref iw1, .ref ic1])), (il1, .inl (cJ, 2 * 24, .inr (.inl (lF IL)))), (is1, .inl (cI, 2 * 24, .inl (nF IS))), (iw1, .inl (cI, 2 * 24, .inl (nF IW))), (ic1, .inl (cI, 2, .inl (nF IC))), (ik, .inl (cZ, 2, .inl (nF IK))), (it, .inl (cI, 2, .inl (nF IT)))] (.int (-1000000002)) := by
  have hs8 := hw0.1
  have hA64 := hw0.2.1
  have hBK := tf_BK hTr hn
  have hDK := tf_DK hTr hn
  have hB := tf_B hTr
  have hBF := tf_BF hTr hn
  have hT := tf_T hTr hso
  have hanc := tf_anc hTr hn
  have hp := plc_le KS KL n s A
  have hcb := cbl_le KS KL n s A
  have hfl := fnd_le KS KL n s A
  refine ro_start (by decide) (Nat.le_of_ble_eq_true rfl) ?_
  intro pp ee ss mm below meth cd C0 hP hK ls hl
  obtain ⟨hx, hb, hr, hml, hown, hts, hlk⟩ := C0
  have hown : ss.vm.findClass RX5 = some mm.cls := hown
  have hl : lv_has ls 2 [(0, .ref x0), (1, .int x)] := hl
  have hP : va_P D vwCl [(x0, .inr (5, [.ref w0, .ref d0, .ref k0, .ref b0, .ref p0, .ref i0, .ref ik, .ref it, .int (nI sd)])), (w0, .inr (4, [.long (lN A), .int (nI s)])), (d0, .inr (4, [.long (lN dA), .int (nI dz)])), (k0, .inr (1, [.ref kl, .ref ks, .ref kw, .int (nI n)])), (kl, .inl (cJ, 24, .inr (.inl (lF KL)))), (ks, .inl (cI, 24, .inl (nF KS))), (kw, .inl (cI, 24, .inl (nF KW))), (b0, .inr (0, [.ref bb, .ref bd, .ref bm, .ref bl, .ref bf, .ref ba, .ref bk, .ref bg, .int (nI n)])), (bb, .inl (cI, 24, .inl (nF BB))), (bd, .inl (cI, 24, .inl (nF BD))), (bm, .inl (cI, 24, .inl (nF BM))), (bl, .inl (cI, 24, .inl (nF BL))), (bf, .inl (cI, 24, .inl (nF BF))), (ba, .inl (cI, 24, .inl (oF BA))), (bk, .inl (cI, 24, .inl (oF BK))), (bg, .inl (cI, 24, .inl (nF BG))), (p0, .inr (2, [.ref h0, .int (nI nx), .int (nI pz)])), (h0, .inr (3, [.int (nI 20), .ref hl1, .ref hs1, .ref hw1, .ref hc1])), (hl1, .inl (cJ, 20 * 24, .inr (.inl (lF HL)))), (hs1, .inl (cI, 20 * 24, .inl (nF HS))), (hw1, .inl (cI, 20 * 24, .inl (nF HW))), (hc1, .inl (cI, 20, .inl (nF HC))), (i0, .inr (3, [.int (nI 2), .ref il1, .ref is1, .ref iw1, .ref ic1])), (il1, .inl (cJ, 2 * 24, .inr (.inl (lF IL)))), (is1, .inl (cI, 2 * 24, .inl (nF IS))), (iw1, .inl (cI, 2 * 24, .inl (nF IW))), (ic1, .inl (cI, 2, .inl (nF IC))), (ik, .inl (cZ, 2, .inl (nF IK))), (it, .inl (cI, 2, .inl (nF IT)))] ss.heap := hP
  refine lv_iload_n hx hb dX5_told_0 rfl (lv_at hl 1 rfl) ?_
  refine lv_tableOut (tgt := 164) hx hb dX5_told_1 (Or.inl (tn_neg hx0)) (by decide) ?_
  refine lv_ldc hx hb hown (hts _ mk_X5_57) dX5_told_164 ?_
  exact ro_iret hx hb hr hlk dX5_told_166 (rfl)
set_option maxHeartbeats 4000000 in
set_option maxRecDepth 100000 in
theorem c_X5_told_big (l : Launch) (D : va_G) (cI cJ cZ : ClassId) (x0 w0 d0 k0 kl ks kw b0 bb bd bm bl bf ba bk bg p0 h0 hl1 hs1 hw1 hc1 i0 il1 is1 iw1 ic1 ik it : Nat) (A : Nat) (s : Nat) (dA : Nat) (dz : Nat) (KL : Nat → Nat) (KS : Nat → Nat) (KW : Nat → Nat) (n : Nat) (BB : Nat → Nat) (BD : Nat → Nat) (BM : Nat → Nat) (BL : Nat → Nat) (BF : Nat → Nat) (BA : Nat → Nat) (BK : Nat → Nat) (BG : Nat → Nat) (nx : Nat) (pz : Nat) (HL : Nat → Nat) (HS : Nat → Nat) (HW : Nat → Nat) (HC : Nat → Nat) (IL : Nat → Nat) (IS : Nat → Nat) (IW : Nat → Nat) (IC : Nat → Nat) (IK : Nat → Nat) (IT : Nat → Nat) (sd : Nat) (hn : n ≤ 24) (hw0 : Wf s A) (hk : ∀ k, k < n → Wf (KS k) (KL k)) (hv : ∀ k, k < n → KW k ≤ 9999) (hso : Srt KS KL n) (hTr : TrX (gapF KS KL) n BB BD BM BL BF BA BK) (hnx : nx < 20) (hpz : pz ≤ 20) (hsd : sd < 2 ^ 31) (j : Nat) (hj : j < 2 ^ 31) (hjb : 10 < j) : RO l yX5_told cX5_told 2 (some .int) (rmN 5 117) D (ty3 cI cJ cZ) [.ref x0, .int (nI j)] [(x0, .inr (5, [.ref w0, .ref d0, .ref k0, .ref b0, .ref p0, .ref i0, .ref ik, .ref it, .int (nI sd)])), (w0, .inr (4, [.long (lN A), .int (nI s)])), (d0, .inr (4, [.long (lN dA), .int (nI dz)])), (k0, .inr (1, [.ref kl, .ref ks, .ref kw, .int (nI n)])), (kl, .inl (cJ, 24, .inr (.inl (lF KL)))), (ks, .inl (cI, 24, .inl (nF KS))), (kw, .inl (cI, 24, .inl (nF KW))), (b0, .inr (0, [.ref bb, .ref bd, .ref bm, .ref bl, .ref bf, .ref ba, .ref bk, .ref bg, .int (nI n)])), (bb, .inl (cI, 24, .inl (nF BB))), (bd, .inl (cI, 24, .inl (nF BD))), (bm, .inl (cI, 24, .inl (nF BM))), (bl, .inl (cI, 24, .inl (nF BL))), (bf, .inl (cI, 24, .inl (nF BF))), (ba, .inl (cI, 24, .inl (oF BA))), (bk, .inl (cI, 24, .inl (oF BK))), (bg, .inl (cI, 24, .inl (nF BG))), (p0, .inr (2, [.ref h0, .int (nI nx), .int (nI pz)])), (h0, .inr (3, [.int (nI 20), .ref hl1, .ref hs1, .ref hw1, .ref hc1])), (hl1, .inl (cJ, 20 * 24, .inr (.inl (lF HL)))), (hs1, .inl (cI, 20 * 24, .inl (nF HS))), (hw1, .inl (cI, 20 * 24, .inl (nF HW))), (hc1, .inl (cI, 20, .inl (nF HC))), (i0, .inr (3, [.int (nI 2), .ref il1, .ref is1, .ref iw1, .ref ic1])), (il1, .inl (cJ, 2 * 24, .inr (.inl (lF IL)))), (is1, .inl (cI, 2 * 24, .inl (nF IS))), (iw1, .inl (cI, 2 * 24, .inl (nF IW))), (ic1, .inl (cI, 2, .inl (nF IC))), (ik, .inl (cZ, 2, .inl (nF IK))), (it, .inl (cI, 2, .inl (nF IT)))] (.int (-1000000002)) := by
  have hs8 := hw0.1
  have hA64 := hw0.2.1
  have hBK := tf_BK hTr hn
  have hDK := tf_DK hTr hn
  have hB := tf_B hTr
  have hBF := tf_BF hTr hn
  have hT := tf_T hTr hso
  have hanc := tf_anc hTr hn
  have hp := plc_le KS KL n s A
  have hcb := cbl_le KS KL n s A
  have hfl := fnd_le KS KL n s A
  refine ro_start (by decide) (Nat.le_of_ble_eq_true rfl) ?_
  intro pp ee ss mm below meth cd C0 hP hK ls hl
  obtain ⟨hx, hb, hr, hml, hown, hts, hlk⟩ := C0
  have hown : ss.vm.findClass RX5 = some mm.cls := hown
  have hl : lv_has ls 2 [(0, .ref x0), (1, .int (nI j))] := hl
  have hP : va_P D vwCl [(x0, .inr (5, [.ref w0, .ref d0, .ref k0, .ref b0, .ref p0, .ref i0, .ref ik, .ref it, .int (nI sd)])), (w0, .inr (4, [.long (lN A), .int (nI s)])), (d0, .inr (4, [.long (lN dA), .int (nI dz)])), (k0, .inr (1, [.ref kl, .ref ks, .ref kw, .int (nI n)])), (kl, .inl (cJ, 24, .inr (.inl (lF KL)))), (ks, .inl (cI, 24, .inl (nF KS))), (kw, .inl (cI, 24, .inl (nF KW))), (b0, .inr (0, [.ref bb, .ref bd, .ref bm, .ref bl, .ref bf, .ref ba, .ref bk, .ref bg, .int (nI n)])), (bb, .inl (cI, 24, .inl (nF BB))), (bd, .inl (cI, 24, .inl (nF BD))), (bm, .inl (cI, 24, .inl (nF BM))), (bl, .inl (cI, 24, .inl (nF BL))), (bf, .inl (cI, 24, .inl (nF BF))), (ba, .inl (cI, 24, .inl (oF BA))), (bk, .inl (cI, 24, .inl (oF BK))), (bg, .inl (cI, 24, .inl (nF BG))), (p0, .inr (2, [.ref h0, .int (nI nx), .int (nI pz)])), (h0, .inr (3, [.int (nI 20), .ref hl1, .ref hs1, .ref hw1, .ref hc1])), (hl1, .inl (cJ, 20 * 24, .inr (.inl (lF HL)))), (hs1, .inl (cI, 20 * 24, .inl (nF HS))), (hw1, .inl (cI, 20 * 24, .inl (nF HW))), (hc1, .inl (cI, 20, .inl (nF HC))), (i0, .inr (3, [.int (nI 2), .ref il1, .ref is1, .ref iw1, .ref ic1])), (il1, .inl (cJ, 2 * 24, .inr (.inl (lF IL)))), (is1, .inl (cI, 2 * 24, .inl (nF IS))), (iw1, .inl (cI, 2 * 24, .inl (nF IW))), (ic1, .inl (cI, 2, .inl (nF IC))), (ik, .inl (cZ, 2, .inl (nF IK))), (it, .inl (cI, 2, .inl (nF IT)))] ss.heap := hP
  refine lv_iload_n hx hb dX5_told_0 rfl (lv_at hl 1 rfl) ?_
  refine lv_tableOut (tgt := 164) hx hb dX5_told_1 (Or.inr (tn_big (by omega) (by omega))) (by decide) ?_
  refine lv_ldc hx hb hown (hts _ mk_X5_57) dX5_told_164 ?_
  exact ro_iret hx hb hr hlk dX5_told_166 (rfl)
set_option maxHeartbeats 4000000 in
set_option maxRecDepth 100000 in
theorem c_X5_told_0 (l : Launch) (D : va_G) (cI cJ cZ : ClassId) (x0 w0 d0 k0 kl ks kw b0 bb bd bm bl bf ba bk bg p0 h0 hl1 hs1 hw1 hc1 i0 il1 is1 iw1 ic1 ik it : Nat) (A : Nat) (s : Nat) (dA : Nat) (dz : Nat) (KL : Nat → Nat) (KS : Nat → Nat) (KW : Nat → Nat) (n : Nat) (BB : Nat → Nat) (BD : Nat → Nat) (BM : Nat → Nat) (BL : Nat → Nat) (BF : Nat → Nat) (BA : Nat → Nat) (BK : Nat → Nat) (BG : Nat → Nat) (nx : Nat) (pz : Nat) (HL : Nat → Nat) (HS : Nat → Nat) (HW : Nat → Nat) (HC : Nat → Nat) (IL : Nat → Nat) (IS : Nat → Nat) (IW : Nat → Nat) (IC : Nat → Nat) (IK : Nat → Nat) (IT : Nat → Nat) (sd : Nat) (hn : n ≤ 24) (hw0 : Wf s A) (hk : ∀ k, k < n → Wf (KS k) (KL k)) (hv : ∀ k, k < n → KW k ≤ 9999) (hso : Srt KS KL n) (hTr : TrX (gapF KS KL) n BB BD BM BL BF BA BK) (hnx : nx < 20) (hpz : pz ≤ 20) (hsd : sd < 2 ^ 31)  : RO l yX5_told cX5_told 2 (some .int) (rmN 5 117) D (ty3 cI cJ cZ) [.ref x0, .int (nI 0)] [(x0, .inr (5, [.ref w0, .ref d0, .ref k0, .ref b0, .ref p0, .ref i0, .ref ik, .ref it, .int (nI sd)])), (w0, .inr (4, [.long (lN A), .int (nI s)])), (d0, .inr (4, [.long (lN dA), .int (nI dz)])), (k0, .inr (1, [.ref kl, .ref ks, .ref kw, .int (nI n)])), (kl, .inl (cJ, 24, .inr (.inl (lF KL)))), (ks, .inl (cI, 24, .inl (nF KS))), (kw, .inl (cI, 24, .inl (nF KW))), (b0, .inr (0, [.ref bb, .ref bd, .ref bm, .ref bl, .ref bf, .ref ba, .ref bk, .ref bg, .int (nI n)])), (bb, .inl (cI, 24, .inl (nF BB))), (bd, .inl (cI, 24, .inl (nF BD))), (bm, .inl (cI, 24, .inl (nF BM))), (bl, .inl (cI, 24, .inl (nF BL))), (bf, .inl (cI, 24, .inl (nF BF))), (ba, .inl (cI, 24, .inl (oF BA))), (bk, .inl (cI, 24, .inl (oF BK))), (bg, .inl (cI, 24, .inl (nF BG))), (p0, .inr (2, [.ref h0, .int (nI nx), .int (nI pz)])), (h0, .inr (3, [.int (nI 20), .ref hl1, .ref hs1, .ref hw1, .ref hc1])), (hl1, .inl (cJ, 20 * 24, .inr (.inl (lF HL)))), (hs1, .inl (cI, 20 * 24, .inl (nF HS))), (hw1, .inl (cI, 20 * 24, .inl (nF HW))), (hc1, .inl (cI, 20, .inl (nF HC))), (i0, .inr (3, [.int (nI 2), .ref il1, .ref is1, .ref iw1, .ref ic1])), (il1, .inl (cJ, 2 * 24, .inr (.inl (lF IL)))), (is1, .inl (cI, 2 * 24, .inl (nF IS))), (iw1, .inl (cI, 2 * 24, .inl (nF IW))), (ic1, .inl (cI, 2, .inl (nF IC))), (ik, .inl (cZ, 2, .inl (nF IK))), (it, .inl (cI, 2, .inl (nF IT)))] (.int (nI n)) := by
  have hs8 := hw0.1
  have hA64 := hw0.2.1
  have hBK := tf_BK hTr hn
  have hDK := tf_DK hTr hn
  have hB := tf_B hTr
  have hBF := tf_BF hTr hn
  have hT := tf_T hTr hso
  have hanc := tf_anc hTr hn
  have hp := plc_le KS KL n s A
  have hcb := cbl_le KS KL n s A
  have hfl := fnd_le KS KL n s A
  refine ro_start (by decide) (Nat.le_of_ble_eq_true rfl) ?_
  intro pp ee ss mm below meth cd C0 hP hK ls hl
  obtain ⟨hx, hb, hr, hml, hown, hts, hlk⟩ := C0
  have hown : ss.vm.findClass RX5 = some mm.cls := hown
  have hl : lv_has ls 2 [(0, .ref x0), (1, .int (nI 0))] := hl
  have hP : va_P D vwCl [(x0, .inr (5, [.ref w0, .ref d0, .ref k0, .ref b0, .ref p0, .ref i0, .ref ik, .ref it, .int (nI sd)])), (w0, .inr (4, [.long (lN A), .int (nI s)])), (d0, .inr (4, [.long (lN dA), .int (nI dz)])), (k0, .inr (1, [.ref kl, .ref ks, .ref kw, .int (nI n)])), (kl, .inl (cJ, 24, .inr (.inl (lF KL)))), (ks, .inl (cI, 24, .inl (nF KS))), (kw, .inl (cI, 24, .inl (nF KW))), (b0, .inr (0, [.ref bb, .ref bd, .ref bm, .ref bl, .ref bf, .ref ba, .ref bk, .ref bg, .int (nI n)])), (bb, .inl (cI, 24, .inl (nF BB))), (bd, .inl (cI, 24, .inl (nF BD))), (bm, .inl (cI, 24, .inl (nF BM))), (bl, .inl (cI, 24, .inl (nF BL))), (bf, .inl (cI, 24, .inl (nF BF))), (ba, .inl (cI, 24, .inl (oF BA))), (bk, .inl (cI, 24, .inl (oF BK))), (bg, .inl (cI, 24, .inl (nF BG))), (p0, .inr (2, [.ref h0, .int (nI nx), .int (nI pz)])), (h0, .inr (3, [.int (nI 20), .ref hl1, .ref hs1, .ref hw1, .ref hc1])), (hl1, .inl (cJ, 20 * 24, .inr (.inl (lF HL)))), (hs1, .inl (cI, 20 * 24, .inl (nF HS))), (hw1, .inl (cI, 20 * 24, .inl (nF HW))), (hc1, .inl (cI, 20, .inl (nF HC))), (i0, .inr (3, [.int (nI 2), .ref il1, .ref is1, .ref iw1, .ref ic1])), (il1, .inl (cJ, 2 * 24, .inr (.inl (lF IL)))), (is1, .inl (cI, 2 * 24, .inl (nF IS))), (iw1, .inl (cI, 2 * 24, .inl (nF IW))), (ic1, .inl (cI, 2, .inl (nF IC))), (ik, .inl (cZ, 2, .inl (nF IK))), (it, .inl (cI, 2, .inl (nF IT)))] ss.heap := hP
  refine lv_iload_n hx hb dX5_told_0 rfl (lv_at hl 1 rfl) ?_
  refine lv_tableIn (tgt := 60) (off := 59) hx hb dX5_told_1 (by decide +kernel) (by decide +kernel) (by decide +kernel) (by decide) ?_
  refine lv_aload_n hx hb dX5_told_60 rfl (lv_at hl 0 rfl) ?_
  refine va_get (D := D) (ci := 5) (v := .ref k0) (C := RX5) (T := TX5) (N := 9) hx hb hts inX5 hown hK hP 0 rfl rfl 2 (by decide) (hts _ mf_X5_22) (fun _ h9 => h9) rfl dX5_told_61 ?_
  refine ro_V (As := []) (rest := []) ⟨hx, hb, hml, hown, hts⟩ (c_X1_count l D cI cJ cZ k0 kl ks kw KL KS KW n (by omega)) (k_X5_86 hts ⟨Nat.le_of_ble_eq_true rfl, Nat.le_of_ble_eq_true rfl⟩) hK hP 3 rfl rfl rfl [3, 4, 5, 6] rfl rfl hl.1 rfl (Nat.le_of_ble_eq_true rfl) dX5_told_64 ⟨Nat.le_of_ble_eq_true rfl, Nat.le_of_ble_eq_true rfl⟩ ?_
  exact ro_iret hx hb hr hlk dX5_told_67 (rfl)
set_option maxHeartbeats 4000000 in
set_option maxRecDepth 100000 in
theorem c_X5_told_1 (l : Launch) (D : va_G) (cI cJ cZ : ClassId) (x0 w0 d0 k0 kl ks kw b0 bb bd bm bl bf ba bk bg p0 h0 hl1 hs1 hw1 hc1 i0 il1 is1 iw1 ic1 ik it : Nat) (A : Nat) (s : Nat) (dA : Nat) (dz : Nat) (KL : Nat → Nat) (KS : Nat → Nat) (KW : Nat → Nat) (n : Nat) (BB : Nat → Nat) (BD : Nat → Nat) (BM : Nat → Nat) (BL : Nat → Nat) (BF : Nat → Nat) (BA : Nat → Nat) (BK : Nat → Nat) (BG : Nat → Nat) (nx : Nat) (pz : Nat) (HL : Nat → Nat) (HS : Nat → Nat) (HW : Nat → Nat) (HC : Nat → Nat) (IL : Nat → Nat) (IS : Nat → Nat) (IW : Nat → Nat) (IC : Nat → Nat) (IK : Nat → Nat) (IT : Nat → Nat) (sd : Nat) (hn : n ≤ 24) (hw0 : Wf s A) (hk : ∀ k, k < n → Wf (KS k) (KL k)) (hv : ∀ k, k < n → KW k ≤ 9999) (hso : Srt KS KL n) (hTr : TrX (gapF KS KL) n BB BD BM BL BF BA BK) (hnx : nx < 20) (hpz : pz ≤ 20) (hsd : sd < 2 ^ 31)  : RO l yX5_told cX5_told 2 (some .int) (rmN 5 117) D (ty3 cI cJ cZ) [.ref x0, .int (nI 1)] [(x0, .inr (5, [.ref w0, .ref d0, .ref k0, .ref b0, .ref p0, .ref i0, .ref ik, .ref it, .int (nI sd)])), (w0, .inr (4, [.long (lN A), .int (nI s)])), (d0, .inr (4, [.long (lN dA), .int (nI dz)])), (k0, .inr (1, [.ref kl, .ref ks, .ref kw, .int (nI n)])), (kl, .inl (cJ, 24, .inr (.inl (lF KL)))), (ks, .inl (cI, 24, .inl (nF KS))), (kw, .inl (cI, 24, .inl (nF KW))), (b0, .inr (0, [.ref bb, .ref bd, .ref bm, .ref bl, .ref bf, .ref ba, .ref bk, .ref bg, .int (nI n)])), (bb, .inl (cI, 24, .inl (nF BB))), (bd, .inl (cI, 24, .inl (nF BD))), (bm, .inl (cI, 24, .inl (nF BM))), (bl, .inl (cI, 24, .inl (nF BL))), (bf, .inl (cI, 24, .inl (nF BF))), (ba, .inl (cI, 24, .inl (oF BA))), (bk, .inl (cI, 24, .inl (oF BK))), (bg, .inl (cI, 24, .inl (nF BG))), (p0, .inr (2, [.ref h0, .int (nI nx), .int (nI pz)])), (h0, .inr (3, [.int (nI 20), .ref hl1, .ref hs1, .ref hw1, .ref hc1])), (hl1, .inl (cJ, 20 * 24, .inr (.inl (lF HL)))), (hs1, .inl (cI, 20 * 24, .inl (nF HS))), (hw1, .inl (cI, 20 * 24, .inl (nF HW))), (hc1, .inl (cI, 20, .inl (nF HC))), (i0, .inr (3, [.int (nI 2), .ref il1, .ref is1, .ref iw1, .ref ic1])), (il1, .inl (cJ, 2 * 24, .inr (.inl (lF IL)))), (is1, .inl (cI, 2 * 24, .inl (nF IS))), (iw1, .inl (cI, 2 * 24, .inl (nF IW))), (ic1, .inl (cI, 2, .inl (nF IC))), (ik, .inl (cZ, 2, .inl (nF IK))), (it, .inl (cI, 2, .inl (nF IT)))] (.int (nI (n - 1))) := by
  have hs8 := hw0.1
  have hA64 := hw0.2.1
  have hBK := tf_BK hTr hn
  have hDK := tf_DK hTr hn
  have hB := tf_B hTr
  have hBF := tf_BF hTr hn
  have hT := tf_T hTr hso
  have hanc := tf_anc hTr hn
  have hp := plc_le KS KL n s A
  have hcb := cbl_le KS KL n s A
  have hfl := fnd_le KS KL n s A
  refine ro_start (by decide) (Nat.le_of_ble_eq_true rfl) ?_
  intro pp ee ss mm below meth cd C0 hP hK ls hl
  obtain ⟨hx, hb, hr, hml, hown, hts, hlk⟩ := C0
  have hown : ss.vm.findClass RX5 = some mm.cls := hown
  have hl : lv_has ls 2 [(0, .ref x0), (1, .int (nI 1))] := hl
  have hP : va_P D vwCl [(x0, .inr (5, [.ref w0, .ref d0, .ref k0, .ref b0, .ref p0, .ref i0, .ref ik, .ref it, .int (nI sd)])), (w0, .inr (4, [.long (lN A), .int (nI s)])), (d0, .inr (4, [.long (lN dA), .int (nI dz)])), (k0, .inr (1, [.ref kl, .ref ks, .ref kw, .int (nI n)])), (kl, .inl (cJ, 24, .inr (.inl (lF KL)))), (ks, .inl (cI, 24, .inl (nF KS))), (kw, .inl (cI, 24, .inl (nF KW))), (b0, .inr (0, [.ref bb, .ref bd, .ref bm, .ref bl, .ref bf, .ref ba, .ref bk, .ref bg, .int (nI n)])), (bb, .inl (cI, 24, .inl (nF BB))), (bd, .inl (cI, 24, .inl (nF BD))), (bm, .inl (cI, 24, .inl (nF BM))), (bl, .inl (cI, 24, .inl (nF BL))), (bf, .inl (cI, 24, .inl (nF BF))), (ba, .inl (cI, 24, .inl (oF BA))), (bk, .inl (cI, 24, .inl (oF BK))), (bg, .inl (cI, 24, .inl (nF BG))), (p0, .inr (2, [.ref h0, .int (nI nx), .int (nI pz)])), (h0, .inr (3, [.int (nI 20), .ref hl1, .ref hs1, .ref hw1, .ref hc1])), (hl1, .inl (cJ, 20 * 24, .inr (.inl (lF HL)))), (hs1, .inl (cI, 20 * 24, .inl (nF HS))), (hw1, .inl (cI, 20 * 24, .inl (nF HW))), (hc1, .inl (cI, 20, .inl (nF HC))), (i0, .inr (3, [.int (nI 2), .ref il1, .ref is1, .ref iw1, .ref ic1])), (il1, .inl (cJ, 2 * 24, .inr (.inl (lF IL)))), (is1, .inl (cI, 2 * 24, .inl (nF IS))), (iw1, .inl (cI, 2 * 24, .inl (nF IW))), (ic1, .inl (cI, 2, .inl (nF IC))), (ik, .inl (cZ, 2, .inl (nF IK))), (it, .inl (cI, 2, .inl (nF IT)))] ss.heap := hP
  refine lv_iload_n hx hb dX5_told_0 rfl (lv_at hl 1 rfl) ?_
  refine lv_tableIn (tgt := 68) (off := 67) hx hb dX5_told_1 (by decide +kernel) (by decide +kernel) (by decide +kernel) (by decide) ?_
  refine lv_aload_n hx hb dX5_told_68 rfl (lv_at hl 0 rfl) ?_
  refine va_get (D := D) (ci := 5) (v := .ref b0) (C := RX5) (T := TX5) (N := 9) hx hb hts inX5 hown hK hP 0 rfl rfl 3 (by decide) (hts _ mf_X5_29) (fun _ h9 => h9) rfl dX5_told_69 ?_
  refine ro_V (As := []) (rest := []) ⟨hx, hb, hml, hown, hts⟩ (c_X0_count l D cI cJ cZ b0 bb bd bm bl bf ba bk bg BB BD BM BL BF BA BK BG n (by omega) ) (k_X5_89 hts ⟨Nat.le_of_ble_eq_true rfl, Nat.le_of_ble_eq_true rfl⟩) hK hP 7 rfl rfl rfl [7, 8, 9, 10, 11, 12, 13, 14, 15] rfl rfl hl.1 rfl (Nat.le_of_ble_eq_true rfl) dX5_told_72 ⟨Nat.le_of_ble_eq_true rfl, Nat.le_of_ble_eq_true rfl⟩ ?_
  exact ro_iret hx hb hr hlk dX5_told_75 (rfl)
set_option maxHeartbeats 4000000 in
set_option maxRecDepth 100000 in
theorem c_X5_told_2 (l : Launch) (D : va_G) (cI cJ cZ : ClassId) (x0 w0 d0 k0 kl ks kw b0 bb bd bm bl bf ba bk bg p0 h0 hl1 hs1 hw1 hc1 i0 il1 is1 iw1 ic1 ik it : Nat) (A : Nat) (s : Nat) (dA : Nat) (dz : Nat) (KL : Nat → Nat) (KS : Nat → Nat) (KW : Nat → Nat) (n : Nat) (BB : Nat → Nat) (BD : Nat → Nat) (BM : Nat → Nat) (BL : Nat → Nat) (BF : Nat → Nat) (BA : Nat → Nat) (BK : Nat → Nat) (BG : Nat → Nat) (nx : Nat) (pz : Nat) (HL : Nat → Nat) (HS : Nat → Nat) (HW : Nat → Nat) (HC : Nat → Nat) (IL : Nat → Nat) (IS : Nat → Nat) (IW : Nat → Nat) (IC : Nat → Nat) (IK : Nat → Nat) (IT : Nat → Nat) (sd : Nat) (hn : n ≤ 24) (hw0 : Wf s A) (hk : ∀ k, k < n → Wf (KS k) (KL k)) (hv : ∀ k, k < n → KW k ≤ 9999) (hso : Srt KS KL n) (hTr : TrX (gapF KS KL) n BB BD BM BL BF BA BK) (hnx : nx < 20) (hpz : pz ≤ 20) (hsd : sd < 2 ^ 31)  : RO l yX5_told cX5_told 2 (some .int) (rmN 5 117) D (ty3 cI cJ cZ) [.ref x0, .int (nI 2)] [(x0, .inr (5, [.ref w0, .ref d0, .ref k0, .ref b0, .ref p0, .ref i0, .ref ik, .ref it, .int (nI sd)])), (w0, .inr (4, [.long (lN A), .int (nI s)])), (d0, .inr (4, [.long (lN dA), .int (nI dz)])), (k0, .inr (1, [.ref kl, .ref ks, .ref kw, .int (nI n)])), (kl, .inl (cJ, 24, .inr (.inl (lF KL)))), (ks, .inl (cI, 24, .inl (nF KS))), (kw, .inl (cI, 24, .inl (nF KW))), (b0, .inr (0, [.ref bb, .ref bd, .ref bm, .ref bl, .ref bf, .ref ba, .ref bk, .ref bg, .int (nI n)])), (bb, .inl (cI, 24, .inl (nF BB))), (bd, .inl (cI, 24, .inl (nF BD))), (bm, .inl (cI, 24, .inl (nF BM))), (bl, .inl (cI, 24, .inl (nF BL))), (bf, .inl (cI, 24, .inl (nF BF))), (ba, .inl (cI, 24, .inl (oF BA))), (bk, .inl (cI, 24, .inl (oF BK))), (bg, .inl (cI, 24, .inl (nF BG))), (p0, .inr (2, [.ref h0, .int (nI nx), .int (nI pz)])), (h0, .inr (3, [.int (nI 20), .ref hl1, .ref hs1, .ref hw1, .ref hc1])), (hl1, .inl (cJ, 20 * 24, .inr (.inl (lF HL)))), (hs1, .inl (cI, 20 * 24, .inl (nF HS))), (hw1, .inl (cI, 20 * 24, .inl (nF HW))), (hc1, .inl (cI, 20, .inl (nF HC))), (i0, .inr (3, [.int (nI 2), .ref il1, .ref is1, .ref iw1, .ref ic1])), (il1, .inl (cJ, 2 * 24, .inr (.inl (lF IL)))), (is1, .inl (cI, 2 * 24, .inl (nF IS))), (iw1, .inl (cI, 2 * 24, .inl (nF IW))), (ic1, .inl (cI, 2, .inl (nF IC))), (ik, .inl (cZ, 2, .inl (nF IK))), (it, .inl (cI, 2, .inl (nF IT)))] (.int (nI s)) := by
  have hs8 := hw0.1
  have hA64 := hw0.2.1
  have hBK := tf_BK hTr hn
  have hDK := tf_DK hTr hn
  have hB := tf_B hTr
  have hBF := tf_BF hTr hn
  have hT := tf_T hTr hso
  have hanc := tf_anc hTr hn
  have hp := plc_le KS KL n s A
  have hcb := cbl_le KS KL n s A
  have hfl := fnd_le KS KL n s A
  refine ro_start (by decide) (Nat.le_of_ble_eq_true rfl) ?_
  intro pp ee ss mm below meth cd C0 hP hK ls hl
  obtain ⟨hx, hb, hr, hml, hown, hts, hlk⟩ := C0
  have hown : ss.vm.findClass RX5 = some mm.cls := hown
  have hl : lv_has ls 2 [(0, .ref x0), (1, .int (nI 2))] := hl
  have hP : va_P D vwCl [(x0, .inr (5, [.ref w0, .ref d0, .ref k0, .ref b0, .ref p0, .ref i0, .ref ik, .ref it, .int (nI sd)])), (w0, .inr (4, [.long (lN A), .int (nI s)])), (d0, .inr (4, [.long (lN dA), .int (nI dz)])), (k0, .inr (1, [.ref kl, .ref ks, .ref kw, .int (nI n)])), (kl, .inl (cJ, 24, .inr (.inl (lF KL)))), (ks, .inl (cI, 24, .inl (nF KS))), (kw, .inl (cI, 24, .inl (nF KW))), (b0, .inr (0, [.ref bb, .ref bd, .ref bm, .ref bl, .ref bf, .ref ba, .ref bk, .ref bg, .int (nI n)])), (bb, .inl (cI, 24, .inl (nF BB))), (bd, .inl (cI, 24, .inl (nF BD))), (bm, .inl (cI, 24, .inl (nF BM))), (bl, .inl (cI, 24, .inl (nF BL))), (bf, .inl (cI, 24, .inl (nF BF))), (ba, .inl (cI, 24, .inl (oF BA))), (bk, .inl (cI, 24, .inl (oF BK))), (bg, .inl (cI, 24, .inl (nF BG))), (p0, .inr (2, [.ref h0, .int (nI nx), .int (nI pz)])), (h0, .inr (3, [.int (nI 20), .ref hl1, .ref hs1, .ref hw1, .ref hc1])), (hl1, .inl (cJ, 20 * 24, .inr (.inl (lF HL)))), (hs1, .inl (cI, 20 * 24, .inl (nF HS))), (hw1, .inl (cI, 20 * 24, .inl (nF HW))), (hc1, .inl (cI, 20, .inl (nF HC))), (i0, .inr (3, [.int (nI 2), .ref il1, .ref is1, .ref iw1, .ref ic1])), (il1, .inl (cJ, 2 * 24, .inr (.inl (lF IL)))), (is1, .inl (cI, 2 * 24, .inl (nF IS))), (iw1, .inl (cI, 2 * 24, .inl (nF IW))), (ic1, .inl (cI, 2, .inl (nF IC))), (ik, .inl (cZ, 2, .inl (nF IK))), (it, .inl (cI, 2, .inl (nF IT)))] ss.heap := hP
  refine lv_iload_n hx hb dX5_told_0 rfl (lv_at hl 1 rfl) ?_
  refine lv_tableIn (tgt := 76) (off := 75) hx hb dX5_told_1 (by decide +kernel) (by decide +kernel) (by decide +kernel) (by decide) ?_
  refine lv_aload_n hx hb dX5_told_76 rfl (lv_at hl 0 rfl) ?_
  refine va_get (D := D) (ci := 5) (v := .ref w0) (C := RX5) (T := TX5) (N := 9) hx hb hts inX5 hown hK hP 0 rfl rfl 0 (by decide) (hts _ mf_X5_10) (fun _ h9 => h9) rfl dX5_told_77 ?_
  refine ro_V (As := []) (rest := []) ⟨hx, hb, hml, hown, hts⟩ (c_X4_size l D cI cJ cZ w0 A s) (k_X5_58 hts ⟨Nat.le_of_ble_eq_true rfl, Nat.le_of_ble_eq_true rfl⟩) hK hP 1 rfl rfl rfl [1] rfl rfl hl.1 rfl (Nat.le_of_ble_eq_true rfl) dX5_told_80 ⟨Nat.le_of_ble_eq_true rfl, Nat.le_of_ble_eq_true rfl⟩ ?_
  exact ro_iret hx hb hr hlk dX5_told_83 (rfl)
set_option maxHeartbeats 4000000 in
set_option maxRecDepth 100000 in
theorem c_X5_told_3 (l : Launch) (D : va_G) (cI cJ cZ : ClassId) (x0 w0 d0 k0 kl ks kw b0 bb bd bm bl bf ba bk bg p0 h0 hl1 hs1 hw1 hc1 i0 il1 is1 iw1 ic1 ik it : Nat) (A : Nat) (s : Nat) (dA : Nat) (dz : Nat) (KL : Nat → Nat) (KS : Nat → Nat) (KW : Nat → Nat) (n : Nat) (BB : Nat → Nat) (BD : Nat → Nat) (BM : Nat → Nat) (BL : Nat → Nat) (BF : Nat → Nat) (BA : Nat → Nat) (BK : Nat → Nat) (BG : Nat → Nat) (nx : Nat) (pz : Nat) (HL : Nat → Nat) (HS : Nat → Nat) (HW : Nat → Nat) (HC : Nat → Nat) (IL : Nat → Nat) (IS : Nat → Nat) (IW : Nat → Nat) (IC : Nat → Nat) (IK : Nat → Nat) (IT : Nat → Nat) (sd : Nat) (hn : n ≤ 24) (hw0 : Wf s A) (hk : ∀ k, k < n → Wf (KS k) (KL k)) (hv : ∀ k, k < n → KW k ≤ 9999) (hso : Srt KS KL n) (hTr : TrX (gapF KS KL) n BB BD BM BL BF BA BK) (hnx : nx < 20) (hpz : pz ≤ 20) (hsd : sd < 2 ^ 31)  : RO l yX5_told cX5_told 2 (some .int) (rmN 5 117) D (ty3 cI cJ cZ) [.ref x0, .int (nI 3)] [(x0, .inr (5, [.ref w0, .ref d0, .ref k0, .ref b0, .ref p0, .ref i0, .ref ik, .ref it, .int (nI sd)])), (w0, .inr (4, [.long (lN A), .int (nI s)])), (d0, .inr (4, [.long (lN dA), .int (nI dz)])), (k0, .inr (1, [.ref kl, .ref ks, .ref kw, .int (nI n)])), (kl, .inl (cJ, 24, .inr (.inl (lF KL)))), (ks, .inl (cI, 24, .inl (nF KS))), (kw, .inl (cI, 24, .inl (nF KW))), (b0, .inr (0, [.ref bb, .ref bd, .ref bm, .ref bl, .ref bf, .ref ba, .ref bk, .ref bg, .int (nI n)])), (bb, .inl (cI, 24, .inl (nF BB))), (bd, .inl (cI, 24, .inl (nF BD))), (bm, .inl (cI, 24, .inl (nF BM))), (bl, .inl (cI, 24, .inl (nF BL))), (bf, .inl (cI, 24, .inl (nF BF))), (ba, .inl (cI, 24, .inl (oF BA))), (bk, .inl (cI, 24, .inl (oF BK))), (bg, .inl (cI, 24, .inl (nF BG))), (p0, .inr (2, [.ref h0, .int (nI nx), .int (nI pz)])), (h0, .inr (3, [.int (nI 20), .ref hl1, .ref hs1, .ref hw1, .ref hc1])), (hl1, .inl (cJ, 20 * 24, .inr (.inl (lF HL)))), (hs1, .inl (cI, 20 * 24, .inl (nF HS))), (hw1, .inl (cI, 20 * 24, .inl (nF HW))), (hc1, .inl (cI, 20, .inl (nF HC))), (i0, .inr (3, [.int (nI 2), .ref il1, .ref is1, .ref iw1, .ref ic1])), (il1, .inl (cJ, 2 * 24, .inr (.inl (lF IL)))), (is1, .inl (cI, 2 * 24, .inl (nF IS))), (iw1, .inl (cI, 2 * 24, .inl (nF IW))), (ic1, .inl (cI, 2, .inl (nF IC))), (ik, .inl (cZ, 2, .inl (nF IK))), (it, .inl (cI, 2, .inl (nF IT)))] (.int (nI (mxd (dok BK BD) n))) := by
  have hs8 := hw0.1
  have hA64 := hw0.2.1
  have hBK := tf_BK hTr hn
  have hDK := tf_DK hTr hn
  have hB := tf_B hTr
  have hBF := tf_BF hTr hn
  have hT := tf_T hTr hso
  have hanc := tf_anc hTr hn
  have hp := plc_le KS KL n s A
  have hcb := cbl_le KS KL n s A
  have hfl := fnd_le KS KL n s A
  refine ro_start (by decide) (Nat.le_of_ble_eq_true rfl) ?_
  intro pp ee ss mm below meth cd C0 hP hK ls hl
  obtain ⟨hx, hb, hr, hml, hown, hts, hlk⟩ := C0
  have hown : ss.vm.findClass RX5 = some mm.cls := hown
  have hl : lv_has ls 2 [(0, .ref x0), (1, .int (nI 3))] := hl
  have hP : va_P D vwCl [(x0, .inr (5, [.ref w0, .ref d0, .ref k0, .ref b0, .ref p0, .ref i0, .ref ik, .ref it, .int (nI sd)])), (w0, .inr (4, [.long (lN A), .int (nI s)])), (d0, .inr (4, [.long (lN dA), .int (nI dz)])), (k0, .inr (1, [.ref kl, .ref ks, .ref kw, .int (nI n)])), (kl, .inl (cJ, 24, .inr (.inl (lF KL)))), (ks, .inl (cI, 24, .inl (nF KS))), (kw, .inl (cI, 24, .inl (nF KW))), (b0, .inr (0, [.ref bb, .ref bd, .ref bm, .ref bl, .ref bf, .ref ba, .ref bk, .ref bg, .int (nI n)])), (bb, .inl (cI, 24, .inl (nF BB))), (bd, .inl (cI, 24, .inl (nF BD))), (bm, .inl (cI, 24, .inl (nF BM))), (bl, .inl (cI, 24, .inl (nF BL))), (bf, .inl (cI, 24, .inl (nF BF))), (ba, .inl (cI, 24, .inl (oF BA))), (bk, .inl (cI, 24, .inl (oF BK))), (bg, .inl (cI, 24, .inl (nF BG))), (p0, .inr (2, [.ref h0, .int (nI nx), .int (nI pz)])), (h0, .inr (3, [.int (nI 20), .ref hl1, .ref hs1, .ref hw1, .ref hc1])), (hl1, .inl (cJ, 20 * 24, .inr (.inl (lF HL)))), (hs1, .inl (cI, 20 * 24, .inl (nF HS))), (hw1, .inl (cI, 20 * 24, .inl (nF HW))), (hc1, .inl (cI, 20, .inl (nF HC))), (i0, .inr (3, [.int (nI 2), .ref il1, .ref is1, .ref iw1, .ref ic1])), (il1, .inl (cJ, 2 * 24, .inr (.inl (lF IL)))), (is1, .inl (cI, 2 * 24, .inl (nF IS))), (iw1, .inl (cI, 2 * 24, .inl (nF IW))), (ic1, .inl (cI, 2, .inl (nF IC))), (ik, .inl (cZ, 2, .inl (nF IK))), (it, .inl (cI, 2, .inl (nF IT)))] ss.heap := hP
  refine lv_iload_n hx hb dX5_told_0 rfl (lv_at hl 1 rfl) ?_
  refine lv_tableIn (tgt := 84) (off := 83) hx hb dX5_told_1 (by decide +kernel) (by decide +kernel) (by decide +kernel) (by decide) ?_
  refine lv_aload_n hx hb dX5_told_84 rfl (lv_at hl 0 rfl) ?_
  refine va_get (D := D) (ci := 5) (v := .ref b0) (C := RX5) (T := TX5) (N := 9) hx hb hts inX5 hown hK hP 0 rfl rfl 3 (by decide) (hts _ mf_X5_29) (fun _ h9 => h9) rfl dX5_told_85 ?_
  refine ro_V (As := []) (rest := []) ⟨hx, hb, hml, hown, hts⟩ (c_X0_greatestDepth l D cI cJ cZ b0 bb bd bm bl bf ba bk bg BB BD BM BL BF BA BK BG n (by omega) hBK hDK) (k_X5_90 hts ⟨Nat.le_of_ble_eq_true rfl, Nat.le_of_ble_eq_true rfl⟩) hK hP 7 rfl rfl rfl [7, 8, 9, 10, 11, 12, 13, 14, 15] rfl rfl hl.1 rfl (Nat.le_of_ble_eq_true rfl) dX5_told_88 ⟨Nat.le_of_ble_eq_true rfl, Nat.le_of_ble_eq_true rfl⟩ ?_
  exact ro_iret hx hb hr hlk dX5_told_91 (rfl)
set_option maxHeartbeats 4000000 in
set_option maxRecDepth 100000 in
theorem c_X5_told_4 (l : Launch) (D : va_G) (cI cJ cZ : ClassId) (x0 w0 d0 k0 kl ks kw b0 bb bd bm bl bf ba bk bg p0 h0 hl1 hs1 hw1 hc1 i0 il1 is1 iw1 ic1 ik it : Nat) (A : Nat) (s : Nat) (dA : Nat) (dz : Nat) (KL : Nat → Nat) (KS : Nat → Nat) (KW : Nat → Nat) (n : Nat) (BB : Nat → Nat) (BD : Nat → Nat) (BM : Nat → Nat) (BL : Nat → Nat) (BF : Nat → Nat) (BA : Nat → Nat) (BK : Nat → Nat) (BG : Nat → Nat) (nx : Nat) (pz : Nat) (HL : Nat → Nat) (HS : Nat → Nat) (HW : Nat → Nat) (HC : Nat → Nat) (IL : Nat → Nat) (IS : Nat → Nat) (IW : Nat → Nat) (IC : Nat → Nat) (IK : Nat → Nat) (IT : Nat → Nat) (sd : Nat) (hn : n ≤ 24) (hw0 : Wf s A) (hk : ∀ k, k < n → Wf (KS k) (KL k)) (hv : ∀ k, k < n → KW k ≤ 9999) (hso : Srt KS KL n) (hTr : TrX (gapF KS KL) n BB BD BM BL BF BA BK) (hnx : nx < 20) (hpz : pz ≤ 20) (hsd : sd < 2 ^ 31)  : RO l yX5_told cX5_told 2 (some .int) (rmN 5 117) D (ty3 cI cJ cZ) [.ref x0, .int (nI 4)] [(x0, .inr (5, [.ref w0, .ref d0, .ref k0, .ref b0, .ref p0, .ref i0, .ref ik, .ref it, .int (nI sd)])), (w0, .inr (4, [.long (lN A), .int (nI s)])), (d0, .inr (4, [.long (lN dA), .int (nI dz)])), (k0, .inr (1, [.ref kl, .ref ks, .ref kw, .int (nI n)])), (kl, .inl (cJ, 24, .inr (.inl (lF KL)))), (ks, .inl (cI, 24, .inl (nF KS))), (kw, .inl (cI, 24, .inl (nF KW))), (b0, .inr (0, [.ref bb, .ref bd, .ref bm, .ref bl, .ref bf, .ref ba, .ref bk, .ref bg, .int (nI n)])), (bb, .inl (cI, 24, .inl (nF BB))), (bd, .inl (cI, 24, .inl (nF BD))), (bm, .inl (cI, 24, .inl (nF BM))), (bl, .inl (cI, 24, .inl (nF BL))), (bf, .inl (cI, 24, .inl (nF BF))), (ba, .inl (cI, 24, .inl (oF BA))), (bk, .inl (cI, 24, .inl (oF BK))), (bg, .inl (cI, 24, .inl (nF BG))), (p0, .inr (2, [.ref h0, .int (nI nx), .int (nI pz)])), (h0, .inr (3, [.int (nI 20), .ref hl1, .ref hs1, .ref hw1, .ref hc1])), (hl1, .inl (cJ, 20 * 24, .inr (.inl (lF HL)))), (hs1, .inl (cI, 20 * 24, .inl (nF HS))), (hw1, .inl (cI, 20 * 24, .inl (nF HW))), (hc1, .inl (cI, 20, .inl (nF HC))), (i0, .inr (3, [.int (nI 2), .ref il1, .ref is1, .ref iw1, .ref ic1])), (il1, .inl (cJ, 2 * 24, .inr (.inl (lF IL)))), (is1, .inl (cI, 2 * 24, .inl (nF IS))), (iw1, .inl (cI, 2 * 24, .inl (nF IW))), (ic1, .inl (cI, 2, .inl (nF IC))), (ik, .inl (cZ, 2, .inl (nF IK))), (it, .inl (cI, 2, .inl (nF IT)))] (.int (nI (fb_sm (dok BK BD) n))) := by
  have hs8 := hw0.1
  have hA64 := hw0.2.1
  have hBK := tf_BK hTr hn
  have hDK := tf_DK hTr hn
  have hB := tf_B hTr
  have hBF := tf_BF hTr hn
  have hT := tf_T hTr hso
  have hanc := tf_anc hTr hn
  have hp := plc_le KS KL n s A
  have hcb := cbl_le KS KL n s A
  have hfl := fnd_le KS KL n s A
  refine ro_start (by decide) (Nat.le_of_ble_eq_true rfl) ?_
  intro pp ee ss mm below meth cd C0 hP hK ls hl
  obtain ⟨hx, hb, hr, hml, hown, hts, hlk⟩ := C0
  have hown : ss.vm.findClass RX5 = some mm.cls := hown
  have hl : lv_has ls 2 [(0, .ref x0), (1, .int (nI 4))] := hl
  have hP : va_P D vwCl [(x0, .inr (5, [.ref w0, .ref d0, .ref k0, .ref b0, .ref p0, .ref i0, .ref ik, .ref it, .int (nI sd)])), (w0, .inr (4, [.long (lN A), .int (nI s)])), (d0, .inr (4, [.long (lN dA), .int (nI dz)])), (k0, .inr (1, [.ref kl, .ref ks, .ref kw, .int (nI n)])), (kl, .inl (cJ, 24, .inr (.inl (lF KL)))), (ks, .inl (cI, 24, .inl (nF KS))), (kw, .inl (cI, 24, .inl (nF KW))), (b0, .inr (0, [.ref bb, .ref bd, .ref bm, .ref bl, .ref bf, .ref ba, .ref bk, .ref bg, .int (nI n)])), (bb, .inl (cI, 24, .inl (nF BB))), (bd, .inl (cI, 24, .inl (nF BD))), (bm, .inl (cI, 24, .inl (nF BM))), (bl, .inl (cI, 24, .inl (nF BL))), (bf, .inl (cI, 24, .inl (nF BF))), (ba, .inl (cI, 24, .inl (oF BA))), (bk, .inl (cI, 24, .inl (oF BK))), (bg, .inl (cI, 24, .inl (nF BG))), (p0, .inr (2, [.ref h0, .int (nI nx), .int (nI pz)])), (h0, .inr (3, [.int (nI 20), .ref hl1, .ref hs1, .ref hw1, .ref hc1])), (hl1, .inl (cJ, 20 * 24, .inr (.inl (lF HL)))), (hs1, .inl (cI, 20 * 24, .inl (nF HS))), (hw1, .inl (cI, 20 * 24, .inl (nF HW))), (hc1, .inl (cI, 20, .inl (nF HC))), (i0, .inr (3, [.int (nI 2), .ref il1, .ref is1, .ref iw1, .ref ic1])), (il1, .inl (cJ, 2 * 24, .inr (.inl (lF IL)))), (is1, .inl (cI, 2 * 24, .inl (nF IS))), (iw1, .inl (cI, 2 * 24, .inl (nF IW))), (ic1, .inl (cI, 2, .inl (nF IC))), (ik, .inl (cZ, 2, .inl (nF IK))), (it, .inl (cI, 2, .inl (nF IT)))] ss.heap := hP
  refine lv_iload_n hx hb dX5_told_0 rfl (lv_at hl 1 rfl) ?_
  refine lv_tableIn (tgt := 92) (off := 91) hx hb dX5_told_1 (by decide +kernel) (by decide +kernel) (by decide +kernel) (by decide) ?_
  refine lv_aload_n hx hb dX5_told_92 rfl (lv_at hl 0 rfl) ?_
  refine va_get (D := D) (ci := 5) (v := .ref b0) (C := RX5) (T := TX5) (N := 9) hx hb hts inX5 hown hK hP 0 rfl rfl 3 (by decide) (hts _ mf_X5_29) (fun _ h9 => h9) rfl dX5_told_93 ?_
  refine ro_V (As := []) (rest := []) ⟨hx, hb, hml, hown, hts⟩ (c_X0_depthsTogether l D cI cJ cZ b0 bb bd bm bl bf ba bk bg BB BD BM BL BF BA BK BG n (by omega) hBK) (k_X5_93 hts ⟨Nat.le_of_ble_eq_true rfl, Nat.le_of_ble_eq_true rfl⟩) hK hP 7 rfl rfl rfl [7, 8, 9, 10, 11, 12, 13, 14, 15] rfl rfl hl.1 rfl (Nat.le_of_ble_eq_true rfl) dX5_told_96 ⟨Nat.le_of_ble_eq_true rfl, Nat.le_of_ble_eq_true rfl⟩ ?_
  exact ro_iret hx hb hr hlk dX5_told_99 (rfl)
set_option maxHeartbeats 4000000 in
set_option maxRecDepth 100000 in
theorem c_X5_told_5 (l : Launch) (D : va_G) (cI cJ cZ : ClassId) (x0 w0 d0 k0 kl ks kw b0 bb bd bm bl bf ba bk bg p0 h0 hl1 hs1 hw1 hc1 i0 il1 is1 iw1 ic1 ik it : Nat) (A : Nat) (s : Nat) (dA : Nat) (dz : Nat) (KL : Nat → Nat) (KS : Nat → Nat) (KW : Nat → Nat) (n : Nat) (BB : Nat → Nat) (BD : Nat → Nat) (BM : Nat → Nat) (BL : Nat → Nat) (BF : Nat → Nat) (BA : Nat → Nat) (BK : Nat → Nat) (BG : Nat → Nat) (nx : Nat) (pz : Nat) (HL : Nat → Nat) (HS : Nat → Nat) (HW : Nat → Nat) (HC : Nat → Nat) (IL : Nat → Nat) (IS : Nat → Nat) (IW : Nat → Nat) (IC : Nat → Nat) (IK : Nat → Nat) (IT : Nat → Nat) (sd : Nat) (hn : n ≤ 24) (hw0 : Wf s A) (hk : ∀ k, k < n → Wf (KS k) (KL k)) (hv : ∀ k, k < n → KW k ≤ 9999) (hso : Srt KS KL n) (hTr : TrX (gapF KS KL) n BB BD BM BL BF BA BK) (hnx : nx < 20) (hpz : pz ≤ 20) (hsd : sd < 2 ^ 31)  : RO l yX5_told cX5_told 2 (some .int) (rmN 5 117) D (ty3 cI cJ cZ) [.ref x0, .int (nI 5)] [(x0, .inr (5, [.ref w0, .ref d0, .ref k0, .ref b0, .ref p0, .ref i0, .ref ik, .ref it, .int (nI sd)])), (w0, .inr (4, [.long (lN A), .int (nI s)])), (d0, .inr (4, [.long (lN dA), .int (nI dz)])), (k0, .inr (1, [.ref kl, .ref ks, .ref kw, .int (nI n)])), (kl, .inl (cJ, 24, .inr (.inl (lF KL)))), (ks, .inl (cI, 24, .inl (nF KS))), (kw, .inl (cI, 24, .inl (nF KW))), (b0, .inr (0, [.ref bb, .ref bd, .ref bm, .ref bl, .ref bf, .ref ba, .ref bk, .ref bg, .int (nI n)])), (bb, .inl (cI, 24, .inl (nF BB))), (bd, .inl (cI, 24, .inl (nF BD))), (bm, .inl (cI, 24, .inl (nF BM))), (bl, .inl (cI, 24, .inl (nF BL))), (bf, .inl (cI, 24, .inl (nF BF))), (ba, .inl (cI, 24, .inl (oF BA))), (bk, .inl (cI, 24, .inl (oF BK))), (bg, .inl (cI, 24, .inl (nF BG))), (p0, .inr (2, [.ref h0, .int (nI nx), .int (nI pz)])), (h0, .inr (3, [.int (nI 20), .ref hl1, .ref hs1, .ref hw1, .ref hc1])), (hl1, .inl (cJ, 20 * 24, .inr (.inl (lF HL)))), (hs1, .inl (cI, 20 * 24, .inl (nF HS))), (hw1, .inl (cI, 20 * 24, .inl (nF HW))), (hc1, .inl (cI, 20, .inl (nF HC))), (i0, .inr (3, [.int (nI 2), .ref il1, .ref is1, .ref iw1, .ref ic1])), (il1, .inl (cJ, 2 * 24, .inr (.inl (lF IL)))), (is1, .inl (cI, 2 * 24, .inl (nF IS))), (iw1, .inl (cI, 2 * 24, .inl (nF IW))), (ic1, .inl (cI, 2, .inl (nF IC))), (ik, .inl (cZ, 2, .inl (nF IK))), (it, .inl (cI, 2, .inl (nF IT)))] (.int (nI (fb_sm (fun i => KW (0 + i)) n))) := by
  have hs8 := hw0.1
  have hA64 := hw0.2.1
  have hBK := tf_BK hTr hn
  have hDK := tf_DK hTr hn
  have hB := tf_B hTr
  have hBF := tf_BF hTr hn
  have hT := tf_T hTr hso
  have hanc := tf_anc hTr hn
  have hp := plc_le KS KL n s A
  have hcb := cbl_le KS KL n s A
  have hfl := fnd_le KS KL n s A
  refine ro_start (by decide) (Nat.le_of_ble_eq_true rfl) ?_
  intro pp ee ss mm below meth cd C0 hP hK ls hl
  obtain ⟨hx, hb, hr, hml, hown, hts, hlk⟩ := C0
  have hown : ss.vm.findClass RX5 = some mm.cls := hown
  have hl : lv_has ls 2 [(0, .ref x0), (1, .int (nI 5))] := hl
  have hP : va_P D vwCl [(x0, .inr (5, [.ref w0, .ref d0, .ref k0, .ref b0, .ref p0, .ref i0, .ref ik, .ref it, .int (nI sd)])), (w0, .inr (4, [.long (lN A), .int (nI s)])), (d0, .inr (4, [.long (lN dA), .int (nI dz)])), (k0, .inr (1, [.ref kl, .ref ks, .ref kw, .int (nI n)])), (kl, .inl (cJ, 24, .inr (.inl (lF KL)))), (ks, .inl (cI, 24, .inl (nF KS))), (kw, .inl (cI, 24, .inl (nF KW))), (b0, .inr (0, [.ref bb, .ref bd, .ref bm, .ref bl, .ref bf, .ref ba, .ref bk, .ref bg, .int (nI n)])), (bb, .inl (cI, 24, .inl (nF BB))), (bd, .inl (cI, 24, .inl (nF BD))), (bm, .inl (cI, 24, .inl (nF BM))), (bl, .inl (cI, 24, .inl (nF BL))), (bf, .inl (cI, 24, .inl (nF BF))), (ba, .inl (cI, 24, .inl (oF BA))), (bk, .inl (cI, 24, .inl (oF BK))), (bg, .inl (cI, 24, .inl (nF BG))), (p0, .inr (2, [.ref h0, .int (nI nx), .int (nI pz)])), (h0, .inr (3, [.int (nI 20), .ref hl1, .ref hs1, .ref hw1, .ref hc1])), (hl1, .inl (cJ, 20 * 24, .inr (.inl (lF HL)))), (hs1, .inl (cI, 20 * 24, .inl (nF HS))), (hw1, .inl (cI, 20 * 24, .inl (nF HW))), (hc1, .inl (cI, 20, .inl (nF HC))), (i0, .inr (3, [.int (nI 2), .ref il1, .ref is1, .ref iw1, .ref ic1])), (il1, .inl (cJ, 2 * 24, .inr (.inl (lF IL)))), (is1, .inl (cI, 2 * 24, .inl (nF IS))), (iw1, .inl (cI, 2 * 24, .inl (nF IW))), (ic1, .inl (cI, 2, .inl (nF IC))), (ik, .inl (cZ, 2, .inl (nF IK))), (it, .inl (cI, 2, .inl (nF IT)))] ss.heap := hP
  refine lv_iload_n hx hb dX5_told_0 rfl (lv_at hl 1 rfl) ?_
  refine lv_tableIn (tgt := 100) (off := 99) hx hb dX5_told_1 (by decide +kernel) (by decide +kernel) (by decide +kernel) (by decide) ?_
  refine lv_aload_n hx hb dX5_told_100 rfl (lv_at hl 0 rfl) ?_
  refine va_get (D := D) (ci := 5) (v := .ref k0) (C := RX5) (T := TX5) (N := 9) hx hb hts inX5 hown hK hP 0 rfl rfl 2 (by decide) (hts _ mf_X5_22) (fun _ h9 => h9) rfl dX5_told_101 ?_
  refine lv_iconst (v := nI 0) hx hb dX5_told_104 (by decide +kernel) ?_
  refine lv_aload_n hx hb dX5_told_105 rfl (lv_at hl 0 rfl) ?_
  refine va_get (D := D) (ci := 5) (v := .ref k0) (C := RX5) (T := TX5) (N := 9) hx hb hts inX5 hown hK hP 0 rfl rfl 2 (by decide) (hts _ mf_X5_22) (fun _ h9 => h9) rfl dX5_told_106 ?_
  refine ro_V (As := []) (rest := [.int (nI 0), .ref k0]) ⟨hx, hb, hml, hown, hts⟩ (c_X1_count l D cI cJ cZ k0 kl ks kw KL KS KW n (by omega)) (k_X5_86 hts ⟨Nat.le_of_ble_eq_true rfl, Nat.le_of_ble_eq_true rfl⟩) hK hP 3 rfl rfl rfl [3, 4, 5, 6] rfl rfl hl.1 rfl (Nat.le_of_ble_eq_true rfl) dX5_told_109 ⟨Nat.le_of_ble_eq_true rfl, Nat.le_of_ble_eq_true rfl⟩ ?_
  refine ro_V (As := [.int (nI 0), .int (nI n)]) (rest := []) ⟨hx, hb, hml, hown, hts⟩ (c_X1_worthsOf l D cI cJ cZ k0 kl ks kw KL KS KW n (by omega) hv 0 n (by first | omega | exact cbl_le _ _ _ _ _)) (k_X5_96 hts ⟨Nat.le_of_ble_eq_true rfl, Nat.le_of_ble_eq_true rfl⟩) hK hP 3 rfl rfl rfl [3, 4, 5, 6] rfl rfl hl.1 rfl (Nat.le_of_ble_eq_true rfl) dX5_told_112 ⟨Nat.le_of_ble_eq_true rfl, Nat.le_of_ble_eq_true rfl⟩ ?_
  exact ro_iret hx hb hr hlk dX5_told_115 (rfl)
set_option maxHeartbeats 4000000 in
set_option maxRecDepth 100000 in
theorem c_X5_told_6 (l : Launch) (D : va_G) (cI cJ cZ : ClassId) (x0 w0 d0 k0 kl ks kw b0 bb bd bm bl bf ba bk bg p0 h0 hl1 hs1 hw1 hc1 i0 il1 is1 iw1 ic1 ik it : Nat) (A : Nat) (s : Nat) (dA : Nat) (dz : Nat) (KL : Nat → Nat) (KS : Nat → Nat) (KW : Nat → Nat) (n : Nat) (BB : Nat → Nat) (BD : Nat → Nat) (BM : Nat → Nat) (BL : Nat → Nat) (BF : Nat → Nat) (BA : Nat → Nat) (BK : Nat → Nat) (BG : Nat → Nat) (nx : Nat) (pz : Nat) (HL : Nat → Nat) (HS : Nat → Nat) (HW : Nat → Nat) (HC : Nat → Nat) (IL : Nat → Nat) (IS : Nat → Nat) (IW : Nat → Nat) (IC : Nat → Nat) (IK : Nat → Nat) (IT : Nat → Nat) (sd : Nat) (hn : n ≤ 24) (hw0 : Wf s A) (hk : ∀ k, k < n → Wf (KS k) (KL k)) (hv : ∀ k, k < n → KW k ≤ 9999) (hso : Srt KS KL n) (hTr : TrX (gapF KS KL) n BB BD BM BL BF BA BK) (hnx : nx < 20) (hpz : pz ≤ 20) (hsd : sd < 2 ^ 31)  : RO l yX5_told cX5_told 2 (some .int) (rmN 5 117) D (ty3 cI cJ cZ) [.ref x0, .int (nI 6)] [(x0, .inr (5, [.ref w0, .ref d0, .ref k0, .ref b0, .ref p0, .ref i0, .ref ik, .ref it, .int (nI sd)])), (w0, .inr (4, [.long (lN A), .int (nI s)])), (d0, .inr (4, [.long (lN dA), .int (nI dz)])), (k0, .inr (1, [.ref kl, .ref ks, .ref kw, .int (nI n)])), (kl, .inl (cJ, 24, .inr (.inl (lF KL)))), (ks, .inl (cI, 24, .inl (nF KS))), (kw, .inl (cI, 24, .inl (nF KW))), (b0, .inr (0, [.ref bb, .ref bd, .ref bm, .ref bl, .ref bf, .ref ba, .ref bk, .ref bg, .int (nI n)])), (bb, .inl (cI, 24, .inl (nF BB))), (bd, .inl (cI, 24, .inl (nF BD))), (bm, .inl (cI, 24, .inl (nF BM))), (bl, .inl (cI, 24, .inl (nF BL))), (bf, .inl (cI, 24, .inl (nF BF))), (ba, .inl (cI, 24, .inl (oF BA))), (bk, .inl (cI, 24, .inl (oF BK))), (bg, .inl (cI, 24, .inl (nF BG))), (p0, .inr (2, [.ref h0, .int (nI nx), .int (nI pz)])), (h0, .inr (3, [.int (nI 20), .ref hl1, .ref hs1, .ref hw1, .ref hc1])), (hl1, .inl (cJ, 20 * 24, .inr (.inl (lF HL)))), (hs1, .inl (cI, 20 * 24, .inl (nF HS))), (hw1, .inl (cI, 20 * 24, .inl (nF HW))), (hc1, .inl (cI, 20, .inl (nF HC))), (i0, .inr (3, [.int (nI 2), .ref il1, .ref is1, .ref iw1, .ref ic1])), (il1, .inl (cJ, 2 * 24, .inr (.inl (lF IL)))), (is1, .inl (cI, 2 * 24, .inl (nF IS))), (iw1, .inl (cI, 2 * 24, .inl (nF IW))), (ic1, .inl (cI, 2, .inl (nF IC))), (ik, .inl (cZ, 2, .inl (nF IK))), (it, .inl (cI, 2, .inl (nF IT)))] (.int (oI (if 1 < n then BB 0 + 1 else 0))) := by
  have hs8 := hw0.1
  have hA64 := hw0.2.1
  have hBK := tf_BK hTr hn
  have hDK := tf_DK hTr hn
  have hB := tf_B hTr
  have hBF := tf_BF hTr hn
  have hT := tf_T hTr hso
  have hanc := tf_anc hTr hn
  have hp := plc_le KS KL n s A
  have hcb := cbl_le KS KL n s A
  have hfl := fnd_le KS KL n s A
  refine ro_start (by decide) (Nat.le_of_ble_eq_true rfl) ?_
  intro pp ee ss mm below meth cd C0 hP hK ls hl
  obtain ⟨hx, hb, hr, hml, hown, hts, hlk⟩ := C0
  have hown : ss.vm.findClass RX5 = some mm.cls := hown
  have hl : lv_has ls 2 [(0, .ref x0), (1, .int (nI 6))] := hl
  have hP : va_P D vwCl [(x0, .inr (5, [.ref w0, .ref d0, .ref k0, .ref b0, .ref p0, .ref i0, .ref ik, .ref it, .int (nI sd)])), (w0, .inr (4, [.long (lN A), .int (nI s)])), (d0, .inr (4, [.long (lN dA), .int (nI dz)])), (k0, .inr (1, [.ref kl, .ref ks, .ref kw, .int (nI n)])), (kl, .inl (cJ, 24, .inr (.inl (lF KL)))), (ks, .inl (cI, 24, .inl (nF KS))), (kw, .inl (cI, 24, .inl (nF KW))), (b0, .inr (0, [.ref bb, .ref bd, .ref bm, .ref bl, .ref bf, .ref ba, .ref bk, .ref bg, .int (nI n)])), (bb, .inl (cI, 24, .inl (nF BB))), (bd, .inl (cI, 24, .inl (nF BD))), (bm, .inl (cI, 24, .inl (nF BM))), (bl, .inl (cI, 24, .inl (nF BL))), (bf, .inl (cI, 24, .inl (nF BF))), (ba, .inl (cI, 24, .inl (oF BA))), (bk, .inl (cI, 24, .inl (oF BK))), (bg, .inl (cI, 24, .inl (nF BG))), (p0, .inr (2, [.ref h0, .int (nI nx), .int (nI pz)])), (h0, .inr (3, [.int (nI 20), .ref hl1, .ref hs1, .ref hw1, .ref hc1])), (hl1, .inl (cJ, 20 * 24, .inr (.inl (lF HL)))), (hs1, .inl (cI, 20 * 24, .inl (nF HS))), (hw1, .inl (cI, 20 * 24, .inl (nF HW))), (hc1, .inl (cI, 20, .inl (nF HC))), (i0, .inr (3, [.int (nI 2), .ref il1, .ref is1, .ref iw1, .ref ic1])), (il1, .inl (cJ, 2 * 24, .inr (.inl (lF IL)))), (is1, .inl (cI, 2 * 24, .inl (nF IS))), (iw1, .inl (cI, 2 * 24, .inl (nF IW))), (ic1, .inl (cI, 2, .inl (nF IC))), (ik, .inl (cZ, 2, .inl (nF IK))), (it, .inl (cI, 2, .inl (nF IT)))] ss.heap := hP
  refine lv_iload_n hx hb dX5_told_0 rfl (lv_at hl 1 rfl) ?_
  refine lv_tableIn (tgt := 116) (off := 115) hx hb dX5_told_1 (by decide +kernel) (by decide +kernel) (by decide +kernel) (by decide) ?_
  refine lv_aload_n hx hb dX5_told_116 rfl (lv_at hl 0 rfl) ?_
  refine va_get (D := D) (ci := 5) (v := .ref b0) (C := RX5) (T := TX5) (N := 9) hx hb hts inX5 hown hK hP 0 rfl rfl 3 (by decide) (hts _ mf_X5_29) (fun _ h9 => h9) rfl dX5_told_117 ?_
  refine ro_V (As := []) (rest := []) ⟨hx, hb, hml, hown, hts⟩ (c_X0_topBit l D cI cJ cZ b0 bb bd bm bl bf ba bk bg BB BD BM BL BF BA BK BG n (by omega) ) (k_X5_100 hts ⟨Nat.le_of_ble_eq_true rfl, Nat.le_of_ble_eq_true rfl⟩) hK hP 7 rfl rfl rfl [7, 8, 9, 10, 11, 12, 13, 14, 15] rfl rfl hl.1 rfl (Nat.le_of_ble_eq_true rfl) dX5_told_120 ⟨Nat.le_of_ble_eq_true rfl, Nat.le_of_ble_eq_true rfl⟩ ?_
  exact ro_iret hx hb hr hlk dX5_told_123 (rfl)
set_option maxHeartbeats 4000000 in
set_option maxRecDepth 100000 in
theorem c_X5_told_7 (l : Launch) (D : va_G) (cI cJ cZ : ClassId) (x0 w0 d0 k0 kl ks kw b0 bb bd bm bl bf ba bk bg p0 h0 hl1 hs1 hw1 hc1 i0 il1 is1 iw1 ic1 ik it : Nat) (A : Nat) (s : Nat) (dA : Nat) (dz : Nat) (KL : Nat → Nat) (KS : Nat → Nat) (KW : Nat → Nat) (n : Nat) (BB : Nat → Nat) (BD : Nat → Nat) (BM : Nat → Nat) (BL : Nat → Nat) (BF : Nat → Nat) (BA : Nat → Nat) (BK : Nat → Nat) (BG : Nat → Nat) (nx : Nat) (pz : Nat) (HL : Nat → Nat) (HS : Nat → Nat) (HW : Nat → Nat) (HC : Nat → Nat) (IL : Nat → Nat) (IS : Nat → Nat) (IW : Nat → Nat) (IC : Nat → Nat) (IK : Nat → Nat) (IT : Nat → Nat) (sd : Nat) (hn : n ≤ 24) (hw0 : Wf s A) (hk : ∀ k, k < n → Wf (KS k) (KL k)) (hv : ∀ k, k < n → KW k ≤ 9999) (hso : Srt KS KL n) (hTr : TrX (gapF KS KL) n BB BD BM BL BF BA BK) (hnx : nx < 20) (hpz : pz ≤ 20) (hsd : sd < 2 ^ 31)  : RO l yX5_told cX5_told 2 (some .int) (rmN 5 117) D (ty3 cI cJ cZ) [.ref x0, .int (nI 7)] [(x0, .inr (5, [.ref w0, .ref d0, .ref k0, .ref b0, .ref p0, .ref i0, .ref ik, .ref it, .int (nI sd)])), (w0, .inr (4, [.long (lN A), .int (nI s)])), (d0, .inr (4, [.long (lN dA), .int (nI dz)])), (k0, .inr (1, [.ref kl, .ref ks, .ref kw, .int (nI n)])), (kl, .inl (cJ, 24, .inr (.inl (lF KL)))), (ks, .inl (cI, 24, .inl (nF KS))), (kw, .inl (cI, 24, .inl (nF KW))), (b0, .inr (0, [.ref bb, .ref bd, .ref bm, .ref bl, .ref bf, .ref ba, .ref bk, .ref bg, .int (nI n)])), (bb, .inl (cI, 24, .inl (nF BB))), (bd, .inl (cI, 24, .inl (nF BD))), (bm, .inl (cI, 24, .inl (nF BM))), (bl, .inl (cI, 24, .inl (nF BL))), (bf, .inl (cI, 24, .inl (nF BF))), (ba, .inl (cI, 24, .inl (oF BA))), (bk, .inl (cI, 24, .inl (oF BK))), (bg, .inl (cI, 24, .inl (nF BG))), (p0, .inr (2, [.ref h0, .int (nI nx), .int (nI pz)])), (h0, .inr (3, [.int (nI 20), .ref hl1, .ref hs1, .ref hw1, .ref hc1])), (hl1, .inl (cJ, 20 * 24, .inr (.inl (lF HL)))), (hs1, .inl (cI, 20 * 24, .inl (nF HS))), (hw1, .inl (cI, 20 * 24, .inl (nF HW))), (hc1, .inl (cI, 20, .inl (nF HC))), (i0, .inr (3, [.int (nI 2), .ref il1, .ref is1, .ref iw1, .ref ic1])), (il1, .inl (cJ, 2 * 24, .inr (.inl (lF IL)))), (is1, .inl (cI, 2 * 24, .inl (nF IS))), (iw1, .inl (cI, 2 * 24, .inl (nF IW))), (ic1, .inl (cI, 2, .inl (nF IC))), (ik, .inl (cZ, 2, .inl (nF IK))), (it, .inl (cI, 2, .inl (nF IT)))] (.int (oI (mxo BB (n - 1)))) := by
  have hs8 := hw0.1
  have hA64 := hw0.2.1
  have hBK := tf_BK hTr hn
  have hDK := tf_DK hTr hn
  have hB := tf_B hTr
  have hBF := tf_BF hTr hn
  have hT := tf_T hTr hso
  have hanc := tf_anc hTr hn
  have hp := plc_le KS KL n s A
  have hcb := cbl_le KS KL n s A
  have hfl := fnd_le KS KL n s A
  refine ro_start (by decide) (Nat.le_of_ble_eq_true rfl) ?_
  intro pp ee ss mm below meth cd C0 hP hK ls hl
  obtain ⟨hx, hb, hr, hml, hown, hts, hlk⟩ := C0
  have hown : ss.vm.findClass RX5 = some mm.cls := hown
  have hl : lv_has ls 2 [(0, .ref x0), (1, .int (nI 7))] := hl
  have hP : va_P D vwCl [(x0, .inr (5, [.ref w0, .ref d0, .ref k0, .ref b0, .ref p0, .ref i0, .ref ik, .ref it, .int (nI sd)])), (w0, .inr (4, [.long (lN A), .int (nI s)])), (d0, .inr (4, [.long (lN dA), .int (nI dz)])), (k0, .inr (1, [.ref kl, .ref ks, .ref kw, .int (nI n)])), (kl, .inl (cJ, 24, .inr (.inl (lF KL)))), (ks, .inl (cI, 24, .inl (nF KS))), (kw, .inl (cI, 24, .inl (nF KW))), (b0, .inr (0, [.ref bb, .ref bd, .ref bm, .ref bl, .ref bf, .ref ba, .ref bk, .ref bg, .int (nI n)])), (bb, .inl (cI, 24, .inl (nF BB))), (bd, .inl (cI, 24, .inl (nF BD))), (bm, .inl (cI, 24, .inl (nF BM))), (bl, .inl (cI, 24, .inl (nF BL))), (bf, .inl (cI, 24, .inl (nF BF))), (ba, .inl (cI, 24, .inl (oF BA))), (bk, .inl (cI, 24, .inl (oF BK))), (bg, .inl (cI, 24, .inl (nF BG))), (p0, .inr (2, [.ref h0, .int (nI nx), .int (nI pz)])), (h0, .inr (3, [.int (nI 20), .ref hl1, .ref hs1, .ref hw1, .ref hc1])), (hl1, .inl (cJ, 20 * 24, .inr (.inl (lF HL)))), (hs1, .inl (cI, 20 * 24, .inl (nF HS))), (hw1, .inl (cI, 20 * 24, .inl (nF HW))), (hc1, .inl (cI, 20, .inl (nF HC))), (i0, .inr (3, [.int (nI 2), .ref il1, .ref is1, .ref iw1, .ref ic1])), (il1, .inl (cJ, 2 * 24, .inr (.inl (lF IL)))), (is1, .inl (cI, 2 * 24, .inl (nF IS))), (iw1, .inl (cI, 2 * 24, .inl (nF IW))), (ic1, .inl (cI, 2, .inl (nF IC))), (ik, .inl (cZ, 2, .inl (nF IK))), (it, .inl (cI, 2, .inl (nF IT)))] ss.heap := hP
  refine lv_iload_n hx hb dX5_told_0 rfl (lv_at hl 1 rfl) ?_
  refine lv_tableIn (tgt := 124) (off := 123) hx hb dX5_told_1 (by decide +kernel) (by decide +kernel) (by decide +kernel) (by decide) ?_
  refine lv_aload_n hx hb dX5_told_124 rfl (lv_at hl 0 rfl) ?_
  refine va_get (D := D) (ci := 5) (v := .ref b0) (C := RX5) (T := TX5) (N := 9) hx hb hts inX5 hown hK hP 0 rfl rfl 3 (by decide) (hts _ mf_X5_29) (fun _ h9 => h9) rfl dX5_told_125 ?_
  refine ro_V (As := []) (rest := []) ⟨hx, hb, hml, hown, hts⟩ (c_X0_greatestBit l D cI cJ cZ b0 bb bd bm bl bf ba bk bg BB BD BM BL BF BA BK BG n (by omega) hB) (k_X5_103 hts ⟨Nat.le_of_ble_eq_true rfl, Nat.le_of_ble_eq_true rfl⟩) hK hP 7 rfl rfl rfl [7, 8, 9, 10, 11, 12, 13, 14, 15] rfl rfl hl.1 rfl (Nat.le_of_ble_eq_true rfl) dX5_told_128 ⟨Nat.le_of_ble_eq_true rfl, Nat.le_of_ble_eq_true rfl⟩ ?_
  exact ro_iret hx hb hr hlk dX5_told_131 (rfl)
set_option maxHeartbeats 4000000 in
set_option maxRecDepth 100000 in
theorem c_X5_told_8 (l : Launch) (D : va_G) (cI cJ cZ : ClassId) (x0 w0 d0 k0 kl ks kw b0 bb bd bm bl bf ba bk bg p0 h0 hl1 hs1 hw1 hc1 i0 il1 is1 iw1 ic1 ik it : Nat) (A : Nat) (s : Nat) (dA : Nat) (dz : Nat) (KL : Nat → Nat) (KS : Nat → Nat) (KW : Nat → Nat) (n : Nat) (BB : Nat → Nat) (BD : Nat → Nat) (BM : Nat → Nat) (BL : Nat → Nat) (BF : Nat → Nat) (BA : Nat → Nat) (BK : Nat → Nat) (BG : Nat → Nat) (nx : Nat) (pz : Nat) (HL : Nat → Nat) (HS : Nat → Nat) (HW : Nat → Nat) (HC : Nat → Nat) (IL : Nat → Nat) (IS : Nat → Nat) (IW : Nat → Nat) (IC : Nat → Nat) (IK : Nat → Nat) (IT : Nat → Nat) (sd : Nat) (hn : n ≤ 24) (hw0 : Wf s A) (hk : ∀ k, k < n → Wf (KS k) (KL k)) (hv : ∀ k, k < n → KW k ≤ 9999) (hso : Srt KS KL n) (hTr : TrX (gapF KS KL) n BB BD BM BL BF BA BK) (hnx : nx < 20) (hpz : pz ≤ 20) (hsd : sd < 2 ^ 31)  : RO l yX5_told cX5_told 2 (some .int) (rmN 5 117) D (ty3 cI cJ cZ) [.ref x0, .int (nI 8)] [(x0, .inr (5, [.ref w0, .ref d0, .ref k0, .ref b0, .ref p0, .ref i0, .ref ik, .ref it, .int (nI sd)])), (w0, .inr (4, [.long (lN A), .int (nI s)])), (d0, .inr (4, [.long (lN dA), .int (nI dz)])), (k0, .inr (1, [.ref kl, .ref ks, .ref kw, .int (nI n)])), (kl, .inl (cJ, 24, .inr (.inl (lF KL)))), (ks, .inl (cI, 24, .inl (nF KS))), (kw, .inl (cI, 24, .inl (nF KW))), (b0, .inr (0, [.ref bb, .ref bd, .ref bm, .ref bl, .ref bf, .ref ba, .ref bk, .ref bg, .int (nI n)])), (bb, .inl (cI, 24, .inl (nF BB))), (bd, .inl (cI, 24, .inl (nF BD))), (bm, .inl (cI, 24, .inl (nF BM))), (bl, .inl (cI, 24, .inl (nF BL))), (bf, .inl (cI, 24, .inl (nF BF))), (ba, .inl (cI, 24, .inl (oF BA))), (bk, .inl (cI, 24, .inl (oF BK))), (bg, .inl (cI, 24, .inl (nF BG))), (p0, .inr (2, [.ref h0, .int (nI nx), .int (nI pz)])), (h0, .inr (3, [.int (nI 20), .ref hl1, .ref hs1, .ref hw1, .ref hc1])), (hl1, .inl (cJ, 20 * 24, .inr (.inl (lF HL)))), (hs1, .inl (cI, 20 * 24, .inl (nF HS))), (hw1, .inl (cI, 20 * 24, .inl (nF HW))), (hc1, .inl (cI, 20, .inl (nF HC))), (i0, .inr (3, [.int (nI 2), .ref il1, .ref is1, .ref iw1, .ref ic1])), (il1, .inl (cJ, 2 * 24, .inr (.inl (lF IL)))), (is1, .inl (cI, 2 * 24, .inl (nF IS))), (iw1, .inl (cI, 2 * 24, .inl (nF IW))), (ic1, .inl (cI, 2, .inl (nF IC))), (ik, .inl (cZ, 2, .inl (nF IK))), (it, .inl (cI, 2, .inl (nF IT)))] (.int (nI (plc KS KL n s A))) := by
  have hs8 := hw0.1
  have hA64 := hw0.2.1
  have hBK := tf_BK hTr hn
  have hDK := tf_DK hTr hn
  have hB := tf_B hTr
  have hBF := tf_BF hTr hn
  have hT := tf_T hTr hso
  have hanc := tf_anc hTr hn
  have hp := plc_le KS KL n s A
  have hcb := cbl_le KS KL n s A
  have hfl := fnd_le KS KL n s A
  refine ro_start (by decide) (Nat.le_of_ble_eq_true rfl) ?_
  intro pp ee ss mm below meth cd C0 hP hK ls hl
  obtain ⟨hx, hb, hr, hml, hown, hts, hlk⟩ := C0
  have hown : ss.vm.findClass RX5 = some mm.cls := hown
  have hl : lv_has ls 2 [(0, .ref x0), (1, .int (nI 8))] := hl
  have hP : va_P D vwCl [(x0, .inr (5, [.ref w0, .ref d0, .ref k0, .ref b0, .ref p0, .ref i0, .ref ik, .ref it, .int (nI sd)])), (w0, .inr (4, [.long (lN A), .int (nI s)])), (d0, .inr (4, [.long (lN dA), .int (nI dz)])), (k0, .inr (1, [.ref kl, .ref ks, .ref kw, .int (nI n)])), (kl, .inl (cJ, 24, .inr (.inl (lF KL)))), (ks, .inl (cI, 24, .inl (nF KS))), (kw, .inl (cI, 24, .inl (nF KW))), (b0, .inr (0, [.ref bb, .ref bd, .ref bm, .ref bl, .ref bf, .ref ba, .ref bk, .ref bg, .int (nI n)])), (bb, .inl (cI, 24, .inl (nF BB))), (bd, .inl (cI, 24, .inl (nF BD))), (bm, .inl (cI, 24, .inl (nF BM))), (bl, .inl (cI, 24, .inl (nF BL))), (bf, .inl (cI, 24, .inl (nF BF))), (ba, .inl (cI, 24, .inl (oF BA))), (bk, .inl (cI, 24, .inl (oF BK))), (bg, .inl (cI, 24, .inl (nF BG))), (p0, .inr (2, [.ref h0, .int (nI nx), .int (nI pz)])), (h0, .inr (3, [.int (nI 20), .ref hl1, .ref hs1, .ref hw1, .ref hc1])), (hl1, .inl (cJ, 20 * 24, .inr (.inl (lF HL)))), (hs1, .inl (cI, 20 * 24, .inl (nF HS))), (hw1, .inl (cI, 20 * 24, .inl (nF HW))), (hc1, .inl (cI, 20, .inl (nF HC))), (i0, .inr (3, [.int (nI 2), .ref il1, .ref is1, .ref iw1, .ref ic1])), (il1, .inl (cJ, 2 * 24, .inr (.inl (lF IL)))), (is1, .inl (cI, 2 * 24, .inl (nF IS))), (iw1, .inl (cI, 2 * 24, .inl (nF IW))), (ic1, .inl (cI, 2, .inl (nF IC))), (ik, .inl (cZ, 2, .inl (nF IK))), (it, .inl (cI, 2, .inl (nF IT)))] ss.heap := hP
  refine lv_iload_n hx hb dX5_told_0 rfl (lv_at hl 1 rfl) ?_
  refine lv_tableIn (tgt := 132) (off := 131) hx hb dX5_told_1 (by decide +kernel) (by decide +kernel) (by decide +kernel) (by decide) ?_
  refine lv_aload_n hx hb dX5_told_132 rfl (lv_at hl 0 rfl) ?_
  refine va_get (D := D) (ci := 5) (v := .ref k0) (C := RX5) (T := TX5) (N := 9) hx hb hts inX5 hown hK hP 0 rfl rfl 2 (by decide) (hts _ mf_X5_22) (fun _ h9 => h9) rfl dX5_told_133 ?_
  refine lv_aload_n hx hb dX5_told_136 rfl (lv_at hl 0 rfl) ?_
  refine va_get (D := D) (ci := 5) (v := .ref w0) (C := RX5) (T := TX5) (N := 9) hx hb hts inX5 hown hK hP 0 rfl rfl 0 (by decide) (hts _ mf_X5_10) (fun _ h9 => h9) rfl dX5_told_137 ?_
  refine ro_V (As := [.ref w0]) (rest := []) ⟨hx, hb, hml, hown, hts⟩ (c_X1_placeOf l D cI cJ cZ k0 kl ks kw KL KS KW n (by omega) w0 A s hw0 hk) (k_X5_106 hts ⟨Nat.le_of_ble_eq_true rfl, Nat.le_of_ble_eq_true rfl⟩) hK hP 3 rfl rfl rfl [3, 4, 5, 6, 1] rfl rfl hl.1 rfl (Nat.le_of_ble_eq_true rfl) dX5_told_140 ⟨Nat.le_of_ble_eq_true rfl, Nat.le_of_ble_eq_true rfl⟩ ?_
  exact ro_iret hx hb hr hlk dX5_told_143 (rfl)
set_option maxHeartbeats 4000000 in
set_option maxRecDepth 100000 in
theorem c_X5_told_9 (l : Launch) (D : va_G) (cI cJ cZ : ClassId) (x0 w0 d0 k0 kl ks kw b0 bb bd bm bl bf ba bk bg p0 h0 hl1 hs1 hw1 hc1 i0 il1 is1 iw1 ic1 ik it : Nat) (A : Nat) (s : Nat) (dA : Nat) (dz : Nat) (KL : Nat → Nat) (KS : Nat → Nat) (KW : Nat → Nat) (n : Nat) (BB : Nat → Nat) (BD : Nat → Nat) (BM : Nat → Nat) (BL : Nat → Nat) (BF : Nat → Nat) (BA : Nat → Nat) (BK : Nat → Nat) (BG : Nat → Nat) (nx : Nat) (pz : Nat) (HL : Nat → Nat) (HS : Nat → Nat) (HW : Nat → Nat) (HC : Nat → Nat) (IL : Nat → Nat) (IS : Nat → Nat) (IW : Nat → Nat) (IC : Nat → Nat) (IK : Nat → Nat) (IT : Nat → Nat) (sd : Nat) (hn : n ≤ 24) (hw0 : Wf s A) (hk : ∀ k, k < n → Wf (KS k) (KL k)) (hv : ∀ k, k < n → KW k ≤ 9999) (hso : Srt KS KL n) (hTr : TrX (gapF KS KL) n BB BD BM BL BF BA BK) (hnx : nx < 20) (hpz : pz ≤ 20) (hsd : sd < 2 ^ 31)  : RO l yX5_told cX5_told 2 (some .int) (rmN 5 117) D (ty3 cI cJ cZ) [.ref x0, .int (nI 9)] [(x0, .inr (5, [.ref w0, .ref d0, .ref k0, .ref b0, .ref p0, .ref i0, .ref ik, .ref it, .int (nI sd)])), (w0, .inr (4, [.long (lN A), .int (nI s)])), (d0, .inr (4, [.long (lN dA), .int (nI dz)])), (k0, .inr (1, [.ref kl, .ref ks, .ref kw, .int (nI n)])), (kl, .inl (cJ, 24, .inr (.inl (lF KL)))), (ks, .inl (cI, 24, .inl (nF KS))), (kw, .inl (cI, 24, .inl (nF KW))), (b0, .inr (0, [.ref bb, .ref bd, .ref bm, .ref bl, .ref bf, .ref ba, .ref bk, .ref bg, .int (nI n)])), (bb, .inl (cI, 24, .inl (nF BB))), (bd, .inl (cI, 24, .inl (nF BD))), (bm, .inl (cI, 24, .inl (nF BM))), (bl, .inl (cI, 24, .inl (nF BL))), (bf, .inl (cI, 24, .inl (nF BF))), (ba, .inl (cI, 24, .inl (oF BA))), (bk, .inl (cI, 24, .inl (oF BK))), (bg, .inl (cI, 24, .inl (nF BG))), (p0, .inr (2, [.ref h0, .int (nI nx), .int (nI pz)])), (h0, .inr (3, [.int (nI 20), .ref hl1, .ref hs1, .ref hw1, .ref hc1])), (hl1, .inl (cJ, 20 * 24, .inr (.inl (lF HL)))), (hs1, .inl (cI, 20 * 24, .inl (nF HS))), (hw1, .inl (cI, 20 * 24, .inl (nF HW))), (hc1, .inl (cI, 20, .inl (nF HC))), (i0, .inr (3, [.int (nI 2), .ref il1, .ref is1, .ref iw1, .ref ic1])), (il1, .inl (cJ, 2 * 24, .inr (.inl (lF IL)))), (is1, .inl (cI, 2 * 24, .inl (nF IS))), (iw1, .inl (cI, 2 * 24, .inl (nF IW))), (ic1, .inl (cI, 2, .inl (nF IC))), (ik, .inl (cZ, 2, .inl (nF IK))), (it, .inl (cI, 2, .inl (nF IT)))] (.int (oI (fnd KS KL n s A))) := by
  have hs8 := hw0.1
  have hA64 := hw0.2.1
  have hBK := tf_BK hTr hn
  have hDK := tf_DK hTr hn
  have hB := tf_B hTr
  have hBF := tf_BF hTr hn
  have hT := tf_T hTr hso
  have hanc := tf_anc hTr hn
  have hp := plc_le KS KL n s A
  have hcb := cbl_le KS KL n s A
  have hfl := fnd_le KS KL n s A
  refine ro_start (by decide) (Nat.le_of_ble_eq_true rfl) ?_
  intro pp ee ss mm below meth cd C0 hP hK ls hl
  obtain ⟨hx, hb, hr, hml, hown, hts, hlk⟩ := C0
  have hown : ss.vm.findClass RX5 = some mm.cls := hown
  have hl : lv_has ls 2 [(0, .ref x0), (1, .int (nI 9))] := hl
  have hP : va_P D vwCl [(x0, .inr (5, [.ref w0, .ref d0, .ref k0, .ref b0, .ref p0, .ref i0, .ref ik, .ref it, .int (nI sd)])), (w0, .inr (4, [.long (lN A), .int (nI s)])), (d0, .inr (4, [.long (lN dA), .int (nI dz)])), (k0, .inr (1, [.ref kl, .ref ks, .ref kw, .int (nI n)])), (kl, .inl (cJ, 24, .inr (.inl (lF KL)))), (ks, .inl (cI, 24, .inl (nF KS))), (kw, .inl (cI, 24, .inl (nF KW))), (b0, .inr (0, [.ref bb, .ref bd, .ref bm, .ref bl, .ref bf, .ref ba, .ref bk, .ref bg, .int (nI n)])), (bb, .inl (cI, 24, .inl (nF BB))), (bd, .inl (cI, 24, .inl (nF BD))), (bm, .inl (cI, 24, .inl (nF BM))), (bl, .inl (cI, 24, .inl (nF BL))), (bf, .inl (cI, 24, .inl (nF BF))), (ba, .inl (cI, 24, .inl (oF BA))), (bk, .inl (cI, 24, .inl (oF BK))), (bg, .inl (cI, 24, .inl (nF BG))), (p0, .inr (2, [.ref h0, .int (nI nx), .int (nI pz)])), (h0, .inr (3, [.int (nI 20), .ref hl1, .ref hs1, .ref hw1, .ref hc1])), (hl1, .inl (cJ, 20 * 24, .inr (.inl (lF HL)))), (hs1, .inl (cI, 20 * 24, .inl (nF HS))), (hw1, .inl (cI, 20 * 24, .inl (nF HW))), (hc1, .inl (cI, 20, .inl (nF HC))), (i0, .inr (3, [.int (nI 2), .ref il1, .ref is1, .ref iw1, .ref ic1])), (il1, .inl (cJ, 2 * 24, .inr (.inl (lF IL)))), (is1, .inl (cI, 2 * 24, .inl (nF IS))), (iw1, .inl (cI, 2 * 24, .inl (nF IW))), (ic1, .inl (cI, 2, .inl (nF IC))), (ik, .inl (cZ, 2, .inl (nF IK))), (it, .inl (cI, 2, .inl (nF IT)))] ss.heap := hP
  refine lv_iload_n hx hb dX5_told_0 rfl (lv_at hl 1 rfl) ?_
  refine lv_tableIn (tgt := 144) (off := 143) hx hb dX5_told_1 (by decide +kernel) (by decide +kernel) (by decide +kernel) (by decide) ?_
  refine lv_aload_n hx hb dX5_told_144 rfl (lv_at hl 0 rfl) ?_
  refine va_get (D := D) (ci := 5) (v := .ref k0) (C := RX5) (T := TX5) (N := 9) hx hb hts inX5 hown hK hP 0 rfl rfl 2 (by decide) (hts _ mf_X5_22) (fun _ h9 => h9) rfl dX5_told_145 ?_
  refine lv_aload_n hx hb dX5_told_148 rfl (lv_at hl 0 rfl) ?_
  refine va_get (D := D) (ci := 5) (v := .ref w0) (C := RX5) (T := TX5) (N := 9) hx hb hts inX5 hown hK hP 0 rfl rfl 0 (by decide) (hts _ mf_X5_10) (fun _ h9 => h9) rfl dX5_told_149 ?_
  refine ro_V (As := [.ref w0]) (rest := []) ⟨hx, hb, hml, hown, hts⟩ (c_X1_find l D cI cJ cZ k0 kl ks kw KL KS KW n (by omega) w0 A s hw0 hk) (k_X5_110 hts ⟨Nat.le_of_ble_eq_true rfl, Nat.le_of_ble_eq_true rfl⟩) hK hP 3 rfl rfl rfl [3, 4, 5, 6, 1] rfl rfl hl.1 rfl (Nat.le_of_ble_eq_true rfl) dX5_told_152 ⟨Nat.le_of_ble_eq_true rfl, Nat.le_of_ble_eq_true rfl⟩ ?_
  exact ro_iret hx hb hr hlk dX5_told_155 (rfl)
set_option maxHeartbeats 4000000 in
set_option maxRecDepth 100000 in
theorem c_X5_told_10 (l : Launch) (D : va_G) (cI cJ cZ : ClassId) (x0 w0 d0 k0 kl ks kw b0 bb bd bm bl bf ba bk bg p0 h0 hl1 hs1 hw1 hc1 i0 il1 is1 iw1 ic1 ik it : Nat) (A : Nat) (s : Nat) (dA : Nat) (dz : Nat) (KL : Nat → Nat) (KS : Nat → Nat) (KW : Nat → Nat) (n : Nat) (BB : Nat → Nat) (BD : Nat → Nat) (BM : Nat → Nat) (BL : Nat → Nat) (BF : Nat → Nat) (BA : Nat → Nat) (BK : Nat → Nat) (BG : Nat → Nat) (nx : Nat) (pz : Nat) (HL : Nat → Nat) (HS : Nat → Nat) (HW : Nat → Nat) (HC : Nat → Nat) (IL : Nat → Nat) (IS : Nat → Nat) (IW : Nat → Nat) (IC : Nat → Nat) (IK : Nat → Nat) (IT : Nat → Nat) (sd : Nat) (hn : n ≤ 24) (hw0 : Wf s A) (hk : ∀ k, k < n → Wf (KS k) (KL k)) (hv : ∀ k, k < n → KW k ≤ 9999) (hso : Srt KS KL n) (hTr : TrX (gapF KS KL) n BB BD BM BL BF BA BK) (hnx : nx < 20) (hpz : pz ≤ 20) (hsd : sd < 2 ^ 31)  : RO l yX5_told cX5_told 2 (some .int) (rmN 5 117) D (ty3 cI cJ cZ) [.ref x0, .int (nI 10)] [(x0, .inr (5, [.ref w0, .ref d0, .ref k0, .ref b0, .ref p0, .ref i0, .ref ik, .ref it, .int (nI sd)])), (w0, .inr (4, [.long (lN A), .int (nI s)])), (d0, .inr (4, [.long (lN dA), .int (nI dz)])), (k0, .inr (1, [.ref kl, .ref ks, .ref kw, .int (nI n)])), (kl, .inl (cJ, 24, .inr (.inl (lF KL)))), (ks, .inl (cI, 24, .inl (nF KS))), (kw, .inl (cI, 24, .inl (nF KW))), (b0, .inr (0, [.ref bb, .ref bd, .ref bm, .ref bl, .ref bf, .ref ba, .ref bk, .ref bg, .int (nI n)])), (bb, .inl (cI, 24, .inl (nF BB))), (bd, .inl (cI, 24, .inl (nF BD))), (bm, .inl (cI, 24, .inl (nF BM))), (bl, .inl (cI, 24, .inl (nF BL))), (bf, .inl (cI, 24, .inl (nF BF))), (ba, .inl (cI, 24, .inl (oF BA))), (bk, .inl (cI, 24, .inl (oF BK))), (bg, .inl (cI, 24, .inl (nF BG))), (p0, .inr (2, [.ref h0, .int (nI nx), .int (nI pz)])), (h0, .inr (3, [.int (nI 20), .ref hl1, .ref hs1, .ref hw1, .ref hc1])), (hl1, .inl (cJ, 20 * 24, .inr (.inl (lF HL)))), (hs1, .inl (cI, 20 * 24, .inl (nF HS))), (hw1, .inl (cI, 20 * 24, .inl (nF HW))), (hc1, .inl (cI, 20, .inl (nF HC))), (i0, .inr (3, [.int (nI 2), .ref il1, .ref is1, .ref iw1, .ref ic1])), (il1, .inl (cJ, 2 * 24, .inr (.inl (lF IL)))), (is1, .inl (cI, 2 * 24, .inl (nF IS))), (iw1, .inl (cI, 2 * 24, .inl (nF IW))), (ic1, .inl (cI, 2, .inl (nF IC))), (ik, .inl (cZ, 2, .inl (nF IK))), (it, .inl (cI, 2, .inl (nF IT)))] (.int (nI pz)) := by
  have hs8 := hw0.1
  have hA64 := hw0.2.1
  have hBK := tf_BK hTr hn
  have hDK := tf_DK hTr hn
  have hB := tf_B hTr
  have hBF := tf_BF hTr hn
  have hT := tf_T hTr hso
  have hanc := tf_anc hTr hn
  have hp := plc_le KS KL n s A
  have hcb := cbl_le KS KL n s A
  have hfl := fnd_le KS KL n s A
  refine ro_start (by decide) (Nat.le_of_ble_eq_true rfl) ?_
  intro pp ee ss mm below meth cd C0 hP hK ls hl
  obtain ⟨hx, hb, hr, hml, hown, hts, hlk⟩ := C0
  have hown : ss.vm.findClass RX5 = some mm.cls := hown
  have hl : lv_has ls 2 [(0, .ref x0), (1, .int (nI 10))] := hl
  have hP : va_P D vwCl [(x0, .inr (5, [.ref w0, .ref d0, .ref k0, .ref b0, .ref p0, .ref i0, .ref ik, .ref it, .int (nI sd)])), (w0, .inr (4, [.long (lN A), .int (nI s)])), (d0, .inr (4, [.long (lN dA), .int (nI dz)])), (k0, .inr (1, [.ref kl, .ref ks, .ref kw, .int (nI n)])), (kl, .inl (cJ, 24, .inr (.inl (lF KL)))), (ks, .inl (cI, 24, .inl (nF KS))), (kw, .inl (cI, 24, .inl (nF KW))), (b0, .inr (0, [.ref bb, .ref bd, .ref bm, .ref bl, .ref bf, .ref ba, .ref bk, .ref bg, .int (nI n)])), (bb, .inl (cI, 24, .inl (nF BB))), (bd, .inl (cI, 24, .inl (nF BD))), (bm, .inl (cI, 24, .inl (nF BM))), (bl, .inl (cI, 24, .inl (nF BL))), (bf, .inl (cI, 24, .inl (nF BF))), (ba, .inl (cI, 24, .inl (oF BA))), (bk, .inl (cI, 24, .inl (oF BK))), (bg, .inl (cI, 24, .inl (nF BG))), (p0, .inr (2, [.ref h0, .int (nI nx), .int (nI pz)])), (h0, .inr (3, [.int (nI 20), .ref hl1, .ref hs1, .ref hw1, .ref hc1])), (hl1, .inl (cJ, 20 * 24, .inr (.inl (lF HL)))), (hs1, .inl (cI, 20 * 24, .inl (nF HS))), (hw1, .inl (cI, 20 * 24, .inl (nF HW))), (hc1, .inl (cI, 20, .inl (nF HC))), (i0, .inr (3, [.int (nI 2), .ref il1, .ref is1, .ref iw1, .ref ic1])), (il1, .inl (cJ, 2 * 24, .inr (.inl (lF IL)))), (is1, .inl (cI, 2 * 24, .inl (nF IS))), (iw1, .inl (cI, 2 * 24, .inl (nF IW))), (ic1, .inl (cI, 2, .inl (nF IC))), (ik, .inl (cZ, 2, .inl (nF IK))), (it, .inl (cI, 2, .inl (nF IT)))] ss.heap := hP
  refine lv_iload_n hx hb dX5_told_0 rfl (lv_at hl 1 rfl) ?_
  refine lv_tableIn (tgt := 156) (off := 155) hx hb dX5_told_1 (by decide +kernel) (by decide +kernel) (by decide +kernel) (by decide) ?_
  refine lv_aload_n hx hb dX5_told_156 rfl (lv_at hl 0 rfl) ?_
  refine va_get (D := D) (ci := 5) (v := .ref p0) (C := RX5) (T := TX5) (N := 9) hx hb hts inX5 hown hK hP 0 rfl rfl 4 (by decide) (hts _ mf_X5_36) (fun _ h9 => h9) rfl dX5_told_157 ?_
  refine ro_V (As := []) (rest := []) ⟨hx, hb, hml, hown, hts⟩ (c_X2_size l D cI cJ cZ p0 h0 nx pz) (k_X5_113 hts ⟨Nat.le_of_ble_eq_true rfl, Nat.le_of_ble_eq_true rfl⟩) hK hP 16 rfl rfl rfl [16] rfl rfl hl.1 rfl (Nat.le_of_ble_eq_true rfl) dX5_told_160 ⟨Nat.le_of_ble_eq_true rfl, Nat.le_of_ble_eq_true rfl⟩ ?_
  exact ro_iret hx hb hr hlk dX5_told_163 (rfl)
set_option maxHeartbeats 4000000 in
set_option maxRecDepth 100000 in
theorem c_X5_key_kneg (l : Launch) (D : va_G) (cI cJ cZ : ClassId) (x0 w0 d0 k0 kl ks kw b0 bb bd bm bl bf ba bk bg p0 h0 hl1 hs1 hw1 hc1 i0 il1 is1 iw1 ic1 ik it : Nat) (A : Nat) (s : Nat) (dA : Nat) (dz : Nat) (KL : Nat → Nat) (KS : Nat → Nat) (KW : Nat → Nat) (n : Nat) (BB : Nat → Nat) (BD : Nat → Nat) (BM : Nat → Nat) (BL : Nat → Nat) (BF : Nat → Nat) (BA : Nat → Nat) (BK : Nat → Nat) (BG : Nat → Nat) (nx : Nat) (pz : Nat) (HL : Nat → Nat) (HS : Nat → Nat) (HW : Nat → Nat) (HC : Nat → Nat) (IL : Nat → Nat) (IS : Nat → Nat) (IW : Nat → Nat) (IC : Nat → Nat) (IK : Nat → Nat) (IT : Nat → Nat) (sd : Nat) (hn : n ≤ 24) (hw0 : Wf s A) (hk : ∀ k, k < n → Wf (KS k) (KL k)) (hv : ∀ k, k < n → KW k ≤ 9999) (hso : Srt KS KL n) (hTr : TrX (gapF KS KL) n BB BD BM BL BF BA BK) (hnx : nx < 20) (hpz : pz ≤ 20) (hsd : sd < 2 ^ 31) (x y : Int32) (hx0 : x < 0) : RO l yX5_key cX5_key 3 (some .int) (rmN 5 109) D (ty3 cI cJ cZ) [.ref x0, .int x, .int y] [(x0, .inr (5, [.ref w0, .ref d0, .ref k0, .ref b0, .ref p0, .ref i0, .ref ik, .ref it, .int (nI sd)])), (w0, .inr (4, [.long (lN A), .int (nI s)])), (d0, .inr (4, [.long (lN dA), .int (nI dz)])), (k0, .inr (1, [.ref kl, .ref ks, .ref kw, .int (nI n)])), (kl, .inl (cJ, 24, .inr (.inl (lF KL)))), (ks, .inl (cI, 24, .inl (nF KS))), (kw, .inl (cI, 24, .inl (nF KW))), (b0, .inr (0, [.ref bb, .ref bd, .ref bm, .ref bl, .ref bf, .ref ba, .ref bk, .ref bg, .int (nI n)])), (bb, .inl (cI, 24, .inl (nF BB))), (bd, .inl (cI, 24, .inl (nF BD))), (bm, .inl (cI, 24, .inl (nF BM))), (bl, .inl (cI, 24, .inl (nF BL))), (bf, .inl (cI, 24, .inl (nF BF))), (ba, .inl (cI, 24, .inl (oF BA))), (bk, .inl (cI, 24, .inl (oF BK))), (bg, .inl (cI, 24, .inl (nF BG))), (p0, .inr (2, [.ref h0, .int (nI nx), .int (nI pz)])), (h0, .inr (3, [.int (nI 20), .ref hl1, .ref hs1, .ref hw1, .ref hc1])), (hl1, .inl (cJ, 20 * 24, .inr (.inl (lF HL)))), (hs1, .inl (cI, 20 * 24, .inl (nF HS))), (hw1, .inl (cI, 20 * 24, .inl (nF HW))), (hc1, .inl (cI, 20, .inl (nF HC))), (i0, .inr (3, [.int (nI 2), .ref il1, .ref is1, .ref iw1, .ref ic1])), (il1, .inl (cJ, 2 * 24, .inr (.inl (lF IL)))), (is1, .inl (cI, 2 * 24, .inl (nF IS))), (iw1, .inl (cI, 2 * 24, .inl (nF IW))), (ic1, .inl (cI, 2, .inl (nF IC))), (ik, .inl (cZ, 2, .inl (nF IK))), (it, .inl (cI, 2, .inl (nF IT)))] (.int (-1000000001)) := by
  have hs8 := hw0.1
  have hA64 := hw0.2.1
  have hBK := tf_BK hTr hn
  have hDK := tf_DK hTr hn
  have hB := tf_B hTr
  have hBF := tf_BF hTr hn
  have hT := tf_T hTr hso
  have hanc := tf_anc hTr hn
  have hp := plc_le KS KL n s A
  have hcb := cbl_le KS KL n s A
  have hfl := fnd_le KS KL n s A
  refine ro_start (by decide) (Nat.le_of_ble_eq_true rfl) ?_
  intro pp ee ss mm below meth cd C0 hP hK ls hl
  obtain ⟨hx, hb, hr, hml, hown, hts, hlk⟩ := C0
  have hown : ss.vm.findClass RX5 = some mm.cls := hown
  have hl : lv_has ls 3 [(0, .ref x0), (1, .int x), (2, .int y)] := hl
  have hP : va_P D vwCl [(x0, .inr (5, [.ref w0, .ref d0, .ref k0, .ref b0, .ref p0, .ref i0, .ref ik, .ref it, .int (nI sd)])), (w0, .inr (4, [.long (lN A), .int (nI s)])), (d0, .inr (4, [.long (lN dA), .int (nI dz)])), (k0, .inr (1, [.ref kl, .ref ks, .ref kw, .int (nI n)])), (kl, .inl (cJ, 24, .inr (.inl (lF KL)))), (ks, .inl (cI, 24, .inl (nF KS))), (kw, .inl (cI, 24, .inl (nF KW))), (b0, .inr (0, [.ref bb, .ref bd, .ref bm, .ref bl, .ref bf, .ref ba, .ref bk, .ref bg, .int (nI n)])), (bb, .inl (cI, 24, .inl (nF BB))), (bd, .inl (cI, 24, .inl (nF BD))), (bm, .inl (cI, 24, .inl (nF BM))), (bl, .inl (cI, 24, .inl (nF BL))), (bf, .inl (cI, 24, .inl (nF BF))), (ba, .inl (cI, 24, .inl (oF BA))), (bk, .inl (cI, 24, .inl (oF BK))), (bg, .inl (cI, 24, .inl (nF BG))), (p0, .inr (2, [.ref h0, .int (nI nx), .int (nI pz)])), (h0, .inr (3, [.int (nI 20), .ref hl1, .ref hs1, .ref hw1, .ref hc1])), (hl1, .inl (cJ, 20 * 24, .inr (.inl (lF HL)))), (hs1, .inl (cI, 20 * 24, .inl (nF HS))), (hw1, .inl (cI, 20 * 24, .inl (nF HW))), (hc1, .inl (cI, 20, .inl (nF HC))), (i0, .inr (3, [.int (nI 2), .ref il1, .ref is1, .ref iw1, .ref ic1])), (il1, .inl (cJ, 2 * 24, .inr (.inl (lF IL)))), (is1, .inl (cI, 2 * 24, .inl (nF IS))), (iw1, .inl (cI, 2 * 24, .inl (nF IW))), (ic1, .inl (cI, 2, .inl (nF IC))), (ik, .inl (cZ, 2, .inl (nF IK))), (it, .inl (cI, 2, .inl (nF IT)))] ss.heap := hP
  refine lv_aload_n hx hb dX5_key_0 rfl (lv_at hl 0 rfl) ?_
  refine va_get (D := D) (ci := 5) (v := .ref k0) (C := RX5) (T := TX5) (N := 9) hx hb hts inX5 hown hK hP 0 rfl rfl 2 (by decide) (hts _ mf_X5_22) (fun _ h9 => h9) rfl dX5_key_1 ?_
  refine lv_iload_n hx hb dX5_key_4 rfl (lv_at hl 1 rfl) ?_
  refine ro_V (As := [.int x]) (rest := []) ⟨hx, hb, hml, hown, hts⟩ (c_X1_has_neg l D cI cJ cZ k0 kl ks kw KL KS KW n (by omega) x hx0) (k_X5_69 hts ⟨Nat.le_of_ble_eq_true rfl, Nat.le_of_ble_eq_true rfl⟩) hK hP 3 rfl rfl rfl [3, 4, 5, 6] rfl rfl hl.1 rfl (Nat.le_of_ble_eq_true rfl) dX5_key_5 ⟨Nat.le_of_ble_eq_true rfl, Nat.le_of_ble_eq_true rfl⟩ ?_
  refine n_if_ne (tgt := 14) hx hb dX5_key_8 (by decide) (by decide) (fun h9 => absurd rfl h9) (fun _ => ?_)
  refine lv_ldc hx hb hown (hts _ mk_X5_73) dX5_key_11 ?_
  exact ro_iret hx hb hr hlk dX5_key_13 (rfl)
set_option maxHeartbeats 4000000 in
set_option maxRecDepth 100000 in
theorem c_X5_key_kout (l : Launch) (D : va_G) (cI cJ cZ : ClassId) (x0 w0 d0 k0 kl ks kw b0 bb bd bm bl bf ba bk bg p0 h0 hl1 hs1 hw1 hc1 i0 il1 is1 iw1 ic1 ik it : Nat) (A : Nat) (s : Nat) (dA : Nat) (dz : Nat) (KL : Nat → Nat) (KS : Nat → Nat) (KW : Nat → Nat) (n : Nat) (BB : Nat → Nat) (BD : Nat → Nat) (BM : Nat → Nat) (BL : Nat → Nat) (BF : Nat → Nat) (BA : Nat → Nat) (BK : Nat → Nat) (BG : Nat → Nat) (nx : Nat) (pz : Nat) (HL : Nat → Nat) (HS : Nat → Nat) (HW : Nat → Nat) (HC : Nat → Nat) (IL : Nat → Nat) (IS : Nat → Nat) (IW : Nat → Nat) (IC : Nat → Nat) (IK : Nat → Nat) (IT : Nat → Nat) (sd : Nat) (hn : n ≤ 24) (hw0 : Wf s A) (hk : ∀ k, k < n → Wf (KS k) (KL k)) (hv : ∀ k, k < n → KW k ≤ 9999) (hso : Srt KS KL n) (hTr : TrX (gapF KS KL) n BB BD BM BL BF BA BK) (hnx : nx < 20) (hpz : pz ≤ 20) (hsd : sd < 2 ^ 31) (j : Nat) (y : Int32) (hj : j < 2 ^ 31) (hjo : n ≤ j) : RO l yX5_key cX5_key 3 (some .int) (rmN 5 109) D (ty3 cI cJ cZ) [.ref x0, .int (nI j), .int y] [(x0, .inr (5, [.ref w0, .ref d0, .ref k0, .ref b0, .ref p0, .ref i0, .ref ik, .ref it, .int (nI sd)])), (w0, .inr (4, [.long (lN A), .int (nI s)])), (d0, .inr (4, [.long (lN dA), .int (nI dz)])), (k0, .inr (1, [.ref kl, .ref ks, .ref kw, .int (nI n)])), (kl, .inl (cJ, 24, .inr (.inl (lF KL)))), (ks, .inl (cI, 24, .inl (nF KS))), (kw, .inl (cI, 24, .inl (nF KW))), (b0, .inr (0, [.ref bb, .ref bd, .ref bm, .ref bl, .ref bf, .ref ba, .ref bk, .ref bg, .int (nI n)])), (bb, .inl (cI, 24, .inl (nF BB))), (bd, .inl (cI, 24, .inl (nF BD))), (bm, .inl (cI, 24, .inl (nF BM))), (bl, .inl (cI, 24, .inl (nF BL))), (bf, .inl (cI, 24, .inl (nF BF))), (ba, .inl (cI, 24, .inl (oF BA))), (bk, .inl (cI, 24, .inl (oF BK))), (bg, .inl (cI, 24, .inl (nF BG))), (p0, .inr (2, [.ref h0, .int (nI nx), .int (nI pz)])), (h0, .inr (3, [.int (nI 20), .ref hl1, .ref hs1, .ref hw1, .ref hc1])), (hl1, .inl (cJ, 20 * 24, .inr (.inl (lF HL)))), (hs1, .inl (cI, 20 * 24, .inl (nF HS))), (hw1, .inl (cI, 20 * 24, .inl (nF HW))), (hc1, .inl (cI, 20, .inl (nF HC))), (i0, .inr (3, [.int (nI 2), .ref il1, .ref is1, .ref iw1, .ref ic1])), (il1, .inl (cJ, 2 * 24, .inr (.inl (lF IL)))), (is1, .inl (cI, 2 * 24, .inl (nF IS))), (iw1, .inl (cI, 2 * 24, .inl (nF IW))), (ic1, .inl (cI, 2, .inl (nF IC))), (ik, .inl (cZ, 2, .inl (nF IK))), (it, .inl (cI, 2, .inl (nF IT)))] (.int (-1000000001)) := by
  have hs8 := hw0.1
  have hA64 := hw0.2.1
  have hBK := tf_BK hTr hn
  have hDK := tf_DK hTr hn
  have hB := tf_B hTr
  have hBF := tf_BF hTr hn
  have hT := tf_T hTr hso
  have hanc := tf_anc hTr hn
  have hp := plc_le KS KL n s A
  have hcb := cbl_le KS KL n s A
  have hfl := fnd_le KS KL n s A
  refine ro_start (by decide) (Nat.le_of_ble_eq_true rfl) ?_
  intro pp ee ss mm below meth cd C0 hP hK ls hl
  obtain ⟨hx, hb, hr, hml, hown, hts, hlk⟩ := C0
  have hown : ss.vm.findClass RX5 = some mm.cls := hown
  have hl : lv_has ls 3 [(0, .ref x0), (1, .int (nI j)), (2, .int y)] := hl
  have hP : va_P D vwCl [(x0, .inr (5, [.ref w0, .ref d0, .ref k0, .ref b0, .ref p0, .ref i0, .ref ik, .ref it, .int (nI sd)])), (w0, .inr (4, [.long (lN A), .int (nI s)])), (d0, .inr (4, [.long (lN dA), .int (nI dz)])), (k0, .inr (1, [.ref kl, .ref ks, .ref kw, .int (nI n)])), (kl, .inl (cJ, 24, .inr (.inl (lF KL)))), (ks, .inl (cI, 24, .inl (nF KS))), (kw, .inl (cI, 24, .inl (nF KW))), (b0, .inr (0, [.ref bb, .ref bd, .ref bm, .ref bl, .ref bf, .ref ba, .ref bk, .ref bg, .int (nI n)])), (bb, .inl (cI, 24, .inl (nF BB))), (bd, .inl (cI, 24, .inl (nF BD))), (bm, .inl (cI, 24, .inl (nF BM))), (bl, .inl (cI, 24, .inl (nF BL))), (bf, .inl (cI, 24, .inl (nF BF))), (ba, .inl (cI, 24, .inl (oF BA))), (bk, .inl (cI, 24, .inl (oF BK))), (bg, .inl (cI, 24, .inl (nF BG))), (p0, .inr (2, [.ref h0, .int (nI nx), .int (nI pz)])), (h0, .inr (3, [.int (nI 20), .ref hl1, .ref hs1, .ref hw1, .ref hc1])), (hl1, .inl (cJ, 20 * 24, .inr (.inl (lF HL)))), (hs1, .inl (cI, 20 * 24, .inl (nF HS))), (hw1, .inl (cI, 20 * 24, .inl (nF HW))), (hc1, .inl (cI, 20, .inl (nF HC))), (i0, .inr (3, [.int (nI 2), .ref il1, .ref is1, .ref iw1, .ref ic1])), (il1, .inl (cJ, 2 * 24, .inr (.inl (lF IL)))), (is1, .inl (cI, 2 * 24, .inl (nF IS))), (iw1, .inl (cI, 2 * 24, .inl (nF IW))), (ic1, .inl (cI, 2, .inl (nF IC))), (ik, .inl (cZ, 2, .inl (nF IK))), (it, .inl (cI, 2, .inl (nF IT)))] ss.heap := hP
  refine lv_aload_n hx hb dX5_key_0 rfl (lv_at hl 0 rfl) ?_
  refine va_get (D := D) (ci := 5) (v := .ref k0) (C := RX5) (T := TX5) (N := 9) hx hb hts inX5 hown hK hP 0 rfl rfl 2 (by decide) (hts _ mf_X5_22) (fun _ h9 => h9) rfl dX5_key_1 ?_
  refine lv_iload_n hx hb dX5_key_4 rfl (lv_at hl 1 rfl) ?_
  refine ro_V (As := [.int (nI j)]) (rest := []) ⟨hx, hb, hml, hown, hts⟩ (c_X1_has l D cI cJ cZ k0 kl ks kw KL KS KW n (by omega) j (by omega)) (k_X5_69 hts ⟨Nat.le_of_ble_eq_true rfl, Nat.le_of_ble_eq_true rfl⟩) hK hP 3 rfl rfl rfl [3, 4, 5, 6] rfl rfl hl.1 rfl (Nat.le_of_ble_eq_true rfl) dX5_key_5 ⟨Nat.le_of_ble_eq_true rfl, Nat.le_of_ble_eq_true rfl⟩ ?_
  refine b_if_ne (tgt := 14) hx hb dX5_key_8 (by decide) (fun c1 => ?_) (fun c1 => ?_)
  ·
    exact absurd c1 (by omega)
  ·
    refine lv_ldc hx hb hown (hts _ mk_X5_73) dX5_key_11 ?_
    exact ro_iret hx hb hr hlk dX5_key_13 (rfl)
set_option maxHeartbeats 4000000 in
set_option maxRecDepth 100000 in
theorem c_X5_key_neg (l : Launch) (D : va_G) (cI cJ cZ : ClassId) (x0 w0 d0 k0 kl ks kw b0 bb bd bm bl bf ba bk bg p0 h0 hl1 hs1 hw1 hc1 i0 il1 is1 iw1 ic1 ik it : Nat) (A : Nat) (s : Nat) (dA : Nat) (dz : Nat) (KL : Nat → Nat) (KS : Nat → Nat) (KW : Nat → Nat) (n : Nat) (BB : Nat → Nat) (BD : Nat → Nat) (BM : Nat → Nat) (BL : Nat → Nat) (BF : Nat → Nat) (BA : Nat → Nat) (BK : Nat → Nat) (BG : Nat → Nat) (nx : Nat) (pz : Nat) (HL : Nat → Nat) (HS : Nat → Nat) (HW : Nat → Nat) (HC : Nat → Nat) (IL : Nat → Nat) (IS : Nat → Nat) (IW : Nat → Nat) (IC : Nat → Nat) (IK : Nat → Nat) (IT : Nat → Nat) (sd : Nat) (hn : n ≤ 24) (hw0 : Wf s A) (hk : ∀ k, k < n → Wf (KS k) (KL k)) (hv : ∀ k, k < n → KW k ≤ 9999) (hso : Srt KS KL n) (hTr : TrX (gapF KS KL) n BB BD BM BL BF BA BK) (hnx : nx < 20) (hpz : pz ≤ 20) (hsd : sd < 2 ^ 31) (j : Nat) (hj : j < n) (y : Int32) (hy0 : y < 0) : RO l yX5_key cX5_key 3 (some .int) (rmN 5 109) D (ty3 cI cJ cZ) [.ref x0, .int (nI j), .int y] [(x0, .inr (5, [.ref w0, .ref d0, .ref k0, .ref b0, .ref p0, .ref i0, .ref ik, .ref it, .int (nI sd)])), (w0, .inr (4, [.long (lN A), .int (nI s)])), (d0, .inr (4, [.long (lN dA), .int (nI dz)])), (k0, .inr (1, [.ref kl, .ref ks, .ref kw, .int (nI n)])), (kl, .inl (cJ, 24, .inr (.inl (lF KL)))), (ks, .inl (cI, 24, .inl (nF KS))), (kw, .inl (cI, 24, .inl (nF KW))), (b0, .inr (0, [.ref bb, .ref bd, .ref bm, .ref bl, .ref bf, .ref ba, .ref bk, .ref bg, .int (nI n)])), (bb, .inl (cI, 24, .inl (nF BB))), (bd, .inl (cI, 24, .inl (nF BD))), (bm, .inl (cI, 24, .inl (nF BM))), (bl, .inl (cI, 24, .inl (nF BL))), (bf, .inl (cI, 24, .inl (nF BF))), (ba, .inl (cI, 24, .inl (oF BA))), (bk, .inl (cI, 24, .inl (oF BK))), (bg, .inl (cI, 24, .inl (nF BG))), (p0, .inr (2, [.ref h0, .int (nI nx), .int (nI pz)])), (h0, .inr (3, [.int (nI 20), .ref hl1, .ref hs1, .ref hw1, .ref hc1])), (hl1, .inl (cJ, 20 * 24, .inr (.inl (lF HL)))), (hs1, .inl (cI, 20 * 24, .inl (nF HS))), (hw1, .inl (cI, 20 * 24, .inl (nF HW))), (hc1, .inl (cI, 20, .inl (nF HC))), (i0, .inr (3, [.int (nI 2), .ref il1, .ref is1, .ref iw1, .ref ic1])), (il1, .inl (cJ, 2 * 24, .inr (.inl (lF IL)))), (is1, .inl (cI, 2 * 24, .inl (nF IS))), (iw1, .inl (cI, 2 * 24, .inl (nF IW))), (ic1, .inl (cI, 2, .inl (nF IC))), (ik, .inl (cZ, 2, .inl (nF IK))), (it, .inl (cI, 2, .inl (nF IT)))] (.int (-1000000002)) := by
  have hs8 := hw0.1
  have hA64 := hw0.2.1
  have hBK := tf_BK hTr hn
  have hDK := tf_DK hTr hn
  have hB := tf_B hTr
  have hBF := tf_BF hTr hn
  have hT := tf_T hTr hso
  have hanc := tf_anc hTr hn
  have hp := plc_le KS KL n s A
  have hcb := cbl_le KS KL n s A
  have hfl := fnd_le KS KL n s A
  refine ro_start (by decide) (Nat.le_of_ble_eq_true rfl) ?_
  intro pp ee ss mm below meth cd C0 hP hK ls hl
  obtain ⟨hx, hb, hr, hml, hown, hts, hlk⟩ := C0
  have hown : ss.vm.findClass RX5 = some mm.cls := hown
  have hl : lv_has ls 3 [(0, .ref x0), (1, .int (nI j)), (2, .int y)] := hl
  have hP : va_P D vwCl [(x0, .inr (5, [.ref w0, .ref d0, .ref k0, .ref b0, .ref p0, .ref i0, .ref ik, .ref it, .int (nI sd)])), (w0, .inr (4, [.long (lN A), .int (nI s)])), (d0, .inr (4, [.long (lN dA), .int (nI dz)])), (k0, .inr (1, [.ref kl, .ref ks, .ref kw, .int (nI n)])), (kl, .inl (cJ, 24, .inr (.inl (lF KL)))), (ks, .inl (cI, 24, .inl (nF KS))), (kw, .inl (cI, 24, .inl (nF KW))), (b0, .inr (0, [.ref bb, .ref bd, .ref bm, .ref bl, .ref bf, .ref ba, .ref bk, .ref bg, .int (nI n)])), (bb, .inl (cI, 24, .inl (nF BB))), (bd, .inl (cI, 24, .inl (nF BD))), (bm, .inl (cI, 24, .inl (nF BM))), (bl, .inl (cI, 24, .inl (nF BL))), (bf, .inl (cI, 24, .inl (nF BF))), (ba, .inl (cI, 24, .inl (oF BA))), (bk, .inl (cI, 24, .inl (oF BK))), (bg, .inl (cI, 24, .inl (nF BG))), (p0, .inr (2, [.ref h0, .int (nI nx), .int (nI pz)])), (h0, .inr (3, [.int (nI 20), .ref hl1, .ref hs1, .ref hw1, .ref hc1])), (hl1, .inl (cJ, 20 * 24, .inr (.inl (lF HL)))), (hs1, .inl (cI, 20 * 24, .inl (nF HS))), (hw1, .inl (cI, 20 * 24, .inl (nF HW))), (hc1, .inl (cI, 20, .inl (nF HC))), (i0, .inr (3, [.int (nI 2), .ref il1, .ref is1, .ref iw1, .ref ic1])), (il1, .inl (cJ, 2 * 24, .inr (.inl (lF IL)))), (is1, .inl (cI, 2 * 24, .inl (nF IS))), (iw1, .inl (cI, 2 * 24, .inl (nF IW))), (ic1, .inl (cI, 2, .inl (nF IC))), (ik, .inl (cZ, 2, .inl (nF IK))), (it, .inl (cI, 2, .inl (nF IT)))] ss.heap := hP
  refine lv_aload_n hx hb dX5_key_0 rfl (lv_at hl 0 rfl) ?_
  refine va_get (D := D) (ci := 5) (v := .ref k0) (C := RX5) (T := TX5) (N := 9) hx hb hts inX5 hown hK hP 0 rfl rfl 2 (by decide) (hts _ mf_X5_22) (fun _ h9 => h9) rfl dX5_key_1 ?_
  refine lv_iload_n hx hb dX5_key_4 rfl (lv_at hl 1 rfl) ?_
  refine ro_V (As := [.int (nI j)]) (rest := []) ⟨hx, hb, hml, hown, hts⟩ (c_X1_has l D cI cJ cZ k0 kl ks kw KL KS KW n (by omega) j (by omega)) (k_X5_69 hts ⟨Nat.le_of_ble_eq_true rfl, Nat.le_of_ble_eq_true rfl⟩) hK hP 3 rfl rfl rfl [3, 4, 5, 6] rfl rfl hl.1 rfl (Nat.le_of_ble_eq_true rfl) dX5_key_5 ⟨Nat.le_of_ble_eq_true rfl, Nat.le_of_ble_eq_true rfl⟩ ?_
  refine b_if_ne (tgt := 14) hx hb dX5_key_8 (by decide) (fun c1 => ?_) (fun c1 => ?_)
  ·
    refine lv_iload_n hx hb dX5_key_14 rfl (lv_at hl 2 rfl) ?_
    refine lv_if_lt (tgt := 53) hx hb dX5_key_15 (by decide) (fun c2 => ?_) (fun c2 => ?_)
    ·
      refine lv_iload_n hx hb dX5_key_53 rfl (lv_at hl 2 rfl) ?_
      refine lv_tableOut (tgt := 137) hx hb dX5_key_54 (Or.inl (tn_neg8 hy0)) (by decide) ?_
      refine lv_ldc hx hb hown (hts _ mk_X5_57) dX5_key_137 ?_
      exact ro_iret hx hb hr hlk dX5_key_139 (rfl)
    ·
      exact absurd hy0 c2
  ·
    exact absurd hj c1
set_option maxHeartbeats 4000000 in
set_option maxRecDepth 100000 in
theorem c_X5_key_let (l : Launch) (D : va_G) (cI cJ cZ : ClassId) (x0 w0 d0 k0 kl ks kw b0 bb bd bm bl bf ba bk bg p0 h0 hl1 hs1 hw1 hc1 i0 il1 is1 iw1 ic1 ik it : Nat) (A : Nat) (s : Nat) (dA : Nat) (dz : Nat) (KL : Nat → Nat) (KS : Nat → Nat) (KW : Nat → Nat) (n : Nat) (BB : Nat → Nat) (BD : Nat → Nat) (BM : Nat → Nat) (BL : Nat → Nat) (BF : Nat → Nat) (BA : Nat → Nat) (BK : Nat → Nat) (BG : Nat → Nat) (nx : Nat) (pz : Nat) (HL : Nat → Nat) (HS : Nat → Nat) (HW : Nat → Nat) (HC : Nat → Nat) (IL : Nat → Nat) (IS : Nat → Nat) (IW : Nat → Nat) (IC : Nat → Nat) (IK : Nat → Nat) (IT : Nat → Nat) (sd : Nat) (hn : n ≤ 24) (hw0 : Wf s A) (hk : ∀ k, k < n → Wf (KS k) (KL k)) (hv : ∀ k, k < n → KW k ≤ 9999) (hso : Srt KS KL n) (hTr : TrX (gapF KS KL) n BB BD BM BL BF BA BK) (hnx : nx < 20) (hpz : pz ≤ 20) (hsd : sd < 2 ^ 31) (j : Nat) (hj : j < n) (t : Nat) (ht8 : t < 8) (hts : t < KS j) : RO l yX5_key cX5_key 3 (some .int) (rmN 5 109) D (ty3 cI cJ cZ) [.ref x0, .int (nI j), .int (nI t)] [(x0, .inr (5, [.ref w0, .ref d0, .ref k0, .ref b0, .ref p0, .ref i0, .ref ik, .ref it, .int (nI sd)])), (w0, .inr (4, [.long (lN A), .int (nI s)])), (d0, .inr (4, [.long (lN dA), .int (nI dz)])), (k0, .inr (1, [.ref kl, .ref ks, .ref kw, .int (nI n)])), (kl, .inl (cJ, 24, .inr (.inl (lF KL)))), (ks, .inl (cI, 24, .inl (nF KS))), (kw, .inl (cI, 24, .inl (nF KW))), (b0, .inr (0, [.ref bb, .ref bd, .ref bm, .ref bl, .ref bf, .ref ba, .ref bk, .ref bg, .int (nI n)])), (bb, .inl (cI, 24, .inl (nF BB))), (bd, .inl (cI, 24, .inl (nF BD))), (bm, .inl (cI, 24, .inl (nF BM))), (bl, .inl (cI, 24, .inl (nF BL))), (bf, .inl (cI, 24, .inl (nF BF))), (ba, .inl (cI, 24, .inl (oF BA))), (bk, .inl (cI, 24, .inl (oF BK))), (bg, .inl (cI, 24, .inl (nF BG))), (p0, .inr (2, [.ref h0, .int (nI nx), .int (nI pz)])), (h0, .inr (3, [.int (nI 20), .ref hl1, .ref hs1, .ref hw1, .ref hc1])), (hl1, .inl (cJ, 20 * 24, .inr (.inl (lF HL)))), (hs1, .inl (cI, 20 * 24, .inl (nF HS))), (hw1, .inl (cI, 20 * 24, .inl (nF HW))), (hc1, .inl (cI, 20, .inl (nF HC))), (i0, .inr (3, [.int (nI 2), .ref il1, .ref is1, .ref iw1, .ref ic1])), (il1, .inl (cJ, 2 * 24, .inr (.inl (lF IL)))), (is1, .inl (cI, 2 * 24, .inl (nF IS))), (iw1, .inl (cI, 2 * 24, .inl (nF IW))), (ic1, .inl (cI, 2, .inl (nF IC))), (ik, .inl (cZ, 2, .inl (nF IK))), (it, .inl (cI, 2, .inl (nF IT)))] (.int (nI (letr (KL j) t))) := by
  have hs8 := hw0.1
  have hA64 := hw0.2.1
  have hBK := tf_BK hTr hn
  have hDK := tf_DK hTr hn
  have hB := tf_B hTr
  have hBF := tf_BF hTr hn
  have hT := tf_T hTr hso
  have hanc := tf_anc hTr hn
  have hp := plc_le KS KL n s A
  have hcb := cbl_le KS KL n s A
  have hfl := fnd_le KS KL n s A
  have hkj := hk j hj
  have hkj8 := hkj.1
  refine ro_start (by decide) (Nat.le_of_ble_eq_true rfl) ?_
  intro pp ee ss mm below meth cd C0 hP hK ls hl
  obtain ⟨hx, hb, hr, hml, hown, hts, hlk⟩ := C0
  have hown : ss.vm.findClass RX5 = some mm.cls := hown
  have hl : lv_has ls 3 [(0, .ref x0), (1, .int (nI j)), (2, .int (nI t))] := hl
  have hP : va_P D vwCl [(x0, .inr (5, [.ref w0, .ref d0, .ref k0, .ref b0, .ref p0, .ref i0, .ref ik, .ref it, .int (nI sd)])), (w0, .inr (4, [.long (lN A), .int (nI s)])), (d0, .inr (4, [.long (lN dA), .int (nI dz)])), (k0, .inr (1, [.ref kl, .ref ks, .ref kw, .int (nI n)])), (kl, .inl (cJ, 24, .inr (.inl (lF KL)))), (ks, .inl (cI, 24, .inl (nF KS))), (kw, .inl (cI, 24, .inl (nF KW))), (b0, .inr (0, [.ref bb, .ref bd, .ref bm, .ref bl, .ref bf, .ref ba, .ref bk, .ref bg, .int (nI n)])), (bb, .inl (cI, 24, .inl (nF BB))), (bd, .inl (cI, 24, .inl (nF BD))), (bm, .inl (cI, 24, .inl (nF BM))), (bl, .inl (cI, 24, .inl (nF BL))), (bf, .inl (cI, 24, .inl (nF BF))), (ba, .inl (cI, 24, .inl (oF BA))), (bk, .inl (cI, 24, .inl (oF BK))), (bg, .inl (cI, 24, .inl (nF BG))), (p0, .inr (2, [.ref h0, .int (nI nx), .int (nI pz)])), (h0, .inr (3, [.int (nI 20), .ref hl1, .ref hs1, .ref hw1, .ref hc1])), (hl1, .inl (cJ, 20 * 24, .inr (.inl (lF HL)))), (hs1, .inl (cI, 20 * 24, .inl (nF HS))), (hw1, .inl (cI, 20 * 24, .inl (nF HW))), (hc1, .inl (cI, 20, .inl (nF HC))), (i0, .inr (3, [.int (nI 2), .ref il1, .ref is1, .ref iw1, .ref ic1])), (il1, .inl (cJ, 2 * 24, .inr (.inl (lF IL)))), (is1, .inl (cI, 2 * 24, .inl (nF IS))), (iw1, .inl (cI, 2 * 24, .inl (nF IW))), (ic1, .inl (cI, 2, .inl (nF IC))), (ik, .inl (cZ, 2, .inl (nF IK))), (it, .inl (cI, 2, .inl (nF IT)))] ss.heap := hP
  refine lv_aload_n hx hb dX5_key_0 rfl (lv_at hl 0 rfl) ?_
  refine va_get (D := D) (ci := 5) (v := .ref k0) (C := RX5) (T := TX5) (N := 9) hx hb hts inX5 hown hK hP 0 rfl rfl 2 (by decide) (hts _ mf_X5_22) (fun _ h9 => h9) rfl dX5_key_1 ?_
  refine lv_iload_n hx hb dX5_key_4 rfl (lv_at hl 1 rfl) ?_
  refine ro_V (As := [.int (nI j)]) (rest := []) ⟨hx, hb, hml, hown, hts⟩ (c_X1_has l D cI cJ cZ k0 kl ks kw KL KS KW n (by omega) j (by omega)) (k_X5_69 hts ⟨Nat.le_of_ble_eq_true rfl, Nat.le_of_ble_eq_true rfl⟩) hK hP 3 rfl rfl rfl [3, 4, 5, 6] rfl rfl hl.1 rfl (Nat.le_of_ble_eq_true rfl) dX5_key_5 ⟨Nat.le_of_ble_eq_true rfl, Nat.le_of_ble_eq_true rfl⟩ ?_
  refine b_if_ne (tgt := 14) hx hb dX5_key_8 (by decide) (fun c1 => ?_) (fun c1 => ?_)
  ·
    refine lv_iload_n hx hb dX5_key_14 rfl (lv_at hl 2 rfl) ?_
    refine n_if_lt (tgt := 53) hx hb dX5_key_15 (by decide) (by omega) ?_
    refine lv_iload_n hx hb dX5_key_18 rfl (lv_at hl 2 rfl) ?_
    refine lv_bipush (v := nI 8) hx hb dX5_key_19 (by decide +kernel) ?_
    refine n_ge (tgt := 53) hx hb dX5_key_21 (by decide) (by omega) (by omega) (fun c3 => ?_) (fun c3 => ?_)
    ·
      exact absurd c3 (by omega)
    ·
      refine lv_iload_n hx hb dX5_key_24 rfl (lv_at hl 2 rfl) ?_
      refine lv_aload_n hx hb dX5_key_25 rfl (lv_at hl 0 rfl) ?_
      refine va_get (D := D) (ci := 5) (v := .ref k0) (C := RX5) (T := TX5) (N := 9) hx hb hts inX5 hown hK hP 0 rfl rfl 2 (by decide) (hts _ mf_X5_22) (fun _ h9 => h9) rfl dX5_key_26 ?_
      refine lv_iload_n hx hb dX5_key_29 rfl (lv_at hl 1 rfl) ?_
      refine ro_V (As := [.int (nI j)]) (rest := [.int (nI t)]) ⟨hx, hb, hml, hown, hts⟩ (c_X1_sizeOf l D cI cJ cZ k0 kl ks kw KL KS KW n (by omega) j (by omega)) (k_X5_78 hts ⟨Nat.le_of_ble_eq_true rfl, Nat.le_of_ble_eq_true rfl⟩) hK hP 3 rfl rfl rfl [3, 4, 5, 6] rfl rfl hl.1 rfl (Nat.le_of_ble_eq_true rfl) dX5_key_30 ⟨Nat.le_of_ble_eq_true rfl, Nat.le_of_ble_eq_true rfl⟩ ?_
      refine n_ge (tgt := 51) hx hb dX5_key_33 (by decide) (by omega) (by omega) (fun c4 => ?_) (fun c4 => ?_)
      ·
        exact absurd c4 (by omega)
      ·
        refine lv_aload_n hx hb dX5_key_36 rfl (lv_at hl 0 rfl) ?_
        refine va_get (D := D) (ci := 5) (v := .ref k0) (C := RX5) (T := TX5) (N := 9) hx hb hts inX5 hown hK hP 0 rfl rfl 2 (by decide) (hts _ mf_X5_22) (fun _ h9 => h9) rfl dX5_key_37 ?_
        refine lv_iload_n hx hb dX5_key_40 rfl (lv_at hl 1 rfl) ?_
        refine ro_V (As := [.int (nI j)]) (rest := []) ⟨hx, hb, hml, hown, hts⟩ (c_X1_lettersOf l D cI cJ cZ k0 kl ks kw KL KS KW n (by omega) j (by omega)) (k_X5_74 hts ⟨Nat.le_of_ble_eq_true rfl, Nat.le_of_ble_eq_true rfl⟩) hK hP 3 rfl rfl rfl [3, 4, 5, 6] rfl rfl hl.1 rfl (Nat.le_of_ble_eq_true rfl) dX5_key_41 ⟨Nat.le_of_ble_eq_true rfl, Nat.le_of_ble_eq_true rfl⟩ ?_
        refine lv_iload_n hx hb dX5_key_44 rfl (lv_at hl 2 rfl) ?_
        refine ro_S (As := [.long (lN (KL j)), .int (nI t)]) (rest := []) ⟨hx, hb, hml, hown, hts⟩ (c_X4_letterOf l D cI cJ cZ (KL j) t hkj.2.1 (by omega)) (k_X5_114 hts ⟨Nat.le_of_ble_eq_true rfl, Nat.le_of_ble_eq_true rfl⟩) hK hP [] rfl rfl hl.1 rfl (Nat.le_of_ble_eq_true rfl) dX5_key_45 ⟨Nat.le_of_ble_eq_true rfl, Nat.le_of_ble_eq_true rfl⟩ ?_
        refine lv_goto (tgt := 52) hx hb dX5_key_48 (by decide) ?_
        exact ro_iret hx hb hr hlk dX5_key_52 (rfl)
  ·
    exact absurd hj c1
set_option maxHeartbeats 4000000 in
set_option maxRecDepth 100000 in
theorem c_X5_key_nolet (l : Launch) (D : va_G) (cI cJ cZ : ClassId) (x0 w0 d0 k0 kl ks kw b0 bb bd bm bl bf ba bk bg p0 h0 hl1 hs1 hw1 hc1 i0 il1 is1 iw1 ic1 ik it : Nat) (A : Nat) (s : Nat) (dA : Nat) (dz : Nat) (KL : Nat → Nat) (KS : Nat → Nat) (KW : Nat → Nat) (n : Nat) (BB : Nat → Nat) (BD : Nat → Nat) (BM : Nat → Nat) (BL : Nat → Nat) (BF : Nat → Nat) (BA : Nat → Nat) (BK : Nat → Nat) (BG : Nat → Nat) (nx : Nat) (pz : Nat) (HL : Nat → Nat) (HS : Nat → Nat) (HW : Nat → Nat) (HC : Nat → Nat) (IL : Nat → Nat) (IS : Nat → Nat) (IW : Nat → Nat) (IC : Nat → Nat) (IK : Nat → Nat) (IT : Nat → Nat) (sd : Nat) (hn : n ≤ 24) (hw0 : Wf s A) (hk : ∀ k, k < n → Wf (KS k) (KL k)) (hv : ∀ k, k < n → KW k ≤ 9999) (hso : Srt KS KL n) (hTr : TrX (gapF KS KL) n BB BD BM BL BF BA BK) (hnx : nx < 20) (hpz : pz ≤ 20) (hsd : sd < 2 ^ 31) (j : Nat) (hj : j < n) (t : Nat) (ht8 : t < 8) (hts : ¬ t < KS j) : RO l yX5_key cX5_key 3 (some .int) (rmN 5 109) D (ty3 cI cJ cZ) [.ref x0, .int (nI j), .int (nI t)] [(x0, .inr (5, [.ref w0, .ref d0, .ref k0, .ref b0, .ref p0, .ref i0, .ref ik, .ref it, .int (nI sd)])), (w0, .inr (4, [.long (lN A), .int (nI s)])), (d0, .inr (4, [.long (lN dA), .int (nI dz)])), (k0, .inr (1, [.ref kl, .ref ks, .ref kw, .int (nI n)])), (kl, .inl (cJ, 24, .inr (.inl (lF KL)))), (ks, .inl (cI, 24, .inl (nF KS))), (kw, .inl (cI, 24, .inl (nF KW))), (b0, .inr (0, [.ref bb, .ref bd, .ref bm, .ref bl, .ref bf, .ref ba, .ref bk, .ref bg, .int (nI n)])), (bb, .inl (cI, 24, .inl (nF BB))), (bd, .inl (cI, 24, .inl (nF BD))), (bm, .inl (cI, 24, .inl (nF BM))), (bl, .inl (cI, 24, .inl (nF BL))), (bf, .inl (cI, 24, .inl (nF BF))), (ba, .inl (cI, 24, .inl (oF BA))), (bk, .inl (cI, 24, .inl (oF BK))), (bg, .inl (cI, 24, .inl (nF BG))), (p0, .inr (2, [.ref h0, .int (nI nx), .int (nI pz)])), (h0, .inr (3, [.int (nI 20), .ref hl1, .ref hs1, .ref hw1, .ref hc1])), (hl1, .inl (cJ, 20 * 24, .inr (.inl (lF HL)))), (hs1, .inl (cI, 20 * 24, .inl (nF HS))), (hw1, .inl (cI, 20 * 24, .inl (nF HW))), (hc1, .inl (cI, 20, .inl (nF HC))), (i0, .inr (3, [.int (nI 2), .ref il1, .ref is1, .ref iw1, .ref ic1])), (il1, .inl (cJ, 2 * 24, .inr (.inl (lF IL)))), (is1, .inl (cI, 2 * 24, .inl (nF IS))), (iw1, .inl (cI, 2 * 24, .inl (nF IW))), (ic1, .inl (cI, 2, .inl (nF IC))), (ik, .inl (cZ, 2, .inl (nF IK))), (it, .inl (cI, 2, .inl (nF IT)))] (.int (oI 0)) := by
  have hs8 := hw0.1
  have hA64 := hw0.2.1
  have hBK := tf_BK hTr hn
  have hDK := tf_DK hTr hn
  have hB := tf_B hTr
  have hBF := tf_BF hTr hn
  have hT := tf_T hTr hso
  have hanc := tf_anc hTr hn
  have hp := plc_le KS KL n s A
  have hcb := cbl_le KS KL n s A
  have hfl := fnd_le KS KL n s A
  have hkj8 := (hk j hj).1
  refine ro_start (by decide) (Nat.le_of_ble_eq_true rfl) ?_
  intro pp ee ss mm below meth cd C0 hP hK ls hl
  obtain ⟨hx, hb, hr, hml, hown, hts, hlk⟩ := C0
  have hown : ss.vm.findClass RX5 = some mm.cls := hown
  have hl : lv_has ls 3 [(0, .ref x0), (1, .int (nI j)), (2, .int (nI t))] := hl
  have hP : va_P D vwCl [(x0, .inr (5, [.ref w0, .ref d0, .ref k0, .ref b0, .ref p0, .ref i0, .ref ik, .ref it, .int (nI sd)])), (w0, .inr (4, [.long (lN A), .int (nI s)])), (d0, .inr (4, [.long (lN dA), .int (nI dz)])), (k0, .inr (1, [.ref kl, .ref ks, .ref kw, .int (nI n)])), (kl, .inl (cJ, 24, .inr (.inl (lF KL)))), (ks, .inl (cI, 24, .inl (nF KS))), (kw, .inl (cI, 24, .inl (nF KW))), (b0, .inr (0, [.ref bb, .ref bd, .ref bm, .ref bl, .ref bf, .ref ba, .ref bk, .ref bg, .int (nI n)])), (bb, .inl (cI, 24, .inl (nF BB))), (bd, .inl (cI, 24, .inl (nF BD))), (bm, .inl (cI, 24, .inl (nF BM))), (bl, .inl (cI, 24, .inl (nF BL))), (bf, .inl (cI, 24, .inl (nF BF))), (ba, .inl (cI, 24, .inl (oF BA))), (bk, .inl (cI, 24, .inl (oF BK))), (bg, .inl (cI, 24, .inl (nF BG))), (p0, .inr (2, [.ref h0, .int (nI nx), .int (nI pz)])), (h0, .inr (3, [.int (nI 20), .ref hl1, .ref hs1, .ref hw1, .ref hc1])), (hl1, .inl (cJ, 20 * 24, .inr (.inl (lF HL)))), (hs1, .inl (cI, 20 * 24, .inl (nF HS))), (hw1, .inl (cI, 20 * 24, .inl (nF HW))), (hc1, .inl (cI, 20, .inl (nF HC))), (i0, .inr (3, [.int (nI 2), .ref il1, .ref is1, .ref iw1, .ref ic1])), (il1, .inl (cJ, 2 * 24, .inr (.inl (lF IL)))), (is1, .inl (cI, 2 * 24, .inl (nF IS))), (iw1, .inl (cI, 2 * 24, .inl (nF IW))), (ic1, .inl (cI, 2, .inl (nF IC))), (ik, .inl (cZ, 2, .inl (nF IK))), (it, .inl (cI, 2, .inl (nF IT)))] ss.heap := hP
  refine lv_aload_n hx hb dX5_key_0 rfl (lv_at hl 0 rfl) ?_
  refine va_get (D := D) (ci := 5) (v := .ref k0) (C := RX5) (T := TX5) (N := 9) hx hb hts inX5 hown hK hP 0 rfl rfl 2 (by decide) (hts _ mf_X5_22) (fun _ h9 => h9) rfl dX5_key_1 ?_
  refine lv_iload_n hx hb dX5_key_4 rfl (lv_at hl 1 rfl) ?_
  refine ro_V (As := [.int (nI j)]) (rest := []) ⟨hx, hb, hml, hown, hts⟩ (c_X1_has l D cI cJ cZ k0 kl ks kw KL KS KW n (by omega) j (by omega)) (k_X5_69 hts ⟨Nat.le_of_ble_eq_true rfl, Nat.le_of_ble_eq_true rfl⟩) hK hP 3 rfl rfl rfl [3, 4, 5, 6] rfl rfl hl.1 rfl (Nat.le_of_ble_eq_true rfl) dX5_key_5 ⟨Nat.le_of_ble_eq_true rfl, Nat.le_of_ble_eq_true rfl⟩ ?_
  refine b_if_ne (tgt := 14) hx hb dX5_key_8 (by decide) (fun c1 => ?_) (fun c1 => ?_)
  ·
    refine lv_iload_n hx hb dX5_key_14 rfl (lv_at hl 2 rfl) ?_
    refine n_if_lt (tgt := 53) hx hb dX5_key_15 (by decide) (by omega) ?_
    refine lv_iload_n hx hb dX5_key_18 rfl (lv_at hl 2 rfl) ?_
    refine lv_bipush (v := nI 8) hx hb dX5_key_19 (by decide +kernel) ?_
    refine n_ge (tgt := 53) hx hb dX5_key_21 (by decide) (by omega) (by omega) (fun c3 => ?_) (fun c3 => ?_)
    ·
      exact absurd c3 (by omega)
    ·
      refine lv_iload_n hx hb dX5_key_24 rfl (lv_at hl 2 rfl) ?_
      refine lv_aload_n hx hb dX5_key_25 rfl (lv_at hl 0 rfl) ?_
      refine va_get (D := D) (ci := 5) (v := .ref k0) (C := RX5) (T := TX5) (N := 9) hx hb hts inX5 hown hK hP 0 rfl rfl 2 (by decide) (hts _ mf_X5_22) (fun _ h9 => h9) rfl dX5_key_26 ?_
      refine lv_iload_n hx hb dX5_key_29 rfl (lv_at hl 1 rfl) ?_
      refine ro_V (As := [.int (nI j)]) (rest := [.int (nI t)]) ⟨hx, hb, hml, hown, hts⟩ (c_X1_sizeOf l D cI cJ cZ k0 kl ks kw KL KS KW n (by omega) j (by omega)) (k_X5_78 hts ⟨Nat.le_of_ble_eq_true rfl, Nat.le_of_ble_eq_true rfl⟩) hK hP 3 rfl rfl rfl [3, 4, 5, 6] rfl rfl hl.1 rfl (Nat.le_of_ble_eq_true rfl) dX5_key_30 ⟨Nat.le_of_ble_eq_true rfl, Nat.le_of_ble_eq_true rfl⟩ ?_
      refine n_ge (tgt := 51) hx hb dX5_key_33 (by decide) (by omega) (by omega) (fun c4 => ?_) (fun c4 => ?_)
      ·
        refine lv_iconst (v := oI 0) hx hb dX5_key_51 (by decide +kernel) ?_
        exact ro_iret hx hb hr hlk dX5_key_52 (rfl)
      ·
        exact absurd c4 (by omega)
  ·
    exact absurd hj c1
set_option maxHeartbeats 4000000 in
set_option maxRecDepth 100000 in
theorem c_X5_key_8 (l : Launch) (D : va_G) (cI cJ cZ : ClassId) (x0 w0 d0 k0 kl ks kw b0 bb bd bm bl bf ba bk bg p0 h0 hl1 hs1 hw1 hc1 i0 il1 is1 iw1 ic1 ik it : Nat) (A : Nat) (s : Nat) (dA : Nat) (dz : Nat) (KL : Nat → Nat) (KS : Nat → Nat) (KW : Nat → Nat) (n : Nat) (BB : Nat → Nat) (BD : Nat → Nat) (BM : Nat → Nat) (BL : Nat → Nat) (BF : Nat → Nat) (BA : Nat → Nat) (BK : Nat → Nat) (BG : Nat → Nat) (nx : Nat) (pz : Nat) (HL : Nat → Nat) (HS : Nat → Nat) (HW : Nat → Nat) (HC : Nat → Nat) (IL : Nat → Nat) (IS : Nat → Nat) (IW : Nat → Nat) (IC : Nat → Nat) (IK : Nat → Nat) (IT : Nat → Nat) (sd : Nat) (hn : n ≤ 24) (hw0 : Wf s A) (hk : ∀ k, k < n → Wf (KS k) (KL k)) (hv : ∀ k, k < n → KW k ≤ 9999) (hso : Srt KS KL n) (hTr : TrX (gapF KS KL) n BB BD BM BL BF BA BK) (hnx : nx < 20) (hpz : pz ≤ 20) (hsd : sd < 2 ^ 31) (j : Nat) (hj : j < n) : RO l yX5_key cX5_key 3 (some .int) (rmN 5 109) D (ty3 cI cJ cZ) [.ref x0, .int (nI j), .int (nI 8)] [(x0, .inr (5, [.ref w0, .ref d0, .ref k0, .ref b0, .ref p0, .ref i0, .ref ik, .ref it, .int (nI sd)])), (w0, .inr (4, [.long (lN A), .int (nI s)])), (d0, .inr (4, [.long (lN dA), .int (nI dz)])), (k0, .inr (1, [.ref kl, .ref ks, .ref kw, .int (nI n)])), (kl, .inl (cJ, 24, .inr (.inl (lF KL)))), (ks, .inl (cI, 24, .inl (nF KS))), (kw, .inl (cI, 24, .inl (nF KW))), (b0, .inr (0, [.ref bb, .ref bd, .ref bm, .ref bl, .ref bf, .ref ba, .ref bk, .ref bg, .int (nI n)])), (bb, .inl (cI, 24, .inl (nF BB))), (bd, .inl (cI, 24, .inl (nF BD))), (bm, .inl (cI, 24, .inl (nF BM))), (bl, .inl (cI, 24, .inl (nF BL))), (bf, .inl (cI, 24, .inl (nF BF))), (ba, .inl (cI, 24, .inl (oF BA))), (bk, .inl (cI, 24, .inl (oF BK))), (bg, .inl (cI, 24, .inl (nF BG))), (p0, .inr (2, [.ref h0, .int (nI nx), .int (nI pz)])), (h0, .inr (3, [.int (nI 20), .ref hl1, .ref hs1, .ref hw1, .ref hc1])), (hl1, .inl (cJ, 20 * 24, .inr (.inl (lF HL)))), (hs1, .inl (cI, 20 * 24, .inl (nF HS))), (hw1, .inl (cI, 20 * 24, .inl (nF HW))), (hc1, .inl (cI, 20, .inl (nF HC))), (i0, .inr (3, [.int (nI 2), .ref il1, .ref is1, .ref iw1, .ref ic1])), (il1, .inl (cJ, 2 * 24, .inr (.inl (lF IL)))), (is1, .inl (cI, 2 * 24, .inl (nF IS))), (iw1, .inl (cI, 2 * 24, .inl (nF IW))), (ic1, .inl (cI, 2, .inl (nF IC))), (ik, .inl (cZ, 2, .inl (nF IK))), (it, .inl (cI, 2, .inl (nF IT)))] (.int (nI (KS j))) := by
  have hs8 := hw0.1
  have hA64 := hw0.2.1
  have hBK := tf_BK hTr hn
  have hDK := tf_DK hTr hn
  have hB := tf_B hTr
  have hBF := tf_BF hTr hn
  have hT := tf_T hTr hso
  have hanc := tf_anc hTr hn
  have hp := plc_le KS KL n s A
  have hcb := cbl_le KS KL n s A
  have hfl := fnd_le KS KL n s A
  refine ro_start (by decide) (Nat.le_of_ble_eq_true rfl) ?_
  intro pp ee ss mm below meth cd C0 hP hK ls hl
  obtain ⟨hx, hb, hr, hml, hown, hts, hlk⟩ := C0
  have hown : ss.vm.findClass RX5 = some mm.cls := hown
  have hl : lv_has ls 3 [(0, .ref x0), (1, .int (nI j)), (2, .int (nI 8))] := hl
  have hP : va_P D vwCl [(x0, .inr (5, [.ref w0, .ref d0, .ref k0, .ref b0, .ref p0, .ref i0, .ref ik, .ref it, .int (nI sd)])), (w0, .inr (4, [.long (lN A), .int (nI s)])), (d0, .inr (4, [.long (lN dA), .int (nI dz)])), (k0, .inr (1, [.ref kl, .ref ks, .ref kw, .int (nI n)])), (kl, .inl (cJ, 24, .inr (.inl (lF KL)))), (ks, .inl (cI, 24, .inl (nF KS))), (kw, .inl (cI, 24, .inl (nF KW))), (b0, .inr (0, [.ref bb, .ref bd, .ref bm, .ref bl, .ref bf, .ref ba, .ref bk, .ref bg, .int (nI n)])), (bb, .inl (cI, 24, .inl (nF BB))), (bd, .inl (cI, 24, .inl (nF BD))), (bm, .inl (cI, 24, .inl (nF BM))), (bl, .inl (cI, 24, .inl (nF BL))), (bf, .inl (cI, 24, .inl (nF BF))), (ba, .inl (cI, 24, .inl (oF BA))), (bk, .inl (cI, 24, .inl (oF BK))), (bg, .inl (cI, 24, .inl (nF BG))), (p0, .inr (2, [.ref h0, .int (nI nx), .int (nI pz)])), (h0, .inr (3, [.int (nI 20), .ref hl1, .ref hs1, .ref hw1, .ref hc1])), (hl1, .inl (cJ, 20 * 24, .inr (.inl (lF HL)))), (hs1, .inl (cI, 20 * 24, .inl (nF HS))), (hw1, .inl (cI, 20 * 24, .inl (nF HW))), (hc1, .inl (cI, 20, .inl (nF HC))), (i0, .inr (3, [.int (nI 2), .ref il1, .ref is1, .ref iw1, .ref ic1])), (il1, .inl (cJ, 2 * 24, .inr (.inl (lF IL)))), (is1, .inl (cI, 2 * 24, .inl (nF IS))), (iw1, .inl (cI, 2 * 24, .inl (nF IW))), (ic1, .inl (cI, 2, .inl (nF IC))), (ik, .inl (cZ, 2, .inl (nF IK))), (it, .inl (cI, 2, .inl (nF IT)))] ss.heap := hP
  refine lv_aload_n hx hb dX5_key_0 rfl (lv_at hl 0 rfl) ?_
  refine va_get (D := D) (ci := 5) (v := .ref k0) (C := RX5) (T := TX5) (N := 9) hx hb hts inX5 hown hK hP 0 rfl rfl 2 (by decide) (hts _ mf_X5_22) (fun _ h9 => h9) rfl dX5_key_1 ?_
  refine lv_iload_n hx hb dX5_key_4 rfl (lv_at hl 1 rfl) ?_
  refine ro_V (As := [.int (nI j)]) (rest := []) ⟨hx, hb, hml, hown, hts⟩ (c_X1_has l D cI cJ cZ k0 kl ks kw KL KS KW n (by omega) j (by omega)) (k_X5_69 hts ⟨Nat.le_of_ble_eq_true rfl, Nat.le_of_ble_eq_true rfl⟩) hK hP 3 rfl rfl rfl [3, 4, 5, 6] rfl rfl hl.1 rfl (Nat.le_of_ble_eq_true rfl) dX5_key_5 ⟨Nat.le_of_ble_eq_true rfl, Nat.le_of_ble_eq_true rfl⟩ ?_
  refine b_if_ne (tgt := 14) hx hb dX5_key_8 (by decide) (fun c1 => ?_) (fun c1 => ?_)
  ·
    refine lv_iload_n hx hb dX5_key_14 rfl (lv_at hl 2 rfl) ?_
    refine n_if_lt (tgt := 53) hx hb dX5_key_15 (by decide) (by omega) ?_
    refine lv_iload_n hx hb dX5_key_18 rfl (lv_at hl 2 rfl) ?_
    refine lv_bipush (v := nI 8) hx hb dX5_key_19 (by decide +kernel) ?_
    refine n_ge (tgt := 53) hx hb dX5_key_21 (by decide) (by decide) (by decide) (fun _ => ?_) (fun h9 => absurd h9 (by decide))
    refine lv_iload_n hx hb dX5_key_53 rfl (lv_at hl 2 rfl) ?_
    refine lv_tableIn (tgt := 88) (off := 34) hx hb dX5_key_54 (by decide +kernel) (by decide +kernel) (by decide +kernel) (by decide) ?_
    refine lv_aload_n hx hb dX5_key_88 rfl (lv_at hl 0 rfl) ?_
    refine va_get (D := D) (ci := 5) (v := .ref k0) (C := RX5) (T := TX5) (N := 9) hx hb hts inX5 hown hK hP 0 rfl rfl 2 (by decide) (hts _ mf_X5_22) (fun _ h9 => h9) rfl dX5_key_89 ?_
    refine lv_iload_n hx hb dX5_key_92 rfl (lv_at hl 1 rfl) ?_
    refine ro_V (As := [.int (nI j)]) (rest := []) ⟨hx, hb, hml, hown, hts⟩ (c_X1_sizeOf l D cI cJ cZ k0 kl ks kw KL KS KW n (by omega) j (by omega)) (k_X5_78 hts ⟨Nat.le_of_ble_eq_true rfl, Nat.le_of_ble_eq_true rfl⟩) hK hP 3 rfl rfl rfl [3, 4, 5, 6] rfl rfl hl.1 rfl (Nat.le_of_ble_eq_true rfl) dX5_key_93 ⟨Nat.le_of_ble_eq_true rfl, Nat.le_of_ble_eq_true rfl⟩ ?_
    exact ro_iret hx hb hr hlk dX5_key_96 (rfl)
  ·
    exact absurd hj c1
set_option maxHeartbeats 4000000 in
set_option maxRecDepth 100000 in
theorem c_X5_key_9 (l : Launch) (D : va_G) (cI cJ cZ : ClassId) (x0 w0 d0 k0 kl ks kw b0 bb bd bm bl bf ba bk bg p0 h0 hl1 hs1 hw1 hc1 i0 il1 is1 iw1 ic1 ik it : Nat) (A : Nat) (s : Nat) (dA : Nat) (dz : Nat) (KL : Nat → Nat) (KS : Nat → Nat) (KW : Nat → Nat) (n : Nat) (BB : Nat → Nat) (BD : Nat → Nat) (BM : Nat → Nat) (BL : Nat → Nat) (BF : Nat → Nat) (BA : Nat → Nat) (BK : Nat → Nat) (BG : Nat → Nat) (nx : Nat) (pz : Nat) (HL : Nat → Nat) (HS : Nat → Nat) (HW : Nat → Nat) (HC : Nat → Nat) (IL : Nat → Nat) (IS : Nat → Nat) (IW : Nat → Nat) (IC : Nat → Nat) (IK : Nat → Nat) (IT : Nat → Nat) (sd : Nat) (hn : n ≤ 24) (hw0 : Wf s A) (hk : ∀ k, k < n → Wf (KS k) (KL k)) (hv : ∀ k, k < n → KW k ≤ 9999) (hso : Srt KS KL n) (hTr : TrX (gapF KS KL) n BB BD BM BL BF BA BK) (hnx : nx < 20) (hpz : pz ≤ 20) (hsd : sd < 2 ^ 31) (j : Nat) (hj : j < n) : RO l yX5_key cX5_key 3 (some .int) (rmN 5 109) D (ty3 cI cJ cZ) [.ref x0, .int (nI j), .int (nI 9)] [(x0, .inr (5, [.ref w0, .ref d0, .ref k0, .ref b0, .ref p0, .ref i0, .ref ik, .ref it, .int (nI sd)])), (w0, .inr (4, [.long (lN A), .int (nI s)])), (d0, .inr (4, [.long (lN dA), .int (nI dz)])), (k0, .inr (1, [.ref kl, .ref ks, .ref kw, .int (nI n)])), (kl, .inl (cJ, 24, .inr (.inl (lF KL)))), (ks, .inl (cI, 24, .inl (nF KS))), (kw, .inl (cI, 24, .inl (nF KW))), (b0, .inr (0, [.ref bb, .ref bd, .ref bm, .ref bl, .ref bf, .ref ba, .ref bk, .ref bg, .int (nI n)])), (bb, .inl (cI, 24, .inl (nF BB))), (bd, .inl (cI, 24, .inl (nF BD))), (bm, .inl (cI, 24, .inl (nF BM))), (bl, .inl (cI, 24, .inl (nF BL))), (bf, .inl (cI, 24, .inl (nF BF))), (ba, .inl (cI, 24, .inl (oF BA))), (bk, .inl (cI, 24, .inl (oF BK))), (bg, .inl (cI, 24, .inl (nF BG))), (p0, .inr (2, [.ref h0, .int (nI nx), .int (nI pz)])), (h0, .inr (3, [.int (nI 20), .ref hl1, .ref hs1, .ref hw1, .ref hc1])), (hl1, .inl (cJ, 20 * 24, .inr (.inl (lF HL)))), (hs1, .inl (cI, 20 * 24, .inl (nF HS))), (hw1, .inl (cI, 20 * 24, .inl (nF HW))), (hc1, .inl (cI, 20, .inl (nF HC))), (i0, .inr (3, [.int (nI 2), .ref il1, .ref is1, .ref iw1, .ref ic1])), (il1, .inl (cJ, 2 * 24, .inr (.inl (lF IL)))), (is1, .inl (cI, 2 * 24, .inl (nF IS))), (iw1, .inl (cI, 2 * 24, .inl (nF IW))), (ic1, .inl (cI, 2, .inl (nF IC))), (ik, .inl (cZ, 2, .inl (nF IK))), (it, .inl (cI, 2, .inl (nF IT)))] (.int (nI (KW j))) := by
  have hs8 := hw0.1
  have hA64 := hw0.2.1
  have hBK := tf_BK hTr hn
  have hDK := tf_DK hTr hn
  have hB := tf_B hTr
  have hBF := tf_BF hTr hn
  have hT := tf_T hTr hso
  have hanc := tf_anc hTr hn
  have hp := plc_le KS KL n s A
  have hcb := cbl_le KS KL n s A
  have hfl := fnd_le KS KL n s A
  refine ro_start (by decide) (Nat.le_of_ble_eq_true rfl) ?_
  intro pp ee ss mm below meth cd C0 hP hK ls hl
  obtain ⟨hx, hb, hr, hml, hown, hts, hlk⟩ := C0
  have hown : ss.vm.findClass RX5 = some mm.cls := hown
  have hl : lv_has ls 3 [(0, .ref x0), (1, .int (nI j)), (2, .int (nI 9))] := hl
  have hP : va_P D vwCl [(x0, .inr (5, [.ref w0, .ref d0, .ref k0, .ref b0, .ref p0, .ref i0, .ref ik, .ref it, .int (nI sd)])), (w0, .inr (4, [.long (lN A), .int (nI s)])), (d0, .inr (4, [.long (lN dA), .int (nI dz)])), (k0, .inr (1, [.ref kl, .ref ks, .ref kw, .int (nI n)])), (kl, .inl (cJ, 24, .inr (.inl (lF KL)))), (ks, .inl (cI, 24, .inl (nF KS))), (kw, .inl (cI, 24, .inl (nF KW))), (b0, .inr (0, [.ref bb, .ref bd, .ref bm, .ref bl, .ref bf, .ref ba, .ref bk, .ref bg, .int (nI n)])), (bb, .inl (cI, 24, .inl (nF BB))), (bd, .inl (cI, 24, .inl (nF BD))), (bm, .inl (cI, 24, .inl (nF BM))), (bl, .inl (cI, 24, .inl (nF BL))), (bf, .inl (cI, 24, .inl (nF BF))), (ba, .inl (cI, 24, .inl (oF BA))), (bk, .inl (cI, 24, .inl (oF BK))), (bg, .inl (cI, 24, .inl (nF BG))), (p0, .inr (2, [.ref h0, .int (nI nx), .int (nI pz)])), (h0, .inr (3, [.int (nI 20), .ref hl1, .ref hs1, .ref hw1, .ref hc1])), (hl1, .inl (cJ, 20 * 24, .inr (.inl (lF HL)))), (hs1, .inl (cI, 20 * 24, .inl (nF HS))), (hw1, .inl (cI, 20 * 24, .inl (nF HW))), (hc1, .inl (cI, 20, .inl (nF HC))), (i0, .inr (3, [.int (nI 2), .ref il1, .ref is1, .ref iw1, .ref ic1])), (il1, .inl (cJ, 2 * 24, .inr (.inl (lF IL)))), (is1, .inl (cI, 2 * 24, .inl (nF IS))), (iw1, .inl (cI, 2 * 24, .inl (nF IW))), (ic1, .inl (cI, 2, .inl (nF IC))), (ik, .inl (cZ, 2, .inl (nF IK))), (it, .inl (cI, 2, .inl (nF IT)))] ss.heap := hP
  refine lv_aload_n hx hb dX5_key_0 rfl (lv_at hl 0 rfl) ?_
  refine va_get (D := D) (ci := 5) (v := .ref k0) (C := RX5) (T := TX5) (N := 9) hx hb hts inX5 hown hK hP 0 rfl rfl 2 (by decide) (hts _ mf_X5_22) (fun _ h9 => h9) rfl dX5_key_1 ?_
  refine lv_iload_n hx hb dX5_key_4 rfl (lv_at hl 1 rfl) ?_
  refine ro_V (As := [.int (nI j)]) (rest := []) ⟨hx, hb, hml, hown, hts⟩ (c_X1_has l D cI cJ cZ k0 kl ks kw KL KS KW n (by omega) j (by omega)) (k_X5_69 hts ⟨Nat.le_of_ble_eq_true rfl, Nat.le_of_ble_eq_true rfl⟩) hK hP 3 rfl rfl rfl [3, 4, 5, 6] rfl rfl hl.1 rfl (Nat.le_of_ble_eq_true rfl) dX5_key_5 ⟨Nat.le_of_ble_eq_true rfl, Nat.le_of_ble_eq_true rfl⟩ ?_
  refine b_if_ne (tgt := 14) hx hb dX5_key_8 (by decide) (fun c1 => ?_) (fun c1 => ?_)
  ·
    refine lv_iload_n hx hb dX5_key_14 rfl (lv_at hl 2 rfl) ?_
    refine n_if_lt (tgt := 53) hx hb dX5_key_15 (by decide) (by omega) ?_
    refine lv_iload_n hx hb dX5_key_18 rfl (lv_at hl 2 rfl) ?_
    refine lv_bipush (v := nI 8) hx hb dX5_key_19 (by decide +kernel) ?_
    refine n_ge (tgt := 53) hx hb dX5_key_21 (by decide) (by decide) (by decide) (fun _ => ?_) (fun h9 => absurd h9 (by decide))
    refine lv_iload_n hx hb dX5_key_53 rfl (lv_at hl 2 rfl) ?_
    refine lv_tableIn (tgt := 97) (off := 43) hx hb dX5_key_54 (by decide +kernel) (by decide +kernel) (by decide +kernel) (by decide) ?_
    refine lv_aload_n hx hb dX5_key_97 rfl (lv_at hl 0 rfl) ?_
    refine va_get (D := D) (ci := 5) (v := .ref k0) (C := RX5) (T := TX5) (N := 9) hx hb hts inX5 hown hK hP 0 rfl rfl 2 (by decide) (hts _ mf_X5_22) (fun _ h9 => h9) rfl dX5_key_98 ?_
    refine lv_iload_n hx hb dX5_key_101 rfl (lv_at hl 1 rfl) ?_
    refine ro_V (As := [.int (nI j)]) (rest := []) ⟨hx, hb, hml, hown, hts⟩ (c_X1_worthOf l D cI cJ cZ k0 kl ks kw KL KS KW n (by omega) j (by omega)) (k_X5_118 hts ⟨Nat.le_of_ble_eq_true rfl, Nat.le_of_ble_eq_true rfl⟩) hK hP 3 rfl rfl rfl [3, 4, 5, 6] rfl rfl hl.1 rfl (Nat.le_of_ble_eq_true rfl) dX5_key_102 ⟨Nat.le_of_ble_eq_true rfl, Nat.le_of_ble_eq_true rfl⟩ ?_
    exact ro_iret hx hb hr hlk dX5_key_105 (rfl)
  ·
    exact absurd hj c1
set_option maxHeartbeats 4000000 in
set_option maxRecDepth 100000 in
theorem c_X5_key_10 (l : Launch) (D : va_G) (cI cJ cZ : ClassId) (x0 w0 d0 k0 kl ks kw b0 bb bd bm bl bf ba bk bg p0 h0 hl1 hs1 hw1 hc1 i0 il1 is1 iw1 ic1 ik it : Nat) (A : Nat) (s : Nat) (dA : Nat) (dz : Nat) (KL : Nat → Nat) (KS : Nat → Nat) (KW : Nat → Nat) (n : Nat) (BB : Nat → Nat) (BD : Nat → Nat) (BM : Nat → Nat) (BL : Nat → Nat) (BF : Nat → Nat) (BA : Nat → Nat) (BK : Nat → Nat) (BG : Nat → Nat) (nx : Nat) (pz : Nat) (HL : Nat → Nat) (HS : Nat → Nat) (HW : Nat → Nat) (HC : Nat → Nat) (IL : Nat → Nat) (IS : Nat → Nat) (IW : Nat → Nat) (IC : Nat → Nat) (IK : Nat → Nat) (IT : Nat → Nat) (sd : Nat) (hn : n ≤ 24) (hw0 : Wf s A) (hk : ∀ k, k < n → Wf (KS k) (KL k)) (hv : ∀ k, k < n → KW k ≤ 9999) (hso : Srt KS KL n) (hTr : TrX (gapF KS KL) n BB BD BM BL BF BA BK) (hnx : nx < 20) (hpz : pz ≤ 20) (hsd : sd < 2 ^ 31) (j : Nat) (hj : j < n) : RO l yX5_key cX5_key 3 (some .int) (rmN 5 109) D (ty3 cI cJ cZ) [.ref x0, .int (nI j), .int (nI 10)] [(x0, .inr (5, [.ref w0, .ref d0, .ref k0, .ref b0, .ref p0, .ref i0, .ref ik, .ref it, .int (nI sd)])), (w0, .inr (4, [.long (lN A), .int (nI s)])), (d0, .inr (4, [.long (lN dA), .int (nI dz)])), (k0, .inr (1, [.ref kl, .ref ks, .ref kw, .int (nI n)])), (kl, .inl (cJ, 24, .inr (.inl (lF KL)))), (ks, .inl (cI, 24, .inl (nF KS))), (kw, .inl (cI, 24, .inl (nF KW))), (b0, .inr (0, [.ref bb, .ref bd, .ref bm, .ref bl, .ref bf, .ref ba, .ref bk, .ref bg, .int (nI n)])), (bb, .inl (cI, 24, .inl (nF BB))), (bd, .inl (cI, 24, .inl (nF BD))), (bm, .inl (cI, 24, .inl (nF BM))), (bl, .inl (cI, 24, .inl (nF BL))), (bf, .inl (cI, 24, .inl (nF BF))), (ba, .inl (cI, 24, .inl (oF BA))), (bk, .inl (cI, 24, .inl (oF BK))), (bg, .inl (cI, 24, .inl (nF BG))), (p0, .inr (2, [.ref h0, .int (nI nx), .int (nI pz)])), (h0, .inr (3, [.int (nI 20), .ref hl1, .ref hs1, .ref hw1, .ref hc1])), (hl1, .inl (cJ, 20 * 24, .inr (.inl (lF HL)))), (hs1, .inl (cI, 20 * 24, .inl (nF HS))), (hw1, .inl (cI, 20 * 24, .inl (nF HW))), (hc1, .inl (cI, 20, .inl (nF HC))), (i0, .inr (3, [.int (nI 2), .ref il1, .ref is1, .ref iw1, .ref ic1])), (il1, .inl (cJ, 2 * 24, .inr (.inl (lF IL)))), (is1, .inl (cI, 2 * 24, .inl (nF IS))), (iw1, .inl (cI, 2 * 24, .inl (nF IW))), (ic1, .inl (cI, 2, .inl (nF IC))), (ik, .inl (cZ, 2, .inl (nF IK))), (it, .inl (cI, 2, .inl (nF IT)))] (.int (nI (dok BK BD j))) := by
  have hs8 := hw0.1
  have hA64 := hw0.2.1
  have hBK := tf_BK hTr hn
  have hDK := tf_DK hTr hn
  have hB := tf_B hTr
  have hBF := tf_BF hTr hn
  have hT := tf_T hTr hso
  have hanc := tf_anc hTr hn
  have hp := plc_le KS KL n s A
  have hcb := cbl_le KS KL n s A
  have hfl := fnd_le KS KL n s A
  refine ro_start (by decide) (Nat.le_of_ble_eq_true rfl) ?_
  intro pp ee ss mm below meth cd C0 hP hK ls hl
  obtain ⟨hx, hb, hr, hml, hown, hts, hlk⟩ := C0
  have hown : ss.vm.findClass RX5 = some mm.cls := hown
  have hl : lv_has ls 3 [(0, .ref x0), (1, .int (nI j)), (2, .int (nI 10))] := hl
  have hP : va_P D vwCl [(x0, .inr (5, [.ref w0, .ref d0, .ref k0, .ref b0, .ref p0, .ref i0, .ref ik, .ref it, .int (nI sd)])), (w0, .inr (4, [.long (lN A), .int (nI s)])), (d0, .inr (4, [.long (lN dA), .int (nI dz)])), (k0, .inr (1, [.ref kl, .ref ks, .ref kw, .int (nI n)])), (kl, .inl (cJ, 24, .inr (.inl (lF KL)))), (ks, .inl (cI, 24, .inl (nF KS))), (kw, .inl (cI, 24, .inl (nF KW))), (b0, .inr (0, [.ref bb, .ref bd, .ref bm, .ref bl, .ref bf, .ref ba, .ref bk, .ref bg, .int (nI n)])), (bb, .inl (cI, 24, .inl (nF BB))), (bd, .inl (cI, 24, .inl (nF BD))), (bm, .inl (cI, 24, .inl (nF BM))), (bl, .inl (cI, 24, .inl (nF BL))), (bf, .inl (cI, 24, .inl (nF BF))), (ba, .inl (cI, 24, .inl (oF BA))), (bk, .inl (cI, 24, .inl (oF BK))), (bg, .inl (cI, 24, .inl (nF BG))), (p0, .inr (2, [.ref h0, .int (nI nx), .int (nI pz)])), (h0, .inr (3, [.int (nI 20), .ref hl1, .ref hs1, .ref hw1, .ref hc1])), (hl1, .inl (cJ, 20 * 24, .inr (.inl (lF HL)))), (hs1, .inl (cI, 20 * 24, .inl (nF HS))), (hw1, .inl (cI, 20 * 24, .inl (nF HW))), (hc1, .inl (cI, 20, .inl (nF HC))), (i0, .inr (3, [.int (nI 2), .ref il1, .ref is1, .ref iw1, .ref ic1])), (il1, .inl (cJ, 2 * 24, .inr (.inl (lF IL)))), (is1, .inl (cI, 2 * 24, .inl (nF IS))), (iw1, .inl (cI, 2 * 24, .inl (nF IW))), (ic1, .inl (cI, 2, .inl (nF IC))), (ik, .inl (cZ, 2, .inl (nF IK))), (it, .inl (cI, 2, .inl (nF IT)))] ss.heap := hP
  refine lv_aload_n hx hb dX5_key_0 rfl (lv_at hl 0 rfl) ?_
  refine va_get (D := D) (ci := 5) (v := .ref k0) (C := RX5) (T := TX5) (N := 9) hx hb hts inX5 hown hK hP 0 rfl rfl 2 (by decide) (hts _ mf_X5_22) (fun _ h9 => h9) rfl dX5_key_1 ?_
  refine lv_iload_n hx hb dX5_key_4 rfl (lv_at hl 1 rfl) ?_
  refine ro_V (As := [.int (nI j)]) (rest := []) ⟨hx, hb, hml, hown, hts⟩ (c_X1_has l D cI cJ cZ k0 kl ks kw KL KS KW n (by omega) j (by omega)) (k_X5_69 hts ⟨Nat.le_of_ble_eq_true rfl, Nat.le_of_ble_eq_true rfl⟩) hK hP 3 rfl rfl rfl [3, 4, 5, 6] rfl rfl hl.1 rfl (Nat.le_of_ble_eq_true rfl) dX5_key_5 ⟨Nat.le_of_ble_eq_true rfl, Nat.le_of_ble_eq_true rfl⟩ ?_
  refine b_if_ne (tgt := 14) hx hb dX5_key_8 (by decide) (fun c1 => ?_) (fun c1 => ?_)
  ·
    refine lv_iload_n hx hb dX5_key_14 rfl (lv_at hl 2 rfl) ?_
    refine n_if_lt (tgt := 53) hx hb dX5_key_15 (by decide) (by omega) ?_
    refine lv_iload_n hx hb dX5_key_18 rfl (lv_at hl 2 rfl) ?_
    refine lv_bipush (v := nI 8) hx hb dX5_key_19 (by decide +kernel) ?_
    refine n_ge (tgt := 53) hx hb dX5_key_21 (by decide) (by decide) (by decide) (fun _ => ?_) (fun h9 => absurd h9 (by decide))
    refine lv_iload_n hx hb dX5_key_53 rfl (lv_at hl 2 rfl) ?_
    refine lv_tableIn (tgt := 106) (off := 52) hx hb dX5_key_54 (by decide +kernel) (by decide +kernel) (by decide +kernel) (by decide) ?_
    refine lv_aload_n hx hb dX5_key_106 rfl (lv_at hl 0 rfl) ?_
    refine va_get (D := D) (ci := 5) (v := .ref b0) (C := RX5) (T := TX5) (N := 9) hx hb hts inX5 hown hK hP 0 rfl rfl 3 (by decide) (hts _ mf_X5_29) (fun _ h9 => h9) rfl dX5_key_107 ?_
    refine lv_iload_n hx hb dX5_key_110 rfl (lv_at hl 1 rfl) ?_
    refine ro_V (As := [.int (nI j)]) (rest := []) ⟨hx, hb, hml, hown, hts⟩ (c_X0_depthOfKey l D cI cJ cZ b0 bb bd bm bl bf ba bk bg BB BD BM BL BF BA BK BG n (by omega) j (by omega) (hBK _ (by omega))) (k_X5_121 hts ⟨Nat.le_of_ble_eq_true rfl, Nat.le_of_ble_eq_true rfl⟩) hK hP 7 rfl rfl rfl [7, 8, 9, 10, 11, 12, 13, 14, 15] rfl rfl hl.1 rfl (Nat.le_of_ble_eq_true rfl) dX5_key_111 ⟨Nat.le_of_ble_eq_true rfl, Nat.le_of_ble_eq_true rfl⟩ ?_
    exact ro_iret hx hb hr hlk dX5_key_114 (rfl)
  ·
    exact absurd hj c1
set_option maxHeartbeats 4000000 in
set_option maxRecDepth 100000 in
theorem c_X5_key_11 (l : Launch) (D : va_G) (cI cJ cZ : ClassId) (x0 w0 d0 k0 kl ks kw b0 bb bd bm bl bf ba bk bg p0 h0 hl1 hs1 hw1 hc1 i0 il1 is1 iw1 ic1 ik it : Nat) (A : Nat) (s : Nat) (dA : Nat) (dz : Nat) (KL : Nat → Nat) (KS : Nat → Nat) (KW : Nat → Nat) (n : Nat) (BB : Nat → Nat) (BD : Nat → Nat) (BM : Nat → Nat) (BL : Nat → Nat) (BF : Nat → Nat) (BA : Nat → Nat) (BK : Nat → Nat) (BG : Nat → Nat) (nx : Nat) (pz : Nat) (HL : Nat → Nat) (HS : Nat → Nat) (HW : Nat → Nat) (HC : Nat → Nat) (IL : Nat → Nat) (IS : Nat → Nat) (IW : Nat → Nat) (IC : Nat → Nat) (IK : Nat → Nat) (IT : Nat → Nat) (sd : Nat) (hn : n ≤ 24) (hw0 : Wf s A) (hk : ∀ k, k < n → Wf (KS k) (KL k)) (hv : ∀ k, k < n → KW k ≤ 9999) (hso : Srt KS KL n) (hTr : TrX (gapF KS KL) n BB BD BM BL BF BA BK) (hnx : nx < 20) (hpz : pz ≤ 20) (hsd : sd < 2 ^ 31) (j : Nat) (hj : j < n) : RO l yX5_key cX5_key 3 (some .int) (rmN 5 109) D (ty3 cI cJ cZ) [.ref x0, .int (nI j), .int (nI 11)] [(x0, .inr (5, [.ref w0, .ref d0, .ref k0, .ref b0, .ref p0, .ref i0, .ref ik, .ref it, .int (nI sd)])), (w0, .inr (4, [.long (lN A), .int (nI s)])), (d0, .inr (4, [.long (lN dA), .int (nI dz)])), (k0, .inr (1, [.ref kl, .ref ks, .ref kw, .int (nI n)])), (kl, .inl (cJ, 24, .inr (.inl (lF KL)))), (ks, .inl (cI, 24, .inl (nF KS))), (kw, .inl (cI, 24, .inl (nF KW))), (b0, .inr (0, [.ref bb, .ref bd, .ref bm, .ref bl, .ref bf, .ref ba, .ref bk, .ref bg, .int (nI n)])), (bb, .inl (cI, 24, .inl (nF BB))), (bd, .inl (cI, 24, .inl (nF BD))), (bm, .inl (cI, 24, .inl (nF BM))), (bl, .inl (cI, 24, .inl (nF BL))), (bf, .inl (cI, 24, .inl (nF BF))), (ba, .inl (cI, 24, .inl (oF BA))), (bk, .inl (cI, 24, .inl (oF BK))), (bg, .inl (cI, 24, .inl (nF BG))), (p0, .inr (2, [.ref h0, .int (nI nx), .int (nI pz)])), (h0, .inr (3, [.int (nI 20), .ref hl1, .ref hs1, .ref hw1, .ref hc1])), (hl1, .inl (cJ, 20 * 24, .inr (.inl (lF HL)))), (hs1, .inl (cI, 20 * 24, .inl (nF HS))), (hw1, .inl (cI, 20 * 24, .inl (nF HW))), (hc1, .inl (cI, 20, .inl (nF HC))), (i0, .inr (3, [.int (nI 2), .ref il1, .ref is1, .ref iw1, .ref ic1])), (il1, .inl (cJ, 2 * 24, .inr (.inl (lF IL)))), (is1, .inl (cI, 2 * 24, .inl (nF IS))), (iw1, .inl (cI, 2 * 24, .inl (nF IW))), (ic1, .inl (cI, 2, .inl (nF IC))), (ik, .inl (cZ, 2, .inl (nF IK))), (it, .inl (cI, 2, .inl (nF IT)))] (.int (nI (unl (KS j) (KL j) s A))) := by
  have hs8 := hw0.1
  have hA64 := hw0.2.1
  have hBK := tf_BK hTr hn
  have hDK := tf_DK hTr hn
  have hB := tf_B hTr
  have hBF := tf_BF hTr hn
  have hT := tf_T hTr hso
  have hanc := tf_anc hTr hn
  have hp := plc_le KS KL n s A
  have hcb := cbl_le KS KL n s A
  have hfl := fnd_le KS KL n s A
  refine ro_start (by decide) (Nat.le_of_ble_eq_true rfl) ?_
  intro pp ee ss mm below meth cd C0 hP hK ls hl
  obtain ⟨hx, hb, hr, hml, hown, hts, hlk⟩ := C0
  have hown : ss.vm.findClass RX5 = some mm.cls := hown
  have hl : lv_has ls 3 [(0, .ref x0), (1, .int (nI j)), (2, .int (nI 11))] := hl
  have hP : va_P D vwCl [(x0, .inr (5, [.ref w0, .ref d0, .ref k0, .ref b0, .ref p0, .ref i0, .ref ik, .ref it, .int (nI sd)])), (w0, .inr (4, [.long (lN A), .int (nI s)])), (d0, .inr (4, [.long (lN dA), .int (nI dz)])), (k0, .inr (1, [.ref kl, .ref ks, .ref kw, .int (nI n)])), (kl, .inl (cJ, 24, .inr (.inl (lF KL)))), (ks, .inl (cI, 24, .inl (nF KS))), (kw, .inl (cI, 24, .inl (nF KW))), (b0, .inr (0, [.ref bb, .ref bd, .ref bm, .ref bl, .ref bf, .ref ba, .ref bk, .ref bg, .int (nI n)])), (bb, .inl (cI, 24, .inl (nF BB))), (bd, .inl (cI, 24, .inl (nF BD))), (bm, .inl (cI, 24, .inl (nF BM))), (bl, .inl (cI, 24, .inl (nF BL))), (bf, .inl (cI, 24, .inl (nF BF))), (ba, .inl (cI, 24, .inl (oF BA))), (bk, .inl (cI, 24, .inl (oF BK))), (bg, .inl (cI, 24, .inl (nF BG))), (p0, .inr (2, [.ref h0, .int (nI nx), .int (nI pz)])), (h0, .inr (3, [.int (nI 20), .ref hl1, .ref hs1, .ref hw1, .ref hc1])), (hl1, .inl (cJ, 20 * 24, .inr (.inl (lF HL)))), (hs1, .inl (cI, 20 * 24, .inl (nF HS))), (hw1, .inl (cI, 20 * 24, .inl (nF HW))), (hc1, .inl (cI, 20, .inl (nF HC))), (i0, .inr (3, [.int (nI 2), .ref il1, .ref is1, .ref iw1, .ref ic1])), (il1, .inl (cJ, 2 * 24, .inr (.inl (lF IL)))), (is1, .inl (cI, 2 * 24, .inl (nF IS))), (iw1, .inl (cI, 2 * 24, .inl (nF IW))), (ic1, .inl (cI, 2, .inl (nF IC))), (ik, .inl (cZ, 2, .inl (nF IK))), (it, .inl (cI, 2, .inl (nF IT)))] ss.heap := hP
  refine lv_aload_n hx hb dX5_key_0 rfl (lv_at hl 0 rfl) ?_
  refine va_get (D := D) (ci := 5) (v := .ref k0) (C := RX5) (T := TX5) (N := 9) hx hb hts inX5 hown hK hP 0 rfl rfl 2 (by decide) (hts _ mf_X5_22) (fun _ h9 => h9) rfl dX5_key_1 ?_
  refine lv_iload_n hx hb dX5_key_4 rfl (lv_at hl 1 rfl) ?_
  refine ro_V (As := [.int (nI j)]) (rest := []) ⟨hx, hb, hml, hown, hts⟩ (c_X1_has l D cI cJ cZ k0 kl ks kw KL KS KW n (by omega) j (by omega)) (k_X5_69 hts ⟨Nat.le_of_ble_eq_true rfl, Nat.le_of_ble_eq_true rfl⟩) hK hP 3 rfl rfl rfl [3, 4, 5, 6] rfl rfl hl.1 rfl (Nat.le_of_ble_eq_true rfl) dX5_key_5 ⟨Nat.le_of_ble_eq_true rfl, Nat.le_of_ble_eq_true rfl⟩ ?_
  refine b_if_ne (tgt := 14) hx hb dX5_key_8 (by decide) (fun c1 => ?_) (fun c1 => ?_)
  ·
    refine lv_iload_n hx hb dX5_key_14 rfl (lv_at hl 2 rfl) ?_
    refine n_if_lt (tgt := 53) hx hb dX5_key_15 (by decide) (by omega) ?_
    refine lv_iload_n hx hb dX5_key_18 rfl (lv_at hl 2 rfl) ?_
    refine lv_bipush (v := nI 8) hx hb dX5_key_19 (by decide +kernel) ?_
    refine n_ge (tgt := 53) hx hb dX5_key_21 (by decide) (by decide) (by decide) (fun _ => ?_) (fun h9 => absurd h9 (by decide))
    refine lv_iload_n hx hb dX5_key_53 rfl (lv_at hl 2 rfl) ?_
    refine lv_tableIn (tgt := 115) (off := 61) hx hb dX5_key_54 (by decide +kernel) (by decide +kernel) (by decide +kernel) (by decide) ?_
    refine lv_aload_n hx hb dX5_key_115 rfl (lv_at hl 0 rfl) ?_
    refine va_get (D := D) (ci := 5) (v := .ref k0) (C := RX5) (T := TX5) (N := 9) hx hb hts inX5 hown hK hP 0 rfl rfl 2 (by decide) (hts _ mf_X5_22) (fun _ h9 => h9) rfl dX5_key_116 ?_
    refine lv_iload_n hx hb dX5_key_119 rfl (lv_at hl 1 rfl) ?_
    refine lv_aload_n hx hb dX5_key_120 rfl (lv_at hl 0 rfl) ?_
    refine va_get (D := D) (ci := 5) (v := .ref w0) (C := RX5) (T := TX5) (N := 9) hx hb hts inX5 hown hK hP 0 rfl rfl 0 (by decide) (hts _ mf_X5_10) (fun _ h9 => h9) rfl dX5_key_121 ?_
    refine ro_V (As := [.int (nI j), .ref w0]) (rest := []) ⟨hx, hb, hml, hown, hts⟩ (c_X1_sharedWith l D cI cJ cZ k0 kl ks kw KL KS KW n (by omega) w0 A s hw0 j (by omega) (hk _ (by omega))) (k_X5_124 hts ⟨Nat.le_of_ble_eq_true rfl, Nat.le_of_ble_eq_true rfl⟩) hK hP 3 rfl rfl rfl [3, 4, 5, 6, 1] rfl rfl hl.1 rfl (Nat.le_of_ble_eq_true rfl) dX5_key_124 ⟨Nat.le_of_ble_eq_true rfl, Nat.le_of_ble_eq_true rfl⟩ ?_
    exact ro_iret hx hb hr hlk dX5_key_127 (rfl)
  ·
    exact absurd hj c1
set_option maxHeartbeats 4000000 in
set_option maxRecDepth 100000 in
theorem c_X5_key_12 (l : Launch) (D : va_G) (cI cJ cZ : ClassId) (x0 w0 d0 k0 kl ks kw b0 bb bd bm bl bf ba bk bg p0 h0 hl1 hs1 hw1 hc1 i0 il1 is1 iw1 ic1 ik it : Nat) (A : Nat) (s : Nat) (dA : Nat) (dz : Nat) (KL : Nat → Nat) (KS : Nat → Nat) (KW : Nat → Nat) (n : Nat) (BB : Nat → Nat) (BD : Nat → Nat) (BM : Nat → Nat) (BL : Nat → Nat) (BF : Nat → Nat) (BA : Nat → Nat) (BK : Nat → Nat) (BG : Nat → Nat) (nx : Nat) (pz : Nat) (HL : Nat → Nat) (HS : Nat → Nat) (HW : Nat → Nat) (HC : Nat → Nat) (IL : Nat → Nat) (IS : Nat → Nat) (IW : Nat → Nat) (IC : Nat → Nat) (IK : Nat → Nat) (IT : Nat → Nat) (sd : Nat) (hn : n ≤ 24) (hw0 : Wf s A) (hk : ∀ k, k < n → Wf (KS k) (KL k)) (hv : ∀ k, k < n → KW k ≤ 9999) (hso : Srt KS KL n) (hTr : TrX (gapF KS KL) n BB BD BM BL BF BA BK) (hnx : nx < 20) (hpz : pz ≤ 20) (hsd : sd < 2 ^ 31) (j : Nat) (hj : j < n) : RO l yX5_key cX5_key 3 (some .int) (rmN 5 109) D (ty3 cI cJ cZ) [.ref x0, .int (nI j), .int (nI 12)] [(x0, .inr (5, [.ref w0, .ref d0, .ref k0, .ref b0, .ref p0, .ref i0, .ref ik, .ref it, .int (nI sd)])), (w0, .inr (4, [.long (lN A), .int (nI s)])), (d0, .inr (4, [.long (lN dA), .int (nI dz)])), (k0, .inr (1, [.ref kl, .ref ks, .ref kw, .int (nI n)])), (kl, .inl (cJ, 24, .inr (.inl (lF KL)))), (ks, .inl (cI, 24, .inl (nF KS))), (kw, .inl (cI, 24, .inl (nF KW))), (b0, .inr (0, [.ref bb, .ref bd, .ref bm, .ref bl, .ref bf, .ref ba, .ref bk, .ref bg, .int (nI n)])), (bb, .inl (cI, 24, .inl (nF BB))), (bd, .inl (cI, 24, .inl (nF BD))), (bm, .inl (cI, 24, .inl (nF BM))), (bl, .inl (cI, 24, .inl (nF BL))), (bf, .inl (cI, 24, .inl (nF BF))), (ba, .inl (cI, 24, .inl (oF BA))), (bk, .inl (cI, 24, .inl (oF BK))), (bg, .inl (cI, 24, .inl (nF BG))), (p0, .inr (2, [.ref h0, .int (nI nx), .int (nI pz)])), (h0, .inr (3, [.int (nI 20), .ref hl1, .ref hs1, .ref hw1, .ref hc1])), (hl1, .inl (cJ, 20 * 24, .inr (.inl (lF HL)))), (hs1, .inl (cI, 20 * 24, .inl (nF HS))), (hw1, .inl (cI, 20 * 24, .inl (nF HW))), (hc1, .inl (cI, 20, .inl (nF HC))), (i0, .inr (3, [.int (nI 2), .ref il1, .ref is1, .ref iw1, .ref ic1])), (il1, .inl (cJ, 2 * 24, .inr (.inl (lF IL)))), (is1, .inl (cI, 2 * 24, .inl (nF IS))), (iw1, .inl (cI, 2 * 24, .inl (nF IW))), (ic1, .inl (cI, 2, .inl (nF IC))), (ik, .inl (cZ, 2, .inl (nF IK))), (it, .inl (cI, 2, .inl (nF IT)))] (.int (nI (mxw (dok BK BD) BF BM n j (BK j) n))) := by
  have hs8 := hw0.1
  have hA64 := hw0.2.1
  have hBK := tf_BK hTr hn
  have hDK := tf_DK hTr hn
  have hB := tf_B hTr
  have hBF := tf_BF hTr hn
  have hT := tf_T hTr hso
  have hanc := tf_anc hTr hn
  have hp := plc_le KS KL n s A
  have hcb := cbl_le KS KL n s A
  have hfl := fnd_le KS KL n s A
  refine ro_start (by decide) (Nat.le_of_ble_eq_true rfl) ?_
  intro pp ee ss mm below meth cd C0 hP hK ls hl
  obtain ⟨hx, hb, hr, hml, hown, hts, hlk⟩ := C0
  have hown : ss.vm.findClass RX5 = some mm.cls := hown
  have hl : lv_has ls 3 [(0, .ref x0), (1, .int (nI j)), (2, .int (nI 12))] := hl
  have hP : va_P D vwCl [(x0, .inr (5, [.ref w0, .ref d0, .ref k0, .ref b0, .ref p0, .ref i0, .ref ik, .ref it, .int (nI sd)])), (w0, .inr (4, [.long (lN A), .int (nI s)])), (d0, .inr (4, [.long (lN dA), .int (nI dz)])), (k0, .inr (1, [.ref kl, .ref ks, .ref kw, .int (nI n)])), (kl, .inl (cJ, 24, .inr (.inl (lF KL)))), (ks, .inl (cI, 24, .inl (nF KS))), (kw, .inl (cI, 24, .inl (nF KW))), (b0, .inr (0, [.ref bb, .ref bd, .ref bm, .ref bl, .ref bf, .ref ba, .ref bk, .ref bg, .int (nI n)])), (bb, .inl (cI, 24, .inl (nF BB))), (bd, .inl (cI, 24, .inl (nF BD))), (bm, .inl (cI, 24, .inl (nF BM))), (bl, .inl (cI, 24, .inl (nF BL))), (bf, .inl (cI, 24, .inl (nF BF))), (ba, .inl (cI, 24, .inl (oF BA))), (bk, .inl (cI, 24, .inl (oF BK))), (bg, .inl (cI, 24, .inl (nF BG))), (p0, .inr (2, [.ref h0, .int (nI nx), .int (nI pz)])), (h0, .inr (3, [.int (nI 20), .ref hl1, .ref hs1, .ref hw1, .ref hc1])), (hl1, .inl (cJ, 20 * 24, .inr (.inl (lF HL)))), (hs1, .inl (cI, 20 * 24, .inl (nF HS))), (hw1, .inl (cI, 20 * 24, .inl (nF HW))), (hc1, .inl (cI, 20, .inl (nF HC))), (i0, .inr (3, [.int (nI 2), .ref il1, .ref is1, .ref iw1, .ref ic1])), (il1, .inl (cJ, 2 * 24, .inr (.inl (lF IL)))), (is1, .inl (cI, 2 * 24, .inl (nF IS))), (iw1, .inl (cI, 2 * 24, .inl (nF IW))), (ic1, .inl (cI, 2, .inl (nF IC))), (ik, .inl (cZ, 2, .inl (nF IK))), (it, .inl (cI, 2, .inl (nF IT)))] ss.heap := hP
  refine lv_aload_n hx hb dX5_key_0 rfl (lv_at hl 0 rfl) ?_
  refine va_get (D := D) (ci := 5) (v := .ref k0) (C := RX5) (T := TX5) (N := 9) hx hb hts inX5 hown hK hP 0 rfl rfl 2 (by decide) (hts _ mf_X5_22) (fun _ h9 => h9) rfl dX5_key_1 ?_
  refine lv_iload_n hx hb dX5_key_4 rfl (lv_at hl 1 rfl) ?_
  refine ro_V (As := [.int (nI j)]) (rest := []) ⟨hx, hb, hml, hown, hts⟩ (c_X1_has l D cI cJ cZ k0 kl ks kw KL KS KW n (by omega) j (by omega)) (k_X5_69 hts ⟨Nat.le_of_ble_eq_true rfl, Nat.le_of_ble_eq_true rfl⟩) hK hP 3 rfl rfl rfl [3, 4, 5, 6] rfl rfl hl.1 rfl (Nat.le_of_ble_eq_true rfl) dX5_key_5 ⟨Nat.le_of_ble_eq_true rfl, Nat.le_of_ble_eq_true rfl⟩ ?_
  refine b_if_ne (tgt := 14) hx hb dX5_key_8 (by decide) (fun c1 => ?_) (fun c1 => ?_)
  ·
    refine lv_iload_n hx hb dX5_key_14 rfl (lv_at hl 2 rfl) ?_
    refine n_if_lt (tgt := 53) hx hb dX5_key_15 (by decide) (by omega) ?_
    refine lv_iload_n hx hb dX5_key_18 rfl (lv_at hl 2 rfl) ?_
    refine lv_bipush (v := nI 8) hx hb dX5_key_19 (by decide +kernel) ?_
    refine n_ge (tgt := 53) hx hb dX5_key_21 (by decide) (by decide) (by decide) (fun _ => ?_) (fun h9 => absurd h9 (by decide))
    refine lv_iload_n hx hb dX5_key_53 rfl (lv_at hl 2 rfl) ?_
    refine lv_tableIn (tgt := 128) (off := 74) hx hb dX5_key_54 (by decide +kernel) (by decide +kernel) (by decide +kernel) (by decide) ?_
    refine lv_aload_n hx hb dX5_key_128 rfl (lv_at hl 0 rfl) ?_
    refine va_get (D := D) (ci := 5) (v := .ref b0) (C := RX5) (T := TX5) (N := 9) hx hb hts inX5 hown hK hP 0 rfl rfl 3 (by decide) (hts _ mf_X5_29) (fun _ h9 => h9) rfl dX5_key_129 ?_
    refine lv_iload_n hx hb dX5_key_132 rfl (lv_at hl 1 rfl) ?_
    refine ro_V (As := [.int (nI j)]) (rest := []) ⟨hx, hb, hml, hown, hts⟩ (c_X0_greatestDepthWithout l D cI cJ cZ b0 bb bd bm bl bf ba bk bg BB BD BM BL BF BA BK BG n (by omega) hBK hDK hBF j (by omega)) (k_X5_128 hts ⟨Nat.le_of_ble_eq_true rfl, Nat.le_of_ble_eq_true rfl⟩) hK hP 7 rfl rfl rfl [7, 8, 9, 10, 11, 12, 13, 14, 15] rfl rfl hl.1 rfl (Nat.le_of_ble_eq_true rfl) dX5_key_133 ⟨Nat.le_of_ble_eq_true rfl, Nat.le_of_ble_eq_true rfl⟩ ?_
    exact ro_iret hx hb hr hlk dX5_key_136 (rfl)
  ·
    exact absurd hj c1
set_option maxHeartbeats 4000000 in
set_option maxRecDepth 100000 in
theorem c_X5_key_big (l : Launch) (D : va_G) (cI cJ cZ : ClassId) (x0 w0 d0 k0 kl ks kw b0 bb bd bm bl bf ba bk bg p0 h0 hl1 hs1 hw1 hc1 i0 il1 is1 iw1 ic1 ik it : Nat) (A : Nat) (s : Nat) (dA : Nat) (dz : Nat) (KL : Nat → Nat) (KS : Nat → Nat) (KW : Nat → Nat) (n : Nat) (BB : Nat → Nat) (BD : Nat → Nat) (BM : Nat → Nat) (BL : Nat → Nat) (BF : Nat → Nat) (BA : Nat → Nat) (BK : Nat → Nat) (BG : Nat → Nat) (nx : Nat) (pz : Nat) (HL : Nat → Nat) (HS : Nat → Nat) (HW : Nat → Nat) (HC : Nat → Nat) (IL : Nat → Nat) (IS : Nat → Nat) (IW : Nat → Nat) (IC : Nat → Nat) (IK : Nat → Nat) (IT : Nat → Nat) (sd : Nat) (hn : n ≤ 24) (hw0 : Wf s A) (hk : ∀ k, k < n → Wf (KS k) (KL k)) (hv : ∀ k, k < n → KW k ≤ 9999) (hso : Srt KS KL n) (hTr : TrX (gapF KS KL) n BB BD BM BL BF BA BK) (hnx : nx < 20) (hpz : pz ≤ 20) (hsd : sd < 2 ^ 31) (j : Nat) (hj : j < n) (t : Nat) (ht : t < 2 ^ 31) (htb : 12 < t) : RO l yX5_key cX5_key 3 (some .int) (rmN 5 109) D (ty3 cI cJ cZ) [.ref x0, .int (nI j), .int (nI t)] [(x0, .inr (5, [.ref w0, .ref d0, .ref k0, .ref b0, .ref p0, .ref i0, .ref ik, .ref it, .int (nI sd)])), (w0, .inr (4, [.long (lN A), .int (nI s)])), (d0, .inr (4, [.long (lN dA), .int (nI dz)])), (k0, .inr (1, [.ref kl, .ref ks, .ref kw, .int (nI n)])), (kl, .inl (cJ, 24, .inr (.inl (lF KL)))), (ks, .inl (cI, 24, .inl (nF KS))), (kw, .inl (cI, 24, .inl (nF KW))), (b0, .inr (0, [.ref bb, .ref bd, .ref bm, .ref bl, .ref bf, .ref ba, .ref bk, .ref bg, .int (nI n)])), (bb, .inl (cI, 24, .inl (nF BB))), (bd, .inl (cI, 24, .inl (nF BD))), (bm, .inl (cI, 24, .inl (nF BM))), (bl, .inl (cI, 24, .inl (nF BL))), (bf, .inl (cI, 24, .inl (nF BF))), (ba, .inl (cI, 24, .inl (oF BA))), (bk, .inl (cI, 24, .inl (oF BK))), (bg, .inl (cI, 24, .inl (nF BG))), (p0, .inr (2, [.ref h0, .int (nI nx), .int (nI pz)])), (h0, .inr (3, [.int (nI 20), .ref hl1, .ref hs1, .ref hw1, .ref hc1])), (hl1, .inl (cJ, 20 * 24, .inr (.inl (lF HL)))), (hs1, .inl (cI, 20 * 24, .inl (nF HS))), (hw1, .inl (cI, 20 * 24, .inl (nF HW))), (hc1, .inl (cI, 20, .inl (nF HC))), (i0, .inr (3, [.int (nI 2), .ref il1, .ref is1, .ref iw1, .ref ic1])), (il1, .inl (cJ, 2 * 24, .inr (.inl (lF IL)))), (is1, .inl (cI, 2 * 24, .inl (nF IS))), (iw1, .inl (cI, 2 * 24, .inl (nF IW))), (ic1, .inl (cI, 2, .inl (nF IC))), (ik, .inl (cZ, 2, .inl (nF IK))), (it, .inl (cI, 2, .inl (nF IT)))] (.int (-1000000002)) := by
  have hs8 := hw0.1
  have hA64 := hw0.2.1
  have hBK := tf_BK hTr hn
  have hDK := tf_DK hTr hn
  have hB := tf_B hTr
  have hBF := tf_BF hTr hn
  have hT := tf_T hTr hso
  have hanc := tf_anc hTr hn
  have hp := plc_le KS KL n s A
  have hcb := cbl_le KS KL n s A
  have hfl := fnd_le KS KL n s A
  refine ro_start (by decide) (Nat.le_of_ble_eq_true rfl) ?_
  intro pp ee ss mm below meth cd C0 hP hK ls hl
  obtain ⟨hx, hb, hr, hml, hown, hts, hlk⟩ := C0
  have hown : ss.vm.findClass RX5 = some mm.cls := hown
  have hl : lv_has ls 3 [(0, .ref x0), (1, .int (nI j)), (2, .int (nI t))] := hl
  have hP : va_P D vwCl [(x0, .inr (5, [.ref w0, .ref d0, .ref k0, .ref b0, .ref p0, .ref i0, .ref ik, .ref it, .int (nI sd)])), (w0, .inr (4, [.long (lN A), .int (nI s)])), (d0, .inr (4, [.long (lN dA), .int (nI dz)])), (k0, .inr (1, [.ref kl, .ref ks, .ref kw, .int (nI n)])), (kl, .inl (cJ, 24, .inr (.inl (lF KL)))), (ks, .inl (cI, 24, .inl (nF KS))), (kw, .inl (cI, 24, .inl (nF KW))), (b0, .inr (0, [.ref bb, .ref bd, .ref bm, .ref bl, .ref bf, .ref ba, .ref bk, .ref bg, .int (nI n)])), (bb, .inl (cI, 24, .inl (nF BB))), (bd, .inl (cI, 24, .inl (nF BD))), (bm, .inl (cI, 24, .inl (nF BM))), (bl, .inl (cI, 24, .inl (nF BL))), (bf, .inl (cI, 24, .inl (nF BF))), (ba, .inl (cI, 24, .inl (oF BA))), (bk, .inl (cI, 24, .inl (oF BK))), (bg, .inl (cI, 24, .inl (nF BG))), (p0, .inr (2, [.ref h0, .int (nI nx), .int (nI pz)])), (h0, .inr (3, [.int (nI 20), .ref hl1, .ref hs1, .ref hw1, .ref hc1])), (hl1, .inl (cJ, 20 * 24, .inr (.inl (lF HL)))), (hs1, .inl (cI, 20 * 24, .inl (nF HS))), (hw1, .inl (cI, 20 * 24, .inl (nF HW))), (hc1, .inl (cI, 20, .inl (nF HC))), (i0, .inr (3, [.int (nI 2), .ref il1, .ref is1, .ref iw1, .ref ic1])), (il1, .inl (cJ, 2 * 24, .inr (.inl (lF IL)))), (is1, .inl (cI, 2 * 24, .inl (nF IS))), (iw1, .inl (cI, 2 * 24, .inl (nF IW))), (ic1, .inl (cI, 2, .inl (nF IC))), (ik, .inl (cZ, 2, .inl (nF IK))), (it, .inl (cI, 2, .inl (nF IT)))] ss.heap := hP
  refine lv_aload_n hx hb dX5_key_0 rfl (lv_at hl 0 rfl) ?_
  refine va_get (D := D) (ci := 5) (v := .ref k0) (C := RX5) (T := TX5) (N := 9) hx hb hts inX5 hown hK hP 0 rfl rfl 2 (by decide) (hts _ mf_X5_22) (fun _ h9 => h9) rfl dX5_key_1 ?_
  refine lv_iload_n hx hb dX5_key_4 rfl (lv_at hl 1 rfl) ?_
  refine ro_V (As := [.int (nI j)]) (rest := []) ⟨hx, hb, hml, hown, hts⟩ (c_X1_has l D cI cJ cZ k0 kl ks kw KL KS KW n (by omega) j (by omega)) (k_X5_69 hts ⟨Nat.le_of_ble_eq_true rfl, Nat.le_of_ble_eq_true rfl⟩) hK hP 3 rfl rfl rfl [3, 4, 5, 6] rfl rfl hl.1 rfl (Nat.le_of_ble_eq_true rfl) dX5_key_5 ⟨Nat.le_of_ble_eq_true rfl, Nat.le_of_ble_eq_true rfl⟩ ?_
  refine b_if_ne (tgt := 14) hx hb dX5_key_8 (by decide) (fun c1 => ?_) (fun c1 => ?_)
  ·
    refine lv_iload_n hx hb dX5_key_14 rfl (lv_at hl 2 rfl) ?_
    refine n_if_lt (tgt := 53) hx hb dX5_key_15 (by decide) (by omega) ?_
    refine lv_iload_n hx hb dX5_key_18 rfl (lv_at hl 2 rfl) ?_
    refine lv_bipush (v := nI 8) hx hb dX5_key_19 (by decide +kernel) ?_
    refine n_ge (tgt := 53) hx hb dX5_key_21 (by decide) (by omega) (by omega) (fun c3 => ?_) (fun c3 => ?_)
    ·
      refine lv_iload_n hx hb dX5_key_53 rfl (lv_at hl 2 rfl) ?_
      refine lv_tableOut (tgt := 137) hx hb dX5_key_54 (Or.inr (tn_big (by omega) (by omega))) (by decide) ?_
      refine lv_ldc hx hb hown (hts _ mk_X5_57) dX5_key_137 ?_
      exact ro_iret hx hb hr hlk dX5_key_139 (rfl)
    ·
      exact absurd c3 (by omega)
  ·
    exact absurd hj c1
set_option maxHeartbeats 4000000 in
set_option maxRecDepth 100000 in
theorem c_X5_branch_bneg (l : Launch) (D : va_G) (cI cJ cZ : ClassId) (x0 w0 d0 k0 kl ks kw b0 bb bd bm bl bf ba bk bg p0 h0 hl1 hs1 hw1 hc1 i0 il1 is1 iw1 ic1 ik it : Nat) (A : Nat) (s : Nat) (dA : Nat) (dz : Nat) (KL : Nat → Nat) (KS : Nat → Nat) (KW : Nat → Nat) (n : Nat) (BB : Nat → Nat) (BD : Nat → Nat) (BM : Nat → Nat) (BL : Nat → Nat) (BF : Nat → Nat) (BA : Nat → Nat) (BK : Nat → Nat) (BG : Nat → Nat) (nx : Nat) (pz : Nat) (HL : Nat → Nat) (HS : Nat → Nat) (HW : Nat → Nat) (HC : Nat → Nat) (IL : Nat → Nat) (IS : Nat → Nat) (IW : Nat → Nat) (IC : Nat → Nat) (IK : Nat → Nat) (IT : Nat → Nat) (sd : Nat) (hn : n ≤ 24) (hw0 : Wf s A) (hk : ∀ k, k < n → Wf (KS k) (KL k)) (hv : ∀ k, k < n → KW k ≤ 9999) (hso : Srt KS KL n) (hTr : TrX (gapF KS KL) n BB BD BM BL BF BA BK) (hnx : nx < 20) (hpz : pz ≤ 20) (hsd : sd < 2 ^ 31) (x y : Int32) (hx0 : x < 0) : RO l yX5_branch cX5_branch 3 (some .int) (rmN 3 62) D (ty3 cI cJ cZ) [.ref x0, .int x, .int y] [(x0, .inr (5, [.ref w0, .ref d0, .ref k0, .ref b0, .ref p0, .ref i0, .ref ik, .ref it, .int (nI sd)])), (w0, .inr (4, [.long (lN A), .int (nI s)])), (d0, .inr (4, [.long (lN dA), .int (nI dz)])), (k0, .inr (1, [.ref kl, .ref ks, .ref kw, .int (nI n)])), (kl, .inl (cJ, 24, .inr (.inl (lF KL)))), (ks, .inl (cI, 24, .inl (nF KS))), (kw, .inl (cI, 24, .inl (nF KW))), (b0, .inr (0, [.ref bb, .ref bd, .ref bm, .ref bl, .ref bf, .ref ba, .ref bk, .ref bg, .int (nI n)])), (bb, .inl (cI, 24, .inl (nF BB))), (bd, .inl (cI, 24, .inl (nF BD))), (bm, .inl (cI, 24, .inl (nF BM))), (bl, .inl (cI, 24, .inl (nF BL))), (bf, .inl (cI, 24, .inl (nF BF))), (ba, .inl (cI, 24, .inl (oF BA))), (bk, .inl (cI, 24, .inl (oF BK))), (bg, .inl (cI, 24, .inl (nF BG))), (p0, .inr (2, [.ref h0, .int (nI nx), .int (nI pz)])), (h0, .inr (3, [.int (nI 20), .ref hl1, .ref hs1, .ref hw1, .ref hc1])), (hl1, .inl (cJ, 20 * 24, .inr (.inl (lF HL)))), (hs1, .inl (cI, 20 * 24, .inl (nF HS))), (hw1, .inl (cI, 20 * 24, .inl (nF HW))), (hc1, .inl (cI, 20, .inl (nF HC))), (i0, .inr (3, [.int (nI 2), .ref il1, .ref is1, .ref iw1, .ref ic1])), (il1, .inl (cJ, 2 * 24, .inr (.inl (lF IL)))), (is1, .inl (cI, 2 * 24, .inl (nF IS))), (iw1, .inl (cI, 2 * 24, .inl (nF IW))), (ic1, .inl (cI, 2, .inl (nF IC))), (ik, .inl (cZ, 2, .inl (nF IK))), (it, .inl (cI, 2, .inl (nF IT)))] (.int (-1000000001)) := by
  have hs8 := hw0.1
  have hA64 := hw0.2.1
  have hBK := tf_BK hTr hn
  have hDK := tf_DK hTr hn
  have hB := tf_B hTr
  have hBF := tf_BF hTr hn
  have hT := tf_T hTr hso
  have hanc := tf_anc hTr hn
  have hp := plc_le KS KL n s A
  have hcb := cbl_le KS KL n s A
  have hfl := fnd_le KS KL n s A
  refine ro_start (by decide) (Nat.le_of_ble_eq_true rfl) ?_
  intro pp ee ss mm below meth cd C0 hP hK ls hl
  obtain ⟨hx, hb, hr, hml, hown, hts, hlk⟩ := C0
  have hown : ss.vm.findClass RX5 = some mm.cls := hown
  have hl : lv_has ls 3 [(0, .ref x0), (1, .int x), (2, .int y)] := hl
  have hP : va_P D vwCl [(x0, .inr (5, [.ref w0, .ref d0, .ref k0, .ref b0, .ref p0, .ref i0, .ref ik, .ref it, .int (nI sd)])), (w0, .inr (4, [.long (lN A), .int (nI s)])), (d0, .inr (4, [.long (lN dA), .int (nI dz)])), (k0, .inr (1, [.ref kl, .ref ks, .ref kw, .int (nI n)])), (kl, .inl (cJ, 24, .inr (.inl (lF KL)))), (ks, .inl (cI, 24, .inl (nF KS))), (kw, .inl (cI, 24, .inl (nF KW))), (b0, .inr (0, [.ref bb, .ref bd, .ref bm, .ref bl, .ref bf, .ref ba, .ref bk, .ref bg, .int (nI n)])), (bb, .inl (cI, 24, .inl (nF BB))), (bd, .inl (cI, 24, .inl (nF BD))), (bm, .inl (cI, 24, .inl (nF BM))), (bl, .inl (cI, 24, .inl (nF BL))), (bf, .inl (cI, 24, .inl (nF BF))), (ba, .inl (cI, 24, .inl (oF BA))), (bk, .inl (cI, 24, .inl (oF BK))), (bg, .inl (cI, 24, .inl (nF BG))), (p0, .inr (2, [.ref h0, .int (nI nx), .int (nI pz)])), (h0, .inr (3, [.int (nI 20), .ref hl1, .ref hs1, .ref hw1, .ref hc1])), (hl1, .inl (cJ, 20 * 24, .inr (.inl (lF HL)))), (hs1, .inl (cI, 20 * 24, .inl (nF HS))), (hw1, .inl (cI, 20 * 24, .inl (nF HW))), (hc1, .inl (cI, 20, .inl (nF HC))), (i0, .inr (3, [.int (nI 2), .ref il1, .ref is1, .ref iw1, .ref ic1])), (il1, .inl (cJ, 2 * 24, .inr (.inl (lF IL)))), (is1, .inl (cI, 2 * 24, .inl (nF IS))), (iw1, .inl (cI, 2 * 24, .inl (nF IW))), (ic1, .inl (cI, 2, .inl (nF IC))), (ik, .inl (cZ, 2, .inl (nF IK))), (it, .inl (cI, 2, .inl (nF IT)))] ss.heap := hP
  refine lv_aload_n hx hb dX5_branch_0 rfl (lv_at hl 0 rfl) ?_
  refine va_get (D := D) (ci := 5) (v := .ref b0) (C := RX5) (T := TX5) (N := 9) hx hb hts inX5 hown hK hP 0 rfl rfl 3 (by decide) (hts _ mf_X5_29) (fun _ h9 => h9) rfl dX5_branch_1 ?_
  refine lv_iload_n hx hb dX5_branch_4 rfl (lv_at hl 1 rfl) ?_
  refine ro_V (As := [.int x]) (rest := []) ⟨hx, hb, hml, hown, hts⟩ (c_X0_has_neg l D cI cJ cZ b0 bb bd bm bl bf ba bk bg BB BD BM BL BF BA BK BG n (by omega) x hx0) (k_X5_131 hts ⟨Nat.le_of_ble_eq_true rfl, Nat.le_of_ble_eq_true rfl⟩) hK hP 7 rfl rfl rfl [7, 8, 9, 10, 11, 12, 13, 14, 15] rfl rfl hl.1 rfl (Nat.le_of_ble_eq_true rfl) dX5_branch_5 ⟨Nat.le_of_ble_eq_true rfl, Nat.le_of_ble_eq_true rfl⟩ ?_
  refine n_if_ne (tgt := 14) hx hb dX5_branch_8 (by decide) (by decide) (fun h9 => absurd rfl h9) (fun _ => ?_)
  refine lv_ldc hx hb hown (hts _ mk_X5_73) dX5_branch_11 ?_
  exact ro_iret hx hb hr hlk dX5_branch_13 (rfl)
set_option maxHeartbeats 4000000 in
set_option maxRecDepth 100000 in
theorem c_X5_branch_bout (l : Launch) (D : va_G) (cI cJ cZ : ClassId) (x0 w0 d0 k0 kl ks kw b0 bb bd bm bl bf ba bk bg p0 h0 hl1 hs1 hw1 hc1 i0 il1 is1 iw1 ic1 ik it : Nat) (A : Nat) (s : Nat) (dA : Nat) (dz : Nat) (KL : Nat → Nat) (KS : Nat → Nat) (KW : Nat → Nat) (n : Nat) (BB : Nat → Nat) (BD : Nat → Nat) (BM : Nat → Nat) (BL : Nat → Nat) (BF : Nat → Nat) (BA : Nat → Nat) (BK : Nat → Nat) (BG : Nat → Nat) (nx : Nat) (pz : Nat) (HL : Nat → Nat) (HS : Nat → Nat) (HW : Nat → Nat) (HC : Nat → Nat) (IL : Nat → Nat) (IS : Nat → Nat) (IW : Nat → Nat) (IC : Nat → Nat) (IK : Nat → Nat) (IT : Nat → Nat) (sd : Nat) (hn : n ≤ 24) (hw0 : Wf s A) (hk : ∀ k, k < n → Wf (KS k) (KL k)) (hv : ∀ k, k < n → KW k ≤ 9999) (hso : Srt KS KL n) (hTr : TrX (gapF KS KL) n BB BD BM BL BF BA BK) (hnx : nx < 20) (hpz : pz ≤ 20) (hsd : sd < 2 ^ 31) (j : Nat) (y : Int32) (hj : j < 2 ^ 31) (hjo : n - 1 ≤ j) : RO l yX5_branch cX5_branch 3 (some .int) (rmN 3 62) D (ty3 cI cJ cZ) [.ref x0, .int (nI j), .int y] [(x0, .inr (5, [.ref w0, .ref d0, .ref k0, .ref b0, .ref p0, .ref i0, .ref ik, .ref it, .int (nI sd)])), (w0, .inr (4, [.long (lN A), .int (nI s)])), (d0, .inr (4, [.long (lN dA), .int (nI dz)])), (k0, .inr (1, [.ref kl, .ref ks, .ref kw, .int (nI n)])), (kl, .inl (cJ, 24, .inr (.inl (lF KL)))), (ks, .inl (cI, 24, .inl (nF KS))), (kw, .inl (cI, 24, .inl (nF KW))), (b0, .inr (0, [.ref bb, .ref bd, .ref bm, .ref bl, .ref bf, .ref ba, .ref bk, .ref bg, .int (nI n)])), (bb, .inl (cI, 24, .inl (nF BB))), (bd, .inl (cI, 24, .inl (nF BD))), (bm, .inl (cI, 24, .inl (nF BM))), (bl, .inl (cI, 24, .inl (nF BL))), (bf, .inl (cI, 24, .inl (nF BF))), (ba, .inl (cI, 24, .inl (oF BA))), (bk, .inl (cI, 24, .inl (oF BK))), (bg, .inl (cI, 24, .inl (nF BG))), (p0, .inr (2, [.ref h0, .int (nI nx), .int (nI pz)])), (h0, .inr (3, [.int (nI 20), .ref hl1, .ref hs1, .ref hw1, .ref hc1])), (hl1, .inl (cJ, 20 * 24, .inr (.inl (lF HL)))), (hs1, .inl (cI, 20 * 24, .inl (nF HS))), (hw1, .inl (cI, 20 * 24, .inl (nF HW))), (hc1, .inl (cI, 20, .inl (nF HC))), (i0, .inr (3, [.int (nI 2), .ref il1, .ref is1, .ref iw1, .ref ic1])), (il1, .inl (cJ, 2 * 24, .inr (.inl (lF IL)))), (is1, .inl (cI, 2 * 24, .inl (nF IS))), (iw1, .inl (cI, 2 * 24, .inl (nF IW))), (ic1, .inl (cI, 2, .inl (nF IC))), (ik, .inl (cZ, 2, .inl (nF IK))), (it, .inl (cI, 2, .inl (nF IT)))] (.int (-1000000001)) := by
  have hs8 := hw0.1
  have hA64 := hw0.2.1
  have hBK := tf_BK hTr hn
  have hDK := tf_DK hTr hn
  have hB := tf_B hTr
  have hBF := tf_BF hTr hn
  have hT := tf_T hTr hso
  have hanc := tf_anc hTr hn
  have hp := plc_le KS KL n s A
  have hcb := cbl_le KS KL n s A
  have hfl := fnd_le KS KL n s A
  refine ro_start (by decide) (Nat.le_of_ble_eq_true rfl) ?_
  intro pp ee ss mm below meth cd C0 hP hK ls hl
  obtain ⟨hx, hb, hr, hml, hown, hts, hlk⟩ := C0
  have hown : ss.vm.findClass RX5 = some mm.cls := hown
  have hl : lv_has ls 3 [(0, .ref x0), (1, .int (nI j)), (2, .int y)] := hl
  have hP : va_P D vwCl [(x0, .inr (5, [.ref w0, .ref d0, .ref k0, .ref b0, .ref p0, .ref i0, .ref ik, .ref it, .int (nI sd)])), (w0, .inr (4, [.long (lN A), .int (nI s)])), (d0, .inr (4, [.long (lN dA), .int (nI dz)])), (k0, .inr (1, [.ref kl, .ref ks, .ref kw, .int (nI n)])), (kl, .inl (cJ, 24, .inr (.inl (lF KL)))), (ks, .inl (cI, 24, .inl (nF KS))), (kw, .inl (cI, 24, .inl (nF KW))), (b0, .inr (0, [.ref bb, .ref bd, .ref bm, .ref bl, .ref bf, .ref ba, .ref bk, .ref bg, .int (nI n)])), (bb, .inl (cI, 24, .inl (nF BB))), (bd, .inl (cI, 24, .inl (nF BD))), (bm, .inl (cI, 24, .inl (nF BM))), (bl, .inl (cI, 24, .inl (nF BL))), (bf, .inl (cI, 24, .inl (nF BF))), (ba, .inl (cI, 24, .inl (oF BA))), (bk, .inl (cI, 24, .inl (oF BK))), (bg, .inl (cI, 24, .inl (nF BG))), (p0, .inr (2, [.ref h0, .int (nI nx), .int (nI pz)])), (h0, .inr (3, [.int (nI 20), .ref hl1, .ref hs1, .ref hw1, .ref hc1])), (hl1, .inl (cJ, 20 * 24, .inr (.inl (lF HL)))), (hs1, .inl (cI, 20 * 24, .inl (nF HS))), (hw1, .inl (cI, 20 * 24, .inl (nF HW))), (hc1, .inl (cI, 20, .inl (nF HC))), (i0, .inr (3, [.int (nI 2), .ref il1, .ref is1, .ref iw1, .ref ic1])), (il1, .inl (cJ, 2 * 24, .inr (.inl (lF IL)))), (is1, .inl (cI, 2 * 24, .inl (nF IS))), (iw1, .inl (cI, 2 * 24, .inl (nF IW))), (ic1, .inl (cI, 2, .inl (nF IC))), (ik, .inl (cZ, 2, .inl (nF IK))), (it, .inl (cI, 2, .inl (nF IT)))] ss.heap := hP
  refine lv_aload_n hx hb dX5_branch_0 rfl (lv_at hl 0 rfl) ?_
  refine va_get (D := D) (ci := 5) (v := .ref b0) (C := RX5) (T := TX5) (N := 9) hx hb hts inX5 hown hK hP 0 rfl rfl 3 (by decide) (hts _ mf_X5_29) (fun _ h9 => h9) rfl dX5_branch_1 ?_
  refine lv_iload_n hx hb dX5_branch_4 rfl (lv_at hl 1 rfl) ?_
  refine ro_V (As := [.int (nI j)]) (rest := []) ⟨hx, hb, hml, hown, hts⟩ (c_X0_has l D cI cJ cZ b0 bb bd bm bl bf ba bk bg BB BD BM BL BF BA BK BG n (by omega) j (by omega)) (k_X5_131 hts ⟨Nat.le_of_ble_eq_true rfl, Nat.le_of_ble_eq_true rfl⟩) hK hP 7 rfl rfl rfl [7, 8, 9, 10, 11, 12, 13, 14, 15] rfl rfl hl.1 rfl (Nat.le_of_ble_eq_true rfl) dX5_branch_5 ⟨Nat.le_of_ble_eq_true rfl, Nat.le_of_ble_eq_true rfl⟩ ?_
  refine b_if_ne (tgt := 14) hx hb dX5_branch_8 (by decide) (fun c1 => ?_) (fun c1 => ?_)
  ·
    exact absurd c1 (by omega)
  ·
    refine lv_ldc hx hb hown (hts _ mk_X5_73) dX5_branch_11 ?_
    exact ro_iret hx hb hr hlk dX5_branch_13 (rfl)
set_option maxHeartbeats 4000000 in
set_option maxRecDepth 100000 in
theorem c_X5_branch_neg (l : Launch) (D : va_G) (cI cJ cZ : ClassId) (x0 w0 d0 k0 kl ks kw b0 bb bd bm bl bf ba bk bg p0 h0 hl1 hs1 hw1 hc1 i0 il1 is1 iw1 ic1 ik it : Nat) (A : Nat) (s : Nat) (dA : Nat) (dz : Nat) (KL : Nat → Nat) (KS : Nat → Nat) (KW : Nat → Nat) (n : Nat) (BB : Nat → Nat) (BD : Nat → Nat) (BM : Nat → Nat) (BL : Nat → Nat) (BF : Nat → Nat) (BA : Nat → Nat) (BK : Nat → Nat) (BG : Nat → Nat) (nx : Nat) (pz : Nat) (HL : Nat → Nat) (HS : Nat → Nat) (HW : Nat → Nat) (HC : Nat → Nat) (IL : Nat → Nat) (IS : Nat → Nat) (IW : Nat → Nat) (IC : Nat → Nat) (IK : Nat → Nat) (IT : Nat → Nat) (sd : Nat) (hn : n ≤ 24) (hw0 : Wf s A) (hk : ∀ k, k < n → Wf (KS k) (KL k)) (hv : ∀ k, k < n → KW k ≤ 9999) (hso : Srt KS KL n) (hTr : TrX (gapF KS KL) n BB BD BM BL BF BA BK) (hnx : nx < 20) (hpz : pz ≤ 20) (hsd : sd < 2 ^ 31) (j : Nat) (hj : j < n - 1) (x : Int32) (hx0 : x < 0) : RO l yX5_branch cX5_branch 3 (some .int) (rmN 3 62) D (ty3 cI cJ cZ) [.ref x0, .int (nI j), .int x] [(x0, .inr (5, [.ref w0, .ref d0, .ref k0, .ref b0, .ref p0, .ref i0, .ref ik, .ref it, .int (nI sd)])), (w0, .inr (4, [.long (lN A), .int (nI s)])), (d0, .inr (4, [.long (lN dA), .int (nI dz)])), (k0, .inr (1, [.ref kl, .ref ks, .ref kw, .int (nI n)])), (kl, .inl (cJ, 24, .inr (.inl (lF KL)))), (ks, .inl (cI, 24, .inl (nF KS))), (kw, .inl (cI, 24, .inl (nF KW))), (b0, .inr (0, [.ref bb, .ref bd, .ref bm, .ref bl, .ref bf, .ref ba, .ref bk, .ref bg, .int (nI n)])), (bb, .inl (cI, 24, .inl (nF BB))), (bd, .inl (cI, 24, .inl (nF BD))), (bm, .inl (cI, 24, .inl (nF BM))), (bl, .inl (cI, 24, .inl (nF BL))), (bf, .inl (cI, 24, .inl (nF BF))), (ba, .inl (cI, 24, .inl (oF BA))), (bk, .inl (cI, 24, .inl (oF BK))), (bg, .inl (cI, 24, .inl (nF BG))), (p0, .inr (2, [.ref h0, .int (nI nx), .int (nI pz)])), (h0, .inr (3, [.int (nI 20), .ref hl1, .ref hs1, .ref hw1, .ref hc1])), (hl1, .inl (cJ, 20 * 24, .inr (.inl (lF HL)))), (hs1, .inl (cI, 20 * 24, .inl (nF HS))), (hw1, .inl (cI, 20 * 24, .inl (nF HW))), (hc1, .inl (cI, 20, .inl (nF HC))), (i0, .inr (3, [.int (nI 2), .ref il1, .ref is1, .ref iw1, .ref ic1])), (il1, .inl (cJ, 2 * 24, .inr (.inl (lF IL)))), (is1, .inl (cI, 2 * 24, .inl (nF IS))), (iw1, .inl (cI, 2 * 24, .inl (nF IW))), (ic1, .inl (cI, 2, .inl (nF IC))), (ik, .inl (cZ, 2, .inl (nF IK))), (it, .inl (cI, 2, .inl (nF IT)))] (.int (-1000000002)) := by
  have hs8 := hw0.1
  have hA64 := hw0.2.1
  have hBK := tf_BK hTr hn
  have hDK := tf_DK hTr hn
  have hB := tf_B hTr
  have hBF := tf_BF hTr hn
  have hT := tf_T hTr hso
  have hanc := tf_anc hTr hn
  have hp := plc_le KS KL n s A
  have hcb := cbl_le KS KL n s A
  have hfl := fnd_le KS KL n s A
  refine ro_start (by decide) (Nat.le_of_ble_eq_true rfl) ?_
  intro pp ee ss mm below meth cd C0 hP hK ls hl
  obtain ⟨hx, hb, hr, hml, hown, hts, hlk⟩ := C0
  have hown : ss.vm.findClass RX5 = some mm.cls := hown
  have hl : lv_has ls 3 [(0, .ref x0), (1, .int (nI j)), (2, .int x)] := hl
  have hP : va_P D vwCl [(x0, .inr (5, [.ref w0, .ref d0, .ref k0, .ref b0, .ref p0, .ref i0, .ref ik, .ref it, .int (nI sd)])), (w0, .inr (4, [.long (lN A), .int (nI s)])), (d0, .inr (4, [.long (lN dA), .int (nI dz)])), (k0, .inr (1, [.ref kl, .ref ks, .ref kw, .int (nI n)])), (kl, .inl (cJ, 24, .inr (.inl (lF KL)))), (ks, .inl (cI, 24, .inl (nF KS))), (kw, .inl (cI, 24, .inl (nF KW))), (b0, .inr (0, [.ref bb, .ref bd, .ref bm, .ref bl, .ref bf, .ref ba, .ref bk, .ref bg, .int (nI n)])), (bb, .inl (cI, 24, .inl (nF BB))), (bd, .inl (cI, 24, .inl (nF BD))), (bm, .inl (cI, 24, .inl (nF BM))), (bl, .inl (cI, 24, .inl (nF BL))), (bf, .inl (cI, 24, .inl (nF BF))), (ba, .inl (cI, 24, .inl (oF BA))), (bk, .inl (cI, 24, .inl (oF BK))), (bg, .inl (cI, 24, .inl (nF BG))), (p0, .inr (2, [.ref h0, .int (nI nx), .int (nI pz)])), (h0, .inr (3, [.int (nI 20), .ref hl1, .ref hs1, .ref hw1, .ref hc1])), (hl1, .inl (cJ, 20 * 24, .inr (.inl (lF HL)))), (hs1, .inl (cI, 20 * 24, .inl (nF HS))), (hw1, .inl (cI, 20 * 24, .inl (nF HW))), (hc1, .inl (cI, 20, .inl (nF HC))), (i0, .inr (3, [.int (nI 2), .ref il1, .ref is1, .ref iw1, .ref ic1])), (il1, .inl (cJ, 2 * 24, .inr (.inl (lF IL)))), (is1, .inl (cI, 2 * 24, .inl (nF IS))), (iw1, .inl (cI, 2 * 24, .inl (nF IW))), (ic1, .inl (cI, 2, .inl (nF IC))), (ik, .inl (cZ, 2, .inl (nF IK))), (it, .inl (cI, 2, .inl (nF IT)))] ss.heap := hP
  refine lv_aload_n hx hb dX5_branch_0 rfl (lv_at hl 0 rfl) ?_
  refine va_get (D := D) (ci := 5) (v := .ref b0) (C := RX5) (T := TX5) (N := 9) hx hb hts inX5 hown hK hP 0 rfl rfl 3 (by decide) (hts _ mf_X5_29) (fun _ h9 => h9) rfl dX5_branch_1 ?_
  refine lv_iload_n hx hb dX5_branch_4 rfl (lv_at hl 1 rfl) ?_
  refine ro_V (As := [.int (nI j)]) (rest := []) ⟨hx, hb, hml, hown, hts⟩ (c_X0_has l D cI cJ cZ b0 bb bd bm bl bf ba bk bg BB BD BM BL BF BA BK BG n (by omega) j (by omega)) (k_X5_131 hts ⟨Nat.le_of_ble_eq_true rfl, Nat.le_of_ble_eq_true rfl⟩) hK hP 7 rfl rfl rfl [7, 8, 9, 10, 11, 12, 13, 14, 15] rfl rfl hl.1 rfl (Nat.le_of_ble_eq_true rfl) dX5_branch_5 ⟨Nat.le_of_ble_eq_true rfl, Nat.le_of_ble_eq_true rfl⟩ ?_
  refine b_if_ne (tgt := 14) hx hb dX5_branch_8 (by decide) (fun c1 => ?_) (fun c1 => ?_)
  ·
    refine lv_iload_n hx hb dX5_branch_14 rfl (lv_at hl 2 rfl) ?_
    refine lv_tableOut (tgt := 106) hx hb dX5_branch_15 (Or.inl (tn_neg hx0)) (by decide) ?_
    refine lv_ldc hx hb hown (hts _ mk_X5_57) dX5_branch_106 ?_
    exact ro_iret hx hb hr hlk dX5_branch_108 (rfl)
  ·
    exact absurd hj c1
set_option maxHeartbeats 4000000 in
set_option maxRecDepth 100000 in
theorem c_X5_branch_0 (l : Launch) (D : va_G) (cI cJ cZ : ClassId) (x0 w0 d0 k0 kl ks kw b0 bb bd bm bl bf ba bk bg p0 h0 hl1 hs1 hw1 hc1 i0 il1 is1 iw1 ic1 ik it : Nat) (A : Nat) (s : Nat) (dA : Nat) (dz : Nat) (KL : Nat → Nat) (KS : Nat → Nat) (KW : Nat → Nat) (n : Nat) (BB : Nat → Nat) (BD : Nat → Nat) (BM : Nat → Nat) (BL : Nat → Nat) (BF : Nat → Nat) (BA : Nat → Nat) (BK : Nat → Nat) (BG : Nat → Nat) (nx : Nat) (pz : Nat) (HL : Nat → Nat) (HS : Nat → Nat) (HW : Nat → Nat) (HC : Nat → Nat) (IL : Nat → Nat) (IS : Nat → Nat) (IW : Nat → Nat) (IC : Nat → Nat) (IK : Nat → Nat) (IT : Nat → Nat) (sd : Nat) (hn : n ≤ 24) (hw0 : Wf s A) (hk : ∀ k, k < n → Wf (KS k) (KL k)) (hv : ∀ k, k < n → KW k ≤ 9999) (hso : Srt KS KL n) (hTr : TrX (gapF KS KL) n BB BD BM BL BF BA BK) (hnx : nx < 20) (hpz : pz ≤ 20) (hsd : sd < 2 ^ 31) (j : Nat) (hj : j < n - 1) : RO l yX5_branch cX5_branch 3 (some .int) (rmN 3 62) D (ty3 cI cJ cZ) [.ref x0, .int (nI j), .int (nI 0)] [(x0, .inr (5, [.ref w0, .ref d0, .ref k0, .ref b0, .ref p0, .ref i0, .ref ik, .ref it, .int (nI sd)])), (w0, .inr (4, [.long (lN A), .int (nI s)])), (d0, .inr (4, [.long (lN dA), .int (nI dz)])), (k0, .inr (1, [.ref kl, .ref ks, .ref kw, .int (nI n)])), (kl, .inl (cJ, 24, .inr (.inl (lF KL)))), (ks, .inl (cI, 24, .inl (nF KS))), (kw, .inl (cI, 24, .inl (nF KW))), (b0, .inr (0, [.ref bb, .ref bd, .ref bm, .ref bl, .ref bf, .ref ba, .ref bk, .ref bg, .int (nI n)])), (bb, .inl (cI, 24, .inl (nF BB))), (bd, .inl (cI, 24, .inl (nF BD))), (bm, .inl (cI, 24, .inl (nF BM))), (bl, .inl (cI, 24, .inl (nF BL))), (bf, .inl (cI, 24, .inl (nF BF))), (ba, .inl (cI, 24, .inl (oF BA))), (bk, .inl (cI, 24, .inl (oF BK))), (bg, .inl (cI, 24, .inl (nF BG))), (p0, .inr (2, [.ref h0, .int (nI nx), .int (nI pz)])), (h0, .inr (3, [.int (nI 20), .ref hl1, .ref hs1, .ref hw1, .ref hc1])), (hl1, .inl (cJ, 20 * 24, .inr (.inl (lF HL)))), (hs1, .inl (cI, 20 * 24, .inl (nF HS))), (hw1, .inl (cI, 20 * 24, .inl (nF HW))), (hc1, .inl (cI, 20, .inl (nF HC))), (i0, .inr (3, [.int (nI 2), .ref il1, .ref is1, .ref iw1, .ref ic1])), (il1, .inl (cJ, 2 * 24, .inr (.inl (lF IL)))), (is1, .inl (cI, 2 * 24, .inl (nF IS))), (iw1, .inl (cI, 2 * 24, .inl (nF IW))), (ic1, .inl (cI, 2, .inl (nF IC))), (ik, .inl (cZ, 2, .inl (nF IK))), (it, .inl (cI, 2, .inl (nF IT)))] (.int (nI (BB j))) := by
  have hs8 := hw0.1
  have hA64 := hw0.2.1
  have hBK := tf_BK hTr hn
  have hDK := tf_DK hTr hn
  have hB := tf_B hTr
  have hBF := tf_BF hTr hn
  have hT := tf_T hTr hso
  have hanc := tf_anc hTr hn
  have hp := plc_le KS KL n s A
  have hcb := cbl_le KS KL n s A
  have hfl := fnd_le KS KL n s A
  refine ro_start (by decide) (Nat.le_of_ble_eq_true rfl) ?_
  intro pp ee ss mm below meth cd C0 hP hK ls hl
  obtain ⟨hx, hb, hr, hml, hown, hts, hlk⟩ := C0
  have hown : ss.vm.findClass RX5 = some mm.cls := hown
  have hl : lv_has ls 3 [(0, .ref x0), (1, .int (nI j)), (2, .int (nI 0))] := hl
  have hP : va_P D vwCl [(x0, .inr (5, [.ref w0, .ref d0, .ref k0, .ref b0, .ref p0, .ref i0, .ref ik, .ref it, .int (nI sd)])), (w0, .inr (4, [.long (lN A), .int (nI s)])), (d0, .inr (4, [.long (lN dA), .int (nI dz)])), (k0, .inr (1, [.ref kl, .ref ks, .ref kw, .int (nI n)])), (kl, .inl (cJ, 24, .inr (.inl (lF KL)))), (ks, .inl (cI, 24, .inl (nF KS))), (kw, .inl (cI, 24, .inl (nF KW))), (b0, .inr (0, [.ref bb, .ref bd, .ref bm, .ref bl, .ref bf, .ref ba, .ref bk, .ref bg, .int (nI n)])), (bb, .inl (cI, 24, .inl (nF BB))), (bd, .inl (cI, 24, .inl (nF BD))), (bm, .inl (cI, 24, .inl (nF BM))), (bl, .inl (cI, 24, .inl (nF BL))), (bf, .inl (cI, 24, .inl (nF BF))), (ba, .inl (cI, 24, .inl (oF BA))), (bk, .inl (cI, 24, .inl (oF BK))), (bg, .inl (cI, 24, .inl (nF BG))), (p0, .inr (2, [.ref h0, .int (nI nx), .int (nI pz)])), (h0, .inr (3, [.int (nI 20), .ref hl1, .ref hs1, .ref hw1, .ref hc1])), (hl1, .inl (cJ, 20 * 24, .inr (.inl (lF HL)))), (hs1, .inl (cI, 20 * 24, .inl (nF HS))), (hw1, .inl (cI, 20 * 24, .inl (nF HW))), (hc1, .inl (cI, 20, .inl (nF HC))), (i0, .inr (3, [.int (nI 2), .ref il1, .ref is1, .ref iw1, .ref ic1])), (il1, .inl (cJ, 2 * 24, .inr (.inl (lF IL)))), (is1, .inl (cI, 2 * 24, .inl (nF IS))), (iw1, .inl (cI, 2 * 24, .inl (nF IW))), (ic1, .inl (cI, 2, .inl (nF IC))), (ik, .inl (cZ, 2, .inl (nF IK))), (it, .inl (cI, 2, .inl (nF IT)))] ss.heap := hP
  refine lv_aload_n hx hb dX5_branch_0 rfl (lv_at hl 0 rfl) ?_
  refine va_get (D := D) (ci := 5) (v := .ref b0) (C := RX5) (T := TX5) (N := 9) hx hb hts inX5 hown hK hP 0 rfl rfl 3 (by decide) (hts _ mf_X5_29) (fun _ h9 => h9) rfl dX5_branch_1 ?_
  refine lv_iload_n hx hb dX5_branch_4 rfl (lv_at hl 1 rfl) ?_
  refine ro_V (As := [.int (nI j)]) (rest := []) ⟨hx, hb, hml, hown, hts⟩ (c_X0_has l D cI cJ cZ b0 bb bd bm bl bf ba bk bg BB BD BM BL BF BA BK BG n (by omega) j (by omega)) (k_X5_131 hts ⟨Nat.le_of_ble_eq_true rfl, Nat.le_of_ble_eq_true rfl⟩) hK hP 7 rfl rfl rfl [7, 8, 9, 10, 11, 12, 13, 14, 15] rfl rfl hl.1 rfl (Nat.le_of_ble_eq_true rfl) dX5_branch_5 ⟨Nat.le_of_ble_eq_true rfl, Nat.le_of_ble_eq_true rfl⟩ ?_
  refine b_if_ne (tgt := 14) hx hb dX5_branch_8 (by decide) (fun c1 => ?_) (fun c1 => ?_)
  ·
    refine lv_iload_n hx hb dX5_branch_14 rfl (lv_at hl 2 rfl) ?_
    refine lv_tableIn (tgt := 52) (off := 37) hx hb dX5_branch_15 (by decide +kernel) (by decide +kernel) (by decide +kernel) (by decide) ?_
    refine lv_aload_n hx hb dX5_branch_52 rfl (lv_at hl 0 rfl) ?_
    refine va_get (D := D) (ci := 5) (v := .ref b0) (C := RX5) (T := TX5) (N := 9) hx hb hts inX5 hown hK hP 0 rfl rfl 3 (by decide) (hts _ mf_X5_29) (fun _ h9 => h9) rfl dX5_branch_53 ?_
    refine lv_iload_n hx hb dX5_branch_56 rfl (lv_at hl 1 rfl) ?_
    refine ro_V (As := [.int (nI j)]) (rest := []) ⟨hx, hb, hml, hown, hts⟩ (c_X0_bitOf l D cI cJ cZ b0 bb bd bm bl bf ba bk bg BB BD BM BL BF BA BK BG n (by omega) j (by omega)) (k_X5_132 hts ⟨Nat.le_of_ble_eq_true rfl, Nat.le_of_ble_eq_true rfl⟩) hK hP 7 rfl rfl rfl [7, 8, 9, 10, 11, 12, 13, 14, 15] rfl rfl hl.1 rfl (Nat.le_of_ble_eq_true rfl) dX5_branch_57 ⟨Nat.le_of_ble_eq_true rfl, Nat.le_of_ble_eq_true rfl⟩ ?_
    exact ro_iret hx hb hr hlk dX5_branch_60 (rfl)
  ·
    exact absurd hj c1
set_option maxHeartbeats 4000000 in
set_option maxRecDepth 100000 in
theorem c_X5_branch_1 (l : Launch) (D : va_G) (cI cJ cZ : ClassId) (x0 w0 d0 k0 kl ks kw b0 bb bd bm bl bf ba bk bg p0 h0 hl1 hs1 hw1 hc1 i0 il1 is1 iw1 ic1 ik it : Nat) (A : Nat) (s : Nat) (dA : Nat) (dz : Nat) (KL : Nat → Nat) (KS : Nat → Nat) (KW : Nat → Nat) (n : Nat) (BB : Nat → Nat) (BD : Nat → Nat) (BM : Nat → Nat) (BL : Nat → Nat) (BF : Nat → Nat) (BA : Nat → Nat) (BK : Nat → Nat) (BG : Nat → Nat) (nx : Nat) (pz : Nat) (HL : Nat → Nat) (HS : Nat → Nat) (HW : Nat → Nat) (HC : Nat → Nat) (IL : Nat → Nat) (IS : Nat → Nat) (IW : Nat → Nat) (IC : Nat → Nat) (IK : Nat → Nat) (IT : Nat → Nat) (sd : Nat) (hn : n ≤ 24) (hw0 : Wf s A) (hk : ∀ k, k < n → Wf (KS k) (KL k)) (hv : ∀ k, k < n → KW k ≤ 9999) (hso : Srt KS KL n) (hTr : TrX (gapF KS KL) n BB BD BM BL BF BA BK) (hnx : nx < 20) (hpz : pz ≤ 20) (hsd : sd < 2 ^ 31) (j : Nat) (hj : j < n - 1) : RO l yX5_branch cX5_branch 3 (some .int) (rmN 3 62) D (ty3 cI cJ cZ) [.ref x0, .int (nI j), .int (nI 1)] [(x0, .inr (5, [.ref w0, .ref d0, .ref k0, .ref b0, .ref p0, .ref i0, .ref ik, .ref it, .int (nI sd)])), (w0, .inr (4, [.long (lN A), .int (nI s)])), (d0, .inr (4, [.long (lN dA), .int (nI dz)])), (k0, .inr (1, [.ref kl, .ref ks, .ref kw, .int (nI n)])), (kl, .inl (cJ, 24, .inr (.inl (lF KL)))), (ks, .inl (cI, 24, .inl (nF KS))), (kw, .inl (cI, 24, .inl (nF KW))), (b0, .inr (0, [.ref bb, .ref bd, .ref bm, .ref bl, .ref bf, .ref ba, .ref bk, .ref bg, .int (nI n)])), (bb, .inl (cI, 24, .inl (nF BB))), (bd, .inl (cI, 24, .inl (nF BD))), (bm, .inl (cI, 24, .inl (nF BM))), (bl, .inl (cI, 24, .inl (nF BL))), (bf, .inl (cI, 24, .inl (nF BF))), (ba, .inl (cI, 24, .inl (oF BA))), (bk, .inl (cI, 24, .inl (oF BK))), (bg, .inl (cI, 24, .inl (nF BG))), (p0, .inr (2, [.ref h0, .int (nI nx), .int (nI pz)])), (h0, .inr (3, [.int (nI 20), .ref hl1, .ref hs1, .ref hw1, .ref hc1])), (hl1, .inl (cJ, 20 * 24, .inr (.inl (lF HL)))), (hs1, .inl (cI, 20 * 24, .inl (nF HS))), (hw1, .inl (cI, 20 * 24, .inl (nF HW))), (hc1, .inl (cI, 20, .inl (nF HC))), (i0, .inr (3, [.int (nI 2), .ref il1, .ref is1, .ref iw1, .ref ic1])), (il1, .inl (cJ, 2 * 24, .inr (.inl (lF IL)))), (is1, .inl (cI, 2 * 24, .inl (nF IS))), (iw1, .inl (cI, 2 * 24, .inl (nF IW))), (ic1, .inl (cI, 2, .inl (nF IC))), (ik, .inl (cZ, 2, .inl (nF IK))), (it, .inl (cI, 2, .inl (nF IT)))] (.int (nI (BD j))) := by
  have hs8 := hw0.1
  have hA64 := hw0.2.1
  have hBK := tf_BK hTr hn
  have hDK := tf_DK hTr hn
  have hB := tf_B hTr
  have hBF := tf_BF hTr hn
  have hT := tf_T hTr hso
  have hanc := tf_anc hTr hn
  have hp := plc_le KS KL n s A
  have hcb := cbl_le KS KL n s A
  have hfl := fnd_le KS KL n s A
  refine ro_start (by decide) (Nat.le_of_ble_eq_true rfl) ?_
  intro pp ee ss mm below meth cd C0 hP hK ls hl
  obtain ⟨hx, hb, hr, hml, hown, hts, hlk⟩ := C0
  have hown : ss.vm.findClass RX5 = some mm.cls := hown
  have hl : lv_has ls 3 [(0, .ref x0), (1, .int (nI j)), (2, .int (nI 1))] := hl
  have hP : va_P D vwCl [(x0, .inr (5, [.ref w0, .ref d0, .ref k0, .ref b0, .ref p0, .ref i0, .ref ik, .ref it, .int (nI sd)])), (w0, .inr (4, [.long (lN A), .int (nI s)])), (d0, .inr (4, [.long (lN dA), .int (nI dz)])), (k0, .inr (1, [.ref kl, .ref ks, .ref kw, .int (nI n)])), (kl, .inl (cJ, 24, .inr (.inl (lF KL)))), (ks, .inl (cI, 24, .inl (nF KS))), (kw, .inl (cI, 24, .inl (nF KW))), (b0, .inr (0, [.ref bb, .ref bd, .ref bm, .ref bl, .ref bf, .ref ba, .ref bk, .ref bg, .int (nI n)])), (bb, .inl (cI, 24, .inl (nF BB))), (bd, .inl (cI, 24, .inl (nF BD))), (bm, .inl (cI, 24, .inl (nF BM))), (bl, .inl (cI, 24, .inl (nF BL))), (bf, .inl (cI, 24, .inl (nF BF))), (ba, .inl (cI, 24, .inl (oF BA))), (bk, .inl (cI, 24, .inl (oF BK))), (bg, .inl (cI, 24, .inl (nF BG))), (p0, .inr (2, [.ref h0, .int (nI nx), .int (nI pz)])), (h0, .inr (3, [.int (nI 20), .ref hl1, .ref hs1, .ref hw1, .ref hc1])), (hl1, .inl (cJ, 20 * 24, .inr (.inl (lF HL)))), (hs1, .inl (cI, 20 * 24, .inl (nF HS))), (hw1, .inl (cI, 20 * 24, .inl (nF HW))), (hc1, .inl (cI, 20, .inl (nF HC))), (i0, .inr (3, [.int (nI 2), .ref il1, .ref is1, .ref iw1, .ref ic1])), (il1, .inl (cJ, 2 * 24, .inr (.inl (lF IL)))), (is1, .inl (cI, 2 * 24, .inl (nF IS))), (iw1, .inl (cI, 2 * 24, .inl (nF IW))), (ic1, .inl (cI, 2, .inl (nF IC))), (ik, .inl (cZ, 2, .inl (nF IK))), (it, .inl (cI, 2, .inl (nF IT)))] ss.heap := hP
  refine lv_aload_n hx hb dX5_branch_0 rfl (lv_at hl 0 rfl) ?_
  refine va_get (D := D) (ci := 5) (v := .ref b0) (C := RX5) (T := TX5) (N := 9) hx hb hts inX5 hown hK hP 0 rfl rfl 3 (by decide) (hts _ mf_X5_29) (fun _ h9 => h9) rfl dX5_branch_1 ?_
  refine lv_iload_n hx hb dX5_branch_4 rfl (lv_at hl 1 rfl) ?_
  refine ro_V (As := [.int (nI j)]) (rest := []) ⟨hx, hb, hml, hown, hts⟩ (c_X0_has l D cI cJ cZ b0 bb bd bm bl bf ba bk bg BB BD BM BL BF BA BK BG n (by omega) j (by omega)) (k_X5_131 hts ⟨Nat.le_of_ble_eq_true rfl, Nat.le_of_ble_eq_true rfl⟩) hK hP 7 rfl rfl rfl [7, 8, 9, 10, 11, 12, 13, 14, 15] rfl rfl hl.1 rfl (Nat.le_of_ble_eq_true rfl) dX5_branch_5 ⟨Nat.le_of_ble_eq_true rfl, Nat.le_of_ble_eq_true rfl⟩ ?_
  refine b_if_ne (tgt := 14) hx hb dX5_branch_8 (by decide) (fun c1 => ?_) (fun c1 => ?_)
  ·
    refine lv_iload_n hx hb dX5_branch_14 rfl (lv_at hl 2 rfl) ?_
    refine lv_tableIn (tgt := 61) (off := 46) hx hb dX5_branch_15 (by decide +kernel) (by decide +kernel) (by decide +kernel) (by decide) ?_
    refine lv_aload_n hx hb dX5_branch_61 rfl (lv_at hl 0 rfl) ?_
    refine va_get (D := D) (ci := 5) (v := .ref b0) (C := RX5) (T := TX5) (N := 9) hx hb hts inX5 hown hK hP 0 rfl rfl 3 (by decide) (hts _ mf_X5_29) (fun _ h9 => h9) rfl dX5_branch_62 ?_
    refine lv_iload_n hx hb dX5_branch_65 rfl (lv_at hl 1 rfl) ?_
    refine ro_V (As := [.int (nI j)]) (rest := []) ⟨hx, hb, hml, hown, hts⟩ (c_X0_depthOf l D cI cJ cZ b0 bb bd bm bl bf ba bk bg BB BD BM BL BF BA BK BG n (by omega) j (by omega)) (k_X5_135 hts ⟨Nat.le_of_ble_eq_true rfl, Nat.le_of_ble_eq_true rfl⟩) hK hP 7 rfl rfl rfl [7, 8, 9, 10, 11, 12, 13, 14, 15] rfl rfl hl.1 rfl (Nat.le_of_ble_eq_true rfl) dX5_branch_66 ⟨Nat.le_of_ble_eq_true rfl, Nat.le_of_ble_eq_true rfl⟩ ?_
    exact ro_iret hx hb hr hlk dX5_branch_69 (rfl)
  ·
    exact absurd hj c1
set_option maxHeartbeats 4000000 in
set_option maxRecDepth 100000 in
theorem c_X5_branch_2 (l : Launch) (D : va_G) (cI cJ cZ : ClassId) (x0 w0 d0 k0 kl ks kw b0 bb bd bm bl bf ba bk bg p0 h0 hl1 hs1 hw1 hc1 i0 il1 is1 iw1 ic1 ik it : Nat) (A : Nat) (s : Nat) (dA : Nat) (dz : Nat) (KL : Nat → Nat) (KS : Nat → Nat) (KW : Nat → Nat) (n : Nat) (BB : Nat → Nat) (BD : Nat → Nat) (BM : Nat → Nat) (BL : Nat → Nat) (BF : Nat → Nat) (BA : Nat → Nat) (BK : Nat → Nat) (BG : Nat → Nat) (nx : Nat) (pz : Nat) (HL : Nat → Nat) (HS : Nat → Nat) (HW : Nat → Nat) (HC : Nat → Nat) (IL : Nat → Nat) (IS : Nat → Nat) (IW : Nat → Nat) (IC : Nat → Nat) (IK : Nat → Nat) (IT : Nat → Nat) (sd : Nat) (hn : n ≤ 24) (hw0 : Wf s A) (hk : ∀ k, k < n → Wf (KS k) (KL k)) (hv : ∀ k, k < n → KW k ≤ 9999) (hso : Srt KS KL n) (hTr : TrX (gapF KS KL) n BB BD BM BL BF BA BK) (hnx : nx < 20) (hpz : pz ≤ 20) (hsd : sd < 2 ^ 31) (j : Nat) (hj : j < n - 1) : RO l yX5_branch cX5_branch 3 (some .int) (rmN 3 62) D (ty3 cI cJ cZ) [.ref x0, .int (nI j), .int (nI 2)] [(x0, .inr (5, [.ref w0, .ref d0, .ref k0, .ref b0, .ref p0, .ref i0, .ref ik, .ref it, .int (nI sd)])), (w0, .inr (4, [.long (lN A), .int (nI s)])), (d0, .inr (4, [.long (lN dA), .int (nI dz)])), (k0, .inr (1, [.ref kl, .ref ks, .ref kw, .int (nI n)])), (kl, .inl (cJ, 24, .inr (.inl (lF KL)))), (ks, .inl (cI, 24, .inl (nF KS))), (kw, .inl (cI, 24, .inl (nF KW))), (b0, .inr (0, [.ref bb, .ref bd, .ref bm, .ref bl, .ref bf, .ref ba, .ref bk, .ref bg, .int (nI n)])), (bb, .inl (cI, 24, .inl (nF BB))), (bd, .inl (cI, 24, .inl (nF BD))), (bm, .inl (cI, 24, .inl (nF BM))), (bl, .inl (cI, 24, .inl (nF BL))), (bf, .inl (cI, 24, .inl (nF BF))), (ba, .inl (cI, 24, .inl (oF BA))), (bk, .inl (cI, 24, .inl (oF BK))), (bg, .inl (cI, 24, .inl (nF BG))), (p0, .inr (2, [.ref h0, .int (nI nx), .int (nI pz)])), (h0, .inr (3, [.int (nI 20), .ref hl1, .ref hs1, .ref hw1, .ref hc1])), (hl1, .inl (cJ, 20 * 24, .inr (.inl (lF HL)))), (hs1, .inl (cI, 20 * 24, .inl (nF HS))), (hw1, .inl (cI, 20 * 24, .inl (nF HW))), (hc1, .inl (cI, 20, .inl (nF HC))), (i0, .inr (3, [.int (nI 2), .ref il1, .ref is1, .ref iw1, .ref ic1])), (il1, .inl (cJ, 2 * 24, .inr (.inl (lF IL)))), (is1, .inl (cI, 2 * 24, .inl (nF IS))), (iw1, .inl (cI, 2 * 24, .inl (nF IW))), (ic1, .inl (cI, 2, .inl (nF IC))), (ik, .inl (cZ, 2, .inl (nF IK))), (it, .inl (cI, 2, .inl (nF IT)))] (.int (nI (BM j))) := by
  have hs8 := hw0.1
  have hA64 := hw0.2.1
  have hBK := tf_BK hTr hn
  have hDK := tf_DK hTr hn
  have hB := tf_B hTr
  have hBF := tf_BF hTr hn
  have hT := tf_T hTr hso
  have hanc := tf_anc hTr hn
  have hp := plc_le KS KL n s A
  have hcb := cbl_le KS KL n s A
  have hfl := fnd_le KS KL n s A
  refine ro_start (by decide) (Nat.le_of_ble_eq_true rfl) ?_
  intro pp ee ss mm below meth cd C0 hP hK ls hl
  obtain ⟨hx, hb, hr, hml, hown, hts, hlk⟩ := C0
  have hown : ss.vm.findClass RX5 = some mm.cls := hown
  have hl : lv_has ls 3 [(0, .ref x0), (1, .int (nI j)), (2, .int (nI 2))] := hl
  have hP : va_P D vwCl [(x0, .inr (5, [.ref w0, .ref d0, .ref k0, .ref b0, .ref p0, .ref i0, .ref ik, .ref it, .int (nI sd)])), (w0, .inr (4, [.long (lN A), .int (nI s)])), (d0, .inr (4, [.long (lN dA), .int (nI dz)])), (k0, .inr (1, [.ref kl, .ref ks, .ref kw, .int (nI n)])), (kl, .inl (cJ, 24, .inr (.inl (lF KL)))), (ks, .inl (cI, 24, .inl (nF KS))), (kw, .inl (cI, 24, .inl (nF KW))), (b0, .inr (0, [.ref bb, .ref bd, .ref bm, .ref bl, .ref bf, .ref ba, .ref bk, .ref bg, .int (nI n)])), (bb, .inl (cI, 24, .inl (nF BB))), (bd, .inl (cI, 24, .inl (nF BD))), (bm, .inl (cI, 24, .inl (nF BM))), (bl, .inl (cI, 24, .inl (nF BL))), (bf, .inl (cI, 24, .inl (nF BF))), (ba, .inl (cI, 24, .inl (oF BA))), (bk, .inl (cI, 24, .inl (oF BK))), (bg, .inl (cI, 24, .inl (nF BG))), (p0, .inr (2, [.ref h0, .int (nI nx), .int (nI pz)])), (h0, .inr (3, [.int (nI 20), .ref hl1, .ref hs1, .ref hw1, .ref hc1])), (hl1, .inl (cJ, 20 * 24, .inr (.inl (lF HL)))), (hs1, .inl (cI, 20 * 24, .inl (nF HS))), (hw1, .inl (cI, 20 * 24, .inl (nF HW))), (hc1, .inl (cI, 20, .inl (nF HC))), (i0, .inr (3, [.int (nI 2), .ref il1, .ref is1, .ref iw1, .ref ic1])), (il1, .inl (cJ, 2 * 24, .inr (.inl (lF IL)))), (is1, .inl (cI, 2 * 24, .inl (nF IS))), (iw1, .inl (cI, 2 * 24, .inl (nF IW))), (ic1, .inl (cI, 2, .inl (nF IC))), (ik, .inl (cZ, 2, .inl (nF IK))), (it, .inl (cI, 2, .inl (nF IT)))] ss.heap := hP
  refine lv_aload_n hx hb dX5_branch_0 rfl (lv_at hl 0 rfl) ?_
  refine va_get (D := D) (ci := 5) (v := .ref b0) (C := RX5) (T := TX5) (N := 9) hx hb hts inX5 hown hK hP 0 rfl rfl 3 (by decide) (hts _ mf_X5_29) (fun _ h9 => h9) rfl dX5_branch_1 ?_
  refine lv_iload_n hx hb dX5_branch_4 rfl (lv_at hl 1 rfl) ?_
  refine ro_V (As := [.int (nI j)]) (rest := []) ⟨hx, hb, hml, hown, hts⟩ (c_X0_has l D cI cJ cZ b0 bb bd bm bl bf ba bk bg BB BD BM BL BF BA BK BG n (by omega) j (by omega)) (k_X5_131 hts ⟨Nat.le_of_ble_eq_true rfl, Nat.le_of_ble_eq_true rfl⟩) hK hP 7 rfl rfl rfl [7, 8, 9, 10, 11, 12, 13, 14, 15] rfl rfl hl.1 rfl (Nat.le_of_ble_eq_true rfl) dX5_branch_5 ⟨Nat.le_of_ble_eq_true rfl, Nat.le_of_ble_eq_true rfl⟩ ?_
  refine b_if_ne (tgt := 14) hx hb dX5_branch_8 (by decide) (fun c1 => ?_) (fun c1 => ?_)
  ·
    refine lv_iload_n hx hb dX5_branch_14 rfl (lv_at hl 2 rfl) ?_
    refine lv_tableIn (tgt := 70) (off := 55) hx hb dX5_branch_15 (by decide +kernel) (by decide +kernel) (by decide +kernel) (by decide) ?_
    refine lv_aload_n hx hb dX5_branch_70 rfl (lv_at hl 0 rfl) ?_
    refine va_get (D := D) (ci := 5) (v := .ref b0) (C := RX5) (T := TX5) (N := 9) hx hb hts inX5 hown hK hP 0 rfl rfl 3 (by decide) (hts _ mf_X5_29) (fun _ h9 => h9) rfl dX5_branch_71 ?_
    refine lv_iload_n hx hb dX5_branch_74 rfl (lv_at hl 1 rfl) ?_
    refine ro_V (As := [.int (nI j)]) (rest := []) ⟨hx, hb, hml, hown, hts⟩ (c_X0_keysBelow l D cI cJ cZ b0 bb bd bm bl bf ba bk bg BB BD BM BL BF BA BK BG n (by omega) j (by omega)) (k_X5_138 hts ⟨Nat.le_of_ble_eq_true rfl, Nat.le_of_ble_eq_true rfl⟩) hK hP 7 rfl rfl rfl [7, 8, 9, 10, 11, 12, 13, 14, 15] rfl rfl hl.1 rfl (Nat.le_of_ble_eq_true rfl) dX5_branch_75 ⟨Nat.le_of_ble_eq_true rfl, Nat.le_of_ble_eq_true rfl⟩ ?_
    exact ro_iret hx hb hr hlk dX5_branch_78 (rfl)
  ·
    exact absurd hj c1
set_option maxHeartbeats 4000000 in
set_option maxRecDepth 100000 in
theorem c_X5_branch_3 (l : Launch) (D : va_G) (cI cJ cZ : ClassId) (x0 w0 d0 k0 kl ks kw b0 bb bd bm bl bf ba bk bg p0 h0 hl1 hs1 hw1 hc1 i0 il1 is1 iw1 ic1 ik it : Nat) (A : Nat) (s : Nat) (dA : Nat) (dz : Nat) (KL : Nat → Nat) (KS : Nat → Nat) (KW : Nat → Nat) (n : Nat) (BB : Nat → Nat) (BD : Nat → Nat) (BM : Nat → Nat) (BL : Nat → Nat) (BF : Nat → Nat) (BA : Nat → Nat) (BK : Nat → Nat) (BG : Nat → Nat) (nx : Nat) (pz : Nat) (HL : Nat → Nat) (HS : Nat → Nat) (HW : Nat → Nat) (HC : Nat → Nat) (IL : Nat → Nat) (IS : Nat → Nat) (IW : Nat → Nat) (IC : Nat → Nat) (IK : Nat → Nat) (IT : Nat → Nat) (sd : Nat) (hn : n ≤ 24) (hw0 : Wf s A) (hk : ∀ k, k < n → Wf (KS k) (KL k)) (hv : ∀ k, k < n → KW k ≤ 9999) (hso : Srt KS KL n) (hTr : TrX (gapF KS KL) n BB BD BM BL BF BA BK) (hnx : nx < 20) (hpz : pz ≤ 20) (hsd : sd < 2 ^ 31) (j : Nat) (hj : j < n - 1) : RO l yX5_branch cX5_branch 3 (some .int) (rmN 3 62) D (ty3 cI cJ cZ) [.ref x0, .int (nI j), .int (nI 3)] [(x0, .inr (5, [.ref w0, .ref d0, .ref k0, .ref b0, .ref p0, .ref i0, .ref ik, .ref it, .int (nI sd)])), (w0, .inr (4, [.long (lN A), .int (nI s)])), (d0, .inr (4, [.long (lN dA), .int (nI dz)])), (k0, .inr (1, [.ref kl, .ref ks, .ref kw, .int (nI n)])), (kl, .inl (cJ, 24, .inr (.inl (lF KL)))), (ks, .inl (cI, 24, .inl (nF KS))), (kw, .inl (cI, 24, .inl (nF KW))), (b0, .inr (0, [.ref bb, .ref bd, .ref bm, .ref bl, .ref bf, .ref ba, .ref bk, .ref bg, .int (nI n)])), (bb, .inl (cI, 24, .inl (nF BB))), (bd, .inl (cI, 24, .inl (nF BD))), (bm, .inl (cI, 24, .inl (nF BM))), (bl, .inl (cI, 24, .inl (nF BL))), (bf, .inl (cI, 24, .inl (nF BF))), (ba, .inl (cI, 24, .inl (oF BA))), (bk, .inl (cI, 24, .inl (oF BK))), (bg, .inl (cI, 24, .inl (nF BG))), (p0, .inr (2, [.ref h0, .int (nI nx), .int (nI pz)])), (h0, .inr (3, [.int (nI 20), .ref hl1, .ref hs1, .ref hw1, .ref hc1])), (hl1, .inl (cJ, 20 * 24, .inr (.inl (lF HL)))), (hs1, .inl (cI, 20 * 24, .inl (nF HS))), (hw1, .inl (cI, 20 * 24, .inl (nF HW))), (hc1, .inl (cI, 20, .inl (nF HC))), (i0, .inr (3, [.int (nI 2), .ref il1, .ref is1, .ref iw1, .ref ic1])), (il1, .inl (cJ, 2 * 24, .inr (.inl (lF IL)))), (is1, .inl (cI, 2 * 24, .inl (nF IS))), (iw1, .inl (cI, 2 * 24, .inl (nF IW))), (ic1, .inl (cI, 2, .inl (nF IC))), (ik, .inl (cZ, 2, .inl (nF IK))), (it, .inl (cI, 2, .inl (nF IT)))] (.int (nI (BL j))) := by
  have hs8 := hw0.1
  have hA64 := hw0.2.1
  have hBK := tf_BK hTr hn
  have hDK := tf_DK hTr hn
  have hB := tf_B hTr
  have hBF := tf_BF hTr hn
  have hT := tf_T hTr hso
  have hanc := tf_anc hTr hn
  have hp := plc_le KS KL n s A
  have hcb := cbl_le KS KL n s A
  have hfl := fnd_le KS KL n s A
  refine ro_start (by decide) (Nat.le_of_ble_eq_true rfl) ?_
  intro pp ee ss mm below meth cd C0 hP hK ls hl
  obtain ⟨hx, hb, hr, hml, hown, hts, hlk⟩ := C0
  have hown : ss.vm.findClass RX5 = some mm.cls := hown
  have hl : lv_has ls 3 [(0, .ref x0), (1, .int (nI j)), (2, .int (nI 3))] := hl
  have hP : va_P D vwCl [(x0, .inr (5, [.ref w0, .ref d0, .ref k0, .ref b0, .ref p0, .ref i0, .ref ik, .ref it, .int (nI sd)])), (w0, .inr (4, [.long (lN A), .int (nI s)])), (d0, .inr (4, [.long (lN dA), .int (nI dz)])), (k0, .inr (1, [.ref kl, .ref ks, .ref kw, .int (nI n)])), (kl, .inl (cJ, 24, .inr (.inl (lF KL)))), (ks, .inl (cI, 24, .inl (nF KS))), (kw, .inl (cI, 24, .inl (nF KW))), (b0, .inr (0, [.ref bb, .ref bd, .ref bm, .ref bl, .ref bf, .ref ba, .ref bk, .ref bg, .int (nI n)])), (bb, .inl (cI, 24, .inl (nF BB))), (bd, .inl (cI, 24, .inl (nF BD))), (bm, .inl (cI, 24, .inl (nF BM))), (bl, .inl (cI, 24, .inl (nF BL))), (bf, .inl (cI, 24, .inl (nF BF))), (ba, .inl (cI, 24, .inl (oF BA))), (bk, .inl (cI, 24, .inl (oF BK))), (bg, .inl (cI, 24, .inl (nF BG))), (p0, .inr (2, [.ref h0, .int (nI nx), .int (nI pz)])), (h0, .inr (3, [.int (nI 20), .ref hl1, .ref hs1, .ref hw1, .ref hc1])), (hl1, .inl (cJ, 20 * 24, .inr (.inl (lF HL)))), (hs1, .inl (cI, 20 * 24, .inl (nF HS))), (hw1, .inl (cI, 20 * 24, .inl (nF HW))), (hc1, .inl (cI, 20, .inl (nF HC))), (i0, .inr (3, [.int (nI 2), .ref il1, .ref is1, .ref iw1, .ref ic1])), (il1, .inl (cJ, 2 * 24, .inr (.inl (lF IL)))), (is1, .inl (cI, 2 * 24, .inl (nF IS))), (iw1, .inl (cI, 2 * 24, .inl (nF IW))), (ic1, .inl (cI, 2, .inl (nF IC))), (ik, .inl (cZ, 2, .inl (nF IK))), (it, .inl (cI, 2, .inl (nF IT)))] ss.heap := hP
  refine lv_aload_n hx hb dX5_branch_0 rfl (lv_at hl 0 rfl) ?_
  refine va_get (D := D) (ci := 5) (v := .ref b0) (C := RX5) (T := TX5) (N := 9) hx hb hts inX5 hown hK hP 0 rfl rfl 3 (by decide) (hts _ mf_X5_29) (fun _ h9 => h9) rfl dX5_branch_1 ?_
  refine lv_iload_n hx hb dX5_branch_4 rfl (lv_at hl 1 rfl) ?_
  refine ro_V (As := [.int (nI j)]) (rest := []) ⟨hx, hb, hml, hown, hts⟩ (c_X0_has l D cI cJ cZ b0 bb bd bm bl bf ba bk bg BB BD BM BL BF BA BK BG n (by omega) j (by omega)) (k_X5_131 hts ⟨Nat.le_of_ble_eq_true rfl, Nat.le_of_ble_eq_true rfl⟩) hK hP 7 rfl rfl rfl [7, 8, 9, 10, 11, 12, 13, 14, 15] rfl rfl hl.1 rfl (Nat.le_of_ble_eq_true rfl) dX5_branch_5 ⟨Nat.le_of_ble_eq_true rfl, Nat.le_of_ble_eq_true rfl⟩ ?_
  refine b_if_ne (tgt := 14) hx hb dX5_branch_8 (by decide) (fun c1 => ?_) (fun c1 => ?_)
  ·
    refine lv_iload_n hx hb dX5_branch_14 rfl (lv_at hl 2 rfl) ?_
    refine lv_tableIn (tgt := 79) (off := 64) hx hb dX5_branch_15 (by decide +kernel) (by decide +kernel) (by decide +kernel) (by decide) ?_
    refine lv_aload_n hx hb dX5_branch_79 rfl (lv_at hl 0 rfl) ?_
    refine va_get (D := D) (ci := 5) (v := .ref b0) (C := RX5) (T := TX5) (N := 9) hx hb hts inX5 hown hK hP 0 rfl rfl 3 (by decide) (hts _ mf_X5_29) (fun _ h9 => h9) rfl dX5_branch_80 ?_
    refine lv_iload_n hx hb dX5_branch_83 rfl (lv_at hl 1 rfl) ?_
    refine ro_V (As := [.int (nI j)]) (rest := []) ⟨hx, hb, hml, hown, hts⟩ (c_X0_keysLeft l D cI cJ cZ b0 bb bd bm bl bf ba bk bg BB BD BM BL BF BA BK BG n (by omega) j (by omega)) (k_X5_141 hts ⟨Nat.le_of_ble_eq_true rfl, Nat.le_of_ble_eq_true rfl⟩) hK hP 7 rfl rfl rfl [7, 8, 9, 10, 11, 12, 13, 14, 15] rfl rfl hl.1 rfl (Nat.le_of_ble_eq_true rfl) dX5_branch_84 ⟨Nat.le_of_ble_eq_true rfl, Nat.le_of_ble_eq_true rfl⟩ ?_
    exact ro_iret hx hb hr hlk dX5_branch_87 (rfl)
  ·
    exact absurd hj c1
set_option maxHeartbeats 4000000 in
set_option maxRecDepth 100000 in
theorem c_X5_branch_4 (l : Launch) (D : va_G) (cI cJ cZ : ClassId) (x0 w0 d0 k0 kl ks kw b0 bb bd bm bl bf ba bk bg p0 h0 hl1 hs1 hw1 hc1 i0 il1 is1 iw1 ic1 ik it : Nat) (A : Nat) (s : Nat) (dA : Nat) (dz : Nat) (KL : Nat → Nat) (KS : Nat → Nat) (KW : Nat → Nat) (n : Nat) (BB : Nat → Nat) (BD : Nat → Nat) (BM : Nat → Nat) (BL : Nat → Nat) (BF : Nat → Nat) (BA : Nat → Nat) (BK : Nat → Nat) (BG : Nat → Nat) (nx : Nat) (pz : Nat) (HL : Nat → Nat) (HS : Nat → Nat) (HW : Nat → Nat) (HC : Nat → Nat) (IL : Nat → Nat) (IS : Nat → Nat) (IW : Nat → Nat) (IC : Nat → Nat) (IK : Nat → Nat) (IT : Nat → Nat) (sd : Nat) (hn : n ≤ 24) (hw0 : Wf s A) (hk : ∀ k, k < n → Wf (KS k) (KL k)) (hv : ∀ k, k < n → KW k ≤ 9999) (hso : Srt KS KL n) (hTr : TrX (gapF KS KL) n BB BD BM BL BF BA BK) (hnx : nx < 20) (hpz : pz ≤ 20) (hsd : sd < 2 ^ 31) (j : Nat) (hj : j < n - 1) : RO l yX5_branch cX5_branch 3 (some .int) (rmN 3 62) D (ty3 cI cJ cZ) [.ref x0, .int (nI j), .int (nI 4)] [(x0, .inr (5, [.ref w0, .ref d0, .ref k0, .ref b0, .ref p0, .ref i0, .ref ik, .ref it, .int (nI sd)])), (w0, .inr (4, [.long (lN A), .int (nI s)])), (d0, .inr (4, [.long (lN dA), .int (nI dz)])), (k0, .inr (1, [.ref kl, .ref ks, .ref kw, .int (nI n)])), (kl, .inl (cJ, 24, .inr (.inl (lF KL)))), (ks, .inl (cI, 24, .inl (nF KS))), (kw, .inl (cI, 24, .inl (nF KW))), (b0, .inr (0, [.ref bb, .ref bd, .ref bm, .ref bl, .ref bf, .ref ba, .ref bk, .ref bg, .int (nI n)])), (bb, .inl (cI, 24, .inl (nF BB))), (bd, .inl (cI, 24, .inl (nF BD))), (bm, .inl (cI, 24, .inl (nF BM))), (bl, .inl (cI, 24, .inl (nF BL))), (bf, .inl (cI, 24, .inl (nF BF))), (ba, .inl (cI, 24, .inl (oF BA))), (bk, .inl (cI, 24, .inl (oF BK))), (bg, .inl (cI, 24, .inl (nF BG))), (p0, .inr (2, [.ref h0, .int (nI nx), .int (nI pz)])), (h0, .inr (3, [.int (nI 20), .ref hl1, .ref hs1, .ref hw1, .ref hc1])), (hl1, .inl (cJ, 20 * 24, .inr (.inl (lF HL)))), (hs1, .inl (cI, 20 * 24, .inl (nF HS))), (hw1, .inl (cI, 20 * 24, .inl (nF HW))), (hc1, .inl (cI, 20, .inl (nF HC))), (i0, .inr (3, [.int (nI 2), .ref il1, .ref is1, .ref iw1, .ref ic1])), (il1, .inl (cJ, 2 * 24, .inr (.inl (lF IL)))), (is1, .inl (cI, 2 * 24, .inl (nF IS))), (iw1, .inl (cI, 2 * 24, .inl (nF IW))), (ic1, .inl (cI, 2, .inl (nF IC))), (ik, .inl (cZ, 2, .inl (nF IK))), (it, .inl (cI, 2, .inl (nF IT)))] (.int (nI (BF j))) := by
  have hs8 := hw0.1
  have hA64 := hw0.2.1
  have hBK := tf_BK hTr hn
  have hDK := tf_DK hTr hn
  have hB := tf_B hTr
  have hBF := tf_BF hTr hn
  have hT := tf_T hTr hso
  have hanc := tf_anc hTr hn
  have hp := plc_le KS KL n s A
  have hcb := cbl_le KS KL n s A
  have hfl := fnd_le KS KL n s A
  refine ro_start (by decide) (Nat.le_of_ble_eq_true rfl) ?_
  intro pp ee ss mm below meth cd C0 hP hK ls hl
  obtain ⟨hx, hb, hr, hml, hown, hts, hlk⟩ := C0
  have hown : ss.vm.findClass RX5 = some mm.cls := hown
  have hl : lv_has ls 3 [(0, .ref x0), (1, .int (nI j)), (2, .int (nI 4))] := hl
  have hP : va_P D vwCl [(x0, .inr (5, [.ref w0, .ref d0, .ref k0, .ref b0, .ref p0, .ref i0, .ref ik, .ref it, .int (nI sd)])), (w0, .inr (4, [.long (lN A), .int (nI s)])), (d0, .inr (4, [.long (lN dA), .int (nI dz)])), (k0, .inr (1, [.ref kl, .ref ks, .ref kw, .int (nI n)])), (kl, .inl (cJ, 24, .inr (.inl (lF KL)))), (ks, .inl (cI, 24, .inl (nF KS))), (kw, .inl (cI, 24, .inl (nF KW))), (b0, .inr (0, [.ref bb, .ref bd, .ref bm, .ref bl, .ref bf, .ref ba, .ref bk, .ref bg, .int (nI n)])), (bb, .inl (cI, 24, .inl (nF BB))), (bd, .inl (cI, 24, .inl (nF BD))), (bm, .inl (cI, 24, .inl (nF BM))), (bl, .inl (cI, 24, .inl (nF BL))), (bf, .inl (cI, 24, .inl (nF BF))), (ba, .inl (cI, 24, .inl (oF BA))), (bk, .inl (cI, 24, .inl (oF BK))), (bg, .inl (cI, 24, .inl (nF BG))), (p0, .inr (2, [.ref h0, .int (nI nx), .int (nI pz)])), (h0, .inr (3, [.int (nI 20), .ref hl1, .ref hs1, .ref hw1, .ref hc1])), (hl1, .inl (cJ, 20 * 24, .inr (.inl (lF HL)))), (hs1, .inl (cI, 20 * 24, .inl (nF HS))), (hw1, .inl (cI, 20 * 24, .inl (nF HW))), (hc1, .inl (cI, 20, .inl (nF HC))), (i0, .inr (3, [.int (nI 2), .ref il1, .ref is1, .ref iw1, .ref ic1])), (il1, .inl (cJ, 2 * 24, .inr (.inl (lF IL)))), (is1, .inl (cI, 2 * 24, .inl (nF IS))), (iw1, .inl (cI, 2 * 24, .inl (nF IW))), (ic1, .inl (cI, 2, .inl (nF IC))), (ik, .inl (cZ, 2, .inl (nF IK))), (it, .inl (cI, 2, .inl (nF IT)))] ss.heap := hP
  refine lv_aload_n hx hb dX5_branch_0 rfl (lv_at hl 0 rfl) ?_
  refine va_get (D := D) (ci := 5) (v := .ref b0) (C := RX5) (T := TX5) (N := 9) hx hb hts inX5 hown hK hP 0 rfl rfl 3 (by decide) (hts _ mf_X5_29) (fun _ h9 => h9) rfl dX5_branch_1 ?_
  refine lv_iload_n hx hb dX5_branch_4 rfl (lv_at hl 1 rfl) ?_
  refine ro_V (As := [.int (nI j)]) (rest := []) ⟨hx, hb, hml, hown, hts⟩ (c_X0_has l D cI cJ cZ b0 bb bd bm bl bf ba bk bg BB BD BM BL BF BA BK BG n (by omega) j (by omega)) (k_X5_131 hts ⟨Nat.le_of_ble_eq_true rfl, Nat.le_of_ble_eq_true rfl⟩) hK hP 7 rfl rfl rfl [7, 8, 9, 10, 11, 12, 13, 14, 15] rfl rfl hl.1 rfl (Nat.le_of_ble_eq_true rfl) dX5_branch_5 ⟨Nat.le_of_ble_eq_true rfl, Nat.le_of_ble_eq_true rfl⟩ ?_
  refine b_if_ne (tgt := 14) hx hb dX5_branch_8 (by decide) (fun c1 => ?_) (fun c1 => ?_)
  ·
    refine lv_iload_n hx hb dX5_branch_14 rfl (lv_at hl 2 rfl) ?_
    refine lv_tableIn (tgt := 88) (off := 73) hx hb dX5_branch_15 (by decide +kernel) (by decide +kernel) (by decide +kernel) (by decide) ?_
    refine lv_aload_n hx hb dX5_branch_88 rfl (lv_at hl 0 rfl) ?_
    refine va_get (D := D) (ci := 5) (v := .ref b0) (C := RX5) (T := TX5) (N := 9) hx hb hts inX5 hown hK hP 0 rfl rfl 3 (by decide) (hts _ mf_X5_29) (fun _ h9 => h9) rfl dX5_branch_89 ?_
    refine lv_iload_n hx hb dX5_branch_92 rfl (lv_at hl 1 rfl) ?_
    refine ro_V (As := [.int (nI j)]) (rest := []) ⟨hx, hb, hml, hown, hts⟩ (c_X0_firstKey l D cI cJ cZ b0 bb bd bm bl bf ba bk bg BB BD BM BL BF BA BK BG n (by omega) j (by omega)) (k_X5_144 hts ⟨Nat.le_of_ble_eq_true rfl, Nat.le_of_ble_eq_true rfl⟩) hK hP 7 rfl rfl rfl [7, 8, 9, 10, 11, 12, 13, 14, 15] rfl rfl hl.1 rfl (Nat.le_of_ble_eq_true rfl) dX5_branch_93 ⟨Nat.le_of_ble_eq_true rfl, Nat.le_of_ble_eq_true rfl⟩ ?_
    exact ro_iret hx hb hr hlk dX5_branch_96 (rfl)
  ·
    exact absurd hj c1
set_option maxHeartbeats 4000000 in
set_option maxRecDepth 100000 in
theorem c_X5_branch_5 (l : Launch) (D : va_G) (cI cJ cZ : ClassId) (x0 w0 d0 k0 kl ks kw b0 bb bd bm bl bf ba bk bg p0 h0 hl1 hs1 hw1 hc1 i0 il1 is1 iw1 ic1 ik it : Nat) (A : Nat) (s : Nat) (dA : Nat) (dz : Nat) (KL : Nat → Nat) (KS : Nat → Nat) (KW : Nat → Nat) (n : Nat) (BB : Nat → Nat) (BD : Nat → Nat) (BM : Nat → Nat) (BL : Nat → Nat) (BF : Nat → Nat) (BA : Nat → Nat) (BK : Nat → Nat) (BG : Nat → Nat) (nx : Nat) (pz : Nat) (HL : Nat → Nat) (HS : Nat → Nat) (HW : Nat → Nat) (HC : Nat → Nat) (IL : Nat → Nat) (IS : Nat → Nat) (IW : Nat → Nat) (IC : Nat → Nat) (IK : Nat → Nat) (IT : Nat → Nat) (sd : Nat) (hn : n ≤ 24) (hw0 : Wf s A) (hk : ∀ k, k < n → Wf (KS k) (KL k)) (hv : ∀ k, k < n → KW k ≤ 9999) (hso : Srt KS KL n) (hTr : TrX (gapF KS KL) n BB BD BM BL BF BA BK) (hnx : nx < 20) (hpz : pz ≤ 20) (hsd : sd < 2 ^ 31) (j : Nat) (hj : j < n - 1) : RO l yX5_branch cX5_branch 3 (some .int) (rmN 3 62) D (ty3 cI cJ cZ) [.ref x0, .int (nI j), .int (nI 5)] [(x0, .inr (5, [.ref w0, .ref d0, .ref k0, .ref b0, .ref p0, .ref i0, .ref ik, .ref it, .int (nI sd)])), (w0, .inr (4, [.long (lN A), .int (nI s)])), (d0, .inr (4, [.long (lN dA), .int (nI dz)])), (k0, .inr (1, [.ref kl, .ref ks, .ref kw, .int (nI n)])), (kl, .inl (cJ, 24, .inr (.inl (lF KL)))), (ks, .inl (cI, 24, .inl (nF KS))), (kw, .inl (cI, 24, .inl (nF KW))), (b0, .inr (0, [.ref bb, .ref bd, .ref bm, .ref bl, .ref bf, .ref ba, .ref bk, .ref bg, .int (nI n)])), (bb, .inl (cI, 24, .inl (nF BB))), (bd, .inl (cI, 24, .inl (nF BD))), (bm, .inl (cI, 24, .inl (nF BM))), (bl, .inl (cI, 24, .inl (nF BL))), (bf, .inl (cI, 24, .inl (nF BF))), (ba, .inl (cI, 24, .inl (oF BA))), (bk, .inl (cI, 24, .inl (oF BK))), (bg, .inl (cI, 24, .inl (nF BG))), (p0, .inr (2, [.ref h0, .int (nI nx), .int (nI pz)])), (h0, .inr (3, [.int (nI 20), .ref hl1, .ref hs1, .ref hw1, .ref hc1])), (hl1, .inl (cJ, 20 * 24, .inr (.inl (lF HL)))), (hs1, .inl (cI, 20 * 24, .inl (nF HS))), (hw1, .inl (cI, 20 * 24, .inl (nF HW))), (hc1, .inl (cI, 20, .inl (nF HC))), (i0, .inr (3, [.int (nI 2), .ref il1, .ref is1, .ref iw1, .ref ic1])), (il1, .inl (cJ, 2 * 24, .inr (.inl (lF IL)))), (is1, .inl (cI, 2 * 24, .inl (nF IS))), (iw1, .inl (cI, 2 * 24, .inl (nF IW))), (ic1, .inl (cI, 2, .inl (nF IC))), (ik, .inl (cZ, 2, .inl (nF IK))), (it, .inl (cI, 2, .inl (nF IT)))] (.int (oI (BA j))) := by
  have hs8 := hw0.1
  have hA64 := hw0.2.1
  have hBK := tf_BK hTr hn
  have hDK := tf_DK hTr hn
  have hB := tf_B hTr
  have hBF := tf_BF hTr hn
  have hT := tf_T hTr hso
  have hanc := tf_anc hTr hn
  have hp := plc_le KS KL n s A
  have hcb := cbl_le KS KL n s A
  have hfl := fnd_le KS KL n s A
  refine ro_start (by decide) (Nat.le_of_ble_eq_true rfl) ?_
  intro pp ee ss mm below meth cd C0 hP hK ls hl
  obtain ⟨hx, hb, hr, hml, hown, hts, hlk⟩ := C0
  have hown : ss.vm.findClass RX5 = some mm.cls := hown
  have hl : lv_has ls 3 [(0, .ref x0), (1, .int (nI j)), (2, .int (nI 5))] := hl
  have hP : va_P D vwCl [(x0, .inr (5, [.ref w0, .ref d0, .ref k0, .ref b0, .ref p0, .ref i0, .ref ik, .ref it, .int (nI sd)])), (w0, .inr (4, [.long (lN A), .int (nI s)])), (d0, .inr (4, [.long (lN dA), .int (nI dz)])), (k0, .inr (1, [.ref kl, .ref ks, .ref kw, .int (nI n)])), (kl, .inl (cJ, 24, .inr (.inl (lF KL)))), (ks, .inl (cI, 24, .inl (nF KS))), (kw, .inl (cI, 24, .inl (nF KW))), (b0, .inr (0, [.ref bb, .ref bd, .ref bm, .ref bl, .ref bf, .ref ba, .ref bk, .ref bg, .int (nI n)])), (bb, .inl (cI, 24, .inl (nF BB))), (bd, .inl (cI, 24, .inl (nF BD))), (bm, .inl (cI, 24, .inl (nF BM))), (bl, .inl (cI, 24, .inl (nF BL))), (bf, .inl (cI, 24, .inl (nF BF))), (ba, .inl (cI, 24, .inl (oF BA))), (bk, .inl (cI, 24, .inl (oF BK))), (bg, .inl (cI, 24, .inl (nF BG))), (p0, .inr (2, [.ref h0, .int (nI nx), .int (nI pz)])), (h0, .inr (3, [.int (nI 20), .ref hl1, .ref hs1, .ref hw1, .ref hc1])), (hl1, .inl (cJ, 20 * 24, .inr (.inl (lF HL)))), (hs1, .inl (cI, 20 * 24, .inl (nF HS))), (hw1, .inl (cI, 20 * 24, .inl (nF HW))), (hc1, .inl (cI, 20, .inl (nF HC))), (i0, .inr (3, [.int (nI 2), .ref il1, .ref is1, .ref iw1, .ref ic1])), (il1, .inl (cJ, 2 * 24, .inr (.inl (lF IL)))), (is1, .inl (cI, 2 * 24, .inl (nF IS))), (iw1, .inl (cI, 2 * 24, .inl (nF IW))), (ic1, .inl (cI, 2, .inl (nF IC))), (ik, .inl (cZ, 2, .inl (nF IK))), (it, .inl (cI, 2, .inl (nF IT)))] ss.heap := hP
  refine lv_aload_n hx hb dX5_branch_0 rfl (lv_at hl 0 rfl) ?_
  refine va_get (D := D) (ci := 5) (v := .ref b0) (C := RX5) (T := TX5) (N := 9) hx hb hts inX5 hown hK hP 0 rfl rfl 3 (by decide) (hts _ mf_X5_29) (fun _ h9 => h9) rfl dX5_branch_1 ?_
  refine lv_iload_n hx hb dX5_branch_4 rfl (lv_at hl 1 rfl) ?_
  refine ro_V (As := [.int (nI j)]) (rest := []) ⟨hx, hb, hml, hown, hts⟩ (c_X0_has l D cI cJ cZ b0 bb bd bm bl bf ba bk bg BB BD BM BL BF BA BK BG n (by omega) j (by omega)) (k_X5_131 hts ⟨Nat.le_of_ble_eq_true rfl, Nat.le_of_ble_eq_true rfl⟩) hK hP 7 rfl rfl rfl [7, 8, 9, 10, 11, 12, 13, 14, 15] rfl rfl hl.1 rfl (Nat.le_of_ble_eq_true rfl) dX5_branch_5 ⟨Nat.le_of_ble_eq_true rfl, Nat.le_of_ble_eq_true rfl⟩ ?_
  refine b_if_ne (tgt := 14) hx hb dX5_branch_8 (by decide) (fun c1 => ?_) (fun c1 => ?_)
  ·
    refine lv_iload_n hx hb dX5_branch_14 rfl (lv_at hl 2 rfl) ?_
    refine lv_tableIn (tgt := 97) (off := 82) hx hb dX5_branch_15 (by decide +kernel) (by decide +kernel) (by decide +kernel) (by decide) ?_
    refine lv_aload_n hx hb dX5_branch_97 rfl (lv_at hl 0 rfl) ?_
    refine va_get (D := D) (ci := 5) (v := .ref b0) (C := RX5) (T := TX5) (N := 9) hx hb hts inX5 hown hK hP 0 rfl rfl 3 (by decide) (hts _ mf_X5_29) (fun _ h9 => h9) rfl dX5_branch_98 ?_
    refine lv_iload_n hx hb dX5_branch_101 rfl (lv_at hl 1 rfl) ?_
    refine ro_V (As := [.int (nI j)]) (rest := []) ⟨hx, hb, hml, hown, hts⟩ (c_X0_aboveOf l D cI cJ cZ b0 bb bd bm bl bf ba bk bg BB BD BM BL BF BA BK BG n (by omega) j (by omega)) (k_X5_147 hts ⟨Nat.le_of_ble_eq_true rfl, Nat.le_of_ble_eq_true rfl⟩) hK hP 7 rfl rfl rfl [7, 8, 9, 10, 11, 12, 13, 14, 15] rfl rfl hl.1 rfl (Nat.le_of_ble_eq_true rfl) dX5_branch_102 ⟨Nat.le_of_ble_eq_true rfl, Nat.le_of_ble_eq_true rfl⟩ ?_
    exact ro_iret hx hb hr hlk dX5_branch_105 (rfl)
  ·
    exact absurd hj c1
set_option maxHeartbeats 4000000 in
set_option maxRecDepth 100000 in
theorem c_X5_branch_big (l : Launch) (D : va_G) (cI cJ cZ : ClassId) (x0 w0 d0 k0 kl ks kw b0 bb bd bm bl bf ba bk bg p0 h0 hl1 hs1 hw1 hc1 i0 il1 is1 iw1 ic1 ik it : Nat) (A : Nat) (s : Nat) (dA : Nat) (dz : Nat) (KL : Nat → Nat) (KS : Nat → Nat) (KW : Nat → Nat) (n : Nat) (BB : Nat → Nat) (BD : Nat → Nat) (BM : Nat → Nat) (BL : Nat → Nat) (BF : Nat → Nat) (BA : Nat → Nat) (BK : Nat → Nat) (BG : Nat → Nat) (nx : Nat) (pz : Nat) (HL : Nat → Nat) (HS : Nat → Nat) (HW : Nat → Nat) (HC : Nat → Nat) (IL : Nat → Nat) (IS : Nat → Nat) (IW : Nat → Nat) (IC : Nat → Nat) (IK : Nat → Nat) (IT : Nat → Nat) (sd : Nat) (hn : n ≤ 24) (hw0 : Wf s A) (hk : ∀ k, k < n → Wf (KS k) (KL k)) (hv : ∀ k, k < n → KW k ≤ 9999) (hso : Srt KS KL n) (hTr : TrX (gapF KS KL) n BB BD BM BL BF BA BK) (hnx : nx < 20) (hpz : pz ≤ 20) (hsd : sd < 2 ^ 31) (j : Nat) (hj : j < n - 1) (t : Nat) (ht : t < 2 ^ 31) (htb : 5 < t) : RO l yX5_branch cX5_branch 3 (some .int) (rmN 3 62) D (ty3 cI cJ cZ) [.ref x0, .int (nI j), .int (nI t)] [(x0, .inr (5, [.ref w0, .ref d0, .ref k0, .ref b0, .ref p0, .ref i0, .ref ik, .ref it, .int (nI sd)])), (w0, .inr (4, [.long (lN A), .int (nI s)])), (d0, .inr (4, [.long (lN dA), .int (nI dz)])), (k0, .inr (1, [.ref kl, .ref ks, .ref kw, .int (nI n)])), (kl, .inl (cJ, 24, .inr (.inl (lF KL)))), (ks, .inl (cI, 24, .inl (nF KS))), (kw, .inl (cI, 24, .inl (nF KW))), (b0, .inr (0, [.ref bb, .ref bd, .ref bm, .ref bl, .ref bf, .ref ba, .ref bk, .ref bg, .int (nI n)])), (bb, .inl (cI, 24, .inl (nF BB))), (bd, .inl (cI, 24, .inl (nF BD))), (bm, .inl (cI, 24, .inl (nF BM))), (bl, .inl (cI, 24, .inl (nF BL))), (bf, .inl (cI, 24, .inl (nF BF))), (ba, .inl (cI, 24, .inl (oF BA))), (bk, .inl (cI, 24, .inl (oF BK))), (bg, .inl (cI, 24, .inl (nF BG))), (p0, .inr (2, [.ref h0, .int (nI nx), .int (nI pz)])), (h0, .inr (3, [.int (nI 20), .ref hl1, .ref hs1, .ref hw1, .ref hc1])), (hl1, .inl (cJ, 20 * 24, .inr (.inl (lF HL)))), (hs1, .inl (cI, 20 * 24, .inl (nF HS))), (hw1, .inl (cI, 20 * 24, .inl (nF HW))), (hc1, .inl (cI, 20, .inl (nF HC))), (i0, .inr (3, [.int (nI 2), .ref il1, .ref is1, .ref iw1, .ref ic1])), (il1, .inl (cJ, 2 * 24, .inr (.inl (lF IL)))), (is1, .inl (cI, 2 * 24, .inl (nF IS))), (iw1, .inl (cI, 2 * 24, .inl (nF IW))), (ic1, .inl (cI, 2, .inl (nF IC))), (ik, .inl (cZ, 2, .inl (nF IK))), (it, .inl (cI, 2, .inl (nF IT)))] (.int (-1000000002)) := by
  have hs8 := hw0.1
  have hA64 := hw0.2.1
  have hBK := tf_BK hTr hn
  have hDK := tf_DK hTr hn
  have hB := tf_B hTr
  have hBF := tf_BF hTr hn
  have hT := tf_T hTr hso
  have hanc := tf_anc hTr hn
  have hp := plc_le KS KL n s A
  have hcb := cbl_le KS KL n s A
  have hfl := fnd_le KS KL n s A
  refine ro_start (by decide) (Nat.le_of_ble_eq_true rfl) ?_
  intro pp ee ss mm below meth cd C0 hP hK ls hl
  obtain ⟨hx, hb, hr, hml, hown, hts, hlk⟩ := C0
  have hown : ss.vm.findClass RX5 = some mm.cls := hown
  have hl : lv_has ls 3 [(0, .ref x0), (1, .int (nI j)), (2, .int (nI t))] := hl
  have hP : va_P D vwCl [(x0, .inr (5, [.ref w0, .ref d0, .ref k0, .ref b0, .ref p0, .ref i0, .ref ik, .ref it, .int (nI sd)])), (w0, .inr (4, [.long (lN A), .int (nI s)])), (d0, .inr (4, [.long (lN dA), .int (nI dz)])), (k0, .inr (1, [.ref kl, .ref ks, .ref kw, .int (nI n)])), (kl, .inl (cJ, 24, .inr (.inl (lF KL)))), (ks, .inl (cI, 24, .inl (nF KS))), (kw, .inl (cI, 24, .inl (nF KW))), (b0, .inr (0, [.ref bb, .ref bd, .ref bm, .ref bl, .ref bf, .ref ba, .ref bk, .ref bg, .int (nI n)])), (bb, .inl (cI, 24, .inl (nF BB))), (bd, .inl (cI, 24, .inl (nF BD))), (bm, .inl (cI, 24, .inl (nF BM))), (bl, .inl (cI, 24, .inl (nF BL))), (bf, .inl (cI, 24, .inl (nF BF))), (ba, .inl (cI, 24, .inl (oF BA))), (bk, .inl (cI, 24, .inl (oF BK))), (bg, .inl (cI, 24, .inl (nF BG))), (p0, .inr (2, [.ref h0, .int (nI nx), .int (nI pz)])), (h0, .inr (3, [.int (nI 20), .ref hl1, .ref hs1, .ref hw1, .ref hc1])), (hl1, .inl (cJ, 20 * 24, .inr (.inl (lF HL)))), (hs1, .inl (cI, 20 * 24, .inl (nF HS))), (hw1, .inl (cI, 20 * 24, .inl (nF HW))), (hc1, .inl (cI, 20, .inl (nF HC))), (i0, .inr (3, [.int (nI 2), .ref il1, .ref is1, .ref iw1, .ref ic1])), (il1, .inl (cJ, 2 * 24, .inr (.inl (lF IL)))), (is1, .inl (cI, 2 * 24, .inl (nF IS))), (iw1, .inl (cI, 2 * 24, .inl (nF IW))), (ic1, .inl (cI, 2, .inl (nF IC))), (ik, .inl (cZ, 2, .inl (nF IK))), (it, .inl (cI, 2, .inl (nF IT)))] ss.heap := hP
  refine lv_aload_n hx hb dX5_branch_0 rfl (lv_at hl 0 rfl) ?_
  refine va_get (D := D) (ci := 5) (v := .ref b0) (C := RX5) (T := TX5) (N := 9) hx hb hts inX5 hown hK hP 0 rfl rfl 3 (by decide) (hts _ mf_X5_29) (fun _ h9 => h9) rfl dX5_branch_1 ?_
  refine lv_iload_n hx hb dX5_branch_4 rfl (lv_at hl 1 rfl) ?_
  refine ro_V (As := [.int (nI j)]) (rest := []) ⟨hx, hb, hml, hown, hts⟩ (c_X0_has l D cI cJ cZ b0 bb bd bm bl bf ba bk bg BB BD BM BL BF BA BK BG n (by omega) j (by omega)) (k_X5_131 hts ⟨Nat.le_of_ble_eq_true rfl, Nat.le_of_ble_eq_true rfl⟩) hK hP 7 rfl rfl rfl [7, 8, 9, 10, 11, 12, 13, 14, 15] rfl rfl hl.1 rfl (Nat.le_of_ble_eq_true rfl) dX5_branch_5 ⟨Nat.le_of_ble_eq_true rfl, Nat.le_of_ble_eq_true rfl⟩ ?_
  refine b_if_ne (tgt := 14) hx hb dX5_branch_8 (by decide) (fun c1 => ?_) (fun c1 => ?_)
  ·
    refine lv_iload_n hx hb dX5_branch_14 rfl (lv_at hl 2 rfl) ?_
    refine lv_tableOut (tgt := 106) hx hb dX5_branch_15 (Or.inr (tn_big (by omega) (by omega))) (by decide) ?_
    refine lv_ldc hx hb hown (hts _ mk_X5_57) dX5_branch_106 ?_
    exact ro_iret hx hb hr hlk dX5_branch_108 (rfl)
  ·
    exact absurd hj c1
set_option maxHeartbeats 4000000 in
set_option maxRecDepth 100000 in
theorem c_X5_below_neg (l : Launch) (D : va_G) (cI cJ cZ : ClassId) (x0 w0 d0 k0 kl ks kw b0 bb bd bm bl bf ba bk bg p0 h0 hl1 hs1 hw1 hc1 i0 il1 is1 iw1 ic1 ik it : Nat) (A : Nat) (s : Nat) (dA : Nat) (dz : Nat) (KL : Nat → Nat) (KS : Nat → Nat) (KW : Nat → Nat) (n : Nat) (BB : Nat → Nat) (BD : Nat → Nat) (BM : Nat → Nat) (BL : Nat → Nat) (BF : Nat → Nat) (BA : Nat → Nat) (BK : Nat → Nat) (BG : Nat → Nat) (nx : Nat) (pz : Nat) (HL : Nat → Nat) (HS : Nat → Nat) (HW : Nat → Nat) (HC : Nat → Nat) (IL : Nat → Nat) (IS : Nat → Nat) (IW : Nat → Nat) (IC : Nat → Nat) (IK : Nat → Nat) (IT : Nat → Nat) (sd : Nat) (hn : n ≤ 24) (hw0 : Wf s A) (hk : ∀ k, k < n → Wf (KS k) (KL k)) (hv : ∀ k, k < n → KW k ≤ 9999) (hso : Srt KS KL n) (hTr : TrX (gapF KS KL) n BB BD BM BL BF BA BK) (hnx : nx < 20) (hpz : pz ≤ 20) (hsd : sd < 2 ^ 31) (x : Int32) (hx0 : x < 0) : RO l yX5_below cX5_below 4 (some .int) (rmN 5 118) D (ty3 cI cJ cZ) [.ref x0, .int x] [(x0, .inr (5, [.ref w0, .ref d0, .ref k0, .ref b0, .ref p0, .ref i0, .ref ik, .ref it, .int (nI sd)])), (w0, .inr (4, [.long (lN A), .int (nI s)])), (d0, .inr (4, [.long (lN dA), .int (nI dz)])), (k0, .inr (1, [.ref kl, .ref ks, .ref kw, .int (nI n)])), (kl, .inl (cJ, 24, .inr (.inl (lF KL)))), (ks, .inl (cI, 24, .inl (nF KS))), (kw, .inl (cI, 24, .inl (nF KW))), (b0, .inr (0, [.ref bb, .ref bd, .ref bm, .ref bl, .ref bf, .ref ba, .ref bk, .ref bg, .int (nI n)])), (bb, .inl (cI, 24, .inl (nF BB))), (bd, .inl (cI, 24, .inl (nF BD))), (bm, .inl (cI, 24, .inl (nF BM))), (bl, .inl (cI, 24, .inl (nF BL))), (bf, .inl (cI, 24, .inl (nF BF))), (ba, .inl (cI, 24, .inl (oF BA))), (bk, .inl (cI, 24, .inl (oF BK))), (bg, .inl (cI, 24, .inl (nF BG))), (p0, .inr (2, [.ref h0, .int (nI nx), .int (nI pz)])), (h0, .inr (3, [.int (nI 20), .ref hl1, .ref hs1, .ref hw1, .ref hc1])), (hl1, .inl (cJ, 20 * 24, .inr (.inl (lF HL)))), (hs1, .inl (cI, 20 * 24, .inl (nF HS))), (hw1, .inl (cI, 20 * 24, .inl (nF HW))), (hc1, .inl (cI, 20, .inl (nF HC))), (i0, .inr (3, [.int (nI 2), .ref il1, .ref is1, .ref iw1, .ref ic1])), (il1, .inl (cJ, 2 * 24, .inr (.inl (lF IL)))), (is1, .inl (cI, 2 * 24, .inl (nF IS))), (iw1, .inl (cI, 2 * 24, .inl (nF IW))), (ic1, .inl (cI, 2, .inl (nF IC))), (ik, .inl (cZ, 2, .inl (nF IK))), (it, .inl (cI, 2, .inl (nF IT)))] (.int (-1000000002)) := by
  have hs8 := hw0.1
  have hA64 := hw0.2.1
  have hBK := tf_BK hTr hn
  have hDK := tf_DK hTr hn
  have hB := tf_B hTr
  have hBF := tf_BF hTr hn
  have hT := tf_T hTr hso
  have hanc := tf_anc hTr hn
  have hp := plc_le KS KL n s A
  have hcb := cbl_le KS KL n s A
  have hfl := fnd_le KS KL n s A
  refine ro_start (by decide) (Nat.le_of_ble_eq_true rfl) ?_
  intro pp ee ss mm below meth cd C0 hP hK ls hl
  obtain ⟨hx, hb, hr, hml, hown, hts, hlk⟩ := C0
  have hown : ss.vm.findClass RX5 = some mm.cls := hown
  have hl : lv_has ls 4 [(0, .ref x0), (1, .int x)] := hl
  have hP : va_P D vwCl [(x0, .inr (5, [.ref w0, .ref d0, .ref k0, .ref b0, .ref p0, .ref i0, .ref ik, .ref it, .int (nI sd)])), (w0, .inr (4, [.long (lN A), .int (nI s)])), (d0, .inr (4, [.long (lN dA), .int (nI dz)])), (k0, .inr (1, [.ref kl, .ref ks, .ref kw, .int (nI n)])), (kl, .inl (cJ, 24, .inr (.inl (lF KL)))), (ks, .inl (cI, 24, .inl (nF KS))), (kw, .inl (cI, 24, .inl (nF KW))), (b0, .inr (0, [.ref bb, .ref bd, .ref bm, .ref bl, .ref bf, .ref ba, .ref bk, .ref bg, .int (nI n)])), (bb, .inl (cI, 24, .inl (nF BB))), (bd, .inl (cI, 24, .inl (nF BD))), (bm, .inl (cI, 24, .inl (nF BM))), (bl, .inl (cI, 24, .inl (nF BL))), (bf, .inl (cI, 24, .inl (nF BF))), (ba, .inl (cI, 24, .inl (oF BA))), (bk, .inl (cI, 24, .inl (oF BK))), (bg, .inl (cI, 24, .inl (nF BG))), (p0, .inr (2, [.ref h0, .int (nI nx), .int (nI pz)])), (h0, .inr (3, [.int (nI 20), .ref hl1, .ref hs1, .ref hw1, .ref hc1])), (hl1, .inl (cJ, 20 * 24, .inr (.inl (lF HL)))), (hs1, .inl (cI, 20 * 24, .inl (nF HS))), (hw1, .inl (cI, 20 * 24, .inl (nF HW))), (hc1, .inl (cI, 20, .inl (nF HC))), (i0, .inr (3, [.int (nI 2), .ref il1, .ref is1, .ref iw1, .ref ic1])), (il1, .inl (cJ, 2 * 24, .inr (.inl (lF IL)))), (is1, .inl (cI, 2 * 24, .inl (nF IS))), (iw1, .inl (cI, 2 * 24, .inl (nF IW))), (ic1, .inl (cI, 2, .inl (nF IC))), (ik, .inl (cZ, 2, .inl (nF IK))), (it, .inl (cI, 2, .inl (nF IT)))] ss.heap := hP
  refine lv_aload_n hx hb dX5_below_0 rfl (lv_at hl 0 rfl) ?_
  refine va_get (D := D) (ci := 5) (v := .ref k0) (C := RX5) (T := TX5) (N := 9) hx hb hts inX5 hown hK hP 0 rfl rfl 2 (by decide) (hts _ mf_X5_22) (fun _ h9 => h9) rfl dX5_below_1 ?_
  refine lv_aload_n hx hb dX5_below_4 rfl (lv_at hl 0 rfl) ?_
  refine va_get (D := D) (ci := 5) (v := .ref w0) (C := RX5) (T := TX5) (N := 9) hx hb hts inX5 hown hK hP 0 rfl rfl 0 (by decide) (hts _ mf_X5_10) (fun _ h9 => h9) rfl dX5_below_5 ?_
  refine ro_V (As := [.ref w0]) (rest := []) ⟨hx, hb, hml, hown, hts⟩ (c_X1_placeOf l D cI cJ cZ k0 kl ks kw KL KS KW n (by omega) w0 A s hw0 hk) (k_X5_106 hts ⟨Nat.le_of_ble_eq_true rfl, Nat.le_of_ble_eq_true rfl⟩) hK hP 3 rfl rfl rfl [3, 4, 5, 6, 1] rfl rfl hl.1 rfl (Nat.le_of_ble_eq_true rfl) dX5_below_8 ⟨Nat.le_of_ble_eq_true rfl, Nat.le_of_ble_eq_true rfl⟩ ?_
  refine lv_istore_n (lv' := [(2, .int (nI (plc KS KL n s A))), (0, .ref x0), (1, .int x)]) hx hb dX5_below_11 rfl hl (by decide) rfl (fun ls hl => ?_)
  refine lv_aload_n hx hb dX5_below_12 rfl (lv_at hl 1 rfl) ?_
  refine va_get (D := D) (ci := 5) (v := .ref k0) (C := RX5) (T := TX5) (N := 9) hx hb hts inX5 hown hK hP 0 rfl rfl 2 (by decide) (hts _ mf_X5_22) (fun _ h9 => h9) rfl dX5_below_13 ?_
  refine lv_aload_n hx hb dX5_below_16 rfl (lv_at hl 1 rfl) ?_
  refine va_get (D := D) (ci := 5) (v := .ref w0) (C := RX5) (T := TX5) (N := 9) hx hb hts inX5 hown hK hP 0 rfl rfl 0 (by decide) (hts _ mf_X5_10) (fun _ h9 => h9) rfl dX5_below_17 ?_
  refine ro_V (As := [.ref w0]) (rest := []) ⟨hx, hb, hml, hown, hts⟩ (c_X1_countBelow l D cI cJ cZ k0 kl ks kw KL KS KW n (by omega) w0 A s hw0 hk) (k_X5_170 hts ⟨Nat.le_of_ble_eq_true rfl, Nat.le_of_ble_eq_true rfl⟩) hK hP 3 rfl rfl rfl [3, 4, 5, 6, 1] rfl rfl hl.1 rfl (Nat.le_of_ble_eq_true rfl) dX5_below_20 ⟨Nat.le_of_ble_eq_true rfl, Nat.le_of_ble_eq_true rfl⟩ ?_
  refine lv_istore_n (lv' := [(3, .int (nI (cbl KS KL n s A))), (2, .int (nI (plc KS KL n s A))), (0, .ref x0), (1, .int x)]) hx hb dX5_below_23 rfl hl (by decide) rfl (fun ls hl => ?_)
  refine lv_iload_n hx hb dX5_below_24 rfl (lv_at hl 3 rfl) ?_
  refine lv_tableOut (tgt := 88) hx hb dX5_below_25 (Or.inl (tn_neg hx0)) (by decide) ?_
  refine lv_ldc hx hb hown (hts _ mk_X5_57) dX5_below_88 ?_
  exact ro_iret hx hb hr hlk dX5_below_90 (rfl)
set_option maxHeartbeats 4000000 in
set_option maxRecDepth 100000 in
theorem c_X5_below_big (l : Launch) (D : va_G) (cI cJ cZ : ClassId) (x0 w0 d0 k0 kl ks kw b0 bb bd bm bl bf ba bk bg p0 h0 hl1 hs1 hw1 hc1 i0 il1 is1 iw1 ic1 ik it : Nat) (A : Nat) (s : Nat) (dA : Nat) (dz : Nat) (KL : Nat → Nat) (KS : Nat → Nat) (KW : Nat → Nat) (n : Nat) (BB : Nat → Nat) (BD : Nat → Nat) (BM : Nat → Nat) (BL : Nat → Nat) (BF : Nat → Nat) (BA : Nat → Nat) (BK : Nat → Nat) (BG : Nat → Nat) (nx : Nat) (pz : Nat) (HL : Nat → Nat) (HS : Nat → Nat) (HW : Nat → Nat) (HC : Nat → Nat) (IL : Nat → Nat) (IS : Nat → Nat) (IW : Nat → Nat) (IC : Nat → Nat) (IK : Nat → Nat) (IT : Nat → Nat) (sd : Nat) (hn : n ≤ 24) (hw0 : Wf s A) (hk : ∀ k, k < n → Wf (KS k) (KL k)) (hv : ∀ k, k < n → KW k ≤ 9999) (hso : Srt KS KL n) (hTr : TrX (gapF KS KL) n BB BD BM BL BF BA BK) (hnx : nx < 20) (hpz : pz ≤ 20) (hsd : sd < 2 ^ 31) (j : Nat) (hj : j < 2 ^ 31) (hjb : 3 < j) : RO l yX5_below cX5_below 4 (some .int) (rmN 5 118) D (ty3 cI cJ cZ) [.ref x0, .int (nI j)] [(x0, .inr (5, [.ref w0, .ref d0, .ref k0, .ref b0, .ref p0, .ref i0, .ref ik, .ref it, .int (nI sd)])), (w0, .inr (4, [.long (lN A), .int (nI s)])), (d0, .inr (4, [.long (lN dA), .int (nI dz)])), (k0, .inr (1, [.ref kl, .ref ks, .ref kw, .int (nI n)])), (kl, .inl (cJ, 24, .inr (.inl (lF KL)))), (ks, .inl (cI, 24, .inl (nF KS))), (kw, .inl (cI, 24, .inl (nF KW))), (b0, .inr (0, [.ref bb, .ref bd, .ref bm, .ref bl, .ref bf, .ref ba, .ref bk, .ref bg, .int (nI n)])), (bb, .inl (cI, 24, .inl (nF BB))), (bd, .inl (cI, 24, .inl (nF BD))), (bm, .inl (cI, 24, .inl (nF BM))), (bl, .inl (cI, 24, .inl (nF BL))), (bf, .inl (cI, 24, .inl (nF BF))), (ba, .inl (cI, 24, .inl (oF BA))), (bk, .inl (cI, 24, .inl (oF BK))), (bg, .inl (cI, 24, .inl (nF BG))), (p0, .inr (2, [.ref h0, .int (nI nx), .int (nI pz)])), (h0, .inr (3, [.int (nI 20), .ref hl1, .ref hs1, .ref hw1, .ref hc1])), (hl1, .inl (cJ, 20 * 24, .inr (.inl (lF HL)))), (hs1, .inl (cI, 20 * 24, .inl (nF HS))), (hw1, .inl (cI, 20 * 24, .inl (nF HW))), (hc1, .inl (cI, 20, .inl (nF HC))), (i0, .inr (3, [.int (nI 2), .ref il1, .ref is1, .ref iw1, .ref ic1])), (il1, .inl (cJ, 2 * 24, .inr (.inl (lF IL)))), (is1, .inl (cI, 2 * 24, .inl (nF IS))), (iw1, .inl (cI, 2 * 24, .inl (nF IW))), (ic1, .inl (cI, 2, .inl (nF IC))), (ik, .inl (cZ, 2, .inl (nF IK))), (it, .inl (cI, 2, .inl (nF IT)))] (.int (-1000000002)) := by
  have hs8 := hw0.1
  have hA64 := hw0.2.1
  have hBK := tf_BK hTr hn
  have hDK := tf_DK hTr hn
  have hB := tf_B hTr
  have hBF := tf_BF hTr hn
  have hT := tf_T hTr hso
  have hanc := tf_anc hTr hn
  have hp := plc_le KS KL n s A
  have hcb := cbl_le KS KL n s A
  have hfl := fnd_le KS KL n s A
  refine ro_start (by decide) (Nat.le_of_ble_eq_true rfl) ?_
  intro pp ee ss mm below meth cd C0 hP hK ls hl
  obtain ⟨hx, hb, hr, hml, hown, hts, hlk⟩ := C0
  have hown : ss.vm.findClass RX5 = some mm.cls := hown
  have hl : lv_has ls 4 [(0, .ref x0), (1, .int (nI j))] := hl
  have hP : va_P D vwCl [(x0, .inr (5, [.ref w0, .ref d0, .ref k0, .ref b0, .ref p0, .ref i0, .ref ik, .ref it, .int (nI sd)])), (w0, .inr (4, [.long (lN A), .int (nI s)])), (d0, .inr (4, [.long (lN dA), .int (nI dz)])), (k0, .inr (1, [.ref kl, .ref ks, .ref kw, .int (nI n)])), (kl, .inl (cJ, 24, .inr (.inl (lF KL)))), (ks, .inl (cI, 24, .inl (nF KS))), (kw, .inl (cI, 24, .inl (nF KW))), (b0, .inr (0, [.ref bb, .ref bd, .ref bm, .ref bl, .ref bf, .ref ba, .ref bk, .ref bg, .int (nI n)])), (bb, .inl (cI, 24, .inl (nF BB))), (bd, .inl (cI, 24, .inl (nF BD))), (bm, .inl (cI, 24, .inl (nF BM))), (bl, .inl (cI, 24, .inl (nF BL))), (bf, .inl (cI, 24, .inl (nF BF))), (ba, .inl (cI, 24, .inl (oF BA))), (bk, .inl (cI, 24, .inl (oF BK))), (bg, .inl (cI, 24, .inl (nF BG))), (p0, .inr (2, [.ref h0, .int (nI nx), .int (nI pz)])), (h0, .inr (3, [.int (nI 20), .ref hl1, .ref hs1, .ref hw1, .ref hc1])), (hl1, .inl (cJ, 20 * 24, .inr (.inl (lF HL)))), (hs1, .inl (cI, 20 * 24, .inl (nF HS))), (hw1, .inl (cI, 20 * 24, .inl (nF HW))), (hc1, .inl (cI, 20, .inl (nF HC))), (i0, .inr (3, [.int (nI 2), .ref il1, .ref is1, .ref iw1, .ref ic1])), (il1, .inl (cJ, 2 * 24, .inr (.inl (lF IL)))), (is1, .inl (cI, 2 * 24, .inl (nF IS))), (iw1, .inl (cI, 2 * 24, .inl (nF IW))), (ic1, .inl (cI, 2, .inl (nF IC))), (ik, .inl (cZ, 2, .inl (nF IK))), (it, .inl (cI, 2, .inl (nF IT)))] ss.heap := hP
  refine lv_aload_n hx hb dX5_below_0 rfl (lv_at hl 0 rfl) ?_
  refine va_get (D := D) (ci := 5) (v := .ref k0) (C := RX5) (T := TX5) (N := 9) hx hb hts inX5 hown hK hP 0 rfl rfl 2 (by decide) (hts _ mf_X5_22) (fun _ h9 => h9) rfl dX5_below_1 ?_
  refine lv_aload_n hx hb dX5_below_4 rfl (lv_at hl 0 rfl) ?_
  refine va_get (D := D) (ci := 5) (v := .ref w0) (C := RX5) (T := TX5) (N := 9) hx hb hts inX5 hown hK hP 0 rfl rfl 0 (by decide) (hts _ mf_X5_10) (fun _ h9 => h9) rfl dX5_below_5 ?_
  refine ro_V (As := [.ref w0]) (rest := []) ⟨hx, hb, hml, hown, hts⟩ (c_X1_placeOf l D cI cJ cZ k0 kl ks kw KL KS KW n (by omega) w0 A s hw0 hk) (k_X5_106 hts ⟨Nat.le_of_ble_eq_true rfl, Nat.le_of_ble_eq_true rfl⟩) hK hP 3 rfl rfl rfl [3, 4, 5, 6, 1] rfl rfl hl.1 rfl (Nat.le_of_ble_eq_true rfl) dX5_below_8 ⟨Nat.le_of_ble_eq_true rfl, Nat.le_of_ble_eq_true rfl⟩ ?_
  refine lv_istore_n (lv' := [(2, .int (nI (plc KS KL n s A))), (0, .ref x0), (1, .int (nI j))]) hx hb dX5_below_11 rfl hl (by decide) rfl (fun ls hl => ?_)
  refine lv_aload_n hx hb dX5_below_12 rfl (lv_at hl 1 rfl) ?_
  refine va_get (D := D) (ci := 5) (v := .ref k0) (C := RX5) (T := TX5) (N := 9) hx hb hts inX5 hown hK hP 0 rfl rfl 2 (by decide) (hts _ mf_X5_22) (fun _ h9 => h9) rfl dX5_below_13 ?_
  refine lv_aload_n hx hb dX5_below_16 rfl (lv_at hl 1 rfl) ?_
  refine va_get (D := D) (ci := 5) (v := .ref w0) (C := RX5) (T := TX5) (N := 9) hx hb hts inX5 hown hK hP 0 rfl rfl 0 (by decide) (hts _ mf_X5_10) (fun _ h9 => h9) rfl dX5_below_17 ?_
  refine ro_V (As := [.ref w0]) (rest := []) ⟨hx, hb, hml, hown, hts⟩ (c_X1_countBelow l D cI cJ cZ k0 kl ks kw KL KS KW n (by omega) w0 A s hw0 hk) (k_X5_170 hts ⟨Nat.le_of_ble_eq_true rfl, Nat.le_of_ble_eq_true rfl⟩) hK hP 3 rfl rfl rfl [3, 4, 5, 6, 1] rfl rfl hl.1 rfl (Nat.le_of_ble_eq_true rfl) dX5_below_20 ⟨Nat.le_of_ble_eq_true rfl, Nat.le_of_ble_eq_true rfl⟩ ?_
  refine lv_istore_n (lv' := [(3, .int (nI (cbl KS KL n s A))), (2, .int (nI (plc KS KL n s A))), (0, .ref x0), (1, .int (nI j))]) hx hb dX5_below_23 rfl hl (by decide) rfl (fun ls hl => ?_)
  refine lv_iload_n hx hb dX5_below_24 rfl (lv_at hl 3 rfl) ?_
  refine lv_tableOut (tgt := 88) hx hb dX5_below_25 (Or.inr (tn_big (by omega) (by omega))) (by decide) ?_
  refine lv_ldc hx hb hown (hts _ mk_X5_57) dX5_below_88 ?_
  exact ro_iret hx hb hr hlk dX5_below_90 (rfl)
set_option maxHeartbeats 4000000 in
set_option maxRecDepth 100000 in
theorem c_X5_below_0 (l : Launch) (D : va_G) (cI cJ cZ : ClassId) (x0 w0 d0 k0 kl ks kw b0 bb bd bm bl bf ba bk bg p0 h0 hl1 hs1 hw1 hc1 i0 il1 is1 iw1 ic1 ik it : Nat) (A : Nat) (s : Nat) (dA : Nat) (dz : Nat) (KL : Nat → Nat) (KS : Nat → Nat) (KW : Nat → Nat) (n : Nat) (BB : Nat → Nat) (BD : Nat → Nat) (BM : Nat → Nat) (BL : Nat → Nat) (BF : Nat → Nat) (BA : Nat → Nat) (BK : Nat → Nat) (BG : Nat → Nat) (nx : Nat) (pz : Nat) (HL : Nat → Nat) (HS : Nat → Nat) (HW : Nat → Nat) (HC : Nat → Nat) (IL : Nat → Nat) (IS : Nat → Nat) (IW : Nat → Nat) (IC : Nat → Nat) (IK : Nat → Nat) (IT : Nat → Nat) (sd : Nat) (hn : n ≤ 24) (hw0 : Wf s A) (hk : ∀ k, k < n → Wf (KS k) (KL k)) (hv : ∀ k, k < n → KW k ≤ 9999) (hso : Srt KS KL n) (hTr : TrX (gapF KS KL) n BB BD BM BL BF BA BK) (hnx : nx < 20) (hpz : pz ≤ 20) (hsd : sd < 2 ^ 31)  : RO l yX5_below cX5_below 4 (some .int) (rmN 5 118) D (ty3 cI cJ cZ) [.ref x0, .int (nI 0)] [(x0, .inr (5, [.ref w0, .ref d0, .ref k0, .ref b0, .ref p0, .ref i0, .ref ik, .ref it, .int (nI sd)])), (w0, .inr (4, [.long (lN A), .int (nI s)])), (d0, .inr (4, [.long (lN dA), .int (nI dz)])), (k0, .inr (1, [.ref kl, .ref ks, .ref kw, .int (nI n)])), (kl, .inl (cJ, 24, .inr (.inl (lF KL)))), (ks, .inl (cI, 24, .inl (nF KS))), (kw, .inl (cI, 24, .inl (nF KW))), (b0, .inr (0, [.ref bb, .ref bd, .ref bm, .ref bl, .ref bf, .ref ba, .ref bk, .ref bg, .int (nI n)])), (bb, .inl (cI, 24, .inl (nF BB))), (bd, .inl (cI, 24, .inl (nF BD))), (bm, .inl (cI, 24, .inl (nF BM))), (bl, .inl (cI, 24, .inl (nF BL))), (bf, .inl (cI, 24, .inl (nF BF))), (ba, .inl (cI, 24, .inl (oF BA))), (bk, .inl (cI, 24, .inl (oF BK))), (bg, .inl (cI, 24, .inl (nF BG))), (p0, .inr (2, [.ref h0, .int (nI nx), .int (nI pz)])), (h0, .inr (3, [.int (nI 20), .ref hl1, .ref hs1, .ref hw1, .ref hc1])), (hl1, .inl (cJ, 20 * 24, .inr (.inl (lF HL)))), (hs1, .inl (cI, 20 * 24, .inl (nF HS))), (hw1, .inl (cI, 20 * 24, .inl (nF HW))), (hc1, .inl (cI, 20, .inl (nF HC))), (i0, .inr (3, [.int (nI 2), .ref il1, .ref is1, .ref iw1, .ref ic1])), (il1, .inl (cJ, 2 * 24, .inr (.inl (lF IL)))), (is1, .inl (cI, 2 * 24, .inl (nF IS))), (iw1, .inl (cI, 2 * 24, .inl (nF IW))), (ic1, .inl (cI, 2, .inl (nF IC))), (ik, .inl (cZ, 2, .inl (nF IK))), (it, .inl (cI, 2, .inl (nF IT)))] (.int (nI (cbl KS KL n s A))) := by
  have hs8 := hw0.1
  have hA64 := hw0.2.1
  have hBK := tf_BK hTr hn
  have hDK := tf_DK hTr hn
  have hB := tf_B hTr
  have hBF := tf_BF hTr hn
  have hT := tf_T hTr hso
  have hanc := tf_anc hTr hn
  have hp := plc_le KS KL n s A
  have hcb := cbl_le KS KL n s A
  have hfl := fnd_le KS KL n s A
  refine ro_start (by decide) (Nat.le_of_ble_eq_true rfl) ?_
  intro pp ee ss mm below meth cd C0 hP hK ls hl
  obtain ⟨hx, hb, hr, hml, hown, hts, hlk⟩ := C0
  have hown : ss.vm.findClass RX5 = some mm.cls := hown
  have hl : lv_has ls 4 [(0, .ref x0), (1, .int (nI 0))] := hl
  have hP : va_P D vwCl [(x0, .inr (5, [.ref w0, .ref d0, .ref k0, .ref b0, .ref p0, .ref i0, .ref ik, .ref it, .int (nI sd)])), (w0, .inr (4, [.long (lN A), .int (nI s)])), (d0, .inr (4, [.long (lN dA), .int (nI dz)])), (k0, .inr (1, [.ref kl, .ref ks, .ref kw, .int (nI n)])), (kl, .inl (cJ, 24, .inr (.inl (lF KL)))), (ks, .inl (cI, 24, .inl (nF KS))), (kw, .inl (cI, 24, .inl (nF KW))), (b0, .inr (0, [.ref bb, .ref bd, .ref bm, .ref bl, .ref bf, .ref ba, .ref bk, .ref bg, .int (nI n)])), (bb, .inl (cI, 24, .inl (nF BB))), (bd, .inl (cI, 24, .inl (nF BD))), (bm, .inl (cI, 24, .inl (nF BM))), (bl, .inl (cI, 24, .inl (nF BL))), (bf, .inl (cI, 24, .inl (nF BF))), (ba, .inl (cI, 24, .inl (oF BA))), (bk, .inl (cI, 24, .inl (oF BK))), (bg, .inl (cI, 24, .inl (nF BG))), (p0, .inr (2, [.ref h0, .int (nI nx), .int (nI pz)])), (h0, .inr (3, [.int (nI 20), .ref hl1, .ref hs1, .ref hw1, .ref hc1])), (hl1, .inl (cJ, 20 * 24, .inr (.inl (lF HL)))), (hs1, .inl (cI, 20 * 24, .inl (nF HS))), (hw1, .inl (cI, 20 * 24, .inl (nF HW))), (hc1, .inl (cI, 20, .inl (nF HC))), (i0, .inr (3, [.int (nI 2), .ref il1, .ref is1, .ref iw1, .ref ic1])), (il1, .inl (cJ, 2 * 24, .inr (.inl (lF IL)))), (is1, .inl (cI, 2 * 24, .inl (nF IS))), (iw1, .inl (cI, 2 * 24, .inl (nF IW))), (ic1, .inl (cI, 2, .inl (nF IC))), (ik, .inl (cZ, 2, .inl (nF IK))), (it, .inl (cI, 2, .inl (nF IT)))] ss.heap := hP
  refine lv_aload_n hx hb dX5_below_0 rfl (lv_at hl 0 rfl) ?_
  refine va_get (D := D) (ci := 5) (v := .ref k0) (C := RX5) (T := TX5) (N := 9) hx hb hts inX5 hown hK hP 0 rfl rfl 2 (by decide) (hts _ mf_X5_22) (fun _ h9 => h9) rfl dX5_below_1 ?_
  refine lv_aload_n hx hb dX5_below_4 rfl (lv_at hl 0 rfl) ?_
  refine va_get (D := D) (ci := 5) (v := .ref w0) (C := RX5) (T := TX5) (N := 9) hx hb hts inX5 hown hK hP 0 rfl rfl 0 (by decide) (hts _ mf_X5_10) (fun _ h9 => h9) rfl dX5_below_5 ?_
  refine ro_V (As := [.ref w0]) (rest := []) ⟨hx, hb, hml, hown, hts⟩ (c_X1_placeOf l D cI cJ cZ k0 kl ks kw KL KS KW n (by omega) w0 A s hw0 hk) (k_X5_106 hts ⟨Nat.le_of_ble_eq_true rfl, Nat.le_of_ble_eq_true rfl⟩) hK hP 3 rfl rfl rfl [3, 4, 5, 6, 1] rfl rfl hl.1 rfl (Nat.le_of_ble_eq_true rfl) dX5_below_8 ⟨Nat.le_of_ble_eq_true rfl, Nat.le_of_ble_eq_true rfl⟩ ?_
  refine lv_istore_n (lv' := [(2, .int (nI (plc KS KL n s A))), (0, .ref x0), (1, .int (nI 0))]) hx hb dX5_below_11 rfl hl (by decide) rfl (fun ls hl => ?_)
  refine lv_aload_n hx hb dX5_below_12 rfl (lv_at hl 1 rfl) ?_
  refine va_get (D := D) (ci := 5) (v := .ref k0) (C := RX5) (T := TX5) (N := 9) hx hb hts inX5 hown hK hP 0 rfl rfl 2 (by decide) (hts _ mf_X5_22) (fun _ h9 => h9) rfl dX5_below_13 ?_
  refine lv_aload_n hx hb dX5_below_16 rfl (lv_at hl 1 rfl) ?_
  refine va_get (D := D) (ci := 5) (v := .ref w0) (C := RX5) (T := TX5) (N := 9) hx hb hts inX5 hown hK hP 0 rfl rfl 0 (by decide) (hts _ mf_X5_10) (fun _ h9 => h9) rfl dX5_below_17 ?_
  refine ro_V (As := [.ref w0]) (rest := []) ⟨hx, hb, hml, hown, hts⟩ (c_X1_countBelow l D cI cJ cZ k0 kl ks kw KL KS KW n (by omega) w0 A s hw0 hk) (k_X5_170 hts ⟨Nat.le_of_ble_eq_true rfl, Nat.le_of_ble_eq_true rfl⟩) hK hP 3 rfl rfl rfl [3, 4, 5, 6, 1] rfl rfl hl.1 rfl (Nat.le_of_ble_eq_true rfl) dX5_below_20 ⟨Nat.le_of_ble_eq_true rfl, Nat.le_of_ble_eq_true rfl⟩ ?_
  refine lv_istore_n (lv' := [(3, .int (nI (cbl KS KL n s A))), (2, .int (nI (plc KS KL n s A))), (0, .ref x0), (1, .int (nI 0))]) hx hb dX5_below_23 rfl hl (by decide) rfl (fun ls hl => ?_)
  refine lv_iload_n hx hb dX5_below_24 rfl (lv_at hl 3 rfl) ?_
  refine lv_tableIn (tgt := 56) (off := 31) hx hb dX5_below_25 (by decide +kernel) (by decide +kernel) (by decide +kernel) (by decide) ?_
  refine lv_iload_n hx hb dX5_below_56 rfl (lv_at hl 0 rfl) ?_
  exact ro_iret hx hb hr hlk dX5_below_57 (rfl)
set_option maxHeartbeats 4000000 in
set_option maxRecDepth 100000 in
theorem c_X5_below_2 (l : Launch) (D : va_G) (cI cJ cZ : ClassId) (x0 w0 d0 k0 kl ks kw b0 bb bd bm bl bf ba bk bg p0 h0 hl1 hs1 hw1 hc1 i0 il1 is1 iw1 ic1 ik it : Nat) (A : Nat) (s : Nat) (dA : Nat) (dz : Nat) (KL : Nat → Nat) (KS : Nat → Nat) (KW : Nat → Nat) (n : Nat) (BB : Nat → Nat) (BD : Nat → Nat) (BM : Nat → Nat) (BL : Nat → Nat) (BF : Nat → Nat) (BA : Nat → Nat) (BK : Nat → Nat) (BG : Nat → Nat) (nx : Nat) (pz : Nat) (HL : Nat → Nat) (HS : Nat → Nat) (HW : Nat → Nat) (HC : Nat → Nat) (IL : Nat → Nat) (IS : Nat → Nat) (IW : Nat → Nat) (IC : Nat → Nat) (IK : Nat → Nat) (IT : Nat → Nat) (sd : Nat) (hn : n ≤ 24) (hw0 : Wf s A) (hk : ∀ k, k < n → Wf (KS k) (KL k)) (hv : ∀ k, k < n → KW k ≤ 9999) (hso : Srt KS KL n) (hTr : TrX (gapF KS KL) n BB BD BM BL BF BA BK) (hnx : nx < 20) (hpz : pz ≤ 20) (hsd : sd < 2 ^ 31)  : RO l yX5_below cX5_below 4 (some .int) (rmN 5 118) D (ty3 cI cJ cZ) [.ref x0, .int (nI 2)] [(x0, .inr (5, [.ref w0, .ref d0, .ref k0, .ref b0, .ref p0, .ref i0, .ref ik, .ref it, .int (nI sd)])), (w0, .inr (4, [.long (lN A), .int (nI s)])), (d0, .inr (4, [.long (lN dA), .int (nI dz)])), (k0, .inr (1, [.ref kl, .ref ks, .ref kw, .int (nI n)])), (kl, .inl (cJ, 24, .inr (.inl (lF KL)))), (ks, .inl (cI, 24, .inl (nF KS))), (kw, .inl (cI, 24, .inl (nF KW))), (b0, .inr (0, [.ref bb, .ref bd, .ref bm, .ref bl, .ref bf, .ref ba, .ref bk, .ref bg, .int (nI n)])), (bb, .inl (cI, 24, .inl (nF BB))), (bd, .inl (cI, 24, .inl (nF BD))), (bm, .inl (cI, 24, .inl (nF BM))), (bl, .inl (cI, 24, .inl (nF BL))), (bf, .inl (cI, 24, .inl (nF BF))), (ba, .inl (cI, 24, .inl (oF BA))), (bk, .inl (cI, 24, .inl (oF BK))), (bg, .inl (cI, 24, .inl (nF BG))), (p0, .inr (2, [.ref h0, .int (nI nx), .int (nI pz)])), (h0, .inr (3, [.int (nI 20), .ref hl1, .ref hs1, .ref hw1, .ref hc1])), (hl1, .inl (cJ, 20 * 24, .inr (.inl (lF HL)))), (hs1, .inl (cI, 20 * 24, .inl (nF HS))), (hw1, .inl (cI, 20 * 24, .inl (nF HW))), (hc1, .inl (cI, 20, .inl (nF HC))), (i0, .inr (3, [.int (nI 2), .ref il1, .ref is1, .ref iw1, .ref ic1])), (il1, .inl (cJ, 2 * 24, .inr (.inl (lF IL)))), (is1, .inl (cI, 2 * 24, .inl (nF IS))), (iw1, .inl (cI, 2 * 24, .inl (nF IW))), (ic1, .inl (cI, 2, .inl (nF IC))), (ik, .inl (cZ, 2, .inl (nF IK))), (it, .inl (cI, 2, .inl (nF IT)))] (.int (nI (fb_sm (fun i => KW ((plc KS KL n s A) + i)) (cbl KS KL n s A)))) := by
  have hs8 := hw0.1
  have hA64 := hw0.2.1
  have hBK := tf_BK hTr hn
  have hDK := tf_DK hTr hn
  have hB := tf_B hTr
  have hBF := tf_BF hTr hn
  have hT := tf_T hTr hso
  have hanc := tf_anc hTr hn
  have hp := plc_le KS KL n s A
  have hcb := cbl_le KS KL n s A
  have hfl := fnd_le KS KL n s A
  refine ro_start (by decide) (Nat.le_of_ble_eq_true rfl) ?_
  intro pp ee ss mm below meth cd C0 hP hK ls hl
  obtain ⟨hx, hb, hr, hml, hown, hts, hlk⟩ := C0
  have hown : ss.vm.findClass RX5 = some mm.cls := hown
  have hl : lv_has ls 4 [(0, .ref x0), (1, .int (nI 2))] := hl
  have hP : va_P D vwCl [(x0, .inr (5, [.ref w0, .ref d0, .ref k0, .ref b0, .ref p0, .ref i0, .ref ik, .ref it, .int (nI sd)])), (w0, .inr (4, [.long (lN A), .int (nI s)])), (d0, .inr (4, [.long (lN dA), .int (nI dz)])), (k0, .inr (1, [.ref kl, .ref ks, .ref kw, .int (nI n)])), (kl, .inl (cJ, 24, .inr (.inl (lF KL)))), (ks, .inl (cI, 24, .inl (nF KS))), (kw, .inl (cI, 24, .inl (nF KW))), (b0, .inr (0, [.ref bb, .ref bd, .ref bm, .ref bl, .ref bf, .ref ba, .ref bk, .ref bg, .int (nI n)])), (bb, .inl (cI, 24, .inl (nF BB))), (bd, .inl (cI, 24, .inl (nF BD))), (bm, .inl (cI, 24, .inl (nF BM))), (bl, .inl (cI, 24, .inl (nF BL))), (bf, .inl (cI, 24, .inl (nF BF))), (ba, .inl (cI, 24, .inl (oF BA))), (bk, .inl (cI, 24, .inl (oF BK))), (bg, .inl (cI, 24, .inl (nF BG))), (p0, .inr (2, [.ref h0, .int (nI nx), .int (nI pz)])), (h0, .inr (3, [.int (nI 20), .ref hl1, .ref hs1, .ref hw1, .ref hc1])), (hl1, .inl (cJ, 20 * 24, .inr (.inl (lF HL)))), (hs1, .inl (cI, 20 * 24, .inl (nF HS))), (hw1, .inl (cI, 20 * 24, .inl (nF HW))), (hc1, .inl (cI, 20, .inl (nF HC))), (i0, .inr (3, [.int (nI 2), .ref il1, .ref is1, .ref iw1, .ref ic1])), (il1, .inl (cJ, 2 * 24, .inr (.inl (lF IL)))), (is1, .inl (cI, 2 * 24, .inl (nF IS))), (iw1, .inl (cI, 2 * 24, .inl (nF IW))), (ic1, .inl (cI, 2, .inl (nF IC))), (ik, .inl (cZ, 2, .inl (nF IK))), (it, .inl (cI, 2, .inl (nF IT)))] ss.heap := hP
  refine lv_aload_n hx hb dX5_below_0 rfl (lv_at hl 0 rfl) ?_
  refine va_get (D := D) (ci := 5) (v := .ref k0) (C := RX5) (T := TX5) (N := 9) hx hb hts inX5 hown hK hP 0 rfl rfl 2 (by decide) (hts _ mf_X5_22) (fun _ h9 => h9) rfl dX5_below_1 ?_
  refine lv_aload_n hx hb dX5_below_4 rfl (lv_at hl 0 rfl) ?_
  refine va_get (D := D) (ci := 5) (v := .ref w0) (C := RX5) (T := TX5) (N := 9) hx hb hts inX5 hown hK hP 0 rfl rfl 0 (by decide) (hts _ mf_X5_10) (fun _ h9 => h9) rfl dX5_below_5 ?_
  refine ro_V (As := [.ref w0]) (rest := []) ⟨hx, hb, hml, hown, hts⟩ (c_X1_placeOf l D cI cJ cZ k0 kl ks kw KL KS KW n (by omega) w0 A s hw0 hk) (k_X5_106 hts ⟨Nat.le_of_ble_eq_true rfl, Nat.le_of_ble_eq_true rfl⟩) hK hP 3 rfl rfl rfl [3, 4, 5, 6, 1] rfl rfl hl.1 rfl (Nat.le_of_ble_eq_true rfl) dX5_below_8 ⟨Nat.le_of_ble_eq_true rfl, Nat.le_of_ble_eq_true rfl⟩ ?_
  refine lv_istore_n (lv' := [(2, .int (nI (plc KS KL n s A))), (0, .ref x0), (1, .int (nI 2))]) hx hb dX5_below_11 rfl hl (by decide) rfl (fun ls hl => ?_)
  refine lv_aload_n hx hb dX5_below_12 rfl (lv_at hl 1 rfl) ?_
  refine va_get (D := D) (ci := 5) (v := .ref k0) (C := RX5) (T := TX5) (N := 9) hx hb hts inX5 hown hK hP 0 rfl rfl 2 (by decide) (hts _ mf_X5_22) (fun _ h9 => h9) rfl dX5_below_13 ?_
  refine lv_aload_n hx hb dX5_below_16 rfl (lv_at hl 1 rfl) ?_
  refine va_get (D := D) (ci := 5) (v := .ref w0) (C := RX5) (T := TX5) (N := 9) hx hb hts inX5 hown hK hP 0 rfl rfl 0 (by decide) (hts _ mf_X5_10) (fun _ h9 => h9) rfl dX5_below_17 ?_
  refine ro_V (As := [.ref w0]) (rest := []) ⟨hx, hb, hml, hown, hts⟩ (c_X1_countBelow l D cI cJ cZ k0 kl ks kw KL KS KW n (by omega) w0 A s hw0 hk) (k_X5_170 hts ⟨Nat.le_of_ble_eq_true rfl, Nat.le_of_ble_eq_true rfl⟩) hK hP 3 rfl rfl rfl [3, 4, 5, 6, 1] rfl rfl hl.1 rfl (Nat.le_of_ble_eq_true rfl) dX5_below_20 ⟨Nat.le_of_ble_eq_true rfl, Nat.le_of_ble_eq_true rfl⟩ ?_
  refine lv_istore_n (lv' := [(3, .int (nI (cbl KS KL n s A))), (2, .int (nI (plc KS KL n s A))), (0, .ref x0), (1, .int (nI 2))]) hx hb dX5_below_23 rfl hl (by decide) rfl (fun ls hl => ?_)
  refine lv_iload_n hx hb dX5_below_24 rfl (lv_at hl 3 rfl) ?_
  refine lv_tableIn (tgt := 68) (off := 43) hx hb dX5_below_25 (by decide +kernel) (by decide +kernel) (by decide +kernel) (by decide) ?_
  refine lv_aload_n hx hb dX5_below_68 rfl (lv_at hl 2 rfl) ?_
  refine va_get (D := D) (ci := 5) (v := .ref k0) (C := RX5) (T := TX5) (N := 9) hx hb hts inX5 hown hK hP 0 rfl rfl 2 (by decide) (hts _ mf_X5_22) (fun _ h9 => h9) rfl dX5_below_69 ?_
  refine lv_iload_n hx hb dX5_below_72 rfl (lv_at hl 1 rfl) ?_
  refine lv_iload_n hx hb dX5_below_73 rfl (lv_at hl 0 rfl) ?_
  refine ro_V (As := [.int (nI (plc KS KL n s A)), .int (nI (cbl KS KL n s A))]) (rest := []) ⟨hx, hb, hml, hown, hts⟩ (c_X1_worthsOf l D cI cJ cZ k0 kl ks kw KL KS KW n (by omega) hv (plc KS KL n s A) (cbl KS KL n s A) (by first | omega | exact cbl_le _ _ _ _ _)) (k_X5_96 hts ⟨Nat.le_of_ble_eq_true rfl, Nat.le_of_ble_eq_true rfl⟩) hK hP 3 rfl rfl rfl [3, 4, 5, 6] rfl rfl hl.1 rfl (Nat.le_of_ble_eq_true rfl) dX5_below_74 ⟨Nat.le_of_ble_eq_true rfl, Nat.le_of_ble_eq_true rfl⟩ ?_
  exact ro_iret hx hb hr hlk dX5_below_77 (rfl)
set_option maxHeartbeats 4000000 in
set_option maxRecDepth 100000 in
theorem c_X5_below_3 (l : Launch) (D : va_G) (cI cJ cZ : ClassId) (x0 w0 d0 k0 kl ks kw b0 bb bd bm bl bf ba bk bg p0 h0 hl1 hs1 hw1 hc1 i0 il1 is1 iw1 ic1 ik it : Nat) (A : Nat) (s : Nat) (dA : Nat) (dz : Nat) (KL : Nat → Nat) (KS : Nat → Nat) (KW : Nat → Nat) (n : Nat) (BB : Nat → Nat) (BD : Nat → Nat) (BM : Nat → Nat) (BL : Nat → Nat) (BF : Nat → Nat) (BA : Nat → Nat) (BK : Nat → Nat) (BG : Nat → Nat) (nx : Nat) (pz : Nat) (HL : Nat → Nat) (HS : Nat → Nat) (HW : Nat → Nat) (HC : Nat → Nat) (IL : Nat → Nat) (IS : Nat → Nat) (IW : Nat → Nat) (IC : Nat → Nat) (IK : Nat → Nat) (IT : Nat → Nat) (sd : Nat) (hn : n ≤ 24) (hw0 : Wf s A) (hk : ∀ k, k < n → Wf (KS k) (KL k)) (hv : ∀ k, k < n → KW k ≤ 9999) (hso : Srt KS KL n) (hTr : TrX (gapF KS KL) n BB BD BM BL BF BA BK) (hnx : nx < 20) (hpz : pz ≤ 20) (hsd : sd < 2 ^ 31)  : RO l yX5_below cX5_below 4 (some .int) (rmN 5 118) D (ty3 cI cJ cZ) [.ref x0, .int (nI 3)] [(x0, .inr (5, [.ref w0, .ref d0, .ref k0, .ref b0, .ref p0, .ref i0, .ref ik, .ref it, .int (nI sd)])), (w0, .inr (4, [.long (lN A), .int (nI s)])), (d0, .inr (4, [.long (lN dA), .int (nI dz)])), (k0, .inr (1, [.ref kl, .ref ks, .ref kw, .int (nI n)])), (kl, .inl (cJ, 24, .inr (.inl (lF KL)))), (ks, .inl (cI, 24, .inl (nF KS))), (kw, .inl (cI, 24, .inl (nF KW))), (b0, .inr (0, [.ref bb, .ref bd, .ref bm, .ref bl, .ref bf, .ref ba, .ref bk, .ref bg, .int (nI n)])), (bb, .inl (cI, 24, .inl (nF BB))), (bd, .inl (cI, 24, .inl (nF BD))), (bm, .inl (cI, 24, .inl (nF BM))), (bl, .inl (cI, 24, .inl (nF BL))), (bf, .inl (cI, 24, .inl (nF BF))), (ba, .inl (cI, 24, .inl (oF BA))), (bk, .inl (cI, 24, .inl (oF BK))), (bg, .inl (cI, 24, .inl (nF BG))), (p0, .inr (2, [.ref h0, .int (nI nx), .int (nI pz)])), (h0, .inr (3, [.int (nI 20), .ref hl1, .ref hs1, .ref hw1, .ref hc1])), (hl1, .inl (cJ, 20 * 24, .inr (.inl (lF HL)))), (hs1, .inl (cI, 20 * 24, .inl (nF HS))), (hw1, .inl (cI, 20 * 24, .inl (nF HW))), (hc1, .inl (cI, 20, .inl (nF HC))), (i0, .inr (3, [.int (nI 2), .ref il1, .ref is1, .ref iw1, .ref ic1])), (il1, .inl (cJ, 2 * 24, .inr (.inl (lF IL)))), (is1, .inl (cI, 2 * 24, .inl (nF IS))), (iw1, .inl (cI, 2 * 24, .inl (nF IW))), (ic1, .inl (cI, 2, .inl (nF IC))), (ik, .inl (cZ, 2, .inl (nF IK))), (it, .inl (cI, 2, .inl (nF IT)))] (.int (oI (mwo KW (plc KS KL n s A) (cbl KS KL n s A)))) := by
  have hs8 := hw0.1
  have hA64 := hw0.2.1
  have hBK := tf_BK hTr hn
  have hDK := tf_DK hTr hn
  have hB := tf_B hTr
  have hBF := tf_BF hTr hn
  have hT := tf_T hTr hso
  have hanc := tf_anc hTr hn
  have hp := plc_le KS KL n s A
  have hcb := cbl_le KS KL n s A
  have hfl := fnd_le KS KL n s A
  refine ro_start (by decide) (Nat.le_of_ble_eq_true rfl) ?_
  intro pp ee ss mm below meth cd C0 hP hK ls hl
  obtain ⟨hx, hb, hr, hml, hown, hts, hlk⟩ := C0
  have hown : ss.vm.findClass RX5 = some mm.cls := hown
  have hl : lv_has ls 4 [(0, .ref x0), (1, .int (nI 3))] := hl
  have hP : va_P D vwCl [(x0, .inr (5, [.ref w0, .ref d0, .ref k0, .ref b0, .ref p0, .ref i0, .ref ik, .ref it, .int (nI sd)])), (w0, .inr (4, [.long (lN A), .int (nI s)])), (d0, .inr (4, [.long (lN dA), .int (nI dz)])), (k0, .inr (1, [.ref kl, .ref ks, .ref kw, .int (nI n)])), (kl, .inl (cJ, 24, .inr (.inl (lF KL)))), (ks, .inl (cI, 24, .inl (nF KS))), (kw, .inl (cI, 24, .inl (nF KW))), (b0, .inr (0, [.ref bb, .ref bd, .ref bm, .ref bl, .ref bf, .ref ba, .ref bk, .ref bg, .int (nI n)])), (bb, .inl (cI, 24, .inl (nF BB))), (bd, .inl (cI, 24, .inl (nF BD))), (bm, .inl (cI, 24, .inl (nF BM))), (bl, .inl (cI, 24, .inl (nF BL))), (bf, .inl (cI, 24, .inl (nF BF))), (ba, .inl (cI, 24, .inl (oF BA))), (bk, .inl (cI, 24, .inl (oF BK))), (bg, .inl (cI, 24, .inl (nF BG))), (p0, .inr (2, [.ref h0, .int (nI nx), .int (nI pz)])), (h0, .inr (3, [.int (nI 20), .ref hl1, .ref hs1, .ref hw1, .ref hc1])), (hl1, .inl (cJ, 20 * 24, .inr (.inl (lF HL)))), (hs1, .inl (cI, 20 * 24, .inl (nF HS))), (hw1, .inl (cI, 20 * 24, .inl (nF HW))), (hc1, .inl (cI, 20, .inl (nF HC))), (i0, .inr (3, [.int (nI 2), .ref il1, .ref is1, .ref iw1, .ref ic1])), (il1, .inl (cJ, 2 * 24, .inr (.inl (lF IL)))), (is1, .inl (cI, 2 * 24, .inl (nF IS))), (iw1, .inl (cI, 2 * 24, .inl (nF IW))), (ic1, .inl (cI, 2, .inl (nF IC))), (ik, .inl (cZ, 2, .inl (nF IK))), (it, .inl (cI, 2, .inl (nF IT)))] ss.heap := hP
  refine lv_aload_n hx hb dX5_below_0 rfl (lv_at hl 0 rfl) ?_
  refine va_get (D := D) (ci := 5) (v := .ref k0) (C := RX5) (T := TX5) (N := 9) hx hb hts inX5 hown hK hP 0 rfl rfl 2 (by decide) (hts _ mf_X5_22) (fun _ h9 => h9) rfl dX5_below_1 ?_
  refine lv_aload_n hx hb dX5_below_4 rfl (lv_at hl 0 rfl) ?_
  refine va_get (D := D) (ci := 5) (v := .ref w0) (C := RX5) (T := TX5) (N := 9) hx hb hts inX5 hown hK hP 0 rfl rfl 0 (by decide) (hts _ mf_X5_10) (fun _ h9 => h9) rfl dX5_below_5 ?_
  refine ro_V (As := [.ref w0]) (rest := []) ⟨hx, hb, hml, hown, hts⟩ (c_X1_placeOf l D cI cJ cZ k0 kl ks kw KL KS KW n (by omega) w0 A s hw0 hk) (k_X5_106 hts ⟨Nat.le_of_ble_eq_true rfl, Nat.le_of_ble_eq_true rfl⟩) hK hP 3 rfl rfl rfl [3, 4, 5, 6, 1] rfl rfl hl.1 rfl (Nat.le_of_ble_eq_true rfl) dX5_below_8 ⟨Nat.le_of_ble_eq_true rfl, Nat.le_of_ble_eq_true rfl⟩ ?_
  refine lv_istore_n (lv' := [(2, .int (nI (plc KS KL n s A))), (0, .ref x0), (1, .int (nI 3))]) hx hb dX5_below_11 rfl hl (by decide) rfl (fun ls hl => ?_)
  refine lv_aload_n hx hb dX5_below_12 rfl (lv_at hl 1 rfl) ?_
  refine va_get (D := D) (ci := 5) (v := .ref k0) (C := RX5) (T := TX5) (N := 9) hx hb hts inX5 hown hK hP 0 rfl rfl 2 (by decide) (hts _ mf_X5_22) (fun _ h9 => h9) rfl dX5_below_13 ?_
  refine lv_aload_n hx hb dX5_below_16 rfl (lv_at hl 1 rfl) ?_
  refine va_get (D := D) (ci := 5) (v := .ref w0) (C := RX5) (T := TX5) (N := 9) hx hb hts inX5 hown hK hP 0 rfl rfl 0 (by decide) (hts _ mf_X5_10) (fun _ h9 => h9) rfl dX5_below_17 ?_
  refine ro_V (As := [.ref w0]) (rest := []) ⟨hx, hb, hml, hown, hts⟩ (c_X1_countBelow l D cI cJ cZ k0 kl ks kw KL KS KW n (by omega) w0 A s hw0 hk) (k_X5_170 hts ⟨Nat.le_of_ble_eq_true rfl, Nat.le_of_ble_eq_true rfl⟩) hK hP 3 rfl rfl rfl [3, 4, 5, 6, 1] rfl rfl hl.1 rfl (Nat.le_of_ble_eq_true rfl) dX5_below_20 ⟨Nat.le_of_ble_eq_true rfl, Nat.le_of_ble_eq_true rfl⟩ ?_
  refine lv_istore_n (lv' := [(3, .int (nI (cbl KS KL n s A))), (2, .int (nI (plc KS KL n s A))), (0, .ref x0), (1, .int (nI 3))]) hx hb dX5_below_23 rfl hl (by decide) rfl (fun ls hl => ?_)
  refine lv_iload_n hx hb dX5_below_24 rfl (lv_at hl 3 rfl) ?_
  refine lv_tableIn (tgt := 78) (off := 53) hx hb dX5_below_25 (by decide +kernel) (by decide +kernel) (by decide +kernel) (by decide) ?_
  refine lv_aload_n hx hb dX5_below_78 rfl (lv_at hl 2 rfl) ?_
  refine va_get (D := D) (ci := 5) (v := .ref k0) (C := RX5) (T := TX5) (N := 9) hx hb hts inX5 hown hK hP 0 rfl rfl 2 (by decide) (hts _ mf_X5_22) (fun _ h9 => h9) rfl dX5_below_79 ?_
  refine lv_iload_n hx hb dX5_below_82 rfl (lv_at hl 1 rfl) ?_
  refine lv_iload_n hx hb dX5_below_83 rfl (lv_at hl 0 rfl) ?_
  refine ro_V (As := [.int (nI (plc KS KL n s A)), .int (nI (cbl KS KL n s A))]) (rest := []) ⟨hx, hb, hml, hown, hts⟩ (c_X1_mostWorth l D cI cJ cZ k0 kl ks kw KL KS KW n (by omega) hv (plc KS KL n s A) (cbl KS KL n s A) (by first | omega | exact cbl_le _ _ _ _ _)) (k_X5_184 hts ⟨Nat.le_of_ble_eq_true rfl, Nat.le_of_ble_eq_true rfl⟩) hK hP 3 rfl rfl rfl [3, 4, 5, 6] rfl rfl hl.1 rfl (Nat.le_of_ble_eq_true rfl) dX5_below_84 ⟨Nat.le_of_ble_eq_true rfl, Nat.le_of_ble_eq_true rfl⟩ ?_
  exact ro_iret hx hb hr hlk dX5_below_87 (rfl)
set_option maxHeartbeats 4000000 in
set_option maxRecDepth 100000 in
theorem c_X5_below_1y (l : Launch) (D : va_G) (cI cJ cZ : ClassId) (x0 w0 d0 k0 kl ks kw b0 bb bd bm bl bf ba bk bg p0 h0 hl1 hs1 hw1 hc1 i0 il1 is1 iw1 ic1 ik it : Nat) (A : Nat) (s : Nat) (dA : Nat) (dz : Nat) (KL : Nat → Nat) (KS : Nat → Nat) (KW : Nat → Nat) (n : Nat) (BB : Nat → Nat) (BD : Nat → Nat) (BM : Nat → Nat) (BL : Nat → Nat) (BF : Nat → Nat) (BA : Nat → Nat) (BK : Nat → Nat) (BG : Nat → Nat) (nx : Nat) (pz : Nat) (HL : Nat → Nat) (HS : Nat → Nat) (HW : Nat → Nat) (HC : Nat → Nat) (IL : Nat → Nat) (IS : Nat → Nat) (IW : Nat → Nat) (IC : Nat → Nat) (IK : Nat → Nat) (IT : Nat → Nat) (sd : Nat) (hn : n ≤ 24) (hw0 : Wf s A) (hk : ∀ k, k < n → Wf (KS k) (KL k)) (hv : ∀ k, k < n → KW k ≤ 9999) (hso : Srt KS KL n) (hTr : TrX (gapF KS KL) n BB BD BM BL BF BA BK) (hnx : nx < 20) (hpz : pz ≤ 20) (hsd : sd < 2 ^ 31) (hc : 0 < cbl KS KL n s A) : RO l yX5_below cX5_below 4 (some .int) (rmN 5 118) D (ty3 cI cJ cZ) [.ref x0, .int (nI 1)] [(x0, .inr (5, [.ref w0, .ref d0, .ref k0, .ref b0, .ref p0, .ref i0, .ref ik, .ref it, .int (nI sd)])), (w0, .inr (4, [.long (lN A), .int (nI s)])), (d0, .inr (4, [.long (lN dA), .int (nI dz)])), (k0, .inr (1, [.ref kl, .ref ks, .ref kw, .int (nI n)])), (kl, .inl (cJ, 24, .inr (.inl (lF KL)))), (ks, .inl (cI, 24, .inl (nF KS))), (kw, .inl (cI, 24, .inl (nF KW))), (b0, .inr (0, [.ref bb, .ref bd, .ref bm, .ref bl, .ref bf, .ref ba, .ref bk, .ref bg, .int (nI n)])), (bb, .inl (cI, 24, .inl (nF BB))), (bd, .inl (cI, 24, .inl (nF BD))), (bm, .inl (cI, 24, .inl (nF BM))), (bl, .inl (cI, 24, .inl (nF BL))), (bf, .inl (cI, 24, .inl (nF BF))), (ba, .inl (cI, 24, .inl (oF BA))), (bk, .inl (cI, 24, .inl (oF BK))), (bg, .inl (cI, 24, .inl (nF BG))), (p0, .inr (2, [.ref h0, .int (nI nx), .int (nI pz)])), (h0, .inr (3, [.int (nI 20), .ref hl1, .ref hs1, .ref hw1, .ref hc1])), (hl1, .inl (cJ, 20 * 24, .inr (.inl (lF HL)))), (hs1, .inl (cI, 20 * 24, .inl (nF HS))), (hw1, .inl (cI, 20 * 24, .inl (nF HW))), (hc1, .inl (cI, 20, .inl (nF HC))), (i0, .inr (3, [.int (nI 2), .ref il1, .ref is1, .ref iw1, .ref ic1])), (il1, .inl (cJ, 2 * 24, .inr (.inl (lF IL)))), (is1, .inl (cI, 2 * 24, .inl (nF IS))), (iw1, .inl (cI, 2 * 24, .inl (nF IW))), (ic1, .inl (cI, 2, .inl (nF IC))), (ik, .inl (cZ, 2, .inl (nF IK))), (it, .inl (cI, 2, .inl (nF IT)))] (.int (nI (plc KS KL n s A))) := by
  have hs8 := hw0.1
  have hA64 := hw0.2.1
  have hBK := tf_BK hTr hn
  have hDK := tf_DK hTr hn
  have hB := tf_B hTr
  have hBF := tf_BF hTr hn
  have hT := tf_T hTr hso
  have hanc := tf_anc hTr hn
  have hp := plc_le KS KL n s A
  have hcb := cbl_le KS KL n s A
  have hfl := fnd_le KS KL n s A
  refine ro_start (by decide) (Nat.le_of_ble_eq_true rfl) ?_
  intro pp ee ss mm below meth cd C0 hP hK ls hl
  obtain ⟨hx, hb, hr, hml, hown, hts, hlk⟩ := C0
  have hown : ss.vm.findClass RX5 = some mm.cls := hown
  have hl : lv_has ls 4 [(0, .ref x0), (1, .int (nI 1))] := hl
  have hP : va_P D vwCl [(x0, .inr (5, [.ref w0, .ref d0, .ref k0, .ref b0, .ref p0, .ref i0, .ref ik, .ref it, .int (nI sd)])), (w0, .inr (4, [.long (lN A), .int (nI s)])), (d0, .inr (4, [.long (lN dA), .int (nI dz)])), (k0, .inr (1, [.ref kl, .ref ks, .ref kw, .int (nI n)])), (kl, .inl (cJ, 24, .inr (.inl (lF KL)))), (ks, .inl (cI, 24, .inl (nF KS))), (kw, .inl (cI, 24, .inl (nF KW))), (b0, .inr (0, [.ref bb, .ref bd, .ref bm, .ref bl, .ref bf, .ref ba, .ref bk, .ref bg, .int (nI n)])), (bb, .inl (cI, 24, .inl (nF BB))), (bd, .inl (cI, 24, .inl (nF BD))), (bm, .inl (cI, 24, .inl (nF BM))), (bl, .inl (cI, 24, .inl (nF BL))), (bf, .inl (cI, 24, .inl (nF BF))), (ba, .inl (cI, 24, .inl (oF BA))), (bk, .inl (cI, 24, .inl (oF BK))), (bg, .inl (cI, 24, .inl (nF BG))), (p0, .inr (2, [.ref h0, .int (nI nx), .int (nI pz)])), (h0, .inr (3, [.int (nI 20), .ref hl1, .ref hs1, .ref hw1, .ref hc1])), (hl1, .inl (cJ, 20 * 24, .inr (.inl (lF HL)))), (hs1, .inl (cI, 20 * 24, .inl (nF HS))), (hw1, .inl (cI, 20 * 24, .inl (nF HW))), (hc1, .inl (cI, 20, .inl (nF HC))), (i0, .inr (3, [.int (nI 2), .ref il1, .ref is1, .ref iw1, .ref ic1])), (il1, .inl (cJ, 2 * 24, .inr (.inl (lF IL)))), (is1, .inl (cI, 2 * 24, .inl (nF IS))), (iw1, .inl (cI, 2 * 24, .inl (nF IW))), (ic1, .inl (cI, 2, .inl (nF IC))), (ik, .inl (cZ, 2, .inl (nF IK))), (it, .inl (cI, 2, .inl (nF IT)))] ss.heap := hP
  refine lv_aload_n hx hb dX5_below_0 rfl (lv_at hl 0 rfl) ?_
  refine va_get (D := D) (ci := 5) (v := .ref k0) (C := RX5) (T := TX5) (N := 9) hx hb hts inX5 hown hK hP 0 rfl rfl 2 (by decide) (hts _ mf_X5_22) (fun _ h9 => h9) rfl dX5_below_1 ?_
  refine lv_aload_n hx hb dX5_below_4 rfl (lv_at hl 0 rfl) ?_
  refine va_get (D := D) (ci := 5) (v := .ref w0) (C := RX5) (T := TX5) (N := 9) hx hb hts inX5 hown hK hP 0 rfl rfl 0 (by decide) (hts _ mf_X5_10) (fun _ h9 => h9) rfl dX5_below_5 ?_
  refine ro_V (As := [.ref w0]) (rest := []) ⟨hx, hb, hml, hown, hts⟩ (c_X1_placeOf l D cI cJ cZ k0 kl ks kw KL KS KW n (by omega) w0 A s hw0 hk) (k_X5_106 hts ⟨Nat.le_of_ble_eq_true rfl, Nat.le_of_ble_eq_true rfl⟩) hK hP 3 rfl rfl rfl [3, 4, 5, 6, 1] rfl rfl hl.1 rfl (Nat.le_of_ble_eq_true rfl) dX5_below_8 ⟨Nat.le_of_ble_eq_true rfl, Nat.le_of_ble_eq_true rfl⟩ ?_
  refine lv_istore_n (lv' := [(2, .int (nI (plc KS KL n s A))), (0, .ref x0), (1, .int (nI 1))]) hx hb dX5_below_11 rfl hl (by decide) rfl (fun ls hl => ?_)
  refine lv_aload_n hx hb dX5_below_12 rfl (lv_at hl 1 rfl) ?_
  refine va_get (D := D) (ci := 5) (v := .ref k0) (C := RX5) (T := TX5) (N := 9) hx hb hts inX5 hown hK hP 0 rfl rfl 2 (by decide) (hts _ mf_X5_22) (fun _ h9 => h9) rfl dX5_below_13 ?_
  refine lv_aload_n hx hb dX5_below_16 rfl (lv_at hl 1 rfl) ?_
  refine va_get (D := D) (ci := 5) (v := .ref w0) (C := RX5) (T := TX5) (N := 9) hx hb hts inX5 hown hK hP 0 rfl rfl 0 (by decide) (hts _ mf_X5_10) (fun _ h9 => h9) rfl dX5_below_17 ?_
  refine ro_V (As := [.ref w0]) (rest := []) ⟨hx, hb, hml, hown, hts⟩ (c_X1_countBelow l D cI cJ cZ k0 kl ks kw KL KS KW n (by omega) w0 A s hw0 hk) (k_X5_170 hts ⟨Nat.le_of_ble_eq_true rfl, Nat.le_of_ble_eq_true rfl⟩) hK hP 3 rfl rfl rfl [3, 4, 5, 6, 1] rfl rfl hl.1 rfl (Nat.le_of_ble_eq_true rfl) dX5_below_20 ⟨Nat.le_of_ble_eq_true rfl, Nat.le_of_ble_eq_true rfl⟩ ?_
  refine lv_istore_n (lv' := [(3, .int (nI (cbl KS KL n s A))), (2, .int (nI (plc KS KL n s A))), (0, .ref x0), (1, .int (nI 1))]) hx hb dX5_below_23 rfl hl (by decide) rfl (fun ls hl => ?_)
  refine lv_iload_n hx hb dX5_below_24 rfl (lv_at hl 3 rfl) ?_
  refine lv_tableIn (tgt := 58) (off := 33) hx hb dX5_below_25 (by decide +kernel) (by decide +kernel) (by decide +kernel) (by decide) ?_
  refine lv_iload_n hx hb dX5_below_58 rfl (lv_at hl 0 rfl) ?_
  refine n_if_le (tgt := 66) hx hb dX5_below_59 (by decide) (by omega) (fun c1 => ?_) (fun c1 => ?_)
  ·
    exact absurd c1 (by omega)
  ·
    refine lv_iload_n hx hb dX5_below_62 rfl (lv_at hl 1 rfl) ?_
    refine lv_goto (tgt := 67) hx hb dX5_below_63 (by decide) ?_
    exact ro_iret hx hb hr hlk dX5_below_67 (rfl)
set_option maxHeartbeats 4000000 in
set_option maxRecDepth 100000 in
theorem c_X5_below_1n (l : Launch) (D : va_G) (cI cJ cZ : ClassId) (x0 w0 d0 k0 kl ks kw b0 bb bd bm bl bf ba bk bg p0 h0 hl1 hs1 hw1 hc1 i0 il1 is1 iw1 ic1 ik it : Nat) (A : Nat) (s : Nat) (dA : Nat) (dz : Nat) (KL : Nat → Nat) (KS : Nat → Nat) (KW : Nat → Nat) (n : Nat) (BB : Nat → Nat) (BD : Nat → Nat) (BM : Nat → Nat) (BL : Nat → Nat) (BF : Nat → Nat) (BA : Nat → Nat) (BK : Nat → Nat) (BG : Nat → Nat) (nx : Nat) (pz : Nat) (HL : Nat → Nat) (HS : Nat → Nat) (HW : Nat → Nat) (HC : Nat → Nat) (IL : Nat → Nat) (IS : Nat → Nat) (IW : Nat → Nat) (IC : Nat → Nat) (IK : Nat → Nat) (IT : Nat → Nat) (sd : Nat) (hn : n ≤ 24) (hw0 : Wf s A) (hk : ∀ k, k < n → Wf (KS k) (KL k)) (hv : ∀ k, k < n → KW k ≤ 9999) (hso : Srt KS KL n) (hTr : TrX (gapF KS KL) n BB BD BM BL BF BA BK) (hnx : nx < 20) (hpz : pz ≤ 20) (hsd : sd < 2 ^ 31) (hc : cbl KS KL n s A = 0) : RO l yX5_below cX5_below 4 (some .int) (rmN 5 118) D (ty3 cI cJ cZ) [.ref x0, .int (nI 1)] [(x0, .inr (5, [.ref w0, .ref d0, .ref k0, .ref b0, .ref p0, .ref i0, .ref ik, .ref it, .int (nI sd)])), (w0, .inr (4, [.long (lN A), .int (nI s)])), (d0, .inr (4, [.long (lN dA), .int (nI dz)])), (k0, .inr (1, [.ref kl, .ref ks, .ref kw, .int (nI n)])), (kl, .inl (cJ, 24, .inr (.inl (lF KL)))), (ks, .inl (cI, 24, .inl (nF KS))), (kw, .inl (cI, 24, .inl (nF KW))), (b0, .inr (0, [.ref bb, .ref bd, .ref bm, .ref bl, .ref bf, .ref ba, .ref bk, .ref bg, .int (nI n)])), (bb, .inl (cI, 24, .inl (nF BB))), (bd, .inl (cI, 24, .inl (nF BD))), (bm, .inl (cI, 24, .inl (nF BM))), (bl, .inl (cI, 24, .inl (nF BL))), (bf, .inl (cI, 24, .inl (nF BF))), (ba, .inl (cI, 24, .inl (oF BA))), (bk, .inl (cI, 24, .inl (oF BK))), (bg, .inl (cI, 24, .inl (nF BG))), (p0, .inr (2, [.ref h0, .int (nI nx), .int (nI pz)])), (h0, .inr (3, [.int (nI 20), .ref hl1, .ref hs1, .ref hw1, .ref hc1])), (hl1, .inl (cJ, 20 * 24, .inr (.inl (lF HL)))), (hs1, .inl (cI, 20 * 24, .inl (nF HS))), (hw1, .inl (cI, 20 * 24, .inl (nF HW))), (hc1, .inl (cI, 20, .inl (nF HC))), (i0, .inr (3, [.int (nI 2), .ref il1, .ref is1, .ref iw1, .ref ic1])), (il1, .inl (cJ, 2 * 24, .inr (.inl (lF IL)))), (is1, .inl (cI, 2 * 24, .inl (nF IS))), (iw1, .inl (cI, 2 * 24, .inl (nF IW))), (ic1, .inl (cI, 2, .inl (nF IC))), (ik, .inl (cZ, 2, .inl (nF IK))), (it, .inl (cI, 2, .inl (nF IT)))] (.int (oI 0)) := by
  have hs8 := hw0.1
  have hA64 := hw0.2.1
  have hBK := tf_BK hTr hn
  have hDK := tf_DK hTr hn
  have hB := tf_B hTr
  have hBF := tf_BF hTr hn
  have hT := tf_T hTr hso
  have hanc := tf_anc hTr hn
  have hp := plc_le KS KL n s A
  have hcb := cbl_le KS KL n s A
  have hfl := fnd_le KS KL n s A
  refine ro_start (by decide) (Nat.le_of_ble_eq_true rfl) ?_
  intro pp ee ss mm below meth cd C0 hP hK ls hl
  obtain ⟨hx, hb, hr, hml, hown, hts, hlk⟩ := C0
  have hown : ss.vm.findClass RX5 = some mm.cls := hown
  have hl : lv_has ls 4 [(0, .ref x0), (1, .int (nI 1))] := hl
  have hP : va_P D vwCl [(x0, .inr (5, [.ref w0, .ref d0, .ref k0, .ref b0, .ref p0, .ref i0, .ref ik, .ref it, .int (nI sd)])), (w0, .inr (4, [.long (lN A), .int (nI s)])), (d0, .inr (4, [.long (lN dA), .int (nI dz)])), (k0, .inr (1, [.ref kl, .ref ks, .ref kw, .int (nI n)])), (kl, .inl (cJ, 24, .inr (.inl (lF KL)))), (ks, .inl (cI, 24, .inl (nF KS))), (kw, .inl (cI, 24, .inl (nF KW))), (b0, .inr (0, [.ref bb, .ref bd, .ref bm, .ref bl, .ref bf, .ref ba, .ref bk, .ref bg, .int (nI n)])), (bb, .inl (cI, 24, .inl (nF BB))), (bd, .inl (cI, 24, .inl (nF BD))), (bm, .inl (cI, 24, .inl (nF BM))), (bl, .inl (cI, 24, .inl (nF BL))), (bf, .inl (cI, 24, .inl (nF BF))), (ba, .inl (cI, 24, .inl (oF BA))), (bk, .inl (cI, 24, .inl (oF BK))), (bg, .inl (cI, 24, .inl (nF BG))), (p0, .inr (2, [.ref h0, .int (nI nx), .int (nI pz)])), (h0, .inr (3, [.int (nI 20), .ref hl1, .ref hs1, .ref hw1, .ref hc1])), (hl1, .inl (cJ, 20 * 24, .inr (.inl (lF HL)))), (hs1, .inl (cI, 20 * 24, .inl (nF HS))), (hw1, .inl (cI, 20 * 24, .inl (nF HW))), (hc1, .inl (cI, 20, .inl (nF HC))), (i0, .inr (3, [.int (nI 2), .ref il1, .ref is1, .ref iw1, .ref ic1])), (il1, .inl (cJ, 2 * 24, .inr (.inl (lF IL)))), (is1, .inl (cI, 2 * 24, .inl (nF IS))), (iw1, .inl (cI, 2 * 24, .inl (nF IW))), (ic1, .inl (cI, 2, .inl (nF IC))), (ik, .inl (cZ, 2, .inl (nF IK))), (it, .inl (cI, 2, .inl (nF IT)))] ss.heap := hP
  refine lv_aload_n hx hb dX5_below_0 rfl (lv_at hl 0 rfl) ?_
  refine va_get (D := D) (ci := 5) (v := .ref k0) (C := RX5) (T := TX5) (N := 9) hx hb hts inX5 hown hK hP 0 rfl rfl 2 (by decide) (hts _ mf_X5_22) (fun _ h9 => h9) rfl dX5_below_1 ?_
  refine lv_aload_n hx hb dX5_below_4 rfl (lv_at hl 0 rfl) ?_
  refine va_get (D := D) (ci := 5) (v := .ref w0) (C := RX5) (T := TX5) (N := 9) hx hb hts inX5 hown hK hP 0 rfl rfl 0 (by decide) (hts _ mf_X5_10) (fun _ h9 => h9) rfl dX5_below_5 ?_
  refine ro_V (As := [.ref w0]) (rest := []) ⟨hx, hb, hml, hown, hts⟩ (c_X1_placeOf l D cI cJ cZ k0 kl ks kw KL KS KW n (by omega) w0 A s hw0 hk) (k_X5_106 hts ⟨Nat.le_of_ble_eq_true rfl, Nat.le_of_ble_eq_true rfl⟩) hK hP 3 rfl rfl rfl [3, 4, 5, 6, 1] rfl rfl hl.1 rfl (Nat.le_of_ble_eq_true rfl) dX5_below_8 ⟨Nat.le_of_ble_eq_true rfl, Nat.le_of_ble_eq_true rfl⟩ ?_
  refine lv_istore_n (lv' := [(2, .int (nI (plc KS KL n s A))), (0, .ref x0), (1, .int (nI 1))]) hx hb dX5_below_11 rfl hl (by decide) rfl (fun ls hl => ?_)
  refine lv_aload_n hx hb dX5_below_12 rfl (lv_at hl 1 rfl) ?_
  refine va_get (D := D) (ci := 5) (v := .ref k0) (C := RX5) (T := TX5) (N := 9) hx hb hts inX5 hown hK hP 0 rfl rfl 2 (by decide) (hts _ mf_X5_22) (fun _ h9 => h9) rfl dX5_below_13 ?_
  refine lv_aload_n hx hb dX5_below_16 rfl (lv_at hl 1 rfl) ?_
  refine va_get (D := D) (ci := 5) (v := .ref w0) (C := RX5) (T := TX5) (N := 9) hx hb hts inX5 hown hK hP 0 rfl rfl 0 (by decide) (hts _ mf_X5_10) (fun _ h9 => h9) rfl dX5_below_17 ?_
  refine ro_V (As := [.ref w0]) (rest := []) ⟨hx, hb, hml, hown, hts⟩ (c_X1_countBelow l D cI cJ cZ k0 kl ks kw KL KS KW n (by omega) w0 A s hw0 hk) (k_X5_170 hts ⟨Nat.le_of_ble_eq_true rfl, Nat.le_of_ble_eq_true rfl⟩) hK hP 3 rfl rfl rfl [3, 4, 5, 6, 1] rfl rfl hl.1 rfl (Nat.le_of_ble_eq_true rfl) dX5_below_20 ⟨Nat.le_of_ble_eq_true rfl, Nat.le_of_ble_eq_true rfl⟩ ?_
  refine lv_istore_n (lv' := [(3, .int (nI (cbl KS KL n s A))), (2, .int (nI (plc KS KL n s A))), (0, .ref x0), (1, .int (nI 1))]) hx hb dX5_below_23 rfl hl (by decide) rfl (fun ls hl => ?_)
  refine lv_iload_n hx hb dX5_below_24 rfl (lv_at hl 3 rfl) ?_
  refine lv_tableIn (tgt := 58) (off := 33) hx hb dX5_below_25 (by decide +kernel) (by decide +kernel) (by decide +kernel) (by decide) ?_
  refine lv_iload_n hx hb dX5_below_58 rfl (lv_at hl 0 rfl) ?_
  refine n_if_le (tgt := 66) hx hb dX5_below_59 (by decide) (by omega) (fun c1 => ?_) (fun c1 => ?_)
  ·
    refine lv_iconst (v := oI 0) hx hb dX5_below_66 (by decide +kernel) ?_
    exact ro_iret hx hb hr hlk dX5_below_67 (rfl)
  ·
    exact absurd c1 (by omega)
set_option maxHeartbeats 4000000 in
set_option maxRecDepth 100000 in
theorem c_X5_stem (l : Launch) (D : va_G) (cI cJ cZ : ClassId) (x0 w0 d0 k0 kl ks kw b0 bb bd bm bl bf ba bk bg p0 h0 hl1 hs1 hw1 hc1 i0 il1 is1 iw1 ic1 ik it : Nat) (A : Nat) (s : Nat) (dA : Nat) (dz : Nat) (KL : Nat → Nat) (KS : Nat → Nat) (KW : Nat → Nat) (n : Nat) (BB : Nat → Nat) (BD : Nat → Nat) (BM : Nat → Nat) (BL : Nat → Nat) (BF : Nat → Nat) (BA : Nat → Nat) (BK : Nat → Nat) (BG : Nat → Nat) (nx : Nat) (pz : Nat) (HL : Nat → Nat) (HS : Nat → Nat) (HW : Nat → Nat) (HC : Nat → Nat) (IL : Nat → Nat) (IS : Nat → Nat) (IW : Nat → Nat) (IC : Nat → Nat) (IK : Nat → Nat) (IT : Nat → Nat) (sd : Nat) (hn : n ≤ 24) (hw0 : Wf s A) (hk : ∀ k, k < n → Wf (KS k) (KL k)) (hv : ∀ k, k < n → KW k ≤ 9999) (hso : Srt KS KL n) (hTr : TrX (gapF KS KL) n BB BD BM BL BF BA BK) (hnx : nx < 20) (hpz : pz ≤ 20) (hsd : sd < 2 ^ 31)  : RO l yX5_stem cX5_stem 1 (some .int) (rmN 4 96) D (ty3 cI cJ cZ) [.ref x0] [(x0, .inr (5, [.ref w0, .ref d0, .ref k0, .ref b0, .ref p0, .ref i0, .ref ik, .ref it, .int (nI sd)])), (w0, .inr (4, [.long (lN A), .int (nI s)])), (d0, .inr (4, [.long (lN dA), .int (nI dz)])), (k0, .inr (1, [.ref kl, .ref ks, .ref kw, .int (nI n)])), (kl, .inl (cJ, 24, .inr (.inl (lF KL)))), (ks, .inl (cI, 24, .inl (nF KS))), (kw, .inl (cI, 24, .inl (nF KW))), (b0, .inr (0, [.ref bb, .ref bd, .ref bm, .ref bl, .ref bf, .ref ba, .ref bk, .ref bg, .int (nI n)])), (bb, .inl (cI, 24, .inl (nF BB))), (bd, .inl (cI, 24, .inl (nF BD))), (bm, .inl (cI, 24, .inl (nF BM))), (bl, .inl (cI, 24, .inl (nF BL))), (bf, .inl (cI, 24, .inl (nF BF))), (ba, .inl (cI, 24, .inl (oF BA))), (bk, .inl (cI, 24, .inl (oF BK))), (bg, .inl (cI, 24, .inl (nF BG))), (p0, .inr (2, [.ref h0, .int (nI nx), .int (nI pz)])), (h0, .inr (3, [.int (nI 20), .ref hl1, .ref hs1, .ref hw1, .ref hc1])), (hl1, .inl (cJ, 20 * 24, .inr (.inl (lF HL)))), (hs1, .inl (cI, 20 * 24, .inl (nF HS))), (hw1, .inl (cI, 20 * 24, .inl (nF HW))), (hc1, .inl (cI, 20, .inl (nF HC))), (i0, .inr (3, [.int (nI 2), .ref il1, .ref is1, .ref iw1, .ref ic1])), (il1, .inl (cJ, 2 * 24, .inr (.inl (lF IL)))), (is1, .inl (cI, 2 * 24, .inl (nF IS))), (iw1, .inl (cI, 2 * 24, .inl (nF IW))), (ic1, .inl (cI, 2, .inl (nF IC))), (ik, .inl (cZ, 2, .inl (nF IK))), (it, .inl (cI, 2, .inl (nF IT)))] (.int (oI (lso KS KL s A n))) := by
  have hs8 := hw0.1
  have hA64 := hw0.2.1
  have hBK := tf_BK hTr hn
  have hDK := tf_DK hTr hn
  have hB := tf_B hTr
  have hBF := tf_BF hTr hn
  have hT := tf_T hTr hso
  have hanc := tf_anc hTr hn
  have hp := plc_le KS KL n s A
  have hcb := cbl_le KS KL n s A
  have hfl := fnd_le KS KL n s A
  refine ro_start (by decide) (Nat.le_of_ble_eq_true rfl) ?_
  intro pp ee ss mm below meth cd C0 hP hK ls hl
  obtain ⟨hx, hb, hr, hml, hown, hts, hlk⟩ := C0
  have hown : ss.vm.findClass RX5 = some mm.cls := hown
  have hl : lv_has ls 1 [(0, .ref x0)] := hl
  have hP : va_P D vwCl [(x0, .inr (5, [.ref w0, .ref d0, .ref k0, .ref b0, .ref p0, .ref i0, .ref ik, .ref it, .int (nI sd)])), (w0, .inr (4, [.long (lN A), .int (nI s)])), (d0, .inr (4, [.long (lN dA), .int (nI dz)])), (k0, .inr (1, [.ref kl, .ref ks, .ref kw, .int (nI n)])), (kl, .inl (cJ, 24, .inr (.inl (lF KL)))), (ks, .inl (cI, 24, .inl (nF KS))), (kw, .inl (cI, 24, .inl (nF KW))), (b0, .inr (0, [.ref bb, .ref bd, .ref bm, .ref bl, .ref bf, .ref ba, .ref bk, .ref bg, .int (nI n)])), (bb, .inl (cI, 24, .inl (nF BB))), (bd, .inl (cI, 24, .inl (nF BD))), (bm, .inl (cI, 24, .inl (nF BM))), (bl, .inl (cI, 24, .inl (nF BL))), (bf, .inl (cI, 24, .inl (nF BF))), (ba, .inl (cI, 24, .inl (oF BA))), (bk, .inl (cI, 24, .inl (oF BK))), (bg, .inl (cI, 24, .inl (nF BG))), (p0, .inr (2, [.ref h0, .int (nI nx), .int (nI pz)])), (h0, .inr (3, [.int (nI 20), .ref hl1, .ref hs1, .ref hw1, .ref hc1])), (hl1, .inl (cJ, 20 * 24, .inr (.inl (lF HL)))), (hs1, .inl (cI, 20 * 24, .inl (nF HS))), (hw1, .inl (cI, 20 * 24, .inl (nF HW))), (hc1, .inl (cI, 20, .inl (nF HC))), (i0, .inr (3, [.int (nI 2), .ref il1, .ref is1, .ref iw1, .ref ic1])), (il1, .inl (cJ, 2 * 24, .inr (.inl (lF IL)))), (is1, .inl (cI, 2 * 24, .inl (nF IS))), (iw1, .inl (cI, 2 * 24, .inl (nF IW))), (ic1, .inl (cI, 2, .inl (nF IC))), (ik, .inl (cZ, 2, .inl (nF IK))), (it, .inl (cI, 2, .inl (nF IT)))] ss.heap := hP
  refine lv_aload_n hx hb dX5_stem_0 rfl (lv_at hl 0 rfl) ?_
  refine va_get (D := D) (ci := 5) (v := .ref k0) (C := RX5) (T := TX5) (N := 9) hx hb hts inX5 hown hK hP 0 rfl rfl 2 (by decide) (hts _ mf_X5_22) (fun _ h9 => h9) rfl dX5_stem_1 ?_
  refine lv_aload_n hx hb dX5_stem_4 rfl (lv_at hl 0 rfl) ?_
  refine va_get (D := D) (ci := 5) (v := .ref w0) (C := RX5) (T := TX5) (N := 9) hx hb hts inX5 hown hK hP 0 rfl rfl 0 (by decide) (hts _ mf_X5_10) (fun _ h9 => h9) rfl dX5_stem_5 ?_
  refine ro_V (As := [.ref w0]) (rest := []) ⟨hx, hb, hml, hown, hts⟩ (c_X1_longestStem l D cI cJ cZ k0 kl ks kw KL KS KW n (by omega) w0 A s hw0 hk) (k_X5_187 hts ⟨Nat.le_of_ble_eq_true rfl, Nat.le_of_ble_eq_true rfl⟩) hK hP 3 rfl rfl rfl [3, 4, 5, 6, 1] rfl rfl hl.1 rfl (Nat.le_of_ble_eq_true rfl) dX5_stem_8 ⟨Nat.le_of_ble_eq_true rfl, Nat.le_of_ble_eq_true rfl⟩ ?_
  exact ro_iret hx hb hr hlk dX5_stem_11 (rfl)
set_option maxHeartbeats 4000000 in
set_option maxRecDepth 100000 in
theorem c_X5_closest (l : Launch) (D : va_G) (cI cJ cZ : ClassId) (x0 w0 d0 k0 kl ks kw b0 bb bd bm bl bf ba bk bg p0 h0 hl1 hs1 hw1 hc1 i0 il1 is1 iw1 ic1 ik it : Nat) (A : Nat) (s : Nat) (dA : Nat) (dz : Nat) (KL : Nat → Nat) (KS : Nat → Nat) (KW : Nat → Nat) (n : Nat) (BB : Nat → Nat) (BD : Nat → Nat) (BM : Nat → Nat) (BL : Nat → Nat) (BF : Nat → Nat) (BA : Nat → Nat) (BK : Nat → Nat) (BG : Nat → Nat) (nx : Nat) (pz : Nat) (HL : Nat → Nat) (HS : Nat → Nat) (HW : Nat → Nat) (HC : Nat → Nat) (IL : Nat → Nat) (IS : Nat → Nat) (IW : Nat → Nat) (IC : Nat → Nat) (IK : Nat → Nat) (IT : Nat → Nat) (sd : Nat) (hn : n ≤ 24) (hw0 : Wf s A) (hk : ∀ k, k < n → Wf (KS k) (KL k)) (hv : ∀ k, k < n → KW k ≤ 9999) (hso : Srt KS KL n) (hTr : TrX (gapF KS KL) n BB BD BM BL BF BA BK) (hnx : nx < 20) (hpz : pz ≤ 20) (hsd : sd < 2 ^ 31)  : RO l yX5_closest cX5_closest 1 (some .int) (rmN 4 97) D (ty3 cI cJ cZ) [.ref x0] [(x0, .inr (5, [.ref w0, .ref d0, .ref k0, .ref b0, .ref p0, .ref i0, .ref ik, .ref it, .int (nI sd)])), (w0, .inr (4, [.long (lN A), .int (nI s)])), (d0, .inr (4, [.long (lN dA), .int (nI dz)])), (k0, .inr (1, [.ref kl, .ref ks, .ref kw, .int (nI n)])), (kl, .inl (cJ, 24, .inr (.inl (lF KL)))), (ks, .inl (cI, 24, .inl (nF KS))), (kw, .inl (cI, 24, .inl (nF KW))), (b0, .inr (0, [.ref bb, .ref bd, .ref bm, .ref bl, .ref bf, .ref ba, .ref bk, .ref bg, .int (nI n)])), (bb, .inl (cI, 24, .inl (nF BB))), (bd, .inl (cI, 24, .inl (nF BD))), (bm, .inl (cI, 24, .inl (nF BM))), (bl, .inl (cI, 24, .inl (nF BL))), (bf, .inl (cI, 24, .inl (nF BF))), (ba, .inl (cI, 24, .inl (oF BA))), (bk, .inl (cI, 24, .inl (oF BK))), (bg, .inl (cI, 24, .inl (nF BG))), (p0, .inr (2, [.ref h0, .int (nI nx), .int (nI pz)])), (h0, .inr (3, [.int (nI 20), .ref hl1, .ref hs1, .ref hw1, .ref hc1])), (hl1, .inl (cJ, 20 * 24, .inr (.inl (lF HL)))), (hs1, .inl (cI, 20 * 24, .inl (nF HS))), (hw1, .inl (cI, 20 * 24, .inl (nF HW))), (hc1, .inl (cI, 20, .inl (nF HC))), (i0, .inr (3, [.int (nI 2), .ref il1, .ref is1, .ref iw1, .ref ic1])), (il1, .inl (cJ, 2 * 24, .inr (.inl (lF IL)))), (is1, .inl (cI, 2 * 24, .inl (nF IS))), (iw1, .inl (cI, 2 * 24, .inl (nF IW))), (ic1, .inl (cI, 2, .inl (nF IC))), (ik, .inl (cZ, 2, .inl (nF IK))), (it, .inl (cI, 2, .inl (nF IT)))] (.int (oI (mso KS KL s A n))) := by
  have hs8 := hw0.1
  have hA64 := hw0.2.1
  have hBK := tf_BK hTr hn
  have hDK := tf_DK hTr hn
  have hB := tf_B hTr
  have hBF := tf_BF hTr hn
  have hT := tf_T hTr hso
  have hanc := tf_anc hTr hn
  have hp := plc_le KS KL n s A
  have hcb := cbl_le KS KL n s A
  have hfl := fnd_le KS KL n s A
  refine ro_start (by decide) (Nat.le_of_ble_eq_true rfl) ?_
  intro pp ee ss mm below meth cd C0 hP hK ls hl
  obtain ⟨hx, hb, hr, hml, hown, hts, hlk⟩ := C0
  have hown : ss.vm.findClass RX5 = some mm.cls := hown
  have hl : lv_has ls 1 [(0, .ref x0)] := hl
  have hP : va_P D vwCl [(x0, .inr (5, [.ref w0, .ref d0, .ref k0, .ref b0, .ref p0, .ref i0, .ref ik, .ref it, .int (nI sd)])), (w0, .inr (4, [.long (lN A), .int (nI s)])), (d0, .inr (4, [.long (lN dA), .int (nI dz)])), (k0, .inr (1, [.ref kl, .ref ks, .ref kw, .int (nI n)])), (kl, .inl (cJ, 24, .inr (.inl (lF KL)))), (ks, .inl (cI, 24, .inl (nF KS))), (kw, .inl (cI, 24, .inl (nF KW))), (b0, .inr (0, [.ref bb, .ref bd, .ref bm, .ref bl, .ref bf, .ref ba, .ref bk, .ref bg, .int (nI n)])), (bb, .inl (cI, 24, .inl (nF BB))), (bd, .inl (cI, 24, .inl (nF BD))), (bm, .inl (cI, 24, .inl (nF BM))), (bl, .inl (cI, 24, .inl (nF BL))), (bf, .inl (cI, 24, .inl (nF BF))), (ba, .inl (cI, 24, .inl (oF BA))), (bk, .inl (cI, 24, .inl (oF BK))), (bg, .inl (cI, 24, .inl (nF BG))), (p0, .inr (2, [.ref h0, .int (nI nx), .int (nI pz)])), (h0, .inr (3, [.int (nI 20), .ref hl1, .ref hs1, .ref hw1, .ref hc1])), (hl1, .inl (cJ, 20 * 24, .inr (.inl (lF HL)))), (hs1, .inl (cI, 20 * 24, .inl (nF HS))), (hw1, .inl (cI, 20 * 24, .inl (nF HW))), (hc1, .inl (cI, 20, .inl (nF HC))), (i0, .inr (3, [.int (nI 2), .ref il1, .ref is1, .ref iw1, .ref ic1])), (il1, .inl (cJ, 2 * 24, .inr (.inl (lF IL)))), (is1, .inl (cI, 2 * 24, .inl (nF IS))), (iw1, .inl (cI, 2 * 24, .inl (nF IW))), (ic1, .inl (cI, 2, .inl (nF IC))), (ik, .inl (cZ, 2, .inl (nF IK))), (it, .inl (cI, 2, .inl (nF IT)))] ss.heap := hP
  refine lv_aload_n hx hb dX5_closest_0 rfl (lv_at hl 0 rfl) ?_
  refine va_get (D := D) (ci := 5) (v := .ref k0) (C := RX5) (T := TX5) (N := 9) hx hb hts inX5 hown hK hP 0 rfl rfl 2 (by decide) (hts _ mf_X5_22) (fun _ h9 => h9) rfl dX5_closest_1 ?_
  refine lv_aload_n hx hb dX5_closest_4 rfl (lv_at hl 0 rfl) ?_
  refine va_get (D := D) (ci := 5) (v := .ref w0) (C := RX5) (T := TX5) (N := 9) hx hb hts inX5 hown hK hP 0 rfl rfl 0 (by decide) (hts _ mf_X5_10) (fun _ h9 => h9) rfl dX5_closest_5 ?_
  refine ro_V (As := [.ref w0]) (rest := []) ⟨hx, hb, hml, hown, hts⟩ (c_X1_mostShared l D cI cJ cZ k0 kl ks kw KL KS KW n (by omega) w0 A s hw0 hk) (k_X5_193 hts ⟨Nat.le_of_ble_eq_true rfl, Nat.le_of_ble_eq_true rfl⟩) hK hP 3 rfl rfl rfl [3, 4, 5, 6, 1] rfl rfl hl.1 rfl (Nat.le_of_ble_eq_true rfl) dX5_closest_8 ⟨Nat.le_of_ble_eq_true rfl, Nat.le_of_ble_eq_true rfl⟩ ?_
  exact ro_iret hx hb hr hlk dX5_closest_11 (rfl)
set_option maxHeartbeats 4000000 in
set_option maxRecDepth 100000 in
theorem c_X5_beside_neg (l : Launch) (D : va_G) (cI cJ cZ : ClassId) (x0 w0 d0 k0 kl ks kw b0 bb bd bm bl bf ba bk bg p0 h0 hl1 hs1 hw1 hc1 i0 il1 is1 iw1 ic1 ik it : Nat) (A : Nat) (s : Nat) (dA : Nat) (dz : Nat) (KL : Nat → Nat) (KS : Nat → Nat) (KW : Nat → Nat) (n : Nat) (BB : Nat → Nat) (BD : Nat → Nat) (BM : Nat → Nat) (BL : Nat → Nat) (BF : Nat → Nat) (BA : Nat → Nat) (BK : Nat → Nat) (BG : Nat → Nat) (nx : Nat) (pz : Nat) (HL : Nat → Nat) (HS : Nat → Nat) (HW : Nat → Nat) (HC : Nat → Nat) (IL : Nat → Nat) (IS : Nat → Nat) (IW : Nat → Nat) (IC : Nat → Nat) (IK : Nat → Nat) (IT : Nat → Nat) (sd : Nat) (hn : n ≤ 24) (hw0 : Wf s A) (hk : ∀ k, k < n → Wf (KS k) (KL k)) (hv : ∀ k, k < n → KW k ≤ 9999) (hso : Srt KS KL n) (hTr : TrX (gapF KS KL) n BB BD BM BL BF BA BK) (hnx : nx < 20) (hpz : pz ≤ 20) (hsd : sd < 2 ^ 31) (x : Int32) (hx0 : x < 0) : RO l yX5_beside cX5_beside 3 (some .int) (rmN 5 117) D (ty3 cI cJ cZ) [.ref x0, .int x] [(x0, .inr (5, [.ref w0, .ref d0, .ref k0, .ref b0, .ref p0, .ref i0, .ref ik, .ref it, .int (nI sd)])), (w0, .inr (4, [.long (lN A), .int (nI s)])), (d0, .inr (4, [.long (lN dA), .int (nI dz)])), (k0, .inr (1, [.ref kl, .ref ks, .ref kw, .int (nI n)])), (kl, .inl (cJ, 24, .inr (.inl (lF KL)))), (ks, .inl (cI, 24, .inl (nF KS))), (kw, .inl (cI, 24, .inl (nF KW))), (b0, .inr (0, [.ref bb, .ref bd, .ref bm, .ref bl, .ref bf, .ref ba, .ref bk, .ref bg, .int (nI n)])), (bb, .inl (cI, 24, .inl (nF BB))), (bd, .inl (cI, 24, .inl (nF BD))), (bm, .inl (cI, 24, .inl (nF BM))), (bl, .inl (cI, 24, .inl (nF BL))), (bf, .inl (cI, 24, .inl (nF BF))), (ba, .inl (cI, 24, .inl (oF BA))), (bk, .inl (cI, 24, .inl (oF BK))), (bg, .inl (cI, 24, .inl (nF BG))), (p0, .inr (2, [.ref h0, .int (nI nx), .int (nI pz)])), (h0, .inr (3, [.int (nI 20), .ref hl1, .ref hs1, .ref hw1, .ref hc1])), (hl1, .inl (cJ, 20 * 24, .inr (.inl (lF HL)))), (hs1, .inl (cI, 20 * 24, .inl (nF HS))), (hw1, .inl (cI, 20 * 24, .inl (nF HW))), (hc1, .inl (cI, 20, .inl (nF HC))), (i0, .inr (3, [.int (nI 2), .ref il1, .ref is1, .ref iw1, .ref ic1])), (il1, .inl (cJ, 2 * 24, .inr (.inl (lF IL)))), (is1, .inl (cI, 2 * 24, .inl (nF IS))), (iw1, .inl (cI, 2 * 24, .inl (nF IW))), (ic1, .inl (cI, 2, .inl (nF IC))), (ik, .inl (cZ, 2, .inl (nF IK))), (it, .inl (cI, 2, .inl (nF IT)))] (.int (-1000000002)) := by
  have hs8 := hw0.1
  have hA64 := hw0.2.1
  have hBK := tf_BK hTr hn
  have hDK := tf_DK hTr hn
  have hB := tf_B hTr
  have hBF := tf_BF hTr hn
  have hT := tf_T hTr hso
  have hanc := tf_anc hTr hn
  have hp := plc_le KS KL n s A
  have hcb := cbl_le KS KL n s A
  have hfl := fnd_le KS KL n s A
  refine ro_start (by decide) (Nat.le_of_ble_eq_true rfl) ?_
  intro pp ee ss mm below meth cd C0 hP hK ls hl
  obtain ⟨hx, hb, hr, hml, hown, hts, hlk⟩ := C0
  have hown : ss.vm.findClass RX5 = some mm.cls := hown
  have hl : lv_has ls 3 [(0, .ref x0), (1, .int x)] := hl
  have hP : va_P D vwCl [(x0, .inr (5, [.ref w0, .ref d0, .ref k0, .ref b0, .ref p0, .ref i0, .ref ik, .ref it, .int (nI sd)])), (w0, .inr (4, [.long (lN A), .int (nI s)])), (d0, .inr (4, [.long (lN dA), .int (nI dz)])), (k0, .inr (1, [.ref kl, .ref ks, .ref kw, .int (nI n)])), (kl, .inl (cJ, 24, .inr (.inl (lF KL)))), (ks, .inl (cI, 24, .inl (nF KS))), (kw, .inl (cI, 24, .inl (nF KW))), (b0, .inr (0, [.ref bb, .ref bd, .ref bm, .ref bl, .ref bf, .ref ba, .ref bk, .ref bg, .int (nI n)])), (bb, .inl (cI, 24, .inl (nF BB))), (bd, .inl (cI, 24, .inl (nF BD))), (bm, .inl (cI, 24, .inl (nF BM))), (bl, .inl (cI, 24, .inl (nF BL))), (bf, .inl (cI, 24, .inl (nF BF))), (ba, .inl (cI, 24, .inl (oF BA))), (bk, .inl (cI, 24, .inl (oF BK))), (bg, .inl (cI, 24, .inl (nF BG))), (p0, .inr (2, [.ref h0, .int (nI nx), .int (nI pz)])), (h0, .inr (3, [.int (nI 20), .ref hl1, .ref hs1, .ref hw1, .ref hc1])), (hl1, .inl (cJ, 20 * 24, .inr (.inl (lF HL)))), (hs1, .inl (cI, 20 * 24, .inl (nF HS))), (hw1, .inl (cI, 20 * 24, .inl (nF HW))), (hc1, .inl (cI, 20, .inl (nF HC))), (i0, .inr (3, [.int (nI 2), .ref il1, .ref is1, .ref iw1, .ref ic1])), (il1, .inl (cJ, 2 * 24, .inr (.inl (lF IL)))), (is1, .inl (cI, 2 * 24, .inl (nF IS))), (iw1, .inl (cI, 2 * 24, .inl (nF IW))), (ic1, .inl (cI, 2, .inl (nF IC))), (ik, .inl (cZ, 2, .inl (nF IK))), (it, .inl (cI, 2, .inl (nF IT)))] ss.heap := hP
  refine lv_aload_n hx hb dX5_beside_0 rfl (lv_at hl 0 rfl) ?_
  refine va_get (D := D) (ci := 5) (v := .ref k0) (C := RX5) (T := TX5) (N := 9) hx hb hts inX5 hown hK hP 0 rfl rfl 2 (by decide) (hts _ mf_X5_22) (fun _ h9 => h9) rfl dX5_beside_1 ?_
  refine lv_aload_n hx hb dX5_beside_4 rfl (lv_at hl 0 rfl) ?_
  refine va_get (D := D) (ci := 5) (v := .ref w0) (C := RX5) (T := TX5) (N := 9) hx hb hts inX5 hown hK hP 0 rfl rfl 0 (by decide) (hts _ mf_X5_10) (fun _ h9 => h9) rfl dX5_beside_5 ?_
  refine ro_V (As := [.ref w0]) (rest := []) ⟨hx, hb, hml, hown, hts⟩ (c_X1_placeOf l D cI cJ cZ k0 kl ks kw KL KS KW n (by omega) w0 A s hw0 hk) (k_X5_106 hts ⟨Nat.le_of_ble_eq_true rfl, Nat.le_of_ble_eq_true rfl⟩) hK hP 3 rfl rfl rfl [3, 4, 5, 6, 1] rfl rfl hl.1 rfl (Nat.le_of_ble_eq_true rfl) dX5_beside_8 ⟨Nat.le_of_ble_eq_true rfl, Nat.le_of_ble_eq_true rfl⟩ ?_
  refine lv_istore_n (lv' := [(2, .int (nI (plc KS KL n s A))), (0, .ref x0), (1, .int x)]) hx hb dX5_beside_11 rfl hl (by decide) rfl (fun ls hl => ?_)
  refine lv_iload_n hx hb dX5_beside_12 rfl (lv_at hl 2 rfl) ?_
  refine lv_lookup (tgt := 81) (off := 68) hx hb dX5_beside_13 (by decide) (lk_neg hx0) (by decide) ?_
  refine lv_ldc hx hb hown (hts _ mk_X5_57) dX5_beside_81 ?_
  exact ro_iret hx hb hr hlk dX5_beside_83 (rfl)
set_option maxHeartbeats 4000000 in
set_option maxRecDepth 100000 in
theorem c_X5_beside_big (l : Launch) (D : va_G) (cI cJ cZ : ClassId) (x0 w0 d0 k0 kl ks kw b0 bb bd bm bl bf ba bk bg p0 h0 hl1 hs1 hw1 hc1 i0 il1 is1 iw1 ic1 ik it : Nat) (A : Nat) (s : Nat) (dA : Nat) (dz : Nat) (KL : Nat → Nat) (KS : Nat → Nat) (KW : Nat → Nat) (n : Nat) (BB : Nat → Nat) (BD : Nat → Nat) (BM : Nat → Nat) (BL : Nat → Nat) (BF : Nat → Nat) (BA : Nat → Nat) (BK : Nat → Nat) (BG : Nat → Nat) (nx : Nat) (pz : Nat) (HL : Nat → Nat) (HS : Nat → Nat) (HW : Nat → Nat) (HC : Nat → Nat) (IL : Nat → Nat) (IS : Nat → Nat) (IW : Nat → Nat) (IC : Nat → Nat) (IK : Nat → Nat) (IT : Nat → Nat) (sd : Nat) (hn : n ≤ 24) (hw0 : Wf s A) (hk : ∀ k, k < n → Wf (KS k) (KL k)) (hv : ∀ k, k < n → KW k ≤ 9999) (hso : Srt KS KL n) (hTr : TrX (gapF KS KL) n BB BD BM BL BF BA BK) (hnx : nx < 20) (hpz : pz ≤ 20) (hsd : sd < 2 ^ 31) (j : Nat) (hj : j < 2 ^ 31) (hjb : 1 < j) : RO l yX5_beside cX5_beside 3 (some .int) (rmN 5 117) D (ty3 cI cJ cZ) [.ref x0, .int (nI j)] [(x0, .inr (5, [.ref w0, .ref d0, .ref k0, .ref b0, .ref p0, .ref i0, .ref ik, .ref it, .int (nI sd)])), (w0, .inr (4, [.long (lN A), .int (nI s)])), (d0, .inr (4, [.long (lN dA), .int (nI dz)])), (k0, .inr (1, [.ref kl, .ref ks, .ref kw, .int (nI n)])), (kl, .inl (cJ, 24, .inr (.inl (lF KL)))), (ks, .inl (cI, 24, .inl (nF KS))), (kw, .inl (cI, 24, .inl (nF KW))), (b0, .inr (0, [.ref bb, .ref bd, .ref bm, .ref bl, .ref bf, .ref ba, .ref bk, .ref bg, .int (nI n)])), (bb, .inl (cI, 24, .inl (nF BB))), (bd, .inl (cI, 24, .inl (nF BD))), (bm, .inl (cI, 24, .inl (nF BM))), (bl, .inl (cI, 24, .inl (nF BL))), (bf, .inl (cI, 24, .inl (nF BF))), (ba, .inl (cI, 24, .inl (oF BA))), (bk, .inl (cI, 24, .inl (oF BK))), (bg, .inl (cI, 24, .inl (nF BG))), (p0, .inr (2, [.ref h0, .int (nI nx), .int (nI pz)])), (h0, .inr (3, [.int (nI 20), .ref hl1, .ref hs1, .ref hw1, .ref hc1])), (hl1, .inl (cJ, 20 * 24, .inr (.inl (lF HL)))), (hs1, .inl (cI, 20 * 24, .inl (nF HS))), (hw1, .inl (cI, 20 * 24, .inl (nF HW))), (hc1, .inl (cI, 20, .inl (nF HC))), (i0, .inr (3, [.int (nI 2), .ref il1, .ref is1, .ref iw1, .ref ic1])), (il1, .inl (cJ, 2 * 24, .inr (.inl (lF IL)))), (is1, .inl (cI, 2 * 24, .inl (nF IS))), (iw1, .inl (cI, 2 * 24, .inl (nF IW))), (ic1, .inl (cI, 2, .inl (nF IC))), (ik, .inl (cZ, 2, .inl (nF IK))), (it, .inl (cI, 2, .inl (nF IT)))] (.int (-1000000002)) := by
  have hs8 := hw0.1
  have hA64 := hw0.2.1
  have hBK := tf_BK hTr hn
  have hDK := tf_DK hTr hn
  have hB := tf_B hTr
  have hBF := tf_BF hTr hn
  have hT := tf_T hTr hso
  have hanc := tf_anc hTr hn
  have hp := plc_le KS KL n s A
  have hcb := cbl_le KS KL n s A
  have hfl := fnd_le KS KL n s A
  refine ro_start (by decide) (Nat.le_of_ble_eq_true rfl) ?_
  intro pp ee ss mm below meth cd C0 hP hK ls hl
  obtain ⟨hx, hb, hr, hml, hown, hts, hlk⟩ := C0
  have hown : ss.vm.findClass RX5 = some mm.cls := hown
  have hl : lv_has ls 3 [(0, .ref x0), (1, .int (nI j))] := hl
  have hP : va_P D vwCl [(x0, .inr (5, [.ref w0, .ref d0, .ref k0, .ref b0, .ref p0, .ref i0, .ref ik, .ref it, .int (nI sd)])), (w0, .inr (4, [.long (lN A), .int (nI s)])), (d0, .inr (4, [.long (lN dA), .int (nI dz)])), (k0, .inr (1, [.ref kl, .ref ks, .ref kw, .int (nI n)])), (kl, .inl (cJ, 24, .inr (.inl (lF KL)))), (ks, .inl (cI, 24, .inl (nF KS))), (kw, .inl (cI, 24, .inl (nF KW))), (b0, .inr (0, [.ref bb, .ref bd, .ref bm, .ref bl, .ref bf, .ref ba, .ref bk, .ref bg, .int (nI n)])), (bb, .inl (cI, 24, .inl (nF BB))), (bd, .inl (cI, 24, .inl (nF BD))), (bm, .inl (cI, 24, .inl (nF BM))), (bl, .inl (cI, 24, .inl (nF BL))), (bf, .inl (cI, 24, .inl (nF BF))), (ba, .inl (cI, 24, .inl (oF BA))), (bk, .inl (cI, 24, .inl (oF BK))), (bg, .inl (cI, 24, .inl (nF BG))), (p0, .inr (2, [.ref h0, .int (nI nx), .int (nI pz)])), (h0, .inr (3, [.int (nI 20), .ref hl1, .ref hs1, .ref hw1, .ref hc1])), (hl1, .inl (cJ, 20 * 24, .inr (.inl (lF HL)))), (hs1, .inl (cI, 20 * 24, .inl (nF HS))), (hw1, .inl (cI, 20 * 24, .inl (nF HW))), (hc1, .inl (cI, 20, .inl (nF HC))), (i0, .inr (3, [.int (nI 2), .ref il1, .ref is1, .ref iw1, .ref ic1])), (il1, .inl (cJ, 2 * 24, .inr (.inl (lF IL)))), (is1, .inl (cI, 2 * 24, .inl (nF IS))), (iw1, .inl (cI, 2 * 24, .inl (nF IW))), (ic1, .inl (cI, 2, .inl (nF IC))), (ik, .inl (cZ, 2, .inl (nF IK))), (it, .inl (cI, 2, .inl (nF IT)))] ss.heap := hP
  refine lv_aload_n hx hb dX5_beside_0 rfl (lv_at hl 0 rfl) ?_
  refine va_get (D := D) (ci := 5) (v := .ref k0) (C := RX5) (T := TX5) (N := 9) hx hb hts inX5 hown hK hP 0 rfl rfl 2 (by decide) (hts _ mf_X5_22) (fun _ h9 => h9) rfl dX5_beside_1 ?_
  refine lv_aload_n hx hb dX5_beside_4 rfl (lv_at hl 0 rfl) ?_
  refine va_get (D := D) (ci := 5) (v := .ref w0) (C := RX5) (T := TX5) (N := 9) hx hb hts inX5 hown hK hP 0 rfl rfl 0 (by decide) (hts _ mf_X5_10) (fun _ h9 => h9) rfl dX5_beside_5 ?_
  refine ro_V (As := [.ref w0]) (rest := []) ⟨hx, hb, hml, hown, hts⟩ (c_X1_placeOf l D cI cJ cZ k0 kl ks kw KL KS KW n (by omega) w0 A s hw0 hk) (k_X5_106 hts ⟨Nat.le_of_ble_eq_true rfl, Nat.le_of_ble_eq_true rfl⟩) hK hP 3 rfl rfl rfl [3, 4, 5, 6, 1] rfl rfl hl.1 rfl (Nat.le_of_ble_eq_true rfl) dX5_beside_8 ⟨Nat.le_of_ble_eq_true rfl, Nat.le_of_ble_eq_true rfl⟩ ?_
  refine lv_istore_n (lv' := [(2, .int (nI (plc KS KL n s A))), (0, .ref x0), (1, .int (nI j))]) hx hb dX5_beside_11 rfl hl (by decide) rfl (fun ls hl => ?_)
  refine lv_iload_n hx hb dX5_beside_12 rfl (lv_at hl 2 rfl) ?_
  refine lv_lookup (tgt := 81) (off := 68) hx hb dX5_beside_13 (by decide) (lk_big (by omega) (by omega)) (by decide) ?_
  refine lv_ldc hx hb hown (hts _ mk_X5_57) dX5_beside_81 ?_
  exact ro_iret hx hb hr hlk dX5_beside_83 (rfl)
set_option maxHeartbeats 4000000 in
set_option maxRecDepth 100000 in
theorem c_X5_beside_0z (l : Launch) (D : va_G) (cI cJ cZ : ClassId) (x0 w0 d0 k0 kl ks kw b0 bb bd bm bl bf ba bk bg p0 h0 hl1 hs1 hw1 hc1 i0 il1 is1 iw1 ic1 ik it : Nat) (A : Nat) (s : Nat) (dA : Nat) (dz : Nat) (KL : Nat → Nat) (KS : Nat → Nat) (KW : Nat → Nat) (n : Nat) (BB : Nat → Nat) (BD : Nat → Nat) (BM : Nat → Nat) (BL : Nat → Nat) (BF : Nat → Nat) (BA : Nat → Nat) (BK : Nat → Nat) (BG : Nat → Nat) (nx : Nat) (pz : Nat) (HL : Nat → Nat) (HS : Nat → Nat) (HW : Nat → Nat) (HC : Nat → Nat) (IL : Nat → Nat) (IS : Nat → Nat) (IW : Nat → Nat) (IC : Nat → Nat) (IK : Nat → Nat) (IT : Nat → Nat) (sd : Nat) (hn : n ≤ 24) (hw0 : Wf s A) (hk : ∀ k, k < n → Wf (KS k) (KL k)) (hv : ∀ k, k < n → KW k ≤ 9999) (hso : Srt KS KL n) (hTr : TrX (gapF KS KL) n BB BD BM BL BF BA BK) (hnx : nx < 20) (hpz : pz ≤ 20) (hsd : sd < 2 ^ 31) (hc : plc KS KL n s A = 0) : RO l yX5_beside cX5_beside 3 (some .int) (rmN 5 117) D (ty3 cI cJ cZ) [.ref x0, .int (nI 0)] [(x0, .inr (5, [.ref w0, .ref d0, .ref k0, .ref b0, .ref p0, .ref i0, .ref ik, .ref it, .int (nI sd)])), (w0, .inr (4, [.long (lN A), .int (nI s)])), (d0, .inr (4, [.long (lN dA), .int (nI dz)])), (k0, .inr (1, [.ref kl, .ref ks, .ref kw, .int (nI n)])), (kl, .inl (cJ, 24, .inr (.inl (lF KL)))), (ks, .inl (cI, 24, .inl (nF KS))), (kw, .inl (cI, 24, .inl (nF KW))), (b0, .inr (0, [.ref bb, .ref bd, .ref bm, .ref bl, .ref bf, .ref ba, .ref bk, .ref bg, .int (nI n)])), (bb, .inl (cI, 24, .inl (nF BB))), (bd, .inl (cI, 24, .inl (nF BD))), (bm, .inl (cI, 24, .inl (nF BM))), (bl, .inl (cI, 24, .inl (nF BL))), (bf, .inl (cI, 24, .inl (nF BF))), (ba, .inl (cI, 24, .inl (oF BA))), (bk, .inl (cI, 24, .inl (oF BK))), (bg, .inl (cI, 24, .inl (nF BG))), (p0, .inr (2, [.ref h0, .int (nI nx), .int (nI pz)])), (h0, .inr (3, [.int (nI 20), .ref hl1, .ref hs1, .ref hw1, .ref hc1])), (hl1, .inl (cJ, 20 * 24, .inr (.inl (lF HL)))), (hs1, .inl (cI, 20 * 24, .inl (nF HS))), (hw1, .inl (cI, 20 * 24, .inl (nF HW))), (hc1, .inl (cI, 20, .inl (nF HC))), (i0, .inr (3, [.int (nI 2), .ref il1, .ref is1, .ref iw1, .ref ic1])), (il1, .inl (cJ, 2 * 24, .inr (.inl (lF IL)))), (is1, .inl (cI, 2 * 24, .inl (nF IS))), (iw1, .inl (cI, 2 * 24, .inl (nF IW))), (ic1, .inl (cI, 2, .inl (nF IC))), (ik, .inl (cZ, 2, .inl (nF IK))), (it, .inl (cI, 2, .inl (nF IT)))] (.int (oI 0)) := by
  have hs8 := hw0.1
  have hA64 := hw0.2.1
  have hBK := tf_BK hTr hn
  have hDK := tf_DK hTr hn
  have hB := tf_B hTr
  have hBF := tf_BF hTr hn
  have hT := tf_T hTr hso
  have hanc := tf_anc hTr hn
  have hp := plc_le KS KL n s A
  have hcb := cbl_le KS KL n s A
  have hfl := fnd_le KS KL n s A
  refine ro_start (by decide) (Nat.le_of_ble_eq_true rfl) ?_
  intro pp ee ss mm below meth cd C0 hP hK ls hl
  obtain ⟨hx, hb, hr, hml, hown, hts, hlk⟩ := C0
  have hown : ss.vm.findClass RX5 = some mm.cls := hown
  have hl : lv_has ls 3 [(0, .ref x0), (1, .int (nI 0))] := hl
  have hP : va_P D vwCl [(x0, .inr (5, [.ref w0, .ref d0, .ref k0, .ref b0, .ref p0, .ref i0, .ref ik, .ref it, .int (nI sd)])), (w0, .inr (4, [.long (lN A), .int (nI s)])), (d0, .inr (4, [.long (lN dA), .int (nI dz)])), (k0, .inr (1, [.ref kl, .ref ks, .ref kw, .int (nI n)])), (kl, .inl (cJ, 24, .inr (.inl (lF KL)))), (ks, .inl (cI, 24, .inl (nF KS))), (kw, .inl (cI, 24, .inl (nF KW))), (b0, .inr (0, [.ref bb, .ref bd, .ref bm, .ref bl, .ref bf, .ref ba, .ref bk, .ref bg, .int (nI n)])), (bb, .inl (cI, 24, .inl (nF BB))), (bd, .inl (cI, 24, .inl (nF BD))), (bm, .inl (cI, 24, .inl (nF BM))), (bl, .inl (cI, 24, .inl (nF BL))), (bf, .inl (cI, 24, .inl (nF BF))), (ba, .inl (cI, 24, .inl (oF BA))), (bk, .inl (cI, 24, .inl (oF BK))), (bg, .inl (cI, 24, .inl (nF BG))), (p0, .inr (2, [.ref h0, .int (nI nx), .int (nI pz)])), (h0, .inr (3, [.int (nI 20), .ref hl1, .ref hs1, .ref hw1, .ref hc1])), (hl1, .inl (cJ, 20 * 24, .inr (.inl (lF HL)))), (hs1, .inl (cI, 20 * 24, .inl (nF HS))), (hw1, .inl (cI, 20 * 24, .inl (nF HW))), (hc1, .inl (cI, 20, .inl (nF HC))), (i0, .inr (3, [.int (nI 2), .ref il1, .ref is1, .ref iw1, .ref ic1])), (il1, .inl (cJ, 2 * 24, .inr (.inl (lF IL)))), (is1, .inl (cI, 2 * 24, .inl (nF IS))), (iw1, .inl (cI, 2 * 24, .inl (nF IW))), (ic1, .inl (cI, 2, .inl (nF IC))), (ik, .inl (cZ, 2, .inl (nF IK))), (it, .inl (cI, 2, .inl (nF IT)))] ss.heap := hP
  refine lv_aload_n hx hb dX5_beside_0 rfl (lv_at hl 0 rfl) ?_
  refine va_get (D := D) (ci := 5) (v := .ref k0) (C := RX5) (T := TX5) (N := 9) hx hb hts inX5 hown hK hP 0 rfl rfl 2 (by decide) (hts _ mf_X5_22) (fun _ h9 => h9) rfl dX5_beside_1 ?_
  refine lv_aload_n hx hb dX5_beside_4 rfl (lv_at hl 0 rfl) ?_
  refine va_get (D := D) (ci := 5) (v := .ref w0) (C := RX5) (T := TX5) (N := 9) hx hb hts inX5 hown hK hP 0 rfl rfl 0 (by decide) (hts _ mf_X5_10) (fun _ h9 => h9) rfl dX5_beside_5 ?_
  refine ro_V (As := [.ref w0]) (rest := []) ⟨hx, hb, hml, hown, hts⟩ (c_X1_placeOf l D cI cJ cZ k0 kl ks kw KL KS KW n (by omega) w0 A s hw0 hk) (k_X5_106 hts ⟨Nat.le_of_ble_eq_true rfl, Nat.le_of_ble_eq_true rfl⟩) hK hP 3 rfl rfl rfl [3, 4, 5, 6, 1] rfl rfl hl.1 rfl (Nat.le_of_ble_eq_true rfl) dX5_beside_8 ⟨Nat.le_of_ble_eq_true rfl, Nat.le_of_ble_eq_true rfl⟩ ?_
  refine lv_istore_n (lv' := [(2, .int (nI (plc KS KL n s A))), (0, .ref x0), (1, .int (nI 0))]) hx hb dX5_beside_11 rfl hl (by decide) rfl (fun ls hl => ?_)
  refine lv_iload_n hx hb dX5_beside_12 rfl (lv_at hl 2 rfl) ?_
  refine lv_lookup (tgt := 40) (off := 27) hx hb dX5_beside_13 (by decide) (by decide +kernel) (by decide) ?_
  refine lv_aload_n hx hb dX5_beside_40 rfl (lv_at hl 1 rfl) ?_
  refine va_get (D := D) (ci := 5) (v := .ref k0) (C := RX5) (T := TX5) (N := 9) hx hb hts inX5 hown hK hP 0 rfl rfl 2 (by decide) (hts _ mf_X5_22) (fun _ h9 => h9) rfl dX5_beside_41 ?_
  refine lv_iload_n hx hb dX5_beside_44 rfl (lv_at hl 0 rfl) ?_
  refine lv_iconst (v := nI 1) hx hb dX5_beside_45 (by decide +kernel) ?_
  refine lv_isub hx hb dX5_beside_46 ?_
  refine tq (y := ((-1))) (by rw [hc]; decide +kernel) ?_
  refine ro_V (As := [.int ((-1))]) (rest := []) ⟨hx, hb, hml, hown, hts⟩ (c_X1_orNone_neg l D cI cJ cZ k0 kl ks kw KL KS KW n (by omega)) (k_X5_190 hts ⟨Nat.le_of_ble_eq_true rfl, Nat.le_of_ble_eq_true rfl⟩) hK hP 3 rfl rfl rfl [3, 4, 5, 6] rfl rfl hl.1 rfl (Nat.le_of_ble_eq_true rfl) dX5_beside_47 ⟨Nat.le_of_ble_eq_true rfl, Nat.le_of_ble_eq_true rfl⟩ ?_
  exact ro_iret hx hb hr hlk dX5_beside_50 (rfl)
set_option maxHeartbeats 4000000 in
set_option maxRecDepth 100000 in
theorem c_X5_beside_0p (l : Launch) (D : va_G) (cI cJ cZ : ClassId) (x0 w0 d0 k0 kl ks kw b0 bb bd bm bl bf ba bk bg p0 h0 hl1 hs1 hw1 hc1 i0 il1 is1 iw1 ic1 ik it : Nat) (A : Nat) (s : Nat) (dA : Nat) (dz : Nat) (KL : Nat → Nat) (KS : Nat → Nat) (KW : Nat → Nat) (n : Nat) (BB : Nat → Nat) (BD : Nat → Nat) (BM : Nat → Nat) (BL : Nat → Nat) (BF : Nat → Nat) (BA : Nat → Nat) (BK : Nat → Nat) (BG : Nat → Nat) (nx : Nat) (pz : Nat) (HL : Nat → Nat) (HS : Nat → Nat) (HW : Nat → Nat) (HC : Nat → Nat) (IL : Nat → Nat) (IS : Nat → Nat) (IW : Nat → Nat) (IC : Nat → Nat) (IK : Nat → Nat) (IT : Nat → Nat) (sd : Nat) (hn : n ≤ 24) (hw0 : Wf s A) (hk : ∀ k, k < n → Wf (KS k) (KL k)) (hv : ∀ k, k < n → KW k ≤ 9999) (hso : Srt KS KL n) (hTr : TrX (gapF KS KL) n BB BD BM BL BF BA BK) (hnx : nx < 20) (hpz : pz ≤ 20) (hsd : sd < 2 ^ 31) (hc : 0 < plc KS KL n s A) : RO l yX5_beside cX5_beside 3 (some .int) (rmN 5 117) D (ty3 cI cJ cZ) [.ref x0, .int (nI 0)] [(x0, .inr (5, [.ref w0, .ref d0, .ref k0, .ref b0, .ref p0, .ref i0, .ref ik, .ref it, .int (nI sd)])), (w0, .inr (4, [.long (lN A), .int (nI s)])), (d0, .inr (4, [.long (lN dA), .int (nI dz)])), (k0, .inr (1, [.ref kl, .ref ks, .ref kw, .int (nI n)])), (kl, .inl (cJ, 24, .inr (.inl (lF KL)))), (ks, .inl (cI, 24, .inl (nF KS))), (kw, .inl (cI, 24, .inl (nF KW))), (b0, .inr (0, [.ref bb, .ref bd, .ref bm, .ref bl, .ref bf, .ref ba, .ref bk, .ref bg, .int (nI n)])), (bb, .inl (cI, 24, .inl (nF BB))), (bd, .inl (cI, 24, .inl (nF BD))), (bm, .inl (cI, 24, .inl (nF BM))), (bl, .inl (cI, 24, .inl (nF BL))), (bf, .inl (cI, 24, .inl (nF BF))), (ba, .inl (cI, 24, .inl (oF BA))), (bk, .inl (cI, 24, .inl (oF BK))), (bg, .inl (cI, 24, .inl (nF BG))), (p0, .inr (2, [.ref h0, .int (nI nx), .int (nI pz)])), (h0, .inr (3, [.int (nI 20), .ref hl1, .ref hs1, .ref hw1, .ref hc1])), (hl1, .inl (cJ, 20 * 24, .inr (.inl (lF HL)))), (hs1, .inl (cI, 20 * 24, .inl (nF HS))), (hw1, .inl (cI, 20 * 24, .inl (nF HW))), (hc1, .inl (cI, 20, .inl (nF HC))), (i0, .inr (3, [.int (nI 2), .ref il1, .ref is1, .ref iw1, .ref ic1])), (il1, .inl (cJ, 2 * 24, .inr (.inl (lF IL)))), (is1, .inl (cI, 2 * 24, .inl (nF IS))), (iw1, .inl (cI, 2 * 24, .inl (nF IW))), (ic1, .inl (cI, 2, .inl (nF IC))), (ik, .inl (cZ, 2, .inl (nF IK))), (it, .inl (cI, 2, .inl (nF IT)))] (.int (oI (if ((plc KS KL n s A) - 1) < n then ((plc KS KL n s A) - 1) + 1 else 0))) := by
  have hs8 := hw0.1
  have hA64 := hw0.2.1
  have hBK := tf_BK hTr hn
  have hDK := tf_DK hTr hn
  have hB := tf_B hTr
  have hBF := tf_BF hTr hn
  have hT := tf_T hTr hso
  have hanc := tf_anc hTr hn
  have hp := plc_le KS KL n s A
  have hcb := cbl_le KS KL n s A
  have hfl := fnd_le KS KL n s A
  refine ro_start (by decide) (Nat.le_of_ble_eq_true rfl) ?_
  intro pp ee ss mm below meth cd C0 hP hK ls hl
  obtain ⟨hx, hb, hr, hml, hown, hts, hlk⟩ := C0
  have hown : ss.vm.findClass RX5 = some mm.cls := hown
  have hl : lv_has ls 3 [(0, .ref x0), (1, .int (nI 0))] := hl
  have hP : va_P D vwCl [(x0, .inr (5, [.ref w0, .ref d0, .ref k0, .ref b0, .ref p0, .ref i0, .ref ik, .ref it, .int (nI sd)])), (w0, .inr (4, [.long (lN A), .int (nI s)])), (d0, .inr (4, [.long (lN dA), .int (nI dz)])), (k0, .inr (1, [.ref kl, .ref ks, .ref kw, .int (nI n)])), (kl, .inl (cJ, 24, .inr (.inl (lF KL)))), (ks, .inl (cI, 24, .inl (nF KS))), (kw, .inl (cI, 24, .inl (nF KW))), (b0, .inr (0, [.ref bb, .ref bd, .ref bm, .ref bl, .ref bf, .ref ba, .ref bk, .ref bg, .int (nI n)])), (bb, .inl (cI, 24, .inl (nF BB))), (bd, .inl (cI, 24, .inl (nF BD))), (bm, .inl (cI, 24, .inl (nF BM))), (bl, .inl (cI, 24, .inl (nF BL))), (bf, .inl (cI, 24, .inl (nF BF))), (ba, .inl (cI, 24, .inl (oF BA))), (bk, .inl (cI, 24, .inl (oF BK))), (bg, .inl (cI, 24, .inl (nF BG))), (p0, .inr (2, [.ref h0, .int (nI nx), .int (nI pz)])), (h0, .inr (3, [.int (nI 20), .ref hl1, .ref hs1, .ref hw1, .ref hc1])), (hl1, .inl (cJ, 20 * 24, .inr (.inl (lF HL)))), (hs1, .inl (cI, 20 * 24, .inl (nF HS))), (hw1, .inl (cI, 20 * 24, .inl (nF HW))), (hc1, .inl (cI, 20, .inl (nF HC))), (i0, .inr (3, [.int (nI 2), .ref il1, .ref is1, .ref iw1, .ref ic1])), (il1, .inl (cJ, 2 * 24, .inr (.inl (lF IL)))), (is1, .inl (cI, 2 * 24, .inl (nF IS))), (iw1, .inl (cI, 2 * 24, .inl (nF IW))), (ic1, .inl (cI, 2, .inl (nF IC))), (ik, .inl (cZ, 2, .inl (nF IK))), (it, .inl (cI, 2, .inl (nF IT)))] ss.heap := hP
  refine lv_aload_n hx hb dX5_beside_0 rfl (lv_at hl 0 rfl) ?_
  refine va_get (D := D) (ci := 5) (v := .ref k0) (C := RX5) (T := TX5) (N := 9) hx hb hts inX5 hown hK hP 0 rfl rfl 2 (by decide) (hts _ mf_X5_22) (fun _ h9 => h9) rfl dX5_beside_1 ?_
  refine lv_aload_n hx hb dX5_beside_4 rfl (lv_at hl 0 rfl) ?_
  refine va_get (D := D) (ci := 5) (v := .ref w0) (C := RX5) (T := TX5) (N := 9) hx hb hts inX5 hown hK hP 0 rfl rfl 0 (by decide) (hts _ mf_X5_10) (fun _ h9 => h9) rfl dX5_beside_5 ?_
  refine ro_V (As := [.ref w0]) (rest := []) ⟨hx, hb, hml, hown, hts⟩ (c_X1_placeOf l D cI cJ cZ k0 kl ks kw KL KS KW n (by omega) w0 A s hw0 hk) (k_X5_106 hts ⟨Nat.le_of_ble_eq_true rfl, Nat.le_of_ble_eq_true rfl⟩) hK hP 3 rfl rfl rfl [3, 4, 5, 6, 1] rfl rfl hl.1 rfl (Nat.le_of_ble_eq_true rfl) dX5_beside_8 ⟨Nat.le_of_ble_eq_true rfl, Nat.le_of_ble_eq_true rfl⟩ ?_
  refine lv_istore_n (lv' := [(2, .int (nI (plc KS KL n s A))), (0, .ref x0), (1, .int (nI 0))]) hx hb dX5_beside_11 rfl hl (by decide) rfl (fun ls hl => ?_)
  refine lv_iload_n hx hb dX5_beside_12 rfl (lv_at hl 2 rfl) ?_
  refine lv_lookup (tgt := 40) (off := 27) hx hb dX5_beside_13 (by decide) (by decide +kernel) (by decide) ?_
  refine lv_aload_n hx hb dX5_beside_40 rfl (lv_at hl 1 rfl) ?_
  refine va_get (D := D) (ci := 5) (v := .ref k0) (C := RX5) (T := TX5) (N := 9) hx hb hts inX5 hown hK hP 0 rfl rfl 2 (by decide) (hts _ mf_X5_22) (fun _ h9 => h9) rfl dX5_beside_41 ?_
  refine lv_iload_n hx hb dX5_beside_44 rfl (lv_at hl 0 rfl) ?_
  refine lv_iconst (v := nI 1) hx hb dX5_beside_45 (by decide +kernel) ?_
  refine n_isub hx hb dX5_beside_46 (by omega) ?_
  refine ro_V (As := [.int (nI ((plc KS KL n s A) - 1))]) (rest := []) ⟨hx, hb, hml, hown, hts⟩ (c_X1_orNone l D cI cJ cZ k0 kl ks kw KL KS KW n (by omega) ((plc KS KL n s A) - 1) (by omega)) (k_X5_190 hts ⟨Nat.le_of_ble_eq_true rfl, Nat.le_of_ble_eq_true rfl⟩) hK hP 3 rfl rfl rfl [3, 4, 5, 6] rfl rfl hl.1 rfl (Nat.le_of_ble_eq_true rfl) dX5_beside_47 ⟨Nat.le_of_ble_eq_true rfl, Nat.le_of_ble_eq_true rfl⟩ ?_
  exact ro_iret hx hb hr hlk dX5_beside_50 (rfl)
set_option maxHeartbeats 4000000 in
set_option maxRecDepth 100000 in
theorem c_X5_beside_1y (l : Launch) (D : va_G) (cI cJ cZ : ClassId) (x0 w0 d0 k0 kl ks kw b0 bb bd bm bl bf ba bk bg p0 h0 hl1 hs1 hw1 hc1 i0 il1 is1 iw1 ic1 ik it : Nat) (A : Nat) (s : Nat) (dA : Nat) (dz : Nat) (KL : Nat → Nat) (KS : Nat → Nat) (KW : Nat → Nat) (n : Nat) (BB : Nat → Nat) (BD : Nat → Nat) (BM : Nat → Nat) (BL : Nat → Nat) (BF : Nat → Nat) (BA : Nat → Nat) (BK : Nat → Nat) (BG : Nat → Nat) (nx : Nat) (pz : Nat) (HL : Nat → Nat) (HS : Nat → Nat) (HW : Nat → Nat) (HC : Nat → Nat) (IL : Nat → Nat) (IS : Nat → Nat) (IW : Nat → Nat) (IC : Nat → Nat) (IK : Nat → Nat) (IT : Nat → Nat) (sd : Nat) (hn : n ≤ 24) (hw0 : Wf s A) (hk : ∀ k, k < n → Wf (KS k) (KL k)) (hv : ∀ k, k < n → KW k ≤ 9999) (hso : Srt KS KL n) (hTr : TrX (gapF KS KL) n BB BD BM BL BF BA BK) (hnx : nx < 20) (hpz : pz ≤ 20) (hsd : sd < 2 ^ 31) (ha : plc KS KL n s A < n ∧ unl (KS (plc KS KL n s A)) (KL (plc KS KL n s A)) s A = 72) : RO l yX5_beside cX5_beside 3 (some .int) (rmN 5 117) D (ty3 cI cJ cZ) [.ref x0, .int (nI 1)] [(x0, .inr (5, [.ref w0, .ref d0, .ref k0, .ref b0, .ref p0, .ref i0, .ref ik, .ref it, .int (nI sd)])), (w0, .inr (4, [.long (lN A), .int (nI s)])), (d0, .inr (4, [.long (lN dA), .int (nI dz)])), (k0, .inr (1, [.ref kl, .ref ks, .ref kw, .int (nI n)])), (kl, .inl (cJ, 24, .inr (.inl (lF KL)))), (ks, .inl (cI, 24, .inl (nF KS))), (kw, .inl (cI, 24, .inl (nF KW))), (b0, .inr (0, [.ref bb, .ref bd, .ref bm, .ref bl, .ref bf, .ref ba, .ref bk, .ref bg, .int (nI n)])), (bb, .inl (cI, 24, .inl (nF BB))), (bd, .inl (cI, 24, .inl (nF BD))), (bm, .inl (cI, 24, .inl (nF BM))), (bl, .inl (cI, 24, .inl (nF BL))), (bf, .inl (cI, 24, .inl (nF BF))), (ba, .inl (cI, 24, .inl (oF BA))), (bk, .inl (cI, 24, .inl (oF BK))), (bg, .inl (cI, 24, .inl (nF BG))), (p0, .inr (2, [.ref h0, .int (nI nx), .int (nI pz)])), (h0, .inr (3, [.int (nI 20), .ref hl1, .ref hs1, .ref hw1, .ref hc1])), (hl1, .inl (cJ, 20 * 24, .inr (.inl (lF HL)))), (hs1, .inl (cI, 20 * 24, .inl (nF HS))), (hw1, .inl (cI, 20 * 24, .inl (nF HW))), (hc1, .inl (cI, 20, .inl (nF HC))), (i0, .inr (3, [.int (nI 2), .ref il1, .ref is1, .ref iw1, .ref ic1])), (il1, .inl (cJ, 2 * 24, .inr (.inl (lF IL)))), (is1, .inl (cI, 2 * 24, .inl (nF IS))), (iw1, .inl (cI, 2 * 24, .inl (nF IW))), (ic1, .inl (cI, 2, .inl (nF IC))), (ik, .inl (cZ, 2, .inl (nF IK))), (it, .inl (cI, 2, .inl (nF IT)))] (.int (oI (if ((plc KS KL n s A) + 1) < n then ((plc KS KL n s A) + 1) + 1 else 0))) := by
  have hs8 := hw0.1
  have hA64 := hw0.2.1
  have hBK := tf_BK hTr hn
  have hDK := tf_DK hTr hn
  have hB := tf_B hTr
  have hBF := tf_BF hTr hn
  have hT := tf_T hTr hso
  have hanc := tf_anc hTr hn
  have hp := plc_le KS KL n s A
  have hcb := cbl_le KS KL n s A
  have hfl := fnd_le KS KL n s A
  refine ro_start (by decide) (Nat.le_of_ble_eq_true rfl) ?_
  intro pp ee ss mm below meth cd C0 hP hK ls hl
  obtain ⟨hx, hb, hr, hml, hown, hts, hlk⟩ := C0
  have hown : ss.vm.findClass RX5 = some mm.cls := hown
  have hl : lv_has ls 3 [(0, .ref x0), (1, .int (nI 1))] := hl
  have hP : va_P D vwCl [(x0, .inr (5, [.ref w0, .ref d0, .ref k0, .ref b0, .ref p0, .ref i0, .ref ik, .ref it, .int (nI sd)])), (w0, .inr (4, [.long (lN A), .int (nI s)])), (d0, .inr (4, [.long (lN dA), .int (nI dz)])), (k0, .inr (1, [.ref kl, .ref ks, .ref kw, .int (nI n)])), (kl, .inl (cJ, 24, .inr (.inl (lF KL)))), (ks, .inl (cI, 24, .inl (nF KS))), (kw, .inl (cI, 24, .inl (nF KW))), (b0, .inr (0, [.ref bb, .ref bd, .ref bm, .ref bl, .ref bf, .ref ba, .ref bk, .ref bg, .int (nI n)])), (bb, .inl (cI, 24, .inl (nF BB))), (bd, .inl (cI, 24, .inl (nF BD))), (bm, .inl (cI, 24, .inl (nF BM))), (bl, .inl (cI, 24, .inl (nF BL))), (bf, .inl (cI, 24, .inl (nF BF))), (ba, .inl (cI, 24, .inl (oF BA))), (bk, .inl (cI, 24, .inl (oF BK))), (bg, .inl (cI, 24, .inl (nF BG))), (p0, .inr (2, [.ref h0, .int (nI nx), .int (nI pz)])), (h0, .inr (3, [.int (nI 20), .ref hl1, .ref hs1, .ref hw1, .ref hc1])), (hl1, .inl (cJ, 20 * 24, .inr (.inl (lF HL)))), (hs1, .inl (cI, 20 * 24, .inl (nF HS))), (hw1, .inl (cI, 20 * 24, .inl (nF HW))), (hc1, .inl (cI, 20, .inl (nF HC))), (i0, .inr (3, [.int (nI 2), .ref il1, .ref is1, .ref iw1, .ref ic1])), (il1, .inl (cJ, 2 * 24, .inr (.inl (lF IL)))), (is1, .inl (cI, 2 * 24, .inl (nF IS))), (iw1, .inl (cI, 2 * 24, .inl (nF IW))), (ic1, .inl (cI, 2, .inl (nF IC))), (ik, .inl (cZ, 2, .inl (nF IK))), (it, .inl (cI, 2, .inl (nF IT)))] ss.heap := hP
  refine lv_aload_n hx hb dX5_beside_0 rfl (lv_at hl 0 rfl) ?_
  refine va_get (D := D) (ci := 5) (v := .ref k0) (C := RX5) (T := TX5) (N := 9) hx hb hts inX5 hown hK hP 0 rfl rfl 2 (by decide) (hts _ mf_X5_22) (fun _ h9 => h9) rfl dX5_beside_1 ?_
  refine lv_aload_n hx hb dX5_beside_4 rfl (lv_at hl 0 rfl) ?_
  refine va_get (D := D) (ci := 5) (v := .ref w0) (C := RX5) (T := TX5) (N := 9) hx hb hts inX5 hown hK hP 0 rfl rfl 0 (by decide) (hts _ mf_X5_10) (fun _ h9 => h9) rfl dX5_beside_5 ?_
  refine ro_V (As := [.ref w0]) (rest := []) ⟨hx, hb, hml, hown, hts⟩ (c_X1_placeOf l D cI cJ cZ k0 kl ks kw KL KS KW n (by omega) w0 A s hw0 hk) (k_X5_106 hts ⟨Nat.le_of_ble_eq_true rfl, Nat.le_of_ble_eq_true rfl⟩) hK hP 3 rfl rfl rfl [3, 4, 5, 6, 1] rfl rfl hl.1 rfl (Nat.le_of_ble_eq_true rfl) dX5_beside_8 ⟨Nat.le_of_ble_eq_true rfl, Nat.le_of_ble_eq_true rfl⟩ ?_
  refine lv_istore_n (lv' := [(2, .int (nI (plc KS KL n s A))), (0, .ref x0), (1, .int (nI 1))]) hx hb dX5_beside_11 rfl hl (by decide) rfl (fun ls hl => ?_)
  refine lv_iload_n hx hb dX5_beside_12 rfl (lv_at hl 2 rfl) ?_
  refine lv_lookup (tgt := 51) (off := 38) hx hb dX5_beside_13 (by decide) (by decide +kernel) (by decide) ?_
  refine lv_aload_n hx hb dX5_beside_51 rfl (lv_at hl 1 rfl) ?_
  refine va_get (D := D) (ci := 5) (v := .ref k0) (C := RX5) (T := TX5) (N := 9) hx hb hts inX5 hown hK hP 0 rfl rfl 2 (by decide) (hts _ mf_X5_22) (fun _ h9 => h9) rfl dX5_beside_52 ?_
  refine lv_aload_n hx hb dX5_beside_55 rfl (lv_at hl 1 rfl) ?_
  refine va_get (D := D) (ci := 5) (v := .ref k0) (C := RX5) (T := TX5) (N := 9) hx hb hts inX5 hown hK hP 0 rfl rfl 2 (by decide) (hts _ mf_X5_22) (fun _ h9 => h9) rfl dX5_beside_56 ?_
  refine lv_aload_n hx hb dX5_beside_59 rfl (lv_at hl 1 rfl) ?_
  refine va_get (D := D) (ci := 5) (v := .ref w0) (C := RX5) (T := TX5) (N := 9) hx hb hts inX5 hown hK hP 0 rfl rfl 0 (by decide) (hts _ mf_X5_10) (fun _ h9 => h9) rfl dX5_beside_60 ?_
  refine ro_V (As := [.ref w0]) (rest := [.ref k0]) ⟨hx, hb, hml, hown, hts⟩ (c_X1_find l D cI cJ cZ k0 kl ks kw KL KS KW n (by omega) w0 A s hw0 hk) (k_X5_110 hts ⟨Nat.le_of_ble_eq_true rfl, Nat.le_of_ble_eq_true rfl⟩) hK hP 3 rfl rfl rfl [3, 4, 5, 6, 1] rfl rfl hl.1 rfl (Nat.le_of_ble_eq_true rfl) dX5_beside_63 ⟨Nat.le_of_ble_eq_true rfl, Nat.le_of_ble_eq_true rfl⟩ ?_
  refine tq (y := nI (plc KS KL n s A)) (by rw [fnd_yes ha, oI_s]) ?_
  refine lv_iconst (v := oI 0) hx hb dX5_beside_66 (by decide +kernel) ?_
  refine no_ne (tgt := 74) hx hb dX5_beside_67 (by decide) (by omega) ?_
  refine lv_iload_n hx hb dX5_beside_74 rfl (lv_at hl 0 rfl) ?_
  refine lv_iconst (v := nI 1) hx hb dX5_beside_75 (by decide +kernel) ?_
  refine n_iadd hx hb dX5_beside_76 ?_
  refine ro_V (As := [.int (nI ((plc KS KL n s A) + 1))]) (rest := []) ⟨hx, hb, hml, hown, hts⟩ (c_X1_orNone l D cI cJ cZ k0 kl ks kw KL KS KW n (by omega) ((plc KS KL n s A) + 1) (by omega)) (k_X5_190 hts ⟨Nat.le_of_ble_eq_true rfl, Nat.le_of_ble_eq_true rfl⟩) hK hP 3 rfl rfl rfl [3, 4, 5, 6] rfl rfl hl.1 rfl (Nat.le_of_ble_eq_true rfl) dX5_beside_77 ⟨Nat.le_of_ble_eq_true rfl, Nat.le_of_ble_eq_true rfl⟩ ?_
  exact ro_iret hx hb hr hlk dX5_beside_80 (rfl)
set_option maxHeartbeats 4000000 in
set_option maxRecDepth 100000 in
theorem c_X5_beside_1n (l : Launch) (D : va_G) (cI cJ cZ : ClassId) (x0 w0 d0 k0 kl ks kw b0 bb bd bm bl bf ba bk bg p0 h0 hl1 hs1 hw1 hc1 i0 il1 is1 iw1 ic1 ik it : Nat) (A : Nat) (s : Nat) (dA : Nat) (dz : Nat) (KL : Nat → Nat) (KS : Nat → Nat) (KW : Nat → Nat) (n : Nat) (BB : Nat → Nat) (BD : Nat → Nat) (BM : Nat → Nat) (BL : Nat → Nat) (BF : Nat → Nat) (BA : Nat → Nat) (BK : Nat → Nat) (BG : Nat → Nat) (nx : Nat) (pz : Nat) (HL : Nat → Nat) (HS : Nat → Nat) (HW : Nat → Nat) (HC : Nat → Nat) (IL : Nat → Nat) (IS : Nat → Nat) (IW : Nat → Nat) (IC : Nat → Nat) (IK : Nat → Nat) (IT : Nat → Nat) (sd : Nat) (hn : n ≤ 24) (hw0 : Wf s A) (hk : ∀ k, k < n → Wf (KS k) (KL k)) (hv : ∀ k, k < n → KW k ≤ 9999) (hso : Srt KS KL n) (hTr : TrX (gapF KS KL) n BB BD BM BL BF BA BK) (hnx : nx < 20) (hpz : pz ≤ 20) (hsd : sd < 2 ^ 31) (ha : ¬ (plc KS KL n s A < n ∧ unl (KS (plc KS KL n s A)) (KL (plc KS KL n s A)) s A = 72)) : RO l yX5_beside cX5_beside 3 (some .int) (rmN 5 117) D (ty3 cI cJ cZ) [.ref x0, .int (nI 1)] [(x0, .inr (5, [.ref w0, .ref d0, .ref k0, .ref b0, .ref p0, .ref i0, .ref ik, .ref it, .int (nI sd)])), (w0, .inr (4, [.long (lN A), .int (nI s)])), (d0, .inr (4, [.long (lN dA), .int (nI dz)])), (k0, .inr (1, [.ref kl, .ref ks, .ref kw, .int (nI n)])), (kl, .inl (cJ, 24, .inr (.inl (lF KL)))), (ks, .inl (cI, 24, .inl (nF KS))), (kw, .inl (cI, 24, .inl (nF KW))), (b0, .inr (0, [.ref bb, .ref bd, .ref bm, .ref bl, .ref bf, .ref ba, .ref bk, .ref bg, .int (nI n)])), (bb, .inl (cI, 24, .inl (nF BB))), (bd, .inl (cI, 24, .inl (nF BD))), (bm, .inl (cI, 24, .inl (nF BM))), (bl, .inl (cI, 24, .inl (nF BL))), (bf, .inl (cI, 24, .inl (nF BF))), (ba, .inl (cI, 24, .inl (oF BA))), (bk, .inl (cI, 24, .inl (oF BK))), (bg, .inl (cI, 24, .inl (nF BG))), (p0, .inr (2, [.ref h0, .int (nI nx), .int (nI pz)])), (h0, .inr (3, [.int (nI 20), .ref hl1, .ref hs1, .ref hw1, .ref hc1])), (hl1, .inl (cJ, 20 * 24, .inr (.inl (lF HL)))), (hs1, .inl (cI, 20 * 24, .inl (nF HS))), (hw1, .inl (cI, 20 * 24, .inl (nF HW))), (hc1, .inl (cI, 20, .inl (nF HC))), (i0, .inr (3, [.int (nI 2), .ref il1, .ref is1, .ref iw1, .ref ic1])), (il1, .inl (cJ, 2 * 24, .inr (.inl (lF IL)))), (is1, .inl (cI, 2 * 24, .inl (nF IS))), (iw1, .inl (cI, 2 * 24, .inl (nF IW))), (ic1, .inl (cI, 2, .inl (nF IC))), (ik, .inl (cZ, 2, .inl (nF IK))), (it, .inl (cI, 2, .inl (nF IT)))] (.int (oI (if (plc KS KL n s A) < n then (plc KS KL n s A) + 1 else 0))) := by
  have hs8 := hw0.1
  have hA64 := hw0.2.1
  have hBK := tf_BK hTr hn
  have hDK := tf_DK hTr hn
  have hB := tf_B hTr
  have hBF := tf_BF hTr hn
  have hT := tf_T hTr hso
  have hanc := tf_anc hTr hn
  have hp := plc_le KS KL n s A
  have hcb := cbl_le KS KL n s A
  have hfl := fnd_le KS KL n s A
  refine ro_start (by decide) (Nat.le_of_ble_eq_true rfl) ?_
  intro pp ee ss mm below meth cd C0 hP hK ls hl
  obtain ⟨hx, hb, hr, hml, hown, hts, hlk⟩ := C0
  have hown : ss.vm.findClass RX5 = some mm.cls := hown
  have hl : lv_has ls 3 [(0, .ref x0), (1, .int (nI 1))] := hl
  have hP : va_P D vwCl [(x0, .inr (5, [.ref w0, .ref d0, .ref k0, .ref b0, .ref p0, .ref i0, .ref ik, .ref it, .int (nI sd)])), (w0, .inr (4, [.long (lN A), .int (nI s)])), (d0, .inr (4, [.long (lN dA), .int (nI dz)])), (k0, .inr (1, [.ref kl, .ref ks, .ref kw, .int (nI n)])), (kl, .inl (cJ, 24, .inr (.inl (lF KL)))), (ks, .inl (cI, 24, .inl (nF KS))), (kw, .inl (cI, 24, .inl (nF KW))), (b0, .inr (0, [.ref bb, .ref bd, .ref bm, .ref bl, .ref bf, .ref ba, .ref bk, .ref bg, .int (nI n)])), (bb, .inl (cI, 24, .inl (nF BB))), (bd, .inl (cI, 24, .inl (nF BD))), (bm, .inl (cI, 24, .inl (nF BM))), (bl, .inl (cI, 24, .inl (nF BL))), (bf, .inl (cI, 24, .inl (nF BF))), (ba, .inl (cI, 24, .inl (oF BA))), (bk, .inl (cI, 24, .inl (oF BK))), (bg, .inl (cI, 24, .inl (nF BG))), (p0, .inr (2, [.ref h0, .int (nI nx), .int (nI pz)])), (h0, .inr (3, [.int (nI 20), .ref hl1, .ref hs1, .ref hw1, .ref hc1])), (hl1, .inl (cJ, 20 * 24, .inr (.inl (lF HL)))), (hs1, .inl (cI, 20 * 24, .inl (nF HS))), (hw1, .inl (cI, 20 * 24, .inl (nF HW))), (hc1, .inl (cI, 20, .inl (nF HC))), (i0, .inr (3, [.int (nI 2), .ref il1, .ref is1, .ref iw1, .ref ic1])), (il1, .inl (cJ, 2 * 24, .inr (.inl (lF IL)))), (is1, .inl (cI, 2 * 24, .inl (nF IS))), (iw1, .inl (cI, 2 * 24, .inl (nF IW))), (ic1, .inl (cI, 2, .inl (nF IC))), (ik, .inl (cZ, 2, .inl (nF IK))), (it, .inl (cI, 2, .inl (nF IT)))] ss.heap := hP
  refine lv_aload_n hx hb dX5_beside_0 rfl (lv_at hl 0 rfl) ?_
  refine va_get (D := D) (ci := 5) (v := .ref k0) (C := RX5) (T := TX5) (N := 9) hx hb hts inX5 hown hK hP 0 rfl rfl 2 (by decide) (hts _ mf_X5_22) (fun _ h9 => h9) rfl dX5_beside_1 ?_
  refine lv_aload_n hx hb dX5_beside_4 rfl (lv_at hl 0 rfl) ?_
  refine va_get (D := D) (ci := 5) (v := .ref w0) (C := RX5) (T := TX5) (N := 9) hx hb hts inX5 hown hK hP 0 rfl rfl 0 (by decide) (hts _ mf_X5_10) (fun _ h9 => h9) rfl dX5_beside_5 ?_
  refine ro_V (As := [.ref w0]) (rest := []) ⟨hx, hb, hml, hown, hts⟩ (c_X1_placeOf l D cI cJ cZ k0 kl ks kw KL KS KW n (by omega) w0 A s hw0 hk) (k_X5_106 hts ⟨Nat.le_of_ble_eq_true rfl, Nat.le_of_ble_eq_true rfl⟩) hK hP 3 rfl rfl rfl [3, 4, 5, 6, 1] rfl rfl hl.1 rfl (Nat.le_of_ble_eq_true rfl) dX5_beside_8 ⟨Nat.le_of_ble_eq_true rfl, Nat.le_of_ble_eq_true rfl⟩ ?_
  refine lv_istore_n (lv' := [(2, .int (nI (plc KS KL n s A))), (0, .ref x0), (1, .int (nI 1))]) hx hb dX5_beside_11 rfl hl (by decide) rfl (fun ls hl => ?_)
  refine lv_iload_n hx hb dX5_beside_12 rfl (lv_at hl 2 rfl) ?_
  refine lv_lookup (tgt := 51) (off := 38) hx hb dX5_beside_13 (by decide) (by decide +kernel) (by decide) ?_
  refine lv_aload_n hx hb dX5_beside_51 rfl (lv_at hl 1 rfl) ?_
  refine va_get (D := D) (ci := 5) (v := .ref k0) (C := RX5) (T := TX5) (N := 9) hx hb hts inX5 hown hK hP 0 rfl rfl 2 (by decide) (hts _ mf_X5_22) (fun _ h9 => h9) rfl dX5_beside_52 ?_
  refine lv_aload_n hx hb dX5_beside_55 rfl (lv_at hl 1 rfl) ?_
  refine va_get (D := D) (ci := 5) (v := .ref k0) (C := RX5) (T := TX5) (N := 9) hx hb hts inX5 hown hK hP 0 rfl rfl 2 (by decide) (hts _ mf_X5_22) (fun _ h9 => h9) rfl dX5_beside_56 ?_
  refine lv_aload_n hx hb dX5_beside_59 rfl (lv_at hl 1 rfl) ?_
  refine va_get (D := D) (ci := 5) (v := .ref w0) (C := RX5) (T := TX5) (N := 9) hx hb hts inX5 hown hK hP 0 rfl rfl 0 (by decide) (hts _ mf_X5_10) (fun _ h9 => h9) rfl dX5_beside_60 ?_
  refine ro_V (As := [.ref w0]) (rest := [.ref k0]) ⟨hx, hb, hml, hown, hts⟩ (c_X1_find l D cI cJ cZ k0 kl ks kw KL KS KW n (by omega) w0 A s hw0 hk) (k_X5_110 hts ⟨Nat.le_of_ble_eq_true rfl, Nat.le_of_ble_eq_true rfl⟩) hK hP 3 rfl rfl rfl [3, 4, 5, 6, 1] rfl rfl hl.1 rfl (Nat.le_of_ble_eq_true rfl) dX5_beside_63 ⟨Nat.le_of_ble_eq_true rfl, Nat.le_of_ble_eq_true rfl⟩ ?_
  refine tq (y := oI 0) (by rw [fnd_no ha]) ?_
  refine lv_iconst (v := oI 0) hx hb dX5_beside_66 (by decide +kernel) ?_
  refine o_ne (tgt := 74) hx hb dX5_beside_67 (by decide) (by omega) (fun c1 => ?_) (fun c1 => ?_)
  ·
    exact absurd rfl c1
  ·
    refine lv_iload_n hx hb dX5_beside_70 rfl (lv_at hl 0 rfl) ?_
    refine lv_goto (tgt := 77) hx hb dX5_beside_71 (by decide) ?_
    refine ro_V (As := [.int (nI (plc KS KL n s A))]) (rest := []) ⟨hx, hb, hml, hown, hts⟩ (c_X1_orNone l D cI cJ cZ k0 kl ks kw KL KS KW n (by omega) (plc KS KL n s A) (by omega)) (k_X5_190 hts ⟨Nat.le_of_ble_eq_true rfl, Nat.le_of_ble_eq_true rfl⟩) hK hP 3 rfl rfl rfl [3, 4, 5, 6] rfl rfl hl.1 rfl (Nat.le_of_ble_eq_true rfl) dX5_beside_77 ⟨Nat.le_of_ble_eq_true rfl, Nat.le_of_ble_eq_true rfl⟩ ?_
    exact ro_iret hx hb hr hlk dX5_beside_80 (rfl)
set_option maxHeartbeats 4000000 in
set_option maxRecDepth 100000 in
theorem c_X5_off_none (l : Launch) (D : va_G) (cI cJ cZ : ClassId) (x0 w0 d0 k0 kl ks kw b0 bb bd bm bl bf ba bk bg p0 h0 hl1 hs1 hw1 hc1 i0 il1 is1 iw1 ic1 ik it : Nat) (A : Nat) (s : Nat) (dA : Nat) (dz : Nat) (KL : Nat → Nat) (KS : Nat → Nat) (KW : Nat → Nat) (n : Nat) (BB : Nat → Nat) (BD : Nat → Nat) (BM : Nat → Nat) (BL : Nat → Nat) (BF : Nat → Nat) (BA : Nat → Nat) (BK : Nat → Nat) (BG : Nat → Nat) (nx : Nat) (pz : Nat) (HL : Nat → Nat) (HS : Nat → Nat) (HW : Nat → Nat) (HC : Nat → Nat) (IL : Nat → Nat) (IS : Nat → Nat) (IW : Nat → Nat) (IC : Nat → Nat) (IK : Nat → Nat) (IT : Nat → Nat) (sd : Nat) (hn : n ≤ 24) (hw0 : Wf s A) (hk : ∀ k, k < n → Wf (KS k) (KL k)) (hv : ∀ k, k < n → KW k ≤ 9999) (hso : Srt KS KL n) (hTr : TrX (gapF KS KL) n BB BD BM BL BF BA BK) (hnx : nx < 20) (hpz : pz ≤ 20) (hsd : sd < 2 ^ 31) (hc : mso KS KL s A n = 0) : RO l yX5_off cX5_off 3 (some .int) (rmN 4 97) D (ty3 cI cJ cZ) [.ref x0] [(x0, .inr (5, [.ref w0, .ref d0, .ref k0, .ref b0, .ref p0, .ref i0, .ref ik, .ref it, .int (nI sd)])), (w0, .inr (4, [.long (lN A), .int (nI s)])), (d0, .inr (4, [.long (lN dA), .int (nI dz)])), (k0, .inr (1, [.ref kl, .ref ks, .ref kw, .int (nI n)])), (kl, .inl (cJ, 24, .inr (.inl (lF KL)))), (ks, .inl (cI, 24, .inl (nF KS))), (kw, .inl (cI, 24, .inl (nF KW))), (b0, .inr (0, [.ref bb, .ref bd, .ref bm, .ref bl, .ref bf, .ref ba, .ref bk, .ref bg, .int (nI n)])), (bb, .inl (cI, 24, .inl (nF BB))), (bd, .inl (cI, 24, .inl (nF BD))), (bm, .inl (cI, 24, .inl (nF BM))), (bl, .inl (cI, 24, .inl (nF BL))), (bf, .inl (cI, 24, .inl (nF BF))), (ba, .inl (cI, 24, .inl (oF BA))), (bk, .inl (cI, 24, .inl (oF BK))), (bg, .inl (cI, 24, .inl (nF BG))), (p0, .inr (2, [.ref h0, .int (nI nx), .int (nI pz)])), (h0, .inr (3, [.int (nI 20), .ref hl1, .ref hs1, .ref hw1, .ref hc1])), (hl1, .inl (cJ, 20 * 24, .inr (.inl (lF HL)))), (hs1, .inl (cI, 20 * 24, .inl (nF HS))), (hw1, .inl (cI, 20 * 24, .inl (nF HW))), (hc1, .inl (cI, 20, .inl (nF HC))), (i0, .inr (3, [.int (nI 2), .ref il1, .ref is1, .ref iw1, .ref ic1])), (il1, .inl (cJ, 2 * 24, .inr (.inl (lF IL)))), (is1, .inl (cI, 2 * 24, .inl (nF IS))), (iw1, .inl (cI, 2 * 24, .inl (nF IW))), (ic1, .inl (cI, 2, .inl (nF IC))), (ik, .inl (cZ, 2, .inl (nF IK))), (it, .inl (cI, 2, .inl (nF IT)))] (.int (oI 0)) := by
  have hs8 := hw0.1
  have hA64 := hw0.2.1
  have hBK := tf_BK hTr hn
  have hDK := tf_DK hTr hn
  have hB := tf_B hTr
  have hBF := tf_BF hTr hn
  have hT := tf_T hTr hso
  have hanc := tf_anc hTr hn
  have hp := plc_le KS KL n s A
  have hcb := cbl_le KS KL n s A
  have hfl := fnd_le KS KL n s A
  have hm := mso_le KS KL s A n
  refine ro_start (by decide) (Nat.le_of_ble_eq_true rfl) ?_
  intro pp ee ss mm below meth cd C0 hP hK ls hl
  obtain ⟨hx, hb, hr, hml, hown, hts, hlk⟩ := C0
  have hown : ss.vm.findClass RX5 = some mm.cls := hown
  have hl : lv_has ls 3 [(0, .ref x0)] := hl
  have hP : va_P D vwCl [(x0, .inr (5, [.ref w0, .ref d0, .ref k0, .ref b0, .ref p0, .ref i0, .ref ik, .ref it, .int (nI sd)])), (w0, .inr (4, [.long (lN A), .int (nI s)])), (d0, .inr (4, [.long (lN dA), .int (nI dz)])), (k0, .inr (1, [.ref kl, .ref ks, .ref kw, .int (nI n)])), (kl, .inl (cJ, 24, .inr (.inl (lF KL)))), (ks, .inl (cI, 24, .inl (nF KS))), (kw, .inl (cI, 24, .inl (nF KW))), (b0, .inr (0, [.ref bb, .ref bd, .ref bm, .ref bl, .ref bf, .ref ba, .ref bk, .ref bg, .int (nI n)])), (bb, .inl (cI, 24, .inl (nF BB))), (bd, .inl (cI, 24, .inl (nF BD))), (bm, .inl (cI, 24, .inl (nF BM))), (bl, .inl (cI, 24, .inl (nF BL))), (bf, .inl (cI, 24, .inl (nF BF))), (ba, .inl (cI, 24, .inl (oF BA))), (bk, .inl (cI, 24, .inl (oF BK))), (bg, .inl (cI, 24, .inl (nF BG))), (p0, .inr (2, [.ref h0, .int (nI nx), .int (nI pz)])), (h0, .inr (3, [.int (nI 20), .ref hl1, .ref hs1, .ref hw1, .ref hc1])), (hl1, .inl (cJ, 20 * 24, .inr (.inl (lF HL)))), (hs1, .inl (cI, 20 * 24, .inl (nF HS))), (hw1, .inl (cI, 20 * 24, .inl (nF HW))), (hc1, .inl (cI, 20, .inl (nF HC))), (i0, .inr (3, [.int (nI 2), .ref il1, .ref is1, .ref iw1, .ref ic1])), (il1, .inl (cJ, 2 * 24, .inr (.inl (lF IL)))), (is1, .inl (cI, 2 * 24, .inl (nF IS))), (iw1, .inl (cI, 2 * 24, .inl (nF IW))), (ic1, .inl (cI, 2, .inl (nF IC))), (ik, .inl (cZ, 2, .inl (nF IK))), (it, .inl (cI, 2, .inl (nF IT)))] ss.heap := hP
  refine lv_aload_n hx hb dX5_off_0 rfl (lv_at hl 0 rfl) ?_
  refine va_get (D := D) (ci := 5) (v := .ref k0) (C := RX5) (T := TX5) (N := 9) hx hb hts inX5 hown hK hP 0 rfl rfl 2 (by decide) (hts _ mf_X5_22) (fun _ h9 => h9) rfl dX5_off_1 ?_
  refine lv_aload_n hx hb dX5_off_4 rfl (lv_at hl 0 rfl) ?_
  refine va_get (D := D) (ci := 5) (v := .ref w0) (C := RX5) (T := TX5) (N := 9) hx hb hts inX5 hown hK hP 0 rfl rfl 0 (by decide) (hts _ mf_X5_10) (fun _ h9 => h9) rfl dX5_off_5 ?_
  refine ro_V (As := [.ref w0]) (rest := []) ⟨hx, hb, hml, hown, hts⟩ (c_X1_mostShared l D cI cJ cZ k0 kl ks kw KL KS KW n (by omega) w0 A s hw0 hk) (k_X5_193 hts ⟨Nat.le_of_ble_eq_true rfl, Nat.le_of_ble_eq_true rfl⟩) hK hP 3 rfl rfl rfl [3, 4, 5, 6, 1] rfl rfl hl.1 rfl (Nat.le_of_ble_eq_true rfl) dX5_off_8 ⟨Nat.le_of_ble_eq_true rfl, Nat.le_of_ble_eq_true rfl⟩ ?_
  refine lv_istore_n (lv' := [(1, .int (oI (mso KS KL s A n))), (0, .ref x0)]) hx hb dX5_off_11 rfl hl (by decide) rfl (fun ls hl => ?_)
  refine lv_iload_n hx hb dX5_off_12 rfl (lv_at hl 0 rfl) ?_
  refine lv_iconst (v := oI 0) hx hb dX5_off_13 (by decide +kernel) ?_
  refine o_ne (tgt := 19) hx hb dX5_off_14 (by decide) (by omega) (fun c1 => ?_) (fun c1 => ?_)
  ·
    exact absurd c1 (by omega)
  ·
    refine lv_iconst (v := oI 0) hx hb dX5_off_17 (by decide +kernel) ?_
    exact ro_iret hx hb hr hlk dX5_off_18 (rfl)
set_option maxHeartbeats 4000000 in
set_option maxRecDepth 100000 in
theorem c_X5_off_same (l : Launch) (D : va_G) (cI cJ cZ : ClassId) (x0 w0 d0 k0 kl ks kw b0 bb bd bm bl bf ba bk bg p0 h0 hl1 hs1 hw1 hc1 i0 il1 is1 iw1 ic1 ik it : Nat) (A : Nat) (s : Nat) (dA : Nat) (dz : Nat) (KL : Nat → Nat) (KS : Nat → Nat) (KW : Nat → Nat) (n : Nat) (BB : Nat → Nat) (BD : Nat → Nat) (BM : Nat → Nat) (BL : Nat → Nat) (BF : Nat → Nat) (BA : Nat → Nat) (BK : Nat → Nat) (BG : Nat → Nat) (nx : Nat) (pz : Nat) (HL : Nat → Nat) (HS : Nat → Nat) (HW : Nat → Nat) (HC : Nat → Nat) (IL : Nat → Nat) (IS : Nat → Nat) (IW : Nat → Nat) (IC : Nat → Nat) (IK : Nat → Nat) (IT : Nat → Nat) (sd : Nat) (hn : n ≤ 24) (hw0 : Wf s A) (hk : ∀ k, k < n → Wf (KS k) (KL k)) (hv : ∀ k, k < n → KW k ≤ 9999) (hso : Srt KS KL n) (hTr : TrX (gapF KS KL) n BB BD BM BL BF BA BK) (hnx : nx < 20) (hpz : pz ≤ 20) (hsd : sd < 2 ^ 31) (hc : 0 < mso KS KL s A n) (hu : unl (KS (mso KS KL s A n - 1)) (KL (mso KS KL s A n - 1)) s A = 72) : RO l yX5_off cX5_off 3 (some .int) (rmN 4 97) D (ty3 cI cJ cZ) [.ref x0] [(x0, .inr (5, [.ref w0, .ref d0, .ref k0, .ref b0, .ref p0, .ref i0, .ref ik, .ref it, .int (nI sd)])), (w0, .inr (4, [.long (lN A), .int (nI s)])), (d0, .inr (4, [.long (lN dA), .int (nI dz)])), (k0, .inr (1, [.ref kl, .ref ks, .ref kw, .int (nI n)])), (kl, .inl (cJ, 24, .inr (.inl (lF KL)))), (ks, .inl (cI, 24, .inl (nF KS))), (kw, .inl (cI, 24, .inl (nF KW))), (b0, .inr (0, [.ref bb, .ref bd, .ref bm, .ref bl, .ref bf, .ref ba, .ref bk, .ref bg, .int (nI n)])), (bb, .inl (cI, 24, .inl (nF BB))), (bd, .inl (cI, 24, .inl (nF BD))), (bm, .inl (cI, 24, .inl (nF BM))), (bl, .inl (cI, 24, .inl (nF BL))), (bf, .inl (cI, 24, .inl (nF BF))), (ba, .inl (cI, 24, .inl (oF BA))), (bk, .inl (cI, 24, .inl (oF BK))), (bg, .inl (cI, 24, .inl (nF BG))), (p0, .inr (2, [.ref h0, .int (nI nx), .int (nI pz)])), (h0, .inr (3, [.int (nI 20), .ref hl1, .ref hs1, .ref hw1, .ref hc1])), (hl1, .inl (cJ, 20 * 24, .inr (.inl (lF HL)))), (hs1, .inl (cI, 20 * 24, .inl (nF HS))), (hw1, .inl (cI, 20 * 24, .inl (nF HW))), (hc1, .inl (cI, 20, .inl (nF HC))), (i0, .inr (3, [.int (nI 2), .ref il1, .ref is1, .ref iw1, .ref ic1])), (il1, .inl (cJ, 2 * 24, .inr (.inl (lF IL)))), (is1, .inl (cI, 2 * 24, .inl (nF IS))), (iw1, .inl (cI, 2 * 24, .inl (nF IW))), (ic1, .inl (cI, 2, .inl (nF IC))), (ik, .inl (cZ, 2, .inl (nF IK))), (it, .inl (cI, 2, .inl (nF IT)))] (.int (oI 0)) := by
  have hs8 := hw0.1
  have hA64 := hw0.2.1
  have hBK := tf_BK hTr hn
  have hDK := tf_DK hTr hn
  have hB := tf_B hTr
  have hBF := tf_BF hTr hn
  have hT := tf_T hTr hso
  have hanc := tf_anc hTr hn
  have hp := plc_le KS KL n s A
  have hcb := cbl_le KS KL n s A
  have hfl := fnd_le KS KL n s A
  have hm := mso_le KS KL s A n
  refine ro_start (by decide) (Nat.le_of_ble_eq_true rfl) ?_
  intro pp ee ss mm below meth cd C0 hP hK ls hl
  obtain ⟨hx, hb, hr, hml, hown, hts, hlk⟩ := C0
  have hown : ss.vm.findClass RX5 = some mm.cls := hown
  have hl : lv_has ls 3 [(0, .ref x0)] := hl
  have hP : va_P D vwCl [(x0, .inr (5, [.ref w0, .ref d0, .ref k0, .ref b0, .ref p0, .ref i0, .ref ik, .ref it, .int (nI sd)])), (w0, .inr (4, [.long (lN A), .int (nI s)])), (d0, .inr (4, [.long (lN dA), .int (nI dz)])), (k0, .inr (1, [.ref kl, .ref ks, .ref kw, .int (nI n)])), (kl, .inl (cJ, 24, .inr (.inl (lF KL)))), (ks, .inl (cI, 24, .inl (nF KS))), (kw, .inl (cI, 24, .inl (nF KW))), (b0, .inr (0, [.ref bb, .ref bd, .ref bm, .ref bl, .ref bf, .ref ba, .ref bk, .ref bg, .int (nI n)])), (bb, .inl (cI, 24, .inl (nF BB))), (bd, .inl (cI, 24, .inl (nF BD))), (bm, .inl (cI, 24, .inl (nF BM))), (bl, .inl (cI, 24, .inl (nF BL))), (bf, .inl (cI, 24, .inl (nF BF))), (ba, .inl (cI, 24, .inl (oF BA))), (bk, .inl (cI, 24, .inl (oF BK))), (bg, .inl (cI, 24, .inl (nF BG))), (p0, .inr (2, [.ref h0, .int (nI nx), .int (nI pz)])), (h0, .inr (3, [.int (nI 20), .ref hl1, .ref hs1, .ref hw1, .ref hc1])), (hl1, .inl (cJ, 20 * 24, .inr (.inl (lF HL)))), (hs1, .inl (cI, 20 * 24, .inl (nF HS))), (hw1, .inl (cI, 20 * 24, .inl (nF HW))), (hc1, .inl (cI, 20, .inl (nF HC))), (i0, .inr (3, [.int (nI 2), .ref il1, .ref is1, .ref iw1, .ref ic1])), (il1, .inl (cJ, 2 * 24, .inr (.inl (lF IL)))), (is1, .inl (cI, 2 * 24, .inl (nF IS))), (iw1, .inl (cI, 2 * 24, .inl (nF IW))), (ic1, .inl (cI, 2, .inl (nF IC))), (ik, .inl (cZ, 2, .inl (nF IK))), (it, .inl (cI, 2, .inl (nF IT)))] ss.heap := hP
  refine lv_aload_n hx hb dX5_off_0 rfl (lv_at hl 0 rfl) ?_
  refine va_get (D := D) (ci := 5) (v := .ref k0) (C := RX5) (T := TX5) (N := 9) hx hb hts inX5 hown hK hP 0 rfl rfl 2 (by decide) (hts _ mf_X5_22) (fun _ h9 => h9) rfl dX5_off_1 ?_
  refine lv_aload_n hx hb dX5_off_4 rfl (lv_at hl 0 rfl) ?_
  refine va_get (D := D) (ci := 5) (v := .ref w0) (C := RX5) (T := TX5) (N := 9) hx hb hts inX5 hown hK hP 0 rfl rfl 0 (by decide) (hts _ mf_X5_10) (fun _ h9 => h9) rfl dX5_off_5 ?_
  refine ro_V (As := [.ref w0]) (rest := []) ⟨hx, hb, hml, hown, hts⟩ (c_X1_mostShared l D cI cJ cZ k0 kl ks kw KL KS KW n (by omega) w0 A s hw0 hk) (k_X5_193 hts ⟨Nat.le_of_ble_eq_true rfl, Nat.le_of_ble_eq_true rfl⟩) hK hP 3 rfl rfl rfl [3, 4, 5, 6, 1] rfl rfl hl.1 rfl (Nat.le_of_ble_eq_true rfl) dX5_off_8 ⟨Nat.le_of_ble_eq_true rfl, Nat.le_of_ble_eq_true rfl⟩ ?_
  refine lv_istore_n (lv' := [(1, .int (oI (mso KS KL s A n))), (0, .ref x0)]) hx hb dX5_off_11 rfl hl (by decide) rfl (fun ls hl => ?_)
  refine lv_iload_n hx hb dX5_off_12 rfl (lv_at hl 0 rfl) ?_
  refine lv_iconst (v := oI 0) hx hb dX5_off_13 (by decide +kernel) ?_
  refine o_ne (tgt := 19) hx hb dX5_off_14 (by decide) (by omega) (fun c1 => ?_) (fun c1 => ?_)
  ·
    refine lv_aload_n hx hb dX5_off_19 rfl (lv_at hl 1 rfl) ?_
    refine va_get (D := D) (ci := 5) (v := .ref k0) (C := RX5) (T := TX5) (N := 9) hx hb hts inX5 hown hK hP 0 rfl rfl 2 (by decide) (hts _ mf_X5_22) (fun _ h9 => h9) rfl dX5_off_20 ?_
    refine lv_iload_n hx hb dX5_off_23 rfl (lv_at hl 0 rfl) ?_
    refine tq (y := (nI (mso KS KL s A n - 1))) (oI_p hc) ?_
    refine lv_aload_n hx hb dX5_off_24 rfl (lv_at hl 1 rfl) ?_
    refine va_get (D := D) (ci := 5) (v := .ref w0) (C := RX5) (T := TX5) (N := 9) hx hb hts inX5 hown hK hP 0 rfl rfl 0 (by decide) (hts _ mf_X5_10) (fun _ h9 => h9) rfl dX5_off_25 ?_
    refine ro_V (As := [.int (nI (mso KS KL s A n - 1)), .ref w0]) (rest := []) ⟨hx, hb, hml, hown, hts⟩ (c_X1_sharedWith l D cI cJ cZ k0 kl ks kw KL KS KW n (by omega) w0 A s hw0 (mso KS KL s A n - 1) (by omega) (hk _ (by omega))) (k_X5_124 hts ⟨Nat.le_of_ble_eq_true rfl, Nat.le_of_ble_eq_true rfl⟩) hK hP 3 rfl rfl rfl [3, 4, 5, 6, 1] rfl rfl hl.1 rfl (Nat.le_of_ble_eq_true rfl) dX5_off_28 ⟨Nat.le_of_ble_eq_true rfl, Nat.le_of_ble_eq_true rfl⟩ ?_
    refine lv_istore_n (lv' := [(2, .int (nI (unl (KS (mso KS KL s A n - 1)) (KL (mso KS KL s A n - 1)) s A))), (1, .int (oI (mso KS KL s A n))), (0, .ref x0)]) hx hb dX5_off_31 rfl hl (by decide) rfl (fun ls hl => ?_)
    refine lv_iload_n hx hb dX5_off_32 rfl (lv_at hl 0 rfl) ?_
    refine lv_bipush (v := nI 72) hx hb dX5_off_33 (by decide +kernel) ?_
    refine n_ne (tgt := 42) hx hb dX5_off_35 (by decide) (by omega) (by omega) (fun c2 => ?_) (fun c2 => ?_)
    ·
      exact absurd c2 (by omega)
    ·
      refine lv_iconst (v := oI 0) hx hb dX5_off_38 (by decide +kernel) ?_
      refine lv_goto (tgt := 43) hx hb dX5_off_39 (by decide) ?_
      exact ro_iret hx hb hr hlk dX5_off_43 (rfl)
  ·
    exact absurd c1 (by omega)
set_option maxHeartbeats 4000000 in
set_option maxRecDepth 100000 in
theorem c_X5_off_some (l : Launch) (D : va_G) (cI cJ cZ : ClassId) (x0 w0 d0 k0 kl ks kw b0 bb bd bm bl bf ba bk bg p0 h0 hl1 hs1 hw1 hc1 i0 il1 is1 iw1 ic1 ik it : Nat) (A : Nat) (s : Nat) (dA : Nat) (dz : Nat) (KL : Nat → Nat) (KS : Nat → Nat) (KW : Nat → Nat) (n : Nat) (BB : Nat → Nat) (BD : Nat → Nat) (BM : Nat → Nat) (BL : Nat → Nat) (BF : Nat → Nat) (BA : Nat → Nat) (BK : Nat → Nat) (BG : Nat → Nat) (nx : Nat) (pz : Nat) (HL : Nat → Nat) (HS : Nat → Nat) (HW : Nat → Nat) (HC : Nat → Nat) (IL : Nat → Nat) (IS : Nat → Nat) (IW : Nat → Nat) (IC : Nat → Nat) (IK : Nat → Nat) (IT : Nat → Nat) (sd : Nat) (hn : n ≤ 24) (hw0 : Wf s A) (hk : ∀ k, k < n → Wf (KS k) (KL k)) (hv : ∀ k, k < n → KW k ≤ 9999) (hso : Srt KS KL n) (hTr : TrX (gapF KS KL) n BB BD BM BL BF BA BK) (hnx : nx < 20) (hpz : pz ≤ 20) (hsd : sd < 2 ^ 31) (hc : 0 < mso KS KL s A n) (hu : unl (KS (mso KS KL s A n - 1)) (KL (mso KS KL s A n - 1)) s A ≠ 72) : RO l yX5_off cX5_off 3 (some .int) (rmN 4 97) D (ty3 cI cJ cZ) [.ref x0] [(x0, .inr (5, [.ref w0, .ref d0, .ref k0, .ref b0, .ref p0, .ref i0, .ref ik, .ref it, .int (nI sd)])), (w0, .inr (4, [.long (lN A), .int (nI s)])), (d0, .inr (4, [.long (lN dA), .int (nI dz)])), (k0, .inr (1, [.ref kl, .ref ks, .ref kw, .int (nI n)])), (kl, .inl (cJ, 24, .inr (.inl (lF KL)))), (ks, .inl (cI, 24, .inl (nF KS))), (kw, .inl (cI, 24, .inl (nF KW))), (b0, .inr (0, [.ref bb, .ref bd, .ref bm, .ref bl, .ref bf, .ref ba, .ref bk, .ref bg, .int (nI n)])), (bb, .inl (cI, 24, .inl (nF BB))), (bd, .inl (cI, 24, .inl (nF BD))), (bm, .inl (cI, 24, .inl (nF BM))), (bl, .inl (cI, 24, .inl (nF BL))), (bf, .inl (cI, 24, .inl (nF BF))), (ba, .inl (cI, 24, .inl (oF BA))), (bk, .inl (cI, 24, .inl (oF BK))), (bg, .inl (cI, 24, .inl (nF BG))), (p0, .inr (2, [.ref h0, .int (nI nx), .int (nI pz)])), (h0, .inr (3, [.int (nI 20), .ref hl1, .ref hs1, .ref hw1, .ref hc1])), (hl1, .inl (cJ, 20 * 24, .inr (.inl (lF HL)))), (hs1, .inl (cI, 20 * 24, .inl (nF HS))), (hw1, .inl (cI, 20 * 24, .inl (nF HW))), (hc1, .inl (cI, 20, .inl (nF HC))), (i0, .inr (3, [.int (nI 2), .ref il1, .ref is1, .ref iw1, .ref ic1])), (il1, .inl (cJ, 2 * 24, .inr (.inl (lF IL)))), (is1, .inl (cI, 2 * 24, .inl (nF IS))), (iw1, .inl (cI, 2 * 24, .inl (nF IW))), (ic1, .inl (cI, 2, .inl (nF IC))), (ik, .inl (cZ, 2, .inl (nF IK))), (it, .inl (cI, 2, .inl (nF IT)))] (.int (nI (unl (KS (mso KS KL s A n - 1)) (KL (mso KS KL s A n - 1)) s A))) := by
  have hs8 := hw0.1
  have hA64 := hw0.2.1
  have hBK := tf_BK hTr hn
  have hDK := tf_DK hTr hn
  have hB := tf_B hTr
  have hBF := tf_BF hTr hn
  have hT := tf_T hTr hso
  have hanc := tf_anc hTr hn
  have hp := plc_le KS KL n s A
  have hcb := cbl_le KS KL n s A
  have hfl := fnd_le KS KL n s A
  have hm := mso_le KS KL s A n
  have hul := unl_le (KS (mso KS KL s A n - 1)) (KL (mso KS KL s A n - 1)) s A
  refine ro_start (by decide) (Nat.le_of_ble_eq_true rfl) ?_
  intro pp ee ss mm below meth cd C0 hP hK ls hl
  obtain ⟨hx, hb, hr, hml, hown, hts, hlk⟩ := C0
  have hown : ss.vm.findClass RX5 = some mm.cls := hown
  have hl : lv_has ls 3 [(0, .ref x0)] := hl
  have hP : va_P D vwCl [(x0, .inr (5, [.ref w0, .ref d0, .ref k0, .ref b0, .ref p0, .ref i0, .ref ik, .ref it, .int (nI sd)])), (w0, .inr (4, [.long (lN A), .int (nI s)])), (d0, .inr (4, [.long (lN dA), .int (nI dz)])), (k0, .inr (1, [.ref kl, .ref ks, .ref kw, .int (nI n)])), (kl, .inl (cJ, 24, .inr (.inl (lF KL)))), (ks, .inl (cI, 24, .inl (nF KS))), (kw, .inl (cI, 24, .inl (nF KW))), (b0, .inr (0, [.ref bb, .ref bd, .ref bm, .ref bl, .ref bf, .ref ba, .ref bk, .ref bg, .int (nI n)])), (bb, .inl (cI, 24, .inl (nF BB))), (bd, .inl (cI, 24, .inl (nF BD))), (bm, .inl (cI, 24, .inl (nF BM))), (bl, .inl (cI, 24, .inl (nF BL))), (bf, .inl (cI, 24, .inl (nF BF))), (ba, .inl (cI, 24, .inl (oF BA))), (bk, .inl (cI, 24, .inl (oF BK))), (bg, .inl (cI, 24, .inl (nF BG))), (p0, .inr (2, [.ref h0, .int (nI nx), .int (nI pz)])), (h0, .inr (3, [.int (nI 20), .ref hl1, .ref hs1, .ref hw1, .ref hc1])), (hl1, .inl (cJ, 20 * 24, .inr (.inl (lF HL)))), (hs1, .inl (cI, 20 * 24, .inl (nF HS))), (hw1, .inl (cI, 20 * 24, .inl (nF HW))), (hc1, .inl (cI, 20, .inl (nF HC))), (i0, .inr (3, [.int (nI 2), .ref il1, .ref is1, .ref iw1, .ref ic1])), (il1, .inl (cJ, 2 * 24, .inr (.inl (lF IL)))), (is1, .inl (cI, 2 * 24, .inl (nF IS))), (iw1, .inl (cI, 2 * 24, .inl (nF IW))), (ic1, .inl (cI, 2, .inl (nF IC))), (ik, .inl (cZ, 2, .inl (nF IK))), (it, .inl (cI, 2, .inl (nF IT)))] ss.heap := hP
  refine lv_aload_n hx hb dX5_off_0 rfl (lv_at hl 0 rfl) ?_
  refine va_get (D := D) (ci := 5) (v := .ref k0) (C := RX5) (T := TX5) (N := 9) hx hb hts inX5 hown hK hP 0 rfl rfl 2 (by decide) (hts _ mf_X5_22) (fun _ h9 => h9) rfl dX5_off_1 ?_
  refine lv_aload_n hx hb dX5_off_4 rfl (lv_at hl 0 rfl) ?_
  refine va_get (D := D) (ci := 5) (v := .ref w0) (C := RX5) (T := TX5) (N := 9) hx hb hts inX5 hown hK hP 0 rfl rfl 0 (by decide) (hts _ mf_X5_10) (fun _ h9 => h9) rfl dX5_off_5 ?_
  refine ro_V (As := [.ref w0]) (rest := []) ⟨hx, hb, hml, hown, hts⟩ (c_X1_mostShared l D cI cJ cZ k0 kl ks kw KL KS KW n (by omega) w0 A s hw0 hk) (k_X5_193 hts ⟨Nat.le_of_ble_eq_true rfl, Nat.le_of_ble_eq_true rfl⟩) hK hP 3 rfl rfl rfl [3, 4, 5, 6, 1] rfl rfl hl.1 rfl (Nat.le_of_ble_eq_true rfl) dX5_off_8 ⟨Nat.le_of_ble_eq_true rfl, Nat.le_of_ble_eq_true rfl⟩ ?_
  refine lv_istore_n (lv' := [(1, .int (oI (mso KS KL s A n))), (0, .ref x0)]) hx hb dX5_off_11 rfl hl (by decide) rfl (fun ls hl => ?_)
  refine lv_iload_n hx hb dX5_off_12 rfl (lv_at hl 0 rfl) ?_
  refine lv_iconst (v := oI 0) hx hb dX5_off_13 (by decide +kernel) ?_
  refine o_ne (tgt := 19) hx hb dX5_off_14 (by decide) (by omega) (fun c1 => ?_) (fun c1 => ?_)
  ·
    refine lv_aload_n hx hb dX5_off_19 rfl (lv_at hl 1 rfl) ?_
    refine va_get (D := D) (ci := 5) (v := .ref k0) (C := RX5) (T := TX5) (N := 9) hx hb hts inX5 hown hK hP 0 rfl rfl 2 (by decide) (hts _ mf_X5_22) (fun _ h9 => h9) rfl dX5_off_20 ?_
    refine lv_iload_n hx hb dX5_off_23 rfl (lv_at hl 0 rfl) ?_
    refine tq (y := (nI (mso KS KL s A n - 1))) (oI_p hc) ?_
    refine lv_aload_n hx hb dX5_off_24 rfl (lv_at hl 1 rfl) ?_
    refine va_get (D := D) (ci := 5) (v := .ref w0) (C := RX5) (T := TX5) (N := 9) hx hb hts inX5 hown hK hP 0 rfl rfl 0 (by decide) (hts _ mf_X5_10) (fun _ h9 => h9) rfl dX5_off_25 ?_
    refine ro_V (As := [.int (nI (mso KS KL s A n - 1)), .ref w0]) (rest := []) ⟨hx, hb, hml, hown, hts⟩ (c_X1_sharedWith l D cI cJ cZ k0 kl ks kw KL KS KW n (by omega) w0 A s hw0 (mso KS KL s A n - 1) (by omega) (hk _ (by omega))) (k_X5_124 hts ⟨Nat.le_of_ble_eq_true rfl, Nat.le_of_ble_eq_true rfl⟩) hK hP 3 rfl rfl rfl [3, 4, 5, 6, 1] rfl rfl hl.1 rfl (Nat.le_of_ble_eq_true rfl) dX5_off_28 ⟨Nat.le_of_ble_eq_true rfl, Nat.le_of_ble_eq_true rfl⟩ ?_
    refine lv_istore_n (lv' := [(2, .int (nI (unl (KS (mso KS KL s A n - 1)) (KL (mso KS KL s A n - 1)) s A))), (1, .int (oI (mso KS KL s A n))), (0, .ref x0)]) hx hb dX5_off_31 rfl hl (by decide) rfl (fun ls hl => ?_)
    refine lv_iload_n hx hb dX5_off_32 rfl (lv_at hl 0 rfl) ?_
    refine lv_bipush (v := nI 72) hx hb dX5_off_33 (by decide +kernel) ?_
    refine n_ne (tgt := 42) hx hb dX5_off_35 (by decide) (by omega) (by omega) (fun c2 => ?_) (fun c2 => ?_)
    ·
      refine lv_iload_n hx hb dX5_off_42 rfl (lv_at hl 0 rfl) ?_
      exact ro_iret hx hb hr hlk dX5_off_43 (rfl)
    ·
      exact absurd c2 (by omega)
  ·
    exact absurd c1 (by omega)
set_option maxHeartbeats 4000000 in
set_option maxRecDepth 100000 in
theorem c_X5_blind_neg (l : Launch) (D : va_G) (cI cJ cZ : ClassId) (x0 w0 d0 k0 kl ks kw b0 bb bd bm bl bf ba bk bg p0 h0 hl1 hs1 hw1 hc1 i0 il1 is1 iw1 ic1 ik it : Nat) (A : Nat) (s : Nat) (dA : Nat) (dz : Nat) (KL : Nat → Nat) (KS : Nat → Nat) (KW : Nat → Nat) (n : Nat) (BB : Nat → Nat) (BD : Nat → Nat) (BM : Nat → Nat) (BL : Nat → Nat) (BF : Nat → Nat) (BA : Nat → Nat) (BK : Nat → Nat) (BG : Nat → Nat) (nx : Nat) (pz : Nat) (HL : Nat → Nat) (HS : Nat → Nat) (HW : Nat → Nat) (HC : Nat → Nat) (IL : Nat → Nat) (IS : Nat → Nat) (IW : Nat → Nat) (IC : Nat → Nat) (IK : Nat → Nat) (IT : Nat → Nat) (sd : Nat) (hn : n ≤ 24) (hw0 : Wf s A) (hk : ∀ k, k < n → Wf (KS k) (KL k)) (hv : ∀ k, k < n → KW k ≤ 9999) (hso : Srt KS KL n) (hTr : TrX (gapF KS KL) n BB BD BM BL BF BA BK) (hnx : nx < 20) (hpz : pz ≤ 20) (hsd : sd < 2 ^ 31) (x : Int32) (hx0 : x < 0) : RO l yX5_blind cX5_blind 3 (some .int) (rmN 4 93) D (ty3 cI cJ cZ) [.ref x0, .int x] [(x0, .inr (5, [.ref w0, .ref d0, .ref k0, .ref b0, .ref p0, .ref i0, .ref ik, .ref it, .int (nI sd)])), (w0, .inr (4, [.long (lN A), .int (nI s)])), (d0, .inr (4, [.long (lN dA), .int (nI dz)])), (k0, .inr (1, [.ref kl, .ref ks, .ref kw, .int (nI n)])), (kl, .inl (cJ, 24, .inr (.inl (lF KL)))), (ks, .inl (cI, 24, .inl (nF KS))), (kw, .inl (cI, 24, .inl (nF KW))), (b0, .inr (0, [.ref bb, .ref bd, .ref bm, .ref bl, .ref bf, .ref ba, .ref bk, .ref bg, .int (nI n)])), (bb, .inl (cI, 24, .inl (nF BB))), (bd, .inl (cI, 24, .inl (nF BD))), (bm, .inl (cI, 24, .inl (nF BM))), (bl, .inl (cI, 24, .inl (nF BL))), (bf, .inl (cI, 24, .inl (nF BF))), (ba, .inl (cI, 24, .inl (oF BA))), (bk, .inl (cI, 24, .inl (oF BK))), (bg, .inl (cI, 24, .inl (nF BG))), (p0, .inr (2, [.ref h0, .int (nI nx), .int (nI pz)])), (h0, .inr (3, [.int (nI 20), .ref hl1, .ref hs1, .ref hw1, .ref hc1])), (hl1, .inl (cJ, 20 * 24, .inr (.inl (lF HL)))), (hs1, .inl (cI, 20 * 24, .inl (nF HS))), (hw1, .inl (cI, 20 * 24, .inl (nF HW))), (hc1, .inl (cI, 20, .inl (nF HC))), (i0, .inr (3, [.int (nI 2), .ref il1, .ref is1, .ref iw1, .ref ic1])), (il1, .inl (cJ, 2 * 24, .inr (.inl (lF IL)))), (is1, .inl (cI, 2 * 24, .inl (nF IS))), (iw1, .inl (cI, 2 * 24, .inl (nF IW))), (ic1, .inl (cI, 2, .inl (nF IC))), (ik, .inl (cZ, 2, .inl (nF IK))), (it, .inl (cI, 2, .inl (nF IT)))] (.int (-1000000002)) := by
  have hs8 := hw0.1
  have hA64 := hw0.2.1
  have hBK := tf_BK hTr hn
  have hDK := tf_DK hTr hn
  have hB := tf_B hTr
  have hBF := tf_BF hTr hn
  have hT := tf_T hTr hso
  have hanc := tf_anc hTr hn
  have hp := plc_le KS KL n s A
  have hcb := cbl_le KS KL n s A
  have hfl := fnd_le KS KL n s A
  refine ro_start (by decide) (Nat.le_of_ble_eq_true rfl) ?_
  intro pp ee ss mm below meth cd C0 hP hK ls hl
  obtain ⟨hx, hb, hr, hml, hown, hts, hlk⟩ := C0
  have hown : ss.vm.findClass RX5 = some mm.cls := hown
  have hl : lv_has ls 3 [(0, .ref x0), (1, .int x)] := hl
  have hP : va_P D vwCl [(x0, .inr (5, [.ref w0, .ref d0, .ref k0, .ref b0, .ref p0, .ref i0, .ref ik, .ref it, .int (nI sd)])), (w0, .inr (4, [.long (lN A), .int (nI s)])), (d0, .inr (4, [.long (lN dA), .int (nI dz)])), (k0, .inr (1, [.ref kl, .ref ks, .ref kw, .int (nI n)])), (kl, .inl (cJ, 24, .inr (.inl (lF KL)))), (ks, .inl (cI, 24, .inl (nF KS))), (kw, .inl (cI, 24, .inl (nF KW))), (b0, .inr (0, [.ref bb, .ref bd, .ref bm, .ref bl, .ref bf, .ref ba, .ref bk, .ref bg, .int (nI n)])), (bb, .inl (cI, 24, .inl (nF BB))), (bd, .inl (cI, 24, .inl (nF BD))), (bm, .inl (cI, 24, .inl (nF BM))), (bl, .inl (cI, 24, .inl (nF BL))), (bf, .inl (cI, 24, .inl (nF BF))), (ba, .inl (cI, 24, .inl (oF BA))), (bk, .inl (cI, 24, .inl (oF BK))), (bg, .inl (cI, 24, .inl (nF BG))), (p0, .inr (2, [.ref h0, .int (nI nx), .int (nI pz)])), (h0, .inr (3, [.int (nI 20), .ref hl1, .ref hs1, .ref hw1, .ref hc1])), (hl1, .inl (cJ, 20 * 24, .inr (.inl (lF HL)))), (hs1, .inl (cI, 20 * 24, .inl (nF HS))), (hw1, .inl (cI, 20 * 24, .inl (nF HW))), (hc1, .inl (cI, 20, .inl (nF HC))), (i0, .inr (3, [.int (nI 2), .ref il1, .ref is1, .ref iw1, .ref ic1])), (il1, .inl (cJ, 2 * 24, .inr (.inl (lF IL)))), (is1, .inl (cI, 2 * 24, .inl (nF IS))), (iw1, .inl (cI, 2 * 24, .inl (nF IW))), (ic1, .inl (cI, 2, .inl (nF IC))), (ik, .inl (cZ, 2, .inl (nF IK))), (it, .inl (cI, 2, .inl (nF IT)))] ss.heap := hP
  refine lv_aload_n hx hb dX5_blind_0 rfl (lv_at hl 0 rfl) ?_
  refine va_get (D := D) (ci := 5) (v := .ref b0) (C := RX5) (T := TX5) (N := 9) hx hb hts inX5 hown hK hP 0 rfl rfl 3 (by decide) (hts _ mf_X5_29) (fun _ h9 => h9) rfl dX5_blind_1 ?_
  refine lv_aload_n hx hb dX5_blind_4 rfl (lv_at hl 0 rfl) ?_
  refine va_get (D := D) (ci := 5) (v := .ref w0) (C := RX5) (T := TX5) (N := 9) hx hb hts inX5 hown hK hP 0 rfl rfl 0 (by decide) (hts _ mf_X5_10) (fun _ h9 => h9) rfl dX5_blind_5 ?_
  refine ro_V (As := [.ref w0]) (rest := []) ⟨hx, hb, hml, hown, hts⟩ (c_X0_keyReachedBy l D cI cJ cZ b0 bb bd bm bl bf ba bk bg BB BD BM BL BF BA BK BG n (by omega) hT w0 A s hw0) (k_X5_196 hts ⟨Nat.le_of_ble_eq_true rfl, Nat.le_of_ble_eq_true rfl⟩) hK hP 7 rfl rfl rfl [7, 8, 9, 10, 11, 12, 13, 14, 15, 1] rfl rfl hl.1 rfl (Nat.le_of_ble_eq_true rfl) dX5_blind_8 ⟨Nat.le_of_ble_eq_true rfl, Nat.le_of_ble_eq_true rfl⟩ ?_
  refine lv_istore_n (lv' := [(2, .int (oI (if n = 0 then 0 else if n = 1 then 1 else kr BB BM BL BF s A (n - 1) 0))), (0, .ref x0), (1, .int x)]) hx hb dX5_blind_11 rfl hl (by decide) rfl (fun ls hl => ?_)
  refine lv_iload_n hx hb dX5_blind_12 rfl (lv_at hl 2 rfl) ?_
  refine lv_lookup (tgt := 60) (off := 47) hx hb dX5_blind_13 (by decide) (lk_neg hx0) (by decide) ?_
  refine lv_ldc hx hb hown (hts _ mk_X5_57) dX5_blind_60 ?_
  exact ro_iret hx hb hr hlk dX5_blind_62 (rfl)
set_option maxHeartbeats 4000000 in
set_option maxRecDepth 100000 in
theorem c_X5_blind_big (l : Launch) (D : va_G) (cI cJ cZ : ClassId) (x0 w0 d0 k0 kl ks kw b0 bb bd bm bl bf ba bk bg p0 h0 hl1 hs1 hw1 hc1 i0 il1 is1 iw1 ic1 ik it : Nat) (A : Nat) (s : Nat) (dA : Nat) (dz : Nat) (KL : Nat → Nat) (KS : Nat → Nat) (KW : Nat → Nat) (n : Nat) (BB : Nat → Nat) (BD : Nat → Nat) (BM : Nat → Nat) (BL : Nat → Nat) (BF : Nat → Nat) (BA : Nat → Nat) (BK : Nat → Nat) (BG : Nat → Nat) (nx : Nat) (pz : Nat) (HL : Nat → Nat) (HS : Nat → Nat) (HW : Nat → Nat) (HC : Nat → Nat) (IL : Nat → Nat) (IS : Nat → Nat) (IW : Nat → Nat) (IC : Nat → Nat) (IK : Nat → Nat) (IT : Nat → Nat) (sd : Nat) (hn : n ≤ 24) (hw0 : Wf s A) (hk : ∀ k, k < n → Wf (KS k) (KL k)) (hv : ∀ k, k < n → KW k ≤ 9999) (hso : Srt KS KL n) (hTr : TrX (gapF KS KL) n BB BD BM BL BF BA BK) (hnx : nx < 20) (hpz : pz ≤ 20) (hsd : sd < 2 ^ 31) (j : Nat) (hj : j < 2 ^ 31) (hjb : 1 < j) : RO l yX5_blind cX5_blind 3 (some .int) (rmN 4 93) D (ty3 cI cJ cZ) [.ref x0, .int (nI j)] [(x0, .inr (5, [.ref w0, .ref d0, .ref k0, .ref b0, .ref p0, .ref i0, .ref ik, .ref it, .int (nI sd)])), (w0, .inr (4, [.long (lN A), .int (nI s)])), (d0, .inr (4, [.long (lN dA), .int (nI dz)])), (k0, .inr (1, [.ref kl, .ref ks, .ref kw, .int (nI n)])), (kl, .inl (cJ, 24, .inr (.inl (lF KL)))), (ks, .inl (cI, 24, .inl (nF KS))), (kw, .inl (cI, 24, .inl (nF KW))), (b0, .inr (0, [.ref bb, .ref bd, .ref bm, .ref bl, .ref bf, .ref ba, .ref bk, .ref bg, .int (nI n)])), (bb, .inl (cI, 24, .inl (nF BB))), (bd, .inl (cI, 24, .inl (nF BD))), (bm, .inl (cI, 24, .inl (nF BM))), (bl, .inl (cI, 24, .inl (nF BL))), (bf, .inl (cI, 24, .inl (nF BF))), (ba, .inl (cI, 24, .inl (oF BA))), (bk, .inl (cI, 24, .inl (oF BK))), (bg, .inl (cI, 24, .inl (nF BG))), (p0, .inr (2, [.ref h0, .int (nI nx), .int (nI pz)])), (h0, .inr (3, [.int (nI 20), .ref hl1, .ref hs1, .ref hw1, .ref hc1])), (hl1, .inl (cJ, 20 * 24, .inr (.inl (lF HL)))), (hs1, .inl (cI, 20 * 24, .inl (nF HS))), (hw1, .inl (cI, 20 * 24, .inl (nF HW))), (hc1, .inl (cI, 20, .inl (nF HC))), (i0, .inr (3, [.int (nI 2), .ref il1, .ref is1, .ref iw1, .ref ic1])), (il1, .inl (cJ, 2 * 24, .inr (.inl (lF IL)))), (is1, .inl (cI, 2 * 24, .inl (nF IS))), (iw1, .inl (cI, 2 * 24, .inl (nF IW))), (ic1, .inl (cI, 2, .inl (nF IC))), (ik, .inl (cZ, 2, .inl (nF IK))), (it, .inl (cI, 2, .inl (nF IT)))] (.int (-1000000002)) := by
  have hs8 := hw0.1
  have hA64 := hw0.2.1
  have hBK := tf_BK hTr hn
  have hDK := tf_DK hTr hn
  have hB := tf_B hTr
  have hBF := tf_BF hTr hn
  have hT := tf_T hTr hso
  have hanc := tf_anc hTr hn
  have hp := plc_le KS KL n s A
  have hcb := cbl_le KS KL n s A
  have hfl := fnd_le KS KL n s A
  refine ro_start (by decide) (Nat.le_of_ble_eq_true rfl) ?_
  intro pp ee ss mm below meth cd C0 hP hK ls hl
  obtain ⟨hx, hb, hr, hml, hown, hts, hlk⟩ := C0
  have hown : ss.vm.findClass RX5 = some mm.cls := hown
  have hl : lv_has ls 3 [(0, .ref x0), (1, .int (nI j))] := hl
  have hP : va_P D vwCl [(x0, .inr (5, [.ref w0, .ref d0, .ref k0, .ref b0, .ref p0, .ref i0, .ref ik, .ref it, .int (nI sd)])), (w0, .inr (4, [.long (lN A), .int (nI s)])), (d0, .inr (4, [.long (lN dA), .int (nI dz)])), (k0, .inr (1, [.ref kl, .ref ks, .ref kw, .int (nI n)])), (kl, .inl (cJ, 24, .inr (.inl (lF KL)))), (ks, .inl (cI, 24, .inl (nF KS))), (kw, .inl (cI, 24, .inl (nF KW))), (b0, .inr (0, [.ref bb, .ref bd, .ref bm, .ref bl, .ref bf, .ref ba, .ref bk, .ref bg, .int (nI n)])), (bb, .inl (cI, 24, .inl (nF BB))), (bd, .inl (cI, 24, .inl (nF BD))), (bm, .inl (cI, 24, .inl (nF BM))), (bl, .inl (cI, 24, .inl (nF BL))), (bf, .inl (cI, 24, .inl (nF BF))), (ba, .inl (cI, 24, .inl (oF BA))), (bk, .inl (cI, 24, .inl (oF BK))), (bg, .inl (cI, 24, .inl (nF BG))), (p0, .inr (2, [.ref h0, .int (nI nx), .int (nI pz)])), (h0, .inr (3, [.int (nI 20), .ref hl1, .ref hs1, .ref hw1, .ref hc1])), (hl1, .inl (cJ, 20 * 24, .inr (.inl (lF HL)))), (hs1, .inl (cI, 20 * 24, .inl (nF HS))), (hw1, .inl (cI, 20 * 24, .inl (nF HW))), (hc1, .inl (cI, 20, .inl (nF HC))), (i0, .inr (3, [.int (nI 2), .ref il1, .ref is1, .ref iw1, .ref ic1])), (il1, .inl (cJ, 2 * 24, .inr (.inl (lF IL)))), (is1, .inl (cI, 2 * 24, .inl (nF IS))), (iw1, .inl (cI, 2 * 24, .inl (nF IW))), (ic1, .inl (cI, 2, .inl (nF IC))), (ik, .inl (cZ, 2, .inl (nF IK))), (it, .inl (cI, 2, .inl (nF IT)))] ss.heap := hP
  refine lv_aload_n hx hb dX5_blind_0 rfl (lv_at hl 0 rfl) ?_
  refine va_get (D := D) (ci := 5) (v := .ref b0) (C := RX5) (T := TX5) (N := 9) hx hb hts inX5 hown hK hP 0 rfl rfl 3 (by decide) (hts _ mf_X5_29) (fun _ h9 => h9) rfl dX5_blind_1 ?_
  refine lv_aload_n hx hb dX5_blind_4 rfl (lv_at hl 0 rfl) ?_
  refine va_get (D := D) (ci := 5) (v := .ref w0) (C := RX5) (T := TX5) (N := 9) hx hb hts inX5 hown hK hP 0 rfl rfl 0 (by decide) (hts _ mf_X5_10) (fun _ h9 => h9) rfl dX5_blind_5 ?_
  refine ro_V (As := [.ref w0]) (rest := []) ⟨hx, hb, hml, hown, hts⟩ (c_X0_keyReachedBy l D cI cJ cZ b0 bb bd bm bl bf ba bk bg BB BD BM BL BF BA BK BG n (by omega) hT w0 A s hw0) (k_X5_196 hts ⟨Nat.le_of_ble_eq_true rfl, Nat.le_of_ble_eq_true rfl⟩) hK hP 7 rfl rfl rfl [7, 8, 9, 10, 11, 12, 13, 14, 15, 1] rfl rfl hl.1 rfl (Nat.le_of_ble_eq_true rfl) dX5_blind_8 ⟨Nat.le_of_ble_eq_true rfl, Nat.le_of_ble_eq_true rfl⟩ ?_
  refine lv_istore_n (lv' := [(2, .int (oI (if n = 0 then 0 else if n = 1 then 1 else kr BB BM BL BF s A (n - 1) 0))), (0, .ref x0), (1, .int (nI j))]) hx hb dX5_blind_11 rfl hl (by decide) rfl (fun ls hl => ?_)
  refine lv_iload_n hx hb dX5_blind_12 rfl (lv_at hl 2 rfl) ?_
  refine lv_lookup (tgt := 60) (off := 47) hx hb dX5_blind_13 (by decide) (lk_big (by omega) (by omega)) (by decide) ?_
  refine lv_ldc hx hb hown (hts _ mk_X5_57) dX5_blind_60 ?_
  exact ro_iret hx hb hr hlk dX5_blind_62 (rfl)
set_option maxHeartbeats 4000000 in
set_option maxRecDepth 100000 in
theorem c_X5_blind_0 (l : Launch) (D : va_G) (cI cJ cZ : ClassId) (x0 w0 d0 k0 kl ks kw b0 bb bd bm bl bf ba bk bg p0 h0 hl1 hs1 hw1 hc1 i0 il1 is1 iw1 ic1 ik it : Nat) (A : Nat) (s : Nat) (dA : Nat) (dz : Nat) (KL : Nat → Nat) (KS : Nat → Nat) (KW : Nat → Nat) (n : Nat) (BB : Nat → Nat) (BD : Nat → Nat) (BM : Nat → Nat) (BL : Nat → Nat) (BF : Nat → Nat) (BA : Nat → Nat) (BK : Nat → Nat) (BG : Nat → Nat) (nx : Nat) (pz : Nat) (HL : Nat → Nat) (HS : Nat → Nat) (HW : Nat → Nat) (HC : Nat → Nat) (IL : Nat → Nat) (IS : Nat → Nat) (IW : Nat → Nat) (IC : Nat → Nat) (IK : Nat → Nat) (IT : Nat → Nat) (sd : Nat) (hn : n ≤ 24) (hw0 : Wf s A) (hk : ∀ k, k < n → Wf (KS k) (KL k)) (hv : ∀ k, k < n → KW k ≤ 9999) (hso : Srt KS KL n) (hTr : TrX (gapF KS KL) n BB BD BM BL BF BA BK) (hnx : nx < 20) (hpz : pz ≤ 20) (hsd : sd < 2 ^ 31)  : RO l yX5_blind cX5_blind 3 (some .int) (rmN 4 93) D (ty3 cI cJ cZ) [.ref x0, .int (nI 0)] [(x0, .inr (5, [.ref w0, .ref d0, .ref k0, .ref b0, .ref p0, .ref i0, .ref ik, .ref it, .int (nI sd)])), (w0, .inr (4, [.long (lN A), .int (nI s)])), (d0, .inr (4, [.long (lN dA), .int (nI dz)])), (k0, .inr (1, [.ref kl, .ref ks, .ref kw, .int (nI n)])), (kl, .inl (cJ, 24, .inr (.inl (lF KL)))), (ks, .inl (cI, 24, .inl (nF KS))), (kw, .inl (cI, 24, .inl (nF KW))), (b0, .inr (0, [.ref bb, .ref bd, .ref bm, .ref bl, .ref bf, .ref ba, .ref bk, .ref bg, .int (nI n)])), (bb, .inl (cI, 24, .inl (nF BB))), (bd, .inl (cI, 24, .inl (nF BD))), (bm, .inl (cI, 24, .inl (nF BM))), (bl, .inl (cI, 24, .inl (nF BL))), (bf, .inl (cI, 24, .inl (nF BF))), (ba, .inl (cI, 24, .inl (oF BA))), (bk, .inl (cI, 24, .inl (oF BK))), (bg, .inl (cI, 24, .inl (nF BG))), (p0, .inr (2, [.ref h0, .int (nI nx), .int (nI pz)])), (h0, .inr (3, [.int (nI 20), .ref hl1, .ref hs1, .ref hw1, .ref hc1])), (hl1, .inl (cJ, 20 * 24, .inr (.inl (lF HL)))), (hs1, .inl (cI, 20 * 24, .inl (nF HS))), (hw1, .inl (cI, 20 * 24, .inl (nF HW))), (hc1, .inl (cI, 20, .inl (nF HC))), (i0, .inr (3, [.int (nI 2), .ref il1, .ref is1, .ref iw1, .ref ic1])), (il1, .inl (cJ, 2 * 24, .inr (.inl (lF IL)))), (is1, .inl (cI, 2 * 24, .inl (nF IS))), (iw1, .inl (cI, 2 * 24, .inl (nF IW))), (ic1, .inl (cI, 2, .inl (nF IC))), (ik, .inl (cZ, 2, .inl (nF IK))), (it, .inl (cI, 2, .inl (nF IT)))] (.int (oI (if n = 0 then 0 else if n = 1 then 1 else kr BB BM BL BF s A (n - 1) 0))) := by
  have hs8 := hw0.1
  have hA64 := hw0.2.1
  have hBK := tf_BK hTr hn
  have hDK := tf_DK hTr hn
  have hB := tf_B hTr
  have hBF := tf_BF hTr hn
  have hT := tf_T hTr hso
  have hanc := tf_anc hTr hn
  have hp := plc_le KS KL n s A
  have hcb := cbl_le KS KL n s A
  have hfl := fnd_le KS KL n s A
  refine ro_start (by decide) (Nat.le_of_ble_eq_true rfl) ?_
  intro pp ee ss mm below meth cd C0 hP hK ls hl
  obtain ⟨hx, hb, hr, hml, hown, hts, hlk⟩ := C0
  have hown : ss.vm.findClass RX5 = some mm.cls := hown
  have hl : lv_has ls 3 [(0, .ref x0), (1, .int (nI 0))] := hl
  have hP : va_P D vwCl [(x0, .inr (5, [.ref w0, .ref d0, .ref k0, .ref b0, .ref p0, .ref i0, .ref ik, .ref it, .int (nI sd)])), (w0, .inr (4, [.long (lN A), .int (nI s)])), (d0, .inr (4, [.long (lN dA), .int (nI dz)])), (k0, .inr (1, [.ref kl, .ref ks, .ref kw, .int (nI n)])), (kl, .inl (cJ, 24, .inr (.inl (lF KL)))), (ks, .inl (cI, 24, .inl (nF KS))), (kw, .inl (cI, 24, .inl (nF KW))), (b0, .inr (0, [.ref bb, .ref bd, .ref bm, .ref bl, .ref bf, .ref ba, .ref bk, .ref bg, .int (nI n)])), (bb, .inl (cI, 24, .inl (nF BB))), (bd, .inl (cI, 24, .inl (nF BD))), (bm, .inl (cI, 24, .inl (nF BM))), (bl, .inl (cI, 24, .inl (nF BL))), (bf, .inl (cI, 24, .inl (nF BF))), (ba, .inl (cI, 24, .inl (oF BA))), (bk, .inl (cI, 24, .inl (oF BK))), (bg, .inl (cI, 24, .inl (nF BG))), (p0, .inr (2, [.ref h0, .int (nI nx), .int (nI pz)])), (h0, .inr (3, [.int (nI 20), .ref hl1, .ref hs1, .ref hw1, .ref hc1])), (hl1, .inl (cJ, 20 * 24, .inr (.inl (lF HL)))), (hs1, .inl (cI, 20 * 24, .inl (nF HS))), (hw1, .inl (cI, 20 * 24, .inl (nF HW))), (hc1, .inl (cI, 20, .inl (nF HC))), (i0, .inr (3, [.int (nI 2), .ref il1, .ref is1, .ref iw1, .ref ic1])), (il1, .inl (cJ, 2 * 24, .inr (.inl (lF IL)))), (is1, .inl (cI, 2 * 24, .inl (nF IS))), (iw1, .inl (cI, 2 * 24, .inl (nF IW))), (ic1, .inl (cI, 2, .inl (nF IC))), (ik, .inl (cZ, 2, .inl (nF IK))), (it, .inl (cI, 2, .inl (nF IT)))] ss.heap := hP
  refine lv_aload_n hx hb dX5_blind_0 rfl (lv_at hl 0 rfl) ?_
  refine va_get (D := D) (ci := 5) (v := .ref b0) (C := RX5) (T := TX5) (N := 9) hx hb hts inX5 hown hK hP 0 rfl rfl 3 (by decide) (hts _ mf_X5_29) (fun _ h9 => h9) rfl dX5_blind_1 ?_
  refine lv_aload_n hx hb dX5_blind_4 rfl (lv_at hl 0 rfl) ?_
  refine va_get (D := D) (ci := 5) (v := .ref w0) (C := RX5) (T := TX5) (N := 9) hx hb hts inX5 hown hK hP 0 rfl rfl 0 (by decide) (hts _ mf_X5_10) (fun _ h9 => h9) rfl dX5_blind_5 ?_
  refine ro_V (As := [.ref w0]) (rest := []) ⟨hx, hb, hml, hown, hts⟩ (c_X0_keyReachedBy l D cI cJ cZ b0 bb bd bm bl bf ba bk bg BB BD BM BL BF BA BK BG n (by omega) hT w0 A s hw0) (k_X5_196 hts ⟨Nat.le_of_ble_eq_true rfl, Nat.le_of_ble_eq_true rfl⟩) hK hP 7 rfl rfl rfl [7, 8, 9, 10, 11, 12, 13, 14, 15, 1] rfl rfl hl.1 rfl (Nat.le_of_ble_eq_true rfl) dX5_blind_8 ⟨Nat.le_of_ble_eq_true rfl, Nat.le_of_ble_eq_true rfl⟩ ?_
  refine lv_istore_n (lv' := [(2, .int (oI (if n = 0 then 0 else if n = 1 then 1 else kr BB BM BL BF s A (n - 1) 0))), (0, .ref x0), (1, .int (nI 0))]) hx hb dX5_blind_11 rfl hl (by decide) rfl (fun ls hl => ?_)
  refine lv_iload_n hx hb dX5_blind_12 rfl (lv_at hl 2 rfl) ?_
  refine lv_lookup (tgt := 40) (off := 27) hx hb dX5_blind_13 (by decide) (by decide +kernel) (by decide) ?_
  refine lv_iload_n hx hb dX5_blind_40 rfl (lv_at hl 0 rfl) ?_
  exact ro_iret hx hb hr hlk dX5_blind_41 (rfl)
set_option maxHeartbeats 4000000 in
set_option maxRecDepth 100000 in
theorem c_X5_blind_1n (l : Launch) (D : va_G) (cI cJ cZ : ClassId) (x0 w0 d0 k0 kl ks kw b0 bb bd bm bl bf ba bk bg p0 h0 hl1 hs1 hw1 hc1 i0 il1 is1 iw1 ic1 ik it : Nat) (A : Nat) (s : Nat) (dA : Nat) (dz : Nat) (KL : Nat → Nat) (KS : Nat → Nat) (KW : Nat → Nat) (n : Nat) (BB : Nat → Nat) (BD : Nat → Nat) (BM : Nat → Nat) (BL : Nat → Nat) (BF : Nat → Nat) (BA : Nat → Nat) (BK : Nat → Nat) (BG : Nat → Nat) (nx : Nat) (pz : Nat) (HL : Nat → Nat) (HS : Nat → Nat) (HW : Nat → Nat) (HC : Nat → Nat) (IL : Nat → Nat) (IS : Nat → Nat) (IW : Nat → Nat) (IC : Nat → Nat) (IK : Nat → Nat) (IT : Nat → Nat) (sd : Nat) (hn : n ≤ 24) (hw0 : Wf s A) (hk : ∀ k, k < n → Wf (KS k) (KL k)) (hv : ∀ k, k < n → KW k ≤ 9999) (hso : Srt KS KL n) (hTr : TrX (gapF KS KL) n BB BD BM BL BF BA BK) (hnx : nx < 20) (hpz : pz ≤ 20) (hsd : sd < 2 ^ 31) (hc : (if n = 0 then 0 else if n = 1 then 1 else kr BB BM BL BF s A (n - 1) 0) = 0) : RO l yX5_blind cX5_blind 3 (some .int) (rmN 4 93) D (ty3 cI cJ cZ) [.ref x0, .int (nI 1)] [(x0, .inr (5, [.ref w0, .ref d0, .ref k0, .ref b0, .ref p0, .ref i0, .ref ik, .ref it, .int (nI sd)])), (w0, .inr (4, [.long (lN A), .int (nI s)])), (d0, .inr (4, [.long (lN dA), .int (nI dz)])), (k0, .inr (1, [.ref kl, .ref ks, .ref kw, .int (nI n)])), (kl, .inl (cJ, 24, .inr (.inl (lF KL)))), (ks, .inl (cI, 24, .inl (nF KS))), (kw, .inl (cI, 24, .inl (nF KW))), (b0, .inr (0, [.ref bb, .ref bd, .ref bm, .ref bl, .ref bf, .ref ba, .ref bk, .ref bg, .int (nI n)])), (bb, .inl (cI, 24, .inl (nF BB))), (bd, .inl (cI, 24, .inl (nF BD))), (bm, .inl (cI, 24, .inl (nF BM))), (bl, .inl (cI, 24, .inl (nF BL))), (bf, .inl (cI, 24, .inl (nF BF))), (ba, .inl (cI, 24, .inl (oF BA))), (bk, .inl (cI, 24, .inl (oF BK))), (bg, .inl (cI, 24, .inl (nF BG))), (p0, .inr (2, [.ref h0, .int (nI nx), .int (nI pz)])), (h0, .inr (3, [.int (nI 20), .ref hl1, .ref hs1, .ref hw1, .ref hc1])), (hl1, .inl (cJ, 20 * 24, .inr (.inl (lF HL)))), (hs1, .inl (cI, 20 * 24, .inl (nF HS))), (hw1, .inl (cI, 20 * 24, .inl (nF HW))), (hc1, .inl (cI, 20, .inl (nF HC))), (i0, .inr (3, [.int (nI 2), .ref il1, .ref is1, .ref iw1, .ref ic1])), (il1, .inl (cJ, 2 * 24, .inr (.inl (lF IL)))), (is1, .inl (cI, 2 * 24, .inl (nF IS))), (iw1, .inl (cI, 2 * 24, .inl (nF IW))), (ic1, .inl (cI, 2, .inl (nF IC))), (ik, .inl (cZ, 2, .inl (nF IK))), (it, .inl (cI, 2, .inl (nF IT)))] (.int (nI 0)) := by
  have hs8 := hw0.1
  have hA64 := hw0.2.1
  have hBK := tf_BK hTr hn
  have hDK := tf_DK hTr hn
  have hB := tf_B hTr
  have hBF := tf_BF hTr hn
  have hT := tf_T hTr hso
  have hanc := tf_anc hTr hn
  have hp := plc_le KS KL n s A
  have hcb := cbl_le KS KL n s A
  have hfl := fnd_le KS KL n s A
  refine ro_start (by decide) (Nat.le_of_ble_eq_true rfl) ?_
  intro pp ee ss mm below meth cd C0 hP hK ls hl
  obtain ⟨hx, hb, hr, hml, hown, hts, hlk⟩ := C0
  have hown : ss.vm.findClass RX5 = some mm.cls := hown
  have hl : lv_has ls 3 [(0, .ref x0), (1, .int (nI 1))] := hl
  have hP : va_P D vwCl [(x0, .inr (5, [.ref w0, .ref d0, .ref k0, .ref b0, .ref p0, .ref i0, .ref ik, .ref it, .int (nI sd)])), (w0, .inr (4, [.long (lN A), .int (nI s)])), (d0, .inr (4, [.long (lN dA), .int (nI dz)])), (k0, .inr (1, [.ref kl, .ref ks, .ref kw, .int (nI n)])), (kl, .inl (cJ, 24, .inr (.inl (lF KL)))), (ks, .inl (cI, 24, .inl (nF KS))), (kw, .inl (cI, 24, .inl (nF KW))), (b0, .inr (0, [.ref bb, .ref bd, .ref bm, .ref bl, .ref bf, .ref ba, .ref bk, .ref bg, .int (nI n)])), (bb, .inl (cI, 24, .inl (nF BB))), (bd, .inl (cI, 24, .inl (nF BD))), (bm, .inl (cI, 24, .inl (nF BM))), (bl, .inl (cI, 24, .inl (nF BL))), (bf, .inl (cI, 24, .inl (nF BF))), (ba, .inl (cI, 24, .inl (oF BA))), (bk, .inl (cI, 24, .inl (oF BK))), (bg, .inl (cI, 24, .inl (nF BG))), (p0, .inr (2, [.ref h0, .int (nI nx), .int (nI pz)])), (h0, .inr (3, [.int (nI 20), .ref hl1, .ref hs1, .ref hw1, .ref hc1])), (hl1, .inl (cJ, 20 * 24, .inr (.inl (lF HL)))), (hs1, .inl (cI, 20 * 24, .inl (nF HS))), (hw1, .inl (cI, 20 * 24, .inl (nF HW))), (hc1, .inl (cI, 20, .inl (nF HC))), (i0, .inr (3, [.int (nI 2), .ref il1, .ref is1, .ref iw1, .ref ic1])), (il1, .inl (cJ, 2 * 24, .inr (.inl (lF IL)))), (is1, .inl (cI, 2 * 24, .inl (nF IS))), (iw1, .inl (cI, 2 * 24, .inl (nF IW))), (ic1, .inl (cI, 2, .inl (nF IC))), (ik, .inl (cZ, 2, .inl (nF IK))), (it, .inl (cI, 2, .inl (nF IT)))] ss.heap := hP
  refine lv_aload_n hx hb dX5_blind_0 rfl (lv_at hl 0 rfl) ?_
  refine va_get (D := D) (ci := 5) (v := .ref b0) (C := RX5) (T := TX5) (N := 9) hx hb hts inX5 hown hK hP 0 rfl rfl 3 (by decide) (hts _ mf_X5_29) (fun _ h9 => h9) rfl dX5_blind_1 ?_
  refine lv_aload_n hx hb dX5_blind_4 rfl (lv_at hl 0 rfl) ?_
  refine va_get (D := D) (ci := 5) (v := .ref w0) (C := RX5) (T := TX5) (N := 9) hx hb hts inX5 hown hK hP 0 rfl rfl 0 (by decide) (hts _ mf_X5_10) (fun _ h9 => h9) rfl dX5_blind_5 ?_
  refine ro_V (As := [.ref w0]) (rest := []) ⟨hx, hb, hml, hown, hts⟩ (c_X0_keyReachedBy l D cI cJ cZ b0 bb bd bm bl bf ba bk bg BB BD BM BL BF BA BK BG n (by omega) hT w0 A s hw0) (k_X5_196 hts ⟨Nat.le_of_ble_eq_true rfl, Nat.le_of_ble_eq_true rfl⟩) hK hP 7 rfl rfl rfl [7, 8, 9, 10, 11, 12, 13, 14, 15, 1] rfl rfl hl.1 rfl (Nat.le_of_ble_eq_true rfl) dX5_blind_8 ⟨Nat.le_of_ble_eq_true rfl, Nat.le_of_ble_eq_true rfl⟩ ?_
  refine lv_istore_n (lv' := [(2, .int (oI (if n = 0 then 0 else if n = 1 then 1 else kr BB BM BL BF s A (n - 1) 0))), (0, .ref x0), (1, .int (nI 1))]) hx hb dX5_blind_11 rfl hl (by decide) rfl (fun ls hl => ?_)
  refine lv_iload_n hx hb dX5_blind_12 rfl (lv_at hl 2 rfl) ?_
  refine lv_lookup (tgt := 42) (off := 29) hx hb dX5_blind_13 (by decide) (by decide +kernel) (by decide) ?_
  refine lv_iload_n hx hb dX5_blind_42 rfl (lv_at hl 0 rfl) ?_
  refine lv_iconst (v := oI 0) hx hb dX5_blind_43 (by decide +kernel) ?_
  refine o_ne (tgt := 51) hx hb dX5_blind_44 (by decide) (by rw [hc]; decide) (fun c1 => ?_) (fun c1 => ?_)
  ·
    exact absurd hc c1
  ·
    refine lv_iconst (v := nI 0) hx hb dX5_blind_47 (by decide +kernel) ?_
    refine lv_goto (tgt := 59) hx hb dX5_blind_48 (by decide) ?_
    exact ro_iret hx hb hr hlk dX5_blind_59 (rfl)
set_option maxHeartbeats 4000000 in
set_option maxRecDepth 100000 in
theorem c_X5_blind_1y (l : Launch) (D : va_G) (cI cJ cZ : ClassId) (x0 w0 d0 k0 kl ks kw b0 bb bd bm bl bf ba bk bg p0 h0 hl1 hs1 hw1 hc1 i0 il1 is1 iw1 ic1 ik it : Nat) (A : Nat) (s : Nat) (dA : Nat) (dz : Nat) (KL : Nat → Nat) (KS : Nat → Nat) (KW : Nat → Nat) (n : Nat) (BB : Nat → Nat) (BD : Nat → Nat) (BM : Nat → Nat) (BL : Nat → Nat) (BF : Nat → Nat) (BA : Nat → Nat) (BK : Nat → Nat) (BG : Nat → Nat) (nx : Nat) (pz : Nat) (HL : Nat → Nat) (HS : Nat → Nat) (HW : Nat → Nat) (HC : Nat → Nat) (IL : Nat → Nat) (IS : Nat → Nat) (IW : Nat → Nat) (IC : Nat → Nat) (IK : Nat → Nat) (IT : Nat → Nat) (sd : Nat) (hn : n ≤ 24) (hw0 : Wf s A) (hk : ∀ k, k < n → Wf (KS k) (KL k)) (hv : ∀ k, k < n → KW k ≤ 9999) (hso : Srt KS KL n) (hTr : TrX (gapF KS KL) n BB BD BM BL BF BA BK) (hnx : nx < 20) (hpz : pz ≤ 20) (hsd : sd < 2 ^ 31) (q : Nat) (hq : q < n) (hc : (if n = 0 then 0 else if n = 1 then 1 else kr BB BM BL BF s A (n - 1) 0) = q + 1) : RO l yX5_blind cX5_blind 3 (some .int) (rmN 4 93) D (ty3 cI cJ cZ) [.ref x0, .int (nI 1)] [(x0, .inr (5, [.ref w0, .ref d0, .ref k0, .ref b0, .ref p0, .ref i0, .ref ik, .ref it, .int (nI sd)])), (w0, .inr (4, [.long (lN A), .int (nI s)])), (d0, .inr (4, [.long (lN dA), .int (nI dz)])), (k0, .inr (1, [.ref kl, .ref ks, .ref kw, .int (nI n)])), (kl, .inl (cJ, 24, .inr (.inl (lF KL)))), (ks, .inl (cI, 24, .inl (nF KS))), (kw, .inl (cI, 24, .inl (nF KW))), (b0, .inr (0, [.ref bb, .ref bd, .ref bm, .ref bl, .ref bf, .ref ba, .ref bk, .ref bg, .int (nI n)])), (bb, .inl (cI, 24, .inl (nF BB))), (bd, .inl (cI, 24, .inl (nF BD))), (bm, .inl (cI, 24, .inl (nF BM))), (bl, .inl (cI, 24, .inl (nF BL))), (bf, .inl (cI, 24, .inl (nF BF))), (ba, .inl (cI, 24, .inl (oF BA))), (bk, .inl (cI, 24, .inl (oF BK))), (bg, .inl (cI, 24, .inl (nF BG))), (p0, .inr (2, [.ref h0, .int (nI nx), .int (nI pz)])), (h0, .inr (3, [.int (nI 20), .ref hl1, .ref hs1, .ref hw1, .ref hc1])), (hl1, .inl (cJ, 20 * 24, .inr (.inl (lF HL)))), (hs1, .inl (cI, 20 * 24, .inl (nF HS))), (hw1, .inl (cI, 20 * 24, .inl (nF HW))), (hc1, .inl (cI, 20, .inl (nF HC))), (i0, .inr (3, [.int (nI 2), .ref il1, .ref is1, .ref iw1, .ref ic1])), (il1, .inl (cJ, 2 * 24, .inr (.inl (lF IL)))), (is1, .inl (cI, 2 * 24, .inl (nF IS))), (iw1, .inl (cI, 2 * 24, .inl (nF IW))), (ic1, .inl (cI, 2, .inl (nF IC))), (ik, .inl (cZ, 2, .inl (nF IK))), (it, .inl (cI, 2, .inl (nF IT)))] (.int (nI (dok BK BD q))) := by
  have hs8 := hw0.1
  have hA64 := hw0.2.1
  have hBK := tf_BK hTr hn
  have hDK := tf_DK hTr hn
  have hB := tf_B hTr
  have hBF := tf_BF hTr hn
  have hT := tf_T hTr hso
  have hanc := tf_anc hTr hn
  have hp := plc_le KS KL n s A
  have hcb := cbl_le KS KL n s A
  have hfl := fnd_le KS KL n s A
  refine ro_start (by decide) (Nat.le_of_ble_eq_true rfl) ?_
  intro pp ee ss mm below meth cd C0 hP hK ls hl
  obtain ⟨hx, hb, hr, hml, hown, hts, hlk⟩ := C0
  have hown : ss.vm.findClass RX5 = some mm.cls := hown
  have hl : lv_has ls 3 [(0, .ref x0), (1, .int (nI 1))] := hl
  have hP : va_P D vwCl [(x0, .inr (5, [.ref w0, .ref d0, .ref k0, .ref b0, .ref p0, .ref i0, .ref ik, .ref it, .int (nI sd)])), (w0, .inr (4, [.long (lN A), .int (nI s)])), (d0, .inr (4, [.long (lN dA), .int (nI dz)])), (k0, .inr (1, [.ref kl, .ref ks, .ref kw, .int (nI n)])), (kl, .inl (cJ, 24, .inr (.inl (lF KL)))), (ks, .inl (cI, 24, .inl (nF KS))), (kw, .inl (cI, 24, .inl (nF KW))), (b0, .inr (0, [.ref bb, .ref bd, .ref bm, .ref bl, .ref bf, .ref ba, .ref bk, .ref bg, .int (nI n)])), (bb, .inl (cI, 24, .inl (nF BB))), (bd, .inl (cI, 24, .inl (nF BD))), (bm, .inl (cI, 24, .inl (nF BM))), (bl, .inl (cI, 24, .inl (nF BL))), (bf, .inl (cI, 24, .inl (nF BF))), (ba, .inl (cI, 24, .inl (oF BA))), (bk, .inl (cI, 24, .inl (oF BK))), (bg, .inl (cI, 24, .inl (nF BG))), (p0, .inr (2, [.ref h0, .int (nI nx), .int (nI pz)])), (h0, .inr (3, [.int (nI 20), .ref hl1, .ref hs1, .ref hw1, .ref hc1])), (hl1, .inl (cJ, 20 * 24, .inr (.inl (lF HL)))), (hs1, .inl (cI, 20 * 24, .inl (nF HS))), (hw1, .inl (cI, 20 * 24, .inl (nF HW))), (hc1, .inl (cI, 20, .inl (nF HC))), (i0, .inr (3, [.int (nI 2), .ref il1, .ref is1, .ref iw1, .ref ic1])), (il1, .inl (cJ, 2 * 24, .inr (.inl (lF IL)))), (is1, .inl (cI, 2 * 24, .inl (nF IS))), (iw1, .inl (cI, 2 * 24, .inl (nF IW))), (ic1, .inl (cI, 2, .inl (nF IC))), (ik, .inl (cZ, 2, .inl (nF IK))), (it, .inl (cI, 2, .inl (nF IT)))] ss.heap := hP
  refine lv_aload_n hx hb dX5_blind_0 rfl (lv_at hl 0 rfl) ?_
  refine va_get (D := D) (ci := 5) (v := .ref b0) (C := RX5) (T := TX5) (N := 9) hx hb hts inX5 hown hK hP 0 rfl rfl 3 (by decide) (hts _ mf_X5_29) (fun _ h9 => h9) rfl dX5_blind_1 ?_
  refine lv_aload_n hx hb dX5_blind_4 rfl (lv_at hl 0 rfl) ?_
  refine va_get (D := D) (ci := 5) (v := .ref w0) (C := RX5) (T := TX5) (N := 9) hx hb hts inX5 hown hK hP 0 rfl rfl 0 (by decide) (hts _ mf_X5_10) (fun _ h9 => h9) rfl dX5_blind_5 ?_
  refine ro_V (As := [.ref w0]) (rest := []) ⟨hx, hb, hml, hown, hts⟩ (c_X0_keyReachedBy l D cI cJ cZ b0 bb bd bm bl bf ba bk bg BB BD BM BL BF BA BK BG n (by omega) hT w0 A s hw0) (k_X5_196 hts ⟨Nat.le_of_ble_eq_true rfl, Nat.le_of_ble_eq_true rfl⟩) hK hP 7 rfl rfl rfl [7, 8, 9, 10, 11, 12, 13, 14, 15, 1] rfl rfl hl.1 rfl (Nat.le_of_ble_eq_true rfl) dX5_blind_8 ⟨Nat.le_of_ble_eq_true rfl, Nat.le_of_ble_eq_true rfl⟩ ?_
  refine lv_istore_n (lv' := [(2, .int (oI (if n = 0 then 0 else if n = 1 then 1 else kr BB BM BL BF s A (n - 1) 0))), (0, .ref x0), (1, .int (nI 1))]) hx hb dX5_blind_11 rfl hl (by decide) rfl (fun ls hl => ?_)
  refine lv_iload_n hx hb dX5_blind_12 rfl (lv_at hl 2 rfl) ?_
  refine lv_lookup (tgt := 42) (off := 29) hx hb dX5_blind_13 (by decide) (by decide +kernel) (by decide) ?_
  refine lv_iload_n hx hb dX5_blind_42 rfl (lv_at hl 0 rfl) ?_
  refine lv_iconst (v := oI 0) hx hb dX5_blind_43 (by decide +kernel) ?_
  refine o_ne (tgt := 51) hx hb dX5_blind_44 (by decide) (by rw [hc]; omega) (fun c1 => ?_) (fun c1 => ?_)
  ·
    refine lv_aload_n hx hb dX5_blind_51 rfl (lv_at hl 1 rfl) ?_
    refine va_get (D := D) (ci := 5) (v := .ref b0) (C := RX5) (T := TX5) (N := 9) hx hb hts inX5 hown hK hP 0 rfl rfl 3 (by decide) (hts _ mf_X5_29) (fun _ h9 => h9) rfl dX5_blind_52 ?_
    refine lv_iload_n hx hb dX5_blind_55 rfl (lv_at hl 0 rfl) ?_
    refine tq (y := (nI q)) (by rw [hc, oI_s]) ?_
    refine ro_V (As := [.int (nI q)]) (rest := []) ⟨hx, hb, hml, hown, hts⟩ (c_X0_depthOfKey l D cI cJ cZ b0 bb bd bm bl bf ba bk bg BB BD BM BL BF BA BK BG n (by omega) q (by omega) (hBK _ (by omega))) (k_X5_121 hts ⟨Nat.le_of_ble_eq_true rfl, Nat.le_of_ble_eq_true rfl⟩) hK hP 7 rfl rfl rfl [7, 8, 9, 10, 11, 12, 13, 14, 15] rfl rfl hl.1 rfl (Nat.le_of_ble_eq_true rfl) dX5_blind_56 ⟨Nat.le_of_ble_eq_true rfl, Nat.le_of_ble_eq_true rfl⟩ ?_
    exact ro_iret hx hb hr hlk dX5_blind_59 (rfl)
  ·
    exact absurd (hc.symm.trans c1) (by omega)
set_option maxHeartbeats 4000000 in
set_option maxRecDepth 100000 in
theorem c_X5_way_kneg (l : Launch) (D : va_G) (cI cJ cZ : ClassId) (x0 w0 d0 k0 kl ks kw b0 bb bd bm bl bf ba bk bg p0 h0 hl1 hs1 hw1 hc1 i0 il1 is1 iw1 ic1 ik it : Nat) (A : Nat) (s : Nat) (dA : Nat) (dz : Nat) (KL : Nat → Nat) (KS : Nat → Nat) (KW : Nat → Nat) (n : Nat) (BB : Nat → Nat) (BD : Nat → Nat) (BM : Nat → Nat) (BL : Nat → Nat) (BF : Nat → Nat) (BA : Nat → Nat) (BK : Nat → Nat) (BG : Nat → Nat) (nx : Nat) (pz : Nat) (HL : Nat → Nat) (HS : Nat → Nat) (HW : Nat → Nat) (HC : Nat → Nat) (IL : Nat → Nat) (IS : Nat → Nat) (IW : Nat → Nat) (IC : Nat → Nat) (IK : Nat → Nat) (IT : Nat → Nat) (sd : Nat) (hn : n ≤ 24) (hw0 : Wf s A) (hk : ∀ k, k < n → Wf (KS k) (KL k)) (hv : ∀ k, k < n → KW k ≤ 9999) (hso : Srt KS KL n) (hTr : TrX (gapF KS KL) n BB BD BM BL BF BA BK) (hnx : nx < 20) (hpz : pz ≤ 20) (hsd : sd < 2 ^ 31) (x y : Int32) (hx0 : x < 0) : RO l yX5_way cX5_way 3 (some .int) (rmN 5 109) D (ty3 cI cJ cZ) [.ref x0, .int x, .int y] [(x0, .inr (5, [.ref w0, .ref d0, .ref k0, .ref b0, .ref p0, .ref i0, .ref ik, .ref it, .int (nI sd)])), (w0, .inr (4, [.long (lN A), .int (nI s)])), (d0, .inr (4, [.long (lN dA), .int (nI dz)])), (k0, .inr (1, [.ref kl, .ref ks, .ref kw, .int (nI n)])), (kl, .inl (cJ, 24, .inr (.inl (lF KL)))), (ks, .inl (cI, 24, .inl (nF KS))), (kw, .inl (cI, 24, .inl (nF KW))), (b0, .inr (0, [.ref bb, .ref bd, .ref bm, .ref bl, .ref bf, .ref ba, .ref bk, .ref bg, .int (nI n)])), (bb, .inl (cI, 24, .inl (nF BB))), (bd, .inl (cI, 24, .inl (nF BD))), (bm, .inl (cI, 24, .inl (nF BM))), (bl, .inl (cI, 24, .inl (nF BL))), (bf, .inl (cI, 24, .inl (nF BF))), (ba, .inl (cI, 24, .inl (oF BA))), (bk, .inl (cI, 24, .inl (oF BK))), (bg, .inl (cI, 24, .inl (nF BG))), (p0, .inr (2, [.ref h0, .int (nI nx), .int (nI pz)])), (h0, .inr (3, [.int (nI 20), .ref hl1, .ref hs1, .ref hw1, .ref hc1])), (hl1, .inl (cJ, 20 * 24, .inr (.inl (lF HL)))), (hs1, .inl (cI, 20 * 24, .inl (nF HS))), (hw1, .inl (cI, 20 * 24, .inl (nF HW))), (hc1, .inl (cI, 20, .inl (nF HC))), (i0, .inr (3, [.int (nI 2), .ref il1, .ref is1, .ref iw1, .ref ic1])), (il1, .inl (cJ, 2 * 24, .inr (.inl (lF IL)))), (is1, .inl (cI, 2 * 24, .inl (nF IS))), (iw1, .inl (cI, 2 * 24, .inl (nF IW))), (ic1, .inl (cI, 2, .inl (nF IC))), (ik, .inl (cZ, 2, .inl (nF IK))), (it, .inl (cI, 2, .inl (nF IT)))] (.int (-1000000001)) := by
  have hs8 := hw0.1
  have hA64 := hw0.2.1
  have hBK := tf_BK hTr hn
  have hDK := tf_DK hTr hn
  have hB := tf_B hTr
  have hBF := tf_BF hTr hn
  have hT := tf_T hTr hso
  have hanc := tf_anc hTr hn
  have hp := plc_le KS KL n s A
  have hcb := cbl_le KS KL n s A
  have hfl := fnd_le KS KL n s A
  refine ro_start (by decide) (Nat.le_of_ble_eq_true rfl) ?_
  intro pp ee ss mm below meth cd C0 hP hK ls hl
  obtain ⟨hx, hb, hr, hml, hown, hts, hlk⟩ := C0
  have hown : ss.vm.findClass RX5 = some mm.cls := hown
  have hl : lv_has ls 3 [(0, .ref x0), (1, .int x), (2, .int y)] := hl
  have hP : va_P D vwCl [(x0, .inr (5, [.ref w0, .ref d0, .ref k0, .ref b0, .ref p0, .ref i0, .ref ik, .ref it, .int (nI sd)])), (w0, .inr (4, [.long (lN A), .int (nI s)])), (d0, .inr (4, [.long (lN dA), .int (nI dz)])), (k0, .inr (1, [.ref kl, .ref ks, .ref kw, .int (nI n)])), (kl, .inl (cJ, 24, .inr (.inl (lF KL)))), (ks, .inl (cI, 24, .inl (nF KS))), (kw, .inl (cI, 24, .inl (nF KW))), (b0, .inr (0, [.ref bb, .ref bd, .ref bm, .ref bl, .ref bf, .ref ba, .ref bk, .ref bg, .int (nI n)])), (bb, .inl (cI, 24, .inl (nF BB))), (bd, .inl (cI, 24, .inl (nF BD))), (bm, .inl (cI, 24, .inl (nF BM))), (bl, .inl (cI, 24, .inl (nF BL))), (bf, .inl (cI, 24, .inl (nF BF))), (ba, .inl (cI, 24, .inl (oF BA))), (bk, .inl (cI, 24, .inl (oF BK))), (bg, .inl (cI, 24, .inl (nF BG))), (p0, .inr (2, [.ref h0, .int (nI nx), .int (nI pz)])), (h0, .inr (3, [.int (nI 20), .ref hl1, .ref hs1, .ref hw1, .ref hc1])), (hl1, .inl (cJ, 20 * 24, .inr (.inl (lF HL)))), (hs1, .inl (cI, 20 * 24, .inl (nF HS))), (hw1, .inl (cI, 20 * 24, .inl (nF HW))), (hc1, .inl (cI, 20, .inl (nF HC))), (i0, .inr (3, [.int (nI 2), .ref il1, .ref is1, .ref iw1, .ref ic1])), (il1, .inl (cJ, 2 * 24, .inr (.inl (lF IL)))), (is1, .inl (cI, 2 * 24, .inl (nF IS))), (iw1, .inl (cI, 2 * 24, .inl (nF IW))), (ic1, .inl (cI, 2, .inl (nF IC))), (ik, .inl (cZ, 2, .inl (nF IK))), (it, .inl (cI, 2, .inl (nF IT)))] ss.heap := hP
  refine lv_aload_n hx hb dX5_way_0 rfl (lv_at hl 0 rfl) ?_
  refine va_get (D := D) (ci := 5) (v := .ref k0) (C := RX5) (T := TX5) (N := 9) hx hb hts inX5 hown hK hP 0 rfl rfl 2 (by decide) (hts _ mf_X5_22) (fun _ h9 => h9) rfl dX5_way_1 ?_
  refine lv_iload_n hx hb dX5_way_4 rfl (lv_at hl 1 rfl) ?_
  refine ro_V (As := [.int x]) (rest := []) ⟨hx, hb, hml, hown, hts⟩ (c_X1_has_neg l D cI cJ cZ k0 kl ks kw KL KS KW n (by omega) x hx0) (k_X5_69 hts ⟨Nat.le_of_ble_eq_true rfl, Nat.le_of_ble_eq_true rfl⟩) hK hP 3 rfl rfl rfl [3, 4, 5, 6] rfl rfl hl.1 rfl (Nat.le_of_ble_eq_true rfl) dX5_way_5 ⟨Nat.le_of_ble_eq_true rfl, Nat.le_of_ble_eq_true rfl⟩ ?_
  refine n_if_eq (tgt := 23) hx hb dX5_way_8 (by decide) (by decide) (fun _ => ?_) (fun h9 => absurd rfl h9)
  refine lv_ldc hx hb hown (hts _ mk_X5_73) dX5_way_23 ?_
  exact ro_iret hx hb hr hlk dX5_way_25 (rfl)
set_option maxHeartbeats 4000000 in
set_option maxRecDepth 100000 in
theorem c_X5_way_kout (l : Launch) (D : va_G) (cI cJ cZ : ClassId) (x0 w0 d0 k0 kl ks kw b0 bb bd bm bl bf ba bk bg p0 h0 hl1 hs1 hw1 hc1 i0 il1 is1 iw1 ic1 ik it : Nat) (A : Nat) (s : Nat) (dA : Nat) (dz : Nat) (KL : Nat → Nat) (KS : Nat → Nat) (KW : Nat → Nat) (n : Nat) (BB : Nat → Nat) (BD : Nat → Nat) (BM : Nat → Nat) (BL : Nat → Nat) (BF : Nat → Nat) (BA : Nat → Nat) (BK : Nat → Nat) (BG : Nat → Nat) (nx : Nat) (pz : Nat) (HL : Nat → Nat) (HS : Nat → Nat) (HW : Nat → Nat) (HC : Nat → Nat) (IL : Nat → Nat) (IS : Nat → Nat) (IW : Nat → Nat) (IC : Nat → Nat) (IK : Nat → Nat) (IT : Nat → Nat) (sd : Nat) (hn : n ≤ 24) (hw0 : Wf s A) (hk : ∀ k, k < n → Wf (KS k) (KL k)) (hv : ∀ k, k < n → KW k ≤ 9999) (hso : Srt KS KL n) (hTr : TrX (gapF KS KL) n BB BD BM BL BF BA BK) (hnx : nx < 20) (hpz : pz ≤ 20) (hsd : sd < 2 ^ 31) (j : Nat) (y : Int32) (hj : j < 2 ^ 31) (hjo : n ≤ j) : RO l yX5_way cX5_way 3 (some .int) (rmN 5 109) D (ty3 cI cJ cZ) [.ref x0, .int (nI j), .int y] [(x0, .inr (5, [.ref w0, .ref d0, .ref k0, .ref b0, .ref p0, .ref i0, .ref ik, .ref it, .int (nI sd)])), (w0, .inr (4, [.long (lN A), .int (nI s)])), (d0, .inr (4, [.long (lN dA), .int (nI dz)])), (k0, .inr (1, [.ref kl, .ref ks, .ref kw, .int (nI n)])), (kl, .inl (cJ, 24, .inr (.inl (lF KL)))), (ks, .inl (cI, 24, .inl (nF KS))), (kw, .inl (cI, 24, .inl (nF KW))), (b0, .inr (0, [.ref bb, .ref bd, .ref bm, .ref bl, .ref bf, .ref ba, .ref bk, .ref bg, .int (nI n)])), (bb, .inl (cI, 24, .inl (nF BB))), (bd, .inl (cI, 24, .inl (nF BD))), (bm, .inl (cI, 24, .inl (nF BM))), (bl, .inl (cI, 24, .inl (nF BL))), (bf, .inl (cI, 24, .inl (nF BF))), (ba, .inl (cI, 24, .inl (oF BA))), (bk, .inl (cI, 24, .inl (oF BK))), (bg, .inl (cI, 24, .inl (nF BG))), (p0, .inr (2, [.ref h0, .int (nI nx), .int (nI pz)])), (h0, .inr (3, [.int (nI 20), .ref hl1, .ref hs1, .ref hw1, .ref hc1])), (hl1, .inl (cJ, 20 * 24, .inr (.inl (lF HL)))), (hs1, .inl (cI, 20 * 24, .inl (nF HS))), (hw1, .inl (cI, 20 * 24, .inl (nF HW))), (hc1, .inl (cI, 20, .inl (nF HC))), (i0, .inr (3, [.int (nI 2), .ref il1, .ref is1, .ref iw1, .ref ic1])), (il1, .inl (cJ, 2 * 24, .inr (.inl (lF IL)))), (is1, .inl (cI, 2 * 24, .inl (nF IS))), (iw1, .inl (cI, 2 * 24, .inl (nF IW))), (ic1, .inl (cI, 2, .inl (nF IC))), (ik, .inl (cZ, 2, .inl (nF IK))), (it, .inl (cI, 2, .inl (nF IT)))] (.int (-1000000001)) := by
  have hs8 := hw0.1
  have hA64 := hw0.2.1
  have hBK := tf_BK hTr hn
  have hDK := tf_DK hTr hn
  have hB := tf_B hTr
  have hBF := tf_BF hTr hn
  have hT := tf_T hTr hso
  have hanc := tf_anc hTr hn
  have hp := plc_le KS KL n s A
  have hcb := cbl_le KS KL n s A
  have hfl := fnd_le KS KL n s A
  refine ro_start (by decide) (Nat.le_of_ble_eq_true rfl) ?_
  intro pp ee ss mm below meth cd C0 hP hK ls hl
  obtain ⟨hx, hb, hr, hml, hown, hts, hlk⟩ := C0
  have hown : ss.vm.findClass RX5 = some mm.cls := hown
  have hl : lv_has ls 3 [(0, .ref x0), (1, .int (nI j)), (2, .int y)] := hl
  have hP : va_P D vwCl [(x0, .inr (5, [.ref w0, .ref d0, .ref k0, .ref b0, .ref p0, .ref i0, .ref ik, .ref it, .int (nI sd)])), (w0, .inr (4, [.long (lN A), .int (nI s)])), (d0, .inr (4, [.long (lN dA), .int (nI dz)])), (k0, .inr (1, [.ref kl, .ref ks, .ref kw, .int (nI n)])), (kl, .inl (cJ, 24, .inr (.inl (lF KL)))), (ks, .inl (cI, 24, .inl (nF KS))), (kw, .inl (cI, 24, .inl (nF KW))), (b0, .inr (0, [.ref bb, .ref bd, .ref bm, .ref bl, .ref bf, .ref ba, .ref bk, .ref bg, .int (nI n)])), (bb, .inl (cI, 24, .inl (nF BB))), (bd, .inl (cI, 24, .inl (nF BD))), (bm, .inl (cI, 24, .inl (nF BM))), (bl, .inl (cI, 24, .inl (nF BL))), (bf, .inl (cI, 24, .inl (nF BF))), (ba, .inl (cI, 24, .inl (oF BA))), (bk, .inl (cI, 24, .inl (oF BK))), (bg, .inl (cI, 24, .inl (nF BG))), (p0, .inr (2, [.ref h0, .int (nI nx), .int (nI pz)])), (h0, .inr (3, [.int (nI 20), .ref hl1, .ref hs1, .ref hw1, .ref hc1])), (hl1, .inl (cJ, 20 * 24, .inr (.inl (lF HL)))), (hs1, .inl (cI, 20 * 24, .inl (nF HS))), (hw1, .inl (cI, 20 * 24, .inl (nF HW))), (hc1, .inl (cI, 20, .inl (nF HC))), (i0, .inr (3, [.int (nI 2), .ref il1, .ref is1, .ref iw1, .ref ic1])), (il1, .inl (cJ, 2 * 24, .inr (.inl (lF IL)))), (is1, .inl (cI, 2 * 24, .inl (nF IS))), (iw1, .inl (cI, 2 * 24, .inl (nF IW))), (ic1, .inl (cI, 2, .inl (nF IC))), (ik, .inl (cZ, 2, .inl (nF IK))), (it, .inl (cI, 2, .inl (nF IT)))] ss.heap := hP
  refine lv_aload_n hx hb dX5_way_0 rfl (lv_at hl 0 rfl) ?_
  refine va_get (D := D) (ci := 5) (v := .ref k0) (C := RX5) (T := TX5) (N := 9) hx hb hts inX5 hown hK hP 0 rfl rfl 2 (by decide) (hts _ mf_X5_22) (fun _ h9 => h9) rfl dX5_way_1 ?_
  refine lv_iload_n hx hb dX5_way_4 rfl (lv_at hl 1 rfl) ?_
  refine ro_V (As := [.int (nI j)]) (rest := []) ⟨hx, hb, hml, hown, hts⟩ (c_X1_has l D cI cJ cZ k0 kl ks kw KL KS KW n (by omega) j (by omega)) (k_X5_69 hts ⟨Nat.le_of_ble_eq_true rfl, Nat.le_of_ble_eq_true rfl⟩) hK hP 3 rfl rfl rfl [3, 4, 5, 6] rfl rfl hl.1 rfl (Nat.le_of_ble_eq_true rfl) dX5_way_5 ⟨Nat.le_of_ble_eq_true rfl, Nat.le_of_ble_eq_true rfl⟩ ?_
  refine b_if_eq (tgt := 23) hx hb dX5_way_8 (by decide) (fun c1 => ?_) (fun c1 => ?_)
  ·
    refine lv_ldc hx hb hown (hts _ mk_X5_73) dX5_way_23 ?_
    exact ro_iret hx hb hr hlk dX5_way_25 (rfl)
  ·
    exact absurd c1 (by omega)
set_option maxHeartbeats 4000000 in
set_option maxRecDepth 100000 in
theorem c_X5_way_neg (l : Launch) (D : va_G) (cI cJ cZ : ClassId) (x0 w0 d0 k0 kl ks kw b0 bb bd bm bl bf ba bk bg p0 h0 hl1 hs1 hw1 hc1 i0 il1 is1 iw1 ic1 ik it : Nat) (A : Nat) (s : Nat) (dA : Nat) (dz : Nat) (KL : Nat → Nat) (KS : Nat → Nat) (KW : Nat → Nat) (n : Nat) (BB : Nat → Nat) (BD : Nat → Nat) (BM : Nat → Nat) (BL : Nat → Nat) (BF : Nat → Nat) (BA : Nat → Nat) (BK : Nat → Nat) (BG : Nat → Nat) (nx : Nat) (pz : Nat) (HL : Nat → Nat) (HS : Nat → Nat) (HW : Nat → Nat) (HC : Nat → Nat) (IL : Nat → Nat) (IS : Nat → Nat) (IW : Nat → Nat) (IC : Nat → Nat) (IK : Nat → Nat) (IT : Nat → Nat) (sd : Nat) (hn : n ≤ 24) (hw0 : Wf s A) (hk : ∀ k, k < n → Wf (KS k) (KL k)) (hv : ∀ k, k < n → KW k ≤ 9999) (hso : Srt KS KL n) (hTr : TrX (gapF KS KL) n BB BD BM BL BF BA BK) (hnx : nx < 20) (hpz : pz ≤ 20) (hsd : sd < 2 ^ 31) (j : Nat) (hj : j < n) (x : Int32) (hx0 : x < 0) : RO l yX5_way cX5_way 3 (some .int) (rmN 5 109) D (ty3 cI cJ cZ) [.ref x0, .int (nI j), .int x] [(x0, .inr (5, [.ref w0, .ref d0, .ref k0, .ref b0, .ref p0, .ref i0, .ref ik, .ref it, .int (nI sd)])), (w0, .inr (4, [.long (lN A), .int (nI s)])), (d0, .inr (4, [.long (lN dA), .int (nI dz)])), (k0, .inr (1, [.ref kl, .ref ks, .ref kw, .int (nI n)])), (kl, .inl (cJ, 24, .inr (.inl (lF KL)))), (ks, .inl (cI, 24, .inl (nF KS))), (kw, .inl (cI, 24, .inl (nF KW))), (b0, .inr (0, [.ref bb, .ref bd, .ref bm, .ref bl, .ref bf, .ref ba, .ref bk, .ref bg, .int (nI n)])), (bb, .inl (cI, 24, .inl (nF BB))), (bd, .inl (cI, 24, .inl (nF BD))), (bm, .inl (cI, 24, .inl (nF BM))), (bl, .inl (cI, 24, .inl (nF BL))), (bf, .inl (cI, 24, .inl (nF BF))), (ba, .inl (cI, 24, .inl (oF BA))), (bk, .inl (cI, 24, .inl (oF BK))), (bg, .inl (cI, 24, .inl (nF BG))), (p0, .inr (2, [.ref h0, .int (nI nx), .int (nI pz)])), (h0, .inr (3, [.int (nI 20), .ref hl1, .ref hs1, .ref hw1, .ref hc1])), (hl1, .inl (cJ, 20 * 24, .inr (.inl (lF HL)))), (hs1, .inl (cI, 20 * 24, .inl (nF HS))), (hw1, .inl (cI, 20 * 24, .inl (nF HW))), (hc1, .inl (cI, 20, .inl (nF HC))), (i0, .inr (3, [.int (nI 2), .ref il1, .ref is1, .ref iw1, .ref ic1])), (il1, .inl (cJ, 2 * 24, .inr (.inl (lF IL)))), (is1, .inl (cI, 2 * 24, .inl (nF IS))), (iw1, .inl (cI, 2 * 24, .inl (nF IW))), (ic1, .inl (cI, 2, .inl (nF IC))), (ik, .inl (cZ, 2, .inl (nF IK))), (it, .inl (cI, 2, .inl (nF IT)))] (.int (oI 0)) := by
  have hs8 := hw0.1
  have hA64 := hw0.2.1
  have hBK := tf_BK hTr hn
  have hDK := tf_DK hTr hn
  have hB := tf_B hTr
  have hBF := tf_BF hTr hn
  have hT := tf_T hTr hso
  have hanc := tf_anc hTr hn
  have hp := plc_le KS KL n s A
  have hcb := cbl_le KS KL n s A
  have hfl := fnd_le KS KL n s A
  refine ro_start (by decide) (Nat.le_of_ble_eq_true rfl) ?_
  intro pp ee ss mm below meth cd C0 hP hK ls hl
  obtain ⟨hx, hb, hr, hml, hown, hts, hlk⟩ := C0
  have hown : ss.vm.findClass RX5 = some mm.cls := hown
  have hl : lv_has ls 3 [(0, .ref x0), (1, .int (nI j)), (2, .int x)] := hl
  have hP : va_P D vwCl [(x0, .inr (5, [.ref w0, .ref d0, .ref k0, .ref b0, .ref p0, .ref i0, .ref ik, .ref it, .int (nI sd)])), (w0, .inr (4, [.long (lN A), .int (nI s)])), (d0, .inr (4, [.long (lN dA), .int (nI dz)])), (k0, .inr (1, [.ref kl, .ref ks, .ref kw, .int (nI n)])), (kl, .inl (cJ, 24, .inr (.inl (lF KL)))), (ks, .inl (cI, 24, .inl (nF KS))), (kw, .inl (cI, 24, .inl (nF KW))), (b0, .inr (0, [.ref bb, .ref bd, .ref bm, .ref bl, .ref bf, .ref ba, .ref bk, .ref bg, .int (nI n)])), (bb, .inl (cI, 24, .inl (nF BB))), (bd, .inl (cI, 24, .inl (nF BD))), (bm, .inl (cI, 24, .inl (nF BM))), (bl, .inl (cI, 24, .inl (nF BL))), (bf, .inl (cI, 24, .inl (nF BF))), (ba, .inl (cI, 24, .inl (oF BA))), (bk, .inl (cI, 24, .inl (oF BK))), (bg, .inl (cI, 24, .inl (nF BG))), (p0, .inr (2, [.ref h0, .int (nI nx), .int (nI pz)])), (h0, .inr (3, [.int (nI 20), .ref hl1, .ref hs1, .ref hw1, .ref hc1])), (hl1, .inl (cJ, 20 * 24, .inr (.inl (lF HL)))), (hs1, .inl (cI, 20 * 24, .inl (nF HS))), (hw1, .inl (cI, 20 * 24, .inl (nF HW))), (hc1, .inl (cI, 20, .inl (nF HC))), (i0, .inr (3, [.int (nI 2), .ref il1, .ref is1, .ref iw1, .ref ic1])), (il1, .inl (cJ, 2 * 24, .inr (.inl (lF IL)))), (is1, .inl (cI, 2 * 24, .inl (nF IS))), (iw1, .inl (cI, 2 * 24, .inl (nF IW))), (ic1, .inl (cI, 2, .inl (nF IC))), (ik, .inl (cZ, 2, .inl (nF IK))), (it, .inl (cI, 2, .inl (nF IT)))] ss.heap := hP
  refine lv_aload_n hx hb dX5_way_0 rfl (lv_at hl 0 rfl) ?_
  refine va_get (D := D) (ci := 5) (v := .ref k0) (C := RX5) (T := TX5) (N := 9) hx hb hts inX5 hown hK hP 0 rfl rfl 2 (by decide) (hts _ mf_X5_22) (fun _ h9 => h9) rfl dX5_way_1 ?_
  refine lv_iload_n hx hb dX5_way_4 rfl (lv_at hl 1 rfl) ?_
  refine ro_V (As := [.int (nI j)]) (rest := []) ⟨hx, hb, hml, hown, hts⟩ (c_X1_has l D cI cJ cZ k0 kl ks kw KL KS KW n (by omega) j (by omega)) (k_X5_69 hts ⟨Nat.le_of_ble_eq_true rfl, Nat.le_of_ble_eq_true rfl⟩) hK hP 3 rfl rfl rfl [3, 4, 5, 6] rfl rfl hl.1 rfl (Nat.le_of_ble_eq_true rfl) dX5_way_5 ⟨Nat.le_of_ble_eq_true rfl, Nat.le_of_ble_eq_true rfl⟩ ?_
  refine b_if_eq (tgt := 23) hx hb dX5_way_8 (by decide) (fun c1 => ?_) (fun c1 => ?_)
  ·
    exact absurd hj c1
  ·
    refine lv_aload_n hx hb dX5_way_11 rfl (lv_at hl 0 rfl) ?_
    refine va_get (D := D) (ci := 5) (v := .ref b0) (C := RX5) (T := TX5) (N := 9) hx hb hts inX5 hown hK hP 0 rfl rfl 3 (by decide) (hts _ mf_X5_29) (fun _ h9 => h9) rfl dX5_way_12 ?_
    refine lv_iload_n hx hb dX5_way_15 rfl (lv_at hl 1 rfl) ?_
    refine lv_iload_n hx hb dX5_way_16 rfl (lv_at hl 2 rfl) ?_
    refine ro_V (As := [.int (nI j), .int x]) (rest := []) ⟨hx, hb, hml, hown, hts⟩ (c_X0_onWay_neg l D cI cJ cZ b0 bb bd bm bl bf ba bk bg BB BD BM BL BF BA BK BG n (by omega) hBK j (by omega) x hx0) (k_X5_199 hts ⟨Nat.le_of_ble_eq_true rfl, Nat.le_of_ble_eq_true rfl⟩) hK hP 7 rfl rfl rfl [7, 8, 9, 10, 11, 12, 13, 14, 15] rfl rfl hl.1 rfl (Nat.le_of_ble_eq_true rfl) dX5_way_17 ⟨Nat.le_of_ble_eq_true rfl, Nat.le_of_ble_eq_true rfl⟩ ?_
    refine lv_goto (tgt := 25) hx hb dX5_way_20 (by decide) ?_
    exact ro_iret hx hb hr hlk dX5_way_25 (rfl)
set_option maxHeartbeats 4000000 in
set_option maxRecDepth 100000 in
theorem c_X5_way_ok (l : Launch) (D : va_G) (cI cJ cZ : ClassId) (x0 w0 d0 k0 kl ks kw b0 bb bd bm bl bf ba bk bg p0 h0 hl1 hs1 hw1 hc1 i0 il1 is1 iw1 ic1 ik it : Nat) (A : Nat) (s : Nat) (dA : Nat) (dz : Nat) (KL : Nat → Nat) (KS : Nat → Nat) (KW : Nat → Nat) (n : Nat) (BB : Nat → Nat) (BD : Nat → Nat) (BM : Nat → Nat) (BL : Nat → Nat) (BF : Nat → Nat) (BA : Nat → Nat) (BK : Nat → Nat) (BG : Nat → Nat) (nx : Nat) (pz : Nat) (HL : Nat → Nat) (HS : Nat → Nat) (HW : Nat → Nat) (HC : Nat → Nat) (IL : Nat → Nat) (IS : Nat → Nat) (IW : Nat → Nat) (IC : Nat → Nat) (IK : Nat → Nat) (IT : Nat → Nat) (sd : Nat) (hn : n ≤ 24) (hw0 : Wf s A) (hk : ∀ k, k < n → Wf (KS k) (KL k)) (hv : ∀ k, k < n → KW k ≤ 9999) (hso : Srt KS KL n) (hTr : TrX (gapF KS KL) n BB BD BM BL BF BA BK) (hnx : nx < 20) (hpz : pz ≤ 20) (hsd : sd < 2 ^ 31) (j : Nat) (hj : j < n) (t : Nat) (ht : t < 2 ^ 31) : RO l yX5_way cX5_way 3 (some .int) (rmN 5 109) D (ty3 cI cJ cZ) [.ref x0, .int (nI j), .int (nI t)] [(x0, .inr (5, [.ref w0, .ref d0, .ref k0, .ref b0, .ref p0, .ref i0, .ref ik, .ref it, .int (nI sd)])), (w0, .inr (4, [.long (lN A), .int (nI s)])), (d0, .inr (4, [.long (lN dA), .int (nI dz)])), (k0, .inr (1, [.ref kl, .ref ks, .ref kw, .int (nI n)])), (kl, .inl (cJ, 24, .inr (.inl (lF KL)))), (ks, .inl (cI, 24, .inl (nF KS))), (kw, .inl (cI, 24, .inl (nF KW))), (b0, .inr (0, [.ref bb, .ref bd, .ref bm, .ref bl, .ref bf, .ref ba, .ref bk, .ref bg, .int (nI n)])), (bb, .inl (cI, 24, .inl (nF BB))), (bd, .inl (cI, 24, .inl (nF BD))), (bm, .inl (cI, 24, .inl (nF BM))), (bl, .inl (cI, 24, .inl (nF BL))), (bf, .inl (cI, 24, .inl (nF BF))), (ba, .inl (cI, 24, .inl (oF BA))), (bk, .inl (cI, 24, .inl (oF BK))), (bg, .inl (cI, 24, .inl (nF BG))), (p0, .inr (2, [.ref h0, .int (nI nx), .int (nI pz)])), (h0, .inr (3, [.int (nI 20), .ref hl1, .ref hs1, .ref hw1, .ref hc1])), (hl1, .inl (cJ, 20 * 24, .inr (.inl (lF HL)))), (hs1, .inl (cI, 20 * 24, .inl (nF HS))), (hw1, .inl (cI, 20 * 24, .inl (nF HW))), (hc1, .inl (cI, 20, .inl (nF HC))), (i0, .inr (3, [.int (nI 2), .ref il1, .ref is1, .ref iw1, .ref ic1])), (il1, .inl (cJ, 2 * 24, .inr (.inl (lF IL)))), (is1, .inl (cI, 2 * 24, .inl (nF IS))), (iw1, .inl (cI, 2 * 24, .inl (nF IW))), (ic1, .inl (cI, 2, .inl (nF IC))), (ik, .inl (cZ, 2, .inl (nF IK))), (it, .inl (cI, 2, .inl (nF IT)))] (.int (oI (if t < dok BK BD j then anc BA (dok BK BD j - 1 - t) (BK j) else 0))) := by
  have hs8 := hw0.1
  have hA64 := hw0.2.1
  have hBK := tf_BK hTr hn
  have hDK := tf_DK hTr hn
  have hB := tf_B hTr
  have hBF := tf_BF hTr hn
  have hT := tf_T hTr hso
  have hanc := tf_anc hTr hn
  have hp := plc_le KS KL n s A
  have hcb := cbl_le KS KL n s A
  have hfl := fnd_le KS KL n s A
  refine ro_start (by decide) (Nat.le_of_ble_eq_true rfl) ?_
  intro pp ee ss mm below meth cd C0 hP hK ls hl
  obtain ⟨hx, hb, hr, hml, hown, hts, hlk⟩ := C0
  have hown : ss.vm.findClass RX5 = some mm.cls := hown
  have hl : lv_has ls 3 [(0, .ref x0), (1, .int (nI j)), (2, .int (nI t))] := hl
  have hP : va_P D vwCl [(x0, .inr (5, [.ref w0, .ref d0, .ref k0, .ref b0, .ref p0, .ref i0, .ref ik, .ref it, .int (nI sd)])), (w0, .inr (4, [.long (lN A), .int (nI s)])), (d0, .inr (4, [.long (lN dA), .int (nI dz)])), (k0, .inr (1, [.ref kl, .ref ks, .ref kw, .int (nI n)])), (kl, .inl (cJ, 24, .inr (.inl (lF KL)))), (ks, .inl (cI, 24, .inl (nF KS))), (kw, .inl (cI, 24, .inl (nF KW))), (b0, .inr (0, [.ref bb, .ref bd, .ref bm, .ref bl, .ref bf, .ref ba, .ref bk, .ref bg, .int (nI n)])), (bb, .inl (cI, 24, .inl (nF BB))), (bd, .inl (cI, 24, .inl (nF BD))), (bm, .inl (cI, 24, .inl (nF BM))), (bl, .inl (cI, 24, .inl (nF BL))), (bf, .inl (cI, 24, .inl (nF BF))), (ba, .inl (cI, 24, .inl (oF BA))), (bk, .inl (cI, 24, .inl (oF BK))), (bg, .inl (cI, 24, .inl (nF BG))), (p0, .inr (2, [.ref h0, .int (nI nx), .int (nI pz)])), (h0, .inr (3, [.int (nI 20), .ref hl1, .ref hs1, .ref hw1, .ref hc1])), (hl1, .inl (cJ, 20 * 24, .inr (.inl (lF HL)))), (hs1, .inl (cI, 20 * 24, .inl (nF HS))), (hw1, .inl (cI, 20 * 24, .inl (nF HW))), (hc1, .inl (cI, 20, .inl (nF HC))), (i0, .inr (3, [.int (nI 2), .ref il1, .ref is1, .ref iw1, .ref ic1])), (il1, .inl (cJ, 2 * 24, .inr (.inl (lF IL)))), (is1, .inl (cI, 2 * 24, .inl (nF IS))), (iw1, .inl (cI, 2 * 24, .inl (nF IW))), (ic1, .inl (cI, 2, .inl (nF IC))), (ik, .inl (cZ, 2, .inl (nF IK))), (it, .inl (cI, 2, .inl (nF IT)))] ss.heap := hP
  refine lv_aload_n hx hb dX5_way_0 rfl (lv_at hl 0 rfl) ?_
  refine va_get (D := D) (ci := 5) (v := .ref k0) (C := RX5) (T := TX5) (N := 9) hx hb hts inX5 hown hK hP 0 rfl rfl 2 (by decide) (hts _ mf_X5_22) (fun _ h9 => h9) rfl dX5_way_1 ?_
  refine lv_iload_n hx hb dX5_way_4 rfl (lv_at hl 1 rfl) ?_
  refine ro_V (As := [.int (nI j)]) (rest := []) ⟨hx, hb, hml, hown, hts⟩ (c_X1_has l D cI cJ cZ k0 kl ks kw KL KS KW n (by omega) j (by omega)) (k_X5_69 hts ⟨Nat.le_of_ble_eq_true rfl, Nat.le_of_ble_eq_true rfl⟩) hK hP 3 rfl rfl rfl [3, 4, 5, 6] rfl rfl hl.1 rfl (Nat.le_of_ble_eq_true rfl) dX5_way_5 ⟨Nat.le_of_ble_eq_true rfl, Nat.le_of_ble_eq_true rfl⟩ ?_
  refine b_if_eq (tgt := 23) hx hb dX5_way_8 (by decide) (fun c1 => ?_) (fun c1 => ?_)
  ·
    exact absurd hj c1
  ·
    refine lv_aload_n hx hb dX5_way_11 rfl (lv_at hl 0 rfl) ?_
    refine va_get (D := D) (ci := 5) (v := .ref b0) (C := RX5) (T := TX5) (N := 9) hx hb hts inX5 hown hK hP 0 rfl rfl 3 (by decide) (hts _ mf_X5_29) (fun _ h9 => h9) rfl dX5_way_12 ?_
    refine lv_iload_n hx hb dX5_way_15 rfl (lv_at hl 1 rfl) ?_
    refine lv_iload_n hx hb dX5_way_16 rfl (lv_at hl 2 rfl) ?_
    refine ro_V (As := [.int (nI j), .int (nI t)]) (rest := []) ⟨hx, hb, hml, hown, hts⟩ (c_X0_onWay l D cI cJ cZ b0 bb bd bm bl bf ba bk bg BB BD BM BL BF BA BK BG n (by omega) hBK j t (by omega) (hDK _ (by omega)) (by omega) (hanc _ (by omega))) (k_X5_199 hts ⟨Nat.le_of_ble_eq_true rfl, Nat.le_of_ble_eq_true rfl⟩) hK hP 7 rfl rfl rfl [7, 8, 9, 10, 11, 12, 13, 14, 15] rfl rfl hl.1 rfl (Nat.le_of_ble_eq_true rfl) dX5_way_17 ⟨Nat.le_of_ble_eq_true rfl, Nat.le_of_ble_eq_true rfl⟩ ?_
    refine lv_goto (tgt := 25) hx hb dX5_way_20 (by decide) ?_
    exact ro_iret hx hb hr hlk dX5_way_25 (rfl)
set_option maxHeartbeats 4000000 in
set_option maxRecDepth 100000 in
theorem c_X5_unlike_kneg (l : Launch) (D : va_G) (cI cJ cZ : ClassId) (x0 w0 d0 k0 kl ks kw b0 bb bd bm bl bf ba bk bg p0 h0 hl1 hs1 hw1 hc1 i0 il1 is1 iw1 ic1 ik it : Nat) (A : Nat) (s : Nat) (dA : Nat) (dz : Nat) (KL : Nat → Nat) (KS : Nat → Nat) (KW : Nat → Nat) (n : Nat) (BB : Nat → Nat) (BD : Nat → Nat) (BM : Nat → Nat) (BL : Nat → Nat) (BF : Nat → Nat) (BA : Nat → Nat) (BK : Nat → Nat) (BG : Nat → Nat) (nx : Nat) (pz : Nat) (HL : Nat → Nat) (HS : Nat → Nat) (HW : Nat → Nat) (HC : Nat → Nat) (IL : Nat → Nat) (IS : Nat → Nat) (IW : Nat → Nat) (IC : Nat → Nat) (IK : Nat → Nat) (IT : Nat → Nat) (sd : Nat) (hn : n ≤ 24) (hw0 : Wf s A) (hk : ∀ k, k < n → Wf (KS k) (KL k)) (hv : ∀ k, k < n → KW k ≤ 9999) (hso : Srt KS KL n) (hTr : TrX (gapF KS KL) n BB BD BM BL BF BA BK) (hnx : nx < 20) (hpz : pz ≤ 20) (hsd : sd < 2 ^ 31) (x y : Int32) (hx0 : x < 0) : RO l yX5_unlike cX5_unlike 3 (some .int) (rmN 3 72) D (ty3 cI cJ cZ) [.ref x0, .int x, .int y] [(x0, .inr (5, [.ref w0, .ref d0, .ref k0, .ref b0, .ref p0, .ref i0, .ref ik, .ref it, .int (nI sd)])), (w0, .inr (4, [.long (lN A), .int (nI s)])), (d0, .inr (4, [.long (lN dA), .int (nI dz)])), (k0, .inr (1, [.ref kl, .ref ks, .ref kw, .int (nI n)])), (kl, .inl (cJ, 24, .inr (.inl (lF KL)))), (ks, .inl (cI, 24, .inl (nF KS))), (kw, .inl (cI, 24, .inl (nF KW))), (b0, .inr (0, [.ref bb, .ref bd, .ref bm, .ref bl, .ref bf, .ref ba, .ref bk, .ref bg, .int (nI n)])), (bb, .inl (cI, 24, .inl (nF BB))), (bd, .inl (cI, 24, .inl (nF BD))), (bm, .inl (cI, 24, .inl (nF BM))), (bl, .inl (cI, 24, .inl (nF BL))), (bf, .inl (cI, 24, .inl (nF BF))), (ba, .inl (cI, 24, .inl (oF BA))), (bk, .inl (cI, 24, .inl (oF BK))), (bg, .inl (cI, 24, .inl (nF BG))), (p0, .inr (2, [.ref h0, .int (nI nx), .int (nI pz)])), (h0, .inr (3, [.int (nI 20), .ref hl1, .ref hs1, .ref hw1, .ref hc1])), (hl1, .inl (cJ, 20 * 24, .inr (.inl (lF HL)))), (hs1, .inl (cI, 20 * 24, .inl (nF HS))), (hw1, .inl (cI, 20 * 24, .inl (nF HW))), (hc1, .inl (cI, 20, .inl (nF HC))), (i0, .inr (3, [.int (nI 2), .ref il1, .ref is1, .ref iw1, .ref ic1])), (il1, .inl (cJ, 2 * 24, .inr (.inl (lF IL)))), (is1, .inl (cI, 2 * 24, .inl (nF IS))), (iw1, .inl (cI, 2 * 24, .inl (nF IW))), (ic1, .inl (cI, 2, .inl (nF IC))), (ik, .inl (cZ, 2, .inl (nF IK))), (it, .inl (cI, 2, .inl (nF IT)))] (.int (-1000000001)) := by
  have hs8 := hw0.1
  have hA64 := hw0.2.1
  have hBK := tf_BK hTr hn
  have hDK := tf_DK hTr hn
  have hB := tf_B hTr
  have hBF := tf_BF hTr hn
  have hT := tf_T hTr hso
  have hanc := tf_anc hTr hn
  have hp := plc_le KS KL n s A
  have hcb := cbl_le KS KL n s A
  have hfl := fnd_le KS KL n s A
  refine ro_start (by decide) (Nat.le_of_ble_eq_true rfl) ?_
  intro pp ee ss mm below meth cd C0 hP hK ls hl
  obtain ⟨hx, hb, hr, hml, hown, hts, hlk⟩ := C0
  have hown : ss.vm.findClass RX5 = some mm.cls := hown
  have hl : lv_has ls 3 [(0, .ref x0), (1, .int x), (2, .int y)] := hl
  have hP : va_P D vwCl [(x0, .inr (5, [.ref w0, .ref d0, .ref k0, .ref b0, .ref p0, .ref i0, .ref ik, .ref it, .int (nI sd)])), (w0, .inr (4, [.long (lN A), .int (nI s)])), (d0, .inr (4, [.long (lN dA), .int (nI dz)])), (k0, .inr (1, [.ref kl, .ref ks, .ref kw, .int (nI n)])), (kl, .inl (cJ, 24, .inr (.inl (lF KL)))), (ks, .inl (cI, 24, .inl (nF KS))), (kw, .inl (cI, 24, .inl (nF KW))), (b0, .inr (0, [.ref bb, .ref bd, .ref bm, .ref bl, .ref bf, .ref ba, .ref bk, .ref bg, .int (nI n)])), (bb, .inl (cI, 24, .inl (nF BB))), (bd, .inl (cI, 24, .inl (nF BD))), (bm, .inl (cI, 24, .inl (nF BM))), (bl, .inl (cI, 24, .inl (nF BL))), (bf, .inl (cI, 24, .inl (nF BF))), (ba, .inl (cI, 24, .inl (oF BA))), (bk, .inl (cI, 24, .inl (oF BK))), (bg, .inl (cI, 24, .inl (nF BG))), (p0, .inr (2, [.ref h0, .int (nI nx), .int (nI pz)])), (h0, .inr (3, [.int (nI 20), .ref hl1, .ref hs1, .ref hw1, .ref hc1])), (hl1, .inl (cJ, 20 * 24, .inr (.inl (lF HL)))), (hs1, .inl (cI, 20 * 24, .inl (nF HS))), (hw1, .inl (cI, 20 * 24, .inl (nF HW))), (hc1, .inl (cI, 20, .inl (nF HC))), (i0, .inr (3, [.int (nI 2), .ref il1, .ref is1, .ref iw1, .ref ic1])), (il1, .inl (cJ, 2 * 24, .inr (.inl (lF IL)))), (is1, .inl (cI, 2 * 24, .inl (nF IS))), (iw1, .inl (cI, 2 * 24, .inl (nF IW))), (ic1, .inl (cI, 2, .inl (nF IC))), (ik, .inl (cZ, 2, .inl (nF IK))), (it, .inl (cI, 2, .inl (nF IT)))] ss.heap := hP
  refine lv_aload_n hx hb dX5_unlike_0 rfl (lv_at hl 0 rfl) ?_
  refine va_get (D := D) (ci := 5) (v := .ref k0) (C := RX5) (T := TX5) (N := 9) hx hb hts inX5 hown hK hP 0 rfl rfl 2 (by decide) (hts _ mf_X5_22) (fun _ h9 => h9) rfl dX5_unlike_1 ?_
  refine lv_iload_n hx hb dX5_unlike_4 rfl (lv_at hl 1 rfl) ?_
  refine ro_V (As := [.int x]) (rest := []) ⟨hx, hb, hml, hown, hts⟩ (c_X1_has_neg l D cI cJ cZ k0 kl ks kw KL KS KW n (by omega) x hx0) (k_X5_69 hts ⟨Nat.le_of_ble_eq_true rfl, Nat.le_of_ble_eq_true rfl⟩) hK hP 3 rfl rfl rfl [3, 4, 5, 6] rfl rfl hl.1 rfl (Nat.le_of_ble_eq_true rfl) dX5_unlike_5 ⟨Nat.le_of_ble_eq_true rfl, Nat.le_of_ble_eq_true rfl⟩ ?_
  refine n_if_eq (tgt := 27) hx hb dX5_unlike_8 (by decide) (by decide) (fun _ => ?_) (fun h9 => absurd rfl h9)
  refine lv_ldc hx hb hown (hts _ mk_X5_73) dX5_unlike_27 ?_
  exact ro_iret hx hb hr hlk dX5_unlike_29 (rfl)
set_option maxHeartbeats 4000000 in
set_option maxRecDepth 100000 in
theorem c_X5_unlike_kout (l : Launch) (D : va_G) (cI cJ cZ : ClassId) (x0 w0 d0 k0 kl ks kw b0 bb bd bm bl bf ba bk bg p0 h0 hl1 hs1 hw1 hc1 i0 il1 is1 iw1 ic1 ik it : Nat) (A : Nat) (s : Nat) (dA : Nat) (dz : Nat) (KL : Nat → Nat) (KS : Nat → Nat) (KW : Nat → Nat) (n : Nat) (BB : Nat → Nat) (BD : Nat → Nat) (BM : Nat → Nat) (BL : Nat → Nat) (BF : Nat → Nat) (BA : Nat → Nat) (BK : Nat → Nat) (BG : Nat → Nat) (nx : Nat) (pz : Nat) (HL : Nat → Nat) (HS : Nat → Nat) (HW : Nat → Nat) (HC : Nat → Nat) (IL : Nat → Nat) (IS : Nat → Nat) (IW : Nat → Nat) (IC : Nat → Nat) (IK : Nat → Nat) (IT : Nat → Nat) (sd : Nat) (hn : n ≤ 24) (hw0 : Wf s A) (hk : ∀ k, k < n → Wf (KS k) (KL k)) (hv : ∀ k, k < n → KW k ≤ 9999) (hso : Srt KS KL n) (hTr : TrX (gapF KS KL) n BB BD BM BL BF BA BK) (hnx : nx < 20) (hpz : pz ≤ 20) (hsd : sd < 2 ^ 31) (j : Nat) (y : Int32) (hj : j < 2 ^ 31) (hjo : n ≤ j) : RO l yX5_unlike cX5_unlike 3 (some .int) (rmN 3 72) D (ty3 cI cJ cZ) [.ref x0, .int (nI j), .int y] [(x0, .inr (5, [.ref w0, .ref d0, .ref k0, .ref b0, .ref p0, .ref i0, .ref ik, .ref it, .int (nI sd)])), (w0, .inr (4, [.long (lN A), .int (nI s)])), (d0, .inr (4, [.long (lN dA), .int (nI dz)])), (k0, .inr (1, [.ref kl, .ref ks, .ref kw, .int (nI n)])), (kl, .inl (cJ, 24, .inr (.inl (lF KL)))), (ks, .inl (cI, 24, .inl (nF KS))), (kw, .inl (cI, 24, .inl (nF KW))), (b0, .inr (0, [.ref bb, .ref bd, .ref bm, .ref bl, .ref bf, .ref ba, .ref bk, .ref bg, .int (nI n)])), (bb, .inl (cI, 24, .inl (nF BB))), (bd, .inl (cI, 24, .inl (nF BD))), (bm, .inl (cI, 24, .inl (nF BM))), (bl, .inl (cI, 24, .inl (nF BL))), (bf, .inl (cI, 24, .inl (nF BF))), (ba, .inl (cI, 24, .inl (oF BA))), (bk, .inl (cI, 24, .inl (oF BK))), (bg, .inl (cI, 24, .inl (nF BG))), (p0, .inr (2, [.ref h0, .int (nI nx), .int (nI pz)])), (h0, .inr (3, [.int (nI 20), .ref hl1, .ref hs1, .ref hw1, .ref hc1])), (hl1, .inl (cJ, 20 * 24, .inr (.inl (lF HL)))), (hs1, .inl (cI, 20 * 24, .inl (nF HS))), (hw1, .inl (cI, 20 * 24, .inl (nF HW))), (hc1, .inl (cI, 20, .inl (nF HC))), (i0, .inr (3, [.int (nI 2), .ref il1, .ref is1, .ref iw1, .ref ic1])), (il1, .inl (cJ, 2 * 24, .inr (.inl (lF IL)))), (is1, .inl (cI, 2 * 24, .inl (nF IS))), (iw1, .inl (cI, 2 * 24, .inl (nF IW))), (ic1, .inl (cI, 2, .inl (nF IC))), (ik, .inl (cZ, 2, .inl (nF IK))), (it, .inl (cI, 2, .inl (nF IT)))] (.int (-1000000001)) := by
  have hs8 := hw0.1
  have hA64 := hw0.2.1
  have hBK := tf_BK hTr hn
  have hDK := tf_DK hTr hn
  have hB := tf_B hTr
  have hBF := tf_BF hTr hn
  have hT := tf_T hTr hso
  have hanc := tf_anc hTr hn
  have hp := plc_le KS KL n s A
  have hcb := cbl_le KS KL n s A
  have hfl := fnd_le KS KL n s A
  refine ro_start (by decide) (Nat.le_of_ble_eq_true rfl) ?_
  intro pp ee ss mm below meth cd C0 hP hK ls hl
  obtain ⟨hx, hb, hr, hml, hown, hts, hlk⟩ := C0
  have hown : ss.vm.findClass RX5 = some mm.cls := hown
  have hl : lv_has ls 3 [(0, .ref x0), (1, .int (nI j)), (2, .int y)] := hl
  have hP : va_P D vwCl [(x0, .inr (5, [.ref w0, .ref d0, .ref k0, .ref b0, .ref p0, .ref i0, .ref ik, .ref it, .int (nI sd)])), (w0, .inr (4, [.long (lN A), .int (nI s)])), (d0, .inr (4, [.long (lN dA), .int (nI dz)])), (k0, .inr (1, [.ref kl, .ref ks, .ref kw, .int (nI n)])), (kl, .inl (cJ, 24, .inr (.inl (lF KL)))), (ks, .inl (cI, 24, .inl (nF KS))), (kw, .inl (cI, 24, .inl (nF KW))), (b0, .inr (0, [.ref bb, .ref bd, .ref bm, .ref bl, .ref bf, .ref ba, .ref bk, .ref bg, .int (nI n)])), (bb, .inl (cI, 24, .inl (nF BB))), (bd, .inl (cI, 24, .inl (nF BD))), (bm, .inl (cI, 24, .inl (nF BM))), (bl, .inl (cI, 24, .inl (nF BL))), (bf, .inl (cI, 24, .inl (nF BF))), (ba, .inl (cI, 24, .inl (oF BA))), (bk, .inl (cI, 24, .inl (oF BK))), (bg, .inl (cI, 24, .inl (nF BG))), (p0, .inr (2, [.ref h0, .int (nI nx), .int (nI pz)])), (h0, .inr (3, [.int (nI 20), .ref hl1, .ref hs1, .ref hw1, .ref hc1])), (hl1, .inl (cJ, 20 * 24, .inr (.inl (lF HL)))), (hs1, .inl (cI, 20 * 24, .inl (nF HS))), (hw1, .inl (cI, 20 * 24, .inl (nF HW))), (hc1, .inl (cI, 20, .inl (nF HC))), (i0, .inr (3, [.int (nI 2), .ref il1, .ref is1, .ref iw1, .ref ic1])), (il1, .inl (cJ, 2 * 24, .inr (.inl (lF IL)))), (is1, .inl (cI, 2 * 24, .inl (nF IS))), (iw1, .inl (cI, 2 * 24, .inl (nF IW))), (ic1, .inl (cI, 2, .inl (nF IC))), (ik, .inl (cZ, 2, .inl (nF IK))), (it, .inl (cI, 2, .inl (nF IT)))] ss.heap := hP
  refine lv_aload_n hx hb dX5_unlike_0 rfl (lv_at hl 0 rfl) ?_
  refine va_get (D := D) (ci := 5) (v := .ref k0) (C := RX5) (T := TX5) (N := 9) hx hb hts inX5 hown hK hP 0 rfl rfl 2 (by decide) (hts _ mf_X5_22) (fun _ h9 => h9) rfl dX5_unlike_1 ?_
  refine lv_iload_n hx hb dX5_unlike_4 rfl (lv_at hl 1 rfl) ?_
  refine ro_V (As := [.int (nI j)]) (rest := []) ⟨hx, hb, hml, hown, hts⟩ (c_X1_has l D cI cJ cZ k0 kl ks kw KL KS KW n (by omega) j (by omega)) (k_X5_69 hts ⟨Nat.le_of_ble_eq_true rfl, Nat.le_of_ble_eq_true rfl⟩) hK hP 3 rfl rfl rfl [3, 4, 5, 6] rfl rfl hl.1 rfl (Nat.le_of_ble_eq_true rfl) dX5_unlike_5 ⟨Nat.le_of_ble_eq_true rfl, Nat.le_of_ble_eq_true rfl⟩ ?_
  refine b_if_eq (tgt := 27) hx hb dX5_unlike_8 (by decide) (fun c1 => ?_) (fun c1 => ?_)
  ·
    refine lv_ldc hx hb hown (hts _ mk_X5_73) dX5_unlike_27 ?_
    exact ro_iret hx hb hr hlk dX5_unlike_29 (rfl)
  ·
    exact absurd c1 (by omega)
set_option maxHeartbeats 4000000 in
set_option maxRecDepth 100000 in
theorem c_X5_unlike_jneg (l : Launch) (D : va_G) (cI cJ cZ : ClassId) (x0 w0 d0 k0 kl ks kw b0 bb bd bm bl bf ba bk bg p0 h0 hl1 hs1 hw1 hc1 i0 il1 is1 iw1 ic1 ik it : Nat) (A : Nat) (s : Nat) (dA : Nat) (dz : Nat) (KL : Nat → Nat) (KS : Nat → Nat) (KW : Nat → Nat) (n : Nat) (BB : Nat → Nat) (BD : Nat → Nat) (BM : Nat → Nat) (BL : Nat → Nat) (BF : Nat → Nat) (BA : Nat → Nat) (BK : Nat → Nat) (BG : Nat → Nat) (nx : Nat) (pz : Nat) (HL : Nat → Nat) (HS : Nat → Nat) (HW : Nat → Nat) (HC : Nat → Nat) (IL : Nat → Nat) (IS : Nat → Nat) (IW : Nat → Nat) (IC : Nat → Nat) (IK : Nat → Nat) (IT : Nat → Nat) (sd : Nat) (hn : n ≤ 24) (hw0 : Wf s A) (hk : ∀ k, k < n → Wf (KS k) (KL k)) (hv : ∀ k, k < n → KW k ≤ 9999) (hso : Srt KS KL n) (hTr : TrX (gapF KS KL) n BB BD BM BL BF BA BK) (hnx : nx < 20) (hpz : pz ≤ 20) (hsd : sd < 2 ^ 31) (j : Nat) (hj : j < n) (x : Int32) (hx0 : x < 0) : RO l yX5_unlike cX5_unlike 3 (some .int) (rmN 3 72) D (ty3 cI cJ cZ) [.ref x0, .int (nI j), .int x] [(x0, .inr (5, [.ref w0, .ref d0, .ref k0, .ref b0, .ref p0, .ref i0, .ref ik, .ref it, .int (nI sd)])), (w0, .inr (4, [.long (lN A), .int (nI s)])), (d0, .inr (4, [.long (lN dA), .int (nI dz)])), (k0, .inr (1, [.ref kl, .ref ks, .ref kw, .int (nI n)])), (kl, .inl (cJ, 24, .inr (.inl (lF KL)))), (ks, .inl (cI, 24, .inl (nF KS))), (kw, .inl (cI, 24, .inl (nF KW))), (b0, .inr (0, [.ref bb, .ref bd, .ref bm, .ref bl, .ref bf, .ref ba, .ref bk, .ref bg, .int (nI n)])), (bb, .inl (cI, 24, .inl (nF BB))), (bd, .inl (cI, 24, .inl (nF BD))), (bm, .inl (cI, 24, .inl (nF BM))), (bl, .inl (cI, 24, .inl (nF BL))), (bf, .inl (cI, 24, .inl (nF BF))), (ba, .inl (cI, 24, .inl (oF BA))), (bk, .inl (cI, 24, .inl (oF BK))), (bg, .inl (cI, 24, .inl (nF BG))), (p0, .inr (2, [.ref h0, .int (nI nx), .int (nI pz)])), (h0, .inr (3, [.int (nI 20), .ref hl1, .ref hs1, .ref hw1, .ref hc1])), (hl1, .inl (cJ, 20 * 24, .inr (.inl (lF HL)))), (hs1, .inl (cI, 20 * 24, .inl (nF HS))), (hw1, .inl (cI, 20 * 24, .inl (nF HW))), (hc1, .inl (cI, 20, .inl (nF HC))), (i0, .inr (3, [.int (nI 2), .ref il1, .ref is1, .ref iw1, .ref ic1])), (il1, .inl (cJ, 2 * 24, .inr (.inl (lF IL)))), (is1, .inl (cI, 2 * 24, .inl (nF IS))), (iw1, .inl (cI, 2 * 24, .inl (nF IW))), (ic1, .inl (cI, 2, .inl (nF IC))), (ik, .inl (cZ, 2, .inl (nF IK))), (it, .inl (cI, 2, .inl (nF IT)))] (.int (-1000000001)) := by
  have hs8 := hw0.1
  have hA64 := hw0.2.1
  have hBK := tf_BK hTr hn
  have hDK := tf_DK hTr hn
  have hB := tf_B hTr
  have hBF := tf_BF hTr hn
  have hT := tf_T hTr hso
  have hanc := tf_anc hTr hn
  have hp := plc_le KS KL n s A
  have hcb := cbl_le KS KL n s A
  have hfl := fnd_le KS KL n s A
  refine ro_start (by decide) (Nat.le_of_ble_eq_true rfl) ?_
  intro pp ee ss mm below meth cd C0 hP hK ls hl
  obtain ⟨hx, hb, hr, hml, hown, hts, hlk⟩ := C0
  have hown : ss.vm.findClass RX5 = some mm.cls := hown
  have hl : lv_has ls 3 [(0, .ref x0), (1, .int (nI j)), (2, .int x)] := hl
  have hP : va_P D vwCl [(x0, .inr (5, [.ref w0, .ref d0, .ref k0, .ref b0, .ref p0, .ref i0, .ref ik, .ref it, .int (nI sd)])), (w0, .inr (4, [.long (lN A), .int (nI s)])), (d0, .inr (4, [.long (lN dA), .int (nI dz)])), (k0, .inr (1, [.ref kl, .ref ks, .ref kw, .int (nI n)])), (kl, .inl (cJ, 24, .inr (.inl (lF KL)))), (ks, .inl (cI, 24, .inl (nF KS))), (kw, .inl (cI, 24, .inl (nF KW))), (b0, .inr (0, [.ref bb, .ref bd, .ref bm, .ref bl, .ref bf, .ref ba, .ref bk, .ref bg, .int (nI n)])), (bb, .inl (cI, 24, .inl (nF BB))), (bd, .inl (cI, 24, .inl (nF BD))), (bm, .inl (cI, 24, .inl (nF BM))), (bl, .inl (cI, 24, .inl (nF BL))), (bf, .inl (cI, 24, .inl (nF BF))), (ba, .inl (cI, 24, .inl (oF BA))), (bk, .inl (cI, 24, .inl (oF BK))), (bg, .inl (cI, 24, .inl (nF BG))), (p0, .inr (2, [.ref h0, .int (nI nx), .int (nI pz)])), (h0, .inr (3, [.int (nI 20), .ref hl1, .ref hs1, .ref hw1, .ref hc1])), (hl1, .inl (cJ, 20 * 24, .inr (.inl (lF HL)))), (hs1, .inl (cI, 20 * 24, .inl (nF HS))), (hw1, .inl (cI, 20 * 24, .inl (nF HW))), (hc1, .inl (cI, 20, .inl (nF HC))), (i0, .inr (3, [.int (nI 2), .ref il1, .ref is1, .ref iw1, .ref ic1])), (il1, .inl (cJ, 2 * 24, .inr (.inl (lF IL)))), (is1, .inl (cI, 2 * 24, .inl (nF IS))), (iw1, .inl (cI, 2 * 24, .inl (nF IW))), (ic1, .inl (cI, 2, .inl (nF IC))), (ik, .inl (cZ, 2, .inl (nF IK))), (it, .inl (cI, 2, .inl (nF IT)))] ss.heap := hP
  refine lv_aload_n hx hb dX5_unlike_0 rfl (lv_at hl 0 rfl) ?_
  refine va_get (D := D) (ci := 5) (v := .ref k0) (C := RX5) (T := TX5) (N := 9) hx hb hts inX5 hown hK hP 0 rfl rfl 2 (by decide) (hts _ mf_X5_22) (fun _ h9 => h9) rfl dX5_unlike_1 ?_
  refine lv_iload_n hx hb dX5_unlike_4 rfl (lv_at hl 1 rfl) ?_
  refine ro_V (As := [.int (nI j)]) (rest := []) ⟨hx, hb, hml, hown, hts⟩ (c_X1_has l D cI cJ cZ k0 kl ks kw KL KS KW n (by omega) j (by omega)) (k_X5_69 hts ⟨Nat.le_of_ble_eq_true rfl, Nat.le_of_ble_eq_true rfl⟩) hK hP 3 rfl rfl rfl [3, 4, 5, 6] rfl rfl hl.1 rfl (Nat.le_of_ble_eq_true rfl) dX5_unlike_5 ⟨Nat.le_of_ble_eq_true rfl, Nat.le_of_ble_eq_true rfl⟩ ?_
  refine b_if_eq (tgt := 27) hx hb dX5_unlike_8 (by decide) (fun c1 => ?_) (fun c1 => ?_)
  ·
    exact absurd hj c1
  ·
    refine lv_aload_n hx hb dX5_unlike_11 rfl (lv_at hl 0 rfl) ?_
    refine va_get (D := D) (ci := 5) (v := .ref k0) (C := RX5) (T := TX5) (N := 9) hx hb hts inX5 hown hK hP 0 rfl rfl 2 (by decide) (hts _ mf_X5_22) (fun _ h9 => h9) rfl dX5_unlike_12 ?_
    refine lv_iload_n hx hb dX5_unlike_15 rfl (lv_at hl 2 rfl) ?_
    refine ro_V (As := [.int x]) (rest := []) ⟨hx, hb, hml, hown, hts⟩ (c_X1_has_neg l D cI cJ cZ k0 kl ks kw KL KS KW n (by omega) x hx0) (k_X5_69 hts ⟨Nat.le_of_ble_eq_true rfl, Nat.le_of_ble_eq_true rfl⟩) hK hP 3 rfl rfl rfl [3, 4, 5, 6] rfl rfl hl.1 rfl (Nat.le_of_ble_eq_true rfl) dX5_unlike_16 ⟨Nat.le_of_ble_eq_true rfl, Nat.le_of_ble_eq_true rfl⟩ ?_
    refine n_if_eq (tgt := 27) hx hb dX5_unlike_19 (by decide) (by decide) (fun _ => ?_) (fun h9 => absurd rfl h9)
    refine lv_ldc hx hb hown (hts _ mk_X5_73) dX5_unlike_27 ?_
    exact ro_iret hx hb hr hlk dX5_unlike_29 (rfl)
set_option maxHeartbeats 4000000 in
set_option maxRecDepth 100000 in
theorem c_X5_unlike_jout (l : Launch) (D : va_G) (cI cJ cZ : ClassId) (x0 w0 d0 k0 kl ks kw b0 bb bd bm bl bf ba bk bg p0 h0 hl1 hs1 hw1 hc1 i0 il1 is1 iw1 ic1 ik it : Nat) (A : Nat) (s : Nat) (dA : Nat) (dz : Nat) (KL : Nat → Nat) (KS : Nat → Nat) (KW : Nat → Nat) (n : Nat) (BB : Nat → Nat) (BD : Nat → Nat) (BM : Nat → Nat) (BL : Nat → Nat) (BF : Nat → Nat) (BA : Nat → Nat) (BK : Nat → Nat) (BG : Nat → Nat) (nx : Nat) (pz : Nat) (HL : Nat → Nat) (HS : Nat → Nat) (HW : Nat → Nat) (HC : Nat → Nat) (IL : Nat → Nat) (IS : Nat → Nat) (IW : Nat → Nat) (IC : Nat → Nat) (IK : Nat → Nat) (IT : Nat → Nat) (sd : Nat) (hn : n ≤ 24) (hw0 : Wf s A) (hk : ∀ k, k < n → Wf (KS k) (KL k)) (hv : ∀ k, k < n → KW k ≤ 9999) (hso : Srt KS KL n) (hTr : TrX (gapF KS KL) n BB BD BM BL BF BA BK) (hnx : nx < 20) (hpz : pz ≤ 20) (hsd : sd < 2 ^ 31) (j : Nat) (hj : j < n) (t : Nat) (ht : t < 2 ^ 31) (hto : n ≤ t) : RO l yX5_unlike cX5_unlike 3 (some .int) (rmN 3 72) D (ty3 cI cJ cZ) [.ref x0, .int (nI j), .int (nI t)] [(x0, .inr (5, [.ref w0, .ref d0, .ref k0, .ref b0, .ref p0, .ref i0, .ref ik, .ref it, .int (nI sd)])), (w0, .inr (4, [.long (lN A), .int (nI s)])), (d0, .inr (4, [.long (lN dA), .int (nI dz)])), (k0, .inr (1, [.ref kl, .ref ks, .ref kw, .int (nI n)])), (kl, .inl (cJ, 24, .inr (.inl (lF KL)))), (ks, .inl (cI, 24, .inl (nF KS))), (kw, .inl (cI, 24, .inl (nF KW))), (b0, .inr (0, [.ref bb, .ref bd, .ref bm, .ref bl, .ref bf, .ref ba, .ref bk, .ref bg, .int (nI n)])), (bb, .inl (cI, 24, .inl (nF BB))), (bd, .inl (cI, 24, .inl (nF BD))), (bm, .inl (cI, 24, .inl (nF BM))), (bl, .inl (cI, 24, .inl (nF BL))), (bf, .inl (cI, 24, .inl (nF BF))), (ba, .inl (cI, 24, .inl (oF BA))), (bk, .inl (cI, 24, .inl (oF BK))), (bg, .inl (cI, 24, .inl (nF BG))), (p0, .inr (2, [.ref h0, .int (nI nx), .int (nI pz)])), (h0, .inr (3, [.int (nI 20), .ref hl1, .ref hs1, .ref hw1, .ref hc1])), (hl1, .inl (cJ, 20 * 24, .inr (.inl (lF HL)))), (hs1, .inl (cI, 20 * 24, .inl (nF HS))), (hw1, .inl (cI, 20 * 24, .inl (nF HW))), (hc1, .inl (cI, 20, .inl (nF HC))), (i0, .inr (3, [.int (nI 2), .ref il1, .ref is1, .ref iw1, .ref ic1])), (il1, .inl (cJ, 2 * 24, .inr (.inl (lF IL)))), (is1, .inl (cI, 2 * 24, .inl (nF IS))), (iw1, .inl (cI, 2 * 24, .inl (nF IW))), (ic1, .inl (cI, 2, .inl (nF IC))), (ik, .inl (cZ, 2, .inl (nF IK))), (it, .inl (cI, 2, .inl (nF IT)))] (.int (-1000000001)) := by
  have hs8 := hw0.1
  have hA64 := hw0.2.1
  have hBK := tf_BK hTr hn
  have hDK := tf_DK hTr hn
  have hB := tf_B hTr
  have hBF := tf_BF hTr hn
  have hT := tf_T hTr hso
  have hanc := tf_anc hTr hn
  have hp := plc_le KS KL n s A
  have hcb := cbl_le KS KL n s A
  have hfl := fnd_le KS KL n s A
  refine ro_start (by decide) (Nat.le_of_ble_eq_true rfl) ?_
  intro pp ee ss mm below meth cd C0 hP hK ls hl
  obtain ⟨hx, hb, hr, hml, hown, hts, hlk⟩ := C0
  have hown : ss.vm.findClass RX5 = some mm.cls := hown
  have hl : lv_has ls 3 [(0, .ref x0), (1, .int (nI j)), (2, .int (nI t))] := hl
  have hP : va_P D vwCl [(x0, .inr (5, [.ref w0, .ref d0, .ref k0, .ref b0, .ref p0, .ref i0, .ref ik, .ref it, .int (nI sd)])), (w0, .inr (4, [.long (lN A), .int (nI s)])), (d0, .inr (4, [.long (lN dA), .int (nI dz)])), (k0, .inr (1, [.ref kl, .ref ks, .ref kw, .int (nI n)])), (kl, .inl (cJ, 24, .inr (.inl (lF KL)))), (ks, .inl (cI, 24, .inl (nF KS))), (kw, .inl (cI, 24, .inl (nF KW))), (b0, .inr (0, [.ref bb, .ref bd, .ref bm, .ref bl, .ref bf, .ref ba, .ref bk, .ref bg, .int (nI n)])), (bb, .inl (cI, 24, .inl (nF BB))), (bd, .inl (cI, 24, .inl (nF BD))), (bm, .inl (cI, 24, .inl (nF BM))), (bl, .inl (cI, 24, .inl (nF BL))), (bf, .inl (cI, 24, .inl (nF BF))), (ba, .inl (cI, 24, .inl (oF BA))), (bk, .inl (cI, 24, .inl (oF BK))), (bg, .inl (cI, 24, .inl (nF BG))), (p0, .inr (2, [.ref h0, .int (nI nx), .int (nI pz)])), (h0, .inr (3, [.int (nI 20), .ref hl1, .ref hs1, .ref hw1, .ref hc1])), (hl1, .inl (cJ, 20 * 24, .inr (.inl (lF HL)))), (hs1, .inl (cI, 20 * 24, .inl (nF HS))), (hw1, .inl (cI, 20 * 24, .inl (nF HW))), (hc1, .inl (cI, 20, .inl (nF HC))), (i0, .inr (3, [.int (nI 2), .ref il1, .ref is1, .ref iw1, .ref ic1])), (il1, .inl (cJ, 2 * 24, .inr (.inl (lF IL)))), (is1, .inl (cI, 2 * 24, .inl (nF IS))), (iw1, .inl (cI, 2 * 24, .inl (nF IW))), (ic1, .inl (cI, 2, .inl (nF IC))), (ik, .inl (cZ, 2, .inl (nF IK))), (it, .inl (cI, 2, .inl (nF IT)))] ss.heap := hP
  refine lv_aload_n hx hb dX5_unlike_0 rfl (lv_at hl 0 rfl) ?_
  refine va_get (D := D) (ci := 5) (v := .ref k0) (C := RX5) (T := TX5) (N := 9) hx hb hts inX5 hown hK hP 0 rfl rfl 2 (by decide) (hts _ mf_X5_22) (fun _ h9 => h9) rfl dX5_unlike_1 ?_
  refine lv_iload_n hx hb dX5_unlike_4 rfl (lv_at hl 1 rfl) ?_
  refine ro_V (As := [.int (nI j)]) (rest := []) ⟨hx, hb, hml, hown, hts⟩ (c_X1_has l D cI cJ cZ k0 kl ks kw KL KS KW n (by omega) j (by omega)) (k_X5_69 hts ⟨Nat.le_of_ble_eq_true rfl, Nat.le_of_ble_eq_true rfl⟩) hK hP 3 rfl rfl rfl [3, 4, 5, 6] rfl rfl hl.1 rfl (Nat.le_of_ble_eq_true rfl) dX5_unlike_5 ⟨Nat.le_of_ble_eq_true rfl, Nat.le_of_ble_eq_true rfl⟩ ?_
  refine b_if_eq (tgt := 27) hx hb dX5_unlike_8 (by decide) (fun c1 => ?_) (fun c1 => ?_)
  ·
    exact absurd hj c1
  ·
    refine lv_aload_n hx hb dX5_unlike_11 rfl (lv_at hl 0 rfl) ?_
    refine va_get (D := D) (ci := 5) (v := .ref k0) (C := RX5) (T := TX5) (N := 9) hx hb hts inX5 hown hK hP 0 rfl rfl 2 (by decide) (hts _ mf_X5_22) (fun _ h9 => h9) rfl dX5_unlike_12 ?_
    refine lv_iload_n hx hb dX5_unlike_15 rfl (lv_at hl 2 rfl) ?_
    refine ro_V (As := [.int (nI t)]) (rest := []) ⟨hx, hb, hml, hown, hts⟩ (c_X1_has l D cI cJ cZ k0 kl ks kw KL KS KW n (by omega) t (by omega)) (k_X5_69 hts ⟨Nat.le_of_ble_eq_true rfl, Nat.le_of_ble_eq_true rfl⟩) hK hP 3 rfl rfl rfl [3, 4, 5, 6] rfl rfl hl.1 rfl (Nat.le_of_ble_eq_true rfl) dX5_unlike_16 ⟨Nat.le_of_ble_eq_true rfl, Nat.le_of_ble_eq_true rfl⟩ ?_
    refine b_if_eq (tgt := 27) hx hb dX5_unlike_19 (by decide) (fun c2 => ?_) (fun c2 => ?_)
    ·
      refine lv_ldc hx hb hown (hts _ mk_X5_73) dX5_unlike_27 ?_
      exact ro_iret hx hb hr hlk dX5_unlike_29 (rfl)
    ·
      exact absurd c2 (by omega)
set_option maxHeartbeats 4000000 in
set_option maxRecDepth 100000 in
theorem c_X5_unlike_same (l : Launch) (D : va_G) (cI cJ cZ : ClassId) (x0 w0 d0 k0 kl ks kw b0 bb bd bm bl bf ba bk bg p0 h0 hl1 hs1 hw1 hc1 i0 il1 is1 iw1 ic1 ik it : Nat) (A : Nat) (s : Nat) (dA : Nat) (dz : Nat) (KL : Nat → Nat) (KS : Nat → Nat) (KW : Nat → Nat) (n : Nat) (BB : Nat → Nat) (BD : Nat → Nat) (BM : Nat → Nat) (BL : Nat → Nat) (BF : Nat → Nat) (BA : Nat → Nat) (BK : Nat → Nat) (BG : Nat → Nat) (nx : Nat) (pz : Nat) (HL : Nat → Nat) (HS : Nat → Nat) (HW : Nat → Nat) (HC : Nat → Nat) (IL : Nat → Nat) (IS : Nat → Nat) (IW : Nat → Nat) (IC : Nat → Nat) (IK : Nat → Nat) (IT : Nat → Nat) (sd : Nat) (hn : n ≤ 24) (hw0 : Wf s A) (hk : ∀ k, k < n → Wf (KS k) (KL k)) (hv : ∀ k, k < n → KW k ≤ 9999) (hso : Srt KS KL n) (hTr : TrX (gapF KS KL) n BB BD BM BL BF BA BK) (hnx : nx < 20) (hpz : pz ≤ 20) (hsd : sd < 2 ^ 31) (j : Nat) (hj : j < n) : RO l yX5_unlike cX5_unlike 3 (some .int) (rmN 3 72) D (ty3 cI cJ cZ) [.ref x0, .int (nI j), .int (nI j)] [(x0, .inr (5, [.ref w0, .ref d0, .ref k0, .ref b0, .ref p0, .ref i0, .ref ik, .ref it, .int (nI sd)])), (w0, .inr (4, [.long (lN A), .int (nI s)])), (d0, .inr (4, [.long (lN dA), .int (nI dz)])), (k0, .inr (1, [.ref kl, .ref ks, .ref kw, .int (nI n)])), (kl, .inl (cJ, 24, .inr (.inl (lF KL)))), (ks, .inl (cI, 24, .inl (nF KS))), (kw, .inl (cI, 24, .inl (nF KW))), (b0, .inr (0, [.ref bb, .ref bd, .ref bm, .ref bl, .ref bf, .ref ba, .ref bk, .ref bg, .int (nI n)])), (bb, .inl (cI, 24, .inl (nF BB))), (bd, .inl (cI, 24, .inl (nF BD))), (bm, .inl (cI, 24, .inl (nF BM))), (bl, .inl (cI, 24, .inl (nF BL))), (bf, .inl (cI, 24, .inl (nF BF))), (ba, .inl (cI, 24, .inl (oF BA))), (bk, .inl (cI, 24, .inl (oF BK))), (bg, .inl (cI, 24, .inl (nF BG))), (p0, .inr (2, [.ref h0, .int (nI nx), .int (nI pz)])), (h0, .inr (3, [.int (nI 20), .ref hl1, .ref hs1, .ref hw1, .ref hc1])), (hl1, .inl (cJ, 20 * 24, .inr (.inl (lF HL)))), (hs1, .inl (cI, 20 * 24, .inl (nF HS))), (hw1, .inl (cI, 20 * 24, .inl (nF HW))), (hc1, .inl (cI, 20, .inl (nF HC))), (i0, .inr (3, [.int (nI 2), .ref il1, .ref is1, .ref iw1, .ref ic1])), (il1, .inl (cJ, 2 * 24, .inr (.inl (lF IL)))), (is1, .inl (cI, 2 * 24, .inl (nF IS))), (iw1, .inl (cI, 2 * 24, .inl (nF IW))), (ic1, .inl (cI, 2, .inl (nF IC))), (ik, .inl (cZ, 2, .inl (nF IK))), (it, .inl (cI, 2, .inl (nF IT)))] (.int (-1000000001)) := by
  have hs8 := hw0.1
  have hA64 := hw0.2.1
  have hBK := tf_BK hTr hn
  have hDK := tf_DK hTr hn
  have hB := tf_B hTr
  have hBF := tf_BF hTr hn
  have hT := tf_T hTr hso
  have hanc := tf_anc hTr hn
  have hp := plc_le KS KL n s A
  have hcb := cbl_le KS KL n s A
  have hfl := fnd_le KS KL n s A
  refine ro_start (by decide) (Nat.le_of_ble_eq_true rfl) ?_
  intro pp ee ss mm below meth cd C0 hP hK ls hl
  obtain ⟨hx, hb, hr, hml, hown, hts, hlk⟩ := C0
  have hown : ss.vm.findClass RX5 = some mm.cls := hown
  have hl : lv_has ls 3 [(0, .ref x0), (1, .int (nI j)), (2, .int (nI j))] := hl
  have hP : va_P D vwCl [(x0, .inr (5, [.ref w0, .ref d0, .ref k0, .ref b0, .ref p0, .ref i0, .ref ik, .ref it, .int (nI sd)])), (w0, .inr (4, [.long (lN A), .int (nI s)])), (d0, .inr (4, [.long (lN dA), .int (nI dz)])), (k0, .inr (1, [.ref kl, .ref ks, .ref kw, .int (nI n)])), (kl, .inl (cJ, 24, .inr (.inl (lF KL)))), (ks, .inl (cI, 24, .inl (nF KS))), (kw, .inl (cI, 24, .inl (nF KW))), (b0, .inr (0, [.ref bb, .ref bd, .ref bm, .ref bl, .ref bf, .ref ba, .ref bk, .ref bg, .int (nI n)])), (bb, .inl (cI, 24, .inl (nF BB))), (bd, .inl (cI, 24, .inl (nF BD))), (bm, .inl (cI, 24, .inl (nF BM))), (bl, .inl (cI, 24, .inl (nF BL))), (bf, .inl (cI, 24, .inl (nF BF))), (ba, .inl (cI, 24, .inl (oF BA))), (bk, .inl (cI, 24, .inl (oF BK))), (bg, .inl (cI, 24, .inl (nF BG))), (p0, .inr (2, [.ref h0, .int (nI nx), .int (nI pz)])), (h0, .inr (3, [.int (nI 20), .ref hl1, .ref hs1, .ref hw1, .ref hc1])), (hl1, .inl (cJ, 20 * 24, .inr (.inl (lF HL)))), (hs1, .inl (cI, 20 * 24, .inl (nF HS))), (hw1, .inl (cI, 20 * 24, .inl (nF HW))), (hc1, .inl (cI, 20, .inl (nF HC))), (i0, .inr (3, [.int (nI 2), .ref il1, .ref is1, .ref iw1, .ref ic1])), (il1, .inl (cJ, 2 * 24, .inr (.inl (lF IL)))), (is1, .inl (cI, 2 * 24, .inl (nF IS))), (iw1, .inl (cI, 2 * 24, .inl (nF IW))), (ic1, .inl (cI, 2, .inl (nF IC))), (ik, .inl (cZ, 2, .inl (nF IK))), (it, .inl (cI, 2, .inl (nF IT)))] ss.heap := hP
  refine lv_aload_n hx hb dX5_unlike_0 rfl (lv_at hl 0 rfl) ?_
  refine va_get (D := D) (ci := 5) (v := .ref k0) (C := RX5) (T := TX5) (N := 9) hx hb hts inX5 hown hK hP 0 rfl rfl 2 (by decide) (hts _ mf_X5_22) (fun _ h9 => h9) rfl dX5_unlike_1 ?_
  refine lv_iload_n hx hb dX5_unlike_4 rfl (lv_at hl 1 rfl) ?_
  refine ro_V (As := [.int (nI j)]) (rest := []) ⟨hx, hb, hml, hown, hts⟩ (c_X1_has l D cI cJ cZ k0 kl ks kw KL KS KW n (by omega) j (by omega)) (k_X5_69 hts ⟨Nat.le_of_ble_eq_true rfl, Nat.le_of_ble_eq_true rfl⟩) hK hP 3 rfl rfl rfl [3, 4, 5, 6] rfl rfl hl.1 rfl (Nat.le_of_ble_eq_true rfl) dX5_unlike_5 ⟨Nat.le_of_ble_eq_true rfl, Nat.le_of_ble_eq_true rfl⟩ ?_
  refine b_if_eq (tgt := 27) hx hb dX5_unlike_8 (by decide) (fun c1 => ?_) (fun c1 => ?_)
  ·
    exact absurd hj c1
  ·
    refine lv_aload_n hx hb dX5_unlike_11 rfl (lv_at hl 0 rfl) ?_
    refine va_get (D := D) (ci := 5) (v := .ref k0) (C := RX5) (T := TX5) (N := 9) hx hb hts inX5 hown hK hP 0 rfl rfl 2 (by decide) (hts _ mf_X5_22) (fun _ h9 => h9) rfl dX5_unlike_12 ?_
    refine lv_iload_n hx hb dX5_unlike_15 rfl (lv_at hl 2 rfl) ?_
    refine ro_V (As := [.int (nI j)]) (rest := []) ⟨hx, hb, hml, hown, hts⟩ (c_X1_has l D cI cJ cZ k0 kl ks kw KL KS KW n (by omega) j (by omega)) (k_X5_69 hts ⟨Nat.le_of_ble_eq_true rfl, Nat.le_of_ble_eq_true rfl⟩) hK hP 3 rfl rfl rfl [3, 4, 5, 6] rfl rfl hl.1 rfl (Nat.le_of_ble_eq_true rfl) dX5_unlike_16 ⟨Nat.le_of_ble_eq_true rfl, Nat.le_of_ble_eq_true rfl⟩ ?_
    refine b_if_eq (tgt := 27) hx hb dX5_unlike_19 (by decide) (fun c2 => ?_) (fun c2 => ?_)
    ·
      exact absurd hj c2
    ·
      refine lv_iload_n hx hb dX5_unlike_22 rfl (lv_at hl 1 rfl) ?_
      refine lv_iload_n hx hb dX5_unlike_23 rfl (lv_at hl 2 rfl) ?_
      refine n_ne (tgt := 30) hx hb dX5_unlike_24 (by decide) (by omega) (by omega) (fun c3 => ?_) (fun c3 => ?_)
      ·
        exact absurd rfl c3
      ·
        refine lv_ldc hx hb hown (hts _ mk_X5_73) dX5_unlike_27 ?_
        exact ro_iret hx hb hr hlk dX5_unlike_29 (rfl)
set_option maxHeartbeats 4000000 in
set_option maxRecDepth 100000 in
theorem c_X5_unlike_ok (l : Launch) (D : va_G) (cI cJ cZ : ClassId) (x0 w0 d0 k0 kl ks kw b0 bb bd bm bl bf ba bk bg p0 h0 hl1 hs1 hw1 hc1 i0 il1 is1 iw1 ic1 ik it : Nat) (A : Nat) (s : Nat) (dA : Nat) (dz : Nat) (KL : Nat → Nat) (KS : Nat → Nat) (KW : Nat → Nat) (n : Nat) (BB : Nat → Nat) (BD : Nat → Nat) (BM : Nat → Nat) (BL : Nat → Nat) (BF : Nat → Nat) (BA : Nat → Nat) (BK : Nat → Nat) (BG : Nat → Nat) (nx : Nat) (pz : Nat) (HL : Nat → Nat) (HS : Nat → Nat) (HW : Nat → Nat) (HC : Nat → Nat) (IL : Nat → Nat) (IS : Nat → Nat) (IW : Nat → Nat) (IC : Nat → Nat) (IK : Nat → Nat) (IT : Nat → Nat) (sd : Nat) (hn : n ≤ 24) (hw0 : Wf s A) (hk : ∀ k, k < n → Wf (KS k) (KL k)) (hv : ∀ k, k < n → KW k ≤ 9999) (hso : Srt KS KL n) (hTr : TrX (gapF KS KL) n BB BD BM BL BF BA BK) (hnx : nx < 20) (hpz : pz ≤ 20) (hsd : sd < 2 ^ 31) (j : Nat) (hj : j < n) (t : Nat) (ht : t < n) (hne : j ≠ t) : RO l yX5_unlike cX5_unlike 3 (some .int) (rmN 3 72) D (ty3 cI cJ cZ) [.ref x0, .int (nI j), .int (nI t)] [(x0, .inr (5, [.ref w0, .ref d0, .ref k0, .ref b0, .ref p0, .ref i0, .ref ik, .ref it, .int (nI sd)])), (w0, .inr (4, [.long (lN A), .int (nI s)])), (d0, .inr (4, [.long (lN dA), .int (nI dz)])), (k0, .inr (1, [.ref kl, .ref ks, .ref kw, .int (nI n)])), (kl, .inl (cJ, 24, .inr (.inl (lF KL)))), (ks, .inl (cI, 24, .inl (nF KS))), (kw, .inl (cI, 24, .inl (nF KW))), (b0, .inr (0, [.ref bb, .ref bd, .ref bm, .ref bl, .ref bf, .ref ba, .ref bk, .ref bg, .int (nI n)])), (bb, .inl (cI, 24, .inl (nF BB))), (bd, .inl (cI, 24, .inl (nF BD))), (bm, .inl (cI, 24, .inl (nF BM))), (bl, .inl (cI, 24, .inl (nF BL))), (bf, .inl (cI, 24, .inl (nF BF))), (ba, .inl (cI, 24, .inl (oF BA))), (bk, .inl (cI, 24, .inl (oF BK))), (bg, .inl (cI, 24, .inl (nF BG))), (p0, .inr (2, [.ref h0, .int (nI nx), .int (nI pz)])), (h0, .inr (3, [.int (nI 20), .ref hl1, .ref hs1, .ref hw1, .ref hc1])), (hl1, .inl (cJ, 20 * 24, .inr (.inl (lF HL)))), (hs1, .inl (cI, 20 * 24, .inl (nF HS))), (hw1, .inl (cI, 20 * 24, .inl (nF HW))), (hc1, .inl (cI, 20, .inl (nF HC))), (i0, .inr (3, [.int (nI 2), .ref il1, .ref is1, .ref iw1, .ref ic1])), (il1, .inl (cJ, 2 * 24, .inr (.inl (lF IL)))), (is1, .inl (cI, 2 * 24, .inl (nF IS))), (iw1, .inl (cI, 2 * 24, .inl (nF IW))), (ic1, .inl (cI, 2, .inl (nF IC))), (ik, .inl (cZ, 2, .inl (nF IK))), (it, .inl (cI, 2, .inl (nF IT)))] (.int (nI (unl (KS j) (KL j) (KS t) (KL t)))) := by
  have hs8 := hw0.1
  have hA64 := hw0.2.1
  have hBK := tf_BK hTr hn
  have hDK := tf_DK hTr hn
  have hB := tf_B hTr
  have hBF := tf_BF hTr hn
  have hT := tf_T hTr hso
  have hanc := tf_anc hTr hn
  have hp := plc_le KS KL n s A
  have hcb := cbl_le KS KL n s A
  have hfl := fnd_le KS KL n s A
  refine ro_start (by decide) (Nat.le_of_ble_eq_true rfl) ?_
  intro pp ee ss mm below meth cd C0 hP hK ls hl
  obtain ⟨hx, hb, hr, hml, hown, hts, hlk⟩ := C0
  have hown : ss.vm.findClass RX5 = some mm.cls := hown
  have hl : lv_has ls 3 [(0, .ref x0), (1, .int (nI j)), (2, .int (nI t))] := hl
  have hP : va_P D vwCl [(x0, .inr (5, [.ref w0, .ref d0, .ref k0, .ref b0, .ref p0, .ref i0, .ref ik, .ref it, .int (nI sd)])), (w0, .inr (4, [.long (lN A), .int (nI s)])), (d0, .inr (4, [.long (lN dA), .int (nI dz)])), (k0, .inr (1, [.ref kl, .ref ks, .ref kw, .int (nI n)])), (kl, .inl (cJ, 24, .inr (.inl (lF KL)))), (ks, .inl (cI, 24, .inl (nF KS))), (kw, .inl (cI, 24, .inl (nF KW))), (b0, .inr (0, [.ref bb, .ref bd, .ref bm, .ref bl, .ref bf, .ref ba, .ref bk, .ref bg, .int (nI n)])), (bb, .inl (cI, 24, .inl (nF BB))), (bd, .inl (cI, 24, .inl (nF BD))), (bm, .inl (cI, 24, .inl (nF BM))), (bl, .inl (cI, 24, .inl (nF BL))), (bf, .inl (cI, 24, .inl (nF BF))), (ba, .inl (cI, 24, .inl (oF BA))), (bk, .inl (cI, 24, .inl (oF BK))), (bg, .inl (cI, 24, .inl (nF BG))), (p0, .inr (2, [.ref h0, .int (nI nx), .int (nI pz)])), (h0, .inr (3, [.int (nI 20), .ref hl1, .ref hs1, .ref hw1, .ref hc1])), (hl1, .inl (cJ, 20 * 24, .inr (.inl (lF HL)))), (hs1, .inl (cI, 20 * 24, .inl (nF HS))), (hw1, .inl (cI, 20 * 24, .inl (nF HW))), (hc1, .inl (cI, 20, .inl (nF HC))), (i0, .inr (3, [.int (nI 2), .ref il1, .ref is1, .ref iw1, .ref ic1])), (il1, .inl (cJ, 2 * 24, .inr (.inl (lF IL)))), (is1, .inl (cI, 2 * 24, .inl (nF IS))), (iw1, .inl (cI, 2 * 24, .inl (nF IW))), (ic1, .inl (cI, 2, .inl (nF IC))), (ik, .inl (cZ, 2, .inl (nF IK))), (it, .inl (cI, 2, .inl (nF IT)))] ss.heap := hP
  refine lv_aload_n hx hb dX5_unlike_0 rfl (lv_at hl 0 rfl) ?_
  refine va_get (D := D) (ci := 5) (v := .ref k0) (C := RX5) (T := TX5) (N := 9) hx hb hts inX5 hown hK hP 0 rfl rfl 2 (by decide) (hts _ mf_X5_22) (fun _ h9 => h9) rfl dX5_unlike_1 ?_
  refine lv_iload_n hx hb dX5_unlike_4 rfl (lv_at hl 1 rfl) ?_
  refine ro_V (As := [.int (nI j)]) (rest := []) ⟨hx, hb, hml, hown, hts⟩ (c_X1_has l D cI cJ cZ k0 kl ks kw KL KS KW n (by omega) j (by omega)) (k_X5_69 hts ⟨Nat.le_of_ble_eq_true rfl, Nat.le_of_ble_eq_true rfl⟩) hK hP 3 rfl rfl rfl [3, 4, 5, 6] rfl rfl hl.1 rfl (Nat.le_of_ble_eq_true rfl) dX5_unlike_5 ⟨Nat.le_of_ble_eq_true rfl, Nat.le_of_ble_eq_true rfl⟩ ?_
  refine b_if_eq (tgt := 27) hx hb dX5_unlike_8 (by decide) (fun c1 => ?_) (fun c1 => ?_)
  ·
    exact absurd hj c1
  ·
    refine lv_aload_n hx hb dX5_unlike_11 rfl (lv_at hl 0 rfl) ?_
    refine va_get (D := D) (ci := 5) (v := .ref k0) (C := RX5) (T := TX5) (N := 9) hx hb hts inX5 hown hK hP 0 rfl rfl 2 (by decide) (hts _ mf_X5_22) (fun _ h9 => h9) rfl dX5_unlike_12 ?_
    refine lv_iload_n hx hb dX5_unlike_15 rfl (lv_at hl 2 rfl) ?_
    refine ro_V (As := [.int (nI t)]) (rest := []) ⟨hx, hb, hml, hown, hts⟩ (c_X1_has l D cI cJ cZ k0 kl ks kw KL KS KW n (by omega) t (by omega)) (k_X5_69 hts ⟨Nat.le_of_ble_eq_true rfl, Nat.le_of_ble_eq_true rfl⟩) hK hP 3 rfl rfl rfl [3, 4, 5, 6] rfl rfl hl.1 rfl (Nat.le_of_ble_eq_true rfl) dX5_unlike_16 ⟨Nat.le_of_ble_eq_true rfl, Nat.le_of_ble_eq_true rfl⟩ ?_
    refine b_if_eq (tgt := 27) hx hb dX5_unlike_19 (by decide) (fun c2 => ?_) (fun c2 => ?_)
    ·
      exact absurd ht c2
    ·
      refine lv_iload_n hx hb dX5_unlike_22 rfl (lv_at hl 1 rfl) ?_
      refine lv_iload_n hx hb dX5_unlike_23 rfl (lv_at hl 2 rfl) ?_
      refine n_ne (tgt := 30) hx hb dX5_unlike_24 (by decide) (by omega) (by omega) (fun c3 => ?_) (fun c3 => ?_)
      ·
        refine lv_aload_n hx hb dX5_unlike_30 rfl (lv_at hl 0 rfl) ?_
        refine va_get (D := D) (ci := 5) (v := .ref k0) (C := RX5) (T := TX5) (N := 9) hx hb hts inX5 hown hK hP 0 rfl rfl 2 (by decide) (hts _ mf_X5_22) (fun _ h9 => h9) rfl dX5_unlike_31 ?_
        refine lv_iload_n hx hb dX5_unlike_34 rfl (lv_at hl 1 rfl) ?_
        refine lv_iload_n hx hb dX5_unlike_35 rfl (lv_at hl 2 rfl) ?_
        refine ro_V (As := [.int (nI j), .int (nI t)]) (rest := []) ⟨hx, hb, hml, hown, hts⟩ (c_X1_firstUnlike l D cI cJ cZ k0 kl ks kw KL KS KW n (by omega) j t (by omega) (by omega) (hk _ (by omega)) (hk _ (by omega))) (k_X5_202 hts ⟨Nat.le_of_ble_eq_true rfl, Nat.le_of_ble_eq_true rfl⟩) hK hP 3 rfl rfl rfl [3, 4, 5, 6] rfl rfl hl.1 rfl (Nat.le_of_ble_eq_true rfl) dX5_unlike_36 ⟨Nat.le_of_ble_eq_true rfl, Nat.le_of_ble_eq_true rfl⟩ ?_
        exact ro_iret hx hb hr hlk dX5_unlike_39 (rfl)
      ·
        exact absurd c3 hne
set_option maxHeartbeats 4000000 in
set_option maxRecDepth 100000 in
theorem c_X5_bit_neg (l : Launch) (D : va_G) (cI cJ cZ : ClassId) (x0 w0 d0 k0 kl ks kw b0 bb bd bm bl bf ba bk bg p0 h0 hl1 hs1 hw1 hc1 i0 il1 is1 iw1 ic1 ik it : Nat) (A : Nat) (s : Nat) (dA : Nat) (dz : Nat) (KL : Nat → Nat) (KS : Nat → Nat) (KW : Nat → Nat) (n : Nat) (BB : Nat → Nat) (BD : Nat → Nat) (BM : Nat → Nat) (BL : Nat → Nat) (BF : Nat → Nat) (BA : Nat → Nat) (BK : Nat → Nat) (BG : Nat → Nat) (nx : Nat) (pz : Nat) (HL : Nat → Nat) (HS : Nat → Nat) (HW : Nat → Nat) (HC : Nat → Nat) (IL : Nat → Nat) (IS : Nat → Nat) (IW : Nat → Nat) (IC : Nat → Nat) (IK : Nat → Nat) (IT : Nat → Nat) (sd : Nat) (hn : n ≤ 24) (hw0 : Wf s A) (hk : ∀ k, k < n → Wf (KS k) (KL k)) (hv : ∀ k, k < n → KW k ≤ 9999) (hso : Srt KS KL n) (hTr : TrX (gapF KS KL) n BB BD BM BL BF BA BK) (hnx : nx < 20) (hpz : pz ≤ 20) (hsd : sd < 2 ^ 31) (x : Int32) (hx0 : x < 0) : RO l yX5_bit cX5_bit 2 (some .int) (rmN 3 68) D (ty3 cI cJ cZ) [.ref x0, .int x] [(x0, .inr (5, [.ref w0, .ref d0, .ref k0, .ref b0, .ref p0, .ref i0, .ref ik, .ref it, .int (nI sd)])), (w0, .inr (4, [.long (lN A), .int (nI s)])), (d0, .inr (4, [.long (lN dA), .int (nI dz)])), (k0, .inr (1, [.ref kl, .ref ks, .ref kw, .int (nI n)])), (kl, .inl (cJ, 24, .inr (.inl (lF KL)))), (ks, .inl (cI, 24, .inl (nF KS))), (kw, .inl (cI, 24, .inl (nF KW))), (b0, .inr (0, [.ref bb, .ref bd, .ref bm, .ref bl, .ref bf, .ref ba, .ref bk, .ref bg, .int (nI n)])), (bb, .inl (cI, 24, .inl (nF BB))), (bd, .inl (cI, 24, .inl (nF BD))), (bm, .inl (cI, 24, .inl (nF BM))), (bl, .inl (cI, 24, .inl (nF BL))), (bf, .inl (cI, 24, .inl (nF BF))), (ba, .inl (cI, 24, .inl (oF BA))), (bk, .inl (cI, 24, .inl (oF BK))), (bg, .inl (cI, 24, .inl (nF BG))), (p0, .inr (2, [.ref h0, .int (nI nx), .int (nI pz)])), (h0, .inr (3, [.int (nI 20), .ref hl1, .ref hs1, .ref hw1, .ref hc1])), (hl1, .inl (cJ, 20 * 24, .inr (.inl (lF HL)))), (hs1, .inl (cI, 20 * 24, .inl (nF HS))), (hw1, .inl (cI, 20 * 24, .inl (nF HW))), (hc1, .inl (cI, 20, .inl (nF HC))), (i0, .inr (3, [.int (nI 2), .ref il1, .ref is1, .ref iw1, .ref ic1])), (il1, .inl (cJ, 2 * 24, .inr (.inl (lF IL)))), (is1, .inl (cI, 2 * 24, .inl (nF IS))), (iw1, .inl (cI, 2 * 24, .inl (nF IW))), (ic1, .inl (cI, 2, .inl (nF IC))), (ik, .inl (cZ, 2, .inl (nF IK))), (it, .inl (cI, 2, .inl (nF IT)))] (.int (-1000000002)) := by
  have hs8 := hw0.1
  have hA64 := hw0.2.1
  have hBK := tf_BK hTr hn
  have hDK := tf_DK hTr hn
  have hB := tf_B hTr
  have hBF := tf_BF hTr hn
  have hT := tf_T hTr hso
  have hanc := tf_anc hTr hn
  have hp := plc_le KS KL n s A
  have hcb := cbl_le KS KL n s A
  have hfl := fnd_le KS KL n s A
  refine ro_start (by decide) (Nat.le_of_ble_eq_true rfl) ?_
  intro pp ee ss mm below meth cd C0 hP hK ls hl
  obtain ⟨hx, hb, hr, hml, hown, hts, hlk⟩ := C0
  have hown : ss.vm.findClass RX5 = some mm.cls := hown
  have hl : lv_has ls 2 [(0, .ref x0), (1, .int x)] := hl
  have hP : va_P D vwCl [(x0, .inr (5, [.ref w0, .ref d0, .ref k0, .ref b0, .ref p0, .ref i0, .ref ik, .ref it, .int (nI sd)])), (w0, .inr (4, [.long (lN A), .int (nI s)])), (d0, .inr (4, [.long (lN dA), .int (nI dz)])), (k0, .inr (1, [.ref kl, .ref ks, .ref kw, .int (nI n)])), (kl, .inl (cJ, 24, .inr (.inl (lF KL)))), (ks, .inl (cI, 24, .inl (nF KS))), (kw, .inl (cI, 24, .inl (nF KW))), (b0, .inr (0, [.ref bb, .ref bd, .ref bm, .ref bl, .ref bf, .ref ba, .ref bk, .ref bg, .int (nI n)])), (bb, .inl (cI, 24, .inl (nF BB))), (bd, .inl (cI, 24, .inl (nF BD))), (bm, .inl (cI, 24, .inl (nF BM))), (bl, .inl (cI, 24, .inl (nF BL))), (bf, .inl (cI, 24, .inl (nF BF))), (ba, .inl (cI, 24, .inl (oF BA))), (bk, .inl (cI, 24, .inl (oF BK))), (bg, .inl (cI, 24, .inl (nF BG))), (p0, .inr (2, [.ref h0, .int (nI nx), .int (nI pz)])), (h0, .inr (3, [.int (nI 20), .ref hl1, .ref hs1, .ref hw1, .ref hc1])), (hl1, .inl (cJ, 20 * 24, .inr (.inl (lF HL)))), (hs1, .inl (cI, 20 * 24, .inl (nF HS))), (hw1, .inl (cI, 20 * 24, .inl (nF HW))), (hc1, .inl (cI, 20, .inl (nF HC))), (i0, .inr (3, [.int (nI 2), .ref il1, .ref is1, .ref iw1, .ref ic1])), (il1, .inl (cJ, 2 * 24, .inr (.inl (lF IL)))), (is1, .inl (cI, 2 * 24, .inl (nF IS))), (iw1, .inl (cI, 2 * 24, .inl (nF IW))), (ic1, .inl (cI, 2, .inl (nF IC))), (ik, .inl (cZ, 2, .inl (nF IK))), (it, .inl (cI, 2, .inl (nF IT)))] ss.heap := hP
  refine lv_iload_n hx hb dX5_bit_0 rfl (lv_at hl 1 rfl) ?_
  refine lv_if_lt (tgt := 10) hx hb dX5_bit_1 (by decide) (fun c1 => ?_) (fun c1 => ?_)
  ·
    refine lv_ldc hx hb hown (hts _ mk_X5_57) dX5_bit_10 ?_
    exact ro_iret hx hb hr hlk dX5_bit_12 (rfl)
  ·
    exact absurd hx0 c1
set_option maxHeartbeats 4000000 in
set_option maxRecDepth 100000 in
theorem c_X5_bit_big (l : Launch) (D : va_G) (cI cJ cZ : ClassId) (x0 w0 d0 k0 kl ks kw b0 bb bd bm bl bf ba bk bg p0 h0 hl1 hs1 hw1 hc1 i0 il1 is1 iw1 ic1 ik it : Nat) (A : Nat) (s : Nat) (dA : Nat) (dz : Nat) (KL : Nat → Nat) (KS : Nat → Nat) (KW : Nat → Nat) (n : Nat) (BB : Nat → Nat) (BD : Nat → Nat) (BM : Nat → Nat) (BL : Nat → Nat) (BF : Nat → Nat) (BA : Nat → Nat) (BK : Nat → Nat) (BG : Nat → Nat) (nx : Nat) (pz : Nat) (HL : Nat → Nat) (HS : Nat → Nat) (HW : Nat → Nat) (HC : Nat → Nat) (IL : Nat → Nat) (IS : Nat → Nat) (IW : Nat → Nat) (IC : Nat → Nat) (IK : Nat → Nat) (IT : Nat → Nat) (sd : Nat) (hn : n ≤ 24) (hw0 : Wf s A) (hk : ∀ k, k < n → Wf (KS k) (KL k)) (hv : ∀ k, k < n → KW k ≤ 9999) (hso : Srt KS KL n) (hTr : TrX (gapF KS KL) n BB BD BM BL BF BA BK) (hnx : nx < 20) (hpz : pz ≤ 20) (hsd : sd < 2 ^ 31) (j : Nat) (hj : j < 2 ^ 31) (hjb : 72 ≤ j) : RO l yX5_bit cX5_bit 2 (some .int) (rmN 3 68) D (ty3 cI cJ cZ) [.ref x0, .int (nI j)] [(x0, .inr (5, [.ref w0, .ref d0, .ref k0, .ref b0, .ref p0, .ref i0, .ref ik, .ref it, .int (nI sd)])), (w0, .inr (4, [.long (lN A), .int (nI s)])), (d0, .inr (4, [.long (lN dA), .int (nI dz)])), (k0, .inr (1, [.ref kl, .ref ks, .ref kw, .int (nI n)])), (kl, .inl (cJ, 24, .inr (.inl (lF KL)))), (ks, .inl (cI, 24, .inl (nF KS))), (kw, .inl (cI, 24, .inl (nF KW))), (b0, .inr (0, [.ref bb, .ref bd, .ref bm, .ref bl, .ref bf, .ref ba, .ref bk, .ref bg, .int (nI n)])), (bb, .inl (cI, 24, .inl (nF BB))), (bd, .inl (cI, 24, .inl (nF BD))), (bm, .inl (cI, 24, .inl (nF BM))), (bl, .inl (cI, 24, .inl (nF BL))), (bf, .inl (cI, 24, .inl (nF BF))), (ba, .inl (cI, 24, .inl (oF BA))), (bk, .inl (cI, 24, .inl (oF BK))), (bg, .inl (cI, 24, .inl (nF BG))), (p0, .inr (2, [.ref h0, .int (nI nx), .int (nI pz)])), (h0, .inr (3, [.int (nI 20), .ref hl1, .ref hs1, .ref hw1, .ref hc1])), (hl1, .inl (cJ, 20 * 24, .inr (.inl (lF HL)))), (hs1, .inl (cI, 20 * 24, .inl (nF HS))), (hw1, .inl (cI, 20 * 24, .inl (nF HW))), (hc1, .inl (cI, 20, .inl (nF HC))), (i0, .inr (3, [.int (nI 2), .ref il1, .ref is1, .ref iw1, .ref ic1])), (il1, .inl (cJ, 2 * 24, .inr (.inl (lF IL)))), (is1, .inl (cI, 2 * 24, .inl (nF IS))), (iw1, .inl (cI, 2 * 24, .inl (nF IW))), (ic1, .inl (cI, 2, .inl (nF IC))), (ik, .inl (cZ, 2, .inl (nF IK))), (it, .inl (cI, 2, .inl (nF IT)))] (.int (-1000000002)) := by
  have hs8 := hw0.1
  have hA64 := hw0.2.1
  have hBK := tf_BK hTr hn
  have hDK := tf_DK hTr hn
  have hB := tf_B hTr
  have hBF := tf_BF hTr hn
  have hT := tf_T hTr hso
  have hanc := tf_anc hTr hn
  have hp := plc_le KS KL n s A
  have hcb := cbl_le KS KL n s A
  have hfl := fnd_le KS KL n s A
  refine ro_start (by decide) (Nat.le_of_ble_eq_true rfl) ?_
  intro pp ee ss mm below meth cd C0 hP hK ls hl
  obtain ⟨hx, hb, hr, hml, hown, hts, hlk⟩ := C0
  have hown : ss.vm.findClass RX5 = some mm.cls := hown
  have hl : lv_has ls 2 [(0, .ref x0), (1, .int (nI j))] := hl
  have hP : va_P D vwCl [(x0, .inr (5, [.ref w0, .ref d0, .ref k0, .ref b0, .ref p0, .ref i0, .ref ik, .ref it, .int (nI sd)])), (w0, .inr (4, [.long (lN A), .int (nI s)])), (d0, .inr (4, [.long (lN dA), .int (nI dz)])), (k0, .inr (1, [.ref kl, .ref ks, .ref kw, .int (nI n)])), (kl, .inl (cJ, 24, .inr (.inl (lF KL)))), (ks, .inl (cI, 24, .inl (nF KS))), (kw, .inl (cI, 24, .inl (nF KW))), (b0, .inr (0, [.ref bb, .ref bd, .ref bm, .ref bl, .ref bf, .ref ba, .ref bk, .ref bg, .int (nI n)])), (bb, .inl (cI, 24, .inl (nF BB))), (bd, .inl (cI, 24, .inl (nF BD))), (bm, .inl (cI, 24, .inl (nF BM))), (bl, .inl (cI, 24, .inl (nF BL))), (bf, .inl (cI, 24, .inl (nF BF))), (ba, .inl (cI, 24, .inl (oF BA))), (bk, .inl (cI, 24, .inl (oF BK))), (bg, .inl (cI, 24, .inl (nF BG))), (p0, .inr (2, [.ref h0, .int (nI nx), .int (nI pz)])), (h0, .inr (3, [.int (nI 20), .ref hl1, .ref hs1, .ref hw1, .ref hc1])), (hl1, .inl (cJ, 20 * 24, .inr (.inl (lF HL)))), (hs1, .inl (cI, 20 * 24, .inl (nF HS))), (hw1, .inl (cI, 20 * 24, .inl (nF HW))), (hc1, .inl (cI, 20, .inl (nF HC))), (i0, .inr (3, [.int (nI 2), .ref il1, .ref is1, .ref iw1, .ref ic1])), (il1, .inl (cJ, 2 * 24, .inr (.inl (lF IL)))), (is1, .inl (cI, 2 * 24, .inl (nF IS))), (iw1, .inl (cI, 2 * 24, .inl (nF IW))), (ic1, .inl (cI, 2, .inl (nF IC))), (ik, .inl (cZ, 2, .inl (nF IK))), (it, .inl (cI, 2, .inl (nF IT)))] ss.heap := hP
  refine lv_iload_n hx hb dX5_bit_0 rfl (lv_at hl 1 rfl) ?_
  refine n_if_lt (tgt := 10) hx hb dX5_bit_1 (by decide) (by omega) ?_
  refine lv_iload_n hx hb dX5_bit_4 rfl (lv_at hl 1 rfl) ?_
  refine lv_bipush (v := nI 72) hx hb dX5_bit_5 (by decide +kernel) ?_
  refine n_lt (tgt := 13) hx hb dX5_bit_7 (by decide) (by omega) (by omega) (fun c2 => ?_) (fun c2 => ?_)
  ·
    exact absurd c2 (by omega)
  ·
    refine lv_ldc hx hb hown (hts _ mk_X5_57) dX5_bit_10 ?_
    exact ro_iret hx hb hr hlk dX5_bit_12 (rfl)
set_option maxHeartbeats 4000000 in
set_option maxRecDepth 100000 in
theorem c_X5_bit_ok (l : Launch) (D : va_G) (cI cJ cZ : ClassId) (x0 w0 d0 k0 kl ks kw b0 bb bd bm bl bf ba bk bg p0 h0 hl1 hs1 hw1 hc1 i0 il1 is1 iw1 ic1 ik it : Nat) (A : Nat) (s : Nat) (dA : Nat) (dz : Nat) (KL : Nat → Nat) (KS : Nat → Nat) (KW : Nat → Nat) (n : Nat) (BB : Nat → Nat) (BD : Nat → Nat) (BM : Nat → Nat) (BL : Nat → Nat) (BF : Nat → Nat) (BA : Nat → Nat) (BK : Nat → Nat) (BG : Nat → Nat) (nx : Nat) (pz : Nat) (HL : Nat → Nat) (HS : Nat → Nat) (HW : Nat → Nat) (HC : Nat → Nat) (IL : Nat → Nat) (IS : Nat → Nat) (IW : Nat → Nat) (IC : Nat → Nat) (IK : Nat → Nat) (IT : Nat → Nat) (sd : Nat) (hn : n ≤ 24) (hw0 : Wf s A) (hk : ∀ k, k < n → Wf (KS k) (KL k)) (hv : ∀ k, k < n → KW k ≤ 9999) (hso : Srt KS KL n) (hTr : TrX (gapF KS KL) n BB BD BM BL BF BA BK) (hnx : nx < 20) (hpz : pz ≤ 20) (hsd : sd < 2 ^ 31) (j : Nat) (hj : j < 72) : RO l yX5_bit cX5_bit 2 (some .int) (rmN 3 68) D (ty3 cI cJ cZ) [.ref x0, .int (nI j)] [(x0, .inr (5, [.ref w0, .ref d0, .ref k0, .ref b0, .ref p0, .ref i0, .ref ik, .ref it, .int (nI sd)])), (w0, .inr (4, [.long (lN A), .int (nI s)])), (d0, .inr (4, [.long (lN dA), .int (nI dz)])), (k0, .inr (1, [.ref kl, .ref ks, .ref kw, .int (nI n)])), (kl, .inl (cJ, 24, .inr (.inl (lF KL)))), (ks, .inl (cI, 24, .inl (nF KS))), (kw, .inl (cI, 24, .inl (nF KW))), (b0, .inr (0, [.ref bb, .ref bd, .ref bm, .ref bl, .ref bf, .ref ba, .ref bk, .ref bg, .int (nI n)])), (bb, .inl (cI, 24, .inl (nF BB))), (bd, .inl (cI, 24, .inl (nF BD))), (bm, .inl (cI, 24, .inl (nF BM))), (bl, .inl (cI, 24, .inl (nF BL))), (bf, .inl (cI, 24, .inl (nF BF))), (ba, .inl (cI, 24, .inl (oF BA))), (bk, .inl (cI, 24, .inl (oF BK))), (bg, .inl (cI, 24, .inl (nF BG))), (p0, .inr (2, [.ref h0, .int (nI nx), .int (nI pz)])), (h0, .inr (3, [.int (nI 20), .ref hl1, .ref hs1, .ref hw1, .ref hc1])), (hl1, .inl (cJ, 20 * 24, .inr (.inl (lF HL)))), (hs1, .inl (cI, 20 * 24, .inl (nF HS))), (hw1, .inl (cI, 20 * 24, .inl (nF HW))), (hc1, .inl (cI, 20, .inl (nF HC))), (i0, .inr (3, [.int (nI 2), .ref il1, .ref is1, .ref iw1, .ref ic1])), (il1, .inl (cJ, 2 * 24, .inr (.inl (lF IL)))), (is1, .inl (cI, 2 * 24, .inl (nF IS))), (iw1, .inl (cI, 2 * 24, .inl (nF IW))), (ic1, .inl (cI, 2, .inl (nF IC))), (ik, .inl (cZ, 2, .inl (nF IK))), (it, .inl (cI, 2, .inl (nF IT)))] (.int (nI (bitr s A j))) := by
  have hs8 := hw0.1
  have hA64 := hw0.2.1
  have hBK := tf_BK hTr hn
  have hDK := tf_DK hTr hn
  have hB := tf_B hTr
  have hBF := tf_BF hTr hn
  have hT := tf_T hTr hso
  have hanc := tf_anc hTr hn
  have hp := plc_le KS KL n s A
  have hcb := cbl_le KS KL n s A
  have hfl := fnd_le KS KL n s A
  refine ro_start (by decide) (Nat.le_of_ble_eq_true rfl) ?_
  intro pp ee ss mm below meth cd C0 hP hK ls hl
  obtain ⟨hx, hb, hr, hml, hown, hts, hlk⟩ := C0
  have hown : ss.vm.findClass RX5 = some mm.cls := hown
  have hl : lv_has ls 2 [(0, .ref x0), (1, .int (nI j))] := hl
  have hP : va_P D vwCl [(x0, .inr (5, [.ref w0, .ref d0, .ref k0, .ref b0, .ref p0, .ref i0, .ref ik, .ref it, .int (nI sd)])), (w0, .inr (4, [.long (lN A), .int (nI s)])), (d0, .inr (4, [.long (lN dA), .int (nI dz)])), (k0, .inr (1, [.ref kl, .ref ks, .ref kw, .int (nI n)])), (kl, .inl (cJ, 24, .inr (.inl (lF KL)))), (ks, .inl (cI, 24, .inl (nF KS))), (kw, .inl (cI, 24, .inl (nF KW))), (b0, .inr (0, [.ref bb, .ref bd, .ref bm, .ref bl, .ref bf, .ref ba, .ref bk, .ref bg, .int (nI n)])), (bb, .inl (cI, 24, .inl (nF BB))), (bd, .inl (cI, 24, .inl (nF BD))), (bm, .inl (cI, 24, .inl (nF BM))), (bl, .inl (cI, 24, .inl (nF BL))), (bf, .inl (cI, 24, .inl (nF BF))), (ba, .inl (cI, 24, .inl (oF BA))), (bk, .inl (cI, 24, .inl (oF BK))), (bg, .inl (cI, 24, .inl (nF BG))), (p0, .inr (2, [.ref h0, .int (nI nx), .int (nI pz)])), (h0, .inr (3, [.int (nI 20), .ref hl1, .ref hs1, .ref hw1, .ref hc1])), (hl1, .inl (cJ, 20 * 24, .inr (.inl (lF HL)))), (hs1, .inl (cI, 20 * 24, .inl (nF HS))), (hw1, .inl (cI, 20 * 24, .inl (nF HW))), (hc1, .inl (cI, 20, .inl (nF HC))), (i0, .inr (3, [.int (nI 2), .ref il1, .ref is1, .ref iw1, .ref ic1])), (il1, .inl (cJ, 2 * 24, .inr (.inl (lF IL)))), (is1, .inl (cI, 2 * 24, .inl (nF IS))), (iw1, .inl (cI, 2 * 24, .inl (nF IW))), (ic1, .inl (cI, 2, .inl (nF IC))), (ik, .inl (cZ, 2, .inl (nF IK))), (it, .inl (cI, 2, .inl (nF IT)))] ss.heap := hP
  refine lv_iload_n hx hb dX5_bit_0 rfl (lv_at hl 1 rfl) ?_
  refine n_if_lt (tgt := 10) hx hb dX5_bit_1 (by decide) (by omega) ?_
  refine lv_iload_n hx hb dX5_bit_4 rfl (lv_at hl 1 rfl) ?_
  refine lv_bipush (v := nI 72) hx hb dX5_bit_5 (by decide +kernel) ?_
  refine n_lt (tgt := 13) hx hb dX5_bit_7 (by decide) (by omega) (by omega) (fun c2 => ?_) (fun c2 => ?_)
  ·
    refine lv_aload_n hx hb dX5_bit_13 rfl (lv_at hl 0 rfl) ?_
    refine va_get (D := D) (ci := 5) (v := .ref w0) (C := RX5) (T := TX5) (N := 9) hx hb hts inX5 hown hK hP 0 rfl rfl 0 (by decide) (hts _ mf_X5_10) (fun _ h9 => h9) rfl dX5_bit_14 ?_
    refine lv_iload_n hx hb dX5_bit_17 rfl (lv_at hl 1 rfl) ?_
    refine ro_V (As := [.int (nI j)]) (rest := []) ⟨hx, hb, hml, hown, hts⟩ (c_X4_bitAt l D cI cJ cZ w0 A s j hA64 (by omega) (by omega)) (k_X5_205 hts ⟨Nat.le_of_ble_eq_true rfl, Nat.le_of_ble_eq_true rfl⟩) hK hP 1 rfl rfl rfl [1] rfl rfl hl.1 rfl (Nat.le_of_ble_eq_true rfl) dX5_bit_18 ⟨Nat.le_of_ble_eq_true rfl, Nat.le_of_ble_eq_true rfl⟩ ?_
    exact ro_iret hx hb hr hlk dX5_bit_21 (rfl)
  ·
    exact absurd c2 (by omega)
set_option maxHeartbeats 4000000 in
set_option maxRecDepth 100000 in
theorem c_X5_seed_neg (l : Launch) (D : va_G) (cI cJ cZ : ClassId) (x0 w0 d0 k0 kl ks kw b0 bb bd bm bl bf ba bk bg p0 h0 hl1 hs1 hw1 hc1 i0 il1 is1 iw1 ic1 ik it : Nat) (A : Nat) (s : Nat) (dA : Nat) (dz : Nat) (KL : Nat → Nat) (KS : Nat → Nat) (KW : Nat → Nat) (n : Nat) (BB : Nat → Nat) (BD : Nat → Nat) (BM : Nat → Nat) (BL : Nat → Nat) (BF : Nat → Nat) (BA : Nat → Nat) (BK : Nat → Nat) (BG : Nat → Nat) (nx : Nat) (pz : Nat) (HL : Nat → Nat) (HS : Nat → Nat) (HW : Nat → Nat) (HC : Nat → Nat) (IL : Nat → Nat) (IS : Nat → Nat) (IW : Nat → Nat) (IC : Nat → Nat) (IK : Nat → Nat) (IT : Nat → Nat) (sd : Nat) (hn : n ≤ 24) (hw0 : Wf s A) (hk : ∀ k, k < n → Wf (KS k) (KL k)) (hv : ∀ k, k < n → KW k ≤ 9999) (hso : Srt KS KL n) (hTr : TrX (gapF KS KL) n BB BD BM BL BF BA BK) (hnx : nx < 20) (hpz : pz ≤ 20) (hsd : sd < 2 ^ 31) (x : Int32) (hx0 : x < 0) : RO l yX5_seed cX5_seed 3 (some .int) (rmN 0 0) D (ty3 cI cJ cZ) [.ref x0, .int x] [(x0, .inr (5, [.ref w0, .ref d0, .ref k0, .ref b0, .ref p0, .ref i0, .ref ik, .ref it, .int (nI sd)])), (w0, .inr (4, [.long (lN A), .int (nI s)])), (d0, .inr (4, [.long (lN dA), .int (nI dz)])), (k0, .inr (1, [.ref kl, .ref ks, .ref kw, .int (nI n)])), (kl, .inl (cJ, 24, .inr (.inl (lF KL)))), (ks, .inl (cI, 24, .inl (nF KS))), (kw, .inl (cI, 24, .inl (nF KW))), (b0, .inr (0, [.ref bb, .ref bd, .ref bm, .ref bl, .ref bf, .ref ba, .ref bk, .ref bg, .int (nI n)])), (bb, .inl (cI, 24, .inl (nF BB))), (bd, .inl (cI, 24, .inl (nF BD))), (bm, .inl (cI, 24, .inl (nF BM))), (bl, .inl (cI, 24, .inl (nF BL))), (bf, .inl (cI, 24, .inl (nF BF))), (ba, .inl (cI, 24, .inl (oF BA))), (bk, .inl (cI, 24, .inl (oF BK))), (bg, .inl (cI, 24, .inl (nF BG))), (p0, .inr (2, [.ref h0, .int (nI nx), .int (nI pz)])), (h0, .inr (3, [.int (nI 20), .ref hl1, .ref hs1, .ref hw1, .ref hc1])), (hl1, .inl (cJ, 20 * 24, .inr (.inl (lF HL)))), (hs1, .inl (cI, 20 * 24, .inl (nF HS))), (hw1, .inl (cI, 20 * 24, .inl (nF HW))), (hc1, .inl (cI, 20, .inl (nF HC))), (i0, .inr (3, [.int (nI 2), .ref il1, .ref is1, .ref iw1, .ref ic1])), (il1, .inl (cJ, 2 * 24, .inr (.inl (lF IL)))), (is1, .inl (cI, 2 * 24, .inl (nF IS))), (iw1, .inl (cI, 2 * 24, .inl (nF IW))), (ic1, .inl (cI, 2, .inl (nF IC))), (ik, .inl (cZ, 2, .inl (nF IK))), (it, .inl (cI, 2, .inl (nF IT)))] (.int (-1000000002)) := by
  have hs8 := hw0.1
  have hA64 := hw0.2.1
  have hBK := tf_BK hTr hn
  have hDK := tf_DK hTr hn
  have hB := tf_B hTr
  have hBF := tf_BF hTr hn
  have hT := tf_T hTr hso
  have hanc := tf_anc hTr hn
  have hp := plc_le KS KL n s A
  have hcb := cbl_le KS KL n s A
  have hfl := fnd_le KS KL n s A
  refine ro_start (by decide) (Nat.le_of_ble_eq_true rfl) ?_
  intro pp ee ss mm below meth cd C0 hP hK ls hl
  obtain ⟨hx, hb, hr, hml, hown, hts, hlk⟩ := C0
  have hown : ss.vm.findClass RX5 = some mm.cls := hown
  have hl : lv_has ls 3 [(0, .ref x0), (1, .int x)] := hl
  have hP : va_P D vwCl [(x0, .inr (5, [.ref w0, .ref d0, .ref k0, .ref b0, .ref p0, .ref i0, .ref ik, .ref it, .int (nI sd)])), (w0, .inr (4, [.long (lN A), .int (nI s)])), (d0, .inr (4, [.long (lN dA), .int (nI dz)])), (k0, .inr (1, [.ref kl, .ref ks, .ref kw, .int (nI n)])), (kl, .inl (cJ, 24, .inr (.inl (lF KL)))), (ks, .inl (cI, 24, .inl (nF KS))), (kw, .inl (cI, 24, .inl (nF KW))), (b0, .inr (0, [.ref bb, .ref bd, .ref bm, .ref bl, .ref bf, .ref ba, .ref bk, .ref bg, .int (nI n)])), (bb, .inl (cI, 24, .inl (nF BB))), (bd, .inl (cI, 24, .inl (nF BD))), (bm, .inl (cI, 24, .inl (nF BM))), (bl, .inl (cI, 24, .inl (nF BL))), (bf, .inl (cI, 24, .inl (nF BF))), (ba, .inl (cI, 24, .inl (oF BA))), (bk, .inl (cI, 24, .inl (oF BK))), (bg, .inl (cI, 24, .inl (nF BG))), (p0, .inr (2, [.ref h0, .int (nI nx), .int (nI pz)])), (h0, .inr (3, [.int (nI 20), .ref hl1, .ref hs1, .ref hw1, .ref hc1])), (hl1, .inl (cJ, 20 * 24, .inr (.inl (lF HL)))), (hs1, .inl (cI, 20 * 24, .inl (nF HS))), (hw1, .inl (cI, 20 * 24, .inl (nF HW))), (hc1, .inl (cI, 20, .inl (nF HC))), (i0, .inr (3, [.int (nI 2), .ref il1, .ref is1, .ref iw1, .ref ic1])), (il1, .inl (cJ, 2 * 24, .inr (.inl (lF IL)))), (is1, .inl (cI, 2 * 24, .inl (nF IS))), (iw1, .inl (cI, 2 * 24, .inl (nF IW))), (ic1, .inl (cI, 2, .inl (nF IC))), (ik, .inl (cZ, 2, .inl (nF IK))), (it, .inl (cI, 2, .inl (nF IT)))] ss.heap := hP
  refine lv_iload_n hx hb dX5_seed_0 rfl (lv_at hl 1 rfl) ?_
  refine lv_if_ge (tgt := 7) hx hb dX5_seed_1 (by decide) (fun c1 => ?_) (fun c1 => ?_)
  ·
    exact absurd hx0 (fun q => by rw [Int32.lt_iff_toInt_lt] at q; rw [Int32.le_iff_toInt_le] at c1; omega)
  ·
    refine lv_ldc hx hb hown (hts _ mk_X5_57) dX5_seed_4 ?_
    exact ro_iret hx hb hr hlk dX5_seed_6 (rfl)
set_option maxHeartbeats 4000000 in
set_option maxRecDepth 100000 in
theorem c_X5_seed_ok (l : Launch) (D : va_G) (cI cJ cZ : ClassId) (x0 w0 d0 k0 kl ks kw b0 bb bd bm bl bf ba bk bg p0 h0 hl1 hs1 hw1 hc1 i0 il1 is1 iw1 ic1 ik it : Nat) (A : Nat) (s : Nat) (dA : Nat) (dz : Nat) (KL : Nat → Nat) (KS : Nat → Nat) (KW : Nat → Nat) (n : Nat) (BB : Nat → Nat) (BD : Nat → Nat) (BM : Nat → Nat) (BL : Nat → Nat) (BF : Nat → Nat) (BA : Nat → Nat) (BK : Nat → Nat) (BG : Nat → Nat) (nx : Nat) (pz : Nat) (HL : Nat → Nat) (HS : Nat → Nat) (HW : Nat → Nat) (HC : Nat → Nat) (IL : Nat → Nat) (IS : Nat → Nat) (IW : Nat → Nat) (IC : Nat → Nat) (IK : Nat → Nat) (IT : Nat → Nat) (sd : Nat) (hn : n ≤ 24) (hw0 : Wf s A) (hk : ∀ k, k < n → Wf (KS k) (KL k)) (hv : ∀ k, k < n → KW k ≤ 9999) (hso : Srt KS KL n) (hTr : TrX (gapF KS KL) n BB BD BM BL BF BA BK) (hnx : nx < 20) (hpz : pz ≤ 20) (hsd : sd < 2 ^ 31) (j : Nat) (hj : j < 2 ^ 31) (sz : Nat) : WR l yX5_seed cX5_seed 3 (some .int) (rmN 0 0) D (ty3 cI cJ cZ) [.ref x0, .int (nI j)] [(x0, .inr (5, [.ref w0, .ref d0, .ref k0, .ref b0, .ref p0, .ref i0, .ref ik, .ref it, .int (nI sd)])), (w0, .inr (4, [.long (lN A), .int (nI s)])), (d0, .inr (4, [.long (lN dA), .int (nI dz)])), (k0, .inr (1, [.ref kl, .ref ks, .ref kw, .int (nI n)])), (kl, .inl (cJ, 24, .inr (.inl (lF KL)))), (ks, .inl (cI, 24, .inl (nF KS))), (kw, .inl (cI, 24, .inl (nF KW))), (b0, .inr (0, [.ref bb, .ref bd, .ref bm, .ref bl, .ref bf, .ref ba, .ref bk, .ref bg, .int (nI n)])), (bb, .inl (cI, 24, .inl (nF BB))), (bd, .inl (cI, 24, .inl (nF BD))), (bm, .inl (cI, 24, .inl (nF BM))), (bl, .inl (cI, 24, .inl (nF BL))), (bf, .inl (cI, 24, .inl (nF BF))), (ba, .inl (cI, 24, .inl (oF BA))), (bk, .inl (cI, 24, .inl (oF BK))), (bg, .inl (cI, 24, .inl (nF BG))), (p0, .inr (2, [.ref h0, .int (nI nx), .int (nI pz)])), (h0, .inr (3, [.int (nI 20), .ref hl1, .ref hs1, .ref hw1, .ref hc1])), (hl1, .inl (cJ, 20 * 24, .inr (.inl (lF HL)))), (hs1, .inl (cI, 20 * 24, .inl (nF HS))), (hw1, .inl (cI, 20 * 24, .inl (nF HW))), (hc1, .inl (cI, 20, .inl (nF HC))), (i0, .inr (3, [.int (nI 2), .ref il1, .ref is1, .ref iw1, .ref ic1])), (il1, .inl (cJ, 2 * 24, .inr (.inl (lF IL)))), (is1, .inl (cI, 2 * 24, .inl (nF IS))), (iw1, .inl (cI, 2 * 24, .inl (nF IW))), (ic1, .inl (cI, 2, .inl (nF IC))), (ik, .inl (cZ, 2, .inl (nF IK))), (it, .inl (cI, 2, .inl (nF IT)))] sz (fun x w => x = some (.int (nI sd)) ∧ w = [(x0, .inr (5, [.ref w0, .ref d0, .ref k0, .ref b0, .ref p0, .ref i0, .ref ik, .ref it, .int (nI j)])), (w0, .inr (4, [.long (lN A), .int (nI s)])), (d0, .inr (4, [.long (lN dA), .int (nI dz)])), (k0, .inr (1, [.ref kl, .ref ks, .ref kw, .int (nI n)])), (kl, .inl (cJ, 24, .inr (.inl (lF KL)))), (ks, .inl (cI, 24, .inl (nF KS))), (kw, .inl (cI, 24, .inl (nF KW))), (b0, .inr (0, [.ref bb, .ref bd, .ref bm, .ref bl, .ref bf, .ref ba, .ref bk, .ref bg, .int (nI n)])), (bb, .inl (cI, 24, .inl (nF BB))), (bd, .inl (cI, 24, .inl (nF BD))), (bm, .inl (cI, 24, .inl (nF BM))), (bl, .inl (cI, 24, .inl (nF BL))), (bf, .inl (cI, 24, .inl (nF BF))), (ba, .inl (cI, 24, .inl (oF BA))), (bk, .inl (cI, 24, .inl (oF BK))), (bg, .inl (cI, 24, .inl (nF BG))), (p0, .inr (2, [.ref h0, .int (nI nx), .int (nI pz)])), (h0, .inr (3, [.int (nI 20), .ref hl1, .ref hs1, .ref hw1, .ref hc1])), (hl1, .inl (cJ, 20 * 24, .inr (.inl (lF HL)))), (hs1, .inl (cI, 20 * 24, .inl (nF HS))), (hw1, .inl (cI, 20 * 24, .inl (nF HW))), (hc1, .inl (cI, 20, .inl (nF HC))), (i0, .inr (3, [.int (nI 2), .ref il1, .ref is1, .ref iw1, .ref ic1])), (il1, .inl (cJ, 2 * 24, .inr (.inl (lF IL)))), (is1, .inl (cI, 2 * 24, .inl (nF IS))), (iw1, .inl (cI, 2 * 24, .inl (nF IW))), (ic1, .inl (cI, 2, .inl (nF IC))), (ik, .inl (cZ, 2, .inl (nF IK))), (it, .inl (cI, 2, .inl (nF IT)))]) := by
  have hs8 := hw0.1
  have hA64 := hw0.2.1
  have hBK := tf_BK hTr hn
  have hDK := tf_DK hTr hn
  have hB := tf_B hTr
  have hBF := tf_BF hTr hn
  have hT := tf_T hTr hso
  have hanc := tf_anc hTr hn
  have hp := plc_le KS KL n s A
  have hcb := cbl_le KS KL n s A
  have hfl := fnd_le KS KL n s A
  refine wr_start (by decide) (Nat.le_of_ble_eq_true rfl) ?_
  intro pp ee ss mm below meth cd AA C0 hAA hP hK hD hS hN hnm ls hl
  obtain ⟨hx, hb, hr, hml, hown, hts, hlk⟩ := C0
  have hown : ss.vm.findClass RX5 = some mm.cls := hown
  have hl : lv_has ls 3 [(0, .ref x0), (1, .int (nI j))] := hl
  have hP : va_P D vwCl [(x0, .inr (5, [.ref w0, .ref d0, .ref k0, .ref b0, .ref p0, .ref i0, .ref ik, .ref it, .int (nI sd)])), (w0, .inr (4, [.long (lN A), .int (nI s)])), (d0, .inr (4, [.long (lN dA), .int (nI dz)])), (k0, .inr (1, [.ref kl, .ref ks, .ref kw, .int (nI n)])), (kl, .inl (cJ, 24, .inr (.inl (lF KL)))), (ks, .inl (cI, 24, .inl (nF KS))), (kw, .inl (cI, 24, .inl (nF KW))), (b0, .inr (0, [.ref bb, .ref bd, .ref bm, .ref bl, .ref bf, .ref ba, .ref bk, .ref bg, .int (nI n)])), (bb, .inl (cI, 24, .inl (nF BB))), (bd, .inl (cI, 24, .inl (nF BD))), (bm, .inl (cI, 24, .inl (nF BM))), (bl, .inl (cI, 24, .inl (nF BL))), (bf, .inl (cI, 24, .inl (nF BF))), (ba, .inl (cI, 24, .inl (oF BA))), (bk, .inl (cI, 24, .inl (oF BK))), (bg, .inl (cI, 24, .inl (nF BG))), (p0, .inr (2, [.ref h0, .int (nI nx), .int (nI pz)])), (h0, .inr (3, [.int (nI 20), .ref hl1, .ref hs1, .ref hw1, .ref hc1])), (hl1, .inl (cJ, 20 * 24, .inr (.inl (lF HL)))), (hs1, .inl (cI, 20 * 24, .inl (nF HS))), (hw1, .inl (cI, 20 * 24, .inl (nF HW))), (hc1, .inl (cI, 20, .inl (nF HC))), (i0, .inr (3, [.int (nI 2), .ref il1, .ref is1, .ref iw1, .ref ic1])), (il1, .inl (cJ, 2 * 24, .inr (.inl (lF IL)))), (is1, .inl (cI, 2 * 24, .inl (nF IS))), (iw1, .inl (cI, 2 * 24, .inl (nF IW))), (ic1, .inl (cI, 2, .inl (nF IC))), (ik, .inl (cZ, 2, .inl (nF IK))), (it, .inl (cI, 2, .inl (nF IT)))] ss.heap := hP
  refine lv_iload_n hx hb dX5_seed_0 rfl (lv_at hl 1 rfl) ?_
  refine n_if_ge (tgt := 7) hx hb dX5_seed_1 (by decide) (by omega) ?_
  refine lv_aload_n hx hb dX5_seed_7 rfl (lv_at hl 0 rfl) ?_
  refine va_get (D := D) (ci := 5) (v := .int (nI sd)) (C := RX5) (T := TX5) (N := 9) hx hb hts inX5 hown hK hP 0 rfl rfl 8 (by decide) (hts _ mf_X5_208) (fun _ h9 => h9) rfl dX5_seed_8 ?_
  refine lv_istore_n (lv' := [(2, .int (nI sd)), (0, .ref x0), (1, .int (nI j))]) hx hb dX5_seed_11 rfl hl (by decide) rfl (fun ls hl => ?_)
  refine lv_aload_n hx hb dX5_seed_12 rfl (lv_at hl 1 rfl) ?_
  refine lv_iload_n hx hb dX5_seed_13 rfl (lv_at hl 2 rfl) ?_
  refine va_put (D := D) (ci := 5) (v := .int (nI j)) (ty := .int) (C := RX5) (T := TX5) (N := 9) hx hb hts inX5 tyX5 tyX5_ok nmX5 hown hK hP hD hS 0 rfl rfl 8 (by decide) (hts _ mf_X5_208) (fun _ h9 => h9) rfl (by decide +kernel) rfl rfl (Nat.le_of_ble_eq_true rfl) dX5_seed_14 (fun H locs hP hD hS => ?_)
  have hP : va_P D vwCl [(x0, .inr (5, [.ref w0, .ref d0, .ref k0, .ref b0, .ref p0, .ref i0, .ref ik, .ref it, .int (nI j)])), (w0, .inr (4, [.long (lN A), .int (nI s)])), (d0, .inr (4, [.long (lN dA), .int (nI dz)])), (k0, .inr (1, [.ref kl, .ref ks, .ref kw, .int (nI n)])), (kl, .inl (cJ, 24, .inr (.inl (lF KL)))), (ks, .inl (cI, 24, .inl (nF KS))), (kw, .inl (cI, 24, .inl (nF KW))), (b0, .inr (0, [.ref bb, .ref bd, .ref bm, .ref bl, .ref bf, .ref ba, .ref bk, .ref bg, .int (nI n)])), (bb, .inl (cI, 24, .inl (nF BB))), (bd, .inl (cI, 24, .inl (nF BD))), (bm, .inl (cI, 24, .inl (nF BM))), (bl, .inl (cI, 24, .inl (nF BL))), (bf, .inl (cI, 24, .inl (nF BF))), (ba, .inl (cI, 24, .inl (oF BA))), (bk, .inl (cI, 24, .inl (oF BK))), (bg, .inl (cI, 24, .inl (nF BG))), (p0, .inr (2, [.ref h0, .int (nI nx), .int (nI pz)])), (h0, .inr (3, [.int (nI 20), .ref hl1, .ref hs1, .ref hw1, .ref hc1])), (hl1, .inl (cJ, 20 * 24, .inr (.inl (lF HL)))), (hs1, .inl (cI, 20 * 24, .inl (nF HS))), (hw1, .inl (cI, 20 * 24, .inl (nF HW))), (hc1, .inl (cI, 20, .inl (nF HC))), (i0, .inr (3, [.int (nI 2), .ref il1, .ref is1, .ref iw1, .ref ic1])), (il1, .inl (cJ, 2 * 24, .inr (.inl (lF IL)))), (is1, .inl (cI, 2 * 24, .inl (nF IS))), (iw1, .inl (cI, 2 * 24, .inl (nF IW))), (ic1, .inl (cI, 2, .inl (nF IC))), (ik, .inl (cZ, 2, .inl (nF IK))), (it, .inl (cI, 2, .inl (nF IT)))] H := hP
  have hD : va_D AA [(x0, .inr (5, [.ref w0, .ref d0, .ref k0, .ref b0, .ref p0, .ref i0, .ref ik, .ref it, .int (nI j)])), (w0, .inr (4, [.long (lN A), .int (nI s)])), (d0, .inr (4, [.long (lN dA), .int (nI dz)])), (k0, .inr (1, [.ref kl, .ref ks, .ref kw, .int (nI n)])), (kl, .inl (cJ, 24, .inr (.inl (lF KL)))), (ks, .inl (cI, 24, .inl (nF KS))), (kw, .inl (cI, 24, .inl (nF KW))), (b0, .inr (0, [.ref bb, .ref bd, .ref bm, .ref bl, .ref bf, .ref ba, .ref bk, .ref bg, .int (nI n)])), (bb, .inl (cI, 24, .inl (nF BB))), (bd, .inl (cI, 24, .inl (nF BD))), (bm, .inl (cI, 24, .inl (nF BM))), (bl, .inl (cI, 24, .inl (nF BL))), (bf, .inl (cI, 24, .inl (nF BF))), (ba, .inl (cI, 24, .inl (oF BA))), (bk, .inl (cI, 24, .inl (oF BK))), (bg, .inl (cI, 24, .inl (nF BG))), (p0, .inr (2, [.ref h0, .int (nI nx), .int (nI pz)])), (h0, .inr (3, [.int (nI 20), .ref hl1, .ref hs1, .ref hw1, .ref hc1])), (hl1, .inl (cJ, 20 * 24, .inr (.inl (lF HL)))), (hs1, .inl (cI, 20 * 24, .inl (nF HS))), (hw1, .inl (cI, 20 * 24, .inl (nF HW))), (hc1, .inl (cI, 20, .inl (nF HC))), (i0, .inr (3, [.int (nI 2), .ref il1, .ref is1, .ref iw1, .ref ic1])), (il1, .inl (cJ, 2 * 24, .inr (.inl (lF IL)))), (is1, .inl (cI, 2 * 24, .inl (nF IS))), (iw1, .inl (cI, 2 * 24, .inl (nF IW))), (ic1, .inl (cI, 2, .inl (nF IC))), (ik, .inl (cZ, 2, .inl (nF IK))), (it, .inl (cI, 2, .inl (nF IT)))] := hD
  refine lv_iload_n hx hb dX5_seed_17 rfl (lv_at hl 0 rfl) ?_
  exact wr_iret hx hb hr hlk hP hD hS dX5_seed_18 (⟨rfl, rfl⟩)
