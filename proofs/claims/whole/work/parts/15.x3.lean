theorem nF_cpy (f g : Nat → Nat) (sp dp n : Nat) : va_cpy (nF f) (nF g) sp dp n = nF (va_cpy f g sp dp n) := by
  funext k
  by_cases h : dp ≤ k ∧ k < dp + n <;> simp [va_cpy, nF, h]
theorem lF_cpy (f g : Nat → Nat) (sp dp n : Nat) : va_cpy (lF f) (lF g) sp dp n = lF (va_cpy f g sp dp n) := by
  funext k
  by_cases h : dp ≤ k ∧ k < dp + n <;> simp [va_cpy, lF, h]
theorem nw_ac : nativeFrameWords "java/lang/System" "arraycopy" 5 = 7 := by decide +kernel
section CP
variable {p : Program} {l : Launch} {e : Env} {R : Room} {s : State} {m : MethodId} {args : Array Value} {below : List Frame} {meth : Method} {c : Code} {H : Heap} {locs : List Loc} {cells slots : Nat} {Q : State → Prop}
variable {cc : ByteArray} {pc : Nat} {ls : Array Slot} {rest : List Value}
variable {D : va_G} {tys : List (ClassId × FieldType)} {ws : va_W} {A : Nat → Prop} {H0 : Heap} {a a0 : Nat} {cA : ClassId} {n0 n1 : Nat} {f g : Nat → Nat}
theorem n_copyi (hx : p.tables.exec = Jvm.exec) (hb : c.code = cc) (hml : c.maxLocals = ls.size) {own : String} {index : Nat} (hown : s.vm.findClass own = some m.cls) (hlink : (Cond.methodLink own index arraycopyName).before args s = true) (hnat : (Cond.native arraycopyName).before args s = true) (hstat : (Cond.static arraycopyName).before args s = true) (hini : (Cond.initialized "java/lang/System").before args s = true)
    (hK : va_K D vwCl tys s) (hP : va_P D vwCl ws H) (hD : va_D A ws) (hS : va_S A H0 H locs) (q0 q1 t0 : Nat) (ha0 : ws[q0]? = some (a0, .inl (cA, n0, .inl (nF f)))) (ha1 : ws[q1]? = some (a, .inl (cA, n1, .inl (nF g)))) (ht0 : tys[t0]? = some (cA, .int)) {sp dp n : Nat} (b1 : sp < 2 ^ 31) (b2 : dp < 2 ^ 31) (b3 : n < 2 ^ 31) (h4 : sp + n ≤ n0) (h5 : dp + n ≤ n1)
    (hframes : 1 ≤ R.frames) (hlocals : (rest.map fun v => v.category).sum + 18 ≤ R.locals) (hdg : decode cc pc = .ok (.invokestatic index, 3))
    (kk : ∀ (H1 : Heap) (locs1 : List Loc), va_P D vwCl (ws.set q1 (a, .inl (cA, n1, .inl (nF (va_cpy f g sp dp n))))) H1 → va_D A (ws.set q1 (a, .inl (cA, n1, .inl (nF (va_cpy f g sp dp n))))) → va_S A H0 H1 locs1 → W p l e R s m args below meth c H1 locs1 cells slots Q (F0 m (pc + 3) ls rest)) : W p l e R s m args below meth c H locs cells slots Q (F0 m pc ls (.int (nI n) :: .int (nI dp) :: .ref a :: .int (nI sp) :: .ref a0 :: rest)) := by
  refine va_copyi hx hb hml hown hlink hnat hstat hini hK hP hD hS q0 q1 t0 t0 ha0 ha1 ht0 ht0 rfl (nI_pos b1) (nI_pos b2) (nI_pos b3) (by rw [nI_clamp b1, nI_clamp b3]; exact h4) (by rw [nI_clamp b2, nI_clamp b3]; exact h5) (fun _ _ => rfl) hframes (by rw [nw_ac]; exact hlocals) hdg ?_
  rw [nI_clamp b1, nI_clamp b2, nI_clamp b3, nF_cpy]
  exact kk
theorem n_copyl (hx : p.tables.exec = Jvm.exec) (hb : c.code = cc) (hml : c.maxLocals = ls.size) {own : String} {index : Nat} (hown : s.vm.findClass own = some m.cls) (hlink : (Cond.methodLink own index arraycopyName).before args s = true) (hnat : (Cond.native arraycopyName).before args s = true) (hstat : (Cond.static arraycopyName).before args s = true) (hini : (Cond.initialized "java/lang/System").before args s = true)
    (hK : va_K D vwCl tys s) (hP : va_P D vwCl ws H) (hD : va_D A ws) (hS : va_S A H0 H locs) (q0 q1 t0 : Nat) (ha0 : ws[q0]? = some (a0, .inl (cA, n0, .inr (.inl (lF f))))) (ha1 : ws[q1]? = some (a, .inl (cA, n1, .inr (.inl (lF g))))) (ht0 : tys[t0]? = some (cA, .long)) {sp dp n : Nat} (b1 : sp < 2 ^ 31) (b2 : dp < 2 ^ 31) (b3 : n < 2 ^ 31) (h4 : sp + n ≤ n0) (h5 : dp + n ≤ n1)
    (hframes : 1 ≤ R.frames) (hlocals : (rest.map fun v => v.category).sum + 18 ≤ R.locals) (hdg : decode cc pc = .ok (.invokestatic index, 3))
    (kk : ∀ (H1 : Heap) (locs1 : List Loc), va_P D vwCl (ws.set q1 (a, .inl (cA, n1, .inr (.inl (lF (va_cpy f g sp dp n)))))) H1 → va_D A (ws.set q1 (a, .inl (cA, n1, .inr (.inl (lF (va_cpy f g sp dp n)))))) → va_S A H0 H1 locs1 → W p l e R s m args below meth c H1 locs1 cells slots Q (F0 m (pc + 3) ls rest)) : W p l e R s m args below meth c H locs cells slots Q (F0 m pc ls (.int (nI n) :: .int (nI dp) :: .ref a :: .int (nI sp) :: .ref a0 :: rest)) := by
  refine va_copyl hx hb hml hown hlink hnat hstat hini hK hP hD hS q0 q1 t0 t0 ha0 ha1 ht0 ht0 rfl (nI_pos b1) (nI_pos b2) (nI_pos b3) (by rw [nI_clamp b1, nI_clamp b3]; exact h4) (by rw [nI_clamp b2, nI_clamp b3]; exact h5) (fun _ _ => rfl) hframes (by rw [nw_ac]; exact hlocals) hdg ?_
  rw [nI_clamp b1, nI_clamp b2, nI_clamp b3, lF_cpy]
  exact kk
end CP
set_option maxHeartbeats 4000000 in
set_option maxRecDepth 100000 in
theorem c_X3_store (l : Launch) (D : va_G) (cI cJ cZ : ClassId) (h0 hl1 hs1 hw1 hc1 : Nat) (HL HS HW HC : Nat → Nat) (N : Nat) (hN20 : N ≤ 20) (k0 kl ks kw : Nat) (KL KS KW : Nat → Nat) (n : Nat) (hn : n ≤ 24) (i sz : Nat) (hi : i < N) : WR l yX3_store cX3_store 4 none (rmN 1 40) D (ty3 cI cJ cZ) [.ref h0, .int (nI i), .ref k0] [(h0, .inr (3, [.int (nI N), .ref hl1, .ref hs1, .ref hw1, .ref hc1])), (hl1, .inl (cJ, N * 24, .inr (.inl (lF HL)))), (hs1, .inl (cI, N * 24, .inl (nF HS))), (hw1, .inl (cI, N * 24, .inl (nF HW))), (hc1, .inl (cI, N, .inl (nF HC))), (k0, .inr (1, [.ref kl, .ref ks, .ref kw, .int (nI n)])), (kl, .inl (cJ, 24, .inr (.inl (lF KL)))), (ks, .inl (cI, 24, .inl (nF KS))), (kw, .inl (cI, 24, .inl (nF KW)))] sz (fun x w => x = none ∧ w = [(h0, .inr (3, [.int (nI N), .ref hl1, .ref hs1, .ref hw1, .ref hc1])), (hl1, .inl (cJ, N * 24, .inr (.inl (lF (va_cpy KL HL 0 (i * 24) n))))), (hs1, .inl (cI, N * 24, .inl (nF (va_cpy KS HS 0 (i * 24) n)))), (hw1, .inl (cI, N * 24, .inl (nF (va_cpy KW HW 0 (i * 24) n)))), (hc1, .inl (cI, N, .inl (nF (up HC i n)))), (k0, .inr (1, [.ref kl, .ref ks, .ref kw, .int (nI n)])), (kl, .inl (cJ, 24, .inr (.inl (lF KL)))), (ks, .inl (cI, 24, .inl (nF KS))), (kw, .inl (cI, 24, .inl (nF KW)))]) := by
  refine wr_start (by decide) (Nat.le_of_ble_eq_true rfl) ?_
  intro pp ee ss mm below meth cd AA C0 hAA hP hK hD hS hN hnm ls hl
  obtain ⟨hx, hb, hr, hml, hown, hts, hlk⟩ := C0
  have hown : ss.vm.findClass RX3 = some mm.cls := hown
  have hl : lv_has ls 4 [(0, .ref h0), (1, .int (nI i)), (2, .ref k0)] := hl
  have hP : va_P D vwCl [(h0, .inr (3, [.int (nI N), .ref hl1, .ref hs1, .ref hw1, .ref hc1])), (hl1, .inl (cJ, N * 24, .inr (.inl (lF HL)))), (hs1, .inl (cI, N * 24, .inl (nF HS))), (hw1, .inl (cI, N * 24, .inl (nF HW))), (hc1, .inl (cI, N, .inl (nF HC))), (k0, .inr (1, [.ref kl, .ref ks, .ref kw, .int (nI n)])), (kl, .inl (cJ, 24, .inr (.inl (lF KL)))), (ks, .inl (cI, 24, .inl (nF KS))), (kw, .inl (cI, 24, .inl (nF KW)))] ss.heap := hP
  refine lv_iload_n hx hb dX3_store_0 rfl (lv_at hl 1 rfl) ?_
  refine n_if_lt (tgt := 12) hx hb dX3_store_1 (by decide) (by omega) ?_
  refine lv_iload_n hx hb dX3_store_4 rfl (lv_at hl 1 rfl) ?_
  refine lv_aload_n hx hb dX3_store_5 rfl (lv_at hl 0 rfl) ?_
  refine va_get (D := D) (ci := 3) (v := .int (nI N)) (C := RX3) (T := TX3) (N := 5) hx hb hts inX3 hown hK hP 0 rfl rfl 0 (by decide) (hts _ mf_X3_9) (fun _ h9 => h9) rfl dX3_store_6 ?_
  refine n_lt (tgt := 13) hx hb dX3_store_9 (by decide) (by omega) (by omega) (fun c2 => ?_) (fun c2 => ?_)
  ·
    refine lv_iload_n hx hb dX3_store_13 rfl (lv_at hl 1 rfl) ?_
    refine lv_bipush (v := nI 24) hx hb dX3_store_14 (by decide +kernel) ?_
    refine n_imul hx hb dX3_store_16 ?_
    refine lv_istore_n (lv' := [(3, .int (nI (i * 24))), (0, .ref h0), (1, .int (nI i)), (2, .ref k0)]) hx hb dX3_store_17 rfl hl (by decide) rfl (fun ls hl => ?_)
    refine lv_aload_n hx hb dX3_store_18 rfl (lv_at hl 3 rfl) ?_
    refine va_getN (D := D) (ci := 1) (v := .ref kl) (C := RX1) (T := TX1) (N := 4) hx hb hts inX1 hown hK hP 5 rfl rfl 0 (by decide) (va_Nw.use rfl hN.1.1) (fun _ h9 => h9) rfl dX3_store_19 ?_
    refine lv_iconst (v := nI 0) hx hb dX3_store_22 (by decide +kernel) ?_
    refine lv_aload_n hx hb dX3_store_23 rfl (lv_at hl 1 rfl) ?_
    refine va_get (D := D) (ci := 3) (v := .ref hl1) (C := RX3) (T := TX3) (N := 5) hx hb hts inX3 hown hK hP 0 rfl rfl 1 (by decide) (hts _ mf_X3_15) (fun _ h9 => h9) rfl dX3_store_24 ?_
    refine lv_iload_n hx hb dX3_store_27 rfl (lv_at hl 0 rfl) ?_
    refine lv_aload_n hx hb dX3_store_28 rfl (lv_at hl 3 rfl) ?_
    refine va_getN (D := D) (ci := 1) (v := .int (nI n)) (C := RX1) (T := TX1) (N := 4) hx hb hts inX1 hown hK hP 5 rfl rfl 3 (by decide) (va_Nw.use rfl hN.1.2.2.2) (fun _ h9 => h9) rfl dX3_store_29 ?_
    refine n_copyl hx hb (hml.trans hl.1.symm) hown (hts _ ml_X3_35) (hts _ mna_System_arraycopy) (hts _ ms_System_arraycopy) (hts _ mn_System) hK hP hD hS 6 1 1 rfl rfl rfl (by omega) (by omega) (by omega) (by omega) (by omega) (Nat.le_of_ble_eq_true rfl) (Nat.le_of_ble_eq_true rfl) dX3_store_32 (fun H locs hP hD hS => ?_)
    have hP : va_P D vwCl [(h0, .inr (3, [.int (nI N), .ref hl1, .ref hs1, .ref hw1, .ref hc1])), (hl1, .inl (cJ, N * 24, .inr (.inl (lF (va_cpy KL HL 0 (i * 24) n))))), (hs1, .inl (cI, N * 24, .inl (nF HS))), (hw1, .inl (cI, N * 24, .inl (nF HW))), (hc1, .inl (cI, N, .inl (nF HC))), (k0, .inr (1, [.ref kl, .ref ks, .ref kw, .int (nI n)])), (kl, .inl (cJ, 24, .inr (.inl (lF KL)))), (ks, .inl (cI, 24, .inl (nF KS))), (kw, .inl (cI, 24, .inl (nF KW)))] H := hP
    have hD : va_D AA [(h0, .inr (3, [.int (nI N), .ref hl1, .ref hs1, .ref hw1, .ref hc1])), (hl1, .inl (cJ, N * 24, .inr (.inl (lF (va_cpy KL HL 0 (i * 24) n))))), (hs1, .inl (cI, N * 24, .inl (nF HS))), (hw1, .inl (cI, N * 24, .inl (nF HW))), (hc1, .inl (cI, N, .inl (nF HC))), (k0, .inr (1, [.ref kl, .ref ks, .ref kw, .int (nI n)])), (kl, .inl (cJ, 24, .inr (.inl (lF KL)))), (ks, .inl (cI, 24, .inl (nF KS))), (kw, .inl (cI, 24, .inl (nF KW)))] := hD
    refine lv_aload_n hx hb dX3_store_35 rfl (lv_at hl 3 rfl) ?_
    refine va_getN (D := D) (ci := 1) (v := .ref ks) (C := RX1) (T := TX1) (N := 4) hx hb hts inX1 hown hK hP 5 rfl rfl 1 (by decide) (va_Nw.use rfl hN.1.2.1) (fun _ h9 => h9) rfl dX3_store_36 ?_
    refine lv_iconst (v := nI 0) hx hb dX3_store_39 (by decide +kernel) ?_
    refine lv_aload_n hx hb dX3_store_40 rfl (lv_at hl 1 rfl) ?_
    refine va_get (D := D) (ci := 3) (v := .ref hs1) (C := RX3) (T := TX3) (N := 5) hx hb hts inX3 hown hK hP 0 rfl rfl 2 (by decide) (hts _ mf_X3_19) (fun _ h9 => h9) rfl dX3_store_41 ?_
    refine lv_iload_n hx hb dX3_store_44 rfl (lv_at hl 0 rfl) ?_
    refine lv_aload_n hx hb dX3_store_45 rfl (lv_at hl 3 rfl) ?_
    refine va_getN (D := D) (ci := 1) (v := .int (nI n)) (C := RX1) (T := TX1) (N := 4) hx hb hts inX1 hown hK hP 5 rfl rfl 3 (by decide) (va_Nw.use rfl hN.1.2.2.2) (fun _ h9 => h9) rfl dX3_store_46 ?_
    refine n_copyi hx hb (hml.trans hl.1.symm) hown (hts _ ml_X3_35) (hts _ mna_System_arraycopy) (hts _ ms_System_arraycopy) (hts _ mn_System) hK hP hD hS 7 2 0 rfl rfl rfl (by omega) (by omega) (by omega) (by omega) (by omega) (Nat.le_of_ble_eq_true rfl) (Nat.le_of_ble_eq_true rfl) dX3_store_49 (fun H locs hP hD hS => ?_)
    have hP : va_P D vwCl [(h0, .inr (3, [.int (nI N), .ref hl1, .ref hs1, .ref hw1, .ref hc1])), (hl1, .inl (cJ, N * 24, .inr (.inl (lF (va_cpy KL HL 0 (i * 24) n))))), (hs1, .inl (cI, N * 24, .inl (nF (va_cpy KS HS 0 (i * 24) n)))), (hw1, .inl (cI, N * 24, .inl (nF HW))), (hc1, .inl (cI, N, .inl (nF HC))), (k0, .inr (1, [.ref kl, .ref ks, .ref kw, .int (nI n)])), (kl, .inl (cJ, 24, .inr (.inl (lF KL)))), (ks, .inl (cI, 24, .inl (nF KS))), (kw, .inl (cI, 24, .inl (nF KW)))] H := hP
    have hD : va_D AA [(h0, .inr (3, [.int (nI N), .ref hl1, .ref hs1, .ref hw1, .ref hc1])), (hl1, .inl (cJ, N * 24, .inr (.inl (lF (va_cpy KL HL 0 (i * 24) n))))), (hs1, .inl (cI, N * 24, .inl (nF (va_cpy KS HS 0 (i * 24) n)))), (hw1, .inl (cI, N * 24, .inl (nF HW))), (hc1, .inl (cI, N, .inl (nF HC))), (k0, .inr (1, [.ref kl, .ref ks, .ref kw, .int (nI n)])), (kl, .inl (cJ, 24, .inr (.inl (lF KL)))), (ks, .inl (cI, 24, .inl (nF KS))), (kw, .inl (cI, 24, .inl (nF KW)))] := hD
    refine lv_aload_n hx hb dX3_store_52 rfl (lv_at hl 3 rfl) ?_
    refine va_getN (D := D) (ci := 1) (v := .ref kw) (C := RX1) (T := TX1) (N := 4) hx hb hts inX1 hown hK hP 5 rfl rfl 2 (by decide) (va_Nw.use rfl hN.1.2.2.1) (fun _ h9 => h9) rfl dX3_store_53 ?_
    refine lv_iconst (v := nI 0) hx hb dX3_store_56 (by decide +kernel) ?_
    refine lv_aload_n hx hb dX3_store_57 rfl (lv_at hl 1 rfl) ?_
    refine va_get (D := D) (ci := 3) (v := .ref hw1) (C := RX3) (T := TX3) (N := 5) hx hb hts inX3 hown hK hP 0 rfl rfl 3 (by decide) (hts _ mf_X3_23) (fun _ h9 => h9) rfl dX3_store_58 ?_
    refine lv_iload_n hx hb dX3_store_61 rfl (lv_at hl 0 rfl) ?_
    refine lv_aload_n hx hb dX3_store_62 rfl (lv_at hl 3 rfl) ?_
    refine va_getN (D := D) (ci := 1) (v := .int (nI n)) (C := RX1) (T := TX1) (N := 4) hx hb hts inX1 hown hK hP 5 rfl rfl 3 (by decide) (va_Nw.use rfl hN.1.2.2.2) (fun _ h9 => h9) rfl dX3_store_63 ?_
    refine n_copyi hx hb (hml.trans hl.1.symm) hown (hts _ ml_X3_35) (hts _ mna_System_arraycopy) (hts _ ms_System_arraycopy) (hts _ mn_System) hK hP hD hS 8 3 0 rfl rfl rfl (by omega) (by omega) (by omega) (by omega) (by omega) (Nat.le_of_ble_eq_true rfl) (Nat.le_of_ble_eq_true rfl) dX3_store_66 (fun H locs hP hD hS => ?_)
    have hP : va_P D vwCl [(h0, .inr (3, [.int (nI N), .ref hl1, .ref hs1, .ref hw1, .ref hc1])), (hl1, .inl (cJ, N * 24, .inr (.inl (lF (va_cpy KL HL 0 (i * 24) n))))), (hs1, .inl (cI, N * 24, .inl (nF (va_cpy KS HS 0 (i * 24) n)))), (hw1, .inl (cI, N * 24, .inl (nF (va_cpy KW HW 0 (i * 24) n)))), (hc1, .inl (cI, N, .inl (nF HC))), (k0, .inr (1, [.ref kl, .ref ks, .ref kw, .int (nI n)])), (kl, .inl (cJ, 24, .inr (.inl (lF KL)))), (ks, .inl (cI, 24, .inl (nF KS))), (kw, .inl (cI, 24, .inl (nF KW)))] H := hP
    have hD : va_D AA [(h0, .inr (3, [.int (nI N), .ref hl1, .ref hs1, .ref hw1, .ref hc1])), (hl1, .inl (cJ, N * 24, .inr (.inl (lF (va_cpy KL HL 0 (i * 24) n))))), (hs1, .inl (cI, N * 24, .inl (nF (va_cpy KS HS 0 (i * 24) n)))), (hw1, .inl (cI, N * 24, .inl (nF (va_cpy KW HW 0 (i * 24) n)))), (hc1, .inl (cI, N, .inl (nF HC))), (k0, .inr (1, [.ref kl, .ref ks, .ref kw, .int (nI n)])), (kl, .inl (cJ, 24, .inr (.inl (lF KL)))), (ks, .inl (cI, 24, .inl (nF KS))), (kw, .inl (cI, 24, .inl (nF KW)))] := hD
    refine lv_aload_n hx hb dX3_store_69 rfl (lv_at hl 1 rfl) ?_
    refine va_get (D := D) (ci := 3) (v := .ref hc1) (C := RX3) (T := TX3) (N := 5) hx hb hts inX3 hown hK hP 0 rfl rfl 4 (by decide) (hts _ mf_X3_26) (fun _ h9 => h9) rfl dX3_store_70 ?_
    refine lv_iload_n hx hb dX3_store_73 rfl (lv_at hl 2 rfl) ?_
    refine lv_aload_n hx hb dX3_store_74 rfl (lv_at hl 3 rfl) ?_
    refine va_getN (D := D) (ci := 1) (v := .int (nI n)) (C := RX1) (T := TX1) (N := 4) hx hb hts inX1 hown hK hP 5 rfl rfl 3 (by decide) (va_Nw.use rfl hN.1.2.2.2) (fun _ h9 => h9) rfl dX3_store_75 ?_
    refine n_iast hx hb hK hP hD hS 4 0 rfl rfl (k := i) (v := n) (by omega) (by omega) dX3_store_78 (fun H locs hP hD hS => ?_)
    have hP : va_P D vwCl [(h0, .inr (3, [.int (nI N), .ref hl1, .ref hs1, .ref hw1, .ref hc1])), (hl1, .inl (cJ, N * 24, .inr (.inl (lF (va_cpy KL HL 0 (i * 24) n))))), (hs1, .inl (cI, N * 24, .inl (nF (va_cpy KS HS 0 (i * 24) n)))), (hw1, .inl (cI, N * 24, .inl (nF (va_cpy KW HW 0 (i * 24) n)))), (hc1, .inl (cI, N, .inl (nF (up HC i n)))), (k0, .inr (1, [.ref kl, .ref ks, .ref kw, .int (nI n)])), (kl, .inl (cJ, 24, .inr (.inl (lF KL)))), (ks, .inl (cI, 24, .inl (nF KS))), (kw, .inl (cI, 24, .inl (nF KW)))] H := hP
    have hD : va_D AA [(h0, .inr (3, [.int (nI N), .ref hl1, .ref hs1, .ref hw1, .ref hc1])), (hl1, .inl (cJ, N * 24, .inr (.inl (lF (va_cpy KL HL 0 (i * 24) n))))), (hs1, .inl (cI, N * 24, .inl (nF (va_cpy KS HS 0 (i * 24) n)))), (hw1, .inl (cI, N * 24, .inl (nF (va_cpy KW HW 0 (i * 24) n)))), (hc1, .inl (cI, N, .inl (nF (up HC i n)))), (k0, .inr (1, [.ref kl, .ref ks, .ref kw, .int (nI n)])), (kl, .inl (cJ, 24, .inr (.inl (lF KL)))), (ks, .inl (cI, 24, .inl (nF KS))), (kw, .inl (cI, 24, .inl (nF KW)))] := hD
    exact wr_vret hx hb hr hlk hP hD hS dX3_store_79 (⟨rfl, rfl⟩)
  ·
    exact absurd c2 (by omega)
set_option maxHeartbeats 4000000 in
set_option maxRecDepth 100000 in
theorem c_X3_load (l : Launch) (D : va_G) (cI cJ cZ : ClassId) (h0 hl1 hs1 hw1 hc1 : Nat) (HL HS HW HC : Nat → Nat) (N : Nat) (hN20 : N ≤ 20) (k0 kl ks kw : Nat) (KL KS KW : Nat → Nat) (n : Nat) (hn : n ≤ 24) (i sz : Nat) (hi : i < N) (hci : HC i ≤ 24) : WR l yX3_load cX3_load 4 none (rmN 1 40) D (ty3 cI cJ cZ) [.ref h0, .int (nI i), .ref k0] [(h0, .inr (3, [.int (nI N), .ref hl1, .ref hs1, .ref hw1, .ref hc1])), (hl1, .inl (cJ, N * 24, .inr (.inl (lF HL)))), (hs1, .inl (cI, N * 24, .inl (nF HS))), (hw1, .inl (cI, N * 24, .inl (nF HW))), (hc1, .inl (cI, N, .inl (nF HC))), (k0, .inr (1, [.ref kl, .ref ks, .ref kw, .int (nI n)])), (kl, .inl (cJ, 24, .inr (.inl (lF KL)))), (ks, .inl (cI, 24, .inl (nF KS))), (kw, .inl (cI, 24, .inl (nF KW)))] sz (fun x w => x = none ∧ w = [(h0, .inr (3, [.int (nI N), .ref hl1, .ref hs1, .ref hw1, .ref hc1])), (hl1, .inl (cJ, N * 24, .inr (.inl (lF HL)))), (hs1, .inl (cI, N * 24, .inl (nF HS))), (hw1, .inl (cI, N * 24, .inl (nF HW))), (hc1, .inl (cI, N, .inl (nF HC))), (k0, .inr (1, [.ref kl, .ref ks, .ref kw, .int (nI (HC i))])), (kl, .inl (cJ, 24, .inr (.inl (lF (va_cpy HL KL (i * 24) 0 (HC i)))))), (ks, .inl (cI, 24, .inl (nF (va_cpy HS KS (i * 24) 0 (HC i))))), (kw, .inl (cI, 24, .inl (nF (va_cpy HW KW (i * 24) 0 (HC i)))))]) := by
  refine wr_start (by decide) (Nat.le_of_ble_eq_true rfl) ?_
  intro pp ee ss mm below meth cd AA C0 hAA hP hK hD hS hN hnm ls hl
  obtain ⟨hx, hb, hr, hml, hown, hts, hlk⟩ := C0
  have hown : ss.vm.findClass RX3 = some mm.cls := hown
  have hl : lv_has ls 4 [(0, .ref h0), (1, .int (nI i)), (2, .ref k0)] := hl
  have hP : va_P D vwCl [(h0, .inr (3, [.int (nI N), .ref hl1, .ref hs1, .ref hw1, .ref hc1])), (hl1, .inl (cJ, N * 24, .inr (.inl (lF HL)))), (hs1, .inl (cI, N * 24, .inl (nF HS))), (hw1, .inl (cI, N * 24, .inl (nF HW))), (hc1, .inl (cI, N, .inl (nF HC))), (k0, .inr (1, [.ref kl, .ref ks, .ref kw, .int (nI n)])), (kl, .inl (cJ, 24, .inr (.inl (lF KL)))), (ks, .inl (cI, 24, .inl (nF KS))), (kw, .inl (cI, 24, .inl (nF KW)))] ss.heap := hP
  refine lv_iload_n hx hb dX3_load_0 rfl (lv_at hl 1 rfl) ?_
  refine n_if_lt (tgt := 12) hx hb dX3_load_1 (by decide) (by omega) ?_
  refine lv_iload_n hx hb dX3_load_4 rfl (lv_at hl 1 rfl) ?_
  refine lv_aload_n hx hb dX3_load_5 rfl (lv_at hl 0 rfl) ?_
  refine va_get (D := D) (ci := 3) (v := .int (nI N)) (C := RX3) (T := TX3) (N := 5) hx hb hts inX3 hown hK hP 0 rfl rfl 0 (by decide) (hts _ mf_X3_9) (fun _ h9 => h9) rfl dX3_load_6 ?_
  refine n_lt (tgt := 13) hx hb dX3_load_9 (by decide) (by omega) (by omega) (fun c2 => ?_) (fun c2 => ?_)
  ·
    refine lv_iload_n hx hb dX3_load_13 rfl (lv_at hl 1 rfl) ?_
    refine lv_bipush (v := nI 24) hx hb dX3_load_14 (by decide +kernel) ?_
    refine n_imul hx hb dX3_load_16 ?_
    refine lv_istore_n (lv' := [(3, .int (nI (i * 24))), (0, .ref h0), (1, .int (nI i)), (2, .ref k0)]) hx hb dX3_load_17 rfl hl (by decide) rfl (fun ls hl => ?_)
    refine lv_aload_n hx hb dX3_load_18 rfl (lv_at hl 3 rfl) ?_
    refine lv_aload_n hx hb dX3_load_19 rfl (lv_at hl 1 rfl) ?_
    refine va_get (D := D) (ci := 3) (v := .ref hc1) (C := RX3) (T := TX3) (N := 5) hx hb hts inX3 hown hK hP 0 rfl rfl 4 (by decide) (hts _ mf_X3_26) (fun _ h9 => h9) rfl dX3_load_20 ?_
    refine lv_iload_n hx hb dX3_load_23 rfl (lv_at hl 2 rfl) ?_
    refine n_iald hx hb hK hP 4 0 rfl rfl (k := i) (by omega) (by omega) dX3_load_24 ?_
    refine va_putN (D := D) (ci := 1) (v := .int (nI (HC i))) (ty := .int) (C := RX1) (T := TX1) (N := 4) hx hb hts inX1 tyX1 tyX1_ok nmX1 hown hK hP hD hS 5 rfl rfl 3 (by decide) (va_Nw.use rfl hN.1.2.2.2) (fun _ h9 => h9) rfl (by decide +kernel) rfl rfl (Nat.le_of_ble_eq_true rfl) dX3_load_25 (fun H locs hP hD hS => ?_)
    have hP : va_P D vwCl [(h0, .inr (3, [.int (nI N), .ref hl1, .ref hs1, .ref hw1, .ref hc1])), (hl1, .inl (cJ, N * 24, .inr (.inl (lF HL)))), (hs1, .inl (cI, N * 24, .inl (nF HS))), (hw1, .inl (cI, N * 24, .inl (nF HW))), (hc1, .inl (cI, N, .inl (nF HC))), (k0, .inr (1, [.ref kl, .ref ks, .ref kw, .int (nI (HC i))])), (kl, .inl (cJ, 24, .inr (.inl (lF KL)))), (ks, .inl (cI, 24, .inl (nF KS))), (kw, .inl (cI, 24, .inl (nF KW)))] H := hP
    have hD : va_D AA [(h0, .inr (3, [.int (nI N), .ref hl1, .ref hs1, .ref hw1, .ref hc1])), (hl1, .inl (cJ, N * 24, .inr (.inl (lF HL)))), (hs1, .inl (cI, N * 24, .inl (nF HS))), (hw1, .inl (cI, N * 24, .inl (nF HW))), (hc1, .inl (cI, N, .inl (nF HC))), (k0, .inr (1, [.ref kl, .ref ks, .ref kw, .int (nI (HC i))])), (kl, .inl (cJ, 24, .inr (.inl (lF KL)))), (ks, .inl (cI, 24, .inl (nF KS))), (kw, .inl (cI, 24, .inl (nF KW)))] := hD
    refine lv_aload_n hx hb dX3_load_28 rfl (lv_at hl 1 rfl) ?_
    refine va_get (D := D) (ci := 3) (v := .ref hl1) (C := RX3) (T := TX3) (N := 5) hx hb hts inX3 hown hK hP 0 rfl rfl 1 (by decide) (hts _ mf_X3_15) (fun _ h9 => h9) rfl dX3_load_29 ?_
    refine lv_iload_n hx hb dX3_load_32 rfl (lv_at hl 0 rfl) ?_
    refine lv_aload_n hx hb dX3_load_33 rfl (lv_at hl 3 rfl) ?_
    refine va_getN (D := D) (ci := 1) (v := .ref kl) (C := RX1) (T := TX1) (N := 4) hx hb hts inX1 hown hK hP 5 rfl rfl 0 (by decide) (va_Nw.use rfl hN.1.1) (fun _ h9 => h9) rfl dX3_load_34 ?_
    refine lv_iconst (v := nI 0) hx hb dX3_load_37 (by decide +kernel) ?_
    refine lv_aload_n hx hb dX3_load_38 rfl (lv_at hl 3 rfl) ?_
    refine va_getN (D := D) (ci := 1) (v := .int (nI (HC i))) (C := RX1) (T := TX1) (N := 4) hx hb hts inX1 hown hK hP 5 rfl rfl 3 (by decide) (va_Nw.use rfl hN.1.2.2.2) (fun _ h9 => h9) rfl dX3_load_39 ?_
    refine n_copyl hx hb (hml.trans hl.1.symm) hown (hts _ ml_X3_35) (hts _ mna_System_arraycopy) (hts _ ms_System_arraycopy) (hts _ mn_System) hK hP hD hS 1 6 1 rfl rfl rfl (by omega) (by omega) (by omega) (by omega) (by omega) (Nat.le_of_ble_eq_true rfl) (Nat.le_of_ble_eq_true rfl) dX3_load_42 (fun H locs hP hD hS => ?_)
    have hP : va_P D vwCl [(h0, .inr (3, [.int (nI N), .ref hl1, .ref hs1, .ref hw1, .ref hc1])), (hl1, .inl (cJ, N * 24, .inr (.inl (lF HL)))), (hs1, .inl (cI, N * 24, .inl (nF HS))), (hw1, .inl (cI, N * 24, .inl (nF HW))), (hc1, .inl (cI, N, .inl (nF HC))), (k0, .inr (1, [.ref kl, .ref ks, .ref kw, .int (nI (HC i))])), (kl, .inl (cJ, 24, .inr (.inl (lF (va_cpy HL KL (i * 24) 0 (HC i)))))), (ks, .inl (cI, 24, .inl (nF KS))), (kw, .inl (cI, 24, .inl (nF KW)))] H := hP
    have hD : va_D AA [(h0, .inr (3, [.int (nI N), .ref hl1, .ref hs1, .ref hw1, .ref hc1])), (hl1, .inl (cJ, N * 24, .inr (.inl (lF HL)))), (hs1, .inl (cI, N * 24, .inl (nF HS))), (hw1, .inl (cI, N * 24, .inl (nF HW))), (hc1, .inl (cI, N, .inl (nF HC))), (k0, .inr (1, [.ref kl, .ref ks, .ref kw, .int (nI (HC i))])), (kl, .inl (cJ, 24, .inr (.inl (lF (va_cpy HL KL (i * 24) 0 (HC i)))))), (ks, .inl (cI, 24, .inl (nF KS))), (kw, .inl (cI, 24, .inl (nF KW)))] := hD
    refine lv_aload_n hx hb dX3_load_45 rfl (lv_at hl 1 rfl) ?_
    refine va_get (D := D) (ci := 3) (v := .ref hs1) (C := RX3) (T := TX3) (N := 5) hx hb hts inX3 hown hK hP 0 rfl rfl 2 (by decide) (hts _ mf_X3_19) (fun _ h9 => h9) rfl dX3_load_46 ?_
    refine lv_iload_n hx hb dX3_load_49 rfl (lv_at hl 0 rfl) ?_
    refine lv_aload_n hx hb dX3_load_50 rfl (lv_at hl 3 rfl) ?_
    refine va_getN (D := D) (ci := 1) (v := .ref ks) (C := RX1) (T := TX1) (N := 4) hx hb hts inX1 hown hK hP 5 rfl rfl 1 (by decide) (va_Nw.use rfl hN.1.2.1) (fun _ h9 => h9) rfl dX3_load_51 ?_
    refine lv_iconst (v := nI 0) hx hb dX3_load_54 (by decide +kernel) ?_
    refine lv_aload_n hx hb dX3_load_55 rfl (lv_at hl 3 rfl) ?_
    refine va_getN (D := D) (ci := 1) (v := .int (nI (HC i))) (C := RX1) (T := TX1) (N := 4) hx hb hts inX1 hown hK hP 5 rfl rfl 3 (by decide) (va_Nw.use rfl hN.1.2.2.2) (fun _ h9 => h9) rfl dX3_load_56 ?_
    refine n_copyi hx hb (hml.trans hl.1.symm) hown (hts _ ml_X3_35) (hts _ mna_System_arraycopy) (hts _ ms_System_arraycopy) (hts _ mn_System) hK hP hD hS 2 7 0 rfl rfl rfl (by omega) (by omega) (by omega) (by omega) (by omega) (Nat.le_of_ble_eq_true rfl) (Nat.le_of_ble_eq_true rfl) dX3_load_59 (fun H locs hP hD hS => ?_)
    have hP : va_P D vwCl [(h0, .inr (3, [.int (nI N), .ref hl1, .ref hs1, .ref hw1, .ref hc1])), (hl1, .inl (cJ, N * 24, .inr (.inl (lF HL)))), (hs1, .inl (cI, N * 24, .inl (nF HS))), (hw1, .inl (cI, N * 24, .inl (nF HW))), (hc1, .inl (cI, N, .inl (nF HC))), (k0, .inr (1, [.ref kl, .ref ks, .ref kw, .int (nI (HC i))])), (kl, .inl (cJ, 24, .inr (.inl (lF (va_cpy HL KL (i * 24) 0 (HC i)))))), (ks, .inl (cI, 24, .inl (nF (va_cpy HS KS (i * 24) 0 (HC i))))), (kw, .inl (cI, 24, .inl (nF KW)))] H := hP
    have hD : va_D AA [(h0, .inr (3, [.int (nI N), .ref hl1, .ref hs1, .ref hw1, .ref hc1])), (hl1, .inl (cJ, N * 24, .inr (.inl (lF HL)))), (hs1, .inl (cI, N * 24, .inl (nF HS))), (hw1, .inl (cI, N * 24, .inl (nF HW))), (hc1, .inl (cI, N, .inl (nF HC))), (k0, .inr (1, [.ref kl, .ref ks, .ref kw, .int (nI (HC i))])), (kl, .inl (cJ, 24, .inr (.inl (lF (va_cpy HL KL (i * 24) 0 (HC i)))))), (ks, .inl (cI, 24, .inl (nF (va_cpy HS KS (i * 24) 0 (HC i))))), (kw, .inl (cI, 24, .inl (nF KW)))] := hD
    refine lv_aload_n hx hb dX3_load_62 rfl (lv_at hl 1 rfl) ?_
    refine va_get (D := D) (ci := 3) (v := .ref hw1) (C := RX3) (T := TX3) (N := 5) hx hb hts inX3 hown hK hP 0 rfl rfl 3 (by decide) (hts _ mf_X3_23) (fun _ h9 => h9) rfl dX3_load_63 ?_
    refine lv_iload_n hx hb dX3_load_66 rfl (lv_at hl 0 rfl) ?_
    refine lv_aload_n hx hb dX3_load_67 rfl (lv_at hl 3 rfl) ?_
    refine va_getN (D := D) (ci := 1) (v := .ref kw) (C := RX1) (T := TX1) (N := 4) hx hb hts inX1 hown hK hP 5 rfl rfl 2 (by decide) (va_Nw.use rfl hN.1.2.2.1) (fun _ h9 => h9) rfl dX3_load_68 ?_
    refine lv_iconst (v := nI 0) hx hb dX3_load_71 (by decide +kernel) ?_
    refine lv_aload_n hx hb dX3_load_72 rfl (lv_at hl 3 rfl) ?_
    refine va_getN (D := D) (ci := 1) (v := .int (nI (HC i))) (C := RX1) (T := TX1) (N := 4) hx hb hts inX1 hown hK hP 5 rfl rfl 3 (by decide) (va_Nw.use rfl hN.1.2.2.2) (fun _ h9 => h9) rfl dX3_load_73 ?_
    refine n_copyi hx hb (hml.trans hl.1.symm) hown (hts _ ml_X3_35) (hts _ mna_System_arraycopy) (hts _ ms_System_arraycopy) (hts _ mn_System) hK hP hD hS 3 8 0 rfl rfl rfl (by omega) (by omega) (by omega) (by omega) (by omega) (Nat.le_of_ble_eq_true rfl) (Nat.le_of_ble_eq_true rfl) dX3_load_76 (fun H locs hP hD hS => ?_)
    have hP : va_P D vwCl [(h0, .inr (3, [.int (nI N), .ref hl1, .ref hs1, .ref hw1, .ref hc1])), (hl1, .inl (cJ, N * 24, .inr (.inl (lF HL)))), (hs1, .inl (cI, N * 24, .inl (nF HS))), (hw1, .inl (cI, N * 24, .inl (nF HW))), (hc1, .inl (cI, N, .inl (nF HC))), (k0, .inr (1, [.ref kl, .ref ks, .ref kw, .int (nI (HC i))])), (kl, .inl (cJ, 24, .inr (.inl (lF (va_cpy HL KL (i * 24) 0 (HC i)))))), (ks, .inl (cI, 24, .inl (nF (va_cpy HS KS (i * 24) 0 (HC i))))), (kw, .inl (cI, 24, .inl (nF (va_cpy HW KW (i * 24) 0 (HC i)))))] H := hP
    have hD : va_D AA [(h0, .inr (3, [.int (nI N), .ref hl1, .ref hs1, .ref hw1, .ref hc1])), (hl1, .inl (cJ, N * 24, .inr (.inl (lF HL)))), (hs1, .inl (cI, N * 24, .inl (nF HS))), (hw1, .inl (cI, N * 24, .inl (nF HW))), (hc1, .inl (cI, N, .inl (nF HC))), (k0, .inr (1, [.ref kl, .ref ks, .ref kw, .int (nI (HC i))])), (kl, .inl (cJ, 24, .inr (.inl (lF (va_cpy HL KL (i * 24) 0 (HC i)))))), (ks, .inl (cI, 24, .inl (nF (va_cpy HS KS (i * 24) 0 (HC i))))), (kw, .inl (cI, 24, .inl (nF (va_cpy HW KW (i * 24) 0 (HC i)))))] := hD
    exact wr_vret hx hb hr hlk hP hD hS dX3_load_79 (⟨rfl, rfl⟩)
  ·
    exact absurd c2 (by omega)
set_option maxHeartbeats 4000000 in
set_option maxRecDepth 100000 in
theorem c_X2_size (l : Launch) (D : va_G) (cI cJ cZ : ClassId) (p0 h0 nx pz : Nat) : RO l yX2_size cX2_size 1 (some .int) (rmN 0 0) D (ty3 cI cJ cZ) [.ref p0] [(p0, .inr (2, [.ref h0, .int (nI nx), .int (nI pz)]))] (.int (nI pz)) := by
  refine ro_start (by decide) (Nat.le_of_ble_eq_true rfl) ?_
  intro pp ee ss mm below meth cd C0 hP hK ls hl
  obtain ⟨hx, hb, hr, hml, hown, hts, hlk⟩ := C0
  have hown : ss.vm.findClass RX2 = some mm.cls := hown
  have hl : lv_has ls 1 [(0, .ref p0)] := hl
  have hP : va_P D vwCl [(p0, .inr (2, [.ref h0, .int (nI nx), .int (nI pz)]))] ss.heap := hP
  refine lv_aload_n hx hb dX2_size_0 rfl (lv_at hl 0 rfl) ?_
  refine va_get (D := D) (ci := 2) (v := .int (nI pz)) (C := RX2) (T := TX2) (N := 3) hx hb hts inX2 hown hK hP 0 rfl rfl 2 (by decide) (hts _ mf_X2_20) (fun _ h9 => h9) rfl dX2_size_1 ?_
  exact ro_iret hx hb hr hlk dX2_size_4 (rfl)
set_option maxHeartbeats 4000000 in
set_option maxRecDepth 100000 in
theorem c_X2_forget (l : Launch) (D : va_G) (cI cJ cZ : ClassId) (p0 h0 nx pz sz : Nat) : WR l yX2_forget cX2_forget 1 none (rmN 0 0) D (ty3 cI cJ cZ) [.ref p0] [(p0, .inr (2, [.ref h0, .int (nI nx), .int (nI pz)]))] sz (fun x w => x = none ∧ w = [(p0, .inr (2, [.ref h0, .int (nI nx), .int (nI 0)]))]) := by
  refine wr_start (by decide) (Nat.le_of_ble_eq_true rfl) ?_
  intro pp ee ss mm below meth cd AA C0 hAA hP hK hD hS hN hnm ls hl
  obtain ⟨hx, hb, hr, hml, hown, hts, hlk⟩ := C0
  have hown : ss.vm.findClass RX2 = some mm.cls := hown
  have hl : lv_has ls 1 [(0, .ref p0)] := hl
  have hP : va_P D vwCl [(p0, .inr (2, [.ref h0, .int (nI nx), .int (nI pz)]))] ss.heap := hP
  refine lv_aload_n hx hb dX2_forget_0 rfl (lv_at hl 0 rfl) ?_
  refine lv_iconst (v := nI 0) hx hb dX2_forget_1 (by decide +kernel) ?_
  refine va_put (D := D) (ci := 2) (v := .int (nI 0)) (ty := .int) (C := RX2) (T := TX2) (N := 3) hx hb hts inX2 tyX2 tyX2_ok nmX2 hown hK hP hD hS 0 rfl rfl 2 (by decide) (hts _ mf_X2_20) (fun _ h9 => h9) rfl (by decide +kernel) rfl rfl (Nat.le_of_ble_eq_true rfl) dX2_forget_2 (fun H locs hP hD hS => ?_)
  have hP : va_P D vwCl [(p0, .inr (2, [.ref h0, .int (nI nx), .int (nI 0)]))] H := hP
  have hD : va_D AA [(p0, .inr (2, [.ref h0, .int (nI nx), .int (nI 0)]))] := hD
  exact wr_vret hx hb hr hlk hP hD hS dX2_forget_5 (⟨rfl, rfl⟩)
set_option maxHeartbeats 4000000 in
set_option maxRecDepth 100000 in
theorem c_X2_remember (l : Launch) (D : va_G) (cI cJ cZ : ClassId) (p0 nx pz : Nat) (h0 hl1 hs1 hw1 hc1 : Nat) (HL HS HW HC : Nat → Nat) (k0 kl ks kw : Nat) (KL KS KW : Nat → Nat) (n : Nat) (hn : n ≤ 24) (sz : Nat) (hnx : nx < 20) (hpz : pz ≤ 20) : WR l yX2_remember cX2_remember 2 none (rmN 2 63) D (ty3 cI cJ cZ) [.ref p0, .ref k0] [(p0, .inr (2, [.ref h0, .int (nI nx), .int (nI pz)])), (h0, .inr (3, [.int (nI 20), .ref hl1, .ref hs1, .ref hw1, .ref hc1])), (hl1, .inl (cJ, 20 * 24, .inr (.inl (lF HL)))), (hs1, .inl (cI, 20 * 24, .inl (nF HS))), (hw1, .inl (cI, 20 * 24, .inl (nF HW))), (hc1, .inl (cI, 20, .inl (nF HC))), (k0, .inr (1, [.ref kl, .ref ks, .ref kw, .int (nI n)])), (kl, .inl (cJ, 24, .inr (.inl (lF KL)))), (ks, .inl (cI, 24, .inl (nF KS))), (kw, .inl (cI, 24, .inl (nF KW)))] sz (fun x w => x = none ∧ w = [(p0, .inr (2, [.ref h0, .int (nI ((nx + 1) % 20)), .int (nI (min 20 (pz + 1)))])), (h0, .inr (3, [.int (nI 20), .ref hl1, .ref hs1, .ref hw1, .ref hc1])), (hl1, .inl (cJ, 20 * 24, .inr (.inl (lF (va_cpy KL HL 0 (nx * 24) n))))), (hs1, .inl (cI, 20 * 24, .inl (nF (va_cpy KS HS 0 (nx * 24) n)))), (hw1, .inl (cI, 20 * 24, .inl (nF (va_cpy KW HW 0 (nx * 24) n)))), (hc1, .inl (cI, 20, .inl (nF (up HC nx n)))), (k0, .inr (1, [.ref kl, .ref ks, .ref kw, .int (nI n)])), (kl, .inl (cJ, 24, .inr (.inl (lF KL)))), (ks, .inl (cI, 24, .inl (nF KS))), (kw, .inl (cI, 24, .inl (nF KW)))]) := by
  refine wr_start (by decide) (Nat.le_of_ble_eq_true rfl) ?_
  intro pp ee ss mm below meth cd AA C0 hAA hP hK hD hS hN hnm ls hl
  obtain ⟨hx, hb, hr, hml, hown, hts, hlk⟩ := C0
  have hown : ss.vm.findClass RX2 = some mm.cls := hown
  have hl : lv_has ls 2 [(0, .ref p0), (1, .ref k0)] := hl
  have hP : va_P D vwCl [(p0, .inr (2, [.ref h0, .int (nI nx), .int (nI pz)])), (h0, .inr (3, [.int (nI 20), .ref hl1, .ref hs1, .ref hw1, .ref hc1])), (hl1, .inl (cJ, 20 * 24, .inr (.inl (lF HL)))), (hs1, .inl (cI, 20 * 24, .inl (nF HS))), (hw1, .inl (cI, 20 * 24, .inl (nF HW))), (hc1, .inl (cI, 20, .inl (nF HC))), (k0, .inr (1, [.ref kl, .ref ks, .ref kw, .int (nI n)])), (kl, .inl (cJ, 24, .inr (.inl (lF KL)))), (ks, .inl (cI, 24, .inl (nF KS))), (kw, .inl (cI, 24, .inl (nF KW)))] ss.heap := hP
  refine lv_aload_n hx hb dX2_remember_0 rfl (lv_at hl 0 rfl) ?_
  refine va_get (D := D) (ci := 2) (v := .ref h0) (C := RX2) (T := TX2) (N := 3) hx hb hts inX2 hown hK hP 0 rfl rfl 0 (by decide) (hts _ mf_X2_14) (fun _ h9 => h9) rfl dX2_remember_1 ?_
  refine lv_aload_n hx hb dX2_remember_4 rfl (lv_at hl 0 rfl) ?_
  refine va_get (D := D) (ci := 2) (v := .int (nI nx)) (C := RX2) (T := TX2) (N := 3) hx hb hts inX2 hown hK hP 0 rfl rfl 1 (by decide) (hts _ mf_X2_24) (fun _ h9 => h9) rfl dX2_remember_5 ?_
  refine lv_aload_n hx hb dX2_remember_8 rfl (lv_at hl 1 rfl) ?_
  refine wr_V (As := [.int (nI nx), .ref k0]) (rest := []) (wc := [(h0, .inr (3, [.int (nI 20), .ref hl1, .ref hs1, .ref hw1, .ref hc1])), (hl1, .inl (cJ, 20 * 24, .inr (.inl (lF HL)))), (hs1, .inl (cI, 20 * 24, .inl (nF HS))), (hw1, .inl (cI, 20 * 24, .inl (nF HW))), (hc1, .inl (cI, 20, .inl (nF HC))), (k0, .inr (1, [.ref kl, .ref ks, .ref kw, .int (nI n)])), (kl, .inl (cJ, 24, .inr (.inl (lF KL)))), (ks, .inl (cI, 24, .inl (nF KS))), (kw, .inl (cI, 24, .inl (nF KW)))]) (wr := [(p0, .inr (2, [.ref h0, .int (nI nx), .int (nI pz)]))]) ⟨hx, hb, hml, hown, hts⟩ (c_X3_store l D cI cJ cZ h0 hl1 hs1 hw1 hc1 HL HS HW HC 20 (by decide) k0 kl ks kw KL KS KW n (by omega) nx _ (by omega)) (k_X2_27 hts ⟨Nat.le_of_ble_eq_true rfl, Nat.le_of_ble_eq_true rfl⟩) hK hN hP hD hS hAA 1 rfl rfl rfl [1, 2, 3, 4, 5, 6, 7, 8, 9] [0] rfl rfl (by decide) (by decide) (by decide) rfl hl.1 rfl (Nat.le_of_ble_eq_true rfl) dX2_remember_9 ⟨Nat.le_of_ble_eq_true rfl, Nat.le_of_ble_eq_true rfl⟩ (fun v2 w3 H locs hp1 hP hD hS => ?_)
  obtain ⟨rfl, rfl⟩ := hp1
  have hP : va_P D vwCl [(p0, .inr (2, [.ref h0, .int (nI nx), .int (nI pz)])), (h0, .inr (3, [.int (nI 20), .ref hl1, .ref hs1, .ref hw1, .ref hc1])), (hl1, .inl (cJ, 20 * 24, .inr (.inl (lF (va_cpy KL HL 0 (nx * 24) n))))), (hs1, .inl (cI, 20 * 24, .inl (nF (va_cpy KS HS 0 (nx * 24) n)))), (hw1, .inl (cI, 20 * 24, .inl (nF (va_cpy KW HW 0 (nx * 24) n)))), (hc1, .inl (cI, 20, .inl (nF (up HC nx n)))), (k0, .inr (1, [.ref kl, .ref ks, .ref kw, .int (nI n)])), (kl, .inl (cJ, 24, .inr (.inl (lF KL)))), (ks, .inl (cI, 24, .inl (nF KS))), (kw, .inl (cI, 24, .inl (nF KW)))] H := hP.sub [0, 1, 2, 3, 4, 5, 6, 7, 8, 9] rfl
  have hD : va_D AA [(p0, .inr (2, [.ref h0, .int (nI nx), .int (nI pz)])), (h0, .inr (3, [.int (nI 20), .ref hl1, .ref hs1, .ref hw1, .ref hc1])), (hl1, .inl (cJ, 20 * 24, .inr (.inl (lF (va_cpy KL HL 0 (nx * 24) n))))), (hs1, .inl (cI, 20 * 24, .inl (nF (va_cpy KS HS 0 (nx * 24) n)))), (hw1, .inl (cI, 20 * 24, .inl (nF (va_cpy KW HW 0 (nx * 24) n)))), (hc1, .inl (cI, 20, .inl (nF (up HC nx n)))), (k0, .inr (1, [.ref kl, .ref ks, .ref kw, .int (nI n)])), (kl, .inl (cJ, 24, .inr (.inl (lF KL)))), (ks, .inl (cI, 24, .inl (nF KS))), (kw, .inl (cI, 24, .inl (nF KW)))] := hD.sub [0, 1, 2, 3, 4, 5, 6, 7, 8, 9] (by decide) rfl
  refine lv_aload_n hx hb dX2_remember_12 rfl (lv_at hl 0 rfl) ?_
  refine lv_aload_n hx hb dX2_remember_13 rfl (lv_at hl 0 rfl) ?_
  refine va_get (D := D) (ci := 2) (v := .int (nI nx)) (C := RX2) (T := TX2) (N := 3) hx hb hts inX2 hown hK hP 0 rfl rfl 1 (by decide) (hts _ mf_X2_24) (fun _ h9 => h9) rfl dX2_remember_14 ?_
  refine lv_iconst (v := nI 1) hx hb dX2_remember_17 (by decide +kernel) ?_
  refine n_iadd hx hb dX2_remember_18 ?_
  refine lv_bipush (v := nI 20) hx hb dX2_remember_19 (by decide +kernel) ?_
  refine n_irem hx hb dX2_remember_21 (by omega) (by decide) (by decide) ?_
  refine va_put (D := D) (ci := 2) (v := .int (nI ((nx + 1) % 20))) (ty := .int) (C := RX2) (T := TX2) (N := 3) hx hb hts inX2 tyX2 tyX2_ok nmX2 hown hK hP hD hS 0 rfl rfl 1 (by decide) (hts _ mf_X2_24) (fun _ h9 => h9) rfl (by decide +kernel) rfl rfl (Nat.le_of_ble_eq_true rfl) dX2_remember_22 (fun H locs hP hD hS => ?_)
  have hP : va_P D vwCl [(p0, .inr (2, [.ref h0, .int (nI ((nx + 1) % 20)), .int (nI pz)])), (h0, .inr (3, [.int (nI 20), .ref hl1, .ref hs1, .ref hw1, .ref hc1])), (hl1, .inl (cJ, 20 * 24, .inr (.inl (lF (va_cpy KL HL 0 (nx * 24) n))))), (hs1, .inl (cI, 20 * 24, .inl (nF (va_cpy KS HS 0 (nx * 24) n)))), (hw1, .inl (cI, 20 * 24, .inl (nF (va_cpy KW HW 0 (nx * 24) n)))), (hc1, .inl (cI, 20, .inl (nF (up HC nx n)))), (k0, .inr (1, [.ref kl, .ref ks, .ref kw, .int (nI n)])), (kl, .inl (cJ, 24, .inr (.inl (lF KL)))), (ks, .inl (cI, 24, .inl (nF KS))), (kw, .inl (cI, 24, .inl (nF KW)))] H := hP
  have hD : va_D AA [(p0, .inr (2, [.ref h0, .int (nI ((nx + 1) % 20)), .int (nI pz)])), (h0, .inr (3, [.int (nI 20), .ref hl1, .ref hs1, .ref hw1, .ref hc1])), (hl1, .inl (cJ, 20 * 24, .inr (.inl (lF (va_cpy KL HL 0 (nx * 24) n))))), (hs1, .inl (cI, 20 * 24, .inl (nF (va_cpy KS HS 0 (nx * 24) n)))), (hw1, .inl (cI, 20 * 24, .inl (nF (va_cpy KW HW 0 (nx * 24) n)))), (hc1, .inl (cI, 20, .inl (nF (up HC nx n)))), (k0, .inr (1, [.ref kl, .ref ks, .ref kw, .int (nI n)])), (kl, .inl (cJ, 24, .inr (.inl (lF KL)))), (ks, .inl (cI, 24, .inl (nF KS))), (kw, .inl (cI, 24, .inl (nF KW)))] := hD
  refine lv_aload_n hx hb dX2_remember_25 rfl (lv_at hl 0 rfl) ?_
  refine lv_bipush (v := nI 20) hx hb dX2_remember_26 (by decide +kernel) ?_
  refine lv_aload_n hx hb dX2_remember_28 rfl (lv_at hl 0 rfl) ?_
  refine va_get (D := D) (ci := 2) (v := .int (nI pz)) (C := RX2) (T := TX2) (N := 3) hx hb hts inX2 hown hK hP 0 rfl rfl 2 (by decide) (hts _ mf_X2_20) (fun _ h9 => h9) rfl dX2_remember_29 ?_
  refine lv_iconst (v := nI 1) hx hb dX2_remember_32 (by decide +kernel) ?_
  refine n_iadd hx hb dX2_remember_33 ?_
  refine va_mmin hx hb (hml.trans hl.1.symm) hown (hts _ ml_X2_31) (hts _ ms_Math_min) (hts _ mn_Math) (hts _ mc_Math_min) (Nat.le_of_ble_eq_true rfl) (Nat.le_of_ble_eq_true rfl) (Nat.le_of_ble_eq_true rfl) (Nat.le_of_ble_eq_true rfl) dX2_remember_34 ?_
  refine tq (y := nI (min 20 (pz + 1))) (n_min (by omega) (by omega)) ?_
  refine va_put (D := D) (ci := 2) (v := .int (nI (min 20 (pz + 1)))) (ty := .int) (C := RX2) (T := TX2) (N := 3) hx hb hts inX2 tyX2 tyX2_ok nmX2 hown hK hP hD hS 0 rfl rfl 2 (by decide) (hts _ mf_X2_20) (fun _ h9 => h9) rfl (by decide +kernel) rfl rfl (Nat.le_of_ble_eq_true rfl) dX2_remember_37 (fun H locs hP hD hS => ?_)
  have hP : va_P D vwCl [(p0, .inr (2, [.ref h0, .int (nI ((nx + 1) % 20)), .int (nI (min 20 (pz + 1)))])), (h0, .inr (3, [.int (nI 20), .ref hl1, .ref hs1, .ref hw1, .ref hc1])), (hl1, .inl (cJ, 20 * 24, .inr (.inl (lF (va_cpy KL HL 0 (nx * 24) n))))), (hs1, .inl (cI, 20 * 24, .inl (nF (va_cpy KS HS 0 (nx * 24) n)))), (hw1, .inl (cI, 20 * 24, .inl (nF (va_cpy KW HW 0 (nx * 24) n)))), (hc1, .inl (cI, 20, .inl (nF (up HC nx n)))), (k0, .inr (1, [.ref kl, .ref ks, .ref kw, .int (nI n)])), (kl, .inl (cJ, 24, .inr (.inl (lF KL)))), (ks, .inl (cI, 24, .inl (nF KS))), (kw, .inl (cI, 24, .inl (nF KW)))] H := hP
  have hD : va_D AA [(p0, .inr (2, [.ref h0, .int (nI ((nx + 1) % 20)), .int (nI (min 20 (pz + 1)))])), (h0, .inr (3, [.int (nI 20), .ref hl1, .ref hs1, .ref hw1, .ref hc1])), (hl1, .inl (cJ, 20 * 24, .inr (.inl (lF (va_cpy KL HL 0 (nx * 24) n))))), (hs1, .inl (cI, 20 * 24, .inl (nF (va_cpy KS HS 0 (nx * 24) n)))), (hw1, .inl (cI, 20 * 24, .inl (nF (va_cpy KW HW 0 (nx * 24) n)))), (hc1, .inl (cI, 20, .inl (nF (up HC nx n)))), (k0, .inr (1, [.ref kl, .ref ks, .ref kw, .int (nI n)])), (kl, .inl (cJ, 24, .inr (.inl (lF KL)))), (ks, .inl (cI, 24, .inl (nF KS))), (kw, .inl (cI, 24, .inl (nF KW)))] := hD
  exact wr_vret hx hb hr hlk hP hD hS dX2_remember_40 (⟨rfl, rfl⟩)
set_option maxHeartbeats 4000000 in
set_option maxRecDepth 100000 in
theorem c_X2_restore (l : Launch) (D : va_G) (cI cJ cZ : ClassId) (p0 nx pz : Nat) (h0 hl1 hs1 hw1 hc1 : Nat) (HL HS HW HC : Nat → Nat) (k0 kl ks kw : Nat) (KL KS KW : Nat → Nat) (n : Nat) (hn : n ≤ 24) (sz : Nat) (hnx : nx < 20) (hpz : pz ≤ 20) (d : Nat) (hd1 : 1 ≤ d) (hd2 : d ≤ pz) (hci : HC ((nx + 20 - d) % 20) ≤ 24) : WR l yX2_restore cX2_restore 3 none (rmN 2 63) D (ty3 cI cJ cZ) [.ref p0, .int (nI d), .ref k0] [(p0, .inr (2, [.ref h0, .int (nI nx), .int (nI pz)])), (h0, .inr (3, [.int (nI 20), .ref hl1, .ref hs1, .ref hw1, .ref hc1])), (hl1, .inl (cJ, 20 * 24, .inr (.inl (lF HL)))), (hs1, .inl (cI, 20 * 24, .inl (nF HS))), (hw1, .inl (cI, 20 * 24, .inl (nF HW))), (hc1, .inl (cI, 20, .inl (nF HC))), (k0, .inr (1, [.ref kl, .ref ks, .ref kw, .int (nI n)])), (kl, .inl (cJ, 24, .inr (.inl (lF KL)))), (ks, .inl (cI, 24, .inl (nF KS))), (kw, .inl (cI, 24, .inl (nF KW)))] sz (fun x w => x = none ∧ w = [(p0, .inr (2, [.ref h0, .int (nI ((nx + 20 - d) % 20)), .int (nI (pz - d))])), (h0, .inr (3, [.int (nI 20), .ref hl1, .ref hs1, .ref hw1, .ref hc1])), (hl1, .inl (cJ, 20 * 24, .inr (.inl (lF HL)))), (hs1, .inl (cI, 20 * 24, .inl (nF HS))), (hw1, .inl (cI, 20 * 24, .inl (nF HW))), (hc1, .inl (cI, 20, .inl (nF HC))), (k0, .inr (1, [.ref kl, .ref ks, .ref kw, .int (nI (HC ((nx + 20 - d) % 20)))])), (kl, .inl (cJ, 24, .inr (.inl (lF (va_cpy HL KL (((nx + 20 - d) % 20) * 24) 0 (HC ((nx + 20 - d) % 20))))))), (ks, .inl (cI, 24, .inl (nF (va_cpy HS KS (((nx + 20 - d) % 20) * 24) 0 (HC ((nx + 20 - d) % 20)))))), (kw, .inl (cI, 24, .inl (nF (va_cpy HW KW (((nx + 20 - d) % 20) * 24) 0 (HC ((nx + 20 - d) % 20))))))]) := by
  refine wr_start (by decide) (Nat.le_of_ble_eq_true rfl) ?_
  intro pp ee ss mm below meth cd AA C0 hAA hP hK hD hS hN hnm ls hl
  obtain ⟨hx, hb, hr, hml, hown, hts, hlk⟩ := C0
  have hown : ss.vm.findClass RX2 = some mm.cls := hown
  have hl : lv_has ls 3 [(0, .ref p0), (1, .int (nI d)), (2, .ref k0)] := hl
  have hP : va_P D vwCl [(p0, .inr (2, [.ref h0, .int (nI nx), .int (nI pz)])), (h0, .inr (3, [.int (nI 20), .ref hl1, .ref hs1, .ref hw1, .ref hc1])), (hl1, .inl (cJ, 20 * 24, .inr (.inl (lF HL)))), (hs1, .inl (cI, 20 * 24, .inl (nF HS))), (hw1, .inl (cI, 20 * 24, .inl (nF HW))), (hc1, .inl (cI, 20, .inl (nF HC))), (k0, .inr (1, [.ref kl, .ref ks, .ref kw, .int (nI n)])), (kl, .inl (cJ, 24, .inr (.inl (lF KL)))), (ks, .inl (cI, 24, .inl (nF KS))), (kw, .inl (cI, 24, .inl (nF KW)))] ss.heap := hP
  refine lv_iload_n hx hb dX2_restore_0 rfl (lv_at hl 1 rfl) ?_
  refine lv_iconst (v := nI 1) hx hb dX2_restore_1 (by decide +kernel) ?_
  refine n_lt (tgt := 13) hx hb dX2_restore_2 (by decide) (by omega) (by omega) (fun c1 => ?_) (fun c1 => ?_)
  ·
    exact absurd c1 (by omega)
  ·
    refine lv_iload_n hx hb dX2_restore_5 rfl (lv_at hl 1 rfl) ?_
    refine lv_aload_n hx hb dX2_restore_6 rfl (lv_at hl 0 rfl) ?_
    refine va_get (D := D) (ci := 2) (v := .int (nI pz)) (C := RX2) (T := TX2) (N := 3) hx hb hts inX2 hown hK hP 0 rfl rfl 2 (by decide) (hts _ mf_X2_20) (fun _ h9 => h9) rfl dX2_restore_7 ?_
    refine n_le (tgt := 14) hx hb dX2_restore_10 (by decide) (by omega) (by omega) (fun c2 => ?_) (fun c2 => ?_)
    ·
      refine lv_aload_n hx hb dX2_restore_14 rfl (lv_at hl 0 rfl) ?_
      refine lv_aload_n hx hb dX2_restore_15 rfl (lv_at hl 0 rfl) ?_
      refine va_get (D := D) (ci := 2) (v := .int (nI nx)) (C := RX2) (T := TX2) (N := 3) hx hb hts inX2 hown hK hP 0 rfl rfl 1 (by decide) (hts _ mf_X2_24) (fun _ h9 => h9) rfl dX2_restore_16 ?_
      refine lv_bipush (v := nI 20) hx hb dX2_restore_19 (by decide +kernel) ?_
      refine n_iadd hx hb dX2_restore_21 ?_
      refine lv_iload_n hx hb dX2_restore_22 rfl (lv_at hl 1 rfl) ?_
      refine n_isub hx hb dX2_restore_23 (by omega) ?_
      refine lv_bipush (v := nI 20) hx hb dX2_restore_24 (by decide +kernel) ?_
      refine n_irem hx hb dX2_restore_26 (by omega) (by decide) (by decide) ?_
      refine va_put (D := D) (ci := 2) (v := .int (nI (((nx + 20) - d) % 20))) (ty := .int) (C := RX2) (T := TX2) (N := 3) hx hb hts inX2 tyX2 tyX2_ok nmX2 hown hK hP hD hS 0 rfl rfl 1 (by decide) (hts _ mf_X2_24) (fun _ h9 => h9) rfl (by decide +kernel) rfl rfl (Nat.le_of_ble_eq_true rfl) dX2_restore_27 (fun H locs hP hD hS => ?_)
      have hP : va_P D vwCl [(p0, .inr (2, [.ref h0, .int (nI (((nx + 20) - d) % 20)), .int (nI pz)])), (h0, .inr (3, [.int (nI 20), .ref hl1, .ref hs1, .ref hw1, .ref hc1])), (hl1, .inl (cJ, 20 * 24, .inr (.inl (lF HL)))), (hs1, .inl (cI, 20 * 24, .inl (nF HS))), (hw1, .inl (cI, 20 * 24, .inl (nF HW))), (hc1, .inl (cI, 20, .inl (nF HC))), (k0, .inr (1, [.ref kl, .ref ks, .ref kw, .int (nI n)])), (kl, .inl (cJ, 24, .inr (.inl (lF KL)))), (ks, .inl (cI, 24, .inl (nF KS))), (kw, .inl (cI, 24, .inl (nF KW)))] H := hP
      have hD : va_D AA [(p0, .inr (2, [.ref h0, .int (nI (((nx + 20) - d) % 20)), .int (nI pz)])), (h0, .inr (3, [.int (nI 20), .ref hl1, .ref hs1, .ref hw1, .ref hc1])), (hl1, .inl (cJ, 20 * 24, .inr (.inl (lF HL)))), (hs1, .inl (cI, 20 * 24, .inl (nF HS))), (hw1, .inl (cI, 20 * 24, .inl (nF HW))), (hc1, .inl (cI, 20, .inl (nF HC))), (k0, .inr (1, [.ref kl, .ref ks, .ref kw, .int (nI n)])), (kl, .inl (cJ, 24, .inr (.inl (lF KL)))), (ks, .inl (cI, 24, .inl (nF KS))), (kw, .inl (cI, 24, .inl (nF KW)))] := hD
      refine lv_aload_n hx hb dX2_restore_30 rfl (lv_at hl 0 rfl) ?_
      refine lv_dup hx hb dX2_restore_31 rfl ?_
      refine va_get (D := D) (ci := 2) (v := .int (nI pz)) (C := RX2) (T := TX2) (N := 3) hx hb hts inX2 hown hK hP 0 rfl rfl 2 (by decide) (hts _ mf_X2_20) (fun _ h9 => h9) rfl dX2_restore_32 ?_
      refine lv_iload_n hx hb dX2_restore_35 rfl (lv_at hl 1 rfl) ?_
      refine n_isub hx hb dX2_restore_36 (by omega) ?_
      refine va_put (D := D) (ci := 2) (v := .int (nI (pz - d))) (ty := .int) (C := RX2) (T := TX2) (N := 3) hx hb hts inX2 tyX2 tyX2_ok nmX2 hown hK hP hD hS 0 rfl rfl 2 (by decide) (hts _ mf_X2_20) (fun _ h9 => h9) rfl (by decide +kernel) rfl rfl (Nat.le_of_ble_eq_true rfl) dX2_restore_37 (fun H locs hP hD hS => ?_)
      have hP : va_P D vwCl [(p0, .inr (2, [.ref h0, .int (nI (((nx + 20) - d) % 20)), .int (nI (pz - d))])), (h0, .inr (3, [.int (nI 20), .ref hl1, .ref hs1, .ref hw1, .ref hc1])), (hl1, .inl (cJ, 20 * 24, .inr (.inl (lF HL)))), (hs1, .inl (cI, 20 * 24, .inl (nF HS))), (hw1, .inl (cI, 20 * 24, .inl (nF HW))), (hc1, .inl (cI, 20, .inl (nF HC))), (k0, .inr (1, [.ref kl, .ref ks, .ref kw, .int (nI n)])), (kl, .inl (cJ, 24, .inr (.inl (lF KL)))), (ks, .inl (cI, 24, .inl (nF KS))), (kw, .inl (cI, 24, .inl (nF KW)))] H := hP
      have hD : va_D AA [(p0, .inr (2, [.ref h0, .int (nI (((nx + 20) - d) % 20)), .int (nI (pz - d))])), (h0, .inr (3, [.int (nI 20), .ref hl1, .ref hs1, .ref hw1, .ref hc1])), (hl1, .inl (cJ, 20 * 24, .inr (.inl (lF HL)))), (hs1, .inl (cI, 20 * 24, .inl (nF HS))), (hw1, .inl (cI, 20 * 24, .inl (nF HW))), (hc1, .inl (cI, 20, .inl (nF HC))), (k0, .inr (1, [.ref kl, .ref ks, .ref kw, .int (nI n)])), (kl, .inl (cJ, 24, .inr (.inl (lF KL)))), (ks, .inl (cI, 24, .inl (nF KS))), (kw, .inl (cI, 24, .inl (nF KW)))] := hD
      refine lv_aload_n hx hb dX2_restore_40 rfl (lv_at hl 0 rfl) ?_
      refine va_get (D := D) (ci := 2) (v := .ref h0) (C := RX2) (T := TX2) (N := 3) hx hb hts inX2 hown hK hP 0 rfl rfl 0 (by decide) (hts _ mf_X2_14) (fun _ h9 => h9) rfl dX2_restore_41 ?_
      refine lv_aload_n hx hb dX2_restore_44 rfl (lv_at hl 0 rfl) ?_
      refine va_get (D := D) (ci := 2) (v := .int (nI (((nx + 20) - d) % 20))) (C := RX2) (T := TX2) (N := 3) hx hb hts inX2 hown hK hP 0 rfl rfl 1 (by decide) (hts _ mf_X2_24) (fun _ h9 => h9) rfl dX2_restore_45 ?_
      refine lv_aload_n hx hb dX2_restore_48 rfl (lv_at hl 2 rfl) ?_
      refine wr_V (As := [.int (nI (((nx + 20) - d) % 20)), .ref k0]) (rest := []) (wc := [(h0, .inr (3, [.int (nI 20), .ref hl1, .ref hs1, .ref hw1, .ref hc1])), (hl1, .inl (cJ, 20 * 24, .inr (.inl (lF HL)))), (hs1, .inl (cI, 20 * 24, .inl (nF HS))), (hw1, .inl (cI, 20 * 24, .inl (nF HW))), (hc1, .inl (cI, 20, .inl (nF HC))), (k0, .inr (1, [.ref kl, .ref ks, .ref kw, .int (nI n)])), (kl, .inl (cJ, 24, .inr (.inl (lF KL)))), (ks, .inl (cI, 24, .inl (nF KS))), (kw, .inl (cI, 24, .inl (nF KW)))]) (wr := [(p0, .inr (2, [.ref h0, .int (nI (((nx + 20) - d) % 20)), .int (nI (pz - d))]))]) ⟨hx, hb, hml, hown, hts⟩ (c_X3_load l D cI cJ cZ h0 hl1 hs1 hw1 hc1 HL HS HW HC 20 (by decide) k0 kl ks kw KL KS KW n (by omega) (((nx + 20) - d) % 20) _ (by omega) hci) (k_X2_37 hts ⟨Nat.le_of_ble_eq_true rfl, Nat.le_of_ble_eq_true rfl⟩) hK hN hP hD hS hAA 1 rfl rfl rfl [1, 2, 3, 4, 5, 6, 7, 8, 9] [0] rfl rfl (by decide) (by decide) (by decide) rfl hl.1 rfl (Nat.le_of_ble_eq_true rfl) dX2_restore_49 ⟨Nat.le_of_ble_eq_true rfl, Nat.le_of_ble_eq_true rfl⟩ (fun v4 w5 H locs hp3 hP hD hS => ?_)
      obtain ⟨rfl, rfl⟩ := hp3
      have hP : va_P D vwCl [(p0, .inr (2, [.ref h0, .int (nI (((nx + 20) - d) % 20)), .int (nI (pz - d))])), (h0, .inr (3, [.int (nI 20), .ref hl1, .ref hs1, .ref hw1, .ref hc1])), (hl1, .inl (cJ, 20 * 24, .inr (.inl (lF HL)))), (hs1, .inl (cI, 20 * 24, .inl (nF HS))), (hw1, .inl (cI, 20 * 24, .inl (nF HW))), (hc1, .inl (cI, 20, .inl (nF HC))), (k0, .inr (1, [.ref kl, .ref ks, .ref kw, .int (nI (HC (((nx + 20) - d) % 20)))])), (kl, .inl (cJ, 24, .inr (.inl (lF (va_cpy HL KL ((((nx + 20) - d) % 20) * 24) 0 (HC (((nx + 20) - d) % 20))))))), (ks, .inl (cI, 24, .inl (nF (va_cpy HS KS ((((nx + 20) - d) % 20) * 24) 0 (HC (((nx + 20) - d) % 20)))))), (kw, .inl (cI, 24, .inl (nF (va_cpy HW KW ((((nx + 20) - d) % 20) * 24) 0 (HC (((nx + 20) - d) % 20))))))] H := hP.sub [0, 1, 2, 3, 4, 5, 6, 7, 8, 9] rfl
      have hD : va_D AA [(p0, .inr (2, [.ref h0, .int (nI (((nx + 20) - d) % 20)), .int (nI (pz - d))])), (h0, .inr (3, [.int (nI 20), .ref hl1, .ref hs1, .ref hw1, .ref hc1])), (hl1, .inl (cJ, 20 * 24, .inr (.inl (lF HL)))), (hs1, .inl (cI, 20 * 24, .inl (nF HS))), (hw1, .inl (cI, 20 * 24, .inl (nF HW))), (hc1, .inl (cI, 20, .inl (nF HC))), (k0, .inr (1, [.ref kl, .ref ks, .ref kw, .int (nI (HC (((nx + 20) - d) % 20)))])), (kl, .inl (cJ, 24, .inr (.inl (lF (va_cpy HL KL ((((nx + 20) - d) % 20) * 24) 0 (HC (((nx + 20) - d) % 20))))))), (ks, .inl (cI, 24, .inl (nF (va_cpy HS KS ((((nx + 20) - d) % 20) * 24) 0 (HC (((nx + 20) - d) % 20)))))), (kw, .inl (cI, 24, .inl (nF (va_cpy HW KW ((((nx + 20) - d) % 20) * 24) 0 (HC (((nx + 20) - d) % 20))))))] := hD.sub [0, 1, 2, 3, 4, 5, 6, 7, 8, 9] (by decide) rfl
      exact wr_vret hx hb hr hlk hP hD hS dX2_restore_52 (⟨rfl, rfl⟩)
    ·
      exact absurd c2 (by omega)
