/-! THE CLAIM OUT OF ONE WALK OF THE LAW'S BODY. Your part is whole_start (and what it stands on); all else here is the same for every law, but numbers. -/
def R_law : String := "BitBranchesLaw"
def lw_P (b : Addr) (xs : List Int32) (args : Array Value) (s : State) : Prop := args = #[.ref b] ∧ s.IntsAt b xs ∧ xs.length ≤ 1536 ∧ (Jvm.Cond.and given_1 narrow_1).before args s = true
def lw_Q (_ : Array Value) (s : State) (o : Outcome) (t : State) : Prop := o = .returned (some (.int 1)) ∧ Framed s o t [] 600000 7302250
def lw_Z (below : List Frame) (a : Array Value) (s : State) : State → Prop := fun t => ∃ o, t.status = .running ∧ Ended t below o ∧ lw_Q a s o t
/-- the law's own end, with 1 on the stack, nothing written that was there before, its room as the claim has it -/
theorem lw_ret {p : Program} {l : Launch} {e : Env} {s : State} {m : MethodId} {below : List Frame} {meth : Method} {c : Code} {b : Nat} (hx : p.tables.exec = Jvm.exec) (hb : c.code = code) (hr : meth.sig.returnType = ret) (hlocks : meth.locks = false) {pc : Nat} {H : Heap} {ls : Array Slot} (hdg : decode code pc = .ok (.ireturn, 1)) : W p l e room_1 s m #[Value.ref b] below meth c H [] 600000 7302250 (lw_Z below #[Value.ref b] s) (F0 m pc ls [.int 1]) := by
  intro T hT X
  obtain ⟨fs, hret, hrun, hended, hW, hframe⟩ := X.leave (v := some (.int 1)) (hlocks := hlocks) (fun h => by rw [hr] at h; cases h)
  have hmeth' : T.vm.method? m = some meth := X.method'
  refine ⟨T.setFrames fs, ?_, .returned (some (.int 1)), hrun, hended, rfl, ⟨_, rfl⟩, hW, hframe⟩
  jvm_step X.here [X.here.top, hx, hb, hdg, hmeth', hr, ret, narrow_b1]
  (try refine ⟨rfl, ?_⟩); (try refine ⟨rfl, ?_⟩)
  first | (intro acts; rw [hret _ acts rfl rfl rfl]) | rw [hret _ _ rfl rfl rfl]
  exact Steps.refl _
/-- what holds at the law's entry: the machine, the code, the tables' words (any of lw_tbl by 'hts w (by decide +kernel)'), the script of L ints xs at the cell b, what the Statement gives of the start (any of its parts by flat_of_before) -/
def lw_At (p : Program) (s : State) (m : MethodId) (meth : Method) (c : Code) (b L : Nat) (xs : Nat → Int32) : Prop :=
  p.tables.exec = Jvm.exec ∧ c.code = code ∧ meth.sig.returnType = ret ∧ c.maxLocals = 4 ∧ s.vm.findClass R_law = some m.cls ∧ (∀ w ∈ lw_tbl, w.before #[Value.ref b] s = true) ∧ va_X b L xs s s.heap ∧ b < s.heap.size ∧ meth.locks = false ∧ (Jvm.Cond.and given_1 narrow_1).before #[Value.ref b] s = true
set_option maxHeartbeats 4000000 in
set_option maxRecDepth 100000 in
theorem law_x {p : Program} {l : Launch} {e : Env} {R : Room} {s : State} {m : MethodId} {args : Array Value} {below : List Frame} {meth : Method} {c : Code} {H : Heap} {locs : List Loc} {cells slots : Nat} {Q : State → Prop} {cc : ByteArray} {pc : Nat} {ls : Array Slot} {rest : List Value} {D : va_G} {A : Nat → Prop} {H0 : Heap} {cI cJ cZ : ClassId} {y : MethodName} {bytes : ByteArray} {maxL nL na index f lc : Nat} {own : String} {As st : List Value} {x0 w0 d0 k0 kl ks kw b0 bb bd bm bl bf ba bk bg p0 h0 hl1 hs1 hw1 hc1 i0 il1 is1 iw1 ic1 ik it m0 nw ps im mk wd so mb ma mf mw ml mu wt ty : Nat} {C C1 : Co} {d : Dt} {T : Ms} {r : Int32} (S : CallFix p m c cc nL s args gt own) (hM : ∀ sz, WR l y bytes maxL (some .int) (rmN f lc) D (ty3 cI cJ cZ) (.ref x0 :: As) (wX cI cJ cZ x0 w0 d0 k0 kl ks kw b0 bb bd bm bl bf ba bk bg p0 h0 hl1 hs1 hw1 hc1 i0 il1 is1 iw1 ic1 ik it C d) sz (fun v w => v = some (.int r) ∧ ∃ z : Dt, w = wX cI cJ cZ x0 w0 d0 k0 kl ks kw b0 bb bd bm bl bf ba bk bg p0 h0 hl1 hs1 hw1 hc1 i0 il1 is1 iw1 ic1 ik it C1 z ∧ OkT C1 z)) (cw : CallW R s args own RX5 index y bytes maxL (some .int) (uw y bytes maxL (some .int)) (rmN f lc) 0 0 na) (hK : va_K D vwCl (ty3 cI cJ cZ) s) (hN : Nst s) (hP : va_P D vwCl (wX cI cJ cZ x0 w0 d0 k0 kl ks kw b0 bb bd bm bl bf ba bk bg p0 h0 hl1 hs1 hw1 hc1 i0 il1 is1 iw1 ic1 ik it C d ++ wM cI cZ m0 nw ps im mk wd so mb ma mf mw ml mu wt ty C T) H) (hD : va_D A (wX cI cJ cZ x0 w0 d0 k0 kl ks kw b0 bb bd bm bl bf ba bk bg p0 h0 hl1 hs1 hw1 hc1 i0 il1 is1 iw1 ic1 ik it C d ++ wM cI cZ m0 nw ps im mk wd so mb ma mf mw ml mu wt ty C T)) (hS : va_S A H0 H locs) (hA : ∀ q, H0.size ≤ q → A q) (hn : As.length = na) (hsize : ls.size = nL) (hst : st = As.reverse ++ .ref x0 :: rest) (hW : (rest.map fun v => v.category).sum ≤ 8) (hdg : decode cc pc = .ok (.invokevirtual index, 3)) (hf : cells ≤ R.cells ∧ slots ≤ R.slots)
    (kk : ∀ (z : Dt) (H1 : Heap) (locs1 : List Loc), OkT C1 z → va_P D vwCl (wX cI cJ cZ x0 w0 d0 k0 kl ks kw b0 bb bd bm bl bf ba bk bg p0 h0 hl1 hs1 hw1 hc1 i0 il1 is1 iw1 ic1 ik it C1 z ++ wM cI cZ m0 nw ps im mk wd so mb ma mf mw ml mu wt ty C T) H1 → va_D A (wX cI cJ cZ x0 w0 d0 k0 kl ks kw b0 bb bd bm bl bf ba bk bg p0 h0 hl1 hs1 hw1 hc1 i0 il1 is1 iw1 ic1 ik it C1 z ++ wM cI cZ m0 nw ps im mk wd so mb ma mf mw ml mu wt ty C T) → va_S A H0 H1 locs1 → W p l e R s m args below meth c H1 locs1 cells slots Q (F0 m (pc + 3) ls (.int r :: rest))) : W p l e R s m args below meth c H locs cells slots Q (F0 m pc ls st) := by
  refine wr_V (As := As) (rest := rest) (wc := (wX cI cJ cZ x0 w0 d0 k0 kl ks kw b0 bb bd bm bl bf ba bk bg p0 h0 hl1 hs1 hw1 hc1 i0 il1 is1 iw1 ic1 ik it C d)) (wr := (wM cI cZ m0 nw ps im mk wd so mb ma mf mw ml mu wt ty C T)) S (hM H.size) cw hK hN hP hD hS hA 0 rfl rfl rfl [0, 1, 2, 3, 4, 5, 6, 7, 8, 9, 10, 11, 12, 13, 14, 15, 16, 17, 18, 19, 20, 21, 22, 23, 24, 25, 26, 27, 28] [29, 30, 31, 32, 33, 34, 35, 36, 37, 38, 39, 40, 41, 42, 43] rfl rfl (by decide) (by decide) (by decide) hn hsize hst hW hdg hf (fun v w H1 locs1 hp hP hD hS => ?_)
  obtain ⟨rfl, z, rfl, hz⟩ := hp
  exact kk z H1 locs1 hz (hP.sub [15, 16, 17, 18, 19, 20, 21, 22, 23, 24, 25, 26, 27, 28, 29, 30, 31, 32, 33, 34, 35, 36, 37, 38, 39, 40, 41, 42, 43, 0, 1, 2, 3, 4, 5, 6, 7, 8, 9, 10, 11, 12, 13, 14] rfl) (hD.sub [15, 16, 17, 18, 19, 20, 21, 22, 23, 24, 25, 26, 27, 28, 29, 30, 31, 32, 33, 34, 35, 36, 37, 38, 39, 40, 41, 42, 43, 0, 1, 2, 3, 4, 5, 6, 7, 8, 9, 10, 11, 12, 13, 14] (by decide) rfl) hS
set_option maxHeartbeats 4000000 in
set_option maxRecDepth 100000 in
theorem law_m {p : Program} {l : Launch} {e : Env} {R : Room} {s : State} {m : MethodId} {args : Array Value} {below : List Frame} {meth : Method} {c : Code} {H : Heap} {locs : List Loc} {cells slots : Nat} {Q : State → Prop} {cc : ByteArray} {pc : Nat} {ls : Array Slot} {rest : List Value} {D : va_G} {A : Nat → Prop} {H0 : Heap} {cI cJ cZ : ClassId} {y : MethodName} {bytes : ByteArray} {maxL nL na index f lc : Nat} {own : String} {As st : List Value} {x0 w0 d0 k0 kl ks kw b0 bb bd bm bl bf ba bk bg p0 h0 hl1 hs1 hw1 hc1 i0 il1 is1 iw1 ic1 ik it m0 nw ps im mk wd so mb ma mf mw ml mu wt ty : Nat} {C C1 : Co} {d : Dt} {T : Ms} {r : Int32} (S : CallFix p m c cc nL s args gt own) (hM : ∀ sz, WR l y bytes maxL (some .int) (rmN f lc) D (ty3 cI cJ cZ) (.ref m0 :: As) (wM cI cZ m0 nw ps im mk wd so mb ma mf mw ml mu wt ty C T) sz (fun v w => v = some (.int r) ∧ ∃ z : Ms, w = wM cI cZ m0 nw ps im mk wd so mb ma mf mw ml mu wt ty C1 z ∧ Sim C1 z)) (cw : CallW R s args own RX6 index y bytes maxL (some .int) (uw y bytes maxL (some .int)) (rmN f lc) 0 0 na) (hK : va_K D vwCl (ty3 cI cJ cZ) s) (hN : Nst s) (hP : va_P D vwCl (wX cI cJ cZ x0 w0 d0 k0 kl ks kw b0 bb bd bm bl bf ba bk bg p0 h0 hl1 hs1 hw1 hc1 i0 il1 is1 iw1 ic1 ik it C1 d ++ wM cI cZ m0 nw ps im mk wd so mb ma mf mw ml mu wt ty C T) H) (hD : va_D A (wX cI cJ cZ x0 w0 d0 k0 kl ks kw b0 bb bd bm bl bf ba bk bg p0 h0 hl1 hs1 hw1 hc1 i0 il1 is1 iw1 ic1 ik it C1 d ++ wM cI cZ m0 nw ps im mk wd so mb ma mf mw ml mu wt ty C T)) (hS : va_S A H0 H locs) (hA : ∀ q, H0.size ≤ q → A q) (hn : As.length = na) (hsize : ls.size = nL) (hst : st = As.reverse ++ .ref m0 :: rest) (hW : (rest.map fun v => v.category).sum ≤ 8) (hdg : decode cc pc = .ok (.invokevirtual index, 3)) (hf : cells ≤ R.cells ∧ slots ≤ R.slots)
    (kk : ∀ (z : Ms) (H1 : Heap) (locs1 : List Loc), Sim C1 z → va_P D vwCl (wX cI cJ cZ x0 w0 d0 k0 kl ks kw b0 bb bd bm bl bf ba bk bg p0 h0 hl1 hs1 hw1 hc1 i0 il1 is1 iw1 ic1 ik it C1 d ++ wM cI cZ m0 nw ps im mk wd so mb ma mf mw ml mu wt ty C1 z) H1 → va_D A (wX cI cJ cZ x0 w0 d0 k0 kl ks kw b0 bb bd bm bl bf ba bk bg p0 h0 hl1 hs1 hw1 hc1 i0 il1 is1 iw1 ic1 ik it C1 d ++ wM cI cZ m0 nw ps im mk wd so mb ma mf mw ml mu wt ty C1 z) → va_S A H0 H1 locs1 → W p l e R s m args below meth c H1 locs1 cells slots Q (F0 m (pc + 3) ls (.int r :: rest))) : W p l e R s m args below meth c H locs cells slots Q (F0 m pc ls st) := by
  refine wr_V (As := As) (rest := rest) (wc := (wM cI cZ m0 nw ps im mk wd so mb ma mf mw ml mu wt ty C T)) (wr := (wX cI cJ cZ x0 w0 d0 k0 kl ks kw b0 bb bd bm bl bf ba bk bg p0 h0 hl1 hs1 hw1 hc1 i0 il1 is1 iw1 ic1 ik it C1 d)) S (hM H.size) cw hK hN hP hD hS hA 29 rfl rfl rfl [29, 30, 31, 32, 33, 34, 35, 36, 37, 38, 39, 40, 41, 42, 43] [0, 1, 2, 3, 4, 5, 6, 7, 8, 9, 10, 11, 12, 13, 14, 15, 16, 17, 18, 19, 20, 21, 22, 23, 24, 25, 26, 27, 28] rfl rfl (by decide) (by decide) (by decide) hn hsize hst hW hdg hf (fun v w H1 locs1 hp hP hD hS => ?_)
  obtain ⟨rfl, z, rfl, hz⟩ := hp
  exact kk z H1 locs1 hz hP hD hS
def Nx (p : Program) (l : Launch) (e : Env) (s : State) (m : MethodId) (below : List Frame) (meth : Method) (c : Code) (b : Nat) (D : va_G) (cI cJ cZ : ClassId) (x0 w0 d0 k0 kl ks kw b0 bb bd bm bl bf ba bk bg p0 h0 hl1 hs1 hw1 hc1 i0 il1 is1 iw1 ic1 ik it m0 nw ps im mk wd so mb ma mf mw ml mu wt ty : Nat) (pc i : Nat) : Prop := ∀ (C : Co) (d : Dt) (T : Ms) (H : Heap) (locs : List Loc) (ls : Array Slot), CI C → OkT C d → Sim C T → va_P D vwCl (wX cI cJ cZ x0 w0 d0 k0 kl ks kw b0 bb bd bm bl bf ba bk bg p0 h0 hl1 hs1 hw1 hc1 i0 il1 is1 iw1 ic1 ik it C d ++ wM cI cZ m0 nw ps im mk wd so mb ma mf mw ml mu wt ty C T) H → va_D (fun q : Nat => s.heap.size ≤ q) (wX cI cJ cZ x0 w0 d0 k0 kl ks kw b0 bb bd bm bl bf ba bk bg p0 h0 hl1 hs1 hw1 hc1 i0 il1 is1 iw1 ic1 ik it C d ++ wM cI cZ m0 nw ps im mk wd so mb ma mf mw ml mu wt ty C T) → va_S (fun q : Nat => s.heap.size ≤ q) s.heap H locs → lv_has ls 4 [(0, .ref b), (1, .ref x0), (2, .ref m0), (3, .int (nI i))] → W p l e room_1 s m #[Value.ref b] below meth c H locs 600000 7302250 (lw_Z below #[Value.ref b] s) (F0 m pc ls [])
set_option maxHeartbeats 4000000 in
set_option maxRecDepth 100000 in
theorem law_feed {p : Program} {e : Env} {s : State} {m : MethodId} {below : List Frame} {meth : Method} {c : Code} (l : Launch) {b L : Nat} {xs : Nat → Int32} (D : va_G) (cI cJ cZ : ClassId) (x0 w0 d0 k0 kl ks kw b0 bb bd bm bl bf ba bk bg p0 h0 hl1 hs1 hw1 hc1 i0 il1 is1 iw1 ic1 ik it m0 nw ps im mk wd so mb ma mf mw ml mu wt ty : Nat) (hx : p.tables.exec = Jvm.exec) (hb : c.code = code) (hml : c.maxLocals = 4) (hown : s.vm.findClass RL = some m.cls) (hts : ∀ w ∈ gt, w.before #[Value.ref b] s = true) (hX : va_X b L xs s s.heap) (hbl : b < s.heap.size) (hK : va_K D vwCl (ty3 cI cJ cZ) s) (hN : Nst s) (hL : L ≤ 1536) (i : Nat) (hi : i + 3 ≤ L) (nxt : Nx p l e s m below meth c b D cI cJ cZ x0 w0 d0 k0 kl ks kw b0 bb bd bm bl bf ba bk bg p0 h0 hl1 hs1 hw1 hc1 i0 il1 is1 iw1 ic1 ik it m0 nw ps im mk wd so mb ma mf mw ml mu wt ty 676 i) : Nx p l e s m below meth c b D cI cJ cZ x0 w0 d0 k0 kl ks kw b0 bb bd bm bl bf ba bk bg p0 h0 hl1 hs1 hw1 hc1 i0 il1 is1 iw1 ic1 ik it m0 nw ps im mk wd so mb ma mf mw ml mu wt ty 144 i := by
  intro C d T H locs ls hC hd hT hP hD hS hl
  have hA : ∀ q : Nat, s.heap.size ≤ q → (fun q : Nat => s.heap.size ≤ q) q := fun _ h => h
  have hbA : ¬ (fun q : Nat => s.heap.size ≤ q) b := Nat.not_le.mpr hbl
  obtain ⟨r, C1, hC1, hX1, hM1⟩ := p_feed l D cI cJ cZ x0 w0 d0 k0 kl ks kw b0 bb bd bm bl bf ba bk bg p0 h0 hl1 hs1 hw1 hc1 i0 il1 is1 iw1 ic1 ik it m0 nw ps im mk wd so mb ma mf mw ml mu wt ty C d T hC hd hT (xs (i + 1))
  refine lv_aload_n hx hb dL_law_144 rfl (lv_at hl 1 rfl) ?_
  refine lv_aload_n hx hb dL_law_145 rfl (lv_at hl 0 rfl) ?_
  refine lv_iload_n hx hb dL_law_146 rfl (lv_at hl 3 rfl) ?_
  refine lv_iconst (v := nI 1) hx hb dL_law_147 (by decide +kernel) ?_
  refine n_iadd hx hb dL_law_148 ?_
  refine va_sld hx hb hX hbl hbA hS (vp_in_nI (n := i + 1) (N := L) (by omega) (by omega)) dL_law_149 ?_
  rw [nI_clamp (by omega)]
  refine law_x (As := [.int (xs (i + 1))]) (rest := []) ⟨hx, hb, hml, hown, hts⟩ hX1 (k_L_13 hts ⟨Nat.le_of_ble_eq_true rfl, Nat.le_of_ble_eq_true rfl⟩) hK hN hP hD hS hA rfl hl.1 rfl (Nat.le_of_ble_eq_true rfl) dL_law_150 ⟨Nat.le_of_ble_eq_true rfl, Nat.le_of_ble_eq_true rfl⟩ (fun d1 H locs hd1 hP hD hS => ?_)
  refine lv_aload_n hx hb dL_law_153 rfl (lv_at hl 2 rfl) ?_
  refine lv_aload_n hx hb dL_law_154 rfl (lv_at hl 0 rfl) ?_
  refine lv_iload_n hx hb dL_law_155 rfl (lv_at hl 3 rfl) ?_
  refine lv_iconst (v := nI 1) hx hb dL_law_156 (by decide +kernel) ?_
  refine n_iadd hx hb dL_law_157 ?_
  refine va_sld hx hb hX hbl hbA hS (vp_in_nI (n := i + 1) (N := L) (by omega) (by omega)) dL_law_158 ?_
  rw [nI_clamp (by omega)]
  refine law_m (As := [.int (xs (i + 1))]) (rest := [.int r]) ⟨hx, hb, hml, hown, hts⟩ hM1 (k_L_17 hts ⟨Nat.le_of_ble_eq_true rfl, Nat.le_of_ble_eq_true rfl⟩) hK hN hP hD hS hA rfl hl.1 rfl (Nat.le_of_ble_eq_true rfl) dL_law_159 ⟨Nat.le_of_ble_eq_true rfl, Nat.le_of_ble_eq_true rfl⟩ (fun T1 H locs hT1 hP hD hS => ?_)
  refine lv_icmp_eq (tgt := 676) hx hb dL_law_162 (by decide) (fun _ => ?_) (fun h => absurd rfl h)
  exact nxt C1 d1 T1 H locs ls hC1 hd1 hT1 hP hD hS hl
set_option maxHeartbeats 4000000 in
set_option maxRecDepth 100000 in
theorem law_wipe {p : Program} {e : Env} {s : State} {m : MethodId} {below : List Frame} {meth : Method} {c : Code} (l : Launch) {b L : Nat} {xs : Nat → Int32} (D : va_G) (cI cJ cZ : ClassId) (x0 w0 d0 k0 kl ks kw b0 bb bd bm bl bf ba bk bg p0 h0 hl1 hs1 hw1 hc1 i0 il1 is1 iw1 ic1 ik it m0 nw ps im mk wd so mb ma mf mw ml mu wt ty : Nat) (hx : p.tables.exec = Jvm.exec) (hb : c.code = code) (hml : c.maxLocals = 4) (hown : s.vm.findClass RL = some m.cls) (hts : ∀ w ∈ gt, w.before #[Value.ref b] s = true) (hX : va_X b L xs s s.heap) (hbl : b < s.heap.size) (hK : va_K D vwCl (ty3 cI cJ cZ) s) (hN : Nst s) (hL : L ≤ 1536) (i : Nat) (hi : i + 3 ≤ L) (nxt : Nx p l e s m below meth c b D cI cJ cZ x0 w0 d0 k0 kl ks kw b0 bb bd bm bl bf ba bk bg p0 h0 hl1 hs1 hw1 hc1 i0 il1 is1 iw1 ic1 ik it m0 nw ps im mk wd so mb ma mf mw ml mu wt ty 676 i) : Nx p l e s m below meth c b D cI cJ cZ x0 w0 d0 k0 kl ks kw b0 bb bd bm bl bf ba bk bg p0 h0 hl1 hs1 hw1 hc1 i0 il1 is1 iw1 ic1 ik it m0 nw ps im mk wd so mb ma mf mw ml mu wt ty 167 i := by
  intro C d T H locs ls hC hd hT hP hD hS hl
  have hA : ∀ q : Nat, s.heap.size ≤ q → (fun q : Nat => s.heap.size ≤ q) q := fun _ h => h
  have hbA : ¬ (fun q : Nat => s.heap.size ≤ q) b := Nat.not_le.mpr hbl
  obtain ⟨r, C1, hC1, hX1, hM1⟩ := p_wipe l D cI cJ cZ x0 w0 d0 k0 kl ks kw b0 bb bd bm bl bf ba bk bg p0 h0 hl1 hs1 hw1 hc1 i0 il1 is1 iw1 ic1 ik it m0 nw ps im mk wd so mb ma mf mw ml mu wt ty C d T hC hd hT 
  refine lv_aload_n hx hb dL_law_167 rfl (lv_at hl 1 rfl) ?_
  refine law_x (As := []) (rest := []) ⟨hx, hb, hml, hown, hts⟩ hX1 (k_L_18 hts ⟨Nat.le_of_ble_eq_true rfl, Nat.le_of_ble_eq_true rfl⟩) hK hN hP hD hS hA rfl hl.1 rfl (Nat.le_of_ble_eq_true rfl) dL_law_168 ⟨Nat.le_of_ble_eq_true rfl, Nat.le_of_ble_eq_true rfl⟩ (fun d1 H locs hd1 hP hD hS => ?_)
  refine lv_aload_n hx hb dL_law_171 rfl (lv_at hl 2 rfl) ?_
  refine law_m (As := []) (rest := [.int r]) ⟨hx, hb, hml, hown, hts⟩ hM1 (k_L_22 hts ⟨Nat.le_of_ble_eq_true rfl, Nat.le_of_ble_eq_true rfl⟩) hK hN hP hD hS hA rfl hl.1 rfl (Nat.le_of_ble_eq_true rfl) dL_law_172 ⟨Nat.le_of_ble_eq_true rfl, Nat.le_of_ble_eq_true rfl⟩ (fun T1 H locs hT1 hP hD hS => ?_)
  refine lv_icmp_eq (tgt := 676) hx hb dL_law_175 (by decide) (fun _ => ?_) (fun h => absurd rfl h)
  exact nxt C1 d1 T1 H locs ls hC1 hd1 hT1 hP hD hS hl
set_option maxHeartbeats 4000000 in
set_option maxRecDepth 100000 in
theorem law_type {p : Program} {e : Env} {s : State} {m : MethodId} {below : List Frame} {meth : Method} {c : Code} (l : Launch) {b L : Nat} {xs : Nat → Int32} (D : va_G) (cI cJ cZ : ClassId) (x0 w0 d0 k0 kl ks kw b0 bb bd bm bl bf ba bk bg p0 h0 hl1 hs1 hw1 hc1 i0 il1 is1 iw1 ic1 ik it m0 nw ps im mk wd so mb ma mf mw ml mu wt ty : Nat) (hx : p.tables.exec = Jvm.exec) (hb : c.code = code) (hml : c.maxLocals = 4) (hown : s.vm.findClass RL = some m.cls) (hts : ∀ w ∈ gt, w.before #[Value.ref b] s = true) (hX : va_X b L xs s s.heap) (hbl : b < s.heap.size) (hK : va_K D vwCl (ty3 cI cJ cZ) s) (hN : Nst s) (hL : L ≤ 1536) (i : Nat) (hi : i + 3 ≤ L) (nxt : Nx p l e s m below meth c b D cI cJ cZ x0 w0 d0 k0 kl ks kw b0 bb bd bm bl bf ba bk bg p0 h0 hl1 hs1 hw1 hc1 i0 il1 is1 iw1 ic1 ik it m0 nw ps im mk wd so mb ma mf mw ml mu wt ty 676 i) : Nx p l e s m below meth c b D cI cJ cZ x0 w0 d0 k0 kl ks kw b0 bb bd bm bl bf ba bk bg p0 h0 hl1 hs1 hw1 hc1 i0 il1 is1 iw1 ic1 ik it m0 nw ps im mk wd so mb ma mf mw ml mu wt ty 180 i := by
  intro C d T H locs ls hC hd hT hP hD hS hl
  have hA : ∀ q : Nat, s.heap.size ≤ q → (fun q : Nat => s.heap.size ≤ q) q := fun _ h => h
  have hbA : ¬ (fun q : Nat => s.heap.size ≤ q) b := Nat.not_le.mpr hbl
  obtain ⟨r, C1, hC1, hX1, hM1⟩ := p_type l D cI cJ cZ x0 w0 d0 k0 kl ks kw b0 bb bd bm bl bf ba bk bg p0 h0 hl1 hs1 hw1 hc1 i0 il1 is1 iw1 ic1 ik it m0 nw ps im mk wd so mb ma mf mw ml mu wt ty C d T hC hd hT (xs (i + 1))
  refine lv_aload_n hx hb dL_law_180 rfl (lv_at hl 1 rfl) ?_
  refine lv_aload_n hx hb dL_law_181 rfl (lv_at hl 0 rfl) ?_
  refine lv_iload_n hx hb dL_law_182 rfl (lv_at hl 3 rfl) ?_
  refine lv_iconst (v := nI 1) hx hb dL_law_183 (by decide +kernel) ?_
  refine n_iadd hx hb dL_law_184 ?_
  refine va_sld hx hb hX hbl hbA hS (vp_in_nI (n := i + 1) (N := L) (by omega) (by omega)) dL_law_185 ?_
  rw [nI_clamp (by omega)]
  refine law_x (As := [.int (xs (i + 1))]) (rest := []) ⟨hx, hb, hml, hown, hts⟩ hX1 (k_L_23 hts ⟨Nat.le_of_ble_eq_true rfl, Nat.le_of_ble_eq_true rfl⟩) hK hN hP hD hS hA rfl hl.1 rfl (Nat.le_of_ble_eq_true rfl) dL_law_186 ⟨Nat.le_of_ble_eq_true rfl, Nat.le_of_ble_eq_true rfl⟩ (fun d1 H locs hd1 hP hD hS => ?_)
  refine lv_aload_n hx hb dL_law_189 rfl (lv_at hl 2 rfl) ?_
  refine lv_aload_n hx hb dL_law_190 rfl (lv_at hl 0 rfl) ?_
  refine lv_iload_n hx hb dL_law_191 rfl (lv_at hl 3 rfl) ?_
  refine lv_iconst (v := nI 1) hx hb dL_law_192 (by decide +kernel) ?_
  refine n_iadd hx hb dL_law_193 ?_
  refine va_sld hx hb hX hbl hbA hS (vp_in_nI (n := i + 1) (N := L) (by omega) (by omega)) dL_law_194 ?_
  rw [nI_clamp (by omega)]
  refine law_m (As := [.int (xs (i + 1))]) (rest := [.int r]) ⟨hx, hb, hml, hown, hts⟩ hM1 (k_L_26 hts ⟨Nat.le_of_ble_eq_true rfl, Nat.le_of_ble_eq_true rfl⟩) hK hN hP hD hS hA rfl hl.1 rfl (Nat.le_of_ble_eq_true rfl) dL_law_195 ⟨Nat.le_of_ble_eq_true rfl, Nat.le_of_ble_eq_true rfl⟩ (fun T1 H locs hT1 hP hD hS => ?_)
  refine lv_icmp_eq (tgt := 676) hx hb dL_law_198 (by decide) (fun _ => ?_) (fun h => absurd rfl h)
  exact nxt C1 d1 T1 H locs ls hC1 hd1 hT1 hP hD hS hl
set_option maxHeartbeats 4000000 in
set_option maxRecDepth 100000 in
theorem law_told {p : Program} {e : Env} {s : State} {m : MethodId} {below : List Frame} {meth : Method} {c : Code} (l : Launch) {b L : Nat} {xs : Nat → Int32} (D : va_G) (cI cJ cZ : ClassId) (x0 w0 d0 k0 kl ks kw b0 bb bd bm bl bf ba bk bg p0 h0 hl1 hs1 hw1 hc1 i0 il1 is1 iw1 ic1 ik it m0 nw ps im mk wd so mb ma mf mw ml mu wt ty : Nat) (hx : p.tables.exec = Jvm.exec) (hb : c.code = code) (hml : c.maxLocals = 4) (hown : s.vm.findClass RL = some m.cls) (hts : ∀ w ∈ gt, w.before #[Value.ref b] s = true) (hX : va_X b L xs s s.heap) (hbl : b < s.heap.size) (hK : va_K D vwCl (ty3 cI cJ cZ) s) (hN : Nst s) (hL : L ≤ 1536) (i : Nat) (hi : i + 3 ≤ L) (nxt : Nx p l e s m below meth c b D cI cJ cZ x0 w0 d0 k0 kl ks kw b0 bb bd bm bl bf ba bk bg p0 h0 hl1 hs1 hw1 hc1 i0 il1 is1 iw1 ic1 ik it m0 nw ps im mk wd so mb ma mf mw ml mu wt ty 676 i) : Nx p l e s m below meth c b D cI cJ cZ x0 w0 d0 k0 kl ks kw b0 bb bd bm bl bf ba bk bg p0 h0 hl1 hs1 hw1 hc1 i0 il1 is1 iw1 ic1 ik it m0 nw ps im mk wd so mb ma mf mw ml mu wt ty 203 i := by
  intro C d T H locs ls hC hd hT hP hD hS hl
  have hA : ∀ q : Nat, s.heap.size ≤ q → (fun q : Nat => s.heap.size ≤ q) q := fun _ h => h
  have hbA : ¬ (fun q : Nat => s.heap.size ≤ q) b := Nat.not_le.mpr hbl
  obtain ⟨r, C1, hC1, hX1, hM1⟩ := p_told l D cI cJ cZ x0 w0 d0 k0 kl ks kw b0 bb bd bm bl bf ba bk bg p0 h0 hl1 hs1 hw1 hc1 i0 il1 is1 iw1 ic1 ik it m0 nw ps im mk wd so mb ma mf mw ml mu wt ty C d T hC hd hT (xs (i + 1))
  refine lv_aload_n hx hb dL_law_203 rfl (lv_at hl 1 rfl) ?_
  refine lv_aload_n hx hb dL_law_204 rfl (lv_at hl 0 rfl) ?_
  refine lv_iload_n hx hb dL_law_205 rfl (lv_at hl 3 rfl) ?_
  refine lv_iconst (v := nI 1) hx hb dL_law_206 (by decide +kernel) ?_
  refine n_iadd hx hb dL_law_207 ?_
  refine va_sld hx hb hX hbl hbA hS (vp_in_nI (n := i + 1) (N := L) (by omega) (by omega)) dL_law_208 ?_
  rw [nI_clamp (by omega)]
  refine law_x (As := [.int (xs (i + 1))]) (rest := []) ⟨hx, hb, hml, hown, hts⟩ hX1 (k_L_27 hts ⟨Nat.le_of_ble_eq_true rfl, Nat.le_of_ble_eq_true rfl⟩) hK hN hP hD hS hA rfl hl.1 rfl (Nat.le_of_ble_eq_true rfl) dL_law_209 ⟨Nat.le_of_ble_eq_true rfl, Nat.le_of_ble_eq_true rfl⟩ (fun d1 H locs hd1 hP hD hS => ?_)
  refine lv_aload_n hx hb dL_law_212 rfl (lv_at hl 2 rfl) ?_
  refine lv_aload_n hx hb dL_law_213 rfl (lv_at hl 0 rfl) ?_
  refine lv_iload_n hx hb dL_law_214 rfl (lv_at hl 3 rfl) ?_
  refine lv_iconst (v := nI 1) hx hb dL_law_215 (by decide +kernel) ?_
  refine n_iadd hx hb dL_law_216 ?_
  refine va_sld hx hb hX hbl hbA hS (vp_in_nI (n := i + 1) (N := L) (by omega) (by omega)) dL_law_217 ?_
  rw [nI_clamp (by omega)]
  refine law_m (As := [.int (xs (i + 1))]) (rest := [.int r]) ⟨hx, hb, hml, hown, hts⟩ hM1 (k_L_30 hts ⟨Nat.le_of_ble_eq_true rfl, Nat.le_of_ble_eq_true rfl⟩) hK hN hP hD hS hA rfl hl.1 rfl (Nat.le_of_ble_eq_true rfl) dL_law_218 ⟨Nat.le_of_ble_eq_true rfl, Nat.le_of_ble_eq_true rfl⟩ (fun T1 H locs hT1 hP hD hS => ?_)
  refine lv_icmp_eq (tgt := 676) hx hb dL_law_221 (by decide) (fun _ => ?_) (fun h => absurd rfl h)
  exact nxt C1 d1 T1 H locs ls hC1 hd1 hT1 hP hD hS hl
set_option maxHeartbeats 4000000 in
set_option maxRecDepth 100000 in
theorem law_key {p : Program} {e : Env} {s : State} {m : MethodId} {below : List Frame} {meth : Method} {c : Code} (l : Launch) {b L : Nat} {xs : Nat → Int32} (D : va_G) (cI cJ cZ : ClassId) (x0 w0 d0 k0 kl ks kw b0 bb bd bm bl bf ba bk bg p0 h0 hl1 hs1 hw1 hc1 i0 il1 is1 iw1 ic1 ik it m0 nw ps im mk wd so mb ma mf mw ml mu wt ty : Nat) (hx : p.tables.exec = Jvm.exec) (hb : c.code = code) (hml : c.maxLocals = 4) (hown : s.vm.findClass RL = some m.cls) (hts : ∀ w ∈ gt, w.before #[Value.ref b] s = true) (hX : va_X b L xs s s.heap) (hbl : b < s.heap.size) (hK : va_K D vwCl (ty3 cI cJ cZ) s) (hN : Nst s) (hL : L ≤ 1536) (i : Nat) (hi : i + 3 ≤ L) (nxt : Nx p l e s m below meth c b D cI cJ cZ x0 w0 d0 k0 kl ks kw b0 bb bd bm bl bf ba bk bg p0 h0 hl1 hs1 hw1 hc1 i0 il1 is1 iw1 ic1 ik it m0 nw ps im mk wd so mb ma mf mw ml mu wt ty 676 i) : Nx p l e s m below meth c b D cI cJ cZ x0 w0 d0 k0 kl ks kw b0 bb bd bm bl bf ba bk bg p0 h0 hl1 hs1 hw1 hc1 i0 il1 is1 iw1 ic1 ik it m0 nw ps im mk wd so mb ma mf mw ml mu wt ty 226 i := by
  intro C d T H locs ls hC hd hT hP hD hS hl
  have hA : ∀ q : Nat, s.heap.size ≤ q → (fun q : Nat => s.heap.size ≤ q) q := fun _ h => h
  have hbA : ¬ (fun q : Nat => s.heap.size ≤ q) b := Nat.not_le.mpr hbl
  obtain ⟨r, C1, hC1, hX1, hM1⟩ := p_key l D cI cJ cZ x0 w0 d0 k0 kl ks kw b0 bb bd bm bl bf ba bk bg p0 h0 hl1 hs1 hw1 hc1 i0 il1 is1 iw1 ic1 ik it m0 nw ps im mk wd so mb ma mf mw ml mu wt ty C d T hC hd hT (xs (i + 1)) (xs (i + 2))
  refine lv_aload_n hx hb dL_law_226 rfl (lv_at hl 1 rfl) ?_
  refine lv_aload_n hx hb dL_law_227 rfl (lv_at hl 0 rfl) ?_
  refine lv_iload_n hx hb dL_law_228 rfl (lv_at hl 3 rfl) ?_
  refine lv_iconst (v := nI 1) hx hb dL_law_229 (by decide +kernel) ?_
  refine n_iadd hx hb dL_law_230 ?_
  refine va_sld hx hb hX hbl hbA hS (vp_in_nI (n := i + 1) (N := L) (by omega) (by omega)) dL_law_231 ?_
  rw [nI_clamp (by omega)]
  refine lv_aload_n hx hb dL_law_232 rfl (lv_at hl 0 rfl) ?_
  refine lv_iload_n hx hb dL_law_233 rfl (lv_at hl 3 rfl) ?_
  refine lv_iconst (v := nI 2) hx hb dL_law_234 (by decide +kernel) ?_
  refine n_iadd hx hb dL_law_235 ?_
  refine va_sld hx hb hX hbl hbA hS (vp_in_nI (n := i + 2) (N := L) (by omega) (by omega)) dL_law_236 ?_
  rw [nI_clamp (by omega)]
  refine law_x (As := [.int (xs (i + 1)), .int (xs (i + 2))]) (rest := []) ⟨hx, hb, hml, hown, hts⟩ hX1 (k_L_31 hts ⟨Nat.le_of_ble_eq_true rfl, Nat.le_of_ble_eq_true rfl⟩) hK hN hP hD hS hA rfl hl.1 rfl (Nat.le_of_ble_eq_true rfl) dL_law_237 ⟨Nat.le_of_ble_eq_true rfl, Nat.le_of_ble_eq_true rfl⟩ (fun d1 H locs hd1 hP hD hS => ?_)
  refine lv_aload_n hx hb dL_law_240 rfl (lv_at hl 2 rfl) ?_
  refine lv_aload_n hx hb dL_law_241 rfl (lv_at hl 0 rfl) ?_
  refine lv_iload_n hx hb dL_law_242 rfl (lv_at hl 3 rfl) ?_
  refine lv_iconst (v := nI 1) hx hb dL_law_243 (by decide +kernel) ?_
  refine n_iadd hx hb dL_law_244 ?_
  refine va_sld hx hb hX hbl hbA hS (vp_in_nI (n := i + 1) (N := L) (by omega) (by omega)) dL_law_245 ?_
  rw [nI_clamp (by omega)]
  refine lv_aload_n hx hb dL_law_246 rfl (lv_at hl 0 rfl) ?_
  refine lv_iload_n hx hb dL_law_247 rfl (lv_at hl 3 rfl) ?_
  refine lv_iconst (v := nI 2) hx hb dL_law_248 (by decide +kernel) ?_
  refine n_iadd hx hb dL_law_249 ?_
  refine va_sld hx hb hX hbl hbA hS (vp_in_nI (n := i + 2) (N := L) (by omega) (by omega)) dL_law_250 ?_
  rw [nI_clamp (by omega)]
  refine law_m (As := [.int (xs (i + 1)), .int (xs (i + 2))]) (rest := [.int r]) ⟨hx, hb, hml, hown, hts⟩ hM1 (k_L_35 hts ⟨Nat.le_of_ble_eq_true rfl, Nat.le_of_ble_eq_true rfl⟩) hK hN hP hD hS hA rfl hl.1 rfl (Nat.le_of_ble_eq_true rfl) dL_law_251 ⟨Nat.le_of_ble_eq_true rfl, Nat.le_of_ble_eq_true rfl⟩ (fun T1 H locs hT1 hP hD hS => ?_)
  refine lv_icmp_eq (tgt := 676) hx hb dL_law_254 (by decide) (fun _ => ?_) (fun h => absurd rfl h)
  exact nxt C1 d1 T1 H locs ls hC1 hd1 hT1 hP hD hS hl
set_option maxHeartbeats 4000000 in
set_option maxRecDepth 100000 in
theorem law_branch {p : Program} {e : Env} {s : State} {m : MethodId} {below : List Frame} {meth : Method} {c : Code} (l : Launch) {b L : Nat} {xs : Nat → Int32} (D : va_G) (cI cJ cZ : ClassId) (x0 w0 d0 k0 kl ks kw b0 bb bd bm bl bf ba bk bg p0 h0 hl1 hs1 hw1 hc1 i0 il1 is1 iw1 ic1 ik it m0 nw ps im mk wd so mb ma mf mw ml mu wt ty : Nat) (hx : p.tables.exec = Jvm.exec) (hb : c.code = code) (hml : c.maxLocals = 4) (hown : s.vm.findClass RL = some m.cls) (hts : ∀ w ∈ gt, w.before #[Value.ref b] s = true) (hX : va_X b L xs s s.heap) (hbl : b < s.heap.size) (hK : va_K D vwCl (ty3 cI cJ cZ) s) (hN : Nst s) (hL : L ≤ 1536) (i : Nat) (hi : i + 3 ≤ L) (nxt : Nx p l e s m below meth c b D cI cJ cZ x0 w0 d0 k0 kl ks kw b0 bb bd bm bl bf ba bk bg p0 h0 hl1 hs1 hw1 hc1 i0 il1 is1 iw1 ic1 ik it m0 nw ps im mk wd so mb ma mf mw ml mu wt ty 676 i) : Nx p l e s m below meth c b D cI cJ cZ x0 w0 d0 k0 kl ks kw b0 bb bd bm bl bf ba bk bg p0 h0 hl1 hs1 hw1 hc1 i0 il1 is1 iw1 ic1 ik it m0 nw ps im mk wd so mb ma mf mw ml mu wt ty 259 i := by
  intro C d T H locs ls hC hd hT hP hD hS hl
  have hA : ∀ q : Nat, s.heap.size ≤ q → (fun q : Nat => s.heap.size ≤ q) q := fun _ h => h
  have hbA : ¬ (fun q : Nat => s.heap.size ≤ q) b := Nat.not_le.mpr hbl
  obtain ⟨r, C1, hC1, hX1, hM1⟩ := p_branch l D cI cJ cZ x0 w0 d0 k0 kl ks kw b0 bb bd bm bl bf ba bk bg p0 h0 hl1 hs1 hw1 hc1 i0 il1 is1 iw1 ic1 ik it m0 nw ps im mk wd so mb ma mf mw ml mu wt ty C d T hC hd hT (xs (i + 1)) (xs (i + 2))
  refine lv_aload_n hx hb dL_law_259 rfl (lv_at hl 1 rfl) ?_
  refine lv_aload_n hx hb dL_law_260 rfl (lv_at hl 0 rfl) ?_
  refine lv_iload_n hx hb dL_law_261 rfl (lv_at hl 3 rfl) ?_
  refine lv_iconst (v := nI 1) hx hb dL_law_262 (by decide +kernel) ?_
  refine n_iadd hx hb dL_law_263 ?_
  refine va_sld hx hb hX hbl hbA hS (vp_in_nI (n := i + 1) (N := L) (by omega) (by omega)) dL_law_264 ?_
  rw [nI_clamp (by omega)]
  refine lv_aload_n hx hb dL_law_265 rfl (lv_at hl 0 rfl) ?_
  refine lv_iload_n hx hb dL_law_266 rfl (lv_at hl 3 rfl) ?_
  refine lv_iconst (v := nI 2) hx hb dL_law_267 (by decide +kernel) ?_
  refine n_iadd hx hb dL_law_268 ?_
  refine va_sld hx hb hX hbl hbA hS (vp_in_nI (n := i + 2) (N := L) (by omega) (by omega)) dL_law_269 ?_
  rw [nI_clamp (by omega)]
  refine law_x (As := [.int (xs (i + 1)), .int (xs (i + 2))]) (rest := []) ⟨hx, hb, hml, hown, hts⟩ hX1 (k_L_36 hts ⟨Nat.le_of_ble_eq_true rfl, Nat.le_of_ble_eq_true rfl⟩) hK hN hP hD hS hA rfl hl.1 rfl (Nat.le_of_ble_eq_true rfl) dL_law_270 ⟨Nat.le_of_ble_eq_true rfl, Nat.le_of_ble_eq_true rfl⟩ (fun d1 H locs hd1 hP hD hS => ?_)
  refine lv_aload_n hx hb dL_law_273 rfl (lv_at hl 2 rfl) ?_
  refine lv_aload_n hx hb dL_law_274 rfl (lv_at hl 0 rfl) ?_
  refine lv_iload_n hx hb dL_law_275 rfl (lv_at hl 3 rfl) ?_
  refine lv_iconst (v := nI 1) hx hb dL_law_276 (by decide +kernel) ?_
  refine n_iadd hx hb dL_law_277 ?_
  refine va_sld hx hb hX hbl hbA hS (vp_in_nI (n := i + 1) (N := L) (by omega) (by omega)) dL_law_278 ?_
  rw [nI_clamp (by omega)]
  refine lv_aload_n hx hb dL_law_279 rfl (lv_at hl 0 rfl) ?_
  refine lv_iload_n hx hb dL_law_280 rfl (lv_at hl 3 rfl) ?_
  refine lv_iconst (v := nI 2) hx hb dL_law_281 (by decide +kernel) ?_
  refine n_iadd hx hb dL_law_282 ?_
  refine va_sld hx hb hX hbl hbA hS (vp_in_nI (n := i + 2) (N := L) (by omega) (by omega)) dL_law_283 ?_
  rw [nI_clamp (by omega)]
  refine law_m (As := [.int (xs (i + 1)), .int (xs (i + 2))]) (rest := [.int r]) ⟨hx, hb, hml, hown, hts⟩ hM1 (k_L_39 hts ⟨Nat.le_of_ble_eq_true rfl, Nat.le_of_ble_eq_true rfl⟩) hK hN hP hD hS hA rfl hl.1 rfl (Nat.le_of_ble_eq_true rfl) dL_law_284 ⟨Nat.le_of_ble_eq_true rfl, Nat.le_of_ble_eq_true rfl⟩ (fun T1 H locs hT1 hP hD hS => ?_)
  refine lv_icmp_eq (tgt := 676) hx hb dL_law_287 (by decide) (fun _ => ?_) (fun h => absurd rfl h)
  exact nxt C1 d1 T1 H locs ls hC1 hd1 hT1 hP hD hS hl
set_option maxHeartbeats 4000000 in
set_option maxRecDepth 100000 in
theorem law_put {p : Program} {e : Env} {s : State} {m : MethodId} {below : List Frame} {meth : Method} {c : Code} (l : Launch) {b L : Nat} {xs : Nat → Int32} (D : va_G) (cI cJ cZ : ClassId) (x0 w0 d0 k0 kl ks kw b0 bb bd bm bl bf ba bk bg p0 h0 hl1 hs1 hw1 hc1 i0 il1 is1 iw1 ic1 ik it m0 nw ps im mk wd so mb ma mf mw ml mu wt ty : Nat) (hx : p.tables.exec = Jvm.exec) (hb : c.code = code) (hml : c.maxLocals = 4) (hown : s.vm.findClass RL = some m.cls) (hts : ∀ w ∈ gt, w.before #[Value.ref b] s = true) (hX : va_X b L xs s s.heap) (hbl : b < s.heap.size) (hK : va_K D vwCl (ty3 cI cJ cZ) s) (hN : Nst s) (hL : L ≤ 1536) (i : Nat) (hi : i + 3 ≤ L) (nxt : Nx p l e s m below meth c b D cI cJ cZ x0 w0 d0 k0 kl ks kw b0 bb bd bm bl bf ba bk bg p0 h0 hl1 hs1 hw1 hc1 i0 il1 is1 iw1 ic1 ik it m0 nw ps im mk wd so mb ma mf mw ml mu wt ty 676 i) : Nx p l e s m below meth c b D cI cJ cZ x0 w0 d0 k0 kl ks kw b0 bb bd bm bl bf ba bk bg p0 h0 hl1 hs1 hw1 hc1 i0 il1 is1 iw1 ic1 ik it m0 nw ps im mk wd so mb ma mf mw ml mu wt ty 292 i := by
  intro C d T H locs ls hC hd hT hP hD hS hl
  have hA : ∀ q : Nat, s.heap.size ≤ q → (fun q : Nat => s.heap.size ≤ q) q := fun _ h => h
  have hbA : ¬ (fun q : Nat => s.heap.size ≤ q) b := Nat.not_le.mpr hbl
  obtain ⟨r, C1, hC1, hX1, hM1⟩ := p_put l D cI cJ cZ x0 w0 d0 k0 kl ks kw b0 bb bd bm bl bf ba bk bg p0 h0 hl1 hs1 hw1 hc1 i0 il1 is1 iw1 ic1 ik it m0 nw ps im mk wd so mb ma mf mw ml mu wt ty C d T hC hd hT (xs (i + 1))
  refine lv_aload_n hx hb dL_law_292 rfl (lv_at hl 1 rfl) ?_
  refine lv_aload_n hx hb dL_law_293 rfl (lv_at hl 0 rfl) ?_
  refine lv_iload_n hx hb dL_law_294 rfl (lv_at hl 3 rfl) ?_
  refine lv_iconst (v := nI 1) hx hb dL_law_295 (by decide +kernel) ?_
  refine n_iadd hx hb dL_law_296 ?_
  refine va_sld hx hb hX hbl hbA hS (vp_in_nI (n := i + 1) (N := L) (by omega) (by omega)) dL_law_297 ?_
  rw [nI_clamp (by omega)]
  refine law_x (As := [.int (xs (i + 1))]) (rest := []) ⟨hx, hb, hml, hown, hts⟩ hX1 (k_L_40 hts ⟨Nat.le_of_ble_eq_true rfl, Nat.le_of_ble_eq_true rfl⟩) hK hN hP hD hS hA rfl hl.1 rfl (Nat.le_of_ble_eq_true rfl) dL_law_298 ⟨Nat.le_of_ble_eq_true rfl, Nat.le_of_ble_eq_true rfl⟩ (fun d1 H locs hd1 hP hD hS => ?_)
  refine lv_aload_n hx hb dL_law_301 rfl (lv_at hl 2 rfl) ?_
  refine lv_aload_n hx hb dL_law_302 rfl (lv_at hl 0 rfl) ?_
  refine lv_iload_n hx hb dL_law_303 rfl (lv_at hl 3 rfl) ?_
  refine lv_iconst (v := nI 1) hx hb dL_law_304 (by decide +kernel) ?_
  refine n_iadd hx hb dL_law_305 ?_
  refine va_sld hx hb hX hbl hbA hS (vp_in_nI (n := i + 1) (N := L) (by omega) (by omega)) dL_law_306 ?_
  rw [nI_clamp (by omega)]
  refine law_m (As := [.int (xs (i + 1))]) (rest := [.int r]) ⟨hx, hb, hml, hown, hts⟩ hM1 (k_L_43 hts ⟨Nat.le_of_ble_eq_true rfl, Nat.le_of_ble_eq_true rfl⟩) hK hN hP hD hS hA rfl hl.1 rfl (Nat.le_of_ble_eq_true rfl) dL_law_307 ⟨Nat.le_of_ble_eq_true rfl, Nat.le_of_ble_eq_true rfl⟩ (fun T1 H locs hT1 hP hD hS => ?_)
  refine lv_icmp_eq (tgt := 676) hx hb dL_law_310 (by decide) (fun _ => ?_) (fun h => absurd rfl h)
  exact nxt C1 d1 T1 H locs ls hC1 hd1 hT1 hP hD hS hl
set_option maxHeartbeats 4000000 in
set_option maxRecDepth 100000 in
theorem law_take {p : Program} {e : Env} {s : State} {m : MethodId} {below : List Frame} {meth : Method} {c : Code} (l : Launch) {b L : Nat} {xs : Nat → Int32} (D : va_G) (cI cJ cZ : ClassId) (x0 w0 d0 k0 kl ks kw b0 bb bd bm bl bf ba bk bg p0 h0 hl1 hs1 hw1 hc1 i0 il1 is1 iw1 ic1 ik it m0 nw ps im mk wd so mb ma mf mw ml mu wt ty : Nat) (hx : p.tables.exec = Jvm.exec) (hb : c.code = code) (hml : c.maxLocals = 4) (hown : s.vm.findClass RL = some m.cls) (hts : ∀ w ∈ gt, w.before #[Value.ref b] s = true) (hX : va_X b L xs s s.heap) (hbl : b < s.heap.size) (hK : va_K D vwCl (ty3 cI cJ cZ) s) (hN : Nst s) (hL : L ≤ 1536) (i : Nat) (hi : i + 3 ≤ L) (nxt : Nx p l e s m below meth c b D cI cJ cZ x0 w0 d0 k0 kl ks kw b0 bb bd bm bl bf ba bk bg p0 h0 hl1 hs1 hw1 hc1 i0 il1 is1 iw1 ic1 ik it m0 nw ps im mk wd so mb ma mf mw ml mu wt ty 676 i) : Nx p l e s m below meth c b D cI cJ cZ x0 w0 d0 k0 kl ks kw b0 bb bd bm bl bf ba bk bg p0 h0 hl1 hs1 hw1 hc1 i0 il1 is1 iw1 ic1 ik it m0 nw ps im mk wd so mb ma mf mw ml mu wt ty 315 i := by
  intro C d T H locs ls hC hd hT hP hD hS hl
  have hA : ∀ q : Nat, s.heap.size ≤ q → (fun q : Nat => s.heap.size ≤ q) q := fun _ h => h
  have hbA : ¬ (fun q : Nat => s.heap.size ≤ q) b := Nat.not_le.mpr hbl
  obtain ⟨r, C1, hC1, hX1, hM1⟩ := p_take l D cI cJ cZ x0 w0 d0 k0 kl ks kw b0 bb bd bm bl bf ba bk bg p0 h0 hl1 hs1 hw1 hc1 i0 il1 is1 iw1 ic1 ik it m0 nw ps im mk wd so mb ma mf mw ml mu wt ty C d T hC hd hT 
  refine lv_aload_n hx hb dL_law_315 rfl (lv_at hl 1 rfl) ?_
  refine law_x (As := []) (rest := []) ⟨hx, hb, hml, hown, hts⟩ hX1 (k_L_44 hts ⟨Nat.le_of_ble_eq_true rfl, Nat.le_of_ble_eq_true rfl⟩) hK hN hP hD hS hA rfl hl.1 rfl (Nat.le_of_ble_eq_true rfl) dL_law_316 ⟨Nat.le_of_ble_eq_true rfl, Nat.le_of_ble_eq_true rfl⟩ (fun d1 H locs hd1 hP hD hS => ?_)
  refine lv_aload_n hx hb dL_law_319 rfl (lv_at hl 2 rfl) ?_
  refine law_m (As := []) (rest := [.int r]) ⟨hx, hb, hml, hown, hts⟩ hM1 (k_L_47 hts ⟨Nat.le_of_ble_eq_true rfl, Nat.le_of_ble_eq_true rfl⟩) hK hN hP hD hS hA rfl hl.1 rfl (Nat.le_of_ble_eq_true rfl) dL_law_320 ⟨Nat.le_of_ble_eq_true rfl, Nat.le_of_ble_eq_true rfl⟩ (fun T1 H locs hT1 hP hD hS => ?_)
  refine lv_icmp_eq (tgt := 676) hx hb dL_law_323 (by decide) (fun _ => ?_) (fun h => absurd rfl h)
  exact nxt C1 d1 T1 H locs ls hC1 hd1 hT1 hP hD hS hl
set_option maxHeartbeats 4000000 in
set_option maxRecDepth 100000 in
theorem law_cut {p : Program} {e : Env} {s : State} {m : MethodId} {below : List Frame} {meth : Method} {c : Code} (l : Launch) {b L : Nat} {xs : Nat → Int32} (D : va_G) (cI cJ cZ : ClassId) (x0 w0 d0 k0 kl ks kw b0 bb bd bm bl bf ba bk bg p0 h0 hl1 hs1 hw1 hc1 i0 il1 is1 iw1 ic1 ik it m0 nw ps im mk wd so mb ma mf mw ml mu wt ty : Nat) (hx : p.tables.exec = Jvm.exec) (hb : c.code = code) (hml : c.maxLocals = 4) (hown : s.vm.findClass RL = some m.cls) (hts : ∀ w ∈ gt, w.before #[Value.ref b] s = true) (hX : va_X b L xs s s.heap) (hbl : b < s.heap.size) (hK : va_K D vwCl (ty3 cI cJ cZ) s) (hN : Nst s) (hL : L ≤ 1536) (i : Nat) (hi : i + 3 ≤ L) (nxt : Nx p l e s m below meth c b D cI cJ cZ x0 w0 d0 k0 kl ks kw b0 bb bd bm bl bf ba bk bg p0 h0 hl1 hs1 hw1 hc1 i0 il1 is1 iw1 ic1 ik it m0 nw ps im mk wd so mb ma mf mw ml mu wt ty 676 i) : Nx p l e s m below meth c b D cI cJ cZ x0 w0 d0 k0 kl ks kw b0 bb bd bm bl bf ba bk bg p0 h0 hl1 hs1 hw1 hc1 i0 il1 is1 iw1 ic1 ik it m0 nw ps im mk wd so mb ma mf mw ml mu wt ty 328 i := by
  intro C d T H locs ls hC hd hT hP hD hS hl
  have hA : ∀ q : Nat, s.heap.size ≤ q → (fun q : Nat => s.heap.size ≤ q) q := fun _ h => h
  have hbA : ¬ (fun q : Nat => s.heap.size ≤ q) b := Nat.not_le.mpr hbl
  obtain ⟨r, C1, hC1, hX1, hM1⟩ := p_cut l D cI cJ cZ x0 w0 d0 k0 kl ks kw b0 bb bd bm bl bf ba bk bg p0 h0 hl1 hs1 hw1 hc1 i0 il1 is1 iw1 ic1 ik it m0 nw ps im mk wd so mb ma mf mw ml mu wt ty C d T hC hd hT 
  refine lv_aload_n hx hb dL_law_328 rfl (lv_at hl 1 rfl) ?_
  refine law_x (As := []) (rest := []) ⟨hx, hb, hml, hown, hts⟩ hX1 (k_L_48 hts ⟨Nat.le_of_ble_eq_true rfl, Nat.le_of_ble_eq_true rfl⟩) hK hN hP hD hS hA rfl hl.1 rfl (Nat.le_of_ble_eq_true rfl) dL_law_329 ⟨Nat.le_of_ble_eq_true rfl, Nat.le_of_ble_eq_true rfl⟩ (fun d1 H locs hd1 hP hD hS => ?_)
  refine lv_aload_n hx hb dL_law_332 rfl (lv_at hl 2 rfl) ?_
  refine law_m (As := []) (rest := [.int r]) ⟨hx, hb, hml, hown, hts⟩ hM1 (k_L_51 hts ⟨Nat.le_of_ble_eq_true rfl, Nat.le_of_ble_eq_true rfl⟩) hK hN hP hD hS hA rfl hl.1 rfl (Nat.le_of_ble_eq_true rfl) dL_law_333 ⟨Nat.le_of_ble_eq_true rfl, Nat.le_of_ble_eq_true rfl⟩ (fun T1 H locs hT1 hP hD hS => ?_)
  refine lv_icmp_eq (tgt := 676) hx hb dL_law_336 (by decide) (fun _ => ?_) (fun h => absurd rfl h)
  exact nxt C1 d1 T1 H locs ls hC1 hd1 hT1 hP hD hS hl
set_option maxHeartbeats 4000000 in
set_option maxRecDepth 100000 in
theorem law_raise {p : Program} {e : Env} {s : State} {m : MethodId} {below : List Frame} {meth : Method} {c : Code} (l : Launch) {b L : Nat} {xs : Nat → Int32} (D : va_G) (cI cJ cZ : ClassId) (x0 w0 d0 k0 kl ks kw b0 bb bd bm bl bf ba bk bg p0 h0 hl1 hs1 hw1 hc1 i0 il1 is1 iw1 ic1 ik it m0 nw ps im mk wd so mb ma mf mw ml mu wt ty : Nat) (hx : p.tables.exec = Jvm.exec) (hb : c.code = code) (hml : c.maxLocals = 4) (hown : s.vm.findClass RL = some m.cls) (hts : ∀ w ∈ gt, w.before #[Value.ref b] s = true) (hX : va_X b L xs s s.heap) (hbl : b < s.heap.size) (hK : va_K D vwCl (ty3 cI cJ cZ) s) (hN : Nst s) (hL : L ≤ 1536) (i : Nat) (hi : i + 3 ≤ L) (nxt : Nx p l e s m below meth c b D cI cJ cZ x0 w0 d0 k0 kl ks kw b0 bb bd bm bl bf ba bk bg p0 h0 hl1 hs1 hw1 hc1 i0 il1 is1 iw1 ic1 ik it m0 nw ps im mk wd so mb ma mf mw ml mu wt ty 676 i) : Nx p l e s m below meth c b D cI cJ cZ x0 w0 d0 k0 kl ks kw b0 bb bd bm bl bf ba bk bg p0 h0 hl1 hs1 hw1 hc1 i0 il1 is1 iw1 ic1 ik it m0 nw ps im mk wd so mb ma mf mw ml mu wt ty 341 i := by
  intro C d T H locs ls hC hd hT hP hD hS hl
  have hA : ∀ q : Nat, s.heap.size ≤ q → (fun q : Nat => s.heap.size ≤ q) q := fun _ h => h
  have hbA : ¬ (fun q : Nat => s.heap.size ≤ q) b := Nat.not_le.mpr hbl
  obtain ⟨r, C1, hC1, hX1, hM1⟩ := p_raise l D cI cJ cZ x0 w0 d0 k0 kl ks kw b0 bb bd bm bl bf ba bk bg p0 h0 hl1 hs1 hw1 hc1 i0 il1 is1 iw1 ic1 ik it m0 nw ps im mk wd so mb ma mf mw ml mu wt ty C d T hC hd hT (xs (i + 1))
  refine lv_aload_n hx hb dL_law_341 rfl (lv_at hl 1 rfl) ?_
  refine lv_aload_n hx hb dL_law_342 rfl (lv_at hl 0 rfl) ?_
  refine lv_iload_n hx hb dL_law_343 rfl (lv_at hl 3 rfl) ?_
  refine lv_iconst (v := nI 1) hx hb dL_law_344 (by decide +kernel) ?_
  refine n_iadd hx hb dL_law_345 ?_
  refine va_sld hx hb hX hbl hbA hS (vp_in_nI (n := i + 1) (N := L) (by omega) (by omega)) dL_law_346 ?_
  rw [nI_clamp (by omega)]
  refine law_x (As := [.int (xs (i + 1))]) (rest := []) ⟨hx, hb, hml, hown, hts⟩ hX1 (k_L_52 hts ⟨Nat.le_of_ble_eq_true rfl, Nat.le_of_ble_eq_true rfl⟩) hK hN hP hD hS hA rfl hl.1 rfl (Nat.le_of_ble_eq_true rfl) dL_law_347 ⟨Nat.le_of_ble_eq_true rfl, Nat.le_of_ble_eq_true rfl⟩ (fun d1 H locs hd1 hP hD hS => ?_)
  refine lv_aload_n hx hb dL_law_350 rfl (lv_at hl 2 rfl) ?_
  refine lv_aload_n hx hb dL_law_351 rfl (lv_at hl 0 rfl) ?_
  refine lv_iload_n hx hb dL_law_352 rfl (lv_at hl 3 rfl) ?_
  refine lv_iconst (v := nI 1) hx hb dL_law_353 (by decide +kernel) ?_
  refine n_iadd hx hb dL_law_354 ?_
  refine va_sld hx hb hX hbl hbA hS (vp_in_nI (n := i + 1) (N := L) (by omega) (by omega)) dL_law_355 ?_
  rw [nI_clamp (by omega)]
  refine law_m (As := [.int (xs (i + 1))]) (rest := [.int r]) ⟨hx, hb, hml, hown, hts⟩ hM1 (k_L_55 hts ⟨Nat.le_of_ble_eq_true rfl, Nat.le_of_ble_eq_true rfl⟩) hK hN hP hD hS hA rfl hl.1 rfl (Nat.le_of_ble_eq_true rfl) dL_law_356 ⟨Nat.le_of_ble_eq_true rfl, Nat.le_of_ble_eq_true rfl⟩ (fun T1 H locs hT1 hP hD hS => ?_)
  refine lv_icmp_eq (tgt := 676) hx hb dL_law_359 (by decide) (fun _ => ?_) (fun h => absurd rfl h)
  exact nxt C1 d1 T1 H locs ls hC1 hd1 hT1 hP hD hS hl
set_option maxHeartbeats 4000000 in
set_option maxRecDepth 100000 in
theorem law_drift {p : Program} {e : Env} {s : State} {m : MethodId} {below : List Frame} {meth : Method} {c : Code} (l : Launch) {b L : Nat} {xs : Nat → Int32} (D : va_G) (cI cJ cZ : ClassId) (x0 w0 d0 k0 kl ks kw b0 bb bd bm bl bf ba bk bg p0 h0 hl1 hs1 hw1 hc1 i0 il1 is1 iw1 ic1 ik it m0 nw ps im mk wd so mb ma mf mw ml mu wt ty : Nat) (hx : p.tables.exec = Jvm.exec) (hb : c.code = code) (hml : c.maxLocals = 4) (hown : s.vm.findClass RL = some m.cls) (hts : ∀ w ∈ gt, w.before #[Value.ref b] s = true) (hX : va_X b L xs s s.heap) (hbl : b < s.heap.size) (hK : va_K D vwCl (ty3 cI cJ cZ) s) (hN : Nst s) (hL : L ≤ 1536) (i : Nat) (hi : i + 3 ≤ L) (nxt : Nx p l e s m below meth c b D cI cJ cZ x0 w0 d0 k0 kl ks kw b0 bb bd bm bl bf ba bk bg p0 h0 hl1 hs1 hw1 hc1 i0 il1 is1 iw1 ic1 ik it m0 nw ps im mk wd so mb ma mf mw ml mu wt ty 676 i) : Nx p l e s m below meth c b D cI cJ cZ x0 w0 d0 k0 kl ks kw b0 bb bd bm bl bf ba bk bg p0 h0 hl1 hs1 hw1 hc1 i0 il1 is1 iw1 ic1 ik it m0 nw ps im mk wd so mb ma mf mw ml mu wt ty 364 i := by
  intro C d T H locs ls hC hd hT hP hD hS hl
  have hA : ∀ q : Nat, s.heap.size ≤ q → (fun q : Nat => s.heap.size ≤ q) q := fun _ h => h
  have hbA : ¬ (fun q : Nat => s.heap.size ≤ q) b := Nat.not_le.mpr hbl
  obtain ⟨r, C1, hC1, hX1, hM1⟩ := p_drift l D cI cJ cZ x0 w0 d0 k0 kl ks kw b0 bb bd bm bl bf ba bk bg p0 h0 hl1 hs1 hw1 hc1 i0 il1 is1 iw1 ic1 ik it m0 nw ps im mk wd so mb ma mf mw ml mu wt ty C d T hC hd hT (xs (i + 1))
  refine lv_aload_n hx hb dL_law_364 rfl (lv_at hl 1 rfl) ?_
  refine lv_aload_n hx hb dL_law_365 rfl (lv_at hl 0 rfl) ?_
  refine lv_iload_n hx hb dL_law_366 rfl (lv_at hl 3 rfl) ?_
  refine lv_iconst (v := nI 1) hx hb dL_law_367 (by decide +kernel) ?_
  refine n_iadd hx hb dL_law_368 ?_
  refine va_sld hx hb hX hbl hbA hS (vp_in_nI (n := i + 1) (N := L) (by omega) (by omega)) dL_law_369 ?_
  rw [nI_clamp (by omega)]
  refine law_x (As := [.int (xs (i + 1))]) (rest := []) ⟨hx, hb, hml, hown, hts⟩ hX1 (k_L_56 hts ⟨Nat.le_of_ble_eq_true rfl, Nat.le_of_ble_eq_true rfl⟩) hK hN hP hD hS hA rfl hl.1 rfl (Nat.le_of_ble_eq_true rfl) dL_law_370 ⟨Nat.le_of_ble_eq_true rfl, Nat.le_of_ble_eq_true rfl⟩ (fun d1 H locs hd1 hP hD hS => ?_)
  refine lv_aload_n hx hb dL_law_373 rfl (lv_at hl 2 rfl) ?_
  refine lv_aload_n hx hb dL_law_374 rfl (lv_at hl 0 rfl) ?_
  refine lv_iload_n hx hb dL_law_375 rfl (lv_at hl 3 rfl) ?_
  refine lv_iconst (v := nI 1) hx hb dL_law_376 (by decide +kernel) ?_
  refine n_iadd hx hb dL_law_377 ?_
  refine va_sld hx hb hX hbl hbA hS (vp_in_nI (n := i + 1) (N := L) (by omega) (by omega)) dL_law_378 ?_
  rw [nI_clamp (by omega)]
  refine law_m (As := [.int (xs (i + 1))]) (rest := [.int r]) ⟨hx, hb, hml, hown, hts⟩ hM1 (k_L_59 hts ⟨Nat.le_of_ble_eq_true rfl, Nat.le_of_ble_eq_true rfl⟩) hK hN hP hD hS hA rfl hl.1 rfl (Nat.le_of_ble_eq_true rfl) dL_law_379 ⟨Nat.le_of_ble_eq_true rfl, Nat.le_of_ble_eq_true rfl⟩ (fun T1 H locs hT1 hP hD hS => ?_)
  refine lv_icmp_eq (tgt := 676) hx hb dL_law_382 (by decide) (fun _ => ?_) (fun h => absurd rfl h)
  exact nxt C1 d1 T1 H locs ls hC1 hd1 hT1 hP hD hS hl
set_option maxHeartbeats 4000000 in
set_option maxRecDepth 100000 in
theorem law_undo {p : Program} {e : Env} {s : State} {m : MethodId} {below : List Frame} {meth : Method} {c : Code} (l : Launch) {b L : Nat} {xs : Nat → Int32} (D : va_G) (cI cJ cZ : ClassId) (x0 w0 d0 k0 kl ks kw b0 bb bd bm bl bf ba bk bg p0 h0 hl1 hs1 hw1 hc1 i0 il1 is1 iw1 ic1 ik it m0 nw ps im mk wd so mb ma mf mw ml mu wt ty : Nat) (hx : p.tables.exec = Jvm.exec) (hb : c.code = code) (hml : c.maxLocals = 4) (hown : s.vm.findClass RL = some m.cls) (hts : ∀ w ∈ gt, w.before #[Value.ref b] s = true) (hX : va_X b L xs s s.heap) (hbl : b < s.heap.size) (hK : va_K D vwCl (ty3 cI cJ cZ) s) (hN : Nst s) (hL : L ≤ 1536) (i : Nat) (hi : i + 3 ≤ L) (nxt : Nx p l e s m below meth c b D cI cJ cZ x0 w0 d0 k0 kl ks kw b0 bb bd bm bl bf ba bk bg p0 h0 hl1 hs1 hw1 hc1 i0 il1 is1 iw1 ic1 ik it m0 nw ps im mk wd so mb ma mf mw ml mu wt ty 676 i) : Nx p l e s m below meth c b D cI cJ cZ x0 w0 d0 k0 kl ks kw b0 bb bd bm bl bf ba bk bg p0 h0 hl1 hs1 hw1 hc1 i0 il1 is1 iw1 ic1 ik it m0 nw ps im mk wd so mb ma mf mw ml mu wt ty 387 i := by
  intro C d T H locs ls hC hd hT hP hD hS hl
  have hA : ∀ q : Nat, s.heap.size ≤ q → (fun q : Nat => s.heap.size ≤ q) q := fun _ h => h
  have hbA : ¬ (fun q : Nat => s.heap.size ≤ q) b := Nat.not_le.mpr hbl
  obtain ⟨r, C1, hC1, hX1, hM1⟩ := p_undo l D cI cJ cZ x0 w0 d0 k0 kl ks kw b0 bb bd bm bl bf ba bk bg p0 h0 hl1 hs1 hw1 hc1 i0 il1 is1 iw1 ic1 ik it m0 nw ps im mk wd so mb ma mf mw ml mu wt ty C d T hC hd hT (xs (i + 1))
  refine lv_aload_n hx hb dL_law_387 rfl (lv_at hl 1 rfl) ?_
  refine lv_aload_n hx hb dL_law_388 rfl (lv_at hl 0 rfl) ?_
  refine lv_iload_n hx hb dL_law_389 rfl (lv_at hl 3 rfl) ?_
  refine lv_iconst (v := nI 1) hx hb dL_law_390 (by decide +kernel) ?_
  refine n_iadd hx hb dL_law_391 ?_
  refine va_sld hx hb hX hbl hbA hS (vp_in_nI (n := i + 1) (N := L) (by omega) (by omega)) dL_law_392 ?_
  rw [nI_clamp (by omega)]
  refine law_x (As := [.int (xs (i + 1))]) (rest := []) ⟨hx, hb, hml, hown, hts⟩ hX1 (k_L_60 hts ⟨Nat.le_of_ble_eq_true rfl, Nat.le_of_ble_eq_true rfl⟩) hK hN hP hD hS hA rfl hl.1 rfl (Nat.le_of_ble_eq_true rfl) dL_law_393 ⟨Nat.le_of_ble_eq_true rfl, Nat.le_of_ble_eq_true rfl⟩ (fun d1 H locs hd1 hP hD hS => ?_)
  refine lv_aload_n hx hb dL_law_396 rfl (lv_at hl 2 rfl) ?_
  refine lv_aload_n hx hb dL_law_397 rfl (lv_at hl 0 rfl) ?_
  refine lv_iload_n hx hb dL_law_398 rfl (lv_at hl 3 rfl) ?_
  refine lv_iconst (v := nI 1) hx hb dL_law_399 (by decide +kernel) ?_
  refine n_iadd hx hb dL_law_400 ?_
  refine va_sld hx hb hX hbl hbA hS (vp_in_nI (n := i + 1) (N := L) (by omega) (by omega)) dL_law_401 ?_
  rw [nI_clamp (by omega)]
  refine law_m (As := [.int (xs (i + 1))]) (rest := [.int r]) ⟨hx, hb, hml, hown, hts⟩ hM1 (k_L_63 hts ⟨Nat.le_of_ble_eq_true rfl, Nat.le_of_ble_eq_true rfl⟩) hK hN hP hD hS hA rfl hl.1 rfl (Nat.le_of_ble_eq_true rfl) dL_law_402 ⟨Nat.le_of_ble_eq_true rfl, Nat.le_of_ble_eq_true rfl⟩ (fun T1 H locs hT1 hP hD hS => ?_)
  refine lv_icmp_eq (tgt := 676) hx hb dL_law_405 (by decide) (fun _ => ?_) (fun h => absurd rfl h)
  exact nxt C1 d1 T1 H locs ls hC1 hd1 hT1 hP hD hS hl
set_option maxHeartbeats 4000000 in
set_option maxRecDepth 100000 in
theorem law_below {p : Program} {e : Env} {s : State} {m : MethodId} {below : List Frame} {meth : Method} {c : Code} (l : Launch) {b L : Nat} {xs : Nat → Int32} (D : va_G) (cI cJ cZ : ClassId) (x0 w0 d0 k0 kl ks kw b0 bb bd bm bl bf ba bk bg p0 h0 hl1 hs1 hw1 hc1 i0 il1 is1 iw1 ic1 ik it m0 nw ps im mk wd so mb ma mf mw ml mu wt ty : Nat) (hx : p.tables.exec = Jvm.exec) (hb : c.code = code) (hml : c.maxLocals = 4) (hown : s.vm.findClass RL = some m.cls) (hts : ∀ w ∈ gt, w.before #[Value.ref b] s = true) (hX : va_X b L xs s s.heap) (hbl : b < s.heap.size) (hK : va_K D vwCl (ty3 cI cJ cZ) s) (hN : Nst s) (hL : L ≤ 1536) (i : Nat) (hi : i + 3 ≤ L) (nxt : Nx p l e s m below meth c b D cI cJ cZ x0 w0 d0 k0 kl ks kw b0 bb bd bm bl bf ba bk bg p0 h0 hl1 hs1 hw1 hc1 i0 il1 is1 iw1 ic1 ik it m0 nw ps im mk wd so mb ma mf mw ml mu wt ty 676 i) : Nx p l e s m below meth c b D cI cJ cZ x0 w0 d0 k0 kl ks kw b0 bb bd bm bl bf ba bk bg p0 h0 hl1 hs1 hw1 hc1 i0 il1 is1 iw1 ic1 ik it m0 nw ps im mk wd so mb ma mf mw ml mu wt ty 410 i := by
  intro C d T H locs ls hC hd hT hP hD hS hl
  have hA : ∀ q : Nat, s.heap.size ≤ q → (fun q : Nat => s.heap.size ≤ q) q := fun _ h => h
  have hbA : ¬ (fun q : Nat => s.heap.size ≤ q) b := Nat.not_le.mpr hbl
  obtain ⟨r, C1, hC1, hX1, hM1⟩ := p_below l D cI cJ cZ x0 w0 d0 k0 kl ks kw b0 bb bd bm bl bf ba bk bg p0 h0 hl1 hs1 hw1 hc1 i0 il1 is1 iw1 ic1 ik it m0 nw ps im mk wd so mb ma mf mw ml mu wt ty C d T hC hd hT (xs (i + 1))
  refine lv_aload_n hx hb dL_law_410 rfl (lv_at hl 1 rfl) ?_
  refine lv_aload_n hx hb dL_law_411 rfl (lv_at hl 0 rfl) ?_
  refine lv_iload_n hx hb dL_law_412 rfl (lv_at hl 3 rfl) ?_
  refine lv_iconst (v := nI 1) hx hb dL_law_413 (by decide +kernel) ?_
  refine n_iadd hx hb dL_law_414 ?_
  refine va_sld hx hb hX hbl hbA hS (vp_in_nI (n := i + 1) (N := L) (by omega) (by omega)) dL_law_415 ?_
  rw [nI_clamp (by omega)]
  refine law_x (As := [.int (xs (i + 1))]) (rest := []) ⟨hx, hb, hml, hown, hts⟩ hX1 (k_L_64 hts ⟨Nat.le_of_ble_eq_true rfl, Nat.le_of_ble_eq_true rfl⟩) hK hN hP hD hS hA rfl hl.1 rfl (Nat.le_of_ble_eq_true rfl) dL_law_416 ⟨Nat.le_of_ble_eq_true rfl, Nat.le_of_ble_eq_true rfl⟩ (fun d1 H locs hd1 hP hD hS => ?_)
  refine lv_aload_n hx hb dL_law_419 rfl (lv_at hl 2 rfl) ?_
  refine lv_aload_n hx hb dL_law_420 rfl (lv_at hl 0 rfl) ?_
  refine lv_iload_n hx hb dL_law_421 rfl (lv_at hl 3 rfl) ?_
  refine lv_iconst (v := nI 1) hx hb dL_law_422 (by decide +kernel) ?_
  refine n_iadd hx hb dL_law_423 ?_
  refine va_sld hx hb hX hbl hbA hS (vp_in_nI (n := i + 1) (N := L) (by omega) (by omega)) dL_law_424 ?_
  rw [nI_clamp (by omega)]
  refine law_m (As := [.int (xs (i + 1))]) (rest := [.int r]) ⟨hx, hb, hml, hown, hts⟩ hM1 (k_L_67 hts ⟨Nat.le_of_ble_eq_true rfl, Nat.le_of_ble_eq_true rfl⟩) hK hN hP hD hS hA rfl hl.1 rfl (Nat.le_of_ble_eq_true rfl) dL_law_425 ⟨Nat.le_of_ble_eq_true rfl, Nat.le_of_ble_eq_true rfl⟩ (fun T1 H locs hT1 hP hD hS => ?_)
  refine lv_icmp_eq (tgt := 676) hx hb dL_law_428 (by decide) (fun _ => ?_) (fun h => absurd rfl h)
  exact nxt C1 d1 T1 H locs ls hC1 hd1 hT1 hP hD hS hl
set_option maxHeartbeats 4000000 in
set_option maxRecDepth 100000 in
theorem law_stem {p : Program} {e : Env} {s : State} {m : MethodId} {below : List Frame} {meth : Method} {c : Code} (l : Launch) {b L : Nat} {xs : Nat → Int32} (D : va_G) (cI cJ cZ : ClassId) (x0 w0 d0 k0 kl ks kw b0 bb bd bm bl bf ba bk bg p0 h0 hl1 hs1 hw1 hc1 i0 il1 is1 iw1 ic1 ik it m0 nw ps im mk wd so mb ma mf mw ml mu wt ty : Nat) (hx : p.tables.exec = Jvm.exec) (hb : c.code = code) (hml : c.maxLocals = 4) (hown : s.vm.findClass RL = some m.cls) (hts : ∀ w ∈ gt, w.before #[Value.ref b] s = true) (hX : va_X b L xs s s.heap) (hbl : b < s.heap.size) (hK : va_K D vwCl (ty3 cI cJ cZ) s) (hN : Nst s) (hL : L ≤ 1536) (i : Nat) (hi : i + 3 ≤ L) (nxt : Nx p l e s m below meth c b D cI cJ cZ x0 w0 d0 k0 kl ks kw b0 bb bd bm bl bf ba bk bg p0 h0 hl1 hs1 hw1 hc1 i0 il1 is1 iw1 ic1 ik it m0 nw ps im mk wd so mb ma mf mw ml mu wt ty 676 i) : Nx p l e s m below meth c b D cI cJ cZ x0 w0 d0 k0 kl ks kw b0 bb bd bm bl bf ba bk bg p0 h0 hl1 hs1 hw1 hc1 i0 il1 is1 iw1 ic1 ik it m0 nw ps im mk wd so mb ma mf mw ml mu wt ty 433 i := by
  intro C d T H locs ls hC hd hT hP hD hS hl
  have hA : ∀ q : Nat, s.heap.size ≤ q → (fun q : Nat => s.heap.size ≤ q) q := fun _ h => h
  have hbA : ¬ (fun q : Nat => s.heap.size ≤ q) b := Nat.not_le.mpr hbl
  obtain ⟨r, C1, hC1, hX1, hM1⟩ := p_stem l D cI cJ cZ x0 w0 d0 k0 kl ks kw b0 bb bd bm bl bf ba bk bg p0 h0 hl1 hs1 hw1 hc1 i0 il1 is1 iw1 ic1 ik it m0 nw ps im mk wd so mb ma mf mw ml mu wt ty C d T hC hd hT 
  refine lv_aload_n hx hb dL_law_433 rfl (lv_at hl 1 rfl) ?_
  refine law_x (As := []) (rest := []) ⟨hx, hb, hml, hown, hts⟩ hX1 (k_L_68 hts ⟨Nat.le_of_ble_eq_true rfl, Nat.le_of_ble_eq_true rfl⟩) hK hN hP hD hS hA rfl hl.1 rfl (Nat.le_of_ble_eq_true rfl) dL_law_434 ⟨Nat.le_of_ble_eq_true rfl, Nat.le_of_ble_eq_true rfl⟩ (fun d1 H locs hd1 hP hD hS => ?_)
  refine lv_aload_n hx hb dL_law_437 rfl (lv_at hl 2 rfl) ?_
  refine law_m (As := []) (rest := [.int r]) ⟨hx, hb, hml, hown, hts⟩ hM1 (k_L_71 hts ⟨Nat.le_of_ble_eq_true rfl, Nat.le_of_ble_eq_true rfl⟩) hK hN hP hD hS hA rfl hl.1 rfl (Nat.le_of_ble_eq_true rfl) dL_law_438 ⟨Nat.le_of_ble_eq_true rfl, Nat.le_of_ble_eq_true rfl⟩ (fun T1 H locs hT1 hP hD hS => ?_)
  refine lv_icmp_eq (tgt := 676) hx hb dL_law_441 (by decide) (fun _ => ?_) (fun h => absurd rfl h)
  exact nxt C1 d1 T1 H locs ls hC1 hd1 hT1 hP hD hS hl
set_option maxHeartbeats 4000000 in
set_option maxRecDepth 100000 in
theorem law_beside {p : Program} {e : Env} {s : State} {m : MethodId} {below : List Frame} {meth : Method} {c : Code} (l : Launch) {b L : Nat} {xs : Nat → Int32} (D : va_G) (cI cJ cZ : ClassId) (x0 w0 d0 k0 kl ks kw b0 bb bd bm bl bf ba bk bg p0 h0 hl1 hs1 hw1 hc1 i0 il1 is1 iw1 ic1 ik it m0 nw ps im mk wd so mb ma mf mw ml mu wt ty : Nat) (hx : p.tables.exec = Jvm.exec) (hb : c.code = code) (hml : c.maxLocals = 4) (hown : s.vm.findClass RL = some m.cls) (hts : ∀ w ∈ gt, w.before #[Value.ref b] s = true) (hX : va_X b L xs s s.heap) (hbl : b < s.heap.size) (hK : va_K D vwCl (ty3 cI cJ cZ) s) (hN : Nst s) (hL : L ≤ 1536) (i : Nat) (hi : i + 3 ≤ L) (nxt : Nx p l e s m below meth c b D cI cJ cZ x0 w0 d0 k0 kl ks kw b0 bb bd bm bl bf ba bk bg p0 h0 hl1 hs1 hw1 hc1 i0 il1 is1 iw1 ic1 ik it m0 nw ps im mk wd so mb ma mf mw ml mu wt ty 676 i) : Nx p l e s m below meth c b D cI cJ cZ x0 w0 d0 k0 kl ks kw b0 bb bd bm bl bf ba bk bg p0 h0 hl1 hs1 hw1 hc1 i0 il1 is1 iw1 ic1 ik it m0 nw ps im mk wd so mb ma mf mw ml mu wt ty 446 i := by
  intro C d T H locs ls hC hd hT hP hD hS hl
  have hA : ∀ q : Nat, s.heap.size ≤ q → (fun q : Nat => s.heap.size ≤ q) q := fun _ h => h
  have hbA : ¬ (fun q : Nat => s.heap.size ≤ q) b := Nat.not_le.mpr hbl
  obtain ⟨r, C1, hC1, hX1, hM1⟩ := p_beside l D cI cJ cZ x0 w0 d0 k0 kl ks kw b0 bb bd bm bl bf ba bk bg p0 h0 hl1 hs1 hw1 hc1 i0 il1 is1 iw1 ic1 ik it m0 nw ps im mk wd so mb ma mf mw ml mu wt ty C d T hC hd hT (xs (i + 1))
  refine lv_aload_n hx hb dL_law_446 rfl (lv_at hl 1 rfl) ?_
  refine lv_aload_n hx hb dL_law_447 rfl (lv_at hl 0 rfl) ?_
  refine lv_iload_n hx hb dL_law_448 rfl (lv_at hl 3 rfl) ?_
  refine lv_iconst (v := nI 1) hx hb dL_law_449 (by decide +kernel) ?_
  refine n_iadd hx hb dL_law_450 ?_
  refine va_sld hx hb hX hbl hbA hS (vp_in_nI (n := i + 1) (N := L) (by omega) (by omega)) dL_law_451 ?_
  rw [nI_clamp (by omega)]
  refine law_x (As := [.int (xs (i + 1))]) (rest := []) ⟨hx, hb, hml, hown, hts⟩ hX1 (k_L_72 hts ⟨Nat.le_of_ble_eq_true rfl, Nat.le_of_ble_eq_true rfl⟩) hK hN hP hD hS hA rfl hl.1 rfl (Nat.le_of_ble_eq_true rfl) dL_law_452 ⟨Nat.le_of_ble_eq_true rfl, Nat.le_of_ble_eq_true rfl⟩ (fun d1 H locs hd1 hP hD hS => ?_)
  refine lv_aload_n hx hb dL_law_455 rfl (lv_at hl 2 rfl) ?_
  refine lv_aload_n hx hb dL_law_456 rfl (lv_at hl 0 rfl) ?_
  refine lv_iload_n hx hb dL_law_457 rfl (lv_at hl 3 rfl) ?_
  refine lv_iconst (v := nI 1) hx hb dL_law_458 (by decide +kernel) ?_
  refine n_iadd hx hb dL_law_459 ?_
  refine va_sld hx hb hX hbl hbA hS (vp_in_nI (n := i + 1) (N := L) (by omega) (by omega)) dL_law_460 ?_
  rw [nI_clamp (by omega)]
  refine law_m (As := [.int (xs (i + 1))]) (rest := [.int r]) ⟨hx, hb, hml, hown, hts⟩ hM1 (k_L_75 hts ⟨Nat.le_of_ble_eq_true rfl, Nat.le_of_ble_eq_true rfl⟩) hK hN hP hD hS hA rfl hl.1 rfl (Nat.le_of_ble_eq_true rfl) dL_law_461 ⟨Nat.le_of_ble_eq_true rfl, Nat.le_of_ble_eq_true rfl⟩ (fun T1 H locs hT1 hP hD hS => ?_)
  refine lv_icmp_eq (tgt := 676) hx hb dL_law_464 (by decide) (fun _ => ?_) (fun h => absurd rfl h)
  exact nxt C1 d1 T1 H locs ls hC1 hd1 hT1 hP hD hS hl
set_option maxHeartbeats 4000000 in
set_option maxRecDepth 100000 in
theorem law_closest {p : Program} {e : Env} {s : State} {m : MethodId} {below : List Frame} {meth : Method} {c : Code} (l : Launch) {b L : Nat} {xs : Nat → Int32} (D : va_G) (cI cJ cZ : ClassId) (x0 w0 d0 k0 kl ks kw b0 bb bd bm bl bf ba bk bg p0 h0 hl1 hs1 hw1 hc1 i0 il1 is1 iw1 ic1 ik it m0 nw ps im mk wd so mb ma mf mw ml mu wt ty : Nat) (hx : p.tables.exec = Jvm.exec) (hb : c.code = code) (hml : c.maxLocals = 4) (hown : s.vm.findClass RL = some m.cls) (hts : ∀ w ∈ gt, w.before #[Value.ref b] s = true) (hX : va_X b L xs s s.heap) (hbl : b < s.heap.size) (hK : va_K D vwCl (ty3 cI cJ cZ) s) (hN : Nst s) (hL : L ≤ 1536) (i : Nat) (hi : i + 3 ≤ L) (nxt : Nx p l e s m below meth c b D cI cJ cZ x0 w0 d0 k0 kl ks kw b0 bb bd bm bl bf ba bk bg p0 h0 hl1 hs1 hw1 hc1 i0 il1 is1 iw1 ic1 ik it m0 nw ps im mk wd so mb ma mf mw ml mu wt ty 676 i) : Nx p l e s m below meth c b D cI cJ cZ x0 w0 d0 k0 kl ks kw b0 bb bd bm bl bf ba bk bg p0 h0 hl1 hs1 hw1 hc1 i0 il1 is1 iw1 ic1 ik it m0 nw ps im mk wd so mb ma mf mw ml mu wt ty 469 i := by
  intro C d T H locs ls hC hd hT hP hD hS hl
  have hA : ∀ q : Nat, s.heap.size ≤ q → (fun q : Nat => s.heap.size ≤ q) q := fun _ h => h
  have hbA : ¬ (fun q : Nat => s.heap.size ≤ q) b := Nat.not_le.mpr hbl
  obtain ⟨r, C1, hC1, hX1, hM1⟩ := p_closest l D cI cJ cZ x0 w0 d0 k0 kl ks kw b0 bb bd bm bl bf ba bk bg p0 h0 hl1 hs1 hw1 hc1 i0 il1 is1 iw1 ic1 ik it m0 nw ps im mk wd so mb ma mf mw ml mu wt ty C d T hC hd hT 
  refine lv_aload_n hx hb dL_law_469 rfl (lv_at hl 1 rfl) ?_
  refine law_x (As := []) (rest := []) ⟨hx, hb, hml, hown, hts⟩ hX1 (k_L_76 hts ⟨Nat.le_of_ble_eq_true rfl, Nat.le_of_ble_eq_true rfl⟩) hK hN hP hD hS hA rfl hl.1 rfl (Nat.le_of_ble_eq_true rfl) dL_law_470 ⟨Nat.le_of_ble_eq_true rfl, Nat.le_of_ble_eq_true rfl⟩ (fun d1 H locs hd1 hP hD hS => ?_)
  refine lv_aload_n hx hb dL_law_473 rfl (lv_at hl 2 rfl) ?_
  refine law_m (As := []) (rest := [.int r]) ⟨hx, hb, hml, hown, hts⟩ hM1 (k_L_79 hts ⟨Nat.le_of_ble_eq_true rfl, Nat.le_of_ble_eq_true rfl⟩) hK hN hP hD hS hA rfl hl.1 rfl (Nat.le_of_ble_eq_true rfl) dL_law_474 ⟨Nat.le_of_ble_eq_true rfl, Nat.le_of_ble_eq_true rfl⟩ (fun T1 H locs hT1 hP hD hS => ?_)
  refine lv_icmp_eq (tgt := 676) hx hb dL_law_477 (by decide) (fun _ => ?_) (fun h => absurd rfl h)
  exact nxt C1 d1 T1 H locs ls hC1 hd1 hT1 hP hD hS hl
set_option maxHeartbeats 4000000 in
set_option maxRecDepth 100000 in
theorem law_off {p : Program} {e : Env} {s : State} {m : MethodId} {below : List Frame} {meth : Method} {c : Code} (l : Launch) {b L : Nat} {xs : Nat → Int32} (D : va_G) (cI cJ cZ : ClassId) (x0 w0 d0 k0 kl ks kw b0 bb bd bm bl bf ba bk bg p0 h0 hl1 hs1 hw1 hc1 i0 il1 is1 iw1 ic1 ik it m0 nw ps im mk wd so mb ma mf mw ml mu wt ty : Nat) (hx : p.tables.exec = Jvm.exec) (hb : c.code = code) (hml : c.maxLocals = 4) (hown : s.vm.findClass RL = some m.cls) (hts : ∀ w ∈ gt, w.before #[Value.ref b] s = true) (hX : va_X b L xs s s.heap) (hbl : b < s.heap.size) (hK : va_K D vwCl (ty3 cI cJ cZ) s) (hN : Nst s) (hL : L ≤ 1536) (i : Nat) (hi : i + 3 ≤ L) (nxt : Nx p l e s m below meth c b D cI cJ cZ x0 w0 d0 k0 kl ks kw b0 bb bd bm bl bf ba bk bg p0 h0 hl1 hs1 hw1 hc1 i0 il1 is1 iw1 ic1 ik it m0 nw ps im mk wd so mb ma mf mw ml mu wt ty 676 i) : Nx p l e s m below meth c b D cI cJ cZ x0 w0 d0 k0 kl ks kw b0 bb bd bm bl bf ba bk bg p0 h0 hl1 hs1 hw1 hc1 i0 il1 is1 iw1 ic1 ik it m0 nw ps im mk wd so mb ma mf mw ml mu wt ty 482 i := by
  intro C d T H locs ls hC hd hT hP hD hS hl
  have hA : ∀ q : Nat, s.heap.size ≤ q → (fun q : Nat => s.heap.size ≤ q) q := fun _ h => h
  have hbA : ¬ (fun q : Nat => s.heap.size ≤ q) b := Nat.not_le.mpr hbl
  obtain ⟨r, C1, hC1, hX1, hM1⟩ := p_off l D cI cJ cZ x0 w0 d0 k0 kl ks kw b0 bb bd bm bl bf ba bk bg p0 h0 hl1 hs1 hw1 hc1 i0 il1 is1 iw1 ic1 ik it m0 nw ps im mk wd so mb ma mf mw ml mu wt ty C d T hC hd hT 
  refine lv_aload_n hx hb dL_law_482 rfl (lv_at hl 1 rfl) ?_
  refine law_x (As := []) (rest := []) ⟨hx, hb, hml, hown, hts⟩ hX1 (k_L_80 hts ⟨Nat.le_of_ble_eq_true rfl, Nat.le_of_ble_eq_true rfl⟩) hK hN hP hD hS hA rfl hl.1 rfl (Nat.le_of_ble_eq_true rfl) dL_law_483 ⟨Nat.le_of_ble_eq_true rfl, Nat.le_of_ble_eq_true rfl⟩ (fun d1 H locs hd1 hP hD hS => ?_)
  refine lv_aload_n hx hb dL_law_486 rfl (lv_at hl 2 rfl) ?_
  refine law_m (As := []) (rest := [.int r]) ⟨hx, hb, hml, hown, hts⟩ hM1 (k_L_83 hts ⟨Nat.le_of_ble_eq_true rfl, Nat.le_of_ble_eq_true rfl⟩) hK hN hP hD hS hA rfl hl.1 rfl (Nat.le_of_ble_eq_true rfl) dL_law_487 ⟨Nat.le_of_ble_eq_true rfl, Nat.le_of_ble_eq_true rfl⟩ (fun T1 H locs hT1 hP hD hS => ?_)
  refine lv_icmp_eq (tgt := 676) hx hb dL_law_490 (by decide) (fun _ => ?_) (fun h => absurd rfl h)
  exact nxt C1 d1 T1 H locs ls hC1 hd1 hT1 hP hD hS hl
set_option maxHeartbeats 4000000 in
set_option maxRecDepth 100000 in
theorem law_blind {p : Program} {e : Env} {s : State} {m : MethodId} {below : List Frame} {meth : Method} {c : Code} (l : Launch) {b L : Nat} {xs : Nat → Int32} (D : va_G) (cI cJ cZ : ClassId) (x0 w0 d0 k0 kl ks kw b0 bb bd bm bl bf ba bk bg p0 h0 hl1 hs1 hw1 hc1 i0 il1 is1 iw1 ic1 ik it m0 nw ps im mk wd so mb ma mf mw ml mu wt ty : Nat) (hx : p.tables.exec = Jvm.exec) (hb : c.code = code) (hml : c.maxLocals = 4) (hown : s.vm.findClass RL = some m.cls) (hts : ∀ w ∈ gt, w.before #[Value.ref b] s = true) (hX : va_X b L xs s s.heap) (hbl : b < s.heap.size) (hK : va_K D vwCl (ty3 cI cJ cZ) s) (hN : Nst s) (hL : L ≤ 1536) (i : Nat) (hi : i + 3 ≤ L) (nxt : Nx p l e s m below meth c b D cI cJ cZ x0 w0 d0 k0 kl ks kw b0 bb bd bm bl bf ba bk bg p0 h0 hl1 hs1 hw1 hc1 i0 il1 is1 iw1 ic1 ik it m0 nw ps im mk wd so mb ma mf mw ml mu wt ty 676 i) : Nx p l e s m below meth c b D cI cJ cZ x0 w0 d0 k0 kl ks kw b0 bb bd bm bl bf ba bk bg p0 h0 hl1 hs1 hw1 hc1 i0 il1 is1 iw1 ic1 ik it m0 nw ps im mk wd so mb ma mf mw ml mu wt ty 495 i := by
  intro C d T H locs ls hC hd hT hP hD hS hl
  have hA : ∀ q : Nat, s.heap.size ≤ q → (fun q : Nat => s.heap.size ≤ q) q := fun _ h => h
  have hbA : ¬ (fun q : Nat => s.heap.size ≤ q) b := Nat.not_le.mpr hbl
  obtain ⟨r, C1, hC1, hX1, hM1⟩ := p_blind l D cI cJ cZ x0 w0 d0 k0 kl ks kw b0 bb bd bm bl bf ba bk bg p0 h0 hl1 hs1 hw1 hc1 i0 il1 is1 iw1 ic1 ik it m0 nw ps im mk wd so mb ma mf mw ml mu wt ty C d T hC hd hT (xs (i + 1))
  refine lv_aload_n hx hb dL_law_495 rfl (lv_at hl 1 rfl) ?_
  refine lv_aload_n hx hb dL_law_496 rfl (lv_at hl 0 rfl) ?_
  refine lv_iload_n hx hb dL_law_497 rfl (lv_at hl 3 rfl) ?_
  refine lv_iconst (v := nI 1) hx hb dL_law_498 (by decide +kernel) ?_
  refine n_iadd hx hb dL_law_499 ?_
  refine va_sld hx hb hX hbl hbA hS (vp_in_nI (n := i + 1) (N := L) (by omega) (by omega)) dL_law_500 ?_
  rw [nI_clamp (by omega)]
  refine law_x (As := [.int (xs (i + 1))]) (rest := []) ⟨hx, hb, hml, hown, hts⟩ hX1 (k_L_84 hts ⟨Nat.le_of_ble_eq_true rfl, Nat.le_of_ble_eq_true rfl⟩) hK hN hP hD hS hA rfl hl.1 rfl (Nat.le_of_ble_eq_true rfl) dL_law_501 ⟨Nat.le_of_ble_eq_true rfl, Nat.le_of_ble_eq_true rfl⟩ (fun d1 H locs hd1 hP hD hS => ?_)
  refine lv_aload_n hx hb dL_law_504 rfl (lv_at hl 2 rfl) ?_
  refine lv_aload_n hx hb dL_law_505 rfl (lv_at hl 0 rfl) ?_
  refine lv_iload_n hx hb dL_law_506 rfl (lv_at hl 3 rfl) ?_
  refine lv_iconst (v := nI 1) hx hb dL_law_507 (by decide +kernel) ?_
  refine n_iadd hx hb dL_law_508 ?_
  refine va_sld hx hb hX hbl hbA hS (vp_in_nI (n := i + 1) (N := L) (by omega) (by omega)) dL_law_509 ?_
  rw [nI_clamp (by omega)]
  refine law_m (As := [.int (xs (i + 1))]) (rest := [.int r]) ⟨hx, hb, hml, hown, hts⟩ hM1 (k_L_87 hts ⟨Nat.le_of_ble_eq_true rfl, Nat.le_of_ble_eq_true rfl⟩) hK hN hP hD hS hA rfl hl.1 rfl (Nat.le_of_ble_eq_true rfl) dL_law_510 ⟨Nat.le_of_ble_eq_true rfl, Nat.le_of_ble_eq_true rfl⟩ (fun T1 H locs hT1 hP hD hS => ?_)
  refine lv_icmp_eq (tgt := 676) hx hb dL_law_513 (by decide) (fun _ => ?_) (fun h => absurd rfl h)
  exact nxt C1 d1 T1 H locs ls hC1 hd1 hT1 hP hD hS hl
set_option maxHeartbeats 4000000 in
set_option maxRecDepth 100000 in
theorem law_way {p : Program} {e : Env} {s : State} {m : MethodId} {below : List Frame} {meth : Method} {c : Code} (l : Launch) {b L : Nat} {xs : Nat → Int32} (D : va_G) (cI cJ cZ : ClassId) (x0 w0 d0 k0 kl ks kw b0 bb bd bm bl bf ba bk bg p0 h0 hl1 hs1 hw1 hc1 i0 il1 is1 iw1 ic1 ik it m0 nw ps im mk wd so mb ma mf mw ml mu wt ty : Nat) (hx : p.tables.exec = Jvm.exec) (hb : c.code = code) (hml : c.maxLocals = 4) (hown : s.vm.findClass RL = some m.cls) (hts : ∀ w ∈ gt, w.before #[Value.ref b] s = true) (hX : va_X b L xs s s.heap) (hbl : b < s.heap.size) (hK : va_K D vwCl (ty3 cI cJ cZ) s) (hN : Nst s) (hL : L ≤ 1536) (i : Nat) (hi : i + 3 ≤ L) (nxt : Nx p l e s m below meth c b D cI cJ cZ x0 w0 d0 k0 kl ks kw b0 bb bd bm bl bf ba bk bg p0 h0 hl1 hs1 hw1 hc1 i0 il1 is1 iw1 ic1 ik it m0 nw ps im mk wd so mb ma mf mw ml mu wt ty 676 i) : Nx p l e s m below meth c b D cI cJ cZ x0 w0 d0 k0 kl ks kw b0 bb bd bm bl bf ba bk bg p0 h0 hl1 hs1 hw1 hc1 i0 il1 is1 iw1 ic1 ik it m0 nw ps im mk wd so mb ma mf mw ml mu wt ty 518 i := by
  intro C d T H locs ls hC hd hT hP hD hS hl
  have hA : ∀ q : Nat, s.heap.size ≤ q → (fun q : Nat => s.heap.size ≤ q) q := fun _ h => h
  have hbA : ¬ (fun q : Nat => s.heap.size ≤ q) b := Nat.not_le.mpr hbl
  obtain ⟨r, C1, hC1, hX1, hM1⟩ := p_way l D cI cJ cZ x0 w0 d0 k0 kl ks kw b0 bb bd bm bl bf ba bk bg p0 h0 hl1 hs1 hw1 hc1 i0 il1 is1 iw1 ic1 ik it m0 nw ps im mk wd so mb ma mf mw ml mu wt ty C d T hC hd hT (xs (i + 1)) (xs (i + 2))
  refine lv_aload_n hx hb dL_law_518 rfl (lv_at hl 1 rfl) ?_
  refine lv_aload_n hx hb dL_law_519 rfl (lv_at hl 0 rfl) ?_
  refine lv_iload_n hx hb dL_law_520 rfl (lv_at hl 3 rfl) ?_
  refine lv_iconst (v := nI 1) hx hb dL_law_521 (by decide +kernel) ?_
  refine n_iadd hx hb dL_law_522 ?_
  refine va_sld hx hb hX hbl hbA hS (vp_in_nI (n := i + 1) (N := L) (by omega) (by omega)) dL_law_523 ?_
  rw [nI_clamp (by omega)]
  refine lv_aload_n hx hb dL_law_524 rfl (lv_at hl 0 rfl) ?_
  refine lv_iload_n hx hb dL_law_525 rfl (lv_at hl 3 rfl) ?_
  refine lv_iconst (v := nI 2) hx hb dL_law_526 (by decide +kernel) ?_
  refine n_iadd hx hb dL_law_527 ?_
  refine va_sld hx hb hX hbl hbA hS (vp_in_nI (n := i + 2) (N := L) (by omega) (by omega)) dL_law_528 ?_
  rw [nI_clamp (by omega)]
  refine law_x (As := [.int (xs (i + 1)), .int (xs (i + 2))]) (rest := []) ⟨hx, hb, hml, hown, hts⟩ hX1 (k_L_88 hts ⟨Nat.le_of_ble_eq_true rfl, Nat.le_of_ble_eq_true rfl⟩) hK hN hP hD hS hA rfl hl.1 rfl (Nat.le_of_ble_eq_true rfl) dL_law_529 ⟨Nat.le_of_ble_eq_true rfl, Nat.le_of_ble_eq_true rfl⟩ (fun d1 H locs hd1 hP hD hS => ?_)
  refine lv_aload_n hx hb dL_law_532 rfl (lv_at hl 2 rfl) ?_
  refine lv_aload_n hx hb dL_law_533 rfl (lv_at hl 0 rfl) ?_
  refine lv_iload_n hx hb dL_law_534 rfl (lv_at hl 3 rfl) ?_
  refine lv_iconst (v := nI 1) hx hb dL_law_535 (by decide +kernel) ?_
  refine n_iadd hx hb dL_law_536 ?_
  refine va_sld hx hb hX hbl hbA hS (vp_in_nI (n := i + 1) (N := L) (by omega) (by omega)) dL_law_537 ?_
  rw [nI_clamp (by omega)]
  refine lv_aload_n hx hb dL_law_538 rfl (lv_at hl 0 rfl) ?_
  refine lv_iload_n hx hb dL_law_539 rfl (lv_at hl 3 rfl) ?_
  refine lv_iconst (v := nI 2) hx hb dL_law_540 (by decide +kernel) ?_
  refine n_iadd hx hb dL_law_541 ?_
  refine va_sld hx hb hX hbl hbA hS (vp_in_nI (n := i + 2) (N := L) (by omega) (by omega)) dL_law_542 ?_
  rw [nI_clamp (by omega)]
  refine law_m (As := [.int (xs (i + 1)), .int (xs (i + 2))]) (rest := [.int r]) ⟨hx, hb, hml, hown, hts⟩ hM1 (k_L_91 hts ⟨Nat.le_of_ble_eq_true rfl, Nat.le_of_ble_eq_true rfl⟩) hK hN hP hD hS hA rfl hl.1 rfl (Nat.le_of_ble_eq_true rfl) dL_law_543 ⟨Nat.le_of_ble_eq_true rfl, Nat.le_of_ble_eq_true rfl⟩ (fun T1 H locs hT1 hP hD hS => ?_)
  refine lv_icmp_eq (tgt := 676) hx hb dL_law_546 (by decide) (fun _ => ?_) (fun h => absurd rfl h)
  exact nxt C1 d1 T1 H locs ls hC1 hd1 hT1 hP hD hS hl
set_option maxHeartbeats 4000000 in
set_option maxRecDepth 100000 in
theorem law_unlike {p : Program} {e : Env} {s : State} {m : MethodId} {below : List Frame} {meth : Method} {c : Code} (l : Launch) {b L : Nat} {xs : Nat → Int32} (D : va_G) (cI cJ cZ : ClassId) (x0 w0 d0 k0 kl ks kw b0 bb bd bm bl bf ba bk bg p0 h0 hl1 hs1 hw1 hc1 i0 il1 is1 iw1 ic1 ik it m0 nw ps im mk wd so mb ma mf mw ml mu wt ty : Nat) (hx : p.tables.exec = Jvm.exec) (hb : c.code = code) (hml : c.maxLocals = 4) (hown : s.vm.findClass RL = some m.cls) (hts : ∀ w ∈ gt, w.before #[Value.ref b] s = true) (hX : va_X b L xs s s.heap) (hbl : b < s.heap.size) (hK : va_K D vwCl (ty3 cI cJ cZ) s) (hN : Nst s) (hL : L ≤ 1536) (i : Nat) (hi : i + 3 ≤ L) (nxt : Nx p l e s m below meth c b D cI cJ cZ x0 w0 d0 k0 kl ks kw b0 bb bd bm bl bf ba bk bg p0 h0 hl1 hs1 hw1 hc1 i0 il1 is1 iw1 ic1 ik it m0 nw ps im mk wd so mb ma mf mw ml mu wt ty 676 i) : Nx p l e s m below meth c b D cI cJ cZ x0 w0 d0 k0 kl ks kw b0 bb bd bm bl bf ba bk bg p0 h0 hl1 hs1 hw1 hc1 i0 il1 is1 iw1 ic1 ik it m0 nw ps im mk wd so mb ma mf mw ml mu wt ty 551 i := by
  intro C d T H locs ls hC hd hT hP hD hS hl
  have hA : ∀ q : Nat, s.heap.size ≤ q → (fun q : Nat => s.heap.size ≤ q) q := fun _ h => h
  have hbA : ¬ (fun q : Nat => s.heap.size ≤ q) b := Nat.not_le.mpr hbl
  obtain ⟨r, C1, hC1, hX1, hM1⟩ := p_unlike l D cI cJ cZ x0 w0 d0 k0 kl ks kw b0 bb bd bm bl bf ba bk bg p0 h0 hl1 hs1 hw1 hc1 i0 il1 is1 iw1 ic1 ik it m0 nw ps im mk wd so mb ma mf mw ml mu wt ty C d T hC hd hT (xs (i + 1)) (xs (i + 2))
  refine lv_aload_n hx hb dL_law_551 rfl (lv_at hl 1 rfl) ?_
  refine lv_aload_n hx hb dL_law_552 rfl (lv_at hl 0 rfl) ?_
  refine lv_iload_n hx hb dL_law_553 rfl (lv_at hl 3 rfl) ?_
  refine lv_iconst (v := nI 1) hx hb dL_law_554 (by decide +kernel) ?_
  refine n_iadd hx hb dL_law_555 ?_
  refine va_sld hx hb hX hbl hbA hS (vp_in_nI (n := i + 1) (N := L) (by omega) (by omega)) dL_law_556 ?_
  rw [nI_clamp (by omega)]
  refine lv_aload_n hx hb dL_law_557 rfl (lv_at hl 0 rfl) ?_
  refine lv_iload_n hx hb dL_law_558 rfl (lv_at hl 3 rfl) ?_
  refine lv_iconst (v := nI 2) hx hb dL_law_559 (by decide +kernel) ?_
  refine n_iadd hx hb dL_law_560 ?_
  refine va_sld hx hb hX hbl hbA hS (vp_in_nI (n := i + 2) (N := L) (by omega) (by omega)) dL_law_561 ?_
  rw [nI_clamp (by omega)]
  refine law_x (As := [.int (xs (i + 1)), .int (xs (i + 2))]) (rest := []) ⟨hx, hb, hml, hown, hts⟩ hX1 (k_L_92 hts ⟨Nat.le_of_ble_eq_true rfl, Nat.le_of_ble_eq_true rfl⟩) hK hN hP hD hS hA rfl hl.1 rfl (Nat.le_of_ble_eq_true rfl) dL_law_562 ⟨Nat.le_of_ble_eq_true rfl, Nat.le_of_ble_eq_true rfl⟩ (fun d1 H locs hd1 hP hD hS => ?_)
  refine lv_aload_n hx hb dL_law_565 rfl (lv_at hl 2 rfl) ?_
  refine lv_aload_n hx hb dL_law_566 rfl (lv_at hl 0 rfl) ?_
  refine lv_iload_n hx hb dL_law_567 rfl (lv_at hl 3 rfl) ?_
  refine lv_iconst (v := nI 1) hx hb dL_law_568 (by decide +kernel) ?_
  refine n_iadd hx hb dL_law_569 ?_
  refine va_sld hx hb hX hbl hbA hS (vp_in_nI (n := i + 1) (N := L) (by omega) (by omega)) dL_law_570 ?_
  rw [nI_clamp (by omega)]
  refine lv_aload_n hx hb dL_law_571 rfl (lv_at hl 0 rfl) ?_
  refine lv_iload_n hx hb dL_law_572 rfl (lv_at hl 3 rfl) ?_
  refine lv_iconst (v := nI 2) hx hb dL_law_573 (by decide +kernel) ?_
  refine n_iadd hx hb dL_law_574 ?_
  refine va_sld hx hb hX hbl hbA hS (vp_in_nI (n := i + 2) (N := L) (by omega) (by omega)) dL_law_575 ?_
  rw [nI_clamp (by omega)]
  refine law_m (As := [.int (xs (i + 1)), .int (xs (i + 2))]) (rest := [.int r]) ⟨hx, hb, hml, hown, hts⟩ hM1 (k_L_95 hts ⟨Nat.le_of_ble_eq_true rfl, Nat.le_of_ble_eq_true rfl⟩) hK hN hP hD hS hA rfl hl.1 rfl (Nat.le_of_ble_eq_true rfl) dL_law_576 ⟨Nat.le_of_ble_eq_true rfl, Nat.le_of_ble_eq_true rfl⟩ (fun T1 H locs hT1 hP hD hS => ?_)
  refine lv_icmp_eq (tgt := 676) hx hb dL_law_579 (by decide) (fun _ => ?_) (fun h => absurd rfl h)
  exact nxt C1 d1 T1 H locs ls hC1 hd1 hT1 hP hD hS hl
set_option maxHeartbeats 4000000 in
set_option maxRecDepth 100000 in
theorem law_bit {p : Program} {e : Env} {s : State} {m : MethodId} {below : List Frame} {meth : Method} {c : Code} (l : Launch) {b L : Nat} {xs : Nat → Int32} (D : va_G) (cI cJ cZ : ClassId) (x0 w0 d0 k0 kl ks kw b0 bb bd bm bl bf ba bk bg p0 h0 hl1 hs1 hw1 hc1 i0 il1 is1 iw1 ic1 ik it m0 nw ps im mk wd so mb ma mf mw ml mu wt ty : Nat) (hx : p.tables.exec = Jvm.exec) (hb : c.code = code) (hml : c.maxLocals = 4) (hown : s.vm.findClass RL = some m.cls) (hts : ∀ w ∈ gt, w.before #[Value.ref b] s = true) (hX : va_X b L xs s s.heap) (hbl : b < s.heap.size) (hK : va_K D vwCl (ty3 cI cJ cZ) s) (hN : Nst s) (hL : L ≤ 1536) (i : Nat) (hi : i + 3 ≤ L) (nxt : Nx p l e s m below meth c b D cI cJ cZ x0 w0 d0 k0 kl ks kw b0 bb bd bm bl bf ba bk bg p0 h0 hl1 hs1 hw1 hc1 i0 il1 is1 iw1 ic1 ik it m0 nw ps im mk wd so mb ma mf mw ml mu wt ty 676 i) : Nx p l e s m below meth c b D cI cJ cZ x0 w0 d0 k0 kl ks kw b0 bb bd bm bl bf ba bk bg p0 h0 hl1 hs1 hw1 hc1 i0 il1 is1 iw1 ic1 ik it m0 nw ps im mk wd so mb ma mf mw ml mu wt ty 584 i := by
  intro C d T H locs ls hC hd hT hP hD hS hl
  have hA : ∀ q : Nat, s.heap.size ≤ q → (fun q : Nat => s.heap.size ≤ q) q := fun _ h => h
  have hbA : ¬ (fun q : Nat => s.heap.size ≤ q) b := Nat.not_le.mpr hbl
  obtain ⟨r, C1, hC1, hX1, hM1⟩ := p_bit l D cI cJ cZ x0 w0 d0 k0 kl ks kw b0 bb bd bm bl bf ba bk bg p0 h0 hl1 hs1 hw1 hc1 i0 il1 is1 iw1 ic1 ik it m0 nw ps im mk wd so mb ma mf mw ml mu wt ty C d T hC hd hT (xs (i + 1))
  refine lv_aload_n hx hb dL_law_584 rfl (lv_at hl 1 rfl) ?_
  refine lv_aload_n hx hb dL_law_585 rfl (lv_at hl 0 rfl) ?_
  refine lv_iload_n hx hb dL_law_586 rfl (lv_at hl 3 rfl) ?_
  refine lv_iconst (v := nI 1) hx hb dL_law_587 (by decide +kernel) ?_
  refine n_iadd hx hb dL_law_588 ?_
  refine va_sld hx hb hX hbl hbA hS (vp_in_nI (n := i + 1) (N := L) (by omega) (by omega)) dL_law_589 ?_
  rw [nI_clamp (by omega)]
  refine law_x (As := [.int (xs (i + 1))]) (rest := []) ⟨hx, hb, hml, hown, hts⟩ hX1 (k_L_96 hts ⟨Nat.le_of_ble_eq_true rfl, Nat.le_of_ble_eq_true rfl⟩) hK hN hP hD hS hA rfl hl.1 rfl (Nat.le_of_ble_eq_true rfl) dL_law_590 ⟨Nat.le_of_ble_eq_true rfl, Nat.le_of_ble_eq_true rfl⟩ (fun d1 H locs hd1 hP hD hS => ?_)
  refine lv_aload_n hx hb dL_law_593 rfl (lv_at hl 2 rfl) ?_
  refine lv_aload_n hx hb dL_law_594 rfl (lv_at hl 0 rfl) ?_
  refine lv_iload_n hx hb dL_law_595 rfl (lv_at hl 3 rfl) ?_
  refine lv_iconst (v := nI 1) hx hb dL_law_596 (by decide +kernel) ?_
  refine n_iadd hx hb dL_law_597 ?_
  refine va_sld hx hb hX hbl hbA hS (vp_in_nI (n := i + 1) (N := L) (by omega) (by omega)) dL_law_598 ?_
  rw [nI_clamp (by omega)]
  refine law_m (As := [.int (xs (i + 1))]) (rest := [.int r]) ⟨hx, hb, hml, hown, hts⟩ hM1 (k_L_99 hts ⟨Nat.le_of_ble_eq_true rfl, Nat.le_of_ble_eq_true rfl⟩) hK hN hP hD hS hA rfl hl.1 rfl (Nat.le_of_ble_eq_true rfl) dL_law_599 ⟨Nat.le_of_ble_eq_true rfl, Nat.le_of_ble_eq_true rfl⟩ (fun T1 H locs hT1 hP hD hS => ?_)
  refine lv_icmp_eq (tgt := 676) hx hb dL_law_602 (by decide) (fun _ => ?_) (fun h => absurd rfl h)
  exact nxt C1 d1 T1 H locs ls hC1 hd1 hT1 hP hD hS hl
set_option maxHeartbeats 4000000 in
set_option maxRecDepth 100000 in
theorem law_seed {p : Program} {e : Env} {s : State} {m : MethodId} {below : List Frame} {meth : Method} {c : Code} (l : Launch) {b L : Nat} {xs : Nat → Int32} (D : va_G) (cI cJ cZ : ClassId) (x0 w0 d0 k0 kl ks kw b0 bb bd bm bl bf ba bk bg p0 h0 hl1 hs1 hw1 hc1 i0 il1 is1 iw1 ic1 ik it m0 nw ps im mk wd so mb ma mf mw ml mu wt ty : Nat) (hx : p.tables.exec = Jvm.exec) (hb : c.code = code) (hml : c.maxLocals = 4) (hown : s.vm.findClass RL = some m.cls) (hts : ∀ w ∈ gt, w.before #[Value.ref b] s = true) (hX : va_X b L xs s s.heap) (hbl : b < s.heap.size) (hK : va_K D vwCl (ty3 cI cJ cZ) s) (hN : Nst s) (hL : L ≤ 1536) (i : Nat) (hi : i + 3 ≤ L) (nxt : Nx p l e s m below meth c b D cI cJ cZ x0 w0 d0 k0 kl ks kw b0 bb bd bm bl bf ba bk bg p0 h0 hl1 hs1 hw1 hc1 i0 il1 is1 iw1 ic1 ik it m0 nw ps im mk wd so mb ma mf mw ml mu wt ty 676 i) : Nx p l e s m below meth c b D cI cJ cZ x0 w0 d0 k0 kl ks kw b0 bb bd bm bl bf ba bk bg p0 h0 hl1 hs1 hw1 hc1 i0 il1 is1 iw1 ic1 ik it m0 nw ps im mk wd so mb ma mf mw ml mu wt ty 607 i := by
  intro C d T H locs ls hC hd hT hP hD hS hl
  have hA : ∀ q : Nat, s.heap.size ≤ q → (fun q : Nat => s.heap.size ≤ q) q := fun _ h => h
  have hbA : ¬ (fun q : Nat => s.heap.size ≤ q) b := Nat.not_le.mpr hbl
  obtain ⟨r, C1, hC1, hX1, hM1⟩ := p_seed l D cI cJ cZ x0 w0 d0 k0 kl ks kw b0 bb bd bm bl bf ba bk bg p0 h0 hl1 hs1 hw1 hc1 i0 il1 is1 iw1 ic1 ik it m0 nw ps im mk wd so mb ma mf mw ml mu wt ty C d T hC hd hT (xs (i + 1))
  refine lv_aload_n hx hb dL_law_607 rfl (lv_at hl 1 rfl) ?_
  refine lv_aload_n hx hb dL_law_608 rfl (lv_at hl 0 rfl) ?_
  refine lv_iload_n hx hb dL_law_609 rfl (lv_at hl 3 rfl) ?_
  refine lv_iconst (v := nI 1) hx hb dL_law_610 (by decide +kernel) ?_
  refine n_iadd hx hb dL_law_611 ?_
  refine va_sld hx hb hX hbl hbA hS (vp_in_nI (n := i + 1) (N := L) (by omega) (by omega)) dL_law_612 ?_
  rw [nI_clamp (by omega)]
  refine law_x (As := [.int (xs (i + 1))]) (rest := []) ⟨hx, hb, hml, hown, hts⟩ hX1 (k_L_100 hts ⟨Nat.le_of_ble_eq_true rfl, Nat.le_of_ble_eq_true rfl⟩) hK hN hP hD hS hA rfl hl.1 rfl (Nat.le_of_ble_eq_true rfl) dL_law_613 ⟨Nat.le_of_ble_eq_true rfl, Nat.le_of_ble_eq_true rfl⟩ (fun d1 H locs hd1 hP hD hS => ?_)
  refine lv_aload_n hx hb dL_law_616 rfl (lv_at hl 2 rfl) ?_
  refine lv_aload_n hx hb dL_law_617 rfl (lv_at hl 0 rfl) ?_
  refine lv_iload_n hx hb dL_law_618 rfl (lv_at hl 3 rfl) ?_
  refine lv_iconst (v := nI 1) hx hb dL_law_619 (by decide +kernel) ?_
  refine n_iadd hx hb dL_law_620 ?_
  refine va_sld hx hb hX hbl hbA hS (vp_in_nI (n := i + 1) (N := L) (by omega) (by omega)) dL_law_621 ?_
  rw [nI_clamp (by omega)]
  refine law_m (As := [.int (xs (i + 1))]) (rest := [.int r]) ⟨hx, hb, hml, hown, hts⟩ hM1 (k_L_103 hts ⟨Nat.le_of_ble_eq_true rfl, Nat.le_of_ble_eq_true rfl⟩) hK hN hP hD hS hA rfl hl.1 rfl (Nat.le_of_ble_eq_true rfl) dL_law_622 ⟨Nat.le_of_ble_eq_true rfl, Nat.le_of_ble_eq_true rfl⟩ (fun T1 H locs hT1 hP hD hS => ?_)
  refine lv_icmp_eq (tgt := 676) hx hb dL_law_625 (by decide) (fun _ => ?_) (fun h => absurd rfl h)
  exact nxt C1 d1 T1 H locs ls hC1 hd1 hT1 hP hD hS hl
set_option maxHeartbeats 4000000 in
set_option maxRecDepth 100000 in
theorem law_keep {p : Program} {e : Env} {s : State} {m : MethodId} {below : List Frame} {meth : Method} {c : Code} (l : Launch) {b L : Nat} {xs : Nat → Int32} (D : va_G) (cI cJ cZ : ClassId) (x0 w0 d0 k0 kl ks kw b0 bb bd bm bl bf ba bk bg p0 h0 hl1 hs1 hw1 hc1 i0 il1 is1 iw1 ic1 ik it m0 nw ps im mk wd so mb ma mf mw ml mu wt ty : Nat) (hx : p.tables.exec = Jvm.exec) (hb : c.code = code) (hml : c.maxLocals = 4) (hown : s.vm.findClass RL = some m.cls) (hts : ∀ w ∈ gt, w.before #[Value.ref b] s = true) (hX : va_X b L xs s s.heap) (hbl : b < s.heap.size) (hK : va_K D vwCl (ty3 cI cJ cZ) s) (hN : Nst s) (hL : L ≤ 1536) (i : Nat) (hi : i + 3 ≤ L) (nxt : Nx p l e s m below meth c b D cI cJ cZ x0 w0 d0 k0 kl ks kw b0 bb bd bm bl bf ba bk bg p0 h0 hl1 hs1 hw1 hc1 i0 il1 is1 iw1 ic1 ik it m0 nw ps im mk wd so mb ma mf mw ml mu wt ty 676 i) : Nx p l e s m below meth c b D cI cJ cZ x0 w0 d0 k0 kl ks kw b0 bb bd bm bl bf ba bk bg p0 h0 hl1 hs1 hw1 hc1 i0 il1 is1 iw1 ic1 ik it m0 nw ps im mk wd so mb ma mf mw ml mu wt ty 630 i := by
  intro C d T H locs ls hC hd hT hP hD hS hl
  have hA : ∀ q : Nat, s.heap.size ≤ q → (fun q : Nat => s.heap.size ≤ q) q := fun _ h => h
  have hbA : ¬ (fun q : Nat => s.heap.size ≤ q) b := Nat.not_le.mpr hbl
  obtain ⟨r, C1, hC1, hX1, hM1⟩ := p_keep l D cI cJ cZ x0 w0 d0 k0 kl ks kw b0 bb bd bm bl bf ba bk bg p0 h0 hl1 hs1 hw1 hc1 i0 il1 is1 iw1 ic1 ik it m0 nw ps im mk wd so mb ma mf mw ml mu wt ty C d T hC hd hT (xs (i + 1))
  refine lv_aload_n hx hb dL_law_630 rfl (lv_at hl 1 rfl) ?_
  refine lv_aload_n hx hb dL_law_631 rfl (lv_at hl 0 rfl) ?_
  refine lv_iload_n hx hb dL_law_632 rfl (lv_at hl 3 rfl) ?_
  refine lv_iconst (v := nI 1) hx hb dL_law_633 (by decide +kernel) ?_
  refine n_iadd hx hb dL_law_634 ?_
  refine va_sld hx hb hX hbl hbA hS (vp_in_nI (n := i + 1) (N := L) (by omega) (by omega)) dL_law_635 ?_
  rw [nI_clamp (by omega)]
  refine law_x (As := [.int (xs (i + 1))]) (rest := []) ⟨hx, hb, hml, hown, hts⟩ hX1 (k_L_104 hts ⟨Nat.le_of_ble_eq_true rfl, Nat.le_of_ble_eq_true rfl⟩) hK hN hP hD hS hA rfl hl.1 rfl (Nat.le_of_ble_eq_true rfl) dL_law_636 ⟨Nat.le_of_ble_eq_true rfl, Nat.le_of_ble_eq_true rfl⟩ (fun d1 H locs hd1 hP hD hS => ?_)
  refine lv_aload_n hx hb dL_law_639 rfl (lv_at hl 2 rfl) ?_
  refine lv_aload_n hx hb dL_law_640 rfl (lv_at hl 0 rfl) ?_
  refine lv_iload_n hx hb dL_law_641 rfl (lv_at hl 3 rfl) ?_
  refine lv_iconst (v := nI 1) hx hb dL_law_642 (by decide +kernel) ?_
  refine n_iadd hx hb dL_law_643 ?_
  refine va_sld hx hb hX hbl hbA hS (vp_in_nI (n := i + 1) (N := L) (by omega) (by omega)) dL_law_644 ?_
  rw [nI_clamp (by omega)]
  refine law_m (As := [.int (xs (i + 1))]) (rest := [.int r]) ⟨hx, hb, hml, hown, hts⟩ hM1 (k_L_107 hts ⟨Nat.le_of_ble_eq_true rfl, Nat.le_of_ble_eq_true rfl⟩) hK hN hP hD hS hA rfl hl.1 rfl (Nat.le_of_ble_eq_true rfl) dL_law_645 ⟨Nat.le_of_ble_eq_true rfl, Nat.le_of_ble_eq_true rfl⟩ (fun T1 H locs hT1 hP hD hS => ?_)
  refine lv_icmp_eq (tgt := 676) hx hb dL_law_648 (by decide) (fun _ => ?_) (fun h => absurd rfl h)
  exact nxt C1 d1 T1 H locs ls hC1 hd1 hT1 hP hD hS hl
set_option maxHeartbeats 4000000 in
set_option maxRecDepth 100000 in
theorem law_goBack {p : Program} {e : Env} {s : State} {m : MethodId} {below : List Frame} {meth : Method} {c : Code} (l : Launch) {b L : Nat} {xs : Nat → Int32} (D : va_G) (cI cJ cZ : ClassId) (x0 w0 d0 k0 kl ks kw b0 bb bd bm bl bf ba bk bg p0 h0 hl1 hs1 hw1 hc1 i0 il1 is1 iw1 ic1 ik it m0 nw ps im mk wd so mb ma mf mw ml mu wt ty : Nat) (hx : p.tables.exec = Jvm.exec) (hb : c.code = code) (hml : c.maxLocals = 4) (hown : s.vm.findClass RL = some m.cls) (hts : ∀ w ∈ gt, w.before #[Value.ref b] s = true) (hX : va_X b L xs s s.heap) (hbl : b < s.heap.size) (hK : va_K D vwCl (ty3 cI cJ cZ) s) (hN : Nst s) (hL : L ≤ 1536) (i : Nat) (hi : i + 3 ≤ L) (nxt : Nx p l e s m below meth c b D cI cJ cZ x0 w0 d0 k0 kl ks kw b0 bb bd bm bl bf ba bk bg p0 h0 hl1 hs1 hw1 hc1 i0 il1 is1 iw1 ic1 ik it m0 nw ps im mk wd so mb ma mf mw ml mu wt ty 676 i) : Nx p l e s m below meth c b D cI cJ cZ x0 w0 d0 k0 kl ks kw b0 bb bd bm bl bf ba bk bg p0 h0 hl1 hs1 hw1 hc1 i0 il1 is1 iw1 ic1 ik it m0 nw ps im mk wd so mb ma mf mw ml mu wt ty 653 i := by
  intro C d T H locs ls hC hd hT hP hD hS hl
  have hA : ∀ q : Nat, s.heap.size ≤ q → (fun q : Nat => s.heap.size ≤ q) q := fun _ h => h
  have hbA : ¬ (fun q : Nat => s.heap.size ≤ q) b := Nat.not_le.mpr hbl
  obtain ⟨r, C1, hC1, hX1, hM1⟩ := p_goBack l D cI cJ cZ x0 w0 d0 k0 kl ks kw b0 bb bd bm bl bf ba bk bg p0 h0 hl1 hs1 hw1 hc1 i0 il1 is1 iw1 ic1 ik it m0 nw ps im mk wd so mb ma mf mw ml mu wt ty C d T hC hd hT (xs (i + 1))
  refine lv_aload_n hx hb dL_law_653 rfl (lv_at hl 1 rfl) ?_
  refine lv_aload_n hx hb dL_law_654 rfl (lv_at hl 0 rfl) ?_
  refine lv_iload_n hx hb dL_law_655 rfl (lv_at hl 3 rfl) ?_
  refine lv_iconst (v := nI 1) hx hb dL_law_656 (by decide +kernel) ?_
  refine n_iadd hx hb dL_law_657 ?_
  refine va_sld hx hb hX hbl hbA hS (vp_in_nI (n := i + 1) (N := L) (by omega) (by omega)) dL_law_658 ?_
  rw [nI_clamp (by omega)]
  refine law_x (As := [.int (xs (i + 1))]) (rest := []) ⟨hx, hb, hml, hown, hts⟩ hX1 (k_L_108 hts ⟨Nat.le_of_ble_eq_true rfl, Nat.le_of_ble_eq_true rfl⟩) hK hN hP hD hS hA rfl hl.1 rfl (Nat.le_of_ble_eq_true rfl) dL_law_659 ⟨Nat.le_of_ble_eq_true rfl, Nat.le_of_ble_eq_true rfl⟩ (fun d1 H locs hd1 hP hD hS => ?_)
  refine lv_aload_n hx hb dL_law_662 rfl (lv_at hl 2 rfl) ?_
  refine lv_aload_n hx hb dL_law_663 rfl (lv_at hl 0 rfl) ?_
  refine lv_iload_n hx hb dL_law_664 rfl (lv_at hl 3 rfl) ?_
  refine lv_iconst (v := nI 1) hx hb dL_law_665 (by decide +kernel) ?_
  refine n_iadd hx hb dL_law_666 ?_
  refine va_sld hx hb hX hbl hbA hS (vp_in_nI (n := i + 1) (N := L) (by omega) (by omega)) dL_law_667 ?_
  rw [nI_clamp (by omega)]
  refine law_m (As := [.int (xs (i + 1))]) (rest := [.int r]) ⟨hx, hb, hml, hown, hts⟩ hM1 (k_L_111 hts ⟨Nat.le_of_ble_eq_true rfl, Nat.le_of_ble_eq_true rfl⟩) hK hN hP hD hS hA rfl hl.1 rfl (Nat.le_of_ble_eq_true rfl) dL_law_668 ⟨Nat.le_of_ble_eq_true rfl, Nat.le_of_ble_eq_true rfl⟩ (fun T1 H locs hT1 hP hD hS => ?_)
  refine lv_icmp_eq (tgt := 676) hx hb dL_law_671 (by decide) (fun _ => ?_) (fun h => absurd rfl h)
  exact nxt C1 d1 T1 H locs ls hC1 hd1 hT1 hP hD hS hl
theorem i32_nat (x : Int32) : ∃ a : Nat, x = nI a := by
  rcases neg_or x with h | ⟨j, _, h⟩
  · refine ⟨x.toUInt32.toNat, ?_⟩
    first
    | (apply Int32.toUInt32_inj.mp; simp [nI, Int32.ofNat]; done)
    | (cases x; simp [nI, Int32.ofNat]; done)
    | (apply Int32.toBitVec_inj.mp; simp [nI, Int32.ofNat]; done)
  · exact ⟨j, h⟩
theorem and31 (x : Int32) : ∃ k : Nat, k < 32 ∧ x &&& nI 31 = nI k := by
  obtain ⟨a, rfl⟩ := i32_nat x
  exact ⟨a % 32, Nat.mod_lt _ (by decide), fa_mask a 5⟩
set_option maxHeartbeats 4000000 in
set_option maxRecDepth 100000 in
theorem law_loop {p : Program} {e : Env} {s : State} {m : MethodId} {below : List Frame} {meth : Method} {c : Code} (l : Launch) {b L : Nat} {xs : Nat → Int32} (D : va_G) (cI cJ cZ : ClassId) (x0 w0 d0 k0 kl ks kw b0 bb bd bm bl bf ba bk bg p0 h0 hl1 hs1 hw1 hc1 i0 il1 is1 iw1 ic1 ik it m0 nw ps im mk wd so mb ma mf mw ml mu wt ty : Nat) (hx : p.tables.exec = Jvm.exec) (hb : c.code = code) (hml : c.maxLocals = 4) (hown : s.vm.findClass RL = some m.cls) (hts : ∀ w ∈ gt, w.before #[Value.ref b] s = true) (hX : va_X b L xs s s.heap) (hbl : b < s.heap.size) (hK : va_K D vwCl (ty3 cI cJ cZ) s) (hN : Nst s) (hL : L ≤ 1536) (hr : meth.sig.returnType = ret) (hlk : meth.locks = false) : ∀ (k i : Nat), L + 3 - i < k → i ≤ L → Nx p l e s m below meth c b D cI cJ cZ x0 w0 d0 k0 kl ks kw b0 bb bd bm bl bf ba bk bg p0 h0 hl1 hs1 hw1 hc1 i0 il1 is1 iw1 ic1 ik it m0 nw ps im mk wd so mb ma mf mw ml mu wt ty 18 i := by
  intro k
  induction k with
  | zero => intro i h; exact absurd h (Nat.not_lt_zero _)
  | succ k ih =>
    intro i hk hi C d T H locs ls hC hd hT hP hD hS hl
    have hA : ∀ q : Nat, s.heap.size ≤ q → (fun q : Nat => s.heap.size ≤ q) q := fun _ h => h
    have hbA : ¬ (fun q : Nat => s.heap.size ≤ q) b := Nat.not_le.mpr hbl
    have hend : ∀ (H : Heap) (locs : List Loc) (ls : Array Slot), va_S (fun q : Nat => s.heap.size ≤ q) s.heap H locs → W p l e room_1 s m #[Value.ref b] below meth c H locs 600000 7302250 (lw_Z below #[Value.ref b] s) (F0 m 682 ls []) := by
      intro H locs ls hS
      refine va_forget (fun q hq => hS.2.2 q hq) ?_
      refine lv_iconst (v := 1) hx hb dL_law_682 (by decide +kernel) ?_
      exact lw_ret hx hb hr hlk dL_law_683
    refine lv_iload_n hx hb dL_law_18 rfl (lv_at hl 3 rfl) ?_
    refine lv_aload_n hx hb dL_law_19 rfl (lv_at hl 0 rfl) ?_
    refine va_slen hx hb hX hbl hbA hS dL_law_20 ?_
    refine lv_iconst (v := nI 3) hx hb dL_law_21 (by decide +kernel) ?_
    refine lv_isub hx hb dL_law_22 ?_
    have hdi : (Int32.ofNat L - nI 3).toInt = (L : Int) - 3 := pk_sub_toInt (a := L) (b := 3) (by omega) (by decide)
    have hii : (nI i).toInt = (i : Int) := nI_toInt (by omega)
    refine lv_icmp_gt (tgt := 682) hx hb dL_law_23 (by decide) (fun _ => hend H locs ls hS) (fun hle => ?_)
    rw [Int32.lt_iff_toInt_lt, hdi, hii] at hle
    have hi3 : i + 3 ≤ L := by omega
    have nxt : Nx p l e s m below meth c b D cI cJ cZ x0 w0 d0 k0 kl ks kw b0 bb bd bm bl bf ba bk bg p0 h0 hl1 hs1 hw1 hc1 i0 il1 is1 iw1 ic1 ik it m0 nw ps im mk wd so mb ma mf mw ml mu wt ty 676 i := by
      intro C d T H locs ls hC hd hT hP hD hS hl
      refine lv_iinc (v := nI (i + 3)) (lv' := [(3, .int (nI (i + 3))), (0, .ref b), (1, .ref x0), (2, .ref m0)]) hx hb dL_law_676 hl (k := 3) rfl (nI_add i 3) (by decide) rfl (fun ls hl => ?_)
      refine lv_goto (tgt := 18) hx hb dL_law_679 (by decide) ?_
      exact ih (i + 3) (by omega) hi3 C d T H locs ls hC hd hT hP hD hS (lv_sub hl [1, 2, 3, 0] rfl)
    refine lv_aload_n hx hb dL_law_26 rfl (lv_at hl 0 rfl) ?_
    refine lv_iload_n hx hb dL_law_27 rfl (lv_at hl 3 rfl) ?_
    refine va_sld hx hb hX hbl hbA hS (vp_in_nI (n := i) (N := L) (by omega) (by omega)) dL_law_28 ?_
    refine lv_bipush (v := nI 31) hx hb dL_law_29 (by decide +kernel) ?_
    refine lv_iand hx hb dL_law_31 ?_
    obtain ⟨g, hg, eg⟩ := and31 (xs (nI i).toNatClampNeg)
    refine tq (y := nI g) eg ?_
    by_cases h24 : 23 < g
    · refine lv_tableOut (tgt := 676) hx hb dL_law_32 (Or.inr (tn_big (by omega) (by omega))) (by decide) ?_
      exact nxt C d T H locs ls hC hd hT hP hD hS hl
    · rcases (by omega : g = 0 ∨ g = 1 ∨ g = 2 ∨ g = 3 ∨ g = 4 ∨ g = 5 ∨ g = 6 ∨ g = 7 ∨ g = 8 ∨ g = 9 ∨ g = 10 ∨ g = 11 ∨ g = 12 ∨ g = 13 ∨ g = 14 ∨ g = 15 ∨ g = 16 ∨ g = 17 ∨ g = 18 ∨ g = 19 ∨ g = 20 ∨ g = 21 ∨ g = 22 ∨ g = 23) with rfl | rfl | rfl | rfl | rfl | rfl | rfl | rfl | rfl | rfl | rfl | rfl | rfl | rfl | rfl | rfl | rfl | rfl | rfl | rfl | rfl | rfl | rfl | rfl
      · refine lv_tableIn (tgt := 144) (off := 112) hx hb dL_law_32 (by decide +kernel) (by decide +kernel) (by decide +kernel) (by decide) ?_
        exact law_feed l D cI cJ cZ x0 w0 d0 k0 kl ks kw b0 bb bd bm bl bf ba bk bg p0 h0 hl1 hs1 hw1 hc1 i0 il1 is1 iw1 ic1 ik it m0 nw ps im mk wd so mb ma mf mw ml mu wt ty hx hb hml hown hts hX hbl hK hN hL i hi3 nxt C d T H locs ls hC hd hT hP hD hS hl
      · refine lv_tableIn (tgt := 167) (off := 135) hx hb dL_law_32 (by decide +kernel) (by decide +kernel) (by decide +kernel) (by decide) ?_
        exact law_wipe l D cI cJ cZ x0 w0 d0 k0 kl ks kw b0 bb bd bm bl bf ba bk bg p0 h0 hl1 hs1 hw1 hc1 i0 il1 is1 iw1 ic1 ik it m0 nw ps im mk wd so mb ma mf mw ml mu wt ty hx hb hml hown hts hX hbl hK hN hL i hi3 nxt C d T H locs ls hC hd hT hP hD hS hl
      · refine lv_tableIn (tgt := 180) (off := 148) hx hb dL_law_32 (by decide +kernel) (by decide +kernel) (by decide +kernel) (by decide) ?_
        exact law_type l D cI cJ cZ x0 w0 d0 k0 kl ks kw b0 bb bd bm bl bf ba bk bg p0 h0 hl1 hs1 hw1 hc1 i0 il1 is1 iw1 ic1 ik it m0 nw ps im mk wd so mb ma mf mw ml mu wt ty hx hb hml hown hts hX hbl hK hN hL i hi3 nxt C d T H locs ls hC hd hT hP hD hS hl
      · refine lv_tableIn (tgt := 203) (off := 171) hx hb dL_law_32 (by decide +kernel) (by decide +kernel) (by decide +kernel) (by decide) ?_
        exact law_told l D cI cJ cZ x0 w0 d0 k0 kl ks kw b0 bb bd bm bl bf ba bk bg p0 h0 hl1 hs1 hw1 hc1 i0 il1 is1 iw1 ic1 ik it m0 nw ps im mk wd so mb ma mf mw ml mu wt ty hx hb hml hown hts hX hbl hK hN hL i hi3 nxt C d T H locs ls hC hd hT hP hD hS hl
      · refine lv_tableIn (tgt := 226) (off := 194) hx hb dL_law_32 (by decide +kernel) (by decide +kernel) (by decide +kernel) (by decide) ?_
        exact law_key l D cI cJ cZ x0 w0 d0 k0 kl ks kw b0 bb bd bm bl bf ba bk bg p0 h0 hl1 hs1 hw1 hc1 i0 il1 is1 iw1 ic1 ik it m0 nw ps im mk wd so mb ma mf mw ml mu wt ty hx hb hml hown hts hX hbl hK hN hL i hi3 nxt C d T H locs ls hC hd hT hP hD hS hl
      · refine lv_tableIn (tgt := 259) (off := 227) hx hb dL_law_32 (by decide +kernel) (by decide +kernel) (by decide +kernel) (by decide) ?_
        exact law_branch l D cI cJ cZ x0 w0 d0 k0 kl ks kw b0 bb bd bm bl bf ba bk bg p0 h0 hl1 hs1 hw1 hc1 i0 il1 is1 iw1 ic1 ik it m0 nw ps im mk wd so mb ma mf mw ml mu wt ty hx hb hml hown hts hX hbl hK hN hL i hi3 nxt C d T H locs ls hC hd hT hP hD hS hl
      · refine lv_tableIn (tgt := 292) (off := 260) hx hb dL_law_32 (by decide +kernel) (by decide +kernel) (by decide +kernel) (by decide) ?_
        exact law_put l D cI cJ cZ x0 w0 d0 k0 kl ks kw b0 bb bd bm bl bf ba bk bg p0 h0 hl1 hs1 hw1 hc1 i0 il1 is1 iw1 ic1 ik it m0 nw ps im mk wd so mb ma mf mw ml mu wt ty hx hb hml hown hts hX hbl hK hN hL i hi3 nxt C d T H locs ls hC hd hT hP hD hS hl
      · refine lv_tableIn (tgt := 315) (off := 283) hx hb dL_law_32 (by decide +kernel) (by decide +kernel) (by decide +kernel) (by decide) ?_
        exact law_take l D cI cJ cZ x0 w0 d0 k0 kl ks kw b0 bb bd bm bl bf ba bk bg p0 h0 hl1 hs1 hw1 hc1 i0 il1 is1 iw1 ic1 ik it m0 nw ps im mk wd so mb ma mf mw ml mu wt ty hx hb hml hown hts hX hbl hK hN hL i hi3 nxt C d T H locs ls hC hd hT hP hD hS hl
      · refine lv_tableIn (tgt := 328) (off := 296) hx hb dL_law_32 (by decide +kernel) (by decide +kernel) (by decide +kernel) (by decide) ?_
        exact law_cut l D cI cJ cZ x0 w0 d0 k0 kl ks kw b0 bb bd bm bl bf ba bk bg p0 h0 hl1 hs1 hw1 hc1 i0 il1 is1 iw1 ic1 ik it m0 nw ps im mk wd so mb ma mf mw ml mu wt ty hx hb hml hown hts hX hbl hK hN hL i hi3 nxt C d T H locs ls hC hd hT hP hD hS hl
      · refine lv_tableIn (tgt := 341) (off := 309) hx hb dL_law_32 (by decide +kernel) (by decide +kernel) (by decide +kernel) (by decide) ?_
        exact law_raise l D cI cJ cZ x0 w0 d0 k0 kl ks kw b0 bb bd bm bl bf ba bk bg p0 h0 hl1 hs1 hw1 hc1 i0 il1 is1 iw1 ic1 ik it m0 nw ps im mk wd so mb ma mf mw ml mu wt ty hx hb hml hown hts hX hbl hK hN hL i hi3 nxt C d T H locs ls hC hd hT hP hD hS hl
      · refine lv_tableIn (tgt := 364) (off := 332) hx hb dL_law_32 (by decide +kernel) (by decide +kernel) (by decide +kernel) (by decide) ?_
        exact law_drift l D cI cJ cZ x0 w0 d0 k0 kl ks kw b0 bb bd bm bl bf ba bk bg p0 h0 hl1 hs1 hw1 hc1 i0 il1 is1 iw1 ic1 ik it m0 nw ps im mk wd so mb ma mf mw ml mu wt ty hx hb hml hown hts hX hbl hK hN hL i hi3 nxt C d T H locs ls hC hd hT hP hD hS hl
      · refine lv_tableIn (tgt := 387) (off := 355) hx hb dL_law_32 (by decide +kernel) (by decide +kernel) (by decide +kernel) (by decide) ?_
        exact law_undo l D cI cJ cZ x0 w0 d0 k0 kl ks kw b0 bb bd bm bl bf ba bk bg p0 h0 hl1 hs1 hw1 hc1 i0 il1 is1 iw1 ic1 ik it m0 nw ps im mk wd so mb ma mf mw ml mu wt ty hx hb hml hown hts hX hbl hK hN hL i hi3 nxt C d T H locs ls hC hd hT hP hD hS hl
      · refine lv_tableIn (tgt := 410) (off := 378) hx hb dL_law_32 (by decide +kernel) (by decide +kernel) (by decide +kernel) (by decide) ?_
        exact law_below l D cI cJ cZ x0 w0 d0 k0 kl ks kw b0 bb bd bm bl bf ba bk bg p0 h0 hl1 hs1 hw1 hc1 i0 il1 is1 iw1 ic1 ik it m0 nw ps im mk wd so mb ma mf mw ml mu wt ty hx hb hml hown hts hX hbl hK hN hL i hi3 nxt C d T H locs ls hC hd hT hP hD hS hl
      · refine lv_tableIn (tgt := 433) (off := 401) hx hb dL_law_32 (by decide +kernel) (by decide +kernel) (by decide +kernel) (by decide) ?_
        exact law_stem l D cI cJ cZ x0 w0 d0 k0 kl ks kw b0 bb bd bm bl bf ba bk bg p0 h0 hl1 hs1 hw1 hc1 i0 il1 is1 iw1 ic1 ik it m0 nw ps im mk wd so mb ma mf mw ml mu wt ty hx hb hml hown hts hX hbl hK hN hL i hi3 nxt C d T H locs ls hC hd hT hP hD hS hl
      · refine lv_tableIn (tgt := 446) (off := 414) hx hb dL_law_32 (by decide +kernel) (by decide +kernel) (by decide +kernel) (by decide) ?_
        exact law_beside l D cI cJ cZ x0 w0 d0 k0 kl ks kw b0 bb bd bm bl bf ba bk bg p0 h0 hl1 hs1 hw1 hc1 i0 il1 is1 iw1 ic1 ik it m0 nw ps im mk wd so mb ma mf mw ml mu wt ty hx hb hml hown hts hX hbl hK hN hL i hi3 nxt C d T H locs ls hC hd hT hP hD hS hl
      · refine lv_tableIn (tgt := 469) (off := 437) hx hb dL_law_32 (by decide +kernel) (by decide +kernel) (by decide +kernel) (by decide) ?_
        exact law_closest l D cI cJ cZ x0 w0 d0 k0 kl ks kw b0 bb bd bm bl bf ba bk bg p0 h0 hl1 hs1 hw1 hc1 i0 il1 is1 iw1 ic1 ik it m0 nw ps im mk wd so mb ma mf mw ml mu wt ty hx hb hml hown hts hX hbl hK hN hL i hi3 nxt C d T H locs ls hC hd hT hP hD hS hl
      · refine lv_tableIn (tgt := 482) (off := 450) hx hb dL_law_32 (by decide +kernel) (by decide +kernel) (by decide +kernel) (by decide) ?_
        exact law_off l D cI cJ cZ x0 w0 d0 k0 kl ks kw b0 bb bd bm bl bf ba bk bg p0 h0 hl1 hs1 hw1 hc1 i0 il1 is1 iw1 ic1 ik it m0 nw ps im mk wd so mb ma mf mw ml mu wt ty hx hb hml hown hts hX hbl hK hN hL i hi3 nxt C d T H locs ls hC hd hT hP hD hS hl
      · refine lv_tableIn (tgt := 495) (off := 463) hx hb dL_law_32 (by decide +kernel) (by decide +kernel) (by decide +kernel) (by decide) ?_
        exact law_blind l D cI cJ cZ x0 w0 d0 k0 kl ks kw b0 bb bd bm bl bf ba bk bg p0 h0 hl1 hs1 hw1 hc1 i0 il1 is1 iw1 ic1 ik it m0 nw ps im mk wd so mb ma mf mw ml mu wt ty hx hb hml hown hts hX hbl hK hN hL i hi3 nxt C d T H locs ls hC hd hT hP hD hS hl
      · refine lv_tableIn (tgt := 518) (off := 486) hx hb dL_law_32 (by decide +kernel) (by decide +kernel) (by decide +kernel) (by decide) ?_
        exact law_way l D cI cJ cZ x0 w0 d0 k0 kl ks kw b0 bb bd bm bl bf ba bk bg p0 h0 hl1 hs1 hw1 hc1 i0 il1 is1 iw1 ic1 ik it m0 nw ps im mk wd so mb ma mf mw ml mu wt ty hx hb hml hown hts hX hbl hK hN hL i hi3 nxt C d T H locs ls hC hd hT hP hD hS hl
      · refine lv_tableIn (tgt := 551) (off := 519) hx hb dL_law_32 (by decide +kernel) (by decide +kernel) (by decide +kernel) (by decide) ?_
        exact law_unlike l D cI cJ cZ x0 w0 d0 k0 kl ks kw b0 bb bd bm bl bf ba bk bg p0 h0 hl1 hs1 hw1 hc1 i0 il1 is1 iw1 ic1 ik it m0 nw ps im mk wd so mb ma mf mw ml mu wt ty hx hb hml hown hts hX hbl hK hN hL i hi3 nxt C d T H locs ls hC hd hT hP hD hS hl
      · refine lv_tableIn (tgt := 584) (off := 552) hx hb dL_law_32 (by decide +kernel) (by decide +kernel) (by decide +kernel) (by decide) ?_
        exact law_bit l D cI cJ cZ x0 w0 d0 k0 kl ks kw b0 bb bd bm bl bf ba bk bg p0 h0 hl1 hs1 hw1 hc1 i0 il1 is1 iw1 ic1 ik it m0 nw ps im mk wd so mb ma mf mw ml mu wt ty hx hb hml hown hts hX hbl hK hN hL i hi3 nxt C d T H locs ls hC hd hT hP hD hS hl
      · refine lv_tableIn (tgt := 607) (off := 575) hx hb dL_law_32 (by decide +kernel) (by decide +kernel) (by decide +kernel) (by decide) ?_
        exact law_seed l D cI cJ cZ x0 w0 d0 k0 kl ks kw b0 bb bd bm bl bf ba bk bg p0 h0 hl1 hs1 hw1 hc1 i0 il1 is1 iw1 ic1 ik it m0 nw ps im mk wd so mb ma mf mw ml mu wt ty hx hb hml hown hts hX hbl hK hN hL i hi3 nxt C d T H locs ls hC hd hT hP hD hS hl
      · refine lv_tableIn (tgt := 630) (off := 598) hx hb dL_law_32 (by decide +kernel) (by decide +kernel) (by decide +kernel) (by decide) ?_
        exact law_keep l D cI cJ cZ x0 w0 d0 k0 kl ks kw b0 bb bd bm bl bf ba bk bg p0 h0 hl1 hs1 hw1 hc1 i0 il1 is1 iw1 ic1 ik it m0 nw ps im mk wd so mb ma mf mw ml mu wt ty hx hb hml hown hts hX hbl hK hN hL i hi3 nxt C d T H locs ls hC hd hT hP hD hS hl
      · refine lv_tableIn (tgt := 653) (off := 621) hx hb dL_law_32 (by decide +kernel) (by decide +kernel) (by decide +kernel) (by decide) ?_
        exact law_goBack l D cI cJ cZ x0 w0 d0 k0 kl ks kw b0 bb bd bm bl bf ba bk bg p0 h0 hl1 hs1 hw1 hc1 i0 il1 is1 iw1 ic1 ik it m0 nw ps im mk wd so mb ma mf mw ml mu wt ty hx hb hml hown hts hX hbl hK hN hL i hi3 nxt C d T H locs ls hC hd hT hP hD hS hl
