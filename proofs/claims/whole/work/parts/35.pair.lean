/-! ===== both sides together ===== -/
abbrev Co : Type := Nat × Nat × (Nat → Nat) × (Nat → Nat) × (Nat → Nat) × Nat × Nat × Nat × (Nat → Nat) × (Nat → Nat) × (Nat → Nat) × (Nat → Nat) × (Nat → Nat) × (Nat → Nat) × (Nat → Nat) × (Nat → Nat) × (Nat → Nat) × (Nat → Nat) × Nat
abbrev Dt : Type := Nat × Nat × (Nat → Nat) × (Nat → Nat) × (Nat → Nat) × (Nat → Nat) × (Nat → Nat) × (Nat → Nat) × (Nat → Nat) × (Nat → Nat)
abbrev Ms : Type := (Nat → Nat) × (Nat → Nat) × (Nat → Nat) × (Nat → Nat) × (Nat → Nat) × Nat × (Nat → Nat) × (Nat → Nat) × (Nat → Nat) × (Nat → Nat) × (Nat → Nat) × (Nat → Nat) × Nat × (Nat → Nat) × Nat × (Nat → Nat)
def wX (cI cJ cZ : ClassId) (x0 w0 d0 k0 kl ks kw b0 bb bd bm bl bf ba bk bg p0 h0 hl1 hs1 hw1 hc1 i0 il1 is1 iw1 ic1 ik it : Nat) (C : Co) (d : Dt) : va_W := [(x0, .inr (5, [.ref w0, .ref d0, .ref k0, .ref b0, .ref p0, .ref i0, .ref ik, .ref it, .int (nI C.2.2.2.2.2.2.2.2.2.2.2.2.2.2.2.2.2.2)])), (w0, .inr (4, [.long (lN C.1), .int (nI C.2.1)])), (d0, .inr (4, [.long (lN d.1), .int (nI d.2.1)])), (k0, .inr (1, [.ref kl, .ref ks, .ref kw, .int (nI C.2.2.2.2.2.1)])), (kl, .inl (cJ, 24, .inr (.inl (lF C.2.2.1)))), (ks, .inl (cI, 24, .inl (nF C.2.2.2.1))), (kw, .inl (cI, 24, .inl (nF C.2.2.2.2.1))), (b0, .inr (0, [.ref bb, .ref bd, .ref bm, .ref bl, .ref bf, .ref ba, .ref bk, .ref bg, .int (nI C.2.2.2.2.2.1)])), (bb, .inl (cI, 24, .inl (nF d.2.2.1))), (bd, .inl (cI, 24, .inl (nF d.2.2.2.1))), (bm, .inl (cI, 24, .inl (nF d.2.2.2.2.1))), (bl, .inl (cI, 24, .inl (nF d.2.2.2.2.2.1))), (bf, .inl (cI, 24, .inl (nF d.2.2.2.2.2.2.1))), (ba, .inl (cI, 24, .inl (oF d.2.2.2.2.2.2.2.1))), (bk, .inl (cI, 24, .inl (oF d.2.2.2.2.2.2.2.2.1))), (bg, .inl (cI, 24, .inl (nF d.2.2.2.2.2.2.2.2.2))), (p0, .inr (2, [.ref h0, .int (nI C.2.2.2.2.2.2.1), .int (nI C.2.2.2.2.2.2.2.1)])), (h0, .inr (3, [.int (nI 20), .ref hl1, .ref hs1, .ref hw1, .ref hc1])), (hl1, .inl (cJ, 20 * 24, .inr (.inl (lF C.2.2.2.2.2.2.2.2.1)))), (hs1, .inl (cI, 20 * 24, .inl (nF C.2.2.2.2.2.2.2.2.2.1))), (hw1, .inl (cI, 20 * 24, .inl (nF C.2.2.2.2.2.2.2.2.2.2.1))), (hc1, .inl (cI, 20, .inl (nF C.2.2.2.2.2.2.2.2.2.2.2.1))), (i0, .inr (3, [.int (nI 2), .ref il1, .ref is1, .ref iw1, .ref ic1])), (il1, .inl (cJ, 2 * 24, .inr (.inl (lF C.2.2.2.2.2.2.2.2.2.2.2.2.1)))), (is1, .inl (cI, 2 * 24, .inl (nF C.2.2.2.2.2.2.2.2.2.2.2.2.2.1))), (iw1, .inl (cI, 2 * 24, .inl (nF C.2.2.2.2.2.2.2.2.2.2.2.2.2.2.1))), (ic1, .inl (cI, 2, .inl (nF C.2.2.2.2.2.2.2.2.2.2.2.2.2.2.2.1))), (ik, .inl (cZ, 2, .inl (nF C.2.2.2.2.2.2.2.2.2.2.2.2.2.2.2.2.1))), (it, .inl (cI, 2, .inl (nF C.2.2.2.2.2.2.2.2.2.2.2.2.2.2.2.2.2.1)))]
def wM (cI cZ : ClassId) (m0 nw ps im mk wd so mb ma mf mw ml mu wt ty : Nat) (C : Co) (T : Ms) : va_W := [(m0, .inr (6, [.ref nw, .ref ps, .int (nI C.2.2.2.2.2.2.2.1), .ref im, .ref mk, .int (nI C.2.2.2.2.2.2.2.2.2.2.2.2.2.2.2.2.2.2), .ref wd, .int (nI C.2.1), .ref so, .int (nI T.2.2.2.2.2.1), .ref mb, .ref ma, .ref mf, .ref mw, .ref ml, .ref mu, .int (nI T.2.2.2.2.2.2.2.2.2.2.2.2.1), .ref wt, .int (nI T.2.2.2.2.2.2.2.2.2.2.2.2.2.2.1), .ref ty])), (nw, .inl (cI, 241, .inl (nF T.1))), (ps, .inl (cI, 4820, .inl (nF T.2.1))), (im, .inl (cI, 484, .inl (nF T.2.2.1))), (mk, .inl (cZ, 2, .inl (nF C.2.2.2.2.2.2.2.2.2.2.2.2.2.2.2.2.1))), (wd, .inl (cI, 8, .inl (nF T.2.2.2.1))), (so, .inl (cI, 24, .inl (nF T.2.2.2.2.1))), (mb, .inl (cI, 24, .inl (nF T.2.2.2.2.2.2.1))), (ma, .inl (cI, 24, .inl (nF T.2.2.2.2.2.2.2.1))), (mf, .inl (cI, 24, .inl (nF T.2.2.2.2.2.2.2.2.1))), (mw, .inl (cI, 24, .inl (nF T.2.2.2.2.2.2.2.2.2.1))), (ml, .inl (cI, 24, .inl (nF T.2.2.2.2.2.2.2.2.2.2.1))), (mu, .inl (cI, 24, .inl (oF T.2.2.2.2.2.2.2.2.2.2.2.1))), (wt, .inl (cI, 200, .inl (oF T.2.2.2.2.2.2.2.2.2.2.2.2.2.1))), (ty, .inl (cI, 8, .inl (nF T.2.2.2.2.2.2.2.2.2.2.2.2.2.2.2)))]
def CI (C : Co) : Prop := Wf C.2.1 C.1 ∧ KOK C.2.2.2.1 C.2.2.1 C.2.2.2.2.1 C.2.2.2.2.2.1 ∧ C.2.2.2.2.2.2.1 < 20 ∧ C.2.2.2.2.2.2.2.1 ≤ 20 ∧ C.2.2.2.2.2.2.2.2.2.2.2.2.2.2.2.2.2.2 < 2 ^ 31 ∧ ∀ j, j < 2 → (C.2.2.2.2.2.2.2.2.2.2.2.2.2.2.2.2.1 j = 0 ∨ C.2.2.2.2.2.2.2.2.2.2.2.2.2.2.2.2.1 j = 1) ∧ C.2.2.2.2.2.2.2.2.2.2.2.2.2.2.2.2.2.1 j < 2 ^ 31
def OkT (C : Co) (d : Dt) : Prop := TrX (gapF C.2.2.2.1 C.2.2.1) C.2.2.2.2.2.1 d.2.2.1 d.2.2.2.1 d.2.2.2.2.1 d.2.2.2.2.2.1 d.2.2.2.2.2.2.1 d.2.2.2.2.2.2.2.1 d.2.2.2.2.2.2.2.2.1
def Img (IS IL IW IC IK IT IM : Nat → Nat) : Prop := ∀ j, j < 2 → IK j = 1 → KOK (fun k => IS (j * 24 + k)) (fun k => IL (j * 24 + k)) (fun k => IW (j * 24 + k)) (IC j) ∧ RN (fun x => IM (242 * j + x)) (fun k => IS (j * 24 + k)) (fun k => IL (j * 24 + k)) (fun k => IW (j * 24 + k)) (IC j) ∧ IM ((242 * j) + 241) = IT j
def Sim (C : Co) (T : Ms) : Prop := RN T.1 C.2.2.2.1 C.2.2.1 C.2.2.2.2.1 C.2.2.2.2.2.1 ∧ RW T.2.2.2.1 C.2.1 C.1 ∧ SimP C.2.2.2.2.2.2.1 C.2.2.2.2.2.2.2.1 C.2.2.2.2.2.2.2.2.1 C.2.2.2.2.2.2.2.2.2.1 C.2.2.2.2.2.2.2.2.2.2.1 C.2.2.2.2.2.2.2.2.2.2.2.1 T.2.1 ∧ Img C.2.2.2.2.2.2.2.2.2.2.2.2.2.1 C.2.2.2.2.2.2.2.2.2.2.2.2.1 C.2.2.2.2.2.2.2.2.2.2.2.2.2.2.1 C.2.2.2.2.2.2.2.2.2.2.2.2.2.2.2.1 C.2.2.2.2.2.2.2.2.2.2.2.2.2.2.2.2.1 C.2.2.2.2.2.2.2.2.2.2.2.2.2.2.2.2.2.1 T.2.2.1
def Pr (l : Launch) (D : va_G) (cI cJ cZ : ClassId) (x0 w0 d0 k0 kl ks kw b0 bb bd bm bl bf ba bk bg p0 h0 hl1 hs1 hw1 hc1 i0 il1 is1 iw1 ic1 ik it m0 nw ps im mk wd so mb ma mf mw ml mu wt ty : Nat) (yX : MethodName) (cX : ByteArray) (nX : Nat) (rX : Room) (yM : MethodName) (cM : ByteArray) (nM : Nat) (rM : Room) (av : List Value) (C : Co) (d : Dt) (T : Ms) : Prop :=
  ∃ (r : Int32) (C1 : Co), CI C1 ∧ (∀ sz, WR l yX cX nX (some .int) rX D (ty3 cI cJ cZ) (.ref x0 :: av) (wX cI cJ cZ x0 w0 d0 k0 kl ks kw b0 bb bd bm bl bf ba bk bg p0 h0 hl1 hs1 hw1 hc1 i0 il1 is1 iw1 ic1 ik it C d) sz (fun v w => v = some (.int r) ∧ ∃ d1 : Dt, w = wX cI cJ cZ x0 w0 d0 k0 kl ks kw b0 bb bd bm bl bf ba bk bg p0 h0 hl1 hs1 hw1 hc1 i0 il1 is1 iw1 ic1 ik it C1 d1 ∧ OkT C1 d1)) ∧ (∀ sz, WR l yM cM nM (some .int) rM D (ty3 cI cJ cZ) (.ref m0 :: av) (wM cI cZ m0 nw ps im mk wd so mb ma mf mw ml mu wt ty C T) sz (fun v w => v = some (.int r) ∧ ∃ T1 : Ms, w = wM cI cZ m0 nw ps im mk wd so mb ma mf mw ml mu wt ty C1 T1 ∧ Sim C1 T1))
theorem wr_mono {l : Launch} {y : MethodName} {cc : ByteArray} {n : Nat} {ret : Option FieldType} {rm : Room} {D : va_G} {tys : List (ClassId × FieldType)} {av : List Value} {WS : va_W} {sz : Nat} {P P1 : Option Value → va_W → Prop} (h : WR l y cc n ret rm D tys av WS sz P) (hp : ∀ v w, P v w → P1 v w) : WR l y cc n ret rm D tys av WS sz P1 := by
  intro p e ha hc hk s m args below hf happ hP hK
  obtain ⟨k, o, h1, h2, h3, ⟨⟨v, w1, e1, e2, e3⟩, hF⟩, hL⟩ := h p e ha hc hk s m args below hf happ hP hK
  exact ⟨k, o, h1, h2, h3, ⟨⟨v, w1, e1, hp v w1 e2, e3⟩, hF⟩, hL⟩
theorem ro_wr {l : Launch} {y : MethodName} {cc : ByteArray} {n f lc : Nat} {ret : Option FieldType} {D : va_G} {tys : List (ClassId × FieldType)} {av : List Value} {WS : va_W} {sz : Nat} {v : Value} (h : RO l y cc n ret (rmN f lc) D tys av WS v) : WR l y cc n ret (rmN f lc) D tys av WS sz (fun x w => x = some v ∧ w = WS) := by
  intro p e ha hc hk s m args below hf happ hP hK
  obtain ⟨hv, hsz, hPP, hKK, hDD, hN⟩ := hP
  obtain ⟨k, o, h1, h2, h3, ⟨ho, hh⟩, L, hFE, hL⟩ := h p e ha hc hk s m args below hf happ ⟨hv, hPP, hKK⟩ hK
  refine ⟨k, o, h1, h2, h3, ⟨⟨some v, WS, ho, ⟨rfl, rfl⟩, by rw [hh]; exact hPP, hDD.self⟩, ?_⟩, L, hFE, fun q h => (hL q h).elim⟩
  exact ⟨by rw [hh]; exact Nat.le_refl _, fun q _ _ => by rw [hh]⟩
theorem pr_ro (l : Launch) (D : va_G) (cI cJ cZ : ClassId) (x0 w0 d0 k0 kl ks kw b0 bb bd bm bl bf ba bk bg p0 h0 hl1 hs1 hw1 hc1 i0 il1 is1 iw1 ic1 ik it m0 nw ps im mk wd so mb ma mf mw ml mu wt ty : Nat) {C : Co} {d : Dt} {T : Ms} (hC : CI C) (hd : OkT C d) (hT : Sim C T) {yX yM : MethodName} {cX cM : ByteArray} {nX nM f1 l1 : Nat} {rM : Room} {av : List Value} {r : Int32} (hX : RO l yX cX nX (some .int) (rmN f1 l1) D (ty3 cI cJ cZ) (.ref x0 :: av) (wX cI cJ cZ x0 w0 d0 k0 kl ks kw b0 bb bd bm bl bf ba bk bg p0 h0 hl1 hs1 hw1 hc1 i0 il1 is1 iw1 ic1 ik it C d) (.int r))
    (hM : ∀ sz, WR l yM cM nM (some .int) rM D (ty3 cI cJ cZ) (.ref m0 :: av) (wM cI cZ m0 nw ps im mk wd so mb ma mf mw ml mu wt ty C T) sz (fun x w => x = some (.int r) ∧ ∃ (SO : Nat → Nat) (q : Nat) (EB EA EF EW EL EU : Nat → Nat) (br : Nat) (WT : Nat → Nat) (ww : Nat), w = wM cI cZ m0 nw ps im mk wd so mb ma mf mw ml mu wt ty C (T.1, T.2.1, T.2.2.1, T.2.2.2.1, SO, q, EB, EA, EF, EW, EL, EU, br, WT, ww, T.2.2.2.2.2.2.2.2.2.2.2.2.2.2.2))) : Pr l D cI cJ cZ x0 w0 d0 k0 kl ks kw b0 bb bd bm bl bf ba bk bg p0 h0 hl1 hs1 hw1 hc1 i0 il1 is1 iw1 ic1 ik it m0 nw ps im mk wd so mb ma mf mw ml mu wt ty yX cX nX (rmN f1 l1) yM cM nM rM av C d T :=
  ⟨r, C, hC, fun sz => wr_mono (ro_wr hX) (fun v w h => ⟨h.1, d, h.2, hd⟩), fun sz => wr_mono (hM sz) (fun v w h => by
    obtain ⟨h1, SO, q, EB, EA, EF, EW, EL, EU, br, WT, ww, h2⟩ := h
    exact ⟨h1, (T.1, T.2.1, T.2.2.1, T.2.2.2.1, SO, q, EB, EA, EF, EW, EL, EU, br, WT, ww, T.2.2.2.2.2.2.2.2.2.2.2.2.2.2.2), h2, hT⟩)⟩
theorem im_up {IK IT : Nat → Nat} {j sd : Nat} (h : ∀ j, j < 2 → (IK j = 0 ∨ IK j = 1) ∧ IT j < 2 ^ 31) (hsd : sd < 2 ^ 31) : ∀ i, i < 2 → (up IK j 1 i = 0 ∨ up IK j 1 i = 1) ∧ up IT j sd i < 2 ^ 31 := by
  intro i hi
  by_cases e : i = j
  · subst e; rw [up_eq, up_eq]; exact ⟨Or.inr rfl, hsd⟩
  · rw [up_ne _ _ e, up_ne _ _ e]; exact h i hi
theorem kr_le {KS KL BB BD BM BL BF BA BK : Nat → Nat} {n s A : Nat} (hTr : TrX (gapF KS KL) n BB BD BM BL BF BA BK) : (if n = 0 then 0 else if n = 1 then 1 else kr BB BM BL BF s A (n - 1) 0) ≤ n := by
  by_cases hn : n = 0
  · rw [if_pos hn]; omega
  rw [if_neg hn]
  by_cases g : n = 1
  · rw [if_pos g]; omega
  · rw [if_neg g]
    have key : ∀ t b, b + 1 < n → BM b ≤ t + 1 → kr BB BM BL BF s A t b ≤ n := by
      intro t
      induction t with
      | zero => intro b hb h; have := tf_in hTr hb; omega
      | succ t ih =>
        intro b hb h
        have hi := tf_in hTr hb
        show (if bitr s A (BB b) = 1 then (if BM b - BL b = 1 then BF b + BL b + 1 else kr BB BM BL BF s A t (b + BL b)) else (if BL b = 1 then BF b + 1 else kr BB BM BL BF s A t (b + 1))) ≤ n
        split
        · split
          · omega
          · have hc := (tf_child hTr hb).2 (by omega)
            exact ih _ hc.1 (by omega)
        · split
          · omega
          · have hc := (tf_child hTr hb).1 (by omega)
            exact ih _ hc.1 (by omega)
    have hr := tf_root hTr (by omega)
    exact key (n - 1) 0 (by omega) (by omega)
theorem kok_it {Z : ZT} (h : KOK Z.2.1 Z.1 Z.2.2.1 Z.2.2.2.1) : ∀ i, KOK (dit i Z).2.1 (dit i Z).1 (dit i Z).2.2.1 (dit i Z).2.2.2.1
  | 0 => h
  | i + 1 => kok_deed (kok_it h i)
theorem cpyI {f g : Nat → Nat} {dp n k : Nat} (h : k < n) : va_cpy f g 0 dp n (dp + k) = f k := by
  unfold va_cpy; rw [if_pos (by omega)]; congr 1; omega
theorem cpyO {f g : Nat → Nat} {sp dp n x : Nat} (h : ¬ (dp ≤ x ∧ x < dp + n)) : va_cpy f g sp dp n x = g x := by
  unfold va_cpy; rw [if_neg h]
theorem sim_undo {nx pz j : Nat} {HL HS HW HC PS : Nat → Nat} (h : SimP nx pz HL HS HW HC PS) (hnx : nx < 20) (hpz : pz ≤ 20) (hj : j ≤ pz) : SimP ((nx + 20 - j) % 20) (pz - j) HL HS HW HC PS := by
  intro i hi
  have e : slt ((nx + 20 - j) % 20) (pz - j) i = slt nx pz i := by unfold slt; omega
  rw [e]
  exact h i (by omega)
theorem rw_type {NW WD KS KL KW : Nat → Nat} {n j : Nat} (hR : RN NW KS KL KW n) (hk : ∀ k, k < n → Wf (KS k) (KL k)) (hj : j < n) : RW (va_cpy NW WD (49 + (8 * j)) 0 8) (KS j) (KL j) := by
  intro i hi
  have h8 := (hk j hj).1
  rw [cpy0 (by omega)]
  exact (hR.2 j hj).2.2 i hi
theorem img_keep {IS IL IW IC IK IT IM NW KS KL KW : Nat → Nat} {n j sd : Nat} (h : Img IS IL IW IC IK IT IM) (hK : KOK KS KL KW n) (hR : RN NW KS KL KW n) : Img (va_cpy KS IS 0 (j * 24) n) (va_cpy KL IL 0 (j * 24) n) (va_cpy KW IW 0 (j * 24) n) (up IC j n) (up IK j 1) (up IT j sd) (up (va_cpy NW IM 0 (242 * j) 241) ((242 * j) + 241) sd) := by
  intro i hi hik
  have hn := hK.1
  by_cases e : i = j
  · subst e
    rw [up_eq, up_eq, up_eq]
    refine ⟨kok_congr hK (fun k hk => ⟨(cpyI hk).symm, (cpyI hk).symm, (cpyI hk).symm⟩), rn_congr (rn_pt hn hK.2.1 hR (fun x hx => ?_)) (fun k hk => ⟨(cpyI hk).symm, (cpyI hk).symm, (cpyI hk).symm⟩), rfl⟩
    show up (va_cpy NW IM 0 (242 * i) 241) ((242 * i) + 241) sd (242 * i + x) = NW x
    rw [up_ne _ _ (by omega), cpyI hx]
  · rw [up_ne _ _ e] at hik
    rw [up_ne _ _ e, up_ne _ _ e]
    obtain ⟨a1, a2, a3⟩ := h i hi hik
    have h24 := a1.1
    have o : ∀ k, k < IC i → ¬ (j * 24 ≤ i * 24 + k ∧ i * 24 + k < j * 24 + n) := fun k hk q => by omega
    have eq : ∀ k, k < IC i → IS (i * 24 + k) = va_cpy KS IS 0 (j * 24) n (i * 24 + k) ∧ IL (i * 24 + k) = va_cpy KL IL 0 (j * 24) n (i * 24 + k) ∧ IW (i * 24 + k) = va_cpy KW IW 0 (j * 24) n (i * 24 + k) := fun k hk => ⟨(cpyO (o k hk)).symm, (cpyO (o k hk)).symm, (cpyO (o k hk)).symm⟩
    refine ⟨kok_congr a1 eq, rn_congr (rn_pt h24 a1.2.1 a2 (fun x hx => ?_)) eq, ?_⟩
    · show up (va_cpy NW IM 0 (242 * j) 241) ((242 * j) + 241) sd (242 * i + x) = IM (242 * i + x)
      rw [up_ne _ _ (by omega), cpyO (by omega)]
    · rw [up_ne _ _ (by omega), cpyO (by omega)]
      exact a3
set_option maxHeartbeats 4000000 in
set_option maxRecDepth 100000 in
theorem p_feed (l : Launch) (D : va_G) (cI cJ cZ : ClassId) (x0 w0 d0 k0 kl ks kw b0 bb bd bm bl bf ba bk bg p0 h0 hl1 hs1 hw1 hc1 i0 il1 is1 iw1 ic1 ik it m0 nw ps im mk wd so mb ma mf mw ml mu wt ty : Nat) (C : Co) (d : Dt) (T : Ms) (hC : CI C) (hd : OkT C d) (hT : Sim C T) (x : Int32) : Pr l D cI cJ cZ x0 w0 d0 k0 kl ks kw b0 bb bd bm bl bf ba bk bg p0 h0 hl1 hs1 hw1 hc1 i0 il1 is1 iw1 ic1 ik it m0 nw ps im mk wd so mb ma mf mw ml mu wt ty yX5_feed cX5_feed 2 (rmN 1 21) yX6_feed cX6_feed 2 (rmN 1 22) [.int x] C d T := by
  obtain ⟨A, s, KL, KS, KW, n, nx, pz, HL, HS, HW, HC, IL, IS, IW, IC, IK, IT, sd⟩ := C
  obtain ⟨dA, dz, BB, BD, BM, BL, BF, BA, BK, BG⟩ := d
  obtain ⟨NW, PS, IM, WD, SO, q, EB, EA, EF, EW, EL, EU, br, WT, ww, TY⟩ := T
  have hw0 : Wf s A := hC.1
  have hKO : KOK KS KL KW n := hC.2.1
  have hnx : nx < 20 := hC.2.2.1
  have hpz : pz ≤ 20 := hC.2.2.2.1
  have hsd : sd < 2 ^ 31 := hC.2.2.2.2.1
  have him : ∀ j, j < 2 → (IK j = 0 ∨ IK j = 1) ∧ IT j < 2 ^ 31 := hC.2.2.2.2.2
  have hTr : TrX (gapF KS KL) n BB BD BM BL BF BA BK := hd
  have hR : RN NW KS KL KW n := hT.1
  have hRW : RW WD s A := hT.2.1
  have hSP : SimP nx pz HL HS HW HC PS := hT.2.2.1
  have hIm : Img IS IL IW IC IK IT IM := hT.2.2.2
  have hn := hKO.1
  have hk := hKO.2.1
  have hv := hKO.2.2.1
  have hso := hKO.2.2.2
  rcases neg_or x with hx0 | ⟨j, hj, rfl⟩
  · exact pr_ro l D cI cJ cZ x0 w0 d0 k0 kl ks kw b0 bb bd bm bl bf ba bk bg p0 h0 hl1 hs1 hw1 hc1 i0 il1 is1 iw1 ic1 ik it m0 nw ps im mk wd so mb ma mf mw ml mu wt ty hC hd hT (c_X5_feed_neg l D cI cJ cZ x0 w0 d0 k0 kl ks kw b0 bb bd bm bl bf ba bk bg p0 h0 hl1 hs1 hw1 hc1 i0 il1 is1 iw1 ic1 ik it A s dA dz KL KS KW n BB BD BM BL BF BA BK BG nx pz HL HS HW HC IL IS IW IC IK IT sd hn hw0 hk hv hso hTr hnx hpz hsd x hx0) (c_X6_feed_neg l D cI cJ cZ m0 nw ps im mk wd so mb ma mf mw ml mu wt ty NW PS pz IM IK sd WD s SO q EB EA EF EW EL EU br WT ww TY KS KL KW n A hn hk hw0 hR hRW hso BB BD BM BL BF BA BK hTr hv x hx0)
  · by_cases z0 : 255 < j
    · exact pr_ro l D cI cJ cZ x0 w0 d0 k0 kl ks kw b0 bb bd bm bl bf ba bk bg p0 h0 hl1 hs1 hw1 hc1 i0 il1 is1 iw1 ic1 ik it m0 nw ps im mk wd so mb ma mf mw ml mu wt ty hC hd hT (c_X5_feed_big l D cI cJ cZ x0 w0 d0 k0 kl ks kw b0 bb bd bm bl bf ba bk bg p0 h0 hl1 hs1 hw1 hc1 i0 il1 is1 iw1 ic1 ik it A s dA dz KL KS KW n BB BD BM BL BF BA BK BG nx pz HL HS HW HC IL IS IW IC IK IT sd hn hw0 hk hv hso hTr hnx hpz hsd j hj z0) (c_X6_feed_big l D cI cJ cZ m0 nw ps im mk wd so mb ma mf mw ml mu wt ty NW PS pz IM IK sd WD s SO q EB EA EF EW EL EU br WT ww TY KS KL KW n A hn hk hw0 hR hRW hso BB BD BM BL BF BA BK hTr hv j hj z0)
    · by_cases z1 : s < 8
      · exact ⟨nI (s + 1), (app A s j, s + 1, KL, KS, KW, n, nx, pz, HL, HS, HW, HC, IL, IS, IW, IC, IK, IT, sd), ⟨wf_app hw0 z1 (by omega), hKO, hnx, hpz, hsd, him⟩, fun sz => wr_mono (c_X5_feed_ok l D cI cJ cZ x0 w0 d0 k0 kl ks kw b0 bb bd bm bl bf ba bk bg p0 h0 hl1 hs1 hw1 hc1 i0 il1 is1 iw1 ic1 ik it A s dA dz KL KS KW n BB BD BM BL BF BA BK BG nx pz HL HS HW HC IL IS IW IC IK IT sd hn hw0 hk hv hso hTr hnx hpz hsd j (by omega) z1 sz) (fun v w h => by
    exact ⟨h.1, (dA, dz, BB, BD, BM, BL, BF, BA, BK, BG), h.2, hTr⟩), fun sz => wr_mono (c_X6_feed_ok l D cI cJ cZ m0 nw ps im mk wd so mb ma mf mw ml mu wt ty NW PS pz IM IK sd WD s SO q EB EA EF EW EL EU br WT ww TY KS KL KW n A hn hk hw0 hR hRW hso BB BD BM BL BF BA BK hTr hv j (by omega) z1 sz) (fun v w h => by
    obtain ⟨h1, SO, q, EB, EA, EF, EW, EL, EU, br, WT, ww, h2⟩ := h
    exact ⟨h1, (NW, PS, IM, up WD s j, SO, q, EB, EA, EF, EW, EL, EU, br, WT, ww, TY), h2, ⟨hR, rw_app hRW hw0 z1 (by omega), hSP, hIm⟩⟩)⟩
      · have hs8 := hw0.1
        exact pr_ro l D cI cJ cZ x0 w0 d0 k0 kl ks kw b0 bb bd bm bl bf ba bk bg p0 h0 hl1 hs1 hw1 hc1 i0 il1 is1 iw1 ic1 ik it m0 nw ps im mk wd so mb ma mf mw ml mu wt ty hC hd hT (c_X5_feed_full l D cI cJ cZ x0 w0 d0 k0 kl ks kw b0 bb bd bm bl bf ba bk bg p0 h0 hl1 hs1 hw1 hc1 i0 il1 is1 iw1 ic1 ik it A s dA dz KL KS KW n BB BD BM BL BF BA BK BG nx pz HL HS HW HC IL IS IW IC IK IT sd hn hw0 hk hv hso hTr hnx hpz hsd j (by omega) (by omega)) (c_X6_feed_full l D cI cJ cZ m0 nw ps im mk wd so mb ma mf mw ml mu wt ty NW PS pz IM IK sd WD s SO q EB EA EF EW EL EU br WT ww TY KS KL KW n A hn hk hw0 hR hRW hso BB BD BM BL BF BA BK hTr hv j (by omega) (by omega))
set_option maxHeartbeats 4000000 in
set_option maxRecDepth 100000 in
theorem p_wipe (l : Launch) (D : va_G) (cI cJ cZ : ClassId) (x0 w0 d0 k0 kl ks kw b0 bb bd bm bl bf ba bk bg p0 h0 hl1 hs1 hw1 hc1 i0 il1 is1 iw1 ic1 ik it m0 nw ps im mk wd so mb ma mf mw ml mu wt ty : Nat) (C : Co) (d : Dt) (T : Ms) (hC : CI C) (hd : OkT C d) (hT : Sim C T) : Pr l D cI cJ cZ x0 w0 d0 k0 kl ks kw b0 bb bd bm bl bf ba bk bg p0 h0 hl1 hs1 hw1 hc1 i0 il1 is1 iw1 ic1 ik it m0 nw ps im mk wd so mb ma mf mw ml mu wt ty yX5_wipe cX5_wipe 2 (rmN 1 20) yX6_wipe cX6_wipe 2 (rmN 0 0) [] C d T := by
  obtain ⟨A, s, KL, KS, KW, n, nx, pz, HL, HS, HW, HC, IL, IS, IW, IC, IK, IT, sd⟩ := C
  obtain ⟨dA, dz, BB, BD, BM, BL, BF, BA, BK, BG⟩ := d
  obtain ⟨NW, PS, IM, WD, SO, q, EB, EA, EF, EW, EL, EU, br, WT, ww, TY⟩ := T
  have hw0 : Wf s A := hC.1
  have hKO : KOK KS KL KW n := hC.2.1
  have hnx : nx < 20 := hC.2.2.1
  have hpz : pz ≤ 20 := hC.2.2.2.1
  have hsd : sd < 2 ^ 31 := hC.2.2.2.2.1
  have him : ∀ j, j < 2 → (IK j = 0 ∨ IK j = 1) ∧ IT j < 2 ^ 31 := hC.2.2.2.2.2
  have hTr : TrX (gapF KS KL) n BB BD BM BL BF BA BK := hd
  have hR : RN NW KS KL KW n := hT.1
  have hRW : RW WD s A := hT.2.1
  have hSP : SimP nx pz HL HS HW HC PS := hT.2.2.1
  have hIm : Img IS IL IW IC IK IT IM := hT.2.2.2
  have hn := hKO.1
  have hk := hKO.2.1
  have hv := hKO.2.2.1
  have hso := hKO.2.2.2
  exact ⟨nI s, (0, 0, KL, KS, KW, n, nx, pz, HL, HS, HW, HC, IL, IS, IW, IC, IK, IT, sd), ⟨wf_0, hKO, hnx, hpz, hsd, him⟩, fun sz => wr_mono (c_X5_wipe l D cI cJ cZ x0 w0 d0 k0 kl ks kw b0 bb bd bm bl bf ba bk bg p0 h0 hl1 hs1 hw1 hc1 i0 il1 is1 iw1 ic1 ik it A s dA dz KL KS KW n BB BD BM BL BF BA BK BG nx pz HL HS HW HC IL IS IW IC IK IT sd hn hw0 hk hv hso hTr hnx hpz hsd  sz) (fun v w h => by
    exact ⟨h.1, (dA, dz, BB, BD, BM, BL, BF, BA, BK, BG), h.2, hTr⟩), fun sz => wr_mono (c_X6_wipe l D cI cJ cZ m0 nw ps im mk wd so mb ma mf mw ml mu wt ty NW PS pz IM IK sd WD s SO q EB EA EF EW EL EU br WT ww TY KS KL KW n A hn hk hw0 hR hRW hso BB BD BM BL BF BA BK hTr hv  sz) (fun v w h => by
    obtain ⟨h1, SO, q, EB, EA, EF, EW, EL, EU, br, WT, ww, h2⟩ := h
    exact ⟨h1, (NW, PS, IM, WD, SO, q, EB, EA, EF, EW, EL, EU, br, WT, ww, TY), h2, ⟨hR, fun i hi => absurd hi (Nat.not_lt_zero _), hSP, hIm⟩⟩)⟩
set_option maxHeartbeats 4000000 in
set_option maxRecDepth 100000 in
theorem p_type (l : Launch) (D : va_G) (cI cJ cZ : ClassId) (x0 w0 d0 k0 kl ks kw b0 bb bd bm bl bf ba bk bg p0 h0 hl1 hs1 hw1 hc1 i0 il1 is1 iw1 ic1 ik it m0 nw ps im mk wd so mb ma mf mw ml mu wt ty : Nat) (C : Co) (d : Dt) (T : Ms) (hC : CI C) (hd : OkT C d) (hT : Sim C T) (x : Int32) : Pr l D cI cJ cZ x0 w0 d0 k0 kl ks kw b0 bb bd bm bl bf ba bk bg p0 h0 hl1 hs1 hw1 hc1 i0 il1 is1 iw1 ic1 ik it m0 nw ps im mk wd so mb ma mf mw ml mu wt ty yX5_type cX5_type 2 (rmN 1 23) yX6_type cX6_type 2 (rmN 2 43) [.int x] C d T := by
  obtain ⟨A, s, KL, KS, KW, n, nx, pz, HL, HS, HW, HC, IL, IS, IW, IC, IK, IT, sd⟩ := C
  obtain ⟨dA, dz, BB, BD, BM, BL, BF, BA, BK, BG⟩ := d
  obtain ⟨NW, PS, IM, WD, SO, q, EB, EA, EF, EW, EL, EU, br, WT, ww, TY⟩ := T
  have hw0 : Wf s A := hC.1
  have hKO : KOK KS KL KW n := hC.2.1
  have hnx : nx < 20 := hC.2.2.1
  have hpz : pz ≤ 20 := hC.2.2.2.1
  have hsd : sd < 2 ^ 31 := hC.2.2.2.2.1
  have him : ∀ j, j < 2 → (IK j = 0 ∨ IK j = 1) ∧ IT j < 2 ^ 31 := hC.2.2.2.2.2
  have hTr : TrX (gapF KS KL) n BB BD BM BL BF BA BK := hd
  have hR : RN NW KS KL KW n := hT.1
  have hRW : RW WD s A := hT.2.1
  have hSP : SimP nx pz HL HS HW HC PS := hT.2.2.1
  have hIm : Img IS IL IW IC IK IT IM := hT.2.2.2
  have hn := hKO.1
  have hk := hKO.2.1
  have hv := hKO.2.2.1
  have hso := hKO.2.2.2
  rcases neg_or x with hx0 | ⟨j, hj, rfl⟩
  · exact pr_ro l D cI cJ cZ x0 w0 d0 k0 kl ks kw b0 bb bd bm bl bf ba bk bg p0 h0 hl1 hs1 hw1 hc1 i0 il1 is1 iw1 ic1 ik it m0 nw ps im mk wd so mb ma mf mw ml mu wt ty hC hd hT (c_X5_type_neg l D cI cJ cZ x0 w0 d0 k0 kl ks kw b0 bb bd bm bl bf ba bk bg p0 h0 hl1 hs1 hw1 hc1 i0 il1 is1 iw1 ic1 ik it A s dA dz KL KS KW n BB BD BM BL BF BA BK BG nx pz HL HS HW HC IL IS IW IC IK IT sd hn hw0 hk hv hso hTr hnx hpz hsd x hx0) (c_X6_type_neg l D cI cJ cZ m0 nw ps im mk wd so mb ma mf mw ml mu wt ty NW PS pz IM IK sd WD s SO q EB EA EF EW EL EU br WT ww TY KS KL KW n A hn hk hw0 hR hRW hso BB BD BM BL BF BA BK hTr hv x hx0)
  · by_cases z0 : j < n
    · exact ⟨nI (KS j), (KL j, KS j, KL, KS, KW, n, nx, pz, HL, HS, HW, HC, IL, IS, IW, IC, IK, IT, sd), ⟨hk j z0, hKO, hnx, hpz, hsd, him⟩, fun sz => wr_mono (c_X5_type_ok l D cI cJ cZ x0 w0 d0 k0 kl ks kw b0 bb bd bm bl bf ba bk bg p0 h0 hl1 hs1 hw1 hc1 i0 il1 is1 iw1 ic1 ik it A s dA dz KL KS KW n BB BD BM BL BF BA BK BG nx pz HL HS HW HC IL IS IW IC IK IT sd hn hw0 hk hv hso hTr hnx hpz hsd j z0 sz) (fun v w h => by
    exact ⟨h.1, (dA, dz, BB, BD, BM, BL, BF, BA, BK, BG), h.2, hTr⟩), fun sz => wr_mono (c_X6_type_ok l D cI cJ cZ m0 nw ps im mk wd so mb ma mf mw ml mu wt ty NW PS pz IM IK sd WD s SO q EB EA EF EW EL EU br WT ww TY KS KL KW n A hn hk hw0 hR hRW hso BB BD BM BL BF BA BK hTr hv j z0 sz) (fun v w h => by
    obtain ⟨h1, SO, q, EB, EA, EF, EW, EL, EU, br, WT, ww, h2⟩ := h
    exact ⟨h1, (NW, PS, IM, va_cpy NW WD (49 + (8 * j)) 0 8, SO, q, EB, EA, EF, EW, EL, EU, br, WT, ww, TY), h2, ⟨hR, rw_type hR hk z0, hSP, hIm⟩⟩)⟩
    · exact pr_ro l D cI cJ cZ x0 w0 d0 k0 kl ks kw b0 bb bd bm bl bf ba bk bg p0 h0 hl1 hs1 hw1 hc1 i0 il1 is1 iw1 ic1 ik it m0 nw ps im mk wd so mb ma mf mw ml mu wt ty hC hd hT (c_X5_type_out l D cI cJ cZ x0 w0 d0 k0 kl ks kw b0 bb bd bm bl bf ba bk bg p0 h0 hl1 hs1 hw1 hc1 i0 il1 is1 iw1 ic1 ik it A s dA dz KL KS KW n BB BD BM BL BF BA BK BG nx pz HL HS HW HC IL IS IW IC IK IT sd hn hw0 hk hv hso hTr hnx hpz hsd j hj (by omega)) (c_X6_type_out l D cI cJ cZ m0 nw ps im mk wd so mb ma mf mw ml mu wt ty NW PS pz IM IK sd WD s SO q EB EA EF EW EL EU br WT ww TY KS KL KW n A hn hk hw0 hR hRW hso BB BD BM BL BF BA BK hTr hv j hj (by omega))
set_option maxHeartbeats 4000000 in
set_option maxRecDepth 100000 in
theorem p_told (l : Launch) (D : va_G) (cI cJ cZ : ClassId) (x0 w0 d0 k0 kl ks kw b0 bb bd bm bl bf ba bk bg p0 h0 hl1 hs1 hw1 hc1 i0 il1 is1 iw1 ic1 ik it m0 nw ps im mk wd so mb ma mf mw ml mu wt ty : Nat) (C : Co) (d : Dt) (T : Ms) (hC : CI C) (hd : OkT C d) (hT : Sim C T) (x : Int32) : Pr l D cI cJ cZ x0 w0 d0 k0 kl ks kw b0 bb bd bm bl bf ba bk bg p0 h0 hl1 hs1 hw1 hc1 i0 il1 is1 iw1 ic1 ik it m0 nw ps im mk wd so mb ma mf mw ml mu wt ty yX5_told cX5_told 2 (rmN 5 117) yX6_told cX6_told 4 (rmN 6 133) [.int x] C d T := by
  obtain ⟨A, s, KL, KS, KW, n, nx, pz, HL, HS, HW, HC, IL, IS, IW, IC, IK, IT, sd⟩ := C
  obtain ⟨dA, dz, BB, BD, BM, BL, BF, BA, BK, BG⟩ := d
  obtain ⟨NW, PS, IM, WD, SO, q, EB, EA, EF, EW, EL, EU, br, WT, ww, TY⟩ := T
  have hw0 : Wf s A := hC.1
  have hKO : KOK KS KL KW n := hC.2.1
  have hnx : nx < 20 := hC.2.2.1
  have hpz : pz ≤ 20 := hC.2.2.2.1
  have hsd : sd < 2 ^ 31 := hC.2.2.2.2.1
  have him : ∀ j, j < 2 → (IK j = 0 ∨ IK j = 1) ∧ IT j < 2 ^ 31 := hC.2.2.2.2.2
  have hTr : TrX (gapF KS KL) n BB BD BM BL BF BA BK := hd
  have hR : RN NW KS KL KW n := hT.1
  have hRW : RW WD s A := hT.2.1
  have hSP : SimP nx pz HL HS HW HC PS := hT.2.2.1
  have hIm : Img IS IL IW IC IK IT IM := hT.2.2.2
  have hn := hKO.1
  have hk := hKO.2.1
  have hv := hKO.2.2.1
  have hso := hKO.2.2.2
  rcases neg_or x with hx0 | ⟨j, hj, rfl⟩
  · exact pr_ro l D cI cJ cZ x0 w0 d0 k0 kl ks kw b0 bb bd bm bl bf ba bk bg p0 h0 hl1 hs1 hw1 hc1 i0 il1 is1 iw1 ic1 ik it m0 nw ps im mk wd so mb ma mf mw ml mu wt ty hC hd hT (c_X5_told_neg l D cI cJ cZ x0 w0 d0 k0 kl ks kw b0 bb bd bm bl bf ba bk bg p0 h0 hl1 hs1 hw1 hc1 i0 il1 is1 iw1 ic1 ik it A s dA dz KL KS KW n BB BD BM BL BF BA BK BG nx pz HL HS HW HC IL IS IW IC IK IT sd hn hw0 hk hv hso hTr hnx hpz hsd x hx0) (c_X6_told_neg l D cI cJ cZ m0 nw ps im mk wd so mb ma mf mw ml mu wt ty NW PS pz IM IK sd WD s SO q EB EA EF EW EL EU br WT ww TY KS KL KW n A hn hk hw0 hR hRW hso BB BD BM BL BF BA BK hTr hv x hx0)
  · by_cases z0 : 10 < j
    · exact pr_ro l D cI cJ cZ x0 w0 d0 k0 kl ks kw b0 bb bd bm bl bf ba bk bg p0 h0 hl1 hs1 hw1 hc1 i0 il1 is1 iw1 ic1 ik it m0 nw ps im mk wd so mb ma mf mw ml mu wt ty hC hd hT (c_X5_told_big l D cI cJ cZ x0 w0 d0 k0 kl ks kw b0 bb bd bm bl bf ba bk bg p0 h0 hl1 hs1 hw1 hc1 i0 il1 is1 iw1 ic1 ik it A s dA dz KL KS KW n BB BD BM BL BF BA BK BG nx pz HL HS HW HC IL IS IW IC IK IT sd hn hw0 hk hv hso hTr hnx hpz hsd j hj z0) (c_X6_told_big l D cI cJ cZ m0 nw ps im mk wd so mb ma mf mw ml mu wt ty NW PS pz IM IK sd WD s SO q EB EA EF EW EL EU br WT ww TY KS KL KW n A hn hk hw0 hR hRW hso BB BD BM BL BF BA BK hTr hv j hj z0)
    · rcases (by omega : j = 0 ∨ j = 1 ∨ j = 2 ∨ j = 3 ∨ j = 4 ∨ j = 5 ∨ j = 6 ∨ j = 7 ∨ j = 8 ∨ j = 9 ∨ j = 10) with rfl | rfl | rfl | rfl | rfl | rfl | rfl | rfl | rfl | rfl | rfl
      · exact pr_ro l D cI cJ cZ x0 w0 d0 k0 kl ks kw b0 bb bd bm bl bf ba bk bg p0 h0 hl1 hs1 hw1 hc1 i0 il1 is1 iw1 ic1 ik it m0 nw ps im mk wd so mb ma mf mw ml mu wt ty hC hd hT (c_X5_told_0 l D cI cJ cZ x0 w0 d0 k0 kl ks kw b0 bb bd bm bl bf ba bk bg p0 h0 hl1 hs1 hw1 hc1 i0 il1 is1 iw1 ic1 ik it A s dA dz KL KS KW n BB BD BM BL BF BA BK BG nx pz HL HS HW HC IL IS IW IC IK IT sd hn hw0 hk hv hso hTr hnx hpz hsd ) (c_X6_told_0 l D cI cJ cZ m0 nw ps im mk wd so mb ma mf mw ml mu wt ty NW PS pz IM IK sd WD s SO q EB EA EF EW EL EU br WT ww TY KS KL KW n A hn hk hw0 hR hRW hso BB BD BM BL BF BA BK hTr hv )
      · exact pr_ro l D cI cJ cZ x0 w0 d0 k0 kl ks kw b0 bb bd bm bl bf ba bk bg p0 h0 hl1 hs1 hw1 hc1 i0 il1 is1 iw1 ic1 ik it m0 nw ps im mk wd so mb ma mf mw ml mu wt ty hC hd hT (c_X5_told_1 l D cI cJ cZ x0 w0 d0 k0 kl ks kw b0 bb bd bm bl bf ba bk bg p0 h0 hl1 hs1 hw1 hc1 i0 il1 is1 iw1 ic1 ik it A s dA dz KL KS KW n BB BD BM BL BF BA BK BG nx pz HL HS HW HC IL IS IW IC IK IT sd hn hw0 hk hv hso hTr hnx hpz hsd ) (c_X6_told_1 l D cI cJ cZ m0 nw ps im mk wd so mb ma mf mw ml mu wt ty NW PS pz IM IK sd WD s SO q EB EA EF EW EL EU br WT ww TY KS KL KW n A hn hk hw0 hR hRW hso BB BD BM BL BF BA BK hTr hv )
      · exact pr_ro l D cI cJ cZ x0 w0 d0 k0 kl ks kw b0 bb bd bm bl bf ba bk bg p0 h0 hl1 hs1 hw1 hc1 i0 il1 is1 iw1 ic1 ik it m0 nw ps im mk wd so mb ma mf mw ml mu wt ty hC hd hT (c_X5_told_2 l D cI cJ cZ x0 w0 d0 k0 kl ks kw b0 bb bd bm bl bf ba bk bg p0 h0 hl1 hs1 hw1 hc1 i0 il1 is1 iw1 ic1 ik it A s dA dz KL KS KW n BB BD BM BL BF BA BK BG nx pz HL HS HW HC IL IS IW IC IK IT sd hn hw0 hk hv hso hTr hnx hpz hsd ) (c_X6_told_2 l D cI cJ cZ m0 nw ps im mk wd so mb ma mf mw ml mu wt ty NW PS pz IM IK sd WD s SO q EB EA EF EW EL EU br WT ww TY KS KL KW n A hn hk hw0 hR hRW hso BB BD BM BL BF BA BK hTr hv )
      · exact pr_ro l D cI cJ cZ x0 w0 d0 k0 kl ks kw b0 bb bd bm bl bf ba bk bg p0 h0 hl1 hs1 hw1 hc1 i0 il1 is1 iw1 ic1 ik it m0 nw ps im mk wd so mb ma mf mw ml mu wt ty hC hd hT (c_X5_told_3 l D cI cJ cZ x0 w0 d0 k0 kl ks kw b0 bb bd bm bl bf ba bk bg p0 h0 hl1 hs1 hw1 hc1 i0 il1 is1 iw1 ic1 ik it A s dA dz KL KS KW n BB BD BM BL BF BA BK BG nx pz HL HS HW HC IL IS IW IC IK IT sd hn hw0 hk hv hso hTr hnx hpz hsd ) (c_X6_told_3 l D cI cJ cZ m0 nw ps im mk wd so mb ma mf mw ml mu wt ty NW PS pz IM IK sd WD s SO q EB EA EF EW EL EU br WT ww TY KS KL KW n A hn hk hw0 hR hRW hso BB BD BM BL BF BA BK hTr hv )
      · exact pr_ro l D cI cJ cZ x0 w0 d0 k0 kl ks kw b0 bb bd bm bl bf ba bk bg p0 h0 hl1 hs1 hw1 hc1 i0 il1 is1 iw1 ic1 ik it m0 nw ps im mk wd so mb ma mf mw ml mu wt ty hC hd hT (c_X5_told_4 l D cI cJ cZ x0 w0 d0 k0 kl ks kw b0 bb bd bm bl bf ba bk bg p0 h0 hl1 hs1 hw1 hc1 i0 il1 is1 iw1 ic1 ik it A s dA dz KL KS KW n BB BD BM BL BF BA BK BG nx pz HL HS HW HC IL IS IW IC IK IT sd hn hw0 hk hv hso hTr hnx hpz hsd ) (c_X6_told_4 l D cI cJ cZ m0 nw ps im mk wd so mb ma mf mw ml mu wt ty NW PS pz IM IK sd WD s SO q EB EA EF EW EL EU br WT ww TY KS KL KW n A hn hk hw0 hR hRW hso BB BD BM BL BF BA BK hTr hv )
      · exact pr_ro l D cI cJ cZ x0 w0 d0 k0 kl ks kw b0 bb bd bm bl bf ba bk bg p0 h0 hl1 hs1 hw1 hc1 i0 il1 is1 iw1 ic1 ik it m0 nw ps im mk wd so mb ma mf mw ml mu wt ty hC hd hT (c_X5_told_5 l D cI cJ cZ x0 w0 d0 k0 kl ks kw b0 bb bd bm bl bf ba bk bg p0 h0 hl1 hs1 hw1 hc1 i0 il1 is1 iw1 ic1 ik it A s dA dz KL KS KW n BB BD BM BL BF BA BK BG nx pz HL HS HW HC IL IS IW IC IK IT sd hn hw0 hk hv hso hTr hnx hpz hsd ) (c_X6_told_5 l D cI cJ cZ m0 nw ps im mk wd so mb ma mf mw ml mu wt ty NW PS pz IM IK sd WD s SO q EB EA EF EW EL EU br WT ww TY KS KL KW n A hn hk hw0 hR hRW hso BB BD BM BL BF BA BK hTr hv )
      · exact pr_ro l D cI cJ cZ x0 w0 d0 k0 kl ks kw b0 bb bd bm bl bf ba bk bg p0 h0 hl1 hs1 hw1 hc1 i0 il1 is1 iw1 ic1 ik it m0 nw ps im mk wd so mb ma mf mw ml mu wt ty hC hd hT (c_X5_told_6 l D cI cJ cZ x0 w0 d0 k0 kl ks kw b0 bb bd bm bl bf ba bk bg p0 h0 hl1 hs1 hw1 hc1 i0 il1 is1 iw1 ic1 ik it A s dA dz KL KS KW n BB BD BM BL BF BA BK BG nx pz HL HS HW HC IL IS IW IC IK IT sd hn hw0 hk hv hso hTr hnx hpz hsd ) (c_X6_told_6 l D cI cJ cZ m0 nw ps im mk wd so mb ma mf mw ml mu wt ty NW PS pz IM IK sd WD s SO q EB EA EF EW EL EU br WT ww TY KS KL KW n A hn hk hw0 hR hRW hso BB BD BM BL BF BA BK hTr hv )
      · exact pr_ro l D cI cJ cZ x0 w0 d0 k0 kl ks kw b0 bb bd bm bl bf ba bk bg p0 h0 hl1 hs1 hw1 hc1 i0 il1 is1 iw1 ic1 ik it m0 nw ps im mk wd so mb ma mf mw ml mu wt ty hC hd hT (c_X5_told_7 l D cI cJ cZ x0 w0 d0 k0 kl ks kw b0 bb bd bm bl bf ba bk bg p0 h0 hl1 hs1 hw1 hc1 i0 il1 is1 iw1 ic1 ik it A s dA dz KL KS KW n BB BD BM BL BF BA BK BG nx pz HL HS HW HC IL IS IW IC IK IT sd hn hw0 hk hv hso hTr hnx hpz hsd ) (c_X6_told_7 l D cI cJ cZ m0 nw ps im mk wd so mb ma mf mw ml mu wt ty NW PS pz IM IK sd WD s SO q EB EA EF EW EL EU br WT ww TY KS KL KW n A hn hk hw0 hR hRW hso BB BD BM BL BF BA BK hTr hv )
      · exact pr_ro l D cI cJ cZ x0 w0 d0 k0 kl ks kw b0 bb bd bm bl bf ba bk bg p0 h0 hl1 hs1 hw1 hc1 i0 il1 is1 iw1 ic1 ik it m0 nw ps im mk wd so mb ma mf mw ml mu wt ty hC hd hT (c_X5_told_8 l D cI cJ cZ x0 w0 d0 k0 kl ks kw b0 bb bd bm bl bf ba bk bg p0 h0 hl1 hs1 hw1 hc1 i0 il1 is1 iw1 ic1 ik it A s dA dz KL KS KW n BB BD BM BL BF BA BK BG nx pz HL HS HW HC IL IS IW IC IK IT sd hn hw0 hk hv hso hTr hnx hpz hsd ) (c_X6_told_8 l D cI cJ cZ m0 nw ps im mk wd so mb ma mf mw ml mu wt ty NW PS pz IM IK sd WD s SO q EB EA EF EW EL EU br WT ww TY KS KL KW n A hn hk hw0 hR hRW hso BB BD BM BL BF BA BK hTr hv )
      · exact pr_ro l D cI cJ cZ x0 w0 d0 k0 kl ks kw b0 bb bd bm bl bf ba bk bg p0 h0 hl1 hs1 hw1 hc1 i0 il1 is1 iw1 ic1 ik it m0 nw ps im mk wd so mb ma mf mw ml mu wt ty hC hd hT (c_X5_told_9 l D cI cJ cZ x0 w0 d0 k0 kl ks kw b0 bb bd bm bl bf ba bk bg p0 h0 hl1 hs1 hw1 hc1 i0 il1 is1 iw1 ic1 ik it A s dA dz KL KS KW n BB BD BM BL BF BA BK BG nx pz HL HS HW HC IL IS IW IC IK IT sd hn hw0 hk hv hso hTr hnx hpz hsd ) (c_X6_told_9 l D cI cJ cZ m0 nw ps im mk wd so mb ma mf mw ml mu wt ty NW PS pz IM IK sd WD s SO q EB EA EF EW EL EU br WT ww TY KS KL KW n A hn hk hw0 hR hRW hso BB BD BM BL BF BA BK hTr hv )
      · exact pr_ro l D cI cJ cZ x0 w0 d0 k0 kl ks kw b0 bb bd bm bl bf ba bk bg p0 h0 hl1 hs1 hw1 hc1 i0 il1 is1 iw1 ic1 ik it m0 nw ps im mk wd so mb ma mf mw ml mu wt ty hC hd hT (c_X5_told_10 l D cI cJ cZ x0 w0 d0 k0 kl ks kw b0 bb bd bm bl bf ba bk bg p0 h0 hl1 hs1 hw1 hc1 i0 il1 is1 iw1 ic1 ik it A s dA dz KL KS KW n BB BD BM BL BF BA BK BG nx pz HL HS HW HC IL IS IW IC IK IT sd hn hw0 hk hv hso hTr hnx hpz hsd ) (c_X6_told_10 l D cI cJ cZ m0 nw ps im mk wd so mb ma mf mw ml mu wt ty NW PS pz IM IK sd WD s SO q EB EA EF EW EL EU br WT ww TY KS KL KW n A hn hk hw0 hR hRW hso BB BD BM BL BF BA BK hTr hv )
set_option maxHeartbeats 4000000 in
set_option maxRecDepth 100000 in
theorem p_key (l : Launch) (D : va_G) (cI cJ cZ : ClassId) (x0 w0 d0 k0 kl ks kw b0 bb bd bm bl bf ba bk bg p0 h0 hl1 hs1 hw1 hc1 i0 il1 is1 iw1 ic1 ik it m0 nw ps im mk wd so mb ma mf mw ml mu wt ty : Nat) (C : Co) (d : Dt) (T : Ms) (hC : CI C) (hd : OkT C d) (hT : Sim C T) (x y : Int32) : Pr l D cI cJ cZ x0 w0 d0 k0 kl ks kw b0 bb bd bm bl bf ba bk bg p0 h0 hl1 hs1 hw1 hc1 i0 il1 is1 iw1 ic1 ik it m0 nw ps im mk wd so mb ma mf mw ml mu wt ty yX5_key cX5_key 3 (rmN 5 109) yX6_key cX6_key 3 (rmN 5 116) [.int x, .int y] C d T := by
  obtain ⟨A, s, KL, KS, KW, n, nx, pz, HL, HS, HW, HC, IL, IS, IW, IC, IK, IT, sd⟩ := C
  obtain ⟨dA, dz, BB, BD, BM, BL, BF, BA, BK, BG⟩ := d
  obtain ⟨NW, PS, IM, WD, SO, q, EB, EA, EF, EW, EL, EU, br, WT, ww, TY⟩ := T
  have hw0 : Wf s A := hC.1
  have hKO : KOK KS KL KW n := hC.2.1
  have hnx : nx < 20 := hC.2.2.1
  have hpz : pz ≤ 20 := hC.2.2.2.1
  have hsd : sd < 2 ^ 31 := hC.2.2.2.2.1
  have him : ∀ j, j < 2 → (IK j = 0 ∨ IK j = 1) ∧ IT j < 2 ^ 31 := hC.2.2.2.2.2
  have hTr : TrX (gapF KS KL) n BB BD BM BL BF BA BK := hd
  have hR : RN NW KS KL KW n := hT.1
  have hRW : RW WD s A := hT.2.1
  have hSP : SimP nx pz HL HS HW HC PS := hT.2.2.1
  have hIm : Img IS IL IW IC IK IT IM := hT.2.2.2
  have hn := hKO.1
  have hk := hKO.2.1
  have hv := hKO.2.2.1
  have hso := hKO.2.2.2
  rcases neg_or x with hx0 | ⟨j, hj, rfl⟩
  · exact pr_ro l D cI cJ cZ x0 w0 d0 k0 kl ks kw b0 bb bd bm bl bf ba bk bg p0 h0 hl1 hs1 hw1 hc1 i0 il1 is1 iw1 ic1 ik it m0 nw ps im mk wd so mb ma mf mw ml mu wt ty hC hd hT (c_X5_key_kneg l D cI cJ cZ x0 w0 d0 k0 kl ks kw b0 bb bd bm bl bf ba bk bg p0 h0 hl1 hs1 hw1 hc1 i0 il1 is1 iw1 ic1 ik it A s dA dz KL KS KW n BB BD BM BL BF BA BK BG nx pz HL HS HW HC IL IS IW IC IK IT sd hn hw0 hk hv hso hTr hnx hpz hsd x y hx0) (c_X6_key_kneg l D cI cJ cZ m0 nw ps im mk wd so mb ma mf mw ml mu wt ty NW PS pz IM IK sd WD s SO q EB EA EF EW EL EU br WT ww TY KS KL KW n A hn hk hw0 hR hRW hso BB BD BM BL BF BA BK hTr hv x y hx0)
  · by_cases z0 : j < n
    · rcases neg_or y with hy0 | ⟨t, ht, rfl⟩
      · exact pr_ro l D cI cJ cZ x0 w0 d0 k0 kl ks kw b0 bb bd bm bl bf ba bk bg p0 h0 hl1 hs1 hw1 hc1 i0 il1 is1 iw1 ic1 ik it m0 nw ps im mk wd so mb ma mf mw ml mu wt ty hC hd hT (c_X5_key_neg l D cI cJ cZ x0 w0 d0 k0 kl ks kw b0 bb bd bm bl bf ba bk bg p0 h0 hl1 hs1 hw1 hc1 i0 il1 is1 iw1 ic1 ik it A s dA dz KL KS KW n BB BD BM BL BF BA BK BG nx pz HL HS HW HC IL IS IW IC IK IT sd hn hw0 hk hv hso hTr hnx hpz hsd j z0 y hy0) (c_X6_key_neg l D cI cJ cZ m0 nw ps im mk wd so mb ma mf mw ml mu wt ty NW PS pz IM IK sd WD s SO q EB EA EF EW EL EU br WT ww TY KS KL KW n A hn hk hw0 hR hRW hso BB BD BM BL BF BA BK hTr hv j z0 y hy0)
      · by_cases z1 : t < 8
        · by_cases z2 : t < KS j
          · exact pr_ro l D cI cJ cZ x0 w0 d0 k0 kl ks kw b0 bb bd bm bl bf ba bk bg p0 h0 hl1 hs1 hw1 hc1 i0 il1 is1 iw1 ic1 ik it m0 nw ps im mk wd so mb ma mf mw ml mu wt ty hC hd hT (c_X5_key_let l D cI cJ cZ x0 w0 d0 k0 kl ks kw b0 bb bd bm bl bf ba bk bg p0 h0 hl1 hs1 hw1 hc1 i0 il1 is1 iw1 ic1 ik it A s dA dz KL KS KW n BB BD BM BL BF BA BK BG nx pz HL HS HW HC IL IS IW IC IK IT sd hn hw0 hk hv hso hTr hnx hpz hsd j z0 t z1 z2) (c_X6_key_let l D cI cJ cZ m0 nw ps im mk wd so mb ma mf mw ml mu wt ty NW PS pz IM IK sd WD s SO q EB EA EF EW EL EU br WT ww TY KS KL KW n A hn hk hw0 hR hRW hso BB BD BM BL BF BA BK hTr hv j z0 t z1 z2)
          · exact pr_ro l D cI cJ cZ x0 w0 d0 k0 kl ks kw b0 bb bd bm bl bf ba bk bg p0 h0 hl1 hs1 hw1 hc1 i0 il1 is1 iw1 ic1 ik it m0 nw ps im mk wd so mb ma mf mw ml mu wt ty hC hd hT (c_X5_key_nolet l D cI cJ cZ x0 w0 d0 k0 kl ks kw b0 bb bd bm bl bf ba bk bg p0 h0 hl1 hs1 hw1 hc1 i0 il1 is1 iw1 ic1 ik it A s dA dz KL KS KW n BB BD BM BL BF BA BK BG nx pz HL HS HW HC IL IS IW IC IK IT sd hn hw0 hk hv hso hTr hnx hpz hsd j z0 t z1 z2) (c_X6_key_nolet l D cI cJ cZ m0 nw ps im mk wd so mb ma mf mw ml mu wt ty NW PS pz IM IK sd WD s SO q EB EA EF EW EL EU br WT ww TY KS KL KW n A hn hk hw0 hR hRW hso BB BD BM BL BF BA BK hTr hv j z0 t z1 z2)
        · by_cases z3 : 12 < t
          · exact pr_ro l D cI cJ cZ x0 w0 d0 k0 kl ks kw b0 bb bd bm bl bf ba bk bg p0 h0 hl1 hs1 hw1 hc1 i0 il1 is1 iw1 ic1 ik it m0 nw ps im mk wd so mb ma mf mw ml mu wt ty hC hd hT (c_X5_key_big l D cI cJ cZ x0 w0 d0 k0 kl ks kw b0 bb bd bm bl bf ba bk bg p0 h0 hl1 hs1 hw1 hc1 i0 il1 is1 iw1 ic1 ik it A s dA dz KL KS KW n BB BD BM BL BF BA BK BG nx pz HL HS HW HC IL IS IW IC IK IT sd hn hw0 hk hv hso hTr hnx hpz hsd j z0 t ht z3) (c_X6_key_big l D cI cJ cZ m0 nw ps im mk wd so mb ma mf mw ml mu wt ty NW PS pz IM IK sd WD s SO q EB EA EF EW EL EU br WT ww TY KS KL KW n A hn hk hw0 hR hRW hso BB BD BM BL BF BA BK hTr hv j z0 t ht z3)
          · rcases (by omega : t = 8 ∨ t = 9 ∨ t = 10 ∨ t = 11 ∨ t = 12) with rfl | rfl | rfl | rfl | rfl
            · exact pr_ro l D cI cJ cZ x0 w0 d0 k0 kl ks kw b0 bb bd bm bl bf ba bk bg p0 h0 hl1 hs1 hw1 hc1 i0 il1 is1 iw1 ic1 ik it m0 nw ps im mk wd so mb ma mf mw ml mu wt ty hC hd hT (c_X5_key_8 l D cI cJ cZ x0 w0 d0 k0 kl ks kw b0 bb bd bm bl bf ba bk bg p0 h0 hl1 hs1 hw1 hc1 i0 il1 is1 iw1 ic1 ik it A s dA dz KL KS KW n BB BD BM BL BF BA BK BG nx pz HL HS HW HC IL IS IW IC IK IT sd hn hw0 hk hv hso hTr hnx hpz hsd j z0) (c_X6_key_8 l D cI cJ cZ m0 nw ps im mk wd so mb ma mf mw ml mu wt ty NW PS pz IM IK sd WD s SO q EB EA EF EW EL EU br WT ww TY KS KL KW n A hn hk hw0 hR hRW hso BB BD BM BL BF BA BK hTr hv j z0)
            · exact pr_ro l D cI cJ cZ x0 w0 d0 k0 kl ks kw b0 bb bd bm bl bf ba bk bg p0 h0 hl1 hs1 hw1 hc1 i0 il1 is1 iw1 ic1 ik it m0 nw ps im mk wd so mb ma mf mw ml mu wt ty hC hd hT (c_X5_key_9 l D cI cJ cZ x0 w0 d0 k0 kl ks kw b0 bb bd bm bl bf ba bk bg p0 h0 hl1 hs1 hw1 hc1 i0 il1 is1 iw1 ic1 ik it A s dA dz KL KS KW n BB BD BM BL BF BA BK BG nx pz HL HS HW HC IL IS IW IC IK IT sd hn hw0 hk hv hso hTr hnx hpz hsd j z0) (c_X6_key_9 l D cI cJ cZ m0 nw ps im mk wd so mb ma mf mw ml mu wt ty NW PS pz IM IK sd WD s SO q EB EA EF EW EL EU br WT ww TY KS KL KW n A hn hk hw0 hR hRW hso BB BD BM BL BF BA BK hTr hv j z0)
            · exact pr_ro l D cI cJ cZ x0 w0 d0 k0 kl ks kw b0 bb bd bm bl bf ba bk bg p0 h0 hl1 hs1 hw1 hc1 i0 il1 is1 iw1 ic1 ik it m0 nw ps im mk wd so mb ma mf mw ml mu wt ty hC hd hT (c_X5_key_10 l D cI cJ cZ x0 w0 d0 k0 kl ks kw b0 bb bd bm bl bf ba bk bg p0 h0 hl1 hs1 hw1 hc1 i0 il1 is1 iw1 ic1 ik it A s dA dz KL KS KW n BB BD BM BL BF BA BK BG nx pz HL HS HW HC IL IS IW IC IK IT sd hn hw0 hk hv hso hTr hnx hpz hsd j z0) (c_X6_key_10 l D cI cJ cZ m0 nw ps im mk wd so mb ma mf mw ml mu wt ty NW PS pz IM IK sd WD s SO q EB EA EF EW EL EU br WT ww TY KS KL KW n A hn hk hw0 hR hRW hso BB BD BM BL BF BA BK hTr hv j z0)
            · exact pr_ro l D cI cJ cZ x0 w0 d0 k0 kl ks kw b0 bb bd bm bl bf ba bk bg p0 h0 hl1 hs1 hw1 hc1 i0 il1 is1 iw1 ic1 ik it m0 nw ps im mk wd so mb ma mf mw ml mu wt ty hC hd hT (c_X5_key_11 l D cI cJ cZ x0 w0 d0 k0 kl ks kw b0 bb bd bm bl bf ba bk bg p0 h0 hl1 hs1 hw1 hc1 i0 il1 is1 iw1 ic1 ik it A s dA dz KL KS KW n BB BD BM BL BF BA BK BG nx pz HL HS HW HC IL IS IW IC IK IT sd hn hw0 hk hv hso hTr hnx hpz hsd j z0) (c_X6_key_11 l D cI cJ cZ m0 nw ps im mk wd so mb ma mf mw ml mu wt ty NW PS pz IM IK sd WD s SO q EB EA EF EW EL EU br WT ww TY KS KL KW n A hn hk hw0 hR hRW hso BB BD BM BL BF BA BK hTr hv j z0)
            · exact pr_ro l D cI cJ cZ x0 w0 d0 k0 kl ks kw b0 bb bd bm bl bf ba bk bg p0 h0 hl1 hs1 hw1 hc1 i0 il1 is1 iw1 ic1 ik it m0 nw ps im mk wd so mb ma mf mw ml mu wt ty hC hd hT (c_X5_key_12 l D cI cJ cZ x0 w0 d0 k0 kl ks kw b0 bb bd bm bl bf ba bk bg p0 h0 hl1 hs1 hw1 hc1 i0 il1 is1 iw1 ic1 ik it A s dA dz KL KS KW n BB BD BM BL BF BA BK BG nx pz HL HS HW HC IL IS IW IC IK IT sd hn hw0 hk hv hso hTr hnx hpz hsd j z0) (c_X6_key_12 l D cI cJ cZ m0 nw ps im mk wd so mb ma mf mw ml mu wt ty NW PS pz IM IK sd WD s SO q EB EA EF EW EL EU br WT ww TY KS KL KW n A hn hk hw0 hR hRW hso BB BD BM BL BF BA BK hTr hv j z0)
    · exact pr_ro l D cI cJ cZ x0 w0 d0 k0 kl ks kw b0 bb bd bm bl bf ba bk bg p0 h0 hl1 hs1 hw1 hc1 i0 il1 is1 iw1 ic1 ik it m0 nw ps im mk wd so mb ma mf mw ml mu wt ty hC hd hT (c_X5_key_kout l D cI cJ cZ x0 w0 d0 k0 kl ks kw b0 bb bd bm bl bf ba bk bg p0 h0 hl1 hs1 hw1 hc1 i0 il1 is1 iw1 ic1 ik it A s dA dz KL KS KW n BB BD BM BL BF BA BK BG nx pz HL HS HW HC IL IS IW IC IK IT sd hn hw0 hk hv hso hTr hnx hpz hsd j y hj (by omega)) (c_X6_key_kout l D cI cJ cZ m0 nw ps im mk wd so mb ma mf mw ml mu wt ty NW PS pz IM IK sd WD s SO q EB EA EF EW EL EU br WT ww TY KS KL KW n A hn hk hw0 hR hRW hso BB BD BM BL BF BA BK hTr hv j y hj (by omega))
set_option maxHeartbeats 4000000 in
set_option maxRecDepth 100000 in
theorem p_branch (l : Launch) (D : va_G) (cI cJ cZ : ClassId) (x0 w0 d0 k0 kl ks kw b0 bb bd bm bl bf ba bk bg p0 h0 hl1 hs1 hw1 hc1 i0 il1 is1 iw1 ic1 ik it m0 nw ps im mk wd so mb ma mf mw ml mu wt ty : Nat) (C : Co) (d : Dt) (T : Ms) (hC : CI C) (hd : OkT C d) (hT : Sim C T) (x y : Int32) : Pr l D cI cJ cZ x0 w0 d0 k0 kl ks kw b0 bb bd bm bl bf ba bk bg p0 h0 hl1 hs1 hw1 hc1 i0 il1 is1 iw1 ic1 ik it m0 nw ps im mk wd so mb ma mf mw ml mu wt ty yX5_branch cX5_branch 3 (rmN 3 62) yX6_branch cX6_branch 3 (rmN 5 116) [.int x, .int y] C d T := by
  obtain ⟨A, s, KL, KS, KW, n, nx, pz, HL, HS, HW, HC, IL, IS, IW, IC, IK, IT, sd⟩ := C
  obtain ⟨dA, dz, BB, BD, BM, BL, BF, BA, BK, BG⟩ := d
  obtain ⟨NW, PS, IM, WD, SO, q, EB, EA, EF, EW, EL, EU, br, WT, ww, TY⟩ := T
  have hw0 : Wf s A := hC.1
  have hKO : KOK KS KL KW n := hC.2.1
  have hnx : nx < 20 := hC.2.2.1
  have hpz : pz ≤ 20 := hC.2.2.2.1
  have hsd : sd < 2 ^ 31 := hC.2.2.2.2.1
  have him : ∀ j, j < 2 → (IK j = 0 ∨ IK j = 1) ∧ IT j < 2 ^ 31 := hC.2.2.2.2.2
  have hTr : TrX (gapF KS KL) n BB BD BM BL BF BA BK := hd
  have hR : RN NW KS KL KW n := hT.1
  have hRW : RW WD s A := hT.2.1
  have hSP : SimP nx pz HL HS HW HC PS := hT.2.2.1
  have hIm : Img IS IL IW IC IK IT IM := hT.2.2.2
  have hn := hKO.1
  have hk := hKO.2.1
  have hv := hKO.2.2.1
  have hso := hKO.2.2.2
  rcases neg_or x with hx0 | ⟨j, hj, rfl⟩
  · exact pr_ro l D cI cJ cZ x0 w0 d0 k0 kl ks kw b0 bb bd bm bl bf ba bk bg p0 h0 hl1 hs1 hw1 hc1 i0 il1 is1 iw1 ic1 ik it m0 nw ps im mk wd so mb ma mf mw ml mu wt ty hC hd hT (c_X5_branch_bneg l D cI cJ cZ x0 w0 d0 k0 kl ks kw b0 bb bd bm bl bf ba bk bg p0 h0 hl1 hs1 hw1 hc1 i0 il1 is1 iw1 ic1 ik it A s dA dz KL KS KW n BB BD BM BL BF BA BK BG nx pz HL HS HW HC IL IS IW IC IK IT sd hn hw0 hk hv hso hTr hnx hpz hsd x y hx0) (c_X6_branch_bneg l D cI cJ cZ m0 nw ps im mk wd so mb ma mf mw ml mu wt ty NW PS pz IM IK sd WD s SO q EB EA EF EW EL EU br WT ww TY KS KL KW n A hn hk hw0 hR hRW hso BB BD BM BL BF BA BK hTr hv x y hx0)
  · by_cases z0 : j < n - 1
    · rcases neg_or y with hy0 | ⟨t, ht, rfl⟩
      · exact pr_ro l D cI cJ cZ x0 w0 d0 k0 kl ks kw b0 bb bd bm bl bf ba bk bg p0 h0 hl1 hs1 hw1 hc1 i0 il1 is1 iw1 ic1 ik it m0 nw ps im mk wd so mb ma mf mw ml mu wt ty hC hd hT (c_X5_branch_neg l D cI cJ cZ x0 w0 d0 k0 kl ks kw b0 bb bd bm bl bf ba bk bg p0 h0 hl1 hs1 hw1 hc1 i0 il1 is1 iw1 ic1 ik it A s dA dz KL KS KW n BB BD BM BL BF BA BK BG nx pz HL HS HW HC IL IS IW IC IK IT sd hn hw0 hk hv hso hTr hnx hpz hsd j z0 y hy0) (c_X6_branch_neg l D cI cJ cZ m0 nw ps im mk wd so mb ma mf mw ml mu wt ty NW PS pz IM IK sd WD s SO q EB EA EF EW EL EU br WT ww TY KS KL KW n A hn hk hw0 hR hRW hso BB BD BM BL BF BA BK hTr hv j z0 y hy0)
      · by_cases z3 : 5 < t
        · exact pr_ro l D cI cJ cZ x0 w0 d0 k0 kl ks kw b0 bb bd bm bl bf ba bk bg p0 h0 hl1 hs1 hw1 hc1 i0 il1 is1 iw1 ic1 ik it m0 nw ps im mk wd so mb ma mf mw ml mu wt ty hC hd hT (c_X5_branch_big l D cI cJ cZ x0 w0 d0 k0 kl ks kw b0 bb bd bm bl bf ba bk bg p0 h0 hl1 hs1 hw1 hc1 i0 il1 is1 iw1 ic1 ik it A s dA dz KL KS KW n BB BD BM BL BF BA BK BG nx pz HL HS HW HC IL IS IW IC IK IT sd hn hw0 hk hv hso hTr hnx hpz hsd j z0 t ht z3) (c_X6_branch_big l D cI cJ cZ m0 nw ps im mk wd so mb ma mf mw ml mu wt ty NW PS pz IM IK sd WD s SO q EB EA EF EW EL EU br WT ww TY KS KL KW n A hn hk hw0 hR hRW hso BB BD BM BL BF BA BK hTr hv j z0 t ht z3)
        · rcases (by omega : t = 0 ∨ t = 1 ∨ t = 2 ∨ t = 3 ∨ t = 4 ∨ t = 5) with rfl | rfl | rfl | rfl | rfl | rfl
          · exact pr_ro l D cI cJ cZ x0 w0 d0 k0 kl ks kw b0 bb bd bm bl bf ba bk bg p0 h0 hl1 hs1 hw1 hc1 i0 il1 is1 iw1 ic1 ik it m0 nw ps im mk wd so mb ma mf mw ml mu wt ty hC hd hT (c_X5_branch_0 l D cI cJ cZ x0 w0 d0 k0 kl ks kw b0 bb bd bm bl bf ba bk bg p0 h0 hl1 hs1 hw1 hc1 i0 il1 is1 iw1 ic1 ik it A s dA dz KL KS KW n BB BD BM BL BF BA BK BG nx pz HL HS HW HC IL IS IW IC IK IT sd hn hw0 hk hv hso hTr hnx hpz hsd j z0) (c_X6_branch_0 l D cI cJ cZ m0 nw ps im mk wd so mb ma mf mw ml mu wt ty NW PS pz IM IK sd WD s SO q EB EA EF EW EL EU br WT ww TY KS KL KW n A hn hk hw0 hR hRW hso BB BD BM BL BF BA BK hTr hv j z0)
          · exact pr_ro l D cI cJ cZ x0 w0 d0 k0 kl ks kw b0 bb bd bm bl bf ba bk bg p0 h0 hl1 hs1 hw1 hc1 i0 il1 is1 iw1 ic1 ik it m0 nw ps im mk wd so mb ma mf mw ml mu wt ty hC hd hT (c_X5_branch_1 l D cI cJ cZ x0 w0 d0 k0 kl ks kw b0 bb bd bm bl bf ba bk bg p0 h0 hl1 hs1 hw1 hc1 i0 il1 is1 iw1 ic1 ik it A s dA dz KL KS KW n BB BD BM BL BF BA BK BG nx pz HL HS HW HC IL IS IW IC IK IT sd hn hw0 hk hv hso hTr hnx hpz hsd j z0) (c_X6_branch_1 l D cI cJ cZ m0 nw ps im mk wd so mb ma mf mw ml mu wt ty NW PS pz IM IK sd WD s SO q EB EA EF EW EL EU br WT ww TY KS KL KW n A hn hk hw0 hR hRW hso BB BD BM BL BF BA BK hTr hv j z0)
          · exact pr_ro l D cI cJ cZ x0 w0 d0 k0 kl ks kw b0 bb bd bm bl bf ba bk bg p0 h0 hl1 hs1 hw1 hc1 i0 il1 is1 iw1 ic1 ik it m0 nw ps im mk wd so mb ma mf mw ml mu wt ty hC hd hT (c_X5_branch_2 l D cI cJ cZ x0 w0 d0 k0 kl ks kw b0 bb bd bm bl bf ba bk bg p0 h0 hl1 hs1 hw1 hc1 i0 il1 is1 iw1 ic1 ik it A s dA dz KL KS KW n BB BD BM BL BF BA BK BG nx pz HL HS HW HC IL IS IW IC IK IT sd hn hw0 hk hv hso hTr hnx hpz hsd j z0) (c_X6_branch_2 l D cI cJ cZ m0 nw ps im mk wd so mb ma mf mw ml mu wt ty NW PS pz IM IK sd WD s SO q EB EA EF EW EL EU br WT ww TY KS KL KW n A hn hk hw0 hR hRW hso BB BD BM BL BF BA BK hTr hv j z0)
          · exact pr_ro l D cI cJ cZ x0 w0 d0 k0 kl ks kw b0 bb bd bm bl bf ba bk bg p0 h0 hl1 hs1 hw1 hc1 i0 il1 is1 iw1 ic1 ik it m0 nw ps im mk wd so mb ma mf mw ml mu wt ty hC hd hT (c_X5_branch_3 l D cI cJ cZ x0 w0 d0 k0 kl ks kw b0 bb bd bm bl bf ba bk bg p0 h0 hl1 hs1 hw1 hc1 i0 il1 is1 iw1 ic1 ik it A s dA dz KL KS KW n BB BD BM BL BF BA BK BG nx pz HL HS HW HC IL IS IW IC IK IT sd hn hw0 hk hv hso hTr hnx hpz hsd j z0) (c_X6_branch_3 l D cI cJ cZ m0 nw ps im mk wd so mb ma mf mw ml mu wt ty NW PS pz IM IK sd WD s SO q EB EA EF EW EL EU br WT ww TY KS KL KW n A hn hk hw0 hR hRW hso BB BD BM BL BF BA BK hTr hv j z0)
          · exact pr_ro l D cI cJ cZ x0 w0 d0 k0 kl ks kw b0 bb bd bm bl bf ba bk bg p0 h0 hl1 hs1 hw1 hc1 i0 il1 is1 iw1 ic1 ik it m0 nw ps im mk wd so mb ma mf mw ml mu wt ty hC hd hT (c_X5_branch_4 l D cI cJ cZ x0 w0 d0 k0 kl ks kw b0 bb bd bm bl bf ba bk bg p0 h0 hl1 hs1 hw1 hc1 i0 il1 is1 iw1 ic1 ik it A s dA dz KL KS KW n BB BD BM BL BF BA BK BG nx pz HL HS HW HC IL IS IW IC IK IT sd hn hw0 hk hv hso hTr hnx hpz hsd j z0) (c_X6_branch_4 l D cI cJ cZ m0 nw ps im mk wd so mb ma mf mw ml mu wt ty NW PS pz IM IK sd WD s SO q EB EA EF EW EL EU br WT ww TY KS KL KW n A hn hk hw0 hR hRW hso BB BD BM BL BF BA BK hTr hv j z0)
          · exact pr_ro l D cI cJ cZ x0 w0 d0 k0 kl ks kw b0 bb bd bm bl bf ba bk bg p0 h0 hl1 hs1 hw1 hc1 i0 il1 is1 iw1 ic1 ik it m0 nw ps im mk wd so mb ma mf mw ml mu wt ty hC hd hT (c_X5_branch_5 l D cI cJ cZ x0 w0 d0 k0 kl ks kw b0 bb bd bm bl bf ba bk bg p0 h0 hl1 hs1 hw1 hc1 i0 il1 is1 iw1 ic1 ik it A s dA dz KL KS KW n BB BD BM BL BF BA BK BG nx pz HL HS HW HC IL IS IW IC IK IT sd hn hw0 hk hv hso hTr hnx hpz hsd j z0) (c_X6_branch_5 l D cI cJ cZ m0 nw ps im mk wd so mb ma mf mw ml mu wt ty NW PS pz IM IK sd WD s SO q EB EA EF EW EL EU br WT ww TY KS KL KW n A hn hk hw0 hR hRW hso BB BD BM BL BF BA BK hTr hv j z0)
    · exact pr_ro l D cI cJ cZ x0 w0 d0 k0 kl ks kw b0 bb bd bm bl bf ba bk bg p0 h0 hl1 hs1 hw1 hc1 i0 il1 is1 iw1 ic1 ik it m0 nw ps im mk wd so mb ma mf mw ml mu wt ty hC hd hT (c_X5_branch_bout l D cI cJ cZ x0 w0 d0 k0 kl ks kw b0 bb bd bm bl bf ba bk bg p0 h0 hl1 hs1 hw1 hc1 i0 il1 is1 iw1 ic1 ik it A s dA dz KL KS KW n BB BD BM BL BF BA BK BG nx pz HL HS HW HC IL IS IW IC IK IT sd hn hw0 hk hv hso hTr hnx hpz hsd j y hj (by omega)) (c_X6_branch_bout l D cI cJ cZ m0 nw ps im mk wd so mb ma mf mw ml mu wt ty NW PS pz IM IK sd WD s SO q EB EA EF EW EL EU br WT ww TY KS KL KW n A hn hk hw0 hR hRW hso BB BD BM BL BF BA BK hTr hv j y hj (by omega))
set_option maxHeartbeats 4000000 in
set_option maxRecDepth 100000 in
theorem p_put (l : Launch) (D : va_G) (cI cJ cZ : ClassId) (x0 w0 d0 k0 kl ks kw b0 bb bd bm bl bf ba bk bg p0 h0 hl1 hs1 hw1 hc1 i0 il1 is1 iw1 ic1 ik it m0 nw ps im mk wd so mb ma mf mw ml mu wt ty : Nat) (C : Co) (d : Dt) (T : Ms) (hC : CI C) (hd : OkT C d) (hT : Sim C T) (x : Int32) : Pr l D cI cJ cZ x0 w0 d0 k0 kl ks kw b0 bb bd bm bl bf ba bk bg p0 h0 hl1 hs1 hw1 hc1 i0 il1 is1 iw1 ic1 ik it m0 nw ps im mk wd so mb ma mf mw ml mu wt ty yX5_put cX5_put 4 (rmN 5 118) yX6_put cX6_put 4 (rmN 7 156) [.int x] C d T := by
  obtain ⟨A, s, KL, KS, KW, n, nx, pz, HL, HS, HW, HC, IL, IS, IW, IC, IK, IT, sd⟩ := C
  obtain ⟨dA, dz, BB, BD, BM, BL, BF, BA, BK, BG⟩ := d
  obtain ⟨NW, PS, IM, WD, SO, q, EB, EA, EF, EW, EL, EU, br, WT, ww, TY⟩ := T
  have hw0 : Wf s A := hC.1
  have hKO : KOK KS KL KW n := hC.2.1
  have hnx : nx < 20 := hC.2.2.1
  have hpz : pz ≤ 20 := hC.2.2.2.1
  have hsd : sd < 2 ^ 31 := hC.2.2.2.2.1
  have him : ∀ j, j < 2 → (IK j = 0 ∨ IK j = 1) ∧ IT j < 2 ^ 31 := hC.2.2.2.2.2
  have hTr : TrX (gapF KS KL) n BB BD BM BL BF BA BK := hd
  have hR : RN NW KS KL KW n := hT.1
  have hRW : RW WD s A := hT.2.1
  have hSP : SimP nx pz HL HS HW HC PS := hT.2.2.1
  have hIm : Img IS IL IW IC IK IT IM := hT.2.2.2
  have hn := hKO.1
  have hk := hKO.2.1
  have hv := hKO.2.2.1
  have hso := hKO.2.2.2
  rcases neg_or x with hx0 | ⟨j, hj, rfl⟩
  · exact pr_ro l D cI cJ cZ x0 w0 d0 k0 kl ks kw b0 bb bd bm bl bf ba bk bg p0 h0 hl1 hs1 hw1 hc1 i0 il1 is1 iw1 ic1 ik it m0 nw ps im mk wd so mb ma mf mw ml mu wt ty hC hd hT (c_X5_put_neg l D cI cJ cZ x0 w0 d0 k0 kl ks kw b0 bb bd bm bl bf ba bk bg p0 h0 hl1 hs1 hw1 hc1 i0 il1 is1 iw1 ic1 ik it A s dA dz KL KS KW n BB BD BM BL BF BA BK BG nx pz HL HS HW HC IL IS IW IC IK IT sd hn hw0 hk hv hso hTr hnx hpz hsd x hx0) (c_X6_put_neg l D cI cJ cZ m0 nw ps im mk wd so mb ma mf mw ml mu wt ty NW PS pz IM IK sd WD s SO q EB EA EF EW EL EU br WT ww TY KS KL KW n A hn hk hw0 hR hRW hso BB BD BM BL BF BA BK hTr hv x hx0)
  · by_cases z0 : 9999 < j
    · exact pr_ro l D cI cJ cZ x0 w0 d0 k0 kl ks kw b0 bb bd bm bl bf ba bk bg p0 h0 hl1 hs1 hw1 hc1 i0 il1 is1 iw1 ic1 ik it m0 nw ps im mk wd so mb ma mf mw ml mu wt ty hC hd hT (c_X5_put_big l D cI cJ cZ x0 w0 d0 k0 kl ks kw b0 bb bd bm bl bf ba bk bg p0 h0 hl1 hs1 hw1 hc1 i0 il1 is1 iw1 ic1 ik it A s dA dz KL KS KW n BB BD BM BL BF BA BK BG nx pz HL HS HW HC IL IS IW IC IK IT sd hn hw0 hk hv hso hTr hnx hpz hsd j hj z0) (c_X6_put_big l D cI cJ cZ m0 nw ps im mk wd so mb ma mf mw ml mu wt ty NW PS pz IM IK sd WD s SO q EB EA EF EW EL EU br WT ww TY KS KL KW n A hn hk hw0 hR hRW hso BB BD BM BL BF BA BK hTr hv j hj z0)
    · by_cases ha : (plc KS KL n s A < n ∧ unl (KS (plc KS KL n s A)) (KL (plc KS KL n s A)) s A = 72)
      · exact ⟨nI (KW (plc KS KL n s A)), (A, s, KL, KS, up KW (plc KS KL n s A) j, n, (nx + 1) % 20, min 20 (pz + 1), va_cpy KL HL 0 (nx * 24) n, va_cpy KS HS 0 (nx * 24) n, va_cpy KW HW 0 (nx * 24) n, up HC nx n, IL, IS, IW, IC, IK, IT, sd), ⟨hw0, kok_up hKO (by omega), Nat.mod_lt _ (by decide), Nat.min_le_left _ _, hsd, him⟩, fun sz => wr_mono (c_X5_put_at l D cI cJ cZ x0 w0 d0 k0 kl ks kw b0 bb bd bm bl bf ba bk bg p0 h0 hl1 hs1 hw1 hc1 i0 il1 is1 iw1 ic1 ik it A s dA dz KL KS KW n BB BD BM BL BF BA BK BG nx pz HL HS HW HC IL IS IW IC IK IT sd hn hw0 hk hv hso hTr hnx hpz hsd j (by omega) ha sz) (fun v w h => by
    obtain ⟨h1, a1, a2, a3, a4, a5, a6, a7, a8, h2, h3⟩ := h
    exact ⟨h1, (dA, dz, a1, a2, a3, a4, a5, a6, a7, a8), h2, h3⟩), fun sz => wr_mono (c_X6_put_at l D cI cJ cZ m0 nw ps im mk wd so mb ma mf mw ml mu wt ty NW PS pz IM IK sd WD s SO q EB EA EF EW EL EU br WT ww TY KS KL KW n A hn hk hw0 hR hRW hso BB BD BM BL BF BA BK hTr hv hpz j (by omega) ha sz) (fun v w h => by
    obtain ⟨h1, N, Q, h2, h3, h4⟩ := h
    exact ⟨h1, (N, Q, IM, WD, SO, q, EB, EA, EF, EW, EL, EU, br, WT, ww, TY), h2, h3, hRW, note_sim hSP hnx hpz hKO hR h4, hIm⟩)⟩
      · by_cases z1 : n < 24
        · exact ⟨oI 0, (A, s, insF (plc KS KL n s A) A n KL, insF (plc KS KL n s A) s n KS, insF (plc KS KL n s A) j n KW, n + 1, (nx + 1) % 20, min 20 (pz + 1), va_cpy KL HL 0 (nx * 24) n, va_cpy KS HS 0 (nx * 24) n, va_cpy KW HW 0 (nx * 24) n, up HC nx n, IL, IS, IW, IC, IK, IT, sd), ⟨hw0, kok_ins hKO hw0 ha z1 (by omega), Nat.mod_lt _ (by decide), Nat.min_le_left _ _, hsd, him⟩, fun sz => wr_mono (c_X5_put_new l D cI cJ cZ x0 w0 d0 k0 kl ks kw b0 bb bd bm bl bf ba bk bg p0 h0 hl1 hs1 hw1 hc1 i0 il1 is1 iw1 ic1 ik it A s dA dz KL KS KW n BB BD BM BL BF BA BK BG nx pz HL HS HW HC IL IS IW IC IK IT sd hn hw0 hk hv hso hTr hnx hpz hsd j (by omega) ha z1 sz) (fun v w h => by
    obtain ⟨h1, a1, a2, a3, a4, a5, a6, a7, a8, h2, h3⟩ := h
    exact ⟨h1, (dA, dz, a1, a2, a3, a4, a5, a6, a7, a8), h2, h3⟩), fun sz => wr_mono (c_X6_put_new l D cI cJ cZ m0 nw ps im mk wd so mb ma mf mw ml mu wt ty NW PS pz IM IK sd WD s SO q EB EA EF EW EL EU br WT ww TY KS KL KW n A hn hk hw0 hR hRW hso BB BD BM BL BF BA BK hTr hv hpz j (by omega) ha z1 sz) (fun v w h => by
    obtain ⟨h1, N, Q, h2, h3, h4⟩ := h
    exact ⟨h1, (N, Q, IM, WD, SO, q, EB, EA, EF, EW, EL, EU, br, WT, ww, TY), h2, h3, hRW, note_sim hSP hnx hpz hKO hR h4, hIm⟩)⟩
        · exact pr_ro l D cI cJ cZ x0 w0 d0 k0 kl ks kw b0 bb bd bm bl bf ba bk bg p0 h0 hl1 hs1 hw1 hc1 i0 il1 is1 iw1 ic1 ik it m0 nw ps im mk wd so mb ma mf mw ml mu wt ty hC hd hT (c_X5_put_full l D cI cJ cZ x0 w0 d0 k0 kl ks kw b0 bb bd bm bl bf ba bk bg p0 h0 hl1 hs1 hw1 hc1 i0 il1 is1 iw1 ic1 ik it A s dA dz KL KS KW n BB BD BM BL BF BA BK BG nx pz HL HS HW HC IL IS IW IC IK IT sd hn hw0 hk hv hso hTr hnx hpz hsd j (by omega) ha (by omega)) (c_X6_put_full l D cI cJ cZ m0 nw ps im mk wd so mb ma mf mw ml mu wt ty NW PS pz IM IK sd WD s SO q EB EA EF EW EL EU br WT ww TY KS KL KW n A hn hk hw0 hR hRW hso BB BD BM BL BF BA BK hTr hv j (by omega) ha (by omega))
set_option maxHeartbeats 4000000 in
set_option maxRecDepth 100000 in
theorem p_take (l : Launch) (D : va_G) (cI cJ cZ : ClassId) (x0 w0 d0 k0 kl ks kw b0 bb bd bm bl bf ba bk bg p0 h0 hl1 hs1 hw1 hc1 i0 il1 is1 iw1 ic1 ik it m0 nw ps im mk wd so mb ma mf mw ml mu wt ty : Nat) (C : Co) (d : Dt) (T : Ms) (hC : CI C) (hd : OkT C d) (hT : Sim C T) : Pr l D cI cJ cZ x0 w0 d0 k0 kl ks kw b0 bb bd bm bl bf ba bk bg p0 h0 hl1 hs1 hw1 hc1 i0 il1 is1 iw1 ic1 ik it m0 nw ps im mk wd so mb ma mf mw ml mu wt ty yX5_take cX5_take 3 (rmN 5 117) yX6_take cX6_take 3 (rmN 6 133) [] C d T := by
  obtain ⟨A, s, KL, KS, KW, n, nx, pz, HL, HS, HW, HC, IL, IS, IW, IC, IK, IT, sd⟩ := C
  obtain ⟨dA, dz, BB, BD, BM, BL, BF, BA, BK, BG⟩ := d
  obtain ⟨NW, PS, IM, WD, SO, q, EB, EA, EF, EW, EL, EU, br, WT, ww, TY⟩ := T
  have hw0 : Wf s A := hC.1
  have hKO : KOK KS KL KW n := hC.2.1
  have hnx : nx < 20 := hC.2.2.1
  have hpz : pz ≤ 20 := hC.2.2.2.1
  have hsd : sd < 2 ^ 31 := hC.2.2.2.2.1
  have him : ∀ j, j < 2 → (IK j = 0 ∨ IK j = 1) ∧ IT j < 2 ^ 31 := hC.2.2.2.2.2
  have hTr : TrX (gapF KS KL) n BB BD BM BL BF BA BK := hd
  have hR : RN NW KS KL KW n := hT.1
  have hRW : RW WD s A := hT.2.1
  have hSP : SimP nx pz HL HS HW HC PS := hT.2.2.1
  have hIm : Img IS IL IW IC IK IT IM := hT.2.2.2
  have hn := hKO.1
  have hk := hKO.2.1
  have hv := hKO.2.2.1
  have hso := hKO.2.2.2
  by_cases ha : (plc KS KL n s A < n ∧ unl (KS (plc KS KL n s A)) (KL (plc KS KL n s A)) s A = 72)
  · exact ⟨nI (KW (plc KS KL n s A)), (A, s, rmvF (plc KS KL n s A) 1 n KL, rmvF (plc KS KL n s A) 1 n KS, rmvF (plc KS KL n s A) 1 n KW, n - 1, (nx + 1) % 20, min 20 (pz + 1), va_cpy KL HL 0 (nx * 24) n, va_cpy KS HS 0 (nx * 24) n, va_cpy KW HW 0 (nx * 24) n, up HC nx n, IL, IS, IW, IC, IK, IT, sd), ⟨hw0, kok_rmv hKO, Nat.mod_lt _ (by decide), Nat.min_le_left _ _, hsd, him⟩, fun sz => wr_mono (c_X5_take_at l D cI cJ cZ x0 w0 d0 k0 kl ks kw b0 bb bd bm bl bf ba bk bg p0 h0 hl1 hs1 hw1 hc1 i0 il1 is1 iw1 ic1 ik it A s dA dz KL KS KW n BB BD BM BL BF BA BK BG nx pz HL HS HW HC IL IS IW IC IK IT sd hn hw0 hk hv hso hTr hnx hpz hsd ha sz) (fun v w h => by
    obtain ⟨h1, a1, a2, a3, a4, a5, a6, a7, a8, h2, h3⟩ := h
    exact ⟨h1, (dA, dz, a1, a2, a3, a4, a5, a6, a7, a8), h2, h3⟩), fun sz => wr_mono (c_X6_take_at l D cI cJ cZ m0 nw ps im mk wd so mb ma mf mw ml mu wt ty NW PS pz IM IK sd WD s SO q EB EA EF EW EL EU br WT ww TY KS KL KW n A hn hk hw0 hR hRW hso BB BD BM BL BF BA BK hTr hv hpz ha sz) (fun v w h => by
    obtain ⟨h1, N, Q, h2, h3, h4⟩ := h
    exact ⟨h1, (N, Q, IM, WD, SO, q, EB, EA, EF, EW, EL, EU, br, WT, ww, TY), h2, h3, hRW, note_sim hSP hnx hpz hKO hR h4, hIm⟩)⟩
  · exact pr_ro l D cI cJ cZ x0 w0 d0 k0 kl ks kw b0 bb bd bm bl bf ba bk bg p0 h0 hl1 hs1 hw1 hc1 i0 il1 is1 iw1 ic1 ik it m0 nw ps im mk wd so mb ma mf mw ml mu wt ty hC hd hT (c_X5_take_none l D cI cJ cZ x0 w0 d0 k0 kl ks kw b0 bb bd bm bl bf ba bk bg p0 h0 hl1 hs1 hw1 hc1 i0 il1 is1 iw1 ic1 ik it A s dA dz KL KS KW n BB BD BM BL BF BA BK BG nx pz HL HS HW HC IL IS IW IC IK IT sd hn hw0 hk hv hso hTr hnx hpz hsd ha) (c_X6_take_none l D cI cJ cZ m0 nw ps im mk wd so mb ma mf mw ml mu wt ty NW PS pz IM IK sd WD s SO q EB EA EF EW EL EU br WT ww TY KS KL KW n A hn hk hw0 hR hRW hso BB BD BM BL BF BA BK hTr hv ha)
set_option maxHeartbeats 4000000 in
set_option maxRecDepth 100000 in
theorem p_cut (l : Launch) (D : va_G) (cI cJ cZ : ClassId) (x0 w0 d0 k0 kl ks kw b0 bb bd bm bl bf ba bk bg p0 h0 hl1 hs1 hw1 hc1 i0 il1 is1 iw1 ic1 ik it m0 nw ps im mk wd so mb ma mf mw ml mu wt ty : Nat) (C : Co) (d : Dt) (T : Ms) (hC : CI C) (hd : OkT C d) (hT : Sim C T) : Pr l D cI cJ cZ x0 w0 d0 k0 kl ks kw b0 bb bd bm bl bf ba bk bg p0 h0 hl1 hs1 hw1 hc1 i0 il1 is1 iw1 ic1 ik it m0 nw ps im mk wd so mb ma mf mw ml mu wt ty yX5_cut cX5_cut 2 (rmN 5 118) yX6_cut cX6_cut 3 (rmN 3 69) [] C d T := by
  obtain ⟨A, s, KL, KS, KW, n, nx, pz, HL, HS, HW, HC, IL, IS, IW, IC, IK, IT, sd⟩ := C
  obtain ⟨dA, dz, BB, BD, BM, BL, BF, BA, BK, BG⟩ := d
  obtain ⟨NW, PS, IM, WD, SO, q, EB, EA, EF, EW, EL, EU, br, WT, ww, TY⟩ := T
  have hw0 : Wf s A := hC.1
  have hKO : KOK KS KL KW n := hC.2.1
  have hnx : nx < 20 := hC.2.2.1
  have hpz : pz ≤ 20 := hC.2.2.2.1
  have hsd : sd < 2 ^ 31 := hC.2.2.2.2.1
  have him : ∀ j, j < 2 → (IK j = 0 ∨ IK j = 1) ∧ IT j < 2 ^ 31 := hC.2.2.2.2.2
  have hTr : TrX (gapF KS KL) n BB BD BM BL BF BA BK := hd
  have hR : RN NW KS KL KW n := hT.1
  have hRW : RW WD s A := hT.2.1
  have hSP : SimP nx pz HL HS HW HC PS := hT.2.2.1
  have hIm : Img IS IL IW IC IK IT IM := hT.2.2.2
  have hn := hKO.1
  have hk := hKO.2.1
  have hv := hKO.2.2.1
  have hso := hKO.2.2.2
  exact ⟨nI (cbl KS KL n s A), (A, s, rmvF (plc KS KL n s A) (cbl KS KL n s A) n KL, rmvF (plc KS KL n s A) (cbl KS KL n s A) n KS, rmvF (plc KS KL n s A) (cbl KS KL n s A) n KW, n - (cbl KS KL n s A), (nx + 1) % 20, min 20 (pz + 1), va_cpy KL HL 0 (nx * 24) n, va_cpy KS HS 0 (nx * 24) n, va_cpy KW HW 0 (nx * 24) n, up HC nx n, IL, IS, IW, IC, IK, IT, sd), ⟨hw0, kok_rmv hKO, Nat.mod_lt _ (by decide), Nat.min_le_left _ _, hsd, him⟩, fun sz => wr_mono (c_X5_cut l D cI cJ cZ x0 w0 d0 k0 kl ks kw b0 bb bd bm bl bf ba bk bg p0 h0 hl1 hs1 hw1 hc1 i0 il1 is1 iw1 ic1 ik it A s dA dz KL KS KW n BB BD BM BL BF BA BK BG nx pz HL HS HW HC IL IS IW IC IK IT sd hn hw0 hk hv hso hTr hnx hpz hsd  sz) (fun v w h => by
    obtain ⟨h1, a1, a2, a3, a4, a5, a6, a7, a8, h2, h3⟩ := h
    exact ⟨h1, (dA, dz, a1, a2, a3, a4, a5, a6, a7, a8), h2, h3⟩), fun sz => wr_mono (c_X6_cut l D cI cJ cZ m0 nw ps im mk wd so mb ma mf mw ml mu wt ty NW PS pz IM IK sd WD s SO q EB EA EF EW EL EU br WT ww TY KS KL KW n A hn hk hw0 hR hRW hso BB BD BM BL BF BA BK hTr hv hpz sz) (fun v w h => by
    obtain ⟨h1, N, Q, h2, h3, h4⟩ := h
    exact ⟨h1, (N, Q, IM, WD, SO, q, EB, EA, EF, EW, EL, EU, br, WT, ww, TY), h2, h3, hRW, note_sim hSP hnx hpz hKO hR h4, hIm⟩)⟩
set_option maxHeartbeats 4000000 in
set_option maxRecDepth 100000 in
theorem p_raise (l : Launch) (D : va_G) (cI cJ cZ : ClassId) (x0 w0 d0 k0 kl ks kw b0 bb bd bm bl bf ba bk bg p0 h0 hl1 hs1 hw1 hc1 i0 il1 is1 iw1 ic1 ik it m0 nw ps im mk wd so mb ma mf mw ml mu wt ty : Nat) (C : Co) (d : Dt) (T : Ms) (hC : CI C) (hd : OkT C d) (hT : Sim C T) (x : Int32) : Pr l D cI cJ cZ x0 w0 d0 k0 kl ks kw b0 bb bd bm bl bf ba bk bg p0 h0 hl1 hs1 hw1 hc1 i0 il1 is1 iw1 ic1 ik it m0 nw ps im mk wd so mb ma mf mw ml mu wt ty yX5_raise cX5_raise 3 (rmN 5 118) yX6_raise cX6_raise 5 (rmN 2 46) [.int x] C d T := by
  obtain ⟨A, s, KL, KS, KW, n, nx, pz, HL, HS, HW, HC, IL, IS, IW, IC, IK, IT, sd⟩ := C
  obtain ⟨dA, dz, BB, BD, BM, BL, BF, BA, BK, BG⟩ := d
  obtain ⟨NW, PS, IM, WD, SO, q, EB, EA, EF, EW, EL, EU, br, WT, ww, TY⟩ := T
  have hw0 : Wf s A := hC.1
  have hKO : KOK KS KL KW n := hC.2.1
  have hnx : nx < 20 := hC.2.2.1
  have hpz : pz ≤ 20 := hC.2.2.2.1
  have hsd : sd < 2 ^ 31 := hC.2.2.2.2.1
  have him : ∀ j, j < 2 → (IK j = 0 ∨ IK j = 1) ∧ IT j < 2 ^ 31 := hC.2.2.2.2.2
  have hTr : TrX (gapF KS KL) n BB BD BM BL BF BA BK := hd
  have hR : RN NW KS KL KW n := hT.1
  have hRW : RW WD s A := hT.2.1
  have hSP : SimP nx pz HL HS HW HC PS := hT.2.2.1
  have hIm : Img IS IL IW IC IK IT IM := hT.2.2.2
  have hn := hKO.1
  have hk := hKO.2.1
  have hv := hKO.2.2.1
  have hso := hKO.2.2.2
  rcases neg_or x with hx0 | ⟨j, hj, rfl⟩
  · exact pr_ro l D cI cJ cZ x0 w0 d0 k0 kl ks kw b0 bb bd bm bl bf ba bk bg p0 h0 hl1 hs1 hw1 hc1 i0 il1 is1 iw1 ic1 ik it m0 nw ps im mk wd so mb ma mf mw ml mu wt ty hC hd hT (c_X5_raise_neg l D cI cJ cZ x0 w0 d0 k0 kl ks kw b0 bb bd bm bl bf ba bk bg p0 h0 hl1 hs1 hw1 hc1 i0 il1 is1 iw1 ic1 ik it A s dA dz KL KS KW n BB BD BM BL BF BA BK BG nx pz HL HS HW HC IL IS IW IC IK IT sd hn hw0 hk hv hso hTr hnx hpz hsd x hx0) (c_X6_raise_neg l D cI cJ cZ m0 nw ps im mk wd so mb ma mf mw ml mu wt ty NW PS pz IM IK sd WD s SO q EB EA EF EW EL EU br WT ww TY KS KL KW n A hn hk hw0 hR hRW hso BB BD BM BL BF BA BK hTr hv x hx0)
  · by_cases z0 : 9999 < j
    · exact pr_ro l D cI cJ cZ x0 w0 d0 k0 kl ks kw b0 bb bd bm bl bf ba bk bg p0 h0 hl1 hs1 hw1 hc1 i0 il1 is1 iw1 ic1 ik it m0 nw ps im mk wd so mb ma mf mw ml mu wt ty hC hd hT (c_X5_raise_big l D cI cJ cZ x0 w0 d0 k0 kl ks kw b0 bb bd bm bl bf ba bk bg p0 h0 hl1 hs1 hw1 hc1 i0 il1 is1 iw1 ic1 ik it A s dA dz KL KS KW n BB BD BM BL BF BA BK BG nx pz HL HS HW HC IL IS IW IC IK IT sd hn hw0 hk hv hso hTr hnx hpz hsd j hj z0) (c_X6_raise_big l D cI cJ cZ m0 nw ps im mk wd so mb ma mf mw ml mu wt ty NW PS pz IM IK sd WD s SO q EB EA EF EW EL EU br WT ww TY KS KL KW n A hn hk hw0 hR hRW hso BB BD BM BL BF BA BK hTr hv j hj z0)
    · by_cases z1 : 1 ≤ j
      · exact ⟨nI (cbl KS KL n s A), (A, s, KL, KS, adwF (plc KS KL n s A) (cbl KS KL n s A) j KW, n, (nx + 1) % 20, min 20 (pz + 1), va_cpy KL HL 0 (nx * 24) n, va_cpy KS HS 0 (nx * 24) n, va_cpy KW HW 0 (nx * 24) n, up HC nx n, IL, IS, IW, IC, IK, IT, sd), ⟨hw0, kok_adw hKO, Nat.mod_lt _ (by decide), Nat.min_le_left _ _, hsd, him⟩, fun sz => wr_mono (c_X5_raise_ok l D cI cJ cZ x0 w0 d0 k0 kl ks kw b0 bb bd bm bl bf ba bk bg p0 h0 hl1 hs1 hw1 hc1 i0 il1 is1 iw1 ic1 ik it A s dA dz KL KS KW n BB BD BM BL BF BA BK BG nx pz HL HS HW HC IL IS IW IC IK IT sd hn hw0 hk hv hso hTr hnx hpz hsd j z1 (by omega) sz) (fun v w h => by
    exact ⟨h.1, (dA, dz, BB, BD, BM, BL, BF, BA, BK, BG), h.2, hTr⟩), fun sz => wr_mono (c_X6_raise_ok l D cI cJ cZ m0 nw ps im mk wd so mb ma mf mw ml mu wt ty NW PS pz IM IK sd WD s SO q EB EA EF EW EL EU br WT ww TY KS KL KW n A hn hk hw0 hR hRW hso BB BD BM BL BF BA BK hTr hv hpz j z1 (by omega) sz) (fun v w h => by
    obtain ⟨h1, N, Q, h2, h3, h4⟩ := h
    exact ⟨h1, (N, Q, IM, WD, SO, q, EB, EA, EF, EW, EL, EU, br, WT, ww, TY), h2, h3, hRW, note_sim hSP hnx hpz hKO hR h4, hIm⟩)⟩
      · rcases (by omega : j = 0) with rfl
        exact pr_ro l D cI cJ cZ x0 w0 d0 k0 kl ks kw b0 bb bd bm bl bf ba bk bg p0 h0 hl1 hs1 hw1 hc1 i0 il1 is1 iw1 ic1 ik it m0 nw ps im mk wd so mb ma mf mw ml mu wt ty hC hd hT (c_X5_raise_zero l D cI cJ cZ x0 w0 d0 k0 kl ks kw b0 bb bd bm bl bf ba bk bg p0 h0 hl1 hs1 hw1 hc1 i0 il1 is1 iw1 ic1 ik it A s dA dz KL KS KW n BB BD BM BL BF BA BK BG nx pz HL HS HW HC IL IS IW IC IK IT sd hn hw0 hk hv hso hTr hnx hpz hsd ) (c_X6_raise_zero l D cI cJ cZ m0 nw ps im mk wd so mb ma mf mw ml mu wt ty NW PS pz IM IK sd WD s SO q EB EA EF EW EL EU br WT ww TY KS KL KW n A hn hk hw0 hR hRW hso BB BD BM BL BF BA BK hTr hv )
set_option maxHeartbeats 4000000 in
set_option maxRecDepth 100000 in
theorem p_drift (l : Launch) (D : va_G) (cI cJ cZ : ClassId) (x0 w0 d0 k0 kl ks kw b0 bb bd bm bl bf ba bk bg p0 h0 hl1 hs1 hw1 hc1 i0 il1 is1 iw1 ic1 ik it m0 nw ps im mk wd so mb ma mf mw ml mu wt ty : Nat) (C : Co) (d : Dt) (T : Ms) (hC : CI C) (hd : OkT C d) (hT : Sim C T) (x : Int32) : Pr l D cI cJ cZ x0 w0 d0 k0 kl ks kw b0 bb bd bm bl bf ba bk bg p0 h0 hl1 hs1 hw1 hc1 i0 il1 is1 iw1 ic1 ik it m0 nw ps im mk wd so mb ma mf mw ml mu wt ty yX5_drift cX5_drift 3 (rmN 6 140) yX6_drift cX6_drift 4 (rmN 8 179) [.int x] C d T := by
  obtain ⟨A, s, KL, KS, KW, n, nx, pz, HL, HS, HW, HC, IL, IS, IW, IC, IK, IT, sd⟩ := C
  obtain ⟨dA, dz, BB, BD, BM, BL, BF, BA, BK, BG⟩ := d
  obtain ⟨NW, PS, IM, WD, SO, q, EB, EA, EF, EW, EL, EU, br, WT, ww, TY⟩ := T
  have hw0 : Wf s A := hC.1
  have hKO : KOK KS KL KW n := hC.2.1
  have hnx : nx < 20 := hC.2.2.1
  have hpz : pz ≤ 20 := hC.2.2.2.1
  have hsd : sd < 2 ^ 31 := hC.2.2.2.2.1
  have him : ∀ j, j < 2 → (IK j = 0 ∨ IK j = 1) ∧ IT j < 2 ^ 31 := hC.2.2.2.2.2
  have hTr : TrX (gapF KS KL) n BB BD BM BL BF BA BK := hd
  have hR : RN NW KS KL KW n := hT.1
  have hRW : RW WD s A := hT.2.1
  have hSP : SimP nx pz HL HS HW HC PS := hT.2.2.1
  have hIm : Img IS IL IW IC IK IT IM := hT.2.2.2
  have hn := hKO.1
  have hk := hKO.2.1
  have hv := hKO.2.2.1
  have hso := hKO.2.2.2
  rcases neg_or x with hx0 | ⟨j, hj, rfl⟩
  · exact pr_ro l D cI cJ cZ x0 w0 d0 k0 kl ks kw b0 bb bd bm bl bf ba bk bg p0 h0 hl1 hs1 hw1 hc1 i0 il1 is1 iw1 ic1 ik it m0 nw ps im mk wd so mb ma mf mw ml mu wt ty hC hd hT (c_X5_drift_neg l D cI cJ cZ x0 w0 d0 k0 kl ks kw b0 bb bd bm bl bf ba bk bg p0 h0 hl1 hs1 hw1 hc1 i0 il1 is1 iw1 ic1 ik it A s dA dz KL KS KW n BB BD BM BL BF BA BK BG nx pz HL HS HW HC IL IS IW IC IK IT sd hn hw0 hk hv hso hTr hnx hpz hsd x hx0) (c_X6_drift_neg l D cI cJ cZ m0 nw ps im mk wd so mb ma mf mw ml mu wt ty NW PS pz IM IK sd WD s SO q EB EA EF EW EL EU br WT ww TY KS KL KW n A hn hk hw0 hR hRW hso BB BD BM BL BF BA BK hTr hv x hx0)
  · by_cases z0 : 20 < j
    · exact pr_ro l D cI cJ cZ x0 w0 d0 k0 kl ks kw b0 bb bd bm bl bf ba bk bg p0 h0 hl1 hs1 hw1 hc1 i0 il1 is1 iw1 ic1 ik it m0 nw ps im mk wd so mb ma mf mw ml mu wt ty hC hd hT (c_X5_drift_big l D cI cJ cZ x0 w0 d0 k0 kl ks kw b0 bb bd bm bl bf ba bk bg p0 h0 hl1 hs1 hw1 hc1 i0 il1 is1 iw1 ic1 ik it A s dA dz KL KS KW n BB BD BM BL BF BA BK BG nx pz HL HS HW HC IL IS IW IC IK IT sd hn hw0 hk hv hso hTr hnx hpz hsd j hj z0) (c_X6_drift_big l D cI cJ cZ m0 nw ps im mk wd so mb ma mf mw ml mu wt ty NW PS pz IM IK sd WD s SO q EB EA EF EW EL EU br WT ww TY KS KL KW n A hn hk hw0 hR hRW hso BB BD BM BL BF BA BK hTr hv j hj z0)
    · by_cases z1 : 1 ≤ j
      · have hZ : Zok (dit j (KL, KS, KW, n, sd, nx, pz, HL, HS, HW, HC)) := Zok_it ⟨hn, hk, hsd, hnx, hpz⟩ j
        have hZK := kok_it (Z := (KL, KS, KW, n, sd, nx, pz, HL, HS, HW, HC)) hKO j
        exact ⟨nI ((dit j (KL, KS, KW, n, sd, nx, pz, HL, HS, HW, HC)).2.2.2.1), (A, s, (dit j (KL, KS, KW, n, sd, nx, pz, HL, HS, HW, HC)).1, (dit j (KL, KS, KW, n, sd, nx, pz, HL, HS, HW, HC)).2.1, (dit j (KL, KS, KW, n, sd, nx, pz, HL, HS, HW, HC)).2.2.1, (dit j (KL, KS, KW, n, sd, nx, pz, HL, HS, HW, HC)).2.2.2.1, (dit j (KL, KS, KW, n, sd, nx, pz, HL, HS, HW, HC)).2.2.2.2.2.1, (dit j (KL, KS, KW, n, sd, nx, pz, HL, HS, HW, HC)).2.2.2.2.2.2.1, (dit j (KL, KS, KW, n, sd, nx, pz, HL, HS, HW, HC)).2.2.2.2.2.2.2.1, (dit j (KL, KS, KW, n, sd, nx, pz, HL, HS, HW, HC)).2.2.2.2.2.2.2.2.1, (dit j (KL, KS, KW, n, sd, nx, pz, HL, HS, HW, HC)).2.2.2.2.2.2.2.2.2.1, (dit j (KL, KS, KW, n, sd, nx, pz, HL, HS, HW, HC)).2.2.2.2.2.2.2.2.2.2, IL, IS, IW, IC, IK, IT, (dit j (KL, KS, KW, n, sd, nx, pz, HL, HS, HW, HC)).2.2.2.2.1), ⟨hw0, hZK, hZ.2.2.2.1, hZ.2.2.2.2, hZ.2.2.1, him⟩, fun sz => wr_mono (c_X5_drift_ok l D cI cJ cZ x0 w0 d0 k0 kl ks kw b0 bb bd bm bl bf ba bk bg p0 h0 hl1 hs1 hw1 hc1 i0 il1 is1 iw1 ic1 ik it A s dA dz KL KS KW n BB BD BM BL BF BA BK BG nx pz HL HS HW HC IL IS IW IC IK IT sd hn hw0 hk hv hso hTr hnx hpz hsd j z1 (by omega) sz) (fun v w h => by
    obtain ⟨z1, eA, ez, a1, a2, a3, a4, a5, a6, a7, a8, z2, z3⟩ := h
    exact ⟨z1, (eA, ez, a1, a2, a3, a4, a5, a6, a7, a8), z2, z3⟩), fun sz => wr_mono (c_X6_drift_ok l D cI cJ cZ m0 nw ps im mk wd so mb ma mf mw ml mu wt ty NW PS pz IM IK sd WD s SO q EB EA EF EW EL EU br WT ww TY KS KL KW n A hn hk hw0 hR hRW hso BB BD BM BL BF BA BK hTr hv hpz hsd nx hnx HL HS HW HC hSP j z1 (by omega) sz) (fun v w h => by
    obtain ⟨z1, N, Q, WZ, TZ, z2, z3, h4, h5⟩ := h
    exact ⟨z1, (N, Q, IM, WZ, SO, q, EB, EA, EF, EW, EL, EU, br, WT, ww, TZ), z2, z3, h5, h4, hIm⟩)⟩
      · rcases (by omega : j = 0) with rfl
        exact pr_ro l D cI cJ cZ x0 w0 d0 k0 kl ks kw b0 bb bd bm bl bf ba bk bg p0 h0 hl1 hs1 hw1 hc1 i0 il1 is1 iw1 ic1 ik it m0 nw ps im mk wd so mb ma mf mw ml mu wt ty hC hd hT (c_X5_drift_zero l D cI cJ cZ x0 w0 d0 k0 kl ks kw b0 bb bd bm bl bf ba bk bg p0 h0 hl1 hs1 hw1 hc1 i0 il1 is1 iw1 ic1 ik it A s dA dz KL KS KW n BB BD BM BL BF BA BK BG nx pz HL HS HW HC IL IS IW IC IK IT sd hn hw0 hk hv hso hTr hnx hpz hsd ) (c_X6_drift_zero l D cI cJ cZ m0 nw ps im mk wd so mb ma mf mw ml mu wt ty NW PS pz IM IK sd WD s SO q EB EA EF EW EL EU br WT ww TY KS KL KW n A hn hk hw0 hR hRW hso BB BD BM BL BF BA BK hTr hv )
set_option maxHeartbeats 4000000 in
set_option maxRecDepth 100000 in
theorem p_undo (l : Launch) (D : va_G) (cI cJ cZ : ClassId) (x0 w0 d0 k0 kl ks kw b0 bb bd bm bl bf ba bk bg p0 h0 hl1 hs1 hw1 hc1 i0 il1 is1 iw1 ic1 ik it m0 nw ps im mk wd so mb ma mf mw ml mu wt ty : Nat) (C : Co) (d : Dt) (T : Ms) (hC : CI C) (hd : OkT C d) (hT : Sim C T) (x : Int32) : Pr l D cI cJ cZ x0 w0 d0 k0 kl ks kw b0 bb bd bm bl bf ba bk bg p0 h0 hl1 hs1 hw1 hc1 i0 il1 is1 iw1 ic1 ik it m0 nw ps im mk wd so mb ma mf mw ml mu wt ty yX5_undo cX5_undo 2 (rmN 5 108) yX6_undo cX6_undo 2 (rmN 1 25) [.int x] C d T := by
  obtain ⟨A, s, KL, KS, KW, n, nx, pz, HL, HS, HW, HC, IL, IS, IW, IC, IK, IT, sd⟩ := C
  obtain ⟨dA, dz, BB, BD, BM, BL, BF, BA, BK, BG⟩ := d
  obtain ⟨NW, PS, IM, WD, SO, q, EB, EA, EF, EW, EL, EU, br, WT, ww, TY⟩ := T
  have hw0 : Wf s A := hC.1
  have hKO : KOK KS KL KW n := hC.2.1
  have hnx : nx < 20 := hC.2.2.1
  have hpz : pz ≤ 20 := hC.2.2.2.1
  have hsd : sd < 2 ^ 31 := hC.2.2.2.2.1
  have him : ∀ j, j < 2 → (IK j = 0 ∨ IK j = 1) ∧ IT j < 2 ^ 31 := hC.2.2.2.2.2
  have hTr : TrX (gapF KS KL) n BB BD BM BL BF BA BK := hd
  have hR : RN NW KS KL KW n := hT.1
  have hRW : RW WD s A := hT.2.1
  have hSP : SimP nx pz HL HS HW HC PS := hT.2.2.1
  have hIm : Img IS IL IW IC IK IT IM := hT.2.2.2
  have hn := hKO.1
  have hk := hKO.2.1
  have hv := hKO.2.2.1
  have hso := hKO.2.2.2
  rcases neg_or x with hx0 | ⟨j, hj, rfl⟩
  · exact pr_ro l D cI cJ cZ x0 w0 d0 k0 kl ks kw b0 bb bd bm bl bf ba bk bg p0 h0 hl1 hs1 hw1 hc1 i0 il1 is1 iw1 ic1 ik it m0 nw ps im mk wd so mb ma mf mw ml mu wt ty hC hd hT (c_X5_undo_neg l D cI cJ cZ x0 w0 d0 k0 kl ks kw b0 bb bd bm bl bf ba bk bg p0 h0 hl1 hs1 hw1 hc1 i0 il1 is1 iw1 ic1 ik it A s dA dz KL KS KW n BB BD BM BL BF BA BK BG nx pz HL HS HW HC IL IS IW IC IK IT sd hn hw0 hk hv hso hTr hnx hpz hsd x hx0) (c_X6_undo_neg l D cI cJ cZ m0 nw ps im mk wd so mb ma mf mw ml mu wt ty NW PS pz IM IK sd WD s SO q EB EA EF EW EL EU br WT ww TY KS KL KW n A hn hk hw0 hR hRW hso BB BD BM BL BF BA BK hTr hv x hx0)
  · by_cases z0 : 20 < j
    · exact pr_ro l D cI cJ cZ x0 w0 d0 k0 kl ks kw b0 bb bd bm bl bf ba bk bg p0 h0 hl1 hs1 hw1 hc1 i0 il1 is1 iw1 ic1 ik it m0 nw ps im mk wd so mb ma mf mw ml mu wt ty hC hd hT (c_X5_undo_big l D cI cJ cZ x0 w0 d0 k0 kl ks kw b0 bb bd bm bl bf ba bk bg p0 h0 hl1 hs1 hw1 hc1 i0 il1 is1 iw1 ic1 ik it A s dA dz KL KS KW n BB BD BM BL BF BA BK BG nx pz HL HS HW HC IL IS IW IC IK IT sd hn hw0 hk hv hso hTr hnx hpz hsd j hj z0) (c_X6_undo_big l D cI cJ cZ m0 nw ps im mk wd so mb ma mf mw ml mu wt ty NW PS pz IM IK sd WD s SO q EB EA EF EW EL EU br WT ww TY KS KL KW n A hn hk hw0 hR hRW hso BB BD BM BL BF BA BK hTr hv j hj z0)
    · by_cases z1 : 1 ≤ j
      · by_cases z2 : j ≤ pz
        · have hsl : slt nx pz (pz - j) = (nx + 20 - j) % 20 := by unfold slt; congr 1; omega
          have hu1 := hSP (pz - j) (by omega)
          rw [hsl] at hu1
          have ecp : ∀ k, k < HC ((nx + 20 - j) % 20) → HS (((nx + 20 - j) % 20) * 24 + k) = va_cpy HS KS (((nx + 20 - j) % 20) * 24) 0 (HC ((nx + 20 - j) % 20)) k ∧ HL (((nx + 20 - j) % 20) * 24 + k) = va_cpy HL KL (((nx + 20 - j) % 20) * 24) 0 (HC ((nx + 20 - j) % 20)) k ∧ HW (((nx + 20 - j) % 20) * 24 + k) = va_cpy HW KW (((nx + 20 - j) % 20) * 24) 0 (HC ((nx + 20 - j) % 20)) k := fun k hk => ⟨(cpy0 hk).symm, (cpy0 hk).symm, (cpy0 hk).symm⟩
          exact ⟨nI (HC ((nx + 20 - j) % 20)), (A, s, va_cpy HL KL (((nx + 20 - j) % 20) * 24) 0 (HC ((nx + 20 - j) % 20)), va_cpy HS KS (((nx + 20 - j) % 20) * 24) 0 (HC ((nx + 20 - j) % 20)), va_cpy HW KW (((nx + 20 - j) % 20) * 24) 0 (HC ((nx + 20 - j) % 20)), HC ((nx + 20 - j) % 20), (nx + 20 - j) % 20, pz - j, HL, HS, HW, HC, IL, IS, IW, IC, IK, IT, sd), ⟨hw0, kok_congr hu1.1 ecp, Nat.mod_lt _ (by decide), by show pz - j ≤ 20; omega, hsd, him⟩, fun sz => wr_mono (c_X5_undo_ok l D cI cJ cZ x0 w0 d0 k0 kl ks kw b0 bb bd bm bl bf ba bk bg p0 h0 hl1 hs1 hw1 hc1 i0 il1 is1 iw1 ic1 ik it A s dA dz KL KS KW n BB BD BM BL BF BA BK BG nx pz HL HS HW HC IL IS IW IC IK IT sd hn hw0 hk hv hso hTr hnx hpz hsd j z1 (by omega) z2 hu1.1.1 hu1.1.2.1 sz) (fun v w h => by
    obtain ⟨h1, a1, a2, a3, a4, a5, a6, a7, a8, h2, h3⟩ := h
    exact ⟨h1, (dA, dz, a1, a2, a3, a4, a5, a6, a7, a8), h2, h3⟩), fun sz => wr_mono (c_X6_undo_ok l D cI cJ cZ m0 nw ps im mk wd so mb ma mf mw ml mu wt ty NW PS pz IM IK sd WD s SO q EB EA EF EW EL EU br WT ww TY KS KL KW n A hn hk hw0 hR hRW hso BB BD BM BL BF BA BK hTr hv hpz j z1 (by omega) z2 (fun k => HS (((nx + 20 - j) % 20) * 24 + k)) (fun k => HL (((nx + 20 - j) % 20) * 24 + k)) (fun k => HW (((nx + 20 - j) % 20) * 24 + k)) (HC ((nx + 20 - j) % 20)) hu1.1.1 hu1.2 (fun k hk => (hu1.1.2.1 k hk).1) sz) (fun v w h => by
    obtain ⟨z1, N, z2, z3⟩ := h
    exact ⟨z1, (N, PS, IM, WD, SO, q, EB, EA, EF, EW, EL, EU, br, WT, ww, TY), z2, rn_congr z3 ecp, hRW, sim_undo hSP hnx hpz (by omega), hIm⟩)⟩
        · exact pr_ro l D cI cJ cZ x0 w0 d0 k0 kl ks kw b0 bb bd bm bl bf ba bk bg p0 h0 hl1 hs1 hw1 hc1 i0 il1 is1 iw1 ic1 ik it m0 nw ps im mk wd so mb ma mf mw ml mu wt ty hC hd hT (c_X5_undo_many l D cI cJ cZ x0 w0 d0 k0 kl ks kw b0 bb bd bm bl bf ba bk bg p0 h0 hl1 hs1 hw1 hc1 i0 il1 is1 iw1 ic1 ik it A s dA dz KL KS KW n BB BD BM BL BF BA BK BG nx pz HL HS HW HC IL IS IW IC IK IT sd hn hw0 hk hv hso hTr hnx hpz hsd j z1 (by omega) (by omega)) (c_X6_undo_many l D cI cJ cZ m0 nw ps im mk wd so mb ma mf mw ml mu wt ty NW PS pz IM IK sd WD s SO q EB EA EF EW EL EU br WT ww TY KS KL KW n A hn hk hw0 hR hRW hso BB BD BM BL BF BA BK hTr hv j z1 (by omega) (by omega) hpz)
      · rcases (by omega : j = 0) with rfl
        exact pr_ro l D cI cJ cZ x0 w0 d0 k0 kl ks kw b0 bb bd bm bl bf ba bk bg p0 h0 hl1 hs1 hw1 hc1 i0 il1 is1 iw1 ic1 ik it m0 nw ps im mk wd so mb ma mf mw ml mu wt ty hC hd hT (c_X5_undo_zero l D cI cJ cZ x0 w0 d0 k0 kl ks kw b0 bb bd bm bl bf ba bk bg p0 h0 hl1 hs1 hw1 hc1 i0 il1 is1 iw1 ic1 ik it A s dA dz KL KS KW n BB BD BM BL BF BA BK BG nx pz HL HS HW HC IL IS IW IC IK IT sd hn hw0 hk hv hso hTr hnx hpz hsd ) (c_X6_undo_zero l D cI cJ cZ m0 nw ps im mk wd so mb ma mf mw ml mu wt ty NW PS pz IM IK sd WD s SO q EB EA EF EW EL EU br WT ww TY KS KL KW n A hn hk hw0 hR hRW hso BB BD BM BL BF BA BK hTr hv )
set_option maxHeartbeats 4000000 in
set_option maxRecDepth 100000 in
theorem p_keep (l : Launch) (D : va_G) (cI cJ cZ : ClassId) (x0 w0 d0 k0 kl ks kw b0 bb bd bm bl bf ba bk bg p0 h0 hl1 hs1 hw1 hc1 i0 il1 is1 iw1 ic1 ik it m0 nw ps im mk wd so mb ma mf mw ml mu wt ty : Nat) (C : Co) (d : Dt) (T : Ms) (hC : CI C) (hd : OkT C d) (hT : Sim C T) (x : Int32) : Pr l D cI cJ cZ x0 w0 d0 k0 kl ks kw b0 bb bd bm bl bf ba bk bg p0 h0 hl1 hs1 hw1 hc1 i0 il1 is1 iw1 ic1 ik it m0 nw ps im mk wd so mb ma mf mw ml mu wt ty yX5_keep cX5_keep 2 (rmN 2 63) yX6_keep cX6_keep 2 (rmN 1 25) [.int x] C d T := by
  obtain ⟨A, s, KL, KS, KW, n, nx, pz, HL, HS, HW, HC, IL, IS, IW, IC, IK, IT, sd⟩ := C
  obtain ⟨dA, dz, BB, BD, BM, BL, BF, BA, BK, BG⟩ := d
  obtain ⟨NW, PS, IM, WD, SO, q, EB, EA, EF, EW, EL, EU, br, WT, ww, TY⟩ := T
  have hw0 : Wf s A := hC.1
  have hKO : KOK KS KL KW n := hC.2.1
  have hnx : nx < 20 := hC.2.2.1
  have hpz : pz ≤ 20 := hC.2.2.2.1
  have hsd : sd < 2 ^ 31 := hC.2.2.2.2.1
  have him : ∀ j, j < 2 → (IK j = 0 ∨ IK j = 1) ∧ IT j < 2 ^ 31 := hC.2.2.2.2.2
  have hTr : TrX (gapF KS KL) n BB BD BM BL BF BA BK := hd
  have hR : RN NW KS KL KW n := hT.1
  have hRW : RW WD s A := hT.2.1
  have hSP : SimP nx pz HL HS HW HC PS := hT.2.2.1
  have hIm : Img IS IL IW IC IK IT IM := hT.2.2.2
  have hn := hKO.1
  have hk := hKO.2.1
  have hv := hKO.2.2.1
  have hso := hKO.2.2.2
  rcases neg_or x with hx0 | ⟨j, hj, rfl⟩
  · exact pr_ro l D cI cJ cZ x0 w0 d0 k0 kl ks kw b0 bb bd bm bl bf ba bk bg p0 h0 hl1 hs1 hw1 hc1 i0 il1 is1 iw1 ic1 ik it m0 nw ps im mk wd so mb ma mf mw ml mu wt ty hC hd hT (c_X5_keep_neg l D cI cJ cZ x0 w0 d0 k0 kl ks kw b0 bb bd bm bl bf ba bk bg p0 h0 hl1 hs1 hw1 hc1 i0 il1 is1 iw1 ic1 ik it A s dA dz KL KS KW n BB BD BM BL BF BA BK BG nx pz HL HS HW HC IL IS IW IC IK IT sd hn hw0 hk hv hso hTr hnx hpz hsd x hx0) (c_X6_keep_neg l D cI cJ cZ m0 nw ps im mk wd so mb ma mf mw ml mu wt ty NW PS pz IM IK sd WD s SO q EB EA EF EW EL EU br WT ww TY KS KL KW n A hn hk hw0 hR hRW hso BB BD BM BL BF BA BK hTr hv x hx0)
  · by_cases z0 : j < 2
    · exact ⟨nI 1, (A, s, KL, KS, KW, n, nx, 0, HL, HS, HW, HC, va_cpy KL IL 0 (j * 24) n, va_cpy KS IS 0 (j * 24) n, va_cpy KW IW 0 (j * 24) n, up IC j n, up IK j 1, up IT j sd, sd), ⟨hw0, hKO, hnx, Nat.zero_le _, hsd, im_up him hsd⟩, fun sz => wr_mono (c_X5_keep_ok l D cI cJ cZ x0 w0 d0 k0 kl ks kw b0 bb bd bm bl bf ba bk bg p0 h0 hl1 hs1 hw1 hc1 i0 il1 is1 iw1 ic1 ik it A s dA dz KL KS KW n BB BD BM BL BF BA BK BG nx pz HL HS HW HC IL IS IW IC IK IT sd hn hw0 hk hv hso hTr hnx hpz hsd j z0 sz) (fun v w h => by
    exact ⟨h.1, (dA, dz, BB, BD, BM, BL, BF, BA, BK, BG), h.2, hTr⟩), fun sz => wr_mono (c_X6_keep_ok l D cI cJ cZ m0 nw ps im mk wd so mb ma mf mw ml mu wt ty NW PS pz IM IK sd WD s SO q EB EA EF EW EL EU br WT ww TY KS KL KW n A hn hk hw0 hR hRW hso BB BD BM BL BF BA BK hTr hv j z0 sz) (fun v w h => by
    obtain ⟨h1, SO, q, EB, EA, EF, EW, EL, EU, br, WT, ww, h2⟩ := h
    exact ⟨h1, (NW, PS, up (va_cpy NW IM 0 (242 * j) 241) ((242 * j) + 241) sd, WD, SO, q, EB, EA, EF, EW, EL, EU, br, WT, ww, TY), h2, ⟨hR, hRW, fun i hi => absurd hi (Nat.not_lt_zero _), img_keep hIm hKO hR⟩⟩)⟩
    · exact pr_ro l D cI cJ cZ x0 w0 d0 k0 kl ks kw b0 bb bd bm bl bf ba bk bg p0 h0 hl1 hs1 hw1 hc1 i0 il1 is1 iw1 ic1 ik it m0 nw ps im mk wd so mb ma mf mw ml mu wt ty hC hd hT (c_X5_keep_big l D cI cJ cZ x0 w0 d0 k0 kl ks kw b0 bb bd bm bl bf ba bk bg p0 h0 hl1 hs1 hw1 hc1 i0 il1 is1 iw1 ic1 ik it A s dA dz KL KS KW n BB BD BM BL BF BA BK BG nx pz HL HS HW HC IL IS IW IC IK IT sd hn hw0 hk hv hso hTr hnx hpz hsd j hj (by omega)) (c_X6_keep_big l D cI cJ cZ m0 nw ps im mk wd so mb ma mf mw ml mu wt ty NW PS pz IM IK sd WD s SO q EB EA EF EW EL EU br WT ww TY KS KL KW n A hn hk hw0 hR hRW hso BB BD BM BL BF BA BK hTr hv j hj (by omega))
set_option maxHeartbeats 4000000 in
set_option maxRecDepth 100000 in
theorem p_goBack (l : Launch) (D : va_G) (cI cJ cZ : ClassId) (x0 w0 d0 k0 kl ks kw b0 bb bd bm bl bf ba bk bg p0 h0 hl1 hs1 hw1 hc1 i0 il1 is1 iw1 ic1 ik it m0 nw ps im mk wd so mb ma mf mw ml mu wt ty : Nat) (C : Co) (d : Dt) (T : Ms) (hC : CI C) (hd : OkT C d) (hT : Sim C T) (x : Int32) : Pr l D cI cJ cZ x0 w0 d0 k0 kl ks kw b0 bb bd bm bl bf ba bk bg p0 h0 hl1 hs1 hw1 hc1 i0 il1 is1 iw1 ic1 ik it m0 nw ps im mk wd so mb ma mf mw ml mu wt ty yX5_goBack cX5_goBack 2 (rmN 5 108) yX6_goBack cX6_goBack 2 (rmN 1 25) [.int x] C d T := by
  obtain ⟨A, s, KL, KS, KW, n, nx, pz, HL, HS, HW, HC, IL, IS, IW, IC, IK, IT, sd⟩ := C
  obtain ⟨dA, dz, BB, BD, BM, BL, BF, BA, BK, BG⟩ := d
  obtain ⟨NW, PS, IM, WD, SO, q, EB, EA, EF, EW, EL, EU, br, WT, ww, TY⟩ := T
  have hw0 : Wf s A := hC.1
  have hKO : KOK KS KL KW n := hC.2.1
  have hnx : nx < 20 := hC.2.2.1
  have hpz : pz ≤ 20 := hC.2.2.2.1
  have hsd : sd < 2 ^ 31 := hC.2.2.2.2.1
  have him : ∀ j, j < 2 → (IK j = 0 ∨ IK j = 1) ∧ IT j < 2 ^ 31 := hC.2.2.2.2.2
  have hTr : TrX (gapF KS KL) n BB BD BM BL BF BA BK := hd
  have hR : RN NW KS KL KW n := hT.1
  have hRW : RW WD s A := hT.2.1
  have hSP : SimP nx pz HL HS HW HC PS := hT.2.2.1
  have hIm : Img IS IL IW IC IK IT IM := hT.2.2.2
  have hn := hKO.1
  have hk := hKO.2.1
  have hv := hKO.2.2.1
  have hso := hKO.2.2.2
  rcases neg_or x with hx0 | ⟨j, hj, rfl⟩
  · exact pr_ro l D cI cJ cZ x0 w0 d0 k0 kl ks kw b0 bb bd bm bl bf ba bk bg p0 h0 hl1 hs1 hw1 hc1 i0 il1 is1 iw1 ic1 ik it m0 nw ps im mk wd so mb ma mf mw ml mu wt ty hC hd hT (c_X5_goBack_neg l D cI cJ cZ x0 w0 d0 k0 kl ks kw b0 bb bd bm bl bf ba bk bg p0 h0 hl1 hs1 hw1 hc1 i0 il1 is1 iw1 ic1 ik it A s dA dz KL KS KW n BB BD BM BL BF BA BK BG nx pz HL HS HW HC IL IS IW IC IK IT sd hn hw0 hk hv hso hTr hnx hpz hsd x hx0) (c_X6_goBack_neg l D cI cJ cZ m0 nw ps im mk wd so mb ma mf mw ml mu wt ty NW PS pz IM IK sd WD s SO q EB EA EF EW EL EU br WT ww TY KS KL KW n A hn hk hw0 hR hRW hso BB BD BM BL BF BA BK hTr hv x hx0)
  · by_cases z0 : j < 2
    · rcases (him j z0).1 with z1 | z1
      · exact pr_ro l D cI cJ cZ x0 w0 d0 k0 kl ks kw b0 bb bd bm bl bf ba bk bg p0 h0 hl1 hs1 hw1 hc1 i0 il1 is1 iw1 ic1 ik it m0 nw ps im mk wd so mb ma mf mw ml mu wt ty hC hd hT (c_X5_goBack_not l D cI cJ cZ x0 w0 d0 k0 kl ks kw b0 bb bd bm bl bf ba bk bg p0 h0 hl1 hs1 hw1 hc1 i0 il1 is1 iw1 ic1 ik it A s dA dz KL KS KW n BB BD BM BL BF BA BK BG nx pz HL HS HW HC IL IS IW IC IK IT sd hn hw0 hk hv hso hTr hnx hpz hsd j z0 z1) (c_X6_goBack_not l D cI cJ cZ m0 nw ps im mk wd so mb ma mf mw ml mu wt ty NW PS pz IM IK sd WD s SO q EB EA EF EW EL EU br WT ww TY KS KL KW n A hn hk hw0 hR hRW hso BB BD BM BL BF BA BK hTr hv j z0 z1)
      · obtain ⟨g1, g2, g3⟩ := hIm j z0 z1
        have ecp : ∀ k, k < IC j → IS (j * 24 + k) = va_cpy IS KS (j * 24) 0 (IC j) k ∧ IL (j * 24 + k) = va_cpy IL KL (j * 24) 0 (IC j) k ∧ IW (j * 24 + k) = va_cpy IW KW (j * 24) 0 (IC j) k := fun k hk => ⟨(cpy0 hk).symm, (cpy0 hk).symm, (cpy0 hk).symm⟩
        exact ⟨nI 1, (A, s, va_cpy IL KL (j * 24) 0 (IC j), va_cpy IS KS (j * 24) 0 (IC j), va_cpy IW KW (j * 24) 0 (IC j), IC j, nx, 0, HL, HS, HW, HC, IL, IS, IW, IC, IK, IT, IT j), ⟨hw0, kok_congr g1 ecp, hnx, Nat.zero_le _, (him j z0).2, him⟩, fun sz => wr_mono (c_X5_goBack_ok l D cI cJ cZ x0 w0 d0 k0 kl ks kw b0 bb bd bm bl bf ba bk bg p0 h0 hl1 hs1 hw1 hc1 i0 il1 is1 iw1 ic1 ik it A s dA dz KL KS KW n BB BD BM BL BF BA BK BG nx pz HL HS HW HC IL IS IW IC IK IT sd hn hw0 hk hv hso hTr hnx hpz hsd j z0 z1 g1.1 g1.2.1 sz) (fun v w h => by
    obtain ⟨h1, a1, a2, a3, a4, a5, a6, a7, a8, h2, h3⟩ := h
    exact ⟨h1, (dA, dz, a1, a2, a3, a4, a5, a6, a7, a8), h2, h3⟩), fun sz => wr_mono (c_X6_goBack_ok l D cI cJ cZ m0 nw ps im mk wd so mb ma mf mw ml mu wt ty NW PS pz IM IK sd WD s SO q EB EA EF EW EL EU br WT ww TY KS KL KW n A hn hk hw0 hR hRW hso BB BD BM BL BF BA BK hTr hv j z0 z1 (fun k => IS (j * 24 + k)) (fun k => IL (j * 24 + k)) (fun k => IW (j * 24 + k)) (IC j) g1.1 g2 (fun k hk => (g1.2.1 k hk).1) sz) (fun v w h => by
    obtain ⟨z1, N, z2, z3⟩ := h
    rw [g3] at z2
    exact ⟨z1, (N, PS, IM, WD, SO, q, EB, EA, EF, EW, EL, EU, br, WT, ww, TY), z2, rn_congr z3 ecp, hRW, fun i hi => absurd hi (Nat.not_lt_zero _), hIm⟩)⟩
    · exact pr_ro l D cI cJ cZ x0 w0 d0 k0 kl ks kw b0 bb bd bm bl bf ba bk bg p0 h0 hl1 hs1 hw1 hc1 i0 il1 is1 iw1 ic1 ik it m0 nw ps im mk wd so mb ma mf mw ml mu wt ty hC hd hT (c_X5_goBack_big l D cI cJ cZ x0 w0 d0 k0 kl ks kw b0 bb bd bm bl bf ba bk bg p0 h0 hl1 hs1 hw1 hc1 i0 il1 is1 iw1 ic1 ik it A s dA dz KL KS KW n BB BD BM BL BF BA BK BG nx pz HL HS HW HC IL IS IW IC IK IT sd hn hw0 hk hv hso hTr hnx hpz hsd j hj (by omega)) (c_X6_goBack_big l D cI cJ cZ m0 nw ps im mk wd so mb ma mf mw ml mu wt ty NW PS pz IM IK sd WD s SO q EB EA EF EW EL EU br WT ww TY KS KL KW n A hn hk hw0 hR hRW hso BB BD BM BL BF BA BK hTr hv j hj (by omega))
set_option maxHeartbeats 4000000 in
set_option maxRecDepth 100000 in
theorem p_below (l : Launch) (D : va_G) (cI cJ cZ : ClassId) (x0 w0 d0 k0 kl ks kw b0 bb bd bm bl bf ba bk bg p0 h0 hl1 hs1 hw1 hc1 i0 il1 is1 iw1 ic1 ik it m0 nw ps im mk wd so mb ma mf mw ml mu wt ty : Nat) (C : Co) (d : Dt) (T : Ms) (hC : CI C) (hd : OkT C d) (hT : Sim C T) (x : Int32) : Pr l D cI cJ cZ x0 w0 d0 k0 kl ks kw b0 bb bd bm bl bf ba bk bg p0 h0 hl1 hs1 hw1 hc1 i0 il1 is1 iw1 ic1 ik it m0 nw ps im mk wd so mb ma mf mw ml mu wt ty yX5_below cX5_below 4 (rmN 5 118) yX6_below cX6_below 7 (rmN 2 46) [.int x] C d T := by
  obtain ⟨A, s, KL, KS, KW, n, nx, pz, HL, HS, HW, HC, IL, IS, IW, IC, IK, IT, sd⟩ := C
  obtain ⟨dA, dz, BB, BD, BM, BL, BF, BA, BK, BG⟩ := d
  obtain ⟨NW, PS, IM, WD, SO, q, EB, EA, EF, EW, EL, EU, br, WT, ww, TY⟩ := T
  have hw0 : Wf s A := hC.1
  have hKO : KOK KS KL KW n := hC.2.1
  have hnx : nx < 20 := hC.2.2.1
  have hpz : pz ≤ 20 := hC.2.2.2.1
  have hsd : sd < 2 ^ 31 := hC.2.2.2.2.1
  have him : ∀ j, j < 2 → (IK j = 0 ∨ IK j = 1) ∧ IT j < 2 ^ 31 := hC.2.2.2.2.2
  have hTr : TrX (gapF KS KL) n BB BD BM BL BF BA BK := hd
  have hR : RN NW KS KL KW n := hT.1
  have hRW : RW WD s A := hT.2.1
  have hSP : SimP nx pz HL HS HW HC PS := hT.2.2.1
  have hIm : Img IS IL IW IC IK IT IM := hT.2.2.2
  have hn := hKO.1
  have hk := hKO.2.1
  have hv := hKO.2.2.1
  have hso := hKO.2.2.2
  rcases neg_or x with hx0 | ⟨j, hj, rfl⟩
  · exact pr_ro l D cI cJ cZ x0 w0 d0 k0 kl ks kw b0 bb bd bm bl bf ba bk bg p0 h0 hl1 hs1 hw1 hc1 i0 il1 is1 iw1 ic1 ik it m0 nw ps im mk wd so mb ma mf mw ml mu wt ty hC hd hT (c_X5_below_neg l D cI cJ cZ x0 w0 d0 k0 kl ks kw b0 bb bd bm bl bf ba bk bg p0 h0 hl1 hs1 hw1 hc1 i0 il1 is1 iw1 ic1 ik it A s dA dz KL KS KW n BB BD BM BL BF BA BK BG nx pz HL HS HW HC IL IS IW IC IK IT sd hn hw0 hk hv hso hTr hnx hpz hsd x hx0) (c_X6_below_neg l D cI cJ cZ m0 nw ps im mk wd so mb ma mf mw ml mu wt ty NW PS pz IM IK sd WD s SO q EB EA EF EW EL EU br WT ww TY KS KL KW n A hn hk hw0 hR hRW hso BB BD BM BL BF BA BK hTr hv x hx0)
  · by_cases z0 : 3 < j
    · exact pr_ro l D cI cJ cZ x0 w0 d0 k0 kl ks kw b0 bb bd bm bl bf ba bk bg p0 h0 hl1 hs1 hw1 hc1 i0 il1 is1 iw1 ic1 ik it m0 nw ps im mk wd so mb ma mf mw ml mu wt ty hC hd hT (c_X5_below_big l D cI cJ cZ x0 w0 d0 k0 kl ks kw b0 bb bd bm bl bf ba bk bg p0 h0 hl1 hs1 hw1 hc1 i0 il1 is1 iw1 ic1 ik it A s dA dz KL KS KW n BB BD BM BL BF BA BK BG nx pz HL HS HW HC IL IS IW IC IK IT sd hn hw0 hk hv hso hTr hnx hpz hsd j hj z0) (c_X6_below_big l D cI cJ cZ m0 nw ps im mk wd so mb ma mf mw ml mu wt ty NW PS pz IM IK sd WD s SO q EB EA EF EW EL EU br WT ww TY KS KL KW n A hn hk hw0 hR hRW hso BB BD BM BL BF BA BK hTr hv j hj z0)
    · rcases (by omega : j = 0 ∨ j = 1 ∨ j = 2 ∨ j = 3) with rfl | rfl | rfl | rfl
      · exact pr_ro l D cI cJ cZ x0 w0 d0 k0 kl ks kw b0 bb bd bm bl bf ba bk bg p0 h0 hl1 hs1 hw1 hc1 i0 il1 is1 iw1 ic1 ik it m0 nw ps im mk wd so mb ma mf mw ml mu wt ty hC hd hT (c_X5_below_0 l D cI cJ cZ x0 w0 d0 k0 kl ks kw b0 bb bd bm bl bf ba bk bg p0 h0 hl1 hs1 hw1 hc1 i0 il1 is1 iw1 ic1 ik it A s dA dz KL KS KW n BB BD BM BL BF BA BK BG nx pz HL HS HW HC IL IS IW IC IK IT sd hn hw0 hk hv hso hTr hnx hpz hsd ) (c_X6_below_0 l D cI cJ cZ m0 nw ps im mk wd so mb ma mf mw ml mu wt ty NW PS pz IM IK sd WD s SO q EB EA EF EW EL EU br WT ww TY KS KL KW n A hn hk hw0 hR hRW hso BB BD BM BL BF BA BK hTr hv )
      · rcases Nat.eq_zero_or_pos (cbl KS KL n s A) with hc | hc
        · exact pr_ro l D cI cJ cZ x0 w0 d0 k0 kl ks kw b0 bb bd bm bl bf ba bk bg p0 h0 hl1 hs1 hw1 hc1 i0 il1 is1 iw1 ic1 ik it m0 nw ps im mk wd so mb ma mf mw ml mu wt ty hC hd hT (c_X5_below_1n l D cI cJ cZ x0 w0 d0 k0 kl ks kw b0 bb bd bm bl bf ba bk bg p0 h0 hl1 hs1 hw1 hc1 i0 il1 is1 iw1 ic1 ik it A s dA dz KL KS KW n BB BD BM BL BF BA BK BG nx pz HL HS HW HC IL IS IW IC IK IT sd hn hw0 hk hv hso hTr hnx hpz hsd hc) (c_X6_below_1n l D cI cJ cZ m0 nw ps im mk wd so mb ma mf mw ml mu wt ty NW PS pz IM IK sd WD s SO q EB EA EF EW EL EU br WT ww TY KS KL KW n A hn hk hw0 hR hRW hso BB BD BM BL BF BA BK hTr hv hc)
        · exact pr_ro l D cI cJ cZ x0 w0 d0 k0 kl ks kw b0 bb bd bm bl bf ba bk bg p0 h0 hl1 hs1 hw1 hc1 i0 il1 is1 iw1 ic1 ik it m0 nw ps im mk wd so mb ma mf mw ml mu wt ty hC hd hT (c_X5_below_1y l D cI cJ cZ x0 w0 d0 k0 kl ks kw b0 bb bd bm bl bf ba bk bg p0 h0 hl1 hs1 hw1 hc1 i0 il1 is1 iw1 ic1 ik it A s dA dz KL KS KW n BB BD BM BL BF BA BK BG nx pz HL HS HW HC IL IS IW IC IK IT sd hn hw0 hk hv hso hTr hnx hpz hsd hc) (c_X6_below_1y l D cI cJ cZ m0 nw ps im mk wd so mb ma mf mw ml mu wt ty NW PS pz IM IK sd WD s SO q EB EA EF EW EL EU br WT ww TY KS KL KW n A hn hk hw0 hR hRW hso BB BD BM BL BF BA BK hTr hv hc)
      · exact pr_ro l D cI cJ cZ x0 w0 d0 k0 kl ks kw b0 bb bd bm bl bf ba bk bg p0 h0 hl1 hs1 hw1 hc1 i0 il1 is1 iw1 ic1 ik it m0 nw ps im mk wd so mb ma mf mw ml mu wt ty hC hd hT (c_X5_below_2 l D cI cJ cZ x0 w0 d0 k0 kl ks kw b0 bb bd bm bl bf ba bk bg p0 h0 hl1 hs1 hw1 hc1 i0 il1 is1 iw1 ic1 ik it A s dA dz KL KS KW n BB BD BM BL BF BA BK BG nx pz HL HS HW HC IL IS IW IC IK IT sd hn hw0 hk hv hso hTr hnx hpz hsd ) (c_X6_below_2 l D cI cJ cZ m0 nw ps im mk wd so mb ma mf mw ml mu wt ty NW PS pz IM IK sd WD s SO q EB EA EF EW EL EU br WT ww TY KS KL KW n A hn hk hw0 hR hRW hso BB BD BM BL BF BA BK hTr hv )
      · exact pr_ro l D cI cJ cZ x0 w0 d0 k0 kl ks kw b0 bb bd bm bl bf ba bk bg p0 h0 hl1 hs1 hw1 hc1 i0 il1 is1 iw1 ic1 ik it m0 nw ps im mk wd so mb ma mf mw ml mu wt ty hC hd hT (c_X5_below_3 l D cI cJ cZ x0 w0 d0 k0 kl ks kw b0 bb bd bm bl bf ba bk bg p0 h0 hl1 hs1 hw1 hc1 i0 il1 is1 iw1 ic1 ik it A s dA dz KL KS KW n BB BD BM BL BF BA BK BG nx pz HL HS HW HC IL IS IW IC IK IT sd hn hw0 hk hv hso hTr hnx hpz hsd ) (c_X6_below_3 l D cI cJ cZ m0 nw ps im mk wd so mb ma mf mw ml mu wt ty NW PS pz IM IK sd WD s SO q EB EA EF EW EL EU br WT ww TY KS KL KW n A hn hk hw0 hR hRW hso BB BD BM BL BF BA BK hTr hv )
set_option maxHeartbeats 4000000 in
set_option maxRecDepth 100000 in
theorem p_stem (l : Launch) (D : va_G) (cI cJ cZ : ClassId) (x0 w0 d0 k0 kl ks kw b0 bb bd bm bl bf ba bk bg p0 h0 hl1 hs1 hw1 hc1 i0 il1 is1 iw1 ic1 ik it m0 nw ps im mk wd so mb ma mf mw ml mu wt ty : Nat) (C : Co) (d : Dt) (T : Ms) (hC : CI C) (hd : OkT C d) (hT : Sim C T) : Pr l D cI cJ cZ x0 w0 d0 k0 kl ks kw b0 bb bd bm bl bf ba bk bg p0 h0 hl1 hs1 hw1 hc1 i0 il1 is1 iw1 ic1 ik it m0 nw ps im mk wd so mb ma mf mw ml mu wt ty yX5_stem cX5_stem 1 (rmN 4 96) yX6_stem cX6_stem 3 (rmN 2 46) [] C d T := by
  obtain ⟨A, s, KL, KS, KW, n, nx, pz, HL, HS, HW, HC, IL, IS, IW, IC, IK, IT, sd⟩ := C
  obtain ⟨dA, dz, BB, BD, BM, BL, BF, BA, BK, BG⟩ := d
  obtain ⟨NW, PS, IM, WD, SO, q, EB, EA, EF, EW, EL, EU, br, WT, ww, TY⟩ := T
  have hw0 : Wf s A := hC.1
  have hKO : KOK KS KL KW n := hC.2.1
  have hnx : nx < 20 := hC.2.2.1
  have hpz : pz ≤ 20 := hC.2.2.2.1
  have hsd : sd < 2 ^ 31 := hC.2.2.2.2.1
  have him : ∀ j, j < 2 → (IK j = 0 ∨ IK j = 1) ∧ IT j < 2 ^ 31 := hC.2.2.2.2.2
  have hTr : TrX (gapF KS KL) n BB BD BM BL BF BA BK := hd
  have hR : RN NW KS KL KW n := hT.1
  have hRW : RW WD s A := hT.2.1
  have hSP : SimP nx pz HL HS HW HC PS := hT.2.2.1
  have hIm : Img IS IL IW IC IK IT IM := hT.2.2.2
  have hn := hKO.1
  have hk := hKO.2.1
  have hv := hKO.2.2.1
  have hso := hKO.2.2.2
  exact pr_ro l D cI cJ cZ x0 w0 d0 k0 kl ks kw b0 bb bd bm bl bf ba bk bg p0 h0 hl1 hs1 hw1 hc1 i0 il1 is1 iw1 ic1 ik it m0 nw ps im mk wd so mb ma mf mw ml mu wt ty hC hd hT (c_X5_stem l D cI cJ cZ x0 w0 d0 k0 kl ks kw b0 bb bd bm bl bf ba bk bg p0 h0 hl1 hs1 hw1 hc1 i0 il1 is1 iw1 ic1 ik it A s dA dz KL KS KW n BB BD BM BL BF BA BK BG nx pz HL HS HW HC IL IS IW IC IK IT sd hn hw0 hk hv hso hTr hnx hpz hsd ) (c_X6_stem l D cI cJ cZ m0 nw ps im mk wd so mb ma mf mw ml mu wt ty NW PS pz IM IK sd WD s SO q EB EA EF EW EL EU br WT ww TY KS KL KW n A hn hk hw0 hR hRW hso BB BD BM BL BF BA BK hTr hv )
set_option maxHeartbeats 4000000 in
set_option maxRecDepth 100000 in
theorem p_beside (l : Launch) (D : va_G) (cI cJ cZ : ClassId) (x0 w0 d0 k0 kl ks kw b0 bb bd bm bl bf ba bk bg p0 h0 hl1 hs1 hw1 hc1 i0 il1 is1 iw1 ic1 ik it m0 nw ps im mk wd so mb ma mf mw ml mu wt ty : Nat) (C : Co) (d : Dt) (T : Ms) (hC : CI C) (hd : OkT C d) (hT : Sim C T) (x : Int32) : Pr l D cI cJ cZ x0 w0 d0 k0 kl ks kw b0 bb bd bm bl bf ba bk bg p0 h0 hl1 hs1 hw1 hc1 i0 il1 is1 iw1 ic1 ik it m0 nw ps im mk wd so mb ma mf mw ml mu wt ty yX5_beside cX5_beside 3 (rmN 5 117) yX6_beside cX6_beside 4 (rmN 6 133) [.int x] C d T := by
  obtain ⟨A, s, KL, KS, KW, n, nx, pz, HL, HS, HW, HC, IL, IS, IW, IC, IK, IT, sd⟩ := C
  obtain ⟨dA, dz, BB, BD, BM, BL, BF, BA, BK, BG⟩ := d
  obtain ⟨NW, PS, IM, WD, SO, q, EB, EA, EF, EW, EL, EU, br, WT, ww, TY⟩ := T
  have hw0 : Wf s A := hC.1
  have hKO : KOK KS KL KW n := hC.2.1
  have hnx : nx < 20 := hC.2.2.1
  have hpz : pz ≤ 20 := hC.2.2.2.1
  have hsd : sd < 2 ^ 31 := hC.2.2.2.2.1
  have him : ∀ j, j < 2 → (IK j = 0 ∨ IK j = 1) ∧ IT j < 2 ^ 31 := hC.2.2.2.2.2
  have hTr : TrX (gapF KS KL) n BB BD BM BL BF BA BK := hd
  have hR : RN NW KS KL KW n := hT.1
  have hRW : RW WD s A := hT.2.1
  have hSP : SimP nx pz HL HS HW HC PS := hT.2.2.1
  have hIm : Img IS IL IW IC IK IT IM := hT.2.2.2
  have hn := hKO.1
  have hk := hKO.2.1
  have hv := hKO.2.2.1
  have hso := hKO.2.2.2
  rcases neg_or x with hx0 | ⟨j, hj, rfl⟩
  · exact pr_ro l D cI cJ cZ x0 w0 d0 k0 kl ks kw b0 bb bd bm bl bf ba bk bg p0 h0 hl1 hs1 hw1 hc1 i0 il1 is1 iw1 ic1 ik it m0 nw ps im mk wd so mb ma mf mw ml mu wt ty hC hd hT (c_X5_beside_neg l D cI cJ cZ x0 w0 d0 k0 kl ks kw b0 bb bd bm bl bf ba bk bg p0 h0 hl1 hs1 hw1 hc1 i0 il1 is1 iw1 ic1 ik it A s dA dz KL KS KW n BB BD BM BL BF BA BK BG nx pz HL HS HW HC IL IS IW IC IK IT sd hn hw0 hk hv hso hTr hnx hpz hsd x hx0) (c_X6_beside_neg l D cI cJ cZ m0 nw ps im mk wd so mb ma mf mw ml mu wt ty NW PS pz IM IK sd WD s SO q EB EA EF EW EL EU br WT ww TY KS KL KW n A hn hk hw0 hR hRW hso BB BD BM BL BF BA BK hTr hv x hx0)
  · by_cases z0 : 1 < j
    · exact pr_ro l D cI cJ cZ x0 w0 d0 k0 kl ks kw b0 bb bd bm bl bf ba bk bg p0 h0 hl1 hs1 hw1 hc1 i0 il1 is1 iw1 ic1 ik it m0 nw ps im mk wd so mb ma mf mw ml mu wt ty hC hd hT (c_X5_beside_big l D cI cJ cZ x0 w0 d0 k0 kl ks kw b0 bb bd bm bl bf ba bk bg p0 h0 hl1 hs1 hw1 hc1 i0 il1 is1 iw1 ic1 ik it A s dA dz KL KS KW n BB BD BM BL BF BA BK BG nx pz HL HS HW HC IL IS IW IC IK IT sd hn hw0 hk hv hso hTr hnx hpz hsd j hj z0) (c_X6_beside_big l D cI cJ cZ m0 nw ps im mk wd so mb ma mf mw ml mu wt ty NW PS pz IM IK sd WD s SO q EB EA EF EW EL EU br WT ww TY KS KL KW n A hn hk hw0 hR hRW hso BB BD BM BL BF BA BK hTr hv j hj z0)
    · rcases (by omega : j = 0 ∨ j = 1) with rfl | rfl
      · rcases Nat.eq_zero_or_pos (plc KS KL n s A) with hc | hc
        · exact pr_ro l D cI cJ cZ x0 w0 d0 k0 kl ks kw b0 bb bd bm bl bf ba bk bg p0 h0 hl1 hs1 hw1 hc1 i0 il1 is1 iw1 ic1 ik it m0 nw ps im mk wd so mb ma mf mw ml mu wt ty hC hd hT (c_X5_beside_0z l D cI cJ cZ x0 w0 d0 k0 kl ks kw b0 bb bd bm bl bf ba bk bg p0 h0 hl1 hs1 hw1 hc1 i0 il1 is1 iw1 ic1 ik it A s dA dz KL KS KW n BB BD BM BL BF BA BK BG nx pz HL HS HW HC IL IS IW IC IK IT sd hn hw0 hk hv hso hTr hnx hpz hsd hc) (c_X6_beside_0z l D cI cJ cZ m0 nw ps im mk wd so mb ma mf mw ml mu wt ty NW PS pz IM IK sd WD s SO q EB EA EF EW EL EU br WT ww TY KS KL KW n A hn hk hw0 hR hRW hso BB BD BM BL BF BA BK hTr hv hc)
        · exact pr_ro l D cI cJ cZ x0 w0 d0 k0 kl ks kw b0 bb bd bm bl bf ba bk bg p0 h0 hl1 hs1 hw1 hc1 i0 il1 is1 iw1 ic1 ik it m0 nw ps im mk wd so mb ma mf mw ml mu wt ty hC hd hT (c_X5_beside_0p l D cI cJ cZ x0 w0 d0 k0 kl ks kw b0 bb bd bm bl bf ba bk bg p0 h0 hl1 hs1 hw1 hc1 i0 il1 is1 iw1 ic1 ik it A s dA dz KL KS KW n BB BD BM BL BF BA BK BG nx pz HL HS HW HC IL IS IW IC IK IT sd hn hw0 hk hv hso hTr hnx hpz hsd hc) (c_X6_beside_0p l D cI cJ cZ m0 nw ps im mk wd so mb ma mf mw ml mu wt ty NW PS pz IM IK sd WD s SO q EB EA EF EW EL EU br WT ww TY KS KL KW n A hn hk hw0 hR hRW hso BB BD BM BL BF BA BK hTr hv hc)
      · by_cases ha : (plc KS KL n s A < n ∧ unl (KS (plc KS KL n s A)) (KL (plc KS KL n s A)) s A = 72)
        · exact pr_ro l D cI cJ cZ x0 w0 d0 k0 kl ks kw b0 bb bd bm bl bf ba bk bg p0 h0 hl1 hs1 hw1 hc1 i0 il1 is1 iw1 ic1 ik it m0 nw ps im mk wd so mb ma mf mw ml mu wt ty hC hd hT (c_X5_beside_1y l D cI cJ cZ x0 w0 d0 k0 kl ks kw b0 bb bd bm bl bf ba bk bg p0 h0 hl1 hs1 hw1 hc1 i0 il1 is1 iw1 ic1 ik it A s dA dz KL KS KW n BB BD BM BL BF BA BK BG nx pz HL HS HW HC IL IS IW IC IK IT sd hn hw0 hk hv hso hTr hnx hpz hsd ha) (c_X6_beside_1y l D cI cJ cZ m0 nw ps im mk wd so mb ma mf mw ml mu wt ty NW PS pz IM IK sd WD s SO q EB EA EF EW EL EU br WT ww TY KS KL KW n A hn hk hw0 hR hRW hso BB BD BM BL BF BA BK hTr hv ha)
        · exact pr_ro l D cI cJ cZ x0 w0 d0 k0 kl ks kw b0 bb bd bm bl bf ba bk bg p0 h0 hl1 hs1 hw1 hc1 i0 il1 is1 iw1 ic1 ik it m0 nw ps im mk wd so mb ma mf mw ml mu wt ty hC hd hT (c_X5_beside_1n l D cI cJ cZ x0 w0 d0 k0 kl ks kw b0 bb bd bm bl bf ba bk bg p0 h0 hl1 hs1 hw1 hc1 i0 il1 is1 iw1 ic1 ik it A s dA dz KL KS KW n BB BD BM BL BF BA BK BG nx pz HL HS HW HC IL IS IW IC IK IT sd hn hw0 hk hv hso hTr hnx hpz hsd ha) (c_X6_beside_1n l D cI cJ cZ m0 nw ps im mk wd so mb ma mf mw ml mu wt ty NW PS pz IM IK sd WD s SO q EB EA EF EW EL EU br WT ww TY KS KL KW n A hn hk hw0 hR hRW hso BB BD BM BL BF BA BK hTr hv ha)
set_option maxHeartbeats 4000000 in
set_option maxRecDepth 100000 in
theorem p_closest (l : Launch) (D : va_G) (cI cJ cZ : ClassId) (x0 w0 d0 k0 kl ks kw b0 bb bd bm bl bf ba bk bg p0 h0 hl1 hs1 hw1 hc1 i0 il1 is1 iw1 ic1 ik it m0 nw ps im mk wd so mb ma mf mw ml mu wt ty : Nat) (C : Co) (d : Dt) (T : Ms) (hC : CI C) (hd : OkT C d) (hT : Sim C T) : Pr l D cI cJ cZ x0 w0 d0 k0 kl ks kw b0 bb bd bm bl bf ba bk bg p0 h0 hl1 hs1 hw1 hc1 i0 il1 is1 iw1 ic1 ik it m0 nw ps im mk wd so mb ma mf mw ml mu wt ty yX5_closest cX5_closest 1 (rmN 4 97) yX6_closest cX6_closest 3 (rmN 3 68) [] C d T := by
  obtain ⟨A, s, KL, KS, KW, n, nx, pz, HL, HS, HW, HC, IL, IS, IW, IC, IK, IT, sd⟩ := C
  obtain ⟨dA, dz, BB, BD, BM, BL, BF, BA, BK, BG⟩ := d
  obtain ⟨NW, PS, IM, WD, SO, q, EB, EA, EF, EW, EL, EU, br, WT, ww, TY⟩ := T
  have hw0 : Wf s A := hC.1
  have hKO : KOK KS KL KW n := hC.2.1
  have hnx : nx < 20 := hC.2.2.1
  have hpz : pz ≤ 20 := hC.2.2.2.1
  have hsd : sd < 2 ^ 31 := hC.2.2.2.2.1
  have him : ∀ j, j < 2 → (IK j = 0 ∨ IK j = 1) ∧ IT j < 2 ^ 31 := hC.2.2.2.2.2
  have hTr : TrX (gapF KS KL) n BB BD BM BL BF BA BK := hd
  have hR : RN NW KS KL KW n := hT.1
  have hRW : RW WD s A := hT.2.1
  have hSP : SimP nx pz HL HS HW HC PS := hT.2.2.1
  have hIm : Img IS IL IW IC IK IT IM := hT.2.2.2
  have hn := hKO.1
  have hk := hKO.2.1
  have hv := hKO.2.2.1
  have hso := hKO.2.2.2
  exact pr_ro l D cI cJ cZ x0 w0 d0 k0 kl ks kw b0 bb bd bm bl bf ba bk bg p0 h0 hl1 hs1 hw1 hc1 i0 il1 is1 iw1 ic1 ik it m0 nw ps im mk wd so mb ma mf mw ml mu wt ty hC hd hT (c_X5_closest l D cI cJ cZ x0 w0 d0 k0 kl ks kw b0 bb bd bm bl bf ba bk bg p0 h0 hl1 hs1 hw1 hc1 i0 il1 is1 iw1 ic1 ik it A s dA dz KL KS KW n BB BD BM BL BF BA BK BG nx pz HL HS HW HC IL IS IW IC IK IT sd hn hw0 hk hv hso hTr hnx hpz hsd) (fun sz => wr_mono (ro_wr (c_X6_closest l D cI cJ cZ m0 nw ps im mk wd so mb ma mf mw ml mu wt ty NW PS pz IM IK sd WD s SO q EB EA EF EW EL EU br WT ww TY KS KL KW n A hn hk hw0 hR hRW)) (fun v w h => ⟨h.1, SO, q, EB, EA, EF, EW, EL, EU, br, WT, ww, h.2⟩))
set_option maxHeartbeats 4000000 in
set_option maxRecDepth 100000 in
theorem p_off (l : Launch) (D : va_G) (cI cJ cZ : ClassId) (x0 w0 d0 k0 kl ks kw b0 bb bd bm bl bf ba bk bg p0 h0 hl1 hs1 hw1 hc1 i0 il1 is1 iw1 ic1 ik it m0 nw ps im mk wd so mb ma mf mw ml mu wt ty : Nat) (C : Co) (d : Dt) (T : Ms) (hC : CI C) (hd : OkT C d) (hT : Sim C T) : Pr l D cI cJ cZ x0 w0 d0 k0 kl ks kw b0 bb bd bm bl bf ba bk bg p0 h0 hl1 hs1 hw1 hc1 i0 il1 is1 iw1 ic1 ik it m0 nw ps im mk wd so mb ma mf mw ml mu wt ty yX5_off cX5_off 3 (rmN 4 97) yX6_off cX6_off 2 (rmN 4 90) [] C d T := by
  obtain ⟨A, s, KL, KS, KW, n, nx, pz, HL, HS, HW, HC, IL, IS, IW, IC, IK, IT, sd⟩ := C
  obtain ⟨dA, dz, BB, BD, BM, BL, BF, BA, BK, BG⟩ := d
  obtain ⟨NW, PS, IM, WD, SO, q, EB, EA, EF, EW, EL, EU, br, WT, ww, TY⟩ := T
  have hw0 : Wf s A := hC.1
  have hKO : KOK KS KL KW n := hC.2.1
  have hnx : nx < 20 := hC.2.2.1
  have hpz : pz ≤ 20 := hC.2.2.2.1
  have hsd : sd < 2 ^ 31 := hC.2.2.2.2.1
  have him : ∀ j, j < 2 → (IK j = 0 ∨ IK j = 1) ∧ IT j < 2 ^ 31 := hC.2.2.2.2.2
  have hTr : TrX (gapF KS KL) n BB BD BM BL BF BA BK := hd
  have hR : RN NW KS KL KW n := hT.1
  have hRW : RW WD s A := hT.2.1
  have hSP : SimP nx pz HL HS HW HC PS := hT.2.2.1
  have hIm : Img IS IL IW IC IK IT IM := hT.2.2.2
  have hn := hKO.1
  have hk := hKO.2.1
  have hv := hKO.2.2.1
  have hso := hKO.2.2.2
  rcases Nat.eq_zero_or_pos (mso KS KL s A n) with hc | hc
  · exact pr_ro l D cI cJ cZ x0 w0 d0 k0 kl ks kw b0 bb bd bm bl bf ba bk bg p0 h0 hl1 hs1 hw1 hc1 i0 il1 is1 iw1 ic1 ik it m0 nw ps im mk wd so mb ma mf mw ml mu wt ty hC hd hT (c_X5_off_none l D cI cJ cZ x0 w0 d0 k0 kl ks kw b0 bb bd bm bl bf ba bk bg p0 h0 hl1 hs1 hw1 hc1 i0 il1 is1 iw1 ic1 ik it A s dA dz KL KS KW n BB BD BM BL BF BA BK BG nx pz HL HS HW HC IL IS IW IC IK IT sd hn hw0 hk hv hso hTr hnx hpz hsd hc) (c_X6_off_none l D cI cJ cZ m0 nw ps im mk wd so mb ma mf mw ml mu wt ty NW PS pz IM IK sd WD s SO q EB EA EF EW EL EU br WT ww TY KS KL KW n A hn hk hw0 hR hRW hso BB BD BM BL BF BA BK hTr hv hc)
  · by_cases hu : unl (KS (mso KS KL s A n - 1)) (KL (mso KS KL s A n - 1)) s A = 72
    · exact pr_ro l D cI cJ cZ x0 w0 d0 k0 kl ks kw b0 bb bd bm bl bf ba bk bg p0 h0 hl1 hs1 hw1 hc1 i0 il1 is1 iw1 ic1 ik it m0 nw ps im mk wd so mb ma mf mw ml mu wt ty hC hd hT (c_X5_off_same l D cI cJ cZ x0 w0 d0 k0 kl ks kw b0 bb bd bm bl bf ba bk bg p0 h0 hl1 hs1 hw1 hc1 i0 il1 is1 iw1 ic1 ik it A s dA dz KL KS KW n BB BD BM BL BF BA BK BG nx pz HL HS HW HC IL IS IW IC IK IT sd hn hw0 hk hv hso hTr hnx hpz hsd hc hu) (c_X6_off_same l D cI cJ cZ m0 nw ps im mk wd so mb ma mf mw ml mu wt ty NW PS pz IM IK sd WD s SO q EB EA EF EW EL EU br WT ww TY KS KL KW n A hn hk hw0 hR hRW hso BB BD BM BL BF BA BK hTr hv hc hu)
    · exact pr_ro l D cI cJ cZ x0 w0 d0 k0 kl ks kw b0 bb bd bm bl bf ba bk bg p0 h0 hl1 hs1 hw1 hc1 i0 il1 is1 iw1 ic1 ik it m0 nw ps im mk wd so mb ma mf mw ml mu wt ty hC hd hT (c_X5_off_some l D cI cJ cZ x0 w0 d0 k0 kl ks kw b0 bb bd bm bl bf ba bk bg p0 h0 hl1 hs1 hw1 hc1 i0 il1 is1 iw1 ic1 ik it A s dA dz KL KS KW n BB BD BM BL BF BA BK BG nx pz HL HS HW HC IL IS IW IC IK IT sd hn hw0 hk hv hso hTr hnx hpz hsd hc hu) (c_X6_off_some l D cI cJ cZ m0 nw ps im mk wd so mb ma mf mw ml mu wt ty NW PS pz IM IK sd WD s SO q EB EA EF EW EL EU br WT ww TY KS KL KW n A hn hk hw0 hR hRW hso BB BD BM BL BF BA BK hTr hv hc hu)
set_option maxHeartbeats 4000000 in
set_option maxRecDepth 100000 in
theorem p_blind (l : Launch) (D : va_G) (cI cJ cZ : ClassId) (x0 w0 d0 k0 kl ks kw b0 bb bd bm bl bf ba bk bg p0 h0 hl1 hs1 hw1 hc1 i0 il1 is1 iw1 ic1 ik it m0 nw ps im mk wd so mb ma mf mw ml mu wt ty : Nat) (C : Co) (d : Dt) (T : Ms) (hC : CI C) (hd : OkT C d) (hT : Sim C T) (x : Int32) : Pr l D cI cJ cZ x0 w0 d0 k0 kl ks kw b0 bb bd bm bl bf ba bk bg p0 h0 hl1 hs1 hw1 hc1 i0 il1 is1 iw1 ic1 ik it m0 nw ps im mk wd so mb ma mf mw ml mu wt ty yX5_blind cX5_blind 3 (rmN 4 93) yX6_blind cX6_blind 7 (rmN 5 116) [.int x] C d T := by
  obtain ⟨A, s, KL, KS, KW, n, nx, pz, HL, HS, HW, HC, IL, IS, IW, IC, IK, IT, sd⟩ := C
  obtain ⟨dA, dz, BB, BD, BM, BL, BF, BA, BK, BG⟩ := d
  obtain ⟨NW, PS, IM, WD, SO, q, EB, EA, EF, EW, EL, EU, br, WT, ww, TY⟩ := T
  have hw0 : Wf s A := hC.1
  have hKO : KOK KS KL KW n := hC.2.1
  have hnx : nx < 20 := hC.2.2.1
  have hpz : pz ≤ 20 := hC.2.2.2.1
  have hsd : sd < 2 ^ 31 := hC.2.2.2.2.1
  have him : ∀ j, j < 2 → (IK j = 0 ∨ IK j = 1) ∧ IT j < 2 ^ 31 := hC.2.2.2.2.2
  have hTr : TrX (gapF KS KL) n BB BD BM BL BF BA BK := hd
  have hR : RN NW KS KL KW n := hT.1
  have hRW : RW WD s A := hT.2.1
  have hSP : SimP nx pz HL HS HW HC PS := hT.2.2.1
  have hIm : Img IS IL IW IC IK IT IM := hT.2.2.2
  have hn := hKO.1
  have hk := hKO.2.1
  have hv := hKO.2.2.1
  have hso := hKO.2.2.2
  rcases neg_or x with hx0 | ⟨j, hj, rfl⟩
  · exact pr_ro l D cI cJ cZ x0 w0 d0 k0 kl ks kw b0 bb bd bm bl bf ba bk bg p0 h0 hl1 hs1 hw1 hc1 i0 il1 is1 iw1 ic1 ik it m0 nw ps im mk wd so mb ma mf mw ml mu wt ty hC hd hT (c_X5_blind_neg l D cI cJ cZ x0 w0 d0 k0 kl ks kw b0 bb bd bm bl bf ba bk bg p0 h0 hl1 hs1 hw1 hc1 i0 il1 is1 iw1 ic1 ik it A s dA dz KL KS KW n BB BD BM BL BF BA BK BG nx pz HL HS HW HC IL IS IW IC IK IT sd hn hw0 hk hv hso hTr hnx hpz hsd x hx0) (c_X6_blind_neg l D cI cJ cZ m0 nw ps im mk wd so mb ma mf mw ml mu wt ty NW PS pz IM IK sd WD s SO q EB EA EF EW EL EU br WT ww TY KS KL KW n A hn hk hw0 hR hRW hso BB BD BM BL BF BA BK hTr hv x hx0)
  · by_cases z0 : 1 < j
    · exact pr_ro l D cI cJ cZ x0 w0 d0 k0 kl ks kw b0 bb bd bm bl bf ba bk bg p0 h0 hl1 hs1 hw1 hc1 i0 il1 is1 iw1 ic1 ik it m0 nw ps im mk wd so mb ma mf mw ml mu wt ty hC hd hT (c_X5_blind_big l D cI cJ cZ x0 w0 d0 k0 kl ks kw b0 bb bd bm bl bf ba bk bg p0 h0 hl1 hs1 hw1 hc1 i0 il1 is1 iw1 ic1 ik it A s dA dz KL KS KW n BB BD BM BL BF BA BK BG nx pz HL HS HW HC IL IS IW IC IK IT sd hn hw0 hk hv hso hTr hnx hpz hsd j hj z0) (c_X6_blind_big l D cI cJ cZ m0 nw ps im mk wd so mb ma mf mw ml mu wt ty NW PS pz IM IK sd WD s SO q EB EA EF EW EL EU br WT ww TY KS KL KW n A hn hk hw0 hR hRW hso BB BD BM BL BF BA BK hTr hv j hj z0)
    · rcases (by omega : j = 0 ∨ j = 1) with rfl | rfl
      · exact pr_ro l D cI cJ cZ x0 w0 d0 k0 kl ks kw b0 bb bd bm bl bf ba bk bg p0 h0 hl1 hs1 hw1 hc1 i0 il1 is1 iw1 ic1 ik it m0 nw ps im mk wd so mb ma mf mw ml mu wt ty hC hd hT (c_X5_blind_0 l D cI cJ cZ x0 w0 d0 k0 kl ks kw b0 bb bd bm bl bf ba bk bg p0 h0 hl1 hs1 hw1 hc1 i0 il1 is1 iw1 ic1 ik it A s dA dz KL KS KW n BB BD BM BL BF BA BK BG nx pz HL HS HW HC IL IS IW IC IK IT sd hn hw0 hk hv hso hTr hnx hpz hsd ) (c_X6_blind_0 l D cI cJ cZ m0 nw ps im mk wd so mb ma mf mw ml mu wt ty NW PS pz IM IK sd WD s SO q EB EA EF EW EL EU br WT ww TY KS KL KW n A hn hk hw0 hR hRW hso BB BD BM BL BF BA BK hTr hv )
      · have hle := kr_le (s := s) (A := A) hTr
        rcases Nat.eq_zero_or_pos (if n = 0 then 0 else if n = 1 then 1 else kr BB BM BL BF s A (n - 1) 0) with hc | hc
        · exact pr_ro l D cI cJ cZ x0 w0 d0 k0 kl ks kw b0 bb bd bm bl bf ba bk bg p0 h0 hl1 hs1 hw1 hc1 i0 il1 is1 iw1 ic1 ik it m0 nw ps im mk wd so mb ma mf mw ml mu wt ty hC hd hT (c_X5_blind_1n l D cI cJ cZ x0 w0 d0 k0 kl ks kw b0 bb bd bm bl bf ba bk bg p0 h0 hl1 hs1 hw1 hc1 i0 il1 is1 iw1 ic1 ik it A s dA dz KL KS KW n BB BD BM BL BF BA BK BG nx pz HL HS HW HC IL IS IW IC IK IT sd hn hw0 hk hv hso hTr hnx hpz hsd hc) (c_X6_blind_1n l D cI cJ cZ m0 nw ps im mk wd so mb ma mf mw ml mu wt ty NW PS pz IM IK sd WD s SO q EB EA EF EW EL EU br WT ww TY KS KL KW n A hn hk hw0 hR hRW hso BB BD BM BL BF BA BK hTr hv hc)
        · obtain ⟨g, hg⟩ : ∃ g, (if n = 0 then 0 else if n = 1 then 1 else kr BB BM BL BF s A (n - 1) 0) = g + 1 := ⟨(if n = 0 then 0 else if n = 1 then 1 else kr BB BM BL BF s A (n - 1) 0) - 1, (Nat.succ_pred_eq_of_pos hc).symm⟩
          have hgn : g < n := by rw [hg] at hle; exact hle
          exact pr_ro l D cI cJ cZ x0 w0 d0 k0 kl ks kw b0 bb bd bm bl bf ba bk bg p0 h0 hl1 hs1 hw1 hc1 i0 il1 is1 iw1 ic1 ik it m0 nw ps im mk wd so mb ma mf mw ml mu wt ty hC hd hT (c_X5_blind_1y l D cI cJ cZ x0 w0 d0 k0 kl ks kw b0 bb bd bm bl bf ba bk bg p0 h0 hl1 hs1 hw1 hc1 i0 il1 is1 iw1 ic1 ik it A s dA dz KL KS KW n BB BD BM BL BF BA BK BG nx pz HL HS HW HC IL IS IW IC IK IT sd hn hw0 hk hv hso hTr hnx hpz hsd g hgn hg) (c_X6_blind_1y l D cI cJ cZ m0 nw ps im mk wd so mb ma mf mw ml mu wt ty NW PS pz IM IK sd WD s SO q EB EA EF EW EL EU br WT ww TY KS KL KW n A hn hk hw0 hR hRW hso BB BD BM BL BF BA BK hTr hv g hgn hg)
set_option maxHeartbeats 4000000 in
set_option maxRecDepth 100000 in
theorem p_way (l : Launch) (D : va_G) (cI cJ cZ : ClassId) (x0 w0 d0 k0 kl ks kw b0 bb bd bm bl bf ba bk bg p0 h0 hl1 hs1 hw1 hc1 i0 il1 is1 iw1 ic1 ik it m0 nw ps im mk wd so mb ma mf mw ml mu wt ty : Nat) (C : Co) (d : Dt) (T : Ms) (hC : CI C) (hd : OkT C d) (hT : Sim C T) (x y : Int32) : Pr l D cI cJ cZ x0 w0 d0 k0 kl ks kw b0 bb bd bm bl bf ba bk bg p0 h0 hl1 hs1 hw1 hc1 i0 il1 is1 iw1 ic1 ik it m0 nw ps im mk wd so mb ma mf mw ml mu wt ty yX5_way cX5_way 3 (rmN 5 109) yX6_way cX6_way 5 (rmN 5 116) [.int x, .int y] C d T := by
  obtain ⟨A, s, KL, KS, KW, n, nx, pz, HL, HS, HW, HC, IL, IS, IW, IC, IK, IT, sd⟩ := C
  obtain ⟨dA, dz, BB, BD, BM, BL, BF, BA, BK, BG⟩ := d
  obtain ⟨NW, PS, IM, WD, SO, q, EB, EA, EF, EW, EL, EU, br, WT, ww, TY⟩ := T
  have hw0 : Wf s A := hC.1
  have hKO : KOK KS KL KW n := hC.2.1
  have hnx : nx < 20 := hC.2.2.1
  have hpz : pz ≤ 20 := hC.2.2.2.1
  have hsd : sd < 2 ^ 31 := hC.2.2.2.2.1
  have him : ∀ j, j < 2 → (IK j = 0 ∨ IK j = 1) ∧ IT j < 2 ^ 31 := hC.2.2.2.2.2
  have hTr : TrX (gapF KS KL) n BB BD BM BL BF BA BK := hd
  have hR : RN NW KS KL KW n := hT.1
  have hRW : RW WD s A := hT.2.1
  have hSP : SimP nx pz HL HS HW HC PS := hT.2.2.1
  have hIm : Img IS IL IW IC IK IT IM := hT.2.2.2
  have hn := hKO.1
  have hk := hKO.2.1
  have hv := hKO.2.2.1
  have hso := hKO.2.2.2
  rcases neg_or x with hx0 | ⟨j, hj, rfl⟩
  · exact pr_ro l D cI cJ cZ x0 w0 d0 k0 kl ks kw b0 bb bd bm bl bf ba bk bg p0 h0 hl1 hs1 hw1 hc1 i0 il1 is1 iw1 ic1 ik it m0 nw ps im mk wd so mb ma mf mw ml mu wt ty hC hd hT (c_X5_way_kneg l D cI cJ cZ x0 w0 d0 k0 kl ks kw b0 bb bd bm bl bf ba bk bg p0 h0 hl1 hs1 hw1 hc1 i0 il1 is1 iw1 ic1 ik it A s dA dz KL KS KW n BB BD BM BL BF BA BK BG nx pz HL HS HW HC IL IS IW IC IK IT sd hn hw0 hk hv hso hTr hnx hpz hsd x y hx0) (c_X6_way_kneg l D cI cJ cZ m0 nw ps im mk wd so mb ma mf mw ml mu wt ty NW PS pz IM IK sd WD s SO q EB EA EF EW EL EU br WT ww TY KS KL KW n A hn hk hw0 hR hRW hso BB BD BM BL BF BA BK hTr hv x y hx0)
  · by_cases z0 : j < n
    · rcases neg_or y with hy0 | ⟨t, ht, rfl⟩
      · exact pr_ro l D cI cJ cZ x0 w0 d0 k0 kl ks kw b0 bb bd bm bl bf ba bk bg p0 h0 hl1 hs1 hw1 hc1 i0 il1 is1 iw1 ic1 ik it m0 nw ps im mk wd so mb ma mf mw ml mu wt ty hC hd hT (c_X5_way_neg l D cI cJ cZ x0 w0 d0 k0 kl ks kw b0 bb bd bm bl bf ba bk bg p0 h0 hl1 hs1 hw1 hc1 i0 il1 is1 iw1 ic1 ik it A s dA dz KL KS KW n BB BD BM BL BF BA BK BG nx pz HL HS HW HC IL IS IW IC IK IT sd hn hw0 hk hv hso hTr hnx hpz hsd j z0 y hy0) (c_X6_way_neg l D cI cJ cZ m0 nw ps im mk wd so mb ma mf mw ml mu wt ty NW PS pz IM IK sd WD s SO q EB EA EF EW EL EU br WT ww TY KS KL KW n A hn hk hw0 hR hRW hso BB BD BM BL BF BA BK hTr hv j z0 y hy0)
      · exact pr_ro l D cI cJ cZ x0 w0 d0 k0 kl ks kw b0 bb bd bm bl bf ba bk bg p0 h0 hl1 hs1 hw1 hc1 i0 il1 is1 iw1 ic1 ik it m0 nw ps im mk wd so mb ma mf mw ml mu wt ty hC hd hT (c_X5_way_ok l D cI cJ cZ x0 w0 d0 k0 kl ks kw b0 bb bd bm bl bf ba bk bg p0 h0 hl1 hs1 hw1 hc1 i0 il1 is1 iw1 ic1 ik it A s dA dz KL KS KW n BB BD BM BL BF BA BK BG nx pz HL HS HW HC IL IS IW IC IK IT sd hn hw0 hk hv hso hTr hnx hpz hsd j z0 t ht) (c_X6_way_ok l D cI cJ cZ m0 nw ps im mk wd so mb ma mf mw ml mu wt ty NW PS pz IM IK sd WD s SO q EB EA EF EW EL EU br WT ww TY KS KL KW n A hn hk hw0 hR hRW hso BB BD BM BL BF BA BK hTr hv j z0 t ht)
    · exact pr_ro l D cI cJ cZ x0 w0 d0 k0 kl ks kw b0 bb bd bm bl bf ba bk bg p0 h0 hl1 hs1 hw1 hc1 i0 il1 is1 iw1 ic1 ik it m0 nw ps im mk wd so mb ma mf mw ml mu wt ty hC hd hT (c_X5_way_kout l D cI cJ cZ x0 w0 d0 k0 kl ks kw b0 bb bd bm bl bf ba bk bg p0 h0 hl1 hs1 hw1 hc1 i0 il1 is1 iw1 ic1 ik it A s dA dz KL KS KW n BB BD BM BL BF BA BK BG nx pz HL HS HW HC IL IS IW IC IK IT sd hn hw0 hk hv hso hTr hnx hpz hsd j y hj (by omega)) (c_X6_way_kout l D cI cJ cZ m0 nw ps im mk wd so mb ma mf mw ml mu wt ty NW PS pz IM IK sd WD s SO q EB EA EF EW EL EU br WT ww TY KS KL KW n A hn hk hw0 hR hRW hso BB BD BM BL BF BA BK hTr hv j y hj (by omega))
set_option maxHeartbeats 4000000 in
set_option maxRecDepth 100000 in
theorem p_unlike (l : Launch) (D : va_G) (cI cJ cZ : ClassId) (x0 w0 d0 k0 kl ks kw b0 bb bd bm bl bf ba bk bg p0 h0 hl1 hs1 hw1 hc1 i0 il1 is1 iw1 ic1 ik it m0 nw ps im mk wd so mb ma mf mw ml mu wt ty : Nat) (C : Co) (d : Dt) (T : Ms) (hC : CI C) (hd : OkT C d) (hT : Sim C T) (x y : Int32) : Pr l D cI cJ cZ x0 w0 d0 k0 kl ks kw b0 bb bd bm bl bf ba bk bg p0 h0 hl1 hs1 hw1 hc1 i0 il1 is1 iw1 ic1 ik it m0 nw ps im mk wd so mb ma mf mw ml mu wt ty yX5_unlike cX5_unlike 3 (rmN 3 72) yX6_unlike cX6_unlike 3 (rmN 3 68) [.int x, .int y] C d T := by
  obtain ⟨A, s, KL, KS, KW, n, nx, pz, HL, HS, HW, HC, IL, IS, IW, IC, IK, IT, sd⟩ := C
  obtain ⟨dA, dz, BB, BD, BM, BL, BF, BA, BK, BG⟩ := d
  obtain ⟨NW, PS, IM, WD, SO, q, EB, EA, EF, EW, EL, EU, br, WT, ww, TY⟩ := T
  have hw0 : Wf s A := hC.1
  have hKO : KOK KS KL KW n := hC.2.1
  have hnx : nx < 20 := hC.2.2.1
  have hpz : pz ≤ 20 := hC.2.2.2.1
  have hsd : sd < 2 ^ 31 := hC.2.2.2.2.1
  have him : ∀ j, j < 2 → (IK j = 0 ∨ IK j = 1) ∧ IT j < 2 ^ 31 := hC.2.2.2.2.2
  have hTr : TrX (gapF KS KL) n BB BD BM BL BF BA BK := hd
  have hR : RN NW KS KL KW n := hT.1
  have hRW : RW WD s A := hT.2.1
  have hSP : SimP nx pz HL HS HW HC PS := hT.2.2.1
  have hIm : Img IS IL IW IC IK IT IM := hT.2.2.2
  have hn := hKO.1
  have hk := hKO.2.1
  have hv := hKO.2.2.1
  have hso := hKO.2.2.2
  rcases neg_or x with hx0 | ⟨j, hj, rfl⟩
  · exact pr_ro l D cI cJ cZ x0 w0 d0 k0 kl ks kw b0 bb bd bm bl bf ba bk bg p0 h0 hl1 hs1 hw1 hc1 i0 il1 is1 iw1 ic1 ik it m0 nw ps im mk wd so mb ma mf mw ml mu wt ty hC hd hT (c_X5_unlike_kneg l D cI cJ cZ x0 w0 d0 k0 kl ks kw b0 bb bd bm bl bf ba bk bg p0 h0 hl1 hs1 hw1 hc1 i0 il1 is1 iw1 ic1 ik it A s dA dz KL KS KW n BB BD BM BL BF BA BK BG nx pz HL HS HW HC IL IS IW IC IK IT sd hn hw0 hk hv hso hTr hnx hpz hsd x y hx0) (c_X6_unlike_kneg l D cI cJ cZ m0 nw ps im mk wd so mb ma mf mw ml mu wt ty NW PS pz IM IK sd WD s SO q EB EA EF EW EL EU br WT ww TY KS KL KW n A hn hk hw0 hR hRW hso BB BD BM BL BF BA BK hTr hv x y hx0)
  · by_cases z0 : j < n
    · rcases neg_or y with hy0 | ⟨t, ht, rfl⟩
      · exact pr_ro l D cI cJ cZ x0 w0 d0 k0 kl ks kw b0 bb bd bm bl bf ba bk bg p0 h0 hl1 hs1 hw1 hc1 i0 il1 is1 iw1 ic1 ik it m0 nw ps im mk wd so mb ma mf mw ml mu wt ty hC hd hT (c_X5_unlike_jneg l D cI cJ cZ x0 w0 d0 k0 kl ks kw b0 bb bd bm bl bf ba bk bg p0 h0 hl1 hs1 hw1 hc1 i0 il1 is1 iw1 ic1 ik it A s dA dz KL KS KW n BB BD BM BL BF BA BK BG nx pz HL HS HW HC IL IS IW IC IK IT sd hn hw0 hk hv hso hTr hnx hpz hsd j z0 y hy0) (c_X6_unlike_jneg l D cI cJ cZ m0 nw ps im mk wd so mb ma mf mw ml mu wt ty NW PS pz IM IK sd WD s SO q EB EA EF EW EL EU br WT ww TY KS KL KW n A hn hk hw0 hR hRW hso BB BD BM BL BF BA BK hTr hv j z0 y hy0)
      · by_cases z1 : t < n
        · by_cases z2 : j = t
          · subst z2
            exact pr_ro l D cI cJ cZ x0 w0 d0 k0 kl ks kw b0 bb bd bm bl bf ba bk bg p0 h0 hl1 hs1 hw1 hc1 i0 il1 is1 iw1 ic1 ik it m0 nw ps im mk wd so mb ma mf mw ml mu wt ty hC hd hT (c_X5_unlike_same l D cI cJ cZ x0 w0 d0 k0 kl ks kw b0 bb bd bm bl bf ba bk bg p0 h0 hl1 hs1 hw1 hc1 i0 il1 is1 iw1 ic1 ik it A s dA dz KL KS KW n BB BD BM BL BF BA BK BG nx pz HL HS HW HC IL IS IW IC IK IT sd hn hw0 hk hv hso hTr hnx hpz hsd j z0) (c_X6_unlike_same l D cI cJ cZ m0 nw ps im mk wd so mb ma mf mw ml mu wt ty NW PS pz IM IK sd WD s SO q EB EA EF EW EL EU br WT ww TY KS KL KW n A hn hk hw0 hR hRW hso BB BD BM BL BF BA BK hTr hv j z0)
          · exact pr_ro l D cI cJ cZ x0 w0 d0 k0 kl ks kw b0 bb bd bm bl bf ba bk bg p0 h0 hl1 hs1 hw1 hc1 i0 il1 is1 iw1 ic1 ik it m0 nw ps im mk wd so mb ma mf mw ml mu wt ty hC hd hT (c_X5_unlike_ok l D cI cJ cZ x0 w0 d0 k0 kl ks kw b0 bb bd bm bl bf ba bk bg p0 h0 hl1 hs1 hw1 hc1 i0 il1 is1 iw1 ic1 ik it A s dA dz KL KS KW n BB BD BM BL BF BA BK BG nx pz HL HS HW HC IL IS IW IC IK IT sd hn hw0 hk hv hso hTr hnx hpz hsd j z0 t z1 z2) (c_X6_unlike_ok l D cI cJ cZ m0 nw ps im mk wd so mb ma mf mw ml mu wt ty NW PS pz IM IK sd WD s SO q EB EA EF EW EL EU br WT ww TY KS KL KW n A hn hk hw0 hR hRW hso BB BD BM BL BF BA BK hTr hv j z0 t z1 z2)
        · exact pr_ro l D cI cJ cZ x0 w0 d0 k0 kl ks kw b0 bb bd bm bl bf ba bk bg p0 h0 hl1 hs1 hw1 hc1 i0 il1 is1 iw1 ic1 ik it m0 nw ps im mk wd so mb ma mf mw ml mu wt ty hC hd hT (c_X5_unlike_jout l D cI cJ cZ x0 w0 d0 k0 kl ks kw b0 bb bd bm bl bf ba bk bg p0 h0 hl1 hs1 hw1 hc1 i0 il1 is1 iw1 ic1 ik it A s dA dz KL KS KW n BB BD BM BL BF BA BK BG nx pz HL HS HW HC IL IS IW IC IK IT sd hn hw0 hk hv hso hTr hnx hpz hsd j z0 t ht (by omega)) (c_X6_unlike_jout l D cI cJ cZ m0 nw ps im mk wd so mb ma mf mw ml mu wt ty NW PS pz IM IK sd WD s SO q EB EA EF EW EL EU br WT ww TY KS KL KW n A hn hk hw0 hR hRW hso BB BD BM BL BF BA BK hTr hv j z0 t ht (by omega))
    · exact pr_ro l D cI cJ cZ x0 w0 d0 k0 kl ks kw b0 bb bd bm bl bf ba bk bg p0 h0 hl1 hs1 hw1 hc1 i0 il1 is1 iw1 ic1 ik it m0 nw ps im mk wd so mb ma mf mw ml mu wt ty hC hd hT (c_X5_unlike_kout l D cI cJ cZ x0 w0 d0 k0 kl ks kw b0 bb bd bm bl bf ba bk bg p0 h0 hl1 hs1 hw1 hc1 i0 il1 is1 iw1 ic1 ik it A s dA dz KL KS KW n BB BD BM BL BF BA BK BG nx pz HL HS HW HC IL IS IW IC IK IT sd hn hw0 hk hv hso hTr hnx hpz hsd j y hj (by omega)) (c_X6_unlike_kout l D cI cJ cZ m0 nw ps im mk wd so mb ma mf mw ml mu wt ty NW PS pz IM IK sd WD s SO q EB EA EF EW EL EU br WT ww TY KS KL KW n A hn hk hw0 hR hRW hso BB BD BM BL BF BA BK hTr hv j y hj (by omega))
set_option maxHeartbeats 4000000 in
set_option maxRecDepth 100000 in
theorem p_bit (l : Launch) (D : va_G) (cI cJ cZ : ClassId) (x0 w0 d0 k0 kl ks kw b0 bb bd bm bl bf ba bk bg p0 h0 hl1 hs1 hw1 hc1 i0 il1 is1 iw1 ic1 ik it m0 nw ps im mk wd so mb ma mf mw ml mu wt ty : Nat) (C : Co) (d : Dt) (T : Ms) (hC : CI C) (hd : OkT C d) (hT : Sim C T) (x : Int32) : Pr l D cI cJ cZ x0 w0 d0 k0 kl ks kw b0 bb bd bm bl bf ba bk bg p0 h0 hl1 hs1 hw1 hc1 i0 il1 is1 iw1 ic1 ik it m0 nw ps im mk wd so mb ma mf mw ml mu wt ty yX5_bit cX5_bit 2 (rmN 3 68) yX6_bit cX6_bit 2 (rmN 2 45) [.int x] C d T := by
  obtain ⟨A, s, KL, KS, KW, n, nx, pz, HL, HS, HW, HC, IL, IS, IW, IC, IK, IT, sd⟩ := C
  obtain ⟨dA, dz, BB, BD, BM, BL, BF, BA, BK, BG⟩ := d
  obtain ⟨NW, PS, IM, WD, SO, q, EB, EA, EF, EW, EL, EU, br, WT, ww, TY⟩ := T
  have hw0 : Wf s A := hC.1
  have hKO : KOK KS KL KW n := hC.2.1
  have hnx : nx < 20 := hC.2.2.1
  have hpz : pz ≤ 20 := hC.2.2.2.1
  have hsd : sd < 2 ^ 31 := hC.2.2.2.2.1
  have him : ∀ j, j < 2 → (IK j = 0 ∨ IK j = 1) ∧ IT j < 2 ^ 31 := hC.2.2.2.2.2
  have hTr : TrX (gapF KS KL) n BB BD BM BL BF BA BK := hd
  have hR : RN NW KS KL KW n := hT.1
  have hRW : RW WD s A := hT.2.1
  have hSP : SimP nx pz HL HS HW HC PS := hT.2.2.1
  have hIm : Img IS IL IW IC IK IT IM := hT.2.2.2
  have hn := hKO.1
  have hk := hKO.2.1
  have hv := hKO.2.2.1
  have hso := hKO.2.2.2
  rcases neg_or x with hx0 | ⟨j, hj, rfl⟩
  · exact pr_ro l D cI cJ cZ x0 w0 d0 k0 kl ks kw b0 bb bd bm bl bf ba bk bg p0 h0 hl1 hs1 hw1 hc1 i0 il1 is1 iw1 ic1 ik it m0 nw ps im mk wd so mb ma mf mw ml mu wt ty hC hd hT (c_X5_bit_neg l D cI cJ cZ x0 w0 d0 k0 kl ks kw b0 bb bd bm bl bf ba bk bg p0 h0 hl1 hs1 hw1 hc1 i0 il1 is1 iw1 ic1 ik it A s dA dz KL KS KW n BB BD BM BL BF BA BK BG nx pz HL HS HW HC IL IS IW IC IK IT sd hn hw0 hk hv hso hTr hnx hpz hsd x hx0) (c_X6_bit_neg l D cI cJ cZ m0 nw ps im mk wd so mb ma mf mw ml mu wt ty NW PS pz IM IK sd WD s SO q EB EA EF EW EL EU br WT ww TY KS KL KW n A hn hk hw0 hR hRW hso BB BD BM BL BF BA BK hTr hv x hx0)
  · by_cases z0 : j < 72
    · exact pr_ro l D cI cJ cZ x0 w0 d0 k0 kl ks kw b0 bb bd bm bl bf ba bk bg p0 h0 hl1 hs1 hw1 hc1 i0 il1 is1 iw1 ic1 ik it m0 nw ps im mk wd so mb ma mf mw ml mu wt ty hC hd hT (c_X5_bit_ok l D cI cJ cZ x0 w0 d0 k0 kl ks kw b0 bb bd bm bl bf ba bk bg p0 h0 hl1 hs1 hw1 hc1 i0 il1 is1 iw1 ic1 ik it A s dA dz KL KS KW n BB BD BM BL BF BA BK BG nx pz HL HS HW HC IL IS IW IC IK IT sd hn hw0 hk hv hso hTr hnx hpz hsd j z0) (c_X6_bit_ok l D cI cJ cZ m0 nw ps im mk wd so mb ma mf mw ml mu wt ty NW PS pz IM IK sd WD s SO q EB EA EF EW EL EU br WT ww TY KS KL KW n A hn hk hw0 hR hRW hso BB BD BM BL BF BA BK hTr hv j z0)
    · exact pr_ro l D cI cJ cZ x0 w0 d0 k0 kl ks kw b0 bb bd bm bl bf ba bk bg p0 h0 hl1 hs1 hw1 hc1 i0 il1 is1 iw1 ic1 ik it m0 nw ps im mk wd so mb ma mf mw ml mu wt ty hC hd hT (c_X5_bit_big l D cI cJ cZ x0 w0 d0 k0 kl ks kw b0 bb bd bm bl bf ba bk bg p0 h0 hl1 hs1 hw1 hc1 i0 il1 is1 iw1 ic1 ik it A s dA dz KL KS KW n BB BD BM BL BF BA BK BG nx pz HL HS HW HC IL IS IW IC IK IT sd hn hw0 hk hv hso hTr hnx hpz hsd j hj (by omega)) (c_X6_bit_big l D cI cJ cZ m0 nw ps im mk wd so mb ma mf mw ml mu wt ty NW PS pz IM IK sd WD s SO q EB EA EF EW EL EU br WT ww TY KS KL KW n A hn hk hw0 hR hRW hso BB BD BM BL BF BA BK hTr hv j hj (by omega))
