/-! ===== the reference's deeds ===== -/
theorem oI_dec {e : Nat} (h : 0 < e) : oI e + Int32.ofInt (-1) = oI (e - 1) := by
  cases e with
  | zero => omega
  | succ e =>
    have h1 : Int32.ofInt (-1) = -1 := by decide +kernel
    rw [oI_s, h1, show e + 1 - 1 = e from rfl]
    cases e with
    | zero => decide +kernel
    | succ e => rw [pk_m1, oI_s]
section OL
variable {p : Program} {l : Launch} {e : Env} {R : Room} {s : State} {m : MethodId} {args : Array Value} {below : List Frame} {meth : Method} {c : Code} {H : Heap} {locs : List Loc} {cells slots : Nat} {Q : State → Prop}
variable {cc : ByteArray} {pc : Nat} {ls : Array Slot} {rest : List Value}
theorem o_if_lt (hx : p.tables.exec = Jvm.exec) (hb : c.code = cc) {a : Nat} {off : Int} {tgt : Nat} (hdg : decode cc pc = .ok (.ifCond .lt off, 3)) (ht : (pc : Int) + off = (tgt : Int)) (ha : a < 2 ^ 31)
    (kt : a = 0 → W p l e R s m args below meth c H locs cells slots Q (F0 m tgt ls rest)) (kf : ¬ a = 0 → W p l e R s m args below meth c H locs cells slots Q (F0 m (pc + 3) ls rest)) : W p l e R s m args below meth c H locs cells slots Q (F0 m pc ls (.int (oI a) :: rest)) :=
  lv_if_lt hx hb hdg ht (fun h => kt (by rw [Int32.lt_iff_toInt_lt, oI_toInt ha] at h; have h0 : (0 : Int32).toInt = 0 := (by decide +kernel); omega)) (fun h => kf (fun q => h (by rw [q, oI_0]; decide)))
end OL
def EntR (N1 N2 : Nat → Nat) (g : Nat → Nat) : Prop := ∀ k, k < 24 → N1 (1 + k) = N2 (1 + g k) ∧ N1 (25 + k) = N2 (25 + g k) ∧ ∀ i, i < 8 → N1 (49 + 8 * k + i) = N2 (49 + 8 * g k + i)
def mvF (NW : Nat → Nat) (a b : Nat) : Nat → Nat := va_cpy (up (up NW (1 + b) (NW (1 + a))) (25 + b) ((up NW (1 + b) (NW (1 + a))) (25 + a))) (up (up NW (1 + b) (NW (1 + a))) (25 + b) ((up NW (1 + b) (NW (1 + a))) (25 + a))) (49 + (8 * a)) (49 + (8 * b)) 8
theorem mv_0 (NW : Nat → Nat) (a b : Nat) : mvF NW a b 0 = NW 0 := by
  unfold mvF va_cpy
  rw [if_neg (by omega), up_ne _ _ (by omega), up_ne _ _ (by omega)]
theorem mv_ent (NW : Nat → Nat) {a b : Nat} (ha : a < 24) (hb : b < 24) (hab : a ≠ b) : EntR (mvF NW a b) NW (fun k => if k = b then a else k) := by
  intro k hk
  unfold mvF va_cpy
  dsimp only
  refine ⟨?_, ?_, fun i hi => ?_⟩
  · rw [if_neg (by omega), up_ne _ _ (by omega)]
    by_cases e : k = b
    · rw [e, up_eq, if_pos rfl]
    · rw [up_ne _ _ (by omega), if_neg e]
  · rw [if_neg (by omega)]
    by_cases e : k = b
    · rw [e, up_eq, up_ne _ _ (by omega), if_pos rfl]
    · rw [up_ne _ _ (by omega), up_ne _ _ (by omega), if_neg e]
  · by_cases e : k = b
    · rw [if_pos (by omega), up_ne _ _ (by omega), up_ne _ _ (by omega), if_pos e]
      congr 1
      omega
    · rw [if_neg (by omega), up_ne _ _ (by omega), up_ne _ _ (by omega), if_neg e]
theorem rn_congr {NW KS KL KW KS' KL' KW' : Nat → Nat} {n : Nat} (h : RN NW KS KL KW n) (h1 : ∀ k, k < n → KS k = KS' k ∧ KL k = KL' k ∧ KW k = KW' k) : RN NW KS' KL' KW' n := by
  refine ⟨h.1, fun k hk => ?_⟩
  obtain ⟨a, b, c⟩ := h1 k hk
  rw [← a, ← b, ← c]
  exact h.2 k hk
theorem rn_ent {N1 N2 KS KL KW : Nat → Nat} {n m : Nat} {g : Nat → Nat} (hk : ∀ k, k < n → Wf (KS k) (KL k)) (h : RN N2 KS KL KW n) (hE : EntR N1 N2 g) (h0 : N1 0 = m) (hm : m ≤ 24) (hg : ∀ k, k < m → g k < n) : RN N1 (fun k => KS (g k)) (fun k => KL (g k)) (fun k => KW (g k)) m := by
  refine ⟨h0, fun k hk2 => ?_⟩
  obtain ⟨a, b, c⟩ := hE k (by omega)
  obtain ⟨a', b', c'⟩ := h.2 (g k) (hg k hk2)
  have h8 := (hk (g k) (hg k hk2)).1
  exact ⟨a.trans a', b.trans b', fun i hi => by have hi : i < KS (g k) := hi; exact (c i (by omega)).trans (c' i hi)⟩
theorem tk_step {N NW : Nat → Nat} {k e : Nat} (h : EntR N NW (fun j => if k ≤ j ∧ j < e then j + 1 else j)) (hke : k ≤ e) (he : e + 1 < 24) : EntR (mvF N (e + 1) e) NW (fun j => if k ≤ j ∧ j < e + 1 then j + 1 else j) := by
  intro j hj
  have a := mv_ent N (a := e + 1) (b := e) he (by omega) (by omega) j hj
  by_cases q : j = e
  · subst q
    have b := h (j + 1) he
    dsimp only at a b ⊢
    rw [if_pos rfl] at a
    rw [if_neg (by omega)] at b
    rw [if_pos (by omega)]
    exact ⟨a.1.trans b.1, a.2.1.trans b.2.1, fun i hi => (a.2.2 i hi).trans (b.2.2 i hi)⟩
  · have b := h j hj
    dsimp only at a b ⊢
    rw [if_neg q] at a
    have e2 : (if k ≤ j ∧ j < e + 1 then j + 1 else j) = (if k ≤ j ∧ j < e then j + 1 else j) := by split <;> split <;> omega
    rw [e2]
    exact ⟨a.1.trans b.1, a.2.1.trans b.2.1, fun i hi => (a.2.2 i hi).trans (b.2.2 i hi)⟩
theorem ps_step {N NW : Nat → Nat} {n e : Nat} (h : EntR N NW (fun j => if e < j ∧ j ≤ n then j - 1 else j)) (h0 : 0 < e) (hen : e ≤ n) (hn : n < 24) : EntR (mvF N (e - 1) e) NW (fun j => if e - 1 < j ∧ j ≤ n then j - 1 else j) := by
  intro j hj
  have a := mv_ent N (a := e - 1) (b := e) (by omega) (by omega) (by omega) j hj
  by_cases q : j = e
  · subst q
    have b := h (j - 1) (by omega)
    dsimp only at a b ⊢
    rw [if_pos rfl] at a
    rw [if_neg (by omega)] at b
    rw [if_pos (by omega)]
    exact ⟨a.1.trans b.1, a.2.1.trans b.2.1, fun i hi => (a.2.2 i hi).trans (b.2.2 i hi)⟩
  · have b := h j hj
    dsimp only at a b ⊢
    rw [if_neg q] at a
    have e2 : (if e - 1 < j ∧ j ≤ n then j - 1 else j) = (if e < j ∧ j ≤ n then j - 1 else j) := by split <;> split <;> omega
    rw [e2]
    exact ⟨a.1.trans b.1, a.2.1.trans b.2.1, fun i hi => (a.2.2 i hi).trans (b.2.2 i hi)⟩
theorem rn_up0 {N KS KL KW : Nat → Nat} {g : Nat → Nat} {N2 : Nat → Nat} {v : Nat} (hE : EntR N N2 g) : EntR (up N 0 v) N2 g := by
  intro k hk
  obtain ⟨a, b, c⟩ := hE k hk
  exact ⟨by rw [up_ne _ _ (by omega)]; exact a, by rw [up_ne _ _ (by omega)]; exact b, fun i hi => by rw [up_ne _ _ (by omega)]; exact c i hi⟩
theorem rn_take {N NW KS KL KW : Nat → Nat} {n k : Nat} (hn : n ≤ 24) (hkn : k < n) (hk : ∀ k, k < n → Wf (KS k) (KL k)) (h : RN NW KS KL KW n) (hE : EntR N NW (fun j => if k ≤ j ∧ j < n - 1 then j + 1 else j)) : RN (up N 0 (n - 1)) (rmvF k 1 n KS) (rmvF k 1 n KL) (rmvF k 1 n KW) (n - 1) := by
  have a := rn_ent hk h (rn_up0 (KS := KS) (KL := KL) (KW := KW) (v := n - 1) hE) (up_eq _ _ _) (by omega) (fun j hj => by split <;> omega)
  refine rn_congr a (fun j hj => ?_)
  rw [rmv_at hj, rmv_at hj, rmv_at hj]
  have e : (if k ≤ j ∧ j < n - 1 then j + 1 else j) = (if k ≤ j then j + 1 else j) := by split <;> split <;> omega
  rw [e]
  exact ⟨rfl, rfl, rfl⟩
theorem rn_upw {NW KS KL KW : Nat → Nat} {n p v : Nat} (hp : p < n) (hn : n ≤ 24) (hk : ∀ k, k < n → Wf (KS k) (KL k)) (h : RN NW KS KL KW n) : RN (up NW (25 + p) v) KS KL (up KW p v) n := by
  refine ⟨by rw [up_ne _ _ (by omega)]; exact h.1, fun k hk2 => ?_⟩
  obtain ⟨a, b, c⟩ := h.2 k hk2
  have h8 := (hk k hk2).1
  refine ⟨by rw [up_ne _ _ (by omega)]; exact a, ?_, fun i hi => by rw [up_ne _ _ (by omega)]; exact c i hi⟩
  by_cases e : k = p
  · rw [e, up_eq, up_eq]
  · rw [up_ne _ _ (by omega), up_ne _ _ e]; exact b
theorem rn_put {N NW WD KS KL KW : Nat → Nat} {n p s A v : Nat} (hn : n < 24) (hp : p ≤ n) (hk : ∀ k, k < n → Wf (KS k) (KL k)) (hw0 : Wf s A) (h : RN NW KS KL KW n) (hW : RW WD s A) (hE : EntR N NW (fun j => if p < j ∧ j ≤ n then j - 1 else j)) : RN (up (va_cpy WD (up (up N 0 (n + 1)) (1 + p) s) 0 (49 + (8 * p)) 8) (25 + p) v) (insF p s n KS) (insF p A n KL) (insF p v n KW) (n + 1) := by
  have hs := hw0.1
  have o1 : ∀ x, x ≠ 25 + p → (x < 49 + 8 * p ∨ 49 + 8 * p + 8 ≤ x) → x ≠ 1 + p → x ≠ 0 → up (va_cpy WD (up (up N 0 (n + 1)) (1 + p) s) 0 (49 + (8 * p)) 8) (25 + p) v x = N x := by
    intro x h1 h2 h3 h4
    rw [up_ne _ _ h1]
    unfold va_cpy
    rw [if_neg (by omega), up_ne _ _ h3, up_ne _ _ h4]
  refine ⟨?_, fun k hk2 => ?_⟩
  · rw [up_ne _ _ (by omega)]
    unfold va_cpy
    rw [if_neg (by omega), up_ne _ _ (by omega), up_eq]
  · rcases Nat.lt_trichotomy k p with g | g | g
    · obtain ⟨a, b, c⟩ := hE k (by omega)
      obtain ⟨a', b', c'⟩ := h.2 k (by omega)
      have h8 := (hk k (by omega)).1
      dsimp only at a b c
      rw [if_neg (by omega)] at a b
      have i1 : insF p s n KS k = KS k := by unfold insF; rw [if_pos g]
      have i2 : insF p v n KW k = KW k := by unfold insF; rw [if_pos g]
      have i3 : insF p A n KL k = KL k := by unfold insF; rw [if_pos g]
      rw [i1, i2, i3]
      refine ⟨by rw [o1 _ (by omega) (by omega) (by omega) (by omega)]; exact a.trans a', by rw [o1 _ (by omega) (by omega) (by omega) (by omega)]; exact b.trans b', fun i hi => ?_⟩
      rw [o1 _ (by omega) (by omega) (by omega) (by omega)]
      have c := c i (by omega)
      rw [if_neg (by omega)] at c
      exact c.trans (c' i hi)
    · subst g
      have i1 : insF k s n KS k = s := by unfold insF; rw [if_neg (by omega), if_pos rfl]
      have i2 : insF k v n KW k = v := by unfold insF; rw [if_neg (by omega), if_pos rfl]
      have i3 : insF k A n KL k = A := by unfold insF; rw [if_neg (by omega), if_pos rfl]
      rw [i1, i2, i3]
      refine ⟨?_, up_eq _ _ _, fun i hi => ?_⟩
      · rw [up_ne _ _ (by omega)]
        unfold va_cpy
        rw [if_neg (by omega), up_eq]
      · rw [up_ne _ _ (by omega)]
        unfold va_cpy
        rw [if_pos (by omega), show 0 + (49 + 8 * k + i - (49 + 8 * k)) = i by omega]
        exact hW i hi
    · obtain ⟨a, b, c⟩ := hE k (by omega)
      obtain ⟨a', b', c'⟩ := h.2 (k - 1) (by omega)
      have h8 := (hk (k - 1) (by omega)).1
      dsimp only at a b c
      rw [if_pos (by omega)] at a b
      have i1 : insF p s n KS k = KS (k - 1) := by unfold insF; rw [if_neg (show ¬ k < p by omega), if_neg (show ¬ k = p by omega), if_pos (show k ≤ n by omega)]
      have i2 : insF p v n KW k = KW (k - 1) := by unfold insF; rw [if_neg (show ¬ k < p by omega), if_neg (show ¬ k = p by omega), if_pos (show k ≤ n by omega)]
      have i3 : insF p A n KL k = KL (k - 1) := by unfold insF; rw [if_neg (show ¬ k < p by omega), if_neg (show ¬ k = p by omega), if_pos (show k ≤ n by omega)]
      rw [i1, i2, i3]
      refine ⟨by rw [o1 _ (by omega) (by omega) (by omega) (by omega)]; exact a.trans a', by rw [o1 _ (by omega) (by omega) (by omega) (by omega)]; exact b.trans b', fun i hi => ?_⟩
      rw [o1 _ (by omega) (by omega) (by omega) (by omega)]
      have c := c i (by omega)
      rw [if_pos (by omega)] at c
      exact c.trans (c' i hi)
/-- what notes() lays down: the row of keys as the last, the others one lower if there were twenty -/
def NoteR (NW PS : Nat → Nat) (u : Nat) (PS' : Nat → Nat) : Prop := ∀ j, j < min 20 (u + 1) → ∀ x, x < 241 → PS' (241 * j + x) = if j + 1 = min 20 (u + 1) then NW x else PS (241 * (if u = 20 then j + 1 else j) + x)
theorem note_more {NW PS : Nat → Nat} {u : Nat} (hu : u < 20) : NoteR NW PS u (va_cpy NW PS 0 (241 * u) 241) := by
  intro j hj x hx
  unfold va_cpy
  rw [if_neg (show ¬ u = 20 by omega)]
  by_cases e : j = u
  · rw [if_pos (by omega), if_pos (by omega), e, show 0 + (241 * u + x - 241 * u) = x by omega]
  · rw [if_neg (by omega), if_neg (by omega)]
theorem note_full {NW PS E : Nat → Nat} {u : Nat} (hu : u = 20) (hE : ∀ x, E x = if x < 4579 then PS (x + 241) else PS x) : NoteR NW PS u (va_cpy NW E 0 (241 * (u - 1)) 241) := by
  intro j hj x hx
  unfold va_cpy
  rw [if_pos hu]
  by_cases e : j = 19
  · rw [if_pos (by omega), if_pos (by omega), show 0 + (241 * j + x - 241 * (u - 1)) = x by omega]
  · rw [if_neg (by omega), if_neg (by omega), hE, if_pos (by omega), show 241 * j + x + 241 = 241 * (j + 1) + x by omega]
set_option maxHeartbeats 4000000 in
set_option maxRecDepth 100000 in
theorem c_X6_moves (l : Launch) (D : va_G) (cI cJ cZ : ClassId) (m0 nw ps im mk wd so mb ma mf mw ml mu wt ty : Nat) (NW : Nat → Nat) (PS : Nat → Nat) (u : Nat) (IM : Nat → Nat) (MK : Nat → Nat) (sd : Nat) (WD : Nat → Nat) (s : Nat) (SO : Nat → Nat) (q : Nat) (EB : Nat → Nat) (EA : Nat → Nat) (EF : Nat → Nat) (EW : Nat → Nat) (EL : Nat → Nat) (EU : Nat → Nat) (br : Nat) (WT : Nat → Nat) (ww : Nat) (TY : Nat → Nat) (a b : Nat) (ha : a < 24) (hb24 : b < 24) (hab : a ≠ b) (sz : Nat) : WR l yX6_moves cX6_moves 3 none (rmN 1 25) D (ty3 cI cJ cZ) [.ref m0, .int (nI a), .int (nI b)] [(m0, .inr (6, [.ref nw, .ref ps, .int (nI u), .ref im, .ref mk, .int (nI sd), .ref wd, .int (nI s), .ref so, .int (nI q), .ref mb, .ref ma, .ref mf, .ref mw, .ref ml, .ref mu, .int (nI br), .ref wt, .int (nI ww), .ref ty])), (nw, .inl (cI, 241, .inl (nF NW))), (ps, .inl (cI, 4820, .inl (nF PS))), (im, .inl (cI, 484, .inl (nF IM))), (mk, .inl (cZ, 2, .inl (nF MK))), (wd, .inl (cI, 8, .inl (nF WD))), (so, .inl (cI, 24, .inl (nF SO))), (mb, .inl (cI, 24, .inl (nF EB))), (ma, .inl (cI, 24, .inl (nF EA))), (mf, .inl (cI, 24, .inl (nF EF))), (mw, .inl (cI, 24, .inl (nF EW))), (ml, .inl (cI, 24, .inl (nF EL))), (mu, .inl (cI, 24, .inl (oF EU))), (wt, .inl (cI, 200, .inl (oF WT))), (ty, .inl (cI, 8, .inl (nF TY)))] sz (fun x w => x = none ∧ w = [(m0, .inr (6, [.ref nw, .ref ps, .int (nI u), .ref im, .ref mk, .int (nI sd), .ref wd, .int (nI s), .ref so, .int (nI q), .ref mb, .ref ma, .ref mf, .ref mw, .ref ml, .ref mu, .int (nI br), .ref wt, .int (nI ww), .ref ty])), (nw, .inl (cI, 241, .inl (nF (mvF NW a b)))), (ps, .inl (cI, 4820, .inl (nF PS))), (im, .inl (cI, 484, .inl (nF IM))), (mk, .inl (cZ, 2, .inl (nF MK))), (wd, .inl (cI, 8, .inl (nF WD))), (so, .inl (cI, 24, .inl (nF SO))), (mb, .inl (cI, 24, .inl (nF EB))), (ma, .inl (cI, 24, .inl (nF EA))), (mf, .inl (cI, 24, .inl (nF EF))), (mw, .inl (cI, 24, .inl (nF EW))), (ml, .inl (cI, 24, .inl (nF EL))), (mu, .inl (cI, 24, .inl (oF EU))), (wt, .inl (cI, 200, .inl (oF WT))), (ty, .inl (cI, 8, .inl (nF TY)))]) := by
  refine wr_start (by decide) (Nat.le_of_ble_eq_true rfl) ?_
  intro pp ee ss mm below meth cd AA C0 hAA hP hK hD hS hN hnm ls hl
  obtain ⟨hx, hb, hr, hml, hown, hts, hlk⟩ := C0
  have hown : ss.vm.findClass RX6 = some mm.cls := hown
  have hl : lv_has ls 3 [(0, .ref m0), (1, .int (nI a)), (2, .int (nI b))] := hl
  have hP : va_P D vwCl [(m0, .inr (6, [.ref nw, .ref ps, .int (nI u), .ref im, .ref mk, .int (nI sd), .ref wd, .int (nI s), .ref so, .int (nI q), .ref mb, .ref ma, .ref mf, .ref mw, .ref ml, .ref mu, .int (nI br), .ref wt, .int (nI ww), .ref ty])), (nw, .inl (cI, 241, .inl (nF NW))), (ps, .inl (cI, 4820, .inl (nF PS))), (im, .inl (cI, 484, .inl (nF IM))), (mk, .inl (cZ, 2, .inl (nF MK))), (wd, .inl (cI, 8, .inl (nF WD))), (so, .inl (cI, 24, .inl (nF SO))), (mb, .inl (cI, 24, .inl (nF EB))), (ma, .inl (cI, 24, .inl (nF EA))), (mf, .inl (cI, 24, .inl (nF EF))), (mw, .inl (cI, 24, .inl (nF EW))), (ml, .inl (cI, 24, .inl (nF EL))), (mu, .inl (cI, 24, .inl (oF EU))), (wt, .inl (cI, 200, .inl (oF WT))), (ty, .inl (cI, 8, .inl (nF TY)))] ss.heap := hP
  refine lv_aload_n hx hb dX6_moves_0 rfl (lv_at hl 0 rfl) ?_
  refine va_get (D := D) (ci := 6) (v := .ref nw) (C := RX6) (T := TX6) (N := 20) hx hb hts inX6 hown hK hP 0 rfl rfl 0 (by decide) (hts _ mf_X6_7) (fun _ h9 => h9) rfl dX6_moves_1 ?_
  refine lv_iconst (v := nI 1) hx hb dX6_moves_4 (by decide +kernel) ?_
  refine lv_iload_n hx hb dX6_moves_5 rfl (lv_at hl 2 rfl) ?_
  refine n_iadd hx hb dX6_moves_6 ?_
  refine lv_aload_n hx hb dX6_moves_7 rfl (lv_at hl 0 rfl) ?_
  refine va_get (D := D) (ci := 6) (v := .ref nw) (C := RX6) (T := TX6) (N := 20) hx hb hts inX6 hown hK hP 0 rfl rfl 0 (by decide) (hts _ mf_X6_7) (fun _ h9 => h9) rfl dX6_moves_8 ?_
  refine lv_iconst (v := nI 1) hx hb dX6_moves_11 (by decide +kernel) ?_
  refine lv_iload_n hx hb dX6_moves_12 rfl (lv_at hl 1 rfl) ?_
  refine n_iadd hx hb dX6_moves_13 ?_
  refine n_iald hx hb hK hP 1 0 rfl rfl (k := (1 + a)) (by omega) (by decide) dX6_moves_14 ?_
  refine n_iast hx hb hK hP hD hS 1 0 rfl rfl (k := (1 + b)) (v := (NW (1 + a))) (by omega) (by decide) dX6_moves_15 (fun H locs hP hD hS => ?_)
  have hP : va_P D vwCl [(m0, .inr (6, [.ref nw, .ref ps, .int (nI u), .ref im, .ref mk, .int (nI sd), .ref wd, .int (nI s), .ref so, .int (nI q), .ref mb, .ref ma, .ref mf, .ref mw, .ref ml, .ref mu, .int (nI br), .ref wt, .int (nI ww), .ref ty])), (nw, .inl (cI, 241, .inl (nF (up NW (1 + b) (NW (1 + a)))))), (ps, .inl (cI, 4820, .inl (nF PS))), (im, .inl (cI, 484, .inl (nF IM))), (mk, .inl (cZ, 2, .inl (nF MK))), (wd, .inl (cI, 8, .inl (nF WD))), (so, .inl (cI, 24, .inl (nF SO))), (mb, .inl (cI, 24, .inl (nF EB))), (ma, .inl (cI, 24, .inl (nF EA))), (mf, .inl (cI, 24, .inl (nF EF))), (mw, .inl (cI, 24, .inl (nF EW))), (ml, .inl (cI, 24, .inl (nF EL))), (mu, .inl (cI, 24, .inl (oF EU))), (wt, .inl (cI, 200, .inl (oF WT))), (ty, .inl (cI, 8, .inl (nF TY)))] H := hP
  have hD : va_D AA [(m0, .inr (6, [.ref nw, .ref ps, .int (nI u), .ref im, .ref mk, .int (nI sd), .ref wd, .int (nI s), .ref so, .int (nI q), .ref mb, .ref ma, .ref mf, .ref mw, .ref ml, .ref mu, .int (nI br), .ref wt, .int (nI ww), .ref ty])), (nw, .inl (cI, 241, .inl (nF (up NW (1 + b) (NW (1 + a)))))), (ps, .inl (cI, 4820, .inl (nF PS))), (im, .inl (cI, 484, .inl (nF IM))), (mk, .inl (cZ, 2, .inl (nF MK))), (wd, .inl (cI, 8, .inl (nF WD))), (so, .inl (cI, 24, .inl (nF SO))), (mb, .inl (cI, 24, .inl (nF EB))), (ma, .inl (cI, 24, .inl (nF EA))), (mf, .inl (cI, 24, .inl (nF EF))), (mw, .inl (cI, 24, .inl (nF EW))), (ml, .inl (cI, 24, .inl (nF EL))), (mu, .inl (cI, 24, .inl (oF EU))), (wt, .inl (cI, 200, .inl (oF WT))), (ty, .inl (cI, 8, .inl (nF TY)))] := hD
  refine lv_aload_n hx hb dX6_moves_16 rfl (lv_at hl 0 rfl) ?_
  refine va_get (D := D) (ci := 6) (v := .ref nw) (C := RX6) (T := TX6) (N := 20) hx hb hts inX6 hown hK hP 0 rfl rfl 0 (by decide) (hts _ mf_X6_7) (fun _ h9 => h9) rfl dX6_moves_17 ?_
  refine lv_bipush (v := nI 25) hx hb dX6_moves_20 (by decide +kernel) ?_
  refine lv_iload_n hx hb dX6_moves_22 rfl (lv_at hl 2 rfl) ?_
  refine n_iadd hx hb dX6_moves_23 ?_
  refine lv_aload_n hx hb dX6_moves_24 rfl (lv_at hl 0 rfl) ?_
  refine va_get (D := D) (ci := 6) (v := .ref nw) (C := RX6) (T := TX6) (N := 20) hx hb hts inX6 hown hK hP 0 rfl rfl 0 (by decide) (hts _ mf_X6_7) (fun _ h9 => h9) rfl dX6_moves_25 ?_
  refine lv_bipush (v := nI 25) hx hb dX6_moves_28 (by decide +kernel) ?_
  refine lv_iload_n hx hb dX6_moves_30 rfl (lv_at hl 1 rfl) ?_
  refine n_iadd hx hb dX6_moves_31 ?_
  refine n_iald hx hb hK hP 1 0 rfl rfl (k := (25 + a)) (by omega) (by decide) dX6_moves_32 ?_
  refine n_iast hx hb hK hP hD hS 1 0 rfl rfl (k := (25 + b)) (v := ((up NW (1 + b) (NW (1 + a))) (25 + a))) (by omega) (by decide) dX6_moves_33 (fun H locs hP hD hS => ?_)
  have hP : va_P D vwCl [(m0, .inr (6, [.ref nw, .ref ps, .int (nI u), .ref im, .ref mk, .int (nI sd), .ref wd, .int (nI s), .ref so, .int (nI q), .ref mb, .ref ma, .ref mf, .ref mw, .ref ml, .ref mu, .int (nI br), .ref wt, .int (nI ww), .ref ty])), (nw, .inl (cI, 241, .inl (nF (up (up NW (1 + b) (NW (1 + a))) (25 + b) ((up NW (1 + b) (NW (1 + a))) (25 + a)))))), (ps, .inl (cI, 4820, .inl (nF PS))), (im, .inl (cI, 484, .inl (nF IM))), (mk, .inl (cZ, 2, .inl (nF MK))), (wd, .inl (cI, 8, .inl (nF WD))), (so, .inl (cI, 24, .inl (nF SO))), (mb, .inl (cI, 24, .inl (nF EB))), (ma, .inl (cI, 24, .inl (nF EA))), (mf, .inl (cI, 24, .inl (nF EF))), (mw, .inl (cI, 24, .inl (nF EW))), (ml, .inl (cI, 24, .inl (nF EL))), (mu, .inl (cI, 24, .inl (oF EU))), (wt, .inl (cI, 200, .inl (oF WT))), (ty, .inl (cI, 8, .inl (nF TY)))] H := hP
  have hD : va_D AA [(m0, .inr (6, [.ref nw, .ref ps, .int (nI u), .ref im, .ref mk, .int (nI sd), .ref wd, .int (nI s), .ref so, .int (nI q), .ref mb, .ref ma, .ref mf, .ref mw, .ref ml, .ref mu, .int (nI br), .ref wt, .int (nI ww), .ref ty])), (nw, .inl (cI, 241, .inl (nF (up (up NW (1 + b) (NW (1 + a))) (25 + b) ((up NW (1 + b) (NW (1 + a))) (25 + a)))))), (ps, .inl (cI, 4820, .inl (nF PS))), (im, .inl (cI, 484, .inl (nF IM))), (mk, .inl (cZ, 2, .inl (nF MK))), (wd, .inl (cI, 8, .inl (nF WD))), (so, .inl (cI, 24, .inl (nF SO))), (mb, .inl (cI, 24, .inl (nF EB))), (ma, .inl (cI, 24, .inl (nF EA))), (mf, .inl (cI, 24, .inl (nF EF))), (mw, .inl (cI, 24, .inl (nF EW))), (ml, .inl (cI, 24, .inl (nF EL))), (mu, .inl (cI, 24, .inl (oF EU))), (wt, .inl (cI, 200, .inl (oF WT))), (ty, .inl (cI, 8, .inl (nF TY)))] := hD
  refine lv_aload_n hx hb dX6_moves_34 rfl (lv_at hl 0 rfl) ?_
  refine va_get (D := D) (ci := 6) (v := .ref nw) (C := RX6) (T := TX6) (N := 20) hx hb hts inX6 hown hK hP 0 rfl rfl 0 (by decide) (hts _ mf_X6_7) (fun _ h9 => h9) rfl dX6_moves_35 ?_
  refine lv_bipush (v := nI 49) hx hb dX6_moves_38 (by decide +kernel) ?_
  refine lv_bipush (v := nI 8) hx hb dX6_moves_40 (by decide +kernel) ?_
  refine lv_iload_n hx hb dX6_moves_42 rfl (lv_at hl 1 rfl) ?_
  refine n_imul hx hb dX6_moves_43 ?_
  refine n_iadd hx hb dX6_moves_44 ?_
  refine lv_aload_n hx hb dX6_moves_45 rfl (lv_at hl 0 rfl) ?_
  refine va_get (D := D) (ci := 6) (v := .ref nw) (C := RX6) (T := TX6) (N := 20) hx hb hts inX6 hown hK hP 0 rfl rfl 0 (by decide) (hts _ mf_X6_7) (fun _ h9 => h9) rfl dX6_moves_46 ?_
  refine lv_bipush (v := nI 49) hx hb dX6_moves_49 (by decide +kernel) ?_
  refine lv_bipush (v := nI 8) hx hb dX6_moves_51 (by decide +kernel) ?_
  refine lv_iload_n hx hb dX6_moves_53 rfl (lv_at hl 2 rfl) ?_
  refine n_imul hx hb dX6_moves_54 ?_
  refine n_iadd hx hb dX6_moves_55 ?_
  refine lv_bipush (v := nI 8) hx hb dX6_moves_56 (by decide +kernel) ?_
  refine wr_S (As := [.ref nw, .int (nI (49 + (8 * a))), .ref nw, .int (nI (49 + (8 * b))), .int (nI 8)]) (rest := []) (wc := [(nw, .inl (cI, 241, .inl (nF (up (up NW (1 + b) (NW (1 + a))) (25 + b) ((up NW (1 + b) (NW (1 + a))) (25 + a))))))]) (wr := [(m0, .inr (6, [.ref nw, .ref ps, .int (nI u), .ref im, .ref mk, .int (nI sd), .ref wd, .int (nI s), .ref so, .int (nI q), .ref mb, .ref ma, .ref mf, .ref mw, .ref ml, .ref mu, .int (nI br), .ref wt, .int (nI ww), .ref ty])), (ps, .inl (cI, 4820, .inl (nF PS))), (im, .inl (cI, 484, .inl (nF IM))), (mk, .inl (cZ, 2, .inl (nF MK))), (wd, .inl (cI, 8, .inl (nF WD))), (so, .inl (cI, 24, .inl (nF SO))), (mb, .inl (cI, 24, .inl (nF EB))), (ma, .inl (cI, 24, .inl (nF EA))), (mf, .inl (cI, 24, .inl (nF EF))), (mw, .inl (cI, 24, .inl (nF EW))), (ml, .inl (cI, 24, .inl (nF EL))), (mu, .inl (cI, 24, .inl (oF EU))), (wt, .inl (cI, 200, .inl (oF WT))), (ty, .inl (cI, 8, .inl (nF TY)))]) ⟨hx, hb, hml, hown, hts⟩ (c_X6_copies_1 l D cI cJ cZ nw 241 (49 + (8 * a)) (49 + (8 * b)) 8 (up (up NW (1 + b) (NW (1 + a))) (25 + b) ((up NW (1 + b) (NW (1 + a))) (25 + a))) (by decide) (by omega) (by omega) (by omega) _) (k_X6_90 hts ⟨Nat.le_of_ble_eq_true rfl, Nat.le_of_ble_eq_true rfl⟩) hK hN hP hD hS hAA [1] [0, 2, 3, 4, 5, 6, 7, 8, 9, 10, 11, 12, 13, 14] rfl rfl (by decide) (by decide) (by decide) rfl hl.1 rfl (Nat.le_of_ble_eq_true rfl) dX6_moves_58 ⟨Nat.le_of_ble_eq_true rfl, Nat.le_of_ble_eq_true rfl⟩ (fun v2 w3 H locs hp1 hP hD hS => ?_)
  obtain ⟨rfl, rfl⟩ := hp1
  have hP : va_P D vwCl [(m0, .inr (6, [.ref nw, .ref ps, .int (nI u), .ref im, .ref mk, .int (nI sd), .ref wd, .int (nI s), .ref so, .int (nI q), .ref mb, .ref ma, .ref mf, .ref mw, .ref ml, .ref mu, .int (nI br), .ref wt, .int (nI ww), .ref ty])), (nw, .inl (cI, 241, .inl (nF (va_cpy (up (up NW (1 + b) (NW (1 + a))) (25 + b) ((up NW (1 + b) (NW (1 + a))) (25 + a))) (up (up NW (1 + b) (NW (1 + a))) (25 + b) ((up NW (1 + b) (NW (1 + a))) (25 + a))) (49 + (8 * a)) (49 + (8 * b)) 8)))), (ps, .inl (cI, 4820, .inl (nF PS))), (im, .inl (cI, 484, .inl (nF IM))), (mk, .inl (cZ, 2, .inl (nF MK))), (wd, .inl (cI, 8, .inl (nF WD))), (so, .inl (cI, 24, .inl (nF SO))), (mb, .inl (cI, 24, .inl (nF EB))), (ma, .inl (cI, 24, .inl (nF EA))), (mf, .inl (cI, 24, .inl (nF EF))), (mw, .inl (cI, 24, .inl (nF EW))), (ml, .inl (cI, 24, .inl (nF EL))), (mu, .inl (cI, 24, .inl (oF EU))), (wt, .inl (cI, 200, .inl (oF WT))), (ty, .inl (cI, 8, .inl (nF TY)))] H := hP.sub [0, 14, 1, 2, 3, 4, 5, 6, 7, 8, 9, 10, 11, 12, 13] rfl
  have hD : va_D AA [(m0, .inr (6, [.ref nw, .ref ps, .int (nI u), .ref im, .ref mk, .int (nI sd), .ref wd, .int (nI s), .ref so, .int (nI q), .ref mb, .ref ma, .ref mf, .ref mw, .ref ml, .ref mu, .int (nI br), .ref wt, .int (nI ww), .ref ty])), (nw, .inl (cI, 241, .inl (nF (va_cpy (up (up NW (1 + b) (NW (1 + a))) (25 + b) ((up NW (1 + b) (NW (1 + a))) (25 + a))) (up (up NW (1 + b) (NW (1 + a))) (25 + b) ((up NW (1 + b) (NW (1 + a))) (25 + a))) (49 + (8 * a)) (49 + (8 * b)) 8)))), (ps, .inl (cI, 4820, .inl (nF PS))), (im, .inl (cI, 484, .inl (nF IM))), (mk, .inl (cZ, 2, .inl (nF MK))), (wd, .inl (cI, 8, .inl (nF WD))), (so, .inl (cI, 24, .inl (nF SO))), (mb, .inl (cI, 24, .inl (nF EB))), (ma, .inl (cI, 24, .inl (nF EA))), (mf, .inl (cI, 24, .inl (nF EF))), (mw, .inl (cI, 24, .inl (nF EW))), (ml, .inl (cI, 24, .inl (nF EL))), (mu, .inl (cI, 24, .inl (oF EU))), (wt, .inl (cI, 200, .inl (oF WT))), (ty, .inl (cI, 8, .inl (nF TY)))] := hD.sub [0, 14, 1, 2, 3, 4, 5, 6, 7, 8, 9, 10, 11, 12, 13] (by decide) rfl
  exact wr_vret hx hb hr hlk hP hD hS dX6_moves_61 (⟨rfl, rfl⟩)
set_option maxHeartbeats 4000000 in
set_option maxRecDepth 100000 in
theorem c_X6_takes (l : Launch) (D : va_G) (cI cJ cZ : ClassId) (m0 nw ps im mk wd so mb ma mf mw ml mu wt ty : Nat) (NW : Nat → Nat) (PS : Nat → Nat) (u : Nat) (IM : Nat → Nat) (MK : Nat → Nat) (sd : Nat) (WD : Nat → Nat) (s : Nat) (SO : Nat → Nat) (q : Nat) (EB : Nat → Nat) (EA : Nat → Nat) (EF : Nat → Nat) (EW : Nat → Nat) (EL : Nat → Nat) (EU : Nat → Nat) (br : Nat) (WT : Nat → Nat) (ww : Nat) (TY : Nat → Nat) (KS KL KW : Nat → Nat) (n : Nat) (hn : n ≤ 24) (hk : ∀ k, k < n → Wf (KS k) (KL k)) (hR : RN NW KS KL KW n) (k : Nat) (hkn : k < n) (sz : Nat) : WR l yX6_takes cX6_takes 3 none (rmN 2 47) D (ty3 cI cJ cZ) [.ref m0, .int (nI k)] [(m0, .inr (6, [.ref nw, .ref ps, .int (nI u), .ref im, .ref mk, .int (nI sd), .ref wd, .int (nI s), .ref so, .int (nI q), .ref mb, .ref ma, .ref mf, .ref mw, .ref ml, .ref mu, .int (nI br), .ref wt, .int (nI ww), .ref ty])), (nw, .inl (cI, 241, .inl (nF NW))), (ps, .inl (cI, 4820, .inl (nF PS))), (im, .inl (cI, 484, .inl (nF IM))), (mk, .inl (cZ, 2, .inl (nF MK))), (wd, .inl (cI, 8, .inl (nF WD))), (so, .inl (cI, 24, .inl (nF SO))), (mb, .inl (cI, 24, .inl (nF EB))), (ma, .inl (cI, 24, .inl (nF EA))), (mf, .inl (cI, 24, .inl (nF EF))), (mw, .inl (cI, 24, .inl (nF EW))), (ml, .inl (cI, 24, .inl (nF EL))), (mu, .inl (cI, 24, .inl (oF EU))), (wt, .inl (cI, 200, .inl (oF WT))), (ty, .inl (cI, 8, .inl (nF TY)))] sz (fun x w => x = none ∧ ∃ N : Nat → Nat, w = [(m0, .inr (6, [.ref nw, .ref ps, .int (nI u), .ref im, .ref mk, .int (nI sd), .ref wd, .int (nI s), .ref so, .int (nI q), .ref mb, .ref ma, .ref mf, .ref mw, .ref ml, .ref mu, .int (nI br), .ref wt, .int (nI ww), .ref ty])), (nw, .inl (cI, 241, .inl (nF N))), (ps, .inl (cI, 4820, .inl (nF PS))), (im, .inl (cI, 484, .inl (nF IM))), (mk, .inl (cZ, 2, .inl (nF MK))), (wd, .inl (cI, 8, .inl (nF WD))), (so, .inl (cI, 24, .inl (nF SO))), (mb, .inl (cI, 24, .inl (nF EB))), (ma, .inl (cI, 24, .inl (nF EA))), (mf, .inl (cI, 24, .inl (nF EF))), (mw, .inl (cI, 24, .inl (nF EW))), (ml, .inl (cI, 24, .inl (nF EL))), (mu, .inl (cI, 24, .inl (oF EU))), (wt, .inl (cI, 200, .inl (oF WT))), (ty, .inl (cI, 8, .inl (nF TY)))] ∧ RN N (rmvF k 1 n KS) (rmvF k 1 n KL) (rmvF k 1 n KW) (n - 1)) := by
  have hN0 := hR.1
  refine wr_start (by decide) (Nat.le_of_ble_eq_true rfl) ?_
  intro pp ee ss mm below meth cd AA C0 hAA hP hK hD hS hN hnm ls hl
  obtain ⟨hx, hb, hr, hml, hown, hts, hlk⟩ := C0
  have hown : ss.vm.findClass RX6 = some mm.cls := hown
  have hl : lv_has ls 3 [(0, .ref m0), (1, .int (nI k))] := hl
  have hP : va_P D vwCl [(m0, .inr (6, [.ref nw, .ref ps, .int (nI u), .ref im, .ref mk, .int (nI sd), .ref wd, .int (nI s), .ref so, .int (nI q), .ref mb, .ref ma, .ref mf, .ref mw, .ref ml, .ref mu, .int (nI br), .ref wt, .int (nI ww), .ref ty])), (nw, .inl (cI, 241, .inl (nF NW))), (ps, .inl (cI, 4820, .inl (nF PS))), (im, .inl (cI, 484, .inl (nF IM))), (mk, .inl (cZ, 2, .inl (nF MK))), (wd, .inl (cI, 8, .inl (nF WD))), (so, .inl (cI, 24, .inl (nF SO))), (mb, .inl (cI, 24, .inl (nF EB))), (ma, .inl (cI, 24, .inl (nF EA))), (mf, .inl (cI, 24, .inl (nF EF))), (mw, .inl (cI, 24, .inl (nF EW))), (ml, .inl (cI, 24, .inl (nF EL))), (mu, .inl (cI, 24, .inl (oF EU))), (wt, .inl (cI, 200, .inl (oF WT))), (ty, .inl (cI, 8, .inl (nF TY)))] ss.heap := hP
  refine lv_iload_n hx hb dX6_takes_0 rfl (lv_at hl 1 rfl) ?_
  refine lv_istore_n (lv' := [(2, .int (nI k)), (0, .ref m0), (1, .int (nI k))]) hx hb dX6_takes_1 rfl hl (by decide) rfl (fun ls hl => ?_)
  have loop2 : ∀ (d : Nat) (e : Nat) (N : Nat → Nat) (H : Heap) (locs : List Loc) (ls : Array Slot), n - e < d → (k ≤ e) → (e + 1 ≤ n) → (N 0 = n) → (EntR N NW (fun j => if k ≤ j ∧ j < e then j + 1 else j)) → va_P D vwCl [(m0, .inr (6, [.ref nw, .ref ps, .int (nI u), .ref im, .ref mk, .int (nI sd), .ref wd, .int (nI s), .ref so, .int (nI q), .ref mb, .ref ma, .ref mf, .ref mw, .ref ml, .ref mu, .int (nI br), .ref wt, .int (nI ww), .ref ty])), (nw, .inl (cI, 241, .inl (nF N))), (ps, .inl (cI, 4820, .inl (nF PS))), (im, .inl (cI, 484, .inl (nF IM))), (mk, .inl (cZ, 2, .inl (nF MK))), (wd, .inl (cI, 8, .inl (nF WD))), (so, .inl (cI, 24, .inl (nF SO))), (mb, .inl (cI, 24, .inl (nF EB))), (ma, .inl (cI, 24, .inl (nF EA))), (mf, .inl (cI, 24, .inl (nF EF))), (mw, .inl (cI, 24, .inl (nF EW))), (ml, .inl (cI, 24, .inl (nF EL))), (mu, .inl (cI, 24, .inl (oF EU))), (wt, .inl (cI, 200, .inl (oF WT))), (ty, .inl (cI, 8, .inl (nF TY)))] H → va_D AA [(m0, .inr (6, [.ref nw, .ref ps, .int (nI u), .ref im, .ref mk, .int (nI sd), .ref wd, .int (nI s), .ref so, .int (nI q), .ref mb, .ref ma, .ref mf, .ref mw, .ref ml, .ref mu, .int (nI br), .ref wt, .int (nI ww), .ref ty])), (nw, .inl (cI, 241, .inl (nF N))), (ps, .inl (cI, 4820, .inl (nF PS))), (im, .inl (cI, 484, .inl (nF IM))), (mk, .inl (cZ, 2, .inl (nF MK))), (wd, .inl (cI, 8, .inl (nF WD))), (so, .inl (cI, 24, .inl (nF SO))), (mb, .inl (cI, 24, .inl (nF EB))), (ma, .inl (cI, 24, .inl (nF EA))), (mf, .inl (cI, 24, .inl (nF EF))), (mw, .inl (cI, 24, .inl (nF EW))), (ml, .inl (cI, 24, .inl (nF EL))), (mu, .inl (cI, 24, .inl (oF EU))), (wt, .inl (cI, 200, .inl (oF WT))), (ty, .inl (cI, 8, .inl (nF TY)))] → va_S AA ss.heap H locs → lv_has ls 3 [(0, .ref m0), (1, .int (nI k)), (2, .int (nI e))] → W pp l ee (rmN 2 47) ss mm [.ref m0, .int (nI k)].toArray below meth cd H locs 0 0 (MQ below (QW D AA (fun x w => x = none ∧ ∃ N : Nat → Nat, w = [(m0, .inr (6, [.ref nw, .ref ps, .int (nI u), .ref im, .ref mk, .int (nI sd), .ref wd, .int (nI s), .ref so, .int (nI q), .ref mb, .ref ma, .ref mf, .ref mw, .ref ml, .ref mu, .int (nI br), .ref wt, .int (nI ww), .ref ty])), (nw, .inl (cI, 241, .inl (nF N))), (ps, .inl (cI, 4820, .inl (nF PS))), (im, .inl (cI, 484, .inl (nF IM))), (mk, .inl (cZ, 2, .inl (nF MK))), (wd, .inl (cI, 8, .inl (nF WD))), (so, .inl (cI, 24, .inl (nF SO))), (mb, .inl (cI, 24, .inl (nF EB))), (ma, .inl (cI, 24, .inl (nF EA))), (mf, .inl (cI, 24, .inl (nF EF))), (mw, .inl (cI, 24, .inl (nF EW))), (ml, .inl (cI, 24, .inl (nF EL))), (mu, .inl (cI, 24, .inl (oF EU))), (wt, .inl (cI, 200, .inl (oF WT))), (ty, .inl (cI, 8, .inl (nF TY)))] ∧ RN N (rmvF k 1 n KS) (rmvF k 1 n KL) (rmvF k 1 n KW) (n - 1))) [.ref m0, .int (nI k)].toArray ss 0 0 AA) (F0 mm 2 ls []) := by
    intro d
    induction d with
    | zero => intro e N H locs ls h; exact absurd h (Nat.not_lt_zero _)
    | succ d ih2 =>
      intro e N H locs ls hd2 h1 h2 h0 hE hP hD hS hl
      refine lv_iload_n hx hb dX6_takes_2 rfl (lv_at hl 2 rfl) ?_
      refine lv_iconst (v := nI 1) hx hb dX6_takes_3 (by decide +kernel) ?_
      refine n_iadd hx hb dX6_takes_4 ?_
      refine lv_aload_n hx hb dX6_takes_5 rfl (lv_at hl 0 rfl) ?_
      refine va_get (D := D) (ci := 6) (v := .ref nw) (C := RX6) (T := TX6) (N := 20) hx hb hts inX6 hown hK hP 0 rfl rfl 0 (by decide) (hts _ mf_X6_7) (fun _ h9 => h9) rfl dX6_takes_6 ?_
      refine lv_iconst (v := nI 0) hx hb dX6_takes_9 (by decide +kernel) ?_
      refine n_iald hx hb hK hP 1 0 rfl rfl (k := 0) (by omega) (by decide) dX6_takes_10 ?_
      refine tq (y := nI n) (congrArg nI (h0)) ?_
      refine n_ge (tgt := 28) hx hb dX6_takes_11 (by decide) (by omega) (by omega) (fun c1 => ?_) (fun c1 => ?_)
      ·
        refine lv_aload_n hx hb dX6_takes_28 rfl (lv_at hl 0 rfl) ?_
        refine va_get (D := D) (ci := 6) (v := .ref nw) (C := RX6) (T := TX6) (N := 20) hx hb hts inX6 hown hK hP 0 rfl rfl 0 (by decide) (hts _ mf_X6_7) (fun _ h9 => h9) rfl dX6_takes_29 ?_
        refine lv_iconst (v := nI 0) hx hb dX6_takes_32 (by decide +kernel) ?_
        refine lv_dup2_11 hx hb dX6_takes_33 rfl rfl ?_
        refine n_iald hx hb hK hP 1 0 rfl rfl (k := 0) (by omega) (by decide) dX6_takes_34 ?_
        refine tq (y := nI n) (congrArg nI (h0)) ?_
        refine lv_iconst (v := nI 1) hx hb dX6_takes_35 (by decide +kernel) ?_
        refine n_isub hx hb dX6_takes_36 (by omega) ?_
        refine n_iast hx hb hK hP hD hS 1 0 rfl rfl (k := 0) (v := (n - 1)) (by omega) (by decide) dX6_takes_37 (fun H locs hP hD hS => ?_)
        have hP : va_P D vwCl [(m0, .inr (6, [.ref nw, .ref ps, .int (nI u), .ref im, .ref mk, .int (nI sd), .ref wd, .int (nI s), .ref so, .int (nI q), .ref mb, .ref ma, .ref mf, .ref mw, .ref ml, .ref mu, .int (nI br), .ref wt, .int (nI ww), .ref ty])), (nw, .inl (cI, 241, .inl (nF (up N 0 (n - 1))))), (ps, .inl (cI, 4820, .inl (nF PS))), (im, .inl (cI, 484, .inl (nF IM))), (mk, .inl (cZ, 2, .inl (nF MK))), (wd, .inl (cI, 8, .inl (nF WD))), (so, .inl (cI, 24, .inl (nF SO))), (mb, .inl (cI, 24, .inl (nF EB))), (ma, .inl (cI, 24, .inl (nF EA))), (mf, .inl (cI, 24, .inl (nF EF))), (mw, .inl (cI, 24, .inl (nF EW))), (ml, .inl (cI, 24, .inl (nF EL))), (mu, .inl (cI, 24, .inl (oF EU))), (wt, .inl (cI, 200, .inl (oF WT))), (ty, .inl (cI, 8, .inl (nF TY)))] H := hP
        have hD : va_D AA [(m0, .inr (6, [.ref nw, .ref ps, .int (nI u), .ref im, .ref mk, .int (nI sd), .ref wd, .int (nI s), .ref so, .int (nI q), .ref mb, .ref ma, .ref mf, .ref mw, .ref ml, .ref mu, .int (nI br), .ref wt, .int (nI ww), .ref ty])), (nw, .inl (cI, 241, .inl (nF (up N 0 (n - 1))))), (ps, .inl (cI, 4820, .inl (nF PS))), (im, .inl (cI, 484, .inl (nF IM))), (mk, .inl (cZ, 2, .inl (nF MK))), (wd, .inl (cI, 8, .inl (nF WD))), (so, .inl (cI, 24, .inl (nF SO))), (mb, .inl (cI, 24, .inl (nF EB))), (ma, .inl (cI, 24, .inl (nF EA))), (mf, .inl (cI, 24, .inl (nF EF))), (mw, .inl (cI, 24, .inl (nF EW))), (ml, .inl (cI, 24, .inl (nF EL))), (mu, .inl (cI, 24, .inl (oF EU))), (wt, .inl (cI, 200, .inl (oF WT))), (ty, .inl (cI, 8, .inl (nF TY)))] := hD
        exact wr_vret hx hb hr hlk hP hD hS dX6_takes_38 (⟨rfl, _, rfl, rn_take hn hkn hk hR (by rw [← show e = n - 1 by omega]; exact hE)⟩)
      ·
        refine lv_aload_n hx hb dX6_takes_14 rfl (lv_at hl 0 rfl) ?_
        refine lv_iload_n hx hb dX6_takes_15 rfl (lv_at hl 2 rfl) ?_
        refine lv_iconst (v := nI 1) hx hb dX6_takes_16 (by decide +kernel) ?_
        refine n_iadd hx hb dX6_takes_17 ?_
        refine lv_iload_n hx hb dX6_takes_18 rfl (lv_at hl 2 rfl) ?_
        refine wr_V (As := [.int (nI (e + 1)), .int (nI e)]) (rest := []) (wc := [(m0, .inr (6, [.ref nw, .ref ps, .int (nI u), .ref im, .ref mk, .int (nI sd), .ref wd, .int (nI s), .ref so, .int (nI q), .ref mb, .ref ma, .ref mf, .ref mw, .ref ml, .ref mu, .int (nI br), .ref wt, .int (nI ww), .ref ty])), (nw, .inl (cI, 241, .inl (nF N))), (ps, .inl (cI, 4820, .inl (nF PS))), (im, .inl (cI, 484, .inl (nF IM))), (mk, .inl (cZ, 2, .inl (nF MK))), (wd, .inl (cI, 8, .inl (nF WD))), (so, .inl (cI, 24, .inl (nF SO))), (mb, .inl (cI, 24, .inl (nF EB))), (ma, .inl (cI, 24, .inl (nF EA))), (mf, .inl (cI, 24, .inl (nF EF))), (mw, .inl (cI, 24, .inl (nF EW))), (ml, .inl (cI, 24, .inl (nF EL))), (mu, .inl (cI, 24, .inl (oF EU))), (wt, .inl (cI, 200, .inl (oF WT))), (ty, .inl (cI, 8, .inl (nF TY)))]) (wr := []) ⟨hx, hb, hml, hown, hts⟩ (c_X6_moves l D cI cJ cZ m0 nw ps im mk wd so mb ma mf mw ml mu wt ty N PS u IM MK sd WD s SO q EB EA EF EW EL EU br WT ww TY (e + 1) e (by omega) (by omega) (by omega) _) (k_X6_135 hts ⟨Nat.le_of_ble_eq_true rfl, Nat.le_of_ble_eq_true rfl⟩) hK hN hP hD hS hAA 0 rfl rfl rfl [0, 1, 2, 3, 4, 5, 6, 7, 8, 9, 10, 11, 12, 13, 14] [] rfl rfl (by decide) (by decide) (by decide) rfl hl.1 rfl (Nat.le_of_ble_eq_true rfl) dX6_takes_19 ⟨Nat.le_of_ble_eq_true rfl, Nat.le_of_ble_eq_true rfl⟩ (fun v3 w4 H locs hp2 hP hD hS => ?_)
        obtain ⟨rfl, rfl⟩ := hp2
        have hP : va_P D vwCl [(m0, .inr (6, [.ref nw, .ref ps, .int (nI u), .ref im, .ref mk, .int (nI sd), .ref wd, .int (nI s), .ref so, .int (nI q), .ref mb, .ref ma, .ref mf, .ref mw, .ref ml, .ref mu, .int (nI br), .ref wt, .int (nI ww), .ref ty])), (nw, .inl (cI, 241, .inl (nF (mvF N (e + 1) e)))), (ps, .inl (cI, 4820, .inl (nF PS))), (im, .inl (cI, 484, .inl (nF IM))), (mk, .inl (cZ, 2, .inl (nF MK))), (wd, .inl (cI, 8, .inl (nF WD))), (so, .inl (cI, 24, .inl (nF SO))), (mb, .inl (cI, 24, .inl (nF EB))), (ma, .inl (cI, 24, .inl (nF EA))), (mf, .inl (cI, 24, .inl (nF EF))), (mw, .inl (cI, 24, .inl (nF EW))), (ml, .inl (cI, 24, .inl (nF EL))), (mu, .inl (cI, 24, .inl (oF EU))), (wt, .inl (cI, 200, .inl (oF WT))), (ty, .inl (cI, 8, .inl (nF TY)))] H := hP.sub [0, 1, 2, 3, 4, 5, 6, 7, 8, 9, 10, 11, 12, 13, 14] rfl
        have hD : va_D AA [(m0, .inr (6, [.ref nw, .ref ps, .int (nI u), .ref im, .ref mk, .int (nI sd), .ref wd, .int (nI s), .ref so, .int (nI q), .ref mb, .ref ma, .ref mf, .ref mw, .ref ml, .ref mu, .int (nI br), .ref wt, .int (nI ww), .ref ty])), (nw, .inl (cI, 241, .inl (nF (mvF N (e + 1) e)))), (ps, .inl (cI, 4820, .inl (nF PS))), (im, .inl (cI, 484, .inl (nF IM))), (mk, .inl (cZ, 2, .inl (nF MK))), (wd, .inl (cI, 8, .inl (nF WD))), (so, .inl (cI, 24, .inl (nF SO))), (mb, .inl (cI, 24, .inl (nF EB))), (ma, .inl (cI, 24, .inl (nF EA))), (mf, .inl (cI, 24, .inl (nF EF))), (mw, .inl (cI, 24, .inl (nF EW))), (ml, .inl (cI, 24, .inl (nF EL))), (mu, .inl (cI, 24, .inl (oF EU))), (wt, .inl (cI, 200, .inl (oF WT))), (ty, .inl (cI, 8, .inl (nF TY)))] := hD.sub [0, 1, 2, 3, 4, 5, 6, 7, 8, 9, 10, 11, 12, 13, 14] (by decide) rfl
        refine lv_iinc (v := nI (e + 1)) (lv' := [(2, .int (nI (e + 1))), (0, .ref m0), (1, .int (nI k))]) hx hb dX6_takes_22 hl (k := 2) rfl (nI_add e 1) (by decide) rfl (fun ls hl => ?_)
        refine lv_goto (tgt := 2) hx hb dX6_takes_25 (by decide) ?_
        exact ih2 (e + 1) (mvF N (e + 1) e) _ _ ls (by omega) (by omega) (by omega) (by rw [mv_0]; exact h0) (tk_step hE h1 (by omega)) hP hD hS (lv_sub hl [1, 2, 0] rfl)
  exact loop2 _ k NW _ _ ls (Nat.lt_succ_self _) (Nat.le_refl _) (by omega) hN0 (fun j hj => by dsimp only; rw [if_neg (by omega)]; exact ⟨rfl, rfl, fun _ _ => rfl⟩) hP hD hS (lv_sub hl [1, 2, 0] rfl)
set_option maxHeartbeats 4000000 in
set_option maxRecDepth 100000 in
theorem c_X6_puts_at (l : Launch) (D : va_G) (cI cJ cZ : ClassId) (m0 nw ps im mk wd so mb ma mf mw ml mu wt ty : Nat) (NW : Nat → Nat) (PS : Nat → Nat) (u : Nat) (IM : Nat → Nat) (MK : Nat → Nat) (sd : Nat) (WD : Nat → Nat) (s : Nat) (SO : Nat → Nat) (q : Nat) (EB : Nat → Nat) (EA : Nat → Nat) (EF : Nat → Nat) (EW : Nat → Nat) (EL : Nat → Nat) (EU : Nat → Nat) (br : Nat) (WT : Nat → Nat) (ww : Nat) (TY : Nat → Nat) (KS KL KW : Nat → Nat) (n A : Nat) (hn : n ≤ 24) (hk : ∀ k, k < n → Wf (KS k) (KL k)) (hw0 : Wf s A) (hR : RN NW KS KL KW n) (hRW : RW WD s A) (v : Nat) (ha : plc KS KL n s A < n ∧ unl (KS (plc KS KL n s A)) (KL (plc KS KL n s A)) s A = 72) (sz : Nat) : WR l yX6_puts cX6_puts 4 none (rmN 6 133) D (ty3 cI cJ cZ) [.ref m0, .int (nI v)] [(m0, .inr (6, [.ref nw, .ref ps, .int (nI u), .ref im, .ref mk, .int (nI sd), .ref wd, .int (nI s), .ref so, .int (nI q), .ref mb, .ref ma, .ref mf, .ref mw, .ref ml, .ref mu, .int (nI br), .ref wt, .int (nI ww), .ref ty])), (nw, .inl (cI, 241, .inl (nF NW))), (ps, .inl (cI, 4820, .inl (nF PS))), (im, .inl (cI, 484, .inl (nF IM))), (mk, .inl (cZ, 2, .inl (nF MK))), (wd, .inl (cI, 8, .inl (nF WD))), (so, .inl (cI, 24, .inl (nF SO))), (mb, .inl (cI, 24, .inl (nF EB))), (ma, .inl (cI, 24, .inl (nF EA))), (mf, .inl (cI, 24, .inl (nF EF))), (mw, .inl (cI, 24, .inl (nF EW))), (ml, .inl (cI, 24, .inl (nF EL))), (mu, .inl (cI, 24, .inl (oF EU))), (wt, .inl (cI, 200, .inl (oF WT))), (ty, .inl (cI, 8, .inl (nF TY)))] sz (fun x w => x = none ∧ ∃ N : Nat → Nat, w = [(m0, .inr (6, [.ref nw, .ref ps, .int (nI u), .ref im, .ref mk, .int (nI sd), .ref wd, .int (nI s), .ref so, .int (nI q), .ref mb, .ref ma, .ref mf, .ref mw, .ref ml, .ref mu, .int (nI br), .ref wt, .int (nI ww), .ref ty])), (nw, .inl (cI, 241, .inl (nF N))), (ps, .inl (cI, 4820, .inl (nF PS))), (im, .inl (cI, 484, .inl (nF IM))), (mk, .inl (cZ, 2, .inl (nF MK))), (wd, .inl (cI, 8, .inl (nF WD))), (so, .inl (cI, 24, .inl (nF SO))), (mb, .inl (cI, 24, .inl (nF EB))), (ma, .inl (cI, 24, .inl (nF EA))), (mf, .inl (cI, 24, .inl (nF EF))), (mw, .inl (cI, 24, .inl (nF EW))), (ml, .inl (cI, 24, .inl (nF EL))), (mu, .inl (cI, 24, .inl (oF EU))), (wt, .inl (cI, 200, .inl (oF WT))), (ty, .inl (cI, 8, .inl (nF TY)))] ∧ RN N KS KL (up KW (plc KS KL n s A) v) n) := by
  have hs8 := hw0.1
  have hA64 := hw0.2.1
  have hN0 := hR.1
  have hp := plc_le KS KL n s A
  refine wr_start (by decide) (Nat.le_of_ble_eq_true rfl) ?_
  intro pp ee ss mm below meth cd AA C0 hAA hP hK hD hS hN hnm ls hl
  obtain ⟨hx, hb, hr, hml, hown, hts, hlk⟩ := C0
  have hown : ss.vm.findClass RX6 = some mm.cls := hown
  have hl : lv_has ls 4 [(0, .ref m0), (1, .int (nI v))] := hl
  have hP : va_P D vwCl [(m0, .inr (6, [.ref nw, .ref ps, .int (nI u), .ref im, .ref mk, .int (nI sd), .ref wd, .int (nI s), .ref so, .int (nI q), .ref mb, .ref ma, .ref mf, .ref mw, .ref ml, .ref mu, .int (nI br), .ref wt, .int (nI ww), .ref ty])), (nw, .inl (cI, 241, .inl (nF NW))), (ps, .inl (cI, 4820, .inl (nF PS))), (im, .inl (cI, 484, .inl (nF IM))), (mk, .inl (cZ, 2, .inl (nF MK))), (wd, .inl (cI, 8, .inl (nF WD))), (so, .inl (cI, 24, .inl (nF SO))), (mb, .inl (cI, 24, .inl (nF EB))), (ma, .inl (cI, 24, .inl (nF EA))), (mf, .inl (cI, 24, .inl (nF EF))), (mw, .inl (cI, 24, .inl (nF EW))), (ml, .inl (cI, 24, .inl (nF EL))), (mu, .inl (cI, 24, .inl (oF EU))), (wt, .inl (cI, 200, .inl (oF WT))), (ty, .inl (cI, 8, .inl (nF TY)))] ss.heap := hP
  refine lv_aload_n hx hb dX6_puts_0 rfl (lv_at hl 0 rfl) ?_
  refine ro_V (As := []) (rest := []) ⟨hx, hb, hml, hown, hts⟩ (c_X6_keyNow l D cI cJ cZ m0 nw ps im mk wd so mb ma mf mw ml mu wt ty NW PS u IM MK sd WD s SO q EB EA EF EW EL EU br WT ww TY KS KL KW n A hn hk hw0 hR hRW) (k_X6_129 hts ⟨Nat.le_of_ble_eq_true rfl, Nat.le_of_ble_eq_true rfl⟩) hK hP 0 rfl rfl rfl [0, 1, 2, 3, 4, 5, 6, 7, 8, 9, 10, 11, 12, 13, 14] rfl rfl hl.1 rfl (Nat.le_of_ble_eq_true rfl) dX6_puts_1 ⟨Nat.le_of_ble_eq_true rfl, Nat.le_of_ble_eq_true rfl⟩ ?_
  refine tq (y := nI (plc KS KL n s A)) (by rw [fnd_yes ha, oI_s]) ?_
  refine lv_istore_n (lv' := [(2, .int (nI (plc KS KL n s A))), (0, .ref m0), (1, .int (nI v))]) hx hb dX6_puts_4 rfl hl (by decide) rfl (fun ls hl => ?_)
  refine lv_iload_n hx hb dX6_puts_5 rfl (lv_at hl 0 rfl) ?_
  refine lv_iconst (v := oI 0) hx hb dX6_puts_6 (by decide +kernel) ?_
  refine no_ne (tgt := 84) hx hb dX6_puts_7 (by decide) (by omega) ?_
  refine lv_aload_n hx hb dX6_puts_84 rfl (lv_at hl 1 rfl) ?_
  refine va_get (D := D) (ci := 6) (v := .ref nw) (C := RX6) (T := TX6) (N := 20) hx hb hts inX6 hown hK hP 0 rfl rfl 0 (by decide) (hts _ mf_X6_7) (fun _ h9 => h9) rfl dX6_puts_85 ?_
  refine lv_bipush (v := nI 25) hx hb dX6_puts_88 (by decide +kernel) ?_
  refine lv_iload_n hx hb dX6_puts_90 rfl (lv_at hl 0 rfl) ?_
  refine n_iadd hx hb dX6_puts_91 ?_
  refine lv_iload_n hx hb dX6_puts_92 rfl (lv_at hl 2 rfl) ?_
  refine n_iast hx hb hK hP hD hS 1 0 rfl rfl (k := (25 + (plc KS KL n s A))) (v := v) (by omega) (by decide) dX6_puts_93 (fun H locs hP hD hS => ?_)
  have hP : va_P D vwCl [(m0, .inr (6, [.ref nw, .ref ps, .int (nI u), .ref im, .ref mk, .int (nI sd), .ref wd, .int (nI s), .ref so, .int (nI q), .ref mb, .ref ma, .ref mf, .ref mw, .ref ml, .ref mu, .int (nI br), .ref wt, .int (nI ww), .ref ty])), (nw, .inl (cI, 241, .inl (nF (up NW (25 + (plc KS KL n s A)) v)))), (ps, .inl (cI, 4820, .inl (nF PS))), (im, .inl (cI, 484, .inl (nF IM))), (mk, .inl (cZ, 2, .inl (nF MK))), (wd, .inl (cI, 8, .inl (nF WD))), (so, .inl (cI, 24, .inl (nF SO))), (mb, .inl (cI, 24, .inl (nF EB))), (ma, .inl (cI, 24, .inl (nF EA))), (mf, .inl (cI, 24, .inl (nF EF))), (mw, .inl (cI, 24, .inl (nF EW))), (ml, .inl (cI, 24, .inl (nF EL))), (mu, .inl (cI, 24, .inl (oF EU))), (wt, .inl (cI, 200, .inl (oF WT))), (ty, .inl (cI, 8, .inl (nF TY)))] H := hP
  have hD : va_D AA [(m0, .inr (6, [.ref nw, .ref ps, .int (nI u), .ref im, .ref mk, .int (nI sd), .ref wd, .int (nI s), .ref so, .int (nI q), .ref mb, .ref ma, .ref mf, .ref mw, .ref ml, .ref mu, .int (nI br), .ref wt, .int (nI ww), .ref ty])), (nw, .inl (cI, 241, .inl (nF (up NW (25 + (plc KS KL n s A)) v)))), (ps, .inl (cI, 4820, .inl (nF PS))), (im, .inl (cI, 484, .inl (nF IM))), (mk, .inl (cZ, 2, .inl (nF MK))), (wd, .inl (cI, 8, .inl (nF WD))), (so, .inl (cI, 24, .inl (nF SO))), (mb, .inl (cI, 24, .inl (nF EB))), (ma, .inl (cI, 24, .inl (nF EA))), (mf, .inl (cI, 24, .inl (nF EF))), (mw, .inl (cI, 24, .inl (nF EW))), (ml, .inl (cI, 24, .inl (nF EL))), (mu, .inl (cI, 24, .inl (oF EU))), (wt, .inl (cI, 200, .inl (oF WT))), (ty, .inl (cI, 8, .inl (nF TY)))] := hD
  exact wr_vret hx hb hr hlk hP hD hS dX6_puts_94 (⟨rfl, _, rfl, rn_upw ha.1 hn hk hR⟩)
set_option maxHeartbeats 4000000 in
set_option maxRecDepth 100000 in
theorem c_X6_puts_new (l : Launch) (D : va_G) (cI cJ cZ : ClassId) (m0 nw ps im mk wd so mb ma mf mw ml mu wt ty : Nat) (NW : Nat → Nat) (PS : Nat → Nat) (u : Nat) (IM : Nat → Nat) (MK : Nat → Nat) (sd : Nat) (WD : Nat → Nat) (s : Nat) (SO : Nat → Nat) (q : Nat) (EB : Nat → Nat) (EA : Nat → Nat) (EF : Nat → Nat) (EW : Nat → Nat) (EL : Nat → Nat) (EU : Nat → Nat) (br : Nat) (WT : Nat → Nat) (ww : Nat) (TY : Nat → Nat) (KS KL KW : Nat → Nat) (n A : Nat) (hn : n ≤ 24) (hk : ∀ k, k < n → Wf (KS k) (KL k)) (hw0 : Wf s A) (hR : RN NW KS KL KW n) (hRW : RW WD s A) (v : Nat) (ha : ¬ (plc KS KL n s A < n ∧ unl (KS (plc KS KL n s A)) (KL (plc KS KL n s A)) s A = 72)) (hn2 : n < 24) (sz : Nat) : WR l yX6_puts cX6_puts 4 none (rmN 6 133) D (ty3 cI cJ cZ) [.ref m0, .int (nI v)] [(m0, .inr (6, [.ref nw, .ref ps, .int (nI u), .ref im, .ref mk, .int (nI sd), .ref wd, .int (nI s), .ref so, .int (nI q), .ref mb, .ref ma, .ref mf, .ref mw, .ref ml, .ref mu, .int (nI br), .ref wt, .int (nI ww), .ref ty])), (nw, .inl (cI, 241, .inl (nF NW))), (ps, .inl (cI, 4820, .inl (nF PS))), (im, .inl (cI, 484, .inl (nF IM))), (mk, .inl (cZ, 2, .inl (nF MK))), (wd, .inl (cI, 8, .inl (nF WD))), (so, .inl (cI, 24, .inl (nF SO))), (mb, .inl (cI, 24, .inl (nF EB))), (ma, .inl (cI, 24, .inl (nF EA))), (mf, .inl (cI, 24, .inl (nF EF))), (mw, .inl (cI, 24, .inl (nF EW))), (ml, .inl (cI, 24, .inl (nF EL))), (mu, .inl (cI, 24, .inl (oF EU))), (wt, .inl (cI, 200, .inl (oF WT))), (ty, .inl (cI, 8, .inl (nF TY)))] sz (fun x w => x = none ∧ ∃ N : Nat → Nat, w = [(m0, .inr (6, [.ref nw, .ref ps, .int (nI u), .ref im, .ref mk, .int (nI sd), .ref wd, .int (nI s), .ref so, .int (nI q), .ref mb, .ref ma, .ref mf, .ref mw, .ref ml, .ref mu, .int (nI br), .ref wt, .int (nI ww), .ref ty])), (nw, .inl (cI, 241, .inl (nF N))), (ps, .inl (cI, 4820, .inl (nF PS))), (im, .inl (cI, 484, .inl (nF IM))), (mk, .inl (cZ, 2, .inl (nF MK))), (wd, .inl (cI, 8, .inl (nF WD))), (so, .inl (cI, 24, .inl (nF SO))), (mb, .inl (cI, 24, .inl (nF EB))), (ma, .inl (cI, 24, .inl (nF EA))), (mf, .inl (cI, 24, .inl (nF EF))), (mw, .inl (cI, 24, .inl (nF EW))), (ml, .inl (cI, 24, .inl (nF EL))), (mu, .inl (cI, 24, .inl (oF EU))), (wt, .inl (cI, 200, .inl (oF WT))), (ty, .inl (cI, 8, .inl (nF TY)))] ∧ RN N (insF (plc KS KL n s A) s n KS) (insF (plc KS KL n s A) A n KL) (insF (plc KS KL n s A) v n KW) (n + 1)) := by
  have hs8 := hw0.1
  have hA64 := hw0.2.1
  have hN0 := hR.1
  have hp := plc_le KS KL n s A
  refine wr_start (by decide) (Nat.le_of_ble_eq_true rfl) ?_
  intro pp ee ss mm below meth cd AA C0 hAA hP hK hD hS hN hnm ls hl
  obtain ⟨hx, hb, hr, hml, hown, hts, hlk⟩ := C0
  have hown : ss.vm.findClass RX6 = some mm.cls := hown
  have hl : lv_has ls 4 [(0, .ref m0), (1, .int (nI v))] := hl
  have hP : va_P D vwCl [(m0, .inr (6, [.ref nw, .ref ps, .int (nI u), .ref im, .ref mk, .int (nI sd), .ref wd, .int (nI s), .ref so, .int (nI q), .ref mb, .ref ma, .ref mf, .ref mw, .ref ml, .ref mu, .int (nI br), .ref wt, .int (nI ww), .ref ty])), (nw, .inl (cI, 241, .inl (nF NW))), (ps, .inl (cI, 4820, .inl (nF PS))), (im, .inl (cI, 484, .inl (nF IM))), (mk, .inl (cZ, 2, .inl (nF MK))), (wd, .inl (cI, 8, .inl (nF WD))), (so, .inl (cI, 24, .inl (nF SO))), (mb, .inl (cI, 24, .inl (nF EB))), (ma, .inl (cI, 24, .inl (nF EA))), (mf, .inl (cI, 24, .inl (nF EF))), (mw, .inl (cI, 24, .inl (nF EW))), (ml, .inl (cI, 24, .inl (nF EL))), (mu, .inl (cI, 24, .inl (oF EU))), (wt, .inl (cI, 200, .inl (oF WT))), (ty, .inl (cI, 8, .inl (nF TY)))] ss.heap := hP
  refine lv_aload_n hx hb dX6_puts_0 rfl (lv_at hl 0 rfl) ?_
  refine ro_V (As := []) (rest := []) ⟨hx, hb, hml, hown, hts⟩ (c_X6_keyNow l D cI cJ cZ m0 nw ps im mk wd so mb ma mf mw ml mu wt ty NW PS u IM MK sd WD s SO q EB EA EF EW EL EU br WT ww TY KS KL KW n A hn hk hw0 hR hRW) (k_X6_129 hts ⟨Nat.le_of_ble_eq_true rfl, Nat.le_of_ble_eq_true rfl⟩) hK hP 0 rfl rfl rfl [0, 1, 2, 3, 4, 5, 6, 7, 8, 9, 10, 11, 12, 13, 14] rfl rfl hl.1 rfl (Nat.le_of_ble_eq_true rfl) dX6_puts_1 ⟨Nat.le_of_ble_eq_true rfl, Nat.le_of_ble_eq_true rfl⟩ ?_
  refine tq (y := oI 0) (by rw [fnd_no ha]) ?_
  refine lv_istore_n (lv' := [(2, .int (oI 0)), (0, .ref m0), (1, .int (nI v))]) hx hb dX6_puts_4 rfl hl (by decide) rfl (fun ls hl => ?_)
  refine lv_iload_n hx hb dX6_puts_5 rfl (lv_at hl 0 rfl) ?_
  refine lv_iconst (v := oI 0) hx hb dX6_puts_6 (by decide +kernel) ?_
  refine o_ne (tgt := 84) hx hb dX6_puts_7 (by decide) (by omega) (fun c1 => ?_) (fun c1 => ?_)
  ·
    exact absurd rfl c1
  ·
    refine lv_aload_n hx hb dX6_puts_10 rfl (lv_at hl 1 rfl) ?_
    refine ro_V (As := []) (rest := []) ⟨hx, hb, hml, hown, hts⟩ (c_X6_place l D cI cJ cZ m0 nw ps im mk wd so mb ma mf mw ml mu wt ty NW PS u IM MK sd WD s SO q EB EA EF EW EL EU br WT ww TY KS KL KW n A hn hk hw0 hR hRW) (k_X6_75 hts ⟨Nat.le_of_ble_eq_true rfl, Nat.le_of_ble_eq_true rfl⟩) hK hP 0 rfl rfl rfl [0, 1, 2, 3, 4, 5, 6, 7, 8, 9, 10, 11, 12, 13, 14] rfl rfl hl.1 rfl (Nat.le_of_ble_eq_true rfl) dX6_puts_11 ⟨Nat.le_of_ble_eq_true rfl, Nat.le_of_ble_eq_true rfl⟩ ?_
    refine lv_istore_n (lv' := [(2, .int (nI (plc KS KL n s A))), (0, .ref m0), (1, .int (nI v))]) hx hb dX6_puts_14 rfl hl (by decide) rfl (fun ls hl => ?_)
    refine lv_aload_n hx hb dX6_puts_15 rfl (lv_at hl 1 rfl) ?_
    refine va_get (D := D) (ci := 6) (v := .ref nw) (C := RX6) (T := TX6) (N := 20) hx hb hts inX6 hown hK hP 0 rfl rfl 0 (by decide) (hts _ mf_X6_7) (fun _ h9 => h9) rfl dX6_puts_16 ?_
    refine lv_iconst (v := nI 0) hx hb dX6_puts_19 (by decide +kernel) ?_
    refine n_iald hx hb hK hP 1 0 rfl rfl (k := 0) (by omega) (by decide) dX6_puts_20 ?_
    refine tq (y := nI n) (congrArg nI (hN0)) ?_
    refine lv_istore_n (lv' := [(3, .int (nI n)), (2, .int (nI (plc KS KL n s A))), (0, .ref m0), (1, .int (nI v))]) hx hb dX6_puts_21 rfl hl (by decide) rfl (fun ls hl => ?_)
    have loop22 : ∀ (d : Nat) (e : Nat) (N : Nat → Nat) (H : Heap) (locs : List Loc) (ls : Array Slot), e < d → (plc KS KL n s A ≤ e) → (e ≤ n) → (N 0 = n) → (EntR N NW (fun j => if e < j ∧ j ≤ n then j - 1 else j)) → va_P D vwCl [(m0, .inr (6, [.ref nw, .ref ps, .int (nI u), .ref im, .ref mk, .int (nI sd), .ref wd, .int (nI s), .ref so, .int (nI q), .ref mb, .ref ma, .ref mf, .ref mw, .ref ml, .ref mu, .int (nI br), .ref wt, .int (nI ww), .ref ty])), (nw, .inl (cI, 241, .inl (nF N))), (ps, .inl (cI, 4820, .inl (nF PS))), (im, .inl (cI, 484, .inl (nF IM))), (mk, .inl (cZ, 2, .inl (nF MK))), (wd, .inl (cI, 8, .inl (nF WD))), (so, .inl (cI, 24, .inl (nF SO))), (mb, .inl (cI, 24, .inl (nF EB))), (ma, .inl (cI, 24, .inl (nF EA))), (mf, .inl (cI, 24, .inl (nF EF))), (mw, .inl (cI, 24, .inl (nF EW))), (ml, .inl (cI, 24, .inl (nF EL))), (mu, .inl (cI, 24, .inl (oF EU))), (wt, .inl (cI, 200, .inl (oF WT))), (ty, .inl (cI, 8, .inl (nF TY)))] H → va_D AA [(m0, .inr (6, [.ref nw, .ref ps, .int (nI u), .ref im, .ref mk, .int (nI sd), .ref wd, .int (nI s), .ref so, .int (nI q), .ref mb, .ref ma, .ref mf, .ref mw, .ref ml, .ref mu, .int (nI br), .ref wt, .int (nI ww), .ref ty])), (nw, .inl (cI, 241, .inl (nF N))), (ps, .inl (cI, 4820, .inl (nF PS))), (im, .inl (cI, 484, .inl (nF IM))), (mk, .inl (cZ, 2, .inl (nF MK))), (wd, .inl (cI, 8, .inl (nF WD))), (so, .inl (cI, 24, .inl (nF SO))), (mb, .inl (cI, 24, .inl (nF EB))), (ma, .inl (cI, 24, .inl (nF EA))), (mf, .inl (cI, 24, .inl (nF EF))), (mw, .inl (cI, 24, .inl (nF EW))), (ml, .inl (cI, 24, .inl (nF EL))), (mu, .inl (cI, 24, .inl (oF EU))), (wt, .inl (cI, 200, .inl (oF WT))), (ty, .inl (cI, 8, .inl (nF TY)))] → va_S AA ss.heap H locs → lv_has ls 4 [(0, .ref m0), (1, .int (nI v)), (2, .int (nI (plc KS KL n s A))), (3, .int (nI e))] → W pp l ee (rmN 6 133) ss mm [.ref m0, .int (nI v)].toArray below meth cd H locs 0 0 (MQ below (QW D AA (fun x w => x = none ∧ ∃ N : Nat → Nat, w = [(m0, .inr (6, [.ref nw, .ref ps, .int (nI u), .ref im, .ref mk, .int (nI sd), .ref wd, .int (nI s), .ref so, .int (nI q), .ref mb, .ref ma, .ref mf, .ref mw, .ref ml, .ref mu, .int (nI br), .ref wt, .int (nI ww), .ref ty])), (nw, .inl (cI, 241, .inl (nF N))), (ps, .inl (cI, 4820, .inl (nF PS))), (im, .inl (cI, 484, .inl (nF IM))), (mk, .inl (cZ, 2, .inl (nF MK))), (wd, .inl (cI, 8, .inl (nF WD))), (so, .inl (cI, 24, .inl (nF SO))), (mb, .inl (cI, 24, .inl (nF EB))), (ma, .inl (cI, 24, .inl (nF EA))), (mf, .inl (cI, 24, .inl (nF EF))), (mw, .inl (cI, 24, .inl (nF EW))), (ml, .inl (cI, 24, .inl (nF EL))), (mu, .inl (cI, 24, .inl (oF EU))), (wt, .inl (cI, 200, .inl (oF WT))), (ty, .inl (cI, 8, .inl (nF TY)))] ∧ RN N (insF (plc KS KL n s A) s n KS) (insF (plc KS KL n s A) A n KL) (insF (plc KS KL n s A) v n KW) (n + 1))) [.ref m0, .int (nI v)].toArray ss 0 0 AA) (F0 mm 22 ls []) := by
      intro d
      induction d with
      | zero => intro e N H locs ls h; exact absurd h (Nat.not_lt_zero _)
      | succ d ih22 =>
        intro e N H locs ls hd22 h1 h2 h0 hE hP hD hS hl
        refine lv_iload_n hx hb dX6_puts_22 rfl (lv_at hl 3 rfl) ?_
        refine lv_iload_n hx hb dX6_puts_23 rfl (lv_at hl 2 rfl) ?_
        refine n_le (tgt := 41) hx hb dX6_puts_24 (by decide) (by omega) (by omega) (fun c2 => ?_) (fun c2 => ?_)
        ·
          refine lv_aload_n hx hb dX6_puts_41 rfl (lv_at hl 0 rfl) ?_
          refine va_get (D := D) (ci := 6) (v := .ref nw) (C := RX6) (T := TX6) (N := 20) hx hb hts inX6 hown hK hP 0 rfl rfl 0 (by decide) (hts _ mf_X6_7) (fun _ h9 => h9) rfl dX6_puts_42 ?_
          refine lv_iconst (v := nI 0) hx hb dX6_puts_45 (by decide +kernel) ?_
          refine lv_dup2_11 hx hb dX6_puts_46 rfl rfl ?_
          refine n_iald hx hb hK hP 1 0 rfl rfl (k := 0) (by omega) (by decide) dX6_puts_47 ?_
          refine tq (y := nI n) (congrArg nI (h0)) ?_
          refine lv_iconst (v := nI 1) hx hb dX6_puts_48 (by decide +kernel) ?_
          refine n_iadd hx hb dX6_puts_49 ?_
          refine n_iast hx hb hK hP hD hS 1 0 rfl rfl (k := 0) (v := (n + 1)) (by omega) (by decide) dX6_puts_50 (fun H locs hP hD hS => ?_)
          have hP : va_P D vwCl [(m0, .inr (6, [.ref nw, .ref ps, .int (nI u), .ref im, .ref mk, .int (nI sd), .ref wd, .int (nI s), .ref so, .int (nI q), .ref mb, .ref ma, .ref mf, .ref mw, .ref ml, .ref mu, .int (nI br), .ref wt, .int (nI ww), .ref ty])), (nw, .inl (cI, 241, .inl (nF (up N 0 (n + 1))))), (ps, .inl (cI, 4820, .inl (nF PS))), (im, .inl (cI, 484, .inl (nF IM))), (mk, .inl (cZ, 2, .inl (nF MK))), (wd, .inl (cI, 8, .inl (nF WD))), (so, .inl (cI, 24, .inl (nF SO))), (mb, .inl (cI, 24, .inl (nF EB))), (ma, .inl (cI, 24, .inl (nF EA))), (mf, .inl (cI, 24, .inl (nF EF))), (mw, .inl (cI, 24, .inl (nF EW))), (ml, .inl (cI, 24, .inl (nF EL))), (mu, .inl (cI, 24, .inl (oF EU))), (wt, .inl (cI, 200, .inl (oF WT))), (ty, .inl (cI, 8, .inl (nF TY)))] H := hP
          have hD : va_D AA [(m0, .inr (6, [.ref nw, .ref ps, .int (nI u), .ref im, .ref mk, .int (nI sd), .ref wd, .int (nI s), .ref so, .int (nI q), .ref mb, .ref ma, .ref mf, .ref mw, .ref ml, .ref mu, .int (nI br), .ref wt, .int (nI ww), .ref ty])), (nw, .inl (cI, 241, .inl (nF (up N 0 (n + 1))))), (ps, .inl (cI, 4820, .inl (nF PS))), (im, .inl (cI, 484, .inl (nF IM))), (mk, .inl (cZ, 2, .inl (nF MK))), (wd, .inl (cI, 8, .inl (nF WD))), (so, .inl (cI, 24, .inl (nF SO))), (mb, .inl (cI, 24, .inl (nF EB))), (ma, .inl (cI, 24, .inl (nF EA))), (mf, .inl (cI, 24, .inl (nF EF))), (mw, .inl (cI, 24, .inl (nF EW))), (ml, .inl (cI, 24, .inl (nF EL))), (mu, .inl (cI, 24, .inl (oF EU))), (wt, .inl (cI, 200, .inl (oF WT))), (ty, .inl (cI, 8, .inl (nF TY)))] := hD
          refine lv_aload_n hx hb dX6_puts_51 rfl (lv_at hl 0 rfl) ?_
          refine va_get (D := D) (ci := 6) (v := .ref nw) (C := RX6) (T := TX6) (N := 20) hx hb hts inX6 hown hK hP 0 rfl rfl 0 (by decide) (hts _ mf_X6_7) (fun _ h9 => h9) rfl dX6_puts_52 ?_
          refine lv_iconst (v := nI 1) hx hb dX6_puts_55 (by decide +kernel) ?_
          refine lv_iload_n hx hb dX6_puts_56 rfl (lv_at hl 2 rfl) ?_
          refine n_iadd hx hb dX6_puts_57 ?_
          refine lv_aload_n hx hb dX6_puts_58 rfl (lv_at hl 0 rfl) ?_
          refine va_get (D := D) (ci := 6) (v := .int (nI s)) (C := RX6) (T := TX6) (N := 20) hx hb hts inX6 hown hK hP 0 rfl rfl 7 (by decide) (hts _ mf_X6_53) (fun _ h9 => h9) rfl dX6_puts_59 ?_
          refine n_iast hx hb hK hP hD hS 1 0 rfl rfl (k := (1 + (plc KS KL n s A))) (v := s) (by omega) (by decide) dX6_puts_62 (fun H locs hP hD hS => ?_)
          have hP : va_P D vwCl [(m0, .inr (6, [.ref nw, .ref ps, .int (nI u), .ref im, .ref mk, .int (nI sd), .ref wd, .int (nI s), .ref so, .int (nI q), .ref mb, .ref ma, .ref mf, .ref mw, .ref ml, .ref mu, .int (nI br), .ref wt, .int (nI ww), .ref ty])), (nw, .inl (cI, 241, .inl (nF (up (up N 0 (n + 1)) (1 + (plc KS KL n s A)) s)))), (ps, .inl (cI, 4820, .inl (nF PS))), (im, .inl (cI, 484, .inl (nF IM))), (mk, .inl (cZ, 2, .inl (nF MK))), (wd, .inl (cI, 8, .inl (nF WD))), (so, .inl (cI, 24, .inl (nF SO))), (mb, .inl (cI, 24, .inl (nF EB))), (ma, .inl (cI, 24, .inl (nF EA))), (mf, .inl (cI, 24, .inl (nF EF))), (mw, .inl (cI, 24, .inl (nF EW))), (ml, .inl (cI, 24, .inl (nF EL))), (mu, .inl (cI, 24, .inl (oF EU))), (wt, .inl (cI, 200, .inl (oF WT))), (ty, .inl (cI, 8, .inl (nF TY)))] H := hP
          have hD : va_D AA [(m0, .inr (6, [.ref nw, .ref ps, .int (nI u), .ref im, .ref mk, .int (nI sd), .ref wd, .int (nI s), .ref so, .int (nI q), .ref mb, .ref ma, .ref mf, .ref mw, .ref ml, .ref mu, .int (nI br), .ref wt, .int (nI ww), .ref ty])), (nw, .inl (cI, 241, .inl (nF (up (up N 0 (n + 1)) (1 + (plc KS KL n s A)) s)))), (ps, .inl (cI, 4820, .inl (nF PS))), (im, .inl (cI, 484, .inl (nF IM))), (mk, .inl (cZ, 2, .inl (nF MK))), (wd, .inl (cI, 8, .inl (nF WD))), (so, .inl (cI, 24, .inl (nF SO))), (mb, .inl (cI, 24, .inl (nF EB))), (ma, .inl (cI, 24, .inl (nF EA))), (mf, .inl (cI, 24, .inl (nF EF))), (mw, .inl (cI, 24, .inl (nF EW))), (ml, .inl (cI, 24, .inl (nF EL))), (mu, .inl (cI, 24, .inl (oF EU))), (wt, .inl (cI, 200, .inl (oF WT))), (ty, .inl (cI, 8, .inl (nF TY)))] := hD
          refine lv_aload_n hx hb dX6_puts_63 rfl (lv_at hl 0 rfl) ?_
          refine va_get (D := D) (ci := 6) (v := .ref wd) (C := RX6) (T := TX6) (N := 20) hx hb hts inX6 hown hK hP 0 rfl rfl 6 (by decide) (hts _ mf_X6_23) (fun _ h9 => h9) rfl dX6_puts_64 ?_
          refine lv_iconst (v := nI 0) hx hb dX6_puts_67 (by decide +kernel) ?_
          refine lv_aload_n hx hb dX6_puts_68 rfl (lv_at hl 0 rfl) ?_
          refine va_get (D := D) (ci := 6) (v := .ref nw) (C := RX6) (T := TX6) (N := 20) hx hb hts inX6 hown hK hP 0 rfl rfl 0 (by decide) (hts _ mf_X6_7) (fun _ h9 => h9) rfl dX6_puts_69 ?_
          refine lv_bipush (v := nI 49) hx hb dX6_puts_72 (by decide +kernel) ?_
          refine lv_bipush (v := nI 8) hx hb dX6_puts_74 (by decide +kernel) ?_
          refine lv_iload_n hx hb dX6_puts_76 rfl (lv_at hl 2 rfl) ?_
          refine n_imul hx hb dX6_puts_77 ?_
          refine n_iadd hx hb dX6_puts_78 ?_
          refine lv_bipush (v := nI 8) hx hb dX6_puts_79 (by decide +kernel) ?_
          refine wr_S (As := [.ref wd, .int (nI 0), .ref nw, .int (nI (49 + (8 * (plc KS KL n s A)))), .int (nI 8)]) (rest := []) (wc := [(wd, .inl (cI, 8, .inl (nF WD))), (nw, .inl (cI, 241, .inl (nF (up (up N 0 (n + 1)) (1 + (plc KS KL n s A)) s))))]) (wr := [(m0, .inr (6, [.ref nw, .ref ps, .int (nI u), .ref im, .ref mk, .int (nI sd), .ref wd, .int (nI s), .ref so, .int (nI q), .ref mb, .ref ma, .ref mf, .ref mw, .ref ml, .ref mu, .int (nI br), .ref wt, .int (nI ww), .ref ty])), (ps, .inl (cI, 4820, .inl (nF PS))), (im, .inl (cI, 484, .inl (nF IM))), (mk, .inl (cZ, 2, .inl (nF MK))), (so, .inl (cI, 24, .inl (nF SO))), (mb, .inl (cI, 24, .inl (nF EB))), (ma, .inl (cI, 24, .inl (nF EA))), (mf, .inl (cI, 24, .inl (nF EF))), (mw, .inl (cI, 24, .inl (nF EW))), (ml, .inl (cI, 24, .inl (nF EL))), (mu, .inl (cI, 24, .inl (oF EU))), (wt, .inl (cI, 200, .inl (oF WT))), (ty, .inl (cI, 8, .inl (nF TY)))]) ⟨hx, hb, hml, hown, hts⟩ (c_X6_copies l D cI cJ cZ wd nw 8 241 0 (49 + (8 * (plc KS KL n s A))) 8 WD (up (up N 0 (n + 1)) (1 + (plc KS KL n s A)) s) (by decide) (by decide) (by omega) (by omega) _) (k_X6_90 hts ⟨Nat.le_of_ble_eq_true rfl, Nat.le_of_ble_eq_true rfl⟩) hK hN hP hD hS hAA [5, 1] [0, 2, 3, 4, 6, 7, 8, 9, 10, 11, 12, 13, 14] rfl rfl (by decide) (by decide) (by decide) rfl hl.1 rfl (Nat.le_of_ble_eq_true rfl) dX6_puts_81 ⟨Nat.le_of_ble_eq_true rfl, Nat.le_of_ble_eq_true rfl⟩ (fun v4 w5 H locs hp3 hP hD hS => ?_)
          obtain ⟨rfl, rfl⟩ := hp3
          have hP : va_P D vwCl [(m0, .inr (6, [.ref nw, .ref ps, .int (nI u), .ref im, .ref mk, .int (nI sd), .ref wd, .int (nI s), .ref so, .int (nI q), .ref mb, .ref ma, .ref mf, .ref mw, .ref ml, .ref mu, .int (nI br), .ref wt, .int (nI ww), .ref ty])), (nw, .inl (cI, 241, .inl (nF (va_cpy WD (up (up N 0 (n + 1)) (1 + (plc KS KL n s A)) s) 0 (49 + (8 * (plc KS KL n s A))) 8)))), (ps, .inl (cI, 4820, .inl (nF PS))), (im, .inl (cI, 484, .inl (nF IM))), (mk, .inl (cZ, 2, .inl (nF MK))), (wd, .inl (cI, 8, .inl (nF WD))), (so, .inl (cI, 24, .inl (nF SO))), (mb, .inl (cI, 24, .inl (nF EB))), (ma, .inl (cI, 24, .inl (nF EA))), (mf, .inl (cI, 24, .inl (nF EF))), (mw, .inl (cI, 24, .inl (nF EW))), (ml, .inl (cI, 24, .inl (nF EL))), (mu, .inl (cI, 24, .inl (oF EU))), (wt, .inl (cI, 200, .inl (oF WT))), (ty, .inl (cI, 8, .inl (nF TY)))] H := hP.sub [0, 14, 1, 2, 3, 13, 4, 5, 6, 7, 8, 9, 10, 11, 12] rfl
          have hD : va_D AA [(m0, .inr (6, [.ref nw, .ref ps, .int (nI u), .ref im, .ref mk, .int (nI sd), .ref wd, .int (nI s), .ref so, .int (nI q), .ref mb, .ref ma, .ref mf, .ref mw, .ref ml, .ref mu, .int (nI br), .ref wt, .int (nI ww), .ref ty])), (nw, .inl (cI, 241, .inl (nF (va_cpy WD (up (up N 0 (n + 1)) (1 + (plc KS KL n s A)) s) 0 (49 + (8 * (plc KS KL n s A))) 8)))), (ps, .inl (cI, 4820, .inl (nF PS))), (im, .inl (cI, 484, .inl (nF IM))), (mk, .inl (cZ, 2, .inl (nF MK))), (wd, .inl (cI, 8, .inl (nF WD))), (so, .inl (cI, 24, .inl (nF SO))), (mb, .inl (cI, 24, .inl (nF EB))), (ma, .inl (cI, 24, .inl (nF EA))), (mf, .inl (cI, 24, .inl (nF EF))), (mw, .inl (cI, 24, .inl (nF EW))), (ml, .inl (cI, 24, .inl (nF EL))), (mu, .inl (cI, 24, .inl (oF EU))), (wt, .inl (cI, 200, .inl (oF WT))), (ty, .inl (cI, 8, .inl (nF TY)))] := hD.sub [0, 14, 1, 2, 3, 13, 4, 5, 6, 7, 8, 9, 10, 11, 12] (by decide) rfl
          refine lv_aload_n hx hb dX6_puts_84 rfl (lv_at hl 0 rfl) ?_
          refine va_get (D := D) (ci := 6) (v := .ref nw) (C := RX6) (T := TX6) (N := 20) hx hb hts inX6 hown hK hP 0 rfl rfl 0 (by decide) (hts _ mf_X6_7) (fun _ h9 => h9) rfl dX6_puts_85 ?_
          refine lv_bipush (v := nI 25) hx hb dX6_puts_88 (by decide +kernel) ?_
          refine lv_iload_n hx hb dX6_puts_90 rfl (lv_at hl 2 rfl) ?_
          refine n_iadd hx hb dX6_puts_91 ?_
          refine lv_iload_n hx hb dX6_puts_92 rfl (lv_at hl 1 rfl) ?_
          refine n_iast hx hb hK hP hD hS 1 0 rfl rfl (k := (25 + (plc KS KL n s A))) (v := v) (by omega) (by decide) dX6_puts_93 (fun H locs hP hD hS => ?_)
          have hP : va_P D vwCl [(m0, .inr (6, [.ref nw, .ref ps, .int (nI u), .ref im, .ref mk, .int (nI sd), .ref wd, .int (nI s), .ref so, .int (nI q), .ref mb, .ref ma, .ref mf, .ref mw, .ref ml, .ref mu, .int (nI br), .ref wt, .int (nI ww), .ref ty])), (nw, .inl (cI, 241, .inl (nF (up (va_cpy WD (up (up N 0 (n + 1)) (1 + (plc KS KL n s A)) s) 0 (49 + (8 * (plc KS KL n s A))) 8) (25 + (plc KS KL n s A)) v)))), (ps, .inl (cI, 4820, .inl (nF PS))), (im, .inl (cI, 484, .inl (nF IM))), (mk, .inl (cZ, 2, .inl (nF MK))), (wd, .inl (cI, 8, .inl (nF WD))), (so, .inl (cI, 24, .inl (nF SO))), (mb, .inl (cI, 24, .inl (nF EB))), (ma, .inl (cI, 24, .inl (nF EA))), (mf, .inl (cI, 24, .inl (nF EF))), (mw, .inl (cI, 24, .inl (nF EW))), (ml, .inl (cI, 24, .inl (nF EL))), (mu, .inl (cI, 24, .inl (oF EU))), (wt, .inl (cI, 200, .inl (oF WT))), (ty, .inl (cI, 8, .inl (nF TY)))] H := hP
          have hD : va_D AA [(m0, .inr (6, [.ref nw, .ref ps, .int (nI u), .ref im, .ref mk, .int (nI sd), .ref wd, .int (nI s), .ref so, .int (nI q), .ref mb, .ref ma, .ref mf, .ref mw, .ref ml, .ref mu, .int (nI br), .ref wt, .int (nI ww), .ref ty])), (nw, .inl (cI, 241, .inl (nF (up (va_cpy WD (up (up N 0 (n + 1)) (1 + (plc KS KL n s A)) s) 0 (49 + (8 * (plc KS KL n s A))) 8) (25 + (plc KS KL n s A)) v)))), (ps, .inl (cI, 4820, .inl (nF PS))), (im, .inl (cI, 484, .inl (nF IM))), (mk, .inl (cZ, 2, .inl (nF MK))), (wd, .inl (cI, 8, .inl (nF WD))), (so, .inl (cI, 24, .inl (nF SO))), (mb, .inl (cI, 24, .inl (nF EB))), (ma, .inl (cI, 24, .inl (nF EA))), (mf, .inl (cI, 24, .inl (nF EF))), (mw, .inl (cI, 24, .inl (nF EW))), (ml, .inl (cI, 24, .inl (nF EL))), (mu, .inl (cI, 24, .inl (oF EU))), (wt, .inl (cI, 200, .inl (oF WT))), (ty, .inl (cI, 8, .inl (nF TY)))] := hD
          exact wr_vret hx hb hr hlk hP hD hS dX6_puts_94 (⟨rfl, _, rfl, rn_put hn2 hp hk hw0 hR hRW (by rw [← show e = plc KS KL n s A by omega]; exact hE)⟩)
        ·
          refine lv_aload_n hx hb dX6_puts_27 rfl (lv_at hl 0 rfl) ?_
          refine lv_iload_n hx hb dX6_puts_28 rfl (lv_at hl 3 rfl) ?_
          refine lv_iconst (v := nI 1) hx hb dX6_puts_29 (by decide +kernel) ?_
          refine n_isub hx hb dX6_puts_30 (by omega) ?_
          refine lv_iload_n hx hb dX6_puts_31 rfl (lv_at hl 3 rfl) ?_
          refine wr_V (As := [.int (nI (e - 1)), .int (nI e)]) (rest := []) (wc := [(m0, .inr (6, [.ref nw, .ref ps, .int (nI u), .ref im, .ref mk, .int (nI sd), .ref wd, .int (nI s), .ref so, .int (nI q), .ref mb, .ref ma, .ref mf, .ref mw, .ref ml, .ref mu, .int (nI br), .ref wt, .int (nI ww), .ref ty])), (nw, .inl (cI, 241, .inl (nF N))), (ps, .inl (cI, 4820, .inl (nF PS))), (im, .inl (cI, 484, .inl (nF IM))), (mk, .inl (cZ, 2, .inl (nF MK))), (wd, .inl (cI, 8, .inl (nF WD))), (so, .inl (cI, 24, .inl (nF SO))), (mb, .inl (cI, 24, .inl (nF EB))), (ma, .inl (cI, 24, .inl (nF EA))), (mf, .inl (cI, 24, .inl (nF EF))), (mw, .inl (cI, 24, .inl (nF EW))), (ml, .inl (cI, 24, .inl (nF EL))), (mu, .inl (cI, 24, .inl (oF EU))), (wt, .inl (cI, 200, .inl (oF WT))), (ty, .inl (cI, 8, .inl (nF TY)))]) (wr := []) ⟨hx, hb, hml, hown, hts⟩ (c_X6_moves l D cI cJ cZ m0 nw ps im mk wd so mb ma mf mw ml mu wt ty N PS u IM MK sd WD s SO q EB EA EF EW EL EU br WT ww TY (e - 1) e (by omega) (by omega) (by omega) _) (k_X6_135 hts ⟨Nat.le_of_ble_eq_true rfl, Nat.le_of_ble_eq_true rfl⟩) hK hN hP hD hS hAA 0 rfl rfl rfl [0, 1, 2, 3, 4, 5, 6, 7, 8, 9, 10, 11, 12, 13, 14] [] rfl rfl (by decide) (by decide) (by decide) rfl hl.1 rfl (Nat.le_of_ble_eq_true rfl) dX6_puts_32 ⟨Nat.le_of_ble_eq_true rfl, Nat.le_of_ble_eq_true rfl⟩ (fun v7 w8 H locs hp6 hP hD hS => ?_)
          obtain ⟨rfl, rfl⟩ := hp6
          have hP : va_P D vwCl [(m0, .inr (6, [.ref nw, .ref ps, .int (nI u), .ref im, .ref mk, .int (nI sd), .ref wd, .int (nI s), .ref so, .int (nI q), .ref mb, .ref ma, .ref mf, .ref mw, .ref ml, .ref mu, .int (nI br), .ref wt, .int (nI ww), .ref ty])), (nw, .inl (cI, 241, .inl (nF (mvF N (e - 1) e)))), (ps, .inl (cI, 4820, .inl (nF PS))), (im, .inl (cI, 484, .inl (nF IM))), (mk, .inl (cZ, 2, .inl (nF MK))), (wd, .inl (cI, 8, .inl (nF WD))), (so, .inl (cI, 24, .inl (nF SO))), (mb, .inl (cI, 24, .inl (nF EB))), (ma, .inl (cI, 24, .inl (nF EA))), (mf, .inl (cI, 24, .inl (nF EF))), (mw, .inl (cI, 24, .inl (nF EW))), (ml, .inl (cI, 24, .inl (nF EL))), (mu, .inl (cI, 24, .inl (oF EU))), (wt, .inl (cI, 200, .inl (oF WT))), (ty, .inl (cI, 8, .inl (nF TY)))] H := hP.sub [0, 1, 2, 3, 4, 5, 6, 7, 8, 9, 10, 11, 12, 13, 14] rfl
          have hD : va_D AA [(m0, .inr (6, [.ref nw, .ref ps, .int (nI u), .ref im, .ref mk, .int (nI sd), .ref wd, .int (nI s), .ref so, .int (nI q), .ref mb, .ref ma, .ref mf, .ref mw, .ref ml, .ref mu, .int (nI br), .ref wt, .int (nI ww), .ref ty])), (nw, .inl (cI, 241, .inl (nF (mvF N (e - 1) e)))), (ps, .inl (cI, 4820, .inl (nF PS))), (im, .inl (cI, 484, .inl (nF IM))), (mk, .inl (cZ, 2, .inl (nF MK))), (wd, .inl (cI, 8, .inl (nF WD))), (so, .inl (cI, 24, .inl (nF SO))), (mb, .inl (cI, 24, .inl (nF EB))), (ma, .inl (cI, 24, .inl (nF EA))), (mf, .inl (cI, 24, .inl (nF EF))), (mw, .inl (cI, 24, .inl (nF EW))), (ml, .inl (cI, 24, .inl (nF EL))), (mu, .inl (cI, 24, .inl (oF EU))), (wt, .inl (cI, 200, .inl (oF WT))), (ty, .inl (cI, 8, .inl (nF TY)))] := hD.sub [0, 1, 2, 3, 4, 5, 6, 7, 8, 9, 10, 11, 12, 13, 14] (by decide) rfl
          refine lv_iinc (v := nI (e - 1)) (lv' := [(3, .int (nI (e - 1))), (0, .ref m0), (1, .int (nI v)), (2, .int (nI (plc KS KL n s A)))]) hx hb dX6_puts_35 hl (k := 3) rfl (sb_m1 (by omega)) (by decide) rfl (fun ls hl => ?_)
          refine lv_goto (tgt := 22) hx hb dX6_puts_38 (by decide) ?_
          exact ih22 (e - 1) (mvF N (e - 1) e) _ _ ls (by omega) (by omega) (by omega) (by rw [mv_0]; exact h0) (ps_step hE (by omega) h2 hn2) hP hD hS (lv_sub hl [1, 2, 3, 0] rfl)
    exact loop22 _ n NW _ _ ls (Nat.lt_succ_self _) hp (Nat.le_refl _) hN0 (fun j hj => by dsimp only; rw [if_neg (by omega)]; exact ⟨rfl, rfl, fun _ _ => rfl⟩) hP hD hS (lv_sub hl [2, 3, 1, 0] rfl)
set_option maxHeartbeats 4000000 in
set_option maxRecDepth 100000 in
theorem c_X6_notes_more (l : Launch) (D : va_G) (cI cJ cZ : ClassId) (m0 nw ps im mk wd so mb ma mf mw ml mu wt ty : Nat) (NW : Nat → Nat) (PS : Nat → Nat) (u : Nat) (IM : Nat → Nat) (MK : Nat → Nat) (sd : Nat) (WD : Nat → Nat) (s : Nat) (SO : Nat → Nat) (q : Nat) (EB : Nat → Nat) (EA : Nat → Nat) (EF : Nat → Nat) (EW : Nat → Nat) (EL : Nat → Nat) (EU : Nat → Nat) (br : Nat) (WT : Nat → Nat) (ww : Nat) (TY : Nat → Nat) (hu : u < 20) (sz : Nat) : WR l yX6_notes cX6_notes 2 none (rmN 1 25) D (ty3 cI cJ cZ) [.ref m0] [(m0, .inr (6, [.ref nw, .ref ps, .int (nI u), .ref im, .ref mk, .int (nI sd), .ref wd, .int (nI s), .ref so, .int (nI q), .ref mb, .ref ma, .ref mf, .ref mw, .ref ml, .ref mu, .int (nI br), .ref wt, .int (nI ww), .ref ty])), (nw, .inl (cI, 241, .inl (nF NW))), (ps, .inl (cI, 4820, .inl (nF PS))), (im, .inl (cI, 484, .inl (nF IM))), (mk, .inl (cZ, 2, .inl (nF MK))), (wd, .inl (cI, 8, .inl (nF WD))), (so, .inl (cI, 24, .inl (nF SO))), (mb, .inl (cI, 24, .inl (nF EB))), (ma, .inl (cI, 24, .inl (nF EA))), (mf, .inl (cI, 24, .inl (nF EF))), (mw, .inl (cI, 24, .inl (nF EW))), (ml, .inl (cI, 24, .inl (nF EL))), (mu, .inl (cI, 24, .inl (oF EU))), (wt, .inl (cI, 200, .inl (oF WT))), (ty, .inl (cI, 8, .inl (nF TY)))] sz (fun x w => x = none ∧ ∃ Q : Nat → Nat, w = [(m0, .inr (6, [.ref nw, .ref ps, .int (nI (min 20 (u + 1))), .ref im, .ref mk, .int (nI sd), .ref wd, .int (nI s), .ref so, .int (nI q), .ref mb, .ref ma, .ref mf, .ref mw, .ref ml, .ref mu, .int (nI br), .ref wt, .int (nI ww), .ref ty])), (nw, .inl (cI, 241, .inl (nF NW))), (ps, .inl (cI, 4820, .inl (nF Q))), (im, .inl (cI, 484, .inl (nF IM))), (mk, .inl (cZ, 2, .inl (nF MK))), (wd, .inl (cI, 8, .inl (nF WD))), (so, .inl (cI, 24, .inl (nF SO))), (mb, .inl (cI, 24, .inl (nF EB))), (ma, .inl (cI, 24, .inl (nF EA))), (mf, .inl (cI, 24, .inl (nF EF))), (mw, .inl (cI, 24, .inl (nF EW))), (ml, .inl (cI, 24, .inl (nF EL))), (mu, .inl (cI, 24, .inl (oF EU))), (wt, .inl (cI, 200, .inl (oF WT))), (ty, .inl (cI, 8, .inl (nF TY)))] ∧ NoteR NW PS u Q) := by
  refine wr_start (by decide) (Nat.le_of_ble_eq_true rfl) ?_
  intro pp ee ss mm below meth cd AA C0 hAA hP hK hD hS hN hnm ls hl
  obtain ⟨hx, hb, hr, hml, hown, hts, hlk⟩ := C0
  have hown : ss.vm.findClass RX6 = some mm.cls := hown
  have hl : lv_has ls 2 [(0, .ref m0)] := hl
  have hP : va_P D vwCl [(m0, .inr (6, [.ref nw, .ref ps, .int (nI u), .ref im, .ref mk, .int (nI sd), .ref wd, .int (nI s), .ref so, .int (nI q), .ref mb, .ref ma, .ref mf, .ref mw, .ref ml, .ref mu, .int (nI br), .ref wt, .int (nI ww), .ref ty])), (nw, .inl (cI, 241, .inl (nF NW))), (ps, .inl (cI, 4820, .inl (nF PS))), (im, .inl (cI, 484, .inl (nF IM))), (mk, .inl (cZ, 2, .inl (nF MK))), (wd, .inl (cI, 8, .inl (nF WD))), (so, .inl (cI, 24, .inl (nF SO))), (mb, .inl (cI, 24, .inl (nF EB))), (ma, .inl (cI, 24, .inl (nF EA))), (mf, .inl (cI, 24, .inl (nF EF))), (mw, .inl (cI, 24, .inl (nF EW))), (ml, .inl (cI, 24, .inl (nF EL))), (mu, .inl (cI, 24, .inl (oF EU))), (wt, .inl (cI, 200, .inl (oF WT))), (ty, .inl (cI, 8, .inl (nF TY)))] ss.heap := hP
  refine lv_aload_n hx hb dX6_notes_0 rfl (lv_at hl 0 rfl) ?_
  refine va_get (D := D) (ci := 6) (v := .int (nI u)) (C := RX6) (T := TX6) (N := 20) hx hb hts inX6 hown hK hP 0 rfl rfl 2 (by decide) (hts _ mf_X6_132) (fun _ h9 => h9) rfl dX6_notes_1 ?_
  refine lv_bipush (v := nI 20) hx hb dX6_notes_4 (by decide +kernel) ?_
  refine n_ne (tgt := 50) hx hb dX6_notes_6 (by decide) (by omega) (by omega) (fun c1 => ?_) (fun c1 => ?_)
  ·
    refine lv_aload_n hx hb dX6_notes_50 rfl (lv_at hl 0 rfl) ?_
    refine va_get (D := D) (ci := 6) (v := .ref nw) (C := RX6) (T := TX6) (N := 20) hx hb hts inX6 hown hK hP 0 rfl rfl 0 (by decide) (hts _ mf_X6_7) (fun _ h9 => h9) rfl dX6_notes_51 ?_
    refine lv_iconst (v := nI 0) hx hb dX6_notes_54 (by decide +kernel) ?_
    refine lv_aload_n hx hb dX6_notes_55 rfl (lv_at hl 0 rfl) ?_
    refine va_get (D := D) (ci := 6) (v := .ref ps) (C := RX6) (T := TX6) (N := 20) hx hb hts inX6 hown hK hP 0 rfl rfl 1 (by decide) (hts _ mf_X6_13) (fun _ h9 => h9) rfl dX6_notes_56 ?_
    refine lv_sipush (v := nI 241) hx hb dX6_notes_59 (by decide +kernel) ?_
    refine lv_aload_n hx hb dX6_notes_62 rfl (lv_at hl 0 rfl) ?_
    refine va_get (D := D) (ci := 6) (v := .int (nI u)) (C := RX6) (T := TX6) (N := 20) hx hb hts inX6 hown hK hP 0 rfl rfl 2 (by decide) (hts _ mf_X6_132) (fun _ h9 => h9) rfl dX6_notes_63 ?_
    refine n_imul hx hb dX6_notes_66 ?_
    refine lv_sipush (v := nI 241) hx hb dX6_notes_67 (by decide +kernel) ?_
    refine wr_S (As := [.ref nw, .int (nI 0), .ref ps, .int (nI (241 * u)), .int (nI 241)]) (rest := []) (wc := [(nw, .inl (cI, 241, .inl (nF NW))), (ps, .inl (cI, 4820, .inl (nF PS)))]) (wr := [(m0, .inr (6, [.ref nw, .ref ps, .int (nI u), .ref im, .ref mk, .int (nI sd), .ref wd, .int (nI s), .ref so, .int (nI q), .ref mb, .ref ma, .ref mf, .ref mw, .ref ml, .ref mu, .int (nI br), .ref wt, .int (nI ww), .ref ty])), (im, .inl (cI, 484, .inl (nF IM))), (mk, .inl (cZ, 2, .inl (nF MK))), (wd, .inl (cI, 8, .inl (nF WD))), (so, .inl (cI, 24, .inl (nF SO))), (mb, .inl (cI, 24, .inl (nF EB))), (ma, .inl (cI, 24, .inl (nF EA))), (mf, .inl (cI, 24, .inl (nF EF))), (mw, .inl (cI, 24, .inl (nF EW))), (ml, .inl (cI, 24, .inl (nF EL))), (mu, .inl (cI, 24, .inl (oF EU))), (wt, .inl (cI, 200, .inl (oF WT))), (ty, .inl (cI, 8, .inl (nF TY)))]) ⟨hx, hb, hml, hown, hts⟩ (c_X6_copies l D cI cJ cZ nw ps 241 4820 0 (241 * u) 241 NW PS (by decide) (by decide) (by omega) (by omega) _) (k_X6_90 hts ⟨Nat.le_of_ble_eq_true rfl, Nat.le_of_ble_eq_true rfl⟩) hK hN hP hD hS hAA [1, 2] [0, 3, 4, 5, 6, 7, 8, 9, 10, 11, 12, 13, 14] rfl rfl (by decide) (by decide) (by decide) rfl hl.1 rfl (Nat.le_of_ble_eq_true rfl) dX6_notes_70 ⟨Nat.le_of_ble_eq_true rfl, Nat.le_of_ble_eq_true rfl⟩ (fun v3 w4 H locs hp2 hP hD hS => ?_)
    obtain ⟨rfl, rfl⟩ := hp2
    have hP : va_P D vwCl [(m0, .inr (6, [.ref nw, .ref ps, .int (nI u), .ref im, .ref mk, .int (nI sd), .ref wd, .int (nI s), .ref so, .int (nI q), .ref mb, .ref ma, .ref mf, .ref mw, .ref ml, .ref mu, .int (nI br), .ref wt, .int (nI ww), .ref ty])), (nw, .inl (cI, 241, .inl (nF NW))), (ps, .inl (cI, 4820, .inl (nF (va_cpy NW PS 0 (241 * u) 241)))), (im, .inl (cI, 484, .inl (nF IM))), (mk, .inl (cZ, 2, .inl (nF MK))), (wd, .inl (cI, 8, .inl (nF WD))), (so, .inl (cI, 24, .inl (nF SO))), (mb, .inl (cI, 24, .inl (nF EB))), (ma, .inl (cI, 24, .inl (nF EA))), (mf, .inl (cI, 24, .inl (nF EF))), (mw, .inl (cI, 24, .inl (nF EW))), (ml, .inl (cI, 24, .inl (nF EL))), (mu, .inl (cI, 24, .inl (oF EU))), (wt, .inl (cI, 200, .inl (oF WT))), (ty, .inl (cI, 8, .inl (nF TY)))] H := hP.sub [0, 13, 14, 1, 2, 3, 4, 5, 6, 7, 8, 9, 10, 11, 12] rfl
    have hD : va_D AA [(m0, .inr (6, [.ref nw, .ref ps, .int (nI u), .ref im, .ref mk, .int (nI sd), .ref wd, .int (nI s), .ref so, .int (nI q), .ref mb, .ref ma, .ref mf, .ref mw, .ref ml, .ref mu, .int (nI br), .ref wt, .int (nI ww), .ref ty])), (nw, .inl (cI, 241, .inl (nF NW))), (ps, .inl (cI, 4820, .inl (nF (va_cpy NW PS 0 (241 * u) 241)))), (im, .inl (cI, 484, .inl (nF IM))), (mk, .inl (cZ, 2, .inl (nF MK))), (wd, .inl (cI, 8, .inl (nF WD))), (so, .inl (cI, 24, .inl (nF SO))), (mb, .inl (cI, 24, .inl (nF EB))), (ma, .inl (cI, 24, .inl (nF EA))), (mf, .inl (cI, 24, .inl (nF EF))), (mw, .inl (cI, 24, .inl (nF EW))), (ml, .inl (cI, 24, .inl (nF EL))), (mu, .inl (cI, 24, .inl (oF EU))), (wt, .inl (cI, 200, .inl (oF WT))), (ty, .inl (cI, 8, .inl (nF TY)))] := hD.sub [0, 13, 14, 1, 2, 3, 4, 5, 6, 7, 8, 9, 10, 11, 12] (by decide) rfl
    refine lv_aload_n hx hb dX6_notes_73 rfl (lv_at hl 0 rfl) ?_
    refine lv_dup hx hb dX6_notes_74 rfl ?_
    refine va_get (D := D) (ci := 6) (v := .int (nI u)) (C := RX6) (T := TX6) (N := 20) hx hb hts inX6 hown hK hP 0 rfl rfl 2 (by decide) (hts _ mf_X6_132) (fun _ h9 => h9) rfl dX6_notes_75 ?_
    refine lv_iconst (v := nI 1) hx hb dX6_notes_78 (by decide +kernel) ?_
    refine n_iadd hx hb dX6_notes_79 ?_
    refine va_put (D := D) (ci := 6) (v := .int (nI (u + 1))) (ty := .int) (C := RX6) (T := TX6) (N := 20) hx hb hts inX6 tyX6 tyX6_ok nmX6 hown hK hP hD hS 0 rfl rfl 2 (by decide) (hts _ mf_X6_132) (fun _ h9 => h9) rfl (by decide +kernel) rfl rfl (Nat.le_of_ble_eq_true rfl) dX6_notes_80 (fun H locs hP hD hS => ?_)
    have hP : va_P D vwCl [(m0, .inr (6, [.ref nw, .ref ps, .int (nI (u + 1)), .ref im, .ref mk, .int (nI sd), .ref wd, .int (nI s), .ref so, .int (nI q), .ref mb, .ref ma, .ref mf, .ref mw, .ref ml, .ref mu, .int (nI br), .ref wt, .int (nI ww), .ref ty])), (nw, .inl (cI, 241, .inl (nF NW))), (ps, .inl (cI, 4820, .inl (nF (va_cpy NW PS 0 (241 * u) 241)))), (im, .inl (cI, 484, .inl (nF IM))), (mk, .inl (cZ, 2, .inl (nF MK))), (wd, .inl (cI, 8, .inl (nF WD))), (so, .inl (cI, 24, .inl (nF SO))), (mb, .inl (cI, 24, .inl (nF EB))), (ma, .inl (cI, 24, .inl (nF EA))), (mf, .inl (cI, 24, .inl (nF EF))), (mw, .inl (cI, 24, .inl (nF EW))), (ml, .inl (cI, 24, .inl (nF EL))), (mu, .inl (cI, 24, .inl (oF EU))), (wt, .inl (cI, 200, .inl (oF WT))), (ty, .inl (cI, 8, .inl (nF TY)))] H := hP
    have hD : va_D AA [(m0, .inr (6, [.ref nw, .ref ps, .int (nI (u + 1)), .ref im, .ref mk, .int (nI sd), .ref wd, .int (nI s), .ref so, .int (nI q), .ref mb, .ref ma, .ref mf, .ref mw, .ref ml, .ref mu, .int (nI br), .ref wt, .int (nI ww), .ref ty])), (nw, .inl (cI, 241, .inl (nF NW))), (ps, .inl (cI, 4820, .inl (nF (va_cpy NW PS 0 (241 * u) 241)))), (im, .inl (cI, 484, .inl (nF IM))), (mk, .inl (cZ, 2, .inl (nF MK))), (wd, .inl (cI, 8, .inl (nF WD))), (so, .inl (cI, 24, .inl (nF SO))), (mb, .inl (cI, 24, .inl (nF EB))), (ma, .inl (cI, 24, .inl (nF EA))), (mf, .inl (cI, 24, .inl (nF EF))), (mw, .inl (cI, 24, .inl (nF EW))), (ml, .inl (cI, 24, .inl (nF EL))), (mu, .inl (cI, 24, .inl (oF EU))), (wt, .inl (cI, 200, .inl (oF WT))), (ty, .inl (cI, 8, .inl (nF TY)))] := hD
    exact wr_vret hx hb hr hlk hP hD hS dX6_notes_83 (⟨rfl, _, by rw [Nat.min_eq_right (by omega)], note_more hu⟩)
  ·
    exact absurd c1 (by omega)
set_option maxHeartbeats 4000000 in
set_option maxRecDepth 100000 in
theorem c_X6_notes_full (l : Launch) (D : va_G) (cI cJ cZ : ClassId) (m0 nw ps im mk wd so mb ma mf mw ml mu wt ty : Nat) (NW : Nat → Nat) (PS : Nat → Nat) (u : Nat) (IM : Nat → Nat) (MK : Nat → Nat) (sd : Nat) (WD : Nat → Nat) (s : Nat) (SO : Nat → Nat) (q : Nat) (EB : Nat → Nat) (EA : Nat → Nat) (EF : Nat → Nat) (EW : Nat → Nat) (EL : Nat → Nat) (EU : Nat → Nat) (br : Nat) (WT : Nat → Nat) (ww : Nat) (TY : Nat → Nat) (hu : u = 20) (sz : Nat) : WR l yX6_notes cX6_notes 2 none (rmN 1 25) D (ty3 cI cJ cZ) [.ref m0] [(m0, .inr (6, [.ref nw, .ref ps, .int (nI u), .ref im, .ref mk, .int (nI sd), .ref wd, .int (nI s), .ref so, .int (nI q), .ref mb, .ref ma, .ref mf, .ref mw, .ref ml, .ref mu, .int (nI br), .ref wt, .int (nI ww), .ref ty])), (nw, .inl (cI, 241, .inl (nF NW))), (ps, .inl (cI, 4820, .inl (nF PS))), (im, .inl (cI, 484, .inl (nF IM))), (mk, .inl (cZ, 2, .inl (nF MK))), (wd, .inl (cI, 8, .inl (nF WD))), (so, .inl (cI, 24, .inl (nF SO))), (mb, .inl (cI, 24, .inl (nF EB))), (ma, .inl (cI, 24, .inl (nF EA))), (mf, .inl (cI, 24, .inl (nF EF))), (mw, .inl (cI, 24, .inl (nF EW))), (ml, .inl (cI, 24, .inl (nF EL))), (mu, .inl (cI, 24, .inl (oF EU))), (wt, .inl (cI, 200, .inl (oF WT))), (ty, .inl (cI, 8, .inl (nF TY)))] sz (fun x w => x = none ∧ ∃ Q : Nat → Nat, w = [(m0, .inr (6, [.ref nw, .ref ps, .int (nI (min 20 (u + 1))), .ref im, .ref mk, .int (nI sd), .ref wd, .int (nI s), .ref so, .int (nI q), .ref mb, .ref ma, .ref mf, .ref mw, .ref ml, .ref mu, .int (nI br), .ref wt, .int (nI ww), .ref ty])), (nw, .inl (cI, 241, .inl (nF NW))), (ps, .inl (cI, 4820, .inl (nF Q))), (im, .inl (cI, 484, .inl (nF IM))), (mk, .inl (cZ, 2, .inl (nF MK))), (wd, .inl (cI, 8, .inl (nF WD))), (so, .inl (cI, 24, .inl (nF SO))), (mb, .inl (cI, 24, .inl (nF EB))), (ma, .inl (cI, 24, .inl (nF EA))), (mf, .inl (cI, 24, .inl (nF EF))), (mw, .inl (cI, 24, .inl (nF EW))), (ml, .inl (cI, 24, .inl (nF EL))), (mu, .inl (cI, 24, .inl (oF EU))), (wt, .inl (cI, 200, .inl (oF WT))), (ty, .inl (cI, 8, .inl (nF TY)))] ∧ NoteR NW PS u Q) := by
  refine wr_start (by decide) (Nat.le_of_ble_eq_true rfl) ?_
  intro pp ee ss mm below meth cd AA C0 hAA hP hK hD hS hN hnm ls hl
  obtain ⟨hx, hb, hr, hml, hown, hts, hlk⟩ := C0
  have hown : ss.vm.findClass RX6 = some mm.cls := hown
  have hl : lv_has ls 2 [(0, .ref m0)] := hl
  have hP : va_P D vwCl [(m0, .inr (6, [.ref nw, .ref ps, .int (nI u), .ref im, .ref mk, .int (nI sd), .ref wd, .int (nI s), .ref so, .int (nI q), .ref mb, .ref ma, .ref mf, .ref mw, .ref ml, .ref mu, .int (nI br), .ref wt, .int (nI ww), .ref ty])), (nw, .inl (cI, 241, .inl (nF NW))), (ps, .inl (cI, 4820, .inl (nF PS))), (im, .inl (cI, 484, .inl (nF IM))), (mk, .inl (cZ, 2, .inl (nF MK))), (wd, .inl (cI, 8, .inl (nF WD))), (so, .inl (cI, 24, .inl (nF SO))), (mb, .inl (cI, 24, .inl (nF EB))), (ma, .inl (cI, 24, .inl (nF EA))), (mf, .inl (cI, 24, .inl (nF EF))), (mw, .inl (cI, 24, .inl (nF EW))), (ml, .inl (cI, 24, .inl (nF EL))), (mu, .inl (cI, 24, .inl (oF EU))), (wt, .inl (cI, 200, .inl (oF WT))), (ty, .inl (cI, 8, .inl (nF TY)))] ss.heap := hP
  refine lv_aload_n hx hb dX6_notes_0 rfl (lv_at hl 0 rfl) ?_
  refine va_get (D := D) (ci := 6) (v := .int (nI u)) (C := RX6) (T := TX6) (N := 20) hx hb hts inX6 hown hK hP 0 rfl rfl 2 (by decide) (hts _ mf_X6_132) (fun _ h9 => h9) rfl dX6_notes_1 ?_
  refine lv_bipush (v := nI 20) hx hb dX6_notes_4 (by decide +kernel) ?_
  refine n_ne (tgt := 50) hx hb dX6_notes_6 (by decide) (by omega) (by omega) (fun c1 => ?_) (fun c1 => ?_)
  ·
    exact absurd c1 (by omega)
  ·
    refine lv_iconst (v := nI 0) hx hb dX6_notes_9 (by decide +kernel) ?_
    refine lv_istore_n (lv' := [(1, .int (nI 0)), (0, .ref m0)]) hx hb dX6_notes_10 rfl hl (by decide) rfl (fun ls hl => ?_)
    have loop11 : ∀ (d : Nat) (i : Nat) (E : Nat → Nat) (H : Heap) (locs : List Loc) (ls : Array Slot), 4579 - i < d → (i ≤ 4579) → (∀ x, E x = if x < i then PS (x + 241) else PS x) → va_P D vwCl [(m0, .inr (6, [.ref nw, .ref ps, .int (nI u), .ref im, .ref mk, .int (nI sd), .ref wd, .int (nI s), .ref so, .int (nI q), .ref mb, .ref ma, .ref mf, .ref mw, .ref ml, .ref mu, .int (nI br), .ref wt, .int (nI ww), .ref ty])), (nw, .inl (cI, 241, .inl (nF NW))), (ps, .inl (cI, 4820, .inl (nF E))), (im, .inl (cI, 484, .inl (nF IM))), (mk, .inl (cZ, 2, .inl (nF MK))), (wd, .inl (cI, 8, .inl (nF WD))), (so, .inl (cI, 24, .inl (nF SO))), (mb, .inl (cI, 24, .inl (nF EB))), (ma, .inl (cI, 24, .inl (nF EA))), (mf, .inl (cI, 24, .inl (nF EF))), (mw, .inl (cI, 24, .inl (nF EW))), (ml, .inl (cI, 24, .inl (nF EL))), (mu, .inl (cI, 24, .inl (oF EU))), (wt, .inl (cI, 200, .inl (oF WT))), (ty, .inl (cI, 8, .inl (nF TY)))] H → va_D AA [(m0, .inr (6, [.ref nw, .ref ps, .int (nI u), .ref im, .ref mk, .int (nI sd), .ref wd, .int (nI s), .ref so, .int (nI q), .ref mb, .ref ma, .ref mf, .ref mw, .ref ml, .ref mu, .int (nI br), .ref wt, .int (nI ww), .ref ty])), (nw, .inl (cI, 241, .inl (nF NW))), (ps, .inl (cI, 4820, .inl (nF E))), (im, .inl (cI, 484, .inl (nF IM))), (mk, .inl (cZ, 2, .inl (nF MK))), (wd, .inl (cI, 8, .inl (nF WD))), (so, .inl (cI, 24, .inl (nF SO))), (mb, .inl (cI, 24, .inl (nF EB))), (ma, .inl (cI, 24, .inl (nF EA))), (mf, .inl (cI, 24, .inl (nF EF))), (mw, .inl (cI, 24, .inl (nF EW))), (ml, .inl (cI, 24, .inl (nF EL))), (mu, .inl (cI, 24, .inl (oF EU))), (wt, .inl (cI, 200, .inl (oF WT))), (ty, .inl (cI, 8, .inl (nF TY)))] → va_S AA ss.heap H locs → lv_has ls 2 [(0, .ref m0), (1, .int (nI i))] → W pp l ee (rmN 1 25) ss mm [.ref m0].toArray below meth cd H locs 0 0 (MQ below (QW D AA (fun x w => x = none ∧ ∃ Q : Nat → Nat, w = [(m0, .inr (6, [.ref nw, .ref ps, .int (nI (min 20 (u + 1))), .ref im, .ref mk, .int (nI sd), .ref wd, .int (nI s), .ref so, .int (nI q), .ref mb, .ref ma, .ref mf, .ref mw, .ref ml, .ref mu, .int (nI br), .ref wt, .int (nI ww), .ref ty])), (nw, .inl (cI, 241, .inl (nF NW))), (ps, .inl (cI, 4820, .inl (nF Q))), (im, .inl (cI, 484, .inl (nF IM))), (mk, .inl (cZ, 2, .inl (nF MK))), (wd, .inl (cI, 8, .inl (nF WD))), (so, .inl (cI, 24, .inl (nF SO))), (mb, .inl (cI, 24, .inl (nF EB))), (ma, .inl (cI, 24, .inl (nF EA))), (mf, .inl (cI, 24, .inl (nF EF))), (mw, .inl (cI, 24, .inl (nF EW))), (ml, .inl (cI, 24, .inl (nF EL))), (mu, .inl (cI, 24, .inl (oF EU))), (wt, .inl (cI, 200, .inl (oF WT))), (ty, .inl (cI, 8, .inl (nF TY)))] ∧ NoteR NW PS u Q)) [.ref m0].toArray ss 0 0 AA) (F0 mm 11 ls []) := by
      intro d
      induction d with
      | zero => intro i E H locs ls h; exact absurd h (Nat.not_lt_zero _)
      | succ d ih11 =>
        intro i E H locs ls hd11 hi hE hP hD hS hl
        refine lv_iload_n hx hb dX6_notes_11 rfl (lv_at hl 1 rfl) ?_
        refine lv_sipush (v := nI 4579) hx hb dX6_notes_12 (by decide +kernel) ?_
        refine n_ge (tgt := 40) hx hb dX6_notes_15 (by decide) (by omega) (by omega) (fun c2 => ?_) (fun c2 => ?_)
        ·
          refine lv_aload_n hx hb dX6_notes_40 rfl (lv_at hl 0 rfl) ?_
          refine lv_dup hx hb dX6_notes_41 rfl ?_
          refine va_get (D := D) (ci := 6) (v := .int (nI u)) (C := RX6) (T := TX6) (N := 20) hx hb hts inX6 hown hK hP 0 rfl rfl 2 (by decide) (hts _ mf_X6_132) (fun _ h9 => h9) rfl dX6_notes_42 ?_
          refine lv_iconst (v := nI 1) hx hb dX6_notes_45 (by decide +kernel) ?_
          refine n_isub hx hb dX6_notes_46 (by omega) ?_
          refine va_put (D := D) (ci := 6) (v := .int (nI (u - 1))) (ty := .int) (C := RX6) (T := TX6) (N := 20) hx hb hts inX6 tyX6 tyX6_ok nmX6 hown hK hP hD hS 0 rfl rfl 2 (by decide) (hts _ mf_X6_132) (fun _ h9 => h9) rfl (by decide +kernel) rfl rfl (Nat.le_of_ble_eq_true rfl) dX6_notes_47 (fun H locs hP hD hS => ?_)
          have hP : va_P D vwCl [(m0, .inr (6, [.ref nw, .ref ps, .int (nI (u - 1)), .ref im, .ref mk, .int (nI sd), .ref wd, .int (nI s), .ref so, .int (nI q), .ref mb, .ref ma, .ref mf, .ref mw, .ref ml, .ref mu, .int (nI br), .ref wt, .int (nI ww), .ref ty])), (nw, .inl (cI, 241, .inl (nF NW))), (ps, .inl (cI, 4820, .inl (nF E))), (im, .inl (cI, 484, .inl (nF IM))), (mk, .inl (cZ, 2, .inl (nF MK))), (wd, .inl (cI, 8, .inl (nF WD))), (so, .inl (cI, 24, .inl (nF SO))), (mb, .inl (cI, 24, .inl (nF EB))), (ma, .inl (cI, 24, .inl (nF EA))), (mf, .inl (cI, 24, .inl (nF EF))), (mw, .inl (cI, 24, .inl (nF EW))), (ml, .inl (cI, 24, .inl (nF EL))), (mu, .inl (cI, 24, .inl (oF EU))), (wt, .inl (cI, 200, .inl (oF WT))), (ty, .inl (cI, 8, .inl (nF TY)))] H := hP
          have hD : va_D AA [(m0, .inr (6, [.ref nw, .ref ps, .int (nI (u - 1)), .ref im, .ref mk, .int (nI sd), .ref wd, .int (nI s), .ref so, .int (nI q), .ref mb, .ref ma, .ref mf, .ref mw, .ref ml, .ref mu, .int (nI br), .ref wt, .int (nI ww), .ref ty])), (nw, .inl (cI, 241, .inl (nF NW))), (ps, .inl (cI, 4820, .inl (nF E))), (im, .inl (cI, 484, .inl (nF IM))), (mk, .inl (cZ, 2, .inl (nF MK))), (wd, .inl (cI, 8, .inl (nF WD))), (so, .inl (cI, 24, .inl (nF SO))), (mb, .inl (cI, 24, .inl (nF EB))), (ma, .inl (cI, 24, .inl (nF EA))), (mf, .inl (cI, 24, .inl (nF EF))), (mw, .inl (cI, 24, .inl (nF EW))), (ml, .inl (cI, 24, .inl (nF EL))), (mu, .inl (cI, 24, .inl (oF EU))), (wt, .inl (cI, 200, .inl (oF WT))), (ty, .inl (cI, 8, .inl (nF TY)))] := hD
          refine lv_aload_n hx hb dX6_notes_50 rfl (lv_at hl 0 rfl) ?_
          refine va_get (D := D) (ci := 6) (v := .ref nw) (C := RX6) (T := TX6) (N := 20) hx hb hts inX6 hown hK hP 0 rfl rfl 0 (by decide) (hts _ mf_X6_7) (fun _ h9 => h9) rfl dX6_notes_51 ?_
          refine lv_iconst (v := nI 0) hx hb dX6_notes_54 (by decide +kernel) ?_
          refine lv_aload_n hx hb dX6_notes_55 rfl (lv_at hl 0 rfl) ?_
          refine va_get (D := D) (ci := 6) (v := .ref ps) (C := RX6) (T := TX6) (N := 20) hx hb hts inX6 hown hK hP 0 rfl rfl 1 (by decide) (hts _ mf_X6_13) (fun _ h9 => h9) rfl dX6_notes_56 ?_
          refine lv_sipush (v := nI 241) hx hb dX6_notes_59 (by decide +kernel) ?_
          refine lv_aload_n hx hb dX6_notes_62 rfl (lv_at hl 0 rfl) ?_
          refine va_get (D := D) (ci := 6) (v := .int (nI (u - 1))) (C := RX6) (T := TX6) (N := 20) hx hb hts inX6 hown hK hP 0 rfl rfl 2 (by decide) (hts _ mf_X6_132) (fun _ h9 => h9) rfl dX6_notes_63 ?_
          refine n_imul hx hb dX6_notes_66 ?_
          refine lv_sipush (v := nI 241) hx hb dX6_notes_67 (by decide +kernel) ?_
          refine wr_S (As := [.ref nw, .int (nI 0), .ref ps, .int (nI (241 * (u - 1))), .int (nI 241)]) (rest := []) (wc := [(nw, .inl (cI, 241, .inl (nF NW))), (ps, .inl (cI, 4820, .inl (nF E)))]) (wr := [(m0, .inr (6, [.ref nw, .ref ps, .int (nI (u - 1)), .ref im, .ref mk, .int (nI sd), .ref wd, .int (nI s), .ref so, .int (nI q), .ref mb, .ref ma, .ref mf, .ref mw, .ref ml, .ref mu, .int (nI br), .ref wt, .int (nI ww), .ref ty])), (im, .inl (cI, 484, .inl (nF IM))), (mk, .inl (cZ, 2, .inl (nF MK))), (wd, .inl (cI, 8, .inl (nF WD))), (so, .inl (cI, 24, .inl (nF SO))), (mb, .inl (cI, 24, .inl (nF EB))), (ma, .inl (cI, 24, .inl (nF EA))), (mf, .inl (cI, 24, .inl (nF EF))), (mw, .inl (cI, 24, .inl (nF EW))), (ml, .inl (cI, 24, .inl (nF EL))), (mu, .inl (cI, 24, .inl (oF EU))), (wt, .inl (cI, 200, .inl (oF WT))), (ty, .inl (cI, 8, .inl (nF TY)))]) ⟨hx, hb, hml, hown, hts⟩ (c_X6_copies l D cI cJ cZ nw ps 241 4820 0 (241 * (u - 1)) 241 NW E (by decide) (by decide) (by omega) (by omega) _) (k_X6_90 hts ⟨Nat.le_of_ble_eq_true rfl, Nat.le_of_ble_eq_true rfl⟩) hK hN hP hD hS hAA [1, 2] [0, 3, 4, 5, 6, 7, 8, 9, 10, 11, 12, 13, 14] rfl rfl (by decide) (by decide) (by decide) rfl hl.1 rfl (Nat.le_of_ble_eq_true rfl) dX6_notes_70 ⟨Nat.le_of_ble_eq_true rfl, Nat.le_of_ble_eq_true rfl⟩ (fun v4 w5 H locs hp3 hP hD hS => ?_)
          obtain ⟨rfl, rfl⟩ := hp3
          have hP : va_P D vwCl [(m0, .inr (6, [.ref nw, .ref ps, .int (nI (u - 1)), .ref im, .ref mk, .int (nI sd), .ref wd, .int (nI s), .ref so, .int (nI q), .ref mb, .ref ma, .ref mf, .ref mw, .ref ml, .ref mu, .int (nI br), .ref wt, .int (nI ww), .ref ty])), (nw, .inl (cI, 241, .inl (nF NW))), (ps, .inl (cI, 4820, .inl (nF (va_cpy NW E 0 (241 * (u - 1)) 241)))), (im, .inl (cI, 484, .inl (nF IM))), (mk, .inl (cZ, 2, .inl (nF MK))), (wd, .inl (cI, 8, .inl (nF WD))), (so, .inl (cI, 24, .inl (nF SO))), (mb, .inl (cI, 24, .inl (nF EB))), (ma, .inl (cI, 24, .inl (nF EA))), (mf, .inl (cI, 24, .inl (nF EF))), (mw, .inl (cI, 24, .inl (nF EW))), (ml, .inl (cI, 24, .inl (nF EL))), (mu, .inl (cI, 24, .inl (oF EU))), (wt, .inl (cI, 200, .inl (oF WT))), (ty, .inl (cI, 8, .inl (nF TY)))] H := hP.sub [0, 13, 14, 1, 2, 3, 4, 5, 6, 7, 8, 9, 10, 11, 12] rfl
          have hD : va_D AA [(m0, .inr (6, [.ref nw, .ref ps, .int (nI (u - 1)), .ref im, .ref mk, .int (nI sd), .ref wd, .int (nI s), .ref so, .int (nI q), .ref mb, .ref ma, .ref mf, .ref mw, .ref ml, .ref mu, .int (nI br), .ref wt, .int (nI ww), .ref ty])), (nw, .inl (cI, 241, .inl (nF NW))), (ps, .inl (cI, 4820, .inl (nF (va_cpy NW E 0 (241 * (u - 1)) 241)))), (im, .inl (cI, 484, .inl (nF IM))), (mk, .inl (cZ, 2, .inl (nF MK))), (wd, .inl (cI, 8, .inl (nF WD))), (so, .inl (cI, 24, .inl (nF SO))), (mb, .inl (cI, 24, .inl (nF EB))), (ma, .inl (cI, 24, .inl (nF EA))), (mf, .inl (cI, 24, .inl (nF EF))), (mw, .inl (cI, 24, .inl (nF EW))), (ml, .inl (cI, 24, .inl (nF EL))), (mu, .inl (cI, 24, .inl (oF EU))), (wt, .inl (cI, 200, .inl (oF WT))), (ty, .inl (cI, 8, .inl (nF TY)))] := hD.sub [0, 13, 14, 1, 2, 3, 4, 5, 6, 7, 8, 9, 10, 11, 12] (by decide) rfl
          refine lv_aload_n hx hb dX6_notes_73 rfl (lv_at hl 0 rfl) ?_
          refine lv_dup hx hb dX6_notes_74 rfl ?_
          refine va_get (D := D) (ci := 6) (v := .int (nI (u - 1))) (C := RX6) (T := TX6) (N := 20) hx hb hts inX6 hown hK hP 0 rfl rfl 2 (by decide) (hts _ mf_X6_132) (fun _ h9 => h9) rfl dX6_notes_75 ?_
          refine lv_iconst (v := nI 1) hx hb dX6_notes_78 (by decide +kernel) ?_
          refine n_iadd hx hb dX6_notes_79 ?_
          refine va_put (D := D) (ci := 6) (v := .int (nI ((u - 1) + 1))) (ty := .int) (C := RX6) (T := TX6) (N := 20) hx hb hts inX6 tyX6 tyX6_ok nmX6 hown hK hP hD hS 0 rfl rfl 2 (by decide) (hts _ mf_X6_132) (fun _ h9 => h9) rfl (by decide +kernel) rfl rfl (Nat.le_of_ble_eq_true rfl) dX6_notes_80 (fun H locs hP hD hS => ?_)
          have hP : va_P D vwCl [(m0, .inr (6, [.ref nw, .ref ps, .int (nI ((u - 1) + 1)), .ref im, .ref mk, .int (nI sd), .ref wd, .int (nI s), .ref so, .int (nI q), .ref mb, .ref ma, .ref mf, .ref mw, .ref ml, .ref mu, .int (nI br), .ref wt, .int (nI ww), .ref ty])), (nw, .inl (cI, 241, .inl (nF NW))), (ps, .inl (cI, 4820, .inl (nF (va_cpy NW E 0 (241 * (u - 1)) 241)))), (im, .inl (cI, 484, .inl (nF IM))), (mk, .inl (cZ, 2, .inl (nF MK))), (wd, .inl (cI, 8, .inl (nF WD))), (so, .inl (cI, 24, .inl (nF SO))), (mb, .inl (cI, 24, .inl (nF EB))), (ma, .inl (cI, 24, .inl (nF EA))), (mf, .inl (cI, 24, .inl (nF EF))), (mw, .inl (cI, 24, .inl (nF EW))), (ml, .inl (cI, 24, .inl (nF EL))), (mu, .inl (cI, 24, .inl (oF EU))), (wt, .inl (cI, 200, .inl (oF WT))), (ty, .inl (cI, 8, .inl (nF TY)))] H := hP
          have hD : va_D AA [(m0, .inr (6, [.ref nw, .ref ps, .int (nI ((u - 1) + 1)), .ref im, .ref mk, .int (nI sd), .ref wd, .int (nI s), .ref so, .int (nI q), .ref mb, .ref ma, .ref mf, .ref mw, .ref ml, .ref mu, .int (nI br), .ref wt, .int (nI ww), .ref ty])), (nw, .inl (cI, 241, .inl (nF NW))), (ps, .inl (cI, 4820, .inl (nF (va_cpy NW E 0 (241 * (u - 1)) 241)))), (im, .inl (cI, 484, .inl (nF IM))), (mk, .inl (cZ, 2, .inl (nF MK))), (wd, .inl (cI, 8, .inl (nF WD))), (so, .inl (cI, 24, .inl (nF SO))), (mb, .inl (cI, 24, .inl (nF EB))), (ma, .inl (cI, 24, .inl (nF EA))), (mf, .inl (cI, 24, .inl (nF EF))), (mw, .inl (cI, 24, .inl (nF EW))), (ml, .inl (cI, 24, .inl (nF EL))), (mu, .inl (cI, 24, .inl (oF EU))), (wt, .inl (cI, 200, .inl (oF WT))), (ty, .inl (cI, 8, .inl (nF TY)))] := hD
          exact wr_vret hx hb hr hlk hP hD hS dX6_notes_83 (⟨rfl, _, by rw [show min 20 (u + 1) = u - 1 + 1 by omega], note_full hu (fun x => by rw [hE, show i = 4579 by omega])⟩)
        ·
          refine lv_aload_n hx hb dX6_notes_18 rfl (lv_at hl 0 rfl) ?_
          refine va_get (D := D) (ci := 6) (v := .ref ps) (C := RX6) (T := TX6) (N := 20) hx hb hts inX6 hown hK hP 0 rfl rfl 1 (by decide) (hts _ mf_X6_13) (fun _ h9 => h9) rfl dX6_notes_19 ?_
          refine lv_iload_n hx hb dX6_notes_22 rfl (lv_at hl 1 rfl) ?_
          refine lv_aload_n hx hb dX6_notes_23 rfl (lv_at hl 0 rfl) ?_
          refine va_get (D := D) (ci := 6) (v := .ref ps) (C := RX6) (T := TX6) (N := 20) hx hb hts inX6 hown hK hP 0 rfl rfl 1 (by decide) (hts _ mf_X6_13) (fun _ h9 => h9) rfl dX6_notes_24 ?_
          refine lv_iload_n hx hb dX6_notes_27 rfl (lv_at hl 1 rfl) ?_
          refine lv_sipush (v := nI 241) hx hb dX6_notes_28 (by decide +kernel) ?_
          refine n_iadd hx hb dX6_notes_31 ?_
          refine n_iald hx hb hK hP 2 0 rfl rfl (k := (i + 241)) (by omega) (by decide) dX6_notes_32 ?_
          refine n_iast hx hb hK hP hD hS 2 0 rfl rfl (k := i) (v := (E (i + 241))) (by omega) (by decide) dX6_notes_33 (fun H locs hP hD hS => ?_)
          have hP : va_P D vwCl [(m0, .inr (6, [.ref nw, .ref ps, .int (nI u), .ref im, .ref mk, .int (nI sd), .ref wd, .int (nI s), .ref so, .int (nI q), .ref mb, .ref ma, .ref mf, .ref mw, .ref ml, .ref mu, .int (nI br), .ref wt, .int (nI ww), .ref ty])), (nw, .inl (cI, 241, .inl (nF NW))), (ps, .inl (cI, 4820, .inl (nF (up E i (E (i + 241)))))), (im, .inl (cI, 484, .inl (nF IM))), (mk, .inl (cZ, 2, .inl (nF MK))), (wd, .inl (cI, 8, .inl (nF WD))), (so, .inl (cI, 24, .inl (nF SO))), (mb, .inl (cI, 24, .inl (nF EB))), (ma, .inl (cI, 24, .inl (nF EA))), (mf, .inl (cI, 24, .inl (nF EF))), (mw, .inl (cI, 24, .inl (nF EW))), (ml, .inl (cI, 24, .inl (nF EL))), (mu, .inl (cI, 24, .inl (oF EU))), (wt, .inl (cI, 200, .inl (oF WT))), (ty, .inl (cI, 8, .inl (nF TY)))] H := hP
          have hD : va_D AA [(m0, .inr (6, [.ref nw, .ref ps, .int (nI u), .ref im, .ref mk, .int (nI sd), .ref wd, .int (nI s), .ref so, .int (nI q), .ref mb, .ref ma, .ref mf, .ref mw, .ref ml, .ref mu, .int (nI br), .ref wt, .int (nI ww), .ref ty])), (nw, .inl (cI, 241, .inl (nF NW))), (ps, .inl (cI, 4820, .inl (nF (up E i (E (i + 241)))))), (im, .inl (cI, 484, .inl (nF IM))), (mk, .inl (cZ, 2, .inl (nF MK))), (wd, .inl (cI, 8, .inl (nF WD))), (so, .inl (cI, 24, .inl (nF SO))), (mb, .inl (cI, 24, .inl (nF EB))), (ma, .inl (cI, 24, .inl (nF EA))), (mf, .inl (cI, 24, .inl (nF EF))), (mw, .inl (cI, 24, .inl (nF EW))), (ml, .inl (cI, 24, .inl (nF EL))), (mu, .inl (cI, 24, .inl (oF EU))), (wt, .inl (cI, 200, .inl (oF WT))), (ty, .inl (cI, 8, .inl (nF TY)))] := hD
          refine lv_iinc (v := nI (i + 1)) (lv' := [(1, .int (nI (i + 1))), (0, .ref m0)]) hx hb dX6_notes_34 hl (k := 1) rfl (nI_add i 1) (by decide) rfl (fun ls hl => ?_)
          refine lv_goto (tgt := 11) hx hb dX6_notes_37 (by decide) ?_
          exact ih11 (i + 1) (up E i (E (i + 241))) _ _ ls (by omega) (by omega) (fun x => by by_cases e : x = i; (rw [e, up_eq, hE, if_neg (by omega), if_pos (by omega)]); (rw [up_ne _ _ e, hE]; by_cases g : x < i; (rw [if_pos g, if_pos (by omega)]); (rw [if_neg g, if_neg (by omega)]))) hP hD hS (lv_sub hl [1, 0] rfl)
    exact loop11 _ 0 PS _ _ ls (Nat.lt_succ_self _) (Nat.zero_le _) (fun x => (if_neg (Nat.not_lt_zero _)).symm) hP hD hS (lv_sub hl [1, 0] rfl)
theorem c_X6_notes (l : Launch) (D : va_G) (cI cJ cZ : ClassId) (m0 nw ps im mk wd so mb ma mf mw ml mu wt ty : Nat) (NW : Nat → Nat) (PS : Nat → Nat) (u : Nat) (IM : Nat → Nat) (MK : Nat → Nat) (sd : Nat) (WD : Nat → Nat) (s : Nat) (SO : Nat → Nat) (q : Nat) (EB : Nat → Nat) (EA : Nat → Nat) (EF : Nat → Nat) (EW : Nat → Nat) (EL : Nat → Nat) (EU : Nat → Nat) (br : Nat) (WT : Nat → Nat) (ww : Nat) (TY : Nat → Nat) (hu : u ≤ 20) (sz : Nat) : WR l yX6_notes cX6_notes 2 none (rmN 1 25) D (ty3 cI cJ cZ) [.ref m0] [(m0, .inr (6, [.ref nw, .ref ps, .int (nI u), .ref im, .ref mk, .int (nI sd), .ref wd, .int (nI s), .ref so, .int (nI q), .ref mb, .ref ma, .ref mf, .ref mw, .ref ml, .ref mu, .int (nI br), .ref wt, .int (nI ww), .ref ty])), (nw, .inl (cI, 241, .inl (nF NW))), (ps, .inl (cI, 4820, .inl (nF PS))), (im, .inl (cI, 484, .inl (nF IM))), (mk, .inl (cZ, 2, .inl (nF MK))), (wd, .inl (cI, 8, .inl (nF WD))), (so, .inl (cI, 24, .inl (nF SO))), (mb, .inl (cI, 24, .inl (nF EB))), (ma, .inl (cI, 24, .inl (nF EA))), (mf, .inl (cI, 24, .inl (nF EF))), (mw, .inl (cI, 24, .inl (nF EW))), (ml, .inl (cI, 24, .inl (nF EL))), (mu, .inl (cI, 24, .inl (oF EU))), (wt, .inl (cI, 200, .inl (oF WT))), (ty, .inl (cI, 8, .inl (nF TY)))] sz (fun x w => x = none ∧ ∃ Q : Nat → Nat, w = [(m0, .inr (6, [.ref nw, .ref ps, .int (nI (min 20 (u + 1))), .ref im, .ref mk, .int (nI sd), .ref wd, .int (nI s), .ref so, .int (nI q), .ref mb, .ref ma, .ref mf, .ref mw, .ref ml, .ref mu, .int (nI br), .ref wt, .int (nI ww), .ref ty])), (nw, .inl (cI, 241, .inl (nF NW))), (ps, .inl (cI, 4820, .inl (nF Q))), (im, .inl (cI, 484, .inl (nF IM))), (mk, .inl (cZ, 2, .inl (nF MK))), (wd, .inl (cI, 8, .inl (nF WD))), (so, .inl (cI, 24, .inl (nF SO))), (mb, .inl (cI, 24, .inl (nF EB))), (ma, .inl (cI, 24, .inl (nF EA))), (mf, .inl (cI, 24, .inl (nF EF))), (mw, .inl (cI, 24, .inl (nF EW))), (ml, .inl (cI, 24, .inl (nF EL))), (mu, .inl (cI, 24, .inl (oF EU))), (wt, .inl (cI, 200, .inl (oF WT))), (ty, .inl (cI, 8, .inl (nF TY)))] ∧ NoteR NW PS u Q) := by
  rcases Nat.lt_or_ge u 20 with g | g
  · exact c_X6_notes_more l D cI cJ cZ m0 nw ps im mk wd so mb ma mf mw ml mu wt ty NW PS u IM MK sd WD s SO q EB EA EF EW EL EU br WT ww TY g sz
  · exact c_X6_notes_full l D cI cJ cZ m0 nw ps im mk wd so mb ma mf mw ml mu wt ty NW PS u IM MK sd WD s SO q EB EA EF EW EL EU br WT ww TY (by omega) sz
