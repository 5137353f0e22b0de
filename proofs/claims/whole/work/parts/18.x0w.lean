noncomputable def gapF (KS KL : Nat → Nat) (k : Nat) : Nat := unl (KS k) (KL k) (KS (k + 1)) (KL (k + 1))
def TrX (G : Nat → Nat) (n : Nat) (BB BD BM BL BF BA BK : Nat → Nat) : Prop := (∀ b, b + 1 < n → (BF b, BM b, BD b, BA b) = nd G n b ∧ BB b = G (am G (nd G n b).1 ((nd G n b).2.1 - 2)) ∧ BL b = lef G (nd G n b).1 (nd G n b).2.1) ∧ ∀ k, k < n → BK k = (lf G n k).2
theorem TrX_congr {G G' : Nat → Nat} {n : Nat} {BB BD BM BL BF BA BK : Nat → Nat} (h : ∀ k, k + 1 < n → G k = G' k) (hT : TrX G n BB BD BM BL BF BA BK) : TrX G' n BB BD BM BL BF BA BK := by
  refine ⟨fun b hb => ?_, fun k hk => ?_⟩
  · obtain ⟨a1, a2, a3⟩ := hT.1 b hb
    have e : nd G n b = nd G' n b := go_congr n 0 0 n 0 0 b (Nat.le_refl _) (Nat.zero_le _) (by omega) (fun k _ q => h k (by omega))
    have hp := go_prop G n 0 0 n 0 0 b _ _ _ _ (Nat.le_refl _) (Nat.zero_le _) (by omega) (show nd G n b = ((nd G n b).1, (nd G n b).2.1, (nd G n b).2.2.1, (nd G n b).2.2.2) from rfl)
    have hz := am_in G (nd G n b).1 ((nd G n b).2.1 - 2)
    rw [← e]
    refine ⟨a1, ?_, ?_⟩
    · rw [a2, h _ (by omega), am_congr (fun k q1 q2 => h k (by omega))]
    · rw [a3, lef_congr hp.1 (fun k q1 q2 => h k (by omega))]
  · rw [hT.2 k hk]
    exact congrArg Prod.snd (gol_congr n 0 0 n 0 0 k (Nat.le_refl _) (fun k _ q => h k (by omega)))
theorem nd_0 (G : Nat → Nat) (n : Nat) : nd G n 0 = (0, n, 0, 0) := go_self _ _ _ _ _ _ _
theorem nd_prop {G : Nat → Nat} {n b f m d u : Nat} (hb : b + 1 < n) (h : nd G n b = (f, m, d, u)) : 2 ≤ m ∧ f + m ≤ n ∧ b + m ≤ n ∧ u ≤ b := by
  have hp := go_prop G n 0 0 n 0 0 b _ _ _ _ (Nat.le_refl _) (Nat.zero_le _) (by omega) h
  refine ⟨hp.1, by omega, by omega, ?_⟩
  cases b with
  | zero => rw [nd_0] at h; cases h; exact Nat.le_refl _
  | succ b =>
    obtain ⟨p, pf, pm, pd, pu, a1, a2, a3, -⟩ := go_up G n 0 0 n 0 0 (b + 1) _ _ _ _ (Nat.le_refl _) (by omega) (by omega) h
    omega
theorem ifup_ne {F : Nat → Nat} {q c v b : Nat} (h : b ≠ c) : (if q = 1 then F else up F c v) b = F b := by
  split
  · rfl
  · exact up_ne F v h
theorem tup4 {a b c d a' b' c' d' : Nat} (h1 : a = a') (h2 : b = b') (h3 : c = c') (h4 : d = d') : (a, b, c, d) = (a', b', c', d') := by rw [h1, h2, h3, h4]
theorem gs1 {G : Nat → Nat} {n b f m d u : Nat} {FF FM FD FA : Nat → Nat} (hb : b + 1 < n) (hnd : nd G n b = (f, m, d, u)) (hD : FD b = d) (I1 : ∀ c, c + 1 < n → (nd G n c).2.2.2 ≤ b → (FF c, FM c, FD c, FA c) = nd G n c) : ∀ c, c + 1 < n → (nd G n c).2.2.2 ≤ b + 1 →
    ((if m - lef G f m = 1 then (if lef G f m = 1 then FF else up FF (b + 1) f) else up (if lef G f m = 1 then FF else up FF (b + 1) f) (b + lef G f m) (f + lef G f m)) c,
     (if m - lef G f m = 1 then (if lef G f m = 1 then FM else up FM (b + 1) (lef G f m)) else up (if lef G f m = 1 then FM else up FM (b + 1) (lef G f m)) (b + lef G f m) (m - lef G f m)) c,
     (if m - lef G f m = 1 then (if lef G f m = 1 then FD else up FD (b + 1) (if b + 1 = 0 then 0 else FD (b + 1 - 1) + 1)) else up (if lef G f m = 1 then FD else up FD (b + 1) (if b + 1 = 0 then 0 else FD (b + 1 - 1) + 1)) (b + lef G f m) (if b + 1 = 0 then 0 else (if lef G f m = 1 then FD else up FD (b + 1) (if b + 1 = 0 then 0 else FD (b + 1 - 1) + 1)) (b + 1 - 1) + 1)) c,
     (if m - lef G f m = 1 then (if lef G f m = 1 then FA else up FA (b + 1) (b + 1)) else up (if lef G f m = 1 then FA else up FA (b + 1) (b + 1)) (b + lef G f m) (b + 1)) c) = nd G n c := by
  intro c hc hu
  have hp := nd_prop hb hnd
  have hz := lef_in G (f := f) (m := m) hp.1
  have hch := go_child G n 0 0 n 0 0 b _ _ _ _ (Nat.le_refl _) (Nat.zero_le _) (by omega) hnd
  generalize hze : lef G f m = z at *
  have e1 : b + 1 - 1 = b := rfl
  have e2 : ¬ b + 1 = 0 := by omega
  rw [e1, if_neg e2]
  by_cases cA : m - z = 1
  · rw [if_pos cA, if_pos cA, if_pos cA, if_pos cA]
    by_cases cB : z = 1
    · rw [if_pos cB, if_pos cB, if_pos cB, if_pos cB]
      rcases Nat.lt_or_ge b (nd G n c).2.2.2 with q | q
      · cases c with
        | zero => rw [nd_0] at q; exact absurd q (by show ¬ b < 0; omega)
        | succ c =>
          obtain ⟨p, pf, pm, pd, pu, a1, a2, a3, a4, a5, a6⟩ := go_up G n 0 0 n 0 0 (c + 1) _ _ _ _ (Nat.le_refl _) (by omega) (by omega) (show nd G n (c + 1) = ((nd G n (c + 1)).1, (nd G n (c + 1)).2.1, (nd G n (c + 1)).2.2.1, (nd G n (c + 1)).2.2.2) from rfl)
          have ep : p = b := by omega
          subst ep
          have a4 : nd G n p = (pf, pm, pd, pu) := a4
          rw [hnd] at a4
          cases a4
          rw [hze] at a6
          omega
      · exact I1 c hc q
    · rw [if_neg cB, if_neg cB, if_neg cB, if_neg cB]
      by_cases ec : c = b + 1
      · subst ec
        rw [up_eq, up_eq, up_eq, up_eq, hD]
        exact (hch.1 (by omega)).symm
      · rw [up_ne _ _ ec, up_ne _ _ ec, up_ne _ _ ec, up_ne _ _ ec]
        rcases Nat.lt_or_ge b (nd G n c).2.2.2 with q | q
        · cases c with
          | zero => rw [nd_0] at q; exact absurd q (by show ¬ b < 0; omega)
          | succ c =>
            obtain ⟨p, pf, pm, pd, pu, a1, a2, a3, a4, a5, a6⟩ := go_up G n 0 0 n 0 0 (c + 1) _ _ _ _ (Nat.le_refl _) (by omega) (by omega) (show nd G n (c + 1) = ((nd G n (c + 1)).1, (nd G n (c + 1)).2.1, (nd G n (c + 1)).2.2.1, (nd G n (c + 1)).2.2.2) from rfl)
            have ep : p = b := by omega
            subst ep
            have a4 : nd G n p = (pf, pm, pd, pu) := a4
            rw [hnd] at a4
            cases a4
            rw [hze] at a6
            omega
        · exact I1 c hc q
  · rw [if_neg cA, if_neg cA, if_neg cA, if_neg cA]
    by_cases ez : c = b + z
    · subst ez
      rw [up_eq, up_eq, up_eq, up_eq, ifup_ne (by omega), hD]
      exact (hch.2 (by omega)).symm
    · rw [up_ne _ _ ez, up_ne _ _ ez, up_ne _ _ ez, up_ne _ _ ez]
      by_cases cB : z = 1
      · rw [if_pos cB, if_pos cB, if_pos cB, if_pos cB]
        rcases Nat.lt_or_ge b (nd G n c).2.2.2 with q | q
        · cases c with
          | zero => rw [nd_0] at q; exact absurd q (by show ¬ b < 0; omega)
          | succ c =>
            obtain ⟨p, pf, pm, pd, pu, a1, a2, a3, a4, a5, a6⟩ := go_up G n 0 0 n 0 0 (c + 1) _ _ _ _ (Nat.le_refl _) (by omega) (by omega) (show nd G n (c + 1) = ((nd G n (c + 1)).1, (nd G n (c + 1)).2.1, (nd G n (c + 1)).2.2.1, (nd G n (c + 1)).2.2.2) from rfl)
            have ep : p = b := by omega
            subst ep
            have a4 : nd G n p = (pf, pm, pd, pu) := a4
            rw [hnd] at a4
            cases a4
            rw [hze] at a6
            omega
        · exact I1 c hc q
      · rw [if_neg cB, if_neg cB, if_neg cB, if_neg cB]
        by_cases ec : c = b + 1
        · subst ec
          rw [up_eq, up_eq, up_eq, up_eq, hD]
          exact (hch.1 (by omega)).symm
        · rw [up_ne _ _ ec, up_ne _ _ ec, up_ne _ _ ec, up_ne _ _ ec]
          rcases Nat.lt_or_ge b (nd G n c).2.2.2 with q | q
          · cases c with
            | zero => rw [nd_0] at q; exact absurd q (by show ¬ b < 0; omega)
            | succ c =>
              obtain ⟨p, pf, pm, pd, pu, a1, a2, a3, a4, a5, a6⟩ := go_up G n 0 0 n 0 0 (c + 1) _ _ _ _ (Nat.le_refl _) (by omega) (by omega) (show nd G n (c + 1) = ((nd G n (c + 1)).1, (nd G n (c + 1)).2.1, (nd G n (c + 1)).2.2.1, (nd G n (c + 1)).2.2.2) from rfl)
              have ep : p = b := by omega
              subst ep
              have a4 : nd G n p = (pf, pm, pd, pu) := a4
              rw [hnd] at a4
              cases a4
              rw [hze] at a6
              omega
          · exact I1 c hc q
theorem gs3 {G : Nat → Nat} {n b f m d u : Nat} {FK : Nat → Nat} (hb : b + 1 < n) (hnd : nd G n b = (f, m, d, u)) (I3 : ∀ k, k < n → (lf G n k).2 ≤ b → FK k = (lf G n k).2) : ∀ k, k < n → (lf G n k).2 ≤ b + 1 →
    (if m - lef G f m = 1 then up (if lef G f m = 1 then up FK f (b + 1) else FK) (f + lef G f m) (b + 1) else (if lef G f m = 1 then up FK f (b + 1) else FK)) k = (lf G n k).2 := by
  intro k hk hu
  have hp := nd_prop hb hnd
  have hz := lef_in G (f := f) (m := m) hp.1
  have hdn := gol_down G n 0 0 n 0 0 b _ _ _ _ (Nat.le_refl _) (Nat.zero_le _) (by omega) hnd
  obtain ⟨p, pf, pm, pd, pu, a1, a2, a3, a4, a5⟩ := gol_up G n 0 0 n 0 0 k (Nat.le_refl _) (by omega) (Nat.zero_le _) (by omega)
  have a1 : lf G n k = (pd + 1, p + 1) := a1
  have a4 : nd G n p = (pf, pm, pd, pu) := a4
  have hdn1 : lef G f m = 1 → lf G n f = (d + 1, b + 1) := hdn.1
  have hdn2 : m - lef G f m = 1 → lf G n (f + lef G f m) = (d + 1, b + 1) := hdn.2
  rw [a1] at hu ⊢
  have hold : p ≠ b → FK k = p + 1 := fun q => by
    have q2 : p + 1 ≤ b + 1 := hu
    have := I3 k hk (by rw [a1]; show p + 1 ≤ b; omega)
    rw [a1] at this
    exact this
  show _ = p + 1
  by_cases cA : m - lef G f m = 1
  · rw [if_pos cA]
    by_cases ek : k = f + lef G f m
    · rw [ek, up_eq]
      have q := hdn2 cA
      rw [← ek, a1] at q
      exact (congrArg Prod.snd q).symm
    · rw [up_ne _ _ ek]
      by_cases cB : lef G f m = 1
      · rw [if_pos cB]
        by_cases ek2 : k = f
        · rw [ek2, up_eq]
          have q := hdn1 cB
          rw [← ek2, a1] at q
          exact (congrArg Prod.snd q).symm
        · rw [up_ne _ _ ek2]
          refine hold (fun ep => ?_)
          rw [ep, hnd] at a4
          cases a4
          omega
      · rw [if_neg cB]
        refine hold (fun ep => ?_)
        rw [ep, hnd] at a4
        cases a4
        omega
  · rw [if_neg cA]
    by_cases cB : lef G f m = 1
    · rw [if_pos cB]
      by_cases ek2 : k = f
      · rw [ek2, up_eq]
        have q := hdn1 cB
        rw [← ek2, a1] at q
        exact (congrArg Prod.snd q).symm
      · rw [up_ne _ _ ek2]
        refine hold (fun ep => ?_)
        rw [ep, hnd] at a4
        cases a4
        omega
    · rw [if_neg cB]
      refine hold (fun ep => ?_)
      rw [ep, hnd] at a4
      cases a4
      omega
theorem gs0 {G : Nat → Nat} {n c : Nat} (hc : c + 1 < n) (hu : (nd G n c).2.2.2 ≤ 0) : c = 0 := by
  cases c with
  | zero => rfl
  | succ c =>
    obtain ⟨p, pf, pm, pd, pu, a1, -⟩ := go_up G n 0 0 n 0 0 (c + 1) _ _ _ _ (Nat.le_refl _) (by omega) (by omega) (show nd G n (c + 1) = ((nd G n (c + 1)).1, (nd G n (c + 1)).2.1, (nd G n (c + 1)).2.2.1, (nd G n (c + 1)).2.2.2) from rfl)
    omega
theorem gs4 {G : Nat → Nat} {n k : Nat} (hn : 2 ≤ n) (hk : k < n) (hu : (lf G n k).2 ≤ 0) : False := by
  obtain ⟨p, pf, pm, pd, pu, a1, -⟩ := gol_up G n 0 0 n 0 0 k (Nat.le_refl _) hn (Nat.zero_le _) (by omega)
  have a1 : lf G n k = (pd + 1, p + 1) := a1
  rw [a1] at hu
  exact absurd hu (by show ¬ p + 1 ≤ 0; omega)
theorem lf_le {G : Nat → Nat} {n k : Nat} (hn : 2 ≤ n) (hk : k < n) : (lf G n k).2 ≤ n - 1 := by
  obtain ⟨p, pf, pm, pd, pu, a1, a2, a3, -⟩ := gol_up G n 0 0 n 0 0 k (Nat.le_refl _) hn (Nat.zero_le _) (by omega)
  have a1 : lf G n k = (pd + 1, p + 1) := a1
  rw [a1]
  show p + 1 ≤ n - 1
  omega
theorem lf_1 (G : Nat → Nat) (k : Nat) : lf G 1 k = (0, 0) := gol_1 G (Nat.le_refl _)
set_option maxHeartbeats 4000000 in
set_option maxRecDepth 100000 in
theorem c_X0_hang (l : Launch) (D : va_G) (cI cJ cZ : ClassId) (b0 bb bd bm bl bf ba bk bg : Nat) (BB BD BM BL BF BA BK BG : Nat → Nat) (N : Nat) (hN : N ≤ 24) (b f q u : Nat) (hb31 : b < 2 ^ 31) (hbq : q ≠ 1 → b + 1 < N) (hf : f < N) (hq : q < 2 ^ 31) (hu : u < N) (sz : Nat) : WR l yX0_hang cX0_hang 5 none (rmN 3 62) D (ty3 cI cJ cZ) [.ref b0, .int (nI b), .int (nI f), .int (nI q), .int (oI u)] [(b0, .inr (0, [.ref bb, .ref bd, .ref bm, .ref bl, .ref bf, .ref ba, .ref bk, .ref bg, .int (nI N)])), (bb, .inl (cI, 24, .inl (nF BB))), (bd, .inl (cI, 24, .inl (nF BD))), (bm, .inl (cI, 24, .inl (nF BM))), (bl, .inl (cI, 24, .inl (nF BL))), (bf, .inl (cI, 24, .inl (nF BF))), (ba, .inl (cI, 24, .inl (oF BA))), (bk, .inl (cI, 24, .inl (oF BK))), (bg, .inl (cI, 24, .inl (nF BG)))] sz (fun x w => x = none ∧ w = [(b0, .inr (0, [.ref bb, .ref bd, .ref bm, .ref bl, .ref bf, .ref ba, .ref bk, .ref bg, .int (nI N)])), (bb, .inl (cI, 24, .inl (nF BB))), (bd, .inl (cI, 24, .inl (nF (if q = 1 then BD else up BD b (if u = 0 then 0 else BD (u - 1) + 1))))), (bm, .inl (cI, 24, .inl (nF (if q = 1 then BM else up BM b q)))), (bl, .inl (cI, 24, .inl (nF BL))), (bf, .inl (cI, 24, .inl (nF (if q = 1 then BF else up BF b f)))), (ba, .inl (cI, 24, .inl (oF (if q = 1 then BA else up BA b u)))), (bk, .inl (cI, 24, .inl (oF (if q = 1 then up BK f u else BK)))), (bg, .inl (cI, 24, .inl (nF BG)))]) := by
  refine wr_start (by decide) (Nat.le_of_ble_eq_true rfl) ?_
  intro pp ee ss mm below meth cd AA C0 hAA hP hK hD hS hN hnm ls hl
  obtain ⟨hx, hb, hr, hml, hown, hts, hlk⟩ := C0
  have hown : ss.vm.findClass RX0 = some mm.cls := hown
  have hl : lv_has ls 5 [(0, .ref b0), (1, .int (nI b)), (2, .int (nI f)), (3, .int (nI q)), (4, .int (oI u))] := hl
  have hP : va_P D vwCl [(b0, .inr (0, [.ref bb, .ref bd, .ref bm, .ref bl, .ref bf, .ref ba, .ref bk, .ref bg, .int (nI N)])), (bb, .inl (cI, 24, .inl (nF BB))), (bd, .inl (cI, 24, .inl (nF BD))), (bm, .inl (cI, 24, .inl (nF BM))), (bl, .inl (cI, 24, .inl (nF BL))), (bf, .inl (cI, 24, .inl (nF BF))), (ba, .inl (cI, 24, .inl (oF BA))), (bk, .inl (cI, 24, .inl (oF BK))), (bg, .inl (cI, 24, .inl (nF BG)))] ss.heap := hP
  refine lv_iload_n hx hb dX0_hang_0 rfl (lv_at hl 2 rfl) ?_
  refine n_if_lt (tgt := 12) hx hb dX0_hang_1 (by decide) (by omega) ?_
  refine lv_iload_n hx hb dX0_hang_4 rfl (lv_at hl 2 rfl) ?_
  refine lv_aload_n hx hb dX0_hang_5 rfl (lv_at hl 0 rfl) ?_
  refine va_get (D := D) (ci := 0) (v := .int (nI N)) (C := RX0) (T := TX0) (N := 9) hx hb hts inX0 hown hK hP 0 rfl rfl 8 (by decide) (hts _ mf_X0_36) (fun _ h9 => h9) rfl dX0_hang_6 ?_
  refine n_lt (tgt := 13) hx hb dX0_hang_9 (by decide) (by omega) (by omega) (fun c2 => ?_) (fun c2 => ?_)
  ·
    refine lv_iload_n hx hb dX0_hang_13 rfl (lv_at hl 3 rfl) ?_
    refine lv_iconst (v := nI 1) hx hb dX0_hang_14 (by decide +kernel) ?_
    refine n_ne (tgt := 27) hx hb dX0_hang_15 (by decide) (by omega) (by omega) (fun c3 => ?_) (fun c3 => ?_)
    ·
      have hq1 : ¬ q = 1 := c3
      have hb24 := hbq hq1
      refine lv_aload_n hx hb dX0_hang_27 rfl (lv_at hl 0 rfl) ?_
      refine lv_iload_n hx hb dX0_hang_28 rfl (lv_at hl 1 rfl) ?_
      refine ro_V (As := [.int (nI b)]) (rest := []) ⟨hx, hb, hml, hown, hts⟩ (c_X0_has l D cI cJ cZ b0 bb bd bm bl bf ba bk bg BB BD BM BL BF BA BK BG N (by omega) b (by omega)) (k_X0_64 hts ⟨Nat.le_of_ble_eq_true rfl, Nat.le_of_ble_eq_true rfl⟩) hK hP 0 rfl rfl rfl [0, 1, 2, 3, 4, 5, 6, 7, 8] rfl rfl hl.1 rfl (Nat.le_of_ble_eq_true rfl) dX0_hang_29 ⟨Nat.le_of_ble_eq_true rfl, Nat.le_of_ble_eq_true rfl⟩ ?_
      refine b_if_ne (tgt := 36) hx hb dX0_hang_32 (by decide) (fun c4 => ?_) (fun c4 => ?_)
      ·
        refine lv_aload_n hx hb dX0_hang_36 rfl (lv_at hl 0 rfl) ?_
        refine va_get (D := D) (ci := 0) (v := .ref bf) (C := RX0) (T := TX0) (N := 9) hx hb hts inX0 hown hK hP 0 rfl rfl 4 (by decide) (hts _ mf_X0_24) (fun _ h9 => h9) rfl dX0_hang_37 ?_
        refine lv_iload_n hx hb dX0_hang_40 rfl (lv_at hl 1 rfl) ?_
        refine lv_iload_n hx hb dX0_hang_41 rfl (lv_at hl 2 rfl) ?_
        refine n_iast hx hb hK hP hD hS 5 0 rfl rfl (k := b) (v := f) (by omega) (by decide) dX0_hang_42 (fun H locs hP hD hS => ?_)
        have hP : va_P D vwCl [(b0, .inr (0, [.ref bb, .ref bd, .ref bm, .ref bl, .ref bf, .ref ba, .ref bk, .ref bg, .int (nI N)])), (bb, .inl (cI, 24, .inl (nF BB))), (bd, .inl (cI, 24, .inl (nF BD))), (bm, .inl (cI, 24, .inl (nF BM))), (bl, .inl (cI, 24, .inl (nF BL))), (bf, .inl (cI, 24, .inl (nF (up BF b f)))), (ba, .inl (cI, 24, .inl (oF BA))), (bk, .inl (cI, 24, .inl (oF BK))), (bg, .inl (cI, 24, .inl (nF BG)))] H := hP
        have hD : va_D AA [(b0, .inr (0, [.ref bb, .ref bd, .ref bm, .ref bl, .ref bf, .ref ba, .ref bk, .ref bg, .int (nI N)])), (bb, .inl (cI, 24, .inl (nF BB))), (bd, .inl (cI, 24, .inl (nF BD))), (bm, .inl (cI, 24, .inl (nF BM))), (bl, .inl (cI, 24, .inl (nF BL))), (bf, .inl (cI, 24, .inl (nF (up BF b f)))), (ba, .inl (cI, 24, .inl (oF BA))), (bk, .inl (cI, 24, .inl (oF BK))), (bg, .inl (cI, 24, .inl (nF BG)))] := hD
        refine lv_aload_n hx hb dX0_hang_43 rfl (lv_at hl 0 rfl) ?_
        refine va_get (D := D) (ci := 0) (v := .ref bm) (C := RX0) (T := TX0) (N := 9) hx hb hts inX0 hown hK hP 0 rfl rfl 2 (by decide) (hts _ mf_X0_18) (fun _ h9 => h9) rfl dX0_hang_44 ?_
        refine lv_iload_n hx hb dX0_hang_47 rfl (lv_at hl 1 rfl) ?_
        refine lv_iload_n hx hb dX0_hang_48 rfl (lv_at hl 3 rfl) ?_
        refine n_iast hx hb hK hP hD hS 3 0 rfl rfl (k := b) (v := q) (by omega) (by decide) dX0_hang_49 (fun H locs hP hD hS => ?_)
        have hP : va_P D vwCl [(b0, .inr (0, [.ref bb, .ref bd, .ref bm, .ref bl, .ref bf, .ref ba, .ref bk, .ref bg, .int (nI N)])), (bb, .inl (cI, 24, .inl (nF BB))), (bd, .inl (cI, 24, .inl (nF BD))), (bm, .inl (cI, 24, .inl (nF (up BM b q)))), (bl, .inl (cI, 24, .inl (nF BL))), (bf, .inl (cI, 24, .inl (nF (up BF b f)))), (ba, .inl (cI, 24, .inl (oF BA))), (bk, .inl (cI, 24, .inl (oF BK))), (bg, .inl (cI, 24, .inl (nF BG)))] H := hP
        have hD : va_D AA [(b0, .inr (0, [.ref bb, .ref bd, .ref bm, .ref bl, .ref bf, .ref ba, .ref bk, .ref bg, .int (nI N)])), (bb, .inl (cI, 24, .inl (nF BB))), (bd, .inl (cI, 24, .inl (nF BD))), (bm, .inl (cI, 24, .inl (nF (up BM b q)))), (bl, .inl (cI, 24, .inl (nF BL))), (bf, .inl (cI, 24, .inl (nF (up BF b f)))), (ba, .inl (cI, 24, .inl (oF BA))), (bk, .inl (cI, 24, .inl (oF BK))), (bg, .inl (cI, 24, .inl (nF BG)))] := hD
        refine lv_aload_n hx hb dX0_hang_50 rfl (lv_at hl 0 rfl) ?_
        refine va_get (D := D) (ci := 0) (v := .ref ba) (C := RX0) (T := TX0) (N := 9) hx hb hts inX0 hown hK hP 0 rfl rfl 5 (by decide) (hts _ mf_X0_27) (fun _ h9 => h9) rfl dX0_hang_51 ?_
        refine lv_iload_n hx hb dX0_hang_54 rfl (lv_at hl 1 rfl) ?_
        refine lv_iload hx hb dX0_hang_55 (lv_at hl 4 rfl) ?_
        refine o_iast hx hb hK hP hD hS 6 0 rfl rfl (k := b) (v := u) (by omega) (by decide) dX0_hang_57 (fun H locs hP hD hS => ?_)
        have hP : va_P D vwCl [(b0, .inr (0, [.ref bb, .ref bd, .ref bm, .ref bl, .ref bf, .ref ba, .ref bk, .ref bg, .int (nI N)])), (bb, .inl (cI, 24, .inl (nF BB))), (bd, .inl (cI, 24, .inl (nF BD))), (bm, .inl (cI, 24, .inl (nF (up BM b q)))), (bl, .inl (cI, 24, .inl (nF BL))), (bf, .inl (cI, 24, .inl (nF (up BF b f)))), (ba, .inl (cI, 24, .inl (oF (up BA b u)))), (bk, .inl (cI, 24, .inl (oF BK))), (bg, .inl (cI, 24, .inl (nF BG)))] H := hP
        have hD : va_D AA [(b0, .inr (0, [.ref bb, .ref bd, .ref bm, .ref bl, .ref bf, .ref ba, .ref bk, .ref bg, .int (nI N)])), (bb, .inl (cI, 24, .inl (nF BB))), (bd, .inl (cI, 24, .inl (nF BD))), (bm, .inl (cI, 24, .inl (nF (up BM b q)))), (bl, .inl (cI, 24, .inl (nF BL))), (bf, .inl (cI, 24, .inl (nF (up BF b f)))), (ba, .inl (cI, 24, .inl (oF (up BA b u)))), (bk, .inl (cI, 24, .inl (oF BK))), (bg, .inl (cI, 24, .inl (nF BG)))] := hD
        refine lv_aload_n hx hb dX0_hang_58 rfl (lv_at hl 0 rfl) ?_
        refine va_get (D := D) (ci := 0) (v := .ref bd) (C := RX0) (T := TX0) (N := 9) hx hb hts inX0 hown hK hP 0 rfl rfl 1 (by decide) (hts _ mf_X0_15) (fun _ h9 => h9) rfl dX0_hang_59 ?_
        refine lv_iload_n hx hb dX0_hang_62 rfl (lv_at hl 1 rfl) ?_
        refine lv_aload_n hx hb dX0_hang_63 rfl (lv_at hl 0 rfl) ?_
        refine lv_iload hx hb dX0_hang_64 (lv_at hl 4 rfl) ?_
        refine ro_V (As := [.int (oI u)]) (rest := [.int (nI b), .ref bd]) ⟨hx, hb, hml, hown, hts⟩ (c_X0_has_o l D cI cJ cZ b0 bb bd bm bl bf ba bk bg BB BD (up BM b q) BL (up BF b f) (up BA b u) BK BG N (by omega) u (by omega)) (k_X0_64 hts ⟨Nat.le_of_ble_eq_true rfl, Nat.le_of_ble_eq_true rfl⟩) hK hP 0 rfl rfl rfl [0, 1, 2, 3, 4, 5, 6, 7, 8] rfl rfl hl.1 rfl (Nat.le_of_ble_eq_true rfl) dX0_hang_66 ⟨Nat.le_of_ble_eq_true rfl, Nat.le_of_ble_eq_true rfl⟩ ?_
        refine b_if_eq (tgt := 84) hx hb dX0_hang_69 (by decide) (fun c5 => ?_) (fun c5 => ?_)
        ·
          have hu0 : u = 0 := by omega
          refine lv_iconst (v := nI 0) hx hb dX0_hang_84 (by decide +kernel) ?_
          refine n_iast hx hb hK hP hD hS 2 0 rfl rfl (k := b) (v := 0) (by omega) (by decide) dX0_hang_85 (fun H locs hP hD hS => ?_)
          have hP : va_P D vwCl [(b0, .inr (0, [.ref bb, .ref bd, .ref bm, .ref bl, .ref bf, .ref ba, .ref bk, .ref bg, .int (nI N)])), (bb, .inl (cI, 24, .inl (nF BB))), (bd, .inl (cI, 24, .inl (nF (up BD b 0)))), (bm, .inl (cI, 24, .inl (nF (up BM b q)))), (bl, .inl (cI, 24, .inl (nF BL))), (bf, .inl (cI, 24, .inl (nF (up BF b f)))), (ba, .inl (cI, 24, .inl (oF (up BA b u)))), (bk, .inl (cI, 24, .inl (oF BK))), (bg, .inl (cI, 24, .inl (nF BG)))] H := hP
          have hD : va_D AA [(b0, .inr (0, [.ref bb, .ref bd, .ref bm, .ref bl, .ref bf, .ref ba, .ref bk, .ref bg, .int (nI N)])), (bb, .inl (cI, 24, .inl (nF BB))), (bd, .inl (cI, 24, .inl (nF (up BD b 0)))), (bm, .inl (cI, 24, .inl (nF (up BM b q)))), (bl, .inl (cI, 24, .inl (nF BL))), (bf, .inl (cI, 24, .inl (nF (up BF b f)))), (ba, .inl (cI, 24, .inl (oF (up BA b u)))), (bk, .inl (cI, 24, .inl (oF BK))), (bg, .inl (cI, 24, .inl (nF BG)))] := hD
          exact wr_vret hx hb hr hlk hP hD hS dX0_hang_86 (⟨rfl, by simp only [if_neg hq1, if_pos hu0]⟩)
        ·
          have hu0 : ¬ u = 0 := by omega
          refine lv_aload_n hx hb dX0_hang_72 rfl (lv_at hl 0 rfl) ?_
          refine va_get (D := D) (ci := 0) (v := .ref bd) (C := RX0) (T := TX0) (N := 9) hx hb hts inX0 hown hK hP 0 rfl rfl 1 (by decide) (hts _ mf_X0_15) (fun _ h9 => h9) rfl dX0_hang_73 ?_
          refine lv_iload hx hb dX0_hang_76 (lv_at hl 4 rfl) ?_
          refine tq (y := nI (u - 1)) (oI_p (by omega)) ?_
          refine n_iald hx hb hK hP 2 0 rfl rfl (k := (u - 1)) (by omega) (by decide) dX0_hang_78 ?_
          refine lv_iconst (v := nI 1) hx hb dX0_hang_79 (by decide +kernel) ?_
          refine n_iadd hx hb dX0_hang_80 ?_
          refine lv_goto (tgt := 85) hx hb dX0_hang_81 (by decide) ?_
          refine n_iast hx hb hK hP hD hS 2 0 rfl rfl (k := b) (v := ((BD (u - 1)) + 1)) (by omega) (by decide) dX0_hang_85 (fun H locs hP hD hS => ?_)
          have hP : va_P D vwCl [(b0, .inr (0, [.ref bb, .ref bd, .ref bm, .ref bl, .ref bf, .ref ba, .ref bk, .ref bg, .int (nI N)])), (bb, .inl (cI, 24, .inl (nF BB))), (bd, .inl (cI, 24, .inl (nF (up BD b ((BD (u - 1)) + 1))))), (bm, .inl (cI, 24, .inl (nF (up BM b q)))), (bl, .inl (cI, 24, .inl (nF BL))), (bf, .inl (cI, 24, .inl (nF (up BF b f)))), (ba, .inl (cI, 24, .inl (oF (up BA b u)))), (bk, .inl (cI, 24, .inl (oF BK))), (bg, .inl (cI, 24, .inl (nF BG)))] H := hP
          have hD : va_D AA [(b0, .inr (0, [.ref bb, .ref bd, .ref bm, .ref bl, .ref bf, .ref ba, .ref bk, .ref bg, .int (nI N)])), (bb, .inl (cI, 24, .inl (nF BB))), (bd, .inl (cI, 24, .inl (nF (up BD b ((BD (u - 1)) + 1))))), (bm, .inl (cI, 24, .inl (nF (up BM b q)))), (bl, .inl (cI, 24, .inl (nF BL))), (bf, .inl (cI, 24, .inl (nF (up BF b f)))), (ba, .inl (cI, 24, .inl (oF (up BA b u)))), (bk, .inl (cI, 24, .inl (oF BK))), (bg, .inl (cI, 24, .inl (nF BG)))] := hD
          exact wr_vret hx hb hr hlk hP hD hS dX0_hang_86 (⟨rfl, by simp only [if_neg hq1, if_neg hu0]⟩)
      ·
        exact absurd c4 (by omega)
    ·
      have hq1 : q = 1 := c3
      refine lv_aload_n hx hb dX0_hang_18 rfl (lv_at hl 0 rfl) ?_
      refine va_get (D := D) (ci := 0) (v := .ref bk) (C := RX0) (T := TX0) (N := 9) hx hb hts inX0 hown hK hP 0 rfl rfl 6 (by decide) (hts _ mf_X0_30) (fun _ h9 => h9) rfl dX0_hang_19 ?_
      refine lv_iload_n hx hb dX0_hang_22 rfl (lv_at hl 2 rfl) ?_
      refine lv_iload hx hb dX0_hang_23 (lv_at hl 4 rfl) ?_
      refine o_iast hx hb hK hP hD hS 7 0 rfl rfl (k := f) (v := u) (by omega) (by decide) dX0_hang_25 (fun H locs hP hD hS => ?_)
      have hP : va_P D vwCl [(b0, .inr (0, [.ref bb, .ref bd, .ref bm, .ref bl, .ref bf, .ref ba, .ref bk, .ref bg, .int (nI N)])), (bb, .inl (cI, 24, .inl (nF BB))), (bd, .inl (cI, 24, .inl (nF BD))), (bm, .inl (cI, 24, .inl (nF BM))), (bl, .inl (cI, 24, .inl (nF BL))), (bf, .inl (cI, 24, .inl (nF BF))), (ba, .inl (cI, 24, .inl (oF BA))), (bk, .inl (cI, 24, .inl (oF (up BK f u)))), (bg, .inl (cI, 24, .inl (nF BG)))] H := hP
      have hD : va_D AA [(b0, .inr (0, [.ref bb, .ref bd, .ref bm, .ref bl, .ref bf, .ref ba, .ref bk, .ref bg, .int (nI N)])), (bb, .inl (cI, 24, .inl (nF BB))), (bd, .inl (cI, 24, .inl (nF BD))), (bm, .inl (cI, 24, .inl (nF BM))), (bl, .inl (cI, 24, .inl (nF BL))), (bf, .inl (cI, 24, .inl (nF BF))), (ba, .inl (cI, 24, .inl (oF BA))), (bk, .inl (cI, 24, .inl (oF (up BK f u)))), (bg, .inl (cI, 24, .inl (nF BG)))] := hD
      exact wr_vret hx hb hr hlk hP hD hS dX0_hang_26 (⟨rfl, by simp only [if_pos hq1]⟩)
  ·
    exact absurd c2 (by omega)
set_option maxHeartbeats 4000000 in
set_option maxRecDepth 100000 in
theorem c_X0_split (l : Launch) (D : va_G) (cI cJ cZ : ClassId) (b0 bb bd bm bl bf ba bk bg : Nat) (BB BD BM BL BF BA BK BG : Nat → Nat) (N b : Nat) (hb24 : b < 24) (hm : 2 ≤ BM b) (hfm : BF b + BM b ≤ 24) (hG : ∀ k, k + 1 < BF b + BM b → BG k ≤ 72) (sz : Nat) : WR l yX0_split cX0_split 4 none (rmN 0 0) D (ty3 cI cJ cZ) [.ref b0, .int (nI b)] [(b0, .inr (0, [.ref bb, .ref bd, .ref bm, .ref bl, .ref bf, .ref ba, .ref bk, .ref bg, .int (nI N)])), (bb, .inl (cI, 24, .inl (nF BB))), (bd, .inl (cI, 24, .inl (nF BD))), (bm, .inl (cI, 24, .inl (nF BM))), (bl, .inl (cI, 24, .inl (nF BL))), (bf, .inl (cI, 24, .inl (nF BF))), (ba, .inl (cI, 24, .inl (oF BA))), (bk, .inl (cI, 24, .inl (oF BK))), (bg, .inl (cI, 24, .inl (nF BG)))] sz (fun x w => x = none ∧ w = [(b0, .inr (0, [.ref bb, .ref bd, .ref bm, .ref bl, .ref bf, .ref ba, .ref bk, .ref bg, .int (nI N)])), (bb, .inl (cI, 24, .inl (nF (up BB b (BG (am BG (BF b) (BM b - 2))))))), (bd, .inl (cI, 24, .inl (nF BD))), (bm, .inl (cI, 24, .inl (nF BM))), (bl, .inl (cI, 24, .inl (nF (up BL b (am BG (BF b) (BM b - 2) + 1 - BF b))))), (bf, .inl (cI, 24, .inl (nF BF))), (ba, .inl (cI, 24, .inl (oF BA))), (bk, .inl (cI, 24, .inl (oF BK))), (bg, .inl (cI, 24, .inl (nF BG)))]) := by
  refine wr_start (by decide) (Nat.le_of_ble_eq_true rfl) ?_
  intro pp ee ss mm below meth cd AA C0 hAA hP hK hD hS hN hnm ls hl
  obtain ⟨hx, hb, hr, hml, hown, hts, hlk⟩ := C0
  have hown : ss.vm.findClass RX0 = some mm.cls := hown
  have hl : lv_has ls 4 [(0, .ref b0), (1, .int (nI b))] := hl
  have hP : va_P D vwCl [(b0, .inr (0, [.ref bb, .ref bd, .ref bm, .ref bl, .ref bf, .ref ba, .ref bk, .ref bg, .int (nI N)])), (bb, .inl (cI, 24, .inl (nF BB))), (bd, .inl (cI, 24, .inl (nF BD))), (bm, .inl (cI, 24, .inl (nF BM))), (bl, .inl (cI, 24, .inl (nF BL))), (bf, .inl (cI, 24, .inl (nF BF))), (ba, .inl (cI, 24, .inl (oF BA))), (bk, .inl (cI, 24, .inl (oF BK))), (bg, .inl (cI, 24, .inl (nF BG)))] ss.heap := hP
  refine lv_aload_n hx hb dX0_split_0 rfl (lv_at hl 0 rfl) ?_
  refine va_get (D := D) (ci := 0) (v := .ref bf) (C := RX0) (T := TX0) (N := 9) hx hb hts inX0 hown hK hP 0 rfl rfl 4 (by decide) (hts _ mf_X0_24) (fun _ h9 => h9) rfl dX0_split_1 ?_
  refine lv_iload_n hx hb dX0_split_4 rfl (lv_at hl 1 rfl) ?_
  refine n_iald hx hb hK hP 5 0 rfl rfl (k := b) (by omega) (by decide) dX0_split_5 ?_
  refine lv_istore_n (lv' := [(2, .int (nI (BF b))), (0, .ref b0), (1, .int (nI b))]) hx hb dX0_split_6 rfl hl (by decide) rfl (fun ls hl => ?_)
  refine lv_iload_n hx hb dX0_split_7 rfl (lv_at hl 0 rfl) ?_
  refine lv_iconst (v := nI 1) hx hb dX0_split_8 (by decide +kernel) ?_
  refine n_iadd hx hb dX0_split_9 ?_
  refine lv_istore_n (lv' := [(3, .int (nI ((BF b) + 1))), (2, .int (nI (BF b))), (0, .ref b0), (1, .int (nI b))]) hx hb dX0_split_10 rfl hl (by decide) rfl (fun ls hl => ?_)
  have loop11 : ∀ (d : Nat) (i : Nat) (x : Nat) (H : Heap) (locs : List Loc) (ls : Array Slot), BM b - i < d → (i + 2 ≤ BM b) → (x = am BG (BF b) i) → va_P D vwCl [(b0, .inr (0, [.ref bb, .ref bd, .ref bm, .ref bl, .ref bf, .ref ba, .ref bk, .ref bg, .int (nI N)])), (bb, .inl (cI, 24, .inl (nF BB))), (bd, .inl (cI, 24, .inl (nF BD))), (bm, .inl (cI, 24, .inl (nF BM))), (bl, .inl (cI, 24, .inl (nF BL))), (bf, .inl (cI, 24, .inl (nF BF))), (ba, .inl (cI, 24, .inl (oF BA))), (bk, .inl (cI, 24, .inl (oF BK))), (bg, .inl (cI, 24, .inl (nF BG)))] H → va_D AA [(b0, .inr (0, [.ref bb, .ref bd, .ref bm, .ref bl, .ref bf, .ref ba, .ref bk, .ref bg, .int (nI N)])), (bb, .inl (cI, 24, .inl (nF BB))), (bd, .inl (cI, 24, .inl (nF BD))), (bm, .inl (cI, 24, .inl (nF BM))), (bl, .inl (cI, 24, .inl (nF BL))), (bf, .inl (cI, 24, .inl (nF BF))), (ba, .inl (cI, 24, .inl (oF BA))), (bk, .inl (cI, 24, .inl (oF BK))), (bg, .inl (cI, 24, .inl (nF BG)))] → va_S AA ss.heap H locs → lv_has ls 4 [(0, .ref b0), (1, .int (nI b)), (2, .int (nI x)), (3, .int (nI (BF b + i + 1)))] → W pp l ee (rmN 0 0) ss mm [.ref b0, .int (nI b)].toArray below meth cd H locs 0 0 (MQ below (QW D AA (fun x w => x = none ∧ w = [(b0, .inr (0, [.ref bb, .ref bd, .ref bm, .ref bl, .ref bf, .ref ba, .ref bk, .ref bg, .int (nI N)])), (bb, .inl (cI, 24, .inl (nF (up BB b (BG (am BG (BF b) (BM b - 2))))))), (bd, .inl (cI, 24, .inl (nF BD))), (bm, .inl (cI, 24, .inl (nF BM))), (bl, .inl (cI, 24, .inl (nF (up BL b (am BG (BF b) (BM b - 2) + 1 - BF b))))), (bf, .inl (cI, 24, .inl (nF BF))), (ba, .inl (cI, 24, .inl (oF BA))), (bk, .inl (cI, 24, .inl (oF BK))), (bg, .inl (cI, 24, .inl (nF BG)))])) [.ref b0, .int (nI b)].toArray ss 0 0 AA) (F0 mm 11 ls []) := by
    intro d
    induction d with
    | zero => intro i x H locs ls h; exact absurd h (Nat.not_lt_zero _)
    | succ d ih11 =>
      intro i x H locs ls hd11 hi hx1 hP hD hS hl
      have hxi := am_in BG (BF b) i
      rw [← hx1] at hxi
      refine lv_iload_n hx hb dX0_split_11 rfl (lv_at hl 3 rfl) ?_
      refine lv_iconst (v := nI 1) hx hb dX0_split_12 (by decide +kernel) ?_
      refine n_iadd hx hb dX0_split_13 ?_
      refine lv_aload_n hx hb dX0_split_14 rfl (lv_at hl 0 rfl) ?_
      refine va_get (D := D) (ci := 0) (v := .ref bf) (C := RX0) (T := TX0) (N := 9) hx hb hts inX0 hown hK hP 0 rfl rfl 4 (by decide) (hts _ mf_X0_24) (fun _ h9 => h9) rfl dX0_split_15 ?_
      refine lv_iload_n hx hb dX0_split_18 rfl (lv_at hl 1 rfl) ?_
      refine n_iald hx hb hK hP 5 0 rfl rfl (k := b) (by omega) (by decide) dX0_split_19 ?_
      refine lv_aload_n hx hb dX0_split_20 rfl (lv_at hl 0 rfl) ?_
      refine va_get (D := D) (ci := 0) (v := .ref bm) (C := RX0) (T := TX0) (N := 9) hx hb hts inX0 hown hK hP 0 rfl rfl 2 (by decide) (hts _ mf_X0_18) (fun _ h9 => h9) rfl dX0_split_21 ?_
      refine lv_iload_n hx hb dX0_split_24 rfl (lv_at hl 1 rfl) ?_
      refine n_iald hx hb hK hP 3 0 rfl rfl (k := b) (by omega) (by decide) dX0_split_25 ?_
      refine n_iadd hx hb dX0_split_26 ?_
      refine n_ge (tgt := 53) hx hb dX0_split_27 (by decide) (by omega) (by omega) (fun c1 => ?_) (fun c1 => ?_)
      ·
        refine lv_aload_n hx hb dX0_split_53 rfl (lv_at hl 0 rfl) ?_
        refine va_get (D := D) (ci := 0) (v := .ref bb) (C := RX0) (T := TX0) (N := 9) hx hb hts inX0 hown hK hP 0 rfl rfl 0 (by decide) (hts _ mf_X0_9) (fun _ h9 => h9) rfl dX0_split_54 ?_
        refine lv_iload_n hx hb dX0_split_57 rfl (lv_at hl 1 rfl) ?_
        refine lv_aload_n hx hb dX0_split_58 rfl (lv_at hl 0 rfl) ?_
        refine va_get (D := D) (ci := 0) (v := .ref bg) (C := RX0) (T := TX0) (N := 9) hx hb hts inX0 hown hK hP 0 rfl rfl 7 (by decide) (hts _ mf_X0_33) (fun _ h9 => h9) rfl dX0_split_59 ?_
        refine lv_iload_n hx hb dX0_split_62 rfl (lv_at hl 2 rfl) ?_
        refine n_iald hx hb hK hP 8 0 rfl rfl (k := x) (by omega) (by decide) dX0_split_63 ?_
        refine n_iast hx hb hK hP hD hS 1 0 rfl rfl (k := b) (v := (BG x)) (by omega) (by decide) dX0_split_64 (fun H locs hP hD hS => ?_)
        have hP : va_P D vwCl [(b0, .inr (0, [.ref bb, .ref bd, .ref bm, .ref bl, .ref bf, .ref ba, .ref bk, .ref bg, .int (nI N)])), (bb, .inl (cI, 24, .inl (nF (up BB b (BG x))))), (bd, .inl (cI, 24, .inl (nF BD))), (bm, .inl (cI, 24, .inl (nF BM))), (bl, .inl (cI, 24, .inl (nF BL))), (bf, .inl (cI, 24, .inl (nF BF))), (ba, .inl (cI, 24, .inl (oF BA))), (bk, .inl (cI, 24, .inl (oF BK))), (bg, .inl (cI, 24, .inl (nF BG)))] H := hP
        have hD : va_D AA [(b0, .inr (0, [.ref bb, .ref bd, .ref bm, .ref bl, .ref bf, .ref ba, .ref bk, .ref bg, .int (nI N)])), (bb, .inl (cI, 24, .inl (nF (up BB b (BG x))))), (bd, .inl (cI, 24, .inl (nF BD))), (bm, .inl (cI, 24, .inl (nF BM))), (bl, .inl (cI, 24, .inl (nF BL))), (bf, .inl (cI, 24, .inl (nF BF))), (ba, .inl (cI, 24, .inl (oF BA))), (bk, .inl (cI, 24, .inl (oF BK))), (bg, .inl (cI, 24, .inl (nF BG)))] := hD
        refine lv_aload_n hx hb dX0_split_65 rfl (lv_at hl 0 rfl) ?_
        refine va_get (D := D) (ci := 0) (v := .ref bl) (C := RX0) (T := TX0) (N := 9) hx hb hts inX0 hown hK hP 0 rfl rfl 3 (by decide) (hts _ mf_X0_21) (fun _ h9 => h9) rfl dX0_split_66 ?_
        refine lv_iload_n hx hb dX0_split_69 rfl (lv_at hl 1 rfl) ?_
        refine lv_iload_n hx hb dX0_split_70 rfl (lv_at hl 2 rfl) ?_
        refine lv_iconst (v := nI 1) hx hb dX0_split_71 (by decide +kernel) ?_
        refine n_iadd hx hb dX0_split_72 ?_
        refine lv_aload_n hx hb dX0_split_73 rfl (lv_at hl 0 rfl) ?_
        refine va_get (D := D) (ci := 0) (v := .ref bf) (C := RX0) (T := TX0) (N := 9) hx hb hts inX0 hown hK hP 0 rfl rfl 4 (by decide) (hts _ mf_X0_24) (fun _ h9 => h9) rfl dX0_split_74 ?_
        refine lv_iload_n hx hb dX0_split_77 rfl (lv_at hl 1 rfl) ?_
        refine n_iald hx hb hK hP 5 0 rfl rfl (k := b) (by omega) (by decide) dX0_split_78 ?_
        refine n_isub hx hb dX0_split_79 (by omega) ?_
        refine n_iast hx hb hK hP hD hS 4 0 rfl rfl (k := b) (v := ((x + 1) - (BF b))) (by omega) (by decide) dX0_split_80 (fun H locs hP hD hS => ?_)
        have hP : va_P D vwCl [(b0, .inr (0, [.ref bb, .ref bd, .ref bm, .ref bl, .ref bf, .ref ba, .ref bk, .ref bg, .int (nI N)])), (bb, .inl (cI, 24, .inl (nF (up BB b (BG x))))), (bd, .inl (cI, 24, .inl (nF BD))), (bm, .inl (cI, 24, .inl (nF BM))), (bl, .inl (cI, 24, .inl (nF (up BL b ((x + 1) - (BF b)))))), (bf, .inl (cI, 24, .inl (nF BF))), (ba, .inl (cI, 24, .inl (oF BA))), (bk, .inl (cI, 24, .inl (oF BK))), (bg, .inl (cI, 24, .inl (nF BG)))] H := hP
        have hD : va_D AA [(b0, .inr (0, [.ref bb, .ref bd, .ref bm, .ref bl, .ref bf, .ref ba, .ref bk, .ref bg, .int (nI N)])), (bb, .inl (cI, 24, .inl (nF (up BB b (BG x))))), (bd, .inl (cI, 24, .inl (nF BD))), (bm, .inl (cI, 24, .inl (nF BM))), (bl, .inl (cI, 24, .inl (nF (up BL b ((x + 1) - (BF b)))))), (bf, .inl (cI, 24, .inl (nF BF))), (ba, .inl (cI, 24, .inl (oF BA))), (bk, .inl (cI, 24, .inl (oF BK))), (bg, .inl (cI, 24, .inl (nF BG)))] := hD
        exact wr_vret hx hb hr hlk hP hD hS dX0_split_81 (⟨rfl, by rw [hx1, show i = BM b - 2 by omega]⟩)
      ·
        refine lv_aload_n hx hb dX0_split_30 rfl (lv_at hl 0 rfl) ?_
        refine va_get (D := D) (ci := 0) (v := .ref bg) (C := RX0) (T := TX0) (N := 9) hx hb hts inX0 hown hK hP 0 rfl rfl 7 (by decide) (hts _ mf_X0_33) (fun _ h9 => h9) rfl dX0_split_31 ?_
        refine lv_iload_n hx hb dX0_split_34 rfl (lv_at hl 3 rfl) ?_
        refine n_iald hx hb hK hP 8 0 rfl rfl (k := (BF b + i + 1)) (by omega) (by decide) dX0_split_35 ?_
        refine lv_aload_n hx hb dX0_split_36 rfl (lv_at hl 0 rfl) ?_
        refine va_get (D := D) (ci := 0) (v := .ref bg) (C := RX0) (T := TX0) (N := 9) hx hb hts inX0 hown hK hP 0 rfl rfl 7 (by decide) (hts _ mf_X0_33) (fun _ h9 => h9) rfl dX0_split_37 ?_
        refine lv_iload_n hx hb dX0_split_40 rfl (lv_at hl 2 rfl) ?_
        refine n_iald hx hb hK hP 8 0 rfl rfl (k := x) (by omega) (by decide) dX0_split_41 ?_
        refine n_ge (tgt := 47) hx hb dX0_split_42 (by decide) (by have := hG (BF b + i + 1) (by omega); omega) (by have := hG x (by omega); omega) (fun c2 => ?_) (fun c2 => ?_)
        ·
          refine lv_iinc (v := nI ((BF b + i + 1) + 1)) (lv' := [(3, .int (nI ((BF b + i + 1) + 1))), (0, .ref b0), (1, .int (nI b)), (2, .int (nI x))]) hx hb dX0_split_47 hl (k := 3) rfl (nI_add (BF b + i + 1) 1) (by decide) rfl (fun ls hl => ?_)
          refine lv_goto (tgt := 11) hx hb dX0_split_50 (by decide) ?_
          exact ih11 (i + 1) x _ _ ls (by omega) (by omega) (by show _ = (if BG (BF b + i + 1) < BG (am BG (BF b) i) then BF b + i + 1 else am BG (BF b) i); rw [← hx1]; first | rw [if_pos (by omega)] | rw [if_neg (by omega)]) hP hD hS (lv_sub hl [1, 2, 3, 0] rfl)
        ·
          refine lv_iload_n hx hb dX0_split_45 rfl (lv_at hl 3 rfl) ?_
          refine lv_istore_n (lv' := [(2, .int (nI (BF b + i + 1))), (0, .ref b0), (1, .int (nI b)), (3, .int (nI (BF b + i + 1)))]) hx hb dX0_split_46 rfl hl (by decide) rfl (fun ls hl => ?_)
          refine lv_iinc (v := nI ((BF b + i + 1) + 1)) (lv' := [(3, .int (nI ((BF b + i + 1) + 1))), (2, .int (nI (BF b + i + 1))), (0, .ref b0), (1, .int (nI b))]) hx hb dX0_split_47 hl (k := 3) rfl (nI_add (BF b + i + 1) 1) (by decide) rfl (fun ls hl => ?_)
          refine lv_goto (tgt := 11) hx hb dX0_split_50 (by decide) ?_
          exact ih11 (i + 1) (BF b + i + 1) _ _ ls (by omega) (by omega) (by show _ = (if BG (BF b + i + 1) < BG (am BG (BF b) i) then BF b + i + 1 else am BG (BF b) i); rw [← hx1]; first | rw [if_pos (by omega)] | rw [if_neg (by omega)]) hP hD hS (lv_sub hl [2, 3, 1, 0] rfl)
  exact loop11 _ 0 (BF b) _ _ ls (Nat.lt_succ_self _) (by omega) rfl hP hD hS (lv_sub hl [2, 3, 1, 0] rfl)
set_option maxHeartbeats 4000000 in
set_option maxRecDepth 100000 in
theorem c_X0_grow (l : Launch) (D : va_G) (cI cJ cZ : ClassId) (b0 bb bd bm bl bf ba bk bg : Nat) (BB BD BM BL BF BA BK BG : Nat → Nat) (N : Nat) (k0 kl ks kw : Nat) (KL KS KW : Nat → Nat) (n : Nat) (hn : n ≤ 24) (hk : ∀ k, k < n → Wf (KS k) (KL k)) (sz : Nat) : WR l yX0_grow cX0_grow 3 none (rmN 4 86) D (ty3 cI cJ cZ) [.ref b0, .ref k0] [(b0, .inr (0, [.ref bb, .ref bd, .ref bm, .ref bl, .ref bf, .ref ba, .ref bk, .ref bg, .int (nI N)])), (bb, .inl (cI, 24, .inl (nF BB))), (bd, .inl (cI, 24, .inl (nF BD))), (bm, .inl (cI, 24, .inl (nF BM))), (bl, .inl (cI, 24, .inl (nF BL))), (bf, .inl (cI, 24, .inl (nF BF))), (ba, .inl (cI, 24, .inl (oF BA))), (bk, .inl (cI, 24, .inl (oF BK))), (bg, .inl (cI, 24, .inl (nF BG))), (k0, .inr (1, [.ref kl, .ref ks, .ref kw, .int (nI n)])), (kl, .inl (cJ, 24, .inr (.inl (lF KL)))), (ks, .inl (cI, 24, .inl (nF KS))), (kw, .inl (cI, 24, .inl (nF KW)))] sz (fun x w => x = none ∧ ∃ FB FD FM FL FF FA FK FG : Nat → Nat, w = [(b0, .inr (0, [.ref bb, .ref bd, .ref bm, .ref bl, .ref bf, .ref ba, .ref bk, .ref bg, .int (nI n)])), (bb, .inl (cI, 24, .inl (nF FB))), (bd, .inl (cI, 24, .inl (nF FD))), (bm, .inl (cI, 24, .inl (nF FM))), (bl, .inl (cI, 24, .inl (nF FL))), (bf, .inl (cI, 24, .inl (nF FF))), (ba, .inl (cI, 24, .inl (oF FA))), (bk, .inl (cI, 24, .inl (oF FK))), (bg, .inl (cI, 24, .inl (nF FG))), (k0, .inr (1, [.ref kl, .ref ks, .ref kw, .int (nI n)])), (kl, .inl (cJ, 24, .inr (.inl (lF KL)))), (ks, .inl (cI, 24, .inl (nF KS))), (kw, .inl (cI, 24, .inl (nF KW)))] ∧ TrX (gapF KS KL) n FB FD FM FL FF FA FK) := by
  refine wr_start (by decide) (Nat.le_of_ble_eq_true rfl) ?_
  intro pp ee ss mm below meth cd AA C0 hAA hP hK hD hS hN hnm ls hl
  obtain ⟨hx, hb, hr, hml, hown, hts, hlk⟩ := C0
  have hown : ss.vm.findClass RX0 = some mm.cls := hown
  have hl : lv_has ls 3 [(0, .ref b0), (1, .ref k0)] := hl
  have hP : va_P D vwCl [(b0, .inr (0, [.ref bb, .ref bd, .ref bm, .ref bl, .ref bf, .ref ba, .ref bk, .ref bg, .int (nI N)])), (bb, .inl (cI, 24, .inl (nF BB))), (bd, .inl (cI, 24, .inl (nF BD))), (bm, .inl (cI, 24, .inl (nF BM))), (bl, .inl (cI, 24, .inl (nF BL))), (bf, .inl (cI, 24, .inl (nF BF))), (ba, .inl (cI, 24, .inl (oF BA))), (bk, .inl (cI, 24, .inl (oF BK))), (bg, .inl (cI, 24, .inl (nF BG))), (k0, .inr (1, [.ref kl, .ref ks, .ref kw, .int (nI n)])), (kl, .inl (cJ, 24, .inr (.inl (lF KL)))), (ks, .inl (cI, 24, .inl (nF KS))), (kw, .inl (cI, 24, .inl (nF KW)))] ss.heap := hP
  refine lv_aload_n hx hb dX0_grow_0 rfl (lv_at hl 0 rfl) ?_
  refine lv_aload_n hx hb dX0_grow_1 rfl (lv_at hl 1 rfl) ?_
  refine ro_V (As := []) (rest := [.ref b0]) ⟨hx, hb, hml, hown, hts⟩ (c_X1_count l D cI cJ cZ k0 kl ks kw KL KS KW n (by omega)) (k_X0_50 hts ⟨Nat.le_of_ble_eq_true rfl, Nat.le_of_ble_eq_true rfl⟩) hK hP 9 rfl rfl rfl [9, 10, 11, 12] rfl rfl hl.1 rfl (Nat.le_of_ble_eq_true rfl) dX0_grow_2 ⟨Nat.le_of_ble_eq_true rfl, Nat.le_of_ble_eq_true rfl⟩ ?_
  refine va_put (D := D) (ci := 0) (v := .int (nI n)) (ty := .int) (C := RX0) (T := TX0) (N := 9) hx hb hts inX0 tyX0 tyX0_ok nmX0 hown hK hP hD hS 0 rfl rfl 8 (by decide) (hts _ mf_X0_36) (fun _ h9 => h9) rfl (by decide +kernel) rfl rfl (Nat.le_of_ble_eq_true rfl) dX0_grow_5 (fun H locs hP hD hS => ?_)
  have hP : va_P D vwCl [(b0, .inr (0, [.ref bb, .ref bd, .ref bm, .ref bl, .ref bf, .ref ba, .ref bk, .ref bg, .int (nI n)])), (bb, .inl (cI, 24, .inl (nF BB))), (bd, .inl (cI, 24, .inl (nF BD))), (bm, .inl (cI, 24, .inl (nF BM))), (bl, .inl (cI, 24, .inl (nF BL))), (bf, .inl (cI, 24, .inl (nF BF))), (ba, .inl (cI, 24, .inl (oF BA))), (bk, .inl (cI, 24, .inl (oF BK))), (bg, .inl (cI, 24, .inl (nF BG))), (k0, .inr (1, [.ref kl, .ref ks, .ref kw, .int (nI n)])), (kl, .inl (cJ, 24, .inr (.inl (lF KL)))), (ks, .inl (cI, 24, .inl (nF KS))), (kw, .inl (cI, 24, .inl (nF KW)))] H := hP
  have hD : va_D AA [(b0, .inr (0, [.ref bb, .ref bd, .ref bm, .ref bl, .ref bf, .ref ba, .ref bk, .ref bg, .int (nI n)])), (bb, .inl (cI, 24, .inl (nF BB))), (bd, .inl (cI, 24, .inl (nF BD))), (bm, .inl (cI, 24, .inl (nF BM))), (bl, .inl (cI, 24, .inl (nF BL))), (bf, .inl (cI, 24, .inl (nF BF))), (ba, .inl (cI, 24, .inl (oF BA))), (bk, .inl (cI, 24, .inl (oF BK))), (bg, .inl (cI, 24, .inl (nF BG))), (k0, .inr (1, [.ref kl, .ref ks, .ref kw, .int (nI n)])), (kl, .inl (cJ, 24, .inr (.inl (lF KL)))), (ks, .inl (cI, 24, .inl (nF KS))), (kw, .inl (cI, 24, .inl (nF KW)))] := hD
  refine lv_iconst (v := nI 0) hx hb dX0_grow_8 (by decide +kernel) ?_
  refine lv_istore_n (lv' := [(2, .int (nI 0)), (0, .ref b0), (1, .ref k0)]) hx hb dX0_grow_9 rfl hl (by decide) rfl (fun ls hl => ?_)
  have loop10 : ∀ (d : Nat) (i : Nat) (FG : Nat → Nat) (H : Heap) (locs : List Loc) (ls : Array Slot), n - i < d → (i ≤ n - 1) → (∀ k, k < i → FG k = gapF KS KL k) → va_P D vwCl [(b0, .inr (0, [.ref bb, .ref bd, .ref bm, .ref bl, .ref bf, .ref ba, .ref bk, .ref bg, .int (nI n)])), (bb, .inl (cI, 24, .inl (nF BB))), (bd, .inl (cI, 24, .inl (nF BD))), (bm, .inl (cI, 24, .inl (nF BM))), (bl, .inl (cI, 24, .inl (nF BL))), (bf, .inl (cI, 24, .inl (nF BF))), (ba, .inl (cI, 24, .inl (oF BA))), (bk, .inl (cI, 24, .inl (oF BK))), (bg, .inl (cI, 24, .inl (nF FG))), (k0, .inr (1, [.ref kl, .ref ks, .ref kw, .int (nI n)])), (kl, .inl (cJ, 24, .inr (.inl (lF KL)))), (ks, .inl (cI, 24, .inl (nF KS))), (kw, .inl (cI, 24, .inl (nF KW)))] H → va_D AA [(b0, .inr (0, [.ref bb, .ref bd, .ref bm, .ref bl, .ref bf, .ref ba, .ref bk, .ref bg, .int (nI n)])), (bb, .inl (cI, 24, .inl (nF BB))), (bd, .inl (cI, 24, .inl (nF BD))), (bm, .inl (cI, 24, .inl (nF BM))), (bl, .inl (cI, 24, .inl (nF BL))), (bf, .inl (cI, 24, .inl (nF BF))), (ba, .inl (cI, 24, .inl (oF BA))), (bk, .inl (cI, 24, .inl (oF BK))), (bg, .inl (cI, 24, .inl (nF FG))), (k0, .inr (1, [.ref kl, .ref ks, .ref kw, .int (nI n)])), (kl, .inl (cJ, 24, .inr (.inl (lF KL)))), (ks, .inl (cI, 24, .inl (nF KS))), (kw, .inl (cI, 24, .inl (nF KW)))] → va_S AA ss.heap H locs → lv_has ls 3 [(0, .ref b0), (1, .ref k0), (2, .int (nI i))] → W pp l ee (rmN 4 86) ss mm [.ref b0, .ref k0].toArray below meth cd H locs 0 0 (MQ below (QW D AA (fun x w => x = none ∧ ∃ FB FD FM FL FF FA FK FG : Nat → Nat, w = [(b0, .inr (0, [.ref bb, .ref bd, .ref bm, .ref bl, .ref bf, .ref ba, .ref bk, .ref bg, .int (nI n)])), (bb, .inl (cI, 24, .inl (nF FB))), (bd, .inl (cI, 24, .inl (nF FD))), (bm, .inl (cI, 24, .inl (nF FM))), (bl, .inl (cI, 24, .inl (nF FL))), (bf, .inl (cI, 24, .inl (nF FF))), (ba, .inl (cI, 24, .inl (oF FA))), (bk, .inl (cI, 24, .inl (oF FK))), (bg, .inl (cI, 24, .inl (nF FG))), (k0, .inr (1, [.ref kl, .ref ks, .ref kw, .int (nI n)])), (kl, .inl (cJ, 24, .inr (.inl (lF KL)))), (ks, .inl (cI, 24, .inl (nF KS))), (kw, .inl (cI, 24, .inl (nF KW)))] ∧ TrX (gapF KS KL) n FB FD FM FL FF FA FK)) [.ref b0, .ref k0].toArray ss 0 0 AA) (F0 mm 10 ls []) := by
    intro d
    induction d with
    | zero => intro i FG H locs ls h; exact absurd h (Nat.not_lt_zero _)
    | succ d ih10 =>
      intro i FG H locs ls hd10 hi hg hP hD hS hl
      refine lv_iload_n hx hb dX0_grow_10 rfl (lv_at hl 2 rfl) ?_
      refine lv_iconst (v := nI 1) hx hb dX0_grow_11 (by decide +kernel) ?_
      refine n_iadd hx hb dX0_grow_12 ?_
      refine lv_aload_n hx hb dX0_grow_13 rfl (lv_at hl 0 rfl) ?_
      refine va_get (D := D) (ci := 0) (v := .int (nI n)) (C := RX0) (T := TX0) (N := 9) hx hb hts inX0 hown hK hP 0 rfl rfl 8 (by decide) (hts _ mf_X0_36) (fun _ h9 => h9) rfl dX0_grow_14 ?_
      refine n_ge (tgt := 40) hx hb dX0_grow_17 (by decide) (by omega) (by omega) (fun c1 => ?_) (fun c1 => ?_)
      ·
        have hFG : ∀ k, k + 1 < n → FG k = gapF KS KL k := fun k h => hg k (by omega)
        refine lv_aload_n hx hb dX0_grow_40 rfl (lv_at hl 0 rfl) ?_
        refine va_get (D := D) (ci := 0) (v := .int (nI n)) (C := RX0) (T := TX0) (N := 9) hx hb hts inX0 hown hK hP 0 rfl rfl 8 (by decide) (hts _ mf_X0_36) (fun _ h9 => h9) rfl dX0_grow_41 ?_
        refine n_if_le (tgt := 58) hx hb dX0_grow_44 (by decide) (by omega) (fun c2 => ?_) (fun c2 => ?_)
        ·
          refine lv_iconst (v := nI 0) hx hb dX0_grow_58 (by decide +kernel) ?_
          refine lv_istore_n (lv' := [(2, .int (nI 0)), (0, .ref b0), (1, .ref k0)]) hx hb dX0_grow_59 rfl hl (by decide) rfl (fun ls hl => ?_)
          have loop60 : ∀ (d : Nat) (b : Nat) (FB : Nat → Nat) (FD : Nat → Nat) (FM : Nat → Nat) (FL : Nat → Nat) (FF : Nat → Nat) (FA : Nat → Nat) (FK : Nat → Nat) (H : Heap) (locs : List Loc) (ls : Array Slot), n - b < d → (b ≤ n - 1) → (∀ c, c + 1 < n → (nd FG n c).2.2.2 ≤ b → (FF c, FM c, FD c, FA c) = nd FG n c) → (∀ c, c + 1 < n → c < b → FB c = FG (am FG (nd FG n c).1 ((nd FG n c).2.1 - 2)) ∧ FL c = lef FG (nd FG n c).1 (nd FG n c).2.1) → (∀ k, k < n → (lf FG n k).2 ≤ b → FK k = (lf FG n k).2) → va_P D vwCl [(b0, .inr (0, [.ref bb, .ref bd, .ref bm, .ref bl, .ref bf, .ref ba, .ref bk, .ref bg, .int (nI n)])), (bb, .inl (cI, 24, .inl (nF FB))), (bd, .inl (cI, 24, .inl (nF FD))), (bm, .inl (cI, 24, .inl (nF FM))), (bl, .inl (cI, 24, .inl (nF FL))), (bf, .inl (cI, 24, .inl (nF FF))), (ba, .inl (cI, 24, .inl (oF FA))), (bk, .inl (cI, 24, .inl (oF FK))), (bg, .inl (cI, 24, .inl (nF FG))), (k0, .inr (1, [.ref kl, .ref ks, .ref kw, .int (nI n)])), (kl, .inl (cJ, 24, .inr (.inl (lF KL)))), (ks, .inl (cI, 24, .inl (nF KS))), (kw, .inl (cI, 24, .inl (nF KW)))] H → va_D AA [(b0, .inr (0, [.ref bb, .ref bd, .ref bm, .ref bl, .ref bf, .ref ba, .ref bk, .ref bg, .int (nI n)])), (bb, .inl (cI, 24, .inl (nF FB))), (bd, .inl (cI, 24, .inl (nF FD))), (bm, .inl (cI, 24, .inl (nF FM))), (bl, .inl (cI, 24, .inl (nF FL))), (bf, .inl (cI, 24, .inl (nF FF))), (ba, .inl (cI, 24, .inl (oF FA))), (bk, .inl (cI, 24, .inl (oF FK))), (bg, .inl (cI, 24, .inl (nF FG))), (k0, .inr (1, [.ref kl, .ref ks, .ref kw, .int (nI n)])), (kl, .inl (cJ, 24, .inr (.inl (lF KL)))), (ks, .inl (cI, 24, .inl (nF KS))), (kw, .inl (cI, 24, .inl (nF KW)))] → va_S AA ss.heap H locs → lv_has ls 3 [(0, .ref b0), (1, .ref k0), (2, .int (nI b))] → W pp l ee (rmN 4 86) ss mm [.ref b0, .ref k0].toArray below meth cd H locs 0 0 (MQ below (QW D AA (fun x w => x = none ∧ ∃ FB FD FM FL FF FA FK FG : Nat → Nat, w = [(b0, .inr (0, [.ref bb, .ref bd, .ref bm, .ref bl, .ref bf, .ref ba, .ref bk, .ref bg, .int (nI n)])), (bb, .inl (cI, 24, .inl (nF FB))), (bd, .inl (cI, 24, .inl (nF FD))), (bm, .inl (cI, 24, .inl (nF FM))), (bl, .inl (cI, 24, .inl (nF FL))), (bf, .inl (cI, 24, .inl (nF FF))), (ba, .inl (cI, 24, .inl (oF FA))), (bk, .inl (cI, 24, .inl (oF FK))), (bg, .inl (cI, 24, .inl (nF FG))), (k0, .inr (1, [.ref kl, .ref ks, .ref kw, .int (nI n)])), (kl, .inl (cJ, 24, .inr (.inl (lF KL)))), (ks, .inl (cI, 24, .inl (nF KS))), (kw, .inl (cI, 24, .inl (nF KW)))] ∧ TrX (gapF KS KL) n FB FD FM FL FF FA FK)) [.ref b0, .ref k0].toArray ss 0 0 AA) (F0 mm 60 ls []) := by
            intro d
            induction d with
            | zero => intro b FB FD FM FL FF FA FK H locs ls h; exact absurd h (Nat.not_lt_zero _)
            | succ d ih60 =>
              intro b FB FD FM FL FF FA FK H locs ls hd60 hbn I1 I2 I3 hP hD hS hl
              refine lv_iload_n hx hb dX0_grow_60 rfl (lv_at hl 2 rfl) ?_
              refine lv_aload_n hx hb dX0_grow_61 rfl (lv_at hl 0 rfl) ?_
              refine ro_V (As := []) (rest := [.int (nI b)]) ⟨hx, hb, hml, hown, hts⟩ (c_X0_count l D cI cJ cZ b0 bb bd bm bl bf ba bk bg FB FD FM FL FF FA FK FG n (by omega) ) (k_X0_46 hts ⟨Nat.le_of_ble_eq_true rfl, Nat.le_of_ble_eq_true rfl⟩) hK hP 0 rfl rfl rfl [0, 1, 2, 3, 4, 5, 6, 7, 8] rfl rfl hl.1 rfl (Nat.le_of_ble_eq_true rfl) dX0_grow_62 ⟨Nat.le_of_ble_eq_true rfl, Nat.le_of_ble_eq_true rfl⟩ ?_
              refine n_ge (tgt := 138) hx hb dX0_grow_65 (by decide) (by omega) (by omega) (fun c3 => ?_) (fun c3 => ?_)
              ·
                exact wr_vret hx hb hr hlk hP hD hS dX0_grow_138 (⟨rfl, FB, FD, FM, FL, FF, FA, FK, FG, rfl, TrX_congr hFG ⟨fun c hc => ⟨I1 c hc (by have := (nd_prop hc (show nd FG n c = ((nd FG n c).1, (nd FG n c).2.1, (nd FG n c).2.2.1, (nd FG n c).2.2.2) from rfl)).2.2.2; omega), I2 c hc (by omega)⟩, fun k hk2 => I3 k hk2 (by rcases Nat.lt_or_ge n 2 with g | g; rw [show n = 1 by omega, lf_1]; exact Nat.zero_le _; have := lf_le (G := FG) g hk2; omega)⟩⟩)
              ·
                have hb2 : b + 1 < n := by omega
                obtain ⟨f, q, d0, u, hnd⟩ : ∃ f q d0 u, nd FG n b = (f, q, d0, u) := ⟨_, _, _, _, rfl⟩
                have hpr := nd_prop hb2 hnd
                have hI := I1 b hb2 (by rw [hnd]; exact hpr.2.2.2)
                rw [hnd] at hI
                have hF : FF b = f := congrArg (fun x : Nat × Nat × Nat × Nat => x.1) hI
                have hM : FM b = q := congrArg (fun x : Nat × Nat × Nat × Nat => x.2.1) hI
                have hDp : FD b = d0 := congrArg (fun x : Nat × Nat × Nat × Nat => x.2.2.1) hI
                have hzz := lef_in FG (f := f) (m := q) hpr.1
                have ez : am FG (FF b) (FM b - 2) + 1 - FF b = lef FG f q := by rw [hF, hM]; rfl
                refine lv_aload_n hx hb dX0_grow_68 rfl (lv_at hl 0 rfl) ?_
                refine lv_iload_n hx hb dX0_grow_69 rfl (lv_at hl 2 rfl) ?_
                refine wr_V (As := [.int (nI b)]) (rest := []) (wc := [(b0, .inr (0, [.ref bb, .ref bd, .ref bm, .ref bl, .ref bf, .ref ba, .ref bk, .ref bg, .int (nI n)])), (bb, .inl (cI, 24, .inl (nF FB))), (bd, .inl (cI, 24, .inl (nF FD))), (bm, .inl (cI, 24, .inl (nF FM))), (bl, .inl (cI, 24, .inl (nF FL))), (bf, .inl (cI, 24, .inl (nF FF))), (ba, .inl (cI, 24, .inl (oF FA))), (bk, .inl (cI, 24, .inl (oF FK))), (bg, .inl (cI, 24, .inl (nF FG)))]) (wr := [(k0, .inr (1, [.ref kl, .ref ks, .ref kw, .int (nI n)])), (kl, .inl (cJ, 24, .inr (.inl (lF KL)))), (ks, .inl (cI, 24, .inl (nF KS))), (kw, .inl (cI, 24, .inl (nF KW)))]) ⟨hx, hb, hml, hown, hts⟩ (c_X0_split l D cI cJ cZ b0 bb bd bm bl bf ba bk bg FB FD FM FL FF FA FK FG n b (by omega) (by omega) (by omega) (fun k hk => by rw [hFG k (by omega)]; exact unl_le _ _ _ _) _) (k_X0_60 hts ⟨Nat.le_of_ble_eq_true rfl, Nat.le_of_ble_eq_true rfl⟩) hK hN hP hD hS hAA 0 rfl rfl rfl [0, 1, 2, 3, 4, 5, 6, 7, 8] [9, 10, 11, 12] rfl rfl (by decide) (by decide) (by decide) rfl hl.1 rfl (Nat.le_of_ble_eq_true rfl) dX0_grow_70 ⟨Nat.le_of_ble_eq_true rfl, Nat.le_of_ble_eq_true rfl⟩ (fun v5 w6 H locs hp4 hP hD hS => ?_)
                obtain ⟨rfl, rfl⟩ := hp4
                have hP : va_P D vwCl [(b0, .inr (0, [.ref bb, .ref bd, .ref bm, .ref bl, .ref bf, .ref ba, .ref bk, .ref bg, .int (nI n)])), (bb, .inl (cI, 24, .inl (nF (up FB b (FG (am FG (FF b) (FM b - 2))))))), (bd, .inl (cI, 24, .inl (nF FD))), (bm, .inl (cI, 24, .inl (nF FM))), (bl, .inl (cI, 24, .inl (nF (up FL b (am FG (FF b) (FM b - 2) + 1 - FF b))))), (bf, .inl (cI, 24, .inl (nF FF))), (ba, .inl (cI, 24, .inl (oF FA))), (bk, .inl (cI, 24, .inl (oF FK))), (bg, .inl (cI, 24, .inl (nF FG))), (k0, .inr (1, [.ref kl, .ref ks, .ref kw, .int (nI n)])), (kl, .inl (cJ, 24, .inr (.inl (lF KL)))), (ks, .inl (cI, 24, .inl (nF KS))), (kw, .inl (cI, 24, .inl (nF KW)))] H := hP.sub [4, 5, 6, 7, 8, 9, 10, 11, 12, 0, 1, 2, 3] rfl
                have hD : va_D AA [(b0, .inr (0, [.ref bb, .ref bd, .ref bm, .ref bl, .ref bf, .ref ba, .ref bk, .ref bg, .int (nI n)])), (bb, .inl (cI, 24, .inl (nF (up FB b (FG (am FG (FF b) (FM b - 2))))))), (bd, .inl (cI, 24, .inl (nF FD))), (bm, .inl (cI, 24, .inl (nF FM))), (bl, .inl (cI, 24, .inl (nF (up FL b (am FG (FF b) (FM b - 2) + 1 - FF b))))), (bf, .inl (cI, 24, .inl (nF FF))), (ba, .inl (cI, 24, .inl (oF FA))), (bk, .inl (cI, 24, .inl (oF FK))), (bg, .inl (cI, 24, .inl (nF FG))), (k0, .inr (1, [.ref kl, .ref ks, .ref kw, .int (nI n)])), (kl, .inl (cJ, 24, .inr (.inl (lF KL)))), (ks, .inl (cI, 24, .inl (nF KS))), (kw, .inl (cI, 24, .inl (nF KW)))] := hD.sub [4, 5, 6, 7, 8, 9, 10, 11, 12, 0, 1, 2, 3] (by decide) rfl
                refine lv_aload_n hx hb dX0_grow_73 rfl (lv_at hl 0 rfl) ?_
                refine lv_iload_n hx hb dX0_grow_74 rfl (lv_at hl 2 rfl) ?_
                refine lv_iconst (v := nI 1) hx hb dX0_grow_75 (by decide +kernel) ?_
                refine n_iadd hx hb dX0_grow_76 ?_
                refine lv_aload_n hx hb dX0_grow_77 rfl (lv_at hl 0 rfl) ?_
                refine va_get (D := D) (ci := 0) (v := .ref bf) (C := RX0) (T := TX0) (N := 9) hx hb hts inX0 hown hK hP 0 rfl rfl 4 (by decide) (hts _ mf_X0_24) (fun _ h9 => h9) rfl dX0_grow_78 ?_
                refine lv_iload_n hx hb dX0_grow_81 rfl (lv_at hl 2 rfl) ?_
                refine n_iald hx hb hK hP 5 0 rfl rfl (k := b) (by omega) (by decide) dX0_grow_82 ?_
                refine lv_aload_n hx hb dX0_grow_83 rfl (lv_at hl 0 rfl) ?_
                refine va_get (D := D) (ci := 0) (v := .ref bl) (C := RX0) (T := TX0) (N := 9) hx hb hts inX0 hown hK hP 0 rfl rfl 3 (by decide) (hts _ mf_X0_21) (fun _ h9 => h9) rfl dX0_grow_84 ?_
                refine lv_iload_n hx hb dX0_grow_87 rfl (lv_at hl 2 rfl) ?_
                refine n_iald hx hb hK hP 4 0 rfl rfl (k := b) (by omega) (by decide) dX0_grow_88 ?_
                refine tq (y := nI (am FG (FF b) (FM b - 2) + 1 - FF b)) (congrArg nI (up_eq _ _ _)) ?_
                refine lv_iload_n hx hb dX0_grow_89 rfl (lv_at hl 2 rfl) ?_
                refine tq (y := oI (b + 1)) (oI_s _).symm ?_
                refine wr_V (As := [.int (nI (b + 1)), .int (nI (FF b)), .int (nI (am FG (FF b) (FM b - 2) + 1 - FF b)), .int (oI (b + 1))]) (rest := []) (wc := [(b0, .inr (0, [.ref bb, .ref bd, .ref bm, .ref bl, .ref bf, .ref ba, .ref bk, .ref bg, .int (nI n)])), (bb, .inl (cI, 24, .inl (nF (up FB b (FG (am FG (FF b) (FM b - 2))))))), (bd, .inl (cI, 24, .inl (nF FD))), (bm, .inl (cI, 24, .inl (nF FM))), (bl, .inl (cI, 24, .inl (nF (up FL b (am FG (FF b) (FM b - 2) + 1 - FF b))))), (bf, .inl (cI, 24, .inl (nF FF))), (ba, .inl (cI, 24, .inl (oF FA))), (bk, .inl (cI, 24, .inl (oF FK))), (bg, .inl (cI, 24, .inl (nF FG)))]) (wr := [(k0, .inr (1, [.ref kl, .ref ks, .ref kw, .int (nI n)])), (kl, .inl (cJ, 24, .inr (.inl (lF KL)))), (ks, .inl (cI, 24, .inl (nF KS))), (kw, .inl (cI, 24, .inl (nF KW)))]) ⟨hx, hb, hml, hown, hts⟩ (c_X0_hang l D cI cJ cZ b0 bb bd bm bl bf ba bk bg (up FB b (FG (am FG (FF b) (FM b - 2)))) FD FM (up FL b (am FG (FF b) (FM b - 2) + 1 - FF b)) FF FA FK FG n (by omega) (b + 1) (FF b) (am FG (FF b) (FM b - 2) + 1 - FF b) (b + 1) (by omega) (fun _ => by omega) (by omega) (by omega) (by omega) _) (k_X0_56 hts ⟨Nat.le_of_ble_eq_true rfl, Nat.le_of_ble_eq_true rfl⟩) hK hN hP hD hS hAA 0 rfl rfl rfl [0, 1, 2, 3, 4, 5, 6, 7, 8] [9, 10, 11, 12] rfl rfl (by decide) (by decide) (by decide) rfl hl.1 rfl (Nat.le_of_ble_eq_true rfl) dX0_grow_90 ⟨Nat.le_of_ble_eq_true rfl, Nat.le_of_ble_eq_true rfl⟩ (fun v8 w9 H locs hp7 hP hD hS => ?_)
                obtain ⟨rfl, rfl⟩ := hp7
                have hP : va_P D vwCl [(b0, .inr (0, [.ref bb, .ref bd, .ref bm, .ref bl, .ref bf, .ref ba, .ref bk, .ref bg, .int (nI n)])), (bb, .inl (cI, 24, .inl (nF ((up FB b (FG (am FG (FF b) (FM b - 2)))))))), (bd, .inl (cI, 24, .inl (nF (if (am FG (FF b) (FM b - 2) + 1 - FF b) = 1 then FD else up FD (b + 1) (if (b + 1) = 0 then 0 else FD ((b + 1) - 1) + 1))))), (bm, .inl (cI, 24, .inl (nF (if (am FG (FF b) (FM b - 2) + 1 - FF b) = 1 then FM else up FM (b + 1) (am FG (FF b) (FM b - 2) + 1 - FF b))))), (bl, .inl (cI, 24, .inl (nF ((up FL b (am FG (FF b) (FM b - 2) + 1 - FF b)))))), (bf, .inl (cI, 24, .inl (nF (if (am FG (FF b) (FM b - 2) + 1 - FF b) = 1 then FF else up FF (b + 1) (FF b))))), (ba, .inl (cI, 24, .inl (oF (if (am FG (FF b) (FM b - 2) + 1 - FF b) = 1 then FA else up FA (b + 1) (b + 1))))), (bk, .inl (cI, 24, .inl (oF (if (am FG (FF b) (FM b - 2) + 1 - FF b) = 1 then up FK (FF b) (b + 1) else FK)))), (bg, .inl (cI, 24, .inl (nF FG))), (k0, .inr (1, [.ref kl, .ref ks, .ref kw, .int (nI n)])), (kl, .inl (cJ, 24, .inr (.inl (lF KL)))), (ks, .inl (cI, 24, .inl (nF KS))), (kw, .inl (cI, 24, .inl (nF KW)))] H := hP.sub [4, 5, 6, 7, 8, 9, 10, 11, 12, 0, 1, 2, 3] rfl
                have hD : va_D AA [(b0, .inr (0, [.ref bb, .ref bd, .ref bm, .ref bl, .ref bf, .ref ba, .ref bk, .ref bg, .int (nI n)])), (bb, .inl (cI, 24, .inl (nF ((up FB b (FG (am FG (FF b) (FM b - 2)))))))), (bd, .inl (cI, 24, .inl (nF (if (am FG (FF b) (FM b - 2) + 1 - FF b) = 1 then FD else up FD (b + 1) (if (b + 1) = 0 then 0 else FD ((b + 1) - 1) + 1))))), (bm, .inl (cI, 24, .inl (nF (if (am FG (FF b) (FM b - 2) + 1 - FF b) = 1 then FM else up FM (b + 1) (am FG (FF b) (FM b - 2) + 1 - FF b))))), (bl, .inl (cI, 24, .inl (nF ((up FL b (am FG (FF b) (FM b - 2) + 1 - FF b)))))), (bf, .inl (cI, 24, .inl (nF (if (am FG (FF b) (FM b - 2) + 1 - FF b) = 1 then FF else up FF (b + 1) (FF b))))), (ba, .inl (cI, 24, .inl (oF (if (am FG (FF b) (FM b - 2) + 1 - FF b) = 1 then FA else up FA (b + 1) (b + 1))))), (bk, .inl (cI, 24, .inl (oF (if (am FG (FF b) (FM b - 2) + 1 - FF b) = 1 then up FK (FF b) (b + 1) else FK)))), (bg, .inl (cI, 24, .inl (nF FG))), (k0, .inr (1, [.ref kl, .ref ks, .ref kw, .int (nI n)])), (kl, .inl (cJ, 24, .inr (.inl (lF KL)))), (ks, .inl (cI, 24, .inl (nF KS))), (kw, .inl (cI, 24, .inl (nF KW)))] := hD.sub [4, 5, 6, 7, 8, 9, 10, 11, 12, 0, 1, 2, 3] (by decide) rfl
                refine lv_aload_n hx hb dX0_grow_93 rfl (lv_at hl 0 rfl) ?_
                refine lv_iload_n hx hb dX0_grow_94 rfl (lv_at hl 2 rfl) ?_
                refine lv_aload_n hx hb dX0_grow_95 rfl (lv_at hl 0 rfl) ?_
                refine va_get (D := D) (ci := 0) (v := .ref bl) (C := RX0) (T := TX0) (N := 9) hx hb hts inX0 hown hK hP 0 rfl rfl 3 (by decide) (hts _ mf_X0_21) (fun _ h9 => h9) rfl dX0_grow_96 ?_
                refine lv_iload_n hx hb dX0_grow_99 rfl (lv_at hl 2 rfl) ?_
                refine n_iald hx hb hK hP 4 0 rfl rfl (k := b) (by omega) (by decide) dX0_grow_100 ?_
                refine tq (y := nI (am FG (FF b) (FM b - 2) + 1 - FF b)) (congrArg nI (up_eq _ _ _)) ?_
                refine n_iadd hx hb dX0_grow_101 ?_
                refine lv_aload_n hx hb dX0_grow_102 rfl (lv_at hl 0 rfl) ?_
                refine va_get (D := D) (ci := 0) (v := .ref bf) (C := RX0) (T := TX0) (N := 9) hx hb hts inX0 hown hK hP 0 rfl rfl 4 (by decide) (hts _ mf_X0_24) (fun _ h9 => h9) rfl dX0_grow_103 ?_
                refine lv_iload_n hx hb dX0_grow_106 rfl (lv_at hl 2 rfl) ?_
                refine n_iald hx hb hK hP 5 0 rfl rfl (k := b) (by omega) (by decide) dX0_grow_107 ?_
                refine tq (y := nI (FF b)) (congrArg nI (ifup_ne (by omega))) ?_
                refine lv_aload_n hx hb dX0_grow_108 rfl (lv_at hl 0 rfl) ?_
                refine va_get (D := D) (ci := 0) (v := .ref bl) (C := RX0) (T := TX0) (N := 9) hx hb hts inX0 hown hK hP 0 rfl rfl 3 (by decide) (hts _ mf_X0_21) (fun _ h9 => h9) rfl dX0_grow_109 ?_
                refine lv_iload_n hx hb dX0_grow_112 rfl (lv_at hl 2 rfl) ?_
                refine n_iald hx hb hK hP 4 0 rfl rfl (k := b) (by omega) (by decide) dX0_grow_113 ?_
                refine tq (y := nI (am FG (FF b) (FM b - 2) + 1 - FF b)) (congrArg nI (up_eq _ _ _)) ?_
                refine n_iadd hx hb dX0_grow_114 ?_
                refine lv_aload_n hx hb dX0_grow_115 rfl (lv_at hl 0 rfl) ?_
                refine va_get (D := D) (ci := 0) (v := .ref bm) (C := RX0) (T := TX0) (N := 9) hx hb hts inX0 hown hK hP 0 rfl rfl 2 (by decide) (hts _ mf_X0_18) (fun _ h9 => h9) rfl dX0_grow_116 ?_
                refine lv_iload_n hx hb dX0_grow_119 rfl (lv_at hl 2 rfl) ?_
                refine n_iald hx hb hK hP 3 0 rfl rfl (k := b) (by omega) (by decide) dX0_grow_120 ?_
                refine tq (y := nI (FM b)) (congrArg nI (ifup_ne (by omega))) ?_
                refine lv_aload_n hx hb dX0_grow_121 rfl (lv_at hl 0 rfl) ?_
                refine va_get (D := D) (ci := 0) (v := .ref bl) (C := RX0) (T := TX0) (N := 9) hx hb hts inX0 hown hK hP 0 rfl rfl 3 (by decide) (hts _ mf_X0_21) (fun _ h9 => h9) rfl dX0_grow_122 ?_
                refine lv_iload_n hx hb dX0_grow_125 rfl (lv_at hl 2 rfl) ?_
                refine n_iald hx hb hK hP 4 0 rfl rfl (k := b) (by omega) (by decide) dX0_grow_126 ?_
                refine tq (y := nI (am FG (FF b) (FM b - 2) + 1 - FF b)) (congrArg nI (up_eq _ _ _)) ?_
                refine n_isub hx hb dX0_grow_127 (by omega) ?_
                refine lv_iload_n hx hb dX0_grow_128 rfl (lv_at hl 2 rfl) ?_
                refine tq (y := oI (b + 1)) (oI_s _).symm ?_
                refine wr_V (As := [.int (nI (b + (am FG (FF b) (FM b - 2) + 1 - FF b))), .int (nI ((FF b) + (am FG (FF b) (FM b - 2) + 1 - FF b))), .int (nI ((FM b) - (am FG (FF b) (FM b - 2) + 1 - FF b))), .int (oI (b + 1))]) (rest := []) (wc := [(b0, .inr (0, [.ref bb, .ref bd, .ref bm, .ref bl, .ref bf, .ref ba, .ref bk, .ref bg, .int (nI n)])), (bb, .inl (cI, 24, .inl (nF ((up FB b (FG (am FG (FF b) (FM b - 2)))))))), (bd, .inl (cI, 24, .inl (nF (if (am FG (FF b) (FM b - 2) + 1 - FF b) = 1 then FD else up FD (b + 1) (if (b + 1) = 0 then 0 else FD ((b + 1) - 1) + 1))))), (bm, .inl (cI, 24, .inl (nF (if (am FG (FF b) (FM b - 2) + 1 - FF b) = 1 then FM else up FM (b + 1) (am FG (FF b) (FM b - 2) + 1 - FF b))))), (bl, .inl (cI, 24, .inl (nF ((up FL b (am FG (FF b) (FM b - 2) + 1 - FF b)))))), (bf, .inl (cI, 24, .inl (nF (if (am FG (FF b) (FM b - 2) + 1 - FF b) = 1 then FF else up FF (b + 1) (FF b))))), (ba, .inl (cI, 24, .inl (oF (if (am FG (FF b) (FM b - 2) + 1 - FF b) = 1 then FA else up FA (b + 1) (b + 1))))), (bk, .inl (cI, 24, .inl (oF (if (am FG (FF b) (FM b - 2) + 1 - FF b) = 1 then up FK (FF b) (b + 1) else FK)))), (bg, .inl (cI, 24, .inl (nF FG)))]) (wr := [(k0, .inr (1, [.ref kl, .ref ks, .ref kw, .int (nI n)])), (kl, .inl (cJ, 24, .inr (.inl (lF KL)))), (ks, .inl (cI, 24, .inl (nF KS))), (kw, .inl (cI, 24, .inl (nF KW)))]) ⟨hx, hb, hml, hown, hts⟩ (c_X0_hang l D cI cJ cZ b0 bb bd bm bl bf ba bk bg ((up FB b (FG (am FG (FF b) (FM b - 2))))) (if (am FG (FF b) (FM b - 2) + 1 - FF b) = 1 then FD else up FD (b + 1) (if (b + 1) = 0 then 0 else FD ((b + 1) - 1) + 1)) (if (am FG (FF b) (FM b - 2) + 1 - FF b) = 1 then FM else up FM (b + 1) (am FG (FF b) (FM b - 2) + 1 - FF b)) ((up FL b (am FG (FF b) (FM b - 2) + 1 - FF b))) (if (am FG (FF b) (FM b - 2) + 1 - FF b) = 1 then FF else up FF (b + 1) (FF b)) (if (am FG (FF b) (FM b - 2) + 1 - FF b) = 1 then FA else up FA (b + 1) (b + 1)) (if (am FG (FF b) (FM b - 2) + 1 - FF b) = 1 then up FK (FF b) (b + 1) else FK) FG n (by omega) (b + (am FG (FF b) (FM b - 2) + 1 - FF b)) ((FF b) + (am FG (FF b) (FM b - 2) + 1 - FF b)) ((FM b) - (am FG (FF b) (FM b - 2) + 1 - FF b)) (b + 1) (by omega) (fun _ => by omega) (by omega) (by omega) (by omega) _) (k_X0_56 hts ⟨Nat.le_of_ble_eq_true rfl, Nat.le_of_ble_eq_true rfl⟩) hK hN hP hD hS hAA 0 rfl rfl rfl [0, 1, 2, 3, 4, 5, 6, 7, 8] [9, 10, 11, 12] rfl rfl (by decide) (by decide) (by decide) rfl hl.1 rfl (Nat.le_of_ble_eq_true rfl) dX0_grow_129 ⟨Nat.le_of_ble_eq_true rfl, Nat.le_of_ble_eq_true rfl⟩ (fun v11 w12 H locs hp10 hP hD hS => ?_)
                obtain ⟨rfl, rfl⟩ := hp10
                have hP : va_P D vwCl [(b0, .inr (0, [.ref bb, .ref bd, .ref bm, .ref bl, .ref bf, .ref ba, .ref bk, .ref bg, .int (nI n)])), (bb, .inl (cI, 24, .inl (nF (((up FB b (FG (am FG (FF b) (FM b - 2))))))))), (bd, .inl (cI, 24, .inl (nF (if ((FM b) - (am FG (FF b) (FM b - 2) + 1 - FF b)) = 1 then (if (am FG (FF b) (FM b - 2) + 1 - FF b) = 1 then FD else up FD (b + 1) (if (b + 1) = 0 then 0 else FD ((b + 1) - 1) + 1)) else up (if (am FG (FF b) (FM b - 2) + 1 - FF b) = 1 then FD else up FD (b + 1) (if (b + 1) = 0 then 0 else FD ((b + 1) - 1) + 1)) (b + (am FG (FF b) (FM b - 2) + 1 - FF b)) (if (b + 1) = 0 then 0 else (if (am FG (FF b) (FM b - 2) + 1 - FF b) = 1 then FD else up FD (b + 1) (if (b + 1) = 0 then 0 else FD ((b + 1) - 1) + 1)) ((b + 1) - 1) + 1))))), (bm, .inl (cI, 24, .inl (nF (if ((FM b) - (am FG (FF b) (FM b - 2) + 1 - FF b)) = 1 then (if (am FG (FF b) (FM b - 2) + 1 - FF b) = 1 then FM else up FM (b + 1) (am FG (FF b) (FM b - 2) + 1 - FF b)) else up (if (am FG (FF b) (FM b - 2) + 1 - FF b) = 1 then FM else up FM (b + 1) (am FG (FF b) (FM b - 2) + 1 - FF b)) (b + (am FG (FF b) (FM b - 2) + 1 - FF b)) ((FM b) - (am FG (FF b) (FM b - 2) + 1 - FF b)))))), (bl, .inl (cI, 24, .inl (nF (((up FL b (am FG (FF b) (FM b - 2) + 1 - FF b))))))), (bf, .inl (cI, 24, .inl (nF (if ((FM b) - (am FG (FF b) (FM b - 2) + 1 - FF b)) = 1 then (if (am FG (FF b) (FM b - 2) + 1 - FF b) = 1 then FF else up FF (b + 1) (FF b)) else up (if (am FG (FF b) (FM b - 2) + 1 - FF b) = 1 then FF else up FF (b + 1) (FF b)) (b + (am FG (FF b) (FM b - 2) + 1 - FF b)) ((FF b) + (am FG (FF b) (FM b - 2) + 1 - FF b)))))), (ba, .inl (cI, 24, .inl (oF (if ((FM b) - (am FG (FF b) (FM b - 2) + 1 - FF b)) = 1 then (if (am FG (FF b) (FM b - 2) + 1 - FF b) = 1 then FA else up FA (b + 1) (b + 1)) else up (if (am FG (FF b) (FM b - 2) + 1 - FF b) = 1 then FA else up FA (b + 1) (b + 1)) (b + (am FG (FF b) (FM b - 2) + 1 - FF b)) (b + 1))))), (bk, .inl (cI, 24, .inl (oF (if ((FM b) - (am FG (FF b) (FM b - 2) + 1 - FF b)) = 1 then up (if (am FG (FF b) (FM b - 2) + 1 - FF b) = 1 then up FK (FF b) (b + 1) else FK) ((FF b) + (am FG (FF b) (FM b - 2) + 1 - FF b)) (b + 1) else (if (am FG (FF b) (FM b - 2) + 1 - FF b) = 1 then up FK (FF b) (b + 1) else FK))))), (bg, .inl (cI, 24, .inl (nF FG))), (k0, .inr (1, [.ref kl, .ref ks, .ref kw, .int (nI n)])), (kl, .inl (cJ, 24, .inr (.inl (lF KL)))), (ks, .inl (cI, 24, .inl (nF KS))), (kw, .inl (cI, 24, .inl (nF KW)))] H := hP.sub [4, 5, 6, 7, 8, 9, 10, 11, 12, 0, 1, 2, 3] rfl
                have hD : va_D AA [(b0, .inr (0, [.ref bb, .ref bd, .ref bm, .ref bl, .ref bf, .ref ba, .ref bk, .ref bg, .int (nI n)])), (bb, .inl (cI, 24, .inl (nF (((up FB b (FG (am FG (FF b) (FM b - 2))))))))), (bd, .inl (cI, 24, .inl (nF (if ((FM b) - (am FG (FF b) (FM b - 2) + 1 - FF b)) = 1 then (if (am FG (FF b) (FM b - 2) + 1 - FF b) = 1 then FD else up FD (b + 1) (if (b + 1) = 0 then 0 else FD ((b + 1) - 1) + 1)) else up (if (am FG (FF b) (FM b - 2) + 1 - FF b) = 1 then FD else up FD (b + 1) (if (b + 1) = 0 then 0 else FD ((b + 1) - 1) + 1)) (b + (am FG (FF b) (FM b - 2) + 1 - FF b)) (if (b + 1) = 0 then 0 else (if (am FG (FF b) (FM b - 2) + 1 - FF b) = 1 then FD else up FD (b + 1) (if (b + 1) = 0 then 0 else FD ((b + 1) - 1) + 1)) ((b + 1) - 1) + 1))))), (bm, .inl (cI, 24, .inl (nF (if ((FM b) - (am FG (FF b) (FM b - 2) + 1 - FF b)) = 1 then (if (am FG (FF b) (FM b - 2) + 1 - FF b) = 1 then FM else up FM (b + 1) (am FG (FF b) (FM b - 2) + 1 - FF b)) else up (if (am FG (FF b) (FM b - 2) + 1 - FF b) = 1 then FM else up FM (b + 1) (am FG (FF b) (FM b - 2) + 1 - FF b)) (b + (am FG (FF b) (FM b - 2) + 1 - FF b)) ((FM b) - (am FG (FF b) (FM b - 2) + 1 - FF b)))))), (bl, .inl (cI, 24, .inl (nF (((up FL b (am FG (FF b) (FM b - 2) + 1 - FF b))))))), (bf, .inl (cI, 24, .inl (nF (if ((FM b) - (am FG (FF b) (FM b - 2) + 1 - FF b)) = 1 then (if (am FG (FF b) (FM b - 2) + 1 - FF b) = 1 then FF else up FF (b + 1) (FF b)) else up (if (am FG (FF b) (FM b - 2) + 1 - FF b) = 1 then FF else up FF (b + 1) (FF b)) (b + (am FG (FF b) (FM b - 2) + 1 - FF b)) ((FF b) + (am FG (FF b) (FM b - 2) + 1 - FF b)))))), (ba, .inl (cI, 24, .inl (oF (if ((FM b) - (am FG (FF b) (FM b - 2) + 1 - FF b)) = 1 then (if (am FG (FF b) (FM b - 2) + 1 - FF b) = 1 then FA else up FA (b + 1) (b + 1)) else up (if (am FG (FF b) (FM b - 2) + 1 - FF b) = 1 then FA else up FA (b + 1) (b + 1)) (b + (am FG (FF b) (FM b - 2) + 1 - FF b)) (b + 1))))), (bk, .inl (cI, 24, .inl (oF (if ((FM b) - (am FG (FF b) (FM b - 2) + 1 - FF b)) = 1 then up (if (am FG (FF b) (FM b - 2) + 1 - FF b) = 1 then up FK (FF b) (b + 1) else FK) ((FF b) + (am FG (FF b) (FM b - 2) + 1 - FF b)) (b + 1) else (if (am FG (FF b) (FM b - 2) + 1 - FF b) = 1 then up FK (FF b) (b + 1) else FK))))), (bg, .inl (cI, 24, .inl (nF FG))), (k0, .inr (1, [.ref kl, .ref ks, .ref kw, .int (nI n)])), (kl, .inl (cJ, 24, .inr (.inl (lF KL)))), (ks, .inl (cI, 24, .inl (nF KS))), (kw, .inl (cI, 24, .inl (nF KW)))] := hD.sub [4, 5, 6, 7, 8, 9, 10, 11, 12, 0, 1, 2, 3] (by decide) rfl
                refine lv_iinc (v := nI (b + 1)) (lv' := [(2, .int (nI (b + 1))), (0, .ref b0), (1, .ref k0)]) hx hb dX0_grow_132 hl (k := 2) rfl (nI_add b 1) (by decide) rfl (fun ls hl => ?_)
                refine lv_goto (tgt := 60) hx hb dX0_grow_135 (by decide) ?_
                exact ih60 (b + 1) (((up FB b (FG (am FG (FF b) (FM b - 2)))))) (if ((FM b) - (am FG (FF b) (FM b - 2) + 1 - FF b)) = 1 then (if (am FG (FF b) (FM b - 2) + 1 - FF b) = 1 then FD else up FD (b + 1) (if (b + 1) = 0 then 0 else FD ((b + 1) - 1) + 1)) else up (if (am FG (FF b) (FM b - 2) + 1 - FF b) = 1 then FD else up FD (b + 1) (if (b + 1) = 0 then 0 else FD ((b + 1) - 1) + 1)) (b + (am FG (FF b) (FM b - 2) + 1 - FF b)) (if (b + 1) = 0 then 0 else (if (am FG (FF b) (FM b - 2) + 1 - FF b) = 1 then FD else up FD (b + 1) (if (b + 1) = 0 then 0 else FD ((b + 1) - 1) + 1)) ((b + 1) - 1) + 1)) (if ((FM b) - (am FG (FF b) (FM b - 2) + 1 - FF b)) = 1 then (if (am FG (FF b) (FM b - 2) + 1 - FF b) = 1 then FM else up FM (b + 1) (am FG (FF b) (FM b - 2) + 1 - FF b)) else up (if (am FG (FF b) (FM b - 2) + 1 - FF b) = 1 then FM else up FM (b + 1) (am FG (FF b) (FM b - 2) + 1 - FF b)) (b + (am FG (FF b) (FM b - 2) + 1 - FF b)) ((FM b) - (am FG (FF b) (FM b - 2) + 1 - FF b))) (((up FL b (am FG (FF b) (FM b - 2) + 1 - FF b)))) (if ((FM b) - (am FG (FF b) (FM b - 2) + 1 - FF b)) = 1 then (if (am FG (FF b) (FM b - 2) + 1 - FF b) = 1 then FF else up FF (b + 1) (FF b)) else up (if (am FG (FF b) (FM b - 2) + 1 - FF b) = 1 then FF else up FF (b + 1) (FF b)) (b + (am FG (FF b) (FM b - 2) + 1 - FF b)) ((FF b) + (am FG (FF b) (FM b - 2) + 1 - FF b))) (if ((FM b) - (am FG (FF b) (FM b - 2) + 1 - FF b)) = 1 then (if (am FG (FF b) (FM b - 2) + 1 - FF b) = 1 then FA else up FA (b + 1) (b + 1)) else up (if (am FG (FF b) (FM b - 2) + 1 - FF b) = 1 then FA else up FA (b + 1) (b + 1)) (b + (am FG (FF b) (FM b - 2) + 1 - FF b)) (b + 1)) (if ((FM b) - (am FG (FF b) (FM b - 2) + 1 - FF b)) = 1 then up (if (am FG (FF b) (FM b - 2) + 1 - FF b) = 1 then up FK (FF b) (b + 1) else FK) ((FF b) + (am FG (FF b) (FM b - 2) + 1 - FF b)) (b + 1) else (if (am FG (FF b) (FM b - 2) + 1 - FF b) = 1 then up FK (FF b) (b + 1) else FK)) _ _ ls (by omega) (by omega) (fun c hc hu => by have := gs1 hb2 hnd hDp I1 c hc hu; rw [← ez, ← hF, ← hM] at this; exact this) (fun c hc hcb => by by_cases e : c = b; subst e; rw [up_eq, up_eq, hnd, hF, hM]; exact ⟨rfl, rfl⟩; rw [up_ne _ _ e, up_ne _ _ e]; exact I2 c hc (by omega)) (fun k hk2 hu => by have := gs3 hb2 hnd I3 k hk2 hu; rw [← ez, ← hF, ← hM] at this; exact this) hP hD hS (lv_sub hl [1, 2, 0] rfl)
          exact loop60 _ 0 BB BD BM BL BF BA BK _ _ ls (Nat.lt_succ_self _) (Nat.zero_le _) (fun c hc _ => absurd hc (by omega)) (fun c _ h => absurd h (Nat.not_lt_zero _)) (fun k hk2 _ => absurd hk2 (by omega)) hP hD hS (lv_sub hl [1, 2, 0] rfl)
        ·
          refine lv_aload_n hx hb dX0_grow_47 rfl (lv_at hl 0 rfl) ?_
          refine lv_iconst (v := nI 0) hx hb dX0_grow_48 (by decide +kernel) ?_
          refine lv_iconst (v := nI 0) hx hb dX0_grow_49 (by decide +kernel) ?_
          refine lv_aload_n hx hb dX0_grow_50 rfl (lv_at hl 0 rfl) ?_
          refine va_get (D := D) (ci := 0) (v := .int (nI n)) (C := RX0) (T := TX0) (N := 9) hx hb hts inX0 hown hK hP 0 rfl rfl 8 (by decide) (hts _ mf_X0_36) (fun _ h9 => h9) rfl dX0_grow_51 ?_
          refine lv_iconst (v := oI 0) hx hb dX0_grow_54 (by decide +kernel) ?_
          refine wr_V (As := [.int (nI 0), .int (nI 0), .int (nI n), .int (oI 0)]) (rest := []) (wc := [(b0, .inr (0, [.ref bb, .ref bd, .ref bm, .ref bl, .ref bf, .ref ba, .ref bk, .ref bg, .int (nI n)])), (bb, .inl (cI, 24, .inl (nF BB))), (bd, .inl (cI, 24, .inl (nF BD))), (bm, .inl (cI, 24, .inl (nF BM))), (bl, .inl (cI, 24, .inl (nF BL))), (bf, .inl (cI, 24, .inl (nF BF))), (ba, .inl (cI, 24, .inl (oF BA))), (bk, .inl (cI, 24, .inl (oF BK))), (bg, .inl (cI, 24, .inl (nF FG)))]) (wr := [(k0, .inr (1, [.ref kl, .ref ks, .ref kw, .int (nI n)])), (kl, .inl (cJ, 24, .inr (.inl (lF KL)))), (ks, .inl (cI, 24, .inl (nF KS))), (kw, .inl (cI, 24, .inl (nF KW)))]) ⟨hx, hb, hml, hown, hts⟩ (c_X0_hang l D cI cJ cZ b0 bb bd bm bl bf ba bk bg BB BD BM BL BF BA BK FG n (by omega) 0 0 n 0 (by omega) (fun _ => by omega) (by omega) (by omega) (by omega) _) (k_X0_56 hts ⟨Nat.le_of_ble_eq_true rfl, Nat.le_of_ble_eq_true rfl⟩) hK hN hP hD hS hAA 0 rfl rfl rfl [0, 1, 2, 3, 4, 5, 6, 7, 8] [9, 10, 11, 12] rfl rfl (by decide) (by decide) (by decide) rfl hl.1 rfl (Nat.le_of_ble_eq_true rfl) dX0_grow_55 ⟨Nat.le_of_ble_eq_true rfl, Nat.le_of_ble_eq_true rfl⟩ (fun v14 w15 H locs hp13 hP hD hS => ?_)
          obtain ⟨rfl, rfl⟩ := hp13
          have hP : va_P D vwCl [(b0, .inr (0, [.ref bb, .ref bd, .ref bm, .ref bl, .ref bf, .ref ba, .ref bk, .ref bg, .int (nI n)])), (bb, .inl (cI, 24, .inl (nF BB))), (bd, .inl (cI, 24, .inl (nF (if n = 1 then BD else up BD 0 (if 0 = 0 then 0 else BD (0 - 1) + 1))))), (bm, .inl (cI, 24, .inl (nF (if n = 1 then BM else up BM 0 n)))), (bl, .inl (cI, 24, .inl (nF BL))), (bf, .inl (cI, 24, .inl (nF (if n = 1 then BF else up BF 0 0)))), (ba, .inl (cI, 24, .inl (oF (if n = 1 then BA else up BA 0 0)))), (bk, .inl (cI, 24, .inl (oF (if n = 1 then up BK 0 0 else BK)))), (bg, .inl (cI, 24, .inl (nF FG))), (k0, .inr (1, [.ref kl, .ref ks, .ref kw, .int (nI n)])), (kl, .inl (cJ, 24, .inr (.inl (lF KL)))), (ks, .inl (cI, 24, .inl (nF KS))), (kw, .inl (cI, 24, .inl (nF KW)))] H := hP.sub [4, 5, 6, 7, 8, 9, 10, 11, 12, 0, 1, 2, 3] rfl
          have hD : va_D AA [(b0, .inr (0, [.ref bb, .ref bd, .ref bm, .ref bl, .ref bf, .ref ba, .ref bk, .ref bg, .int (nI n)])), (bb, .inl (cI, 24, .inl (nF BB))), (bd, .inl (cI, 24, .inl (nF (if n = 1 then BD else up BD 0 (if 0 = 0 then 0 else BD (0 - 1) + 1))))), (bm, .inl (cI, 24, .inl (nF (if n = 1 then BM else up BM 0 n)))), (bl, .inl (cI, 24, .inl (nF BL))), (bf, .inl (cI, 24, .inl (nF (if n = 1 then BF else up BF 0 0)))), (ba, .inl (cI, 24, .inl (oF (if n = 1 then BA else up BA 0 0)))), (bk, .inl (cI, 24, .inl (oF (if n = 1 then up BK 0 0 else BK)))), (bg, .inl (cI, 24, .inl (nF FG))), (k0, .inr (1, [.ref kl, .ref ks, .ref kw, .int (nI n)])), (kl, .inl (cJ, 24, .inr (.inl (lF KL)))), (ks, .inl (cI, 24, .inl (nF KS))), (kw, .inl (cI, 24, .inl (nF KW)))] := hD.sub [4, 5, 6, 7, 8, 9, 10, 11, 12, 0, 1, 2, 3] (by decide) rfl
          refine lv_iconst (v := nI 0) hx hb dX0_grow_58 (by decide +kernel) ?_
          refine lv_istore_n (lv' := [(2, .int (nI 0)), (0, .ref b0), (1, .ref k0)]) hx hb dX0_grow_59 rfl hl (by decide) rfl (fun ls hl => ?_)
          have loop60 : ∀ (d : Nat) (b : Nat) (FB : Nat → Nat) (FD : Nat → Nat) (FM : Nat → Nat) (FL : Nat → Nat) (FF : Nat → Nat) (FA : Nat → Nat) (FK : Nat → Nat) (H : Heap) (locs : List Loc) (ls : Array Slot), n - b < d → (b ≤ n - 1) → (∀ c, c + 1 < n → (nd FG n c).2.2.2 ≤ b → (FF c, FM c, FD c, FA c) = nd FG n c) → (∀ c, c + 1 < n → c < b → FB c = FG (am FG (nd FG n c).1 ((nd FG n c).2.1 - 2)) ∧ FL c = lef FG (nd FG n c).1 (nd FG n c).2.1) → (∀ k, k < n → (lf FG n k).2 ≤ b → FK k = (lf FG n k).2) → va_P D vwCl [(b0, .inr (0, [.ref bb, .ref bd, .ref bm, .ref bl, .ref bf, .ref ba, .ref bk, .ref bg, .int (nI n)])), (bb, .inl (cI, 24, .inl (nF FB))), (bd, .inl (cI, 24, .inl (nF FD))), (bm, .inl (cI, 24, .inl (nF FM))), (bl, .inl (cI, 24, .inl (nF FL))), (bf, .inl (cI, 24, .inl (nF FF))), (ba, .inl (cI, 24, .inl (oF FA))), (bk, .inl (cI, 24, .inl (oF FK))), (bg, .inl (cI, 24, .inl (nF FG))), (k0, .inr (1, [.ref kl, .ref ks, .ref kw, .int (nI n)])), (kl, .inl (cJ, 24, .inr (.inl (lF KL)))), (ks, .inl (cI, 24, .inl (nF KS))), (kw, .inl (cI, 24, .inl (nF KW)))] H → va_D AA [(b0, .inr (0, [.ref bb, .ref bd, .ref bm, .ref bl, .ref bf, .ref ba, .ref bk, .ref bg, .int (nI n)])), (bb, .inl (cI, 24, .inl (nF FB))), (bd, .inl (cI, 24, .inl (nF FD))), (bm, .inl (cI, 24, .inl (nF FM))), (bl, .inl (cI, 24, .inl (nF FL))), (bf, .inl (cI, 24, .inl (nF FF))), (ba, .inl (cI, 24, .inl (oF FA))), (bk, .inl (cI, 24, .inl (oF FK))), (bg, .inl (cI, 24, .inl (nF FG))), (k0, .inr (1, [.ref kl, .ref ks, .ref kw, .int (nI n)])), (kl, .inl (cJ, 24, .inr (.inl (lF KL)))), (ks, .inl (cI, 24, .inl (nF KS))), (kw, .inl (cI, 24, .inl (nF KW)))] → va_S AA ss.heap H locs → lv_has ls 3 [(0, .ref b0), (1, .ref k0), (2, .int (nI b))] → W pp l ee (rmN 4 86) ss mm [.ref b0, .ref k0].toArray below meth cd H locs 0 0 (MQ below (QW D AA (fun x w => x = none ∧ ∃ FB FD FM FL FF FA FK FG : Nat → Nat, w = [(b0, .inr (0, [.ref bb, .ref bd, .ref bm, .ref bl, .ref bf, .ref ba, .ref bk, .ref bg, .int (nI n)])), (bb, .inl (cI, 24, .inl (nF FB))), (bd, .inl (cI, 24, .inl (nF FD))), (bm, .inl (cI, 24, .inl (nF FM))), (bl, .inl (cI, 24, .inl (nF FL))), (bf, .inl (cI, 24, .inl (nF FF))), (ba, .inl (cI, 24, .inl (oF FA))), (bk, .inl (cI, 24, .inl (oF FK))), (bg, .inl (cI, 24, .inl (nF FG))), (k0, .inr (1, [.ref kl, .ref ks, .ref kw, .int (nI n)])), (kl, .inl (cJ, 24, .inr (.inl (lF KL)))), (ks, .inl (cI, 24, .inl (nF KS))), (kw, .inl (cI, 24, .inl (nF KW)))] ∧ TrX (gapF KS KL) n FB FD FM FL FF FA FK)) [.ref b0, .ref k0].toArray ss 0 0 AA) (F0 mm 60 ls []) := by
            intro d
            induction d with
            | zero => intro b FB FD FM FL FF FA FK H locs ls h; exact absurd h (Nat.not_lt_zero _)
            | succ d ih60 =>
              intro b FB FD FM FL FF FA FK H locs ls hd60 hbn I1 I2 I3 hP hD hS hl
              refine lv_iload_n hx hb dX0_grow_60 rfl (lv_at hl 2 rfl) ?_
              refine lv_aload_n hx hb dX0_grow_61 rfl (lv_at hl 0 rfl) ?_
              refine ro_V (As := []) (rest := [.int (nI b)]) ⟨hx, hb, hml, hown, hts⟩ (c_X0_count l D cI cJ cZ b0 bb bd bm bl bf ba bk bg FB FD FM FL FF FA FK FG n (by omega) ) (k_X0_46 hts ⟨Nat.le_of_ble_eq_true rfl, Nat.le_of_ble_eq_true rfl⟩) hK hP 0 rfl rfl rfl [0, 1, 2, 3, 4, 5, 6, 7, 8] rfl rfl hl.1 rfl (Nat.le_of_ble_eq_true rfl) dX0_grow_62 ⟨Nat.le_of_ble_eq_true rfl, Nat.le_of_ble_eq_true rfl⟩ ?_
              refine n_ge (tgt := 138) hx hb dX0_grow_65 (by decide) (by omega) (by omega) (fun c16 => ?_) (fun c16 => ?_)
              ·
                exact wr_vret hx hb hr hlk hP hD hS dX0_grow_138 (⟨rfl, FB, FD, FM, FL, FF, FA, FK, FG, rfl, TrX_congr hFG ⟨fun c hc => ⟨I1 c hc (by have := (nd_prop hc (show nd FG n c = ((nd FG n c).1, (nd FG n c).2.1, (nd FG n c).2.2.1, (nd FG n c).2.2.2) from rfl)).2.2.2; omega), I2 c hc (by omega)⟩, fun k hk2 => I3 k hk2 (by rcases Nat.lt_or_ge n 2 with g | g; rw [show n = 1 by omega, lf_1]; exact Nat.zero_le _; have := lf_le (G := FG) g hk2; omega)⟩⟩)
              ·
                have hb2 : b + 1 < n := by omega
                obtain ⟨f, q, d0, u, hnd⟩ : ∃ f q d0 u, nd FG n b = (f, q, d0, u) := ⟨_, _, _, _, rfl⟩
                have hpr := nd_prop hb2 hnd
                have hI := I1 b hb2 (by rw [hnd]; exact hpr.2.2.2)
                rw [hnd] at hI
                have hF : FF b = f := congrArg (fun x : Nat × Nat × Nat × Nat => x.1) hI
                have hM : FM b = q := congrArg (fun x : Nat × Nat × Nat × Nat => x.2.1) hI
                have hDp : FD b = d0 := congrArg (fun x : Nat × Nat × Nat × Nat => x.2.2.1) hI
                have hzz := lef_in FG (f := f) (m := q) hpr.1
                have ez : am FG (FF b) (FM b - 2) + 1 - FF b = lef FG f q := by rw [hF, hM]; rfl
                refine lv_aload_n hx hb dX0_grow_68 rfl (lv_at hl 0 rfl) ?_
                refine lv_iload_n hx hb dX0_grow_69 rfl (lv_at hl 2 rfl) ?_
                refine wr_V (As := [.int (nI b)]) (rest := []) (wc := [(b0, .inr (0, [.ref bb, .ref bd, .ref bm, .ref bl, .ref bf, .ref ba, .ref bk, .ref bg, .int (nI n)])), (bb, .inl (cI, 24, .inl (nF FB))), (bd, .inl (cI, 24, .inl (nF FD))), (bm, .inl (cI, 24, .inl (nF FM))), (bl, .inl (cI, 24, .inl (nF FL))), (bf, .inl (cI, 24, .inl (nF FF))), (ba, .inl (cI, 24, .inl (oF FA))), (bk, .inl (cI, 24, .inl (oF FK))), (bg, .inl (cI, 24, .inl (nF FG)))]) (wr := [(k0, .inr (1, [.ref kl, .ref ks, .ref kw, .int (nI n)])), (kl, .inl (cJ, 24, .inr (.inl (lF KL)))), (ks, .inl (cI, 24, .inl (nF KS))), (kw, .inl (cI, 24, .inl (nF KW)))]) ⟨hx, hb, hml, hown, hts⟩ (c_X0_split l D cI cJ cZ b0 bb bd bm bl bf ba bk bg FB FD FM FL FF FA FK FG n b (by omega) (by omega) (by omega) (fun k hk => by rw [hFG k (by omega)]; exact unl_le _ _ _ _) _) (k_X0_60 hts ⟨Nat.le_of_ble_eq_true rfl, Nat.le_of_ble_eq_true rfl⟩) hK hN hP hD hS hAA 0 rfl rfl rfl [0, 1, 2, 3, 4, 5, 6, 7, 8] [9, 10, 11, 12] rfl rfl (by decide) (by decide) (by decide) rfl hl.1 rfl (Nat.le_of_ble_eq_true rfl) dX0_grow_70 ⟨Nat.le_of_ble_eq_true rfl, Nat.le_of_ble_eq_true rfl⟩ (fun v18 w19 H locs hp17 hP hD hS => ?_)
                obtain ⟨rfl, rfl⟩ := hp17
                have hP : va_P D vwCl [(b0, .inr (0, [.ref bb, .ref bd, .ref bm, .ref bl, .ref bf, .ref ba, .ref bk, .ref bg, .int (nI n)])), (bb, .inl (cI, 24, .inl (nF (up FB b (FG (am FG (FF b) (FM b - 2))))))), (bd, .inl (cI, 24, .inl (nF FD))), (bm, .inl (cI, 24, .inl (nF FM))), (bl, .inl (cI, 24, .inl (nF (up FL b (am FG (FF b) (FM b - 2) + 1 - FF b))))), (bf, .inl (cI, 24, .inl (nF FF))), (ba, .inl (cI, 24, .inl (oF FA))), (bk, .inl (cI, 24, .inl (oF FK))), (bg, .inl (cI, 24, .inl (nF FG))), (k0, .inr (1, [.ref kl, .ref ks, .ref kw, .int (nI n)])), (kl, .inl (cJ, 24, .inr (.inl (lF KL)))), (ks, .inl (cI, 24, .inl (nF KS))), (kw, .inl (cI, 24, .inl (nF KW)))] H := hP.sub [4, 5, 6, 7, 8, 9, 10, 11, 12, 0, 1, 2, 3] rfl
                have hD : va_D AA [(b0, .inr (0, [.ref bb, .ref bd, .ref bm, .ref bl, .ref bf, .ref ba, .ref bk, .ref bg, .int (nI n)])), (bb, .inl (cI, 24, .inl (nF (up FB b (FG (am FG (FF b) (FM b - 2))))))), (bd, .inl (cI, 24, .inl (nF FD))), (bm, .inl (cI, 24, .inl (nF FM))), (bl, .inl (cI, 24, .inl (nF (up FL b (am FG (FF b) (FM b - 2) + 1 - FF b))))), (bf, .inl (cI, 24, .inl (nF FF))), (ba, .inl (cI, 24, .inl (oF FA))), (bk, .inl (cI, 24, .inl (oF FK))), (bg, .inl (cI, 24, .inl (nF FG))), (k0, .inr (1, [.ref kl, .ref ks, .ref kw, .int (nI n)])), (kl, .inl (cJ, 24, .inr (.inl (lF KL)))), (ks, .inl (cI, 24, .inl (nF KS))), (kw, .inl (cI, 24, .inl (nF KW)))] := hD.sub [4, 5, 6, 7, 8, 9, 10, 11, 12, 0, 1, 2, 3] (by decide) rfl
                refine lv_aload_n hx hb dX0_grow_73 rfl (lv_at hl 0 rfl) ?_
                refine lv_iload_n hx hb dX0_grow_74 rfl (lv_at hl 2 rfl) ?_
                refine lv_iconst (v := nI 1) hx hb dX0_grow_75 (by decide +kernel) ?_
                refine n_iadd hx hb dX0_grow_76 ?_
                refine lv_aload_n hx hb dX0_grow_77 rfl (lv_at hl 0 rfl) ?_
                refine va_get (D := D) (ci := 0) (v := .ref bf) (C := RX0) (T := TX0) (N := 9) hx hb hts inX0 hown hK hP 0 rfl rfl 4 (by decide) (hts _ mf_X0_24) (fun _ h9 => h9) rfl dX0_grow_78 ?_
                refine lv_iload_n hx hb dX0_grow_81 rfl (lv_at hl 2 rfl) ?_
                refine n_iald hx hb hK hP 5 0 rfl rfl (k := b) (by omega) (by decide) dX0_grow_82 ?_
                refine lv_aload_n hx hb dX0_grow_83 rfl (lv_at hl 0 rfl) ?_
                refine va_get (D := D) (ci := 0) (v := .ref bl) (C := RX0) (T := TX0) (N := 9) hx hb hts inX0 hown hK hP 0 rfl rfl 3 (by decide) (hts _ mf_X0_21) (fun _ h9 => h9) rfl dX0_grow_84 ?_
                refine lv_iload_n hx hb dX0_grow_87 rfl (lv_at hl 2 rfl) ?_
                refine n_iald hx hb hK hP 4 0 rfl rfl (k := b) (by omega) (by decide) dX0_grow_88 ?_
                refine tq (y := nI (am FG (FF b) (FM b - 2) + 1 - FF b)) (congrArg nI (up_eq _ _ _)) ?_
                refine lv_iload_n hx hb dX0_grow_89 rfl (lv_at hl 2 rfl) ?_
                refine tq (y := oI (b + 1)) (oI_s _).symm ?_
                refine wr_V (As := [.int (nI (b + 1)), .int (nI (FF b)), .int (nI (am FG (FF b) (FM b - 2) + 1 - FF b)), .int (oI (b + 1))]) (rest := []) (wc := [(b0, .inr (0, [.ref bb, .ref bd, .ref bm, .ref bl, .ref bf, .ref ba, .ref bk, .ref bg, .int (nI n)])), (bb, .inl (cI, 24, .inl (nF (up FB b (FG (am FG (FF b) (FM b - 2))))))), (bd, .inl (cI, 24, .inl (nF FD))), (bm, .inl (cI, 24, .inl (nF FM))), (bl, .inl (cI, 24, .inl (nF (up FL b (am FG (FF b) (FM b - 2) + 1 - FF b))))), (bf, .inl (cI, 24, .inl (nF FF))), (ba, .inl (cI, 24, .inl (oF FA))), (bk, .inl (cI, 24, .inl (oF FK))), (bg, .inl (cI, 24, .inl (nF FG)))]) (wr := [(k0, .inr (1, [.ref kl, .ref ks, .ref kw, .int (nI n)])), (kl, .inl (cJ, 24, .inr (.inl (lF KL)))), (ks, .inl (cI, 24, .inl (nF KS))), (kw, .inl (cI, 24, .inl (nF KW)))]) ⟨hx, hb, hml, hown, hts⟩ (c_X0_hang l D cI cJ cZ b0 bb bd bm bl bf ba bk bg (up FB b (FG (am FG (FF b) (FM b - 2)))) FD FM (up FL b (am FG (FF b) (FM b - 2) + 1 - FF b)) FF FA FK FG n (by omega) (b + 1) (FF b) (am FG (FF b) (FM b - 2) + 1 - FF b) (b + 1) (by omega) (fun _ => by omega) (by omega) (by omega) (by omega) _) (k_X0_56 hts ⟨Nat.le_of_ble_eq_true rfl, Nat.le_of_ble_eq_true rfl⟩) hK hN hP hD hS hAA 0 rfl rfl rfl [0, 1, 2, 3, 4, 5, 6, 7, 8] [9, 10, 11, 12] rfl rfl (by decide) (by decide) (by decide) rfl hl.1 rfl (Nat.le_of_ble_eq_true rfl) dX0_grow_90 ⟨Nat.le_of_ble_eq_true rfl, Nat.le_of_ble_eq_true rfl⟩ (fun v21 w22 H locs hp20 hP hD hS => ?_)
                obtain ⟨rfl, rfl⟩ := hp20
                have hP : va_P D vwCl [(b0, .inr (0, [.ref bb, .ref bd, .ref bm, .ref bl, .ref bf, .ref ba, .ref bk, .ref bg, .int (nI n)])), (bb, .inl (cI, 24, .inl (nF ((up FB b (FG (am FG (FF b) (FM b - 2)))))))), (bd, .inl (cI, 24, .inl (nF (if (am FG (FF b) (FM b - 2) + 1 - FF b) = 1 then FD else up FD (b + 1) (if (b + 1) = 0 then 0 else FD ((b + 1) - 1) + 1))))), (bm, .inl (cI, 24, .inl (nF (if (am FG (FF b) (FM b - 2) + 1 - FF b) = 1 then FM else up FM (b + 1) (am FG (FF b) (FM b - 2) + 1 - FF b))))), (bl, .inl (cI, 24, .inl (nF ((up FL b (am FG (FF b) (FM b - 2) + 1 - FF b)))))), (bf, .inl (cI, 24, .inl (nF (if (am FG (FF b) (FM b - 2) + 1 - FF b) = 1 then FF else up FF (b + 1) (FF b))))), (ba, .inl (cI, 24, .inl (oF (if (am FG (FF b) (FM b - 2) + 1 - FF b) = 1 then FA else up FA (b + 1) (b + 1))))), (bk, .inl (cI, 24, .inl (oF (if (am FG (FF b) (FM b - 2) + 1 - FF b) = 1 then up FK (FF b) (b + 1) else FK)))), (bg, .inl (cI, 24, .inl (nF FG))), (k0, .inr (1, [.ref kl, .ref ks, .ref kw, .int (nI n)])), (kl, .inl (cJ, 24, .inr (.inl (lF KL)))), (ks, .inl (cI, 24, .inl (nF KS))), (kw, .inl (cI, 24, .inl (nF KW)))] H := hP.sub [4, 5, 6, 7, 8, 9, 10, 11, 12, 0, 1, 2, 3] rfl
                have hD : va_D AA [(b0, .inr (0, [.ref bb, .ref bd, .ref bm, .ref bl, .ref bf, .ref ba, .ref bk, .ref bg, .int (nI n)])), (bb, .inl (cI, 24, .inl (nF ((up FB b (FG (am FG (FF b) (FM b - 2)))))))), (bd, .inl (cI, 24, .inl (nF (if (am FG (FF b) (FM b - 2) + 1 - FF b) = 1 then FD else up FD (b + 1) (if (b + 1) = 0 then 0 else FD ((b + 1) - 1) + 1))))), (bm, .inl (cI, 24, .inl (nF (if (am FG (FF b) (FM b - 2) + 1 - FF b) = 1 then FM else up FM (b + 1) (am FG (FF b) (FM b - 2) + 1 - FF b))))), (bl, .inl (cI, 24, .inl (nF ((up FL b (am FG (FF b) (FM b - 2) + 1 - FF b)))))), (bf, .inl (cI, 24, .inl (nF (if (am FG (FF b) (FM b - 2) + 1 - FF b) = 1 then FF else up FF (b + 1) (FF b))))), (ba, .inl (cI, 24, .inl (oF (if (am FG (FF b) (FM b - 2) + 1 - FF b) = 1 then FA else up FA (b + 1) (b + 1))))), (bk, .inl (cI, 24, .inl (oF (if (am FG (FF b) (FM b - 2) + 1 - FF b) = 1 then up FK (FF b) (b + 1) else FK)))), (bg, .inl (cI, 24, .inl (nF FG))), (k0, .inr (1, [.ref kl, .ref ks, .ref kw, .int (nI n)])), (kl, .inl (cJ, 24, .inr (.inl (lF KL)))), (ks, .inl (cI, 24, .inl (nF KS))), (kw, .inl (cI, 24, .inl (nF KW)))] := hD.sub [4, 5, 6, 7, 8, 9, 10, 11, 12, 0, 1, 2, 3] (by decide) rfl
                refine lv_aload_n hx hb dX0_grow_93 rfl (lv_at hl 0 rfl) ?_
                refine lv_iload_n hx hb dX0_grow_94 rfl (lv_at hl 2 rfl) ?_
                refine lv_aload_n hx hb dX0_grow_95 rfl (lv_at hl 0 rfl) ?_
                refine va_get (D := D) (ci := 0) (v := .ref bl) (C := RX0) (T := TX0) (N := 9) hx hb hts inX0 hown hK hP 0 rfl rfl 3 (by decide) (hts _ mf_X0_21) (fun _ h9 => h9) rfl dX0_grow_96 ?_
                refine lv_iload_n hx hb dX0_grow_99 rfl (lv_at hl 2 rfl) ?_
                refine n_iald hx hb hK hP 4 0 rfl rfl (k := b) (by omega) (by decide) dX0_grow_100 ?_
                refine tq (y := nI (am FG (FF b) (FM b - 2) + 1 - FF b)) (congrArg nI (up_eq _ _ _)) ?_
                refine n_iadd hx hb dX0_grow_101 ?_
                refine lv_aload_n hx hb dX0_grow_102 rfl (lv_at hl 0 rfl) ?_
                refine va_get (D := D) (ci := 0) (v := .ref bf) (C := RX0) (T := TX0) (N := 9) hx hb hts inX0 hown hK hP 0 rfl rfl 4 (by decide) (hts _ mf_X0_24) (fun _ h9 => h9) rfl dX0_grow_103 ?_
                refine lv_iload_n hx hb dX0_grow_106 rfl (lv_at hl 2 rfl) ?_
                refine n_iald hx hb hK hP 5 0 rfl rfl (k := b) (by omega) (by decide) dX0_grow_107 ?_
                refine tq (y := nI (FF b)) (congrArg nI (ifup_ne (by omega))) ?_
                refine lv_aload_n hx hb dX0_grow_108 rfl (lv_at hl 0 rfl) ?_
                refine va_get (D := D) (ci := 0) (v := .ref bl) (C := RX0) (T := TX0) (N := 9) hx hb hts inX0 hown hK hP 0 rfl rfl 3 (by decide) (hts _ mf_X0_21) (fun _ h9 => h9) rfl dX0_grow_109 ?_
                refine lv_iload_n hx hb dX0_grow_112 rfl (lv_at hl 2 rfl) ?_
                refine n_iald hx hb hK hP 4 0 rfl rfl (k := b) (by omega) (by decide) dX0_grow_113 ?_
                refine tq (y := nI (am FG (FF b) (FM b - 2) + 1 - FF b)) (congrArg nI (up_eq _ _ _)) ?_
                refine n_iadd hx hb dX0_grow_114 ?_
                refine lv_aload_n hx hb dX0_grow_115 rfl (lv_at hl 0 rfl) ?_
                refine va_get (D := D) (ci := 0) (v := .ref bm) (C := RX0) (T := TX0) (N := 9) hx hb hts inX0 hown hK hP 0 rfl rfl 2 (by decide) (hts _ mf_X0_18) (fun _ h9 => h9) rfl dX0_grow_116 ?_
                refine lv_iload_n hx hb dX0_grow_119 rfl (lv_at hl 2 rfl) ?_
                refine n_iald hx hb hK hP 3 0 rfl rfl (k := b) (by omega) (by decide) dX0_grow_120 ?_
                refine tq (y := nI (FM b)) (congrArg nI (ifup_ne (by omega))) ?_
                refine lv_aload_n hx hb dX0_grow_121 rfl (lv_at hl 0 rfl) ?_
                refine va_get (D := D) (ci := 0) (v := .ref bl) (C := RX0) (T := TX0) (N := 9) hx hb hts inX0 hown hK hP 0 rfl rfl 3 (by decide) (hts _ mf_X0_21) (fun _ h9 => h9) rfl dX0_grow_122 ?_
                refine lv_iload_n hx hb dX0_grow_125 rfl (lv_at hl 2 rfl) ?_
                refine n_iald hx hb hK hP 4 0 rfl rfl (k := b) (by omega) (by decide) dX0_grow_126 ?_
                refine tq (y := nI (am FG (FF b) (FM b - 2) + 1 - FF b)) (congrArg nI (up_eq _ _ _)) ?_
                refine n_isub hx hb dX0_grow_127 (by omega) ?_
                refine lv_iload_n hx hb dX0_grow_128 rfl (lv_at hl 2 rfl) ?_
                refine tq (y := oI (b + 1)) (oI_s _).symm ?_
                refine wr_V (As := [.int (nI (b + (am FG (FF b) (FM b - 2) + 1 - FF b))), .int (nI ((FF b) + (am FG (FF b) (FM b - 2) + 1 - FF b))), .int (nI ((FM b) - (am FG (FF b) (FM b - 2) + 1 - FF b))), .int (oI (b + 1))]) (rest := []) (wc := [(b0, .inr (0, [.ref bb, .ref bd, .ref bm, .ref bl, .ref bf, .ref ba, .ref bk, .ref bg, .int (nI n)])), (bb, .inl (cI, 24, .inl (nF ((up FB b (FG (am FG (FF b) (FM b - 2)))))))), (bd, .inl (cI, 24, .inl (nF (if (am FG (FF b) (FM b - 2) + 1 - FF b) = 1 then FD else up FD (b + 1) (if (b + 1) = 0 then 0 else FD ((b + 1) - 1) + 1))))), (bm, .inl (cI, 24, .inl (nF (if (am FG (FF b) (FM b - 2) + 1 - FF b) = 1 then FM else up FM (b + 1) (am FG (FF b) (FM b - 2) + 1 - FF b))))), (bl, .inl (cI, 24, .inl (nF ((up FL b (am FG (FF b) (FM b - 2) + 1 - FF b)))))), (bf, .inl (cI, 24, .inl (nF (if (am FG (FF b) (FM b - 2) + 1 - FF b) = 1 then FF else up FF (b + 1) (FF b))))), (ba, .inl (cI, 24, .inl (oF (if (am FG (FF b) (FM b - 2) + 1 - FF b) = 1 then FA else up FA (b + 1) (b + 1))))), (bk, .inl (cI, 24, .inl (oF (if (am FG (FF b) (FM b - 2) + 1 - FF b) = 1 then up FK (FF b) (b + 1) else FK)))), (bg, .inl (cI, 24, .inl (nF FG)))]) (wr := [(k0, .inr (1, [.ref kl, .ref ks, .ref kw, .int (nI n)])), (kl, .inl (cJ, 24, .inr (.inl (lF KL)))), (ks, .inl (cI, 24, .inl (nF KS))), (kw, .inl (cI, 24, .inl (nF KW)))]) ⟨hx, hb, hml, hown, hts⟩ (c_X0_hang l D cI cJ cZ b0 bb bd bm bl bf ba bk bg ((up FB b (FG (am FG (FF b) (FM b - 2))))) (if (am FG (FF b) (FM b - 2) + 1 - FF b) = 1 then FD else up FD (b + 1) (if (b + 1) = 0 then 0 else FD ((b + 1) - 1) + 1)) (if (am FG (FF b) (FM b - 2) + 1 - FF b) = 1 then FM else up FM (b + 1) (am FG (FF b) (FM b - 2) + 1 - FF b)) ((up FL b (am FG (FF b) (FM b - 2) + 1 - FF b))) (if (am FG (FF b) (FM b - 2) + 1 - FF b) = 1 then FF else up FF (b + 1) (FF b)) (if (am FG (FF b) (FM b - 2) + 1 - FF b) = 1 then FA else up FA (b + 1) (b + 1)) (if (am FG (FF b) (FM b - 2) + 1 - FF b) = 1 then up FK (FF b) (b + 1) else FK) FG n (by omega) (b + (am FG (FF b) (FM b - 2) + 1 - FF b)) ((FF b) + (am FG (FF b) (FM b - 2) + 1 - FF b)) ((FM b) - (am FG (FF b) (FM b - 2) + 1 - FF b)) (b + 1) (by omega) (fun _ => by omega) (by omega) (by omega) (by omega) _) (k_X0_56 hts ⟨Nat.le_of_ble_eq_true rfl, Nat.le_of_ble_eq_true rfl⟩) hK hN hP hD hS hAA 0 rfl rfl rfl [0, 1, 2, 3, 4, 5, 6, 7, 8] [9, 10, 11, 12] rfl rfl (by decide) (by decide) (by decide) rfl hl.1 rfl (Nat.le_of_ble_eq_true rfl) dX0_grow_129 ⟨Nat.le_of_ble_eq_true rfl, Nat.le_of_ble_eq_true rfl⟩ (fun v24 w25 H locs hp23 hP hD hS => ?_)
                obtain ⟨rfl, rfl⟩ := hp23
                have hP : va_P D vwCl [(b0, .inr (0, [.ref bb, .ref bd, .ref bm, .ref bl, .ref bf, .ref ba, .ref bk, .ref bg, .int (nI n)])), (bb, .inl (cI, 24, .inl (nF (((up FB b (FG (am FG (FF b) (FM b - 2))))))))), (bd, .inl (cI, 24, .inl (nF (if ((FM b) - (am FG (FF b) (FM b - 2) + 1 - FF b)) = 1 then (if (am FG (FF b) (FM b - 2) + 1 - FF b) = 1 then FD else up FD (b + 1) (if (b + 1) = 0 then 0 else FD ((b + 1) - 1) + 1)) else up (if (am FG (FF b) (FM b - 2) + 1 - FF b) = 1 then FD else up FD (b + 1) (if (b + 1) = 0 then 0 else FD ((b + 1) - 1) + 1)) (b + (am FG (FF b) (FM b - 2) + 1 - FF b)) (if (b + 1) = 0 then 0 else (if (am FG (FF b) (FM b - 2) + 1 - FF b) = 1 then FD else up FD (b + 1) (if (b + 1) = 0 then 0 else FD ((b + 1) - 1) + 1)) ((b + 1) - 1) + 1))))), (bm, .inl (cI, 24, .inl (nF (if ((FM b) - (am FG (FF b) (FM b - 2) + 1 - FF b)) = 1 then (if (am FG (FF b) (FM b - 2) + 1 - FF b) = 1 then FM else up FM (b + 1) (am FG (FF b) (FM b - 2) + 1 - FF b)) else up (if (am FG (FF b) (FM b - 2) + 1 - FF b) = 1 then FM else up FM (b + 1) (am FG (FF b) (FM b - 2) + 1 - FF b)) (b + (am FG (FF b) (FM b - 2) + 1 - FF b)) ((FM b) - (am FG (FF b) (FM b - 2) + 1 - FF b)))))), (bl, .inl (cI, 24, .inl (nF (((up FL b (am FG (FF b) (FM b - 2) + 1 - FF b))))))), (bf, .inl (cI, 24, .inl (nF (if ((FM b) - (am FG (FF b) (FM b - 2) + 1 - FF b)) = 1 then (if (am FG (FF b) (FM b - 2) + 1 - FF b) = 1 then FF else up FF (b + 1) (FF b)) else up (if (am FG (FF b) (FM b - 2) + 1 - FF b) = 1 then FF else up FF (b + 1) (FF b)) (b + (am FG (FF b) (FM b - 2) + 1 - FF b)) ((FF b) + (am FG (FF b) (FM b - 2) + 1 - FF b)))))), (ba, .inl (cI, 24, .inl (oF (if ((FM b) - (am FG (FF b) (FM b - 2) + 1 - FF b)) = 1 then (if (am FG (FF b) (FM b - 2) + 1 - FF b) = 1 then FA else up FA (b + 1) (b + 1)) else up (if (am FG (FF b) (FM b - 2) + 1 - FF b) = 1 then FA else up FA (b + 1) (b + 1)) (b + (am FG (FF b) (FM b - 2) + 1 - FF b)) (b + 1))))), (bk, .inl (cI, 24, .inl (oF (if ((FM b) - (am FG (FF b) (FM b - 2) + 1 - FF b)) = 1 then up (if (am FG (FF b) (FM b - 2) + 1 - FF b) = 1 then up FK (FF b) (b + 1) else FK) ((FF b) + (am FG (FF b) (FM b - 2) + 1 - FF b)) (b + 1) else (if (am FG (FF b) (FM b - 2) + 1 - FF b) = 1 then up FK (FF b) (b + 1) else FK))))), (bg, .inl (cI, 24, .inl (nF FG))), (k0, .inr (1, [.ref kl, .ref ks, .ref kw, .int (nI n)])), (kl, .inl (cJ, 24, .inr (.inl (lF KL)))), (ks, .inl (cI, 24, .inl (nF KS))), (kw, .inl (cI, 24, .inl (nF KW)))] H := hP.sub [4, 5, 6, 7, 8, 9, 10, 11, 12, 0, 1, 2, 3] rfl
                have hD : va_D AA [(b0, .inr (0, [.ref bb, .ref bd, .ref bm, .ref bl, .ref bf, .ref ba, .ref bk, .ref bg, .int (nI n)])), (bb, .inl (cI, 24, .inl (nF (((up FB b (FG (am FG (FF b) (FM b - 2))))))))), (bd, .inl (cI, 24, .inl (nF (if ((FM b) - (am FG (FF b) (FM b - 2) + 1 - FF b)) = 1 then (if (am FG (FF b) (FM b - 2) + 1 - FF b) = 1 then FD else up FD (b + 1) (if (b + 1) = 0 then 0 else FD ((b + 1) - 1) + 1)) else up (if (am FG (FF b) (FM b - 2) + 1 - FF b) = 1 then FD else up FD (b + 1) (if (b + 1) = 0 then 0 else FD ((b + 1) - 1) + 1)) (b + (am FG (FF b) (FM b - 2) + 1 - FF b)) (if (b + 1) = 0 then 0 else (if (am FG (FF b) (FM b - 2) + 1 - FF b) = 1 then FD else up FD (b + 1) (if (b + 1) = 0 then 0 else FD ((b + 1) - 1) + 1)) ((b + 1) - 1) + 1))))), (bm, .inl (cI, 24, .inl (nF (if ((FM b) - (am FG (FF b) (FM b - 2) + 1 - FF b)) = 1 then (if (am FG (FF b) (FM b - 2) + 1 - FF b) = 1 then FM else up FM (b + 1) (am FG (FF b) (FM b - 2) + 1 - FF b)) else up (if (am FG (FF b) (FM b - 2) + 1 - FF b) = 1 then FM else up FM (b + 1) (am FG (FF b) (FM b - 2) + 1 - FF b)) (b + (am FG (FF b) (FM b - 2) + 1 - FF b)) ((FM b) - (am FG (FF b) (FM b - 2) + 1 - FF b)))))), (bl, .inl (cI, 24, .inl (nF (((up FL b (am FG (FF b) (FM b - 2) + 1 - FF b))))))), (bf, .inl (cI, 24, .inl (nF (if ((FM b) - (am FG (FF b) (FM b - 2) + 1 - FF b)) = 1 then (if (am FG (FF b) (FM b - 2) + 1 - FF b) = 1 then FF else up FF (b + 1) (FF b)) else up (if (am FG (FF b) (FM b - 2) + 1 - FF b) = 1 then FF else up FF (b + 1) (FF b)) (b + (am FG (FF b) (FM b - 2) + 1 - FF b)) ((FF b) + (am FG (FF b) (FM b - 2) + 1 - FF b)))))), (ba, .inl (cI, 24, .inl (oF (if ((FM b) - (am FG (FF b) (FM b - 2) + 1 - FF b)) = 1 then (if (am FG (FF b) (FM b - 2) + 1 - FF b) = 1 then FA else up FA (b + 1) (b + 1)) else up (if (am FG (FF b) (FM b - 2) + 1 - FF b) = 1 then FA else up FA (b + 1) (b + 1)) (b + (am FG (FF b) (FM b - 2) + 1 - FF b)) (b + 1))))), (bk, .inl (cI, 24, .inl (oF (if ((FM b) - (am FG (FF b) (FM b - 2) + 1 - FF b)) = 1 then up (if (am FG (FF b) (FM b - 2) + 1 - FF b) = 1 then up FK (FF b) (b + 1) else FK) ((FF b) + (am FG (FF b) (FM b - 2) + 1 - FF b)) (b + 1) else (if (am FG (FF b) (FM b - 2) + 1 - FF b) = 1 then up FK (FF b) (b + 1) else FK))))), (bg, .inl (cI, 24, .inl (nF FG))), (k0, .inr (1, [.ref kl, .ref ks, .ref kw, .int (nI n)])), (kl, .inl (cJ, 24, .inr (.inl (lF KL)))), (ks, .inl (cI, 24, .inl (nF KS))), (kw, .inl (cI, 24, .inl (nF KW)))] := hD.sub [4, 5, 6, 7, 8, 9, 10, 11, 12, 0, 1, 2, 3] (by decide) rfl
                refine lv_iinc (v := nI (b + 1)) (lv' := [(2, .int (nI (b + 1))), (0, .ref b0), (1, .ref k0)]) hx hb dX0_grow_132 hl (k := 2) rfl (nI_add b 1) (by decide) rfl (fun ls hl => ?_)
                refine lv_goto (tgt := 60) hx hb dX0_grow_135 (by decide) ?_
                exact ih60 (b + 1) (((up FB b (FG (am FG (FF b) (FM b - 2)))))) (if ((FM b) - (am FG (FF b) (FM b - 2) + 1 - FF b)) = 1 then (if (am FG (FF b) (FM b - 2) + 1 - FF b) = 1 then FD else up FD (b + 1) (if (b + 1) = 0 then 0 else FD ((b + 1) - 1) + 1)) else up (if (am FG (FF b) (FM b - 2) + 1 - FF b) = 1 then FD else up FD (b + 1) (if (b + 1) = 0 then 0 else FD ((b + 1) - 1) + 1)) (b + (am FG (FF b) (FM b - 2) + 1 - FF b)) (if (b + 1) = 0 then 0 else (if (am FG (FF b) (FM b - 2) + 1 - FF b) = 1 then FD else up FD (b + 1) (if (b + 1) = 0 then 0 else FD ((b + 1) - 1) + 1)) ((b + 1) - 1) + 1)) (if ((FM b) - (am FG (FF b) (FM b - 2) + 1 - FF b)) = 1 then (if (am FG (FF b) (FM b - 2) + 1 - FF b) = 1 then FM else up FM (b + 1) (am FG (FF b) (FM b - 2) + 1 - FF b)) else up (if (am FG (FF b) (FM b - 2) + 1 - FF b) = 1 then FM else up FM (b + 1) (am FG (FF b) (FM b - 2) + 1 - FF b)) (b + (am FG (FF b) (FM b - 2) + 1 - FF b)) ((FM b) - (am FG (FF b) (FM b - 2) + 1 - FF b))) (((up FL b (am FG (FF b) (FM b - 2) + 1 - FF b)))) (if ((FM b) - (am FG (FF b) (FM b - 2) + 1 - FF b)) = 1 then (if (am FG (FF b) (FM b - 2) + 1 - FF b) = 1 then FF else up FF (b + 1) (FF b)) else up (if (am FG (FF b) (FM b - 2) + 1 - FF b) = 1 then FF else up FF (b + 1) (FF b)) (b + (am FG (FF b) (FM b - 2) + 1 - FF b)) ((FF b) + (am FG (FF b) (FM b - 2) + 1 - FF b))) (if ((FM b) - (am FG (FF b) (FM b - 2) + 1 - FF b)) = 1 then (if (am FG (FF b) (FM b - 2) + 1 - FF b) = 1 then FA else up FA (b + 1) (b + 1)) else up (if (am FG (FF b) (FM b - 2) + 1 - FF b) = 1 then FA else up FA (b + 1) (b + 1)) (b + (am FG (FF b) (FM b - 2) + 1 - FF b)) (b + 1)) (if ((FM b) - (am FG (FF b) (FM b - 2) + 1 - FF b)) = 1 then up (if (am FG (FF b) (FM b - 2) + 1 - FF b) = 1 then up FK (FF b) (b + 1) else FK) ((FF b) + (am FG (FF b) (FM b - 2) + 1 - FF b)) (b + 1) else (if (am FG (FF b) (FM b - 2) + 1 - FF b) = 1 then up FK (FF b) (b + 1) else FK)) _ _ ls (by omega) (by omega) (fun c hc hu => by have := gs1 hb2 hnd hDp I1 c hc hu; rw [← ez, ← hF, ← hM] at this; exact this) (fun c hc hcb => by by_cases e : c = b; subst e; rw [up_eq, up_eq, hnd, hF, hM]; exact ⟨rfl, rfl⟩; rw [up_ne _ _ e, up_ne _ _ e]; exact I2 c hc (by omega)) (fun k hk2 hu => by have := gs3 hb2 hnd I3 k hk2 hu; rw [← ez, ← hF, ← hM] at this; exact this) hP hD hS (lv_sub hl [1, 2, 0] rfl)
          exact loop60 _ 0 BB (if n = 1 then BD else up BD 0 (if 0 = 0 then 0 else BD (0 - 1) + 1)) (if n = 1 then BM else up BM 0 n) BL (if n = 1 then BF else up BF 0 0) (if n = 1 then BA else up BA 0 0) (if n = 1 then up BK 0 0 else BK) _ _ ls (Nat.lt_succ_self _) (Nat.zero_le _) (fun c hc hu => by have e := gs0 hc hu; subst e; rw [nd_0]; have n1 : ¬ n = 1 := (by omega); simp only [if_neg n1, up_eq]; rfl) (fun c _ h => absurd h (Nat.not_lt_zero _)) (fun k hk2 hu => by by_cases n1 : n = 1; (subst n1; rw [lf_1, show k = 0 by omega, if_pos rfl, up_eq]); exact (gs4 (by omega) hk2 hu).elim) hP hD hS (lv_sub hl [1, 2, 0] rfl)
      ·
        refine lv_aload_n hx hb dX0_grow_20 rfl (lv_at hl 0 rfl) ?_
        refine va_get (D := D) (ci := 0) (v := .ref bg) (C := RX0) (T := TX0) (N := 9) hx hb hts inX0 hown hK hP 0 rfl rfl 7 (by decide) (hts _ mf_X0_33) (fun _ h9 => h9) rfl dX0_grow_21 ?_
        refine lv_iload_n hx hb dX0_grow_24 rfl (lv_at hl 2 rfl) ?_
        refine lv_aload_n hx hb dX0_grow_25 rfl (lv_at hl 1 rfl) ?_
        refine lv_iload_n hx hb dX0_grow_26 rfl (lv_at hl 2 rfl) ?_
        refine lv_iload_n hx hb dX0_grow_27 rfl (lv_at hl 2 rfl) ?_
        refine lv_iconst (v := nI 1) hx hb dX0_grow_28 (by decide +kernel) ?_
        refine n_iadd hx hb dX0_grow_29 ?_
        refine ro_V (As := [.int (nI i), .int (nI (i + 1))]) (rest := [.int (nI i), .ref bg]) ⟨hx, hb, hml, hown, hts⟩ (c_X1_firstUnlike l D cI cJ cZ k0 kl ks kw KL KS KW n (by omega) i (i + 1) (by omega) (by omega) (hk _ (by omega)) (hk _ (by omega))) (k_X0_53 hts ⟨Nat.le_of_ble_eq_true rfl, Nat.le_of_ble_eq_true rfl⟩) hK hP 9 rfl rfl rfl [9, 10, 11, 12] rfl rfl hl.1 rfl (Nat.le_of_ble_eq_true rfl) dX0_grow_30 ⟨Nat.le_of_ble_eq_true rfl, Nat.le_of_ble_eq_true rfl⟩ ?_
        refine n_iast hx hb hK hP hD hS 8 0 rfl rfl (k := i) (v := (unl (KS i) (KL i) (KS (i + 1)) (KL (i + 1)))) (by omega) (by decide) dX0_grow_33 (fun H locs hP hD hS => ?_)
        have hP : va_P D vwCl [(b0, .inr (0, [.ref bb, .ref bd, .ref bm, .ref bl, .ref bf, .ref ba, .ref bk, .ref bg, .int (nI n)])), (bb, .inl (cI, 24, .inl (nF BB))), (bd, .inl (cI, 24, .inl (nF BD))), (bm, .inl (cI, 24, .inl (nF BM))), (bl, .inl (cI, 24, .inl (nF BL))), (bf, .inl (cI, 24, .inl (nF BF))), (ba, .inl (cI, 24, .inl (oF BA))), (bk, .inl (cI, 24, .inl (oF BK))), (bg, .inl (cI, 24, .inl (nF (up FG i (unl (KS i) (KL i) (KS (i + 1)) (KL (i + 1))))))), (k0, .inr (1, [.ref kl, .ref ks, .ref kw, .int (nI n)])), (kl, .inl (cJ, 24, .inr (.inl (lF KL)))), (ks, .inl (cI, 24, .inl (nF KS))), (kw, .inl (cI, 24, .inl (nF KW)))] H := hP
        have hD : va_D AA [(b0, .inr (0, [.ref bb, .ref bd, .ref bm, .ref bl, .ref bf, .ref ba, .ref bk, .ref bg, .int (nI n)])), (bb, .inl (cI, 24, .inl (nF BB))), (bd, .inl (cI, 24, .inl (nF BD))), (bm, .inl (cI, 24, .inl (nF BM))), (bl, .inl (cI, 24, .inl (nF BL))), (bf, .inl (cI, 24, .inl (nF BF))), (ba, .inl (cI, 24, .inl (oF BA))), (bk, .inl (cI, 24, .inl (oF BK))), (bg, .inl (cI, 24, .inl (nF (up FG i (unl (KS i) (KL i) (KS (i + 1)) (KL (i + 1))))))), (k0, .inr (1, [.ref kl, .ref ks, .ref kw, .int (nI n)])), (kl, .inl (cJ, 24, .inr (.inl (lF KL)))), (ks, .inl (cI, 24, .inl (nF KS))), (kw, .inl (cI, 24, .inl (nF KW)))] := hD
        refine lv_iinc (v := nI (i + 1)) (lv' := [(2, .int (nI (i + 1))), (0, .ref b0), (1, .ref k0)]) hx hb dX0_grow_34 hl (k := 2) rfl (nI_add i 1) (by decide) rfl (fun ls hl => ?_)
        refine lv_goto (tgt := 10) hx hb dX0_grow_37 (by decide) ?_
        exact ih10 (i + 1) (up FG i (unl (KS i) (KL i) (KS (i + 1)) (KL (i + 1)))) _ _ ls (by omega) (by omega) (fun k h => by by_cases e : k = i; rw [e, up_eq]; rfl; rw [up_ne _ _ e]; exact hg k (by omega)) hP hD hS (lv_sub hl [1, 2, 0] rfl)
  exact loop10 _ 0 BG _ _ ls (Nat.lt_succ_self _) (Nat.zero_le _) (fun k h => absurd h (Nat.not_lt_zero _)) hP hD hS (lv_sub hl [1, 2, 0] rfl)
