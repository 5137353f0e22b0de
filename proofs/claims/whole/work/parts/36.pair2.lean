set_option maxHeartbeats 4000000 in
set_option maxRecDepth 100000 in
theorem p_seed (l : Launch) (D : va_G) (cI cJ cZ : ClassId) (x0 w0 d0 k0 kl ks kw b0 bb bd bm bl bf ba bk bg p0 h0 hl1 hs1 hw1 hc1 i0 il1 is1 iw1 ic1 ik it m0 nw ps im mk wd so mb ma mf mw ml mu wt ty : Nat) (C : Co) (d : Dt) (T : Ms) (hC : CI C) (hd : OkT C d) (hT : Sim C T) (x : Int32) : Pr l D cI cJ cZ x0 w0 d0 k0 kl ks kw b0 bb bd bm bl bf ba bk bg p0 h0 hl1 hs1 hw1 hc1 i0 il1 is1 iw1 ic1 ik it m0 nw ps im mk wd so mb ma mf mw ml mu wt ty yX5_seed cX5_seed 3 (rmN 0 0) yX6_seed cX6_seed 3 (rmN 0 0) [.int x] C d T := by
  obtain ⟨A, s, KL, KS, KW, n, nx, pz, HL, HS, HW, HC, IL, IS, IW, IC, IK, IT, sd⟩ := C
  obtain ⟨dA, dz, BB, BD, BM, BL, BF, BA, BK, BG⟩ := d
  obtain ⟨NW, PS, IM, WD, SO, q, EB, EA, EF, EW, EL, EU, br, WT, ww, TY⟩ := T
  have hw0 : Wf s A := hC.1
  have hKO : KOK KS KL KW n := hC.2.1
  have hnx : nx < 20 := hC.2.2.1
  have hpz : pz ≤ 20 := hC.2.2.2.1
  have hsd : sd < 2 ^ 31 := hC.2.2.2.2.1
  have him : ∀ j, j < 2 → (IK j = 0 ∨ IK j = 1) ∧ IT j < 2 ^ 31 := hC.2.2.2.2.2
  have hTr : TrX (gapF KS KL) n BB BD BM BL BF BA BK := hd
  have hR : RN NW KS KL KW n := hT.1
  have hRW : RW WD s A := hT.2.1
  have hSP : SimP nx pz HL HS HW HC PS := hT.2.2.1
  have hIm : Img IS IL IW IC IK IT IM := hT.2.2.2
  have hn := hKO.1
  have hk := hKO.2.1
  have hv := hKO.2.2.1
  have hso := hKO.2.2.2
  rcases neg_or x with hx0 | ⟨j, hj, rfl⟩
  · exact pr_ro l D cI cJ cZ x0 w0 d0 k0 kl ks kw b0 bb bd bm bl bf ba bk bg p0 h0 hl1 hs1 hw1 hc1 i0 il1 is1 iw1 ic1 ik it m0 nw ps im mk wd so mb ma mf mw ml mu wt ty hC hd hT (c_X5_seed_neg l D cI cJ cZ x0 w0 d0 k0 kl ks kw b0 bb bd bm bl bf ba bk bg p0 h0 hl1 hs1 hw1 hc1 i0 il1 is1 iw1 ic1 ik it A s dA dz KL KS KW n BB BD BM BL BF BA BK BG nx pz HL HS HW HC IL IS IW IC IK IT sd hn hw0 hk hv hso hTr hnx hpz hsd x hx0) (c_X6_seed_neg l D cI cJ cZ m0 nw ps im mk wd so mb ma mf mw ml mu wt ty NW PS pz IM IK sd WD s SO q EB EA EF EW EL EU br WT ww TY KS KL KW n A hn hk hw0 hR hRW hso BB BD BM BL BF BA BK hTr hv x hx0)
  · exact ⟨nI sd, (A, s, KL, KS, KW, n, nx, pz, HL, HS, HW, HC, IL, IS, IW, IC, IK, IT, j), ⟨hw0, hKO, hnx, hpz, hj, him⟩, fun sz => wr_mono (c_X5_seed_ok l D cI cJ cZ x0 w0 d0 k0 kl ks kw b0 bb bd bm bl bf ba bk bg p0 h0 hl1 hs1 hw1 hc1 i0 il1 is1 iw1 ic1 ik it A s dA dz KL KS KW n BB BD BM BL BF BA BK BG nx pz HL HS HW HC IL IS IW IC IK IT sd hn hw0 hk hv hso hTr hnx hpz hsd j hj sz) (fun v w h => by
    exact ⟨h.1, (dA, dz, BB, BD, BM, BL, BF, BA, BK, BG), h.2, hTr⟩), fun sz => wr_mono (c_X6_seed_ok l D cI cJ cZ m0 nw ps im mk wd so mb ma mf mw ml mu wt ty NW PS pz IM IK sd WD s SO q EB EA EF EW EL EU br WT ww TY KS KL KW n A hn hk hw0 hR hRW hso BB BD BM BL BF BA BK hTr hv j hj sz) (fun v w h => by
    obtain ⟨h1, SO, q, EB, EA, EF, EW, EL, EU, br, WT, ww, h2⟩ := h
    exact ⟨h1, (NW, PS, IM, WD, SO, q, EB, EA, EF, EW, EL, EU, br, WT, ww, TY), h2, ⟨hR, hRW, hSP, hIm⟩⟩)⟩
theorem ok_start : CI (0, 0, (fun _ => 0), (fun _ => 0), (fun _ => 0), 0, 0, 0, (fun _ => 0), (fun _ => 0), (fun _ => 0), (fun _ => 0), (fun _ => 0), (fun _ => 0), (fun _ => 0), (fun _ => 0), (fun _ => 0), (fun _ => 0), 0) ∧ OkT (0, 0, (fun _ => 0), (fun _ => 0), (fun _ => 0), 0, 0, 0, (fun _ => 0), (fun _ => 0), (fun _ => 0), (fun _ => 0), (fun _ => 0), (fun _ => 0), (fun _ => 0), (fun _ => 0), (fun _ => 0), (fun _ => 0), 0) (0, 0, (fun _ => 0), (fun _ => 0), (fun _ => 0), (fun _ => 0), (fun _ => 0), (fun _ => 1), (fun _ => 1), (fun _ => 0)) ∧ Sim (0, 0, (fun _ => 0), (fun _ => 0), (fun _ => 0), 0, 0, 0, (fun _ => 0), (fun _ => 0), (fun _ => 0), (fun _ => 0), (fun _ => 0), (fun _ => 0), (fun _ => 0), (fun _ => 0), (fun _ => 0), (fun _ => 0), 0) ((fun _ => 0), (fun _ => 0), (fun _ => 0), (fun _ => 0), (fun _ => 0), 0, (fun _ => 0), (fun _ => 0), (fun _ => 0), (fun _ => 0), (fun _ => 0), (fun _ => 1), 0, (fun _ => 1), 0, (fun _ => 0)) := by
  refine ⟨⟨wf_0, ⟨Nat.zero_le _, fun k h => absurd h (Nat.not_lt_zero _), fun k h => absurd h (Nat.not_lt_zero _), fun k h => absurd h (Nat.not_lt_zero _)⟩, by decide, by decide, by decide, fun j _ => ⟨Or.inl rfl, Nat.two_pow_pos 31⟩⟩, ⟨fun b h => absurd h (Nat.not_lt_zero _), fun k h => absurd h (Nat.not_lt_zero _)⟩, ⟨rfl, fun k h => absurd h (Nat.not_lt_zero _)⟩, fun i h => absurd h (Nat.not_lt_zero _), fun j h => absurd h (Nat.not_lt_zero _), fun j _ h => absurd h (by show ¬ 0 = 1; decide)⟩
