/-! SD 17: the calls that read -/
theorem sx_wm {Q : Int32 → Prop} {v : Int32} {L : Nat} (hL : L < 2 ^ 31) (q1 : sd_lt L v → Q 1) (q0 : ¬ sd_lt L v → Q 0) : wpX_within Q v 0 (nI L - 1) := by
  cases L with
  | zero =>
    refine sx_w (fun a b => absurd b ?_) (fun _ => q0 (fun z => ?_))
    · have e1 : nI 0 - 1 = (-1 : Int32) := by decide
      rw [e1]
      intro z
      exact Int32.not_lt.mpr a (Int32.lt_of_le_of_lt z (by decide))
    · obtain ⟨r, hr, _⟩ := z
      omega
  | succ l =>
    rw [nI_pred]
    exact sx_w0 l hL q1 q0
theorem i_vc_peek {k : Nat} {u : SX} {v : SY} (I : i_Rel k u v) (hk : k + 5 ≤ 2560) (v1 : Int32) : wpX_peek (fun r => wpY_peek (fun r' => r' = r ∧ i_Rel (k + 5) u v) v v1) u v1 := by
  have J : i_Rel (k + 5) u v := I
  obtain ⟨L, S, F, t, k0, od, nc, li, la, fe, oo, dd, aa, bb, rg, wd, uc, lt, rc, ls, rw, rr, uw, br, st, nu, kd, tg, fs, sc, bk, is, rd, ac, ry, wr, un, pk, rfl, rfl, C, hk0, ok, R⟩ := I
  unfold wpX_peek
  dsimp only
  refine sx_w0 31 (by omega) (fun g => br_f (by decide) ?_) (fun g => br_t rfl ?_)
  · have w : vp_in v1 32 := by
      obtain ⟨q, hq, rfl⟩ := g
      exact vp_in_nI hq (by omega)
    refine ⟨w, ?_⟩
    unfold wpY_peek
    dsimp only
    exact sy_w 32 (by omega) (fun _ => br_f (by decide) ⟨w, rfl, J⟩) (fun z => absurd g z)
  · unfold wpY_peek
    dsimp only
    exact sy_w 32 (by omega) (fun z => absurd z g) (fun _ => br_t rfl ⟨rfl, J⟩)
theorem i_vc_value {k : Nat} {u : SX} {v : SY} (I : i_Rel k u v) (hk : k + 5 ≤ 2560) (v1 : Int32) : wpX_value (fun r => wpY_value (fun r' => r' = r ∧ i_Rel (k + 5) u v) v v1) u v1 := by
  have J : i_Rel (k + 5) u v := I
  obtain ⟨L, S, F, t, k0, od, nc, li, la, fe, oo, dd, aa, bb, rg, wd, uc, lt, rc, ls, rw, rr, uw, br, st, nu, kd, tg, fs, sc, bk, is, rd, ac, ry, wr, un, pk, rfl, rfl, C, hk0, ok, R⟩ := I
  unfold wpX_value
  dsimp only
  refine sx_reg (fun g => br_f (by decide) ?_) (fun g => br_t rfl ?_)
  · have w : vp_in v1 8 := by
      obtain ⟨q, hq, rfl⟩ := g
      exact vp_in_nI hq (by omega)
    refine ⟨w, ?_⟩
    unfold wpY_value
    dsimp only
    exact sy_w 8 (by omega) (fun _ => br_f (by decide) ⟨w, rfl, J⟩) (fun z => absurd g z)
  · unfold wpY_value
    dsimp only
    exact sy_w 8 (by omega) (fun z => absurd z g) (fun _ => br_t rfl ⟨rfl, J⟩)
theorem i_vc_lost {k : Nat} {u : SX} {v : SY} (I : i_Rel k u v) (hk : k + 5 ≤ 2560) (v1 : Int32) : wpX_lost (fun r => wpY_lost (fun r' => r' = r ∧ i_Rel (k + 5) u v) v v1) u v1 := by
  have J : i_Rel (k + 5) u v := I
  obtain ⟨L, S, F, t, k0, od, nc, li, la, fe, oo, dd, aa, bb, rg, wd, uc, lt, rc, ls, rw, rr, uw, br, st, nu, kd, tg, fs, sc, bk, is, rd, ac, ry, wr, un, pk, rfl, rfl, C, hk0, ok, R⟩ := I
  unfold wpX_lost
  dsimp only
  refine sx_w0 6 (by omega) (fun g => br_f (by decide) ?_) (fun g => br_t rfl ?_)
  · have w : vp_in v1 7 := by
      obtain ⟨q, hq, rfl⟩ := g
      exact vp_in_nI hq (by omega)
    refine ⟨w, ?_⟩
    unfold wpY_lost
    dsimp only
    exact sy_w 7 (by omega) (fun _ => br_f (by decide) ⟨w, rfl, J⟩) (fun z => absurd g z)
  · unfold wpY_lost
    dsimp only
    exact sy_w 7 (by omega) (fun z => absurd z g) (fun _ => br_t rfl ⟨rfl, J⟩)
theorem i_vc_done {k : Nat} {u : SX} {v : SY} (I : i_Rel k u v) (hk : k + 5 ≤ 2560) : wpX_done (fun r => wpY_done (fun r' => r' = r ∧ i_Rel (k + 5) u v) v) u := by
  have J : i_Rel (k + 5) u v := I
  obtain ⟨L, S, F, t, k0, od, nc, li, la, fe, oo, dd, aa, bb, rg, wd, uc, lt, rc, ls, rw, rr, uw, br, st, nu, kd, tg, fs, sc, bk, is, rd, ac, ry, wr, un, pk, rfl, rfl, C, hk0, ok, R⟩ := I
  exact ⟨rfl, J⟩
section SDQ17
variable {len ss ft bt dn lw od nc li la fe : Int32} {oo dd aa bb rg wd uc lt rc ls rw rr uw br st nu kd tg fs sc bk is rd ac ry wr un pk : Nat → Int32}
theorem sy_cyc {post : Int32 → Prop} {k B : Nat} (hk : k ≤ 60) (ok : sd_ok wr k B) (hB : B < 100000) (h : post (nI (sd_LW wr k))) : ∀ d j, j + d = k → wY_cycles_4 post len ss ft bt fe (nI k) oo dd aa bb rg wd uc lt nu kd tg fs sc bk is rd ac ry wr un pk ls (d + 1) (nI (sd_LW wr j)) (nI j) := by
  intro d
  induction d with
  | zero =>
    intro j hj
    have e : j = k := by omega
    subst e
    rw [wY_cycles_4]
    exact br_t (nI_le (Nat.le_refl _) (by omega)) h
  | succ d ih =>
    intro j hj
    have cj : (nI j).toNatClampNeg = j := nI_clamp (by omega)
    have vj : vp_in (nI j) 60 := vp_in_nI (by omega) (by omega)
    obtain ⟨ej, bj⟩ := ok j (by omega)
    have bl : sd_LW wr j ≤ B := sd_LW_b (fun i hi => ok i (by omega))
    have t := ih (j + 1) (by omega)
    have e1 : sd_LW wr (j + 1) = max (sd_LW wr j) (sd_c wr j) := sd_mx_t rfl
    rw [e1] at t
    rw [wY_cycles_4]
    refine br_f (nI_ge (by omega) (by omega)) ⟨vj, ?_⟩
    rw [cj]
    refine pk_le (sd_c wr j) (sd_LW wr j) (fun e => nm_r (nI_1 j) ?_) (fun e => ⟨vj, nm_r ej (nm_r (nI_1 j) ?_)⟩) ej rfl
    · rw [Nat.max_eq_left e] at t
      exact t
    · rw [Nat.max_eq_right (by omega)] at t
      exact t
theorem sd_busy {k : Nat} {a b : Int32} (hk : k ≤ 60) (R : sd_rec k rc nu is rd ry wr un kd) : ∀ (d j : Nat) (x : Int32), j + d = k → ∃ r : Int32, (∀ post : Int32 → Prop, post r → wX_busy_16 post a b len ss ft bt (nI k) lw od nc li la oo dd aa bb rg wd uc lt rc ls rw rr uw br st (d + 1) x (nI j)) ∧ (∀ post : Int32 → Prop, post r → wY_busy_16 post a b len ss ft bt fe (nI k) oo dd aa bb rg wd uc lt nu kd tg fs sc bk is rd ac ry wr un pk ls (d + 1) x (nI j)) := by
  intro d
  induction d with
  | zero =>
    intro j x hj
    refine ⟨x, fun post h => ?_, fun post h => ?_⟩
    · rw [wX_busy_16]
      exact br_t (nI_le (by omega) (by omega)) h
    · rw [wY_busy_16]
      exact br_t (nI_le (by omega) (by omega)) h
  | succ d ih =>
    intro j x hj
    have cj : (nI j).toNatClampNeg = j := nI_clamp (by omega)
    have vj : vp_in (nI j) 60 := vp_in_nI (by omega) (by omega)
    have nj : ¬ nI k ≤ nI j := nI_ge (by omega) (by omega)
    have m7 : nI j * 7 = nI (j * 7) := pk_mul j 7
    have c6 : (nI (j * 7) + 6).toNatClampNeg = j * 7 + 6 := sd_ixc (c := 6) (by omega)
    have c1 : (nI (j * 7) + 1).toNatClampNeg = j * 7 + 1 := sd_ixc (c := 1) (by omega)
    have c4 : (nI (j * 7) + 4).toNatClampNeg = j * 7 + 4 := sd_ixc (c := 4) (by omega)
    have v6 : vp_in (nI (j * 7) + 6) 420 := sd_ixv (c := 6) (by omega) (by omega)
    have v1 : vp_in (nI (j * 7) + 1) 420 := sd_ixv (c := 1) (by omega) (by omega)
    have v4 : vp_in (nI (j * 7) + 4) 420 := sd_ixv (c := 4) (by omega) (by omega)
    obtain ⟨_, e1, _, _, e4, _, e6⟩ := R j (by omega)
    by_cases ga : kd j = a
    · by_cases g : is j ≤ b ∧ b ≤ wr j
      · obtain ⟨r, hX, hY⟩ := ih (j + 1) (x + 1) (by omega)
        refine ⟨r, fun post h => ?_, fun post h => ?_⟩
        · rw [wX_busy_16]
          refine br_f nj (nm_r m7 ⟨v6, ?_⟩)
          rw [c6, e6, c1, e1, c4, e4]
          exact br_t ga ⟨v1, v4, sx_w (fun _ _ => br_f (by decide) (nm_e (nm_r (nI_1 j) (hX post h)))) (fun z => absurd g z)⟩
        · rw [wY_busy_16]
          refine br_f nj ⟨vj, ?_⟩
          rw [cj]
          exact br_t ga ⟨vj, br_f (Int32.not_lt.mpr g.1) ⟨vj, br_f (Int32.not_lt.mpr g.2) (nm_e (nm_r (nI_1 j) (hY post h)))⟩⟩
      · obtain ⟨r, hX, hY⟩ := ih (j + 1) x (by omega)
        refine ⟨r, fun post h => ?_, fun post h => ?_⟩
        · rw [wX_busy_16]
          refine br_f nj (nm_r m7 ⟨v6, ?_⟩)
          rw [c6, e6, c1, e1, c4, e4]
          exact br_t ga ⟨v1, v4, sx_w (fun p q => absurd ⟨p, q⟩ g) (fun _ => br_t rfl (nm_r (nI_1 j) (hX post h)))⟩
        · rw [wY_busy_16]
          refine br_f nj ⟨vj, ?_⟩
          rw [cj]
          exact br_t ga ⟨vj, fun _ => nm_r (nI_1 j) (hY post h), fun p => ⟨vj, fun _ => nm_r (nI_1 j) (hY post h), fun q => absurd ⟨Int32.not_lt.mp p, Int32.not_lt.mp q⟩ g⟩⟩
    · obtain ⟨r, hX, hY⟩ := ih (j + 1) x (by omega)
      refine ⟨r, fun post h => ?_, fun post h => ?_⟩
      · rw [wX_busy_16]
        refine br_f nj (nm_r m7 ⟨v6, ?_⟩)
        rw [c6, e6]
        exact br_f ga (nm_r (nI_1 j) (hX post h))
      · rw [wY_busy_16]
        refine br_f nj ⟨vj, ?_⟩
        rw [cj]
        exact br_f ga (nm_r (nI_1 j) (hY post h))
end SDQ17
theorem i_vc_cycles {k : Nat} {u : SX} {v : SY} (I : i_Rel k u v) (hk : k + 5 ≤ 2560) : wpX_cycles (fun r => wpY_cycles (fun r' => r' = r ∧ i_Rel (k + 5) u v) v) u := by
  have J : i_Rel (k + 5) u v := I
  obtain ⟨L, S, F, t, k0, od, nc, li, la, fe, oo, dd, aa, bb, rg, wd, uc, lt, rc, ls, rw, rr, uw, br, st, nu, kd, tg, fs, sc, bk, is, rd, ac, ry, wr, un, pk, rfl, rfl, C, hk0, ok, R⟩ := I
  exact ⟨k0 + 1, sy_cyc hk0 ok (by omega) ⟨rfl, J⟩ k0 0 (Nat.zero_add k0)⟩
theorem i_vc_time {k : Nat} {u : SX} {v : SY} (I : i_Rel k u v) (hk : k + 5 ≤ 2560) (v1 : Int32) (v2 : Int32) : wpX_time (fun r => wpY_time (fun r' => r' = r ∧ i_Rel (k + 5) u v) v v1 v2) u v1 v2 := by
  have J : i_Rel (k + 5) u v := I
  obtain ⟨L, S, F, t, k0, od, nc, li, la, fe, oo, dd, aa, bb, rg, wd, uc, lt, rc, ls, rw, rr, uw, br, st, nu, kd, tg, fs, sc, bk, is, rd, ac, ry, wr, un, pk, rfl, rfl, C, hk0, ok, R⟩ := I
  unfold wpX_time
  dsimp only
  refine sx_wm (by omega) (fun g => br_f (by decide) ?_) (fun g => br_t rfl ?_)
  · refine sx_w0 5 (by omega) (fun g2 => br_f (by decide) ?_) (fun g2 => br_t rfl ?_)
    · have y1 := g
      have y2 := g2
      obtain ⟨j, hj, rfl⟩ := g
      obtain ⟨c, hc, rfl⟩ := g2
      have cj : (nI j).toNatClampNeg = j := nI_clamp (by omega)
      have vj : vp_in (nI j) 60 := vp_in_nI (by omega) (by omega)
      have m7 : nI j * 7 = nI (j * 7) := pk_mul j 7
      obtain ⟨e0, e1, e2, e3, e4, e5, _⟩ := R j hj
      rw [m7, sd_ixc (by omega)]
      refine ⟨sd_ixv (by omega) (by omega), ?_⟩
      unfold wpY_time
      dsimp only
      refine sy_w k0 (by omega) (fun _ => br_f (by decide) ?_) (fun z => absurd y1 z)
      refine sy_w 6 (by omega) (fun _ => br_f (by decide) ?_) (fun z => absurd y2 z)
      rw [cj]
      rcases (by omega : c = 0 ∨ c = 1 ∨ c = 2 ∨ c = 3 ∨ c = 4 ∨ c = 5) with rfl | rfl | rfl | rfl | rfl | rfl
      · exact br_t rfl ⟨vj, e0.symm, J⟩
      · exact br_f (by decide) (br_t rfl ⟨vj, e1.symm, J⟩)
      · exact br_f (by decide) (br_f (by decide) (br_t rfl ⟨vj, e2.symm, J⟩))
      · exact br_f (by decide) (br_f (by decide) (br_f (by decide) (br_t rfl ⟨vj, e3.symm, J⟩)))
      · exact br_f (by decide) (br_f (by decide) (br_f (by decide) (br_f (by decide) (br_t rfl ⟨vj, e4.symm, J⟩))))
      · exact br_f (by decide) (br_f (by decide) (br_f (by decide) (br_f (by decide) (br_f (by decide) ⟨vj, e5.symm, J⟩))))
    · unfold wpY_time
      dsimp only
      refine sy_w k0 (by omega) (fun _ => br_f (by decide) ?_) (fun z => absurd g z)
      exact sy_w 6 (by omega) (fun z => absurd z g2) (fun _ => br_t rfl ⟨rfl, J⟩)
  · unfold wpY_time
    dsimp only
    exact sy_w k0 (by omega) (fun z => absurd z g) (fun _ => br_t rfl ⟨rfl, J⟩)
theorem i_vc_busy {k : Nat} {u : SX} {v : SY} (I : i_Rel k u v) (hk : k + 5 ≤ 2560) (v1 : Int32) (v2 : Int32) : wpX_busy (fun r => wpY_busy (fun r' => r' = r ∧ i_Rel (k + 5) u v) v v1 v2) u v1 v2 := by
  have J : i_Rel (k + 5) u v := I
  obtain ⟨L, S, F, t, k0, od, nc, li, la, fe, oo, dd, aa, bb, rg, wd, uc, lt, rc, ls, rw, rr, uw, br, st, nu, kd, tg, fs, sc, bk, is, rd, ac, ry, wr, un, pk, rfl, rfl, C, hk0, ok, R⟩ := I
  unfold wpX_busy
  dsimp only
  refine sx_w0 5 (by omega) (fun g => br_f (by decide) ?_) (fun g => br_t rfl ?_)
  · obtain ⟨r, hX, hY⟩ := sd_busy (len := nI L) (ss := nI S) (ft := nI F) (bt := nI t) (lw := nI (sd_LW wr k0)) (od := od) (nc := nc) (li := li) (la := la) (fe := fe) (oo := oo) (dd := dd) (aa := aa) (bb := bb) (rg := rg) (wd := wd) (uc := uc) (lt := lt) (ls := ls) (rw := rw) (rr := rr) (uw := uw) (br := br) (st := st) (tg := tg) (fs := fs) (sc := sc) (bk := bk) (ac := ac) (pk := pk) (a := v1) (b := v2) hk0 R k0 0 0 (Nat.zero_add k0)
    refine ⟨k0 + 1, hX _ ?_⟩
    unfold wpY_busy
    dsimp only
    exact sy_w 6 (by omega) (fun _ => br_f (by decide) ⟨k0 + 1, hY _ ⟨rfl, J⟩⟩) (fun z => absurd g z)
  · unfold wpY_busy
    dsimp only
    exact sy_w 6 (by omega) (fun z => absurd z g) (fun _ => br_t rfl ⟨rfl, J⟩)
