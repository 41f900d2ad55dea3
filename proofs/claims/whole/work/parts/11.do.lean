/-! SD 11: what an instruction does -/
def sd_ar (n : Nat) (x y : Int32) : Int32 := if n = 1 then x + y else if n = 2 then x - y else if n = 3 then (if y ≤ x then 0 else 1) else if n = 4 then x * y else (if y = 0 then 0 else x / y)
theorem sx_arith {post : Int32 → Prop} {n : Nat} {x y : Int32} (h1 : 1 ≤ n) (h5 : n ≤ 5) (h : post (sd_ar n x y)) : wpX_arithmetic post (nI n) x y := by
  unfold wpX_arithmetic
  unfold sd_ar at h
  rcases (by omega : n = 1 ∨ n = 2 ∨ n = 3 ∨ n = 4 ∨ n = 5) with rfl | rfl | rfl | rfl | rfl
  · exact br_f (by decide) (br_f (by decide) (br_t rfl h))
  · exact br_f (by decide) (br_f (by decide) (br_f (by decide) (br_t rfl h)))
  · refine br_f (by decide) (br_f (by decide) (br_f (by decide) (br_f (by decide) (br_t rfl ?_))))
    rw [if_neg (by omega), if_neg (by omega), if_pos rfl] at h
    refine ⟨fun e => ?_, fun e => ?_⟩
    · rw [if_pos e] at h; exact h
    · rw [if_neg e] at h; exact h
  · exact br_f (by decide) (br_f (by decide) (br_f (by decide) (br_f (by decide) (br_f (by decide) (br_t rfl h)))))
  · refine br_f (by decide) (br_t (by decide) ?_)
    rw [if_neg (by omega), if_neg (by omega), if_neg (by omega), if_neg (by omega)] at h
    refine ⟨fun e => ?_, fun e => ⟨e, ?_⟩⟩
    · rw [if_pos e] at h; exact h
    · rw [if_neg e] at h; exact h
section SDD11
variable {len ss ft bt dn lw od nc li la fe dm : Int32} {oo dd aa bb rg wd uc lt rc ls rw rr uw br st nu kd tg fs sc bk is rd ac ry wr un pk : Nat → Int32}
theorem sy_c59 {post : Int32 → SY → Prop} {p n : Nat} (hp : p < 24) (wg : sd_wg n (oo p) (dd p) (aa p) (bb p)) (h : ∀ x y : Int32, (0 < n → n < 9 → x = rg (aa p).toNatClampNeg) → (0 < n → n < 6 → y = rg (bb p).toNatClampNeg) → wY_carryOut_59 post (nI p) x y len ss ft bt fe dn oo dd aa bb rg wd uc lt nu kd tg fs sc bk is rd ac ry wr un pk ls) : wpY_carryOut post (len, ss, ft, bt, fe, dn, oo, dd, aa, bb, rg, wd, uc, lt, nu, kd, tg, fs, sc, bk, is, rd, ac, ry, wr, un, pk, ls) (nI p) := by
  have cp : (nI p).toNatClampNeg = p := nI_clamp (by omega)
  have vp : vp_in (nI p) 24 := vp_in_nI hp (by omega)
  have k29 : ∀ x : Int32, (0 < n → n < 9 → x = rg (aa p).toNatClampNeg) → wY_carryOut_29 post (nI p) x len ss ft bt fe dn oo dd aa bb rg wd uc lt nu kd tg fs sc bk is rd ac ry wr un pk ls := by
    intro x hx
    refine ⟨vp, ?_⟩
    rw [cp]
    refine sy_w 8 (by omega) (fun g => br_f (by decide) ⟨vp, ?_, h x _ hx (fun _ _ => rfl)⟩) (fun g => br_t rfl (h x _ hx (fun a b => absurd (wg.2.2.2.2.1 a b) g)))
    obtain ⟨r, hr, e⟩ := g
    rw [e]
    exact vp_in_nI hr (by omega)
  refine ⟨vp, ?_⟩
  rw [cp]
  refine sy_w 8 (by omega) (fun g => br_f (by decide) ⟨vp, ?_, k29 _ (fun _ _ => rfl)⟩) (fun g => br_t rfl (k29 _ (fun a b => absurd (wg.2.2.2.1 a b) g)))
  obtain ⟨r, hr, e⟩ := g
  rw [e]
  exact vp_in_nI hr (by omega)
/-- the same of X: below STORE -/
theorem sx_low {post : Int32 → SX → Prop} {p n d : Nat} {v : Int32} (hp : p < 24) (hn : n < 7) (ho : oo p = nI n) (hd : d < 8) (ed : dd p = nI d) (hv : ∀ Q : Int32 → Prop, Q v → wpX_resultOf Q (len, ss, ft, bt, dn, lw, od, nc, li, la, oo, dd, aa, bb, rg, wd, uc, lt, rc, ls, rw, rr, uw, br, st) (nI p)) (h : post (nI (p + 1)) (len, ss, ft, bt, dn, lw, od, nc, li, la, oo, dd, aa, bb, upd rg d v, wd, uc, lt, rc, ls, rw, rr, uw, br, st)) : wpX_perform post (len, ss, ft, bt, dn, lw, od, nc, li, la, oo, dd, aa, bb, rg, wd, uc, lt, rc, ls, rw, rr, uw, br, st) (nI p) := by
  have cp : (nI p).toNatClampNeg = p := nI_clamp (by omega)
  have cd : (nI d).toNatClampNeg = d := nI_clamp (by omega)
  have vp : vp_in (nI p) 24 := vp_in_nI hp (by omega)
  refine ⟨vp, nm_r (e' := nI n) (by rw [cp]; exact ho) ?_⟩
  refine pk_eq n 9 (fun e => absurd e (by omega)) (fun _ => pk_eq n 8 (fun e => absurd e (by omega)) (fun _ => pk_eq n 7 (fun e => absurd e (by omega)) (fun _ => ⟨vp, ?_⟩)))
  refine hv _ ?_
  rw [cp, ed, cd, nI_1]
  exact ⟨vp_in_nI hd (by omega), nm_e h⟩
theorem sx_res0 {p : Nat} (hp : p < 24) (ho : oo p = 0) (Q : Int32 → Prop) (h : Q (aa p)) : wpX_resultOf Q (len, ss, ft, bt, dn, lw, od, nc, li, la, oo, dd, aa, bb, rg, wd, uc, lt, rc, ls, rw, rr, uw, br, st) (nI p) := by
  have cp : (nI p).toNatClampNeg = p := nI_clamp (by omega)
  have vp : vp_in (nI p) 24 := vp_in_nI hp (by omega)
  refine ⟨vp, nm_r (e' := 0) (by rw [cp]; exact ho) (br_t rfl ⟨vp, ?_⟩)⟩
  rw [cp]
  exact h
theorem sx_res6 {p r : Nat} (hp : p < 24) (ho : oo p = 6) (hr : r < 8) (ha : aa p = nI r) (Q : Int32 → Prop) (h : Q (wd ((rg r + bb p) &&& 31).toNatClampNeg)) : wpX_resultOf Q (len, ss, ft, bt, dn, lw, od, nc, li, la, oo, dd, aa, bb, rg, wd, uc, lt, rc, ls, rw, rr, uw, br, st) (nI p) := by
  have cp : (nI p).toNatClampNeg = p := nI_clamp (by omega)
  have vp : vp_in (nI p) 24 := vp_in_nI hp (by omega)
  refine ⟨vp, nm_r (e' := 6) (by rw [cp]; exact ho) (br_f (by decide) (br_t rfl ?_))⟩
  exact sx_addr hp hr ha ⟨pk_andIn _ 5 (by decide) (by decide), h⟩
theorem sx_res5 {p n a b : Nat} (hp : p < 24) (h1 : 1 ≤ n) (h5 : n ≤ 5) (ho : oo p = nI n) (ha : a < 8) (ea : aa p = nI a) (hb : b < 8) (eb : bb p = nI b) (Q : Int32 → Prop) (h : Q (sd_ar n (rg a) (rg b))) : wpX_resultOf Q (len, ss, ft, bt, dn, lw, od, nc, li, la, oo, dd, aa, bb, rg, wd, uc, lt, rc, ls, rw, rr, uw, br, st) (nI p) := by
  have cp : (nI p).toNatClampNeg = p := nI_clamp (by omega)
  have ca : (nI a).toNatClampNeg = a := nI_clamp (by omega)
  have cb : (nI b).toNatClampNeg = b := nI_clamp (by omega)
  have vp : vp_in (nI p) 24 := vp_in_nI hp (by omega)
  refine ⟨vp, nm_r (e' := nI n) (by rw [cp]; exact ho) ?_⟩
  refine pk_eq n 0 (fun e => absurd e (by omega)) (fun _ => pk_eq n 6 (fun e => absurd e (by omega)) (fun _ => ⟨vp, ?_⟩))
  rw [cp, ea, eb, ca, cb]
  exact ⟨vp_in_nI ha (by omega), vp, vp_in_nI hb (by omega), sx_arith h1 h5 h⟩
theorem sd_do {p n : Nat} (hp : p < 24) (wg : sd_wg n (oo p) (dd p) (aa p) (bb p)) : ∃ (p' : Nat) (rg' wd' : Nat → Int32), p' ≤ 24 ∧ (∀ post : Int32 → SX → Prop, post (nI p') (len, ss, ft, bt, dn, lw, od, nc, li, la, oo, dd, aa, bb, rg', wd', uc, lt, rc, ls, rw, rr, uw, br, st) → wpX_perform post (len, ss, ft, bt, dn, lw, od, nc, li, la, oo, dd, aa, bb, rg, wd, uc, lt, rc, ls, rw, rr, uw, br, st) (nI p)) ∧ (∀ post : Int32 → SY → Prop, post (nI p') (len, ss, ft, bt, fe, dm, oo, dd, aa, bb, rg', wd', uc, lt, nu, kd, tg, fs, sc, bk, is, rd, ac, ry, wr, un, pk, ls) → wpY_carryOut post (len, ss, ft, bt, fe, dm, oo, dd, aa, bb, rg, wd, uc, lt, nu, kd, tg, fs, sc, bk, is, rd, ac, ry, wr, un, pk, ls) (nI p)) := by
  obtain ⟨hn, ho, w1, w2, w3, w4⟩ := id wg
  have cp : (nI p).toNatClampNeg = p := nI_clamp (by omega)
  have vp : vp_in (nI p) 24 := vp_in_nI hp (by omega)
  by_cases n0 : n = 0
  · subst n0
    obtain ⟨d, hd, ed⟩ := w1 (by omega)
    have cd : (nI d).toNatClampNeg = d := nI_clamp (by omega)
    refine ⟨p + 1, upd rg d (aa p), wd, by omega, fun post h => sx_low hp (by omega) ho hd ed (fun Q q => sx_res0 hp ho Q q) h, fun post h => sy_c59 hp wg (fun x y hx hy => ?_)⟩
    refine ⟨vp, nm_e ⟨vp, nm_r (e' := nI d) (by rw [cp]; exact ed) ⟨vp, nm_r (e' := 0) (by rw [cp]; exact ho) (br_f (by decide) (br_f (by decide) (br_t rfl ⟨vp, vp_in_nI hd (by omega), ?_⟩)))⟩⟩⟩
    rw [cp, cd, nI_1]
    exact nm_e h
  by_cases n5 : n ≤ 5
  · obtain ⟨d, hd, ed⟩ := w1 (by omega)
    obtain ⟨a, ha, ea⟩ := w2 (by omega) (by omega)
    obtain ⟨b, hb, eb⟩ := w3 (by omega) (by omega)
    have cd : (nI d).toNatClampNeg = d := nI_clamp (by omega)
    have ca : (nI a).toNatClampNeg = a := nI_clamp (by omega)
    have cb : (nI b).toNatClampNeg = b := nI_clamp (by omega)
    refine ⟨p + 1, upd rg d (sd_ar n (rg a) (rg b)), wd, by omega, fun post h => sx_low hp (by omega) ho hd ed (fun Q q => sx_res5 hp (by omega) n5 ho ha ea hb eb Q q) h, fun post h => sy_c59 hp wg (fun x y hx hy => ?_)⟩
    have ex : x = rg a := by rw [hx (by omega) (by omega), ea, ca]
    have ey : y = rg b := by rw [hy (by omega) (by omega), eb, cb]
    rw [← ex, ← ey] at h
    refine ⟨vp, nm_e ⟨vp, nm_r (e' := nI d) (by rw [cp]; exact ed) ⟨vp, nm_r (e' := nI n) (by rw [cp]; exact ho) ?_⟩⟩⟩
    rw [cd, nI_1]
    have vd : vp_in (nI d) 8 := vp_in_nI hd (by omega)
    unfold sd_ar at h
    rcases (by omega : n = 1 ∨ n = 2 ∨ n = 3 ∨ n = 4 ∨ n = 5) with rfl | rfl | rfl | rfl | rfl
    · exact br_f (by decide) (br_f (by decide) (br_f (by decide) (br_t rfl ⟨vd, nm_e h⟩)))
    · exact br_f (by decide) (br_f (by decide) (br_f (by decide) (br_f (by decide) (br_t rfl ⟨vd, nm_e h⟩))))
    · refine br_f (by decide) (br_f (by decide) (br_f (by decide) (br_f (by decide) (br_f (by decide) (br_t rfl ?_)))))
      rw [if_neg (by omega), if_neg (by omega), if_pos rfl] at h
      refine ⟨fun e => ⟨vd, ?_⟩, fun e => ⟨vd, ?_⟩⟩
      · rw [if_pos e] at h; exact nm_e h
      · rw [if_neg e] at h; exact nm_e h
    · exact br_f (by decide) (br_f (by decide) (br_f (by decide) (br_f (by decide) (br_f (by decide) (br_f (by decide) (br_t rfl ⟨vd, nm_e h⟩))))))
    · refine br_f (by decide) (br_f (by decide) (br_f (by decide) (br_f (by decide) (br_f (by decide) (br_f (by decide) (br_f (by decide) (br_t rfl ?_)))))))
      rw [if_neg (by omega), if_neg (by omega), if_neg (by omega), if_neg (by omega)] at h
      refine ⟨fun e => ⟨vd, ?_⟩, fun e => ⟨e, vd, ?_⟩⟩
      · rw [if_pos e] at h; exact nm_e h
      · rw [if_neg e] at h; exact nm_e h
  by_cases n6 : n = 6
  · subst n6
    obtain ⟨d, hd, ed⟩ := w1 (by omega)
    obtain ⟨a, ha, ea⟩ := w2 (by omega) (by omega)
    have cd : (nI d).toNatClampNeg = d := nI_clamp (by omega)
    have ca : (nI a).toNatClampNeg = a := nI_clamp (by omega)
    refine ⟨p + 1, upd rg d (wd ((rg a + bb p) &&& 31).toNatClampNeg), wd, by omega, fun post h => sx_low hp (by omega) ho hd ed (fun Q q => sx_res6 hp ho ha ea Q q) h, fun post h => sy_c59 hp wg (fun x y hx hy => ?_)⟩
    have ex : x = rg a := by rw [hx (by omega) (by omega), ea, ca]
    subst ex
    refine ⟨vp, nm_r (e' := (rg a + bb p) &&& 31) (by rw [cp]) ⟨vp, nm_r (e' := nI d) (by rw [cp]; exact ed) ⟨vp, nm_r (e' := 6) (by rw [cp]; exact ho) ?_⟩⟩⟩
    rw [cd, nI_1]
    exact br_f (by decide) (br_f (by decide) (br_f (by decide) (br_f (by decide) (br_f (by decide) (br_f (by decide) (br_f (by decide) (br_f (by decide) (br_t rfl ⟨pk_andIn _ 5 (by decide) (by decide), vp_in_nI hd (by omega), nm_e h⟩))))))))
  by_cases n7 : n = 7
  · subst n7
    obtain ⟨d, hd, ed⟩ := w1 (by omega)
    obtain ⟨a, ha, ea⟩ := w2 (by omega) (by omega)
    have cd : (nI d).toNatClampNeg = d := nI_clamp (by omega)
    have ca : (nI a).toNatClampNeg = a := nI_clamp (by omega)
    refine ⟨p + 1, rg, upd wd ((rg a + bb p) &&& 31).toNatClampNeg (rg d), by omega, fun post h => ?_, fun post h => sy_c59 hp wg (fun x y hx hy => ?_)⟩
    · refine ⟨vp, nm_r (e' := 7) (by rw [cp]; exact ho) (br_f (by decide) (br_f (by decide) (br_t rfl ?_)))⟩
      refine sx_addr hp ha ea ⟨vp, ?_⟩
      rw [cp, ed, cd, nI_1]
      exact ⟨vp_in_nI hd (by omega), pk_andIn _ 5 (by decide) (by decide), nm_e h⟩
    · have ex : x = rg a := by rw [hx (by omega) (by omega), ea, ca]
      subst ex
      refine ⟨vp, nm_r (e' := (rg a + bb p) &&& 31) (by rw [cp]) ⟨vp, nm_r (e' := nI d) (by rw [cp]; exact ed) ⟨vp, nm_r (e' := 7) (by rw [cp]; exact ho) ?_⟩⟩⟩
      rw [cd, nI_1]
      exact br_f (by decide) (br_f (by decide) (br_f (by decide) (br_f (by decide) (br_f (by decide) (br_f (by decide) (br_f (by decide) (br_f (by decide) (br_f (by decide) (br_t rfl ⟨vp_in_nI hd (by omega), pk_andIn _ 5 (by decide) (by decide), nm_e h⟩)))))))))
  by_cases n8 : n = 8
  · subst n8
    obtain ⟨a, ha, ea⟩ := w2 (by omega) (by omega)
    obtain ⟨b, hb, eb⟩ := w4 (Or.inl rfl)
    have ca : (nI a).toNatClampNeg = a := nI_clamp (by omega)
    by_cases z : rg a = 0
    · refine ⟨b, rg, wd, by omega, fun post h => ?_, fun post h => sy_c59 hp wg (fun x y hx hy => ?_)⟩
      · refine ⟨vp, nm_r (e' := 8) (by rw [cp]; exact ho) (br_f (by decide) (br_t rfl ⟨vp, ?_⟩))⟩
        rw [cp, ea, ca, eb]
        exact ⟨vp_in_nI ha (by omega), br_t z ⟨vp, h⟩⟩
      · have ex : x = rg a := by rw [hx (by omega) (by omega), ea, ca]
        subst ex
        refine ⟨vp, nm_e ⟨vp, nm_e ⟨vp, nm_r (e' := 8) (by rw [cp]; exact ho) ?_⟩⟩⟩
        refine br_f (by decide) (br_f (by decide) (br_f (by decide) (br_f (by decide) (br_f (by decide) (br_f (by decide) (br_f (by decide) (br_f (by decide) (br_f (by decide) (br_f (by decide) (br_t rfl (br_t z ⟨vp, ?_⟩)))))))))))
        rw [cp, eb]
        exact h
    · refine ⟨p + 1, rg, wd, by omega, fun post h => ?_, fun post h => sy_c59 hp wg (fun x y hx hy => ?_)⟩
      · refine ⟨vp, nm_r (e' := 8) (by rw [cp]; exact ho) (br_f (by decide) (br_t rfl ⟨vp, ?_⟩))⟩
        rw [cp, ea, ca, nI_1]
        exact ⟨vp_in_nI ha (by omega), br_f z h⟩
      · have ex : x = rg a := by rw [hx (by omega) (by omega), ea, ca]
        subst ex
        refine ⟨vp, nm_e ⟨vp, nm_e ⟨vp, nm_r (e' := 8) (by rw [cp]; exact ho) ?_⟩⟩⟩
        refine br_f (by decide) (br_f (by decide) (br_f (by decide) (br_f (by decide) (br_f (by decide) (br_f (by decide) (br_f (by decide) (br_f (by decide) (br_f (by decide) (br_f (by decide) (br_t rfl (br_f z ?_)))))))))))
        rw [nI_1]
        exact h
  · have n9 : n = 9 := by omega
    subst n9
    obtain ⟨b, hb, eb⟩ := w4 (Or.inr rfl)
    refine ⟨b, rg, wd, by omega, fun post h => ?_, fun post h => sy_c59 hp wg (fun x y hx hy => ?_)⟩
    · refine ⟨vp, nm_r (e' := 9) (by rw [cp]; exact ho) (br_t rfl ⟨vp, ?_⟩)⟩
      rw [cp, eb]
      exact h
    · refine ⟨vp, nm_e ⟨vp, nm_e ⟨vp, nm_r (e' := 9) (by rw [cp]; exact ho) (br_f (by decide) (br_t (by decide) ⟨vp, ?_⟩))⟩⟩⟩
      rw [cp, eb]
      exact h
end SDD11
