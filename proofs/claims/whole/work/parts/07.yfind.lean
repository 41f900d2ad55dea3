/-! SD 7: Y's instruction, scheduled -/
def sd_fu (U : Nat → Nat) (m c : Nat) (x : Int32) : Prop := (∃ u, u ≤ m ∧ U u < c ∧ (∀ u', u' < u → c ≤ U u') ∧ x = nI u) ∨ ((∀ u, u ≤ m → c ≤ U u) ∧ x = -1)
theorem sd_la0 {i : Nat} {L : Nat → Int32} : sd_la i L (nI 0) = L := by
  unfold sd_la
  rw [nI_0, Int32.add_zero]
  exact sd_ui
theorem sd_la1 {i d : Nat} {L : Nat → Int32} : sd_la i (upd L i (L i + 1)) (nI d) = sd_la i L (nI (d + 1)) := by
  unfold sd_la
  rw [pk_us, sd_uu, Int32.add_assoc, Int32.add_comm 1 (nI d), nI_1]
section SDY7
variable {len ss ft bt fe dn : Int32} {oo dd aa bb rg wd uc lt nu kd tg fs sc bk is rd ac ry wr un pk ls : Nat → Int32}
theorem sy_fi {post J : Int32 → Prop} {k c u q B : Nat} (hk : k < 60) (h1c : 1 ≤ c) (hc : c < 100000) (ok : sd_ok wr k B) (hB : B < 100000) (ekd : kd k = nI q) (hf : sd_UW kd un wr k q u < c → post (nI u)) (hb : ¬ sd_UW kd un wr k q u < c → J (nI (u + 1))) :
    ∀ d j, j + d = k → wY_freeUnit_23 post J (nI k) (nI c) (nI u) len ss ft bt fe dn oo dd aa bb rg wd uc lt nu kd tg fs sc bk is rd ac ry wr un pk ls (d + 1) (if sd_mx (sd_pu kd un q u) (sd_c wr) j < c then 1 else 0) (nI j) := by
  have ck : (nI k).toNatClampNeg = k := nI_clamp (by omega)
  intro d
  induction d with
  | zero =>
    intro j hj
    have e : j = k := by omega
    subst e
    rw [wY_freeUnit_23]
    refine br_t (nI_le (Nat.le_refl _) (by omega)) ?_
    by_cases g : sd_mx (sd_pu kd un q u) (sd_c wr) j < c
    · rw [if_pos g]
      exact br_f (by decide) (hf g)
    · rw [if_neg g]
      exact br_t rfl (nm_r (nI_1 u) (hb g))
  | succ d ih =>
    intro j hj
    have cj : (nI j).toNatClampNeg = j := nI_clamp (by omega)
    have vj : vp_in (nI j) 60 := vp_in_nI (by omega) (by omega)
    have vk : vp_in (nI k) 60 := vp_in_nI hk (by omega)
    have bj := (ok j (by omega)).2
    have t := ih (j + 1) (by omega)
    have no : ¬ sd_pu kd un q u j = true → wY_freeUnit_23 post J (nI k) (nI c) (nI u) len ss ft bt fe dn oo dd aa bb rg wd uc lt nu kd tg fs sc bk is rd ac ry wr un pk ls (d + 1) (if sd_mx (sd_pu kd un q u) (sd_c wr) j < c then 1 else 0) (nI (j + 1)) := by
      intro g
      rw [sd_mx_f g] at t
      exact t
    rw [wY_freeUnit_23]
    refine br_f (nI_ge (by omega) (by omega)) ⟨vj, vk, ?_⟩
    rw [cj, ck, ekd]
    refine ⟨fun e => ⟨vj, fun e2 => ⟨vj, ?_⟩, fun e2 => nm_r (nI_1 j) (no (fun g => ?_))⟩, fun e => nm_r (nI_1 j) (no (fun g => ?_))⟩
    · have hp : sd_pu kd un q u j = true := by
        simp only [sd_pu, Bool.and_eq_true, decide_eq_true_eq]
        exact ⟨e, e2⟩
      rw [sd_mx_t hp] at t
      refine pk_lt (sd_c wr j) c (fun e3 => nm_r (nI_1 j) ?_) (fun e3 => nm_r (nI_1 j) ?_) (ok j (by omega)).1 rfl
      · by_cases g : sd_mx (sd_pu kd un q u) (sd_c wr) j < c
        · rw [if_pos (by omega)] at t
          rw [if_pos g]
          exact t
        · rw [if_neg (by omega)] at t
          rw [if_neg g]
          exact t
      · rw [if_neg (by omega)] at t
        exact t
    · simp only [sd_pu, Bool.and_eq_true, decide_eq_true_eq] at g
      exact e2 g.2
    · simp only [sd_pu, Bool.and_eq_true, decide_eq_true_eq] at g
      exact e g.1
theorem sy_fo {post J : Int32 → Prop} {k c u q B : Nat} (hk : k < 60) (h1c : 1 ≤ c) (hc : c < 100000) (ok : sd_ok wr k B) (hB : B < 100000) (ekd : kd k = nI q) (hf : sd_UW kd un wr k q u < c → post (nI u)) (hb : ¬ sd_UW kd un wr k q u < c → J (nI (u + 1))) : ∃ n, wY_freeUnit_23 post J (nI k) (nI c) (nI u) len ss ft bt fe dn oo dd aa bb rg wd uc lt nu kd tg fs sc bk is rd ac ry wr un pk ls n 1 0 := by
  have t := sy_fi (len := len) (ss := ss) (ft := ft) (bt := bt) (fe := fe) (dn := dn) (oo := oo) (dd := dd) (aa := aa) (bb := bb) (rg := rg) (wd := wd) (uc := uc) (lt := lt) (nu := nu) (tg := tg) (fs := fs) (sc := sc) (bk := bk) (is := is) (rd := rd) (ac := ac) (ry := ry) (pk := pk) (ls := ls) hk h1c hc ok hB ekd hf hb k 0 (Nat.zero_add k)
  rw [if_pos (show sd_mx (sd_pu kd un q u) (sd_c wr) 0 < c from h1c)] at t
  exact ⟨k + 1, t⟩
theorem sy_f1 {post : Int32 → Prop} {k c u q m B : Nat} (hk : k < 60) (h1c : 1 ≤ c) (hc : c < 100000) (ok : sd_ok wr k B) (hB : B < 100000) (ekd : kd k = nI q) (hq : q < 6) (hm : m < 3) (euc : uc q = nI (m + 1)) (hu : u ≤ m) (h1 : sd_UW kd un wr k q u < c) (h2 : ∀ u', u' < u → c ≤ sd_UW kd un wr k q u') (h : post (nI u)) :
    ∀ d i, i + d = u → wY_freeUnit_2 post (nI k) (nI c) len ss ft bt fe dn oo dd aa bb rg wd uc lt nu kd tg fs sc bk is rd ac ry wr un pk ls (d + 1) (nI i) := by
  have ck : (nI k).toNatClampNeg = k := nI_clamp (by omega)
  have cq : (nI q).toNatClampNeg = q := nI_clamp (by omega)
  intro d
  induction d with
  | zero =>
    intro i hi
    have e : i = u := by omega
    subst e
    rw [wY_freeUnit_2]
    refine ⟨vp_in_nI hk (by omega), ?_⟩
    rw [ck, ekd, cq, euc]
    exact ⟨vp_in_nI hq (by omega), br_f (nI_ge (by omega) (by omega)) (sy_fo hk h1c hc ok hB ekd (fun _ => h) (fun z => absurd h1 z))⟩
  | succ d ih =>
    intro i hi
    rw [wY_freeUnit_2]
    refine ⟨vp_in_nI hk (by omega), ?_⟩
    rw [ck, ekd, cq, euc]
    exact ⟨vp_in_nI hq (by omega), br_f (nI_ge (by omega) (by omega)) (sy_fo hk h1c hc ok hB ekd (fun z => absurd z (by have := h2 i (by omega); omega)) (fun _ => ih (i + 1) (by omega)))⟩
theorem sy_f0 {post : Int32 → Prop} {k c q m B : Nat} (hk : k < 60) (h1c : 1 ≤ c) (hc : c < 100000) (ok : sd_ok wr k B) (hB : B < 100000) (ekd : kd k = nI q) (hq : q < 6) (hm : m < 3) (euc : uc q = nI (m + 1)) (h2 : ∀ u', u' ≤ m → c ≤ sd_UW kd un wr k q u') (h : post (-1)) :
    ∀ d i, i + d = m + 1 → wY_freeUnit_2 post (nI k) (nI c) len ss ft bt fe dn oo dd aa bb rg wd uc lt nu kd tg fs sc bk is rd ac ry wr un pk ls (d + 1) (nI i) := by
  have ck : (nI k).toNatClampNeg = k := nI_clamp (by omega)
  have cq : (nI q).toNatClampNeg = q := nI_clamp (by omega)
  intro d
  induction d with
  | zero =>
    intro i hi
    rw [wY_freeUnit_2]
    refine ⟨vp_in_nI hk (by omega), ?_⟩
    rw [ck, ekd, cq, euc]
    exact ⟨vp_in_nI hq (by omega), br_t (nI_le (by omega) (by omega)) h⟩
  | succ d ih =>
    intro i hi
    rw [wY_freeUnit_2]
    refine ⟨vp_in_nI hk (by omega), ?_⟩
    rw [ck, ekd, cq, euc]
    exact ⟨vp_in_nI hq (by omega), br_f (nI_ge (by omega) (by omega)) (sy_fo hk h1c hc ok hB ekd (fun z => absurd z (by have := h2 i (by omega); omega)) (fun _ => ih (i + 1) (by omega)))⟩
theorem sy_free {post : Int32 → Prop} {k c q m B : Nat} (hk : k < 60) (h1c : 1 ≤ c) (hc : c < 100000) (ok : sd_ok wr k B) (hB : B < 100000) (ekd : kd k = nI q) (hq : q < 6) (hm : m < 3) (euc : uc q = nI (m + 1)) (h : ∀ x, sd_fu (sd_UW kd un wr k q) m c x → post x) : wpY_freeUnit post (len, ss, ft, bt, fe, dn, oo, dd, aa, bb, rg, wd, uc, lt, nu, kd, tg, fs, sc, bk, is, rd, ac, ry, wr, un, pk, ls) (nI k) (nI c) := by
  by_cases e : ∃ u, u ≤ m ∧ sd_UW kd un wr k q u < c
  · obtain ⟨u, ⟨h1, h2⟩, h3⟩ := pk_least (fun u => u ≤ m ∧ sd_UW kd un wr k q u < c) e
    have h4 : ∀ u', u' < u → c ≤ sd_UW kd un wr k q u' := fun u' hu' => by
      by_cases g : sd_UW kd un wr k q u' < c
      · exact absurd ⟨by omega, g⟩ (h3 u' hu')
      · omega
    exact ⟨u + 1, sy_f1 hk h1c hc ok hB ekd hq hm euc h1 h2 h4 (h _ (Or.inl ⟨u, h1, h2, h4, rfl⟩)) u 0 (Nat.zero_add u)⟩
  · have h4 : ∀ u, u ≤ m → c ≤ sd_UW kd un wr k q u := fun u hu => by
      by_cases g : sd_UW kd un wr k q u < c
      · exact absurd ⟨u, hu, g⟩ e
      · omega
    exact ⟨m + 1 + 1, sy_f0 hk h1c hc ok hB ekd hq hm euc h4 (h _ (Or.inr ⟨h4, rfl⟩)) (m + 1) 0 (Nat.zero_add _)⟩
theorem sy_rd {post : SY → Prop} {k iss B : Nat} (hk : k < 60) (ok : sd_ok wr k B) (hB : B < 100000) (eis : is k = nI iss) (hi : iss < 100000) (h : post (len, ss, ft, bt, fe, dn, oo, dd, aa, bb, rg, wd, uc, lt, nu, kd, tg, fs, sc, bk, is, upd rd k (nI (max (iss + 1) (sd_mx (sd_pn tg (fs k) (sc k)) (sd_c wr) k + 1))), ac, ry, wr, un, pk, sd_la 4 ls ((nI (max (iss + 1) (sd_mx (sd_pn tg (fs k) (sc k)) (sd_c wr) k + 1)) - nI iss) - 1))) :
    ∀ d j, j + d = k → wY_findRead_11 post (nI k) len ss ft bt fe dn oo dd aa bb rg wd uc lt nu kd tg fs sc bk is rd ac ry wr un pk ls (d + 1) (nI (max (iss + 1) (sd_mx (sd_pn tg (fs k) (sc k)) (sd_c wr) j + 1))) (nI j) := by
  have ck : (nI k).toNatClampNeg = k := nI_clamp (by omega)
  have vk : vp_in (nI k) 60 := vp_in_nI hk (by omega)
  intro d
  induction d with
  | zero =>
    intro j hj
    have e : j = k := by omega
    subst e
    rw [wY_findRead_11]
    refine br_t (nI_le (Nat.le_refl _) (by omega)) ⟨vk, nm_r (congrArg (fun z => upd rd z _) ck) ⟨vk, ?_⟩⟩
    rw [ck, eis]
    exact nm_e h
  | succ d ih =>
    intro j hj
    have cj : (nI j).toNatClampNeg = j := nI_clamp (by omega)
    have vj : vp_in (nI j) 60 := vp_in_nI (by omega) (by omega)
    have bj := (ok j (by omega)).2
    have t := ih (j + 1) (by omega)
    have bm : sd_mx (sd_pn tg (fs k) (sc k)) (sd_c wr) j ≤ B := sd_mx_le j (fun i hi _ => (ok i (by omega)).2)
    have n0 : ¬ sd_pn tg (fs k) (sc k) j = true → wY_findRead_61 post (wY_findRead_11 post (nI k) len ss ft bt fe dn oo dd aa bb rg wd uc lt nu kd tg fs sc bk is rd ac ry wr un pk ls (d + 1)) (nI k) (nI (max (iss + 1) (sd_mx (sd_pn tg (fs k) (sc k)) (sd_c wr) j + 1))) (nI j) 0 len ss ft bt fe dn oo dd aa bb rg wd uc lt nu kd tg fs sc bk is rd ac ry wr un pk ls := by
      intro g
      rw [sd_mx_f g] at t
      exact br_t rfl (nm_r (nI_1 j) t)
    have n1 : sd_pn tg (fs k) (sc k) j = true → wY_findRead_61 post (wY_findRead_11 post (nI k) len ss ft bt fe dn oo dd aa bb rg wd uc lt nu kd tg fs sc bk is rd ac ry wr un pk ls (d + 1)) (nI k) (nI (max (iss + 1) (sd_mx (sd_pn tg (fs k) (sc k)) (sd_c wr) j + 1))) (nI j) 1 len ss ft bt fe dn oo dd aa bb rg wd uc lt nu kd tg fs sc bk is rd ac ry wr un pk ls := by
      intro g
      rw [sd_mx_t g] at t
      refine br_f (by decide) ⟨vj, ?_⟩
      rw [cj]
      have ew : wr j + 1 = nI (sd_c wr j + 1) := by rw [(ok j (by omega)).1, nI_1]
      refine pk_le (sd_c wr j + 1) (max (iss + 1) (sd_mx (sd_pn tg (fs k) (sc k)) (sd_c wr) j + 1)) (fun e => nm_r (nI_1 j) ?_) (fun e => ⟨vj, nm_r ew (nm_r (nI_1 j) ?_)⟩) ew rfl
      · have e5 : max (iss + 1) (max (sd_mx (sd_pn tg (fs k) (sc k)) (sd_c wr) j) (sd_c wr j) + 1) = max (iss + 1) (sd_mx (sd_pn tg (fs k) (sc k)) (sd_c wr) j + 1) := by omega
        rw [e5] at t
        exact t
      · have e5 : max (iss + 1) (max (sd_mx (sd_pn tg (fs k) (sc k)) (sd_c wr) j) (sd_c wr j) + 1) = sd_c wr j + 1 := by omega
        rw [e5] at t
        exact t
    rw [wY_findRead_11]
    refine br_f (nI_ge (by omega) (by omega)) ⟨vj, ?_⟩
    rw [cj, ck]
    refine ⟨fun e => n0 (fun g => ?_), fun e => ⟨vj, vk, fun e2 => n1 ?_, fun e2 => ⟨vj, vk, fun e3 => n1 ?_, fun e3 => n0 (fun g => ?_)⟩⟩⟩
    · simp only [sd_pn, Bool.and_eq_true, Bool.or_eq_true, decide_eq_true_eq] at g
      exact g.1 e
    · simp only [sd_pn, Bool.and_eq_true, Bool.or_eq_true, decide_eq_true_eq]
      exact ⟨e, Or.inl e2⟩
    · simp only [sd_pn, Bool.and_eq_true, Bool.or_eq_true, decide_eq_true_eq]
      exact ⟨e, Or.inr e3⟩
    · simp only [sd_pn, Bool.and_eq_true, Bool.or_eq_true, decide_eq_true_eq] at g
      exact g.2.elim e2 e3
theorem sy_read {post : SY → Prop} {k iss B rdv : Nat} (hk : k < 60) (ok : sd_ok wr k B) (hB : B < 100000) (eis : is k = nI iss) (hi : iss < 100000) (er : rdv = max (iss + 1) (sd_mx (sd_pn tg (fs k) (sc k)) (sd_c wr) k + 1)) (h : post (len, ss, ft, bt, fe, dn, oo, dd, aa, bb, rg, wd, uc, lt, nu, kd, tg, fs, sc, bk, is, upd rd k (nI rdv), ac, ry, wr, un, pk, sd_la 4 ls ((nI rdv - nI iss) - 1))) : wpY_findRead post (len, ss, ft, bt, fe, dn, oo, dd, aa, bb, rg, wd, uc, lt, nu, kd, tg, fs, sc, bk, is, rd, ac, ry, wr, un, pk, ls) (nI k) := by
  have ck : (nI k).toNatClampNeg = k := nI_clamp (by omega)
  subst er
  exact ⟨vp_in_nI hk (by omega), nm_r (e' := nI (max (iss + 1) (sd_mx (sd_pn tg (fs k) (sc k)) (sd_c wr) 0 + 1))) (by rw [ck, eis, nI_1, show sd_mx (sd_pn tg (fs k) (sc k)) (sd_c wr) 0 = 0 from rfl, Nat.max_eq_left (by omega)]) ⟨k + 1, sy_rd hk ok hB eis hi h k 0 (Nat.zero_add k)⟩⟩
end SDY7
