/-! SD 8: Y's accesses, writes, and the whole of find -/
section SDY8
variable {len ss ft bt fe dn : Int32} {oo dd aa bb rg wd uc lt nu kd tg fs sc bk is rd ac ry wr un pk ls : Nat → Int32}
theorem sy_ac {post : SY → Prop} {k t rdv b B : Nat} (hk : k < 60) (ht : t ≤ 8) (hac : ∀ j, j < k → kd j = nI 4 → ac j = nI (sd_c ac j) ∧ sd_c ac j ≤ B) (hB : B < 100000) (erd : rd k = nI rdv) (hr : rdv < 100000) (ebk : bk k = nI b)
    (h : post (len, ss, ft, nI t, fe, dn, oo, dd, aa, bb, rg, wd, uc, lt, nu, kd, tg, fs, sc, bk, is, rd, upd ac k (nI (max (max (rdv + 1) (sd_LA kd ac k + 1)) (sd_BR kd bk ac t k b))), ry, wr, un, pk, sd_la 5 ls ((nI (max (max (rdv + 1) (sd_LA kd ac k + 1)) (sd_BR kd bk ac t k b)) - nI rdv) - 1))) :
    ∀ d j, j + d = k → wY_findAccess_22 post (nI k) len ss ft (nI t) fe dn oo dd aa bb rg wd uc lt nu kd tg fs sc bk is rd ac ry wr un pk ls (d + 1) (nI (max (max (rdv + 1) (sd_LA kd ac j + 1)) (sd_BR kd bk ac t j b))) (nI j) := by
  have ck : (nI k).toNatClampNeg = k := nI_clamp (by omega)
  have vk : vp_in (nI k) 60 := vp_in_nI hk (by omega)
  intro d
  induction d with
  | zero =>
    intro j hj
    have e : j = k := by omega
    subst e
    rw [wY_findAccess_22]
    refine br_t (nI_le (Nat.le_refl _) (by omega)) ⟨vk, nm_r (congrArg (fun z => upd ac z _) ck) ⟨vk, ?_⟩⟩
    rw [ck, erd]
    exact nm_e h
  | succ d ih =>
    intro j hj
    have cj : (nI j).toNatClampNeg = j := nI_clamp (by omega)
    have vj : vp_in (nI j) 60 := vp_in_nI (by omega) (by omega)
    have t1 := ih (j + 1) (by omega)
    have bA : sd_LA kd ac j ≤ B := sd_LA_b (fun i hi => hac i (by omega))
    have bB : sd_BR kd bk ac t j b ≤ B + t := sd_BR_b (fun i hi => hac i (by omega))
    rw [wY_findAccess_22]
    refine br_f (nI_ge (by omega) (by omega)) ⟨vj, ?_⟩
    rw [cj]
    refine ⟨fun e4 => ⟨vj, ?_⟩, fun e4 => nm_r (nI_1 j) ?_⟩
    · have e4 : kd j = nI 4 := e4
      obtain ⟨ea, ba⟩ := hac j (by omega) e4
      have sA : sd_LA kd ac (j + 1) = max (sd_LA kd ac j) (sd_c ac j) := sd_mx_t (decide_eq_true e4)
      have k61 : ∀ c1, c1 = max (max (max (rdv + 1) (sd_LA kd ac j + 1)) (sd_BR kd bk ac t j b)) (sd_c ac j + 1) → wY_findAccess_61 post (wY_findAccess_22 post (nI k) len ss ft (nI t) fe dn oo dd aa bb rg wd uc lt nu kd tg fs sc bk is rd ac ry wr un pk ls (d + 1)) (nI k) (nI c1) (nI j) len ss ft (nI t) fe dn oo dd aa bb rg wd uc lt nu kd tg fs sc bk is rd ac ry wr un pk ls := by
        intro c1 hc1
        refine ⟨vj, vk, ?_⟩
        rw [cj, ck, ebk]
        refine ⟨fun eb => ⟨vj, ?_⟩, fun eb => nm_r (nI_1 j) ?_⟩
        · have sB : sd_BR kd bk ac t (j + 1) b = max (sd_BR kd bk ac t j b) (sd_c ac j + t) := sd_mx_t (by
            simp only [sd_pb, Bool.and_eq_true, decide_eq_true_eq]
            exact ⟨e4, eb⟩)
          rw [sA, sB] at t1
          have et : ac j + nI t = nI (sd_c ac j + t) := by rw [ea, nI_add]
          refine pk_le (sd_c ac j + t) c1 (fun e => nm_r (nI_1 j) ?_) (fun e => ⟨vj, nm_r et (nm_r (nI_1 j) ?_)⟩) et rfl
          · have e5 : max (max (rdv + 1) (max (sd_LA kd ac j) (sd_c ac j) + 1)) (max (sd_BR kd bk ac t j b) (sd_c ac j + t)) = c1 := by omega
            rw [e5] at t1
            exact t1
          · have e5 : max (max (rdv + 1) (max (sd_LA kd ac j) (sd_c ac j) + 1)) (max (sd_BR kd bk ac t j b) (sd_c ac j + t)) = sd_c ac j + t := by omega
            rw [e5] at t1
            exact t1
        · have sB : sd_BR kd bk ac t (j + 1) b = sd_BR kd bk ac t j b := sd_mx_f (fun g => by
            simp only [sd_pb, Bool.and_eq_true, decide_eq_true_eq] at g
            exact eb g.2)
          rw [sA, sB] at t1
          have e5 : max (max (rdv + 1) (max (sd_LA kd ac j) (sd_c ac j) + 1)) (sd_BR kd bk ac t j b) = c1 := by omega
          rw [e5] at t1
          exact t1
      have e1 : ac j + 1 = nI (sd_c ac j + 1) := by rw [ea, nI_1]
      exact pk_le (sd_c ac j + 1) (max (max (rdv + 1) (sd_LA kd ac j + 1)) (sd_BR kd bk ac t j b)) (fun e => k61 _ (by omega)) (fun e => ⟨vj, nm_r e1 (k61 _ (by omega))⟩) e1 rfl
    · have e4 : ¬ kd j = nI 4 := e4
      rw [sd_LA_f e4, sd_BR_f e4] at t1
      exact t1
theorem sy_acc {post : SY → Prop} {k q t rdv b B start : Nat} {ac' L' : Nat → Int32} (hk : k < 60) (ht : t ≤ 8) (hac : ∀ j, j < k → kd j = nI 4 → ac j = nI (sd_c ac j) ∧ sd_c ac j ≤ B) (hB : B < 100000) (erd : rd k = nI rdv) (hr : rdv < 100000) (ekd : kd k = nI q) (hq : q < 6)
    (hmem : (q = 4 ∧ bk k = nI b ∧ start = max (max (rdv + 1) (sd_LA kd ac k + 1)) (sd_BR kd bk ac t k b) ∧ ac' = upd ac k (nI start) ∧ L' = sd_la 5 ls ((nI start - nI rdv) - 1)) ∨ (¬ q = 4 ∧ start = rdv ∧ ac' = ac ∧ L' = ls)) (h : post (len, ss, ft, nI t, fe, dn, oo, dd, aa, bb, rg, wd, uc, lt, nu, kd, tg, fs, sc, bk, is, rd, ac', ry, wr, un, pk, L')) : wpY_findAccess post (len, ss, ft, nI t, fe, dn, oo, dd, aa, bb, rg, wd, uc, lt, nu, kd, tg, fs, sc, bk, is, rd, ac, ry, wr, un, pk, ls) (nI k) := by
  have ck : (nI k).toNatClampNeg = k := nI_clamp (by omega)
  have vk : vp_in (nI k) 60 := vp_in_nI hk (by omega)
  refine ⟨vk, ?_⟩
  rw [ck]
  refine pk_eq q 4 (fun e => ⟨vk, ?_⟩) (fun e => ?_) ekd rfl
  · rcases hmem with ⟨_, h1, h2, h3, h4⟩ | ⟨z, _⟩
    · subst h2 h3 h4
      refine nm_r (e' := nI (max (max (rdv + 1) (sd_LA kd ac 0 + 1)) (sd_BR kd bk ac t 0 b))) ?_ ⟨k + 1, sy_ac hk ht hac hB erd hr h1 h k 0 (Nat.zero_add k)⟩
      rw [erd, nI_1, show sd_LA kd ac 0 = 0 from rfl, show sd_BR kd bk ac t 0 b = 0 from rfl, Nat.max_zero, Nat.max_eq_left (by omega)]
    · exact absurd e z
  · rcases hmem with ⟨z, _⟩ | ⟨_, h2, h3, h4⟩
    · exact absurd z e
    · subst h3 h4
      exact h
theorem sy_299 {post : SY → Prop} {k w fin B : Nat} (hk : k < 60) (ok : sd_ok rd k B) (hB : B < 100000) (hT : sd_rg (tg k)) (ew : w = max fin (sd_o (tg k) (sd_RR fs sc rd k))) (hw : w < 100000) :
    ∀ d c (L : Nat → Int32), c + d = w → fin ≤ c → 1 ≤ c → post (len, ss, ft, bt, fe, dn, oo, dd, aa, bb, rg, wd, uc, lt, nu, kd, tg, fs, sc, bk, is, rd, ac, ry, upd wr k (nI w), un, pk, sd_la 6 L (nI d)) → wY_find_299 post (nI k) len ss ft bt fe dn (d + 1) oo dd aa bb rg wd uc lt nu kd tg fs sc bk is rd ac ry (upd wr k (nI c)) un pk L := by
  have ck : (nI k).toNatClampNeg = k := nI_clamp (by omega)
  have vk : vp_in (nI k) 60 := vp_in_nI hk (by omega)
  intro d
  induction d with
  | zero =>
    intro c L hc hf h1 hp
    have e : c = w := by omega
    rw [e]
    rw [sd_la0] at hp
    rw [wY_find_299]
    refine ⟨vk, ?_⟩
    rw [ck, pk_us]
    exact sy_must hk (by omega) (by omega) ok hB hT (fun g => absurd g (by omega)) (fun _ => br_t rfl hp)
  | succ d ih =>
    intro c L hc hf h1 hp
    rw [← sd_la1] at hp
    rw [wY_find_299]
    refine ⟨vk, ?_⟩
    rw [ck, pk_us]
    refine sy_must hk (by omega) (by omega) ok hB hT (fun _ => br_f (by decide) ⟨vk, vk, nm_r (e' := upd wr k (nI (c + 1))) (by rw [sd_uu, nI_1]) (nm_e (ih (c + 1) _ (by omega) (by omega) (by omega) hp))⟩) (fun g => absurd g (by omega))
theorem sy_265 {post : SY → Prop} {k q lat start fin w B : Nat} (hk : k < 60) (ok : sd_ok rd k B) (hB : B < 100000) (hT : sd_rg (tg k)) (ekd : kd k = nI q) (hq : q < 6) (elt : lt q = nI lat) (ef : fin = start + lat) (h1 : 1 ≤ fin) (ew : w = max fin (sd_o (tg k) (sd_RR fs sc rd k))) (hw : w < 100000) (h : post (len, ss, ft, bt, fe, dn, oo, dd, aa, bb, rg, wd, uc, lt, nu, kd, tg, fs, sc, bk, is, rd, ac, upd ry k (nI fin), upd wr k (nI w), un, pk, sd_la 6 ls (nI (w - fin)))) : wY_find_265 post (nI k) (nI start) len ss ft bt fe dn oo dd aa bb rg wd uc lt nu kd tg fs sc bk is rd ac ry wr un pk ls := by
  have ck : (nI k).toNatClampNeg = k := nI_clamp (by omega)
  have cq : (nI q).toNatClampNeg = q := nI_clamp (by omega)
  have vk : vp_in (nI k) 60 := vp_in_nI hk (by omega)
  subst ef
  refine ⟨vk, ?_⟩
  rw [ck, ekd, cq, elt]
  exact ⟨vp_in_nI hq (by omega), vk, nm_r (e' := upd ry k (nI (start + lat))) (by rw [nI_add]) ⟨vk, vk, nm_r (e' := upd wr k (nI (start + lat))) (by rw [pk_us]) ⟨_, sy_299 hk ok hB hT ew hw (w - (start + lat)) (start + lat) ls (by omega) (Nat.le_refl _) h1 h⟩⟩⟩
theorem sy_l135 {post : SY → Prop} {k N cm q m t u iss rdv b start fin w lat B : Nat} {ac' Lc L5 : Nat → Int32} (hk : k < 60) (ht : t ≤ 8) (hB : B < 50000) (okw : sd_ok wr k B) (okr : sd_ok rd k B) (hac : ∀ j, j < k → kd j = nI 4 → ac j = nI (sd_c ac j) ∧ sd_c ac j ≤ B) (hT : sd_rg (tg k)) (hF : sd_rg (fs k)) (hS : sd_rg (sc k)) (ekd : kd k = nI q) (hq : q < 6) (hm : m < 3) (euc : uc q = nI (m + 1)) (elt : lt q = nI lat) (hlat : 1 ≤ lat)
    (hN : N < 100000) (hcm : cm < 100000) (ei : iss = max (max cm (sd_mn (sd_UW kd un wr k q) m + 1)) (sd_o (tg k) (sd_RW tg wr k))) (hi : iss < 100000) (hu : u ≤ m) (hu1 : sd_UW kd un wr k q u < iss) (hu2 : ∀ u', u' < u → iss ≤ sd_UW kd un wr k q u')
    (er : rdv = max (max (iss + 1) (sd_o (fs k) (sd_RW tg wr k))) (sd_o (sc k) (sd_RW tg wr k))) (hr : rdv < 100000)
    (hmem : (q = 4 ∧ bk k = nI b ∧ start = max (max (rdv + 1) (sd_LA kd ac k + 1)) (sd_BR kd bk ac t k b) ∧ ac' = upd ac k (nI start) ∧ L5 = sd_la 5 (sd_la 4 Lc ((nI rdv - nI iss) - 1)) ((nI start - nI rdv) - 1)) ∨ (¬ q = 4 ∧ start = rdv ∧ ac' = ac ∧ L5 = sd_la 4 Lc ((nI rdv - nI iss) - 1)))
    (ef : fin = start + lat) (ew : w = max fin (sd_o (tg k) (sd_RR fs sc rd k))) (hw : w < 100000)
    (h : post (len, ss, ft, nI t, fe, dn, oo, dd, aa, bb, rg, wd, uc, lt, nu, kd, tg, fs, sc, bk, upd is k (nI iss), upd rd k (nI rdv), ac', upd ry k (nI fin), upd wr k (nI w), upd un k (nI u), pk, sd_la 6 L5 (nI (w - fin)))) :
    ∀ d c (L : Nat → Int32) x6 x7, c + d = iss → 1 ≤ c → ((c < sd_o (tg k) (sd_RW tg wr k) ∧ x6 = 1) ∨ (¬ c < sd_o (tg k) (sd_RW tg wr k) ∧ x6 = 0)) → sd_fu (sd_UW kd un wr k q) m c x7 → sd_cnt N cm (sd_o (tg k) (sd_RW tg wr k)) d c L = Lc → wY_find_135 post (nI k) (nI N) (nI cm) len ss ft (nI t) fe dn (d + 1) (nI c) x6 x7 oo dd aa bb rg wd uc lt nu kd tg fs sc bk is rd ac ry wr un pk L := by
  have ck : (nI k).toNatClampNeg = k := nI_clamp (by omega)
  have vk : vp_in (nI k) 60 := vp_in_nI hk (by omega)
  intro d
  induction d with
  | zero =>
    intro c L x6 x7 hc h1 h6 h7 hL
    have e : c = iss := by omega
    subst e
    have hL : L = Lc := hL
    subst hL
    have e6 : x6 = 0 := by
      rcases h6 with ⟨a, _⟩ | ⟨_, a⟩
      · omega
      · exact a
    have e7 : x7 = nI u := by
      rcases h7 with ⟨v, a1, a2, a3, a4⟩ | ⟨a, _⟩
      · have : v = u := by
          rcases Nat.lt_trichotomy v u with g | g | g
          · have := hu2 v g; omega
          · exact g
          · have := a3 u g; omega
        rw [a4, this]
      · have := a u hu; omega
    subst e6 e7
    rw [wY_find_135]
    refine br_f (nI_nlt (by omega) (by omega)) (br_t rfl (br_t (nI_pos' (by omega)) ⟨vk, ?_⟩))
    rw [ck]
    refine nm_e ⟨vk, nm_e ?_⟩
    have okw' : sd_ok wr k B := okw
    refine sy_read (B := B) (iss := c) (rdv := rdv) hk okw (by omega) pk_us hi (by rw [er]; exact (sd_rdE hF hS).symm) ?_
    dsimp only
    refine sy_acc (B := B) (b := b) (start := start) (ac' := ac') (L' := L5) hk ht hac (by omega) pk_us hr ekd hq hmem ?_
    dsimp only
    have okr' : sd_ok (upd rd k (nI rdv)) k B := fun j hj => by
      rw [pk_un (by omega), sd_c_n (by omega)]
      exact okr j hj
    have eRR : sd_RR fs sc (upd rd k (nI rdv)) k = sd_RR fs sc rd k := by
      funext r
      exact sd_mx_cg k (fun _ _ => rfl) (fun j hj _ => sd_c_n (by omega))
    refine ⟨vk, ?_⟩
    have hst : 1 ≤ start := by
      rcases hmem with ⟨_, _, z, _⟩ | ⟨_, z, _⟩ <;> omega
    refine pk_eq q 4 (fun e => ⟨vk, ?_⟩) (fun e => ⟨vk, ?_⟩) ekd rfl
    · rcases hmem with ⟨_, _, _, z, _⟩ | ⟨z, _⟩
      · have ea : ac' k = nI start := by rw [z, pk_us]
        rw [ea]
        exact sy_265 (B := B) (fin := fin) (w := w) hk okr' (by omega) hT ekd hq elt ef (by omega) (by rw [eRR]; exact ew) hw h
      · exact absurd e z
    · rcases hmem with ⟨z, _⟩ | ⟨_, z, _⟩
      · exact absurd z e
      · rw [pk_us]
        have h := h
        subst z
        exact sy_265 (B := B) (fin := fin) (w := w) hk okr' (by omega) hT ekd hq elt ef (by omega) (by rw [eRR]; exact ew) hw h
  | succ d ih =>
    intro c L x6 x7 hc h1 h6 h7 hL
    rw [sd_cnt_s] at hL
    have k185 : ∀ z : Nat, z < 7 → sd_ix N cm (sd_o (tg k) (sd_RW tg wr k)) c = z → wY_find_185 post (wY_find_135 post (nI k) (nI N) (nI cm) len ss ft (nI t) fe dn (d + 1)) (nI k) (nI N) (nI cm) (nI c) (nI z) len ss ft (nI t) fe dn oo dd aa bb rg wd uc lt nu kd tg fs sc bk is rd ac ry wr un pk L := by
      intro z hz ez
      have cz : (nI z).toNatClampNeg = z := nI_clamp (by omega)
      rw [ez] at hL
      refine ⟨vp_in_nI hz (by omega), vp_in_nI hz (by omega), ?_⟩
      rw [cz]
      refine nm_e (nm_r (nI_1 c) ?_)
      refine sy_held (B := B) hk (by omega) (by omega) okw (by omega) hT (fun y6 g6 => ?_)
      refine sy_free (B := B) hk (by omega) (by omega) okw (by omega) ekd hq hm euc (fun y7 g7 => ?_)
      exact ih (c + 1) _ y6 y7 (by omega) (by omega) g6 g7 hL
    have k151 : wY_find_151 post (wY_find_135 post (nI k) (nI N) (nI cm) len ss ft (nI t) fe dn (d + 1)) (nI k) (nI N) (nI cm) (nI c) x6 len ss ft (nI t) fe dn oo dd aa bb rg wd uc lt nu kd tg fs sc bk is rd ac ry wr un pk L := by
      refine pk_le N c (fun e => pk_le cm c (fun e2 => ?_) (fun e2 => k185 1 (by omega) ?_)) (fun e => k185 0 (by omega) ?_)
      · rcases h6 with ⟨a, rfl⟩ | ⟨a, rfl⟩
        · exact br_f (by decide) (k185 2 (by omega) (by unfold sd_ix; rw [if_neg (by omega), if_neg (by omega), if_pos a]))
        · exact br_t rfl (k185 3 (by omega) (by unfold sd_ix; rw [if_neg (by omega), if_neg (by omega), if_neg a]))
      · unfold sd_ix
        rw [if_neg (by omega), if_pos (by omega)]
      · unfold sd_ix
        rw [if_pos (by omega)]
    rw [wY_find_135]
    refine pk_lt c cm (fun _ => k151) (fun e => ⟨fun e6 => ⟨fun e7 => ?_, fun _ => k151⟩, fun _ => k151⟩)
    exfalso
    have g6 : ¬ c < sd_o (tg k) (sd_RW tg wr k) := by
      rcases h6 with ⟨_, a⟩ | ⟨a, _⟩
      · rw [a] at e6
        exact absurd e6 (by decide)
      · exact a
    rcases h7 with ⟨v, a1, a2, _, _⟩ | ⟨_, a⟩
    · have := sd_mn_le (F := sd_UW kd un wr k q) m v a1
      omega
    · rw [a] at e7
      exact absurd e7 (by decide)
end SDY8
