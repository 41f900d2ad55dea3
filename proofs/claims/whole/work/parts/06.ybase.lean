/-! SD 6: Y's loops -/
theorem sd_sublt {i E S : Nat} (hi : i < 1000) (hE : E < 1000) (hS : S < 1000) : nI i < nI E - nI S ↔ i + S < E := by
  rw [Int32.lt_iff_toInt_lt, nI_toInt (by omega), Int32.toInt_sub, nI_toInt (by omega), nI_toInt (by omega), Int.bmod_eq_of_le (by omega) (by omega)]
  omega
def sd_bk (n : Nat) (rg : Nat → Int32) (a b : Int32) : Int32 := if n = 6 ∨ n = 7 then (rg a.toNatClampNeg + b) &&& 3 else -1
section SDY6
variable {len ss ft bt fe dn : Int32} {oo dd aa bb rg wd uc lt nu kd tg fs sc bk is rd ac ry wr un pk ls : Nat → Int32}
theorem sy_135 {post : SY → Prop} {p k : Nat} (hp : p < 24) (hk : k < 60) (ha : sd_lt 8 (aa p)) (h : post (len, ss, ft, bt, fe, dn, oo, dd, aa, bb, rg, wd, uc, lt, nu, kd, tg, fs, sc, upd bk k ((rg (aa p).toNatClampNeg + bb p) &&& 3), is, rd, ac, ry, wr, un, pk, ls)) : wY_note_135 post (nI p) (nI k) len ss ft bt fe dn oo dd aa bb rg wd uc lt nu kd tg fs sc bk is rd ac ry wr un pk ls := by
  have cp : (nI p).toNatClampNeg = p := nI_clamp (by omega)
  have ck : (nI k).toNatClampNeg = k := nI_clamp (by omega)
  obtain ⟨r, hr, er⟩ := ha
  refine ⟨vp_in_nI hp (by omega), ?_⟩
  rw [cp]
  refine ⟨by rw [er]; exact vp_in_nI hr (by omega), vp_in_nI hp (by omega), vp_in_nI hk (by omega), ?_⟩
  rw [ck]
  exact nm_e h
theorem sy_117 {post : SY → Prop} {p n k : Nat} {z : Int32} (hp : p < 24) (hk : k < 60) (hn : n ≤ 9) (ha : 0 < n → n < 9 → sd_lt 8 (aa p)) (h : post (len, ss, ft, bt, fe, dn, oo, dd, aa, bb, rg, wd, uc, lt, nu, kd, tg, fs, upd sc k z, upd bk k (sd_bk n rg (aa p) (bb p)), is, rd, ac, ry, wr, un, pk, ls)) : wY_note_117 post (nI p) (nI n) (nI k) z (nI k) len ss ft bt fe dn oo dd aa bb rg wd uc lt nu kd tg fs sc bk is rd ac ry wr un pk ls := by
  have ck : (nI k).toNatClampNeg = k := nI_clamp (by omega)
  unfold sd_bk at h
  refine ⟨vp_in_nI hk (by omega), nm_r (congrArg (fun q => upd sc q z) ck) ?_⟩
  refine pk_eq n 6 (fun e => ?_) (fun e => pk_eq n 7 (fun e2 => ?_) (fun e2 => ?_))
  · rw [if_pos (Or.inl e)] at h
    exact sy_135 hp hk (ha (by omega) (by omega)) h
  · rw [if_pos (Or.inr e2)] at h
    exact sy_135 hp hk (ha (by omega) (by omega)) h
  · rw [if_neg (fun q => q.elim e e2)] at h
    exact ⟨vp_in_nI hk (by omega), nm_r (congrArg (fun q => upd bk q (-1)) ck) h⟩
theorem sy_76 {post : SY → Prop} {p n k : Nat} {z : Int32} (hp : p < 24) (hk : k < 60) (hn : n ≤ 9) (ha : 0 < n → n < 9 → sd_lt 8 (aa p)) (h : post (len, ss, ft, bt, fe, dn, oo, dd, aa, bb, rg, wd, uc, lt, nu, kd, tg, upd fs k z, upd sc k (sd_sc n (dd p) (bb p)), upd bk k (sd_bk n rg (aa p) (bb p)), is, rd, ac, ry, wr, un, pk, ls)) : wY_note_76 post (nI p) (nI n) (nI k) z (nI k) len ss ft bt fe dn oo dd aa bb rg wd uc lt nu kd tg fs sc bk is rd ac ry wr un pk ls := by
  have cp : (nI p).toNatClampNeg = p := nI_clamp (by omega)
  have ck : (nI k).toNatClampNeg = k := nI_clamp (by omega)
  have k101 : ¬ (0 < n ∧ n < 6) → ∀ f : Nat → Int32, post (len, ss, ft, bt, fe, dn, oo, dd, aa, bb, rg, wd, uc, lt, nu, kd, tg, f, upd sc k (sd_sc n (dd p) (bb p)), upd bk k (sd_bk n rg (aa p) (bb p)), is, rd, ac, ry, wr, un, pk, ls) → wY_note_101 post (nI p) (nI n) (nI k) (nI k) len ss ft bt fe dn oo dd aa bb rg wd uc lt nu kd tg f sc bk is rd ac ry wr un pk ls := by
    intro g f h
    unfold sd_sc at h
    refine pk_eq n 7 (fun e => ⟨vp_in_nI hp (by omega), ?_⟩) (fun e => ?_)
    · rw [if_pos e] at h
      rw [cp]
      exact sy_117 hp hk hn ha h
    · rw [if_neg e, if_neg g] at h
      exact sy_117 hp hk hn ha h
  refine ⟨vp_in_nI hk (by omega), nm_r (congrArg (fun q => upd fs q z) ck) ?_⟩
  refine pk_le n 0 (fun e => k101 (by omega) _ h) (fun e => pk_le 6 n (fun e2 => k101 (by omega) _ h) (fun e2 => ⟨vp_in_nI hp (by omega), ?_⟩))
  unfold sd_sc at h
  rw [if_neg (by omega), if_pos (by omega)] at h
  rw [cp]
  exact sy_117 hp hk hn ha h
theorem sy_50 {post : SY → Prop} {p n k : Nat} {z : Int32} (hp : p < 24) (hk : k < 60) (hn : n ≤ 9) (ha : 0 < n → n < 9 → sd_lt 8 (aa p)) (h : post (len, ss, ft, bt, fe, dn, oo, dd, aa, bb, rg, wd, uc, lt, nu, kd, upd tg k z, upd fs k (sd_fs n (aa p)), upd sc k (sd_sc n (dd p) (bb p)), upd bk k (sd_bk n rg (aa p) (bb p)), is, rd, ac, ry, wr, un, pk, ls)) : wY_note_50 post (nI p) (nI n) (nI k) z (nI k) len ss ft bt fe dn oo dd aa bb rg wd uc lt nu kd tg fs sc bk is rd ac ry wr un pk ls := by
  have cp : (nI p).toNatClampNeg = p := nI_clamp (by omega)
  have ck : (nI k).toNatClampNeg = k := nI_clamp (by omega)
  unfold sd_fs at h
  refine ⟨vp_in_nI hk (by omega), nm_r (congrArg (fun q => upd tg q z) ck) ?_⟩
  refine pk_le n 0 (fun e => ?_) (fun e => pk_le 9 n (fun e2 => ?_) (fun e2 => ⟨vp_in_nI hp (by omega), ?_⟩))
  · rw [if_neg (by omega)] at h
    exact sy_76 hp hk hn ha h
  · rw [if_neg (by omega)] at h
    exact sy_76 hp hk hn ha h
  · rw [if_pos (by omega)] at h
    rw [cp]
    exact sy_76 hp hk hn ha h
theorem sy_note {post : SY → Prop} {p n k : Nat} (hp : p < 24) (hk : k < 60) (hn : n ≤ 9) (ho : oo p = nI n) (ha : 0 < n → n < 9 → sd_lt 8 (aa p)) (h : post (len, ss, ft, bt, fe, nI k, oo, dd, aa, bb, rg, wd, uc, lt, upd nu k (nI p), upd kd k (nI (sd_kd n)), upd tg k (sd_tg n (dd p)), upd fs k (sd_fs n (aa p)), upd sc k (sd_sc n (dd p) (bb p)), upd bk k (sd_bk n rg (aa p) (bb p)), is, rd, ac, ry, wr, un, pk, ls)) : wpY_note post (len, ss, ft, bt, fe, nI k, oo, dd, aa, bb, rg, wd, uc, lt, nu, kd, tg, fs, sc, bk, is, rd, ac, ry, wr, un, pk, ls) (nI p) := by
  have cp : (nI p).toNatClampNeg = p := nI_clamp (by omega)
  have ck : (nI k).toNatClampNeg = k := nI_clamp (by omega)
  unfold sd_tg at h
  refine ⟨vp_in_nI hp (by omega), nm_r (e' := nI n) (by rw [cp]; exact ho) ⟨vp_in_nI hk (by omega), nm_r (congrArg (fun q => upd nu q (nI p)) ck) ?_⟩⟩
  refine sy_kind hn ?_
  refine ⟨vp_in_nI hk (by omega), nm_r (congrArg (fun q => upd kd q (nI (sd_kd n))) ck) ?_⟩
  refine pk_le 7 n (fun e => ?_) (fun e => ⟨vp_in_nI hp (by omega), ?_⟩)
  · rw [if_neg (by omega)] at h
    exact sy_50 hp hk hn ha h
  · rw [if_pos (by omega)] at h
    rw [cp]
    exact sy_50 hp hk hn ha h
theorem sy_isF {post : Int32 → Prop} {S E w : Nat} (hS : S ≤ 4) (hE : E ≤ 60) (h1 : ∀ i, i < E → E ≤ i + S → pk i = nI w → post 1) (h0 : (∀ i, i < E → E ≤ i + S → ¬ pk i = nI w) → post 0) :
    ∀ j, j ≤ E → (∀ i, j ≤ i → i < E → E ≤ i + S → ¬ pk i = nI w) → wY_isFetched_7 post (nI w) len (nI S) ft bt (nI E) dn oo dd aa bb rg wd uc lt nu kd tg fs sc bk is rd ac ry wr un pk ls (j + 1) (nI j + (-1)) := by
  intro j
  induction j with
  | zero =>
    intro hj hn
    rw [wY_isFetched_7]
    exact br_t (by decide) (h0 (fun i => hn i (Nat.zero_le i)))
  | succ j ih =>
    intro hj hn
    have c : (nI j).toNatClampNeg = j := nI_clamp (by omega)
    rw [wY_isFetched_7, pk_m1]
    refine br_f (nI_pos (by omega)) ⟨fun e => h0 (fun i a b => ?_), fun e => ⟨vp_in_nI (by omega) (by omega), ?_⟩⟩
    · have g := (sd_sublt (i := j) (E := E) (S := S) (by omega) (by omega) (by omega)).mp e
      exact hn i (by omega) a b
    · rw [c]
      refine ⟨fun e2 => h1 j (by omega) ?_ e2, fun e2 => nm_e (ih (by omega) (fun i a b cc => ?_))⟩
      · by_cases g : j + S < E
        · exact absurd ((sd_sublt (i := j) (E := E) (S := S) (by omega) (by omega) (by omega)).mpr g) e
        · omega
      · by_cases g : i = j
        · rw [g]; exact e2
        · exact hn i (by omega) b cc
theorem sy_isFetched {post : Int32 → Prop} {S E w : Nat} (hS : S ≤ 4) (hE : E ≤ 60) (h1 : ∀ i, i < E → E ≤ i + S → pk i = nI w → post 1) (h0 : (∀ i, i < E → E ≤ i + S → ¬ pk i = nI w) → post 0) : wpY_isFetched post (len, nI S, ft, bt, nI E, dn, oo, dd, aa, bb, rg, wd, uc, lt, nu, kd, tg, fs, sc, bk, is, rd, ac, ry, wr, un, pk, ls) (nI w) := by
  have e : nI E - 1 = nI E + (-1) := Int32.sub_eq_add_neg _ _
  exact nm_r e ⟨E + 1, sy_isF hS hE h1 h0 E (Nat.le_refl _) (fun i a b => absurd b (by omega))⟩
theorem sy_hl {post : Int32 → Prop} {k c B : Nat} (hk : k < 60) (hc : c < 100000) (ok : sd_ok wr k B) (hB : B < 100000) (h1 : ∀ j, j < k → ¬ tg k = -1 → tg j = tg k → c ≤ sd_c wr j → post 1) (h0 : (∀ j, j < k → ¬ tg k = -1 → tg j = tg k → sd_c wr j < c) → post 0) :
    ∀ d j, j + d = k → (∀ j', j' < j → ¬ tg k = -1 → tg j' = tg k → sd_c wr j' < c) → wY_isHeld_2 post (nI k) (nI c) len ss ft bt fe dn oo dd aa bb rg wd uc lt nu kd tg fs sc bk is rd ac ry wr un pk ls (d + 1) (nI j) := by
  have ck : (nI k).toNatClampNeg = k := nI_clamp (by omega)
  intro d
  induction d with
  | zero =>
    intro j hj hn
    rw [wY_isHeld_2]
    exact br_t (nI_le (by omega) (by omega)) (h0 (fun j' h => hn j' (by omega)))
  | succ d ih =>
    intro j hj hn
    have cj : (nI j).toNatClampNeg = j := nI_clamp (by omega)
    have vj : vp_in (nI j) 60 := vp_in_nI (by omega) (by omega)
    have bj := (ok j (by omega)).2
    have nx : (¬ tg k = -1 → tg j = tg k → sd_c wr j < c) → wY_isHeld_2 post (nI k) (nI c) len ss ft bt fe dn oo dd aa bb rg wd uc lt nu kd tg fs sc bk is rd ac ry wr un pk ls (d + 1) (nI (j + 1)) := fun g => ih (j + 1) (by omega) (fun j' hj' a b => by
      by_cases e : j' = j
      · subst e; exact g a b
      · exact hn j' (by omega) a b)
    rw [wY_isHeld_2]
    refine br_f (nI_ge (by omega) (by omega)) ⟨vp_in_nI hk (by omega), ?_⟩
    rw [ck]
    refine ⟨fun e => nm_r (nI_1 j) (nx (fun z => absurd e z)), fun e => ⟨vj, vp_in_nI hk (by omega), ?_⟩⟩
    rw [cj]
    refine ⟨fun e2 => ⟨vj, ?_⟩, fun e2 => nm_r (nI_1 j) (nx (fun _ z => absurd z e2))⟩
    exact pk_lt (sd_c wr j) c (fun e3 => nm_r (nI_1 j) (nx (fun _ _ => e3))) (fun e3 => h1 j (by omega) e e2 e3) (ok j (by omega)).1 rfl
theorem sy_held {post : Int32 → Prop} {k c B : Nat} (hk : k < 60) (h1c : 1 ≤ c) (hc : c < 100000) (ok : sd_ok wr k B) (hB : B < 100000) (hT : sd_rg (tg k)) (h : ∀ x, (c < sd_o (tg k) (sd_RW tg wr k) ∧ x = 1) ∨ (¬ c < sd_o (tg k) (sd_RW tg wr k) ∧ x = 0) → post x) : wpY_isHeld post (len, ss, ft, bt, fe, dn, oo, dd, aa, bb, rg, wd, uc, lt, nu, kd, tg, fs, sc, bk, is, rd, ac, ry, wr, un, pk, ls) (nI k) (nI c) := by
  refine ⟨k + 1, sy_hl hk hc ok hB (fun j hj a b g => h 1 (Or.inl ⟨?_, rfl⟩)) (fun z => h 0 (Or.inr ⟨?_, rfl⟩)) k 0 (Nat.zero_add k) (fun j' hj' => absurd hj' (Nat.not_lt_zero j'))⟩
  · rcases hT with e | ⟨r, hr, e⟩
    · exact absurd e a
    · rw [e, sd_o_s (by omega)]
      have := sd_mx_ge (p := sd_pt tg r) (f := sd_c wr) k j hj (decide_eq_true (b.trans e))
      unfold sd_RW
      omega
  · rcases hT with e | ⟨r, hr, e⟩
    · rw [e, sd_o_n]
      omega
    · have a : ¬ tg k = -1 := by rw [e]; exact sd_ne1 (by omega)
      have := sd_mx_le (p := sd_pt tg r) (f := sd_c wr) (b := c - 1) k (fun j hj hp => by
        have := z j hj a ((of_decide_eq_true hp).trans e.symm)
        omega)
      rw [e, sd_o_s (by omega)]
      unfold sd_RW
      omega
theorem sy_mw {post : Int32 → Prop} {k c B : Nat} (hk : k < 60) (hc : c < 100000) (ok : sd_ok rd k B) (hB : B < 100000) (h1 : ∀ j, j < k → ¬ tg k = -1 → (fs j = tg k ∨ sc j = tg k) → c ≤ sd_c rd j → post 1) (h0 : (∀ j, j < k → ¬ tg k = -1 → (fs j = tg k ∨ sc j = tg k) → sd_c rd j < c) → post 0) :
    ∀ d j, j + d = k → (∀ j', j' < j → ¬ tg k = -1 → (fs j' = tg k ∨ sc j' = tg k) → sd_c rd j' < c) → wY_mustWait_2 post (nI k) (nI c) len ss ft bt fe dn oo dd aa bb rg wd uc lt nu kd tg fs sc bk is rd ac ry wr un pk ls (d + 1) (nI j) := by
  have ck : (nI k).toNatClampNeg = k := nI_clamp (by omega)
  intro d
  induction d with
  | zero =>
    intro j hj hn
    rw [wY_mustWait_2]
    exact br_t (nI_le (by omega) (by omega)) (h0 (fun j' h => hn j' (by omega)))
  | succ d ih =>
    intro j hj hn
    have cj : (nI j).toNatClampNeg = j := nI_clamp (by omega)
    have vj : vp_in (nI j) 60 := vp_in_nI (by omega) (by omega)
    have bj := (ok j (by omega)).2
    have nx : (¬ tg k = -1 → (fs j = tg k ∨ sc j = tg k) → sd_c rd j < c) → wY_mustWait_2 post (nI k) (nI c) len ss ft bt fe dn oo dd aa bb rg wd uc lt nu kd tg fs sc bk is rd ac ry wr un pk ls (d + 1) (nI (j + 1)) := fun g => ih (j + 1) (by omega) (fun j' hj' a b => by
      by_cases e : j' = j
      · subst e; exact g a b
      · exact hn j' (by omega) a b)
    have k47 : ¬ tg k = -1 → (fs j = tg k ∨ sc j = tg k) → wY_mustWait_47 post (wY_mustWait_2 post (nI k) (nI c) len ss ft bt fe dn oo dd aa bb rg wd uc lt nu kd tg fs sc bk is rd ac ry wr un pk ls (d + 1)) (nI k) (nI c) (nI j) len ss ft bt fe dn oo dd aa bb rg wd uc lt nu kd tg fs sc bk is rd ac ry wr un pk ls := by
      intro a b
      refine ⟨vj, ?_⟩
      rw [cj]
      exact pk_lt (sd_c rd j) c (fun e3 => nm_r (nI_1 j) (nx (fun _ _ => e3))) (fun e3 => h1 j (by omega) a b e3) (ok j (by omega)).1 rfl
    rw [wY_mustWait_2]
    refine br_f (nI_ge (by omega) (by omega)) ⟨vp_in_nI hk (by omega), ?_⟩
    rw [ck]
    refine ⟨fun e => nm_r (nI_1 j) (nx (fun z => absurd e z)), fun e => ⟨vj, vp_in_nI hk (by omega), ?_⟩⟩
    rw [cj]
    refine ⟨fun e2 => k47 e (Or.inl e2), fun e2 => ⟨vj, vp_in_nI hk (by omega), fun e3 => k47 e (Or.inr e3), fun e3 => nm_r (nI_1 j) (nx (fun _ z => absurd z (fun y => y.elim e2 e3)))⟩⟩
theorem sy_must {post : Int32 → Prop} {k c B : Nat} (hk : k < 60) (h1c : 1 ≤ c) (hc : c < 100000) (ok : sd_ok rd k B) (hB : B < 100000) (hT : sd_rg (tg k)) (h1 : c < sd_o (tg k) (sd_RR fs sc rd k) → post 1) (h0 : ¬ c < sd_o (tg k) (sd_RR fs sc rd k) → post 0) : wpY_mustWait post (len, ss, ft, bt, fe, dn, oo, dd, aa, bb, rg, wd, uc, lt, nu, kd, tg, fs, sc, bk, is, rd, ac, ry, wr, un, pk, ls) (nI k) (nI c) := by
  refine ⟨k + 1, sy_mw hk hc ok hB (fun j hj a b g => h1 ?_) (fun z => h0 ?_) k 0 (Nat.zero_add k) (fun j' hj' => absurd hj' (Nat.not_lt_zero j'))⟩
  · rcases hT with e | ⟨r, hr, e⟩
    · exact absurd e a
    · have hp : sd_ps fs sc r j = true := by
        simp only [sd_ps, Bool.or_eq_true, decide_eq_true_eq]
        rw [← e]
        exact b
      have := sd_mx_ge (p := sd_ps fs sc r) (f := sd_c rd) k j hj hp
      rw [e, sd_o_s (by omega)]
      unfold sd_RR
      omega
  · rcases hT with e | ⟨r, hr, e⟩
    · rw [e, sd_o_n]
      omega
    · have a : ¬ tg k = -1 := by rw [e]; exact sd_ne1 (by omega)
      have := sd_mx_le (p := sd_ps fs sc r) (f := sd_c rd) (b := c - 1) k (fun j hj hp => by
        simp only [sd_ps, Bool.or_eq_true, decide_eq_true_eq] at hp
        rw [← e] at hp
        have := z j hj a hp
        omega)
      rw [e, sd_o_s (by omega)]
      unfold sd_RR
      omega
end SDY6
