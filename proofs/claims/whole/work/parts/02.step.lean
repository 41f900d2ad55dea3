/-! SD 2: what the scoreboard knows, said of the list of instructions done -/
def sd_ps (fs sc : Nat → Int32) (r j : Nat) : Bool := decide (fs j = nI r) || decide (sc j = nI r)
def sd_pu (kd un : Nat → Int32) (q u j : Nat) : Bool := decide (kd j = nI q) && decide (un j = nI u)
def sd_pb (kd bk : Nat → Int32) (b j : Nat) : Bool := decide (kd j = nI 4) && decide (bk j = nI b)
def sd_pa (kd : Nat → Int32) (j : Nat) : Bool := decide (kd j = nI 4)
def sd_RW (tg wr : Nat → Int32) (k r : Nat) : Nat := sd_mx (sd_pt tg r) (sd_c wr) k
def sd_RR (fs sc rd : Nat → Int32) (k r : Nat) : Nat := sd_mx (sd_ps fs sc r) (sd_c rd) k
def sd_UW (kd un wr : Nat → Int32) (k q u : Nat) : Nat := sd_mx (sd_pu kd un q u) (sd_c wr) k
def sd_BR (kd bk ac : Nat → Int32) (bt k b : Nat) : Nat := sd_mx (sd_pb kd bk b) (fun j => sd_c ac j + bt) k
def sd_LA (kd ac : Nat → Int32) (k : Nat) : Nat := sd_mx (sd_pa kd) (sd_c ac) k
def sd_LW (wr : Nat → Int32) (k : Nat) : Nat := sd_mx (fun _ => true) (sd_c wr) k
def sd_NC (kd is wr : Nat → Int32) (k : Nat) : Nat := if k = 0 then 1 else (if kd (k - 1) = nI 5 then sd_c wr (k - 1) else sd_c is (k - 1)) + 1
def sd_LI (is : Nat → Int32) (k : Nat) : Nat := if k = 0 then 0 else sd_c is (k - 1)
theorem sd_mx_s {p p' : Nat → Bool} {f f' : Nat → Nat} {k w : Nat} (h1 : ∀ j, j < k → p' j = p j) (h2 : ∀ j, j < k → p' j = true → f' j = f j) (hk : f' k = w) : sd_mx p' f' (k + 1) = if p' k = true then max (sd_mx p f k) w else sd_mx p f k := by
  have e := sd_mx_cg (p := p') (q := p) (f := f') (g := f) k h1 h2
  by_cases h : p' k = true
  · rw [sd_mx_t h, if_pos h, e, hk]
  · rw [sd_mx_f h, if_neg h, e]
theorem sd_RW_s {tg wr : Nat → Int32} {k r w : Nat} (hw : w < 2 ^ 31) : sd_RW tg (upd wr k (nI w)) (k + 1) r = if tg k = nI r then max (sd_RW tg wr k r) w else sd_RW tg wr k r := by
  unfold sd_RW
  rw [sd_mx_s (p := sd_pt tg r) (p' := sd_pt tg r) (f := sd_c wr) (f' := sd_c (upd wr k (nI w))) (k := k) (w := w) (fun _ _ => rfl) (fun j hj _ => sd_c_n (by omega)) (sd_c_s hw)]
  simp only [sd_pt, decide_eq_true_eq]
theorem sd_RR_s {fs sc rd : Nat → Int32} {k r w : Nat} (hw : w < 2 ^ 31) : sd_RR fs sc (upd rd k (nI w)) (k + 1) r = if fs k = nI r ∨ sc k = nI r then max (sd_RR fs sc rd k r) w else sd_RR fs sc rd k r := by
  unfold sd_RR
  rw [sd_mx_s (p := sd_ps fs sc r) (p' := sd_ps fs sc r) (f := sd_c rd) (f' := sd_c (upd rd k (nI w))) (k := k) (w := w) (fun _ _ => rfl) (fun j hj _ => sd_c_n (by omega)) (sd_c_s hw)]
  simp only [sd_ps, decide_eq_true_eq, Bool.or_eq_true]
theorem sd_UW_s {kd un wr : Nat → Int32} {k q u w : Nat} {x : Int32} (hw : w < 2 ^ 31) : sd_UW kd (upd un k x) (upd wr k (nI w)) (k + 1) q u = if kd k = nI q ∧ x = nI u then max (sd_UW kd un wr k q u) w else sd_UW kd un wr k q u := by
  unfold sd_UW
  rw [sd_mx_s (p := sd_pu kd un q u) (p' := sd_pu kd (upd un k x) q u) (f := sd_c wr) (f' := sd_c (upd wr k (nI w))) (k := k) (w := w) (fun j hj => by unfold sd_pu; rw [pk_un (by omega)]) (fun j hj _ => sd_c_n (by omega)) (sd_c_s hw)]
  simp only [sd_pu, decide_eq_true_eq, Bool.and_eq_true, pk_us]
theorem sd_LW_s {wr : Nat → Int32} {k w : Nat} (hw : w < 2 ^ 31) : sd_LW (upd wr k (nI w)) (k + 1) = max (sd_LW wr k) w := by
  unfold sd_LW
  rw [sd_mx_s (p := fun _ => true) (p' := fun _ => true) (f := sd_c wr) (f' := sd_c (upd wr k (nI w))) (k := k) (w := w) (fun _ _ => rfl) (fun j hj _ => sd_c_n (by omega)) (sd_c_s hw)]
  exact if_pos rfl
theorem sd_LA_t {kd ac : Nat → Int32} {k w : Nat} (hw : w < 2 ^ 31) (h : kd k = nI 4) : sd_LA kd (upd ac k (nI w)) (k + 1) = max (sd_LA kd ac k) w := by
  unfold sd_LA
  rw [sd_mx_s (p := sd_pa kd) (p' := sd_pa kd) (f := sd_c ac) (f' := sd_c (upd ac k (nI w))) (k := k) (w := w) (fun _ _ => rfl) (fun j hj _ => sd_c_n (by omega)) (sd_c_s hw)]
  exact if_pos (decide_eq_true h)
theorem sd_LA_f {kd ac : Nat → Int32} {k : Nat} (h : ¬ kd k = nI 4) : sd_LA kd ac (k + 1) = sd_LA kd ac k := sd_mx_f (fun e => h (of_decide_eq_true e))
theorem sd_BR_t {kd bk ac : Nat → Int32} {bt k b w : Nat} (hw : w < 2 ^ 31) (h : kd k = nI 4) : sd_BR kd bk (upd ac k (nI w)) bt (k + 1) b = if bk k = nI b then max (sd_BR kd bk ac bt k b) (w + bt) else sd_BR kd bk ac bt k b := by
  unfold sd_BR
  rw [sd_mx_s (p := sd_pb kd bk b) (p' := sd_pb kd bk b) (f := fun j => sd_c ac j + bt) (f' := fun j => sd_c (upd ac k (nI w)) j + bt) (k := k) (w := w + bt) (fun _ _ => rfl) (fun j hj _ => by rw [sd_c_n (by omega)]) (by rw [sd_c_s hw])]
  simp only [sd_pb, decide_eq_true_eq, Bool.and_eq_true, h, true_and]
theorem sd_BR_f {kd bk ac : Nat → Int32} {bt k b : Nat} (h : ¬ kd k = nI 4) : sd_BR kd bk ac bt (k + 1) b = sd_BR kd bk ac bt k b := by
  apply sd_mx_f
  intro e
  simp only [sd_pb, Bool.and_eq_true, decide_eq_true_eq] at e
  exact h e.1
theorem sd_NC_s {kd is wr : Nat → Int32} {k i w : Nat} (hi : i < 2 ^ 31) (hw : w < 2 ^ 31) : sd_NC kd (upd is k (nI i)) (upd wr k (nI w)) (k + 1) = (if kd k = nI 5 then w else i) + 1 := by
  unfold sd_NC
  rw [if_neg (by omega), Nat.add_sub_cancel, sd_c_s hi, sd_c_s hw]
theorem sd_LI_s {is : Nat → Int32} {k i : Nat} (hi : i < 2 ^ 31) : sd_LI (upd is k (nI i)) (k + 1) = i := by
  unfold sd_LI
  rw [if_neg (by omega), Nat.add_sub_cancel, sd_c_s hi]
/-- what holds after k instructions -/
def sd_I (k ss bt fe : Nat) (kd tg fs sc bk is rd ac wr un pks rw rr uw br st : Nat → Int32) : Prop :=
  sd_ok is k (17 * k) ∧ sd_ok rd k (17 * k) ∧ sd_ok wr k (17 * k)
  ∧ (∀ j, j < k → kd j = nI 4 → ac j = nI (sd_c ac j) ∧ sd_c ac j ≤ 17 * k)
  ∧ (∀ j, j < k → sd_c is j ≤ sd_c wr j)
  ∧ (∀ r, r < 8 → rw r = nI (sd_RW tg wr k r))
  ∧ (∀ r, r < 8 → rr r = nI (sd_RR fs sc rd k r))
  ∧ (∀ q u, q < 6 → u < 3 → uw (q * 3 + u) = nI (sd_UW kd un wr k q u))
  ∧ (∀ b, b < 4 → br b = nI (sd_BR kd bk ac bt k b))
  ∧ sd_st ss fe st pks ∧ fe ≤ k
theorem sd_RW_b {tg wr : Nat → Int32} {k r B : Nat} (h : sd_ok wr k B) : sd_RW tg wr k r ≤ B := sd_mx_le k (fun j hj _ => (h j hj).2)
theorem sd_RR_b {fs sc rd : Nat → Int32} {k r B : Nat} (h : sd_ok rd k B) : sd_RR fs sc rd k r ≤ B := sd_mx_le k (fun j hj _ => (h j hj).2)
theorem sd_UW_b {kd un wr : Nat → Int32} {k q u B : Nat} (h : sd_ok wr k B) : sd_UW kd un wr k q u ≤ B := sd_mx_le k (fun j hj _ => (h j hj).2)
theorem sd_LW_b {wr : Nat → Int32} {k B : Nat} (h : sd_ok wr k B) : sd_LW wr k ≤ B := sd_mx_le k (fun j hj _ => (h j hj).2)
theorem sd_LA_b {kd ac : Nat → Int32} {k B : Nat} (h : ∀ j, j < k → kd j = nI 4 → ac j = nI (sd_c ac j) ∧ sd_c ac j ≤ B) : sd_LA kd ac k ≤ B := sd_mx_le k (fun j hj hp => (h j hj (of_decide_eq_true hp)).2)
theorem sd_BR_b {kd bk ac : Nat → Int32} {bt k b B : Nat} (h : ∀ j, j < k → kd j = nI 4 → ac j = nI (sd_c ac j) ∧ sd_c ac j ≤ B) : sd_BR kd bk ac bt k b ≤ B + bt := by
  apply sd_mx_le k
  intro j hj hp
  simp only [sd_pb, Bool.and_eq_true, decide_eq_true_eq] at hp
  have := (h j hj hp.1).2
  omega
theorem sd_NC_b {kd is wr : Nat → Int32} {k B : Nat} (h1 : sd_ok is k B) (h2 : sd_ok wr k B) : sd_NC kd is wr k ≤ B + 1 := by
  unfold sd_NC
  by_cases h : k = 0
  · rw [if_pos h]; omega
  · rw [if_neg h]
    have a := (h1 (k - 1) (by omega)).2
    have b := (h2 (k - 1) (by omega)).2
    split <;> omega
theorem sd_LI_NC {kd is wr : Nat → Int32} {k : Nat} (h : ∀ j, j < k → sd_c is j ≤ sd_c wr j) : sd_LI is k + 1 ≤ sd_NC kd is wr k := by
  unfold sd_LI sd_NC
  by_cases e : k = 0
  · rw [if_pos e, if_pos e]; omega
  · rw [if_neg e, if_neg e]
    have := h (k - 1) (by omega)
    split <;> omega
theorem sd_I_cg {k ss bt fe : Nat} {kd tg fs sc bk is rd ac wr un pks rw rr uw br st kd' tg' fs' sc' bk' : Nat → Int32} (I : sd_I k ss bt fe kd tg fs sc bk is rd ac wr un pks rw rr uw br st) (h1 : ∀ j, j < k → kd' j = kd j) (h2 : ∀ j, j < k → tg' j = tg j) (h3 : ∀ j, j < k → fs' j = fs j) (h4 : ∀ j, j < k → sc' j = sc j) (h5 : ∀ j, j < k → bk' j = bk j) : sd_I k ss bt fe kd' tg' fs' sc' bk' is rd ac wr un pks rw rr uw br st := by
  obtain ⟨i1, i2, i3, i4, i5, i6, i7, i8, i9, i10, i11⟩ := I
  refine ⟨i1, i2, i3, fun j hj hk => i4 j hj (by rw [← h1 j hj]; exact hk), i5, fun r hr => ?_, fun r hr => ?_, fun q u hq hu => ?_, fun b hb => ?_, i10, i11⟩
  · rw [i6 r hr]
    exact congrArg nI (sd_mx_cg k (fun j hj => by unfold sd_pt; rw [h2 j hj]) (fun _ _ _ => rfl))
  · rw [i7 r hr]
    exact congrArg nI (sd_mx_cg k (fun j hj => by unfold sd_ps; rw [h3 j hj, h4 j hj]) (fun _ _ _ => rfl))
  · rw [i8 q u hq hu]
    exact congrArg nI (sd_mx_cg k (fun j hj => by unfold sd_pu; rw [h1 j hj]) (fun _ _ _ => rfl))
  · rw [i9 b hb]
    exact congrArg nI (sd_mx_cg k (fun j hj => by unfold sd_pb; rw [h1 j hj, h5 j hj]) (fun _ _ _ => rfl))
theorem sd_LA_cg {kd ac kd' : Nat → Int32} {k : Nat} (h1 : ∀ j, j < k → kd' j = kd j) : sd_LA kd' ac k = sd_LA kd ac k := sd_mx_cg k (fun j hj => by unfold sd_pa; rw [h1 j hj]) (fun _ _ _ => rfl)
theorem sd_NC_cg {kd is wr kd' : Nat → Int32} {k : Nat} (h1 : ∀ j, j < k → kd' j = kd j) : sd_NC kd' is wr k = sd_NC kd is wr k := by
  unfold sd_NC
  by_cases h : k = 0
  · rw [if_pos h, if_pos h]
  · rw [if_neg h, if_neg h, h1 (k - 1) (by omega)]
theorem sd_I_0 {ss bt : Nat} {kd tg fs sc bk is rd ac wr un pks rw rr uw br st : Nat → Int32} (h4 : ss ≤ 4) (e1 : ∀ r, r < 8 → rw r = 0) (e2 : ∀ r, r < 8 → rr r = 0) (e3 : ∀ r, r < 18 → uw r = 0) (e4 : ∀ r, r < 4 → br r = 0) (e5 : ∀ r, r < 4 → st r = -1) : sd_I 0 ss bt 0 kd tg fs sc bk is rd ac wr un pks rw rr uw br st :=
  ⟨sd_ok_0, sd_ok_0, sd_ok_0, fun j hj => absurd hj (Nat.not_lt_zero j), fun j hj => absurd hj (Nat.not_lt_zero j), fun r hr => e1 r hr, fun r hr => e2 r hr, fun q u hq hu => e3 _ (by omega), fun b hb => e4 b hb, sd_st_0 e5 h4, Nat.le_refl 0⟩
/-- one instruction more -/
theorem sd_I_s {k ss bt fe fe' : Nat} {kd tg fs sc bk is rd ac wr un pks rw rr uw br st ac' pks' rw' rr' uw' br' st' : Nat → Int32} {q u iss rdv acc w : Nat}
    (I : sd_I k ss bt fe kd tg fs sc bk is rd ac wr un pks rw rr uw br st) (hk : k < 60) (hbt : bt ≤ 8) (hq : q < 6) (hu : u < 3) (ekd : kd k = nI q)
    (hiss : iss ≤ 17 * (k + 1)) (hrd : rdv ≤ 17 * (k + 1)) (hw : w ≤ 17 * (k + 1)) (hiw : iss ≤ w)
    (hacc : q = 4 → acc ≤ 17 * (k + 1) ∧ sd_LA kd ac k ≤ acc ∧ ∀ b, b < 4 → bk k = nI b → sd_BR kd bk ac bt k b ≤ acc + bt)
    (eac : ac' = if q = 4 then upd ac k (nI acc) else ac)
    (hT : ∀ r, r < 8 → tg k = nI r → sd_RW tg wr k r ≤ w)
    (hU : sd_UW kd un wr k q u ≤ w)
    (erw : ∀ r, r < 8 → rw' r = if tg k = nI r then nI w else rw r)
    (err : ∀ r, r < 8 → rr' r = if fs k = nI r ∨ sc k = nI r then nI (max (sd_RR fs sc rd k r) rdv) else rr r)
    (euw : uw' = upd uw (q * 3 + u) (nI w))
    (ebr : ∀ b, b < 4 → br' b = if q = 4 ∧ bk k = nI b then nI (acc + bt) else br b)
    (est : sd_st ss fe' st' pks') (hfe : fe' ≤ k + 1) :
    sd_I (k + 1) ss bt fe' kd tg fs sc bk (upd is k (nI iss)) (upd rd k (nI rdv)) ac' (upd wr k (nI w)) (upd un k (nI u)) pks' rw' rr' uw' br' st' := by
  obtain ⟨i1, i2, i3, i4, i5, i6, i7, i8, i9, i10, i11⟩ := I
  refine ⟨sd_ok_s i1 (by omega) hiss (by omega), sd_ok_s i2 (by omega) hrd (by omega), sd_ok_s i3 (by omega) hw (by omega), ?_, ?_, ?_, ?_, ?_, ?_, est, hfe⟩
  · intro j hj h4
    by_cases e : j = k
    · subst e
      have q4 : q = 4 := (nI_eq (by omega) (by omega)).mp (ekd.symm.trans h4)
      rw [eac, if_pos q4, pk_us, sd_c_s (by have := (hacc q4).1; omega)]
      exact ⟨rfl, (hacc q4).1⟩
    · have h := i4 j (by omega) h4
      have e2 : ac' j = ac j := by
        rw [eac]
        by_cases q4 : q = 4
        · rw [if_pos q4, pk_un e]
        · rw [if_neg q4]
      have e3 : sd_c ac' j = sd_c ac j := congrArg Int32.toNatClampNeg e2
      rw [e2, e3]
      exact ⟨h.1, by omega⟩
  · intro j hj
    by_cases e : j = k
    · subst e
      rw [sd_c_s (by omega), sd_c_s (by omega)]
      exact hiw
    · rw [sd_c_n e, sd_c_n e]
      exact i5 j (by omega)
  · intro r hr
    rw [erw r hr, sd_RW_s (by omega)]
    by_cases e : tg k = nI r
    · have := hT r hr e
      rw [if_pos e, if_pos e, Nat.max_eq_right this]
    · rw [if_neg e, if_neg e]
      exact i6 r hr
  · intro r hr
    rw [err r hr, sd_RR_s (by omega)]
    by_cases e : fs k = nI r ∨ sc k = nI r
    · rw [if_pos e, if_pos e]
    · rw [if_neg e, if_neg e]
      exact i7 r hr
  · intro q' u' hq' hu'
    rw [euw, sd_UW_s (by omega)]
    by_cases e : q' = q ∧ u' = u
    · obtain ⟨rfl, rfl⟩ := e
      rw [pk_us, if_pos ⟨ekd, rfl⟩, Nat.max_eq_right hU]
    · have ne : ¬ (kd k = nI q' ∧ nI u = nI u') := by
        rintro ⟨a, b⟩
        exact e ⟨((nI_eq (by omega) (by omega)).mp (ekd.symm.trans a)).symm, ((nI_eq (by omega) (by omega)).mp b).symm⟩
      rw [if_neg ne, pk_un (by omega)]
      exact i8 q' u' hq' hu'
  · intro b hb
    rw [ebr b hb]
    by_cases q4 : q = 4
    · subst q4
      obtain ⟨a1, a2, a3⟩ := hacc rfl
      rw [eac, if_pos rfl, sd_BR_t (by omega) ekd]
      by_cases e : bk k = nI b
      · rw [if_pos ⟨rfl, e⟩, if_pos e, Nat.max_eq_right (a3 b hb e)]
      · rw [if_neg (fun z => e z.2), if_neg e]
        exact i9 b hb
    · have n4 : ¬ kd k = nI 4 := fun z => q4 ((nI_eq (by omega) (by omega)).mp (ekd.symm.trans z))
      rw [if_neg (fun z => q4 z.1), eac, if_neg q4, sd_BR_f n4]
      exact i9 b hb
