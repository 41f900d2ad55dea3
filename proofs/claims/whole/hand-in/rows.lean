section
theorem pk_us {f : Nat → Int32} {k : Nat} {x : Int32} : upd f k x k = x := if_pos rfl
theorem pk_un {f : Nat → Int32} {k j : Nat} {x : Int32} (h : j ≠ k) : upd f k x j = f j := if_neg h
theorem pk_sub {a b : Nat} (h : b ≤ a) : nI a - nI b = nI (a - b) := by
  obtain ⟨c, rfl⟩ : ∃ c, a = c + b := ⟨a - b, by omega⟩
  rw [← nI_add, Int32.add_sub_cancel, Nat.add_sub_cancel]
theorem pk_m1 (n : Nat) : nI (n + 1) + (-1) = nI n := by
  rw [← nI_1, Int32.add_assoc, show (1 : Int32) + (-1) = 0 from rfl, Int32.add_zero]
theorem pk_mul (a b : Nat) : nI a * nI b = nI (a * b) := (Int32.ofNat_mul a b).symm
theorem pk_div {a d : Nat} (ha : a < 2 ^ 31) (h0 : 0 < d) (hd : d < 2 ^ 31) : nI a / nI d = nI (a / d) := by
  apply Int32.toInt_inj.mp
  rw [lg_idiv_nonneg (by rw [nI_toInt ha]; omega) (by rw [nI_toInt hd]; omega), nI_toInt ha, nI_toInt hd, nI_toInt (Nat.lt_of_le_of_lt (Nat.div_le_self a d) ha)]
  first | rfl | exact (Int.natCast_ediv _ _).symm
theorem pk_ix (x : Int32) {n : Nat} (hn : n < 2 ^ 31) : x < 0 ∨ nI n ≤ x ∨ ∃ j : Nat, j < n ∧ x = nI j := by
  by_cases h : x < 0
  · exact Or.inl h
  · obtain ⟨j, hj, rfl⟩ := nI_of h
    by_cases h2 : j < n
    · exact Or.inr (Or.inr ⟨j, h2, rfl⟩)
    · exact Or.inr (Or.inl (nI_le (by omega) hj))
theorem pk_le {x y : Int32} {A B : Prop} (a b : Nat) (f : a ≤ b → A) (g : b < a → B) (hx : x = nI a := by rfl) (hy : y = nI b := by rfl) (ha : a < 2 ^ 31 := by omega) (hb : b < 2 ^ 31 := by omega) : (x ≤ y → A) ∧ (¬ x ≤ y → B) := by
  subst hx hy
  rw [nI_leI ha hb]
  exact ⟨f, fun z => g (by omega)⟩
theorem pk_lt {x y : Int32} {A B : Prop} (a b : Nat) (f : a < b → A) (g : b ≤ a → B) (hx : x = nI a := by rfl) (hy : y = nI b := by rfl) (ha : a < 2 ^ 31 := by omega) (hb : b < 2 ^ 31 := by omega) : (x < y → A) ∧ (¬ x < y → B) := by
  subst hx hy
  rw [nI_ltI ha hb]
  exact ⟨f, fun z => g (by omega)⟩
theorem pk_eq {x y : Int32} {A B : Prop} (a b : Nat) (f : a = b → A) (g : a ≠ b → B) (hx : x = nI a := by rfl) (hy : y = nI b := by rfl) (ha : a < 2 ^ 31 := by omega) (hb : b < 2 ^ 31 := by omega) : (x = y → A) ∧ (¬ x = y → B) := by
  subst hx hy
  rw [nI_eq ha hb]
  exact ⟨f, g⟩
theorem pk_in {x : Int32} (n N : Nat) (h : n < N) (hx : x = nI n := by rfl) (hN : N < 2 ^ 31 := by omega) : vp_in x N := by
  subst hx
  exact vp_in_nI h hN
theorem pk_cl {x : Int32} (n : Nat) (hx : x = nI n := by rfl) (h : n < 2 ^ 31 := by omega) : x.toNatClampNeg = n := by
  subst hx
  exact nI_clamp h
theorem pk_tn {n : Nat} (h : n < 2 ^ 32) : (nI n).toBitVec.toNat = n := Nat.mod_eq_of_lt h
theorem pk_and (x : Int32) {m : Int32} (k : Nat) (hm : m.toBitVec.toNat = 2 ^ k - 1) : x &&& m = nI (x.toBitVec.toNat % 2 ^ k) := by
  apply Int32.toBitVec_inj.mp
  apply BitVec.eq_of_toNat_eq
  rw [Int32.toBitVec_and, BitVec.toNat_and, hm, Nat.and_two_pow_sub_one_eq_mod]
  show _ = (BitVec.ofNat 32 _).toNat
  rw [BitVec.toNat_ofNat]
  exact (Nat.mod_eq_of_lt (Nat.lt_of_le_of_lt (Nat.mod_le _ _) x.toBitVec.isLt)).symm
theorem pk_andN {n : Nat} (h : n < 2 ^ 32) {m : Int32} (k : Nat) (hm : m.toBitVec.toNat = 2 ^ k - 1) : nI n &&& m = nI (n % 2 ^ k) := by
  rw [pk_and _ k hm, pk_tn h]
theorem pk_andE (x : Int32) {m : Int32} (k : Nat) (hm : m.toBitVec.toNat = 2 ^ k - 1) : ∃ j : Nat, j < 2 ^ k ∧ x &&& m = nI j := ⟨_, Nat.mod_lt _ (Nat.two_pow_pos k), pk_and x k hm⟩
theorem pk_andIn (x : Int32) {m : Int32} (k : Nat) (hm : m.toBitVec.toNat = 2 ^ k - 1) (hk : k ≤ 30) : vp_in (x &&& m) (2 ^ k) := by
  obtain ⟨j, hj, e⟩ := pk_andE x k hm
  rw [e]
  exact vp_in_nI hj (Nat.lt_of_le_of_lt (Nat.pow_le_pow_right (by decide) hk) (by decide))
theorem pk_shr (a s : Int32) (k : Nat) (hs : (s.toBitVec.smod 32).toNat = k) : (a >>> s).toInt = a.toInt >>> k := by
  show (a.toBitVec.sshiftRight (s.toBitVec.smod 32).toNat).toInt = _
  rw [hs, BitVec.toInt_sshiftRight]
  rfl
theorem pk_shrN {n : Nat} (h : n < 2 ^ 31) (s : Int32) (k : Nat) (hs : (s.toBitVec.smod 32).toNat = k) : nI n >>> s = nI (n / 2 ^ k) := by
  apply Int32.toInt_inj.mp
  have h2 : n / 2 ^ k ≤ n := Nat.div_le_self _ _
  rw [pk_shr _ _ k hs, nI_toInt h, nI_toInt (by omega), Int.shiftRight_eq_div_pow]
  rfl
theorem pk_least (P : Nat → Prop) (h : ∃ k, P k) : ∃ k, P k ∧ ∀ j, j < k → ¬ P j := by
  obtain ⟨k, hk⟩ := h
  induction k using Nat.strongRecOn with
  | ind k ih =>
    by_cases e : ∃ j, j < k ∧ P j
    · obtain ⟨j, hj, pj⟩ := e
      exact ih j hj pj
    · exact ⟨k, hk, fun j hj pj => e ⟨j, hj, pj⟩⟩
/-! SD: stores and cells -/
theorem sd_uu {f : Nat → Int32} {k : Nat} {x y : Int32} : upd (upd f k x) k y = upd f k y := by
  funext j
  unfold upd
  by_cases h : j = k
  · rw [if_pos h, if_pos h]
  · rw [if_neg h, if_neg h, if_neg h]
theorem sd_uc {f : Nat → Int32} {i j : Nat} {x y : Int32} (h : i ≠ j) : upd (upd f i x) j y = upd (upd f j y) i x := by
  funext q
  unfold upd
  by_cases h1 : q = j
  · have h2 : ¬ q = i := fun e => h (e.symm.trans h1)
    rw [if_pos h1, if_neg h2, if_pos h1]
  · by_cases h2 : q = i
    · rw [if_neg h1, if_pos h2, if_pos h2]
    · rw [if_neg h1, if_neg h2, if_neg h2, if_neg h1]
theorem sd_ui {f : Nat → Int32} {k : Nat} : upd f k (f k) = f := by
  funext j
  unfold upd
  by_cases h : j = k
  · rw [if_pos h, h]
  · rw [if_neg h]
theorem sd_ne1 {a : Nat} (h : a < 2 ^ 31) : ¬ nI a = -1 := by
  intro e
  have := nI_pos (n := a) h
  rw [e] at this
  exact this (by decide)
theorem sd_ne1' {a : Nat} (h : a < 2 ^ 31) : ¬ -1 = nI a := fun e => sd_ne1 h e.symm
def sd_c (a : Nat → Int32) (j : Nat) : Nat := (a j).toNatClampNeg
theorem sd_c_s {a : Nat → Int32} {k n : Nat} (h : n < 2 ^ 31) : sd_c (upd a k (nI n)) k = n := by
  unfold sd_c
  rw [pk_us, nI_clamp h]
theorem sd_c_n {a : Nat → Int32} {k j : Nat} {x : Int32} (h : j ≠ k) : sd_c (upd a k x) j = sd_c a j := by
  unfold sd_c
  rw [pk_un h]
def sd_ok (a : Nat → Int32) (k B : Nat) : Prop := ∀ j, j < k → a j = nI (sd_c a j) ∧ sd_c a j ≤ B
theorem sd_ok_0 {a : Nat → Int32} {B : Nat} : sd_ok a 0 B := fun j hj => absurd hj (Nat.not_lt_zero j)
theorem sd_ok_s {a : Nat → Int32} {k B B' n : Nat} (h : sd_ok a k B) (hB : B ≤ B') (hn : n ≤ B') (hb : B' < 2 ^ 31) : sd_ok (upd a k (nI n)) (k + 1) B' := by
  intro j hj
  by_cases e : j = k
  · subst e
    rw [pk_us, sd_c_s (by omega)]
    exact ⟨rfl, hn⟩
  · rw [pk_un e, sd_c_n e]
    obtain ⟨h1, h2⟩ := h j (by omega)
    exact ⟨h1, by omega⟩
theorem sd_ok_up {a : Nat → Int32} {k B B' : Nat} (h : sd_ok a k B) (hB : B ≤ B') : sd_ok a k B' := fun j hj => ⟨(h j hj).1, Nat.le_trans (h j hj).2 hB⟩
/-! the greatest of some cells -/
def sd_mx (p : Nat → Bool) (f : Nat → Nat) : Nat → Nat
  | 0 => 0
  | k + 1 => if p k = true then max (sd_mx p f k) (f k) else sd_mx p f k
theorem sd_mx_t {p : Nat → Bool} {f : Nat → Nat} {k : Nat} (h : p k = true) : sd_mx p f (k + 1) = max (sd_mx p f k) (f k) := if_pos h
theorem sd_mx_f {p : Nat → Bool} {f : Nat → Nat} {k : Nat} (h : ¬ p k = true) : sd_mx p f (k + 1) = sd_mx p f k := if_neg h
theorem sd_mx_cg {p q : Nat → Bool} {f g : Nat → Nat} : ∀ k : Nat, (∀ j, j < k → p j = q j) → (∀ j, j < k → p j = true → f j = g j) → sd_mx p f k = sd_mx q g k := by
  intro k
  induction k with
  | zero => intro _ _; rfl
  | succ k ih =>
    intro h1 h2
    have e := ih (fun j hj => h1 j (by omega)) (fun j hj => h2 j (by omega))
    by_cases hp : p k = true
    · rw [sd_mx_t hp, sd_mx_t (by rw [← h1 k (by omega)]; exact hp), e, h2 k (by omega) hp]
    · rw [sd_mx_f hp, sd_mx_f (by rw [← h1 k (by omega)]; exact hp), e]
theorem sd_mx_ge {p : Nat → Bool} {f : Nat → Nat} : ∀ k j : Nat, j < k → p j = true → f j ≤ sd_mx p f k := by
  intro k
  induction k with
  | zero => intro j hj _; omega
  | succ k ih =>
    intro j hj hp
    by_cases e : j = k
    · subst e
      rw [sd_mx_t hp]
      omega
    · have := ih j (by omega) hp
      by_cases hk : p k = true
      · rw [sd_mx_t hk]
        omega
      · rw [sd_mx_f hk]
        exact this
theorem sd_mx_le {p : Nat → Bool} {f : Nat → Nat} {b : Nat} : ∀ k : Nat, (∀ j, j < k → p j = true → f j ≤ b) → sd_mx p f k ≤ b := by
  intro k
  induction k with
  | zero => intro _; exact Nat.zero_le b
  | succ k ih =>
    intro h
    have := ih (fun j hj => h j (by omega))
    by_cases hk : p k = true
    · rw [sd_mx_t hk]
      have := h k (by omega) hk
      omega
    · rw [sd_mx_f hk]
      exact this
/-! an optional register: the cycle before which one waits -/
def sd_o (x : Int32) (F : Nat → Nat) : Nat := if x = -1 then 0 else F x.toNatClampNeg + 1
theorem sd_o_n {F : Nat → Nat} : sd_o (-1) F = 0 := if_pos rfl
theorem sd_o_s {F : Nat → Nat} {r : Nat} (h : r < 2 ^ 31) : sd_o (nI r) F = F r + 1 := by
  unfold sd_o
  rw [if_neg (sd_ne1 h), nI_clamp h]
def sd_rg (x : Int32) : Prop := x = -1 ∨ ∃ r : Nat, r < 8 ∧ x = nI r
theorem sd_o_le {F : Nat → Nat} {x : Int32} {b : Nat} (hx : sd_rg x) (h : ∀ r, r < 8 → F r ≤ b) : sd_o x F ≤ b + 1 := by
  rcases hx with rfl | ⟨r, hr, rfl⟩
  · rw [sd_o_n]; omega
  · rw [sd_o_s (by omega)]
    have := h r hr
    omega
def sd_pt (tg : Nat → Int32) (r j : Nat) : Bool := decide (tg j = nI r)
def sd_pn (tg : Nat → Int32) (f s : Int32) (j : Nat) : Bool := decide (¬ tg j = -1) && (decide (tg j = f) || decide (tg j = s))
/-- the latest WRITE to a source: one loop over both sources, or one register each -/
theorem sd_rdE {tg : Nat → Int32} {f s : Int32} {W : Nat → Nat} {k i : Nat} (hf : sd_rg f) (hs : sd_rg s) :
    max (i + 1) (sd_mx (sd_pn tg f s) W k + 1) = max (max (i + 1) (sd_o f (fun r => sd_mx (sd_pt tg r) W k))) (sd_o s (fun r => sd_mx (sd_pt tg r) W k)) := by
  have key : ∀ x, sd_rg x → (x = f ∨ x = s) → sd_o x (fun r => sd_mx (sd_pt tg r) W k) ≤ sd_mx (sd_pn tg f s) W k + 1 := by
    intro x hx hfs
    rcases hx with rfl | ⟨r, hr, rfl⟩
    · rw [sd_o_n]; omega
    · rw [sd_o_s (by omega)]
      apply Nat.succ_le_succ
      apply sd_mx_le
      intro j hj hp
      apply sd_mx_ge k j hj
      have e : tg j = nI r := of_decide_eq_true hp
      unfold sd_pn
      have e1 : ¬ tg j = -1 := by rw [e]; exact sd_ne1 (by omega)
      rcases hfs with h | h
      · have e2 : tg j = f := e.trans h
        simp only [Bool.and_eq_true, Bool.or_eq_true, decide_eq_true_eq]
        exact ⟨e1, Or.inl e2⟩
      · have e2 : tg j = s := e.trans h
        simp only [Bool.and_eq_true, Bool.or_eq_true, decide_eq_true_eq]
        exact ⟨e1, Or.inr e2⟩
  have hF := key f hf (Or.inl rfl)
  have hS := key s hs (Or.inr rfl)
  have hle : sd_mx (sd_pn tg f s) W k + 1 ≤ max (max (i + 1) (sd_o f (fun r => sd_mx (sd_pt tg r) W k))) (sd_o s (fun r => sd_mx (sd_pt tg r) W k)) := by
    have one : ∀ x, sd_rg x → ∀ j, j < k → ¬ tg j = -1 → tg j = x → W j + 1 ≤ sd_o x (fun r => sd_mx (sd_pt tg r) W k) := by
      intro x hx j hj h1 h2
      rcases hx with rfl | ⟨r, hr, rfl⟩
      · exact absurd h2 h1
      · rw [sd_o_s (by omega)]
        apply Nat.succ_le_succ
        exact sd_mx_ge (p := sd_pt tg r) k j hj (decide_eq_true h2)
    have hm : sd_mx (sd_pn tg f s) W k ≤ max (max (i + 1) (sd_o f (fun r => sd_mx (sd_pt tg r) W k))) (sd_o s (fun r => sd_mx (sd_pt tg r) W k)) - 1 := by
      apply sd_mx_le
      intro j hj hp
      simp only [sd_pn, Bool.and_eq_true, Bool.or_eq_true, decide_eq_true_eq] at hp
      obtain ⟨h1, h2⟩ := hp
      rcases h2 with h2 | h2
      · have := one f hf j hj h1 h2
        omega
      · have := one s hs j hj h1 h2
        omega
    omega
  omega
/-! the least of the first cells -/
def sd_mn (F : Nat → Nat) : Nat → Nat
  | 0 => F 0
  | n + 1 => if F (n + 1) < sd_mn F n then F (n + 1) else sd_mn F n
theorem sd_mn_le {F : Nat → Nat} : ∀ n u : Nat, u ≤ n → sd_mn F n ≤ F u := by
  intro n
  induction n with
  | zero => intro u hu; rw [Nat.le_zero.mp hu]; exact Nat.le_refl _
  | succ n ih =>
    intro u hu
    unfold sd_mn
    by_cases e : u = n + 1
    · subst e
      split <;> omega
    · have := ih u (by omega)
      split <;> omega
theorem sd_mn_ex {F : Nat → Nat} : ∀ n : Nat, ∃ u, u ≤ n ∧ F u = sd_mn F n := by
  intro n
  induction n with
  | zero => exact ⟨0, Nat.le_refl _, rfl⟩
  | succ n ih =>
    obtain ⟨u, h1, h2⟩ := ih
    unfold sd_mn
    split
    · exact ⟨n + 1, Nat.le_refl _, rfl⟩
    · exact ⟨u, by omega, h2⟩
/-! the cycles without an ISSUE -/
def sd_ix (nc come dw c : Nat) : Nat := if c < nc then 0 else if c < come then 1 else if c < dw then 2 else 3
def sd_cnt (nc come dw : Nat) : Nat → Nat → (Nat → Int32) → Nat → Int32
  | 0, _, L => L
  | d + 1, c, L => sd_cnt nc come dw d (c + 1) (upd L (sd_ix nc come dw c) (L (sd_ix nc come dw c) + 1))
/-! THE STACK: slots against the list of what was fetched -/
def sd_st (ss fe : Nat) (st pks : Nat → Int32) : Prop := (∀ i, i < fe → fe ≤ i + ss → st (i % ss) = pks i) ∧ (∀ s, fe ≤ s → s < ss → st s = -1)
theorem sd_st_0 {ss : Nat} {st pks : Nat → Int32} (h : ∀ s, s < 4 → st s = -1) (hs : ss ≤ 4) : sd_st ss 0 st pks := ⟨fun i hi _ => absurd hi (Nat.not_lt_zero i), fun s _ h2 => h s (by omega)⟩
theorem sd_st_h {ss fe : Nat} {st pks : Nat → Int32} {w : Nat} (h : sd_st ss fe st pks) (hw : w < 2 ^ 31) : (∃ s, s < ss ∧ st s = nI w) ↔ (∃ i, i < fe ∧ fe ≤ i + ss ∧ pks i = nI w) := by
  constructor
  · rintro ⟨s, hs, e⟩
    by_cases hf : fe ≤ s
    · have := h.2 s hf hs
      rw [e] at this
      exact absurd this (sd_ne1 hw)
    · have hr : (fe - 1 - s) % ss < ss := Nat.mod_lt _ (by omega)
      have hd := Nat.div_add_mod (fe - 1 - s) ss
      have hi : (s + ss * ((fe - 1 - s) / ss)) % ss = s := by rw [Nat.add_mul_mod_self_left, Nat.mod_eq_of_lt hs]
      refine ⟨s + ss * ((fe - 1 - s) / ss), by omega, by omega, ?_⟩
      rw [← h.1 _ (by omega) (by omega), hi]
      exact e
  · rintro ⟨i, h1, h2, h3⟩
    exact ⟨i % ss, Nat.mod_lt _ (by omega), by rw [h.1 i h1 h2]; exact h3⟩
theorem sd_st_u {ss fe : Nat} {st pks : Nat → Int32} {x : Int32} (h : sd_st ss fe st pks) (h1 : 1 ≤ ss) (h4 : ss ≤ 4) : sd_st ss (fe + 1) (upd st (fe % ss) x) (upd pks fe x) := by
  constructor
  · intro i hi hl
    by_cases e : i = fe
    · subst e
      rw [pk_us, pk_us]
    · have hn : i % ss ≠ fe % ss := by
        rcases (by omega : ss = 1 ∨ ss = 2 ∨ ss = 3 ∨ ss = 4) with rfl | rfl | rfl | rfl <;> omega
      rw [pk_un hn, pk_un e]
      exact h.1 i (by omega) (by omega)
  · intro s hs hl
    have hm : fe % ss = fe := Nat.mod_eq_of_lt (by omega)
    rw [hm, pk_un (by omega)]
    exact h.2 s (by omega) hl
theorem sd_md {ss fe : Nat} (h1 : 1 ≤ ss) (h4 : ss ≤ 4) : (fe + 1) % ss = if fe % ss + 1 < ss then fe % ss + 1 else 0 := by
  rcases (by omega : ss = 1 ∨ ss = 2 ∨ ss = 3 ∨ ss = 4) with rfl | rfl | rfl | rfl <;> split <;> omega
end
section
/-! SD 2: what the scoreboard knows, said of the list of instructions done -/
def sd_ps (fs sc : Nat → Int32) (r j : Nat) : Bool := decide (fs j = nI r) || decide (sc j = nI r)
def sd_pu (kd un : Nat → Int32) (q u j : Nat) : Bool := decide (kd j = nI q) && decide (un j = nI u)
def sd_pb (kd bk : Nat → Int32) (b j : Nat) : Bool := decide (kd j = nI 4) && decide (bk j = nI b)
def sd_pa (kd : Nat → Int32) (j : Nat) : Bool := decide (kd j = nI 4)
def sd_RW (tg wr : Nat → Int32) (k r : Nat) : Nat := sd_mx (sd_pt tg r) (sd_c wr) k
def sd_RR (fs sc rd : Nat → Int32) (k r : Nat) : Nat := sd_mx (sd_ps fs sc r) (sd_c rd) k
def sd_UW (kd un wr : Nat → Int32) (k q u : Nat) : Nat := sd_mx (sd_pu kd un q u) (sd_c wr) k
def sd_BR (kd bk ac : Nat → Int32) (bt k b : Nat) : Nat := sd_mx (sd_pb kd bk b) (fun j => sd_c ac j + bt) k
def sd_LA (kd ac : Nat → Int32) (k : Nat) : Nat := sd_mx (sd_pa kd) (sd_c ac) k
def sd_LW (wr : Nat → Int32) (k : Nat) : Nat := sd_mx (fun _ => true) (sd_c wr) k
def sd_NC (kd is wr : Nat → Int32) (k : Nat) : Nat := if k = 0 then 1 else (if kd (k - 1) = nI 5 then sd_c wr (k - 1) else sd_c is (k - 1)) + 1
def sd_LI (is : Nat → Int32) (k : Nat) : Nat := if k = 0 then 0 else sd_c is (k - 1)
theorem sd_mx_s {p p' : Nat → Bool} {f f' : Nat → Nat} {k w : Nat} (h1 : ∀ j, j < k → p' j = p j) (h2 : ∀ j, j < k → p' j = true → f' j = f j) (hk : f' k = w) : sd_mx p' f' (k + 1) = if p' k = true then max (sd_mx p f k) w else sd_mx p f k := by
  have e := sd_mx_cg (p := p') (q := p) (f := f') (g := f) k h1 h2
  by_cases h : p' k = true
  · rw [sd_mx_t h, if_pos h, e, hk]
  · rw [sd_mx_f h, if_neg h, e]
theorem sd_RW_s {tg wr : Nat → Int32} {k r w : Nat} (hw : w < 2 ^ 31) : sd_RW tg (upd wr k (nI w)) (k + 1) r = if tg k = nI r then max (sd_RW tg wr k r) w else sd_RW tg wr k r := by
  unfold sd_RW
  rw [sd_mx_s (p := sd_pt tg r) (p' := sd_pt tg r) (f := sd_c wr) (f' := sd_c (upd wr k (nI w))) (k := k) (w := w) (fun _ _ => rfl) (fun j hj _ => sd_c_n (by omega)) (sd_c_s hw)]
  simp only [sd_pt, decide_eq_true_eq]
theorem sd_RR_s {fs sc rd : Nat → Int32} {k r w : Nat} (hw : w < 2 ^ 31) : sd_RR fs sc (upd rd k (nI w)) (k + 1) r = if fs k = nI r ∨ sc k = nI r then max (sd_RR fs sc rd k r) w else sd_RR fs sc rd k r := by
  unfold sd_RR
  rw [sd_mx_s (p := sd_ps fs sc r) (p' := sd_ps fs sc r) (f := sd_c rd) (f' := sd_c (upd rd k (nI w))) (k := k) (w := w) (fun _ _ => rfl) (fun j hj _ => sd_c_n (by omega)) (sd_c_s hw)]
  simp only [sd_ps, decide_eq_true_eq, Bool.or_eq_true]
theorem sd_UW_s {kd un wr : Nat → Int32} {k q u w : Nat} {x : Int32} (hw : w < 2 ^ 31) : sd_UW kd (upd un k x) (upd wr k (nI w)) (k + 1) q u = if kd k = nI q ∧ x = nI u then max (sd_UW kd un wr k q u) w else sd_UW kd un wr k q u := by
  unfold sd_UW
  rw [sd_mx_s (p := sd_pu kd un q u) (p' := sd_pu kd (upd un k x) q u) (f := sd_c wr) (f' := sd_c (upd wr k (nI w))) (k := k) (w := w) (fun j hj => by unfold sd_pu; rw [pk_un (by omega)]) (fun j hj _ => sd_c_n (by omega)) (sd_c_s hw)]
  simp only [sd_pu, decide_eq_true_eq, Bool.and_eq_true, pk_us]
theorem sd_LW_s {wr : Nat → Int32} {k w : Nat} (hw : w < 2 ^ 31) : sd_LW (upd wr k (nI w)) (k + 1) = max (sd_LW wr k) w := by
  unfold sd_LW
  rw [sd_mx_s (p := fun _ => true) (p' := fun _ => true) (f := sd_c wr) (f' := sd_c (upd wr k (nI w))) (k := k) (w := w) (fun _ _ => rfl) (fun j hj _ => sd_c_n (by omega)) (sd_c_s hw)]
  exact if_pos rfl
theorem sd_LA_t {kd ac : Nat → Int32} {k w : Nat} (hw : w < 2 ^ 31) (h : kd k = nI 4) : sd_LA kd (upd ac k (nI w)) (k + 1) = max (sd_LA kd ac k) w := by
  unfold sd_LA
  rw [sd_mx_s (p := sd_pa kd) (p' := sd_pa kd) (f := sd_c ac) (f' := sd_c (upd ac k (nI w))) (k := k) (w := w) (fun _ _ => rfl) (fun j hj _ => sd_c_n (by omega)) (sd_c_s hw)]
  exact if_pos (decide_eq_true h)
theorem sd_LA_f {kd ac : Nat → Int32} {k : Nat} (h : ¬ kd k = nI 4) : sd_LA kd ac (k + 1) = sd_LA kd ac k := sd_mx_f (fun e => h (of_decide_eq_true e))
theorem sd_BR_t {kd bk ac : Nat → Int32} {bt k b w : Nat} (hw : w < 2 ^ 31) (h : kd k = nI 4) : sd_BR kd bk (upd ac k (nI w)) bt (k + 1) b = if bk k = nI b then max (sd_BR kd bk ac bt k b) (w + bt) else sd_BR kd bk ac bt k b := by
  unfold sd_BR
  rw [sd_mx_s (p := sd_pb kd bk b) (p' := sd_pb kd bk b) (f := fun j => sd_c ac j + bt) (f' := fun j => sd_c (upd ac k (nI w)) j + bt) (k := k) (w := w + bt) (fun _ _ => rfl) (fun j hj _ => by rw [sd_c_n (by omega)]) (by rw [sd_c_s hw])]
  simp only [sd_pb, decide_eq_true_eq, Bool.and_eq_true, h, true_and]
theorem sd_BR_f {kd bk ac : Nat → Int32} {bt k b : Nat} (h : ¬ kd k = nI 4) : sd_BR kd bk ac bt (k + 1) b = sd_BR kd bk ac bt k b := by
  apply sd_mx_f
  intro e
  simp only [sd_pb, Bool.and_eq_true, decide_eq_true_eq] at e
  exact h e.1
theorem sd_NC_s {kd is wr : Nat → Int32} {k i w : Nat} (hi : i < 2 ^ 31) (hw : w < 2 ^ 31) : sd_NC kd (upd is k (nI i)) (upd wr k (nI w)) (k + 1) = (if kd k = nI 5 then w else i) + 1 := by
  unfold sd_NC
  rw [if_neg (by omega), Nat.add_sub_cancel, sd_c_s hi, sd_c_s hw]
theorem sd_LI_s {is : Nat → Int32} {k i : Nat} (hi : i < 2 ^ 31) : sd_LI (upd is k (nI i)) (k + 1) = i := by
  unfold sd_LI
  rw [if_neg (by omega), Nat.add_sub_cancel, sd_c_s hi]
/-- what holds after k instructions -/
def sd_I (k ss bt fe : Nat) (kd tg fs sc bk is rd ac wr un pks rw rr uw br st : Nat → Int32) : Prop :=
  sd_ok is k (17 * k) ∧ sd_ok rd k (17 * k) ∧ sd_ok wr k (17 * k)
  ∧ (∀ j, j < k → kd j = nI 4 → ac j = nI (sd_c ac j) ∧ sd_c ac j ≤ 17 * k)
  ∧ (∀ j, j < k → sd_c is j ≤ sd_c wr j)
  ∧ (∀ r, r < 8 → rw r = nI (sd_RW tg wr k r))
  ∧ (∀ r, r < 8 → rr r = nI (sd_RR fs sc rd k r))
  ∧ (∀ q u, q < 6 → u < 3 → uw (q * 3 + u) = nI (sd_UW kd un wr k q u))
  ∧ (∀ b, b < 4 → br b = nI (sd_BR kd bk ac bt k b))
  ∧ sd_st ss fe st pks ∧ fe ≤ k
theorem sd_RW_b {tg wr : Nat → Int32} {k r B : Nat} (h : sd_ok wr k B) : sd_RW tg wr k r ≤ B := sd_mx_le k (fun j hj _ => (h j hj).2)
theorem sd_RR_b {fs sc rd : Nat → Int32} {k r B : Nat} (h : sd_ok rd k B) : sd_RR fs sc rd k r ≤ B := sd_mx_le k (fun j hj _ => (h j hj).2)
theorem sd_UW_b {kd un wr : Nat → Int32} {k q u B : Nat} (h : sd_ok wr k B) : sd_UW kd un wr k q u ≤ B := sd_mx_le k (fun j hj _ => (h j hj).2)
theorem sd_LW_b {wr : Nat → Int32} {k B : Nat} (h : sd_ok wr k B) : sd_LW wr k ≤ B := sd_mx_le k (fun j hj _ => (h j hj).2)
theorem sd_LA_b {kd ac : Nat → Int32} {k B : Nat} (h : ∀ j, j < k → kd j = nI 4 → ac j = nI (sd_c ac j) ∧ sd_c ac j ≤ B) : sd_LA kd ac k ≤ B := sd_mx_le k (fun j hj hp => (h j hj (of_decide_eq_true hp)).2)
theorem sd_BR_b {kd bk ac : Nat → Int32} {bt k b B : Nat} (h : ∀ j, j < k → kd j = nI 4 → ac j = nI (sd_c ac j) ∧ sd_c ac j ≤ B) : sd_BR kd bk ac bt k b ≤ B + bt := by
  apply sd_mx_le k
  intro j hj hp
  simp only [sd_pb, Bool.and_eq_true, decide_eq_true_eq] at hp
  have := (h j hj hp.1).2
  omega
theorem sd_NC_b {kd is wr : Nat → Int32} {k B : Nat} (h1 : sd_ok is k B) (h2 : sd_ok wr k B) : sd_NC kd is wr k ≤ B + 1 := by
  unfold sd_NC
  by_cases h : k = 0
  · rw [if_pos h]; omega
  · rw [if_neg h]
    have a := (h1 (k - 1) (by omega)).2
    have b := (h2 (k - 1) (by omega)).2
    split <;> omega
theorem sd_LI_NC {kd is wr : Nat → Int32} {k : Nat} (h : ∀ j, j < k → sd_c is j ≤ sd_c wr j) : sd_LI is k + 1 ≤ sd_NC kd is wr k := by
  unfold sd_LI sd_NC
  by_cases e : k = 0
  · rw [if_pos e, if_pos e]; omega
  · rw [if_neg e, if_neg e]
    have := h (k - 1) (by omega)
    split <;> omega
theorem sd_I_cg {k ss bt fe : Nat} {kd tg fs sc bk is rd ac wr un pks rw rr uw br st kd' tg' fs' sc' bk' : Nat → Int32} (I : sd_I k ss bt fe kd tg fs sc bk is rd ac wr un pks rw rr uw br st) (h1 : ∀ j, j < k → kd' j = kd j) (h2 : ∀ j, j < k → tg' j = tg j) (h3 : ∀ j, j < k → fs' j = fs j) (h4 : ∀ j, j < k → sc' j = sc j) (h5 : ∀ j, j < k → bk' j = bk j) : sd_I k ss bt fe kd' tg' fs' sc' bk' is rd ac wr un pks rw rr uw br st := by
  obtain ⟨i1, i2, i3, i4, i5, i6, i7, i8, i9, i10, i11⟩ := I
  refine ⟨i1, i2, i3, fun j hj hk => i4 j hj (by rw [← h1 j hj]; exact hk), i5, fun r hr => ?_, fun r hr => ?_, fun q u hq hu => ?_, fun b hb => ?_, i10, i11⟩
  · rw [i6 r hr]
    exact congrArg nI (sd_mx_cg k (fun j hj => by unfold sd_pt; rw [h2 j hj]) (fun _ _ _ => rfl))
  · rw [i7 r hr]
    exact congrArg nI (sd_mx_cg k (fun j hj => by unfold sd_ps; rw [h3 j hj, h4 j hj]) (fun _ _ _ => rfl))
  · rw [i8 q u hq hu]
    exact congrArg nI (sd_mx_cg k (fun j hj => by unfold sd_pu; rw [h1 j hj]) (fun _ _ _ => rfl))
  · rw [i9 b hb]
    exact congrArg nI (sd_mx_cg k (fun j hj => by unfold sd_pb; rw [h1 j hj, h5 j hj]) (fun _ _ _ => rfl))
theorem sd_LA_cg {kd ac kd' : Nat → Int32} {k : Nat} (h1 : ∀ j, j < k → kd' j = kd j) : sd_LA kd' ac k = sd_LA kd ac k := sd_mx_cg k (fun j hj => by unfold sd_pa; rw [h1 j hj]) (fun _ _ _ => rfl)
theorem sd_NC_cg {kd is wr kd' : Nat → Int32} {k : Nat} (h1 : ∀ j, j < k → kd' j = kd j) : sd_NC kd' is wr k = sd_NC kd is wr k := by
  unfold sd_NC
  by_cases h : k = 0
  · rw [if_pos h, if_pos h]
  · rw [if_neg h, if_neg h, h1 (k - 1) (by omega)]
theorem sd_I_0 {ss bt : Nat} {kd tg fs sc bk is rd ac wr un pks rw rr uw br st : Nat → Int32} (h4 : ss ≤ 4) (e1 : ∀ r, r < 8 → rw r = 0) (e2 : ∀ r, r < 8 → rr r = 0) (e3 : ∀ r, r < 18 → uw r = 0) (e4 : ∀ r, r < 4 → br r = 0) (e5 : ∀ r, r < 4 → st r = -1) : sd_I 0 ss bt 0 kd tg fs sc bk is rd ac wr un pks rw rr uw br st :=
  ⟨sd_ok_0, sd_ok_0, sd_ok_0, fun j hj => absurd hj (Nat.not_lt_zero j), fun j hj => absurd hj (Nat.not_lt_zero j), fun r hr => e1 r hr, fun r hr => e2 r hr, fun q u hq hu => e3 _ (by omega), fun b hb => e4 b hb, sd_st_0 e5 h4, Nat.le_refl 0⟩
/-- one instruction more -/
theorem sd_I_s {k ss bt fe fe' : Nat} {kd tg fs sc bk is rd ac wr un pks rw rr uw br st ac' pks' rw' rr' uw' br' st' : Nat → Int32} {q u iss rdv acc w : Nat}
    (I : sd_I k ss bt fe kd tg fs sc bk is rd ac wr un pks rw rr uw br st) (hk : k < 60) (hbt : bt ≤ 8) (hq : q < 6) (hu : u < 3) (ekd : kd k = nI q)
    (hiss : iss ≤ 17 * (k + 1)) (hrd : rdv ≤ 17 * (k + 1)) (hw : w ≤ 17 * (k + 1)) (hiw : iss ≤ w)
    (hacc : q = 4 → acc ≤ 17 * (k + 1) ∧ sd_LA kd ac k ≤ acc ∧ ∀ b, b < 4 → bk k = nI b → sd_BR kd bk ac bt k b ≤ acc + bt)
    (eac : ac' = if q = 4 then upd ac k (nI acc) else ac)
    (hT : ∀ r, r < 8 → tg k = nI r → sd_RW tg wr k r ≤ w)
    (hU : sd_UW kd un wr k q u ≤ w)
    (erw : ∀ r, r < 8 → rw' r = if tg k = nI r then nI w else rw r)
    (err : ∀ r, r < 8 → rr' r = if fs k = nI r ∨ sc k = nI r then nI (max (sd_RR fs sc rd k r) rdv) else rr r)
    (euw : uw' = upd uw (q * 3 + u) (nI w))
    (ebr : ∀ b, b < 4 → br' b = if q = 4 ∧ bk k = nI b then nI (acc + bt) else br b)
    (est : sd_st ss fe' st' pks') (hfe : fe' ≤ k + 1) :
    sd_I (k + 1) ss bt fe' kd tg fs sc bk (upd is k (nI iss)) (upd rd k (nI rdv)) ac' (upd wr k (nI w)) (upd un k (nI u)) pks' rw' rr' uw' br' st' := by
  obtain ⟨i1, i2, i3, i4, i5, i6, i7, i8, i9, i10, i11⟩ := I
  refine ⟨sd_ok_s i1 (by omega) hiss (by omega), sd_ok_s i2 (by omega) hrd (by omega), sd_ok_s i3 (by omega) hw (by omega), ?_, ?_, ?_, ?_, ?_, ?_, est, hfe⟩
  · intro j hj h4
    by_cases e : j = k
    · subst e
      have q4 : q = 4 := (nI_eq (by omega) (by omega)).mp (ekd.symm.trans h4)
      rw [eac, if_pos q4, pk_us, sd_c_s (by have := (hacc q4).1; omega)]
      exact ⟨rfl, (hacc q4).1⟩
    · have h := i4 j (by omega) h4
      have e2 : ac' j = ac j := by
        rw [eac]
        by_cases q4 : q = 4
        · rw [if_pos q4, pk_un e]
        · rw [if_neg q4]
      have e3 : sd_c ac' j = sd_c ac j := congrArg Int32.toNatClampNeg e2
      rw [e2, e3]
      exact ⟨h.1, by omega⟩
  · intro j hj
    by_cases e : j = k
    · subst e
      rw [sd_c_s (by omega), sd_c_s (by omega)]
      exact hiw
    · rw [sd_c_n e, sd_c_n e]
      exact i5 j (by omega)
  · intro r hr
    rw [erw r hr, sd_RW_s (by omega)]
    by_cases e : tg k = nI r
    · have := hT r hr e
      rw [if_pos e, if_pos e, Nat.max_eq_right this]
    · rw [if_neg e, if_neg e]
      exact i6 r hr
  · intro r hr
    rw [err r hr, sd_RR_s (by omega)]
    by_cases e : fs k = nI r ∨ sc k = nI r
    · rw [if_pos e, if_pos e]
    · rw [if_neg e, if_neg e]
      exact i7 r hr
  · intro q' u' hq' hu'
    rw [euw, sd_UW_s (by omega)]
    by_cases e : q' = q ∧ u' = u
    · obtain ⟨rfl, rfl⟩ := e
      rw [pk_us, if_pos ⟨ekd, rfl⟩, Nat.max_eq_right hU]
    · have ne : ¬ (kd k = nI q' ∧ nI u = nI u') := by
        rintro ⟨a, b⟩
        exact e ⟨((nI_eq (by omega) (by omega)).mp (ekd.symm.trans a)).symm, ((nI_eq (by omega) (by omega)).mp b).symm⟩
      rw [if_neg ne, pk_un (by omega)]
      exact i8 q' u' hq' hu'
  · intro b hb
    rw [ebr b hb]
    by_cases q4 : q = 4
    · subst q4
      obtain ⟨a1, a2, a3⟩ := hacc rfl
      rw [eac, if_pos rfl, sd_BR_t (by omega) ekd]
      by_cases e : bk k = nI b
      · rw [if_pos ⟨rfl, e⟩, if_pos e, Nat.max_eq_right (a3 b hb e)]
      · rw [if_neg (fun z => e z.2), if_neg e]
        exact i9 b hb
    · have n4 : ¬ kd k = nI 4 := fun z => q4 ((nI_eq (by omega) (by omega)).mp (ekd.symm.trans z))
      rw [if_neg (fun z => q4 z.1), eac, if_neg q4, sd_BR_f n4]
      exact i9 b hb
end
section
/-! SD 3: X's small methods -/
def sd_lt (n : Nat) (v : Int32) : Prop := ∃ r : Nat, r < n ∧ v = nI r
theorem sd_lt_1 {n : Nat} {v : Int32} (hn : n < 2 ^ 31) : sd_lt n v ↔ 0 ≤ v ∧ v < nI n := by
  constructor
  · rintro ⟨r, hr, rfl⟩
    exact ⟨nI_pos' (by omega), nI_lt hr hn⟩
  · rintro ⟨h0, h1⟩
    obtain ⟨j, hj, rfl⟩ := nI_of (x := v) (Int32.not_lt.mpr h0)
    exact ⟨j, (nI_ltI hj hn).mp h1, rfl⟩
theorem sd_lt_2 {n : Nat} {v : Int32} (hn : n + 1 < 2 ^ 31) : sd_lt (n + 1) v ↔ 0 ≤ v ∧ v ≤ nI n := by
  constructor
  · rintro ⟨r, hr, rfl⟩
    exact ⟨nI_pos' (by omega), nI_le (by omega) (by omega)⟩
  · rintro ⟨h0, h1⟩
    obtain ⟨j, hj, rfl⟩ := nI_of (x := v) (Int32.not_lt.mpr h0)
    exact ⟨j, by have := (nI_leI hj (by omega)).mp h1; omega, rfl⟩
theorem sx_w {post : Int32 → Prop} {v a b : Int32} (h1 : a ≤ v → v ≤ b → post 1) (h0 : ¬ (a ≤ v ∧ v ≤ b) → post 0) : wpX_within post v a b := by
  refine ⟨fun h => h0 (fun z => ?_), fun h => ⟨fun g => h0 (fun z => ?_), fun g => h1 (Int32.not_lt.mp h) (Int32.not_lt.mp g)⟩⟩
  · exact Int32.not_lt.mpr z.1 h
  · exact Int32.not_lt.mpr z.2 g
theorem sx_w0 {post : Int32 → Prop} {v : Int32} (n : Nat) (hn : n + 1 < 2 ^ 31) (h1 : sd_lt (n + 1) v → post 1) (h0 : ¬ sd_lt (n + 1) v → post 0) : wpX_within post v 0 (nI n) :=
  sx_w (fun a b => h1 ((sd_lt_2 hn).mpr ⟨a, b⟩)) (fun z => h0 (fun y => z ((sd_lt_2 hn).mp y)))
theorem sx_wt {post : Int32 → Prop} {j : Nat} (a b : Nat) (h1 : a ≤ j) (h2 : j ≤ b) (hb : b < 2 ^ 31) (h : post 1) : wpX_within post (nI j) (nI a) (nI b) :=
  sx_w (fun _ _ => h) (fun z => absurd ⟨nI_le h1 (by omega), nI_le h2 hb⟩ z)
theorem sx_wf {post : Int32 → Prop} {j : Nat} (a b : Nat) (h1 : j < a ∨ b < j) (ha : a < 2 ^ 31) (hj : j < 2 ^ 31) (hb : b < 2 ^ 31) (h : post 0) : wpX_within post (nI j) (nI a) (nI b) :=
  sx_w (fun x y => absurd h1 (by have := (nI_leI ha hj).mp x; have := (nI_leI hj hb).mp y; omega)) (fun _ => h)
theorem sy_w {post : Int32 → Prop} {v : Int32} (n : Nat) (hn : n < 2 ^ 31) (h1 : sd_lt n v → post 1) (h0 : ¬ sd_lt n v → post 0) : wpY_in post v (nI n) := by
  refine ⟨fun h => h0 (fun z => ?_), fun h => ⟨fun g => h0 (fun z => ?_), fun g => h1 ((sd_lt_1 hn).mpr ⟨Int32.not_lt.mp h, Int32.not_le.mp g⟩)⟩⟩
  · exact Int32.not_lt.mpr ((sd_lt_1 hn).mp z).1 h
  · exact Int32.not_le.mpr ((sd_lt_1 hn).mp z).2 g
theorem sd_n0 : narrow .boolean (.int 0) = .int 0 := rfl
theorem sd_n1 : narrow .boolean (.int 1) = .int 1 := rfl
theorem sx_reg {post : Int32 → Prop} {v : Int32} (h1 : sd_lt 8 v → post 1) (h0 : ¬ sd_lt 8 v → post 0) : wpX_isRegister post v :=
  sx_w0 (post := fun r => narrow .boolean (.int r) = .int r ∧ post r) 7 (by omega) (fun h => ⟨sd_n1, h1 h⟩) (fun h => ⟨sd_n0, h0 h⟩)
theorem sx_gr {post : Int32 → Prop} {a b : Nat} (ha : a < 2 ^ 31) (hb : b < 2 ^ 31) (h : post (nI (max a b))) : wpX_greater post (nI a) (nI b) :=
  pk_le a b (fun z => by rw [Nat.max_eq_right z] at h; exact h) (fun z => by rw [Nat.max_eq_left (by omega)] at h; exact h) rfl rfl ha hb
/-! what an instruction names -/
def sd_kd (o : Nat) : Nat := if o = 0 then 0 else if o < 4 then 1 else if o = 4 then 2 else if o = 5 then 3 else if o < 8 then 4 else 5
theorem sd_kd_lt (o : Nat) : sd_kd o < 6 := by
  unfold sd_kd
  repeat' split
  all_goals omega
theorem sd_kd_4 (o : Nat) : sd_kd o = 4 ↔ o = 6 ∨ o = 7 := by
  unfold sd_kd
  repeat' split
  all_goals omega
theorem sd_kd_5 (o : Nat) : sd_kd o = 5 ↔ 8 ≤ o := by
  unfold sd_kd
  repeat' split
  all_goals omega
def sd_tg (o : Nat) (d : Int32) : Int32 := if o < 7 then d else -1
def sd_fs (o : Nat) (a : Int32) : Int32 := if 0 < o ∧ o < 9 then a else -1
def sd_sc (o : Nat) (d b : Int32) : Int32 := if o = 7 then d else if 0 < o ∧ o < 6 then b else -1
def sd_wf (op d a b : Int32) : Prop := ∃ n : Nat, n ≤ 10 ∧ op = nI n ∧ (n < 8 → sd_lt 8 d) ∧ (0 < n → n < 9 → sd_lt 8 a) ∧ (0 < n → n < 6 → sd_lt 8 b) ∧ (n = 8 ∨ n = 9 → sd_lt 24 b)
/-- the same of an instruction that is done: its op is n -/
def sd_wg (n : Nat) (op d a b : Int32) : Prop := n ≤ 9 ∧ op = nI n ∧ (n < 8 → sd_lt 8 d) ∧ (0 < n → n < 9 → sd_lt 8 a) ∧ (0 < n → n < 6 → sd_lt 8 b) ∧ (n = 8 ∨ n = 9 → sd_lt 24 b)
theorem sd_wg_of {op d a b : Int32} (h : sd_wf op d a b) (h10 : ¬ op = 10) : ∃ n, sd_wg n op d a b := by
  obtain ⟨n, h1, h2, h3⟩ := h
  refine ⟨n, ?_, h2, h3⟩
  by_cases e : n = 10
  · exact absurd (by rw [h2, e]; rfl) h10
  · omega
theorem sd_tg_r {n : Nat} {op d a b : Int32} (h : sd_wg n op d a b) : sd_rg (sd_tg n d) := by
  unfold sd_tg
  split
  · exact Or.inr (h.2.2.1 (by omega))
  · exact Or.inl rfl
theorem sd_fs_r {n : Nat} {op d a b : Int32} (h : sd_wg n op d a b) : sd_rg (sd_fs n a) := by
  unfold sd_fs
  split
  · exact Or.inr (h.2.2.2.1 (by omega) (by omega))
  · exact Or.inl rfl
theorem sd_sc_r {n : Nat} {op d a b : Int32} (h : sd_wg n op d a b) : sd_rg (sd_sc n d b) := by
  unfold sd_sc
  split
  · exact Or.inr (h.2.2.1 (by omega))
  · split
    · exact Or.inr (h.2.2.2.2.1 (by omega) (by omega))
    · exact Or.inl rfl
theorem sd_10 {n : Nat} (h : n ≤ 9) : n = 0 ∨ n = 1 ∨ n = 2 ∨ n = 3 ∨ n = 4 ∨ n = 5 ∨ n = 6 ∨ n = 7 ∨ n = 8 ∨ n = 9 := by omega
theorem sx_kind {post : Int32 → Prop} {n : Nat} (h : n ≤ 9) (hp : post (nI (sd_kd n))) : wpX_kindOf post (nI n) := by
  unfold wpX_kindOf
  rcases sd_10 h with rfl | rfl | rfl | rfl | rfl | rfl | rfl | rfl | rfl | rfl
  all_goals repeat (first | exact hp | refine br_t (by decide) ?_ | refine br_f (by decide) ?_)
theorem sy_kind {post : Int32 → Prop} {n : Nat} (h : n ≤ 9) (hp : post (nI (sd_kd n))) : wpY_kindOf post (nI n) := by
  unfold wpY_kindOf
  rcases sd_10 h with rfl | rfl | rfl | rfl | rfl | rfl | rfl | rfl | rfl | rfl
  all_goals repeat (first | exact hp | refine br_t (by decide) ?_ | refine br_f (by decide) ?_)
theorem sx_mem {post : Int32 → Prop} {n : Nat} (h : n ≤ 9) (h1 : n = 6 ∨ n = 7 → post 1) (h0 : ¬ (n = 6 ∨ n = 7) → post 0) : wpX_usesMemory post (nI n) :=
  pk_eq n 6 (fun e => h1 (Or.inl e)) (fun e => pk_eq n 7 (fun g => h1 (Or.inr g)) (fun g => h0 (by omega)))
theorem sx_jump {post : Int32 → Prop} {n : Nat} (h : n ≤ 9) (h1 : 8 ≤ n → post 1) (h0 : n < 8 → post 0) : wpX_isJump post (nI n) :=
  pk_eq n 8 (fun e => h1 (by omega)) (fun e => pk_eq n 9 (fun g => h1 (by omega)) (fun g => h0 (by omega)))
section SDX
variable {len ss ft bt dn lw od nc li la : Int32} {oo dd aa bb rg wd uc lt rc ls rw rr uw br st : Nat → Int32}
theorem sx_dest {post : Int32 → Prop} {p n : Nat} (hp : p < 24) (ho : oo p = nI n) (hn : n ≤ 9) (h : post (sd_tg n (dd p))) : wpX_destinationOf post (len, ss, ft, bt, dn, lw, od, nc, li, la, oo, dd, aa, bb, rg, wd, uc, lt, rc, ls, rw, rr, uw, br, st) (nI p) := by
  have c : (nI p).toNatClampNeg = p := nI_clamp (by omega)
  have w : vp_in (nI p) 24 := vp_in_nI hp (by omega)
  unfold sd_tg at h
  refine ⟨w, ?_⟩
  rw [c, ho]
  by_cases e : n < 7
  · rw [if_pos e] at h
    exact sx_wt 0 6 (by omega) (by omega) (by omega) (br_f (by decide) ⟨w, h⟩)
  · rw [if_neg e] at h
    exact sx_wf 0 6 (by omega) (by omega) (by omega) (by omega) (br_t rfl h)
theorem sx_first {post : Int32 → Prop} {p n : Nat} (hp : p < 24) (ho : oo p = nI n) (hn : n ≤ 9) (h : post (sd_fs n (aa p))) : wpX_firstSourceOf post (len, ss, ft, bt, dn, lw, od, nc, li, la, oo, dd, aa, bb, rg, wd, uc, lt, rc, ls, rw, rr, uw, br, st) (nI p) := by
  have c : (nI p).toNatClampNeg = p := nI_clamp (by omega)
  have w : vp_in (nI p) 24 := vp_in_nI hp (by omega)
  unfold sd_fs at h
  refine ⟨w, ?_⟩
  rw [c, ho]
  by_cases e : 0 < n ∧ n < 9
  · rw [if_pos e] at h
    exact sx_wt 1 8 (by omega) (by omega) (by omega) (br_f (by decide) ⟨w, h⟩)
  · rw [if_neg e] at h
    exact sx_wf 1 8 (by omega) (by omega) (by omega) (by omega) (br_t rfl h)
theorem sx_second {post : Int32 → Prop} {p n : Nat} (hp : p < 24) (ho : oo p = nI n) (hn : n ≤ 9) (h : post (sd_sc n (dd p) (bb p))) : wpX_secondSourceOf post (len, ss, ft, bt, dn, lw, od, nc, li, la, oo, dd, aa, bb, rg, wd, uc, lt, rc, ls, rw, rr, uw, br, st) (nI p) := by
  have c : (nI p).toNatClampNeg = p := nI_clamp (by omega)
  have w : vp_in (nI p) 24 := vp_in_nI hp (by omega)
  unfold sd_sc at h
  refine ⟨w, ?_⟩
  rw [c, ho]
  refine pk_eq n 7 (fun e => ⟨w, ?_⟩) (fun e => ⟨w, ?_⟩)
  · rw [if_pos e] at h
    exact h
  · rw [if_neg e] at h
    by_cases e2 : 0 < n ∧ n < 6
    · rw [if_pos e2] at h
      exact sx_wt 1 5 (by omega) (by omega) (by omega) (br_f (by decide) ⟨w, h⟩)
    · rw [if_neg e2] at h
      exact sx_wf 1 5 (by omega) (by omega) (by omega) (by omega) (br_t rfl h)
theorem sx_addr {post : Int32 → Prop} {p r : Nat} (hp : p < 24) (hr : r < 8) (ha : aa p = nI r) (h : post ((rg r + bb p) &&& 31)) : wpX_addressOf post (len, ss, ft, bt, dn, lw, od, nc, li, la, oo, dd, aa, bb, rg, wd, uc, lt, rc, ls, rw, rr, uw, br, st) (nI p) := by
  have c : (nI p).toNatClampNeg = p := nI_clamp (by omega)
  have w : vp_in (nI p) 24 := vp_in_nI hp (by omega)
  have c2 : (nI r).toNatClampNeg = r := nI_clamp (by omega)
  refine ⟨w, ?_⟩
  rw [c, ha, c2]
  exact ⟨vp_in_nI hr (by omega), w, h⟩
theorem sx_goes {post : Int32 → Prop} {p L : Nat} (hp : p ≤ 24) (hL : L ≤ 24) (h1 : p < L → ¬ oo p = 10 → post 1) (h0 : ¬ (p < L ∧ ¬ oo p = 10) → post 0) : wpX_goesOnAt post (nI L, ss, ft, bt, dn, lw, od, nc, li, la, oo, dd, aa, bb, rg, wd, uc, lt, rc, ls, rw, rr, uw, br, st) (nI p) := by
  have c : (nI p).toNatClampNeg = p := nI_clamp (by omega)
  have key : ∀ Q : Int32 → Prop, (p < L → Q 1) → (¬ p < L → Q 0) → wpX_within Q (nI p) 0 (nI L - 1) := by
    intro Q q1 q0
    by_cases e : L = 0
    · subst e
      refine sx_w (fun _ z => absurd z ?_) (fun _ => q0 (by omega))
      have e1 : nI 0 - 1 = (-1 : Int32) := by decide
      rw [e1]
      intro z
      exact nI_pos (n := p) (by omega) (Int32.lt_of_le_of_lt z (by decide))
    · obtain ⟨l, rfl⟩ : ∃ l, L = l + 1 := ⟨L - 1, by omega⟩
      rw [nI_pred]
      by_cases g : p < l + 1
      · exact sx_wt 0 l (by omega) (by omega) (by omega) (q1 g)
      · exact sx_wf 0 l (by omega) (by omega) (by omega) (by omega) (q0 g)
  unfold wpX_goesOnAt
  dsimp only
  refine key _ (fun g => ?_) (fun g => ?_)
  · refine br_f (by decide) ⟨vp_in_nI (by omega) (by omega), ?_⟩
    rw [c]
    exact ⟨fun e => h0 (fun z => z.2 e), fun e => h1 g e⟩
  · exact br_t rfl (h0 (fun z => g z.1))
end SDX
end
section
/-! SD 4: X's scoreboard -/
theorem sx_grE {post : Int32 → Prop} {x y : Int32} (a b : Nat) (hx : x = nI a) (hy : y = nI b) (ha : a < 2 ^ 31) (hb : b < 2 ^ 31) (h : post (nI (max a b))) : wpX_greater post x y := by
  subst hx hy
  exact sx_gr ha hb h
def sd_nx (S O : Nat) : Nat := if O + 1 < S then O + 1 else 0
theorem sd_mn_s {U : Nat → Nat} {i : Nat} : sd_mn U (i + 1) = if U (i + 1) < sd_mn U i then U (i + 1) else sd_mn U i := rfl
theorem sd_cnt_s {N come dw d c : Nat} {L : Nat → Int32} : sd_cnt N come dw (d + 1) c L = sd_cnt N come dw d (c + 1) (upd L (sd_ix N come dw c) (L (sd_ix N come dw c) + 1)) := rfl
theorem sd_q3 {q u : Nat} (hq : q < 6) (hu : u < 3) : (nI q * 3 + nI u).toNatClampNeg = q * 3 + u ∧ vp_in (nI q * 3 + nI u) 18 := by
  have e : nI q * 3 = nI (q * 3) := pk_mul q 3
  rw [e, nI_add]
  exact ⟨nI_clamp (by omega), vp_in_nI (by omega) (by omega)⟩
section SDX4
variable {len ss ft bt dn lw od nc li la : Int32} {oo dd aa bb rg wd uc lt rc ls rw rr uw br st : Nat → Int32}
theorem sx_fw {post : Int32 → SX → Prop} {S O w : Nat} (hS : S ≤ 4) (hO : O < S) (h1 : (∃ s, s < S ∧ st s = nI w) → post 0 (len, nI S, ft, bt, dn, lw, nI O, nc, li, la, oo, dd, aa, bb, rg, wd, uc, lt, rc, ls, rw, rr, uw, br, st)) (h0 : (∀ s, s < S → ¬ st s = nI w) → post ft (len, nI S, ft, bt, dn, lw, nI (sd_nx S O), nc, li, la, oo, dd, aa, bb, rg, wd, uc, lt, rc, ls, rw, rr, uw, br, upd st O (nI w))) :
    ∀ d s, s + d = S → (∀ s', s' < s → ¬ st s' = nI w) → wX_fetchWait_2 post (nI w) len (nI S) ft bt dn lw (nI O) nc li la oo dd aa bb rg wd uc lt rc ls rw rr uw br st (d + 1) (nI s) := by
  intro d
  induction d with
  | zero =>
    intro s hs hn
    have c : (nI O).toNatClampNeg = O := nI_clamp (by omega)
    have h0 := h0 (fun s' hs' => hn s' (by omega))
    unfold sd_nx at h0
    rw [wX_fetchWait_2]
    refine br_t (nI_le (by omega) (by omega)) ⟨vp_in_nI (by omega) (by omega), nm_r (e' := upd st O (nI w)) (by rw [c]) ?_⟩
    refine pk_le S (O + 1) (fun e => ?_) (fun e => nm_r (nI_1 O) ?_) rfl (nI_1 O)
    · rw [if_neg (by omega)] at h0
      exact h0
    · rw [if_pos (by omega)] at h0
      exact h0
  | succ d ih =>
    intro s hs hn
    have c : (nI s).toNatClampNeg = s := nI_clamp (by omega)
    rw [wX_fetchWait_2]
    refine br_f (nI_ge (by omega) (by omega)) ⟨vp_in_nI (by omega) (by omega), ?_⟩
    rw [c]
    refine ⟨fun e => h1 ⟨s, by omega, e⟩, fun e => nm_r (nI_1 s) (ih (s + 1) (by omega) (fun s' hs' => ?_))⟩
    by_cases g : s' = s
    · rw [g]; exact e
    · exact hn s' (by omega)
theorem sx_fetch {post : Int32 → SX → Prop} {S O w : Nat} (hS : S ≤ 4) (hO : O < S) (h1 : (∃ s, s < S ∧ st s = nI w) → post 0 (len, nI S, ft, bt, dn, lw, nI O, nc, li, la, oo, dd, aa, bb, rg, wd, uc, lt, rc, ls, rw, rr, uw, br, st)) (h0 : (∀ s, s < S → ¬ st s = nI w) → post ft (len, nI S, ft, bt, dn, lw, nI (sd_nx S O), nc, li, la, oo, dd, aa, bb, rg, wd, uc, lt, rc, ls, rw, rr, uw, br, upd st O (nI w))) : wpX_fetchWait post (len, nI S, ft, bt, dn, lw, nI O, nc, li, la, oo, dd, aa, bb, rg, wd, uc, lt, rc, ls, rw, rr, uw, br, st) (nI w) :=
  ⟨S + 1, sx_fw hS hO h1 h0 S 0 (Nat.zero_add S) (fun s' h => absurd h (Nat.not_lt_zero s'))⟩
theorem sx_iss {post : Int32 → Prop} {q m rdy : Nat} {T : Int32} {U R : Nat → Nat} (hq : q < 6) (hm : m < 3) (euc : uc q = nI (m + 1)) (eU : ∀ u, u < 3 → uw (q * 3 + u) = nI (U u)) (hU : ∀ u, u < 3 → U u < 100000) (eR : ∀ r, r < 8 → rw r = nI (R r)) (hR : ∀ r, r < 8 → R r < 100000) (hrdy : rdy < 100000) (hT : sd_rg T) (h : post (nI (max (max rdy (sd_mn U m + 1)) (sd_o T R)))) :
    ∀ d i, i + d = m → wX_issueCycle_13 post (nI rdy) (nI q) T len ss ft bt dn lw od nc li la oo dd aa bb rg wd uc lt rc ls rw rr uw br st (d + 1) (nI (sd_mn U i)) (nI (i + 1)) := by
  have bm : ∀ i, i < 3 → sd_mn U i < 100000 := fun i hi => Nat.lt_of_le_of_lt (sd_mn_le i 0 (by omega)) (hU 0 (by omega))
  have cq : (nI q).toNatClampNeg = q := nI_clamp (by omega)
  intro d
  induction d with
  | zero =>
    intro i hi
    have e : i = m := by omega
    subst e
    have bi := bm i hm
    rw [wX_issueCycle_13]
    refine ⟨vp_in_nI hq (by omega), ?_⟩
    rw [cq, euc]
    refine br_t (nI_le (Nat.le_refl _) (by omega)) ?_
    refine sx_grE rdy (sd_mn U i + 1) rfl (nI_1 _) (by omega) (by omega) ?_
    rcases hT with rfl | ⟨r, hr, rfl⟩
    · rw [sd_o_n, Nat.max_zero] at h
      exact br_t rfl h
    · have cr : (nI r).toNatClampNeg = r := nI_clamp (by omega)
      have br := hR r hr
      rw [sd_o_s (by omega)] at h
      refine br_f (sd_ne1 (by omega)) ⟨vp_in_nI hr (by omega), ?_⟩
      exact sx_grE _ (R r + 1) rfl (by rw [cr, eR r hr, nI_1]) (by omega) (by omega) h
  | succ d ih =>
    intro i hi
    obtain ⟨cu, vu⟩ := sd_q3 (q := q) (u := i + 1) hq (by omega)
    have bi := bm i (by omega)
    have bu := hU (i + 1) (by omega)
    have t := ih (i + 1) (by omega)
    rw [sd_mn_s] at t
    rw [wX_issueCycle_13]
    refine ⟨vp_in_nI hq (by omega), ?_⟩
    rw [cq, euc]
    refine br_f (nI_ge (by omega) (by omega)) ⟨vu, nm_r (e' := nI (U (i + 1))) (by rw [cu]; exact eU (i + 1) (by omega)) ?_⟩
    refine pk_le (sd_mn U i) (U (i + 1)) (fun e => nm_r (nI_1 (i + 1)) ?_) (fun e => nm_r (nI_1 (i + 1)) ?_)
    · rw [if_neg (by omega)] at t
      exact t
    · rw [if_pos (by omega)] at t
      exact t
theorem sx_issue {post : Int32 → Prop} {q m rdy : Nat} {T : Int32} {U R : Nat → Nat} (hq : q < 6) (hm : m < 3) (euc : uc q = nI (m + 1)) (eU : ∀ u, u < 3 → uw (q * 3 + u) = nI (U u)) (hU : ∀ u, u < 3 → U u < 100000) (eR : ∀ r, r < 8 → rw r = nI (R r)) (hR : ∀ r, r < 8 → R r < 100000) (hrdy : rdy < 100000) (hT : sd_rg T) (h : post (nI (max (max rdy (sd_mn U m + 1)) (sd_o T R)))) : wpX_issueCycle post (len, ss, ft, bt, dn, lw, od, nc, li, la, oo, dd, aa, bb, rg, wd, uc, lt, rc, ls, rw, rr, uw, br, st) (nI rdy) (nI q) T := by
  have e : nI q * 3 = nI (q * 3) := pk_mul q 3
  have c : (nI q * 3).toNatClampNeg = q * 3 := by rw [e]; exact nI_clamp (by omega)
  exact ⟨by rw [e]; exact vp_in_nI (by omega) (by omega), nm_r (e' := nI (sd_mn U 0)) (by rw [c]; exact eU 0 (by omega)) ⟨m + 1, sx_iss hq hm euc eU hU eR hR hrdy hT h m 0 (Nat.zero_add m)⟩⟩
theorem sx_fr {post : Int32 → Prop} {q m c u : Nat} {U : Nat → Nat} (hq : q < 6) (hm : m < 3) (euc : uc q = nI (m + 1)) (eU : ∀ u, u < 3 → uw (q * 3 + u) = nI (U u)) (hU : ∀ u, u < 3 → U u < 100000) (hc : c < 100000) (hu : u ≤ m) (h1 : U u < c) (h2 : ∀ u', u' < u → c ≤ U u') (h : post (nI u)) :
    ∀ d i, i + d = u → wX_freeUnit_2 post (nI q) (nI c) len ss ft bt dn lw od nc li la oo dd aa bb rg wd uc lt rc ls rw rr uw br st (d + 1) (nI i) := by
  have cq : (nI q).toNatClampNeg = q := nI_clamp (by omega)
  intro d
  induction d with
  | zero =>
    intro i hi
    have e : i = u := by omega
    subst e
    obtain ⟨cu, vu⟩ := sd_q3 (q := q) (u := i) hq (by omega)
    rw [wX_freeUnit_2]
    refine ⟨vp_in_nI hq (by omega), ?_⟩
    rw [cq, euc]
    refine br_f (nI_ge (by omega) (by omega)) ⟨vu, ?_⟩
    rw [cu, eU i (by omega)]
    exact br_f (nI_ge h1 (by omega)) h
  | succ d ih =>
    intro i hi
    obtain ⟨cu, vu⟩ := sd_q3 (q := q) (u := i) hq (by omega)
    have bu := hU i (by omega)
    rw [wX_freeUnit_2]
    refine ⟨vp_in_nI hq (by omega), ?_⟩
    rw [cq, euc]
    refine br_f (nI_ge (by omega) (by omega)) ⟨vu, ?_⟩
    rw [cu, eU i (by omega)]
    exact br_t (nI_le (h2 i (by omega)) (by omega)) (nm_r (nI_1 i) (ih (i + 1) (by omega)))
theorem sx_free {post : Int32 → Prop} {q m c u : Nat} {U : Nat → Nat} (hq : q < 6) (hm : m < 3) (euc : uc q = nI (m + 1)) (eU : ∀ u, u < 3 → uw (q * 3 + u) = nI (U u)) (hU : ∀ u, u < 3 → U u < 100000) (hc : c < 100000) (hu : u ≤ m) (h1 : U u < c) (h2 : ∀ u', u' < u → c ≤ U u') (h : post (nI u)) : wpX_freeUnit post (len, ss, ft, bt, dn, lw, od, nc, li, la, oo, dd, aa, bb, rg, wd, uc, lt, rc, ls, rw, rr, uw, br, st) (nI q) (nI c) :=
  ⟨u + 1, sx_fr hq hm euc eU hU hc hu h1 h2 h u 0 (Nat.zero_add u)⟩
theorem sx_cn {post : SX → Prop} {N come iss D dw : Nat} (hN : N < 100000) (hcm : come < 100000) (hi : iss < 100000) (hDb : D < 100000) (hD : ∀ c, 1 ≤ c → (D < c ↔ ¬ c < dw)) :
    ∀ d c (L : Nat → Int32), c + d = iss → 1 ≤ c → post (len, ss, ft, bt, dn, lw, od, nI N, li, la, oo, dd, aa, bb, rg, wd, uc, lt, rc, sd_cnt N come dw d c L, rw, rr, uw, br, st) → wX_countCyclesWithoutIssue_25 post (nI come) (nI iss) (nI D) len ss ft bt dn lw od (nI N) li la (d + 1) (nI c) oo dd aa bb rg wd uc lt rc L rw rr uw br st := by
  intro d
  induction d with
  | zero =>
    intro c L hc h1 hp
    rw [wX_countCyclesWithoutIssue_25]
    exact br_t (nI_le (by omega) (by omega)) hp
  | succ d ih =>
    intro c L hc h1 hp
    rw [sd_cnt_s] at hp
    rw [wX_countCyclesWithoutIssue_25]
    refine br_f (nI_ge (by omega) (by omega)) ?_
    refine pk_le N c (fun e => ?_) (fun e => ?_)
    · refine pk_le come c (fun e2 => ?_) (fun e2 => ?_)
      · refine pk_lt D c (fun e3 => ?_) (fun e3 => ?_)
        · have x : sd_ix N come dw c = 3 := by
            unfold sd_ix
            rw [if_neg (by omega), if_neg (by omega), if_neg ((hD c h1).mp e3)]
          rw [x] at hp
          exact nm_e (nm_r (nI_1 c) (ih (c + 1) _ (by omega) (by omega) hp))
        · have x : sd_ix N come dw c = 2 := by
            have g : c < dw := Classical.byContradiction fun z => by have := (hD c h1).mpr z; omega
            unfold sd_ix
            rw [if_neg (by omega), if_neg (by omega), if_pos g]
          rw [x] at hp
          exact nm_e (nm_r (nI_1 c) (ih (c + 1) _ (by omega) (by omega) hp))
      · have x : sd_ix N come dw c = 1 := by
          unfold sd_ix
          rw [if_neg (by omega), if_pos (by omega)]
        rw [x] at hp
        exact nm_e (nm_r (nI_1 c) (ih (c + 1) _ (by omega) (by omega) hp))
    · have x : sd_ix N come dw c = 0 := by
        unfold sd_ix
        rw [if_pos (by omega)]
      rw [x] at hp
      exact nm_e (nm_r (nI_1 c) (ih (c + 1) _ (by omega) (by omega) hp))
theorem sx_count {post : SX → Prop} {N come iss l : Nat} {T : Int32} {R : Nat → Nat} (hN : N < 100000) (hcm : come < 100000) (hi : iss < 100000) (eR : ∀ r, r < 8 → rw r = nI (R r)) (hR : ∀ r, r < 8 → R r < 100000) (hT : sd_rg T) (hl : l + 1 ≤ iss) (h : post (len, ss, ft, bt, dn, lw, od, nI N, nI l, la, oo, dd, aa, bb, rg, wd, uc, lt, rc, sd_cnt N come (sd_o T R) (iss - (l + 1)) (l + 1) ls, rw, rr, uw, br, st)) : wpX_countCyclesWithoutIssue post (len, ss, ft, bt, dn, lw, od, nI N, nI l, la, oo, dd, aa, bb, rg, wd, uc, lt, rc, ls, rw, rr, uw, br, st) (nI come) (nI iss) T := by
  rcases hT with rfl | ⟨r, hr, rfl⟩
  · rw [sd_o_n] at h
    exact br_t rfl (nm_r (nI_1 l) ⟨_, sx_cn (D := 0) hN hcm hi (by omega) (fun c hc => by omega) (iss - (l + 1)) (l + 1) ls (by omega) (by omega) h⟩)
  · have cr : (nI r).toNatClampNeg = r := nI_clamp (by omega)
    rw [sd_o_s (by omega)] at h
    exact br_f (sd_ne1 (by omega)) ⟨vp_in_nI hr (by omega), nm_r (e' := nI (R r)) (by rw [cr, eR r hr]) (nm_r (nI_1 l) ⟨_, sx_cn (D := R r) hN hcm hi (hR r hr) (fun c hc => by omega) (iss - (l + 1)) (l + 1) ls (by omega) (by omega) h⟩)⟩
theorem sx_read {post : Int32 → Prop} {p n iss : Nat} {R : Nat → Nat} (hp : p < 24) (ho : oo p = nI n) (hn : n ≤ 9) (eR : ∀ r, r < 8 → rw r = nI (R r)) (hR : ∀ r, r < 8 → R r < 100000) (hi : iss < 100000) (hF : sd_rg (sd_fs n (aa p))) (hS : sd_rg (sd_sc n (dd p) (bb p))) (h : post (nI (max (max (iss + 1) (sd_o (sd_fs n (aa p)) R)) (sd_o (sd_sc n (dd p) (bb p)) R)))) : wpX_readCycle post (len, ss, ft, bt, dn, lw, od, nc, li, la, oo, dd, aa, bb, rg, wd, uc, lt, rc, ls, rw, rr, uw, br, st) (nI p) (nI iss) := by
  have k38 : ∀ a S, sd_rg S → a < 200000 → post (nI (max a (sd_o S R))) → wX_readCycle_38 post S (nI a) len ss ft bt dn lw od nc li la oo dd aa bb rg wd uc lt rc ls rw rr uw br st := by
    intro a S hS ha hh
    rcases hS with rfl | ⟨r, hr, rfl⟩
    · rw [sd_o_n, Nat.max_zero] at hh
      exact br_t rfl hh
    · have cr : (nI r).toNatClampNeg = r := nI_clamp (by omega)
      have bR := hR r hr
      rw [sd_o_s (by omega)] at hh
      exact br_f (sd_ne1 (by omega)) ⟨vp_in_nI hr (by omega), sx_grE a (R r + 1) rfl (by rw [cr, eR r hr, nI_1]) (by omega) (by omega) hh⟩
  unfold wpX_readCycle
  dsimp only
  refine sx_first hp ho hn ?_
  refine sx_second hp ho hn ?_
  refine nm_r (nI_1 iss) ?_
  generalize sd_fs n (aa p) = F at *
  generalize sd_sc n (dd p) (bb p) = S at *
  rcases hF with rfl | ⟨r, hr, rfl⟩
  · rw [sd_o_n, Nat.max_zero] at h
    exact br_t rfl (k38 _ _ hS (by omega) h)
  · have cr : (nI r).toNatClampNeg = r := nI_clamp (by omega)
    have bR := hR r hr
    rw [sd_o_s (by omega)] at h
    exact br_f (sd_ne1 (by omega)) ⟨vp_in_nI hr (by omega), sx_grE (iss + 1) (R r + 1) rfl (by rw [cr, eR r hr, nI_1]) (by omega) (by omega) (k38 _ _ hS (by omega) h)⟩
theorem sx_acc {post : Int32 → SX → Prop} {p r b rdv l t B : Nat} (hp : p < 24) (hr : r < 8) (ha : aa p = nI r) (hb : b < 4) (eb : ((rg r + bb p) &&& 31) &&& 3 = nI b) (ebr : br b = nI B) (h1 : rdv < 100000) (h2 : l < 100000) (h3 : B < 100000)
    (h : post (nI (max (max (rdv + 1) (l + 1)) B)) (len, ss, ft, nI t, dn, lw, od, nc, li, nI (max (max (rdv + 1) (l + 1)) B), oo, dd, aa, bb, rg, wd, uc, lt, rc, upd ls 5 (ls 5 + ((nI (max (max (rdv + 1) (l + 1)) B) - nI rdv) - 1)), rw, rr, uw, upd br b (nI (max (max (rdv + 1) (l + 1)) B + t)), st)) : wpX_accessCycle post (len, ss, ft, nI t, dn, lw, od, nc, li, nI l, oo, dd, aa, bb, rg, wd, uc, lt, rc, ls, rw, rr, uw, br, st) (nI p) (nI rdv) := by
  have cb : (nI b).toNatClampNeg = b := nI_clamp (by omega)
  unfold wpX_accessCycle
  dsimp only
  refine sx_addr hp hr ha ?_
  refine nm_r eb ?_
  refine sx_grE (rdv + 1) (l + 1) (nI_1 rdv) (nI_1 l) (by omega) (by omega) ?_
  refine ⟨vp_in_nI hb (by omega), ?_⟩
  refine sx_grE (max (rdv + 1) (l + 1)) B rfl (by rw [cb]; exact ebr) (by omega) (by omega) ?_
  exact ⟨vp_in_nI hb (by omega), nm_r (e' := upd br b (nI (max (max (rdv + 1) (l + 1)) B + t))) (by rw [cb, nI_add]) (nm_e h)⟩
theorem sx_write {post : Int32 → Prop} {fin : Nat} {T : Int32} {Q : Nat → Nat} (eQ : ∀ r, r < 8 → rr r = nI (Q r)) (hQ : ∀ r, r < 8 → Q r < 100000) (hf : fin < 100000) (hT : sd_rg T) (h : post (nI (max fin (sd_o T Q)))) : wpX_writeCycle post (len, ss, ft, bt, dn, lw, od, nc, li, la, oo, dd, aa, bb, rg, wd, uc, lt, rc, ls, rw, rr, uw, br, st) (nI fin) T := by
  rcases hT with rfl | ⟨r, hr, rfl⟩
  · rw [sd_o_n, Nat.max_zero] at h
    exact br_t rfl h
  · have cr : (nI r).toNatClampNeg = r := nI_clamp (by omega)
    have bQ := hQ r hr
    rw [sd_o_s (by omega)] at h
    exact br_f (sd_ne1 (by omega)) ⟨vp_in_nI hr (by omega), sx_grE fin (Q r + 1) rfl (by rw [cr, eQ r hr, nI_1]) (by omega) (by omega) h⟩
end SDX4
end
section
/-! SD 5: X's instruction, scheduled -/
def sd_r7 (rc : Nat → Int32) (k : Nat) (a b c d e f g : Int32) : Nat → Int32 := upd (upd (upd (upd (upd (upd (upd rc (k * 7 + 0) a) (k * 7 + 1) b) (k * 7 + 2) c) (k * 7 + 3) d) (k * 7 + 4) e) (k * 7 + 5) f) (k * 7 + 6) g
def sd_la (i : Nat) (ls : Nat → Int32) (a : Int32) : Nat → Int32 := upd ls i (ls i + a)
theorem sd_ixc {a c : Nat} (h : a + c < 2 ^ 31) : (nI a + nI c).toNatClampNeg = a + c := by rw [nI_add]; exact nI_clamp h
theorem sd_ixv {a c M : Nat} (h : a + c < M) (hM : M < 2 ^ 31) : vp_in (nI a + nI c) M := by rw [nI_add]; exact vp_in_nI h hM
section SDX5
variable {len ss ft bt dn lw od nc li la : Int32} {oo dd aa bb rg wd uc lt rc ls rw rr uw br st : Nat → Int32}
theorem sx_note {post : SX → Prop} {p n rdv w : Nat} {Q : Nat → Nat} (hp : p < 24) (ho : oo p = nI n) (hn : n ≤ 9) (eQ : ∀ r, r < 8 → rr r = nI (Q r)) (hQ : ∀ r, r < 8 → Q r < 100000) (hrd : rdv < 100000) (hF : sd_rg (sd_fs n (aa p))) (hS : sd_rg (sd_sc n (dd p) (bb p))) (hT : sd_rg (sd_tg n (dd p)))
    (K : ∀ rw' rr' : Nat → Int32, (∀ r, r < 8 → rw' r = if sd_tg n (dd p) = nI r then nI w else rw r) → (∀ r, r < 8 → rr' r = if sd_fs n (aa p) = nI r ∨ sd_sc n (dd p) (bb p) = nI r then nI (max (Q r) rdv) else rr r) → post (len, ss, ft, bt, dn, lw, od, nc, li, la, oo, dd, aa, bb, rg, wd, uc, lt, rc, ls, rw', rr', uw, br, st)) : wpX_noteRegisters post (len, ss, ft, bt, dn, lw, od, nc, li, la, oo, dd, aa, bb, rg, wd, uc, lt, rc, ls, rw, rr, uw, br, st) (nI p) (nI rdv) (nI w) := by
  unfold wpX_noteRegisters
  dsimp only
  refine sx_first hp ho hn ?_
  refine sx_second hp ho hn ?_
  refine sx_dest hp ho hn ?_
  generalize sd_fs n (aa p) = F at *
  generalize sd_sc n (dd p) (bb p) = S at *
  generalize sd_tg n (dd p) = T at *
  have k69 : ∀ rr1 : Nat → Int32, (∀ rw' : Nat → Int32, (∀ r, r < 8 → rw' r = if T = nI r then nI w else rw r) → post (len, ss, ft, bt, dn, lw, od, nc, li, la, oo, dd, aa, bb, rg, wd, uc, lt, rc, ls, rw', rr1, uw, br, st)) → wX_noteRegisters_69 post (nI w) T len ss ft bt dn lw od nc li la oo dd aa bb rg wd uc lt rc ls rw rr1 uw br st := by
    intro rr1 h
    rcases hT with rfl | ⟨t, ht, rfl⟩
    · exact br_t rfl (h rw (fun r hr => by rw [if_neg (sd_ne1' (by omega))]))
    · have ct : (nI t).toNatClampNeg = t := nI_clamp (by omega)
      refine br_f (sd_ne1 (by omega)) ⟨vp_in_nI ht (by omega), nm_r (e' := upd rw t (nI w)) (by rw [ct]) (h _ (fun r hr => ?_))⟩
      by_cases e : r = t
      · subst e
        rw [pk_us, if_pos rfl]
      · rw [pk_un e, if_neg (fun z => e ((nI_eq (by omega) (by omega)).mp z).symm)]
  have k45 : ∀ (rr1 : Nat → Int32) (Q1 : Nat → Nat), (∀ r, r < 8 → rr1 r = nI (Q1 r)) → (∀ r, r < 8 → Q1 r < 100000) → (∀ rw' rr' : Nat → Int32, (∀ r, r < 8 → rw' r = if T = nI r then nI w else rw r) → (∀ r, r < 8 → rr' r = if S = nI r then nI (max (Q1 r) rdv) else rr1 r) → post (len, ss, ft, bt, dn, lw, od, nc, li, la, oo, dd, aa, bb, rg, wd, uc, lt, rc, ls, rw', rr', uw, br, st)) → wX_noteRegisters_45 post (nI rdv) (nI w) S T len ss ft bt dn lw od nc li la oo dd aa bb rg wd uc lt rc ls rw rr1 uw br st := by
    intro rr1 Q1 e1 b1 h
    rcases hS with rfl | ⟨t, ht, rfl⟩
    · exact br_t rfl (k69 rr1 (fun rw' h1 => h rw' rr1 h1 (fun r hr => by rw [if_neg (sd_ne1' (by omega))])))
    · have ct : (nI t).toNatClampNeg = t := nI_clamp (by omega)
      have bt := b1 t ht
      refine br_f (sd_ne1 (by omega)) ⟨vp_in_nI ht (by omega), sx_grE (Q1 t) rdv (by rw [ct]; exact e1 t ht) rfl (by omega) (by omega) ⟨vp_in_nI ht (by omega), nm_r (e' := upd rr1 t (nI (max (Q1 t) rdv))) (by rw [ct]) (k69 _ (fun rw' h1 => h rw' _ h1 (fun r hr => ?_)))⟩⟩
      by_cases e : r = t
      · subst e
        rw [pk_us, if_pos rfl]
      · rw [pk_un e, if_neg (fun z => e ((nI_eq (by omega) (by omega)).mp z).symm)]
  rcases hF with rfl | ⟨t, ht, rfl⟩
  · refine br_t rfl (k45 rr Q eQ hQ (fun rw' rr' h1 h2 => K rw' rr' h1 (fun r hr => ?_)))
    have g : ¬ (-1 : Int32) = nI r := sd_ne1' (by omega)
    simp only [g, false_or]
    exact h2 r hr
  · have ct : (nI t).toNatClampNeg = t := nI_clamp (by omega)
    have bt := hQ t ht
    refine br_f (sd_ne1 (by omega)) ⟨vp_in_nI ht (by omega), sx_grE (Q t) rdv (by rw [ct]; exact eQ t ht) rfl (by omega) (by omega) ⟨vp_in_nI ht (by omega), nm_r (e' := upd rr t (nI (max (Q t) rdv))) (by rw [ct]) (k45 _ (fun r => if r = t then max (Q t) rdv else Q r) (fun r hr => ?_) (fun r hr => ?_) (fun rw' rr' h1 h2 => K rw' rr' h1 (fun r hr => ?_)))⟩⟩
    · by_cases e : r = t
      · subst e
        rw [pk_us, if_pos rfl]
      · rw [pk_un e, if_neg e]
        exact eQ r hr
    · have := hQ r hr
      split <;> omega
    · rw [h2 r hr]
      by_cases e : r = t
      · subst e
        rw [if_pos rfl, pk_us]
        by_cases g : S = nI r
        · rw [if_pos g, if_pos (Or.inl rfl)]
          exact congrArg nI (by omega)
        · rw [if_neg g, if_pos (Or.inl rfl)]
      · have ne : ¬ nI t = nI r := fun z => e ((nI_eq (by omega) (by omega)).mp z).symm
        rw [if_neg e, pk_un e]
        by_cases g : S = nI r
        · rw [if_pos g, if_pos (Or.inr g)]
        · rw [if_neg g, if_neg (fun z => z.elim ne g)]
theorem sx_94 {post : SX → Prop} {k p n q u iss rdv start lat fin w LW : Nat} {Q : Nat → Nat} (hk : k < 60) (hp : p < 24) (ho : oo p = nI n) (hn : n ≤ 9) (hq : q < 6) (hu : u < 3) (elt : lt q = nI lat) (eQ : ∀ r, r < 8 → rr r = nI (Q r)) (hQ : ∀ r, r < 8 → Q r < 100000) (hrd : rdv < 100000) (hF : sd_rg (sd_fs n (aa p))) (hS : sd_rg (sd_sc n (dd p) (bb p))) (hT : sd_rg (sd_tg n (dd p))) (hLW : LW < 100000) (efin : fin = start + lat) (hfin : fin < 100000) (ew : w = max fin (sd_o (sd_tg n (dd p)) Q)) (hw : w < 200000)
    (K : ∀ rw' rr' : Nat → Int32, (∀ r, r < 8 → rw' r = if sd_tg n (dd p) = nI r then nI w else rw r) → (∀ r, r < 8 → rr' r = if sd_fs n (aa p) = nI r ∨ sd_sc n (dd p) (bb p) = nI r then nI (max (Q r) rdv) else rr r) → post (len, ss, ft, bt, dn, nI (max LW w), od, nI ((if 8 ≤ n then w else iss) + 1), nI iss, la, oo, dd, aa, bb, rg, wd, uc, lt, sd_r7 rc k (nI p) (nI iss) (nI rdv) (nI fin) (nI w) (nI u) (nI q), sd_la 6 (sd_la 4 ls ((nI rdv - nI iss) - 1)) (nI w - nI fin), rw', rr', upd uw (q * 3 + u) (nI w), br, st)) :
    wX_schedule_94 post (nI k) (nI p) (nI q) (sd_tg n (dd p)) (nI iss) (nI u) (nI rdv) (nI start) len ss ft bt dn (nI LW) od nc li la oo dd aa bb rg wd uc lt rc ls rw rr uw br st := by
  have cp : (nI p).toNatClampNeg = p := nI_clamp (by omega)
  have cq : (nI q).toNatClampNeg = q := nI_clamp (by omega)
  obtain ⟨cu, vu⟩ := sd_q3 (q := q) (u := u) hq hu
  subst efin
  refine ⟨vp_in_nI hq (by omega), nm_r (e' := nI (start + lat)) (by rw [cq, elt, nI_add]) ?_⟩
  refine sx_write eQ hQ hfin hT ?_
  rw [← ew]
  refine nm_e (nm_e (nm_r (e' := nI (k * 7)) (pk_mul k 7) ?_))
  refine ⟨sd_ixv (c := 0) (by omega) (by omega), nm_r (congrArg (fun z => upd rc z (nI p)) (sd_ixc (a := k * 7) (c := 0) (by omega))) ?_⟩
  refine ⟨sd_ixv (c := 1) (by omega) (by omega), nm_r (congrArg (fun z => upd _ z (nI iss)) (sd_ixc (a := k * 7) (c := 1) (by omega))) ?_⟩
  refine ⟨sd_ixv (c := 2) (by omega) (by omega), nm_r (congrArg (fun z => upd _ z (nI rdv)) (sd_ixc (a := k * 7) (c := 2) (by omega))) ?_⟩
  refine ⟨sd_ixv (c := 3) (by omega) (by omega), nm_r (congrArg (fun z => upd _ z (nI (start + lat))) (sd_ixc (a := k * 7) (c := 3) (by omega))) ?_⟩
  refine ⟨sd_ixv (c := 4) (by omega) (by omega), nm_r (congrArg (fun z => upd _ z (nI w)) (sd_ixc (a := k * 7) (c := 4) (by omega))) ?_⟩
  refine ⟨sd_ixv (c := 5) (by omega) (by omega), nm_r (congrArg (fun z => upd _ z (nI u)) (sd_ixc (a := k * 7) (c := 5) (by omega))) ?_⟩
  refine ⟨sd_ixv (c := 6) (by omega) (by omega), nm_r (congrArg (fun z => upd _ z (nI q)) (sd_ixc (a := k * 7) (c := 6) (by omega))) ?_⟩
  refine ⟨vu, nm_r (congrArg (fun z => upd uw z (nI w)) cu) ?_⟩
  refine sx_note hp ho hn eQ hQ hrd hF hS hT (fun rw' rr' h1 h2 => ?_)
  have K := K rw' rr' h1 h2
  dsimp only
  refine sx_grE LW w rfl rfl (by omega) (by omega) ?_
  refine ⟨vp_in_nI hp (by omega), ?_⟩
  rw [cp, ho]
  refine sx_jump hn (fun e => ?_) (fun e => ?_)
  · rw [if_pos e] at K
    exact br_f (by decide) (nm_r (nI_1 w) K)
  · rw [if_neg (by omega)] at K
    exact br_t rfl (nm_r (nI_1 iss) K)
theorem sx_fetch1 {post : Int32 → SX → Prop} {S O O' w F f : Nat} {st' : Nat → Int32} (hS : S ≤ 4) (hO : O < S) (hfe : ((∃ s, s < S ∧ st s = nI w) ∧ f = 0 ∧ st' = st ∧ O' = O) ∨ ((∀ s, s < S → ¬ st s = nI w) ∧ f = F ∧ st' = upd st O (nI w) ∧ O' = sd_nx S O)) (h : post (nI f) (len, nI S, nI F, bt, dn, lw, nI O', nc, li, la, oo, dd, aa, bb, rg, wd, uc, lt, rc, ls, rw, rr, uw, br, st')) : wpX_fetchWait post (len, nI S, nI F, bt, dn, lw, nI O, nc, li, la, oo, dd, aa, bb, rg, wd, uc, lt, rc, ls, rw, rr, uw, br, st) (nI w) := by
  rcases hfe with ⟨⟨s, hs, e⟩, rfl, rfl, rfl⟩ | ⟨hh, rfl, rfl, rfl⟩
  · exact sx_fetch hS hO (fun _ => h) (fun z => absurd e (z s hs))
  · exact sx_fetch hS hO (fun ⟨s, hs, e⟩ => absurd e (hh s hs)) (fun _ => h)
theorem sx_sched {post : SX → Prop} {k p n S O O' N l LW A t F f m lat iss u rdv start A' fin w r b : Nat} {U R Q : Nat → Nat} {B : Nat} {st' br' ls2 : Nat → Int32} (hk : k < 60) (hp : p < 24) (ho : oo p = nI n) (hn : n ≤ 9) (hF : sd_rg (sd_fs n (aa p))) (hS : sd_rg (sd_sc n (dd p) (bb p))) (hT : sd_rg (sd_tg n (dd p)))
    (hSS : S ≤ 4) (hO : O < S) (hm : m < 3) (euc : uc (sd_kd n) = nI (m + 1)) (elt : lt (sd_kd n) = nI lat) (eU : ∀ u, u < 3 → uw (sd_kd n * 3 + u) = nI (U u)) (hU : ∀ u, u < 3 → U u < 100000) (eR : ∀ r, r < 8 → rw r = nI (R r)) (hR : ∀ r, r < 8 → R r < 100000) (eQ : ∀ r, r < 8 → rr r = nI (Q r)) (hQ : ∀ r, r < 8 → Q r < 100000) (hN : N < 100000) (hLW : LW < 100000) (hA : A < 100000) (hB : B < 100000)
    (hfe : ((∃ s, s < S ∧ st s = nI (p / 2)) ∧ f = 0 ∧ st' = st ∧ O' = O) ∨ ((∀ s, s < S → ¬ st s = nI (p / 2)) ∧ f = F ∧ st' = upd st O (nI (p / 2)) ∧ O' = sd_nx S O)) (hNf : N + f < 100000)
    (ei : iss = max (max (N + f) (sd_mn U m + 1)) (sd_o (sd_tg n (dd p)) R)) (hi : iss < 100000) (hl : l + 1 ≤ iss) (hu : u ≤ m) (hu1 : U u < iss) (hu2 : ∀ u', u' < u → iss ≤ U u')
    (er : rdv = max (max (iss + 1) (sd_o (sd_fs n (aa p)) R)) (sd_o (sd_sc n (dd p) (bb p)) R)) (hrd : rdv < 100000)
    (hmem : ((n = 6 ∨ n = 7) ∧ r < 8 ∧ aa p = nI r ∧ b < 4 ∧ ((rg r + bb p) &&& 31) &&& 3 = nI b ∧ br b = nI B ∧ start = max (max (rdv + 1) (A + 1)) B ∧ A' = start ∧ br' = upd br b (nI (start + t)) ∧ ls2 = sd_la 5 (sd_cnt N (N + f) (sd_o (sd_tg n (dd p)) R) (iss - (l + 1)) (l + 1) ls) ((nI start - nI rdv) - 1)) ∨ (¬ (n = 6 ∨ n = 7) ∧ start = rdv ∧ A' = A ∧ br' = br ∧ ls2 = sd_cnt N (N + f) (sd_o (sd_tg n (dd p)) R) (iss - (l + 1)) (l + 1) ls))
    (ef : fin = start + lat) (hfin : fin < 100000) (ew : w = max fin (sd_o (sd_tg n (dd p)) Q)) (hw : w < 200000)
    (K : ∀ rw' rr' : Nat → Int32, (∀ r, r < 8 → rw' r = if sd_tg n (dd p) = nI r then nI w else rw r) → (∀ r, r < 8 → rr' r = if sd_fs n (aa p) = nI r ∨ sd_sc n (dd p) (bb p) = nI r then nI (max (Q r) rdv) else rr r) → post (len, nI S, nI F, nI t, dn, nI (max LW w), nI O', nI ((if 8 ≤ n then w else iss) + 1), nI iss, nI A', oo, dd, aa, bb, rg, wd, uc, lt, sd_r7 rc k (nI p) (nI iss) (nI rdv) (nI fin) (nI w) (nI u) (nI (sd_kd n)), sd_la 6 (sd_la 4 ls2 ((nI rdv - nI iss) - 1)) (nI w - nI fin), rw', rr', upd uw (sd_kd n * 3 + u) (nI w), br', st')) :
    wpX_schedule post (len, nI S, nI F, nI t, dn, nI LW, nI O, nI N, nI l, nI A, oo, dd, aa, bb, rg, wd, uc, lt, rc, ls, rw, rr, uw, br, st) (nI k) (nI p) := by
  have cp : (nI p).toNatClampNeg = p := nI_clamp (by omega)
  have sh : nI p >>> ((1 : Int32) &&& 31) = nI (p / 2) := (pk_shrN (n := p) (by omega) _ 1 (by decide)).trans (by rw [Nat.pow_one])
  have hq := sd_kd_lt n
  refine ⟨vp_in_nI hp (by omega), ?_⟩
  rw [cp, ho, sh]
  refine sx_kind hn ?_
  refine sx_dest hp ho hn ?_
  refine sx_fetch1 hSS hO hfe ?_
  refine nm_r (nI_add N f) ?_
  refine sx_issue hq hm euc eU hU eR hR hNf hT ?_
  rw [← ei]
  refine sx_free hq hm euc eU hU hi hu hu1 hu2 ?_
  refine sx_count hN hNf hi eR hR hT hl ?_
  refine sx_read hp ho hn eR hR hi hF hS ?_
  rw [← er]
  refine ⟨vp_in_nI hp (by omega), ?_⟩
  rw [ho]
  refine sx_mem hn (fun e => br_f (by decide) ?_) (fun e => br_t rfl ?_)
  · rcases hmem with ⟨_, h1, h2, h3, h4, h5, h6, h7, h8, h9⟩ | ⟨z, _⟩
    · refine sx_acc hp h1 h2 h3 h4 h5 hrd hA hB ?_
      rw [← h6]
      subst h7 h8 h9
      exact sx_94 hk hp ho hn hq (by omega) elt eQ hQ hrd hF hS hT hLW ef hfin ew hw K
    · exact absurd e z
  · rcases hmem with ⟨z, _⟩ | ⟨_, h6, h7, h8, h9⟩
    · exact absurd z e
    · subst h6 h7 h8 h9
      exact sx_94 hk hp ho hn hq (by omega) elt eQ hQ hrd hF hS hT hLW ef hfin ew hw K
end SDX5
end
section
/-! SD 6: Y's loops -/
theorem sd_sublt {i E S : Nat} (hi : i < 1000) (hE : E < 1000) (hS : S < 1000) : nI i < nI E - nI S ↔ i + S < E := by
  rw [Int32.lt_iff_toInt_lt, nI_toInt (by omega), Int32.toInt_sub, nI_toInt (by omega), nI_toInt (by omega), Int.bmod_eq_of_le (by omega) (by omega)]
  omega
def sd_bk (n : Nat) (rg : Nat → Int32) (a b : Int32) : Int32 := if n = 6 ∨ n = 7 then (rg a.toNatClampNeg + b) &&& 3 else -1
section SDY6
variable {len ss ft bt fe dn : Int32} {oo dd aa bb rg wd uc lt nu kd tg fs sc bk is rd ac ry wr un pk ls : Nat → Int32}
theorem sy_135 {post : SY → Prop} {p k : Nat} (hp : p < 24) (hk : k < 60) (ha : sd_lt 8 (aa p)) (h : post (len, ss, ft, bt, fe, dn, oo, dd, aa, bb, rg, wd, uc, lt, nu, kd, tg, fs, sc, upd bk k ((rg (aa p).toNatClampNeg + bb p) &&& 3), is, rd, ac, ry, wr, un, pk, ls)) : wY_note_135 post (nI p) (nI k) len ss ft bt fe dn oo dd aa bb rg wd uc lt nu kd tg fs sc bk is rd ac ry wr un pk ls := by
  have cp : (nI p).toNatClampNeg = p := nI_clamp (by omega)
  have ck : (nI k).toNatClampNeg = k := nI_clamp (by omega)
  obtain ⟨r, hr, er⟩ := ha
  refine ⟨vp_in_nI hp (by omega), ?_⟩
  rw [cp]
  refine ⟨by rw [er]; exact vp_in_nI hr (by omega), vp_in_nI hp (by omega), vp_in_nI hk (by omega), ?_⟩
  rw [ck]
  exact nm_e h
theorem sy_117 {post : SY → Prop} {p n k : Nat} {z : Int32} (hp : p < 24) (hk : k < 60) (hn : n ≤ 9) (ha : 0 < n → n < 9 → sd_lt 8 (aa p)) (h : post (len, ss, ft, bt, fe, dn, oo, dd, aa, bb, rg, wd, uc, lt, nu, kd, tg, fs, upd sc k z, upd bk k (sd_bk n rg (aa p) (bb p)), is, rd, ac, ry, wr, un, pk, ls)) : wY_note_117 post (nI p) (nI n) (nI k) z (nI k) len ss ft bt fe dn oo dd aa bb rg wd uc lt nu kd tg fs sc bk is rd ac ry wr un pk ls := by
  have ck : (nI k).toNatClampNeg = k := nI_clamp (by omega)
  unfold sd_bk at h
  refine ⟨vp_in_nI hk (by omega), nm_r (congrArg (fun q => upd sc q z) ck) ?_⟩
  refine pk_eq n 6 (fun e => ?_) (fun e => pk_eq n 7 (fun e2 => ?_) (fun e2 => ?_))
  · rw [if_pos (Or.inl e)] at h
    exact sy_135 hp hk (ha (by omega) (by omega)) h
  · rw [if_pos (Or.inr e2)] at h
    exact sy_135 hp hk (ha (by omega) (by omega)) h
  · rw [if_neg (fun q => q.elim e e2)] at h
    exact ⟨vp_in_nI hk (by omega), nm_r (congrArg (fun q => upd bk q (-1)) ck) h⟩
theorem sy_76 {post : SY → Prop} {p n k : Nat} {z : Int32} (hp : p < 24) (hk : k < 60) (hn : n ≤ 9) (ha : 0 < n → n < 9 → sd_lt 8 (aa p)) (h : post (len, ss, ft, bt, fe, dn, oo, dd, aa, bb, rg, wd, uc, lt, nu, kd, tg, upd fs k z, upd sc k (sd_sc n (dd p) (bb p)), upd bk k (sd_bk n rg (aa p) (bb p)), is, rd, ac, ry, wr, un, pk, ls)) : wY_note_76 post (nI p) (nI n) (nI k) z (nI k) len ss ft bt fe dn oo dd aa bb rg wd uc lt nu kd tg fs sc bk is rd ac ry wr un pk ls := by
  have cp : (nI p).toNatClampNeg = p := nI_clamp (by omega)
  have ck : (nI k).toNatClampNeg = k := nI_clamp (by omega)
  have k101 : ¬ (0 < n ∧ n < 6) → ∀ f : Nat → Int32, post (len, ss, ft, bt, fe, dn, oo, dd, aa, bb, rg, wd, uc, lt, nu, kd, tg, f, upd sc k (sd_sc n (dd p) (bb p)), upd bk k (sd_bk n rg (aa p) (bb p)), is, rd, ac, ry, wr, un, pk, ls) → wY_note_101 post (nI p) (nI n) (nI k) (nI k) len ss ft bt fe dn oo dd aa bb rg wd uc lt nu kd tg f sc bk is rd ac ry wr un pk ls := by
    intro g f h
    unfold sd_sc at h
    refine pk_eq n 7 (fun e => ⟨vp_in_nI hp (by omega), ?_⟩) (fun e => ?_)
    · rw [if_pos e] at h
      rw [cp]
      exact sy_117 hp hk hn ha h
    · rw [if_neg e, if_neg g] at h
      exact sy_117 hp hk hn ha h
  refine ⟨vp_in_nI hk (by omega), nm_r (congrArg (fun q => upd fs q z) ck) ?_⟩
  refine pk_le n 0 (fun e => k101 (by omega) _ h) (fun e => pk_le 6 n (fun e2 => k101 (by omega) _ h) (fun e2 => ⟨vp_in_nI hp (by omega), ?_⟩))
  unfold sd_sc at h
  rw [if_neg (by omega), if_pos (by omega)] at h
  rw [cp]
  exact sy_117 hp hk hn ha h
theorem sy_50 {post : SY → Prop} {p n k : Nat} {z : Int32} (hp : p < 24) (hk : k < 60) (hn : n ≤ 9) (ha : 0 < n → n < 9 → sd_lt 8 (aa p)) (h : post (len, ss, ft, bt, fe, dn, oo, dd, aa, bb, rg, wd, uc, lt, nu, kd, upd tg k z, upd fs k (sd_fs n (aa p)), upd sc k (sd_sc n (dd p) (bb p)), upd bk k (sd_bk n rg (aa p) (bb p)), is, rd, ac, ry, wr, un, pk, ls)) : wY_note_50 post (nI p) (nI n) (nI k) z (nI k) len ss ft bt fe dn oo dd aa bb rg wd uc lt nu kd tg fs sc bk is rd ac ry wr un pk ls := by
  have cp : (nI p).toNatClampNeg = p := nI_clamp (by omega)
  have ck : (nI k).toNatClampNeg = k := nI_clamp (by omega)
  unfold sd_fs at h
  refine ⟨vp_in_nI hk (by omega), nm_r (congrArg (fun q => upd tg q z) ck) ?_⟩
  refine pk_le n 0 (fun e => ?_) (fun e => pk_le 9 n (fun e2 => ?_) (fun e2 => ⟨vp_in_nI hp (by omega), ?_⟩))
  · rw [if_neg (by omega)] at h
    exact sy_76 hp hk hn ha h
  · rw [if_neg (by omega)] at h
    exact sy_76 hp hk hn ha h
  · rw [if_pos (by omega)] at h
    rw [cp]
    exact sy_76 hp hk hn ha h
theorem sy_note {post : SY → Prop} {p n k : Nat} (hp : p < 24) (hk : k < 60) (hn : n ≤ 9) (ho : oo p = nI n) (ha : 0 < n → n < 9 → sd_lt 8 (aa p)) (h : post (len, ss, ft, bt, fe, nI k, oo, dd, aa, bb, rg, wd, uc, lt, upd nu k (nI p), upd kd k (nI (sd_kd n)), upd tg k (sd_tg n (dd p)), upd fs k (sd_fs n (aa p)), upd sc k (sd_sc n (dd p) (bb p)), upd bk k (sd_bk n rg (aa p) (bb p)), is, rd, ac, ry, wr, un, pk, ls)) : wpY_note post (len, ss, ft, bt, fe, nI k, oo, dd, aa, bb, rg, wd, uc, lt, nu, kd, tg, fs, sc, bk, is, rd, ac, ry, wr, un, pk, ls) (nI p) := by
  have cp : (nI p).toNatClampNeg = p := nI_clamp (by omega)
  have ck : (nI k).toNatClampNeg = k := nI_clamp (by omega)
  unfold sd_tg at h
  refine ⟨vp_in_nI hp (by omega), nm_r (e' := nI n) (by rw [cp]; exact ho) ⟨vp_in_nI hk (by omega), nm_r (congrArg (fun q => upd nu q (nI p)) ck) ?_⟩⟩
  refine sy_kind hn ?_
  refine ⟨vp_in_nI hk (by omega), nm_r (congrArg (fun q => upd kd q (nI (sd_kd n))) ck) ?_⟩
  refine pk_le 7 n (fun e => ?_) (fun e => ⟨vp_in_nI hp (by omega), ?_⟩)
  · rw [if_neg (by omega)] at h
    exact sy_50 hp hk hn ha h
  · rw [if_pos (by omega)] at h
    rw [cp]
    exact sy_50 hp hk hn ha h
theorem sy_isF {post : Int32 → Prop} {S E w : Nat} (hS : S ≤ 4) (hE : E ≤ 60) (h1 : ∀ i, i < E → E ≤ i + S → pk i = nI w → post 1) (h0 : (∀ i, i < E → E ≤ i + S → ¬ pk i = nI w) → post 0) :
    ∀ j, j ≤ E → (∀ i, j ≤ i → i < E → E ≤ i + S → ¬ pk i = nI w) → wY_isFetched_7 post (nI w) len (nI S) ft bt (nI E) dn oo dd aa bb rg wd uc lt nu kd tg fs sc bk is rd ac ry wr un pk ls (j + 1) (nI j + (-1)) := by
  intro j
  induction j with
  | zero =>
    intro hj hn
    rw [wY_isFetched_7]
    exact br_t (by decide) (h0 (fun i => hn i (Nat.zero_le i)))
  | succ j ih =>
    intro hj hn
    have c : (nI j).toNatClampNeg = j := nI_clamp (by omega)
    rw [wY_isFetched_7, pk_m1]
    refine br_f (nI_pos (by omega)) ⟨fun e => h0 (fun i a b => ?_), fun e => ⟨vp_in_nI (by omega) (by omega), ?_⟩⟩
    · have g := (sd_sublt (i := j) (E := E) (S := S) (by omega) (by omega) (by omega)).mp e
      exact hn i (by omega) a b
    · rw [c]
      refine ⟨fun e2 => h1 j (by omega) ?_ e2, fun e2 => nm_e (ih (by omega) (fun i a b cc => ?_))⟩
      · by_cases g : j + S < E
        · exact absurd ((sd_sublt (i := j) (E := E) (S := S) (by omega) (by omega) (by omega)).mpr g) e
        · omega
      · by_cases g : i = j
        · rw [g]; exact e2
        · exact hn i (by omega) b cc
theorem sy_isFetched {post : Int32 → Prop} {S E w : Nat} (hS : S ≤ 4) (hE : E ≤ 60) (h1 : ∀ i, i < E → E ≤ i + S → pk i = nI w → post 1) (h0 : (∀ i, i < E → E ≤ i + S → ¬ pk i = nI w) → post 0) : wpY_isFetched post (len, nI S, ft, bt, nI E, dn, oo, dd, aa, bb, rg, wd, uc, lt, nu, kd, tg, fs, sc, bk, is, rd, ac, ry, wr, un, pk, ls) (nI w) := by
  have e : nI E - 1 = nI E + (-1) := Int32.sub_eq_add_neg _ _
  exact nm_r e ⟨E + 1, sy_isF hS hE h1 h0 E (Nat.le_refl _) (fun i a b => absurd b (by omega))⟩
theorem sy_hl {post : Int32 → Prop} {k c B : Nat} (hk : k < 60) (hc : c < 100000) (ok : sd_ok wr k B) (hB : B < 100000) (h1 : ∀ j, j < k → ¬ tg k = -1 → tg j = tg k → c ≤ sd_c wr j → post 1) (h0 : (∀ j, j < k → ¬ tg k = -1 → tg j = tg k → sd_c wr j < c) → post 0) :
    ∀ d j, j + d = k → (∀ j', j' < j → ¬ tg k = -1 → tg j' = tg k → sd_c wr j' < c) → wY_isHeld_2 post (nI k) (nI c) len ss ft bt fe dn oo dd aa bb rg wd uc lt nu kd tg fs sc bk is rd ac ry wr un pk ls (d + 1) (nI j) := by
  have ck : (nI k).toNatClampNeg = k := nI_clamp (by omega)
  intro d
  induction d with
  | zero =>
    intro j hj hn
    rw [wY_isHeld_2]
    exact br_t (nI_le (by omega) (by omega)) (h0 (fun j' h => hn j' (by omega)))
  | succ d ih =>
    intro j hj hn
    have cj : (nI j).toNatClampNeg = j := nI_clamp (by omega)
    have vj : vp_in (nI j) 60 := vp_in_nI (by omega) (by omega)
    have bj := (ok j (by omega)).2
    have nx : (¬ tg k = -1 → tg j = tg k → sd_c wr j < c) → wY_isHeld_2 post (nI k) (nI c) len ss ft bt fe dn oo dd aa bb rg wd uc lt nu kd tg fs sc bk is rd ac ry wr un pk ls (d + 1) (nI (j + 1)) := fun g => ih (j + 1) (by omega) (fun j' hj' a b => by
      by_cases e : j' = j
      · subst e; exact g a b
      · exact hn j' (by omega) a b)
    rw [wY_isHeld_2]
    refine br_f (nI_ge (by omega) (by omega)) ⟨vp_in_nI hk (by omega), ?_⟩
    rw [ck]
    refine ⟨fun e => nm_r (nI_1 j) (nx (fun z => absurd e z)), fun e => ⟨vj, vp_in_nI hk (by omega), ?_⟩⟩
    rw [cj]
    refine ⟨fun e2 => ⟨vj, ?_⟩, fun e2 => nm_r (nI_1 j) (nx (fun _ z => absurd z e2))⟩
    exact pk_lt (sd_c wr j) c (fun e3 => nm_r (nI_1 j) (nx (fun _ _ => e3))) (fun e3 => h1 j (by omega) e e2 e3) (ok j (by omega)).1 rfl
theorem sy_held {post : Int32 → Prop} {k c B : Nat} (hk : k < 60) (h1c : 1 ≤ c) (hc : c < 100000) (ok : sd_ok wr k B) (hB : B < 100000) (hT : sd_rg (tg k)) (h : ∀ x, (c < sd_o (tg k) (sd_RW tg wr k) ∧ x = 1) ∨ (¬ c < sd_o (tg k) (sd_RW tg wr k) ∧ x = 0) → post x) : wpY_isHeld post (len, ss, ft, bt, fe, dn, oo, dd, aa, bb, rg, wd, uc, lt, nu, kd, tg, fs, sc, bk, is, rd, ac, ry, wr, un, pk, ls) (nI k) (nI c) := by
  refine ⟨k + 1, sy_hl hk hc ok hB (fun j hj a b g => h 1 (Or.inl ⟨?_, rfl⟩)) (fun z => h 0 (Or.inr ⟨?_, rfl⟩)) k 0 (Nat.zero_add k) (fun j' hj' => absurd hj' (Nat.not_lt_zero j'))⟩
  · rcases hT with e | ⟨r, hr, e⟩
    · exact absurd e a
    · rw [e, sd_o_s (by omega)]
      have := sd_mx_ge (p := sd_pt tg r) (f := sd_c wr) k j hj (decide_eq_true (b.trans e))
      unfold sd_RW
      omega
  · rcases hT with e | ⟨r, hr, e⟩
    · rw [e, sd_o_n]
      omega
    · have a : ¬ tg k = -1 := by rw [e]; exact sd_ne1 (by omega)
      have := sd_mx_le (p := sd_pt tg r) (f := sd_c wr) (b := c - 1) k (fun j hj hp => by
        have := z j hj a ((of_decide_eq_true hp).trans e.symm)
        omega)
      rw [e, sd_o_s (by omega)]
      unfold sd_RW
      omega
theorem sy_mw {post : Int32 → Prop} {k c B : Nat} (hk : k < 60) (hc : c < 100000) (ok : sd_ok rd k B) (hB : B < 100000) (h1 : ∀ j, j < k → ¬ tg k = -1 → (fs j = tg k ∨ sc j = tg k) → c ≤ sd_c rd j → post 1) (h0 : (∀ j, j < k → ¬ tg k = -1 → (fs j = tg k ∨ sc j = tg k) → sd_c rd j < c) → post 0) :
    ∀ d j, j + d = k → (∀ j', j' < j → ¬ tg k = -1 → (fs j' = tg k ∨ sc j' = tg k) → sd_c rd j' < c) → wY_mustWait_2 post (nI k) (nI c) len ss ft bt fe dn oo dd aa bb rg wd uc lt nu kd tg fs sc bk is rd ac ry wr un pk ls (d + 1) (nI j) := by
  have ck : (nI k).toNatClampNeg = k := nI_clamp (by omega)
  intro d
  induction d with
  | zero =>
    intro j hj hn
    rw [wY_mustWait_2]
    exact br_t (nI_le (by omega) (by omega)) (h0 (fun j' h => hn j' (by omega)))
  | succ d ih =>
    intro j hj hn
    have cj : (nI j).toNatClampNeg = j := nI_clamp (by omega)
    have vj : vp_in (nI j) 60 := vp_in_nI (by omega) (by omega)
    have bj := (ok j (by omega)).2
    have nx : (¬ tg k = -1 → (fs j = tg k ∨ sc j = tg k) → sd_c rd j < c) → wY_mustWait_2 post (nI k) (nI c) len ss ft bt fe dn oo dd aa bb rg wd uc lt nu kd tg fs sc bk is rd ac ry wr un pk ls (d + 1) (nI (j + 1)) := fun g => ih (j + 1) (by omega) (fun j' hj' a b => by
      by_cases e : j' = j
      · subst e; exact g a b
      · exact hn j' (by omega) a b)
    have k47 : ¬ tg k = -1 → (fs j = tg k ∨ sc j = tg k) → wY_mustWait_47 post (wY_mustWait_2 post (nI k) (nI c) len ss ft bt fe dn oo dd aa bb rg wd uc lt nu kd tg fs sc bk is rd ac ry wr un pk ls (d + 1)) (nI k) (nI c) (nI j) len ss ft bt fe dn oo dd aa bb rg wd uc lt nu kd tg fs sc bk is rd ac ry wr un pk ls := by
      intro a b
      refine ⟨vj, ?_⟩
      rw [cj]
      exact pk_lt (sd_c rd j) c (fun e3 => nm_r (nI_1 j) (nx (fun _ _ => e3))) (fun e3 => h1 j (by omega) a b e3) (ok j (by omega)).1 rfl
    rw [wY_mustWait_2]
    refine br_f (nI_ge (by omega) (by omega)) ⟨vp_in_nI hk (by omega), ?_⟩
    rw [ck]
    refine ⟨fun e => nm_r (nI_1 j) (nx (fun z => absurd e z)), fun e => ⟨vj, vp_in_nI hk (by omega), ?_⟩⟩
    rw [cj]
    refine ⟨fun e2 => k47 e (Or.inl e2), fun e2 => ⟨vj, vp_in_nI hk (by omega), fun e3 => k47 e (Or.inr e3), fun e3 => nm_r (nI_1 j) (nx (fun _ z => absurd z (fun y => y.elim e2 e3)))⟩⟩
theorem sy_must {post : Int32 → Prop} {k c B : Nat} (hk : k < 60) (h1c : 1 ≤ c) (hc : c < 100000) (ok : sd_ok rd k B) (hB : B < 100000) (hT : sd_rg (tg k)) (h1 : c < sd_o (tg k) (sd_RR fs sc rd k) → post 1) (h0 : ¬ c < sd_o (tg k) (sd_RR fs sc rd k) → post 0) : wpY_mustWait post (len, ss, ft, bt, fe, dn, oo, dd, aa, bb, rg, wd, uc, lt, nu, kd, tg, fs, sc, bk, is, rd, ac, ry, wr, un, pk, ls) (nI k) (nI c) := by
  refine ⟨k + 1, sy_mw hk hc ok hB (fun j hj a b g => h1 ?_) (fun z => h0 ?_) k 0 (Nat.zero_add k) (fun j' hj' => absurd hj' (Nat.not_lt_zero j'))⟩
  · rcases hT with e | ⟨r, hr, e⟩
    · exact absurd e a
    · have hp : sd_ps fs sc r j = true := by
        simp only [sd_ps, Bool.or_eq_true, decide_eq_true_eq]
        rw [← e]
        exact b
      have := sd_mx_ge (p := sd_ps fs sc r) (f := sd_c rd) k j hj hp
      rw [e, sd_o_s (by omega)]
      unfold sd_RR
      omega
  · rcases hT with e | ⟨r, hr, e⟩
    · rw [e, sd_o_n]
      omega
    · have a : ¬ tg k = -1 := by rw [e]; exact sd_ne1 (by omega)
      have := sd_mx_le (p := sd_ps fs sc r) (f := sd_c rd) (b := c - 1) k (fun j hj hp => by
        simp only [sd_ps, Bool.or_eq_true, decide_eq_true_eq] at hp
        rw [← e] at hp
        have := z j hj a hp
        omega)
      rw [e, sd_o_s (by omega)]
      unfold sd_RR
      omega
end SDY6
end
section
/-! SD 7: Y's instruction, scheduled -/
def sd_fu (U : Nat → Nat) (m c : Nat) (x : Int32) : Prop := (∃ u, u ≤ m ∧ U u < c ∧ (∀ u', u' < u → c ≤ U u') ∧ x = nI u) ∨ ((∀ u, u ≤ m → c ≤ U u) ∧ x = -1)
theorem sd_la0 {i : Nat} {L : Nat → Int32} : sd_la i L (nI 0) = L := by
  unfold sd_la
  rw [nI_0, Int32.add_zero]
  exact sd_ui
theorem sd_la1 {i d : Nat} {L : Nat → Int32} : sd_la i (upd L i (L i + 1)) (nI d) = sd_la i L (nI (d + 1)) := by
  unfold sd_la
  rw [pk_us, sd_uu, Int32.add_assoc, Int32.add_comm 1 (nI d), nI_1]
section SDY7
variable {len ss ft bt fe dn : Int32} {oo dd aa bb rg wd uc lt nu kd tg fs sc bk is rd ac ry wr un pk ls : Nat → Int32}
theorem sy_fi {post J : Int32 → Prop} {k c u q B : Nat} (hk : k < 60) (h1c : 1 ≤ c) (hc : c < 100000) (ok : sd_ok wr k B) (hB : B < 100000) (ekd : kd k = nI q) (hf : sd_UW kd un wr k q u < c → post (nI u)) (hb : ¬ sd_UW kd un wr k q u < c → J (nI (u + 1))) :
    ∀ d j, j + d = k → wY_freeUnit_23 post J (nI k) (nI c) (nI u) len ss ft bt fe dn oo dd aa bb rg wd uc lt nu kd tg fs sc bk is rd ac ry wr un pk ls (d + 1) (if sd_mx (sd_pu kd un q u) (sd_c wr) j < c then 1 else 0) (nI j) := by
  have ck : (nI k).toNatClampNeg = k := nI_clamp (by omega)
  intro d
  induction d with
  | zero =>
    intro j hj
    have e : j = k := by omega
    subst e
    rw [wY_freeUnit_23]
    refine br_t (nI_le (Nat.le_refl _) (by omega)) ?_
    by_cases g : sd_mx (sd_pu kd un q u) (sd_c wr) j < c
    · rw [if_pos g]
      exact br_f (by decide) (hf g)
    · rw [if_neg g]
      exact br_t rfl (nm_r (nI_1 u) (hb g))
  | succ d ih =>
    intro j hj
    have cj : (nI j).toNatClampNeg = j := nI_clamp (by omega)
    have vj : vp_in (nI j) 60 := vp_in_nI (by omega) (by omega)
    have vk : vp_in (nI k) 60 := vp_in_nI hk (by omega)
    have bj := (ok j (by omega)).2
    have t := ih (j + 1) (by omega)
    have no : ¬ sd_pu kd un q u j = true → wY_freeUnit_23 post J (nI k) (nI c) (nI u) len ss ft bt fe dn oo dd aa bb rg wd uc lt nu kd tg fs sc bk is rd ac ry wr un pk ls (d + 1) (if sd_mx (sd_pu kd un q u) (sd_c wr) j < c then 1 else 0) (nI (j + 1)) := by
      intro g
      rw [sd_mx_f g] at t
      exact t
    rw [wY_freeUnit_23]
    refine br_f (nI_ge (by omega) (by omega)) ⟨vj, vk, ?_⟩
    rw [cj, ck, ekd]
    refine ⟨fun e => ⟨vj, fun e2 => ⟨vj, ?_⟩, fun e2 => nm_r (nI_1 j) (no (fun g => ?_))⟩, fun e => nm_r (nI_1 j) (no (fun g => ?_))⟩
    · have hp : sd_pu kd un q u j = true := by
        simp only [sd_pu, Bool.and_eq_true, decide_eq_true_eq]
        exact ⟨e, e2⟩
      rw [sd_mx_t hp] at t
      refine pk_lt (sd_c wr j) c (fun e3 => nm_r (nI_1 j) ?_) (fun e3 => nm_r (nI_1 j) ?_) (ok j (by omega)).1 rfl
      · by_cases g : sd_mx (sd_pu kd un q u) (sd_c wr) j < c
        · rw [if_pos (by omega)] at t
          rw [if_pos g]
          exact t
        · rw [if_neg (by omega)] at t
          rw [if_neg g]
          exact t
      · rw [if_neg (by omega)] at t
        exact t
    · simp only [sd_pu, Bool.and_eq_true, decide_eq_true_eq] at g
      exact e2 g.2
    · simp only [sd_pu, Bool.and_eq_true, decide_eq_true_eq] at g
      exact e g.1
theorem sy_fo {post J : Int32 → Prop} {k c u q B : Nat} (hk : k < 60) (h1c : 1 ≤ c) (hc : c < 100000) (ok : sd_ok wr k B) (hB : B < 100000) (ekd : kd k = nI q) (hf : sd_UW kd un wr k q u < c → post (nI u)) (hb : ¬ sd_UW kd un wr k q u < c → J (nI (u + 1))) : ∃ n, wY_freeUnit_23 post J (nI k) (nI c) (nI u) len ss ft bt fe dn oo dd aa bb rg wd uc lt nu kd tg fs sc bk is rd ac ry wr un pk ls n 1 0 := by
  have t := sy_fi (len := len) (ss := ss) (ft := ft) (bt := bt) (fe := fe) (dn := dn) (oo := oo) (dd := dd) (aa := aa) (bb := bb) (rg := rg) (wd := wd) (uc := uc) (lt := lt) (nu := nu) (tg := tg) (fs := fs) (sc := sc) (bk := bk) (is := is) (rd := rd) (ac := ac) (ry := ry) (pk := pk) (ls := ls) hk h1c hc ok hB ekd hf hb k 0 (Nat.zero_add k)
  rw [if_pos (show sd_mx (sd_pu kd un q u) (sd_c wr) 0 < c from h1c)] at t
  exact ⟨k + 1, t⟩
theorem sy_f1 {post : Int32 → Prop} {k c u q m B : Nat} (hk : k < 60) (h1c : 1 ≤ c) (hc : c < 100000) (ok : sd_ok wr k B) (hB : B < 100000) (ekd : kd k = nI q) (hq : q < 6) (hm : m < 3) (euc : uc q = nI (m + 1)) (hu : u ≤ m) (h1 : sd_UW kd un wr k q u < c) (h2 : ∀ u', u' < u → c ≤ sd_UW kd un wr k q u') (h : post (nI u)) :
    ∀ d i, i + d = u → wY_freeUnit_2 post (nI k) (nI c) len ss ft bt fe dn oo dd aa bb rg wd uc lt nu kd tg fs sc bk is rd ac ry wr un pk ls (d + 1) (nI i) := by
  have ck : (nI k).toNatClampNeg = k := nI_clamp (by omega)
  have cq : (nI q).toNatClampNeg = q := nI_clamp (by omega)
  intro d
  induction d with
  | zero =>
    intro i hi
    have e : i = u := by omega
    subst e
    rw [wY_freeUnit_2]
    refine ⟨vp_in_nI hk (by omega), ?_⟩
    rw [ck, ekd, cq, euc]
    exact ⟨vp_in_nI hq (by omega), br_f (nI_ge (by omega) (by omega)) (sy_fo hk h1c hc ok hB ekd (fun _ => h) (fun z => absurd h1 z))⟩
  | succ d ih =>
    intro i hi
    rw [wY_freeUnit_2]
    refine ⟨vp_in_nI hk (by omega), ?_⟩
    rw [ck, ekd, cq, euc]
    exact ⟨vp_in_nI hq (by omega), br_f (nI_ge (by omega) (by omega)) (sy_fo hk h1c hc ok hB ekd (fun z => absurd z (by have := h2 i (by omega); omega)) (fun _ => ih (i + 1) (by omega)))⟩
theorem sy_f0 {post : Int32 → Prop} {k c q m B : Nat} (hk : k < 60) (h1c : 1 ≤ c) (hc : c < 100000) (ok : sd_ok wr k B) (hB : B < 100000) (ekd : kd k = nI q) (hq : q < 6) (hm : m < 3) (euc : uc q = nI (m + 1)) (h2 : ∀ u', u' ≤ m → c ≤ sd_UW kd un wr k q u') (h : post (-1)) :
    ∀ d i, i + d = m + 1 → wY_freeUnit_2 post (nI k) (nI c) len ss ft bt fe dn oo dd aa bb rg wd uc lt nu kd tg fs sc bk is rd ac ry wr un pk ls (d + 1) (nI i) := by
  have ck : (nI k).toNatClampNeg = k := nI_clamp (by omega)
  have cq : (nI q).toNatClampNeg = q := nI_clamp (by omega)
  intro d
  induction d with
  | zero =>
    intro i hi
    rw [wY_freeUnit_2]
    refine ⟨vp_in_nI hk (by omega), ?_⟩
    rw [ck, ekd, cq, euc]
    exact ⟨vp_in_nI hq (by omega), br_t (nI_le (by omega) (by omega)) h⟩
  | succ d ih =>
    intro i hi
    rw [wY_freeUnit_2]
    refine ⟨vp_in_nI hk (by omega), ?_⟩
    rw [ck, ekd, cq, euc]
    exact ⟨vp_in_nI hq (by omega), br_f (nI_ge (by omega) (by omega)) (sy_fo hk h1c hc ok hB ekd (fun z => absurd z (by have := h2 i (by omega); omega)) (fun _ => ih (i + 1) (by omega)))⟩
theorem sy_free {post : Int32 → Prop} {k c q m B : Nat} (hk : k < 60) (h1c : 1 ≤ c) (hc : c < 100000) (ok : sd_ok wr k B) (hB : B < 100000) (ekd : kd k = nI q) (hq : q < 6) (hm : m < 3) (euc : uc q = nI (m + 1)) (h : ∀ x, sd_fu (sd_UW kd un wr k q) m c x → post x) : wpY_freeUnit post (len, ss, ft, bt, fe, dn, oo, dd, aa, bb, rg, wd, uc, lt, nu, kd, tg, fs, sc, bk, is, rd, ac, ry, wr, un, pk, ls) (nI k) (nI c) := by
  by_cases e : ∃ u, u ≤ m ∧ sd_UW kd un wr k q u < c
  · obtain ⟨u, ⟨h1, h2⟩, h3⟩ := pk_least (fun u => u ≤ m ∧ sd_UW kd un wr k q u < c) e
    have h4 : ∀ u', u' < u → c ≤ sd_UW kd un wr k q u' := fun u' hu' => by
      by_cases g : sd_UW kd un wr k q u' < c
      · exact absurd ⟨by omega, g⟩ (h3 u' hu')
      · omega
    exact ⟨u + 1, sy_f1 hk h1c hc ok hB ekd hq hm euc h1 h2 h4 (h _ (Or.inl ⟨u, h1, h2, h4, rfl⟩)) u 0 (Nat.zero_add u)⟩
  · have h4 : ∀ u, u ≤ m → c ≤ sd_UW kd un wr k q u := fun u hu => by
      by_cases g : sd_UW kd un wr k q u < c
      · exact absurd ⟨u, hu, g⟩ e
      · omega
    exact ⟨m + 1 + 1, sy_f0 hk h1c hc ok hB ekd hq hm euc h4 (h _ (Or.inr ⟨h4, rfl⟩)) (m + 1) 0 (Nat.zero_add _)⟩
theorem sy_rd {post : SY → Prop} {k iss B : Nat} (hk : k < 60) (ok : sd_ok wr k B) (hB : B < 100000) (eis : is k = nI iss) (hi : iss < 100000) (h : post (len, ss, ft, bt, fe, dn, oo, dd, aa, bb, rg, wd, uc, lt, nu, kd, tg, fs, sc, bk, is, upd rd k (nI (max (iss + 1) (sd_mx (sd_pn tg (fs k) (sc k)) (sd_c wr) k + 1))), ac, ry, wr, un, pk, sd_la 4 ls ((nI (max (iss + 1) (sd_mx (sd_pn tg (fs k) (sc k)) (sd_c wr) k + 1)) - nI iss) - 1))) :
    ∀ d j, j + d = k → wY_findRead_11 post (nI k) len ss ft bt fe dn oo dd aa bb rg wd uc lt nu kd tg fs sc bk is rd ac ry wr un pk ls (d + 1) (nI (max (iss + 1) (sd_mx (sd_pn tg (fs k) (sc k)) (sd_c wr) j + 1))) (nI j) := by
  have ck : (nI k).toNatClampNeg = k := nI_clamp (by omega)
  have vk : vp_in (nI k) 60 := vp_in_nI hk (by omega)
  intro d
  induction d with
  | zero =>
    intro j hj
    have e : j = k := by omega
    subst e
    rw [wY_findRead_11]
    refine br_t (nI_le (Nat.le_refl _) (by omega)) ⟨vk, nm_r (congrArg (fun z => upd rd z _) ck) ⟨vk, ?_⟩⟩
    rw [ck, eis]
    exact nm_e h
  | succ d ih =>
    intro j hj
    have cj : (nI j).toNatClampNeg = j := nI_clamp (by omega)
    have vj : vp_in (nI j) 60 := vp_in_nI (by omega) (by omega)
    have bj := (ok j (by omega)).2
    have t := ih (j + 1) (by omega)
    have bm : sd_mx (sd_pn tg (fs k) (sc k)) (sd_c wr) j ≤ B := sd_mx_le j (fun i hi _ => (ok i (by omega)).2)
    have n0 : ¬ sd_pn tg (fs k) (sc k) j = true → wY_findRead_61 post (wY_findRead_11 post (nI k) len ss ft bt fe dn oo dd aa bb rg wd uc lt nu kd tg fs sc bk is rd ac ry wr un pk ls (d + 1)) (nI k) (nI (max (iss + 1) (sd_mx (sd_pn tg (fs k) (sc k)) (sd_c wr) j + 1))) (nI j) 0 len ss ft bt fe dn oo dd aa bb rg wd uc lt nu kd tg fs sc bk is rd ac ry wr un pk ls := by
      intro g
      rw [sd_mx_f g] at t
      exact br_t rfl (nm_r (nI_1 j) t)
    have n1 : sd_pn tg (fs k) (sc k) j = true → wY_findRead_61 post (wY_findRead_11 post (nI k) len ss ft bt fe dn oo dd aa bb rg wd uc lt nu kd tg fs sc bk is rd ac ry wr un pk ls (d + 1)) (nI k) (nI (max (iss + 1) (sd_mx (sd_pn tg (fs k) (sc k)) (sd_c wr) j + 1))) (nI j) 1 len ss ft bt fe dn oo dd aa bb rg wd uc lt nu kd tg fs sc bk is rd ac ry wr un pk ls := by
      intro g
      rw [sd_mx_t g] at t
      refine br_f (by decide) ⟨vj, ?_⟩
      rw [cj]
      have ew : wr j + 1 = nI (sd_c wr j + 1) := by rw [(ok j (by omega)).1, nI_1]
      refine pk_le (sd_c wr j + 1) (max (iss + 1) (sd_mx (sd_pn tg (fs k) (sc k)) (sd_c wr) j + 1)) (fun e => nm_r (nI_1 j) ?_) (fun e => ⟨vj, nm_r ew (nm_r (nI_1 j) ?_)⟩) ew rfl
      · have e5 : max (iss + 1) (max (sd_mx (sd_pn tg (fs k) (sc k)) (sd_c wr) j) (sd_c wr j) + 1) = max (iss + 1) (sd_mx (sd_pn tg (fs k) (sc k)) (sd_c wr) j + 1) := by omega
        rw [e5] at t
        exact t
      · have e5 : max (iss + 1) (max (sd_mx (sd_pn tg (fs k) (sc k)) (sd_c wr) j) (sd_c wr j) + 1) = sd_c wr j + 1 := by omega
        rw [e5] at t
        exact t
    rw [wY_findRead_11]
    refine br_f (nI_ge (by omega) (by omega)) ⟨vj, ?_⟩
    rw [cj, ck]
    refine ⟨fun e => n0 (fun g => ?_), fun e => ⟨vj, vk, fun e2 => n1 ?_, fun e2 => ⟨vj, vk, fun e3 => n1 ?_, fun e3 => n0 (fun g => ?_)⟩⟩⟩
    · simp only [sd_pn, Bool.and_eq_true, Bool.or_eq_true, decide_eq_true_eq] at g
      exact g.1 e
    · simp only [sd_pn, Bool.and_eq_true, Bool.or_eq_true, decide_eq_true_eq]
      exact ⟨e, Or.inl e2⟩
    · simp only [sd_pn, Bool.and_eq_true, Bool.or_eq_true, decide_eq_true_eq]
      exact ⟨e, Or.inr e3⟩
    · simp only [sd_pn, Bool.and_eq_true, Bool.or_eq_true, decide_eq_true_eq] at g
      exact g.2.elim e2 e3
theorem sy_read {post : SY → Prop} {k iss B rdv : Nat} (hk : k < 60) (ok : sd_ok wr k B) (hB : B < 100000) (eis : is k = nI iss) (hi : iss < 100000) (er : rdv = max (iss + 1) (sd_mx (sd_pn tg (fs k) (sc k)) (sd_c wr) k + 1)) (h : post (len, ss, ft, bt, fe, dn, oo, dd, aa, bb, rg, wd, uc, lt, nu, kd, tg, fs, sc, bk, is, upd rd k (nI rdv), ac, ry, wr, un, pk, sd_la 4 ls ((nI rdv - nI iss) - 1))) : wpY_findRead post (len, ss, ft, bt, fe, dn, oo, dd, aa, bb, rg, wd, uc, lt, nu, kd, tg, fs, sc, bk, is, rd, ac, ry, wr, un, pk, ls) (nI k) := by
  have ck : (nI k).toNatClampNeg = k := nI_clamp (by omega)
  subst er
  exact ⟨vp_in_nI hk (by omega), nm_r (e' := nI (max (iss + 1) (sd_mx (sd_pn tg (fs k) (sc k)) (sd_c wr) 0 + 1))) (by rw [ck, eis, nI_1, show sd_mx (sd_pn tg (fs k) (sc k)) (sd_c wr) 0 = 0 from rfl, Nat.max_eq_left (by omega)]) ⟨k + 1, sy_rd hk ok hB eis hi h k 0 (Nat.zero_add k)⟩⟩
end SDY7
end
section
/-! SD 8: Y's accesses, writes, and the whole of find -/
section SDY8
variable {len ss ft bt fe dn : Int32} {oo dd aa bb rg wd uc lt nu kd tg fs sc bk is rd ac ry wr un pk ls : Nat → Int32}
theorem sy_ac {post : SY → Prop} {k t rdv b B : Nat} (hk : k < 60) (ht : t ≤ 8) (hac : ∀ j, j < k → kd j = nI 4 → ac j = nI (sd_c ac j) ∧ sd_c ac j ≤ B) (hB : B < 100000) (erd : rd k = nI rdv) (hr : rdv < 100000) (ebk : bk k = nI b)
    (h : post (len, ss, ft, nI t, fe, dn, oo, dd, aa, bb, rg, wd, uc, lt, nu, kd, tg, fs, sc, bk, is, rd, upd ac k (nI (max (max (rdv + 1) (sd_LA kd ac k + 1)) (sd_BR kd bk ac t k b))), ry, wr, un, pk, sd_la 5 ls ((nI (max (max (rdv + 1) (sd_LA kd ac k + 1)) (sd_BR kd bk ac t k b)) - nI rdv) - 1))) :
    ∀ d j, j + d = k → wY_findAccess_22 post (nI k) len ss ft (nI t) fe dn oo dd aa bb rg wd uc lt nu kd tg fs sc bk is rd ac ry wr un pk ls (d + 1) (nI (max (max (rdv + 1) (sd_LA kd ac j + 1)) (sd_BR kd bk ac t j b))) (nI j) := by
  have ck : (nI k).toNatClampNeg = k := nI_clamp (by omega)
  have vk : vp_in (nI k) 60 := vp_in_nI hk (by omega)
  intro d
  induction d with
  | zero =>
    intro j hj
    have e : j = k := by omega
    subst e
    rw [wY_findAccess_22]
    refine br_t (nI_le (Nat.le_refl _) (by omega)) ⟨vk, nm_r (congrArg (fun z => upd ac z _) ck) ⟨vk, ?_⟩⟩
    rw [ck, erd]
    exact nm_e h
  | succ d ih =>
    intro j hj
    have cj : (nI j).toNatClampNeg = j := nI_clamp (by omega)
    have vj : vp_in (nI j) 60 := vp_in_nI (by omega) (by omega)
    have t1 := ih (j + 1) (by omega)
    have bA : sd_LA kd ac j ≤ B := sd_LA_b (fun i hi => hac i (by omega))
    have bB : sd_BR kd bk ac t j b ≤ B + t := sd_BR_b (fun i hi => hac i (by omega))
    rw [wY_findAccess_22]
    refine br_f (nI_ge (by omega) (by omega)) ⟨vj, ?_⟩
    rw [cj]
    refine ⟨fun e4 => ⟨vj, ?_⟩, fun e4 => nm_r (nI_1 j) ?_⟩
    · have e4 : kd j = nI 4 := e4
      obtain ⟨ea, ba⟩ := hac j (by omega) e4
      have sA : sd_LA kd ac (j + 1) = max (sd_LA kd ac j) (sd_c ac j) := sd_mx_t (decide_eq_true e4)
      have k61 : ∀ c1, c1 = max (max (max (rdv + 1) (sd_LA kd ac j + 1)) (sd_BR kd bk ac t j b)) (sd_c ac j + 1) → wY_findAccess_61 post (wY_findAccess_22 post (nI k) len ss ft (nI t) fe dn oo dd aa bb rg wd uc lt nu kd tg fs sc bk is rd ac ry wr un pk ls (d + 1)) (nI k) (nI c1) (nI j) len ss ft (nI t) fe dn oo dd aa bb rg wd uc lt nu kd tg fs sc bk is rd ac ry wr un pk ls := by
        intro c1 hc1
        refine ⟨vj, vk, ?_⟩
        rw [cj, ck, ebk]
        refine ⟨fun eb => ⟨vj, ?_⟩, fun eb => nm_r (nI_1 j) ?_⟩
        · have sB : sd_BR kd bk ac t (j + 1) b = max (sd_BR kd bk ac t j b) (sd_c ac j + t) := sd_mx_t (by
            simp only [sd_pb, Bool.and_eq_true, decide_eq_true_eq]
            exact ⟨e4, eb⟩)
          rw [sA, sB] at t1
          have et : ac j + nI t = nI (sd_c ac j + t) := by rw [ea, nI_add]
          refine pk_le (sd_c ac j + t) c1 (fun e => nm_r (nI_1 j) ?_) (fun e => ⟨vj, nm_r et (nm_r (nI_1 j) ?_)⟩) et rfl
          · have e5 : max (max (rdv + 1) (max (sd_LA kd ac j) (sd_c ac j) + 1)) (max (sd_BR kd bk ac t j b) (sd_c ac j + t)) = c1 := by omega
            rw [e5] at t1
            exact t1
          · have e5 : max (max (rdv + 1) (max (sd_LA kd ac j) (sd_c ac j) + 1)) (max (sd_BR kd bk ac t j b) (sd_c ac j + t)) = sd_c ac j + t := by omega
            rw [e5] at t1
            exact t1
        · have sB : sd_BR kd bk ac t (j + 1) b = sd_BR kd bk ac t j b := sd_mx_f (fun g => by
            simp only [sd_pb, Bool.and_eq_true, decide_eq_true_eq] at g
            exact eb g.2)
          rw [sA, sB] at t1
          have e5 : max (max (rdv + 1) (max (sd_LA kd ac j) (sd_c ac j) + 1)) (sd_BR kd bk ac t j b) = c1 := by omega
          rw [e5] at t1
          exact t1
      have e1 : ac j + 1 = nI (sd_c ac j + 1) := by rw [ea, nI_1]
      exact pk_le (sd_c ac j + 1) (max (max (rdv + 1) (sd_LA kd ac j + 1)) (sd_BR kd bk ac t j b)) (fun e => k61 _ (by omega)) (fun e => ⟨vj, nm_r e1 (k61 _ (by omega))⟩) e1 rfl
    · have e4 : ¬ kd j = nI 4 := e4
      rw [sd_LA_f e4, sd_BR_f e4] at t1
      exact t1
theorem sy_acc {post : SY → Prop} {k q t rdv b B start : Nat} {ac' L' : Nat → Int32} (hk : k < 60) (ht : t ≤ 8) (hac : ∀ j, j < k → kd j = nI 4 → ac j = nI (sd_c ac j) ∧ sd_c ac j ≤ B) (hB : B < 100000) (erd : rd k = nI rdv) (hr : rdv < 100000) (ekd : kd k = nI q) (hq : q < 6)
    (hmem : (q = 4 ∧ bk k = nI b ∧ start = max (max (rdv + 1) (sd_LA kd ac k + 1)) (sd_BR kd bk ac t k b) ∧ ac' = upd ac k (nI start) ∧ L' = sd_la 5 ls ((nI start - nI rdv) - 1)) ∨ (¬ q = 4 ∧ start = rdv ∧ ac' = ac ∧ L' = ls)) (h : post (len, ss, ft, nI t, fe, dn, oo, dd, aa, bb, rg, wd, uc, lt, nu, kd, tg, fs, sc, bk, is, rd, ac', ry, wr, un, pk, L')) : wpY_findAccess post (len, ss, ft, nI t, fe, dn, oo, dd, aa, bb, rg, wd, uc, lt, nu, kd, tg, fs, sc, bk, is, rd, ac, ry, wr, un, pk, ls) (nI k) := by
  have ck : (nI k).toNatClampNeg = k := nI_clamp (by omega)
  have vk : vp_in (nI k) 60 := vp_in_nI hk (by omega)
  refine ⟨vk, ?_⟩
  rw [ck]
  refine pk_eq q 4 (fun e => ⟨vk, ?_⟩) (fun e => ?_) ekd rfl
  · rcases hmem with ⟨_, h1, h2, h3, h4⟩ | ⟨z, _⟩
    · subst h2 h3 h4
      refine nm_r (e' := nI (max (max (rdv + 1) (sd_LA kd ac 0 + 1)) (sd_BR kd bk ac t 0 b))) ?_ ⟨k + 1, sy_ac hk ht hac hB erd hr h1 h k 0 (Nat.zero_add k)⟩
      rw [erd, nI_1, show sd_LA kd ac 0 = 0 from rfl, show sd_BR kd bk ac t 0 b = 0 from rfl, Nat.max_zero, Nat.max_eq_left (by omega)]
    · exact absurd e z
  · rcases hmem with ⟨z, _⟩ | ⟨_, h2, h3, h4⟩
    · exact absurd z e
    · subst h3 h4
      exact h
theorem sy_299 {post : SY → Prop} {k w fin B : Nat} (hk : k < 60) (ok : sd_ok rd k B) (hB : B < 100000) (hT : sd_rg (tg k)) (ew : w = max fin (sd_o (tg k) (sd_RR fs sc rd k))) (hw : w < 100000) :
    ∀ d c (L : Nat → Int32), c + d = w → fin ≤ c → 1 ≤ c → post (len, ss, ft, bt, fe, dn, oo, dd, aa, bb, rg, wd, uc, lt, nu, kd, tg, fs, sc, bk, is, rd, ac, ry, upd wr k (nI w), un, pk, sd_la 6 L (nI d)) → wY_find_299 post (nI k) len ss ft bt fe dn (d + 1) oo dd aa bb rg wd uc lt nu kd tg fs sc bk is rd ac ry (upd wr k (nI c)) un pk L := by
  have ck : (nI k).toNatClampNeg = k := nI_clamp (by omega)
  have vk : vp_in (nI k) 60 := vp_in_nI hk (by omega)
  intro d
  induction d with
  | zero =>
    intro c L hc hf h1 hp
    have e : c = w := by omega
    rw [e]
    rw [sd_la0] at hp
    rw [wY_find_299]
    refine ⟨vk, ?_⟩
    rw [ck, pk_us]
    exact sy_must hk (by omega) (by omega) ok hB hT (fun g => absurd g (by omega)) (fun _ => br_t rfl hp)
  | succ d ih =>
    intro c L hc hf h1 hp
    rw [← sd_la1] at hp
    rw [wY_find_299]
    refine ⟨vk, ?_⟩
    rw [ck, pk_us]
    refine sy_must hk (by omega) (by omega) ok hB hT (fun _ => br_f (by decide) ⟨vk, vk, nm_r (e' := upd wr k (nI (c + 1))) (by rw [sd_uu, nI_1]) (nm_e (ih (c + 1) _ (by omega) (by omega) (by omega) hp))⟩) (fun g => absurd g (by omega))
theorem sy_265 {post : SY → Prop} {k q lat start fin w B : Nat} (hk : k < 60) (ok : sd_ok rd k B) (hB : B < 100000) (hT : sd_rg (tg k)) (ekd : kd k = nI q) (hq : q < 6) (elt : lt q = nI lat) (ef : fin = start + lat) (h1 : 1 ≤ fin) (ew : w = max fin (sd_o (tg k) (sd_RR fs sc rd k))) (hw : w < 100000) (h : post (len, ss, ft, bt, fe, dn, oo, dd, aa, bb, rg, wd, uc, lt, nu, kd, tg, fs, sc, bk, is, rd, ac, upd ry k (nI fin), upd wr k (nI w), un, pk, sd_la 6 ls (nI (w - fin)))) : wY_find_265 post (nI k) (nI start) len ss ft bt fe dn oo dd aa bb rg wd uc lt nu kd tg fs sc bk is rd ac ry wr un pk ls := by
  have ck : (nI k).toNatClampNeg = k := nI_clamp (by omega)
  have cq : (nI q).toNatClampNeg = q := nI_clamp (by omega)
  have vk : vp_in (nI k) 60 := vp_in_nI hk (by omega)
  subst ef
  refine ⟨vk, ?_⟩
  rw [ck, ekd, cq, elt]
  exact ⟨vp_in_nI hq (by omega), vk, nm_r (e' := upd ry k (nI (start + lat))) (by rw [nI_add]) ⟨vk, vk, nm_r (e' := upd wr k (nI (start + lat))) (by rw [pk_us]) ⟨_, sy_299 hk ok hB hT ew hw (w - (start + lat)) (start + lat) ls (by omega) (Nat.le_refl _) h1 h⟩⟩⟩
theorem sy_l135 {post : SY → Prop} {k N cm q m t u iss rdv b start fin w lat B : Nat} {ac' Lc L5 : Nat → Int32} (hk : k < 60) (ht : t ≤ 8) (hB : B < 50000) (okw : sd_ok wr k B) (okr : sd_ok rd k B) (hac : ∀ j, j < k → kd j = nI 4 → ac j = nI (sd_c ac j) ∧ sd_c ac j ≤ B) (hT : sd_rg (tg k)) (hF : sd_rg (fs k)) (hS : sd_rg (sc k)) (ekd : kd k = nI q) (hq : q < 6) (hm : m < 3) (euc : uc q = nI (m + 1)) (elt : lt q = nI lat) (hlat : 1 ≤ lat)
    (hN : N < 100000) (hcm : cm < 100000) (ei : iss = max (max cm (sd_mn (sd_UW kd un wr k q) m + 1)) (sd_o (tg k) (sd_RW tg wr k))) (hi : iss < 100000) (hu : u ≤ m) (hu1 : sd_UW kd un wr k q u < iss) (hu2 : ∀ u', u' < u → iss ≤ sd_UW kd un wr k q u')
    (er : rdv = max (max (iss + 1) (sd_o (fs k) (sd_RW tg wr k))) (sd_o (sc k) (sd_RW tg wr k))) (hr : rdv < 100000)
    (hmem : (q = 4 ∧ bk k = nI b ∧ start = max (max (rdv + 1) (sd_LA kd ac k + 1)) (sd_BR kd bk ac t k b) ∧ ac' = upd ac k (nI start) ∧ L5 = sd_la 5 (sd_la 4 Lc ((nI rdv - nI iss) - 1)) ((nI start - nI rdv) - 1)) ∨ (¬ q = 4 ∧ start = rdv ∧ ac' = ac ∧ L5 = sd_la 4 Lc ((nI rdv - nI iss) - 1)))
    (ef : fin = start + lat) (ew : w = max fin (sd_o (tg k) (sd_RR fs sc rd k))) (hw : w < 100000)
    (h : post (len, ss, ft, nI t, fe, dn, oo, dd, aa, bb, rg, wd, uc, lt, nu, kd, tg, fs, sc, bk, upd is k (nI iss), upd rd k (nI rdv), ac', upd ry k (nI fin), upd wr k (nI w), upd un k (nI u), pk, sd_la 6 L5 (nI (w - fin)))) :
    ∀ d c (L : Nat → Int32) x6 x7, c + d = iss → 1 ≤ c → ((c < sd_o (tg k) (sd_RW tg wr k) ∧ x6 = 1) ∨ (¬ c < sd_o (tg k) (sd_RW tg wr k) ∧ x6 = 0)) → sd_fu (sd_UW kd un wr k q) m c x7 → sd_cnt N cm (sd_o (tg k) (sd_RW tg wr k)) d c L = Lc → wY_find_135 post (nI k) (nI N) (nI cm) len ss ft (nI t) fe dn (d + 1) (nI c) x6 x7 oo dd aa bb rg wd uc lt nu kd tg fs sc bk is rd ac ry wr un pk L := by
  have ck : (nI k).toNatClampNeg = k := nI_clamp (by omega)
  have vk : vp_in (nI k) 60 := vp_in_nI hk (by omega)
  intro d
  induction d with
  | zero =>
    intro c L x6 x7 hc h1 h6 h7 hL
    have e : c = iss := by omega
    subst e
    have hL : L = Lc := hL
    subst hL
    have e6 : x6 = 0 := by
      rcases h6 with ⟨a, _⟩ | ⟨_, a⟩
      · omega
      · exact a
    have e7 : x7 = nI u := by
      rcases h7 with ⟨v, a1, a2, a3, a4⟩ | ⟨a, _⟩
      · have : v = u := by
          rcases Nat.lt_trichotomy v u with g | g | g
          · have := hu2 v g; omega
          · exact g
          · have := a3 u g; omega
        rw [a4, this]
      · have := a u hu; omega
    subst e6 e7
    rw [wY_find_135]
    refine br_f (nI_nlt (by omega) (by omega)) (br_t rfl (br_t (nI_pos' (by omega)) ⟨vk, ?_⟩))
    rw [ck]
    refine nm_e ⟨vk, nm_e ?_⟩
    have okw' : sd_ok wr k B := okw
    refine sy_read (B := B) (iss := c) (rdv := rdv) hk okw (by omega) pk_us hi (by rw [er]; exact (sd_rdE hF hS).symm) ?_
    dsimp only
    refine sy_acc (B := B) (b := b) (start := start) (ac' := ac') (L' := L5) hk ht hac (by omega) pk_us hr ekd hq hmem ?_
    dsimp only
    have okr' : sd_ok (upd rd k (nI rdv)) k B := fun j hj => by
      rw [pk_un (by omega), sd_c_n (by omega)]
      exact okr j hj
    have eRR : sd_RR fs sc (upd rd k (nI rdv)) k = sd_RR fs sc rd k := by
      funext r
      exact sd_mx_cg k (fun _ _ => rfl) (fun j hj _ => sd_c_n (by omega))
    refine ⟨vk, ?_⟩
    have hst : 1 ≤ start := by
      rcases hmem with ⟨_, _, z, _⟩ | ⟨_, z, _⟩ <;> omega
    refine pk_eq q 4 (fun e => ⟨vk, ?_⟩) (fun e => ⟨vk, ?_⟩) ekd rfl
    · rcases hmem with ⟨_, _, _, z, _⟩ | ⟨z, _⟩
      · have ea : ac' k = nI start := by rw [z, pk_us]
        rw [ea]
        exact sy_265 (B := B) (fin := fin) (w := w) hk okr' (by omega) hT ekd hq elt ef (by omega) (by rw [eRR]; exact ew) hw h
      · exact absurd e z
    · rcases hmem with ⟨z, _⟩ | ⟨_, z, _⟩
      · exact absurd z e
      · rw [pk_us]
        have h := h
        subst z
        exact sy_265 (B := B) (fin := fin) (w := w) hk okr' (by omega) hT ekd hq elt ef (by omega) (by rw [eRR]; exact ew) hw h
  | succ d ih =>
    intro c L x6 x7 hc h1 h6 h7 hL
    rw [sd_cnt_s] at hL
    have k185 : ∀ z : Nat, z < 7 → sd_ix N cm (sd_o (tg k) (sd_RW tg wr k)) c = z → wY_find_185 post (wY_find_135 post (nI k) (nI N) (nI cm) len ss ft (nI t) fe dn (d + 1)) (nI k) (nI N) (nI cm) (nI c) (nI z) len ss ft (nI t) fe dn oo dd aa bb rg wd uc lt nu kd tg fs sc bk is rd ac ry wr un pk L := by
      intro z hz ez
      have cz : (nI z).toNatClampNeg = z := nI_clamp (by omega)
      rw [ez] at hL
      refine ⟨vp_in_nI hz (by omega), vp_in_nI hz (by omega), ?_⟩
      rw [cz]
      refine nm_e (nm_r (nI_1 c) ?_)
      refine sy_held (B := B) hk (by omega) (by omega) okw (by omega) hT (fun y6 g6 => ?_)
      refine sy_free (B := B) hk (by omega) (by omega) okw (by omega) ekd hq hm euc (fun y7 g7 => ?_)
      exact ih (c + 1) _ y6 y7 (by omega) (by omega) g6 g7 hL
    have k151 : wY_find_151 post (wY_find_135 post (nI k) (nI N) (nI cm) len ss ft (nI t) fe dn (d + 1)) (nI k) (nI N) (nI cm) (nI c) x6 len ss ft (nI t) fe dn oo dd aa bb rg wd uc lt nu kd tg fs sc bk is rd ac ry wr un pk L := by
      refine pk_le N c (fun e => pk_le cm c (fun e2 => ?_) (fun e2 => k185 1 (by omega) ?_)) (fun e => k185 0 (by omega) ?_)
      · rcases h6 with ⟨a, rfl⟩ | ⟨a, rfl⟩
        · exact br_f (by decide) (k185 2 (by omega) (by unfold sd_ix; rw [if_neg (by omega), if_neg (by omega), if_pos a]))
        · exact br_t rfl (k185 3 (by omega) (by unfold sd_ix; rw [if_neg (by omega), if_neg (by omega), if_neg a]))
      · unfold sd_ix
        rw [if_neg (by omega), if_pos (by omega)]
      · unfold sd_ix
        rw [if_pos (by omega)]
    rw [wY_find_135]
    refine pk_lt c cm (fun _ => k151) (fun e => ⟨fun e6 => ⟨fun e7 => ?_, fun _ => k151⟩, fun _ => k151⟩)
    exfalso
    have g6 : ¬ c < sd_o (tg k) (sd_RW tg wr k) := by
      rcases h6 with ⟨_, a⟩ | ⟨a, _⟩
      · rw [a] at e6
        exact absurd e6 (by decide)
      · exact a
    rcases h7 with ⟨v, a1, a2, _, _⟩ | ⟨_, a⟩
    · have := sd_mn_le (F := sd_UW kd un wr k q) m v a1
      omega
    · rw [a] at e7
      exact absurd e7 (by decide)
end SDY8
end
section
/-! SD 9: one instruction on both sides -/
def sd_rec (k : Nat) (rc nu is rd ry wr un kd : Nat → Int32) : Prop := ∀ j, j < k → rc (j * 7) = nu j ∧ rc (j * 7 + 1) = is j ∧ rc (j * 7 + 2) = rd j ∧ rc (j * 7 + 3) = ry j ∧ rc (j * 7 + 4) = wr j ∧ rc (j * 7 + 5) = un j ∧ rc (j * 7 + 6) = kd j
theorem sd_r7_n {rc : Nat → Int32} {k i : Nat} {a b c d e f g : Int32} (h : i < k * 7) : sd_r7 rc k a b c d e f g i = rc i := by
  unfold sd_r7
  rw [pk_un (by omega), pk_un (by omega), pk_un (by omega), pk_un (by omega), pk_un (by omega), pk_un (by omega), pk_un (by omega)]
theorem sd_rec_s {k : Nat} {rc nu is rd ry wr un kd : Nat → Int32} {a b c d e f g : Int32} (h : sd_rec k rc nu is rd ry wr un kd) (ha : nu k = a) (hg : kd k = g) : sd_rec (k + 1) (sd_r7 rc k a b c d e f g) nu (upd is k b) (upd rd k c) (upd ry k d) (upd wr k e) (upd un k f) kd := by
  intro j hj
  by_cases z : j = k
  · subst z
    rw [pk_us, pk_us, pk_us, pk_us, pk_us, ha, hg]
    unfold sd_r7
    refine ⟨?_, ?_, ?_, ?_, ?_, ?_, ?_⟩
    · rw [pk_un (by omega), pk_un (by omega), pk_un (by omega), pk_un (by omega), pk_un (by omega), pk_un (by omega)]
      exact pk_us
    · rw [pk_un (by omega), pk_un (by omega), pk_un (by omega), pk_un (by omega), pk_un (by omega)]
      exact pk_us
    · rw [pk_un (by omega), pk_un (by omega), pk_un (by omega), pk_un (by omega)]
      exact pk_us
    · rw [pk_un (by omega), pk_un (by omega), pk_un (by omega)]
      exact pk_us
    · rw [pk_un (by omega), pk_un (by omega)]
      exact pk_us
    · rw [pk_un (by omega)]
      exact pk_us
    · exact pk_us
  · obtain ⟨h1, h2, h3, h4, h5, h6, h7⟩ := h j (by omega)
    rw [pk_un z, pk_un z, pk_un z, pk_un z, pk_un z, sd_r7_n (by omega), sd_r7_n (by omega), sd_r7_n (by omega), sd_r7_n (by omega), sd_r7_n (by omega), sd_r7_n (by omega), sd_r7_n (by omega)]
    exact ⟨h1, h2, h3, h4, h5, h6, h7⟩
theorem sd_la_c {L : Nat → Int32} {a b : Int32} : sd_la 4 (sd_la 5 L a) b = sd_la 5 (sd_la 4 L b) a := by
  unfold sd_la
  rw [pk_un (by omega), pk_un (by omega), sd_uc (by omega)]
theorem sd_bank (x : Int32) : ∃ b : Nat, b < 4 ∧ (x &&& 31) &&& 3 = nI b ∧ x &&& 3 = nI b := by
  refine ⟨x.toBitVec.toNat % 2 ^ 2, by omega, ?_, pk_and x 2 (by decide)⟩
  rw [pk_and x 5 (by decide), pk_andN (by omega) 2 (by decide)]
  exact congrArg nI (by omega)
section SDY9
variable {len ss ft bt fe dn : Int32} {oo dd aa bb rg wd uc lt nu kd tg fs sc bk is rd ac ry wr un pk ls : Nat → Int32}
theorem sy_find0 {post : SY → Prop} {k B : Nat} (hk : k < 60) (okw : sd_ok wr k B) (oki : sd_ok is k B) (h62 : wY_find_62 post (nI k) (nI (sd_NC kd is wr k)) (nI (sd_NC kd is wr k)) (nI (sd_LI is k + 1)) len ss ft bt fe dn oo dd aa bb rg wd uc lt nu kd tg fs sc bk is rd ac ry wr un pk ls) : wpY_find post (len, ss, ft, bt, fe, dn, oo, dd, aa, bb, rg, wd, uc, lt, nu, kd, tg, fs, sc, bk, is, rd, ac, ry, wr, un, pk, ls) (nI k) := by
  cases k with
  | zero => exact br_t rfl (br_t rfl h62)
  | succ k =>
    have ck : (nI k).toNatClampNeg = k := nI_clamp (by omega)
    have vk : vp_in (nI (k + 1) - 1) 60 := by rw [nI_pred]; exact vp_in_nI (by omega) (by omega)
    have n0 : ¬ nI (k + 1) = 0 := nI_ne0 (by omega) (by omega)
    have ei : is k + 1 = nI (sd_c is k + 1) := by rw [(oki k (by omega)).1, nI_1]
    have ew : wr k + 1 = nI (sd_c wr k + 1) := by rw [(okw k (by omega)).1, nI_1]
    have eN : sd_NC kd is wr (k + 1) = (if kd k = nI 5 then sd_c wr k else sd_c is k) + 1 := by
      unfold sd_NC
      rw [if_neg (by omega), Nat.add_sub_cancel]
    have eL : sd_LI is (k + 1) = sd_c is k := by
      unfold sd_LI
      rw [if_neg (by omega), Nat.add_sub_cancel]
    rw [eL, ← ei] at h62
    have k41 : ∀ z, z = nI (sd_NC kd is wr (k + 1)) → wY_find_41 post (nI (k + 1)) z len ss ft bt fe dn oo dd aa bb rg wd uc lt nu kd tg fs sc bk is rd ac ry wr un pk ls := by
      intro z hz
      rw [hz]
      refine br_f n0 ⟨vk, ?_⟩
      rw [nI_pred, ck]
      exact h62
    refine br_f n0 ⟨vk, ?_⟩
    rw [nI_pred, ck]
    have vk' : vp_in (nI k) 60 := vp_in_nI (by omega) (by omega)
    refine ⟨fun e => ⟨vk', k41 _ ?_⟩, fun e => ⟨vk', k41 _ ?_⟩⟩
    · rw [eN, if_pos (show kd k = nI 5 from e)]
      exact ew
    · rw [eN, if_neg (show ¬ kd k = nI 5 from e)]
      exact ei
theorem sy_62 {post : SY → Prop} {k p N c0 S F t E E' f : Nat} {pk' : Nat → Int32} (hk : k < 60) (hp : p < 24) (hS : S ≤ 4) (hE : E ≤ k) (enu : nu k = nI p)
    (hfe : ((∃ i, i < E ∧ E ≤ i + S ∧ pk i = nI (p / 2)) ∧ f = 0 ∧ pk' = pk ∧ E' = E) ∨ ((∀ i, i < E → E ≤ i + S → ¬ pk i = nI (p / 2)) ∧ f = F ∧ pk' = upd pk E (nI (p / 2)) ∧ E' = E + 1))
    (h : wY_find_117 post (nI k) (nI N) (nI (N + f)) (nI c0) len (nI S) (nI F) (nI t) (nI E') dn oo dd aa bb rg wd uc lt nu kd tg fs sc bk is rd ac ry wr un pk' ls) : wY_find_62 post (nI k) (nI N) (nI N) (nI c0) len (nI S) (nI F) (nI t) (nI E) dn oo dd aa bb rg wd uc lt nu kd tg fs sc bk is rd ac ry wr un pk ls := by
  have ck : (nI k).toNatClampNeg = k := nI_clamp (by omega)
  have cE : (nI E).toNatClampNeg = E := nI_clamp (by omega)
  have vk : vp_in (nI k) 60 := vp_in_nI hk (by omega)
  have dv : nI p / 2 = nI (p / 2) := pk_div (d := 2) (by omega) (by omega) (by omega)
  have n2 : ¬ (2 : Int32) = 0 := by decide
  refine ⟨vk, n2, ?_⟩
  rw [ck, enu, dv]
  refine sy_isFetched hS (by omega) (fun i h1 h2 h3 => br_f (by decide) ?_) (fun hn => br_t rfl ?_)
  · rcases hfe with ⟨_, rfl, rfl, rfl⟩ | ⟨z, _⟩
    · exact h
    · exact absurd h3 (z i h1 h2)
  · rcases hfe with ⟨⟨i, h1, h2, h3⟩, _⟩ | ⟨_, rfl, rfl, rfl⟩
    · exact absurd h3 (hn i h1 h2)
    · refine ⟨vk, n2, vp_in_nI (by omega) (by omega), ?_⟩
      rw [cE]
      exact nm_e (nm_r (nI_1 E) (nm_r (nI_add N f) h))
end SDY9
end
section
/-! SD 10: one instruction: X's schedule beside Y's find -/
section SDS10
variable {len dn fe : Int32} {oo dd aa bb rg wd uc lt rc ls rw rr uw br st nu kd tg fs sc bk is rd ac ry wr un pk : Nat → Int32}
theorem sd_step {k p n m lat S F t E : Nat} (hk : k < 60) (hp : p < 24) (wg : sd_wg n (oo p) (dd p) (aa p) (bb p)) (hm : m < 3) (euc : uc (sd_kd n) = nI (m + 1)) (elt : lt (sd_kd n) = nI lat) (hl1 : 1 ≤ lat) (hl8 : lat ≤ 8) (hS1 : 1 ≤ S) (hS4 : S ≤ 4) (hF : F ≤ 6) (ht : t ≤ 8)
    (I : sd_I k S t E kd tg fs sc bk is rd ac wr un pk rw rr uw br st) (hrec : sd_rec k rc nu is rd ry wr un kd) (ekd : kd k = nI (sd_kd n)) (etg : tg k = sd_tg n (dd p)) (efs : fs k = sd_fs n (aa p)) (esc : sc k = sd_sc n (dd p) (bb p)) (ebk : bk k = sd_bk n rg (aa p) (bb p)) (enu : nu k = nI p) :
    ∃ (E' : Nat) (is' rd' ac' ry' wr' un' pk' ls' : Nat → Int32),
      (∀ post : SY → Prop, post (len, nI S, nI F, nI t, nI E', dn, oo, dd, aa, bb, rg, wd, uc, lt, nu, kd, tg, fs, sc, bk, is', rd', ac', ry', wr', un', pk', ls') → wpY_find post (len, nI S, nI F, nI t, nI E, dn, oo, dd, aa, bb, rg, wd, uc, lt, nu, kd, tg, fs, sc, bk, is, rd, ac, ry, wr, un, pk, ls) (nI k)) ∧
      (∀ post : SX → Prop, (∀ rc' rw' rr' uw' br' st' : Nat → Int32, sd_I (k + 1) S t E' kd tg fs sc bk is' rd' ac' wr' un' pk' rw' rr' uw' br' st' → sd_rec (k + 1) rc' nu is' rd' ry' wr' un' kd → post (len, nI S, nI F, nI t, dn, nI (sd_LW wr' (k + 1)), nI (E' % S), nI (sd_NC kd is' wr' (k + 1)), nI (sd_LI is' (k + 1)), nI (sd_LA kd ac' (k + 1)), oo, dd, aa, bb, rg, wd, uc, lt, rc', ls', rw', rr', uw', br', st')) →
        wpX_schedule post (len, nI S, nI F, nI t, dn, nI (sd_LW wr k), nI (E % S), nI (sd_NC kd is wr k), nI (sd_LI is k), nI (sd_LA kd ac k), oo, dd, aa, bb, rg, wd, uc, lt, rc, ls, rw, rr, uw, br, st) (nI k) (nI p)) := by
  obtain ⟨i1, i2, i3, i4, i5, i6, i7, i8, i9, i10, i11⟩ := id I
  have hq := sd_kd_lt n
  have hn := wg.1
  have ho := wg.2.1
  have rT := sd_tg_r wg
  have rF := sd_fs_r wg
  have rS := sd_sc_r wg
  obtain ⟨f, st', O', pk', E', hX, hY, hst, hE', hO', hf⟩ : ∃ (f : Nat) (st' : Nat → Int32) (O' : Nat) (pk' : Nat → Int32) (E' : Nat), (((∃ s, s < S ∧ st s = nI (p / 2)) ∧ f = 0 ∧ st' = st ∧ O' = E % S) ∨ ((∀ s, s < S → ¬ st s = nI (p / 2)) ∧ f = F ∧ st' = upd st (E % S) (nI (p / 2)) ∧ O' = sd_nx S (E % S))) ∧ (((∃ i, i < E ∧ E ≤ i + S ∧ pk i = nI (p / 2)) ∧ f = 0 ∧ pk' = pk ∧ E' = E) ∨ ((∀ i, i < E → E ≤ i + S → ¬ pk i = nI (p / 2)) ∧ f = F ∧ pk' = upd pk E (nI (p / 2)) ∧ E' = E + 1)) ∧ sd_st S E' st' pk' ∧ E' ≤ k + 1 ∧ O' = E' % S ∧ f ≤ 6 := by
    have hw := sd_st_h (w := p / 2) i10 (by omega)
    by_cases e : ∃ s, s < S ∧ st s = nI (p / 2)
    · exact ⟨0, st, E % S, pk, E, Or.inl ⟨e, rfl, rfl, rfl⟩, Or.inl ⟨hw.mp e, rfl, rfl, rfl⟩, i10, by omega, rfl, by omega⟩
    · exact ⟨F, upd st (E % S) (nI (p / 2)), sd_nx S (E % S), upd pk E (nI (p / 2)), E + 1, Or.inr ⟨fun s hs z => e ⟨s, hs, z⟩, rfl, rfl, rfl⟩, Or.inr ⟨fun i a b z => e (hw.mpr ⟨i, a, b, z⟩), rfl, rfl, rfl⟩, sd_st_u i10 hS1 hS4, by omega, (sd_md hS1 hS4).symm, hF⟩
  have bU : ∀ u, sd_UW kd un wr k (sd_kd n) u ≤ 17 * k := fun u => sd_UW_b i3
  have bR : ∀ r, sd_RW tg wr k r ≤ 17 * k := fun r => sd_RW_b i3
  have bQ : ∀ r, sd_RR fs sc rd k r ≤ 17 * k := fun r => sd_RR_b i2
  have bN := sd_NC_b (kd := kd) i1 i3
  have bA := sd_LA_b i4
  have bW := sd_LW_b i3
  have hlN := sd_LI_NC (kd := kd) i5
  have hO : E % S < S := Nat.mod_lt _ (by omega)
  obtain ⟨iss, ei⟩ : ∃ iss, iss = max (max (sd_NC kd is wr k + f) (sd_mn (sd_UW kd un wr k (sd_kd n)) m + 1)) (sd_o (sd_tg n (dd p)) (sd_RW tg wr k)) := ⟨_, rfl⟩
  have bmn := sd_mn_le (F := sd_UW kd un wr k (sd_kd n)) m 0 (by omega)
  have bo := sd_o_le (F := sd_RW tg wr k) (b := 17 * k) rT (fun r _ => bR r)
  have hiss : iss ≤ 17 * k + 7 := by have := bU 0; omega
  obtain ⟨u, hu, hu1, hu2⟩ : ∃ u, u ≤ m ∧ sd_UW kd un wr k (sd_kd n) u < iss ∧ ∀ u', u' < u → iss ≤ sd_UW kd un wr k (sd_kd n) u' := by
    obtain ⟨v, hv1, hv2⟩ := sd_mn_ex (F := sd_UW kd un wr k (sd_kd n)) m
    obtain ⟨u, ⟨h1, h2⟩, h3⟩ := pk_least (fun u => u ≤ m ∧ sd_UW kd un wr k (sd_kd n) u < iss) ⟨v, hv1, by omega⟩
    refine ⟨u, h1, h2, fun u' hu' => ?_⟩
    by_cases g : sd_UW kd un wr k (sd_kd n) u' < iss
    · exact absurd ⟨by omega, g⟩ (h3 u' hu')
    · omega
  obtain ⟨rdv, er⟩ : ∃ rdv, rdv = max (max (iss + 1) (sd_o (sd_fs n (aa p)) (sd_RW tg wr k))) (sd_o (sd_sc n (dd p) (bb p)) (sd_RW tg wr k)) := ⟨_, rfl⟩
  have bo2 := sd_o_le (F := sd_RW tg wr k) (b := 17 * k) rF (fun r _ => bR r)
  have bo3 := sd_o_le (F := sd_RW tg wr k) (b := 17 * k) rS (fun r _ => bR r)
  have bo4 := sd_o_le (F := sd_RR fs sc rd k) (b := 17 * k) rT (fun r _ => bQ r)
  have hrdv : rdv ≤ 17 * k + 8 := by omega
  obtain ⟨Lc, eLc⟩ : ∃ Lc, Lc = sd_cnt (sd_NC kd is wr k) (sd_NC kd is wr k + f) (sd_o (sd_tg n (dd p)) (sd_RW tg wr k)) (iss - (sd_LI is k + 1)) (sd_LI is k + 1) ls := ⟨_, rfl⟩
  obtain ⟨start, A', br', ac', ls2, L5, r, b, hXm, hYm, hLL, hs1, hs2, hB, hA', hacc, eac, ebr⟩ : ∃ (start A' : Nat) (br' ac' ls2 L5 : Nat → Int32) (r b : Nat),
      (((n = 6 ∨ n = 7) ∧ r < 8 ∧ aa p = nI r ∧ b < 4 ∧ ((rg r + bb p) &&& 31) &&& 3 = nI b ∧ br b = nI (sd_BR kd bk ac t k b) ∧ start = max (max (rdv + 1) (sd_LA kd ac k + 1)) (sd_BR kd bk ac t k b) ∧ A' = start ∧ br' = upd br b (nI (start + t)) ∧ ls2 = sd_la 5 Lc ((nI start - nI rdv) - 1)) ∨ (¬ (n = 6 ∨ n = 7) ∧ start = rdv ∧ A' = sd_LA kd ac k ∧ br' = br ∧ ls2 = Lc)) ∧
      ((sd_kd n = 4 ∧ bk k = nI b ∧ start = max (max (rdv + 1) (sd_LA kd ac k + 1)) (sd_BR kd bk ac t k b) ∧ ac' = upd ac k (nI start) ∧ L5 = sd_la 5 (sd_la 4 Lc ((nI rdv - nI iss) - 1)) ((nI start - nI rdv) - 1)) ∨ (¬ sd_kd n = 4 ∧ start = rdv ∧ ac' = ac ∧ L5 = sd_la 4 Lc ((nI rdv - nI iss) - 1))) ∧
      sd_la 4 ls2 ((nI rdv - nI iss) - 1) = L5 ∧ rdv ≤ start ∧ start ≤ 17 * k + 9 ∧ sd_BR kd bk ac t k b ≤ 17 * k + t ∧ sd_LA kd ac' (k + 1) = A' ∧
      (sd_kd n = 4 → start ≤ 17 * (k + 1) ∧ sd_LA kd ac k ≤ start ∧ ∀ b', b' < 4 → bk k = nI b' → sd_BR kd bk ac t k b' ≤ start + t) ∧
      (ac' = if sd_kd n = 4 then upd ac k (nI start) else ac) ∧ (∀ b', b' < 4 → br' b' = if sd_kd n = 4 ∧ bk k = nI b' then nI (start + t) else br b') := by
    by_cases hmm : n = 6 ∨ n = 7
    · have k4 : sd_kd n = 4 := (sd_kd_4 n).mpr hmm
      obtain ⟨r, hr, er'⟩ := wg.2.2.2.1 (by omega) (by omega)
      obtain ⟨b, hb, eb1, eb2⟩ := sd_bank (rg r + bb p)
      have ebk' : bk k = nI b := by
        rw [ebk]
        unfold sd_bk
        rw [if_pos hmm, er', nI_clamp (by omega)]
        exact eb2
      have bB := sd_BR_b (bk := bk) (bt := t) (b := b) i4
      obtain ⟨start, es⟩ : ∃ start, start = max (max (rdv + 1) (sd_LA kd ac k + 1)) (sd_BR kd bk ac t k b) := ⟨_, rfl⟩
      refine ⟨start, start, upd br b (nI (start + t)), upd ac k (nI start), sd_la 5 Lc ((nI start - nI rdv) - 1), sd_la 5 (sd_la 4 Lc ((nI rdv - nI iss) - 1)) ((nI start - nI rdv) - 1), r, b, Or.inl ⟨hmm, hr, er', hb, eb1, i9 b hb, es, rfl, rfl, rfl⟩, Or.inl ⟨k4, ebk', es, rfl, rfl⟩, sd_la_c, by omega, by omega, bB, ?_, fun _ => ⟨by omega, by omega, fun b' hb' eb' => ?_⟩, (if_pos k4).symm, fun b' hb' => ?_⟩
      · rw [sd_LA_t (by omega) (by rw [ekd, k4]), Nat.max_eq_right (by omega)]
      · have := sd_BR_b (bk := bk) (bt := t) (b := b') i4
        have : b' = b := (nI_eq (by omega) (by omega)).mp (eb'.symm.trans ebk')
        subst this
        omega
      · by_cases g : b' = b
        · subst g
          rw [pk_us, if_pos ⟨k4, ebk'⟩]
        · rw [pk_un g, if_neg (fun z => g ((nI_eq (by omega) (by omega)).mp (z.2.symm.trans ebk')))]
    · have k4 : ¬ sd_kd n = 4 := fun z => hmm ((sd_kd_4 n).mp z)
      have nk : ¬ kd k = nI 4 := by
        rw [ekd]
        exact fun z => k4 ((nI_eq (by omega) (by omega)).mp z)
      have bB := sd_BR_b (bk := bk) (bt := t) (b := 0) i4
      exact ⟨rdv, sd_LA kd ac k, br, ac, Lc, sd_la 4 Lc ((nI rdv - nI iss) - 1), 0, 0, Or.inr ⟨hmm, rfl, rfl, rfl, rfl⟩, Or.inr ⟨k4, rfl, rfl, rfl⟩, rfl, by omega, by omega, bB, sd_LA_f nk, fun z => absurd z k4, (if_neg k4).symm, fun b' hb' => (if_neg (fun z => k4 z.1)).symm⟩
  obtain ⟨fin, ef⟩ : ∃ fin, fin = start + lat := ⟨_, rfl⟩
  obtain ⟨w, ew⟩ : ∃ w, w = max fin (sd_o (sd_tg n (dd p)) (sd_RR fs sc rd k)) := ⟨_, rfl⟩
  have hw : w ≤ 17 * (k + 1) := by omega
  refine ⟨E', upd is k (nI iss), upd rd k (nI rdv), ac', upd ry k (nI fin), upd wr k (nI w), upd un k (nI u), pk', sd_la 6 L5 (nI (w - fin)), fun post h => ?_, fun post h => ?_⟩
  · refine sy_find0 (B := 17 * k) hk i3 i1 (sy_62 (pk' := pk') (E' := E') (f := f) hk hp hS4 i11 enu hY ?_)
    unfold wY_find_117
    refine sy_held (B := 17 * k) hk (by omega) (by omega) i3 (by omega) (by rw [etg]; exact rT) (fun y6 g6 => ?_)
    refine sy_free (B := 17 * k) hk (by omega) (by omega) i3 (by omega) ekd hq hm euc (fun y7 g7 => ?_)
    exact ⟨_, sy_l135 (B := 17 * k) (Lc := Lc) (L5 := L5) (b := b) (start := start) hk ht (by omega) i3 i2 i4 (by rw [etg]; exact rT) (by rw [efs]; exact rF) (by rw [esc]; exact rS) ekd hq hm euc elt hl1 (by omega) (by omega) (by rw [etg]; exact ei) (by omega) hu hu1 hu2 (by rw [efs, esc]; exact er) (by omega) hYm ef (by rw [etg]; exact ew) (by omega) h (iss - (sd_LI is k + 1)) (sd_LI is k + 1) ls y6 y7 (by omega) (by omega) g6 g7 (by rw [etg]; exact eLc.symm)⟩
  · have hT : ∀ r, r < 8 → tg k = nI r → sd_RW tg wr k r ≤ w := by
      intro r hr e
      rw [etg] at e
      rw [e, sd_o_s (by omega)] at ei
      omega
    refine sx_sched (f := f) (st' := st') (O' := O') (r := r) (b := b) (B := sd_BR kd bk ac t k b) (start := start) (A' := A') (br' := br') (ls2 := ls2) (U := sd_UW kd un wr k (sd_kd n)) (R := sd_RW tg wr k) (Q := sd_RR fs sc rd k) (m := m) (lat := lat) (u := u) hk hp ho hn rF rS rT hS4 hO hm euc elt (fun u hu => i8 _ u hq hu) (fun u _ => by have := bU u; omega) i6 (fun r _ => by have := bR r; omega) i7 (fun r _ => by have := bQ r; omega) (by omega) (by omega) (by omega) (by omega) hX (by omega) ei (by omega) (by omega) hu hu1 hu2 er (by omega) (by rw [← eLc]; exact hXm) ef (by omega) ew (by omega) (fun rw' rr' h1 h2 => ?_)
    have Inew := sd_I_s (q := sd_kd n) (u := u) (iss := iss) (rdv := rdv) (acc := start) (w := w) (ac' := ac') (pks' := pk') (rw' := rw') (rr' := rr') (uw' := upd uw (sd_kd n * 3 + u) (nI w)) (br' := br') (st' := st') (fe' := E') I hk ht hq (by omega) ekd (by omega) (by omega) hw (by omega) hacc eac hT (by omega) (fun r hr => by rw [etg]; exact h1 r hr) (fun r hr => by rw [efs, esc]; exact h2 r hr) rfl ebr hst hE'
    have Rnew := sd_rec_s (a := nI p) (b := nI iss) (c := nI rdv) (d := nI fin) (e := nI w) (f := nI u) (g := nI (sd_kd n)) hrec enu ekd
    have H := h _ rw' rr' _ br' st' Inew Rnew
    have eif : (if kd k = nI 5 then w else iss) = (if 8 ≤ n then w else iss) := by
      by_cases g : 8 ≤ n
      · rw [if_pos g, if_pos (by rw [ekd, (sd_kd_5 n).mpr g])]
      · rw [if_neg g, if_neg (fun z => g ((sd_kd_5 n).mp ((nI_eq (by omega) (by omega)).mp (ekd.symm.trans z))))]
    rw [sd_LW_s (by omega), ← hO', sd_NC_s (by omega) (by omega), eif, sd_LI_s (by omega), hA', ← hLL, ← pk_sub (by omega)] at H
    exact H
end SDS10
end
section
/-! SD 11: what an instruction does -/
def sd_ar (n : Nat) (x y : Int32) : Int32 := if n = 1 then x + y else if n = 2 then x - y else if n = 3 then (if y ≤ x then 0 else 1) else if n = 4 then x * y else (if y = 0 then 0 else x / y)
theorem sx_arith {post : Int32 → Prop} {n : Nat} {x y : Int32} (h1 : 1 ≤ n) (h5 : n ≤ 5) (h : post (sd_ar n x y)) : wpX_arithmetic post (nI n) x y := by
  unfold wpX_arithmetic
  unfold sd_ar at h
  rcases (by omega : n = 1 ∨ n = 2 ∨ n = 3 ∨ n = 4 ∨ n = 5) with rfl | rfl | rfl | rfl | rfl
  · exact br_f (by decide) (br_f (by decide) (br_t rfl h))
  · exact br_f (by decide) (br_f (by decide) (br_f (by decide) (br_t rfl h)))
  · refine br_f (by decide) (br_f (by decide) (br_f (by decide) (br_f (by decide) (br_t rfl ?_))))
    rw [if_neg (by omega), if_neg (by omega), if_pos rfl] at h
    refine ⟨fun e => ?_, fun e => ?_⟩
    · rw [if_pos e] at h; exact h
    · rw [if_neg e] at h; exact h
  · exact br_f (by decide) (br_f (by decide) (br_f (by decide) (br_f (by decide) (br_f (by decide) (br_t rfl h)))))
  · refine br_f (by decide) (br_t (by decide) ?_)
    rw [if_neg (by omega), if_neg (by omega), if_neg (by omega), if_neg (by omega)] at h
    refine ⟨fun e => ?_, fun e => ⟨e, ?_⟩⟩
    · rw [if_pos e] at h; exact h
    · rw [if_neg e] at h; exact h
section SDD11
variable {len ss ft bt dn lw od nc li la fe dm : Int32} {oo dd aa bb rg wd uc lt rc ls rw rr uw br st nu kd tg fs sc bk is rd ac ry wr un pk : Nat → Int32}
theorem sy_c59 {post : Int32 → SY → Prop} {p n : Nat} (hp : p < 24) (wg : sd_wg n (oo p) (dd p) (aa p) (bb p)) (h : ∀ x y : Int32, (0 < n → n < 9 → x = rg (aa p).toNatClampNeg) → (0 < n → n < 6 → y = rg (bb p).toNatClampNeg) → wY_carryOut_59 post (nI p) x y len ss ft bt fe dn oo dd aa bb rg wd uc lt nu kd tg fs sc bk is rd ac ry wr un pk ls) : wpY_carryOut post (len, ss, ft, bt, fe, dn, oo, dd, aa, bb, rg, wd, uc, lt, nu, kd, tg, fs, sc, bk, is, rd, ac, ry, wr, un, pk, ls) (nI p) := by
  have cp : (nI p).toNatClampNeg = p := nI_clamp (by omega)
  have vp : vp_in (nI p) 24 := vp_in_nI hp (by omega)
  have k29 : ∀ x : Int32, (0 < n → n < 9 → x = rg (aa p).toNatClampNeg) → wY_carryOut_29 post (nI p) x len ss ft bt fe dn oo dd aa bb rg wd uc lt nu kd tg fs sc bk is rd ac ry wr un pk ls := by
    intro x hx
    refine ⟨vp, ?_⟩
    rw [cp]
    refine sy_w 8 (by omega) (fun g => br_f (by decide) ⟨vp, ?_, h x _ hx (fun _ _ => rfl)⟩) (fun g => br_t rfl (h x _ hx (fun a b => absurd (wg.2.2.2.2.1 a b) g)))
    obtain ⟨r, hr, e⟩ := g
    rw [e]
    exact vp_in_nI hr (by omega)
  refine ⟨vp, ?_⟩
  rw [cp]
  refine sy_w 8 (by omega) (fun g => br_f (by decide) ⟨vp, ?_, k29 _ (fun _ _ => rfl)⟩) (fun g => br_t rfl (k29 _ (fun a b => absurd (wg.2.2.2.1 a b) g)))
  obtain ⟨r, hr, e⟩ := g
  rw [e]
  exact vp_in_nI hr (by omega)
/-- the same of X: below STORE -/
theorem sx_low {post : Int32 → SX → Prop} {p n d : Nat} {v : Int32} (hp : p < 24) (hn : n < 7) (ho : oo p = nI n) (hd : d < 8) (ed : dd p = nI d) (hv : ∀ Q : Int32 → Prop, Q v → wpX_resultOf Q (len, ss, ft, bt, dn, lw, od, nc, li, la, oo, dd, aa, bb, rg, wd, uc, lt, rc, ls, rw, rr, uw, br, st) (nI p)) (h : post (nI (p + 1)) (len, ss, ft, bt, dn, lw, od, nc, li, la, oo, dd, aa, bb, upd rg d v, wd, uc, lt, rc, ls, rw, rr, uw, br, st)) : wpX_perform post (len, ss, ft, bt, dn, lw, od, nc, li, la, oo, dd, aa, bb, rg, wd, uc, lt, rc, ls, rw, rr, uw, br, st) (nI p) := by
  have cp : (nI p).toNatClampNeg = p := nI_clamp (by omega)
  have cd : (nI d).toNatClampNeg = d := nI_clamp (by omega)
  have vp : vp_in (nI p) 24 := vp_in_nI hp (by omega)
  refine ⟨vp, nm_r (e' := nI n) (by rw [cp]; exact ho) ?_⟩
  refine pk_eq n 9 (fun e => absurd e (by omega)) (fun _ => pk_eq n 8 (fun e => absurd e (by omega)) (fun _ => pk_eq n 7 (fun e => absurd e (by omega)) (fun _ => ⟨vp, ?_⟩)))
  refine hv _ ?_
  rw [cp, ed, cd, nI_1]
  exact ⟨vp_in_nI hd (by omega), nm_e h⟩
theorem sx_res0 {p : Nat} (hp : p < 24) (ho : oo p = 0) (Q : Int32 → Prop) (h : Q (aa p)) : wpX_resultOf Q (len, ss, ft, bt, dn, lw, od, nc, li, la, oo, dd, aa, bb, rg, wd, uc, lt, rc, ls, rw, rr, uw, br, st) (nI p) := by
  have cp : (nI p).toNatClampNeg = p := nI_clamp (by omega)
  have vp : vp_in (nI p) 24 := vp_in_nI hp (by omega)
  refine ⟨vp, nm_r (e' := 0) (by rw [cp]; exact ho) (br_t rfl ⟨vp, ?_⟩)⟩
  rw [cp]
  exact h
theorem sx_res6 {p r : Nat} (hp : p < 24) (ho : oo p = 6) (hr : r < 8) (ha : aa p = nI r) (Q : Int32 → Prop) (h : Q (wd ((rg r + bb p) &&& 31).toNatClampNeg)) : wpX_resultOf Q (len, ss, ft, bt, dn, lw, od, nc, li, la, oo, dd, aa, bb, rg, wd, uc, lt, rc, ls, rw, rr, uw, br, st) (nI p) := by
  have cp : (nI p).toNatClampNeg = p := nI_clamp (by omega)
  have vp : vp_in (nI p) 24 := vp_in_nI hp (by omega)
  refine ⟨vp, nm_r (e' := 6) (by rw [cp]; exact ho) (br_f (by decide) (br_t rfl ?_))⟩
  exact sx_addr hp hr ha ⟨pk_andIn _ 5 (by decide) (by decide), h⟩
theorem sx_res5 {p n a b : Nat} (hp : p < 24) (h1 : 1 ≤ n) (h5 : n ≤ 5) (ho : oo p = nI n) (ha : a < 8) (ea : aa p = nI a) (hb : b < 8) (eb : bb p = nI b) (Q : Int32 → Prop) (h : Q (sd_ar n (rg a) (rg b))) : wpX_resultOf Q (len, ss, ft, bt, dn, lw, od, nc, li, la, oo, dd, aa, bb, rg, wd, uc, lt, rc, ls, rw, rr, uw, br, st) (nI p) := by
  have cp : (nI p).toNatClampNeg = p := nI_clamp (by omega)
  have ca : (nI a).toNatClampNeg = a := nI_clamp (by omega)
  have cb : (nI b).toNatClampNeg = b := nI_clamp (by omega)
  have vp : vp_in (nI p) 24 := vp_in_nI hp (by omega)
  refine ⟨vp, nm_r (e' := nI n) (by rw [cp]; exact ho) ?_⟩
  refine pk_eq n 0 (fun e => absurd e (by omega)) (fun _ => pk_eq n 6 (fun e => absurd e (by omega)) (fun _ => ⟨vp, ?_⟩))
  rw [cp, ea, eb, ca, cb]
  exact ⟨vp_in_nI ha (by omega), vp, vp_in_nI hb (by omega), sx_arith h1 h5 h⟩
theorem sd_do {p n : Nat} (hp : p < 24) (wg : sd_wg n (oo p) (dd p) (aa p) (bb p)) : ∃ (p' : Nat) (rg' wd' : Nat → Int32), p' ≤ 24 ∧ (∀ post : Int32 → SX → Prop, post (nI p') (len, ss, ft, bt, dn, lw, od, nc, li, la, oo, dd, aa, bb, rg', wd', uc, lt, rc, ls, rw, rr, uw, br, st) → wpX_perform post (len, ss, ft, bt, dn, lw, od, nc, li, la, oo, dd, aa, bb, rg, wd, uc, lt, rc, ls, rw, rr, uw, br, st) (nI p)) ∧ (∀ post : Int32 → SY → Prop, post (nI p') (len, ss, ft, bt, fe, dm, oo, dd, aa, bb, rg', wd', uc, lt, nu, kd, tg, fs, sc, bk, is, rd, ac, ry, wr, un, pk, ls) → wpY_carryOut post (len, ss, ft, bt, fe, dm, oo, dd, aa, bb, rg, wd, uc, lt, nu, kd, tg, fs, sc, bk, is, rd, ac, ry, wr, un, pk, ls) (nI p)) := by
  obtain ⟨hn, ho, w1, w2, w3, w4⟩ := id wg
  have cp : (nI p).toNatClampNeg = p := nI_clamp (by omega)
  have vp : vp_in (nI p) 24 := vp_in_nI hp (by omega)
  by_cases n0 : n = 0
  · subst n0
    obtain ⟨d, hd, ed⟩ := w1 (by omega)
    have cd : (nI d).toNatClampNeg = d := nI_clamp (by omega)
    refine ⟨p + 1, upd rg d (aa p), wd, by omega, fun post h => sx_low hp (by omega) ho hd ed (fun Q q => sx_res0 hp ho Q q) h, fun post h => sy_c59 hp wg (fun x y hx hy => ?_)⟩
    refine ⟨vp, nm_e ⟨vp, nm_r (e' := nI d) (by rw [cp]; exact ed) ⟨vp, nm_r (e' := 0) (by rw [cp]; exact ho) (br_f (by decide) (br_f (by decide) (br_t rfl ⟨vp, vp_in_nI hd (by omega), ?_⟩)))⟩⟩⟩
    rw [cp, cd, nI_1]
    exact nm_e h
  by_cases n5 : n ≤ 5
  · obtain ⟨d, hd, ed⟩ := w1 (by omega)
    obtain ⟨a, ha, ea⟩ := w2 (by omega) (by omega)
    obtain ⟨b, hb, eb⟩ := w3 (by omega) (by omega)
    have cd : (nI d).toNatClampNeg = d := nI_clamp (by omega)
    have ca : (nI a).toNatClampNeg = a := nI_clamp (by omega)
    have cb : (nI b).toNatClampNeg = b := nI_clamp (by omega)
    refine ⟨p + 1, upd rg d (sd_ar n (rg a) (rg b)), wd, by omega, fun post h => sx_low hp (by omega) ho hd ed (fun Q q => sx_res5 hp (by omega) n5 ho ha ea hb eb Q q) h, fun post h => sy_c59 hp wg (fun x y hx hy => ?_)⟩
    have ex : x = rg a := by rw [hx (by omega) (by omega), ea, ca]
    have ey : y = rg b := by rw [hy (by omega) (by omega), eb, cb]
    rw [← ex, ← ey] at h
    refine ⟨vp, nm_e ⟨vp, nm_r (e' := nI d) (by rw [cp]; exact ed) ⟨vp, nm_r (e' := nI n) (by rw [cp]; exact ho) ?_⟩⟩⟩
    rw [cd, nI_1]
    have vd : vp_in (nI d) 8 := vp_in_nI hd (by omega)
    unfold sd_ar at h
    rcases (by omega : n = 1 ∨ n = 2 ∨ n = 3 ∨ n = 4 ∨ n = 5) with rfl | rfl | rfl | rfl | rfl
    · exact br_f (by decide) (br_f (by decide) (br_f (by decide) (br_t rfl ⟨vd, nm_e h⟩)))
    · exact br_f (by decide) (br_f (by decide) (br_f (by decide) (br_f (by decide) (br_t rfl ⟨vd, nm_e h⟩))))
    · refine br_f (by decide) (br_f (by decide) (br_f (by decide) (br_f (by decide) (br_f (by decide) (br_t rfl ?_)))))
      rw [if_neg (by omega), if_neg (by omega), if_pos rfl] at h
      refine ⟨fun e => ⟨vd, ?_⟩, fun e => ⟨vd, ?_⟩⟩
      · rw [if_pos e] at h; exact nm_e h
      · rw [if_neg e] at h; exact nm_e h
    · exact br_f (by decide) (br_f (by decide) (br_f (by decide) (br_f (by decide) (br_f (by decide) (br_f (by decide) (br_t rfl ⟨vd, nm_e h⟩))))))
    · refine br_f (by decide) (br_f (by decide) (br_f (by decide) (br_f (by decide) (br_f (by decide) (br_f (by decide) (br_f (by decide) (br_t rfl ?_)))))))
      rw [if_neg (by omega), if_neg (by omega), if_neg (by omega), if_neg (by omega)] at h
      refine ⟨fun e => ⟨vd, ?_⟩, fun e => ⟨e, vd, ?_⟩⟩
      · rw [if_pos e] at h; exact nm_e h
      · rw [if_neg e] at h; exact nm_e h
  by_cases n6 : n = 6
  · subst n6
    obtain ⟨d, hd, ed⟩ := w1 (by omega)
    obtain ⟨a, ha, ea⟩ := w2 (by omega) (by omega)
    have cd : (nI d).toNatClampNeg = d := nI_clamp (by omega)
    have ca : (nI a).toNatClampNeg = a := nI_clamp (by omega)
    refine ⟨p + 1, upd rg d (wd ((rg a + bb p) &&& 31).toNatClampNeg), wd, by omega, fun post h => sx_low hp (by omega) ho hd ed (fun Q q => sx_res6 hp ho ha ea Q q) h, fun post h => sy_c59 hp wg (fun x y hx hy => ?_)⟩
    have ex : x = rg a := by rw [hx (by omega) (by omega), ea, ca]
    subst ex
    refine ⟨vp, nm_r (e' := (rg a + bb p) &&& 31) (by rw [cp]) ⟨vp, nm_r (e' := nI d) (by rw [cp]; exact ed) ⟨vp, nm_r (e' := 6) (by rw [cp]; exact ho) ?_⟩⟩⟩
    rw [cd, nI_1]
    exact br_f (by decide) (br_f (by decide) (br_f (by decide) (br_f (by decide) (br_f (by decide) (br_f (by decide) (br_f (by decide) (br_f (by decide) (br_t rfl ⟨pk_andIn _ 5 (by decide) (by decide), vp_in_nI hd (by omega), nm_e h⟩))))))))
  by_cases n7 : n = 7
  · subst n7
    obtain ⟨d, hd, ed⟩ := w1 (by omega)
    obtain ⟨a, ha, ea⟩ := w2 (by omega) (by omega)
    have cd : (nI d).toNatClampNeg = d := nI_clamp (by omega)
    have ca : (nI a).toNatClampNeg = a := nI_clamp (by omega)
    refine ⟨p + 1, rg, upd wd ((rg a + bb p) &&& 31).toNatClampNeg (rg d), by omega, fun post h => ?_, fun post h => sy_c59 hp wg (fun x y hx hy => ?_)⟩
    · refine ⟨vp, nm_r (e' := 7) (by rw [cp]; exact ho) (br_f (by decide) (br_f (by decide) (br_t rfl ?_)))⟩
      refine sx_addr hp ha ea ⟨vp, ?_⟩
      rw [cp, ed, cd, nI_1]
      exact ⟨vp_in_nI hd (by omega), pk_andIn _ 5 (by decide) (by decide), nm_e h⟩
    · have ex : x = rg a := by rw [hx (by omega) (by omega), ea, ca]
      subst ex
      refine ⟨vp, nm_r (e' := (rg a + bb p) &&& 31) (by rw [cp]) ⟨vp, nm_r (e' := nI d) (by rw [cp]; exact ed) ⟨vp, nm_r (e' := 7) (by rw [cp]; exact ho) ?_⟩⟩⟩
      rw [cd, nI_1]
      exact br_f (by decide) (br_f (by decide) (br_f (by decide) (br_f (by decide) (br_f (by decide) (br_f (by decide) (br_f (by decide) (br_f (by decide) (br_f (by decide) (br_t rfl ⟨vp_in_nI hd (by omega), pk_andIn _ 5 (by decide) (by decide), nm_e h⟩)))))))))
  by_cases n8 : n = 8
  · subst n8
    obtain ⟨a, ha, ea⟩ := w2 (by omega) (by omega)
    obtain ⟨b, hb, eb⟩ := w4 (Or.inl rfl)
    have ca : (nI a).toNatClampNeg = a := nI_clamp (by omega)
    by_cases z : rg a = 0
    · refine ⟨b, rg, wd, by omega, fun post h => ?_, fun post h => sy_c59 hp wg (fun x y hx hy => ?_)⟩
      · refine ⟨vp, nm_r (e' := 8) (by rw [cp]; exact ho) (br_f (by decide) (br_t rfl ⟨vp, ?_⟩))⟩
        rw [cp, ea, ca, eb]
        exact ⟨vp_in_nI ha (by omega), br_t z ⟨vp, h⟩⟩
      · have ex : x = rg a := by rw [hx (by omega) (by omega), ea, ca]
        subst ex
        refine ⟨vp, nm_e ⟨vp, nm_e ⟨vp, nm_r (e' := 8) (by rw [cp]; exact ho) ?_⟩⟩⟩
        refine br_f (by decide) (br_f (by decide) (br_f (by decide) (br_f (by decide) (br_f (by decide) (br_f (by decide) (br_f (by decide) (br_f (by decide) (br_f (by decide) (br_f (by decide) (br_t rfl (br_t z ⟨vp, ?_⟩)))))))))))
        rw [cp, eb]
        exact h
    · refine ⟨p + 1, rg, wd, by omega, fun post h => ?_, fun post h => sy_c59 hp wg (fun x y hx hy => ?_)⟩
      · refine ⟨vp, nm_r (e' := 8) (by rw [cp]; exact ho) (br_f (by decide) (br_t rfl ⟨vp, ?_⟩))⟩
        rw [cp, ea, ca, nI_1]
        exact ⟨vp_in_nI ha (by omega), br_f z h⟩
      · have ex : x = rg a := by rw [hx (by omega) (by omega), ea, ca]
        subst ex
        refine ⟨vp, nm_e ⟨vp, nm_e ⟨vp, nm_r (e' := 8) (by rw [cp]; exact ho) ?_⟩⟩⟩
        refine br_f (by decide) (br_f (by decide) (br_f (by decide) (br_f (by decide) (br_f (by decide) (br_f (by decide) (br_f (by decide) (br_f (by decide) (br_f (by decide) (br_f (by decide) (br_t rfl (br_f z ?_)))))))))))
        rw [nI_1]
        exact h
  · have n9 : n = 9 := by omega
    subst n9
    obtain ⟨b, hb, eb⟩ := w4 (Or.inr rfl)
    refine ⟨b, rg, wd, by omega, fun post h => ?_, fun post h => sy_c59 hp wg (fun x y hx hy => ?_)⟩
    · refine ⟨vp, nm_r (e' := 9) (by rw [cp]; exact ho) (br_t rfl ⟨vp, ?_⟩)⟩
      rw [cp, eb]
      exact h
    · refine ⟨vp, nm_e ⟨vp, nm_e ⟨vp, nm_r (e' := 9) (by rw [cp]; exact ho) (br_f (by decide) (br_t (by decide) ⟨vp, ?_⟩))⟩⟩⟩
      rw [cp, eb]
      exact h
end SDD11
end
section
/-! SD 12: the relation, and run -/
def sd_C (L S F t : Nat) (oo dd aa bb uc lt : Nat → Int32) : Prop := L ≤ 24 ∧ (∀ i, i < L → sd_wf (oo i) (dd i) (aa i) (bb i)) ∧ (∀ q, q < 6 → (∃ m : Nat, m < 3 ∧ uc q = nI (m + 1)) ∧ ∃ l : Nat, 1 ≤ l ∧ l ≤ 8 ∧ lt q = nI l) ∧ 1 ≤ S ∧ S ≤ 4 ∧ F ≤ 6 ∧ 1 ≤ t ∧ t ≤ 8
/-- program, registers, words, units, settings and losses are the same; the records are Y's cells; the scoreboard is free between two runs -/
def i_Rel (_ : Nat) (u : SX) (v : SY) : Prop := ∃ (L S F t k : Nat) (od nc li la fe : Int32) (oo dd aa bb rg wd uc lt rc ls rw rr uw br st nu kd tg fs sc bk is rd ac ry wr un pk : Nat → Int32), u = (nI L, nI S, nI F, nI t, nI k, nI (sd_LW wr k), od, nc, li, la, oo, dd, aa, bb, rg, wd, uc, lt, rc, ls, rw, rr, uw, br, st) ∧ v = (nI L, nI S, nI F, nI t, fe, nI k, oo, dd, aa, bb, rg, wd, uc, lt, nu, kd, tg, fs, sc, bk, is, rd, ac, ry, wr, un, pk, ls) ∧ sd_C L S F t oo dd aa bb uc lt ∧ k ≤ 60 ∧ sd_ok wr k 2000 ∧ sd_rec k rc nu is rd ry wr un kd
theorem i_up {k : Nat} {u : SX} {v : SY} (h : i_Rel k u v) : i_Rel (k + 5) u v := h
def sd_z (i : Nat) (c : Int32) (a : Nat → Int32) : Nat → Int32 := fun j => if j < i then c else a j
theorem sd_z_0 {c : Int32} {a : Nat → Int32} : sd_z 0 c a = a := by
  funext j
  exact if_neg (Nat.not_lt_zero j)
theorem sd_z_s {i : Nat} {c : Int32} {a : Nat → Int32} : upd (sd_z i c a) i c = sd_z (i + 1) c a := by
  funext j
  unfold upd sd_z
  by_cases e : j = i
  · rw [if_pos e, if_pos (by omega)]
  · rw [if_neg e]
    by_cases g : j < i
    · rw [if_pos g, if_pos (by omega)]
    · rw [if_neg g, if_neg (by omega)]
theorem sd_z_at {i j : Nat} {c : Int32} {a : Nat → Int32} (h : j < i) : sd_z i c a j = c := if_pos h
section SDR12
variable {len ss ft bt dn lw od nc li la fe : Int32} {oo dd aa bb rg wd uc lt rc ls rw rr uw br st nu kd tg fs sc bk is rd ac ry wr un pk : Nat → Int32}
theorem sx_b91 {post : SX → Prop} (h : post (len, ss, ft, bt, 0, 0, 0, 1, 0, 0, oo, dd, aa, bb, rg, wd, uc, lt, rc, sd_z 7 0 ls, rw, rr, uw, br, st)) : ∀ d i, i + d = 7 → wX_beginRun_91 post len ss ft bt dn lw od nc li la (d + 1) (nI i) oo dd aa bb rg wd uc lt rc (sd_z i 0 ls) rw rr uw br st := by
  intro d
  induction d with
  | zero =>
    intro i hi
    have e : i = 7 := by omega
    subst e
    rw [wX_beginRun_91]
    exact br_t (by decide) h
  | succ d ih =>
    intro i hi
    have c : (nI i).toNatClampNeg = i := nI_clamp (by omega)
    rw [wX_beginRun_91]
    exact br_f (nI_ge (b := 7) (by omega) (by omega)) ⟨vp_in_nI (by omega) (by omega), nm_r (e' := sd_z (i + 1) 0 ls) (by rw [c, sd_z_s]) (nm_r (nI_1 i) (ih (i + 1) (by omega)))⟩
theorem sx_b71 {post : SX → Prop} (h : post (len, ss, ft, bt, 0, 0, 0, 1, 0, 0, oo, dd, aa, bb, rg, wd, uc, lt, rc, sd_z 7 0 ls, rw, rr, uw, br, sd_z 4 (-1) st)) : ∀ d i, i + d = 4 → wX_beginRun_71 post len ss ft bt dn lw od nc li la (d + 1) (nI i) oo dd aa bb rg wd uc lt rc ls rw rr uw br (sd_z i (-1) st) := by
  intro d
  induction d with
  | zero =>
    intro i hi
    have e : i = 4 := by omega
    subst e
    have t := sx_b91 (dn := dn) (lw := lw) (od := od) (nc := nc) (li := li) (la := la) h 7 0 rfl
    rw [sd_z_0] at t
    rw [wX_beginRun_71]
    exact br_t (by decide) ⟨8, t⟩
  | succ d ih =>
    intro i hi
    have c : (nI i).toNatClampNeg = i := nI_clamp (by omega)
    rw [wX_beginRun_71]
    exact br_f (nI_ge (b := 4) (by omega) (by omega)) ⟨vp_in_nI (by omega) (by omega), nm_r (e' := sd_z (i + 1) (-1) st) (by rw [c, sd_z_s]) (nm_r (nI_1 i) (ih (i + 1) (by omega)))⟩
theorem sx_b51 {post : SX → Prop} (h : post (len, ss, ft, bt, 0, 0, 0, 1, 0, 0, oo, dd, aa, bb, rg, wd, uc, lt, rc, sd_z 7 0 ls, rw, rr, uw, sd_z 4 0 br, sd_z 4 (-1) st)) : ∀ d i, i + d = 4 → wX_beginRun_51 post len ss ft bt dn lw od nc li la (d + 1) (nI i) oo dd aa bb rg wd uc lt rc ls rw rr uw (sd_z i 0 br) st := by
  intro d
  induction d with
  | zero =>
    intro i hi
    have e : i = 4 := by omega
    subst e
    have t := sx_b71 (dn := dn) (lw := lw) (od := od) (nc := nc) (li := li) (la := la) h 4 0 rfl
    rw [sd_z_0] at t
    rw [wX_beginRun_51]
    exact br_t (by decide) ⟨5, t⟩
  | succ d ih =>
    intro i hi
    have c : (nI i).toNatClampNeg = i := nI_clamp (by omega)
    rw [wX_beginRun_51]
    exact br_f (nI_ge (b := 4) (by omega) (by omega)) ⟨vp_in_nI (by omega) (by omega), nm_r (e' := sd_z (i + 1) 0 br) (by rw [c, sd_z_s]) (nm_r (nI_1 i) (ih (i + 1) (by omega)))⟩
theorem sx_b30 {post : SX → Prop} (h : post (len, ss, ft, bt, 0, 0, 0, 1, 0, 0, oo, dd, aa, bb, rg, wd, uc, lt, rc, sd_z 7 0 ls, rw, rr, sd_z 18 0 uw, sd_z 4 0 br, sd_z 4 (-1) st)) : ∀ d i, i + d = 18 → wX_beginRun_30 post len ss ft bt dn lw od nc li la (d + 1) (nI i) oo dd aa bb rg wd uc lt rc ls rw rr (sd_z i 0 uw) br st := by
  intro d
  induction d with
  | zero =>
    intro i hi
    have e : i = 18 := by omega
    subst e
    have t := sx_b51 (dn := dn) (lw := lw) (od := od) (nc := nc) (li := li) (la := la) h 4 0 rfl
    rw [sd_z_0] at t
    rw [wX_beginRun_30]
    exact br_t (by decide) ⟨5, t⟩
  | succ d ih =>
    intro i hi
    have c : (nI i).toNatClampNeg = i := nI_clamp (by omega)
    rw [wX_beginRun_30]
    exact br_f (nI_ge (b := 18) (by omega) (by omega)) ⟨vp_in_nI (by omega) (by omega), nm_r (e' := sd_z (i + 1) 0 uw) (by rw [c, sd_z_s]) (nm_r (nI_1 i) (ih (i + 1) (by omega)))⟩
theorem sx_b2 {post : SX → Prop} (h : post (len, ss, ft, bt, 0, 0, 0, 1, 0, 0, oo, dd, aa, bb, rg, wd, uc, lt, rc, sd_z 7 0 ls, sd_z 8 0 rw, sd_z 8 0 rr, sd_z 18 0 uw, sd_z 4 0 br, sd_z 4 (-1) st)) : ∀ d i, i + d = 8 → wX_beginRun_2 post len ss ft bt dn lw od nc li la (d + 1) (nI i) oo dd aa bb rg wd uc lt rc ls (sd_z i 0 rw) (sd_z i 0 rr) uw br st := by
  intro d
  induction d with
  | zero =>
    intro i hi
    have e : i = 8 := by omega
    subst e
    have t := sx_b30 (dn := dn) (lw := lw) (od := od) (nc := nc) (li := li) (la := la) h 18 0 rfl
    rw [sd_z_0] at t
    rw [wX_beginRun_2]
    exact br_t (by decide) ⟨19, t⟩
  | succ d ih =>
    intro i hi
    have c : (nI i).toNatClampNeg = i := nI_clamp (by omega)
    rw [wX_beginRun_2]
    exact br_f (nI_ge (b := 8) (by omega) (by omega)) ⟨vp_in_nI (by omega) (by omega), nm_r (e' := sd_z (i + 1) 0 rw) (by rw [c, sd_z_s]) ⟨vp_in_nI (by omega) (by omega), nm_r (e' := sd_z (i + 1) 0 rr) (by rw [c, sd_z_s]) (nm_r (nI_1 i) (ih (i + 1) (by omega)))⟩⟩
theorem sx_begin {post : SX → Prop} (h : post (len, ss, ft, bt, 0, 0, 0, 1, 0, 0, oo, dd, aa, bb, rg, wd, uc, lt, rc, sd_z 7 0 ls, sd_z 8 0 rw, sd_z 8 0 rr, sd_z 18 0 uw, sd_z 4 0 br, sd_z 4 (-1) st)) : wpX_beginRun post (len, ss, ft, bt, dn, lw, od, nc, li, la, oo, dd, aa, bb, rg, wd, uc, lt, rc, ls, rw, rr, uw, br, st) := by
  have t := sx_b2 (dn := dn) (lw := lw) (od := od) (nc := nc) (li := li) (la := la) h 8 0 rfl
  rw [sd_z_0, sd_z_0] at t
  exact ⟨9, t⟩
theorem sy_r14 {post : Int32 → SY → Prop} {x1 : Int32} (h : ∃ n, wY_run_33 post n x1 len ss ft bt fe dn oo dd aa bb rg wd uc lt nu kd tg fs sc bk is rd ac ry wr un pk (sd_z 7 0 ls)) : ∀ d i, i + d = 7 → wY_run_14 post x1 len ss ft bt fe dn (d + 1) (nI i) oo dd aa bb rg wd uc lt nu kd tg fs sc bk is rd ac ry wr un pk (sd_z i 0 ls) := by
  intro d
  induction d with
  | zero =>
    intro i hi
    have e : i = 7 := by omega
    subst e
    rw [wY_run_14]
    exact br_t (by decide) h
  | succ d ih =>
    intro i hi
    have c : (nI i).toNatClampNeg = i := nI_clamp (by omega)
    rw [wY_run_14]
    exact br_f (nI_ge (b := 7) (by omega) (by omega)) ⟨vp_in_nI (by omega) (by omega), nm_r (e' := sd_z (i + 1) 0 ls) (by rw [c, sd_z_s]) (nm_r (nI_1 i) (ih (i + 1) (by omega)))⟩
theorem sy_run {post : Int32 → SY → Prop} (h : ∃ n, wY_run_33 post n 0 len ss ft bt 0 0 oo dd aa bb rg wd uc lt nu kd tg fs sc bk is rd ac ry wr un pk (sd_z 7 0 ls)) : wpY_run post (len, ss, ft, bt, fe, dn, oo, dd, aa, bb, rg, wd, uc, lt, nu, kd, tg, fs, sc, bk, is, rd, ac, ry, wr, un, pk, ls) := by
  have t := sy_r14 h 7 0 rfl
  rw [sd_z_0] at t
  exact ⟨8, t⟩
theorem sy_stop {post : Int32 → SY → Prop} {p L d : Nat} (hL : L ≤ 24) (hp : p ≤ 24) (g : ¬ (p < L ∧ ¬ oo p = 10)) (h : post 0 (nI L, ss, ft, bt, fe, dn, oo, dd, aa, bb, rg, wd, uc, lt, nu, kd, tg, fs, sc, bk, is, rd, ac, ry, wr, un, pk, ls)) : wY_run_33 post (d + 1) (nI p) (nI L) ss ft bt fe dn oo dd aa bb rg wd uc lt nu kd tg fs sc bk is rd ac ry wr un pk ls := by
  have cp : (nI p).toNatClampNeg = p := nI_clamp (by omega)
  rw [wY_run_33]
  refine sy_w L (by omega) (fun z => br_f (by decide) ?_) (fun _ => br_t rfl h)
  obtain ⟨r, hr, e⟩ := z
  have e : p = r := (nI_eq (by omega) (by omega)).mp e
  refine ⟨vp_in_nI (by omega) (by omega), ?_⟩
  rw [cp]
  exact br_t (Classical.byContradiction fun z => g ⟨by omega, z⟩) h
end SDR12
end
section
/-! SD 13: run, both sides in step -/
section SDL13
variable {od nc li la fe : Int32} {oo dd aa bb rg wd uc lt rc ls rw rr uw br st nu kd tg fs sc bk is rd ac ry wr un pk : Nat → Int32}
theorem sd_rel {L S F t k E n : Nat} (C : sd_C L S F t oo dd aa bb uc lt) (hk : k ≤ 60) (I : sd_I k S t E kd tg fs sc bk is rd ac wr un pk rw rr uw br st) (R : sd_rec k rc nu is rd ry wr un kd) : i_Rel n (nI L, nI S, nI F, nI t, nI k, nI (sd_LW wr k), od, nc, li, la, oo, dd, aa, bb, rg, wd, uc, lt, rc, ls, rw, rr, uw, br, st) (nI L, nI S, nI F, nI t, fe, nI k, oo, dd, aa, bb, rg, wd, uc, lt, nu, kd, tg, fs, sc, bk, is, rd, ac, ry, wr, un, pk, ls) :=
  ⟨L, S, F, t, k, od, nc, li, la, fe, oo, dd, aa, bb, rg, wd, uc, lt, rc, ls, rw, rr, uw, br, st, nu, kd, tg, fs, sc, bk, is, rd, ac, ry, wr, un, pk, rfl, rfl, C, hk, sd_ok_up I.2.2.1 (by omega), R⟩
end SDL13
theorem sd_loop {L S F t : Nat} {oo dd aa bb uc lt : Nat → Int32} (C : sd_C L S F t oo dd aa bb uc lt) :
    ∀ (d k p E : Nat) (rg wd rc ls rw rr uw br st nu kd tg fs sc bk is rd ac ry wr un pk : Nat → Int32), k + d = 60 → p ≤ 24 → sd_I k S t E kd tg fs sc bk is rd ac wr un pk rw rr uw br st → sd_rec k rc nu is rd ry wr un kd → ∀ post : Int32 → SX → Prop, (∀ (r : Int32) (u' : SX) (v' : SY), i_Rel 0 u' v' → (∀ postY : Int32 → SY → Prop, postY r v' → wY_run_33 postY (d + 1) (nI p) (nI L) (nI S) (nI F) (nI t) (nI E) (nI k) oo dd aa bb rg wd uc lt nu kd tg fs sc bk is rd ac ry wr un pk ls) → post r u') →
      wX_run_8 post (d + 1) (nI p) (nI k) (nI L) (nI S) (nI F) (nI t) (nI k) (nI (sd_LW wr k)) (nI (E % S)) (nI (sd_NC kd is wr k)) (nI (sd_LI is k)) (nI (sd_LA kd ac k)) oo dd aa bb rg wd uc lt rc ls rw rr uw br st := by
  obtain ⟨hL, hwf, hun, hS1, hS4, hF, ht1, ht8⟩ := id C
  intro d
  induction d with
  | zero =>
    intro k p E rg wd rc ls rw rr uw br st nu kd tg fs sc bk is rd ac ry wr un pk hk hp I R post K
    have e : k = 60 := by omega
    subst e
    have cp : (nI p).toNatClampNeg = p := nI_clamp (by omega)
    rw [wX_run_8]
    refine br_t (nI_le (a := 60) (Nat.le_refl _) (by omega)) ?_
    unfold wX_run_50
    refine sx_goes hp hL (fun g1 g2 => br_f (by decide) (K 1 _ _ (sd_rel (fe := nI E) C (Nat.le_refl _) I R) (fun postY h => ?_))) (fun g => br_t rfl (K 0 _ _ (sd_rel (fe := nI E) C (Nat.le_refl _) I R) (fun postY h => sy_stop hL hp g h)))
    rw [wY_run_33]
    refine sy_w L (by omega) (fun _ => br_f (by decide) ⟨vp_in_nI (by omega) (by omega), ?_⟩) (fun z => absurd ⟨p, g1, rfl⟩ z)
    rw [cp]
    exact br_f g2 (br_t rfl h)
  | succ d ih =>
    intro k p E rg wd rc ls rw rr uw br st nu kd tg fs sc bk is rd ac ry wr un pk hk hp I R post K
    have cp : (nI p).toNatClampNeg = p := nI_clamp (by omega)
    rw [wX_run_8]
    refine br_f (nI_ge (b := 60) (by omega) (by omega)) ?_
    refine sx_goes hp hL (fun g1 g2 => br_f (by decide) ?_) (fun g => br_t rfl ?_)
    · obtain ⟨n, wg⟩ := sd_wg_of (hwf p g1) g2
      have hp24 : p < 24 := by omega
      obtain ⟨⟨m, hm, euc⟩, lat, hl1, hl8, elt⟩ := hun (sd_kd n) (sd_kd_lt n)
      have c1 : ∀ j, j < k → upd kd k (nI (sd_kd n)) j = kd j := fun j hj => pk_un (by omega)
      have I' := sd_I_cg (kd' := upd kd k (nI (sd_kd n))) (tg' := upd tg k (sd_tg n (dd p))) (fs' := upd fs k (sd_fs n (aa p))) (sc' := upd sc k (sd_sc n (dd p) (bb p))) (bk' := upd bk k (sd_bk n rg (aa p) (bb p))) I c1 (fun j hj => pk_un (by omega)) (fun j hj => pk_un (by omega)) (fun j hj => pk_un (by omega)) (fun j hj => pk_un (by omega))
      have R' : sd_rec k rc (upd nu k (nI p)) is rd ry wr un (upd kd k (nI (sd_kd n))) := fun j hj => by
        rw [pk_un (by omega), pk_un (by omega)]
        exact R j hj
      obtain ⟨E', is', rd', ac', ry', wr', un', pk', ls', hY, hX⟩ := sd_step (len := nI L) (dn := nI k) (wd := wd) (ls := ls) (F := F) (by omega) hp24 wg hm euc elt hl1 hl8 hS1 hS4 hF ht8 I' R' pk_us pk_us pk_us pk_us pk_us pk_us
      rw [sd_NC_cg c1, sd_LA_cg c1] at hX
      refine hX _ (fun rc' rw' rr' uw' br' st' I2 R2 => ?_)
      dsimp only
      obtain ⟨p', rg', wd', hp', dX, dY⟩ := sd_do (len := nI L) (ss := nI S) (ft := nI F) (bt := nI t) (dn := nI k) (lw := nI (sd_LW wr' (k + 1))) (od := nI (E' % S)) (nc := nI (sd_NC (upd kd k (nI (sd_kd n))) is' wr' (k + 1))) (li := nI (sd_LI is' (k + 1))) (la := nI (sd_LA (upd kd k (nI (sd_kd n))) ac' (k + 1))) (fe := nI E') (dm := nI (k + 1)) (rg := rg) (wd := wd) (uc := uc) (lt := lt) (rc := rc') (ls := ls') (rw := rw') (rr := rr') (uw := uw') (br := br') (st := st') (nu := upd nu k (nI p)) (kd := upd kd k (nI (sd_kd n))) (tg := upd tg k (sd_tg n (dd p))) (fs := upd fs k (sd_fs n (aa p))) (sc := upd sc k (sd_sc n (dd p) (bb p))) (bk := upd bk k (sd_bk n rg (aa p) (bb p))) (is := is') (rd := rd') (ac := ac') (ry := ry') (wr := wr') (un := un') (pk := pk') hp24 wg
      refine dX _ ?_
      dsimp only
      refine nm_r (nI_1 k) (nm_r (nI_1 k) ?_)
      refine ih (k + 1) p' E' rg' wd' rc' ls' rw' rr' uw' br' st' _ _ _ _ _ _ is' rd' ac' ry' wr' un' pk' (by omega) hp' I2 R2 post (fun r u' v' hr hy => K r u' v' hr (fun postY hpY => ?_))
      rw [wY_run_33]
      refine sy_w L (by omega) (fun _ => br_f (by decide) ⟨vp_in_nI (by omega) (by omega), ?_⟩) (fun z => absurd ⟨p, g1, rfl⟩ z)
      rw [cp]
      refine br_f g2 (br_f (fun z => absurd ((nI_eq (a := k) (b := 60) (by omega) (by omega)).mp z) (by omega)) ?_)
      refine sy_note hp24 (by omega) wg.1 wg.2.1 wg.2.2.2.1 ?_
      dsimp only
      refine hY _ ?_
      dsimp only
      refine nm_r (nI_1 k) ?_
      refine dY _ ?_
      dsimp only
      exact hy postY hpY
    · unfold wX_run_50
      refine sx_goes hp hL (fun g1 g2 => absurd ⟨g1, g2⟩ g) (fun _ => br_t rfl (K 0 _ _ (sd_rel (fe := nI E) C (by omega) I R) (fun postY h => sy_stop hL hp g h)))
theorem i_vc_run {k : Nat} {u : SX} {v : SY} (I : i_Rel k u v) (hk : k + 5 ≤ 2560) : wpX_run (fun r u' => wpY_run (fun r' v' => r' = r ∧ i_Rel (k + 5) u' v') v) u := by
  obtain ⟨L, S, F, t, k0, od, nc, li, la, fe, oo, dd, aa, bb, rg, wd, uc, lt, rc, ls, rw, rr, uw, br, st, nu, kd, tg, fs, sc, bk, is, rd, ac, ry, wr, un, pk, rfl, rfl, C, hk0, ok, R⟩ := I
  unfold wpX_run
  dsimp only
  refine sx_begin ?_
  dsimp only
  obtain ⟨hL, hwf, hun, hS1, hS4, hF, ht1, ht8⟩ := id C
  have I0 : sd_I 0 S t 0 kd tg fs sc bk is rd ac wr un pk (sd_z 8 0 rw) (sd_z 8 0 rr) (sd_z 18 0 uw) (sd_z 4 0 br) (sd_z 4 (-1) st) := sd_I_0 hS4 (fun r hr => sd_z_at hr) (fun r hr => sd_z_at hr) (fun r hr => sd_z_at hr) (fun r hr => sd_z_at hr) (fun r hr => sd_z_at hr)
  have R0 : sd_rec 0 rc nu is rd ry wr un kd := fun j hj => absurd hj (Nat.not_lt_zero j)
  have H := sd_loop C 60 0 0 0 rg wd rc (sd_z 7 0 ls) (sd_z 8 0 rw) (sd_z 8 0 rr) (sd_z 18 0 uw) (sd_z 4 0 br) (sd_z 4 (-1) st) nu kd tg fs sc bk is rd ac ry wr un pk rfl (by omega) I0 R0 (fun r u' => wpY_run (fun r' v' => r' = r ∧ i_Rel (k + 5) u' v') (nI L, nI S, nI F, nI t, fe, nI k0, oo, dd, aa, bb, rg, wd, uc, lt, nu, kd, tg, fs, sc, bk, is, rd, ac, ry, wr, un, pk, ls)) (fun r u' v' hr hy => sy_run ⟨61, hy _ ⟨rfl, hr⟩⟩)
  rw [Nat.zero_mod] at H
  exact ⟨61, H⟩
end
section
/-! SD 14: a new object, add -/
section SDA14
variable {len ss ft bt dn lw od nc li la fe : Int32} {oo dd aa bb rg wd uc lt rc ls rw rr uw br st nu kd tg fs sc bk is rd ac ry wr un pk : Nat → Int32}
theorem sx_equip {post : SX → Prop} {q : Nat} {a b : Int32} (hq : q < 6) (h : post (len, ss, ft, bt, dn, lw, od, nc, li, la, oo, dd, aa, bb, rg, wd, upd uc q a, upd lt q b, rc, ls, rw, rr, uw, br, st)) : wpX_equip post (len, ss, ft, bt, dn, lw, od, nc, li, la, oo, dd, aa, bb, rg, wd, uc, lt, rc, ls, rw, rr, uw, br, st) (nI q) a b := by
  have cq : (nI q).toNatClampNeg = q := nI_clamp (by omega)
  have v : vp_in (nI q) 6 := vp_in_nI hq (by omega)
  exact ⟨v, nm_r (congrArg (fun z => upd uc z a) cq) ⟨v, nm_r (congrArg (fun z => upd lt z b) cq) h⟩⟩
end SDA14
def sd_uc0 : Nat → Int32 := upd (upd (upd (upd (upd (upd (fun _ => 0) 0 1) 1 2) 2 2) 3 1) 4 2) 5 1
def sd_lt0 : Nat → Int32 := upd (upd (upd (upd (upd (upd (fun _ => 0) 0 1) 1 2) 2 4) 3 8) 4 3) 5 1
theorem sd_C0 {oo dd aa bb : Nat → Int32} : sd_C 0 2 2 4 oo dd aa bb sd_uc0 sd_lt0 := by
  refine ⟨by omega, fun i hi => absurd hi (Nat.not_lt_zero i), fun q hq => ?_, by omega, by omega, by omega, by omega, by omega⟩
  rcases (by omega : q = 0 ∨ q = 1 ∨ q = 2 ∨ q = 3 ∨ q = 4 ∨ q = 5) with rfl | rfl | rfl | rfl | rfl | rfl
  · exact ⟨⟨0, by omega, rfl⟩, 1, by omega, by omega, rfl⟩
  · exact ⟨⟨1, by omega, rfl⟩, 2, by omega, by omega, rfl⟩
  · exact ⟨⟨1, by omega, rfl⟩, 4, by omega, by omega, rfl⟩
  · exact ⟨⟨0, by omega, rfl⟩, 8, by omega, by omega, rfl⟩
  · exact ⟨⟨1, by omega, rfl⟩, 3, by omega, by omega, rfl⟩
  · exact ⟨⟨0, by omega, rfl⟩, 1, by omega, by omega, rfl⟩
theorem i_vc0 : wpX_init (fun u => wpY_init (fun v => i_Rel 0 u v)) := by
  unfold wpX_init
  refine sx_equip (q := 0) (by omega) ?_
  dsimp only
  refine sx_equip (q := 1) (by omega) ?_
  dsimp only
  refine sx_equip (q := 2) (by omega) ?_
  dsimp only
  refine sx_equip (q := 3) (by omega) ?_
  dsimp only
  refine sx_equip (q := 4) (by omega) ?_
  dsimp only
  refine sx_equip (q := 5) (by omega) ?_
  dsimp only
  refine ⟨6 + 1, ?_⟩
  rw [wY_init_197]
  refine br_f (by decide) (br_t (by decide) ⟨vp_in_nI (n := 0) (by omega) (by omega), nm_r (e' := upd (fun _ => 0) 0 1) rfl (nm_r (e' := nI 1) (by decide) ?_)⟩)
  rw [wY_init_197]
  refine br_f (by decide) (br_f (by decide) (br_f (by decide) (br_f (by decide) ⟨vp_in_nI (n := 1) (by omega) (by omega), nm_r (e' := upd (upd (fun _ => 0) 0 1) 1 2) rfl (nm_r (e' := nI 2) (by decide) ?_)⟩)))
  rw [wY_init_197]
  refine br_f (by decide) (br_f (by decide) (br_f (by decide) (br_f (by decide) ⟨vp_in_nI (n := 2) (by omega) (by omega), nm_r (e' := upd (upd (upd (fun _ => 0) 0 1) 1 2) 2 2) rfl (nm_r (e' := nI 3) (by decide) ?_)⟩)))
  rw [wY_init_197]
  refine br_f (by decide) (br_f (by decide) (br_t (by decide) ⟨vp_in_nI (n := 3) (by omega) (by omega), nm_r (e' := upd (upd (upd (upd (fun _ => 0) 0 1) 1 2) 2 2) 3 1) rfl (nm_r (e' := nI 4) (by decide) ?_)⟩))
  rw [wY_init_197]
  refine br_f (by decide) (br_f (by decide) (br_f (by decide) (br_f (by decide) ⟨vp_in_nI (n := 4) (by omega) (by omega), nm_r (e' := upd (upd (upd (upd (upd (fun _ => 0) 0 1) 1 2) 2 2) 3 1) 4 2) rfl (nm_r (e' := nI 5) (by decide) ?_)⟩)))
  rw [wY_init_197]
  refine br_f (by decide) (br_f (by decide) (br_f (by decide) (br_t (by decide) ⟨vp_in_nI (n := 5) (by omega) (by omega), nm_r (e' := sd_uc0) rfl (nm_r (e' := nI 6) (by decide) ?_)⟩)))
  rw [wY_init_197]
  refine br_t (by decide) (nm_e (nm_e (nm_e (nm_e (nm_e (nm_e ?_))))))
  exact ⟨0, 2, 2, 4, 0, 0, 0, 0, 0, 0, fun _ => 0, fun _ => 0, fun _ => 0, fun _ => 0, fun _ => 0, fun _ => 0, sd_uc0, sd_lt0, fun _ => 0, fun _ => 0, fun _ => 0, fun _ => 0, fun _ => 0, fun _ => 0, fun _ => 0, fun _ => 0, fun _ => 0, fun _ => 0, fun _ => 0, fun _ => 0, fun _ => 0, fun _ => 0, fun _ => 0, fun _ => 0, fun _ => 0, fun _ => 0, fun _ => 0, fun _ => 0, rfl, rfl, sd_C0, by omega, sd_ok_0, fun j hj => absurd hj (Nat.not_lt_zero j)⟩
theorem sd_wf_n {n : Nat} {d a b : Int32} (hn : n < 2 ^ 31) : sd_wf (nI n) d a b ↔ n ≤ 10 ∧ (n < 8 → sd_lt 8 d) ∧ (0 < n → n < 9 → sd_lt 8 a) ∧ (0 < n → n < 6 → sd_lt 8 b) ∧ (n = 8 ∨ n = 9 → sd_lt 24 b) := by
  constructor
  · rintro ⟨m, h1, h2, h3⟩
    have e : n = m := (nI_eq hn (by omega)).mp h2
    subst e
    exact ⟨h1, h3⟩
  · rintro ⟨h1, h2⟩
    exact ⟨n, h1, rfl, h2⟩
theorem sd_wf_r {op d a b : Int32} (h : sd_wf op d a b) : sd_lt 11 op := by
  obtain ⟨m, h1, h2, _⟩ := h
  exact ⟨m, by omega, h2⟩
theorem sx_61 {post : Int32 → Prop} {d a b : Int32} (h1 : sd_lt 8 d → sd_lt 8 a → sd_lt 8 b → post 1) (h0 : ¬ (sd_lt 8 d ∧ sd_lt 8 a ∧ sd_lt 8 b) → post 0) : wX_wellFormed_61 post d a b := by
  unfold wX_wellFormed_61
  refine sx_reg (fun g1 => br_f (by decide) ?_) (fun g => br_t rfl (h0 (fun z => g z.1)))
  refine sx_reg (fun g2 => br_f (by decide) ?_) (fun g => br_t rfl (h0 (fun z => g z.2.1)))
  exact sx_reg (fun g3 => br_f (by decide) (h1 g1 g2 g3)) (fun g => br_t rfl (h0 (fun z => g z.2.2)))
theorem sx_88 {post : Int32 → Prop} {d a : Int32} (h1 : sd_lt 8 d → sd_lt 8 a → post 1) (h0 : ¬ (sd_lt 8 d ∧ sd_lt 8 a) → post 0) : wX_wellFormed_88 post d a := by
  unfold wX_wellFormed_88
  refine sx_reg (fun g1 => br_f (by decide) ?_) (fun g => br_t rfl (h0 (fun z => g z.1)))
  exact sx_reg (fun g2 => br_f (by decide) (h1 g1 g2)) (fun g => br_t rfl (h0 (fun z => g z.2)))
theorem sx_wellF {post : Int32 → Prop} {op d a b : Int32} (h1 : sd_wf op d a b → post 1) (h0 : ¬ sd_wf op d a b → post 0) : wpX_wellFormed post op d a b := by
  unfold wpX_wellFormed
  by_cases hs : op < 0
  · refine br_t hs ⟨fun e => ?_, fun _ => h0 (fun z => ?_)⟩
    · rw [e] at hs
      exact absurd hs (by decide)
    · obtain ⟨m, e1, e2, _⟩ := z
      rw [e2] at hs
      exact absurd hs (nI_pos (by omega))
  · obtain ⟨n, hn, rfl⟩ := nI_of hs
    rw [sd_wf_n hn] at h1 h0
    refine br_f hs (pk_lt 9 n (fun g => ?_) (fun g => ?_))
    · exact pk_eq n 10 (fun e => h1 ⟨by omega, fun z => by omega, fun _ z => by omega, fun _ z => by omega, fun z => by omega⟩) (fun e => h0 (fun z => by have := z.1; omega))
    · rcases sd_10 g with rfl | rfl | rfl | rfl | rfl | rfl | rfl | rfl | rfl | rfl
      · refine br_t rfl (sx_reg (fun z => ⟨sd_n1, h1 ⟨by omega, fun _ => z, fun y => by omega, fun y => by omega, fun y => by omega⟩⟩) (fun z => ⟨sd_n0, h0 (fun y => z (y.2.1 (by omega)))⟩))
      · exact br_f (by decide) (br_t rfl (sx_61 (fun x y z => h1 ⟨by omega, fun _ => x, fun _ _ => y, fun _ _ => z, fun y => by omega⟩) (fun z => h0 (fun y => z ⟨y.2.1 (by omega), y.2.2.1 (by omega) (by omega), y.2.2.2.1 (by omega) (by omega)⟩))))
      · exact br_f (by decide) (br_f (by decide) (br_t rfl (sx_61 (fun x y z => h1 ⟨by omega, fun _ => x, fun _ _ => y, fun _ _ => z, fun y => by omega⟩) (fun z => h0 (fun y => z ⟨y.2.1 (by omega), y.2.2.1 (by omega) (by omega), y.2.2.2.1 (by omega) (by omega)⟩)))))
      · exact br_f (by decide) (br_f (by decide) (br_f (by decide) (br_t rfl (sx_61 (fun x y z => h1 ⟨by omega, fun _ => x, fun _ _ => y, fun _ _ => z, fun y => by omega⟩) (fun z => h0 (fun y => z ⟨y.2.1 (by omega), y.2.2.1 (by omega) (by omega), y.2.2.2.1 (by omega) (by omega)⟩))))))
      · exact br_f (by decide) (br_f (by decide) (br_f (by decide) (br_f (by decide) (br_t rfl (sx_61 (fun x y z => h1 ⟨by omega, fun _ => x, fun _ _ => y, fun _ _ => z, fun y => by omega⟩) (fun z => h0 (fun y => z ⟨y.2.1 (by omega), y.2.2.1 (by omega) (by omega), y.2.2.2.1 (by omega) (by omega)⟩)))))))
      · exact br_f (by decide) (br_f (by decide) (br_f (by decide) (br_f (by decide) (br_f (by decide) (br_t rfl (sx_61 (fun x y z => h1 ⟨by omega, fun _ => x, fun _ _ => y, fun _ _ => z, fun y => by omega⟩) (fun z => h0 (fun y => z ⟨y.2.1 (by omega), y.2.2.1 (by omega) (by omega), y.2.2.2.1 (by omega) (by omega)⟩))))))))
      · exact br_f (by decide) (br_f (by decide) (br_f (by decide) (br_f (by decide) (br_f (by decide) (br_f (by decide) (br_t rfl (sx_88 (fun x y => h1 ⟨by omega, fun _ => x, fun _ _ => y, fun _ z => by omega, fun y => by omega⟩) (fun z => h0 (fun y => z ⟨y.2.1 (by omega), y.2.2.1 (by omega) (by omega)⟩))))))))) 
      · exact br_f (by decide) (br_f (by decide) (br_f (by decide) (br_f (by decide) (br_f (by decide) (br_f (by decide) (br_f (by decide) (br_t rfl (sx_88 (fun x y => h1 ⟨by omega, fun _ => x, fun _ _ => y, fun _ z => by omega, fun y => by omega⟩) (fun z => h0 (fun y => z ⟨y.2.1 (by omega), y.2.2.1 (by omega) (by omega)⟩)))))))))) 
      · refine br_f (by decide) (br_f (by decide) (br_f (by decide) (br_f (by decide) (br_f (by decide) (br_f (by decide) (br_f (by decide) (br_f (by decide) (br_t rfl ?_))))))))
        refine sx_reg (fun x => br_f (by decide) ?_) (fun z => br_t rfl (h0 (fun y => z (y.2.2.1 (by omega) (by omega)))))
        exact sx_w0 23 (by omega) (fun y => br_f (by decide) (h1 ⟨by omega, fun z => by omega, fun _ _ => x, fun _ z => by omega, fun _ => y⟩)) (fun z => br_t rfl (h0 (fun y => z (y.2.2.2.2 (Or.inl rfl)))))
      · refine br_f (by decide) (br_f (by decide) (br_f (by decide) (br_f (by decide) (br_f (by decide) (br_f (by decide) (br_f (by decide) (br_f (by decide) (br_f (by decide) (br_t rfl ?_)))))))))
        exact sx_w0 23 (by omega) (fun y => ⟨sd_n1, h1 ⟨by omega, fun z => by omega, fun _ z => by omega, fun _ z => by omega, fun _ => y⟩⟩) (fun z => ⟨sd_n0, h0 (fun y => z (y.2.2.2.2 (Or.inr rfl)))⟩)
end
section
/-! SD 15: the calls that write -/
def sd_bt (lo hi : Nat) (v : Int32) : Prop := ∃ r : Nat, lo ≤ r ∧ r ≤ hi ∧ v = nI r
theorem sd_bt_i {lo hi : Nat} {v : Int32} (h : hi < 2 ^ 31) (hl : lo < 2 ^ 31) : sd_bt lo hi v ↔ nI lo ≤ v ∧ v ≤ nI hi := by
  constructor
  · rintro ⟨r, h1, h2, rfl⟩
    exact ⟨nI_le h1 (by omega), nI_le h2 h⟩
  · rintro ⟨h1, h2⟩
    have h0 : ¬ v < 0 := Int32.not_lt.mpr (Int32.le_trans (nI_pos' hl) h1)
    obtain ⟨j, hj, rfl⟩ := nI_of h0
    exact ⟨j, (nI_leI hl hj).mp h1, (nI_leI hj h).mp h2, rfl⟩
theorem sx_wb {post : Int32 → Prop} {v : Int32} (lo hi : Nat) (h : hi < 2 ^ 31) (hl : lo < 2 ^ 31) (h1 : sd_bt lo hi v → post 1) (h0 : ¬ sd_bt lo hi v → post 0) : wpX_within post v (nI lo) (nI hi) :=
  sx_w (fun a b => h1 ((sd_bt_i h hl).mpr ⟨a, b⟩)) (fun z => h0 (fun y => z ((sd_bt_i h hl).mp y)))
theorem sy_wb {A B : Prop} {v : Int32} (lo hi : Nat) (h : hi < 2 ^ 31) (hl : lo < 2 ^ 31) (h1 : sd_bt lo hi v → A) (h0 : ¬ sd_bt lo hi v → B) : (v < nI lo → B) ∧ (¬ v < nI lo → ((nI hi < v → B) ∧ (¬ nI hi < v → A))) :=
  ⟨fun a => h0 (fun z => Int32.not_lt.mpr ((sd_bt_i h hl).mp z).1 a), fun a => ⟨fun b => h0 (fun z => Int32.not_lt.mpr ((sd_bt_i h hl).mp z).2 b), fun b => h1 ((sd_bt_i h hl).mpr ⟨Int32.not_lt.mp a, Int32.not_lt.mp b⟩)⟩⟩
theorem sy_wb2 {A B : Prop} {v : Int32} (lo hi : Nat) (h : hi < 2 ^ 31) (hl : lo < 2 ^ 31) (h1 : sd_bt lo hi v → A) (h0 : ¬ sd_bt lo hi v → B) : (v < nI lo → B) ∧ (¬ v < nI lo → ((v ≤ nI hi → A) ∧ (¬ v ≤ nI hi → B))) :=
  ⟨fun a => h0 (fun z => Int32.not_lt.mpr ((sd_bt_i h hl).mp z).1 a), fun a => ⟨fun b => h1 ((sd_bt_i h hl).mpr ⟨Int32.not_lt.mp a, b⟩), fun b => h0 (fun z => b ((sd_bt_i h hl).mp z).2)⟩⟩
section SDC15
variable {len ss ft bt dn lw od nc li la fe : Int32} {oo dd aa bb rg wd uc lt rc ls rw rr uw br st nu kd tg fs sc bk is rd ac ry wr un pk : Nat → Int32}
theorem sy_77 {post : Int32 → SY → Prop} {n : Nat} {d a b : Int32} (hn : n ≤ 10) (h1 : (n = 8 ∨ n = 9 → sd_lt 24 b) → wY_add_101 post (nI n) d a b len ss ft bt fe dn oo dd aa bb rg wd uc lt nu kd tg fs sc bk is rd ac ry wr un pk ls) (h0 : ¬ (n = 8 ∨ n = 9 → sd_lt 24 b) → post (-1) (len, ss, ft, bt, fe, dn, oo, dd, aa, bb, rg, wd, uc, lt, nu, kd, tg, fs, sc, bk, is, rd, ac, ry, wr, un, pk, ls)) : wY_add_77 post (nI n) d a b len ss ft bt fe dn oo dd aa bb rg wd uc lt nu kd tg fs sc bk is rd ac ry wr un pk ls := by
  have k89 : (n = 8 ∨ n = 9) → wY_add_89 post (nI n) d a b len ss ft bt fe dn oo dd aa bb rg wd uc lt nu kd tg fs sc bk is rd ac ry wr un pk ls := by
    intro g
    unfold wY_add_89
    exact sy_w 24 (by omega) (fun z => br_f (by decide) (h1 (fun _ => z))) (fun z => br_t rfl (h0 (fun y => z (y g))))
  exact pk_eq n 8 (fun e => k89 (Or.inl e)) (fun e => pk_eq n 9 (fun e2 => k89 (Or.inr e2)) (fun e2 => h1 (fun z => absurd z (by omega))))
theorem sy_62a {post : Int32 → SY → Prop} {n : Nat} {d a b z : Int32} (hn : n ≤ 10) (hz : (0 < n ∧ n < 6 ∧ z = 1) ∨ (¬ (0 < n ∧ n < 6) ∧ z = 0)) (h1 : (0 < n → n < 6 → sd_lt 8 b) → (n = 8 ∨ n = 9 → sd_lt 24 b) → wY_add_101 post (nI n) d a b len ss ft bt fe dn oo dd aa bb rg wd uc lt nu kd tg fs sc bk is rd ac ry wr un pk ls) (h0 : ¬ ((0 < n → n < 6 → sd_lt 8 b) ∧ (n = 8 ∨ n = 9 → sd_lt 24 b)) → post (-1) (len, ss, ft, bt, fe, dn, oo, dd, aa, bb, rg, wd, uc, lt, nu, kd, tg, fs, sc, bk, is, rd, ac, ry, wr, un, pk, ls)) : wY_add_62 post (nI n) d a b z len ss ft bt fe dn oo dd aa bb rg wd uc lt nu kd tg fs sc bk is rd ac ry wr un pk ls := by
  rcases hz with ⟨g1, g2, rfl⟩ | ⟨g, rfl⟩
  · refine br_f (by decide) ?_
    exact sy_w 8 (by omega) (fun z => br_f (by decide) (sy_77 hn (fun y => h1 (fun _ _ => z) y) (fun y => h0 (fun x => y x.2)))) (fun z => br_t rfl (h0 (fun y => z (y.1 g1 g2))))
  · exact br_t rfl (sy_77 hn (fun y => h1 (fun u v => absurd ⟨u, v⟩ g) y) (fun y => h0 (fun x => y x.2)))
theorem sy_43 {post : Int32 → SY → Prop} {n : Nat} {d a b z : Int32} (hn : n ≤ 10) (hz : (0 < n ∧ n < 6 ∧ z = 1) ∨ (¬ (0 < n ∧ n < 6) ∧ z = 0)) (h1 : (0 < n → n < 9 → sd_lt 8 a) → (0 < n → n < 6 → sd_lt 8 b) → (n = 8 ∨ n = 9 → sd_lt 24 b) → wY_add_101 post (nI n) d a b len ss ft bt fe dn oo dd aa bb rg wd uc lt nu kd tg fs sc bk is rd ac ry wr un pk ls) (h0 : ¬ ((0 < n → n < 9 → sd_lt 8 a) ∧ (0 < n → n < 6 → sd_lt 8 b) ∧ (n = 8 ∨ n = 9 → sd_lt 24 b)) → post (-1) (len, ss, ft, bt, fe, dn, oo, dd, aa, bb, rg, wd, uc, lt, nu, kd, tg, fs, sc, bk, is, rd, ac, ry, wr, un, pk, ls)) : wY_add_43 post (nI n) d a b z len ss ft bt fe dn oo dd aa bb rg wd uc lt nu kd tg fs sc bk is rd ac ry wr un pk ls := by
  have k62 : (0 < n → n < 9 → sd_lt 8 a) → wY_add_62 post (nI n) d a b z len ss ft bt fe dn oo dd aa bb rg wd uc lt nu kd tg fs sc bk is rd ac ry wr un pk ls := fun g => sy_62a hn hz (h1 g) (fun y => h0 (fun x => y x.2))
  refine pk_le n 0 (fun e => k62 (fun u => absurd u (by omega))) (fun e => pk_le 9 n (fun e2 => k62 (fun _ u => absurd u (by omega))) (fun e2 => ?_))
  exact sy_w 8 (by omega) (fun z => br_f (by decide) (k62 (fun _ _ => z))) (fun z => br_t rfl (h0 (fun y => z (y.1 (by omega) (by omega)))))
theorem sy_26 {post : Int32 → SY → Prop} {n : Nat} {d a b z : Int32} (hn : n ≤ 10) (hz : (0 < n ∧ n < 6 ∧ z = 1) ∨ (¬ (0 < n ∧ n < 6) ∧ z = 0)) (h1 : sd_wf (nI n) d a b → wY_add_101 post (nI n) d a b len ss ft bt fe dn oo dd aa bb rg wd uc lt nu kd tg fs sc bk is rd ac ry wr un pk ls) (h0 : ¬ sd_wf (nI n) d a b → post (-1) (len, ss, ft, bt, fe, dn, oo, dd, aa, bb, rg, wd, uc, lt, nu, kd, tg, fs, sc, bk, is, rd, ac, ry, wr, un, pk, ls)) : wY_add_26 post (nI n) d a b z len ss ft bt fe dn oo dd aa bb rg wd uc lt nu kd tg fs sc bk is rd ac ry wr un pk ls := by
  rw [sd_wf_n (by omega)] at h1 h0
  have k43 : (n < 8 → sd_lt 8 d) → wY_add_43 post (nI n) d a b z len ss ft bt fe dn oo dd aa bb rg wd uc lt nu kd tg fs sc bk is rd ac ry wr un pk ls := fun g => sy_43 hn hz (fun x y z => h1 ⟨hn, g, x, y, z⟩) (fun y => h0 (fun x => y x.2.2))
  refine pk_le 8 n (fun e => k43 (fun u => absurd u (by omega))) (fun e => ?_)
  exact sy_w 8 (by omega) (fun z => br_f (by decide) (k43 (fun _ => z))) (fun z => br_t rfl (h0 (fun y => z (y.2.1 (by omega)))))
theorem sy_add {post : Int32 → SY → Prop} {op d a b : Int32} (h1 : sd_wf op d a b → wY_add_101 post op d a b len ss ft bt fe dn oo dd aa bb rg wd uc lt nu kd tg fs sc bk is rd ac ry wr un pk ls) (h0 : ¬ sd_wf op d a b → post (-1) (len, ss, ft, bt, fe, dn, oo, dd, aa, bb, rg, wd, uc, lt, nu, kd, tg, fs, sc, bk, is, rd, ac, ry, wr, un, pk, ls)) : wpY_add post (len, ss, ft, bt, fe, dn, oo, dd, aa, bb, rg, wd, uc, lt, nu, kd, tg, fs, sc, bk, is, rd, ac, ry, wr, un, pk, ls) op d a b := by
  unfold wpY_add
  dsimp only
  refine sy_w 11 (by omega) (fun g => br_f (by decide) ?_) (fun g => br_t rfl (h0 (fun z => g (sd_wf_r z))))
  obtain ⟨n, hn, rfl⟩ := g
  refine pk_le n 0 (fun e => ?_) (fun e => pk_le 6 n (fun e2 => ?_) (fun e2 => ?_))
  · unfold wY_add_25
    exact sy_26 (by omega) (Or.inr ⟨by omega, rfl⟩) h1 h0
  · unfold wY_add_25
    exact sy_26 (by omega) (Or.inr ⟨by omega, rfl⟩) h1 h0
  · exact sy_26 (by omega) (Or.inl ⟨by omega, by omega, rfl⟩) h1 h0
theorem sd_C_add {L S F t : Nat} {op d a b : Int32} (C : sd_C L S F t oo dd aa bb uc lt) (hL : L < 24) (h : sd_wf op d a b) : sd_C (L + 1) S F t (upd oo L op) (upd dd L d) (upd aa L a) (upd bb L b) uc lt := by
  refine ⟨by omega, fun i hi => ?_, C.2.2⟩
  by_cases e : i = L
  · subst e
    rw [pk_us, pk_us, pk_us, pk_us]
    exact h
  · rw [pk_un e, pk_un e, pk_un e, pk_un e]
    exact C.2.1 i (by omega)
theorem sd_mk {n L S F t k : Nat} (C : sd_C L S F t oo dd aa bb uc lt) (hk : k ≤ 60) (ok : sd_ok wr k 2000) (R : sd_rec k rc nu is rd ry wr un kd) : i_Rel n (nI L, nI S, nI F, nI t, nI k, nI (sd_LW wr k), od, nc, li, la, oo, dd, aa, bb, rg, wd, uc, lt, rc, ls, rw, rr, uw, br, st) (nI L, nI S, nI F, nI t, fe, nI k, oo, dd, aa, bb, rg, wd, uc, lt, nu, kd, tg, fs, sc, bk, is, rd, ac, ry, wr, un, pk, ls) :=
  ⟨L, S, F, t, k, od, nc, li, la, fe, oo, dd, aa, bb, rg, wd, uc, lt, rc, ls, rw, rr, uw, br, st, nu, kd, tg, fs, sc, bk, is, rd, ac, ry, wr, un, pk, rfl, rfl, C, hk, ok, R⟩
end SDC15
theorem i_vc_add {k : Nat} {u : SX} {v : SY} (I : i_Rel k u v) (hk : k + 5 ≤ 2560) (v1 : Int32) (v2 : Int32) (v3 : Int32) (v4 : Int32) : wpX_add (fun r u' => wpY_add (fun r' v' => r' = r ∧ i_Rel (k + 5) u' v') v v1 v2 v3 v4) u v1 v2 v3 v4 := by
  obtain ⟨L, S, F, t, k0, od, nc, li, la, fe, oo, dd, aa, bb, rg, wd, uc, lt, rc, ls, rw, rr, uw, br, st, nu, kd, tg, fs, sc, bk, is, rd, ac, ry, wr, un, pk, rfl, rfl, C, hk0, ok, R⟩ := I
  have hL := C.1
  have cL : (nI L).toNatClampNeg = L := nI_clamp (by omega)
  unfold wpX_add
  dsimp only
  refine sx_wellF (fun g => br_f (by decide) ?_) (fun g => br_t rfl (sy_add (fun z => absurd z g) (fun _ => ⟨rfl, sd_mk C hk0 ok R⟩)))
  refine pk_lt L 24 (fun e => ?_) (fun e => ?_)
  · have w : vp_in (nI L) 24 := vp_in_nI e (by omega)
    refine ⟨w, nm_r (congrArg (fun z => upd oo z v1) cL) ⟨w, nm_r (congrArg (fun z => upd dd z v2) cL) ⟨w, nm_r (congrArg (fun z => upd aa z v3) cL) ⟨w, nm_r (congrArg (fun z => upd bb z v4) cL) (nm_r (nI_1 L) ?_)⟩⟩⟩⟩
    refine sy_add (fun _ => ?_) (fun z => absurd g z)
    refine pk_eq L 24 (fun e2 => absurd e2 (by omega)) (fun _ => ⟨w, nm_r (congrArg (fun z => upd oo z v1) cL) ⟨w, nm_r (congrArg (fun z => upd dd z v2) cL) ⟨w, nm_r (congrArg (fun z => upd aa z v3) cL) ⟨w, nm_r (congrArg (fun z => upd bb z v4) cL) (nm_r (nI_1 L) ?_)⟩⟩⟩⟩)
    exact ⟨rfl, sd_mk (sd_C_add C e g) hk0 ok R⟩
  · refine sy_add (fun _ => ?_) (fun z => absurd g z)
    exact pk_eq L 24 (fun _ => ⟨rfl, sd_mk C hk0 ok R⟩) (fun e2 => absurd e2 (by omega))
theorem i_vc_clear {k : Nat} {u : SX} {v : SY} (I : i_Rel k u v) (hk : k + 5 ≤ 2560) : wpX_clear (fun r u' => wpY_clear (fun r' v' => r' = r ∧ i_Rel (k + 5) u' v') v) u := by
  obtain ⟨L, S, F, t, k0, od, nc, li, la, fe, oo, dd, aa, bb, rg, wd, uc, lt, rc, ls, rw, rr, uw, br, st, nu, kd, tg, fs, sc, bk, is, rd, ac, ry, wr, un, pk, rfl, rfl, C, hk0, ok, R⟩ := I
  exact ⟨rfl, sd_mk (L := 0) ⟨by omega, fun i hi => absurd hi (Nat.not_lt_zero i), C.2.2⟩ hk0 ok R⟩
theorem i_vc_units {k : Nat} {u : SX} {v : SY} (I : i_Rel k u v) (hk : k + 5 ≤ 2560) (v1 : Int32) (v2 : Int32) (v3 : Int32) : wpX_units (fun r u' => wpY_units (fun r' v' => r' = r ∧ i_Rel (k + 5) u' v') v v1 v2 v3) u v1 v2 v3 := by
  obtain ⟨L, S, F, t, k0, od, nc, li, la, fe, oo, dd, aa, bb, rg, wd, uc, lt, rc, ls, rw, rr, uw, br, st, nu, kd, tg, fs, sc, bk, is, rd, ac, ry, wr, un, pk, rfl, rfl, C, hk0, ok, R⟩ := I
  have fin : ∀ Q : Prop, (sd_lt 6 v1 → sd_bt 1 3 v2 → sd_bt 1 8 v3 → Q) → wpY_units (fun r' v' => (r' = 0 ∧ i_Rel (k + 5) (nI L, nI S, nI F, nI t, nI k0, nI (sd_LW wr k0), od, nc, li, la, oo, dd, aa, bb, rg, wd, uc, lt, rc, ls, rw, rr, uw, br, st) v') ∨ Q) (nI L, nI S, nI F, nI t, fe, nI k0, oo, dd, aa, bb, rg, wd, uc, lt, nu, kd, tg, fs, sc, bk, is, rd, ac, ry, wr, un, pk, ls) v1 v2 v3 := by
    intro Q q
    unfold wpY_units
    dsimp only
    have B : ((0 : Int32) = 0 ∧ i_Rel (k + 5) (nI L, nI S, nI F, nI t, nI k0, nI (sd_LW wr k0), od, nc, li, la, oo, dd, aa, bb, rg, wd, uc, lt, rc, ls, rw, rr, uw, br, st) (nI L, nI S, nI F, nI t, fe, nI k0, oo, dd, aa, bb, rg, wd, uc, lt, nu, kd, tg, fs, sc, bk, is, rd, ac, ry, wr, un, pk, ls)) ∨ Q := Or.inl ⟨rfl, sd_mk C hk0 ok R⟩
    refine sy_w 6 (by omega) (fun g1 => br_f (by decide) (sy_wb 1 3 (by omega) (by omega) (fun g2 => sy_wb2 1 8 (by omega) (by omega) (fun g3 => ?_) (fun _ => B)) (fun _ => B))) (fun _ => br_t rfl B)
    have w : vp_in v1 6 := by
      obtain ⟨q, hq, rfl⟩ := g1
      exact vp_in_nI hq (by omega)
    exact ⟨w, nm_e ⟨w, nm_e (Or.inr (q g1 g2 g3))⟩⟩
  unfold wpX_units
  dsimp only
  have no : ¬ (sd_lt 6 v1 ∧ sd_bt 1 3 v2 ∧ sd_bt 1 8 v3) → wpY_units (fun r' v' => r' = 0 ∧ i_Rel (k + 5) (nI L, nI S, nI F, nI t, nI k0, nI (sd_LW wr k0), od, nc, li, la, oo, dd, aa, bb, rg, wd, uc, lt, rc, ls, rw, rr, uw, br, st) v') (nI L, nI S, nI F, nI t, fe, nI k0, oo, dd, aa, bb, rg, wd, uc, lt, nu, kd, tg, fs, sc, bk, is, rd, ac, ry, wr, un, pk, ls) v1 v2 v3 := by
    intro g
    have h := fin False (fun a b c => g ⟨a, b, c⟩)
    simp only [or_false] at h
    exact h
  refine sx_w0 5 (by omega) (fun g1 => br_f (by decide) ?_) (fun g => br_t rfl (no (fun z => g z.1)))
  refine sx_wb 1 3 (by omega) (by omega) (fun g2 => br_f (by decide) ?_) (fun g => br_t rfl (no (fun z => g z.2.1)))
  refine sx_wb 1 8 (by omega) (by omega) (fun g3 => br_f (by decide) ?_) (fun g => br_t rfl (no (fun z => g z.2.2)))
  obtain ⟨q, hq, rfl⟩ := g1
  have cq : (nI q).toNatClampNeg = q := nI_clamp (by omega)
  refine sx_equip hq ?_
  dsimp only
  unfold wpY_units
  dsimp only
  have w : vp_in (nI q) 6 := vp_in_nI hq (by omega)
  refine sy_w 6 (by omega) (fun _ => br_f (by decide) (sy_wb 1 3 (by omega) (by omega) (fun _ => sy_wb2 1 8 (by omega) (by omega) (fun _ => ?_) (fun z => absurd g3 z)) (fun z => absurd g2 z))) (fun z => absurd ⟨q, hq, rfl⟩ z)
  refine ⟨w, nm_r (congrArg (fun z => upd uc z v2) cq) ⟨w, nm_r (congrArg (fun z => upd lt z v3) cq) ⟨rfl, sd_mk ⟨C.1, C.2.1, fun q' hq' => ?_, C.2.2.2⟩ hk0 ok R⟩⟩⟩
  by_cases e : q' = q
  · subst e
    rw [pk_us, pk_us]
    obtain ⟨m, m1, m2, rfl⟩ := g2
    obtain ⟨l, l1, l2, rfl⟩ := g3
    exact ⟨⟨m - 1, by omega, congrArg nI (by omega)⟩, l, l1, l2, rfl⟩
  · rw [pk_un e, pk_un e]
    exact C.2.2.1 q' hq'
end
section
/-! SD 16: settings, stores, exchange -/
theorem i_vc_fetch {k : Nat} {u : SX} {v : SY} (I : i_Rel k u v) (hk : k + 5 ≤ 2560) (v1 : Int32) (v2 : Int32) : wpX_fetch (fun r u' => wpY_fetch (fun r' v' => r' = r ∧ i_Rel (k + 5) u' v') v v1 v2) u v1 v2 := by
  obtain ⟨L, S, F, t, k0, od, nc, li, la, fe, oo, dd, aa, bb, rg, wd, uc, lt, rc, ls, rw, rr, uw, br, st, nu, kd, tg, fs, sc, bk, is, rd, ac, ry, wr, un, pk, rfl, rfl, C, hk0, ok, R⟩ := I
  unfold wpX_fetch
  dsimp only
  have J := sd_mk (n := k + 5) (od := od) (nc := nc) (li := li) (la := la) (fe := fe) (rg := rg) (wd := wd) (ls := ls) (rw := rw) (rr := rr) (uw := uw) (br := br) (st := st) (tg := tg) (fs := fs) (sc := sc) (bk := bk) (ac := ac) (pk := pk) C hk0 ok R
  refine sx_wb 1 4 (by omega) (by omega) (fun g1 => br_f (by decide) ?_) (fun g => br_t rfl ?_)
  · refine sx_w0 6 (by omega) (fun g2 => br_f (by decide) ?_) (fun g => br_t rfl ?_)
    · unfold wpY_fetch
      dsimp only
      refine sy_wb 1 4 (by omega) (by omega) (fun _ => ?_) (fun z => absurd g1 z)
      refine sy_w 7 (by omega) (fun _ => br_f (by decide) ?_) (fun z => absurd g2 z)
      obtain ⟨a, a1, a2, rfl⟩ := g1
      obtain ⟨b, b1, rfl⟩ := g2
      exact ⟨rfl, sd_mk ⟨C.1, C.2.1, C.2.2.1, a1, a2, by omega, C.2.2.2.2.2.2⟩ hk0 ok R⟩
    · unfold wpY_fetch
      dsimp only
      refine sy_wb 1 4 (by omega) (by omega) (fun _ => ?_) (fun z => absurd g1 z)
      exact sy_w 7 (by omega) (fun z => absurd z g) (fun _ => br_t rfl ⟨rfl, J⟩)
  · unfold wpY_fetch
    dsimp only
    exact sy_wb 1 4 (by omega) (by omega) (fun z => absurd z g) (fun _ => ⟨rfl, J⟩)
theorem i_vc_bank {k : Nat} {u : SX} {v : SY} (I : i_Rel k u v) (hk : k + 5 ≤ 2560) (v1 : Int32) : wpX_bank (fun r u' => wpY_bank (fun r' v' => r' = r ∧ i_Rel (k + 5) u' v') v v1) u v1 := by
  obtain ⟨L, S, F, t, k0, od, nc, li, la, fe, oo, dd, aa, bb, rg, wd, uc, lt, rc, ls, rw, rr, uw, br, st, nu, kd, tg, fs, sc, bk, is, rd, ac, ry, wr, un, pk, rfl, rfl, C, hk0, ok, R⟩ := I
  unfold wpX_bank
  dsimp only
  refine sx_wb 1 8 (by omega) (by omega) (fun g => br_f (by decide) ?_) (fun g => br_t rfl ?_)
  · refine sy_wb2 1 8 (by omega) (by omega) (fun _ => ?_) (fun z => absurd g z)
    obtain ⟨a, a1, a2, rfl⟩ := g
    exact ⟨rfl, sd_mk ⟨C.1, C.2.1, C.2.2.1, C.2.2.2.1, C.2.2.2.2.1, C.2.2.2.2.2.1, a1, a2⟩ hk0 ok R⟩
  · exact sy_wb2 1 8 (by omega) (by omega) (fun z => absurd z g) (fun _ => ⟨rfl, sd_mk C hk0 ok R⟩)
theorem i_vc_poke {k : Nat} {u : SX} {v : SY} (I : i_Rel k u v) (hk : k + 5 ≤ 2560) (v1 : Int32) (v2 : Int32) : wpX_poke (fun r u' => wpY_poke (fun r' v' => r' = r ∧ i_Rel (k + 5) u' v') v v1 v2) u v1 v2 := by
  obtain ⟨L, S, F, t, k0, od, nc, li, la, fe, oo, dd, aa, bb, rg, wd, uc, lt, rc, ls, rw, rr, uw, br, st, nu, kd, tg, fs, sc, bk, is, rd, ac, ry, wr, un, pk, rfl, rfl, C, hk0, ok, R⟩ := I
  unfold wpX_poke
  dsimp only
  refine sx_w0 31 (by omega) (fun g => br_f (by decide) ?_) (fun g => br_t rfl ?_)
  · have w : vp_in v1 32 := by
      obtain ⟨q, hq, rfl⟩ := g
      exact vp_in_nI hq (by omega)
    refine ⟨w, nm_e ?_⟩
    unfold wpY_poke
    dsimp only
    exact sy_w 32 (by omega) (fun _ => br_f (by decide) ⟨w, nm_e ⟨rfl, sd_mk C hk0 ok R⟩⟩) (fun z => absurd g z)
  · unfold wpY_poke
    dsimp only
    exact sy_w 32 (by omega) (fun z => absurd z g) (fun _ => br_t rfl ⟨rfl, sd_mk C hk0 ok R⟩)
theorem i_vc_set {k : Nat} {u : SX} {v : SY} (I : i_Rel k u v) (hk : k + 5 ≤ 2560) (v1 : Int32) (v2 : Int32) : wpX_set (fun r u' => wpY_set (fun r' v' => r' = r ∧ i_Rel (k + 5) u' v') v v1 v2) u v1 v2 := by
  obtain ⟨L, S, F, t, k0, od, nc, li, la, fe, oo, dd, aa, bb, rg, wd, uc, lt, rc, ls, rw, rr, uw, br, st, nu, kd, tg, fs, sc, bk, is, rd, ac, ry, wr, un, pk, rfl, rfl, C, hk0, ok, R⟩ := I
  unfold wpX_set
  dsimp only
  refine sx_reg (fun g => br_f (by decide) ?_) (fun g => br_t rfl ?_)
  · have w : vp_in v1 8 := by
      obtain ⟨q, hq, rfl⟩ := g
      exact vp_in_nI hq (by omega)
    refine ⟨w, nm_e ?_⟩
    unfold wpY_set
    dsimp only
    exact sy_w 8 (by omega) (fun _ => br_f (by decide) ⟨w, nm_e ⟨rfl, sd_mk C hk0 ok R⟩⟩) (fun z => absurd g z)
  · unfold wpY_set
    dsimp only
    exact sy_w 8 (by omega) (fun z => absurd z g) (fun _ => br_t rfl ⟨rfl, sd_mk C hk0 ok R⟩)
section SDE16
variable {len ss ft bt dn lw od nc li la fe : Int32} {oo dd aa bb uc lt rc ls rw rr uw br st nu kd tg fs sc bk is rd ac ry wr un pk : Nat → Int32}
theorem sd_exch {w : Nat} (hw : w ≤ 24) : ∀ (d i : Nat) (rg wd : Nat → Int32), i + d = 8 → ∃ rg' wd' : Nat → Int32, (∀ post : Int32 → SX → Prop, post 1 (len, ss, ft, bt, dn, lw, od, nc, li, la, oo, dd, aa, bb, rg', wd', uc, lt, rc, ls, rw, rr, uw, br, st) → wX_exchange_14 post (nI w) len ss ft bt dn lw od nc li la (d + 1) (nI i) oo dd aa bb rg wd uc lt rc ls rw rr uw br st) ∧ (∀ post : Int32 → SY → Prop, post 1 (len, ss, ft, bt, fe, dn, oo, dd, aa, bb, rg', wd', uc, lt, nu, kd, tg, fs, sc, bk, is, rd, ac, ry, wr, un, pk, ls) → wY_exchange_13 post (nI w) len ss ft bt fe dn (d + 1) (nI i) oo dd aa bb rg wd uc lt nu kd tg fs sc bk is rd ac ry wr un pk ls) := by
  intro d
  induction d with
  | zero =>
    intro i rg wd hi
    have e : i = 8 := by omega
    subst e
    refine ⟨rg, wd, fun post h => ?_, fun post h => ?_⟩
    · rw [wX_exchange_14]
      exact br_t (by decide) h
    · rw [wY_exchange_13]
      exact br_t (by decide) h
  | succ d ih =>
    intro i rg wd hi
    have ci : (nI i).toNatClampNeg = i := nI_clamp (by omega)
    have cw : (nI w + nI i).toNatClampNeg = w + i := sd_ixc (by omega)
    have vw : vp_in (nI w + nI i) 32 := sd_ixv (by omega) (by omega)
    have vi : vp_in (nI i) 8 := vp_in_nI (by omega) (by omega)
    have ni : ¬ (8 : Int32) ≤ nI i := nI_ge (b := 8) (by omega) (by omega)
    obtain ⟨rg', wd', hX, hY⟩ := ih (i + 1) (upd rg i (wd (w + i))) (upd wd (w + i) (rg i)) (by omega)
    refine ⟨rg', wd', fun post h => ?_, fun post h => ?_⟩
    · rw [wX_exchange_14]
      refine br_f ni ⟨vi, nm_r (e' := rg i) (by rw [ci]) ⟨vw, vi, nm_r (e' := upd rg i (wd (w + i))) (by rw [ci, cw]) ⟨vw, nm_r (e' := upd wd (w + i) (rg i)) (by rw [cw]) (nm_r (nI_1 i) (hX post h))⟩⟩⟩
    · rw [wY_exchange_13]
      refine br_f ni ⟨vi, nm_r (e' := rg i) (by rw [ci]) ⟨vw, vi, nm_r (e' := upd rg i (wd (w + i))) (by rw [ci, cw]) ⟨vw, nm_r (e' := upd wd (w + i) (rg i)) (by rw [cw]) (nm_r (nI_1 i) (hY post h))⟩⟩⟩
end SDE16
theorem i_vc_exchange {k : Nat} {u : SX} {v : SY} (I : i_Rel k u v) (hk : k + 5 ≤ 2560) (v1 : Int32) : wpX_exchange (fun r u' => wpY_exchange (fun r' v' => r' = r ∧ i_Rel (k + 5) u' v') v v1) u v1 := by
  obtain ⟨L, S, F, t, k0, od, nc, li, la, fe, oo, dd, aa, bb, rg, wd, uc, lt, rc, ls, rw, rr, uw, br, st, nu, kd, tg, fs, sc, bk, is, rd, ac, ry, wr, un, pk, rfl, rfl, C, hk0, ok, R⟩ := I
  unfold wpX_exchange
  dsimp only
  refine sx_w0 24 (by omega) (fun g => br_f (by decide) ?_) (fun g => br_t rfl ?_)
  · obtain ⟨w, hw, rfl⟩ := g
    obtain ⟨rg', wd', hX, hY⟩ := sd_exch (len := nI L) (ss := nI S) (ft := nI F) (bt := nI t) (dn := nI k0) (lw := nI (sd_LW wr k0)) (od := od) (nc := nc) (li := li) (la := la) (fe := fe) (oo := oo) (dd := dd) (aa := aa) (bb := bb) (uc := uc) (lt := lt) (rc := rc) (ls := ls) (rw := rw) (rr := rr) (uw := uw) (br := br) (st := st) (nu := nu) (kd := kd) (tg := tg) (fs := fs) (sc := sc) (bk := bk) (is := is) (rd := rd) (ac := ac) (ry := ry) (wr := wr) (un := un) (pk := pk) (w := w) (by omega) 8 0 rg wd rfl
    refine ⟨9, hX _ ?_⟩
    unfold wpY_exchange
    dsimp only
    exact sy_w 25 (by omega) (fun _ => br_f (by decide) ⟨9, hY _ ⟨rfl, sd_mk C hk0 ok R⟩⟩) (fun z => absurd ⟨w, hw, rfl⟩ z)
  · unfold wpY_exchange
    dsimp only
    exact sy_w 25 (by omega) (fun z => absurd z g) (fun _ => br_t rfl ⟨rfl, sd_mk C hk0 ok R⟩)
end
section
/-! SD 17: the calls that read -/
theorem sx_wm {Q : Int32 → Prop} {v : Int32} {L : Nat} (hL : L < 2 ^ 31) (q1 : sd_lt L v → Q 1) (q0 : ¬ sd_lt L v → Q 0) : wpX_within Q v 0 (nI L - 1) := by
  cases L with
  | zero =>
    refine sx_w (fun a b => absurd b ?_) (fun _ => q0 (fun z => ?_))
    · have e1 : nI 0 - 1 = (-1 : Int32) := by decide
      rw [e1]
      intro z
      exact Int32.not_lt.mpr a (Int32.lt_of_le_of_lt z (by decide))
    · obtain ⟨r, hr, _⟩ := z
      omega
  | succ l =>
    rw [nI_pred]
    exact sx_w0 l hL q1 q0
theorem i_vc_peek {k : Nat} {u : SX} {v : SY} (I : i_Rel k u v) (hk : k + 5 ≤ 2560) (v1 : Int32) : wpX_peek (fun r => wpY_peek (fun r' => r' = r ∧ i_Rel (k + 5) u v) v v1) u v1 := by
  have J : i_Rel (k + 5) u v := I
  obtain ⟨L, S, F, t, k0, od, nc, li, la, fe, oo, dd, aa, bb, rg, wd, uc, lt, rc, ls, rw, rr, uw, br, st, nu, kd, tg, fs, sc, bk, is, rd, ac, ry, wr, un, pk, rfl, rfl, C, hk0, ok, R⟩ := I
  unfold wpX_peek
  dsimp only
  refine sx_w0 31 (by omega) (fun g => br_f (by decide) ?_) (fun g => br_t rfl ?_)
  · have w : vp_in v1 32 := by
      obtain ⟨q, hq, rfl⟩ := g
      exact vp_in_nI hq (by omega)
    refine ⟨w, ?_⟩
    unfold wpY_peek
    dsimp only
    exact sy_w 32 (by omega) (fun _ => br_f (by decide) ⟨w, rfl, J⟩) (fun z => absurd g z)
  · unfold wpY_peek
    dsimp only
    exact sy_w 32 (by omega) (fun z => absurd z g) (fun _ => br_t rfl ⟨rfl, J⟩)
theorem i_vc_value {k : Nat} {u : SX} {v : SY} (I : i_Rel k u v) (hk : k + 5 ≤ 2560) (v1 : Int32) : wpX_value (fun r => wpY_value (fun r' => r' = r ∧ i_Rel (k + 5) u v) v v1) u v1 := by
  have J : i_Rel (k + 5) u v := I
  obtain ⟨L, S, F, t, k0, od, nc, li, la, fe, oo, dd, aa, bb, rg, wd, uc, lt, rc, ls, rw, rr, uw, br, st, nu, kd, tg, fs, sc, bk, is, rd, ac, ry, wr, un, pk, rfl, rfl, C, hk0, ok, R⟩ := I
  unfold wpX_value
  dsimp only
  refine sx_reg (fun g => br_f (by decide) ?_) (fun g => br_t rfl ?_)
  · have w : vp_in v1 8 := by
      obtain ⟨q, hq, rfl⟩ := g
      exact vp_in_nI hq (by omega)
    refine ⟨w, ?_⟩
    unfold wpY_value
    dsimp only
    exact sy_w 8 (by omega) (fun _ => br_f (by decide) ⟨w, rfl, J⟩) (fun z => absurd g z)
  · unfold wpY_value
    dsimp only
    exact sy_w 8 (by omega) (fun z => absurd z g) (fun _ => br_t rfl ⟨rfl, J⟩)
theorem i_vc_lost {k : Nat} {u : SX} {v : SY} (I : i_Rel k u v) (hk : k + 5 ≤ 2560) (v1 : Int32) : wpX_lost (fun r => wpY_lost (fun r' => r' = r ∧ i_Rel (k + 5) u v) v v1) u v1 := by
  have J : i_Rel (k + 5) u v := I
  obtain ⟨L, S, F, t, k0, od, nc, li, la, fe, oo, dd, aa, bb, rg, wd, uc, lt, rc, ls, rw, rr, uw, br, st, nu, kd, tg, fs, sc, bk, is, rd, ac, ry, wr, un, pk, rfl, rfl, C, hk0, ok, R⟩ := I
  unfold wpX_lost
  dsimp only
  refine sx_w0 6 (by omega) (fun g => br_f (by decide) ?_) (fun g => br_t rfl ?_)
  · have w : vp_in v1 7 := by
      obtain ⟨q, hq, rfl⟩ := g
      exact vp_in_nI hq (by omega)
    refine ⟨w, ?_⟩
    unfold wpY_lost
    dsimp only
    exact sy_w 7 (by omega) (fun _ => br_f (by decide) ⟨w, rfl, J⟩) (fun z => absurd g z)
  · unfold wpY_lost
    dsimp only
    exact sy_w 7 (by omega) (fun z => absurd z g) (fun _ => br_t rfl ⟨rfl, J⟩)
theorem i_vc_done {k : Nat} {u : SX} {v : SY} (I : i_Rel k u v) (hk : k + 5 ≤ 2560) : wpX_done (fun r => wpY_done (fun r' => r' = r ∧ i_Rel (k + 5) u v) v) u := by
  have J : i_Rel (k + 5) u v := I
  obtain ⟨L, S, F, t, k0, od, nc, li, la, fe, oo, dd, aa, bb, rg, wd, uc, lt, rc, ls, rw, rr, uw, br, st, nu, kd, tg, fs, sc, bk, is, rd, ac, ry, wr, un, pk, rfl, rfl, C, hk0, ok, R⟩ := I
  exact ⟨rfl, J⟩
section SDQ17
variable {len ss ft bt dn lw od nc li la fe : Int32} {oo dd aa bb rg wd uc lt rc ls rw rr uw br st nu kd tg fs sc bk is rd ac ry wr un pk : Nat → Int32}
theorem sy_cyc {post : Int32 → Prop} {k B : Nat} (hk : k ≤ 60) (ok : sd_ok wr k B) (hB : B < 100000) (h : post (nI (sd_LW wr k))) : ∀ d j, j + d = k → wY_cycles_4 post len ss ft bt fe (nI k) oo dd aa bb rg wd uc lt nu kd tg fs sc bk is rd ac ry wr un pk ls (d + 1) (nI (sd_LW wr j)) (nI j) := by
  intro d
  induction d with
  | zero =>
    intro j hj
    have e : j = k := by omega
    subst e
    rw [wY_cycles_4]
    exact br_t (nI_le (Nat.le_refl _) (by omega)) h
  | succ d ih =>
    intro j hj
    have cj : (nI j).toNatClampNeg = j := nI_clamp (by omega)
    have vj : vp_in (nI j) 60 := vp_in_nI (by omega) (by omega)
    obtain ⟨ej, bj⟩ := ok j (by omega)
    have bl : sd_LW wr j ≤ B := sd_LW_b (fun i hi => ok i (by omega))
    have t := ih (j + 1) (by omega)
    have e1 : sd_LW wr (j + 1) = max (sd_LW wr j) (sd_c wr j) := sd_mx_t rfl
    rw [e1] at t
    rw [wY_cycles_4]
    refine br_f (nI_ge (by omega) (by omega)) ⟨vj, ?_⟩
    rw [cj]
    refine pk_le (sd_c wr j) (sd_LW wr j) (fun e => nm_r (nI_1 j) ?_) (fun e => ⟨vj, nm_r ej (nm_r (nI_1 j) ?_)⟩) ej rfl
    · rw [Nat.max_eq_left e] at t
      exact t
    · rw [Nat.max_eq_right (by omega)] at t
      exact t
theorem sd_busy {k : Nat} {a b : Int32} (hk : k ≤ 60) (R : sd_rec k rc nu is rd ry wr un kd) : ∀ (d j : Nat) (x : Int32), j + d = k → ∃ r : Int32, (∀ post : Int32 → Prop, post r → wX_busy_16 post a b len ss ft bt (nI k) lw od nc li la oo dd aa bb rg wd uc lt rc ls rw rr uw br st (d + 1) x (nI j)) ∧ (∀ post : Int32 → Prop, post r → wY_busy_16 post a b len ss ft bt fe (nI k) oo dd aa bb rg wd uc lt nu kd tg fs sc bk is rd ac ry wr un pk ls (d + 1) x (nI j)) := by
  intro d
  induction d with
  | zero =>
    intro j x hj
    refine ⟨x, fun post h => ?_, fun post h => ?_⟩
    · rw [wX_busy_16]
      exact br_t (nI_le (by omega) (by omega)) h
    · rw [wY_busy_16]
      exact br_t (nI_le (by omega) (by omega)) h
  | succ d ih =>
    intro j x hj
    have cj : (nI j).toNatClampNeg = j := nI_clamp (by omega)
    have vj : vp_in (nI j) 60 := vp_in_nI (by omega) (by omega)
    have nj : ¬ nI k ≤ nI j := nI_ge (by omega) (by omega)
    have m7 : nI j * 7 = nI (j * 7) := pk_mul j 7
    have c6 : (nI (j * 7) + 6).toNatClampNeg = j * 7 + 6 := sd_ixc (c := 6) (by omega)
    have c1 : (nI (j * 7) + 1).toNatClampNeg = j * 7 + 1 := sd_ixc (c := 1) (by omega)
    have c4 : (nI (j * 7) + 4).toNatClampNeg = j * 7 + 4 := sd_ixc (c := 4) (by omega)
    have v6 : vp_in (nI (j * 7) + 6) 420 := sd_ixv (c := 6) (by omega) (by omega)
    have v1 : vp_in (nI (j * 7) + 1) 420 := sd_ixv (c := 1) (by omega) (by omega)
    have v4 : vp_in (nI (j * 7) + 4) 420 := sd_ixv (c := 4) (by omega) (by omega)
    obtain ⟨_, e1, _, _, e4, _, e6⟩ := R j (by omega)
    by_cases ga : kd j = a
    · by_cases g : is j ≤ b ∧ b ≤ wr j
      · obtain ⟨r, hX, hY⟩ := ih (j + 1) (x + 1) (by omega)
        refine ⟨r, fun post h => ?_, fun post h => ?_⟩
        · rw [wX_busy_16]
          refine br_f nj (nm_r m7 ⟨v6, ?_⟩)
          rw [c6, e6, c1, e1, c4, e4]
          exact br_t ga ⟨v1, v4, sx_w (fun _ _ => br_f (by decide) (nm_e (nm_r (nI_1 j) (hX post h)))) (fun z => absurd g z)⟩
        · rw [wY_busy_16]
          refine br_f nj ⟨vj, ?_⟩
          rw [cj]
          exact br_t ga ⟨vj, br_f (Int32.not_lt.mpr g.1) ⟨vj, br_f (Int32.not_lt.mpr g.2) (nm_e (nm_r (nI_1 j) (hY post h)))⟩⟩
      · obtain ⟨r, hX, hY⟩ := ih (j + 1) x (by omega)
        refine ⟨r, fun post h => ?_, fun post h => ?_⟩
        · rw [wX_busy_16]
          refine br_f nj (nm_r m7 ⟨v6, ?_⟩)
          rw [c6, e6, c1, e1, c4, e4]
          exact br_t ga ⟨v1, v4, sx_w (fun p q => absurd ⟨p, q⟩ g) (fun _ => br_t rfl (nm_r (nI_1 j) (hX post h)))⟩
        · rw [wY_busy_16]
          refine br_f nj ⟨vj, ?_⟩
          rw [cj]
          exact br_t ga ⟨vj, fun _ => nm_r (nI_1 j) (hY post h), fun p => ⟨vj, fun _ => nm_r (nI_1 j) (hY post h), fun q => absurd ⟨Int32.not_lt.mp p, Int32.not_lt.mp q⟩ g⟩⟩
    · obtain ⟨r, hX, hY⟩ := ih (j + 1) x (by omega)
      refine ⟨r, fun post h => ?_, fun post h => ?_⟩
      · rw [wX_busy_16]
        refine br_f nj (nm_r m7 ⟨v6, ?_⟩)
        rw [c6, e6]
        exact br_f ga (nm_r (nI_1 j) (hX post h))
      · rw [wY_busy_16]
        refine br_f nj ⟨vj, ?_⟩
        rw [cj]
        exact br_f ga (nm_r (nI_1 j) (hY post h))
end SDQ17
theorem i_vc_cycles {k : Nat} {u : SX} {v : SY} (I : i_Rel k u v) (hk : k + 5 ≤ 2560) : wpX_cycles (fun r => wpY_cycles (fun r' => r' = r ∧ i_Rel (k + 5) u v) v) u := by
  have J : i_Rel (k + 5) u v := I
  obtain ⟨L, S, F, t, k0, od, nc, li, la, fe, oo, dd, aa, bb, rg, wd, uc, lt, rc, ls, rw, rr, uw, br, st, nu, kd, tg, fs, sc, bk, is, rd, ac, ry, wr, un, pk, rfl, rfl, C, hk0, ok, R⟩ := I
  exact ⟨k0 + 1, sy_cyc hk0 ok (by omega) ⟨rfl, J⟩ k0 0 (Nat.zero_add k0)⟩
theorem i_vc_time {k : Nat} {u : SX} {v : SY} (I : i_Rel k u v) (hk : k + 5 ≤ 2560) (v1 : Int32) (v2 : Int32) : wpX_time (fun r => wpY_time (fun r' => r' = r ∧ i_Rel (k + 5) u v) v v1 v2) u v1 v2 := by
  have J : i_Rel (k + 5) u v := I
  obtain ⟨L, S, F, t, k0, od, nc, li, la, fe, oo, dd, aa, bb, rg, wd, uc, lt, rc, ls, rw, rr, uw, br, st, nu, kd, tg, fs, sc, bk, is, rd, ac, ry, wr, un, pk, rfl, rfl, C, hk0, ok, R⟩ := I
  unfold wpX_time
  dsimp only
  refine sx_wm (by omega) (fun g => br_f (by decide) ?_) (fun g => br_t rfl ?_)
  · refine sx_w0 5 (by omega) (fun g2 => br_f (by decide) ?_) (fun g2 => br_t rfl ?_)
    · have y1 := g
      have y2 := g2
      obtain ⟨j, hj, rfl⟩ := g
      obtain ⟨c, hc, rfl⟩ := g2
      have cj : (nI j).toNatClampNeg = j := nI_clamp (by omega)
      have vj : vp_in (nI j) 60 := vp_in_nI (by omega) (by omega)
      have m7 : nI j * 7 = nI (j * 7) := pk_mul j 7
      obtain ⟨e0, e1, e2, e3, e4, e5, _⟩ := R j hj
      rw [m7, sd_ixc (by omega)]
      refine ⟨sd_ixv (by omega) (by omega), ?_⟩
      unfold wpY_time
      dsimp only
      refine sy_w k0 (by omega) (fun _ => br_f (by decide) ?_) (fun z => absurd y1 z)
      refine sy_w 6 (by omega) (fun _ => br_f (by decide) ?_) (fun z => absurd y2 z)
      rw [cj]
      rcases (by omega : c = 0 ∨ c = 1 ∨ c = 2 ∨ c = 3 ∨ c = 4 ∨ c = 5) with rfl | rfl | rfl | rfl | rfl | rfl
      · exact br_t rfl ⟨vj, e0.symm, J⟩
      · exact br_f (by decide) (br_t rfl ⟨vj, e1.symm, J⟩)
      · exact br_f (by decide) (br_f (by decide) (br_t rfl ⟨vj, e2.symm, J⟩))
      · exact br_f (by decide) (br_f (by decide) (br_f (by decide) (br_t rfl ⟨vj, e3.symm, J⟩)))
      · exact br_f (by decide) (br_f (by decide) (br_f (by decide) (br_f (by decide) (br_t rfl ⟨vj, e4.symm, J⟩))))
      · exact br_f (by decide) (br_f (by decide) (br_f (by decide) (br_f (by decide) (br_f (by decide) ⟨vj, e5.symm, J⟩))))
    · unfold wpY_time
      dsimp only
      refine sy_w k0 (by omega) (fun _ => br_f (by decide) ?_) (fun z => absurd g z)
      exact sy_w 6 (by omega) (fun z => absurd z g2) (fun _ => br_t rfl ⟨rfl, J⟩)
  · unfold wpY_time
    dsimp only
    exact sy_w k0 (by omega) (fun z => absurd z g) (fun _ => br_t rfl ⟨rfl, J⟩)
theorem i_vc_busy {k : Nat} {u : SX} {v : SY} (I : i_Rel k u v) (hk : k + 5 ≤ 2560) (v1 : Int32) (v2 : Int32) : wpX_busy (fun r => wpY_busy (fun r' => r' = r ∧ i_Rel (k + 5) u v) v v1 v2) u v1 v2 := by
  have J : i_Rel (k + 5) u v := I
  obtain ⟨L, S, F, t, k0, od, nc, li, la, fe, oo, dd, aa, bb, rg, wd, uc, lt, rc, ls, rw, rr, uw, br, st, nu, kd, tg, fs, sc, bk, is, rd, ac, ry, wr, un, pk, rfl, rfl, C, hk0, ok, R⟩ := I
  unfold wpX_busy
  dsimp only
  refine sx_w0 5 (by omega) (fun g => br_f (by decide) ?_) (fun g => br_t rfl ?_)
  · obtain ⟨r, hX, hY⟩ := sd_busy (len := nI L) (ss := nI S) (ft := nI F) (bt := nI t) (lw := nI (sd_LW wr k0)) (od := od) (nc := nc) (li := li) (la := la) (fe := fe) (oo := oo) (dd := dd) (aa := aa) (bb := bb) (rg := rg) (wd := wd) (uc := uc) (lt := lt) (ls := ls) (rw := rw) (rr := rr) (uw := uw) (br := br) (st := st) (tg := tg) (fs := fs) (sc := sc) (bk := bk) (ac := ac) (pk := pk) (a := v1) (b := v2) hk0 R k0 0 0 (Nat.zero_add k0)
    refine ⟨k0 + 1, hX _ ?_⟩
    unfold wpY_busy
    dsimp only
    exact sy_w 6 (by omega) (fun _ => br_f (by decide) ⟨k0 + 1, hY _ ⟨rfl, J⟩⟩) (fun z => absurd g z)
  · unfold wpY_busy
    dsimp only
    exact sy_w 6 (by omega) (fun z => absurd z g) (fun _ => br_t rfl ⟨rfl, J⟩)
end
