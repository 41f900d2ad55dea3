theorem pk_us {f : Nat → Int32} {k : Nat} {x : Int32} : upd f k x k = x := if_pos rfl
theorem pk_un {f : Nat → Int32} {k j : Nat} {x : Int32} (h : j ≠ k) : upd f k x j = f j := if_neg h
theorem pk_sub {a b : Nat} (h : b ≤ a) : nI a - nI b = nI (a - b) := by
  obtain ⟨c, rfl⟩ : ∃ c, a = c + b := ⟨a - b, by omega⟩
  rw [← nI_add, Int32.add_sub_cancel, Nat.add_sub_cancel]
theorem pk_m1 (n : Nat) : nI (n + 1) + (-1) = nI n := by
  rw [← nI_1, Int32.add_assoc, show (1 : Int32) + (-1) = 0 from rfl, Int32.add_zero]
theorem pk_mul (a b : Nat) : nI a * nI b = nI (a * b) := (Int32.ofNat_mul a b).symm
theorem pk_div {a d : Nat} (ha : a < 2 ^ 31) (h0 : 0 < d) (hd : d < 2 ^ 31) : nI a / nI d = nI (a / d) := by
  apply Int32.toInt_inj.mp
  rw [lg_idiv_nonneg (by rw [nI_toInt ha]; omega) (by rw [nI_toInt hd]; omega), nI_toInt ha, nI_toInt hd, nI_toInt (Nat.lt_of_le_of_lt (Nat.div_le_self a d) ha)]
  first | rfl | exact (Int.natCast_ediv _ _).symm
theorem pk_ix (x : Int32) {n : Nat} (hn : n < 2 ^ 31) : x < 0 ∨ nI n ≤ x ∨ ∃ j : Nat, j < n ∧ x = nI j := by
  by_cases h : x < 0
  · exact Or.inl h
  · obtain ⟨j, hj, rfl⟩ := nI_of h
    by_cases h2 : j < n
    · exact Or.inr (Or.inr ⟨j, h2, rfl⟩)
    · exact Or.inr (Or.inl (nI_le (by omega) hj))
theorem pk_le {x y : Int32} {A B : Prop} (a b : Nat) (f : a ≤ b → A) (g : b < a → B) (hx : x = nI a := by rfl) (hy : y = nI b := by rfl) (ha : a < 2 ^ 31 := by omega) (hb : b < 2 ^ 31 := by omega) : (x ≤ y → A) ∧ (¬ x ≤ y → B) := by
  subst hx hy
  rw [nI_leI ha hb]
  exact ⟨f, fun z => g (by omega)⟩
theorem pk_lt {x y : Int32} {A B : Prop} (a b : Nat) (f : a < b → A) (g : b ≤ a → B) (hx : x = nI a := by rfl) (hy : y = nI b := by rfl) (ha : a < 2 ^ 31 := by omega) (hb : b < 2 ^ 31 := by omega) : (x < y → A) ∧ (¬ x < y → B) := by
  subst hx hy
  rw [nI_ltI ha hb]
  exact ⟨f, fun z => g (by omega)⟩
theorem pk_eq {x y : Int32} {A B : Prop} (a b : Nat) (f : a = b → A) (g : a ≠ b → B) (hx : x = nI a := by rfl) (hy : y = nI b := by rfl) (ha : a < 2 ^ 31 := by omega) (hb : b < 2 ^ 31 := by omega) : (x = y → A) ∧ (¬ x = y → B) := by
  subst hx hy
  rw [nI_eq ha hb]
  exact ⟨f, g⟩
theorem pk_in {x : Int32} (n N : Nat) (h : n < N) (hx : x = nI n := by rfl) (hN : N < 2 ^ 31 := by omega) : vp_in x N := by
  subst hx
  exact vp_in_nI h hN
theorem pk_cl {x : Int32} (n : Nat) (hx : x = nI n := by rfl) (h : n < 2 ^ 31 := by omega) : x.toNatClampNeg = n := by
  subst hx
  exact nI_clamp h
theorem pk_tn {n : Nat} (h : n < 2 ^ 32) : (nI n).toBitVec.toNat = n := Nat.mod_eq_of_lt h
theorem pk_and (x : Int32) {m : Int32} (k : Nat) (hm : m.toBitVec.toNat = 2 ^ k - 1) : x &&& m = nI (x.toBitVec.toNat % 2 ^ k) := by
  apply Int32.toBitVec_inj.mp
  apply BitVec.eq_of_toNat_eq
  rw [Int32.toBitVec_and, BitVec.toNat_and, hm, Nat.and_two_pow_sub_one_eq_mod]
  show _ = (BitVec.ofNat 32 _).toNat
  rw [BitVec.toNat_ofNat]
  exact (Nat.mod_eq_of_lt (Nat.lt_of_le_of_lt (Nat.mod_le _ _) x.toBitVec.isLt)).symm
theorem pk_andN {n : Nat} (h : n < 2 ^ 32) {m : Int32} (k : Nat) (hm : m.toBitVec.toNat = 2 ^ k - 1) : nI n &&& m = nI (n % 2 ^ k) := by
  rw [pk_and _ k hm, pk_tn h]
theorem pk_andE (x : Int32) {m : Int32} (k : Nat) (hm : m.toBitVec.toNat = 2 ^ k - 1) : ∃ j : Nat, j < 2 ^ k ∧ x &&& m = nI j := ⟨_, Nat.mod_lt _ (Nat.two_pow_pos k), pk_and x k hm⟩
theorem pk_andIn (x : Int32) {m : Int32} (k : Nat) (hm : m.toBitVec.toNat = 2 ^ k - 1) (hk : k ≤ 30) : vp_in (x &&& m) (2 ^ k) := by
  obtain ⟨j, hj, e⟩ := pk_andE x k hm
  rw [e]
  exact vp_in_nI hj (Nat.lt_of_le_of_lt (Nat.pow_le_pow_right (by decide) hk) (by decide))
theorem pk_shr (a s : Int32) (k : Nat) (hs : (s.toBitVec.smod 32).toNat = k) : (a >>> s).toInt = a.toInt >>> k := by
  show (a.toBitVec.sshiftRight (s.toBitVec.smod 32).toNat).toInt = _
  rw [hs, BitVec.toInt_sshiftRight]
  rfl
theorem pk_shrN {n : Nat} (h : n < 2 ^ 31) (s : Int32) (k : Nat) (hs : (s.toBitVec.smod 32).toNat = k) : nI n >>> s = nI (n / 2 ^ k) := by
  apply Int32.toInt_inj.mp
  have h2 : n / 2 ^ k ≤ n := Nat.div_le_self _ _
  rw [pk_shr _ _ k hs, nI_toInt h, nI_toInt (by omega), Int.shiftRight_eq_div_pow]
  rfl
theorem pk_least (P : Nat → Prop) (h : ∃ k, P k) : ∃ k, P k ∧ ∀ j, j < k → ¬ P j := by
  obtain ⟨k, hk⟩ := h
  induction k using Nat.strongRecOn with
  | ind k ih =>
    by_cases e : ∃ j, j < k ∧ P j
    · obtain ⟨j, hj, pj⟩ := e
      exact ih j hj pj
    · exact ⟨k, hk, fun j hj pj => e ⟨j, hj, pj⟩⟩
/-! SD: stores and cells -/
theorem sd_uu {f : Nat → Int32} {k : Nat} {x y : Int32} : upd (upd f k x) k y = upd f k y := by
  funext j
  unfold upd
  by_cases h : j = k
  · rw [if_pos h, if_pos h]
  · rw [if_neg h, if_neg h, if_neg h]
theorem sd_uc {f : Nat → Int32} {i j : Nat} {x y : Int32} (h : i ≠ j) : upd (upd f i x) j y = upd (upd f j y) i x := by
  funext q
  unfold upd
  by_cases h1 : q = j
  · have h2 : ¬ q = i := fun e => h (e.symm.trans h1)
    rw [if_pos h1, if_neg h2, if_pos h1]
  · by_cases h2 : q = i
    · rw [if_neg h1, if_pos h2, if_pos h2]
    · rw [if_neg h1, if_neg h2, if_neg h2, if_neg h1]
theorem sd_ui {f : Nat → Int32} {k : Nat} : upd f k (f k) = f := by
  funext j
  unfold upd
  by_cases h : j = k
  · rw [if_pos h, h]
  · rw [if_neg h]
theorem sd_ne1 {a : Nat} (h : a < 2 ^ 31) : ¬ nI a = -1 := by
  intro e
  have := nI_pos (n := a) h
  rw [e] at this
  exact this (by decide)
theorem sd_ne1' {a : Nat} (h : a < 2 ^ 31) : ¬ -1 = nI a := fun e => sd_ne1 h e.symm
def sd_c (a : Nat → Int32) (j : Nat) : Nat := (a j).toNatClampNeg
theorem sd_c_s {a : Nat → Int32} {k n : Nat} (h : n < 2 ^ 31) : sd_c (upd a k (nI n)) k = n := by
  unfold sd_c
  rw [pk_us, nI_clamp h]
theorem sd_c_n {a : Nat → Int32} {k j : Nat} {x : Int32} (h : j ≠ k) : sd_c (upd a k x) j = sd_c a j := by
  unfold sd_c
  rw [pk_un h]
def sd_ok (a : Nat → Int32) (k B : Nat) : Prop := ∀ j, j < k → a j = nI (sd_c a j) ∧ sd_c a j ≤ B
theorem sd_ok_0 {a : Nat → Int32} {B : Nat} : sd_ok a 0 B := fun j hj => absurd hj (Nat.not_lt_zero j)
theorem sd_ok_s {a : Nat → Int32} {k B B' n : Nat} (h : sd_ok a k B) (hB : B ≤ B') (hn : n ≤ B') (hb : B' < 2 ^ 31) : sd_ok (upd a k (nI n)) (k + 1) B' := by
  intro j hj
  by_cases e : j = k
  · subst e
    rw [pk_us, sd_c_s (by omega)]
    exact ⟨rfl, hn⟩
  · rw [pk_un e, sd_c_n e]
    obtain ⟨h1, h2⟩ := h j (by omega)
    exact ⟨h1, by omega⟩
theorem sd_ok_up {a : Nat → Int32} {k B B' : Nat} (h : sd_ok a k B) (hB : B ≤ B') : sd_ok a k B' := fun j hj => ⟨(h j hj).1, Nat.le_trans (h j hj).2 hB⟩
/-! the greatest of some cells -/
def sd_mx (p : Nat → Bool) (f : Nat → Nat) : Nat → Nat
  | 0 => 0
  | k + 1 => if p k = true then max (sd_mx p f k) (f k) else sd_mx p f k
theorem sd_mx_t {p : Nat → Bool} {f : Nat → Nat} {k : Nat} (h : p k = true) : sd_mx p f (k + 1) = max (sd_mx p f k) (f k) := if_pos h
theorem sd_mx_f {p : Nat → Bool} {f : Nat → Nat} {k : Nat} (h : ¬ p k = true) : sd_mx p f (k + 1) = sd_mx p f k := if_neg h
theorem sd_mx_cg {p q : Nat → Bool} {f g : Nat → Nat} : ∀ k : Nat, (∀ j, j < k → p j = q j) → (∀ j, j < k → p j = true → f j = g j) → sd_mx p f k = sd_mx q g k := by
  intro k
  induction k with
  | zero => intro _ _; rfl
  | succ k ih =>
    intro h1 h2
    have e := ih (fun j hj => h1 j (by omega)) (fun j hj => h2 j (by omega))
    by_cases hp : p k = true
    · rw [sd_mx_t hp, sd_mx_t (by rw [← h1 k (by omega)]; exact hp), e, h2 k (by omega) hp]
    · rw [sd_mx_f hp, sd_mx_f (by rw [← h1 k (by omega)]; exact hp), e]
theorem sd_mx_ge {p : Nat → Bool} {f : Nat → Nat} : ∀ k j : Nat, j < k → p j = true → f j ≤ sd_mx p f k := by
  intro k
  induction k with
  | zero => intro j hj _; omega
  | succ k ih =>
    intro j hj hp
    by_cases e : j = k
    · subst e
      rw [sd_mx_t hp]
      omega
    · have := ih j (by omega) hp
      by_cases hk : p k = true
      · rw [sd_mx_t hk]
        omega
      · rw [sd_mx_f hk]
        exact this
theorem sd_mx_le {p : Nat → Bool} {f : Nat → Nat} {b : Nat} : ∀ k : Nat, (∀ j, j < k → p j = true → f j ≤ b) → sd_mx p f k ≤ b := by
  intro k
  induction k with
  | zero => intro _; exact Nat.zero_le b
  | succ k ih =>
    intro h
    have := ih (fun j hj => h j (by omega))
    by_cases hk : p k = true
    · rw [sd_mx_t hk]
      have := h k (by omega) hk
      omega
    · rw [sd_mx_f hk]
      exact this
/-! an optional register: the cycle before which one waits -/
def sd_o (x : Int32) (F : Nat → Nat) : Nat := if x = -1 then 0 else F x.toNatClampNeg + 1
theorem sd_o_n {F : Nat → Nat} : sd_o (-1) F = 0 := if_pos rfl
theorem sd_o_s {F : Nat → Nat} {r : Nat} (h : r < 2 ^ 31) : sd_o (nI r) F = F r + 1 := by
  unfold sd_o
  rw [if_neg (sd_ne1 h), nI_clamp h]
def sd_rg (x : Int32) : Prop := x = -1 ∨ ∃ r : Nat, r < 8 ∧ x = nI r
theorem sd_o_le {F : Nat → Nat} {x : Int32} {b : Nat} (hx : sd_rg x) (h : ∀ r, r < 8 → F r ≤ b) : sd_o x F ≤ b + 1 := by
  rcases hx with rfl | ⟨r, hr, rfl⟩
  · rw [sd_o_n]; omega
  · rw [sd_o_s (by omega)]
    have := h r hr
    omega
def sd_pt (tg : Nat → Int32) (r j : Nat) : Bool := decide (tg j = nI r)
def sd_pn (tg : Nat → Int32) (f s : Int32) (j : Nat) : Bool := decide (¬ tg j = -1) && (decide (tg j = f) || decide (tg j = s))
/-- the latest WRITE to a source: one loop over both sources, or one register each -/
theorem sd_rdE {tg : Nat → Int32} {f s : Int32} {W : Nat → Nat} {k i : Nat} (hf : sd_rg f) (hs : sd_rg s) :
    max (i + 1) (sd_mx (sd_pn tg f s) W k + 1) = max (max (i + 1) (sd_o f (fun r => sd_mx (sd_pt tg r) W k))) (sd_o s (fun r => sd_mx (sd_pt tg r) W k)) := by
  have key : ∀ x, sd_rg x → (x = f ∨ x = s) → sd_o x (fun r => sd_mx (sd_pt tg r) W k) ≤ sd_mx (sd_pn tg f s) W k + 1 := by
    intro x hx hfs
    rcases hx with rfl | ⟨r, hr, rfl⟩
    · rw [sd_o_n]; omega
    · rw [sd_o_s (by omega)]
      apply Nat.succ_le_succ
      apply sd_mx_le
      intro j hj hp
      apply sd_mx_ge k j hj
      have e : tg j = nI r := of_decide_eq_true hp
      unfold sd_pn
      have e1 : ¬ tg j = -1 := by rw [e]; exact sd_ne1 (by omega)
      rcases hfs with h | h
      · have e2 : tg j = f := e.trans h
        simp only [Bool.and_eq_true, Bool.or_eq_true, decide_eq_true_eq]
        exact ⟨e1, Or.inl e2⟩
      · have e2 : tg j = s := e.trans h
        simp only [Bool.and_eq_true, Bool.or_eq_true, decide_eq_true_eq]
        exact ⟨e1, Or.inr e2⟩
  have hF := key f hf (Or.inl rfl)
  have hS := key s hs (Or.inr rfl)
  have hle : sd_mx (sd_pn tg f s) W k + 1 ≤ max (max (i + 1) (sd_o f (fun r => sd_mx (sd_pt tg r) W k))) (sd_o s (fun r => sd_mx (sd_pt tg r) W k)) := by
    have one : ∀ x, sd_rg x → ∀ j, j < k → ¬ tg j = -1 → tg j = x → W j + 1 ≤ sd_o x (fun r => sd_mx (sd_pt tg r) W k) := by
      intro x hx j hj h1 h2
      rcases hx with rfl | ⟨r, hr, rfl⟩
      · exact absurd h2 h1
      · rw [sd_o_s (by omega)]
        apply Nat.succ_le_succ
        exact sd_mx_ge (p := sd_pt tg r) k j hj (decide_eq_true h2)
    have hm : sd_mx (sd_pn tg f s) W k ≤ max (max (i + 1) (sd_o f (fun r => sd_mx (sd_pt tg r) W k))) (sd_o s (fun r => sd_mx (sd_pt tg r) W k)) - 1 := by
      apply sd_mx_le
      intro j hj hp
      simp only [sd_pn, Bool.and_eq_true, Bool.or_eq_true, decide_eq_true_eq] at hp
      obtain ⟨h1, h2⟩ := hp
      rcases h2 with h2 | h2
      · have := one f hf j hj h1 h2
        omega
      · have := one s hs j hj h1 h2
        omega
    omega
  omega
/-! the least of the first cells -/
def sd_mn (F : Nat → Nat) : Nat → Nat
  | 0 => F 0
  | n + 1 => if F (n + 1) < sd_mn F n then F (n + 1) else sd_mn F n
theorem sd_mn_le {F : Nat → Nat} : ∀ n u : Nat, u ≤ n → sd_mn F n ≤ F u := by
  intro n
  induction n with
  | zero => intro u hu; rw [Nat.le_zero.mp hu]; exact Nat.le_refl _
  | succ n ih =>
    intro u hu
    unfold sd_mn
    by_cases e : u = n + 1
    · subst e
      split <;> omega
    · have := ih u (by omega)
      split <;> omega
theorem sd_mn_ex {F : Nat → Nat} : ∀ n : Nat, ∃ u, u ≤ n ∧ F u = sd_mn F n := by
  intro n
  induction n with
  | zero => exact ⟨0, Nat.le_refl _, rfl⟩
  | succ n ih =>
    obtain ⟨u, h1, h2⟩ := ih
    unfold sd_mn
    split
    · exact ⟨n + 1, Nat.le_refl _, rfl⟩
    · exact ⟨u, by omega, h2⟩
/-! the cycles without an ISSUE -/
def sd_ix (nc come dw c : Nat) : Nat := if c < nc then 0 else if c < come then 1 else if c < dw then 2 else 3
def sd_cnt (nc come dw : Nat) : Nat → Nat → (Nat → Int32) → Nat → Int32
  | 0, _, L => L
  | d + 1, c, L => sd_cnt nc come dw d (c + 1) (upd L (sd_ix nc come dw c) (L (sd_ix nc come dw c) + 1))
/-! THE STACK: slots against the list of what was fetched -/
def sd_st (ss fe : Nat) (st pks : Nat → Int32) : Prop := (∀ i, i < fe → fe ≤ i + ss → st (i % ss) = pks i) ∧ (∀ s, fe ≤ s → s < ss → st s = -1)
theorem sd_st_0 {ss : Nat} {st pks : Nat → Int32} (h : ∀ s, s < 4 → st s = -1) (hs : ss ≤ 4) : sd_st ss 0 st pks := ⟨fun i hi _ => absurd hi (Nat.not_lt_zero i), fun s _ h2 => h s (by omega)⟩
theorem sd_st_h {ss fe : Nat} {st pks : Nat → Int32} {w : Nat} (h : sd_st ss fe st pks) (hw : w < 2 ^ 31) : (∃ s, s < ss ∧ st s = nI w) ↔ (∃ i, i < fe ∧ fe ≤ i + ss ∧ pks i = nI w) := by
  constructor
  · rintro ⟨s, hs, e⟩
    by_cases hf : fe ≤ s
    · have := h.2 s hf hs
      rw [e] at this
      exact absurd this (sd_ne1 hw)
    · have hr : (fe - 1 - s) % ss < ss := Nat.mod_lt _ (by omega)
      have hd := Nat.div_add_mod (fe - 1 - s) ss
      have hi : (s + ss * ((fe - 1 - s) / ss)) % ss = s := by rw [Nat.add_mul_mod_self_left, Nat.mod_eq_of_lt hs]
      refine ⟨s + ss * ((fe - 1 - s) / ss), by omega, by omega, ?_⟩
      rw [← h.1 _ (by omega) (by omega), hi]
      exact e
  · rintro ⟨i, h1, h2, h3⟩
    exact ⟨i % ss, Nat.mod_lt _ (by omega), by rw [h.1 i h1 h2]; exact h3⟩
theorem sd_st_u {ss fe : Nat} {st pks : Nat → Int32} {x : Int32} (h : sd_st ss fe st pks) (h1 : 1 ≤ ss) (h4 : ss ≤ 4) : sd_st ss (fe + 1) (upd st (fe % ss) x) (upd pks fe x) := by
  constructor
  · intro i hi hl
    by_cases e : i = fe
    · subst e
      rw [pk_us, pk_us]
    · have hn : i % ss ≠ fe % ss := by
        rcases (by omega : ss = 1 ∨ ss = 2 ∨ ss = 3 ∨ ss = 4) with rfl | rfl | rfl | rfl <;> omega
      rw [pk_un hn, pk_un e]
      exact h.1 i (by omega) (by omega)
  · intro s hs hl
    have hm : fe % ss = fe := Nat.mod_eq_of_lt (by omega)
    rw [hm, pk_un (by omega)]
    exact h.2 s (by omega) hl
theorem sd_md {ss fe : Nat} (h1 : 1 ≤ ss) (h4 : ss ≤ 4) : (fe + 1) % ss = if fe % ss + 1 < ss then fe % ss + 1 else 0 := by
  rcases (by omega : ss = 1 ∨ ss = 2 ∨ ss = 3 ∨ ss = 4) with rfl | rfl | rfl | rfl <;> split <;> omega
