theorem pk_us {f : Nat → Int32} {k : Nat} {x : Int32} : upd f k x k = x := if_pos rfl
theorem pk_un {f : Nat → Int32} {k j : Nat} {x : Int32} (h : j ≠ k) : upd f k x j = f j := if_neg h
theorem pk_sub {a b : Nat} (h : b ≤ a) : nI a - nI b = nI (a - b) := by
  obtain ⟨c, rfl⟩ : ∃ c, a = c + b := ⟨a - b, by omega⟩
  rw [← nI_add, Int32.add_sub_cancel, Nat.add_sub_cancel]
theorem pk_mul (a b : Nat) : nI a * nI b = nI (a * b) := (Int32.ofNat_mul a b).symm
theorem pk_div {a d : Nat} (ha : a < 2 ^ 31) (h0 : 0 < d) (hd : d < 2 ^ 31) : nI a / nI d = nI (a / d) := by
  apply Int32.toInt_inj.mp
  rw [lg_idiv_nonneg (by rw [nI_toInt ha]; omega) (by rw [nI_toInt hd]; omega), nI_toInt ha, nI_toInt hd, nI_toInt (Nat.lt_of_le_of_lt (Nat.div_le_self a d) ha)]
  first | rfl | exact (Int.natCast_ediv _ _).symm
theorem pk_rem {a d : Nat} (ha : a < 2 ^ 31) (h0 : 0 < d) (hd : d < 2 ^ 31) : nI a - nI a / nI d * nI d = nI (a % d) := by
  rw [pk_div ha h0 hd, pk_mul, pk_sub (Nat.div_mul_le_self a d)]
  exact congrArg nI (by have := Nat.div_add_mod' a d; omega)
theorem pk_le {x y : Int32} {A B : Prop} (a b : Nat) (f : a ≤ b → A) (g : b < a → B) (hx : x = nI a := by rfl) (hy : y = nI b := by rfl) (ha : a < 2 ^ 31 := by omega) (hb : b < 2 ^ 31 := by omega) : (x ≤ y → A) ∧ (¬ x ≤ y → B) := by
  subst hx hy
  rw [nI_leI ha hb]
  exact ⟨f, fun z => g (by omega)⟩
theorem pk_lt {x y : Int32} {A B : Prop} (a b : Nat) (f : a < b → A) (g : b ≤ a → B) (hx : x = nI a := by rfl) (hy : y = nI b := by rfl) (ha : a < 2 ^ 31 := by omega) (hb : b < 2 ^ 31 := by omega) : (x < y → A) ∧ (¬ x < y → B) := by
  subst hx hy
  rw [nI_ltI ha hb]
  exact ⟨f, fun z => g (by omega)⟩
theorem pk_eq {x y : Int32} {A B : Prop} (a b : Nat) (f : a = b → A) (g : a ≠ b → B) (hx : x = nI a := by rfl) (hy : y = nI b := by rfl) (ha : a < 2 ^ 31 := by omega) (hb : b < 2 ^ 31 := by omega) : (x = y → A) ∧ (¬ x = y → B) := by
  subst hx hy
  rw [nI_eq ha hb]
  exact ⟨f, g⟩
theorem pk_in {x : Int32} (n N : Nat) (h : n < N) (hx : x = nI n := by rfl) (hN : N < 2 ^ 31 := by omega) : vp_in x N := by
  subst hx
  exact vp_in_nI h hN
theorem pk_cl {x : Int32} (n : Nat) (hx : x = nI n := by rfl) (h : n < 2 ^ 31 := by omega) : x.toNatClampNeg = n := by
  subst hx
  exact nI_clamp h
theorem pk_tn {n : Nat} (h : n < 2 ^ 32) : (nI n).toBitVec.toNat = n := Nat.mod_eq_of_lt h
theorem pk_and (x : Int32) {m : Int32} (k : Nat) (hm : m.toBitVec.toNat = 2 ^ k - 1) : x &&& m = nI (x.toBitVec.toNat % 2 ^ k) := by
  apply Int32.toBitVec_inj.mp
  apply BitVec.eq_of_toNat_eq
  rw [Int32.toBitVec_and, BitVec.toNat_and, hm, Nat.and_two_pow_sub_one_eq_mod]
  show _ = (BitVec.ofNat 32 _).toNat
  rw [BitVec.toNat_ofNat]
  exact (Nat.mod_eq_of_lt (Nat.lt_of_le_of_lt (Nat.mod_le _ _) x.toBitVec.isLt)).symm
theorem pk_andN {n : Nat} (h : n < 2 ^ 32) {m : Int32} (k : Nat) (hm : m.toBitVec.toNat = 2 ^ k - 1) : nI n &&& m = nI (n % 2 ^ k) := by
  rw [pk_and _ k hm, pk_tn h]
theorem pk_shr (a s : Int32) (k : Nat) (hs : (s.toBitVec.smod 32).toNat = k) : (a >>> s).toInt = a.toInt >>> k := by
  show (a.toBitVec.sshiftRight (s.toBitVec.smod 32).toNat).toInt = _
  rw [hs, BitVec.toInt_sshiftRight]
  rfl
theorem pk_shrN {n : Nat} (h : n < 2 ^ 31) (s : Int32) (k : Nat) (hs : (s.toBitVec.smod 32).toNat = k) : nI n >>> s = nI (n / 2 ^ k) := by
  apply Int32.toInt_inj.mp
  have h2 : n / 2 ^ k ≤ n := Nat.div_le_self _ _
  rw [pk_shr _ _ k hs, nI_toInt h, nI_toInt (by omega), Int.shiftRight_eq_div_pow]
  rfl
/-- the time of point e in plan p -/
def dz_tm (n p e : Int32) : Int32 := if e = n then 0 else (p >>> ((3 * ((n - 1) - e)) &&& 31)) &&& 7
/-- of k cells from j on one is kept -/
def dz_mc (n p : Int32) (L R B : Nat → Int32) : Nat → Nat → Bool
  | 0, _ => false
  | k + 1, j => if B j < dz_tm n p (L j) - dz_tm n p (R j) then dz_mc n p L R B k (j + 1) else true
/-- slot s is met by plan p -/
def dz_ms (n : Int32) (A L R B : Nat → Int32) (p : Int32) (s : Nat) : Bool := dz_mc n p L R B (A s).toNatClampNeg (3 * s)
/-- slot s is w, or met by plan p -/
def dz_g (n : Int32) (A L R B : Nat → Int32) (w p : Int32) (s : Nat) : Bool := decide (nI s = w) || dz_ms n A L R B p s
def dz_b : Bool → Int32
  | true => 1
  | false => 0
def dz_o : Option Nat → Int32
  | none => -1
  | some j => nI j
/-- f holds at k places from s on -/
def dz_al (f : Nat → Bool) : Nat → Nat → Bool
  | 0, _ => true
  | k + 1, s => if f s = true then dz_al f k (s + 1) else false
/-- the first of k places from q on at which f holds -/
def dz_fi (f : Nat → Bool) : Nat → Nat → Option Nat
  | 0, _ => none
  | k + 1, q => if f q = true then some q else dz_fi f k (q + 1)
/-- the place at which f first fails, of k from s on -/
def dz_pf (f : Nat → Bool) : Nat → Nat → Nat
  | 0, s => s
  | k + 1, s => if f s = true then dz_pf f k (s + 1) else s
/-- a fold over k places from q on: m is replaced by g q where t holds -/
def dz_fo (t : Nat → Int32 → Bool) (g : Nat → Int32) : Nat → Nat → Int32 → Int32
  | 0, _, m => m
  | k + 1, q, m => dz_fo t g k (q + 1) (if t q m = true then g q else m)
def dz_mx (h : Nat → Nat) : Nat → Nat → Nat → Nat
  | 0, _, m => m
  | k + 1, q, m => dz_mx h k (q + 1) (if h q ≤ m then m else h q)
theorem dz_al_t {f : Nat → Bool} {k s : Nat} (h : f s = true) : dz_al f (k + 1) s = dz_al f k (s + 1) := if_pos h
theorem dz_al_f {f : Nat → Bool} {k s : Nat} (h : f s = false) : dz_al f (k + 1) s = false := if_neg (by rw [h]; decide)
theorem dz_fi_t {f : Nat → Bool} {k s : Nat} (h : f s = true) : dz_fi f (k + 1) s = some s := if_pos h
theorem dz_fi_f {f : Nat → Bool} {k s : Nat} (h : f s = false) : dz_fi f (k + 1) s = dz_fi f k (s + 1) := if_neg (by rw [h]; decide)
theorem dz_pf_t {f : Nat → Bool} {k s : Nat} (h : f s = true) : dz_pf f (k + 1) s = dz_pf f k (s + 1) := if_pos h
theorem dz_pf_f {f : Nat → Bool} {k s : Nat} (h : f s = false) : dz_pf f (k + 1) s = s := if_neg (by rw [h]; decide)
theorem dz_fo_t {t : Nat → Int32 → Bool} {g : Nat → Int32} {k q : Nat} {m : Int32} (h : t q m = true) : dz_fo t g (k + 1) q m = dz_fo t g k (q + 1) (g q) := congrArg (dz_fo t g k (q + 1)) (if_pos h)
theorem dz_fo_f {t : Nat → Int32 → Bool} {g : Nat → Int32} {k q : Nat} {m : Int32} (h : t q m = false) : dz_fo t g (k + 1) q m = dz_fo t g k (q + 1) m := congrArg (dz_fo t g k (q + 1)) (if_neg (by rw [h]; decide))
theorem dz_m1 {s : Nat} (h : s < 2 ^ 31) : ¬ nI s = -1 := by
  intro e
  have a := congrArg Int32.toInt e
  rw [nI_toInt h, show (-1 : Int32).toInt = -1 from by decide] at a
  omega
theorem dz_gm {n : Int32} {A L R B : Nat → Int32} {p : Int32} {s : Nat} (h : s < 2 ^ 31) : dz_g n A L R B (-1) p s = dz_ms n A L R B p s := by
  unfold dz_g
  rw [decide_eq_false (dz_m1 h), Bool.false_or]
theorem dz_ge {n : Int32} {A L R B : Nat → Int32} {w p : Int32} {s : Nat} (h : nI s = w) : dz_g n A L R B w p s = true := by
  unfold dz_g
  rw [decide_eq_true h, Bool.true_or]
theorem dz_gn {n : Int32} {A L R B : Nat → Int32} {w p : Int32} {s : Nat} (h : ¬ nI s = w) : dz_g n A L R B w p s = dz_ms n A L R B p s := by
  unfold dz_g
  rw [decide_eq_false h, Bool.false_or]
theorem dz_nar (b : Bool) : narrow .boolean (.int (dz_b b)) = .int (dz_b b) := by
  cases b <;> rfl
theorem dz_b1 : ¬ dz_b true = 0 := by decide
theorem dz_b0 : dz_b false = 0 := rfl
/-- a place is found just where there is one -/
theorem dz_fi_is {f : Nat → Bool} : ∀ k q : Nat, (dz_fi f k q).isSome = true ↔ ∃ j, q ≤ j ∧ j < q + k ∧ f j = true := by
  intro k
  induction k with
  | zero =>
    intro q
    constructor
    · intro h; exact absurd h (by simp [dz_fi])
    · rintro ⟨j, h1, h2, _⟩; omega
  | succ k ih =>
    intro q
    cases z : f q
    · rw [dz_fi_f z, ih]
      constructor
      · rintro ⟨j, h1, h2, h3⟩; exact ⟨j, by omega, by omega, h3⟩
      · rintro ⟨j, h1, h2, h3⟩
        by_cases e : j = q
        · rw [e, z] at h3; exact absurd h3 (by decide)
        · exact ⟨j, by omega, by omega, h3⟩
    · rw [dz_fi_t z]
      exact ⟨fun _ => ⟨q, by omega, by omega, z⟩, fun _ => rfl⟩
theorem dz_al_is {f : Nat → Bool} : ∀ k s : Nat, dz_al f k s = true ↔ ∀ j, s ≤ j → j < s + k → f j = true := by
  intro k
  induction k with
  | zero => intro s; exact ⟨fun _ j h1 h2 => by omega, fun _ => rfl⟩
  | succ k ih =>
    intro s
    cases z : f s
    · rw [dz_al_f z]
      exact ⟨fun h => absurd h (by decide), fun h => by rw [h s (by omega) (by omega)] at z; exact absurd z (by decide)⟩
    · rw [dz_al_t z, ih]
      constructor
      · intro h j h1 h2
        by_cases e : j = s
        · rw [e]; exact z
        · exact h j (by omega) (by omega)
      · intro h j h1 h2; exact h j (by omega) (by omega)
theorem dz_pf_is {f : Nat → Bool} : ∀ k s : Nat, s ≤ dz_pf f k s ∧ dz_pf f k s ≤ s + k ∧ (∀ j, s ≤ j → j < dz_pf f k s → f j = true) ∧ (dz_pf f k s < s + k → f (dz_pf f k s) = false) := by
  intro k
  induction k with
  | zero => intro s; exact ⟨Nat.le_refl s, Nat.le_refl s, fun j h1 (h2 : j < s) => by omega, fun (h : s < s + 0) => by omega⟩
  | succ k ih =>
    intro s
    cases z : f s
    · rw [dz_pf_f z]
      exact ⟨by omega, by omega, fun j h1 h2 => by omega, fun _ => z⟩
    · rw [dz_pf_t z]
      obtain ⟨h1, h2, h3, h4⟩ := ih (s + 1)
      refine ⟨by omega, by omega, fun j j1 j2 => ?_, fun h => h4 (by omega)⟩
      by_cases e : j = s
      · rw [e]; exact z
      · exact h3 j (by omega) j2
/-- all of the first m places hold just when the first failing place isn't below m -/
theorem dz_alpf {f : Nat → Bool} {c m : Nat} (hm : m ≤ c) : dz_al f m 0 = true ↔ m ≤ dz_pf f c 0 := by
  obtain ⟨h1, h2, h3, h4⟩ := dz_pf_is (f := f) c 0
  rw [dz_al_is]
  constructor
  · intro h
    rcases Nat.lt_or_ge (dz_pf f c 0) m with z | z
    · have a := h _ (by omega) (by omega : dz_pf f c 0 < 0 + m)
      rw [h4 (by omega)] at a
      exact absurd a (by decide)
    · exact z
  · intro h j j1 j2
    exact h3 j j1 (by omega)
theorem dz_mx_is {h : Nat → Nat} : ∀ k q m : Nat, m ≤ dz_mx h k q m ∧ (∀ j, q ≤ j → j < q + k → h j ≤ dz_mx h k q m) ∧ (dz_mx h k q m = m ∨ ∃ j, q ≤ j ∧ j < q + k ∧ h j = dz_mx h k q m) := by
  intro k
  induction k with
  | zero => intro q m; exact ⟨Nat.le_refl m, fun j j1 j2 => by omega, Or.inl rfl⟩
  | succ k ih =>
    intro q m
    show m ≤ dz_mx h k (q + 1) _ ∧ (∀ j, q ≤ j → j < q + (k + 1) → h j ≤ dz_mx h k (q + 1) _) ∧ (dz_mx h k (q + 1) _ = m ∨ ∃ j, q ≤ j ∧ j < q + (k + 1) ∧ h j = dz_mx h k (q + 1) _)
    obtain ⟨h1, h2, h3⟩ := ih (q + 1) (if h q ≤ m then m else h q)
    have a : m ≤ (if h q ≤ m then m else h q) ∧ h q ≤ (if h q ≤ m then m else h q) ∧ ((if h q ≤ m then m else h q) = m ∨ (if h q ≤ m then m else h q) = h q) := by
      by_cases z : h q ≤ m
      · rw [if_pos z]; exact ⟨Nat.le_refl m, z, Or.inl rfl⟩
      · rw [if_neg z]; exact ⟨by omega, Nat.le_refl _, Or.inr rfl⟩
    obtain ⟨a1, a2, a3⟩ := a
    refine ⟨Nat.le_trans a1 h1, fun j j1 j2 => ?_, ?_⟩
    · by_cases e : j = q
      · rw [e]; exact Nat.le_trans a2 h1
      · exact h2 j (by omega) (by omega)
    · rcases h3 with h3 | ⟨j, j1, j2, j3⟩
      · rcases a3 with a3 | a3
        · exact Or.inl (h3.trans a3)
        · exact Or.inr ⟨q, by omega, by omega, (h3.trans a3).symm⟩
      · exact Or.inr ⟨j, by omega, by omega, j3⟩
/-- places at which f fails may be passed over -/
theorem dz_fi_skip {f : Nat → Bool} {k : Nat} : ∀ a q : Nat, (∀ j, q ≤ j → j < q + a → f j = false) → dz_fi f (a + k) q = dz_fi f k (q + a) := by
  intro a
  induction a with
  | zero => intro q _; rw [Nat.zero_add, Nat.add_zero]
  | succ a ih =>
    intro q h
    rw [show a + 1 + k = (a + k) + 1 from by omega, dz_fi_f (h q (by omega) (by omega)), ih (q + 1) (fun j j1 j2 => h j (by omega) (by omega)), show q + 1 + a = q + (a + 1) from by omega]
theorem dz_fi_c {f g : Nat → Bool} : ∀ k q : Nat, (∀ j, q ≤ j → j < q + k → f j = g j) → dz_fi f k q = dz_fi g k q := by
  intro k
  induction k with
  | zero => intro q _; rfl
  | succ k ih =>
    intro q h
    have e := h q (by omega) (by omega)
    have r := ih (q + 1) (fun j j1 j2 => h j (by omega) (by omega))
    cases z : f q
    · rw [dz_fi_f z, dz_fi_f (e.symm.trans z), r]
    · rw [dz_fi_t z, dz_fi_t (e.symm.trans z)]
theorem dz_fi_lt {f : Nat → Bool} : ∀ k q j : Nat, dz_fi f k q = some j → j < q + k := by
  intro k
  induction k with
  | zero => intro q j h; exact absurd h (by simp [dz_fi])
  | succ k ih =>
    intro q j h
    cases z : f q
    · rw [dz_fi_f z] at h
      have a := ih _ _ h
      omega
    · rw [dz_fi_t z] at h
      have a : q = j := Option.some.inj h
      omega
