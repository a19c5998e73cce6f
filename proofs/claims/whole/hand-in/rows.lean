section
theorem pk_us {f : Nat → Int32} {k : Nat} {x : Int32} : upd f k x k = x := if_pos rfl
theorem pk_un {f : Nat → Int32} {k j : Nat} {x : Int32} (h : j ≠ k) : upd f k x j = f j := if_neg h
theorem pk_sub {a b : Nat} (h : b ≤ a) : nI a - nI b = nI (a - b) := by
  obtain ⟨c, rfl⟩ : ∃ c, a = c + b := ⟨a - b, by omega⟩
  rw [← nI_add, Int32.add_sub_cancel, Nat.add_sub_cancel]
theorem pk_mul (a b : Nat) : nI a * nI b = nI (a * b) := (Int32.ofNat_mul a b).symm
theorem pk_div {a d : Nat} (ha : a < 2 ^ 31) (h0 : 0 < d) (hd : d < 2 ^ 31) : nI a / nI d = nI (a / d) := by
  apply Int32.toInt_inj.mp
  rw [lg_idiv_nonneg (by rw [nI_toInt ha]; omega) (by rw [nI_toInt hd]; omega), nI_toInt ha, nI_toInt hd, nI_toInt (Nat.lt_of_le_of_lt (Nat.div_le_self a d) ha)]
  first | rfl | exact (Int.natCast_ediv _ _).symm
theorem pk_rem {a d : Nat} (ha : a < 2 ^ 31) (h0 : 0 < d) (hd : d < 2 ^ 31) : nI a - nI a / nI d * nI d = nI (a % d) := by
  rw [pk_div ha h0 hd, pk_mul, pk_sub (Nat.div_mul_le_self a d)]
  exact congrArg nI (by have := Nat.div_add_mod' a d; omega)
theorem pk_le {x y : Int32} {A B : Prop} (a b : Nat) (f : a ≤ b → A) (g : b < a → B) (hx : x = nI a := by rfl) (hy : y = nI b := by rfl) (ha : a < 2 ^ 31 := by omega) (hb : b < 2 ^ 31 := by omega) : (x ≤ y → A) ∧ (¬ x ≤ y → B) := by
  subst hx hy
  rw [nI_leI ha hb]
  exact ⟨f, fun z => g (by omega)⟩
theorem pk_lt {x y : Int32} {A B : Prop} (a b : Nat) (f : a < b → A) (g : b ≤ a → B) (hx : x = nI a := by rfl) (hy : y = nI b := by rfl) (ha : a < 2 ^ 31 := by omega) (hb : b < 2 ^ 31 := by omega) : (x < y → A) ∧ (¬ x < y → B) := by
  subst hx hy
  rw [nI_ltI ha hb]
  exact ⟨f, fun z => g (by omega)⟩
theorem pk_eq {x y : Int32} {A B : Prop} (a b : Nat) (f : a = b → A) (g : a ≠ b → B) (hx : x = nI a := by rfl) (hy : y = nI b := by rfl) (ha : a < 2 ^ 31 := by omega) (hb : b < 2 ^ 31 := by omega) : (x = y → A) ∧ (¬ x = y → B) := by
  subst hx hy
  rw [nI_eq ha hb]
  exact ⟨f, g⟩
theorem pk_in {x : Int32} (n N : Nat) (h : n < N) (hx : x = nI n := by rfl) (hN : N < 2 ^ 31 := by omega) : vp_in x N := by
  subst hx
  exact vp_in_nI h hN
theorem pk_cl {x : Int32} (n : Nat) (hx : x = nI n := by rfl) (h : n < 2 ^ 31 := by omega) : x.toNatClampNeg = n := by
  subst hx
  exact nI_clamp h
theorem pk_tn {n : Nat} (h : n < 2 ^ 32) : (nI n).toBitVec.toNat = n := Nat.mod_eq_of_lt h
theorem pk_and (x : Int32) {m : Int32} (k : Nat) (hm : m.toBitVec.toNat = 2 ^ k - 1) : x &&& m = nI (x.toBitVec.toNat % 2 ^ k) := by
  apply Int32.toBitVec_inj.mp
  apply BitVec.eq_of_toNat_eq
  rw [Int32.toBitVec_and, BitVec.toNat_and, hm, Nat.and_two_pow_sub_one_eq_mod]
  show _ = (BitVec.ofNat 32 _).toNat
  rw [BitVec.toNat_ofNat]
  exact (Nat.mod_eq_of_lt (Nat.lt_of_le_of_lt (Nat.mod_le _ _) x.toBitVec.isLt)).symm
theorem pk_andN {n : Nat} (h : n < 2 ^ 32) {m : Int32} (k : Nat) (hm : m.toBitVec.toNat = 2 ^ k - 1) : nI n &&& m = nI (n % 2 ^ k) := by
  rw [pk_and _ k hm, pk_tn h]
theorem pk_shr (a s : Int32) (k : Nat) (hs : (s.toBitVec.smod 32).toNat = k) : (a >>> s).toInt = a.toInt >>> k := by
  show (a.toBitVec.sshiftRight (s.toBitVec.smod 32).toNat).toInt = _
  rw [hs, BitVec.toInt_sshiftRight]
  rfl
theorem pk_shrN {n : Nat} (h : n < 2 ^ 31) (s : Int32) (k : Nat) (hs : (s.toBitVec.smod 32).toNat = k) : nI n >>> s = nI (n / 2 ^ k) := by
  apply Int32.toInt_inj.mp
  have h2 : n / 2 ^ k ≤ n := Nat.div_le_self _ _
  rw [pk_shr _ _ k hs, nI_toInt h, nI_toInt (by omega), Int.shiftRight_eq_div_pow]
  rfl
/-- the time of point e in plan p -/
def dz_tm (n p e : Int32) : Int32 := if e = n then 0 else (p >>> ((3 * ((n - 1) - e)) &&& 31)) &&& 7
/-- of k cells from j on one is kept -/
def dz_mc (n p : Int32) (L R B : Nat → Int32) : Nat → Nat → Bool
  | 0, _ => false
  | k + 1, j => if B j < dz_tm n p (L j) - dz_tm n p (R j) then dz_mc n p L R B k (j + 1) else true
/-- slot s is met by plan p -/
def dz_ms (n : Int32) (A L R B : Nat → Int32) (p : Int32) (s : Nat) : Bool := dz_mc n p L R B (A s).toNatClampNeg (3 * s)
/-- slot s is w, or met by plan p -/
def dz_g (n : Int32) (A L R B : Nat → Int32) (w p : Int32) (s : Nat) : Bool := decide (nI s = w) || dz_ms n A L R B p s
def dz_b : Bool → Int32
  | true => 1
  | false => 0
def dz_o : Option Nat → Int32
  | none => -1
  | some j => nI j
/-- f holds at k places from s on -/
def dz_al (f : Nat → Bool) : Nat → Nat → Bool
  | 0, _ => true
  | k + 1, s => if f s = true then dz_al f k (s + 1) else false
/-- the first of k places from q on at which f holds -/
def dz_fi (f : Nat → Bool) : Nat → Nat → Option Nat
  | 0, _ => none
  | k + 1, q => if f q = true then some q else dz_fi f k (q + 1)
/-- the place at which f first fails, of k from s on -/
def dz_pf (f : Nat → Bool) : Nat → Nat → Nat
  | 0, s => s
  | k + 1, s => if f s = true then dz_pf f k (s + 1) else s
/-- a fold over k places from q on: m is replaced by g q where t holds -/
def dz_fo (t : Nat → Int32 → Bool) (g : Nat → Int32) : Nat → Nat → Int32 → Int32
  | 0, _, m => m
  | k + 1, q, m => dz_fo t g k (q + 1) (if t q m = true then g q else m)
def dz_mx (h : Nat → Nat) : Nat → Nat → Nat → Nat
  | 0, _, m => m
  | k + 1, q, m => dz_mx h k (q + 1) (if h q ≤ m then m else h q)
theorem dz_al_t {f : Nat → Bool} {k s : Nat} (h : f s = true) : dz_al f (k + 1) s = dz_al f k (s + 1) := if_pos h
theorem dz_al_f {f : Nat → Bool} {k s : Nat} (h : f s = false) : dz_al f (k + 1) s = false := if_neg (by rw [h]; decide)
theorem dz_fi_t {f : Nat → Bool} {k s : Nat} (h : f s = true) : dz_fi f (k + 1) s = some s := if_pos h
theorem dz_fi_f {f : Nat → Bool} {k s : Nat} (h : f s = false) : dz_fi f (k + 1) s = dz_fi f k (s + 1) := if_neg (by rw [h]; decide)
theorem dz_pf_t {f : Nat → Bool} {k s : Nat} (h : f s = true) : dz_pf f (k + 1) s = dz_pf f k (s + 1) := if_pos h
theorem dz_pf_f {f : Nat → Bool} {k s : Nat} (h : f s = false) : dz_pf f (k + 1) s = s := if_neg (by rw [h]; decide)
theorem dz_fo_t {t : Nat → Int32 → Bool} {g : Nat → Int32} {k q : Nat} {m : Int32} (h : t q m = true) : dz_fo t g (k + 1) q m = dz_fo t g k (q + 1) (g q) := congrArg (dz_fo t g k (q + 1)) (if_pos h)
theorem dz_fo_f {t : Nat → Int32 → Bool} {g : Nat → Int32} {k q : Nat} {m : Int32} (h : t q m = false) : dz_fo t g (k + 1) q m = dz_fo t g k (q + 1) m := congrArg (dz_fo t g k (q + 1)) (if_neg (by rw [h]; decide))
theorem dz_m1 {s : Nat} (h : s < 2 ^ 31) : ¬ nI s = -1 := by
  intro e
  have a := congrArg Int32.toInt e
  rw [nI_toInt h, show (-1 : Int32).toInt = -1 from by decide] at a
  omega
theorem dz_gm {n : Int32} {A L R B : Nat → Int32} {p : Int32} {s : Nat} (h : s < 2 ^ 31) : dz_g n A L R B (-1) p s = dz_ms n A L R B p s := by
  unfold dz_g
  rw [decide_eq_false (dz_m1 h), Bool.false_or]
theorem dz_ge {n : Int32} {A L R B : Nat → Int32} {w p : Int32} {s : Nat} (h : nI s = w) : dz_g n A L R B w p s = true := by
  unfold dz_g
  rw [decide_eq_true h, Bool.true_or]
theorem dz_gn {n : Int32} {A L R B : Nat → Int32} {w p : Int32} {s : Nat} (h : ¬ nI s = w) : dz_g n A L R B w p s = dz_ms n A L R B p s := by
  unfold dz_g
  rw [decide_eq_false h, Bool.false_or]
theorem dz_nar (b : Bool) : narrow .boolean (.int (dz_b b)) = .int (dz_b b) := by
  cases b <;> rfl
theorem dz_b1 : ¬ dz_b true = 0 := by decide
theorem dz_b0 : dz_b false = 0 := rfl
/-- a place is found just where there is one -/
theorem dz_fi_is {f : Nat → Bool} : ∀ k q : Nat, (dz_fi f k q).isSome = true ↔ ∃ j, q ≤ j ∧ j < q + k ∧ f j = true := by
  intro k
  induction k with
  | zero =>
    intro q
    constructor
    · intro h; exact absurd h (by simp [dz_fi])
    · rintro ⟨j, h1, h2, _⟩; omega
  | succ k ih =>
    intro q
    cases z : f q
    · rw [dz_fi_f z, ih]
      constructor
      · rintro ⟨j, h1, h2, h3⟩; exact ⟨j, by omega, by omega, h3⟩
      · rintro ⟨j, h1, h2, h3⟩
        by_cases e : j = q
        · rw [e, z] at h3; exact absurd h3 (by decide)
        · exact ⟨j, by omega, by omega, h3⟩
    · rw [dz_fi_t z]
      exact ⟨fun _ => ⟨q, by omega, by omega, z⟩, fun _ => rfl⟩
theorem dz_al_is {f : Nat → Bool} : ∀ k s : Nat, dz_al f k s = true ↔ ∀ j, s ≤ j → j < s + k → f j = true := by
  intro k
  induction k with
  | zero => intro s; exact ⟨fun _ j h1 h2 => by omega, fun _ => rfl⟩
  | succ k ih =>
    intro s
    cases z : f s
    · rw [dz_al_f z]
      exact ⟨fun h => absurd h (by decide), fun h => by rw [h s (by omega) (by omega)] at z; exact absurd z (by decide)⟩
    · rw [dz_al_t z, ih]
      constructor
      · intro h j h1 h2
        by_cases e : j = s
        · rw [e]; exact z
        · exact h j (by omega) (by omega)
      · intro h j h1 h2; exact h j (by omega) (by omega)
theorem dz_pf_is {f : Nat → Bool} : ∀ k s : Nat, s ≤ dz_pf f k s ∧ dz_pf f k s ≤ s + k ∧ (∀ j, s ≤ j → j < dz_pf f k s → f j = true) ∧ (dz_pf f k s < s + k → f (dz_pf f k s) = false) := by
  intro k
  induction k with
  | zero => intro s; exact ⟨Nat.le_refl s, Nat.le_refl s, fun j h1 (h2 : j < s) => by omega, fun (h : s < s + 0) => by omega⟩
  | succ k ih =>
    intro s
    cases z : f s
    · rw [dz_pf_f z]
      exact ⟨by omega, by omega, fun j h1 h2 => by omega, fun _ => z⟩
    · rw [dz_pf_t z]
      obtain ⟨h1, h2, h3, h4⟩ := ih (s + 1)
      refine ⟨by omega, by omega, fun j j1 j2 => ?_, fun h => h4 (by omega)⟩
      by_cases e : j = s
      · rw [e]; exact z
      · exact h3 j (by omega) j2
/-- all of the first m places hold just when the first failing place isn't below m -/
theorem dz_alpf {f : Nat → Bool} {c m : Nat} (hm : m ≤ c) : dz_al f m 0 = true ↔ m ≤ dz_pf f c 0 := by
  obtain ⟨h1, h2, h3, h4⟩ := dz_pf_is (f := f) c 0
  rw [dz_al_is]
  constructor
  · intro h
    rcases Nat.lt_or_ge (dz_pf f c 0) m with z | z
    · have a := h _ (by omega) (by omega : dz_pf f c 0 < 0 + m)
      rw [h4 (by omega)] at a
      exact absurd a (by decide)
    · exact z
  · intro h j j1 j2
    exact h3 j j1 (by omega)
theorem dz_mx_is {h : Nat → Nat} : ∀ k q m : Nat, m ≤ dz_mx h k q m ∧ (∀ j, q ≤ j → j < q + k → h j ≤ dz_mx h k q m) ∧ (dz_mx h k q m = m ∨ ∃ j, q ≤ j ∧ j < q + k ∧ h j = dz_mx h k q m) := by
  intro k
  induction k with
  | zero => intro q m; exact ⟨Nat.le_refl m, fun j j1 j2 => by omega, Or.inl rfl⟩
  | succ k ih =>
    intro q m
    show m ≤ dz_mx h k (q + 1) _ ∧ (∀ j, q ≤ j → j < q + (k + 1) → h j ≤ dz_mx h k (q + 1) _) ∧ (dz_mx h k (q + 1) _ = m ∨ ∃ j, q ≤ j ∧ j < q + (k + 1) ∧ h j = dz_mx h k (q + 1) _)
    obtain ⟨h1, h2, h3⟩ := ih (q + 1) (if h q ≤ m then m else h q)
    have a : m ≤ (if h q ≤ m then m else h q) ∧ h q ≤ (if h q ≤ m then m else h q) ∧ ((if h q ≤ m then m else h q) = m ∨ (if h q ≤ m then m else h q) = h q) := by
      by_cases z : h q ≤ m
      · rw [if_pos z]; exact ⟨Nat.le_refl m, z, Or.inl rfl⟩
      · rw [if_neg z]; exact ⟨by omega, Nat.le_refl _, Or.inr rfl⟩
    obtain ⟨a1, a2, a3⟩ := a
    refine ⟨Nat.le_trans a1 h1, fun j j1 j2 => ?_, ?_⟩
    · by_cases e : j = q
      · rw [e]; exact Nat.le_trans a2 h1
      · exact h2 j (by omega) (by omega)
    · rcases h3 with h3 | ⟨j, j1, j2, j3⟩
      · rcases a3 with a3 | a3
        · exact Or.inl (h3.trans a3)
        · exact Or.inr ⟨q, by omega, by omega, (h3.trans a3).symm⟩
      · exact Or.inr ⟨j, by omega, by omega, j3⟩
/-- places at which f fails may be passed over -/
theorem dz_fi_skip {f : Nat → Bool} {k : Nat} : ∀ a q : Nat, (∀ j, q ≤ j → j < q + a → f j = false) → dz_fi f (a + k) q = dz_fi f k (q + a) := by
  intro a
  induction a with
  | zero => intro q _; rw [Nat.zero_add, Nat.add_zero]
  | succ a ih =>
    intro q h
    rw [show a + 1 + k = (a + k) + 1 from by omega, dz_fi_f (h q (by omega) (by omega)), ih (q + 1) (fun j j1 j2 => h j (by omega) (by omega)), show q + 1 + a = q + (a + 1) from by omega]
theorem dz_fi_c {f g : Nat → Bool} : ∀ k q : Nat, (∀ j, q ≤ j → j < q + k → f j = g j) → dz_fi f k q = dz_fi g k q := by
  intro k
  induction k with
  | zero => intro q _; rfl
  | succ k ih =>
    intro q h
    have e := h q (by omega) (by omega)
    have r := ih (q + 1) (fun j j1 j2 => h j (by omega) (by omega))
    cases z : f q
    · rw [dz_fi_f z, dz_fi_f (e.symm.trans z), r]
    · rw [dz_fi_t z, dz_fi_t (e.symm.trans z)]
theorem dz_fi_lt {f : Nat → Bool} : ∀ k q j : Nat, dz_fi f k q = some j → j < q + k := by
  intro k
  induction k with
  | zero => intro q j h; exact absurd h (by simp [dz_fi])
  | succ k ih =>
    intro q j h
    cases z : f q
    · rw [dz_fi_f z] at h
      have a := ih _ _ h
      omega
    · rw [dz_fi_t z] at h
      have a : q = j := Option.some.inj h
      omega
end
section
section
variable {post : Int32 → Prop} {n P c p : Int32} {A L R B : Nat → Int32}
theorem dz_xtm {e : Int32} (hp : post (dz_tm n p e)) : wpX_timeIn post (n, P, c, A, L, R, B) p e := by
  by_cases z : e = n
  · have a : dz_tm n p e = 0 := if_pos z
    rw [a] at hp
    exact br_t z hp
  · have a : dz_tm n p e = (p >>> ((3 * ((n - 1) - e)) &&& 31)) &&& 7 := if_neg z
    rw [a] at hp
    exact br_f z (nm_e hp)
theorem dz_xms {e : Nat} (he : e ≤ 27) : ∀ k j m : Nat, j + k = e → k < m → post (dz_b (dz_mc n p L R B k j)) → wX_meetsSlot_17 post p (nI e) n P c A L R B m (nI j) := by
  intro k
  induction k with
  | zero =>
    intro j m hj hm hp
    obtain ⟨m, rfl⟩ : ∃ m', m = m' + 1 := ⟨m - 1, by omega⟩
    exact br_t (nI_le (by omega) (by omega)) hp
  | succ k ih =>
    intro j m hj hm hp
    obtain ⟨m, rfl⟩ : ∃ m', m = m' + 1 := ⟨m - 1, by omega⟩
    have hv : vp_in (nI j) 27 := vp_in_nI (by omega) (by omega)
    have hc : (nI j).toNatClampNeg = j := nI_clamp (by omega)
    refine br_f (nI_ge (by omega) (by omega)) ⟨hv, dz_xtm ⟨hv, dz_xtm (nm_e ⟨hv, ?_⟩)⟩⟩
    rw [hc]
    by_cases z : B j < dz_tm n p (L j) - dz_tm n p (R j)
    · rw [dz_mc, if_pos z] at hp
      exact br_t z (nm_r (nI_1 j) (ih (j + 1) m (by omega) (by omega) hp))
    · rw [dz_mc, if_neg z] at hp
      exact br_f z hp
theorem dz_xsl {s : Nat} (hs : s < 9) (hA : ∃ d, d ≤ 3 ∧ A s = nI d) (hp : post (dz_b (dz_ms n A L R B p s))) : wpX_meetsSlot post (n, P, c, A, L, R, B) p (nI s) := by
  obtain ⟨d, hd, e⟩ := hA
  have hc : (nI s).toNatClampNeg = s := nI_clamp (by omega)
  unfold dz_ms at hp
  rw [e, nI_clamp (by omega)] at hp
  refine nm_r (pk_mul 3 s) ⟨vp_in_nI hs (by omega), nm_r (e' := nI (3 * s + d)) ?_ ⟨d + 1, dz_xms (by omega) d (3 * s) (d + 1) rfl (by omega) hp⟩⟩
  rw [hc, e, nI_add]
theorem dz_xis_l {cc : Nat} (hcc : cc ≤ 8) (hA : ∀ s, ∃ d, d ≤ 3 ∧ A s = nI d) : ∀ k s m : Nat, s + k = cc → k < m → post (dz_b (dz_al (dz_g n A L R B (-1) p) k s)) → wX_isSolution_2 post p n P (nI cc) A L R B m (nI s) := by
  intro k
  induction k with
  | zero =>
    intro s m hs hm hp
    obtain ⟨m, rfl⟩ : ∃ m', m = m' + 1 := ⟨m - 1, by omega⟩
    exact br_t (nI_le (by omega) (by omega)) hp
  | succ k ih =>
    intro s m hs hm hp
    obtain ⟨m, rfl⟩ : ∃ m', m = m' + 1 := ⟨m - 1, by omega⟩
    refine br_f (nI_ge (by omega) (by omega)) (dz_xsl (by omega) (hA s) ?_)
    have g : dz_g n A L R B (-1) p s = dz_ms n A L R B p s := dz_gm (by omega)
    cases z : dz_ms n A L R B p s
    · rw [dz_al_f (g.trans z)] at hp
      exact br_t dz_b0 hp
    · rw [dz_al_t (g.trans z)] at hp
      exact br_f dz_b1 (nm_r (nI_1 s) (ih (s + 1) m (by omega) (by omega) hp))
theorem dz_xis {cc : Nat} (hcc : cc ≤ 8) (hA : ∀ s, ∃ d, d ≤ 3 ∧ A s = nI d) (hp : post (dz_b (dz_al (dz_g n A L R B (-1) p) cc 0))) : wpX_isSolution post (n, P, nI cc, A, L, R, B) p :=
  ⟨cc + 1, dz_xis_l hcc hA cc 0 (cc + 1) (by omega) (by omega) hp⟩
theorem dz_xab_l {cc : Nat} {w : Int32} (hcc : cc ≤ 8) (hA : ∀ s, ∃ d, d ≤ 3 ∧ A s = nI d) : ∀ k s m : Nat, s + k = cc → k < m → post (dz_b (dz_al (dz_g n A L R B w p) k s)) → wX_meetsAllBut_2 post p w n P (nI cc) A L R B m (nI s) := by
  intro k
  induction k with
  | zero =>
    intro s m hs hm hp
    obtain ⟨m, rfl⟩ : ∃ m', m = m' + 1 := ⟨m - 1, by omega⟩
    exact br_t (nI_le (by omega) (by omega)) hp
  | succ k ih =>
    intro s m hs hm hp
    obtain ⟨m, rfl⟩ : ∃ m', m = m' + 1 := ⟨m - 1, by omega⟩
    refine br_f (nI_ge (by omega) (by omega)) (br_c (fun hw => ?_) (fun hw => dz_xsl (by omega) (hA s) ?_))
    · rw [dz_al_t (dz_ge hw)] at hp
      exact nm_r (nI_1 s) (ih (s + 1) m (by omega) (by omega) hp)
    · have g : dz_g n A L R B w p s = dz_ms n A L R B p s := dz_gn hw
      cases z : dz_ms n A L R B p s
      · rw [dz_al_f (g.trans z)] at hp
        exact br_t dz_b0 hp
      · rw [dz_al_t (g.trans z)] at hp
        exact br_f dz_b1 (nm_r (nI_1 s) (ih (s + 1) m (by omega) (by omega) hp))
theorem dz_xab {cc : Nat} {w : Int32} (hcc : cc ≤ 8) (hA : ∀ s, ∃ d, d ≤ 3 ∧ A s = nI d) (hp : post (dz_b (dz_al (dz_g n A L R B w p) cc 0))) : wpX_meetsAllBut post (n, P, nI cc, A, L, R, B) p w :=
  ⟨cc + 1, dz_xab_l hcc hA cc 0 (cc + 1) (by omega) (by omega) hp⟩
theorem dz_xpf_l {cc : Nat} (hcc : cc ≤ 8) (hA : ∀ s, ∃ d, d ≤ 3 ∧ A s = nI d) : ∀ k s m : Nat, s + k = cc → k < m → post (nI (dz_pf (dz_g n A L R B (-1) p) k s)) → wX_metFromTheStart_2 post p n P (nI cc) A L R B m (nI s) := by
  intro k
  induction k with
  | zero =>
    intro s m hs hm hp
    obtain ⟨m, rfl⟩ : ∃ m', m = m' + 1 := ⟨m - 1, by omega⟩
    exact br_t (nI_le (by omega) (by omega)) hp
  | succ k ih =>
    intro s m hs hm hp
    obtain ⟨m, rfl⟩ : ∃ m', m = m' + 1 := ⟨m - 1, by omega⟩
    refine br_f (nI_ge (by omega) (by omega)) (dz_xsl (by omega) (hA s) ?_)
    have g : dz_g n A L R B (-1) p s = dz_ms n A L R B p s := dz_gm (by omega)
    cases z : dz_ms n A L R B p s
    · rw [dz_pf_f (g.trans z)] at hp
      exact br_t dz_b0 hp
    · rw [dz_pf_t (g.trans z)] at hp
      exact br_f dz_b1 (nm_r (nI_1 s) (ih (s + 1) m (by omega) (by omega) hp))
theorem dz_xpf {cc : Nat} (hcc : cc ≤ 8) (hA : ∀ s, ∃ d, d ≤ 3 ∧ A s = nI d) (hp : post (nI (dz_pf (dz_g n A L R B (-1) p) cc 0))) : wpX_metFromTheStart post (n, P, nI cc, A, L, R, B) p :=
  ⟨cc + 1, dz_xpf_l hcc hA cc 0 (cc + 1) (by omega) (by omega) hp⟩
/-- plan q meets the first mm constraints -/
def dz_so (n : Int32) (A L R B : Nat → Int32) (mm : Nat) (q : Nat) : Bool := dz_al (dz_g n A L R B (-1) (nI q)) mm 0
theorem dz_xfs_l {cc PP : Nat} (hcc : cc ≤ 8) (hPP : PP ≤ 4096) (hA : ∀ s, ∃ d, d ≤ 3 ∧ A s = nI d) : ∀ k q m : Nat, q + k = PP → k < m → post (dz_o (dz_fi (dz_so n A L R B cc) k q)) → wX_firstSolution_2 post n (nI PP) (nI cc) A L R B m (nI q) := by
  intro k
  induction k with
  | zero =>
    intro q m hq hm hp
    obtain ⟨m, rfl⟩ : ∃ m', m = m' + 1 := ⟨m - 1, by omega⟩
    exact br_t (nI_le (by omega) (by omega)) hp
  | succ k ih =>
    intro q m hq hm hp
    obtain ⟨m, rfl⟩ : ∃ m', m = m' + 1 := ⟨m - 1, by omega⟩
    refine br_f (nI_ge (by omega) (by omega)) (dz_xis hcc hA ?_)
    cases z : dz_al (dz_g n A L R B (-1) (nI q)) cc 0
    · have t : dz_so n A L R B cc q = false := z
      rw [dz_fi_f t] at hp
      exact br_t dz_b0 (nm_r (nI_1 q) (ih (q + 1) m (by omega) (by omega) hp))
    · have t : dz_so n A L R B cc q = true := z
      rw [dz_fi_t t] at hp
      exact br_f dz_b1 hp
theorem dz_xfs {cc PP q : Nat} (hcc : cc ≤ 8) (hPP : PP ≤ 4096) (hA : ∀ s, ∃ d, d ≤ 3 ∧ A s = nI d) (hq : q ≤ PP) (hp : post (dz_o (dz_fi (dz_so n A L R B cc) (PP - q) q))) : wpX_firstSolution post (n, nI PP, nI cc, A, L, R, B) (nI q) :=
  ⟨PP - q + 1, dz_xfs_l hcc hPP hA (PP - q) q (PP - q + 1) (by omega) (by omega) hp⟩
/-- the greatest difference: a plan's gap counts where the plan is a solution and the gap is greater -/
def dz_gt (n : Int32) (A L R B : Nat → Int32) (cc : Nat) (i j : Int32) (q : Nat) (m : Int32) : Bool := dz_al (dz_g n A L R B (-1) (nI q)) cc 0 && !decide (dz_tm n (nI q) i - dz_tm n (nI q) j ≤ m)
theorem dz_xgd_l {cc PP : Nat} {i j : Int32} (hcc : cc ≤ 8) (hPP : PP ≤ 4096) (hA : ∀ s, ∃ d, d ≤ 3 ∧ A s = nI d) : ∀ (k q m : Nat) (b : Int32), q + k = PP → k < m → post (dz_fo (dz_gt n A L R B cc i j) (fun q => dz_tm n (nI q) i - dz_tm n (nI q) j) k q b) → wX_greatestDifference_7 post i j n (nI PP) (nI cc) A L R B m b (nI q) := by
  intro k
  induction k with
  | zero =>
    intro q m b hq hm hp
    obtain ⟨m, rfl⟩ : ∃ m', m = m' + 1 := ⟨m - 1, by omega⟩
    exact br_t (nI_le (by omega) (by omega)) hp
  | succ k ih =>
    intro q m b hq hm hp
    obtain ⟨m, rfl⟩ : ∃ m', m = m' + 1 := ⟨m - 1, by omega⟩
    refine br_f (nI_ge (by omega) (by omega)) (dz_xis hcc hA ?_)
    cases z : dz_al (dz_g n A L R B (-1) (nI q)) cc 0
    · have t : dz_gt n A L R B cc i j q b = false := by unfold dz_gt; rw [z, Bool.false_and]
      rw [dz_fo_f t] at hp
      exact br_t dz_b0 (nm_r (nI_1 q) (ih (q + 1) m b (by omega) (by omega) hp))
    · refine br_f dz_b1 (dz_xtm (dz_xtm (nm_e (br_c (fun h => ?_) (fun h => ?_)))))
      · have t : dz_gt n A L R B cc i j q b = false := by unfold dz_gt; rw [z, decide_eq_true h]; rfl
        rw [dz_fo_f t] at hp
        exact nm_r (nI_1 q) (ih (q + 1) m b (by omega) (by omega) hp)
      · have t : dz_gt n A L R B cc i j q b = true := by unfold dz_gt; rw [z, decide_eq_false h]; rfl
        rw [dz_fo_t t] at hp
        exact nm_r (nI_1 q) (ih (q + 1) m _ (by omega) (by omega) hp)
theorem dz_xgd {cc PP : Nat} {i j : Int32} (hcc : cc ≤ 8) (hPP : PP ≤ 4096) (hA : ∀ s, ∃ d, d ≤ 3 ∧ A s = nI d) (hp : post (dz_fo (dz_gt n A L R B cc i j) (fun q => dz_tm n (nI q) i - dz_tm n (nI q) j) PP 0 (-200))) : wpX_greatestDifference post (n, nI PP, nI cc, A, L, R, B) i j :=
  ⟨PP + 1, dz_xgd_l hcc hPP hA PP 0 (PP + 1) (-200) (by omega) (by omega) hp⟩
/-- the last time of plan p: events e on -/
def dz_lt (n p : Int32) (e : Nat) (m : Int32) : Bool := !decide (dz_tm n p (nI e) ≤ m)
theorem dz_xlt_l {nn : Nat} (hn : nn ≤ 4) : ∀ (k e m : Nat) (b : Int32), e + k = nn → k < m → post (dz_fo (dz_lt (nI nn) p) (fun e => dz_tm (nI nn) p (nI e)) k e b) → wX_lastTime_4 post p (nI nn) P c A L R B m b (nI e) := by
  intro k
  induction k with
  | zero =>
    intro e m b hq hm hp
    obtain ⟨m, rfl⟩ : ∃ m', m = m' + 1 := ⟨m - 1, by omega⟩
    exact br_t (nI_le (by omega) (by omega)) hp
  | succ k ih =>
    intro e m b hq hm hp
    obtain ⟨m, rfl⟩ : ∃ m', m = m' + 1 := ⟨m - 1, by omega⟩
    refine br_f (nI_ge (by omega) (by omega)) (dz_xtm (br_c (fun h => ?_) (fun h => ?_)))
    · have t : dz_lt (nI nn) p e b = false := by unfold dz_lt; rw [decide_eq_true h]; rfl
      rw [dz_fo_f t] at hp
      exact nm_r (nI_1 e) (ih (e + 1) m b (by omega) (by omega) hp)
    · have t : dz_lt (nI nn) p e b = true := by unfold dz_lt; rw [decide_eq_false h]; rfl
      rw [dz_fo_t t] at hp
      exact nm_r (nI_1 e) (ih (e + 1) m _ (by omega) (by omega) hp)
/-- the last time of plan p -/
def dz_la (nn : Nat) (p : Int32) : Int32 := dz_fo (dz_lt (nI nn) p) (fun e => dz_tm (nI nn) p (nI e)) nn 0 0
theorem dz_xlt {nn : Nat} (hn : nn ≤ 4) (hp : post (dz_la nn p)) : wpX_lastTime post (nI nn, P, c, A, L, R, B) p :=
  ⟨nn + 1, dz_xlt_l hn nn 0 (nn + 1) 0 (by omega) (by omega) hp⟩
/-- a solution that ends earlier than m, or the first one -/
def dz_st (nn : Nat) (A L R B : Nat → Int32) (cc : Nat) (q : Nat) (m : Int32) : Bool := dz_al (dz_g (nI nn) A L R B (-1) (nI q)) cc 0 && (decide (m < 0) || !decide (m ≤ dz_la nn (nI q)))
theorem dz_xsh_l {cc PP nn : Nat} (hn : nn ≤ 4) (hcc : cc ≤ 8) (hPP : PP ≤ 4096) (hA : ∀ s, ∃ d, d ≤ 3 ∧ A s = nI d) : ∀ (k q m : Nat) (b : Int32), q + k = PP → k < m → post (dz_fo (dz_st nn A L R B cc) (fun q => dz_la nn (nI q)) k q b) → wX_shortest_4 post (nI nn) (nI PP) (nI cc) A L R B m b (nI q) := by
  intro k
  induction k with
  | zero =>
    intro q m b hq hm hp
    obtain ⟨m, rfl⟩ : ∃ m', m = m' + 1 := ⟨m - 1, by omega⟩
    exact br_t (nI_le (by omega) (by omega)) hp
  | succ k ih =>
    intro q m b hq hm hp
    obtain ⟨m, rfl⟩ : ∃ m', m = m' + 1 := ⟨m - 1, by omega⟩
    refine br_f (nI_ge (by omega) (by omega)) (dz_xis hcc hA ?_)
    cases z : dz_al (dz_g (nI nn) A L R B (-1) (nI q)) cc 0
    · have t : dz_st nn A L R B cc q b = false := by unfold dz_st; rw [z, Bool.false_and]
      rw [dz_fo_f t] at hp
      exact br_t dz_b0 (nm_r (nI_1 q) (ih (q + 1) m b (by omega) (by omega) hp))
    · refine br_f dz_b1 (dz_xlt hn (br_c (fun h => ?_) (fun h => br_c (fun h2 => ?_) (fun h2 => ?_))))
      · have t : dz_st nn A L R B cc q b = true := by unfold dz_st; rw [z, decide_eq_true h]; rfl
        rw [dz_fo_t t] at hp
        exact nm_r (nI_1 q) (ih (q + 1) m _ (by omega) (by omega) hp)
      · have t : dz_st nn A L R B cc q b = false := by unfold dz_st; rw [z, decide_eq_false h, decide_eq_true h2]; rfl
        rw [dz_fo_f t] at hp
        exact nm_r (nI_1 q) (ih (q + 1) m b (by omega) (by omega) hp)
      · have t : dz_st nn A L R B cc q b = true := by unfold dz_st; rw [z, decide_eq_false h, decide_eq_false h2]; rfl
        rw [dz_fo_t t] at hp
        exact nm_r (nI_1 q) (ih (q + 1) m _ (by omega) (by omega) hp)
theorem dz_xsh {cc PP nn : Nat} (hn : nn ≤ 4) (hcc : cc ≤ 8) (hPP : PP ≤ 4096) (hA : ∀ s, ∃ d, d ≤ 3 ∧ A s = nI d) (hp : post (dz_fo (dz_st nn A L R B cc) (fun q => dz_la nn (nI q)) PP 0 (-1))) : wpX_shortest post (nI nn, nI PP, nI cc, A, L, R, B) :=
  ⟨PP + 1, dz_xsh_l hn hcc hPP hA PP 0 (PP + 1) (-1) (by omega) (by omega) hp⟩
/-- plan q is a solution that doesn't meet the draft -/
def dz_et (n : Int32) (A L R B : Nat → Int32) (cc : Nat) (q : Nat) : Bool := dz_al (dz_g n A L R B (-1) (nI q)) cc 0 && !dz_ms n A L R B (nI q) 8
theorem dz_xen_l {cc PP : Nat} (hcc : cc ≤ 8) (hPP : PP ≤ 4096) (hA : ∀ s, ∃ d, d ≤ 3 ∧ A s = nI d) : ∀ k q m : Nat, q + k = PP → k < m → post (dz_b (!(dz_fi (dz_et n A L R B cc) k q).isSome)) → wX_entailed_14 post n (nI PP) (nI cc) A L R B m (nI q) := by
  intro k
  induction k with
  | zero =>
    intro q m hq hm hp
    obtain ⟨m, rfl⟩ : ∃ m', m = m' + 1 := ⟨m - 1, by omega⟩
    exact br_t (nI_le (by omega) (by omega)) hp
  | succ k ih =>
    intro q m hq hm hp
    obtain ⟨m, rfl⟩ : ∃ m', m = m' + 1 := ⟨m - 1, by omega⟩
    refine br_f (nI_ge (by omega) (by omega)) (dz_xis hcc hA ?_)
    cases z : dz_al (dz_g n A L R B (-1) (nI q)) cc 0
    · have t : dz_et n A L R B cc q = false := by unfold dz_et; rw [z, Bool.false_and]
      rw [dz_fi_f t] at hp
      exact br_t dz_b0 (nm_r (nI_1 q) (ih (q + 1) m (by omega) (by omega) hp))
    · refine br_f dz_b1 (dz_xsl (s := 8) (by omega) (hA 8) ?_)
      cases y : dz_ms n A L R B (nI q) 8
      · have t : dz_et n A L R B cc q = true := by unfold dz_et; rw [z, y]; rfl
        rw [dz_fi_t t] at hp
        exact br_t dz_b0 hp
      · have t : dz_et n A L R B cc q = false := by unfold dz_et; rw [z, y]; rfl
        rw [dz_fi_f t] at hp
        exact br_f dz_b1 (nm_r (nI_1 q) (ih (q + 1) m (by omega) (by omega) hp))
/-- plan q doesn't meet slot w, and meets all the others -/
def dz_rt (n : Int32) (A L R B : Nat → Int32) (cc w : Nat) (q : Nat) : Bool := !dz_ms n A L R B (nI q) w && dz_al (dz_g n A L R B (nI w) (nI q)) cc 0
theorem dz_xre_l {cc PP w : Nat} (hw : w < 9) (hcc : cc ≤ 8) (hPP : PP ≤ 4096) (hA : ∀ s, ∃ d, d ≤ 3 ∧ A s = nI d) : ∀ k q m : Nat, q + k = PP → k < m → post (dz_b (!(dz_fi (dz_rt n A L R B cc w) k q).isSome)) → wX_redundant_12 post (nI w) n (nI PP) (nI cc) A L R B m (nI q) := by
  intro k
  induction k with
  | zero =>
    intro q m hq hm hp
    obtain ⟨m, rfl⟩ : ∃ m', m = m' + 1 := ⟨m - 1, by omega⟩
    exact br_t (nI_le (by omega) (by omega)) hp
  | succ k ih =>
    intro q m hq hm hp
    obtain ⟨m, rfl⟩ : ∃ m', m = m' + 1 := ⟨m - 1, by omega⟩
    refine br_f (nI_ge (by omega) (by omega)) (dz_xsl hw (hA w) ?_)
    cases z : dz_ms n A L R B (nI q) w
    · refine br_t dz_b0 (dz_xab hcc hA ?_)
      cases y : dz_al (dz_g n A L R B (nI w) (nI q)) cc 0
      · have t : dz_rt n A L R B cc w q = false := by unfold dz_rt; rw [z, y]; rfl
        rw [dz_fi_f t] at hp
        exact br_t dz_b0 (nm_r (nI_1 q) (ih (q + 1) m (by omega) (by omega) hp))
      · have t : dz_rt n A L R B cc w q = true := by unfold dz_rt; rw [z, y]; rfl
        rw [dz_fi_t t] at hp
        exact br_f dz_b1 hp
    · have t : dz_rt n A L R B cc w q = false := by unfold dz_rt; rw [z]; rfl
      rw [dz_fi_f t] at hp
      exact br_f dz_b1 (nm_r (nI_1 q) (ih (q + 1) m (by omega) (by omega) hp))
/-- how many constraints plan q meets from the first on -/
def dz_ph (n : Int32) (A L R B : Nat → Int32) (cc : Nat) (q : Nat) : Nat := dz_pf (dz_g n A L R B (-1) (nI q)) cc 0
theorem dz_ph_le {cc q : Nat} : dz_ph n A L R B cc q ≤ cc := by
  have h := (dz_pf_is (f := dz_g n A L R B (-1) (nI q)) cc 0).2.1
  unfold dz_ph
  omega
theorem dz_xex_l {cc PP : Nat} (hcc : cc ≤ 8) (hPP : PP ≤ 4096) (hA : ∀ s, ∃ d, d ≤ 3 ∧ A s = nI d) : ∀ k q m b : Nat, q + k = PP → b ≤ cc → k < m → post (nI cc - nI (dz_mx (dz_ph n A L R B cc) k q b)) → wX_excess_4 post n (nI PP) (nI cc) A L R B m (nI b) (nI q) := by
  intro k
  induction k with
  | zero =>
    intro q m b hq hb hm hp
    obtain ⟨m, rfl⟩ : ∃ m', m = m' + 1 := ⟨m - 1, by omega⟩
    exact br_t (nI_le (by omega) (by omega)) hp
  | succ k ih =>
    intro q m b hq hb hm hp
    obtain ⟨m, rfl⟩ : ∃ m', m = m' + 1 := ⟨m - 1, by omega⟩
    have hl : dz_ph n A L R B cc q ≤ cc := dz_ph_le
    refine br_f (nI_ge (by omega) (by omega)) (dz_xpf hcc hA ?_)
    refine pk_le (dz_ph n A L R B cc q) b (fun h => ?_) (fun h => ?_)
    · rw [dz_mx, if_pos h] at hp
      exact nm_r (nI_1 q) (ih (q + 1) m b (by omega) (by omega) (by omega) hp)
    · rw [dz_mx, if_neg (by omega)] at hp
      exact nm_r (nI_1 q) (ih (q + 1) m (dz_ph n A L R B cc q) (by omega) (by omega) (by omega) hp)
theorem dz_xex {cc PP : Nat} (hcc : cc ≤ 8) (hPP : PP ≤ 4096) (hA : ∀ s, ∃ d, d ≤ 3 ∧ A s = nI d) (hp : post (nI cc - nI (dz_mx (dz_ph n A L R B cc) PP 0 0))) : wpX_excess post (n, nI PP, nI cc, A, L, R, B) :=
  ⟨PP + 1, dz_xex_l hcc hPP hA PP 0 (PP + 1) 0 (by omega) (by omega) (by omega) hp⟩
end
end
section
section
variable {post : Int32 → Prop} {n P c dr p : Int32} {A L R B : Nat → Int32}
theorem dz_ytm {e : Int32} (he : e ≤ n) (hp : post (dz_tm n p e)) : wpY_time post (n, P, dr, c, A, L, R, B) p e := by
  by_cases z : e = n
  · have a : dz_tm n p e = 0 := if_pos z
    rw [a] at hp
    exact br_f (by rw [z]; exact Int32.lt_irrefl) hp
  · have a : dz_tm n p e = (p >>> ((3 * ((n - 1) - e)) &&& 31)) &&& 7 := if_neg z
    rw [a] at hp
    refine br_t ?_ hp
    rw [Int32.lt_iff_toInt_lt]
    rw [Int32.le_iff_toInt_le] at he
    rw [← Int32.toInt_inj] at z
    omega
theorem dz_yms {s d : Nat} (hs : s < 9) (hd : d ≤ 3) (hA : A s = nI d) (hL : ∀ j, L j ≤ n) (hR : ∀ j, R j ≤ n) : ∀ k a m : Nat, a + k = d → k < m → post (dz_b (dz_mc n p L R B k (3 * s + a))) → wY_met_2 post (nI s) p n P dr c A L R B m (nI a) := by
  intro k
  induction k with
  | zero =>
    intro a m ha hm hp
    obtain ⟨m, rfl⟩ : ∃ m', m = m' + 1 := ⟨m - 1, by omega⟩
    have hc : (nI s).toNatClampNeg = s := nI_clamp (by omega)
    refine ⟨vp_in_nI hs (by omega), br_t ?_ hp⟩
    rw [hc, hA]
    exact nI_le (by omega) (by omega)
  | succ k ih =>
    intro a m ha hm hp
    obtain ⟨m, rfl⟩ : ∃ m', m = m' + 1 := ⟨m - 1, by omega⟩
    have hc : (nI s).toNatClampNeg = s := nI_clamp (by omega)
    have e : (3 : Int32) * nI s + nI a = nI (3 * s + a) := (congrArg (· + nI a) (pk_mul 3 s)).trans (nI_add (3 * s) a)
    have hj : (nI (3 * s + a)).toNatClampNeg = 3 * s + a := nI_clamp (by omega)
    have hv : vp_in (nI (3 * s + a)) 27 := vp_in_nI (by omega) (by omega)
    refine ⟨vp_in_nI hs (by omega), br_f ?_ (br_f (nI_ge (b := 3) (by omega) (by decide)) ?_)⟩
    · rw [hc, hA]
      exact nI_ge (by omega) (by omega)
    rw [e, hj]
    refine ⟨hv, nm_e ⟨hv, nm_e (dz_ytm (hL _) (dz_ytm (hR _) ⟨hv, ?_⟩))⟩⟩
    by_cases z : B (3 * s + a) < dz_tm n p (L (3 * s + a)) - dz_tm n p (R (3 * s + a))
    · rw [dz_mc, if_pos z] at hp
      exact br_t z (nm_r (nI_1 a) (ih (a + 1) m (by omega) (by omega) hp))
    · rw [dz_mc, if_neg z] at hp
      exact br_f z hp
theorem dz_ysl {s : Nat} (hs : s < 9) (hA : ∃ d, d ≤ 3 ∧ A s = nI d) (hL : ∀ j, L j ≤ n) (hR : ∀ j, R j ≤ n) (hp : post (dz_b (dz_ms n A L R B p s))) : wpY_met post (n, P, dr, c, A, L, R, B) (nI s) p := by
  obtain ⟨d, hd, e⟩ := hA
  unfold dz_ms at hp
  rw [e, nI_clamp (by omega)] at hp
  exact ⟨d + 1, dz_yms hs hd e hL hR d 0 (d + 1) (by omega) (by omega) hp⟩
theorem dz_ymf_l {cc : Nat} {w : Int32} (hcc : cc ≤ 8) (hA : ∀ s, ∃ d, d ≤ 3 ∧ A s = nI d) (hL : ∀ j, L j ≤ n) (hR : ∀ j, R j ≤ n) : ∀ k s m : Nat, s + k = cc → k < m → post (dz_b (dz_al (dz_g n A L R B w p) k s)) → wY_meetsFirst_3 post p (nI cc) w n P dr c A L R B m (nI s) := by
  intro k
  induction k with
  | zero =>
    intro s m hs hm hp
    obtain ⟨m, rfl⟩ : ∃ m', m = m' + 1 := ⟨m - 1, by omega⟩
    exact br_t (nI_le (by omega) (by omega)) hp
  | succ k ih =>
    intro s m hs hm hp
    obtain ⟨m, rfl⟩ : ∃ m', m = m' + 1 := ⟨m - 1, by omega⟩
    refine br_f (nI_ge (by omega) (by omega)) (br_f (nI_ge (b := 8) (by omega) (by decide)) (br_c (fun hw => ?_) (fun hw => dz_ysl (by omega) (hA s) hL hR ?_)))
    · rw [dz_al_t (dz_ge hw)] at hp
      exact nm_r (nI_1 s) (ih (s + 1) m (by omega) (by omega) hp)
    · have g : dz_g n A L R B w p s = dz_ms n A L R B p s := dz_gn hw
      cases z : dz_ms n A L R B p s
      · rw [dz_al_f (g.trans z)] at hp
        exact br_t dz_b0 hp
      · rw [dz_al_t (g.trans z)] at hp
        exact br_f dz_b1 (nm_r (nI_1 s) (ih (s + 1) m (by omega) (by omega) hp))
theorem dz_ymf {cc : Nat} {w : Int32} (hcc : cc ≤ 8) (hA : ∀ s, ∃ d, d ≤ 3 ∧ A s = nI d) (hL : ∀ j, L j ≤ n) (hR : ∀ j, R j ≤ n) (hp : post (dz_b (dz_al (dz_g n A L R B w p) cc 0))) : wpY_meetsFirst post (n, P, dr, c, A, L, R, B) p (nI cc) w :=
  ⟨cc + 1, dz_ymf_l hcc hA hL hR cc 0 (cc + 1) (by omega) (by omega) hp⟩
theorem dz_yso {cc : Nat} (hcc : cc ≤ 8) (hA : ∀ s, ∃ d, d ≤ 3 ∧ A s = nI d) (hL : ∀ j, L j ≤ n) (hR : ∀ j, R j ≤ n) (hp : post (dz_b (dz_al (dz_g n A L R B (-1) p) cc 0))) : wpY_solution post (n, P, dr, nI cc, A, L, R, B) p := by
  unfold wpY_solution
  exact dz_ymf hcc hA hL hR ⟨dz_nar _, hp⟩
theorem dz_ypo_l {mm PP : Nat} (hmm : mm ≤ 8) (hPP : PP ≤ 4096) (hA : ∀ s, ∃ d, d ≤ 3 ∧ A s = nI d) (hL : ∀ j, L j ≤ n) (hR : ∀ j, R j ≤ n) : ∀ k q m : Nat, q + k = PP → k < m → post (dz_b (dz_fi (dz_so n A L R B mm) k q).isSome) → wY_possible_2 post (nI mm) n (nI PP) dr c A L R B m (nI q) := by
  intro k
  induction k with
  | zero =>
    intro q m hq hm hp
    obtain ⟨m, rfl⟩ : ∃ m', m = m' + 1 := ⟨m - 1, by omega⟩
    exact br_t (nI_le (by omega) (by omega)) hp
  | succ k ih =>
    intro q m hq hm hp
    obtain ⟨m, rfl⟩ : ∃ m', m = m' + 1 := ⟨m - 1, by omega⟩
    refine br_f (nI_ge (by omega) (by omega)) (dz_ymf hmm hA hL hR ?_)
    cases z : dz_al (dz_g n A L R B (-1) (nI q)) mm 0
    · have t : dz_so n A L R B mm q = false := z
      rw [dz_fi_f t] at hp
      exact br_t dz_b0 (nm_r (nI_1 q) (ih (q + 1) m (by omega) (by omega) hp))
    · have t : dz_so n A L R B mm q = true := z
      rw [dz_fi_t t] at hp
      exact br_f dz_b1 hp
theorem dz_ypo {mm PP : Nat} (hmm : mm ≤ 8) (hPP : PP ≤ 4096) (hA : ∀ s, ∃ d, d ≤ 3 ∧ A s = nI d) (hL : ∀ j, L j ≤ n) (hR : ∀ j, R j ≤ n) (hp : post (dz_b (dz_fi (dz_so n A L R B mm) PP 0).isSome)) : wpY_possible post (n, nI PP, dr, c, A, L, R, B) (nI mm) :=
  ⟨PP + 1, dz_ypo_l hmm hPP hA hL hR PP 0 (PP + 1) (by omega) (by omega) hp⟩
theorem dz_ygd_l {cc PP : Nat} {i j : Int32} (hi : i ≤ n) (hj : j ≤ n) (hcc : cc ≤ 8) (hPP : PP ≤ 4096) (hA : ∀ s, ∃ d, d ≤ 3 ∧ A s = nI d) (hL : ∀ j, L j ≤ n) (hR : ∀ j, R j ≤ n) : ∀ (k q m : Nat) (b : Int32), q + k = PP → k < m → post (dz_fo (dz_gt n A L R B cc i j) (fun q => dz_tm n (nI q) i - dz_tm n (nI q) j) k q b) → wY_greatest_7 post i j n (nI PP) dr (nI cc) A L R B m b (nI q) := by
  intro k
  induction k with
  | zero =>
    intro q m b hq hm hp
    obtain ⟨m, rfl⟩ : ∃ m', m = m' + 1 := ⟨m - 1, by omega⟩
    exact br_t (nI_le (by omega) (by omega)) hp
  | succ k ih =>
    intro q m b hq hm hp
    obtain ⟨m, rfl⟩ : ∃ m', m = m' + 1 := ⟨m - 1, by omega⟩
    refine br_f (nI_ge (by omega) (by omega)) (dz_ytm hi (dz_ytm hj (nm_e (br_c (fun h => ?_) (fun h => dz_yso hcc hA hL hR ?_)))))
    · have t : dz_gt n A L R B cc i j q b = false := by unfold dz_gt; rw [decide_eq_true h]; exact Bool.and_false _
      rw [dz_fo_f t] at hp
      exact nm_r (nI_1 q) (ih (q + 1) m b (by omega) (by omega) hp)
    · cases z : dz_al (dz_g n A L R B (-1) (nI q)) cc 0
      · have t : dz_gt n A L R B cc i j q b = false := by unfold dz_gt; rw [z, Bool.false_and]
        rw [dz_fo_f t] at hp
        exact br_t dz_b0 (nm_r (nI_1 q) (ih (q + 1) m b (by omega) (by omega) hp))
      · have t : dz_gt n A L R B cc i j q b = true := by unfold dz_gt; rw [z, decide_eq_false h]; rfl
        rw [dz_fo_t t] at hp
        exact br_f dz_b1 (nm_r (nI_1 q) (ih (q + 1) m _ (by omega) (by omega) hp))
theorem dz_ygd {cc PP : Nat} {i j : Int32} (hi : i ≤ n) (hj : j ≤ n) (hcc : cc ≤ 8) (hPP : PP ≤ 4096) (hA : ∀ s, ∃ d, d ≤ 3 ∧ A s = nI d) (hL : ∀ j, L j ≤ n) (hR : ∀ j, R j ≤ n) (hp : post (dz_fo (dz_gt n A L R B cc i j) (fun q => dz_tm n (nI q) i - dz_tm n (nI q) j) PP 0 (-200))) : wpY_greatest post (n, nI PP, dr, nI cc, A, L, R, B) i j :=
  ⟨PP + 1, dz_ygd_l hi hj hcc hPP hA hL hR PP 0 (PP + 1) (-200) (by omega) (by omega) hp⟩
/-- plan q is a solution behind w -/
def dz_nt (n : Int32) (A L R B : Nat → Int32) (cc : Nat) (w : Int32) (q : Nat) : Bool := !decide (nI q ≤ w) && dz_so n A L R B cc q
theorem dz_yne_l {cc PP : Nat} {w : Int32} (hcc : cc ≤ 8) (hPP : PP ≤ 4096) (hA : ∀ s, ∃ d, d ≤ 3 ∧ A s = nI d) (hL : ∀ j, L j ≤ n) (hR : ∀ j, R j ≤ n) : ∀ k q m : Nat, q + k = PP → k < m → post (dz_o (dz_fi (dz_nt n A L R B cc w) k q)) → wY_next_2 post w n (nI PP) dr (nI cc) A L R B m (nI q) := by
  intro k
  induction k with
  | zero =>
    intro q m hq hm hp
    obtain ⟨m, rfl⟩ : ∃ m', m = m' + 1 := ⟨m - 1, by omega⟩
    exact br_t (nI_le (by omega) (by omega)) hp
  | succ k ih =>
    intro q m hq hm hp
    obtain ⟨m, rfl⟩ : ∃ m', m = m' + 1 := ⟨m - 1, by omega⟩
    refine br_f (nI_ge (by omega) (by omega)) (br_c (fun h => ?_) (fun h => dz_yso hcc hA hL hR ?_))
    · have t : dz_nt n A L R B cc w q = false := by unfold dz_nt; rw [decide_eq_true h]; rfl
      rw [dz_fi_f t] at hp
      exact nm_r (nI_1 q) (ih (q + 1) m (by omega) (by omega) hp)
    · cases z : dz_al (dz_g n A L R B (-1) (nI q)) cc 0
      · have t : dz_nt n A L R B cc w q = false := by unfold dz_nt dz_so; rw [z, Bool.and_false]
        rw [dz_fi_f t] at hp
        exact br_t dz_b0 (nm_r (nI_1 q) (ih (q + 1) m (by omega) (by omega) hp))
      · have t : dz_nt n A L R B cc w q = true := by unfold dz_nt dz_so; rw [z, decide_eq_false h]; rfl
        rw [dz_fi_t t] at hp
        exact br_f dz_b1 hp
theorem dz_yne {cc PP : Nat} {w : Int32} (hcc : cc ≤ 8) (hPP : PP ≤ 4096) (hA : ∀ s, ∃ d, d ≤ 3 ∧ A s = nI d) (hL : ∀ j, L j ≤ n) (hR : ∀ j, R j ≤ n) (hp : post (dz_o (dz_fi (dz_nt n A L R B cc w) PP 0))) : wpY_next post (n, nI PP, dr, nI cc, A, L, R, B) w :=
  ⟨PP + 1, dz_yne_l hcc hPP hA hL hR PP 0 (PP + 1) (by omega) (by omega) hp⟩
theorem dz_ylt_l {J : Int32 → Int32 → Prop} {b p : Int32} {nn : Nat} (hn : nn ≤ 4) : ∀ (k e m : Nat) (l : Int32), e + k = nn → k < m → ((b < 0 → wY_shortest_60 post J b p (dz_fo (dz_lt (nI nn) p) (fun e => dz_tm (nI nn) p (nI e)) k e l) (nI nn) P dr c A L R B) ∧ (¬ b < 0 → ((b ≤ dz_fo (dz_lt (nI nn) p) (fun e => dz_tm (nI nn) p (nI e)) k e l → J b (p + 1)) ∧ (¬ b ≤ dz_fo (dz_lt (nI nn) p) (fun e => dz_tm (nI nn) p (nI e)) k e l → wY_shortest_60 post J b p (dz_fo (dz_lt (nI nn) p) (fun e => dz_tm (nI nn) p (nI e)) k e l) (nI nn) P dr c A L R B)))) → wY_shortest_17 post J b p (nI nn) P dr c A L R B m l (nI e) := by
  intro k
  induction k with
  | zero =>
    intro e m l he hm hp
    obtain ⟨m, rfl⟩ : ∃ m', m = m' + 1 := ⟨m - 1, by omega⟩
    exact br_t (nI_le (by omega) (by omega)) ⟨hp.1, fun h => br_c (fun h2 => nm_e ((hp.2 h).1 h2)) (fun h2 => (hp.2 h).2 h2)⟩
  | succ k ih =>
    intro e m l he hm hp
    obtain ⟨m, rfl⟩ : ∃ m', m = m' + 1 := ⟨m - 1, by omega⟩
    have hl : nI e ≤ nI nn := nI_le (by omega) (by omega)
    refine br_f (nI_ge (by omega) (by omega)) (dz_ytm hl (br_c (fun h => ?_) (fun h => dz_ytm hl ?_)))
    · have t : dz_lt (nI nn) p e l = false := by unfold dz_lt; rw [decide_eq_true h]; rfl
      rw [dz_fo_f t] at hp
      exact nm_r (nI_1 e) (ih (e + 1) m l (by omega) (by omega) hp)
    · have t : dz_lt (nI nn) p e l = true := by unfold dz_lt; rw [decide_eq_false h]; rfl
      rw [dz_fo_t t] at hp
      exact nm_r (nI_1 e) (ih (e + 1) m _ (by omega) (by omega) hp)
theorem dz_y60 {J : Int32 → Int32 → Prop} {b l : Int32} {q cc : Nat} (hcc : cc ≤ 8) (hA : ∀ s, ∃ d, d ≤ 3 ∧ A s = nI d) (hL : ∀ j, L j ≤ n) (hR : ∀ j, R j ≤ n) (h0 : dz_al (dz_g n A L R B (-1) (nI q)) cc 0 = false → J b (nI (q + 1))) (h1 : dz_al (dz_g n A L R B (-1) (nI q)) cc 0 = true → J l (nI (q + 1))) : wY_shortest_60 post J b (nI q) l n P dr (nI cc) A L R B := by
  unfold wY_shortest_60
  refine dz_yso hcc hA hL hR ?_
  cases z : dz_al (dz_g n A L R B (-1) (nI q)) cc 0
  · exact br_t dz_b0 (nm_r (nI_1 q) (h0 z))
  · exact br_f dz_b1 (nm_r (nI_1 q) (h1 z))
theorem dz_ysh_l {cc PP nn : Nat} (hn : nn ≤ 4) (hcc : cc ≤ 8) (hPP : PP ≤ 4096) (hA : ∀ s, ∃ d, d ≤ 3 ∧ A s = nI d) (hL : ∀ j, L j ≤ nI nn) (hR : ∀ j, R j ≤ nI nn) : ∀ (k q m : Nat) (b : Int32), q + k = PP → k < m → post (dz_fo (dz_st nn A L R B cc) (fun q => dz_la nn (nI q)) k q b) → wY_shortest_4 post (nI nn) (nI PP) dr (nI cc) A L R B m b (nI q) := by
  intro k
  induction k with
  | zero =>
    intro q m b hq hm hp
    obtain ⟨m, rfl⟩ : ∃ m', m = m' + 1 := ⟨m - 1, by omega⟩
    exact br_t (nI_le (by omega) (by omega)) hp
  | succ k ih =>
    intro q m b hq hm hp
    obtain ⟨m, rfl⟩ : ∃ m', m = m' + 1 := ⟨m - 1, by omega⟩
    refine br_f (nI_ge (by omega) (by omega)) ⟨nn + 1, dz_ylt_l hn nn 0 (nn + 1) 0 (by omega) (by omega) ?_⟩
    have keep : dz_st nn A L R B cc q b = false → wY_shortest_4 post (nI nn) (nI PP) dr (nI cc) A L R B m b (nI (q + 1)) := fun t => by
      rw [dz_fo_f t] at hp
      exact ih (q + 1) m b (by omega) (by omega) hp
    have take : dz_st nn A L R B cc q b = true → wY_shortest_4 post (nI nn) (nI PP) dr (nI cc) A L R B m (dz_la nn (nI q)) (nI (q + 1)) := fun t => by
      rw [dz_fo_t t] at hp
      exact ih (q + 1) m _ (by omega) (by omega) hp
    have w0 : dz_al (dz_g (nI nn) A L R B (-1) (nI q)) cc 0 = false → dz_st nn A L R B cc q b = false := fun z => by unfold dz_st; rw [z, Bool.false_and]
    refine br_c (fun h => ?_) (fun h => br_c (fun h2 => ?_) (fun h2 => ?_))
    · exact dz_y60 hcc hA hL hR (fun z => keep (w0 z)) (fun z => take (by unfold dz_st; rw [z, decide_eq_true h]; rfl))
    · rw [nI_1]
      refine keep ?_
      have h2' : b ≤ dz_la nn (nI q) := h2
      unfold dz_st
      rw [decide_eq_false h, decide_eq_true h2']
      exact Bool.and_false _
    · refine dz_y60 hcc hA hL hR (fun z => keep (w0 z)) (fun z => take ?_)
      have h2' : ¬ b ≤ dz_la nn (nI q) := h2
      unfold dz_st
      rw [z, decide_eq_false h, decide_eq_false h2']
      rfl
theorem dz_ysh {cc PP nn : Nat} (hn : nn ≤ 4) (hcc : cc ≤ 8) (hPP : PP ≤ 4096) (hA : ∀ s, ∃ d, d ≤ 3 ∧ A s = nI d) (hL : ∀ j, L j ≤ nI nn) (hR : ∀ j, R j ≤ nI nn) (hp : post (dz_fo (dz_st nn A L R B cc) (fun q => dz_la nn (nI q)) PP 0 (-1))) : wpY_shortest post (nI nn, nI PP, dr, nI cc, A, L, R, B) :=
  ⟨PP + 1, dz_ysh_l hn hcc hPP hA hL hR PP 0 (PP + 1) (-1) (by omega) (by omega) hp⟩
theorem dz_yen_l {cc PP : Nat} (hcc : cc ≤ 8) (hPP : PP ≤ 4096) (hA : ∀ s, ∃ d, d ≤ 3 ∧ A s = nI d) (hL : ∀ j, L j ≤ n) (hR : ∀ j, R j ≤ n) : ∀ k q m : Nat, q + k = PP → k < m → post (dz_b (!(dz_fi (dz_et n A L R B cc) k q).isSome)) → wY_entailed_11 post n (nI PP) dr (nI cc) A L R B m (nI q) := by
  intro k
  induction k with
  | zero =>
    intro q m hq hm hp
    obtain ⟨m, rfl⟩ : ∃ m', m = m' + 1 := ⟨m - 1, by omega⟩
    exact br_t (nI_le (by omega) (by omega)) hp
  | succ k ih =>
    intro q m hq hm hp
    obtain ⟨m, rfl⟩ : ∃ m', m = m' + 1 := ⟨m - 1, by omega⟩
    refine br_f (nI_ge (by omega) (by omega)) (dz_ysl (s := 8) (by omega) (hA 8) hL hR ?_)
    cases y : dz_ms n A L R B (nI q) 8
    · refine br_t dz_b0 (dz_yso hcc hA hL hR ?_)
      cases z : dz_al (dz_g n A L R B (-1) (nI q)) cc 0
      · have t : dz_et n A L R B cc q = false := by unfold dz_et; rw [z, Bool.false_and]
        rw [dz_fi_f t] at hp
        exact br_t dz_b0 (nm_r (nI_1 q) (ih (q + 1) m (by omega) (by omega) hp))
      · have t : dz_et n A L R B cc q = true := by unfold dz_et; rw [z, y]; rfl
        rw [dz_fi_t t] at hp
        exact br_f dz_b1 hp
    · have t : dz_et n A L R B cc q = false := by unfold dz_et; rw [y]; exact Bool.and_false _
      rw [dz_fi_f t] at hp
      exact br_f dz_b1 (nm_r (nI_1 q) (ih (q + 1) m (by omega) (by omega) hp))
theorem dz_yre_l {cc PP w : Nat} (hw : w < 9) (hcc : cc ≤ 8) (hPP : PP ≤ 4096) (hA : ∀ s, ∃ d, d ≤ 3 ∧ A s = nI d) (hL : ∀ j, L j ≤ n) (hR : ∀ j, R j ≤ n) : ∀ k q m : Nat, q + k = PP → k < m → post (dz_b (!(dz_fi (dz_rt n A L R B cc w) k q).isSome)) → wY_redundant_16 post (nI w) n (nI PP) dr (nI cc) A L R B m (nI q) := by
  intro k
  induction k with
  | zero =>
    intro q m hq hm hp
    obtain ⟨m, rfl⟩ : ∃ m', m = m' + 1 := ⟨m - 1, by omega⟩
    exact br_t (nI_le (by omega) (by omega)) hp
  | succ k ih =>
    intro q m hq hm hp
    obtain ⟨m, rfl⟩ : ∃ m', m = m' + 1 := ⟨m - 1, by omega⟩
    refine br_f (nI_ge (by omega) (by omega)) (dz_ysl hw (hA w) hL hR ?_)
    cases z : dz_ms n A L R B (nI q) w
    · refine br_t dz_b0 (dz_ymf hcc hA hL hR ?_)
      cases y : dz_al (dz_g n A L R B (nI w) (nI q)) cc 0
      · have t : dz_rt n A L R B cc w q = false := by unfold dz_rt; rw [z, y]; rfl
        rw [dz_fi_f t] at hp
        exact br_t dz_b0 (nm_r (nI_1 q) (ih (q + 1) m (by omega) (by omega) hp))
      · have t : dz_rt n A L R B cc w q = true := by unfold dz_rt; rw [z, y]; rfl
        rw [dz_fi_t t] at hp
        exact br_f dz_b1 hp
    · have t : dz_rt n A L R B cc w q = false := by unfold dz_rt; rw [z]; rfl
      rw [dz_fi_f t] at hp
      exact br_f dz_b1 (nm_r (nI_1 q) (ih (q + 1) m (by omega) (by omega) hp))
/-- the reference gives constraints up from the last on, until what is left can be met -/
theorem dz_yex_l {cc PP M : Nat} (hM : M = dz_mx (dz_ph n A L R B cc) PP 0 0) (hcc : cc ≤ 8) (hPP : PP ≤ 4096) (hA : ∀ s, ∃ d, d ≤ 3 ∧ A s = nI d) (hL : ∀ j, L j ≤ n) (hR : ∀ j, R j ≤ n) (hp : post (nI (cc - M))) : ∀ k o m : Nat, o + k = cc - M → k < m → wY_excess_2 post n (nI PP) dr (nI cc) A L R B m (nI o) := by
  obtain ⟨m1, m2, m3⟩ := dz_mx_is (h := dz_ph n A L R B cc) PP 0 0
  rw [← hM] at m1 m2 m3
  have key : ∀ mm, mm ≤ cc → ((dz_fi (dz_so n A L R B mm) PP 0).isSome = true ↔ ∃ j, j < PP ∧ mm ≤ dz_ph n A L R B cc j) := by
    intro mm hm
    rw [dz_fi_is]
    constructor
    · rintro ⟨j, _, j2, j3⟩
      exact ⟨j, by omega, (dz_alpf hm).mp j3⟩
    · rintro ⟨j, j2, j3⟩
      exact ⟨j, by omega, by omega, (dz_alpf hm).mpr j3⟩
  intro k
  induction k with
  | zero =>
    intro o m ho hm
    obtain ⟨m, rfl⟩ : ∃ m', m = m' + 1 := ⟨m - 1, by omega⟩
    have e : o = cc - M := by omega
    subst e
    rcases m3 with m3 | ⟨j, _, j2, j3⟩
    · exact br_t (nI_le (by omega) (by omega)) hp
    · have jl : dz_ph n A L R B cc j ≤ cc := dz_ph_le
      have s : (dz_fi (dz_so n A L R B M) PP 0).isSome = true := (key M (by omega)).mpr ⟨j, by omega, by omega⟩
      refine br_c (fun _ => hp) (fun _ => ?_)
      rw [pk_sub (by omega : cc - M ≤ cc), show cc - (cc - M) = M from by omega]
      refine dz_ypo (by omega) hPP hA hL hR ?_
      rw [s]
      exact br_f dz_b1 hp
  | succ k ih =>
    intro o m ho hm
    obtain ⟨m, rfl⟩ : ∃ m', m = m' + 1 := ⟨m - 1, by omega⟩
    refine br_f (nI_ge (by omega) (by omega)) ?_
    rw [pk_sub (by omega : o ≤ cc)]
    refine dz_ypo (by omega) hPP hA hL hR ?_
    have s : (dz_fi (dz_so n A L R B (cc - o)) PP 0).isSome = false := by
      cases z : (dz_fi (dz_so n A L R B (cc - o)) PP 0).isSome
      · rfl
      · obtain ⟨j, j2, j3⟩ := (key (cc - o) (by omega)).mp z
        have a := m2 j (by omega) (by omega)
        omega
    rw [s]
    exact br_t dz_b0 (nm_r (nI_1 o) (ih (o + 1) m (by omega) (by omega)))
theorem dz_yex {cc PP : Nat} (hcc : cc ≤ 8) (hPP : PP ≤ 4096) (hA : ∀ s, ∃ d, d ≤ 3 ∧ A s = nI d) (hL : ∀ j, L j ≤ n) (hR : ∀ j, R j ≤ n) (hp : post (nI (cc - dz_mx (dz_ph n A L R B cc) PP 0 0))) : wpY_excess post (n, nI PP, dr, nI cc, A, L, R, B) :=
  ⟨cc - dz_mx (dz_ph n A L R B cc) PP 0 0 + 1, dz_yex_l rfl hcc hPP hA hL hR hp (cc - dz_mx (dz_ph n A L R B cc) PP 0 0) 0 _ (by omega) (by omega)⟩
theorem dz_mx_le {cc PP : Nat} : dz_mx (dz_ph n A L R B cc) PP 0 0 ≤ cc := by
  obtain ⟨_, _, m3⟩ := dz_mx_is (h := dz_ph n A L R B cc) PP 0 0
  rcases m3 with m3 | ⟨j, _, _, j3⟩
  · omega
  · rw [← j3]; exact dz_ph_le
end
end
section
/-- what holds of every cell holds after a store -/
theorem dz_up {Q : Int32 → Prop} {F : Nat → Int32} {k : Nat} {x : Int32} (h : ∀ j, Q (F j)) (hx : Q x) : ∀ j, Q (upd F k x j) := by
  intro j
  by_cases e : j = k
  · rw [e, pk_us]; exact hx
  · rw [pk_un e]; exact h j
/-- three cells from b on become those from a on -/
def dz_cp (F : Nat → Int32) (a b : Nat) : Nat → Int32 := upd (upd (upd F b (F a)) (b + 1) (upd F b (F a) (a + 1))) (b + 2) (upd (upd F b (F a)) (b + 1) (upd F b (F a) (a + 1)) (a + 2))
theorem dz_cp_k {Q : Int32 → Prop} {F : Nat → Int32} {a b : Nat} (h : ∀ j, Q (F j)) : ∀ j, Q (dz_cp F a b j) := by
  have h1 := dz_up (Q := Q) (k := b) h (h a)
  have h2 := dz_up (Q := Q) (k := b + 1) h1 (h1 (a + 1))
  exact dz_up (Q := Q) (k := b + 2) h2 (h2 (a + 2))
/-- what both states hold of their arrays -/
def dz_Inv (n : Int32) (A L R : Nat → Int32) : Prop := (∀ s, ∃ d, d ≤ 3 ∧ A s = nI d) ∧ (∀ j, L j ≤ n) ∧ (∀ j, R j ≤ n)
theorem dz_inv_cp {n : Int32} {A L R : Nat → Int32} {f t a b : Nat} (h : dz_Inv n A L R) : dz_Inv n (upd A t (A f)) (dz_cp L a b) (dz_cp R a b) :=
  ⟨dz_up (Q := fun x => ∃ d, d ≤ 3 ∧ x = nI d) h.1 (h.1 f), dz_cp_k (Q := fun x => x ≤ n) h.2.1, dz_cp_k (Q := fun x => x ≤ n) h.2.2⟩
theorem dz_inv_put {n i j : Int32} {A L R : Nat → Int32} {s t d : Nat} (hd : d ≤ 3) (hi : i ≤ n) (hj : j ≤ n) (h : dz_Inv n A L R) : dz_Inv n (upd A s (nI d)) (upd L t i) (upd R t j) :=
  ⟨dz_up (Q := fun x => ∃ d, d ≤ 3 ∧ x = nI d) h.1 ⟨d, hd, rfl⟩, dz_up (Q := fun x => x ≤ n) h.2.1 hi, dz_up (Q := fun x => x ≤ n) h.2.2 hj⟩
theorem dz_inv_0 {n : Int32} {A L R : Nat → Int32} {s : Nat} (h : dz_Inv n A L R) : dz_Inv n (upd A s 0) L R :=
  ⟨dz_up (Q := fun x => ∃ d, d ≤ 3 ∧ x = nI d) h.1 ⟨0, by omega, rfl⟩, h.2.1, h.2.2⟩
section
variable {n P c dr i j k : Int32} {A L R B : Nat → Int32}
theorem dz_3s (s d : Nat) : (3 : Int32) * nI s + nI d = nI (3 * s + d) := (congrArg (· + nI d) (pk_mul 3 s)).trans (nI_add (3 * s) d)
theorem dz_xput {post : SX → Prop} {s d : Nat} (hs : s < 9) (hd : d ≤ 2) (hA : A s = nI d) (hp : post (n, P, c, upd A s (nI (d + 1)), upd L (3 * s + d) i, upd R (3 * s + d) j, upd B (3 * s + d) k)) : wpX_putAlternative post (n, P, c, A, L, R, B) (nI s) i j k := by
  have hc : (nI s).toNatClampNeg = s := nI_clamp (by omega)
  have hj : (nI (3 * s + d)).toNatClampNeg = 3 * s + d := nI_clamp (by omega)
  have hv : vp_in (nI s) 9 := vp_in_nI hs (by omega)
  have hw : vp_in (nI (3 * s + d)) 27 := vp_in_nI (by omega) (by omega)
  refine ⟨hv, nm_r (e' := nI (3 * s + d)) (by rw [hc, hA]; exact dz_3s s d) ⟨hw, nm_r (e' := upd L (3 * s + d) i) (by rw [hj]) ⟨hw, nm_r (e' := upd R (3 * s + d) j) (by rw [hj]) ⟨hw, nm_r (e' := upd B (3 * s + d) k) (by rw [hj]) ⟨hv, hv, nm_r (e' := upd A s (nI (d + 1))) (by rw [hc, hA, nI_1]) hp⟩⟩⟩⟩⟩
theorem dz_yput {post : SY → Prop} {s d : Nat} (hs : s < 9) (hd : d ≤ 2) (hA : A s = nI d) (hp : post (n, P, dr, c, upd A s (nI (d + 1)), upd L (3 * s + d) i, upd R (3 * s + d) j, upd B (3 * s + d) k)) : wpY_compare post (n, P, dr, c, A, L, R, B) (nI s) i j k := by
  have hc : (nI s).toNatClampNeg = s := nI_clamp (by omega)
  have hj : (nI (3 * s + d)).toNatClampNeg = 3 * s + d := nI_clamp (by omega)
  have hv : vp_in (nI s) 9 := vp_in_nI hs (by omega)
  have hw : vp_in (nI (3 * s + d)) 27 := vp_in_nI (by omega) (by omega)
  refine ⟨hv, nm_r (e' := nI d) (by rw [hc, hA]) (br_t (nI_le (b := 2) hd (by decide)) ?_)⟩
  rw [dz_3s, hj, hc, nI_1]
  exact ⟨hw, nm_e ⟨hw, nm_e ⟨hw, nm_e ⟨hv, nm_e hp⟩⟩⟩⟩
theorem dz_xcp_s {post : SX → Prop} {f t m z : Nat} (hf : f < 9) (ht : t < 9) (hz : z < 3) (h : wX_copySlot_12 post (nI f) (nI t) (nI (3 * f)) (nI (3 * t)) n P c m (nI (z + 1)) A (upd L (3 * t + z) (L (3 * f + z))) (upd R (3 * t + z) (R (3 * f + z))) (upd B (3 * t + z) (B (3 * f + z)))) : wX_copySlot_12 post (nI f) (nI t) (nI (3 * f)) (nI (3 * t)) n P c (m + 1) (nI z) A L R B := by
  have hF : (nI (3 * f + z)).toNatClampNeg = 3 * f + z := nI_clamp (by omega)
  have hT : (nI (3 * t + z)).toNatClampNeg = 3 * t + z := nI_clamp (by omega)
  have vF : vp_in (nI (3 * f + z)) 27 := vp_in_nI (by omega) (by omega)
  have vT : vp_in (nI (3 * t + z)) 27 := vp_in_nI (by omega) (by omega)
  refine br_f (nI_ge (b := 3) hz (by decide)) ?_
  rw [nI_add, nI_add, hF, hT]
  exact ⟨vF, vT, nm_e ⟨vF, vT, nm_e ⟨vF, vT, nm_e (nm_r (nI_1 z) h)⟩⟩⟩
theorem dz_xcp {post : SX → Prop} {f t : Nat} (hf : f < 9) (ht : t < 9) (hp : post (n, P, c, upd A t (A f), dz_cp L (3 * f) (3 * t), dz_cp R (3 * f) (3 * t), dz_cp B (3 * f) (3 * t))) : wpX_copySlot post (n, P, c, A, L, R, B) (nI f) (nI t) := by
  have cf : (nI f).toNatClampNeg = f := nI_clamp (by omega)
  have ct : (nI t).toNatClampNeg = t := nI_clamp (by omega)
  refine nm_r (pk_mul 3 f) (nm_r (pk_mul 3 t) ⟨4, dz_xcp_s (z := 0) hf ht (by omega) (dz_xcp_s (z := 1) hf ht (by omega) (dz_xcp_s (z := 2) hf ht (by omega) ?_))⟩)
  refine br_t (nI_le (a := 3) (b := 3) (by omega) (by decide)) ⟨vp_in_nI hf (by omega), vp_in_nI ht (by omega), nm_r (e' := upd A t (A f)) (by rw [cf, ct]) hp⟩
theorem dz_ycp_s {post : SY → Prop} {f t m z : Nat} (hf : f < 9) (ht : t < 9) (hz : z < 3) (h : wY_copy_14 post (nI f) (nI t) n P dr c m (nI (z + 1)) A (upd L (3 * t + z) (L (3 * f + z))) (upd R (3 * t + z) (R (3 * f + z))) (upd B (3 * t + z) (B (3 * f + z)))) : wY_copy_14 post (nI f) (nI t) n P dr c (m + 1) (nI z) A L R B := by
  have hF : (nI (3 * f + z)).toNatClampNeg = 3 * f + z := nI_clamp (by omega)
  have hT : (nI (3 * t + z)).toNatClampNeg = 3 * t + z := nI_clamp (by omega)
  have vF : vp_in (nI (3 * f + z)) 27 := vp_in_nI (by omega) (by omega)
  have vT : vp_in (nI (3 * t + z)) 27 := vp_in_nI (by omega) (by omega)
  refine br_f (nI_ge (b := 3) hz (by decide)) ?_
  rw [dz_3s, dz_3s, hF, hT]
  exact ⟨vF, vT, nm_e ⟨vF, vT, nm_e ⟨vF, vT, nm_e (nm_r (nI_1 z) h)⟩⟩⟩
theorem dz_ycp {post : SY → Prop} {f t : Nat} (hf : f < 9) (ht : t < 9) (hp : post (n, P, dr, c, upd A t (A f), dz_cp L (3 * f) (3 * t), dz_cp R (3 * f) (3 * t), dz_cp B (3 * f) (3 * t))) : wpY_copy post (n, P, dr, c, A, L, R, B) (nI f) (nI t) := by
  have cf : (nI f).toNatClampNeg = f := nI_clamp (by omega)
  have ct : (nI t).toNatClampNeg = t := nI_clamp (by omega)
  refine ⟨vp_in_nI hf (by omega), vp_in_nI ht (by omega), nm_r (e' := upd A t (A f)) (by rw [cf, ct]) ⟨4, dz_ycp_s (z := 0) hf ht (by omega) (dz_ycp_s (z := 1) hf ht (by omega) (dz_ycp_s (z := 2) hf ht (by omega) ?_))⟩⟩
  exact br_t (nI_le (a := 3) (b := 3) (by omega) (by decide)) hp
/-- a slot after the list begins with one alternative -/
theorem dz_xst {post : SX → Prop} {s : Nat} (hs : s < 9) (hp : post (n, P, nI (s + 1), upd (upd A s 0) s (nI 1), upd L (3 * s) i, upd R (3 * s) j, upd B (3 * s) k)) : wpX_startConstraint post (n, P, nI s, A, L, R, B) i j k := by
  have hc : (nI s).toNatClampNeg = s := nI_clamp (by omega)
  refine ⟨vp_in_nI hs (by omega), nm_r (e' := upd A s 0) (by rw [hc]) (dz_xput (d := 0) hs (by omega) pk_us ?_)⟩
  exact nm_r (nI_1 s) hp
/-- remove: both sides move the slots behind s up, and hold the same arrays then -/
theorem dz_rem {n P : Int32} {cc : Nat} (hc : cc ≤ 7) : ∀ (q s : Nat) (A L R B : Nat → Int32), s + q = cc → dz_Inv n A L R → ∃ A' L' R' B', dz_Inv n A' L' R' ∧ A' 8 = A 8 ∧ (∀ (m : Nat) (post : Int32 → SX → Prop), q < m → post (nI cc) (n, P, nI cc, A', L', R', B') → wX_remove_22 post m (nI s) n P (nI cc) A L R B) ∧ (∀ (m : Nat) (dr : Int32) (post : Int32 → SY → Prop), q < m → post (nI cc) (n, P, dr, nI cc, A', L', R', B') → wY_remove_16 post m (nI s) n P dr (nI (cc + 1)) A L R B) := by
  intro q
  induction q with
  | zero =>
    intro s A L R B hs hI
    refine ⟨A, L, R, B, hI, rfl, fun m post hm hp => ?_, fun m dr post hm hp => ?_⟩
    · obtain ⟨m, rfl⟩ : ∃ m', m = m' + 1 := ⟨m - 1, by omega⟩
      exact br_t (nI_le (by omega) (by omega)) hp
    · obtain ⟨m, rfl⟩ : ∃ m', m = m' + 1 := ⟨m - 1, by omega⟩
      refine br_t ?_ (nm_r (nI_pred cc) hp)
      rw [nI_pred]
      exact nI_le (by omega) (by omega)
  | succ q ih =>
    intro s A L R B hs hI
    obtain ⟨A', L', R', B', h1, h2, h3, h4⟩ := ih (s + 1) (upd A s (A (s + 1))) (dz_cp L (3 * (s + 1)) (3 * s)) (dz_cp R (3 * (s + 1)) (3 * s)) (dz_cp B (3 * (s + 1)) (3 * s)) (by omega) (dz_inv_cp hI)
    refine ⟨A', L', R', B', h1, h2.trans (pk_un (by omega)), fun m post hm hp => ?_, fun m dr post hm hp => ?_⟩
    · obtain ⟨m, rfl⟩ : ∃ m', m = m' + 1 := ⟨m - 1, by omega⟩
      refine br_f (nI_ge (by omega) (by omega)) ?_
      rw [nI_1]
      exact dz_xcp (by omega) (by omega) (nm_e (h3 m post (by omega) hp))
    · obtain ⟨m, rfl⟩ : ∃ m', m = m' + 1 := ⟨m - 1, by omega⟩
      refine br_f ?_ (br_f (nI_ge (b := 7) (by omega) (by decide)) ?_)
      · rw [nI_pred]
        exact nI_ge (by omega) (by omega)
      · rw [nI_1]
        exact dz_ycp (by omega) (by omega) (nm_e (h4 m dr post (by omega) hp))
end
/-- apart's counts: three zeros first and then the alternatives, or slot by slot -/
theorem dz_apA (A : Nat → Int32) (s : Nat) : upd (upd (upd (upd (upd (upd (upd A s 0) s (nI 1)) s (nI 2)) (s + 1) 0) (s + 1) (nI 1)) (s + 2) 0) (s + 2) (nI 1) = upd (upd (upd (upd (upd (upd (upd A s 0) (s + 1) 0) (s + 2) 0) s (nI 1)) s (nI 2)) (s + 1) (nI 1)) (s + 2) (nI 1) := by
  funext j
  unfold upd
  by_cases h2 : j = s + 2
  · simp only [if_pos h2]
  · by_cases h1 : j = s + 1
    · simp only [if_neg h2, if_pos h1]
    · by_cases h0 : j = s
      · simp only [if_neg h2, if_neg h1, if_pos h0]
      · simp only [if_neg h2, if_neg h1, if_neg h0]
/-- apart's counts, slot by slot -/
def dz_aA (A : Nat → Int32) (s : Nat) : Nat → Int32 := upd (upd (upd (upd (upd (upd (upd A s 0) s (nI 1)) s (nI 2)) (s + 1) 0) (s + 1) (nI 1)) (s + 2) 0) (s + 2) (nI 1)
/-- apart's cells: a, then b, in the first slot, then x and y in the next two -/
def dz_aL (F : Nat → Int32) (s : Nat) (a b x y : Int32) : Nat → Int32 := upd (upd (upd (upd F (3 * s) a) (3 * s + 1) b) (3 * (s + 1)) x) (3 * (s + 2)) y
theorem dz_ap8 {A : Nat → Int32} {s : Nat} (hs : s ≤ 5) : dz_aA A s 8 = A 8 := by
  unfold dz_aA
  rw [pk_un (by omega), pk_un (by omega), pk_un (by omega), pk_un (by omega), pk_un (by omega), pk_un (by omega), pk_un (by omega)]
theorem dz_xap {n P i j g h : Int32} {A L R B : Nat → Int32} {c : Nat} {post : Int32 → SX → Prop} (hc : c ≤ 5) (hp : post (nI (c + 3)) (n, P, nI (c + 3), dz_aA A c, dz_aL L c i j i j, dz_aL R c j i j i, dz_aL B c (-g) (-g) h h)) : wpX_startConstraint (fun u => match u with | (a1, a2, a3, a4, a5, a6, a7) => (wpX_putAlternative (fun u => match u with | (b1, b2, b3, b4, b5, b6, b7) => (wpX_startConstraint (fun u => match u with | (c1, c2, c3, c4, c5, c6, c7) => (wpX_startConstraint (fun u => match u with | (d1, d2, d3, d4, d5, d6, d7) => (post d3 (d1, d2, d3, d4, d5, d6, d7))) (c1, c2, c3, c4, c5, c6, c7) j i h)) (b1, b2, b3, b4, b5, b6, b7) i j h)) (a1, a2, a3, a4, a5, a6, a7) (a3 - 1) j i (-g))) (n, P, nI c, A, L, R, B) i j (-g) := by
  refine dz_xst (by omega) ?_
  dsimp only
  rw [nI_pred]
  refine dz_xput (s := c) (d := 1) (by omega) (by omega) pk_us ?_
  dsimp only
  refine dz_xst (by omega) ?_
  dsimp only
  refine dz_xst (by omega) ?_
  exact hp
theorem dz_yap_s {n P dr g h i j : Int32} {A L R B : Nat → Int32} {c z m : Nat} {post : Int32 → SY → Prop} (hc : c ≤ 5) (hz : z < 3) (hp : wY_apart_91 post g h i j n P dr (nI c) m (nI (c + z + 1)) (upd A (c + z) 0) L R B) : wY_apart_91 post g h i j n P dr (nI c) (m + 1) (nI (c + z)) A L R B := by
  have e : nI c + 3 = nI (c + 3) := nI_add c 3
  have hj : (nI (c + z)).toNatClampNeg = c + z := nI_clamp (by omega)
  refine br_f ?_ ⟨vp_in_nI (by omega) (by omega), nm_r (e' := upd A (c + z) 0) (by rw [hj]) (nm_r (nI_1 (c + z)) hp)⟩
  rw [e]
  exact nI_ge (by omega) (by omega)
theorem dz_yap {n P dr g h i j : Int32} {A L R B : Nat → Int32} {c : Nat} {post : Int32 → SY → Prop} (hc : c ≤ 5) (hp : post (nI (c + 3)) (n, P, dr, nI (c + 3), dz_aA A c, dz_aL L c i j i j, dz_aL R c j i j i, dz_aL B c (-g) (-g) h h)) : ∃ f : Nat, wY_apart_91 post g h i j n P dr (nI c) f (nI c) A L R B := by
  refine ⟨4, dz_yap_s (z := 0) hc (by omega) (dz_yap_s (z := 1) hc (by omega) (dz_yap_s (z := 2) hc (by omega) ?_))⟩
  have e : nI c + 3 = nI (c + 3) := nI_add c 3
  have e2 : nI c + 2 = nI (c + 2) := nI_add c 2
  refine br_t (by rw [e]; exact nI_le (by omega) (by omega)) ?_
  refine dz_yput (s := c) (d := 0) (by omega) (by omega) (by rw [pk_un (by omega), pk_un (by omega)]; exact pk_us) ?_
  dsimp only
  refine dz_yput (s := c) (d := 1) (by omega) (by omega) pk_us ?_
  dsimp only
  rw [nI_1]
  refine dz_yput (s := c + 1) (d := 0) (by omega) (by omega) (by rw [pk_un (by omega), pk_un (by omega), pk_un (by omega)]; exact pk_us) ?_
  dsimp only
  rw [e2]
  refine dz_yput (s := c + 2) (d := 0) (by omega) (by omega) (by rw [pk_un (by omega), pk_un (by omega), pk_un (by omega)]; exact pk_us) ?_
  dsimp only
  refine nm_r e ?_
  have w : dz_aA A c = _ := dz_apA A c
  rw [w] at hp
  exact hp
end
section
section
variable {post : Int32 → Prop} {n P c dr e : Int32} {A L R B : Nat → Int32}
theorem dz_xev_t (h : ¬ (e < 0 ∨ n ≤ e)) (hp : post 1) : wpX_isEvent post (n, P, c, A, L, R, B) e := br_f (fun z => h (Or.inl z)) (br_f (fun z => h (Or.inr z)) hp)
theorem dz_xev_f (h : e < 0 ∨ n ≤ e) (hp : post 0) : wpX_isEvent post (n, P, c, A, L, R, B) e := br_c (fun _ => hp) (fun z => br_t (h.resolve_left z) hp)
theorem dz_xpo_t (h : ¬ (e < 0 ∨ c ≤ e)) (hp : post 1) : wpX_isPosition post (n, P, c, A, L, R, B) e := br_f (fun z => h (Or.inl z)) (br_f (fun z => h (Or.inr z)) hp)
theorem dz_xpo_f (h : e < 0 ∨ c ≤ e) (hp : post 0) : wpX_isPosition post (n, P, c, A, L, R, B) e := br_c (fun _ => hp) (fun z => br_t (h.resolve_left z) hp)
theorem dz_xpt_t (h : ¬ (e < 0 ∨ n < e)) (hp : post 1) : wpX_isEventOrOrigin post (n, P, c, A, L, R, B) e := br_f (fun z => h (Or.inl z)) (br_f (fun z => h (Or.inr z)) hp)
theorem dz_xpt_f (h : e < 0 ∨ n < e) (hp : post 0) : wpX_isEventOrOrigin post (n, P, c, A, L, R, B) e := br_c (fun _ => hp) (fun z => br_t (h.resolve_left z) hp)
theorem dz_yev_t (h : ¬ (e < 0 ∨ n ≤ e)) (hp : post 0) : wpY_badEvent post (n, P, dr, c, A, L, R, B) e := br_f (fun z => h (Or.inl z)) (br_t (Int32.not_le.mp (fun z => h (Or.inr z))) hp)
theorem dz_yev_f (h : e < 0 ∨ n ≤ e) (hp : post 1) : wpY_badEvent post (n, P, dr, c, A, L, R, B) e := br_c (fun _ => hp) (fun z => br_f (Int32.not_lt.mpr (h.resolve_left z)) hp)
theorem dz_ypt_t (h : ¬ (e < 0 ∨ n < e)) (hp : post 0) : wpY_badPoint post (n, P, dr, c, A, L, R, B) e := br_f (fun z => h (Or.inl z)) (br_t (Int32.not_lt.mp (fun z => h (Or.inr z))) hp)
theorem dz_ypt_f (h : e < 0 ∨ n < e) (hp : post 1) : wpY_badPoint post (n, P, dr, c, A, L, R, B) e := br_c (fun _ => hp) (fun z => br_f (Int32.not_le.mpr (h.resolve_left z)) hp)
theorem dz_10 : ¬ (1 : Int32) = 0 := by decide
theorem dz_lele (h : ¬ (e < 0 ∨ n ≤ e)) : e ≤ n := by
  have a : ¬ n ≤ e := fun z => h (Or.inr z)
  rw [Int32.le_iff_toInt_le] at a ⊢
  omega
theorem dz_lelt (h : ¬ (e < 0 ∨ n < e)) : e ≤ n := Int32.not_lt.mp (fun z => h (Or.inr z))
end
theorem dz_pow : ∀ j, j < 5 → (1 : Int32) <<< ((3 * nI j) &&& 31) = nI (8 ^ j) := by decide +kernel
theorem dz_pw : ∀ j, j < 5 → 1 ≤ 8 ^ j ∧ 8 ^ j ≤ 4096 := by decide +kernel
theorem dz_ini (k0 : Int32) : ∃ n, 2 ≤ n ∧ n ≤ 4 ∧ (∀ post : SX → Prop, post (nI n, nI (8 ^ n), 0, (fun _ => 0), (fun _ => 0), (fun _ => 0), (fun _ => 0)) → wpX_init post k0) ∧ (∀ post : SY → Prop, post (nI n, nI (8 ^ n), 0, 0, (fun _ => 0), (fun _ => 0), (fun _ => 0), (fun _ => 0)) → wpY_init post k0) := by
  by_cases h2 : (2 : Int32) ≤ k0
  · by_cases h4 : k0 ≤ 4
    · have h0 : ¬ k0 < 0 := by
        rw [Int32.le_iff_toInt_le, show (2 : Int32).toInt = 2 from by decide] at h2
        rw [Int32.lt_iff_toInt_lt, show (0 : Int32).toInt = 0 from by decide]
        omega
      obtain ⟨j, hj, rfl⟩ := nI_of2 (M := 4) (n := 4) (by decide) h0 h4
      have j2 : 2 ≤ j := (nI_leI (a := 2) (b := j) (by decide) (by omega)).mp h2
      exact ⟨j, j2, hj, fun post hp => br_t h2 (br_t h4 (nm_r (dz_pow j (by omega)) hp)), fun post hp => br_t h2 (br_t h4 (nm_r (dz_pow j (by omega)) hp))⟩
    · exact ⟨4, by omega, by omega, fun post hp => br_t h2 (br_f h4 (nm_r (dz_pow 4 (by omega)) hp)), fun post hp => br_t h2 (br_f h4 (nm_r (dz_pow 4 (by omega)) hp))⟩
  · exact ⟨2, by omega, by omega, fun post hp => br_f h2 (br_t (by decide) (nm_r (dz_pow 2 (by omega)) hp)), fun post hp => br_f h2 (nm_r (dz_pow 2 (by omega)) hp)⟩
/-- the pair's two events, on both sides -/
theorem dz_pair {a : Nat} (ha : a < 2 ^ 31) : nI a >>> ((3 : Int32) &&& 31) = nI (a / 8) ∧ nI a &&& 7 = nI (a % 8) ∧ nI a / 8 = nI (a / 8) ∧ nI a - nI a / 8 * 8 = nI (a % 8) := by
  refine ⟨pk_shrN ha _ 3 (by decide), pk_andN (by omega) 3 (by decide), pk_div (d := 8) ha (by omega) (by omega), pk_rem (d := 8) ha (by omega) (by omega)⟩
theorem dz_pneg {x : Int32} (h : x < 0) : x >>> ((3 : Int32) &&& 31) < 0 := by
  have z : (0 : Int32).toInt = 0 := by decide
  rw [Int32.lt_iff_toInt_lt, z] at h ⊢
  rw [pk_shr x _ 3 (by decide), Int.shiftRight_eq_div_pow]
  omega
end
section
/-- both hold the same number of events, plans and constraints and the same arrays; the reference keeps the draft's count once more -/
def i_Rel (_ : Nat) (u : SX) (v : SY) : Prop := ∃ (n P c : Nat) (dr : Int32) (A L R B : Nat → Int32), u = (nI n, nI P, nI c, A, L, R, B) ∧ v = (nI n, nI P, dr, nI c, A, L, R, B) ∧ dr = A 8 ∧ n ≤ 4 ∧ 1 ≤ P ∧ P ≤ 4096 ∧ c ≤ 8 ∧ dz_Inv (nI n) A L R
theorem i_up {k : Nat} {u : SX} {v : SY} (h : i_Rel k u v) : i_Rel (k + 4) u v := h
theorem i_vc0 (k0 : Int32) : wpX_init (fun u => wpY_init (fun v => i_Rel 1 u v) k0) k0 := by
  obtain ⟨n, n2, n4, hX, hY⟩ := dz_ini k0
  obtain ⟨p1, p2⟩ := dz_pw n (by omega)
  have h0 : (0 : Int32) ≤ nI n := nI_pos' (by omega)
  exact hX _ (hY _ ⟨n, 8 ^ n, 0, 0, _, _, _, _, rfl, rfl, rfl, n4, p1, p2, by omega, fun _ => ⟨0, by omega, rfl⟩, fun _ => h0, fun _ => h0⟩)
theorem i_vc_events {k : Nat} {u : SX} {v : SY} (I : i_Rel k u v) (hk : k + 4 ≤ 2049) : wpX_events (fun r => wpY_events (fun r' => r' = r ∧ i_Rel (k + 4) u v) v) u := by
  have J : i_Rel (k + 4) u v := I
  obtain ⟨n, P, c, dr, A, L, R, B, rfl, rfl, hd, hn, hP1, hP, hc, hI⟩ := I
  exact ⟨rfl, J⟩
theorem i_vc_alternative {k : Nat} {u : SX} {v : SY} (I : i_Rel k u v) (hk : k + 4 ≤ 2049) (v1 : Int32) (v2 : Int32) (v3 : Int32) : wpX_alternative (fun r u' => wpY_alternative (fun r' v' => r' = r ∧ i_Rel (k + 4) u' v') v v1 v2 v3) u v1 v2 v3 := by
  have J : i_Rel (k + 4) u v := I
  obtain ⟨n, P, c, dr, A, L, R, B, rfl, rfl, hd, hn, hP1, hP, hc, hI⟩ := I
  unfold wpX_alternative wpY_alternative
  dsimp only
  by_cases g1 : v1 < 0 ∨ nI n < v1
  · exact dz_xpt_f g1 (br_t rfl (dz_ypt_f g1 (br_f dz_10 ⟨rfl, J⟩)))
  refine dz_xpt_t g1 (br_f dz_10 ?_)
  by_cases g2 : v2 < 0 ∨ nI n < v2
  · exact dz_xpt_f g2 (br_t rfl (dz_ypt_t g1 (br_t rfl (dz_ypt_f g2 (br_f dz_10 ⟨rfl, J⟩)))))
  refine dz_xpt_t g2 (br_f dz_10 ?_)
  by_cases g3 : v1 = v2
  · exact br_t g3 (dz_ypt_t g1 (br_t rfl (dz_ypt_t g2 (br_t rfl (br_t g3 ⟨rfl, J⟩)))))
  refine br_f g3 ?_
  by_cases g4 : v3 < -10
  · exact br_t g4 (dz_ypt_t g1 (br_t rfl (dz_ypt_t g2 (br_t rfl (br_f g3 (br_t g4 ⟨rfl, J⟩))))))
  refine br_f g4 ?_
  by_cases g5 : v3 ≤ 10
  · refine br_t g5 ?_
    by_cases g6 : A 8 < 3
    · refine br_t g6 ?_
      obtain ⟨d, d3, e⟩ := hI.1 8
      have d2 : d < 3 := by
        rw [e] at g6
        exact (nI_ltI (a := d) (b := 3) (by omega) (by decide)).mp g6
      refine dz_xput (s := 8) (d := d) (by omega) (by omega) e ?_
      dsimp only
      refine dz_ypt_t g1 (br_t rfl (dz_ypt_t g2 (br_t rfl (br_f g3 (br_f g4 (br_t g5 (br_t (by rw [hd]; exact g6) ?_)))))))
      refine dz_yput (s := 8) (d := d) (by omega) (by omega) e ?_
      dsimp only
      refine nm_e ⟨rfl, ?_⟩
      exact ⟨n, P, c, _, _, _, _, _, rfl, rfl, rfl, hn, hP1, hP, hc, dz_inv_put (by omega) (dz_lelt g1) (dz_lelt g2) hI⟩
    · exact br_f g6 (dz_ypt_t g1 (br_t rfl (dz_ypt_t g2 (br_t rfl (br_f g3 (br_f g4 (br_t g5 (br_f (by rw [hd]; exact g6) ⟨rfl, J⟩))))))))
  · exact br_f g5 (dz_ypt_t g1 (br_t rfl (dz_ypt_t g2 (br_t rfl (br_f g3 (br_f g4 (br_f g5 ⟨rfl, J⟩)))))))
theorem i_vc_clear {k : Nat} {u : SX} {v : SY} (I : i_Rel k u v) (hk : k + 4 ≤ 2049) : wpX_clear (fun r u' => wpY_clear (fun r' v' => r' = r ∧ i_Rel (k + 4) u' v') v) u := by
  obtain ⟨n, P, c, dr, A, L, R, B, rfl, rfl, hd, hn, hP1, hP, hc, hI⟩ := I
  exact nm_e (nm_e (nm_e ⟨hd, n, P, c, 0, _, _, _, _, rfl, rfl, pk_us.symm, hn, hP1, hP, hc, dz_inv_0 hI⟩))
theorem i_vc_add {k : Nat} {u : SX} {v : SY} (I : i_Rel k u v) (hk : k + 4 ≤ 2049) : wpX_add (fun r u' => wpY_add (fun r' v' => r' = r ∧ i_Rel (k + 4) u' v') v) u := by
  have J : i_Rel (k + 4) u v := I
  obtain ⟨n, P, c, dr, A, L, R, B, rfl, rfl, hd, hn, hP1, hP, hc, hI⟩ := I
  by_cases g1 : A 8 = 0
  · exact br_t g1 (br_t (hd.trans g1) ⟨rfl, J⟩)
  refine br_f g1 ?_
  by_cases g2 : c < 8
  · refine br_t (nI_lt (b := 8) g2 (by decide)) (dz_xcp (f := 8) (t := c) (by omega) (by omega) ?_)
    dsimp only
    refine nm_e (nm_r (nI_1 c) ?_)
    refine br_f (by rw [hd]; exact g1) (br_t (nI_lt (b := 8) g2 (by decide)) (dz_ycp (f := 8) (t := c) (by omega) (by omega) ?_))
    dsimp only
    refine nm_r (nI_1 c) (nm_e ⟨rfl, ?_⟩)
    exact ⟨n, P, c + 1, 0, _, _, _, _, rfl, rfl, pk_us.symm, hn, hP1, hP, by omega, dz_inv_0 (dz_inv_cp hI)⟩
  · have g3 : ¬ nI c < 8 := nI_nlt (b := 8) (by omega) (by omega)
    exact br_f g3 (br_f (by rw [hd]; exact g1) (br_f g3 ⟨rfl, J⟩))
theorem i_vc_remove {k : Nat} {u : SX} {v : SY} (I : i_Rel k u v) (hk : k + 4 ≤ 2049) (v1 : Int32) : wpX_remove (fun r u' => wpY_remove (fun r' v' => r' = r ∧ i_Rel (k + 4) u' v') v v1) u v1 := by
  have J : i_Rel (k + 4) u v := I
  obtain ⟨n, P, c, dr, A, L, R, B, rfl, rfl, hd, hn, hP1, hP, hc, hI⟩ := I
  unfold wpX_remove
  dsimp only
  by_cases g : v1 < 0 ∨ nI c ≤ v1
  · exact dz_xpo_f g (br_t rfl (br_c (fun _ => ⟨rfl, J⟩) (fun z => br_f (Int32.not_lt.mpr (g.resolve_left z)) ⟨rfl, J⟩)))
  refine dz_xpo_t g (br_f dz_10 ?_)
  have g0 : ¬ v1 < 0 := fun z => g (Or.inl z)
  have g1 : v1 < nI c := Int32.not_le.mp (fun z => g (Or.inr z))
  obtain ⟨s, hs, rfl⟩ := nI_of g0
  have sc : s < c := (nI_ltI hs (by omega)).mp g1
  obtain ⟨cc, rfl⟩ : ∃ cc, c = cc + 1 := ⟨c - 1, by omega⟩
  obtain ⟨A', L', R', B', h1, h2, h3, h4⟩ := dz_rem (n := nI n) (P := nI P) (cc := cc) (by omega) (cc - s) s A L R B (by omega) hI
  refine nm_r (nI_pred cc) ⟨cc - s + 1, h3 _ _ (by omega) ?_⟩
  refine br_f g0 (br_t g1 ⟨cc - s + 1, h4 _ _ _ (by omega) ⟨rfl, ?_⟩⟩)
  exact ⟨n, P, cc, dr, A', L', R', B', rfl, rfl, hd.trans h2.symm, hn, hP1, hP, by omega, h1⟩
theorem i_vc_size {k : Nat} {u : SX} {v : SY} (I : i_Rel k u v) (hk : k + 4 ≤ 2049) : wpX_size (fun r => wpY_size (fun r' => r' = r ∧ i_Rel (k + 4) u v) v) u := by
  have J : i_Rel (k + 4) u v := I
  obtain ⟨n, P, c, dr, A, L, R, B, rfl, rfl, hd, hn, hP1, hP, hc, hI⟩ := I
  exact ⟨rfl, J⟩
theorem i_vc_apart {k : Nat} {u : SX} {v : SY} (I : i_Rel k u v) (hk : k + 4 ≤ 2049) (v1 : Int32) (v2 : Int32) (v3 : Int32) : wpX_apart (fun r u' => wpY_apart (fun r' v' => r' = r ∧ i_Rel (k + 4) u' v') v v1 v2 v3) u v1 v2 v3 := by
  have J : i_Rel (k + 4) u v := I
  obtain ⟨n, P, c, dr, A, L, R, B, rfl, rfl, hd, hn, hP1, hP, hc, hI⟩ := I
  by_cases g : v1 < 0
  · exact nm_e (nm_e (dz_xev_f (Or.inl (dz_pneg g)) (br_t rfl (br_f (Int32.not_le.mpr g) ⟨rfl, J⟩))))
  obtain ⟨a, ha, rfl⟩ := nI_of g
  have p0 : (0 : Int32) ≤ nI a := nI_pos' ha
  obtain ⟨q1, q2, q3, q4⟩ := dz_pair ha
  have n8 : ¬ (8 : Int32) = 0 := by decide
  refine nm_r q1 (nm_r q2 ?_)
  by_cases g1 : nI (a / 8) < 0 ∨ nI n ≤ nI (a / 8)
  · exact dz_xev_f g1 (br_t rfl (br_t p0 ⟨n8, nm_r q3 ⟨n8, nm_r q4 (dz_yev_f g1 (br_f dz_10 ⟨rfl, J⟩))⟩⟩))
  refine dz_xev_t g1 (br_f dz_10 ?_)
  by_cases g2 : nI (a % 8) < 0 ∨ nI n ≤ nI (a % 8)
  · exact dz_xev_f g2 (br_t rfl (br_t p0 ⟨n8, nm_r q3 ⟨n8, nm_r q4 (dz_yev_t g1 (br_t rfl (dz_yev_f g2 (br_f dz_10 ⟨rfl, J⟩))))⟩⟩))
  refine dz_xev_t g2 (br_f dz_10 ?_)
  by_cases g3 : nI (a / 8) = nI (a % 8)
  · exact br_t g3 (br_t p0 ⟨n8, nm_r q3 ⟨n8, nm_r q4 (dz_yev_t g1 (br_t rfl (dz_yev_t g2 (br_t rfl (br_t g3 ⟨rfl, J⟩)))))⟩⟩)
  refine br_f g3 ?_
  by_cases g4 : v2 < 0
  · exact br_t g4 (br_t p0 ⟨n8, nm_r q3 ⟨n8, nm_r q4 (dz_yev_t g1 (br_t rfl (dz_yev_t g2 (br_t rfl (br_f g3 (br_t g4 ⟨rfl, J⟩))))))⟩⟩)
  refine br_f g4 ?_
  by_cases g5 : v2 ≤ 7
  · refine br_t g5 ?_
    by_cases g6 : v3 < 0
    · exact br_t g6 (br_t p0 ⟨n8, nm_r q3 ⟨n8, nm_r q4 (dz_yev_t g1 (br_t rfl (dz_yev_t g2 (br_t rfl (br_f g3 (br_f g4 (br_t g5 (br_t g6 ⟨rfl, J⟩))))))))⟩⟩)
    refine br_f g6 ?_
    by_cases g7 : v3 ≤ 7
    · refine br_t g7 ?_
      by_cases g8 : c ≤ 5
      · have x8 : nI c + 3 ≤ 8 := by
          rw [show nI c + 3 = nI (c + 3) from nI_add c 3]
          exact nI_le (b := 8) (by omega) (by decide)
        have y8 : nI c ≤ 5 := nI_le (b := 5) g8 (by decide)
        refine br_t x8 (dz_xap (post := fun r u' => wpY_apart (fun r' v' => r' = r ∧ i_Rel (k + 4) u' v') (nI n, nI P, dr, nI c, A, L, R, B) (nI a) v2 v3) g8 ?_)
        refine br_t p0 ⟨n8, nm_r q3 ⟨n8, nm_r q4 (dz_yev_t g1 (br_t rfl (dz_yev_t g2 (br_t rfl (br_f g3 (br_f g4 (br_t g5 (br_f g6 (br_t g7 (br_t y8 (dz_yap g8 ?_)))))))))))⟩⟩
        refine ⟨rfl, n, P, c + 3, dr, _, _, _, _, rfl, rfl, ?_, hn, hP1, hP, by omega, ?_⟩
        · rw [dz_ap8 g8]; exact hd
        · have i1 := dz_lele g1
          have i2 := dz_lele g2
          exact dz_inv_put (by omega) i2 i1 (dz_inv_0 (dz_inv_put (by omega) i1 i2 (dz_inv_0 (dz_inv_put (by omega) i2 i1 (dz_inv_put (by omega) i1 i2 (dz_inv_0 hI))))))
      · have x8 : ¬ nI c + 3 ≤ 8 := by
          rw [show nI c + 3 = nI (c + 3) from nI_add c 3]
          exact nI_ge (a := 8) (by omega) (by omega)
        have y8 : ¬ nI c ≤ 5 := nI_ge (a := 5) (by omega) (by omega)
        exact br_f x8 (br_t p0 ⟨n8, nm_r q3 ⟨n8, nm_r q4 (dz_yev_t g1 (br_t rfl (dz_yev_t g2 (br_t rfl (br_f g3 (br_f g4 (br_t g5 (br_f g6 (br_t g7 (br_f y8 ⟨rfl, J⟩))))))))))⟩⟩)
    · exact br_f g7 (br_t p0 ⟨n8, nm_r q3 ⟨n8, nm_r q4 (dz_yev_t g1 (br_t rfl (dz_yev_t g2 (br_t rfl (br_f g3 (br_f g4 (br_t g5 (br_f g6 (br_f g7 ⟨rfl, J⟩)))))))))⟩⟩)
  · exact br_f g5 (br_t p0 ⟨n8, nm_r q3 ⟨n8, nm_r q4 (dz_yev_t g1 (br_t rfl (dz_yev_t g2 (br_t rfl (br_f g3 (br_f g4 (br_f g5 ⟨rfl, J⟩)))))))⟩⟩)
theorem i_vc_solvable {k : Nat} {u : SX} {v : SY} (I : i_Rel k u v) (hk : k + 4 ≤ 2049) : wpX_solvable (fun r => wpY_solvable (fun r' => r' = r ∧ i_Rel (k + 4) u v) v) u := by
  have J : i_Rel (k + 4) u v := I
  obtain ⟨n, P, c, dr, A, L, R, B, rfl, rfl, hd, hn, hP1, hP, hc, hI⟩ := I
  unfold wpX_solvable wpY_solvable
  dsimp only
  refine dz_xfs (q := 0) hc hP hI.1 (by omega) ?_
  cases z : dz_fi (dz_so (nI n) A L R B c) (P - 0) 0 with
  | none =>
    refine br_t (by decide) (dz_ypo hc hP hI.1 hI.2.1 hI.2.2 ?_)
    rw [show dz_fi (dz_so (nI n) A L R B c) P 0 = none from z]
    exact br_t rfl ⟨rfl, J⟩
  | some j =>
    have hj : j < 2 ^ 31 := by
      have a := dz_fi_lt _ _ _ z
      omega
    refine br_f (nI_pos hj) (dz_ypo hc hP hI.1 hI.2.1 hI.2.2 ?_)
    rw [show dz_fi (dz_so (nI n) A L R B c) P 0 = some j from z]
    exact br_f dz_10 ⟨rfl, J⟩
theorem i_vc_earliest {k : Nat} {u : SX} {v : SY} (I : i_Rel k u v) (hk : k + 4 ≤ 2049) (v1 : Int32) : wpX_earliest (fun r => wpY_earliest (fun r' => r' = r ∧ i_Rel (k + 4) u v) v v1) u v1 := by
  have J : i_Rel (k + 4) u v := I
  obtain ⟨n, P, c, dr, A, L, R, B, rfl, rfl, hd, hn, hP1, hP, hc, hI⟩ := I
  unfold wpX_earliest wpY_earliest
  dsimp only
  by_cases g : v1 < 0 ∨ nI n ≤ v1
  · exact dz_xev_f g (br_t rfl (dz_yev_f g (br_f dz_10 ⟨rfl, J⟩)))
  refine dz_xev_t g (br_f dz_10 (dz_xgd hc hP hI.1 (br_c (fun z => ?_) (fun z => ?_))))
  · exact dz_yev_t g (br_t rfl (dz_ygd (Int32.le_refl _) (dz_lele g) hc hP hI.1 hI.2.1 hI.2.2 (br_t z ⟨rfl, J⟩)))
  · exact dz_yev_t g (br_t rfl (dz_ygd (Int32.le_refl _) (dz_lele g) hc hP hI.1 hI.2.1 hI.2.2 (br_f z ⟨rfl, J⟩)))
theorem i_vc_latest {k : Nat} {u : SX} {v : SY} (I : i_Rel k u v) (hk : k + 4 ≤ 2049) (v1 : Int32) : wpX_latest (fun r => wpY_latest (fun r' => r' = r ∧ i_Rel (k + 4) u v) v v1) u v1 := by
  have J : i_Rel (k + 4) u v := I
  obtain ⟨n, P, c, dr, A, L, R, B, rfl, rfl, hd, hn, hP1, hP, hc, hI⟩ := I
  unfold wpX_latest wpY_latest
  dsimp only
  by_cases g : v1 < 0 ∨ nI n ≤ v1
  · exact dz_xev_f g (br_t rfl (dz_yev_f g (br_f dz_10 ⟨rfl, J⟩)))
  refine dz_xev_t g (br_f dz_10 (dz_xgd hc hP hI.1 (br_c (fun z => ?_) (fun z => ?_))))
  · exact dz_yev_t g (br_t rfl (dz_ygd (dz_lele g) (Int32.le_refl _) hc hP hI.1 hI.2.1 hI.2.2 (br_t z ⟨rfl, J⟩)))
  · exact dz_yev_t g (br_t rfl (dz_ygd (dz_lele g) (Int32.le_refl _) hc hP hI.1 hI.2.1 hI.2.2 (br_f z ⟨rfl, J⟩)))
theorem i_vc_widest {k : Nat} {u : SX} {v : SY} (I : i_Rel k u v) (hk : k + 4 ≤ 2049) (v1 : Int32) (v2 : Int32) : wpX_widest (fun r => wpY_widest (fun r' => r' = r ∧ i_Rel (k + 4) u v) v v1 v2) u v1 v2 := by
  have J : i_Rel (k + 4) u v := I
  obtain ⟨n, P, c, dr, A, L, R, B, rfl, rfl, hd, hn, hP1, hP, hc, hI⟩ := I
  unfold wpX_widest wpY_widest
  dsimp only
  by_cases g : v1 < 0 ∨ nI n < v1
  · exact dz_xpt_f g (br_t rfl (dz_ypt_f g (br_f dz_10 ⟨rfl, J⟩)))
  refine dz_xpt_t g (br_f dz_10 ?_)
  by_cases g2 : v2 < 0 ∨ nI n < v2
  · exact dz_xpt_f g2 (br_t rfl (dz_ypt_t g (br_t rfl (dz_ypt_f g2 (br_f dz_10 ⟨rfl, J⟩)))))
  refine dz_xpt_t g2 (br_f dz_10 (dz_xgd hc hP hI.1 (br_c (fun z => ?_) (fun z => ?_))))
  · exact dz_ypt_t g (br_t rfl (dz_ypt_t g2 (br_t rfl (dz_ygd (dz_lelt g) (dz_lelt g2) hc hP hI.1 hI.2.1 hI.2.2 ⟨z, J⟩))))
  · exact dz_ypt_t g (br_t rfl (dz_ypt_t g2 (br_t rfl (dz_ygd (dz_lelt g) (dz_lelt g2) hc hP hI.1 hI.2.1 hI.2.2 ⟨rfl, J⟩))))
theorem i_vc_next {k : Nat} {u : SX} {v : SY} (I : i_Rel k u v) (hk : k + 4 ≤ 2049) (v1 : Int32) : wpX_next (fun r => wpY_next (fun r' => r' = r ∧ i_Rel (k + 4) u v) v v1) u v1 := by
  have J : i_Rel (k + 4) u v := I
  obtain ⟨n, P, c, dr, A, L, R, B, rfl, rfl, hd, hn, hP1, hP, hc, hI⟩ := I
  obtain ⟨Q, rfl⟩ : ∃ Q, P = Q + 1 := ⟨P - 1, by omega⟩
  by_cases g : v1 < nI (Q + 1) - 1
  · refine br_t g ?_
    rw [nI_pred] at g
    by_cases g0 : 0 ≤ v1
    · refine br_t g0 ?_
      obtain ⟨a, ha, rfl⟩ := nI_of (Int32.not_lt.mpr g0)
      have aQ : a < Q := (nI_ltI ha (by omega)).mp g
      unfold wX_next_24
      rw [nI_1]
      refine dz_xfs (q := a + 1) hc hP hI.1 (by omega) (dz_yne hc hP hI.1 hI.2.1 hI.2.2 ⟨congrArg dz_o ?_, J⟩)
      have e := dz_fi_skip (f := dz_nt (nI n) A L R B c (nI a)) (k := Q + 1 - (a + 1)) (a + 1) 0 (fun j _ j2 => by
        unfold dz_nt
        rw [decide_eq_true (nI_le (by omega) (by omega) : nI j ≤ nI a)]
        rfl)
      rw [show a + 1 + (Q + 1 - (a + 1)) = Q + 1 from by omega, Nat.zero_add] at e
      rw [e]
      exact dz_fi_c _ _ (fun j j1 j2 => by
        unfold dz_nt
        rw [decide_eq_false (nI_ge (by omega) (by omega) : ¬ nI j ≤ nI a)]
        rfl)
    · refine br_f g0 ?_
      unfold wX_next_24
      refine dz_xfs (q := 0) hc hP hI.1 (by omega) (dz_yne hc hP hI.1 hI.2.1 hI.2.2 ⟨congrArg dz_o ?_, J⟩)
      exact dz_fi_c _ _ (fun j j1 j2 => by
        have hj : ¬ nI j ≤ v1 := fun z => g0 (Int32.le_trans (nI_pos' (by omega)) z)
        unfold dz_nt
        rw [decide_eq_false hj]
        rfl)
  · refine br_f g (dz_yne hc hP hI.1 hI.2.1 hI.2.2 ⟨?_, J⟩)
    rw [nI_pred] at g
    have e := dz_fi_skip (f := dz_nt (nI n) A L R B c v1) (k := 0) (Q + 1) 0 (fun j _ j2 => by
      have hj : nI j ≤ v1 := Int32.le_trans (nI_le (by omega) (by omega) : nI j ≤ nI Q) (Int32.not_lt.mp g)
      unfold dz_nt
      rw [decide_eq_true hj]
      rfl)
    rw [show Q + 1 = Q + 1 + 0 from rfl, e]
    rfl
theorem i_vc_meets {k : Nat} {u : SX} {v : SY} (I : i_Rel k u v) (hk : k + 4 ≤ 2049) (v1 : Int32) : wpX_meets (fun r => wpY_meets (fun r' => r' = r ∧ i_Rel (k + 4) u v) v v1) u v1 := by
  have J : i_Rel (k + 4) u v := I
  obtain ⟨n, P, c, dr, A, L, R, B, rfl, rfl, hd, hn, hP1, hP, hc, hI⟩ := I
  by_cases g0 : v1 < 0
  · exact br_t g0 (br_t g0 ⟨rfl, J⟩)
  · by_cases g1 : v1 < nI P
    · refine br_f g0 (br_t g1 (dz_xis hc hI.1 (br_c (fun z => ?_) (fun z => ?_))))
      · exact br_f g0 (br_t g1 (dz_yso hc hI.1 hI.2.1 hI.2.2 (br_t z ⟨rfl, J⟩)))
      · exact br_f g0 (br_t g1 (dz_yso hc hI.1 hI.2.1 hI.2.2 (br_f z ⟨rfl, J⟩)))
    · exact br_f g0 (br_f g1 (br_f g0 (br_f g1 ⟨rfl, J⟩)))
theorem i_vc_shortest {k : Nat} {u : SX} {v : SY} (I : i_Rel k u v) (hk : k + 4 ≤ 2049) : wpX_shortest (fun r => wpY_shortest (fun r' => r' = r ∧ i_Rel (k + 4) u v) v) u := by
  have J : i_Rel (k + 4) u v := I
  obtain ⟨n, P, c, dr, A, L, R, B, rfl, rfl, hd, hn, hP1, hP, hc, hI⟩ := I
  exact dz_xsh hn hc hP hI.1 (dz_ysh hn hc hP hI.1 hI.2.1 hI.2.2 ⟨rfl, J⟩)
theorem i_vc_entailed {k : Nat} {u : SX} {v : SY} (I : i_Rel k u v) (hk : k + 4 ≤ 2049) : wpX_entailed (fun r => wpY_entailed (fun r' => r' = r ∧ i_Rel (k + 4) u v) v) u := by
  have J : i_Rel (k + 4) u v := I
  obtain ⟨n, P, c, dr, A, L, R, B, rfl, rfl, hd, hn, hP1, hP, hc, hI⟩ := I
  by_cases g : A 8 = 0
  · exact br_t g (br_t (hd.trans g) ⟨rfl, J⟩)
  · exact br_f g ⟨P + 1, dz_xen_l hc hP hI.1 P 0 (P + 1) (by omega) (by omega) (br_f (by rw [hd]; exact g) ⟨P + 1, dz_yen_l hc hP hI.1 hI.2.1 hI.2.2 P 0 (P + 1) (by omega) (by omega) ⟨rfl, J⟩⟩)⟩
theorem i_vc_redundant {k : Nat} {u : SX} {v : SY} (I : i_Rel k u v) (hk : k + 4 ≤ 2049) (v1 : Int32) : wpX_redundant (fun r => wpY_redundant (fun r' => r' = r ∧ i_Rel (k + 4) u v) v v1) u v1 := by
  have J : i_Rel (k + 4) u v := I
  obtain ⟨n, P, c, dr, A, L, R, B, rfl, rfl, hd, hn, hP1, hP, hc, hI⟩ := I
  unfold wpX_redundant
  dsimp only
  by_cases g : v1 < 0 ∨ nI c ≤ v1
  · exact dz_xpo_f g (br_t rfl (br_c (fun _ => ⟨rfl, J⟩) (fun z => br_f (Int32.not_lt.mpr (g.resolve_left z)) ⟨rfl, J⟩)))
  refine dz_xpo_t g (br_f dz_10 ?_)
  have g0 : ¬ v1 < 0 := fun z => g (Or.inl z)
  have g1 : v1 < nI c := Int32.not_le.mp (fun z => g (Or.inr z))
  obtain ⟨s, hs, rfl⟩ := nI_of g0
  have sc : s < c := (nI_ltI hs (by omega)).mp g1
  exact ⟨P + 1, dz_xre_l (by omega) hc hP hI.1 P 0 (P + 1) (by omega) (by omega) (br_f g0 (br_t g1 ⟨P + 1, dz_yre_l (by omega) hc hP hI.1 hI.2.1 hI.2.2 P 0 (P + 1) (by omega) (by omega) ⟨rfl, J⟩⟩))⟩
theorem i_vc_excess {k : Nat} {u : SX} {v : SY} (I : i_Rel k u v) (hk : k + 4 ≤ 2049) : wpX_excess (fun r => wpY_excess (fun r' => r' = r ∧ i_Rel (k + 4) u v) v) u := by
  have J : i_Rel (k + 4) u v := I
  obtain ⟨n, P, c, dr, A, L, R, B, rfl, rfl, hd, hn, hP1, hP, hc, hI⟩ := I
  exact dz_xex hc hP hI.1 (dz_yex hc hP hI.1 hI.2.1 hI.2.2 ⟨(pk_sub dz_mx_le).symm, J⟩)
end
