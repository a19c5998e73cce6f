section
variable {post : Int32 → Prop} {n P c dr e : Int32} {A L R B : Nat → Int32}
theorem dz_xev_t (h : ¬ (e < 0 ∨ n ≤ e)) (hp : post 1) : wpX_isEvent post (n, P, c, A, L, R, B) e := br_f (fun z => h (Or.inl z)) (br_f (fun z => h (Or.inr z)) hp)
theorem dz_xev_f (h : e < 0 ∨ n ≤ e) (hp : post 0) : wpX_isEvent post (n, P, c, A, L, R, B) e := br_c (fun _ => hp) (fun z => br_t (h.resolve_left z) hp)
theorem dz_xpo_t (h : ¬ (e < 0 ∨ c ≤ e)) (hp : post 1) : wpX_isPosition post (n, P, c, A, L, R, B) e := br_f (fun z => h (Or.inl z)) (br_f (fun z => h (Or.inr z)) hp)
theorem dz_xpo_f (h : e < 0 ∨ c ≤ e) (hp : post 0) : wpX_isPosition post (n, P, c, A, L, R, B) e := br_c (fun _ => hp) (fun z => br_t (h.resolve_left z) hp)
theorem dz_xpt_t (h : ¬ (e < 0 ∨ n < e)) (hp : post 1) : wpX_isEventOrOrigin post (n, P, c, A, L, R, B) e := br_f (fun z => h (Or.inl z)) (br_f (fun z => h (Or.inr z)) hp)
theorem dz_xpt_f (h : e < 0 ∨ n < e) (hp : post 0) : wpX_isEventOrOrigin post (n, P, c, A, L, R, B) e := br_c (fun _ => hp) (fun z => br_t (h.resolve_left z) hp)
theorem dz_yev_t (h : ¬ (e < 0 ∨ n ≤ e)) (hp : post 0) : wpY_badEvent post (n, P, dr, c, A, L, R, B) e := br_f (fun z => h (Or.inl z)) (br_t (Int32.not_le.mp (fun z => h (Or.inr z))) hp)
theorem dz_yev_f (h : e < 0 ∨ n ≤ e) (hp : post 1) : wpY_badEvent post (n, P, dr, c, A, L, R, B) e := br_c (fun _ => hp) (fun z => br_f (Int32.not_lt.mpr (h.resolve_left z)) hp)
theorem dz_ypt_t (h : ¬ (e < 0 ∨ n < e)) (hp : post 0) : wpY_badPoint post (n, P, dr, c, A, L, R, B) e := br_f (fun z => h (Or.inl z)) (br_t (Int32.not_lt.mp (fun z => h (Or.inr z))) hp)
theorem dz_ypt_f (h : e < 0 ∨ n < e) (hp : post 1) : wpY_badPoint post (n, P, dr, c, A, L, R, B) e := br_c (fun _ => hp) (fun z => br_f (Int32.not_le.mpr (h.resolve_left z)) hp)
theorem dz_10 : ¬ (1 : Int32) = 0 := by decide
theorem dz_lele (h : ¬ (e < 0 ∨ n ≤ e)) : e ≤ n := by
  have a : ¬ n ≤ e := fun z => h (Or.inr z)
  rw [Int32.le_iff_toInt_le] at a ⊢
  omega
theorem dz_lelt (h : ¬ (e < 0 ∨ n < e)) : e ≤ n := Int32.not_lt.mp (fun z => h (Or.inr z))
end
theorem dz_pow : ∀ j, j < 5 → (1 : Int32) <<< ((3 * nI j) &&& 31) = nI (8 ^ j) := by decide +kernel
theorem dz_pw : ∀ j, j < 5 → 1 ≤ 8 ^ j ∧ 8 ^ j ≤ 4096 := by decide +kernel
theorem dz_ini (k0 : Int32) : ∃ n, 2 ≤ n ∧ n ≤ 4 ∧ (∀ post : SX → Prop, post (nI n, nI (8 ^ n), 0, (fun _ => 0), (fun _ => 0), (fun _ => 0), (fun _ => 0)) → wpX_init post k0) ∧ (∀ post : SY → Prop, post (nI n, nI (8 ^ n), 0, 0, (fun _ => 0), (fun _ => 0), (fun _ => 0), (fun _ => 0)) → wpY_init post k0) := by
  by_cases h2 : (2 : Int32) ≤ k0
  · by_cases h4 : k0 ≤ 4
    · have h0 : ¬ k0 < 0 := by
        rw [Int32.le_iff_toInt_le, show (2 : Int32).toInt = 2 from by decide] at h2
        rw [Int32.lt_iff_toInt_lt, show (0 : Int32).toInt = 0 from by decide]
        omega
      obtain ⟨j, hj, rfl⟩ := nI_of2 (M := 4) (n := 4) (by decide) h0 h4
      have j2 : 2 ≤ j := (nI_leI (a := 2) (b := j) (by decide) (by omega)).mp h2
      exact ⟨j, j2, hj, fun post hp => br_t h2 (br_t h4 (nm_r (dz_pow j (by omega)) hp)), fun post hp => br_t h2 (br_t h4 (nm_r (dz_pow j (by omega)) hp))⟩
    · exact ⟨4, by omega, by omega, fun post hp => br_t h2 (br_f h4 (nm_r (dz_pow 4 (by omega)) hp)), fun post hp => br_t h2 (br_f h4 (nm_r (dz_pow 4 (by omega)) hp))⟩
  · exact ⟨2, by omega, by omega, fun post hp => br_f h2 (br_t (by decide) (nm_r (dz_pow 2 (by omega)) hp)), fun post hp => br_f h2 (nm_r (dz_pow 2 (by omega)) hp)⟩
/-- the pair's two events, on both sides -/
theorem dz_pair {a : Nat} (ha : a < 2 ^ 31) : nI a >>> ((3 : Int32) &&& 31) = nI (a / 8) ∧ nI a &&& 7 = nI (a % 8) ∧ nI a / 8 = nI (a / 8) ∧ nI a - nI a / 8 * 8 = nI (a % 8) := by
  refine ⟨pk_shrN ha _ 3 (by decide), pk_andN (by omega) 3 (by decide), pk_div (d := 8) ha (by omega) (by omega), pk_rem (d := 8) ha (by omega) (by omega)⟩
theorem dz_pneg {x : Int32} (h : x < 0) : x >>> ((3 : Int32) &&& 31) < 0 := by
  have z : (0 : Int32).toInt = 0 := by decide
  rw [Int32.lt_iff_toInt_lt, z] at h ⊢
  rw [pk_shr x _ 3 (by decide), Int.shiftRight_eq_div_pow]
  omega
