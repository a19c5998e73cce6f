/-- both hold the same number of events, plans and constraints and the same arrays; the reference keeps the draft's count once more -/
def i_Rel (_ : Nat) (u : SX) (v : SY) : Prop := ∃ (n P c : Nat) (dr : Int32) (A L R B : Nat → Int32), u = (nI n, nI P, nI c, A, L, R, B) ∧ v = (nI n, nI P, dr, nI c, A, L, R, B) ∧ dr = A 8 ∧ n ≤ 4 ∧ 1 ≤ P ∧ P ≤ 4096 ∧ c ≤ 8 ∧ dz_Inv (nI n) A L R
theorem i_up {k : Nat} {u : SX} {v : SY} (h : i_Rel k u v) : i_Rel (k + 4) u v := h
theorem i_vc0 (k0 : Int32) : wpX_init (fun u => wpY_init (fun v => i_Rel 1 u v) k0) k0 := by
  obtain ⟨n, n2, n4, hX, hY⟩ := dz_ini k0
  obtain ⟨p1, p2⟩ := dz_pw n (by omega)
  have h0 : (0 : Int32) ≤ nI n := nI_pos' (by omega)
  exact hX _ (hY _ ⟨n, 8 ^ n, 0, 0, _, _, _, _, rfl, rfl, rfl, n4, p1, p2, by omega, fun _ => ⟨0, by omega, rfl⟩, fun _ => h0, fun _ => h0⟩)
theorem i_vc_events {k : Nat} {u : SX} {v : SY} (I : i_Rel k u v) (hk : k + 4 ≤ 2049) : wpX_events (fun r => wpY_events (fun r' => r' = r ∧ i_Rel (k + 4) u v) v) u := by
  have J : i_Rel (k + 4) u v := I
  obtain ⟨n, P, c, dr, A, L, R, B, rfl, rfl, hd, hn, hP1, hP, hc, hI⟩ := I
  exact ⟨rfl, J⟩
theorem i_vc_alternative {k : Nat} {u : SX} {v : SY} (I : i_Rel k u v) (hk : k + 4 ≤ 2049) (v1 : Int32) (v2 : Int32) (v3 : Int32) : wpX_alternative (fun r u' => wpY_alternative (fun r' v' => r' = r ∧ i_Rel (k + 4) u' v') v v1 v2 v3) u v1 v2 v3 := by
  have J : i_Rel (k + 4) u v := I
  obtain ⟨n, P, c, dr, A, L, R, B, rfl, rfl, hd, hn, hP1, hP, hc, hI⟩ := I
  unfold wpX_alternative wpY_alternative
  dsimp only
  by_cases g1 : v1 < 0 ∨ nI n < v1
  · exact dz_xpt_f g1 (br_t rfl (dz_ypt_f g1 (br_f dz_10 ⟨rfl, J⟩)))
  refine dz_xpt_t g1 (br_f dz_10 ?_)
  by_cases g2 : v2 < 0 ∨ nI n < v2
  · exact dz_xpt_f g2 (br_t rfl (dz_ypt_t g1 (br_t rfl (dz_ypt_f g2 (br_f dz_10 ⟨rfl, J⟩)))))
  refine dz_xpt_t g2 (br_f dz_10 ?_)
  by_cases g3 : v1 = v2
  · exact br_t g3 (dz_ypt_t g1 (br_t rfl (dz_ypt_t g2 (br_t rfl (br_t g3 ⟨rfl, J⟩)))))
  refine br_f g3 ?_
  by_cases g4 : v3 < -10
  · exact br_t g4 (dz_ypt_t g1 (br_t rfl (dz_ypt_t g2 (br_t rfl (br_f g3 (br_t g4 ⟨rfl, J⟩))))))
  refine br_f g4 ?_
  by_cases g5 : v3 ≤ 10
  · refine br_t g5 ?_
    by_cases g6 : A 8 < 3
    · refine br_t g6 ?_
      obtain ⟨d, d3, e⟩ := hI.1 8
      have d2 : d < 3 := by
        rw [e] at g6
        exact (nI_ltI (a := d) (b := 3) (by omega) (by decide)).mp g6
      refine dz_xput (s := 8) (d := d) (by omega) (by omega) e ?_
      dsimp only
      refine dz_ypt_t g1 (br_t rfl (dz_ypt_t g2 (br_t rfl (br_f g3 (br_f g4 (br_t g5 (br_t (by rw [hd]; exact g6) ?_)))))))
      refine dz_yput (s := 8) (d := d) (by omega) (by omega) e ?_
      dsimp only
      refine nm_e ⟨rfl, ?_⟩
      exact ⟨n, P, c, _, _, _, _, _, rfl, rfl, rfl, hn, hP1, hP, hc, dz_inv_put (by omega) (dz_lelt g1) (dz_lelt g2) hI⟩
    · exact br_f g6 (dz_ypt_t g1 (br_t rfl (dz_ypt_t g2 (br_t rfl (br_f g3 (br_f g4 (br_t g5 (br_f (by rw [hd]; exact g6) ⟨rfl, J⟩))))))))
  · exact br_f g5 (dz_ypt_t g1 (br_t rfl (dz_ypt_t g2 (br_t rfl (br_f g3 (br_f g4 (br_f g5 ⟨rfl, J⟩)))))))
theorem i_vc_clear {k : Nat} {u : SX} {v : SY} (I : i_Rel k u v) (hk : k + 4 ≤ 2049) : wpX_clear (fun r u' => wpY_clear (fun r' v' => r' = r ∧ i_Rel (k + 4) u' v') v) u := by
  obtain ⟨n, P, c, dr, A, L, R, B, rfl, rfl, hd, hn, hP1, hP, hc, hI⟩ := I
  exact nm_e (nm_e (nm_e ⟨hd, n, P, c, 0, _, _, _, _, rfl, rfl, pk_us.symm, hn, hP1, hP, hc, dz_inv_0 hI⟩))
theorem i_vc_add {k : Nat} {u : SX} {v : SY} (I : i_Rel k u v) (hk : k + 4 ≤ 2049) : wpX_add (fun r u' => wpY_add (fun r' v' => r' = r ∧ i_Rel (k + 4) u' v') v) u := by
  have J : i_Rel (k + 4) u v := I
  obtain ⟨n, P, c, dr, A, L, R, B, rfl, rfl, hd, hn, hP1, hP, hc, hI⟩ := I
  by_cases g1 : A 8 = 0
  · exact br_t g1 (br_t (hd.trans g1) ⟨rfl, J⟩)
  refine br_f g1 ?_
  by_cases g2 : c < 8
  · refine br_t (nI_lt (b := 8) g2 (by decide)) (dz_xcp (f := 8) (t := c) (by omega) (by omega) ?_)
    dsimp only
    refine nm_e (nm_r (nI_1 c) ?_)
    refine br_f (by rw [hd]; exact g1) (br_t (nI_lt (b := 8) g2 (by decide)) (dz_ycp (f := 8) (t := c) (by omega) (by omega) ?_))
    dsimp only
    refine nm_r (nI_1 c) (nm_e ⟨rfl, ?_⟩)
    exact ⟨n, P, c + 1, 0, _, _, _, _, rfl, rfl, pk_us.symm, hn, hP1, hP, by omega, dz_inv_0 (dz_inv_cp hI)⟩
  · have g3 : ¬ nI c < 8 := nI_nlt (b := 8) (by omega) (by omega)
    exact br_f g3 (br_f (by rw [hd]; exact g1) (br_f g3 ⟨rfl, J⟩))
theorem i_vc_remove {k : Nat} {u : SX} {v : SY} (I : i_Rel k u v) (hk : k + 4 ≤ 2049) (v1 : Int32) : wpX_remove (fun r u' => wpY_remove (fun r' v' => r' = r ∧ i_Rel (k + 4) u' v') v v1) u v1 := by
  have J : i_Rel (k + 4) u v := I
  obtain ⟨n, P, c, dr, A, L, R, B, rfl, rfl, hd, hn, hP1, hP, hc, hI⟩ := I
  unfold wpX_remove
  dsimp only
  by_cases g : v1 < 0 ∨ nI c ≤ v1
  · exact dz_xpo_f g (br_t rfl (br_c (fun _ => ⟨rfl, J⟩) (fun z => br_f (Int32.not_lt.mpr (g.resolve_left z)) ⟨rfl, J⟩)))
  refine dz_xpo_t g (br_f dz_10 ?_)
  have g0 : ¬ v1 < 0 := fun z => g (Or.inl z)
  have g1 : v1 < nI c := Int32.not_le.mp (fun z => g (Or.inr z))
  obtain ⟨s, hs, rfl⟩ := nI_of g0
  have sc : s < c := (nI_ltI hs (by omega)).mp g1
  obtain ⟨cc, rfl⟩ : ∃ cc, c = cc + 1 := ⟨c - 1, by omega⟩
  obtain ⟨A', L', R', B', h1, h2, h3, h4⟩ := dz_rem (n := nI n) (P := nI P) (cc := cc) (by omega) (cc - s) s A L R B (by omega) hI
  refine nm_r (nI_pred cc) ⟨cc - s + 1, h3 _ _ (by omega) ?_⟩
  refine br_f g0 (br_t g1 ⟨cc - s + 1, h4 _ _ _ (by omega) ⟨rfl, ?_⟩⟩)
  exact ⟨n, P, cc, dr, A', L', R', B', rfl, rfl, hd.trans h2.symm, hn, hP1, hP, by omega, h1⟩
theorem i_vc_size {k : Nat} {u : SX} {v : SY} (I : i_Rel k u v) (hk : k + 4 ≤ 2049) : wpX_size (fun r => wpY_size (fun r' => r' = r ∧ i_Rel (k + 4) u v) v) u := by
  have J : i_Rel (k + 4) u v := I
  obtain ⟨n, P, c, dr, A, L, R, B, rfl, rfl, hd, hn, hP1, hP, hc, hI⟩ := I
  exact ⟨rfl, J⟩
theorem i_vc_apart {k : Nat} {u : SX} {v : SY} (I : i_Rel k u v) (hk : k + 4 ≤ 2049) (v1 : Int32) (v2 : Int32) (v3 : Int32) : wpX_apart (fun r u' => wpY_apart (fun r' v' => r' = r ∧ i_Rel (k + 4) u' v') v v1 v2 v3) u v1 v2 v3 := by
  have J : i_Rel (k + 4) u v := I
  obtain ⟨n, P, c, dr, A, L, R, B, rfl, rfl, hd, hn, hP1, hP, hc, hI⟩ := I
  by_cases g : v1 < 0
  · exact nm_e (nm_e (dz_xev_f (Or.inl (dz_pneg g)) (br_t rfl (br_f (Int32.not_le.mpr g) ⟨rfl, J⟩))))
  obtain ⟨a, ha, rfl⟩ := nI_of g
  have p0 : (0 : Int32) ≤ nI a := nI_pos' ha
  obtain ⟨q1, q2, q3, q4⟩ := dz_pair ha
  have n8 : ¬ (8 : Int32) = 0 := by decide
  refine nm_r q1 (nm_r q2 ?_)
  by_cases g1 : nI (a / 8) < 0 ∨ nI n ≤ nI (a / 8)
  · exact dz_xev_f g1 (br_t rfl (br_t p0 ⟨n8, nm_r q3 ⟨n8, nm_r q4 (dz_yev_f g1 (br_f dz_10 ⟨rfl, J⟩))⟩⟩))
  refine dz_xev_t g1 (br_f dz_10 ?_)
  by_cases g2 : nI (a % 8) < 0 ∨ nI n ≤ nI (a % 8)
  · exact dz_xev_f g2 (br_t rfl (br_t p0 ⟨n8, nm_r q3 ⟨n8, nm_r q4 (dz_yev_t g1 (br_t rfl (dz_yev_f g2 (br_f dz_10 ⟨rfl, J⟩))))⟩⟩))
  refine dz_xev_t g2 (br_f dz_10 ?_)
  by_cases g3 : nI (a / 8) = nI (a % 8)
  · exact br_t g3 (br_t p0 ⟨n8, nm_r q3 ⟨n8, nm_r q4 (dz_yev_t g1 (br_t rfl (dz_yev_t g2 (br_t rfl (br_t g3 ⟨rfl, J⟩)))))⟩⟩)
  refine br_f g3 ?_
  by_cases g4 : v2 < 0
  · exact br_t g4 (br_t p0 ⟨n8, nm_r q3 ⟨n8, nm_r q4 (dz_yev_t g1 (br_t rfl (dz_yev_t g2 (br_t rfl (br_f g3 (br_t g4 ⟨rfl, J⟩))))))⟩⟩)
  refine br_f g4 ?_
  by_cases g5 : v2 ≤ 7
  · refine br_t g5 ?_
    by_cases g6 : v3 < 0
    · exact br_t g6 (br_t p0 ⟨n8, nm_r q3 ⟨n8, nm_r q4 (dz_yev_t g1 (br_t rfl (dz_yev_t g2 (br_t rfl (br_f g3 (br_f g4 (br_t g5 (br_t g6 ⟨rfl, J⟩))))))))⟩⟩)
    refine br_f g6 ?_
    by_cases g7 : v3 ≤ 7
    · refine br_t g7 ?_
      by_cases g8 : c ≤ 5
      · have x8 : nI c + 3 ≤ 8 := by
          rw [show nI c + 3 = nI (c + 3) from nI_add c 3]
          exact nI_le (b := 8) (by omega) (by decide)
        have y8 : nI c ≤ 5 := nI_le (b := 5) g8 (by decide)
        refine br_t x8 (dz_xap (post := fun r u' => wpY_apart (fun r' v' => r' = r ∧ i_Rel (k + 4) u' v') (nI n, nI P, dr, nI c, A, L, R, B) (nI a) v2 v3) g8 ?_)
        refine br_t p0 ⟨n8, nm_r q3 ⟨n8, nm_r q4 (dz_yev_t g1 (br_t rfl (dz_yev_t g2 (br_t rfl (br_f g3 (br_f g4 (br_t g5 (br_f g6 (br_t g7 (br_t y8 (dz_yap g8 ?_)))))))))))⟩⟩
        refine ⟨rfl, n, P, c + 3, dr, _, _, _, _, rfl, rfl, ?_, hn, hP1, hP, by omega, ?_⟩
        · rw [dz_ap8 g8]; exact hd
        · have i1 := dz_lele g1
          have i2 := dz_lele g2
          exact dz_inv_put (by omega) i2 i1 (dz_inv_0 (dz_inv_put (by omega) i1 i2 (dz_inv_0 (dz_inv_put (by omega) i2 i1 (dz_inv_put (by omega) i1 i2 (dz_inv_0 hI))))))
      · have x8 : ¬ nI c + 3 ≤ 8 := by
          rw [show nI c + 3 = nI (c + 3) from nI_add c 3]
          exact nI_ge (a := 8) (by omega) (by omega)
        have y8 : ¬ nI c ≤ 5 := nI_ge (a := 5) (by omega) (by omega)
        exact br_f x8 (br_t p0 ⟨n8, nm_r q3 ⟨n8, nm_r q4 (dz_yev_t g1 (br_t rfl (dz_yev_t g2 (br_t rfl (br_f g3 (br_f g4 (br_t g5 (br_f g6 (br_t g7 (br_f y8 ⟨rfl, J⟩))))))))))⟩⟩)
    · exact br_f g7 (br_t p0 ⟨n8, nm_r q3 ⟨n8, nm_r q4 (dz_yev_t g1 (br_t rfl (dz_yev_t g2 (br_t rfl (br_f g3 (br_f g4 (br_t g5 (br_f g6 (br_f g7 ⟨rfl, J⟩)))))))))⟩⟩)
  · exact br_f g5 (br_t p0 ⟨n8, nm_r q3 ⟨n8, nm_r q4 (dz_yev_t g1 (br_t rfl (dz_yev_t g2 (br_t rfl (br_f g3 (br_f g4 (br_f g5 ⟨rfl, J⟩)))))))⟩⟩)
theorem i_vc_solvable {k : Nat} {u : SX} {v : SY} (I : i_Rel k u v) (hk : k + 4 ≤ 2049) : wpX_solvable (fun r => wpY_solvable (fun r' => r' = r ∧ i_Rel (k + 4) u v) v) u := by
  have J : i_Rel (k + 4) u v := I
  obtain ⟨n, P, c, dr, A, L, R, B, rfl, rfl, hd, hn, hP1, hP, hc, hI⟩ := I
  unfold wpX_solvable wpY_solvable
  dsimp only
  refine dz_xfs (q := 0) hc hP hI.1 (by omega) ?_
  cases z : dz_fi (dz_so (nI n) A L R B c) (P - 0) 0 with
  | none =>
    refine br_t (by decide) (dz_ypo hc hP hI.1 hI.2.1 hI.2.2 ?_)
    rw [show dz_fi (dz_so (nI n) A L R B c) P 0 = none from z]
    exact br_t rfl ⟨rfl, J⟩
  | some j =>
    have hj : j < 2 ^ 31 := by
      have a := dz_fi_lt _ _ _ z
      omega
    refine br_f (nI_pos hj) (dz_ypo hc hP hI.1 hI.2.1 hI.2.2 ?_)
    rw [show dz_fi (dz_so (nI n) A L R B c) P 0 = some j from z]
    exact br_f dz_10 ⟨rfl, J⟩
theorem i_vc_earliest {k : Nat} {u : SX} {v : SY} (I : i_Rel k u v) (hk : k + 4 ≤ 2049) (v1 : Int32) : wpX_earliest (fun r => wpY_earliest (fun r' => r' = r ∧ i_Rel (k + 4) u v) v v1) u v1 := by
  have J : i_Rel (k + 4) u v := I
  obtain ⟨n, P, c, dr, A, L, R, B, rfl, rfl, hd, hn, hP1, hP, hc, hI⟩ := I
  unfold wpX_earliest wpY_earliest
  dsimp only
  by_cases g : v1 < 0 ∨ nI n ≤ v1
  · exact dz_xev_f g (br_t rfl (dz_yev_f g (br_f dz_10 ⟨rfl, J⟩)))
  refine dz_xev_t g (br_f dz_10 (dz_xgd hc hP hI.1 (br_c (fun z => ?_) (fun z => ?_))))
  · exact dz_yev_t g (br_t rfl (dz_ygd (Int32.le_refl _) (dz_lele g) hc hP hI.1 hI.2.1 hI.2.2 (br_t z ⟨rfl, J⟩)))
  · exact dz_yev_t g (br_t rfl (dz_ygd (Int32.le_refl _) (dz_lele g) hc hP hI.1 hI.2.1 hI.2.2 (br_f z ⟨rfl, J⟩)))
theorem i_vc_latest {k : Nat} {u : SX} {v : SY} (I : i_Rel k u v) (hk : k + 4 ≤ 2049) (v1 : Int32) : wpX_latest (fun r => wpY_latest (fun r' => r' = r ∧ i_Rel (k + 4) u v) v v1) u v1 := by
  have J : i_Rel (k + 4) u v := I
  obtain ⟨n, P, c, dr, A, L, R, B, rfl, rfl, hd, hn, hP1, hP, hc, hI⟩ := I
  unfold wpX_latest wpY_latest
  dsimp only
  by_cases g : v1 < 0 ∨ nI n ≤ v1
  · exact dz_xev_f g (br_t rfl (dz_yev_f g (br_f dz_10 ⟨rfl, J⟩)))
  refine dz_xev_t g (br_f dz_10 (dz_xgd hc hP hI.1 (br_c (fun z => ?_) (fun z => ?_))))
  · exact dz_yev_t g (br_t rfl (dz_ygd (dz_lele g) (Int32.le_refl _) hc hP hI.1 hI.2.1 hI.2.2 (br_t z ⟨rfl, J⟩)))
  · exact dz_yev_t g (br_t rfl (dz_ygd (dz_lele g) (Int32.le_refl _) hc hP hI.1 hI.2.1 hI.2.2 (br_f z ⟨rfl, J⟩)))
theorem i_vc_widest {k : Nat} {u : SX} {v : SY} (I : i_Rel k u v) (hk : k + 4 ≤ 2049) (v1 : Int32) (v2 : Int32) : wpX_widest (fun r => wpY_widest (fun r' => r' = r ∧ i_Rel (k + 4) u v) v v1 v2) u v1 v2 := by
  have J : i_Rel (k + 4) u v := I
  obtain ⟨n, P, c, dr, A, L, R, B, rfl, rfl, hd, hn, hP1, hP, hc, hI⟩ := I
  unfold wpX_widest wpY_widest
  dsimp only
  by_cases g : v1 < 0 ∨ nI n < v1
  · exact dz_xpt_f g (br_t rfl (dz_ypt_f g (br_f dz_10 ⟨rfl, J⟩)))
  refine dz_xpt_t g (br_f dz_10 ?_)
  by_cases g2 : v2 < 0 ∨ nI n < v2
  · exact dz_xpt_f g2 (br_t rfl (dz_ypt_t g (br_t rfl (dz_ypt_f g2 (br_f dz_10 ⟨rfl, J⟩)))))
  refine dz_xpt_t g2 (br_f dz_10 (dz_xgd hc hP hI.1 (br_c (fun z => ?_) (fun z => ?_))))
  · exact dz_ypt_t g (br_t rfl (dz_ypt_t g2 (br_t rfl (dz_ygd (dz_lelt g) (dz_lelt g2) hc hP hI.1 hI.2.1 hI.2.2 ⟨z, J⟩))))
  · exact dz_ypt_t g (br_t rfl (dz_ypt_t g2 (br_t rfl (dz_ygd (dz_lelt g) (dz_lelt g2) hc hP hI.1 hI.2.1 hI.2.2 ⟨rfl, J⟩))))
theorem i_vc_next {k : Nat} {u : SX} {v : SY} (I : i_Rel k u v) (hk : k + 4 ≤ 2049) (v1 : Int32) : wpX_next (fun r => wpY_next (fun r' => r' = r ∧ i_Rel (k + 4) u v) v v1) u v1 := by
  have J : i_Rel (k + 4) u v := I
  obtain ⟨n, P, c, dr, A, L, R, B, rfl, rfl, hd, hn, hP1, hP, hc, hI⟩ := I
  obtain ⟨Q, rfl⟩ : ∃ Q, P = Q + 1 := ⟨P - 1, by omega⟩
  by_cases g : v1 < nI (Q + 1) - 1
  · refine br_t g ?_
    rw [nI_pred] at g
    by_cases g0 : 0 ≤ v1
    · refine br_t g0 ?_
      obtain ⟨a, ha, rfl⟩ := nI_of (Int32.not_lt.mpr g0)
      have aQ : a < Q := (nI_ltI ha (by omega)).mp g
      unfold wX_next_24
      rw [nI_1]
      refine dz_xfs (q := a + 1) hc hP hI.1 (by omega) (dz_yne hc hP hI.1 hI.2.1 hI.2.2 ⟨congrArg dz_o ?_, J⟩)
      have e := dz_fi_skip (f := dz_nt (nI n) A L R B c (nI a)) (k := Q + 1 - (a + 1)) (a + 1) 0 (fun j _ j2 => by
        unfold dz_nt
        rw [decide_eq_true (nI_le (by omega) (by omega) : nI j ≤ nI a)]
        rfl)
      rw [show a + 1 + (Q + 1 - (a + 1)) = Q + 1 from by omega, Nat.zero_add] at e
      rw [e]
      exact dz_fi_c _ _ (fun j j1 j2 => by
        unfold dz_nt
        rw [decide_eq_false (nI_ge (by omega) (by omega) : ¬ nI j ≤ nI a)]
        rfl)
    · refine br_f g0 ?_
      unfold wX_next_24
      refine dz_xfs (q := 0) hc hP hI.1 (by omega) (dz_yne hc hP hI.1 hI.2.1 hI.2.2 ⟨congrArg dz_o ?_, J⟩)
      exact dz_fi_c _ _ (fun j j1 j2 => by
        have hj : ¬ nI j ≤ v1 := fun z => g0 (Int32.le_trans (nI_pos' (by omega)) z)
        unfold dz_nt
        rw [decide_eq_false hj]
        rfl)
  · refine br_f g (dz_yne hc hP hI.1 hI.2.1 hI.2.2 ⟨?_, J⟩)
    rw [nI_pred] at g
    have e := dz_fi_skip (f := dz_nt (nI n) A L R B c v1) (k := 0) (Q + 1) 0 (fun j _ j2 => by
      have hj : nI j ≤ v1 := Int32.le_trans (nI_le (by omega) (by omega) : nI j ≤ nI Q) (Int32.not_lt.mp g)
      unfold dz_nt
      rw [decide_eq_true hj]
      rfl)
    rw [show Q + 1 = Q + 1 + 0 from rfl, e]
    rfl
theorem i_vc_meets {k : Nat} {u : SX} {v : SY} (I : i_Rel k u v) (hk : k + 4 ≤ 2049) (v1 : Int32) : wpX_meets (fun r => wpY_meets (fun r' => r' = r ∧ i_Rel (k + 4) u v) v v1) u v1 := by
  have J : i_Rel (k + 4) u v := I
  obtain ⟨n, P, c, dr, A, L, R, B, rfl, rfl, hd, hn, hP1, hP, hc, hI⟩ := I
  by_cases g0 : v1 < 0
  · exact br_t g0 (br_t g0 ⟨rfl, J⟩)
  · by_cases g1 : v1 < nI P
    · refine br_f g0 (br_t g1 (dz_xis hc hI.1 (br_c (fun z => ?_) (fun z => ?_))))
      · exact br_f g0 (br_t g1 (dz_yso hc hI.1 hI.2.1 hI.2.2 (br_t z ⟨rfl, J⟩)))
      · exact br_f g0 (br_t g1 (dz_yso hc hI.1 hI.2.1 hI.2.2 (br_f z ⟨rfl, J⟩)))
    · exact br_f g0 (br_f g1 (br_f g0 (br_f g1 ⟨rfl, J⟩)))
theorem i_vc_shortest {k : Nat} {u : SX} {v : SY} (I : i_Rel k u v) (hk : k + 4 ≤ 2049) : wpX_shortest (fun r => wpY_shortest (fun r' => r' = r ∧ i_Rel (k + 4) u v) v) u := by
  have J : i_Rel (k + 4) u v := I
  obtain ⟨n, P, c, dr, A, L, R, B, rfl, rfl, hd, hn, hP1, hP, hc, hI⟩ := I
  exact dz_xsh hn hc hP hI.1 (dz_ysh hn hc hP hI.1 hI.2.1 hI.2.2 ⟨rfl, J⟩)
theorem i_vc_entailed {k : Nat} {u : SX} {v : SY} (I : i_Rel k u v) (hk : k + 4 ≤ 2049) : wpX_entailed (fun r => wpY_entailed (fun r' => r' = r ∧ i_Rel (k + 4) u v) v) u := by
  have J : i_Rel (k + 4) u v := I
  obtain ⟨n, P, c, dr, A, L, R, B, rfl, rfl, hd, hn, hP1, hP, hc, hI⟩ := I
  by_cases g : A 8 = 0
  · exact br_t g (br_t (hd.trans g) ⟨rfl, J⟩)
  · exact br_f g ⟨P + 1, dz_xen_l hc hP hI.1 P 0 (P + 1) (by omega) (by omega) (br_f (by rw [hd]; exact g) ⟨P + 1, dz_yen_l hc hP hI.1 hI.2.1 hI.2.2 P 0 (P + 1) (by omega) (by omega) ⟨rfl, J⟩⟩)⟩
theorem i_vc_redundant {k : Nat} {u : SX} {v : SY} (I : i_Rel k u v) (hk : k + 4 ≤ 2049) (v1 : Int32) : wpX_redundant (fun r => wpY_redundant (fun r' => r' = r ∧ i_Rel (k + 4) u v) v v1) u v1 := by
  have J : i_Rel (k + 4) u v := I
  obtain ⟨n, P, c, dr, A, L, R, B, rfl, rfl, hd, hn, hP1, hP, hc, hI⟩ := I
  unfold wpX_redundant
  dsimp only
  by_cases g : v1 < 0 ∨ nI c ≤ v1
  · exact dz_xpo_f g (br_t rfl (br_c (fun _ => ⟨rfl, J⟩) (fun z => br_f (Int32.not_lt.mpr (g.resolve_left z)) ⟨rfl, J⟩)))
  refine dz_xpo_t g (br_f dz_10 ?_)
  have g0 : ¬ v1 < 0 := fun z => g (Or.inl z)
  have g1 : v1 < nI c := Int32.not_le.mp (fun z => g (Or.inr z))
  obtain ⟨s, hs, rfl⟩ := nI_of g0
  have sc : s < c := (nI_ltI hs (by omega)).mp g1
  exact ⟨P + 1, dz_xre_l (by omega) hc hP hI.1 P 0 (P + 1) (by omega) (by omega) (br_f g0 (br_t g1 ⟨P + 1, dz_yre_l (by omega) hc hP hI.1 hI.2.1 hI.2.2 P 0 (P + 1) (by omega) (by omega) ⟨rfl, J⟩⟩))⟩
theorem i_vc_excess {k : Nat} {u : SX} {v : SY} (I : i_Rel k u v) (hk : k + 4 ≤ 2049) : wpX_excess (fun r => wpY_excess (fun r' => r' = r ∧ i_Rel (k + 4) u v) v) u := by
  have J : i_Rel (k + 4) u v := I
  obtain ⟨n, P, c, dr, A, L, R, B, rfl, rfl, hd, hn, hP1, hP, hc, hI⟩ := I
  exact dz_xex hc hP hI.1 (dz_yex hc hP hI.1 hI.2.1 hI.2.2 ⟨(pk_sub dz_mx_le).symm, J⟩)
