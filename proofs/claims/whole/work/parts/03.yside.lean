section
variable {post : Int32 → Prop} {n P c dr p : Int32} {A L R B : Nat → Int32}
theorem dz_ytm {e : Int32} (he : e ≤ n) (hp : post (dz_tm n p e)) : wpY_time post (n, P, dr, c, A, L, R, B) p e := by
  by_cases z : e = n
  · have a : dz_tm n p e = 0 := if_pos z
    rw [a] at hp
    exact br_f (by rw [z]; exact Int32.lt_irrefl) hp
  · have a : dz_tm n p e = (p >>> ((3 * ((n - 1) - e)) &&& 31)) &&& 7 := if_neg z
    rw [a] at hp
    refine br_t ?_ hp
    rw [Int32.lt_iff_toInt_lt]
    rw [Int32.le_iff_toInt_le] at he
    rw [← Int32.toInt_inj] at z
    omega
theorem dz_yms {s d : Nat} (hs : s < 9) (hd : d ≤ 3) (hA : A s = nI d) (hL : ∀ j, L j ≤ n) (hR : ∀ j, R j ≤ n) : ∀ k a m : Nat, a + k = d → k < m → post (dz_b (dz_mc n p L R B k (3 * s + a))) → wY_met_2 post (nI s) p n P dr c A L R B m (nI a) := by
  intro k
  induction k with
  | zero =>
    intro a m ha hm hp
    obtain ⟨m, rfl⟩ : ∃ m', m = m' + 1 := ⟨m - 1, by omega⟩
    have hc : (nI s).toNatClampNeg = s := nI_clamp (by omega)
    refine ⟨vp_in_nI hs (by omega), br_t ?_ hp⟩
    rw [hc, hA]
    exact nI_le (by omega) (by omega)
  | succ k ih =>
    intro a m ha hm hp
    obtain ⟨m, rfl⟩ : ∃ m', m = m' + 1 := ⟨m - 1, by omega⟩
    have hc : (nI s).toNatClampNeg = s := nI_clamp (by omega)
    have e : (3 : Int32) * nI s + nI a = nI (3 * s + a) := (congrArg (· + nI a) (pk_mul 3 s)).trans (nI_add (3 * s) a)
    have hj : (nI (3 * s + a)).toNatClampNeg = 3 * s + a := nI_clamp (by omega)
    have hv : vp_in (nI (3 * s + a)) 27 := vp_in_nI (by omega) (by omega)
    refine ⟨vp_in_nI hs (by omega), br_f ?_ (br_f (nI_ge (b := 3) (by omega) (by decide)) ?_)⟩
    · rw [hc, hA]
      exact nI_ge (by omega) (by omega)
    rw [e, hj]
    refine ⟨hv, nm_e ⟨hv, nm_e (dz_ytm (hL _) (dz_ytm (hR _) ⟨hv, ?_⟩))⟩⟩
    by_cases z : B (3 * s + a) < dz_tm n p (L (3 * s + a)) - dz_tm n p (R (3 * s + a))
    · rw [dz_mc, if_pos z] at hp
      exact br_t z (nm_r (nI_1 a) (ih (a + 1) m (by omega) (by omega) hp))
    · rw [dz_mc, if_neg z] at hp
      exact br_f z hp
theorem dz_ysl {s : Nat} (hs : s < 9) (hA : ∃ d, d ≤ 3 ∧ A s = nI d) (hL : ∀ j, L j ≤ n) (hR : ∀ j, R j ≤ n) (hp : post (dz_b (dz_ms n A L R B p s))) : wpY_met post (n, P, dr, c, A, L, R, B) (nI s) p := by
  obtain ⟨d, hd, e⟩ := hA
  unfold dz_ms at hp
  rw [e, nI_clamp (by omega)] at hp
  exact ⟨d + 1, dz_yms hs hd e hL hR d 0 (d + 1) (by omega) (by omega) hp⟩
theorem dz_ymf_l {cc : Nat} {w : Int32} (hcc : cc ≤ 8) (hA : ∀ s, ∃ d, d ≤ 3 ∧ A s = nI d) (hL : ∀ j, L j ≤ n) (hR : ∀ j, R j ≤ n) : ∀ k s m : Nat, s + k = cc → k < m → post (dz_b (dz_al (dz_g n A L R B w p) k s)) → wY_meetsFirst_3 post p (nI cc) w n P dr c A L R B m (nI s) := by
  intro k
  induction k with
  | zero =>
    intro s m hs hm hp
    obtain ⟨m, rfl⟩ : ∃ m', m = m' + 1 := ⟨m - 1, by omega⟩
    exact br_t (nI_le (by omega) (by omega)) hp
  | succ k ih =>
    intro s m hs hm hp
    obtain ⟨m, rfl⟩ : ∃ m', m = m' + 1 := ⟨m - 1, by omega⟩
    refine br_f (nI_ge (by omega) (by omega)) (br_f (nI_ge (b := 8) (by omega) (by decide)) (br_c (fun hw => ?_) (fun hw => dz_ysl (by omega) (hA s) hL hR ?_)))
    · rw [dz_al_t (dz_ge hw)] at hp
      exact nm_r (nI_1 s) (ih (s + 1) m (by omega) (by omega) hp)
    · have g : dz_g n A L R B w p s = dz_ms n A L R B p s := dz_gn hw
      cases z : dz_ms n A L R B p s
      · rw [dz_al_f (g.trans z)] at hp
        exact br_t dz_b0 hp
      · rw [dz_al_t (g.trans z)] at hp
        exact br_f dz_b1 (nm_r (nI_1 s) (ih (s + 1) m (by omega) (by omega) hp))
theorem dz_ymf {cc : Nat} {w : Int32} (hcc : cc ≤ 8) (hA : ∀ s, ∃ d, d ≤ 3 ∧ A s = nI d) (hL : ∀ j, L j ≤ n) (hR : ∀ j, R j ≤ n) (hp : post (dz_b (dz_al (dz_g n A L R B w p) cc 0))) : wpY_meetsFirst post (n, P, dr, c, A, L, R, B) p (nI cc) w :=
  ⟨cc + 1, dz_ymf_l hcc hA hL hR cc 0 (cc + 1) (by omega) (by omega) hp⟩
theorem dz_yso {cc : Nat} (hcc : cc ≤ 8) (hA : ∀ s, ∃ d, d ≤ 3 ∧ A s = nI d) (hL : ∀ j, L j ≤ n) (hR : ∀ j, R j ≤ n) (hp : post (dz_b (dz_al (dz_g n A L R B (-1) p) cc 0))) : wpY_solution post (n, P, dr, nI cc, A, L, R, B) p := by
  unfold wpY_solution
  exact dz_ymf hcc hA hL hR ⟨dz_nar _, hp⟩
theorem dz_ypo_l {mm PP : Nat} (hmm : mm ≤ 8) (hPP : PP ≤ 4096) (hA : ∀ s, ∃ d, d ≤ 3 ∧ A s = nI d) (hL : ∀ j, L j ≤ n) (hR : ∀ j, R j ≤ n) : ∀ k q m : Nat, q + k = PP → k < m → post (dz_b (dz_fi (dz_so n A L R B mm) k q).isSome) → wY_possible_2 post (nI mm) n (nI PP) dr c A L R B m (nI q) := by
  intro k
  induction k with
  | zero =>
    intro q m hq hm hp
    obtain ⟨m, rfl⟩ : ∃ m', m = m' + 1 := ⟨m - 1, by omega⟩
    exact br_t (nI_le (by omega) (by omega)) hp
  | succ k ih =>
    intro q m hq hm hp
    obtain ⟨m, rfl⟩ : ∃ m', m = m' + 1 := ⟨m - 1, by omega⟩
    refine br_f (nI_ge (by omega) (by omega)) (dz_ymf hmm hA hL hR ?_)
    cases z : dz_al (dz_g n A L R B (-1) (nI q)) mm 0
    · have t : dz_so n A L R B mm q = false := z
      rw [dz_fi_f t] at hp
      exact br_t dz_b0 (nm_r (nI_1 q) (ih (q + 1) m (by omega) (by omega) hp))
    · have t : dz_so n A L R B mm q = true := z
      rw [dz_fi_t t] at hp
      exact br_f dz_b1 hp
theorem dz_ypo {mm PP : Nat} (hmm : mm ≤ 8) (hPP : PP ≤ 4096) (hA : ∀ s, ∃ d, d ≤ 3 ∧ A s = nI d) (hL : ∀ j, L j ≤ n) (hR : ∀ j, R j ≤ n) (hp : post (dz_b (dz_fi (dz_so n A L R B mm) PP 0).isSome)) : wpY_possible post (n, nI PP, dr, c, A, L, R, B) (nI mm) :=
  ⟨PP + 1, dz_ypo_l hmm hPP hA hL hR PP 0 (PP + 1) (by omega) (by omega) hp⟩
theorem dz_ygd_l {cc PP : Nat} {i j : Int32} (hi : i ≤ n) (hj : j ≤ n) (hcc : cc ≤ 8) (hPP : PP ≤ 4096) (hA : ∀ s, ∃ d, d ≤ 3 ∧ A s = nI d) (hL : ∀ j, L j ≤ n) (hR : ∀ j, R j ≤ n) : ∀ (k q m : Nat) (b : Int32), q + k = PP → k < m → post (dz_fo (dz_gt n A L R B cc i j) (fun q => dz_tm n (nI q) i - dz_tm n (nI q) j) k q b) → wY_greatest_7 post i j n (nI PP) dr (nI cc) A L R B m b (nI q) := by
  intro k
  induction k with
  | zero =>
    intro q m b hq hm hp
    obtain ⟨m, rfl⟩ : ∃ m', m = m' + 1 := ⟨m - 1, by omega⟩
    exact br_t (nI_le (by omega) (by omega)) hp
  | succ k ih =>
    intro q m b hq hm hp
    obtain ⟨m, rfl⟩ : ∃ m', m = m' + 1 := ⟨m - 1, by omega⟩
    refine br_f (nI_ge (by omega) (by omega)) (dz_ytm hi (dz_ytm hj (nm_e (br_c (fun h => ?_) (fun h => dz_yso hcc hA hL hR ?_)))))
    · have t : dz_gt n A L R B cc i j q b = false := by unfold dz_gt; rw [decide_eq_true h]; exact Bool.and_false _
      rw [dz_fo_f t] at hp
      exact nm_r (nI_1 q) (ih (q + 1) m b (by omega) (by omega) hp)
    · cases z : dz_al (dz_g n A L R B (-1) (nI q)) cc 0
      · have t : dz_gt n A L R B cc i j q b = false := by unfold dz_gt; rw [z, Bool.false_and]
        rw [dz_fo_f t] at hp
        exact br_t dz_b0 (nm_r (nI_1 q) (ih (q + 1) m b (by omega) (by omega) hp))
      · have t : dz_gt n A L R B cc i j q b = true := by unfold dz_gt; rw [z, decide_eq_false h]; rfl
        rw [dz_fo_t t] at hp
        exact br_f dz_b1 (nm_r (nI_1 q) (ih (q + 1) m _ (by omega) (by omega) hp))
theorem dz_ygd {cc PP : Nat} {i j : Int32} (hi : i ≤ n) (hj : j ≤ n) (hcc : cc ≤ 8) (hPP : PP ≤ 4096) (hA : ∀ s, ∃ d, d ≤ 3 ∧ A s = nI d) (hL : ∀ j, L j ≤ n) (hR : ∀ j, R j ≤ n) (hp : post (dz_fo (dz_gt n A L R B cc i j) (fun q => dz_tm n (nI q) i - dz_tm n (nI q) j) PP 0 (-200))) : wpY_greatest post (n, nI PP, dr, nI cc, A, L, R, B) i j :=
  ⟨PP + 1, dz_ygd_l hi hj hcc hPP hA hL hR PP 0 (PP + 1) (-200) (by omega) (by omega) hp⟩
/-- plan q is a solution behind w -/
def dz_nt (n : Int32) (A L R B : Nat → Int32) (cc : Nat) (w : Int32) (q : Nat) : Bool := !decide (nI q ≤ w) && dz_so n A L R B cc q
theorem dz_yne_l {cc PP : Nat} {w : Int32} (hcc : cc ≤ 8) (hPP : PP ≤ 4096) (hA : ∀ s, ∃ d, d ≤ 3 ∧ A s = nI d) (hL : ∀ j, L j ≤ n) (hR : ∀ j, R j ≤ n) : ∀ k q m : Nat, q + k = PP → k < m → post (dz_o (dz_fi (dz_nt n A L R B cc w) k q)) → wY_next_2 post w n (nI PP) dr (nI cc) A L R B m (nI q) := by
  intro k
  induction k with
  | zero =>
    intro q m hq hm hp
    obtain ⟨m, rfl⟩ : ∃ m', m = m' + 1 := ⟨m - 1, by omega⟩
    exact br_t (nI_le (by omega) (by omega)) hp
  | succ k ih =>
    intro q m hq hm hp
    obtain ⟨m, rfl⟩ : ∃ m', m = m' + 1 := ⟨m - 1, by omega⟩
    refine br_f (nI_ge (by omega) (by omega)) (br_c (fun h => ?_) (fun h => dz_yso hcc hA hL hR ?_))
    · have t : dz_nt n A L R B cc w q = false := by unfold dz_nt; rw [decide_eq_true h]; rfl
      rw [dz_fi_f t] at hp
      exact nm_r (nI_1 q) (ih (q + 1) m (by omega) (by omega) hp)
    · cases z : dz_al (dz_g n A L R B (-1) (nI q)) cc 0
      · have t : dz_nt n A L R B cc w q = false := by unfold dz_nt dz_so; rw [z, Bool.and_false]
        rw [dz_fi_f t] at hp
        exact br_t dz_b0 (nm_r (nI_1 q) (ih (q + 1) m (by omega) (by omega) hp))
      · have t : dz_nt n A L R B cc w q = true := by unfold dz_nt dz_so; rw [z, decide_eq_false h]; rfl
        rw [dz_fi_t t] at hp
        exact br_f dz_b1 hp
theorem dz_yne {cc PP : Nat} {w : Int32} (hcc : cc ≤ 8) (hPP : PP ≤ 4096) (hA : ∀ s, ∃ d, d ≤ 3 ∧ A s = nI d) (hL : ∀ j, L j ≤ n) (hR : ∀ j, R j ≤ n) (hp : post (dz_o (dz_fi (dz_nt n A L R B cc w) PP 0))) : wpY_next post (n, nI PP, dr, nI cc, A, L, R, B) w :=
  ⟨PP + 1, dz_yne_l hcc hPP hA hL hR PP 0 (PP + 1) (by omega) (by omega) hp⟩
theorem dz_ylt_l {J : Int32 → Int32 → Prop} {b p : Int32} {nn : Nat} (hn : nn ≤ 4) : ∀ (k e m : Nat) (l : Int32), e + k = nn → k < m → ((b < 0 → wY_shortest_60 post J b p (dz_fo (dz_lt (nI nn) p) (fun e => dz_tm (nI nn) p (nI e)) k e l) (nI nn) P dr c A L R B) ∧ (¬ b < 0 → ((b ≤ dz_fo (dz_lt (nI nn) p) (fun e => dz_tm (nI nn) p (nI e)) k e l → J b (p + 1)) ∧ (¬ b ≤ dz_fo (dz_lt (nI nn) p) (fun e => dz_tm (nI nn) p (nI e)) k e l → wY_shortest_60 post J b p (dz_fo (dz_lt (nI nn) p) (fun e => dz_tm (nI nn) p (nI e)) k e l) (nI nn) P dr c A L R B)))) → wY_shortest_17 post J b p (nI nn) P dr c A L R B m l (nI e) := by
  intro k
  induction k with
  | zero =>
    intro e m l he hm hp
    obtain ⟨m, rfl⟩ : ∃ m', m = m' + 1 := ⟨m - 1, by omega⟩
    exact br_t (nI_le (by omega) (by omega)) ⟨hp.1, fun h => br_c (fun h2 => nm_e ((hp.2 h).1 h2)) (fun h2 => (hp.2 h).2 h2)⟩
  | succ k ih =>
    intro e m l he hm hp
    obtain ⟨m, rfl⟩ : ∃ m', m = m' + 1 := ⟨m - 1, by omega⟩
    have hl : nI e ≤ nI nn := nI_le (by omega) (by omega)
    refine br_f (nI_ge (by omega) (by omega)) (dz_ytm hl (br_c (fun h => ?_) (fun h => dz_ytm hl ?_)))
    · have t : dz_lt (nI nn) p e l = false := by unfold dz_lt; rw [decide_eq_true h]; rfl
      rw [dz_fo_f t] at hp
      exact nm_r (nI_1 e) (ih (e + 1) m l (by omega) (by omega) hp)
    · have t : dz_lt (nI nn) p e l = true := by unfold dz_lt; rw [decide_eq_false h]; rfl
      rw [dz_fo_t t] at hp
      exact nm_r (nI_1 e) (ih (e + 1) m _ (by omega) (by omega) hp)
theorem dz_y60 {J : Int32 → Int32 → Prop} {b l : Int32} {q cc : Nat} (hcc : cc ≤ 8) (hA : ∀ s, ∃ d, d ≤ 3 ∧ A s = nI d) (hL : ∀ j, L j ≤ n) (hR : ∀ j, R j ≤ n) (h0 : dz_al (dz_g n A L R B (-1) (nI q)) cc 0 = false → J b (nI (q + 1))) (h1 : dz_al (dz_g n A L R B (-1) (nI q)) cc 0 = true → J l (nI (q + 1))) : wY_shortest_60 post J b (nI q) l n P dr (nI cc) A L R B := by
  unfold wY_shortest_60
  refine dz_yso hcc hA hL hR ?_
  cases z : dz_al (dz_g n A L R B (-1) (nI q)) cc 0
  · exact br_t dz_b0 (nm_r (nI_1 q) (h0 z))
  · exact br_f dz_b1 (nm_r (nI_1 q) (h1 z))
theorem dz_ysh_l {cc PP nn : Nat} (hn : nn ≤ 4) (hcc : cc ≤ 8) (hPP : PP ≤ 4096) (hA : ∀ s, ∃ d, d ≤ 3 ∧ A s = nI d) (hL : ∀ j, L j ≤ nI nn) (hR : ∀ j, R j ≤ nI nn) : ∀ (k q m : Nat) (b : Int32), q + k = PP → k < m → post (dz_fo (dz_st nn A L R B cc) (fun q => dz_la nn (nI q)) k q b) → wY_shortest_4 post (nI nn) (nI PP) dr (nI cc) A L R B m b (nI q) := by
  intro k
  induction k with
  | zero =>
    intro q m b hq hm hp
    obtain ⟨m, rfl⟩ : ∃ m', m = m' + 1 := ⟨m - 1, by omega⟩
    exact br_t (nI_le (by omega) (by omega)) hp
  | succ k ih =>
    intro q m b hq hm hp
    obtain ⟨m, rfl⟩ : ∃ m', m = m' + 1 := ⟨m - 1, by omega⟩
    refine br_f (nI_ge (by omega) (by omega)) ⟨nn + 1, dz_ylt_l hn nn 0 (nn + 1) 0 (by omega) (by omega) ?_⟩
    have keep : dz_st nn A L R B cc q b = false → wY_shortest_4 post (nI nn) (nI PP) dr (nI cc) A L R B m b (nI (q + 1)) := fun t => by
      rw [dz_fo_f t] at hp
      exact ih (q + 1) m b (by omega) (by omega) hp
    have take : dz_st nn A L R B cc q b = true → wY_shortest_4 post (nI nn) (nI PP) dr (nI cc) A L R B m (dz_la nn (nI q)) (nI (q + 1)) := fun t => by
      rw [dz_fo_t t] at hp
      exact ih (q + 1) m _ (by omega) (by omega) hp
    have w0 : dz_al (dz_g (nI nn) A L R B (-1) (nI q)) cc 0 = false → dz_st nn A L R B cc q b = false := fun z => by unfold dz_st; rw [z, Bool.false_and]
    refine br_c (fun h => ?_) (fun h => br_c (fun h2 => ?_) (fun h2 => ?_))
    · exact dz_y60 hcc hA hL hR (fun z => keep (w0 z)) (fun z => take (by unfold dz_st; rw [z, decide_eq_true h]; rfl))
    · rw [nI_1]
      refine keep ?_
      have h2' : b ≤ dz_la nn (nI q) := h2
      unfold dz_st
      rw [decide_eq_false h, decide_eq_true h2']
      exact Bool.and_false _
    · refine dz_y60 hcc hA hL hR (fun z => keep (w0 z)) (fun z => take ?_)
      have h2' : ¬ b ≤ dz_la nn (nI q) := h2
      unfold dz_st
      rw [z, decide_eq_false h, decide_eq_false h2']
      rfl
theorem dz_ysh {cc PP nn : Nat} (hn : nn ≤ 4) (hcc : cc ≤ 8) (hPP : PP ≤ 4096) (hA : ∀ s, ∃ d, d ≤ 3 ∧ A s = nI d) (hL : ∀ j, L j ≤ nI nn) (hR : ∀ j, R j ≤ nI nn) (hp : post (dz_fo (dz_st nn A L R B cc) (fun q => dz_la nn (nI q)) PP 0 (-1))) : wpY_shortest post (nI nn, nI PP, dr, nI cc, A, L, R, B) :=
  ⟨PP + 1, dz_ysh_l hn hcc hPP hA hL hR PP 0 (PP + 1) (-1) (by omega) (by omega) hp⟩
theorem dz_yen_l {cc PP : Nat} (hcc : cc ≤ 8) (hPP : PP ≤ 4096) (hA : ∀ s, ∃ d, d ≤ 3 ∧ A s = nI d) (hL : ∀ j, L j ≤ n) (hR : ∀ j, R j ≤ n) : ∀ k q m : Nat, q + k = PP → k < m → post (dz_b (!(dz_fi (dz_et n A L R B cc) k q).isSome)) → wY_entailed_11 post n (nI PP) dr (nI cc) A L R B m (nI q) := by
  intro k
  induction k with
  | zero =>
    intro q m hq hm hp
    obtain ⟨m, rfl⟩ : ∃ m', m = m' + 1 := ⟨m - 1, by omega⟩
    exact br_t (nI_le (by omega) (by omega)) hp
  | succ k ih =>
    intro q m hq hm hp
    obtain ⟨m, rfl⟩ : ∃ m', m = m' + 1 := ⟨m - 1, by omega⟩
    refine br_f (nI_ge (by omega) (by omega)) (dz_ysl (s := 8) (by omega) (hA 8) hL hR ?_)
    cases y : dz_ms n A L R B (nI q) 8
    · refine br_t dz_b0 (dz_yso hcc hA hL hR ?_)
      cases z : dz_al (dz_g n A L R B (-1) (nI q)) cc 0
      · have t : dz_et n A L R B cc q = false := by unfold dz_et; rw [z, Bool.false_and]
        rw [dz_fi_f t] at hp
        exact br_t dz_b0 (nm_r (nI_1 q) (ih (q + 1) m (by omega) (by omega) hp))
      · have t : dz_et n A L R B cc q = true := by unfold dz_et; rw [z, y]; rfl
        rw [dz_fi_t t] at hp
        exact br_f dz_b1 hp
    · have t : dz_et n A L R B cc q = false := by unfold dz_et; rw [y]; exact Bool.and_false _
      rw [dz_fi_f t] at hp
      exact br_f dz_b1 (nm_r (nI_1 q) (ih (q + 1) m (by omega) (by omega) hp))
theorem dz_yre_l {cc PP w : Nat} (hw : w < 9) (hcc : cc ≤ 8) (hPP : PP ≤ 4096) (hA : ∀ s, ∃ d, d ≤ 3 ∧ A s = nI d) (hL : ∀ j, L j ≤ n) (hR : ∀ j, R j ≤ n) : ∀ k q m : Nat, q + k = PP → k < m → post (dz_b (!(dz_fi (dz_rt n A L R B cc w) k q).isSome)) → wY_redundant_16 post (nI w) n (nI PP) dr (nI cc) A L R B m (nI q) := by
  intro k
  induction k with
  | zero =>
    intro q m hq hm hp
    obtain ⟨m, rfl⟩ : ∃ m', m = m' + 1 := ⟨m - 1, by omega⟩
    exact br_t (nI_le (by omega) (by omega)) hp
  | succ k ih =>
    intro q m hq hm hp
    obtain ⟨m, rfl⟩ : ∃ m', m = m' + 1 := ⟨m - 1, by omega⟩
    refine br_f (nI_ge (by omega) (by omega)) (dz_ysl hw (hA w) hL hR ?_)
    cases z : dz_ms n A L R B (nI q) w
    · refine br_t dz_b0 (dz_ymf hcc hA hL hR ?_)
      cases y : dz_al (dz_g n A L R B (nI w) (nI q)) cc 0
      · have t : dz_rt n A L R B cc w q = false := by unfold dz_rt; rw [z, y]; rfl
        rw [dz_fi_f t] at hp
        exact br_t dz_b0 (nm_r (nI_1 q) (ih (q + 1) m (by omega) (by omega) hp))
      · have t : dz_rt n A L R B cc w q = true := by unfold dz_rt; rw [z, y]; rfl
        rw [dz_fi_t t] at hp
        exact br_f dz_b1 hp
    · have t : dz_rt n A L R B cc w q = false := by unfold dz_rt; rw [z]; rfl
      rw [dz_fi_f t] at hp
      exact br_f dz_b1 (nm_r (nI_1 q) (ih (q + 1) m (by omega) (by omega) hp))
/-- the reference gives constraints up from the last on, until what is left can be met -/
theorem dz_yex_l {cc PP M : Nat} (hM : M = dz_mx (dz_ph n A L R B cc) PP 0 0) (hcc : cc ≤ 8) (hPP : PP ≤ 4096) (hA : ∀ s, ∃ d, d ≤ 3 ∧ A s = nI d) (hL : ∀ j, L j ≤ n) (hR : ∀ j, R j ≤ n) (hp : post (nI (cc - M))) : ∀ k o m : Nat, o + k = cc - M → k < m → wY_excess_2 post n (nI PP) dr (nI cc) A L R B m (nI o) := by
  obtain ⟨m1, m2, m3⟩ := dz_mx_is (h := dz_ph n A L R B cc) PP 0 0
  rw [← hM] at m1 m2 m3
  have key : ∀ mm, mm ≤ cc → ((dz_fi (dz_so n A L R B mm) PP 0).isSome = true ↔ ∃ j, j < PP ∧ mm ≤ dz_ph n A L R B cc j) := by
    intro mm hm
    rw [dz_fi_is]
    constructor
    · rintro ⟨j, _, j2, j3⟩
      exact ⟨j, by omega, (dz_alpf hm).mp j3⟩
    · rintro ⟨j, j2, j3⟩
      exact ⟨j, by omega, by omega, (dz_alpf hm).mpr j3⟩
  intro k
  induction k with
  | zero =>
    intro o m ho hm
    obtain ⟨m, rfl⟩ : ∃ m', m = m' + 1 := ⟨m - 1, by omega⟩
    have e : o = cc - M := by omega
    subst e
    rcases m3 with m3 | ⟨j, _, j2, j3⟩
    · exact br_t (nI_le (by omega) (by omega)) hp
    · have jl : dz_ph n A L R B cc j ≤ cc := dz_ph_le
      have s : (dz_fi (dz_so n A L R B M) PP 0).isSome = true := (key M (by omega)).mpr ⟨j, by omega, by omega⟩
      refine br_c (fun _ => hp) (fun _ => ?_)
      rw [pk_sub (by omega : cc - M ≤ cc), show cc - (cc - M) = M from by omega]
      refine dz_ypo (by omega) hPP hA hL hR ?_
      rw [s]
      exact br_f dz_b1 hp
  | succ k ih =>
    intro o m ho hm
    obtain ⟨m, rfl⟩ : ∃ m', m = m' + 1 := ⟨m - 1, by omega⟩
    refine br_f (nI_ge (by omega) (by omega)) ?_
    rw [pk_sub (by omega : o ≤ cc)]
    refine dz_ypo (by omega) hPP hA hL hR ?_
    have s : (dz_fi (dz_so n A L R B (cc - o)) PP 0).isSome = false := by
      cases z : (dz_fi (dz_so n A L R B (cc - o)) PP 0).isSome
      · rfl
      · obtain ⟨j, j2, j3⟩ := (key (cc - o) (by omega)).mp z
        have a := m2 j (by omega) (by omega)
        omega
    rw [s]
    exact br_t dz_b0 (nm_r (nI_1 o) (ih (o + 1) m (by omega) (by omega)))
theorem dz_yex {cc PP : Nat} (hcc : cc ≤ 8) (hPP : PP ≤ 4096) (hA : ∀ s, ∃ d, d ≤ 3 ∧ A s = nI d) (hL : ∀ j, L j ≤ n) (hR : ∀ j, R j ≤ n) (hp : post (nI (cc - dz_mx (dz_ph n A L R B cc) PP 0 0))) : wpY_excess post (n, nI PP, dr, nI cc, A, L, R, B) :=
  ⟨cc - dz_mx (dz_ph n A L R B cc) PP 0 0 + 1, dz_yex_l rfl hcc hPP hA hL hR hp (cc - dz_mx (dz_ph n A L R B cc) PP 0 0) 0 _ (by omega) (by omega)⟩
theorem dz_mx_le {cc PP : Nat} : dz_mx (dz_ph n A L R B cc) PP 0 0 ≤ cc := by
  obtain ⟨_, _, m3⟩ := dz_mx_is (h := dz_ph n A L R B cc) PP 0 0
  rcases m3 with m3 | ⟨j, _, _, j3⟩
  · omega
  · rw [← j3]; exact dz_ph_le
end
