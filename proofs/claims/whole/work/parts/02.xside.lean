section
variable {post : Int32 → Prop} {n P c p : Int32} {A L R B : Nat → Int32}
theorem dz_xtm {e : Int32} (hp : post (dz_tm n p e)) : wpX_timeIn post (n, P, c, A, L, R, B) p e := by
  by_cases z : e = n
  · have a : dz_tm n p e = 0 := if_pos z
    rw [a] at hp
    exact br_t z hp
  · have a : dz_tm n p e = (p >>> ((3 * ((n - 1) - e)) &&& 31)) &&& 7 := if_neg z
    rw [a] at hp
    exact br_f z (nm_e hp)
theorem dz_xms {e : Nat} (he : e ≤ 27) : ∀ k j m : Nat, j + k = e → k < m → post (dz_b (dz_mc n p L R B k j)) → wX_meetsSlot_17 post p (nI e) n P c A L R B m (nI j) := by
  intro k
  induction k with
  | zero =>
    intro j m hj hm hp
    obtain ⟨m, rfl⟩ : ∃ m', m = m' + 1 := ⟨m - 1, by omega⟩
    exact br_t (nI_le (by omega) (by omega)) hp
  | succ k ih =>
    intro j m hj hm hp
    obtain ⟨m, rfl⟩ : ∃ m', m = m' + 1 := ⟨m - 1, by omega⟩
    have hv : vp_in (nI j) 27 := vp_in_nI (by omega) (by omega)
    have hc : (nI j).toNatClampNeg = j := nI_clamp (by omega)
    refine br_f (nI_ge (by omega) (by omega)) ⟨hv, dz_xtm ⟨hv, dz_xtm (nm_e ⟨hv, ?_⟩)⟩⟩
    rw [hc]
    by_cases z : B j < dz_tm n p (L j) - dz_tm n p (R j)
    · rw [dz_mc, if_pos z] at hp
      exact br_t z (nm_r (nI_1 j) (ih (j + 1) m (by omega) (by omega) hp))
    · rw [dz_mc, if_neg z] at hp
      exact br_f z hp
theorem dz_xsl {s : Nat} (hs : s < 9) (hA : ∃ d, d ≤ 3 ∧ A s = nI d) (hp : post (dz_b (dz_ms n A L R B p s))) : wpX_meetsSlot post (n, P, c, A, L, R, B) p (nI s) := by
  obtain ⟨d, hd, e⟩ := hA
  have hc : (nI s).toNatClampNeg = s := nI_clamp (by omega)
  unfold dz_ms at hp
  rw [e, nI_clamp (by omega)] at hp
  refine nm_r (pk_mul 3 s) ⟨vp_in_nI hs (by omega), nm_r (e' := nI (3 * s + d)) ?_ ⟨d + 1, dz_xms (by omega) d (3 * s) (d + 1) rfl (by omega) hp⟩⟩
  rw [hc, e, nI_add]
theorem dz_xis_l {cc : Nat} (hcc : cc ≤ 8) (hA : ∀ s, ∃ d, d ≤ 3 ∧ A s = nI d) : ∀ k s m : Nat, s + k = cc → k < m → post (dz_b (dz_al (dz_g n A L R B (-1) p) k s)) → wX_isSolution_2 post p n P (nI cc) A L R B m (nI s) := by
  intro k
  induction k with
  | zero =>
    intro s m hs hm hp
    obtain ⟨m, rfl⟩ : ∃ m', m = m' + 1 := ⟨m - 1, by omega⟩
    exact br_t (nI_le (by omega) (by omega)) hp
  | succ k ih =>
    intro s m hs hm hp
    obtain ⟨m, rfl⟩ : ∃ m', m = m' + 1 := ⟨m - 1, by omega⟩
    refine br_f (nI_ge (by omega) (by omega)) (dz_xsl (by omega) (hA s) ?_)
    have g : dz_g n A L R B (-1) p s = dz_ms n A L R B p s := dz_gm (by omega)
    cases z : dz_ms n A L R B p s
    · rw [dz_al_f (g.trans z)] at hp
      exact br_t dz_b0 hp
    · rw [dz_al_t (g.trans z)] at hp
      exact br_f dz_b1 (nm_r (nI_1 s) (ih (s + 1) m (by omega) (by omega) hp))
theorem dz_xis {cc : Nat} (hcc : cc ≤ 8) (hA : ∀ s, ∃ d, d ≤ 3 ∧ A s = nI d) (hp : post (dz_b (dz_al (dz_g n A L R B (-1) p) cc 0))) : wpX_isSolution post (n, P, nI cc, A, L, R, B) p :=
  ⟨cc + 1, dz_xis_l hcc hA cc 0 (cc + 1) (by omega) (by omega) hp⟩
theorem dz_xab_l {cc : Nat} {w : Int32} (hcc : cc ≤ 8) (hA : ∀ s, ∃ d, d ≤ 3 ∧ A s = nI d) : ∀ k s m : Nat, s + k = cc → k < m → post (dz_b (dz_al (dz_g n A L R B w p) k s)) → wX_meetsAllBut_2 post p w n P (nI cc) A L R B m (nI s) := by
  intro k
  induction k with
  | zero =>
    intro s m hs hm hp
    obtain ⟨m, rfl⟩ : ∃ m', m = m' + 1 := ⟨m - 1, by omega⟩
    exact br_t (nI_le (by omega) (by omega)) hp
  | succ k ih =>
    intro s m hs hm hp
    obtain ⟨m, rfl⟩ : ∃ m', m = m' + 1 := ⟨m - 1, by omega⟩
    refine br_f (nI_ge (by omega) (by omega)) (br_c (fun hw => ?_) (fun hw => dz_xsl (by omega) (hA s) ?_))
    · rw [dz_al_t (dz_ge hw)] at hp
      exact nm_r (nI_1 s) (ih (s + 1) m (by omega) (by omega) hp)
    · have g : dz_g n A L R B w p s = dz_ms n A L R B p s := dz_gn hw
      cases z : dz_ms n A L R B p s
      · rw [dz_al_f (g.trans z)] at hp
        exact br_t dz_b0 hp
      · rw [dz_al_t (g.trans z)] at hp
        exact br_f dz_b1 (nm_r (nI_1 s) (ih (s + 1) m (by omega) (by omega) hp))
theorem dz_xab {cc : Nat} {w : Int32} (hcc : cc ≤ 8) (hA : ∀ s, ∃ d, d ≤ 3 ∧ A s = nI d) (hp : post (dz_b (dz_al (dz_g n A L R B w p) cc 0))) : wpX_meetsAllBut post (n, P, nI cc, A, L, R, B) p w :=
  ⟨cc + 1, dz_xab_l hcc hA cc 0 (cc + 1) (by omega) (by omega) hp⟩
theorem dz_xpf_l {cc : Nat} (hcc : cc ≤ 8) (hA : ∀ s, ∃ d, d ≤ 3 ∧ A s = nI d) : ∀ k s m : Nat, s + k = cc → k < m → post (nI (dz_pf (dz_g n A L R B (-1) p) k s)) → wX_metFromTheStart_2 post p n P (nI cc) A L R B m (nI s) := by
  intro k
  induction k with
  | zero =>
    intro s m hs hm hp
    obtain ⟨m, rfl⟩ : ∃ m', m = m' + 1 := ⟨m - 1, by omega⟩
    exact br_t (nI_le (by omega) (by omega)) hp
  | succ k ih =>
    intro s m hs hm hp
    obtain ⟨m, rfl⟩ : ∃ m', m = m' + 1 := ⟨m - 1, by omega⟩
    refine br_f (nI_ge (by omega) (by omega)) (dz_xsl (by omega) (hA s) ?_)
    have g : dz_g n A L R B (-1) p s = dz_ms n A L R B p s := dz_gm (by omega)
    cases z : dz_ms n A L R B p s
    · rw [dz_pf_f (g.trans z)] at hp
      exact br_t dz_b0 hp
    · rw [dz_pf_t (g.trans z)] at hp
      exact br_f dz_b1 (nm_r (nI_1 s) (ih (s + 1) m (by omega) (by omega) hp))
theorem dz_xpf {cc : Nat} (hcc : cc ≤ 8) (hA : ∀ s, ∃ d, d ≤ 3 ∧ A s = nI d) (hp : post (nI (dz_pf (dz_g n A L R B (-1) p) cc 0))) : wpX_metFromTheStart post (n, P, nI cc, A, L, R, B) p :=
  ⟨cc + 1, dz_xpf_l hcc hA cc 0 (cc + 1) (by omega) (by omega) hp⟩
/-- plan q meets the first mm constraints -/
def dz_so (n : Int32) (A L R B : Nat → Int32) (mm : Nat) (q : Nat) : Bool := dz_al (dz_g n A L R B (-1) (nI q)) mm 0
theorem dz_xfs_l {cc PP : Nat} (hcc : cc ≤ 8) (hPP : PP ≤ 4096) (hA : ∀ s, ∃ d, d ≤ 3 ∧ A s = nI d) : ∀ k q m : Nat, q + k = PP → k < m → post (dz_o (dz_fi (dz_so n A L R B cc) k q)) → wX_firstSolution_2 post n (nI PP) (nI cc) A L R B m (nI q) := by
  intro k
  induction k with
  | zero =>
    intro q m hq hm hp
    obtain ⟨m, rfl⟩ : ∃ m', m = m' + 1 := ⟨m - 1, by omega⟩
    exact br_t (nI_le (by omega) (by omega)) hp
  | succ k ih =>
    intro q m hq hm hp
    obtain ⟨m, rfl⟩ : ∃ m', m = m' + 1 := ⟨m - 1, by omega⟩
    refine br_f (nI_ge (by omega) (by omega)) (dz_xis hcc hA ?_)
    cases z : dz_al (dz_g n A L R B (-1) (nI q)) cc 0
    · have t : dz_so n A L R B cc q = false := z
      rw [dz_fi_f t] at hp
      exact br_t dz_b0 (nm_r (nI_1 q) (ih (q + 1) m (by omega) (by omega) hp))
    · have t : dz_so n A L R B cc q = true := z
      rw [dz_fi_t t] at hp
      exact br_f dz_b1 hp
theorem dz_xfs {cc PP q : Nat} (hcc : cc ≤ 8) (hPP : PP ≤ 4096) (hA : ∀ s, ∃ d, d ≤ 3 ∧ A s = nI d) (hq : q ≤ PP) (hp : post (dz_o (dz_fi (dz_so n A L R B cc) (PP - q) q))) : wpX_firstSolution post (n, nI PP, nI cc, A, L, R, B) (nI q) :=
  ⟨PP - q + 1, dz_xfs_l hcc hPP hA (PP - q) q (PP - q + 1) (by omega) (by omega) hp⟩
/-- the greatest difference: a plan's gap counts where the plan is a solution and the gap is greater -/
def dz_gt (n : Int32) (A L R B : Nat → Int32) (cc : Nat) (i j : Int32) (q : Nat) (m : Int32) : Bool := dz_al (dz_g n A L R B (-1) (nI q)) cc 0 && !decide (dz_tm n (nI q) i - dz_tm n (nI q) j ≤ m)
theorem dz_xgd_l {cc PP : Nat} {i j : Int32} (hcc : cc ≤ 8) (hPP : PP ≤ 4096) (hA : ∀ s, ∃ d, d ≤ 3 ∧ A s = nI d) : ∀ (k q m : Nat) (b : Int32), q + k = PP → k < m → post (dz_fo (dz_gt n A L R B cc i j) (fun q => dz_tm n (nI q) i - dz_tm n (nI q) j) k q b) → wX_greatestDifference_7 post i j n (nI PP) (nI cc) A L R B m b (nI q) := by
  intro k
  induction k with
  | zero =>
    intro q m b hq hm hp
    obtain ⟨m, rfl⟩ : ∃ m', m = m' + 1 := ⟨m - 1, by omega⟩
    exact br_t (nI_le (by omega) (by omega)) hp
  | succ k ih =>
    intro q m b hq hm hp
    obtain ⟨m, rfl⟩ : ∃ m', m = m' + 1 := ⟨m - 1, by omega⟩
    refine br_f (nI_ge (by omega) (by omega)) (dz_xis hcc hA ?_)
    cases z : dz_al (dz_g n A L R B (-1) (nI q)) cc 0
    · have t : dz_gt n A L R B cc i j q b = false := by unfold dz_gt; rw [z, Bool.false_and]
      rw [dz_fo_f t] at hp
      exact br_t dz_b0 (nm_r (nI_1 q) (ih (q + 1) m b (by omega) (by omega) hp))
    · refine br_f dz_b1 (dz_xtm (dz_xtm (nm_e (br_c (fun h => ?_) (fun h => ?_)))))
      · have t : dz_gt n A L R B cc i j q b = false := by unfold dz_gt; rw [z, decide_eq_true h]; rfl
        rw [dz_fo_f t] at hp
        exact nm_r (nI_1 q) (ih (q + 1) m b (by omega) (by omega) hp)
      · have t : dz_gt n A L R B cc i j q b = true := by unfold dz_gt; rw [z, decide_eq_false h]; rfl
        rw [dz_fo_t t] at hp
        exact nm_r (nI_1 q) (ih (q + 1) m _ (by omega) (by omega) hp)
theorem dz_xgd {cc PP : Nat} {i j : Int32} (hcc : cc ≤ 8) (hPP : PP ≤ 4096) (hA : ∀ s, ∃ d, d ≤ 3 ∧ A s = nI d) (hp : post (dz_fo (dz_gt n A L R B cc i j) (fun q => dz_tm n (nI q) i - dz_tm n (nI q) j) PP 0 (-200))) : wpX_greatestDifference post (n, nI PP, nI cc, A, L, R, B) i j :=
  ⟨PP + 1, dz_xgd_l hcc hPP hA PP 0 (PP + 1) (-200) (by omega) (by omega) hp⟩
/-- the last time of plan p: events e on -/
def dz_lt (n p : Int32) (e : Nat) (m : Int32) : Bool := !decide (dz_tm n p (nI e) ≤ m)
theorem dz_xlt_l {nn : Nat} (hn : nn ≤ 4) : ∀ (k e m : Nat) (b : Int32), e + k = nn → k < m → post (dz_fo (dz_lt (nI nn) p) (fun e => dz_tm (nI nn) p (nI e)) k e b) → wX_lastTime_4 post p (nI nn) P c A L R B m b (nI e) := by
  intro k
  induction k with
  | zero =>
    intro e m b hq hm hp
    obtain ⟨m, rfl⟩ : ∃ m', m = m' + 1 := ⟨m - 1, by omega⟩
    exact br_t (nI_le (by omega) (by omega)) hp
  | succ k ih =>
    intro e m b hq hm hp
    obtain ⟨m, rfl⟩ : ∃ m', m = m' + 1 := ⟨m - 1, by omega⟩
    refine br_f (nI_ge (by omega) (by omega)) (dz_xtm (br_c (fun h => ?_) (fun h => ?_)))
    · have t : dz_lt (nI nn) p e b = false := by unfold dz_lt; rw [decide_eq_true h]; rfl
      rw [dz_fo_f t] at hp
      exact nm_r (nI_1 e) (ih (e + 1) m b (by omega) (by omega) hp)
    · have t : dz_lt (nI nn) p e b = true := by unfold dz_lt; rw [decide_eq_false h]; rfl
      rw [dz_fo_t t] at hp
      exact nm_r (nI_1 e) (ih (e + 1) m _ (by omega) (by omega) hp)
/-- the last time of plan p -/
def dz_la (nn : Nat) (p : Int32) : Int32 := dz_fo (dz_lt (nI nn) p) (fun e => dz_tm (nI nn) p (nI e)) nn 0 0
theorem dz_xlt {nn : Nat} (hn : nn ≤ 4) (hp : post (dz_la nn p)) : wpX_lastTime post (nI nn, P, c, A, L, R, B) p :=
  ⟨nn + 1, dz_xlt_l hn nn 0 (nn + 1) 0 (by omega) (by omega) hp⟩
/-- a solution that ends earlier than m, or the first one -/
def dz_st (nn : Nat) (A L R B : Nat → Int32) (cc : Nat) (q : Nat) (m : Int32) : Bool := dz_al (dz_g (nI nn) A L R B (-1) (nI q)) cc 0 && (decide (m < 0) || !decide (m ≤ dz_la nn (nI q)))
theorem dz_xsh_l {cc PP nn : Nat} (hn : nn ≤ 4) (hcc : cc ≤ 8) (hPP : PP ≤ 4096) (hA : ∀ s, ∃ d, d ≤ 3 ∧ A s = nI d) : ∀ (k q m : Nat) (b : Int32), q + k = PP → k < m → post (dz_fo (dz_st nn A L R B cc) (fun q => dz_la nn (nI q)) k q b) → wX_shortest_4 post (nI nn) (nI PP) (nI cc) A L R B m b (nI q) := by
  intro k
  induction k with
  | zero =>
    intro q m b hq hm hp
    obtain ⟨m, rfl⟩ : ∃ m', m = m' + 1 := ⟨m - 1, by omega⟩
    exact br_t (nI_le (by omega) (by omega)) hp
  | succ k ih =>
    intro q m b hq hm hp
    obtain ⟨m, rfl⟩ : ∃ m', m = m' + 1 := ⟨m - 1, by omega⟩
    refine br_f (nI_ge (by omega) (by omega)) (dz_xis hcc hA ?_)
    cases z : dz_al (dz_g (nI nn) A L R B (-1) (nI q)) cc 0
    · have t : dz_st nn A L R B cc q b = false := by unfold dz_st; rw [z, Bool.false_and]
      rw [dz_fo_f t] at hp
      exact br_t dz_b0 (nm_r (nI_1 q) (ih (q + 1) m b (by omega) (by omega) hp))
    · refine br_f dz_b1 (dz_xlt hn (br_c (fun h => ?_) (fun h => br_c (fun h2 => ?_) (fun h2 => ?_))))
      · have t : dz_st nn A L R B cc q b = true := by unfold dz_st; rw [z, decide_eq_true h]; rfl
        rw [dz_fo_t t] at hp
        exact nm_r (nI_1 q) (ih (q + 1) m _ (by omega) (by omega) hp)
      · have t : dz_st nn A L R B cc q b = false := by unfold dz_st; rw [z, decide_eq_false h, decide_eq_true h2]; rfl
        rw [dz_fo_f t] at hp
        exact nm_r (nI_1 q) (ih (q + 1) m b (by omega) (by omega) hp)
      · have t : dz_st nn A L R B cc q b = true := by unfold dz_st; rw [z, decide_eq_false h, decide_eq_false h2]; rfl
        rw [dz_fo_t t] at hp
        exact nm_r (nI_1 q) (ih (q + 1) m _ (by omega) (by omega) hp)
theorem dz_xsh {cc PP nn : Nat} (hn : nn ≤ 4) (hcc : cc ≤ 8) (hPP : PP ≤ 4096) (hA : ∀ s, ∃ d, d ≤ 3 ∧ A s = nI d) (hp : post (dz_fo (dz_st nn A L R B cc) (fun q => dz_la nn (nI q)) PP 0 (-1))) : wpX_shortest post (nI nn, nI PP, nI cc, A, L, R, B) :=
  ⟨PP + 1, dz_xsh_l hn hcc hPP hA PP 0 (PP + 1) (-1) (by omega) (by omega) hp⟩
/-- plan q is a solution that doesn't meet the draft -/
def dz_et (n : Int32) (A L R B : Nat → Int32) (cc : Nat) (q : Nat) : Bool := dz_al (dz_g n A L R B (-1) (nI q)) cc 0 && !dz_ms n A L R B (nI q) 8
theorem dz_xen_l {cc PP : Nat} (hcc : cc ≤ 8) (hPP : PP ≤ 4096) (hA : ∀ s, ∃ d, d ≤ 3 ∧ A s = nI d) : ∀ k q m : Nat, q + k = PP → k < m → post (dz_b (!(dz_fi (dz_et n A L R B cc) k q).isSome)) → wX_entailed_14 post n (nI PP) (nI cc) A L R B m (nI q) := by
  intro k
  induction k with
  | zero =>
    intro q m hq hm hp
    obtain ⟨m, rfl⟩ : ∃ m', m = m' + 1 := ⟨m - 1, by omega⟩
    exact br_t (nI_le (by omega) (by omega)) hp
  | succ k ih =>
    intro q m hq hm hp
    obtain ⟨m, rfl⟩ : ∃ m', m = m' + 1 := ⟨m - 1, by omega⟩
    refine br_f (nI_ge (by omega) (by omega)) (dz_xis hcc hA ?_)
    cases z : dz_al (dz_g n A L R B (-1) (nI q)) cc 0
    · have t : dz_et n A L R B cc q = false := by unfold dz_et; rw [z, Bool.false_and]
      rw [dz_fi_f t] at hp
      exact br_t dz_b0 (nm_r (nI_1 q) (ih (q + 1) m (by omega) (by omega) hp))
    · refine br_f dz_b1 (dz_xsl (s := 8) (by omega) (hA 8) ?_)
      cases y : dz_ms n A L R B (nI q) 8
      · have t : dz_et n A L R B cc q = true := by unfold dz_et; rw [z, y]; rfl
        rw [dz_fi_t t] at hp
        exact br_t dz_b0 hp
      · have t : dz_et n A L R B cc q = false := by unfold dz_et; rw [z, y]; rfl
        rw [dz_fi_f t] at hp
        exact br_f dz_b1 (nm_r (nI_1 q) (ih (q + 1) m (by omega) (by omega) hp))
/-- plan q doesn't meet slot w, and meets all the others -/
def dz_rt (n : Int32) (A L R B : Nat → Int32) (cc w : Nat) (q : Nat) : Bool := !dz_ms n A L R B (nI q) w && dz_al (dz_g n A L R B (nI w) (nI q)) cc 0
theorem dz_xre_l {cc PP w : Nat} (hw : w < 9) (hcc : cc ≤ 8) (hPP : PP ≤ 4096) (hA : ∀ s, ∃ d, d ≤ 3 ∧ A s = nI d) : ∀ k q m : Nat, q + k = PP → k < m → post (dz_b (!(dz_fi (dz_rt n A L R B cc w) k q).isSome)) → wX_redundant_12 post (nI w) n (nI PP) (nI cc) A L R B m (nI q) := by
  intro k
  induction k with
  | zero =>
    intro q m hq hm hp
    obtain ⟨m, rfl⟩ : ∃ m', m = m' + 1 := ⟨m - 1, by omega⟩
    exact br_t (nI_le (by omega) (by omega)) hp
  | succ k ih =>
    intro q m hq hm hp
    obtain ⟨m, rfl⟩ : ∃ m', m = m' + 1 := ⟨m - 1, by omega⟩
    refine br_f (nI_ge (by omega) (by omega)) (dz_xsl hw (hA w) ?_)
    cases z : dz_ms n A L R B (nI q) w
    · refine br_t dz_b0 (dz_xab hcc hA ?_)
      cases y : dz_al (dz_g n A L R B (nI w) (nI q)) cc 0
      · have t : dz_rt n A L R B cc w q = false := by unfold dz_rt; rw [z, y]; rfl
        rw [dz_fi_f t] at hp
        exact br_t dz_b0 (nm_r (nI_1 q) (ih (q + 1) m (by omega) (by omega) hp))
      · have t : dz_rt n A L R B cc w q = true := by unfold dz_rt; rw [z, y]; rfl
        rw [dz_fi_t t] at hp
        exact br_f dz_b1 hp
    · have t : dz_rt n A L R B cc w q = false := by unfold dz_rt; rw [z]; rfl
      rw [dz_fi_f t] at hp
      exact br_f dz_b1 (nm_r (nI_1 q) (ih (q + 1) m (by omega) (by omega) hp))
/-- how many constraints plan q meets from the first on -/
def dz_ph (n : Int32) (A L R B : Nat → Int32) (cc : Nat) (q : Nat) : Nat := dz_pf (dz_g n A L R B (-1) (nI q)) cc 0
theorem dz_ph_le {cc q : Nat} : dz_ph n A L R B cc q ≤ cc := by
  have h := (dz_pf_is (f := dz_g n A L R B (-1) (nI q)) cc 0).2.1
  unfold dz_ph
  omega
theorem dz_xex_l {cc PP : Nat} (hcc : cc ≤ 8) (hPP : PP ≤ 4096) (hA : ∀ s, ∃ d, d ≤ 3 ∧ A s = nI d) : ∀ k q m b : Nat, q + k = PP → b ≤ cc → k < m → post (nI cc - nI (dz_mx (dz_ph n A L R B cc) k q b)) → wX_excess_4 post n (nI PP) (nI cc) A L R B m (nI b) (nI q) := by
  intro k
  induction k with
  | zero =>
    intro q m b hq hb hm hp
    obtain ⟨m, rfl⟩ : ∃ m', m = m' + 1 := ⟨m - 1, by omega⟩
    exact br_t (nI_le (by omega) (by omega)) hp
  | succ k ih =>
    intro q m b hq hb hm hp
    obtain ⟨m, rfl⟩ : ∃ m', m = m' + 1 := ⟨m - 1, by omega⟩
    have hl : dz_ph n A L R B cc q ≤ cc := dz_ph_le
    refine br_f (nI_ge (by omega) (by omega)) (dz_xpf hcc hA ?_)
    refine pk_le (dz_ph n A L R B cc q) b (fun h => ?_) (fun h => ?_)
    · rw [dz_mx, if_pos h] at hp
      exact nm_r (nI_1 q) (ih (q + 1) m b (by omega) (by omega) (by omega) hp)
    · rw [dz_mx, if_neg (by omega)] at hp
      exact nm_r (nI_1 q) (ih (q + 1) m (dz_ph n A L R B cc q) (by omega) (by omega) (by omega) hp)
theorem dz_xex {cc PP : Nat} (hcc : cc ≤ 8) (hPP : PP ≤ 4096) (hA : ∀ s, ∃ d, d ≤ 3 ∧ A s = nI d) (hp : post (nI cc - nI (dz_mx (dz_ph n A L R B cc) PP 0 0))) : wpX_excess post (n, nI PP, nI cc, A, L, R, B) :=
  ⟨PP + 1, dz_xex_l hcc hPP hA PP 0 (PP + 1) 0 (by omega) (by omega) (by omega) hp⟩
end
