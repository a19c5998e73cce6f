/-- what holds of every cell holds after a store -/
theorem dz_up {Q : Int32 → Prop} {F : Nat → Int32} {k : Nat} {x : Int32} (h : ∀ j, Q (F j)) (hx : Q x) : ∀ j, Q (upd F k x j) := by
  intro j
  by_cases e : j = k
  · rw [e, pk_us]; exact hx
  · rw [pk_un e]; exact h j
/-- three cells from b on become those from a on -/
def dz_cp (F : Nat → Int32) (a b : Nat) : Nat → Int32 := upd (upd (upd F b (F a)) (b + 1) (upd F b (F a) (a + 1))) (b + 2) (upd (upd F b (F a)) (b + 1) (upd F b (F a) (a + 1)) (a + 2))
theorem dz_cp_k {Q : Int32 → Prop} {F : Nat → Int32} {a b : Nat} (h : ∀ j, Q (F j)) : ∀ j, Q (dz_cp F a b j) := by
  have h1 := dz_up (Q := Q) (k := b) h (h a)
  have h2 := dz_up (Q := Q) (k := b + 1) h1 (h1 (a + 1))
  exact dz_up (Q := Q) (k := b + 2) h2 (h2 (a + 2))
/-- what both states hold of their arrays -/
def dz_Inv (n : Int32) (A L R : Nat → Int32) : Prop := (∀ s, ∃ d, d ≤ 3 ∧ A s = nI d) ∧ (∀ j, L j ≤ n) ∧ (∀ j, R j ≤ n)
theorem dz_inv_cp {n : Int32} {A L R : Nat → Int32} {f t a b : Nat} (h : dz_Inv n A L R) : dz_Inv n (upd A t (A f)) (dz_cp L a b) (dz_cp R a b) :=
  ⟨dz_up (Q := fun x => ∃ d, d ≤ 3 ∧ x = nI d) h.1 (h.1 f), dz_cp_k (Q := fun x => x ≤ n) h.2.1, dz_cp_k (Q := fun x => x ≤ n) h.2.2⟩
theorem dz_inv_put {n i j : Int32} {A L R : Nat → Int32} {s t d : Nat} (hd : d ≤ 3) (hi : i ≤ n) (hj : j ≤ n) (h : dz_Inv n A L R) : dz_Inv n (upd A s (nI d)) (upd L t i) (upd R t j) :=
  ⟨dz_up (Q := fun x => ∃ d, d ≤ 3 ∧ x = nI d) h.1 ⟨d, hd, rfl⟩, dz_up (Q := fun x => x ≤ n) h.2.1 hi, dz_up (Q := fun x => x ≤ n) h.2.2 hj⟩
theorem dz_inv_0 {n : Int32} {A L R : Nat → Int32} {s : Nat} (h : dz_Inv n A L R) : dz_Inv n (upd A s 0) L R :=
  ⟨dz_up (Q := fun x => ∃ d, d ≤ 3 ∧ x = nI d) h.1 ⟨0, by omega, rfl⟩, h.2.1, h.2.2⟩
section
variable {n P c dr i j k : Int32} {A L R B : Nat → Int32}
theorem dz_3s (s d : Nat) : (3 : Int32) * nI s + nI d = nI (3 * s + d) := (congrArg (· + nI d) (pk_mul 3 s)).trans (nI_add (3 * s) d)
theorem dz_xput {post : SX → Prop} {s d : Nat} (hs : s < 9) (hd : d ≤ 2) (hA : A s = nI d) (hp : post (n, P, c, upd A s (nI (d + 1)), upd L (3 * s + d) i, upd R (3 * s + d) j, upd B (3 * s + d) k)) : wpX_putAlternative post (n, P, c, A, L, R, B) (nI s) i j k := by
  have hc : (nI s).toNatClampNeg = s := nI_clamp (by omega)
  have hj : (nI (3 * s + d)).toNatClampNeg = 3 * s + d := nI_clamp (by omega)
  have hv : vp_in (nI s) 9 := vp_in_nI hs (by omega)
  have hw : vp_in (nI (3 * s + d)) 27 := vp_in_nI (by omega) (by omega)
  refine ⟨hv, nm_r (e' := nI (3 * s + d)) (by rw [hc, hA]; exact dz_3s s d) ⟨hw, nm_r (e' := upd L (3 * s + d) i) (by rw [hj]) ⟨hw, nm_r (e' := upd R (3 * s + d) j) (by rw [hj]) ⟨hw, nm_r (e' := upd B (3 * s + d) k) (by rw [hj]) ⟨hv, hv, nm_r (e' := upd A s (nI (d + 1))) (by rw [hc, hA, nI_1]) hp⟩⟩⟩⟩⟩
theorem dz_yput {post : SY → Prop} {s d : Nat} (hs : s < 9) (hd : d ≤ 2) (hA : A s = nI d) (hp : post (n, P, dr, c, upd A s (nI (d + 1)), upd L (3 * s + d) i, upd R (3 * s + d) j, upd B (3 * s + d) k)) : wpY_compare post (n, P, dr, c, A, L, R, B) (nI s) i j k := by
  have hc : (nI s).toNatClampNeg = s := nI_clamp (by omega)
  have hj : (nI (3 * s + d)).toNatClampNeg = 3 * s + d := nI_clamp (by omega)
  have hv : vp_in (nI s) 9 := vp_in_nI hs (by omega)
  have hw : vp_in (nI (3 * s + d)) 27 := vp_in_nI (by omega) (by omega)
  refine ⟨hv, nm_r (e' := nI d) (by rw [hc, hA]) (br_t (nI_le (b := 2) hd (by decide)) ?_)⟩
  rw [dz_3s, hj, hc, nI_1]
  exact ⟨hw, nm_e ⟨hw, nm_e ⟨hw, nm_e ⟨hv, nm_e hp⟩⟩⟩⟩
theorem dz_xcp_s {post : SX → Prop} {f t m z : Nat} (hf : f < 9) (ht : t < 9) (hz : z < 3) (h : wX_copySlot_12 post (nI f) (nI t) (nI (3 * f)) (nI (3 * t)) n P c m (nI (z + 1)) A (upd L (3 * t + z) (L (3 * f + z))) (upd R (3 * t + z) (R (3 * f + z))) (upd B (3 * t + z) (B (3 * f + z)))) : wX_copySlot_12 post (nI f) (nI t) (nI (3 * f)) (nI (3 * t)) n P c (m + 1) (nI z) A L R B := by
  have hF : (nI (3 * f + z)).toNatClampNeg = 3 * f + z := nI_clamp (by omega)
  have hT : (nI (3 * t + z)).toNatClampNeg = 3 * t + z := nI_clamp (by omega)
  have vF : vp_in (nI (3 * f + z)) 27 := vp_in_nI (by omega) (by omega)
  have vT : vp_in (nI (3 * t + z)) 27 := vp_in_nI (by omega) (by omega)
  refine br_f (nI_ge (b := 3) hz (by decide)) ?_
  rw [nI_add, nI_add, hF, hT]
  exact ⟨vF, vT, nm_e ⟨vF, vT, nm_e ⟨vF, vT, nm_e (nm_r (nI_1 z) h)⟩⟩⟩
theorem dz_xcp {post : SX → Prop} {f t : Nat} (hf : f < 9) (ht : t < 9) (hp : post (n, P, c, upd A t (A f), dz_cp L (3 * f) (3 * t), dz_cp R (3 * f) (3 * t), dz_cp B (3 * f) (3 * t))) : wpX_copySlot post (n, P, c, A, L, R, B) (nI f) (nI t) := by
  have cf : (nI f).toNatClampNeg = f := nI_clamp (by omega)
  have ct : (nI t).toNatClampNeg = t := nI_clamp (by omega)
  refine nm_r (pk_mul 3 f) (nm_r (pk_mul 3 t) ⟨4, dz_xcp_s (z := 0) hf ht (by omega) (dz_xcp_s (z := 1) hf ht (by omega) (dz_xcp_s (z := 2) hf ht (by omega) ?_))⟩)
  refine br_t (nI_le (a := 3) (b := 3) (by omega) (by decide)) ⟨vp_in_nI hf (by omega), vp_in_nI ht (by omega), nm_r (e' := upd A t (A f)) (by rw [cf, ct]) hp⟩
theorem dz_ycp_s {post : SY → Prop} {f t m z : Nat} (hf : f < 9) (ht : t < 9) (hz : z < 3) (h : wY_copy_14 post (nI f) (nI t) n P dr c m (nI (z + 1)) A (upd L (3 * t + z) (L (3 * f + z))) (upd R (3 * t + z) (R (3 * f + z))) (upd B (3 * t + z) (B (3 * f + z)))) : wY_copy_14 post (nI f) (nI t) n P dr c (m + 1) (nI z) A L R B := by
  have hF : (nI (3 * f + z)).toNatClampNeg = 3 * f + z := nI_clamp (by omega)
  have hT : (nI (3 * t + z)).toNatClampNeg = 3 * t + z := nI_clamp (by omega)
  have vF : vp_in (nI (3 * f + z)) 27 := vp_in_nI (by omega) (by omega)
  have vT : vp_in (nI (3 * t + z)) 27 := vp_in_nI (by omega) (by omega)
  refine br_f (nI_ge (b := 3) hz (by decide)) ?_
  rw [dz_3s, dz_3s, hF, hT]
  exact ⟨vF, vT, nm_e ⟨vF, vT, nm_e ⟨vF, vT, nm_e (nm_r (nI_1 z) h)⟩⟩⟩
theorem dz_ycp {post : SY → Prop} {f t : Nat} (hf : f < 9) (ht : t < 9) (hp : post (n, P, dr, c, upd A t (A f), dz_cp L (3 * f) (3 * t), dz_cp R (3 * f) (3 * t), dz_cp B (3 * f) (3 * t))) : wpY_copy post (n, P, dr, c, A, L, R, B) (nI f) (nI t) := by
  have cf : (nI f).toNatClampNeg = f := nI_clamp (by omega)
  have ct : (nI t).toNatClampNeg = t := nI_clamp (by omega)
  refine ⟨vp_in_nI hf (by omega), vp_in_nI ht (by omega), nm_r (e' := upd A t (A f)) (by rw [cf, ct]) ⟨4, dz_ycp_s (z := 0) hf ht (by omega) (dz_ycp_s (z := 1) hf ht (by omega) (dz_ycp_s (z := 2) hf ht (by omega) ?_))⟩⟩
  exact br_t (nI_le (a := 3) (b := 3) (by omega) (by decide)) hp
/-- a slot after the list begins with one alternative -/
theorem dz_xst {post : SX → Prop} {s : Nat} (hs : s < 9) (hp : post (n, P, nI (s + 1), upd (upd A s 0) s (nI 1), upd L (3 * s) i, upd R (3 * s) j, upd B (3 * s) k)) : wpX_startConstraint post (n, P, nI s, A, L, R, B) i j k := by
  have hc : (nI s).toNatClampNeg = s := nI_clamp (by omega)
  refine ⟨vp_in_nI hs (by omega), nm_r (e' := upd A s 0) (by rw [hc]) (dz_xput (d := 0) hs (by omega) pk_us ?_)⟩
  exact nm_r (nI_1 s) hp
/-- remove: both sides move the slots behind s up, and hold the same arrays then -/
theorem dz_rem {n P : Int32} {cc : Nat} (hc : cc ≤ 7) : ∀ (q s : Nat) (A L R B : Nat → Int32), s + q = cc → dz_Inv n A L R → ∃ A' L' R' B', dz_Inv n A' L' R' ∧ A' 8 = A 8 ∧ (∀ (m : Nat) (post : Int32 → SX → Prop), q < m → post (nI cc) (n, P, nI cc, A', L', R', B') → wX_remove_22 post m (nI s) n P (nI cc) A L R B) ∧ (∀ (m : Nat) (dr : Int32) (post : Int32 → SY → Prop), q < m → post (nI cc) (n, P, dr, nI cc, A', L', R', B') → wY_remove_16 post m (nI s) n P dr (nI (cc + 1)) A L R B) := by
  intro q
  induction q with
  | zero =>
    intro s A L R B hs hI
    refine ⟨A, L, R, B, hI, rfl, fun m post hm hp => ?_, fun m dr post hm hp => ?_⟩
    · obtain ⟨m, rfl⟩ : ∃ m', m = m' + 1 := ⟨m - 1, by omega⟩
      exact br_t (nI_le (by omega) (by omega)) hp
    · obtain ⟨m, rfl⟩ : ∃ m', m = m' + 1 := ⟨m - 1, by omega⟩
      refine br_t ?_ (nm_r (nI_pred cc) hp)
      rw [nI_pred]
      exact nI_le (by omega) (by omega)
  | succ q ih =>
    intro s A L R B hs hI
    obtain ⟨A', L', R', B', h1, h2, h3, h4⟩ := ih (s + 1) (upd A s (A (s + 1))) (dz_cp L (3 * (s + 1)) (3 * s)) (dz_cp R (3 * (s + 1)) (3 * s)) (dz_cp B (3 * (s + 1)) (3 * s)) (by omega) (dz_inv_cp hI)
    refine ⟨A', L', R', B', h1, h2.trans (pk_un (by omega)), fun m post hm hp => ?_, fun m dr post hm hp => ?_⟩
    · obtain ⟨m, rfl⟩ : ∃ m', m = m' + 1 := ⟨m - 1, by omega⟩
      refine br_f (nI_ge (by omega) (by omega)) ?_
      rw [nI_1]
      exact dz_xcp (by omega) (by omega) (nm_e (h3 m post (by omega) hp))
    · obtain ⟨m, rfl⟩ : ∃ m', m = m' + 1 := ⟨m - 1, by omega⟩
      refine br_f ?_ (br_f (nI_ge (b := 7) (by omega) (by decide)) ?_)
      · rw [nI_pred]
        exact nI_ge (by omega) (by omega)
      · rw [nI_1]
        exact dz_ycp (by omega) (by omega) (nm_e (h4 m dr post (by omega) hp))
end
/-- apart's counts: three zeros first and then the alternatives, or slot by slot -/
theorem dz_apA (A : Nat → Int32) (s : Nat) : upd (upd (upd (upd (upd (upd (upd A s 0) s (nI 1)) s (nI 2)) (s + 1) 0) (s + 1) (nI 1)) (s + 2) 0) (s + 2) (nI 1) = upd (upd (upd (upd (upd (upd (upd A s 0) (s + 1) 0) (s + 2) 0) s (nI 1)) s (nI 2)) (s + 1) (nI 1)) (s + 2) (nI 1) := by
  funext j
  unfold upd
  by_cases h2 : j = s + 2
  · simp only [if_pos h2]
  · by_cases h1 : j = s + 1
    · simp only [if_neg h2, if_pos h1]
    · by_cases h0 : j = s
      · simp only [if_neg h2, if_neg h1, if_pos h0]
      · simp only [if_neg h2, if_neg h1, if_neg h0]
/-- apart's counts, slot by slot -/
def dz_aA (A : Nat → Int32) (s : Nat) : Nat → Int32 := upd (upd (upd (upd (upd (upd (upd A s 0) s (nI 1)) s (nI 2)) (s + 1) 0) (s + 1) (nI 1)) (s + 2) 0) (s + 2) (nI 1)
/-- apart's cells: a, then b, in the first slot, then x and y in the next two -/
def dz_aL (F : Nat → Int32) (s : Nat) (a b x y : Int32) : Nat → Int32 := upd (upd (upd (upd F (3 * s) a) (3 * s + 1) b) (3 * (s + 1)) x) (3 * (s + 2)) y
theorem dz_ap8 {A : Nat → Int32} {s : Nat} (hs : s ≤ 5) : dz_aA A s 8 = A 8 := by
  unfold dz_aA
  rw [pk_un (by omega), pk_un (by omega), pk_un (by omega), pk_un (by omega), pk_un (by omega), pk_un (by omega), pk_un (by omega)]
theorem dz_xap {n P i j g h : Int32} {A L R B : Nat → Int32} {c : Nat} {post : Int32 → SX → Prop} (hc : c ≤ 5) (hp : post (nI (c + 3)) (n, P, nI (c + 3), dz_aA A c, dz_aL L c i j i j, dz_aL R c j i j i, dz_aL B c (-g) (-g) h h)) : wpX_startConstraint (fun u => match u with | (a1, a2, a3, a4, a5, a6, a7) => (wpX_putAlternative (fun u => match u with | (b1, b2, b3, b4, b5, b6, b7) => (wpX_startConstraint (fun u => match u with | (c1, c2, c3, c4, c5, c6, c7) => (wpX_startConstraint (fun u => match u with | (d1, d2, d3, d4, d5, d6, d7) => (post d3 (d1, d2, d3, d4, d5, d6, d7))) (c1, c2, c3, c4, c5, c6, c7) j i h)) (b1, b2, b3, b4, b5, b6, b7) i j h)) (a1, a2, a3, a4, a5, a6, a7) (a3 - 1) j i (-g))) (n, P, nI c, A, L, R, B) i j (-g) := by
  refine dz_xst (by omega) ?_
  dsimp only
  rw [nI_pred]
  refine dz_xput (s := c) (d := 1) (by omega) (by omega) pk_us ?_
  dsimp only
  refine dz_xst (by omega) ?_
  dsimp only
  refine dz_xst (by omega) ?_
  exact hp
theorem dz_yap_s {n P dr g h i j : Int32} {A L R B : Nat → Int32} {c z m : Nat} {post : Int32 → SY → Prop} (hc : c ≤ 5) (hz : z < 3) (hp : wY_apart_91 post g h i j n P dr (nI c) m (nI (c + z + 1)) (upd A (c + z) 0) L R B) : wY_apart_91 post g h i j n P dr (nI c) (m + 1) (nI (c + z)) A L R B := by
  have e : nI c + 3 = nI (c + 3) := nI_add c 3
  have hj : (nI (c + z)).toNatClampNeg = c + z := nI_clamp (by omega)
  refine br_f ?_ ⟨vp_in_nI (by omega) (by omega), nm_r (e' := upd A (c + z) 0) (by rw [hj]) (nm_r (nI_1 (c + z)) hp)⟩
  rw [e]
  exact nI_ge (by omega) (by omega)
theorem dz_yap {n P dr g h i j : Int32} {A L R B : Nat → Int32} {c : Nat} {post : Int32 → SY → Prop} (hc : c ≤ 5) (hp : post (nI (c + 3)) (n, P, dr, nI (c + 3), dz_aA A c, dz_aL L c i j i j, dz_aL R c j i j i, dz_aL B c (-g) (-g) h h)) : ∃ f : Nat, wY_apart_91 post g h i j n P dr (nI c) f (nI c) A L R B := by
  refine ⟨4, dz_yap_s (z := 0) hc (by omega) (dz_yap_s (z := 1) hc (by omega) (dz_yap_s (z := 2) hc (by omega) ?_))⟩
  have e : nI c + 3 = nI (c + 3) := nI_add c 3
  have e2 : nI c + 2 = nI (c + 2) := nI_add c 2
  refine br_t (by rw [e]; exact nI_le (by omega) (by omega)) ?_
  refine dz_yput (s := c) (d := 0) (by omega) (by omega) (by rw [pk_un (by omega), pk_un (by omega)]; exact pk_us) ?_
  dsimp only
  refine dz_yput (s := c) (d := 1) (by omega) (by omega) pk_us ?_
  dsimp only
  rw [nI_1]
  refine dz_yput (s := c + 1) (d := 0) (by omega) (by omega) (by rw [pk_un (by omega), pk_un (by omega), pk_un (by omega)]; exact pk_us) ?_
  dsimp only
  rw [e2]
  refine dz_yput (s := c + 2) (d := 0) (by omega) (by omega) (by rw [pk_un (by omega), pk_un (by omega), pk_un (by omega)]; exact pk_us) ?_
  dsimp only
  refine nm_r e ?_
  have w : dz_aA A c = _ := dz_apA A c
  rw [w] at hp
  exact hp
