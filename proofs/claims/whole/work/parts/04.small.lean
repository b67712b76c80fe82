def i_Rel (k : Nat) (u : SX) (v : SY) : Prop := ∃ (c : Nat) (a e m f : Nat → Int32), u = (nI c, a, e) ∧ v = (nI c, a, m, f) ∧ c ≤ 7 ∧ ss_ok a ∧ ss_ms c a e
theorem i_up {k : Nat} {u : SX} {v : SY} (h : i_Rel k u v) : i_Rel (k + 4) u v := h
theorem i_vc0 : wpX_init (fun u => wpY_init (fun v => i_Rel 0 u v)) :=
  ⟨0, fun _ => 0, fun _ => 0, fun _ => 0, fun _ => 0, rfl, rfl, by omega, ⟨fun _ _ _ _ => rfl, fun _ _ => rfl, fun _ => ⟨0, by omega, rfl⟩⟩, fun t ht => absurd ht (by simp [ss_T])⟩
theorem ss_mk {k c : Nat} {a e m f : Nat → Int32} (hc : c ≤ 7) (ok : ss_ok a) (hm : ss_ms c a e) : i_Rel k (nI c, a, e) (nI c, a, m, f) := ⟨c, a, e, m, f, rfl, rfl, hc, ok, hm⟩
theorem ss_diN {d : Int32} (h : ss_di d) : ∃ n : Nat, n ≤ 60 ∧ d = nI n := nI_of2 (M := 60) (n := 60) (by decide) h.1 (Int32.not_lt.mp h.2)
theorem ss_ptT {a : Nat → Int32} {i j p r : Nat} {d : Int32} (hi : i < 7) (hj : j < 7) (h : (p = i ∧ r = j) ∨ (p = j ∧ r = i)) : ss_pt a i j d (7 * p + r) = d := by
  unfold ss_pt upd
  rcases h with ⟨h1, h2⟩ | ⟨h1, h2⟩
  · subst h1 h2
    split
    · rfl
    · rw [if_pos rfl]
  · subst h1 h2
    rw [if_pos rfl]
theorem ss_ptF {a : Nat → Int32} {i j p r : Nat} {d : Int32} (hi : i < 7) (hj : j < 7) (hr : r < 7) (h : ¬ ((p = i ∧ r = j) ∨ (p = j ∧ r = i))) : ss_pt a i j d (7 * p + r) = a (7 * p + r) := by
  unfold ss_pt upd
  rw [if_neg (by omega), if_neg (by omega)]
theorem ss_ptB {a : Nat → Int32} {i j q : Nat} {d : Int32} (hi : i < 7) (hj : j < 7) (hq : 49 ≤ q) : ss_pt a i j d q = a q := by
  unfold ss_pt upd
  rw [if_neg (by omega), if_neg (by omega)]
theorem ss_ptok {a : Nat → Int32} {i j : Nat} {d : Int32} (ok : ss_ok a) (hi : i < 7) (hj : j < 7) (hij : i ≠ j) (hd : ss_di d) : ss_ok (ss_pt a i j d) := by
  refine ⟨fun p r hp hr => ?_, fun p hp => ?_, fun q => ?_⟩
  · by_cases h : (p = i ∧ r = j) ∨ (p = j ∧ r = i)
    · rw [ss_ptT hi hj h, ss_ptT hi hj (by omega)]
    · rw [ss_ptF hi hj hr h, ss_ptF hi hj hp (by omega)]
      exact ok.1 p r hp hr
  · rw [ss_ptF hi hj hp (by omega)]
    exact ok.2.1 p hp
  · unfold ss_pt upd
    split
    · exact ss_diN hd
    · split
      · exact ss_diN hd
      · exact ok.2.2 q
def ss_pi (a : Nat → Int32) (c : Nat) (d : Int32) : Nat → Nat → Int32
  | 0 => a
  | i + 1 => ss_pt (ss_pi a c d i) i c d
theorem ss_piok {a : Nat → Int32} {c : Nat} {d : Int32} (ok : ss_ok a) (hc : c < 7) (hd : ss_di d) : ∀ i, i ≤ c → ss_ok (ss_pi a c d i) := by
  intro i
  induction i with
  | zero => intro _; exact ok
  | succ i ih => intro h; exact ss_ptok (ih (by omega)) (by omega) hc (by omega) hd
theorem xx_31 {post : Int32 → SX → Prop} {c : Nat} {d : Int32} {a e : Nat → Int32} (hc : c < 7) (ok : ss_ok (ss_pi a c d c)) (h : ∀ e', ss_ms (c + 1) (ss_pi a c d c) e' → post (nI c) (nI (c + 1), ss_pi a c d c, e')) :
    ∀ n i, i + n = c → wX_point_31 post d (nI c) (n + 1) (nI i) (nI c) (ss_pi a c d i) e := by
  intro n
  induction n with
  | zero =>
    intro i hi
    have hi' : i = c := by omega
    subst hi'
    refine br_t (Int32.le_refl _) (nm_r (nI_1 i) ?_)
    exact xx_ms (by omega) ok h
  | succ n ih =>
    intro i hi
    refine br_f (ss_hi (by omega) (by omega)) ?_
    refine xx_put (by omega) hc ?_
    exact nm_r (nI_1 i) (ih (i + 1) (by omega))
theorem ss_u0 {a : Nat → Int32} {c : Nat} (hc : c < 7) (ok : ss_ok a) : upd a (8 * nI c).toNatClampNeg 0 = a := by
  have e : (8 * nI c).toNatClampNeg = 7 * c + c := by
    rw [show (8 : Int32) = nI 8 from rfl, pk_mul, nI_clamp (by omega)]; omega
  rw [e]
  funext q
  unfold upd
  split
  · next h => rw [h]; exact (ok.2.1 c hc).symm
  · rfl
theorem yy_29 {post : Int32 → SY → Prop} {c : Nat} {d : Int32} {a m f : Nat → Int32} (hc : c < 7) (ok : ss_ok (ss_pi a c d c)) (h : post (nI c) (nI (c + 1), ss_pi a c d c, m, f)) :
    ∀ n i, i + n = c → wY_point_29 post d (n + 1) (nI i) (nI c) (ss_pi a c d i) m f := by
  intro n
  induction n with
  | zero =>
    intro i hi
    have hi' : i = c := by omega
    subst hi'
    refine br_t (Int32.le_refl _) ⟨?_, nm_r (ss_u0 hc ok) (nm_r (nI_1 i) ?_)⟩
    · rw [show (8 : Int32) = nI 8 from rfl, pk_mul]; exact vp_in_nI (by omega) (by omega)
    · rw [nI_pred]; exact h
  | succ n ih =>
    intro i hi
    refine br_f (ss_hi (by omega) (by omega)) ?_
    refine yy_put (by omega) hc ?_
    exact nm_r (nI_1 i) (ih (i + 1) (by omega))
theorem i_vc_point {k : Nat} {u : SX} {v : SY} (I : i_Rel k u v) (hk : k + 4 ≤ 2048) (v1 : Int32) : wpX_point (fun r u' => wpY_point (fun r' v' => r' = r ∧ i_Rel (k + 4) u' v') v v1) u v1 := by
  obtain ⟨c, a, e, m, f, rfl, rfl, hc, ok, hm⟩ := I
  unfold wpX_point; dsimp only
  refine xx_dis (fun g => br_f ss_10 ?_) (fun g => br_t rfl ?_)
  · refine pk_lt c 7 (fun h7 => ?_) (fun h7 => ?_)
    · have ok' := ss_piok ok h7 g c (Nat.le_refl c)
      refine ⟨c + 1, xx_31 h7 ok' (fun e' he => ?_) c 0 (by omega)⟩
      refine br_f g.1 (br_t (Int32.not_lt.mp g.2) (br_f ?_ ⟨c + 1, yy_29 h7 ok' ⟨rfl, ss_mk (by omega) ok' he⟩ c 0 (by omega)⟩))
      rw [show (7 : Int32) = nI 7 from rfl, nI_eq (by omega) (by omega)]; omega
    · have h7' : c = 7 := by omega
      subst h7'
      exact br_f g.1 (br_t (Int32.not_lt.mp g.2) (br_t rfl ⟨rfl, ss_mk hc ok hm⟩))
  · refine br_c (fun _ => ⟨rfl, ss_mk hc ok hm⟩) (fun h1 => br_c (fun h2 => ?_) (fun _ => ⟨rfl, ss_mk hc ok hm⟩))
    exact absurd ⟨h1, Int32.not_lt.mpr h2⟩ g
theorem i_vc_drop {k : Nat} {u : SX} {v : SY} (I : i_Rel k u v) (hk : k + 4 ≤ 2048) : wpX_drop (fun r u' => wpY_drop (fun r' v' => r' = r ∧ i_Rel (k + 4) u' v') v) u := by
  obtain ⟨c, a, e, m, f, rfl, rfl, hc, ok, hm⟩ := I
  match c, hc, hm with
  | 0, hc, hm => exact br_t rfl (br_t rfl ⟨rfl, ss_mk hc ok hm⟩)
  | c + 1, hc, hm =>
    have h0 : ¬ nI (c + 1) = 0 := nI_ne0 (by omega) (by omega)
    refine br_f h0 (nm_r (nI_pred c) (xx_ms (by omega) ok (fun e' he => ?_)))
    exact br_f h0 (nm_r (nI_pred c) ⟨rfl, ss_mk (by omega) ok he⟩)
theorem i_vc_set {k : Nat} {u : SX} {v : SY} (I : i_Rel k u v) (hk : k + 4 ≤ 2048) (v1 : Int32) (v2 : Int32) (v3 : Int32) : wpX_set (fun r u' => wpY_set (fun r' v' => r' = r ∧ i_Rel (k + 4) u' v') v v1 v2 v3) u v1 v2 v3 := by
  obtain ⟨c, a, e, m, f, rfl, rfl, hc, ok, hm⟩ := I
  have J := ss_mk (k := k + 4) (m := m) (f := f) hc ok hm
  unfold wpX_set wpY_set; dsimp only
  rcases ss_pnt c v1 hc with n1 | ⟨i, hi, rfl⟩
  · exact xx_apF (Or.inl n1) (br_t rfl (yy_isF n1 (br_t rfl ⟨rfl, J⟩)))
  · rcases ss_pnt c v2 hc with n2 | ⟨j, hj, rfl⟩
    · exact xx_apF (Or.inr n2) (br_t rfl (yy_isT hc hi (br_f ss_10 (yy_isF n2 (br_t rfl ⟨rfl, J⟩)))))
    · refine xx_apT hc hi hj (br_f ss_10 ?_)
      refine pk_eq i j (fun hij => ?_) (fun hij => ?_)
      · subst hij
        exact yy_isT hc hi (br_f ss_10 (yy_isT hc hi (br_f ss_10 (br_t rfl ⟨rfl, J⟩))))
      · have hn : ¬ nI i = nI j := by rw [nI_eq (by omega) (by omega)]; exact hij
        refine xx_dis (fun g => br_f ss_10 ?_) (fun g => br_t rfl ?_)
        · refine xx_btw (by omega) (by omega) (xx_put (by omega) (by omega) ?_)
          have ok' := ss_ptok (d := v3) ok (i := i) (j := j) (by omega) (by omega) hij g
          refine xx_ms hc ok' (fun e' he => ?_)
          refine yy_isT hc hi (br_f ss_10 (yy_isT hc hj (br_f ss_10 (br_f hn (br_f g.1 (br_t (Int32.not_lt.mp g.2) ⟨ss_inY (by omega) (by omega), nm_r (by rw [ss_clY (by omega) (by omega)]) ?_⟩))))))
          exact yy_put (by omega) (by omega) ⟨rfl, ss_mk hc ok' he⟩
        · refine yy_isT hc hi (br_f ss_10 (yy_isT hc hj (br_f ss_10 (br_f hn (br_c (fun _ => ⟨rfl, J⟩) (fun h1 => br_c (fun h2 => ?_) (fun _ => ⟨rfl, J⟩)))))))
          exact absurd ⟨h1, Int32.not_lt.mpr h2⟩ g
theorem i_vc_points {k : Nat} {u : SX} {v : SY} (I : i_Rel k u v) (hk : k + 4 ≤ 2048) : wpX_points (fun r => wpY_points (fun r' => r' = r ∧ i_Rel (k + 4) u v) v) u := by
  obtain ⟨c, a, e, m, f, rfl, rfl, hc, ok, hm⟩ := I
  exact ⟨rfl, ss_mk hc ok hm⟩
theorem i_vc_distance {k : Nat} {u : SX} {v : SY} (I : i_Rel k u v) (hk : k + 4 ≤ 2048) (v1 : Int32) (v2 : Int32) : wpX_distance (fun r => wpY_distance (fun r' => r' = r ∧ i_Rel (k + 4) u v) v v1 v2) u v1 v2 := by
  obtain ⟨c, a, e, m, f, rfl, rfl, hc, ok, hm⟩ := I
  have J := ss_mk (k := k + 4) (m := m) (f := f) hc ok hm
  unfold wpX_distance wpY_distance; dsimp only
  rcases ss_pnt c v1 hc with n1 | ⟨i, hi, rfl⟩
  · exact xx_apF (Or.inl n1) (br_t rfl (yy_isF n1 (br_t rfl ⟨rfl, J⟩)))
  · rcases ss_pnt c v2 hc with n2 | ⟨j, hj, rfl⟩
    · exact xx_apF (Or.inr n2) (br_t rfl (yy_isT hc hi (br_f ss_10 (yy_isF n2 (br_t rfl ⟨rfl, J⟩)))))
    · refine xx_apT hc hi hj (br_f ss_10 (xx_btw (by omega) (by omega) ?_))
      refine yy_isT hc hi (br_f ss_10 (yy_isT hc hj (br_f ss_10 ⟨ss_inY (by omega) (by omega), by rw [ss_clY (by omega) (by omega)], J⟩)))
def ss_nsp (c : Nat) (x : Int32) : Prop := x ≤ 0 ∨ ss_al c ≤ x ∨ (ss_b x 0 = 0 ∧ ¬ (x - x / 2 * 2 = 1))
theorem ss_bt0 : ∀ t, t < 64 → ss_b (nI (2 * t)) 0 = 0 ∧ ss_b (nI (2 * t + 1)) 0 = 1 := by decide +kernel
theorem ss_spl (c : Nat) (x : Int32) (hc : c ≤ 7) : ss_nsp c x ∨ ∃ t, t < ss_T c ∧ x = nI (2 * t + 1) := by
  by_cases h1 : x ≤ 0
  · exact Or.inl (Or.inl h1)
  by_cases h2 : ss_al c ≤ x
  · exact Or.inl (Or.inr (Or.inl h2))
  obtain ⟨q1, q2, q3, q4⟩ := ss_TT c hc
  obtain ⟨s, hs, rfl⟩ := nI_of (x := x) (fun z => h1 (Int32.le_of_lt z))
  rw [ss_alE c hc, nI_leI (by omega) hs] at h2
  rcases Nat.mod_two_eq_zero_or_one s with g | g
  · refine Or.inl (Or.inr (Or.inr ⟨?_, ?_⟩))
    · have e : s = 2 * (s / 2) := by omega
      rw [e]; exact (ss_bt0 _ (by omega)).1
    · rw [show (2 : Int32) = nI 2 from rfl, pk_rem (by omega) (by omega) (by omega), g]; decide
  · exact Or.inr ⟨s / 2, by omega, congrArg nI (by omega)⟩
theorem xx_spT {post : Int32 → Prop} {c t : Nat} {a e : Nat → Int32} (hc : c ≤ 7) (ht : t < ss_T c) (h : post 1) : wpX_isSplit post (nI c, a, e) (nI (2 * t + 1)) := by
  obtain ⟨q1, q2, q3, q4⟩ := ss_TT c hc
  refine br_f (nI_nle (by omega) (by omega)) (br_f (ss_exF hc ht) ?_)
  refine xx_has (fun _ => br_f ss_10 h) (fun z => absurd (ss_bt0 t (by omega)).2 (ss_b00 z))
theorem xx_spF {post : Int32 → Prop} {c : Nat} {x : Int32} {a e : Nat → Int32} (n : ss_nsp c x) (h : post 0) : wpX_isSplit post (nI c, a, e) x := by
  refine br_c (fun _ => h) (fun h1 => br_c (fun _ => h) (fun h2 => ?_))
  rcases n with n | n | n
  · exact absurd n h1
  · exact absurd n h2
  · exact xx_has (fun z => absurd z (ss_b00 n.1)) (fun _ => br_t rfl h)
theorem yy_spT {post : Int32 → Prop} {c t : Nat} {a m e : Nat → Int32} (hc : c ≤ 7) (ht : t < ss_T c) (h : post 1) : wpY_isSplit post (nI c, a, m, e) (nI (2 * t + 1)) := by
  obtain ⟨q1, q2, q3, q4⟩ := ss_TT c hc
  refine br_f (nI_nle (by omega) (by omega)) (br_f (ss_exF hc ht) ⟨by decide, br_t ?_ h⟩)
  rw [show (2 : Int32) = nI 2 from rfl, pk_rem (by omega) (by omega) (by omega), show (2 * t + 1) % 2 = 1 by omega]; rfl
theorem yy_spF {post : Int32 → Prop} {c : Nat} {x : Int32} {a m e : Nat → Int32} (n : ss_nsp c x) (h : post 0) : wpY_isSplit post (nI c, a, m, e) x := by
  refine br_c (fun _ => h) (fun h1 => br_c (fun _ => h) (fun h2 => ⟨by decide, ?_⟩))
  rcases n with n | n | n
  · exact absurd n h1
  · exact absurd n h2
  · exact br_f n.2 h
theorem i_vc_index {k : Nat} {u : SX} {v : SY} (I : i_Rel k u v) (hk : k + 4 ≤ 2048) (v1 : Int32) : wpX_index (fun r => wpY_index (fun r' => r' = r ∧ i_Rel (k + 4) u v) v v1) u v1 := by
  obtain ⟨c, a, e, m, f, rfl, rfl, hc, ok, hm⟩ := I
  have J := ss_mk (k := k + 4) (m := m) (f := f) hc ok hm
  unfold wpX_index wpY_index; dsimp only
  rcases ss_spl c v1 hc with n | ⟨t, ht, rfl⟩
  · exact xx_spF n (br_t rfl (yy_spF n (br_t rfl ⟨rfl, J⟩)))
  · refine xx_spT hc ht (br_f ss_10 ⟨ss_in hc ht, yy_spT hc ht (br_f ss_10 (yy_ix hc ok ht (fun r hr => ⟨?_, J⟩)))⟩)
    rw [ss_cl hc ht]; exact ss_mnU (hm t ht) hr
