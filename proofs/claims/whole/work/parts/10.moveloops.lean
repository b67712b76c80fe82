theorem ss_mg1 {a : Nat → Int32} {S D : Int32} {i j : Nat} (h : ¬ ss_b S (nI i) = ss_b S (nI j) ∧ ss_di (a (7 * i + j) + D) ∧ ¬ a (7 * i + j) = a (7 * i + j) + D) : ss_su (ss_mg a S D i) (j + 1) = ss_su (ss_mg a S D i) j + 1 := by
  show _ + ss_mg a S D i j = _
  unfold ss_mg; rw [if_pos h]
theorem ss_mg0 {a : Nat → Int32} {S D : Int32} {i j : Nat} (h : ¬ (¬ ss_b S (nI i) = ss_b S (nI j) ∧ ss_di (a (7 * i + j) + D) ∧ ¬ a (7 * i + j) = a (7 * i + j) + D)) : ss_su (ss_mg a S D i) j = ss_su (ss_mg a S D i) (j + 1) := by
  show _ = _ + ss_mg a S D i j
  unfold ss_mg; rw [if_neg h]; rfl
theorem ss_mh1 {a : Nat → Int32} {S D : Int32} {i j : Nat} (h : ss_b S (nI i) = 1 ∧ ss_b S (nI j) = 0 ∧ ss_di (a (7 * i + j) + D) ∧ ¬ D = 0) : ss_su (ss_mh a S D i) (j + 1) = ss_su (ss_mh a S D i) j + 1 := by
  show _ + ss_mh a S D i j = _
  unfold ss_mh; rw [if_pos h]
theorem ss_mh0 {a : Nat → Int32} {S D : Int32} {i j : Nat} (h : ¬ (ss_b S (nI i) = 1 ∧ ss_b S (nI j) = 0 ∧ ss_di (a (7 * i + j) + D) ∧ ¬ D = 0)) : ss_su (ss_mh a S D i) j = ss_su (ss_mh a S D i) (j + 1) := by
  show _ = _ + ss_mh a S D i j
  unfold ss_mh; rw [if_neg h]; rfl
theorem ss_mFn {c : Nat} {a : Nat → Int32} {S D : Int32} {p r : Nat} (h : ¬ (p < c ∧ r < c ∧ ¬ ss_b S (nI p) = ss_b S (nI r) ∧ ss_di (a (7 * p + r) + D))) : ss_mF c a S D p r = a (7 * p + r) := by
  unfold ss_mF; rw [if_neg h]
theorem ss_mFp {c : Nat} {a : Nat → Int32} {S D : Int32} {p r : Nat} (h : p < c ∧ r < c ∧ ¬ ss_b S (nI p) = ss_b S (nI r) ∧ ss_di (a (7 * p + r) + D)) : ss_mF c a S D p r = a (7 * p + r) + D := by
  unfold ss_mF; rw [if_pos h]
theorem xx_m33 {post : Int32 → SX → Prop} {J : Int32 → Int32 → Int32 → (Nat → Int32) → (Nat → Int32) → Prop} {S D : Int32} {c i K : Nat} {a e : Nat → Int32} (hc : c ≤ 7) (ok : ss_ok a) (hi : i < c)
    (h : ∀ b, ss_iv a (ss_mF c a S D) (ss_dX i i) b → J (nI (K + ss_su (ss_mg a S D i) i)) (nI (i + 1)) (nI c) b e) :
    ∀ d j, j + d = i → ∀ b, ss_iv a (ss_mF c a S D) (ss_dX i j) b → wX_move_33 post J S D (nI i) (d + 1) (nI (K + ss_su (ss_mg a S D i) j)) (nI j) (nI c) b e := by
  intro d
  induction d with
  | zero =>
    intro j hj b v
    have hj' : j = i := by omega
    subst hj'
    exact br_t (Int32.le_refl _) (nm_r (nI_1 j) (h b v))
  | succ d ih =>
    intro j hj b v
    have hji : j < i := by omega
    have hb : b (7 * i + j) = a (7 * i + j) := (v.2 i j (by omega) (by omega)).2 (by unfold ss_dX; omega)
    have hs := ok.1 i j (by omega) (by omega)
    refine br_f (ss_hi hji (by omega)) (xx_btw (by omega) (by omega) (nm_r (e' := a (7 * i + j) + D) (by rw [hb]) ?_))
    refine xx_parts (fun y => br_t rfl (nm_r (nI_1 j) ?_)) (fun y => br_f ss_10 (xx_chg (by omega) (by omega) (fun z => br_t rfl (nm_r (nI_1 j) ?_)) (fun z1 z2 => br_f ss_10 (nm_r (nI_1 _) (nm_r (nI_1 j) ?_)))))
    · rw [ss_mg0 (fun w => w.1 y)]
      refine ih (j + 1) (by omega) b (ss_ivK (i := i) (j := j) v (ss_mFn (fun w => w.2.2.1 y)) (ss_mFn (fun w => w.2.2.1 y.symm)) (fun p r _ _ => ss_dX1 hji p r))
    · rw [hb] at z
      rw [ss_mg0 (fun w => z w.2)]
      have F1 : ss_mF c a S D i j = a (7 * i + j) := by
        by_cases q : ss_di (a (7 * i + j) + D)
        · have q2 : a (7 * i + j) = a (7 * i + j) + D := Classical.byContradiction (fun n => z ⟨q, n⟩)
          rw [ss_mFp ⟨hi, by omega, y, q⟩, ← q2]
        · exact ss_mFn (fun w => q w.2.2.2)
      refine ih (j + 1) (by omega) b (ss_ivK (i := i) (j := j) v F1 (by rw [ss_mFs ok (by omega) (by omega), F1, hs]) (fun p r _ _ => ss_dX1 hji p r))
    · rw [hb] at z2
      rw [Nat.add_assoc, ← ss_mg1 ⟨y, z1, z2⟩]
      have F1 : ss_mF c a S D i j = a (7 * i + j) + D := ss_mFp ⟨hi, by omega, y, z1⟩
      exact ih (j + 1) (by omega) _ (ss_ivP v (by omega) (by omega) F1 (by rw [ss_mFs ok (by omega) (by omega), F1]) (fun p r _ _ => ss_dX1 hji p r))
theorem xx_m21 {post : Int32 → SX → Prop} {S D : Int32} {c : Nat} {a e : Nat → Int32} (hc : c ≤ 7) (ok : ss_ok a)
    (h : ∀ e', ss_ms c (ss_fi a (ss_mF c a S D)) e' → post (nI (ss_su (fun i => ss_su (ss_mg a S D i) i) c)) (nI c, ss_fi a (ss_mF c a S D), e')) :
    ∀ d i, i + d = c → ∀ b, ss_iv a (ss_mF c a S D) (ss_dX i 0) b → wX_move_21 post S D (d + 1) (nI (ss_su (fun i => ss_su (ss_mg a S D i) i) i)) (nI i) (nI c) b e := by
  intro d
  induction d with
  | zero =>
    intro i hi b v
    have hi' : i = c := by omega
    subst hi'
    have hb : b = ss_fi a (ss_mF i a S D) := ss_ivF v (fun p r hp hr n => ss_mFn (fun w => n (by
      have : p ≠ r := fun z => w.2.2.1 (by rw [z])
      unfold ss_dX; omega)))
    subst hb
    exact br_t (Int32.le_refl _) (xx_ms hc (ss_mFok ok) h)
  | succ d ih =>
    intro i hi b v
    have hic : i < c := by omega
    refine br_f (ss_hi hic hc) ⟨i + 1, xx_m33 (K := ss_su (fun i => ss_su (ss_mg a S D i) i) i) hc ok hic (fun b' v' => ?_) i 0 (by omega) b v⟩
    exact ih (i + 1) (by omega) b' (ss_ivE v' (fun p r _ _ => ss_dX2 i p r))
def ss_vi (c i j p r : Nat) : Prop := r < c ∧ (p < i ∨ (p = i ∧ r < j))
def ss_dY (c : Nat) (S : Int32) (i j p r : Nat) : Prop := (ss_b S (nI p) = 1 ∧ ss_b S (nI r) = 0 ∧ ss_vi c i j p r) ∨ (ss_b S (nI r) = 1 ∧ ss_b S (nI p) = 0 ∧ ss_vi c i j r p)
theorem ss_vi1 {c i j : Nat} (hj : j < c) (p r : Nat) : ss_vi c i (j + 1) p r ↔ ss_vi c i j p r ∨ (p = i ∧ r = j) := by
  unfold ss_vi; omega
theorem ss_vi2 (c i p r : Nat) : ss_vi c (i + 1) 0 p r ↔ ss_vi c i c p r := by
  unfold ss_vi; omega
theorem ss_dY1 {c i j : Nat} {S : Int32} (hj : j < c) (h1 : ss_b S (nI i) = 1) (h0 : ss_b S (nI j) = 0) (p r : Nat) : ss_dY c S i (j + 1) p r ↔ ss_dY c S i j p r ∨ ((p = i ∧ r = j) ∨ (p = j ∧ r = i)) := by
  unfold ss_dY
  rw [ss_vi1 hj p r, ss_vi1 hj r p]
  constructor
  · rintro (⟨x1, x2, x3 | ⟨x3, x4⟩⟩ | ⟨x1, x2, x3 | ⟨x3, x4⟩⟩)
    · exact Or.inl (Or.inl ⟨x1, x2, x3⟩)
    · exact Or.inr (Or.inl ⟨x3, x4⟩)
    · exact Or.inl (Or.inr ⟨x1, x2, x3⟩)
    · exact Or.inr (Or.inr ⟨x4, x3⟩)
  · rintro ((⟨x1, x2, x3⟩ | ⟨x1, x2, x3⟩) | (⟨rfl, rfl⟩ | ⟨rfl, rfl⟩))
    · exact Or.inl ⟨x1, x2, Or.inl x3⟩
    · exact Or.inr ⟨x1, x2, Or.inl x3⟩
    · exact Or.inl ⟨h1, h0, Or.inr ⟨rfl, rfl⟩⟩
    · exact Or.inr ⟨h1, h0, Or.inr ⟨rfl, rfl⟩⟩
theorem ss_dY0 {c i j : Nat} {S : Int32} (hj : j < c) (h : ¬ (ss_b S (nI i) = 1 ∧ ss_b S (nI j) = 0)) (p r : Nat) : ss_dY c S i (j + 1) p r ↔ ss_dY c S i j p r := by
  unfold ss_dY
  rw [ss_vi1 hj p r, ss_vi1 hj r p]
  constructor
  · rintro (⟨x1, x2, x3 | ⟨rfl, rfl⟩⟩ | ⟨x1, x2, x3 | ⟨rfl, rfl⟩⟩)
    · exact Or.inl ⟨x1, x2, x3⟩
    · exact absurd ⟨x1, x2⟩ h
    · exact Or.inr ⟨x1, x2, x3⟩
    · exact absurd ⟨x1, x2⟩ h
  · rintro (⟨x1, x2, x3⟩ | ⟨x1, x2, x3⟩)
    · exact Or.inl ⟨x1, x2, Or.inl x3⟩
    · exact Or.inr ⟨x1, x2, Or.inl x3⟩
theorem ss_dY2 (c i : Nat) (S : Int32) (p r : Nat) : ss_dY c S (i + 1) 0 p r ↔ ss_dY c S i c p r := by
  unfold ss_dY
  rw [ss_vi2, ss_vi2]
theorem yy_m33 {post : Int32 → SY → Prop} {J : Int32 → Int32 → Int32 → (Nat → Int32) → (Nat → Int32) → (Nat → Int32) → Prop} {S D : Int32} {c i K : Nat} {a m f : Nat → Int32} (hc : c ≤ 7) (ok : ss_ok a) (hi : i < c)
    (h : ∀ b, ss_iv a (ss_mF c a S D) (ss_dY c S i c) b → J (nI (K + ss_su (ss_mh a S D i) c)) (nI (i + 1)) (nI c) b m f) :
    ∀ d j, j + d = c → ∀ b, ss_iv a (ss_mF c a S D) (ss_dY c S i j) b → wY_move_33 post J S D (nI i) (d + 1) (nI (K + ss_su (ss_mh a S D i) j)) (nI j) (nI c) b m f := by
  intro d
  induction d with
  | zero =>
    intro j hj b v
    have hj' : j = c := by omega
    subst hj'
    exact br_t (Int32.le_refl _) (nm_r (nI_1 i) (h b v))
  | succ d ih =>
    intro j hj b v
    have hjc : j < c := by omega
    have hs := ok.1 i j (by omega) (by omega)
    have skip : ¬ (ss_b S (nI i) = 1 ∧ ss_b S (nI j) = 0) → wY_move_33 post J S D (nI i) (d + 1) (nI (K + ss_su (ss_mh a S D i) j)) (nI (j + 1)) (nI c) b m f := by
      intro n
      rw [ss_mh0 (fun w => n ⟨w.1, w.2.1⟩)]
      exact ih (j + 1) (by omega) b (ss_ivE v (fun p r _ _ => ss_dY0 hjc n p r))
    by_cases b1 : ss_b S (nI i) = 1
    · by_cases b0 : ss_b S (nI j) = 0
      · have bn : ¬ ss_b S (nI i) = ss_b S (nI j) := by rw [b1, b0]; exact ss_10
        have hb : b (7 * i + j) = a (7 * i + j) := (v.2 i j (by omega) (by omega)).2 (by
          rintro (⟨x1, x2, x3⟩ | ⟨x1, x2, x3⟩)
          · unfold ss_vi at x3; omega
          · exact ss_b00 b0 x1)
        have keep : ss_mF c a S D i j = a (7 * i + j) → ¬ (ss_b S (nI i) = 1 ∧ ss_b S (nI j) = 0 ∧ ss_di (a (7 * i + j) + D) ∧ ¬ D = 0) → wY_move_33 post J S D (nI i) (d + 1) (nI (K + ss_su (ss_mh a S D i) j)) (nI (j + 1)) (nI c) b m f := by
          intro F1 n
          rw [ss_mh0 n]
          exact ih (j + 1) (by omega) b (ss_ivK (i := i) (j := j) v F1 (by rw [ss_mFs ok (by omega) (by omega), F1, hs]) (fun p r _ _ => ss_dY1 hjc b1 b0 p r))
        refine br_f (ss_hi hjc hc) ⟨ss_inY (by omega) (by omega), nm_r (e' := a (7 * i + j) + D) (by rw [ss_clY (by omega) (by omega), hb]) ?_⟩
        refine br_t b1 (br_t b0 (br_c (fun g1 => nm_r (nI_1 j) ?_) (fun g1 => br_c (fun g2 => nm_r (nI_1 j) ?_) (fun g2 => br_c (fun g3 => nm_r (nI_1 j) ?_) (fun g3 => ?_)))))
        · exact keep (ss_mFn (fun w => w.2.2.2.1 g1)) (fun w => w.2.2.1.1 g1)
        · exact keep (ss_mFn (fun w => w.2.2.2.2 g2)) (fun w => w.2.2.1.2 g2)
        · refine keep ?_ (fun w => w.2.2.2 g3)
          rw [ss_mFp ⟨hi, hjc, bn, g1, g2⟩, g3, Int32.add_zero]
        · refine yy_put (by omega) (by omega) (nm_r (nI_1 _) (nm_r (nI_1 j) ?_))
          rw [Nat.add_assoc, ← ss_mh1 ⟨b1, b0, ⟨g1, g2⟩, g3⟩]
          have F1 : ss_mF c a S D i j = a (7 * i + j) + D := ss_mFp ⟨hi, hjc, bn, g1, g2⟩
          exact ih (j + 1) (by omega) _ (ss_ivP v (by omega) (by omega) F1 (by rw [ss_mFs ok (by omega) (by omega), F1]) (fun p r _ _ => ss_dY1 hjc b1 b0 p r))
      · exact br_f (ss_hi hjc hc) ⟨ss_inY (by omega) (by omega), nm_e (br_t b1 (br_f b0 (nm_r (nI_1 j) (skip (fun w => b0 w.2)))))⟩
    · exact br_f (ss_hi hjc hc) ⟨ss_inY (by omega) (by omega), nm_e (br_f b1 (nm_r (nI_1 j) (skip (fun w => b1 w.1))))⟩
theorem yy_m21 {post : Int32 → SY → Prop} {S D : Int32} {c : Nat} {a m f : Nat → Int32} (hc : c ≤ 7) (ok : ss_ok a)
    (h : post (nI (ss_su (fun i => ss_su (ss_mh a S D i) c) c)) (nI c, ss_fi a (ss_mF c a S D), m, f)) :
    ∀ d i, i + d = c → ∀ b, ss_iv a (ss_mF c a S D) (ss_dY c S i 0) b → wY_move_21 post S D (d + 1) (nI (ss_su (fun i => ss_su (ss_mh a S D i) c) i)) (nI i) (nI c) b m f := by
  intro d
  induction d with
  | zero =>
    intro i hi b v
    have hi' : i = c := by omega
    subst hi'
    have hb : b = ss_fi a (ss_mF i a S D) := ss_ivF v (fun p r hp hr n => ss_mFn (fun w => n (by
      rcases ss_b01 S (nI p) with q | q
      · rcases ss_b01 S (nI r) with q2 | q2
        · exact absurd (q.trans q2.symm) w.2.2.1
        · exact Or.inr ⟨q2, q, w.1, Or.inl w.2.1⟩
      · rcases ss_b01 S (nI r) with q2 | q2
        · exact Or.inl ⟨q, q2, w.2.1, Or.inl w.1⟩
        · exact absurd (q.trans q2.symm) w.2.2.1)))
    subst hb
    exact br_t (Int32.le_refl _) h
  | succ d ih =>
    intro i hi b v
    have hic : i < c := by omega
    refine br_f (ss_hi hic hc) ⟨c + 1, yy_m33 (K := ss_su (fun i => ss_su (ss_mh a S D i) c) i) hc ok hic (fun b' v' => ?_) c 0 (by omega) b v⟩
    exact ih (i + 1) (by omega) b' (ss_ivE v' (fun p r _ _ => ss_dY2 c i S p r))
theorem i_vc_move {k : Nat} {u : SX} {v : SY} (I : i_Rel k u v) (hk : k + 4 ≤ 2048) (v1 : Int32) (v2 : Int32) : wpX_move (fun r u' => wpY_move (fun r' v' => r' = r ∧ i_Rel (k + 4) u' v') v v1 v2) u v1 v2 := by
  obtain ⟨c, a, e, m, f, rfl, rfl, hc, ok, hm⟩ := I
  have J := ss_mk (k := k + 4) (m := m) (f := f) hc ok hm
  refine br_c (fun g1 => br_t g1 ⟨rfl, J⟩) (fun g1 => br_c (fun g2 => ?_) (fun g2 => br_f g1 (br_f g2 ⟨rfl, J⟩)))
  refine ⟨c + 1, xx_m21 hc ok (fun e' he => br_f g1 (br_t g2 ⟨c + 1, yy_m21 hc ok ?_ c 0 (by omega) a (ss_iv0 (fun p r _ _ => ?_))⟩)) c 0 (by omega) a (ss_iv0 (fun p r _ _ => ?_))⟩
  · unfold ss_dX; omega
  · exact ⟨congrArg nI (ss_mgh ok hc), ss_mk hc (ss_mFok ok) he⟩
  · rintro (⟨_, _, x⟩ | ⟨_, _, x⟩) <;> (unfold ss_vi at x; omega)
