def ss_lv (x y z : Int32) : Prop := (x = y ∧ z ≤ x) ∨ (x = z ∧ y ≤ x) ∨ (y = z ∧ x ≤ y)
theorem ss_lv1 {x y z : Int32} (h : ss_lv x y z) : ss_lv x z y := by
  rcases h with ⟨rfl, h⟩ | ⟨rfl, h⟩ | ⟨rfl, h⟩
  · exact Or.inr (Or.inl ⟨rfl, h⟩)
  · exact Or.inl ⟨rfl, h⟩
  · exact Or.inr (Or.inr ⟨rfl, h⟩)
theorem ss_lv2 {x y z : Int32} (h : ss_lv x y z) : ss_lv y x z := by
  rcases h with ⟨rfl, h⟩ | ⟨rfl, h⟩ | ⟨rfl, h⟩
  · exact Or.inl ⟨rfl, h⟩
  · exact Or.inr (Or.inr ⟨rfl, h⟩)
  · exact Or.inr (Or.inl ⟨rfl, h⟩)
theorem xx_lv {post : Int32 → Prop} {x y z : Int32} (h1 : ss_lv x y z → post 1) (h0 : ¬ ss_lv x y z → post 0) : wpX_areGreatestTwoEqual post x y z := by
  have h20 : ¬ (x = y ∧ z ≤ x) → ¬ (x = z ∧ y ≤ x) → wX_areGreatestTwoEqual_20 post x y z := fun n1 n2 =>
    br_c (fun g1 => br_c (fun g2 => h0 (fun w => by
      rcases w with w | w | w
      · exact n1 w
      · exact n2 w
      · exact absurd g2 (Int32.not_lt.mpr w.2))) (fun g2 => h1 (Or.inr (Or.inr ⟨g1, Int32.not_lt.mp g2⟩)))) (fun g1 => h0 (fun w => by
      rcases w with w | w | w
      · exact n1 w
      · exact n2 w
      · exact g1 w.1))
  have h10 : ¬ (x = y ∧ z ≤ x) → wX_areGreatestTwoEqual_10 post x y z := fun n1 =>
    br_c (fun g1 => br_c (fun g2 => h1 (Or.inr (Or.inl ⟨g1, g2⟩))) (fun g2 => h20 n1 (fun w => g2 w.2))) (fun g1 => h20 n1 (fun w => g1 w.1))
  exact br_c (fun g1 => br_c (fun g2 => h1 (Or.inl ⟨g1, g2⟩)) (fun g2 => h10 (fun w => g2 w.2))) (fun g1 => h10 (fun w => g1 w.1))
theorem yy_lv {post : Int32 → Prop} {x y z c : Int32} {a m f : Nat → Int32} (h1 : ss_lv x y z → post 1) (h0 : ¬ ss_lv x y z → post 0) : wpY_level post (c, a, m, f) x y z := by
  refine br_c (fun g1 => br_c (fun g2 => h0 ?_) (fun g2 => h1 (Or.inl ⟨g1, Int32.not_lt.mp g2⟩))) (fun g1 => br_c (fun g2 => br_c (fun g3 => h0 ?_) (fun g3 => h1 (Or.inr (Or.inl ⟨g2, Int32.not_lt.mp g3⟩)))) (fun g2 => br_c (fun g3 => br_c (fun g4 => h0 ?_) (fun g4 => h1 (Or.inr (Or.inr ⟨g3, Int32.not_lt.mp g4⟩)))) (fun g3 => h0 ?_)))
  · intro w
    rcases w with w | w | w
    · exact absurd g2 (Int32.not_lt.mpr w.2)
    · rw [← w.1] at g2; exact Int32.lt_irrefl g2
    · rw [← w.1, g1] at g2; exact Int32.lt_irrefl g2
  · intro w
    rcases w with w | w | w
    · exact g1 w.1
    · exact absurd g3 (Int32.not_lt.mpr w.2)
    · exact g1 (g2.trans w.1.symm)
  · intro w
    rcases w with w | w | w
    · exact g1 w.1
    · exact g2 w.1
    · exact absurd g4 (Int32.not_lt.mpr w.2)
  · intro w
    rcases w with w | w | w
    · exact g1 w.1
    · exact g2 w.1
    · exact g3 w.1
def ss_P (a : Nat → Int32) (i j k l : Nat) : Prop := ss_lv (a (7 * i + j) + a (7 * k + l)) (a (7 * i + k) + a (7 * j + l)) (a (7 * i + l) + a (7 * j + k))
theorem xx_t10 {post : Int32 → Prop} {J : Int32 → Prop} {i j k c : Nat} {a e : Nat → Int32} (hc : c ≤ 7) (hi : i < c) (hj : j < c) (hkc : k < c)
    (h0 : ∀ l, l ≤ k → ¬ ss_P a i j k l → post 0) (h1 : (∀ l, l ≤ k → ss_P a i j k l) → J (nI (k + 1))) :
    ∀ d l, l + d = k + 1 → (∀ l', l' < l → ss_P a i j k l') → wX_isTreelikeFrom_10 post J (nI i) (nI j) (nI k) (nI c) a e (d + 1) (nI l) := by
  intro d
  induction d with
  | zero =>
    intro l hl hp
    exact br_t (nI_lt (by omega) (by omega)) (nm_r (nI_1 k) (h1 (fun l' h' => hp l' (by omega))))
  | succ d ih =>
    intro l hl hp
    refine br_f (nI_nlt (by omega) (by omega)) ?_
    refine xx_btw (by omega) (by omega) (xx_btw (by omega) (by omega) (nm_e (xx_btw (by omega) (by omega) (xx_btw (by omega) (by omega) (nm_e (xx_btw (by omega) (by omega) (xx_btw (by omega) (by omega) (nm_e ?_))))))))
    refine xx_lv (fun g => br_f ss_10 (nm_r (nI_1 l) (ih (l + 1) (by omega) ?_))) (fun g => br_t rfl (h0 l (by omega) g))
    intro l' h'
    rcases Nat.lt_or_ge l' l with g' | g'
    · exact hp l' g'
    · have : l' = l := by omega
      subst this
      exact g
theorem xx_t2 {post : Int32 → Prop} {i j c : Nat} {a e : Nat → Int32} (hc : c ≤ 7) (hi : i < c) (hj : j < c)
    (h0 : ∀ k l, k ≤ j → l ≤ k → ¬ ss_P a i j k l → post 0) (h1 : (∀ k l, k ≤ j → l ≤ k → ss_P a i j k l) → post 1) :
    ∀ d k, k + d = j + 1 → (∀ k' l, k' < k → l ≤ k' → ss_P a i j k' l) → wX_isTreelikeFrom_2 post (nI i) (nI j) (nI c) a e (d + 1) (nI k) := by
  intro d
  induction d with
  | zero =>
    intro k hk hp
    exact br_t (nI_lt (by omega) (by omega)) (h1 (fun k' l h' => hp k' l (by omega)))
  | succ d ih =>
    intro k hk hp
    refine br_f (nI_nlt (by omega) (by omega)) ⟨k + 1 + 1, ?_⟩
    refine xx_t10 hc hi hj (by omega) (fun l hl => h0 k l (by omega) hl) (fun g => ih (k + 1) (by omega) ?_) (k + 1) 0 (by omega) (fun l' h' => by omega)
    intro k' l h' hl
    rcases Nat.lt_or_ge k' k with g' | g'
    · exact hp k' l g' hl
    · have : k' = k := by omega
      subst this
      exact g l hl
theorem xx_tf {post : Int32 → Prop} {i j c : Nat} {a e : Nat → Int32} (hc : c ≤ 7) (hi : i < c) (hj : j < c)
    (h0 : ∀ k l, k ≤ j → l ≤ k → ¬ ss_P a i j k l → post 0) (h1 : (∀ k l, k ≤ j → l ≤ k → ss_P a i j k l) → post 1) : wpX_isTreelikeFrom post (nI c, a, e) (nI i) (nI j) :=
  ⟨j + 1 + 1, xx_t2 hc hi hj h0 h1 (j + 1) 0 (by omega) (fun k' l h' => by omega)⟩
theorem xx_t12 {post : Int32 → Prop} {J : Int32 → Prop} {i c : Nat} {a e : Nat → Int32} (hc : c ≤ 7) (hi : i < c)
    (h0 : ∀ j k l, j ≤ i → k ≤ j → l ≤ k → ¬ ss_P a i j k l → post 0) (h1 : (∀ j k l, j ≤ i → k ≤ j → l ≤ k → ss_P a i j k l) → J (nI (i + 1))) :
    ∀ d j, j + d = i + 1 → (∀ j' k l, j' < j → k ≤ j' → l ≤ k → ss_P a i j' k l) → wX_treelike_12 post J (nI i) (nI c) a e (d + 1) (nI j) := by
  intro d
  induction d with
  | zero =>
    intro j hj hp
    exact br_t (nI_lt (by omega) (by omega)) (nm_r (nI_1 i) (h1 (fun j' k l h' => hp j' k l (by omega))))
  | succ d ih =>
    intro j hj hp
    refine br_f (nI_nlt (by omega) (by omega)) ?_
    refine xx_tf hc hi (by omega) (fun k l hk hl g => br_t rfl (h0 j k l (by omega) hk hl g)) (fun g => br_f ss_10 (nm_r (nI_1 j) (ih (j + 1) (by omega) ?_)))
    intro j' k l h' hk hl
    rcases Nat.lt_or_ge j' j with g' | g'
    · exact hp j' k l g' hk hl
    · have : j' = j := by omega
      subst this
      exact g k l hk hl
theorem xx_tl2 {post : Int32 → Prop} {c : Nat} {a e : Nat → Int32} (hc : c ≤ 7)
    (h0 : ∀ i j k l, i < c → j ≤ i → k ≤ j → l ≤ k → ¬ ss_P a i j k l → post 0) (h1 : (∀ i j k l, i < c → j ≤ i → k ≤ j → l ≤ k → ss_P a i j k l) → post 1) :
    ∀ d i, i + d = c → (∀ i' j k l, i' < i → j ≤ i' → k ≤ j → l ≤ k → ss_P a i' j k l) → wX_treelike_2 post (nI c) a e (d + 1) (nI i) := by
  intro d
  induction d with
  | zero =>
    intro i hi hp
    have hi' : i = c := by omega
    exact br_t (by rw [hi']; exact Int32.le_refl _) (h1 (fun i' j k l h' => hp i' j k l (by omega)))
  | succ d ih =>
    intro i hi hp
    have hic : i < c := by omega
    refine br_f (ss_hi hic hc) ⟨i + 1 + 1, ?_⟩
    refine xx_t12 hc hic (fun j k l hj => h0 i j k l hic hj) (fun g => ih (i + 1) (by omega) ?_) (i + 1) 0 (by omega) (fun j' k l h' => by omega)
    intro i' j k l h' hj hk hl
    rcases Nat.lt_or_ge i' i with g' | g'
    · exact hp i' j k l g' hj hk hl
    · have : i' = i := by omega
      subst this
      exact g j k l hj hk hl
theorem yy_f13 {post : Int32 → Prop} {J : Int32 → Prop} {i j k c : Nat} {a m f : Nat → Int32} (hc : c ≤ 7) (hi : i < c) (hj : j < c) (hkc : k < c)
    (h0 : ∀ l, l < c → ¬ ss_P a i j k l → post 0) (h1 : (∀ l, l < c → ss_P a i j k l) → J (nI (k + 1))) :
    ∀ d l, l + d = c → (∀ l', l' < l → ss_P a i j k l') → wY_fits_13 post J (nI i) (nI j) (nI k) (nI c) a m f (d + 1) (nI l) := by
  intro d
  induction d with
  | zero =>
    intro l hl hp
    have hl' : l = c := by omega
    exact br_t (by rw [hl']; exact Int32.le_refl _) (nm_r (nI_1 k) (h1 (fun l' h' => hp l' (by omega))))
  | succ d ih =>
    intro l hl hp
    have hlc : l < c := by omega
    refine br_f (ss_hi hlc hc) ?_
    refine ⟨ss_inY (by omega) (by omega), ss_inY (by omega) (by omega), nm_r (e' := a (7 * i + j) + a (7 * k + l)) (by rw [ss_clY (by omega) (by omega), ss_clY (by omega) (by omega)]) ?_⟩
    refine ⟨ss_inY (by omega) (by omega), ss_inY (by omega) (by omega), nm_r (e' := a (7 * i + k) + a (7 * j + l)) (by rw [ss_clY (by omega) (by omega), ss_clY (by omega) (by omega)]) ?_⟩
    refine ⟨ss_inY (by omega) (by omega), ss_inY (by omega) (by omega), nm_r (e' := a (7 * i + l) + a (7 * j + k)) (by rw [ss_clY (by omega) (by omega), ss_clY (by omega) (by omega)]) ?_⟩
    refine yy_lv (fun g => br_f ss_10 (nm_r (nI_1 l) (ih (l + 1) (by omega) ?_))) (fun g => br_t rfl (h0 l (by omega) g))
    intro l' h'
    rcases Nat.lt_or_ge l' l with g' | g'
    · exact hp l' g'
    · have : l' = l := by omega
      subst this
      exact g
theorem yy_f2 {post : Int32 → Prop} {i j c : Nat} {a m f : Nat → Int32} (hc : c ≤ 7) (hi : i < c) (hj : j < c)
    (h0 : ∀ k l, k < c → l < c → ¬ ss_P a i j k l → post 0) (h1 : (∀ k l, k < c → l < c → ss_P a i j k l) → post 1) :
    ∀ d k, k + d = c → (∀ k' l, k' < k → l < c → ss_P a i j k' l) → wY_fits_2 post (nI i) (nI j) (nI c) a m f (d + 1) (nI k) := by
  intro d
  induction d with
  | zero =>
    intro k hk hp
    have hk' : k = c := by omega
    exact br_t (by rw [hk']; exact Int32.le_refl _) (h1 (fun k' l h' => hp k' l (by omega)))
  | succ d ih =>
    intro k hk hp
    have hkc : k < c := by omega
    refine br_f (ss_hi hkc hc) ⟨c + 1, ?_⟩
    refine yy_f13 hc hi hj hkc (fun l hl => h0 k l hkc hl) (fun g => ih (k + 1) (by omega) ?_) c 0 (by omega) (fun l' h' => by omega)
    intro k' l h' hl
    rcases Nat.lt_or_ge k' k with g' | g'
    · exact hp k' l g' hl
    · have : k' = k := by omega
      subst this
      exact g l hl
theorem yy_t12 {post : Int32 → Prop} {J : Int32 → Prop} {i c : Nat} {a m f : Nat → Int32} (hc : c ≤ 7) (hi : i < c)
    (h0 : ∀ j k l, j < c → k < c → l < c → ¬ ss_P a i j k l → post 0) (h1 : (∀ j k l, j < c → k < c → l < c → ss_P a i j k l) → J (nI (i + 1))) :
    ∀ d j, j + d = c → (∀ j' k l, j' < j → k < c → l < c → ss_P a i j' k l) → wY_treelike_12 post J (nI i) (nI c) a m f (d + 1) (nI j) := by
  intro d
  induction d with
  | zero =>
    intro j hj hp
    have hj' : j = c := by omega
    exact br_t (by rw [hj']; exact Int32.le_refl _) (nm_r (nI_1 i) (h1 (fun j' k l h' => hp j' k l (by omega))))
  | succ d ih =>
    intro j hj hp
    have hjc : j < c := by omega
    refine br_f (ss_hi hjc hc) ⟨c + 1, ?_⟩
    refine yy_f2 hc hi hjc (fun k l hk hl g => br_t rfl (h0 j k l hjc hk hl g)) (fun g => br_f ss_10 (nm_r (nI_1 j) (ih (j + 1) (by omega) ?_))) c 0 (by omega) (fun k' l h' => by omega)
    intro j' k l h' hk hl
    rcases Nat.lt_or_ge j' j with g' | g'
    · exact hp j' k l g' hk hl
    · have : j' = j := by omega
      subst this
      exact g k l hk hl
theorem yy_tl2 {post : Int32 → Prop} {c : Nat} {a m f : Nat → Int32} (hc : c ≤ 7)
    (h0 : ∀ i j k l, i < c → j < c → k < c → l < c → ¬ ss_P a i j k l → post 0) (h1 : (∀ i j k l, i < c → j < c → k < c → l < c → ss_P a i j k l) → post 1) :
    ∀ d i, i + d = c → (∀ i' j k l, i' < i → j < c → k < c → l < c → ss_P a i' j k l) → wY_treelike_2 post (nI c) a m f (d + 1) (nI i) := by
  intro d
  induction d with
  | zero =>
    intro i hi hp
    have hi' : i = c := by omega
    exact br_t (by rw [hi']; exact Int32.le_refl _) (h1 (fun i' j k l h' => hp i' j k l (by omega)))
  | succ d ih =>
    intro i hi hp
    have hic : i < c := by omega
    refine br_f (ss_hi hic hc) ⟨c + 1, ?_⟩
    refine yy_t12 hc hic (fun j k l hj => h0 i j k l hic hj) (fun g => ih (i + 1) (by omega) ?_) c 0 (by omega) (fun j' k l h' => by omega)
    intro i' j k l h' hj hk hl
    rcases Nat.lt_or_ge i' i with g' | g'
    · exact hp i' j k l g' hj hk hl
    · have : i' = i := by omega
      subst this
      exact g j k l hj hk hl
theorem ss_P12 {a : Nat → Int32} (ok : ss_ok a) {i j k l : Nat} (hi : i < 7) (hj : j < 7) (hk : k < 7) (hl : l < 7) (h : ss_P a j i k l) : ss_P a i j k l := by
  have h' := ss_lv1 h
  unfold ss_P
  rw [ok.1 i j hi hj, Int32.add_comm (a (7 * i + k)), Int32.add_comm (a (7 * i + l))]
  exact h'
theorem ss_P23 {a : Nat → Int32} (ok : ss_ok a) {i j k l : Nat} (hi : i < 7) (hj : j < 7) (hk : k < 7) (hl : l < 7) (h : ss_P a i k j l) : ss_P a i j k l := by
  have h' := ss_lv2 h
  unfold ss_P
  rw [ok.1 j k hj hk]
  exact h'
theorem ss_P34 {a : Nat → Int32} (ok : ss_ok a) {i j k l : Nat} (hi : i < 7) (hj : j < 7) (hk : k < 7) (hl : l < 7) (h : ss_P a i j l k) : ss_P a i j k l := by
  have h' := ss_lv1 h
  unfold ss_P
  rw [ok.1 k l hk hl]
  exact h'
theorem ss_Pall {a : Nat → Int32} (ok : ss_ok a) {c : Nat} (hc : c ≤ 7) (H : ∀ i j k l, i < c → j ≤ i → k ≤ j → l ≤ k → ss_P a i j k l) : ∀ i j k l, i < c → j < c → k < c → l < c → ss_P a i j k l := by
  have H1 : ∀ i j k l, i < c → j ≤ i → k ≤ j → l < c → ss_P a i j k l := by
    intro i j k l hi hj hk hl
    rcases Nat.le_total l k with g | g
    · exact H i j k l hi hj hk g
    · refine ss_P34 ok (by omega) (by omega) (by omega) (by omega) ?_
      rcases Nat.le_total l j with g2 | g2
      · exact H i j l k hi hj g2 g
      · refine ss_P23 ok (by omega) (by omega) (by omega) (by omega) ?_
        rcases Nat.le_total l i with g3 | g3
        · exact H i l j k hi g3 g2 hk
        · refine ss_P12 ok (by omega) (by omega) (by omega) (by omega) ?_
          exact H l i j k hl g3 hj hk
  have H2 : ∀ i j k l, i < c → j ≤ i → k < c → l < c → ss_P a i j k l := by
    intro i j k l hi hj hk hl
    rcases Nat.le_total k j with g | g
    · exact H1 i j k l hi hj g hl
    · refine ss_P23 ok (by omega) (by omega) (by omega) (by omega) ?_
      rcases Nat.le_total k i with g2 | g2
      · exact H1 i k j l hi g2 g hl
      · refine ss_P12 ok (by omega) (by omega) (by omega) (by omega) ?_
        exact H1 k i j l hk g2 hj hl
  intro i j k l hi hj hk hl
  rcases Nat.le_total j i with g | g
  · exact H2 i j k l hi g hk hl
  · refine ss_P12 ok (by omega) (by omega) (by omega) (by omega) ?_
    exact H2 j i k l hj g hk hl
theorem i_vc_treelike {k : Nat} {u : SX} {v : SY} (I : i_Rel k u v) (hk : k + 4 ≤ 2048) : wpX_treelike (fun r => wpY_treelike (fun r' => r' = r ∧ i_Rel (k + 4) u v) v) u := by
  obtain ⟨c, a, e, m, f, rfl, rfl, hc, ok, hm⟩ := I
  have J := ss_mk (k := k + 4) (m := m) (f := f) hc ok hm
  refine ⟨c + 1, xx_tl2 hc (fun i j k l hi hj hk hl n => ?_) (fun H => ?_) c 0 (by omega) (fun i' j k l h' => by omega)⟩
  · exact ⟨c + 1, yy_tl2 hc (fun _ _ _ _ _ _ _ _ _ => ⟨rfl, J⟩) (fun H => absurd (H i j k l hi (by omega) (by omega) (by omega)) n) c 0 (by omega) (fun i' j k l h' => by omega)⟩
  · exact ⟨c + 1, yy_tl2 hc (fun i j k l hi hj hk hl n => absurd (ss_Pall ok hc H i j k l hi hj hk hl) n) (fun _ => ⟨rfl, J⟩) c 0 (by omega) (fun i' j k l h' => by omega)⟩
