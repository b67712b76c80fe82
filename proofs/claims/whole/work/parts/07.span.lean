theorem xx_14 {post : Int32 → Prop} {J : Int32 → Int32 → Prop} {i c : Nat} {a e : Nat → Int32} (hc : c ≤ 7) (hi : i < c) (Q : Int32 → Prop)
    (hQ : ∀ j, j < i → Q (ss_sp e i j (ss_T c))) :
    ∀ d j, j + d = i → ∀ x, Q x → (∀ r, Q r → x ≤ r → (∀ j', j ≤ j' → j' < i → ss_sp e i j' (ss_T c) ≤ r) → J r (nI (i + 1))) →
      wX_span_14 post J (nI i) (nI c) a e (d + 1) x (nI j) := by
  intro d
  induction d with
  | zero =>
    intro j hj x hx h
    have hj' : j = i := by omega
    exact br_t (by rw [hj']; exact Int32.le_refl _) (nm_r (nI_1 i) (h x hx (Int32.le_refl _) (fun j' h1 h2 => by omega)))
  | succ d ih =>
    intro j hj x hx h
    have hji : j < i := by omega
    refine br_f (ss_hi hji (by omega)) (xx_sp hc ?_)
    refine br_c (fun g => nm_r (nI_1 j) (ih (j + 1) (by omega) x hx ?_)) (fun g => nm_r (nI_1 j) (ih (j + 1) (by omega) _ (hQ j hji) ?_))
    · intro r hr hrx hall
      refine h r hr hrx (fun j' h1 h2 => ?_)
      rcases Nat.lt_or_ge j j' with g' | g'
      · exact hall j' g' h2
      · have : j' = j := by omega
        subst this
        exact Int32.le_trans g hrx
    · intro r hr hrx hall
      refine h r hr (Int32.le_trans (ss_nle g) hrx) (fun j' h1 h2 => ?_)
      rcases Nat.lt_or_ge j j' with g' | g'
      · exact hall j' g' h2
      · have : j' = j := by omega
        subst this
        exact hrx
theorem xx_s4 {post : Int32 → Prop} {c : Nat} {a e : Nat → Int32} (hc : c ≤ 7) (Q : Int32 → Prop)
    (hQ : ∀ i j, i < c → j < c → Q (ss_sp e i j (ss_T c))) :
    ∀ d i, i + d = c → ∀ x, Q x → (∀ r, Q r → x ≤ r → (∀ i' j', i ≤ i' → i' < c → j' < i' → ss_sp e i' j' (ss_T c) ≤ r) → post r) →
      wX_span_4 post (nI c) a e (d + 1) x (nI i) := by
  intro d
  induction d with
  | zero =>
    intro i hi x hx h
    have hi' : i = c := by omega
    exact br_t (by rw [hi']; exact Int32.le_refl _) (h x hx (Int32.le_refl _) (fun i' j' h1 h2 => by omega))
  | succ d ih =>
    intro i hi x hx h
    have hic : i < c := by omega
    refine br_f (ss_hi hic hc) ⟨i + 1, xx_14 hc hic Q (fun j hj => hQ i j hic (by omega)) i 0 (by omega) x hx ?_⟩
    intro r hr hrx hall
    refine ih (i + 1) (by omega) r hr ?_
    intro r' hr' hrr hall'
    refine h r' hr' (Int32.le_trans hrx hrr) (fun i' j' h1 h2 h3 => ?_)
    rcases Nat.lt_or_ge i i' with g | g
    · exact hall' i' j' g h2 h3
    · have : i' = i := by omega
      subst this
      exact Int32.le_trans (hall j' (by omega) h3) hrr
theorem yy_18 {post : Int32 → SY → Prop} {J : Int32 → Int32 → Prop} {i c : Nat} {a m e f : Nat → Int32} (hc : c ≤ 7) (ag : ss_ag c e f) (hi : i < c) (Q : Int32 → Prop)
    (hQ : ∀ j, j < c → Q (ss_sp e i j (ss_T c))) :
    ∀ d j, j + d = c → ∀ x, Q x → (∀ r, Q r → x ≤ r → (∀ j', j ≤ j' → j' < c → ss_sp e i j' (ss_T c) ≤ r) → J r (nI (i + 1))) →
      wY_span_18 post J (nI i) (nI c) a m f (d + 1) x (nI j) := by
  intro d
  induction d with
  | zero =>
    intro j hj x hx h
    have hj' : j = c := by omega
    exact br_t (by rw [hj']; exact Int32.le_refl _) (nm_r (nI_1 i) (h x hx (Int32.le_refl _) (fun j' h1 h2 => by omega)))
  | succ d ih =>
    intro j hj x hx h
    have hjc : j < c := by omega
    refine br_f (ss_hi hjc hc) (yy_b hc ag ?_)
    refine br_c (fun g => nm_r (nI_1 j) (ih (j + 1) (by omega) x hx ?_)) (fun g => nm_r (nI_1 j) (ih (j + 1) (by omega) _ (hQ j hjc) ?_))
    · intro r hr hrx hall
      refine h r hr hrx (fun j' h1 h2 => ?_)
      rcases Nat.lt_or_ge j j' with g' | g'
      · exact hall j' g' h2
      · have : j' = j := by omega
        subst this
        exact Int32.le_trans g hrx
    · intro r hr hrx hall
      refine h r hr (Int32.le_trans (ss_nle g) hrx) (fun j' h1 h2 => ?_)
      rcases Nat.lt_or_ge j j' with g' | g'
      · exact hall j' g' h2
      · have : j' = j := by omega
        subst this
        exact hrx
theorem yy_s8 {post : Int32 → SY → Prop} {c : Nat} {a m e f : Nat → Int32} (hc : c ≤ 7) (ag : ss_ag c e f) (Q : Int32 → Prop)
    (hQ : ∀ i j, i < c → j < c → Q (ss_sp e i j (ss_T c))) :
    ∀ d i, i + d = c → ∀ x, Q x → (∀ r, Q r → x ≤ r → (∀ i' j', i ≤ i' → i' < c → j' < c → ss_sp e i' j' (ss_T c) ≤ r) → post r (nI c, a, m, f)) →
      wY_span_8 post (nI c) a m f (d + 1) x (nI i) := by
  intro d
  induction d with
  | zero =>
    intro i hi x hx h
    have hi' : i = c := by omega
    exact br_t (by rw [hi']; exact Int32.le_refl _) (h x hx (Int32.le_refl _) (fun i' j' h1 h2 => by omega))
  | succ d ih =>
    intro i hi x hx h
    have hic : i < c := by omega
    refine br_f (ss_hi hic hc) ⟨c + 1, yy_18 hc ag hic Q (fun j hj => hQ i j hic (by omega)) c 0 (by omega) x hx ?_⟩
    intro r hr hrx hall
    refine ih (i + 1) (by omega) r hr ?_
    intro r' hr' hrr hall'
    refine h r' hr' (Int32.le_trans hrx hrr) (fun i' j' h1 h2 h3 => ?_)
    rcases Nat.lt_or_ge i i' with g | g
    · exact hall' i' j' g h2 h3
    · have : i' = i := by omega
      subst this
      exact Int32.le_trans (hall j' (by omega) h3) hrr
def ss_QS (c : Nat) (e : Nat → Int32) (w : Int32) : Prop := w = 0 ∨ ∃ i j, i < c ∧ j < c ∧ w = ss_sp e i j (ss_T c)
theorem ss_QS0 {c : Nat} {e : Nat → Int32} : ss_QS c e 0 := Or.inl rfl
theorem ss_QS1 {c : Nat} {e : Nat → Int32} (i j : Nat) (hi : i < c) (hj : j < c) : ss_QS c e (ss_sp e i j (ss_T c)) := Or.inr ⟨i, j, hi, hj, rfl⟩
theorem ss_QSU {c : Nat} {e : Nat → Int32} {r r' : Int32} (h : ss_QS c e r) (h0 : 0 ≤ r') (hall : ∀ i j, i < c → j < c → ss_sp e i j (ss_T c) ≤ r') : r ≤ r' := by
  rcases h with h | ⟨i, j, hi, hj, h⟩
  · rw [h]; exact h0
  · rw [h]; exact hall i j hi hj
theorem i_vc_span {k : Nat} {u : SX} {v : SY} (I : i_Rel k u v) (hk : k + 4 ≤ 2048) : wpX_span (fun r => wpY_span (fun r' v' => r' = r ∧ i_Rel (k + 4) u v') v) u := by
  obtain ⟨c, a, e, m, f, rfl, rfl, hc, ok, hm⟩ := I
  refine ⟨c + 1, xx_s4 hc (ss_QS c e) ss_QS1 c 0 (by omega) 0 ss_QS0 (fun r hr h0 hall => ?_)⟩
  have hall2 : ∀ i j, i < c → j < c → ss_sp e i j (ss_T c) ≤ r := by
    intro i j hi hj
    rcases Nat.lt_trichotomy i j with g | g | g
    · rw [ss_spS]; exact hall j i (by omega) hj g
    · subst g; rw [ss_spD]; exact h0
    · exact hall i j (by omega) hi g
  unfold wpY_span; dsimp only
  refine yy_w hc ok hm (fun f' ag => ⟨c + 1, yy_s8 hc ag (ss_QS c e) ss_QS1 c 0 (by omega) 0 ss_QS0 (fun r' hr' h0' hall' => ⟨?_, ss_mk hc ok hm⟩)⟩)
  exact Int32.le_antisymm (ss_QSU hr' h0 hall2) (ss_QSU hr h0' (fun i j hi hj => hall' i j (by omega) hi hj))
