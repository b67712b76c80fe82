theorem ss_eds {c : Nat} {a e : Nat → Int32} (hc : c ≤ 7) : ∀ d t, t + d = ss_T c → ∀ x : Int32, ∃ r : Int32,
    (∀ post : Int32 → Prop, post r → wX_edges_9 post (ss_al c) (nI c) a e (d + 1) x (nI (2 * t + 1))) ∧
    (∀ m f : Nat → Int32, ss_ag c e f → ∀ post : Int32 → SY → Prop, post r (nI c, a, m, f) → wY_edges_8 post (nI c) a m f (d + 1) x (nI (2 * t + 1))) := by
  intro d
  induction d with
  | zero =>
    intro t ht x
    have h := ss_exT hc (t := t) (by omega)
    exact ⟨x, fun _ hp => br_t h hp, fun _ _ _ _ hp => br_t h hp⟩
  | succ d ih =>
    intro t ht x
    have htc : t < ss_T c := by omega
    have h := ss_exF hc htc
    have cl := ss_cl hc htc
    by_cases z : e (2 * t + 1) ≤ 0
    · obtain ⟨r, hX, hY⟩ := ih (t + 1) (by omega) x
      exact ⟨r, fun post hp => br_f h ⟨ss_in hc htc, br_t (by rw [cl]; exact z) (nm_r (ss_2 t) (hX post hp))⟩,
        fun m f ag post hp => br_f h ⟨ss_in hc htc, br_t (by rw [cl, ag t htc]; exact z) (nm_r (ss_2 t) (hY m f ag post hp))⟩⟩
    · obtain ⟨r, hX, hY⟩ := ih (t + 1) (by omega) (x + 1)
      exact ⟨r, fun post hp => br_f h ⟨ss_in hc htc, br_f (by rw [cl]; exact z) (nm_e (nm_r (ss_2 t) (hX post hp)))⟩,
        fun m f ag post hp => br_f h ⟨ss_in hc htc, br_f (by rw [cl, ag t htc]; exact z) (nm_e (nm_r (ss_2 t) (hY m f ag post hp)))⟩⟩
theorem i_vc_edges {k : Nat} {u : SX} {v : SY} (I : i_Rel k u v) (hk : k + 4 ≤ 2048) : wpX_edges (fun r => wpY_edges (fun r' v' => r' = r ∧ i_Rel (k + 4) u v') v) u := by
  obtain ⟨c, a, e, m, f, rfl, rfl, hc, ok, hm⟩ := I
  obtain ⟨r, hX, hY⟩ := ss_eds (a := a) (e := e) hc (ss_T c) 0 (by omega) 0
  refine ⟨ss_T c + 1, hX _ ?_⟩
  unfold wpY_edges; dsimp only
  refine yy_w hc ok hm (fun f' ag => ⟨ss_T c + 1, hY m f' ag _ ⟨rfl, ss_mk hc ok hm⟩⟩)
theorem ss_edg {c : Nat} {a e : Nat → Int32} {k : Int32} (hc : c ≤ 7) : ∀ d t, t + d = ss_T c → ∀ x : Int32, ∃ r : Int32,
    (∀ post : Int32 → Prop, post r → wX_edge_10 post k (ss_al c) (nI c) a e (d + 1) x (nI (2 * t + 1))) ∧
    (∀ m f : Nat → Int32, ss_ag c e f → ∀ post : Int32 → SY → Prop, post r (nI c, a, m, f) → wY_edge_8 post k (nI c) a m f (d + 1) x (nI (2 * t + 1))) := by
  intro d
  induction d with
  | zero =>
    intro t ht x
    have h := ss_exT hc (t := t) (by omega)
    exact ⟨-1002, fun _ hp => br_t h hp, fun _ _ _ _ hp => br_t h hp⟩
  | succ d ih =>
    intro t ht x
    have htc : t < ss_T c := by omega
    have h := ss_exF hc htc
    have cl := ss_cl hc htc
    by_cases z : e (2 * t + 1) ≤ 0
    · obtain ⟨r, hX, hY⟩ := ih (t + 1) (by omega) x
      exact ⟨r, fun post hp => br_f h ⟨ss_in hc htc, br_t (by rw [cl]; exact z) (nm_r (ss_2 t) (hX post hp))⟩,
        fun m f ag post hp => br_f h ⟨ss_in hc htc, br_t (by rw [cl, ag t htc]; exact z) (nm_r (ss_2 t) (hY m f ag post hp))⟩⟩
    · by_cases y : x = k
      · exact ⟨nI (2 * t + 1), fun post hp => br_f h ⟨ss_in hc htc, br_f (by rw [cl]; exact z) (br_t y hp)⟩,
          fun m f ag post hp => br_f h ⟨ss_in hc htc, br_f (by rw [cl, ag t htc]; exact z) (br_t y hp)⟩⟩
      · obtain ⟨r, hX, hY⟩ := ih (t + 1) (by omega) (x + 1)
        exact ⟨r, fun post hp => br_f h ⟨ss_in hc htc, br_f (by rw [cl]; exact z) (br_f y (nm_e (nm_r (ss_2 t) (hX post hp))))⟩,
          fun m f ag post hp => br_f h ⟨ss_in hc htc, br_f (by rw [cl, ag t htc]; exact z) (br_f y (nm_e (nm_r (ss_2 t) (hY m f ag post hp))))⟩⟩
theorem i_vc_edge {k : Nat} {u : SX} {v : SY} (I : i_Rel k u v) (hk : k + 4 ≤ 2048) (v1 : Int32) : wpX_edge (fun r => wpY_edge (fun r' v' => r' = r ∧ i_Rel (k + 4) u v') v v1) u v1 := by
  obtain ⟨c, a, e, m, f, rfl, rfl, hc, ok, hm⟩ := I
  obtain ⟨r, hX, hY⟩ := ss_edg (a := a) (e := e) (k := v1) hc (ss_T c) 0 (by omega) 0
  refine ⟨ss_T c + 1, hX _ ?_⟩
  unfold wpY_edge; dsimp only
  refine yy_w hc ok hm (fun f' ag => ⟨ss_T c + 1, hY m f' ag _ ⟨rfl, ss_mk hc ok hm⟩⟩)
theorem ss_wei {c : Nat} {a e : Nat → Int32} (hc : c ≤ 7) : ∀ d t, t + d = ss_T c → ∀ x : Int32, ∃ r : Int32,
    (∀ post : Int32 → Prop, post r → wX_weight_9 post (ss_al c) (nI c) a e (d + 1) x (nI (2 * t + 1))) ∧
    (∀ m f : Nat → Int32, ss_ag c e f → ∀ post : Int32 → SY → Prop, post r (nI c, a, m, f) → wY_weight_8 post (nI c) a m f (d + 1) x (nI (2 * t + 1))) := by
  intro d
  induction d with
  | zero =>
    intro t ht x
    have h := ss_exT hc (t := t) (by omega)
    exact ⟨x, fun _ hp => br_t h hp, fun _ _ _ _ hp => br_t h hp⟩
  | succ d ih =>
    intro t ht x
    have htc : t < ss_T c := by omega
    have h := ss_exF hc htc
    have cl := ss_cl hc htc
    by_cases z : e (2 * t + 1) ≤ 0
    · obtain ⟨r, hX, hY⟩ := ih (t + 1) (by omega) x
      exact ⟨r, fun post hp => br_f h ⟨ss_in hc htc, br_t (by rw [cl]; exact z) (nm_r (ss_2 t) (hX post hp))⟩,
        fun m f ag post hp => br_f h ⟨ss_in hc htc, br_t (by rw [cl, ag t htc]; exact z) (nm_r (ss_2 t) (hY m f ag post hp))⟩⟩
    · obtain ⟨r, hX, hY⟩ := ih (t + 1) (by omega) (x + e (2 * t + 1))
      exact ⟨r, fun post hp => br_f h ⟨ss_in hc htc, br_f (by rw [cl]; exact z) ⟨ss_in hc htc, nm_r (by rw [cl]) (nm_r (ss_2 t) (hX post hp))⟩⟩,
        fun m f ag post hp => br_f h ⟨ss_in hc htc, br_f (by rw [cl, ag t htc]; exact z) ⟨ss_in hc htc, nm_r (by rw [cl, ag t htc]) (nm_r (ss_2 t) (hY m f ag post hp))⟩⟩⟩
theorem i_vc_weight {k : Nat} {u : SX} {v : SY} (I : i_Rel k u v) (hk : k + 4 ≤ 2048) : wpX_weight (fun r => wpY_weight (fun r' v' => r' = r ∧ i_Rel (k + 4) u v') v) u := by
  obtain ⟨c, a, e, m, f, rfl, rfl, hc, ok, hm⟩ := I
  obtain ⟨r, hX, hY⟩ := ss_wei (a := a) (e := e) hc (ss_T c) 0 (by omega) 0
  refine ⟨ss_T c + 1, hX _ ?_⟩
  unfold wpY_weight; dsimp only
  refine yy_w hc ok hm (fun f' ag => ⟨ss_T c + 1, hY m f' ag _ ⟨rfl, ss_mk hc ok hm⟩⟩)
def ss_sp (e : Nat → Int32) (i j : Nat) : Nat → Int32
  | 0 => 0
  | t + 1 => if e (2 * t + 1) ≤ 0 then ss_sp e i j t else if ss_b (nI (2 * t + 1)) (nI i) = ss_b (nI (2 * t + 1)) (nI j) then ss_sp e i j t else ss_sp e i j t + e (2 * t + 1)
theorem ss_spS (e : Nat → Int32) (i j : Nat) : ∀ t, ss_sp e i j t = ss_sp e j i t := by
  intro t
  induction t with
  | zero => rfl
  | succ t ih =>
    unfold ss_sp
    rw [ih]
    by_cases h : ss_b (nI (2 * t + 1)) (nI i) = ss_b (nI (2 * t + 1)) (nI j)
    · rw [if_pos h, if_pos h.symm]
    · have h' : ¬ ss_b (nI (2 * t + 1)) (nI j) = ss_b (nI (2 * t + 1)) (nI i) := fun z => h z.symm
      rw [if_neg h, if_neg h']
theorem ss_spD (e : Nat → Int32) (i : Nat) : ∀ t, ss_sp e i i t = 0 := by
  intro t
  induction t with
  | zero => rfl
  | succ t ih =>
    unfold ss_sp
    rw [if_pos rfl, ih]
    split <;> rfl
theorem ss_spA {e f : Nat → Int32} (i j : Nat) : ∀ t, (∀ t', t' < t → f (2 * t' + 1) = e (2 * t' + 1)) → ss_sp f i j t = ss_sp e i j t := by
  intro t
  induction t with
  | zero => intro _; rfl
  | succ t ih =>
    intro h
    unfold ss_sp
    rw [ih (fun t' h' => h t' (by omega)), h t (by omega)]
theorem xx_sp11 {post : Int32 → Prop} {c i j : Nat} {a e : Nat → Int32} (hc : c ≤ 7) (h : post (ss_sp e i j (ss_T c))) : ∀ d t, t + d = ss_T c →
    wX_sumOfParting_11 post (nI i) (nI j) (ss_al c) (nI c) a e (d + 1) (ss_sp e i j t) (nI (2 * t + 1)) := by
  intro d
  induction d with
  | zero =>
    intro t ht
    have ht' : t = ss_T c := by omega
    refine br_t (ss_exT hc ht') ?_
    rw [ht']; exact h
  | succ d ih =>
    intro t ht
    have htc : t < ss_T c := by omega
    have cl := ss_cl hc htc
    refine br_f (ss_exF hc htc) ⟨ss_in hc htc, br_c (fun z => nm_r (ss_2 t) ?_) (fun z => ?_)⟩
    · rw [cl] at z
      have E : ss_sp e i j t = ss_sp e i j (t + 1) := by
        rw [ss_sp.eq_2, if_pos z]
      rw [E]; exact ih (t + 1) (by omega)
    · rw [cl] at z
      refine xx_parts (fun y => br_t rfl (nm_r (ss_2 t) ?_)) (fun y => br_f ss_10 ⟨ss_in hc htc, nm_r (e' := ss_sp e i j (t + 1)) ?_ (nm_r (ss_2 t) (ih (t + 1) (by omega)))⟩)
      · have E : ss_sp e i j t = ss_sp e i j (t + 1) := by
          rw [ss_sp.eq_2, if_neg z, if_pos y]
        rw [E]; exact ih (t + 1) (by omega)
      · rw [cl, ss_sp.eq_2, if_neg z, if_neg y]
theorem xx_sp {post : Int32 → Prop} {c i j : Nat} {a e : Nat → Int32} (hc : c ≤ 7) (h : post (ss_sp e i j (ss_T c))) : wpX_sumOfParting post (nI c, a, e) (nI i) (nI j) :=
  ⟨ss_T c + 1, xx_sp11 hc h (ss_T c) 0 (by omega)⟩
theorem yy_b5 {post : Int32 → Prop} {c i j : Nat} {a m f : Nat → Int32} (hc : c ≤ 7) (h : post (ss_sp f i j (ss_T c))) : ∀ d t, t + d = ss_T c →
    wY_between_5 post (nI i) (nI j) (nI c) a m f (d + 1) (ss_sp f i j t) (nI (2 * t + 1)) := by
  intro d
  induction d with
  | zero =>
    intro t ht
    have ht' : t = ss_T c := by omega
    refine br_t (ss_exT hc ht') ?_
    rw [ht']; exact h
  | succ d ih =>
    intro t ht
    have htc : t < ss_T c := by omega
    have cl := ss_cl hc htc
    refine br_f (ss_exF hc htc) (br_c (fun y => nm_r (ss_2 t) ?_) (fun y => ⟨ss_in hc htc, br_c (fun z => nm_r (ss_2 t) ?_) (fun z => ⟨ss_in hc htc, nm_r (e' := ss_sp f i j (t + 1)) ?_ (nm_r (ss_2 t) (ih (t + 1) (by omega)))⟩)⟩))
    · have E : ss_sp f i j t = ss_sp f i j (t + 1) := by
        rw [ss_sp.eq_2, if_pos y]; split <;> rfl
      rw [E]; exact ih (t + 1) (by omega)
    · rw [cl] at z
      have E : ss_sp f i j t = ss_sp f i j (t + 1) := by
        rw [ss_sp.eq_2, if_pos z]
      rw [E]; exact ih (t + 1) (by omega)
    · rw [cl] at z
      rw [cl, ss_sp.eq_2, if_neg z, if_neg y]
theorem yy_b {post : Int32 → Prop} {c i j : Nat} {a m e f : Nat → Int32} (hc : c ≤ 7) (ag : ss_ag c e f) (h : post (ss_sp e i j (ss_T c))) : wpY_between post (nI c, a, m, f) (nI i) (nI j) :=
  ⟨ss_T c + 1, yy_b5 hc (by rw [ss_spA i j (ss_T c) ag]; exact h) (ss_T c) 0 (by omega)⟩
theorem i_vc_treeDistance {k : Nat} {u : SX} {v : SY} (I : i_Rel k u v) (hk : k + 4 ≤ 2048) (v1 : Int32) (v2 : Int32) : wpX_treeDistance (fun r => wpY_treeDistance (fun r' v' => r' = r ∧ i_Rel (k + 4) u v') v v1 v2) u v1 v2 := by
  obtain ⟨c, a, e, m, f, rfl, rfl, hc, ok, hm⟩ := I
  have J := ss_mk (k := k + 4) (m := m) (f := f) hc ok hm
  unfold wpX_treeDistance wpY_treeDistance; dsimp only
  rcases ss_pnt c v1 hc with n1 | ⟨i, hi, rfl⟩
  · exact xx_apF (Or.inl n1) (br_t rfl (yy_isF n1 (br_t rfl ⟨rfl, J⟩)))
  · rcases ss_pnt c v2 hc with n2 | ⟨j, hj, rfl⟩
    · exact xx_apF (Or.inr n2) (br_t rfl (yy_isT hc hi (br_f ss_10 (yy_isF n2 (br_t rfl ⟨rfl, J⟩)))))
    · refine xx_apT hc hi hj (br_f ss_10 (xx_sp hc ?_))
      refine yy_isT hc hi (br_f ss_10 (yy_isT hc hj (br_f ss_10 (yy_w hc ok hm (fun f' ag => ?_)))))
      exact yy_b hc ag ⟨rfl, ss_mk hc ok hm⟩
theorem i_vc_together {k : Nat} {u : SX} {v : SY} (I : i_Rel k u v) (hk : k + 4 ≤ 2048) (v1 : Int32) (v2 : Int32) : wpX_together (fun r => wpY_together (fun r' v' => r' = r ∧ i_Rel (k + 4) u v') v v1 v2) u v1 v2 := by
  obtain ⟨c, a, e, m, f, rfl, rfl, hc, ok, hm⟩ := I
  have J := ss_mk (k := k + 4) (m := m) (f := f) hc ok hm
  unfold wpX_together wpY_together; dsimp only
  rcases ss_pnt c v1 hc with n1 | ⟨i, hi, rfl⟩
  · exact xx_apF (Or.inl n1) (br_t rfl (yy_isF n1 (br_t rfl ⟨rfl, J⟩)))
  · rcases ss_pnt c v2 hc with n2 | ⟨j, hj, rfl⟩
    · exact xx_apF (Or.inr n2) (br_t rfl (yy_isT hc hi (br_f ss_10 (yy_isF n2 (br_t rfl ⟨rfl, J⟩)))))
    · refine xx_apT hc hi hj (br_f ss_10 (xx_sp hc ?_))
      refine br_c (fun z => ?_) (fun z => ?_)
      · refine yy_isT hc hi (br_f ss_10 (yy_isT hc hj (br_f ss_10 (yy_w hc ok hm (fun f' ag => ?_)))))
        exact yy_b hc ag (br_t z ⟨rfl, ss_mk hc ok hm⟩)
      · refine yy_isT hc hi (br_f ss_10 (yy_isT hc hj (br_f ss_10 (yy_w hc ok hm (fun f' ag => ?_)))))
        exact yy_b hc ag (br_f z ⟨rfl, ss_mk hc ok hm⟩)
