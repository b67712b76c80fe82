theorem ss_agD : ∀ c, c < 8 → ∀ t, t < ss_T c → ∀ o, o < ss_T c → ¬ (nI (2 * t + 1) &&& nI (2 * o + 1)) = 0 ∧ (((nI (2 * t + 1) ||| nI (2 * o + 1)) = ss_al c) ↔ ((ss_al c &&& (nI (2 * t + 1) ^^^ (-1))) &&& (nI (2 * o + 1) ^^^ (-1))) = 0) := by decide +kernel
theorem ss_agr {c t o : Nat} {a e : Nat → Int32} (hc : c ≤ 7) (ht : t < ss_T c) (ho : o < ss_T c) : ∃ r : Int32,
    (∀ post : Int32 → Prop, post r → wpX_areAgreed post (nI c, a, e) (nI (2 * t + 1)) (nI (2 * o + 1))) ∧
    (∀ (m f : Nat → Int32) (post : Int32 → Prop), post r → wpY_agree post (nI c, a, m, f) (nI (2 * t + 1)) (nI (2 * o + 1))) := by
  obtain ⟨h0, h1⟩ := ss_agD c (by omega) t ht o ho
  by_cases z1 : (nI (2 * t + 1) &&& (nI (2 * o + 1) ^^^ (-1))) = 0
  · exact ⟨1, fun post hp => br_t z1 hp, fun m f post hp => nm_e (nm_e (nm_e (nm_e (nm_e (br_f h0 (br_t z1 hp))))))⟩
  by_cases z2 : (nI (2 * o + 1) &&& (nI (2 * t + 1) ^^^ (-1))) = 0
  · exact ⟨1, fun post hp => br_f z1 (br_t z2 hp), fun m f post hp => nm_e (nm_e (nm_e (nm_e (nm_e (br_f h0 (br_f z1 (br_t z2 hp)))))))⟩
  by_cases z3 : (nI (2 * t + 1) ||| nI (2 * o + 1)) = ss_al c
  · exact ⟨1, fun post hp => br_f z1 (br_f z2 (br_t z3 hp)), fun m f post hp => nm_e (nm_e (nm_e (nm_e (nm_e (br_f h0 (br_f z1 (br_f z2 (br_t (h1.mp z3) hp))))))))⟩
  · exact ⟨0, fun post hp => br_f z1 (br_f z2 (br_f z3 hp)), fun m f post hp => nm_e (nm_e (nm_e (nm_e (nm_e (br_f h0 (br_f z1 (br_f z2 (br_f (fun z => z3 (h1.mpr z)) hp))))))))⟩
theorem ss_agl {c o : Nat} {a e : Nat → Int32} (hc : c ≤ 7) (ho : o < ss_T c) : ∀ d t, t + d = ss_T c → ∃ r : Int32,
    (∀ post : Int32 → Prop, post r → wX_agreesWithEdges_7 post (nI (2 * o + 1)) (ss_al c) (nI c) a e (d + 1) (nI (2 * t + 1))) ∧
    (∀ m f : Nat → Int32, ss_ag c e f → ∀ post : Int32 → Prop, post r → wY_agreesWithAll_2 post (nI (2 * o + 1)) (nI c) a m f (d + 1) (nI (2 * t + 1))) := by
  intro d
  induction d with
  | zero =>
    intro t ht
    have h := ss_exT hc (t := t) (by omega)
    exact ⟨1, fun _ hp => br_t h hp, fun _ _ _ _ hp => br_t h hp⟩
  | succ d ih =>
    intro t ht
    have htc : t < ss_T c := by omega
    have h := ss_exF hc htc
    have cl := ss_cl hc htc
    obtain ⟨r, hX, hY⟩ := ih (t + 1) (by omega)
    by_cases z : e (2 * t + 1) ≤ 0
    · exact ⟨r, fun post hp => br_f h ⟨ss_in hc htc, br_t (by rw [cl]; exact z) (nm_r (ss_2 t) (hX post hp))⟩,
        fun m f ag post hp => br_f h ⟨ss_in hc htc, br_t (by rw [cl, ag t htc]; exact z) (nm_r (ss_2 t) (hY m f ag post hp))⟩⟩
    · obtain ⟨q, qX, qY⟩ := ss_agr (a := a) (e := e) hc ho htc
      by_cases y : q = 0
      · refine ⟨0, fun post hp => br_f h ⟨ss_in hc htc, br_f (by rw [cl]; exact z) (qX _ (br_t y hp))⟩,
          fun m f ag post hp => br_f h ⟨ss_in hc htc, br_f (by rw [cl, ag t htc]; exact z) (qY m f _ (br_t y hp))⟩⟩
      · refine ⟨r, fun post hp => br_f h ⟨ss_in hc htc, br_f (by rw [cl]; exact z) (qX _ (br_f y (nm_r (ss_2 t) (hX post hp))))⟩,
          fun m f ag post hp => br_f h ⟨ss_in hc htc, br_f (by rw [cl, ag t htc]; exact z) (qY m f _ (br_f y (nm_r (ss_2 t) (hY m f ag post hp))))⟩⟩
theorem ss_aga {c o : Nat} {a e : Nat → Int32} (hc : c ≤ 7) (ho : o < ss_T c) : ∃ r : Int32,
    (∀ post : Int32 → Prop, post r → wpX_agreesWithEdges post (nI c, a, e) (nI (2 * o + 1))) ∧
    (∀ m f : Nat → Int32, ss_ag c e f → ∀ post : Int32 → Prop, post r → wpY_agreesWithAll post (nI c, a, m, f) (nI (2 * o + 1))) := by
  obtain ⟨r, hX, hY⟩ := ss_agl (a := a) (e := e) hc ho (ss_T c) 0 (by omega)
  exact ⟨r, fun post hp => ⟨ss_T c + 1, hX post hp⟩, fun m f ag post hp => ⟨ss_T c + 1, hY m f ag post hp⟩⟩
theorem i_vc_agrees {k : Nat} {u : SX} {v : SY} (I : i_Rel k u v) (hk : k + 4 ≤ 2048) (v1 : Int32) : wpX_agrees (fun r => wpY_agrees (fun r' v' => r' = r ∧ i_Rel (k + 4) u v') v v1) u v1 := by
  obtain ⟨c, a, e, m, f, rfl, rfl, hc, ok, hm⟩ := I
  have J := ss_mk (k := k + 4) (m := m) (f := f) hc ok hm
  unfold wpX_agrees wpY_agrees; dsimp only
  rcases ss_spl c v1 hc with n | ⟨t, ht, rfl⟩
  · exact xx_spF n (br_t rfl (yy_spF n (br_t rfl ⟨rfl, J⟩)))
  · obtain ⟨r, hX, hY⟩ := ss_aga (a := a) (e := e) hc ht
    refine xx_spT hc ht (br_f ss_10 (hX _ ?_))
    by_cases y : r = 0
    · exact br_t y (yy_spT hc ht (br_f ss_10 (yy_w hc ok hm (fun f' ag => hY m f' ag _ (br_t y ⟨rfl, ss_mk hc ok hm⟩)))))
    · exact br_f y (yy_spT hc ht (br_f ss_10 (yy_w hc ok hm (fun f' ag => hY m f' ag _ (br_f y ⟨rfl, ss_mk hc ok hm⟩)))))
theorem ss_agi {c : Nat} {a e : Nat → Int32} (hc : c ≤ 7) : ∀ d t, t + d = ss_T c → ∀ x : Int32, ∃ r : Int32,
    (∀ post : Int32 → Prop, post r → wX_agreeing_9 post (ss_al c) (nI c) a e (d + 1) x (nI (2 * t + 1))) ∧
    (∀ m f : Nat → Int32, ss_ag c e f → ∀ post : Int32 → SY → Prop, post r (nI c, a, m, f) → wY_agreeing_8 post (nI c) a m f (d + 1) x (nI (2 * t + 1))) := by
  intro d
  induction d with
  | zero =>
    intro t ht x
    have h := ss_exT hc (t := t) (by omega)
    exact ⟨x, fun _ hp => br_t h hp, fun _ _ _ _ hp => br_t h hp⟩
  | succ d ih =>
    intro t ht x
    have htc : t < ss_T c := by omega
    have h := ss_exF hc htc
    obtain ⟨q, qX, qY⟩ := ss_aga (a := a) (e := e) hc htc
    by_cases y : q = 0
    · obtain ⟨r, hX, hY⟩ := ih (t + 1) (by omega) x
      exact ⟨r, fun post hp => br_f h (qX _ (br_t y (nm_r (ss_2 t) (hX post hp)))),
        fun m f ag post hp => br_f h (qY m f ag _ (br_t y (nm_r (ss_2 t) (hY m f ag post hp))))⟩
    · obtain ⟨r, hX, hY⟩ := ih (t + 1) (by omega) (x + 1)
      exact ⟨r, fun post hp => br_f h (qX _ (br_f y (nm_e (nm_r (ss_2 t) (hX post hp))))),
        fun m f ag post hp => br_f h (qY m f ag _ (br_f y (nm_e (nm_r (ss_2 t) (hY m f ag post hp)))))⟩
theorem i_vc_agreeing {k : Nat} {u : SX} {v : SY} (I : i_Rel k u v) (hk : k + 4 ≤ 2048) : wpX_agreeing (fun r => wpY_agreeing (fun r' v' => r' = r ∧ i_Rel (k + 4) u v') v) u := by
  obtain ⟨c, a, e, m, f, rfl, rfl, hc, ok, hm⟩ := I
  obtain ⟨r, hX, hY⟩ := ss_agi (a := a) (e := e) hc (ss_T c) 0 (by omega) 0
  refine ⟨ss_T c + 1, hX _ ?_⟩
  unfold wpY_agreeing; dsimp only
  refine yy_w hc ok hm (fun f' ag => ⟨ss_T c + 1, hY m f' ag _ ⟨rfl, ss_mk hc ok hm⟩⟩)
