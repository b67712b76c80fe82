theorem ss_eb {c t : Nat} {a e : Nat → Int32} (hc : c ≤ 7) (ok : ss_ok a) (hm : ss_ms c a e) (ht : t < ss_T c) : e (2 * t + 1) ≤ 120 := by
  obtain ⟨z1, b, hb, z2⟩ := ss_two c hc t ht
  have h0 := ss_T0 c hc t ht
  have h4 : ss_in4 c (nI (2 * t + 1)) 0 0 b b := ⟨h0, h0, hb, hb, z1, z1, z2, z2⟩
  obtain ⟨n, hn, q⟩ := ss_vd ok (p := 0) (b := b) (by omega) (by omega)
  have h5 := (hm t ht).2 _ _ _ _ h4
  rw [q] at h5
  exact Int32.le_trans h5 (nI_le (b := 120) hn (by decide))
theorem ss_spN {c : Nat} {a e : Nat → Int32} (hc : c ≤ 7) (ok : ss_ok a) (hm : ss_ms c a e) (i j : Nat) : ∀ t, t ≤ ss_T c → ∃ n : Nat, n ≤ 120 * t ∧ ss_sp e i j t = nI n := by
  intro t
  induction t with
  | zero => intro _; exact ⟨0, by omega, rfl⟩
  | succ t ih =>
    intro ht
    obtain ⟨n, hn, q⟩ := ih (by omega)
    rw [ss_sp.eq_2]
    split
    · exact ⟨n, by omega, q⟩
    · next h =>
      split
      · exact ⟨n, by omega, q⟩
      · obtain ⟨k, hk, q2⟩ := nI_of2 (x := e (2 * t + 1)) (M := 120) (n := 120) (by decide) (fun z => h (Int32.le_of_lt z)) (ss_eb hc ok hm (by omega))
        exact ⟨n + k, by omega, by rw [q, q2, nI_add]⟩
def ss_hv (c : Nat) (e : Nat → Int32) (i j : Nat) : Int32 := if ss_sp e i j (ss_T c) / 2 ≤ 60 then ss_sp e i j (ss_T c) / 2 else 60
theorem ss_hvN {c : Nat} {a e : Nat → Int32} (hc : c ≤ 7) (ok : ss_ok a) (hm : ss_ms c a e) (i j : Nat) : ∃ n : Nat, n ≤ 60 ∧ ss_hv c e i j = nI n := by
  obtain ⟨n, hn, q⟩ := ss_spN hc ok hm i j (ss_T c) (Nat.le_refl _)
  have hT := (ss_TT c hc).1
  have q2 : ss_sp e i j (ss_T c) / 2 = nI (n / 2) := by
    rw [q]; exact pk_div (d := 2) (by omega) (by omega) (by omega)
  unfold ss_hv
  rw [q2]
  split
  · next h =>
    rw [show (60 : Int32) = nI 60 from rfl, nI_leI (by omega) (by omega)] at h
    exact ⟨n / 2, h, rfl⟩
  · exact ⟨60, by omega, rfl⟩
theorem ss_hvD {c : Nat} {a e : Nat → Int32} (hc : c ≤ 7) (ok : ss_ok a) (hm : ss_ms c a e) (i j : Nat) : ss_di (ss_hv c e i j) := by
  obtain ⟨n, hn, q⟩ := ss_hvN hc ok hm i j
  rw [q]
  exact ⟨nI_pos (by omega), nI_nlt (a := 60) hn (by decide)⟩
theorem ss_hvS (c : Nat) (e : Nat → Int32) (i j : Nat) : ss_hv c e i j = ss_hv c e j i := by
  unfold ss_hv; rw [ss_spS]
theorem ss_hv0 (c : Nat) (e : Nat → Int32) (i : Nat) : ss_hv c e i i = 0 := by
  unfold ss_hv; rw [ss_spD]; decide
def ss_hF (c : Nat) (a e : Nat → Int32) (p r : Nat) : Int32 := if p < c ∧ r < c then ss_hv c e p r else a (7 * p + r)
theorem ss_hFp {c : Nat} {a e : Nat → Int32} {p r : Nat} (hp : p < c) (hr : r < c) : ss_hF c a e p r = ss_hv c e p r := by
  unfold ss_hF; rw [if_pos ⟨hp, hr⟩]
theorem ss_hFn {c : Nat} {a e : Nat → Int32} {p r : Nat} (h : ¬ (p < c ∧ r < c)) : ss_hF c a e p r = a (7 * p + r) := by
  unfold ss_hF; rw [if_neg h]
theorem ss_hFs {c : Nat} {a e : Nat → Int32} (ok : ss_ok a) {p r : Nat} (hp : p < 7) (hr : r < 7) : ss_hF c a e p r = ss_hF c a e r p := by
  by_cases h : p < c ∧ r < c
  · rw [ss_hFp h.1 h.2, ss_hFp h.2 h.1, ss_hvS]
  · rw [ss_hFn h, ss_hFn (fun z => h ⟨z.2, z.1⟩), ok.1 p r hp hr]
theorem ss_hFd {c : Nat} {a e : Nat → Int32} (ok : ss_ok a) {p : Nat} (hp : p < 7) : ss_hF c a e p p = a (7 * p + p) := by
  by_cases h : p < c ∧ p < c
  · rw [ss_hFp h.1 h.2, ss_hv0, ok.2.1 p hp]
  · rw [ss_hFn h]
theorem ss_hFok {c : Nat} {a e : Nat → Int32} (hc : c ≤ 7) (ok : ss_ok a) (hm : ss_ms c a e) : ss_ok (ss_fi a (ss_hF c a e)) := by
  refine ss_fiok ok (fun p r hp hr => ss_hFs ok hp hr) (fun p hp => ?_) (fun p r hp hr => ?_)
  · rw [ss_hFd ok hp, ok.2.1 p hp]
  · unfold ss_hF
    split
    · exact ss_hvN hc ok hm p r
    · exact ok.2.2 _
def ss_hg (c : Nat) (a e : Nat → Int32) (i j : Nat) : Nat := if ¬ a (7 * i + j) = ss_hv c e i j then 1 else 0
def ss_hh (c : Nat) (a e : Nat → Int32) (i j : Nat) : Nat := if i < j ∧ ¬ ss_hv c e i j = a (7 * i + j) then 1 else 0
theorem ss_hgh {c : Nat} {a e : Nat → Int32} (ok : ss_ok a) (hc : c ≤ 7) : ss_su (fun i => ss_su (ss_hh c a e i) c) c = ss_su (fun i => ss_su (ss_hg c a e i) i) c := by
  refine ss_cnt (fun i j hi hj => ?_) (fun i hi => ?_)
  · unfold ss_hg ss_hh
    rw [if_neg (c := i < j ∧ _) (fun z => by omega), Nat.zero_add, ok.1 j i (by omega) (by omega), ss_hvS c e j i]
    by_cases h : a (7 * i + j) = ss_hv c e i j
    · rw [if_neg (fun z => z h), if_neg (fun z => z.2 h.symm)]
    · rw [if_pos h, if_pos ⟨hj, fun z => h z.symm⟩]
  · unfold ss_hh
    rw [if_neg (fun z => by omega)]
theorem ss_hg1 {c : Nat} {a e : Nat → Int32} {i j : Nat} (h : ¬ a (7 * i + j) = ss_hv c e i j) : ss_su (ss_hg c a e i) (j + 1) = ss_su (ss_hg c a e i) j + 1 := by
  show _ + ss_hg c a e i j = _
  unfold ss_hg; rw [if_pos h]
theorem ss_hg0 {c : Nat} {a e : Nat → Int32} {i j : Nat} (h : a (7 * i + j) = ss_hv c e i j) : ss_su (ss_hg c a e i) j = ss_su (ss_hg c a e i) (j + 1) := by
  show _ = _ + ss_hg c a e i j
  unfold ss_hg; rw [if_neg (fun z => z h)]; rfl
theorem ss_hh1 {c : Nat} {a e : Nat → Int32} {i j : Nat} (h : i < j ∧ ¬ ss_hv c e i j = a (7 * i + j)) : ss_su (ss_hh c a e i) (j + 1) = ss_su (ss_hh c a e i) j + 1 := by
  show _ + ss_hh c a e i j = _
  unfold ss_hh; rw [if_pos h]
theorem ss_hh0 {c : Nat} {a e : Nat → Int32} {i j : Nat} (h : ¬ (i < j ∧ ¬ ss_hv c e i j = a (7 * i + j))) : ss_su (ss_hh c a e i) j = ss_su (ss_hh c a e i) (j + 1) := by
  show _ = _ + ss_hh c a e i j
  unfold ss_hh; rw [if_neg h]; rfl
theorem xx_h14 {post : Int32 → SX → Prop} {J : Int32 → Int32 → Int32 → (Nat → Int32) → (Nat → Int32) → Prop} {c i K : Nat} {a e : Nat → Int32} (hc : c ≤ 7) (ok : ss_ok a) (hm : ss_ms c a e) (hi : i < c)
    (h : ∀ b, ss_iv a (ss_hF c a e) (ss_dX i i) b → J (nI (K + ss_su (ss_hg c a e i) i)) (nI (i + 1)) (nI c) b e) :
    ∀ d j, j + d = i → ∀ b, ss_iv a (ss_hF c a e) (ss_dX i j) b → wX_smooth_14 post J (nI i) (d + 1) (nI (K + ss_su (ss_hg c a e i) j)) (nI j) (nI c) b e := by
  intro d
  induction d with
  | zero =>
    intro j hj b v
    have hj' : j = i := by omega
    subst hj'
    exact br_t (Int32.le_refl _) (nm_r (nI_1 j) (h b v))
  | succ d ih =>
    intro j hj b v
    have hji : j < i := by omega
    have hb : b (7 * i + j) = a (7 * i + j) := (v.2 i j (by omega) (by omega)).2 (by unfold ss_dX; omega)
    have hs := ok.1 i j (by omega) (by omega)
    have F1 : ss_hF c a e i j = ss_hv c e i j := ss_hFp hi (by omega)
    have F2 : ss_hF c a e j i = ss_hv c e i j := by rw [ss_hFs ok (by omega) (by omega), F1]
    have go : ∀ w, w = ss_hv c e i j → wX_smooth_43 post J (wX_smooth_14 post J (nI i) (d + 1)) (nI (K + ss_su (ss_hg c a e i) j)) (nI i) (nI j) w (nI c) b e := by
      intro w hw
      subst hw
      refine xx_chg (by omega) (by omega) (fun z => br_t rfl (nm_r (nI_1 j) ?_)) (fun z1 z2 => br_f ss_10 (nm_r (nI_1 _) (nm_r (nI_1 j) ?_)))
      · have z2 : a (7 * i + j) = ss_hv c e i j := Classical.byContradiction (fun n => z ⟨ss_hvD hc ok hm i j, by rw [hb]; exact n⟩)
        rw [ss_hg0 z2]
        exact ih (j + 1) (by omega) b (ss_ivK (i := i) (j := j) v (by rw [F1, z2]) (by rw [F2, ← hs, z2]) (fun p r _ _ => ss_dX1 hji p r))
      · rw [hb] at z2
        rw [Nat.add_assoc, ← ss_hg1 z2]
        exact ih (j + 1) (by omega) _ (ss_ivP v (by omega) (by omega) F1 F2 (fun p r _ _ => ss_dX1 hji p r))
    refine br_f (ss_hi hji (by omega)) (xx_sp hc ⟨by decide, nm_e (br_c (fun g => go _ ?_) (fun g => go _ ?_))⟩)
    · unfold ss_hv; rw [if_pos g]
    · unfold ss_hv; rw [if_neg g]
theorem xx_h4 {post : Int32 → SX → Prop} {c : Nat} {a e : Nat → Int32} (hc : c ≤ 7) (ok : ss_ok a) (hm : ss_ms c a e)
    (h : ∀ e', ss_ms c (ss_fi a (ss_hF c a e)) e' → post (nI (ss_su (fun i => ss_su (ss_hg c a e i) i) c)) (nI c, ss_fi a (ss_hF c a e), e')) :
    ∀ d i, i + d = c → ∀ b, ss_iv a (ss_hF c a e) (ss_dX i 0) b → wX_smooth_4 post (d + 1) (nI (ss_su (fun i => ss_su (ss_hg c a e i) i) i)) (nI i) (nI c) b e := by
  intro d
  induction d with
  | zero =>
    intro i hi b v
    have hi' : i = c := by omega
    subst hi'
    have hb : b = ss_fi a (ss_hF i a e) := ss_ivF v (fun p r hp hr n => by
      by_cases g : p = r
      · subst g; exact ss_hFd ok hp
      · refine ss_hFn (fun w => n ?_)
        unfold ss_dX; omega)
    subst hb
    exact br_t (Int32.le_refl _) (xx_ms hc (ss_hFok hc ok hm) h)
  | succ d ih =>
    intro i hi b v
    have hic : i < c := by omega
    refine br_f (ss_hi hic hc) ⟨i + 1, xx_h14 (K := ss_su (fun i => ss_su (ss_hg c a e i) i) i) hc ok hm hic (fun b' v' => ?_) i 0 (by omega) b v⟩
    exact ih (i + 1) (by omega) b' (ss_ivE v' (fun p r _ _ => ss_dX2 i p r))
def ss_md (c : Nat) (e : Nat → Int32) (i j : Nat) (m : Nat → Int32) : Prop := ∀ p r, p < 7 → r < 7 → ss_vi c i j p r → m (7 * p + r) = ss_hv c e p r
theorem ss_md1 {c i j : Nat} {e m : Nat → Int32} (hc : c ≤ 7) (hi : i < c) (hj : j < c) (h : ss_md c e i j m) : ss_md c e i (j + 1) (upd m (7 * i + j) (ss_hv c e i j)) := by
  intro p r hp hr hv
  by_cases z : 7 * p + r = 7 * i + j
  · have z1 : p = i := by omega
    have z2 : r = j := by omega
    subst z1 z2
    rw [pk_us]
  · rw [pk_un z]
    refine h p r hp hr ?_
    rcases (ss_vi1 hj p r).mp hv with g | ⟨g1, g2⟩
    · exact g
    · subst g1 g2; exact absurd rfl z
theorem yy_h18 {post : Int32 → SY → Prop} {J : Int32 → Int32 → (Nat → Int32) → (Nat → Int32) → (Nat → Int32) → Prop} {c i K : Nat} {a e f : Nat → Int32} (hc : c ≤ 7) (ag : ss_ag c e f) (hi : i < c)
    (h : ∀ m, ss_md c e i c m → J (nI (K + ss_su (ss_hh c a e i) c)) (nI (i + 1)) a m f) :
    ∀ d j, j + d = c → ∀ m, ss_md c e i j m → wY_smooth_18 post J (nI i) (nI c) (d + 1) (nI (K + ss_su (ss_hh c a e i) j)) (nI j) a m f := by
  intro d
  induction d with
  | zero =>
    intro j hj m v
    have hj' : j = c := by omega
    subst hj'
    exact br_t (Int32.le_refl _) (nm_r (nI_1 i) (h m v))
  | succ d ih =>
    intro j hj m v
    have hjc : j < c := by omega
    have go : ∀ w, w = ss_hv c e i j → wY_smooth_60 post J (wY_smooth_18 post J (nI i) (nI c) (d + 1)) (nI (K + ss_su (ss_hh c a e i) j)) (nI i) (nI j) w ((7 * nI i) + nI j) (nI c) a m f := by
      intro w hw
      subst hw
      have I := ss_inY (i := i) (j := j) (by omega) (by omega)
      have C := ss_clY (i := i) (j := j) (by omega) (by omega)
      refine ⟨I, nm_r (by rw [C]) (pk_le j i (fun g => nm_r (nI_1 j) ?_) (fun g => ⟨I, I, br_c (fun z => nm_r (nI_1 j) ?_) (fun z => nm_r (nI_1 _) (nm_r (nI_1 j) ?_))⟩))⟩
      · rw [ss_hh0 (fun w => by omega)]
        exact ih (j + 1) (by omega) _ (ss_md1 hc hi hjc v)
      · rw [C, pk_us] at z
        rw [ss_hh0 (fun w => w.2 z)]
        exact ih (j + 1) (by omega) _ (ss_md1 hc hi hjc v)
      · rw [C, pk_us] at z
        rw [Nat.add_assoc, ← ss_hh1 ⟨g, z⟩]
        exact ih (j + 1) (by omega) _ (ss_md1 hc hi hjc v)
    refine br_f (ss_hi hjc hc) (yy_b hc ag ⟨by decide, nm_e (br_c (fun g => go _ ?_) (fun g => go _ ?_))⟩)
    · unfold ss_hv; rw [if_pos g]
    · unfold ss_hv; rw [if_neg g]
theorem ss_ivU {a b : Nat → Int32} {F : Nat → Nat → Int32} {dn dn' : Nat → Nat → Prop} {i j : Nat} {w : Int32} (v : ss_iv a F dn b) (hi : i < 7) (hj : j < 7) (h1 : F i j = w)
    (h : ∀ p r, p < 7 → r < 7 → (dn' p r ↔ dn p r ∨ (p = i ∧ r = j))) : ss_iv a F dn' (upd b (7 * i + j) w) := by
  refine ⟨fun q hq => ?_, fun p r hp hr => ?_⟩
  · rw [pk_un (by omega)]; exact v.1 q hq
  · by_cases z : p = i ∧ r = j
    · obtain ⟨z1, z2⟩ := z
      subst z1 z2
      rw [pk_us]
      exact ⟨fun _ => h1.symm, fun n => absurd ((h p r hp hr).mpr (Or.inr ⟨rfl, rfl⟩)) n⟩
    · rw [pk_un (by omega)]
      refine ⟨fun n => (v.2 p r hp hr).1 (((h p r hp hr).mp n).resolve_right z), fun n => (v.2 p r hp hr).2 (fun w => n ((h p r hp hr).mpr (Or.inl w)))⟩
theorem yy_h118 {post : Int32 → SY → Prop} {J : Int32 → (Nat → Int32) → (Nat → Int32) → (Nat → Int32) → Prop} {x : Int32} {c i : Nat} {a e m f : Nat → Int32} (hc : c ≤ 7) (hi : i < c) (md : ss_md c e c 0 m)
    (h : ∀ b, ss_iv a (ss_hF c a e) (ss_vi c i c) b → J (nI (i + 1)) b m f) :
    ∀ d j, j + d = c → ∀ b, ss_iv a (ss_hF c a e) (ss_vi c i j) b → wY_smooth_118 post J x (nI i) (nI c) (d + 1) (nI j) b m f := by
  intro d
  induction d with
  | zero =>
    intro j hj b v
    have hj' : j = c := by omega
    subst hj'
    exact br_t (Int32.le_refl _) (nm_r (nI_1 i) (h b v))
  | succ d ih =>
    intro j hj b v
    have hjc : j < c := by omega
    have I := ss_inY (i := i) (j := j) (by omega) (by omega)
    have C := ss_clY (i := i) (j := j) (by omega) (by omega)
    have F1 : ss_hF c a e i j = m (7 * i + j) := by
      rw [ss_hFp hi hjc, md i j (by omega) (by omega) ⟨hjc, Or.inl hi⟩]
    refine br_f (ss_hi hjc hc) ⟨I, I, nm_r (by rw [C]) (nm_r (nI_1 j) (ih (j + 1) (by omega) _ ?_))⟩
    exact ss_ivU v (by omega) (by omega) F1 (fun p r _ _ => ss_vi1 hjc p r)
theorem yy_h108 {post : Int32 → SY → Prop} {x : Int32} {c : Nat} {a e m f : Nat → Int32} (hc : c ≤ 7) (md : ss_md c e c 0 m)
    (h : post x (nI c, ss_fi a (ss_hF c a e), m, f)) :
    ∀ d i, i + d = c → ∀ b, ss_iv a (ss_hF c a e) (ss_vi c i 0) b → wY_smooth_108 post x (nI c) (d + 1) (nI i) b m f := by
  intro d
  induction d with
  | zero =>
    intro i hi b v
    have hi' : i = c := by omega
    subst hi'
    have hb : b = ss_fi a (ss_hF i a e) := ss_ivF v (fun p r hp hr n => ss_hFn (fun w => n ⟨w.2, Or.inl w.1⟩))
    subst hb
    exact br_t (Int32.le_refl _) h
  | succ d ih =>
    intro i hi b v
    have hic : i < c := by omega
    refine br_f (ss_hi hic hc) ⟨c + 1, yy_h118 hc hic md (fun b' v' => ?_) c 0 (by omega) b v⟩
    exact ih (i + 1) (by omega) b' (ss_ivE v' (fun p r _ _ => ss_vi2 c i p r))
theorem yy_h8 {post : Int32 → SY → Prop} {c : Nat} {a e f : Nat → Int32} (hc : c ≤ 7) (ag : ss_ag c e f)
    (h : ∀ m, post (nI (ss_su (fun i => ss_su (ss_hh c a e i) c) c)) (nI c, ss_fi a (ss_hF c a e), m, f)) :
    ∀ d i, i + d = c → ∀ m, ss_md c e i 0 m → wY_smooth_8 post (nI c) (d + 1) (nI (ss_su (fun i => ss_su (ss_hh c a e i) c) i)) (nI i) a m f := by
  intro d
  induction d with
  | zero =>
    intro i hi m v
    have hi' : i = c := by omega
    subst hi'
    exact br_t (Int32.le_refl _) ⟨i + 1, yy_h108 hc v (h m) i 0 (by omega) a (ss_iv0 (fun p r _ _ => by unfold ss_vi; omega))⟩
  | succ d ih =>
    intro i hi m v
    have hic : i < c := by omega
    refine br_f (ss_hi hic hc) ⟨c + 1, yy_h18 (K := ss_su (fun i => ss_su (ss_hh c a e i) c) i) hc ag hic (fun m' v' => ?_) c 0 (by omega) m v⟩
    exact ih (i + 1) (by omega) m' (fun p r hp hr w => v' p r hp hr ((ss_vi2 c i p r).mp w))
theorem i_vc_smooth {k : Nat} {u : SX} {v : SY} (I : i_Rel k u v) (hk : k + 4 ≤ 2048) : wpX_smooth (fun r u' => wpY_smooth (fun r' v' => r' = r ∧ i_Rel (k + 4) u' v') v) u := by
  obtain ⟨c, a, e, m, f, rfl, rfl, hc, ok, hm⟩ := I
  refine ⟨c + 1, xx_h4 hc ok hm (fun e' he => ?_) c 0 (by omega) a (ss_iv0 (fun p r _ _ => by unfold ss_dX; omega))⟩
  unfold wpY_smooth; dsimp only
  refine yy_w hc ok hm (fun f' ag => ⟨c + 1, yy_h8 hc ag (fun m' => ⟨congrArg nI (ss_hgh ok hc), ss_mk hc (ss_hFok hc ok hm) he⟩) c 0 (by omega) m (fun p r _ _ w => ?_)⟩)
  unfold ss_vi at w; omega
