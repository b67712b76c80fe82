theorem yy_72 {post : Int32 → Prop} {J6 J17 J : Int32 → Int32 → Prop} {s x5 : Int32} {p q b c : Nat} {a m f : Nat → Int32} (hc : c ≤ 7) (hp : p < c) (hq : q < c) (hb : b < c) (Q : Int32 → Prop)
    (hQ : ∀ j, j < c → ss_b s (nI b) = 0 → ss_b s (nI j) = 0 → Q (ss_v a p q b j)) :
    ∀ d j, j + d = c → ∀ x, Q x → (∀ r, Q r → r ≤ x → (∀ j', j ≤ j' → j' < c → ss_b s (nI b) = 0 → ss_b s (nI j') = 0 → r ≤ ss_v a p q b j') → J r (nI (b + 1))) →
      wY_indexOf_72 post J6 J17 J s (nI p) (nI q) x5 (nI b) (nI c) a m f (d + 1) x (nI j) := by
  intro d
  induction d with
  | zero =>
    intro j hj x hx h
    have hj' : j = c := by omega
    refine br_t (by rw [hj']; exact Int32.le_refl _) (nm_r (nI_1 b) (h x hx (Int32.le_refl _) (fun j' h1 h2 => by omega)))
  | succ d ih =>
    intro j hj x hx h
    have hjc : j < c := by omega
    refine br_f (ss_hi hjc hc) ⟨ss_inY (by omega) (by omega), ss_inY (by omega) (by omega), ss_inY (by omega) (by omega), ss_inY (by omega) (by omega), ?_⟩
    refine nm_r (e' := ss_v a p q b j) (by rw [ss_clY (by omega) (by omega), ss_clY (by omega) (by omega), ss_clY (by omega) (by omega), ss_clY (by omega) (by omega)]; rfl) ?_
    refine br_c (fun e1 => ?_) (fun e1 => ?_)
    · refine br_c (fun e2 => ?_) (fun e2 => ?_)
      · refine br_c (fun g => nm_r (nI_1 j) (ih (j + 1) (by omega) x hx ?_)) (fun g => nm_r (nI_1 j) (ih (j + 1) (by omega) (ss_v a p q b j) (hQ j hjc e1 e2) ?_))
        · intro r hr hrx hall
          refine h r hr hrx (fun j' h1 h2 z1 z2 => ?_)
          rcases Nat.lt_or_ge j j' with g' | g'
          · exact hall j' g' h2 z1 z2
          · have : j' = j := by omega
            subst this
            exact Int32.le_trans hrx g
        · intro r hr hrx hall
          refine h r hr (Int32.le_trans hrx (ss_nle g)) (fun j' h1 h2 z1 z2 => ?_)
          rcases Nat.lt_or_ge j j' with g' | g'
          · exact hall j' g' h2 z1 z2
          · have : j' = j := by omega
            subst this
            exact hrx
      · refine nm_r (nI_1 j) (ih (j + 1) (by omega) x hx ?_)
        intro r hr hrx hall
        refine h r hr hrx (fun j' h1 h2 z1 z2 => ?_)
        rcases Nat.lt_or_ge j j' with g | g
        · exact hall j' g h2 z1 z2
        · have : j' = j := by omega
          subst this
          exact absurd z2 e2
    · refine nm_r (nI_1 j) (ih (j + 1) (by omega) x hx ?_)
      intro r hr hrx hall
      exact h r hr hrx (fun j' h1 h2 z1 z2 => absurd z1 e1)
theorem yy_55 {post : Int32 → Prop} {J6 J : Int32 → Int32 → Prop} {s : Int32} {p q c : Nat} {a m f : Nat → Int32} (hc : c ≤ 7) (hp : p < c) (hq : q < c) (Q : Int32 → Prop)
    (hQ : ∀ b j, b < c → j < c → ss_b s (nI b) = 0 → ss_b s (nI j) = 0 → Q (ss_v a p q b j)) :
    ∀ d b, b + d = c → ∀ x, Q x → (∀ r, Q r → r ≤ x → (∀ b' j', b ≤ b' → b' < c → j' < c → ss_b s (nI b') = 0 → ss_b s (nI j') = 0 → r ≤ ss_v a p q b' j') → J r (nI (q + 1))) →
      wY_indexOf_55 post J6 J s (nI p) (nI q) 1 (nI c) a m f (d + 1) x (nI b) := by
  intro d
  induction d with
  | zero =>
    intro b hb x hx h
    have hb' : b = c := by omega
    exact br_t (by rw [hb']; exact Int32.le_refl _) (nm_r (nI_1 q) (h x hx (Int32.le_refl _) (fun b' j' h1 h2 => by omega)))
  | succ d ih =>
    intro b hb x hx h
    have hbc : b < c := by omega
    refine br_f (ss_hi hbc hc) (br_f ss_10 ⟨c + 1, ?_⟩)
    refine yy_72 hc hp hq hbc Q (fun j hj z1 z2 => hQ b j hbc hj z1 z2) c 0 (by omega) x hx ?_
    intro r hr hrx hall
    refine ih (b + 1) (by omega) r hr ?_
    intro r' hr' hrr hall'
    refine h r' hr' (Int32.le_trans hrr hrx) (fun b' j' h1 h2 h3 z1 z2 => ?_)
    rcases Nat.lt_or_ge b b' with g | g
    · exact hall' b' j' g h2 h3 z1 z2
    · have : b' = b := by omega
      subst this
      exact Int32.le_trans hrr (hall j' (by omega) h3 z1 z2)
theorem yy_550 {post : Int32 → Prop} {J6 J : Int32 → Int32 → Prop} {s x : Int32} {p q c : Nat} {a m f : Nat → Int32} (h : J x (nI (q + 1))) :
      wY_indexOf_55 post J6 J s (nI p) (nI q) 0 (nI c) a m f 1 x 0 :=
  br_c (fun _ => nm_r (nI_1 q) h) (fun _ => br_t rfl (nm_r (nI_1 q) h))
theorem yy_17 {post : Int32 → Prop} {J : Int32 → Int32 → Prop} {s : Int32} {p c : Nat} {a m f : Nat → Int32} (hc : c ≤ 7) (hp : p < c) (Q : Int32 → Prop)
    (hQ : ∀ q b j, q < c → b < c → j < c → ss_b s (nI p) = 1 → ss_b s (nI q) = 1 → ss_b s (nI b) = 0 → ss_b s (nI j) = 0 → Q (ss_v a p q b j)) :
    ∀ d q, q + d = c → ∀ x, Q x → (∀ r, Q r → r ≤ x → (∀ q' b j, q ≤ q' → q' < c → b < c → j < c → ss_b s (nI p) = 1 → ss_b s (nI q') = 1 → ss_b s (nI b) = 0 → ss_b s (nI j) = 0 → r ≤ ss_v a p q' b j) → J r (nI (p + 1))) →
      wY_indexOf_17 post J s (nI p) (nI c) a m f (d + 1) x (nI q) := by
  intro d
  induction d with
  | zero =>
    intro q hq x hx h
    have hq' : q = c := by omega
    exact br_t (by rw [hq']; exact Int32.le_refl _) (nm_r (nI_1 p) (h x hx (Int32.le_refl _) (fun q' b j h1 h2 => by omega)))
  | succ d ih =>
    intro q hq x hx h
    have hqc : q < c := by omega
    refine br_f (ss_hi hqc hc) ?_
    refine br_c (fun e1 => ?_) (fun e1 => ?_)
    · refine br_c (fun e2 => ?_) (fun e2 => ?_)
      · refine ⟨c + 1, yy_55 hc hp hqc Q (fun b j hb hj z1 z2 => hQ q b j hqc hb hj e1 e2 z1 z2) c 0 (by omega) x hx ?_⟩
        intro r hr hrx hall
        refine ih (q + 1) (by omega) r hr ?_
        intro r' hr' hrr hall'
        refine h r' hr' (Int32.le_trans hrr hrx) (fun q' b j h1 h2 hb hj z1 z2 z3 z4 => ?_)
        rcases Nat.lt_or_ge q q' with g | g
        · exact hall' q' b j g h2 hb hj z1 z2 z3 z4
        · have : q' = q := by omega
          subst this
          exact Int32.le_trans hrr (hall b j (by omega) hb hj z3 z4)
      · refine ⟨1, yy_550 (ih (q + 1) (by omega) x hx ?_)⟩
        intro r hr hrx hall
        refine h r hr hrx (fun q' b j h1 h2 hb hj z1 z2 z3 z4 => ?_)
        rcases Nat.lt_or_ge q q' with g | g
        · exact hall q' b j g h2 hb hj z1 z2 z3 z4
        · have : q' = q := by omega
          subst this
          exact absurd z2 e2
    · refine ⟨1, yy_550 (ih (q + 1) (by omega) x hx ?_)⟩
      intro r hr hrx hall
      exact h r hr hrx (fun q' b j h1 h2 hb hj z1 z2 z3 z4 => absurd z1 e1)
theorem yy_6 {post : Int32 → Prop} {s : Int32} {c : Nat} {a m f : Nat → Int32} (hc : c ≤ 7) (Q : Int32 → Prop)
    (hQ : ∀ p q b j, p < c → q < c → b < c → j < c → ss_b s (nI p) = 1 → ss_b s (nI q) = 1 → ss_b s (nI b) = 0 → ss_b s (nI j) = 0 → Q (ss_v a p q b j)) :
    ∀ d p, p + d = c → ∀ x, Q x → (∀ r, Q r → r ≤ x → (∀ p' q b j, p ≤ p' → p' < c → q < c → b < c → j < c → ss_b s (nI p') = 1 → ss_b s (nI q) = 1 → ss_b s (nI b) = 0 → ss_b s (nI j) = 0 → r ≤ ss_v a p' q b j) → post r) →
      wY_indexOf_6 post s (nI c) a m f (d + 1) x (nI p) := by
  intro d
  induction d with
  | zero =>
    intro p hp x hx h
    have hp' : p = c := by omega
    exact br_t (by rw [hp']; exact Int32.le_refl _) (h x hx (Int32.le_refl _) (fun p' q b j h1 h2 => by omega))
  | succ d ih =>
    intro p hp x hx h
    have hpc : p < c := by omega
    refine br_f (ss_hi hpc hc) ⟨c + 1, ?_⟩
    refine yy_17 hc hpc Q (fun q b j hq hb hj => hQ p q b j hpc hq hb hj) c 0 (by omega) x hx ?_
    intro r hr hrx hall
    refine ih (p + 1) (by omega) r hr ?_
    intro r' hr' hrr hall'
    refine h r' hr' (Int32.le_trans hrr hrx) (fun p' q b j h1 h2 h3 hb hj z1 z2 z3 z4 => ?_)
    rcases Nat.lt_or_ge p p' with g | g
    · exact hall' p' q b j g h2 h3 hb hj z1 z2 z3 z4
    · have : p' = p := by omega
      subst this
      exact Int32.le_trans hrr (hall q b j (by omega) h3 hb hj z1 z2 z3 z4)
theorem yy_ix {post : Int32 → Prop} {c t : Nat} {a m f : Nat → Int32} (hc : c ≤ 7) (ok : ss_ok a) (ht : t < ss_T c) (h : ∀ r, ss_mn c a (nI (2 * t + 1)) r → post r) :
    wpY_indexOf post (nI c, a, m, f) (nI (2 * t + 1)) := by
  refine ⟨c + 1, yy_6 hc (ss_Q c a (nI (2 * t + 1)) 1000) (fun p q b j hp hq hb hj z1 z2 z3 z4 => ss_Q1 ⟨hp, hq, hb, hj, z1, z2, z3, z4⟩) c 0 (by omega) 1000 ss_Q0 ?_⟩
  intro r hr hr1 hall
  have hall2 : ∀ p q b j, ss_in4 c (nI (2 * t + 1)) p q b j → r ≤ ss_v a p q b j := by
    intro p q b j ⟨hp, hq, hb, hj, z1, z2, z3, z4⟩
    exact hall p q b j (by omega) hp hq hb hj z1 z2 z3 z4
  refine h r ⟨?_, hall2⟩
  rcases hr with hr | hr
  · obtain ⟨z1, b, hb, z2⟩ := ss_two c hc t ht
    have h0 := ss_T0 c hc t ht
    have h4 : ss_in4 c (nI (2 * t + 1)) 0 0 b b := ⟨h0, h0, hb, hb, z1, z1, z2, z2⟩
    obtain ⟨n, hn, e⟩ := ss_vd ok (p := 0) (b := b) (by omega) (by omega)
    have h5 := hall2 _ _ _ _ h4
    rw [e, hr] at h5
    exact absurd h5 (nI_ge (b := 1000) (by omega) (by decide))
  · exact hr
theorem yy_w2 {post : SY → Prop} {c : Nat} {a m : Nat → Int32} (hc : c ≤ 7) (ok : ss_ok a) (h : ∀ e, ss_ms c a e → post (nI c, a, m, e)) :
    ∀ d t, t + d = ss_T c → ∀ e, (∀ t', t' < t → ss_mn c a (nI (2 * t' + 1)) (e (2 * t' + 1))) → wY_work_2 post (nI c) (d + 1) (nI (2 * t + 1)) a m e := by
  intro d
  induction d with
  | zero =>
    intro t ht e he
    exact br_t (ss_exT hc (by omega)) (h e (fun t' h' => he t' (by omega)))
  | succ d ih =>
    intro t ht e he
    have htc : t < ss_T c := by omega
    refine br_f (ss_exF hc htc) ?_
    refine yy_ix hc ok htc ?_
    intro r hr
    refine ⟨ss_in hc htc, nm_e (nm_r (ss_2 t) (ih (t + 1) (by omega) _ ?_))⟩
    intro t' ht'
    rw [ss_cl hc htc]
    rcases Nat.lt_or_ge t' t with g | g
    · rw [pk_un (by omega)]; exact he t' g
    · have : t' = t := by omega
      subst this
      rw [pk_us]; exact hr
def ss_ag (c : Nat) (e f : Nat → Int32) : Prop := ∀ t, t < ss_T c → f (2 * t + 1) = e (2 * t + 1)
theorem yy_w {post : SY → Prop} {c : Nat} {a m e f : Nat → Int32} (hc : c ≤ 7) (ok : ss_ok a) (hm : ss_ms c a e) (h : ∀ f', ss_ag c e f' → post (nI c, a, m, f')) : wpY_work post (nI c, a, m, f) :=
  ⟨ss_T c + 1, yy_w2 hc ok (fun f' hf => h f' (fun t ht => ss_mnU (hm t ht) (hf t ht))) (ss_T c) 0 (by omega) f (fun t' h' => by omega)⟩
