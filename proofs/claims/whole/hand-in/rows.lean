section
theorem pk_us {f : Nat → Int32} {k : Nat} {x : Int32} : upd f k x k = x := if_pos rfl
theorem pk_un {f : Nat → Int32} {k j : Nat} {x : Int32} (h : j ≠ k) : upd f k x j = f j := if_neg h
theorem pk_sub {a b : Nat} (h : b ≤ a) : nI a - nI b = nI (a - b) := by
  obtain ⟨c, rfl⟩ : ∃ c, a = c + b := ⟨a - b, by omega⟩
  rw [← nI_add, Int32.add_sub_cancel, Nat.add_sub_cancel]
theorem pk_m1 (n : Nat) : nI (n + 1) + (-1) = nI n := by
  rw [← nI_1, Int32.add_assoc, show (1 : Int32) + (-1) = 0 from rfl, Int32.add_zero]
theorem pk_mul (a b : Nat) : nI a * nI b = nI (a * b) := (Int32.ofNat_mul a b).symm
theorem pk_div {a d : Nat} (ha : a < 2 ^ 31) (h0 : 0 < d) (hd : d < 2 ^ 31) : nI a / nI d = nI (a / d) := by
  apply Int32.toInt_inj.mp
  rw [lg_idiv_nonneg (by rw [nI_toInt ha]; omega) (by rw [nI_toInt hd]; omega), nI_toInt ha, nI_toInt hd, nI_toInt (Nat.lt_of_le_of_lt (Nat.div_le_self a d) ha)]
  first | rfl | exact (Int.natCast_ediv _ _).symm
theorem pk_rem {a d : Nat} (ha : a < 2 ^ 31) (h0 : 0 < d) (hd : d < 2 ^ 31) : nI a - nI a / nI d * nI d = nI (a % d) := by
  rw [pk_div ha h0 hd, pk_mul, pk_sub (Nat.div_mul_le_self a d)]
  exact congrArg nI (by have := Nat.div_add_mod' a d; omega)
theorem pk_ix (x : Int32) {n : Nat} (hn : n < 2 ^ 31) : x < 0 ∨ nI n ≤ x ∨ ∃ j : Nat, j < n ∧ x = nI j := by
  by_cases h : x < 0
  · exact Or.inl h
  · obtain ⟨j, hj, rfl⟩ := nI_of h
    by_cases h2 : j < n
    · exact Or.inr (Or.inr ⟨j, h2, rfl⟩)
    · exact Or.inr (Or.inl (nI_le (by omega) hj))
theorem pk_le {x y : Int32} {A B : Prop} (a b : Nat) (f : a ≤ b → A) (g : b < a → B) (hx : x = nI a := by rfl) (hy : y = nI b := by rfl) (ha : a < 2 ^ 31 := by omega) (hb : b < 2 ^ 31 := by omega) : (x ≤ y → A) ∧ (¬ x ≤ y → B) := by
  subst hx hy
  rw [nI_leI ha hb]
  exact ⟨f, fun z => g (by omega)⟩
theorem pk_lt {x y : Int32} {A B : Prop} (a b : Nat) (f : a < b → A) (g : b ≤ a → B) (hx : x = nI a := by rfl) (hy : y = nI b := by rfl) (ha : a < 2 ^ 31 := by omega) (hb : b < 2 ^ 31 := by omega) : (x < y → A) ∧ (¬ x < y → B) := by
  subst hx hy
  rw [nI_ltI ha hb]
  exact ⟨f, fun z => g (by omega)⟩
theorem pk_eq {x y : Int32} {A B : Prop} (a b : Nat) (f : a = b → A) (g : a ≠ b → B) (hx : x = nI a := by rfl) (hy : y = nI b := by rfl) (ha : a < 2 ^ 31 := by omega) (hb : b < 2 ^ 31 := by omega) : (x = y → A) ∧ (¬ x = y → B) := by
  subst hx hy
  rw [nI_eq ha hb]
  exact ⟨f, g⟩
theorem pk_in {x : Int32} (n N : Nat) (h : n < N) (hx : x = nI n := by rfl) (hN : N < 2 ^ 31 := by omega) : vp_in x N := by
  subst hx
  exact vp_in_nI h hN
theorem pk_cl {x : Int32} (n : Nat) (hx : x = nI n := by rfl) (h : n < 2 ^ 31 := by omega) : x.toNatClampNeg = n := by
  subst hx
  exact nI_clamp h
theorem pk_tn {n : Nat} (h : n < 2 ^ 32) : (nI n).toBitVec.toNat = n := Nat.mod_eq_of_lt h
theorem pk_and (x : Int32) {m : Int32} (k : Nat) (hm : m.toBitVec.toNat = 2 ^ k - 1) : x &&& m = nI (x.toBitVec.toNat % 2 ^ k) := by
  apply Int32.toBitVec_inj.mp
  apply BitVec.eq_of_toNat_eq
  rw [Int32.toBitVec_and, BitVec.toNat_and, hm, Nat.and_two_pow_sub_one_eq_mod]
  show _ = (BitVec.ofNat 32 _).toNat
  rw [BitVec.toNat_ofNat]
  exact (Nat.mod_eq_of_lt (Nat.lt_of_le_of_lt (Nat.mod_le _ _) x.toBitVec.isLt)).symm
theorem pk_andN {n : Nat} (h : n < 2 ^ 32) {m : Int32} (k : Nat) (hm : m.toBitVec.toNat = 2 ^ k - 1) : nI n &&& m = nI (n % 2 ^ k) := by
  rw [pk_and _ k hm, pk_tn h]
theorem pk_andE (x : Int32) {m : Int32} (k : Nat) (hm : m.toBitVec.toNat = 2 ^ k - 1) : ∃ j : Nat, j < 2 ^ k ∧ x &&& m = nI j := ⟨_, Nat.mod_lt _ (Nat.two_pow_pos k), pk_and x k hm⟩
abbrev ss_al (c : Nat) : Int32 := ((1 : Int32) <<< (nI c &&& 31)) - 1
abbrev ss_b (x y : Int32) : Int32 := (x >>> (y &&& 31)) &&& 1
def ss_T (c : Nat) : Nat := 2 ^ (c - 1) - 1
theorem ss_c8 {P : Nat → Prop} (h : (List.range 8).all (fun i => decide (i < 8)) = true) (h0 : P 0) (h1 : P 1) (h2 : P 2) (h3 : P 3) (h4 : P 4) (h5 : P 5) (h6 : P 6) (h7 : P 7) : ∀ c, c ≤ 7 → P c := by
  intro c hc
  match c, hc with
  | 0, _ => exact h0
  | 1, _ => exact h1
  | 2, _ => exact h2
  | 3, _ => exact h3
  | 4, _ => exact h4
  | 5, _ => exact h5
  | 6, _ => exact h6
  | 7, _ => exact h7
theorem ss_alE : ∀ c, c ≤ 7 → ss_al c = nI (2 ^ c - 1) :=
  ss_c8 (by decide) (by decide) (by decide) (by decide) (by decide) (by decide) (by decide) (by decide) (by decide)
theorem ss_TT : ∀ c, c ≤ 7 → ss_T c ≤ 63 ∧ 2 ^ c - 1 ≤ 2 * ss_T c + 1 ∧ 2 ^ c - 1 ≤ 127 ∧ (∀ t, t < ss_T c → 2 * t + 1 < 2 ^ c - 1) := by
  intro c hc
  match c, hc with
  | 0, _ => exact ⟨by decide, by decide, by decide, fun t h => absurd h (by simp [ss_T])⟩
  | 1, _ => exact ⟨by decide, by decide, by decide, fun t h => absurd h (by simp [ss_T])⟩
  | 2, _ => exact ⟨by decide, by decide, by decide, fun t h => by simp [ss_T] at h ⊢; omega⟩
  | 3, _ => exact ⟨by decide, by decide, by decide, fun t h => by simp [ss_T] at h ⊢; omega⟩
  | 4, _ => exact ⟨by decide, by decide, by decide, fun t h => by simp [ss_T] at h ⊢; omega⟩
  | 5, _ => exact ⟨by decide, by decide, by decide, fun t h => by simp [ss_T] at h ⊢; omega⟩
  | 6, _ => exact ⟨by decide, by decide, by decide, fun t h => by simp [ss_T] at h ⊢; omega⟩
  | 7, _ => exact ⟨by decide, by decide, by decide, fun t h => by simp [ss_T] at h ⊢; omega⟩
theorem ss_exT {c t : Nat} (hc : c ≤ 7) (ht : t = ss_T c) : ss_al c ≤ nI (2 * t + 1) := by
  obtain ⟨h1, h2, h3, h4⟩ := ss_TT c hc
  rw [ss_alE c hc]
  exact nI_le (by omega) (by omega)
theorem ss_exF {c t : Nat} (hc : c ≤ 7) (ht : t < ss_T c) : ¬ ss_al c ≤ nI (2 * t + 1) := by
  obtain ⟨h1, h2, h3, h4⟩ := ss_TT c hc
  have := h4 t ht
  rw [ss_alE c hc]
  exact nI_ge this (by omega)
theorem ss_in {c t : Nat} (hc : c ≤ 7) (ht : t < ss_T c) : vp_in (nI (2 * t + 1)) 128 := by
  obtain ⟨h1, h2, h3, h4⟩ := ss_TT c hc
  exact vp_in_nI (by omega) (by omega)
theorem ss_cl {c t : Nat} (hc : c ≤ 7) (ht : t < ss_T c) : (nI (2 * t + 1)).toNatClampNeg = 2 * t + 1 := by
  obtain ⟨h1, h2, h3, h4⟩ := ss_TT c hc
  exact nI_clamp (by omega)
theorem ss_2 (t : Nat) : nI (2 * t + 1) + 2 = nI (2 * (t + 1) + 1) := nI_add (2 * t + 1) 2
theorem ss_cX (i j : Nat) : nI i * 7 + nI j = nI (7 * i + j) := by
  rw [show (7 : Int32) = nI 7 from rfl, pk_mul, nI_add, Nat.mul_comm i 7]
theorem ss_cY (i j : Nat) : 7 * nI i + nI j = nI (7 * i + j) := by
  rw [show (7 : Int32) = nI 7 from rfl, pk_mul, nI_add]
theorem ss_inX {i j : Nat} (hi : i < 7) (hj : j < 7) : vp_in (nI i * 7 + nI j) 49 := by
  rw [ss_cX]; exact vp_in_nI (by omega) (by omega)
theorem ss_inY {i j : Nat} (hi : i < 7) (hj : j < 7) : vp_in (7 * nI i + nI j) 49 := by
  rw [ss_cY]; exact vp_in_nI (by omega) (by omega)
theorem ss_clX {i j : Nat} (hi : i < 7) (hj : j < 7) : (nI i * 7 + nI j).toNatClampNeg = 7 * i + j := by
  rw [ss_cX]; exact nI_clamp (by omega)
theorem ss_clY {i j : Nat} (hi : i < 7) (hj : j < 7) : (7 * nI i + nI j).toNatClampNeg = 7 * i + j := by
  rw [ss_cY]; exact nI_clamp (by omega)
theorem ss_b01 (x y : Int32) : ss_b x y = 0 ∨ ss_b x y = 1 := by
  obtain ⟨j, hj, e⟩ := pk_andE (x >>> (y &&& 31)) (m := 1) 1 (by decide)
  match j, hj, e with
  | 0, _, e => exact Or.inl e
  | 1, _, e => exact Or.inr e
theorem ss_b1 {x y : Int32} (h : ¬ ss_b x y = 0) : ss_b x y = 1 := (ss_b01 x y).resolve_left h
theorem ss_b0 {x y : Int32} (h : ¬ ss_b x y = 1) : ss_b x y = 0 := (ss_b01 x y).resolve_right h
theorem ss_b10 {x y : Int32} (h : ss_b x y = 1) : ¬ ss_b x y = 0 := by rw [h]; decide
theorem ss_b00 {x y : Int32} (h : ss_b x y = 0) : ¬ ss_b x y = 1 := by rw [h]; decide
theorem ss_10 : ¬ (1 : Int32) = 0 := by decide
def ss_pt (a : Nat → Int32) (i j : Nat) (d : Int32) : Nat → Int32 := upd (upd a (7 * i + j) d) (7 * j + i) d
theorem xx_has {post : Int32 → Prop} {x y : Int32} (h1 : ss_b x y = 1 → post 1) (h0 : ss_b x y = 0 → post 0) : wpX_has post x y :=
  br_c h1 (fun h => h0 (ss_b0 h))
theorem xx_parts {post : Int32 → Prop} {s x y : Int32} (h0 : ss_b s x = ss_b s y → post 0) (h1 : ¬ ss_b s x = ss_b s y → post 1) : wpX_parts post s x y := by
  refine xx_has (fun e1 => xx_has (fun e2 => ?_) (fun e2 => ?_)) (fun e1 => xx_has (fun e2 => ?_) (fun e2 => ?_))
  · exact br_t rfl (h0 (e1.trans e2.symm))
  · exact br_f ss_10 (h1 (by rw [e1, e2]; decide))
  · exact br_f (by decide) (h1 (by rw [e1, e2]; decide))
  · exact br_t rfl (h0 (e1.trans e2.symm))
theorem xx_btw {post : Int32 → Prop} {c : Int32} {a e : Nat → Int32} {i j : Nat} (hi : i < 7) (hj : j < 7) (h : post (a (7 * i + j))) : wpX_between post (c, a, e) (nI i) (nI j) := by
  refine ⟨ss_inX hi hj, ?_⟩
  rw [ss_clX hi hj]; exact h
theorem xx_put {post : SX → Prop} {c d : Int32} {a e : Nat → Int32} {i j : Nat} (hi : i < 7) (hj : j < 7) (h : post (c, ss_pt a i j d, e)) : wpX_put post (c, a, e) (nI i) (nI j) d := by
  refine ⟨ss_inX hi hj, nm_r (by rw [ss_clX hi hj]) ⟨ss_inX hj hi, nm_r (by rw [ss_clX hj hi]; rfl) h⟩⟩
theorem yy_put {post : SY → Prop} {c d : Int32} {a m e : Nat → Int32} {i j : Nat} (hi : i < 7) (hj : j < 7) (h : post (c, ss_pt a i j d, m, e)) : wpY_put post (c, a, m, e) (nI i) (nI j) d := by
  refine ⟨ss_inY hi hj, nm_r (by rw [ss_clY hi hj]) ⟨ss_inY hj hi, nm_r (by rw [ss_clY hj hi]; rfl) h⟩⟩
abbrev ss_di (d : Int32) : Prop := ¬ d < 0 ∧ ¬ 60 < d
theorem xx_dis {post : Int32 → Prop} {d : Int32} (h1 : ss_di d → post 1) (h0 : ¬ ss_di d → post 0) : wpX_isDistance post d :=
  br_c (fun h => h0 (fun z => z.1 h)) (fun h => br_c (fun g => h0 (fun z => z.2 g)) (fun g => h1 ⟨h, g⟩))
theorem xx_chg {post : Int32 → SX → Prop} {c d : Int32} {a e : Nat → Int32} {i j : Nat} (hi : i < 7) (hj : j < 7) (h0 : ¬ (ss_di d ∧ ¬ a (7 * i + j) = d) → post 0 (c, a, e)) (h1 : ss_di d → ¬ a (7 * i + j) = d → post 1 (c, ss_pt a i j d, e)) : wpX_change post (c, a, e) (nI i) (nI j) d := by
  unfold wpX_change; dsimp only
  refine xx_dis (fun g => br_f ss_10 ?_) (fun g => br_t rfl (h0 (fun z => g z.1)))
  refine xx_btw hi hj (br_c (fun z => h0 (fun w => w.2 z)) (fun z => ?_))
  exact xx_put hi hj (h1 g z)
theorem ss_lo {j c : Nat} (h : j < c) (hc : c ≤ 7) : ¬ nI j < 0 := nI_pos (by omega)
theorem ss_hi {j c : Nat} (h : j < c) (hc : c ≤ 7) : ¬ nI c ≤ nI j := nI_ge h (by omega)
theorem xx_apT {post : Int32 → Prop} {c i j : Nat} {a e : Nat → Int32} (hc : c ≤ 7) (hi : i < c) (hj : j < c) (h : post 1) : wpX_arePoints post (nI c, a, e) (nI i) (nI j) :=
  br_f (ss_lo hi hc) (br_f (ss_hi hi hc) (br_f (ss_lo hj hc) (br_f (ss_hi hj hc) h)))
def ss_no (c : Nat) (x : Int32) : Prop := x < 0 ∨ nI c ≤ x
theorem xx_apF {post : Int32 → Prop} {c : Nat} {x y : Int32} {a e : Nat → Int32} (n : ss_no c x ∨ ss_no c y) (h : post 0) : wpX_arePoints post (nI c, a, e) x y := by
  refine br_c (fun _ => h) (fun g1 => br_c (fun _ => h) (fun g2 => br_c (fun _ => h) (fun g3 => br_c (fun _ => h) (fun g4 => ?_))))
  rcases n with (n | n) | (n | n)
  · exact absurd n g1
  · exact absurd n g2
  · exact absurd n g3
  · exact absurd n g4
theorem yy_isT {post : Int32 → Prop} {c i : Nat} {a m e : Nat → Int32} (hc : c ≤ 7) (hi : i < c) (h : post 1) : wpY_is post (nI c, a, m, e) (nI i) :=
  br_f (ss_lo hi hc) (br_f (ss_hi hi hc) h)
theorem yy_isF {post : Int32 → Prop} {c : Nat} {x : Int32} {a m e : Nat → Int32} (n : ss_no c x) (h : post 0) : wpY_is post (nI c, a, m, e) x := by
  refine br_c (fun _ => h) (fun g1 => br_c (fun _ => h) (fun g2 => ?_))
  rcases n with n | n
  · exact absurd n g1
  · exact absurd n g2
theorem ss_pnt (c : Nat) (x : Int32) (hc : c ≤ 7) : ss_no c x ∨ ∃ j : Nat, j < c ∧ x = nI j := by
  rcases pk_ix x (n := c) (by omega) with h | h | h
  · exact Or.inl (Or.inl h)
  · exact Or.inl (Or.inr h)
  · exact Or.inr h
end
section
def ss_v (a : Nat → Int32) (p q b j : Nat) : Int32 := ((a (7 * p + b) + a (7 * q + j)) - a (7 * p + q)) - a (7 * b + j)
theorem ss_nle {x y : Int32} (h : ¬ x ≤ y) : y ≤ x := by
  rw [Int32.le_iff_toInt_le] at *; omega
theorem xx_lp19 {post : Int32 → Prop} {J : Int32 → Int32 → Prop} {s : Int32} {p q b c : Nat} {a e : Nat → Int32} (hc : c ≤ 7) (hp : p < c) (hq : q < c) (hb : b < c) (Q : Int32 → Prop)
    (hQ : ∀ j, j < c → ss_b s (nI b) = 0 → ss_b s (nI j) = 0 → Q (ss_v a p q b j)) :
    ∀ d j, j + d = c → ∀ x, Q x → (∀ r, Q r → r ≤ x → (∀ j', j ≤ j' → j' < c → ss_b s (nI b) = 0 → ss_b s (nI j') = 0 → r ≤ ss_v a p q b j') → J r (nI (b + 1))) →
      wX_leastOfPair_19 post J s (nI p) (nI q) (nI b) (nI c) a e (d + 1) x (nI j) := by
  intro d
  induction d with
  | zero =>
    intro j hj x hx h
    have hj' : j = c := by omega
    refine br_t (by rw [hj']; exact Int32.le_refl _) (nm_r (nI_1 b) (h x hx (Int32.le_refl _) (fun j' h1 h2 => by omega)))
  | succ d ih =>
    intro j hj x hx h
    have hjc : j < c := by omega
    refine br_f (ss_hi hjc hc) ?_
    refine xx_has (fun e1 => ?_) (fun e1 => ?_)
    · refine br_f ss_10 (nm_r (nI_1 j) (ih (j + 1) (by omega) x hx ?_))
      intro r hr hrx hall
      exact h r hr hrx (fun j' h1 h2 z1 z2 => absurd e1 (ss_b00 z1))
    · refine br_t rfl ?_
      refine xx_has (fun e2 => ?_) (fun e2 => ?_)
      · refine br_f ss_10 (nm_r (nI_1 j) (ih (j + 1) (by omega) x hx ?_))
        intro r hr hrx hall
        refine h r hr hrx (fun j' h1 h2 z1 z2 => ?_)
        rcases Nat.lt_or_ge j j' with g | g
        · exact hall j' g h2 z1 z2
        · have : j' = j := by omega
          subst this
          exact absurd e2 (ss_b00 z2)
      · refine br_t rfl ?_
        refine xx_btw (by omega) (by omega) (xx_btw (by omega) (by omega) (xx_btw (by omega) (by omega) (xx_btw (by omega) (by omega) ?_)))
        refine nm_e ?_
        show (x ≤ ss_v a p q b j → _) ∧ (¬ x ≤ ss_v a p q b j → _)
        refine br_c (fun g => nm_r (nI_1 j) (ih (j + 1) (by omega) x hx ?_)) (fun g => nm_r (nI_1 j) (ih (j + 1) (by omega) (ss_v a p q b j) (hQ j hjc e1 e2) ?_))
        · intro r hr hrx hall
          refine h r hr hrx (fun j' h1 h2 z1 z2 => ?_)
          rcases Nat.lt_or_ge j j' with g' | g'
          · exact hall j' g' h2 z1 z2
          · have : j' = j := by omega
            subst this
            exact Int32.le_trans hrx g
        · intro r hr hrx hall
          refine h r hr (Int32.le_trans hrx (ss_nle g)) (fun j' h1 h2 z1 z2 => ?_)
          rcases Nat.lt_or_ge j j' with g' | g'
          · exact hall j' g' h2 z1 z2
          · have : j' = j := by omega
            subst this
            exact hrx
theorem xx_lp7 {post : Int32 → Prop} {s : Int32} {p q c : Nat} {a e : Nat → Int32} (hc : c ≤ 7) (hp : p < c) (hq : q < c) (Q : Int32 → Prop)
    (hQ : ∀ b j, b < c → j < c → ss_b s (nI b) = 0 → ss_b s (nI j) = 0 → Q (ss_v a p q b j)) :
    ∀ d b, b + d = c → ∀ x, Q x → (∀ r, Q r → r ≤ x → (∀ b' j', b ≤ b' → b' < c → j' < c → ss_b s (nI b') = 0 → ss_b s (nI j') = 0 → r ≤ ss_v a p q b' j') → post r) →
      wX_leastOfPair_7 post s (nI p) (nI q) (nI c) a e (d + 1) x (nI b) := by
  intro d
  induction d with
  | zero =>
    intro b hb x hx h
    have hb' : b = c := by omega
    exact br_t (by rw [hb']; exact Int32.le_refl _) (h x hx (Int32.le_refl _) (fun b' j' h1 h2 => by omega))
  | succ d ih =>
    intro b hb x hx h
    have hbc : b < c := by omega
    refine br_f (ss_hi hbc hc) ⟨c + 1, ?_⟩
    refine xx_lp19 hc hp hq hbc Q (fun j hj z1 z2 => hQ b j hbc hj z1 z2) c 0 (by omega) x hx ?_
    intro r hr hrx hall
    refine ih (b + 1) (by omega) r hr ?_
    intro r' hr' hrr hall'
    refine h r' hr' (Int32.le_trans hrr hrx) (fun b' j' h1 h2 h3 z1 z2 => ?_)
    rcases Nat.lt_or_ge b b' with g | g
    · exact hall' b' j' g h2 h3 z1 z2
    · have : b' = b := by omega
      subst this
      exact Int32.le_trans hrr (hall j' (by omega) h3 z1 z2)
theorem xx_lp {post : Int32 → Prop} {s : Int32} {p q c : Nat} {a e : Nat → Int32} (hc : c ≤ 7) (hp : p < c) (hq : q < c) (Q : Int32 → Prop) (h120 : Q 120)
    (hQ : ∀ b j, b < c → j < c → ss_b s (nI b) = 0 → ss_b s (nI j) = 0 → Q (ss_v a p q b j))
    (h : ∀ r, Q r → (∀ b j, b < c → j < c → ss_b s (nI b) = 0 → ss_b s (nI j) = 0 → r ≤ ss_v a p q b j) → post r) :
    wpX_leastOfPair post (nI c, a, e) s (nI p) (nI q) :=
  ⟨c + 1, xx_lp7 hc hp hq Q hQ c 0 (by omega) 120 h120 (fun r hr _ hall => h r hr (fun b j h1 h2 z1 z2 => hall b j (by omega) h1 h2 z1 z2))⟩
theorem xx_ls16 {post : Int32 → Prop} {J : Int32 → Int32 → Prop} {s : Int32} {p c : Nat} {a e : Nat → Int32} (hc : c ≤ 7) (hp : p < c) (Q : Int32 → Prop) (h120 : Q 120)
    (hQ : ∀ q b j, q < c → b < c → j < c → ss_b s (nI p) = 1 → ss_b s (nI q) = 1 → ss_b s (nI b) = 0 → ss_b s (nI j) = 0 → Q (ss_v a p q b j)) :
    ∀ d q, q + d = p + 1 → ∀ x, Q x → (∀ r, Q r → r ≤ x → (∀ q' b j, q ≤ q' → q' ≤ p → b < c → j < c → ss_b s (nI p) = 1 → ss_b s (nI q') = 1 → ss_b s (nI b) = 0 → ss_b s (nI j) = 0 → r ≤ ss_v a p q' b j) → J r (nI (p + 1))) →
      wX_leastOfSplit_16 post J s (nI p) (nI c) a e (d + 1) x (nI q) := by
  intro d
  induction d with
  | zero =>
    intro q hq x hx h
    have hq' : q = p + 1 := by omega
    exact br_t (nI_lt (by omega) (by omega)) (nm_r (nI_1 p) (h x hx (Int32.le_refl _) (fun q' b j h1 h2 => by omega)))
  | succ d ih =>
    intro q hq x hx h
    have hqp : q ≤ p := by omega
    refine br_f (nI_nlt hqp (by omega)) ?_
    refine xx_has (fun e1 => ?_) (fun e1 => ?_)
    · refine br_f ss_10 ?_
      refine xx_has (fun e2 => ?_) (fun e2 => ?_)
      · refine br_f ss_10 ?_
        refine xx_lp hc hp (by omega) Q h120 (fun b j hb hj z1 z2 => hQ q b j (by omega) hb hj e1 e2 z1 z2) ?_
        intro r hr hall
        refine br_c (fun g => nm_r (nI_1 q) (ih (q + 1) (by omega) x hx ?_)) (fun g => nm_r (nI_1 q) (ih (q + 1) (by omega) r hr ?_))
        · intro r' hr' hrx hall'
          refine h r' hr' hrx (fun q' b j h1 h2 hb hj z1 z2 z3 z4 => ?_)
          rcases Nat.lt_or_ge q q' with g' | g'
          · exact hall' q' b j g' h2 hb hj z1 z2 z3 z4
          · have : q' = q := by omega
            subst this
            exact Int32.le_trans (Int32.le_trans hrx g) (hall b j hb hj z3 z4)
        · intro r' hr' hrx hall'
          refine h r' hr' (Int32.le_trans hrx (ss_nle g)) (fun q' b j h1 h2 hb hj z1 z2 z3 z4 => ?_)
          rcases Nat.lt_or_ge q q' with g' | g'
          · exact hall' q' b j g' h2 hb hj z1 z2 z3 z4
          · have : q' = q := by omega
            subst this
            exact Int32.le_trans hrx (hall b j hb hj z3 z4)
      · refine br_t rfl (nm_r (nI_1 q) (ih (q + 1) (by omega) x hx ?_))
        intro r hr hrx hall
        refine h r hr hrx (fun q' b j h1 h2 hb hj z1 z2 z3 z4 => ?_)
        rcases Nat.lt_or_ge q q' with g | g
        · exact hall q' b j g h2 hb hj z1 z2 z3 z4
        · have : q' = q := by omega
          subst this
          exact absurd z2 (ss_b00 e2)
    · refine br_t rfl (nm_r (nI_1 q) (ih (q + 1) (by omega) x hx ?_))
      intro r hr hrx hall
      exact h r hr hrx (fun q' b j h1 h2 hb hj z1 z2 z3 z4 => absurd z1 (ss_b00 e1))
theorem xx_ls5 {post : Int32 → Prop} {s : Int32} {c : Nat} {a e : Nat → Int32} (hc : c ≤ 7) (Q : Int32 → Prop) (h120 : Q 120)
    (hQ : ∀ p q b j, p < c → q < c → b < c → j < c → ss_b s (nI p) = 1 → ss_b s (nI q) = 1 → ss_b s (nI b) = 0 → ss_b s (nI j) = 0 → Q (ss_v a p q b j)) :
    ∀ d p, p + d = c → ∀ x, Q x → (∀ r, Q r → r ≤ x → (∀ p' q b j, p ≤ p' → p' < c → q ≤ p' → b < c → j < c → ss_b s (nI p') = 1 → ss_b s (nI q) = 1 → ss_b s (nI b) = 0 → ss_b s (nI j) = 0 → r ≤ ss_v a p' q b j) → post r) →
      wX_leastOfSplit_5 post s (nI c) a e (d + 1) x (nI p) := by
  intro d
  induction d with
  | zero =>
    intro p hp x hx h
    have hp' : p = c := by omega
    exact br_t (by rw [hp']; exact Int32.le_refl _) (h x hx (Int32.le_refl _) (fun p' q b j h1 h2 => by omega))
  | succ d ih =>
    intro p hp x hx h
    have hpc : p < c := by omega
    refine br_f (ss_hi hpc hc) ⟨p + 1 + 1, ?_⟩
    refine xx_ls16 hc hpc Q h120 (fun q b j hq hb hj => hQ p q b j hpc hq hb hj) (p + 1) 0 (by omega) x hx ?_
    intro r hr hrx hall
    refine ih (p + 1) (by omega) r hr ?_
    intro r' hr' hrr hall'
    refine h r' hr' (Int32.le_trans hrr hrx) (fun p' q b j h1 h2 h3 hb hj z1 z2 z3 z4 => ?_)
    rcases Nat.lt_or_ge p p' with g | g
    · exact hall' p' q b j g h2 h3 hb hj z1 z2 z3 z4
    · have : p' = p := by omega
      subst this
      exact Int32.le_trans hrr (hall q b j (by omega) h3 hb hj z1 z2 z3 z4)
def ss_ok (a : Nat → Int32) : Prop := (∀ i j, i < 7 → j < 7 → a (7 * i + j) = a (7 * j + i)) ∧ (∀ i, i < 7 → a (7 * i + i) = 0) ∧ (∀ q, ∃ n : Nat, n ≤ 60 ∧ a q = nI n)
def ss_in4 (c : Nat) (s : Int32) (p q b j : Nat) : Prop := p < c ∧ q < c ∧ b < c ∧ j < c ∧ ss_b s (nI p) = 1 ∧ ss_b s (nI q) = 1 ∧ ss_b s (nI b) = 0 ∧ ss_b s (nI j) = 0
def ss_mn (c : Nat) (a : Nat → Int32) (s : Int32) (r : Int32) : Prop := (∃ p q b j, ss_in4 c s p q b j ∧ r = ss_v a p q b j) ∧ ∀ p q b j, ss_in4 c s p q b j → r ≤ ss_v a p q b j
theorem ss_mnU {c : Nat} {a : Nat → Int32} {s r r' : Int32} (h : ss_mn c a s r) (h' : ss_mn c a s r') : r' = r := by
  obtain ⟨⟨p, q, b, j, h1, e1⟩, h2⟩ := h
  obtain ⟨⟨p', q', b', j', h1', e1'⟩, h2'⟩ := h'
  apply Int32.le_antisymm
  · rw [e1]; exact h2' _ _ _ _ h1
  · rw [e1']; exact h2 _ _ _ _ h1'
theorem ss_vsw {a : Nat → Int32} (ok : ss_ok a) {p q b j : Nat} (hp : p < 7) (hq : q < 7) (hb : b < 7) (hj : j < 7) : ss_v a p q b j = ss_v a q p j b := by
  unfold ss_v
  rw [ok.1 q p hq hp, ok.1 j b hj hb, Int32.add_comm (a (7 * q + j))]
theorem ss_vd {a : Nat → Int32} (ok : ss_ok a) {p b : Nat} (hp : p < 7) (hb : b < 7) : ∃ n : Nat, n ≤ 120 ∧ ss_v a p p b b = nI n := by
  obtain ⟨n, hn, e⟩ := ok.2.2 (7 * p + b)
  refine ⟨n + n, by omega, ?_⟩
  unfold ss_v
  rw [ok.2.1 p hp, ok.2.1 b hb, e, nI_add, Int32.sub_zero, Int32.sub_zero]
theorem ss_two : ∀ c, c ≤ 7 → ∀ t, t < ss_T c → ss_b (nI (2 * t + 1)) (nI 0) = 1 ∧ ∃ b, b < c ∧ ss_b (nI (2 * t + 1)) (nI b) = 0 := by
  have H : ∀ c, c < 8 → ∀ t, t < ss_T c → ss_b (nI (2 * t + 1)) (nI 0) = 1 ∧ ∃ b, b < c ∧ ss_b (nI (2 * t + 1)) (nI b) = 0 := by decide +kernel
  intro c hc
  exact H c (by omega)
theorem ss_T0 : ∀ c, c ≤ 7 → ∀ t, t < ss_T c → 0 < c := by
  intro c hc t ht
  rcases Nat.eq_zero_or_pos c with h | h
  · subst h; simp [ss_T] at ht
  · exact h
def ss_Q (c : Nat) (a : Nat → Int32) (s w0 w : Int32) : Prop := w = w0 ∨ ∃ p q b j, ss_in4 c s p q b j ∧ w = ss_v a p q b j
theorem ss_Q0 {c : Nat} {a : Nat → Int32} {s w0 : Int32} : ss_Q c a s w0 w0 := Or.inl rfl
theorem ss_Q1 {c : Nat} {a : Nat → Int32} {s w0 : Int32} {p q b j : Nat} (h : ss_in4 c s p q b j) : ss_Q c a s w0 (ss_v a p q b j) := Or.inr ⟨p, q, b, j, h, rfl⟩
theorem xx_ls {post : Int32 → Prop} {c t : Nat} {a e : Nat → Int32} (hc : c ≤ 7) (ok : ss_ok a) (ht : t < ss_T c) (h : ∀ r, ss_mn c a (nI (2 * t + 1)) r → post r) :
    wpX_leastOfSplit post (nI c, a, e) (nI (2 * t + 1)) := by
  refine ⟨c + 1, xx_ls5 hc (ss_Q c a (nI (2 * t + 1)) 120) ss_Q0 (fun p q b j hp hq hb hj z1 z2 z3 z4 => ss_Q1 ⟨hp, hq, hb, hj, z1, z2, z3, z4⟩) c 0 (by omega) 120 ss_Q0 ?_⟩
  intro r hr hr1 hall
  have hall2 : ∀ p q b j, ss_in4 c (nI (2 * t + 1)) p q b j → r ≤ ss_v a p q b j := by
    intro p q b j ⟨hp, hq, hb, hj, z1, z2, z3, z4⟩
    rcases Nat.le_total q p with g | g
    · exact hall p q b j (by omega) hp g hb hj z1 z2 z3 z4
    · rw [ss_vsw ok (by omega) (by omega) (by omega) (by omega)]
      exact hall q p j b (by omega) hq g hj hb z2 z1 z4 z3
  refine h r ⟨?_, hall2⟩
  rcases hr with hr | hr
  · obtain ⟨z1, b, hb, z2⟩ := ss_two c hc t ht
    have h0 := ss_T0 c hc t ht
    have h4 : ss_in4 c (nI (2 * t + 1)) 0 0 b b := ⟨h0, h0, hb, hb, z1, z1, z2, z2⟩
    refine ⟨0, 0, b, b, h4, ?_⟩
    obtain ⟨n, hn, e⟩ := ss_vd ok (p := 0) (b := b) (by omega) (by omega)
    apply Int32.le_antisymm
    · exact hall2 _ _ _ _ h4
    · rw [e, hr]; exact nI_le (b := 120) hn (by decide)
  · exact hr
def ss_ms (c : Nat) (a e : Nat → Int32) : Prop := ∀ t, t < ss_T c → ss_mn c a (nI (2 * t + 1)) (e (2 * t + 1))
theorem xx_ms7 {post : SX → Prop} {c : Nat} {a : Nat → Int32} (hc : c ≤ 7) (ok : ss_ok a) (h : ∀ e, ss_ms c a e → post (nI c, a, e)) :
    ∀ d t, t + d = ss_T c → ∀ e, (∀ t', t' < t → ss_mn c a (nI (2 * t' + 1)) (e (2 * t' + 1))) → wX_measureSplits_7 post (ss_al c) (nI c) (d + 1) (nI (2 * t + 1)) a e := by
  intro d
  induction d with
  | zero =>
    intro t ht e he
    exact br_t (ss_exT hc (by omega)) (h e (fun t' h' => he t' (by omega)))
  | succ d ih =>
    intro t ht e he
    have htc : t < ss_T c := by omega
    refine br_f (ss_exF hc htc) ?_
    refine xx_ls hc ok htc ?_
    intro r hr
    refine ⟨ss_in hc htc, nm_e (nm_r (ss_2 t) (ih (t + 1) (by omega) _ ?_))⟩
    intro t' ht'
    rw [ss_cl hc htc]
    rcases Nat.lt_or_ge t' t with g | g
    · rw [pk_un (by omega)]; exact he t' g
    · have : t' = t := by omega
      subst this
      rw [pk_us]; exact hr
theorem xx_ms {post : SX → Prop} {c : Nat} {a e : Nat → Int32} (hc : c ≤ 7) (ok : ss_ok a) (h : ∀ e, ss_ms c a e → post (nI c, a, e)) : wpX_measureSplits post (nI c, a, e) :=
  ⟨ss_T c + 1, xx_ms7 hc ok h (ss_T c) 0 (by omega) e (fun t' h' => by omega)⟩
end
section
theorem yy_72 {post : Int32 → Prop} {J6 J17 J : Int32 → Int32 → Prop} {s x5 : Int32} {p q b c : Nat} {a m f : Nat → Int32} (hc : c ≤ 7) (hp : p < c) (hq : q < c) (hb : b < c) (Q : Int32 → Prop)
    (hQ : ∀ j, j < c → ss_b s (nI b) = 0 → ss_b s (nI j) = 0 → Q (ss_v a p q b j)) :
    ∀ d j, j + d = c → ∀ x, Q x → (∀ r, Q r → r ≤ x → (∀ j', j ≤ j' → j' < c → ss_b s (nI b) = 0 → ss_b s (nI j') = 0 → r ≤ ss_v a p q b j') → J r (nI (b + 1))) →
      wY_indexOf_72 post J6 J17 J s (nI p) (nI q) x5 (nI b) (nI c) a m f (d + 1) x (nI j) := by
  intro d
  induction d with
  | zero =>
    intro j hj x hx h
    have hj' : j = c := by omega
    refine br_t (by rw [hj']; exact Int32.le_refl _) (nm_r (nI_1 b) (h x hx (Int32.le_refl _) (fun j' h1 h2 => by omega)))
  | succ d ih =>
    intro j hj x hx h
    have hjc : j < c := by omega
    refine br_f (ss_hi hjc hc) ⟨ss_inY (by omega) (by omega), ss_inY (by omega) (by omega), ss_inY (by omega) (by omega), ss_inY (by omega) (by omega), ?_⟩
    refine nm_r (e' := ss_v a p q b j) (by rw [ss_clY (by omega) (by omega), ss_clY (by omega) (by omega), ss_clY (by omega) (by omega), ss_clY (by omega) (by omega)]; rfl) ?_
    refine br_c (fun e1 => ?_) (fun e1 => ?_)
    · refine br_c (fun e2 => ?_) (fun e2 => ?_)
      · refine br_c (fun g => nm_r (nI_1 j) (ih (j + 1) (by omega) x hx ?_)) (fun g => nm_r (nI_1 j) (ih (j + 1) (by omega) (ss_v a p q b j) (hQ j hjc e1 e2) ?_))
        · intro r hr hrx hall
          refine h r hr hrx (fun j' h1 h2 z1 z2 => ?_)
          rcases Nat.lt_or_ge j j' with g' | g'
          · exact hall j' g' h2 z1 z2
          · have : j' = j := by omega
            subst this
            exact Int32.le_trans hrx g
        · intro r hr hrx hall
          refine h r hr (Int32.le_trans hrx (ss_nle g)) (fun j' h1 h2 z1 z2 => ?_)
          rcases Nat.lt_or_ge j j' with g' | g'
          · exact hall j' g' h2 z1 z2
          · have : j' = j := by omega
            subst this
            exact hrx
      · refine nm_r (nI_1 j) (ih (j + 1) (by omega) x hx ?_)
        intro r hr hrx hall
        refine h r hr hrx (fun j' h1 h2 z1 z2 => ?_)
        rcases Nat.lt_or_ge j j' with g | g
        · exact hall j' g h2 z1 z2
        · have : j' = j := by omega
          subst this
          exact absurd z2 e2
    · refine nm_r (nI_1 j) (ih (j + 1) (by omega) x hx ?_)
      intro r hr hrx hall
      exact h r hr hrx (fun j' h1 h2 z1 z2 => absurd z1 e1)
theorem yy_55 {post : Int32 → Prop} {J6 J : Int32 → Int32 → Prop} {s : Int32} {p q c : Nat} {a m f : Nat → Int32} (hc : c ≤ 7) (hp : p < c) (hq : q < c) (Q : Int32 → Prop)
    (hQ : ∀ b j, b < c → j < c → ss_b s (nI b) = 0 → ss_b s (nI j) = 0 → Q (ss_v a p q b j)) :
    ∀ d b, b + d = c → ∀ x, Q x → (∀ r, Q r → r ≤ x → (∀ b' j', b ≤ b' → b' < c → j' < c → ss_b s (nI b') = 0 → ss_b s (nI j') = 0 → r ≤ ss_v a p q b' j') → J r (nI (q + 1))) →
      wY_indexOf_55 post J6 J s (nI p) (nI q) 1 (nI c) a m f (d + 1) x (nI b) := by
  intro d
  induction d with
  | zero =>
    intro b hb x hx h
    have hb' : b = c := by omega
    exact br_t (by rw [hb']; exact Int32.le_refl _) (nm_r (nI_1 q) (h x hx (Int32.le_refl _) (fun b' j' h1 h2 => by omega)))
  | succ d ih =>
    intro b hb x hx h
    have hbc : b < c := by omega
    refine br_f (ss_hi hbc hc) (br_f ss_10 ⟨c + 1, ?_⟩)
    refine yy_72 hc hp hq hbc Q (fun j hj z1 z2 => hQ b j hbc hj z1 z2) c 0 (by omega) x hx ?_
    intro r hr hrx hall
    refine ih (b + 1) (by omega) r hr ?_
    intro r' hr' hrr hall'
    refine h r' hr' (Int32.le_trans hrr hrx) (fun b' j' h1 h2 h3 z1 z2 => ?_)
    rcases Nat.lt_or_ge b b' with g | g
    · exact hall' b' j' g h2 h3 z1 z2
    · have : b' = b := by omega
      subst this
      exact Int32.le_trans hrr (hall j' (by omega) h3 z1 z2)
theorem yy_550 {post : Int32 → Prop} {J6 J : Int32 → Int32 → Prop} {s x : Int32} {p q c : Nat} {a m f : Nat → Int32} (h : J x (nI (q + 1))) :
      wY_indexOf_55 post J6 J s (nI p) (nI q) 0 (nI c) a m f 1 x 0 :=
  br_c (fun _ => nm_r (nI_1 q) h) (fun _ => br_t rfl (nm_r (nI_1 q) h))
theorem yy_17 {post : Int32 → Prop} {J : Int32 → Int32 → Prop} {s : Int32} {p c : Nat} {a m f : Nat → Int32} (hc : c ≤ 7) (hp : p < c) (Q : Int32 → Prop)
    (hQ : ∀ q b j, q < c → b < c → j < c → ss_b s (nI p) = 1 → ss_b s (nI q) = 1 → ss_b s (nI b) = 0 → ss_b s (nI j) = 0 → Q (ss_v a p q b j)) :
    ∀ d q, q + d = c → ∀ x, Q x → (∀ r, Q r → r ≤ x → (∀ q' b j, q ≤ q' → q' < c → b < c → j < c → ss_b s (nI p) = 1 → ss_b s (nI q') = 1 → ss_b s (nI b) = 0 → ss_b s (nI j) = 0 → r ≤ ss_v a p q' b j) → J r (nI (p + 1))) →
      wY_indexOf_17 post J s (nI p) (nI c) a m f (d + 1) x (nI q) := by
  intro d
  induction d with
  | zero =>
    intro q hq x hx h
    have hq' : q = c := by omega
    exact br_t (by rw [hq']; exact Int32.le_refl _) (nm_r (nI_1 p) (h x hx (Int32.le_refl _) (fun q' b j h1 h2 => by omega)))
  | succ d ih =>
    intro q hq x hx h
    have hqc : q < c := by omega
    refine br_f (ss_hi hqc hc) ?_
    refine br_c (fun e1 => ?_) (fun e1 => ?_)
    · refine br_c (fun e2 => ?_) (fun e2 => ?_)
      · refine ⟨c + 1, yy_55 hc hp hqc Q (fun b j hb hj z1 z2 => hQ q b j hqc hb hj e1 e2 z1 z2) c 0 (by omega) x hx ?_⟩
        intro r hr hrx hall
        refine ih (q + 1) (by omega) r hr ?_
        intro r' hr' hrr hall'
        refine h r' hr' (Int32.le_trans hrr hrx) (fun q' b j h1 h2 hb hj z1 z2 z3 z4 => ?_)
        rcases Nat.lt_or_ge q q' with g | g
        · exact hall' q' b j g h2 hb hj z1 z2 z3 z4
        · have : q' = q := by omega
          subst this
          exact Int32.le_trans hrr (hall b j (by omega) hb hj z3 z4)
      · refine ⟨1, yy_550 (ih (q + 1) (by omega) x hx ?_)⟩
        intro r hr hrx hall
        refine h r hr hrx (fun q' b j h1 h2 hb hj z1 z2 z3 z4 => ?_)
        rcases Nat.lt_or_ge q q' with g | g
        · exact hall q' b j g h2 hb hj z1 z2 z3 z4
        · have : q' = q := by omega
          subst this
          exact absurd z2 e2
    · refine ⟨1, yy_550 (ih (q + 1) (by omega) x hx ?_)⟩
      intro r hr hrx hall
      exact h r hr hrx (fun q' b j h1 h2 hb hj z1 z2 z3 z4 => absurd z1 e1)
theorem yy_6 {post : Int32 → Prop} {s : Int32} {c : Nat} {a m f : Nat → Int32} (hc : c ≤ 7) (Q : Int32 → Prop)
    (hQ : ∀ p q b j, p < c → q < c → b < c → j < c → ss_b s (nI p) = 1 → ss_b s (nI q) = 1 → ss_b s (nI b) = 0 → ss_b s (nI j) = 0 → Q (ss_v a p q b j)) :
    ∀ d p, p + d = c → ∀ x, Q x → (∀ r, Q r → r ≤ x → (∀ p' q b j, p ≤ p' → p' < c → q < c → b < c → j < c → ss_b s (nI p') = 1 → ss_b s (nI q) = 1 → ss_b s (nI b) = 0 → ss_b s (nI j) = 0 → r ≤ ss_v a p' q b j) → post r) →
      wY_indexOf_6 post s (nI c) a m f (d + 1) x (nI p) := by
  intro d
  induction d with
  | zero =>
    intro p hp x hx h
    have hp' : p = c := by omega
    exact br_t (by rw [hp']; exact Int32.le_refl _) (h x hx (Int32.le_refl _) (fun p' q b j h1 h2 => by omega))
  | succ d ih =>
    intro p hp x hx h
    have hpc : p < c := by omega
    refine br_f (ss_hi hpc hc) ⟨c + 1, ?_⟩
    refine yy_17 hc hpc Q (fun q b j hq hb hj => hQ p q b j hpc hq hb hj) c 0 (by omega) x hx ?_
    intro r hr hrx hall
    refine ih (p + 1) (by omega) r hr ?_
    intro r' hr' hrr hall'
    refine h r' hr' (Int32.le_trans hrr hrx) (fun p' q b j h1 h2 h3 hb hj z1 z2 z3 z4 => ?_)
    rcases Nat.lt_or_ge p p' with g | g
    · exact hall' p' q b j g h2 h3 hb hj z1 z2 z3 z4
    · have : p' = p := by omega
      subst this
      exact Int32.le_trans hrr (hall q b j (by omega) h3 hb hj z1 z2 z3 z4)
theorem yy_ix {post : Int32 → Prop} {c t : Nat} {a m f : Nat → Int32} (hc : c ≤ 7) (ok : ss_ok a) (ht : t < ss_T c) (h : ∀ r, ss_mn c a (nI (2 * t + 1)) r → post r) :
    wpY_indexOf post (nI c, a, m, f) (nI (2 * t + 1)) := by
  refine ⟨c + 1, yy_6 hc (ss_Q c a (nI (2 * t + 1)) 1000) (fun p q b j hp hq hb hj z1 z2 z3 z4 => ss_Q1 ⟨hp, hq, hb, hj, z1, z2, z3, z4⟩) c 0 (by omega) 1000 ss_Q0 ?_⟩
  intro r hr hr1 hall
  have hall2 : ∀ p q b j, ss_in4 c (nI (2 * t + 1)) p q b j → r ≤ ss_v a p q b j := by
    intro p q b j ⟨hp, hq, hb, hj, z1, z2, z3, z4⟩
    exact hall p q b j (by omega) hp hq hb hj z1 z2 z3 z4
  refine h r ⟨?_, hall2⟩
  rcases hr with hr | hr
  · obtain ⟨z1, b, hb, z2⟩ := ss_two c hc t ht
    have h0 := ss_T0 c hc t ht
    have h4 : ss_in4 c (nI (2 * t + 1)) 0 0 b b := ⟨h0, h0, hb, hb, z1, z1, z2, z2⟩
    obtain ⟨n, hn, e⟩ := ss_vd ok (p := 0) (b := b) (by omega) (by omega)
    have h5 := hall2 _ _ _ _ h4
    rw [e, hr] at h5
    exact absurd h5 (nI_ge (b := 1000) (by omega) (by decide))
  · exact hr
theorem yy_w2 {post : SY → Prop} {c : Nat} {a m : Nat → Int32} (hc : c ≤ 7) (ok : ss_ok a) (h : ∀ e, ss_ms c a e → post (nI c, a, m, e)) :
    ∀ d t, t + d = ss_T c → ∀ e, (∀ t', t' < t → ss_mn c a (nI (2 * t' + 1)) (e (2 * t' + 1))) → wY_work_2 post (nI c) (d + 1) (nI (2 * t + 1)) a m e := by
  intro d
  induction d with
  | zero =>
    intro t ht e he
    exact br_t (ss_exT hc (by omega)) (h e (fun t' h' => he t' (by omega)))
  | succ d ih =>
    intro t ht e he
    have htc : t < ss_T c := by omega
    refine br_f (ss_exF hc htc) ?_
    refine yy_ix hc ok htc ?_
    intro r hr
    refine ⟨ss_in hc htc, nm_e (nm_r (ss_2 t) (ih (t + 1) (by omega) _ ?_))⟩
    intro t' ht'
    rw [ss_cl hc htc]
    rcases Nat.lt_or_ge t' t with g | g
    · rw [pk_un (by omega)]; exact he t' g
    · have : t' = t := by omega
      subst this
      rw [pk_us]; exact hr
def ss_ag (c : Nat) (e f : Nat → Int32) : Prop := ∀ t, t < ss_T c → f (2 * t + 1) = e (2 * t + 1)
theorem yy_w {post : SY → Prop} {c : Nat} {a m e f : Nat → Int32} (hc : c ≤ 7) (ok : ss_ok a) (hm : ss_ms c a e) (h : ∀ f', ss_ag c e f' → post (nI c, a, m, f')) : wpY_work post (nI c, a, m, f) :=
  ⟨ss_T c + 1, yy_w2 hc ok (fun f' hf => h f' (fun t ht => ss_mnU (hm t ht) (hf t ht))) (ss_T c) 0 (by omega) f (fun t' h' => by omega)⟩
end
section
def i_Rel (k : Nat) (u : SX) (v : SY) : Prop := ∃ (c : Nat) (a e m f : Nat → Int32), u = (nI c, a, e) ∧ v = (nI c, a, m, f) ∧ c ≤ 7 ∧ ss_ok a ∧ ss_ms c a e
theorem i_up {k : Nat} {u : SX} {v : SY} (h : i_Rel k u v) : i_Rel (k + 4) u v := h
theorem i_vc0 : wpX_init (fun u => wpY_init (fun v => i_Rel 0 u v)) :=
  ⟨0, fun _ => 0, fun _ => 0, fun _ => 0, fun _ => 0, rfl, rfl, by omega, ⟨fun _ _ _ _ => rfl, fun _ _ => rfl, fun _ => ⟨0, by omega, rfl⟩⟩, fun t ht => absurd ht (by simp [ss_T])⟩
theorem ss_mk {k c : Nat} {a e m f : Nat → Int32} (hc : c ≤ 7) (ok : ss_ok a) (hm : ss_ms c a e) : i_Rel k (nI c, a, e) (nI c, a, m, f) := ⟨c, a, e, m, f, rfl, rfl, hc, ok, hm⟩
theorem ss_diN {d : Int32} (h : ss_di d) : ∃ n : Nat, n ≤ 60 ∧ d = nI n := nI_of2 (M := 60) (n := 60) (by decide) h.1 (Int32.not_lt.mp h.2)
theorem ss_ptT {a : Nat → Int32} {i j p r : Nat} {d : Int32} (hi : i < 7) (hj : j < 7) (h : (p = i ∧ r = j) ∨ (p = j ∧ r = i)) : ss_pt a i j d (7 * p + r) = d := by
  unfold ss_pt upd
  rcases h with ⟨h1, h2⟩ | ⟨h1, h2⟩
  · subst h1 h2
    split
    · rfl
    · rw [if_pos rfl]
  · subst h1 h2
    rw [if_pos rfl]
theorem ss_ptF {a : Nat → Int32} {i j p r : Nat} {d : Int32} (hi : i < 7) (hj : j < 7) (hr : r < 7) (h : ¬ ((p = i ∧ r = j) ∨ (p = j ∧ r = i))) : ss_pt a i j d (7 * p + r) = a (7 * p + r) := by
  unfold ss_pt upd
  rw [if_neg (by omega), if_neg (by omega)]
theorem ss_ptB {a : Nat → Int32} {i j q : Nat} {d : Int32} (hi : i < 7) (hj : j < 7) (hq : 49 ≤ q) : ss_pt a i j d q = a q := by
  unfold ss_pt upd
  rw [if_neg (by omega), if_neg (by omega)]
theorem ss_ptok {a : Nat → Int32} {i j : Nat} {d : Int32} (ok : ss_ok a) (hi : i < 7) (hj : j < 7) (hij : i ≠ j) (hd : ss_di d) : ss_ok (ss_pt a i j d) := by
  refine ⟨fun p r hp hr => ?_, fun p hp => ?_, fun q => ?_⟩
  · by_cases h : (p = i ∧ r = j) ∨ (p = j ∧ r = i)
    · rw [ss_ptT hi hj h, ss_ptT hi hj (by omega)]
    · rw [ss_ptF hi hj hr h, ss_ptF hi hj hp (by omega)]
      exact ok.1 p r hp hr
  · rw [ss_ptF hi hj hp (by omega)]
    exact ok.2.1 p hp
  · unfold ss_pt upd
    split
    · exact ss_diN hd
    · split
      · exact ss_diN hd
      · exact ok.2.2 q
def ss_pi (a : Nat → Int32) (c : Nat) (d : Int32) : Nat → Nat → Int32
  | 0 => a
  | i + 1 => ss_pt (ss_pi a c d i) i c d
theorem ss_piok {a : Nat → Int32} {c : Nat} {d : Int32} (ok : ss_ok a) (hc : c < 7) (hd : ss_di d) : ∀ i, i ≤ c → ss_ok (ss_pi a c d i) := by
  intro i
  induction i with
  | zero => intro _; exact ok
  | succ i ih => intro h; exact ss_ptok (ih (by omega)) (by omega) hc (by omega) hd
theorem xx_31 {post : Int32 → SX → Prop} {c : Nat} {d : Int32} {a e : Nat → Int32} (hc : c < 7) (ok : ss_ok (ss_pi a c d c)) (h : ∀ e', ss_ms (c + 1) (ss_pi a c d c) e' → post (nI c) (nI (c + 1), ss_pi a c d c, e')) :
    ∀ n i, i + n = c → wX_point_31 post d (nI c) (n + 1) (nI i) (nI c) (ss_pi a c d i) e := by
  intro n
  induction n with
  | zero =>
    intro i hi
    have hi' : i = c := by omega
    subst hi'
    refine br_t (Int32.le_refl _) (nm_r (nI_1 i) ?_)
    exact xx_ms (by omega) ok h
  | succ n ih =>
    intro i hi
    refine br_f (ss_hi (by omega) (by omega)) ?_
    refine xx_put (by omega) hc ?_
    exact nm_r (nI_1 i) (ih (i + 1) (by omega))
theorem ss_u0 {a : Nat → Int32} {c : Nat} (hc : c < 7) (ok : ss_ok a) : upd a (8 * nI c).toNatClampNeg 0 = a := by
  have e : (8 * nI c).toNatClampNeg = 7 * c + c := by
    rw [show (8 : Int32) = nI 8 from rfl, pk_mul, nI_clamp (by omega)]; omega
  rw [e]
  funext q
  unfold upd
  split
  · next h => rw [h]; exact (ok.2.1 c hc).symm
  · rfl
theorem yy_29 {post : Int32 → SY → Prop} {c : Nat} {d : Int32} {a m f : Nat → Int32} (hc : c < 7) (ok : ss_ok (ss_pi a c d c)) (h : post (nI c) (nI (c + 1), ss_pi a c d c, m, f)) :
    ∀ n i, i + n = c → wY_point_29 post d (n + 1) (nI i) (nI c) (ss_pi a c d i) m f := by
  intro n
  induction n with
  | zero =>
    intro i hi
    have hi' : i = c := by omega
    subst hi'
    refine br_t (Int32.le_refl _) ⟨?_, nm_r (ss_u0 hc ok) (nm_r (nI_1 i) ?_)⟩
    · rw [show (8 : Int32) = nI 8 from rfl, pk_mul]; exact vp_in_nI (by omega) (by omega)
    · rw [nI_pred]; exact h
  | succ n ih =>
    intro i hi
    refine br_f (ss_hi (by omega) (by omega)) ?_
    refine yy_put (by omega) hc ?_
    exact nm_r (nI_1 i) (ih (i + 1) (by omega))
theorem i_vc_point {k : Nat} {u : SX} {v : SY} (I : i_Rel k u v) (hk : k + 4 ≤ 2048) (v1 : Int32) : wpX_point (fun r u' => wpY_point (fun r' v' => r' = r ∧ i_Rel (k + 4) u' v') v v1) u v1 := by
  obtain ⟨c, a, e, m, f, rfl, rfl, hc, ok, hm⟩ := I
  unfold wpX_point; dsimp only
  refine xx_dis (fun g => br_f ss_10 ?_) (fun g => br_t rfl ?_)
  · refine pk_lt c 7 (fun h7 => ?_) (fun h7 => ?_)
    · have ok' := ss_piok ok h7 g c (Nat.le_refl c)
      refine ⟨c + 1, xx_31 h7 ok' (fun e' he => ?_) c 0 (by omega)⟩
      refine br_f g.1 (br_t (Int32.not_lt.mp g.2) (br_f ?_ ⟨c + 1, yy_29 h7 ok' ⟨rfl, ss_mk (by omega) ok' he⟩ c 0 (by omega)⟩))
      rw [show (7 : Int32) = nI 7 from rfl, nI_eq (by omega) (by omega)]; omega
    · have h7' : c = 7 := by omega
      subst h7'
      exact br_f g.1 (br_t (Int32.not_lt.mp g.2) (br_t rfl ⟨rfl, ss_mk hc ok hm⟩))
  · refine br_c (fun _ => ⟨rfl, ss_mk hc ok hm⟩) (fun h1 => br_c (fun h2 => ?_) (fun _ => ⟨rfl, ss_mk hc ok hm⟩))
    exact absurd ⟨h1, Int32.not_lt.mpr h2⟩ g
theorem i_vc_drop {k : Nat} {u : SX} {v : SY} (I : i_Rel k u v) (hk : k + 4 ≤ 2048) : wpX_drop (fun r u' => wpY_drop (fun r' v' => r' = r ∧ i_Rel (k + 4) u' v') v) u := by
  obtain ⟨c, a, e, m, f, rfl, rfl, hc, ok, hm⟩ := I
  match c, hc, hm with
  | 0, hc, hm => exact br_t rfl (br_t rfl ⟨rfl, ss_mk hc ok hm⟩)
  | c + 1, hc, hm =>
    have h0 : ¬ nI (c + 1) = 0 := nI_ne0 (by omega) (by omega)
    refine br_f h0 (nm_r (nI_pred c) (xx_ms (by omega) ok (fun e' he => ?_)))
    exact br_f h0 (nm_r (nI_pred c) ⟨rfl, ss_mk (by omega) ok he⟩)
theorem i_vc_set {k : Nat} {u : SX} {v : SY} (I : i_Rel k u v) (hk : k + 4 ≤ 2048) (v1 : Int32) (v2 : Int32) (v3 : Int32) : wpX_set (fun r u' => wpY_set (fun r' v' => r' = r ∧ i_Rel (k + 4) u' v') v v1 v2 v3) u v1 v2 v3 := by
  obtain ⟨c, a, e, m, f, rfl, rfl, hc, ok, hm⟩ := I
  have J := ss_mk (k := k + 4) (m := m) (f := f) hc ok hm
  unfold wpX_set wpY_set; dsimp only
  rcases ss_pnt c v1 hc with n1 | ⟨i, hi, rfl⟩
  · exact xx_apF (Or.inl n1) (br_t rfl (yy_isF n1 (br_t rfl ⟨rfl, J⟩)))
  · rcases ss_pnt c v2 hc with n2 | ⟨j, hj, rfl⟩
    · exact xx_apF (Or.inr n2) (br_t rfl (yy_isT hc hi (br_f ss_10 (yy_isF n2 (br_t rfl ⟨rfl, J⟩)))))
    · refine xx_apT hc hi hj (br_f ss_10 ?_)
      refine pk_eq i j (fun hij => ?_) (fun hij => ?_)
      · subst hij
        exact yy_isT hc hi (br_f ss_10 (yy_isT hc hi (br_f ss_10 (br_t rfl ⟨rfl, J⟩))))
      · have hn : ¬ nI i = nI j := by rw [nI_eq (by omega) (by omega)]; exact hij
        refine xx_dis (fun g => br_f ss_10 ?_) (fun g => br_t rfl ?_)
        · refine xx_btw (by omega) (by omega) (xx_put (by omega) (by omega) ?_)
          have ok' := ss_ptok (d := v3) ok (i := i) (j := j) (by omega) (by omega) hij g
          refine xx_ms hc ok' (fun e' he => ?_)
          refine yy_isT hc hi (br_f ss_10 (yy_isT hc hj (br_f ss_10 (br_f hn (br_f g.1 (br_t (Int32.not_lt.mp g.2) ⟨ss_inY (by omega) (by omega), nm_r (by rw [ss_clY (by omega) (by omega)]) ?_⟩))))))
          exact yy_put (by omega) (by omega) ⟨rfl, ss_mk hc ok' he⟩
        · refine yy_isT hc hi (br_f ss_10 (yy_isT hc hj (br_f ss_10 (br_f hn (br_c (fun _ => ⟨rfl, J⟩) (fun h1 => br_c (fun h2 => ?_) (fun _ => ⟨rfl, J⟩)))))))
          exact absurd ⟨h1, Int32.not_lt.mpr h2⟩ g
theorem i_vc_points {k : Nat} {u : SX} {v : SY} (I : i_Rel k u v) (hk : k + 4 ≤ 2048) : wpX_points (fun r => wpY_points (fun r' => r' = r ∧ i_Rel (k + 4) u v) v) u := by
  obtain ⟨c, a, e, m, f, rfl, rfl, hc, ok, hm⟩ := I
  exact ⟨rfl, ss_mk hc ok hm⟩
theorem i_vc_distance {k : Nat} {u : SX} {v : SY} (I : i_Rel k u v) (hk : k + 4 ≤ 2048) (v1 : Int32) (v2 : Int32) : wpX_distance (fun r => wpY_distance (fun r' => r' = r ∧ i_Rel (k + 4) u v) v v1 v2) u v1 v2 := by
  obtain ⟨c, a, e, m, f, rfl, rfl, hc, ok, hm⟩ := I
  have J := ss_mk (k := k + 4) (m := m) (f := f) hc ok hm
  unfold wpX_distance wpY_distance; dsimp only
  rcases ss_pnt c v1 hc with n1 | ⟨i, hi, rfl⟩
  · exact xx_apF (Or.inl n1) (br_t rfl (yy_isF n1 (br_t rfl ⟨rfl, J⟩)))
  · rcases ss_pnt c v2 hc with n2 | ⟨j, hj, rfl⟩
    · exact xx_apF (Or.inr n2) (br_t rfl (yy_isT hc hi (br_f ss_10 (yy_isF n2 (br_t rfl ⟨rfl, J⟩)))))
    · refine xx_apT hc hi hj (br_f ss_10 (xx_btw (by omega) (by omega) ?_))
      refine yy_isT hc hi (br_f ss_10 (yy_isT hc hj (br_f ss_10 ⟨ss_inY (by omega) (by omega), by rw [ss_clY (by omega) (by omega)], J⟩)))
def ss_nsp (c : Nat) (x : Int32) : Prop := x ≤ 0 ∨ ss_al c ≤ x ∨ (ss_b x 0 = 0 ∧ ¬ (x - x / 2 * 2 = 1))
theorem ss_bt0 : ∀ t, t < 64 → ss_b (nI (2 * t)) 0 = 0 ∧ ss_b (nI (2 * t + 1)) 0 = 1 := by decide +kernel
theorem ss_spl (c : Nat) (x : Int32) (hc : c ≤ 7) : ss_nsp c x ∨ ∃ t, t < ss_T c ∧ x = nI (2 * t + 1) := by
  by_cases h1 : x ≤ 0
  · exact Or.inl (Or.inl h1)
  by_cases h2 : ss_al c ≤ x
  · exact Or.inl (Or.inr (Or.inl h2))
  obtain ⟨q1, q2, q3, q4⟩ := ss_TT c hc
  obtain ⟨s, hs, rfl⟩ := nI_of (x := x) (fun z => h1 (Int32.le_of_lt z))
  rw [ss_alE c hc, nI_leI (by omega) hs] at h2
  rcases Nat.mod_two_eq_zero_or_one s with g | g
  · refine Or.inl (Or.inr (Or.inr ⟨?_, ?_⟩))
    · have e : s = 2 * (s / 2) := by omega
      rw [e]; exact (ss_bt0 _ (by omega)).1
    · rw [show (2 : Int32) = nI 2 from rfl, pk_rem (by omega) (by omega) (by omega), g]; decide
  · exact Or.inr ⟨s / 2, by omega, congrArg nI (by omega)⟩
theorem xx_spT {post : Int32 → Prop} {c t : Nat} {a e : Nat → Int32} (hc : c ≤ 7) (ht : t < ss_T c) (h : post 1) : wpX_isSplit post (nI c, a, e) (nI (2 * t + 1)) := by
  obtain ⟨q1, q2, q3, q4⟩ := ss_TT c hc
  refine br_f (nI_nle (by omega) (by omega)) (br_f (ss_exF hc ht) ?_)
  refine xx_has (fun _ => br_f ss_10 h) (fun z => absurd (ss_bt0 t (by omega)).2 (ss_b00 z))
theorem xx_spF {post : Int32 → Prop} {c : Nat} {x : Int32} {a e : Nat → Int32} (n : ss_nsp c x) (h : post 0) : wpX_isSplit post (nI c, a, e) x := by
  refine br_c (fun _ => h) (fun h1 => br_c (fun _ => h) (fun h2 => ?_))
  rcases n with n | n | n
  · exact absurd n h1
  · exact absurd n h2
  · exact xx_has (fun z => absurd z (ss_b00 n.1)) (fun _ => br_t rfl h)
theorem yy_spT {post : Int32 → Prop} {c t : Nat} {a m e : Nat → Int32} (hc : c ≤ 7) (ht : t < ss_T c) (h : post 1) : wpY_isSplit post (nI c, a, m, e) (nI (2 * t + 1)) := by
  obtain ⟨q1, q2, q3, q4⟩ := ss_TT c hc
  refine br_f (nI_nle (by omega) (by omega)) (br_f (ss_exF hc ht) ⟨by decide, br_t ?_ h⟩)
  rw [show (2 : Int32) = nI 2 from rfl, pk_rem (by omega) (by omega) (by omega), show (2 * t + 1) % 2 = 1 by omega]; rfl
theorem yy_spF {post : Int32 → Prop} {c : Nat} {x : Int32} {a m e : Nat → Int32} (n : ss_nsp c x) (h : post 0) : wpY_isSplit post (nI c, a, m, e) x := by
  refine br_c (fun _ => h) (fun h1 => br_c (fun _ => h) (fun h2 => ⟨by decide, ?_⟩))
  rcases n with n | n | n
  · exact absurd n h1
  · exact absurd n h2
  · exact br_f n.2 h
theorem i_vc_index {k : Nat} {u : SX} {v : SY} (I : i_Rel k u v) (hk : k + 4 ≤ 2048) (v1 : Int32) : wpX_index (fun r => wpY_index (fun r' => r' = r ∧ i_Rel (k + 4) u v) v v1) u v1 := by
  obtain ⟨c, a, e, m, f, rfl, rfl, hc, ok, hm⟩ := I
  have J := ss_mk (k := k + 4) (m := m) (f := f) hc ok hm
  unfold wpX_index wpY_index; dsimp only
  rcases ss_spl c v1 hc with n | ⟨t, ht, rfl⟩
  · exact xx_spF n (br_t rfl (yy_spF n (br_t rfl ⟨rfl, J⟩)))
  · refine xx_spT hc ht (br_f ss_10 ⟨ss_in hc ht, yy_spT hc ht (br_f ss_10 (yy_ix hc ok ht (fun r hr => ⟨?_, J⟩)))⟩)
    rw [ss_cl hc ht]; exact ss_mnU (hm t ht) hr
end
section
theorem ss_eds {c : Nat} {a e : Nat → Int32} (hc : c ≤ 7) : ∀ d t, t + d = ss_T c → ∀ x : Int32, ∃ r : Int32,
    (∀ post : Int32 → Prop, post r → wX_edges_9 post (ss_al c) (nI c) a e (d + 1) x (nI (2 * t + 1))) ∧
    (∀ m f : Nat → Int32, ss_ag c e f → ∀ post : Int32 → SY → Prop, post r (nI c, a, m, f) → wY_edges_8 post (nI c) a m f (d + 1) x (nI (2 * t + 1))) := by
  intro d
  induction d with
  | zero =>
    intro t ht x
    have h := ss_exT hc (t := t) (by omega)
    exact ⟨x, fun _ hp => br_t h hp, fun _ _ _ _ hp => br_t h hp⟩
  | succ d ih =>
    intro t ht x
    have htc : t < ss_T c := by omega
    have h := ss_exF hc htc
    have cl := ss_cl hc htc
    by_cases z : e (2 * t + 1) ≤ 0
    · obtain ⟨r, hX, hY⟩ := ih (t + 1) (by omega) x
      exact ⟨r, fun post hp => br_f h ⟨ss_in hc htc, br_t (by rw [cl]; exact z) (nm_r (ss_2 t) (hX post hp))⟩,
        fun m f ag post hp => br_f h ⟨ss_in hc htc, br_t (by rw [cl, ag t htc]; exact z) (nm_r (ss_2 t) (hY m f ag post hp))⟩⟩
    · obtain ⟨r, hX, hY⟩ := ih (t + 1) (by omega) (x + 1)
      exact ⟨r, fun post hp => br_f h ⟨ss_in hc htc, br_f (by rw [cl]; exact z) (nm_e (nm_r (ss_2 t) (hX post hp)))⟩,
        fun m f ag post hp => br_f h ⟨ss_in hc htc, br_f (by rw [cl, ag t htc]; exact z) (nm_e (nm_r (ss_2 t) (hY m f ag post hp)))⟩⟩
theorem i_vc_edges {k : Nat} {u : SX} {v : SY} (I : i_Rel k u v) (hk : k + 4 ≤ 2048) : wpX_edges (fun r => wpY_edges (fun r' v' => r' = r ∧ i_Rel (k + 4) u v') v) u := by
  obtain ⟨c, a, e, m, f, rfl, rfl, hc, ok, hm⟩ := I
  obtain ⟨r, hX, hY⟩ := ss_eds (a := a) (e := e) hc (ss_T c) 0 (by omega) 0
  refine ⟨ss_T c + 1, hX _ ?_⟩
  unfold wpY_edges; dsimp only
  refine yy_w hc ok hm (fun f' ag => ⟨ss_T c + 1, hY m f' ag _ ⟨rfl, ss_mk hc ok hm⟩⟩)
theorem ss_edg {c : Nat} {a e : Nat → Int32} {k : Int32} (hc : c ≤ 7) : ∀ d t, t + d = ss_T c → ∀ x : Int32, ∃ r : Int32,
    (∀ post : Int32 → Prop, post r → wX_edge_10 post k (ss_al c) (nI c) a e (d + 1) x (nI (2 * t + 1))) ∧
    (∀ m f : Nat → Int32, ss_ag c e f → ∀ post : Int32 → SY → Prop, post r (nI c, a, m, f) → wY_edge_8 post k (nI c) a m f (d + 1) x (nI (2 * t + 1))) := by
  intro d
  induction d with
  | zero =>
    intro t ht x
    have h := ss_exT hc (t := t) (by omega)
    exact ⟨-1002, fun _ hp => br_t h hp, fun _ _ _ _ hp => br_t h hp⟩
  | succ d ih =>
    intro t ht x
    have htc : t < ss_T c := by omega
    have h := ss_exF hc htc
    have cl := ss_cl hc htc
    by_cases z : e (2 * t + 1) ≤ 0
    · obtain ⟨r, hX, hY⟩ := ih (t + 1) (by omega) x
      exact ⟨r, fun post hp => br_f h ⟨ss_in hc htc, br_t (by rw [cl]; exact z) (nm_r (ss_2 t) (hX post hp))⟩,
        fun m f ag post hp => br_f h ⟨ss_in hc htc, br_t (by rw [cl, ag t htc]; exact z) (nm_r (ss_2 t) (hY m f ag post hp))⟩⟩
    · by_cases y : x = k
      · exact ⟨nI (2 * t + 1), fun post hp => br_f h ⟨ss_in hc htc, br_f (by rw [cl]; exact z) (br_t y hp)⟩,
          fun m f ag post hp => br_f h ⟨ss_in hc htc, br_f (by rw [cl, ag t htc]; exact z) (br_t y hp)⟩⟩
      · obtain ⟨r, hX, hY⟩ := ih (t + 1) (by omega) (x + 1)
        exact ⟨r, fun post hp => br_f h ⟨ss_in hc htc, br_f (by rw [cl]; exact z) (br_f y (nm_e (nm_r (ss_2 t) (hX post hp))))⟩,
          fun m f ag post hp => br_f h ⟨ss_in hc htc, br_f (by rw [cl, ag t htc]; exact z) (br_f y (nm_e (nm_r (ss_2 t) (hY m f ag post hp))))⟩⟩
theorem i_vc_edge {k : Nat} {u : SX} {v : SY} (I : i_Rel k u v) (hk : k + 4 ≤ 2048) (v1 : Int32) : wpX_edge (fun r => wpY_edge (fun r' v' => r' = r ∧ i_Rel (k + 4) u v') v v1) u v1 := by
  obtain ⟨c, a, e, m, f, rfl, rfl, hc, ok, hm⟩ := I
  obtain ⟨r, hX, hY⟩ := ss_edg (a := a) (e := e) (k := v1) hc (ss_T c) 0 (by omega) 0
  refine ⟨ss_T c + 1, hX _ ?_⟩
  unfold wpY_edge; dsimp only
  refine yy_w hc ok hm (fun f' ag => ⟨ss_T c + 1, hY m f' ag _ ⟨rfl, ss_mk hc ok hm⟩⟩)
theorem ss_wei {c : Nat} {a e : Nat → Int32} (hc : c ≤ 7) : ∀ d t, t + d = ss_T c → ∀ x : Int32, ∃ r : Int32,
    (∀ post : Int32 → Prop, post r → wX_weight_9 post (ss_al c) (nI c) a e (d + 1) x (nI (2 * t + 1))) ∧
    (∀ m f : Nat → Int32, ss_ag c e f → ∀ post : Int32 → SY → Prop, post r (nI c, a, m, f) → wY_weight_8 post (nI c) a m f (d + 1) x (nI (2 * t + 1))) := by
  intro d
  induction d with
  | zero =>
    intro t ht x
    have h := ss_exT hc (t := t) (by omega)
    exact ⟨x, fun _ hp => br_t h hp, fun _ _ _ _ hp => br_t h hp⟩
  | succ d ih =>
    intro t ht x
    have htc : t < ss_T c := by omega
    have h := ss_exF hc htc
    have cl := ss_cl hc htc
    by_cases z : e (2 * t + 1) ≤ 0
    · obtain ⟨r, hX, hY⟩ := ih (t + 1) (by omega) x
      exact ⟨r, fun post hp => br_f h ⟨ss_in hc htc, br_t (by rw [cl]; exact z) (nm_r (ss_2 t) (hX post hp))⟩,
        fun m f ag post hp => br_f h ⟨ss_in hc htc, br_t (by rw [cl, ag t htc]; exact z) (nm_r (ss_2 t) (hY m f ag post hp))⟩⟩
    · obtain ⟨r, hX, hY⟩ := ih (t + 1) (by omega) (x + e (2 * t + 1))
      exact ⟨r, fun post hp => br_f h ⟨ss_in hc htc, br_f (by rw [cl]; exact z) ⟨ss_in hc htc, nm_r (by rw [cl]) (nm_r (ss_2 t) (hX post hp))⟩⟩,
        fun m f ag post hp => br_f h ⟨ss_in hc htc, br_f (by rw [cl, ag t htc]; exact z) ⟨ss_in hc htc, nm_r (by rw [cl, ag t htc]) (nm_r (ss_2 t) (hY m f ag post hp))⟩⟩⟩
theorem i_vc_weight {k : Nat} {u : SX} {v : SY} (I : i_Rel k u v) (hk : k + 4 ≤ 2048) : wpX_weight (fun r => wpY_weight (fun r' v' => r' = r ∧ i_Rel (k + 4) u v') v) u := by
  obtain ⟨c, a, e, m, f, rfl, rfl, hc, ok, hm⟩ := I
  obtain ⟨r, hX, hY⟩ := ss_wei (a := a) (e := e) hc (ss_T c) 0 (by omega) 0
  refine ⟨ss_T c + 1, hX _ ?_⟩
  unfold wpY_weight; dsimp only
  refine yy_w hc ok hm (fun f' ag => ⟨ss_T c + 1, hY m f' ag _ ⟨rfl, ss_mk hc ok hm⟩⟩)
def ss_sp (e : Nat → Int32) (i j : Nat) : Nat → Int32
  | 0 => 0
  | t + 1 => if e (2 * t + 1) ≤ 0 then ss_sp e i j t else if ss_b (nI (2 * t + 1)) (nI i) = ss_b (nI (2 * t + 1)) (nI j) then ss_sp e i j t else ss_sp e i j t + e (2 * t + 1)
theorem ss_spS (e : Nat → Int32) (i j : Nat) : ∀ t, ss_sp e i j t = ss_sp e j i t := by
  intro t
  induction t with
  | zero => rfl
  | succ t ih =>
    unfold ss_sp
    rw [ih]
    by_cases h : ss_b (nI (2 * t + 1)) (nI i) = ss_b (nI (2 * t + 1)) (nI j)
    · rw [if_pos h, if_pos h.symm]
    · have h' : ¬ ss_b (nI (2 * t + 1)) (nI j) = ss_b (nI (2 * t + 1)) (nI i) := fun z => h z.symm
      rw [if_neg h, if_neg h']
theorem ss_spD (e : Nat → Int32) (i : Nat) : ∀ t, ss_sp e i i t = 0 := by
  intro t
  induction t with
  | zero => rfl
  | succ t ih =>
    unfold ss_sp
    rw [if_pos rfl, ih]
    split <;> rfl
theorem ss_spA {e f : Nat → Int32} (i j : Nat) : ∀ t, (∀ t', t' < t → f (2 * t' + 1) = e (2 * t' + 1)) → ss_sp f i j t = ss_sp e i j t := by
  intro t
  induction t with
  | zero => intro _; rfl
  | succ t ih =>
    intro h
    unfold ss_sp
    rw [ih (fun t' h' => h t' (by omega)), h t (by omega)]
theorem xx_sp11 {post : Int32 → Prop} {c i j : Nat} {a e : Nat → Int32} (hc : c ≤ 7) (h : post (ss_sp e i j (ss_T c))) : ∀ d t, t + d = ss_T c →
    wX_sumOfParting_11 post (nI i) (nI j) (ss_al c) (nI c) a e (d + 1) (ss_sp e i j t) (nI (2 * t + 1)) := by
  intro d
  induction d with
  | zero =>
    intro t ht
    have ht' : t = ss_T c := by omega
    refine br_t (ss_exT hc ht') ?_
    rw [ht']; exact h
  | succ d ih =>
    intro t ht
    have htc : t < ss_T c := by omega
    have cl := ss_cl hc htc
    refine br_f (ss_exF hc htc) ⟨ss_in hc htc, br_c (fun z => nm_r (ss_2 t) ?_) (fun z => ?_)⟩
    · rw [cl] at z
      have E : ss_sp e i j t = ss_sp e i j (t + 1) := by
        rw [ss_sp.eq_2, if_pos z]
      rw [E]; exact ih (t + 1) (by omega)
    · rw [cl] at z
      refine xx_parts (fun y => br_t rfl (nm_r (ss_2 t) ?_)) (fun y => br_f ss_10 ⟨ss_in hc htc, nm_r (e' := ss_sp e i j (t + 1)) ?_ (nm_r (ss_2 t) (ih (t + 1) (by omega)))⟩)
      · have E : ss_sp e i j t = ss_sp e i j (t + 1) := by
          rw [ss_sp.eq_2, if_neg z, if_pos y]
        rw [E]; exact ih (t + 1) (by omega)
      · rw [cl, ss_sp.eq_2, if_neg z, if_neg y]
theorem xx_sp {post : Int32 → Prop} {c i j : Nat} {a e : Nat → Int32} (hc : c ≤ 7) (h : post (ss_sp e i j (ss_T c))) : wpX_sumOfParting post (nI c, a, e) (nI i) (nI j) :=
  ⟨ss_T c + 1, xx_sp11 hc h (ss_T c) 0 (by omega)⟩
theorem yy_b5 {post : Int32 → Prop} {c i j : Nat} {a m f : Nat → Int32} (hc : c ≤ 7) (h : post (ss_sp f i j (ss_T c))) : ∀ d t, t + d = ss_T c →
    wY_between_5 post (nI i) (nI j) (nI c) a m f (d + 1) (ss_sp f i j t) (nI (2 * t + 1)) := by
  intro d
  induction d with
  | zero =>
    intro t ht
    have ht' : t = ss_T c := by omega
    refine br_t (ss_exT hc ht') ?_
    rw [ht']; exact h
  | succ d ih =>
    intro t ht
    have htc : t < ss_T c := by omega
    have cl := ss_cl hc htc
    refine br_f (ss_exF hc htc) (br_c (fun y => nm_r (ss_2 t) ?_) (fun y => ⟨ss_in hc htc, br_c (fun z => nm_r (ss_2 t) ?_) (fun z => ⟨ss_in hc htc, nm_r (e' := ss_sp f i j (t + 1)) ?_ (nm_r (ss_2 t) (ih (t + 1) (by omega)))⟩)⟩))
    · have E : ss_sp f i j t = ss_sp f i j (t + 1) := by
        rw [ss_sp.eq_2, if_pos y]; split <;> rfl
      rw [E]; exact ih (t + 1) (by omega)
    · rw [cl] at z
      have E : ss_sp f i j t = ss_sp f i j (t + 1) := by
        rw [ss_sp.eq_2, if_pos z]
      rw [E]; exact ih (t + 1) (by omega)
    · rw [cl] at z
      rw [cl, ss_sp.eq_2, if_neg z, if_neg y]
theorem yy_b {post : Int32 → Prop} {c i j : Nat} {a m e f : Nat → Int32} (hc : c ≤ 7) (ag : ss_ag c e f) (h : post (ss_sp e i j (ss_T c))) : wpY_between post (nI c, a, m, f) (nI i) (nI j) :=
  ⟨ss_T c + 1, yy_b5 hc (by rw [ss_spA i j (ss_T c) ag]; exact h) (ss_T c) 0 (by omega)⟩
theorem i_vc_treeDistance {k : Nat} {u : SX} {v : SY} (I : i_Rel k u v) (hk : k + 4 ≤ 2048) (v1 : Int32) (v2 : Int32) : wpX_treeDistance (fun r => wpY_treeDistance (fun r' v' => r' = r ∧ i_Rel (k + 4) u v') v v1 v2) u v1 v2 := by
  obtain ⟨c, a, e, m, f, rfl, rfl, hc, ok, hm⟩ := I
  have J := ss_mk (k := k + 4) (m := m) (f := f) hc ok hm
  unfold wpX_treeDistance wpY_treeDistance; dsimp only
  rcases ss_pnt c v1 hc with n1 | ⟨i, hi, rfl⟩
  · exact xx_apF (Or.inl n1) (br_t rfl (yy_isF n1 (br_t rfl ⟨rfl, J⟩)))
  · rcases ss_pnt c v2 hc with n2 | ⟨j, hj, rfl⟩
    · exact xx_apF (Or.inr n2) (br_t rfl (yy_isT hc hi (br_f ss_10 (yy_isF n2 (br_t rfl ⟨rfl, J⟩)))))
    · refine xx_apT hc hi hj (br_f ss_10 (xx_sp hc ?_))
      refine yy_isT hc hi (br_f ss_10 (yy_isT hc hj (br_f ss_10 (yy_w hc ok hm (fun f' ag => ?_)))))
      exact yy_b hc ag ⟨rfl, ss_mk hc ok hm⟩
theorem i_vc_together {k : Nat} {u : SX} {v : SY} (I : i_Rel k u v) (hk : k + 4 ≤ 2048) (v1 : Int32) (v2 : Int32) : wpX_together (fun r => wpY_together (fun r' v' => r' = r ∧ i_Rel (k + 4) u v') v v1 v2) u v1 v2 := by
  obtain ⟨c, a, e, m, f, rfl, rfl, hc, ok, hm⟩ := I
  have J := ss_mk (k := k + 4) (m := m) (f := f) hc ok hm
  unfold wpX_together wpY_together; dsimp only
  rcases ss_pnt c v1 hc with n1 | ⟨i, hi, rfl⟩
  · exact xx_apF (Or.inl n1) (br_t rfl (yy_isF n1 (br_t rfl ⟨rfl, J⟩)))
  · rcases ss_pnt c v2 hc with n2 | ⟨j, hj, rfl⟩
    · exact xx_apF (Or.inr n2) (br_t rfl (yy_isT hc hi (br_f ss_10 (yy_isF n2 (br_t rfl ⟨rfl, J⟩)))))
    · refine xx_apT hc hi hj (br_f ss_10 (xx_sp hc ?_))
      refine br_c (fun z => ?_) (fun z => ?_)
      · refine yy_isT hc hi (br_f ss_10 (yy_isT hc hj (br_f ss_10 (yy_w hc ok hm (fun f' ag => ?_)))))
        exact yy_b hc ag (br_t z ⟨rfl, ss_mk hc ok hm⟩)
      · refine yy_isT hc hi (br_f ss_10 (yy_isT hc hj (br_f ss_10 (yy_w hc ok hm (fun f' ag => ?_)))))
        exact yy_b hc ag (br_f z ⟨rfl, ss_mk hc ok hm⟩)
end
section
theorem ss_agD : ∀ c, c < 8 → ∀ t, t < ss_T c → ∀ o, o < ss_T c → ¬ (nI (2 * t + 1) &&& nI (2 * o + 1)) = 0 ∧ (((nI (2 * t + 1) ||| nI (2 * o + 1)) = ss_al c) ↔ ((ss_al c &&& (nI (2 * t + 1) ^^^ (-1))) &&& (nI (2 * o + 1) ^^^ (-1))) = 0) := by decide +kernel
theorem ss_agr {c t o : Nat} {a e : Nat → Int32} (hc : c ≤ 7) (ht : t < ss_T c) (ho : o < ss_T c) : ∃ r : Int32,
    (∀ post : Int32 → Prop, post r → wpX_areAgreed post (nI c, a, e) (nI (2 * t + 1)) (nI (2 * o + 1))) ∧
    (∀ (m f : Nat → Int32) (post : Int32 → Prop), post r → wpY_agree post (nI c, a, m, f) (nI (2 * t + 1)) (nI (2 * o + 1))) := by
  obtain ⟨h0, h1⟩ := ss_agD c (by omega) t ht o ho
  by_cases z1 : (nI (2 * t + 1) &&& (nI (2 * o + 1) ^^^ (-1))) = 0
  · exact ⟨1, fun post hp => br_t z1 hp, fun m f post hp => nm_e (nm_e (nm_e (nm_e (nm_e (br_f h0 (br_t z1 hp))))))⟩
  by_cases z2 : (nI (2 * o + 1) &&& (nI (2 * t + 1) ^^^ (-1))) = 0
  · exact ⟨1, fun post hp => br_f z1 (br_t z2 hp), fun m f post hp => nm_e (nm_e (nm_e (nm_e (nm_e (br_f h0 (br_f z1 (br_t z2 hp)))))))⟩
  by_cases z3 : (nI (2 * t + 1) ||| nI (2 * o + 1)) = ss_al c
  · exact ⟨1, fun post hp => br_f z1 (br_f z2 (br_t z3 hp)), fun m f post hp => nm_e (nm_e (nm_e (nm_e (nm_e (br_f h0 (br_f z1 (br_f z2 (br_t (h1.mp z3) hp))))))))⟩
  · exact ⟨0, fun post hp => br_f z1 (br_f z2 (br_f z3 hp)), fun m f post hp => nm_e (nm_e (nm_e (nm_e (nm_e (br_f h0 (br_f z1 (br_f z2 (br_f (fun z => z3 (h1.mpr z)) hp))))))))⟩
theorem ss_agl {c o : Nat} {a e : Nat → Int32} (hc : c ≤ 7) (ho : o < ss_T c) : ∀ d t, t + d = ss_T c → ∃ r : Int32,
    (∀ post : Int32 → Prop, post r → wX_agreesWithEdges_7 post (nI (2 * o + 1)) (ss_al c) (nI c) a e (d + 1) (nI (2 * t + 1))) ∧
    (∀ m f : Nat → Int32, ss_ag c e f → ∀ post : Int32 → Prop, post r → wY_agreesWithAll_2 post (nI (2 * o + 1)) (nI c) a m f (d + 1) (nI (2 * t + 1))) := by
  intro d
  induction d with
  | zero =>
    intro t ht
    have h := ss_exT hc (t := t) (by omega)
    exact ⟨1, fun _ hp => br_t h hp, fun _ _ _ _ hp => br_t h hp⟩
  | succ d ih =>
    intro t ht
    have htc : t < ss_T c := by omega
    have h := ss_exF hc htc
    have cl := ss_cl hc htc
    obtain ⟨r, hX, hY⟩ := ih (t + 1) (by omega)
    by_cases z : e (2 * t + 1) ≤ 0
    · exact ⟨r, fun post hp => br_f h ⟨ss_in hc htc, br_t (by rw [cl]; exact z) (nm_r (ss_2 t) (hX post hp))⟩,
        fun m f ag post hp => br_f h ⟨ss_in hc htc, br_t (by rw [cl, ag t htc]; exact z) (nm_r (ss_2 t) (hY m f ag post hp))⟩⟩
    · obtain ⟨q, qX, qY⟩ := ss_agr (a := a) (e := e) hc ho htc
      by_cases y : q = 0
      · refine ⟨0, fun post hp => br_f h ⟨ss_in hc htc, br_f (by rw [cl]; exact z) (qX _ (br_t y hp))⟩,
          fun m f ag post hp => br_f h ⟨ss_in hc htc, br_f (by rw [cl, ag t htc]; exact z) (qY m f _ (br_t y hp))⟩⟩
      · refine ⟨r, fun post hp => br_f h ⟨ss_in hc htc, br_f (by rw [cl]; exact z) (qX _ (br_f y (nm_r (ss_2 t) (hX post hp))))⟩,
          fun m f ag post hp => br_f h ⟨ss_in hc htc, br_f (by rw [cl, ag t htc]; exact z) (qY m f _ (br_f y (nm_r (ss_2 t) (hY m f ag post hp))))⟩⟩
theorem ss_aga {c o : Nat} {a e : Nat → Int32} (hc : c ≤ 7) (ho : o < ss_T c) : ∃ r : Int32,
    (∀ post : Int32 → Prop, post r → wpX_agreesWithEdges post (nI c, a, e) (nI (2 * o + 1))) ∧
    (∀ m f : Nat → Int32, ss_ag c e f → ∀ post : Int32 → Prop, post r → wpY_agreesWithAll post (nI c, a, m, f) (nI (2 * o + 1))) := by
  obtain ⟨r, hX, hY⟩ := ss_agl (a := a) (e := e) hc ho (ss_T c) 0 (by omega)
  exact ⟨r, fun post hp => ⟨ss_T c + 1, hX post hp⟩, fun m f ag post hp => ⟨ss_T c + 1, hY m f ag post hp⟩⟩
theorem i_vc_agrees {k : Nat} {u : SX} {v : SY} (I : i_Rel k u v) (hk : k + 4 ≤ 2048) (v1 : Int32) : wpX_agrees (fun r => wpY_agrees (fun r' v' => r' = r ∧ i_Rel (k + 4) u v') v v1) u v1 := by
  obtain ⟨c, a, e, m, f, rfl, rfl, hc, ok, hm⟩ := I
  have J := ss_mk (k := k + 4) (m := m) (f := f) hc ok hm
  unfold wpX_agrees wpY_agrees; dsimp only
  rcases ss_spl c v1 hc with n | ⟨t, ht, rfl⟩
  · exact xx_spF n (br_t rfl (yy_spF n (br_t rfl ⟨rfl, J⟩)))
  · obtain ⟨r, hX, hY⟩ := ss_aga (a := a) (e := e) hc ht
    refine xx_spT hc ht (br_f ss_10 (hX _ ?_))
    by_cases y : r = 0
    · exact br_t y (yy_spT hc ht (br_f ss_10 (yy_w hc ok hm (fun f' ag => hY m f' ag _ (br_t y ⟨rfl, ss_mk hc ok hm⟩)))))
    · exact br_f y (yy_spT hc ht (br_f ss_10 (yy_w hc ok hm (fun f' ag => hY m f' ag _ (br_f y ⟨rfl, ss_mk hc ok hm⟩)))))
theorem ss_agi {c : Nat} {a e : Nat → Int32} (hc : c ≤ 7) : ∀ d t, t + d = ss_T c → ∀ x : Int32, ∃ r : Int32,
    (∀ post : Int32 → Prop, post r → wX_agreeing_9 post (ss_al c) (nI c) a e (d + 1) x (nI (2 * t + 1))) ∧
    (∀ m f : Nat → Int32, ss_ag c e f → ∀ post : Int32 → SY → Prop, post r (nI c, a, m, f) → wY_agreeing_8 post (nI c) a m f (d + 1) x (nI (2 * t + 1))) := by
  intro d
  induction d with
  | zero =>
    intro t ht x
    have h := ss_exT hc (t := t) (by omega)
    exact ⟨x, fun _ hp => br_t h hp, fun _ _ _ _ hp => br_t h hp⟩
  | succ d ih =>
    intro t ht x
    have htc : t < ss_T c := by omega
    have h := ss_exF hc htc
    obtain ⟨q, qX, qY⟩ := ss_aga (a := a) (e := e) hc htc
    by_cases y : q = 0
    · obtain ⟨r, hX, hY⟩ := ih (t + 1) (by omega) x
      exact ⟨r, fun post hp => br_f h (qX _ (br_t y (nm_r (ss_2 t) (hX post hp)))),
        fun m f ag post hp => br_f h (qY m f ag _ (br_t y (nm_r (ss_2 t) (hY m f ag post hp))))⟩
    · obtain ⟨r, hX, hY⟩ := ih (t + 1) (by omega) (x + 1)
      exact ⟨r, fun post hp => br_f h (qX _ (br_f y (nm_e (nm_r (ss_2 t) (hX post hp))))),
        fun m f ag post hp => br_f h (qY m f ag _ (br_f y (nm_e (nm_r (ss_2 t) (hY m f ag post hp)))))⟩
theorem i_vc_agreeing {k : Nat} {u : SX} {v : SY} (I : i_Rel k u v) (hk : k + 4 ≤ 2048) : wpX_agreeing (fun r => wpY_agreeing (fun r' v' => r' = r ∧ i_Rel (k + 4) u v') v) u := by
  obtain ⟨c, a, e, m, f, rfl, rfl, hc, ok, hm⟩ := I
  obtain ⟨r, hX, hY⟩ := ss_agi (a := a) (e := e) hc (ss_T c) 0 (by omega) 0
  refine ⟨ss_T c + 1, hX _ ?_⟩
  unfold wpY_agreeing; dsimp only
  refine yy_w hc ok hm (fun f' ag => ⟨ss_T c + 1, hY m f' ag _ ⟨rfl, ss_mk hc ok hm⟩⟩)
end
section
theorem xx_14 {post : Int32 → Prop} {J : Int32 → Int32 → Prop} {i c : Nat} {a e : Nat → Int32} (hc : c ≤ 7) (hi : i < c) (Q : Int32 → Prop)
    (hQ : ∀ j, j < i → Q (ss_sp e i j (ss_T c))) :
    ∀ d j, j + d = i → ∀ x, Q x → (∀ r, Q r → x ≤ r → (∀ j', j ≤ j' → j' < i → ss_sp e i j' (ss_T c) ≤ r) → J r (nI (i + 1))) →
      wX_span_14 post J (nI i) (nI c) a e (d + 1) x (nI j) := by
  intro d
  induction d with
  | zero =>
    intro j hj x hx h
    have hj' : j = i := by omega
    exact br_t (by rw [hj']; exact Int32.le_refl _) (nm_r (nI_1 i) (h x hx (Int32.le_refl _) (fun j' h1 h2 => by omega)))
  | succ d ih =>
    intro j hj x hx h
    have hji : j < i := by omega
    refine br_f (ss_hi hji (by omega)) (xx_sp hc ?_)
    refine br_c (fun g => nm_r (nI_1 j) (ih (j + 1) (by omega) x hx ?_)) (fun g => nm_r (nI_1 j) (ih (j + 1) (by omega) _ (hQ j hji) ?_))
    · intro r hr hrx hall
      refine h r hr hrx (fun j' h1 h2 => ?_)
      rcases Nat.lt_or_ge j j' with g' | g'
      · exact hall j' g' h2
      · have : j' = j := by omega
        subst this
        exact Int32.le_trans g hrx
    · intro r hr hrx hall
      refine h r hr (Int32.le_trans (ss_nle g) hrx) (fun j' h1 h2 => ?_)
      rcases Nat.lt_or_ge j j' with g' | g'
      · exact hall j' g' h2
      · have : j' = j := by omega
        subst this
        exact hrx
theorem xx_s4 {post : Int32 → Prop} {c : Nat} {a e : Nat → Int32} (hc : c ≤ 7) (Q : Int32 → Prop)
    (hQ : ∀ i j, i < c → j < c → Q (ss_sp e i j (ss_T c))) :
    ∀ d i, i + d = c → ∀ x, Q x → (∀ r, Q r → x ≤ r → (∀ i' j', i ≤ i' → i' < c → j' < i' → ss_sp e i' j' (ss_T c) ≤ r) → post r) →
      wX_span_4 post (nI c) a e (d + 1) x (nI i) := by
  intro d
  induction d with
  | zero =>
    intro i hi x hx h
    have hi' : i = c := by omega
    exact br_t (by rw [hi']; exact Int32.le_refl _) (h x hx (Int32.le_refl _) (fun i' j' h1 h2 => by omega))
  | succ d ih =>
    intro i hi x hx h
    have hic : i < c := by omega
    refine br_f (ss_hi hic hc) ⟨i + 1, xx_14 hc hic Q (fun j hj => hQ i j hic (by omega)) i 0 (by omega) x hx ?_⟩
    intro r hr hrx hall
    refine ih (i + 1) (by omega) r hr ?_
    intro r' hr' hrr hall'
    refine h r' hr' (Int32.le_trans hrx hrr) (fun i' j' h1 h2 h3 => ?_)
    rcases Nat.lt_or_ge i i' with g | g
    · exact hall' i' j' g h2 h3
    · have : i' = i := by omega
      subst this
      exact Int32.le_trans (hall j' (by omega) h3) hrr
theorem yy_18 {post : Int32 → SY → Prop} {J : Int32 → Int32 → Prop} {i c : Nat} {a m e f : Nat → Int32} (hc : c ≤ 7) (ag : ss_ag c e f) (hi : i < c) (Q : Int32 → Prop)
    (hQ : ∀ j, j < c → Q (ss_sp e i j (ss_T c))) :
    ∀ d j, j + d = c → ∀ x, Q x → (∀ r, Q r → x ≤ r → (∀ j', j ≤ j' → j' < c → ss_sp e i j' (ss_T c) ≤ r) → J r (nI (i + 1))) →
      wY_span_18 post J (nI i) (nI c) a m f (d + 1) x (nI j) := by
  intro d
  induction d with
  | zero =>
    intro j hj x hx h
    have hj' : j = c := by omega
    exact br_t (by rw [hj']; exact Int32.le_refl _) (nm_r (nI_1 i) (h x hx (Int32.le_refl _) (fun j' h1 h2 => by omega)))
  | succ d ih =>
    intro j hj x hx h
    have hjc : j < c := by omega
    refine br_f (ss_hi hjc hc) (yy_b hc ag ?_)
    refine br_c (fun g => nm_r (nI_1 j) (ih (j + 1) (by omega) x hx ?_)) (fun g => nm_r (nI_1 j) (ih (j + 1) (by omega) _ (hQ j hjc) ?_))
    · intro r hr hrx hall
      refine h r hr hrx (fun j' h1 h2 => ?_)
      rcases Nat.lt_or_ge j j' with g' | g'
      · exact hall j' g' h2
      · have : j' = j := by omega
        subst this
        exact Int32.le_trans g hrx
    · intro r hr hrx hall
      refine h r hr (Int32.le_trans (ss_nle g) hrx) (fun j' h1 h2 => ?_)
      rcases Nat.lt_or_ge j j' with g' | g'
      · exact hall j' g' h2
      · have : j' = j := by omega
        subst this
        exact hrx
theorem yy_s8 {post : Int32 → SY → Prop} {c : Nat} {a m e f : Nat → Int32} (hc : c ≤ 7) (ag : ss_ag c e f) (Q : Int32 → Prop)
    (hQ : ∀ i j, i < c → j < c → Q (ss_sp e i j (ss_T c))) :
    ∀ d i, i + d = c → ∀ x, Q x → (∀ r, Q r → x ≤ r → (∀ i' j', i ≤ i' → i' < c → j' < c → ss_sp e i' j' (ss_T c) ≤ r) → post r (nI c, a, m, f)) →
      wY_span_8 post (nI c) a m f (d + 1) x (nI i) := by
  intro d
  induction d with
  | zero =>
    intro i hi x hx h
    have hi' : i = c := by omega
    exact br_t (by rw [hi']; exact Int32.le_refl _) (h x hx (Int32.le_refl _) (fun i' j' h1 h2 => by omega))
  | succ d ih =>
    intro i hi x hx h
    have hic : i < c := by omega
    refine br_f (ss_hi hic hc) ⟨c + 1, yy_18 hc ag hic Q (fun j hj => hQ i j hic (by omega)) c 0 (by omega) x hx ?_⟩
    intro r hr hrx hall
    refine ih (i + 1) (by omega) r hr ?_
    intro r' hr' hrr hall'
    refine h r' hr' (Int32.le_trans hrx hrr) (fun i' j' h1 h2 h3 => ?_)
    rcases Nat.lt_or_ge i i' with g | g
    · exact hall' i' j' g h2 h3
    · have : i' = i := by omega
      subst this
      exact Int32.le_trans (hall j' (by omega) h3) hrr
def ss_QS (c : Nat) (e : Nat → Int32) (w : Int32) : Prop := w = 0 ∨ ∃ i j, i < c ∧ j < c ∧ w = ss_sp e i j (ss_T c)
theorem ss_QS0 {c : Nat} {e : Nat → Int32} : ss_QS c e 0 := Or.inl rfl
theorem ss_QS1 {c : Nat} {e : Nat → Int32} (i j : Nat) (hi : i < c) (hj : j < c) : ss_QS c e (ss_sp e i j (ss_T c)) := Or.inr ⟨i, j, hi, hj, rfl⟩
theorem ss_QSU {c : Nat} {e : Nat → Int32} {r r' : Int32} (h : ss_QS c e r) (h0 : 0 ≤ r') (hall : ∀ i j, i < c → j < c → ss_sp e i j (ss_T c) ≤ r') : r ≤ r' := by
  rcases h with h | ⟨i, j, hi, hj, h⟩
  · rw [h]; exact h0
  · rw [h]; exact hall i j hi hj
theorem i_vc_span {k : Nat} {u : SX} {v : SY} (I : i_Rel k u v) (hk : k + 4 ≤ 2048) : wpX_span (fun r => wpY_span (fun r' v' => r' = r ∧ i_Rel (k + 4) u v') v) u := by
  obtain ⟨c, a, e, m, f, rfl, rfl, hc, ok, hm⟩ := I
  refine ⟨c + 1, xx_s4 hc (ss_QS c e) ss_QS1 c 0 (by omega) 0 ss_QS0 (fun r hr h0 hall => ?_)⟩
  have hall2 : ∀ i j, i < c → j < c → ss_sp e i j (ss_T c) ≤ r := by
    intro i j hi hj
    rcases Nat.lt_trichotomy i j with g | g | g
    · rw [ss_spS]; exact hall j i (by omega) hj g
    · subst g; rw [ss_spD]; exact h0
    · exact hall i j (by omega) hi g
  unfold wpY_span; dsimp only
  refine yy_w hc ok hm (fun f' ag => ⟨c + 1, yy_s8 hc ag (ss_QS c e) ss_QS1 c 0 (by omega) 0 ss_QS0 (fun r' hr' h0' hall' => ⟨?_, ss_mk hc ok hm⟩)⟩)
  exact Int32.le_antisymm (ss_QSU hr' h0 hall2) (ss_QSU hr h0' (fun i j hi hj => hall' i j (by omega) hi hj))
end
section
def ss_lv (x y z : Int32) : Prop := (x = y ∧ z ≤ x) ∨ (x = z ∧ y ≤ x) ∨ (y = z ∧ x ≤ y)
theorem ss_lv1 {x y z : Int32} (h : ss_lv x y z) : ss_lv x z y := by
  rcases h with ⟨rfl, h⟩ | ⟨rfl, h⟩ | ⟨rfl, h⟩
  · exact Or.inr (Or.inl ⟨rfl, h⟩)
  · exact Or.inl ⟨rfl, h⟩
  · exact Or.inr (Or.inr ⟨rfl, h⟩)
theorem ss_lv2 {x y z : Int32} (h : ss_lv x y z) : ss_lv y x z := by
  rcases h with ⟨rfl, h⟩ | ⟨rfl, h⟩ | ⟨rfl, h⟩
  · exact Or.inl ⟨rfl, h⟩
  · exact Or.inr (Or.inr ⟨rfl, h⟩)
  · exact Or.inr (Or.inl ⟨rfl, h⟩)
theorem xx_lv {post : Int32 → Prop} {x y z : Int32} (h1 : ss_lv x y z → post 1) (h0 : ¬ ss_lv x y z → post 0) : wpX_areGreatestTwoEqual post x y z := by
  have h20 : ¬ (x = y ∧ z ≤ x) → ¬ (x = z ∧ y ≤ x) → wX_areGreatestTwoEqual_20 post x y z := fun n1 n2 =>
    br_c (fun g1 => br_c (fun g2 => h0 (fun w => by
      rcases w with w | w | w
      · exact n1 w
      · exact n2 w
      · exact absurd g2 (Int32.not_lt.mpr w.2))) (fun g2 => h1 (Or.inr (Or.inr ⟨g1, Int32.not_lt.mp g2⟩)))) (fun g1 => h0 (fun w => by
      rcases w with w | w | w
      · exact n1 w
      · exact n2 w
      · exact g1 w.1))
  have h10 : ¬ (x = y ∧ z ≤ x) → wX_areGreatestTwoEqual_10 post x y z := fun n1 =>
    br_c (fun g1 => br_c (fun g2 => h1 (Or.inr (Or.inl ⟨g1, g2⟩))) (fun g2 => h20 n1 (fun w => g2 w.2))) (fun g1 => h20 n1 (fun w => g1 w.1))
  exact br_c (fun g1 => br_c (fun g2 => h1 (Or.inl ⟨g1, g2⟩)) (fun g2 => h10 (fun w => g2 w.2))) (fun g1 => h10 (fun w => g1 w.1))
theorem yy_lv {post : Int32 → Prop} {x y z c : Int32} {a m f : Nat → Int32} (h1 : ss_lv x y z → post 1) (h0 : ¬ ss_lv x y z → post 0) : wpY_level post (c, a, m, f) x y z := by
  refine br_c (fun g1 => br_c (fun g2 => h0 ?_) (fun g2 => h1 (Or.inl ⟨g1, Int32.not_lt.mp g2⟩))) (fun g1 => br_c (fun g2 => br_c (fun g3 => h0 ?_) (fun g3 => h1 (Or.inr (Or.inl ⟨g2, Int32.not_lt.mp g3⟩)))) (fun g2 => br_c (fun g3 => br_c (fun g4 => h0 ?_) (fun g4 => h1 (Or.inr (Or.inr ⟨g3, Int32.not_lt.mp g4⟩)))) (fun g3 => h0 ?_)))
  · intro w
    rcases w with w | w | w
    · exact absurd g2 (Int32.not_lt.mpr w.2)
    · rw [← w.1] at g2; exact Int32.lt_irrefl g2
    · rw [← w.1, g1] at g2; exact Int32.lt_irrefl g2
  · intro w
    rcases w with w | w | w
    · exact g1 w.1
    · exact absurd g3 (Int32.not_lt.mpr w.2)
    · exact g1 (g2.trans w.1.symm)
  · intro w
    rcases w with w | w | w
    · exact g1 w.1
    · exact g2 w.1
    · exact absurd g4 (Int32.not_lt.mpr w.2)
  · intro w
    rcases w with w | w | w
    · exact g1 w.1
    · exact g2 w.1
    · exact g3 w.1
def ss_P (a : Nat → Int32) (i j k l : Nat) : Prop := ss_lv (a (7 * i + j) + a (7 * k + l)) (a (7 * i + k) + a (7 * j + l)) (a (7 * i + l) + a (7 * j + k))
theorem xx_t10 {post : Int32 → Prop} {J : Int32 → Prop} {i j k c : Nat} {a e : Nat → Int32} (hc : c ≤ 7) (hi : i < c) (hj : j < c) (hkc : k < c)
    (h0 : ∀ l, l ≤ k → ¬ ss_P a i j k l → post 0) (h1 : (∀ l, l ≤ k → ss_P a i j k l) → J (nI (k + 1))) :
    ∀ d l, l + d = k + 1 → (∀ l', l' < l → ss_P a i j k l') → wX_isTreelikeFrom_10 post J (nI i) (nI j) (nI k) (nI c) a e (d + 1) (nI l) := by
  intro d
  induction d with
  | zero =>
    intro l hl hp
    exact br_t (nI_lt (by omega) (by omega)) (nm_r (nI_1 k) (h1 (fun l' h' => hp l' (by omega))))
  | succ d ih =>
    intro l hl hp
    refine br_f (nI_nlt (by omega) (by omega)) ?_
    refine xx_btw (by omega) (by omega) (xx_btw (by omega) (by omega) (nm_e (xx_btw (by omega) (by omega) (xx_btw (by omega) (by omega) (nm_e (xx_btw (by omega) (by omega) (xx_btw (by omega) (by omega) (nm_e ?_))))))))
    refine xx_lv (fun g => br_f ss_10 (nm_r (nI_1 l) (ih (l + 1) (by omega) ?_))) (fun g => br_t rfl (h0 l (by omega) g))
    intro l' h'
    rcases Nat.lt_or_ge l' l with g' | g'
    · exact hp l' g'
    · have : l' = l := by omega
      subst this
      exact g
theorem xx_t2 {post : Int32 → Prop} {i j c : Nat} {a e : Nat → Int32} (hc : c ≤ 7) (hi : i < c) (hj : j < c)
    (h0 : ∀ k l, k ≤ j → l ≤ k → ¬ ss_P a i j k l → post 0) (h1 : (∀ k l, k ≤ j → l ≤ k → ss_P a i j k l) → post 1) :
    ∀ d k, k + d = j + 1 → (∀ k' l, k' < k → l ≤ k' → ss_P a i j k' l) → wX_isTreelikeFrom_2 post (nI i) (nI j) (nI c) a e (d + 1) (nI k) := by
  intro d
  induction d with
  | zero =>
    intro k hk hp
    exact br_t (nI_lt (by omega) (by omega)) (h1 (fun k' l h' => hp k' l (by omega)))
  | succ d ih =>
    intro k hk hp
    refine br_f (nI_nlt (by omega) (by omega)) ⟨k + 1 + 1, ?_⟩
    refine xx_t10 hc hi hj (by omega) (fun l hl => h0 k l (by omega) hl) (fun g => ih (k + 1) (by omega) ?_) (k + 1) 0 (by omega) (fun l' h' => by omega)
    intro k' l h' hl
    rcases Nat.lt_or_ge k' k with g' | g'
    · exact hp k' l g' hl
    · have : k' = k := by omega
      subst this
      exact g l hl
theorem xx_tf {post : Int32 → Prop} {i j c : Nat} {a e : Nat → Int32} (hc : c ≤ 7) (hi : i < c) (hj : j < c)
    (h0 : ∀ k l, k ≤ j → l ≤ k → ¬ ss_P a i j k l → post 0) (h1 : (∀ k l, k ≤ j → l ≤ k → ss_P a i j k l) → post 1) : wpX_isTreelikeFrom post (nI c, a, e) (nI i) (nI j) :=
  ⟨j + 1 + 1, xx_t2 hc hi hj h0 h1 (j + 1) 0 (by omega) (fun k' l h' => by omega)⟩
theorem xx_t12 {post : Int32 → Prop} {J : Int32 → Prop} {i c : Nat} {a e : Nat → Int32} (hc : c ≤ 7) (hi : i < c)
    (h0 : ∀ j k l, j ≤ i → k ≤ j → l ≤ k → ¬ ss_P a i j k l → post 0) (h1 : (∀ j k l, j ≤ i → k ≤ j → l ≤ k → ss_P a i j k l) → J (nI (i + 1))) :
    ∀ d j, j + d = i + 1 → (∀ j' k l, j' < j → k ≤ j' → l ≤ k → ss_P a i j' k l) → wX_treelike_12 post J (nI i) (nI c) a e (d + 1) (nI j) := by
  intro d
  induction d with
  | zero =>
    intro j hj hp
    exact br_t (nI_lt (by omega) (by omega)) (nm_r (nI_1 i) (h1 (fun j' k l h' => hp j' k l (by omega))))
  | succ d ih =>
    intro j hj hp
    refine br_f (nI_nlt (by omega) (by omega)) ?_
    refine xx_tf hc hi (by omega) (fun k l hk hl g => br_t rfl (h0 j k l (by omega) hk hl g)) (fun g => br_f ss_10 (nm_r (nI_1 j) (ih (j + 1) (by omega) ?_)))
    intro j' k l h' hk hl
    rcases Nat.lt_or_ge j' j with g' | g'
    · exact hp j' k l g' hk hl
    · have : j' = j := by omega
      subst this
      exact g k l hk hl
theorem xx_tl2 {post : Int32 → Prop} {c : Nat} {a e : Nat → Int32} (hc : c ≤ 7)
    (h0 : ∀ i j k l, i < c → j ≤ i → k ≤ j → l ≤ k → ¬ ss_P a i j k l → post 0) (h1 : (∀ i j k l, i < c → j ≤ i → k ≤ j → l ≤ k → ss_P a i j k l) → post 1) :
    ∀ d i, i + d = c → (∀ i' j k l, i' < i → j ≤ i' → k ≤ j → l ≤ k → ss_P a i' j k l) → wX_treelike_2 post (nI c) a e (d + 1) (nI i) := by
  intro d
  induction d with
  | zero =>
    intro i hi hp
    have hi' : i = c := by omega
    exact br_t (by rw [hi']; exact Int32.le_refl _) (h1 (fun i' j k l h' => hp i' j k l (by omega)))
  | succ d ih =>
    intro i hi hp
    have hic : i < c := by omega
    refine br_f (ss_hi hic hc) ⟨i + 1 + 1, ?_⟩
    refine xx_t12 hc hic (fun j k l hj => h0 i j k l hic hj) (fun g => ih (i + 1) (by omega) ?_) (i + 1) 0 (by omega) (fun j' k l h' => by omega)
    intro i' j k l h' hj hk hl
    rcases Nat.lt_or_ge i' i with g' | g'
    · exact hp i' j k l g' hj hk hl
    · have : i' = i := by omega
      subst this
      exact g j k l hj hk hl
theorem yy_f13 {post : Int32 → Prop} {J : Int32 → Prop} {i j k c : Nat} {a m f : Nat → Int32} (hc : c ≤ 7) (hi : i < c) (hj : j < c) (hkc : k < c)
    (h0 : ∀ l, l < c → ¬ ss_P a i j k l → post 0) (h1 : (∀ l, l < c → ss_P a i j k l) → J (nI (k + 1))) :
    ∀ d l, l + d = c → (∀ l', l' < l → ss_P a i j k l') → wY_fits_13 post J (nI i) (nI j) (nI k) (nI c) a m f (d + 1) (nI l) := by
  intro d
  induction d with
  | zero =>
    intro l hl hp
    have hl' : l = c := by omega
    exact br_t (by rw [hl']; exact Int32.le_refl _) (nm_r (nI_1 k) (h1 (fun l' h' => hp l' (by omega))))
  | succ d ih =>
    intro l hl hp
    have hlc : l < c := by omega
    refine br_f (ss_hi hlc hc) ?_
    refine ⟨ss_inY (by omega) (by omega), ss_inY (by omega) (by omega), nm_r (e' := a (7 * i + j) + a (7 * k + l)) (by rw [ss_clY (by omega) (by omega), ss_clY (by omega) (by omega)]) ?_⟩
    refine ⟨ss_inY (by omega) (by omega), ss_inY (by omega) (by omega), nm_r (e' := a (7 * i + k) + a (7 * j + l)) (by rw [ss_clY (by omega) (by omega), ss_clY (by omega) (by omega)]) ?_⟩
    refine ⟨ss_inY (by omega) (by omega), ss_inY (by omega) (by omega), nm_r (e' := a (7 * i + l) + a (7 * j + k)) (by rw [ss_clY (by omega) (by omega), ss_clY (by omega) (by omega)]) ?_⟩
    refine yy_lv (fun g => br_f ss_10 (nm_r (nI_1 l) (ih (l + 1) (by omega) ?_))) (fun g => br_t rfl (h0 l (by omega) g))
    intro l' h'
    rcases Nat.lt_or_ge l' l with g' | g'
    · exact hp l' g'
    · have : l' = l := by omega
      subst this
      exact g
theorem yy_f2 {post : Int32 → Prop} {i j c : Nat} {a m f : Nat → Int32} (hc : c ≤ 7) (hi : i < c) (hj : j < c)
    (h0 : ∀ k l, k < c → l < c → ¬ ss_P a i j k l → post 0) (h1 : (∀ k l, k < c → l < c → ss_P a i j k l) → post 1) :
    ∀ d k, k + d = c → (∀ k' l, k' < k → l < c → ss_P a i j k' l) → wY_fits_2 post (nI i) (nI j) (nI c) a m f (d + 1) (nI k) := by
  intro d
  induction d with
  | zero =>
    intro k hk hp
    have hk' : k = c := by omega
    exact br_t (by rw [hk']; exact Int32.le_refl _) (h1 (fun k' l h' => hp k' l (by omega)))
  | succ d ih =>
    intro k hk hp
    have hkc : k < c := by omega
    refine br_f (ss_hi hkc hc) ⟨c + 1, ?_⟩
    refine yy_f13 hc hi hj hkc (fun l hl => h0 k l hkc hl) (fun g => ih (k + 1) (by omega) ?_) c 0 (by omega) (fun l' h' => by omega)
    intro k' l h' hl
    rcases Nat.lt_or_ge k' k with g' | g'
    · exact hp k' l g' hl
    · have : k' = k := by omega
      subst this
      exact g l hl
theorem yy_t12 {post : Int32 → Prop} {J : Int32 → Prop} {i c : Nat} {a m f : Nat → Int32} (hc : c ≤ 7) (hi : i < c)
    (h0 : ∀ j k l, j < c → k < c → l < c → ¬ ss_P a i j k l → post 0) (h1 : (∀ j k l, j < c → k < c → l < c → ss_P a i j k l) → J (nI (i + 1))) :
    ∀ d j, j + d = c → (∀ j' k l, j' < j → k < c → l < c → ss_P a i j' k l) → wY_treelike_12 post J (nI i) (nI c) a m f (d + 1) (nI j) := by
  intro d
  induction d with
  | zero =>
    intro j hj hp
    have hj' : j = c := by omega
    exact br_t (by rw [hj']; exact Int32.le_refl _) (nm_r (nI_1 i) (h1 (fun j' k l h' => hp j' k l (by omega))))
  | succ d ih =>
    intro j hj hp
    have hjc : j < c := by omega
    refine br_f (ss_hi hjc hc) ⟨c + 1, ?_⟩
    refine yy_f2 hc hi hjc (fun k l hk hl g => br_t rfl (h0 j k l hjc hk hl g)) (fun g => br_f ss_10 (nm_r (nI_1 j) (ih (j + 1) (by omega) ?_))) c 0 (by omega) (fun k' l h' => by omega)
    intro j' k l h' hk hl
    rcases Nat.lt_or_ge j' j with g' | g'
    · exact hp j' k l g' hk hl
    · have : j' = j := by omega
      subst this
      exact g k l hk hl
theorem yy_tl2 {post : Int32 → Prop} {c : Nat} {a m f : Nat → Int32} (hc : c ≤ 7)
    (h0 : ∀ i j k l, i < c → j < c → k < c → l < c → ¬ ss_P a i j k l → post 0) (h1 : (∀ i j k l, i < c → j < c → k < c → l < c → ss_P a i j k l) → post 1) :
    ∀ d i, i + d = c → (∀ i' j k l, i' < i → j < c → k < c → l < c → ss_P a i' j k l) → wY_treelike_2 post (nI c) a m f (d + 1) (nI i) := by
  intro d
  induction d with
  | zero =>
    intro i hi hp
    have hi' : i = c := by omega
    exact br_t (by rw [hi']; exact Int32.le_refl _) (h1 (fun i' j k l h' => hp i' j k l (by omega)))
  | succ d ih =>
    intro i hi hp
    have hic : i < c := by omega
    refine br_f (ss_hi hic hc) ⟨c + 1, ?_⟩
    refine yy_t12 hc hic (fun j k l hj => h0 i j k l hic hj) (fun g => ih (i + 1) (by omega) ?_) c 0 (by omega) (fun j' k l h' => by omega)
    intro i' j k l h' hj hk hl
    rcases Nat.lt_or_ge i' i with g' | g'
    · exact hp i' j k l g' hj hk hl
    · have : i' = i := by omega
      subst this
      exact g j k l hj hk hl
theorem ss_P12 {a : Nat → Int32} (ok : ss_ok a) {i j k l : Nat} (hi : i < 7) (hj : j < 7) (hk : k < 7) (hl : l < 7) (h : ss_P a j i k l) : ss_P a i j k l := by
  have h' := ss_lv1 h
  unfold ss_P
  rw [ok.1 i j hi hj, Int32.add_comm (a (7 * i + k)), Int32.add_comm (a (7 * i + l))]
  exact h'
theorem ss_P23 {a : Nat → Int32} (ok : ss_ok a) {i j k l : Nat} (hi : i < 7) (hj : j < 7) (hk : k < 7) (hl : l < 7) (h : ss_P a i k j l) : ss_P a i j k l := by
  have h' := ss_lv2 h
  unfold ss_P
  rw [ok.1 j k hj hk]
  exact h'
theorem ss_P34 {a : Nat → Int32} (ok : ss_ok a) {i j k l : Nat} (hi : i < 7) (hj : j < 7) (hk : k < 7) (hl : l < 7) (h : ss_P a i j l k) : ss_P a i j k l := by
  have h' := ss_lv1 h
  unfold ss_P
  rw [ok.1 k l hk hl]
  exact h'
theorem ss_Pall {a : Nat → Int32} (ok : ss_ok a) {c : Nat} (hc : c ≤ 7) (H : ∀ i j k l, i < c → j ≤ i → k ≤ j → l ≤ k → ss_P a i j k l) : ∀ i j k l, i < c → j < c → k < c → l < c → ss_P a i j k l := by
  have H1 : ∀ i j k l, i < c → j ≤ i → k ≤ j → l < c → ss_P a i j k l := by
    intro i j k l hi hj hk hl
    rcases Nat.le_total l k with g | g
    · exact H i j k l hi hj hk g
    · refine ss_P34 ok (by omega) (by omega) (by omega) (by omega) ?_
      rcases Nat.le_total l j with g2 | g2
      · exact H i j l k hi hj g2 g
      · refine ss_P23 ok (by omega) (by omega) (by omega) (by omega) ?_
        rcases Nat.le_total l i with g3 | g3
        · exact H i l j k hi g3 g2 hk
        · refine ss_P12 ok (by omega) (by omega) (by omega) (by omega) ?_
          exact H l i j k hl g3 hj hk
  have H2 : ∀ i j k l, i < c → j ≤ i → k < c → l < c → ss_P a i j k l := by
    intro i j k l hi hj hk hl
    rcases Nat.le_total k j with g | g
    · exact H1 i j k l hi hj g hl
    · refine ss_P23 ok (by omega) (by omega) (by omega) (by omega) ?_
      rcases Nat.le_total k i with g2 | g2
      · exact H1 i k j l hi g2 g hl
      · refine ss_P12 ok (by omega) (by omega) (by omega) (by omega) ?_
        exact H1 k i j l hk g2 hj hl
  intro i j k l hi hj hk hl
  rcases Nat.le_total j i with g | g
  · exact H2 i j k l hi g hk hl
  · refine ss_P12 ok (by omega) (by omega) (by omega) (by omega) ?_
    exact H2 j i k l hj g hk hl
theorem i_vc_treelike {k : Nat} {u : SX} {v : SY} (I : i_Rel k u v) (hk : k + 4 ≤ 2048) : wpX_treelike (fun r => wpY_treelike (fun r' => r' = r ∧ i_Rel (k + 4) u v) v) u := by
  obtain ⟨c, a, e, m, f, rfl, rfl, hc, ok, hm⟩ := I
  have J := ss_mk (k := k + 4) (m := m) (f := f) hc ok hm
  refine ⟨c + 1, xx_tl2 hc (fun i j k l hi hj hk hl n => ?_) (fun H => ?_) c 0 (by omega) (fun i' j k l h' => by omega)⟩
  · exact ⟨c + 1, yy_tl2 hc (fun _ _ _ _ _ _ _ _ _ => ⟨rfl, J⟩) (fun H => absurd (H i j k l hi (by omega) (by omega) (by omega)) n) c 0 (by omega) (fun i' j k l h' => by omega)⟩
  · exact ⟨c + 1, yy_tl2 hc (fun i j k l hi hj hk hl n => absurd (ss_Pall ok hc H i j k l hi hj hk hl) n) (fun _ => ⟨rfl, J⟩) c 0 (by omega) (fun i' j k l h' => by omega)⟩
end
section
def ss_su (f : Nat → Nat) : Nat → Nat
  | 0 => 0
  | n + 1 => ss_su f n + f n
theorem ss_suC {f g : Nat → Nat} : ∀ n, (∀ i, i < n → f i = g i) → ss_su f n = ss_su g n := by
  intro n
  induction n with
  | zero => intro _; rfl
  | succ n ih =>
    intro h
    show ss_su f n + f n = ss_su g n + g n
    rw [ih (fun i hi => h i (by omega)), h n (by omega)]
theorem ss_suA (f g : Nat → Nat) : ∀ n, ss_su (fun i => f i + g i) n = ss_su f n + ss_su g n := by
  intro n
  induction n with
  | zero => rfl
  | succ n ih =>
    show ss_su (fun i => f i + g i) n + (f n + g n) = ss_su f n + f n + (ss_su g n + g n)
    rw [ih]; omega
theorem ss_su0 : ∀ n, ss_su (fun _ => 0) n = 0 := by
  intro n
  induction n with
  | zero => rfl
  | succ n ih => exact ih
theorem ss_sq (h : Nat → Nat → Nat) : ∀ n, ss_su (fun i => ss_su (h i) n) n = ss_su (fun i => ss_su (fun j => h i j + h j i) i) n + ss_su (fun i => h i i) n := by
  intro n
  induction n with
  | zero => rfl
  | succ n ih =>
    show ss_su (fun i => ss_su (h i) n + h i n) n + (ss_su (h n) n + h n n) = ss_su (fun i => ss_su (fun j => h i j + h j i) i) n + ss_su (fun j => h n j + h j n) n + (ss_su (fun i => h i i) n + h n n)
    rw [ss_suA (fun i => ss_su (h i) n) (fun i => h i n), ih, ss_suA (h n) (fun j => h j n)]
    omega
theorem ss_cnt {g h : Nat → Nat → Nat} {n : Nat} (hg : ∀ i j, i < n → j < i → g i j = h i j + h j i) (hd : ∀ i, i < n → h i i = 0) :
    ss_su (fun i => ss_su (h i) n) n = ss_su (fun i => ss_su (g i) i) n := by
  rw [ss_sq, ss_suC (f := fun i => h i i) (g := fun _ => 0) n hd, ss_su0, Nat.add_zero]
  exact ss_suC n (fun i hi => ss_suC i (fun j hj => (hg i j hi hj).symm))
def ss_iv (a : Nat → Int32) (F : Nat → Nat → Int32) (dn : Nat → Nat → Prop) (b : Nat → Int32) : Prop :=
  (∀ q, 49 ≤ q → b q = a q) ∧ ∀ p r, p < 7 → r < 7 → (dn p r → b (7 * p + r) = F p r) ∧ (¬ dn p r → b (7 * p + r) = a (7 * p + r))
theorem ss_iv0 {a : Nat → Int32} {F : Nat → Nat → Int32} {dn : Nat → Nat → Prop} (h : ∀ p r, p < 7 → r < 7 → ¬ dn p r) : ss_iv a F dn a :=
  ⟨fun _ _ => rfl, fun p r hp hr => ⟨fun z => absurd z (h p r hp hr), fun _ => rfl⟩⟩
theorem ss_ivE {a b : Nat → Int32} {F : Nat → Nat → Int32} {dn dn' : Nat → Nat → Prop} (v : ss_iv a F dn b) (h : ∀ p r, p < 7 → r < 7 → (dn' p r ↔ dn p r)) : ss_iv a F dn' b :=
  ⟨v.1, fun p r hp hr => ⟨fun z => (v.2 p r hp hr).1 ((h p r hp hr).mp z), fun z => (v.2 p r hp hr).2 (fun w => z ((h p r hp hr).mpr w))⟩⟩
theorem ss_ivP {a b : Nat → Int32} {F : Nat → Nat → Int32} {dn dn' : Nat → Nat → Prop} {i j : Nat} {w : Int32} (v : ss_iv a F dn b) (hi : i < 7) (hj : j < 7) (h1 : F i j = w) (h2 : F j i = w)
    (h : ∀ p r, p < 7 → r < 7 → (dn' p r ↔ dn p r ∨ ((p = i ∧ r = j) ∨ (p = j ∧ r = i)))) : ss_iv a F dn' (ss_pt b i j w) := by
  refine ⟨fun q hq => ?_, fun p r hp hr => ?_⟩
  · rw [ss_ptB hi hj hq]; exact v.1 q hq
  · by_cases z : (p = i ∧ r = j) ∨ (p = j ∧ r = i)
    · rw [ss_ptT hi hj z]
      refine ⟨fun _ => ?_, fun n => absurd ((h p r hp hr).mpr (Or.inr z)) n⟩
      rcases z with ⟨rfl, rfl⟩ | ⟨rfl, rfl⟩
      · exact h1.symm
      · exact h2.symm
    · rw [ss_ptF hi hj hr z]
      refine ⟨fun n => (v.2 p r hp hr).1 (((h p r hp hr).mp n).resolve_right z), fun n => (v.2 p r hp hr).2 (fun w => n ((h p r hp hr).mpr (Or.inl w)))⟩
theorem ss_ivK {a b : Nat → Int32} {F : Nat → Nat → Int32} {dn dn' : Nat → Nat → Prop} {i j : Nat} (v : ss_iv a F dn b) (h1 : F i j = a (7 * i + j)) (h2 : F j i = a (7 * j + i))
    (h : ∀ p r, p < 7 → r < 7 → (dn' p r ↔ dn p r ∨ ((p = i ∧ r = j) ∨ (p = j ∧ r = i)))) : ss_iv a F dn' b := by
  refine ⟨v.1, fun p r hp hr => ⟨fun n => ?_, fun n => (v.2 p r hp hr).2 (fun w => n ((h p r hp hr).mpr (Or.inl w)))⟩⟩
  rcases Classical.em (dn p r) with d | d
  · exact (v.2 p r hp hr).1 d
  · rw [(v.2 p r hp hr).2 d]
    rcases ((h p r hp hr).mp n).resolve_left d with ⟨rfl, rfl⟩ | ⟨rfl, rfl⟩
    · exact h1.symm
    · exact h2.symm
def ss_fi (a : Nat → Int32) (F : Nat → Nat → Int32) (q : Nat) : Int32 := if q < 49 then F (q / 7) (q % 7) else a q
theorem ss_fiA {a : Nat → Int32} {F : Nat → Nat → Int32} {p r : Nat} (hp : p < 7) (hr : r < 7) : ss_fi a F (7 * p + r) = F p r := by
  unfold ss_fi
  rw [if_pos (by omega), show (7 * p + r) / 7 = p by omega, show (7 * p + r) % 7 = r by omega]
theorem ss_ivF {a b : Nat → Int32} {F : Nat → Nat → Int32} {dn : Nat → Nat → Prop} (v : ss_iv a F dn b) (h : ∀ p r, p < 7 → r < 7 → ¬ dn p r → F p r = a (7 * p + r)) : b = ss_fi a F := by
  funext q
  rcases Nat.lt_or_ge q 49 with g | g
  · have e : q = 7 * (q / 7) + q % 7 := by omega
    have hp : q / 7 < 7 := by omega
    have hr : q % 7 < 7 := by omega
    rw [e, ss_fiA hp hr]
    rcases Classical.em (dn (q / 7) (q % 7)) with d | d
    · exact (v.2 _ _ hp hr).1 d
    · rw [h _ _ hp hr d]; exact (v.2 _ _ hp hr).2 d
  · rw [v.1 q g]; unfold ss_fi; rw [if_neg (by omega)]
theorem ss_fiok {a : Nat → Int32} {F : Nat → Nat → Int32} (ok : ss_ok a) (hs : ∀ p r, p < 7 → r < 7 → F p r = F r p) (hd : ∀ p, p < 7 → F p p = 0) (hr : ∀ p r, p < 7 → r < 7 → ∃ n : Nat, n ≤ 60 ∧ F p r = nI n) : ss_ok (ss_fi a F) := by
  refine ⟨fun p r hp hr => ?_, fun p hp => ?_, fun q => ?_⟩
  · rw [ss_fiA hp hr, ss_fiA hr hp]; exact hs p r hp hr
  · rw [ss_fiA hp hp]; exact hd p hp
  · unfold ss_fi
    split
    · exact hr _ _ (by omega) (by omega)
    · exact ok.2.2 q
def ss_dX (i j p r : Nat) : Prop := (p < i ∧ r < i ∧ p ≠ r) ∨ (p = i ∧ r < j) ∨ (r = i ∧ p < j)
theorem ss_dX1 {i j : Nat} (hj : j < i) (p r : Nat) : ss_dX i (j + 1) p r ↔ ss_dX i j p r ∨ ((p = i ∧ r = j) ∨ (p = j ∧ r = i)) := by
  unfold ss_dX; omega
theorem ss_dX2 (i p r : Nat) : ss_dX (i + 1) 0 p r ↔ ss_dX i i p r := by
  unfold ss_dX; omega
def ss_mF (c : Nat) (a : Nat → Int32) (S D : Int32) (p r : Nat) : Int32 :=
  if p < c ∧ r < c ∧ ¬ ss_b S (nI p) = ss_b S (nI r) ∧ ss_di (a (7 * p + r) + D) then a (7 * p + r) + D else a (7 * p + r)
theorem ss_mFs {c : Nat} {a : Nat → Int32} {S D : Int32} (ok : ss_ok a) {p r : Nat} (hp : p < 7) (hr : r < 7) : ss_mF c a S D p r = ss_mF c a S D r p := by
  unfold ss_mF
  rw [ok.1 r p hr hp]
  by_cases h : p < c ∧ r < c ∧ ¬ ss_b S (nI p) = ss_b S (nI r) ∧ ss_di (a (7 * p + r) + D)
  · rw [if_pos h, if_pos ⟨h.2.1, h.1, fun z => h.2.2.1 z.symm, h.2.2.2⟩]
  · rw [if_neg h, if_neg (fun z => h ⟨z.2.1, z.1, fun y => z.2.2.1 y.symm, z.2.2.2⟩)]
theorem ss_mFok {c : Nat} {a : Nat → Int32} {S D : Int32} (ok : ss_ok a) : ss_ok (ss_fi a (ss_mF c a S D)) := by
  refine ss_fiok ok (fun p r hp hr => ss_mFs ok hp hr) (fun p hp => ?_) (fun p r hp hr => ?_)
  · unfold ss_mF
    rw [if_neg (fun z => z.2.2.1 rfl)]
    exact ok.2.1 p hp
  · unfold ss_mF
    split
    · next h => exact ss_diN h.2.2.2
    · exact ok.2.2 _
def ss_mg (a : Nat → Int32) (S D : Int32) (i j : Nat) : Nat := if ¬ ss_b S (nI i) = ss_b S (nI j) ∧ ss_di (a (7 * i + j) + D) ∧ ¬ a (7 * i + j) = a (7 * i + j) + D then 1 else 0
def ss_mh (a : Nat → Int32) (S D : Int32) (i j : Nat) : Nat := if ss_b S (nI i) = 1 ∧ ss_b S (nI j) = 0 ∧ ss_di (a (7 * i + j) + D) ∧ ¬ D = 0 then 1 else 0
theorem ss_ad (x D : Int32) : x = x + D ↔ D = 0 := by
  constructor
  · intro h; grind
  · intro h; rw [h, Int32.add_zero]
theorem ss_mgh {c : Nat} {a : Nat → Int32} {S D : Int32} (ok : ss_ok a) (hc : c ≤ 7) : ss_su (fun i => ss_su (ss_mh a S D i) c) c = ss_su (fun i => ss_su (ss_mg a S D i) i) c := by
  refine ss_cnt (fun i j hi hj => ?_) (fun i hi => ?_)
  · unfold ss_mg ss_mh
    rw [ok.1 j i (by omega) (by omega)]
    simp only [ss_ad]
    have h1 := ss_b01 S (nI i)
    have h2 := ss_b01 S (nI j)
    generalize ss_b S (nI i) = x at *
    generalize ss_b S (nI j) = y at *
    generalize a (7 * i + j) + D = w at *
    rcases h1 with rfl | rfl <;> rcases h2 with rfl | rfl <;> simp
  · unfold ss_mh
    rw [if_neg]
    intro z
    exact ss_b00 z.2.1 z.1
end
section
theorem ss_mg1 {a : Nat → Int32} {S D : Int32} {i j : Nat} (h : ¬ ss_b S (nI i) = ss_b S (nI j) ∧ ss_di (a (7 * i + j) + D) ∧ ¬ a (7 * i + j) = a (7 * i + j) + D) : ss_su (ss_mg a S D i) (j + 1) = ss_su (ss_mg a S D i) j + 1 := by
  show _ + ss_mg a S D i j = _
  unfold ss_mg; rw [if_pos h]
theorem ss_mg0 {a : Nat → Int32} {S D : Int32} {i j : Nat} (h : ¬ (¬ ss_b S (nI i) = ss_b S (nI j) ∧ ss_di (a (7 * i + j) + D) ∧ ¬ a (7 * i + j) = a (7 * i + j) + D)) : ss_su (ss_mg a S D i) j = ss_su (ss_mg a S D i) (j + 1) := by
  show _ = _ + ss_mg a S D i j
  unfold ss_mg; rw [if_neg h]; rfl
theorem ss_mh1 {a : Nat → Int32} {S D : Int32} {i j : Nat} (h : ss_b S (nI i) = 1 ∧ ss_b S (nI j) = 0 ∧ ss_di (a (7 * i + j) + D) ∧ ¬ D = 0) : ss_su (ss_mh a S D i) (j + 1) = ss_su (ss_mh a S D i) j + 1 := by
  show _ + ss_mh a S D i j = _
  unfold ss_mh; rw [if_pos h]
theorem ss_mh0 {a : Nat → Int32} {S D : Int32} {i j : Nat} (h : ¬ (ss_b S (nI i) = 1 ∧ ss_b S (nI j) = 0 ∧ ss_di (a (7 * i + j) + D) ∧ ¬ D = 0)) : ss_su (ss_mh a S D i) j = ss_su (ss_mh a S D i) (j + 1) := by
  show _ = _ + ss_mh a S D i j
  unfold ss_mh; rw [if_neg h]; rfl
theorem ss_mFn {c : Nat} {a : Nat → Int32} {S D : Int32} {p r : Nat} (h : ¬ (p < c ∧ r < c ∧ ¬ ss_b S (nI p) = ss_b S (nI r) ∧ ss_di (a (7 * p + r) + D))) : ss_mF c a S D p r = a (7 * p + r) := by
  unfold ss_mF; rw [if_neg h]
theorem ss_mFp {c : Nat} {a : Nat → Int32} {S D : Int32} {p r : Nat} (h : p < c ∧ r < c ∧ ¬ ss_b S (nI p) = ss_b S (nI r) ∧ ss_di (a (7 * p + r) + D)) : ss_mF c a S D p r = a (7 * p + r) + D := by
  unfold ss_mF; rw [if_pos h]
theorem xx_m33 {post : Int32 → SX → Prop} {J : Int32 → Int32 → Int32 → (Nat → Int32) → (Nat → Int32) → Prop} {S D : Int32} {c i K : Nat} {a e : Nat → Int32} (hc : c ≤ 7) (ok : ss_ok a) (hi : i < c)
    (h : ∀ b, ss_iv a (ss_mF c a S D) (ss_dX i i) b → J (nI (K + ss_su (ss_mg a S D i) i)) (nI (i + 1)) (nI c) b e) :
    ∀ d j, j + d = i → ∀ b, ss_iv a (ss_mF c a S D) (ss_dX i j) b → wX_move_33 post J S D (nI i) (d + 1) (nI (K + ss_su (ss_mg a S D i) j)) (nI j) (nI c) b e := by
  intro d
  induction d with
  | zero =>
    intro j hj b v
    have hj' : j = i := by omega
    subst hj'
    exact br_t (Int32.le_refl _) (nm_r (nI_1 j) (h b v))
  | succ d ih =>
    intro j hj b v
    have hji : j < i := by omega
    have hb : b (7 * i + j) = a (7 * i + j) := (v.2 i j (by omega) (by omega)).2 (by unfold ss_dX; omega)
    have hs := ok.1 i j (by omega) (by omega)
    refine br_f (ss_hi hji (by omega)) (xx_btw (by omega) (by omega) (nm_r (e' := a (7 * i + j) + D) (by rw [hb]) ?_))
    refine xx_parts (fun y => br_t rfl (nm_r (nI_1 j) ?_)) (fun y => br_f ss_10 (xx_chg (by omega) (by omega) (fun z => br_t rfl (nm_r (nI_1 j) ?_)) (fun z1 z2 => br_f ss_10 (nm_r (nI_1 _) (nm_r (nI_1 j) ?_)))))
    · rw [ss_mg0 (fun w => w.1 y)]
      refine ih (j + 1) (by omega) b (ss_ivK (i := i) (j := j) v (ss_mFn (fun w => w.2.2.1 y)) (ss_mFn (fun w => w.2.2.1 y.symm)) (fun p r _ _ => ss_dX1 hji p r))
    · rw [hb] at z
      rw [ss_mg0 (fun w => z w.2)]
      have F1 : ss_mF c a S D i j = a (7 * i + j) := by
        by_cases q : ss_di (a (7 * i + j) + D)
        · have q2 : a (7 * i + j) = a (7 * i + j) + D := Classical.byContradiction (fun n => z ⟨q, n⟩)
          rw [ss_mFp ⟨hi, by omega, y, q⟩, ← q2]
        · exact ss_mFn (fun w => q w.2.2.2)
      refine ih (j + 1) (by omega) b (ss_ivK (i := i) (j := j) v F1 (by rw [ss_mFs ok (by omega) (by omega), F1, hs]) (fun p r _ _ => ss_dX1 hji p r))
    · rw [hb] at z2
      rw [Nat.add_assoc, ← ss_mg1 ⟨y, z1, z2⟩]
      have F1 : ss_mF c a S D i j = a (7 * i + j) + D := ss_mFp ⟨hi, by omega, y, z1⟩
      exact ih (j + 1) (by omega) _ (ss_ivP v (by omega) (by omega) F1 (by rw [ss_mFs ok (by omega) (by omega), F1]) (fun p r _ _ => ss_dX1 hji p r))
theorem xx_m21 {post : Int32 → SX → Prop} {S D : Int32} {c : Nat} {a e : Nat → Int32} (hc : c ≤ 7) (ok : ss_ok a)
    (h : ∀ e', ss_ms c (ss_fi a (ss_mF c a S D)) e' → post (nI (ss_su (fun i => ss_su (ss_mg a S D i) i) c)) (nI c, ss_fi a (ss_mF c a S D), e')) :
    ∀ d i, i + d = c → ∀ b, ss_iv a (ss_mF c a S D) (ss_dX i 0) b → wX_move_21 post S D (d + 1) (nI (ss_su (fun i => ss_su (ss_mg a S D i) i) i)) (nI i) (nI c) b e := by
  intro d
  induction d with
  | zero =>
    intro i hi b v
    have hi' : i = c := by omega
    subst hi'
    have hb : b = ss_fi a (ss_mF i a S D) := ss_ivF v (fun p r hp hr n => ss_mFn (fun w => n (by
      have : p ≠ r := fun z => w.2.2.1 (by rw [z])
      unfold ss_dX; omega)))
    subst hb
    exact br_t (Int32.le_refl _) (xx_ms hc (ss_mFok ok) h)
  | succ d ih =>
    intro i hi b v
    have hic : i < c := by omega
    refine br_f (ss_hi hic hc) ⟨i + 1, xx_m33 (K := ss_su (fun i => ss_su (ss_mg a S D i) i) i) hc ok hic (fun b' v' => ?_) i 0 (by omega) b v⟩
    exact ih (i + 1) (by omega) b' (ss_ivE v' (fun p r _ _ => ss_dX2 i p r))
def ss_vi (c i j p r : Nat) : Prop := r < c ∧ (p < i ∨ (p = i ∧ r < j))
def ss_dY (c : Nat) (S : Int32) (i j p r : Nat) : Prop := (ss_b S (nI p) = 1 ∧ ss_b S (nI r) = 0 ∧ ss_vi c i j p r) ∨ (ss_b S (nI r) = 1 ∧ ss_b S (nI p) = 0 ∧ ss_vi c i j r p)
theorem ss_vi1 {c i j : Nat} (hj : j < c) (p r : Nat) : ss_vi c i (j + 1) p r ↔ ss_vi c i j p r ∨ (p = i ∧ r = j) := by
  unfold ss_vi; omega
theorem ss_vi2 (c i p r : Nat) : ss_vi c (i + 1) 0 p r ↔ ss_vi c i c p r := by
  unfold ss_vi; omega
theorem ss_dY1 {c i j : Nat} {S : Int32} (hj : j < c) (h1 : ss_b S (nI i) = 1) (h0 : ss_b S (nI j) = 0) (p r : Nat) : ss_dY c S i (j + 1) p r ↔ ss_dY c S i j p r ∨ ((p = i ∧ r = j) ∨ (p = j ∧ r = i)) := by
  unfold ss_dY
  rw [ss_vi1 hj p r, ss_vi1 hj r p]
  constructor
  · rintro (⟨x1, x2, x3 | ⟨x3, x4⟩⟩ | ⟨x1, x2, x3 | ⟨x3, x4⟩⟩)
    · exact Or.inl (Or.inl ⟨x1, x2, x3⟩)
    · exact Or.inr (Or.inl ⟨x3, x4⟩)
    · exact Or.inl (Or.inr ⟨x1, x2, x3⟩)
    · exact Or.inr (Or.inr ⟨x4, x3⟩)
  · rintro ((⟨x1, x2, x3⟩ | ⟨x1, x2, x3⟩) | (⟨rfl, rfl⟩ | ⟨rfl, rfl⟩))
    · exact Or.inl ⟨x1, x2, Or.inl x3⟩
    · exact Or.inr ⟨x1, x2, Or.inl x3⟩
    · exact Or.inl ⟨h1, h0, Or.inr ⟨rfl, rfl⟩⟩
    · exact Or.inr ⟨h1, h0, Or.inr ⟨rfl, rfl⟩⟩
theorem ss_dY0 {c i j : Nat} {S : Int32} (hj : j < c) (h : ¬ (ss_b S (nI i) = 1 ∧ ss_b S (nI j) = 0)) (p r : Nat) : ss_dY c S i (j + 1) p r ↔ ss_dY c S i j p r := by
  unfold ss_dY
  rw [ss_vi1 hj p r, ss_vi1 hj r p]
  constructor
  · rintro (⟨x1, x2, x3 | ⟨rfl, rfl⟩⟩ | ⟨x1, x2, x3 | ⟨rfl, rfl⟩⟩)
    · exact Or.inl ⟨x1, x2, x3⟩
    · exact absurd ⟨x1, x2⟩ h
    · exact Or.inr ⟨x1, x2, x3⟩
    · exact absurd ⟨x1, x2⟩ h
  · rintro (⟨x1, x2, x3⟩ | ⟨x1, x2, x3⟩)
    · exact Or.inl ⟨x1, x2, Or.inl x3⟩
    · exact Or.inr ⟨x1, x2, Or.inl x3⟩
theorem ss_dY2 (c i : Nat) (S : Int32) (p r : Nat) : ss_dY c S (i + 1) 0 p r ↔ ss_dY c S i c p r := by
  unfold ss_dY
  rw [ss_vi2, ss_vi2]
theorem yy_m33 {post : Int32 → SY → Prop} {J : Int32 → Int32 → Int32 → (Nat → Int32) → (Nat → Int32) → (Nat → Int32) → Prop} {S D : Int32} {c i K : Nat} {a m f : Nat → Int32} (hc : c ≤ 7) (ok : ss_ok a) (hi : i < c)
    (h : ∀ b, ss_iv a (ss_mF c a S D) (ss_dY c S i c) b → J (nI (K + ss_su (ss_mh a S D i) c)) (nI (i + 1)) (nI c) b m f) :
    ∀ d j, j + d = c → ∀ b, ss_iv a (ss_mF c a S D) (ss_dY c S i j) b → wY_move_33 post J S D (nI i) (d + 1) (nI (K + ss_su (ss_mh a S D i) j)) (nI j) (nI c) b m f := by
  intro d
  induction d with
  | zero =>
    intro j hj b v
    have hj' : j = c := by omega
    subst hj'
    exact br_t (Int32.le_refl _) (nm_r (nI_1 i) (h b v))
  | succ d ih =>
    intro j hj b v
    have hjc : j < c := by omega
    have hs := ok.1 i j (by omega) (by omega)
    have skip : ¬ (ss_b S (nI i) = 1 ∧ ss_b S (nI j) = 0) → wY_move_33 post J S D (nI i) (d + 1) (nI (K + ss_su (ss_mh a S D i) j)) (nI (j + 1)) (nI c) b m f := by
      intro n
      rw [ss_mh0 (fun w => n ⟨w.1, w.2.1⟩)]
      exact ih (j + 1) (by omega) b (ss_ivE v (fun p r _ _ => ss_dY0 hjc n p r))
    by_cases b1 : ss_b S (nI i) = 1
    · by_cases b0 : ss_b S (nI j) = 0
      · have bn : ¬ ss_b S (nI i) = ss_b S (nI j) := by rw [b1, b0]; exact ss_10
        have hb : b (7 * i + j) = a (7 * i + j) := (v.2 i j (by omega) (by omega)).2 (by
          rintro (⟨x1, x2, x3⟩ | ⟨x1, x2, x3⟩)
          · unfold ss_vi at x3; omega
          · exact ss_b00 b0 x1)
        have keep : ss_mF c a S D i j = a (7 * i + j) → ¬ (ss_b S (nI i) = 1 ∧ ss_b S (nI j) = 0 ∧ ss_di (a (7 * i + j) + D) ∧ ¬ D = 0) → wY_move_33 post J S D (nI i) (d + 1) (nI (K + ss_su (ss_mh a S D i) j)) (nI (j + 1)) (nI c) b m f := by
          intro F1 n
          rw [ss_mh0 n]
          exact ih (j + 1) (by omega) b (ss_ivK (i := i) (j := j) v F1 (by rw [ss_mFs ok (by omega) (by omega), F1, hs]) (fun p r _ _ => ss_dY1 hjc b1 b0 p r))
        refine br_f (ss_hi hjc hc) ⟨ss_inY (by omega) (by omega), nm_r (e' := a (7 * i + j) + D) (by rw [ss_clY (by omega) (by omega), hb]) ?_⟩
        refine br_t b1 (br_t b0 (br_c (fun g1 => nm_r (nI_1 j) ?_) (fun g1 => br_c (fun g2 => nm_r (nI_1 j) ?_) (fun g2 => br_c (fun g3 => nm_r (nI_1 j) ?_) (fun g3 => ?_)))))
        · exact keep (ss_mFn (fun w => w.2.2.2.1 g1)) (fun w => w.2.2.1.1 g1)
        · exact keep (ss_mFn (fun w => w.2.2.2.2 g2)) (fun w => w.2.2.1.2 g2)
        · refine keep ?_ (fun w => w.2.2.2 g3)
          rw [ss_mFp ⟨hi, hjc, bn, g1, g2⟩, g3, Int32.add_zero]
        · refine yy_put (by omega) (by omega) (nm_r (nI_1 _) (nm_r (nI_1 j) ?_))
          rw [Nat.add_assoc, ← ss_mh1 ⟨b1, b0, ⟨g1, g2⟩, g3⟩]
          have F1 : ss_mF c a S D i j = a (7 * i + j) + D := ss_mFp ⟨hi, hjc, bn, g1, g2⟩
          exact ih (j + 1) (by omega) _ (ss_ivP v (by omega) (by omega) F1 (by rw [ss_mFs ok (by omega) (by omega), F1]) (fun p r _ _ => ss_dY1 hjc b1 b0 p r))
      · exact br_f (ss_hi hjc hc) ⟨ss_inY (by omega) (by omega), nm_e (br_t b1 (br_f b0 (nm_r (nI_1 j) (skip (fun w => b0 w.2)))))⟩
    · exact br_f (ss_hi hjc hc) ⟨ss_inY (by omega) (by omega), nm_e (br_f b1 (nm_r (nI_1 j) (skip (fun w => b1 w.1))))⟩
theorem yy_m21 {post : Int32 → SY → Prop} {S D : Int32} {c : Nat} {a m f : Nat → Int32} (hc : c ≤ 7) (ok : ss_ok a)
    (h : post (nI (ss_su (fun i => ss_su (ss_mh a S D i) c) c)) (nI c, ss_fi a (ss_mF c a S D), m, f)) :
    ∀ d i, i + d = c → ∀ b, ss_iv a (ss_mF c a S D) (ss_dY c S i 0) b → wY_move_21 post S D (d + 1) (nI (ss_su (fun i => ss_su (ss_mh a S D i) c) i)) (nI i) (nI c) b m f := by
  intro d
  induction d with
  | zero =>
    intro i hi b v
    have hi' : i = c := by omega
    subst hi'
    have hb : b = ss_fi a (ss_mF i a S D) := ss_ivF v (fun p r hp hr n => ss_mFn (fun w => n (by
      rcases ss_b01 S (nI p) with q | q
      · rcases ss_b01 S (nI r) with q2 | q2
        · exact absurd (q.trans q2.symm) w.2.2.1
        · exact Or.inr ⟨q2, q, w.1, Or.inl w.2.1⟩
      · rcases ss_b01 S (nI r) with q2 | q2
        · exact Or.inl ⟨q, q2, w.2.1, Or.inl w.1⟩
        · exact absurd (q.trans q2.symm) w.2.2.1)))
    subst hb
    exact br_t (Int32.le_refl _) h
  | succ d ih =>
    intro i hi b v
    have hic : i < c := by omega
    refine br_f (ss_hi hic hc) ⟨c + 1, yy_m33 (K := ss_su (fun i => ss_su (ss_mh a S D i) c) i) hc ok hic (fun b' v' => ?_) c 0 (by omega) b v⟩
    exact ih (i + 1) (by omega) b' (ss_ivE v' (fun p r _ _ => ss_dY2 c i S p r))
theorem i_vc_move {k : Nat} {u : SX} {v : SY} (I : i_Rel k u v) (hk : k + 4 ≤ 2048) (v1 : Int32) (v2 : Int32) : wpX_move (fun r u' => wpY_move (fun r' v' => r' = r ∧ i_Rel (k + 4) u' v') v v1 v2) u v1 v2 := by
  obtain ⟨c, a, e, m, f, rfl, rfl, hc, ok, hm⟩ := I
  have J := ss_mk (k := k + 4) (m := m) (f := f) hc ok hm
  refine br_c (fun g1 => br_t g1 ⟨rfl, J⟩) (fun g1 => br_c (fun g2 => ?_) (fun g2 => br_f g1 (br_f g2 ⟨rfl, J⟩)))
  refine ⟨c + 1, xx_m21 hc ok (fun e' he => br_f g1 (br_t g2 ⟨c + 1, yy_m21 hc ok ?_ c 0 (by omega) a (ss_iv0 (fun p r _ _ => ?_))⟩)) c 0 (by omega) a (ss_iv0 (fun p r _ _ => ?_))⟩
  · unfold ss_dX; omega
  · exact ⟨congrArg nI (ss_mgh ok hc), ss_mk hc (ss_mFok ok) he⟩
  · rintro (⟨_, _, x⟩ | ⟨_, _, x⟩) <;> (unfold ss_vi at x; omega)
end
section
theorem ss_eb {c t : Nat} {a e : Nat → Int32} (hc : c ≤ 7) (ok : ss_ok a) (hm : ss_ms c a e) (ht : t < ss_T c) : e (2 * t + 1) ≤ 120 := by
  obtain ⟨z1, b, hb, z2⟩ := ss_two c hc t ht
  have h0 := ss_T0 c hc t ht
  have h4 : ss_in4 c (nI (2 * t + 1)) 0 0 b b := ⟨h0, h0, hb, hb, z1, z1, z2, z2⟩
  obtain ⟨n, hn, q⟩ := ss_vd ok (p := 0) (b := b) (by omega) (by omega)
  have h5 := (hm t ht).2 _ _ _ _ h4
  rw [q] at h5
  exact Int32.le_trans h5 (nI_le (b := 120) hn (by decide))
theorem ss_spN {c : Nat} {a e : Nat → Int32} (hc : c ≤ 7) (ok : ss_ok a) (hm : ss_ms c a e) (i j : Nat) : ∀ t, t ≤ ss_T c → ∃ n : Nat, n ≤ 120 * t ∧ ss_sp e i j t = nI n := by
  intro t
  induction t with
  | zero => intro _; exact ⟨0, by omega, rfl⟩
  | succ t ih =>
    intro ht
    obtain ⟨n, hn, q⟩ := ih (by omega)
    rw [ss_sp.eq_2]
    split
    · exact ⟨n, by omega, q⟩
    · next h =>
      split
      · exact ⟨n, by omega, q⟩
      · obtain ⟨k, hk, q2⟩ := nI_of2 (x := e (2 * t + 1)) (M := 120) (n := 120) (by decide) (fun z => h (Int32.le_of_lt z)) (ss_eb hc ok hm (by omega))
        exact ⟨n + k, by omega, by rw [q, q2, nI_add]⟩
def ss_hv (c : Nat) (e : Nat → Int32) (i j : Nat) : Int32 := if ss_sp e i j (ss_T c) / 2 ≤ 60 then ss_sp e i j (ss_T c) / 2 else 60
theorem ss_hvN {c : Nat} {a e : Nat → Int32} (hc : c ≤ 7) (ok : ss_ok a) (hm : ss_ms c a e) (i j : Nat) : ∃ n : Nat, n ≤ 60 ∧ ss_hv c e i j = nI n := by
  obtain ⟨n, hn, q⟩ := ss_spN hc ok hm i j (ss_T c) (Nat.le_refl _)
  have hT := (ss_TT c hc).1
  have q2 : ss_sp e i j (ss_T c) / 2 = nI (n / 2) := by
    rw [q]; exact pk_div (d := 2) (by omega) (by omega) (by omega)
  unfold ss_hv
  rw [q2]
  split
  · next h =>
    rw [show (60 : Int32) = nI 60 from rfl, nI_leI (by omega) (by omega)] at h
    exact ⟨n / 2, h, rfl⟩
  · exact ⟨60, by omega, rfl⟩
theorem ss_hvD {c : Nat} {a e : Nat → Int32} (hc : c ≤ 7) (ok : ss_ok a) (hm : ss_ms c a e) (i j : Nat) : ss_di (ss_hv c e i j) := by
  obtain ⟨n, hn, q⟩ := ss_hvN hc ok hm i j
  rw [q]
  exact ⟨nI_pos (by omega), nI_nlt (a := 60) hn (by decide)⟩
theorem ss_hvS (c : Nat) (e : Nat → Int32) (i j : Nat) : ss_hv c e i j = ss_hv c e j i := by
  unfold ss_hv; rw [ss_spS]
theorem ss_hv0 (c : Nat) (e : Nat → Int32) (i : Nat) : ss_hv c e i i = 0 := by
  unfold ss_hv; rw [ss_spD]; decide
def ss_hF (c : Nat) (a e : Nat → Int32) (p r : Nat) : Int32 := if p < c ∧ r < c then ss_hv c e p r else a (7 * p + r)
theorem ss_hFp {c : Nat} {a e : Nat → Int32} {p r : Nat} (hp : p < c) (hr : r < c) : ss_hF c a e p r = ss_hv c e p r := by
  unfold ss_hF; rw [if_pos ⟨hp, hr⟩]
theorem ss_hFn {c : Nat} {a e : Nat → Int32} {p r : Nat} (h : ¬ (p < c ∧ r < c)) : ss_hF c a e p r = a (7 * p + r) := by
  unfold ss_hF; rw [if_neg h]
theorem ss_hFs {c : Nat} {a e : Nat → Int32} (ok : ss_ok a) {p r : Nat} (hp : p < 7) (hr : r < 7) : ss_hF c a e p r = ss_hF c a e r p := by
  by_cases h : p < c ∧ r < c
  · rw [ss_hFp h.1 h.2, ss_hFp h.2 h.1, ss_hvS]
  · rw [ss_hFn h, ss_hFn (fun z => h ⟨z.2, z.1⟩), ok.1 p r hp hr]
theorem ss_hFd {c : Nat} {a e : Nat → Int32} (ok : ss_ok a) {p : Nat} (hp : p < 7) : ss_hF c a e p p = a (7 * p + p) := by
  by_cases h : p < c ∧ p < c
  · rw [ss_hFp h.1 h.2, ss_hv0, ok.2.1 p hp]
  · rw [ss_hFn h]
theorem ss_hFok {c : Nat} {a e : Nat → Int32} (hc : c ≤ 7) (ok : ss_ok a) (hm : ss_ms c a e) : ss_ok (ss_fi a (ss_hF c a e)) := by
  refine ss_fiok ok (fun p r hp hr => ss_hFs ok hp hr) (fun p hp => ?_) (fun p r hp hr => ?_)
  · rw [ss_hFd ok hp, ok.2.1 p hp]
  · unfold ss_hF
    split
    · exact ss_hvN hc ok hm p r
    · exact ok.2.2 _
def ss_hg (c : Nat) (a e : Nat → Int32) (i j : Nat) : Nat := if ¬ a (7 * i + j) = ss_hv c e i j then 1 else 0
def ss_hh (c : Nat) (a e : Nat → Int32) (i j : Nat) : Nat := if i < j ∧ ¬ ss_hv c e i j = a (7 * i + j) then 1 else 0
theorem ss_hgh {c : Nat} {a e : Nat → Int32} (ok : ss_ok a) (hc : c ≤ 7) : ss_su (fun i => ss_su (ss_hh c a e i) c) c = ss_su (fun i => ss_su (ss_hg c a e i) i) c := by
  refine ss_cnt (fun i j hi hj => ?_) (fun i hi => ?_)
  · unfold ss_hg ss_hh
    rw [if_neg (c := i < j ∧ _) (fun z => by omega), Nat.zero_add, ok.1 j i (by omega) (by omega), ss_hvS c e j i]
    by_cases h : a (7 * i + j) = ss_hv c e i j
    · rw [if_neg (fun z => z h), if_neg (fun z => z.2 h.symm)]
    · rw [if_pos h, if_pos ⟨hj, fun z => h z.symm⟩]
  · unfold ss_hh
    rw [if_neg (fun z => by omega)]
theorem ss_hg1 {c : Nat} {a e : Nat → Int32} {i j : Nat} (h : ¬ a (7 * i + j) = ss_hv c e i j) : ss_su (ss_hg c a e i) (j + 1) = ss_su (ss_hg c a e i) j + 1 := by
  show _ + ss_hg c a e i j = _
  unfold ss_hg; rw [if_pos h]
theorem ss_hg0 {c : Nat} {a e : Nat → Int32} {i j : Nat} (h : a (7 * i + j) = ss_hv c e i j) : ss_su (ss_hg c a e i) j = ss_su (ss_hg c a e i) (j + 1) := by
  show _ = _ + ss_hg c a e i j
  unfold ss_hg; rw [if_neg (fun z => z h)]; rfl
theorem ss_hh1 {c : Nat} {a e : Nat → Int32} {i j : Nat} (h : i < j ∧ ¬ ss_hv c e i j = a (7 * i + j)) : ss_su (ss_hh c a e i) (j + 1) = ss_su (ss_hh c a e i) j + 1 := by
  show _ + ss_hh c a e i j = _
  unfold ss_hh; rw [if_pos h]
theorem ss_hh0 {c : Nat} {a e : Nat → Int32} {i j : Nat} (h : ¬ (i < j ∧ ¬ ss_hv c e i j = a (7 * i + j))) : ss_su (ss_hh c a e i) j = ss_su (ss_hh c a e i) (j + 1) := by
  show _ = _ + ss_hh c a e i j
  unfold ss_hh; rw [if_neg h]; rfl
theorem xx_h14 {post : Int32 → SX → Prop} {J : Int32 → Int32 → Int32 → (Nat → Int32) → (Nat → Int32) → Prop} {c i K : Nat} {a e : Nat → Int32} (hc : c ≤ 7) (ok : ss_ok a) (hm : ss_ms c a e) (hi : i < c)
    (h : ∀ b, ss_iv a (ss_hF c a e) (ss_dX i i) b → J (nI (K + ss_su (ss_hg c a e i) i)) (nI (i + 1)) (nI c) b e) :
    ∀ d j, j + d = i → ∀ b, ss_iv a (ss_hF c a e) (ss_dX i j) b → wX_smooth_14 post J (nI i) (d + 1) (nI (K + ss_su (ss_hg c a e i) j)) (nI j) (nI c) b e := by
  intro d
  induction d with
  | zero =>
    intro j hj b v
    have hj' : j = i := by omega
    subst hj'
    exact br_t (Int32.le_refl _) (nm_r (nI_1 j) (h b v))
  | succ d ih =>
    intro j hj b v
    have hji : j < i := by omega
    have hb : b (7 * i + j) = a (7 * i + j) := (v.2 i j (by omega) (by omega)).2 (by unfold ss_dX; omega)
    have hs := ok.1 i j (by omega) (by omega)
    have F1 : ss_hF c a e i j = ss_hv c e i j := ss_hFp hi (by omega)
    have F2 : ss_hF c a e j i = ss_hv c e i j := by rw [ss_hFs ok (by omega) (by omega), F1]
    have go : ∀ w, w = ss_hv c e i j → wX_smooth_43 post J (wX_smooth_14 post J (nI i) (d + 1)) (nI (K + ss_su (ss_hg c a e i) j)) (nI i) (nI j) w (nI c) b e := by
      intro w hw
      subst hw
      refine xx_chg (by omega) (by omega) (fun z => br_t rfl (nm_r (nI_1 j) ?_)) (fun z1 z2 => br_f ss_10 (nm_r (nI_1 _) (nm_r (nI_1 j) ?_)))
      · have z2 : a (7 * i + j) = ss_hv c e i j := Classical.byContradiction (fun n => z ⟨ss_hvD hc ok hm i j, by rw [hb]; exact n⟩)
        rw [ss_hg0 z2]
        exact ih (j + 1) (by omega) b (ss_ivK (i := i) (j := j) v (by rw [F1, z2]) (by rw [F2, ← hs, z2]) (fun p r _ _ => ss_dX1 hji p r))
      · rw [hb] at z2
        rw [Nat.add_assoc, ← ss_hg1 z2]
        exact ih (j + 1) (by omega) _ (ss_ivP v (by omega) (by omega) F1 F2 (fun p r _ _ => ss_dX1 hji p r))
    refine br_f (ss_hi hji (by omega)) (xx_sp hc ⟨by decide, nm_e (br_c (fun g => go _ ?_) (fun g => go _ ?_))⟩)
    · unfold ss_hv; rw [if_pos g]
    · unfold ss_hv; rw [if_neg g]
theorem xx_h4 {post : Int32 → SX → Prop} {c : Nat} {a e : Nat → Int32} (hc : c ≤ 7) (ok : ss_ok a) (hm : ss_ms c a e)
    (h : ∀ e', ss_ms c (ss_fi a (ss_hF c a e)) e' → post (nI (ss_su (fun i => ss_su (ss_hg c a e i) i) c)) (nI c, ss_fi a (ss_hF c a e), e')) :
    ∀ d i, i + d = c → ∀ b, ss_iv a (ss_hF c a e) (ss_dX i 0) b → wX_smooth_4 post (d + 1) (nI (ss_su (fun i => ss_su (ss_hg c a e i) i) i)) (nI i) (nI c) b e := by
  intro d
  induction d with
  | zero =>
    intro i hi b v
    have hi' : i = c := by omega
    subst hi'
    have hb : b = ss_fi a (ss_hF i a e) := ss_ivF v (fun p r hp hr n => by
      by_cases g : p = r
      · subst g; exact ss_hFd ok hp
      · refine ss_hFn (fun w => n ?_)
        unfold ss_dX; omega)
    subst hb
    exact br_t (Int32.le_refl _) (xx_ms hc (ss_hFok hc ok hm) h)
  | succ d ih =>
    intro i hi b v
    have hic : i < c := by omega
    refine br_f (ss_hi hic hc) ⟨i + 1, xx_h14 (K := ss_su (fun i => ss_su (ss_hg c a e i) i) i) hc ok hm hic (fun b' v' => ?_) i 0 (by omega) b v⟩
    exact ih (i + 1) (by omega) b' (ss_ivE v' (fun p r _ _ => ss_dX2 i p r))
def ss_md (c : Nat) (e : Nat → Int32) (i j : Nat) (m : Nat → Int32) : Prop := ∀ p r, p < 7 → r < 7 → ss_vi c i j p r → m (7 * p + r) = ss_hv c e p r
theorem ss_md1 {c i j : Nat} {e m : Nat → Int32} (hc : c ≤ 7) (hi : i < c) (hj : j < c) (h : ss_md c e i j m) : ss_md c e i (j + 1) (upd m (7 * i + j) (ss_hv c e i j)) := by
  intro p r hp hr hv
  by_cases z : 7 * p + r = 7 * i + j
  · have z1 : p = i := by omega
    have z2 : r = j := by omega
    subst z1 z2
    rw [pk_us]
  · rw [pk_un z]
    refine h p r hp hr ?_
    rcases (ss_vi1 hj p r).mp hv with g | ⟨g1, g2⟩
    · exact g
    · subst g1 g2; exact absurd rfl z
theorem yy_h18 {post : Int32 → SY → Prop} {J : Int32 → Int32 → (Nat → Int32) → (Nat → Int32) → (Nat → Int32) → Prop} {c i K : Nat} {a e f : Nat → Int32} (hc : c ≤ 7) (ag : ss_ag c e f) (hi : i < c)
    (h : ∀ m, ss_md c e i c m → J (nI (K + ss_su (ss_hh c a e i) c)) (nI (i + 1)) a m f) :
    ∀ d j, j + d = c → ∀ m, ss_md c e i j m → wY_smooth_18 post J (nI i) (nI c) (d + 1) (nI (K + ss_su (ss_hh c a e i) j)) (nI j) a m f := by
  intro d
  induction d with
  | zero =>
    intro j hj m v
    have hj' : j = c := by omega
    subst hj'
    exact br_t (Int32.le_refl _) (nm_r (nI_1 i) (h m v))
  | succ d ih =>
    intro j hj m v
    have hjc : j < c := by omega
    have go : ∀ w, w = ss_hv c e i j → wY_smooth_60 post J (wY_smooth_18 post J (nI i) (nI c) (d + 1)) (nI (K + ss_su (ss_hh c a e i) j)) (nI i) (nI j) w ((7 * nI i) + nI j) (nI c) a m f := by
      intro w hw
      subst hw
      have I := ss_inY (i := i) (j := j) (by omega) (by omega)
      have C := ss_clY (i := i) (j := j) (by omega) (by omega)
      refine ⟨I, nm_r (by rw [C]) (pk_le j i (fun g => nm_r (nI_1 j) ?_) (fun g => ⟨I, I, br_c (fun z => nm_r (nI_1 j) ?_) (fun z => nm_r (nI_1 _) (nm_r (nI_1 j) ?_))⟩))⟩
      · rw [ss_hh0 (fun w => by omega)]
        exact ih (j + 1) (by omega) _ (ss_md1 hc hi hjc v)
      · rw [C, pk_us] at z
        rw [ss_hh0 (fun w => w.2 z)]
        exact ih (j + 1) (by omega) _ (ss_md1 hc hi hjc v)
      · rw [C, pk_us] at z
        rw [Nat.add_assoc, ← ss_hh1 ⟨g, z⟩]
        exact ih (j + 1) (by omega) _ (ss_md1 hc hi hjc v)
    refine br_f (ss_hi hjc hc) (yy_b hc ag ⟨by decide, nm_e (br_c (fun g => go _ ?_) (fun g => go _ ?_))⟩)
    · unfold ss_hv; rw [if_pos g]
    · unfold ss_hv; rw [if_neg g]
theorem ss_ivU {a b : Nat → Int32} {F : Nat → Nat → Int32} {dn dn' : Nat → Nat → Prop} {i j : Nat} {w : Int32} (v : ss_iv a F dn b) (hi : i < 7) (hj : j < 7) (h1 : F i j = w)
    (h : ∀ p r, p < 7 → r < 7 → (dn' p r ↔ dn p r ∨ (p = i ∧ r = j))) : ss_iv a F dn' (upd b (7 * i + j) w) := by
  refine ⟨fun q hq => ?_, fun p r hp hr => ?_⟩
  · rw [pk_un (by omega)]; exact v.1 q hq
  · by_cases z : p = i ∧ r = j
    · obtain ⟨z1, z2⟩ := z
      subst z1 z2
      rw [pk_us]
      exact ⟨fun _ => h1.symm, fun n => absurd ((h p r hp hr).mpr (Or.inr ⟨rfl, rfl⟩)) n⟩
    · rw [pk_un (by omega)]
      refine ⟨fun n => (v.2 p r hp hr).1 (((h p r hp hr).mp n).resolve_right z), fun n => (v.2 p r hp hr).2 (fun w => n ((h p r hp hr).mpr (Or.inl w)))⟩
theorem yy_h118 {post : Int32 → SY → Prop} {J : Int32 → (Nat → Int32) → (Nat → Int32) → (Nat → Int32) → Prop} {x : Int32} {c i : Nat} {a e m f : Nat → Int32} (hc : c ≤ 7) (hi : i < c) (md : ss_md c e c 0 m)
    (h : ∀ b, ss_iv a (ss_hF c a e) (ss_vi c i c) b → J (nI (i + 1)) b m f) :
    ∀ d j, j + d = c → ∀ b, ss_iv a (ss_hF c a e) (ss_vi c i j) b → wY_smooth_118 post J x (nI i) (nI c) (d + 1) (nI j) b m f := by
  intro d
  induction d with
  | zero =>
    intro j hj b v
    have hj' : j = c := by omega
    subst hj'
    exact br_t (Int32.le_refl _) (nm_r (nI_1 i) (h b v))
  | succ d ih =>
    intro j hj b v
    have hjc : j < c := by omega
    have I := ss_inY (i := i) (j := j) (by omega) (by omega)
    have C := ss_clY (i := i) (j := j) (by omega) (by omega)
    have F1 : ss_hF c a e i j = m (7 * i + j) := by
      rw [ss_hFp hi hjc, md i j (by omega) (by omega) ⟨hjc, Or.inl hi⟩]
    refine br_f (ss_hi hjc hc) ⟨I, I, nm_r (by rw [C]) (nm_r (nI_1 j) (ih (j + 1) (by omega) _ ?_))⟩
    exact ss_ivU v (by omega) (by omega) F1 (fun p r _ _ => ss_vi1 hjc p r)
theorem yy_h108 {post : Int32 → SY → Prop} {x : Int32} {c : Nat} {a e m f : Nat → Int32} (hc : c ≤ 7) (md : ss_md c e c 0 m)
    (h : post x (nI c, ss_fi a (ss_hF c a e), m, f)) :
    ∀ d i, i + d = c → ∀ b, ss_iv a (ss_hF c a e) (ss_vi c i 0) b → wY_smooth_108 post x (nI c) (d + 1) (nI i) b m f := by
  intro d
  induction d with
  | zero =>
    intro i hi b v
    have hi' : i = c := by omega
    subst hi'
    have hb : b = ss_fi a (ss_hF i a e) := ss_ivF v (fun p r hp hr n => ss_hFn (fun w => n ⟨w.2, Or.inl w.1⟩))
    subst hb
    exact br_t (Int32.le_refl _) h
  | succ d ih =>
    intro i hi b v
    have hic : i < c := by omega
    refine br_f (ss_hi hic hc) ⟨c + 1, yy_h118 hc hic md (fun b' v' => ?_) c 0 (by omega) b v⟩
    exact ih (i + 1) (by omega) b' (ss_ivE v' (fun p r _ _ => ss_vi2 c i p r))
theorem yy_h8 {post : Int32 → SY → Prop} {c : Nat} {a e f : Nat → Int32} (hc : c ≤ 7) (ag : ss_ag c e f)
    (h : ∀ m, post (nI (ss_su (fun i => ss_su (ss_hh c a e i) c) c)) (nI c, ss_fi a (ss_hF c a e), m, f)) :
    ∀ d i, i + d = c → ∀ m, ss_md c e i 0 m → wY_smooth_8 post (nI c) (d + 1) (nI (ss_su (fun i => ss_su (ss_hh c a e i) c) i)) (nI i) a m f := by
  intro d
  induction d with
  | zero =>
    intro i hi m v
    have hi' : i = c := by omega
    subst hi'
    exact br_t (Int32.le_refl _) ⟨i + 1, yy_h108 hc v (h m) i 0 (by omega) a (ss_iv0 (fun p r _ _ => by unfold ss_vi; omega))⟩
  | succ d ih =>
    intro i hi m v
    have hic : i < c := by omega
    refine br_f (ss_hi hic hc) ⟨c + 1, yy_h18 (K := ss_su (fun i => ss_su (ss_hh c a e i) c) i) hc ag hic (fun m' v' => ?_) c 0 (by omega) m v⟩
    exact ih (i + 1) (by omega) m' (fun p r hp hr w => v' p r hp hr ((ss_vi2 c i p r).mp w))
theorem i_vc_smooth {k : Nat} {u : SX} {v : SY} (I : i_Rel k u v) (hk : k + 4 ≤ 2048) : wpX_smooth (fun r u' => wpY_smooth (fun r' v' => r' = r ∧ i_Rel (k + 4) u' v') v) u := by
  obtain ⟨c, a, e, m, f, rfl, rfl, hc, ok, hm⟩ := I
  refine ⟨c + 1, xx_h4 hc ok hm (fun e' he => ?_) c 0 (by omega) a (ss_iv0 (fun p r _ _ => by unfold ss_dX; omega))⟩
  unfold wpY_smooth; dsimp only
  refine yy_w hc ok hm (fun f' ag => ⟨c + 1, yy_h8 hc ag (fun m' => ⟨congrArg nI (ss_hgh ok hc), ss_mk hc (ss_hFok hc ok hm) he⟩) c 0 (by omega) m (fun p r _ _ w => ?_)⟩)
  unfold ss_vi at w; omega
end
