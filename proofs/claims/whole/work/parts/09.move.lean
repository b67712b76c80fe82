def ss_su (f : Nat → Nat) : Nat → Nat
  | 0 => 0
  | n + 1 => ss_su f n + f n
theorem ss_suC {f g : Nat → Nat} : ∀ n, (∀ i, i < n → f i = g i) → ss_su f n = ss_su g n := by
  intro n
  induction n with
  | zero => intro _; rfl
  | succ n ih =>
    intro h
    show ss_su f n + f n = ss_su g n + g n
    rw [ih (fun i hi => h i (by omega)), h n (by omega)]
theorem ss_suA (f g : Nat → Nat) : ∀ n, ss_su (fun i => f i + g i) n = ss_su f n + ss_su g n := by
  intro n
  induction n with
  | zero => rfl
  | succ n ih =>
    show ss_su (fun i => f i + g i) n + (f n + g n) = ss_su f n + f n + (ss_su g n + g n)
    rw [ih]; omega
theorem ss_su0 : ∀ n, ss_su (fun _ => 0) n = 0 := by
  intro n
  induction n with
  | zero => rfl
  | succ n ih => exact ih
theorem ss_sq (h : Nat → Nat → Nat) : ∀ n, ss_su (fun i => ss_su (h i) n) n = ss_su (fun i => ss_su (fun j => h i j + h j i) i) n + ss_su (fun i => h i i) n := by
  intro n
  induction n with
  | zero => rfl
  | succ n ih =>
    show ss_su (fun i => ss_su (h i) n + h i n) n + (ss_su (h n) n + h n n) = ss_su (fun i => ss_su (fun j => h i j + h j i) i) n + ss_su (fun j => h n j + h j n) n + (ss_su (fun i => h i i) n + h n n)
    rw [ss_suA (fun i => ss_su (h i) n) (fun i => h i n), ih, ss_suA (h n) (fun j => h j n)]
    omega
theorem ss_cnt {g h : Nat → Nat → Nat} {n : Nat} (hg : ∀ i j, i < n → j < i → g i j = h i j + h j i) (hd : ∀ i, i < n → h i i = 0) :
    ss_su (fun i => ss_su (h i) n) n = ss_su (fun i => ss_su (g i) i) n := by
  rw [ss_sq, ss_suC (f := fun i => h i i) (g := fun _ => 0) n hd, ss_su0, Nat.add_zero]
  exact ss_suC n (fun i hi => ss_suC i (fun j hj => (hg i j hi hj).symm))
def ss_iv (a : Nat → Int32) (F : Nat → Nat → Int32) (dn : Nat → Nat → Prop) (b : Nat → Int32) : Prop :=
  (∀ q, 49 ≤ q → b q = a q) ∧ ∀ p r, p < 7 → r < 7 → (dn p r → b (7 * p + r) = F p r) ∧ (¬ dn p r → b (7 * p + r) = a (7 * p + r))
theorem ss_iv0 {a : Nat → Int32} {F : Nat → Nat → Int32} {dn : Nat → Nat → Prop} (h : ∀ p r, p < 7 → r < 7 → ¬ dn p r) : ss_iv a F dn a :=
  ⟨fun _ _ => rfl, fun p r hp hr => ⟨fun z => absurd z (h p r hp hr), fun _ => rfl⟩⟩
theorem ss_ivE {a b : Nat → Int32} {F : Nat → Nat → Int32} {dn dn' : Nat → Nat → Prop} (v : ss_iv a F dn b) (h : ∀ p r, p < 7 → r < 7 → (dn' p r ↔ dn p r)) : ss_iv a F dn' b :=
  ⟨v.1, fun p r hp hr => ⟨fun z => (v.2 p r hp hr).1 ((h p r hp hr).mp z), fun z => (v.2 p r hp hr).2 (fun w => z ((h p r hp hr).mpr w))⟩⟩
theorem ss_ivP {a b : Nat → Int32} {F : Nat → Nat → Int32} {dn dn' : Nat → Nat → Prop} {i j : Nat} {w : Int32} (v : ss_iv a F dn b) (hi : i < 7) (hj : j < 7) (h1 : F i j = w) (h2 : F j i = w)
    (h : ∀ p r, p < 7 → r < 7 → (dn' p r ↔ dn p r ∨ ((p = i ∧ r = j) ∨ (p = j ∧ r = i)))) : ss_iv a F dn' (ss_pt b i j w) := by
  refine ⟨fun q hq => ?_, fun p r hp hr => ?_⟩
  · rw [ss_ptB hi hj hq]; exact v.1 q hq
  · by_cases z : (p = i ∧ r = j) ∨ (p = j ∧ r = i)
    · rw [ss_ptT hi hj z]
      refine ⟨fun _ => ?_, fun n => absurd ((h p r hp hr).mpr (Or.inr z)) n⟩
      rcases z with ⟨rfl, rfl⟩ | ⟨rfl, rfl⟩
      · exact h1.symm
      · exact h2.symm
    · rw [ss_ptF hi hj hr z]
      refine ⟨fun n => (v.2 p r hp hr).1 (((h p r hp hr).mp n).resolve_right z), fun n => (v.2 p r hp hr).2 (fun w => n ((h p r hp hr).mpr (Or.inl w)))⟩
theorem ss_ivK {a b : Nat → Int32} {F : Nat → Nat → Int32} {dn dn' : Nat → Nat → Prop} {i j : Nat} (v : ss_iv a F dn b) (h1 : F i j = a (7 * i + j)) (h2 : F j i = a (7 * j + i))
    (h : ∀ p r, p < 7 → r < 7 → (dn' p r ↔ dn p r ∨ ((p = i ∧ r = j) ∨ (p = j ∧ r = i)))) : ss_iv a F dn' b := by
  refine ⟨v.1, fun p r hp hr => ⟨fun n => ?_, fun n => (v.2 p r hp hr).2 (fun w => n ((h p r hp hr).mpr (Or.inl w)))⟩⟩
  rcases Classical.em (dn p r) with d | d
  · exact (v.2 p r hp hr).1 d
  · rw [(v.2 p r hp hr).2 d]
    rcases ((h p r hp hr).mp n).resolve_left d with ⟨rfl, rfl⟩ | ⟨rfl, rfl⟩
    · exact h1.symm
    · exact h2.symm
def ss_fi (a : Nat → Int32) (F : Nat → Nat → Int32) (q : Nat) : Int32 := if q < 49 then F (q / 7) (q % 7) else a q
theorem ss_fiA {a : Nat → Int32} {F : Nat → Nat → Int32} {p r : Nat} (hp : p < 7) (hr : r < 7) : ss_fi a F (7 * p + r) = F p r := by
  unfold ss_fi
  rw [if_pos (by omega), show (7 * p + r) / 7 = p by omega, show (7 * p + r) % 7 = r by omega]
theorem ss_ivF {a b : Nat → Int32} {F : Nat → Nat → Int32} {dn : Nat → Nat → Prop} (v : ss_iv a F dn b) (h : ∀ p r, p < 7 → r < 7 → ¬ dn p r → F p r = a (7 * p + r)) : b = ss_fi a F := by
  funext q
  rcases Nat.lt_or_ge q 49 with g | g
  · have e : q = 7 * (q / 7) + q % 7 := by omega
    have hp : q / 7 < 7 := by omega
    have hr : q % 7 < 7 := by omega
    rw [e, ss_fiA hp hr]
    rcases Classical.em (dn (q / 7) (q % 7)) with d | d
    · exact (v.2 _ _ hp hr).1 d
    · rw [h _ _ hp hr d]; exact (v.2 _ _ hp hr).2 d
  · rw [v.1 q g]; unfold ss_fi; rw [if_neg (by omega)]
theorem ss_fiok {a : Nat → Int32} {F : Nat → Nat → Int32} (ok : ss_ok a) (hs : ∀ p r, p < 7 → r < 7 → F p r = F r p) (hd : ∀ p, p < 7 → F p p = 0) (hr : ∀ p r, p < 7 → r < 7 → ∃ n : Nat, n ≤ 60 ∧ F p r = nI n) : ss_ok (ss_fi a F) := by
  refine ⟨fun p r hp hr => ?_, fun p hp => ?_, fun q => ?_⟩
  · rw [ss_fiA hp hr, ss_fiA hr hp]; exact hs p r hp hr
  · rw [ss_fiA hp hp]; exact hd p hp
  · unfold ss_fi
    split
    · exact hr _ _ (by omega) (by omega)
    · exact ok.2.2 q
def ss_dX (i j p r : Nat) : Prop := (p < i ∧ r < i ∧ p ≠ r) ∨ (p = i ∧ r < j) ∨ (r = i ∧ p < j)
theorem ss_dX1 {i j : Nat} (hj : j < i) (p r : Nat) : ss_dX i (j + 1) p r ↔ ss_dX i j p r ∨ ((p = i ∧ r = j) ∨ (p = j ∧ r = i)) := by
  unfold ss_dX; omega
theorem ss_dX2 (i p r : Nat) : ss_dX (i + 1) 0 p r ↔ ss_dX i i p r := by
  unfold ss_dX; omega
def ss_mF (c : Nat) (a : Nat → Int32) (S D : Int32) (p r : Nat) : Int32 :=
  if p < c ∧ r < c ∧ ¬ ss_b S (nI p) = ss_b S (nI r) ∧ ss_di (a (7 * p + r) + D) then a (7 * p + r) + D else a (7 * p + r)
theorem ss_mFs {c : Nat} {a : Nat → Int32} {S D : Int32} (ok : ss_ok a) {p r : Nat} (hp : p < 7) (hr : r < 7) : ss_mF c a S D p r = ss_mF c a S D r p := by
  unfold ss_mF
  rw [ok.1 r p hr hp]
  by_cases h : p < c ∧ r < c ∧ ¬ ss_b S (nI p) = ss_b S (nI r) ∧ ss_di (a (7 * p + r) + D)
  · rw [if_pos h, if_pos ⟨h.2.1, h.1, fun z => h.2.2.1 z.symm, h.2.2.2⟩]
  · rw [if_neg h, if_neg (fun z => h ⟨z.2.1, z.1, fun y => z.2.2.1 y.symm, z.2.2.2⟩)]
theorem ss_mFok {c : Nat} {a : Nat → Int32} {S D : Int32} (ok : ss_ok a) : ss_ok (ss_fi a (ss_mF c a S D)) := by
  refine ss_fiok ok (fun p r hp hr => ss_mFs ok hp hr) (fun p hp => ?_) (fun p r hp hr => ?_)
  · unfold ss_mF
    rw [if_neg (fun z => z.2.2.1 rfl)]
    exact ok.2.1 p hp
  · unfold ss_mF
    split
    · next h => exact ss_diN h.2.2.2
    · exact ok.2.2 _
def ss_mg (a : Nat → Int32) (S D : Int32) (i j : Nat) : Nat := if ¬ ss_b S (nI i) = ss_b S (nI j) ∧ ss_di (a (7 * i + j) + D) ∧ ¬ a (7 * i + j) = a (7 * i + j) + D then 1 else 0
def ss_mh (a : Nat → Int32) (S D : Int32) (i j : Nat) : Nat := if ss_b S (nI i) = 1 ∧ ss_b S (nI j) = 0 ∧ ss_di (a (7 * i + j) + D) ∧ ¬ D = 0 then 1 else 0
theorem ss_ad (x D : Int32) : x = x + D ↔ D = 0 := by
  constructor
  · intro h; grind
  · intro h; rw [h, Int32.add_zero]
theorem ss_mgh {c : Nat} {a : Nat → Int32} {S D : Int32} (ok : ss_ok a) (hc : c ≤ 7) : ss_su (fun i => ss_su (ss_mh a S D i) c) c = ss_su (fun i => ss_su (ss_mg a S D i) i) c := by
  refine ss_cnt (fun i j hi hj => ?_) (fun i hi => ?_)
  · unfold ss_mg ss_mh
    rw [ok.1 j i (by omega) (by omega)]
    simp only [ss_ad]
    have h1 := ss_b01 S (nI i)
    have h2 := ss_b01 S (nI j)
    generalize ss_b S (nI i) = x at *
    generalize ss_b S (nI j) = y at *
    generalize a (7 * i + j) + D = w at *
    rcases h1 with rfl | rfl <;> rcases h2 with rfl | rfl <;> simp
  · unfold ss_mh
    rw [if_neg]
    intro z
    exact ss_b00 z.2.1 z.1
