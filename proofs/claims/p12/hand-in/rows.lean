section
/-! sums of small naturals as Int32 -/
theorem zq_m35 (a : Nat) : nI a * 35 = nI (a * 35) := pk_mul a 35
theorem zq_m36 (a : Nat) : nI a * 36 = nI (a * 36) := pk_mul a 36
theorem zq_m2 (a : Nat) : nI a * 2 = nI (a * 2) := pk_mul a 2
theorem zq_2m (a : Nat) : 2 * nI a = nI (2 * a) := pk_mul 2 a
theorem zq_a2 (a : Nat) : nI a + 2 = nI (a + 2) := nI_add a 2
theorem zq_a32 (a : Nat) : nI a + 32 = nI (a + 32) := nI_add a 32
theorem zq_32a (a : Nat) : 32 + nI a = nI (32 + a) := nI_add 32 a
theorem zq_ix {a b c : Nat} (ha : a < 6) (hb : b ≤ 6) (hc : c < 6) : a * b + c < 36 := by
  have h : a * b ≤ 5 * 6 := Nat.mul_le_mul (by omega) hb
  omega
theorem zq_6 {D : Nat} (h2 : 2 ≤ D) (h6 : D ≤ 6) : D = 2 ∨ D = 3 ∨ D = 4 ∨ D = 5 ∨ D = 6 := by omega
/-- the number of an instantiation, and back -/
theorem zq_dec {D n : Nat} (h2 : 2 ≤ D) (h6 : D ≤ 6) (hn : n < D * D * D) : n / (D * D) < D ∧ n / D % D < D ∧ n % D < D ∧ (n / (D * D) * D + n / D % D) * D + n % D = n := by
  rcases zq_6 h2 h6 with rfl | rfl | rfl | rfl | rfl <;> omega
theorem zq_enc {D a b c : Nat} (h2 : 2 ≤ D) (h6 : D ≤ 6) (ha : a < D) (hb : b < D) (hc : c < D) : (a * D + b) * D + c < D * D * D ∧ ((a * D + b) * D + c) / (D * D) = a ∧ ((a * D + b) * D + c) / D % D = b ∧ ((a * D + b) * D + c) % D = c := by
  rcases zq_6 h2 h6 with rfl | rfl | rfl | rfl | rfl <;> omega
theorem zq_216 {D : Nat} (h6 : D ≤ 6) : D * D * D ≤ 216 :=
  Nat.mul_le_mul (Nat.mul_le_mul h6 h6) h6
theorem zq_36 {D : Nat} (h6 : D ≤ 6) : D * D ≤ 36 := Nat.mul_le_mul h6 h6
/-! codes and specs -/
def zq_code (D : Nat) (x : Int32) : Prop := (∃ d, 1 ≤ d ∧ d ≤ D ∧ x = nI d) ∨ x = -1 ∨ x = -2 ∨ x = -3
def zq_spec (D : Nat) (p q : Int32) : Prop := (p = 0 ∧ q = 0) ∨ (zq_code D p ∧ q = 0) ∨ (zq_code D p ∧ zq_code D q)
def zq_cv (x : Int32) (a b c : Nat) : Nat := if 0 < x then x.toNatClampNeg else if x = -1 then a else if x = -2 then b else c
def zq_sr (p q : Int32) : Nat := if p = 0 then 0 else if q = 0 then 1 else 2
def zq_sp (p q : Int32) (a b c : Nat) : Nat × Nat := if q = 0 then (1, if p = 0 then 1 else zq_cv p a b c) else (zq_cv p a b c, zq_cv q a b c)
def zq_good (D r R C : Nat) : Prop := 1 ≤ R ∧ R ≤ D ∧ 1 ≤ C ∧ C ≤ D ∧ (r ≠ 2 → R = 1) ∧ (r = 0 → C = 1) ∧ r ≤ 2
theorem zq_neg {x : Int32} (h : x < 0) (h3 : -3 ≤ x) : x = -1 ∨ x = -2 ∨ x = -3 := by
  have e1 := Int32.lt_iff_toInt_lt.mp h
  have e2 := Int32.le_iff_toInt_le.mp h3
  rw [show (0 : Int32).toInt = 0 from by decide] at e1
  rw [show (-3 : Int32).toInt = -3 from by decide] at e2
  have e3 : x.toInt = -1 ∨ x.toInt = -2 ∨ x.toInt = -3 := by omega
  rcases e3 with e | e | e
  · exact Or.inl (Int32.toInt_inj.mp (e.trans (by decide)))
  · exact Or.inr (Or.inl (Int32.toInt_inj.mp (e.trans (by decide))))
  · exact Or.inr (Or.inr (Int32.toInt_inj.mp (e.trans (by decide))))
theorem zq_pos {d : Nat} (h1 : 1 ≤ d) (h : d < 2 ^ 31) : (0 : Int32) < nI d := nI_lt (a := 0) h1 h
theorem zq_cv_d {d a b c : Nat} (h1 : 1 ≤ d) (h : d < 2 ^ 31) : zq_cv (nI d) a b c = d := by
  unfold zq_cv
  rw [if_pos (zq_pos h1 h), nI_clamp h]
theorem zq_cv_1 {a b c : Nat} : zq_cv (-1) a b c = a := by
  unfold zq_cv
  rw [if_neg (by decide), if_pos rfl]
theorem zq_cv_2 {a b c : Nat} : zq_cv (-2) a b c = b := by
  unfold zq_cv
  rw [if_neg (by decide), if_neg (by decide), if_pos rfl]
theorem zq_cv_3 {a b c : Nat} : zq_cv (-3) a b c = c := by
  unfold zq_cv
  rw [if_neg (by decide), if_neg (by decide), if_neg (by decide)]
theorem zq_code_ne {D : Nat} {x : Int32} (h6 : D ≤ 6) (h : zq_code D x) : ¬ x = 0 := by
  rcases h with ⟨d, h1, h2, rfl⟩ | rfl | rfl | rfl
  · exact nI_ne0 h1 (by omega)
  · decide
  · decide
  · decide
theorem zq_code_cv {D a b c : Nat} {x : Int32} (h6 : D ≤ 6) (h : zq_code D x) (ha : 1 ≤ a ∧ a ≤ D) (hb : 1 ≤ b ∧ b ≤ D) (hc : 1 ≤ c ∧ c ≤ D) : 1 ≤ zq_cv x a b c ∧ zq_cv x a b c ≤ D := by
  rcases h with ⟨d, h1, h2, rfl⟩ | rfl | rfl | rfl
  · rw [zq_cv_d h1 (by omega)]
    exact ⟨h1, h2⟩
  · rw [zq_cv_1]; exact ha
  · rw [zq_cv_2]; exact hb
  · rw [zq_cv_3]; exact hc
theorem zq_spec_good {D a b c : Nat} {p q : Int32} (h2 : 2 ≤ D) (h6 : D ≤ 6) (h : zq_spec D p q) (ha : 1 ≤ a ∧ a ≤ D) (hb : 1 ≤ b ∧ b ≤ D) (hc : 1 ≤ c ∧ c ≤ D) : zq_good D (zq_sr p q) (zq_sp p q a b c).1 (zq_sp p q a b c).2 := by
  unfold zq_good zq_sr zq_sp
  rcases h with ⟨rfl, rfl⟩ | ⟨h, rfl⟩ | ⟨h, h'⟩
  · rw [if_pos rfl, if_pos rfl, if_pos rfl]
    dsimp only
    omega
  · have e := zq_code_cv h6 h ha hb hc
    rw [if_neg (zq_code_ne h6 h), if_pos rfl, if_pos rfl, if_neg (zq_code_ne h6 h)]
    dsimp only
    omega
  · have e := zq_code_cv h6 h ha hb hc
    have e' := zq_code_cv h6 h' ha hb hc
    simp only [if_neg (zq_code_ne h6 h), if_neg (zq_code_ne h6 h')]
    omega
/-! a node: kind and arguments against the ranks of the nodes before it -/
def zq_nd (D i : Nat) (rk : Nat → Nat) (k x y z : Int32) : Prop :=
  (k = 1 ∧ zq_spec D x y ∧ rk i = zq_sr x y) ∨
  (∃ p q, p < i ∧ q < i ∧ x = nI p ∧ y = nI q ∧ (k = 2 ∨ k = 3) ∧ rk i = max (rk p) (rk q)) ∨
  (∃ p q, p < i ∧ q < i ∧ x = nI p ∧ y = nI q ∧ k = 4 ∧ rk p = 2 ∧ rk q = 2 ∧ rk i = 2) ∨
  (∃ p, p < i ∧ x = nI p ∧ k = 5 ∧ rk i = rk p) ∨
  (∃ p, p < i ∧ x = nI p ∧ k = 6 ∧ zq_spec D y z ∧ rk i = zq_sr y z) ∨
  (∃ p s, p < i ∧ x = nI p ∧ k = 7 ∧ y = nI s ∧ s < rk p ∧ rk i + 1 = rk p)
/-- the shape of a node (rows, columns), or none: the node traps -/
def zq_ru (k x y z : Int32) (a b c : Nat) (rk R C : Nat → Nat) : Option (Nat × Nat) :=
  if k = 1 then some (zq_sp x y a b c)
  else if k = 2 ∨ k = 3 then
    (if (R x.toNatClampNeg = R y.toNatClampNeg ∨ R x.toNatClampNeg = 1 ∨ R y.toNatClampNeg = 1) ∧ (C x.toNatClampNeg = C y.toNatClampNeg ∨ C x.toNatClampNeg = 1 ∨ C y.toNatClampNeg = 1)
     then some (if R x.toNatClampNeg = 1 then R y.toNatClampNeg else R x.toNatClampNeg, if C x.toNatClampNeg = 1 then C y.toNatClampNeg else C x.toNatClampNeg) else none)
  else if k = 4 then (if C x.toNatClampNeg = R y.toNatClampNeg then some (R x.toNatClampNeg, C y.toNatClampNeg) else none)
  else if k = 5 then some (if rk x.toNatClampNeg = 2 then (C x.toNatClampNeg, R x.toNatClampNeg) else (R x.toNatClampNeg, C x.toNatClampNeg))
  else if k = 6 then (if (zq_sp y z a b c).1 * (zq_sp y z a b c).2 = R x.toNatClampNeg * C x.toNatClampNeg then some (zq_sp y z a b c) else none)
  else some (1, if rk x.toNatClampNeg = 2 ∧ y = 0 then C x.toNatClampNeg else R x.toNatClampNeg)
theorem zq_ru1 {x y z : Int32} {a b c : Nat} {rk R C : Nat → Nat} : zq_ru 1 x y z a b c rk R C = some (zq_sp x y a b c) := if_pos rfl
theorem zq_ru2 {k z : Int32} {p q a b c : Nat} {rk R C : Nat → Nat} (hp : p < 2 ^ 31) (hq : q < 2 ^ 31) (hk : k = 2 ∨ k = 3) : zq_ru k (nI p) (nI q) z a b c rk R C = if (R p = R q ∨ R p = 1 ∨ R q = 1) ∧ (C p = C q ∨ C p = 1 ∨ C q = 1) then some (if R p = 1 then R q else R p, if C p = 1 then C q else C p) else none := by
  unfold zq_ru
  rw [if_neg (by rcases hk with rfl | rfl <;> decide), if_pos hk, nI_clamp hp, nI_clamp hq]
theorem zq_ru4 {z : Int32} {p q a b c : Nat} {rk R C : Nat → Nat} (hp : p < 2 ^ 31) (hq : q < 2 ^ 31) : zq_ru 4 (nI p) (nI q) z a b c rk R C = if C p = R q then some (R p, C q) else none := by
  unfold zq_ru
  rw [if_neg (by decide), if_neg (by decide), if_pos rfl, nI_clamp hp, nI_clamp hq]
theorem zq_ru5 {y z : Int32} {p a b c : Nat} {rk R C : Nat → Nat} (hp : p < 2 ^ 31) : zq_ru 5 (nI p) y z a b c rk R C = some (if rk p = 2 then (C p, R p) else (R p, C p)) := by
  unfold zq_ru
  rw [if_neg (by decide), if_neg (by decide), if_neg (by decide), if_pos rfl, nI_clamp hp]
theorem zq_ru6 {y z : Int32} {p a b c : Nat} {rk R C : Nat → Nat} (hp : p < 2 ^ 31) : zq_ru 6 (nI p) y z a b c rk R C = if (zq_sp y z a b c).1 * (zq_sp y z a b c).2 = R p * C p then some (zq_sp y z a b c) else none := by
  unfold zq_ru
  rw [if_neg (by decide), if_neg (by decide), if_neg (by decide), if_neg (by decide), if_pos rfl, nI_clamp hp]
theorem zq_ru7 {y z : Int32} {p a b c : Nat} {rk R C : Nat → Nat} (hp : p < 2 ^ 31) : zq_ru 7 (nI p) y z a b c rk R C = some (1, if rk p = 2 ∧ y = 0 then C p else R p) := by
  unfold zq_ru
  rw [if_neg (by decide), if_neg (by decide), if_neg (by decide), if_neg (by decide), if_neg (by decide), nI_clamp hp]
theorem zq_nd_2 {D i : Nat} {rk : Nat → Nat} {k x y z : Int32} (h : zq_nd D i rk k x y z) (hr : ∀ j, j < i → rk j ≤ 2) : rk i ≤ 2 := by
  have sr : ∀ p q, zq_sr p q ≤ 2 := by
    intro p q
    unfold zq_sr
    split
    · omega
    · split <;> omega
  rcases h with ⟨_, _, e⟩ | ⟨p, q, hp, hq, _, _, _, e⟩ | ⟨p, q, hp, hq, _, _, _, _, _, e⟩ | ⟨p, hp, _, _, e⟩ | ⟨p, hp, _, _, _, e⟩ | ⟨p, s, hp, _, _, _, _, e⟩
  · rw [e]; exact sr _ _
  · have := hr p hp; have := hr q hq; omega
  · omega
  · have := hr p hp; omega
  · rw [e]; exact sr _ _
  · have := hr p hp; omega
/-- ranks and shapes that agree before i -/
theorem zq_nd_c {D i : Nat} {rk rk' : Nat → Nat} {k x y z : Int32} (h : zq_nd D i rk k x y z) (e : ∀ j, j ≤ i → rk' j = rk j) : zq_nd D i rk' k x y z := by
  rcases h with ⟨h1, h2, h3⟩ | ⟨p, q, hp, hq, h1, h2, h3, h4⟩ | ⟨p, q, hp, hq, h1, h2, h3, h4, h5, h6⟩ | ⟨p, hp, h1, h2, h3⟩ | ⟨p, hp, h1, h2, h3, h4⟩ | ⟨p, s, hp, h1, h2, h3, h4, h5⟩
  · exact Or.inl ⟨h1, h2, by rw [e i (by omega)]; exact h3⟩
  · exact Or.inr (Or.inl ⟨p, q, hp, hq, h1, h2, h3, by rw [e i (by omega), e p (by omega), e q (by omega)]; exact h4⟩)
  · exact Or.inr (Or.inr (Or.inl ⟨p, q, hp, hq, h1, h2, h3, by rw [e p (by omega)]; exact h4, by rw [e q (by omega)]; exact h5, by rw [e i (by omega)]; exact h6⟩))
  · exact Or.inr (Or.inr (Or.inr (Or.inl ⟨p, hp, h1, h2, by rw [e i (by omega), e p (by omega)]; exact h3⟩)))
  · exact Or.inr (Or.inr (Or.inr (Or.inr (Or.inl ⟨p, hp, h1, h2, h3, by rw [e i (by omega)]; exact h4⟩))))
  · exact Or.inr (Or.inr (Or.inr (Or.inr (Or.inr ⟨p, s, hp, h1, h2, h3, by rw [e p (by omega)]; exact h4, by rw [e i (by omega), e p (by omega)]; exact h5⟩))))
theorem zq_ru_c {D i a b c : Nat} {rk rk' R R' C C' : Nat → Nat} {k x y z : Int32} (hi : i < 2 ^ 31) (h : zq_nd D i rk k x y z) (e : ∀ j, j < i → rk' j = rk j) (eR : ∀ j, j < i → R' j = R j) (eC : ∀ j, j < i → C' j = C j) : zq_ru k x y z a b c rk' R' C' = zq_ru k x y z a b c rk R C := by
  rcases h with ⟨rfl, h2, h3⟩ | ⟨p, q, hp, hq, rfl, rfl, h3, h4⟩ | ⟨p, q, hp, hq, rfl, rfl, rfl, h4, h5, h6⟩ | ⟨p, hp, rfl, rfl, h3⟩ | ⟨p, hp, rfl, rfl, h3, h4⟩ | ⟨p, s, hp, rfl, rfl, h3, h4, h5⟩
  · rw [zq_ru1, zq_ru1]
  · rw [zq_ru2 (by omega) (by omega) h3, zq_ru2 (by omega) (by omega) h3, eR p hp, eR q hq, eC p hp, eC q hq]
  · rw [zq_ru4 (by omega) (by omega), zq_ru4 (by omega) (by omega), eR p hp, eR q hq, eC p hp, eC q hq]
  · rw [zq_ru5 (by omega), zq_ru5 (by omega), eR p hp, eC p hp, e p hp]
  · rw [zq_ru6 (by omega), zq_ru6 (by omega), eR p hp, eC p hp]
  · rw [zq_ru7 (by omega), zq_ru7 (by omega), eR p hp, eC p hp, e p hp]
theorem zq_ru_good {D i a b c r s : Nat} {rk R C : Nat → Nat} {k x y z : Int32} (h2 : 2 ≤ D) (h6 : D ≤ 6) (hi : i < 2 ^ 31) (ha : 1 ≤ a ∧ a ≤ D) (hb : 1 ≤ b ∧ b ≤ D) (hc : 1 ≤ c ∧ c ≤ D) (h : zq_nd D i rk k x y z) (hg : ∀ j, j < i → zq_good D (rk j) (R j) (C j)) (e : zq_ru k x y z a b c rk R C = some (r, s)) : zq_good D (rk i) r s := by
  rcases h with ⟨rfl, h3, h4⟩ | ⟨p, q, hp, hq, rfl, rfl, h3, h4⟩ | ⟨p, q, hp, hq, rfl, rfl, rfl, h4, h5, h7⟩ | ⟨p, hp, rfl, rfl, h3⟩ | ⟨p, hp, rfl, rfl, h3, h4⟩ | ⟨p, t, hp, rfl, rfl, h3, h4, h5⟩
  · rw [zq_ru1] at e
    have g := zq_spec_good h2 h6 h3 ha hb hc
    rw [Option.some.inj e, ← h4] at g
    exact g
  · rw [zq_ru2 (by omega) (by omega) h3] at e
    have gp := hg p hp
    have gq := hg q hq
    unfold zq_good at gp gq ⊢
    split at e
    · cases e
      split <;> split <;> omega
    · cases e
  · rw [zq_ru4 (by omega) (by omega)] at e
    have gp := hg p hp
    have gq := hg q hq
    unfold zq_good at gp gq ⊢
    split at e
    · cases e
      omega
    · cases e
  · rw [zq_ru5 (by omega)] at e
    have gp := hg p hp
    unfold zq_good at gp ⊢
    split at e
    · cases e
      omega
    · cases e
      omega
  · rw [zq_ru6 (by omega)] at e
    have g := zq_spec_good h2 h6 h3 ha hb hc
    split at e
    · rw [Option.some.inj e, ← h4] at g
      exact g
    · cases e
  · rw [zq_ru7 (by omega)] at e
    have gp := hg p hp
    unfold zq_good at gp ⊢
    cases e
    split <;> omega
/-! left aligned sizes, as the reference holds them -/
def zq_l0 (r R C : Nat) : Nat := if r = 2 then R else C
def zq_l1 (r C : Nat) : Nat := if r = 2 then C else 1
/-- the shapes of the first t nodes under a, b, c; t is the trap, or all of them -/
def zq_sh (D n : Nat) (K X Y Z : Nat → Int32) (rk : Nat → Nat) (a b c t : Nat) (R C : Nat → Nat) : Prop :=
  t ≤ n ∧ (∀ i, i < t → zq_good D (rk i) (R i) (C i) ∧ zq_ru (K i) (X i) (Y i) (Z i) a b c rk R C = some (R i, C i)) ∧ (t < n → zq_ru (K t) (X t) (Y t) (Z t) a b c rk R C = none)
/-! values -/
def zq_fo (f : (Nat → Int32) → Nat → Int32) (b : Nat) (v : Nat → Int32) : Nat → (Nat → Int32)
  | 0 => v
  | e + 1 => upd (zq_fo f b v e) (b + e) (f (zq_fo f b v e) e)
def zq_sm (f : Nat → Int32) : Nat → Int32
  | 0 => 0
  | e + 1 => zq_sm f e + f e
def zq_bi (R C i j : Nat) : Nat := (if R = 1 then 0 else i) * C + (if C = 1 then 0 else j)
def zq_op (k a b : Int32) : Int32 := if k = 2 then a + b else a * b
def zq_fin (d : Nat → Int32) (b : Nat) (_ : Nat → Int32) (e : Nat) : Int32 := d (b + e)
def zq_fcp (p : Nat) (v : Nat → Int32) (e : Nat) : Int32 := v (p * 36 + e)
def zq_fbc (k : Int32) (p q Rp Cp Rq Cq C : Nat) (v : Nat → Int32) (e : Nat) : Int32 := zq_op k (v (p * 36 + zq_bi Rp Cp (e / C) (e % C))) (v (q * 36 + zq_bi Rq Cq (e / C) (e % C)))
def zq_fmm (p q m C : Nat) (v : Nat → Int32) (e : Nat) : Int32 := zq_sm (fun t => v (p * 36 + e / C * m + t) * v (q * 36 + t * C + e % C)) m
def zq_ftr (p R C : Nat) (v : Nat → Int32) (e : Nat) : Int32 := v (p * 36 + e % C * R + e / C)
def zq_fsc (p R C : Nat) (v : Nat → Int32) (e : Nat) : Int32 := zq_sm (fun t => v (p * 36 + t * C + e)) R
def zq_fsr (p C : Nat) (v : Nat → Int32) (e : Nat) : Int32 := zq_sm (fun t => v (p * 36 + e * C + t)) C
theorem zq_dm {i j C : Nat} (h : j < C) : (i * C + j) / C = i ∧ (i * C + j) % C = j := by
  have h0 : 0 < C := by omega
  constructor
  · rw [Nat.mul_comm, Nat.mul_add_div h0, Nat.div_eq_of_lt h]; omega
  · rw [Nat.mul_comm, Nat.mul_add_mod]; exact Nat.mod_eq_of_lt h
end
section
/-! what holds in all admissible instantiations: pure -/
def zq_any (A : Nat → Prop) (i : Nat) : Prop := ∃ m, m < i ∧ A m
def zq_same (A : Nat → Prop) (g : Nat → Int32) (i : Nat) : Prop := ∀ m m', m < i → m' < i → A m → A m' → g m = g m'
def zq_eqs (A : Nat → Prop) (g h : Nat → Int32) (i : Nat) : Prop := ∀ m, m < i → A m → g m = h m
/-- a truth value -/
def zq_fl (x : Int32) (P : Prop) : Prop := (x = 1 ∧ P) ∨ (x = 0 ∧ ¬ P)
theorem zq_fl_i {x : Int32} {P Q : Prop} (h : zq_fl x P) (e : P ↔ Q) : zq_fl x Q := by
  rcases h with ⟨h1, h2⟩ | ⟨h1, h2⟩
  · exact Or.inl ⟨h1, e.mp h2⟩
  · exact Or.inr ⟨h1, fun q => h2 (e.mpr q)⟩
theorem zq_fl_1 {P : Prop} (h : P) : zq_fl 1 P := Or.inl ⟨rfl, h⟩
theorem zq_fl_0 {P : Prop} (h : ¬ P) : zq_fl 0 P := Or.inr ⟨rfl, h⟩
theorem zq_fl_n0 {x : Int32} {P : Prop} (h : zq_fl x P) (e : ¬ x = 0) : P := by
  rcases h with ⟨h1, h2⟩ | ⟨h1, h2⟩
  · exact h2
  · exact absurd h1 e
theorem zq_fl_e0 {x : Int32} {P : Prop} (h : zq_fl x P) (e : x = 0) : ¬ P := by
  rcases h with ⟨h1, h2⟩ | ⟨h1, h2⟩
  · rw [e] at h1; exact absurd h1 (by decide)
  · exact h2
theorem zq_any_0 {A : Nat → Prop} : ¬ zq_any A 0 := fun ⟨_, h, _⟩ => absurd h (by omega)
theorem zq_same_0 {A : Nat → Prop} {g : Nat → Int32} : zq_same A g 0 := fun m _ h => absurd h (by omega)
theorem zq_eqs_0 {A : Nat → Prop} {g h : Nat → Int32} : zq_eqs A g h 0 := fun m z => absurd z (by omega)
theorem zq_lt {m i : Nat} (h : m < i + 1) : m < i ∨ m = i := by omega
theorem zq_any_n {A : Nat → Prop} {i : Nat} (h : ¬ A i) : zq_any A i ↔ zq_any A (i + 1) := by
  constructor
  · exact fun ⟨m, h1, h2⟩ => ⟨m, by omega, h2⟩
  · intro ⟨m, h1, h2⟩
    rcases zq_lt h1 with h3 | rfl
    · exact ⟨m, h3, h2⟩
    · exact absurd h2 h
theorem zq_any_y {A : Nat → Prop} {i : Nat} (h : A i) : zq_any A (i + 1) := ⟨i, by omega, h⟩
theorem zq_eqs_n {A : Nat → Prop} {g f : Nat → Int32} {i : Nat} (h : ¬ A i) : zq_eqs A g f i ↔ zq_eqs A g f (i + 1) := by
  constructor
  · intro z m h1 h2
    rcases zq_lt h1 with h3 | rfl
    · exact z m h3 h2
    · exact absurd h2 h
  · exact fun z m h1 h2 => z m (by omega) h2
theorem zq_eqs_y {A : Nat → Prop} {g f : Nat → Int32} {i : Nat} (e : g i = f i) : zq_eqs A g f i ↔ zq_eqs A g f (i + 1) := by
  constructor
  · intro z m h1 h2
    rcases zq_lt h1 with h3 | rfl
    · exact z m h3 h2
    · exact e
  · exact fun z m h1 h2 => z m (by omega) h2
theorem zq_eqs_f {A : Nat → Prop} {g f : Nat → Int32} {i j : Nat} (h : A i) (hj : i < j) (e : ¬ g i = f i) : ¬ zq_eqs A g f j := fun z => e (z i hj h)
theorem zq_same_n {A : Nat → Prop} {g : Nat → Int32} {i : Nat} (h : ¬ A i) : zq_same A g i ↔ zq_same A g (i + 1) := by
  constructor
  · intro z m m' h1 h1' h2 h2'
    rcases zq_lt h1 with h3 | rfl
    · rcases zq_lt h1' with h3' | rfl
      · exact z m m' h3 h3' h2 h2'
      · exact absurd h2' h
    · exact absurd h2 h
  · exact fun z m m' h1 h1' h2 h2' => z m m' (by omega) (by omega) h2 h2'
theorem zq_same_y {A : Nat → Prop} {g : Nat → Int32} {i m0 : Nat} (h0 : m0 < i) (hA : A m0) (e : g i = g m0) : zq_same A g i ↔ zq_same A g (i + 1) := by
  constructor
  · intro z m m' h1 h1' h2 h2'
    rcases zq_lt h1 with h3 | rfl
    · rcases zq_lt h1' with h3' | rfl
      · exact z m m' h3 h3' h2 h2'
      · rw [e]; exact z m m0 h3 h0 h2 hA
    · rcases zq_lt h1' with h3' | rfl
      · rw [e]; exact z m0 m' h0 h3' hA h2'
      · rfl
  · exact fun z m m' h1 h1' h2 h2' => z m m' (by omega) (by omega) h2 h2'
theorem zq_same_f {A : Nat → Prop} {g : Nat → Int32} {i j m0 : Nat} (h0 : m0 < j) (hj : i < j) (hA : A m0) (h : A i) (e : ¬ g i = g m0) : ¬ zq_same A g j := fun z => e (z i m0 hj h0 h hA)
theorem zq_same_1 {A : Nat → Prop} {g : Nat → Int32} {i : Nat} (h : ¬ zq_any A i) : zq_same A g (i + 1) := by
  intro m m' h1 h1' h2 h2'
  rcases zq_lt h1 with h3 | rfl
  · exact absurd ⟨m, h3, h2⟩ h
  · rcases zq_lt h1' with h3' | rfl
    · exact absurd ⟨m', h3', h2'⟩ h
    · rfl
theorem zq_same_d {A : Nat → Prop} {g : Nat → Int32} {i j : Nat} (z : zq_same A g j) (h : i ≤ j) : zq_same A g i :=
  fun m m' h1 h1' h2 h2' => z m m' (by omega) (by omega) h2 h2'
/-- the common size, or 0 -/
def zq_cm (A : Nat → Prop) (g : Nat → Int32) (N : Nat) (r : Int32) : Prop :=
  (zq_same A g N ∧ ∃ m, m < N ∧ A m ∧ r = g m) ∨ (¬ (zq_any A N ∧ zq_same A g N) ∧ r = 0)
theorem zq_cm_u {A : Nat → Prop} {g : Nat → Int32} {N : Nat} {r r' : Int32} (h : zq_cm A g N r) (h' : zq_cm A g N r') : r' = r := by
  rcases h with ⟨h1, m, h2, h3, h4⟩ | ⟨h1, h2⟩
  · rcases h' with ⟨h1', m', h2', h3', h4'⟩ | ⟨h1', h2'⟩
    · rw [h4, h4']; exact h1 m' m h2' h2 h3' h3
    · exact absurd ⟨⟨m, h2, h3⟩, h1⟩ h1'
  · rcases h' with ⟨h1', m', h2', h3', h4'⟩ | ⟨h1', h2'⟩
    · exact absurd ⟨⟨m', h2', h3'⟩, h1'⟩ h1
    · rw [h2, h2']
/-- the answer of dimOf -/
def zq_dr (A : Nat → Prop) (g s0 s1 s2 : Nat → Int32) (N : Nat) (r : Int32) : Prop :=
  (¬ zq_any A N ∧ r = 0) ∨ (zq_same A g N ∧ ∃ m, m < N ∧ A m ∧ r = g m) ∨
  (zq_any A N ∧ ¬ zq_same A g N ∧ ((zq_eqs A g s0 N ∧ r = -1) ∨ (¬ zq_eqs A g s0 N ∧ zq_eqs A g s1 N ∧ r = -2) ∨
    (¬ zq_eqs A g s0 N ∧ ¬ zq_eqs A g s1 N ∧ zq_eqs A g s2 N ∧ r = -3) ∨ (¬ zq_eqs A g s0 N ∧ ¬ zq_eqs A g s1 N ∧ ¬ zq_eqs A g s2 N ∧ r = -4)))
theorem zq_dr_u {A : Nat → Prop} {g s0 s1 s2 : Nat → Int32} {N : Nat} {r r' : Int32} (h : zq_dr A g s0 s1 s2 N r) (h' : zq_dr A g s0 s1 s2 N r') : r' = r := by
  rcases h with ⟨h1, h2⟩ | ⟨h1, m, h2, h3, h4⟩ | ⟨h1, h2, h3⟩
  · rcases h' with ⟨h1', h2'⟩ | ⟨h1', m', h2', h3', h4'⟩ | ⟨h1', h2', h3'⟩
    · rw [h2, h2']
    · exact absurd ⟨m', h2', h3'⟩ h1
    · exact absurd h1' h1
  · rcases h' with ⟨h1', h2'⟩ | ⟨h1', m', h2', h3', h4'⟩ | ⟨h1', h2', h3'⟩
    · exact absurd ⟨m, h2, h3⟩ h1'
    · rw [h4, h4']; exact h1 m' m h2' h2 h3' h3
    · exact absurd h1 h2'
  · rcases h' with ⟨h1', h2'⟩ | ⟨h1', m', h2', h3', h4'⟩ | ⟨h1', h2', h3'⟩
    · exact absurd h1 h1'
    · exact absurd h1' h2
    · rcases h3 with ⟨a1, a2⟩ | ⟨a1, a2, a3⟩ | ⟨a1, a2, a3, a4⟩ | ⟨a1, a2, a3, a4⟩ <;>
        rcases h3' with ⟨b1, b2⟩ | ⟨b1, b2, b3⟩ | ⟨b1, b2, b3, b4⟩ | ⟨b1, b2, b3, b4⟩ <;>
        first | (exact b2.trans a2.symm) | (exact b3.trans a3.symm) | (exact b4.trans a4.symm) | (exact absurd b1 a1) | (exact absurd a1 b1) | (exact absurd b2 a2) | (exact absurd a2 b2) | (exact absurd b3 a3) | (exact absurd a3 b3)
end
section
/-! the table of sizes, a stretch of 35 cells for each instantiation: pure -/
def zq_tb (D c : Nat) (K X Y Z : Nat → Int32) (rk : Nat → Nat) (sz tr : Nat → Int32) (n : Nat) : Prop :=
  sz (n * 35 + 32) = nI (n / (D * D) + 1) ∧ sz (n * 35 + 33) = nI (n / D % D + 1) ∧ sz (n * 35 + 34) = nI (n % D + 1) ∧
  ∃ (t : Nat) (R C : Nat → Nat), zq_sh D c K X Y Z rk (n / (D * D) + 1) (n / D % D + 1) (n % D + 1) t R C ∧
    (∀ i, i < t → sz (n * 35 + i * 2) = nI (R i) ∧ sz (n * 35 + i * 2 + 1) = nI (C i)) ∧
    ((t = c ∧ tr n = -1) ∨ (t < c ∧ tr n = nI t))
theorem zq_m1 {t : Nat} (h : t < 2 ^ 31) : ¬ nI t = -1 := by
  intro e
  have h1 := congrArg Int32.toInt e
  rw [nI_toInt h, show (-1 : Int32).toInt = -1 from by decide] at h1
  omega
theorem zq_tb_fr {D c m : Nat} {K X Y Z : Nat → Int32} {rk : Nat → Nat} {sz tr sz' tr' : Nat → Int32} (hc : c ≤ 16) (h : zq_tb D c K X Y Z rk sz tr m) (hs : ∀ j, j < 35 → sz' (m * 35 + j) = sz (m * 35 + j)) (ht : tr' m = tr m) : zq_tb D c K X Y Z rk sz' tr' m := by
  obtain ⟨h1, h2, h3, t, R, C, h4, h5, h6⟩ := h
  refine ⟨by rw [hs 32 (by omega)]; exact h1, by rw [hs 33 (by omega)]; exact h2, by rw [hs 34 (by omega)]; exact h3, t, R, C, h4, fun i hi => ?_, by rw [ht]; exact h6⟩
  have ht' := h4.1
  have e0 := hs (i * 2) (by omega)
  have e1 := hs (i * 2 + 1) (by omega)
  rw [← Nat.add_assoc] at e1
  rw [e0, e1]
  exact h5 i hi
def zq_ex (c r : Nat) (f : Nat → Nat) : Nat → Nat := fun j => if j = c then r else f j
theorem zq_ex_s {c r : Nat} {f : Nat → Nat} : zq_ex c r f c = r := if_pos rfl
theorem zq_ex_n {c r j : Nat} {f : Nat → Nat} (h : j < c) : zq_ex c r f j = f j := if_neg (by omega)
section
variable {D c a b d t : Nat} {K X Y Z : Nat → Int32} {rk rk' R C : Nat → Nat} {k x y z : Int32}
theorem zq_sh_old (hc : c < 2 ^ 31) (hn : ∀ i, i < c → zq_nd D i rk (K i) (X i) (Y i) (Z i)) (er : ∀ j, j < c → rk' j = rk j) (h : zq_sh D c K X Y Z rk a b d t R C) (ht : t < c) : zq_sh D (c + 1) (upd K c k) (upd X c x) (upd Y c y) (upd Z c z) rk' a b d t R C := by
  obtain ⟨h1, h2, h3⟩ := h
  refine ⟨by omega, fun i hi => ?_, fun _ => ?_⟩
  · rw [pk_un (f := K) (by omega), pk_un (f := X) (by omega), pk_un (f := Y) (by omega), pk_un (f := Z) (by omega), er i (by omega), zq_ru_c (by omega) (hn i (by omega)) (fun j hj => er j (by omega)) (fun _ _ => rfl) (fun _ _ => rfl)]
    exact h2 i hi
  · rw [pk_un (f := K) (by omega), pk_un (f := X) (by omega), pk_un (f := Y) (by omega), pk_un (f := Z) (by omega), zq_ru_c (by omega) (hn t ht) (fun j hj => er j (by omega)) (fun _ _ => rfl) (fun _ _ => rfl)]
    exact h3 ht
theorem zq_sh_trap (hc : c < 2 ^ 31) (hn : ∀ i, i < c → zq_nd D i rk (K i) (X i) (Y i) (Z i)) (er : ∀ j, j < c → rk' j = rk j) (h : zq_sh D c K X Y Z rk a b d c R C) (e : zq_ru k x y z a b d rk' R C = none) : zq_sh D (c + 1) (upd K c k) (upd X c x) (upd Y c y) (upd Z c z) rk' a b d c R C := by
  obtain ⟨h1, h2, h3⟩ := h
  refine ⟨by omega, fun i hi => ?_, fun _ => ?_⟩
  · rw [pk_un (f := K) (by omega), pk_un (f := X) (by omega), pk_un (f := Y) (by omega), pk_un (f := Z) (by omega), er i (by omega), zq_ru_c (by omega) (hn i (by omega)) (fun j hj => er j (by omega)) (fun _ _ => rfl) (fun _ _ => rfl)]
    exact h2 i hi
  · rw [pk_us, pk_us, pk_us, pk_us]
    exact e
theorem zq_sh_ok {r s : Nat} (hc : c < 2 ^ 31) (hn : ∀ i, i < c → zq_nd D i rk (K i) (X i) (Y i) (Z i)) (hn' : zq_nd D c rk' k x y z) (er : ∀ j, j < c → rk' j = rk j) (h : zq_sh D c K X Y Z rk a b d c R C) (e : zq_ru k x y z a b d rk' R C = some (r, s)) (hg : zq_good D (rk' c) r s) : zq_sh D (c + 1) (upd K c k) (upd X c x) (upd Y c y) (upd Z c z) rk' a b d (c + 1) (zq_ex c r R) (zq_ex c s C) := by
  obtain ⟨h1, h2, h3⟩ := h
  refine ⟨by omega, fun i hi => ?_, fun z => absurd z (by omega)⟩
  by_cases hic : i = c
  · subst hic
    rw [pk_us, pk_us, pk_us, pk_us, zq_ex_s, zq_ex_s, zq_ru_c hc hn' (fun j hj => rfl) (fun j hj => zq_ex_n hj) (fun j hj => zq_ex_n hj)]
    exact ⟨hg, e⟩
  · have hi' : i < c := by omega
    rw [pk_un (f := K) (by omega), pk_un (f := X) (by omega), pk_un (f := Y) (by omega), pk_un (f := Z) (by omega), er i (by omega), zq_ex_n hi', zq_ex_n hi', zq_ru_c (by omega) (hn i hi') (fun j hj => er j (by omega)) (fun j hj => zq_ex_n (by omega)) (fun j hj => zq_ex_n (by omega))]
    exact h2 i hi'
end
section
variable {D c n : Nat} {K X Y Z : Nat → Int32} {rk rk' : Nat → Nat} {k x y z : Int32} {sz tr sz' tr' : Nat → Int32}
theorem zq_tb_old (hc : c < 16) (hn : ∀ i, i < c → zq_nd D i rk (K i) (X i) (Y i) (Z i)) (er : ∀ j, j < c → rk' j = rk j) (h : zq_tb D c K X Y Z rk sz tr n) (ht : ¬ tr n = -1) : zq_tb D (c + 1) (upd K c k) (upd X c x) (upd Y c y) (upd Z c z) rk' sz tr n := by
  obtain ⟨h1, h2, h3, t, R, C, h4, h5, h6⟩ := h
  rcases h6 with ⟨_, h6⟩ | ⟨h7, h6⟩
  · exact absurd h6 ht
  · exact ⟨h1, h2, h3, t, R, C, zq_sh_old (by omega) hn er h4 h7, h5, Or.inr ⟨by omega, h6⟩⟩
/-- what a step that shapes node c under n may do to the table -/
theorem zq_tb_new (hc : c < 16) (hn : ∀ i, i < c → zq_nd D i rk (K i) (X i) (Y i) (Z i)) (hn' : zq_nd D c rk' k x y z) (er : ∀ j, j < c → rk' j = rk j)
    (h1 : sz (n * 35 + 32) = nI (n / (D * D) + 1)) (h2 : sz (n * 35 + 33) = nI (n / D % D + 1)) (h3 : sz (n * 35 + 34) = nI (n % D + 1))
    {R C : Nat → Nat} (h4 : zq_sh D c K X Y Z rk (n / (D * D) + 1) (n / D % D + 1) (n % D + 1) c R C) (h5 : ∀ i, i < c → sz (n * 35 + i * 2) = nI (R i) ∧ sz (n * 35 + i * 2 + 1) = nI (C i))
    (fr : ∀ j, j ≠ n * 35 + c * 2 → j ≠ n * 35 + c * 2 + 1 → sz' j = sz j)
    (w : (∃ r s, zq_ru k x y z (n / (D * D) + 1) (n / D % D + 1) (n % D + 1) rk' R C = some (r, s) ∧ zq_good D (rk' c) r s ∧ sz' (n * 35 + c * 2) = nI r ∧ sz' (n * 35 + c * 2 + 1) = nI s ∧ tr' n = -1) ∨
      (zq_ru k x y z (n / (D * D) + 1) (n / D % D + 1) (n % D + 1) rk' R C = none ∧ tr' n = nI c)) :
    zq_tb D (c + 1) (upd K c k) (upd X c x) (upd Y c y) (upd Z c z) rk' sz' tr' n := by
  refine ⟨by rw [fr _ (by omega) (by omega)]; exact h1, by rw [fr _ (by omega) (by omega)]; exact h2, by rw [fr _ (by omega) (by omega)]; exact h3, ?_⟩
  rcases w with ⟨r, s, e, hg, e1, e2, e3⟩ | ⟨e, e3⟩
  · refine ⟨c + 1, zq_ex c r R, zq_ex c s C, zq_sh_ok (by omega) hn hn' er h4 e hg, fun i hi => ?_, Or.inl ⟨rfl, e3⟩⟩
    by_cases hic : i = c
    · subst hic
      rw [zq_ex_s, zq_ex_s]
      exact ⟨e1, e2⟩
    · rw [zq_ex_n (by omega), zq_ex_n (by omega), fr _ (by omega) (by omega), fr _ (by omega) (by omega)]
      exact h5 i (by omega)
  · refine ⟨c, R, C, zq_sh_trap (by omega) hn er h4 e, fun i hi => ?_, Or.inr ⟨by omega, e3⟩⟩
    rw [fr _ (by omega) (by omega), fr _ (by omega) (by omega)]
    exact h5 i hi
end
end
section
/-! the value rule of a node: pure -/
def zq_f (k x y : Int32) (i : Nat) (d : Nat → Int32) (rk R C : Nat → Nat) : (Nat → Int32) → Nat → Int32 :=
  if k = 1 then zq_fin d (i * 36)
  else if k = 2 ∨ k = 3 then zq_fbc k x.toNatClampNeg y.toNatClampNeg (R x.toNatClampNeg) (C x.toNatClampNeg) (R y.toNatClampNeg) (C y.toNatClampNeg) (C i)
  else if k = 4 then zq_fmm x.toNatClampNeg y.toNatClampNeg (C x.toNatClampNeg) (C i)
  else if k = 5 then (if rk x.toNatClampNeg = 2 then zq_ftr x.toNatClampNeg (R i) (C i) else zq_fcp x.toNatClampNeg)
  else if k = 6 then zq_fcp x.toNatClampNeg
  else (if rk x.toNatClampNeg = 2 ∧ y = 0 then zq_fsc x.toNatClampNeg (R x.toNatClampNeg) (C x.toNatClampNeg) else zq_fsr x.toNatClampNeg (C x.toNatClampNeg))
section
variable {x y k : Int32} {p q i : Nat} {d : Nat → Int32} {rk R C : Nat → Nat}
theorem zq_f1 : zq_f 1 x y i d rk R C = zq_fin d (i * 36) := if_pos rfl
theorem zq_f2 (hp : p < 2 ^ 31) (hq : q < 2 ^ 31) (hk : k = 2 ∨ k = 3) : zq_f k (nI p) (nI q) i d rk R C = zq_fbc k p q (R p) (C p) (R q) (C q) (C i) := by
  unfold zq_f
  rw [if_neg (by rcases hk with rfl | rfl <;> decide), if_pos hk, nI_clamp hp, nI_clamp hq]
theorem zq_f4 (hp : p < 2 ^ 31) (hq : q < 2 ^ 31) : zq_f 4 (nI p) (nI q) i d rk R C = zq_fmm p q (C p) (C i) := by
  unfold zq_f
  rw [if_neg (by decide), if_neg (by decide), if_pos rfl, nI_clamp hp, nI_clamp hq]
theorem zq_f5t (hp : p < 2 ^ 31) (h : rk p = 2) : zq_f 5 (nI p) y i d rk R C = zq_ftr p (R i) (C i) := by
  unfold zq_f
  rw [if_neg (by decide), if_neg (by decide), if_neg (by decide), if_pos rfl, nI_clamp hp, if_pos h]
theorem zq_f5c (hp : p < 2 ^ 31) (h : ¬ rk p = 2) : zq_f 5 (nI p) y i d rk R C = zq_fcp p := by
  unfold zq_f
  rw [if_neg (by decide), if_neg (by decide), if_neg (by decide), if_pos rfl, nI_clamp hp, if_neg h]
theorem zq_f6 (hp : p < 2 ^ 31) : zq_f 6 (nI p) y i d rk R C = zq_fcp p := by
  unfold zq_f
  rw [if_neg (by decide), if_neg (by decide), if_neg (by decide), if_neg (by decide), if_pos rfl, nI_clamp hp]
theorem zq_f7c (hp : p < 2 ^ 31) (h : rk p = 2 ∧ y = 0) : zq_f 7 (nI p) y i d rk R C = zq_fsc p (R p) (C p) := by
  unfold zq_f
  rw [if_neg (by decide), if_neg (by decide), if_neg (by decide), if_neg (by decide), if_neg (by decide), nI_clamp hp, if_pos h]
theorem zq_f7r (hp : p < 2 ^ 31) (h : ¬ (rk p = 2 ∧ y = 0)) : zq_f 7 (nI p) y i d rk R C = zq_fsr p (C p) := by
  unfold zq_f
  rw [if_neg (by decide), if_neg (by decide), if_neg (by decide), if_neg (by decide), if_neg (by decide), nI_clamp hp, if_neg h]
end
/-- the elements after the first i nodes are computed -/
def zq_ev (K X Y d : Nat → Int32) (rk R C : Nat → Nat) (v : Nat → Int32) : Nat → (Nat → Int32)
  | 0 => v
  | i + 1 => zq_fo (zq_f (K i) (X i) (Y i) i d rk R C) (i * 36) (zq_ev K X Y d rk R C v i) (R i * C i)
end
section
/-! the class: reading methods and shape rules -/
section
variable {mx ins cnt st cp : Int32} {K X Y Z rs dt sz tr bd el : Nat → Int32}
theorem zx_rows {post : Int32 → Prop} {b i : Nat} (h : b + i * 2 < 7560) (hp : post (sz (b + i * 2))) : wpX_rows post (mx, ins, cnt, st, cp, K, X, Y, Z, rs, dt, sz, tr, bd, el) (nI b) (nI i) := by
  have e : nI b + nI i * 2 = nI (b + i * 2) := by rw [zq_m2, nI_add]
  unfold wpX_rows
  dsimp only
  rw [e, nI_clamp (by omega)]
  exact ⟨vp_in_nI h (by omega), hp⟩
theorem zx_cols {post : Int32 → Prop} {b i : Nat} (h : b + i * 2 + 1 < 7560) (hp : post (sz (b + i * 2 + 1))) : wpX_columns post (mx, ins, cnt, st, cp, K, X, Y, Z, rs, dt, sz, tr, bd, el) (nI b) (nI i) := by
  have e : nI b + nI i * 2 + 1 = nI (b + i * 2 + 1) := by rw [zq_m2, nI_add, nI_1]
  unfold wpX_columns
  dsimp only
  rw [e, nI_clamp (by omega)]
  exact ⟨vp_in_nI h (by omega), hp⟩
theorem zx_elc {post : Int32 → Prop} {b i : Nat} (h : b + i * 2 + 1 < 7560) (hp : post (sz (b + i * 2) * sz (b + i * 2 + 1))) : wpX_elementCount post (mx, ins, cnt, st, cp, K, X, Y, Z, rs, dt, sz, tr, bd, el) (nI b) (nI i) := by
  have e : nI b + nI i * 2 = nI (b + i * 2) := by rw [zq_m2, nI_add]
  unfold wpX_elementCount
  dsimp only
  refine nm_r e ?_
  rw [nI_1, nI_clamp (by omega), nI_clamp (by omega)]
  exact ⟨vp_in_nI (by omega) (by omega), vp_in_nI h (by omega), hp⟩
theorem zx_set {post : Int32 → St2 → Prop} {b i : Nat} {r c : Int32} (h : b + i * 2 + 1 < 7560) (hp : post 1 (mx, ins, cnt, st, cp, K, X, Y, Z, rs, dt, upd (upd sz (b + i * 2) r) (b + i * 2 + 1) c, tr, bd, el)) : wpX_setShape post (mx, ins, cnt, st, cp, K, X, Y, Z, rs, dt, sz, tr, bd, el) (nI b) (nI i) r c := by
  have e : nI b + nI i * 2 = nI (b + i * 2) := by rw [zq_m2, nI_add]
  unfold wpX_setShape
  dsimp only
  rw [e, nI_1, nI_clamp (by omega), nI_clamp (by omega)]
  exact ⟨vp_in_nI (by omega) (by omega), nm_e ⟨vp_in_nI h (by omega), nm_e hp⟩⟩
theorem zx_soc {post : Int32 → Prop} {D b a0 a1 a2 : Nat} {x : Int32} (h6 : D ≤ 6) (hb : b + 34 < 7560) (hc : zq_code D x) (e0 : sz (b + 32) = nI a0) (e1 : sz (b + 33) = nI a1) (e2 : sz (b + 34) = nI a2) (hp : post (nI (zq_cv x a0 a1 a2))) : wpX_sizeOfCode post (mx, ins, cnt, st, cp, K, X, Y, Z, rs, dt, sz, tr, bd, el) (nI b) x := by
  unfold wpX_sizeOfCode
  dsimp only
  rcases hc with ⟨d, h1, h2, rfl⟩ | rfl | rfl | rfl
  · rw [zq_cv_d h1 (by omega)] at hp
    exact br_f (nI_nle h1 (by omega)) hp
  · rw [zq_cv_1] at hp
    refine br_t (by decide) ?_
    have e : nI b + 32 - (-1) - 1 = nI (b + 32) := by
      rw [← nI_add b 32]
      show nI b + 32 - (-1) - 1 = nI b + 32
      grind
    rw [e, nI_clamp (by omega), e0]
    exact ⟨vp_in_nI (by omega) (by omega), hp⟩
  · rw [zq_cv_2] at hp
    refine br_t (by decide) ?_
    have e : nI b + 32 - (-2) - 1 = nI (b + 33) := by
      rw [← nI_add b 33]
      show nI b + 32 - (-2) - 1 = nI b + 33
      grind
    rw [e, nI_clamp (by omega), e1]
    exact ⟨vp_in_nI (by omega) (by omega), hp⟩
  · rw [zq_cv_3] at hp
    refine br_t (by decide) ?_
    have e : nI b + 32 - (-3) - 1 = nI (b + 34) := by
      rw [← nI_add b 34]
      show nI b + 32 - (-3) - 1 = nI b + 34
      grind
    rw [e, nI_clamp (by omega), e2]
    exact ⟨vp_in_nI (by omega) (by omega), hp⟩
theorem zx_spec {post : Int32 → St2 → Prop} {D b i a0 a1 a2 : Nat} {p q : Int32} (h6 : D ≤ 6) (hb : b + 34 < 7560) (hi : i < 16) (hs : zq_spec D p q) (e0 : sz (b + 32) = nI a0) (e1 : sz (b + 33) = nI a1) (e2 : sz (b + 34) = nI a2)
    (hp : post 1 (mx, ins, cnt, st, cp, K, X, Y, Z, rs, dt, upd (upd sz (b + i * 2) (nI (zq_sp p q a0 a1 a2).1)) (b + i * 2 + 1) (nI (zq_sp p q a0 a1 a2).2), tr, bd, el)) : wpX_shapeSpec post (mx, ins, cnt, st, cp, K, X, Y, Z, rs, dt, sz, tr, bd, el) (nI b) (nI i) p q := by
  unfold wpX_shapeSpec
  dsimp only
  unfold zq_sp at hp
  rcases hs with ⟨rfl, rfl⟩ | ⟨hc, rfl⟩ | ⟨hc, hc'⟩
  · rw [if_pos rfl, if_pos rfl] at hp
    refine br_t rfl (br_t rfl ?_)
    unfold wX_shapeSpec_47
    exact zx_set (by omega) ⟨rfl, hp⟩
  · rw [if_pos rfl, if_neg (zq_code_ne h6 hc)] at hp
    refine br_t rfl (br_f (zq_code_ne h6 hc) ?_)
    refine zx_soc h6 hb hc e0 e1 e2 ?_
    unfold wX_shapeSpec_47
    exact zx_set (by omega) ⟨rfl, hp⟩
  · rw [if_neg (zq_code_ne h6 hc')] at hp
    refine br_f (zq_code_ne h6 hc') ?_
    refine zx_soc h6 hb hc e0 e1 e2 ?_
    refine zx_soc h6 hb hc' e0 e1 e2 ?_
    exact zx_set (by omega) ⟨rfl, hp⟩
theorem zx_bro {post : Int32 → Prop} {u v : Nat} (hu : u < 100) (hv : v < 100) (ht : (u = v ∨ u = 1 ∨ v = 1) → post 1) (hf : ¬ (u = v ∨ u = 1 ∨ v = 1) → post 0) : wpX_broadcasts post () (nI u) (nI v) :=
  pk_eq u v (fun e => ht (Or.inl e)) (fun n1 => pk_eq u 1 (fun e => ht (Or.inr (Or.inl e))) (fun n2 => pk_eq v 1 (fun e => ht (Or.inr (Or.inr e))) (fun n3 => hf (by omega))))
theorem zx_shBc {post : Int32 → St2 → Prop} {b i p q Rp Rq Cp Cq : Nat} (hb : b + 34 < 7560) (hi : i < 16) (hp : p < i) (hq : q < i) (ex : X i = nI p) (ey : Y i = nI q)
    (r0 : Rp < 100) (r1 : Rq < 100) (c0 : Cp < 100) (c1 : Cq < 100)
    (er : sz (b + p * 2) = nI Rp) (ec : sz (b + p * 2 + 1) = nI Cp) (fr : sz (b + q * 2) = nI Rq) (fc : sz (b + q * 2 + 1) = nI Cq)
    (ok : ((Rp = Rq ∨ Rp = 1 ∨ Rq = 1) ∧ (Cp = Cq ∨ Cp = 1 ∨ Cq = 1)) → post 1 (mx, ins, cnt, st, cp, K, X, Y, Z, rs, dt, upd (upd sz (b + i * 2) (nI (if Rp = 1 then Rq else Rp))) (b + i * 2 + 1) (nI (if Cp = 1 then Cq else Cp)), tr, bd, el))
    (no : ¬ ((Rp = Rq ∨ Rp = 1 ∨ Rq = 1) ∧ (Cp = Cq ∨ Cp = 1 ∨ Cq = 1)) → post 0 (mx, ins, cnt, st, cp, K, X, Y, Z, rs, dt, sz, tr, bd, el)) : wpX_shapeBroadcast post (mx, ins, cnt, st, cp, K, X, Y, Z, rs, dt, sz, tr, bd, el) (nI b) (nI i) := by
  unfold wpX_shapeBroadcast
  dsimp only
  rw [nI_clamp (by omega)]
  refine ⟨vp_in_nI hi (by omega), nm_r ex ⟨vp_in_nI hi (by omega), nm_r ey ?_⟩⟩
  refine zx_rows (by omega) (zx_rows (by omega) (zx_cols (by omega) (zx_cols (by omega) ?_)))
  rw [er, ec, fr, fc]
  refine zx_bro r0 r1 (fun h1 => br_f (by decide) ?_) (fun h1 => br_t rfl (no (fun z => h1 z.1)))
  refine zx_bro c0 c1 (fun h2 => br_f (by decide) ?_) (fun h2 => br_t rfl (no (fun z => h2 z.2)))
  have ok := ok ⟨h1, h2⟩
  refine pk_eq Rp 1 (fun z1 => ?_) (fun z1 => ?_)
  · rw [if_pos z1] at ok
    unfold wX_shapeBroadcast_84
    refine pk_eq Cp 1 (fun z2 => ?_) (fun z2 => ?_)
    · rw [if_pos z2] at ok
      unfold wX_shapeBroadcast_99
      exact zx_set (by omega) ⟨rfl, ok⟩
    · rw [if_neg z2] at ok
      unfold wX_shapeBroadcast_99
      exact zx_set (by omega) ⟨rfl, ok⟩
  · rw [if_neg z1] at ok
    unfold wX_shapeBroadcast_84
    refine pk_eq Cp 1 (fun z2 => ?_) (fun z2 => ?_)
    · rw [if_pos z2] at ok
      unfold wX_shapeBroadcast_99
      exact zx_set (by omega) ⟨rfl, ok⟩
    · rw [if_neg z2] at ok
      unfold wX_shapeBroadcast_99
      exact zx_set (by omega) ⟨rfl, ok⟩
theorem zx_shMm {post : Int32 → St2 → Prop} {b i p q Rp Rq Cp Cq : Nat} (hb : b + 34 < 7560) (hi : i < 16) (hp : p < i) (hq : q < i) (ex : X i = nI p) (ey : Y i = nI q)
    (r1 : Rq < 100) (c0 : Cp < 100)
    (er : sz (b + p * 2) = nI Rp) (ec : sz (b + p * 2 + 1) = nI Cp) (fr : sz (b + q * 2) = nI Rq) (fc : sz (b + q * 2 + 1) = nI Cq)
    (ok : Cp = Rq → post 1 (mx, ins, cnt, st, cp, K, X, Y, Z, rs, dt, upd (upd sz (b + i * 2) (nI Rp)) (b + i * 2 + 1) (nI Cq), tr, bd, el))
    (no : ¬ Cp = Rq → post 0 (mx, ins, cnt, st, cp, K, X, Y, Z, rs, dt, sz, tr, bd, el)) : wpX_shapeMatmul post (mx, ins, cnt, st, cp, K, X, Y, Z, rs, dt, sz, tr, bd, el) (nI b) (nI i) := by
  unfold wpX_shapeMatmul
  dsimp only
  rw [nI_clamp (by omega)]
  refine ⟨vp_in_nI hi (by omega), nm_r ex ⟨vp_in_nI hi (by omega), nm_r ey ?_⟩⟩
  refine zx_cols (by omega) (zx_rows (by omega) ?_)
  rw [ec, fr]
  refine pk_eq Cp Rq (fun z => ?_) (fun z => no z)
  refine zx_rows (by omega) (zx_cols (by omega) ?_)
  rw [er, fc]
  exact zx_set (by omega) ⟨rfl, ok z⟩
theorem zx_shTr {post : Int32 → St2 → Prop} {b i p Rp Cp r : Nat} (hb : b + 34 < 7560) (hi : i < 16) (hp : p < i) (ex : X i = nI p) (hr : r ≤ 2) (eR : rs i = nI r)
    (er : sz (b + p * 2) = nI Rp) (ec : sz (b + p * 2 + 1) = nI Cp)
    (o2 : r = 2 → post 1 (mx, ins, cnt, st, cp, K, X, Y, Z, rs, dt, upd (upd sz (b + i * 2) (nI Cp)) (b + i * 2 + 1) (nI Rp), tr, bd, el))
    (o1 : ¬ r = 2 → post 1 (mx, ins, cnt, st, cp, K, X, Y, Z, rs, dt, upd (upd sz (b + i * 2) (nI Rp)) (b + i * 2 + 1) (nI Cp), tr, bd, el)) : wpX_shapeTranspose post (mx, ins, cnt, st, cp, K, X, Y, Z, rs, dt, sz, tr, bd, el) (nI b) (nI i) := by
  unfold wpX_shapeTranspose
  dsimp only
  rw [nI_clamp (by omega), ex]
  refine ⟨vp_in_nI hi (by omega), zx_rows (by omega) ⟨vp_in_nI hi (by omega), zx_cols (by omega) ⟨vp_in_nI hi (by omega), ?_⟩⟩⟩
  rw [er, ec]
  refine pk_eq r 2 (fun z => ?_) (fun z => ?_) eR rfl
  · exact zx_set (by omega) ⟨rfl, o2 z⟩
  · exact zx_set (by omega) ⟨rfl, o1 z⟩
theorem zx_smr {post : Int32 → Prop} {i p r : Nat} (hi : i < 16) (hp : p < i) (ex : X i = nI p) (hr : r ≤ 2) (eR : rs p = nI r) (h1 : r = 2 ∧ Y i = 0 → post 1) (h0 : ¬ (r = 2 ∧ Y i = 0) → post 0) : wpX_sumsRows post (mx, ins, cnt, st, cp, K, X, Y, Z, rs, dt, sz, tr, bd, el) (nI i) := by
  unfold wpX_sumsRows
  dsimp only
  rw [nI_clamp (by omega), ex, nI_clamp (by omega)]
  refine ⟨vp_in_nI hi (by omega), vp_in_nI (by omega) (by omega), ?_⟩
  refine pk_eq r 2 (fun z => ⟨vp_in_nI hi (by omega), br_c (fun z2 => h1 ⟨z, z2⟩) (fun z2 => h0 (fun w => z2 w.2))⟩) (fun z => h0 (fun w => z w.1)) eR rfl
theorem zx_shSu {post : Int32 → St2 → Prop} {b i p Rp Cp r : Nat} (hb : b + 34 < 7560) (hi : i < 16) (hp : p < i) (ex : X i = nI p) (hr : r ≤ 2) (eR : rs p = nI r)
    (er : sz (b + p * 2) = nI Rp) (ec : sz (b + p * 2 + 1) = nI Cp)
    (ok : post 1 (mx, ins, cnt, st, cp, K, X, Y, Z, rs, dt, upd (upd sz (b + i * 2) (nI 1)) (b + i * 2 + 1) (nI (if r = 2 ∧ Y i = 0 then Cp else Rp)), tr, bd, el)) : wpX_shapeSum post (mx, ins, cnt, st, cp, K, X, Y, Z, rs, dt, sz, tr, bd, el) (nI b) (nI i) := by
  unfold wpX_shapeSum
  dsimp only
  refine zx_smr hi hp ex hr eR (fun z => ?_) (fun z => ?_)
  · rw [if_pos z] at ok
    refine br_f (by decide) ⟨vp_in_nI hi (by omega), ?_⟩
    rw [nI_clamp (by omega), ex]
    refine zx_cols (by omega) ?_
    rw [ec]
    unfold wX_shapeSum_33
    exact zx_set (by omega) ⟨rfl, ok⟩
  · rw [if_neg z] at ok
    refine br_t rfl ⟨vp_in_nI hi (by omega), ?_⟩
    rw [nI_clamp (by omega), ex]
    refine zx_rows (by omega) ?_
    rw [er]
    unfold wX_shapeSum_33
    exact zx_set (by omega) ⟨rfl, ok⟩
theorem zx_upd2 {f : Nat → Int32} {k : Nat} {r s : Int32} : (∀ j, j ≠ k → j ≠ k + 1 → upd (upd f k r) (k + 1) s j = f j) ∧ upd (upd f k r) (k + 1) s k = r ∧ upd (upd f k r) (k + 1) s (k + 1) = s :=
  ⟨fun j h1 h2 => by rw [pk_un h2, pk_un h1], by rw [pk_un (by omega), pk_us], pk_us⟩
theorem zx_shape {post : Int32 → St2 → Prop} {D b i a0 a1 a2 : Nat} {rk R C : Nat → Nat} (h6 : D ≤ 6) (hb : b + 34 < 7560) (hi : i < 16) (hn : zq_nd D i rk (K i) (X i) (Y i) (Z i))
    (hr : ∀ j, j ≤ i → rs j = nI (rk j) ∧ rk j ≤ 2) (e0 : sz (b + 32) = nI a0) (e1 : sz (b + 33) = nI a1) (e2 : sz (b + 34) = nI a2)
    (hc : ∀ j, j < i → sz (b + j * 2) = nI (R j) ∧ sz (b + j * 2 + 1) = nI (C j)) (hg : ∀ j, j < i → R j ≤ 6 ∧ C j ≤ 6) (hv : ∀ p q, zq_spec D p q → (zq_sp p q a0 a1 a2).1 ≤ 6 ∧ (zq_sp p q a0 a1 a2).2 ≤ 6)
    (ok : ∀ r s sz', zq_ru (K i) (X i) (Y i) (Z i) a0 a1 a2 rk R C = some (r, s) → (∀ j, j ≠ b + i * 2 → j ≠ b + i * 2 + 1 → sz' j = sz j) → sz' (b + i * 2) = nI r → sz' (b + i * 2 + 1) = nI s → post 1 (mx, ins, cnt, st, cp, K, X, Y, Z, rs, dt, sz', tr, bd, el))
    (no : ∀ sz', zq_ru (K i) (X i) (Y i) (Z i) a0 a1 a2 rk R C = none → (∀ j, j ≠ b + i * 2 → j ≠ b + i * 2 + 1 → sz' j = sz j) → post 0 (mx, ins, cnt, st, cp, K, X, Y, Z, rs, dt, sz', tr, bd, el)) : wpX_shape post (mx, ins, cnt, st, cp, K, X, Y, Z, rs, dt, sz, tr, bd, el) (nI b) (nI i) := by
  unfold wpX_shape
  dsimp only
  rw [nI_clamp (by omega)]
  refine ⟨vp_in_nI hi (by omega), ?_⟩
  rcases hn with ⟨ek, h2, h3⟩ | ⟨p, q, hp, hq, ex, ey, ek, h4⟩ | ⟨p, q, hp, hq, ex, ey, ek, h4, h5, h7⟩ | ⟨p, hp, ex, ek, h3⟩ | ⟨p, hp, ex, ek, h3, h4⟩ | ⟨p, s, hp, ex, ek, h3, h4, h5⟩
  · refine nm_r ek (br_f (by decide) (br_f (by decide) (br_t rfl ⟨vp_in_nI hi (by omega), vp_in_nI hi (by omega), ?_⟩)))
    refine zx_spec h6 hb hi h2 e0 e1 e2 ⟨rfl, ?_⟩
    exact ok _ _ _ (by rw [ek]; exact zq_ru1) zx_upd2.1 zx_upd2.2.1 zx_upd2.2.2
  · have main : wX_shape_63 post (nI b) (nI i) mx ins cnt st cp K X Y Z rs dt sz tr bd el := by
      unfold wX_shape_63
      rw [ex, ey, zq_ru2 (by omega) (by omega) ek] at ok no
      refine zx_shBc hb hi hp hq ex ey (by have := hg p hp; omega) (by have := hg q hq; omega) (by have := hg p hp; omega) (by have := hg q hq; omega) (hc p hp).1 (hc p hp).2 (hc q hq).1 (hc q hq).2 (fun z => ⟨rfl, ?_⟩) (fun z => ⟨rfl, ?_⟩)
      · exact ok _ _ _ (if_pos z) zx_upd2.1 zx_upd2.2.1 zx_upd2.2.2
      · exact no _ (if_neg z) (fun _ _ _ => rfl)
    rcases ek with ek | ek
    · exact nm_r ek (br_f (by decide) (br_f (by decide) (br_f (by decide) (br_t rfl main))))
    · exact nm_r ek (br_f (by decide) (br_f (by decide) (br_f (by decide) (br_f (by decide) (br_t rfl main)))))
  · refine nm_r ek (br_f (by decide) (br_f (by decide) (br_f (by decide) (br_f (by decide) (br_f (by decide) (br_t rfl ?_))))))
    rw [ek, ex, ey, zq_ru4 (by omega) (by omega)] at ok no
    refine zx_shMm hb hi hp hq ex ey (by have := hg q hq; omega) (by have := hg p hp; omega) (hc p hp).1 (hc p hp).2 (hc q hq).1 (hc q hq).2 (fun z => ⟨rfl, ?_⟩) (fun z => ⟨rfl, ?_⟩)
    · exact ok _ _ _ (if_pos z) zx_upd2.1 zx_upd2.2.1 zx_upd2.2.2
    · exact no _ (if_neg z) (fun _ _ _ => rfl)
  · refine nm_r ek (br_f (by decide) (br_f (by decide) (br_f (by decide) (br_f (by decide) (br_f (by decide) (br_f (by decide) (br_t rfl ?_)))))))
    rw [ek, ex, zq_ru5 (by omega)] at ok
    refine zx_shTr hb hi hp ex (hr i (by omega)).2 (hr i (by omega)).1 (hc p hp).1 (hc p hp).2 (fun z => ⟨rfl, ?_⟩) (fun z => ⟨rfl, ?_⟩)
    · exact ok _ _ _ (by rw [if_pos (by omega)]) zx_upd2.1 zx_upd2.2.1 zx_upd2.2.2
    · exact ok _ _ _ (by rw [if_neg (by omega)]) zx_upd2.1 zx_upd2.2.1 zx_upd2.2.2
  · refine nm_r ek (br_f (by decide) (br_f (by decide) (br_f (by decide) (br_f (by decide) (br_f (by decide) (br_f (by decide) (br_f (by decide) (br_t rfl ⟨vp_in_nI hi (by omega), vp_in_nI hi (by omega), ?_⟩))))))))
    rw [ek, ex, zq_ru6 (by omega)] at ok no
    refine zx_spec h6 hb hi h3 e0 e1 e2 (br_f (by decide) ⟨vp_in_nI hi (by omega), ?_⟩)
    dsimp only
    rw [ex]
    unfold wpX_sameCount
    dsimp only
    refine zx_elc (by omega) (zx_elc (by omega) ?_)
    have u := @zx_upd2 sz (b + i * 2) (nI (zq_sp (Y i) (Z i) a0 a1 a2).1) (nI (zq_sp (Y i) (Z i) a0 a1 a2).2)
    rw [u.2.1, u.2.2, u.1 _ (by omega) (by omega), u.1 _ (by omega) (by omega), (hc p hp).1, (hc p hp).2, pk_mul, pk_mul]
    have g := hg p hp
    have v := hv _ _ h3
    have g1 : R p * C p ≤ 6 * 6 := Nat.mul_le_mul g.1 g.2
    have g2 : (zq_sp (Y i) (Z i) a0 a1 a2).1 * (zq_sp (Y i) (Z i) a0 a1 a2).2 ≤ 6 * 6 := Nat.mul_le_mul v.1 v.2
    refine pk_eq _ _ (fun z => br_f (by decide) ?_) (fun z => br_t rfl ?_) rfl rfl (by omega) (by omega)
    · exact ok _ _ _ (if_pos z) u.1 u.2.1 u.2.2
    · exact no _ (if_neg z) u.1
  · refine nm_r ek (br_f (by decide) (br_t (by decide) ?_))
    rw [ek, ex, zq_ru7 (by omega)] at ok
    refine zx_shSu hb hi hp ex (hr p (by omega)).2 (hr p (by omega)).1 (hc p hp).1 (hc p hp).2 ⟨rfl, ?_⟩
    exact ok _ _ _ rfl zx_upd2.1 zx_upd2.2.1 zx_upd2.2.2
end
end
section
/-! arguments: both sides -/
theorem zq_ckl {x : Int32} {c : Nat} {A B : Prop} (hc : c < 2 ^ 31) (ok : ∀ j, j < c → x = nI j → A) (no : ¬ (∃ j, j < c ∧ x = nI j) → B) : (x < 0 → B) ∧ (¬ x < 0 → ((x < nI c → A) ∧ (¬ x < nI c → B))) := by
  refine br_c (fun h => no ?_) (fun h => br_c (fun h1 => ?_) (fun h1 => no ?_))
  · intro ⟨j, hj, e⟩
    rw [e] at h
    exact nI_pos (by omega) h
  · obtain ⟨j, hj, rfl⟩ := nI_of h
    exact ok j ((nI_ltI hj hc).mp h1) rfl
  · intro ⟨j, hj, e⟩
    rw [e] at h1
    exact h1 (nI_lt hj hc)
theorem zq_cke {x : Int32} {c : Nat} {A B : Prop} (hc : c < 2 ^ 31) (ok : ∀ j, j < c → x = nI j → A) (no : ¬ (∃ j, j < c ∧ x = nI j) → B) : (x < 0 → B) ∧ (¬ x < 0 → ((nI c ≤ x → B) ∧ (¬ nI c ≤ x → A))) := by
  refine br_c (fun h => no ?_) (fun h => br_c (fun h1 => no ?_) (fun h1 => ?_))
  · intro ⟨j, hj, e⟩
    rw [e] at h
    exact nI_pos (by omega) h
  · intro ⟨j, hj, e⟩
    rw [e] at h1
    exact nI_ge hj hc h1
  · obtain ⟨j, hj, rfl⟩ := nI_of h
    have h2 : ¬ c ≤ j := fun z => h1 ((nI_leI hc hj).mpr z)
    exact ok j (by omega) rfl
theorem zq_ge1 {x : Int32} (h : ¬ x < 1) : ∃ d, d + 1 < 2 ^ 31 ∧ x = nI (d + 1) := by
  have h0 : ¬ x < 0 := fun z => h (Int32.lt_of_lt_of_le z (by decide))
  obtain ⟨j, hj, rfl⟩ := nI_of h0
  have h1 : ¬ j < 1 := fun z => h ((nI_ltI (b := 1) hj (by omega)).mpr z)
  refine ⟨j - 1, by omega, ?_⟩
  rw [Nat.sub_add_cancel (by omega)]
theorem zq_szl {x : Int32} {D : Nat} {A B : Prop} (hD : D < 2 ^ 31) (ok : ∀ d, d < D → x = nI (d + 1) → A) (no : ¬ (∃ d, d < D ∧ x = nI (d + 1)) → B) : (x < 1 → B) ∧ (¬ x < 1 → ((nI D < x → B) ∧ (¬ nI D < x → A))) := by
  refine br_c (fun h => no ?_) (fun h => br_c (fun h1 => no ?_) (fun h1 => ?_))
  · intro ⟨d, hd, e⟩
    rw [e] at h
    exact nI_nlt (b := 1) (by omega) (by omega) h
  · intro ⟨d, hd, e⟩
    rw [e] at h1
    exact nI_nlt (by omega) (by omega) h1
  · obtain ⟨d, hd, rfl⟩ := zq_ge1 h
    have h2 : ¬ D < d + 1 := fun z => h1 ((nI_ltI hD hd).mpr z)
    exact ok d (by omega) rfl
theorem zq_sze {x : Int32} {D : Nat} {A B : Prop} (hD : D < 2 ^ 31) (ok : ∀ d, d < D → x = nI (d + 1) → A) (no : ¬ (∃ d, d < D ∧ x = nI (d + 1)) → B) : (x < 1 → B) ∧ (¬ x < 1 → ((x ≤ nI D → A) ∧ (¬ x ≤ nI D → B))) := by
  refine br_c (fun h => no ?_) (fun h => br_c (fun h1 => ?_) (fun h1 => no ?_))
  · intro ⟨d, hd, e⟩
    rw [e] at h
    exact nI_nlt (b := 1) (by omega) (by omega) h
  · obtain ⟨d, hd, rfl⟩ := zq_ge1 h
    have h2 : d + 1 ≤ D := (nI_leI hd hD).mp h1
    exact ok d (by omega) rfl
  · intro ⟨d, hd, e⟩
    rw [e] at h1
    exact h1 (nI_le (by omega) hD)
/-- a valid new node -/
def zq_vn (D i : Nat) (rk : Nat → Nat) (k x y z : Int32) : Prop :=
  (k = 1 ∧ zq_spec D x y) ∨
  (∃ p q, p < i ∧ q < i ∧ x = nI p ∧ y = nI q ∧ (k = 2 ∨ k = 3)) ∨
  (∃ p q, p < i ∧ q < i ∧ x = nI p ∧ y = nI q ∧ k = 4 ∧ rk p = 2 ∧ rk q = 2) ∨
  (∃ p, p < i ∧ x = nI p ∧ k = 5) ∨
  (∃ p, p < i ∧ x = nI p ∧ k = 6 ∧ zq_spec D y z) ∨
  (∃ p s, p < i ∧ x = nI p ∧ k = 7 ∧ y = nI s ∧ s < rk p)
section
variable {D i : Nat} {rk : Nat → Nat} {k x y z : Int32}
theorem zq_vnk (h : zq_vn D i rk k x y z) : k = 1 ∨ k = 2 ∨ k = 3 ∨ k = 4 ∨ k = 5 ∨ k = 6 ∨ k = 7 := by
  rcases h with ⟨h, _⟩ | ⟨_, _, _, _, _, _, h⟩ | ⟨_, _, _, _, _, _, h, _⟩ | ⟨_, _, _, h⟩ | ⟨_, _, _, h, _⟩ | ⟨_, _, _, _, h, _⟩
  · exact Or.inl h
  · rcases h with h | h
    · exact Or.inr (Or.inl h)
    · exact Or.inr (Or.inr (Or.inl h))
  · exact Or.inr (Or.inr (Or.inr (Or.inl h)))
  · exact Or.inr (Or.inr (Or.inr (Or.inr (Or.inl h))))
  · exact Or.inr (Or.inr (Or.inr (Or.inr (Or.inr (Or.inl h)))))
  · exact Or.inr (Or.inr (Or.inr (Or.inr (Or.inr (Or.inr h)))))
theorem zq_vn1 (h : zq_vn D i rk 1 x y z) : zq_spec D x y := by
  rcases h with ⟨_, h⟩ | ⟨_, _, _, _, _, _, h⟩ | ⟨_, _, _, _, _, _, h, _⟩ | ⟨_, _, _, h⟩ | ⟨_, _, _, h, _⟩ | ⟨_, _, _, _, h, _⟩
  · exact h
  · exact absurd h (by decide)
  · exact absurd h (by decide)
  · exact absurd h (by decide)
  · exact absurd h (by decide)
  · exact absurd h (by decide)
theorem zq_vn2 (hk : k = 2 ∨ k = 3) (h : zq_vn D i rk k x y z) : (∃ j, j < i ∧ x = nI j) ∧ (∃ j, j < i ∧ y = nI j) := by
  have hk' : k ≠ 1 ∧ k ≠ 4 ∧ k ≠ 5 ∧ k ≠ 6 ∧ k ≠ 7 := by rcases hk with rfl | rfl <;> decide
  rcases h with ⟨h, _⟩ | ⟨p, q, hp, hq, ex, ey, h⟩ | ⟨_, _, _, _, _, _, h, _⟩ | ⟨_, _, _, h⟩ | ⟨_, _, _, h, _⟩ | ⟨_, _, _, _, h, _⟩
  · exact absurd h hk'.1
  · exact ⟨⟨p, hp, ex⟩, ⟨q, hq, ey⟩⟩
  · exact absurd h hk'.2.1
  · exact absurd h hk'.2.2.1
  · exact absurd h hk'.2.2.2.1
  · exact absurd h hk'.2.2.2.2
theorem zq_vn4 (h : zq_vn D i rk 4 x y z) : ∃ p q, p < i ∧ q < i ∧ x = nI p ∧ y = nI q ∧ rk p = 2 ∧ rk q = 2 := by
  rcases h with ⟨h, _⟩ | ⟨_, _, _, _, _, _, h⟩ | ⟨p, q, hp, hq, ex, ey, _, h⟩ | ⟨_, _, _, h⟩ | ⟨_, _, _, h, _⟩ | ⟨_, _, _, _, h, _⟩
  · exact absurd h (by decide)
  · exact absurd h (by decide)
  · exact ⟨p, q, hp, hq, ex, ey, h⟩
  · exact absurd h (by decide)
  · exact absurd h (by decide)
  · exact absurd h (by decide)
theorem zq_vn5 (h : zq_vn D i rk 5 x y z) : ∃ j, j < i ∧ x = nI j := by
  rcases h with ⟨h, _⟩ | ⟨_, _, _, _, _, _, h⟩ | ⟨_, _, _, _, _, _, h, _⟩ | ⟨p, hp, ex, _⟩ | ⟨_, _, _, h, _⟩ | ⟨_, _, _, _, h, _⟩
  · exact absurd h (by decide)
  · exact absurd h (by decide)
  · exact absurd h (by decide)
  · exact ⟨p, hp, ex⟩
  · exact absurd h (by decide)
  · exact absurd h (by decide)
theorem zq_vn6 (h : zq_vn D i rk 6 x y z) : (∃ j, j < i ∧ x = nI j) ∧ zq_spec D y z := by
  rcases h with ⟨h, _⟩ | ⟨_, _, _, _, _, _, h⟩ | ⟨_, _, _, _, _, _, h, _⟩ | ⟨_, _, _, h⟩ | ⟨p, hp, ex, _, h⟩ | ⟨_, _, _, _, h, _⟩
  · exact absurd h (by decide)
  · exact absurd h (by decide)
  · exact absurd h (by decide)
  · exact absurd h (by decide)
  · exact ⟨⟨p, hp, ex⟩, h⟩
  · exact absurd h (by decide)
theorem zq_vn7 (h : zq_vn D i rk 7 x y z) : ∃ p s, p < i ∧ x = nI p ∧ y = nI s ∧ s < rk p := by
  rcases h with ⟨h, _⟩ | ⟨_, _, _, _, _, _, h⟩ | ⟨_, _, _, _, _, _, h, _⟩ | ⟨_, _, _, h⟩ | ⟨_, _, _, h, _⟩ | ⟨p, s, hp, ex, _, ey, hs⟩
  · exact absurd h (by decide)
  · exact absurd h (by decide)
  · exact absurd h (by decide)
  · exact absurd h (by decide)
  · exact absurd h (by decide)
  · exact ⟨p, s, hp, ex, ey, hs⟩
end
/-! the class's checks -/
section
variable {mx ins cnt st cp : Int32} {K X Y Z rs dt sz tr bd el : Nat → Int32}
theorem zx_isn {post : Int32 → Prop} {c : Nat} {x : Int32} (hc : c ≤ 16) (ok : ∀ j, j < c → x = nI j → post 1) (no : ¬ (∃ j, j < c ∧ x = nI j) → post 0) : wpX_isNode post (mx, ins, nI c, st, cp, K, X, Y, Z, rs, dt, sz, tr, bd, el) x := by
  unfold wpX_isNode
  dsimp only
  exact zq_cke (by omega) ok no
theorem zx_isz {post : Int32 → Prop} {D : Nat} {x : Int32} (hD : D ≤ 6) (ok : ∀ d, d < D → x = nI (d + 1) → post 1) (no : ¬ (∃ d, d < D ∧ x = nI (d + 1)) → post 0) : wpX_isSize post (nI D, ins, cnt, st, cp, K, X, Y, Z, rs, dt, sz, tr, bd, el) x := by
  unfold wpX_isSize
  dsimp only
  exact zq_szl (by omega) ok no
theorem zx_vc {post : Int32 → Prop} {D : Nat} {x : Int32} (hD : D ≤ 6) (ok : zq_code D x → post 1) (no : ¬ zq_code D x → post 0) : wpX_validCode post (nI D, ins, cnt, st, cp, K, X, Y, Z, rs, dt, sz, tr, bd, el) x := by
  unfold wpX_validCode
  dsimp only
  refine zx_isz hD (fun d hd e => br_f (by decide) (ok (Or.inl ⟨d + 1, by omega, by omega, e⟩))) (fun h => br_t rfl ?_)
  have hd : ∀ d, ¬ (1 ≤ d ∧ d ≤ D ∧ x = nI d) := fun d z => h ⟨d - 1, by omega, by rw [Nat.sub_add_cancel z.1]; exact z.2.2⟩
  refine br_c (fun h0 => no ?_) (fun h0 => br_c (fun h3 => no ?_) (fun h3 => ok ?_))
  · rintro (⟨d, z⟩ | rfl | rfl | rfl)
    · exact hd d z
    · exact absurd h0 (by decide)
    · exact absurd h0 (by decide)
    · exact absurd h0 (by decide)
  · rintro (⟨d, z⟩ | rfl | rfl | rfl)
    · exact hd d z
    · exact absurd h3 (by decide)
    · exact absurd h3 (by decide)
    · exact absurd h3 (by decide)
  · exact Or.inr (zq_neg (Int32.not_le.mp h0) (Int32.not_lt.mp h3))
theorem zx_vs {post : Int32 → Prop} {D : Nat} {p q : Int32} (hD : D ≤ 6) (ok : zq_spec D p q → post 1) (no : ¬ zq_spec D p q → post 0) : wpX_validSpec post (nI D, ins, cnt, st, cp, K, X, Y, Z, rs, dt, sz, tr, bd, el) p q := by
  unfold wpX_validSpec
  dsimp only
  refine br_c (fun hp => br_c (fun hq => ok (Or.inl ⟨hp, hq⟩)) (fun hq => no ?_)) (fun hp => zx_vc hD (fun hc => br_f (by decide) ?_) (fun hc => br_t rfl (no ?_)))
  · rintro (⟨_, h⟩ | ⟨_, h⟩ | ⟨h, _⟩)
    · exact hq h
    · exact hq h
    · exact zq_code_ne hD h hp
  · refine br_c (fun hq => ok (Or.inr (Or.inl ⟨hc, hq⟩))) (fun hq => zx_vc hD (fun hc' => br_f (by decide) (ok (Or.inr (Or.inr ⟨hc, hc'⟩)))) (fun hc' => br_t rfl (no ?_)))
    rintro (⟨h, _⟩ | ⟨_, h⟩ | ⟨_, h⟩)
    · exact hp h
    · exact hq h
    · exact hc' h
  · rintro (⟨h, _⟩ | ⟨h, _⟩ | ⟨h, _⟩)
    · exact hp h
    · exact hc h
    · exact hc h
theorem zx_hd {post : Int32 → Prop} {c : Nat} {rk : Nat → Nat} {x y : Int32} (hc : c ≤ 16) (hr : ∀ j, j < c → rs j = nI (rk j) ∧ rk j ≤ 2) (ok : ∀ p s, p < c → x = nI p → y = nI s → s < rk p → post 1) (no : ¬ (∃ p s, p < c ∧ x = nI p ∧ y = nI s ∧ s < rk p) → post 0) : wpX_hasDim post (mx, ins, nI c, st, cp, K, X, Y, Z, rs, dt, sz, tr, bd, el) x y := by
  unfold wpX_hasDim
  dsimp only
  refine zx_isn hc (fun j hj e => br_f (by decide) ?_) (fun h => br_t rfl (no (fun ⟨p, _, hp, e, _⟩ => h ⟨p, hp, e⟩)))
  subst e
  rw [nI_clamp (by omega), (hr j hj).1]
  have hj2 := (hr j hj).2
  have inj : ∀ p, p < c → nI j = nI p → j = p := fun p hp e => (nI_eq (by omega) (by omega)).mp e
  refine br_c (fun h => no ?_) (fun h => ⟨vp_in_nI (by omega) (by omega), br_c (fun h1 => no ?_) (fun h1 => ?_)⟩)
  · rintro ⟨p, s, hp, e1, e2, hs⟩
    rw [e2] at h
    have := inj p hp e1
    subst this
    exact nI_pos (by omega) h
  · rintro ⟨p, s, hp, e1, e2, hs⟩
    rw [e2] at h1
    have := inj p hp e1
    subst this
    exact nI_ge hs (by omega) h1
  · obtain ⟨s, hs, rfl⟩ := nI_of h
    have h2 : ¬ rk j ≤ s := fun z => h1 ((nI_leI (by omega) hs).mpr z)
    exact ok j s hj rfl rfl (by omega)
theorem zx_vn {post : Int32 → Prop} {D c : Nat} {rk : Nat → Nat} {k x y z : Int32} (hD : D ≤ 6) (hc : c ≤ 16) (hr : ∀ j, j < c → rs j = nI (rk j) ∧ rk j ≤ 2) (ok : zq_vn D c rk k x y z → post 1) (no : ¬ zq_vn D c rk k x y z → post 0) : wpX_validNode post (nI D, ins, nI c, st, cp, K, X, Y, Z, rs, dt, sz, tr, bd, el) k x y z := by
  unfold wpX_validNode
  dsimp only
  have m51 : (k = 2 ∨ k = 3) → wX_validNode_51 post x y (nI D) ins (nI c) st cp K X Y Z rs dt sz tr bd el := by
    intro hk
    unfold wX_validNode_51
    refine zx_isn hc (fun p hp ex => br_f (by decide) (zx_isn hc (fun q hq ey => br_f (by decide) (ok (Or.inr (Or.inl ⟨p, q, hp, hq, ex, ey, hk⟩)))) (fun h => br_t rfl (no (fun v => h (zq_vn2 hk v).2))))) (fun h => br_t rfl (no (fun v => h (zq_vn2 hk v).1)))
  refine br_c (fun h => no ?_) (fun _ => br_c (fun h => no ?_) (fun _ => br_c (fun e => ?_) (fun _ => br_c (fun e => m51 (Or.inl e)) (fun _ => br_c (fun e => m51 (Or.inr e)) (fun _ => br_c (fun e => ?_) (fun _ => br_c (fun e => ?_) (fun _ => br_c (fun e => ?_) (fun _ => br_c (fun e => ?_) (fun _ => trivial)))))))))
  · intro v
    rcases zq_vnk v with rfl | rfl | rfl | rfl | rfl | rfl | rfl <;> exact absurd h (by decide)
  · intro v
    rcases zq_vnk v with rfl | rfl | rfl | rfl | rfl | rfl | rfl <;> exact absurd h (by decide)
  · subst e
    exact zx_vs hD (fun h => ⟨rfl, ok (Or.inl ⟨rfl, h⟩)⟩) (fun h => ⟨rfl, no (fun v => h (zq_vn1 v))⟩)
  · subst e
    refine zx_isn hc (fun p hp ex => br_f (by decide) (zx_isn hc (fun q hq ey => br_f (by decide) ?_) (fun h => br_t rfl (no (fun v => ?_))))) (fun h => br_t rfl (no (fun v => ?_)))
    · subst ex ey
      rw [nI_clamp (by omega), nI_clamp (by omega), (hr p hp).1, (hr q hq).1]
      have hp2 := (hr p hp).2
      have hq2 := (hr q hq).2
      refine ⟨vp_in_nI (by omega) (by omega), pk_eq (rk p) 2 (fun e1 => ⟨vp_in_nI (by omega) (by omega), pk_eq (rk q) 2 (fun e2 => ?_) (fun e2 => no (fun v => ?_))⟩) (fun e1 => no (fun v => ?_))⟩
      · exact ok (Or.inr (Or.inr (Or.inl ⟨p, q, hp, hq, rfl, rfl, rfl, e1, e2⟩)))
      · obtain ⟨p', q', hp', hq', ep, eq, r1, r2⟩ := zq_vn4 v
        have := (nI_eq (by omega) (by omega)).mp eq
        subst this
        exact e2 r2
      · obtain ⟨p', q', hp', hq', ep, eq, r1, r2⟩ := zq_vn4 v
        have := (nI_eq (by omega) (by omega)).mp ep
        subst this
        exact e1 r1
    · obtain ⟨p', q', hp', hq', ep, eq, _⟩ := zq_vn4 v
      exact h ⟨q', hq', eq⟩
    · obtain ⟨p', q', hp', hq', ep, eq, _⟩ := zq_vn4 v
      exact h ⟨p', hp', ep⟩
  · subst e
    exact zx_isn hc (fun p hp ex => ⟨rfl, ok (Or.inr (Or.inr (Or.inr (Or.inl ⟨p, hp, ex, rfl⟩))))⟩) (fun h => ⟨rfl, no (fun v => h (zq_vn5 v))⟩)
  · subst e
    refine zx_isn hc (fun p hp ex => br_f (by decide) (zx_vs hD (fun h => br_f (by decide) (ok (Or.inr (Or.inr (Or.inr (Or.inr (Or.inl ⟨p, hp, ex, rfl, h⟩))))))) (fun h => br_t rfl (no (fun v => h (zq_vn6 v).2))))) (fun h => br_t rfl (no (fun v => h (zq_vn6 v).1)))
  · subst e
    exact zx_hd hc hr (fun p s hp ex ey hs => ⟨rfl, ok (Or.inr (Or.inr (Or.inr (Or.inr (Or.inr ⟨p, s, hp, ex, rfl, ey, hs⟩)))))⟩) (fun h => ⟨rfl, no (fun v => h (zq_vn7 v))⟩)
theorem zx_srk {post : Int32 → Prop} {D : Nat} {p q : Int32} (hD : D ≤ 6) (hs : zq_spec D p q) (hp : post (nI (zq_sr p q))) : wpX_specRank post () p q := by
  unfold wpX_specRank
  unfold zq_sr at hp
  rcases hs with ⟨rfl, rfl⟩ | ⟨h, rfl⟩ | ⟨h, h'⟩
  · rw [if_pos rfl] at hp
    exact br_t rfl (br_t rfl hp)
  · rw [if_neg (zq_code_ne hD h), if_pos rfl] at hp
    exact br_t rfl (br_f (zq_code_ne hD h) hp)
  · rw [if_neg (zq_code_ne hD h), if_neg (zq_code_ne hD h')] at hp
    exact br_f (zq_code_ne hD h') hp
theorem zx_rbk {post : Int32 → Prop} {D c : Nat} {rk : Nat → Nat} {k x y z : Int32} (hD : D ≤ 6) (hc : c ≤ 16) (hr : ∀ j, j < c → rs j = nI (rk j) ∧ rk j ≤ 2) (hv : zq_vn D c rk k x y z) (ok : ∀ r, zq_nd D c (zq_ex c r rk) k x y z → post (nI r)) : wpX_rankByKind post (mx, ins, cnt, st, cp, K, X, Y, Z, rs, dt, sz, tr, bd, el) k x y z := by
  unfold wpX_rankByKind
  dsimp only
  rcases hv with ⟨rfl, h2⟩ | ⟨p, q, hp, hq, rfl, rfl, hk⟩ | ⟨p, q, hp, hq, rfl, rfl, rfl, h4, h5⟩ | ⟨p, hp, rfl, rfl⟩ | ⟨p, hp, rfl, rfl, h4⟩ | ⟨p, s, hp, rfl, rfl, rfl, hs⟩
  · refine br_f (by decide) (br_f (by decide) (br_t rfl ?_))
    exact zx_srk hD h2 (ok _ (Or.inl ⟨rfl, h2, zq_ex_s⟩))
  · have main : wX_rankByKind_50 post (nI p) (nI q) mx ins cnt st cp K X Y Z rs dt sz tr bd el := by
      unfold wX_rankByKind_50
      rw [nI_clamp (by omega), nI_clamp (by omega), (hr p hp).1, (hr q hq).1]
      have hp2 := (hr p hp).2
      have hq2 := (hr q hq).2
      have ok' : ∀ r, r = max (rk p) (rk q) → post (nI r) := fun r e => ok r (Or.inr (Or.inl ⟨p, q, hp, hq, rfl, rfl, hk, by rw [zq_ex_s, zq_ex_n hp, zq_ex_n hq]; exact e⟩))
      exact ⟨vp_in_nI (by omega) (by omega), vp_in_nI (by omega) (by omega), pk_le (rk p) (rk q) (fun e => ⟨vp_in_nI (by omega) (by omega), ok' _ (by omega)⟩) (fun e => ⟨vp_in_nI (by omega) (by omega), ok' _ (by omega)⟩)⟩
    rcases hk with rfl | rfl
    · exact br_f (by decide) (br_f (by decide) (br_f (by decide) (br_t rfl main)))
    · exact br_f (by decide) (br_f (by decide) (br_f (by decide) (br_f (by decide) (br_t rfl main))))
  · refine br_f (by decide) (br_f (by decide) (br_f (by decide) (br_f (by decide) (br_f (by decide) (br_t rfl ⟨vp_in_nI (by omega) (by omega), ?_⟩)))))
    rw [nI_clamp (by omega), (hr p hp).1]
    exact ok _ (Or.inr (Or.inr (Or.inl ⟨p, q, hp, hq, rfl, rfl, rfl, by rw [zq_ex_n hp]; exact h4, by rw [zq_ex_n hq]; exact h5, by rw [zq_ex_s]; exact h4⟩)))
  · refine br_f (by decide) (br_f (by decide) (br_f (by decide) (br_f (by decide) (br_f (by decide) (br_f (by decide) (br_t rfl ⟨vp_in_nI (by omega) (by omega), ?_⟩))))))
    rw [nI_clamp (by omega), (hr p hp).1]
    exact ok _ (Or.inr (Or.inr (Or.inr (Or.inl ⟨p, hp, rfl, rfl, by rw [zq_ex_s, zq_ex_n hp]⟩))))
  · refine br_f (by decide) (br_f (by decide) (br_f (by decide) (br_f (by decide) (br_f (by decide) (br_f (by decide) (br_f (by decide) (br_t rfl ?_)))))))
    exact zx_srk hD h4 (ok _ (Or.inr (Or.inr (Or.inr (Or.inr (Or.inl ⟨p, hp, rfl, rfl, h4, zq_ex_s⟩))))))
  · refine br_f (by decide) (br_f (by decide) (br_f (by decide) (br_f (by decide) (br_f (by decide) (br_f (by decide) (br_f (by decide) (br_f (by decide) (br_t rfl ⟨vp_in_nI (by omega) (by omega), ?_⟩))))))))
    rw [nI_clamp (by omega), (hr p hp).1]
    have e : nI (rk p) - 1 = nI (rk p - 1) := pk_sub (b := 1) (by omega)
    rw [e]
    exact ok _ (Or.inr (Or.inr (Or.inr (Or.inr (Or.inr ⟨p, s, hp, rfl, rfl, rfl, by rw [zq_ex_n hp]; exact hs, by rw [zq_ex_s, zq_ex_n hp]; omega⟩)))))
end
end
section
/-! the class: addNode and the constructor -/
section
variable {mx ins cnt st cp : Int32} {K X Y Z rs dt sz tr bd el : Nat → Int32}
theorem zx_fd {post : St2 → Prop} {c : Nat} (hc : c < 16) : ∀ d e fu : Nat, ∀ dt0 : Nat → Int32, e + d = 36 → d < fu → dt = zq_fo (fun _ e => nI (e + 1)) (c * 36) dt0 e → post (mx, ins, cnt, st, cp, K, X, Y, Z, rs, zq_fo (fun _ e => nI (e + 1)) (c * 36) dt0 36, sz, tr, bd, el) → wX_fillData_2 post (nI c) mx ins cnt st cp fu (nI e) K X Y Z rs dt sz tr bd el := by
  intro d
  induction d generalizing dt with
  | zero =>
    intro e fu dt0 he hf ed hp
    obtain ⟨f, rfl⟩ : ∃ f, fu = f + 1 := ⟨fu - 1, by omega⟩
    have h36 : e = 36 := by omega
    subst h36
    rw [wX_fillData_2]
    rw [ed]
    exact br_t (Int32.le_refl _) hp
  | succ d ih =>
    intro e fu dt0 he hf ed hp
    obtain ⟨f, rfl⟩ : ∃ f, fu = f + 1 := ⟨fu - 1, by omega⟩
    rw [wX_fillData_2]
    have ei : nI c * 36 + nI e = nI (c * 36 + e) := by rw [zq_m36, nI_add]
    refine br_f (nI_ge (b := 36) (by omega) (by decide)) ?_
    rw [ei, nI_clamp (by omega)]
    refine ⟨vp_in_nI (by omega) (by omega), nm_e (nm_r (nI_1 e) ?_)⟩
    refine ih (e + 1) f dt0 (by omega) (by omega) ?_ hp
    rw [ed, nI_1]
    rfl
theorem zx_fillData {post : St2 → Prop} {c : Nat} (hc : c < 16) (hp : post (mx, ins, cnt, st, cp, K, X, Y, Z, rs, zq_fo (fun _ e => nI (e + 1)) (c * 36) dt 36, sz, tr, bd, el)) : wpX_fillData post (mx, ins, cnt, st, cp, K, X, Y, Z, rs, dt, sz, tr, bd, el) (nI c) := by
  unfold wpX_fillData
  dsimp only
  exact ⟨37, zx_fd hc 36 0 37 dt rfl (by omega) rfl hp⟩
theorem zx_sua {post : St2 → Prop} {D c N : Nat} {k x y z : Int32} {rk rk' : Nat → Nat} (h2 : 2 ≤ D) (h6 : D ≤ 6) (hN : N = D * D * D) (hc : c < 16)
    (hn : ∀ i, i < c → zq_nd D i rk (K i) (X i) (Y i) (Z i)) (hn' : zq_nd D c rk' k x y z) (er : ∀ j, j < c → rk' j = rk j) (hr : ∀ j, j ≤ c → rs j = nI (rk' j) ∧ rk' j ≤ 2)
    (hp : ∀ sz' tr', (∀ n, n < N → zq_tb D (c + 1) (upd K c k) (upd X c x) (upd Y c y) (upd Z c z) rk' sz' tr' n) → post (mx, nI N, cnt, st, cp, upd K c k, upd X c x, upd Y c y, upd Z c z, rs, dt, sz', tr', bd, el)) :
    ∀ d m fu : Nat, ∀ sz tr : Nat → Int32, m + d = N → d < fu → (∀ n, n < m → zq_tb D (c + 1) (upd K c k) (upd X c x) (upd Y c y) (upd Z c z) rk' sz tr n) → (∀ n, m ≤ n → n < N → zq_tb D c K X Y Z rk sz tr n) →
    wX_shapeUnderAll_2 post (nI c) fu (nI m) mx (nI N) cnt st cp (upd K c k) (upd X c x) (upd Y c y) (upd Z c z) rs dt sz tr bd el := by
  have hN2 : N ≤ 216 := by rw [hN]; exact zq_216 h6
  intro d
  induction d with
  | zero =>
    intro m fu sz tr hm hf h1 h3
    obtain ⟨f, rfl⟩ : ∃ f, fu = f + 1 := ⟨fu - 1, by omega⟩
    have e : m = N := by omega
    subst e
    rw [wX_shapeUnderAll_2]
    exact br_t (Int32.le_refl _) (hp sz tr h1)
  | succ d ih =>
    intro m fu sz tr hm hf h1 h3
    obtain ⟨f, rfl⟩ : ∃ f, fu = f + 1 := ⟨fu - 1, by omega⟩
    rw [wX_shapeUnderAll_2]
    refine br_f (nI_ge (by omega) (by omega)) ⟨vp_in_nI (by omega) (by omega), ?_⟩
    rw [nI_clamp (by omega)]
    have hm' := h3 m (by omega) (by omega)
    refine br_c (fun ht => ?_) (fun ht => ?_)
    · obtain ⟨t1, t2, t3, t, R, C, t4, t5, t6⟩ := hm'
      have etc : t = c := by
        rcases t6 with ⟨e, _⟩ | ⟨_, e⟩
        · exact e
        · rw [e] at ht
          exact absurd ht (zq_m1 (by have := t4.1; omega))
      subst etc
      have hd := zq_dec h2 h6 (show m < D * D * D by omega)
      have ha : 1 ≤ m / (D * D) + 1 ∧ m / (D * D) + 1 ≤ D := ⟨Nat.succ_le_succ (Nat.zero_le _), hd.1⟩
      have hb : 1 ≤ m / D % D + 1 ∧ m / D % D + 1 ≤ D := ⟨Nat.succ_le_succ (Nat.zero_le _), hd.2.1⟩
      have hcc : 1 ≤ m % D + 1 ∧ m % D + 1 ≤ D := ⟨Nat.succ_le_succ (Nat.zero_le _), hd.2.2.1⟩
      have hgd : ∀ j, j < t → zq_good D (rk' j) (R j) (C j) := fun j hj => by rw [er j hj]; exact (t4.2.1 j hj).1
      rw [zq_m35]
      refine zx_shape (K := upd K t k) (X := upd X t x) (Y := upd Y t y) (Z := upd Z t z) (rk := rk') (R := R) (C := C) h6 (by omega) hc (by rw [pk_us, pk_us, pk_us, pk_us]; exact hn') hr t1 t2 t3 t5 (fun j hj => ?_) (fun p q hs => ?_) ?_ ?_
      · have g := hgd j hj
        unfold zq_good at g
        omega
      · have g := zq_spec_good h2 h6 hs ha hb hcc
        unfold zq_good at g
        omega
      · rw [pk_us, pk_us, pk_us, pk_us]
        intro r s sz' e fr e1 e2
        refine br_f (by decide) (nm_r (nI_1 m) ?_)
        refine ih (m + 1) f sz' tr (by omega) (by omega) (fun n hnm => ?_) (fun n hnm hnN => ?_)
        · by_cases hnm' : n = m
          · subst hnm'
            exact zq_tb_new hc hn hn' er t1 t2 t3 t4 t5 fr (Or.inl ⟨r, s, e, zq_ru_good h2 h6 (by omega) ha hb hcc hn' hgd e, e1, e2, ht⟩)
          · exact zq_tb_fr (by omega) (h1 n (by omega)) (fun j hj => fr _ (by omega) (by omega)) rfl
        · exact zq_tb_fr (by omega) (h3 n (by omega) hnN) (fun j hj => fr _ (by omega) (by omega)) rfl
      · rw [pk_us, pk_us, pk_us, pk_us]
        intro sz' e fr
        refine br_t rfl ⟨vp_in_nI (by omega) (by omega), nm_e (nm_r (nI_1 m) ?_)⟩
        refine ih (m + 1) f sz' (upd tr m (nI t)) (by omega) (by omega) (fun n hnm => ?_) (fun n hnm hnN => ?_)
        · by_cases hnm' : n = m
          · subst hnm'
            exact zq_tb_new hc hn hn' er t1 t2 t3 t4 t5 fr (Or.inr ⟨e, pk_us⟩)
          · exact zq_tb_fr (by omega) (h1 n (by omega)) (fun j hj => fr _ (by omega) (by omega)) (pk_un hnm')
        · exact zq_tb_fr (by omega) (h3 n (by omega) hnN) (fun j hj => fr _ (by omega) (by omega)) (pk_un (by omega))
    · refine nm_r (nI_1 m) ?_
      refine ih (m + 1) f sz tr (by omega) (by omega) (fun n hnm => ?_) (fun n hnm hnN => h3 n (by omega) hnN)
      by_cases hnm' : n = m
      · subst hnm'
        exact zq_tb_old hc hn er hm' ht
      · exact h1 n (by omega)
theorem zx_add {post : Int32 → St2 → Prop} {D c : Nat} {k x y z : Int32} {rk : Nat → Nat} (h2 : 2 ≤ D) (h6 : D ≤ 6) (hc : c ≤ 16)
    (hr : ∀ j, j < c → rs j = nI (rk j) ∧ rk j ≤ 2) (hn : ∀ i, i < c → zq_nd D i rk (K i) (X i) (Y i) (Z i)) (ht : ∀ n, n < D * D * D → zq_tb D c K X Y Z rk sz tr n)
    (full : c = 16 → post (-1) (nI D, nI (D * D * D), nI c, st, cp, K, X, Y, Z, rs, dt, sz, tr, bd, el)) (no : c < 16 → ¬ zq_vn D c rk k x y z → post (-1) (nI D, nI (D * D * D), nI c, st, cp, K, X, Y, Z, rs, dt, sz, tr, bd, el))
    (ok : c < 16 → zq_vn D c rk k x y z → ∀ r dt' sz' tr', zq_nd D c (zq_ex c r rk) k x y z → r ≤ 2 → dt' = (if k = 1 then zq_fo (fun _ e => nI (e + 1)) (c * 36) dt 36 else dt) →
      (∀ n, n < D * D * D → zq_tb D (c + 1) (upd K c k) (upd X c x) (upd Y c y) (upd Z c z) (zq_ex c r rk) sz' tr' n) →
      post (nI c) (nI D, nI (D * D * D), nI (c + 1), 0, 0, upd K c k, upd X c x, upd Y c y, upd Z c z, upd rs c (nI r), dt', sz', tr', bd, el)) :
    wpX_addNode post (nI D, nI (D * D * D), nI c, st, cp, K, X, Y, Z, rs, dt, sz, tr, bd, el) k x y z := by
  unfold wpX_addNode
  dsimp only
  refine pk_le 16 c (fun h => full (by omega)) (fun h => ?_)
  refine zx_vn h6 hc hr (fun hv => br_f (by decide) ?_) (fun hv => br_t rfl (no h hv))
  rw [nI_clamp (by omega)]
  refine ⟨vp_in_nI h (by omega), nm_e ⟨vp_in_nI h (by omega), nm_e ⟨vp_in_nI h (by omega), nm_e ⟨vp_in_nI h (by omega), nm_e ?_⟩⟩⟩⟩
  refine zx_rbk h6 hc hr hv (fun r hnd => ⟨vp_in_nI h (by omega), nm_e ?_⟩)
  have hr2 : ∀ j, j < c → zq_ex c r rk j ≤ 2 := fun j hj => by rw [zq_ex_n hj]; exact (hr j hj).2
  have r2 : r ≤ 2 := by
    have w := zq_nd_2 hnd hr2
    rw [zq_ex_s] at w
    exact w
  have tail : ∀ dt', dt' = (if k = 1 then zq_fo (fun _ e => nI (e + 1)) (c * 36) dt 36 else dt) → wX_addNode_89 post (nI c) (nI D) (nI (D * D * D)) (nI c) st cp (upd K c k) (upd X c x) (upd Y c y) (upd Z c z) (upd rs c (nI r)) dt' sz tr bd el := by
    intro dt' ed
    unfold wX_addNode_89
    refine nm_r (nI_1 c) ?_
    unfold wpX_shapeUnderAll
    dsimp only
    refine ⟨D * D * D + 1, ?_⟩
    refine zx_sua (rk := rk) (rk' := zq_ex c r rk) h2 h6 rfl h hn hnd (fun j hj => zq_ex_n hj) (fun j hj => ?_) (fun sz' tr' h' => ?_) (D * D * D) 0 (D * D * D + 1) sz tr (by omega) (by omega) (fun n hn0 => absurd hn0 (by omega)) (fun n _ hnN => ht n hnN)
    · by_cases hjc : j = c
      · subst hjc
        rw [pk_us, zq_ex_s]
        exact ⟨rfl, r2⟩
      · rw [pk_un hjc, zq_ex_n (by omega)]
        exact hr j (by omega)
    · exact ok h hv r dt' sz' tr' hnd r2 ed h'
  refine br_c (fun hk => ?_) (fun hk => ?_)
  · exact zx_fillData h (tail _ (if_pos hk).symm)
  · exact tail _ (if_neg hk).symm
/-! the constructor -/
theorem zx_iof {post : Int32 → Prop} {D a b c : Nat} (hp : post (nI ((a * D + b) * D + c))) : wpX_instantiationOf post (nI D, ins, cnt, st, cp, K, X, Y, Z, rs, dt, sz, tr, bd, el) (nI (a + 1)) (nI (b + 1)) (nI (c + 1)) := by
  unfold wpX_instantiationOf
  dsimp only
  rw [nI_pred, nI_pred, nI_pred, pk_mul, nI_add, pk_mul, nI_add]
  exact hp
end
/-- the first m stretches of an empty table -/
def zq_e0 (D m : Nat) (sz tr : Nat → Int32) : Prop := ∀ n, n < m → tr n = -1 ∧ sz (n * 35 + 32) = nI (n / (D * D) + 1) ∧ sz (n * 35 + 33) = nI (n / D % D + 1) ∧ sz (n * 35 + 34) = nI (n % D + 1)
section
variable {mx ins cnt st cp : Int32} {K X Y Z rs dt sz tr bd el : Nat → Int32}
theorem zx_f22 {post : St2 → Prop} {J2 J12 : Int32 → (Nat → Int32) → (Nat → Int32) → (Nat → Int32) → (Nat → Int32) → (Nat → Int32) → (Nat → Int32) → (Nat → Int32) → (Nat → Int32) → (Nat → Int32) → (Nat → Int32) → Prop} {D a b : Nat} (h2 : 2 ≤ D) (h6 : D ≤ 6) (ha : a < D) (hb : b < D)
    (hJ : ∀ sz' tr', zq_e0 D ((a * D + (b + 1)) * D) sz' tr' → J12 (nI (b + 2)) K X Y Z rs dt sz' tr' bd el) :
    ∀ d c fu : Nat, ∀ sz tr : Nat → Int32, c + d = D → d < fu → zq_e0 D ((a * D + b) * D + c) sz tr → wX_fillInstantiations_22 post J2 J12 (nI (a + 1)) (nI (b + 1)) (nI D) ins cnt st cp fu (nI (c + 1)) K X Y Z rs dt sz tr bd el := by
  intro d
  induction d with
  | zero =>
    intro c fu sz tr hd hf hE
    obtain ⟨f, rfl⟩ : ∃ f, fu = f + 1 := ⟨fu - 1, by omega⟩
    have e : c = D := by omega
    subst e
    rw [wX_fillInstantiations_22]
    refine br_t (nI_lt (by omega) (by omega)) (nm_r (nI_1 (b + 1)) ?_)
    refine hJ sz tr ?_
    have e : (a * c + (b + 1)) * c = (a * c + b) * c + c := by rw [← Nat.add_assoc, Nat.add_mul, Nat.one_mul]
    rw [e]
    exact hE
  | succ d ih =>
    intro c fu sz tr hd hf hE
    obtain ⟨f, rfl⟩ : ∃ f, fu = f + 1 := ⟨fu - 1, by omega⟩
    rw [wX_fillInstantiations_22]
    refine br_f (nI_nlt (by omega) (by omega)) (zx_iof ?_)
    have en := zq_enc h2 h6 ha hb (show c < D by omega)
    have h216 := zq_216 h6
    generalize hm : (a * D + b) * D + c = m at en hE ⊢
    rw [zq_m35, zq_a32, nI_1, zq_a2, nI_clamp (by omega), nI_clamp (by omega), nI_clamp (by omega), nI_clamp (by omega)]
    refine ⟨vp_in_nI (by omega) (by omega), nm_e ⟨vp_in_nI (by omega) (by omega), nm_e ⟨vp_in_nI (by omega) (by omega), nm_e ⟨vp_in_nI (by omega) (by omega), nm_e (nm_r (nI_1 (c + 1)) ?_)⟩⟩⟩⟩
    refine ih (c + 1) f _ _ (by omega) (by omega) ?_
    rw [← Nat.add_assoc, hm]
    intro n hn
    by_cases hnm : n = m
    · subst hnm
      refine ⟨pk_us, ?_, ?_, ?_⟩
      · rw [pk_un (by omega), pk_un (by omega), pk_us, en.2.1]
      · rw [pk_un (by omega), pk_us, en.2.2.1]
      · rw [pk_us, en.2.2.2]
    · rw [pk_un hnm, pk_un (by omega), pk_un (by omega), pk_un (by omega), pk_un (by omega), pk_un (by omega), pk_un (by omega), pk_un (by omega), pk_un (by omega), pk_un (by omega)]
      exact hE n (by omega)
theorem zx_f12 {post : St2 → Prop} {J2 : Int32 → (Nat → Int32) → (Nat → Int32) → (Nat → Int32) → (Nat → Int32) → (Nat → Int32) → (Nat → Int32) → (Nat → Int32) → (Nat → Int32) → (Nat → Int32) → (Nat → Int32) → Prop} {D a : Nat} (h2 : 2 ≤ D) (h6 : D ≤ 6) (ha : a < D)
    (hJ : ∀ sz' tr', zq_e0 D (((a + 1) * D) * D) sz' tr' → J2 (nI (a + 2)) K X Y Z rs dt sz' tr' bd el) :
    ∀ d b fu : Nat, ∀ sz tr : Nat → Int32, b + d = D → d < fu → zq_e0 D ((a * D + b) * D) sz tr → wX_fillInstantiations_12 post J2 (nI (a + 1)) (nI D) ins cnt st cp fu (nI (b + 1)) K X Y Z rs dt sz tr bd el := by
  intro d
  induction d with
  | zero =>
    intro b fu sz tr hd hf hE
    obtain ⟨f, rfl⟩ : ∃ f, fu = f + 1 := ⟨fu - 1, by omega⟩
    have e : b = D := by omega
    subst e
    rw [wX_fillInstantiations_12]
    refine br_t (nI_lt (by omega) (by omega)) (nm_r (nI_1 (a + 1)) ?_)
    refine hJ sz tr ?_
    rw [Nat.add_mul, Nat.one_mul]
    exact hE
  | succ d ih =>
    intro b fu sz tr hd hf hE
    obtain ⟨f, rfl⟩ : ∃ f, fu = f + 1 := ⟨fu - 1, by omega⟩
    rw [wX_fillInstantiations_12]
    refine br_f (nI_nlt (by omega) (by omega)) ⟨D + 1, ?_⟩
    exact zx_f22 h2 h6 ha (by omega) (fun sz' tr' h' => ih (b + 1) f sz' tr' (by omega) (by omega) h') D 0 (D + 1) sz tr (by omega) (by omega) hE
theorem zx_f2 {post : St2 → Prop} {D : Nat} (h2 : 2 ≤ D) (h6 : D ≤ 6)
    (hp : ∀ sz' tr', zq_e0 D (D * D * D) sz' tr' → post (nI D, ins, cnt, st, cp, K, X, Y, Z, rs, dt, sz', tr', bd, el)) :
    ∀ d a fu : Nat, ∀ sz tr : Nat → Int32, a + d = D → d < fu → zq_e0 D ((a * D) * D) sz tr → wX_fillInstantiations_2 post (nI D) ins cnt st cp fu (nI (a + 1)) K X Y Z rs dt sz tr bd el := by
  intro d
  induction d with
  | zero =>
    intro a fu sz tr hd hf hE
    obtain ⟨f, rfl⟩ : ∃ f, fu = f + 1 := ⟨fu - 1, by omega⟩
    have e : a = D := by omega
    subst e
    rw [wX_fillInstantiations_2]
    exact br_t (nI_lt (by omega) (by omega)) (hp sz tr hE)
  | succ d ih =>
    intro a fu sz tr hd hf hE
    obtain ⟨f, rfl⟩ : ∃ f, fu = f + 1 := ⟨fu - 1, by omega⟩
    rw [wX_fillInstantiations_2]
    refine br_f (nI_nlt (by omega) (by omega)) ⟨D + 1, ?_⟩
    exact zx_f12 h2 h6 (by omega) (fun sz' tr' h' => ih (a + 1) f sz' tr' (by omega) (by omega) h') D 0 (D + 1) sz tr (by omega) (by omega) hE
theorem zx_fill {post : St2 → Prop} {D : Nat} (h2 : 2 ≤ D) (h6 : D ≤ 6) (hp : ∀ sz' tr', zq_e0 D (D * D * D) sz' tr' → post (nI D, ins, cnt, st, cp, K, X, Y, Z, rs, dt, sz', tr', bd, el)) : wpX_fillInstantiations post (nI D, ins, cnt, st, cp, K, X, Y, Z, rs, dt, sz, tr, bd, el) := by
  unfold wpX_fillInstantiations
  dsimp only
  exact ⟨D + 1, zx_f2 h2 h6 hp D 0 (D + 1) sz tr (by omega) (by omega) (fun n hn => absurd hn (by omega))⟩
end
end
section
/-! the class: what holds in all admissible instantiations -/
section
variable {mx ins cnt st cp : Int32} {K X Y Z rs dt sz tr bd el : Nat → Int32}
theorem zx_acc_l {post : Int32 → Prop} {N : Nat} (hN : N ≤ 216) (ok : zq_any (fun n => tr n = -1) N → post 1) (no : ¬ zq_any (fun n => tr n = -1) N → post 0) :
    ∀ d m fu : Nat, m + d = N → d < fu → ¬ zq_any (fun n => tr n = -1) m → wX_accepted_2 post mx (nI N) cnt st cp K X Y Z rs dt sz tr bd el fu (nI m) := by
  intro d
  induction d with
  | zero =>
    intro m fu hm hf h
    obtain ⟨f, rfl⟩ : ∃ f, fu = f + 1 := ⟨fu - 1, by omega⟩
    have e : m = N := by omega
    subst e
    rw [wX_accepted_2]
    exact br_t (Int32.le_refl _) (no h)
  | succ d ih =>
    intro m fu hm hf h
    obtain ⟨f, rfl⟩ : ∃ f, fu = f + 1 := ⟨fu - 1, by omega⟩
    rw [wX_accepted_2]
    refine br_f (nI_ge (by omega) (by omega)) ⟨vp_in_nI (by omega) (by omega), ?_⟩
    rw [nI_clamp (by omega)]
    refine br_c (fun ht => ok ⟨m, by omega, ht⟩) (fun ht => nm_r (nI_1 m) ?_)
    exact ih (m + 1) f (by omega) (by omega) (fun z => h ((zq_any_n (A := fun n => tr n = -1) ht).mpr z))
theorem zx_acc {post : Int32 → Prop} {N : Nat} (hN : N ≤ 216) (ok : zq_any (fun n => tr n = -1) N → post 1) (no : ¬ zq_any (fun n => tr n = -1) N → post 0) : wpX_accepted post (mx, nI N, cnt, st, cp, K, X, Y, Z, rs, dt, sz, tr, bd, el) := by
  unfold wpX_accepted
  dsimp only
  exact ⟨N + 1, zx_acc_l hN ok no N 0 (N + 1) (by omega) (by omega) zq_any_0⟩
theorem zx_cms_l {post : Int32 → Prop} {N pl : Nat} (hN : N ≤ 216) (hpl : pl < 35) (hz : ∀ n, n < N → tr n = -1 → ¬ sz (n * 35 + pl) = 0) (hp : ∀ r, zq_cm (fun n => tr n = -1) (fun n => sz (n * 35 + pl)) N r → post r) :
    ∀ d m fu : Nat, ∀ cm : Int32, m + d = N → d < fu → zq_same (fun n => tr n = -1) (fun n => sz (n * 35 + pl)) m → ((¬ zq_any (fun n => tr n = -1) m ∧ cm = 0) ∨ ∃ j, j < m ∧ tr j = -1 ∧ cm = sz (j * 35 + pl)) → wX_commonSize_4 post (nI pl) mx (nI N) cnt st cp K X Y Z rs dt sz tr bd el fu cm (nI m) := by
  intro d
  induction d with
  | zero =>
    intro m fu cm hm hf hs h
    obtain ⟨f, rfl⟩ : ∃ f, fu = f + 1 := ⟨fu - 1, by omega⟩
    have e : m = N := by omega
    subst e
    rw [wX_commonSize_4]
    refine br_t (Int32.le_refl _) (hp _ ?_)
    rcases h with ⟨h1, h2⟩ | ⟨j, h1, h2, h3⟩
    · exact Or.inr ⟨fun z => h1 z.1, h2⟩
    · exact Or.inl ⟨hs, j, h1, h2, h3⟩
  | succ d ih =>
    intro m fu cm hm hf hs h
    obtain ⟨f, rfl⟩ : ∃ f, fu = f + 1 := ⟨fu - 1, by omega⟩
    rw [wX_commonSize_4]
    refine br_f (nI_ge (by omega) (by omega)) ⟨vp_in_nI (by omega) (by omega), ?_⟩
    rw [nI_clamp (by omega), zq_m35, nI_add, nI_clamp (by omega)]
    refine br_c (fun ht => ⟨vp_in_nI (by omega) (by omega), nm_e ?_⟩) (fun ht => nm_r (nI_1 m) ?_)
    · refine br_c (fun h0 => nm_r (nI_1 m) ?_) (fun h0 => br_c (fun he => nm_r (nI_1 m) ?_) (fun he => hp _ ?_))
      · refine ih (m + 1) f _ (by omega) (by omega) (zq_same_1 (fun ⟨j, hj, hA⟩ => ?_)) (Or.inr ⟨m, by omega, ht, rfl⟩)
        rcases h with ⟨h1, h2⟩ | ⟨i, h1, h2, h3⟩
        · exact h1 ⟨j, hj, hA⟩
        · rw [h0] at h3
          exact hz i (by omega) h2 h3.symm
      · rcases h with ⟨h1, h2⟩ | ⟨j, h1, h2, h3⟩
        · exact absurd h2 h0
        · exact ih (m + 1) f _ (by omega) (by omega) ((zq_same_y (A := fun n => tr n = -1) (g := fun n => sz (n * 35 + pl)) h1 h2 (he.symm.trans h3)).mp hs) (Or.inr ⟨m, by omega, ht, rfl⟩)
      · rcases h with ⟨h1, h2⟩ | ⟨j, h1, h2, h3⟩
        · exact absurd h2 h0
        · exact Or.inr ⟨fun z => zq_same_f (A := fun n => tr n = -1) (g := fun n => sz (n * 35 + pl)) (i := m) (m0 := j) (by omega) (by omega) h2 ht (fun w => he (h3.trans w.symm)) z.2, rfl⟩
    · refine ih (m + 1) f _ (by omega) (by omega) ((zq_same_n (A := fun n => tr n = -1) ht).mp hs) ?_
      rcases h with ⟨h1, h2⟩ | ⟨j, h1, h2, h3⟩
      · exact Or.inl ⟨fun z => h1 ((zq_any_n (A := fun n => tr n = -1) ht).mpr z), h2⟩
      · exact Or.inr ⟨j, by omega, h2, h3⟩
theorem zx_cms {post : Int32 → Prop} {N pl : Nat} (hN : N ≤ 216) (hpl : pl < 35) (hz : ∀ n, n < N → tr n = -1 → ¬ sz (n * 35 + pl) = 0) (hp : ∀ r, zq_cm (fun n => tr n = -1) (fun n => sz (n * 35 + pl)) N r → post r) : wpX_commonSize post (mx, nI N, cnt, st, cp, K, X, Y, Z, rs, dt, sz, tr, bd, el) (nI pl) := by
  unfold wpX_commonSize
  dsimp only
  exact ⟨N + 1, zx_cms_l hN hpl hz hp N 0 (N + 1) 0 (by omega) (by omega) zq_same_0 (Or.inl ⟨zq_any_0, rfl⟩)⟩
theorem zx_aeq_l {post : Int32 → Prop} {N pl po : Nat} (hN : N ≤ 216) (hpl : pl < 35) (hpo : po < 35) (ok : zq_eqs (fun n => tr n = -1) (fun n => sz (n * 35 + pl)) (fun n => sz (n * 35 + po)) N → post 1) (no : ¬ zq_eqs (fun n => tr n = -1) (fun n => sz (n * 35 + pl)) (fun n => sz (n * 35 + po)) N → post 0) :
    ∀ d m fu : Nat, m + d = N → d < fu → zq_eqs (fun n => tr n = -1) (fun n => sz (n * 35 + pl)) (fun n => sz (n * 35 + po)) m → wX_alwaysEqual_2 post (nI pl) (nI po) mx (nI N) cnt st cp K X Y Z rs dt sz tr bd el fu (nI m) := by
  intro d
  induction d with
  | zero =>
    intro m fu hm hf h
    obtain ⟨f, rfl⟩ : ∃ f, fu = f + 1 := ⟨fu - 1, by omega⟩
    have e : m = N := by omega
    subst e
    rw [wX_alwaysEqual_2]
    exact br_t (Int32.le_refl _) (ok h)
  | succ d ih =>
    intro m fu hm hf h
    obtain ⟨f, rfl⟩ : ∃ f, fu = f + 1 := ⟨fu - 1, by omega⟩
    rw [wX_alwaysEqual_2]
    refine br_f (nI_ge (by omega) (by omega)) (nm_r (zq_m35 m) ⟨vp_in_nI (by omega) (by omega), ?_⟩)
    rw [nI_clamp (by omega), nI_add, nI_add, nI_clamp (by omega), nI_clamp (by omega)]
    refine br_c (fun ht => ⟨vp_in_nI (by omega) (by omega), vp_in_nI (by omega) (by omega), br_c (fun he => nm_r (nI_1 m) ?_) (fun he => no ?_)⟩) (fun ht => nm_r (nI_1 m) ?_)
    · exact ih (m + 1) f (by omega) (by omega) ((zq_eqs_y (A := fun n => tr n = -1) (g := fun n => sz (n * 35 + pl)) (f := fun n => sz (n * 35 + po)) he).mp h)
    · exact zq_eqs_f (A := fun n => tr n = -1) (g := fun n => sz (n * 35 + pl)) (f := fun n => sz (n * 35 + po)) (i := m) ht (by omega) he
    · exact ih (m + 1) f (by omega) (by omega) ((zq_eqs_n (A := fun n => tr n = -1) ht).mp h)
theorem zx_aeq {post : Int32 → Prop} {N pl po : Nat} (hN : N ≤ 216) (hpl : pl < 35) (hpo : po < 35) (ok : zq_eqs (fun n => tr n = -1) (fun n => sz (n * 35 + pl)) (fun n => sz (n * 35 + po)) N → post 1) (no : ¬ zq_eqs (fun n => tr n = -1) (fun n => sz (n * 35 + pl)) (fun n => sz (n * 35 + po)) N → post 0) : wpX_alwaysEqual post (mx, nI N, cnt, st, cp, K, X, Y, Z, rs, dt, sz, tr, bd, el) (nI pl) (nI po) := by
  unfold wpX_alwaysEqual
  dsimp only
  exact ⟨N + 1, zx_aeq_l hN hpl hpo ok no N 0 (N + 1) (by omega) (by omega) zq_eqs_0⟩
theorem zx_pla {post : Int32 → Prop} {i r s : Nat} (hi : i < 16) (hr : rs i = nI r) (hr2 : r ≤ 2) (hp : post (nI (i * 2 + 2 - r + s))) : wpX_placeOf post (mx, ins, cnt, st, cp, K, X, Y, Z, rs, dt, sz, tr, bd, el) (nI i) (nI s) := by
  unfold wpX_placeOf
  dsimp only
  rw [nI_clamp (by omega), hr, zq_m2, zq_a2, pk_sub (by omega), nI_add]
  exact ⟨vp_in_nI hi (by omega), hp⟩
theorem zx_dim {post : Int32 → Prop} {N c : Nat} {rk : Nat → Nat} {x y : Int32} (hN : N ≤ 216) (hc : c ≤ 16) (hr : ∀ j, j < c → rs j = nI (rk j) ∧ rk j ≤ 2)
    (hz : ∀ n i, n < N → tr n = -1 → i < c → ¬ sz (n * 35 + i * 2) = 0 ∧ ¬ sz (n * 35 + i * 2 + 1) = 0)
    (no : ¬ (∃ p s, p < c ∧ x = nI p ∧ y = nI s ∧ s < rk p) → post 0)
    (ok : ∀ p s r, p < c → x = nI p → y = nI s → s < rk p → zq_dr (fun n => tr n = -1) (fun n => sz (n * 35 + (p * 2 + 2 - rk p + s))) (fun n => sz (n * 35 + 32)) (fun n => sz (n * 35 + 33)) (fun n => sz (n * 35 + 34)) N r → post r) : wpX_dimOf post (mx, nI N, nI c, st, cp, K, X, Y, Z, rs, dt, sz, tr, bd, el) x y := by
  unfold wpX_dimOf
  dsimp only
  refine zx_hd hc hr (fun p s hp ex ey hs => br_f (by decide) ?_) (fun h => br_t rfl (no h))
  have ok1 := fun r => ok p s r hp ex ey hs
  clear ok
  have hr2 := (hr p hp).2
  have hz0 : ∀ n, n < N → tr n = -1 → ¬ sz (n * 35 + (p * 2 + 2 - rk p + s)) = 0 := by
    intro n hn ht
    have z := hz n p hn ht hp
    have e : p * 2 + 2 - rk p + s = p * 2 ∨ p * 2 + 2 - rk p + s = p * 2 + 1 := by omega
    rcases e with e | e
    · rw [e]; exact z.1
    · rw [e, ← Nat.add_assoc]; exact z.2
  refine zx_acc hN (fun ha => br_f (by decide) ?_) (fun ha => br_t rfl (ok1 0 (Or.inl ⟨ha, rfl⟩)))
  subst ex ey
  refine zx_pla (by omega) (hr p hp).1 hr2 ?_
  have hpl : p * 2 + 2 - rk p + s < 35 := by omega
  generalize p * 2 + 2 - rk p + s = pl at hpl hz0 ok1 ⊢
  refine zx_cms hN hpl hz0 (fun r hcm => ?_)
  rcases hcm with ⟨h1, m, h2, h3, h4⟩ | ⟨h1, h2⟩
  · have h0 : ¬ r = 0 := by rw [h4]; exact hz0 m h2 h3
    exact br_f h0 (ok1 r (Or.inr (Or.inl ⟨h1, m, h2, h3, h4⟩)))
  · have hns : ¬ zq_same (fun n => tr n = -1) (fun n => sz (n * 35 + pl)) N := fun z => h1 ⟨ha, z⟩
    have ok2 := fun r w => ok1 r (Or.inr (Or.inr ⟨ha, hns, w⟩))
    refine br_t h2 ⟨4, ?_⟩
    rw [wX_dimOf_43]
    refine br_f (by decide) ?_
    refine zx_aeq (po := 32) hN hpl (by omega) (fun q0 => br_f (by decide) ?_) (fun q0 => br_t rfl (nm_e ?_))
    · rw [show -((0 : Int32) + 1) = -1 from by decide]
      exact ok2 _ (Or.inl ⟨q0, rfl⟩)
    rw [wX_dimOf_43]
    refine br_f (by decide) ?_
    refine zx_aeq (po := 33) hN hpl (by omega) (fun q1 => br_f (by decide) ?_) (fun q1 => br_t rfl (nm_e ?_))
    · rw [show -((0 : Int32) + 1 + 1) = -2 from by decide]
      exact ok2 _ (Or.inr (Or.inl ⟨q0, q1, rfl⟩))
    rw [wX_dimOf_43]
    refine br_f (by decide) ?_
    refine zx_aeq (po := 34) hN hpl (by omega) (fun q2 => br_f (by decide) ?_) (fun q2 => br_t rfl (nm_e ?_))
    · rw [show -((0 : Int32) + 1 + 1 + 1) = -3 from by decide]
      exact ok2 _ (Or.inr (Or.inr (Or.inl ⟨q0, q1, q2, rfl⟩)))
    rw [wX_dimOf_43]
    exact br_t (by decide) (ok2 _ (Or.inr (Or.inr (Or.inr ⟨q0, q1, q2, rfl⟩))))
theorem zx_bin {post : Int32 → Prop} {D a b c : Nat} (h0 : bd 0 = nI (a + 1)) (h1 : bd 1 = nI (b + 1)) (h2 : bd 2 = nI (c + 1)) (hp : post (nI ((a * D + b) * D + c))) : wpX_boundInstantiation post (nI D, ins, cnt, st, cp, K, X, Y, Z, rs, dt, sz, tr, bd, el) := by
  unfold wpX_boundInstantiation
  dsimp only
  rw [h0, h1, h2]
  exact zx_iof hp
theorem zx_isy {post : Int32 → Prop} {x : Int32} (ok : ∀ j, j < 3 → x = nI j → post 1) (no : ¬ (∃ j, j < 3 ∧ x = nI j) → post 0) : wpX_isSymbol post () x := by
  unfold wpX_isSymbol
  exact zq_cke (c := 3) (by omega) ok no
theorem zx_isc {post : Int32 → Prop} {c : Nat} {x : Int32} (hc : c ≤ 16) (ok : ∀ j, j < c → x = nI j → post 1) (no : ¬ (∃ j, j < c ∧ x = nI j) → post 0) : wpX_isComputed post (mx, ins, cnt, st, nI c, K, X, Y, Z, rs, dt, sz, tr, bd, el) x := by
  unfold wpX_isComputed
  dsimp only
  exact zq_cke (by omega) ok no
end
end
section
/-! the class: the value rules -/
section
variable {mx ins cnt st cp : Int32} {K X Y Z rs dt sz tr bd el : Nat → Int32}
theorem zx_cin_l {post : St2 → Prop} {i n : Nat} (hi : i < 16) (hn : n ≤ 36) (hp : post (mx, ins, cnt, st, cp, K, X, Y, Z, rs, dt, sz, tr, bd, zq_fo (zq_fin dt (i * 36)) (i * 36) el n)) : ∀ d e fu : Nat, e + d = n → d < fu → wX_computeInput_16 post (nI (i * 36)) (nI n) mx ins cnt st cp fu (nI e) K X Y Z rs dt sz tr bd (zq_fo (zq_fin dt (i * 36)) (i * 36) el e) := by
  intro d
  induction d with
  | zero =>
    intro e fu he hf
    obtain ⟨f, rfl⟩ : ∃ f, fu = f + 1 := ⟨fu - 1, by omega⟩
    have e1 : e = n := by omega
    subst e1
    rw [wX_computeInput_16]
    exact br_t (Int32.le_refl _) hp
  | succ d ih =>
    intro e fu he hf
    obtain ⟨f, rfl⟩ : ∃ f, fu = f + 1 := ⟨fu - 1, by omega⟩
    rw [wX_computeInput_16]
    dsimp only
    rw [nI_add, nI_clamp (by omega)]
    exact br_f (nI_ge (by omega) (by omega)) ⟨vp_in_nI (by omega) (by omega), vp_in_nI (by omega) (by omega), nm_e (nm_r (nI_1 e) (ih (e + 1) f (by omega) (by omega)))⟩
theorem zx_cin {post : St2 → Prop} {b i R C : Nat} (hb : b + 34 < 7560) (hi : i < 16) (er : sz (b + i * 2) = nI R) (ec : sz (b + i * 2 + 1) = nI C) (hn : R * C ≤ 36) (hp : post (mx, ins, cnt, st, cp, K, X, Y, Z, rs, dt, sz, tr, bd, zq_fo (zq_fin dt (i * 36)) (i * 36) el (R * C))) : wpX_computeInput post (mx, ins, cnt, st, cp, K, X, Y, Z, rs, dt, sz, tr, bd, el) (nI b) (nI i) := by
  unfold wpX_computeInput
  dsimp only
  refine nm_r (zq_m36 i) (zx_elc (by omega) ?_)
  rw [er, ec, pk_mul]
  exact ⟨R * C + 1, zx_cin_l hi hn hp (R * C) 0 _ (by omega) (by omega)⟩
theorem zx_ccp_l {post : St2 → Prop} {i p n : Nat} (hi : i < 16) (hpi : p < 16) (hn : n ≤ 36) (hp : post (mx, ins, cnt, st, cp, K, X, Y, Z, rs, dt, sz, tr, bd, zq_fo (zq_fcp p) (i * 36) el n)) : ∀ d e fu : Nat, e + d = n → d < fu → wX_computeCopy_27 post (nI (i * 36)) (nI (p * 36)) (nI n) mx ins cnt st cp fu (nI e) K X Y Z rs dt sz tr bd (zq_fo (zq_fcp p) (i * 36) el e) := by
  intro d
  induction d with
  | zero =>
    intro e fu he hf
    obtain ⟨f, rfl⟩ : ∃ f, fu = f + 1 := ⟨fu - 1, by omega⟩
    have e1 : e = n := by omega
    subst e1
    rw [wX_computeCopy_27]
    exact br_t (Int32.le_refl _) hp
  | succ d ih =>
    intro e fu he hf
    obtain ⟨f, rfl⟩ : ∃ f, fu = f + 1 := ⟨fu - 1, by omega⟩
    rw [wX_computeCopy_27]
    dsimp only
    rw [nI_add (p * 36) e, nI_add (i * 36) e, nI_clamp (n := p * 36 + e) (by omega), nI_clamp (n := i * 36 + e) (by omega)]
    exact br_f (nI_ge (by omega) (by omega)) ⟨vp_in_nI (by omega) (by omega), vp_in_nI (by omega) (by omega), nm_e (nm_r (nI_1 e) (ih (e + 1) f (by omega) (by omega)))⟩
theorem zx_ccp {post : St2 → Prop} {b i p R C : Nat} (hb : b + 34 < 7560) (hi : i < 16) (hpi : p < 16) (ex : X i = nI p) (er : sz (b + i * 2) = nI R) (ec : sz (b + i * 2 + 1) = nI C) (hn : R * C ≤ 36) (hp : post (mx, ins, cnt, st, cp, K, X, Y, Z, rs, dt, sz, tr, bd, zq_fo (zq_fcp p) (i * 36) el (R * C))) : wpX_computeCopy post (mx, ins, cnt, st, cp, K, X, Y, Z, rs, dt, sz, tr, bd, el) (nI b) (nI i) := by
  unfold wpX_computeCopy
  dsimp only
  rw [nI_clamp (by omega), ex]
  refine nm_r (zq_m36 i) ⟨vp_in_nI hi (by omega), nm_r (zq_m36 p) (zx_elc (by omega) ?_)⟩
  rw [er, ec, pk_mul]
  exact ⟨R * C + 1, zx_ccp_l hi hpi hn hp (R * C) 0 _ (by omega) (by omega)⟩
theorem zx_bce {post : Int32 → Prop} {b p r j Rp Cp : Nat} (hb : b + 34 < 7560) (hp : p < 16) (er : sz (b + p * 2) = nI Rp) (ec : sz (b + p * 2 + 1) = nI Cp) (hR : Rp ≤ 6) (hC : Cp ≤ 6) (hr : r < 6) (hj : j < 6) (h : post (el (p * 36 + zq_bi Rp Cp r j))) : wpX_broadcastElement post (mx, ins, cnt, st, cp, K, X, Y, Z, rs, dt, sz, tr, bd, el) (nI b) (nI p) (nI r) (nI j) := by
  unfold wpX_broadcastElement
  dsimp only
  refine zx_rows (by omega) (zx_cols (by omega) ?_)
  rw [er, ec]
  have l41 : ∀ a c : Nat, a < 6 → c < 6 → post (el (p * 36 + (a * Cp + c))) → wX_broadcastElement_41 post (nI p) (nI Cp) (nI a) (nI c) mx ins cnt st cp K X Y Z rs dt sz tr bd el := by
    intro a c ha hc hh
    have hx := zq_ix ha hC hc
    have e : nI p * 36 + nI a * nI Cp + nI c = nI (p * 36 + (a * Cp + c)) := by rw [zq_m36, pk_mul, nI_add, nI_add, Nat.add_assoc]
    unfold wX_broadcastElement_41
    rw [e, nI_clamp (by omega)]
    exact ⟨vp_in_nI (by omega) (by omega), hh⟩
  unfold zq_bi at h
  refine pk_eq Rp 1 (fun z1 => ?_) (fun z1 => ?_)
  · rw [if_pos z1] at h
    unfold wX_broadcastElement_27
    refine pk_eq Cp 1 (fun z2 => ?_) (fun z2 => ?_)
    · rw [if_pos z2] at h
      exact l41 0 0 (by omega) (by omega) h
    · rw [if_neg z2] at h
      exact l41 0 j (by omega) (by omega) h
  · rw [if_neg z1] at h
    unfold wX_broadcastElement_27
    refine pk_eq Cp 1 (fun z2 => ?_) (fun z2 => ?_)
    · rw [if_pos z2] at h
      exact l41 r 0 (by omega) (by omega) h
    · rw [if_neg z2] at h
      exact l41 r j (by omega) (by omega) h
theorem zx_cbc_i {post : St2 → Prop} {J : Int32 → (Nat → Int32) → (Nat → Int32) → (Nat → Int32) → (Nat → Int32) → (Nat → Int32) → (Nat → Int32) → (Nat → Int32) → (Nat → Int32) → (Nat → Int32) → (Nat → Int32) → Prop} {b i p q r R C Rp Cp Rq Cq : Nat} (hb : b + 34 < 7560) (hi : i < 16) (hp : p < 16) (hq : q < 16) (ex : X i = nI p) (ey : Y i = nI q)
    (er : sz (b + p * 2) = nI Rp) (ec : sz (b + p * 2 + 1) = nI Cp) (fr : sz (b + q * 2) = nI Rq) (fc : sz (b + q * 2 + 1) = nI Cq) (h1 : Rp ≤ 6) (h2 : Cp ≤ 6) (h3 : Rq ≤ 6) (h4 : Cq ≤ 6) (hr : r < 6) (hC : C ≤ 6)
    (hJ : J (nI (r + 1)) K X Y Z rs dt sz tr bd (zq_fo (zq_fbc (K i) p q Rp Cp Rq Cq C) (i * 36) el (r * C + C))) :
    ∀ d j fu : Nat, j + d = C → d < fu → wX_computeBroadcast_34 post J (nI b) (nI i) (nI (i * 36)) (nI R) (nI C) (nI r) mx ins cnt st cp fu (nI j) K X Y Z rs dt sz tr bd (zq_fo (zq_fbc (K i) p q Rp Cp Rq Cq C) (i * 36) el (r * C + j)) := by
  intro d
  induction d with
  | zero =>
    intro j fu he hf
    obtain ⟨f, rfl⟩ : ∃ f, fu = f + 1 := ⟨fu - 1, by omega⟩
    have e1 : j = C := by omega
    subst e1
    rw [wX_computeBroadcast_34]
    exact br_t (Int32.le_refl _) (nm_r (nI_1 r) hJ)
  | succ d ih =>
    intro j fu he hf
    obtain ⟨f, rfl⟩ : ∃ f, fu = f + 1 := ⟨fu - 1, by omega⟩
    have hx := zq_ix hr hC (show j < 6 by omega)
    have hI := ih (j + 1) f (by omega) (by omega)
    have dm := zq_dm (i := r) (show j < C by omega)
    have es : zq_fo (zq_fbc (K i) p q Rp Cp Rq Cq C) (i * 36) el (r * C + (j + 1)) = upd (zq_fo (zq_fbc (K i) p q Rp Cp Rq Cq C) (i * 36) el (r * C + j)) (i * 36 + (r * C + j)) (zq_op (K i) ((zq_fo (zq_fbc (K i) p q Rp Cp Rq Cq C) (i * 36) el (r * C + j)) (p * 36 + zq_bi Rp Cp r j)) ((zq_fo (zq_fbc (K i) p q Rp Cp Rq Cq C) (i * 36) el (r * C + j)) (q * 36 + zq_bi Rq Cq r j))) := by
      rw [← Nat.add_assoc]
      show upd _ _ (zq_fbc (K i) p q Rp Cp Rq Cq C _ (r * C + j)) = _
      unfold zq_fbc
      rw [dm.1, dm.2]
    rw [es] at hI
    generalize zq_fo (zq_fbc (K i) p q Rp Cp Rq Cq C) (i * 36) el (r * C + j) = w at hI ⊢
    have e : nI (i * 36) + nI r * nI C + nI j = nI (i * 36 + (r * C + j)) := by rw [pk_mul, nI_add, nI_add, Nat.add_assoc]
    rw [wX_computeBroadcast_34]
    dsimp only
    rw [nI_clamp (n := i) (by omega), ex, ey, e, nI_clamp (by omega)]
    refine br_f (nI_ge (by omega) (by omega)) ⟨vp_in_nI hi (by omega), ?_⟩
    refine zx_bce hb hp er ec h1 h2 hr (by omega) ⟨vp_in_nI hi (by omega), ?_⟩
    refine zx_bce hb hq fr fc h3 h4 hr (by omega) ⟨vp_in_nI hi (by omega), ?_⟩
    unfold zq_op at hI
    refine br_c (fun hk => ⟨vp_in_nI (by omega) (by omega), nm_e (nm_r (nI_1 j) ?_)⟩) (fun hk => ⟨vp_in_nI (by omega) (by omega), nm_e (nm_r (nI_1 j) ?_)⟩)
    · rw [if_pos hk] at hI
      exact hI
    · rw [if_neg hk] at hI
      exact hI
theorem zx_cbc_o {post : St2 → Prop} {b i p q R C Rp Cp Rq Cq : Nat} (hb : b + 34 < 7560) (hi : i < 16) (hp : p < 16) (hq : q < 16) (ex : X i = nI p) (ey : Y i = nI q)
    (er : sz (b + p * 2) = nI Rp) (ec : sz (b + p * 2 + 1) = nI Cp) (fr : sz (b + q * 2) = nI Rq) (fc : sz (b + q * 2 + 1) = nI Cq) (h1 : Rp ≤ 6) (h2 : Cp ≤ 6) (h3 : Rq ≤ 6) (h4 : Cq ≤ 6) (hR : R ≤ 6) (hC : C ≤ 6)
    (h : post (mx, ins, cnt, st, cp, K, X, Y, Z, rs, dt, sz, tr, bd, zq_fo (zq_fbc (K i) p q Rp Cp Rq Cq C) (i * 36) el (R * C))) :
    ∀ d r fu : Nat, r + d = R → d < fu → wX_computeBroadcast_24 post (nI b) (nI i) (nI (i * 36)) (nI R) (nI C) mx ins cnt st cp fu (nI r) K X Y Z rs dt sz tr bd (zq_fo (zq_fbc (K i) p q Rp Cp Rq Cq C) (i * 36) el (r * C)) := by
  intro d
  induction d with
  | zero =>
    intro r fu he hf
    obtain ⟨f, rfl⟩ : ∃ f, fu = f + 1 := ⟨fu - 1, by omega⟩
    have e1 : r = R := by omega
    subst e1
    rw [wX_computeBroadcast_24]
    exact br_t (Int32.le_refl _) h
  | succ d ih =>
    intro r fu he hf
    obtain ⟨f, rfl⟩ : ∃ f, fu = f + 1 := ⟨fu - 1, by omega⟩
    rw [wX_computeBroadcast_24]
    refine br_f (nI_ge (by omega) (by omega)) ⟨C + 1, ?_⟩
    have hI := ih (r + 1) f (by omega) (by omega)
    rw [Nat.add_mul, Nat.one_mul] at hI
    exact zx_cbc_i hb hi hp hq ex ey er ec fr fc h1 h2 h3 h4 (by omega) hC hI C 0 (C + 1) (by omega) (by omega)
theorem zx_cbc {post : St2 → Prop} {b i p q R C Rp Cp Rq Cq : Nat} (hb : b + 34 < 7560) (hi : i < 16) (hp : p < 16) (hq : q < 16) (ex : X i = nI p) (ey : Y i = nI q)
    (gr : sz (b + i * 2) = nI R) (gc : sz (b + i * 2 + 1) = nI C)
    (er : sz (b + p * 2) = nI Rp) (ec : sz (b + p * 2 + 1) = nI Cp) (fr : sz (b + q * 2) = nI Rq) (fc : sz (b + q * 2 + 1) = nI Cq) (h1 : Rp ≤ 6) (h2 : Cp ≤ 6) (h3 : Rq ≤ 6) (h4 : Cq ≤ 6) (hR : R ≤ 6) (hC : C ≤ 6)
    (h : post (mx, ins, cnt, st, cp, K, X, Y, Z, rs, dt, sz, tr, bd, zq_fo (zq_fbc (K i) p q Rp Cp Rq Cq C) (i * 36) el (R * C))) : wpX_computeBroadcast post (mx, ins, cnt, st, cp, K, X, Y, Z, rs, dt, sz, tr, bd, el) (nI b) (nI i) := by
  unfold wpX_computeBroadcast
  dsimp only
  refine nm_r (zq_m36 i) (zx_rows (by omega) (zx_cols (by omega) ?_))
  rw [gr, gc]
  have W := zx_cbc_o hb hi hp hq ex ey er ec fr fc h1 h2 h3 h4 hR hC h R 0 (R + 1) (by omega) (by omega)
  rw [Nat.zero_mul] at W
  exact ⟨R + 1, W⟩
theorem zx_mme_l {post : Int32 → Prop} {p q r j m C : Nat} (hp : p < 16) (hq : q < 16) (hr : r < 6) (hj : j < 6) (hm : m ≤ 6) (hC : C ≤ 6) (h : post (zq_sm (fun t => el (p * 36 + r * m + t) * el (q * 36 + t * C + j)) m)) :
    ∀ d t fu : Nat, t + d = m → d < fu → wX_matmulElement_49 post (nI r) (nI j) (nI (p * 36)) (nI (q * 36)) (nI m) (nI C) mx ins cnt st cp K X Y Z rs dt sz tr bd el fu (zq_sm (fun t => el (p * 36 + r * m + t) * el (q * 36 + t * C + j)) t) (nI t) := by
  intro d
  induction d with
  | zero =>
    intro t fu he hf
    obtain ⟨f, rfl⟩ : ∃ f, fu = f + 1 := ⟨fu - 1, by omega⟩
    have e1 : t = m := by omega
    subst e1
    rw [wX_matmulElement_49]
    exact br_t (Int32.le_refl _) h
  | succ d ih =>
    intro t fu he hf
    obtain ⟨f, rfl⟩ : ∃ f, fu = f + 1 := ⟨fu - 1, by omega⟩
    have hx := zq_ix hr hm (show t < 6 by omega)
    have hy := zq_ix (show t < 6 by omega) hC hj
    rw [wX_matmulElement_49]
    dsimp only
    rw [pk_mul r m, pk_mul t C, nI_add, nI_add, nI_add, nI_add, nI_clamp (by omega), nI_clamp (by omega)]
    exact br_f (nI_ge (by omega) (by omega)) ⟨vp_in_nI (by omega) (by omega), vp_in_nI (by omega) (by omega), nm_e (nm_r (nI_1 t) (ih (t + 1) f (by omega) (by omega)))⟩
theorem zx_mme {post : Int32 → Prop} {b i p q r j m C : Nat} (hb : b + 34 < 7560) (hi : i < 16) (hp : p < 16) (hq : q < 16) (ex : X i = nI p) (ey : Y i = nI q) (gc : sz (b + i * 2 + 1) = nI C) (ec : sz (b + p * 2 + 1) = nI m)
    (hr : r < 6) (hj : j < 6) (hm : m ≤ 6) (hC : C ≤ 6) (h : post (zq_sm (fun t => el (p * 36 + r * m + t) * el (q * 36 + t * C + j)) m)) : wpX_matmulElement post (mx, ins, cnt, st, cp, K, X, Y, Z, rs, dt, sz, tr, bd, el) (nI b) (nI i) (nI r) (nI j) := by
  unfold wpX_matmulElement
  dsimp only
  rw [nI_clamp (by omega), ex, ey]
  refine ⟨vp_in_nI hi (by omega), nm_r (zq_m36 p) ⟨vp_in_nI hi (by omega), nm_r (zq_m36 q) ⟨vp_in_nI hi (by omega), zx_cols (by omega) (zx_cols (by omega) ?_)⟩⟩⟩
  rw [ec, gc]
  exact ⟨m + 1, zx_mme_l hp hq hr hj hm hC h m 0 (m + 1) (by omega) (by omega)⟩
theorem zx_cmm_i {post : St2 → Prop} {J : Int32 → (Nat → Int32) → (Nat → Int32) → (Nat → Int32) → (Nat → Int32) → (Nat → Int32) → (Nat → Int32) → (Nat → Int32) → (Nat → Int32) → (Nat → Int32) → (Nat → Int32) → Prop} {b i p q r m R C : Nat} (hb : b + 34 < 7560) (hi : i < 16) (hp : p < 16) (hq : q < 16) (ex : X i = nI p) (ey : Y i = nI q)
    (gc : sz (b + i * 2 + 1) = nI C) (ec : sz (b + p * 2 + 1) = nI m) (hm : m ≤ 6) (hr : r < 6) (hC : C ≤ 6)
    (hJ : J (nI (r + 1)) K X Y Z rs dt sz tr bd (zq_fo (zq_fmm p q m C) (i * 36) el (r * C + C))) :
    ∀ d j fu : Nat, j + d = C → d < fu → wX_computeMatmul_34 post J (nI b) (nI i) (nI (i * 36)) (nI R) (nI C) (nI r) mx ins cnt st cp fu (nI j) K X Y Z rs dt sz tr bd (zq_fo (zq_fmm p q m C) (i * 36) el (r * C + j)) := by
  intro d
  induction d with
  | zero =>
    intro j fu he hf
    obtain ⟨f, rfl⟩ : ∃ f, fu = f + 1 := ⟨fu - 1, by omega⟩
    have e1 : j = C := by omega
    subst e1
    rw [wX_computeMatmul_34]
    exact br_t (Int32.le_refl _) (nm_r (nI_1 r) hJ)
  | succ d ih =>
    intro j fu he hf
    obtain ⟨f, rfl⟩ : ∃ f, fu = f + 1 := ⟨fu - 1, by omega⟩
    have hx := zq_ix hr hC (show j < 6 by omega)
    have hI := ih (j + 1) f (by omega) (by omega)
    have dm := zq_dm (i := r) (show j < C by omega)
    have es : zq_fo (zq_fmm p q m C) (i * 36) el (r * C + (j + 1)) = upd (zq_fo (zq_fmm p q m C) (i * 36) el (r * C + j)) (i * 36 + (r * C + j)) (zq_sm (fun t => (zq_fo (zq_fmm p q m C) (i * 36) el (r * C + j)) (p * 36 + r * m + t) * (zq_fo (zq_fmm p q m C) (i * 36) el (r * C + j)) (q * 36 + t * C + j)) m) := by
      rw [← Nat.add_assoc]
      show upd _ _ (zq_fmm p q m C _ (r * C + j)) = _
      unfold zq_fmm
      rw [dm.1, dm.2]
    rw [es] at hI
    generalize zq_fo (zq_fmm p q m C) (i * 36) el (r * C + j) = w at hI ⊢
    have e : nI (i * 36) + nI r * nI C + nI j = nI (i * 36 + (r * C + j)) := by rw [pk_mul, nI_add, nI_add, Nat.add_assoc]
    rw [wX_computeMatmul_34]
    dsimp only
    rw [e, nI_clamp (by omega)]
    refine br_f (nI_ge (by omega) (by omega)) ?_
    exact zx_mme hb hi hp hq ex ey gc ec hr (by omega) hm hC ⟨vp_in_nI (by omega) (by omega), nm_e (nm_r (nI_1 j) hI)⟩
theorem zx_cmm_o {post : St2 → Prop} {b i p q m R C : Nat} (hb : b + 34 < 7560) (hi : i < 16) (hp : p < 16) (hq : q < 16) (ex : X i = nI p) (ey : Y i = nI q)
    (gc : sz (b + i * 2 + 1) = nI C) (ec : sz (b + p * 2 + 1) = nI m) (hm : m ≤ 6) (hR : R ≤ 6) (hC : C ≤ 6)
    (h : post (mx, ins, cnt, st, cp, K, X, Y, Z, rs, dt, sz, tr, bd, zq_fo (zq_fmm p q m C) (i * 36) el (R * C))) :
    ∀ d r fu : Nat, r + d = R → d < fu → wX_computeMatmul_24 post (nI b) (nI i) (nI (i * 36)) (nI R) (nI C) mx ins cnt st cp fu (nI r) K X Y Z rs dt sz tr bd (zq_fo (zq_fmm p q m C) (i * 36) el (r * C)) := by
  intro d
  induction d with
  | zero =>
    intro r fu he hf
    obtain ⟨f, rfl⟩ : ∃ f, fu = f + 1 := ⟨fu - 1, by omega⟩
    have e1 : r = R := by omega
    subst e1
    rw [wX_computeMatmul_24]
    exact br_t (Int32.le_refl _) h
  | succ d ih =>
    intro r fu he hf
    obtain ⟨f, rfl⟩ : ∃ f, fu = f + 1 := ⟨fu - 1, by omega⟩
    rw [wX_computeMatmul_24]
    refine br_f (nI_ge (by omega) (by omega)) ⟨C + 1, ?_⟩
    have hI := ih (r + 1) f (by omega) (by omega)
    rw [Nat.add_mul, Nat.one_mul] at hI
    exact zx_cmm_i hb hi hp hq ex ey gc ec hm (by omega) hC hI C 0 (C + 1) (by omega) (by omega)
theorem zx_cmm {post : St2 → Prop} {b i p q m R C : Nat} (hb : b + 34 < 7560) (hi : i < 16) (hp : p < 16) (hq : q < 16) (ex : X i = nI p) (ey : Y i = nI q)
    (gr : sz (b + i * 2) = nI R) (gc : sz (b + i * 2 + 1) = nI C) (ec : sz (b + p * 2 + 1) = nI m) (hm : m ≤ 6) (hR : R ≤ 6) (hC : C ≤ 6)
    (h : post (mx, ins, cnt, st, cp, K, X, Y, Z, rs, dt, sz, tr, bd, zq_fo (zq_fmm p q m C) (i * 36) el (R * C))) : wpX_computeMatmul post (mx, ins, cnt, st, cp, K, X, Y, Z, rs, dt, sz, tr, bd, el) (nI b) (nI i) := by
  unfold wpX_computeMatmul
  dsimp only
  refine nm_r (zq_m36 i) (zx_rows (by omega) (zx_cols (by omega) ?_))
  rw [gr, gc]
  have W := zx_cmm_o hb hi hp hq ex ey gc ec hm hR hC h R 0 (R + 1) (by omega) (by omega)
  rw [Nat.zero_mul] at W
  exact ⟨R + 1, W⟩
theorem zx_ctr_i {post : St2 → Prop} {J : Int32 → (Nat → Int32) → (Nat → Int32) → (Nat → Int32) → (Nat → Int32) → (Nat → Int32) → (Nat → Int32) → (Nat → Int32) → (Nat → Int32) → (Nat → Int32) → (Nat → Int32) → Prop} {i p r R C : Nat} (hi : i < 16) (hp : p < 16) (hr : r < R) (hR : R ≤ 6) (hC : C ≤ 6)
    (hJ : J (nI (r + 1)) K X Y Z rs dt sz tr bd (zq_fo (zq_ftr p R C) (i * 36) el (r * C + C))) :
    ∀ d j fu : Nat, j + d = C → d < fu → wX_computeTranspose_62 post J (nI (i * 36)) (nI (p * 36)) (nI R) (nI C) (nI r) mx ins cnt st cp fu (nI j) K X Y Z rs dt sz tr bd (zq_fo (zq_ftr p R C) (i * 36) el (r * C + j)) := by
  intro d
  induction d with
  | zero =>
    intro j fu he hf
    obtain ⟨f, rfl⟩ : ∃ f, fu = f + 1 := ⟨fu - 1, by omega⟩
    have e1 : j = C := by omega
    subst e1
    rw [wX_computeTranspose_62]
    exact br_t (Int32.le_refl _) (nm_r (nI_1 r) hJ)
  | succ d ih =>
    intro j fu he hf
    obtain ⟨f, rfl⟩ : ∃ f, fu = f + 1 := ⟨fu - 1, by omega⟩
    have hx := zq_ix (show r < 6 by omega) hC (show j < 6 by omega)
    have hy := zq_ix (show j < 6 by omega) hR (show r < 6 by omega)
    have hI := ih (j + 1) f (by omega) (by omega)
    have dm := zq_dm (i := r) (show j < C by omega)
    have es : zq_fo (zq_ftr p R C) (i * 36) el (r * C + (j + 1)) = upd (zq_fo (zq_ftr p R C) (i * 36) el (r * C + j)) (i * 36 + (r * C + j)) ((zq_fo (zq_ftr p R C) (i * 36) el (r * C + j)) (p * 36 + j * R + r)) := by
      rw [← Nat.add_assoc]
      show upd _ _ (zq_ftr p R C _ (r * C + j)) = _
      unfold zq_ftr
      rw [dm.1, dm.2]
    rw [es] at hI
    generalize zq_fo (zq_ftr p R C) (i * 36) el (r * C + j) = w at hI ⊢
    have e : nI (i * 36) + nI r * nI C + nI j = nI (i * 36 + (r * C + j)) := by rw [pk_mul, nI_add, nI_add, Nat.add_assoc]
    have e' : nI (p * 36) + nI j * nI R + nI r = nI (p * 36 + j * R + r) := by rw [pk_mul, nI_add, nI_add]
    rw [wX_computeTranspose_62]
    dsimp only
    rw [e, e', nI_clamp (n := i * 36 + (r * C + j)) (by omega), nI_clamp (n := p * 36 + j * R + r) (by omega)]
    exact br_f (nI_ge (by omega) (by omega)) ⟨vp_in_nI (by omega) (by omega), vp_in_nI (by omega) (by omega), nm_e (nm_r (nI_1 j) hI)⟩
theorem zx_ctr_o {post : St2 → Prop} {i p R C : Nat} (hi : i < 16) (hp : p < 16) (hR : R ≤ 6) (hC : C ≤ 6)
    (h : post (mx, ins, cnt, st, cp, K, X, Y, Z, rs, dt, sz, tr, bd, zq_fo (zq_ftr p R C) (i * 36) el (R * C))) :
    ∀ d r fu : Nat, r + d = R → d < fu → wX_computeTranspose_52 post (nI (i * 36)) (nI (p * 36)) (nI R) (nI C) mx ins cnt st cp fu (nI r) K X Y Z rs dt sz tr bd (zq_fo (zq_ftr p R C) (i * 36) el (r * C)) := by
  intro d
  induction d with
  | zero =>
    intro r fu he hf
    obtain ⟨f, rfl⟩ : ∃ f, fu = f + 1 := ⟨fu - 1, by omega⟩
    have e1 : r = R := by omega
    subst e1
    rw [wX_computeTranspose_52]
    exact br_t (Int32.le_refl _) h
  | succ d ih =>
    intro r fu he hf
    obtain ⟨f, rfl⟩ : ∃ f, fu = f + 1 := ⟨fu - 1, by omega⟩
    rw [wX_computeTranspose_52]
    refine br_f (nI_ge (by omega) (by omega)) ⟨C + 1, ?_⟩
    have hI := ih (r + 1) f (by omega) (by omega)
    rw [Nat.add_mul, Nat.one_mul] at hI
    exact zx_ctr_i hi hp (by omega) hR hC hI C 0 (C + 1) (by omega) (by omega)
theorem zx_ctr {post : St2 → Prop} {b i p R C : Nat} (hb : b + 34 < 7560) (hi : i < 16) (hp : p < 16) (ex : X i = nI p) (h2 : rs i = 2) (gr : sz (b + i * 2) = nI R) (gc : sz (b + i * 2 + 1) = nI C) (hR : R ≤ 6) (hC : C ≤ 6)
    (h : post (mx, ins, cnt, st, cp, K, X, Y, Z, rs, dt, sz, tr, bd, zq_fo (zq_ftr p R C) (i * 36) el (R * C))) : wpX_computeTranspose post (mx, ins, cnt, st, cp, K, X, Y, Z, rs, dt, sz, tr, bd, el) (nI b) (nI i) := by
  unfold wpX_computeTranspose
  dsimp only
  rw [nI_clamp (by omega), ex]
  refine ⟨vp_in_nI hi (by omega), br_t h2 (nm_r (zq_m36 i) ⟨vp_in_nI hi (by omega), nm_r (zq_m36 p) (zx_rows (by omega) (zx_cols (by omega) ?_))⟩)⟩
  rw [gr, gc]
  have W := zx_ctr_o hi hp hR hC h R 0 (R + 1) (by omega) (by omega)
  rw [Nat.zero_mul] at W
  exact ⟨R + 1, W⟩
theorem zx_soco_l {post : Int32 → Prop} {p j R C : Nat} (hp : p < 16) (hj : j < 6) (hR : R ≤ 6) (hC : C ≤ 6) (h : post (zq_sm (fun t => el (p * 36 + t * C + j)) R)) :
    ∀ d t fu : Nat, t + d = R → d < fu → wX_sumOfColumn_28 post (nI j) (nI (p * 36)) (nI R) (nI C) mx ins cnt st cp K X Y Z rs dt sz tr bd el fu (zq_sm (fun t => el (p * 36 + t * C + j)) t) (nI t) := by
  intro d
  induction d with
  | zero =>
    intro t fu he hf
    obtain ⟨f, rfl⟩ : ∃ f, fu = f + 1 := ⟨fu - 1, by omega⟩
    have e1 : t = R := by omega
    subst e1
    rw [wX_sumOfColumn_28]
    exact br_t (Int32.le_refl _) h
  | succ d ih =>
    intro t fu he hf
    obtain ⟨f, rfl⟩ : ∃ f, fu = f + 1 := ⟨fu - 1, by omega⟩
    have hy := zq_ix (show t < 6 by omega) hC hj
    rw [wX_sumOfColumn_28]
    dsimp only
    rw [pk_mul t C, nI_add, nI_add, nI_clamp (by omega)]
    exact br_f (nI_ge (by omega) (by omega)) ⟨vp_in_nI (by omega) (by omega), nm_e (nm_r (nI_1 t) (ih (t + 1) f (by omega) (by omega)))⟩
theorem zx_soco {post : Int32 → Prop} {b p j R C : Nat} (hb : b + 34 < 7560) (hp : p < 16) (hj : j < 6) (gr : sz (b + p * 2) = nI R) (gc : sz (b + p * 2 + 1) = nI C) (hR : R ≤ 6) (hC : C ≤ 6) (h : post (zq_sm (fun t => el (p * 36 + t * C + j)) R)) : wpX_sumOfColumn post (mx, ins, cnt, st, cp, K, X, Y, Z, rs, dt, sz, tr, bd, el) (nI b) (nI p) (nI j) := by
  unfold wpX_sumOfColumn
  dsimp only
  refine nm_r (zq_m36 p) (zx_rows (by omega) (zx_cols (by omega) ?_))
  rw [gr, gc]
  exact ⟨R + 1, zx_soco_l hp hj hR hC h R 0 (R + 1) (by omega) (by omega)⟩
theorem zx_soro_l {post : Int32 → Prop} {p j C : Nat} (hp : p < 16) (hj : j < 6) (hC : C ≤ 6) (h : post (zq_sm (fun t => el (p * 36 + j * C + t)) C)) :
    ∀ d t fu : Nat, t + d = C → d < fu → wX_sumOfRow_20 post (nI j) (nI (p * 36)) (nI C) mx ins cnt st cp K X Y Z rs dt sz tr bd el fu (zq_sm (fun t => el (p * 36 + j * C + t)) t) (nI t) := by
  intro d
  induction d with
  | zero =>
    intro t fu he hf
    obtain ⟨f, rfl⟩ : ∃ f, fu = f + 1 := ⟨fu - 1, by omega⟩
    have e1 : t = C := by omega
    subst e1
    rw [wX_sumOfRow_20]
    exact br_t (Int32.le_refl _) h
  | succ d ih =>
    intro t fu he hf
    obtain ⟨f, rfl⟩ : ∃ f, fu = f + 1 := ⟨fu - 1, by omega⟩
    have hy := zq_ix hj hC (show t < 6 by omega)
    rw [wX_sumOfRow_20]
    dsimp only
    rw [pk_mul j C, nI_add, nI_add, nI_clamp (by omega)]
    exact br_f (nI_ge (by omega) (by omega)) ⟨vp_in_nI (by omega) (by omega), nm_e (nm_r (nI_1 t) (ih (t + 1) f (by omega) (by omega)))⟩
theorem zx_soro {post : Int32 → Prop} {b p j C : Nat} (hb : b + 34 < 7560) (hp : p < 16) (hj : j < 6) (gc : sz (b + p * 2 + 1) = nI C) (hC : C ≤ 6) (h : post (zq_sm (fun t => el (p * 36 + j * C + t)) C)) : wpX_sumOfRow post (mx, ins, cnt, st, cp, K, X, Y, Z, rs, dt, sz, tr, bd, el) (nI b) (nI p) (nI j) := by
  unfold wpX_sumOfRow
  dsimp only
  refine nm_r (zq_m36 p) (zx_cols (by omega) ?_)
  rw [gc]
  exact ⟨C + 1, zx_soro_l hp hj hC h C 0 (C + 1) (by omega) (by omega)⟩
theorem zx_csu_l {post : St2 → Prop} {b i p n r Rp Cp : Nat} {F : (Nat → Int32) → Nat → Int32} (hb : b + 34 < 7560) (hi : i < 16) (hp : p < i) (ex : X i = nI p) (hr : r ≤ 2) (eR : rs p = nI r) (er : sz (b + p * 2) = nI Rp) (ec : sz (b + p * 2 + 1) = nI Cp) (hR : Rp ≤ 6) (hC : Cp ≤ 6) (hn : n ≤ 6)
    (hF : F = if r = 2 ∧ Y i = 0 then zq_fsc p Rp Cp else zq_fsr p Cp) (h : post (mx, ins, cnt, st, cp, K, X, Y, Z, rs, dt, sz, tr, bd, zq_fo F (i * 36) el n)) :
    ∀ d e fu : Nat, e + d = n → d < fu → wX_computeSum_16 post (nI b) (nI i) (nI (i * 36)) (nI n) mx ins cnt st cp fu (nI e) K X Y Z rs dt sz tr bd (zq_fo F (i * 36) el e) := by
  intro d
  induction d with
  | zero =>
    intro e fu he hf
    obtain ⟨f, rfl⟩ : ∃ f, fu = f + 1 := ⟨fu - 1, by omega⟩
    have e1 : e = n := by omega
    subst e1
    rw [wX_computeSum_16]
    exact br_t (Int32.le_refl _) h
  | succ d ih =>
    intro e fu he hf
    obtain ⟨f, rfl⟩ : ∃ f, fu = f + 1 := ⟨fu - 1, by omega⟩
    have hI := ih (e + 1) f (by omega) (by omega)
    have es : zq_fo F (i * 36) el (e + 1) = upd (zq_fo F (i * 36) el e) (i * 36 + e) (F (zq_fo F (i * 36) el e) e) := rfl
    rw [es] at hI
    generalize zq_fo F (i * 36) el e = w at hI ⊢
    rw [wX_computeSum_16]
    dsimp only
    rw [nI_add, nI_clamp (by omega), nI_clamp (n := i) (by omega), ex]
    refine br_f (nI_ge (by omega) (by omega)) ?_
    refine zx_smr hi hp ex hr eR (fun z => br_f (by decide) ⟨vp_in_nI hi (by omega), ?_⟩) (fun z => br_t rfl ⟨vp_in_nI hi (by omega), ?_⟩)
    · rw [if_pos z] at hF
      rw [hF] at hI
      exact zx_soco hb (by omega) (by omega) er ec hR hC ⟨vp_in_nI (by omega) (by omega), nm_e (nm_r (nI_1 e) hI)⟩
    · rw [if_neg z] at hF
      rw [hF] at hI
      exact zx_soro hb (by omega) (by omega) ec hC ⟨vp_in_nI (by omega) (by omega), nm_e (nm_r (nI_1 e) hI)⟩
theorem zx_csu {post : St2 → Prop} {b i p n r Rp Cp : Nat} {F : (Nat → Int32) → Nat → Int32} (hb : b + 34 < 7560) (hi : i < 16) (hp : p < i) (ex : X i = nI p) (hr : r ≤ 2) (eR : rs p = nI r) (gr : sz (b + i * 2) = 1) (gc : sz (b + i * 2 + 1) = nI n) (er : sz (b + p * 2) = nI Rp) (ec : sz (b + p * 2 + 1) = nI Cp) (hR : Rp ≤ 6) (hC : Cp ≤ 6) (hn : n ≤ 6)
    (hF : F = if r = 2 ∧ Y i = 0 then zq_fsc p Rp Cp else zq_fsr p Cp) (h : post (mx, ins, cnt, st, cp, K, X, Y, Z, rs, dt, sz, tr, bd, zq_fo F (i * 36) el n)) : wpX_computeSum post (mx, ins, cnt, st, cp, K, X, Y, Z, rs, dt, sz, tr, bd, el) (nI b) (nI i) := by
  unfold wpX_computeSum
  dsimp only
  refine nm_r (zq_m36 i) (zx_elc (by omega) ?_)
  have e : (1 : Int32) * nI n = nI n := by
    show nI 1 * nI n = nI n
    rw [pk_mul, Nat.one_mul]
  rw [gr, gc, e]
  exact ⟨n + 1, zx_csu_l hb hi hp ex hr eR er ec hR hC hn hF h n 0 (n + 1) (by omega) (by omega)⟩
theorem zx_compute {post : St2 → Prop} {D b i a0 a1 a2 : Nat} {rk R C : Nat → Nat} (hb : b + 34 < 7560) (hi : i < 16) (hn : zq_nd D i rk (K i) (X i) (Y i) (Z i)) (hr : ∀ j, j ≤ i → rs j = nI (rk j) ∧ rk j ≤ 2)
    (hc : ∀ j, j ≤ i → sz (b + j * 2) = nI (R j) ∧ sz (b + j * 2 + 1) = nI (C j)) (hg : ∀ j, j ≤ i → R j ≤ 6 ∧ C j ≤ 6) (hu : zq_ru (K i) (X i) (Y i) (Z i) a0 a1 a2 rk R C = some (R i, C i))
    (hp : post (mx, ins, cnt, st, cp, K, X, Y, Z, rs, dt, sz, tr, bd, zq_fo (zq_f (K i) (X i) (Y i) i dt rk R C) (i * 36) el (R i * C i))) : wpX_compute post (mx, ins, cnt, st, cp, K, X, Y, Z, rs, dt, sz, tr, bd, el) (nI b) (nI i) := by
  have gi := hg i (by omega)
  have hRC : R i * C i ≤ 6 * 6 := Nat.mul_le_mul gi.1 gi.2
  unfold wpX_compute
  dsimp only
  rw [nI_clamp (by omega)]
  refine ⟨vp_in_nI hi (by omega), ?_⟩
  rcases hn with ⟨ek, h2, h3⟩ | ⟨p, q, hpi, hqi, ex, ey, ek, h4⟩ | ⟨p, q, hpi, hqi, ex, ey, ek, h4, h5, h7⟩ | ⟨p, hpi, ex, ek, h3⟩ | ⟨p, hpi, ex, ek, h3, h4⟩ | ⟨p, s, hpi, ex, ek, h3, h4, h5⟩
  · refine nm_r ek (br_f (by decide) (br_f (by decide) (br_t rfl ?_)))
    rw [ek, zq_f1] at hp
    exact zx_cin hb hi (hc i (by omega)).1 (hc i (by omega)).2 (by omega) hp
  · rw [ex, ey, zq_f2 (by omega) (by omega) ek] at hp
    have gp := hg p (by omega)
    have gq := hg q (by omega)
    have main : wX_compute_53 post (nI b) (nI i) mx ins cnt st cp K X Y Z rs dt sz tr bd el := by
      unfold wX_compute_53
      exact zx_cbc hb hi (by omega) (by omega) ex ey (hc i (by omega)).1 (hc i (by omega)).2 (hc p (by omega)).1 (hc p (by omega)).2 (hc q (by omega)).1 (hc q (by omega)).2 gp.1 gp.2 gq.1 gq.2 gi.1 gi.2 hp
    rcases ek with ek | ek
    · exact nm_r ek (br_f (by decide) (br_f (by decide) (br_f (by decide) (br_t rfl main))))
    · exact nm_r ek (br_f (by decide) (br_f (by decide) (br_f (by decide) (br_f (by decide) (br_t rfl main)))))
  · refine nm_r ek (br_f (by decide) (br_f (by decide) (br_f (by decide) (br_f (by decide) (br_f (by decide) (br_t rfl ?_))))))
    rw [ek, ex, ey, zq_f4 (by omega) (by omega)] at hp
    exact zx_cmm hb hi (by omega) (by omega) ex ey (hc i (by omega)).1 (hc i (by omega)).2 (hc p (by omega)).2 (hg p (by omega)).2 gi.1 gi.2 hp
  · refine nm_r ek (br_f (by decide) (br_f (by decide) (br_f (by decide) (br_f (by decide) (br_f (by decide) (br_f (by decide) (br_t rfl ?_)))))))
    by_cases h2 : rk p = 2
    · rw [ek, ex, zq_f5t (by omega) h2] at hp
      exact zx_ctr hb hi (by omega) ex (by rw [(hr i (by omega)).1, h3, h2]; rfl) (hc i (by omega)).1 (hc i (by omega)).2 gi.1 gi.2 hp
    · rw [ek, ex, zq_f5c (by omega) h2] at hp
      unfold wpX_computeTranspose
      dsimp only
      rw [nI_clamp (by omega)]
      refine ⟨vp_in_nI hi (by omega), br_f ?_ ?_⟩
      · rw [(hr i (by omega)).1]
        exact fun z => h2 (by rw [← h3]; exact (nI_eq (b := 2) (by have := (hr i (by omega)).2; omega) (by omega)).mp z)
      · exact zx_ccp hb hi (by omega) ex (hc i (by omega)).1 (hc i (by omega)).2 (by omega) hp
  · refine nm_r ek (br_f (by decide) (br_f (by decide) (br_f (by decide) (br_f (by decide) (br_f (by decide) (br_f (by decide) (br_f (by decide) (br_t rfl ?_))))))))
    rw [ek, ex, zq_f6 (by omega)] at hp
    exact zx_ccp hb hi (by omega) ex (hc i (by omega)).1 (hc i (by omega)).2 (by omega) hp
  · refine nm_r ek (br_f (by decide) (br_t (by decide) ?_))
    rw [ek, ex, zq_ru7 (by omega)] at hu
    have hu1 : 1 = R i := congrArg Prod.fst (Option.some.inj hu)
    have gp := hg p (by omega)
    rw [← hu1, Nat.one_mul] at hp
    refine zx_csu (F := zq_f (K i) (X i) (Y i) i dt rk R C) hb hi hpi ex (hr p (by omega)).2 (hr p (by omega)).1 (by rw [(hc i (by omega)).1, ← hu1]; rfl) (hc i (by omega)).2 (hc p (by omega)).1 (hc p (by omega)).2 gp.1 gp.2 gi.2 ?_ hp
    rw [ek, ex]
    by_cases z : rk p = 2 ∧ Y i = 0
    · rw [zq_f7c (by omega) z, if_pos z]
    · rw [zq_f7r (by omega) z, if_neg z]
end
end
section
/-! the state of the object between calls -/
def zq_inv (D c : Nat) (rk : Nat → Nat) (K X Y Z rs sz tr bd : Nat → Int32) : Prop :=
  2 ≤ D ∧ D ≤ 6 ∧ c ≤ 16 ∧ (∀ j, j < c → rs j = nI (rk j) ∧ rk j ≤ 2) ∧ (∀ i, i < c → zq_nd D i rk (K i) (X i) (Y i) (Z i)) ∧ (∀ n, n < D * D * D → zq_tb D c K X Y Z rk sz tr n) ∧
  (∃ b0 b1 b2, b0 < D ∧ b1 < D ∧ b2 < D ∧ bd 0 = nI (b0 + 1) ∧ bd 1 = nI (b1 + 1) ∧ bd 2 = nI (b2 + 1))
theorem zr_add {D c r : Nat} {rk : Nat → Nat} {k x y z : Int32} {K X Y Z rs sz tr bd sz' tr' : Nat → Int32} (h : zq_inv D c rk K X Y Z rs sz tr bd) (hc : c < 16) (hnd : zq_nd D c (zq_ex c r rk) k x y z) (r2 : r ≤ 2)
    (ht : ∀ n, n < D * D * D → zq_tb D (c + 1) (upd K c k) (upd X c x) (upd Y c y) (upd Z c z) (zq_ex c r rk) sz' tr' n) : zq_inv D (c + 1) (zq_ex c r rk) (upd K c k) (upd X c x) (upd Y c y) (upd Z c z) (upd rs c (nI r)) sz' tr' bd := by
  obtain ⟨h2, h6, _, hr, hn, _, hb⟩ := h
  refine ⟨h2, h6, by omega, fun j hj => ?_, fun i hi => ?_, ht, hb⟩
  · by_cases e : j = c
    · subst e
      rw [pk_us, zq_ex_s]
      exact ⟨rfl, r2⟩
    · rw [pk_un e, zq_ex_n (by omega)]
      exact hr j (by omega)
  · by_cases e : i = c
    · subst e
      rw [pk_us, pk_us, pk_us, pk_us]
      exact hnd
    · rw [pk_un (f := K) e, pk_un (f := X) e, pk_un (f := Y) e, pk_un (f := Z) e]
      exact zq_nd_c (hn i (by omega)) (fun j hj => zq_ex_n (by omega))
theorem zr_nz {D c n i : Nat} {rk : Nat → Nat} {K X Y Z sz tr : Nat → Int32} (h6 : D ≤ 6) (h : zq_tb D c K X Y Z rk sz tr n) (hc : c ≤ 16) (ht : tr n = -1) (hi : i < c) : ¬ sz (n * 35 + i * 2) = 0 ∧ ¬ sz (n * 35 + i * 2 + 1) = 0 := by
  obtain ⟨t1, t2, t3, t, R, C, t4, t5, t6⟩ := h
  have etc : t = c := by
    rcases t6 with ⟨e, _⟩ | ⟨_, e⟩
    · exact e
    · rw [e] at ht
      exact absurd ht (zq_m1 (by have := t4.1; omega))
  subst etc
  have g := (t4.2.1 i hi).1
  unfold zq_good at g
  rw [(t5 i hi).1, (t5 i hi).2]
  exact ⟨nI_ne0 (by omega) (by omega), nI_ne0 (by omega) (by omega)⟩
section
variable {mx ins cnt st cp : Int32} {K X Y Z rs dt sz tr bd el : Nat → Int32} {D c n t a0 a1 a2 : Nat} {rk R C : Nat → Nat}
theorem zx_run_l {post : Int32 → St2 → Prop} {x2 : Int32} (h6 : D ≤ 6) (hn216 : n < 216) (htc : t ≤ 16) (hn : ∀ i, i < t → zq_nd D i rk (K i) (X i) (Y i) (Z i)) (hr : ∀ j, j < t → rs j = nI (rk j) ∧ rk j ≤ 2)
    (hc : ∀ j, j < t → sz (n * 35 + j * 2) = nI (R j) ∧ sz (n * 35 + j * 2 + 1) = nI (C j)) (hg : ∀ j, j < t → zq_good D (rk j) (R j) (C j) ∧ zq_ru (K j) (X j) (Y j) (Z j) a0 a1 a2 rk R C = some (R j, C j))
    (h0 : x2 = 0 → wX_run_74 post x2 (nI t) 1 mx ins cnt st cp K X Y Z rs dt sz tr bd (zq_ev K X Y dt rk R C el t)) (h1 : ¬ x2 = 0 → wX_run_74 post x2 (nI t) 2 mx ins cnt st cp K X Y Z rs dt sz tr bd (zq_ev K X Y dt rk R C el t)) :
    ∀ d i fu : Nat, i + d = t → d < fu → wX_run_42 post (nI n) x2 (nI t) fu (nI i) mx ins cnt st cp K X Y Z rs dt sz tr bd (zq_ev K X Y dt rk R C el i) := by
  intro d
  induction d with
  | zero =>
    intro i fu hi hf
    obtain ⟨f, rfl⟩ : ∃ f, fu = f + 1 := ⟨fu - 1, by omega⟩
    have e : i = t := by omega
    subst e
    rw [wX_run_42]
    exact br_t (Int32.le_refl _) (br_c h0 h1)
  | succ d ih =>
    intro i fu hi hf
    obtain ⟨f, rfl⟩ : ∃ f, fu = f + 1 := ⟨fu - 1, by omega⟩
    rw [wX_run_42]
    refine br_f (nI_ge (by omega) (by omega)) ?_
    rw [zq_m35]
    refine zx_compute (R := R) (C := C) (rk := rk) (by omega) (by omega) (hn i (by omega)) (fun j hj => hr j (by omega)) (fun j hj => hc j (by omega)) (fun j hj => ?_) (hg i (by omega)).2 ?_
    · have g := (hg j (by omega)).1
      unfold zq_good at g
      omega
    · exact nm_r (nI_1 i) (ih (i + 1) f (by omega) (by omega))
/-- run: how far it goes under the bound values, and what it leaves -/
theorem zx_run {post : Int32 → St2 → Prop} {b0 b1 b2 : Nat} (hI : zq_inv D c rk K X Y Z rs sz tr bd) (hb0 : b0 < D) (hb1 : b1 < D) (hb2 : b2 < D) (e0 : bd 0 = nI (b0 + 1)) (e1 : bd 1 = nI (b1 + 1)) (e2 : bd 2 = nI (b2 + 1))
    (ok : ∀ (R C : Nat → Nat) el', tr ((b0 * D + b1) * D + b2) = -1 → (∀ i, i < c → zq_good D (rk i) (R i) (C i) ∧ sz (((b0 * D + b1) * D + b2) * 35 + i * 2) = nI (R i) ∧ sz (((b0 * D + b1) * D + b2) * 35 + i * 2 + 1) = nI (C i)) → post 1 (nI D, nI (D * D * D), nI c, 1, nI c, K, X, Y, Z, rs, dt, sz, tr, bd, el'))
    (no : ∀ (t : Nat) (R C : Nat → Nat) el', ¬ tr ((b0 * D + b1) * D + b2) = -1 → t < c → (∀ i, i < t → zq_good D (rk i) (R i) (C i) ∧ sz (((b0 * D + b1) * D + b2) * 35 + i * 2) = nI (R i) ∧ sz (((b0 * D + b1) * D + b2) * 35 + i * 2 + 1) = nI (C i)) → post 0 (nI D, nI (D * D * D), nI c, 2, nI t, K, X, Y, Z, rs, dt, sz, tr, bd, el')) :
    wpX_run post (nI D, nI (D * D * D), nI c, st, cp, K, X, Y, Z, rs, dt, sz, tr, bd, el) := by
  obtain ⟨h2, h6, hc, hr, hn, ht, _⟩ := hI
  have h216 := zq_216 h6
  have en := zq_enc h2 h6 hb0 hb1 hb2
  obtain ⟨t1, t2, t3, t, R, C, t4, t5, t6⟩ := ht _ en.1
  rw [en.2.1, en.2.2.1, en.2.2.2] at t4
  have htc := t4.1
  have cells : ∀ i, i < t → zq_good D (rk i) (R i) (C i) ∧ sz (((b0 * D + b1) * D + b2) * 35 + i * 2) = nI (R i) ∧ sz (((b0 * D + b1) * D + b2) * 35 + i * 2 + 1) = nI (C i) := fun i hi => ⟨(t4.2.1 i hi).1, t5 i hi⟩
  unfold wpX_run
  dsimp only
  refine zx_bin e0 e1 e2 ?_
  rw [nI_clamp (by omega)]
  refine ⟨vp_in_nI (by omega) (by omega), ?_⟩
  rcases t6 with ⟨etc, et⟩ | ⟨hlt, et⟩
  · refine br_t et ?_
    unfold wX_run_20
    refine br_t rfl ⟨t + 1, ?_⟩
    rw [← etc]
    refine zx_run_l (n := (b0 * D + b1) * D + b2) (D := D) h6 (by omega) (by omega) (fun i hi => hn i (by omega)) (fun j hj => hr j (by omega)) t5 t4.2.1 (fun _ => ?_) (fun z => absurd rfl z) t 0 (t + 1) (by omega) (by omega)
    unfold wX_run_74
    rw [etc]
    refine br_t rfl ?_
    exact ok R C _ et (fun i hi => cells i (by omega))
  · have hne : ¬ tr ((b0 * D + b1) * D + b2) = -1 := by rw [et]; exact zq_m1 (by omega)
    refine br_f hne ?_
    unfold wX_run_20
    refine br_f (by decide) ⟨vp_in_nI (by omega) (by omega), ?_⟩
    rw [nI_clamp (by omega)]
    refine nm_r et ⟨t + 1, ?_⟩
    refine zx_run_l (n := (b0 * D + b1) * D + b2) (D := D) h6 (by omega) (by omega) (fun i hi => hn i (by omega)) (fun j hj => hr j (by omega)) t5 t4.2.1 (fun z => absurd z (by decide)) (fun _ => ?_) t 0 (t + 1) (by omega) (by omega)
    unfold wX_run_74
    exact br_f (by decide) (no t R C _ hne hlt cells)
theorem zx_vd {post : Int32 → Prop} {b0 b1 b2 j s : Nat} (h2 : 2 ≤ D) (h6 : D ≤ 6) (hc : c ≤ 16) (htc : t ≤ c) (hr : ∀ j, j < c → rs j = nI (rk j) ∧ rk j ≤ 2) (hb0 : b0 < D) (hb1 : b1 < D) (hb2 : b2 < D) (e0 : bd 0 = nI (b0 + 1)) (e1 : bd 1 = nI (b1 + 1)) (e2 : bd 2 = nI (b2 + 1))
    (hj : j < t) (hs : s < rk j) (hp : post (sz (((b0 * D + b1) * D + b2) * 35 + (j * 2 + 2 - rk j + s)))) : wpX_valueDim post (nI D, ins, nI c, st, nI t, K, X, Y, Z, rs, dt, sz, tr, bd, el) (nI j) (nI s) := by
  have h216 := zq_216 h6
  have en := zq_enc h2 h6 hb0 hb1 hb2
  have rj := (hr j (by omega)).2
  unfold wpX_valueDim
  dsimp only
  refine zx_isc (by omega) (fun _ _ _ => br_f (by decide) ?_) (fun h => absurd ⟨j, hj, rfl⟩ h)
  refine zx_hd hc hr (fun _ _ _ _ _ _ => br_f (by decide) ?_) (fun h => absurd ⟨j, s, by omega, rfl, rfl, hs⟩ h)
  refine zx_bin e0 e1 e2 (nm_r (zq_m35 _) (zx_pla (by omega) (hr j (by omega)).1 rj ?_))
  rw [nI_add, nI_clamp (by omega)]
  exact ⟨vp_in_nI (by omega) (by omega), hp⟩
theorem zx_vd0 {post : Int32 → Prop} {x y : Int32} (htc : t ≤ 16) (h : ¬ (∃ j, j < t ∧ x = nI j)) (hp : post 0) : wpX_valueDim post (mx, ins, cnt, st, nI t, K, X, Y, Z, rs, dt, sz, tr, bd, el) x y := by
  unfold wpX_valueDim
  dsimp only
  exact zx_isc htc (fun j hj e => absurd ⟨j, hj, e⟩ h) (fun _ => br_t rfl hp)
theorem zx_rkO {post : Int32 → Prop} {j : Nat} (hc : c ≤ 16) (hj : j < c) (hp : post (rs j)) : wpX_rankOf post (mx, ins, nI c, st, cp, K, X, Y, Z, rs, dt, sz, tr, bd, el) (nI j) := by
  unfold wpX_rankOf
  dsimp only
  refine zx_isn hc (fun _ _ _ => br_f (by decide) ⟨vp_in_nI (by omega) (by omega), ?_⟩) (fun h => absurd ⟨j, hj, rfl⟩ h)
  rw [nI_clamp (by omega)]
  exact hp
theorem zx_bva {post : Int32 → Prop} {j : Nat} (hj : j < 3) (hp : post (bd j)) : wpX_boundValue post (mx, ins, cnt, st, cp, K, X, Y, Z, rs, dt, sz, tr, bd, el) (nI j) := by
  unfold wpX_boundValue
  dsimp only
  refine zx_isy (fun _ _ _ => br_f (by decide) ⟨vp_in_nI hj (by omega), ?_⟩) (fun h => absurd ⟨j, hj, rfl⟩ h)
  rw [nI_clamp (by omega)]
  exact hp
theorem zx_adm {post : Int32 → Prop} {a b d : Nat} (h2 : 2 ≤ D) (h6 : D ≤ 6) (ha : a < D) (hb : b < D) (hd : d < D) (ok : tr ((a * D + b) * D + d) = -1 → post 1) (no : ¬ tr ((a * D + b) * D + d) = -1 → post 0) : wpX_admissible post (nI D, ins, cnt, st, cp, K, X, Y, Z, rs, dt, sz, tr, bd, el) (nI (a + 1)) (nI (b + 1)) (nI (d + 1)) := by
  have h216 := zq_216 h6
  have en := zq_enc h2 h6 ha hb hd
  unfold wpX_admissible
  dsimp only
  refine zx_isz h6 (fun _ _ _ => br_f (by decide) (zx_isz h6 (fun _ _ _ => br_f (by decide) (zx_isz h6 (fun _ _ _ => br_f (by decide) ?_) (fun h => absurd ⟨d, hd, rfl⟩ h))) (fun h => absurd ⟨b, hb, rfl⟩ h))) (fun h => absurd ⟨a, ha, rfl⟩ h)
  refine zx_iof ?_
  rw [nI_clamp (by omega)]
  exact ⟨vp_in_nI (by omega) (by omega), br_c ok no⟩
theorem zx_bnd {post : Int32 → St2 → Prop} {j d : Nat} (hj : j < 3) (h6 : D ≤ 6) (hd : d < D) (hp : post 1 (nI D, ins, cnt, 0, 0, K, X, Y, Z, rs, dt, sz, tr, upd bd j (nI (d + 1)), el)) : wpX_bind post (nI D, ins, cnt, st, cp, K, X, Y, Z, rs, dt, sz, tr, bd, el) (nI j) (nI (d + 1)) := by
  unfold wpX_bind
  dsimp only
  refine zx_isy (fun _ _ _ => br_f (by decide) (zx_isz h6 (fun _ _ _ => br_f (by decide) ?_) (fun h => absurd ⟨d, hd, rfl⟩ h))) (fun h => absurd ⟨j, hj, rfl⟩ h)
  rw [nI_clamp (by omega)]
  refine ⟨vp_in_nI hj (by omega), nm_e ?_⟩
  unfold wpX_forgetRun
  exact hp
theorem zx_init {post : St2 → Prop} (h2 : 2 ≤ D) (h6 : D ≤ 6) (hp : ∀ sz' tr', zq_e0 D (D * D * D) sz' tr' →
    post (nI D, nI (D * D * D), 0, 0, 0, (fun _ => 0), (fun _ => 0), (fun _ => 0), (fun _ => 0), (fun _ => 0), (fun _ => 0), sz', tr', upd (upd (upd (fun _ => 0) 0 1) 1 1) 2 1, (fun _ => 0))) : wpX_init post 10 9011 (0, 0, 0, 0, 0) (nI D) := by
  unfold wpX_init
  dsimp only
  refine ⟨by omega, by omega, by omega, by omega, by omega, by omega, by omega, by omega, by omega, by omega, by omega, by omega, by omega, by omega, by omega, by omega, by omega, by omega, by omega, by omega, ?_⟩
  unfold wpX_clampSize
  refine br_t (nI_le (a := 2) h2 (by omega)) (br_t (nI_le (b := 6) h6 (by omega)) ?_)
  intro f ef
  rw [pk_mul, pk_mul] at ef
  subst ef
  refine zx_fill h2 h6 (fun sz' tr' hE => ⟨4, ?_⟩)
  refine br_f (by decide) ⟨vp_in_nI (n := 0) (by omega) (by omega), nm_e (nm_e ?_)⟩
  refine br_f (by decide) ⟨vp_in_nI (n := 1) (by omega) (by omega), nm_e (nm_e ?_)⟩
  refine br_f (by decide) ⟨vp_in_nI (n := 2) (by omega) (by omega), nm_e (nm_e ?_)⟩
  refine br_t (by decide) ?_
  exact hp sz' tr' hE
end
end
section
/-! the law -/
theorem zl_cell {post : Int32 → Prop} {L : Nat} {xs : Nat → Int32} {p : Int32} {j : Nat} (hL : L ≤ 260) (hj : j < 2 ^ 31) (e : p = nI j) (h : ∀ r, post r) : wpL_cell post L xs () p := by
  subst e
  unfold wpL_cell
  refine br_c (fun _ => h 0) (fun hn => ⟨?_, h _⟩)
  have hlt : ¬ L ≤ j := fun z => hn ((nI_leI (by omega) hj).mpr z)
  exact vp_in_nI (by omega) (by omega)
theorem zl_m {post : Int32 → Prop} {x k : Int32} {m : Nat} (e : k = nI m) (h0 : 0 < m) (hm : m < 2 ^ 31) (h : ∀ j, j < m → post (nI j)) : wpL_m post () x k := by
  subst e
  unfold wpL_m
  have ti := nI_toInt hm
  have b := fmv_bounds (a := x) (m := nI m) (by rw [ti]; omega)
  rw [ti] at b
  have key : ∀ y : Int32, 0 ≤ y.toInt → y.toInt < m → post y := by
    intro y y0 y1
    have hn : ¬ y < 0 := by
      intro z
      have w := Int32.lt_iff_toInt_lt.mp z
      rw [show (0 : Int32).toInt = 0 from by decide] at w
      omega
    obtain ⟨j, hj, rfl⟩ := nI_of hn
    rw [nI_toInt hj] at y1
    exact h j (by omega)
  refine ⟨nI_ne0 h0 hm, fun y ey => ?_⟩
  unfold fmv fmOf at b
  rw [← ey] at b
  refine br_c (fun hy => ?_) (fun hy => ?_)
  · rw [if_pos hy] at b
    exact key y b.1 b.2
  · rw [if_neg hy] at b
    exact key _ b.1 b.2
theorem zl_code {post : Int32 → Prop} {x : Int32} {D : Nat} (h6 : D ≤ 6) (h : ∀ r, post r) : wpL_code post () x (nI D) := by
  unfold wpL_code
  refine zl_m (m := D + 3) (nI_add D 3) (by omega) (by omega) (fun j _ => ?_)
  exact br_c (fun _ => h _) (fun _ => h _)
section
variable {mx ins cnt st cp : Int32} {K X Y Z rs dt sz tr bd el : Nat → Int32} {post : Int32 → Prop} {L : Nat} {xs : Nat → Int32} {x4 x5 : Int32} {kc ks D c : Nat} {rk : Nat → Nat}
  {J : Int32 → Int32 → Int32 → Int32 → Int32 → Int32 → Int32 → (Nat → Int32) → (Nat → Int32) → (Nat → Int32) → (Nat → Int32) → (Nat → Int32) → (Nat → Int32) → (Nat → Int32) → (Nat → Int32) → (Nat → Int32) → (Nat → Int32) → Prop}
theorem zl_370 (hI : zq_inv D c rk K X Y Z rs sz tr bd)
    (H : ∀ (c : Nat) (rk : Nat → Nat) (st cp : Int32) (K X Y Z rs dt sz tr bd el : Nat → Int32), zq_inv D c rk K X Y Z rs sz tr bd → wL_law_706 post L xs J (nI D) (nI c) x4 x5 kc ks (nI D) (nI (D * D * D)) (nI c) st cp K X Y Z rs dt sz tr bd el) (k x y z : Int32) :
    wpX_addNode (fun r u => match u with | (mx, ins, cnt, st, cp, K, X, Y, Z, rs, dt, sz, tr, bd, el) => wL_law_370 post L xs J (nI D) (nI c) x4 x5 r kc ks mx ins cnt st cp K X Y Z rs dt sz tr bd el) (nI D, nI (D * D * D), nI c, st, cp, K, X, Y, Z, rs, dt, sz, tr, bd, el) k x y z := by
  have hI' := hI
  obtain ⟨h2, h6, hc, hr, hn, ht, hb⟩ := hI'
  have bad : wL_law_370 post L xs J (nI D) (nI c) x4 x5 (-1) kc ks (nI D) (nI (D * D * D)) (nI c) st cp K X Y Z rs dt sz tr bd el := by
    unfold wL_law_370
    refine br_t (by decide) ?_
    unfold wL_law_378
    exact H c rk st cp K X Y Z rs dt sz tr bd el hI
  refine zx_add h2 h6 hc hr hn ht (fun _ => bad) (fun _ _ => bad) (fun hlt _ r dt' sz' tr' hnd r2 _ ht' => ?_)
  dsimp only
  unfold wL_law_370
  refine br_f (nI_pos (by omega)) (nm_r (nI_1 c) ?_)
  unfold wL_law_378
  exact H (c + 1) _ 0 0 _ _ _ _ _ dt' sz' tr' bd el (zr_add hI hlt hnd r2 ht')
theorem zl_143 (hI : zq_inv D c rk K X Y Z rs sz tr bd) {x8 x9 x10 x11 x12 : Int32} (h1 : x12 = 1 ∨ 0 < c)
    (H : ∀ (c : Nat) (rk : Nat → Nat) (st cp : Int32) (K X Y Z rs dt sz tr bd el : Nat → Int32), zq_inv D c rk K X Y Z rs sz tr bd → wL_law_706 post L xs J (nI D) (nI c) x4 x5 kc ks (nI D) (nI (D * D * D)) (nI c) st cp K X Y Z rs dt sz tr bd el) :
    wL_law_143 post L xs J (nI D) (nI c) x4 x5 x8 x9 x10 x11 x12 kc ks (nI D) (nI (D * D * D)) (nI c) st cp K X Y Z rs dt sz tr bd el := by
  have h6 := hI.2.1
  have hc := hI.2.2.1
  have A := zl_370 (st := st) (cp := cp) (dt := dt) (el := el) hI H
  have l193 : ∀ x15 z0, wL_law_193 post L xs J (nI D) (nI c) x4 x5 x12 x15 z0 kc ks (nI D) (nI (D * D * D)) (nI c) st cp K X Y Z rs dt sz tr bd el := by
    intro x15 z0
    unfold wL_law_193
    exact A _ _ _ _
  have l175 : ∀ x14 z0, wL_law_175 post L xs J (nI D) (nI c) x4 x5 x10 x12 x14 z0 kc ks (nI D) (nI (D * D * D)) (nI c) st cp K X Y Z rs dt sz tr bd el := by
    intro x14 z0
    unfold wL_law_175
    exact br_c (fun _ => zl_code h6 (fun r => l193 _ r)) (fun _ => l193 _ _)
  have l326 : 0 < c → ∀ x15 z0, wL_law_326 post L xs J (nI D) (nI c) x4 x5 x8 x12 x15 z0 kc ks (nI D) (nI (D * D * D)) (nI c) st cp K X Y Z rs dt sz tr bd el := by
    intro hc0 x15 z0
    unfold wL_law_326
    exact zl_m rfl hc0 (by omega) (fun j _ => A _ _ _ _)
  have l308 : 0 < c → ∀ x14 z0, wL_law_308 post L xs J (nI D) (nI c) x4 x5 x8 x11 x12 x14 z0 kc ks (nI D) (nI (D * D * D)) (nI c) st cp K X Y Z rs dt sz tr bd el := by
    intro hc0 x14 z0
    unfold wL_law_308
    exact br_c (fun _ => zl_code h6 (fun r => l326 hc0 _ r)) (fun _ => l326 hc0 _ _)
  have l229 : 0 < c → wL_law_229 post L xs J (nI D) (nI c) x4 x5 x8 x9 x12 kc ks (nI D) (nI (D * D * D)) (nI c) st cp K X Y Z rs dt sz tr bd el := by
    intro hc0
    unfold wL_law_229
    exact zl_m rfl hc0 (by omega) (fun j _ => zl_m rfl hc0 (by omega) (fun j' _ => A _ _ _ _))
  unfold wL_law_143
  refine br_c (fun _ => ?_) (fun h12 => ?_)
  · exact zl_m (m := 3) rfl (by omega) (by omega) (fun j _ => br_c (fun _ => l175 _ _) (fun _ => zl_code h6 (fun r => l175 _ r)))
  · have hc0 : 0 < c := by
      rcases h1 with h1 | h1
      · exact absurd h1 h12
      · exact h1
    refine br_c (fun _ => l229 hc0) (fun _ => br_c (fun _ => l229 hc0) (fun _ => br_c (fun _ => l229 hc0) (fun _ => br_c (fun _ => ?_) (fun _ => br_c (fun _ => ?_) (fun _ => ?_)))))
    · exact zl_m rfl hc0 (by omega) (fun j _ => A _ _ _ _)
    · exact zl_m (m := 3) rfl (by omega) (by omega) (fun j _ => br_c (fun _ => l308 hc0 _ _) (fun _ => zl_code h6 (fun r => l308 hc0 _ r)))
    · exact zl_m rfl hc0 (by omega) (fun j _ => zl_m (m := 2) rfl (by omega) (by omega) (fun j' _ => A _ _ _ _))
/-- a cell of a computed node -/
theorem zl_cel {n v s R C : Nat} {r : Nat} (g : zq_good D r R C) (e0 : sz (n * 35 + v * 2) = nI R) (e1 : sz (n * 35 + v * 2 + 1) = nI C) (hs : s < r) : ∃ w, 1 ≤ w ∧ w ≤ D ∧ sz (n * 35 + (v * 2 + 2 - r + s)) = nI w := by
  unfold zq_good at g
  have e : v * 2 + 2 - r + s = v * 2 ∨ v * 2 + 2 - r + s = v * 2 + 1 := by omega
  rcases e with e | e
  · exact ⟨R, by omega, by omega, by rw [e]; exact e0⟩
  · exact ⟨C, by omega, by omega, by rw [e, ← Nat.add_assoc]; exact e1⟩
theorem zl_645 {J627 : Int32 → Prop} {x14 : Int32} {b0 b1 b2 t v : Nat} {R C : Nat → Nat} (hI : zq_inv D c rk K X Y Z rs sz tr bd) (hb0 : b0 < D) (hb1 : b1 < D) (hb2 : b2 < D) (e0 : bd 0 = nI (b0 + 1)) (e1 : bd 1 = nI (b1 + 1)) (e2 : bd 2 = nI (b2 + 1)) (htc : t ≤ c) (hv : v < t)
    (hcell : ∀ i, i < t → zq_good D (rk i) (R i) (C i) ∧ sz (((b0 * D + b1) * D + b2) * 35 + i * 2) = nI (R i) ∧ sz (((b0 * D + b1) * D + b2) * 35 + i * 2 + 1) = nI (C i)) (hJ : J627 (nI (v + 1))) :
    ∀ d s fu : Nat, s + d = rk v → d < fu → wL_law_645 post L xs J J627 (nI D) (nI c) x4 x5 x14 (nI v) (nI (rk v)) kc ks (nI D) (nI (D * D * D)) (nI c) st (nI t) K X Y Z rs dt sz tr bd el fu (nI s) := by
  obtain ⟨h2, h6, hc, hr, hn, ht, _⟩ := hI
  have rv := (hr v (by omega)).2
  intro d
  induction d with
  | zero =>
    intro s fu hs hf
    obtain ⟨f, rfl⟩ : ∃ f, fu = f + 1 := ⟨fu - 1, by omega⟩
    have e : s = rk v := by omega
    subst e
    rw [wL_law_645]
    exact br_t (Int32.le_refl _) (nm_r (nI_1 v) hJ)
  | succ d ih =>
    intro s fu hs hf
    obtain ⟨f, rfl⟩ : ∃ f, fu = f + 1 := ⟨fu - 1, by omega⟩
    rw [wL_law_645]
    refine br_f (nI_ge (by omega) (by omega)) (br_f (nI_ge (b := 2) (by omega) (by decide)) ?_)
    refine zx_vd h2 h6 hc htc hr hb0 hb1 hb2 e0 e1 e2 hv (by omega) ?_
    obtain ⟨g, q0, q1⟩ := hcell v hv
    obtain ⟨w, w1, w2, ew⟩ := zl_cel g q0 q1 (show s < rk v by omega)
    rw [ew]
    refine br_f (nI_nlt (b := 1) (by omega) (by omega)) (br_t (nI_le w2 (by omega)) (nm_r (nI_1 s) ?_))
    exact ih (s + 1) f (by omega) (by omega)
theorem zl_627 {b0 b1 b2 t : Nat} {R C : Nat → Nat} (hI : zq_inv D c rk K X Y Z rs sz tr bd) (hb0 : b0 < D) (hb1 : b1 < D) (hb2 : b2 < D) (e0 : bd 0 = nI (b0 + 1)) (e1 : bd 1 = nI (b1 + 1)) (e2 : bd 2 = nI (b2 + 1)) (htc : t < c)
    (hcell : ∀ i, i < t → zq_good D (rk i) (R i) (C i) ∧ sz (((b0 * D + b1) * D + b2) * 35 + i * 2) = nI (R i) ∧ sz (((b0 * D + b1) * D + b2) * 35 + i * 2 + 1) = nI (C i))
    (H : wL_law_706 post L xs J (nI D) (nI c) x4 x5 kc ks (nI D) (nI (D * D * D)) (nI c) st (nI t) K X Y Z rs dt sz tr bd el) :
    ∀ d v fu : Nat, v + d = t → d < fu → wL_law_627 post L xs J (nI D) (nI c) x4 x5 (nI t) kc ks (nI D) (nI (D * D * D)) (nI c) st (nI t) K X Y Z rs dt sz tr bd el fu (nI v) := by
  have hI' := hI
  obtain ⟨h2, h6, hc, hr, hn, ht, _⟩ := hI'
  intro d
  induction d with
  | zero =>
    intro v fu hs hf
    obtain ⟨f, rfl⟩ : ∃ f, fu = f + 1 := ⟨fu - 1, by omega⟩
    have e : v = t := by omega
    subst e
    rw [wL_law_627]
    refine br_t (Int32.le_refl _) (zx_vd0 (by omega) ?_ (br_t rfl H))
    rintro ⟨j, hj, ej⟩
    have w := (nI_eq (by omega) (by omega)).mp ej
    omega
  | succ d ih =>
    intro v fu hs hf
    obtain ⟨f, rfl⟩ : ∃ f, fu = f + 1 := ⟨fu - 1, by omega⟩
    rw [wL_law_627]
    refine br_f (nI_ge (by omega) (by omega)) (zx_rkO hc (by omega) ?_)
    rw [(hr v (by omega)).1]
    exact ⟨rk v + 1, zl_645 hI hb0 hb1 hb2 e0 e1 e2 (by omega) (by omega) hcell (ih (v + 1) f (by omega) (by omega)) (rk v) 0 (rk v + 1) (by omega) (by omega)⟩
theorem zl_480 {J463 : Int32 → Prop} {b0 b1 b2 v : Nat} {R C : Nat → Nat} (hI : zq_inv D c rk K X Y Z rs sz tr bd) (hb0 : b0 < D) (hb1 : b1 < D) (hb2 : b2 < D) (e0 : bd 0 = nI (b0 + 1)) (e1 : bd 1 = nI (b1 + 1)) (e2 : bd 2 = nI (b2 + 1)) (hv : v < c)
    (hA : tr ((b0 * D + b1) * D + b2) = -1)
    (hcell : ∀ i, i < c → zq_good D (rk i) (R i) (C i) ∧ sz (((b0 * D + b1) * D + b2) * 35 + i * 2) = nI (R i) ∧ sz (((b0 * D + b1) * D + b2) * 35 + i * 2 + 1) = nI (C i)) (hJ : J463 (nI (v + 1))) :
    ∀ d s fu : Nat, s + d = rk v → d < fu → wL_law_480 post L xs J J463 (nI D) (nI c) x4 x5 (nI v) (nI (rk v)) kc ks (nI D) (nI (D * D * D)) (nI c) st (nI c) K X Y Z rs dt sz tr bd el fu (nI s) := by
  obtain ⟨h2, h6, hc, hr, hn, ht, _⟩ := hI
  have rv := (hr v (by omega)).2
  have en := zq_enc h2 h6 hb0 hb1 hb2
  intro d
  induction d with
  | zero =>
    intro s fu hs hf
    obtain ⟨f, rfl⟩ : ∃ f, fu = f + 1 := ⟨fu - 1, by omega⟩
    have e : s = rk v := by omega
    subst e
    rw [wL_law_480]
    exact br_t (Int32.le_refl _) (nm_r (nI_1 v) hJ)
  | succ d ih =>
    intro s fu hs hf
    obtain ⟨f, rfl⟩ : ∃ f, fu = f + 1 := ⟨fu - 1, by omega⟩
    have next := ih (s + 1) f (by omega) (by omega)
    obtain ⟨g, q0, q1⟩ := hcell v hv
    obtain ⟨w, w1, w2, ew⟩ := zl_cel g q0 q1 (show s < rk v by omega)
    rw [wL_law_480]
    refine br_f (nI_ge (by omega) (by omega)) (br_f (nI_ge (b := 2) (by omega) (by decide)) ?_)
    refine zx_dim (rk := rk) (zq_216 h6) hc hr (fun n i hnN hA hi => zr_nz h6 (ht n hnN) hc hA hi) (fun h => absurd ⟨v, s, hv, rfl, rfl, by omega⟩ h) (fun p s' r hp ex ey hs' hd => ?_)
    have ep := (nI_eq (by omega) (by omega)).mp ex
    have es := (nI_eq (by omega) (by have := (hr p hp).2; omega)).mp ey
    subst ep es
    refine zx_vd h2 h6 hc (Nat.le_refl c) hr hb0 hb1 hb2 e0 e1 e2 hv hs' ?_
    have anyA : zq_any (fun n => tr n = -1) (D * D * D) := ⟨_, en.1, hA⟩
    have sym : sz (((b0 * D + b1) * D + b2) * 35 + 32) = bd 0 ∧ sz (((b0 * D + b1) * D + b2) * 35 + 33) = bd 1 ∧ sz (((b0 * D + b1) * D + b2) * 35 + 34) = bd 2 := by
      obtain ⟨t1, t2, t3, _⟩ := ht _ en.1
      rw [en.2.1] at t1
      rw [en.2.2.1] at t2
      rw [en.2.2.2] at t3
      exact ⟨t1.trans e0.symm, t2.trans e1.symm, t3.trans e2.symm⟩
    rcases hd with ⟨h, _⟩ | ⟨hsame, m, hm, hAm, er⟩ | ⟨_, _, h3⟩
    · exact absurd anyA h
    · have eg : sz (((b0 * D + b1) * D + b2) * 35 + (v * 2 + 2 - rk v + s)) = r := (hsame _ m en.1 hm hA hAm).trans er.symm
      refine br_f ?_ (br_t eg (nm_r (nI_1 s) next))
      rw [← eg, ew]
      exact nI_nlt (b := 1) (by omega) (by omega)
    · rcases h3 with ⟨q, rfl⟩ | ⟨_, q, rfl⟩ | ⟨_, _, q, rfl⟩ | ⟨_, _, _, rfl⟩
      · refine br_t (by decide) (br_f (by decide) (br_f (by decide) ?_))
        rw [show -(-1 : Int32) - 1 = nI 0 from by decide]
        exact zx_bva (by omega) (br_t ((q _ en.1 hA).trans sym.1) (nm_r (nI_1 s) next))
      · refine br_t (by decide) (br_f (by decide) (br_f (by decide) ?_))
        rw [show -(-2 : Int32) - 1 = nI 1 from by decide]
        exact zx_bva (by omega) (br_t ((q _ en.1 hA).trans sym.2.1) (nm_r (nI_1 s) next))
      · refine br_t (by decide) (br_f (by decide) (br_f (by decide) ?_))
        rw [show -(-3 : Int32) - 1 = nI 2 from by decide]
        exact zx_bva (by omega) (br_t ((q _ en.1 hA).trans sym.2.2) (nm_r (nI_1 s) next))
      · refine br_t (by decide) (br_t (by decide) ?_)
        unfold wL_law_557
        rw [ew]
        exact br_t rfl (br_f (nI_nlt (b := 1) (by omega) (by omega)) (br_t (nI_le w2 (by omega)) (nm_r (nI_1 s) next)))
theorem zl_463 {b0 b1 b2 : Nat} {R C : Nat → Nat} (hI : zq_inv D c rk K X Y Z rs sz tr bd) (hb0 : b0 < D) (hb1 : b1 < D) (hb2 : b2 < D) (e0 : bd 0 = nI (b0 + 1)) (e1 : bd 1 = nI (b1 + 1)) (e2 : bd 2 = nI (b2 + 1))
    (hA : tr ((b0 * D + b1) * D + b2) = -1)
    (hcell : ∀ i, i < c → zq_good D (rk i) (R i) (C i) ∧ sz (((b0 * D + b1) * D + b2) * 35 + i * 2) = nI (R i) ∧ sz (((b0 * D + b1) * D + b2) * 35 + i * 2 + 1) = nI (C i))
    (H : wL_law_706 post L xs J (nI D) (nI c) x4 x5 kc ks (nI D) (nI (D * D * D)) (nI c) st (nI c) K X Y Z rs dt sz tr bd el) :
    ∀ d v fu : Nat, v + d = c → d < fu → wL_law_463 post L xs J (nI D) (nI c) x4 x5 kc ks (nI D) (nI (D * D * D)) (nI c) st (nI c) K X Y Z rs dt sz tr bd el fu (nI v) := by
  have hI' := hI
  obtain ⟨h2, h6, hc, hr, hn, ht, _⟩ := hI'
  intro d
  induction d with
  | zero =>
    intro v fu hs hf
    obtain ⟨f, rfl⟩ : ∃ f, fu = f + 1 := ⟨fu - 1, by omega⟩
    have e : v = c := by omega
    subst e
    rw [wL_law_463]
    exact br_t (Int32.le_refl _) H
  | succ d ih =>
    intro v fu hs hf
    obtain ⟨f, rfl⟩ : ∃ f, fu = f + 1 := ⟨fu - 1, by omega⟩
    rw [wL_law_463]
    refine br_f (nI_ge (by omega) (by omega)) (zx_rkO hc (by omega) ?_)
    rw [(hr v (by omega)).1]
    exact ⟨rk v + 1, zl_480 hI hb0 hb1 hb2 e0 e1 e2 (by omega) hA hcell (ih (v + 1) f (by omega) (by omega)) (rk v) 0 (rk v + 1) (by omega) (by omega)⟩
theorem zl_61 {q : Nat} {z0 : Int32} (hL : L ≤ 260) (hq : q < 300) (hI : zq_inv D c rk K X Y Z rs sz tr bd)
    (H : ∀ (c : Nat) (rk : Nat → Nat) (st cp : Int32) (K X Y Z rs dt sz tr bd el : Nat → Int32), zq_inv D c rk K X Y Z rs sz tr bd → wL_law_706 post L xs J (nI D) (nI c) (nI q) x5 kc ks (nI D) (nI (D * D * D)) (nI c) st cp K X Y Z rs dt sz tr bd el) :
    wL_law_61 post L xs J (nI D) (nI c) (nI q) x5 z0 kc ks (nI D) (nI (D * D * D)) (nI c) st cp K X Y Z rs dt sz tr bd el := by
  have hI' := hI
  obtain ⟨h2, h6, hc, hr, hn, ht, b0, b1, b2, hb0, hb1, hb2, e0, e1, e2⟩ := hI'
  unfold wL_law_61
  refine zl_cell (j := q + 1) hL (by omega) (nI_add q 1) (fun r49 => zl_cell (j := q + 2) hL (by omega) (nI_add q 2) (fun r50 => zl_cell (j := q + 3) hL (by omega) (nI_add q 3) (fun r51 => zl_cell (j := q + 4) hL (by omega) (nI_add q 4) (fun r52 => zl_cell (j := q + 5) hL (by omega) (nI_add q 5) (fun r53 => ?_)))))
  refine br_c (fun _ => br_c (fun _ => ?_) (fun _ => ?_)) (fun _ => br_c (fun _ => ?_) (fun h16 => ?_))
  · refine zx_bva (j := 0) (by omega) (zx_bva (j := 1) (by omega) (zx_bva (j := 2) (by omega) ?_))
    rw [e0, e1, e2]
    refine zx_adm h2 h6 hb0 hb1 hb2 (fun hA => ?_) (fun hA => ?_)
    · refine zx_run hI hb0 hb1 hb2 e0 e1 e2 (fun R C el' _ hcell => ?_) (fun t R C el' hA' _ _ => absurd hA hA')
      refine br_t rfl (br_f (by decide) ?_)
      unfold wpX_runState
      exact br_t rfl ⟨c + 1, zl_463 hI hb0 hb1 hb2 e0 e1 e2 hA hcell (H c rk _ _ K X Y Z rs dt sz tr bd el' hI) c 0 (c + 1) (by omega) (by omega)⟩
    · refine zx_run hI hb0 hb1 hb2 e0 e1 e2 (fun R C el' hA' _ => absurd hA' hA) (fun t R C el' _ htc hcell => ?_)
      refine br_t rfl (br_t rfl ?_)
      unfold wpX_runState
      refine br_t rfl ?_
      unfold wpX_trapNode
      refine br_t rfl (br_f (nI_pos (by omega)) (br_t (nI_lt htc (by omega)) ⟨t + 1, ?_⟩))
      exact zl_627 hI hb0 hb1 hb2 e0 e1 e2 htc hcell (H c rk _ _ K X Y Z rs dt sz tr bd el' hI) t 0 (t + 1) (by omega) (by omega)
  · refine zl_m (m := 3) rfl (by omega) (by omega) (fun j hj => zl_m (m := D) rfl (by omega) (by omega) (fun d hd => ?_))
    have e : (1 : Int32) + nI d = nI (d + 1) := by
      rw [Nat.add_comm]
      exact nI_add 1 d
    rw [e]
    refine zx_bnd hj h6 hd ?_
    refine H c rk 0 0 K X Y Z rs dt sz tr _ el ⟨h2, h6, hc, hr, hn, ht, ?_⟩
    have ej : j = 0 ∨ j = 1 ∨ j = 2 := by omega
    rcases ej with rfl | rfl | rfl
    · exact ⟨d, b1, b2, hd, hb1, hb2, pk_us, by rw [pk_un (by omega)]; exact e1, by rw [pk_un (by omega)]; exact e2⟩
    · exact ⟨b0, d, b2, hb0, hd, hb2, by rw [pk_un (by omega)]; exact e0, pk_us, by rw [pk_un (by omega)]; exact e2⟩
    · exact ⟨b0, b1, d, hb0, hb1, hd, by rw [pk_un (by omega)]; exact e0, by rw [pk_un (by omega)]; exact e1, pk_us⟩
  · exact H c rk st cp K X Y Z rs dt sz tr bd el hI
  · refine zl_m (m := 7) rfl (by omega) (by omega) (fun j hj => nm_e (br_c (fun _ => ?_) (fun hz => ?_)))
    · exact zl_143 hI (Or.inl rfl) H
    · have hc0 : 0 < c := by
        refine Nat.pos_of_ne_zero (fun z => hz ?_)
        rw [z]
        rfl
      exact zl_143 hI (Or.inr hc0) H
end
section
variable {L : Nat} {xs : Nat → Int32} {kc ks D : Nat}
theorem zl_26 (hL : L ≤ 260) : ∀ d q fu c : Nat, ∀ (rk : Nat → Nat) (st cp : Int32) (K X Y Z rs dt sz tr bd el : Nat → Int32), L ≤ q + d → d < fu → q < 300 → zq_inv D c rk K X Y Z rs sz tr bd →
    wL_law_26 (fun r => r = 1) L xs (nI D) kc ks fu (nI c) (nI q) (nI D) (nI (D * D * D)) (nI c) st cp K X Y Z rs dt sz tr bd el := by
  intro d
  induction d with
  | zero =>
    intro q fu c rk st cp K X Y Z rs dt sz tr bd el hd hf hq hI
    obtain ⟨f, rfl⟩ : ∃ f, fu = f + 1 := ⟨fu - 1, by omega⟩
    rw [wL_law_26]
    refine br_f (nI_nlt (b := L) (by omega) (by omega)) ?_
    unfold wL_law_38
    refine br_f (by decide) (zl_61 hL hq hI (fun c rk st cp K X Y Z rs dt sz tr bd el _ => ?_))
    unfold wL_law_706
    exact br_f (by decide) rfl
  | succ d ih =>
    intro q fu c rk st cp K X Y Z rs dt sz tr bd el hd hf hq hI
    obtain ⟨f, rfl⟩ : ∃ f, fu = f + 1 := ⟨fu - 1, by omega⟩
    rw [wL_law_26]
    refine br_c (fun hlt => ?_) (fun _ => ?_)
    · have hqL : q < L := (nI_ltI (by omega) (by omega)).mp hlt
      unfold wL_law_38
      refine br_t rfl (zl_cell hL (by omega) rfl (fun r => zl_m (m := 8) rfl (by omega) (by omega) (fun j _ => ?_)))
      refine zl_61 hL hq hI (fun c rk st cp K X Y Z rs dt sz tr bd el hI' => ?_)
      unfold wL_law_706
      exact br_t rfl (nm_r (nI_add q 6) (ih (q + 6) f c rk st cp K X Y Z rs dt sz tr bd el (by omega) (by omega) (by omega) hI'))
    · unfold wL_law_38
      refine br_f (by decide) (zl_61 hL hq hI (fun c rk st cp K X Y Z rs dt sz tr bd el _ => ?_))
      unfold wL_law_706
      exact br_f (by decide) rfl
end
theorem i_vc (xs : Nat → Int32) (L : Nat) (hL : L ≤ 260) : wpL_law (fun r => r = 1) L xs := by
  unfold wpL_law
  refine zl_cell (j := 0) hL (by omega) rfl (fun r => zl_m (m := 5) rfl (by omega) (by omega) (fun j hj => nm_r (nI_add 2 j) ⟨10, 9011, by omega, by omega, ?_⟩))
  refine zx_init (D := 2 + j) (by omega) (by omega) (fun sz' tr' hE => ⟨L + 1, ?_⟩)
  refine zl_26 (D := 2 + j) hL L 1 (L + 1) 0 (fun _ => 0) 0 0 _ _ _ _ _ _ sz' tr' _ _ (by omega) (by omega) (by omega) ⟨by omega, by omega, by omega, fun j hj => absurd hj (by omega), fun j hj => absurd hj (by omega), fun n hn => ?_, 0, 0, 0, by omega, by omega, by omega, rfl, rfl, rfl⟩
  obtain ⟨e1, e2, e3, e4⟩ := hE n hn
  exact ⟨e2, e3, e4, 0, fun _ => 0, fun _ => 0, ⟨Nat.le_refl _, fun i hi => absurd hi (by omega), fun z => absurd z (by omega)⟩, fun i hi => absurd hi (by omega), Or.inl ⟨rfl, e1⟩⟩
end
