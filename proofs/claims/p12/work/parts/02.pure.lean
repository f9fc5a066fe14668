/-! sums of small naturals as Int32 -/
theorem zq_m35 (a : Nat) : nI a * 35 = nI (a * 35) := pk_mul a 35
theorem zq_m36 (a : Nat) : nI a * 36 = nI (a * 36) := pk_mul a 36
theorem zq_m2 (a : Nat) : nI a * 2 = nI (a * 2) := pk_mul a 2
theorem zq_2m (a : Nat) : 2 * nI a = nI (2 * a) := pk_mul 2 a
theorem zq_a2 (a : Nat) : nI a + 2 = nI (a + 2) := nI_add a 2
theorem zq_a32 (a : Nat) : nI a + 32 = nI (a + 32) := nI_add a 32
theorem zq_32a (a : Nat) : 32 + nI a = nI (32 + a) := nI_add 32 a
theorem zq_ix {a b c : Nat} (ha : a < 6) (hb : b ≤ 6) (hc : c < 6) : a * b + c < 36 := by
  have h : a * b ≤ 5 * 6 := Nat.mul_le_mul (by omega) hb
  omega
theorem zq_6 {D : Nat} (h2 : 2 ≤ D) (h6 : D ≤ 6) : D = 2 ∨ D = 3 ∨ D = 4 ∨ D = 5 ∨ D = 6 := by omega
/-- the number of an instantiation, and back -/
theorem zq_dec {D n : Nat} (h2 : 2 ≤ D) (h6 : D ≤ 6) (hn : n < D * D * D) : n / (D * D) < D ∧ n / D % D < D ∧ n % D < D ∧ (n / (D * D) * D + n / D % D) * D + n % D = n := by
  rcases zq_6 h2 h6 with rfl | rfl | rfl | rfl | rfl <;> omega
theorem zq_enc {D a b c : Nat} (h2 : 2 ≤ D) (h6 : D ≤ 6) (ha : a < D) (hb : b < D) (hc : c < D) : (a * D + b) * D + c < D * D * D ∧ ((a * D + b) * D + c) / (D * D) = a ∧ ((a * D + b) * D + c) / D % D = b ∧ ((a * D + b) * D + c) % D = c := by
  rcases zq_6 h2 h6 with rfl | rfl | rfl | rfl | rfl <;> omega
theorem zq_216 {D : Nat} (h6 : D ≤ 6) : D * D * D ≤ 216 :=
  Nat.mul_le_mul (Nat.mul_le_mul h6 h6) h6
theorem zq_36 {D : Nat} (h6 : D ≤ 6) : D * D ≤ 36 := Nat.mul_le_mul h6 h6
/-! codes and specs -/
def zq_code (D : Nat) (x : Int32) : Prop := (∃ d, 1 ≤ d ∧ d ≤ D ∧ x = nI d) ∨ x = -1 ∨ x = -2 ∨ x = -3
def zq_spec (D : Nat) (p q : Int32) : Prop := (p = 0 ∧ q = 0) ∨ (zq_code D p ∧ q = 0) ∨ (zq_code D p ∧ zq_code D q)
def zq_cv (x : Int32) (a b c : Nat) : Nat := if 0 < x then x.toNatClampNeg else if x = -1 then a else if x = -2 then b else c
def zq_sr (p q : Int32) : Nat := if p = 0 then 0 else if q = 0 then 1 else 2
def zq_sp (p q : Int32) (a b c : Nat) : Nat × Nat := if q = 0 then (1, if p = 0 then 1 else zq_cv p a b c) else (zq_cv p a b c, zq_cv q a b c)
def zq_good (D r R C : Nat) : Prop := 1 ≤ R ∧ R ≤ D ∧ 1 ≤ C ∧ C ≤ D ∧ (r ≠ 2 → R = 1) ∧ (r = 0 → C = 1) ∧ r ≤ 2
theorem zq_neg {x : Int32} (h : x < 0) (h3 : -3 ≤ x) : x = -1 ∨ x = -2 ∨ x = -3 := by
  have e1 := Int32.lt_iff_toInt_lt.mp h
  have e2 := Int32.le_iff_toInt_le.mp h3
  rw [show (0 : Int32).toInt = 0 from by decide] at e1
  rw [show (-3 : Int32).toInt = -3 from by decide] at e2
  have e3 : x.toInt = -1 ∨ x.toInt = -2 ∨ x.toInt = -3 := by omega
  rcases e3 with e | e | e
  · exact Or.inl (Int32.toInt_inj.mp (e.trans (by decide)))
  · exact Or.inr (Or.inl (Int32.toInt_inj.mp (e.trans (by decide))))
  · exact Or.inr (Or.inr (Int32.toInt_inj.mp (e.trans (by decide))))
theorem zq_pos {d : Nat} (h1 : 1 ≤ d) (h : d < 2 ^ 31) : (0 : Int32) < nI d := nI_lt (a := 0) h1 h
theorem zq_cv_d {d a b c : Nat} (h1 : 1 ≤ d) (h : d < 2 ^ 31) : zq_cv (nI d) a b c = d := by
  unfold zq_cv
  rw [if_pos (zq_pos h1 h), nI_clamp h]
theorem zq_cv_1 {a b c : Nat} : zq_cv (-1) a b c = a := by
  unfold zq_cv
  rw [if_neg (by decide), if_pos rfl]
theorem zq_cv_2 {a b c : Nat} : zq_cv (-2) a b c = b := by
  unfold zq_cv
  rw [if_neg (by decide), if_neg (by decide), if_pos rfl]
theorem zq_cv_3 {a b c : Nat} : zq_cv (-3) a b c = c := by
  unfold zq_cv
  rw [if_neg (by decide), if_neg (by decide), if_neg (by decide)]
theorem zq_code_ne {D : Nat} {x : Int32} (h6 : D ≤ 6) (h : zq_code D x) : ¬ x = 0 := by
  rcases h with ⟨d, h1, h2, rfl⟩ | rfl | rfl | rfl
  · exact nI_ne0 h1 (by omega)
  · decide
  · decide
  · decide
theorem zq_code_cv {D a b c : Nat} {x : Int32} (h6 : D ≤ 6) (h : zq_code D x) (ha : 1 ≤ a ∧ a ≤ D) (hb : 1 ≤ b ∧ b ≤ D) (hc : 1 ≤ c ∧ c ≤ D) : 1 ≤ zq_cv x a b c ∧ zq_cv x a b c ≤ D := by
  rcases h with ⟨d, h1, h2, rfl⟩ | rfl | rfl | rfl
  · rw [zq_cv_d h1 (by omega)]
    exact ⟨h1, h2⟩
  · rw [zq_cv_1]; exact ha
  · rw [zq_cv_2]; exact hb
  · rw [zq_cv_3]; exact hc
theorem zq_spec_good {D a b c : Nat} {p q : Int32} (h2 : 2 ≤ D) (h6 : D ≤ 6) (h : zq_spec D p q) (ha : 1 ≤ a ∧ a ≤ D) (hb : 1 ≤ b ∧ b ≤ D) (hc : 1 ≤ c ∧ c ≤ D) : zq_good D (zq_sr p q) (zq_sp p q a b c).1 (zq_sp p q a b c).2 := by
  unfold zq_good zq_sr zq_sp
  rcases h with ⟨rfl, rfl⟩ | ⟨h, rfl⟩ | ⟨h, h'⟩
  · rw [if_pos rfl, if_pos rfl, if_pos rfl]
    dsimp only
    omega
  · have e := zq_code_cv h6 h ha hb hc
    rw [if_neg (zq_code_ne h6 h), if_pos rfl, if_pos rfl, if_neg (zq_code_ne h6 h)]
    dsimp only
    omega
  · have e := zq_code_cv h6 h ha hb hc
    have e' := zq_code_cv h6 h' ha hb hc
    simp only [if_neg (zq_code_ne h6 h), if_neg (zq_code_ne h6 h')]
    omega
/-! a node: kind and arguments against the ranks of the nodes before it -/
def zq_nd (D i : Nat) (rk : Nat → Nat) (k x y z : Int32) : Prop :=
  (k = 1 ∧ zq_spec D x y ∧ rk i = zq_sr x y) ∨
  (∃ p q, p < i ∧ q < i ∧ x = nI p ∧ y = nI q ∧ (k = 2 ∨ k = 3) ∧ rk i = max (rk p) (rk q)) ∨
  (∃ p q, p < i ∧ q < i ∧ x = nI p ∧ y = nI q ∧ k = 4 ∧ rk p = 2 ∧ rk q = 2 ∧ rk i = 2) ∨
  (∃ p, p < i ∧ x = nI p ∧ k = 5 ∧ rk i = rk p) ∨
  (∃ p, p < i ∧ x = nI p ∧ k = 6 ∧ zq_spec D y z ∧ rk i = zq_sr y z) ∨
  (∃ p s, p < i ∧ x = nI p ∧ k = 7 ∧ y = nI s ∧ s < rk p ∧ rk i + 1 = rk p)
/-- the shape of a node (rows, columns), or none: the node traps -/
def zq_ru (k x y z : Int32) (a b c : Nat) (rk R C : Nat → Nat) : Option (Nat × Nat) :=
  if k = 1 then some (zq_sp x y a b c)
  else if k = 2 ∨ k = 3 then
    (if (R x.toNatClampNeg = R y.toNatClampNeg ∨ R x.toNatClampNeg = 1 ∨ R y.toNatClampNeg = 1) ∧ (C x.toNatClampNeg = C y.toNatClampNeg ∨ C x.toNatClampNeg = 1 ∨ C y.toNatClampNeg = 1)
     then some (if R x.toNatClampNeg = 1 then R y.toNatClampNeg else R x.toNatClampNeg, if C x.toNatClampNeg = 1 then C y.toNatClampNeg else C x.toNatClampNeg) else none)
  else if k = 4 then (if C x.toNatClampNeg = R y.toNatClampNeg then some (R x.toNatClampNeg, C y.toNatClampNeg) else none)
  else if k = 5 then some (if rk x.toNatClampNeg = 2 then (C x.toNatClampNeg, R x.toNatClampNeg) else (R x.toNatClampNeg, C x.toNatClampNeg))
  else if k = 6 then (if (zq_sp y z a b c).1 * (zq_sp y z a b c).2 = R x.toNatClampNeg * C x.toNatClampNeg then some (zq_sp y z a b c) else none)
  else some (1, if rk x.toNatClampNeg = 2 ∧ y = 0 then C x.toNatClampNeg else R x.toNatClampNeg)
theorem zq_ru1 {x y z : Int32} {a b c : Nat} {rk R C : Nat → Nat} : zq_ru 1 x y z a b c rk R C = some (zq_sp x y a b c) := if_pos rfl
theorem zq_ru2 {k z : Int32} {p q a b c : Nat} {rk R C : Nat → Nat} (hp : p < 2 ^ 31) (hq : q < 2 ^ 31) (hk : k = 2 ∨ k = 3) : zq_ru k (nI p) (nI q) z a b c rk R C = if (R p = R q ∨ R p = 1 ∨ R q = 1) ∧ (C p = C q ∨ C p = 1 ∨ C q = 1) then some (if R p = 1 then R q else R p, if C p = 1 then C q else C p) else none := by
  unfold zq_ru
  rw [if_neg (by rcases hk with rfl | rfl <;> decide), if_pos hk, nI_clamp hp, nI_clamp hq]
theorem zq_ru4 {z : Int32} {p q a b c : Nat} {rk R C : Nat → Nat} (hp : p < 2 ^ 31) (hq : q < 2 ^ 31) : zq_ru 4 (nI p) (nI q) z a b c rk R C = if C p = R q then some (R p, C q) else none := by
  unfold zq_ru
  rw [if_neg (by decide), if_neg (by decide), if_pos rfl, nI_clamp hp, nI_clamp hq]
theorem zq_ru5 {y z : Int32} {p a b c : Nat} {rk R C : Nat → Nat} (hp : p < 2 ^ 31) : zq_ru 5 (nI p) y z a b c rk R C = some (if rk p = 2 then (C p, R p) else (R p, C p)) := by
  unfold zq_ru
  rw [if_neg (by decide), if_neg (by decide), if_neg (by decide), if_pos rfl, nI_clamp hp]
theorem zq_ru6 {y z : Int32} {p a b c : Nat} {rk R C : Nat → Nat} (hp : p < 2 ^ 31) : zq_ru 6 (nI p) y z a b c rk R C = if (zq_sp y z a b c).1 * (zq_sp y z a b c).2 = R p * C p then some (zq_sp y z a b c) else none := by
  unfold zq_ru
  rw [if_neg (by decide), if_neg (by decide), if_neg (by decide), if_neg (by decide), if_pos rfl, nI_clamp hp]
theorem zq_ru7 {y z : Int32} {p a b c : Nat} {rk R C : Nat → Nat} (hp : p < 2 ^ 31) : zq_ru 7 (nI p) y z a b c rk R C = some (1, if rk p = 2 ∧ y = 0 then C p else R p) := by
  unfold zq_ru
  rw [if_neg (by decide), if_neg (by decide), if_neg (by decide), if_neg (by decide), if_neg (by decide), nI_clamp hp]
theorem zq_nd_2 {D i : Nat} {rk : Nat → Nat} {k x y z : Int32} (h : zq_nd D i rk k x y z) (hr : ∀ j, j < i → rk j ≤ 2) : rk i ≤ 2 := by
  have sr : ∀ p q, zq_sr p q ≤ 2 := by
    intro p q
    unfold zq_sr
    split
    · omega
    · split <;> omega
  rcases h with ⟨_, _, e⟩ | ⟨p, q, hp, hq, _, _, _, e⟩ | ⟨p, q, hp, hq, _, _, _, _, _, e⟩ | ⟨p, hp, _, _, e⟩ | ⟨p, hp, _, _, _, e⟩ | ⟨p, s, hp, _, _, _, _, e⟩
  · rw [e]; exact sr _ _
  · have := hr p hp; have := hr q hq; omega
  · omega
  · have := hr p hp; omega
  · rw [e]; exact sr _ _
  · have := hr p hp; omega
/-- ranks and shapes that agree before i -/
theorem zq_nd_c {D i : Nat} {rk rk' : Nat → Nat} {k x y z : Int32} (h : zq_nd D i rk k x y z) (e : ∀ j, j ≤ i → rk' j = rk j) : zq_nd D i rk' k x y z := by
  rcases h with ⟨h1, h2, h3⟩ | ⟨p, q, hp, hq, h1, h2, h3, h4⟩ | ⟨p, q, hp, hq, h1, h2, h3, h4, h5, h6⟩ | ⟨p, hp, h1, h2, h3⟩ | ⟨p, hp, h1, h2, h3, h4⟩ | ⟨p, s, hp, h1, h2, h3, h4, h5⟩
  · exact Or.inl ⟨h1, h2, by rw [e i (by omega)]; exact h3⟩
  · exact Or.inr (Or.inl ⟨p, q, hp, hq, h1, h2, h3, by rw [e i (by omega), e p (by omega), e q (by omega)]; exact h4⟩)
  · exact Or.inr (Or.inr (Or.inl ⟨p, q, hp, hq, h1, h2, h3, by rw [e p (by omega)]; exact h4, by rw [e q (by omega)]; exact h5, by rw [e i (by omega)]; exact h6⟩))
  · exact Or.inr (Or.inr (Or.inr (Or.inl ⟨p, hp, h1, h2, by rw [e i (by omega), e p (by omega)]; exact h3⟩)))
  · exact Or.inr (Or.inr (Or.inr (Or.inr (Or.inl ⟨p, hp, h1, h2, h3, by rw [e i (by omega)]; exact h4⟩))))
  · exact Or.inr (Or.inr (Or.inr (Or.inr (Or.inr ⟨p, s, hp, h1, h2, h3, by rw [e p (by omega)]; exact h4, by rw [e i (by omega), e p (by omega)]; exact h5⟩))))
theorem zq_ru_c {D i a b c : Nat} {rk rk' R R' C C' : Nat → Nat} {k x y z : Int32} (hi : i < 2 ^ 31) (h : zq_nd D i rk k x y z) (e : ∀ j, j < i → rk' j = rk j) (eR : ∀ j, j < i → R' j = R j) (eC : ∀ j, j < i → C' j = C j) : zq_ru k x y z a b c rk' R' C' = zq_ru k x y z a b c rk R C := by
  rcases h with ⟨rfl, h2, h3⟩ | ⟨p, q, hp, hq, rfl, rfl, h3, h4⟩ | ⟨p, q, hp, hq, rfl, rfl, rfl, h4, h5, h6⟩ | ⟨p, hp, rfl, rfl, h3⟩ | ⟨p, hp, rfl, rfl, h3, h4⟩ | ⟨p, s, hp, rfl, rfl, h3, h4, h5⟩
  · rw [zq_ru1, zq_ru1]
  · rw [zq_ru2 (by omega) (by omega) h3, zq_ru2 (by omega) (by omega) h3, eR p hp, eR q hq, eC p hp, eC q hq]
  · rw [zq_ru4 (by omega) (by omega), zq_ru4 (by omega) (by omega), eR p hp, eR q hq, eC p hp, eC q hq]
  · rw [zq_ru5 (by omega), zq_ru5 (by omega), eR p hp, eC p hp, e p hp]
  · rw [zq_ru6 (by omega), zq_ru6 (by omega), eR p hp, eC p hp]
  · rw [zq_ru7 (by omega), zq_ru7 (by omega), eR p hp, eC p hp, e p hp]
theorem zq_ru_good {D i a b c r s : Nat} {rk R C : Nat → Nat} {k x y z : Int32} (h2 : 2 ≤ D) (h6 : D ≤ 6) (hi : i < 2 ^ 31) (ha : 1 ≤ a ∧ a ≤ D) (hb : 1 ≤ b ∧ b ≤ D) (hc : 1 ≤ c ∧ c ≤ D) (h : zq_nd D i rk k x y z) (hg : ∀ j, j < i → zq_good D (rk j) (R j) (C j)) (e : zq_ru k x y z a b c rk R C = some (r, s)) : zq_good D (rk i) r s := by
  rcases h with ⟨rfl, h3, h4⟩ | ⟨p, q, hp, hq, rfl, rfl, h3, h4⟩ | ⟨p, q, hp, hq, rfl, rfl, rfl, h4, h5, h7⟩ | ⟨p, hp, rfl, rfl, h3⟩ | ⟨p, hp, rfl, rfl, h3, h4⟩ | ⟨p, t, hp, rfl, rfl, h3, h4, h5⟩
  · rw [zq_ru1] at e
    have g := zq_spec_good h2 h6 h3 ha hb hc
    rw [Option.some.inj e, ← h4] at g
    exact g
  · rw [zq_ru2 (by omega) (by omega) h3] at e
    have gp := hg p hp
    have gq := hg q hq
    unfold zq_good at gp gq ⊢
    split at e
    · cases e
      split <;> split <;> omega
    · cases e
  · rw [zq_ru4 (by omega) (by omega)] at e
    have gp := hg p hp
    have gq := hg q hq
    unfold zq_good at gp gq ⊢
    split at e
    · cases e
      omega
    · cases e
  · rw [zq_ru5 (by omega)] at e
    have gp := hg p hp
    unfold zq_good at gp ⊢
    split at e
    · cases e
      omega
    · cases e
      omega
  · rw [zq_ru6 (by omega)] at e
    have g := zq_spec_good h2 h6 h3 ha hb hc
    split at e
    · rw [Option.some.inj e, ← h4] at g
      exact g
    · cases e
  · rw [zq_ru7 (by omega)] at e
    have gp := hg p hp
    unfold zq_good at gp ⊢
    cases e
    split <;> omega
/-! left aligned sizes, as the reference holds them -/
def zq_l0 (r R C : Nat) : Nat := if r = 2 then R else C
def zq_l1 (r C : Nat) : Nat := if r = 2 then C else 1
/-- the shapes of the first t nodes under a, b, c; t is the trap, or all of them -/
def zq_sh (D n : Nat) (K X Y Z : Nat → Int32) (rk : Nat → Nat) (a b c t : Nat) (R C : Nat → Nat) : Prop :=
  t ≤ n ∧ (∀ i, i < t → zq_good D (rk i) (R i) (C i) ∧ zq_ru (K i) (X i) (Y i) (Z i) a b c rk R C = some (R i, C i)) ∧ (t < n → zq_ru (K t) (X t) (Y t) (Z t) a b c rk R C = none)
/-! values -/
def zq_fo (f : (Nat → Int32) → Nat → Int32) (b : Nat) (v : Nat → Int32) : Nat → (Nat → Int32)
  | 0 => v
  | e + 1 => upd (zq_fo f b v e) (b + e) (f (zq_fo f b v e) e)
def zq_sm (f : Nat → Int32) : Nat → Int32
  | 0 => 0
  | e + 1 => zq_sm f e + f e
def zq_bi (R C i j : Nat) : Nat := (if R = 1 then 0 else i) * C + (if C = 1 then 0 else j)
def zq_op (k a b : Int32) : Int32 := if k = 2 then a + b else a * b
def zq_fin (d : Nat → Int32) (b : Nat) (_ : Nat → Int32) (e : Nat) : Int32 := d (b + e)
def zq_fcp (p : Nat) (v : Nat → Int32) (e : Nat) : Int32 := v (p * 36 + e)
def zq_fbc (k : Int32) (p q Rp Cp Rq Cq C : Nat) (v : Nat → Int32) (e : Nat) : Int32 := zq_op k (v (p * 36 + zq_bi Rp Cp (e / C) (e % C))) (v (q * 36 + zq_bi Rq Cq (e / C) (e % C)))
def zq_fmm (p q m C : Nat) (v : Nat → Int32) (e : Nat) : Int32 := zq_sm (fun t => v (p * 36 + e / C * m + t) * v (q * 36 + t * C + e % C)) m
def zq_ftr (p R C : Nat) (v : Nat → Int32) (e : Nat) : Int32 := v (p * 36 + e % C * R + e / C)
def zq_fsc (p R C : Nat) (v : Nat → Int32) (e : Nat) : Int32 := zq_sm (fun t => v (p * 36 + t * C + e)) R
def zq_fsr (p C : Nat) (v : Nat → Int32) (e : Nat) : Int32 := zq_sm (fun t => v (p * 36 + e * C + t)) C
theorem zq_dm {i j C : Nat} (h : j < C) : (i * C + j) / C = i ∧ (i * C + j) % C = j := by
  have h0 : 0 < C := by omega
  constructor
  · rw [Nat.mul_comm, Nat.mul_add_div h0, Nat.div_eq_of_lt h]; omega
  · rw [Nat.mul_comm, Nat.mul_add_mod]; exact Nat.mod_eq_of_lt h
