/-! the value rule of a node: pure -/
def zq_f (k x y : Int32) (i : Nat) (d : Nat → Int32) (rk R C : Nat → Nat) : (Nat → Int32) → Nat → Int32 :=
  if k = 1 then zq_fin d (i * 36)
  else if k = 2 ∨ k = 3 then zq_fbc k x.toNatClampNeg y.toNatClampNeg (R x.toNatClampNeg) (C x.toNatClampNeg) (R y.toNatClampNeg) (C y.toNatClampNeg) (C i)
  else if k = 4 then zq_fmm x.toNatClampNeg y.toNatClampNeg (C x.toNatClampNeg) (C i)
  else if k = 5 then (if rk x.toNatClampNeg = 2 then zq_ftr x.toNatClampNeg (R i) (C i) else zq_fcp x.toNatClampNeg)
  else if k = 6 then zq_fcp x.toNatClampNeg
  else (if rk x.toNatClampNeg = 2 ∧ y = 0 then zq_fsc x.toNatClampNeg (R x.toNatClampNeg) (C x.toNatClampNeg) else zq_fsr x.toNatClampNeg (C x.toNatClampNeg))
section
variable {x y k : Int32} {p q i : Nat} {d : Nat → Int32} {rk R C : Nat → Nat}
theorem zq_f1 : zq_f 1 x y i d rk R C = zq_fin d (i * 36) := if_pos rfl
theorem zq_f2 (hp : p < 2 ^ 31) (hq : q < 2 ^ 31) (hk : k = 2 ∨ k = 3) : zq_f k (nI p) (nI q) i d rk R C = zq_fbc k p q (R p) (C p) (R q) (C q) (C i) := by
  unfold zq_f
  rw [if_neg (by rcases hk with rfl | rfl <;> decide), if_pos hk, nI_clamp hp, nI_clamp hq]
theorem zq_f4 (hp : p < 2 ^ 31) (hq : q < 2 ^ 31) : zq_f 4 (nI p) (nI q) i d rk R C = zq_fmm p q (C p) (C i) := by
  unfold zq_f
  rw [if_neg (by decide), if_neg (by decide), if_pos rfl, nI_clamp hp, nI_clamp hq]
theorem zq_f5t (hp : p < 2 ^ 31) (h : rk p = 2) : zq_f 5 (nI p) y i d rk R C = zq_ftr p (R i) (C i) := by
  unfold zq_f
  rw [if_neg (by decide), if_neg (by decide), if_neg (by decide), if_pos rfl, nI_clamp hp, if_pos h]
theorem zq_f5c (hp : p < 2 ^ 31) (h : ¬ rk p = 2) : zq_f 5 (nI p) y i d rk R C = zq_fcp p := by
  unfold zq_f
  rw [if_neg (by decide), if_neg (by decide), if_neg (by decide), if_pos rfl, nI_clamp hp, if_neg h]
theorem zq_f6 (hp : p < 2 ^ 31) : zq_f 6 (nI p) y i d rk R C = zq_fcp p := by
  unfold zq_f
  rw [if_neg (by decide), if_neg (by decide), if_neg (by decide), if_neg (by decide), if_pos rfl, nI_clamp hp]
theorem zq_f7c (hp : p < 2 ^ 31) (h : rk p = 2 ∧ y = 0) : zq_f 7 (nI p) y i d rk R C = zq_fsc p (R p) (C p) := by
  unfold zq_f
  rw [if_neg (by decide), if_neg (by decide), if_neg (by decide), if_neg (by decide), if_neg (by decide), nI_clamp hp, if_pos h]
theorem zq_f7r (hp : p < 2 ^ 31) (h : ¬ (rk p = 2 ∧ y = 0)) : zq_f 7 (nI p) y i d rk R C = zq_fsr p (C p) := by
  unfold zq_f
  rw [if_neg (by decide), if_neg (by decide), if_neg (by decide), if_neg (by decide), if_neg (by decide), nI_clamp hp, if_neg h]
end
/-- the elements after the first i nodes are computed -/
def zq_ev (K X Y d : Nat → Int32) (rk R C : Nat → Nat) (v : Nat → Int32) : Nat → (Nat → Int32)
  | 0 => v
  | i + 1 => zq_fo (zq_f (K i) (X i) (Y i) i d rk R C) (i * 36) (zq_ev K X Y d rk R C v i) (R i * C i)
