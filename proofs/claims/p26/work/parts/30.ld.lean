/-! What lies where: nothing of the class's in the cells that the law's own rows take, nor below, nor beyond. -/
def LDp (lo : Nat) (h : TH) : Prop := lo + 11 ≤ t_sz h ∧ (∀ a, (a + 8 < lo ∨ (lo ≤ a ∧ a < lo + 11)) → t_kd h a = 0) ∧ ∀ a, t_sz h ≤ a → t_kd h a = 0
