/-! the stores: what leaves and what stays -/
def cq_ex (b : Nat) (lim : Int32) (t k v : Nat → Int32) : Nat → (Nat → Int32) × (Nat → Int32) × (Nat → Int32) × Nat
  | 0 => (t, k, v, 0)
  | i + 1 =>
    if lim < (cq_ex b lim t k v i).1 (b + i) then
      (upd (cq_ex b lim t k v i).1 (b + (cq_ex b lim t k v i).2.2.2) ((cq_ex b lim t k v i).1 (b + i)),
       upd (cq_ex b lim t k v i).2.1 (b + (cq_ex b lim t k v i).2.2.2) ((cq_ex b lim t k v i).2.1 (b + i)),
       upd (cq_ex b lim t k v i).2.2.1 (b + (cq_ex b lim t k v i).2.2.2) ((cq_ex b lim t k v i).2.2.1 (b + i)),
       (cq_ex b lim t k v i).2.2.2 + 1)
    else cq_ex b lim t k v i
theorem cq_ext {b : Nat} {lim : Int32} {t k v : Nat → Int32} {i : Nat} (h : lim < (cq_ex b lim t k v i).1 (b + i)) : cq_ex b lim t k v (i + 1) = (upd (cq_ex b lim t k v i).1 (b + (cq_ex b lim t k v i).2.2.2) ((cq_ex b lim t k v i).1 (b + i)), upd (cq_ex b lim t k v i).2.1 (b + (cq_ex b lim t k v i).2.2.2) ((cq_ex b lim t k v i).2.1 (b + i)), upd (cq_ex b lim t k v i).2.2.1 (b + (cq_ex b lim t k v i).2.2.2) ((cq_ex b lim t k v i).2.2.1 (b + i)), (cq_ex b lim t k v i).2.2.2 + 1) := by
  rw [cq_ex, if_pos h]
theorem cq_exf {b : Nat} {lim : Int32} {t k v : Nat → Int32} {i : Nat} (h : ¬ lim < (cq_ex b lim t k v i).1 (b + i)) : cq_ex b lim t k v (i + 1) = cq_ex b lim t k v i := by
  rw [cq_ex, if_neg h]
theorem cq_exl (b : Nat) (lim : Int32) (t k v : Nat → Int32) : ∀ i, (cq_ex b lim t k v i).2.2.2 ≤ i
  | 0 => Nat.le_refl _
  | i + 1 => by
    have := cq_exl b lim t k v i
    by_cases h : lim < (cq_ex b lim t k v i).1 (b + i)
    · rw [cq_ext h]
      show _ + 1 ≤ i + 1
      omega
    · rw [cq_exf h]; omega
theorem cq_exk {b : Nat} {lim : Int32} {t k v : Nat → Int32} (hk : cq_ok 16 k) (hv : cq_ok 256 v) : ∀ i, cq_ok 16 (cq_ex b lim t k v i).2.1 ∧ cq_ok 256 (cq_ex b lim t k v i).2.2.1
  | 0 => ⟨hk, hv⟩
  | i + 1 => by
    have ⟨h1, h2⟩ := cq_exk (b := b) (lim := lim) (t := t) hk hv i
    by_cases h : lim < (cq_ex b lim t k v i).1 (b + i)
    · rw [cq_ext h]
      exact ⟨cq_okM h1, cq_okM h2⟩
    · rw [cq_exf h]
      exact ⟨h1, h2⟩
def cq_rm (b : Nat) (a : Nat → Int32) : Nat → (Nat → Int32)
  | 0 => a
  | i + 1 => upd (cq_rm b a i) (b + i) (cq_rm b a i (b + i + 1))
theorem cq_rmk {b c : Nat} {a : Nat → Int32} (h : cq_ok c a) : ∀ i, cq_ok c (cq_rm b a i)
  | 0 => h
  | i + 1 => by
    rw [cq_rm]
    exact cq_okM (cq_rmk h i)
