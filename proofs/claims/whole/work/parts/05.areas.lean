/-! the reference's four areas: area a holds the list L, its count says so -/
def cq_ar (rs ct : Nat → Int32) (a : Nat) (L : List Nat) : Prop := cq_S (cq_Y rs) (a * 144) L ∧ ct a = nI L.length ∧ L.length ≤ 144
def cq_pv (t : Nat) (rs ct rs' ct' : Nat → Int32) : Prop := ∀ a L, a ≠ t → cq_ar rs ct a L → cq_ar rs' ct' a L
theorem cq_pvr {t : Nat} {rs ct : Nat → Int32} : cq_pv t rs ct rs ct := fun _ _ _ h => h
theorem cq_pvt {t : Nat} {a b c d e f : Nat → Int32} (h1 : cq_pv t a b c d) (h2 : cq_pv t c d e f) : cq_pv t a b e f := fun x L n h => h2 x L n (h1 x L n h)
theorem cq_arP {rs ct : Nat → Int32} {a x : Nat} {L : List Nat} (h : cq_ar rs ct a L) (hl : L.length < 144) : cq_ar (cq_y3 rs (a * 144 + L.length) x) (upd ct a (nI (L.length + 1))) a (L ++ [x]) :=
  ⟨cq_Yapp h.1, by rw [pk_us, List.length_append, List.length_singleton], by rw [List.length_append, List.length_singleton]; omega⟩
theorem cq_pvP {rs ct : Nat → Int32} {t n x : Nat} {v : Int32} (hn : n < 144) : cq_pv t rs ct (cq_y3 rs (t * 144 + n) x) (upd ct t v) := by
  intro a L ha h
  have hl := h.2.2
  refine ⟨cq_Yoth h.1 ?_, ?_, hl⟩
  · omega
  · rw [pk_un ha]; exact h.2.1
theorem cq_ar0 {rs ct : Nat → Int32} {a : Nat} : cq_ar rs (upd ct a 0) a [] :=
  ⟨cq_nil _ _, by rw [pk_us]; exact nI_0.symm, Nat.zero_le _⟩
theorem cq_pv0 {rs ct : Nat → Int32} {t : Nat} {v : Int32} : cq_pv t rs ct rs (upd ct t v) := by
  intro a L ha h
  exact ⟨h.1, by rw [pk_un ha]; exact h.2.1, h.2.2⟩
theorem cq_arY {rs ct : Nat → Int32} {a i : Nat} {L : List Nat} (h : cq_ar rs ct a L) (hi : i < L.length) : cq_Y rs (a * 144 + i) (L.getD i 0) := h.1 i hi
/-! the exchange of two rows, column by column -/
def cq_s1 (rs : Nat → Int32) (o1 o2 c : Nat) : Nat → Int32 := upd (upd rs (o1 * 3 + c) (rs (o2 * 3 + c))) (o2 * 3 + c) (rs (o1 * 3 + c))
theorem cq_s1a {rs : Nat → Int32} {o1 o2 c j : Nat} (h : o1 ≠ o2) (hj : j = o1 * 3 + c) : cq_s1 rs o1 o2 c j = rs (o2 * 3 + c) := by
  unfold cq_s1
  rw [pk_un (by omega), hj, pk_us]
theorem cq_s1b {rs : Nat → Int32} {o1 o2 c j : Nat} (hj : j = o2 * 3 + c) : cq_s1 rs o1 o2 c j = rs (o1 * 3 + c) := by
  unfold cq_s1
  rw [hj, pk_us]
theorem cq_s1c {rs : Nat → Int32} {o1 o2 c j : Nat} (h1 : j ≠ o1 * 3 + c) (h2 : j ≠ o2 * 3 + c) : cq_s1 rs o1 o2 c j = rs j := by
  unfold cq_s1
  rw [pk_un h2, pk_un h1]
def cq_s3 (rs : Nat → Int32) (o1 o2 : Nat) : Nat → Int32 := cq_s1 (cq_s1 (cq_s1 rs o1 o2 0) o1 o2 1) o1 o2 2
theorem cq_s3a {rs : Nat → Int32} {o1 o2 y : Nat} (h : o1 ≠ o2) (hy : cq_Y rs o2 y) : cq_Y (cq_s3 rs o1 o2) o1 y := by
  unfold cq_Y at hy ⊢
  unfold cq_s3
  refine ⟨?_, ?_, ?_⟩
  · rw [cq_s1c (by omega) (by omega), cq_s1c (by omega) (by omega), cq_s1a h (by omega)]; exact hy.1
  · rw [cq_s1c (by omega) (by omega), cq_s1a h (by omega), cq_s1c (by omega) (by omega)]; exact hy.2.1
  · rw [cq_s1a h (by omega), cq_s1c (by omega) (by omega), cq_s1c (by omega) (by omega)]; exact hy.2.2
theorem cq_s3b {rs : Nat → Int32} {o1 o2 x : Nat} (h : o1 ≠ o2) (hx : cq_Y rs o1 x) : cq_Y (cq_s3 rs o1 o2) o2 x := by
  unfold cq_Y at hx ⊢
  unfold cq_s3
  refine ⟨?_, ?_, ?_⟩
  · rw [cq_s1c (by omega) (by omega), cq_s1c (by omega) (by omega), cq_s1b (by omega)]; exact hx.1
  · rw [cq_s1c (by omega) (by omega), cq_s1b (by omega), cq_s1c (by omega) (by omega)]; exact hx.2.1
  · rw [cq_s1b (by omega), cq_s1c (by omega) (by omega), cq_s1c (by omega) (by omega)]; exact hx.2.2
theorem cq_s3c {rs : Nat → Int32} {o1 o2 o z : Nat} (h1 : o ≠ o1) (h2 : o ≠ o2) (hz : cq_Y rs o z) : cq_Y (cq_s3 rs o1 o2) o z := by
  unfold cq_Y at hz ⊢
  unfold cq_s3
  refine ⟨?_, ?_, ?_⟩
  · rw [cq_s1c (by omega) (by omega), cq_s1c (by omega) (by omega), cq_s1c (by omega) (by omega)]; exact hz.1
  · rw [cq_s1c (by omega) (by omega), cq_s1c (by omega) (by omega), cq_s1c (by omega) (by omega)]; exact hz.2.1
  · rw [cq_s1c (by omega) (by omega), cq_s1c (by omega) (by omega), cq_s1c (by omega) (by omega)]; exact hz.2.2
theorem cq_arS {rs ct : Nat → Int32} {a n i j : Nat} {f : Nat → Nat} (hi : i < n) (hj : j < n) (hne : i ≠ j) (h : cq_ar rs ct a (cq_L n f)) : cq_ar (cq_s3 rs (a * 144 + i) (a * 144 + j)) ct a (cq_L n (cq_sw f i j)) := by
  have hc := h.2.1
  have hl := h.2.2
  rw [cq_Ll] at hc hl
  refine ⟨fun q hq => ?_, by rw [cq_Ll]; exact hc, by rw [cq_Ll]; exact hl⟩
  rw [cq_Ll] at hq
  rw [cq_Lg hq]
  have g : ∀ p, p < n → cq_Y rs (a * 144 + p) (f p) := fun p hp => by
    have e := cq_arY h (i := p) (by rw [cq_Ll]; exact hp)
    rw [cq_Lg hp] at e
    exact e
  by_cases e1 : q = i
  · subst e1
    rw [cq_sw1]
    exact cq_s3a (by omega) (g j hj)
  · by_cases e2 : q = j
    · subst e2
      rw [cq_sw2]
      exact cq_s3b (by omega) (g i hi)
    · rw [cq_sw3 e1 e2]
      exact cq_s3c (by omega) (by omega) (g q hq)
theorem cq_pvS {rs ct : Nat → Int32} {t i j : Nat} (hi : i < 144) (hj : j < 144) : cq_pv t rs ct (cq_s3 rs (t * 144 + i) (t * 144 + j)) ct := by
  intro a L ha h
  have hl := h.2.2
  exact ⟨cq_imp h.1 (fun o y h1 h2 h3 => cq_s3c (by omega) (by omega) h3), h.2.1, hl⟩
/-! a selected row goes to its place: what is ahead is settled -/
theorem cq_sel {n i m : Nat} {f : Nat → Nat} (hi : i < n) (him : i ≤ m) (hm : m < n) (J : ∀ p q, p < i → p < q → q < n → f p ≤ f q) (hmin : ∀ q, i ≤ q → q < n → f m ≤ f q) : ∀ p q, p < i + 1 → p < q → q < n → cq_sw f i m p ≤ cq_sw f i m q := by
  intro p q hp hpq hq
  have key : ∀ x, i ≤ x → x < n → f m ≤ cq_sw f i m x := by
    intro x h1 h2
    by_cases e1 : x = i
    · rw [e1, cq_sw1]; exact Nat.le_refl _
    · by_cases e2 : x = m
      · rw [e2, cq_sw2]; exact hmin i (Nat.le_refl _) hi
      · rw [cq_sw3 e1 e2]; exact hmin x h1 h2
  by_cases e : p = i
  · rw [e, cq_sw1]
    exact key q (by omega) hq
  · rw [cq_sw3 (q := p) e (by omega)]
    by_cases e1 : q = i
    · rw [e1, cq_sw1]; exact J p m (by omega) (by omega) hm
    · by_cases e2 : q = m
      · rw [e2, cq_sw2]; exact J p i (by omega) (by omega) hi
      · rw [cq_sw3 e1 e2]; exact J p q (by omega) hpq hq
/-! an inserted row moves down past a greater one -/
theorem cq_mov {i t : Nat} {f : Nat → Nat} (ht : t + 1 ≤ i) (H : ∀ p q, p < q → q ≤ i → q ≠ t + 1 → f p ≤ f q) (hgt : f (t + 1) < f t) : ∀ p q, p < q → q ≤ i → q ≠ t → cq_sw f t (t + 1) p ≤ cq_sw f t (t + 1) q := by
  intro p q hpq hq hqt
  by_cases e1 : q = t + 1
  · rw [e1, cq_sw2]
    by_cases e2 : p = t
    · rw [e2, cq_sw1]; omega
    · rw [cq_sw3 e2 (by omega)]; exact H p t (by omega) (by omega) (by omega)
  · rw [cq_sw3 hqt e1]
    by_cases e2 : p = t
    · rw [e2, cq_sw1]
      exact H (t + 1) q (by omega) hq e1
    · by_cases e3 : p = t + 1
      · rw [e3, cq_sw2]; exact H t q (by omega) hq e1
      · rw [cq_sw3 e2 e3]; exact H p q hpq hq e1
theorem cq_mov0 {i t : Nat} {f : Nat → Nat} (H : ∀ p q, p < q → q ≤ i → q ≠ t → f p ≤ f q) (ht : t ≤ i) (he : t = 0 ∨ f (t - 1) ≤ f t) : ∀ p q, p < q → q ≤ i → f p ≤ f q := by
  intro p q hpq hq
  by_cases e : q = t
  · subst e
    rcases he with h | h
    · omega
    · by_cases e2 : p = q - 1
      · rw [e2]; exact h
      · exact Nat.le_trans (H p (q - 1) (by omega) (by omega) (by omega)) h
  · exact H p q hpq hq e
