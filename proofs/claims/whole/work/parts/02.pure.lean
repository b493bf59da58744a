/-! pure: packed rows and their columns -/
theorem cq_or (a b : Nat) : nI a ||| nI b = nI (a ||| b) := by
  apply Int32.toBitVec_inj.1
  show BitVec.ofNat 32 a ||| BitVec.ofNat 32 b = BitVec.ofNat 32 (a ||| b)
  apply BitVec.eq_of_getLsbD_eq
  intro i hi
  simp [hi]
def cq_cl : Nat → Nat → Nat
  | 0, p => p / 16777216
  | 1, p => p / 256 % 65536
  | _, p => p % 256
theorem cq_c0 (p : Nat) : cq_cl 0 p = p / 16777216 := rfl
theorem cq_c1 (p : Nat) : cq_cl 1 p = p / 256 % 65536 := rfl
theorem cq_c2 (p : Nat) : cq_cl 2 p = p % 256 := rfl
def cq_pk (a b c : Nat) : Nat := a * 16777216 + (b * 256 + c)
theorem cq_k0 {a b c : Nat} (hb : b < 65536) (hc : c < 256) : cq_cl 0 (cq_pk a b c) = a := by
  rw [cq_c0, cq_pk]; omega
theorem cq_k1 {a b c : Nat} (hb : b < 65536) (hc : c < 256) : cq_cl 1 (cq_pk a b c) = b := by
  rw [cq_c1, cq_pk]; omega
theorem cq_k2 {a b c : Nat} (hc : c < 256) : cq_cl 2 (cq_pk a b c) = c := by
  rw [cq_c2, cq_pk]; omega
theorem cq_kk (p : Nat) : cq_pk (cq_cl 0 p) (cq_cl 1 p) (cq_cl 2 p) = p := by
  rw [cq_c0, cq_c1, cq_c2, cq_pk]; omega
theorem cq_kb {a b c : Nat} (ha : a < 16) (hb : b < 65536) (hc : c < 256) : cq_pk a b c < 268435456 := by
  rw [cq_pk]; omega
theorem cq_b0 {p : Nat} (h : p < 268435456) : cq_cl 0 p < 16 := by rw [cq_c0]; omega
theorem cq_b1 (p : Nat) : cq_cl 1 p < 65536 := by rw [cq_c1]; omega
theorem cq_b2 (p : Nat) : cq_cl 2 p < 256 := by rw [cq_c2]; omega
theorem cq_bb {p : Nat} (h : p < 268435456) {c : Nat} (hc : c < 3) : cq_cl c p < 65536 := by
  match c, hc with
  | 0, _ => exact Nat.lt_trans (cq_b0 h) (by decide)
  | 1, _ => exact cq_b1 p
  | 2, _ => exact Nat.lt_trans (cq_b2 p) (by decide)
theorem cq_eq {p q : Nat} (h0 : cq_cl 0 p = cq_cl 0 q) (h1 : cq_cl 1 p = cq_cl 1 q) (h2 : cq_cl 2 p = cq_cl 2 q) : p = q :=
  (cq_kk p).symm.trans ((by rw [h0, h1, h2] : cq_pk (cq_cl 0 p) (cq_cl 1 p) (cq_cl 2 p) = cq_pk (cq_cl 0 q) (cq_cl 1 q) (cq_cl 2 q)).trans (cq_kk q))
theorem cq_l0 {p q : Nat} (h : cq_cl 0 p < cq_cl 0 q) : p < q := by
  simp only [cq_c0] at h; omega
theorem cq_l1 {p q : Nat} (e : cq_cl 0 p = cq_cl 0 q) (h : cq_cl 1 p < cq_cl 1 q) : p < q := by
  simp only [cq_c0] at e
  simp only [cq_c1] at h
  omega
theorem cq_l2 {p q : Nat} (e : cq_cl 0 p = cq_cl 0 q) (e1 : cq_cl 1 p = cq_cl 1 q) (h : cq_cl 2 p < cq_cl 2 q) : p < q := by
  simp only [cq_c0] at e
  simp only [cq_c1] at e1
  simp only [cq_c2] at h
  omega
theorem cq_catA {n p a b c d : Nat} (hp : 2 ^ n = p) (hb : b < p) (hd : d < p) : (p * a + b) &&& (p * c + d) = p * (a &&& c) + (b &&& d) := by
  subst hp
  apply Nat.eq_of_testBit_eq
  intro j
  rw [Nat.testBit_and, Nat.testBit_two_pow_mul_add _ hb, Nat.testBit_two_pow_mul_add _ hd, Nat.testBit_two_pow_mul_add _ (Nat.and_lt_two_pow b hd)]
  by_cases h : j < n
  · simp only [if_pos h, Nat.testBit_and]
  · simp only [if_neg h, Nat.testBit_and]
theorem cq_and3 {a b c a' b' c' : Nat} (hb : b < 65536) (hc : c < 256) (hb' : b' < 65536) (hc' : c' < 256) : cq_pk a b c &&& cq_pk a' b' c' = cq_pk (a &&& a') (b &&& b') (c &&& c') := by
  have e : ∀ x y z : Nat, cq_pk x y z = 16777216 * x + (256 * y + z) := fun x y z => by unfold cq_pk; omega
  rw [e, e, e, cq_catA (n := 24) (p := 16777216) rfl (by omega) (by omega), cq_catA (n := 8) (p := 256) rfl hc hc']
theorem cq_m {a b c : Nat} (p : Nat) (hb : b < 65536) (hc : c < 256) : p &&& cq_pk a b c = cq_pk (cq_cl 0 p &&& a) (cq_cl 1 p &&& b) (cq_cl 2 p &&& c) := by
  have e := cq_and3 (a := cq_cl 0 p) (a' := a) (cq_b1 p) (cq_b2 p) hb hc
  rw [cq_kk] at e
  exact e
theorem cq_a4 {x : Nat} (h : x < 16) : x &&& 15 = x := by
  rw [show (15 : Nat) = 2 ^ 4 - 1 from rfl, Nat.and_two_pow_sub_one_eq_mod]
  exact Nat.mod_eq_of_lt h
theorem cq_a16 {x : Nat} (h : x < 65536) : x &&& 65535 = x := by
  rw [show (65535 : Nat) = 2 ^ 16 - 1 from rfl, Nat.and_two_pow_sub_one_eq_mod]
  exact Nat.mod_eq_of_lt h
theorem cq_a8 {x : Nat} (h : x < 256) : x &&& 255 = x := by
  rw [show (255 : Nat) = 2 ^ 8 - 1 from rfl, Nat.and_two_pow_sub_one_eq_mod]
  exact Nat.mod_eq_of_lt h
theorem cq_pack {a b c : Nat} (ha : a < 16) (hb : b < 65536) (hc : c < 256) : (nI a <<< ((24 : Int32) &&& 31)) ||| (nI b <<< ((8 : Int32) &&& 31)) ||| nI c = nI (cq_pk a b c) := by
  rw [pk_shlN _ 24 (by decide) (by omega), pk_shlN _ 8 (by decide) (by omega), cq_or, cq_or]
  have h1 : 2 ^ 8 * b + c = 2 ^ 8 * b ||| c := Nat.two_pow_add_eq_or_of_lt hc b
  have h2 : 2 ^ 24 * a + (2 ^ 8 * b + c) = 2 ^ 24 * a ||| (2 ^ 8 * b + c) := Nat.two_pow_add_eq_or_of_lt (by omega) a
  rw [Nat.or_assoc, Nat.mul_comm b, ← h1, Nat.mul_comm a, ← h2]
  exact congrArg nI (by unfold cq_pk; omega)
theorem cq_M0 : (251658240 : Int32) = nI (cq_pk 15 0 0) := by decide
theorem cq_M1 : (16776960 : Int32) = nI (cq_pk 0 65535 0) := by decide
theorem cq_M2 : (255 : Int32) = nI (cq_pk 0 0 255) := by decide
theorem cq_col0 {p : Nat} (h : p < 268435456) : (nI p &&& 251658240) >>> ((24 : Int32) &&& 31) = nI (cq_cl 0 p) := by
  rw [cq_M0, nx_and, cq_m p (by decide) (by decide), cq_a4 (cq_b0 h), Nat.and_zero, Nat.and_zero]
  have hb := cq_b0 h
  rw [pk_shrN (Nat.lt_trans (cq_kb hb (by decide) (by decide)) (by decide)) _ 24 (by decide)]
  exact congrArg nI (by unfold cq_pk; omega)
theorem cq_col1 {p : Nat} (h : p < 268435456) : (nI p &&& 16776960) >>> ((8 : Int32) &&& 31) = nI (cq_cl 1 p) := by
  rw [cq_M1, nx_and, cq_m p (by decide) (by decide), cq_a16 (cq_b1 p), Nat.and_zero, Nat.and_zero]
  rw [pk_shrN (Nat.lt_trans (cq_kb (by decide) (cq_b1 p) (by decide)) (by decide)) _ 8 (by decide)]
  exact congrArg nI (by unfold cq_pk; omega)
theorem cq_col2 (p : Nat) : nI p &&& 255 = nI (cq_cl 2 p) := by
  rw [cq_M2, nx_and, cq_m p (by decide) (by decide), cq_a8 (cq_b2 p), Nat.and_zero, Nat.and_zero]
  exact congrArg nI (by unfold cq_pk; omega)
/-! the projection -/
def cq_mk (m : Nat) : Nat := cq_pk (if m % 2 = 1 then 15 else 0) (if m / 2 % 2 = 1 then 65535 else 0) (if m / 4 % 2 = 1 then 255 else 0)
def cq_pr (m p : Nat) : Nat := p &&& cq_mk m
theorem cq_prE (m p : Nat) : cq_pr m p = cq_pk (cq_cl 0 p &&& (if m % 2 = 1 then 15 else 0)) (cq_cl 1 p &&& (if m / 2 % 2 = 1 then 65535 else 0)) (cq_cl 2 p &&& (if m / 4 % 2 = 1 then 255 else 0)) := by
  unfold cq_pr cq_mk
  exact cq_m p (by split <;> decide) (by split <;> decide)
theorem cq_prb {m p : Nat} (h : p < 268435456) : cq_pr m p < 268435456 := Nat.lt_of_le_of_lt Nat.and_le_left h
theorem cq_pr0 {m p : Nat} (h : p < 268435456) : cq_cl 0 (cq_pr m p) = if m % 2 = 1 then cq_cl 0 p else 0 := by
  rw [cq_prE, cq_k0 (Nat.lt_of_le_of_lt Nat.and_le_left (cq_b1 p)) (Nat.lt_of_le_of_lt Nat.and_le_left (cq_b2 p))]
  split
  · exact cq_a4 (cq_b0 h)
  · exact Nat.and_zero _
theorem cq_pr1 (m p : Nat) : cq_cl 1 (cq_pr m p) = if m / 2 % 2 = 1 then cq_cl 1 p else 0 := by
  rw [cq_prE, cq_k1 (Nat.lt_of_le_of_lt Nat.and_le_left (cq_b1 p)) (Nat.lt_of_le_of_lt Nat.and_le_left (cq_b2 p))]
  split
  · exact cq_a16 (cq_b1 p)
  · exact Nat.and_zero _
theorem cq_pr2 (m p : Nat) : cq_cl 2 (cq_pr m p) = if m / 4 % 2 = 1 then cq_cl 2 p else 0 := by
  rw [cq_prE, cq_k2 (Nat.lt_of_le_of_lt Nat.and_le_left (cq_b2 p))]
  split
  · exact cq_a8 (cq_b2 p)
  · exact Nat.and_zero _
/-! a list that lies in cells from o on -/
def cq_S (P : Nat → Nat → Prop) (o : Nat) (L : List Nat) : Prop := ∀ i, i < L.length → P (o + i) (L.getD i 0)
theorem cq_gl {A B : List Nat} {i : Nat} (h : i < A.length) : (A ++ B).getD i 0 = A.getD i 0 := by
  rw [List.getD_eq_getElem?_getD, List.getD_eq_getElem?_getD, List.getElem?_append_left h]
theorem cq_ge {A : List Nat} {x : Nat} : (A ++ [x]).getD A.length 0 = x := by
  rw [List.getD_eq_getElem?_getD, List.getElem?_append_right (Nat.le_refl _)]
  simp
theorem cq_gd {L : List Nat} {i : Nat} (h : i < L.length) : L.getD i 0 = L[i] := by
  rw [List.getD_eq_getElem?_getD, List.getElem?_eq_getElem h]
  rfl
theorem cq_gm {L : List Nat} {i : Nat} (h : i < L.length) : L.getD i 0 ∈ L := by
  rw [cq_gd h]; exact List.getElem_mem h
theorem cq_dr {L : List Nat} {i : Nat} (h : i < L.length) : L.drop i = L.getD i 0 :: L.drop (i + 1) := by
  rw [List.drop_eq_getElem_cons h, cq_gd h]
theorem cq_tk {L : List Nat} {i : Nat} (h : i < L.length) : L.take (i + 1) = L.take i ++ [L.getD i 0] := by
  rw [List.take_succ_eq_append_getElem h, cq_gd h]
theorem cq_gmap {L : List Nat} {f : Nat → Nat} {i : Nat} (h : i < L.length) : (L.map f).getD i 0 = f (L.getD i 0) := by
  rw [cq_gd (by rw [List.length_map]; exact h), List.getElem_map, cq_gd h]
theorem cq_snoc {P Q : Nat → Nat → Prop} {o x : Nat} {L : List Nat} (h : cq_S P o L) (hi : ∀ j y, o ≤ j → j < o + L.length → P j y → Q j y) (hx : Q (o + L.length) x) : cq_S Q o (L ++ [x]) := by
  intro i hi'
  rw [List.length_append, List.length_singleton] at hi'
  by_cases e : i < L.length
  · rw [cq_gl e]
    exact hi _ _ (by omega) (by omega) (h i e)
  · have e2 : i = L.length := by omega
    subst e2
    rw [cq_ge]
    exact hx
theorem cq_imp {P Q : Nat → Nat → Prop} {o : Nat} {L : List Nat} (h : cq_S P o L) (hi : ∀ j y, o ≤ j → j < o + L.length → P j y → Q j y) : cq_S Q o L :=
  fun i hi' => hi _ _ (by omega) (by omega) (h i hi')
theorem cq_nil (P : Nat → Nat → Prop) (o : Nat) : cq_S P o [] := fun i h => absurd h (Nat.not_lt_zero i)
def cq_X (a : Nat → Int32) (o x : Nat) : Prop := a o = nI x
def cq_Y (r : Nat → Int32) (o x : Nat) : Prop := r (o * 3) = nI (cq_cl 0 x) ∧ r (o * 3 + 1) = nI (cq_cl 1 x) ∧ r (o * 3 + 2) = nI (cq_cl 2 x)
theorem cq_Yc {r : Nat → Int32} {o x c : Nat} (h : cq_Y r o x) (hc : c < 3) : r (o * 3 + c) = nI (cq_cl c x) := by
  match c, hc with
  | 0, _ => exact h.1
  | 1, _ => exact h.2.1
  | 2, _ => exact h.2.2
def cq_y3 (r : Nat → Int32) (o x : Nat) : Nat → Int32 := upd (upd (upd r (o * 3) (nI (cq_cl 0 x))) (o * 3 + 1) (nI (cq_cl 1 x))) (o * 3 + 2) (nI (cq_cl 2 x))
theorem cq_ys {r : Nat → Int32} {o x : Nat} : cq_Y (cq_y3 r o x) o x := by
  unfold cq_Y cq_y3
  refine ⟨?_, ?_, ?_⟩
  · rw [pk_un (by omega), pk_un (by omega), pk_us]
  · rw [pk_un (by omega), pk_us]
  · rw [pk_us]
theorem cq_yn {r : Nat → Int32} {o x o' y : Nat} (h : o' ≠ o) (hy : cq_Y r o' y) : cq_Y (cq_y3 r o x) o' y := by
  unfold cq_Y at hy ⊢
  unfold cq_y3
  refine ⟨?_, ?_, ?_⟩
  · rw [pk_un (by omega), pk_un (by omega), pk_un (by omega)]; exact hy.1
  · rw [pk_un (by omega), pk_un (by omega), pk_un (by omega)]; exact hy.2.1
  · rw [pk_un (by omega), pk_un (by omega), pk_un (by omega)]; exact hy.2.2
theorem cq_Xapp {a : Nat → Int32} {L : List Nat} {x : Nat} (h : cq_S (cq_X a) 0 L) : cq_S (cq_X (upd a L.length (nI x))) 0 (L ++ [x]) := by
  refine cq_snoc h (fun j y h1 h2 h3 => ?_) ?_
  · show upd a L.length (nI x) j = nI y
    rw [pk_un (by omega)]; exact h3
  · show upd a L.length (nI x) (0 + L.length) = nI x
    rw [Nat.zero_add, pk_us]
theorem cq_Xg {a : Nat → Int32} {L : List Nat} {i : Nat} (h : cq_S (cq_X a) 0 L) (hi : i < L.length) : a i = nI (L.getD i 0) := by
  have := h i hi
  rw [Nat.zero_add] at this
  exact this
theorem cq_Yapp {r : Nat → Int32} {L : List Nat} {o x : Nat} (h : cq_S (cq_Y r) o L) : cq_S (cq_Y (cq_y3 r (o + L.length) x)) o (L ++ [x]) :=
  cq_snoc h (fun _ _ _ h2 h3 => cq_yn (by omega) h3) cq_ys
theorem cq_Yoth {r : Nat → Int32} {L : List Nat} {o o' x : Nat} (h : cq_S (cq_Y r) o L) (hd : o' < o ∨ o + L.length ≤ o') : cq_S (cq_Y (cq_y3 r o' x)) o L :=
  cq_imp h (fun _ _ h1 h2 h3 => cq_yn (by omega) h3)
/-! every cell of a store within a bound -/
def cq_ok (b : Nat) (a : Nat → Int32) : Prop := ∀ i, ∃ k, k < b ∧ a i = nI k
theorem cq_okU {b k p : Nat} {a : Nat → Int32} (h : cq_ok b a) (hk : k < b) : cq_ok b (upd a p (nI k)) := by
  intro i
  by_cases e : i = p
  · exact ⟨k, hk, by rw [e, pk_us]⟩
  · obtain ⟨k', h1, h2⟩ := h i
    exact ⟨k', h1, by rw [pk_un e, h2]⟩
theorem cq_okM {b p q : Nat} {a : Nat → Int32} (h : cq_ok b a) : cq_ok b (upd a p (a q)) := by
  obtain ⟨k, h1, h2⟩ := h q
  rw [h2]
  exact cq_okU h h1
theorem cq_okK {b : Nat} {a : Nat → Int32} (h : cq_ok b a) (hb : b < 2 ^ 31) (i : Nat) : a i = nI (a i).toNatClampNeg ∧ (a i).toNatClampNeg < b := by
  obtain ⟨k, h1, h2⟩ := h i
  rw [h2, nI_clamp (by omega)]
  exact ⟨rfl, h1⟩
theorem cq_ok0 {b : Nat} (h : 0 < b) : cq_ok b (fun _ => 0) := fun _ => ⟨0, h, nI_0.symm⟩
